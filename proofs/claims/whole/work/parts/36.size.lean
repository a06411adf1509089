/-! sizes of terms -/
section
variable (S : Int → Int) (d : Nd) (tg : Int → Int)
def szc (n : Int) : Nat → Int
  | 0 => 1
  | j + 1 => if szc n j = -9 ∨ S (kq d tg n (j : Int)) = -9 then -9 else cap (szc n j + S (kq d tg n (j : Int)))
end
def szf (g : Sg) (d : Nd) (tg : Int → Int) : Nat → Int → Int
  | 0, _ => -9
  | f + 1, n => if nC d n < 0 then -9 else szc (szf g d tg f) d tg n (pq g d n).toNat
def Sz (g : Sg) (d : Nd) (tg : Int → Int) (n : Int) : Int := szf g d tg 100 n
theorem szc_congr {S S2 : Int → Int} {d : Nd} {tg : Int → Int} {n : Int} : ∀ (j : Nat), (∀ k : Nat, k < j → S (kq d tg n (k : Int)) = S2 (kq d tg n (k : Int))) → szc S d tg n j = szc S2 d tg n j
  | 0, _ => rfl
  | j + 1, h => by
    simp only [szc]
    rw [szc_congr j (fun k hk => h k (by omega)), h j (by omega)]
theorem szc_bd {S : Int → Int} {d : Nd} {tg : Int → Int} {n : Int} : ∀ (j : Nat), (∀ k : Nat, k < j → S (kq d tg n (k : Int)) = -9 ∨ (1 ≤ S (kq d tg n (k : Int)) ∧ S (kq d tg n (k : Int)) ≤ 1000000)) → szc S d tg n j = -9 ∨ (1 ≤ szc S d tg n j ∧ szc S d tg n j ≤ 1000000)
  | 0, _ => by simp only [szc]; omega
  | j + 1, h => by
    have a := szc_bd j (fun k hk => h k (by omega))
    have b := h j (by omega)
    simp only [szc]
    split
    · omega
    · unfold cap
      split <;> omega
theorem szc_neg {S : Int → Int} {d : Nd} {tg : Int → Int} {n : Int} : ∀ (j : Nat) {k : Nat}, k < j → S (kq d tg n (k : Int)) = -9 → szc S d tg n j = -9
  | 0, _, hk, _ => absurd hk (by omega)
  | j + 1, k, hk, h => by
    simp only [szc]
    rw [if_pos]
    by_cases e : k = j
    · rw [← e]; exact Or.inr h
    · exact Or.inl (szc_neg j (by omega) h)
theorem szc_neg2 {S : Int → Int} {d : Nd} {tg : Int → Int} {n : Int} (i : Nat) (h : szc S d tg n i = -9) : ∀ (j : Nat), i ≤ j → szc S d tg n j = -9 := by
  intro j hj
  induction j with
  | zero =>
    rw [show i = 0 by omega] at h
    exact h
  | succ j ih =>
    by_cases e : i = j + 1
    · rw [← e]; exact h
    · simp only [szc]
      rw [if_pos (Or.inl (ih (by omega)))]
theorem szf_bd {g : Sg} {d : Nd} {tg : Int → Int} : ∀ (f : Nat) (n : Int), szf g d tg f n = -9 ∨ (1 ≤ szf g d tg f n ∧ szf g d tg f n ≤ 1000000)
  | 0, _ => Or.inl rfl
  | f + 1, n => by
    simp only [szf]
    split
    · exact Or.inl rfl
    · exact szc_bd _ (fun k _ => szf_bd f _)
theorem Sz_bd {g : Sg} {d : Nd} {tg : Int → Int} (n : Int) : Sz g d tg n = -9 ∨ (1 ≤ Sz g d tg n ∧ Sz g d tg n ≤ 1000000) := szf_bd 100 n
theorem szf_stable {g : Sg} {d : Nd} {tg : Int → Int} {r : Int → Nat} (hN : NdOK g d) (hT : TgOK d tg) (hG : Gr g d tg r) : ∀ (f f2 : Nat) (n : Int), 0 ≤ n → n < nN d → r n < f → r n < f2 → szf g d tg f n = szf g d tg f2 n
  | 0, _, _, _, _, h, _ => absurd h (by omega)
  | _ + 1, 0, _, _, _, _, h => absurd h (by omega)
  | f + 1, f2 + 1, n, h0, h1, h2, h3 => by
    simp only [szf]
    split
    · rfl
    · refine szc_congr _ (fun k hk => ?_)
      have q := kq_in2 hN hT hG h0 h1 (show 0 ≤ (k : Int) ∧ (k : Int) < pq g d n by omega)
      exact szf_stable hN hT hG f f2 _ q.1.1 q.1.2 (by omega) (by omega)
theorem Sz_eq {g : Sg} {d : Nd} {tg : Int → Int} {r : Int → Nat} (hN : NdOK g d) (hT : TgOK d tg) (hG : Gr g d tg r) {n : Int} (h0 : 0 ≤ n) (h1 : n < nN d) : Sz g d tg n = if nC d n < 0 then -9 else szc (Sz g d tg) d tg n (pq g d n).toNat := by
  unfold Sz
  have hr := hG.2 n
  rw [szf_stable hN hT hG 100 101 n h0 h1 (by omega) (by omega)]
  rfl
section
variable {g : Sg} {d : Nd} {tg : Int → Int} {M : Mem}
theorem c_sizeFromParts {K : Int → Mem → Prop} (hS : StOK g d tg) (hX : XR g d tg M) {n : Int} (h0 : 0 ≤ n) (h1 : n < nN d) (h23 : ∀ k, 0 ≤ k → k < pq g d n → M 23 (kq d tg n k) = Sz g d tg (kq d tg n k)) (kk : K (Sz g d tg n) M) : CI mX5_sizeFromParts [vR 22, vI n] M K := by
  obtain ⟨r, hG⟩ := hS.2.2.2
  have b := hS.2.1.1
  have hp := pq_bd hS.1 hS.2.1 h0 h1
  have e14 : M 14 = nC d := hX.2.1.2.2.1
  have hcb := hS.2.1.cbd hS.1 h0 h1
  have eS := Sz_eq hS.2.1 hS.2.2.1 hG h0 h1
  refine en_X5_sizeFromParts (c_isVariable (by omega) (by rw [e14]; omega) (fun z => ⟨by decide, fun y => absurd y (by decide), fun _ => ?_⟩) (fun z => ⟨by decide, fun _ => ?_, fun y => absurd rfl y⟩))
  · rw [e14] at z
    rw [eS, if_pos (by omega)] at kk
    exact kk
  rw [e14] at z
  rw [if_neg (by omega)] at eS
  have loop : ∀ (m : Nat) (v j : Int), (pq g d n - j).toNat = m → 0 ≤ j → j ≤ pq g d n → v = szc (Sz g d tg) d tg n j.toNat → v ≠ -9 → AW mX5_sizeFromParts 18 [some (vR 22), some (vI n), some (vI v), some (vI j), none] [] M (QI K) := by
    intro m
    induction m with
    | zero =>
      intro v j hm j0 j1 ev nv
      refine sg_X5_sizeFromParts_18 (c_partTotal hS hX h0 h1 ⟨by omega, fun _ => ?_, fun q => by omega⟩)
      rw [ev, show j = pq g d n by omega, ← eS]
      exact kk
    | succ m ih =>
      intro v j hm j0 j1 ev nv
      have hin := kq_in2 hS.2.1 hS.2.2.1 hG h0 h1 (show 0 ≤ j ∧ j < pq g d n by omega)
      have bS := Sz_bd (g := g) (d := d) (tg := tg) (kq d tg n j)
      have bv := szc_bd (S := Sz g d tg) (d := d) (tg := tg) (n := n) j.toNat (fun k _ => Sz_bd _)
      refine sg_X5_sizeFromParts_18 (c_partTotal hS hX h0 h1 ⟨by omega, fun q => by omega, fun _ => c_resolvedPart hS hX h0 h1 (by omega) ?_⟩)
      rw [h23 j j0 (by omega)]
      have st : szc (Sz g d tg) d tg n (j + 1).toNat = if szc (Sz g d tg) d tg n j.toNat = -9 ∨ Sz g d tg (kq d tg n j) = -9 then -9 else cap (szc (Sz g d tg) d tg n j.toNat + Sz g d tg (kq d tg n j)) := by
        rw [show (j + 1).toNat = j.toNat + 1 by omega]
        simp only [szc]
        rw [show (j.toNat : Int) = j by omega]
      refine ⟨by omega, by omega, fun y => c_lsum (by omega) (by omega) (ih _ (j + 1) (by omega) (by omega) (by omega) ?_ ?_), fun y => ?_⟩
      · rw [st, if_neg (by omega), ev]
      · unfold cap
        split <;> omega
      · have : Sz g d tg n = -9 := by
          rw [eS]
          refine szc_neg2 (j + 1).toNat ?_ _ (by omega)
          rw [st, if_pos (Or.inr (Decidable.not_not.mp y))]
        rw [this] at kk
        exact kk
  exact loop _ 1 0 rfl (by omega) (by omega) rfl (by decide)
/-- what measure leaves: a walk from the node, with its sizes -/
theorem c_measure {K : Int → Mem → Prop} (hS : StOK g d tg) (hX : XR g d tg M) (hb : 0 ≤ M 28 3 ∧ M 28 3 < 1000000) (hl : ∀ n, 0 ≤ n → n < 100 → 0 ≤ M 30 n ∧ M 30 n ≤ M 28 3) {n : Int} (h0 : 0 ≤ n) (h1 : n < nN d)
    (kk : ∀ M', Fr [23, 28, 29, 30, 31] M M' → M' 28 3 = M 28 3 + 1 → Wki 28 29 30 g d tg M' → M' 30 (re tg n) = M' 28 3 → (∀ P : Int → Prop, Clo g d tg P → P (re tg n) → ∀ x, 0 ≤ x → x < 100 → M' 30 x = M' 28 3 → P x) → (∀ i, 0 ≤ i → i < M' 28 2 → M' 23 (M' 29 i) = Sz g d tg (M' 29 i)) → K (Sz g d tg (re tg n)) M') : CI mX5_measure [vR 22, vI n] M K := by
  obtain ⟨r, hG⟩ := hS.2.2.2
  have b := hS.2.1.1
  have htop := re_in hS.2.2.1 hG h0 h1
  refine en_X5_measure (c_begin hS.2.1 hb hl (fun M1 hF1 e1 hW1 hn1 => c_visit hS (hX.fr hF1 (by decide)) hW1 h0 h1 (fun M2 hF2 e2 hW2 ht2 _ hc2 => ?_)))
  have loop : ∀ (m : Nat) (M3 : Mem) (i : Int), (M2 28 2 - i).toNat = m → 0 ≤ i → i ≤ M2 28 2 → Fr [23] M2 M3 → (∀ j, 0 ≤ j → j < i → M3 23 (M2 29 j) = Sz g d tg (M2 29 j)) → AW mX5_measure 17 [some (vR 22), some (vI n), some (vI i)] [] M3 (QI K) := by
    intro m
    obtain ⟨w0, w1, w2, w3, w4, w5, w6⟩ := hW2
    induction m with
    | zero =>
      intro M3 i hm i0 i1 hF3 hj
      have F : Fr [23, 28, 29, 30, 31] M M3 := ((hF1.mono (by decide)).trans (hF2.mono (by decide))).trans (hF3.mono (by decide))
      have a28 : M3 28 = M2 28 := hF3 28 (by decide)
      have a29 : M3 29 = M2 29 := hF3 29 (by decide)
      have a30 : M3 30 = M2 30 := hF3 30 (by decide)
      refine sg_X5_measure_17 ⟨by rw [a28]; omega, fun _ => c_resolve hS (hX.fr F (by decide)) h0 h1 ⟨by omega, ?_⟩, fun z => by rw [a28] at z; omega⟩
      have hsz : M3 23 (re tg n) = Sz g d tg (re tg n) := by
        obtain ⟨j, hj1, hj2⟩ := w4 (re tg n) htop.1 (by omega) ht2
        rw [← hj2]
        exact hj j hj1.1 (by omega)
      rw [hsz]
      refine kk M3 F (by rw [a28, e2]; exact e1) ?_ (by rw [a30, a28]; exact ht2) (fun P c1 c2 x x0 x1 hx => hc2 P c1 c2 (fun y y0 y1 hy => absurd hy (hn1 y y0 y1)) x x0 x1 (by rw [a30, a28] at hx; exact hx)) (fun j j0 j1 => ?_)
      · unfold Wki Un
        rw [a28, a29, a30]
        exact ⟨w0, w1, w2, w3, w4, w5, w6⟩
      · rw [a28] at j1
        rw [a29]
        exact hj j j0 (by omega)
    | succ m ih =>
      intro M3 i hm i0 i1 hF3 hj
      have F : Fr [23, 28, 29, 30, 31] M M3 := ((hF1.mono (by decide)).trans (hF2.mono (by decide))).trans (hF3.mono (by decide))
      have a28 : M3 28 = M2 28 := hF3 28 (by decide)
      have a29 : M3 29 = M2 29 := hF3 29 (by decide)
      have q := w3 i i0 (by omega)
      refine sg_X5_measure_17 ⟨by rw [a28]; omega, fun z => by rw [a28] at z; omega, fun _ => ⟨by omega, by omega, ?_⟩⟩
      rw [a29]
      refine c_sizeFromParts hS (hX.fr F (by decide)) q.1.1 q.1.2 (fun k k0 k1 => ?_) ⟨by omega, ih _ (i + 1) (by omega) (by omega) (by omega) (hF3.up (by decide)) (fun j j0 j1 => ?_)⟩
      · obtain ⟨j, hj1, hj2⟩ := w6 i k i0 (by omega) k0 k1
        rw [← hj2]
        exact hj j hj1.1 hj1.2
      · by_cases e : j = i
        · rw [e, up_same]
        · rw [up_other (fun z => by
            by_cases l : j < i
            · exact w5 j i j0 l (by omega) z
            · omega)]
          exact hj j j0 (by omega)
  exact loop _ M2 0 rfl (by omega) (by have := hW2.2.2.1; omega) (Fr.refl _ _) (fun j j0 j1 => by omega)
/-! the reference's sizes -/
def zz (x : Int) : Int := if x = -9 then -1 else x
def SzQ (g : Sg) (d : Nd) (tg : Int → Int) (M : Mem) : Prop := ∀ n, 0 ≤ n → n < nN d → M 75 n = 0 ∨ M 75 n = zz (Sz g d tg (re tg n))
def Hz (M : Mem) (d : Nd) (m k v : Int) : Prop := ∃ j, (0 ≤ j ∧ j < k) ∧ M 75 (nK d (m * 3 + j)) = v
theorem Hz.step {k v m : Int} (h : Hz M d m k v) : Hz M d m (k + 1) v := by
  obtain ⟨j, h1, h2⟩ := h
  exact ⟨j, by omega, h2⟩
def SnI (g : Sg) (d : Nd) (tg : Int → Int) (M : Mem) (n v a e j : Int) : Prop := (a = 0 ∨ a = 1) ∧ (e = 0 ∨ e = 1) ∧ (a = 0 → Hz M d n j 0) ∧ (e = 0 → Hz M d n j (-1)) ∧ (a = 1 → e = 1 → cap v = szc (Sz g d tg) d tg n j.toNat ∧ szc (Sz g d tg) d tg n j.toNat ≠ -9) ∧ -j ≤ v ∧ v ≤ 1 + j * 1000000 ∧ (e = 1 → 0 ≤ v)
theorem SnI.ra {n v a e j : Int} (h : SnI g d tg M n v a e j) : InR a := by
  rcases h.1 with q | q <;> rw [q] <;> decide
theorem SnI.rg {n v a e j : Int} (h : SnI g d tg M n v a e j) : InR e := by
  rcases h.2.1 with q | q <;> rw [q] <;> decide
theorem SnI.a1 {n v a e j : Int} (h : SnI g d tg M n v a e j) (q : ¬ a = 0) : a = 1 := h.1.resolve_left q
theorem SnI.e1 {n v a e j : Int} (h : SnI g d tg M n v a e j) (q : ¬ e = 0) : e = 1 := h.2.1.resolve_left q
theorem SnI.next {n v a e j a2 e2 : Int} (h : SnI g d tg M n v a e j) (j0 : 0 ≤ j) (hq : M 75 (nK d (n * 3 + j)) = 0 ∨ M 75 (nK d (n * 3 + j)) = zz (Sz g d tg (re tg (nK d (n * 3 + j))))) (bown : -1 ≤ M 75 (nK d (n * 3 + j)) ∧ M 75 (nK d (n * 3 + j)) ≤ 1000000) (ha2 : a2 = 0 ∨ a2 = 1) (he2 : e2 = 0 ∨ e2 = 1) (i1 : a2 = 0 → a = 0 ∨ M 75 (nK d (n * 3 + j)) = 0) (i2 : e2 = 0 → e = 0 ∨ M 75 (nK d (n * 3 + j)) < 0) (i3 : a2 = 1 → a = 1 ∧ M 75 (nK d (n * 3 + j)) ≠ 0) (i4 : e2 = 1 → e = 1 ∧ 0 ≤ M 75 (nK d (n * 3 + j))) : SnI g d tg M n (v + M 75 (nK d (n * 3 + j))) a2 e2 (j + 1) := by
  obtain ⟨h1, h2, hz, hg, hc2, v0, v1, v2⟩ := h
  clear h1 h2
  refine ⟨ha2, he2, fun q => ?_, fun q => ?_, fun q1 q2 => ?_, ?_, ?_, fun q => ?_⟩
  · rcases i1 q with y | y
    · exact (hz y).step
    · exact ⟨j, ⟨j0, Int.lt_succ j⟩, y⟩
  · rcases i2 q with y | y
    · exact (hg y).step
    · clear i1 i2 i3 i4 hz hg hc2 v2 ha2 he2
      exact ⟨j, ⟨j0, Int.lt_succ j⟩, by omega⟩
  · have w := hc2 (i3 q1).1 (i4 q2).1
    have w1 := (i3 q1).2
    have w2 := (i4 q2).2
    have w3 := v2 (i4 q2).1
    clear i1 i2 i3 i4 hz hg hc2 v2 ha2 he2
    have st : szc (Sz g d tg) d tg n (j + 1).toNat = if szc (Sz g d tg) d tg n j.toNat = -9 ∨ Sz g d tg (kq d tg n j) = -9 then -9 else cap (szc (Sz g d tg) d tg n j.toNat + Sz g d tg (kq d tg n j)) := by
      rw [show (j + 1).toNat = j.toNat + 1 by omega]
      simp only [szc]
      rw [show (j.toNat : Int) = j by omega]
    have own : M 75 (nK d (n * 3 + j)) = Sz g d tg (kq d tg n j) ∧ Sz g d tg (kq d tg n j) ≠ -9 := by
      rcases hq with hq | hq
      · exact absurd hq w1
      · unfold zz at hq
        split at hq
        · omega
        · rename_i q9
          exact ⟨hq, q9⟩
    rw [st, if_neg (fun y => y.elim w.2 own.2), ← own.1, ← w.1, cap_cap_add w2]
    exact ⟨rfl, by unfold cap; split <;> omega⟩
  · clear i1 i2 i3 i4 hz hg hc2 v2 ha2 he2 hq
    omega
  · clear i1 i2 i3 i4 hz hg hc2 v2 ha2 he2 hq
    omega
  · have w2 := (i4 q).2
    have w3 := v2 (i4 q).1
    clear i1 i2 i3 i4 hz hg hc2 v2 ha2 he2 hq
    omega
theorem c_sizeNow {K : Int → Mem → Prop} (hS : StOK g d tg) (hX : MMR g d tg M) (hQ : SzQ g d tg M) {n : Int} (h0 : 0 ≤ n) (h1 : n < nN d) (kz : 0 ≤ nC d n → Hz M d n (pq g d n) 0 → K 0 M) (kk : K (zz (Sz g d tg n)) M) : CI mX12_sizeNow [vR 50, vI n] M K := by
  obtain ⟨r, hG⟩ := hS.2.2.2
  have b := hS.2.1.1
  have hp := pq_bd hS.1 hS.2.1 h0 h1
  have hcb := hS.2.1.cbd hS.1 h0 h1
  have eS := Sz_eq hS.2.1 hS.2.2.1 hG h0 h1
  have e54 := (hX.2.1.2 n h0 h1).2.1
  refine en_X12_sizeNow ?_
  rw [e54]
  unfold nv
  by_cases hc : nC d n < 0
  · rw [if_pos hc]
    refine ⟨by omega, by decide, fun z => absurd z (by decide), fun _ => ?_⟩
    rw [eS, if_pos hc] at kk
    exact kk
  rw [if_neg hc]
  rw [if_neg hc] at eS
  refine ⟨by omega, by omega, fun _ => ?_, fun z => absurd (show nC d n ≥ 0 by omega) z⟩
  have loop : ∀ (m : Nat) (v a e j : Int), (pq g d n - j).toNat = m → 0 ≤ j → j ≤ pq g d n → SnI g d tg M n v a e j → AW mX12_sizeNow 22 [some (vR 50), some (vI n), some (vL v), none, some (vI a), some (vI e), some (vI j), none] [] M (QI K) := by
    intro m
    induction m with
    | zero =>
      intro v a e j hm j0 j1 hI
      have ej : j = pq g d n := by omega
      subst ej
      refine sg_X12_sizeNow_22 (c_manyOf hS hX h0 h1 ⟨by omega, fun _ => ⟨hI.rg, fun q => ⟨hI.ra, fun q2 => kz (by omega) (hI.2.2.1 q2), fun q2 => ?_⟩, fun q => ?_⟩, fun q => by omega⟩)
      · have w := hI.2.2.2.2.1 (hI.a1 q2) (hI.e1 q)
        have vn := hI.2.2.2.2.2.2.2 (hI.e1 q)
        have v1 := hI.2.2.2.2.2.2.1
        clear hI
        refine c_capped (by omega) ?_
        rw [w.1, ← eS]
        have : zz (Sz g d tg n) = Sz g d tg n := by
          unfold zz
          rw [if_neg (by rw [eS]; exact w.2)]
        rw [this] at kk
        exact kk
      · obtain ⟨i, hi, hv⟩ := hI.2.2.2.1 (Decidable.not_not.mp q)
        have pp := pq_pos hi
        have kd := (hS.2.1.kid h0 h1 pp.1 ⟨hi.1, pp.2⟩).1
        have hq := hQ _ kd.1 (by omega)
        rw [hv] at hq
        have bS := Sz_bd (g := g) (d := d) (tg := tg) (re tg (nK d (n * 3 + i)))
        have h9 : Sz g d tg (re tg (nK d (n * 3 + i))) = -9 := by
          rcases hq with hq | hq
          · omega
          · unfold zz at hq
            split at hq
            · assumption
            · omega
        have : Sz g d tg n = -9 := by
          rw [eS]
          refine szc_neg _ (k := i.toNat) (by omega) ?_
          rw [show (i.toNat : Int) = i by omega]
          exact h9
        rw [this] at kk
        exact kk
    | succ m ih =>
      intro v a e j hm j0 j1 hI
      have pp := pq_pos (show 0 ≤ j ∧ j < pq g d n by omega)
      have e56 := (hX.2.1.2 n h0 h1).2.2 pp.1 j j0 pp.2
      have kd := (hS.2.1.kid h0 h1 pp.1 ⟨j0, pp.2⟩).1
      have hq := hQ _ kd.1 (by omega)
      have bown : -1 ≤ M 75 (nK d (n * 3 + j)) ∧ M 75 (nK d (n * 3 + j)) ≤ 1000000 := by
        have bS := Sz_bd (g := g) (d := d) (tg := tg) (re tg (nK d (n * 3 + j)))
        rcases hq with hq | hq
        · omega
        · unfold zz at hq
          split at hq <;> omega
      have rown : InR (M 75 (nK d (n * 3 + j))) := ⟨by omega, by omega⟩
      have go : ∀ a2 e2, SnI g d tg M n (v + M 75 (nK d (n * 3 + j))) a2 e2 (j + 1) → AW mX12_sizeNow 22 [some (vR 50), some (vI n), some (vL (v + M 75 (nK d (n * 3 + j)))), none, some (vI a2), some (vI e2), some (vI (j + 1)), none] [] M (QI K) :=
        fun a2 e2 h => ih _ a2 e2 (j + 1) (by omega) (by omega) (by omega) h
      have nx := fun a2 e2 => SnI.next (a2 := a2) (e2 := e2) hI j0 hq bown
      refine sg_X12_sizeNow_22 (c_manyOf hS hX h0 h1 ⟨by omega, fun q => by omega, fun _ => ⟨by omega, ?_⟩⟩)
      rw [e56]
      have s64 : ∀ a3 : Int, (a = 0 ∨ M 75 (nK d (n * 3 + j)) = 0) → AW mX12_sizeNow 64 [some (vR 50), some (vI n), some (vL v), none, some (vI a3), some (vI e), some (vI j), some (vI (M 75 (nK d (n * 3 + j))))] [] M (QI K) := by
        intro a3 y
        exact sg_X12_sizeNow_64 ⟨hI.rg, fun q => sg_X12_sizeNow_81 ⟨rown, go 0 0 (nx 0 0 (Or.inl rfl) (Or.inl rfl) (fun _ => y) (fun _ => Or.inl q) (fun q2 => absurd q2 (by decide)) (fun q2 => absurd q2 (by decide)))⟩, fun q => ⟨rown, fun q2 => sg_X12_sizeNow_81 ⟨rown, go 0 0 (nx 0 0 (Or.inl rfl) (Or.inl rfl) (fun _ => y) (fun _ => Or.inr q2) (fun q2 => absurd q2 (by decide)) (fun q2 => absurd q2 (by decide)))⟩, fun q2 => ⟨rown, go 0 1 (nx 0 1 (Or.inl rfl) (Or.inr rfl) (fun _ => y) (fun q3 => absurd q3 (by decide)) (fun q2 => absurd q2 (by decide)) (fun _ => ⟨hI.e1 q, Int.not_lt.mp q2⟩))⟩⟩⟩
      refine ⟨⟨kd.1, by omega⟩, hI.ra, fun q => s64 a (Or.inl q), fun q => ⟨rown, fun q2 => s64 a (Or.inr q2), fun q2 => ⟨hI.rg, fun q3 => sg_X12_sizeNow_81 ⟨rown, go 1 0 (nx 1 0 (Or.inr rfl) (Or.inl rfl) (fun q4 => absurd q4 (by decide)) (fun _ => Or.inl q3) (fun _ => ⟨hI.a1 q, q2⟩) (fun q4 => absurd q4 (by decide)))⟩, fun q3 => ⟨rown, fun q4 => sg_X12_sizeNow_81 ⟨rown, go 1 0 (nx 1 0 (Or.inr rfl) (Or.inl rfl) (fun q4 => absurd q4 (by decide)) (fun _ => Or.inr q4) (fun _ => ⟨hI.a1 q, q2⟩) (fun q4 => absurd q4 (by decide)))⟩, fun q4 => ⟨rown, go 1 1 (nx 1 1 (Or.inr rfl) (Or.inr rfl) (fun q4 => absurd q4 (by decide)) (fun q4 => absurd q4 (by decide)) (fun _ => ⟨hI.a1 q, q2⟩) (fun _ => ⟨hI.e1 q3, Int.not_lt.mp q4⟩))⟩⟩⟩⟩⟩
  exact loop _ 1 1 1 0 rfl (by omega) (by omega) ⟨Or.inr rfl, Or.inr rfl, fun q => absurd q (by decide), fun q => absurd q (by decide), fun _ _ => ⟨rfl, show (1 : Int) ≠ -9 by decide⟩, by decide, by decide, fun _ => by decide⟩
def zcn (d : Nd) (M : Mem) : Nat := cnt (fun i => decide (M 75 i = 0)) (nN d).toNat
/-- a node whose size isn't known yet waits for a part -/
def Stk (g : Sg) (d : Nd) (tg : Int → Int) (M : Mem) (n : Int) : Prop := M 75 n = 0 → 0 ≤ nC d (re tg n) ∧ Hz M d (re tg n) (pq g d (re tg n)) 0
theorem zz_ne (x : Int) (h : x = -9 ∨ (1 ≤ x ∧ x ≤ 1000000)) : zz x ≠ 0 := by unfold zz; split <;> omega
theorem szq_done (hS : StOK g d tg) (hQ : SzQ g d tg M) (hk : ∀ n, 0 ≤ n → n < nN d → Stk g d tg M n) : ∀ n, 0 ≤ n → n < nN d → M 75 n = zz (Sz g d tg (re tg n)) := by
  obtain ⟨r, hG⟩ := hS.2.2.2
  have main : ∀ (f : Nat) (n : Int), r n < f → 0 ≤ n → n < nN d → M 75 n ≠ 0 := by
    intro f
    induction f with
    | zero => intro n h; omega
    | succ f ih =>
      intro n hr h0 h1 hz
      have w := hk n h0 h1 hz
      obtain ⟨j, hj, he⟩ := w.2
      have hin := re_in hS.2.2.1 hG h0 h1
      have hle := re_le hS.2.2.1 hG h0 h1
      have pp := pq_pos hj
      have kd := (hS.2.1.kid hin.1 hin.2 pp.1 ⟨hj.1, pp.2⟩).1
      have rl := hG.1.2 _ hin.1 hin.2 pp.1 j hj.1 pp.2
      exact ih _ (by omega) kd.1 (by omega) he
  intro n h0 h1
  rcases hQ n h0 h1 with z | z
  · exact absurd z (main 100 n (hG.2 n) h0 h1)
  · exact z
theorem c_laySizes {K : Mem → Prop} (hS : StOK g d tg) (hX : MMR g d tg M) (kk : ∀ M', Fr [75] M M' → (∀ n, 0 ≤ n → n < nN d → M' 75 n = zz (Sz g d tg (re tg n))) → K M') : CV mX12_laySizes [vR 50] M K := by
  obtain ⟨r, hG⟩ := hS.2.2.2
  have b := hS.2.1.1
  have pass : ∀ (q : Nat) (M1 M2 : Mem) (m : Nat) (v i : Int), (nN d - i).toNat = m → 0 ≤ i → i ≤ nN d → zcn d M1 = q → Fr [75] M M2 → SzQ g d tg M2 → (v = 0 ∨ v = 1) → (v = 0 → M2 = M1 ∧ ∀ n, 0 ≤ n → n < i → Stk g d tg M1 n) → (v = 1 → zcn d M2 < zcn d M1) → zcn d M2 ≤ zcn d M1 →
      (∀ M3, Fr [75] M M3 → SzQ g d tg M3 → zcn d M3 < q → AW mX12_laySizes 25 [some (vR 50), some (vI 1), none] [] M3 (QV K)) → AW mX12_laySizes 33 [some (vR 50), some (vI v), some (vI i)] [] M2 (QV K) := by
    intro q M1 M2 m
    induction m generalizing M2 with
    | zero =>
      intro v i hm i0 i1 hq hF hQ hv hv0 hv1 hle hk
      have e5 : M2 50 5 = nN d := by rw [hF 50 (by decide)]; exact hX.2.1.1
      refine sg_X12_laySizes_33 ⟨by rw [e5]; omega, fun _ => ?_, fun z => by rw [e5] at z; omega⟩
      rcases hv with e | e
      · have w := hv0 e
        rw [e]
        refine sg_X12_laySizes_25 ⟨by decide, fun _ => kk M2 hF (szq_done hS hQ (fun n n0 n1 => ?_)), fun z => absurd rfl z⟩
        rw [w.1]
        exact w.2 n n0 (by omega)
      · rw [e]
        exact hk M2 hF hQ (by have := hv1 e; omega)
    | succ m ih =>
      intro v i hm i0 i1 hq hF hQ hv hv0 hv1 hle hk
      have e5 : M2 50 5 = nN d := by rw [hF 50 (by decide)]; exact hX.2.1.1
      have hX2 := hX.fr hF (by decide)
      have bS := Sz_bd (g := g) (d := d) (tg := tg) (re tg i)
      have hin := re_in hS.2.2.1 hG i0 (show i < nN d by omega)
      have bz : -1 ≤ zz (Sz g d tg (re tg i)) ∧ zz (Sz g d tg (re tg i)) ≤ 1000000 := by unfold zz; split <;> omega
      have bi : InR (M2 75 i) := by
        rcases hQ i i0 (by omega) with z | z <;> omega
      refine sg_X12_laySizes_33 ⟨by rw [e5]; omega, fun z => by rw [e5] at z; omega, fun _ => ⟨by omega, bi, fun z => sg_X12_laySizes_84 (ih M2 v (i + 1) (by omega) (by omega) (by omega) hq hF hQ hv (fun y => ⟨(hv0 y).1, fun n n0 n1 => ?_⟩) hv1 hle hk), fun z => ?_⟩⟩
      · by_cases e : n = i
        · intro y
          rw [e, ← (hv0 ‹_›).1] at y
          exact absurd y z
        · exact (hv0 ‹_›).2 n n0 (by omega)
      have z := Decidable.not_not.mp z
      refine c_resolved hS hX2 i0 (by omega) (c_sizeNow hS hX2 hQ hin.1 hin.2 (fun hc hz => ?_) ?_)
      · -- nothing new
        have same : up M2 75 i 0 = M2 := by
          funext h x
          by_cases e : h = 75
          · subst e
            by_cases e2 : x = i
            · rw [e2, up_same, z]
            · rw [up_other e2]
          · rw [up_ne e]
        rw [same]
        refine ⟨by omega, by omega, fun y => sg_X12_laySizes_78 (sg_X12_laySizes_84 (ih M2 1 (i + 1) (by omega) (by omega) (by omega) hq hF hQ (Or.inr rfl) (fun y => absurd y (by decide)) (fun _ => hv1 (by omega)) hle hk)), fun y => ⟨by omega, bi, fun y2 => sg_X12_laySizes_84 (ih M2 0 (i + 1) (by omega) (by omega) (by omega) hq hF hQ (Or.inl rfl) (fun _ => ?_) (fun y => absurd y (by decide)) hle hk), fun y2 => absurd z y2⟩⟩
        have w := hv0 (by omega)
        refine ⟨w.1, fun n n0 n1 => ?_⟩
        by_cases e : n = i
        · intro _
          rw [e, ← w.1]
          exact ⟨hc, hz⟩
        · exact w.2 n n0 (by omega)
      · have nz := zz_ne _ bS
        have hF3 : Fr [75] M (up M2 75 i (zz (Sz g d tg (re tg i)))) := hF.up (by decide)
        have ei : up M2 75 i (zz (Sz g d tg (re tg i))) 75 i = zz (Sz g d tg (re tg i)) := up_same
        have hQ3 : SzQ g d tg (up M2 75 i (zz (Sz g d tg (re tg i)))) := by
          intro n n0 n1
          by_cases e : n = i
          · rw [e, up_same]; exact Or.inr rfl
          · rw [up_other e]; exact hQ n n0 n1
        have hz3 : zcn d (up M2 75 i (zz (Sz g d tg (re tg i)))) < zcn d M2 := by
          unfold zcn
          refine cnt_lt (fun n hn hp => ?_) i.toNat (by omega) ?_ ?_
          · have hp := of_decide_eq_true hp
            by_cases e : (n : Int) = i
            · rw [e, up_same] at hp
              exact absurd hp nz
            · rw [up_other e] at hp
              exact decide_eq_true hp
          · rw [show ((i.toNat : Nat) : Int) = i by omega]
            exact decide_eq_true z
          · rw [show ((i.toNat : Nat) : Int) = i by omega, up_same]
            exact decide_eq_false nz
        have go : ∀ w : Int, AW mX12_laySizes 78 [some (vR 50), some (vI w), some (vI i)] [] (up M2 75 i (zz (Sz g d tg (re tg i)))) (QV K) := fun w => sg_X12_laySizes_78 (sg_X12_laySizes_84 (ih _ 1 (i + 1) (by omega) (by omega) (by omega) hq hF3 hQ3 (Or.inr rfl) (fun y => absurd y (by decide)) (fun _ => by omega) (by omega) hk))
        rw [ei]
        exact ⟨by omega, by omega, fun _ => go v, fun _ => ⟨by omega, by omega, fun y => absurd y nz, fun _ => go v⟩⟩
  have outer : ∀ (q : Nat) (M1 : Mem), zcn d M1 = q → Fr [75] M M1 → SzQ g d tg M1 → AW mX12_laySizes 25 [some (vR 50), some (vI 1), none] [] M1 (QV K) := by
    intro q
    induction q using Nat.strongRecOn with
    | ind q ih =>
      intro M1 hq hF hQ
      refine sg_X12_laySizes_25 ⟨by decide, fun z => absurd z (by decide), fun _ => ?_⟩
      exact pass q M1 M1 _ 0 0 rfl (by omega) (by omega) hq hF hQ (Or.inl rfl) (fun _ => ⟨rfl, fun n n0 n1 => by omega⟩) (fun y => absurd y (by decide)) (Nat.le_refl _) (fun M3 hF3 hQ3 hz3 => ih _ hz3 M3 rfl hF3 hQ3)
  have clr : ∀ (m : Nat) (i : Int) (M1 : Mem), (nN d - i).toNat = m → 0 ≤ i → i ≤ nN d → Fr [75] M M1 → (∀ n, 0 ≤ n → n < i → M1 75 n = 0) → AW mX12_laySizes 2 [some (vR 50), some (vI i), none] [] M1 (QV K) := by
    intro m
    induction m with
    | zero =>
      intro i M1 hm i0 i1 hF hz
      have e5 : M1 50 5 = nN d := by rw [hF 50 (by decide)]; exact hX.2.1.1
      exact sg_X12_laySizes_2 ⟨by rw [e5]; omega, fun _ => outer _ M1 rfl hF (fun n n0 n1 => Or.inl (hz n n0 (by omega))), fun z => by rw [e5] at z; omega⟩
    | succ m ih =>
      intro i M1 hm i0 i1 hF hz
      have e5 : M1 50 5 = nN d := by rw [hF 50 (by decide)]; exact hX.2.1.1
      refine sg_X12_laySizes_2 ⟨by rw [e5]; omega, fun z => by rw [e5] at z; omega, fun _ => ⟨by omega, ih (i + 1) _ (by omega) (by omega) (by omega) (hF.up (by decide)) (fun n n0 n1 => ?_)⟩⟩
      by_cases e : n = i
      · rw [e, up_same]
      · rw [up_other e]; exact hz n n0 (by omega)
  exact en_X12_laySizes (clr _ 0 M rfl (by omega) (by omega) (Fr.refl _ _) (fun n n0 n1 => by omega))
end
section
variable {c : Nat} {M : Mem} {K : Int → Mem → Prop}
/-- counters after a walk -/
theorem Ctr.walk {M' : Mem} (h : Ctr c M) (f : ∀ x ∈ [37, 39, 43, 45], M' x = M x) (e3 : 0 ≤ M' 28 3 ∧ M' 28 3 ≤ 101 * (c + 1 : Nat)) (hl : ∀ n, 0 ≤ n → n < 100 → 0 ≤ M' 30 n ∧ M' 30 n ≤ M' 28 3) : Ctr (c + 1) M' := by
  obtain ⟨h1, h2, h3, h4, h5, h6⟩ := h
  unfold Ctr
  rw [f 37 (by decide), f 39 (by decide), f 43 (by decide), f 45 (by decide)]
  exact ⟨e3, ⟨h2.1, by omega⟩, ⟨h3.1, by omega⟩, hl, h5, h6⟩
theorem op_size (h : Inv c M) (hc5 : c < 1000) {v : Int} (hv : InR v) (kk : ∀ r M1, Then mX12_size [vR 50, vI v] c r M1 → K r M1) : CI mX11_size [vR 0, vI v] M K := by
  obtain ⟨g, d, tg, hC, hc⟩ := h
  have hI : Inv (c + 1) M := ⟨g, d, tg, hC, hc.up⟩
  obtain ⟨⟨f1, f2, f3, f4, f5, f6⟩, b1, b2, b3⟩ := hC.facts
  have hc1 := hc.1
  refine en_X11_size (c_contains hv (by omega) (fun q => ⟨by decide, fun _ => c_measure hC.1 hC.2.1 (by omega) hc.2.2.2.1 q.1 (by omega) (fun M1 hF e3 hW _ _ _ => kk _ M1 ⟨?_, fun K2 k2 => ?_⟩), fun z => absurd (by decide) z⟩) (fun q => ⟨by decide, fun z => absurd rfl z, fun _ => kk _ M ⟨by decide, fun K2 k2 => en_X12_size (c_isNode hv (by omega) (fun q2 => absurd (show 0 ≤ v ∧ v < M 12 1 by omega) q) (fun q2 => ⟨by decide, fun z => absurd rfl z, fun _ => k2 M hI⟩))⟩⟩))
  · have bS := Sz_bd (g := g) (d := d) (tg := tg) (re tg v)
    omega
  have hK : Keep M M1 := Keep.of hF (by decide)
  have hC1 := hC.keep hK
  have e50 : M1 50 = M 50 := hF 50 (by decide)
  refine en_X12_size (c_isNode hv (by rw [e50]; omega) (fun q2 => ⟨by decide, fun _ => c_laySizes hC1.1 hC1.2.2.1 (fun M2 hF2 h75 => ⟨by omega, ?_⟩), fun z => absurd (by decide) z⟩) (fun q2 => absurd (show 0 ≤ v ∧ v < M1 50 5 by rw [e50]; omega) q2))
  have bS := Sz_bd (g := g) (d := d) (tg := tg) (re tg v)
  have fin : K2 (Sz g d tg (re tg v)) M2 := k2 M2 ⟨g, d, tg, hC1.keep (Keep.of hF2 (by decide)), (hc.walk (fun x hx => hF x (by revert hx; revert x; decide)) (by omega) hW.2.1).fr hF2 (by decide)⟩
  rw [h75 v q.1 (by omega)]
  unfold zz
  by_cases e : Sz g d tg (re tg v) = -9
  · rw [if_pos e]
    rw [e] at fin
    exact ⟨by decide, fun z => absurd z (by decide), fun _ => fin⟩
  · rw [if_neg e]
    exact ⟨by omega, fun _ => ⟨by omega, fin⟩, fun z => by omega⟩
end
