/-! the walk over the resolved nodes of a term -/
def Un (s l : Nat) (d : Nd) (M : Mem) : Nat := cnt (fun i => !decide (M l i = M s 3)) (nN d).toNat
def Wki (s o l : Nat) (g : Sg) (d : Nd) (tg : Int → Int) (M : Mem) : Prop :=
  (0 ≤ M s 3 ∧ M s 3 ≤ 1000000) ∧ (∀ n, 0 ≤ n → n < 100 → 0 ≤ M l n ∧ M l n ≤ M s 3) ∧ (0 ≤ M s 2 ∧ M s 2 + (Un s l d M : Nat) ≤ nN d) ∧
  (∀ i, 0 ≤ i → i < M s 2 → (0 ≤ M o i ∧ M o i < nN d) ∧ tg (M o i) < 0 ∧ M l (M o i) = M s 3) ∧
  (∀ n, 0 ≤ n → n < 100 → M l n = M s 3 → ∃ i, (0 ≤ i ∧ i < M s 2) ∧ M o i = n) ∧
  (∀ i j, 0 ≤ i → i < j → j < M s 2 → M o i ≠ M o j) ∧
  (∀ i k, 0 ≤ i → i < M s 2 → 0 ≤ k → k < pq g d (M o i) → ∃ j, (0 ≤ j ∧ j < i) ∧ M o j = kq d tg (M o i) k)
/-- sets that hold the parts of what they hold -/
def Clo (g : Sg) (d : Nd) (tg : Int → Int) (P : Int → Prop) : Prop := ∀ n k, 0 ≤ n → n < nN d → 0 ≤ k → k < pq g d n → P n → P (kq d tg n k)
theorem kq_in2 {g : Sg} {d : Nd} {tg : Int → Int} {r : Int → Nat} (hN : NdOK g d) (hT : TgOK d tg) (hG : Gr g d tg r) {n k : Int} (h0 : 0 ≤ n) (h1 : n < nN d) (hk : 0 ≤ k ∧ k < pq g d n) : (0 ≤ kq d tg n k ∧ kq d tg n k < nN d) ∧ tg (kq d tg n k) < 0 ∧ r (kq d tg n k) < r n := by
  have p := pq_pos hk
  have q := kq_in hN hT hG h0 h1 p.1 ⟨hk.1, p.2⟩
  exact ⟨q.1, q.2.1, q.2.2.1⟩
theorem c_begin {g : Sg} {d : Nd} {tg : Int → Int} {M : Mem} {K : Mem → Prop} (hN : NdOK g d) (hb : 0 ≤ M 28 3 ∧ M 28 3 < 1000000) (hl : ∀ n, 0 ≤ n → n < 100 → 0 ≤ M 30 n ∧ M 30 n ≤ M 28 3) (kk : ∀ M', Fr [28] M M' → M' 28 3 = M 28 3 + 1 → Wki 28 29 30 g d tg M' → (∀ n, 0 ≤ n → n < 100 → M' 30 n ≠ M' 28 3) → K M') : CV mX10_begin [vR 28] M K := by
  refine en_X10_begin (kk _ (((Fr.refl _ M).up (by decide)).up (by decide)) rfl ?_ ?_)
  · have e1 : up (up M 28 3 (M 28 3 + 1)) 28 2 0 28 3 = M 28 3 + 1 := rfl
    have e2 : up (up M 28 3 (M 28 3 + 1)) 28 2 0 28 2 = 0 := rfl
    have e3 : up (up M 28 3 (M 28 3 + 1)) 28 2 0 30 = M 30 := rfl
    have b := hN.1
    have hU := cnt_le (p := fun i : Nat => !decide (up (up M 28 3 (M 28 3 + 1)) 28 2 0 30 i = up (up M 28 3 (M 28 3 + 1)) 28 2 0 28 3)) (nN d).toNat
    refine ⟨by rw [e1]; omega, fun n n0 n1 => ?_, ⟨by rw [e2]; omega, ?_⟩, fun i i0 i1 => ?_, fun n n0 n1 hn => ?_, fun i j i0 ij j1 => ?_, fun i k i0 i1 => ?_⟩
    · rw [e1, e3]
      have := hl n n0 n1
      omega
    · rw [e2]
      show 0 + (cnt _ _ : Int) ≤ _
      omega
    · rw [e2] at i1; omega
    · rw [e1, e3] at hn
      have := hl n n0 n1
      omega
    · rw [e2] at j1; omega
    · rw [e2] at i1; omega
  · intro n n0 n1
    have e1 : up (up M 28 3 (M 28 3 + 1)) 28 2 0 28 3 = M 28 3 + 1 := rfl
    have e3 : up (up M 28 3 (M 28 3 + 1)) 28 2 0 30 = M 30 := rfl
    rw [e1, e3]
    have := hl n n0 n1
    omega
theorem c_unlisted {g : Sg} {d : Nd} {tg : Int → Int} {M : Mem} {K : Int → Mem → Prop} (hS : StOK g d tg) (hX : XR g d tg M) (hb : 0 ≤ M 28 3 ∧ M 28 3 ≤ 1000000) (hl : ∀ n, 0 ≤ n → n < 100 → 0 ≤ M 30 n ∧ M 30 n ≤ M 28 3) {n : Int} (h0 : 0 ≤ n) (h1 : n < nN d) (k0 : (∀ k, 0 ≤ k → k < pq g d n → M 30 (kq d tg n k) = M 28 3) → K (-13) M) (k1 : ∀ k, 0 ≤ k → k < pq g d n → M 30 (kq d tg n k) ≠ M 28 3 → K (kq d tg n k) M) : CI mX10_unlistedPart [vR 28, vI n] M K := by
  obtain ⟨r, hG⟩ := hS.2.2.2
  have hp := pq_bd hS.1 hS.2.1 h0 h1
  have b := hS.2.1.1
  have loop : ∀ (m : Nat) (j : Int), (pq g d n - j).toNat = m → 0 ≤ j → j ≤ pq g d n → (∀ k, 0 ≤ k → k < j → M 30 (kq d tg n k) = M 28 3) → AW mX10_unlistedPart 2 [some (vR 28), some (vI n), some (vI j), none] [] M (QI K) := by
    intro m
    induction m with
    | zero =>
      intro j hm j0 j1 hall
      exact sg_X10_unlistedPart_2 (c_partTotal hS hX h0 h1 ⟨by omega, fun _ => k0 (fun k z0 z1 => hall k z0 (by omega)), fun z => by omega⟩)
    | succ m ih =>
      intro j hm j0 j1 hall
      have hin := (kq_in2 hS.2.1 hS.2.2.1 hG h0 h1 (show 0 ≤ j ∧ j < pq g d n by omega)).1
      have hlk := hl (kq d tg n j) hin.1 (by omega)
      refine sg_X10_unlistedPart_2 (c_partTotal hS hX h0 h1 ⟨by omega, fun z => by omega, fun _ => c_resolvedPart hS hX h0 h1 (by omega) (en_X10_hasListed ⟨by omega, by omega, fun z => ⟨by decide, fun y => absurd rfl y, fun _ => k1 j j0 (by omega) z⟩, fun z => ⟨by decide, fun _ => ih (j + 1) (by omega) (by omega) (by omega) (fun k z0 z1 => ?_), fun y => absurd (by decide) y⟩⟩)⟩)
      by_cases e : k = j
      · rw [e]; exact Decidable.not_not.mp z
      · exact hall k z0 (by omega)
  exact en_X10_unlistedPart (loop _ 0 rfl (by omega) (by omega) (fun k z0 z1 => by omega))
theorem c_visit {g : Sg} {d : Nd} {tg : Int → Int} {M : Mem} {K : Mem → Prop} (hS : StOK g d tg) (hX : XR g d tg M) (hW : Wki 28 29 30 g d tg M) {n : Int} (h0 : 0 ≤ n) (h1 : n < nN d)
    (kk : ∀ M', Fr [28, 29, 30, 31] M M' → M' 28 3 = M 28 3 → Wki 28 29 30 g d tg M' → M' 30 (re tg n) = M' 28 3 → (∀ x, 0 ≤ x → x < 100 → M 30 x = M 28 3 → M' 30 x = M' 28 3) → (∀ P : Int → Prop, Clo g d tg P → P (re tg n) → (∀ x, 0 ≤ x → x < 100 → M 30 x = M 28 3 → P x) → ∀ x, 0 ≤ x → x < 100 → M' 30 x = M' 28 3 → P x) → K M') : CV mX10_visit [vR 28, vI n] M K := by
  obtain ⟨r, hG⟩ := hS.2.2.2
  have b := hS.2.1.1
  have htop := re_in hS.2.2.1 hG h0 h1
  have htt := re_tg hS.2.2.1 hG h0 h1
  have hlt := hW.2.1 (re tg n) htop.1 (by omega)
  have hb := hW.1
  refine en_X10_visit (c_resolve hS hX h0 h1 (en_X10_hasListed ⟨by omega, by omega, fun z => ⟨by decide, fun _ => ?_, fun y => absurd rfl y⟩, fun z => ⟨by decide, fun y => absurd y (by decide), fun _ => kk M (Fr.refl _ _) rfl hW (Decidable.not_not.mp z) (fun x _ _ q => q) (fun P _ _ hP => hP)⟩⟩))
  have loop : ∀ (m : Nat) (M1 : Mem) (dp st : Int), 2 * Un 28 30 d M1 + (100 - dp).toNat = m → 0 ≤ dp → dp ≤ 100 → 0 ≤ st → st + m ≤ 300 → Fr [28, 29, 30, 31] M M1 → M1 28 3 = M 28 3 → Wki 28 29 30 g d tg M1 →
      (∀ i, 0 ≤ i → i < dp → (0 ≤ M1 31 i ∧ M1 31 i < nN d) ∧ tg (M1 31 i) < 0 ∧ M1 30 (M1 31 i) ≠ M1 28 3 ∧ (r (M1 31 i) : Int) + i ≤ 99) →
      (∀ i j, 0 ≤ i → i < j → j < dp → M1 31 i ≠ M1 31 j) →
      (M1 30 (re tg n) = M1 28 3 ∨ (1 ≤ dp ∧ M1 31 0 = re tg n)) → (∀ x, 0 ≤ x → x < 100 → M 30 x = M 28 3 → M1 30 x = M1 28 3) →
      (∀ P : Int → Prop, Clo g d tg P → P (re tg n) → (∀ x, 0 ≤ x → x < 100 → M 30 x = M 28 3 → P x) → (∀ x, 0 ≤ x → x < 100 → M1 30 x = M1 28 3 → P x) ∧ ∀ i, 0 ≤ i → i < dp → P (M1 31 i)) →
      (∀ i j, 0 ≤ i → i < j → j < dp → r (M1 31 j) < r (M1 31 i)) →
      AW mX10_visit 30 [some (vR 28), some (vI n), some (vI (re tg n)), some (vI dp), some (vI st), none, none] [] M1 (QV K) := by
    intro m
    induction m using Nat.strongRecOn with
    | ind m ih =>
      intro M1 dp st hm d0 d1 s0 s1 hF e3 hW1 hP hD hT hMo hCl hR
      have hX1 := hX.fr hF (by decide)
      by_cases ez : dp ≤ 0
      · refine sg_X10_visit_30 ⟨by omega, fun _ => kk M1 hF e3 hW1 ?_ hMo (fun P c1 c2 c3 => (hCl P c1 c2 c3).1), fun z => absurd ez z⟩
        rcases hT with z | z
        · exact z
        · omega
      have hl := hP (dp - 1) (by omega) (by omega)
      obtain ⟨w0, w1, w2, w3, w4, w5, w6⟩ := hW1
      refine sg_X10_visit_30 ⟨by omega, fun z => absurd z ez, fun _ => ⟨by omega, fun z => by omega, fun _ => ⟨by omega, c_unlisted hS hX1 w0 w1 hl.1.1 hl.1.2 (fun hall => ⟨by decide, fun _ => ?_, fun y => absurd rfl y⟩) (fun k k0 k1 hk => ?_)⟩⟩⟩
      · -- all parts are listed: this one now
        generalize hx : M1 31 (dp - 1) = x
        rw [hx] at hl hall
        have hU : 0 < Un 28 30 d M1 := by
          have := cnt_lt (p := fun _ => false) (q := fun i : Nat => !decide (M1 30 i = M1 28 3)) (n := (nN d).toNat) (fun i hi hp => absurd hp (by decide)) x.toNat (by omega) (by
            rw [show ((x.toNat : Nat) : Int) = x by omega, decide_eq_false hl.2.2.1]
            rfl) rfl
          unfold Un
          omega
        refine sg_X10_visit_86 (en_X10_list ⟨by omega, fun z => by omega, fun _ => ⟨by omega, by omega, sg_X10_visit_95 ?_⟩⟩)
        generalize hM2 : up (up (up M1 30 x (M1 28 3)) 29 (M1 28 2) x) 28 2 (M1 28 2 + 1) = M2
        have a3 : M2 28 3 = M1 28 3 := by rw [← hM2]; rfl
        have a2 : M2 28 2 = M1 28 2 + 1 := by rw [← hM2]; rfl
        have a30 : M2 30 = fun i => if i = x then M1 28 3 else M1 30 i := by rw [← hM2]; rfl
        have a29 : M2 29 = fun i => if i = M1 28 2 then x else M1 29 i := by rw [← hM2]; rfl
        have a31 : M2 31 = M1 31 := by rw [← hM2]; rfl
        have lx : M2 30 x = M2 28 3 := by rw [a30, a3]; dsimp only; rw [if_pos rfl]
        have ln : ∀ y, y ≠ x → M2 30 y = M1 30 y := fun y hy => by rw [a30]; dsimp only; rw [if_neg hy]
        have on : M2 29 (M1 28 2) = x := by rw [a29]; dsimp only; rw [if_pos rfl]
        have oo : ∀ i, i ≠ M1 28 2 → M2 29 i = M1 29 i := fun y hy => by rw [a29]; dsimp only; rw [if_neg hy]
        have lm : ∀ y, M1 30 y = M1 28 3 → M2 30 y = M2 28 3 := by
          intro y hy
          by_cases e : y = x
          · rw [e]; exact lx
          · rw [ln y e, a3]; exact hy
        have hU2 : Un 28 30 d M2 < Un 28 30 d M1 := by
          unfold Un
          refine cnt_lt (fun i hi hp => ?_) x.toNat (by omega) ?_ ?_
          · by_cases e : (i : Int) = x
            · rw [e, lx] at hp
              simp at hp
            · rw [ln _ e, a3] at hp
              exact hp
          · rw [show ((x.toNat : Nat) : Int) = x by omega, decide_eq_false hl.2.2.1]
            rfl
          · rw [show ((x.toNat : Nat) : Int) = x by omega, decide_eq_true lx]
            rfl
        have hF2 : Fr [28, 29, 30, 31] M M2 := by
          rw [← hM2]
          exact ((hF.up (by decide)).up (by decide)).up (by decide)
        have hW2 : Wki 28 29 30 g d tg M2 := by
          refine ⟨by rw [a3]; exact w0, fun y y0 y1 => ?_, ⟨by rw [a2]; omega, by rw [a2]; omega⟩, fun i i0 i1 => ?_, fun y y0 y1 hy => ?_, fun i j i0 ij j1 => ?_, fun i k i0 i1 k0 k1 => ?_⟩
          · by_cases e : y = x
            · rw [e, lx, a3]; omega
            · rw [ln y e, a3]; exact w1 y y0 y1
          · rw [a2] at i1
            by_cases e : i = M1 28 2
            · rw [e, on]
              exact ⟨hl.1, hl.2.1, lx⟩
            · rw [oo i e]
              have := w3 i i0 (by omega)
              exact ⟨this.1, this.2.1, lm _ this.2.2⟩
          · by_cases e : y = x
            · exact ⟨M1 28 2, by rw [a2]; omega, by rw [on, e]⟩
            · rw [ln y e, a3] at hy
              obtain ⟨i, hi, he⟩ := w4 y y0 y1 hy
              exact ⟨i, by rw [a2]; omega, by rw [oo i (by omega)]; exact he⟩
          · rw [a2] at j1
            rw [oo i (by omega)]
            by_cases e : j = M1 28 2
            · rw [e, on]
              intro z
              have := w3 i i0 (by omega)
              rw [z] at this
              exact hl.2.2.1 this.2.2
            · rw [oo j e]
              exact w5 i j i0 ij (by omega)
          · rw [a2] at i1
            by_cases e : i = M1 28 2
            · rw [e, on] at k1 ⊢
              have hin := (kq_in2 hS.2.1 hS.2.2.1 hG hl.1.1 hl.1.2 ⟨k0, k1⟩).1
              obtain ⟨j, hj, he⟩ := w4 _ hin.1 (by omega) (hall k k0 k1)
              exact ⟨j, by omega, by rw [oo j (by omega)]; exact he⟩
            · rw [oo i e] at k1 ⊢
              obtain ⟨j, hj, he⟩ := w6 i k i0 (by omega) k0 k1
              exact ⟨j, by omega, by rw [oo j (by omega)]; exact he⟩
        refine ih (2 * Un 28 30 d M2 + (100 - (dp + -1)).toNat) (by omega) M2 (dp + -1) (st + 1) rfl (by omega) (by omega) (by omega) (by omega) hF2 (by rw [a3]; exact e3) hW2 (fun i i0 i1 => ?_) ?_ ?_ (fun y y0 y1 hy => lm y (hMo y y0 y1 hy)) (fun P c1 c2 c3 => ?_) ?_
        · rw [a31]
          have q := hP i i0 (by omega)
          refine ⟨q.1, q.2.1, ?_, q.2.2.2⟩
          have ne : M1 31 i ≠ x := by rw [← hx]; exact hD i (dp - 1) i0 (by omega) (by omega)
          rw [ln _ ne, a3]
          exact q.2.2.1
        · rw [a31]
          exact fun i j i0 ij j1 => hD i j i0 ij (by omega)
        · rcases hT with z | z
          · exact Or.inl (lm _ z)
          · by_cases e : dp = 1
            · left
              have : x = re tg n := by rw [← hx, ← z.2, e]; rfl
              rw [← this]; exact lx
            · right
              rw [a31]
              exact ⟨by omega, z.2⟩
        · have q := hCl P c1 c2 c3
          refine ⟨fun y y0 y1 hy => ?_, fun i i0 i1 => by rw [a31]; exact q.2 i i0 (by omega)⟩
          by_cases e : y = x
          · rw [e, ← hx]; exact q.2 _ (by omega) (by omega)
          · rw [ln y e, a3] at hy
            exact q.1 y y0 y1 hy
        · rw [a31]
          exact fun i j i0 ij j1 => hR i j i0 ij (by omega)
      · -- a part that isn't listed
        generalize hx : M1 31 (dp - 1) = x
        rw [hx] at hl k1 hk
        have hin := kq_in2 hS.2.1 hS.2.2.1 hG hl.1.1 hl.1.2 ⟨k0, k1⟩
        refine ⟨by omega, fun z => by omega, fun _ => ⟨by omega, fun z => by omega, fun _ => ⟨by omega, sg_X10_visit_95 ?_⟩⟩⟩
        generalize hM2 : up M1 31 dp (kq d tg x k) = M2
        have a31 : M2 31 = fun i => if i = dp then kq d tg x k else M1 31 i := by rw [← hM2]; rfl
        have pn : M2 31 dp = kq d tg x k := by rw [a31]; dsimp only; rw [if_pos rfl]
        have po : ∀ i, i ≠ dp → M2 31 i = M1 31 i := fun y hy => by rw [a31]; dsimp only; rw [if_neg hy]
        have a28 : M2 28 = M1 28 := by rw [← hM2]; rfl
        have a29 : M2 29 = M1 29 := by rw [← hM2]; rfl
        have a30 : M2 30 = M1 30 := by rw [← hM2]; rfl
        have aU : Un 28 30 d M2 = Un 28 30 d M1 := by unfold Un; rw [a28, a30]
        have hF2 : Fr [28, 29, 30, 31] M M2 := by
          rw [← hM2]
          exact hF.up (by decide)
        have hW2 : Wki 28 29 30 g d tg M2 := by
          unfold Wki
          rw [aU, a28, a29, a30]
          exact ⟨w0, w1, w2, w3, w4, w5, w6⟩
        have rlt : ∀ i, 0 ≤ i → i < dp → r (kq d tg x k) < r (M1 31 i) := by
          intro i i0 i1
          by_cases e : i = dp - 1
          · rw [e, hx]; exact hin.2.2
          · have := hR i (dp - 1) i0 (by omega) (by omega)
            rw [hx] at this
            omega
        refine ih (2 * Un 28 30 d M2 + (100 - (dp + 1)).toNat) (by omega) M2 (dp + 1) (st + 1) rfl (by omega) (by omega) (by omega) (by omega) hF2 (by rw [a28]; exact e3) hW2 (fun i i0 i1 => ?_) (fun i j i0 ij j1 => ?_) ?_ ?_ (fun P c1 c2 c3 => ?_) (fun i j i0 ij j1 => ?_)
        · rw [a30, a28]
          by_cases e : i = dp
          · rw [e, pn]
            exact ⟨hin.1, hin.2.1, hk, by omega⟩
          · rw [po i e]
            exact hP i i0 (by omega)
        · rw [po i (by omega)]
          by_cases e : j = dp
          · rw [e, pn]
            intro z
            have := rlt i i0 (by omega)
            rw [z] at this
            omega
          · rw [po j e]
            exact hD i j i0 ij (by omega)
        · rw [a30, a28, po 0 (by omega)]
          exact hT.imp id (fun z => ⟨by omega, z.2⟩)
        · rw [a30, a28]; exact hMo
        · have q := hCl P c1 c2 c3
          rw [a30, a28]
          refine ⟨q.1, fun i i0 i1 => ?_⟩
          by_cases e : i = dp
          · rw [e, pn]
            have := q.2 (dp - 1) (by omega) (by omega)
            rw [hx] at this
            exact c1 x k hl.1.1 hl.1.2 k0 k1 this
          · rw [po i e]
            exact q.2 i i0 (by omega)
        · rw [po i (by omega)]
          by_cases e : j = dp
          · rw [e, pn]; exact rlt i i0 (by omega)
          · rw [po j e]; exact hR i j i0 ij (by omega)
  have e31 : up M 31 0 (re tg n) 31 0 = re tg n := up_same
  have hW0 : Wki 28 29 30 g d tg (up M 31 0 (re tg n)) := hW
  have hU0 := cnt_le (p := fun i : Nat => !decide (up M 31 0 (re tg n) 30 i = up M 31 0 (re tg n) 28 3)) (nN d).toNat
  have hU1 : Un 28 30 d (up M 31 0 (re tg n)) ≤ (nN d).toNat := hU0
  have hr := hG.2 (re tg n)
  refine loop _ _ 1 0 rfl (by omega) (by omega) (by omega) (by omega) ((Fr.refl _ M).up (by decide)) rfl hW0 (fun i i0 i1 => ?_) (fun i j i0 ij j1 => by omega) (Or.inr ⟨by omega, e31⟩) (fun x _ _ hx => hx) (fun P c1 c2 c3 => ⟨c3, fun i i0 i1 => ?_⟩) (fun i j i0 ij j1 => by omega)
  · have e : i = 0 := by omega
    rw [e, e31]
    exact ⟨htop, htt, z, by omega⟩
  · have e : i = 0 := by omega
    rw [e, e31]
    exact c2
theorem c_begin_b {g : Sg} {d : Nd} {tg : Int → Int} {M : Mem} {K : Mem → Prop} (hN : NdOK g d) (hb : 0 ≤ M 37 3 ∧ M 37 3 < 1000000) (hl : ∀ n, 0 ≤ n → n < 100 → 0 ≤ M 39 n ∧ M 39 n ≤ M 37 3) (kk : ∀ M', Fr [37] M M' → M' 37 3 = M 37 3 + 1 → Wki 37 38 39 g d tg M' → (∀ n, 0 ≤ n → n < 100 → M' 39 n ≠ M' 37 3) → K M') : CV mX10_begin [vR 37] M K := by
  refine en_X10_begin_b (kk _ (((Fr.refl _ M).up (by decide)).up (by decide)) rfl ?_ ?_)
  · have e1 : up (up M 37 3 (M 37 3 + 1)) 37 2 0 37 3 = M 37 3 + 1 := rfl
    have e2 : up (up M 37 3 (M 37 3 + 1)) 37 2 0 37 2 = 0 := rfl
    have e3 : up (up M 37 3 (M 37 3 + 1)) 37 2 0 39 = M 39 := rfl
    have b := hN.1
    have hU := cnt_le (p := fun i : Nat => !decide (up (up M 37 3 (M 37 3 + 1)) 37 2 0 39 i = up (up M 37 3 (M 37 3 + 1)) 37 2 0 37 3)) (nN d).toNat
    refine ⟨by rw [e1]; omega, fun n n0 n1 => ?_, ⟨by rw [e2]; omega, ?_⟩, fun i i0 i1 => ?_, fun n n0 n1 hn => ?_, fun i j i0 ij j1 => ?_, fun i k i0 i1 => ?_⟩
    · rw [e1, e3]
      have := hl n n0 n1
      omega
    · rw [e2]
      show 0 + (cnt _ _ : Int) ≤ _
      omega
    · rw [e2] at i1; omega
    · rw [e1, e3] at hn
      have := hl n n0 n1
      omega
    · rw [e2] at j1; omega
    · rw [e2] at i1; omega
  · intro n n0 n1
    have e1 : up (up M 37 3 (M 37 3 + 1)) 37 2 0 37 3 = M 37 3 + 1 := rfl
    have e3 : up (up M 37 3 (M 37 3 + 1)) 37 2 0 39 = M 39 := rfl
    rw [e1, e3]
    have := hl n n0 n1
    omega
theorem c_unlisted_b {g : Sg} {d : Nd} {tg : Int → Int} {M : Mem} {K : Int → Mem → Prop} (hS : StOK g d tg) (hX : XR g d tg M) (hb : 0 ≤ M 37 3 ∧ M 37 3 ≤ 1000000) (hl : ∀ n, 0 ≤ n → n < 100 → 0 ≤ M 39 n ∧ M 39 n ≤ M 37 3) {n : Int} (h0 : 0 ≤ n) (h1 : n < nN d) (k0 : (∀ k, 0 ≤ k → k < pq g d n → M 39 (kq d tg n k) = M 37 3) → K (-13) M) (k1 : ∀ k, 0 ≤ k → k < pq g d n → M 39 (kq d tg n k) ≠ M 37 3 → K (kq d tg n k) M) : CI mX10_unlistedPart [vR 37, vI n] M K := by
  obtain ⟨r, hG⟩ := hS.2.2.2
  have hp := pq_bd hS.1 hS.2.1 h0 h1
  have b := hS.2.1.1
  have loop : ∀ (m : Nat) (j : Int), (pq g d n - j).toNat = m → 0 ≤ j → j ≤ pq g d n → (∀ k, 0 ≤ k → k < j → M 39 (kq d tg n k) = M 37 3) → AW mX10_unlistedPart 2 [some (vR 37), some (vI n), some (vI j), none] [] M (QI K) := by
    intro m
    induction m with
    | zero =>
      intro j hm j0 j1 hall
      exact sg_X10_unlistedPart_b_2 (c_partTotal hS hX h0 h1 ⟨by omega, fun _ => k0 (fun k z0 z1 => hall k z0 (by omega)), fun z => by omega⟩)
    | succ m ih =>
      intro j hm j0 j1 hall
      have hin := (kq_in2 hS.2.1 hS.2.2.1 hG h0 h1 (show 0 ≤ j ∧ j < pq g d n by omega)).1
      have hlk := hl (kq d tg n j) hin.1 (by omega)
      refine sg_X10_unlistedPart_b_2 (c_partTotal hS hX h0 h1 ⟨by omega, fun z => by omega, fun _ => c_resolvedPart hS hX h0 h1 (by omega) (en_X10_hasListed_b ⟨by omega, by omega, fun z => ⟨by decide, fun y => absurd rfl y, fun _ => k1 j j0 (by omega) z⟩, fun z => ⟨by decide, fun _ => ih (j + 1) (by omega) (by omega) (by omega) (fun k z0 z1 => ?_), fun y => absurd (by decide) y⟩⟩)⟩)
      by_cases e : k = j
      · rw [e]; exact Decidable.not_not.mp z
      · exact hall k z0 (by omega)
  exact en_X10_unlistedPart_b (loop _ 0 rfl (by omega) (by omega) (fun k z0 z1 => by omega))
theorem c_visit_b {g : Sg} {d : Nd} {tg : Int → Int} {M : Mem} {K : Mem → Prop} (hS : StOK g d tg) (hX : XR g d tg M) (hW : Wki 37 38 39 g d tg M) {n : Int} (h0 : 0 ≤ n) (h1 : n < nN d)
    (kk : ∀ M', Fr [37, 38, 39, 40] M M' → M' 37 3 = M 37 3 → Wki 37 38 39 g d tg M' → M' 39 (re tg n) = M' 37 3 → (∀ x, 0 ≤ x → x < 100 → M 39 x = M 37 3 → M' 39 x = M' 37 3) → (∀ P : Int → Prop, Clo g d tg P → P (re tg n) → (∀ x, 0 ≤ x → x < 100 → M 39 x = M 37 3 → P x) → ∀ x, 0 ≤ x → x < 100 → M' 39 x = M' 37 3 → P x) → K M') : CV mX10_visit [vR 37, vI n] M K := by
  obtain ⟨r, hG⟩ := hS.2.2.2
  have b := hS.2.1.1
  have htop := re_in hS.2.2.1 hG h0 h1
  have htt := re_tg hS.2.2.1 hG h0 h1
  have hlt := hW.2.1 (re tg n) htop.1 (by omega)
  have hb := hW.1
  refine en_X10_visit_b (c_resolve hS hX h0 h1 (en_X10_hasListed_b ⟨by omega, by omega, fun z => ⟨by decide, fun _ => ?_, fun y => absurd rfl y⟩, fun z => ⟨by decide, fun y => absurd y (by decide), fun _ => kk M (Fr.refl _ _) rfl hW (Decidable.not_not.mp z) (fun x _ _ q => q) (fun P _ _ hP => hP)⟩⟩))
  have loop : ∀ (m : Nat) (M1 : Mem) (dp st : Int), 2 * Un 37 39 d M1 + (100 - dp).toNat = m → 0 ≤ dp → dp ≤ 100 → 0 ≤ st → st + m ≤ 300 → Fr [37, 38, 39, 40] M M1 → M1 37 3 = M 37 3 → Wki 37 38 39 g d tg M1 →
      (∀ i, 0 ≤ i → i < dp → (0 ≤ M1 40 i ∧ M1 40 i < nN d) ∧ tg (M1 40 i) < 0 ∧ M1 39 (M1 40 i) ≠ M1 37 3 ∧ (r (M1 40 i) : Int) + i ≤ 99) →
      (∀ i j, 0 ≤ i → i < j → j < dp → M1 40 i ≠ M1 40 j) →
      (M1 39 (re tg n) = M1 37 3 ∨ (1 ≤ dp ∧ M1 40 0 = re tg n)) → (∀ x, 0 ≤ x → x < 100 → M 39 x = M 37 3 → M1 39 x = M1 37 3) →
      (∀ P : Int → Prop, Clo g d tg P → P (re tg n) → (∀ x, 0 ≤ x → x < 100 → M 39 x = M 37 3 → P x) → (∀ x, 0 ≤ x → x < 100 → M1 39 x = M1 37 3 → P x) ∧ ∀ i, 0 ≤ i → i < dp → P (M1 40 i)) →
      (∀ i j, 0 ≤ i → i < j → j < dp → r (M1 40 j) < r (M1 40 i)) →
      AW mX10_visit 30 [some (vR 37), some (vI n), some (vI (re tg n)), some (vI dp), some (vI st), none, none] [] M1 (QV K) := by
    intro m
    induction m using Nat.strongRecOn with
    | ind m ih =>
      intro M1 dp st hm d0 d1 s0 s1 hF e3 hW1 hP hD hT hMo hCl hR
      have hX1 := hX.fr hF (by decide)
      by_cases ez : dp ≤ 0
      · refine sg_X10_visit_b_30 ⟨by omega, fun _ => kk M1 hF e3 hW1 ?_ hMo (fun P c1 c2 c3 => (hCl P c1 c2 c3).1), fun z => absurd ez z⟩
        rcases hT with z | z
        · exact z
        · omega
      have hl := hP (dp - 1) (by omega) (by omega)
      obtain ⟨w0, w1, w2, w3, w4, w5, w6⟩ := hW1
      refine sg_X10_visit_b_30 ⟨by omega, fun z => absurd z ez, fun _ => ⟨by omega, fun z => by omega, fun _ => ⟨by omega, c_unlisted_b hS hX1 w0 w1 hl.1.1 hl.1.2 (fun hall => ⟨by decide, fun _ => ?_, fun y => absurd rfl y⟩) (fun k k0 k1 hk => ?_)⟩⟩⟩
      · -- all parts are listed: this one now
        generalize hx : M1 40 (dp - 1) = x
        rw [hx] at hl hall
        have hU : 0 < Un 37 39 d M1 := by
          have := cnt_lt (p := fun _ => false) (q := fun i : Nat => !decide (M1 39 i = M1 37 3)) (n := (nN d).toNat) (fun i hi hp => absurd hp (by decide)) x.toNat (by omega) (by
            rw [show ((x.toNat : Nat) : Int) = x by omega, decide_eq_false hl.2.2.1]
            rfl) rfl
          unfold Un
          omega
        refine sg_X10_visit_b_86 (en_X10_list_b ⟨by omega, fun z => by omega, fun _ => ⟨by omega, by omega, sg_X10_visit_b_95 ?_⟩⟩)
        generalize hM2 : up (up (up M1 39 x (M1 37 3)) 38 (M1 37 2) x) 37 2 (M1 37 2 + 1) = M2
        have a3 : M2 37 3 = M1 37 3 := by rw [← hM2]; rfl
        have a2 : M2 37 2 = M1 37 2 + 1 := by rw [← hM2]; rfl
        have a30 : M2 39 = fun i => if i = x then M1 37 3 else M1 39 i := by rw [← hM2]; rfl
        have a29 : M2 38 = fun i => if i = M1 37 2 then x else M1 38 i := by rw [← hM2]; rfl
        have a31 : M2 40 = M1 40 := by rw [← hM2]; rfl
        have lx : M2 39 x = M2 37 3 := by rw [a30, a3]; dsimp only; rw [if_pos rfl]
        have ln : ∀ y, y ≠ x → M2 39 y = M1 39 y := fun y hy => by rw [a30]; dsimp only; rw [if_neg hy]
        have on : M2 38 (M1 37 2) = x := by rw [a29]; dsimp only; rw [if_pos rfl]
        have oo : ∀ i, i ≠ M1 37 2 → M2 38 i = M1 38 i := fun y hy => by rw [a29]; dsimp only; rw [if_neg hy]
        have lm : ∀ y, M1 39 y = M1 37 3 → M2 39 y = M2 37 3 := by
          intro y hy
          by_cases e : y = x
          · rw [e]; exact lx
          · rw [ln y e, a3]; exact hy
        have hU2 : Un 37 39 d M2 < Un 37 39 d M1 := by
          unfold Un
          refine cnt_lt (fun i hi hp => ?_) x.toNat (by omega) ?_ ?_
          · by_cases e : (i : Int) = x
            · rw [e, lx] at hp
              simp at hp
            · rw [ln _ e, a3] at hp
              exact hp
          · rw [show ((x.toNat : Nat) : Int) = x by omega, decide_eq_false hl.2.2.1]
            rfl
          · rw [show ((x.toNat : Nat) : Int) = x by omega, decide_eq_true lx]
            rfl
        have hF2 : Fr [37, 38, 39, 40] M M2 := by
          rw [← hM2]
          exact ((hF.up (by decide)).up (by decide)).up (by decide)
        have hW2 : Wki 37 38 39 g d tg M2 := by
          refine ⟨by rw [a3]; exact w0, fun y y0 y1 => ?_, ⟨by rw [a2]; omega, by rw [a2]; omega⟩, fun i i0 i1 => ?_, fun y y0 y1 hy => ?_, fun i j i0 ij j1 => ?_, fun i k i0 i1 k0 k1 => ?_⟩
          · by_cases e : y = x
            · rw [e, lx, a3]; omega
            · rw [ln y e, a3]; exact w1 y y0 y1
          · rw [a2] at i1
            by_cases e : i = M1 37 2
            · rw [e, on]
              exact ⟨hl.1, hl.2.1, lx⟩
            · rw [oo i e]
              have := w3 i i0 (by omega)
              exact ⟨this.1, this.2.1, lm _ this.2.2⟩
          · by_cases e : y = x
            · exact ⟨M1 37 2, by rw [a2]; omega, by rw [on, e]⟩
            · rw [ln y e, a3] at hy
              obtain ⟨i, hi, he⟩ := w4 y y0 y1 hy
              exact ⟨i, by rw [a2]; omega, by rw [oo i (by omega)]; exact he⟩
          · rw [a2] at j1
            rw [oo i (by omega)]
            by_cases e : j = M1 37 2
            · rw [e, on]
              intro z
              have := w3 i i0 (by omega)
              rw [z] at this
              exact hl.2.2.1 this.2.2
            · rw [oo j e]
              exact w5 i j i0 ij (by omega)
          · rw [a2] at i1
            by_cases e : i = M1 37 2
            · rw [e, on] at k1 ⊢
              have hin := (kq_in2 hS.2.1 hS.2.2.1 hG hl.1.1 hl.1.2 ⟨k0, k1⟩).1
              obtain ⟨j, hj, he⟩ := w4 _ hin.1 (by omega) (hall k k0 k1)
              exact ⟨j, by omega, by rw [oo j (by omega)]; exact he⟩
            · rw [oo i e] at k1 ⊢
              obtain ⟨j, hj, he⟩ := w6 i k i0 (by omega) k0 k1
              exact ⟨j, by omega, by rw [oo j (by omega)]; exact he⟩
        refine ih (2 * Un 37 39 d M2 + (100 - (dp + -1)).toNat) (by omega) M2 (dp + -1) (st + 1) rfl (by omega) (by omega) (by omega) (by omega) hF2 (by rw [a3]; exact e3) hW2 (fun i i0 i1 => ?_) ?_ ?_ (fun y y0 y1 hy => lm y (hMo y y0 y1 hy)) (fun P c1 c2 c3 => ?_) ?_
        · rw [a31]
          have q := hP i i0 (by omega)
          refine ⟨q.1, q.2.1, ?_, q.2.2.2⟩
          have ne : M1 40 i ≠ x := by rw [← hx]; exact hD i (dp - 1) i0 (by omega) (by omega)
          rw [ln _ ne, a3]
          exact q.2.2.1
        · rw [a31]
          exact fun i j i0 ij j1 => hD i j i0 ij (by omega)
        · rcases hT with z | z
          · exact Or.inl (lm _ z)
          · by_cases e : dp = 1
            · left
              have : x = re tg n := by rw [← hx, ← z.2, e]; rfl
              rw [← this]; exact lx
            · right
              rw [a31]
              exact ⟨by omega, z.2⟩
        · have q := hCl P c1 c2 c3
          refine ⟨fun y y0 y1 hy => ?_, fun i i0 i1 => by rw [a31]; exact q.2 i i0 (by omega)⟩
          by_cases e : y = x
          · rw [e, ← hx]; exact q.2 _ (by omega) (by omega)
          · rw [ln y e, a3] at hy
            exact q.1 y y0 y1 hy
        · rw [a31]
          exact fun i j i0 ij j1 => hR i j i0 ij (by omega)
      · -- a part that isn't listed
        generalize hx : M1 40 (dp - 1) = x
        rw [hx] at hl k1 hk
        have hin := kq_in2 hS.2.1 hS.2.2.1 hG hl.1.1 hl.1.2 ⟨k0, k1⟩
        refine ⟨by omega, fun z => by omega, fun _ => ⟨by omega, fun z => by omega, fun _ => ⟨by omega, sg_X10_visit_b_95 ?_⟩⟩⟩
        generalize hM2 : up M1 40 dp (kq d tg x k) = M2
        have a31 : M2 40 = fun i => if i = dp then kq d tg x k else M1 40 i := by rw [← hM2]; rfl
        have pn : M2 40 dp = kq d tg x k := by rw [a31]; dsimp only; rw [if_pos rfl]
        have po : ∀ i, i ≠ dp → M2 40 i = M1 40 i := fun y hy => by rw [a31]; dsimp only; rw [if_neg hy]
        have a28 : M2 37 = M1 37 := by rw [← hM2]; rfl
        have a29 : M2 38 = M1 38 := by rw [← hM2]; rfl
        have a30 : M2 39 = M1 39 := by rw [← hM2]; rfl
        have aU : Un 37 39 d M2 = Un 37 39 d M1 := by unfold Un; rw [a28, a30]
        have hF2 : Fr [37, 38, 39, 40] M M2 := by
          rw [← hM2]
          exact hF.up (by decide)
        have hW2 : Wki 37 38 39 g d tg M2 := by
          unfold Wki
          rw [aU, a28, a29, a30]
          exact ⟨w0, w1, w2, w3, w4, w5, w6⟩
        have rlt : ∀ i, 0 ≤ i → i < dp → r (kq d tg x k) < r (M1 40 i) := by
          intro i i0 i1
          by_cases e : i = dp - 1
          · rw [e, hx]; exact hin.2.2
          · have := hR i (dp - 1) i0 (by omega) (by omega)
            rw [hx] at this
            omega
        refine ih (2 * Un 37 39 d M2 + (100 - (dp + 1)).toNat) (by omega) M2 (dp + 1) (st + 1) rfl (by omega) (by omega) (by omega) (by omega) hF2 (by rw [a28]; exact e3) hW2 (fun i i0 i1 => ?_) (fun i j i0 ij j1 => ?_) ?_ ?_ (fun P c1 c2 c3 => ?_) (fun i j i0 ij j1 => ?_)
        · rw [a30, a28]
          by_cases e : i = dp
          · rw [e, pn]
            exact ⟨hin.1, hin.2.1, hk, by omega⟩
          · rw [po i e]
            exact hP i i0 (by omega)
        · rw [po i (by omega)]
          by_cases e : j = dp
          · rw [e, pn]
            intro z
            have := rlt i i0 (by omega)
            rw [z] at this
            omega
          · rw [po j e]
            exact hD i j i0 ij (by omega)
        · rw [a30, a28, po 0 (by omega)]
          exact hT.imp id (fun z => ⟨by omega, z.2⟩)
        · rw [a30, a28]; exact hMo
        · have q := hCl P c1 c2 c3
          rw [a30, a28]
          refine ⟨q.1, fun i i0 i1 => ?_⟩
          by_cases e : i = dp
          · rw [e, pn]
            have := q.2 (dp - 1) (by omega) (by omega)
            rw [hx] at this
            exact c1 x k hl.1.1 hl.1.2 k0 k1 this
          · rw [po i e]
            exact q.2 i i0 (by omega)
        · rw [po i (by omega)]
          by_cases e : j = dp
          · rw [e, pn]; exact rlt i i0 (by omega)
          · rw [po j e]; exact hR i j i0 ij (by omega)
  have e31 : up M 40 0 (re tg n) 40 0 = re tg n := up_same
  have hW0 : Wki 37 38 39 g d tg (up M 40 0 (re tg n)) := hW
  have hU0 := cnt_le (p := fun i : Nat => !decide (up M 40 0 (re tg n) 39 i = up M 40 0 (re tg n) 37 3)) (nN d).toNat
  have hU1 : Un 37 39 d (up M 40 0 (re tg n)) ≤ (nN d).toNat := hU0
  have hr := hG.2 (re tg n)
  refine loop _ _ 1 0 rfl (by omega) (by omega) (by omega) (by omega) ((Fr.refl _ M).up (by decide)) rfl hW0 (fun i i0 i1 => ?_) (fun i j i0 ij j1 => by omega) (Or.inr ⟨by omega, e31⟩) (fun x _ _ hx => hx) (fun P c1 c2 c3 => ⟨c3, fun i i0 i1 => ?_⟩) (fun i j i0 ij j1 => by omega)
  · have e : i = 0 := by omega
    rw [e, e31]
    exact ⟨htop, htt, z, by omega⟩
  · have e : i = 0 := by omega
    rw [e, e31]
    exact c2
