/-! ranks of ground terms of sizes up to 12 -/
def bsm (g : Sg) (c k lft a : Int) : Nat → Int
  | 0 => a
  | m + 1 => cap (bsm g c k lft a m + cap (Cs g (gG g (c * 3 + k)) ((m : Int) + 1) * Ws g c (k + 1) (lft - ((m : Int) + 1))))
theorem bsm_bd {g : Sg} {c k lft a : Int} (h : 0 ≤ a ∧ a ≤ 1000000) : ∀ m, 0 ≤ bsm g c k lft a m ∧ bsm g c k lft a m ≤ 1000000
  | 0 => h
  | m + 1 => by
    have i := bsm_bd (g := g) (c := c) (k := k) (lft := lft) h m
    have p := mul_bd (Cs_bd (g := g) (gG g (c * 3 + k)) ((m : Int) + 1)) (Ws_bd (g := g) c (k + 1) (lft - ((m : Int) + 1)))
    have q := cap_nn p.1
    simp only [bsm]
    exact ⟨cap_nn (by omega), cap_le _⟩
section
variable (g : Sg) (d : Nd) (tg : Int → Int)
def ixk (R : Int → Int) (n : Int) : Nat → Int
  | 0 => Ss g (nC d n) (Sz g d tg n)
  | j + 1 => cap (bsm g (nC d n) (j : Int) (Sz g d tg n - szc (Sz g d tg) d tg n j) (ixk R n j) (Sz g d tg (kq d tg n (j : Int)) - 1).toNat + cap (R (kq d tg n (j : Int)) * Ws g (nC d n) ((j : Int) + 1) (Sz g d tg n - szc (Sz g d tg) d tg n (j + 1))))
def rkf : Nat → Int → Int
  | 0, _ => 0
  | f + 1, n => ixk g d tg (rkf f) n (pq g d n).toNat
def Rk (n : Int) : Int := rkf g d tg 100 n
end
section
variable {g : Sg} {d : Nd} {tg : Int → Int}
theorem ixk_bd {R : Int → Int} {n : Int} (hR : ∀ x, 0 ≤ R x ∧ R x ≤ 1000000) : ∀ j, 0 ≤ ixk g d tg R n j ∧ ixk g d tg R n j ≤ 1000000
  | 0 => Ss_bd _ _
  | j + 1 => by
    have i := bsm_bd (g := g) (c := nC d n) (k := (j : Int)) (lft := Sz g d tg n - szc (Sz g d tg) d tg n j) (ixk_bd (n := n) hR j) (Sz g d tg (kq d tg n (j : Int)) - 1).toNat
    have p := mul_bd (hR (kq d tg n (j : Int))) (Ws_bd (g := g) (nC d n) ((j : Int) + 1) (Sz g d tg n - szc (Sz g d tg) d tg n (j + 1)))
    have q := cap_nn p.1
    simp only [ixk]
    exact ⟨cap_nn (by omega), cap_le _⟩
theorem rkf_bd : ∀ (f : Nat) (n : Int), 0 ≤ rkf g d tg f n ∧ rkf g d tg f n ≤ 1000000
  | 0, _ => by simp only [rkf]; omega
  | f + 1, n => ixk_bd (fun x => rkf_bd f x) _
theorem Rk_bd (n : Int) : 0 ≤ Rk g d tg n ∧ Rk g d tg n ≤ 1000000 := rkf_bd 100 n
theorem ixk_congr {R R2 : Int → Int} {n : Int} : ∀ (j : Nat), (∀ k : Nat, k < j → R (kq d tg n (k : Int)) = R2 (kq d tg n (k : Int))) → ixk g d tg R n j = ixk g d tg R2 n j
  | 0, _ => rfl
  | j + 1, h => by
    simp only [ixk]
    rw [ixk_congr j (fun k hk => h k (by omega)), h j (by omega)]
theorem rkf_stable {r : Int → Nat} (hN : NdOK g d) (hT : TgOK d tg) (hG : Gr g d tg r) : ∀ (f f2 : Nat) (n : Int), 0 ≤ n → n < nN d → r n < f → r n < f2 → rkf g d tg f n = rkf g d tg f2 n
  | 0, _, _, _, _, h, _ => absurd h (by omega)
  | _ + 1, 0, _, _, _, _, h => absurd h (by omega)
  | f + 1, f2 + 1, n, h0, h1, h2, h3 => by
    simp only [rkf]
    refine ixk_congr _ (fun k hk => ?_)
    have q := kq_in2 hN hT hG h0 h1 (show 0 ≤ (k : Int) ∧ (k : Int) < pq g d n by omega)
    exact rkf_stable hN hT hG f f2 _ q.1.1 q.1.2 (by omega) (by omega)
theorem Rk_eq {r : Int → Nat} (hN : NdOK g d) (hT : TgOK d tg) (hG : Gr g d tg r) {n : Int} (h0 : 0 ≤ n) (h1 : n < nN d) : Rk g d tg n = ixk g d tg (Rk g d tg) n (pq g d n).toNat := by
  unfold Rk
  have hr := hG.2 n
  rw [rkf_stable hN hT hG 100 101 n h0 h1 (by omega) (by omega)]
  rfl
/-- small ground terms: sizes add up -/
theorem szc_small {n : Int} {s : Int} (hs : s ≤ 60) : ∀ (J : Nat), szc (Sz g d tg) d tg n J = s → s ≠ -9 → ∀ j, j < J → 1 ≤ szc (Sz g d tg) d tg n j ∧ szc (Sz g d tg) d tg n (j + 1) = szc (Sz g d tg) d tg n j + Sz g d tg (kq d tg n (j : Int)) ∧ 1 ≤ Sz g d tg (kq d tg n (j : Int)) ∧ szc (Sz g d tg) d tg n (j + 1) ≤ s := by
  intro J
  induction J generalizing s with
  | zero => intro _ _ j hj; omega
  | succ J ih =>
    intro he hn j hj
    have bS := Sz_bd (g := g) (d := d) (tg := tg) (kq d tg n (J : Int))
    have bz := szc_bd (S := Sz g d tg) (d := d) (tg := tg) (n := n) J (fun k _ => Sz_bd _)
    have he2 := he
    simp only [szc] at he2
    split at he2
    · omega
    · rename_i q
      have e3 : szc (Sz g d tg) d tg n J + Sz g d tg (kq d tg n (J : Int)) = s := by
        unfold cap at he2
        split at he2 <;> omega
      by_cases e : j = J
      · subst e
        refine ⟨by omega, by rw [he]; omega, by omega, by omega⟩
      · have w := ih (s := szc (Sz g d tg) d tg n J) (by omega) rfl (by omega) j (by omega)
        exact ⟨w.1, w.2.1, w.2.2.1, by omega⟩
/-- all that the ranks need of a small ground node -/
theorem small_kids {r : Int → Nat} (hN : NdOK g d) (hT : TgOK d tg) (hG : Gr g d tg r) {n : Int} (h0 : 0 ≤ n) (h1 : n < nN d) (hs : 1 ≤ Sz g d tg n ∧ Sz g d tg n ≤ 60) : 0 ≤ nC d n ∧ szc (Sz g d tg) d tg n (pq g d n).toNat = Sz g d tg n ∧ ∀ j, 0 ≤ j → j < pq g d n → 1 ≤ szc (Sz g d tg) d tg n j.toNat ∧ szc (Sz g d tg) d tg n (j + 1).toNat = szc (Sz g d tg) d tg n j.toNat + Sz g d tg (kq d tg n j) ∧ 1 ≤ Sz g d tg (kq d tg n j) ∧ szc (Sz g d tg) d tg n (j + 1).toNat ≤ Sz g d tg n := by
  have e := Sz_eq hN hT hG h0 h1
  split at e
  · omega
  · rename_i q
    refine ⟨by omega, e.symm, fun j j0 j1 => ?_⟩
    have w := szc_small hs.2 _ e.symm (by omega) j.toNat (by omega)
    rw [show (j + 1).toNat = j.toNat + 1 by omega]
    rw [show ((j.toNat : Nat) : Int) = j by omega] at w
    exact w
theorem ixk_step {R : Int → Int} {n j : Int} (j0 : 0 ≤ j) : ixk g d tg R n (j + 1).toNat = cap (bsm g (nC d n) j (Sz g d tg n - szc (Sz g d tg) d tg n j.toNat) (ixk g d tg R n j.toNat) (Sz g d tg (kq d tg n j) - 1).toNat + cap (R (kq d tg n j) * Ws g (nC d n) (j + 1) (Sz g d tg n - szc (Sz g d tg) d tg n (j + 1).toNat))) := by
  rw [show (j + 1).toNat = j.toNat + 1 by omega]
  simp only [ixk]
  rw [show ((j.toNat : Nat) : Int) = j by omega]
theorem bsm_step {c k lft a m : Int} (m0 : 0 ≤ m) : bsm g c k lft a (m + 1).toNat = cap (bsm g c k lft a m.toNat + cap (Cs g (gG g (c * 3 + k)) (m + 1) * Ws g c (k + 1) (lft - (m + 1)))) := by
  rw [show (m + 1).toNat = m.toNat + 1 by omega]
  simp only [bsm]
  rw [show ((m.toNat : Nat) : Int) = m by omega]
/-- the class -/
theorem c_indexOf {M : Mem} {K : Int → Mem → Prop} (hS : StOK g d tg) (hX : XR g d tg M) (hO : XCnt g M) {n : Int} (h0 : 0 ≤ n) (h1 : n < nN d) (hs : 1 ≤ Sz g d tg n ∧ Sz g d tg n ≤ 12) (h26 : ∀ k, 0 ≤ k → k < pq g d n → M 26 k = Sz g d tg (kq d tg n k)) (h27 : ∀ k, 0 ≤ k → k < pq g d n → M 27 k = Rk g d tg (kq d tg n k)) (kk : K (Rk g d tg n) M) : CI mX8_indexOf [vR 8, vI (nC d n), vI (Sz g d tg n), vR 26, vR 27] M K := by
  obtain ⟨r, hG⟩ := hS.2.2.2
  have hn := hS.1.n
  obtain ⟨hc, hz, hk⟩ := small_kids hS.2.1 hS.2.2.1 hG h0 h1 (show 1 ≤ Sz g d tg n ∧ Sz g d tg n ≤ 60 by omega)
  have hcn := (hS.2.1.con h0 h1 hc).1
  have ha := hS.1.a hc hcn
  have ep : pq g d n = gA g (nC d n) := by unfold pq; rw [if_neg (by omega)]
  have eR := Rk_eq hS.2.1 hS.2.2.1 hG h0 h1
  have e3 : M 3 (nC d n) = gA g (nC d n) := by rw [hX.1.2.2.2.1]
  have bR : ∀ x, 0 ≤ Rk g d tg x ∧ Rk g d tg x ≤ 1000000 := fun x => Rk_bd x
  -- the blocks of one argument
  have inner : ∀ (m : Nat) (a f j : Int), (Sz g d tg (kq d tg n j) - f).toNat = m → 0 ≤ j → j < pq g d n → 1 ≤ f → f ≤ Sz g d tg (kq d tg n j) → a = bsm g (nC d n) j (Sz g d tg n - szc (Sz g d tg) d tg n j.toNat) (ixk g d tg (Rk g d tg) n j.toNat) (f - 1).toNat →
      AW mX8_indexOf 21 [some (vR 8), some (vI (nC d n)), some (vI (Sz g d tg n)), some (vR 26), some (vR 27), some (vI (ixk g d tg (Rk g d tg) n (j + 1).toNat)), some (vI (Sz g d tg n - szc (Sz g d tg) d tg n (j + 1).toNat)), some (vI (j + 1)), none] [] M (QI K) →
      AW mX8_indexOf 38 [some (vR 8), some (vI (nC d n)), some (vI (Sz g d tg n)), some (vR 26), some (vR 27), some (vI a), some (vI (Sz g d tg n - szc (Sz g d tg) d tg n j.toNat)), some (vI j), some (vI f)] [] M (QI K) := by
    intro m
    induction m with
    | zero =>
      intro a f j hm j0 j1 f0 f1 ea go
      have w := hk j j0 j1
      have ef : f = Sz g d tg (kq d tg n j) := by omega
      have ba := bsm_bd (g := g) (c := nC d n) (k := j) (lft := Sz g d tg n - szc (Sz g d tg) d tg n j.toNat) (ixk_bd (g := g) (d := d) (tg := tg) (n := n) bR j.toNat) (f - 1).toNat
      rw [← ea] at ba
      refine sg_X8_indexOf_38 ?_
      rw [h26 j j0 j1]
      refine ⟨by omega, by omega, fun _ => ⟨by omega, by omega, c_waysOf (by omega) (by omega) (by omega) ?_⟩, fun z => by omega⟩
      have hw := hO.2.2 (nC d n) (j + 1) (Sz g d tg n - szc (Sz g d tg) d tg n j.toNat - Sz g d tg (kq d tg n j)) hc hcn (by omega) (by omega) (by omega) (by omega)
      have bW := Ws_bd (g := g) (nC d n) (j + 1) (Sz g d tg n - szc (Sz g d tg) d tg n j.toNat - Sz g d tg (kq d tg n j))
      rw [hw, h27 j j0 j1]
      refine c_lprod (bR _) bW (c_lsum ba ⟨cap_nn (Int.mul_nonneg (bR _).1 bW.1), cap_le _⟩ ?_)
      rw [ixk_step j0, ← ef, ← ea, w.2.1, ← ef, show Sz g d tg n - (szc (Sz g d tg) d tg n j.toNat + f) = Sz g d tg n - szc (Sz g d tg) d tg n j.toNat - f by omega] at go
      rw [← ef]
      exact go
    | succ m ih =>
      intro a f j hm j0 j1 f0 f1 ea go
      have w := hk j j0 j1
      have ba := bsm_bd (g := g) (c := nC d n) (k := j) (lft := Sz g d tg n - szc (Sz g d tg) d tg n j.toNat) (ixk_bd (g := g) (d := d) (tg := tg) (n := n) bR j.toNat) (f - 1).toNat
      rw [← ea] at ba
      have hgg := (hS.1.2.2 _ hc hcn).2.2 j j0 (by omega)
      have ht4 := hS.1.1
      have h9 := hO.1 (gG g (nC d n * 3 + j)) f hgg.1 (by omega) (by omega) (by omega)
      have h11 := hO.2.2 (nC d n) (j + 1) (Sz g d tg n - szc (Sz g d tg) d tg n j.toNat - f) hc hcn (by omega) (by omega) (by omega) (by omega)
      have b9 := Cs_bd (g := g) (gG g (nC d n * 3 + j)) f
      have b11 := Ws_bd (g := g) (nC d n) (j + 1) (Sz g d tg n - szc (Sz g d tg) d tg n j.toNat - f)
      refine sg_X8_indexOf_38 ?_
      rw [h26 j j0 j1]
      refine ⟨by omega, by omega, fun z => by omega, fun _ => c_waysOfSplit hS.1 hX.1 ⟨hc, hcn⟩ (by omega) (by omega) (by rw [h9]; exact b9) (by rw [h11]; exact b11) ?_⟩
      rw [h9, h11]
      refine c_lsum ba ⟨cap_nn (Int.mul_nonneg b9.1 b11.1), cap_le _⟩ (ih _ (f + 1) j (by omega) j0 j1 (by omega) (by omega) ?_ go)
      have e1 := bsm_step (g := g) (c := nC d n) (k := j) (lft := Sz g d tg n - szc (Sz g d tg) d tg n j.toNat) (a := ixk g d tg (Rk g d tg) n j.toNat) (m := f - 1) (by omega)
      rw [show f - 1 + 1 = f by omega, ← ea] at e1
      rw [show f + 1 - 1 = f by omega, e1]
  have outer : ∀ (m : Nat) (a l j : Int), (pq g d n - j).toNat = m → 0 ≤ j → j ≤ pq g d n → a = ixk g d tg (Rk g d tg) n j.toNat → l = Sz g d tg n - szc (Sz g d tg) d tg n j.toNat → AW mX8_indexOf 21 [some (vR 8), some (vI (nC d n)), some (vI (Sz g d tg n)), some (vR 26), some (vR 27), some (vI a), some (vI l), some (vI j), none] [] M (QI K) := by
    intro m
    induction m with
    | zero =>
      intro a l j hm j0 j1 ea el
      refine sg_X8_indexOf_21 ?_
      rw [e3]
      refine ⟨by omega, by omega, fun _ => ?_, fun z => by omega⟩
      rw [ea, show j = pq g d n by omega, ← eR]
      exact kk
    | succ m ih =>
      intro a l j hm j0 j1 ea el
      have w := hk j j0 (by omega)
      refine sg_X8_indexOf_21 ?_
      rw [e3]
      refine ⟨by omega, by omega, fun z => by omega, fun _ => ?_⟩
      rw [el]
      exact inner _ a 1 j rfl j0 (by omega) (by omega) (by omega) ea (ih _ _ (j + 1) (by omega) (by omega) (by omega) rfl rfl)
  refine en_X8_indexOf ⟨by omega, ?_⟩
  rw [hO.2.1 _ _ hc hcn hs.1 hs.2]
  exact outer _ _ _ 0 rfl (by omega) (by omega) rfl rfl
theorem c_indexAmong {M : Mem} {K : Int → Mem → Prop} (hS : StOK g d tg) (hX : XR g d tg M) (hO : XCnt g M) (hW : Wki 28 29 30 g d tg M) {n : Int} (h0 : 0 ≤ n) (h1 : n < nN d) (ht : M 30 (re tg n) = M 28 3) (hcl : ∀ P : Int → Prop, Clo g d tg P → P (re tg n) → ∀ x, 0 ≤ x → x < 100 → M 30 x = M 28 3 → P x) (h23 : ∀ i, 0 ≤ i → i < M 28 2 → M 23 (M 29 i) = Sz g d tg (M 29 i)) (hs : 1 ≤ Sz g d tg (re tg n) ∧ Sz g d tg (re tg n) ≤ 12)
    (kk : ∀ M', Fr [24, 26, 27] M M' → K (Rk g d tg (re tg n)) M') : CI mX5_indexAmongValues [vR 22, vI n] M K := by
  obtain ⟨r, hG⟩ := hS.2.2.2
  have b := hS.2.1.1
  have htop := re_in hS.2.2.1 hG h0 h1
  obtain ⟨w0, w1, w2, w3, w4, w5, w6⟩ := hW
  have e14 : M 14 = nC d := hX.2.1.2.2.1
  have small : ∀ i, 0 ≤ i → i < M 28 2 → 1 ≤ Sz g d tg (M 29 i) ∧ Sz g d tg (M 29 i) ≤ 12 := by
    intro i i0 i1
    have q := w3 i i0 i1
    have := hcl (fun x => (0 ≤ x ∧ x < nN d) ∧ 1 ≤ Sz g d tg x ∧ Sz g d tg x ≤ 12) (fun x k x0 x1 k0 k1 hx => by
      have hk := (small_kids hS.2.1 hS.2.2.1 hG x0 x1 (show 1 ≤ Sz g d tg x ∧ Sz g d tg x ≤ 60 by omega)).2.2 k k0 k1
      have hin := kq_in2 hS.2.1 hS.2.2.1 hG x0 x1 ⟨k0, k1⟩
      exact ⟨hin.1, hk.2.2.1, by omega⟩) ⟨htop, hs⟩ (M 29 i) q.1.1 (by omega) q.2.2
    exact this.2
  have inner : ∀ (m : Nat) (M1 : Mem) (i j : Int), (pq g d (M 29 i) - j).toNat = m → 0 ≤ i → i < M 28 2 → 0 ≤ j → j ≤ pq g d (M 29 i) → Fr [24, 26, 27] M M1 → (∀ l, 0 ≤ l → l < i → M1 24 (M 29 l) = Rk g d tg (M 29 l)) → (∀ k, 0 ≤ k → k < j → M1 26 k = Sz g d tg (kq d tg (M 29 i) k) ∧ M1 27 k = Rk g d tg (kq d tg (M 29 i) k)) →
      (∀ M2, Fr [24, 26, 27] M M2 → (∀ l, 0 ≤ l → l < i + 1 → M2 24 (M 29 l) = Rk g d tg (M 29 l)) → AW mX5_indexAmongValues 2 [some (vR 22), some (vI n), some (vI (i + 1)), none, none] [] M2 (QI K)) →
      AW mX5_indexAmongValues 26 [some (vR 22), some (vI n), some (vI i), some (vI (M 29 i)), some (vI j)] [] M1 (QI K) := by
    intro m
    induction m with
    | zero =>
      intro M1 i j hm i0 i1 j0 j1 hF hl hj go
      have q := w3 i i0 i1
      have hX1 := hX.fr hF (by decide)
      have hp := pq_bd hS.1 hS.2.1 q.1.1 q.1.2
      refine sg_X5_indexAmongValues_26 (c_partTotal hS hX1 q.1.1 q.1.2 ⟨by omega, fun _ => ⟨by omega, by omega, ?_⟩, fun z => by omega⟩)
      rw [hF 14 (by decide), hF 23 (by decide), e14, h23 i i0 i1]
      refine c_indexOf hS hX1 (hO.fr hF (by decide)) q.1.1 q.1.2 (small i i0 i1) (fun k k0 k1 => (hj k k0 (by omega)).1) (fun k k0 k1 => (hj k k0 (by omega)).2) ⟨by omega, go _ (hF.up (by decide)) (fun l l0 l1 => ?_)⟩
      by_cases e : l = i
      · rw [e, up_same]
      · rw [up_other (fun z => w5 l i l0 (by omega) i1 z)]
        exact hl l l0 (by omega)
    | succ m ih =>
      intro M1 i j hm i0 i1 j0 j1 hF hl hj go
      have q := w3 i i0 i1
      have hX1 := hX.fr hF (by decide)
      have hp := pq_bd hS.1 hS.2.1 q.1.1 q.1.2
      have hin := kq_in2 hS.2.1 hS.2.2.1 hG q.1.1 q.1.2 (show 0 ≤ j ∧ j < pq g d (M 29 i) by omega)
      obtain ⟨l, hl1, hl2⟩ := w6 i j i0 i1 j0 (by omega)
      have s23 : M1 23 (kq d tg (M 29 i) j) = Sz g d tg (kq d tg (M 29 i) j) := by
        rw [hF 23 (by decide), ← hl2]
        exact h23 l hl1.1 (by omega)
      have s24 : M1 24 (kq d tg (M 29 i) j) = Rk g d tg (kq d tg (M 29 i) j) := by
        rw [← hl2]
        exact hl l hl1.1 hl1.2
      refine sg_X5_indexAmongValues_26 (c_partTotal hS hX1 q.1.1 q.1.2 ⟨by omega, fun z => by omega, fun _ => c_resolvedPart hS hX1 q.1.1 q.1.2 (by omega) ⟨by omega, by omega, ?_⟩⟩)
      have hF2 : Fr [24, 26, 27] M (up M1 26 j (M1 23 (kq d tg (M 29 i) j))) := hF.up (by decide)
      refine c_resolvedPart hS (hX.fr hF2 (by decide)) q.1.1 q.1.2 (by omega) ⟨by omega, by omega, ?_⟩
      refine ih _ i (j + 1) (by omega) i0 i1 (by omega) (by omega) (hF2.up (by decide)) (fun l l0 l1 => hl l l0 l1) (fun k k0 k1 => ?_) go
      by_cases e : k = j
      · subst e
        rw [up_same, up_ne (by decide), up_same]
        exact ⟨s23, s24⟩
      · rw [up_other e, up_ne (by decide), up_other e, up_ne (by decide)]
        exact hj k k0 (by omega)
  have outer : ∀ (m : Nat) (M1 : Mem) (i : Int), (M 28 2 - i).toNat = m → 0 ≤ i → i ≤ M 28 2 → Fr [24, 26, 27] M M1 → (∀ l, 0 ≤ l → l < i → M1 24 (M 29 l) = Rk g d tg (M 29 l)) → AW mX5_indexAmongValues 2 [some (vR 22), some (vI n), some (vI i), none, none] [] M1 (QI K) := by
    intro m
    induction m with
    | zero =>
      intro M1 i hm i0 i1 hF hl
      refine sg_X5_indexAmongValues_2 ?_
      rw [hF 28 (by decide)]
      refine ⟨by omega, fun _ => c_resolve hS (hX.fr hF (by decide)) h0 h1 ⟨by omega, ?_⟩, fun z => by omega⟩
      obtain ⟨l, hl1, hl2⟩ := w4 (re tg n) htop.1 (by omega) ht
      rw [← hl2, hl l hl1.1 (by omega), hl2]
      exact kk M1 hF
    | succ m ih =>
      intro M1 i hm i0 i1 hF hl
      refine sg_X5_indexAmongValues_2 ?_
      rw [hF 28 (by decide), hF 29 (by decide)]
      have q := w3 i i0 (by omega)
      have hp := pq_bd hS.1 hS.2.1 q.1.1 q.1.2
      exact ⟨by omega, fun z => by omega, fun _ => ⟨by omega, inner _ M1 i 0 rfl i0 (by omega) (by omega) (by omega) hF hl (fun k k0 k1 => by omega) (fun M2 hF2 hl2 => ih M2 (i + 1) (by omega) (by omega) (by omega) hF2 hl2)⟩⟩
  exact en_X5_indexAmongValues (outer _ M 0 rfl (by omega) (by omega) (Fr.refl _ _) (fun l l0 l1 => by omega))
end
