theorem c_fill16 {M : Mem} {K : Mem → Prop} {v : Int} (kk : ∀ M', Fr [16] M M' → (∀ i, 0 ≤ i → i < 100 → M' 16 i = v) → (∀ i, (i < 0 ∨ 100 ≤ i) → M' 16 i = M 16 i) → K M') : CV mJ7_fill_53178 [vR 16, vI v] M K := by
  have loop : ∀ (m : Nat) (M1 : Mem) (j : Int), (100 - j).toNat = m → 0 ≤ j → j ≤ 100 → Fr [16] M M1 → (∀ i, 0 ≤ i → i < j → M1 16 i = v) → (∀ i, (i < 0 ∨ j ≤ i) → M1 16 i = M 16 i) → AW mJ7_fill_53178 5 [some (vR 16), some (vI v), some (vI j), some (vI 100)] [] M1 (QV K) := by
    intro m
    induction m with
    | zero =>
      intro M1 j hm h0 h1 hF hd hu
      exact sg_J7_fill_53178_5 ⟨by omega, fun _ => kk M1 hF (fun i a b => hd i a (by omega)) (fun i hi => hu i (by omega)), fun q => by omega⟩
    | succ m ih =>
      intro M1 j hm h0 h1 hF hd hu
      refine sg_J7_fill_53178_5 ⟨by omega, fun q => by omega, fun _ => ⟨by omega, ?_⟩⟩
      refine ih _ (j + 1) (by omega) (by omega) (by omega) (hF.up (by decide)) (fun i a b => ?_) (fun i hi => ?_)
      · by_cases e : i = j
        · rw [e, up_same]
        · rw [up_other e]
          exact hd i a (by omega)
      · rw [up_other (by omega)]
        exact hu i (by omega)
  exact en_J7_fill_53178 (loop _ M 0 rfl (by omega) (by omega) (Fr.refl _ _) (fun i a b => by omega) (fun i _ => rfl))
theorem c_fill9 {M : Mem} {K : Mem → Prop} {v : Int} (kk : ∀ M', Fr [9] M M' → (∀ i, 0 ≤ i → i < 52 → M' 9 i = v) → (∀ i, (i < 0 ∨ 52 ≤ i) → M' 9 i = M 9 i) → K M') : CV mJ7_fill_53178 [vR 9, vI v] M K := by
  have loop : ∀ (m : Nat) (M1 : Mem) (j : Int), (52 - j).toNat = m → 0 ≤ j → j ≤ 52 → Fr [9] M M1 → (∀ i, 0 ≤ i → i < j → M1 9 i = v) → (∀ i, (i < 0 ∨ j ≤ i) → M1 9 i = M 9 i) → AW mJ7_fill_53178 5 [some (vR 9), some (vI v), some (vI j), some (vI 52)] [] M1 (QV K) := by
    intro m
    induction m with
    | zero =>
      intro M1 j hm h0 h1 hF hd hu
      exact sg_J7_fill_53178_b_5 ⟨by omega, fun _ => kk M1 hF (fun i a b => hd i a (by omega)) (fun i hi => hu i (by omega)), fun q => by omega⟩
    | succ m ih =>
      intro M1 j hm h0 h1 hF hd hu
      refine sg_J7_fill_53178_b_5 ⟨by omega, fun q => by omega, fun _ => ⟨by omega, ?_⟩⟩
      refine ih _ (j + 1) (by omega) (by omega) (by omega) (hF.up (by decide)) (fun i a b => ?_) (fun i hi => ?_)
      · by_cases e : i = j
        · rw [e, up_same]
        · rw [up_other e]
          exact hd i a (by omega)
      · rw [up_other (by omega)]
        exact hu i (by omega)
  exact en_J7_fill_53178_b (loop _ M 0 rfl (by omega) (by omega) (Fr.refl _ _) (fun i a b => by omega) (fun i _ => rfl))
theorem c_fill6 {M : Mem} {K : Mem → Prop} {v : Int} (kk : ∀ M', Fr [6] M M' → (∀ i, 0 ≤ i → i < 4 → M' 6 i = v) → (∀ i, (i < 0 ∨ 4 ≤ i) → M' 6 i = M 6 i) → K M') : CV mJ7_fill_53178 [vR 6, vI v] M K := by
  have loop : ∀ (m : Nat) (M1 : Mem) (j : Int), (4 - j).toNat = m → 0 ≤ j → j ≤ 4 → Fr [6] M M1 → (∀ i, 0 ≤ i → i < j → M1 6 i = v) → (∀ i, (i < 0 ∨ j ≤ i) → M1 6 i = M 6 i) → AW mJ7_fill_53178 5 [some (vR 6), some (vI v), some (vI j), some (vI 4)] [] M1 (QV K) := by
    intro m
    induction m with
    | zero =>
      intro M1 j hm h0 h1 hF hd hu
      exact sg_J7_fill_53178_c_5 ⟨by omega, fun _ => kk M1 hF (fun i a b => hd i a (by omega)) (fun i hi => hu i (by omega)), fun q => by omega⟩
    | succ m ih =>
      intro M1 j hm h0 h1 hF hd hu
      refine sg_J7_fill_53178_c_5 ⟨by omega, fun q => by omega, fun _ => ⟨by omega, ?_⟩⟩
      refine ih _ (j + 1) (by omega) (by omega) (by omega) (hF.up (by decide)) (fun i a b => ?_) (fun i hi => ?_)
      · by_cases e : i = j
        · rw [e, up_same]
        · rw [up_other e]
          exact hd i a (by omega)
      · rw [up_other (by omega)]
        exact hu i (by omega)
  exact en_J7_fill_53178_c (loop _ M 0 rfl (by omega) (by omega) (Fr.refl _ _) (fun i a b => by omega) (fun i _ => rfl))
theorem c_fill7 {M : Mem} {K : Mem → Prop} {v : Int} (kk : ∀ M', Fr [7] M M' → (∀ i, 0 ≤ i → i < 4 → M' 7 i = v) → (∀ i, (i < 0 ∨ 4 ≤ i) → M' 7 i = M 7 i) → K M') : CV mJ7_fill_53178 [vR 7, vI v] M K := by
  have loop : ∀ (m : Nat) (M1 : Mem) (j : Int), (4 - j).toNat = m → 0 ≤ j → j ≤ 4 → Fr [7] M M1 → (∀ i, 0 ≤ i → i < j → M1 7 i = v) → (∀ i, (i < 0 ∨ j ≤ i) → M1 7 i = M 7 i) → AW mJ7_fill_53178 5 [some (vR 7), some (vI v), some (vI j), some (vI 4)] [] M1 (QV K) := by
    intro m
    induction m with
    | zero =>
      intro M1 j hm h0 h1 hF hd hu
      exact sg_J7_fill_53178_d_5 ⟨by omega, fun _ => kk M1 hF (fun i a b => hd i a (by omega)) (fun i hi => hu i (by omega)), fun q => by omega⟩
    | succ m ih =>
      intro M1 j hm h0 h1 hF hd hu
      refine sg_J7_fill_53178_d_5 ⟨by omega, fun q => by omega, fun _ => ⟨by omega, ?_⟩⟩
      refine ih _ (j + 1) (by omega) (by omega) (by omega) (hF.up (by decide)) (fun i a b => ?_) (fun i hi => ?_)
      · by_cases e : i = j
        · rw [e, up_same]
        · rw [up_other e]
          exact hd i a (by omega)
      · rw [up_other (by omega)]
        exact hu i (by omega)
  exact en_J7_fill_53178_d (loop _ M 0 rfl (by omega) (by omega) (Fr.refl _ _) (fun i a b => by omega) (fun i _ => rfl))
theorem c_fill36 {M : Mem} {K : Mem → Prop} {v : Int} (kk : ∀ M', Fr [36] M M' → (∀ i, 0 ≤ i → i < 157 → M' 36 i = v) → K M') : CV mJ7_fill_d0a16 [vR 36, vL v] M K := by
  have loop : ∀ (m : Nat) (M1 : Mem) (j : Int), (157 - j).toNat = m → 0 ≤ j → j ≤ 157 → Fr [36] M M1 → (∀ i, 0 ≤ i → i < j → M1 36 i = v) → AW mJ7_fill_d0a16 6 [some (vR 36), some (vL v), none, some (vI j), some (vI 157)] [] M1 (QV K) := by
    intro m
    induction m with
    | zero =>
      intro M1 j hm h0 h1 hF hd
      exact sg_J7_fill_d0a16_6 ⟨by omega, fun _ => kk M1 hF (fun i a b => hd i a (by omega)), fun q => by omega⟩
    | succ m ih =>
      intro M1 j hm h0 h1 hF hd
      refine sg_J7_fill_d0a16_6 ⟨by omega, fun q => by omega, fun _ => ⟨by omega, ?_⟩⟩
      refine ih _ (j + 1) (by omega) (by omega) (by omega) (hF.up (by decide)) (fun i a b => ?_)
      by_cases e : i = j
      · rw [e, up_same]
      · rw [up_other e]
        exact hd i a (by omega)
  exact en_J7_fill_d0a16 (loop _ M 0 rfl (by omega) (by omega) (Fr.refl _ _) (fun i a b => by omega))
/-- the class's tables of counts -/
def XCnt (g : Sg) (M : Mem) : Prop := (∀ t s, 0 ≤ t → t < 4 → 0 ≤ s → s ≤ 12 → M 9 (t * 13 + s) = Cs g t s) ∧ (∀ c s, 0 ≤ c → c < gN g → 1 ≤ s → s ≤ 12 → M 10 (c * 13 + s) = Ss g c s) ∧ ∀ c k s, 0 ≤ c → c < gN g → 0 ≤ k → k ≤ gA g c → 0 ≤ s → s ≤ 11 → M 11 ((c * 4 + k) * 13 + s) = Ws g c k s
theorem XCnt.fr {g : Sg} {S : List Nat} {M M' : Mem} (h : XCnt g M) (f : Fr S M M') (hs : ∀ x ∈ [9, 10, 11], x ∉ S) : XCnt g M' := by
  unfold XCnt
  rw [f 9 (hs 9 (by simp)), f 10 (hs 10 (by simp)), f 11 (hs 11 (by simp))]
  exact h
theorem c_recomputeO {g : Sg} {M : Mem} {K : Mem → Prop} (hg : SgOK g) (hX : XSig g M) (kk : ∀ M', Fr [9, 10, 11] M M' → XCnt g M' → K M') : CV mX8_recompute [vR 8] M K := by
  have h1 := hg.n
  -- sizes below sz are done; of sz itself the constructors below c
  have inner : ∀ (n : Nat) (M1 : Mem) (sz c : Int), (gN g - c).toNat = n → 1 ≤ sz → sz ≤ 12 → 0 ≤ c → c ≤ gN g → Fr [9, 10, 11] M M1 → (∀ t s, 0 ≤ t → t < 4 → 0 ≤ s → s < sz → M1 9 (t * 13 + s) = Cs g t s) → (∀ t, 0 ≤ t → t < 4 → M1 9 (t * 13 + sz) = csm (fun i => if gR g i = t then Ws g i 0 (sz - 1) else 0) c.toNat) → (∀ t s, 0 ≤ t → t < 4 → sz < s → s ≤ 12 → M1 9 (t * 13 + s) = 0) →
      (∀ x s, 0 ≤ x → x < gN g → 1 ≤ s → s < sz ∨ (s = sz ∧ x < c) → M1 10 (x * 13 + s) = Ss g x s) → (∀ x k s, 0 ≤ x → x < gN g → 0 ≤ k → k ≤ gA g x → 0 ≤ s → s < sz - 1 ∨ (s = sz - 1 ∧ x < c) → M1 11 ((x * 4 + k) * 13 + s) = Ws g x k s) →
      (∀ M2, Fr [9, 10, 11] M M2 → (∀ t s, 0 ≤ t → t < 4 → 0 ≤ s → s < sz + 1 → M2 9 (t * 13 + s) = Cs g t s) → (∀ t s, 0 ≤ t → t < 4 → sz < s → s ≤ 12 → M2 9 (t * 13 + s) = 0) → (∀ x s, 0 ≤ x → x < gN g → 1 ≤ s → s < sz + 1 → M2 10 (x * 13 + s) = Ss g x s) → (∀ x k s, 0 ≤ x → x < gN g → 0 ≤ k → k ≤ gA g x → 0 ≤ s → s < sz → M2 11 ((x * 4 + k) * 13 + s) = Ws g x k s) → AW mX8_recompute 10 [some (vR 8), some (vI (sz + 1)), none, none] [] M2 (QV K)) →
      AW mX8_recompute 18 [some (vR 8), some (vI sz), some (vI c), none] [] M1 (QV K) := by
    intro n
    induction n with
    | zero =>
      intro M1 sz c hn s0 s1 c0 c1 hF hC hP hZ hS hW hk
      have e1 : M1 1 1 = gN g := by rw [hF 1 (by decide)]; exact hX.2.1
      refine sg_X8_recompute_18 ⟨by rw [e1]; omega, fun _ => ?_, fun q => by rw [e1] at q; omega⟩
      refine hk M1 hF (fun t s a b d e => ?_) hZ (fun x s a b d e => hS x s a b d (by omega)) (fun x k s a b d e f h => hW x k s a b d e f (by omega))
      by_cases q : s = sz
      · rw [q, hP t a b, Cs_eq s0 s1, show c.toNat = (gN g).toNat by omega]
      · exact hC t s a b d (by omega)
    | succ n ih =>
      intro M1 sz c hn s0 s1 c0 c1 hF hC hP hZ hS hW hk
      have e1 : M1 1 1 = gN g := by rw [hF 1 (by decide)]; exact hX.2.1
      have hX1 := hX.fr hF (by decide)
      have hr := hg.r c0 (show c < gN g by omega)
      have ha := hg.a c0 (show c < gN g by omega)
      refine sg_X8_recompute_18 ⟨by rw [e1]; omega, fun q => by rw [e1] at q; omega, fun _ => ?_⟩
      refine c_fillWays hg hX1 (by omega) (by omega) (fun t s a b d e => hC t s a b (by omega) (by omega)) (fun k s a b d e => hW c k s c0 (by omega) a b d (by omega)) (fun M2 hF2 hW2 hu2 => ?_)
      have e2 : M2 2 c = gR g c := by rw [hF2 2 (by decide), hX1.2.2.1]
      have e9 : M2 9 (gR g c * 13 + sz) = csm (fun i => if gR g i = gR g c then Ws g i 0 (sz - 1) else 0) c.toNat := by rw [hF2 9 (by decide)]; exact hP _ hr.1 hr.2
      have b9 : 0 ≤ M2 9 (gR g c * 13 + sz) ∧ M2 9 (gR g c * 13 + sz) ≤ 1000000 := by
        rw [e9]
        exact csm_bd (fun i hi => by split; exact (Ws_bd _ _ _).1; omega)
      rw [e2]
      refine ⟨by omega, by omega, by omega, by omega, c_waysOf (by omega) (by omega) (by omega) ?_⟩
      rw [up_ne (by decide)]
      rw [hW2 0 (by omega) (by omega)]
      refine c_lsum b9 (Ws_bd _ _ _) ⟨by omega, ?_⟩
      have hF3 : Fr [9, 10, 11] M (up (up M2 10 (c * 13 + sz) (M2 9 (gR g c * 13 + sz))) 9 (gR g c * 13 + sz) (cap (M2 9 (gR g c * 13 + sz) + Ws g c 0 (sz - 1)))) := ((hF.trans (hF2.mono (by decide))).up (by decide)).up (by decide)
      refine ih _ sz (c + 1) (by omega) s0 s1 (by omega) (by omega) hF3 (fun t s a b d e => ?_) (fun t a b => ?_) (fun t s a b d e => ?_) (fun x s a b d e => ?_) (fun x k s a b d e f h => ?_) hk
      · rw [up_other (by omega), up_ne (by decide), hF2 9 (by decide)]
        exact hC t s a b d e
      · rw [show (c + 1).toNat = c.toNat + 1 by omega]
        simp only [csm]
        rw [show (c.toNat : Int) = c by omega]
        by_cases q : t = gR g c
        · rw [q, up_same, if_pos rfl, e9]
        · rw [up_other (by omega), up_ne (by decide), hF2 9 (by decide), hP t a b, if_neg (fun z => q z.symm), Int.add_zero, cap_id (csm_bd (fun i hi => by split; exact (Ws_bd _ _ _).1; omega)).2]
      · rw [up_other (by omega), up_ne (by decide), hF2 9 (by decide)]
        exact hZ t s a b d e
      · rw [up_ne (by decide)]
        by_cases q : x = c ∧ s = sz
        · rw [q.1, q.2, up_same, e9]
          rfl
        · rw [up_other (by omega), hF2 10 (by decide)]
          exact hS x s a b d (by omega)
      · rw [up_ne (by decide), up_ne (by decide)]
        by_cases q : x = c ∧ s = sz - 1
        · rw [q.1, q.2]
          exact hW2 k d (by rw [← q.1]; exact e)
        · have hax := hg.a a b
          rw [hu2 _ (fun j j0 j1 => by omega)]
          exact hW x k s a b d e f (by omega)
  have outer : ∀ (n : Nat) (M1 : Mem) (sz : Int), (13 - sz).toNat = n → 1 ≤ sz → sz ≤ 13 → Fr [9, 10, 11] M M1 → (∀ t s, 0 ≤ t → t < 4 → 0 ≤ s → s < sz → M1 9 (t * 13 + s) = Cs g t s) → (∀ t s, 0 ≤ t → t < 4 → sz ≤ s → s ≤ 12 → M1 9 (t * 13 + s) = 0) → (∀ x s, 0 ≤ x → x < gN g → 1 ≤ s → s < sz → M1 10 (x * 13 + s) = Ss g x s) → (∀ x k s, 0 ≤ x → x < gN g → 0 ≤ k → k ≤ gA g x → 0 ≤ s → s < sz - 1 → M1 11 ((x * 4 + k) * 13 + s) = Ws g x k s) →
      AW mX8_recompute 10 [some (vR 8), some (vI sz), none, none] [] M1 (QV K) := by
    intro n
    induction n with
    | zero =>
      intro M1 sz hn s0 s1 hF hC hZ hS hW
      exact sg_X8_recompute_10 ⟨by omega, fun _ => kk M1 hF ⟨fun t s a b d e => hC t s a b d (by omega), fun c s a b d e => hS c s a b d (by omega), fun c k s a b d e f h => hW c k s a b d e f (by omega)⟩, fun q => by omega⟩
    | succ n ih =>
      intro M1 sz hn s0 s1 hF hC hZ hS hW
      refine sg_X8_recompute_10 ⟨by omega, fun q => by omega, fun _ => ?_⟩
      refine inner _ M1 sz 0 rfl s0 (by omega) (by omega) (by omega) hF hC (fun t a b => ?_) (fun t s a b d e => hZ t s a b (by omega) e) (fun x s a b d e => hS x s a b d (by omega)) (fun x k s a b d e f h => hW x k s a b d e f (by omega)) (fun M2 hF2 hC2 hZ2 hS2 hW2 => ?_)
      · rw [hZ t sz a b (by omega) (by omega)]
        rfl
      · exact ih M2 (sz + 1) (by omega) (by omega) (by omega) hF2 hC2 (fun t s a b d e => hZ2 t s a b (by omega) e) hS2 (fun x k s a b d e f h => hW2 x k s a b d e f (by omega))
  refine en_X8_recompute (c_fill9 (fun M1 hF1 hz hu => ?_))
  exact outer _ M1 1 rfl (by omega) (by omega) (hF1.mono (by decide)) (fun t s a b d e => by rw [show s = 0 by omega, Cs_0]; exact hz _ (by omega) (by omega)) (fun t s a b d e => hz _ (by omega) (by omega)) (fun x s a b d e => by omega) (fun x k s a b d e f h => by omega)
