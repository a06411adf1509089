/-! the reference's table of counts -/
def MCnt (g : Sg) (M : Mem) : Prop := (∀ t s, 0 ≤ t → t < 4 → 0 ≤ s → s ≤ 12 → M 63 (13 * t + s) = Cs g t s) ∧ ∀ c k s, 0 ≤ c → c < gN g → 0 ≤ k → k ≤ gA g c → 0 ≤ s → s ≤ 11 → M 64 ((4 * c + k) * 13 + s) = Ws g c k s
theorem MCnt.fr {g : Sg} {S : List Nat} {M M' : Mem} (h : MCnt g M) (f : Fr S M M') (hs : ∀ x ∈ [63, 64], x ∉ S) : MCnt g M' := by
  unfold MCnt
  rw [f 63 (hs 63 (by simp)), f 64 (hs 64 (by simp))]
  exact h
theorem MSig.fr2 {g : Sg} {S : List Nat} {M M' : Mem} (h : MSig g M) (f : Fr S M M') (hs : ∀ x ∈ [50, 51, 52, 53], x ∉ S) : MSig g M' :=
  h.fr f (by rw [f 50 (hs 50 (by simp))]; exact ⟨rfl, rfl⟩) (fun x hx => hs x (List.mem_cons_of_mem _ hx))
theorem c_layWays {g : Sg} {M : Mem} {K : Mem → Prop} (hg : SgOK g) (hX : MSig g M) {c tot : Int} (hc : 0 ≤ c ∧ c < gN g) (ht : 0 ≤ tot ∧ tot ≤ 11)
    (hC : ∀ t s, 0 ≤ t → t < 4 → 1 ≤ s → s ≤ tot → M 63 (13 * t + s) = Cs g t s)
    (hW : ∀ k s, 0 ≤ k → k ≤ gA g c → 0 ≤ s → s < tot → M 64 ((4 * c + k) * 13 + s) = Ws g c k s)
    (kk : ∀ M', Fr [64] M M' → (∀ k, 0 ≤ k → k ≤ gA g c → M' 64 ((4 * c + k) * 13 + tot) = Ws g c k tot) → (∀ i, (∀ k, 0 ≤ k → k ≤ gA g c → i ≠ (4 * c + k) * 13 + tot) → M' 64 i = M 64 i) → K M') : CV mX12_layWays [vR 50, vI c, vI tot] M K := by
  have h1 := hg.n
  have h2 := hg.a hc.1 hc.2
  obtain ⟨x1, x2, x3⟩ := hX
  have e3 : M 52 c = gA g c := (x3 c hc.1 hc.2).2.1
  have inner : ∀ (n : Nat) (M1 : Mem) (k v5 v6 : Int), (tot + 1 - v6).toNat = n → 0 ≤ k → k < gA g c → 1 ≤ v6 → v6 ≤ tot + 1 → Fr [64] M M1 → (∀ s, 0 ≤ s → s < tot → M1 64 ((4 * c + (k + 1)) * 13 + s) = Ws g c (k + 1) s) → v5 = csm (fun i => cap (Cs g (gG g (c * 3 + k)) ((i : Int) + 1) * Ws g c (k + 1) (tot - ((i : Int) + 1)))) (v6 - 1).toNat →
      AW mX12_layWays 32 [some (vR 50), some (vI c), some (vI tot), some (vI (gA g c)), some (vI (k + (-1))), none, none, none] [] (up M1 64 ((4 * c + k) * 13 + tot) (Ws g c k tot)) (QV K) →
      AW mX12_layWays 43 [some (vR 50), some (vI c), some (vI tot), some (vI (gA g c)), some (vI k), some (vL v5), none, some (vI v6)] [] M1 (QV K) := by
    intro n
    induction n with
    | zero =>
      intro M1 k v5 v6 hn k0 k1 v1 v2 hF hW1 e5 hk
      refine sg_X12_layWays_43 ⟨by omega, fun _ => c_wayM ⟨by omega, ?_⟩, fun q => by omega⟩
      have : v5 = Ws g c k tot := by rw [e5, Ws_eq k0 k1, show (v6 - 1).toNat = tot.toNat by omega]
      rw [this]
      exact hk
    | succ n ih =>
      intro M1 k v5 v6 hn k0 k1 v1 v2 hF hW1 e5 hk
      have h3 := hg.g hc.1 hc.2 k0 k1
      have e53 : M1 53 (3 * c + k) = gG g (c * 3 + k) := by rw [hF 53 (by decide)]; exact (x3 c hc.1 hc.2).2.2 k k0 k1
      have e9 : M1 63 (13 * gG g (c * 3 + k) + v6) = Cs g (gG g (c * 3 + k)) v6 := by rw [hF 63 (by decide)]; exact hC _ _ h3.1 h3.2 v1 (by omega)
      have e11 := hW1 (tot - v6) (by omega) (by omega)
      have bC := Cs_bd (g := g) (gG g (c * 3 + k)) v6
      have bW := Ws_bd (g := g) c (k + 1) (tot - v6)
      have b5 : 0 ≤ v5 ∧ v5 ≤ 1000000 := by
        rw [e5]
        exact csm_bd (fun i hi => cap_nn (Int.mul_nonneg (Cs_bd _ _).1 (Ws_bd _ _ _).1))
      have bm := mul_bd bC bW
      refine sg_X12_layWays_43 ⟨by omega, fun q => by omega, fun _ => ⟨by omega, ?_⟩⟩
      rw [e53]
      refine c_countOfM (by omega) (by omega) ?_
      rw [e9]
      refine ⟨by omega, c_wayM ⟨by omega, ?_⟩⟩
      rw [e11]
      refine ⟨by omega, c_capped (by omega) ⟨?_, ?_⟩⟩
      · have := cap_le (v5 + Cs g (gG g (c * 3 + k)) v6 * Ws g c (k + 1) (tot - v6))
        have := cap_nn (show 0 ≤ v5 + Cs g (gG g (c * 3 + k)) v6 * Ws g c (k + 1) (tot - v6) by omega)
        omega
      · refine ih M1 k _ (v6 + 1) (by omega) k0 k1 (by omega) (by omega) hF hW1 ?_ hk
        rw [← cap_add_cap b5.1, e5, show (v6 + 1 - 1).toNat = (v6 - 1).toNat + 1 by omega]
        simp only [csm]
        rw [show (((v6 - 1).toNat : Int) + 1) = v6 by omega]
  have outer : ∀ (n : Nat) (M1 : Mem) (k : Int), (k + 1).toNat = n → -1 ≤ k → k < gA g c → Fr [64] M M1 → (∀ j, k < j → j ≤ gA g c → M1 64 ((4 * c + j) * 13 + tot) = Ws g c j tot) → (∀ i, (∀ j, 0 ≤ j → j ≤ gA g c → i ≠ (4 * c + j) * 13 + tot) → M1 64 i = M 64 i) →
      AW mX12_layWays 32 [some (vR 50), some (vI c), some (vI tot), some (vI (gA g c)), some (vI k), none, none, none] [] M1 (QV K) := by
    intro n
    induction n with
    | zero =>
      intro M1 k hn k0 k1 hF hd hu
      refine sg_X12_layWays_32 ⟨by omega, fun _ => kk M1 hF (fun j j0 j1 => hd j (by omega) j1) hu, fun q => by omega⟩
    | succ n ih =>
      intro M1 k hn k0 k1 hF hd hu
      refine sg_X12_layWays_32 ⟨by omega, fun q => by omega, fun _ => ?_⟩
      refine inner _ M1 k 0 1 rfl (by omega) k1 (by omega) (by omega) hF (fun s s0 s1 => ?_) rfl ?_
      · rw [hu _ (fun j j0 j1 => by omega)]
        exact hW (k + 1) s (by omega) (by omega) s0 s1
      · refine ih _ (k + (-1)) (by omega) (by omega) (by omega) (hF.up (by decide)) (fun j j0 j1 => ?_) (fun i hi => ?_)
        · by_cases e : j = k
          · rw [e, up_same]
          · rw [up_other (by omega)]
            exact hd j (by omega) j1
        · rw [up_other (hi k (by omega) (by omega))]
          exact hu i hi
  refine en_X12_layWays ⟨by omega, c_wayM ⟨by omega, ?_, ?_⟩⟩
  · intro h0
    rw [e3]
    refine ⟨by omega, outer _ _ (gA g c - 1) rfl (by omega) (by omega) ((Fr.refl _ _).up (by decide)) (fun j j0 j1 => ?_) (fun i hi => ?_)⟩
    · have e : j = gA g c := by omega
      rw [e, up_same, Ws_0 rfl, if_neg h0]
    · rw [up_other (hi (gA g c) (by omega) (by omega))]
  · intro h0
    rw [e3]
    refine ⟨by omega, outer _ _ (gA g c - 1) rfl (by omega) (by omega) ((Fr.refl _ _).up (by decide)) (fun j j0 j1 => ?_) (fun i hi => ?_)⟩
    · have e : j = gA g c := by omega
      rw [e, up_same, Ws_0 rfl, if_pos (by omega)]
    · rw [up_other (hi (gA g c) (by omega) (by omega))]
theorem c_layCounts {g : Sg} {M : Mem} {K : Mem → Prop} (hg : SgOK g) (hX : MSig g M) (kk : ∀ M', Fr [63, 64] M M' → MCnt g M' → K M') : CV mX12_layCounts [vR 50] M K := by
  have h1 := hg.n
  obtain ⟨x1, x2, x3⟩ := id hX
  -- the counts of size sz, constructors below c
  have sums : ∀ (n : Nat) (M1 : Mem) (sz c : Int), (gN g - c).toNat = n → 1 ≤ sz → sz ≤ 12 → 0 ≤ c → c ≤ gN g → Fr [63, 64] M M1 → (∀ t s, 0 ≤ t → t < 4 → 0 ≤ s → s < sz → M1 63 (13 * t + s) = Cs g t s) → (∀ t, 0 ≤ t → t < 4 → M1 63 (13 * t + sz) = csm (fun i => if gR g i = t then Ws g i 0 (sz - 1) else 0) c.toNat) → (∀ t s, 0 ≤ t → t < 4 → sz < s → s ≤ 12 → M1 63 (13 * t + s) = 0) →
      (∀ x k s, 0 ≤ x → x < gN g → 0 ≤ k → k ≤ gA g x → 0 ≤ s → s < sz → M1 64 ((4 * x + k) * 13 + s) = Ws g x k s) →
      (∀ M2, Fr [63, 64] M M2 → (∀ t s, 0 ≤ t → t < 4 → 0 ≤ s → s < sz + 1 → M2 63 (13 * t + s) = Cs g t s) → (∀ t s, 0 ≤ t → t < 4 → sz < s → s ≤ 12 → M2 63 (13 * t + s) = 0) → (∀ x k s, 0 ≤ x → x < gN g → 0 ≤ k → k ≤ gA g x → 0 ≤ s → s < sz → M2 64 ((4 * x + k) * 13 + s) = Ws g x k s) → AW mX12_layCounts 23 [some (vR 50), some (vI (sz + 1)), none, none] [] M2 (QV K)) →
      AW mX12_layCounts 55 [some (vR 50), some (vI sz), some (vI c), none] [] M1 (QV K) := by
    intro n
    induction n with
    | zero =>
      intro M1 sz c hn s0 s1 c0 c1 hF hC hP hZ hW hk
      have e1 : M1 50 1 = gN g := by rw [hF 50 (by decide)]; exact x2
      refine sg_X12_layCounts_55 ⟨by rw [e1]; omega, fun _ => ?_, fun q => by rw [e1] at q; omega⟩
      refine hk M1 hF (fun t s a b d e => ?_) hZ hW
      by_cases q : s = sz
      · rw [q, hP t a b, Cs_eq s0 s1, show c.toNat = (gN g).toNat by omega]
      · exact hC t s a b d (by omega)
    | succ n ih =>
      intro M1 sz c hn s0 s1 c0 c1 hF hC hP hZ hW hk
      have e1 : M1 50 1 = gN g := by rw [hF 50 (by decide)]; exact x2
      have hr := hg.r c0 (show c < gN g by omega)
      have ha := hg.a c0 (show c < gN g by omega)
      have e2 : M1 51 c = gR g c := by rw [hF 51 (by decide)]; exact (x3 c c0 (by omega)).1
      have e9 := hP (gR g c) hr.1 hr.2
      have b9 : 0 ≤ M1 63 (13 * gR g c + sz) ∧ M1 63 (13 * gR g c + sz) ≤ 1000000 := by
        rw [e9]
        exact csm_bd (fun i hi => by split; exact (Ws_bd _ _ _).1; omega)
      have e11 := hW c 0 (sz - 1) c0 (by omega) (by omega) (by omega) (by omega) (by omega)
      have b11 := Ws_bd (g := g) c 0 (sz - 1)
      refine sg_X12_layCounts_55 ⟨by rw [e1]; omega, fun q => by rw [e1] at q; omega, fun _ => ?_⟩
      rw [e2]
      refine ⟨by omega, by omega, by omega, c_wayM ⟨by omega, ?_⟩⟩
      rw [e11]
      refine ⟨by omega, c_capped (by omega) ⟨by omega, ?_⟩⟩
      refine ih _ sz (c + 1) (by omega) s0 s1 (by omega) (by omega) (hF.up (by decide)) (fun t s a b d e => ?_) (fun t a b => ?_) (fun t s a b d e => ?_) (fun x k s a b d e f h => ?_) hk
      · rw [up_other (by omega)]
        exact hC t s a b d e
      · rw [show (c + 1).toNat = c.toNat + 1 by omega]
        simp only [csm]
        rw [show (c.toNat : Int) = c by omega]
        by_cases q : t = gR g c
        · rw [q, up_same, if_pos rfl, e9]
        · rw [up_other (by omega), hP t a b, if_neg (fun z => q z.symm), Int.add_zero, cap_id (csm_bd (fun i hi => by split; exact (Ws_bd _ _ _).1; omega)).2]
      · rw [up_other (by omega)]
        exact hZ t s a b d e
      · rw [up_ne (by decide)]
        exact hW x k s a b d e f h
  have ways : ∀ (n : Nat) (M1 : Mem) (sz c : Int), (gN g - c).toNat = n → 1 ≤ sz → sz ≤ 12 → 0 ≤ c → c ≤ gN g → Fr [63, 64] M M1 → (∀ t s, 0 ≤ t → t < 4 → 0 ≤ s → s < sz → M1 63 (13 * t + s) = Cs g t s) → (∀ t s, 0 ≤ t → t < 4 → sz ≤ s → s ≤ 12 → M1 63 (13 * t + s) = 0) →
      (∀ x k s, 0 ≤ x → x < gN g → 0 ≤ k → k ≤ gA g x → 0 ≤ s → s < sz - 1 ∨ (s = sz - 1 ∧ x < c) → M1 64 ((4 * x + k) * 13 + s) = Ws g x k s) →
      (∀ M2, Fr [63, 64] M M2 → (∀ t s, 0 ≤ t → t < 4 → 0 ≤ s → s < sz + 1 → M2 63 (13 * t + s) = Cs g t s) → (∀ t s, 0 ≤ t → t < 4 → sz < s → s ≤ 12 → M2 63 (13 * t + s) = 0) → (∀ x k s, 0 ≤ x → x < gN g → 0 ≤ k → k ≤ gA g x → 0 ≤ s → s < sz → M2 64 ((4 * x + k) * 13 + s) = Ws g x k s) → AW mX12_layCounts 23 [some (vR 50), some (vI (sz + 1)), none, none] [] M2 (QV K)) →
      AW mX12_layCounts 31 [some (vR 50), some (vI sz), some (vI c), none] [] M1 (QV K) := by
    intro n
    induction n with
    | zero =>
      intro M1 sz c hn s0 s1 c0 c1 hF hC hZ hW hk
      have e1 : M1 50 1 = gN g := by rw [hF 50 (by decide)]; exact x2
      refine sg_X12_layCounts_31 ⟨by rw [e1]; omega, fun _ => ?_, fun q => by rw [e1] at q; omega⟩
      refine sums _ M1 sz 0 rfl s0 s1 (by omega) (by omega) hF hC (fun t a b => ?_) (fun t s a b d e => hZ t s a b (by omega) e) (fun x k s a b d e f h => hW x k s a b d e f (by omega)) hk
      rw [hZ t sz a b (by omega) (by omega)]
      rfl
    | succ n ih =>
      intro M1 sz c hn s0 s1 c0 c1 hF hC hZ hW hk
      have e1 : M1 50 1 = gN g := by rw [hF 50 (by decide)]; exact x2
      refine sg_X12_layCounts_31 ⟨by rw [e1]; omega, fun q => by rw [e1] at q; omega, fun _ => ?_⟩
      refine c_layWays hg (hX.fr2 hF (by decide)) (by omega) (by omega) (fun t s a b d e => hC t s a b (by omega) (by omega)) (fun k s a b d e => hW c k s c0 (by omega) a b d (by omega)) (fun M2 hF2 hW2 hu2 => ?_)
      refine ih M2 sz (c + 1) (by omega) s0 s1 (by omega) (by omega) (hF.trans (hF2.mono (by decide))) (fun t s a b d e => ?_) (fun t s a b d e => ?_) (fun x k s a b d e f h => ?_) hk
      · rw [hF2 63 (by decide)]
        exact hC t s a b d e
      · rw [hF2 63 (by decide)]
        exact hZ t s a b d e
      · by_cases q : x = c ∧ s = sz - 1
        · rw [q.1, q.2]
          exact hW2 k d (by rw [← q.1]; exact e)
        · have hax := hg.a a b
          have hac := hg.a c0 (show c < gN g by omega)
          rw [hu2 _ (fun j j0 j1 => by omega)]
          exact hW x k s a b d e f (by omega)
  have outer : ∀ (n : Nat) (M1 : Mem) (sz : Int), (13 - sz).toNat = n → 1 ≤ sz → sz ≤ 13 → Fr [63, 64] M M1 → (∀ t s, 0 ≤ t → t < 4 → 0 ≤ s → s < sz → M1 63 (13 * t + s) = Cs g t s) → (∀ t s, 0 ≤ t → t < 4 → sz ≤ s → s ≤ 12 → M1 63 (13 * t + s) = 0) → (∀ x k s, 0 ≤ x → x < gN g → 0 ≤ k → k ≤ gA g x → 0 ≤ s → s < sz - 1 → M1 64 ((4 * x + k) * 13 + s) = Ws g x k s) →
      AW mX12_layCounts 23 [some (vR 50), some (vI sz), none, none] [] M1 (QV K) := by
    intro n
    induction n with
    | zero =>
      intro M1 sz hn s0 s1 hF hC hZ hW
      exact sg_X12_layCounts_23 ⟨by omega, fun _ => kk M1 hF ⟨fun t s a b d e => hC t s a b d (by omega), fun c k s a b d e f h => hW c k s a b d e f (by omega)⟩, fun q => by omega⟩
    | succ n ih =>
      intro M1 sz hn s0 s1 hF hC hZ hW
      refine sg_X12_layCounts_23 ⟨by omega, fun q => by omega, fun _ => ?_⟩
      refine ways _ M1 sz 0 rfl s0 (by omega) (by omega) (by omega) hF hC hZ (fun x k s a b d e f h => hW x k s a b d e f (by omega)) (fun M2 hF2 hC2 hZ2 hW2 => ?_)
      exact ih M2 (sz + 1) (by omega) (by omega) (by omega) hF2 hC2 (fun t s a b d e => hZ2 t s a b (by omega) e) (fun x k s a b d e f h => hW2 x k s a b d e f (by omega))
  have zero : ∀ (n : Nat) (M1 : Mem) (j : Int), (52 - j).toNat = n → 0 ≤ j → j ≤ 52 → Fr [63, 64] M M1 → (∀ i, 0 ≤ i → i < j → M1 63 i = 0) → AW mX12_layCounts 2 [some (vR 50), some (vI j), none, none] [] M1 (QV K) := by
    intro n
    induction n with
    | zero =>
      intro M1 j hn j0 j1 hF hz
      refine sg_X12_layCounts_2 ⟨by omega, fun _ => ?_, fun q => by omega⟩
      exact outer _ M1 1 rfl (by omega) (by omega) hF (fun t s a b d e => by rw [show s = 0 by omega, Cs_0]; exact hz _ (by omega) (by omega)) (fun t s a b d e => hz _ (by omega) (by omega)) (fun x k s a b d e f h => by omega)
    | succ n ih =>
      intro M1 j hn j0 j1 hF hz
      refine sg_X12_layCounts_2 ⟨by omega, fun q => by omega, fun _ => ⟨by omega, ?_⟩⟩
      refine ih _ (j + 1) (by omega) (by omega) (by omega) (hF.up (by decide)) (fun i a b => ?_)
      by_cases e : i = j
      · rw [e, up_same]
      · rw [up_other e]
        exact hz i a (by omega)
  exact en_X12_layCounts (zero _ M 0 rfl (by omega) (by omega) (Fr.refl _ _) (fun i a b => by omega))
