/-! firstUncovered -/
section
variable {g : Sg} {d : Nd} {tg : Int → Int}
def Cov (F : Int → Int → Int → Prop) (s i : Int) : Prop := ∃ r, 0 ≤ r ∧ F s i r
/-- the first that is not covered -/
def FUR (F : Int → Int → Int → Prop) (C : Int → Int) (v x : Int) : Prop := (x = -13 ∧ ∀ s i, 1 ≤ s → s ≤ v → 0 ≤ i → i < C s → Cov F s i) ∨ ∃ s i, ((1 ≤ s ∧ s ≤ v) ∧ (0 ≤ i ∧ i < C s)) ∧ F s i (-13) ∧ x = 10000 * s + i ∧ (∀ s2 i2, 1 ≤ s2 → s2 < s → 0 ≤ i2 → i2 < C s2 → Cov F s2 i2) ∧ ∀ i2, 0 ≤ i2 → i2 < i → Cov F s i2
theorem FUR.uq {F : Int → Int → Int → Prop} {C : Int → Int} {v x y : Int} (u : ∀ s i r r2, F s i r → F s i r2 → r = r2) (h : FUR F C v x) (k : FUR F C v y) : x = y := by
  have no : ∀ s i, F s i (-13) → Cov F s i → False := by
    intro s i a ⟨r, r0, b⟩
    have := u s i _ _ a b
    omega
  rcases h with ⟨h1, h2⟩ | ⟨s, i, ⟨a1, a2⟩, a3, a4, a5, a6⟩ <;> rcases k with ⟨k1, k2⟩ | ⟨s2, i2, ⟨b1, b2⟩, b3, b4, b5, b6⟩
  · rw [h1, k1]
  · exact (no s2 i2 b3 (h2 s2 i2 b1.1 b1.2 b2.1 b2.2)).elim
  · exact (no s i a3 (k2 s i a1.1 a1.2 a2.1 a2.2)).elim
  · rcases Int.lt_or_le s s2 with q | q
    · exact (no s i a3 (b5 s i a1.1 q a2.1 a2.2)).elim
    · rcases Int.lt_or_le s2 s with q2 | q2
      · exact (no s2 i2 b3 (a5 s2 i2 b1.1 q2 b2.1 b2.2)).elim
      · have es : s = s2 := by omega
        subst es
        rcases Int.lt_or_le i i2 with q3 | q3
        · exact (no s i a3 (b6 i a2.1 q3)).elim
        · rcases Int.lt_or_le i2 i with q4 | q4
          · exact (no s i2 b3 (a6 i2 b2.1 q4)).elim
          · omega
theorem FUR.bd {F : Int → Int → Int → Prop} {C : Int → Int} {v x : Int} (h : FUR F C v x) (hv : v ≤ 8) (hC : ∀ s, C s ≤ 1000000) : InR x := by
  rcases h with ⟨h1, h2⟩ | ⟨s, i, ⟨a1, a2⟩, a3, a4, a5, a6⟩
  · rw [h1]; decide
  · have := hC s
    clear a5 a6
    omega
theorem c_fuX {M : Mem} {K : Int → Mem → Prop} {Wf zf : Int → Int → Int → Int} {v t : Int} (hC : Core g d tg M) (h3 : 0 ≤ M 43 3 ∧ M 43 3 ≤ 800000000) (h45 : ∀ n, 0 ≤ n → n < 100 → 0 ≤ M 45 n ∧ M 45 n ≤ M 43 3) (n0 : 0 < M 43 1) (et : t = nY d (M 44 0)) (hW : ∀ s i, Vd g t s i → RowOf g t s i (Wf s i) (zf s i)) (hv : 1 ≤ v ∧ v ≤ 8)
    (k10 : ¬ (∀ s, 1 ≤ s → s ≤ v → Cs g t s ≤ 2000) → K (-10) M) (kk : (∀ s, 1 ≤ s → s ≤ v → Cs g t s ≤ 2000) → ∀ M' x, XSt M 128000 M' → FUR (FvR g d tg Wf zf M) (Cs g t) v x → K x M') : AW mX11_firstUncovered 29 [some (vR 0), some (vI v), some (vI 1), none] [] M (QI K) := by
  have hT := hC.1.1.1
  have hr := hC.2.2.2.2.2.2.1
  have ht := hC.sub n0
  rw [← et] at ht
  -- one size
  have one : ∀ (m : Nat) (M1 : Mem) (s j : Int) (P : Int → Mem → Prop), (Cs g t s - j).toNat = m → 1 ≤ s → s ≤ 8 → Cs g t s ≤ 2000 → 0 ≤ j → j ≤ Cs g t s → XSt M (16000 * (s - 1) + 8 * j) M1 → (∀ i, 0 ≤ i → i < j → Cov (FvR g d tg Wf zf M) s i) → (∀ M' i, XSt M (16000 * s) M' → (0 ≤ i ∧ i < Cs g t s) → FvR g d tg Wf zf M s i (-13) → (∀ i2, 0 ≤ i2 → i2 < i → Cov (FvR g d tg Wf zf M) s i2) → P i M') → (∀ M', XSt M (16000 * s) M' → (∀ i, 0 ≤ i → i < Cs g t s → Cov (FvR g d tg Wf zf M) s i) → P (-13) M') → AW mX11_firstIndexUncovered 18 [some (vR 0), some (vI s), some (vI (Cs g t s)), some (vI j)] [] M1 (QI P) := by
    intro m
    induction m with
    | zero =>
      intro M1 s j P hm s0 s1 l j0 j1 hx hcov p1 p2
      exact sg_X11_firstIndexUncovered_18 ⟨by omega, fun _ => p2 M1 (hx.mono (by omega)) (fun i i0 i1 => hcov i i0 (by omega)), fun y => by omega⟩
    | succ m ih =>
      intro M1 s j P hm s0 s1 l j0 j1 hx hcov p1 p2
      have hvd : Vd g t s j := ⟨ht, by omega, j0, by omega⟩
      refine sg_X11_firstIndexUncovered_18 ⟨by omega, fun y => by omega, fun _ => c_keyOf (c_valX hC h3 et hvd (hW s j hvd) hx (by omega) (fun M2 r hx2 hfm => ?_))⟩
      have br := hfm.bd
      refine ⟨by omega, fun ne => ih M2 s (j + 1) P (by omega) s0 s1 l (by omega) (by omega) (hx2.mono (by omega)) (fun i i0 i1 => ?_) p1 p2, fun ne => p1 M2 j (hx2.mono (by omega)) (by omega) ?_ hcov⟩
      · by_cases e : i = j
        · rw [e]; exact ⟨r, by omega, hfm⟩
        · exact hcov i i0 (by omega)
      · have e : r = -13 := Decidable.not_not.mp ne
        rw [e] at hfm
        exact hfm
  -- all sizes
  have all : (∀ s, 1 ≤ s → s ≤ v → Cs g t s ≤ 2000) → ∀ (m : Nat) (M1 : Mem) (s : Int), (v + 1 - s).toNat = m → 1 ≤ s → s ≤ v + 1 → XSt M (16000 * (s - 1)) M1 → (∀ s2 i2, 1 ≤ s2 → s2 < s → 0 ≤ i2 → i2 < Cs g t s2 → Cov (FvR g d tg Wf zf M) s2 i2) → AW mX11_firstUncovered 66 [some (vR 0), some (vI v), some (vI s), none] [] M1 (QI K) := by
    intro hl m
    induction m with
    | zero =>
      intro M1 s hm s0 s1 hx hcov
      exact sg_X11_firstUncovered_66 ⟨by omega, fun _ => kk hl M1 _ (hx.mono (by omega)) (Or.inl ⟨rfl, fun s2 i2 a b => hcov s2 i2 a (by omega)⟩), fun y => by omega⟩
    | succ m ih =>
      intro M1 s hm s0 s1 hx hcov
      have hC1 := hC.keep hx.keep
      have e44 : M1 44 = M 44 := hx.keep.1 44 (by decide)
      have bC := Cs_bd (g := g) t s
      have l := hl s s0 (by omega)
      refine sg_X11_firstUncovered_66 ⟨by omega, fun y => by omega, fun _ => en_X11_firstIndexUncovered (c_subjectX hC1 (by rw [hx.2.1]; exact n0) ?_)⟩
      rw [e44, ← et]
      refine c_countOf (by omega) (by omega) ?_
      rw [hC1.2.2.2.2.1.1 t s ht.1 (by omega) (by omega) (by omega)]
      refine one _ M1 s 0 _ rfl s0 (by omega) l (by omega) (by omega) (hx.mono (by omega)) (fun i i0 i1 => by omega) (fun M2 i hx2 hi hf hc2 => ⟨by omega, fun y => by omega, fun _ => kk hl M2 _ (hx2.mono (by omega)) (Or.inr ⟨s, i, ⟨⟨s0, by omega⟩, hi⟩, hf, rfl, hcov, hc2⟩)⟩) (fun M2 hx2 hc2 => ⟨by decide, fun _ => ih M2 (s + 1) (by omega) (by omega) (by omega) (hx2.mono (by omega)) (fun s2 i2 a b c2 e2 => ?_), fun y => absurd rfl y⟩)
      by_cases e : s2 = s
      · rw [e] at e2 ⊢
        exact hc2 i2 c2 e2
      · exact hcov s2 i2 a (by omega) c2 e2
  have cnt : ∀ (m : Nat) (s : Int), (v + 1 - s).toNat = m → 1 ≤ s → s ≤ v + 1 → (∀ s2, 1 ≤ s2 → s2 < s → Cs g t s2 ≤ 2000) → AW mX11_firstUncovered 29 [some (vR 0), some (vI v), some (vI s), none] [] M (QI K) := by
    intro m
    induction m with
    | zero =>
      intro s hm s0 s1 hl
      exact sg_X11_firstUncovered_29 ⟨by omega, fun _ => all (fun s2 a b => hl s2 a (by omega)) _ M 1 rfl (by omega) (by omega) ⟨Fr.refl _ _, rfl, by omega, h45⟩ (fun s2 i2 a b => by omega), fun y => by omega⟩
    | succ m ih =>
      intro s hm s0 s1 hl
      have bC := Cs_bd (g := g) t s
      refine sg_X11_firstUncovered_29 ⟨by omega, fun y => by omega, fun _ => c_subjectX hC n0 ?_⟩
      rw [← et]
      refine c_countOf (by omega) (by omega) ?_
      rw [hC.2.2.2.2.1.1 t s ht.1 (by omega) (by omega) (by omega)]
      refine ⟨by omega, fun l => ih (s + 1) (by omega) (by omega) (by omega) (fun s2 a b => ?_), fun l => k10 (fun hh => l (hh s s0 (by omega)))⟩
      by_cases e : s2 = s
      · rw [e]; exact l
      · exact hl s2 a (by omega)
  exact cnt _ 1 rfl (by omega) (by omega) (fun s2 a b => by omega)
theorem c_fuM {M : Mem} {K : Int → Mem → Prop} {Wf zf : Int → Int → Int → Int} {v t : Int} (hC : Core g d tg M) (n0 : 0 < M 43 1) (et : t = nY d (M 44 0)) (hW : ∀ s i, Vd g t s i → RowOf g t s i (Wf s i) (zf s i)) (hO : MCnt g M) (hv : 1 ≤ v ∧ v ≤ 8)
    (k10 : ¬ (∀ s, 1 ≤ s → s ≤ v → Cs g t s ≤ 2000) → K (-10) M) (kk : (∀ s, 1 ≤ s → s ≤ v → Cs g t s ≤ 2000) → ∀ M' x, MSt M M' → FUR (FvR g d tg Wf zf M) (Cs g t) v x → K x M') : AW mX12_firstUncovered 29 [some (vR 50), some (vI v), some (vI 1), none] [] M (QI K) := by
  have hT := hC.1.1.1
  have hr := hC.2.2.2.2.2.2.1
  have ht := hC.sub n0
  rw [← et] at ht
  have all : (∀ s, 1 ≤ s → s ≤ v → Cs g t s ≤ 2000) → ∀ (m : Nat) (M1 : Mem) (s : Int), (v + 1 - s).toNat = m → 1 ≤ s → s ≤ v + 1 → MSt M M1 → (∀ s2 i2, 1 ≤ s2 → s2 < s → 0 ≤ i2 → i2 < Cs g t s2 → Cov (FvR g d tg Wf zf M) s2 i2) → AW mX12_firstUncovered 60 [some (vR 50), some (vI v), some (vI s), none] [] M1 (QI K) := by
    intro hl m
    induction m with
    | zero =>
      intro M1 s hm s0 s1 hx hcov
      exact sg_X12_firstUncovered_60 ⟨by omega, fun _ => kk hl M1 _ hx (Or.inl ⟨rfl, fun s2 i2 a b => hcov s2 i2 a (by omega)⟩), fun y => by omega⟩
    | succ m ih =>
      intro M1 s hm s0 s1 hx hcov
      have bC := Cs_bd (g := g) t s
      have l := hl s s0 (by omega)
      have one : ∀ (m2 : Nat) (M2 : Mem) (j : Int), (Cs g t s - j).toNat = m2 → 0 ≤ j → j ≤ Cs g t s → MSt M M2 → (∀ i, 0 ≤ i → i < j → Cov (FvR g d tg Wf zf M) s i) → AW mX12_firstUncovered 67 [some (vR 50), some (vI v), some (vI s), some (vI j)] [] M2 (QI K) := by
        intro m2
        induction m2 with
        | zero =>
          intro M2 j hm2 j0 j1 hx2 hc2
          have hC2 := hC.keep hx2.keep
          have e44 : M2 44 = M 44 := hx2.keep.1 44 (by decide)
          refine sg_X12_firstUncovered_67 (c_subject hC2 (by rw [hx2.keep.2.1]; exact n0) ?_)
          rw [e44, ← et]
          refine c_countOfM (by omega) (by omega) ?_
          rw [(hO.ms hx2).1 t s ht.1 (by omega) (by omega) (by omega)]
          refine ⟨by omega, fun _ => ih M2 (s + 1) (by omega) (by omega) (by omega) hx2 (fun s2 i2 a b c2 e2 => ?_), fun y => by omega⟩
          by_cases e : s2 = s
          · rw [e] at e2 ⊢
            exact hc2 i2 c2 (by omega)
          · exact hcov s2 i2 a (by omega) c2 e2
        | succ m2 ih2 =>
          intro M2 j hm2 j0 j1 hx2 hc2
          have hC2 := hC.keep hx2.keep
          have e44 : M2 44 = M 44 := hx2.keep.1 44 (by decide)
          have hvd : Vd g t s j := ⟨ht, by omega, j0, by omega⟩
          refine sg_X12_firstUncovered_67 (c_subject hC2 (by rw [hx2.keep.2.1]; exact n0) ?_)
          rw [e44, ← et]
          refine c_countOfM (by omega) (by omega) ?_
          rw [(hO.ms hx2).1 t s ht.1 (by omega) (by omega) (by omega)]
          refine ⟨by omega, fun y => by omega, fun _ => c_valM hC n0 et hvd (hW s j hvd) hO hx2 (fun M3 r hx3 hfm => ?_)⟩
          have br := hfm.bd
          refine ⟨by omega, fun ge => ih2 M3 (j + 1) (by omega) (by omega) (by omega) hx3 (fun i i0 i1 => ?_), fun ge => kk hl M3 _ hx3 (Or.inr ⟨s, j, ⟨⟨s0, by omega⟩, by omega⟩, ?_, rfl, hcov, hc2⟩)⟩
          · by_cases e : i = j
            · rw [e]; exact ⟨r, by omega, hfm⟩
            · exact hc2 i i0 (by omega)
          · have e : r = -13 := by omega
            rw [e] at hfm
            exact hfm
      exact sg_X12_firstUncovered_60 ⟨by omega, fun y => by omega, fun _ => one _ M1 0 rfl (by omega) (by omega) hx (fun i i0 i1 => by omega)⟩
  have cnt : ∀ (m : Nat) (s : Int), (v + 1 - s).toNat = m → 1 ≤ s → s ≤ v + 1 → (∀ s2, 1 ≤ s2 → s2 < s → Cs g t s2 ≤ 2000) → AW mX12_firstUncovered 29 [some (vR 50), some (vI v), some (vI s), none] [] M (QI K) := by
    intro m
    induction m with
    | zero =>
      intro s hm s0 s1 hl
      exact sg_X12_firstUncovered_29 ⟨by omega, fun _ => all (fun s2 a b => hl s2 a (by omega)) _ M 1 rfl (by omega) (by omega) (MSt.rf M) (fun s2 i2 a b => by omega), fun y => by omega⟩
    | succ m ih =>
      intro s hm s0 s1 hl
      have bC := Cs_bd (g := g) t s
      refine sg_X12_firstUncovered_29 ⟨by omega, fun y => by omega, fun _ => c_subject hC n0 ?_⟩
      rw [← et]
      refine c_countOfM (by omega) (by omega) ?_
      rw [hO.1 t s ht.1 (by omega) (by omega) (by omega)]
      refine ⟨by omega, fun l => ih (s + 1) (by omega) (by omega) (by omega) (fun s2 a b => ?_), fun l => k10 (fun hh => l (hh s s0 (by omega)))⟩
      by_cases e : s2 = s
      · rw [e]; exact l
      · exact hl s2 a (by omega)
  exact cnt _ 1 rfl (by omega) (by omega) (fun s2 a b => by omega)
end
section
variable {c : Nat} {M : Mem} {K : Int → Mem → Prop}
theorem op_firstUncovered (h : Inv c M) (hc5 : c < 1000) {v : Int} (hv : InR v) (kk : ∀ r M1, Then mX12_firstUncovered [vR 50, vI v] c r M1 → K r M1) : CI mX11_firstUncovered [vR 0, vI v] M K := by
  obtain ⟨g, d, tg, hC, hc⟩ := h
  have hI : Inv (c + 1) M := ⟨g, d, tg, hC, hc.up⟩
  have hc3 := hc.2.2.1
  have hr := hC.2.2.2.2.2.2.1
  obtain ⟨Wf, zf, hW⟩ := rows_of hC.1.1 (nY d (M 44 0))
  have ref : ∀ (M1 : Mem) (K2 : Int → Mem → Prop), Keep M M1 → (M 43 1 = 0 → K2 (-11) M1) → (0 < M 43 1 → ¬ (1 ≤ v ∧ v ≤ 8) → K2 (-4) M1) → (0 < M 43 1 → 1 ≤ v ∧ v ≤ 8 → ∀ M2, Fr [63, 64] M1 M2 → MCnt g M2 → AW mX12_firstUncovered 29 [some (vR 50), some (vI v), some (vI 1), none] [] M2 (QI K2)) → CI mX12_firstUncovered [vR 50, vI v] M1 K2 := by
    intro M1 K2 hK n11 n4 go
    have hC1 := hC.keep hK
    have e13 : M1 50 13 = M 43 1 := by rw [hC1.2.2.2.2.2.2.2.1]; exact hK.2.1
    refine en_X12_firstUncovered ?_
    rw [e13]
    exact ⟨by omega, fun nz => c_in hv (by decide) (by decide) (fun q => ⟨by decide, fun _ => c_layCounts hC1.1.1 hC1.2.2.1.1 (fun M2 hF hO => go (by omega) q M2 hF hO), fun z => absurd (by decide) z⟩) (fun q => ⟨by decide, fun z => absurd rfl z, fun _ => n4 (by omega) q⟩), fun nz => n11 (Decidable.not_not.mp nz)⟩
  have keep0 : Keep M M := Keep.of (Fr.refl [] M) (by decide)
  have no4 : 0 < M 43 1 → ¬ (1 ≤ v ∧ v ≤ 8) → K (-4) M := fun n0 nq => kk _ M ⟨by decide, fun K2 k2 => ref M K2 keep0 (fun _ => by omega) (fun _ _ => k2 M hI) (fun _ z => absurd z nq)⟩
  refine en_X11_firstUncovered ⟨by omega, fun nz => ⟨hv, fun y => no4 (by omega) (by omega), fun y => ⟨hv, fun y2 => ?_, fun y2 => no4 (by omega) (by omega)⟩⟩, fun nz => kk _ M ⟨by decide, fun K2 k2 => ref M K2 keep0 (fun _ => k2 M hI) (fun z => absurd z (by omega)) (fun z => absurd z (by omega))⟩⟩
  have n0 : 0 < M 43 1 := by omega
  have q : 1 ≤ v ∧ v ≤ 8 := by omega
  refine c_fuX hC (by omega) hc.2.2.2.2.2 n0 rfl hW q (fun nl => kk _ M ⟨by decide, fun K2 k2 => ref M K2 keep0 (fun z => absurd z (by omega)) (fun _ z => absurd q z) (fun _ _ M2 hF hO => ?_)⟩) (fun hl M1 x hx hfu => kk _ M1 ⟨hfu.bd q.2 (fun s => (Cs_bd _ s).2), fun K2 k2 => ref M1 K2 hx.keep (fun z => absurd z (by omega)) (fun _ z => absurd q z) (fun _ _ M2 hF hO => ?_)⟩)
  · have hK2 : Keep M M2 := Keep.of hF (by decide)
    have hC2 := hC.keep hK2
    exact c_fuM (t := nY d (M 44 0)) hC2 (by rw [hK2.2.1]; exact n0) (by rw [hK2.1 44 (by decide)]) hW hO q (fun _ => k2 M2 ⟨g, d, tg, hC2, hc.up.fr hF (by decide)⟩) (fun z => absurd z nl)
  · have hK2 : Keep M M2 := hx.keep.tr (Keep.of hF (by decide))
    have hC2 := hC.keep hK2
    refine c_fuM (t := nY d (M 44 0)) hC2 (by rw [hK2.2.1]; exact n0) (by rw [hK2.1 44 (by decide)]) hW hO q (fun z => absurd hl z) (fun _ M3 y hm hfu2 => ?_)
    have eF : FvR g d tg Wf zf M2 = FvR g d tg Wf zf M := funext (fun s => FvR.cg hK2)
    rw [eF] at hfu2
    rw [FUR.uq (fun s => FvR.uq) hfu2 hfu]
    exact k2 M3 ⟨g, d, tg, hC2.keep hm.keep, ((hc.fits hx (by omega)).fr hF (by decide)).fr hm.1 (by decide)⟩
end
