/-! uncovered and coveredBy -/
section
variable {g : Sg} {d : Nd} {tg : Int → Int}
/-- the answer for the value at i of size s -/
def FvR (g : Sg) (d : Nd) (tg : Int → Int) (Wf zf : Int → Int → Int → Int) (M : Mem) (s i r : Int) : Prop := FM g d tg (Wf s i) (zf s i) (M 44) (M 43 1) r
theorem Core.sub {M : Mem} (hC : Core g d tg M) (n0 : 0 < M 43 1) : 0 ≤ nY d (M 44 0) ∧ nY d (M 44 0) < gT g := by
  have hr := hC.2.2.2.2.2.2.2.2 0 (by omega) n0
  exact (hC.1.2.1.2 _ hr.2.1.1 hr.2.1.2).1
theorem c_cff {M : Mem} {K : Int → Mem → Prop} {Wf zf : Int → Int → Int → Int} {a s t : Int} (hC : Core g d tg M) (h3 : 0 ≤ M 43 3 ∧ M 43 3 ≤ 800000000) (h45 : ∀ n, 0 ≤ n → n < 100 → 0 ≤ M 45 n ∧ M 45 n ≤ M 43 3) (n0 : 0 < M 43 1) (et : t = nY d (M 44 0)) (hW : ∀ s i, Vd g t s i → RowOf g t s i (Wf s i) (zf s i)) (ha : InR a) (hs : InR s)
    (k4 : ¬ (1 ≤ s ∧ s ≤ 8) → K (-4) M) (k10 : 1 ≤ s ∧ s ≤ 8 → ¬ Cs g t s ≤ 2000 → K (-10) M) (kk : 1 ≤ s ∧ s ≤ 8 → Cs g t s ≤ 2000 → ∀ M' x, XSt M 128000 M' → CtR (FvR g d tg Wf zf M s) a (Cs g t s).toNat x → 0 ≤ x ∧ x ≤ 2000 → K x M') : CI mX11_countFirstFitting [vR 0, vI a, vI s] M K := by
  have hT := hC.1.1.1
  have hr := hC.2.2.2.2.2.2.1
  have ht := hC.sub n0
  rw [← et] at ht
  have bC := Cs_bd (g := g) t s
  refine en_X11_countFirstFitting ⟨hs, fun y => k4 (by omega), fun y => ⟨hs, fun y2 => c_subjectX hC n0 ?_, fun y2 => k4 (by omega)⟩⟩
  rw [← et]
  refine c_countOf (by omega) (by omega) ?_
  rw [hC.2.2.2.2.1.1 t s ht.1 (by omega) (by omega) (by omega)]
  refine ⟨by omega, fun l => ?_, fun l => k10 (by omega) l⟩
  have loop : ∀ (m : Nat) (M1 : Mem) (x j : Int), (Cs g t s - j).toNat = m → 0 ≤ j → j ≤ Cs g t s → XSt M (8 * j) M1 → CtR (FvR g d tg Wf zf M s) a j.toNat x → 0 ≤ x → x ≤ j → AW mX11_countFirstFitting 46 [some (vR 0), some (vI a), some (vI s), some (vI (Cs g t s)), some (vI x), some (vI j)] [] M1 (QI K) := by
    intro m
    induction m with
    | zero =>
      intro M1 x j hm j0 j1 hx hct x0 x1
      refine sg_X11_countFirstFitting_46 ⟨by omega, fun _ => kk (by omega) l M1 x (hx.mono (by omega)) ?_ (by omega), fun y => by omega⟩
      rw [show Cs g t s = j by omega]
      exact hct
    | succ m ih =>
      intro M1 x j hm j0 j1 hx hct x0 x1
      have hv : Vd g t s j := ⟨ht, by omega, j0, by omega⟩
      refine sg_X11_countFirstFitting_46 ⟨by omega, fun y => by omega, fun _ => c_keyOf (c_valX hC h3 et hv (hW s j hv) hx (by omega) (fun M2 r hx2 hfm => ?_))⟩
      have br := hfm.bd
      have hx3 : XSt M (8 * (j + 1)) M2 := hx2.mono (by omega)
      have hF : FvR g d tg Wf zf M s ((j.toNat : Nat) : Int) r := by
        rw [show ((j.toNat : Nat) : Int) = j by omega]
        exact hfm
      refine ⟨⟨by omega, ha⟩, fun ne => sg_X11_countFirstFitting_76 (ih M2 x (j + 1) (by omega) (by omega) (by omega) hx3 ?_ x0 (by omega)), fun ne => sg_X11_countFirstFitting_76 (ih M2 (x + 1) (j + 1) (by omega) (by omega) (by omega) hx3 ?_ (by omega) (by omega))⟩
      · rw [show (j + 1).toNat = j.toNat + 1 by omega]
        exact ⟨x, r, hct, hF, by rw [if_neg ne]⟩
      · rw [show (j + 1).toNat = j.toNat + 1 by omega]
        exact ⟨x, r, hct, hF, by rw [if_pos (Decidable.not_not.mp ne)]⟩
  exact loop _ M 0 0 rfl (by omega) (by omega) ⟨Fr.refl _ _, rfl, by omega, h45⟩ rfl (by omega) (by omega)
theorem c_cm {M1 : Mem} {K : Int → Mem → Prop} {Wf zf : Int → Int → Int → Int} {a s t : Int} (hC : Core g d tg M1) (n0 : 0 < M1 43 1) (et : t = nY d (M1 44 0)) (hW : ∀ s i, Vd g t s i → RowOf g t s i (Wf s i) (zf s i)) (hO : MCnt g M1) (ha : InR a) (hs : 1 ≤ s ∧ s ≤ 8) (kk : ∀ M' x, MSt M1 M' → CtR (FvR g d tg Wf zf M1 s) a (Cs g t s).toNat x → K x M') : CI mX12_countMatched [vR 50, vI a, vI s] M1 K := by
  have hT := hC.1.1.1
  have hr := hC.2.2.2.2.2.2.1
  have ht := hC.sub n0
  rw [← et] at ht
  have bC := Cs_bd (g := g) t s
  refine en_X12_countMatched (c_subject hC n0 ?_)
  rw [← et]
  refine c_countOfM (by omega) (by omega) ?_
  rw [hO.1 t s ht.1 (by omega) (by omega) (by omega)]
  have loop : ∀ (m : Nat) (M : Mem) (x j : Int), (Cs g t s - j).toNat = m → 0 ≤ j → j ≤ Cs g t s → MSt M1 M → CtR (FvR g d tg Wf zf M1 s) a j.toNat x → AW mX12_countMatched 16 [some (vR 50), some (vI a), some (vI s), some (vI x), some (vI (Cs g t s)), some (vI j)] [] M (QI K) := by
    intro m
    induction m with
    | zero =>
      intro M x j hm j0 j1 hx hct
      refine sg_X12_countMatched_16 ⟨by omega, fun _ => kk M x hx ?_, fun y => by omega⟩
      rw [show Cs g t s = j by omega]
      exact hct
    | succ m ih =>
      intro M x j hm j0 j1 hx hct
      have hv : Vd g t s j := ⟨ht, by omega, j0, by omega⟩
      refine sg_X12_countMatched_16 ⟨by omega, fun y => by omega, fun _ => c_valM hC n0 et hv (hW s j hv) hO hx (fun M2 r hx2 hfm => ?_)⟩
      have br := hfm.bd
      have hF : FvR g d tg Wf zf M1 s ((j.toNat : Nat) : Int) r := by
        rw [show ((j.toNat : Nat) : Int) = j by omega]
        exact hfm
      refine ⟨⟨by omega, ha⟩, fun ne => ih M2 (x + 0) (j + 1) (by omega) (by omega) (by omega) hx2 ?_, fun ne => ih M2 (x + 1) (j + 1) (by omega) (by omega) (by omega) hx2 ?_⟩
      · rw [show (j + 1).toNat = j.toNat + 1 by omega]
        exact ⟨x, r, hct, hF, by rw [if_neg ne]; omega⟩
      · rw [show (j + 1).toNat = j.toNat + 1 by omega]
        exact ⟨x, r, hct, hF, by rw [if_pos (Decidable.not_not.mp ne)]⟩
  exact loop _ M1 0 0 rfl (by omega) (by omega) (MSt.rf M1) rfl
theorem FvR.uq {Wf zf : Int → Int → Int → Int} {M : Mem} {s : Int} : ∀ i r r2, FvR g d tg Wf zf M s i r → FvR g d tg Wf zf M s i r2 → r = r2 := fun _ _ _ h k => FM.uq h k
theorem FvR.cg {Wf zf : Int → Int → Int → Int} {M M2 : Mem} {s : Int} (k : Keep M M2) : FvR g d tg Wf zf M2 s = FvR g d tg Wf zf M s := by
  funext i r
  unfold FvR
  rw [k.1 44 (by decide), k.2.1]
end
section
variable {c : Nat} {M : Mem} {K : Int → Mem → Prop}
theorem op_uncovered (h : Inv c M) (hc5 : c < 1000) {v : Int} (hv : InR v) (kk : ∀ r M1, Then mX12_uncovered [vR 50, vI v] c r M1 → K r M1) : CI mX11_uncovered [vR 0, vI v] M K := by
  obtain ⟨g, d, tg, hC, hc⟩ := h
  have hI : Inv (c + 1) M := ⟨g, d, tg, hC, hc.up⟩
  have hc3 := hc.2.2.1
  have hr := hC.2.2.2.2.2.2.1
  have hT := hC.1.1.1
  obtain ⟨Wf, zf, hW⟩ := rows_of hC.1.1 (nY d (M 44 0))
  have bC := Cs_bd (g := g) (nY d (M 44 0)) v
  -- the reference's way
  have ref : ∀ (M1 : Mem) (K2 : Int → Mem → Prop), Keep M M1 → (M 43 1 = 0 → K2 (-11) M1) → (0 < M 43 1 → ¬ (1 ≤ v ∧ v ≤ 8) → K2 (-4) M1) → (0 < M 43 1 → 1 ≤ v ∧ v ≤ 8 → ∀ M2, Fr [63, 64] M1 M2 → MCnt g M2 → (¬ Cs g (nY d (M 44 0)) v ≤ 2000 → K2 (-10) M2) ∧ (Cs g (nY d (M 44 0)) v ≤ 2000 → CI mX12_countMatched [vR 50, vI (-13), vI v] M2 K2)) → CI mX12_uncovered [vR 50, vI v] M1 K2 := by
    intro M1 K2 hK n11 n4 go
    have hC1 := hC.keep hK
    have e43 : M1 43 1 = M 43 1 := hK.2.1
    have e44 : M1 44 = M 44 := hK.1 44 (by decide)
    have e13 : M1 50 13 = M 43 1 := by rw [hC1.2.2.2.2.2.2.2.1]; exact e43
    refine en_X12_uncovered ?_
    rw [e13]
    refine ⟨by omega, fun nz => c_in hv (by decide) (by decide) (fun q => ⟨by decide, fun _ => c_layCounts hC1.1.1 hC1.2.2.1.1 (fun M2 hF hO => ?_), fun z => absurd (by decide) z⟩) (fun q => ⟨by decide, fun z => absurd rfl z, fun _ => n4 (by omega) q⟩), fun nz => n11 (Decidable.not_not.mp nz)⟩
    have hK2 : Keep M1 M2 := Keep.of hF (by decide)
    have hC2 := hC1.keep hK2
    have w := go (by omega) q M2 hF hO
    have ht := hC.sub (by omega)
    refine c_subject hC2 (by rw [hK2.2.1]; omega) ?_
    rw [hK2.1 44 (by decide), e44]
    refine c_countOfM (by omega) (by omega) ?_
    rw [hO.1 _ v ht.1 (by omega) (by omega) (by omega)]
    exact ⟨by omega, fun l => w.2 l, fun l => w.1 l⟩
  have keep0 : Keep M M := Keep.of (Fr.refl [] M) (by decide)
  have fin0 : ∀ M2, Fr [63, 64] M M2 → Inv (c + 1) M2 := fun M2 hF => ⟨g, d, tg, hC.keep (Keep.of hF (by decide)), hc.up.fr hF (by decide)⟩
  refine en_X11_uncovered ⟨by omega, fun nz => ?_, fun nz => kk _ M ⟨by decide, fun K2 k2 => ref M K2 keep0 (fun _ => k2 M hI) (fun z => absurd z (by omega)) (fun z => absurd z (by omega))⟩⟩
  have n0 : 0 < M 43 1 := by omega
  refine c_cff hC (by omega) hc.2.2.2.2.2 n0 rfl hW (by decide) hv (fun q => kk _ M ⟨by decide, fun K2 k2 => ref M K2 keep0 (fun _ => by omega) (fun _ _ => k2 M hI) (fun _ z => absurd z q)⟩) (fun q l => kk _ M ⟨by decide, fun K2 k2 => ref M K2 keep0 (fun _ => by omega) (fun _ z => absurd q z) (fun _ _ M2 hF hO => ⟨fun _ => k2 M2 (fin0 M2 hF), fun z => absurd z l⟩)⟩) (fun q l M1 x hx hct bx => kk _ M1 ⟨by omega, fun K2 k2 => ref M1 K2 hx.keep (fun _ => by omega) (fun _ z => absurd q z) (fun _ _ M2 hF hO => ⟨fun z => absurd l z, fun _ => ?_⟩)⟩)
  have hK2 : Keep M M2 := hx.keep.tr (Keep.of hF (by decide))
  have hC2 := hC.keep hK2
  refine c_cm (t := nY d (M 44 0)) hC2 (by rw [hK2.2.1]; exact n0) (by rw [hK2.1 44 (by decide)]) hW hO (by decide) q (fun M3 y hm hct2 => ?_)
  rw [FvR.cg hK2] at hct2
  rw [CtR.uq FvR.uq _ y x hct2 hct]
  exact k2 M3 ⟨g, d, tg, hC2.keep hm.keep, ((hc.fits hx (by omega)).fr hF (by decide)).fr hm.1 (by decide)⟩
theorem op_coveredBy (h : Inv c M) (hc5 : c < 1000) {u v : Int} (hu : InR u) (hv : InR v) (kk : ∀ r M1, Then mX12_coveredBy [vR 50, vI u, vI v] c r M1 → K r M1) : CI mX11_coveredBy [vR 0, vI u, vI v] M K := by
  obtain ⟨g, d, tg, hC, hc⟩ := h
  have hI : Inv (c + 1) M := ⟨g, d, tg, hC, hc.up⟩
  have hc3 := hc.2.2.1
  have hr := hC.2.2.2.2.2.2.1
  have hT := hC.1.1.1
  obtain ⟨Wf, zf, hW⟩ := rows_of hC.1.1 (nY d (M 44 0))
  have bC := Cs_bd (g := g) (nY d (M 44 0)) v
  have ref : ∀ (M1 : Mem) (K2 : Int → Mem → Prop), Keep M M1 → (M 43 1 = 0 → K2 (-11) M1) → (0 < M 43 1 → ¬ (0 ≤ u ∧ u < M 43 1) ∨ ¬ (1 ≤ v ∧ v ≤ 8) → K2 (-4) M1) → (0 < M 43 1 → 0 ≤ u ∧ u < M 43 1 → 1 ≤ v ∧ v ≤ 8 → ∀ M2, Fr [63, 64] M1 M2 → MCnt g M2 → (¬ Cs g (nY d (M 44 0)) v ≤ 2000 → K2 (-10) M2) ∧ (Cs g (nY d (M 44 0)) v ≤ 2000 → CI mX12_countMatched [vR 50, vI u, vI v] M2 K2)) → CI mX12_coveredBy [vR 50, vI u, vI v] M1 K2 := by
    intro M1 K2 hK n11 n4 go
    have hC1 := hC.keep hK
    have e43 : M1 43 1 = M 43 1 := hK.2.1
    have e44 : M1 44 = M 44 := hK.1 44 (by decide)
    have e13 : M1 50 13 = M 43 1 := by rw [hC1.2.2.2.2.2.2.2.1]; exact e43
    refine en_X12_coveredBy ?_
    rw [e13]
    refine ⟨by omega, fun nz => c_in hu (by decide) (by omega) (fun qu => ⟨by decide, fun z => absurd z (by decide), fun _ => c_in hv (by decide) (by decide) (fun q => ⟨by decide, fun _ => c_layCounts hC1.1.1 hC1.2.2.1.1 (fun M2 hF hO => ?_), fun z => absurd (by decide) z⟩) (fun q => ⟨by decide, fun z => absurd rfl z, fun _ => n4 (by omega) (Or.inr q)⟩)⟩) (fun qu => ⟨by decide, fun _ => n4 (by omega) (Or.inl (by omega)), fun z => absurd rfl z⟩), fun nz => n11 (Decidable.not_not.mp nz)⟩
    have hK2 : Keep M1 M2 := Keep.of hF (by decide)
    have hC2 := hC1.keep hK2
    have w := go (by omega) (by omega) q M2 hF hO
    have ht := hC.sub (by omega)
    refine c_subject hC2 (by rw [hK2.2.1]; omega) ?_
    rw [hK2.1 44 (by decide), e44]
    refine c_countOfM (by omega) (by omega) ?_
    rw [hO.1 _ v ht.1 (by omega) (by omega) (by omega)]
    exact ⟨by omega, fun l => w.2 l, fun l => w.1 l⟩
  have keep0 : Keep M M := Keep.of (Fr.refl [] M) (by decide)
  have fin0 : ∀ M2, Fr [63, 64] M M2 → Inv (c + 1) M2 := fun M2 hF => ⟨g, d, tg, hC.keep (Keep.of hF (by decide)), hc.up.fr hF (by decide)⟩
  have no4 : 0 < M 43 1 → ¬ (0 ≤ u ∧ u < M 43 1) ∨ ¬ (1 ≤ v ∧ v ≤ 8) → K (-4) M := fun n0 nq => kk _ M ⟨by decide, fun K2 k2 => ref M K2 keep0 (fun _ => by omega) (fun _ _ => k2 M hI) (fun _ z1 z2 => absurd nq (by omega))⟩
  refine en_X11_coveredBy ⟨by omega, fun nz => ⟨hu, fun y => no4 (by omega) (by omega), fun y => ⟨⟨hu, by omega⟩, fun y2 => ?_, fun y2 => no4 (by omega) (by omega)⟩⟩, fun nz => kk _ M ⟨by decide, fun K2 k2 => ref M K2 keep0 (fun _ => k2 M hI) (fun z => absurd z (by omega)) (fun z => absurd z (by omega))⟩⟩
  have n0 : 0 < M 43 1 := by omega
  refine c_cff hC (by omega) hc.2.2.2.2.2 n0 rfl hW hu hv (fun q => no4 n0 (Or.inr q)) (fun q l => kk _ M ⟨by decide, fun K2 k2 => ref M K2 keep0 (fun _ => by omega) (fun _ z => absurd z (by omega)) (fun _ _ _ M2 hF hO => ⟨fun _ => k2 M2 (fin0 M2 hF), fun z => absurd z l⟩)⟩) (fun q l M1 x hx hct bx => kk _ M1 ⟨by omega, fun K2 k2 => ref M1 K2 hx.keep (fun _ => by omega) (fun _ z => absurd z (by omega)) (fun _ _ _ M2 hF hO => ⟨fun z => absurd l z, fun _ => ?_⟩)⟩)
  have hK2 : Keep M M2 := hx.keep.tr (Keep.of hF (by decide))
  have hC2 := hC.keep hK2
  refine c_cm (t := nY d (M 44 0)) hC2 (by rw [hK2.2.1]; exact n0) (by rw [hK2.1 44 (by decide)]) hW hO hu q (fun M3 y hm hct2 => ?_)
  rw [FvR.cg hK2] at hct2
  rw [CtR.uq FvR.uq _ y x hct2 hct]
  exact k2 M3 ⟨g, d, tg, hC2.keep hm.keep, ((hc.fits hx (by omega)).fr hF (by decide)).fr hm.1 (by decide)⟩
end
