/-! firstMatch -/
section
variable {c : Nat} {M : Mem} {K : Int → Mem → Prop}
theorem op_firstMatch (h : Inv c M) (hc5 : c < 1000) {v : Int} (hv : InR v) (kk : ∀ r M1, Then mX12_firstMatch [vR 50, vI v] c r M1 → K r M1) : CI mX11_firstMatch [vR 0, vI v] M K := by
  obtain ⟨g, d, tg, hC, hc⟩ := h
  have hI : Inv (c + 1) M := ⟨g, d, tg, hC, hc.up⟩
  obtain ⟨⟨f1, f2, f3, f4, f5, f6⟩, b1, b2, b3⟩ := hC.facts
  obtain ⟨r, hG⟩ := hC.1.2.2.2
  have hc1 := hc.1
  have hc3 := hc.2.2.1
  have hr := hC.2.2.2.2.2.2.1
  have e13 : M 13 = nY d := hC.2.1.2.1.2.1
  -- the reference's way
  have ref : ∀ (M1 : Mem) (K2 : Int → Mem → Prop), Keep M M1 → (¬ (0 ≤ v ∧ v < nN d) → K2 (-3) M1) → (0 ≤ v ∧ v < nN d → M 43 1 = 0 → K2 (-11) M1) → (0 ≤ v ∧ v < nN d → 0 < M 43 1 → ¬ nY d v = nY d (M 44 0) → K2 (-5) M1) → (0 ≤ v ∧ v < nN d → 0 < M 43 1 → nY d v = nY d (M 44 0) → ∀ M2, Fr [75] M1 M2 → (Sz g d tg (re tg v) = -9 → K2 (-9) M2) ∧ (Sz g d tg (re tg v) ≠ -9 → ¬ Sz g d tg (re tg v) ≤ 60 → K2 (-10) M2) ∧ (Sz g d tg (re tg v) ≠ -9 → Sz g d tg (re tg v) ≤ 60 → CV mX12_layTerm [vR 50, vI v] M2 (fun M76 => CI mX12_matchNow [vR 50] M76 (fun r80 M80 => K2 r80 M80)))) → CI mX12_firstMatch [vR 50, vI v] M1 K2 := by
    intro M1 K2 hK n3 n11 n5 go
    have hC1 := hC.keep hK
    have g5 : M1 50 5 = nN d := hC1.2.2.1.2.1.1
    have g43 : M1 43 1 = M 43 1 := hK.2.1
    have g44 : M1 44 = M 44 := hK.1 44 (by decide)
    have g13 : M1 50 13 = M 43 1 := by rw [hC1.2.2.2.2.2.2.2.1]; exact g43
    refine en_X12_firstMatch (c_isNode hv (by rw [g5]; omega) (fun q => ⟨by decide, fun _ => ?_, fun z => absurd (by decide) z⟩) (fun q => ⟨by decide, fun z => absurd rfl z, fun _ => n3 (by rw [g5] at q; exact q)⟩))
    rw [g5] at q
    rw [g13]
    refine ⟨by omega, fun nz => ⟨by omega, ?_⟩, fun nz => n11 q (by omega)⟩
    have n0 : 0 < M 43 1 := by omega
    have hr0 := hC1.2.2.2.2.2.2.2.2 0 (by omega) (by omega)
    rw [hr0.1, (hC1.2.2.1.2.1.2 _ hr0.2.1.1 hr0.2.1.2).1, (hC1.2.2.1.2.1.2 v q.1 q.2).1]
    rw [g44] at hr0 ⊢
    have t1 := (hC.1.2.1.2 v q.1 q.2).1
    have t2 := (hC.1.2.1.2 _ hr0.2.1.1 hr0.2.1.2).1
    refine ⟨by omega, by omega, fun et => c_laySizes hC1.1 hC1.2.2.1 (fun M2 hF2 h75 => ⟨by omega, ?_⟩), fun et => n5 q n0 et⟩
    have w := go q n0 et M2 hF2
    have bS := Sz_bd (g := g) (d := d) (tg := tg) (re tg v)
    rw [h75 v q.1 q.2]
    unfold zz
    by_cases e : Sz g d tg (re tg v) = -9
    · rw [if_pos e]
      exact ⟨by decide, fun z => absurd z (by decide), fun _ => w.1 e⟩
    · rw [if_neg e]
      exact ⟨by omega, fun _ => ⟨by omega, by omega, fun l => w.2.2 e l, fun l => w.2.1 e l⟩, fun z => by omega⟩
  have keep0 : Keep M M := Keep.of (Fr.refl [] M) (by decide)
  refine en_X11_firstMatch (c_contains hv (by omega) (fun q => ⟨by decide, fun _ => ⟨by omega, fun nz => ⟨by omega, ?_⟩, fun nz => kk _ M ⟨by decide, fun K2 k2 => ref M K2 keep0 (fun z => absurd (by omega) z) (fun _ _ => k2 M hI) (fun _ z => absurd z (by omega)) (fun _ z => absurd z (by omega))⟩⟩, fun z => absurd (by decide) z⟩) (fun q => ⟨by decide, fun z => absurd rfl z, fun _ => kk _ M ⟨by decide, fun K2 k2 => ref M K2 keep0 (fun _ => k2 M hI) (fun z => absurd (show 0 ≤ v ∧ v < M 12 1 by omega) q) (fun z => absurd (show 0 ≤ v ∧ v < M 12 1 by omega) q) (fun z => absurd (show 0 ≤ v ∧ v < M 12 1 by omega) q)⟩⟩))
  rw [f5] at q
  have n0 : 0 < M 43 1 := by omega
  have hr0 := hC.2.2.2.2.2.2.2.2 0 (by omega) n0
  have t1 := (hC.1.2.1.2 v q.1 q.2).1
  have t2 := (hC.1.2.1.2 _ hr0.2.1.1 hr0.2.1.2).1
  refine c_subjectX hC n0 ?_
  rw [e13]
  refine ⟨by omega, fun et => ?_, fun et => kk _ M ⟨by decide, fun K2 k2 => ref M K2 keep0 (fun z => absurd q z) (fun _ z => absurd z (by omega)) (fun _ _ _ => k2 M hI) (fun _ _ z => absurd z et)⟩⟩
  have bS := Sz_bd (g := g) (d := d) (tg := tg) (re tg v)
  refine c_measure hC.1 hC.2.1 (by omega) hc.2.2.2.1 q.1 q.2 (fun M1 hF1 e1 hW1 _ _ _ => ?_)
  have hK1 : Keep M M1 := Keep.of hF1 (by decide)
  have hC1 := hC.keep hK1
  have hI1 : ∀ M2, Fr [75] M1 M2 → Inv (c + 1) M2 := fun M2 hF2 => ⟨g, d, tg, hC1.keep (Keep.of hF2 (by decide)), (hc.walk (fun x hx => hF1 x (by revert hx; revert x; decide)) (by omega) hW1.2.1).fr hF2 (by decide)⟩
  refine ⟨by omega, fun ne => ⟨by omega, fun l => ?_, fun l => kk _ M1 ⟨by decide, fun K2 k2 => ref M1 K2 hK1 (fun z => absurd q z) (fun _ z => absurd z (by omega)) (fun _ _ z => absurd et z) (fun _ _ _ M2 hF2 => ⟨fun z => absurd z ne, fun _ _ => k2 M2 (hI1 M2 hF2), fun _ z => absurd z l⟩)⟩⟩, fun ne => kk _ M1 ⟨by decide, fun K2 k2 => ref M1 K2 hK1 (fun z => absurd q z) (fun _ z => absurd z (by omega)) (fun _ _ z => absurd et z) (fun _ _ _ M2 hF2 => ⟨fun _ => k2 M2 (hI1 M2 hF2), fun z => absurd z ne, fun z => absurd z ne⟩)⟩⟩
  have qr := re_in hC.1.2.2.1 hG q.1 q.2
  have hm : Sml g d tg (re tg v) := ⟨qr, by omega, l⟩
  obtain ⟨W, z, hT, hR, hz0⟩ := trow_of hC.1 hm
  refine c_canonicalNode hC1.1 hC1.2.1 (by omega) hW1.2.1 q.1 q.2 (fun M2 hF2 e2 hW2 hCan hin => ?_)
  have hK2 : Keep M1 M2 := Keep.of hF2 (by decide)
  have hC2 := hC1.keep hK2
  have F2 : Fr [23, 25, 28, 29, 30, 31] M M2 := (hF1.mono (by decide)).trans (hF2.mono (by decide))
  have g43 : M2 43 = M 43 := F2 43 (by decide)
  have g44 : M2 44 = M 44 := F2 44 (by decide)
  have g45 : M2 45 = M 45 := F2 45 (by decide)
  have ety : nY d (re tg v) = nY d (M 44 0) := by rw [re_ty hC.1.2.2.1 hG q.1 q.2]; exact et
  refine c_firstFitting (R := M 44) (n := M 43 1) (t := nY d (M 44 0)) (RpC_nod hC.1 hR hC2.2.1 hW2 hCan) hC.1 hC2.2.1 hR hz0 hm.2.1 l (by omega) hr.2 (by rw [g43]) (fun j j0 j1 => ⟨by rw [g44], (hC.2.2.2.2.2.2.2.2 j j0 j1).2.1, (hC.2.2.2.2.2.2.2.2 j j0 j1).2.2⟩) ⟨⟨by omega, by omega⟩, re tg v, _, hm, hin, rfl, hT, ety⟩ (by rw [g43]; omega) (by rw [g43, g45]; exact hc.2.2.2.2.2) (fun M3 rr hF3 k1 k3 k45 hfm => ?_)
  rw [g43] at k3
  have br := hfm.bd
  have x3 : XSt M2 8 M3 := ⟨hF3, by rw [k1, g43], by rw [g43]; exact k3, k45⟩
  have hK3 : Keep M M3 := (hK1.tr hK2).tr x3.keep
  have hC3 := hC.keep hK3
  have ctr3 : Ctr (c + 1) M3 := by
    obtain ⟨h1, h2, h3, h4, h5, h6⟩ := hc
    unfold Ctr
    rw [hF3 28 (by decide), hF3 30 (by decide), hF3 37 (by decide), hF3 39 (by decide), F2 37 (by decide), F2 39 (by decide)]
    exact ⟨by omega, ⟨h2.1, by omega⟩, ⟨by omega, by omega⟩, hW2.2.1, h5, k45⟩
  refine kk _ M3 ⟨by omega, fun K2 k2 => ref M3 K2 hK3 (fun y => absurd q y) (fun _ y => absurd y (by omega)) (fun _ _ y => absurd et y) (fun _ _ _ M4 hF4 => ⟨fun y => absurd y ne, fun _ y => absurd l y, fun _ _ => ?_⟩)⟩
  have hK4 : Keep M3 M4 := Keep.of hF4 (by decide)
  have hC4 := hC3.keep hK4
  refine c_layTerm hC.1 hC4.2.2.1 q.1 q.2 hm hT hR (fun M5 hF5 h50 h65 h66 => ?_)
  have hK5 : Keep M4 M5 := Keep.of2 hF5 (by decide) (fun x hx => h50 x (by revert hx; revert x; decide))
  have hC5 := hC4.keep hK5
  have kM5 : Keep M M5 := (hK3.tr hK4).tr hK5
  have i44 : M5 44 = M 44 := kM5.1 44 (by decide)
  have i43 : M5 43 1 = M 43 1 := kM5.2.1
  have hr5 := hC5.2.2.2.2.2.2
  unfold Rws at hr5
  rw [i44, i43] at hr5
  refine c_matchNow (R := M 44) (n := M 43 1) hC.1 hC5.2.2.1 hR hz0 hm.2.1 (by omega) h65 h66 (by omega) hr.2 hr5.2.1 (fun j j0 j1 => ⟨(hr5.2.2 j j0 j1).1, (hr5.2.2 j j0 j1).2.1⟩) (fun M6 r6 hF6 hfm6 => ?_)
  rw [FM.uq hfm6 hfm]
  exact k2 M6 ⟨g, d, tg, hC5.keep (Keep.of hF6 (by decide)), ((ctr3.fr hF4 (by decide)).fr hF5 (by decide)).fr hF6 (by decide)⟩
end
