/-! the smallest sizes: both programs -/
theorem im_yes {g : Sg} {s : Int → Int} {c : Int} (h : usf g s c (ari g c) = true) (h2 : s (gR g c) < 0 ∨ szk g s c (ari g c) < s (gR g c)) : im g s c = fun t => if t = gR g c then szk g s c (ari g c) else s t := by
  unfold im
  rw [if_pos ⟨h, h2⟩]
theorem im_no {g : Sg} {s : Int → Int} {c : Int} (h : ¬ (usf g s c (ari g c) = true ∧ (s (gR g c) < 0 ∨ szk g s c (ari g c) < s (gR g c)))) : im g s c = s := by
  unfold im
  rw [if_neg h]
theorem usf_step {g : Sg} {s : Int → Int} {c k : Int} (k0 : 0 ≤ k) : usf g s c (k + 1).toNat = (usf g s c k.toNat && decide (0 ≤ s (gG g (c * 3 + k)))) := by
  rw [show (k + 1).toNat = k.toNat + 1 by omega]
  simp only [usf]
  rw [show (k.toNat : Int) = k by omega]
theorem usf_false {g : Sg} {s : Int → Int} {c : Int} {k : Int} (k0 : 0 ≤ k) (k1 : k < gA g c) (h : ¬ 0 ≤ s (gG g (c * 3 + k))) : usf g s c (ari g c) = false := by
  cases e : usf g s c (ari g c) with
  | false => rfl
  | true =>
    exfalso
    have := (usf_iff _).mp e k.toNat (by unfold ari; omega)
    rw [show (k.toNat : Int) = k by omega] at this
    exact h this
theorem szk_step {g : Sg} {s : Int → Int} {c k : Int} (k0 : 0 ≤ k) : szk g s c (k + 1).toNat = szk g s c k.toNat + s (gG g (c * 3 + k)) := by
  rw [show (k + 1).toNat = k.toNat + 1 by omega]
  simp only [szk]
  rw [show (k.toNat : Int) = k by omega]
theorem rd_fix2 {g : Sg} (hg : SgOK g) {s : Int → Int} (hs : Gd s) (h : rd g s = s) : ∀ n : Nat, (n : Int) ≤ gN g → rdf g s n = s
  | 0, _ => rfl
  | n + 1, hn => by
    simp only [rdf]
    rw [rd_fix2 hg hs h n (by omega)]
    exact rd_fix hg hs h (by omega) (by omega)
section
variable {g : Sg} {s : Int → Int}
theorem c_isUsable {M : Mem} {K : Int → Mem → Prop} (hg : SgOK g) (hX : XSig g M) (hs : Gd s) (h6 : ∀ t, 0 ≤ t → t < 4 → M 6 t = s t) {c : Int} (hc : 0 ≤ c ∧ c < gN g) (k : K (if usf g s c (ari g c) = true then 1 else 0) M) : CI mX1_isUsable [vR 5, vI c] M K := by
  have hn := hg.n
  have ha := hg.a hc.1 hc.2
  have e3 : M 3 c = gA g c := by rw [hX.2.2.2.1]
  have loop : ∀ (n : Nat) (j : Int), (gA g c - j).toNat = n → 0 ≤ j → j ≤ gA g c → usf g s c j.toNat = true → AW mX1_isUsable 2 [some (vR 5), some (vI c), some (vI j)] [] M (QI K) := by
    intro n
    induction n with
    | zero =>
      intro j hm j0 j1 hu
      refine sg_X1_isUsable_2 ⟨by omega, by rw [e3]; omega, fun _ => ?_, fun q => by rw [e3] at q; omega⟩
      rw [show j.toNat = ari g c by unfold ari; omega] at hu
      rw [if_pos hu] at k
      exact k
    | succ n ih =>
      intro j hm j0 j1 hu
      refine sg_X1_isUsable_2 ⟨by omega, by rw [e3]; omega, fun q => by rw [e3] at q; omega, fun _ => c_typeOfArgument (by omega) (by omega) ?_⟩
      rw [hX.2.2.2.2]
      have hgg := hg.g hc.1 hc.2 j0 (show j < gA g c by omega)
      rw [h6 _ hgg.1 hgg.2]
      have b := hs.bd (gG g (c * 3 + j))
      have b1 := hs.1 (gG g (c * 3 + j))
      refine ⟨by omega, by omega, fun q => ih (j + 1) (by omega) (by omega) (by omega) ?_, fun q => ?_⟩
      · rw [usf_step j0, hu]
        simp
        omega
      · rw [usf_false j0 (by omega) (by omega)] at k
        exact k
  exact en_X1_isUsable (loop _ 0 rfl (by omega) (by omega) rfl)
theorem c_improve {M : Mem} {K : Mem → Prop} (hg : SgOK g) (hX : XSig g M) (hs : Gd s) (h6 : ∀ t, 0 ≤ t → t < 4 → M 6 t = s t) {c : Int} (hc : 0 ≤ c ∧ c < gN g) (kk : ∀ M', Fr [6] M M' → (∀ t, 0 ≤ t → t < 4 → M' 6 t = im g s c t) → K M') : CV mX1_improveSmallest [vR 5, vI c] M K := by
  have hn := hg.n
  have ha := hg.a hc.1 hc.2
  have hr := hg.r hc.1 hc.2
  have e3 : M 3 c = gA g c := by rw [hX.2.2.2.1]
  have e2 : M 2 c = gR g c := by rw [hX.2.2.1]
  refine en_X1_improveSmallest (c_isUsable hg hX hs h6 hc ?_)
  by_cases hu : usf g s c (ari g c) = true
  · rw [if_pos hu]
    refine ⟨by decide, fun _ => ?_, fun q => absurd (by decide) q⟩
    have hz := szk_sm hg hs hc.1 hc.2 hu
    have loop : ∀ (n : Nat) (j z : Int), (gA g c - j).toNat = n → 0 ≤ j → j ≤ gA g c → z = szk g s c j.toNat → AW mX1_improveSmallest 13 [some (vR 5), some (vI c), some (vI z), some (vI j)] [] M (QV K) := by
      intro n
      induction n with
      | zero =>
        intro j z hm j0 j1 ez
        have ez2 : z = szk g s c (ari g c) := by rw [ez, show j.toNat = ari g c by unfold ari; omega]
        have b := hs.bd (gR g c)
        have b1 := hs.1 (gR g c)
        refine sg_X1_improveSmallest_13 ⟨by omega, by rw [e3]; omega, fun _ => ?_, fun q => by rw [e3] at q; omega⟩
        rw [e2, h6 _ hr.1 hr.2]
        have fin : ∀ (hcnd : s (gR g c) < 0 ∨ szk g s c (ari g c) < s (gR g c)), K (up M 6 (gR g c) z) := by
          intro hcnd
          refine kk _ ((Fr.refl _ _).up (by decide)) (fun t t0 t1 => ?_)
          rw [im_yes hu hcnd]
          by_cases e : t = gR g c
          · rw [e, up_same, ez2]; simp
          · rw [up_other e, h6 t t0 t1]; simp [e]
        refine ⟨by omega, by omega, by omega, fun q => ⟨by omega, fin (Or.inl (by omega))⟩, fun q => ⟨by omega, by omega, fun q2 => ?_, fun q2 => ⟨by omega, fin (Or.inr (by omega))⟩⟩⟩
        refine kk M (Fr.refl _ _) (fun t t0 t1 => ?_)
        rw [im_no (by omega), h6 t t0 t1]
      | succ n ih =>
        intro j z hm j0 j1 ez
        refine sg_X1_improveSmallest_13 ⟨by omega, by rw [e3]; omega, fun q => by rw [e3] at q; omega, fun _ => c_typeOfArgument (by omega) (by omega) ?_⟩
        rw [hX.2.2.2.2]
        have hgg := hg.g hc.1 hc.2 j0 (show j < gA g c by omega)
        refine ⟨by omega, ?_⟩
        rw [h6 _ hgg.1 hgg.2]
        exact ih (j + 1) _ (by omega) (by omega) (by omega) (by rw [szk_step j0, ez])
    exact loop _ 0 1 rfl (by omega) (by omega) rfl
  · rw [if_neg hu]
    refine ⟨by decide, fun q => absurd rfl q, fun _ => ?_⟩
    refine kk M (Fr.refl _ _) (fun t t0 t1 => ?_)
    rw [im_no (fun q => hu q.1), h6 t t0 t1]
end
theorem c_findSmallest {g : Sg} {M : Mem} {K : Mem → Prop} (hg : SgOK g) (hX : XSig g M) (kk : ∀ M', Fr [6] M M' → (∀ t, 0 ≤ t → t < 4 → M' 6 t = Sm g t) → K M') : CV mX1_findSmallest [vR 5] M K := by
  have hn := hg.n
  have inner : ∀ (n : Nat) (M1 : Mem) (r : Nat) (c : Int), (gN g - c).toNat = n → r < 4 → 0 ≤ c → c ≤ gN g → Fr [6] M M1 → (∀ t, 0 ≤ t → t < 4 → M1 6 t = rdf g (rdn g r) c.toNat t) →
      (∀ M2, Fr [6] M M2 → (∀ t, 0 ≤ t → t < 4 → M2 6 t = rdn g (r + 1) t) → AW mX1_findSmallest 11 [some (vR 5), some (vI ((r : Int) + 1)), none] [] M2 (QV K)) → AW mX1_findSmallest 18 [some (vR 5), some (vI (r : Int)), some (vI c)] [] M1 (QV K) := by
    intro n
    induction n with
    | zero =>
      intro M1 r c hm hr c0 c1 hF h6 hk
      have e1 : M1 1 1 = gN g := by rw [hF 1 (by decide)]; exact hX.2.1
      refine sg_X1_findSmallest_18 ⟨by rw [e1]; omega, fun _ => hk M1 hF (fun t t0 t1 => ?_), fun q => by rw [e1] at q; omega⟩
      rw [h6 t t0 t1, show c.toNat = (gN g).toNat by omega]
      rfl
    | succ n ih =>
      intro M1 r c hm hr c0 c1 hF h6 hk
      have e1 : M1 1 1 = gN g := by rw [hF 1 (by decide)]; exact hX.2.1
      refine sg_X1_findSmallest_18 ⟨by rw [e1]; omega, fun q => by rw [e1] at q; omega, fun _ => ?_⟩
      refine c_improve hg (hX.fr hF (by decide)) (rdf_gd hg (rdn_gd hg r) c.toNat (by omega)) h6 (by omega) (fun M2 hF2 h2 => ?_)
      refine ih M2 r (c + 1) (by omega) hr (by omega) (by omega) (hF.trans hF2) (fun t t0 t1 => ?_) hk
      rw [h2 t t0 t1, show (c + 1).toNat = c.toNat + 1 by omega]
      simp only [rdf]
      rw [show (c.toNat : Int) = c by omega]
  have outer : ∀ (n r : Nat) (M1 : Mem), 4 - r = n → r ≤ 4 → Fr [6] M M1 → (∀ t, 0 ≤ t → t < 4 → M1 6 t = rdn g r t) → AW mX1_findSmallest 11 [some (vR 5), some (vI (r : Int)), none] [] M1 (QV K) := by
    intro n
    induction n with
    | zero =>
      intro r M1 hm hr hF h6
      refine sg_X1_findSmallest_11 ⟨by omega, fun _ => kk M1 hF (fun t t0 t1 => ?_), fun q => by omega⟩
      rw [h6 t t0 t1, show r = 4 by omega]
      rfl
    | succ n ih =>
      intro r M1 hm hr hF h6
      refine sg_X1_findSmallest_11 ⟨by omega, fun q => by omega, fun _ => ?_⟩
      refine inner _ M1 r 0 rfl (by omega) (by omega) (by omega) hF h6 (fun M2 hF2 h2 => ?_)
      exact ih (r + 1) M2 (by omega) (by omega) hF2 h2
  exact en_X1_findSmallest (c_fill6 (fun M1 hF1 hz hu => outer _ 0 M1 rfl (by omega) hF1 (fun t t0 t1 => hz t t0 t1)))
theorem c_sizeBy {g : Sg} {s : Int → Int} {M : Mem} {K : Int → Mem → Prop} (hg : SgOK g) (hX : MSig g M) (hs : Gd s) (h6 : ∀ t, 0 ≤ t → t < 4 → M 60 t = s t) {c : Int} (hc : 0 ≤ c ∧ c < gN g) (k : K (if usf g s c (ari g c) = true then szk g s c (ari g c) else -13) M) : CI mX12_sizeBy [vR 50, vI c] M K := by
  have hn := hg.n
  have ha := hg.a hc.1 hc.2
  obtain ⟨x1, x2, x3⟩ := hX
  have e3 : M 52 c = gA g c := (x3 c hc.1 hc.2).2.1
  have loop : ∀ (n : Nat) (j z : Int), (gA g c - j).toNat = n → 0 ≤ j → j ≤ gA g c → usf g s c j.toNat = true → z = szk g s c j.toNat → AW mX12_sizeBy 4 [some (vR 50), some (vI c), some (vI z), some (vI j), none] [] M (QI K) := by
    intro n
    induction n with
    | zero =>
      intro j z hm j0 j1 hu ez
      refine sg_X12_sizeBy_4 ⟨by omega, by rw [e3]; omega, fun _ => ?_, fun q => by rw [e3] at q; omega⟩
      rw [show j.toNat = ari g c by unfold ari; omega] at hu ez
      rw [if_pos hu, ← ez] at k
      exact k
    | succ n ih =>
      intro j z hm j0 j1 hu ez
      have hgg := hg.g hc.1 hc.2 j0 (show j < gA g c by omega)
      have e53 := (x3 c hc.1 hc.2).2.2 j j0 (by omega)
      refine sg_X12_sizeBy_4 ⟨by omega, by rw [e3]; omega, fun q => by rw [e3] at q; omega, fun _ => ⟨by omega, ?_⟩⟩
      rw [e53, h6 _ hgg.1 hgg.2]
      have b := hs.bd (gG g (c * 3 + j))
      have b1 := hs.1 (gG g (c * 3 + j))
      refine ⟨by omega, by omega, fun q => ih (j + 1) _ (by omega) (by omega) (by omega) ?_ (by rw [szk_step j0, ez]), fun q => ?_⟩
      · rw [usf_step j0, hu]
        simp
        omega
      · rw [usf_false j0 (by omega) (by omega)] at k
        exact k
  exact en_X12_sizeBy (loop _ 0 1 rfl (by omega) (by omega) rfl rfl)
theorem c_laySmallest {g : Sg} {M : Mem} {K : Mem → Prop} (hg : SgOK g) (hX : MSig g M) (kk : ∀ M', Fr [60] M M' → (∀ t, 0 ≤ t → t < 4 → M' 60 t = Sm g t) → K M') : CV mX12_laySmallest [vR 50] M K := by
  have hn := hg.n
  obtain ⟨x1, x2, x3⟩ := id hX
  have inner : ∀ (n : Nat) (M1 : Mem) (r : Nat) (v1 c : Int), (gN g - c).toNat = n → 0 ≤ c → c ≤ gN g → Fr [60] M M1 → (∀ t, 0 ≤ t → t < 4 → M1 60 t = rdf g (rdn g r) c.toNat t) → ((v1 = 0 ∧ rdf g (rdn g r) c.toNat = rdn g r) ∨ (v1 = 1 ∧ rd g (rdn g r) ≠ rdn g r)) →
      (∀ M2 v, Fr [60] M M2 → (∀ t, 0 ≤ t → t < 4 → M2 60 t = rdn g (r + 1) t) → ((v = 0 ∧ rd g (rdn g r) = rdn g r) ∨ (v = 1 ∧ rd g (rdn g r) ≠ rdn g r)) → AW mX12_laySmallest 23 [some (vR 50), some (vI v), none, none, none] [] M2 (QV K)) → AW mX12_laySmallest 31 [some (vR 50), some (vI v1), some (vI c), none, none] [] M1 (QV K) := by
    intro n
    induction n with
    | zero =>
      intro M1 r v1 c hm c0 c1 hF h6 hv hk
      have e1 : M1 50 1 = gN g := by rw [hF 50 (by decide)]; exact x2
      have ec : c.toNat = (gN g).toNat := by omega
      rw [ec] at h6 hv
      exact sg_X12_laySmallest_31 ⟨by rw [e1]; omega, fun _ => hk M1 v1 hF h6 hv, fun q => by rw [e1] at q; omega⟩
    | succ n ih =>
      intro M1 r v1 c hm c0 c1 hF h6 hv hk
      have e1 : M1 50 1 = gN g := by rw [hF 50 (by decide)]; exact x2
      have hr := hg.r c0 (show c < gN g by omega)
      have hs := rdf_gd hg (rdn_gd hg r) c.toNat (by omega)
      have e51 : M1 51 c = gR g c := by rw [hF 51 (by decide)]; exact (x3 c c0 (by omega)).1
      have estep : rdf g (rdn g r) (c + 1).toNat = im g (rdf g (rdn g r) c.toNat) c := by
        rw [show (c + 1).toNat = c.toNat + 1 by omega]
        simp only [rdf]
        rw [show (c.toNat : Int) = c by omega]
      -- nothing changes here
      have same : im g (rdf g (rdn g r) c.toNat) c = rdf g (rdn g r) c.toNat → ∀ v3 v4 : Int, AW mX12_laySmallest 88 [some (vR 50), some (vI v1), some (vI c), some (vI v3), some (vI v4)] [] M1 (QV K) := by
        intro e v3 v4
        refine sg_X12_laySmallest_88 (ih M1 r v1 (c + 1) (by omega) (by omega) (by omega) hF (fun t t0 t1 => ?_) ?_ hk)
        · rw [estep, e, h6 t t0 t1]
        · rw [estep, e]
          exact hv
      have other : usf g (rdf g (rdn g r) c.toNat) c (ari g c) = true → (rdf g (rdn g r) c.toNat (gR g c) < 0 ∨ szk g (rdf g (rdn g r) c.toNat) c (ari g c) < rdf g (rdn g r) c.toNat (gR g c)) → AW mX12_laySmallest 78 [some (vR 50), some (vI v1), some (vI c), some (vI (szk g (rdf g (rdn g r) c.toNat) c (ari g c))), some (vI (gR g c))] [] M1 (QV K) := by
        intro hu hcn
        have hz := szk_sm hg hs c0 (by omega) hu
        refine sg_X12_laySmallest_78 ⟨by omega, sg_X12_laySmallest_88 (ih _ r 1 (c + 1) (by omega) (by omega) (by omega) (hF.up (by decide)) (fun t t0 t1 => ?_) (Or.inr ⟨rfl, fun q => ?_⟩) hk)⟩
        · rw [estep, im_yes hu hcn]
          by_cases e : t = gR g c
          · rw [e, up_same]; simp
          · rw [up_other e, h6 t t0 t1]; simp [e]
        · have f1 := rd_fix2 hg (rdn_gd hg r) q c.toNat (by omega)
          have f2 := rd_fix hg (rdn_gd hg r) q c0 (show c < gN g by omega)
          rw [f1] at hu hcn hz
          rw [im_yes hu hcn] at f2
          have f3 := congrFun f2 (gR g c)
          simp at f3
          omega
      refine sg_X12_laySmallest_31 ⟨by rw [e1]; omega, fun q => by rw [e1] at q; omega, fun _ => ?_⟩
      refine c_sizeBy hg (hX.fr2 hF (by decide)) hs h6 (by omega) ?_
      rw [e51]
      have b := hs.bd (gR g c)
      by_cases hu : usf g (rdf g (rdn g r) c.toNat) c (ari g c) = true
      · have hz := szk_sm hg hs c0 (by omega) hu
        rw [if_pos hu, h6 _ hr.1 hr.2]
        refine ⟨by omega, by omega, fun q => by omega, fun _ => ⟨by omega, by omega, fun q => other hu (Or.inl q), fun q => ⟨by omega, by omega, fun q2 => same (im_no (by omega)) _ _, fun q2 => other hu (Or.inr (by omega))⟩⟩⟩
      · rw [if_neg hu]
        exact ⟨by omega, by decide, fun _ => same (im_no (fun q => hu q.1)) _ _, fun q => absurd (by decide) q⟩
  have outer : ∀ (n r : Nat) (M1 : Mem), 5 - r = n → r ≤ 5 → Fr [60] M M1 → (∀ t, 0 ≤ t → t < 4 → M1 60 t = rdn g r t) → (r = 5 → False) → AW mX12_laySmallest 23 [some (vR 50), some (vI 1), none, none, none] [] M1 (QV K) := by
    intro n
    induction n with
    | zero =>
      intro r M1 hm hr hF h6 h5
      exact absurd (by omega) h5
    | succ n ih =>
      intro r M1 hm hr hF h6 h5
      refine sg_X12_laySmallest_23 ⟨by decide, fun q => absurd q (by decide), fun _ => ?_⟩
      refine inner _ M1 r 0 0 rfl (by omega) (by omega) hF h6 (Or.inl ⟨rfl, rfl⟩) (fun M2 v hF2 h2 hv => ?_)
      rcases hv with ⟨rfl, e⟩ | ⟨rfl, e⟩
      · refine sg_X12_laySmallest_23 ⟨by decide, fun _ => kk M2 hF2 (fun t t0 t1 => ?_), fun q => absurd rfl q⟩
        rw [h2 t t0 t1]
        show rd g (rdn g r) t = _
        rw [e, rdn_done hg e]
      · refine ih (r + 1) M2 (by omega) (by omega) hF2 h2 (fun q => e ?_)
        have : r = 4 := by omega
        subst this
        exact Sm_fix hg
  have zero : ∀ (n : Nat) (M1 : Mem) (j : Int), (4 - j).toNat = n → 0 ≤ j → j ≤ 4 → Fr [60] M M1 → (∀ i, 0 ≤ i → i < j → M1 60 i = -13) → AW mX12_laySmallest 2 [some (vR 50), some (vI j), none, none, none] [] M1 (QV K) := by
    intro n
    induction n with
    | zero =>
      intro M1 j hm j0 j1 hF hz
      exact sg_X12_laySmallest_2 ⟨by omega, fun _ => outer _ 0 M1 rfl (by omega) hF (fun t t0 t1 => hz t t0 (by omega)) (by omega), fun q => by omega⟩
    | succ n ih =>
      intro M1 j hm j0 j1 hF hz
      refine sg_X12_laySmallest_2 ⟨by omega, fun q => by omega, fun _ => ⟨by omega, ?_⟩⟩
      refine ih _ (j + 1) (by omega) (by omega) (by omega) (hF.up (by decide)) (fun i a b => ?_)
      by_cases e : i = j
      · rw [e, up_same]
      · rw [up_other e]
        exact hz i a (by omega)
  exact en_X12_laySmallest (zero _ M 0 rfl (by omega) (by omega) (Fr.refl _ _) (fun i a b => by omega))
