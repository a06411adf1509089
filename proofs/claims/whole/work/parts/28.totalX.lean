/-! how many values a type has: the class -/
theorem prk_step {V : Int → Int} {g : Sg} {c k : Int} (k0 : 0 ≤ k) : prk V g c (k + 1).toNat = cap (prk V g c k.toNat * V (gG g (c * 3 + k))) := by
  rw [show (k + 1).toNat = k.toNat + 1 by omega]
  simp only [prk]
  rw [show (k.toNat : Int) = k by omega]
theorem csm_step {f : Nat → Int} {n : Int} (h : 0 ≤ n) : csm f (n + 1).toNat = cap (csm f n.toNat + f n.toNat) := by
  rw [show (n + 1).toNat = n.toNat + 1 by omega]
  rfl
section
variable {g : Sg} {T : Int → Int}
theorem c_totCon {M : Mem} {K : Int → Mem → Prop} (hg : SgOK g) (hX : XSig g M) (hb : ∀ t, T t = -14 ∨ (0 ≤ T t ∧ T t ≤ 1000000)) (h7 : ∀ t, 0 ≤ t → t < 4 → M 7 t = T t) {c : Int} (hc : 0 ≤ c ∧ c < gN g) (kf : (∀ k, 0 ≤ k → k < gA g c → T (gG g (c * 3 + k)) ≠ -14) → K (prk T g c (ari g c)) M) (ki : (∃ k, (0 ≤ k ∧ k < gA g c) ∧ T (gG g (c * 3 + k)) = -14) → K (-14) M) : CI mX1_totalOfConstructor [vR 5, vI c] M K := by
  have hn := hg.n
  have ha := hg.a hc.1 hc.2
  have e3 : M 3 c = gA g c := by rw [hX.2.2.2.1]
  have loop : ∀ (n : Nat) (j z : Int), (gA g c - j).toNat = n → 0 ≤ j → j ≤ gA g c → (∀ k, 0 ≤ k → k < j → T (gG g (c * 3 + k)) ≠ -14) → z = prk T g c j.toNat → AW mX1_totalOfConstructor 4 [some (vR 5), some (vI c), some (vI z), some (vI j), none] [] M (QI K) := by
    intro n
    induction n with
    | zero =>
      intro j z hm j0 j1 hall ez
      refine sg_X1_totalOfConstructor_4 ⟨by omega, by rw [e3]; omega, fun _ => ?_, fun q => by rw [e3] at q; omega⟩
      rw [ez, show j.toNat = ari g c by unfold ari; omega]
      exact kf (fun k k0 k1 => hall k k0 (by omega))
    | succ n ih =>
      intro j z hm j0 j1 hall ez
      have hgg := hg.g hc.1 hc.2 j0 (show j < gA g c by omega)
      refine sg_X1_totalOfConstructor_4 ⟨by omega, by rw [e3]; omega, fun q => by rw [e3] at q; omega, fun _ => c_typeOfArgument (by omega) (by omega) ?_⟩
      rw [hX.2.2.2.2, h7 _ hgg.1 hgg.2]
      have bT := hb (gG g (c * 3 + j))
      have bz : 0 ≤ z ∧ z ≤ 1000000 := by
        rw [ez]
        refine prk_bd (fun k hk => ?_)
        have := hb (gG g (c * 3 + (k : Int)))
        have := hall k (by omega) (by omega)
        omega
      refine ⟨by omega, by omega, fun q => ?_, fun q => ki ⟨j, by omega, by omega⟩⟩
      refine c_lprod bz (by omega) (ih (j + 1) _ (by omega) (by omega) (by omega) (fun k k0 k1 => ?_) (by rw [prk_step j0, ez]))
      by_cases e : k = j
      · rw [e]; exact q
      · exact hall k k0 (by omega)
  exact en_X1_totalOfConstructor (loop _ 0 1 rfl (by omega) (by omega) (fun k k0 k1 => by omega) rfl)
theorem c_totType {M : Mem} {K : Int → Mem → Prop} (hg : SgOK g) (hX : XSig g M) (h6 : ∀ t, 0 ≤ t → t < 4 → M 6 t = Sm g t) (hb : ∀ t, T t = -14 ∨ (0 ≤ T t ∧ T t ≤ 1000000)) (h7 : ∀ t, 0 ≤ t → t < 4 → M 7 t = T t) {t : Int} (ht : 0 ≤ t ∧ t < 4)
    (kf : (∀ c, 0 ≤ c → c < gN g → gR g c = t → Us g c → ∀ k, 0 ≤ k → k < gA g c → T (gG g (c * 3 + k)) ≠ -14) → K (csm (fun c => if gR g c = t ∧ Us g c then prk T g c (ari g c) else 0) (gN g).toNat) M)
    (ki : (∃ c k, (0 ≤ c ∧ c < gN g) ∧ gR g c = t ∧ Us g c ∧ (0 ≤ k ∧ k < gA g c) ∧ T (gG g (c * 3 + k)) = -14) → K (-14) M) : CI mX1_totalOfType [vR 5, vI t] M K := by
  have hn := hg.n
  have e1 : M 1 1 = gN g := hX.2.1
  have loop : ∀ (n : Nat) (c z : Int), (gN g - c).toNat = n → 0 ≤ c → c ≤ gN g → (∀ c2, 0 ≤ c2 → c2 < c → gR g c2 = t → Us g c2 → ∀ k, 0 ≤ k → k < gA g c2 → T (gG g (c2 * 3 + k)) ≠ -14) → z = csm (fun c => if gR g c = t ∧ Us g c then prk T g c (ari g c) else 0) c.toNat → AW mX1_totalOfType 4 [some (vR 5), some (vI t), some (vI z), some (vI c), none] [] M (QI K) := by
    intro n
    induction n with
    | zero =>
      intro c z hm c0 c1 hall ez
      refine sg_X1_totalOfType_4 ⟨by rw [e1]; omega, fun _ => ?_, fun q => by rw [e1] at q; omega⟩
      rw [ez, show c.toNat = (gN g).toNat by omega]
      exact kf (fun c2 h0 h1 => hall c2 h0 (by omega))
    | succ n ih =>
      intro c z hm c0 c1 hall ez
      have hr := hg.r c0 (show c < gN g by omega)
      have e2 : M 2 c = gR g c := by rw [hX.2.2.1]
      have bz : 0 ≤ z ∧ z ≤ 1000000 := by
        rw [ez]
        refine csm_bd (fun i hi => ?_)
        split
        · rename_i q
          refine (prk_bd (fun k hk => ?_)).1
          have := hb (gG g ((i : Int) * 3 + (k : Int)))
          have := hall i (by omega) (by omega) q.1 q.2 k (by omega) (by unfold ari at hk; omega)
          omega
        · omega
      have skip : ¬ (gR g c = t ∧ Us g c) → AW mX1_totalOfType 60 [some (vR 5), some (vI t), some (vI z), some (vI c), none] [] M (QI K) := by
        intro q
        refine sg_X1_totalOfType_60 (ih (c + 1) z (by omega) (by omega) (by omega) (fun c2 h0 h1 h2 h3 => ?_) ?_)
        · by_cases e : c2 = c
          · rw [e] at h2 h3
            exact absurd ⟨h2, h3⟩ q
          · exact hall c2 h0 (by omega) h2 h3
        · rw [csm_step c0]
          rw [show (c.toNat : Int) = c by omega, if_neg q, Int.add_zero, ← ez, cap_id bz.2]
      refine sg_X1_totalOfType_4 ⟨by rw [e1]; omega, fun q => by rw [e1] at q; omega, fun _ => ⟨by omega, by rw [e2]; omega, fun q => skip (fun z => by rw [e2] at q; exact q z.1), fun q => ?_⟩⟩
      rw [e2] at q
      have q := Decidable.not_not.mp q
      refine c_isUsable hg hX (rdn_gd hg 4) h6 (by omega) ?_
      by_cases hu : Us g c
      · have hu2 : usf g (rdn g 4) c (ari g c) = true := hu
        rw [if_pos hu2]
        refine ⟨by decide, fun z => absurd z (by decide), fun _ => ?_⟩
        refine c_totCon hg hX hb h7 (by omega) (fun hk => ?_) (fun ⟨k, hk, he⟩ => ?_)
        · have bp := prk_bd (V := T) (g := g) (c := c) (n := ari g c) (fun k hk2 => by
            have := hb (gG g (c * 3 + (k : Int)))
            have := hk k (by omega) (by unfold ari at hk2; omega)
            omega)
          refine ⟨by omega, fun _ => c_lsum bz bp (sg_X1_totalOfType_60 (ih (c + 1) _ (by omega) (by omega) (by omega) (fun c2 h0 h1 h2 h3 => ?_) ?_)), fun z => by omega⟩
          · by_cases e : c2 = c
            · rw [e]; exact hk
            · exact hall c2 h0 (by omega) h2 h3
          · rw [csm_step c0]
            rw [show (c.toNat : Int) = c by omega, if_pos ⟨q, hu⟩, ← ez]
        · exact ⟨by decide, fun z => absurd rfl z, fun _ => ki ⟨c, k, by omega, q, hu, hk, he⟩⟩
      · have hu2 : ¬ usf g (rdn g 4) c (ari g c) = true := hu
        rw [if_neg hu2]
        exact ⟨by decide, fun _ => skip (fun z => hu z.2), fun z => absurd rfl z⟩
  exact en_X1_totalOfType (loop _ 0 0 rfl (by omega) (by omega) (fun c2 h0 h1 => by omega) rfl)
end
/-- what the table of totals says -/
def TotOK (g : Sg) (T : Int → Int) : Prop := ∀ t, 0 ≤ t → t < 4 → (Fk g 4 t ∧ T t = Vk g 4 t) ∨ (¬ Fk g 4 t ∧ T t = -14)
theorem c_findTotals {g : Sg} {M : Mem} {K : Mem → Prop} (hg : SgOK g) (hX : XSig g M) (h6 : ∀ t, 0 ≤ t → t < 4 → M 6 t = Sm g t) (kk : ∀ M', Fr [7] M M' → TotOK g (M' 7) → K M') : CV mX1_findTotals [vR 5] M K := by
  -- a row of totals as a function on all numbers
  have inner : ∀ (n : Nat) (M1 : Mem) (r : Nat) (q : Int), (4 - q).toNat = n → r < 4 → 0 ≤ q → q ≤ 4 → Fr [7] M M1 → (∀ t, 0 ≤ t → t < 4 → M1 7 t = -14 ∨ (Fk g 4 t ∧ M1 7 t = Vk g 4 t)) → (∀ t, 0 ≤ t → t < 4 → Fk g r t → M1 7 t ≠ -14) → (∀ t, 0 ≤ t → t < q → Fk g (r + 1) t → M1 7 t ≠ -14) →
      (∀ M2, Fr [7] M M2 → (∀ t, 0 ≤ t → t < 4 → M2 7 t = -14 ∨ (Fk g 4 t ∧ M2 7 t = Vk g 4 t)) → (∀ t, 0 ≤ t → t < 4 → Fk g (r + 1) t → M2 7 t ≠ -14) → AW mX1_findTotals 11 [some (vR 5), some (vI ((r : Int) + 1)), none] [] M2 (QV K)) → AW mX1_findTotals 18 [some (vR 5), some (vI (r : Int)), some (vI q)] [] M1 (QV K) := by
    intro n
    induction n with
    | zero =>
      intro M1 r q hm hr q0 q1 hF hv h1 h2 hk
      exact sg_X1_findTotals_18 ⟨by omega, fun _ => hk M1 hF hv (fun t t0 t1 => h2 t t0 (by omega)), fun z => by omega⟩
    | succ n ih =>
      intro M1 r q hm hr q0 q1 hF hv h1 h2 hk
      let T : Int → Int := fun t => if 0 ≤ t ∧ t < 4 then M1 7 t else -14
      have eT : ∀ t, 0 ≤ t → t < 4 → M1 7 t = T t := fun t t0 t1 => by simp [T, t0, t1]
      have hb : ∀ t, T t = -14 ∨ (0 ≤ T t ∧ T t ≤ 1000000) := by
        intro t
        by_cases e : 0 ≤ t ∧ t < 4
        · rw [← eT t e.1 e.2]
          rcases hv t e.1 e.2 with z | z
          · exact Or.inl z
          · right; rw [z.2]; exact Vk_bd 4 t
        · left; simp only [T, if_neg e]
      refine sg_X1_findTotals_18 ⟨by omega, fun z => by omega, fun _ => ?_⟩
      refine c_totType hg (hX.fr hF (by decide)) (fun t t0 t1 => by rw [hF 6 (by decide)]; exact h6 t t0 t1) hb eT (by omega) (fun hall => ⟨by omega, ?_⟩) (fun ⟨c, k, hc, hr2, hu, hk2, he⟩ => ⟨by omega, ?_⟩)
      · have hargs : ∀ c, 0 ≤ c → c < gN g → gR g c = q → Us g c → ∀ k, 0 ≤ k → k < gA g c → Fk g 4 (gG g (c * 3 + k)) ∧ T (gG g (c * 3 + k)) = Vk g 4 (gG g (c * 3 + k)) := by
          intro c c0 c1 c2 c3 k k0 k1
          have hgg := hg.g c0 c1 k0 k1
          have := hall c c0 c1 c2 c3 k k0 k1
          rw [← eT _ hgg.1 hgg.2] at this ⊢
          rcases hv _ hgg.1 hgg.2 with z | z
          · exact absurd z this
          · exact z
        have hfk : Fk g 4 q := Fk_5 hg (fun c c0 c1 c2 c3 k k0 k1 => (hargs c c0 c1 c2 c3 k k0 k1).1)
        have hval : csm (fun c => if gR g c = q ∧ Us g c then prk T g c (ari g c) else 0) (gN g).toNat = Vk g 4 q := by
          rw [← Vk_5 hfk]
          show _ = csm _ _
          refine csm_congr (fun i hi => ?_)
          by_cases z : gR g i = q ∧ Us g i
          · rw [if_pos z, if_pos z]
            exact prk_congr (fun k hk => (hargs i (by omega) (by omega) z.1 z.2 k (by omega) (by unfold ari at hk; omega)).2)
          · rw [if_neg z, if_neg z]
        rw [hval]
        have bV := Vk_bd (g := g) 4 q
        refine ih _ r (q + 1) (by omega) hr (by omega) (by omega) (hF.up (by decide)) (fun t t0 t1 => ?_) (fun t t0 t1 hf => ?_) (fun t t0 t1 hf => ?_) hk
        · by_cases e : t = q
          · rw [e, up_same]; exact Or.inr ⟨hfk, rfl⟩
          · rw [up_other e]; exact hv t t0 t1
        · by_cases e : t = q
          · rw [e, up_same]; omega
          · rw [up_other e]; exact h1 t t0 t1 hf
        · by_cases e : t = q
          · rw [e, up_same]; omega
          · rw [up_other e]; exact h2 t t0 (by omega) hf
      · have hgg := hg.g hc.1 hc.2 hk2.1 hk2.2
        have nf : ∀ r2, r2 ≤ r → ¬ Fk g (r2 + 1) q := by
          intro r2 hle hf
          have := Fk_le (hf c hc.1 hc.2 hr2 hu k hk2.1 hk2.2) r hle
          exact h1 _ hgg.1 hgg.2 this (by rw [eT _ hgg.1 hgg.2]; exact he)
        refine ih _ r (q + 1) (by omega) hr (by omega) (by omega) (hF.up (by decide)) (fun t t0 t1 => ?_) (fun t t0 t1 hf => ?_) (fun t t0 t1 hf => ?_) hk
        · by_cases e : t = q
          · rw [e, up_same]; exact Or.inl rfl
          · rw [up_other e]; exact hv t t0 t1
        · by_cases e : t = q
          · rw [e] at hf
            exact absurd (Fk_mono r q hf) (nf r (Nat.le_refl _))
          · rw [up_other e]; exact h1 t t0 t1 hf
        · by_cases e : t = q
          · rw [e] at hf
            exact absurd hf (nf r (Nat.le_refl _))
          · rw [up_other e]; exact h2 t t0 (by omega) hf
  have outer : ∀ (n r : Nat) (M1 : Mem), 4 - r = n → r ≤ 4 → Fr [7] M M1 → (∀ t, 0 ≤ t → t < 4 → M1 7 t = -14 ∨ (Fk g 4 t ∧ M1 7 t = Vk g 4 t)) → (∀ t, 0 ≤ t → t < 4 → Fk g r t → M1 7 t ≠ -14) → AW mX1_findTotals 11 [some (vR 5), some (vI (r : Int)), none] [] M1 (QV K) := by
    intro n
    induction n with
    | zero =>
      intro r M1 hm hr hF hv h1
      refine sg_X1_findTotals_11 ⟨by omega, fun _ => kk M1 hF (fun t t0 t1 => ?_), fun z => by omega⟩
      have e : r = 4 := by omega
      rw [e] at h1
      rcases hv t t0 t1 with z | z
      · exact Or.inr ⟨fun q => h1 t t0 t1 q z, z⟩
      · exact Or.inl z
    | succ n ih =>
      intro r M1 hm hr hF hv h1
      refine sg_X1_findTotals_11 ⟨by omega, fun z => by omega, fun _ => ?_⟩
      exact inner _ M1 r 0 rfl (by omega) (by omega) (by omega) hF hv h1 (fun t t0 t1 => by omega) (fun M2 hF2 hv2 h2 => ih (r + 1) M2 (by omega) (by omega) hF2 hv2 h2)
  exact en_X1_findTotals (c_fill7 (fun M1 hF1 hz hu => outer _ 0 M1 rfl (by omega) hF1 (fun t t0 t1 => Or.inl (hz t t0 t1)) (fun t t0 t1 hf => hf.elim)))
/-- the class's population -/
def XPop (g : Sg) (M : Mem) : Prop := (∀ t, 0 ≤ t → t < 4 → M 6 t = Sm g t) ∧ TotOK g (M 7)
theorem XPop.fr {g : Sg} {S : List Nat} {M M' : Mem} (h : XPop g M) (f : Fr S M M') (hs : ∀ x ∈ [6, 7], x ∉ S) : XPop g M' := by
  unfold XPop
  rw [f 6 (hs 6 (by simp)), f 7 (hs 7 (by simp))]
  exact h
theorem c_recomputeP {g : Sg} {M : Mem} {K : Mem → Prop} (hg : SgOK g) (hX : XSig g M) (kk : ∀ M', Fr [6, 7] M M' → XPop g M' → K M') : CV mX1_recompute [vR 5] M K := by
  refine en_X1_recompute (c_findSmallest hg hX (fun M1 hF1 h6 => c_findTotals hg (hX.fr hF1 (by decide)) h6 (fun M2 hF2 h7 => ?_)))
  refine kk M2 ((hF1.mono (by decide)).trans (hF2.mono (by decide))) ⟨fun t t0 t1 => ?_, h7⟩
  rw [hF2 6 (by decide)]
  exact h6 t t0 t1
