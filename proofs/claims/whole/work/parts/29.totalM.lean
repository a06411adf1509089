/-! how many values a type has: the reference -/
section
variable {g : Sg} {A : Int → Int}
theorem c_allBy {M : Mem} {K : Int → Mem → Prop} (hg : SgOK g) (hX : MSig g M) (hb : ∀ t, 0 ≤ A t ∧ A t ≤ 1000000) (h7 : ∀ t, 0 ≤ t → t < 4 → M 61 t = A t) {c : Int} (hc : 0 ≤ c ∧ c < gN g) (kf : K (prk A g c (ari g c)) M) : CI mX12_allBy [vR 50, vI c] M K := by
  have hn := hg.n
  have ha := hg.a hc.1 hc.2
  obtain ⟨x1, x2, x3⟩ := hX
  have e3 : M 52 c = gA g c := (x3 c hc.1 hc.2).2.1
  have loop : ∀ (n : Nat) (j z : Int), (gA g c - j).toNat = n → 0 ≤ j → j ≤ gA g c → z = prk A g c j.toNat → AW mX12_allBy 4 [some (vR 50), some (vI c), some (vI z), some (vI j)] [] M (QI K) := by
    intro n
    induction n with
    | zero =>
      intro j z hm j0 j1 ez
      refine sg_X12_allBy_4 ⟨by omega, by rw [e3]; omega, fun _ => ?_, fun q => by rw [e3] at q; omega⟩
      rw [ez, show j.toNat = ari g c by unfold ari; omega]
      exact kf
    | succ n ih =>
      intro j z hm j0 j1 ez
      have hgg := hg.g hc.1 hc.2 j0 (show j < gA g c by omega)
      have e53 := (x3 c hc.1 hc.2).2.2 j j0 (by omega)
      have bT := hb (gG g (c * 3 + j))
      have bz : 0 ≤ z ∧ z ≤ 1000000 := by
        rw [ez]
        exact prk_bd (fun k hk => hb _)
      have bm := mul_bd bz bT
      refine sg_X12_allBy_4 ⟨by omega, by rw [e3]; omega, fun q => by rw [e3] at q; omega, fun _ => ⟨by omega, by omega, ?_⟩⟩
      rw [e53, h7 _ hgg.1 hgg.2]
      exact ⟨by omega, by omega, c_capped (by omega) (ih (j + 1) _ (by omega) (by omega) (by omega) (by rw [prk_step j0, ez]))⟩
  exact en_X12_allBy (loop _ 0 1 rfl (by omega) (by omega) rfl)
end
/-- no value: no constructor of it is usable -/
theorem Sm_us {g : Sg} (hg : SgOK g) {c : Int} (c0 : 0 ≤ c) (c1 : c < gN g) (hu : Us g c) : 0 ≤ Sm g (gR g c) :=
  (fix_cl hg (rdn_gd hg 4) (Sm_fix hg) c c0 c1 hu).1
theorem nUs {g : Sg} {c : Int} (h : ¬ Us g c) : ∃ k : Nat, k < ari g c ∧ Sm g (gG g (c * 3 + (k : Int))) < 0 := by
  refine Classical.byContradiction (fun q => h ((usf_iff _).mpr (fun k hk => ?_)))
  by_cases z : 0 ≤ Sm g (gG g (c * 3 + (k : Int)))
  · exact z
  · exact absurd ⟨k, hk, by omega⟩ q
theorem csm_all0 {f : Nat → Int} : ∀ {n : Nat}, (∀ i, i < n → f i = 0) → csm f n = 0
  | 0, _ => rfl
  | n + 1, h => by
    simp only [csm]
    rw [csm_all0 (n := n) (fun i hi => h i (by omega)), h n (by omega)]
    rfl
/-- the table after r rounds, types below q in the next one -/
def AllOK (g : Sg) (A : Int → Int) (r : Nat) (q : Int) : Prop := (∀ t, 0 ≤ t → t < 4 → 0 ≤ A t ∧ A t ≤ 1000000) ∧ (∀ t, 0 ≤ t → t < gT g → Sm g t < 0 → A t = 0) ∧ (∀ t, 0 ≤ t → t < gT g → Fk g r t → A t = Vk g 4 t) ∧ ∀ t, 0 ≤ t → t < gT g → t < q → Fk g (r + 1) t → A t = Vk g 4 t
theorem c_layAll {g : Sg} {M : Mem} {K : Mem → Prop} (hg : SgOK g) (hX : MSig g M) (kk : ∀ M', Fr [61] M M' → (∀ t, 0 ≤ t → t < gT g → Fk g 4 t → M' 61 t = Vk g 4 t) → K M') : CV mX12_layAll [vR 50] M K := by
  have hn := hg.n
  have ht4 : gT g ≤ 4 := hg.1.2
  have hgg4 : ∀ {c k : Int}, 0 ≤ c → c < gN g → 0 ≤ k → k < gA g c → 0 ≤ gG g (c * 3 + k) ∧ gG g (c * 3 + k) < gT g := fun {c k} c0 c1 k0 k1 => (hg.2.2 c c0 c1).2.2 k k0 k1
  have sum : ∀ (n : Nat) (M1 : Mem) (A : Int → Int) (r q z c : Int), (gN g - c).toNat = n → 0 ≤ c → c ≤ gN g → 0 ≤ q → q < gT g → Fr [61] M M1 → (∀ t, 0 ≤ A t ∧ A t ≤ 1000000) → (∀ t, 0 ≤ t → t < 4 → M1 61 t = A t) → 0 ≤ z → z ≤ c * 1000000 → cap z = csm (fun i => if gR g i = q then prk A g i (ari g i) else 0) c.toNat → AW mX12_layAll 29 [some (vR 50), some (vI r), some (vI (q + 1)), none, none, none] [] (up M1 61 q (csm (fun i => if gR g i = q then prk A g i (ari g i) else 0) (gN g).toNat)) (QV K) → AW mX12_layAll 42 [some (vR 50), some (vI r), some (vI q), some (vL z), none, some (vI c)] [] M1 (QV K) := by
    intro n
    induction n with
    | zero =>
      intro M1 A r q z c hm c0 c1 q0 q1 hF hb h61 z0 z1 ez hk
      have hX1 := hX.fr2 hF (by decide)
      have e1 := hX1.2.1
      refine sg_X12_layAll_42 ⟨by rw [e1]; omega, fun _ => c_capped (by omega) ⟨by omega, ?_⟩, fun w => by rw [e1] at w; omega⟩
      rw [ez, show c = gN g by omega]
      exact hk
    | succ n ih =>
      intro M1 A r q z c hm c0 c1 q0 q1 hF hb h61 z0 z1 ez hk
      have hX1 := hX.fr2 hF (by decide)
      have e1 := hX1.2.1
      have e51 := (hX1.2.2 c c0 (by omega)).1
      have hr := hg.r c0 (show c < gN g by omega)
      refine sg_X12_layAll_42 ⟨by rw [e1]; omega, fun w => by rw [e1] at w; omega, fun _ => ⟨by omega, by rw [e51]; omega, fun w => ?_, fun w => ?_⟩⟩
      · rw [e51] at w
        refine ih M1 A r q _ (c + 1) (by omega) (by omega) (by omega) q0 q1 hF hb h61 (by omega) (by omega) ?_ hk
        rw [csm_step c0, show (c.toNat : Int) = c by omega, if_neg w, ← ez, Int.add_zero, Int.add_zero, cap_id (cap_le z)]
      · rw [e51] at w
        have w := Decidable.not_not.mp w
        have bp := prk_bd (V := A) (g := g) (c := c) (n := ari g c) (fun k hk2 => hb _)
        refine c_allBy hg hX1 hb h61 (by omega) ⟨by omega, ih M1 A r q _ (c + 1) (by omega) (by omega) (by omega) q0 q1 hF hb h61 (by omega) (by omega) ?_ hk⟩
        rw [csm_step c0, show (c.toNat : Int) = c by omega, if_pos w, ← ez, cap_cap_add bp.1]
  have inner : ∀ (n : Nat) (M1 : Mem) (r : Nat) (q : Int), (gT g - q).toNat = n → r < 4 → 0 ≤ q → q ≤ gT g → Fr [61] M M1 → AllOK g (M1 61) r q → (∀ M2, Fr [61] M M2 → AllOK g (M2 61) (r + 1) 0 → AW mX12_layAll 22 [some (vR 50), some (vI ((r : Int) + 1)), none, none, none, none] [] M2 (QV K)) → AW mX12_layAll 29 [some (vR 50), some (vI (r : Int)), some (vI q), none, none, none] [] M1 (QV K) := by
    intro n
    induction n with
    | zero =>
      intro M1 r q hm hr q0 q1 hF hA hk
      have hX1 := hX.fr2 hF (by decide)
      have e1 := hX1.1
      refine sg_X12_layAll_29 ⟨by rw [e1]; omega, fun _ => hk M1 hF ⟨hA.1, hA.2.1, fun t t0 t1 hf => hA.2.2.2 t t0 t1 (by omega) hf, fun t t0 t1 t2 => by omega⟩, fun w => by rw [e1] at w; omega⟩
    | succ n ih =>
      intro M1 r q hm hr q0 q1 hF hA hk
      have hX1 := hX.fr2 hF (by decide)
      have e1 := hX1.1
      refine sg_X12_layAll_29 ⟨by rw [e1]; omega, fun w => by rw [e1] at w; omega, fun _ => ?_⟩
      obtain ⟨a1, a2, a3, a4⟩ := hA
      let A : Int → Int := fun t => if 0 ≤ t ∧ t < 4 then M1 61 t else 0
      have eA : ∀ t, 0 ≤ t → t < 4 → M1 61 t = A t := fun t t0 t1 => by simp only [A, if_pos (show 0 ≤ t ∧ t < 4 from ⟨t0, t1⟩)]
      have hb : ∀ t, 0 ≤ A t ∧ A t ≤ 1000000 := by
        intro t
        by_cases e : 0 ≤ t ∧ t < 4
        · rw [← eA t e.1 e.2]; exact a1 t e.1 e.2
        · simp only [A, if_neg e]; omega
      refine sum _ M1 A r q 0 0 rfl (by omega) (by omega) q0 (by omega) hF hb eA (by omega) (by omega) rfl ?_
      have zero : ∀ i : Int, 0 ≤ i → i < gN g → ¬ Us g i → prk A g i (ari g i) = 0 := by
        intro i i0 i1 hu
        obtain ⟨k, hk1, hk2⟩ := nUs hu
        have := hgg4 i0 i1 (show (0 : Int) ≤ k by omega) (by unfold ari at hk1; omega)
        refine prk_zero hk1 ?_
        rw [← eA _ this.1 (by omega)]
        exact a2 _ this.1 this.2 hk2
      have bc : 0 ≤ csm (fun i => if gR g i = q then prk A g i (ari g i) else 0) (gN g).toNat ∧ csm (fun i => if gR g i = q then prk A g i (ari g i) else 0) (gN g).toNat ≤ 1000000 := by
        refine csm_bd (fun i hi => ?_)
        split
        · exact (prk_bd (fun k hk => hb _)).1
        · omega
      refine ih _ r (q + 1) (by omega) hr (by omega) (by omega) (hF.up (by decide)) ⟨fun t t0 t1 => ?_, fun t t0 t1 hs => ?_, fun t t0 t1 hf => ?_, fun t t0 t1 t2 hf => ?_⟩ hk
      · by_cases e : t = q
        · rw [e, up_same]; exact bc
        · rw [up_other e]; exact a1 t t0 t1
      · by_cases e : t = q
        · rw [e, up_same]
          rw [e] at hs
          refine csm_all0 (fun i hi => ?_)
          by_cases w : gR g i = q
          · rw [if_pos w]
            refine zero i (by omega) (by omega) (fun hu => ?_)
            have := Sm_us hg (by omega) (by omega) hu
            rw [w] at this
            omega
          · rw [if_neg w]
        · rw [up_other e]; exact a2 t t0 t1 hs
      · by_cases e : t = q
        · have hf1 := Fk_mono r t hf
          rw [e] at hf1
          rw [e, up_same]
          have hf4 : Fk g 4 q := Fk_le hf1 4 (by omega)
          rw [← Vk_5 hf4]
          show _ = csm _ _
          refine csm_congr (fun i hi => ?_)
          by_cases w : gR g i = q
          · by_cases u : Us g i
            · rw [if_pos w, if_pos ⟨w, u⟩]
              refine prk_congr (fun k hk2 => ?_)
              have := hgg4 (show (0 : Int) ≤ i by omega) (by omega) (show (0 : Int) ≤ k by omega) (by unfold ari at hk2; omega)
              rw [← eA _ this.1 (by omega)]
              exact a3 _ this.1 this.2 (hf1 i (by omega) (by omega) w u k (by omega) (by unfold ari at hk2; omega))
            · rw [if_pos w, if_neg (fun z => u z.2)]
              exact zero i (by omega) (by omega) u
          · rw [if_neg w, if_neg (fun z => w z.1)]
        · rw [up_other e]; exact a3 t t0 t1 hf
      · by_cases e : t = q
        · have hf1 := hf
          rw [e] at hf1
          rw [e, up_same]
          have hf4 : Fk g 4 q := Fk_le hf1 4 (by omega)
          rw [← Vk_5 hf4]
          show _ = csm _ _
          refine csm_congr (fun i hi => ?_)
          by_cases w : gR g i = q
          · by_cases u : Us g i
            · rw [if_pos w, if_pos ⟨w, u⟩]
              refine prk_congr (fun k hk2 => ?_)
              have := hgg4 (show (0 : Int) ≤ i by omega) (by omega) (show (0 : Int) ≤ k by omega) (by unfold ari at hk2; omega)
              rw [← eA _ this.1 (by omega)]
              exact a3 _ this.1 this.2 (hf1 i (by omega) (by omega) w u k (by omega) (by unfold ari at hk2; omega))
            · rw [if_pos w, if_neg (fun z => u z.2)]
              exact zero i (by omega) (by omega) u
          · rw [if_neg w, if_neg (fun z => w z.1)]
        · rw [up_other e]; exact a4 t t0 t1 (by omega) hf
  have outer : ∀ (n r : Nat) (M1 : Mem), 4 - r = n → r ≤ 4 → Fr [61] M M1 → AllOK g (M1 61) r 0 → AW mX12_layAll 22 [some (vR 50), some (vI (r : Int)), none, none, none, none] [] M1 (QV K) := by
    intro n
    induction n with
    | zero =>
      intro r M1 hm hr hF hA
      refine sg_X12_layAll_22 ⟨by omega, fun _ => kk M1 hF (fun t t0 t1 hf => ?_), fun z => by omega⟩
      refine hA.2.2.1 t t0 t1 ?_
      rw [show r = 4 by omega]
      exact hf
    | succ n ih =>
      intro r M1 hm hr hF hA
      refine sg_X12_layAll_22 ⟨by omega, fun z => by omega, fun _ => ?_⟩
      exact inner _ M1 r 0 rfl (by omega) (by omega) hg.1.1 hF hA (fun M2 hF2 hA2 => ih (r + 1) M2 (by omega) (by omega) hF2 hA2)
  have clr : ∀ (n : Nat) (q : Int) (M1 : Mem), (4 - q).toNat = n → 0 ≤ q → q ≤ 4 → Fr [61] M M1 → (∀ t, 0 ≤ t → t < q → M1 61 t = 0) → AW mX12_layAll 2 [some (vR 50), some (vI q), none, none, none, none] [] M1 (QV K) := by
    intro n
    induction n with
    | zero =>
      intro q M1 hm q0 q1 hF hz
      refine sg_X12_layAll_2 ⟨by omega, fun _ => outer _ 0 M1 rfl (by omega) hF ⟨fun t t0 t1 => ?_, fun t t0 t1 _ => hz t t0 (by omega), fun t t0 t1 hf => hf.elim, fun t t0 t1 t2 => by omega⟩, fun z => by omega⟩
      rw [hz t t0 (by omega)]
      omega
    | succ n ih =>
      intro q M1 hm q0 q1 hF hz
      refine sg_X12_layAll_2 ⟨by omega, fun z => by omega, fun _ => ⟨by omega, ih (q + 1) _ (by omega) (by omega) (by omega) (hF.up (by decide)) (fun t t0 t1 => ?_)⟩⟩
      by_cases e : t = q
      · rw [e, up_same]
      · rw [up_other e]; exact hz t t0 (by omega)
  exact en_X12_layAll (clr _ 0 M rfl (by omega) (by omega) (Fr.refl _ _) (fun t t0 t1 => by omega))
/-- pivots in place -/
theorem c_layWithin {g : Sg} {M : Mem} {K : Mem → Prop} (hg : SgOK g) (hX : MSig g M) (kk : ∀ M', Fr [60, 62] M M' → WtOK g (M' 62) → Trn (M' 62) 4 → K M') : CV mX12_layWithin [vR 50] M K := by
  have hn := hg.n
  have ht4 : gT g ≤ 4 := hg.1.2
  -- one pivot: places before 4a+b are new, the others old
  have cell : ∀ (n : Nat) (M1 : Mem) (w : Int → Int) (m a b : Int), (4 - b).toNat = n → 0 ≤ m → m < 4 → 0 ≤ a → a < 4 → 0 ≤ b → b ≤ 4 → Fr [60, 62] M M1 → WtOK g w →
      (∀ a2 b2, 0 ≤ a2 → a2 < 4 → 0 ≤ b2 → b2 < 4 → (4 * a + b ≤ 4 * a2 + b2 → M1 62 (4 * a2 + b2) = w (4 * a2 + b2)) ∧ (4 * a2 + b2 < 4 * a + b → (M1 62 (4 * a2 + b2) = 0 ∨ M1 62 (4 * a2 + b2) = 1) ∧ (M1 62 (4 * a2 + b2) ≠ 0 ↔ (w (4 * a2 + b2) ≠ 0 ∨ (w (4 * a2 + m) ≠ 0 ∧ w (4 * m + b2) ≠ 0))))) →
      (∀ M2, Fr [60, 62] M M2 → (∀ a2 b2, 0 ≤ a2 → a2 < 4 → 0 ≤ b2 → b2 < 4 → (4 * (a + 1) + 0 ≤ 4 * a2 + b2 → M2 62 (4 * a2 + b2) = w (4 * a2 + b2)) ∧ (4 * a2 + b2 < 4 * (a + 1) + 0 → (M2 62 (4 * a2 + b2) = 0 ∨ M2 62 (4 * a2 + b2) = 1) ∧ (M2 62 (4 * a2 + b2) ≠ 0 ↔ (w (4 * a2 + b2) ≠ 0 ∨ (w (4 * a2 + m) ≠ 0 ∧ w (4 * m + b2) ≠ 0))))) → AW mX12_layWithin 101 [some (vR 50), some (vI m), some (vI (a + 1)), none] [] M2 (QV K)) →
      AW mX12_layWithin 108 [some (vR 50), some (vI m), some (vI a), some (vI b)] [] M1 (QV K) := by
    intro n
    induction n with
    | zero =>
      intro M1 w m a b hm m0 m1 a0 a1 b0 b1 hF hW hI hk
      have e : b = 4 := by omega
      subst e
      refine sg_X12_layWithin_108 ⟨by omega, fun _ => hk M1 hF (fun a2 b2 p0 p1 r0 r1 => ?_), fun z => by omega⟩
      have := hI a2 b2 p0 p1 r0 r1
      exact ⟨fun z => this.1 (by omega), fun z => this.2 (by omega)⟩
    | succ n ih =>
      intro M1 w m a b hm m0 m1 a0 a1 b0 b1 hF hW hI hk
      have cur : M1 62 (4 * a + b) = w (4 * a + b) := (hI a b a0 a1 b0 (by omega)).1 (by omega)
      have bcur := hW.1 a b a0 a1 b0 (by omega)
      -- what stands at (a,m) and (m,b) says the same as the old
      have am : M1 62 (4 * a + m) ≠ 0 ↔ w (4 * a + m) ≠ 0 := by
        have h := hI a m a0 a1 m0 m1
        by_cases z : 4 * a + b ≤ 4 * a + m
        · rw [h.1 z]
        · rw [(h.2 (by omega)).2]
          constructor
          · rintro (q | q)
            · exact q
            · exact q.1
          · exact fun q => Or.inl q
      have bam : M1 62 (4 * a + m) = 0 ∨ M1 62 (4 * a + m) = 1 := by
        have h := hI a m a0 a1 m0 m1
        by_cases z : 4 * a + b ≤ 4 * a + m
        · rw [h.1 z]; exact hW.1 a m a0 a1 m0 m1
        · exact (h.2 (by omega)).1
      have mb : M1 62 (4 * m + b) ≠ 0 ↔ w (4 * m + b) ≠ 0 := by
        have h := hI m b m0 m1 b0 (by omega)
        by_cases z : 4 * a + b ≤ 4 * m + b
        · rw [h.1 z]
        · rw [(h.2 (by omega)).2]
          constructor
          · rintro (q | q)
            · exact q
            · exact q.2
          · exact fun q => Or.inl q
      have bmb : M1 62 (4 * m + b) = 0 ∨ M1 62 (4 * m + b) = 1 := by
        have h := hI m b m0 m1 b0 (by omega)
        by_cases z : 4 * a + b ≤ 4 * m + b
        · rw [h.1 z]; exact hW.1 m b m0 m1 b0 (by omega)
        · exact (h.2 (by omega)).1
      have go : ∀ v : Int, (v = 0 ∨ v = 1) → (v ≠ 0 ↔ (w (4 * a + b) ≠ 0 ∨ (w (4 * a + m) ≠ 0 ∧ w (4 * m + b) ≠ 0))) → AW mX12_layWithin 108 [some (vR 50), some (vI m), some (vI a), some (vI (b + 1))] [] (up M1 62 (4 * a + b) v) (QV K) := by
        intro v hv hv2
        refine ih _ w m a (b + 1) (by omega) m0 m1 a0 a1 (by omega) (by omega) (hF.up (by decide)) hW (fun a2 b2 p0 p1 r0 r1 => ?_) hk
        have h := hI a2 b2 p0 p1 r0 r1
        by_cases e : 4 * a2 + b2 = 4 * a + b
        · have e2 : a2 = a := by omega
          have e3 : b2 = b := by omega
          subst e2; subst e3
          refine ⟨fun z => by omega, fun _ => ?_⟩
          rw [up_same]
          exact ⟨hv, hv2⟩
        · rw [up_other e]
          exact ⟨fun z => h.1 (by omega), fun z => h.2 (by omega)⟩
      refine sg_X12_layWithin_108 ⟨by omega, fun z => by omega, fun _ => ⟨by omega, by rw [cur]; omega, fun z => ⟨by omega, go 1 (by omega) ⟨fun _ => Or.inl (by rw [← cur]; exact z), fun _ => by decide⟩⟩, fun z => ⟨by omega, by omega, fun z2 => ⟨by omega, go 0 (by omega) ⟨fun q => absurd rfl q, fun q => ?_⟩⟩, fun z2 => ⟨by omega, by omega, fun z3 => ⟨by omega, go 0 (by omega) ⟨fun q => absurd rfl q, fun q => ?_⟩⟩, fun z3 => ⟨by omega, go 1 (by omega) ⟨fun _ => Or.inr ⟨am.mp z2, mb.mp z3⟩, fun _ => by decide⟩⟩⟩⟩⟩⟩
      · rcases q with q | q
        · rw [← cur] at q; exact absurd q z
        · exact absurd z2 (am.mpr q.1)
      · rcases q with q | q
        · rw [← cur] at q; exact absurd q z
        · exact absurd z3 (mb.mpr q.2)
  have row : ∀ (n : Nat) (M1 : Mem) (w : Int → Int) (m a : Int), (4 - a).toNat = n → 0 ≤ m → m < 4 → 0 ≤ a → a ≤ 4 → Fr [60, 62] M M1 → WtOK g w →
      (∀ a2 b2, 0 ≤ a2 → a2 < 4 → 0 ≤ b2 → b2 < 4 → (4 * a + 0 ≤ 4 * a2 + b2 → M1 62 (4 * a2 + b2) = w (4 * a2 + b2)) ∧ (4 * a2 + b2 < 4 * a + 0 → (M1 62 (4 * a2 + b2) = 0 ∨ M1 62 (4 * a2 + b2) = 1) ∧ (M1 62 (4 * a2 + b2) ≠ 0 ↔ (w (4 * a2 + b2) ≠ 0 ∨ (w (4 * a2 + m) ≠ 0 ∧ w (4 * m + b2) ≠ 0))))) →
      (∀ M2, Fr [60, 62] M M2 → Piv w (M2 62) m → AW mX12_layWithin 94 [some (vR 50), some (vI (m + 1)), none, none] [] M2 (QV K)) →
      AW mX12_layWithin 101 [some (vR 50), some (vI m), some (vI a), none] [] M1 (QV K) := by
    intro n
    induction n with
    | zero =>
      intro M1 w m a hm m0 m1 a0 a1 hF hW hI hk
      refine sg_X12_layWithin_101 ⟨by omega, fun _ => hk M1 hF (fun a2 b2 p0 p1 r0 r1 => (hI a2 b2 p0 p1 r0 r1).2 (by omega)), fun z => by omega⟩
    | succ n ih =>
      intro M1 w m a hm m0 m1 a0 a1 hF hW hI hk
      refine sg_X12_layWithin_101 ⟨by omega, fun z => by omega, fun _ => ?_⟩
      exact cell _ M1 w m a 0 rfl m0 m1 a0 (by omega) (by omega) (by omega) hF hW hI (fun M2 hF2 hI2 => ih M2 w m (a + 1) (by omega) m0 m1 (by omega) (by omega) hF2 hW hI2 hk)
  have piv : ∀ (n : Nat) (M1 : Mem) (m : Int), (4 - m).toNat = n → 0 ≤ m → m ≤ 4 → Fr [60, 62] M M1 → WtOK g (M1 62) → Trn (M1 62) m → AW mX12_layWithin 94 [some (vR 50), some (vI m), none, none] [] M1 (QV K) := by
    intro n
    induction n with
    | zero =>
      intro M1 m hm m0 m1 hF hW hT
      refine sg_X12_layWithin_94 ⟨by omega, fun _ => kk M1 hF hW ?_, fun z => by omega⟩
      rw [show m = 4 by omega] at hT
      exact hT
    | succ n ih =>
      intro M1 m hm m0 m1 hF hW hT
      refine sg_X12_layWithin_94 ⟨by omega, fun z => by omega, fun _ => ?_⟩
      refine row _ M1 (M1 62) m 0 rfl m0 (by omega) (by omega) (by omega) hF hW (fun a2 b2 p0 p1 r0 r1 => ⟨fun _ => rfl, fun z => by omega⟩) (fun M2 hF2 hP => ?_)
      have := piv_ok m0 (by omega) hW hT hP
      exact ih M2 (m + 1) (by omega) (by omega) (by omega) hF2 this.1 this.2
  -- the edges: those of constructors below c, and of c below k
  have arg : ∀ (n : Nat) (M1 : Mem) (c k : Int), (gA g c - k).toNat = n → 0 ≤ c → c < gN g → 0 ≤ k → k ≤ gA g c → Fr [60, 62] M M1 → (∀ t, 0 ≤ t → t < 4 → M1 60 t = Sm g t) →
      (∀ a b, 0 ≤ a → a < 4 → 0 ≤ b → b < 4 → (M1 62 (4 * a + b) = 0 ∨ M1 62 (4 * a + b) = 1) ∧ (M1 62 (4 * a + b) ≠ 0 ↔ ∃ c2 k2, (0 ≤ c2 ∧ c2 < gN g) ∧ Us g c2 ∧ gR g c2 = a ∧ (0 ≤ k2 ∧ k2 < gA g c2) ∧ gG g (c2 * 3 + k2) = b ∧ (c2 < c ∨ (c2 = c ∧ k2 < k)))) →
      (∀ M2, Fr [60, 62] M M2 → (∀ t, 0 ≤ t → t < 4 → M2 60 t = Sm g t) → (∀ a b, 0 ≤ a → a < 4 → 0 ≤ b → b < 4 → (M2 62 (4 * a + b) = 0 ∨ M2 62 (4 * a + b) = 1) ∧ (M2 62 (4 * a + b) ≠ 0 ↔ ∃ c2 k2, (0 ≤ c2 ∧ c2 < gN g) ∧ Us g c2 ∧ gR g c2 = a ∧ (0 ≤ k2 ∧ k2 < gA g c2) ∧ gG g (c2 * 3 + k2) = b ∧ c2 < c + 1)) → AW mX12_layWithin 27 [some (vR 50), some (vI (c + 1)), none, none] [] M2 (QV K)) →
      AW mX12_layWithin 37 [some (vR 50), some (vI c), some (vI k), none] [] M1 (QV K) := by
    intro n
    induction n with
    | zero =>
      intro M1 c k hm c0 c1 k0 k1 hF h60 hI hk
      have ha := hg.a c0 c1
      have hX1 := hX.fr2 hF (by decide)
      have e52 := (hX1.2.2 c c0 c1).2.1
      refine sg_X12_layWithin_37 ⟨by omega, by rw [e52]; omega, fun _ => sg_X12_layWithin_86 (hk M1 hF h60 (fun a b a0 a1 b0 b1 => ⟨(hI a b a0 a1 b0 b1).1, (hI a b a0 a1 b0 b1).2.trans ⟨?_, ?_⟩⟩)), fun z => by rw [e52] at z; omega⟩
      · rintro ⟨c2, k2, h1, h2, h3, h4, h5, h6⟩
        exact ⟨c2, k2, h1, h2, h3, h4, h5, by omega⟩
      · rintro ⟨c2, k2, h1, h2, h3, h4, h5, h6⟩
        refine ⟨c2, k2, h1, h2, h3, h4, h5, ?_⟩
        by_cases e : c2 = c
        · subst e; right; exact ⟨rfl, by omega⟩
        · left; omega
    | succ n ih =>
      intro M1 c k hm c0 c1 k0 k1 hF h60 hI hk
      have ha := hg.a c0 c1
      have hr := hg.2.2 c c0 c1
      have hX1 := hX.fr2 hF (by decide)
      have e51 := (hX1.2.2 c c0 c1).1
      have e52 := (hX1.2.2 c c0 c1).2.1
      have e53 := (hX1.2.2 c c0 c1).2.2 k k0 (by omega)
      have hgg := hr.2.2 k k0 (by omega)
      refine sg_X12_layWithin_37 ⟨by omega, by rw [e52]; omega, fun z => by rw [e52] at z; omega, fun _ => c_sizeBy hg hX1 (rdn_gd hg 4) h60 ⟨c0, c1⟩ ?_⟩
      by_cases hu : Us g c
      · have hs := szk_sm hg (rdn_gd hg 4) c0 c1 hu
        have hu2 : usf g (rdn g 4) c (ari g c) = true := hu
        rw [if_pos hu2]
        refine ⟨by omega, fun z => by omega, fun _ => ⟨by omega, by omega, ?_⟩⟩
        rw [e51, e53]
        refine ⟨by omega, ih _ c (k + 1) (by omega) c0 c1 (by omega) (by omega) (hF.up (by decide)) (fun t t0 t1 => h60 t t0 t1) (fun a b a0 a1 b0 b1 => ?_) hk⟩
        by_cases e : 4 * a + b = 4 * gR g c + gG g (c * 3 + k)
        · rw [e, up_same]
          refine ⟨Or.inr rfl, fun _ => ⟨c, k, ⟨c0, c1⟩, hu, by omega, ⟨k0, by omega⟩, by omega, Or.inr ⟨rfl, by omega⟩⟩, fun _ => by decide⟩
        · rw [up_other e]
          refine ⟨(hI a b a0 a1 b0 b1).1, (hI a b a0 a1 b0 b1).2.trans ⟨?_, ?_⟩⟩
          · rintro ⟨c2, k2, h1, h2, h3, h4, h5, h6⟩
            exact ⟨c2, k2, h1, h2, h3, h4, h5, by omega⟩
          · rintro ⟨c2, k2, h1, h2, h3, h4, h5, h6⟩
            refine ⟨c2, k2, h1, h2, h3, h4, h5, ?_⟩
            rcases h6 with h6 | ⟨h6, h7⟩
            · exact Or.inl h6
            · right
              refine ⟨h6, ?_⟩
              by_cases e2 : k2 = k
              · rw [e2, h6] at h5
                rw [h6] at h3
                omega
              · omega
      · have hu2 : ¬ usf g (rdn g 4) c (ari g c) = true := hu
        rw [if_neg hu2]
        refine ⟨by decide, fun _ => sg_X12_layWithin_86 (hk M1 hF h60 (fun a b a0 a1 b0 b1 => ⟨(hI a b a0 a1 b0 b1).1, (hI a b a0 a1 b0 b1).2.trans ⟨?_, ?_⟩⟩)), fun z => by omega⟩
        · rintro ⟨c2, k2, h1, h2, h3, h4, h5, h6⟩
          exact ⟨c2, k2, h1, h2, h3, h4, h5, by omega⟩
        · rintro ⟨c2, k2, h1, h2, h3, h4, h5, h6⟩
          refine ⟨c2, k2, h1, h2, h3, h4, h5, ?_⟩
          by_cases e : c2 = c
          · rw [e] at h2; exact absurd h2 hu
          · left; omega
  have con : ∀ (n : Nat) (M1 : Mem) (c : Int), (gN g - c).toNat = n → 0 ≤ c → c ≤ gN g → Fr [60, 62] M M1 → (∀ t, 0 ≤ t → t < 4 → M1 60 t = Sm g t) → (∀ a b, 0 ≤ a → a < 4 → 0 ≤ b → b < 4 → (M1 62 (4 * a + b) = 0 ∨ M1 62 (4 * a + b) = 1) ∧ (M1 62 (4 * a + b) ≠ 0 ↔ ∃ c2 k2, (0 ≤ c2 ∧ c2 < gN g) ∧ Us g c2 ∧ gR g c2 = a ∧ (0 ≤ k2 ∧ k2 < gA g c2) ∧ gG g (c2 * 3 + k2) = b ∧ c2 < c)) → AW mX12_layWithin 27 [some (vR 50), some (vI c), none, none] [] M1 (QV K) := by
    intro n
    induction n with
    | zero =>
      intro M1 c hm c0 c1 hF h60 hI
      have e1 := (hX.fr2 hF (by decide)).2.1
      refine sg_X12_layWithin_27 ⟨by rw [e1]; omega, fun _ => piv _ M1 0 rfl (by omega) (by omega) hF ⟨fun a b a0 a1 b0 b1 => (hI a b a0 a1 b0 b1).1, fun a b a0 a1 b0 b1 hE => (hI a b a0 a1 b0 b1).2.mpr ?_, fun a b a0 a1 b0 b1 h n hf => ?_⟩ (fun q a b q0 q1 => by omega), fun z => by rw [e1] at z; omega⟩
      · obtain ⟨c2, k2, h1, h2, h3, h4, h5⟩ := hE
        exact ⟨c2, k2, h1, h2, h3, h4, h5, by omega⟩
      · obtain ⟨c2, k2, h1, h2, h3, h4, h5, h6⟩ := (hI a b a0 a1 b0 b1).2.mp h
        exact Ed_F ⟨c2, k2, h1, h2, h3, h4, h5⟩ hf
    | succ n ih =>
      intro M1 c hm c0 c1 hF h60 hI
      have e1 := (hX.fr2 hF (by decide)).2.1
      refine sg_X12_layWithin_27 ⟨by rw [e1]; omega, fun z => by rw [e1] at z; omega, fun _ => ?_⟩
      have ha := hg.a c0 (show c < gN g by omega)
      refine arg _ M1 c 0 rfl c0 (by omega) (by omega) (by omega) hF h60 (fun a b a0 a1 b0 b1 => ⟨(hI a b a0 a1 b0 b1).1, (hI a b a0 a1 b0 b1).2.trans ⟨?_, ?_⟩⟩) (fun M2 hF2 h602 hI2 => ih M2 (c + 1) (by omega) (by omega) (by omega) hF2 h602 hI2)
      · rintro ⟨c2, k2, h1, h2, h3, h4, h5, h6⟩
        exact ⟨c2, k2, h1, h2, h3, h4, h5, Or.inl h6⟩
      · rintro ⟨c2, k2, h1, h2, h3, h4, h5, h6⟩
        exact ⟨c2, k2, h1, h2, h3, h4, h5, by omega⟩
  have clr : ∀ (n : Nat) (q : Int) (M1 : Mem), (16 - q).toNat = n → 0 ≤ q → q ≤ 16 → Fr [60, 62] M M1 → (∀ t, 0 ≤ t → t < 4 → M1 60 t = Sm g t) → (∀ t, 0 ≤ t → t < q → M1 62 t = 0) → AW mX12_layWithin 6 [some (vR 50), some (vI q), none, none] [] M1 (QV K) := by
    intro n
    induction n with
    | zero =>
      intro q M1 hm q0 q1 hF h60 hz
      refine sg_X12_layWithin_6 ⟨by omega, fun _ => con _ M1 0 rfl (by omega) (by omega) hF h60 (fun a b a0 a1 b0 b1 => ?_), fun z => by omega⟩
      rw [hz (4 * a + b) (by omega) (by omega)]
      refine ⟨Or.inl rfl, fun z => absurd rfl z, ?_⟩
      rintro ⟨c2, k2, h1, h2, h3, h4, h5, h6⟩
      omega
    | succ n ih =>
      intro q M1 hm q0 q1 hF h60 hz
      refine sg_X12_layWithin_6 ⟨by omega, fun z => by omega, fun _ => ⟨by omega, ih (q + 1) _ (by omega) (by omega) (by omega) (hF.up (by decide)) (fun t t0 t1 => h60 t t0 t1) (fun t t0 t1 => ?_)⟩⟩
      by_cases e : t = q
      · rw [e, up_same]
      · rw [up_other e]; exact hz t t0 (by omega)
  exact en_X12_layWithin (c_laySmallest hg hX (fun M1 hF1 h60 => clr _ 0 M1 rfl (by omega) (by omega) (hF1.mono (by decide)) h60 (fun t t0 t1 => by omega)))
def InfU (w : Int → Int) (t m : Int) : Prop := w (4 * t + t) ≠ 0 ∨ ∃ m2, (0 ≤ m2 ∧ m2 < 4) ∧ w (4 * t + m2) ≠ 0 ∧ w (4 * m2 + m2) ≠ 0 ∧ m2 < m
def Iff2 (v : Int) (p : Prop) : Prop := v ≠ 0 ↔ p
theorem c_isInfinite {g : Sg} {M : Mem} {K : Int → Mem → Prop} (hW : WtOK g (M 62)) {t : Int} (ht : 0 ≤ t ∧ t < 4) (k1 : Inf (M 62) t → K 1 M) (k0 : ¬ Inf (M 62) t → K 0 M) : CI mX12_isInfinite [vR 50, vI t] M K := by
  have loop : ∀ (n : Nat) (v m : Int), (4 - m).toNat = n → 0 ≤ m → m ≤ 4 → (v = 0 ∨ v = 1) → Iff2 v (InfU (M 62) t m) → AW mX12_isInfinite 11 [some (vR 50), some (vI t), some (vI v), some (vI m)] [] M (QI K) := by
    intro n
    induction n with
    | zero =>
      intro v m hm m0 m1 hv hI
      refine sg_X12_isInfinite_11 ⟨by omega, fun _ => ⟨hv, ?_⟩, fun z => by omega⟩
      rcases hv with e | e
      · rw [e] at hI ⊢
        refine k0 (fun z => ?_)
        rcases z with z | ⟨m2, h1, h2, h3⟩
        · exact (hI.mpr (Or.inl z)) rfl
        · exact (hI.mpr (Or.inr ⟨m2, h1, h2, h3, by omega⟩)) rfl
      · rw [e] at hI ⊢
        refine k1 ?_
        rcases hI.mp (by decide) with z | ⟨m2, h1, h2, h3, _⟩
        · exact Or.inl z
        · exact Or.inr ⟨m2, h1, h2, h3⟩
    | succ n ih =>
      intro v m hm m0 m1 hv hI
      have w1 := hW.1 t m ht.1 ht.2 m0 (by omega)
      have w2 := hW.1 m m m0 (by omega) m0 (by omega)
      have e5 : 5 * m = 4 * m + m := by omega
      have keep : ¬ (M 62 (4 * t + m) ≠ 0 ∧ M 62 (4 * m + m) ≠ 0) → v = 0 → AW mX12_isInfinite 11 [some (vR 50), some (vI t), some (vI 0), some (vI (m + 1))] [] M (QI K) := by
        intro z hv0
        refine ih 0 (m + 1) (by omega) (by omega) (by omega) (Or.inl rfl) ⟨fun q => absurd rfl q, fun q => ?_⟩
        exfalso
        have hI2 := hI.mpr
        rcases q with q | ⟨m2, h1, h2, h3, h4⟩
        · exact hI2 (Or.inl q) hv0
        · by_cases e : m2 = m
          · rw [e] at h2 h3
            exact z ⟨h2, h3⟩
          · exact hI2 (Or.inr ⟨m2, h1, h2, h3, by omega⟩) hv0
      refine sg_X12_isInfinite_11 ⟨by omega, fun z => by omega, fun _ => ⟨by omega, fun z => sg_X12_isInfinite_44 (ih 1 (m + 1) (by omega) (by omega) (by omega) (Or.inr rfl) ⟨fun _ => ?_, fun _ => by decide⟩), fun z => ⟨by omega, by omega, fun z2 => sg_X12_isInfinite_48 (keep (fun q => q.1 z2) (by omega)), fun z2 => ⟨by omega, by rw [e5]; omega, fun z3 => sg_X12_isInfinite_48 (keep (fun q => q.2 (by rw [← e5]; exact z3)) (by omega)), fun z3 => sg_X12_isInfinite_44 (ih 1 (m + 1) (by omega) (by omega) (by omega) (Or.inr rfl) ⟨fun _ => ?_, fun _ => by decide⟩)⟩⟩⟩⟩
      · rcases hI.mp z with q | ⟨m2, h1, h2, h3, h4⟩
        · exact Or.inl q
        · exact Or.inr ⟨m2, h1, h2, h3, by omega⟩
      · rw [e5] at z3
        exact Or.inr ⟨m, ⟨m0, by omega⟩, z2, z3, by omega⟩
  have e5 : 5 * t = 4 * t + t := by omega
  refine en_X12_isInfinite ⟨by omega, ?_⟩
  rw [e5]
  refine loop _ _ 0 rfl (by omega) (by omega) (hW.1 t t ht.1 ht.2 ht.1 ht.2) ⟨fun z => Or.inl z, fun z => ?_⟩
  rcases z with z | ⟨m2, h1, h2, h3, h4⟩
  · exact z
  · omega
/-- the class's and the reference's answer -/
theorem c_cardX {g : Sg} {M : Mem} {K : Int → Mem → Prop} (hg : SgOK g) (hX : XSig g M) {t : Int} (ht : InR t) (k0 : ¬ (0 ≤ t ∧ t < gT g) → K (-1) M) (k1 : 0 ≤ t ∧ t < gT g → K (M 7 t) M) : CI mX11_cardinality [vR 0, vI t] M K := by
  have e0 := hX.1
  have h4 := hg.1
  refine en_X11_cardinality (c_hasType ht (by rw [e0]; exact h4) (fun h => ⟨by decide, fun _ => ⟨by omega, k1 (by omega)⟩, fun z => absurd (by decide) z⟩) (fun h => ⟨by decide, fun z => absurd rfl z, fun _ => k0 (by omega)⟩))
theorem c_cardM {g : Sg} {M : Mem} {K : Int → Mem → Prop} (hg : SgOK g) (hX : MSig g M) {t : Int} (ht : InR t) (k0 : ¬ (0 ≤ t ∧ t < gT g) → K (-1) M) (k1 : 0 ≤ t ∧ t < gT g → ∀ M' v, Fr [60, 61, 62] M M' → ((Fk g 4 t ∧ v = Vk g 4 t) ∨ (¬ Fk g 4 t ∧ v = -14)) → K v M') : CI mX12_cardinality [vR 50, vI t] M K := by
  have e0 := hX.1
  have h4 := hg.1
  refine en_X12_cardinality (c_isType ht (by rw [e0]; exact h4) (fun h => ⟨by decide, fun _ => ?_, fun z => absurd (by decide) z⟩) (fun h => ⟨by decide, fun z => absurd rfl z, fun _ => k0 (by omega)⟩))
  have h : 0 ≤ t ∧ t < gT g := by omega
  refine c_layWithin hg hX (fun M1 hF1 hW hT => c_isInfinite hW (by omega) (fun hi => ⟨by decide, fun z => absurd z (by decide), fun _ => ?_⟩) (fun hi => ⟨by decide, fun _ => ?_, fun z => absurd rfl z⟩))
  · exact k1 h M1 _ (hF1.mono (by decide)) (Or.inr ⟨(inf_iff hg hW hT h.1 (by omega)).mp hi, rfl⟩)
  · refine c_layAll hg (hX.fr2 hF1 (by decide)) (fun M2 hF2 hA => ⟨by omega, ?_⟩)
    have hf : Fk g 4 t := Classical.byContradiction (fun z => hi ((inf_iff hg hW hT h.1 (by omega)).mpr z))
    exact k1 h M2 _ ((hF1.mono (by decide)).trans (hF2.mono (by decide))) (Or.inl ⟨hf, hA t h.1 h.2 hf⟩)
