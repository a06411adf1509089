/-! value -/
section
variable {g : Sg}
theorem c_layValue {M : Mem} {K : Mem → Prop} (hg : SgOK g) (hX : MSig g M) (hO : MCnt g M) {t s i : Int} (hv : Vd g t s i) (kk : ∀ M' z, Fr [50, 65, 66, 67, 68, 69, 70, 71] M M' → (∀ f : Int, f ≠ 21 → M' 50 f = M 50 f) → M' 50 21 = s → Pr g (M' 65) s.toNat 0 t s i → Rw g (M' 65) s z → (∀ x, 0 ≤ x → x < s → M' 66 x = z x) → K M') : CV mX12_layValue [vR 50, vI t, vI s, vI i] M K := by
  have hs := hv.2.1
  refine en_X12_layValue ?_
  generalize hM1 : up (up (up (up M 50 21 0) 67 0 t) 68 0 s) 69 0 i = M1
  have F1 : Fr [50, 67, 68, 69] M M1 := by
    rw [← hM1]
    exact ((((Fr.refl _ M).up (by decide)).up (by decide)).up (by decide)).up (by decide)
  have a50 : ∀ f : Int, f ≠ 21 → M1 50 f = M 50 f := fun f hf => by rw [← hM1, up_ne (by decide), up_ne (by decide), up_ne (by decide), up_other hf]
  have a21 : M1 50 21 = 0 := by rw [← hM1]; rfl
  have a67 : M1 67 0 = t := by rw [← hM1]; rfl
  have a68 : M1 68 0 = s := by rw [← hM1]; rfl
  have a69 : M1 69 0 = i := by rw [← hM1]; rfl
  clear hM1
  have hX1 : MSig g M1 := hX.fr F1 ⟨a50 0 (by decide), a50 1 (by decide)⟩ (by decide)
  have hO1 : MCnt g M1 := by
    unfold MCnt
    rw [F1 63 (by decide), F1 64 (by decide)]
    exact hO
  refine c_layRow hg _ M1 0 (fun e => if e < 0 then s else 0) 1 rfl (by omega) (show s ≤ 12 by omega) hX1 hO1 a21 ⟨by omega, rfl, fun e e0 e1 => ?_⟩ (fun M2 hF2 u50 u21 _ uP => ?_)
  · have e : e = 0 := by omega
    subst e
    rw [a67, a68, a69]
    exact ⟨hv, show s = 0 + s by omega⟩
  · have hp := uP 0 (by omega) (by omega)
    rw [a67, a68, a69] at hp
    have hp : Pr g (M2 65) s.toNat 0 t s i := hp
    have u21 : M2 50 21 = s := u21
    obtain ⟨z, hz, _⟩ := Pr_rw hg hv hp
    refine c_layParts hg (hX1.fr hF2 ⟨u50 0 (by decide), u50 1 (by decide)⟩ (by decide)) (z := z) (by omega) (by rw [u21]; exact hz) (fun M3 hF3 h66 => kk M3 z (((F1.mono (by decide)).trans (hF2.mono (by decide))).trans (hF3.mono (by decide))) (fun f hf => ?_) ?_ ?_ ?_ ?_)
    · rw [hF3 50 (by decide), u50 f hf]; exact a50 f hf
    · rw [hF3 50 (by decide)]; exact u21
    · rw [hF3 65 (by decide)]; exact hp
    · rw [hF3 65 (by decide)]; exact hz
    · rw [u21] at h66; exact h66
theorem c_makeNodes {M : Mem} {K : Int → Mem → Prop} (hg : SgOK g) (hX : MSig g M) {t s i N : Int} (hv : Vd g t s i) (hP : Pr g (M 65) s.toNat 0 t s i) (h21 : M 50 21 = s) (hN : M 50 5 = N) (N0 : 0 ≤ N) (N1 : N + s ≤ 100) (kk : ∀ M', MkP g M M' 0 N t s i → K (N + s - 1) M') : CI mX12_makeNodes [vR 50] M K := by
  have hs := hv.2.1
  refine en_X12_makeNodes (c_mk hg s.toNat M 0 0 N t s i (-13) hX hv hP (by omega) (by omega) (by omega) (by omega) (by omega) hN N0 N1 (fun M' c hm => ⟨fun _ => sg_X12_makeNodes_154 (sg_X12_makeNodes_37 ⟨by decide, fun _ => sg_X12_makeNodes_157 (sg_X12_makeNodes_7 ?_), fun z => absurd (by decide) z⟩), fun z => absurd (by decide) z⟩))
  rw [hm.2.1 21 (by decide), h21]
  exact ⟨by omega, fun _ => kk M' hm, fun z => by omega⟩
end
section
variable {c : Nat} {M : Mem} {K : Int → Mem → Prop}
theorem op_value (h : Inv c M) {t s i : Int} (ht : InR t) (hs : InR s) (hi : InR i) (kk : ∀ r M1, Then mX12_value [vR 50, vI t, vI s, vI i] c r M1 → K r M1) : CI mX11_value [vR 0, vI t, vI s, vI i] M K := by
  obtain ⟨g, d, tg, hC, hc⟩ := h
  obtain ⟨⟨f1, f2, f3, f4, f5, f6⟩, b1, b2, b3⟩ := hC.facts
  have hg := hC.1.1
  have bC := Cs_bd (g := g) t s
  -- the reference, up to where it lays the value
  have ref : ∀ (M1 : Mem) (K2 : Int → Mem → Prop), M1 50 = M 50 → MSig g M1 → (¬ (0 ≤ t ∧ t < gT g) → K2 (-1) M1) → (0 ≤ t ∧ t < gT g → ¬ (1 ≤ s ∧ s ≤ 12) → K2 (-4) M1) → (0 ≤ t ∧ t < gT g → 1 ≤ s ∧ s ≤ 12 → ∀ M2, Fr [63, 64] M1 M2 → MCnt g M2 → (¬ (0 ≤ i ∧ i < Cs g t s) → K2 (-13) M2) ∧ (0 ≤ i ∧ i < Cs g t s → ¬ nN d + s ≤ 100 → K2 (-6) M2) ∧ (0 ≤ i ∧ i < Cs g t s → nN d + s ≤ 100 → CV mX12_layValue [vR 50, vI t, vI s, vI i] M2 (fun M64 => CI mX12_makeNodes [vR 50] M64 (fun r68 M68 => K2 r68 M68)))) → CI mX12_value [vR 50, vI t, vI s, vI i] M1 K2 := by
    intro M1 K2 e50 hX1 n1 n4 go
    refine en_X12_value (c_isType ht (by rw [e50]; omega) (fun q => ⟨by decide, fun _ => c_in hs (by decide) (by decide) (fun q2 => ⟨by decide, fun _ => c_layCounts hg hX1 (fun M2 hF2 hO2 => c_countOfM (by rw [e50] at q; omega) (by omega) ?_), fun z => absurd (by decide) z⟩) (fun q2 => ⟨by decide, fun z => absurd rfl z, fun _ => n4 (by rw [e50] at q; omega) q2⟩), fun z => absurd (by decide) z⟩) (fun q => ⟨by decide, fun z => absurd rfl z, fun _ => n1 (by rw [e50] at q; omega)⟩))
    have q' : 0 ≤ t ∧ t < gT g := by rw [e50] at q; omega
    have w := go q' q2 M2 hF2 hO2
    rw [hO2.1 t s q'.1 (by omega) (by omega) q2.2]
    refine c_in hi (by decide) (by omega) (fun y => ⟨by decide, fun _ => ?_, fun z => absurd (by decide) z⟩) (fun y => ⟨by decide, fun z => absurd rfl z, fun _ => w.1 (by omega)⟩)
    rw [hF2 50 (by decide), e50, f6]
    exact ⟨by omega, fun z => w.2.2 (by omega) z, fun z => w.2.1 (by omega) z⟩
  have fin0 : ∀ M2, Fr [63, 64] M M2 → Inv (c + 1) M2 := fun M2 hF => ⟨g, d, tg, hC.keep (Keep.of hF (by decide)), hc.up.fr hF (by decide)⟩
  have hX0 := hC.2.2.1.1
  refine en_X11_value (c_hasType ht (by omega) (fun q => ⟨by decide, fun _ => ?_, fun z => absurd (by decide) z⟩) (fun q => ⟨by decide, fun z => absurd rfl z, fun _ => kk _ M ⟨by decide, fun K2 k2 => ref M K2 rfl hX0 (fun _ => k2 M (fin0 M (Fr.refl _ _))) (fun z => absurd (show 0 ≤ t ∧ t < M 1 0 by omega) q) (fun z => absurd (show 0 ≤ t ∧ t < M 1 0 by omega) q)⟩⟩))
  have q : 0 ≤ t ∧ t < gT g := by omega
  have no4 : ¬ (1 ≤ s ∧ s ≤ 12) → K (-4) M := fun nq => kk _ M ⟨by decide, fun K2 k2 => ref M K2 rfl hX0 (fun z => absurd q z) (fun _ _ => k2 M (fin0 M (Fr.refl _ _))) (fun _ z => absurd z nq)⟩
  refine ⟨hs, fun z => no4 (by omega), fun z => ⟨hs, fun z2 => ?_, fun z2 => no4 (by omega)⟩⟩
  have qs : 1 ≤ s ∧ s ≤ 12 := by omega
  have no13 : ¬ (0 ≤ i ∧ i < Cs g t s) → K (-13) M := fun nq => kk _ M ⟨by decide, fun K2 k2 => ref M K2 rfl hX0 (fun z => absurd q z) (fun _ z => absurd qs z) (fun _ _ M2 hF hO => ⟨fun _ => k2 M2 (fin0 M2 hF), fun z => absurd z nq, fun z => absurd z nq⟩)⟩
  refine ⟨hi, fun z3 => no13 (by omega), fun z3 => c_countOf (by omega) (by omega) ?_⟩
  rw [hC.2.2.2.2.1.1 t s q.1 (by omega) (by omega) qs.2, f5]
  refine ⟨by omega, fun z4 => ⟨by omega, fun z5 => ?_, fun z5 => kk _ M ⟨by decide, fun K2 k2 => ref M K2 rfl hX0 (fun z => absurd q z) (fun _ z => absurd qs z) (fun _ _ M2 hF hO => ⟨fun z => absurd ⟨by omega, z4⟩ z, fun _ _ => k2 M2 (fin0 M2 hF), fun _ z => absurd z z5⟩)⟩⟩, fun z4 => no13 (by omega)⟩
  have hv : Vd g t s i := ⟨q, qs, by omega, z4⟩
  refine c_build hg hC.2.1.1 hC.2.2.2.2.1 hv f5 ⟨b3.1, z5⟩ (fun M1 hF1 a12 a13 a15 hB => kk _ M1 ⟨by omega, fun K2 k2 => ?_⟩)
  refine ref M1 K2 (hF1 50 (by decide)) (hX0.fr2 hF1 (by decide)) (fun z => absurd q z) (fun _ z => absurd qs z) (fun _ _ M2 hF2 hO2 => ⟨fun z => absurd ⟨by omega, z4⟩ z, fun _ z => absurd z5 z, fun _ _ => ?_⟩)
  have hX2 : MSig g M2 := (hX0.fr2 hF1 (by decide)).fr2 hF2 (by decide)
  refine c_layValue hg hX2 hO2 hv (fun M3 z hF3 u50 u21 hP hRw h66 => ?_)
  have hX3 : MSig g M3 := hX2.fr hF3 ⟨u50 0 (by decide), u50 1 (by decide)⟩ (by decide)
  have e50 : ∀ f : Int, f ≠ 21 → M3 50 f = M 50 f := fun f hf => by rw [u50 f hf, hF2 50 (by decide), hF1 50 (by decide)]
  refine c_makeNodes hg hX3 hv hP u21 (show M3 50 5 = nN d by rw [e50 5 (by decide)]; exact f6) b3.1 z5 (fun M4 hm => ?_)
  obtain ⟨v0, v1, v2, v3, v4, v5, v6, v7, v8⟩ := hm
  have F13 : Fr [12, 13, 14, 15, 17, 18, 19, 20, 21, 50, 63, 64, 65, 66, 67, 68, 69, 70, 71] M M3 := ((hF1.mono (by decide)).trans (hF2.mono (by decide))).trans (hF3.mono (by decide))
  have F4 : Fr [12, 13, 14, 15, 17, 18, 19, 20, 21, 50, 54, 55, 56, 57, 63, 64, 65, 66, 67, 68, 69, 70, 71, 72, 73, 74] M M4 := (F13.mono (by decide)).trans (v0.mono (by decide))
  have g12 : M4 12 = M1 12 := by rw [v0 12 (by decide), hF3 12 (by decide), hF2 12 (by decide)]
  have g13 : M4 13 = M1 13 := by rw [v0 13 (by decide), hF3 13 (by decide), hF2 13 (by decide)]
  have g14 : M4 14 = M1 14 := by rw [v0 14 (by decide), hF3 14 (by decide), hF2 14 (by decide)]
  have g15 : M4 15 = M1 15 := by rw [v0 15 (by decide), hF3 15 (by decide), hF2 15 (by decide)]
  have n13 : M 13 = nY d := hC.2.1.2.1.2.1
  have n14 : M 14 = nC d := hC.2.1.2.1.2.2.1
  have n15 : M 15 = nK d := hC.2.1.2.1.2.2.2
  have hok := Bt_ok hg _ _ _ _ _ hv hB
  have hsame := Bt_same hg _ _ _ _ _ hv hB v7
  have old : ∀ n, 0 ≤ n → n < nN d → M1 13 n = nY d n ∧ M1 14 n = nC d n ∧ ∀ k, 0 ≤ k → k < 3 → M1 15 (n * 3 + k) = nK d (n * 3 + k) := by
    intro n n0 n1
    have y := a13 n (Or.inl n1)
    rw [y.1, y.2, n13, n14]
    exact ⟨rfl, rfl, fun k k0 k1 => by rw [a15 _ (Or.inl (by omega)), n15]⟩
  have hN2 : NdOK g (nN d + s, M1 13, M1 14, M1 15) := by
    refine ⟨⟨show 0 ≤ nN d + s by omega, z5⟩, fun n n0 n1 => ?_⟩
    have n1 : n < nN d + s := n1
    show (0 ≤ M1 13 n ∧ M1 13 n < gT g) ∧ (M1 14 n = -1 ∨ ((0 ≤ M1 14 n ∧ M1 14 n < gN g) ∧ M1 13 n = gR g (M1 14 n) ∧ ∀ k, 0 ≤ k → k < gA g (M1 14 n) → (0 ≤ M1 15 (n * 3 + k) ∧ M1 15 (n * 3 + k) < n) ∧ M1 13 (M1 15 (n * 3 + k)) = gG g (M1 14 n * 3 + k)))
    by_cases l : n < nN d
    · have o := old n n0 l
      have y := hC.1.2.1.2 n n0 l
      rw [o.1, o.2.1]
      refine ⟨y.1, y.2.imp id (fun y => ⟨y.1, y.2.1, fun k k0 k1 => ?_⟩)⟩
      have ha := hg.a y.1.1 y.1.2
      have yy := y.2.2 k k0 k1
      rw [o.2.2 k k0 (by omega), (old _ yy.1.1 (by omega)).1]
      exact yy
    · have y := hok n (by omega) (by omega)
      refine ⟨by rw [y.2.1]; exact (hg.2.2 _ y.1.1 y.1.2).1, Or.inr ⟨y.1, y.2.1, fun k k0 k1 => ⟨⟨?_, (y.2.2 k k0 k1).1.2⟩, (y.2.2 k k0 k1).2⟩⟩⟩
      have := (y.2.2 k k0 k1).1.1
      omega
  refine k2 M4 ⟨g, (nN d + s, M1 13, M1 14, M1 15), tg, Core.nod hC hN2 ⟨show nN d ≤ nN d + s by omega, old⟩ ⟨by rw [g12]; exact a12, g13, g14, g15⟩ ⟨v2, fun n n0 n1 => ?_⟩ (fun n n0 n1 => ?_) (fun h hh => F4 h (by revert hh; revert h; decide)) (by rw [F4 43 (by decide)]) (by rw [v1 0 (by decide)]; exact e50 0 (by decide)) (by rw [v1 1 (by decide)]; exact e50 1 (by decide)) (by rw [v1 11 (by decide)]; exact e50 11 (by decide)) (by rw [v1 13 (by decide)]; exact e50 13 (by decide)), hc.up.fr F4 (by decide)⟩
  · have n1 : n < nN d + s := n1
    show M4 55 n = M1 13 n ∧ M4 54 n = nv (M1 14 n) ∧ (0 ≤ M1 14 n → ∀ k, 0 ≤ k → k < gA g (M1 14 n) → M4 56 (3 * n + k) = M1 15 (n * 3 + k))
    by_cases l : n < nN d
    · have o := old n n0 l
      have y := hC.2.2.1.2.1.2 n n0 l
      rw [o.1, o.2.1, (v5 n l).1, (v5 n l).2.1, F13 54 (by decide), F13 55 (by decide)]
      refine ⟨y.1, y.2.1, fun c0 k k0 k1 => ?_⟩
      have ha := hg.a c0 (hC.1.2.1.con n0 l c0).1
      rw [v6 _ (by omega), F13 56 (by decide), o.2.2 k k0 (by omega)]
      exact y.2.2 c0 k k0 k1
    · have y := hsame n (by omega) (by omega)
      have y2 := hok n (by omega) (by omega)
      rw [y.1, y.2.1]
      refine ⟨rfl, by unfold nv; rw [if_neg (by omega)], fun c0 k k0 k1 => ?_⟩
      rw [show 3 * n + k = n * 3 + k by omega]
      exact y.2.2 k k0 k1
  · have n1 : n < nN d + s := n1
    by_cases l : n < nN d
    · rw [(v5 n l).2.2, F13 57 (by decide)]; exact hC.2.2.1.2.2 n n0 l
    · rw [v8 n (by omega) n1, hC.1.2.2.1.2 n (by omega) (by omega)]; rfl
end
