/-! calls that change signature, nodes, bindings, rows -/
theorem Core.sig {g g2 : Sg} {d : Nd} {tg : Int → Int} {M M2 : Mem} (hC : Core g d tg M) (hg2 : SgOK g2) (hX : SgX g g2) (x : XSig g2 M2) (m : MSig g2 M2) (p : XPop g2 M2) (q : XCnt g2 M2) (e : ∀ h ∈ [12, 13, 14, 15, 16, 41, 42, 44, 54, 55, 56, 57, 58, 59], M2 h = M h) (e43 : M2 43 1 = M 43 1) (e5 : M2 50 5 = M 50 5) (e11 : M2 50 11 = M 50 11) (e13 : M2 50 13 = M 50 13) : Core g2 d tg M2 := by
  obtain ⟨h1, h2, h3, h4, h5, h6, h7⟩ := hC
  have hN2 := h1.2.1.sgx h1.1 hX
  have hT2 := TgG.sgx h1.2.1 hX (show TgG g d tg from h1.2.2)
  refine ⟨⟨hg2, hN2, hT2⟩, ⟨x, ?_, ?_⟩, ⟨m, ⟨?_, fun n n0 n1 => ?_⟩, ?_⟩, p, q, ⟨?_, ?_, ?_⟩, ?_⟩
  · unfold XNod
    rw [e 12 (by decide), e 13 (by decide), e 14 (by decide), e 15 (by decide)]
    exact h2.2.1
  · rw [e 16 (by decide)]
    exact h2.2.2
  · rw [e5]
    exact h3.2.1.1
  · rw [e 54 (by decide), e 55 (by decide), e 56 (by decide)]
    have w := h3.2.1.2 n n0 n1
    refine ⟨w.1, w.2.1, fun c0 k k0 k1 => w.2.2 c0 k k0 ?_⟩
    have := (hX.2.2 _ c0 (h1.2.1.con n0 n1 c0).1).2.1
    omega
  · unfold MTg
    rw [e 57 (by decide)]
    exact h3.2.2
  · rw [e 41 (by decide)]
    exact h6.1
  · rw [e 41 (by decide), e11]
    exact h6.2.1
  · rw [e 41 (by decide), e 42 (by decide), e 58 (by decide)]
    exact fun j j0 j1 => ⟨TgG.sgx h1.2.1 hX (h6.2.2 j j0 j1).1, (h6.2.2 j j0 j1).2⟩
  · unfold Rws
    rw [e43, e13, e 44 (by decide), e 59 (by decide)]
    exact h7
theorem Core.nod {g : Sg} {d d2 : Nd} {tg : Int → Int} {M M2 : Mem} (hC : Core g d tg M) (hN2 : NdOK g d2) (hE : Ext d d2) (x : XNod d2 M2) (m : MNod g d2 M2) (t : MTg d2 tg M2) (e : ∀ h ∈ [1, 2, 3, 4, 6, 7, 9, 10, 11, 16, 41, 42, 44, 51, 52, 53, 58, 59], M2 h = M h) (e43 : M2 43 1 = M 43 1) (e0 : M2 50 0 = M 50 0) (e1 : M2 50 1 = M 50 1) (e11 : M2 50 11 = M 50 11) (e13 : M2 50 13 = M 50 13) : Core g d2 tg M2 := by
  obtain ⟨h1, h2, h3, h4, h5, h6, h7⟩ := hC
  have hT2 := TgG.ext h1.1 h1.2.1 hN2 hE (show TgG g d tg from h1.2.2)
  refine ⟨⟨h1.1, hN2, hT2⟩, ⟨?_, x, ?_⟩, ⟨?_, m, t⟩, ?_, ?_, ⟨?_, ?_, ?_⟩, ⟨?_, ?_, ?_⟩⟩
  · unfold XSig
    rw [e 1 (by decide), e 2 (by decide), e 3 (by decide), e 4 (by decide)]
    exact h2.1
  · rw [e 16 (by decide)]
    exact h2.2.2
  · unfold MSig
    rw [e0, e1, e 51 (by decide), e 52 (by decide), e 53 (by decide)]
    exact h3.1
  · unfold XPop
    rw [e 6 (by decide), e 7 (by decide)]
    exact h4
  · unfold XCnt
    rw [e 9 (by decide), e 10 (by decide), e 11 (by decide)]
    exact h5
  · rw [e 41 (by decide)]
    exact h6.1
  · rw [e 41 (by decide), e11]
    exact h6.2.1
  · rw [e 41 (by decide), e 42 (by decide), e 58 (by decide)]
    exact fun j j0 j1 => ⟨TgG.ext h1.1 h1.2.1 hN2 hE (h6.2.2 j j0 j1).1, (h6.2.2 j j0 j1).2⟩
  · rw [e43]
    exact h7.1
  · rw [e43, e13]
    exact h7.2.1
  · rw [e43, e 44 (by decide), e 59 (by decide)]
    intro j j0 j1
    have w := h7.2.2 j j0 j1
    have w0 := h7.2.2 0 (by omega) (by omega)
    refine ⟨w.1, ⟨w.2.1.1, by have := hE.1; omega⟩, ?_⟩
    rw [(hE.2 _ w.2.1.1 w.2.1.2).1, (hE.2 _ w0.2.1.1 w0.2.1.2).1]
    exact w.2.2
theorem Core.tgs {g : Sg} {d : Nd} {tg tg2 : Int → Int} {M M2 : Mem} (hC : Core g d tg M) (hT : TgG g d tg2) (x : M2 16 = tg2) (t : MTg d tg2 M2) (s : Sav g d M2) (e : ∀ h ∈ [1, 2, 3, 4, 6, 7, 9, 10, 11, 12, 13, 14, 15, 44, 51, 52, 53, 54, 55, 56, 59], M2 h = M h) (e43 : M2 43 1 = M 43 1) (e0 : M2 50 0 = M 50 0) (e1 : M2 50 1 = M 50 1) (e5 : M2 50 5 = M 50 5) (e13 : M2 50 13 = M 50 13) : Core g d tg2 M2 := by
  obtain ⟨h1, h2, h3, h4, h5, h6, h7⟩ := hC
  refine ⟨⟨h1.1, h1.2.1, hT⟩, ⟨?_, ?_, x⟩, ⟨?_, ?_, t⟩, ?_, ?_, s, ?_⟩
  · unfold XSig
    rw [e 1 (by decide), e 2 (by decide), e 3 (by decide), e 4 (by decide)]
    exact h2.1
  · unfold XNod
    rw [e 12 (by decide), e 13 (by decide), e 14 (by decide), e 15 (by decide)]
    exact h2.2.1
  · unfold MSig
    rw [e0, e1, e 51 (by decide), e 52 (by decide), e 53 (by decide)]
    exact h3.1
  · unfold MNod
    rw [e5, e 54 (by decide), e 55 (by decide), e 56 (by decide)]
    exact h3.2.1
  · unfold XPop
    rw [e 6 (by decide), e 7 (by decide)]
    exact h4
  · unfold XCnt
    rw [e 9 (by decide), e 10 (by decide), e 11 (by decide)]
    exact h5
  · unfold Rws
    rw [e43, e13, e 44 (by decide), e 59 (by decide)]
    exact h7
section
variable {c : Nat} {M : Mem} {K : Int → Mem → Prop}
theorem op_addType (h : Inv c M) (kk : ∀ r M1, Then mX12_addType [vR 50] c r M1 → K r M1) : CI mX11_addType [vR 0] M K := by
  obtain ⟨g, d, tg, hC, hc⟩ := h
  have hI : Inv (c + 1) M := ⟨g, d, tg, hC, hc.up⟩
  obtain ⟨⟨f1, f2, f3, f4, f5, f6⟩, b1, b2, b3⟩ := hC.facts
  refine en_X11_addType ⟨by omega, fun q => kk _ _ ⟨by omega, fun K2 k2 => ?_⟩, fun q => kk _ _ ⟨by decide, fun K2 k2 => en_X12_addType ⟨by omega, fun z => by omega, fun _ => k2 M hI⟩⟩⟩
  refine en_X12_addType ?_
  have e : up M 1 0 (M 1 0 + 1) 50 = M 50 := rfl
  rw [e]
  refine ⟨by omega, fun z => ?_, fun z => by omega⟩
  rw [show M 50 0 + 1 - 1 = M 1 0 by omega]
  refine k2 _ ⟨(gT g + 1, g.2), d, tg, Core.sig hC ⟨⟨show 0 ≤ gT g + 1 by omega, show gT g + 1 ≤ 4 by omega⟩, hC.1.1.2.1, fun c c0 c1 => ?_⟩ ⟨show gT g ≤ gT g + 1 by omega, Int.le_refl _, fun c c0 c1 => ⟨rfl, rfl, fun k k0 k1 => rfl⟩⟩ ⟨?_, ?_, ?_, ?_, ?_⟩ ⟨?_, ?_, ?_⟩ ⟨?_, ?_⟩ ⟨?_, ?_, ?_⟩ ?_ rfl rfl rfl rfl, ?_⟩
  · have w := hC.1.1.2.2 c c0 c1
    refine ⟨⟨w.1.1, ?_⟩, w.2.1, fun k k0 k1 => ⟨(w.2.2 k k0 k1).1, ?_⟩⟩
    · show gR g c < gT g + 1
      omega
    · show gG g (c * 3 + k) < gT g + 1
      have := (w.2.2 k k0 k1).2
      omega
  · show M 1 0 + 1 = gT g + 1
    omega
  · exact f2
  · exact hC.2.1.1.2.2.1
  · exact hC.2.1.1.2.2.2.1
  · exact hC.2.1.1.2.2.2.2
  · show M 50 0 + 1 = gT g + 1
    omega
  · exact f4
  · exact hC.2.2.1.1.2.2
  · intro t t0 t1
    rw [Sm_T]
    exact hC.2.2.2.1.1 t t0 t1
  · intro t t0 t1
    rw [Fk_T, Vk_T]
    exact hC.2.2.2.1.2 t t0 t1
  · intro t s t0 t1 s0 s1
    rw [Cs_T]
    exact hC.2.2.2.2.1.1 t s t0 t1 s0 s1
  · intro c s c0 c1 s0 s1
    rw [Ss_T]
    exact hC.2.2.2.2.1.2.1 c s c0 c1 s0 s1
  · intro c k s c0 c1 k0 k1 s0 s1
    rw [Ws_T]
    exact hC.2.2.2.2.1.2.2 c k s c0 c1 k0 k1 s0 s1
  · intro h hh
    rw [up_ne (by intro z; subst z; revert hh; decide), up_ne (by intro z; subst z; revert hh; decide)]
  · exact hc.up.keep (fun x hx => by rw [up_ne (by intro z; subst z; revert hx; decide), up_ne (by intro z; subst z; revert hx; decide)])
theorem op_boundCount_both {g : Sg} {d : Nd} {tg : Int → Int} (hC : Core g d tg M) {K : Int → Mem → Prop} (kk : ∀ r, 0 ≤ r → r ≤ 100 → (∀ (M2 : Mem) (K2 : Int → Mem → Prop), MMR g d tg M2 → K2 r M2 → CI mX12_boundCount [vR 50] M2 K2) → K r M) : CI mX0_countBound [vR 12] M K := by
  obtain ⟨⟨f1, f2, f3, f4, f5, f6⟩, b1, b2, b3⟩ := hC.facts
  have e16 : M 16 = tg := hC.2.1.2.2
  have fin : ∀ r, 0 ≤ r → r ≤ nN d → r = (cnt (fun i => decide (0 ≤ tg i)) (nN d).toNat : Nat) → K r M := by
    intro r r0 r1 er
    refine kk r r0 (by omega) (fun M2 K2 hM k2 => ?_)
    have g5 : M2 50 5 = nN d := hM.2.1.1
    have loop : ∀ (n : Nat) (z i : Int), (nN d - i).toNat = n → 0 ≤ i → i ≤ nN d → z = (cnt (fun i => decide (0 ≤ tg i)) i.toNat : Nat) → AW mX12_boundCount 4 [some (vR 50), some (vI z), some (vI i)] [] M2 (QI K2) := by
      intro n
      induction n with
      | zero =>
        intro z i hm i0 i1 ez
        refine sg_X12_boundCount_4 ⟨by rw [g5]; omega, fun _ => ?_, fun q => by rw [g5] at q; omega⟩
        rw [ez, show i = nN d by omega, ← er]
        exact k2
      | succ n ih =>
        intro z i hm i0 i1 ez
        have e57 := hM.2.2 i i0 (by omega)
        have bt := hC.1.2.2.1.1 i i0 (by omega)
        refine sg_X12_boundCount_4 ⟨by rw [g5]; omega, fun q => by rw [g5] at q; omega, fun _ => ⟨by omega, ?_⟩⟩
        rw [e57]
        unfold nv
        have st : cnt (fun i => decide (0 ≤ tg i)) (i + 1).toNat = cnt (fun i => decide (0 ≤ tg i)) i.toNat + (if 0 ≤ tg i then 1 else 0) := by
          rw [show (i + 1).toNat = i.toNat + 1 by omega]
          simp only [cnt, decide_eq_true_eq]
          rw [show (i.toNat : Int) = i by omega]
        by_cases w : tg i < 0
        · rw [if_pos w]
          refine ⟨by decide, fun _ => ih _ (i + 1) (by omega) (by omega) (by omega) ?_, fun y => absurd (by decide) y⟩
          rw [st, if_neg (by omega), ez]
          omega
        · rw [if_neg w]
          refine ⟨by omega, fun y => absurd y w, fun _ => ih _ (i + 1) (by omega) (by omega) (by omega) ?_⟩
          rw [st, if_pos (by omega), ez]
          omega
    exact en_X12_boundCount (loop _ 0 0 rfl (by omega) (by omega) rfl)
  have loop : ∀ (n : Nat) (z i : Int), (nN d - i).toNat = n → 0 ≤ i → i ≤ nN d → z = (cnt (fun i => decide (0 ≤ tg i)) i.toNat : Nat) → AW mX0_countBound 4 [some (vR 12), some (vI z), some (vI i)] [] M (QI K) := by
    intro n
    induction n with
    | zero =>
      intro z i hm i0 i1 ez
      refine sg_X0_countBound_4 ⟨by omega, fun _ => ?_, fun q => by omega⟩
      have hle := cnt_le (p := fun i : Nat => decide (0 ≤ tg i)) i.toNat
      rw [show i = nN d by omega] at ez hle
      exact fin z (by omega) (by omega) ez
    | succ n ih =>
      intro z i hm i0 i1 ez
      have bt := hC.1.2.2.1.1 i i0 (by omega)
      have st : cnt (fun i => decide (0 ≤ tg i)) (i + 1).toNat = cnt (fun i => decide (0 ≤ tg i)) i.toNat + (if 0 ≤ tg i then 1 else 0) := by
        rw [show (i + 1).toNat = i.toNat + 1 by omega]
        simp only [cnt, decide_eq_true_eq]
        rw [show (i.toNat : Int) = i by omega]
      refine sg_X0_countBound_4 ⟨by omega, fun q => by omega, fun _ => ⟨by omega, ?_⟩⟩
      rw [e16]
      refine ⟨by omega, fun w => sg_X0_countBound_25 (ih _ (i + 1) (by omega) (by omega) (by omega) ?_), fun w => sg_X0_countBound_25 (ih _ (i + 1) (by omega) (by omega) (by omega) ?_)⟩
      · rw [st, if_neg (by omega), ez]
        omega
      · rw [st, if_pos (by omega), ez]
        omega
  exact en_X0_countBound (loop _ 0 0 rfl (by omega) (by omega) rfl)
theorem op_boundCount (h : Inv c M) (kk : ∀ r M1, Then mX12_boundCount [vR 50] c r M1 → K r M1) : CI mX11_boundCount [vR 0] M K := by
  obtain ⟨g, d, tg, hC, hc⟩ := h
  have hI : Inv (c + 1) M := ⟨g, d, tg, hC, hc.up⟩
  exact en_X11_boundCount (op_boundCount_both hC (fun r r0 r1 hr => kk r M ⟨by omega, fun K2 k2 => hr M K2 hC.2.2.1 (k2 M hI)⟩))
theorem TgG.none {g : Sg} {d : Nd} (hN : NdOK g d) {tg : Int → Int} (h : ∀ n, 0 ≤ n → n < 100 → tg n = -1) : TgG g d tg := by
  have hT : TgOK d tg := ⟨fun n n0 n1 => Or.inl (h n n0 (by have := hN.1; omega)), fun n n0 n1 => h n (by have := hN.1; omega) n1⟩
  refine ⟨hT, renorm (m := fun n => n.toNat) hN hT ⟨fun n n0 n1 n2 => ?_, fun n n0 n1 n2 k k0 k1 => ?_⟩⟩
  · have := h n n0 (by have := hN.1; omega)
    omega
  · have := (hN.kid n0 n1 n2 ⟨k0, k1⟩).1
    dsimp only
    omega
theorem op_unbindAll (h : Inv c M) (kk : ∀ r M1, Then mX12_unbindAll [vR 50] c r M1 → K r M1) : CI mX11_unbindAll [vR 0] M K := by
  obtain ⟨g, d, tg, hC, hc⟩ := h
  obtain ⟨⟨f1, f2, f3, f4, f5, f6⟩, b1, b2, b3⟩ := hC.facts
  refine en_X11_unbindAll (op_boundCount_both hC (fun r r0 r1 hr => c_fill16 (fun M1 hF hz _ => kk r M1 ⟨by omega, fun K2 k2 => en_X12_unbindAll (hr M1 _ (hC.2.2.1.fr hF (by decide)) ?_)⟩)))
  have loop : ∀ (n : Nat) (i : Int) (M2 : Mem), (nN d - i).toNat = n → 0 ≤ i → i ≤ nN d → Fr [57] M1 M2 → (∀ j, 0 ≤ j → j < i → M2 57 j = -13) → AW mX12_unbindAll 7 [some (vR 50), some (vI r), some (vI i)] [] M2 (QI K2) := by
    intro n
    induction n with
    | zero =>
      intro i M2 hm i0 i1 hF2 hj
      have e5 : M2 50 5 = nN d := by rw [hF2 50 (by decide), hF 50 (by decide)]; exact f6
      refine sg_X12_unbindAll_7 ⟨by rw [e5]; omega, fun _ => k2 M2 ⟨g, d, M2 16, Core.tgs hC (TgG.none hC.1.2.1 (fun n n0 n1 => by rw [hF2 16 (by decide)]; exact hz n n0 n1)) rfl (fun n n0 n1 => ?_) ?_ ?_ ?_ ?_ ?_ ?_ ?_, ?_⟩, fun q => by rw [e5] at q; omega⟩
      · rw [hj n n0 (by omega), hF2 16 (by decide), hz n n0 (by omega)]
        rfl
      · unfold Sav
        rw [hF2 41 (by decide), hF2 42 (by decide), hF2 50 (by decide), hF2 58 (by decide), hF 41 (by decide), hF 42 (by decide), hF 50 (by decide), hF 58 (by decide)]
        exact hC.2.2.2.2.2.1
      · intro h hh
        rw [hF2 h (by revert hh; revert h; decide), hF h (by revert hh; revert h; decide)]
      · rw [hF2 43 (by decide), hF 43 (by decide)]
      · rw [hF2 50 (by decide), hF 50 (by decide)]
      · rw [hF2 50 (by decide), hF 50 (by decide)]
      · rw [hF2 50 (by decide), hF 50 (by decide)]
      · rw [hF2 50 (by decide), hF 50 (by decide)]
      · exact (hc.up.fr hF (by decide)).fr hF2 (by decide)
    | succ n ih =>
      intro i M2 hm i0 i1 hF2 hj
      have e5 : M2 50 5 = nN d := by rw [hF2 50 (by decide), hF 50 (by decide)]; exact f6
      refine sg_X12_unbindAll_7 ⟨by rw [e5]; omega, fun q => by rw [e5] at q; omega, fun _ => ⟨by omega, ih (i + 1) _ (by omega) (by omega) (by omega) (hF2.up (by decide)) (fun j j0 j1 => ?_)⟩⟩
      by_cases w : j = i
      · rw [w, up_same]
      · rw [up_other w]; exact hj j j0 (by omega)
  exact loop _ 0 M1 rfl (by omega) (by omega) (Fr.refl _ _) (fun j j0 j1 => by omega)
theorem op_clearRows (h : Inv c M) (kk : ∀ r M1, Then mX12_clearRows [vR 50] c r M1 → K r M1) : CI mX11_clearRows [vR 0] M K := by
  obtain ⟨g, d, tg, hC, hc⟩ := h
  have hR := hC.2.2.2.2.2.2
  have b := hR.1
  refine en_X11_clearRows (kk _ _ ⟨by omega, fun K2 k2 => en_X12_clearRows ?_⟩)
  have e : up M 43 1 0 50 = M 50 := rfl
  rw [e, hR.2.1]
  have hc2 : Ctr (c + 1) (up (up M 43 1 0) 50 13 0) := hc.up
  obtain ⟨h1, h2, h3, h4, h5, h6, h7⟩ := hC
  have h7' : Rws d (up (up M 43 1 0) 50 13 0) := ⟨⟨show (0 : Int) ≤ 0 by decide, show (0 : Int) ≤ 8 by decide⟩, rfl, fun j j0 j1 => absurd (show j < 0 from j1) (by omega)⟩
  exact k2 _ ⟨g, d, tg, ⟨h1, h2, h3, h4, h5, h6, h7'⟩, hc2⟩
theorem op_addRow (h : Inv c M) {v : Int} (hv : InR v) (kk : ∀ r M1, Then mX12_addRow [vR 50, vI v] c r M1 → K r M1) : CI mX11_addRow [vR 0, vI v] M K := by
  obtain ⟨g, d, tg, hC, hc⟩ := h
  have hI : Inv (c + 1) M := ⟨g, d, tg, hC, hc.up⟩
  obtain ⟨⟨f1, f2, f3, f4, f5, f6⟩, b1, b2, b3⟩ := hC.facts
  have hR := hC.2.2.2.2.2.2
  obtain ⟨r1, r2, r3⟩ := hR
  have e13 : M 13 = nY d := hC.2.1.2.1.2.1
  refine en_X11_addRow (c_contains hv (by omega) (fun q => ⟨by decide, fun _ => ?_, fun z => absurd (by decide) z⟩) (fun q => ⟨by decide, fun z => absurd rfl z, fun _ => kk _ M ⟨by decide, fun K2 k2 => en_X12_addRow (c_isNode hv (by omega) (fun q2 => absurd (show 0 ≤ v ∧ v < M 12 1 by omega) q) (fun q2 => ⟨by decide, fun z => absurd rfl z, fun _ => k2 M hI⟩))⟩⟩))
  have e55 := (hC.2.2.1.2.1.2 v q.1 (by omega)).1
  have bv := (hC.1.2.1.2 v q.1 (by omega)).1
  -- the reference, once the type is right
  have go : ∀ K2 : Int → Mem → Prop, ∀ M1 : Mem, (M 43 1 ≤ 0 ∨ nY d v = nY d (M 44 0)) → M1 50 = M 50 → M1 59 = M 59 → M1 55 = M 55 → AW mX12_addRow 41 [some (vR 50), some (vI v)] [] M1 (QI K2) → CI mX12_addRow [vR 50, vI v] M1 K2 := by
    intro K2 M1 hty g50 g59 g55 k2
    refine en_X12_addRow (c_isNode hv (by rw [g50]; omega) (fun q2 => ⟨by decide, fun _ => ?_, fun z => absurd (by decide) z⟩) (fun q2 => absurd (show 0 ≤ v ∧ v < M1 50 5 by rw [g50]; omega) q2))
    rw [g50, g59, g55]
    refine ⟨by omega, fun _ => k2, fun z => ?_⟩
    have w0 := r3 0 (by omega) (by omega)
    have e550 := (hC.2.2.1.2.1.2 _ w0.2.1.1 w0.2.1.2).1
    have bv0 := (hC.1.2.1.2 _ w0.2.1.1 w0.2.1.2).1
    rw [w0.1, e550, e55]
    exact ⟨by omega, by omega, by omega, fun _ => k2, fun y => absurd (by omega) y⟩
  have app : (M 43 1 ≤ 0 ∨ nY d v = nY d (M 44 0)) → (InR (M 43 1) ∧ (M 43 1 < 8 → CI mX2_append [vR 43, vI v] M (fun r66 M66 => K r66 M66)) ∧ (¬ M 43 1 < 8 → K (-6) M)) := by
    intro hty
    refine ⟨by omega, fun z => en_X2_append ⟨by omega, kk _ _ ⟨by omega, fun K2 k2 => go K2 _ hty rfl rfl rfl (sg_X12_addRow_41 ?_)⟩⟩, fun z => kk _ M ⟨by decide, fun K2 k2 => go K2 M hty rfl rfl rfl (sg_X12_addRow_41 ⟨by omega, fun y => by omega, fun _ => k2 M hI⟩)⟩⟩
    have g50 : up (up M 44 (M 43 1) v) 43 1 (M 43 1 + 1) 50 = M 50 := rfl
    rw [g50, r2]
    refine ⟨by omega, fun _ => ⟨by omega, ?_⟩, fun y => by omega⟩
    rw [show M 43 1 + 1 - 1 = M 43 1 by omega]
    have hc2 : Ctr (c + 1) (up (up (up (up M 44 (M 43 1) v) 43 1 (M 43 1 + 1)) 59 (M 43 1) v) 50 13 (M 43 1 + 1)) := hc.up
    refine k2 _ ⟨g, d, tg, ?_, hc2⟩
    obtain ⟨h1, h2, h3, h4, h5, h6, h7⟩ := hC
    refine ⟨h1, h2, h3, h4, h5, h6, ⟨show 0 ≤ M 43 1 + 1 by omega, show M 43 1 + 1 ≤ 8 by omega⟩, rfl, fun j j0 j1 => ?_⟩
    have j1 : j < M 43 1 + 1 := j1
    show (if j = M 43 1 then v else M 59 j) = (if j = M 43 1 then v else M 44 j) ∧ (0 ≤ (if j = M 43 1 then v else M 44 j) ∧ (if j = M 43 1 then v else M 44 j) < nN d) ∧ nY d (if j = M 43 1 then v else M 44 j) = nY d (if 0 = M 43 1 then v else M 44 0)
    by_cases w : j = M 43 1
    · rw [if_pos w, if_pos w]
      refine ⟨rfl, by omega, ?_⟩
      by_cases w2 : 0 = M 43 1
      · rw [if_pos w2]
      · rw [if_neg w2]
        rcases hty with y | y
        · omega
        · exact y
    · have w3 := r3 j j0 (by omega)
      rw [if_neg w, if_neg w, if_neg (show ¬ 0 = M 43 1 by omega)]
      exact w3
  refine ⟨by omega, fun z => app (Or.inl z), fun z => ⟨by omega, en_X2_subjectType ?_⟩⟩
  have w0 := r3 0 (by omega) (by omega)
  have bv0 := (hC.1.2.1.2 _ w0.2.1.1 w0.2.1.2).1
  rw [e13]
  refine ⟨by omega, by omega, fun y => app (Or.inr y), fun y => kk _ M ⟨by decide, fun K2 k2 => ?_⟩⟩
  refine en_X12_addRow (c_isNode hv (by omega) (fun q2 => ⟨by decide, fun _ => ⟨by omega, fun x => by omega, fun _ => ?_⟩, fun z => absurd (by decide) z⟩) (fun q2 => absurd (show 0 ≤ v ∧ v < M 50 5 by omega) q2))
  have e550 := (hC.2.2.1.2.1.2 _ w0.2.1.1 w0.2.1.2).1
  rw [w0.1, e550, e55]
  exact ⟨by omega, by omega, by omega, fun x => absurd x.symm y, fun _ => k2 M hI⟩
end
