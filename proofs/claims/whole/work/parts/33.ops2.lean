/-! push, pop, variable, term, addConstructor -/
theorem TgG.congr {g : Sg} {d : Nd} {tg tg2 : Int → Int} (hN : NdOK g d) (h : TgG g d tg) (e : ∀ n, 0 ≤ n → n < 100 → tg2 n = tg n) : TgG g d tg2 := by
  have b := hN.1
  obtain ⟨hT, r, hG⟩ := h
  refine ⟨⟨fun n n0 n1 => ?_, fun n n0 n1 => ?_⟩, r, ⟨fun n n0 n1 n2 => ?_, hG.1.2⟩, hG.2⟩
  · rw [e n n0 (by omega)]; exact hT.1 n n0 n1
  · rw [e n (by omega) n1]; exact hT.2 n n0 n1
  · rw [e n n0 (by omega)] at n2 ⊢; exact hG.1.1 n n0 n1 n2
section
variable {c : Nat} {M : Mem} {K : Int → Mem → Prop}
theorem op_push (h : Inv c M) (kk : ∀ r M1, Then mX12_push [vR 50] c r M1 → K r M1) : CI mX11_push [vR 0] M K := by
  obtain ⟨g, d, tg, hC, hc⟩ := h
  have hI : Inv (c + 1) M := ⟨g, d, tg, hC, hc.up⟩
  obtain ⟨⟨f1, f2, f3, f4, f5, f6⟩, b1, b2, b3⟩ := hC.facts
  obtain ⟨s1, s2, s3⟩ := hC.2.2.2.2.2.1
  have e16 : M 16 = tg := hC.2.1.2.2
  refine en_X11_push ⟨by omega, fun q => en_X3_save ⟨by omega, kk _ _ ⟨show InR (M 41 0 + 1) by omega, fun K2 k2 => en_X12_push ?_⟩⟩, fun q => kk _ M ⟨by decide, fun K2 k2 => en_X12_push ⟨by omega, fun z => by omega, fun _ => k2 M hI⟩⟩⟩
  have k2 : ∀ M2, Inv (c + 1) M2 → K2 (M 41 0 + 1) M2 := k2
  generalize hM1 : up (cpy M 16 42 0 (M 41 0 * 100) 100) 41 0 (M 41 0 + 1) = M1
  have g42 : M1 42 = fun i => if M 41 0 * 100 ≤ i ∧ i < M 41 0 * 100 + 100 then M 16 (0 + (i - M 41 0 * 100)) else M 42 i := by rw [← hM1]; rfl
  have g41 : M1 41 0 = M 41 0 + 1 := by rw [← hM1]; rfl
  rw [← g41] at k2
  have gF : Fr [41, 42] M M1 := by
    intro h hh
    rw [← hM1, up_ne (fun z => hh (by rw [z]; decide))]
    unfold cpy
    rw [if_neg (fun z => hh (by rw [z]; decide))]
  have e50 : M1 50 = M 50 := gF 50 (by decide)
  have loop : ∀ (n : Nat) (i : Int) (M2 : Mem), (100 - i).toNat = n → 0 ≤ i → i ≤ 100 → Fr [58] M1 M2 → (∀ x, (x < 100 * M 41 0 ∨ 100 * M 41 0 + i ≤ x) → M2 58 x = M1 58 x) → (∀ j, 0 ≤ j → j < i → M2 58 (100 * M 41 0 + j) = nv (tg j)) → AW mX12_push 14 [some (vR 50), some (vI i)] [] M2 (QI K2) := by
    intro n
    induction n with
    | zero =>
      intro i M2 hm i0 i1 hF2 ho hj
      have e5 : M2 50 = M 50 := (hF2 50 (by decide)).trans e50
      refine sg_X12_push_14 ⟨by omega, fun _ => ?_, fun z => by omega⟩
      rw [e5, s2, ← g41]
      have F3 : Fr [41, 42, 58, 50] M (up M2 50 11 (M1 41 0)) := ((gF.mono (by decide)).trans (hF2.mono (by decide))).up (by decide)
      refine k2 _ ⟨g, d, tg, ?_, hc.up.fr F3 (by decide)⟩
      have hKs : ∀ h ∈ [1, 2, 3, 4, 6, 7, 9, 10, 11, 12, 13, 14, 15, 44, 51, 52, 53, 54, 55, 56, 59], up M2 50 11 (M1 41 0) h = M h := fun h hh => F3 h (by revert hh; revert h; decide)
      have a5 : ∀ f : Int, f ≠ 11 → up M2 50 11 (M1 41 0) 50 f = M 50 f := fun f hf => by rw [up_other hf, e5]
      refine Core.tgs hC hC.1.2.2 ?_ ?_ ⟨?_, ?_, fun j j0 j1 => ?_⟩ hKs ?_ (a5 0 (by decide)) (a5 1 (by decide)) (a5 5 (by decide)) (a5 13 (by decide))
      · rw [F3 16 (by decide)]; exact e16
      · unfold MTg
        rw [F3 57 (by decide)]
        exact hC.2.2.1.2.2
      · rw [up_ne (by decide), hF2 41 (by decide), g41]; omega
      · rw [up_same, up_ne (by decide), hF2 41 (by decide)]
      · rw [up_ne (by decide), hF2 41 (by decide), g41] at j1
        rw [up_ne (show (42 : Nat) ≠ 50 by decide), up_ne (show (58 : Nat) ≠ 50 by decide), hF2 42 (by decide), g42]
        by_cases w : j = M 41 0
        · rw [w]
          refine ⟨TgG.congr hC.1.2.1 hC.1.2.2 (fun n n0 n1 => ?_), fun n n0 n1 => ?_⟩
          · dsimp only
            rw [if_pos (by omega), e16]
            congr 1
            omega
          · rw [hj n n0 (by omega)]
            dsimp only
            rw [if_pos (by omega), e16]
            congr 2
            omega
        · have w3 := s3 j j0 (by omega)
          refine ⟨TgG.congr hC.1.2.1 w3.1 (fun n n0 n1 => ?_), fun n n0 n1 => ?_⟩
          · dsimp only
            rw [if_neg (by omega)]
          · rw [ho (100 * j + n) (by omega)]
            dsimp only
            rw [if_neg (by omega), gF 58 (by decide)]
            exact w3.2 n n0 n1
      · rw [F3 43 (by decide)]
    | succ n ih =>
      intro i M2 hm i0 i1 hF2 ho hj
      have e5 : M2 50 = M 50 := (hF2 50 (by decide)).trans e50
      have e57 : M2 57 = M 57 := (hF2 57 (by decide)).trans (gF 57 (by decide))
      have go : ∀ x, x = nv (tg i) → AW mX12_push 14 [some (vR 50), some (vI (i + 1))] [] (up M2 58 (100 * M 41 0 + i) x) (QI K2) := by
        intro x ex
        refine ih (i + 1) _ (by omega) (by omega) (by omega) (hF2.up (by decide)) (fun y hy => ?_) (fun j j0 j1 => ?_)
        · rw [up_other (by omega)]
          exact ho y (by omega)
        · by_cases w : j = i
          · rw [w, up_same, ex]
          · rw [up_other (by omega)]
            exact hj j j0 (by omega)
      refine sg_X12_push_14 ⟨by omega, fun z => by omega, fun _ => ?_⟩
      rw [e5, e57, s2]
      refine ⟨by omega, fun z => ⟨by omega, go _ ?_⟩, fun z => ⟨by omega, by omega, go _ ?_⟩⟩
      · rw [hC.1.2.2.1.2 i (by omega) (by omega)]
        rfl
      · exact hC.2.2.1.2.2 i i0 (by omega)
  rw [e50]
  exact ⟨by omega, fun _ => loop _ 0 M1 rfl (by omega) (by omega) (Fr.refl _ _) (fun x _ => rfl) (fun j j0 j1 => by omega), fun z => absurd (show M 50 11 ≠ 8 by omega) z⟩
theorem op_pop (h : Inv c M) (kk : ∀ r M1, Then mX12_pop [vR 50] c r M1 → K r M1) : CI mX11_pop [vR 0] M K := by
  obtain ⟨g, d, tg, hC, hc⟩ := h
  have hI : Inv (c + 1) M := ⟨g, d, tg, hC, hc.up⟩
  obtain ⟨⟨f1, f2, f3, f4, f5, f6⟩, b1, b2, b3⟩ := hC.facts
  obtain ⟨s1, s2, s3⟩ := hC.2.2.2.2.2.1
  refine en_X11_pop ⟨by omega, fun q => en_X3_restore ⟨by omega, kk _ _ ⟨show InR (M 41 0 - 1) by omega, fun K2 k2 => en_X12_pop ?_⟩⟩, fun q => kk _ M ⟨by decide, fun K2 k2 => en_X12_pop ⟨by omega, fun z => by omega, fun _ => k2 M hI⟩⟩⟩
  have k2 : ∀ M2, Inv (c + 1) M2 → K2 (M 41 0 - 1) M2 := k2
  generalize hM1 : cpy (up M 41 0 (M 41 0 - 1)) 42 16 ((M 41 0 - 1) * 100) 0 100 = M1
  have g16 : M1 16 = fun i => if 0 ≤ i ∧ i < 0 + 100 then M 42 ((M 41 0 - 1) * 100 + (i - 0)) else M 16 i := by rw [← hM1]; rfl
  have g41 : M1 41 0 = M 41 0 - 1 := by rw [← hM1]; rfl
  rw [← g41] at k2
  have gF : Fr [16, 41] M M1 := by
    intro h hh
    rw [← hM1]
    unfold cpy
    rw [if_neg (fun z => hh (by rw [z]; decide)), up_ne (fun z => hh (by rw [z]; decide))]
  have e50 : M1 50 = M 50 := gF 50 (by decide)
  have hTg := (s3 (M 41 0 - 1) (by omega) (by omega)).1
  have h58 := (s3 (M 41 0 - 1) (by omega) (by omega)).2
  have loop : ∀ (n : Nat) (i : Int) (M2 : Mem), (nN d - i).toNat = n → 0 ≤ i → i ≤ nN d → Fr [57] (up M1 50 11 (M1 50 11 - 1)) M2 → (∀ j, 0 ≤ j → j < i → M2 57 j = nv (M 42 ((M 41 0 - 1) * 100 + j))) → AW mX12_pop 22 [some (vR 50), some (vI i)] [] M2 (QI K2) := by
    intro n
    induction n with
    | zero =>
      intro i M2 hm i0 i1 hF2 hj
      have e5 : ∀ f : Int, f ≠ 11 → M2 50 f = M 50 f := fun f hf => by rw [hF2 50 (by decide), up_other hf, e50]
      have e511 : M2 50 11 = M 41 0 - 1 := by rw [hF2 50 (by decide), up_same, e50, s2]
      have F3 : Fr [16, 41, 50, 57] M M2 := ((gF.mono (by decide)).up (by decide)).trans (hF2.mono (by decide))
      refine sg_X12_pop_22 ⟨by rw [e5 5 (by decide), f6]; omega, fun _ => ?_, fun z => by rw [e5 5 (by decide), f6] at z; omega⟩
      rw [e511, ← g41]
      have g16' : M2 16 = M1 16 := by rw [hF2 16 (by decide), up_ne (by decide)]
      have g41' : M2 41 = M1 41 := by rw [hF2 41 (by decide), up_ne (by decide)]
      refine k2 _ ⟨g, d, M1 16, Core.tgs hC (TgG.congr hC.1.2.1 hTg (fun n n0 n1 => ?_)) g16' (fun n n0 n1 => ?_) ⟨?_, ?_, fun j j0 j1 => ?_⟩ (fun h hh => F3 h (by revert hh; revert h; decide)) ?_ (e5 0 (by decide)) (e5 1 (by decide)) (e5 5 (by decide)) (e5 13 (by decide)), hc.up.fr F3 (by decide)⟩
      · rw [g16]
        dsimp only
        rw [if_pos (by omega)]
        congr 1
        omega
      · rw [hj n n0 (by omega), g16]
        dsimp only
        rw [if_pos (by omega)]
        congr 2
        omega
      · rw [g41', g41]; omega
      · rw [e511, g41', g41]
      · rw [g41', g41] at j1
        rw [F3 42 (by decide), F3 58 (by decide)]
        exact s3 j j0 (by omega)
      · rw [F3 43 (by decide)]
    | succ n ih =>
      intro i M2 hm i0 i1 hF2 hj
      have e5 : ∀ f : Int, f ≠ 11 → M2 50 f = M 50 f := fun f hf => by rw [hF2 50 (by decide), up_other hf, e50]
      have e511 : M2 50 11 = M 41 0 - 1 := by rw [hF2 50 (by decide), up_same, e50, s2]
      have e58 : M2 58 = M 58 := by rw [hF2 58 (by decide), up_ne (by decide), gF 58 (by decide)]
      refine sg_X12_pop_22 ⟨by rw [e5 5 (by decide), f6]; omega, fun z => by rw [e5 5 (by decide), f6] at z; omega, fun _ => ?_⟩
      rw [e511, e58]
      refine ⟨by omega, by omega, ih (i + 1) _ (by omega) (by omega) (by omega) (hF2.up (by decide)) (fun j j0 j1 => ?_)⟩
      by_cases w : j = i
      · rw [w, up_same]
        exact h58 i i0 (by omega)
      · rw [up_other w]
        exact hj j j0 (by omega)
  rw [e50]
  refine ⟨by omega, fun _ => ?_, fun z => absurd (show M 50 11 ≠ 0 by omega) z⟩
  rw [← e50]
  exact loop _ 0 _ rfl (by omega) (by omega) (Fr.refl _ _) (fun j j0 j1 => by omega)
/-- a node more, on both sides -/
theorem Core.add {g : Sg} {d : Nd} {tg : Int → Int} (hC : Core g d tg M) (hn : nN d < 100) {y h a b e : Int} {f : Int → Int} {M2 : Mem}
    (hy : 0 ≤ y ∧ y < gT g) (hh : h = -1 ∨ ((0 ≤ h ∧ h < gN g) ∧ y = gR g h ∧ ∀ k, 0 ≤ k → k < gA g h → (0 ≤ f (nN d * 3 + k) ∧ f (nN d * 3 + k) < nN d) ∧ nY d (f (nN d * 3 + k)) = gG g (h * 3 + k)))
    (x1 : M2 12 1 = nN d + 1) (x2 : M2 13 = fun i => if i = nN d then y else M 13 i) (x3 : M2 14 = fun i => if i = nN d then h else M 14 i) (x4 : M2 15 = f) (x5 : ∀ i, i < nN d * 3 → f i = M 15 i)
    (m1 : M2 50 5 = nN d + 1) (m2 : M2 55 = fun i => if i = nN d then y else M 55 i) (m3 : M2 54 = fun i => if i = nN d then nv h else M 54 i) (m4 : ∀ i, i < 3 * nN d → M2 56 i = M 56 i) (m5 : 0 ≤ h → ∀ k, 0 ≤ k → k < gA g h → M2 56 (3 * nN d + k) = f (nN d * 3 + k)) (m6 : M2 57 = fun i => if i = nN d then -13 else M 57 i)
    (e0 : ∀ h ∈ [1, 2, 3, 4, 6, 7, 9, 10, 11, 16, 41, 42, 44, 51, 52, 53, 58, 59], M2 h = M h) (e43 : M2 43 1 = M 43 1) (e50 : ∀ i : Int, i ≠ 5 → M2 50 i = M 50 i) : Core g (nN d + 1, M2 13, M2 14, M2 15) tg M2 := by
  obtain ⟨⟨f1, f2, f3, f4, f5, f6⟩, b1, b2, b3⟩ := hC.facts
  have n13 : M 13 = nY d := hC.2.1.2.1.2.1
  have n14 : M 14 = nC d := hC.2.1.2.1.2.2.1
  have n15 : M 15 = nK d := hC.2.1.2.1.2.2.2
  have hN := hC.1.2.1
  have old : ∀ n, 0 ≤ n → n < nN d → M2 13 n = nY d n ∧ M2 14 n = nC d n ∧ ∀ k, 0 ≤ k → k < 3 → M2 15 (n * 3 + k) = nK d (n * 3 + k) := by
    intro n n0 n1
    rw [x2, x3, x4]
    dsimp only
    rw [if_neg (by omega), if_neg (by omega), n13, n14]
    refine ⟨rfl, rfl, fun k k0 k1 => ?_⟩
    rw [x5 _ (by omega), n15]
  have newY : M2 13 (nN d) = y := by rw [x2]; dsimp only; rw [if_pos rfl]
  have newC : M2 14 (nN d) = h := by rw [x3]; dsimp only; rw [if_pos rfl]
  have hN2 : NdOK g (nN d + 1, M2 13, M2 14, M2 15) := by
    refine ⟨⟨show 0 ≤ nN d + 1 by omega, show nN d + 1 ≤ 100 by omega⟩, fun n n0 n1 => ?_⟩
    have n1 : n < nN d + 1 := n1
    show (0 ≤ M2 13 n ∧ M2 13 n < gT g) ∧ (M2 14 n = -1 ∨ ((0 ≤ M2 14 n ∧ M2 14 n < gN g) ∧ M2 13 n = gR g (M2 14 n) ∧ ∀ k, 0 ≤ k → k < gA g (M2 14 n) → (0 ≤ M2 15 (n * 3 + k) ∧ M2 15 (n * 3 + k) < n) ∧ M2 13 (M2 15 (n * 3 + k)) = gG g (M2 14 n * 3 + k)))
    by_cases w : n = nN d
    · subst w
      rw [newY, newC, x4]
      refine ⟨hy, hh.imp id (fun z => ⟨z.1, z.2.1, fun k k0 k1 => ?_⟩)⟩
      have zz := z.2.2 k k0 k1
      refine ⟨zz.1, ?_⟩
      rw [(old _ zz.1.1 zz.1.2).1]
      exact zz.2
    · have o := old n n0 (by omega)
      have z := hN.2 n n0 (by omega)
      rw [o.1, o.2.1]
      refine ⟨z.1, z.2.imp id (fun z => ⟨z.1, z.2.1, fun k k0 k1 => ?_⟩)⟩
      have ha := hC.1.1.a z.1.1 z.1.2
      have zz := z.2.2 k k0 k1
      rw [o.2.2 k k0 (by omega), (old _ zz.1.1 (by omega)).1]
      exact zz
  refine Core.nod hC hN2 ⟨show nN d ≤ nN d + 1 by omega, fun n n0 n1 => old n n0 n1⟩ ⟨x1, rfl, rfl, rfl⟩ ⟨m1, fun n n0 n1 => ?_⟩ (fun n n0 n1 => ?_) e0 e43 (e50 0 (by decide)) (e50 1 (by decide)) (e50 11 (by decide)) (e50 13 (by decide))
  · have n1 : n < nN d + 1 := n1
    show M2 55 n = M2 13 n ∧ M2 54 n = nv (M2 14 n) ∧ (0 ≤ M2 14 n → ∀ k, 0 ≤ k → k < gA g (M2 14 n) → M2 56 (3 * n + k) = M2 15 (n * 3 + k))
    by_cases w : n = nN d
    · subst w
      rw [newY, newC, m2, m3, x4]
      dsimp only
      rw [if_pos rfl, if_pos rfl]
      exact ⟨rfl, rfl, m5⟩
    · have o := old n n0 (by omega)
      have z := hC.2.2.1.2.1.2 n n0 (by omega)
      rw [o.1, o.2.1, m2, m3]
      dsimp only
      rw [if_neg w, if_neg w]
      refine ⟨z.1, z.2.1, fun c0 k k0 k1 => ?_⟩
      have ha := hC.1.1.a c0 (hN.con n0 (by omega) c0).1
      rw [m4 _ (by omega), o.2.2 k k0 (by omega)]
      exact z.2.2 c0 k k0 k1
  · have n1 : n < nN d + 1 := n1
    rw [m6]
    dsimp only
    by_cases w : n = nN d
    · rw [if_pos w, hC.1.2.2.1.2 n (by omega) (by omega)]
      rfl
    · rw [if_neg w]
      exact hC.2.2.1.2.2 n n0 (by omega)
theorem op_variable (h : Inv c M) {v : Int} (hv : InR v) (kk : ∀ r M1, Then mX12_variable [vR 50, vI v] c r M1 → K r M1) : CI mX11_variable [vR 0, vI v] M K := by
  obtain ⟨g, d, tg, hC, hc⟩ := h
  have hI : Inv (c + 1) M := ⟨g, d, tg, hC, hc.up⟩
  obtain ⟨⟨f1, f2, f3, f4, f5, f6⟩, b1, b2, b3⟩ := hC.facts
  refine en_X11_variable (c_hasType hv (by omega) (fun q => ⟨by decide, fun _ => ?_, fun z => absurd (by decide) z⟩) (fun q => ⟨by decide, fun z => absurd rfl z, fun _ => kk _ M ⟨by decide, fun K2 k2 => en_X12_variable (c_isType hv (by omega) (fun q2 => absurd (show 0 ≤ v ∧ v < M 1 0 by omega) q) (fun q2 => ⟨by decide, fun z => absurd rfl z, fun _ => k2 M hI⟩))⟩⟩))
  refine ⟨by omega, fun z => en_X0_addVariable ⟨by omega, by omega, kk _ _ ⟨by omega, fun K2 k2 => ?_⟩⟩, fun z => kk _ M ⟨by decide, fun K2 k2 => en_X12_variable (c_isType hv (by omega) (fun q2 => ⟨by decide, fun _ => ⟨by omega, fun y => by omega, fun _ => k2 M hI⟩, fun z => absurd (by decide) z⟩) (fun q2 => absurd (show 0 ≤ v ∧ v < M 50 0 by omega) q2))⟩⟩
  generalize hM1 : up (up (up M 13 (M 12 1) v) 14 (M 12 1) (-1)) 12 1 (M 12 1 + 1) = M1
  have e50 : M1 50 = M 50 := by rw [← hM1]; rfl
  refine en_X12_variable (c_isType hv (by rw [e50]; omega) (fun q2 => ⟨by decide, fun _ => ?_, fun z => absurd (by decide) z⟩) (fun q2 => absurd (show 0 ≤ v ∧ v < M1 50 0 by rw [e50]; omega) q2))
  rw [e50]
  refine ⟨by omega, fun y => en_X12_addNode ?_, fun y => by omega⟩
  rw [e50]
  refine ⟨by omega, by omega, by omega, by omega, by omega, by omega, ?_⟩
  rw [show M 50 5 + 1 - 1 = M 12 1 by omega]
  refine k2 _ ⟨g, (nN d + 1, _, _, _), tg, Core.add hC (by omega) (y := v) (h := -1) (f := M 15) (a := 0) (b := 0) (e := 0) (by omega) (Or.inl rfl) ?_ ?_ ?_ ?_ ?_ ?_ ?_ ?_ ?_ ?_ ?_ ?_ ?_ ?_, ?_⟩
  · rw [← f5, ← hM1]; rfl
  · rw [← f5, ← hM1]; rfl
  · rw [← f5, ← hM1]; rfl
  · rw [← hM1]; rfl
  · intro i _; rfl
  · rw [← f6]; rfl
  · rw [← f6, ← hM1]; rfl
  · rw [← f6, ← hM1]; rfl
  · intro i hi
    rw [up_ne (by decide), up_ne (by decide), up_other (by omega), up_other (by omega), up_other (by omega), ← hM1]
    rfl
  · intro z; omega
  · rw [← f6, ← hM1]; rfl
  · intro h hh
    rw [← hM1]
    simp only [List.mem_cons, List.not_mem_nil, or_false] at hh
    rcases hh with z | z | z | z | z | z | z | z | z | z | z | z | z | z | z | z | z | z <;> subst z <;> rfl
  · rw [← hM1]; rfl
  · intro i hi
    rw [up_other hi, ← e50]
    rfl
  · exact hc.up.keep (fun x hx => by
      rw [← hM1]
      simp only [List.mem_cons, List.not_mem_nil, or_false] at hx
      rcases hx with z | z | z | z | z | z <;> subst z <;> rfl)
end
