/-! term, addConstructor -/
section
variable {c : Nat} {M : Mem} {K : Int → Mem → Prop}
theorem c_wrongChild {g : Sg} {d : Nd} {tg : Int → Int} (hS : StOK g d tg) (hM : MMR g d tg M) {cc k n : Int} (hc : 0 ≤ cc ∧ cc < gN g) (hk : 0 ≤ k ∧ k < 3) (hn : InR n) (kk : ∀ x, (k < gA g cc → ¬ (0 ≤ n ∧ n < nN d) → x = -3) → (k < gA g cc → 0 ≤ n ∧ n < nN d → nY d n ≠ gG g (cc * 3 + k) → x = -5) → ((k < gA g cc → (0 ≤ n ∧ n < nN d) ∧ nY d n = gG g (cc * 3 + k)) → x = 0) → K x M) : CI mX12_wrongChild [vR 50, vI cc, vI k, vI n] M K := by
  have b2 := hS.1.2.1
  have b1 := hS.1.1
  have b3 := hS.2.1.1
  have f6 : M 50 5 = nN d := hM.2.1.1
  have ha := hS.1.a hc.1 hc.2
  have e52 := (hM.1.2.2 cc hc.1 hc.2).2.1
  refine en_X12_wrongChild ?_
  rw [e52]
  refine ⟨by omega, by omega, fun z => c_isNode hn (by omega) (fun q => ⟨by decide, fun y => absurd y (by decide), fun _ => ?_⟩) (fun q => ⟨by decide, fun _ => kk _ (fun _ _ => rfl) (fun _ y => absurd (show 0 ≤ n ∧ n < M 50 5 by omega) q) (fun y => absurd (show 0 ≤ n ∧ n < M 50 5 by have := (y z).1; omega) q), fun y => absurd rfl y⟩), fun z => kk _ (fun y => absurd y z) (fun y => absurd y z) (fun _ => rfl)⟩
  have e53 := (hM.1.2.2 cc hc.1 hc.2).2.2 k hk.1 z
  have e55 := (hM.2.1.2 n q.1 (by omega)).1
  have bv := (hS.2.1.2 n q.1 (by omega)).1
  have hgg := hS.1.g hc.1 hc.2 hk.1 z
  rw [e53, e55]
  exact ⟨by omega, by omega, by omega, fun y => kk _ (fun _ w => absurd (show 0 ≤ n ∧ n < nN d by omega) w) (fun _ _ _ => rfl) (fun w => absurd (w z).2 y), fun y => kk _ (fun _ w => absurd (show 0 ≤ n ∧ n < nN d by omega) w) (fun _ _ w => absurd w y) (fun _ => rfl)⟩
/-- argument k is a node; has the type -/
def Ag (g : Sg) (d : Nd) (cc k n : Int) : Prop := k < gA g cc → 0 ≤ n ∧ n < nN d
def At (g : Sg) (d : Nd) (cc k n : Int) : Prop := k < gA g cc → nY d n = gG g (cc * 3 + k)
theorem op_term (h : Inv c M) {v a b e : Int} (hv : InR v) (ha : InR a) (hb : InR b) (he : InR e) (kk : ∀ r M1, Then mX12_term [vR 50, vI v, vI a, vI b, vI e] c r M1 → K r M1) : CI mX11_term [vR 0, vI v, vI a, vI b, vI e] M K := by
  obtain ⟨g, d, tg, hC, hc⟩ := h
  have hI : Inv (c + 1) M := ⟨g, d, tg, hC, hc.up⟩
  obtain ⟨⟨f1, f2, f3, f4, f5, f6⟩, b1, b2, b3⟩ := hC.facts
  refine en_X11_term (c_hasConstructor hv (by omega) (fun q => ⟨by decide, fun _ => ⟨by omega, ?_⟩, fun z => absurd (by decide) z⟩) (fun q => ⟨by decide, fun z => absurd rfl z, fun _ => kk _ M ⟨by decide, fun K2 k2 => en_X12_term (c_isConstructor hv (by omega) (fun q2 => absurd (show 0 ≤ v ∧ v < M 1 1 by omega) q) (fun q2 => ⟨by decide, fun z => absurd rfl z, fun _ => k2 M hI⟩))⟩⟩))
  have q : 0 ≤ v ∧ v < gN g := by omega
  have e3 : M 3 v = gA g v := by rw [hC.2.1.1.2.2.2.1]
  have hA := hC.1.1.a q.1 q.2
  have e13 : M 13 = nY d := hC.2.1.2.1.2.1
  have e4 : M 4 = gG g := hC.2.1.1.2.2.2.2
  rw [e3]
  -- the reference: refusals
  have ref : ∀ (M1 : Mem) (K2 : Int → Mem → Prop), MMR g d tg M1 → (¬ (Ag g d v 0 a ∧ Ag g d v 1 b ∧ Ag g d v 2 e) → K2 (-3) M1) → ((Ag g d v 0 a ∧ Ag g d v 1 b ∧ Ag g d v 2 e) → ¬ (At g d v 0 a ∧ At g d v 1 b ∧ At g d v 2 e) → K2 (-5) M1) → ((Ag g d v 0 a ∧ Ag g d v 1 b ∧ Ag g d v 2 e) → (At g d v 0 a ∧ At g d v 1 b ∧ At g d v 2 e) → nN d = 100 → K2 (-6) M1) → ((Ag g d v 0 a ∧ Ag g d v 1 b ∧ Ag g d v 2 e) → (At g d v 0 a ∧ At g d v 1 b ∧ At g d v 2 e) → nN d ≠ 100 → CI mX12_addNode [vR 50, vI v, vI (gR g v), vI a, vI b, vI e] M1 K2) → CI mX12_term [vR 50, vI v, vI a, vI b, vI e] M1 K2 := by
    intro M1 K2 hM n3 n5 n6 ok
    have g4 := hM.1.2.1
    have g5 : M1 50 5 = nN d := hM.2.1.1
    have g51 := (hM.1.2.2 v q.1 q.2).1
    refine en_X12_term (c_isConstructor hv (by omega) (fun q2 => ⟨by decide, fun _ => ?_, fun z => absurd (by decide) z⟩) (fun q2 => absurd (show 0 ≤ v ∧ v < M1 50 1 by omega) q2))
    refine c_wrongChild hC.1 hM q (by omega) ha (fun x x1 x2 x3 => c_wrongChild hC.1 hM q (by omega) hb (fun y y1 y2 y3 => c_wrongChild hC.1 hM q (by omega) he (fun z z1 z2 z3 => ?_)))
    have tri : ∀ {k n w : Int}, (k < gA g v → ¬ (0 ≤ n ∧ n < nN d) → w = -3) → (k < gA g v → 0 ≤ n ∧ n < nN d → nY d n ≠ gG g (v * 3 + k) → w = -5) → ((k < gA g v → (0 ≤ n ∧ n < nN d) ∧ nY d n = gG g (v * 3 + k)) → w = 0) → (w = -3 ∧ ¬ Ag g d v k n) ∨ (w = -5 ∧ Ag g d v k n ∧ ¬ At g d v k n) ∨ (w = 0 ∧ Ag g d v k n ∧ At g d v k n) := by
      intro k n w w1 w2 w3
      by_cases i : k < gA g v
      · by_cases j : 0 ≤ n ∧ n < nN d
        · by_cases l : nY d n = gG g (v * 3 + k)
          · exact Or.inr (Or.inr ⟨w3 (fun _ => ⟨j, l⟩), fun _ => j, fun _ => l⟩)
          · exact Or.inr (Or.inl ⟨w2 i j l, fun _ => j, fun u => l (u i)⟩)
        · exact Or.inl ⟨w1 i j, fun u => j (u i)⟩
      · exact Or.inr (Or.inr ⟨w3 (fun u => absurd u i), fun u => absurd u i, fun u => absurd u i⟩)
    have tx := tri x1 x2 x3
    have ty := tri y1 y2 y3
    have tz := tri z1 z2 z3
    clear x1 x2 x3 y1 y2 y3 z1 z2 z3 tri
    have bx : InR x := by rcases tx with ⟨u, _⟩ | ⟨u, _⟩ | ⟨u, _⟩ <;> rw [u] <;> decide
    have bY : InR y := by rcases ty with ⟨u, _⟩ | ⟨u, _⟩ | ⟨u, _⟩ <;> rw [u] <;> decide
    have bz : InR z := by rcases tz with ⟨u, _⟩ | ⟨u, _⟩ | ⟨u, _⟩ <;> rw [u] <;> decide
    rcases tx with ⟨u, nx⟩ | ⟨u, ax, nx⟩ | ⟨u, ax, sx⟩
    · subst u
      exact ⟨by decide, fun _ => n3 (fun w => nx w.1), fun w => absurd rfl w⟩
    · subst u
      refine ⟨by decide, fun w => absurd w (by decide), fun _ => ⟨bY, fun w => n3 (fun o => ?_), fun w => ⟨bz, fun w2 => ⟨by decide, fun _ => n5 ⟨ax, ?_, ?_⟩ (fun o => nx o.1), fun w3 => absurd (by decide) w3⟩, fun w2 => n3 (fun o => ?_)⟩⟩⟩
      · rcases ty with ⟨u, ny⟩ | ⟨u, _⟩ | ⟨u, _⟩
        · exact ny o.2.1
        · rw [u] at w; exact absurd w (by decide)
        · rw [u] at w; exact absurd w (by decide)
      · rcases ty with ⟨u, ny⟩ | ⟨u, ay, _⟩ | ⟨u, ay, _⟩
        · exact absurd u w
        · exact ay
        · exact ay
      · rcases tz with ⟨u, ny⟩ | ⟨u, ay, _⟩ | ⟨u, ay, _⟩
        · exact absurd u w2
        · exact ay
        · exact ay
      · rcases tz with ⟨u, ny⟩ | ⟨u, ay, _⟩ | ⟨u, ay, _⟩
        · exact ny o.2.2
        · rw [u] at w2; exact absurd (by decide) w2
        · rw [u] at w2; exact absurd (by decide) w2
    · subst u
      refine ⟨by decide, fun w => absurd w (by decide), fun _ => ?_⟩
      rcases ty with ⟨u, ny⟩ | ⟨u, ay, ny⟩ | ⟨u, ay, sy⟩
      · subst u
        exact ⟨by decide, fun _ => n3 (fun w => ny w.2.1), fun w => absurd rfl w⟩
      · subst u
        refine ⟨by decide, fun w => absurd w (by decide), fun _ => ⟨bz, fun w2 => ⟨by decide, fun w => absurd rfl w, fun _ => ⟨by decide, fun _ => n5 ⟨ax, ay, ?_⟩ (fun o => ny o.2.1), fun w3 => absurd (by decide) w3⟩⟩, fun w2 => n3 (fun o => ?_)⟩⟩
        · rcases tz with ⟨u, ny⟩ | ⟨u, ay, _⟩ | ⟨u, ay, _⟩
          · exact absurd u w2
          · exact ay
          · exact ay
        · rcases tz with ⟨u, ny⟩ | ⟨u, ay, _⟩ | ⟨u, ay, _⟩
          · exact ny o.2.2
          · rw [u] at w2; exact absurd (by decide) w2
          · rw [u] at w2; exact absurd (by decide) w2
      · subst u
        refine ⟨by decide, fun w => absurd w (by decide), fun _ => ?_⟩
        rcases tz with ⟨u, nz⟩ | ⟨u, az, nz⟩ | ⟨u, az, sz⟩
        · subst u
          exact ⟨by decide, fun w => absurd rfl w, fun _ => n3 (fun w => nz w.2.2)⟩
        · subst u
          exact ⟨by decide, fun _ => ⟨by decide, fun w => absurd rfl w, fun _ => ⟨by decide, fun w => absurd rfl w, fun _ => ⟨by decide, fun w => absurd w (by decide), fun _ => n5 ⟨ax, ay, az⟩ (fun o => nz o.2.2)⟩⟩⟩, fun w => absurd (by decide) w⟩
        · subst u
          refine ⟨by decide, fun _ => ⟨by decide, fun w => absurd rfl w, fun _ => ⟨by decide, fun w => absurd rfl w, fun _ => ⟨by decide, fun _ => ?_, fun w => absurd rfl w⟩⟩⟩, fun w => absurd (by decide) w⟩
          rw [g5, g51]
          exact ⟨by omega, fun w => ⟨by omega, ok ⟨ax, ay, az⟩ ⟨sx, sy, sz⟩ w⟩, fun w => n6 ⟨ax, ay, az⟩ ⟨sx, sy, sz⟩ (Decidable.not_not.mp w)⟩
  have no3 : ¬ (Ag g d v 0 a ∧ Ag g d v 1 b ∧ Ag g d v 2 e) → K (-3) M := fun nq => kk _ M ⟨by decide, fun K2 k2 => ref M K2 hC.2.2.1 (fun _ => k2 M hI) (fun z => absurd z nq) (fun z => absurd z nq) (fun z => absurd z nq)⟩
  have no5 : (Ag g d v 0 a ∧ Ag g d v 1 b ∧ Ag g d v 2 e) → ¬ (At g d v 0 a ∧ At g d v 1 b ∧ At g d v 2 e) → K (-5) M := fun o nq => kk _ M ⟨by decide, fun K2 k2 => ref M K2 hC.2.2.1 (fun z => absurd o z) (fun _ _ => k2 M hI) (fun _ z => absurd z nq) (fun _ z => absurd z nq)⟩
  have fin : (Ag g d v 0 a ∧ Ag g d v 1 b ∧ Ag g d v 2 e) → (At g d v 0 a ∧ At g d v 1 b ∧ At g d v 2 e) → AW mX11_term 163 [some (vR 0), some (vI v), some (vI a), some (vI b), some (vI e), some (vI (gA g v))] [] M (QI K) := by
    intro o t
    refine sg_X11_term_163 ⟨by omega, fun z => en_X0_addConstructed (en_X0_fill ⟨by omega, by omega, by omega, ?_⟩), fun z => kk _ M ⟨by decide, fun K2 k2 => ref M K2 hC.2.2.1 (fun z => absurd o z) (fun _ z => absurd t z) (fun _ _ _ => k2 M hI) (fun _ _ y => by omega)⟩⟩
    have e12 : up (up M 13 (M 12 1) (M 2 v)) 14 (M 12 1) v 12 1 = M 12 1 := rfl
    rw [e12]
    refine ⟨by omega, by omega, by omega, kk _ _ ⟨by omega, fun K2 k2 => ?_⟩⟩
    generalize hM1 : up (up (up (up (up (up M 13 (M 12 1) (M 2 v)) 14 (M 12 1) v) 15 (M 12 1 * 3) a) 15 (M 12 1 * 3 + 1) b) 15 (M 12 1 * 3 + 2) e) 12 1 (M 12 1 + 1) = M1
    have gF : Fr [12, 13, 14, 15] M M1 := by
      rw [← hM1]
      exact (((((((Fr.refl _ M).up (by decide)).up (by decide)).up (by decide)).up (by decide)).up (by decide)).up (by decide))
    have e50 : M1 50 = M 50 := gF 50 (by decide)
    have e2 : M 2 = gR g := hC.2.1.1.2.2.1
    refine ref M1 K2 (hC.2.2.1.fr gF (by decide)) (fun z => absurd o z) (fun _ z => absurd t z) (fun _ _ y => by omega) (fun _ _ _ => en_X12_addNode ?_)
    rw [e50, f6]
    refine ⟨by omega, by omega, by omega, by omega, by omega, by omega, ?_⟩
    rw [show nN d + 1 - 1 = M 12 1 by omega]
    have g15 : M1 15 = fun i => if i = nN d * 3 + 2 then e else if i = nN d * 3 + 1 then b else if i = nN d * 3 then a else M 15 i := by rw [← hM1, f5]; rfl
    have hR := hC.1.1.r q.1 q.2
    have fK : ∀ k, 0 ≤ k → k < gA g v → M1 15 (nN d * 3 + k) = if k = 2 then e else if k = 1 then b else a := by
      intro k k0 k1
      rw [g15]
      dsimp only
      by_cases w2 : k = 2
      · rw [if_pos (by omega), if_pos w2]
      · rw [if_neg (by omega), if_neg w2]
        by_cases w1 : k = 1
        · rw [if_pos (by omega), if_pos w1]
        · rw [if_neg (by omega), if_neg w1, if_pos (by omega)]
    refine k2 _ ⟨g, (nN d + 1, _, _, _), tg, Core.add hC (by omega) (y := gR g v) (h := v) (f := M1 15) (a := 0) (b := 0) (e := 0) ?_ (Or.inr ⟨q, rfl, fun k k0 k1 => ?_⟩) ?_ ?_ ?_ ?_ ?_ ?_ ?_ ?_ ?_ ?_ ?_ ?_ ?_ ?_, ?_⟩
    · exact (hC.1.1.2.2 v q.1 q.2).1
    · rw [fK k k0 k1]
      by_cases w2 : k = 2
      · rw [if_pos w2, w2]
        rw [w2] at k1
        exact ⟨o.2.2 k1, t.2.2 k1⟩
      · rw [if_neg w2]
        by_cases w1 : k = 1
        · rw [if_pos w1, w1]
          rw [w1] at k1
          exact ⟨o.2.1 k1, t.2.1 k1⟩
        · have w0 : k = 0 := by omega
          rw [if_neg w1, w0]
          rw [w0] at k1
          exact ⟨o.1 k1, t.1 k1⟩
    · rw [← f5, ← hM1]; rfl
    · rw [← f5, ← hM1, ← e2]; rfl
    · rw [← f5, ← hM1]; rfl
    · rfl
    · intro i hi
      rw [g15]
      dsimp only
      rw [if_neg (by omega), if_neg (by omega), if_neg (by omega)]
    · rfl
    · rw [← gF 55 (by decide)]; rfl
    · rw [← gF 54 (by decide), show nv v = v by unfold nv; rw [if_neg (by omega)]]; rfl
    · intro i hi
      rw [up_ne (by decide), up_ne (by decide), up_other (by omega), up_other (by omega), up_other (by omega), ← gF 56 (by decide)]
      rfl
    · intro _ k k0 k1
      rw [fK k k0 k1, up_ne (by decide), up_ne (by decide)]
      by_cases w2 : k = 2
      · rw [if_pos w2, w2, up_same]
      · rw [if_neg w2, up_other (by omega)]
        by_cases w1 : k = 1
        · rw [if_pos w1, w1, up_same]
        · have w0 : k = 0 := by omega
          rw [if_neg w1, w0, up_other (by omega), show 3 * nN d + 0 = 3 * nN d by omega, up_same]
    · rw [← gF 57 (by decide)]; rfl
    · intro h hh
      rw [← gF h (by revert hh; revert h; decide)]
      simp only [List.mem_cons, List.not_mem_nil, or_false] at hh
      rcases hh with z | z | z | z | z | z | z | z | z | z | z | z | z | z | z | z | z | z <;> subst z <;> rfl
    · rw [← gF 43 (by decide)]; rfl
    · intro i hi
      rw [up_other hi, ← e50]
      rfl
    · exact (hc.up.fr gF (by decide)).keep (fun x hx => by
        simp only [List.mem_cons, List.not_mem_nil, or_false] at hx
        rcases hx with z | z | z | z | z | z <;> subst z <;> rfl)
  -- the class: nodes there, then types
  have ty2 : (Ag g d v 0 a ∧ Ag g d v 1 b ∧ Ag g d v 2 e) → At g d v 0 a → At g d v 1 b → AW mX11_term 132 [some (vR 0), some (vI v), some (vI a), some (vI b), some (vI e), some (vI (gA g v))] [] M (QI K) := by
    intro o t0 t1
    refine sg_X11_term_132 ⟨by omega, fun z => fin o ⟨t0, t1, fun y => by omega⟩, fun z => ?_⟩
    have oe := o.2.2 (by omega)
    have bv := (hC.1.2.1.2 e oe.1 oe.2).1
    have hgg := hC.1.1.g q.1 q.2 (show (0 : Int) ≤ 2 by decide) (by omega)
    refine ⟨by omega, c_typeOfArgument (by omega) (by omega) ?_⟩
    rw [e13, e4]
    exact ⟨by omega, fun w => fin o ⟨t0, t1, fun _ => w⟩, fun w => no5 o (fun y => w (y.2.2 (by omega)))⟩
  have ty1 : (Ag g d v 0 a ∧ Ag g d v 1 b ∧ Ag g d v 2 e) → At g d v 0 a → AW mX11_term 105 [some (vR 0), some (vI v), some (vI a), some (vI b), some (vI e), some (vI (gA g v))] [] M (QI K) := by
    intro o t0
    refine sg_X11_term_105 ⟨by omega, fun z => ty2 o t0 (fun y => by omega), fun z => ?_⟩
    have oe := o.2.1 (by omega)
    have bv := (hC.1.2.1.2 b oe.1 oe.2).1
    have hgg := hC.1.1.g q.1 q.2 (show (0 : Int) ≤ 1 by decide) (by omega)
    refine ⟨by omega, c_typeOfArgument (by omega) (by omega) ?_⟩
    rw [e13, e4]
    exact ⟨by omega, fun w => no5 o (fun y => w (y.2.1 (by omega))), fun w => ty2 o t0 (fun _ => Decidable.not_not.mp w)⟩
  have ty0 : (Ag g d v 0 a ∧ Ag g d v 1 b ∧ Ag g d v 2 e) → AW mX11_term 79 [some (vR 0), some (vI v), some (vI a), some (vI b), some (vI e), some (vI (gA g v))] [] M (QI K) := by
    intro o
    refine sg_X11_term_79 ⟨by omega, fun z => ty1 o (fun y => by omega), fun z => ?_⟩
    have oe := o.1 (by omega)
    have bv := (hC.1.2.1.2 a oe.1 oe.2).1
    have hgg := hC.1.1.g q.1 q.2 (show (0 : Int) ≤ 0 by decide) (by omega)
    refine ⟨by omega, c_typeOfArgument (by omega) (by omega) ?_⟩
    rw [e13, e4]
    exact ⟨by omega, fun w => no5 o (fun y => w (y.1 (by omega))), fun w => ty1 o (fun _ => Decidable.not_not.mp w)⟩
  have nd2 : Ag g d v 0 a → Ag g d v 1 b → AW mX11_term 58 [some (vR 0), some (vI v), some (vI a), some (vI b), some (vI e), some (vI (gA g v))] [] M (QI K) := by
    intro o0 o1
    refine sg_X11_term_58 ⟨by omega, fun z => ty0 ⟨o0, o1, fun y => by omega⟩, fun z => c_contains he (by omega) (fun w => ⟨by decide, fun _ => ty0 ⟨o0, o1, fun _ => by omega⟩, fun y => absurd (by decide) y⟩) (fun w => ⟨by decide, fun y => absurd rfl y, fun _ => no3 (fun y => w (by have := y.2.2 (by omega); omega))⟩)⟩
  have nd1 : Ag g d v 0 a → AW mX11_term 41 [some (vR 0), some (vI v), some (vI a), some (vI b), some (vI e), some (vI (gA g v))] [] M (QI K) := by
    intro o0
    refine sg_X11_term_41 ⟨by omega, fun z => nd2 o0 (fun y => by omega), fun z => c_contains hb (by omega) (fun w => ⟨by decide, fun y => absurd y (by decide), fun _ => nd2 o0 (fun _ => by omega)⟩) (fun w => ⟨by decide, fun _ => no3 (fun y => w (by have := y.2.1 (by omega); omega)), fun y => absurd rfl y⟩)⟩
  exact ⟨by omega, fun z => nd1 (fun y => by omega), fun z => c_contains ha (by omega) (fun w => ⟨by decide, fun y => absurd y (by decide), fun _ => nd1 (fun _ => by omega)⟩) (fun w => ⟨by decide, fun _ => no3 (fun y => w (by have := y.1 (by omega); omega)), fun y => absurd rfl y⟩)⟩
theorem op_addConstructor (h : Inv c M) {t n a b e : Int} (ht : InR t) (hn : InR n) (ha : InR a) (hb : InR b) (he : InR e) (kk : ∀ r M1, Then mX12_addConstructor [vR 50, vI t, vI n, vI a, vI b, vI e] c r M1 → K r M1) : CI mX11_addConstructor [vR 0, vI t, vI n, vI a, vI b, vI e] M K := by
  obtain ⟨g, d, tg, hC, hc⟩ := h
  have hI : Inv (c + 1) M := ⟨g, d, tg, hC, hc.up⟩
  obtain ⟨⟨f1, f2, f3, f4, f5, f6⟩, b1, b2, b3⟩ := hC.facts
  -- the reference
  have ref : ∀ (M1 : Mem) (K2 : Int → Mem → Prop), M1 50 = M 50 → (¬ (0 ≤ n ∧ n ≤ 3) → K2 (-4) M1) → (0 ≤ n ∧ n ≤ 3 → ¬ ((0 ≤ t ∧ t < gT g) ∧ (0 < n → 0 ≤ a ∧ a < gT g) ∧ (1 < n → 0 ≤ b ∧ b < gT g) ∧ (2 < n → 0 ≤ e ∧ e < gT g)) → K2 (-1) M1) → (0 ≤ n ∧ n ≤ 3 → ((0 ≤ t ∧ t < gT g) ∧ (0 < n → 0 ≤ a ∧ a < gT g) ∧ (1 < n → 0 ≤ b ∧ b < gT g) ∧ (2 < n → 0 ≤ e ∧ e < gT g)) → AW mX12_addConstructor 62 [some (vR 50), some (vI t), some (vI n), some (vI a), some (vI b), some (vI e)] [] M1 (QI K2)) → CI mX12_addConstructor [vR 50, vI t, vI n, vI a, vI b, vI e] M1 K2 := by
    intro M1 K2 e50 n4 n1 ok
    have g3 : M1 50 0 = gT g := by rw [e50]; exact f3
    refine en_X12_addConstructor (c_in hn (by decide) (by decide) (fun q => ⟨by decide, fun _ => ?_, fun z => absurd (by decide) z⟩) (fun q => ⟨by decide, fun z => absurd rfl z, fun _ => n4 q⟩))
    refine c_isType ht (by omega) (fun z => ⟨by decide, fun y => absurd y (by decide), fun _ => ?_⟩) (fun z => ⟨by decide, fun _ => n1 q (fun y => z (by omega)), fun y => absurd rfl y⟩)
    have s3 : (0 < n → 0 ≤ a ∧ a < gT g) → (1 < n → 0 ≤ b ∧ b < gT g) → AW mX12_addConstructor 46 [some (vR 50), some (vI t), some (vI n), some (vI a), some (vI b), some (vI e)] [] M1 (QI K2) := fun oa ob => sg_X12_addConstructor_46 ⟨hn, fun w => ok q ⟨by omega, oa, ob, fun y => by omega⟩, fun w => c_isType he (by omega) (fun x => ⟨by decide, fun _ => ok q ⟨by omega, oa, ob, fun _ => by omega⟩, fun y => absurd (by decide) y⟩) (fun x => ⟨by decide, fun y => absurd rfl y, fun _ => n1 q (fun y => x (by have := y.2.2.2 (by omega); omega))⟩)⟩
    have s2 : (0 < n → 0 ≤ a ∧ a < gT g) → AW mX12_addConstructor 32 [some (vR 50), some (vI t), some (vI n), some (vI a), some (vI b), some (vI e)] [] M1 (QI K2) := fun oa => sg_X12_addConstructor_32 ⟨hn, fun w => s3 oa (fun y => by omega), fun w => c_isType hb (by omega) (fun x => ⟨by decide, fun y => absurd y (by decide), fun _ => s3 oa (fun _ => by omega)⟩) (fun x => ⟨by decide, fun _ => n1 q (fun y => x (by have := y.2.2.1 (by omega); omega)), fun y => absurd rfl y⟩)⟩
    exact ⟨hn, fun w => s2 (fun y => by omega), fun w => c_isType ha (by omega) (fun x => ⟨by decide, fun y => absurd y (by decide), fun _ => s2 (fun _ => by omega)⟩) (fun x => ⟨by decide, fun _ => n1 q (fun y => x (by have := y.2.1 (by omega); omega)), fun y => absurd rfl y⟩)⟩
  have no4 : ¬ (0 ≤ n ∧ n ≤ 3) → K (-4) M := fun nq => kk _ M ⟨by decide, fun K2 k2 => ref M K2 rfl (fun _ => k2 M hI) (fun z => absurd z nq) (fun z => absurd z nq)⟩
  have no1 : 0 ≤ n ∧ n ≤ 3 → ¬ ((0 ≤ t ∧ t < gT g) ∧ (0 < n → 0 ≤ a ∧ a < gT g) ∧ (1 < n → 0 ≤ b ∧ b < gT g) ∧ (2 < n → 0 ≤ e ∧ e < gT g)) → K (-1) M := fun o nq => kk _ M ⟨by decide, fun K2 k2 => ref M K2 rfl (fun z => absurd o z) (fun _ _ => k2 M hI) (fun _ z => absurd z nq)⟩
  have fin : 0 ≤ n ∧ n ≤ 3 → ((0 ≤ t ∧ t < gT g) ∧ (0 < n → 0 ≤ a ∧ a < gT g) ∧ (1 < n → 0 ≤ b ∧ b < gT g) ∧ (2 < n → 0 ≤ e ∧ e < gT g)) → AW mX11_addConstructor 74 [some (vR 0), some (vI t), some (vI n), some (vI a), some (vI b), some (vI e), none] [] M (QI K) := by
    intro o t0
    refine sg_X11_addConstructor_74 ⟨by omega, fun z => en_X4_define ⟨by omega, by omega, by omega, by omega, by omega, ?_⟩, fun z => kk _ M ⟨by decide, fun K2 k2 => ref M K2 rfl (fun z => absurd o z) (fun _ z => absurd t0 z) (fun _ _ => sg_X12_addConstructor_62 ⟨by omega, fun y => by omega, fun _ => k2 M hI⟩)⟩⟩
    generalize hM1 : up (up (up (up (up (up M 2 (M 1 1) t) 3 (M 1 1) n) 4 (M 1 1 * 3) a) 4 (M 1 1 * 3 + 1) b) 4 (M 1 1 * 3 + 2) e) 1 1 (M 1 1 + 1) = M1
    have gF : Fr [1, 2, 3, 4] M M1 := by
      rw [← hM1]
      exact (((((((Fr.refl _ M).up (by decide)).up (by decide)).up (by decide)).up (by decide)).up (by decide)).up (by decide))
    have g10 : M1 1 0 = gT g := by rw [← f1, ← hM1]; rfl
    have g11 : M1 1 1 = gN g + 1 := by rw [← f2, ← hM1]; rfl
    have g2 : M1 2 = fun i => if i = gN g then t else gR g i := by rw [← hM1, f2, ← hC.2.1.1.2.2.1]; rfl
    have g3 : M1 3 = fun i => if i = gN g then n else gA g i := by rw [← hM1, f2, ← hC.2.1.1.2.2.2.1]; rfl
    have g4 : M1 4 = fun i => if i = gN g * 3 + 2 then e else if i = gN g * 3 + 1 then b else if i = gN g * 3 then a else gG g i := by rw [← hM1, f2, ← hC.2.1.1.2.2.2.2]; rfl
    let g' : Sg := (gT g, gN g + 1, M1 2, M1 3, M1 4)
    have oldc : ∀ i, 0 ≤ i → i < gN g → gR g' i = gR g i ∧ gA g' i = gA g i ∧ ∀ k, 0 ≤ k → k < 3 → gG g' (i * 3 + k) = gG g (i * 3 + k) := by
      intro i i0 i1
      show M1 2 i = gR g i ∧ M1 3 i = gA g i ∧ ∀ k, 0 ≤ k → k < 3 → M1 4 (i * 3 + k) = gG g (i * 3 + k)
      rw [g2, g3, g4]
      dsimp only
      rw [if_neg (by omega), if_neg (by omega)]
      refine ⟨rfl, rfl, fun k k0 k1 => ?_⟩
      rw [if_neg (by omega), if_neg (by omega), if_neg (by omega)]
    have nR : gR g' (gN g) = t := by show M1 2 (gN g) = t; rw [g2]; dsimp only; rw [if_pos rfl]
    have nA : gA g' (gN g) = n := by show M1 3 (gN g) = n; rw [g3]; dsimp only; rw [if_pos rfl]
    have nG : ∀ k, 0 ≤ k → k < 3 → gG g' (gN g * 3 + k) = if k = 2 then e else if k = 1 then b else a := by
      intro k k0 k1
      show M1 4 (gN g * 3 + k) = _
      rw [g4]
      dsimp only
      by_cases w2 : k = 2
      · rw [if_pos (by omega), if_pos w2]
      · rw [if_neg (by omega), if_neg w2]
        by_cases w1 : k = 1
        · rw [if_pos (by omega), if_pos w1]
        · rw [if_neg (by omega), if_neg w1, if_pos (by omega)]
    have hg' : SgOK g' := by
      refine ⟨b1, ⟨show 0 ≤ gN g + 1 by omega, show gN g + 1 ≤ 12 by omega⟩, fun i i0 i1 => ?_⟩
      have i1 : i < gN g + 1 := i1
      by_cases w : i = gN g
      · subst w
        rw [nR, nA]
        refine ⟨t0.1, o, fun k k0 k1 => ?_⟩
        rw [nG k k0 (by omega)]
        show 0 ≤ _ ∧ _ < gT g
        by_cases w2 : k = 2
        · rw [if_pos w2]; exact t0.2.2.2 (by omega)
        · rw [if_neg w2]
          by_cases w1 : k = 1
          · rw [if_pos w1]; exact t0.2.2.1 (by omega)
          · rw [if_neg w1]; exact t0.2.1 (by omega)
      · have o2 := oldc i i0 (by omega)
        have w3 := hC.1.1.2.2 i i0 (by omega)
        rw [o2.1, o2.2.1]
        refine ⟨w3.1, w3.2.1, fun k k0 k1 => ?_⟩
        rw [o2.2.2 k k0 (by omega)]
        exact w3.2.2 k k0 k1
    have hX' : SgX g g' := ⟨Int.le_refl _, show gN g ≤ gN g + 1 by omega, oldc⟩
    refine c_recomputeP hg' (M := M1) ⟨g10, g11, rfl, rfl, rfl⟩ (fun M2 hF2 hP => c_recomputeO hg' (M := M2) ⟨?_, ?_, ?_, ?_, ?_⟩ (fun M3 hF3 hO => kk _ M3 ⟨by omega, fun K2 k2 => ?_⟩))
    · rw [hF2 1 (by decide)]; exact g10
    · rw [hF2 1 (by decide)]; exact g11
    · rw [hF2 2 (by decide)]
    · rw [hF2 3 (by decide)]
    · rw [hF2 4 (by decide)]
    have F3 : Fr [1, 2, 3, 4, 6, 7, 9, 10, 11] M M3 := ((gF.mono (by decide)).trans (hF2.mono (by decide))).trans (hF3.mono (by decide))
    have e50 : M3 50 = M 50 := F3 50 (by decide)
    refine ref M3 K2 e50 (fun z => absurd o z) (fun _ z => absurd t0 z) (fun _ _ => sg_X12_addConstructor_62 ?_)
    rw [e50, f4]
    refine ⟨by omega, fun _ => ⟨by omega, by omega, by omega, by omega, by omega, ?_⟩, fun y => by omega⟩
    rw [show gN g + 1 - 1 = M 1 1 by omega]
    refine k2 _ ⟨g', d, tg, Core.sig hC hg' hX' ⟨?_, ?_, ?_, ?_, ?_⟩ ⟨?_, rfl, fun i i0 i1 => ?_⟩ ?_ ?_ (fun h hh => ?_) ?_ ?_ ?_ ?_, ?_⟩
    · show M3 1 0 = gT g
      rw [hF3 1 (by decide), hF2 1 (by decide)]; exact g10
    · show M3 1 1 = gN g + 1
      rw [hF3 1 (by decide), hF2 1 (by decide)]; exact g11
    · show M3 2 = M1 2
      rw [hF3 2 (by decide), hF2 2 (by decide)]
    · show M3 3 = M1 3
      rw [hF3 3 (by decide), hF2 3 (by decide)]
    · show M3 4 = M1 4
      rw [hF3 4 (by decide), hF2 4 (by decide)]
    · show M3 50 0 = gT g
      rw [e50]; exact f3
    · have i1 : i < gN g + 1 := i1
      show (if i = gN g then t else M3 51 i) = gR g' i ∧ (if i = gN g then n else M3 52 i) = gA g' i ∧ ∀ k, 0 ≤ k → k < gA g' i → (if 3 * i + k = 3 * gN g + 2 then e else if 3 * i + k = 3 * gN g + 1 then b else if 3 * i + k = 3 * gN g then a else M3 53 (3 * i + k)) = gG g' (i * 3 + k)
      rw [F3 51 (by decide), F3 52 (by decide), F3 53 (by decide)]
      by_cases w : i = gN g
      · subst w
        rw [if_pos rfl, if_pos rfl, nR, nA]
        refine ⟨rfl, rfl, fun k k0 k1 => ?_⟩
        rw [nG k k0 (by omega)]
        by_cases w2 : k = 2
        · rw [if_pos (by omega), if_pos w2]
        · rw [if_neg (by omega), if_neg w2]
          by_cases w1 : k = 1
          · rw [if_pos (by omega), if_pos w1]
          · rw [if_neg (by omega), if_neg w1, if_pos (by omega)]
      · have o2 := oldc i i0 (by omega)
        have w3 := hC.1.1.2.2 i i0 (by omega)
        have m3 := hC.2.2.1.1.2.2 i i0 (by omega)
        rw [if_neg w, if_neg w, o2.1, o2.2.1]
        refine ⟨m3.1, m3.2.1, fun k k0 k1 => ?_⟩
        rw [if_neg (by omega), if_neg (by omega), if_neg (by omega), o2.2.2 k k0 (by omega)]
        exact m3.2.2 k k0 k1
    · exact (hP.fr hF3 (by decide)).fr (S := [50, 51, 52, 53]) ((((((Fr.refl _ M3).up (by decide)).up (by decide)).up (by decide)).up (by decide)).up (by decide) |>.up (by decide)) (by decide)
    · exact hO.fr (S := [50, 51, 52, 53]) ((((((Fr.refl _ M3).up (by decide)).up (by decide)).up (by decide)).up (by decide)).up (by decide) |>.up (by decide)) (by decide)
    · rw [← F3 h (by revert hh; revert h; decide)]
      simp only [List.mem_cons, List.not_mem_nil, or_false] at hh
      rcases hh with z | z | z | z | z | z | z | z | z | z | z | z | z | z <;> subst z <;> rfl
    · rw [← F3 43 (by decide)]; rfl
    · rw [← e50]; rfl
    · rw [← e50]; rfl
    · rw [← e50]; rfl
    · exact (hc.up.fr F3 (by decide)).keep (fun x hx => by
        simp only [List.mem_cons, List.not_mem_nil, or_false] at hx
        rcases hx with z | z | z | z | z | z <;> subst z <;> rfl)
  have s3 : 0 ≤ n ∧ n ≤ 3 → (0 ≤ t ∧ t < gT g) → (0 < n → 0 ≤ a ∧ a < gT g) → (1 < n → 0 ≤ b ∧ b < gT g) → AW mX11_addConstructor 55 [some (vR 0), some (vI t), some (vI n), some (vI a), some (vI b), some (vI e), none] [] M (QI K) := fun q oT oa ob => sg_X11_addConstructor_55 ⟨hn, fun w => fin q ⟨oT, oa, ob, fun y => by omega⟩, fun w => c_hasType he (by omega) (fun x => ⟨by decide, fun _ => fin q ⟨oT, oa, ob, fun _ => by omega⟩, fun y => absurd (by decide) y⟩) (fun x => ⟨by decide, fun y => absurd rfl y, fun _ => no1 q (fun y => x (by have := y.2.2.2 (by omega); omega))⟩)⟩
  have s2 : 0 ≤ n ∧ n ≤ 3 → (0 ≤ t ∧ t < gT g) → (0 < n → 0 ≤ a ∧ a < gT g) → AW mX11_addConstructor 38 [some (vR 0), some (vI t), some (vI n), some (vI a), some (vI b), some (vI e), none] [] M (QI K) := fun q oT oa => sg_X11_addConstructor_38 ⟨hn, fun w => s3 q oT oa (fun y => by omega), fun w => c_hasType hb (by omega) (fun x => ⟨by decide, fun y => absurd y (by decide), fun _ => s3 q oT oa (fun _ => by omega)⟩) (fun x => ⟨by decide, fun _ => no1 q (fun y => x (by have := y.2.2.1 (by omega); omega)), fun y => absurd rfl y⟩)⟩
  refine en_X11_addConstructor ⟨hn, fun w => no4 (by omega), fun w => ⟨hn, fun w2 => ?_, fun w2 => no4 (by omega)⟩⟩
  have q : 0 ≤ n ∧ n ≤ 3 := by omega
  refine c_hasType ht (by omega) (fun x => ⟨by decide, fun y => absurd y (by decide), fun _ => ⟨hn, fun w3 => s2 q (by omega) (fun y => by omega), fun w3 => c_hasType ha (by omega) (fun x2 => ⟨by decide, fun y => absurd y (by decide), fun _ => s2 q (by omega) (fun _ => by omega)⟩) (fun x2 => ⟨by decide, fun _ => no1 q (fun y => x2 (by have := y.2.1 (by omega); omega)), fun y => absurd rfl y⟩)⟩⟩) (fun x => ⟨by decide, fun _ => no1 q (fun y => x (by have := y.1; omega)), fun y => absurd rfl y⟩)
end
