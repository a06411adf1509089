/-! a value's row can be read: sizes are the row's own -/
section
variable {g : Sg}
theorem Pr_size (hg : SgOK g) {W : Int → Int} : ∀ (f f2 : Nat) (p t s i t2 s2 i2 : Int), Vd g t s i → Vd g t2 s2 i2 → Pr g W f p t s i → Pr g W f2 p t2 s2 i2 → s = s2
  | 0, _, _, _, _, _, _, _, _, _, _, h, _ => h.elim
  | _ + 1, 0, _, _, _, _, _, _, _, _, _, _, h => h.elim
  | f + 1, f2 + 1, p, t, s, i, t2, s2, i2, hv, hv2, h, h2 => by
    obtain ⟨r1, r2, r3, r4, r5⟩ := root_ok hg hv.2.1.1 hv.2.1.2 hv.2.2.1 hv.2.2.2
    obtain ⟨q1, q2, q3, q4, q5⟩ := root_ok hg hv2.2.1.1 hv2.2.1.2 hv2.2.2.1 hv2.2.2.2
    have ec : rc g t2 s2 i2 = rc g t s i := by rw [← h.1, ← h2.1]
    have ha := hg.a r1.1 r1.2
    have he := ofs_end (g := g) (c := rc g t s i) (s := s) ha.1 r3.1 r3.2
    have he2 := ofs_end (g := g) (c := rc g t2 s2 i2) (s := s2) (by rw [ec]; exact ha.1) q3.1 q3.2
    have key : ∀ (m : Nat), (m : Int) ≤ gA g (rc g t s i) → ofs g (rc g t s i) s (rr g t s i) m = ofs g (rc g t2 s2 i2) s2 (rr g t2 s2 i2) m := by
      intro m
      induction m with
      | zero => intro _; rw [show ((0 : Nat) : Int) = 0 by rfl, ofs_0, ofs_0]
      | succ m ih =>
        intro hm
        have e := ih (by omega)
        have k1 := kid_ok (k := (m : Int)) hg r1 hv.2.1 r3.1 r3.2 (by omega) (by omega)
        have k2 := kid_ok (k := (m : Int)) hg q1 hv2.2.1 q3.1 q3.2 (by omega) (by rw [ec]; omega)
        have a1 := h.2 m (by omega) (by omega)
        have a2 := h2.2 m (by omega) (by rw [ec]; omega)
        rw [← e] at a2
        have := Pr_size hg f f2 _ _ _ _ _ _ _ k1.1 k2.1 a1 a2
        rw [show ((m + 1 : Nat) : Int) = (m : Int) + 1 by omega, ofs_step (by omega), ofs_step (by omega), e, this]
    have fin := key (gA g (rc g t s i)).toNat (by omega)
    rw [show (((gA g (rc g t s i)).toNat : Nat) : Int) = gA g (rc g t s i) by omega, he] at fin
    rw [ec] at he2
    rw [← ec] at fin
    rw [ec] at fin
    omega
end
