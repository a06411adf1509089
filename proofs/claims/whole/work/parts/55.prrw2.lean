/-! every place of a value's row begins a block -/
section
variable {g : Sg}
theorem Pr_sub (hg : SgOK g) {W : Int → Int} : ∀ (f : Nat) (p t s i : Int), Vd g t s i → Pr g W f p t s i → ∀ x, p ≤ x → x < p + s → ∃ t2 s2 i2 f2, Vd g t2 s2 i2 ∧ Pr g W f2 x t2 s2 i2 ∧ x + s2 ≤ p + s
  | 0, _, _, _, _, _, h => h.elim
  | f + 1, p, t, s, i, hv, h => by
    obtain ⟨r1, r2, r3, r4, r5⟩ := root_ok hg hv.2.1.1 hv.2.1.2 hv.2.2.1 hv.2.2.2
    intro x x0 x1
    by_cases e : x = p
    · exact ⟨t, s, i, f + 1, hv, by rw [e]; exact h, by omega⟩
    · obtain ⟨k, hk, l1, l2⟩ := in_kid (j := x - p - 1) hg r1 hv.2.1 r3.1 r3.2 (by omega) (by omega)
      have kv := kid_ok hg r1 hv.2.1 r3.1 r3.2 hk.1 hk.2
      obtain ⟨t2, s2, i2, f2, v2, p2, l3⟩ := Pr_sub hg f _ _ _ _ kv.1 (h.2 k hk.1 hk.2) x (by omega) (by omega)
      exact ⟨t2, s2, i2, f2, v2, p2, by omega⟩
theorem Pr_rw (hg : SgOK g) {W : Int → Int} {f : Nat} {t s i : Int} (hv : Vd g t s i) (h : Pr g W f 0 t s i) : ∃ z, Rw g W s z ∧ ∀ x t2 s2 i2 f2, 0 ≤ x → x < s → Vd g t2 s2 i2 → Pr g W f2 x t2 s2 i2 → z x = s2 := by
  have sub : ∀ x, ∃ s2, 0 ≤ x → x < s → ∃ t2 i2 f2, Vd g t2 s2 i2 ∧ Pr g W f2 x t2 s2 i2 ∧ x + s2 ≤ s := by
    intro x
    by_cases e : 0 ≤ x ∧ x < s
    · obtain ⟨t2, s2, i2, f2, a, b, c⟩ := Pr_sub hg f 0 t s i hv h x e.1 (by omega)
      exact ⟨s2, fun _ _ => ⟨t2, i2, f2, a, b, by omega⟩⟩
    · exact ⟨0, fun a b => absurd ⟨a, b⟩ e⟩
  have zs := Classical.axiomOfChoice sub
  obtain ⟨z, hz⟩ := zs
  have uni : ∀ x t2 s2 i2 f2, 0 ≤ x → x < s → Vd g t2 s2 i2 → Pr g W f2 x t2 s2 i2 → z x = s2 := by
    intro x t2 s2 i2 f2 x0 x1 v2 p2
    obtain ⟨t3, i3, f3, v3, p3, _⟩ := hz x x0 x1
    exact Pr_size hg f3 f2 x _ _ _ _ _ _ v3 v2 p3 p2
  refine ⟨z, fun x x0 x1 => ?_, uni⟩
  obtain ⟨t3, i3, f3, v3, p3, l3⟩ := hz x x0 x1
  obtain ⟨r1, r2, r3, r4, r5⟩ := root_ok hg v3.2.1.1 v3.2.1.2 v3.2.2.1 v3.2.2.2
  have hs := v3.2.1
  cases f3 with
  | zero => exact p3.elim
  | succ f3 =>
    have ha := hg.a r1.1 r1.2
    have he := ofs_end (g := g) (c := rc g t3 (z x) i3) (s := z x) ha.1 r3.1 r3.2
    rw [p3.1]
    refine ⟨r1, ⟨hs.1, l3⟩, fun k => x + 1 + ofs g (rc g t3 (z x) i3) (z x) (rr g t3 (z x) i3) k, ?_, ?_, fun k k0 k1 => ?_⟩
    · dsimp only
      rw [ofs_0]; omega
    · dsimp only
      rw [he]; omega
    · have kv := kid_ok hg r1 hs r3.1 r3.2 k0 k1
      have k1s := kv.1.2.1
      have e := uni (x + 1 + ofs g (rc g t3 (z x) i3) (z x) (rr g t3 (z x) i3) k) _ _ _ f3 (by omega) (by omega) kv.1 (p3.2 k k0 k1)
      dsimp only
      rw [e, ofs_step k0]
      exact ⟨⟨by omega, by omega⟩, by omega⟩
end
