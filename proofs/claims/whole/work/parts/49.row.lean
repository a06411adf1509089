/-! the reference lays a value as a row: wholes before parts -/
def Pr (g : Sg) (W : Int → Int) : Nat → Int → Int → Int → Int → Prop
  | 0, _, _, _, _ => False
  | f + 1, p, t, s, i => W p = rc g t s i ∧ ∀ k, 0 ≤ k → k < gA g (rc g t s i) → Pr g W f (p + 1 + ofs g (rc g t s i) s (rr g t s i) k) (gG g (rc g t s i * 3 + k)) (kS g (rc g t s i) s (rr g t s i) k) (kI g (rc g t s i) s (rr g t s i) k)
section
variable {g : Sg}
theorem Pr_up {W : Int → Int} : ∀ (f : Nat) (p t s i : Int), Pr g W f p t s i → Pr g W (f + 1) p t s i
  | 0, _, _, _, _, h => h.elim
  | f + 1, p, t, s, i, h => ⟨h.1, fun k k0 k1 => Pr_up f _ _ _ _ (h.2 k k0 k1)⟩
theorem Pr_le {W : Int → Int} {f : Nat} {p t s i : Int} (h : Pr g W f p t s i) : ∀ f2, f ≤ f2 → Pr g W f2 p t s i := by
  intro f2 hf
  induction f2 with
  | zero =>
    rw [show f = 0 by omega] at h
    exact h
  | succ f2 ih =>
    by_cases e : f = f2 + 1
    · rw [← e]; exact h
    · exact Pr_up f2 _ _ _ _ (ih (by omega))
/-- the search for the root -/
theorem c_rootM {M : Mem} {K : Mem → Prop} (hg : SgOK g) (hX : MSig g M) (hO : MCnt g M) {v1 v2 v3 w t s i : Int} (hv : Vd g t s i) (hl : 0 ≤ M 50 21 ∧ M 50 21 < 64)
    (fin : CV mX12_share [vR 50, vI (rc g t s i), vI s, vI (rr g t s i)] (up (up M 65 (M 50 21) (rc g t s i)) 50 21 (M 50 21 + 1)) (fun M169 => (0 ≤ rc g t s i ∧ rc g t s i < 12) ∧ AW mX12_layValue 183 [some (vR 50), some (vI v1), some (vI v2), some (vI v3), some (vI w), some (vI t), some (vI s), some (vI (rr g t s i)), some (vI (rc g t s i)), some (vI ((M169 52 (rc g t s i)) - 1))] [] M169 (QV K)))
    : ∀ (n : Nat) (c a : Int), (n : Int) = gN g - c → 0 ≤ c → 0 ≤ a → a ≤ i → ro g t s n c a = (rc g t s i, rr g t s i) → AW mX12_layValue 67 [some (vR 50), some (vI v1), some (vI v2), some (vI v3), some (vI w), some (vI t), some (vI s), some (vI a), some (vI c), none] [] M (QV K) := by
  have hn := hg.n
  have h4 := hg.1
  have hs := hv.2.1
  have bC := Cs_bd (g := g) t s
  have hi := hv.2.2
  have ht := hv.1
  obtain ⟨r1, r2, r3, r4, r5⟩ := root_ok hg hs.1 hs.2 hi.1 hi.2
  intro n
  induction n with
  | zero =>
    intro c a hc c0 a0 a1 he
    have : c = rc g t s i := congrArg Prod.fst he
    omega
  | succ n ih =>
    intro c a hc c0 a0 a1 he
    have e51 := (hX.2.2 c c0 (by omega)).1
    have hr := hg.r c0 (show c < gN g by omega)
    have ha := hg.a c0 (show c < gN g by omega)
    have bW := Ws_bd (g := g) c 0 (s - 1)
    have hw := hO.2 c 0 (s - 1) c0 (by omega) (by omega) ha.1 (by omega) (by omega)
    have next : ¬ (gR g c = t ∧ a < Ws g c 0 (s - 1)) → AW mX12_layValue 99 [some (vR 50), some (vI v1), some (vI v2), some (vI v3), some (vI w), some (vI t), some (vI s), some (vI a), some (vI c), none] [] M (QV K) := by
      intro hno
      simp only [ro] at he
      rw [if_neg hno] at he
      refine sg_X12_layValue_99 ?_
      rw [e51]
      refine ⟨by omega, by omega, fun z => ?_, fun z => c_wayM ⟨by omega, ?_⟩⟩
      · rw [if_neg z] at he
        exact ih (c + 1) (a - 0) (by omega) (by omega) (by omega) (by omega) he
      · have z := Decidable.not_not.mp z
        rw [if_pos z] at he
        have : ¬ a < Ws g c 0 (s - 1) := fun y => hno ⟨z, y⟩
        rw [hw]
        exact ih (c + 1) _ (by omega) (by omega) (by omega) (by omega) he
    refine sg_X12_layValue_67 ?_
    rw [e51]
    refine ⟨by omega, by omega, fun z => next (fun y => z y.1), fun z => c_wayM ⟨by omega, ?_⟩⟩
    rw [hw]
    refine ⟨by omega, fun y => ⟨hl, ?_⟩, fun y => next (fun x => y x.2)⟩
    simp only [ro] at he
    rw [if_pos ⟨Decidable.not_not.mp z, y⟩] at he
    have e1 : c = rc g t s i := congrArg Prod.fst he
    have e2 : a = rr g t s i := congrArg Prod.snd he
    rw [e1, e2]
    exact fin
end
