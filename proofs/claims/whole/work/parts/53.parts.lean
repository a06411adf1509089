/-! sizes of the blocks of a row -/
def Rw (g : Sg) (W : Int → Int) (n : Int) (z : Int → Int) : Prop := ∀ x, 0 ≤ x → x < n → (0 ≤ W x ∧ W x < gN g) ∧ (1 ≤ z x ∧ x + z x ≤ n) ∧ ∃ E : Int → Int, E 0 = x + 1 ∧ E (gA g (W x)) = x + z x ∧ ∀ k, 0 ≤ k → k < gA g (W x) → (x < E k ∧ E k < n) ∧ E (k + 1) = E k + z (E k)
section
variable {g : Sg}
/-- layParts finds the sizes of a row that can be read so -/
theorem c_layParts {M : Mem} {K : Mem → Prop} (hg : SgOK g) (hX : MSig g M) {z : Int → Int} (hl : 0 ≤ M 50 21 ∧ M 50 21 ≤ 64) (hR : Rw g (M 65) (M 50 21) z) (kk : ∀ M', Fr [66] M M' → (∀ x, 0 ≤ x → x < M 50 21 → M' 66 x = z x) → K M') : CV mX12_layParts [vR 50] M K := by
  have hn := hg.n
  have outer : ∀ (m : Nat) (i : Int) (M1 : Mem), (i + 1).toNat = m → -1 ≤ i → i < M 50 21 → Fr [66] M M1 → (∀ x, i < x → x < M 50 21 → M1 66 x = z x) → AW mX12_layParts 7 [some (vR 50), some (vI i), none, none] [] M1 (QV K) := by
    intro m
    induction m with
    | zero =>
      intro i M1 hm i0 i1 hF hz
      exact sg_X12_layParts_7 ⟨by omega, fun _ => kk M1 hF (fun x x0 x1 => hz x (by omega) x1), fun y => by omega⟩
    | succ m ih =>
      intro i M1 hm i0 i1 hF hz
      obtain ⟨hc, hzi, E, e0, e1, e2⟩ := hR i (by omega) i1
      have ha := hg.a hc.1 hc.2
      have hX1 := hX.fr2 hF (by decide)
      have e52 := (hX1.2.2 _ hc.1 hc.2).2.1
      have e65 : M1 65 = M 65 := hF 65 (by decide)
      have inner : ∀ (q : Nat) (k : Int), (gA g (M 65 i) - k).toNat = q → 0 ≤ k → k ≤ gA g (M 65 i) → AW mX12_layParts 17 [some (vR 50), some (vI i), some (vI (E k)), some (vI k)] [] M1 (QV K) := by
        intro q
        induction q with
        | zero =>
          intro k hq k0 k1
          refine sg_X12_layParts_17 ?_
          rw [e65, e52]
          refine ⟨by omega, by omega, by omega, fun _ => ⟨by omega, ?_⟩, fun y => by omega⟩
          rw [show k = gA g (M 65 i) by omega, e1, show i + z i - i = z i by omega]
          refine ih (i + -1) _ (by omega) (by omega) (by omega) (hF.up (by decide)) (fun x x0 x1 => ?_)
          by_cases e : x = i
          · rw [e, up_same]
          · rw [up_other e]; exact hz x (by omega) x1
        | succ q ihq =>
          intro k hq k0 k1
          have w := e2 k k0 (by omega)
          refine sg_X12_layParts_17 ?_
          rw [e65, e52]
          refine ⟨by omega, by omega, by omega, fun y => by omega, fun _ => ⟨by omega, ?_⟩⟩
          rw [hz (E k) w.1.1 w.1.2, ← w.2]
          exact ihq (k + 1) (by omega) (by omega) (by omega)
      refine sg_X12_layParts_7 ⟨by omega, fun y => by omega, fun _ => ?_⟩
      rw [← e0]
      exact inner _ 0 rfl (by omega) ha.1
  exact en_X12_layParts (outer _ (M 50 21 - 1) M rfl (by omega) (by omega) (Fr.refl _ _) (fun x x0 x1 => by omega))
end
