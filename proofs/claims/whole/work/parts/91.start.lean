/-! the start -/
theorem inv0 : Inv 0 M0 := by
  let g : Sg := (0, 0, fun _ => 0, fun _ => 0, fun _ => 0)
  let d : Nd := (0, fun _ => 0, fun _ => 0, fun _ => 0)
  have hg : SgOK g := ⟨⟨show (0 : Int) ≤ 0 by decide, show (0 : Int) ≤ 4 by decide⟩, ⟨show (0 : Int) ≤ 0 by decide, show (0 : Int) ≤ 12 by decide⟩, fun c c0 c1 => absurd (show c < 0 from c1) (by omega)⟩
  have hd : NdOK g d := ⟨⟨show (0 : Int) ≤ 0 by decide, show (0 : Int) ≤ 100 by decide⟩, fun n n0 n1 => absurd (show n < 0 from n1) (by omega)⟩
  have hT : TgG g d (fun _ => -1) := TgG.none hd (fun n n0 n1 => rfl)
  refine ⟨g, d, fun _ => -1, ⟨⟨hg, hd, hT⟩, ⟨⟨rfl, rfl, rfl, rfl, rfl⟩, ⟨rfl, rfl, rfl, rfl⟩, rfl⟩, ⟨⟨rfl, rfl, fun c c0 c1 => absurd (show c < 0 from c1) (by omega)⟩, ⟨rfl, fun n n0 n1 => absurd (show n < 0 from n1) (by omega)⟩, fun n n0 n1 => absurd (show n < 0 from n1) (by omega)⟩, ⟨fun t t0 t1 => rfl, fun t t0 t1 => Or.inl ⟨fun c c0 c1 => absurd (show c < 0 from c1) (by omega), rfl⟩⟩, ⟨fun t s t0 t1 s0 s1 => ?_, fun c s c0 c1 => absurd (show c < 0 from c1) (by omega), fun c k s c0 c1 => absurd (show c < 0 from c1) (by omega)⟩, ⟨⟨show (0 : Int) ≤ 0 by decide, show (0 : Int) ≤ 8 by decide⟩, rfl, fun j j0 j1 => absurd (show j < 0 from j1) (by omega)⟩, ⟨⟨show (0 : Int) ≤ 0 by decide, show (0 : Int) ≤ 8 by decide⟩, rfl, fun j j0 j1 => absurd (show j < 0 from j1) (by omega)⟩⟩, ?_⟩
  · show (0 : Int) = Cs g t s
    by_cases e : s = 0
    · rw [e, Cs_0]
    · rw [Cs_eq (by omega) s1]
      rfl
  · exact ⟨⟨show (0 : Int) ≤ 0 by decide, show (0 : Int) ≤ 101 * ((0 : Nat) : Int) by decide⟩, ⟨show (0 : Int) ≤ 0 by decide, show (0 : Int) ≤ 101 * ((0 : Nat) : Int) by decide⟩, ⟨show (0 : Int) ≤ 0 by decide, show (0 : Int) ≤ 128000 * ((0 : Nat) : Int) by decide⟩, fun n n0 n1 => ⟨show (0 : Int) ≤ 0 by decide, show (0 : Int) ≤ 0 by decide⟩, fun n n0 n1 => ⟨show (0 : Int) ≤ 0 by decide, show (0 : Int) ≤ 0 by decide⟩, fun n n0 n1 => ⟨show (0 : Int) ≤ 0 by decide, show (0 : Int) ≤ 0 by decide⟩⟩
theorem law_from (h1 : Op1 mX11_firstMatch mX12_firstMatch) (h2 : Op1 mX11_uncovered mX12_uncovered) (h3 : Op1 mX11_firstUncovered mX12_firstUncovered) (h4 : Op2 mX11_coveredBy mX12_coveredBy) : PureLaw := by
  intro n xs hn hx
  refine sg_L_law_16 ?_
  exact law_loop h1 h2 h3 h4 n xs hn hx _ 0 M0 rfl (by omega) inv0
