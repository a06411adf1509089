/-! the law: every call of a script -/
def Op1 (mx mm : MR) : Prop := ∀ (c : Nat) (M : Mem) (v : Int) (K : Int → Mem → Prop), Inv c M → c < 1000 → InR v → (∀ r M1, Then mm [vR 50, vI v] c r M1 → K r M1) → CI mx [vR 0, vI v] M K
def Op2 (mx mm : MR) : Prop := ∀ (c : Nat) (M : Mem) (v w : Int) (K : Int → Mem → Prop), Inv c M → c < 1000 → InR v → InR w → (∀ r M1, Then mm [vR 50, vI v, vI w] c r M1 → K r M1) → CI mx [vR 0, vI v, vI w] M K
set_option maxHeartbeats 4000000 in
theorem law_loop (h_firstMatch : Op1 mX11_firstMatch mX12_firstMatch) (h_uncovered : Op1 mX11_uncovered mX12_uncovered) (h_firstUncovered : Op1 mX11_firstUncovered mX12_firstUncovered) (h_coveredBy : Op2 mX11_coveredBy mX12_coveredBy) (n : Nat) (xs : Nat → Int) (hn : n ≤ 3072) (hx : ∀ j, InR (xs j)) : ∀ (m c : Nat) (M : Mem), n - 6 * c = m → 6 * c ≤ n + 6 → Inv c M → AW (mL_law n xs) 18 [some (vR 85), some (vR 0), some (vR 50), some (vI (6 * (c : Int)))] [] M (QI (fun r _ => r = 1)) := by
  intro m
  induction m using Nat.strongRecOn with
  | ind m ih =>
    intro c M hm hc hI
    by_cases ez : 6 * (c : Int) > (n : Int) - 6
    · exact sg_L_law_18 ⟨⟨by omega, by omega⟩, fun _ => rfl, fun z => absurd ez z⟩
    have next : ∀ M2, Inv (c + 1) M2 → AW (mL_law n xs) 938 [some (vR 85), some (vR 0), some (vR 50), some (vI (6 * (c : Int)))] [] M2 (QI (fun r _ => r = 1)) := by
      intro M2 h2
      refine sg_L_law_938 ?_
      rw [show 6 * (c : Int) + 6 = 6 * ((c + 1 : Nat) : Int) by omega]
      exact ih (n - 6 * (c + 1)) (by omega) (c + 1) M2 rfl (by omega) h2
    have hi1 : Inv (c + 1) M := by
      obtain ⟨g, d, tg, hC, hc⟩ := hI
      exact ⟨g, d, tg, hC, hc.up⟩
    have c5 : c < 1000 := by omega
    refine sg_L_law_18 ⟨⟨by omega, by omega⟩, fun z => absurd z ez, fun _ => ⟨by omega, ⟨Int32.le_toInt _, Int32.toInt_le _⟩, fun _ => op_addType hI  (fun r M1 hT => hT.2 _ (fun M2 hI2 => ⟨⟨hT.1, hT.1⟩, fun _ => next M2 hI2, fun z => absurd rfl z⟩)),
      fun _ => ⟨by omega, by omega, by omega, by omega, by omega, op_addConstructor hI (hx _) (hx _) (hx _) (hx _) (hx _) (fun r M1 hT => ⟨by omega, by omega, by omega, by omega, by omega, hT.2 _ (fun M2 hI2 => ⟨⟨hT.1, hT.1⟩, fun _ => next M2 hI2, fun z => absurd rfl z⟩)⟩)⟩,
      fun _ => ⟨by omega, op_resultType hI (hx _) (fun r M1 hT => ⟨by omega, hT.2 _ (fun M2 hI2 => ⟨⟨hT.1, hT.1⟩, fun _ => next M2 hI2, fun z => absurd rfl z⟩)⟩)⟩,
      fun _ => ⟨by omega, op_arity hI (hx _) (fun r M1 hT => ⟨by omega, hT.2 _ (fun M2 hI2 => ⟨⟨hT.1, hT.1⟩, fun _ => next M2 hI2, fun z => absurd rfl z⟩)⟩)⟩,
      fun _ => ⟨by omega, by omega, op_argumentType hI (hx _) (hx _) (fun r M1 hT => ⟨by omega, by omega, hT.2 _ (fun M2 hI2 => ⟨⟨hT.1, hT.1⟩, fun _ => next M2 hI2, fun z => absurd rfl z⟩)⟩)⟩,
      fun _ => ⟨by omega, op_cardinality hI (hx _) (fun r M1 hT => ⟨by omega, hT.2 _ (fun M2 hI2 => ⟨⟨hT.1, hT.1⟩, fun _ => next M2 hI2, fun z => absurd rfl z⟩)⟩)⟩,
      fun _ => ⟨by omega, op_smallestSize hI (hx _) (fun r M1 hT => ⟨by omega, hT.2 _ (fun M2 hI2 => ⟨⟨hT.1, hT.1⟩, fun _ => next M2 hI2, fun z => absurd rfl z⟩)⟩)⟩,
      fun _ => ⟨by omega, by omega, op_count hI (hx _) (hx _) (fun r M1 hT => ⟨by omega, by omega, hT.2 _ (fun M2 hI2 => ⟨⟨hT.1, hT.1⟩, fun _ => next M2 hI2, fun z => absurd rfl z⟩)⟩)⟩,
      fun _ => ⟨by omega, by omega, by omega, op_value hI (hx _) (hx _) (hx _) (fun r M1 hT => ⟨by omega, by omega, by omega, hT.2 _ (fun M2 hI2 => ⟨⟨hT.1, hT.1⟩, fun _ => next M2 hI2, fun z => absurd rfl z⟩)⟩)⟩,
      fun _ => ⟨by omega, op_variable hI (hx _) (fun r M1 hT => ⟨by omega, hT.2 _ (fun M2 hI2 => ⟨⟨hT.1, hT.1⟩, fun _ => next M2 hI2, fun z => absurd rfl z⟩)⟩)⟩,
      fun _ => ⟨by omega, by omega, by omega, by omega, op_term hI (hx _) (hx _) (hx _) (hx _) (fun r M1 hT => ⟨by omega, by omega, by omega, by omega, hT.2 _ (fun M2 hI2 => ⟨⟨hT.1, hT.1⟩, fun _ => next M2 hI2, fun z => absurd rfl z⟩)⟩)⟩,
      fun _ => op_nodeCount hI  (fun r M1 hT => hT.2 _ (fun M2 hI2 => ⟨⟨hT.1, hT.1⟩, fun _ => next M2 hI2, fun z => absurd rfl z⟩)),
      fun _ => ⟨by omega, op_nodeType hI (hx _) (fun r M1 hT => ⟨by omega, hT.2 _ (fun M2 hI2 => ⟨⟨hT.1, hT.1⟩, fun _ => next M2 hI2, fun z => absurd rfl z⟩)⟩)⟩,
      fun _ => ⟨by omega, op_head hI (hx _) (fun r M1 hT => ⟨by omega, hT.2 _ (fun M2 hI2 => ⟨⟨hT.1, hT.1⟩, fun _ => next M2 hI2, fun z => absurd rfl z⟩)⟩)⟩,
      fun _ => ⟨by omega, by omega, op_child hI (hx _) (hx _) (fun r M1 hT => ⟨by omega, by omega, hT.2 _ (fun M2 hI2 => ⟨⟨hT.1, hT.1⟩, fun _ => next M2 hI2, fun z => absurd rfl z⟩)⟩)⟩,
      fun _ => ⟨by omega, op_binding hI (hx _) (fun r M1 hT => ⟨by omega, hT.2 _ (fun M2 hI2 => ⟨⟨hT.1, hT.1⟩, fun _ => next M2 hI2, fun z => absurd rfl z⟩)⟩)⟩,
      fun _ => ⟨by omega, op_size hI c5 (hx _) (fun r M1 hT => ⟨by omega, hT.2 _ (fun M2 hI2 => ⟨⟨hT.1, hT.1⟩, fun _ => next M2 hI2, fun z => absurd rfl z⟩)⟩)⟩,
      fun _ => ⟨by omega, op_rank hI c5 (hx _) (fun r M1 hT => ⟨by omega, hT.2 _ (fun M2 hI2 => ⟨⟨hT.1, hT.1⟩, fun _ => next M2 hI2, fun z => absurd rfl z⟩)⟩)⟩,
      fun _ => ⟨by omega, by omega, op_equal hI c5 (hx _) (hx _) (fun r M1 hT => ⟨by omega, by omega, hT.2 _ (fun M2 hI2 => ⟨⟨hT.1, hT.1⟩, fun _ => next M2 hI2, fun z => absurd rfl z⟩)⟩)⟩,
      fun _ => ⟨by omega, by omega, op_unify hI c5 (hx _) (hx _) (fun r M1 hT => ⟨by omega, by omega, hT.2 _ (fun M2 hI2 => ⟨⟨hT.1, hT.1⟩, fun _ => next M2 hI2, fun z => absurd rfl z⟩)⟩)⟩,
      fun _ => op_boundCount hI  (fun r M1 hT => hT.2 _ (fun M2 hI2 => ⟨⟨hT.1, hT.1⟩, fun _ => next M2 hI2, fun z => absurd rfl z⟩)),
      fun _ => op_unbindAll hI  (fun r M1 hT => hT.2 _ (fun M2 hI2 => ⟨⟨hT.1, hT.1⟩, fun _ => next M2 hI2, fun z => absurd rfl z⟩)),
      fun _ => op_push hI  (fun r M1 hT => hT.2 _ (fun M2 hI2 => ⟨⟨hT.1, hT.1⟩, fun _ => next M2 hI2, fun z => absurd rfl z⟩)),
      fun _ => op_pop hI  (fun r M1 hT => hT.2 _ (fun M2 hI2 => ⟨⟨hT.1, hT.1⟩, fun _ => next M2 hI2, fun z => absurd rfl z⟩)),
      fun _ => ⟨by omega, op_addRow hI (hx _) (fun r M1 hT => ⟨by omega, hT.2 _ (fun M2 hI2 => ⟨⟨hT.1, hT.1⟩, fun _ => next M2 hI2, fun z => absurd rfl z⟩)⟩)⟩,
      fun _ => op_clearRows hI  (fun r M1 hT => hT.2 _ (fun M2 hI2 => ⟨⟨hT.1, hT.1⟩, fun _ => next M2 hI2, fun z => absurd rfl z⟩)),
      fun _ => ⟨by omega, h_firstMatch c M _ _ hI c5 (hx _) (fun r M1 hT => ⟨by omega, hT.2 _ (fun M2 hI2 => ⟨⟨hT.1, hT.1⟩, fun _ => next M2 hI2, fun z => absurd rfl z⟩)⟩)⟩,
      fun _ => ⟨by omega, h_uncovered c M _ _ hI c5 (hx _) (fun r M1 hT => ⟨by omega, hT.2 _ (fun M2 hI2 => ⟨⟨hT.1, hT.1⟩, fun _ => next M2 hI2, fun z => absurd rfl z⟩)⟩)⟩,
      fun _ => ⟨by omega, h_firstUncovered c M _ _ hI c5 (hx _) (fun r M1 hT => ⟨by omega, hT.2 _ (fun M2 hI2 => ⟨⟨hT.1, hT.1⟩, fun _ => next M2 hI2, fun z => absurd rfl z⟩)⟩)⟩,
      fun _ => ⟨by omega, by omega, h_coveredBy c M _ _ _ hI c5 (hx _) (hx _) (fun r M1 hT => ⟨by omega, by omega, hT.2 _ (fun M2 hI2 => ⟨⟨hT.1, hT.1⟩, fun _ => next M2 hI2, fun z => absurd rfl z⟩)⟩)⟩,
      fun _ => next M hi1⟩⟩
