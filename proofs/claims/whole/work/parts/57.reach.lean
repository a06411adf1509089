/-! a pattern against a row: told without an order -/
/-- where part k of the block at x begins -/
def kst (z : Int → Int) (x : Int) : Nat → Int
  | 0 => x + 1
  | k + 1 => kst z x k + z (kst z x k)
theorem kst_step {z : Int → Int} {x k : Int} (k0 : 0 ≤ k) : kst z x (k + 1).toNat = kst z x k.toNat + z (kst z x k.toNat) := by
  rw [show (k + 1).toNat = k.toNat + 1 by omega]
  rfl
section
variable {g : Sg} {d : Nd} {tg : Int → Int}
theorem Rw.kids {W z : Int → Int} {n : Int} (h : Rw g W n z) {x : Int} (x0 : 0 ≤ x) (x1 : x < n) : (0 ≤ W x ∧ W x < gN g) ∧ (1 ≤ z x ∧ x + z x ≤ n) ∧ (0 ≤ gA g (W x) → kst z x (gA g (W x)).toNat = x + z x) ∧ ∀ k, 0 ≤ k → k < gA g (W x) → (x < kst z x k.toNat ∧ kst z x k.toNat < n) ∧ kst z x k.toNat + z (kst z x k.toNat) ≤ x + z x := by
  obtain ⟨h1, h2, E, e0, e1, e2⟩ := h x x0 x1
  have key : ∀ m : Nat, (m : Int) ≤ gA g (W x) → kst z x m = E m := by
    intro m
    induction m with
    | zero => intro _; rw [show ((0 : Nat) : Int) = 0 by rfl, e0]; rfl
    | succ m ih =>
      intro hm
      have w := ih (by omega)
      have q := (e2 m (by omega) (by omega)).2
      show kst z x m + z (kst z x m) = _
      rw [w, show ((m + 1 : Nat) : Int) = (m : Int) + 1 by omega, q]
  have up : ∀ m : Nat, (m : Int) ≤ gA g (W x) → E (gA g (W x) - m) ≤ x + z x := by
    intro m
    induction m with
    | zero => intro _; rw [show gA g (W x) - ((0 : Nat) : Int) = gA g (W x) by omega, e1]; exact Int.le_refl _
    | succ m ih =>
      intro hm
      have w := ih (by omega)
      have q := e2 (gA g (W x) - ((m + 1 : Nat) : Int)) (by omega) (by omega)
      rw [show gA g (W x) - ((m + 1 : Nat) : Int) + 1 = gA g (W x) - (m : Int) by omega] at q
      have q3 := (h (E (gA g (W x) - ((m + 1 : Nat) : Int))) (by omega) q.1.2).2.1
      omega
  refine ⟨h1, h2, fun a0 => ?_, fun k k0 k1 => ?_⟩
  · rw [key _ (by omega), show (((gA g (W x)).toNat : Nat) : Int) = gA g (W x) by omega, e1]
  · have w := key k.toNat (by omega)
    rw [show ((k.toNat : Nat) : Int) = k by omega] at w
    have q := e2 k k0 k1
    have u := up (gA g (W x) - (k + 1)).toNat (by omega)
    rw [show gA g (W x) - (((gA g (W x) - (k + 1)).toNat : Nat) : Int) = k + 1 by omega] at u
    rw [w]
    exact ⟨q.1, by omega⟩
/-- closed sets of pairs of a pattern's node and a place -/
def Cl2 (g : Sg) (d : Nd) (tg : Int → Int) (W z : Int → Int) (P : Int → Int → Prop) : Prop := ∀ n x k, P n x → 0 ≤ nC d n → W x = nC d n → 0 ≤ k → k < pq g d n → P (kq d tg n k) (kst z x k.toNat)
def Rch (g : Sg) (d : Nd) (tg : Int → Int) (W z : Int → Int) (p n x : Int) : Prop := ∀ P : Int → Int → Prop, Cl2 g d tg W z P → P p 0 → P n x
def SmB (W z : Int → Int) (x y : Int) : Prop := z x = z y ∧ ∀ j, 0 ≤ j → j < z x → W (x + j) = W (y + j)
def Mt (g : Sg) (d : Nd) (tg : Int → Int) (W z : Int → Int) (p : Int) : Prop := (∀ n x, Rch g d tg W z p n x → 0 ≤ nC d n → W x = nC d n) ∧ ∀ v x y, Rch g d tg W z p v x → Rch g d tg W z p v y → nC d v < 0 → SmB W z x y
theorem Rch.root {W z : Int → Int} {p : Int} : Rch g d tg W z p p 0 := fun _ _ h => h
theorem Rch.kid {W z : Int → Int} {p n x k : Int} (h : Rch g d tg W z p n x) (c0 : 0 ≤ nC d n) (hw : W x = nC d n) (k0 : 0 ≤ k) (k1 : k < pq g d n) : Rch g d tg W z p (kq d tg n k) (kst z x k.toNat) := fun P c1 c2 => c1 n x k (h P c1 c2) c0 hw k0 k1
theorem SmB.rf {W z : Int → Int} (x : Int) : SmB W z x x := ⟨rfl, fun _ _ _ => rfl⟩
theorem SmB.sy {W z : Int → Int} {x y : Int} (h : SmB W z x y) : SmB W z y x := ⟨h.1.symm, fun j j0 j1 => (h.2 j j0 (by rw [h.1]; exact j1)).symm⟩
theorem SmB.tr {W z : Int → Int} {x y u : Int} (h : SmB W z x y) (k : SmB W z y u) : SmB W z x u := ⟨h.1.trans k.1, fun j j0 j1 => (h.2 j j0 j1).trans (k.2 j j0 (by rw [← h.1]; exact j1))⟩
theorem c_areSame {M : Mem} {K : Int → Mem → Prop} {n x y : Int} {z : Int → Int} (hR : Rw g (M 65) n z) (hg : SgOK g) (hn : n ≤ 64) (hz : ∀ u, 0 ≤ u → u < n → M 66 u = z u) (x0 : 0 ≤ x) (x1 : x < n) (y0 : 0 ≤ y) (y1 : y < n) (k1 : SmB (M 65) z x y → K 1 M) (k0 : ¬ SmB (M 65) z x y → K 0 M) : CI mX12_areSame [vR 50, vI x, vI y] M K := by
  have hN := hg.n
  have wx := (hR x x0 x1).2.1
  have wy := (hR y y0 y1).2.1
  have loop : ∀ (m : Nat) (v j : Int), (z x - j).toNat = m → 0 ≤ j → j ≤ z x → (v = 0 ∨ v = 1) → (v = 1 → z x = z y ∧ ∀ u, 0 ≤ u → u < j → M 65 (x + u) = M 65 (y + u)) → (v = 0 → ¬ SmB (M 65) z x y) → AW mX12_areSame 24 [some (vR 50), some (vI x), some (vI y), some (vI v), some (vI j)] [] M (QI K) := by
    intro m
    induction m with
    | zero =>
      intro v j hm j0 j1 hv h1 h0
      refine sg_X12_areSame_24 ?_
      rw [hz x x0 x1]
      refine ⟨by omega, by omega, fun _ => ⟨hv, ?_⟩, fun q => by omega⟩
      rcases hv with e | e
      · rw [e]; exact k0 (h0 e)
      · rw [e]
        exact k1 ⟨(h1 e).1, fun u u0 u1 => (h1 e).2 u u0 (by omega)⟩
    | succ m ih =>
      intro v j hm j0 j1 hv h1 h0
      refine sg_X12_areSame_24 ?_
      rw [hz x x0 x1]
      refine ⟨by omega, by omega, fun q => by omega, fun _ => ⟨?_, fun e => ⟨hv, by rw [e]; exact k0 (h0 e)⟩, fun e => ?_⟩⟩
      · rcases hv with e | e <;> rw [e] <;> decide
      · have w := h1 (hv.resolve_left e)
        clear h1 h0 hv
        have ra := (hR (x + j) (by omega) (by omega)).1
        have rb := (hR (y + j) (by omega) (by omega)).1
        refine ⟨by omega, by omega, by omega, fun q => ih 0 (j + 1) (by omega) (by omega) (by omega) (Or.inl rfl) (fun y => absurd y (by decide)) (fun _ s => q (s.2 j j0 (by omega))), fun q => ih 1 (j + 1) (by omega) (by omega) (by omega) (Or.inr rfl) (fun _ => ⟨w.1, fun u u0 u1 => ?_⟩) (fun y => absurd y (by decide))⟩
        by_cases eu : u = j
        · rw [eu]; exact Decidable.not_not.mp q
        · exact w.2 u u0 (by omega)
  refine en_X12_areSame ?_
  rw [hz x x0 x1, hz y y0 y1]
  exact ⟨by omega, by omega, by omega, fun q => loop _ 0 0 rfl (by omega) (by omega) (Or.inl rfl) (fun y => absurd y (by decide)) (fun _ s => q s.1), fun q => loop _ 1 0 rfl (by omega) (by omega) (Or.inr rfl) (fun _ => ⟨Decidable.not_not.mp q, fun u u0 u1 => by omega⟩) (fun y => absurd y (by decide))⟩
end
