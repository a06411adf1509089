/-! PURE PART: the shared state and the smallest methods -/
/-- a signature: types, constructors, result types, arities, argument types (at c*3+k) -/
abbrev Sg : Type := Int × Int × (Int → Int) × (Int → Int) × (Int → Int)
abbrev gT (g : Sg) : Int := g.1
abbrev gN (g : Sg) : Int := g.2.1
abbrev gR (g : Sg) : Int → Int := g.2.2.1
abbrev gA (g : Sg) : Int → Int := g.2.2.2.1
abbrev gG (g : Sg) : Int → Int := g.2.2.2.2
/-- nodes: how many, types, constructors (-1: a variable), children (at n*3+k) -/
abbrev Nd : Type := Int × (Int → Int) × (Int → Int) × (Int → Int)
abbrev nN (d : Nd) : Int := d.1
abbrev nY (d : Nd) : Int → Int := d.2.1
abbrev nC (d : Nd) : Int → Int := d.2.2.1
abbrev nK (d : Nd) : Int → Int := d.2.2.2
def SgOK (g : Sg) : Prop := (0 ≤ gT g ∧ gT g ≤ 4) ∧ (0 ≤ gN g ∧ gN g ≤ 12) ∧ ∀ c, 0 ≤ c → c < gN g → (0 ≤ gR g c ∧ gR g c < gT g) ∧ (0 ≤ gA g c ∧ gA g c ≤ 3) ∧ ∀ k, 0 ≤ k → k < gA g c → 0 ≤ gG g (c * 3 + k) ∧ gG g (c * 3 + k) < gT g
def NdOK (g : Sg) (d : Nd) : Prop := (0 ≤ nN d ∧ nN d ≤ 100) ∧ ∀ n, 0 ≤ n → n < nN d → (0 ≤ nY d n ∧ nY d n < gT g) ∧ (nC d n = -1 ∨ ((0 ≤ nC d n ∧ nC d n < gN g) ∧ nY d n = gR g (nC d n) ∧ ∀ k, 0 ≤ k → k < gA g (nC d n) → (0 ≤ nK d (n * 3 + k) ∧ nK d (n * 3 + k) < n) ∧ nY d (nK d (n * 3 + k)) = gG g (nC d n * 3 + k)))
def TgOK (d : Nd) (tg : Int → Int) : Prop := (∀ n, 0 ≤ n → n < nN d → tg n = -1 ∨ (nC d n = -1 ∧ (0 ≤ tg n ∧ tg n < nN d) ∧ nY d (tg n) = nY d n)) ∧ ∀ n, nN d ≤ n → n < 100 → tg n = -1
/-- a measure that falls along bindings and children -/
def Vm1 (g : Sg) (d : Nd) (tg : Int → Int) (r : Int → Nat) : Prop := (∀ n, 0 ≤ n → n < nN d → 0 ≤ tg n → r (tg n) < r n) ∧ ∀ n, 0 ≤ n → n < nN d → 0 ≤ nC d n → ∀ k, 0 ≤ k → k < gA g (nC d n) → r (nK d (n * 3 + k)) < r n
def Gr (g : Sg) (d : Nd) (tg : Int → Int) (r : Int → Nat) : Prop := Vm1 g d tg r ∧ ∀ n, r n < 100
def StOK (g : Sg) (d : Nd) (tg : Int → Int) : Prop := SgOK g ∧ NdOK g d ∧ TgOK d tg ∧ ∃ r, Gr g d tg r
/-- the class's memory, the reference's memory -/
def XSig (g : Sg) (M : Mem) : Prop := M 1 0 = gT g ∧ M 1 1 = gN g ∧ M 2 = gR g ∧ M 3 = gA g ∧ M 4 = gG g
def XNod (d : Nd) (M : Mem) : Prop := M 12 1 = nN d ∧ M 13 = nY d ∧ M 14 = nC d ∧ M 15 = nK d
def XR (g : Sg) (d : Nd) (tg : Int → Int) (M : Mem) : Prop := XSig g M ∧ XNod d M ∧ M 16 = tg
def nv (x : Int) : Int := if x < 0 then -13 else x
def MSig (g : Sg) (M : Mem) : Prop := M 50 0 = gT g ∧ M 50 1 = gN g ∧ ∀ c, 0 ≤ c → c < gN g → M 51 c = gR g c ∧ M 52 c = gA g c ∧ ∀ k, 0 ≤ k → k < gA g c → M 53 (3 * c + k) = gG g (c * 3 + k)
def MNod (g : Sg) (d : Nd) (M : Mem) : Prop := M 50 5 = nN d ∧ ∀ n, 0 ≤ n → n < nN d → M 55 n = nY d n ∧ M 54 n = nv (nC d n) ∧ (0 ≤ nC d n → ∀ k, 0 ≤ k → k < gA g (nC d n) → M 56 (3 * n + k) = nK d (n * 3 + k))
def MTg (d : Nd) (tg : Int → Int) (M : Mem) : Prop := ∀ n, 0 ≤ n → n < nN d → M 57 n = nv (tg n)
def MMR (g : Sg) (d : Nd) (tg : Int → Int) (M : Mem) : Prop := MSig g M ∧ MNod g d M ∧ MTg d tg M
/-- all but the named handles are as they were -/
def Fr (S : List Nat) (M M' : Mem) : Prop := ∀ h, h ∉ S → M' h = M h
theorem Fr.refl (S : List Nat) (M : Mem) : Fr S M M := fun _ _ => rfl
theorem Fr.trans {S : List Nat} {M M1 M2 : Mem} (a : Fr S M M1) (b : Fr S M1 M2) : Fr S M M2 := fun h hh => (b h hh).trans (a h hh)
theorem Fr.mono {S T : List Nat} {M M1 : Mem} (a : Fr S M M1) (hs : ∀ x ∈ S, x ∈ T) : Fr T M M1 := fun h hh => a h (fun q => hh (hs h q))
theorem Fr.up {S : List Nat} {M M1 : Mem} {h : Nat} {i v : Int} (a : Fr S M M1) (hm : h ∈ S) : Fr S M (up M1 h i v) := fun h' hh => by
  have hne : h' ≠ h := fun e => hh (by rw [e]; exact hm)
  rw [up_ne hne]
  exact a h' hh
theorem up_same {M : Mem} {h : Nat} {i v : Int} : up M h i v h i = v := by rw [up_eq]; simp
theorem up_other {M : Mem} {h : Nat} {i j v : Int} (hn : j ≠ i) : up M h i v h j = M h j := by rw [up_eq]; simp [hn]
theorem XR.fr {g : Sg} {d : Nd} {tg : Int → Int} {S : List Nat} {M M' : Mem} (h : XR g d tg M) (f : Fr S M M') (hs : ∀ x ∈ [1, 2, 3, 4, 12, 13, 14, 15, 16], x ∉ S) : XR g d tg M' := by
  obtain ⟨⟨a1, a2, a3, a4, a5⟩, ⟨b1, b2, b3, b4⟩, c1⟩ := h
  refine ⟨⟨?_, ?_, ?_, ?_, ?_⟩, ⟨?_, ?_, ?_, ?_⟩, ?_⟩
  · rw [f 1 (hs 1 (by simp))]; exact a1
  · rw [f 1 (hs 1 (by simp))]; exact a2
  · rw [f 2 (hs 2 (by simp))]; exact a3
  · rw [f 3 (hs 3 (by simp))]; exact a4
  · rw [f 4 (hs 4 (by simp))]; exact a5
  · rw [f 12 (hs 12 (by simp))]; exact b1
  · rw [f 13 (hs 13 (by simp))]; exact b2
  · rw [f 14 (hs 14 (by simp))]; exact b3
  · rw [f 15 (hs 15 (by simp))]; exact b4
  · rw [f 16 (hs 16 (by simp))]; exact c1
theorem MMR.fr {g : Sg} {d : Nd} {tg : Int → Int} {S : List Nat} {M M' : Mem} (h : MMR g d tg M) (f : Fr S M M') (hs : ∀ x ∈ [50, 51, 52, 53, 54, 55, 56, 57], x ∉ S) : MMR g d tg M' := by
  obtain ⟨⟨a1, a2, a3⟩, ⟨b1, b2⟩, c1⟩ := h
  have e50 := f 50 (hs 50 (by simp))
  have e51 := f 51 (hs 51 (by simp))
  have e52 := f 52 (hs 52 (by simp))
  have e53 := f 53 (hs 53 (by simp))
  have e54 := f 54 (hs 54 (by simp))
  have e55 := f 55 (hs 55 (by simp))
  have e56 := f 56 (hs 56 (by simp))
  have e57 := f 57 (hs 57 (by simp))
  refine ⟨⟨?_, ?_, ?_⟩, ⟨?_, ?_⟩, ?_⟩
  · rw [e50]; exact a1
  · rw [e50]; exact a2
  · rw [e51, e52, e53]; exact a3
  · rw [e50]; exact b1
  · rw [e54, e55, e56]; exact b2
  · intro n h1 h2; rw [e57]; exact c1 n h1 h2
/-! numbers that are cut at a million -/
def cap (x : Int) : Int := if x < 1000000 then x else 1000000
theorem cap_le (x : Int) : cap x ≤ 1000000 := by unfold cap; split <;> omega
theorem cap_nn {x : Int} (h : 0 ≤ x) : 0 ≤ cap x := by unfold cap; split <;> omega
theorem cap_id {x : Int} (h : x ≤ 1000000) : cap x = x := by unfold cap; split <;> omega
theorem cap_ge {x : Int} (h : 1000000 ≤ x) : cap x = 1000000 := by unfold cap; split <;> omega
theorem cap_cap_add {x y : Int} (hy : 0 ≤ y) : cap (cap x + y) = cap (x + y) := by unfold cap; repeat' split <;> omega
theorem cap_add_cap {x y : Int} (hy : 0 ≤ x) : cap (x + cap y) = cap (x + y) := by unfold cap; repeat' split <;> omega
theorem mul_bd {a b A B : Int} (ha : 0 ≤ a ∧ a ≤ A) (hb : 0 ≤ b ∧ b ≤ B) : 0 ≤ a * b ∧ a * b ≤ A * B :=
  ⟨Int.mul_nonneg ha.1 hb.1, Int.mul_le_mul ha.2 hb.2 hb.1 (by omega)⟩
/-! small methods -/
section
variable {M : Mem} {K : Int → Mem → Prop}
theorem c_in {v lo hi : Int} (a : InR v) (b : InR lo) (c : InR hi) (k1 : lo ≤ v ∧ v ≤ hi → K 1 M) (k0 : ¬ (lo ≤ v ∧ v ≤ hi) → K 0 M) : CI mX12_in [vI v, vI lo, vI hi] M K :=
  en_X12_in ⟨⟨a, b⟩, fun h => k0 (by omega), fun h => ⟨⟨a, c⟩, fun h2 => k0 (by omega), fun h2 => k1 (by omega)⟩⟩
theorem c_isType {v : Int} (a : InR v) (b : 0 ≤ M 50 0 ∧ M 50 0 ≤ 4) (k1 : 0 ≤ v ∧ v < M 50 0 → K 1 M) (k0 : ¬ (0 ≤ v ∧ v < M 50 0) → K 0 M) : CI mX12_isType [vR 50, vI v] M K :=
  en_X12_isType (c_in a (by decide) (by omega) (fun h => ⟨Or.inr rfl, k1 (by omega)⟩) (fun h => ⟨Or.inl rfl, k0 (by omega)⟩))
theorem c_isConstructor {v : Int} (a : InR v) (b : 0 ≤ M 50 1 ∧ M 50 1 ≤ 12) (k1 : 0 ≤ v ∧ v < M 50 1 → K 1 M) (k0 : ¬ (0 ≤ v ∧ v < M 50 1) → K 0 M) : CI mX12_isConstructor [vR 50, vI v] M K :=
  en_X12_isConstructor (c_in a (by decide) (by omega) (fun h => ⟨Or.inr rfl, k1 (by omega)⟩) (fun h => ⟨Or.inl rfl, k0 (by omega)⟩))
theorem c_isNode {v : Int} (a : InR v) (b : 0 ≤ M 50 5 ∧ M 50 5 ≤ 100) (k1 : 0 ≤ v ∧ v < M 50 5 → K 1 M) (k0 : ¬ (0 ≤ v ∧ v < M 50 5) → K 0 M) : CI mX12_isNode [vR 50, vI v] M K :=
  en_X12_isNode (c_in a (by decide) (by omega) (fun h => ⟨Or.inr rfl, k1 (by omega)⟩) (fun h => ⟨Or.inl rfl, k0 (by omega)⟩))
theorem c_capped {x : Int} (a : 0 ≤ x ∧ x ≤ 9000000000000000000) (k : K (cap x) M) : CI mX12_capped [vL x] M K :=
  en_X12_capped ⟨by omega, fun h => by rw [cap_id h] at k; exact k, fun h => by rw [cap_ge (by omega)] at k; exact k⟩
theorem c_hasType {v : Int} (a : InR v) (b : 0 ≤ M 1 0 ∧ M 1 0 ≤ 4) (k1 : 0 ≤ v ∧ v < M 1 0 → K 1 M) (k0 : ¬ (0 ≤ v ∧ v < M 1 0) → K 0 M) : CI mX4_hasType [vR 1, vI v] M K :=
  en_X4_hasType ⟨a, fun h => k0 (by omega), fun h => ⟨⟨a, by omega⟩, fun h2 => k0 (by omega), fun h2 => k1 (by omega)⟩⟩
theorem c_hasConstructor {v : Int} (a : InR v) (b : 0 ≤ M 1 1 ∧ M 1 1 ≤ 12) (k1 : 0 ≤ v ∧ v < M 1 1 → K 1 M) (k0 : ¬ (0 ≤ v ∧ v < M 1 1) → K 0 M) : CI mX4_hasConstructor [vR 1, vI v] M K :=
  en_X4_hasConstructor ⟨a, fun h => k0 (by omega), fun h => ⟨⟨a, by omega⟩, fun h2 => k0 (by omega), fun h2 => k1 (by omega)⟩⟩
theorem c_contains {v : Int} (a : InR v) (b : 0 ≤ M 12 1 ∧ M 12 1 ≤ 100) (k1 : 0 ≤ v ∧ v < M 12 1 → K 1 M) (k0 : ¬ (0 ≤ v ∧ v < M 12 1) → K 0 M) : CI mX0_contains [vR 12, vI v] M K :=
  en_X0_contains ⟨a, fun h => k0 (by omega), fun h => ⟨⟨a, by omega⟩, fun h2 => k0 (by omega), fun h2 => k1 (by omega)⟩⟩
theorem c_typeOfArgument {c k : Int} (a : 0 ≤ c ∧ c < 12) (b : 0 ≤ k ∧ k < 3) (kk : K (M 4 (c * 3 + k)) M) : CI mX4_typeOfArgument [vR 1, vI c, vI k] M K :=
  en_X4_typeOfArgument ⟨by omega, kk⟩
theorem c_isVariable {n : Int} (a : 0 ≤ n ∧ n < 100) (b : InR (M 14 n)) (k1 : M 14 n = -1 → K 1 M) (k0 : M 14 n ≠ -1 → K 0 M) : CI mX0_isVariable [vR 12, vI n] M K :=
  en_X0_isVariable ⟨a, b, fun h => k0 h, fun h => k1 (Decidable.not_not.mp h)⟩
theorem c_keyOf {s i : Int} (k : K (s * 1000000 + i) M) : CI mX8_keyOf [vI s, vI i] M K := en_X8_keyOf k
theorem c_sizeOfKey {x : Int} (a : 0 ≤ x ∧ x ≤ 2147483647) (k : K (x / 1000000) M) : CI mX8_sizeOfKey [vI x] M K := en_X8_sizeOfKey ⟨a, k⟩
theorem c_indexOfKey {x : Int} (a : 0 ≤ x ∧ x ≤ 2147483647) (k : K (x % 1000000) M) : CI mX8_indexOfKey [vI x] M K := en_X8_indexOfKey ⟨a, k⟩
theorem c_countOf {t s : Int} (a : 0 ≤ t ∧ t < 4) (b : 0 ≤ s ∧ s ≤ 12) (k : K (M 9 (t * 13 + s)) M) : CI mX8_countOf [vR 8, vI t, vI s] M K := en_X8_countOf ⟨by omega, k⟩
theorem c_waysOf {c k s : Int} (a : 0 ≤ c ∧ c < 12) (b : 0 ≤ k ∧ k ≤ 3) (e : 0 ≤ s ∧ s ≤ 12) (kk : K (M 11 ((c * 4 + k) * 13 + s)) M) : CI mX8_waysOf [vR 8, vI c, vI k, vI s] M K :=
  en_X8_waysOf (en_X8_wayPlace ⟨by omega, kk⟩)
theorem c_lsum {a b : Int} (ha : 0 ≤ a ∧ a ≤ 1000000) (hb : 0 ≤ b ∧ b ≤ 1000000) (k : K (cap (a + b)) M) : CI mX11_limitedSum [vI a, vI b] M K :=
  en_X11_limitedSum ⟨by omega, fun h => by rw [cap_ge (by omega)] at k; exact k, fun h => by rw [cap_id (by omega)] at k; exact k⟩
theorem c_lprod {a b : Int} (ha : 0 ≤ a ∧ a ≤ 1000000) (hb : 0 ≤ b ∧ b ≤ 1000000) (k : K (cap (a * b)) M) : CI mX11_limitedProduct [vI a, vI b] M K := by
  have h := mul_bd ha hb
  exact en_X11_limitedProduct ⟨by omega, by omega, by omega, fun h => by rw [cap_ge (by omega)] at k; exact k, fun h => by rw [cap_id (by omega)] at k; exact k⟩
theorem c_wayM {c k s : Int} (kk : K ((4 * c + k) * 13 + s) M) : CI mX12_way [vI c, vI k, vI s] M K := en_X12_way kk
theorem c_countOfM {t s : Int} (a : 0 ≤ t ∧ t < 4) (b : 0 ≤ s ∧ s ≤ 12) (k : K (M 63 (13 * t + s)) M) : CI mX12_countOf [vR 50, vI t, vI s] M K := en_X12_countOf ⟨by omega, k⟩
end
