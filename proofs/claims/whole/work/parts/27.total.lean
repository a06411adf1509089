/-! finite types and how many values they have -/
abbrev Us (g : Sg) (c : Int) : Prop := usf g (Sm g) c (ari g c) = true
def Fk (g : Sg) : Nat → Int → Prop
  | 0, _ => False
  | n + 1, t => ∀ c, 0 ≤ c → c < gN g → gR g c = t → Us g c → ∀ k, 0 ≤ k → k < gA g c → Fk g n (gG g (c * 3 + k))
def prk (V : Int → Int) (g : Sg) (c : Int) : Nat → Int
  | 0 => 1
  | k + 1 => cap (prk V g c k * V (gG g (c * 3 + (k : Int))))
def Vk (g : Sg) : Nat → Int → Int
  | 0, _ => 0
  | n + 1, t => csm (fun c => if gR g c = t ∧ Us g c then prk (Vk g n) g c (ari g c) else 0) (gN g).toNat
theorem Fk_mono {g : Sg} : ∀ (n : Nat) (t : Int), Fk g n t → Fk g (n + 1) t
  | 0, _, h => h.elim
  | n + 1, t, h => fun c h0 h1 h2 h3 k k0 k1 => Fk_mono n _ (h c h0 h1 h2 h3 k k0 k1)
theorem Fk_le {g : Sg} {n : Nat} {t : Int} (h : Fk g n t) : ∀ m, n ≤ m → Fk g m t := by
  intro m hm
  induction m with
  | zero =>
    rw [show n = 0 by omega] at h
    exact h
  | succ m ih =>
    by_cases e : n = m + 1
    · rw [← e]; exact h
    · exact Fk_mono m t (ih (by omega))
theorem prk_congr {V V2 : Int → Int} {g : Sg} {c : Int} : ∀ {n : Nat}, (∀ k : Nat, k < n → V (gG g (c * 3 + (k : Int))) = V2 (gG g (c * 3 + (k : Int)))) → prk V g c n = prk V2 g c n
  | 0, _ => rfl
  | n + 1, h => by
    simp only [prk]
    rw [prk_congr (n := n) (fun k hk => h k (by omega)), h n (by omega)]
theorem prk_bd {V : Int → Int} {g : Sg} {c : Int} : ∀ {n : Nat}, (∀ k : Nat, k < n → 0 ≤ V (gG g (c * 3 + (k : Int))) ∧ V (gG g (c * 3 + (k : Int))) ≤ 1000000) → 0 ≤ prk V g c n ∧ prk V g c n ≤ 1000000
  | 0, _ => by simp [prk]
  | n + 1, h => by
    have a := prk_bd (n := n) (fun k hk => h k (by omega))
    have b := h n (by omega)
    simp only [prk]
    exact ⟨cap_nn (Int.mul_nonneg a.1 b.1), cap_le _⟩
theorem prk_zero {V : Int → Int} {g : Sg} {c : Int} : ∀ {n : Nat} {k : Nat}, k < n → V (gG g (c * 3 + (k : Int))) = 0 → prk V g c n = 0
  | 0, k, hk, _ => by omega
  | n + 1, k, hk, h => by
    simp only [prk]
    by_cases e : k = n
    · rw [e] at h
      rw [h, Int.mul_zero]
      rfl
    · rw [prk_zero (n := n) (k := k) (by omega) h, Int.zero_mul]
      rfl
theorem Vk_bd {g : Sg} : ∀ (n : Nat) (t : Int), 0 ≤ Vk g n t ∧ Vk g n t ≤ 1000000
  | 0, _ => by simp [Vk]
  | n + 1, t => by
    simp only [Vk]
    refine csm_bd (fun i hi => ?_)
    split
    · exact (prk_bd (fun k hk => Vk_bd n _)).1
    · omega
theorem Vk_stable {g : Sg} : ∀ (n : Nat) (t : Int), Fk g n t → ∀ m, n ≤ m → Vk g m t = Vk g n t
  | 0, _, h, _, _ => h.elim
  | n + 1, t, h, m, hm => by
    obtain ⟨m2, rfl⟩ : ∃ m2, m = m2 + 1 := ⟨m - 1, by omega⟩
    simp only [Vk]
    refine csm_congr (fun i hi => ?_)
    by_cases q : gR g i = t ∧ Us g i
    · rw [if_pos q, if_pos q]
      refine prk_congr (fun k hk => ?_)
      exact Vk_stable n _ (h i (by omega) (by omega) q.1 q.2 k (by omega) (by unfold ari at hk; omega)) m2 (by omega)
    · rw [if_neg q, if_neg q]
theorem Fk_next {g : Sg} (hg : SgOK g) {n : Nat} {t : Int} (h1 : Fk g (n + 2) t) (h2 : ¬ Fk g (n + 1) t) : (0 ≤ t ∧ t < 4) ∧ ∃ t2, (0 ≤ t2 ∧ t2 < 4) ∧ Fk g (n + 1) t2 ∧ ¬ Fk g n t2 := by
  refine Classical.byContradiction (fun q => h2 (fun c h0 h3 h4 h5 k k0 k1 => Classical.byContradiction (fun z => q ⟨?_, gG g (c * 3 + k), hg.g h0 h3 k0 k1, h1 c h0 h3 h4 h5 k k0 k1, z⟩)))
  rw [← h4]
  exact hg.r h0 h3
theorem Fk_5 {g : Sg} (hg : SgOK g) {t : Int} (h : Fk g 5 t) : Fk g 4 t := by
  refine Classical.byContradiction (fun q => ?_)
  obtain ⟨b0, t1, b1, f1, q1⟩ := Fk_next hg (n := 3) h q
  obtain ⟨-, t2, b2, f2, q2⟩ := Fk_next hg (n := 2) f1 q1
  obtain ⟨-, t3, b3, f3, q3⟩ := Fk_next hg (n := 1) f2 q2
  obtain ⟨-, t4, b4, f4, q4⟩ := Fk_next hg (n := 0) f3 q3
  have d01 : t ≠ t1 := fun e => q (e ▸ f1)
  have d02 : t ≠ t2 := fun e => q (e ▸ Fk_le f2 4 (by omega))
  have d03 : t ≠ t3 := fun e => q (e ▸ Fk_le f3 4 (by omega))
  have d04 : t ≠ t4 := fun e => q (e ▸ Fk_le f4 4 (by omega))
  have d12 : t1 ≠ t2 := fun e => q1 (e ▸ f2)
  have d13 : t1 ≠ t3 := fun e => q1 (e ▸ Fk_le f3 3 (by omega))
  have d14 : t1 ≠ t4 := fun e => q1 (e ▸ Fk_le f4 3 (by omega))
  have d23 : t2 ≠ t3 := fun e => q2 (e ▸ f3)
  have d24 : t2 ≠ t4 := fun e => q2 (e ▸ Fk_le f4 2 (by omega))
  have d34 : t3 ≠ t4 := fun e => q3 (e ▸ f4)
  omega
theorem Vk_5 {g : Sg} {t : Int} (h : Fk g 4 t) : Vk g 5 t = Vk g 4 t := Vk_stable 4 t h 5 (by omega)
/-- an edge between types -/
def Ed (g : Sg) (a b : Int) : Prop := ∃ c k, (0 ≤ c ∧ c < gN g) ∧ Us g c ∧ gR g c = a ∧ (0 ≤ k ∧ k < gA g c) ∧ gG g (c * 3 + k) = b
theorem Ed_F {g : Sg} {a b : Int} (h : Ed g a b) {n : Nat} (hf : Fk g (n + 1) a) : Fk g n b := by
  obtain ⟨c, k, h0, h1, h2, h3, h4⟩ := h
  rw [← h4]
  exact hf c h0.1 h0.2 h2 h1 k h3.1 h3.2
theorem Ed_next {g : Sg} (hg : SgOK g) {t : Int} (h : ¬ Fk g 4 t) : ∃ t2, (0 ≤ t2 ∧ t2 < 4) ∧ Ed g t t2 ∧ ¬ Fk g 4 t2 := by
  refine Classical.byContradiction (fun q => h (Fk_5 hg (fun c h0 h3 h4 h5 k k0 k1 => Classical.byContradiction (fun z => q ⟨gG g (c * 3 + k), hg.g h0 h3 k0 k1, ⟨c, k, ⟨h0, h3⟩, h5, h4, ⟨k0, k1⟩, rfl⟩, z⟩))))
/-- what the closed table of uses says -/
def WtOK (g : Sg) (w : Int → Int) : Prop := (∀ a b, 0 ≤ a → a < 4 → 0 ≤ b → b < 4 → (w (4 * a + b) = 0 ∨ w (4 * a + b) = 1)) ∧ (∀ a b, 0 ≤ a → a < 4 → 0 ≤ b → b < 4 → Ed g a b → w (4 * a + b) ≠ 0) ∧ (∀ a b, 0 ≤ a → a < 4 → 0 ≤ b → b < 4 → w (4 * a + b) ≠ 0 → ∀ n, Fk g (n + 1) a → Fk g n b)
def Trn (w : Int → Int) (p : Int) : Prop := ∀ q a b, 0 ≤ q → q < p → 0 ≤ a → a < 4 → 0 ≤ b → b < 4 → w (4 * a + q) ≠ 0 → w (4 * q + b) ≠ 0 → w (4 * a + b) ≠ 0
def Inf (w : Int → Int) (t : Int) : Prop := w (4 * t + t) ≠ 0 ∨ ∃ m, (0 ≤ m ∧ m < 4) ∧ w (4 * t + m) ≠ 0 ∧ w (4 * m + m) ≠ 0
theorem inf_iff {g : Sg} (hg : SgOK g) {w : Int → Int} (hW : WtOK g w) (hT : Trn w 4) {t : Int} (t0 : 0 ≤ t) (t1 : t < 4) : Inf w t ↔ ¬ Fk g 4 t := by
  have loop : ∀ m, 0 ≤ m → m < 4 → w (4 * m + m) ≠ 0 → ∀ n, ¬ Fk g n m := by
    intro m m0 m1 hw n
    induction n with
    | zero => exact id
    | succ n ih => exact fun h => ih (hW.2.2 m m m0 m1 m0 m1 hw n h)
  constructor
  · rintro (h | ⟨m, hm, h1, h2⟩) hf
    · exact loop t t0 t1 h 4 hf
    · exact loop m hm.1 hm.2 h2 3 (hW.2.2 t m t0 t1 hm.1 hm.2 h1 3 hf)
  · intro hn
    obtain ⟨a, ba, ea, na⟩ := Ed_next hg hn
    obtain ⟨b, bb, eb, nb⟩ := Ed_next hg na
    obtain ⟨c, bc, ec, nc⟩ := Ed_next hg nb
    obtain ⟨d, bd, ed, nd⟩ := Ed_next hg nc
    have wta := hW.2.1 t a t0 t1 ba.1 ba.2 ea
    have wab := hW.2.1 a b ba.1 ba.2 bb.1 bb.2 eb
    have wbc := hW.2.1 b c bb.1 bb.2 bc.1 bc.2 ec
    have wcd := hW.2.1 c d bc.1 bc.2 bd.1 bd.2 ed
    have tr : ∀ x y z, 0 ≤ x → x < 4 → 0 ≤ y → y < 4 → 0 ≤ z → z < 4 → w (4 * x + y) ≠ 0 → w (4 * y + z) ≠ 0 → w (4 * x + z) ≠ 0 := fun x y z a1 a2 a3 a4 a5 a6 h1 h2 => hT y x z a3 a4 a1 a2 a5 a6 h1 h2
    have wtb := tr t a b t0 t1 ba.1 ba.2 bb.1 bb.2 wta wab
    have wtc := tr t b c t0 t1 bb.1 bb.2 bc.1 bc.2 wtb wbc
    have wtd := tr t c d t0 t1 bc.1 bc.2 bd.1 bd.2 wtc wcd
    have wac := tr a b c ba.1 ba.2 bb.1 bb.2 bc.1 bc.2 wab wbc
    have wad := tr a c d ba.1 ba.2 bc.1 bc.2 bd.1 bd.2 wac wcd
    have wbd := tr b c d bb.1 bb.2 bc.1 bc.2 bd.1 bd.2 wbc wcd
    by_cases e1 : t = a
    · exact Or.inl (by rw [← e1] at wta; exact wta)
    by_cases e2 : t = b
    · exact Or.inl (by rw [← e2] at wtb; exact wtb)
    by_cases e3 : t = c
    · exact Or.inl (by rw [← e3] at wtc; exact wtc)
    by_cases e4 : t = d
    · exact Or.inl (by rw [← e4] at wtd; exact wtd)
    by_cases e5 : a = b
    · exact Or.inr ⟨a, ba, wta, by rw [← e5] at wab; exact wab⟩
    by_cases e6 : a = c
    · exact Or.inr ⟨a, ba, wta, by rw [← e6] at wac; exact wac⟩
    by_cases e7 : a = d
    · exact Or.inr ⟨a, ba, wta, by rw [← e7] at wad; exact wad⟩
    by_cases e8 : b = c
    · exact Or.inr ⟨b, bb, wtb, by rw [← e8] at wbc; exact wbc⟩
    by_cases e9 : b = d
    · exact Or.inr ⟨b, bb, wtb, by rw [← e9] at wbd; exact wbd⟩
    by_cases e10 : c = d
    · exact Or.inr ⟨c, bc, wtc, by rw [← e10] at wcd; exact wcd⟩
    omega
/-- one pivot -/
def Piv (w w2 : Int → Int) (m : Int) : Prop := ∀ a b, 0 ≤ a → a < 4 → 0 ≤ b → b < 4 → (w2 (4 * a + b) = 0 ∨ w2 (4 * a + b) = 1) ∧ (w2 (4 * a + b) ≠ 0 ↔ (w (4 * a + b) ≠ 0 ∨ (w (4 * a + m) ≠ 0 ∧ w (4 * m + b) ≠ 0)))
theorem piv_ok {g : Sg} {w w2 : Int → Int} {m : Int} (m0 : 0 ≤ m) (m1 : m < 4) (hW : WtOK g w) (hT : Trn w m) (hP : Piv w w2 m) : WtOK g w2 ∧ Trn w2 (m + 1) := by
  refine ⟨⟨fun a b a0 a1 b0 b1 => (hP a b a0 a1 b0 b1).1, fun a b a0 a1 b0 b1 h => (hP a b a0 a1 b0 b1).2.mpr (Or.inl (hW.2.1 a b a0 a1 b0 b1 h)), fun a b a0 a1 b0 b1 h n hf => ?_⟩, fun q a b q0 q1 a0 a1 b0 b1 h1 h2 => ?_⟩
  · rcases (hP a b a0 a1 b0 b1).2.mp h with z | ⟨z1, z2⟩
    · exact hW.2.2 a b a0 a1 b0 b1 z n hf
    · have f := hW.2.2 a m a0 a1 m0 m1 z1 n hf
      cases n with
      | zero => exact f.elim
      | succ n => exact Fk_mono n b (hW.2.2 m b m0 m1 b0 b1 z2 n f)
  · have h1 := (hP a q a0 a1 q0 (by omega)).2.mp h1
    have h2 := (hP q b q0 (by omega) b0 b1).2.mp h2
    refine (hP a b a0 a1 b0 b1).2.mpr ?_
    by_cases e : q = m
    · subst e
      right
      refine ⟨?_, ?_⟩
      · rcases h1 with z | z
        · exact z
        · exact z.1
      · rcases h2 with z | z
        · exact z
        · exact z.2
    · rcases h1 with z1 | z1 <;> rcases h2 with z2 | z2
      · exact Or.inl (hT q a b q0 (by omega) a0 a1 b0 b1 z1 z2)
      · exact Or.inr ⟨hT q a m q0 (by omega) a0 a1 m0 m1 z1 z2.1, z2.2⟩
      · exact Or.inr ⟨z1.1, hT q m b q0 (by omega) m0 m1 b0 b1 z1.2 z2⟩
      · exact Or.inr ⟨z1.1, z2.2⟩
