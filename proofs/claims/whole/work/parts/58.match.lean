/-! rows and matching: what both sides need -/
section
variable {g : Sg} {d : Nd} {tg : Int → Int}
theorem Rw.congr {W W2 z : Int → Int} {n : Int} (h : Rw g W n z) (e : ∀ x, 0 ≤ x → x < n → W2 x = W x) : Rw g W2 n z := fun x x0 x1 => by
  rw [e x x0 x1]
  exact h x x0 x1
/-- a block that reads like another is as long -/
theorem Rw.len {W z : Int → Int} {n : Int} (h : Rw g W n z) (hg : SgOK g) : ∀ (m : Nat) (x y : Int), (z x).toNat ≤ m → 0 ≤ x → x < n → 0 ≤ y → y < n → (∀ j, 0 ≤ j → j < z x → W (x + j) = W (y + j)) → z y = z x ∧ ∀ k, 0 ≤ k → k < gA g (W x) → kst z y k.toNat - y = kst z x k.toNat - x ∧ z (kst z y k.toNat) = z (kst z x k.toNat) := by
  intro m
  induction m with
  | zero =>
    intro x y hm x0 x1 y0 y1
    have q := (h.kids x0 x1).2.1
    omega
  | succ m ih =>
    intro x y hm x0 x1 y0 y1 hj
    obtain ⟨a1, a2, a3, a4⟩ := h.kids x0 x1
    obtain ⟨b1, b2, b3, b4⟩ := h.kids y0 y1
    have eW : W y = W x := by
      have := hj 0 (by omega) (by omega)
      rw [show x + 0 = x by omega, show y + 0 = y by omega] at this
      exact this.symm
    rw [eW] at b3 b4
    have ha := hg.a a1.1 a1.2
    have key : ∀ k : Nat, (k : Int) ≤ gA g (W x) → kst z y k - y = kst z x k - x ∧ ((k : Int) < gA g (W x) → z (kst z y k) = z (kst z x k)) := by
      intro k
      induction k with
      | zero =>
        intro hk
        have e : kst z y 0 - y = kst z x 0 - x := by show y + 1 - y = x + 1 - x; omega
        refine ⟨e, fun k1 => ?_⟩
        have qa := a4 0 (by omega) k1
        have qb := b4 0 (by omega) k1
        have qz := (h.kids (show 0 ≤ kst z x (0 : Int).toNat by omega) qa.1.2).2.1
        refine (ih (kst z x 0) (kst z y 0) ?_ ?_ ?_ ?_ ?_ ?_).1
        · have qa : (x < kst z x 0 ∧ kst z x 0 < n) ∧ kst z x 0 + z (kst z x 0) ≤ x + z x := qa
          omega
        · have qa : (x < kst z x 0 ∧ kst z x 0 < n) ∧ _ := qa
          omega
        · exact qa.1.2
        · have qb : (y < kst z y 0 ∧ kst z y 0 < n) ∧ _ := qb
          omega
        · exact qb.1.2
        · intro j j0 j1
          have qa : (x < kst z x 0 ∧ kst z x 0 < n) ∧ kst z x 0 + z (kst z x 0) ≤ x + z x := qa
          have := hj (kst z x 0 - x + j) (by omega) (by omega)
          rw [show x + (kst z x 0 - x + j) = kst z x 0 + j by omega, show y + (kst z x 0 - x + j) = kst z y 0 + j by omega] at this
          exact this
      | succ k ihk =>
        intro hk
        obtain ⟨i1, i2⟩ := ihk (by omega)
        have i2 := i2 (by omega)
        have e : kst z y (k + 1) - y = kst z x (k + 1) - x := by
          show kst z y k + z (kst z y k) - y = kst z x k + z (kst z x k) - x
          omega
        refine ⟨e, fun k1 => ?_⟩
        have qa := a4 ((k + 1 : Nat) : Int) (by omega) k1
        have qb := b4 ((k + 1 : Nat) : Int) (by omega) k1
        rw [show (((k + 1 : Nat) : Int)).toNat = k + 1 by omega] at qa qb
        refine (ih (kst z x (k + 1)) (kst z y (k + 1)) (by omega) (by omega) (by omega) (by omega) (by omega) ?_).1
        intro j j0 j1
        have := hj (kst z x (k + 1) - x + j) (by omega) (by omega)
        rw [show x + (kst z x (k + 1) - x + j) = kst z x (k + 1) + j by omega, show y + (kst z x (k + 1) - x + j) = kst z y (k + 1) + j by omega] at this
        exact this
    have e3 := a3 ha.1
    have f3 := b3 ha.1
    have ke := (key (gA g (W x)).toNat (by omega)).1
    refine ⟨by omega, fun k k0 k1 => ?_⟩
    have := key k.toNat (by omega)
    exact ⟨this.1, this.2 (by omega)⟩
/-- blocks are the same if heads and parts are -/
theorem Rw.sm {W z : Int → Int} {n x y : Int} (h : Rw g W n z) (hg : SgOK g) (x0 : 0 ≤ x) (x1 : x < n) (y0 : 0 ≤ y) (y1 : y < n) (s : SmB W z x y) : W x = W y ∧ ∀ k, 0 ≤ k → k < gA g (W x) → SmB W z (kst z x k.toNat) (kst z y k.toNat) := by
  have a2 := (h.kids x0 x1).2.1
  have a4 := (h.kids x0 x1).2.2.2
  have w := (h.len hg _ x y (Nat.le_refl _) x0 x1 y0 y1 s.2).2
  refine ⟨?_, fun k k0 k1 => ?_⟩
  · have := s.2 0 (by omega) (by omega)
    rw [show x + 0 = x by omega, show y + 0 = y by omega] at this
    exact this
  · have q := a4 k k0 k1
    obtain ⟨w1, w2⟩ := w k k0 k1
    refine ⟨w2.symm, fun j j0 j1 => ?_⟩
    have := s.2 (kst z x k.toNat - x + j) (by omega) (by omega)
    rw [show x + (kst z x k.toNat - x + j) = kst z x k.toNat + j by omega, show y + (kst z x k.toNat - x + j) = kst z y k.toNat + j by omega] at this
    exact this
/-- the pairs that are done and those that wait -/
def MI (g : Sg) (d : Nd) (tg : Int → Int) (W z : Int → Int) (p : Int) (D Q : Int → Int → Prop) : Prop :=
  (∀ n x, D n x → Rch g d tg W z p n x) ∧ (∀ n x, Q n x → Rch g d tg W z p n x) ∧ (D p 0 ∨ Q p 0) ∧ (∀ n x, D n x → 0 ≤ nC d n → W x = nC d n) ∧ ∀ n x k, D n x → 0 ≤ nC d n → 0 ≤ k → k < pq g d n → D (kq d tg n k) (kst z x k.toNat) ∨ Q (kq d tg n k) (kst z x k.toNat)
theorem MI.start {W z : Int → Int} {p : Int} {Q : Int → Int → Prop} (h : ∀ n x, Q n x → n = p ∧ x = 0) (h2 : Q p 0) : MI g d tg W z p (fun _ _ => False) Q :=
  ⟨fun _ _ h => h.elim, fun n x q => by obtain ⟨a, b⟩ := h n x q; rw [a, b]; exact Rch.root, Or.inr h2, fun _ _ h => h.elim, fun _ _ _ h => h.elim⟩
theorem MI.step {W z : Int → Int} {p n x : Int} {D Q Q2 : Int → Int → Prop} (h : MI g d tg W z p D Q) (q : Q n x) (hw : 0 ≤ nC d n → W x = nC d n) (hk : ∀ a b, Q a b → (a = n ∧ b = x) ∨ Q2 a b) (hn : ∀ k, 0 ≤ k → k < pq g d n → Q2 (kq d tg n k) (kst z x k.toNat)) (hr : ∀ a b, Q2 a b → Q a b ∨ (0 ≤ nC d n ∧ ∃ k, (0 ≤ k ∧ k < pq g d n) ∧ a = kq d tg n k ∧ b = kst z x k.toNat)) : MI g d tg W z p (fun a b => D a b ∨ (a = n ∧ b = x)) Q2 := by
  obtain ⟨h1, h2, h3, h4, h5⟩ := h
  have up : ∀ a b, D a b ∨ Q a b → (D a b ∨ (a = n ∧ b = x)) ∨ Q2 a b := by
    intro a b u
    rcases u with u | u
    · exact Or.inl (Or.inl u)
    · rcases hk a b u with v | v
      · exact Or.inl (Or.inr v)
      · exact Or.inr v
  refine ⟨fun a b u => ?_, fun a b u => ?_, up p 0 h3, fun a b u c0 => ?_, fun a b k u c0 k0 k1 => ?_⟩
  · rcases u with u | ⟨u, v⟩
    · exact h1 a b u
    · rw [u, v]; exact h2 n x q
  · rcases hr a b u with v | ⟨c0, k, hk, ea, eb⟩
    · exact h2 a b v
    · rw [ea, eb]; exact (h2 n x q).kid c0 (hw c0) hk.1 hk.2
  · rcases u with u | ⟨u, v⟩
    · exact h4 a b u c0
    · rw [u, v]; rw [u] at c0; exact hw c0
  · rcases u with u | ⟨u, v⟩
    · exact up _ _ (h5 a b k u c0 k0 k1)
    · rw [u, v]
      rw [u] at k1
      exact Or.inr (hn k k0 k1)
theorem MI.all {W z : Int → Int} {p : Int} {D Q : Int → Int → Prop} (h : MI g d tg W z p D Q) (no : ∀ a b, ¬ Q a b) : ∀ n x, Rch g d tg W z p n x → D n x := by
  obtain ⟨h1, h2, h3, h4, h5⟩ := h
  intro n x r
  exact r D (fun a b k u c0 _ k0 k1 => (h5 a b k u c0 k0 k1).resolve_right (no _ _)) (h3.resolve_right (no _ _))
theorem MI.mt {W z : Int → Int} {p : Int} {D Q : Int → Int → Prop} (h : MI g d tg W z p D Q) (no : ∀ a b, ¬ Q a b) (hv : ∀ v x y, D v x → D v y → nC d v < 0 → SmB W z x y) : Mt g d tg W z p :=
  ⟨fun n x r c0 => h.2.2.2.1 n x (h.all no n x r) c0, fun v x y rx ry c0 => hv v x y (h.all no v x rx) (h.all no v y ry) c0⟩
/-- the first pattern that matches -/
def FM (g : Sg) (d : Nd) (tg : Int → Int) (W z R : Int → Int) (n r : Int) : Prop := (r = -13 ∧ ∀ j, 0 ≤ j → j < n → ¬ Mt g d tg W z (re tg (R j))) ∨ ((0 ≤ r ∧ r < n) ∧ Mt g d tg W z (re tg (R r)) ∧ ∀ j, 0 ≤ j → j < r → ¬ Mt g d tg W z (re tg (R j)))
theorem FM.uq {W z R : Int → Int} {n r r2 : Int} (h : FM g d tg W z R n r) (k : FM g d tg W z R n r2) : r = r2 := by
  rcases h with ⟨h1, h2⟩ | ⟨h1, h2, h3⟩ <;> rcases k with ⟨k1, k2⟩ | ⟨k1, k2, k3⟩
  · rw [h1, k1]
  · exact absurd k2 (h2 r2 k1.1 k1.2)
  · exact absurd h2 (k2 r h1.1 h1.2)
  · rcases Int.lt_or_le r r2 with q | q
    · exact absurd h2 (k3 r h1.1 q)
    · rcases Int.lt_or_le r2 r with q2 | q2
      · exact absurd k2 (h3 r2 k1.1 q2)
      · omega
end
