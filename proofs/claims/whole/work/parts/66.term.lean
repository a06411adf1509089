/-! small ground terms as rows -/
section
variable {g : Sg} {d : Nd} {tg : Int → Int}
/-- a small ground node -/
def Sml (g : Sg) (d : Nd) (tg : Int → Int) (m : Int) : Prop := (0 ≤ m ∧ m < nN d) ∧ 1 ≤ Sz g d tg m ∧ Sz g d tg m ≤ 60
/-- where part k of the node's row begins -/
def so (g : Sg) (d : Nd) (tg : Int → Int) (m k : Int) : Int := szc (Sz g d tg) d tg m k.toNat
theorem so_0 {m : Int} : so g d tg m 0 = 1 := rfl
theorem Sml.parts (hS : StOK g d tg) {m : Int} (h : Sml g d tg m) : (0 ≤ nC d m ∧ nC d m < gN g) ∧ (pq g d m = gA g (nC d m) ∧ 0 ≤ pq g d m ∧ pq g d m ≤ 3) ∧ so g d tg m (pq g d m) = Sz g d tg m ∧ ∀ k, 0 ≤ k → k < pq g d m → Sml g d tg (kq d tg m k) ∧ (1 ≤ so g d tg m k ∧ so g d tg m (k + 1) ≤ Sz g d tg m) ∧ so g d tg m (k + 1) = so g d tg m k + Sz g d tg (kq d tg m k) := by
  obtain ⟨r, hG⟩ := hS.2.2.2
  obtain ⟨c0, e, hk⟩ := small_kids hS.2.1 hS.2.2.1 hG h.1.1 h.1.2 h.2
  have hp := pq_bd hS.1 hS.2.1 h.1.1 h.1.2
  have hsz := h.2
  refine ⟨⟨c0, (hS.2.1.con h.1.1 h.1.2 c0).1⟩, ⟨by unfold pq; rw [if_neg (by omega)], hp⟩, e, fun k k0 k1 => ?_⟩
  obtain ⟨a1, a2, a3, a4⟩ := hk k k0 k1
  have q := kq_in2 hS.2.1 hS.2.2.1 hG h.1.1 h.1.2 ⟨k0, k1⟩
  exact ⟨⟨q.1, a3, by omega⟩, ⟨a1, a4⟩, a2⟩
theorem Sml.inkid (hS : StOK g d tg) {m j : Int} (h : Sml g d tg m) (j0 : 1 ≤ j) (j1 : j < Sz g d tg m) : ∃ k, (0 ≤ k ∧ k < pq g d m) ∧ so g d tg m k ≤ j ∧ j < so g d tg m (k + 1) := by
  obtain ⟨hc, hp, e, hk⟩ := h.parts hS
  have key : ∀ n : Nat, (n : Int) ≤ pq g d m → j < so g d tg m n → ∃ k, (0 ≤ k ∧ k < pq g d m) ∧ so g d tg m k ≤ j ∧ j < so g d tg m (k + 1) := by
    intro n
    induction n with
    | zero =>
      intro _ h2
      have : so g d tg m ((0 : Nat) : Int) = 1 := rfl
      omega
    | succ n ih =>
      intro h1 h2
      rcases Int.lt_or_le j (so g d tg m n) with q | q
      · exact ih (by omega) q
      · exact ⟨n, by omega, q, by rw [show ((n + 1 : Nat) : Int) = (n : Int) + 1 by omega] at h2; exact h2⟩
  exact key (pq g d m).toNat (by omega) (by rw [show (((pq g d m).toNat : Nat) : Int) = pq g d m by omega]; omega)
/-- a node's row, with the sizes of its blocks -/
def Tm (g : Sg) (d : Nd) (tg : Int → Int) (W z : Int → Int) : Nat → Int → Int → Prop
  | 0, _, _ => False
  | f + 1, x, m => W x = nC d m ∧ z x = Sz g d tg m ∧ ∀ k, 0 ≤ k → k < pq g d m → Tm g d tg W z f (x + so g d tg m k) (kq d tg m k)
def pkn (g : Sg) (d : Nd) (tg : Int → Int) (m j : Int) : Int := if j < so g d tg m 1 then 0 else if j < so g d tg m 2 then 1 else 2
theorem pkn_ok (hS : StOK g d tg) {m k j : Int} (h : Sml g d tg m) (k0 : 0 ≤ k) (k1 : k < pq g d m) (j0 : so g d tg m k ≤ j) (j1 : j < so g d tg m (k + 1)) : pkn g d tg m j = k := by
  obtain ⟨hc, hp, e, hk⟩ := h.parts hS
  unfold pkn
  have h3 : k = 0 ∨ k = 1 ∨ k = 2 := by omega
  rcases h3 with e | e | e
  · subst e
    rw [if_pos (by rw [show (0 : Int) + 1 = 1 by omega] at j1; exact j1)]
  · subst e
    rw [if_neg (by omega), if_pos (by rw [show (1 : Int) + 1 = 2 by omega] at j1; exact j1)]
  · subst e
    have q := (hk 1 (by omega) (by omega)).2.2
    have q2 := (hk 1 (by omega) (by omega)).1.2
    rw [show (1 : Int) + 1 = 2 by omega] at q
    rw [if_neg (by omega), if_neg (by omega)]
/-- the node at a place of the row -/
def ndp (g : Sg) (d : Nd) (tg : Int → Int) : Nat → Int → Int → Int
  | 0, m, _ => m
  | f + 1, m, j => if j ≤ 0 then m else ndp g d tg f (kq d tg m (pkn g d tg m j)) (j - so g d tg m (pkn g d tg m j))
theorem ndp_Tm (hS : StOK g d tg) {W z : Int → Int} : ∀ (f : Nat) (x m : Int), Sml g d tg m → Sz g d tg m ≤ f → (∀ j, 0 ≤ j → j < Sz g d tg m → W (x + j) = nC d (ndp g d tg f m j) ∧ z (x + j) = Sz g d tg (ndp g d tg f m j)) → Tm g d tg W z f x m
  | 0, x, m, hm, hf, h => by have := hm.2; omega
  | f + 1, x, m, hm, hf, h => by
    obtain ⟨hc, hp, e, hk⟩ := hm.parts hS
    have hsz := hm.2
    have h0 := h 0 (by omega) (by omega)
    rw [show x + 0 = x by omega] at h0
    simp only [ndp] at h0
    rw [if_pos (by omega)] at h0
    refine ⟨h0.1, h0.2, fun k k0 k1 => ?_⟩
    obtain ⟨a1, a2, a3⟩ := hk k k0 k1
    have as := a1.2
    refine ndp_Tm hS f _ _ a1 (by omega) (fun j j0 j1 => ?_)
    have hj := h (so g d tg m k + j) (by omega) (by omega)
    rw [show x + so g d tg m k + j = x + (so g d tg m k + j) by omega]
    simp only [ndp] at hj
    rw [if_neg (by omega), pkn_ok hS hm k0 k1 (by omega) (by omega), show so g d tg m k + j - so g d tg m k = j by omega] at hj
    exact hj
theorem Tm_sub (hS : StOK g d tg) {W z : Int → Int} : ∀ (f : Nat) (p m : Int), Sml g d tg m → Tm g d tg W z f p m → ∀ x, p ≤ x → x < p + Sz g d tg m → ∃ m2 f2, Sml g d tg m2 ∧ Tm g d tg W z f2 x m2 ∧ x + Sz g d tg m2 ≤ p + Sz g d tg m
  | 0, _, _, _, h => h.elim
  | f + 1, p, m, hm, h => by
    obtain ⟨hc, hp, e, hk⟩ := hm.parts hS
    intro x x0 x1
    by_cases ex : x = p
    · exact ⟨m, f + 1, hm, by rw [ex]; exact h, by omega⟩
    · obtain ⟨k, hk2, l1, l2⟩ := hm.inkid hS (j := x - p) (by omega) (by omega)
      obtain ⟨a1, a2, a3⟩ := hk k hk2.1 hk2.2
      obtain ⟨m2, f2, v2, p2, l3⟩ := Tm_sub hS f _ _ a1 (h.2.2 k hk2.1 hk2.2) x (by omega) (by omega)
      exact ⟨m2, f2, v2, p2, by omega⟩
theorem Tm_z {W z : Int → Int} {f : Nat} {x m : Int} (h : Tm g d tg W z f x m) : W x = nC d m ∧ z x = Sz g d tg m := by
  cases f with
  | zero => exact h.elim
  | succ f => exact ⟨h.1, h.2.1⟩
theorem Tm_rw (hS : StOK g d tg) {W z : Int → Int} {f : Nat} {m : Int} (hm : Sml g d tg m) (h : Tm g d tg W z f 0 m) : Rw g W (Sz g d tg m) z := by
  intro x x0 x1
  obtain ⟨m2, f2, v2, p2, l3⟩ := Tm_sub hS f 0 m hm h x x0 (by omega)
  obtain ⟨hc, hp, e, hk⟩ := v2.parts hS
  have hsz := v2.2
  cases f2 with
  | zero => exact p2.elim
  | succ f2 =>
    obtain ⟨p3, p4, p5⟩ := p2
    rw [p3, p4]
    refine ⟨hc, ⟨hsz.1, by omega⟩, fun k => x + so g d tg m2 k, ?_, ?_, fun k k0 k1 => ?_⟩
    · dsimp only
      rw [so_0]
    · dsimp only
      rw [← hp.1, e]
    · rw [← hp.1] at k1
      obtain ⟨a1, a2, a3⟩ := hk k k0 k1
      have as := a1.2
      have q := (Tm_z (p5 k k0 k1)).2
      dsimp only
      rw [q]
      exact ⟨⟨by omega, by omega⟩, by omega⟩
theorem kst_so (hS : StOK g d tg) {W z : Int → Int} {f : Nat} {x m : Int} (hm : Sml g d tg m) (h : Tm g d tg W z (f + 1) x m) : ∀ k : Nat, (k : Int) ≤ pq g d m → kst z x k = x + so g d tg m k := by
  obtain ⟨hc, hp, e, hk⟩ := hm.parts hS
  intro k
  induction k with
  | zero => intro _; rfl
  | succ k ih =>
    intro h1
    have i := ih (by omega)
    obtain ⟨a1, a2, a3⟩ := hk k (by omega) (by omega)
    have q := (Tm_z (h.2.2 k (by omega) (by omega))).2
    show kst z x k + z (kst z x k) = _
    rw [i, q, show ((k + 1 : Nat) : Int) = (k : Int) + 1 by omega, a3]
    omega
/-- equal terms have equal rows -/
theorem Tm_te (hS : StOK g d tg) {W z : Int → Int} : ∀ (f f2 : Nat) (x y m m2 : Int), Sml g d tg m → Sml g d tg m2 → Tm g d tg W z f x m → Tm g d tg W z f2 y m2 → Te g d tg m m2 → Sz g d tg m = Sz g d tg m2 ∧ ∀ j, 0 ≤ j → j < Sz g d tg m → W (x + j) = W (y + j)
  | 0, _, _, _, _, _, _, _, h, _ => h.elim
  | _ + 1, 0, _, _, _, _, _, _, _, h => h.elim
  | f + 1, f2 + 1, x, y, m, m2, hm, hm2, h, h2 => by
    intro te
    obtain ⟨r, hG⟩ := hS.2.2.2
    have both : nC d m = nC d m2 ∧ ∀ k, 0 ≤ k → k < pq g d m → Te g d tg (kq d tg m k) (kq d tg m2 k) := by
      rcases (Te_eq hS.2.1 hS.2.2.1 hG hm.1.1 hm.1.2).mp te with e | ⟨e1, e2, e3⟩
      · rw [e]; exact ⟨rfl, fun k _ _ => Te_rf _⟩
      · exact ⟨e2, e3⟩
    obtain ⟨ec, ek⟩ := both
    have ep : pq g d m2 = pq g d m := (pq_same ec).symm
    obtain ⟨hc, hp, e, hk⟩ := hm.parts hS
    obtain ⟨hc2, hp2, e2, hk2⟩ := hm2.parts hS
    rw [ep] at hk2 hp2 e2
    have kid : ∀ k, 0 ≤ k → k < pq g d m → Sz g d tg (kq d tg m k) = Sz g d tg (kq d tg m2 k) ∧ ∀ j, 0 ≤ j → j < Sz g d tg (kq d tg m k) → W (x + so g d tg m k + j) = W (y + so g d tg m2 k + j) := fun k k0 k1 => Tm_te hS f f2 _ _ _ _ (hk k k0 k1).1 (hk2 k k0 k1).1 (h.2.2 k k0 k1) (h2.2.2 k k0 (by rw [ep]; exact k1)) (ek k k0 k1)
    have off : ∀ k : Nat, (k : Int) ≤ pq g d m → so g d tg m k = so g d tg m2 k := by
      intro k
      induction k with
      | zero => intro _; rfl
      | succ k ih =>
        intro h1
        rw [show ((k + 1 : Nat) : Int) = (k : Int) + 1 by omega, (hk k (by omega) (by omega)).2.2, (hk2 k (by omega) (by omega)).2.2, ih (by omega), (kid k (by omega) (by omega)).1]
    have es : Sz g d tg m = Sz g d tg m2 := by
      have := off (pq g d m).toNat (by omega)
      rw [show (((pq g d m).toNat : Nat) : Int) = pq g d m by omega] at this
      omega
    refine ⟨es, fun j j0 j1 => ?_⟩
    by_cases ej : j = 0
    · rw [ej, show x + 0 = x by omega, show y + 0 = y by omega, h.1, h2.1, ec]
    · obtain ⟨k, hk3, l1, l2⟩ := hm.inkid hS (j := j) (by omega) (by omega)
      have a3 := (hk k hk3.1 hk3.2).2.2
      have := (kid k hk3.1 hk3.2).2 (j - so g d tg m k) (by omega) (by omega)
      have o := off k.toNat (by omega)
      rw [show ((k.toNat : Nat) : Int) = k by omega] at o
      rw [← o] at this
      rw [show x + so g d tg m k + (j - so g d tg m k) = x + j by omega, show y + so g d tg m k + (j - so g d tg m k) = y + j by omega] at this
      exact this
/-- equal rows are rows of equal terms -/
theorem Tm_sm (hS : StOK g d tg) {W z : Int → Int} {N : Int} (hR : Rw g W N z) : ∀ (f f2 : Nat) (x y m m2 : Int), 0 ≤ x → x < N → 0 ≤ y → y < N → Sml g d tg m → Sml g d tg m2 → Tm g d tg W z f x m → Tm g d tg W z f2 y m2 → SmB W z x y → Te g d tg m m2
  | 0, _, _, _, _, _, _, _, _, _, _, _, h, _ => h.elim
  | _ + 1, 0, _, _, _, _, _, _, _, _, _, _, _, h => h.elim
  | f + 1, f2 + 1, x, y, m, m2, x0, x1, y0, y1, hm, hm2, h, h2 => by
    intro sm
    obtain ⟨r, hG⟩ := hS.2.2.2
    obtain ⟨s1, s2⟩ := hR.sm hS.1 x0 x1 y0 y1 sm
    obtain ⟨hc, hp, e, hk⟩ := hm.parts hS
    obtain ⟨hc2, hp2, e2, hk2⟩ := hm2.parts hS
    have ec : nC d m = nC d m2 := by rw [← h.1, ← h2.1]; exact s1
    have ep : pq g d m2 = pq g d m := (pq_same ec).symm
    have kx := (hR.kids x0 x1).2.2.2
    have ky := (hR.kids y0 y1).2.2.2
    have ox := kst_so hS hm h
    have oy := kst_so hS hm2 h2
    rw [ep] at hk2 oy
    rw [h.1, ← hp.1] at kx s2
    rw [h2.1, ← hp2.1, ep] at ky
    refine (Te_eq hS.2.1 hS.2.2.1 hG hm.1.1 hm.1.2).mpr (Or.inr ⟨hc.1, ec, fun k k0 k1 => ?_⟩)
    have a := ox k.toNat (by omega)
    have b := oy k.toNat (by omega)
    rw [show ((k.toNat : Nat) : Int) = k by omega] at a b
    have c1 := (kx k k0 k1).1
    have c2 := (ky k k0 k1).1
    have sk := s2 k k0 k1
    rw [a] at c1 sk
    rw [b] at c2 sk
    exact Tm_sm hS hR f f2 _ _ _ _ (by omega) c1.2 (by omega) c2.2 (hk k k0 k1).1 (hk2 k k0 k1).1 (h.2.2 k k0 k1) (h2.2.2 k k0 (by rw [ep]; exact k1)) sk
/-- a small ground node has a row -/
theorem trow_of (hS : StOK g d tg) {m : Int} (hm : Sml g d tg m) : ∃ W z, Tm g d tg W z (Sz g d tg m).toNat 0 m ∧ Rw g W (Sz g d tg m) z ∧ z 0 = Sz g d tg m := by
  have hsz := hm.2
  have hp : Tm g d tg (fun j => nC d (ndp g d tg (Sz g d tg m).toNat m j)) (fun j => Sz g d tg (ndp g d tg (Sz g d tg m).toNat m j)) (Sz g d tg m).toNat 0 m := ndp_Tm hS _ 0 m hm (by omega) (fun j j0 j1 => by rw [show 0 + j = j by omega]; exact ⟨rfl, rfl⟩)
  exact ⟨_, _, hp, Tm_rw hS hm hp, (Tm_z hp).2⟩
end
