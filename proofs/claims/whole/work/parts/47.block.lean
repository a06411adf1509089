/-! the nodes of a value: a block of numbers, parts before wholes -/
def Vd (g : Sg) (t s i : Int) : Prop := (0 ≤ t ∧ t < gT g) ∧ (1 ≤ s ∧ s ≤ 12) ∧ 0 ≤ i ∧ i < Cs g t s
section
variable {g : Sg}
/-- sizes of the parts before part k -/
def ofs (g : Sg) (c s o k : Int) : Int := s - 1 - (sl g c s o k.toNat).1
theorem ofs_0 {c s o : Int} : ofs g c s o 0 = 0 := by
  unfold ofs
  show s - 1 - (s - 1) = 0
  omega
theorem ofs_step {c s o k : Int} (k0 : 0 ≤ k) : ofs g c s o (k + 1) = ofs g c s o k + kS g c s o k := by
  unfold ofs
  rw [sl_step k0]
  dsimp only
  omega
theorem ofs_end {c s o : Int} (ha : 0 ≤ gA g c) (o0 : 0 ≤ o) (o1 : o < Ws g c 0 (s - 1)) : ofs g c s o (gA g c) = s - 1 := by
  have w := sl_ok o0 o1 (gA g c).toNat (by omega)
  rw [show (((gA g c).toNat : Nat) : Int) = gA g c by omega] at w
  rw [Ws_0 rfl] at w
  unfold ofs
  split at w <;> omega
theorem kid_ok (hg : SgOK g) {c s o k : Int} (hc : 0 ≤ c ∧ c < gN g) (hs : 1 ≤ s ∧ s ≤ 12) (o0 : 0 ≤ o) (o1 : o < Ws g c 0 (s - 1)) (k0 : 0 ≤ k) (k1 : k < gA g c) : Vd g (gG g (c * 3 + k)) (kS g c s o k) (kI g c s o k) ∧ 0 ≤ ofs g c s o k ∧ ofs g c s o k + kS g c s o k ≤ s - 1 := by
  have w := sl_in (g := g) o0 o1 k0 k1
  have q := own_ok (g := g) (c := c) (k := k) k0 k1 w.1.1 w.1.2
  have hgg := (hg.2.2 c hc.1 hc.2).2.2 k k0 k1
  have q1 : 1 ≤ kS g c s o k ∧ kS g c s o k ≤ (sl g c s o k.toNat).1 := q.1
  have q2 : 0 ≤ kI g c s o k ∧ kI g c s o k < Cs g (gG g (c * 3 + k)) (kS g c s o k) := q.2.2.2.1
  unfold ofs
  exact ⟨⟨hgg, by omega, q2⟩, by omega, by omega⟩
/-- a place before the root is in one of the parts -/
theorem in_kid (hg : SgOK g) {c s o j : Int} (hc : 0 ≤ c ∧ c < gN g) (hs : 1 ≤ s ∧ s ≤ 12) (o0 : 0 ≤ o) (o1 : o < Ws g c 0 (s - 1)) (j0 : 0 ≤ j) (j1 : j < s - 1) : ∃ k, (0 ≤ k ∧ k < gA g c) ∧ ofs g c s o k ≤ j ∧ j < ofs g c s o k + kS g c s o k := by
  have ha := hg.a hc.1 hc.2
  have he := ofs_end (g := g) (c := c) (s := s) ha.1 o0 o1
  have main : ∀ (m : Nat) (k : Int), (gA g c - k).toNat = m → 0 ≤ k → k ≤ gA g c → ofs g c s o k ≤ j → ∃ k, (0 ≤ k ∧ k < gA g c) ∧ ofs g c s o k ≤ j ∧ j < ofs g c s o k + kS g c s o k := by
    intro m
    induction m with
    | zero =>
      intro k hm k0 k1 hj
      rw [show k = gA g c by omega, he] at hj
      omega
    | succ m ih =>
      intro k hm k0 k1 hj
      by_cases lt : j < ofs g c s o k + kS g c s o k
      · exact ⟨k, ⟨k0, by omega⟩, hj, lt⟩
      · exact ih (k + 1) (by omega) (by omega) (by omega) (by rw [ofs_step k0]; omega)
  exact main _ 0 rfl (by omega) ha.1 (by rw [ofs_0]; exact j0)
def Bt (g : Sg) (Y C N : Int → Int) : Nat → Int → Int → Int → Int → Prop
  | 0, _, _, _, _ => False
  | f + 1, b, t, s, i => Y (b + s - 1) = t ∧ C (b + s - 1) = rc g t s i ∧ ∀ k, 0 ≤ k → k < gA g (rc g t s i) → N ((b + s - 1) * 3 + k) = b + ofs g (rc g t s i) s (rr g t s i) k + kS g (rc g t s i) s (rr g t s i) k - 1 ∧ Bt g Y C N f (b + ofs g (rc g t s i) s (rr g t s i) k) (gG g (rc g t s i * 3 + k)) (kS g (rc g t s i) s (rr g t s i) k) (kI g (rc g t s i) s (rr g t s i) k)
/-- tables that agree on the block -/
theorem Bt_congr (hg : SgOK g) {Y C N Y2 C2 N2 : Int → Int} : ∀ (f : Nat) (b t s i : Int), Vd g t s i → Bt g Y C N f b t s i → (∀ n, b ≤ n → n < b + s → Y2 n = Y n ∧ C2 n = C n ∧ ∀ k, 0 ≤ k → k < 3 → N2 (n * 3 + k) = N (n * 3 + k)) → Bt g Y2 C2 N2 f b t s i
  | 0, _, _, _, _, _, h, _ => h
  | f + 1, b, t, s, i, hv, h, he => by
    obtain ⟨r1, r2, r3, r4, r5⟩ := root_ok hg hv.2.1.1 hv.2.1.2 hv.2.2.1 hv.2.2.2
    have ha := hg.a r1.1 r1.2
    have hs := hv.2.1
    have w := he (b + s - 1) (by omega) (by omega)
    refine ⟨by rw [w.1]; exact h.1, by rw [w.2.1]; exact h.2.1, fun k k0 k1 => ?_⟩
    have q := h.2.2 k k0 k1
    have kv := kid_ok hg r1 hs r3.1 r3.2 k0 k1
    exact ⟨by rw [w.2.2 k k0 (by omega)]; exact q.1, Bt_congr hg f _ _ _ _ kv.1 q.2 (fun n n0 n1 => he n (by omega) (by omega))⟩
/-- the block is in order -/
theorem Bt_ok (hg : SgOK g) {Y C N : Int → Int} : ∀ (f : Nat) (b t s i : Int), Vd g t s i → Bt g Y C N f b t s i → ∀ n, b ≤ n → n < b + s → (0 ≤ C n ∧ C n < gN g) ∧ Y n = gR g (C n) ∧ ∀ k, 0 ≤ k → k < gA g (C n) → (b ≤ N (n * 3 + k) ∧ N (n * 3 + k) < n) ∧ Y (N (n * 3 + k)) = gG g (C n * 3 + k)
  | 0, _, _, _, _, _, h => h.elim
  | f + 1, b, t, s, i, hv, h => by
    obtain ⟨r1, r2, r3, r4, r5⟩ := root_ok hg hv.2.1.1 hv.2.1.2 hv.2.2.1 hv.2.2.2
    have hs := hv.2.1
    intro n n0 n1
    by_cases e : n = b + s - 1
    · subst e
      rw [h.2.1, h.1]
      refine ⟨r1, r2.symm, fun k k0 k1 => ?_⟩
      have q := h.2.2 k k0 k1
      have kv := kid_ok hg r1 hs r3.1 r3.2 k0 k1
      have k1s := kv.1.2.1
      rw [q.1]
      refine ⟨by omega, ?_⟩
      cases f with
      | zero => exact q.2.elim
      | succ f => exact q.2.1
    · obtain ⟨k, hk, l1, l2⟩ := in_kid (j := n - b) hg r1 hs r3.1 r3.2 (by omega) (by omega)
      have kv := kid_ok hg r1 hs r3.1 r3.2 hk.1 hk.2
      have w := Bt_ok hg f _ _ _ _ kv.1 (h.2.2 k hk.1 hk.2).2 n (by omega) (by omega)
      refine ⟨w.1, w.2.1, fun k2 k20 k21 => ?_⟩
      have w3 := w.2.2 k2 k20 k21
      exact ⟨by omega, w3.2⟩
/-- two tables of one value say the same -/
theorem Bt_same (hg : SgOK g) {Y C N Y2 C2 N2 : Int → Int} : ∀ (f : Nat) (b t s i : Int), Vd g t s i → Bt g Y C N f b t s i → Bt g Y2 C2 N2 f b t s i → ∀ n, b ≤ n → n < b + s → Y2 n = Y n ∧ C2 n = C n ∧ ∀ k, 0 ≤ k → k < gA g (C n) → N2 (n * 3 + k) = N (n * 3 + k)
  | 0, _, _, _, _, _, h, _ => h.elim
  | f + 1, b, t, s, i, hv, h, h2 => by
    obtain ⟨r1, r2, r3, r4, r5⟩ := root_ok hg hv.2.1.1 hv.2.1.2 hv.2.2.1 hv.2.2.2
    have hs := hv.2.1
    intro n n0 n1
    by_cases e : n = b + s - 1
    · subst e
      rw [h.2.1, h.1, h2.1, h2.2.1]
      refine ⟨rfl, rfl, fun k k0 k1 => ?_⟩
      rw [(h.2.2 k k0 k1).1, (h2.2.2 k k0 k1).1]
    · obtain ⟨k, hk, l1, l2⟩ := in_kid (j := n - b) hg r1 hs r3.1 r3.2 (by omega) (by omega)
      have kv := kid_ok hg r1 hs r3.1 r3.2 hk.1 hk.2
      exact Bt_same hg f _ _ _ _ kv.1 (h.2.2 k hk.1 hk.2).2 (h2.2.2 k hk.1 hk.2).2 n (by omega) (by omega)
/-- more fuel does no harm -/
theorem Bt_up {Y C N : Int → Int} : ∀ (f : Nat) (b t s i : Int), Bt g Y C N f b t s i → Bt g Y C N (f + 1) b t s i
  | 0, _, _, _, _, h => h.elim
  | f + 1, b, t, s, i, h => ⟨h.1, h.2.1, fun k k0 k1 => ⟨(h.2.2 k k0 k1).1, Bt_up f _ _ _ _ (h.2.2 k k0 k1).2⟩⟩
theorem Bt_le {Y C N : Int → Int} {f : Nat} {b t s i : Int} (h : Bt g Y C N f b t s i) : ∀ f2, f ≤ f2 → Bt g Y C N f2 b t s i := by
  intro f2 hf
  induction f2 with
  | zero =>
    rw [show f = 0 by omega] at h
    exact h
  | succ f2 ih =>
    by_cases e : f = f2 + 1
    · rw [← e]; exact h
    · exact Bt_up f2 _ _ _ _ (ih (by omega))
end
