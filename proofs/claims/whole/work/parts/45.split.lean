/-! the value at a place in the order: its root and its parts -/
def psm (F : Nat → Int) : Nat → Int
  | 0 => 0
  | n + 1 => psm F n + F n
theorem csm_cap {F : Nat → Int} : ∀ {n : Nat}, (∀ i, i < n → 0 ≤ F i) → csm F n = cap (psm F n) ∧ 0 ≤ psm F n
  | 0, _ => ⟨rfl, by simp [psm]⟩
  | n + 1, h => by
    have a := csm_cap (n := n) (fun i hi => h i (by omega))
    have b := h n (by omega)
    simp only [csm, psm]
    rw [a.1, cap_cap_add b]
    exact ⟨rfl, by omega⟩
theorem cap_le_self (x : Int) : cap x ≤ x := by unfold cap; split <;> omega
def blk (g : Sg) (c k lft f : Int) : Int := cap (Cs g (gG g (c * 3 + k)) f * Ws g c (k + 1) (lft - f))
def fo (g : Sg) (c k lft : Int) : Nat → Int → Int → Int × Int
  | 0, f, a => (f, a)
  | n + 1, f, a => if a < blk g c k lft f then (f, a) else fo g c k lft n (f + 1) (a - blk g c k lft f)
def ro (g : Sg) (t s : Int) : Nat → Int → Int → Int × Int
  | 0, c, a => (c, a)
  | n + 1, c, a => if gR g c = t ∧ a < Ws g c 0 (s - 1) then (c, a) else ro g t s n (c + 1) (a - if gR g c = t then Ws g c 0 (s - 1) else 0)
section
variable {g : Sg}
theorem blk_bd (c k lft f : Int) : 0 ≤ blk g c k lft f ∧ blk g c k lft f ≤ 1000000 :=
  ⟨cap_nn (Int.mul_nonneg (Cs_bd _ _).1 (Ws_bd _ _ _).1), cap_le _⟩
/-- from block f on, with a left: a block is found -/
theorem fo_ok {c k lft : Int} : ∀ (n : Nat) (f a : Int), (n : Int) = lft - f + 1 → 1 ≤ f → 0 ≤ a → a < psm (fun i => blk g c k lft ((i : Int) + 1)) lft.toNat - psm (fun i => blk g c k lft ((i : Int) + 1)) (f - 1).toNat → f ≤ (fo g c k lft n f a).1 ∧ (fo g c k lft n f a).1 ≤ lft ∧ 0 ≤ (fo g c k lft n f a).2 ∧ (fo g c k lft n f a).2 < blk g c k lft (fo g c k lft n f a).1
  | 0, f, a, hn, f1, a0, ha => by
    rw [show (f - 1).toNat = lft.toNat by omega] at ha
    omega
  | n + 1, f, a, hn, f1, a0, ha => by
    simp only [fo]
    split
    · rename_i q
      exact ⟨by omega, by omega, a0, q⟩
    · rename_i q
      have e : psm (fun i => blk g c k lft ((i : Int) + 1)) (f + 1 - 1).toNat = psm (fun i => blk g c k lft ((i : Int) + 1)) (f - 1).toNat + blk g c k lft f := by
        rw [show (f + 1 - 1).toNat = (f - 1).toNat + 1 by omega]
        simp only [psm]
        rw [show (((f - 1).toNat : Nat) : Int) + 1 = f by omega]
      have w := fo_ok (c := c) (k := k) (lft := lft) n (f + 1) (a - blk g c k lft f) (by omega) (by omega) (by omega) (by rw [e]; omega)
      exact ⟨by omega, w.2.1, w.2.2.1, w.2.2.2⟩
/-- the part of argument k when lft is left in size, a in index -/
def ow (g : Sg) (c k lft a : Int) : Int := (fo g c k lft lft.toNat 1 a).1
def oa (g : Sg) (c k lft a : Int) : Int := (fo g c k lft lft.toNat 1 a).2
def oi (g : Sg) (c k lft a : Int) : Int := oa g c k lft a / Ws g c (k + 1) (lft - ow g c k lft a)
def om (g : Sg) (c k lft a : Int) : Int := oa g c k lft a % Ws g c (k + 1) (lft - ow g c k lft a)
theorem own_ok {c k lft a : Int} (k0 : 0 ≤ k) (k1 : k < gA g c) (a0 : 0 ≤ a) (ha : a < Ws g c k lft) : (1 ≤ ow g c k lft a ∧ ow g c k lft a ≤ lft) ∧ (0 ≤ oa g c k lft a ∧ oa g c k lft a < blk g c k lft (ow g c k lft a)) ∧ 0 < Ws g c (k + 1) (lft - ow g c k lft a) ∧ (0 ≤ oi g c k lft a ∧ oi g c k lft a < Cs g (gG g (c * 3 + k)) (ow g c k lft a)) ∧ (0 ≤ om g c k lft a ∧ om g c k lft a < Ws g c (k + 1) (lft - ow g c k lft a)) := by
  have e := Ws_eq (g := g) (c := c) (k := k) (tot := lft) k0 k1
  have e2 : Ws g c k lft = csm (fun i => blk g c k lft ((i : Int) + 1)) lft.toNat := e
  have q := csm_cap (F := fun i => blk g c k lft ((i : Int) + 1)) (n := lft.toNat) (fun i _ => (blk_bd _ _ _ _).1)
  have q2 := cap_le_self (psm (fun i => blk g c k lft ((i : Int) + 1)) lft.toNat)
  have l0 : 0 < lft := by
    refine Classical.byContradiction (fun z => ?_)
    rw [show lft.toNat = 0 by omega] at e2
    have : csm (fun i => blk g c k lft ((i : Int) + 1)) 0 = 0 := rfl
    omega
  have w := fo_ok (g := g) (c := c) (k := k) (lft := lft) lft.toNat 1 a (by omega) (by omega) a0 (by
    have : psm (fun i => blk g c k lft ((i : Int) + 1)) (1 - 1 : Int).toNat = 0 := rfl
    omega)
  have w1 : (1 ≤ ow g c k lft a ∧ ow g c k lft a ≤ lft) ∧ (0 ≤ oa g c k lft a ∧ oa g c k lft a < blk g c k lft (ow g c k lft a)) := ⟨⟨w.1, w.2.1⟩, w.2.2.1, w.2.2.2⟩
  have bC := Cs_bd (g := g) (gG g (c * 3 + k)) (ow g c k lft a)
  have bW := Ws_bd (g := g) c (k + 1) (lft - ow g c k lft a)
  have q3 := cap_le_self (Cs g (gG g (c * 3 + k)) (ow g c k lft a) * Ws g c (k + 1) (lft - ow g c k lft a))
  have lt : oa g c k lft a < Cs g (gG g (c * 3 + k)) (ow g c k lft a) * Ws g c (k + 1) (lft - ow g c k lft a) := by
    have := w1.2.2
    unfold blk at this
    omega
  have W0 : 0 < Ws g c (k + 1) (lft - ow g c k lft a) := by
    refine Classical.byContradiction (fun z => ?_)
    rw [show Ws g c (k + 1) (lft - ow g c k lft a) = 0 by omega, Int.mul_zero] at lt
    omega
  refine ⟨w1.1, w1.2, W0, ⟨Int.ediv_nonneg w1.2.1 (by omega), Int.ediv_lt_of_lt_mul W0 lt⟩, Int.emod_nonneg _ (by omega), Int.emod_lt_of_pos _ W0⟩
/-- the root's constructor and what is left of the index -/
def rc (g : Sg) (t s i : Int) : Int := (ro g t s (gN g).toNat 0 i).1
def rr (g : Sg) (t s i : Int) : Int := (ro g t s (gN g).toNat 0 i).2
def Fp (g : Sg) (t s : Int) : Nat → Int := fun i => if gR g i = t then Ws g i 0 (s - 1) else 0
theorem Fp_nn (t s : Int) (i : Nat) : 0 ≤ Fp g t s i := by
  unfold Fp
  split
  · exact (Ws_bd _ _ _).1
  · omega
theorem ro_ok {t s i : Int} : ∀ (n : Nat) (c a : Int), (n : Int) = gN g - c → 0 ≤ c → 0 ≤ a → a = i - psm (Fp g t s) c.toNat → i < psm (Fp g t s) (gN g).toNat → (c ≤ (ro g t s n c a).1 ∧ (ro g t s n c a).1 < gN g) ∧ gR g (ro g t s n c a).1 = t ∧ (0 ≤ (ro g t s n c a).2 ∧ (ro g t s n c a).2 < Ws g (ro g t s n c a).1 0 (s - 1)) ∧ (ro g t s n c a).2 = i - psm (Fp g t s) (ro g t s n c a).1.toNat ∧ ∀ x, c ≤ x → x < (ro g t s n c a).1 → gR g x = t → psm (Fp g t s) x.toNat ≤ i ∧ Ws g x 0 (s - 1) ≤ i - psm (Fp g t s) x.toNat
  | 0, c, a, hn, c0, a0, ea, hi => by
    rw [show gN g = c by omega] at hi
    omega
  | n + 1, c, a, hn, c0, a0, ea, hi => by
    simp only [ro]
    split
    · rename_i q
      exact ⟨⟨by omega, by omega⟩, q.1, ⟨a0, q.2⟩, ea, fun x x0 x1 => by omega⟩
    · rename_i q
      have e : psm (Fp g t s) (c + 1).toNat = psm (Fp g t s) c.toNat + (if gR g c = t then Ws g c 0 (s - 1) else 0) := by
        rw [show (c + 1).toNat = c.toNat + 1 by omega]
        simp only [psm]
        unfold Fp
        rw [show ((c.toNat : Nat) : Int) = c by omega]
      have ge : (if gR g c = t then Ws g c 0 (s - 1) else 0) ≤ a := by
        by_cases z : gR g c = t
        · rw [if_pos z]
          have : ¬ a < Ws g c 0 (s - 1) := fun y => q ⟨z, y⟩
          omega
        · rw [if_neg z]; exact a0
      have w := ro_ok (t := t) (s := s) (i := i) n (c + 1) (a - if gR g c = t then Ws g c 0 (s - 1) else 0) (by omega) (by omega) (by omega) (by rw [e]; omega) hi
      refine ⟨⟨by have := w.1.1; omega, w.1.2⟩, w.2.1, w.2.2.1, w.2.2.2.1, fun x x0 x1 xt => ?_⟩
      by_cases z : x = c
      · subst z
        rw [if_pos xt] at ge
        exact ⟨by omega, by omega⟩
      · exact w.2.2.2.2 x (by omega) x1 xt
theorem root_ok {t s i : Int} (hg : SgOK g) (s0 : 1 ≤ s) (s1 : s ≤ 12) (i0 : 0 ≤ i) (i1 : i < Cs g t s) : (0 ≤ rc g t s i ∧ rc g t s i < gN g) ∧ gR g (rc g t s i) = t ∧ (0 ≤ rr g t s i ∧ rr g t s i < Ws g (rc g t s i) 0 (s - 1)) ∧ Ss g (rc g t s i) s = i - rr g t s i ∧ ∀ x, 0 ≤ x → x < rc g t s i → gR g x = t → Ss g x s ≤ i ∧ Ws g x 0 (s - 1) ≤ i - Ss g x s := by
  have hn := hg.n
  have eC : Cs g t s = csm (Fp g t s) (gN g).toNat := Cs_eq s0 s1
  have qC := csm_cap (F := Fp g t s) (n := (gN g).toNat) (fun j _ => Fp_nn t s j)
  have q2 := cap_le_self (psm (Fp g t s) (gN g).toNat)
  have bC := Cs_bd (g := g) t s
  have w := ro_ok (g := g) (t := t) (s := s) (i := i) (gN g).toNat 0 i (by omega) (by omega) i0 (by show i = i - psm (Fp g t s) 0; simp [psm]) (by omega)
  have eS : ∀ x, 0 ≤ x → gR g x = t → psm (Fp g t s) x.toNat ≤ i → Ss g x s = psm (Fp g t s) x.toNat := by
    intro x x0 xt hx
    have e1 : Ss g x s = csm (Fp g t s) x.toNat := by
      unfold Ss Fp
      rw [xt]
    have e2 := csm_cap (F := Fp g t s) (n := x.toNat) (fun j _ => Fp_nn t s j)
    rw [e1, e2.1, cap_id (by omega)]
  have wr : rr g t s i = i - psm (Fp g t s) (rc g t s i).toNat := w.2.2.2.1
  refine ⟨⟨w.1.1, w.1.2⟩, w.2.1, w.2.2.1, ?_, fun x x0 x1 xt => ?_⟩
  · have h2 : 0 ≤ rr g t s i := w.2.2.1.1
    have h3 := eS (rc g t s i) w.1.1 w.2.1 (by omega)
    omega
  · have y := w.2.2.2.2 x x0 x1 xt
    rw [eS x x0 xt y.1]
    exact y
/-- sizes and indices before argument k -/
def sl (g : Sg) (c : Int) (s o : Int) : Nat → Int × Int
  | 0 => (s - 1, o)
  | k + 1 => ((sl g c s o k).1 - ow g c k (sl g c s o k).1 (sl g c s o k).2, om g c k (sl g c s o k).1 (sl g c s o k).2)
def kS (g : Sg) (c s o k : Int) : Int := ow g c k (sl g c s o k.toNat).1 (sl g c s o k.toNat).2
def kI (g : Sg) (c s o k : Int) : Int := oi g c k (sl g c s o k.toNat).1 (sl g c s o k.toNat).2
theorem sl_ok {c s o : Int} (o0 : 0 ≤ o) (o1 : o < Ws g c 0 (s - 1)) : ∀ k : Nat, (k : Int) ≤ gA g c → 0 ≤ (sl g c s o k).2 ∧ (sl g c s o k).2 < Ws g c k (sl g c s o k).1 ∧ (sl g c s o k).1 ≤ s - 1 - k
  | 0, _ => ⟨o0, o1, by show s - 1 ≤ _; omega⟩
  | k + 1, hk => by
    have w := sl_ok o0 o1 k (by omega)
    have q := own_ok (g := g) (c := c) (k := (k : Int)) (by omega) (by omega) w.1 w.2.1
    refine ⟨q.2.2.2.2.1, q.2.2.2.2.2, ?_⟩
    show (sl g c s o k).1 - ow g c k (sl g c s o k).1 (sl g c s o k).2 ≤ _
    have := q.1.1
    have := w.2.2
    omega
end
