/-! values by their places in the order: rows, and keys that stand for blocks -/
section
variable {g : Sg}
/-- which part a place lies in -/
def kpk (g : Sg) (c s o j : Int) : Int := if j < ofs g c s o 1 then 0 else if j < ofs g c s o 2 then 1 else 2
theorem kpk_ok (hg : SgOK g) {c s o k j : Int} (hc : 0 ≤ c ∧ c < gN g) (hs : 1 ≤ s ∧ s ≤ 12) (o0 : 0 ≤ o) (o1 : o < Ws g c 0 (s - 1)) (k0 : 0 ≤ k) (k1 : k < gA g c) (j0 : ofs g c s o k ≤ j) (j1 : j < ofs g c s o k + kS g c s o k) : kpk g c s o j = k := by
  have ha := hg.a hc.1 hc.2
  have z0 : ofs g c s o 0 = 0 := ofs_0
  have s1 : ofs g c s o (0 + 1) = ofs g c s o 0 + kS g c s o 0 := ofs_step (by omega)
  have s2 : ofs g c s o (1 + 1) = ofs g c s o 1 + kS g c s o 1 := ofs_step (by omega)
  rw [show (0 : Int) + 1 = 1 by omega] at s1
  rw [show (1 : Int) + 1 = 2 by omega] at s2
  unfold kpk
  have h3 : k = 0 ∨ k = 1 ∨ k = 2 := by omega
  rcases h3 with e | e | e
  · subst e
    rw [if_pos (by omega)]
  · subst e
    rw [if_neg (by omega), if_pos (by omega)]
  · subst e
    have := (kid_ok (k := 1) hg hc hs o0 o1 (by omega) (by omega)).1.2.1
    rw [if_neg (by omega), if_neg (by omega)]
/-- the row of a value -/
def pw (g : Sg) : Nat → Int → Int → Int → Int → Int
  | 0, _, _, _, _ => 0
  | f + 1, t, s, i, j => if j ≤ 0 then rc g t s i else pw g f (gG g (rc g t s i * 3 + kpk g (rc g t s i) s (rr g t s i) (j - 1))) (kS g (rc g t s i) s (rr g t s i) (kpk g (rc g t s i) s (rr g t s i) (j - 1))) (kI g (rc g t s i) s (rr g t s i) (kpk g (rc g t s i) s (rr g t s i) (j - 1))) (j - 1 - ofs g (rc g t s i) s (rr g t s i) (kpk g (rc g t s i) s (rr g t s i) (j - 1)))
theorem pw_Pr (hg : SgOK g) {W : Int → Int} : ∀ (f : Nat) (p t s i : Int), Vd g t s i → s ≤ f → (∀ j, 0 ≤ j → j < s → W (p + j) = pw g f t s i j) → Pr g W f p t s i
  | 0, p, t, s, i, hv, hf, h => by have := hv.2.1; omega
  | f + 1, p, t, s, i, hv, hf, h => by
    have hs := hv.2.1
    obtain ⟨r1, r2, r3, r4, r5⟩ := root_ok hg hv.2.1.1 hv.2.1.2 hv.2.2.1 hv.2.2.2
    refine ⟨?_, fun k k0 k1 => ?_⟩
    · have := h 0 (by omega) (by omega)
      rw [show p + 0 = p by omega] at this
      rw [this]
      simp only [pw]
      rw [if_pos (by omega)]
    · have kv := kid_ok hg r1 hs r3.1 r3.2 k0 k1
      refine pw_Pr hg f _ _ _ _ kv.1 (by omega) (fun j j0 j1 => ?_)
      have := h (1 + ofs g (rc g t s i) s (rr g t s i) k + j) (by omega) (by omega)
      rw [show p + 1 + ofs g (rc g t s i) s (rr g t s i) k + j = p + (1 + ofs g (rc g t s i) s (rr g t s i) k + j) by omega, this]
      simp only [pw]
      rw [if_neg (by omega), show 1 + ofs g (rc g t s i) s (rr g t s i) k + j - 1 = ofs g (rc g t s i) s (rr g t s i) k + j by omega, kpk_ok hg r1 hs r3.1 r3.2 k0 k1 (by omega) (by omega), show ofs g (rc g t s i) s (rr g t s i) k + j - ofs g (rc g t s i) s (rr g t s i) k = j by omega]
theorem Pr_agree (hg : SgOK g) {W W2 : Int → Int} : ∀ (f f2 : Nat) (x y t s i : Int), Vd g t s i → Pr g W f x t s i → Pr g W2 f2 y t s i → ∀ j, 0 ≤ j → j < s → W (x + j) = W2 (y + j)
  | 0, _, _, _, _, _, _, _, h, _ => h.elim
  | _ + 1, 0, _, _, _, _, _, _, _, h => h.elim
  | f + 1, f2 + 1, x, y, t, s, i, hv, h, h2 => by
    intro j j0 j1
    obtain ⟨r1, r2, r3, r4, r5⟩ := root_ok hg hv.2.1.1 hv.2.1.2 hv.2.2.1 hv.2.2.2
    by_cases e : j = 0
    · rw [e, show x + 0 = x by omega, show y + 0 = y by omega, h.1, h2.1]
    · obtain ⟨k, hk, l1, l2⟩ := in_kid (j := j - 1) hg r1 hv.2.1 r3.1 r3.2 (by omega) (by omega)
      have kv := kid_ok hg r1 hv.2.1 r3.1 r3.2 hk.1 hk.2
      have := Pr_agree hg f f2 _ _ _ _ _ kv.1 (h.2 k hk.1 hk.2) (h2.2 k hk.1 hk.2) (j - 1 - ofs g (rc g t s i) s (rr g t s i) k) (by omega) (by omega)
      rw [show x + 1 + ofs g (rc g t s i) s (rr g t s i) k + (j - 1 - ofs g (rc g t s i) s (rr g t s i) k) = x + j by omega, show y + 1 + ofs g (rc g t s i) s (rr g t s i) k + (j - 1 - ofs g (rc g t s i) s (rr g t s i) k) = y + j by omega] at this
      exact this
/-! the parts name the whole -/
theorem fo_inv {c k lft : Int} : ∀ (n : Nat) (f a a2 : Int), fo g c k lft n f a = fo g c k lft n f a2 → a = a2
  | 0, f, a, a2, h => by
    have : (f, a) = (f, a2) := h
    exact congrArg Prod.snd this
  | n + 1, f, a, a2, h => by
    by_cases q : a < blk g c k lft f <;> by_cases q2 : a2 < blk g c k lft f
    · rw [fo_stop q, fo_stop q2] at h
      exact congrArg Prod.snd h
    · rw [fo_stop q, fo_step q2] at h
      have := fo_ge (g := g) (c := c) (k := k) (lft := lft) n (f + 1) (a2 - blk g c k lft f)
      rw [← h] at this
      have this : f + 1 ≤ f := this
      omega
    · rw [fo_step q, fo_stop q2] at h
      have := fo_ge (g := g) (c := c) (k := k) (lft := lft) n (f + 1) (a - blk g c k lft f)
      rw [h] at this
      have this : f + 1 ≤ f := this
      omega
    · rw [fo_step q, fo_step q2] at h
      have := fo_inv n _ _ _ h
      omega
theorem own_inv {c k lft a b : Int} (h1 : ow g c k lft a = ow g c k lft b) (h2 : oi g c k lft a = oi g c k lft b) (h3 : om g c k lft a = om g c k lft b) : a = b := by
  have e : oa g c k lft a = oa g c k lft b := by
    have qa := Int.mul_ediv_add_emod (oa g c k lft a) (Ws g c (k + 1) (lft - ow g c k lft a))
    have qb := Int.mul_ediv_add_emod (oa g c k lft b) (Ws g c (k + 1) (lft - ow g c k lft b))
    unfold oi at h2
    unfold om at h3
    rw [← qa, ← qb, h2, h3, h1]
  refine fo_inv (g := g) (c := c) (k := k) (lft := lft) lft.toNat 1 a b (Prod.ext ?_ ?_)
  · exact h1
  · exact e
theorem sl_inv {c s o p : Int} (ha : 0 ≤ gA g c) (o0 : 0 ≤ o) (o1 : o < Ws g c 0 (s - 1)) (p0 : 0 ≤ p) (p1 : p < Ws g c 0 (s - 1)) (h : ∀ k, 0 ≤ k → k < gA g c → kS g c s o k = kS g c s p k ∧ kI g c s o k = kI g c s p k) : o = p := by
  have e1 : ∀ k : Nat, (k : Int) ≤ gA g c → (sl g c s o k).1 = (sl g c s p k).1 := by
    intro k
    induction k with
    | zero => intro _; rfl
    | succ k ih =>
      intro hk
      have q := (h k (by omega) (by omega)).1
      have a := sl_step (g := g) (c := c) (s := s) (o := o) (k := (k : Int)) (by omega)
      have b := sl_step (g := g) (c := c) (s := s) (o := p) (k := (k : Int)) (by omega)
      rw [show ((k : Int) + 1).toNat = k + 1 by omega, show ((k : Int)).toNat = k by omega] at a b
      rw [a, b]
      show (sl g c s o k).1 - kS g c s o k = (sl g c s p k).1 - kS g c s p k
      rw [ih (by omega), q]
  have e2 : ∀ m : Nat, (m : Int) ≤ gA g c → (sl g c s o (gA g c - m).toNat).2 = (sl g c s p (gA g c - m).toNat).2 := by
    intro m
    induction m with
    | zero =>
      intro _
      rw [show (gA g c - ((0 : Nat) : Int)).toNat = (gA g c).toNat by omega]
      have a := sl_ok (g := g) (c := c) o0 o1 (gA g c).toNat (by omega)
      have b := sl_ok (g := g) (c := c) p0 p1 (gA g c).toNat (by omega)
      have wa := Ws_0 (g := g) (c := c) (k := (((gA g c).toNat : Nat) : Int)) (tot := (sl g c s o (gA g c).toNat).1) (by omega)
      have wb := Ws_0 (g := g) (c := c) (k := (((gA g c).toNat : Nat) : Int)) (tot := (sl g c s p (gA g c).toNat).1) (by omega)
      have la : Ws g c (((gA g c).toNat : Nat) : Int) (sl g c s o (gA g c).toNat).1 ≤ 1 := by rw [wa]; split <;> omega
      have lb : Ws g c (((gA g c).toNat : Nat) : Int) (sl g c s p (gA g c).toNat).1 ≤ 1 := by rw [wb]; split <;> omega
      have := a.2.1
      have := b.2.1
      omega
    | succ m ih =>
      intro hm
      have i := ih (by omega)
      have q := h (gA g c - ((m + 1 : Nat) : Int)) (by omega) (by omega)
      have a := sl_step (g := g) (c := c) (s := s) (o := o) (k := gA g c - ((m + 1 : Nat) : Int)) (by omega)
      have b := sl_step (g := g) (c := c) (s := s) (o := p) (k := gA g c - ((m + 1 : Nat) : Int)) (by omega)
      rw [show gA g c - ((m + 1 : Nat) : Int) + 1 = gA g c - m by omega] at a b
      rw [a, b] at i
      have e := e1 (gA g c - ((m + 1 : Nat) : Int)).toNat (by omega)
      have i : om g c (gA g c - ((m + 1 : Nat) : Int)) (sl g c s o (gA g c - ((m + 1 : Nat) : Int)).toNat).1 (sl g c s o (gA g c - ((m + 1 : Nat) : Int)).toNat).2 = om g c (gA g c - ((m + 1 : Nat) : Int)) (sl g c s p (gA g c - ((m + 1 : Nat) : Int)).toNat).1 (sl g c s p (gA g c - ((m + 1 : Nat) : Int)).toNat).2 := i
      have q1 := q.1
      have q2 := q.2
      unfold kS at q1
      unfold kI at q2
      rw [e] at i q1 q2
      exact own_inv q1 q2 i
  have := e2 (gA g c).toNat (by omega)
  rw [show (gA g c - (((gA g c).toNat : Nat) : Int)).toNat = 0 by omega] at this
  exact this
theorem psm_mono {F : Nat → Int} (h : ∀ i, 0 ≤ F i) {m : Nat} : ∀ {n : Nat}, m ≤ n → psm F m ≤ psm F n := by
  intro n
  induction n with
  | zero => intro q; rw [show m = 0 by omega]; exact Int.le_refl _
  | succ n ih =>
    intro q
    by_cases e : m = n + 1
    · rw [e]; exact Int.le_refl _
    · have a := ih (by omega)
      have b := h n
      simp only [psm]
      omega
theorem built_iff (hg : SgOK g) {t s i c : Int} (hv : Vd g t s i) (c0 : 0 ≤ c) (c1 : c < gN g) (ct : gR g c = t) : (Ss g c s ≤ i ∧ i - Ss g c s < Ws g c 0 (s - 1)) ↔ rc g t s i = c := by
  obtain ⟨r1, r2, r3, r4, r5⟩ := root_ok hg hv.2.1.1 hv.2.1.2 hv.2.2.1 hv.2.2.2
  constructor
  · intro h
    rcases Int.lt_or_le c (rc g t s i) with q | q
    · have := r5 c c0 q ct
      omega
    · rcases Int.lt_or_le (rc g t s i) c with q2 | q2
      · have e1 : ∀ x, gR g x = t → Ss g x s = cap (psm (Fp g t s) x.toNat) := by
          intro x xt
          have e1 : Ss g x s = csm (Fp g t s) x.toNat := by
            unfold Ss Fp
            rw [xt]
          rw [e1, (csm_cap (F := Fp g t s) (n := x.toNat) (fun j _ => Fp_nn t s j)).1]
        have a := e1 c ct
        have b := e1 _ r2
        have l := cap_le_self (psm (Fp g t s) (rc g t s i).toNat)
        have m := psm_mono (F := Fp g t s) (fun j => Fp_nn t s j) (show (rc g t s i).toNat + 1 ≤ c.toNat by omega)
        have e : psm (Fp g t s) ((rc g t s i).toNat + 1) = psm (Fp g t s) (rc g t s i).toNat + Ws g (rc g t s i) 0 (s - 1) := by
          simp only [psm]
          unfold Fp
          rw [show (((rc g t s i).toNat : Nat) : Int) = rc g t s i by omega, if_pos r2]
        have bC := Cs_bd (g := g) t s
        have hi := hv.2.2
        unfold cap at a
        split at a <;> omega
      · omega
  · intro h
    rw [← h]
    omega
/-- sizes of blocks are the row's -/
def ZU (g : Sg) (W z : Int → Int) (N : Int) : Prop := ∀ x t s i f, 0 ≤ x → x < N → Vd g t s i → Pr g W f x t s i → z x = s
theorem kst_ofs (hg : SgOK g) {W z : Int → Int} {N : Int} (hR : Rw g W N z) (hZ : ZU g W z N) {x t s i : Int} {f : Nat} (x0 : 0 ≤ x) (x1 : x < N) (hv : Vd g t s i) (h : Pr g W (f + 1) x t s i) : ∀ m : Nat, (m : Int) ≤ gA g (rc g t s i) → kst z x m = x + 1 + ofs g (rc g t s i) s (rr g t s i) m := by
  obtain ⟨r1, r2, r3, r4, r5⟩ := root_ok hg hv.2.1.1 hv.2.1.2 hv.2.2.1 hv.2.2.2
  have ez := hZ x t s i (f + 1) x0 x1 hv h
  have lz := (hR.kids x0 x1).2.1
  intro m
  induction m with
  | zero => intro _; show x + 1 = x + 1 + ofs g (rc g t s i) s (rr g t s i) 0; rw [ofs_0]; omega
  | succ m ih =>
    intro hm
    have e := ih (by omega)
    have kv := kid_ok (k := (m : Int)) hg r1 hv.2.1 r3.1 r3.2 (by omega) (by omega)
    have ks := kv.1.2.1
    have q := hZ (x + 1 + ofs g (rc g t s i) s (rr g t s i) m) _ _ _ f (by omega) (by omega) kv.1 (h.2 m (by omega) (by omega))
    show kst z x m + z (kst z x m) = _
    rw [e, q, show ((m + 1 : Nat) : Int) = (m : Int) + 1 by omega, ofs_step (by omega)]
    omega
theorem Pr_sm (hg : SgOK g) {W z : Int → Int} {N : Int} (hR : Rw g W N z) (hZ : ZU g W z N) : ∀ (f f2 : Nat) (x y t s i s2 i2 : Int), 0 ≤ x → x < N → 0 ≤ y → y < N → Vd g t s i → Vd g t s2 i2 → Pr g W f x t s i → Pr g W f2 y t s2 i2 → SmB W z x y → s = s2 ∧ i = i2
  | 0, _, _, _, _, _, _, _, _, _, _, _, _, _, _, h, _ => h.elim
  | _ + 1, 0, _, _, _, _, _, _, _, _, _, _, _, _, _, _, h => h.elim
  | f + 1, f2 + 1, x, y, t, s, i, s2, i2, x0, x1, y0, y1, hv, hv2, h, h2 => by
    intro sm
    have e1 := hZ x t s i _ x0 x1 hv h
    have e2 := hZ y t s2 i2 _ y0 y1 hv2 h2
    have es : s = s2 := by rw [← e1, ← e2]; exact sm.1
    subst es
    refine ⟨rfl, ?_⟩
    obtain ⟨r1, r2, r3, r4, r5⟩ := root_ok hg hv.2.1.1 hv.2.1.2 hv.2.2.1 hv.2.2.2
    obtain ⟨q1, q2, q3, q4, q5⟩ := root_ok hg hv2.2.1.1 hv2.2.1.2 hv2.2.2.1 hv2.2.2.2
    obtain ⟨m1, m2⟩ := hR.sm hg x0 x1 y0 y1 sm
    have kx := hR.kids x0 x1
    have ky := hR.kids y0 y1
    have ec : rc g t s i2 = rc g t s i := by rw [← h.1, ← h2.1, m1]
    have ha := hg.a r1.1 r1.2
    have ox := kst_ofs hg hR hZ x0 x1 hv h
    have oy := kst_ofs hg hR hZ y0 y1 hv2 h2
    have p2 := h2.2
    rw [ec] at q3 q4 oy p2
    rw [h.1] at m2 kx
    rw [h2.1, ec] at ky
    have eo : rr g t s i = rr g t s i2 := by
      refine sl_inv ha.1 r3.1 r3.2 q3.1 q3.2 (fun k k0 k1 => ?_)
      have kv := kid_ok hg r1 hv.2.1 r3.1 r3.2 k0 k1
      have kv2 := kid_ok hg r1 hv.2.1 q3.1 q3.2 k0 k1
      have a := ox k.toNat (by omega)
      have b := oy k.toNat (by omega)
      rw [show ((k.toNat : Nat) : Int) = k by omega] at a b
      have c1 := (kx.2.2.2 k k0 k1).1
      have c2 := (ky.2.2.2 k k0 k1).1
      have sk := m2 k k0 k1
      rw [a] at c1 sk
      rw [b] at c2 sk
      exact Pr_sm hg hR hZ f f2 _ _ _ _ _ _ _ (by omega) c1.2 (by omega) c2.2 kv.1 kv2.1 (h.2 k k0 k1) (p2 k k0 k1) sk
    omega
def Rpk (g : Sg) (W : Int → Int) (N : Int) (j x t : Int) : Prop := (0 ≤ x ∧ x < N) ∧ ∃ s i f, Vd g t s i ∧ j = s * 1000000 + i ∧ Pr g W f x t s i
theorem RpC_key (hg : SgOK g) {W z : Int → Int} {N : Int} {M0 : Mem} (hR : Rw g W N z) (hZ : ZU g W z N) (hX : XSig g M0) (hO : XCnt g M0) : RpC mX8_isBuiltBy mX8_split 8 g W z N M0 (Rpk g W N) := by
  refine ⟨fun j x t h => ?_, fun j j2 x y t h h2 => ?_, fun M K j x t c hF h c0 c1 ct k1 k0 => ?_, fun M K j x t hF h kk => ?_⟩
  · obtain ⟨hx, s, i, f, hv, ej, hp⟩ := h
    have bC := Cs_bd (g := g) t s
    have h1 := hv.2.1
    have h2 := hv.2.2
    exact ⟨hx, by omega⟩
  · obtain ⟨hx, s, i, f, hv, ej, hp⟩ := h
    obtain ⟨hy, s2, i2, f2, hv2, ej2, hp2⟩ := h2
    have bC := Cs_bd (g := g) t s
    have bC2 := Cs_bd (g := g) t s2
    have h3 := hv.2.2
    have h4 := hv2.2.2
    have e1 := hZ x t s i f hx.1 hx.2 hv hp
    have e2 := hZ y t s2 i2 f2 hy.1 hy.2 hv2 hp2
    constructor
    · intro e
      have es : s = s2 := by omega
      have ei : i = i2 := by omega
      subst es
      subst ei
      exact ⟨by rw [e1, e2], fun u u0 u1 => Pr_agree hg f f2 x y t s i hv hp hp2 u u0 (by omega)⟩
    · intro sm
      obtain ⟨es, ei⟩ := Pr_sm hg hR hZ f f2 x y t s i s2 i2 hx.1 hx.2 hy.1 hy.2 hv hv2 hp hp2 sm
      rw [ej, ej2, es, ei]
  · obtain ⟨hx, s, i, f, hv, ej, hp⟩ := h
    have bC := Cs_bd (g := g) t s
    have h3 := hv.2.2
    have hO1 : XCnt g M := by
      unfold XCnt
      rw [hF 9 (by decide), hF 10 (by decide), hF 11 (by decide)]
      exact hO
    have hi := built_iff hg hv c0 c1 ct
    cases f with
    | zero => exact hp.elim
    | succ f =>
      rw [ej]
      exact c_isBuiltBy hg hO1 ⟨c0, c1⟩ hv.2.1 (by omega) (fun y => k1 (hp.1.trans (hi.mp y))) (fun y => k0 (fun e => y (hi.mpr (hp.1.symm.trans e))))
  · obtain ⟨hx, s, i, f, hv, ej, hp⟩ := h
    have bC := Cs_bd (g := g) t s
    have h3 := hv.2.2
    have hO1 : XCnt g M := by
      unfold XCnt
      rw [hF 9 (by decide), hF 10 (by decide), hF 11 (by decide)]
      exact hO
    have hX1 : XSig g M := by
      unfold XSig
      rw [hF 1 (by decide), hF 2 (by decide), hF 3 (by decide), hF 4 (by decide)]
      exact hX
    obtain ⟨r1, r2, r3, r4, r5⟩ := root_ok hg hv.2.1.1 hv.2.1.2 hv.2.2.1 hv.2.2.2
    cases f with
    | zero => exact hp.elim
    | succ f =>
      have ox := kst_ofs hg hR hZ hx.1 hx.2 hv hp
      have kx := hR.kids hx.1 hx.2
      rw [hp.1] at kk kx ⊢
      rw [ej]
      have er : i - Ss g (rc g t s i) s = rr g t s i := by omega
      refine c_split_b hg hX1 hO1 r1 hv.2.1 (by omega) (by omega) (fun M1 hF1 h49 => kk M1 hF1 (fun k k0 k1 => ?_))
      rw [er] at h49
      have kv := kid_ok hg r1 hv.2.1 r3.1 r3.2 k0 k1
      have a := ox k.toNat (by omega)
      rw [show ((k.toNat : Nat) : Int) = k by omega] at a
      have c1 := (kx.2.2.2 k k0 k1).1
      rw [a] at c1 ⊢
      exact ⟨⟨by omega, c1.2⟩, _, _, f, kv.1, h49 k k0 k1, hp.2 k k0 k1⟩
/-- a value has a row -/
theorem row_of (hg : SgOK g) {t s i : Int} (hv : Vd g t s i) : ∃ W z, Pr g W s.toNat 0 t s i ∧ Rw g W s z ∧ z 0 = s ∧ ZU g W z s := by
  have hs := hv.2.1
  have hp : Pr g (pw g s.toNat t s i) s.toNat 0 t s i := pw_Pr hg s.toNat 0 t s i hv (by omega) (fun j j0 j1 => by rw [show 0 + j = j by omega])
  obtain ⟨z, h1, h2⟩ := Pr_rw hg hv hp
  exact ⟨_, z, hp, h1, h2 0 t s i _ (by omega) (by omega) hv hp, h2⟩
end
