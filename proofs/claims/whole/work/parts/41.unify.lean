/-! unification: one run, told once for both sides -/
def st1 (f : Int → Int) (v w : Int) : Int → Int := fun i => if i = v then w else f i
theorem st1_same {f : Int → Int} {v w : Int} : st1 f v w v = w := by unfold st1; rw [if_pos rfl]
theorem st1_ne {f : Int → Int} {v w x : Int} (h : x ≠ v) : st1 f v w x = f x := by unfold st1; rw [if_neg h]
/-- v is among the parts of n, or n -/
def Occ (g : Sg) (d : Nd) (tg : Int → Int) (v n : Int) : Prop := ∀ P : Int → Prop, Clo g d tg P → P n → P v
def psh (d : Nd) (k m : Int) (L : Int → Int) (p : Int) : Int → Int := fun i => if i < m then L i else nK d (p * 3 + (k - 1 - (i - m)))
section
variable {g : Sg} {d : Nd} {tg : Int → Int}
theorem acyc (hS : StOK g d tg) {v n : Int} (v0 : 0 ≤ v) (v1 : v < nN d) (hv : nC d v < 0) (tv : tg v < 0) (n0 : 0 ≤ n) (n1 : n < nN d) (tn : tg n < 0) (ty : nY d n = nY d v) {P : Int → Prop} (hP : Clo g d tg P) (pn : P n) (pv : ¬ P v) : StOK g d (st1 tg v n) := by
  obtain ⟨hg, hN, hT, r, hG⟩ := hS
  have hT2 : TgOK d (st1 tg v n) := by
    refine ⟨fun x x0 x1 => ?_, fun x x0 x1 => ?_⟩
    · by_cases e : x = v
      · subst e
        rw [st1_same]
        exact Or.inr ⟨hN.var v0 v1 hv, ⟨n0, n1⟩, ty⟩
      · rw [st1_ne e]; exact hT.1 x x0 x1
    · rw [st1_ne (by omega)]; exact hT.2 x x0 x1
  refine ⟨hg, hN, hT2, ?_⟩
  classical
  refine renorm (m := fun x => if P (re tg x) then r x else r x + 100) hN hT2 ⟨fun x x0 x1 x2 => ?_, fun x x0 x1 x2 k k0 k1 => ?_⟩
  · dsimp only
    by_cases e : x = v
    · subst e
      rw [st1_same, re_free tn, re_free tv, if_pos pn, if_neg pv]
      have := hG.2 n
      omega
    · rw [st1_ne e] at x2 ⊢
      rw [re_bound hT hG x0 x1 x2]
      have := hG.1.1 x x0 x1 x2
      split <;> omega
  · dsimp only
    have tx := re_con hT x0 x1 x2
    have kd := (hN.kid x0 x1 x2 ⟨k0, k1⟩).1
    have rl := hG.1.2 x x0 x1 x2 k k0 k1
    rw [re_free tx]
    by_cases e : P x
    · have hk : P (kq d tg x k) := hP x k x0 x1 k0 (by unfold pq; rw [if_neg (by omega)]; exact k1) e
      rw [if_pos e, if_pos (show P (re tg (nK d (x * 3 + k))) from hk)]
      exact rl
    · rw [if_neg e]
      split <;> omega
theorem Gr.sub {r : Int → Nat} {v n : Int} (tv : tg v < 0) (h : Gr g d (st1 tg v n) r) : Gr g d tg r := by
  refine ⟨⟨fun x x0 x1 x2 => ?_, h.1.2⟩, h.2⟩
  have e : x ≠ v := fun e => by rw [e] at x2; omega
  have := h.1.1 x x0 x1 (by rw [st1_ne e]; exact x2)
  rw [st1_ne e] at this
  exact this
def UI (g : Sg) (d : Nd) (tg : Int → Int) (n : Int) (L R : Int → Int) : Prop := StOK g d tg ∧ 0 ≤ n ∧ (∀ i, 0 ≤ i → i < n → ((0 ≤ L i ∧ L i < nN d) ∧ 0 ≤ R i ∧ R i < nN d) ∧ nY d (L i) = nY d (R i)) ∧ ∀ i, 0 ≤ i → i < n → ∀ r, Gr g d tg r → i + 3 * (r (L i) : Int) ≤ 297
theorem UI.le {n : Int} {L R : Int → Int} (h : UI g d tg n L R) : n ≤ 298 := by
  obtain ⟨r, hG⟩ := h.1.2.2.2
  by_cases e : n ≤ 0
  · omega
  · have := h.2.2.2 (n - 1) (by omega) (by omega) r hG
    omega
theorem UI.pop {n : Int} {L R : Int → Int} (h : UI g d tg n L R) (hn : 0 < n) : UI g d tg (n - 1) L R :=
  ⟨h.1, by omega, fun i i0 i1 => h.2.2.1 i i0 (by omega), fun i i0 i1 => h.2.2.2 i i0 (by omega)⟩
theorem UI.bind {n v w : Int} {L R : Int → Int} (h : UI g d tg n L R) (tv : tg v < 0) (hS : StOK g d (st1 tg v w)) : UI g d (st1 tg v w) n L R :=
  ⟨hS, h.2.1, h.2.2.1, fun i i0 i1 r hr => h.2.2.2 i i0 i1 r (hr.sub tv)⟩
theorem UI.push {n : Int} {L R : Int → Int} (h : UI g d tg n L R) (hn : 0 < n) {p q : Int} (hp : re tg (L (n - 1)) = p) (hq : re tg (R (n - 1)) = q) (c0 : 0 ≤ nC d p) (ce : nC d p = nC d q) : UI g d tg (n - 1 + pq g d p) (psh d (pq g d p) (n - 1) L p) (psh d (pq g d p) (n - 1) R q) := by
  obtain ⟨hS, h0, h1, h2⟩ := h
  obtain ⟨r0, hG0⟩ := hS.2.2.2
  have w := h1 (n - 1) (by omega) (by omega)
  have ip := re_in hS.2.2.1 hG0 w.1.1.1 w.1.1.2
  have iq := re_in hS.2.2.1 hG0 w.1.2.1 w.1.2.2
  rw [hp] at ip
  rw [hq] at iq
  have hb := pq_bd hS.1 hS.2.1 ip.1 ip.2
  have ep : pq g d p = gA g (nC d p) := by unfold pq; rw [if_neg (by omega)]
  refine ⟨hS, by omega, fun i i0 i1 => ?_, fun i i0 i1 r hr => ?_⟩
  · unfold psh
    by_cases e : i < n - 1
    · rw [if_pos e, if_pos e]; exact h1 i i0 (by omega)
    · rw [if_neg e, if_neg e]
      have k1 := hS.2.1.kid ip.1 ip.2 c0 (show 0 ≤ pq g d p - 1 - (i - (n - 1)) ∧ pq g d p - 1 - (i - (n - 1)) < gA g (nC d p) by omega)
      have k2 := hS.2.1.kid iq.1 iq.2 (by omega) (show 0 ≤ pq g d p - 1 - (i - (n - 1)) ∧ pq g d p - 1 - (i - (n - 1)) < gA g (nC d q) by rw [← ce]; omega)
      exact ⟨⟨⟨k1.1.1, by omega⟩, k2.1.1, by omega⟩, by rw [k1.2, k2.2, ce]⟩
  · unfold psh
    by_cases e : i < n - 1
    · rw [if_pos e]; exact h2 i i0 (by omega) r hr
    · rw [if_neg e]
      have k1 := hr.1.2 p ip.1 ip.2 c0 (pq g d p - 1 - (i - (n - 1))) (by omega) (by omega)
      have le := re_le hS.2.2.1 hr w.1.1.1 w.1.1.2
      rw [hp] at le
      have := h2 (n - 1) (by omega) (by omega) r hr
      omega
end
abbrev UT : Type := (Int → Int) → Int → (Int → Int) → (Int → Int) → (Int → Int) → Int → (Int → Int) → Prop
/-- one step from the pair p, q; m pairs wait -/
def UStep (g : Sg) (d : Nd) (U : UT) (tg : Int → Int) (m : Int) (L R dn : Int → Int) (p q out : Int) (tg' : Int → Int) : Prop :=
  (p = q ∧ U tg m L R dn out tg') ∨
  (p ≠ q ∧ nC d p < 0 ∧ nC d q < 0 ∧ U (st1 tg (if p < q then q else p) (if q < p then q else p)) m L R dn out tg') ∨
  (p ≠ q ∧ nC d p < 0 ∧ 0 ≤ nC d q ∧ ((Occ g d tg p q ∧ out = -8 ∧ tg' = tg) ∨ (¬ Occ g d tg p q ∧ U (st1 tg p q) m L R dn out tg'))) ∨
  (p ≠ q ∧ 0 ≤ nC d p ∧ nC d q < 0 ∧ ((Occ g d tg q p ∧ out = -8 ∧ tg' = tg) ∨ (¬ Occ g d tg q p ∧ U (st1 tg q p) m L R dn out tg'))) ∨
  (p ≠ q ∧ 0 ≤ nC d p ∧ 0 ≤ nC d q ∧ nC d p ≠ nC d q ∧ out = -7 ∧ tg' = tg) ∨
  (p ≠ q ∧ 0 ≤ nC d p ∧ nC d p = nC d q ∧ dn (100 * p + q) ≠ 0 ∧ U tg m L R dn out tg') ∨
  (p ≠ q ∧ 0 ≤ nC d p ∧ nC d p = nC d q ∧ dn (100 * p + q) = 0 ∧ U tg (m + pq g d p) (psh d (pq g d p) m L p) (psh d (pq g d p) m R q) (st1 dn (100 * p + q) 1) out tg')
def URun (g : Sg) (d : Nd) : Nat → UT
  | 0, _, _, _, _, _, _, _ => False
  | f + 1, tg, n, L, R, dn, out, tg' => (n ≤ 0 ∧ out = 1 ∧ tg' = tg) ∨ (0 < n ∧ UStep g d (URun g d f) tg (n - 1) L R dn (re tg (L (n - 1))) (re tg (R (n - 1))) out tg')
/-! bits -/
def bT (m : Int) : Int64 := Int64.ofInt (Int64.ofInt 1 <<< ((Int32.ofInt m).toInt64 &&& 63)).toInt
theorem bT_all : ∀ m : Fin 64, (bT (m.val : Int)).toBitVec = BitVec.twoPow 64 m.val := by decide +kernel
theorem bT_eq {m : Int} (h0 : 0 ≤ m) (h1 : m < 64) : (bT m).toBitVec = BitVec.twoPow 64 m.toNat := by
  have := bT_all ⟨m.toNat, by omega⟩
  dsimp only at this
  rw [show ((m.toNat : Nat) : Int) = m by omega] at this
  exact this
theorem i64_zero (x : Int64) : x.toInt = 0 ↔ x.toBitVec = 0#64 := by
  constructor
  · intro h
    have : x = 0 := Int64.toInt_inj.mp (by rw [h]; rfl)
    rw [this]; rfl
  · intro h
    have : x = 0 := Int64.toBitVec_inj.mp (by rw [h]; rfl)
    rw [this]; rfl
theorem bv_and_two (w : BitVec 64) (m : Nat) (h : m < 64) : w &&& BitVec.twoPow 64 m = 0#64 ↔ w.getLsbD m = false := by
  constructor
  · intro e
    have := congrArg (fun v => BitVec.getLsbD v m) e
    simp [BitVec.getLsbD_twoPow, h] at this
    exact this
  · intro e
    apply BitVec.eq_of_getLsbD_eq
    intro i hi
    simp [BitVec.getLsbD_twoPow]
    intro h1 h2 h3
    rw [← h3] at h1
    rw [h1] at e
    cases e
/-- the bit of m stands in w -/
def Bs (w m : Int) : Prop := (Int64.ofInt w).toBitVec.getLsbD m.toNat = true
theorem bs_and {w m : Int} (h0 : 0 ≤ m) (h1 : m < 64) : (Int64.ofInt w &&& bT m).toInt = 0 ↔ ¬ Bs w m := by
  rw [i64_zero, Int64.toBitVec_and, bT_eq h0 h1, bv_and_two _ _ (by omega)]
  unfold Bs
  simp
theorem bs_or {w m k : Int} (h0 : 0 ≤ m) (h1 : m < 64) (k0 : 0 ≤ k) (k1 : k < 64) : Bs (Int64.ofInt w ||| bT m).toInt k ↔ (Bs w k ∨ k = m) := by
  unfold Bs
  rw [show Int64.ofInt (Int64.ofInt w ||| bT m).toInt = (Int64.ofInt w ||| bT m) from Int64.ofInt_toInt _, Int64.toBitVec_or, bT_eq h0 h1]
  simp [BitVec.getLsbD_twoPow]
  constructor
  · rintro (e | e)
    · exact Or.inl e
    · right; omega
  · rintro (e | e)
    · exact Or.inl e
    · right; omega
theorem bs_zero {m : Int} : ¬ Bs 0 m := by
  unfold Bs
  rw [show (Int64.ofInt 0).toBitVec = 0#64 from rfl]
  simp
theorem in8 (x : Int64) : InR8 x.toInt := ⟨Int64.le_toInt x, by have := Int64.toInt_le x; exact this⟩
