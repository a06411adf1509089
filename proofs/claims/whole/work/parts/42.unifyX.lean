/-! unification: the class -/
section
variable {g : Sg} {d : Nd} {tg : Int → Int}
theorem c_bindToTerm {M : Mem} {K : Int → Mem → Prop} (hS : StOK g d tg) (hX : XR g d tg M) (hb : 0 ≤ M 37 3 ∧ M 37 3 < 1000000) (hl : ∀ n, 0 ≤ n → n < 100 → 0 ≤ M 39 n ∧ M 39 n ≤ M 37 3) {v n : Int} (v0 : 0 ≤ v) (v1 : v < nN d) (n0 : 0 ≤ n) (n1 : n < nN d) (tn : tg n < 0)
    (kO : Occ g d tg v n → ∀ M', Fr [37, 38, 39, 40] M M' → M' 37 3 = M 37 3 + 1 → (∀ x, 0 ≤ x → x < 100 → 0 ≤ M' 39 x ∧ M' 39 x ≤ M' 37 3) → K (-8) M')
    (kN : ¬ Occ g d tg v n → ∀ M', Fr [37, 38, 39, 40] M M' → M' 37 3 = M 37 3 + 1 → (∀ x, 0 ≤ x → x < 100 → 0 ≤ M' 39 x ∧ M' 39 x ≤ M' 37 3) → K 1 (up M' 16 v n)) : CI mX6_bindToTerm [vR 32, vI v, vI n] M K := by
  have bn := hS.2.1.1
  obtain ⟨r, hG⟩ := hS.2.2.2
  refine en_X6_bindToTerm (c_begin_b hS.2.1 hb hl (fun M1 hF1 e1 hW1 hn1 => c_visit_b hS (hX.fr hF1 (by decide)) hW1 n0 n1 (fun M2 hF2 e2 hW2 ht2 _ hc2 => ?_)))
  have F : Fr [37, 38, 39, 40] M M2 := (hF1.mono (by decide)).trans hF2
  rw [re_free tn] at ht2 hc2
  obtain ⟨w0, w1, w2, w3, w4, w5, w6⟩ := hW2
  have wv := w1 v v0 (by omega)
  have e3 : M2 37 3 = M 37 3 + 1 := by rw [e2, e1]
  refine en_X10_hasListed_b ⟨by omega, by omega, fun z => ⟨by decide, fun _ => ⟨by omega, kN (fun o => z ?_) M2 F e3 w1⟩, fun y => absurd rfl y⟩, fun z => ⟨by decide, fun y => absurd y (by decide), fun _ => kO (fun P c1 c2 => hc2 P c1 c2 (fun x x0 x1 hx => absurd hx (hn1 x x0 x1)) v v0 (by omega) (Decidable.not_not.mp z)) M2 F e3 w1⟩⟩
  have := o (fun x => (0 ≤ x ∧ x < nN d) ∧ M2 39 x = M2 37 3) (fun x k x0 x1 k0 k1 hx => ?_) ⟨⟨n0, n1⟩, ht2⟩
  · exact this.2
  · obtain ⟨i, hi, ei⟩ := w4 x x0 (by omega) hx.2
    have hin := kq_in2 hS.2.1 hS.2.2.1 hG x0 x1 ⟨k0, k1⟩
    rw [← ei] at k1
    obtain ⟨j, hj, ej⟩ := w6 i k hi.1 hi.2 k0 k1
    have w := w3 j hj.1 (by omega)
    rw [ej, ei] at w
    exact ⟨hin.1, w.2.2⟩
theorem c_open {M : Mem} {K : Mem → Prop} (hS : StOK g d tg) (hX : XR g d tg M) {p q : Int} (p0 : 0 ≤ p) (p1 : p < nN d) (q0 : 0 ≤ q) (q1 : q < nN d) (c0 : 0 ≤ nC d p) (hn : 0 ≤ M 32 5 ∧ M 32 5 + pq g d p ≤ 300)
    (kS : Bs (M 36 ((p * 100 + q) / 64)) ((p * 100 + q) % 64) → K M)
    (kP : ¬ Bs (M 36 ((p * 100 + q) / 64)) ((p * 100 + q) % 64) → ∀ M', Fr [32, 34, 35, 36] M M' → M' 32 5 = M 32 5 + pq g d p → (∀ i, i < M 32 5 → M' 34 i = M 34 i ∧ M' 35 i = M 35 i) → (∀ k, 0 ≤ k → k < pq g d p → M' 34 (M 32 5 + (pq g d p - 1 - k)) = nK d (p * 3 + k) ∧ M' 35 (M 32 5 + (pq g d p - 1 - k)) = nK d (q * 3 + k)) → M' 36 = st1 (M 36) ((p * 100 + q) / 64) (Int64.ofInt (M 36 ((p * 100 + q) / 64)) ||| bT ((p * 100 + q) % 64)).toInt → K M') : CV mX6_open [vR 32, vI p, vI q] M K := by
  have bn := hS.2.1.1
  have hp := pq_bd hS.1 hS.2.1 p0 p1
  have e15 : M 15 = nK d := hX.2.1.2.2.2
  have hb := bs_and (w := M 36 ((p * 100 + q) / 64)) (m := (p * 100 + q) % 64) (by omega) (by omega)
  refine en_X6_open ⟨by omega, by omega, by omega, in8 _, fun z => ⟨by omega, by omega, by omega, ?_⟩, fun z => kS (Classical.byContradiction (fun y => z (hb.mpr y)))⟩
  have kP := kP (hb.mp z)
  generalize hM1 : up M 36 ((p * 100 + q) / 64) (Int64.ofInt (M 36 ((p * 100 + q) / 64)) ||| Int64.ofInt (Int64.ofInt 1 <<< ((Int32.ofInt ((p * 100 + q) % 64)).toInt64 &&& 63)).toInt).toInt = M1
  have a36 : M1 36 = st1 (M 36) ((p * 100 + q) / 64) (Int64.ofInt (M 36 ((p * 100 + q) / 64)) ||| bT ((p * 100 + q) % 64)).toInt := by rw [← hM1]; rfl
  have F1 : Fr [32, 34, 35, 36] M M1 := by rw [← hM1]; exact (Fr.refl _ M).up (by decide)
  have a32 : M1 32 = M 32 := by rw [← hM1]; rfl
  have a34 : M1 34 = M 34 := by rw [← hM1]; rfl
  have a35 : M1 35 = M 35 := by rw [← hM1]; rfl
  clear hM1
  refine c_partTotal hS (hX.fr F1 (by decide)) p0 p1 ?_
  generalize (Int64.ofInt 1 <<< ((Int32.ofInt ((p * 100 + q) % 64)).toInt64 &&& 63)).toInt = bb
  have loop : ∀ (m : Nat) (j : Int) (M2 : Mem), (j + 1).toNat = m → -1 ≤ j → j < pq g d p → Fr [32, 34, 35, 36] M M2 → M2 36 = M1 36 → M2 32 5 = M 32 5 + (pq g d p - 1 - j) → (∀ i, i < M 32 5 → M2 34 i = M 34 i ∧ M2 35 i = M 35 i) → (∀ k, j < k → k < pq g d p → M2 34 (M 32 5 + (pq g d p - 1 - k)) = nK d (p * 3 + k) ∧ M2 35 (M 32 5 + (pq g d p - 1 - k)) = nK d (q * 3 + k)) → AW mX6_open 59 [some (vR 32), some (vI p), some (vI q), some (vI (p * 100 + q)), some (vL bb), none, some (vI j)] [] M2 (QV K) := by
    intro m
    induction m with
    | zero =>
      intro j M2 hm j0 j1 hF h36 h5 ho hk
      exact sg_X6_open_59 ⟨by omega, fun _ => kP M2 hF (by rw [h5]; omega) ho (fun k k0 k1 => hk k (by omega) k1) (by rw [h36, a36]), fun z => by omega⟩
    | succ m ih =>
      intro j M2 hm j0 j1 hF h36 h5 ho hk
      refine sg_X6_open_59 ⟨by omega, fun z => by omega, fun _ => ⟨by omega, by omega, en_X6_await ?_⟩⟩
      rw [hF 15 (by decide), e15, h5]
      refine ⟨by omega, fun z => by omega, fun _ => ⟨by omega, by omega, ih (j + -1) _ (by omega) (by omega) (by omega) (((hF.up (by decide)).up (by decide)).up (by decide)) h36 ?_ (fun i hi => ?_) (fun k k0 k1 => ?_)⟩⟩
      · rw [up_same]; omega
      · rw [up_ne (by decide), up_ne (by decide), up_other (by omega), up_ne (by decide), up_other (by omega), up_ne (by decide)]
        exact ho i hi
      · rw [up_ne (show (34 : Nat) ≠ 32 by decide), up_ne (show (34 : Nat) ≠ 35 by decide), up_ne (show (35 : Nat) ≠ 32 by decide)]
        by_cases e : k = j
        · subst e
          rw [up_same, up_same]
          exact ⟨rfl, rfl⟩
        · rw [up_other (by omega), up_other (by omega), up_ne (by decide)]
          exact hk k (by omega) k1
  exact loop _ _ M1 rfl (by omega) (by omega) F1 rfl (by rw [a32]; omega) (fun i hi => by rw [a34, a35]; exact ⟨rfl, rfl⟩) (fun k k0 k1 => by omega)
def fcn (d : Nd) (tg : Int → Int) : Nat := cnt (fun i => decide (tg i < 0)) (nN d).toNat
theorem fcn_bind {v w : Int} (v0 : 0 ≤ v) (v1 : v < nN d) (tv : tg v < 0) (w0 : 0 ≤ w) : fcn d (st1 tg v w) < fcn d tg := by
  unfold fcn
  refine cnt_lt (fun i hi hp => ?_) v.toNat (by omega) ?_ ?_
  · have hp := of_decide_eq_true hp
    by_cases e : (i : Int) = v
    · rw [e, st1_same] at hp; omega
    · rw [st1_ne e] at hp; exact decide_eq_true hp
  · rw [show ((v.toNat : Nat) : Int) = v by omega]; exact decide_eq_true tv
  · rw [show ((v.toNat : Nat) : Int) = v by omega, st1_same]; exact decide_eq_false (by omega)
def udn (dn : Int → Int) : Nat := cnt (fun i => decide (dn i = 0)) 10000
theorem udn_mark {dn : Int → Int} {x : Int} (h0 : 0 ≤ x) (h1 : x < 10000) (hz : dn x = 0) : udn (st1 dn x 1) < udn dn := by
  unfold udn
  refine cnt_lt (fun i hi hp => ?_) x.toNat (by omega) ?_ ?_
  · have hp := of_decide_eq_true hp
    by_cases e : (i : Int) = x
    · rw [e, st1_same] at hp; omega
    · rw [st1_ne e] at hp; exact decide_eq_true hp
  · rw [show ((x.toNat : Nat) : Int) = x by omega]; exact decide_eq_true hz
  · rw [show ((x.toNat : Nat) : Int) = x by omega, st1_same]; rfl
/-- the class's memory while it unifies -/
def XU (d : Nd) (M0 : Mem) (N : Int) (tg : Int → Int) (n : Int) (L R dn : Int → Int) (M : Mem) : Prop := Fr [16, 32, 34, 35, 36, 37, 38, 39, 40] M0 M ∧ M 16 = tg ∧ M 32 5 = n ∧ (∀ i, 0 ≤ i → i < n → M 34 i = L i ∧ M 35 i = R i) ∧ (∀ x, 0 ≤ x → x < 10000 → (Bs (M 36 (x / 64)) (x % 64) ↔ dn x ≠ 0)) ∧ (0 ≤ M 37 3 ∧ M 37 3 + (fcn d tg : Nat) ≤ N) ∧ ∀ x, 0 ≤ x → x < 100 → 0 ≤ M 39 x ∧ M 39 x ≤ M 37 3
theorem c_runX {M0 : Mem} {K : Int → Mem → Prop} (hX0 : XSig g M0) (hD0 : XNod d M0) {N a b : Int} (hN : N ≤ 500000)
    : ∀ (m : Nat) (M : Mem) (tg : Int → Int) (n : Int) (L R dn : Int → Int) (st : Int), 4 * udn dn + n.toNat = m → 0 ≤ st → st + m ≤ 500000 → UI g d tg n L R → XU d M0 N tg n L R dn M →
      (∀ M' out tg', (∃ f, URun g d f tg n L R dn out tg') → Fr [16, 32, 34, 35, 36, 37, 38, 39, 40] M0 M' → (0 ≤ M' 37 3 ∧ M' 37 3 ≤ N + 1) → (∀ x, 0 ≤ x → x < 100 → 0 ≤ M' 39 x ∧ M' 39 x ≤ M' 37 3) → ((out = 1 ∧ M' 16 = tg' ∧ StOK g d tg') ∨ ((out = -7 ∨ out = -8) ∧ ∀ i, 0 ≤ i → i < 100 → M' 16 i = M0 33 i)) → K out M') →
      AW mX6_run 42 [some (vR 32), some (vI a), some (vI b), some (vI 1), some (vI st)] [] M (QI K) := by
  intro m
  induction m using Nat.strongRecOn with
  | ind m ih =>
    intro M tg n L R dn st hm s0 s1 hU hXU kk
    have hle := hU.le
    have hn0 := hU.2.1
    have hS := hU.1
    obtain ⟨r, hG⟩ := hS.2.2.2
    have bn := hS.2.1.1
    obtain ⟨x1, x2, x3, x4, x5, x6, x7⟩ := hXU
    have hXR : XR g d tg M := ⟨hX0.fr x1 (by decide), by
      unfold XNod
      rw [x1 12 (by decide), x1 13 (by decide), x1 14 (by decide), x1 15 (by decide)]
      exact hD0, x2⟩
    by_cases ez : n ≤ 0
    · refine sg_X6_run_42 ⟨by decide, fun z => absurd rfl z, fun _ => ⟨by omega, fun _ => ⟨by decide, fun _ => kk M 1 tg ⟨1, Or.inl ⟨ez, rfl, rfl⟩⟩ x1 (by omega) x7 (Or.inl ⟨rfl, x2, hS⟩), fun z => absurd rfl z⟩, fun z => by omega⟩⟩
    have hw := hU.2.2.1 (n - 1) (by omega) (by omega)
    have hp := re_in hS.2.2.1 hG hw.1.1.1 hw.1.1.2
    have hq := re_in hS.2.2.1 hG hw.1.2.1 hw.1.2.2
    have tp := re_tg hS.2.2.1 hG hw.1.1.1 hw.1.1.2
    have tq := re_tg hS.2.2.1 hG hw.1.2.1 hw.1.2.2
    have yp := re_ty hS.2.2.1 hG hw.1.1.1 hw.1.1.2
    have yq := re_ty hS.2.2.1 hG hw.1.2.1 hw.1.2.2
    have hpop := hU.pop (show 0 < n by omega)
    have hpush := fun c0 ce => hU.push (show 0 < n by omega) (p := re tg (L (n - 1))) (q := re tg (R (n - 1))) rfl rfl c0 ce
    refine sg_X6_run_42 ⟨by decide, fun z => absurd rfl z, fun _ => ⟨by omega, fun z => by omega, fun _ => ⟨by omega, fun z => by omega, fun _ => ⟨by omega, ?_⟩⟩⟩⟩
    rw [x3, (x4 (n - 1) (by omega) (by omega)).1]
    have x1' : Fr [16, 32, 34, 35, 36, 37, 38, 39, 40] M0 (up M 32 5 (n - 1)) := x1.up (by decide)
    have hXR' : XR g d tg (up M 32 5 (n - 1)) := hXR
    refine c_resolve hS hXR' hw.1.1.1 hw.1.1.2 ?_
    have e325 : up M 32 5 (n - 1) 32 5 = n - 1 := up_same
    have e35 : up M 32 5 (n - 1) 35 = M 35 := rfl
    rw [e325, e35, (x4 (n - 1) (by omega) (by omega)).2]
    refine ⟨by omega, c_resolve hS hXR' hw.1.2.1 hw.1.2.2 ?_⟩
    have run1 : ∀ {out : Int} {tg' : Int → Int}, (∃ f, UStep g d (URun g d f) tg (n - 1) L R dn (re tg (L (n - 1))) (re tg (R (n - 1))) out tg') → ∃ f, URun g d f tg n L R dn out tg' := fun ⟨f, h⟩ => ⟨f + 1, Or.inr ⟨by omega, h⟩⟩
    clear hw
    generalize re tg (L (n - 1)) = p at *
    generalize re tg (R (n - 1)) = q at *
    have cp := hS.2.1.cbd hS.1 hp.1 hp.2
    have cq := hS.2.1.cbd hS.1 hq.1 hq.2
    have e14 : up M 32 5 (n - 1) 14 = nC d := hXR.2.1.2.2.1
    -- on with fewer pairs, the same bindings
    have go : (∀ out tg', (∃ f, URun g d f tg (n - 1) L R dn out tg') → ∃ f, URun g d f tg n L R dn out tg') → AW mX6_run 42 [some (vR 32), some (vI a), some (vI b), some (vI 1), some (vI (st + 1))] [] (up M 32 5 (n - 1)) (QI K) := by
      intro hr
      refine ih (4 * udn dn + (n - 1).toNat) (by omega) _ tg (n - 1) L R dn (st + 1) rfl (by omega) (by omega) hpop ⟨x1', x2, e325, fun i i0 i1 => x4 i i0 (by omega), x5, x6, x7⟩ (fun M' out tg' hf => kk M' out tg' (hr out tg' hf))
    -- a binding
    have bind : ∀ (M1 : Mem) (v w : Int), 0 ≤ v → v < nN d → tg v < 0 → 0 ≤ w → StOK g d (st1 tg v w) → Fr [37, 38, 39, 40] (up M 32 5 (n - 1)) M1 → (0 ≤ M1 37 3 ∧ M1 37 3 ≤ M 37 3 + 1) → (∀ x, 0 ≤ x → x < 100 → 0 ≤ M1 39 x ∧ M1 39 x ≤ M1 37 3) → (∀ out tg', (∃ f, URun g d f (st1 tg v w) (n - 1) L R dn out tg') → ∃ f, URun g d f tg n L R dn out tg') → AW mX6_run 42 [some (vR 32), some (vI a), some (vI b), some (vI 1), some (vI (st + 1))] [] (up M1 16 v w) (QI K) := by
      intro M1 v w v0 v1 tv w0 hS2 hF1 h37 h39 hr
      have hfc := fcn_bind v0 v1 tv w0
      have e16 : up M1 16 v w 16 = st1 tg v w := by
        show (fun i => if i = v then w else M1 16 i) = _
        rw [hF1 16 (by decide), up_ne (by decide), x2]
        rfl
      refine ih (4 * udn dn + (n - 1).toNat) (by omega) _ (st1 tg v w) (n - 1) L R dn (st + 1) rfl (by omega) (by omega) (hpop.bind tv hS2) ⟨(x1'.trans (hF1.mono (by decide))).up (by decide), e16, ?_, fun i i0 i1 => ?_, ?_, ?_, h39⟩ (fun M' out tg' hf => kk M' out tg' (hr out tg' hf))
      · rw [up_ne (by decide), hF1 32 (by decide)]; exact e325
      · rw [up_ne (by decide), up_ne (by decide), hF1 34 (by decide), hF1 35 (by decide)]; exact x4 i i0 (by omega)
      · rw [up_ne (by decide), hF1 36 (by decide)]; exact x5
      · rw [up_ne (by decide)]; omega
    -- an end with nothing bound
    have fail : ∀ (M1 : Mem) (out : Int), (out = -7 ∨ out = -8) → (∃ f, URun g d f tg n L R dn out tg) → Fr [16, 32, 34, 35, 36, 37, 38, 39, 40] M0 M1 → (0 ≤ M1 37 3 ∧ M1 37 3 ≤ N + 1) → (∀ x, 0 ≤ x → x < 100 → 0 ≤ M1 39 x ∧ M1 39 x ≤ M1 37 3) → AW mX6_run 42 [some (vR 32), some (vI a), some (vI b), some (vI out), some (vI (st + 1))] [] M1 (QI K) := by
      intro M1 out ho hf hF1 h37 h39
      refine sg_X6_run_42 ⟨by omega, fun _ => ⟨by omega, fun z => by omega, fun _ => ⟨by omega, ?_⟩⟩, fun z => by omega⟩
      have hFc : Fr [16, 32, 34, 35, 36, 37, 38, 39, 40] M0 (cpy M1 33 16 0 0 100) := by
        intro h hh
        unfold cpy
        rw [if_neg (fun z => hh (by rw [z]; decide))]
        exact hF1 h hh
      refine kk _ out tg hf hFc h37 h39 (Or.inr ⟨ho, fun i i0 i1 => ?_⟩)
      show (if 0 ≤ i ∧ i < 0 + 100 then M1 33 (0 + (i - 0)) else M1 16 i) = M0 33 i
      rw [if_pos (by omega), hF1 33 (by decide)]
      congr 1
      omega
    refine en_X6_unifyResolved ⟨by omega, fun hpq => ?_, fun z => go (fun out tg' ⟨f, hf⟩ => run1 ⟨f, Or.inl ⟨Decidable.not_not.mp z, hf⟩⟩)⟩
    -- from pc 49 on: not both are variables
    have s49 : ¬ (nC d p < 0 ∧ nC d q < 0) → AW mX6_unifyResolved 49 [some (vR 32), some (vI p), some (vI q)] [] (up M 32 5 (n - 1)) (QI (fun r104 M104 => AW mX6_run 42 [some (vR 32), some (vI a), some (vI b), some (vI r104), some (vI (st + 1))] [] M104 (QI K))) := by
      intro hnb
      refine sg_X6_unifyResolved_49 (c_isVariable (by omega) (by rw [e14]; omega) (fun z => ⟨by decide, fun y => absurd y (by decide), fun _ => ?_⟩) (fun z => ⟨by decide, fun _ => c_isVariable (by omega) (by rw [e14]; omega) (fun z2 => ⟨by decide, fun y => absurd y (by decide), fun _ => ?_⟩) (fun z2 => ⟨by decide, fun _ => ?_, fun y => absurd rfl y⟩), fun y => absurd rfl y⟩))
      · rw [e14] at z
        refine c_bindToTerm hS hXR' (by show 0 ≤ M 37 3 ∧ M 37 3 < 1000000; omega) x7 hp.1 hp.2 hq.1 hq.2 tq (fun o M1 hF1 e1 h39 => fail M1 (-8) (Or.inr rfl) (run1 ⟨0, Or.inr (Or.inr (Or.inl ⟨hpq, by omega, by omega, Or.inl ⟨o, rfl, rfl⟩⟩))⟩) (x1'.trans (hF1.mono (by decide))) ?_ h39) (fun o M1 hF1 e1 h39 => ?_)
        · have e1 : M1 37 3 = M 37 3 + 1 := e1
          omega
        · have e1 : M1 37 3 = M 37 3 + 1 := e1
          have o2 : ∃ P, Clo g d tg P ∧ P q ∧ ¬ P p := Classical.byContradiction (fun w => o (fun P c1 c2 => Classical.byContradiction (fun c3 => w ⟨P, c1, c2, c3⟩)))
          obtain ⟨P, c1, c2, c3⟩ := o2
          exact bind M1 p q hp.1 hp.2 tp hq.1 (acyc hS hp.1 hp.2 (by omega) tp hq.1 hq.2 tq (by rw [yp, yq]; exact (hU.2.2.1 (n - 1) (by omega) (by omega)).2.symm) c1 c2 c3) hF1 (by omega) h39 (fun out tg' ⟨f, hf⟩ => run1 ⟨f, Or.inr (Or.inr (Or.inl ⟨hpq, by omega, by omega, Or.inr ⟨o, hf⟩⟩))⟩)
      · rw [e14] at z z2
        refine c_bindToTerm hS hXR' (by show 0 ≤ M 37 3 ∧ M 37 3 < 1000000; omega) x7 hq.1 hq.2 hp.1 hp.2 tp (fun o M1 hF1 e1 h39 => fail M1 (-8) (Or.inr rfl) (run1 ⟨0, Or.inr (Or.inr (Or.inr (Or.inl ⟨hpq, by omega, by omega, Or.inl ⟨o, rfl, rfl⟩⟩)))⟩) (x1'.trans (hF1.mono (by decide))) ?_ h39) (fun o M1 hF1 e1 h39 => ?_)
        · have e1 : M1 37 3 = M 37 3 + 1 := e1
          omega
        · have e1 : M1 37 3 = M 37 3 + 1 := e1
          have o2 : ∃ P, Clo g d tg P ∧ P p ∧ ¬ P q := Classical.byContradiction (fun w => o (fun P c1 c2 => Classical.byContradiction (fun c3 => w ⟨P, c1, c2, c3⟩)))
          obtain ⟨P, c1, c2, c3⟩ := o2
          exact bind M1 q p hq.1 hq.2 tq hp.1 (acyc hS hq.1 hq.2 (by omega) tq hp.1 hp.2 tp (by rw [yp, yq]; exact (hU.2.2.1 (n - 1) (by omega) (by omega)).2) c1 c2 c3) hF1 (by omega) h39 (fun out tg' ⟨f, hf⟩ => run1 ⟨f, Or.inr (Or.inr (Or.inr (Or.inl ⟨hpq, by omega, by omega, Or.inr ⟨o, hf⟩⟩)))⟩)
      · rw [e14] at z z2 ⊢
        have c0 : 0 ≤ nC d p := by omega
        refine ⟨by omega, by omega, by omega, fun ce => ?_, fun ce => fail _ (-7) (Or.inl rfl) (run1 ⟨0, Or.inr (Or.inr (Or.inr (Or.inr (Or.inl ⟨hpq, c0, by omega, ce, rfl, rfl⟩))))⟩) x1' (by show 0 ≤ M 37 3 ∧ M 37 3 ≤ N + 1; omega) x7⟩
        have hb := pq_bd hS.1 hS.2.1 hp.1 hp.2
        have hUp := hpush c0 ce
        have hle2 := hUp.le
        have hbit := x5 (p * 100 + q) (by omega) (by omega)
        refine c_open hS hXR' hp.1 hp.2 hq.1 hq.2 c0 (by rw [e325]; omega) (fun hset => go (fun out tg' ⟨f, hf⟩ => run1 ⟨f, Or.inr (Or.inr (Or.inr (Or.inr (Or.inr (Or.inl ⟨hpq, c0, ce, ?_, hf⟩)))))⟩)) (fun hset M1 hF1 h5 ho hk h36 => ?_)
        · rw [show 100 * p + q = p * 100 + q by omega]
          exact hbit.mp hset
        · rw [e325] at h5 ho hk
          have hz : dn (p * 100 + q) = 0 := Classical.byContradiction (fun w => hset (hbit.mpr w))
          have e100 : 100 * p + q = p * 100 + q := by omega
          have hmk := udn_mark (x := 100 * p + q) (by omega) (by omega) (by rw [e100]; exact hz)
          refine ih (4 * udn (st1 dn (100 * p + q) 1) + (n - 1 + pq g d p).toNat) (by omega) M1 tg (n - 1 + pq g d p) _ _ (st1 dn (100 * p + q) 1) (st + 1) rfl (by omega) (by omega) hUp ⟨x1'.trans (hF1.mono (by decide)), ?_, h5, fun i i0 i1 => ?_, fun x x0 x1 => ?_, ?_, ?_⟩ (fun M' out tg' ⟨f, hf⟩ => kk M' out tg' (run1 ⟨f, Or.inr (Or.inr (Or.inr (Or.inr (Or.inr (Or.inr ⟨hpq, c0, ce, by rw [e100]; exact hz, hf⟩)))))⟩))
          · rw [hF1 16 (by decide)]; exact x2
          · unfold psh
            by_cases e : i < n - 1
            · rw [if_pos e, if_pos e, (ho i e).1, (ho i e).2]
              exact x4 i i0 (by omega)
            · rw [if_neg e, if_neg e]
              have w := hk (pq g d p - 1 - (i - (n - 1))) (by omega) (by omega)
              rw [show n - 1 + (pq g d p - 1 - (pq g d p - 1 - (i - (n - 1)))) = i by omega] at w
              exact w
          · rw [h36]
            have b0 := x5 x x0 x1
            have e36 : up M 32 5 (n - 1) 36 = M 36 := rfl
            rw [e36]
            by_cases e : x = p * 100 + q
            · rw [e, e100, st1_same, st1_same]
              exact ⟨fun _ => by decide, fun _ => (bs_or (by omega) (by omega) (by omega) (by omega)).mpr (Or.inr rfl)⟩
            · rw [st1_ne (show x ≠ 100 * p + q by omega), ← b0]
              by_cases e2 : x / 64 = (p * 100 + q) / 64
              · rw [e2, st1_same, bs_or (by omega) (by omega) (by omega) (by omega)]
                exact ⟨fun w => w.elim id (fun w => absurd w (by omega)), Or.inl⟩
              · rw [st1_ne e2]
          · rw [hF1 37 (by decide)]; exact x6
          · rw [hF1 39 (by decide), hF1 37 (by decide)]; exact x7
    refine c_isVariable (by omega) (by rw [e14]; omega) (fun z => ⟨by decide, fun y => absurd y (by decide), fun _ => c_isVariable (by omega) (by rw [e14]; omega) (fun z2 => ⟨by decide, fun y => absurd y (by decide), fun _ => ⟨by omega, by omega, ?_⟩⟩) (fun z2 => ⟨by decide, fun _ => s49 (fun w => ?_), fun y => absurd rfl y⟩)⟩) (fun z => ⟨by decide, fun _ => s49 (fun w => ?_), fun y => absurd rfl y⟩)
    · rw [e14] at z z2
      have tyq : nY d p = nY d q := by rw [yp, yq]; exact (hU.2.2.1 (n - 1) (by omega) (by omega)).2
      have leaf : ∀ x, nC d x = -1 → Clo g d tg (fun y => y = x) := fun x hx y k y0 y1 k0 k1 hy => by
        subst hy
        unfold pq at k1
        rw [if_pos (by omega)] at k1
        omega
      have rr : ∀ out tg', (∃ f, URun g d f (st1 tg (if p < q then q else p) (if q < p then q else p)) (n - 1) L R dn out tg') → ∃ f, URun g d f tg n L R dn out tg' := fun out tg' ⟨f, hf⟩ => run1 ⟨f, Or.inr (Or.inl ⟨hpq, by omega, by omega, hf⟩)⟩
      by_cases lt : p < q
      · rw [if_pos lt, if_neg (show ¬ q < p by omega)] at rr ⊢
        exact ⟨by omega, bind _ q p hq.1 hq.2 tq hp.1 (acyc hS hq.1 hq.2 (by omega) tq hp.1 hp.2 tp tyq (leaf p z) rfl (fun w => hpq w.symm)) (Fr.refl _ _) (by show 0 ≤ M 37 3 ∧ M 37 3 ≤ M 37 3 + 1; omega) x7 rr⟩
      · rw [if_neg lt, if_pos (show q < p by omega)] at rr ⊢
        exact ⟨by omega, bind _ p q hp.1 hp.2 tp hq.1 (acyc hS hp.1 hp.2 (by omega) tp hq.1 hq.2 tq tyq.symm (leaf q z2) rfl (fun w => hpq w)) (Fr.refl _ _) (by show 0 ≤ M 37 3 ∧ M 37 3 ≤ M 37 3 + 1; omega) x7 rr⟩
    · rw [e14] at z z2
      omega
    · rw [e14] at z
      omega
end
