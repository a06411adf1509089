/-! equal terms: the reference -/
theorem Keep.of2 {S : List Nat} {M M' : Mem} (f : Fr S M M') (hs : ∀ x ∈ 43 :: keepL, x ∉ S) (h : ∀ x ∈ [(0 : Int), 1, 5, 11, 13], M' 50 x = M 50 x) : Keep M M' := by
  have e43 := f 43 (hs 43 (by decide))
  refine ⟨fun h hh => f h (hs h (List.mem_cons_of_mem _ hh)), by rw [e43], h 0 (by decide), h 1 (by decide), h 5 (by decide), h 11 (by decide), h 13 (by decide)⟩
def und (M : Mem) : Nat := cnt (fun i => decide (M 79 i = 0)) 10000
theorem c_beginPairs {M : Mem} {K : Mem → Prop} {a b : Int} (kk : ∀ M', Fr [50, 77, 78, 79] M M' → (∀ f : Int, f ≠ 34 → M' 50 f = M 50 f) → M' 50 34 = 1 → M' 77 0 = a → M' 78 0 = b → (∀ i, 0 ≤ i → i < 10000 → M' 79 i = 0) → K M') : CV mX12_beginPairs [vR 50, vI a, vI b] M K := by
  have loop : ∀ (m : Nat) (i : Int) (M1 : Mem), (10000 - i).toNat = m → 0 ≤ i → i ≤ 10000 → Fr [79] M M1 → (∀ j, 0 ≤ j → j < i → M1 79 j = 0) → AW mX12_beginPairs 2 [some (vR 50), some (vI a), some (vI b), some (vI i)] [] M1 (QV K) := by
    intro m
    induction m with
    | zero =>
      intro i M1 hm i0 i1 hF hz
      refine sg_X12_beginPairs_2 ⟨by omega, fun _ => kk _ ((((hF.mono (by decide)).up (by decide)).up (by decide)).up (by decide)) (fun f hf => ?_) rfl rfl rfl (fun j j0 j1 => hz j j0 (by omega)), fun z => by omega⟩
      rw [up_other hf, up_ne (by decide), up_ne (by decide), hF 50 (by decide)]
    | succ m ih =>
      intro i M1 hm i0 i1 hF hz
      refine sg_X12_beginPairs_2 ⟨by omega, fun z => by omega, fun _ => ⟨by omega, ih (i + 1) _ (by omega) (by omega) (by omega) (hF.up (by decide)) (fun j j0 j1 => ?_)⟩⟩
      by_cases e : j = i
      · rw [e, up_same]
      · rw [up_other e]; exact hz j j0 (by omega)
  exact en_X12_beginPairs (loop _ 0 M rfl (by omega) (by omega) (Fr.refl _ _) (fun j j0 j1 => by omega))
section
variable {g : Sg} {d : Nd} {tg : Int → Int}
theorem c_pushChildren {M : Mem} {K : Mem → Prop} (hS : StOK g d tg) (hX : MMR g d tg M) {p q : Int} (p0 : 0 ≤ p) (p1 : p < nN d) (q0 : 0 ≤ q) (q1 : q < nN d) (hc : 0 ≤ nC d p) (he : nC d p = nC d q) (hb : 0 ≤ M 50 34 ∧ M 50 34 + 3 ≤ 31000)
    (kk : ∀ M', Fr [50, 77, 78] M M' → (∀ f : Int, f ≠ 34 → M' 50 f = M 50 f) → M' 50 34 = M 50 34 + pq g d p → (∀ i, i < M 50 34 → M' 77 i = M 77 i ∧ M' 78 i = M 78 i) → (∀ k, 0 ≤ k → k < pq g d p → M' 77 (M 50 34 + (pq g d p - 1 - k)) = nK d (p * 3 + k) ∧ M' 78 (M 50 34 + (pq g d p - 1 - k)) = nK d (q * 3 + k)) → K M') : CV mX12_pushChildren [vR 50, vI p, vI q] M K := by
  have bn := hS.2.1.1
  have hp := pq_bd hS.1 hS.2.1 p0 p1
  have ep : pq g d p = gA g (nC d p) := by unfold pq; rw [if_neg (by omega)]
  have loop : ∀ (m : Nat) (j : Int) (M1 : Mem), (j + 1).toNat = m → -1 ≤ j → j < pq g d p → Fr [50, 77, 78] M M1 → (∀ f : Int, f ≠ 34 → M1 50 f = M 50 f) → M1 50 34 = M 50 34 + (pq g d p - 1 - j) → (∀ i, i < M 50 34 → M1 77 i = M 77 i ∧ M1 78 i = M 78 i) → (∀ k, j < k → k < pq g d p → M1 77 (M 50 34 + (pq g d p - 1 - k)) = nK d (p * 3 + k) ∧ M1 78 (M 50 34 + (pq g d p - 1 - k)) = nK d (q * 3 + k)) → AW mX12_pushChildren 8 [some (vR 50), some (vI p), some (vI q), some (vI j)] [] M1 (QV K) := by
    intro m
    induction m with
    | zero =>
      intro j M1 hm j0 j1 hF h50 h34 ho hn
      exact sg_X12_pushChildren_8 ⟨by omega, fun _ => kk M1 hF h50 (by rw [h34]; omega) ho (fun k k0 k1 => hn k (by omega) k1), fun z => by omega⟩
    | succ m ih =>
      intro j M1 hm j0 j1 hF h50 h34 ho hn
      have e56 : M1 56 = M 56 := hF 56 (by decide)
      have ka := (hX.2.1.2 p p0 p1).2.2 hc j (by omega) (by omega)
      have kb := (hX.2.1.2 q q0 q1).2.2 (by omega) j (by omega) (by rw [← he]; omega)
      refine sg_X12_pushChildren_8 ⟨by omega, fun z => by omega, fun _ => ⟨by omega, ?_⟩⟩
      rw [e56, ka, kb, h34]
      refine ⟨by omega, by omega, by omega, ih (j + -1) _ (by omega) (by omega) (by omega) (((hF.up (by decide)).up (by decide)).up (by decide)) (fun f hf => ?_) ?_ (fun i hi => ?_) (fun k k0 k1 => ?_)⟩
      · rw [up_other hf, up_ne (by decide), up_ne (by decide)]
        exact h50 f hf
      · rw [up_same]; omega
      · rw [up_ne (by decide), up_ne (by decide), up_other (by omega), up_ne (by decide), up_other (by omega), up_ne (by decide)]
        exact ho i hi
      · rw [up_ne (show (77 : Nat) ≠ 50 by decide), up_ne (show (77 : Nat) ≠ 78 by decide), up_ne (show (78 : Nat) ≠ 50 by decide)]
        by_cases e : k = j
        · subst e
          rw [up_same, up_same]
          exact ⟨rfl, rfl⟩
        · rw [up_other (by omega), up_other (by omega), up_ne (by decide)]
          exact hn k (by omega) k1
  refine en_X12_pushChildren (c_manyOf hS hX p0 p1 ?_)
  exact loop _ _ M rfl (by omega) (by omega) (Fr.refl _ _) (fun f hf => rfl) (by omega) (fun i hi => ⟨rfl, rfl⟩) (fun k k0 k1 => by omega)
def PSt (M : Mem) (tg : Int → Int) (x y : Int) : Prop := ∃ i, (0 ≤ i ∧ i < M 50 34) ∧ re tg (M 77 i) = x ∧ re tg (M 78 i) = y
def OkP (M : Mem) (tg : Int → Int) (x y : Int) : Prop := x = y ∨ M 79 (100 * x + y) ≠ 0 ∨ PSt M tg x y
def EqI (g : Sg) (d : Nd) (tg : Int → Int) (A B : Int) (M : Mem) : Prop := (0 ≤ M 50 34 ∧ M 50 34 + 3 * (und M : Nat) ≤ 30001) ∧ (∀ i, 0 ≤ i → i < M 50 34 → (0 ≤ M 77 i ∧ M 77 i < nN d) ∧ 0 ≤ M 78 i ∧ M 78 i < nN d) ∧ (Te g d tg A B → ∀ i, 0 ≤ i → i < M 50 34 → Te g d tg (re tg (M 77 i)) (re tg (M 78 i))) ∧ OkP M tg A B ∧ (∀ p q, 0 ≤ p → p < nN d → 0 ≤ q → q < nN d → M 79 (100 * p + q) ≠ 0 → (0 ≤ nC d p ∧ nC d p = nC d q) ∧ ∀ k, 0 ≤ k → k < pq g d p → OkP M tg (kq d tg p k) (kq d tg q k)) ∧ ∀ i, 0 ≤ i → i < 10000 → M 79 i = 0 ∨ M 79 i = 1
theorem EqI.done {A B : Int} {M : Mem} (hS : StOK g d tg) (h : EqI g d tg A B M) (hz : M 50 34 ≤ 0) (ha : 0 ≤ A ∧ A < nN d) (hb : 0 ≤ B ∧ B < nN d) : Te g d tg A B := by
  obtain ⟨r, hG⟩ := hS.2.2.2
  obtain ⟨h0, h1, h2, h3, h4, h5⟩ := h
  have key : ∀ (f : Nat) (p q : Int), r p < f → 0 ≤ p → p < nN d → 0 ≤ q → q < nN d → OkP M tg p q → Te g d tg p q := by
    intro f
    induction f with
    | zero => intro p q hr; omega
    | succ f ih =>
      intro p q hr p0 p1 q0 q1 ho
      rcases ho with e | e | ⟨i, hi, _⟩
      · rw [e]; exact Te_rf q
      · have w := h4 p q p0 p1 q0 q1 e
        refine (Te_eq hS.2.1 hS.2.2.1 hG p0 p1).mpr (Or.inr ⟨w.1.1, w.1.2, fun k k0 k1 => ?_⟩)
        have ip := kq_in2 hS.2.1 hS.2.2.1 hG p0 p1 ⟨k0, k1⟩
        have iq := kq_in2 hS.2.1 hS.2.2.1 hG q0 q1 (show 0 ≤ k ∧ k < pq g d q by rw [← pq_same w.1.2]; exact ⟨k0, k1⟩)
        exact ih _ _ (by omega) ip.1.1 ip.1.2 iq.1.1 iq.1.2 (w.2 k k0 k1)
      · omega
  exact key 100 A B (hG.2 A) ha.1 ha.2 hb.1 hb.2 h3
theorem c_equalM {M : Mem} {K : Int → Mem → Prop} (hS : StOK g d tg) (hX : MMR g d tg M) {a b : Int} (a0 : 0 ≤ a) (a1 : a < nN d) (b0 : 0 ≤ b) (b1 : b < nN d) (kk : ∀ M' x, Fr [50, 77, 78, 79] M M' → (∀ f : Int, f ≠ 34 → M' 50 f = M 50 f) → ((x = 1 ∧ Te g d tg (re tg a) (re tg b)) ∨ (x = 0 ∧ ¬ Te g d tg (re tg a) (re tg b))) → K x M') : CI mX12_equal [vR 50, vI a, vI b] M K := by
  obtain ⟨r, hG⟩ := hS.2.2.2
  have bn := hS.2.1.1
  have e5 : M 50 5 = nN d := hX.2.1.1
  have ta := re_in hS.2.2.1 hG a0 a1
  have tb := re_in hS.2.2.1 hG b0 b1
  have kp : ∀ M', Fr [50, 77, 78, 79] M M' → (∀ f : Int, f ≠ 34 → M' 50 f = M 50 f) → Keep M M' := fun M' hF h50 => Keep.of2 hF (by decide) (fun x hx => h50 x (by revert hx; revert x; decide))
  refine en_X12_equal (c_isNode (by omega) (by omega) (fun _ => ⟨by decide, fun z => absurd z (by decide), fun _ => c_isNode (by omega) (by omega) (fun _ => ⟨by decide, fun _ => c_beginPairs (fun M1 hF1 h50 h34 h77 h78 h79 => ?_), fun z => absurd (by decide) z⟩) (fun z => absurd (show 0 ≤ b ∧ b < M 50 5 by omega) z)⟩) (fun z => absurd (show 0 ≤ a ∧ a < M 50 5 by omega) z))
  have loop : ∀ (m : Nat) (M2 : Mem), 4 * und M2 + (M2 50 34).toNat = m → Fr [50, 77, 78, 79] M M2 → (∀ f : Int, f ≠ 34 → M2 50 f = M 50 f) → EqI g d tg (re tg a) (re tg b) M2 → AW mX12_equal 25 [some (vR 50), some (vI a), some (vI b), none, none] [] M2 (QI K) := by
    intro m
    induction m using Nat.strongRecOn with
    | ind m ih =>
      intro M2 hm hF h50 hI
      have hd := fun z => hI.done hS z ta tb
      obtain ⟨h0, h1, h2, h3, h4, h5⟩ := hI
      by_cases ez : M2 50 34 ≤ 0
      · exact sg_X12_equal_25 ⟨by omega, fun _ => kk M2 1 hF h50 (Or.inl ⟨rfl, hd ez⟩), fun z => absurd ez z⟩
      clear hd
      have hw := h1 (M2 50 34 - 1) (by omega) (by omega)
      have tp := re_in hS.2.2.1 hG hw.1.1 hw.1.2
      have tq := re_in hS.2.2.1 hG hw.2.1 hw.2.2
      refine sg_X12_equal_25 ⟨by omega, fun z => absurd z ez, fun _ => ⟨by omega, ?_⟩⟩
      generalize hM3 : up M2 50 34 (M2 50 34 - 1) = M3
      have a34 : M3 50 34 = M2 50 34 - 1 := by rw [← hM3]; exact up_same
      have a77 : M3 77 = M2 77 := by rw [← hM3]; rfl
      have a78 : M3 78 = M2 78 := by rw [← hM3]; rfl
      have a79 : M3 79 = M2 79 := by rw [← hM3]; rfl
      have hF3 : Fr [50, 77, 78, 79] M M3 := by rw [← hM3]; exact hF.up (by decide)
      have h503 : ∀ f : Int, f ≠ 34 → M3 50 f = M 50 f := fun f hf => by rw [← hM3, up_other hf]; exact h50 f hf
      have hX3 : MMR g d tg M3 := hX.keep (kp M3 hF3 h503)
      refine c_resolved hS hX3 hw.1.1 hw.1.2 ⟨by omega, ?_⟩
      rw [a34, a78]
      refine c_resolved hS hX3 hw.2.1 hw.2.2 ?_
      generalize hp : re tg (M2 77 (M2 50 34 - 1)) = p at tp
      generalize hq : re tg (M2 78 (M2 50 34 - 1)) = q at tq
      -- what stays fine when this pair is taken off
      have off : ∀ x y, OkP M2 tg x y → (x = p ∧ y = q) ∨ (x = y ∨ M3 79 (100 * x + y) ≠ 0 ∨ PSt M3 tg x y) := by
        intro x y ho
        rcases ho with e | e | ⟨i, hi, e1, e2⟩
        · exact Or.inr (Or.inl e)
        · exact Or.inr (Or.inr (Or.inl (by rw [a79]; exact e)))
        · by_cases e : i = M2 50 34 - 1
          · left
            rw [e] at e1 e2
            exact ⟨by rw [← e1, hp], by rw [← e2, hq]⟩
          · exact Or.inr (Or.inr (Or.inr ⟨i, by rw [a34]; omega, by rw [a77]; exact e1, by rw [a78]; exact e2⟩))
      have aU : und M3 = und M2 := by unfold und; rw [a79]
      have skip : (p = q ∨ M3 79 (100 * p + q) ≠ 0) → AW mX12_equal 139 [some (vR 50), some (vI a), some (vI b), some (vI p), some (vI q)] [] M3 (QI K) := by
        intro hy
        have fine : ∀ x y, OkP M2 tg x y → OkP M3 tg x y := by
          intro x y ho
          rcases off x y ho with ⟨e1, e2⟩ | e
          · rw [e1, e2]
            rcases hy with e | e
            · exact Or.inl e
            · exact Or.inr (Or.inl e)
          · exact e
        refine sg_X12_equal_139 (ih (4 * und M3 + (M3 50 34).toNat) (by rw [aU, a34]; omega) M3 rfl hF3 h503 ⟨by rw [aU, a34]; omega, fun i i0 i1 => ?_, fun t i i0 i1 => ?_, fine _ _ h3, fun x y x0 x1 y0 y1 hxy => ?_, by rw [a79]; exact h5⟩)
        · rw [a34] at i1; rw [a77, a78]; exact h1 i i0 (by omega)
        · rw [a34] at i1; rw [a77, a78]; exact h2 t i i0 (by omega)
        · rw [a79] at hxy
          have w := h4 x y x0 x1 y0 y1 hxy
          exact ⟨w.1, fun k k0 k1 => fine _ _ (w.2 k k0 k1)⟩
      have b79 := h5 (100 * p + q) (by omega) (by omega)
      have cp := hS.2.1.cbd hS.1 tp.1 tp.2
      have cq := hS.2.1.cbd hS.1 tq.1 tq.2
      have e54p := (hX3.2.1.2 p tp.1 tp.2).2.1
      have e54q := (hX3.2.1.2 q tq.1 tq.2).2.1
      have tpq : Te g d tg (re tg a) (re tg b) → Te g d tg p q := fun t => by
        have := h2 t (M2 50 34 - 1) (by omega) (by omega)
        rw [hp, hq] at this
        exact this
      refine ⟨by omega, fun z => skip (Or.inl z), fun z => ⟨by omega, by rw [a79]; omega, fun z2 => skip (Or.inr z2), fun z2 => ⟨by omega, by omega, ?_⟩⟩⟩
      have hF4 : Fr [50, 77, 78, 79] M (up M3 79 (100 * p + q) 1) := hF3.up (by decide)
      have h504 : ∀ f : Int, f ≠ 34 → up M3 79 (100 * p + q) 1 50 f = M 50 f := h503
      have no : (¬ (0 ≤ nC d p ∧ nC d p = nC d q)) → K 0 (up M3 79 (100 * p + q) 1) := by
        intro hno
        refine kk _ 0 hF4 h504 (Or.inr ⟨rfl, fun t => ?_⟩)
        rcases (Te_eq hS.2.1 hS.2.2.1 hG tp.1 tp.2).mp (tpq t) with y | y
        · exact z y
        · exact hno ⟨y.1, y.2.1⟩
      have nvp : (nC d p < 0 → nv (nC d p) = -13) ∧ (0 ≤ nC d p → nv (nC d p) = nC d p) := by
        unfold nv
        exact ⟨fun y => by rw [if_pos y], fun y => by rw [if_neg (by omega)]⟩
      have nvq : (nC d q < 0 → nv (nC d q) = -13) ∧ (0 ≤ nC d q → nv (nC d q) = nC d q) := by
        unfold nv
        exact ⟨fun y => by rw [if_pos y], fun y => by rw [if_neg (by omega)]⟩
      rw [e54p, e54q]
      have bp : -13 ≤ nv (nC d p) ∧ nv (nC d p) < 12 := by
        by_cases y : nC d p < 0
        · rw [nvp.1 y]; decide
        · rw [nvp.2 (by omega)]; omega
      have bq : -13 ≤ nv (nC d q) ∧ nv (nC d q) < 12 := by
        by_cases y : nC d q < 0
        · rw [nvq.1 y]; decide
        · rw [nvq.2 (by omega)]; omega
      refine ⟨by omega, fun z3 => no (fun y => by rw [nvp.2 y.1] at z3; omega), fun z3 => ⟨by omega, by omega, by omega, fun z4 => ?_, fun z4 => no (fun y => z4 (by rw [y.2]))⟩⟩
      have c0 : 0 ≤ nC d p := by
        by_cases y : nC d p < 0
        · rw [nvp.1 y] at z3; omega
        · omega
      have ce : nC d p = nC d q := by
        rw [nvp.2 c0] at z4
        by_cases y : nC d q < 0
        · rw [nvq.1 y] at z4; omega
        · rw [nvq.2 (by omega)] at z4; exact z4
      clear nvp nvq bp bq no
      have z2 : M3 79 (100 * p + q) = 0 := Decidable.not_not.mp z2
      have hX4 : MMR g d tg (up M3 79 (100 * p + q) 1) := hX3
      have hpb := pq_bd hS.1 hS.2.1 tp.1 tp.2
      have aU4 : und (up M3 79 (100 * p + q) 1) < und M3 := by
        unfold und
        refine cnt_lt (fun i hi hh => ?_) (100 * p + q).toNat (by omega) ?_ ?_
        · have hh := of_decide_eq_true hh
          by_cases e : (i : Int) = 100 * p + q
          · rw [e, up_same] at hh; omega
          · rw [up_other e] at hh; exact decide_eq_true hh
        · rw [show (((100 * p + q).toNat : Nat) : Int) = 100 * p + q by omega]
          exact decide_eq_true z2
        · rw [show (((100 * p + q).toNat : Nat) : Int) = 100 * p + q by omega, up_same]
          rfl
      have a504 : up M3 79 (100 * p + q) 1 50 34 = M2 50 34 - 1 := a34
      refine c_pushChildren hS hX4 tp.1 tp.2 tq.1 tq.2 c0 ce (by rw [a504]; omega) (fun M5 hF5 h505 h345 ho5 hn5 => sg_X12_equal_139 ?_)
      rw [a504] at h345 ho5 hn5
      have a79' : M5 79 = up M3 79 (100 * p + q) 1 79 := hF5 79 (by decide)
      have aU5 : und M5 = und (up M3 79 (100 * p + q) 1) := by unfold und; rw [a79']
      have old5 : ∀ i, i < M2 50 34 - 1 → M5 77 i = M2 77 i ∧ M5 78 i = M2 78 i := fun i hi => by
        have := ho5 i hi
        rw [this.1, this.2, up_ne (by decide), up_ne (by decide), a77, a78]
        exact ⟨rfl, rfl⟩
      have m79 : ∀ x, M3 79 x ≠ 0 → M5 79 x ≠ 0 := fun x hx => by
        rw [a79']
        by_cases e : x = 100 * p + q
        · rw [e, up_same]; decide
        · rw [up_other e]; exact hx
      have d79 : M5 79 (100 * p + q) ≠ 0 := by rw [a79', up_same]; decide
      have epq := pq_same (g := g) ce
      have kids : ∀ k, 0 ≤ k → k < pq g d p → PSt M5 tg (kq d tg p k) (kq d tg q k) := by
        intro k k0 k1
        have w := hn5 k k0 k1
        exact ⟨M2 50 34 - 1 + (pq g d p - 1 - k), by rw [h345]; omega, by rw [w.1]; rfl, by rw [w.2]; rfl⟩
      have fine : ∀ x y, OkP M2 tg x y → OkP M5 tg x y := by
        intro x y ho
        rcases off x y ho with ⟨e1, e2⟩ | e | e | ⟨i, hi, e1, e2⟩
        · rw [e1, e2]; exact Or.inr (Or.inl d79)
        · exact Or.inl e
        · exact Or.inr (Or.inl (m79 _ e))
        · rw [a34] at hi
          have w := old5 i hi.2
          rw [a77] at e1
          rw [a78] at e2
          exact Or.inr (Or.inr ⟨i, by rw [h345]; omega, by rw [w.1]; exact e1, by rw [w.2]; exact e2⟩)
      have hF6 : Fr [50, 77, 78, 79] M M5 := hF4.trans (hF5.mono (by decide))
      have split : ∀ i, 0 ≤ i → i < M5 50 34 → i < M2 50 34 - 1 ∨ ∃ k, (0 ≤ k ∧ k < pq g d p) ∧ i = M2 50 34 - 1 + (pq g d p - 1 - k) := by
        intro i i0 i1
        rw [h345] at i1
        by_cases e : i < M2 50 34 - 1
        · exact Or.inl e
        · exact Or.inr ⟨pq g d p - 1 - (i - (M2 50 34 - 1)), by omega, by omega⟩
      refine ih (4 * und M5 + (M5 50 34).toNat) (by rw [aU5, h345]; omega) M5 rfl hF6 (fun f hf => by rw [h505 f hf]; exact h504 f hf) ⟨by rw [aU5, h345]; omega, fun i i0 i1 => ?_, fun t i i0 i1 => ?_, fine _ _ h3, fun x y x0 x1 y0 y1 hxy => ?_, fun i i0 i1 => ?_⟩
      · rcases split i i0 i1 with e | ⟨k, hk, e⟩
        · rw [(old5 i e).1, (old5 i e).2]; exact h1 i i0 (by omega)
        · have w := hn5 k hk.1 hk.2
          rw [e, w.1, w.2]
          have pp := pq_pos hk
          have k1 := (hS.2.1.kid tp.1 tp.2 pp.1 ⟨hk.1, pp.2⟩).1
          have k2 := (hS.2.1.kid tq.1 tq.2 (by omega) ⟨hk.1, by rw [← ce]; exact pp.2⟩).1
          omega
      · rcases split i i0 i1 with e | ⟨k, hk, e⟩
        · rw [(old5 i e).1, (old5 i e).2]; exact h2 t i i0 (by omega)
        · have w := hn5 k hk.1 hk.2
          rw [e, w.1, w.2]
          rcases (Te_eq hS.2.1 hS.2.2.1 hG tp.1 tp.2).mp (tpq t) with y | y
          · exact absurd y z
          · exact y.2.2 k hk.1 hk.2
      · by_cases e : 100 * x + y = 100 * p + q
        · have e1 : x = p := by omega
          have e2 : y = q := by omega
          subst e1; subst e2
          exact ⟨⟨c0, ce⟩, fun k k0 k1 => Or.inr (Or.inr (kids k k0 k1))⟩
        · rw [a79', up_other e, a79] at hxy
          have w := h4 x y x0 x1 y0 y1 hxy
          exact ⟨w.1, fun k k0 k1 => fine _ _ (w.2 k k0 k1)⟩
      · rw [a79']
        by_cases e : i = 100 * p + q
        · rw [e, up_same]; exact Or.inr rfl
        · rw [up_other e, a79]; exact h5 i i0 i1
  have hu := cnt_le (p := fun i : Nat => decide (M1 79 i = 0)) 10000
  have hu2 : und M1 ≤ 10000 := hu
  refine loop _ M1 rfl hF1 h50 ⟨by rw [h34]; omega, fun i i0 i1 => ?_, fun t i i0 i1 => ?_, Or.inr (Or.inr ⟨0, by rw [h34]; omega, by rw [h77], by rw [h78]⟩), fun x y x0 x1 y0 y1 hxy => absurd (h79 _ (by omega) (by omega)) hxy, fun i i0 i1 => Or.inl (h79 i i0 i1)⟩
  · have e : i = 0 := by rw [h34] at i1; omega
    rw [e, h77, h78]; omega
  · have e : i = 0 := by rw [h34] at i1; omega
    rw [e, h77, h78]; exact t
end
section
variable {c : Nat} {M : Mem} {K : Int → Mem → Prop}
theorem op_equal (h : Inv c M) (hc5 : c < 1000) {v w : Int} (hv : InR v) (hw : InR w) (kk : ∀ r M1, Then mX12_equal [vR 50, vI v, vI w] c r M1 → K r M1) : CI mX11_equal [vR 0, vI v, vI w] M K := by
  obtain ⟨g, d, tg, hC, hc⟩ := h
  have hI : Inv (c + 1) M := ⟨g, d, tg, hC, hc.up⟩
  obtain ⟨⟨f1, f2, f3, f4, f5, f6⟩, b1, b2, b3⟩ := hC.facts
  have hc1 := hc.1
  refine en_X11_equal (c_contains hv (by omega) (fun q => ⟨by decide, fun z => absurd z (by decide), fun _ => c_contains hw (by omega) (fun q2 => ⟨by decide, fun _ => ?_, fun z => absurd (by decide) z⟩) (fun q2 => ⟨by decide, fun z => absurd rfl z, fun _ => kk _ M ⟨by decide, fun K2 k2 => ?_⟩⟩)⟩) (fun q => ⟨by decide, fun _ => kk _ M ⟨by decide, fun K2 k2 => ?_⟩, fun z => absurd rfl z⟩))
  · refine c_sameTerm hC.1 hC.2.1 (by omega) hc.2.2.2.1 q.1 (by omega) q2.1 (by omega) (fun M1 x hF e3 hl hx => ?_)
    have hC1 := hC.keep (Keep.of hF (by decide))
    have hcc : Ctr (c + 1) M1 := hc.walk (fun x hx => hF x (by revert hx; revert x; decide)) (by omega) hl
    have fin : ∀ y : Int, y = x → InR y → Then mX12_equal [vR 50, vI v, vI w] c y M1 := by
      intro y ey hy
      refine ⟨hy, fun K2 k2 => c_equalM hC1.1 hC1.2.2.1 q.1 (by omega) q2.1 (by omega) (fun M2 u hF2 h50 hu => ?_)⟩
      have e : u = y := by
        rw [ey]
        rcases hx with ⟨x1, x2⟩ | ⟨x1, x2⟩ <;> rcases hu with ⟨u1, u2⟩ | ⟨u1, u2⟩
        · rw [x1, u1]
        · exact absurd x2 u2
        · exact absurd u2 x2
        · rw [x1, u1]
      rw [e]
      exact k2 M2 ⟨g, d, tg, hC1.keep (Keep.of2 hF2 (by decide) (fun z hz => h50 z (by revert hz; revert z; decide))), hcc.fr hF2 (by decide)⟩
    have bx : x = 0 ∨ x = 1 := by
      rcases hx with ⟨x1, _⟩ | ⟨x1, _⟩
      · exact Or.inr x1
      · exact Or.inl x1
    exact ⟨by omega, fun z => kk _ M1 (fin 0 z.symm (by decide)), fun z => kk _ M1 (fin 1 (by omega) (by decide))⟩
  · exact en_X12_equal (c_isNode hv (by omega) (fun _ => ⟨by decide, fun z => absurd z (by decide), fun _ => c_isNode hw (by omega) (fun y => absurd (show 0 ≤ w ∧ w < M 12 1 by omega) q2) (fun y => ⟨by decide, fun z => absurd rfl z, fun _ => k2 M hI⟩)⟩) (fun y => absurd (show 0 ≤ v ∧ v < M 50 5 by omega) y))
  · exact en_X12_equal (c_isNode hv (by omega) (fun y => absurd (show 0 ≤ v ∧ v < M 12 1 by omega) q) (fun y => ⟨by decide, fun _ => k2 M hI, fun z => absurd rfl z⟩))
end
