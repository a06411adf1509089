/-! equal terms -/
def teq (g : Sg) (d : Nd) (tg : Int → Int) : Nat → Int → Int → Prop
  | 0, a, b => a = b
  | f + 1, a, b => a = b ∨ (0 ≤ nC d a ∧ nC d a = nC d b ∧ ∀ k, 0 ≤ k → k < pq g d a → teq g d tg f (kq d tg a k) (kq d tg b k))
def Te (g : Sg) (d : Nd) (tg : Int → Int) (a b : Int) : Prop := teq g d tg 100 a b
section
variable {g : Sg} {d : Nd} {tg : Int → Int}
theorem pq_same {a b : Int} (h : nC d a = nC d b) : pq g d a = pq g d b := by unfold pq; rw [h]
theorem teq_rf : ∀ (f : Nat) (a : Int), teq g d tg f a a
  | 0, _ => rfl
  | _ + 1, _ => Or.inl rfl
theorem teq_sy : ∀ (f : Nat) (a b : Int), teq g d tg f a b → teq g d tg f b a
  | 0, _, _, h => Eq.symm h
  | f + 1, a, b, h => by
    rcases h with h | ⟨h1, h2, h3⟩
    · exact Or.inl h.symm
    · exact Or.inr ⟨by omega, h2.symm, fun k k0 k1 => teq_sy f _ _ (h3 k k0 (by rw [pq_same h2]; exact k1))⟩
theorem teq_tr : ∀ (f : Nat) (a b c : Int), teq g d tg f a b → teq g d tg f b c → teq g d tg f a c
  | 0, _, _, _, h, k => Eq.trans h k
  | f + 1, a, b, c, h, k => by
    rcases h with h | ⟨h1, h2, h3⟩
    · rw [h]; exact k
    · rcases k with k | ⟨k1, k2, k3⟩
      · rw [← k]; exact Or.inr ⟨h1, h2, h3⟩
      · exact Or.inr ⟨h1, h2.trans k2, fun i i0 i1 => teq_tr f _ _ _ (h3 i i0 i1) (k3 i i0 (by rw [← pq_same h2]; exact i1))⟩
theorem teq_stable {r : Int → Nat} (hN : NdOK g d) (hT : TgOK d tg) (hG : Gr g d tg r) : ∀ (f f2 : Nat) (a b : Int), 0 ≤ a → a < nN d → r a < f → r a < f2 → teq g d tg f a b → teq g d tg f2 a b
  | 0, _, _, _, _, _, h, _, _ => absurd h (by omega)
  | _ + 1, 0, _, _, _, _, _, h, _ => absurd h (by omega)
  | f + 1, f2 + 1, a, b, h0, h1, h2, h3, h => by
    rcases h with h | ⟨h4, h5, h6⟩
    · exact Or.inl h
    · refine Or.inr ⟨h4, h5, fun k k0 k1 => ?_⟩
      have q := kq_in2 hN hT hG h0 h1 ⟨k0, k1⟩
      exact teq_stable hN hT hG f f2 _ _ q.1.1 q.1.2 (by omega) (by omega) (h6 k k0 k1)
theorem Te_eq {r : Int → Nat} (hN : NdOK g d) (hT : TgOK d tg) (hG : Gr g d tg r) {a b : Int} (h0 : 0 ≤ a) (h1 : a < nN d) : Te g d tg a b ↔ (a = b ∨ (0 ≤ nC d a ∧ nC d a = nC d b ∧ ∀ k, 0 ≤ k → k < pq g d a → Te g d tg (kq d tg a k) (kq d tg b k))) := by
  have hr := hG.2 a
  constructor
  · exact fun h => teq_stable hN hT hG 100 101 a b h0 h1 (by omega) (by omega) h
  · intro h
    exact teq_stable hN hT hG 101 100 a b h0 h1 (by omega) (by omega) h
theorem Te_rf (a : Int) : Te g d tg a a := teq_rf 100 a
theorem Te_sy {a b : Int} (h : Te g d tg a b) : Te g d tg b a := teq_sy 100 a b h
theorem Te_tr {a b c : Int} (h : Te g d tg a b) (k : Te g d tg b c) : Te g d tg a c := teq_tr 100 a b c h k
/-- canonical nodes of the first i in the walk -/
def Can (g : Sg) (d : Nd) (tg : Int → Int) (M : Mem) (n : Int) : Prop := (∀ i j, 0 ≤ i → i < n → 0 ≤ j → j < n → (M 25 (M 29 i) = M 25 (M 29 j) ↔ Te g d tg (M 29 i) (M 29 j))) ∧ ∀ i, 0 ≤ i → i < n → ∃ j, (0 ≤ j ∧ j < n) ∧ M 25 (M 29 i) = M 29 j ∧ Te g d tg (M 29 j) (M 29 i)
theorem Can.in {M : Mem} {n : Int} (h : Can g d tg M n) (w3 : ∀ i, 0 ≤ i → i < n → 0 ≤ M 29 i ∧ M 29 i < nN d) {i : Int} (i0 : 0 ≤ i) (i1 : i < n) : 0 ≤ M 25 (M 29 i) ∧ M 25 (M 29 i) < nN d := by
  obtain ⟨j, hj, he, _⟩ := h.2 i i0 i1
  rw [he]
  exact w3 j hj.1 hj.2
theorem c_haveEqual {M : Mem} {K : Int → Mem → Prop} (hS : StOK g d tg) (hX : XR g d tg M) {n : Int} (w3 : ∀ i, 0 ≤ i → i < n → 0 ≤ M 29 i ∧ M 29 i < nN d) (hC : Can g d tg M n) {a b : Int} (a0 : 0 ≤ a) (a1 : a < nN d) (b0 : 0 ≤ b) (b1 : b < nN d) (ka : ∀ k, 0 ≤ k → k < pq g d a → ∃ j, (0 ≤ j ∧ j < n) ∧ M 29 j = kq d tg a k) (kb : ∀ k, 0 ≤ k → k < pq g d b → ∃ j, (0 ≤ j ∧ j < n) ∧ M 29 j = kq d tg b k) (hab : a ≠ b) (k1 : Te g d tg a b → K 1 M) (k0 : ¬ Te g d tg a b → K 0 M) : CI mX5_haveEqualParts [vR 22, vI a, vI b] M K := by
  obtain ⟨r, hG⟩ := hS.2.2.2
  have bn := hS.2.1.1
  have e14 : M 14 = nC d := hX.2.1.2.2.1
  have hca := hS.2.1.cbd hS.1 a0 a1
  have hcb := hS.2.1.cbd hS.1 b0 b1
  have hp := pq_bd hS.1 hS.2.1 a0 a1
  have hE := Te_eq hS.2.1 hS.2.2.1 hG a0 a1 (b := b)
  refine en_X5_haveEqualParts (c_isVariable (by omega) (by rw [e14]; omega) (fun z => ⟨by decide, fun _ => k0 (fun t => ?_), fun y => absurd (by decide) y⟩) (fun z => ⟨by decide, fun y => absurd rfl y, fun _ => ?_⟩))
  · rw [e14] at z
    rcases hE.mp t with y | y
    · exact hab y
    · omega
  rw [e14] at z ⊢
  refine ⟨by omega, by omega, by omega, fun hc => ?_, fun hc => k0 (fun t => ?_)⟩
  · have epq : pq g d a = pq g d b := pq_same hc
    have loop : ∀ (m : Nat) (j : Int), (pq g d a - j).toNat = m → 0 ≤ j → j ≤ pq g d a → (∀ k, 0 ≤ k → k < j → Te g d tg (kq d tg a k) (kq d tg b k)) → AW mX5_haveEqualParts 36 [some (vR 22), some (vI a), some (vI b), some (vI j)] [] M (QI K) := by
      intro m
      induction m with
      | zero =>
        intro j hm j0 j1 hall
        refine sg_X5_haveEqualParts_36 (c_partTotal hS hX a0 a1 ⟨by omega, fun _ => k1 (hE.mpr (Or.inr ⟨by omega, hc, fun k q0 q1 => hall k q0 (by omega)⟩)), fun y => by omega⟩)
      | succ m ih =>
        intro j hm j0 j1 hall
        have ia := kq_in2 hS.2.1 hS.2.2.1 hG a0 a1 (show 0 ≤ j ∧ j < pq g d a by omega)
        have ib := kq_in2 hS.2.1 hS.2.2.1 hG b0 b1 (show 0 ≤ j ∧ j < pq g d b by omega)
        have key : InR (M 25 (kq d tg a j)) ∧ InR (M 25 (kq d tg b j)) ∧ (M 25 (kq d tg a j) = M 25 (kq d tg b j) ↔ Te g d tg (kq d tg a j) (kq d tg b j)) := by
          obtain ⟨x, hx, ex⟩ := ka j j0 (by omega)
          obtain ⟨y, hy, ey⟩ := kb j j0 (by omega)
          rw [← ex, ← ey]
          have i1 := hC.in w3 hx.1 hx.2
          have i2 := hC.in w3 hy.1 hy.2
          exact ⟨⟨by omega, by omega⟩, ⟨by omega, by omega⟩, hC.1 x y hx.1 hx.2 hy.1 hy.2⟩
        refine sg_X5_haveEqualParts_36 (c_partTotal hS hX a0 a1 ⟨by omega, fun y => by omega, fun _ => c_resolvedPart hS hX a0 a1 (by omega) ⟨by omega, c_resolvedPart hS hX b0 b1 (by omega) ⟨by omega, ⟨key.1, key.2.1⟩, fun y => ih (j + 1) (by omega) (by omega) (by omega) (fun k q0 q1 => ?_), fun y => k0 (fun t => ?_)⟩⟩⟩)
        · by_cases e : k = j
          · rw [e]; exact key.2.2.mp y
          · exact hall k q0 (by omega)
        · rcases hE.mp t with u | u
          · exact hab u
          · exact y (key.2.2.mpr (u.2.2 j j0 (by omega)))
    exact loop _ 0 rfl (by omega) (by omega) (fun k q0 q1 => by omega)
  · rcases hE.mp t with y | y
    · exact hab y
    · exact hc y.2.1
theorem c_findCanonical {M : Mem} {K : Mem → Prop} (hS : StOK g d tg) (hX : XR g d tg M) (hW : Wki 28 29 30 g d tg M) (kk : ∀ M', Fr [25] M M' → Can g d tg M' (M 28 2) → K M') : CV mX5_findCanonical [vR 22] M K := by
  have bn := hS.2.1.1
  obtain ⟨w0, w1, w2, w3, w4, w5, w6⟩ := hW
  have o3 : ∀ i, 0 ≤ i → i < M 28 2 → 0 ≤ M 29 i ∧ M 29 i < nN d := fun i i0 i1 => (w3 i i0 i1).1
  have inner : ∀ (m : Nat) (M1 : Mem) (i j : Int), (i - j).toNat = m → 0 ≤ i → i < M 28 2 → 0 ≤ j → j ≤ i → Fr [25] M M1 → Can g d tg M1 i → M1 25 (M 29 i) = M 29 i → (∀ l, 0 ≤ l → l < j → ¬ Te g d tg (M 29 i) (M 29 l)) → (∀ M2, Fr [25] M M2 → Can g d tg M2 (i + 1) → AW mX5_findCanonical 2 [some (vR 22), some (vI (i + 1)), none, none] [] M2 (QV K)) → AW mX5_findCanonical 32 [some (vR 22), some (vI i), some (vI (M 29 i)), some (vI j)] [] M1 (QV K) := by
    intro m
    induction m with
    | zero =>
      intro M1 i j hm i0 i1 j0 j1 hF hC hs hno go
      have a29 : M1 29 = M 29 := hF 29 (by decide)
      refine sg_X5_findCanonical_32 ⟨by omega, fun _ => sg_X5_findCanonical_83 (go M1 hF ⟨fun x y x0 x1 y0 y1 => ?_, fun x x0 x1 => ?_⟩), fun z => by omega⟩
      · rw [a29]
        have hC1 := hC.1
        have hC2 := hC.2
        rw [a29] at hC1 hC2
        have nq : ∀ l, 0 ≤ l → l < i → M1 25 (M 29 l) ≠ M 29 i := by
          intro l l0 l1 he
          obtain ⟨u, hu, eu, _⟩ := hC2 l l0 l1
          rw [eu] at he
          exact w5 u i hu.1 hu.2 i1 he
        by_cases ex : x = i <;> by_cases ey : y = i
        · rw [ex, ey]; exact ⟨fun _ => Te_rf _, fun _ => rfl⟩
        · rw [ex, hs]
          exact ⟨fun h => absurd h.symm (nq y y0 (by omega)), fun h => absurd h (hno y y0 (by omega))⟩
        · rw [ey, hs]
          exact ⟨fun h => absurd h (nq x x0 (by omega)), fun h => absurd (Te_sy h) (hno x x0 (by omega))⟩
        · exact hC1 x y x0 (by omega) y0 (by omega)
      · rw [a29]
        have hC2 := hC.2
        rw [a29] at hC2
        by_cases ex : x = i
        · rw [ex, hs]
          exact ⟨i, by omega, rfl, Te_rf _⟩
        · obtain ⟨u, hu, eu⟩ := hC2 x x0 (by omega)
          exact ⟨u, by omega, eu⟩
    | succ m ih =>
      intro M1 i j hm i0 i1 j0 j1 hF hC hs hno go
      have a29 : M1 29 = M 29 := hF 29 (by decide)
      have oi := o3 i i0 i1
      have oj := o3 j j0 (by omega)
      refine sg_X5_findCanonical_32 ⟨by omega, fun z => by omega, fun _ => ⟨by omega, ?_⟩⟩
      rw [a29]
      refine c_haveEqual (n := i) hS (hX.fr hF (by decide)) (fun l l0 l1 => by rw [a29]; exact o3 l l0 (by omega)) hC oi.1 oi.2 oj.1 oj.2 (fun k k0 k1 => by rw [a29]; exact w6 i k i0 i1 k0 k1) (fun k k0 k1 => ?_) (fun e => w5 j i j0 (by omega) i1 e.symm) (fun t => ⟨by decide, fun y => absurd y (by decide), fun _ => ⟨by omega, ?_⟩⟩) (fun t => ⟨by decide, fun _ => ih M1 i (j + 1) (by omega) i0 i1 (by omega) (by omega) hF hC hs (fun l l0 l1 => ?_) go, fun y => absurd rfl y⟩)
      · rw [a29]
        obtain ⟨u, hu, eu⟩ := w6 j k j0 (by omega) k0 k1
        exact ⟨u, by omega, eu⟩
      · rw [a29]
        refine ⟨by omega, by omega, sg_X5_findCanonical_83 (go _ (hF.up (by decide)) ?_)⟩
        have hC1 := hC.1
        have hC2 := hC.2
        rw [a29] at hC1 hC2
        have un : ∀ l, 0 ≤ l → l < i → up M1 25 (M 29 i) (M1 25 (M 29 j)) 25 (M 29 l) = M1 25 (M 29 l) := fun l l0 l1 => up_other (fun z => w5 l i l0 l1 i1 z)
        have ui : up M1 25 (M 29 i) (M1 25 (M 29 j)) 25 (M 29 i) = M1 25 (M 29 j) := up_same
        have u29 : up M1 25 (M 29 i) (M1 25 (M 29 j)) 29 = M 29 := by rw [up_ne (by decide), a29]
        refine ⟨fun x y x0 x1 y0 y1 => ?_, fun x x0 x1 => ?_⟩
        · rw [u29]
          by_cases ex : x = i <;> by_cases ey : y = i
          · rw [ex, ey]; exact ⟨fun _ => Te_rf _, fun _ => rfl⟩
          · rw [ex, ui, un y y0 (by omega), hC1 j y j0 (by omega) y0 (by omega)]
            exact ⟨fun h => Te_tr t h, fun h => Te_tr (Te_sy t) h⟩
          · rw [ey, ui, un x x0 (by omega), hC1 x j x0 (by omega) j0 (by omega)]
            exact ⟨fun h => Te_tr h (Te_sy t), fun h => Te_tr h t⟩
          · rw [un x x0 (by omega), un y y0 (by omega)]
            exact hC1 x y x0 (by omega) y0 (by omega)
        · rw [u29]
          by_cases ex : x = i
          · rw [ex, ui]
            obtain ⟨u, hu, eu, tu⟩ := hC2 j j0 (by omega)
            exact ⟨u, by omega, eu, Te_tr tu (Te_sy t)⟩
          · rw [un x x0 (by omega)]
            obtain ⟨u, hu, eu⟩ := hC2 x x0 (by omega)
            exact ⟨u, by omega, eu⟩
      · by_cases e : l = j
        · rw [e]; exact t
        · exact hno l l0 (by omega)
  have outer : ∀ (m : Nat) (M1 : Mem) (i : Int), (M 28 2 - i).toNat = m → 0 ≤ i → i ≤ M 28 2 → Fr [25] M M1 → Can g d tg M1 i → AW mX5_findCanonical 2 [some (vR 22), some (vI i), none, none] [] M1 (QV K) := by
    intro m
    induction m with
    | zero =>
      intro M1 i hm i0 i1 hF hC
      refine sg_X5_findCanonical_2 ?_
      rw [hF 28 (by decide)]
      refine ⟨by omega, fun _ => kk M1 hF ?_, fun z => by omega⟩
      rw [show M 28 2 = i by omega]
      exact hC
    | succ m ih =>
      intro M1 i hm i0 i1 hF hC
      have oi := o3 i i0 (by omega)
      have a29 : M1 29 = M 29 := hF 29 (by decide)
      refine sg_X5_findCanonical_2 ?_
      rw [hF 28 (by decide), a29]
      refine ⟨by omega, fun z => by omega, fun _ => ⟨by omega, by omega, inner _ _ i 0 rfl i0 (by omega) (by omega) (by omega) (hF.up (by decide)) ?_ up_same (fun l l0 l1 => by omega) (fun M2 hF2 hC2 => ih M2 (i + 1) (by omega) (by omega) (by omega) hF2 hC2)⟩⟩
      have hC1 := hC.1
      have hC2 := hC.2
      rw [a29] at hC1 hC2
      have un : ∀ l, 0 ≤ l → l < i → up M1 25 (M 29 i) (M 29 i) 25 (M 29 l) = M1 25 (M 29 l) := fun l l0 l1 => up_other (fun z => w5 l i l0 l1 (by omega) z)
      have u29 : up M1 25 (M 29 i) (M 29 i) 29 = M 29 := by rw [up_ne (by decide), a29]
      refine ⟨fun x y x0 x1 y0 y1 => ?_, fun x x0 x1 => ?_⟩
      · rw [u29, un x x0 x1, un y y0 y1]
        exact hC1 x y x0 x1 y0 y1
      · rw [u29, un x x0 x1]
        exact hC2 x x0 x1
  exact en_X5_findCanonical (outer _ M 0 rfl (by omega) (by omega) (Fr.refl _ _) ⟨fun x y x0 x1 => by omega, fun x x0 x1 => by omega⟩)
theorem c_sameTerm {M : Mem} {K : Int → Mem → Prop} (hS : StOK g d tg) (hX : XR g d tg M) (hb : 0 ≤ M 28 3 ∧ M 28 3 < 1000000) (hl : ∀ n, 0 ≤ n → n < 100 → 0 ≤ M 30 n ∧ M 30 n ≤ M 28 3) {a b : Int} (a0 : 0 ≤ a) (a1 : a < nN d) (b0 : 0 ≤ b) (b1 : b < nN d) (kk : ∀ M' x, Fr [25, 28, 29, 30, 31] M M' → M' 28 3 = M 28 3 + 1 → (∀ n, 0 ≤ n → n < 100 → 0 ≤ M' 30 n ∧ M' 30 n ≤ M' 28 3) → ((x = 1 ∧ Te g d tg (re tg a) (re tg b)) ∨ (x = 0 ∧ ¬ Te g d tg (re tg a) (re tg b))) → K x M') : CI mX5_sameTerm [vR 22, vI a, vI b] M K := by
  obtain ⟨r, hG⟩ := hS.2.2.2
  have bn := hS.2.1.1
  have ta := re_in hS.2.2.1 hG a0 a1
  have tb := re_in hS.2.2.1 hG b0 b1
  refine en_X5_sameTerm (c_begin hS.2.1 hb hl (fun M1 hF1 e1 hW1 hn1 => c_visit hS (hX.fr hF1 (by decide)) hW1 a0 a1 (fun M2 hF2 e2 hW2 ht2 _ _ => ?_)))
  have hX2 : XR g d tg M2 := (hX.fr hF1 (by decide)).fr hF2 (by decide)
  refine c_visit hS hX2 hW2 b0 b1 (fun M3 hF3 e3 hW3 ht3 hm3 _ => ?_)
  have hX3 : XR g d tg M3 := hX2.fr hF3 (by decide)
  refine c_findCanonical hS hX3 hW3 (fun M4 hF4 hC => ?_)
  have hX4 : XR g d tg M4 := hX3.fr hF4 (by decide)
  have F : Fr [25, 28, 29, 30, 31] M M4 := (((hF1.mono (by decide)).trans (hF2.mono (by decide))).trans (hF3.mono (by decide))).trans (hF4.mono (by decide))
  obtain ⟨w0, w1, w2, w3, w4, w5, w6⟩ := hW3
  obtain ⟨x, hx, ex⟩ := w4 (re tg a) ta.1 (by omega) (hm3 _ ta.1 (by omega) ht2)
  obtain ⟨y, hy, ey⟩ := w4 (re tg b) tb.1 (by omega) ht3
  have a29 : M4 29 = M3 29 := hF4 29 (by decide)
  have key := hC.1 x y hx.1 hx.2 hy.1 hy.2
  have o3 : ∀ i, 0 ≤ i → i < M3 28 2 → 0 ≤ M4 29 i ∧ M4 29 i < nN d := fun i i0 i1 => by rw [a29]; exact (w3 i i0 i1).1
  have ix := hC.in o3 hx.1 hx.2
  have iy := hC.in o3 hy.1 hy.2
  rw [a29, ex, ey] at key
  rw [a29, ex] at ix
  rw [a29, ey] at iy
  clear x y hx hy ex ey
  have e28 : M4 28 3 = M 28 3 + 1 := by rw [hF4 28 (by decide), e3, e2, e1]
  have hl4 : ∀ n, 0 ≤ n → n < 100 → 0 ≤ M4 30 n ∧ M4 30 n ≤ M4 28 3 := fun n n0 n1 => by rw [hF4 30 (by decide), hF4 28 (by decide)]; exact w1 n n0 n1
  exact c_resolve hS hX4 a0 a1 ⟨⟨ta.1, by omega⟩, c_resolve hS hX4 b0 b1 ⟨⟨tb.1, by omega⟩, ⟨⟨by omega, by omega⟩, ⟨by omega, by omega⟩⟩, fun z => kk M4 0 F e28 hl4 (Or.inr ⟨rfl, fun t => z (key.mpr t)⟩), fun z => kk M4 1 F e28 hl4 (Or.inl ⟨rfl, key.mp (Decidable.not_not.mp z)⟩)⟩⟩
end
