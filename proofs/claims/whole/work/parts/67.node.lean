/-! canonical nodes stand for blocks -/
section
variable {g : Sg} {d : Nd} {tg : Int → Int}
def Rpn (g : Sg) (d : Nd) (tg : Int → Int) (M0 : Mem) (W z : Int → Int) (N j x t : Int) : Prop := (0 ≤ x ∧ x < N) ∧ ∃ m f, Sml g d tg m ∧ (∃ i, (0 ≤ i ∧ i < M0 28 2) ∧ M0 29 i = m) ∧ j = M0 25 m ∧ Tm g d tg W z f x m ∧ nY d m = t
theorem RpC_nod (hS : StOK g d tg) {W z : Int → Int} {N : Int} {M0 : Mem} (hR : Rw g W N z) (hX : XR g d tg M0) (hW : Wki 28 29 30 g d tg M0) (hC : Can g d tg M0 (M0 28 2)) : RpC mX5_isBuiltBy mX5_split 22 g W z N M0 (Rpn g d tg M0 W z N) := by
  obtain ⟨r, hG⟩ := hS.2.2.2
  have bn := hS.2.1.1
  obtain ⟨w0, w1, w2, w3, w4, w5, w6⟩ := hW
  have o3 : ∀ i, 0 ≤ i → i < M0 28 2 → 0 ≤ M0 29 i ∧ M0 29 i < nN d := fun i i0 i1 => (w3 i i0 i1).1
  -- the canonical node of a small one
  have can : ∀ m, (∃ i, (0 ≤ i ∧ i < M0 28 2) ∧ M0 29 i = m) → (0 ≤ M0 25 m ∧ M0 25 m < nN d) ∧ (∃ i, (0 ≤ i ∧ i < M0 28 2) ∧ M0 29 i = M0 25 m) ∧ Te g d tg (M0 25 m) m := by
    intro m ⟨i, hi, ei⟩
    have q := hC.in o3 hi.1 hi.2
    obtain ⟨u, hu, e, te⟩ := hC.2 i hi.1 hi.2
    rw [ei] at q e te
    refine ⟨q, ⟨u, hu, e.symm⟩, ?_⟩
    rw [e]
    exact te
  have same : ∀ a b, (∃ i, (0 ≤ i ∧ i < M0 28 2) ∧ M0 29 i = a) → (∃ i, (0 ≤ i ∧ i < M0 28 2) ∧ M0 29 i = b) → (M0 25 a = M0 25 b ↔ Te g d tg a b) := by
    intro a b ⟨i, hi, ei⟩ ⟨u, hu, eu⟩
    rw [← ei, ← eu]
    exact hC.1 i u hi.1 hi.2 hu.1 hu.2
  have kidw : ∀ m k, (∃ i, (0 ≤ i ∧ i < M0 28 2) ∧ M0 29 i = m) → 0 ≤ k → k < pq g d m → ∃ i, (0 ≤ i ∧ i < M0 28 2) ∧ M0 29 i = kq d tg m k := by
    intro m k ⟨i, hi, ei⟩ k0 k1
    rw [← ei] at k1 ⊢
    obtain ⟨j, hj, ej⟩ := w6 i k hi.1 hi.2 k0 k1
    exact ⟨j, by omega, ej⟩
  have te2 : ∀ a b, 0 ≤ a → a < nN d → Te g d tg a b → nC d a = nC d b ∧ ∀ k, 0 ≤ k → k < pq g d a → Te g d tg (kq d tg a k) (kq d tg b k) := by
    intro a b a0 a1 te
    rcases (Te_eq hS.2.1 hS.2.2.1 hG a0 a1).mp te with e | ⟨e1, e2, e3⟩
    · rw [e]; exact ⟨rfl, fun k _ _ => Te_rf _⟩
    · exact ⟨e2, e3⟩
  refine ⟨fun j x t h => ?_, fun j j2 x y t h h2 => ?_, fun M K j x t c hF h c0 c1 ct k1 k0 => ?_, fun M K j x t hF h kk => ?_⟩
  · obtain ⟨hx, m, f, hm, hw, ej, hp, _⟩ := h
    have q := (can m hw).1
    exact ⟨hx, by omega⟩
  · obtain ⟨hx, m, f, hm, hw, ej, hp, _⟩ := h
    obtain ⟨hy, m2, f2, hm2, hw2, ej2, hp2, _⟩ := h2
    rw [ej, ej2, same m m2 hw hw2]
    constructor
    · intro te
      obtain ⟨a, b⟩ := Tm_te hS f f2 x y m m2 hm hm2 hp hp2 te
      have zx := (Tm_z hp).2
      have zy := (Tm_z hp2).2
      exact ⟨by omega, fun u u0 u1 => b u u0 (by omega)⟩
    · intro sm
      exact Tm_sm hS hR f f2 x y m m2 hx.1 hx.2 hy.1 hy.2 hm hm2 hp hp2 sm
  · obtain ⟨hx, m, f, hm, hw, ej, hp, _⟩ := h
    obtain ⟨q1, q2, q3⟩ := can m hw
    have ec := (te2 _ _ q1.1 q1.2 q3).1
    have eW := (Tm_z hp).1
    have e14 : M 14 = nC d := (hX.fr hF (by decide)).2.1.2.2.1
    have hcb := hS.2.1.cbd hS.1 q1.1 q1.2
    have hg := hS.1.n
    rw [ej]
    refine en_X5_isBuiltBy ⟨by omega, ?_⟩
    rw [e14]
    exact ⟨by omega, fun y => k0 (by omega), fun y => k1 (by omega)⟩
  · obtain ⟨hx, m, f, hm, hw, ej, hp, _⟩ := h
    obtain ⟨q1, q2, q3⟩ := can m hw
    obtain ⟨ec, ek⟩ := te2 _ _ q1.1 q1.2 q3
    have ep : pq g d m = pq g d (M0 25 m) := (pq_same ec).symm
    have hpb := pq_bd hS.1 hS.2.1 q1.1 q1.2
    obtain ⟨hc, hpm, e, hk⟩ := hm.parts hS
    cases f with
    | zero => exact hp.elim
    | succ f =>
      have ox := kst_so hS hm hp
      have kx := (hR.kids hx.1 hx.2).2.2.2
      rw [hp.1] at kk kx ⊢
      rw [← hpm.1] at kk kx
      rw [ej]
      have loop : ∀ (n : Nat) (k : Int) (M1 : Mem), (pq g d m - k).toNat = n → 0 ≤ k → k ≤ pq g d m → Fr [49] M M1 → (∀ i, 0 ≤ i → i < k → M1 49 i = M0 25 (kq d tg m i)) → AW mX5_split 3 [some (vR 22), some (vI (M0 25 m)), some (vI (nC d m)), some (vR 49), some (vI k)] [] M1 (QV K) := by
        intro n
        induction n with
        | zero =>
          intro k M1 hn k0 k1 hF1 hi
          have hX1 : XR g d tg M1 := (hX.fr hF (by decide)).fr hF1 (by decide)
          refine sg_X5_split_3 (c_partTotal hS hX1 q1.1 q1.2 ⟨by omega, fun _ => kk M1 hF1 (fun i i0 i1 => ?_), fun y => by omega⟩)
          have a := ox i.toNat (by omega)
          rw [show ((i.toNat : Nat) : Int) = i by omega] at a
          have c1 := (kx i i0 i1).1
          rw [a] at c1 ⊢
          have kin := kq_in hS.2.1 hS.2.2.1 hG hm.1.1 hm.1.2 hc.1 (show 0 ≤ i ∧ i < gA g (nC d m) by omega)
          exact ⟨⟨by omega, c1.2⟩, kq d tg m i, f, (hk i i0 i1).1, kidw m i hw i0 i1, hi i i0 (by omega), hp.2.2 i i0 i1, kin.2.2.2⟩
        | succ n ih =>
          intro k M1 hn k0 k1 hF1 hi
          have hX1 : XR g d tg M1 := (hX.fr hF (by decide)).fr hF1 (by decide)
          have kin := kq_in2 hS.2.1 hS.2.2.1 hG q1.1 q1.2 (show 0 ≤ k ∧ k < pq g d (M0 25 m) by omega)
          refine sg_X5_split_3 (c_partTotal hS hX1 q1.1 q1.2 ⟨by omega, fun y => by omega, fun _ => c_resolvedPart hS hX1 q1.1 q1.2 (by omega) ⟨by omega, by omega, ?_⟩⟩)
          have e25 : M1 25 = M0 25 := by rw [hF1 25 (by decide), hF 25 (by decide)]
          have es := (same _ _ (kidw _ k q2 k0 (by omega)) (kidw m k hw k0 (by omega))).mpr (ek k k0 (by omega))
          rw [e25, es]
          refine ih (k + 1) _ (by omega) (by omega) (by omega) (hF1.up (by decide)) (fun i i0 i1 => ?_)
          by_cases ei : i = k
          · rw [ei, up_same]
          · rw [up_other ei]; exact hi i i0 (by omega)
      exact en_X5_split (loop _ 0 M rfl (by omega) (by omega) (Fr.refl _ _) (fun i i0 i1 => by omega))
theorem c_canonicalNode {M : Mem} {K : Int → Mem → Prop} (hS : StOK g d tg) (hX : XR g d tg M) (hb : 0 ≤ M 28 3 ∧ M 28 3 < 1000000) (hl : ∀ n, 0 ≤ n → n < 100 → 0 ≤ M 30 n ∧ M 30 n ≤ M 28 3) {a : Int} (a0 : 0 ≤ a) (a1 : a < nN d) (kk : ∀ M', Fr [25, 28, 29, 30, 31] M M' → M' 28 3 = M 28 3 + 1 → Wki 28 29 30 g d tg M' → Can g d tg M' (M' 28 2) → (∃ i, (0 ≤ i ∧ i < M' 28 2) ∧ M' 29 i = re tg a) → K (M' 25 (re tg a)) M') : CI mX5_canonicalNode [vR 22, vI a] M K := by
  obtain ⟨r, hG⟩ := hS.2.2.2
  have bn := hS.2.1.1
  have ta := re_in hS.2.2.1 hG a0 a1
  refine en_X5_canonicalNode (c_begin hS.2.1 hb hl (fun M1 hF1 e1 hW1 hn1 => c_visit hS (hX.fr hF1 (by decide)) hW1 a0 a1 (fun M2 hF2 e2 hW2 ht2 _ _ => ?_)))
  have hX2 : XR g d tg M2 := (hX.fr hF1 (by decide)).fr hF2 (by decide)
  refine c_findCanonical hS hX2 hW2 (fun M4 hF4 hC => ?_)
  have hX4 : XR g d tg M4 := hX2.fr hF4 (by decide)
  have F : Fr [25, 28, 29, 30, 31] M M4 := ((hF1.mono (by decide)).trans (hF2.mono (by decide))).trans (hF4.mono (by decide))
  have a28 : M4 28 = M2 28 := hF4 28 (by decide)
  have a29 : M4 29 = M2 29 := hF4 29 (by decide)
  have a30 : M4 30 = M2 30 := hF4 30 (by decide)
  refine c_resolve hS hX4 a0 a1 ⟨⟨ta.1, by omega⟩, kk M4 F ?_ ?_ ?_ ?_⟩
  · rw [a28, e2]; exact e1
  · unfold Wki Un at hW2 ⊢
    rw [a28, a29, a30]
    exact hW2
  · rw [a28]; exact hC
  · rw [a28, a29]
    exact hW2.2.2.2.2.1 (re tg a) ta.1 (by omega) ht2
/-! the reference lays a term as a row -/
theorem c_pushL {M : Mem} {K : Mem → Prop} {v1 b n : Int} (hS : StOK g d tg) (hX : MMR g d tg M) (n0 : 0 ≤ n) (n1 : n < nN d) (b0 : 0 ≤ b) (b1 : b ≤ 100)
    (kk : ∀ M', Fr [84] M M' → (∀ e, e < b → M' 84 e = M 84 e) → (∀ j, 0 ≤ j → j < pq g d n → M' 84 (b + j) = nK d (n * 3 + (pq g d n - 1 - j))) → AW mX12_layTerm 14 [some (vR 50), some (vI v1), some (vI (b + pq g d n)), none, none] [] M' (QV K)) :
    AW mX12_layTerm 66 [some (vR 50), some (vI v1), some (vI b), some (vI n), some (vI (pq g d n - 1))] [] M (QV K) := by
  have hp := pq_bd hS.1 hS.2.1 n0 n1
  have bn := hS.2.1.1
  have loop : ∀ (m : Nat) (k : Int) (M1 : Mem), (k + 1).toNat = m → -1 ≤ k → k < pq g d n → Fr [84] M M1 → (∀ e, e < b → M1 84 e = M 84 e) → (∀ j, 0 ≤ j → j < pq g d n - 1 - k → M1 84 (b + j) = nK d (n * 3 + (pq g d n - 1 - j))) → AW mX12_layTerm 66 [some (vR 50), some (vI v1), some (vI (b + (pq g d n - 1 - k))), some (vI n), some (vI k)] [] M1 (QV K) := by
    intro m
    induction m with
    | zero =>
      intro k M1 hm k0 k1 hF h1 h2
      refine sg_X12_layTerm_66 ⟨by omega, fun _ => ?_, fun z => by omega⟩
      have e : k = -1 := by omega
      subst e
      rw [show b + (pq g d n - 1 - -1) = b + pq g d n by omega]
      exact kk M1 hF h1 (fun j j0 j1 => h2 j j0 (by omega))
    | succ m ih =>
      intro k M1 hm k0 k1 hF h1 h2
      refine sg_X12_layTerm_66 ⟨by omega, fun z => by omega, fun _ => ⟨by omega, by omega, ?_⟩⟩
      have pp := pq_pos (show 0 ≤ k ∧ k < pq g d n by omega)
      have e56 := (hX.2.1.2 n n0 n1).2.2 pp.1 k (by omega) pp.2
      rw [hF 56 (by decide), e56]
      have := ih (k + -1) (up M1 84 (b + (pq g d n - 1 - k)) (nK d (n * 3 + k))) (by omega) (by omega) (by omega) (hF.up (by decide)) (fun e e1 => by rw [up_other (by omega)]; exact h1 e e1) (fun j j0 j1 => ?_)
      · rw [show b + (pq g d n - 1 - (k + -1)) = b + (pq g d n - 1 - k) + 1 by omega] at this
        exact this
      · by_cases e : j = pq g d n - 1 - k
        · rw [e, up_same, show pq g d n - 1 - (pq g d n - 1 - k) = k by omega]
        · rw [up_other (by omega)]
          exact h2 j j0 (by omega)
  have := loop _ (pq g d n - 1) M rfl (by omega) (by omega) (Fr.refl _ _) (fun e _ => rfl) (fun j j0 j1 => by omega)
  rw [show b + (pq g d n - 1 - (pq g d n - 1)) = b by omega] at this
  exact this
/-- the reference while it lays a term -/
def LSt (M1 M : Mem) : Prop := Fr [50, 65, 84] M1 M ∧ ∀ f : Int, f ≠ 21 → M 50 f = M1 50 f
theorem LSt.keep {M1 M : Mem} (h : LSt M1 M) : Keep M1 M := Keep.of2 h.1 (by decide) (fun x hx => h.2 x (by revert hx; revert x; decide))
theorem c_layTerm {M0 : Mem} {K : Mem → Prop} {W z : Int → Int} {v : Int} {f : Nat} (hS : StOK g d tg) (hX : MMR g d tg M0) (v0 : 0 ≤ v) (v1 : v < nN d) (hm : Sml g d tg (re tg v)) (hT : Tm g d tg W z f 0 (re tg v)) (hR : Rw g W (Sz g d tg (re tg v)) z)
    (kk : ∀ M', Fr [50, 65, 66, 84] M0 M' → (∀ f : Int, f ≠ 21 → M' 50 f = M0 50 f) → (∀ x, 0 ≤ x → x < Sz g d tg (re tg v) → M' 65 x = W x) → (∀ x, 0 ≤ x → x < Sz g d tg (re tg v) → M' 66 x = z x) → K M') : CV mX12_layTerm [vR 50, vI v] M0 K := by
  obtain ⟨r, hG⟩ := hS.2.2.2
  have bn := hS.2.1.1
  have hsz := hm.2
  have loop : ∀ (m : Nat) (M : Mem) (a w : Int) (G : Int → Int), (Sz g d tg (re tg v) - a).toNat = m → LSt M0 M → 0 ≤ a → M 50 21 = a → LG z (Sz g d tg (re tg v)) a G w → (∀ e, 0 ≤ e → e < w → (0 ≤ M 84 e ∧ M 84 e < nN d) ∧ Sml g d tg (re tg (M 84 e)) ∧ ∃ f, Tm g d tg W z f (G e) (re tg (M 84 e))) → (∀ x, 0 ≤ x → x < a → M 65 x = W x) → AW mX12_layTerm 14 [some (vR 50), some (vI v), some (vI w), none, none] [] M (QV K) := by
    intro m
    induction m using Nat.strongRecOn with
    | _ m ih =>
      intro M a w G hme hL a0 h21 hLG hA h65
      have w0 := hLG.1
      have hi := hLG.hi hR
      have hX1 : MMR g d tg M := hX.keep hL.keep
      by_cases ew : w = 0
      · have ea : a = Sz g d tg (re tg v) := by
          rw [← hLG.2.1, ← hLG.2.2.1, ew]
          rfl
        rw [ea] at h65 h21
        refine sg_X12_layTerm_14 ⟨by omega, fun _ => c_layParts hS.1 hX1.1 (z := z) (by omega) (by rw [h21]; exact hR.congr h65) (fun M' hF h66 => kk M' ((hL.1.mono (by decide)).trans (hF.mono (by decide))) (fun f hf => by rw [hF 50 (by decide)]; exact hL.2 f hf) (fun x x0 x1 => by rw [hF 65 (by decide)]; exact h65 x x0 x1) (by rw [h21] at h66; exact h66)), fun y => by omega⟩
      · obtain ⟨qA, qm, f, qT⟩ := hA (w - 1) (by omega) (by omega)
        have qn := re_in hS.2.2.1 hG qA.1 qA.2
        have e54 := (hX1.2.1.2 _ qn.1 qn.2).2.1
        rw [hLG.2.1] at qT
        refine sg_X12_layTerm_14 ⟨by omega, fun y => by omega, fun _ => ⟨by omega, ?_⟩⟩
        rw [show w + -1 = w - 1 by omega]
        refine c_resolved hS hX1 qA.1 qA.2 ⟨by omega, ?_⟩
        rw [h21, e54]
        generalize hn : re tg (M 84 (w - 1)) = n at *
        obtain ⟨hc, hp, e, hk⟩ := qm.parts hS
        have env : nv (nC d n) = W a := by
          unfold nv
          rw [if_neg (by omega), (Tm_z qT).1]
        rw [env]
        have ep : pq g d n = gA g (W a) := by rw [(Tm_z qT).1]; exact hp.1
        generalize hM1 : up (up M 65 a (W a)) 50 21 (a + 1) = M1
        have s21 : M1 50 21 = a + 1 := by rw [← hM1, up_same]
        have s50 : ∀ f : Int, f ≠ 21 → M1 50 f = M 50 f := fun f hf => by rw [← hM1, up_other hf, up_ne (by decide)]
        have s65 : ∀ x, 0 ≤ x → x < a + 1 → M1 65 x = W x := by
          intro x x0 x1
          rw [← hM1, up_ne (by decide)]
          by_cases ex : x = a
          · rw [ex, up_same]
          · rw [up_other ex]; exact h65 x x0 (by omega)
        have s84 : M1 84 = M 84 := by rw [← hM1, up_ne (by decide), up_ne (by decide)]
        have hL1 : LSt M0 M1 := ⟨by rw [← hM1]; exact (hL.1.up (by decide)).up (by decide), fun f hf => (s50 f hf).trans (hL.2 f hf)⟩
        clear hM1
        have hX2 : MMR g d tg M1 := hX.keep hL1.keep
        refine ⟨by omega, c_manyOf hS hX2 qn.1 qn.2 (c_pushL hS hX2 qn.1 qn.2 (by omega) (by omega) (fun M2 hF2 f1 f2 => ?_))⟩
        rw [s84] at f1
        have hL2 : LSt M0 M2 := ⟨hL1.1.trans (hF2.mono (by decide)), fun f hf => by rw [hF2 50 (by decide)]; exact hL1.2 f hf⟩
        refine ih _ ?_ M2 (a + 1) (w - 1 + pq g d n) (gk z G (w - 1) (pq g d n) a) rfl hL2 (by omega) (by rw [hF2 50 (by decide)]; exact s21) (hLG.push hR hS.1 (show 0 < w by omega) ep a0 (by omega)) (fun i i0 i1 => ?_) (fun x x0 x1 => by rw [hF2 65 (by decide)]; exact s65 x x0 x1)
        · omega
        · by_cases l : i < w - 1
          · rw [f1 i l]
            have eg : gk z G (w - 1) (pq g d n) a i = G i := by unfold gk; rw [if_pos l]
            rw [eg]
            exact hA i i0 (by omega)
          · have q := f2 (i - (w - 1)) (by omega) (by omega)
            rw [show w - 1 + (i - (w - 1)) = i by omega] at q
            rw [q]
            have eg : gk z G (w - 1) (pq g d n) a i = kst z a (pq g d n - 1 - (i - (w - 1))).toNat := by unfold gk; rw [if_neg l]
            rw [eg]
            have k0 : 0 ≤ pq g d n - 1 - (i - (w - 1)) := by omega
            have k1 : pq g d n - 1 - (i - (w - 1)) < pq g d n := by omega
            generalize pq g d n - 1 - (i - (w - 1)) = k at k0 k1 ⊢
            have kd := (hS.2.1.kid qn.1 qn.2 hc.1 (show 0 ≤ k ∧ k < gA g (nC d n) by omega)).1
            refine ⟨by omega, (hk k k0 k1).1, ?_⟩
            cases f with
            | zero => exact qT.elim
            | succ f =>
              have o := kst_so hS qm qT k.toNat (by omega)
              rw [show ((k.toNat : Nat) : Int) = k by omega] at o
              rw [o]
              exact ⟨f, qT.2.2 k k0 k1⟩
  refine en_X12_layTerm ?_
  have t0 : up (up M0 50 21 0) 84 0 v 84 0 = v := up_same
  have t21 : up (up M0 50 21 0) 84 0 v 50 21 = 0 := by rw [up_ne (by decide), up_same]
  refine loop _ _ 0 1 (fun e => if e < 0 then Sz g d tg (re tg v) else 0) rfl ⟨((Fr.refl _ M0).up (by decide)).up (by decide), fun f hf => by rw [up_ne (by decide), up_other hf]⟩ (by omega) t21 ⟨by omega, rfl, rfl, fun e e0 e1 => ?_⟩ (fun e e0 e1 => ?_) (fun x x0 x1 => by omega)
  · have e : e = 0 := by omega
    subst e
    refine ⟨⟨Int.le_refl _, by show (0 : Int) < Sz g d tg (re tg v); omega⟩, ?_⟩
    show Sz g d tg (re tg v) = 0 + z 0
    rw [(Tm_z hT).2]
    omega
  · have e : e = 0 := by omega
    subst e
    rw [t0]
    exact ⟨⟨v0, v1⟩, hm, f, hT⟩
end
