/-! the reference matches a pattern against the row -/
section
variable {g : Sg} {d : Nd} {tg : Int → Int}
/-- places that wait: the top one begins at the reading place, each lower one behind it -/
def LG (z : Int → Int) (N at_ : Int) (G : Int → Int) (w : Int) : Prop := 0 ≤ w ∧ G (w - 1) = at_ ∧ G (-1) = N ∧ ∀ e, 0 ≤ e → e < w → (0 ≤ G e ∧ G e < N) ∧ G (e - 1) = G e + z (G e)
theorem LG.hi {W z : Int → Int} {N a : Int} {G : Int → Int} {w : Int} (hR : Rw g W N z) (h : LG z N a G w) : a + w ≤ N := by
  have key : ∀ m : Nat, (m : Int) ≤ w → a + m ≤ G (w - m - 1) := by
    intro m
    induction m with
    | zero => intro _; have := h.2.1; rw [show w - ((0 : Nat) : Int) - 1 = w - 1 by omega]; omega
    | succ m ih =>
      intro hm
      have i := ih (by omega)
      have q := h.2.2.2 (w - m - 1) (by omega) (by omega)
      have zz := (hR.kids q.1.1 q.1.2).2.1
      have q2 := q.2
      rw [show w - m - 1 - 1 = w - ((m + 1 : Nat) : Int) - 1 by omega] at q2
      omega
  have w0 := h.1
  have e := h.2.2.1
  have := key w.toNat (by omega)
  rw [show w - ((w.toNat : Nat) : Int) - 1 = -1 by omega] at this
  omega
/-- the waiting places when the parts of the top one take its place -/
def gk (z : Int → Int) (G : Int → Int) (b p a : Int) : Int → Int := fun e => if e < b then G e else kst z a (p - 1 - (e - b)).toNat
theorem LG.push {W z : Int → Int} {N a : Int} {G : Int → Int} {w p : Int} (hR : Rw g W N z) (hg : SgOK g) (h : LG z N a G w) (w0 : 0 < w) (hp : p = gA g (W a)) (a0 : 0 ≤ a) (a1 : a < N) : LG z N (a + 1) (gk z G (w - 1) p a) (w - 1 + p) := by
  obtain ⟨h1, h2, h3, h4⟩ := h
  obtain ⟨q1, q2, q3, q4⟩ := hR.kids a0 a1
  have ha := hg.a q1.1 q1.2
  rw [← hp] at q3 q4 ha
  have ht := h4 (w - 1) (by omega) (by omega)
  rw [h2] at ht
  refine ⟨by omega, ?_, ?_, fun e e0 e1 => ?_⟩
  · unfold gk
    by_cases e : p = 0
    · rw [if_pos (by omega), show w - 1 + p - 1 = w - 1 - 1 by omega, ht.2]
      have := q3 ha.1
      rw [e] at this
      have this : a + 1 = a + z a := this
      omega
    · rw [if_neg (by omega), show (p - 1 - (w - 1 + p - 1 - (w - 1))).toNat = 0 by omega]
      rfl
  · unfold gk
    by_cases e : (-1 : Int) < w - 1
    · rw [if_pos e]; exact h3
    · omega
  · by_cases l : e < w - 1
    · unfold gk
      rw [if_pos l, if_pos (by omega)]
      exact h4 e e0 (by omega)
    · have qk := q4 (p - 1 - (e - (w - 1))) (by omega) (by omega)
      have e1 : gk z G (w - 1) p a e = kst z a (p - 1 - (e - (w - 1))).toNat := by unfold gk; rw [if_neg l]
      rw [e1]
      refine ⟨by omega, ?_⟩
      rw [← kst_step (by omega)]
      unfold gk
      by_cases l2 : e - 1 < w - 1
      · rw [if_pos l2, show e - 1 = w - 1 - 1 by omega, ht.2, show p - 1 - (e - (w - 1)) + 1 = p by omega]
        exact (q3 ha.1).symm
      · rw [if_neg l2, show p - 1 - (e - 1 - (w - 1)) = p - 1 - (e - (w - 1)) + 1 by omega]
def QM (tg : Int → Int) (A : Int → Int) (w : Int) (G : Int → Int) (n x : Int) : Prop := ∃ e, (0 ≤ e ∧ e < w) ∧ re tg (A e) = n ∧ G e = x
theorem QM.pop {A : Int → Int} {w : Int} {G : Int → Int} (w0 : 0 < w) : QM tg A w G (re tg (A (w - 1))) (G (w - 1)) ∧ (∀ a b, QM tg A w G a b → (a = re tg (A (w - 1)) ∧ b = G (w - 1)) ∨ QM tg A (w - 1) G a b) ∧ ∀ a b, QM tg A (w - 1) G a b → QM tg A w G a b := by
  refine ⟨⟨w - 1, by omega, rfl, rfl⟩, fun a b ⟨e, he, e1, e2⟩ => ?_, fun a b ⟨e, he, e1, e2⟩ => ⟨e, by omega, e1, e2⟩⟩
  by_cases q : e = w - 1
  · exact Or.inl ⟨by rw [← e1, q], by rw [← e2, q]⟩
  · exact Or.inr ⟨e, by omega, e1, e2⟩
theorem QM.push {A A2 : Int → Int} {b p n a : Int} {G z : Int → Int} (hA : ∀ e, e < b → A2 e = A e) (hK : ∀ j, 0 ≤ j → j < p → A2 (b + j) = nK d (n * 3 + (p - 1 - j))) (b0 : 0 ≤ b) : (∀ x y, QM tg A b G x y → QM tg A2 (b + p) (gk z G b p a) x y) ∨ p < 0 := by
  rcases Int.lt_or_le p 0 with q | q
  · exact Or.inr q
  · refine Or.inl (fun x y ⟨e, he, e1, e2⟩ => ⟨e, by omega, by rw [hA e he.2]; exact e1, ?_⟩)
    unfold gk
    rw [if_pos he.2]
    exact e2
theorem QM.kids {A2 : Int → Int} {b p n a : Int} {G z : Int → Int} (hK : ∀ j, 0 ≤ j → j < p → A2 (b + j) = nK d (n * 3 + (p - 1 - j))) (b0 : 0 ≤ b) {k : Int} (k0 : 0 ≤ k) (k1 : k < p) : QM tg A2 (b + p) (gk z G b p a) (kq d tg n k) (kst z a k.toNat) := by
  refine ⟨b + (p - 1 - k), by omega, ?_, ?_⟩
  · rw [hK (p - 1 - k) (by omega) (by omega), show p - 1 - (p - 1 - k) = k by omega]
    rfl
  · unfold gk
    rw [if_neg (by omega), show p - 1 - (b + (p - 1 - k) - b) = k by omega]
theorem QM.back {A A2 : Int → Int} {b p n a : Int} {G z : Int → Int} (hA : ∀ e, e < b → A2 e = A e) (hK : ∀ j, 0 ≤ j → j < p → A2 (b + j) = nK d (n * 3 + (p - 1 - j))) (x y : Int) (h : QM tg A2 (b + p) (gk z G b p a) x y) : QM tg A b G x y ∨ ∃ k, (0 ≤ k ∧ k < p) ∧ x = kq d tg n k ∧ y = kst z a k.toNat := by
  obtain ⟨e, he, e1, e2⟩ := h
  by_cases l : e < b
  · refine Or.inl ⟨e, by omega, by rw [← hA e l]; exact e1, ?_⟩
    unfold gk at e2
    rw [if_pos l] at e2
    exact e2
  · refine Or.inr ⟨p - 1 - (e - b), by omega, ?_, ?_⟩
    · have := hK (e - b) (by omega) (by omega)
      rw [show b + (e - b) = e by omega] at this
      rw [this] at e1
      exact e1.symm
    · unfold gk at e2
      rw [if_neg l] at e2
      exact e2.symm
theorem c_pushM {M : Mem} {K : Int → Mem → Prop} {v1 b a n : Int} (hS : StOK g d tg) (hX : MMR g d tg M) (n0 : 0 ≤ n) (n1 : n < nN d) (b0 : 0 ≤ b) (b1 : b ≤ 100)
    (kk : ∀ M', Fr [84] M M' → (∀ e, e < b → M' 84 e = M 84 e) → (∀ j, 0 ≤ j → j < pq g d n → M' 84 (b + j) = nK d (n * 3 + (pq g d n - 1 - j))) → AW mX12_matches 35 [some (vR 50), some (vI v1), some (vI (b + pq g d n)), some (vI (a + 1)), none, none] [] M' (QI K)) :
    AW mX12_matches 139 [some (vR 50), some (vI v1), some (vI b), some (vI a), some (vI n), some (vI (pq g d n - 1))] [] M (QI K) := by
  have hp := pq_bd hS.1 hS.2.1 n0 n1
  have bn := hS.2.1.1
  have loop : ∀ (m : Nat) (k : Int) (M1 : Mem), (k + 1).toNat = m → -1 ≤ k → k < pq g d n → Fr [84] M M1 → (∀ e, e < b → M1 84 e = M 84 e) → (∀ j, 0 ≤ j → j < pq g d n - 1 - k → M1 84 (b + j) = nK d (n * 3 + (pq g d n - 1 - j))) → AW mX12_matches 139 [some (vR 50), some (vI v1), some (vI (b + (pq g d n - 1 - k))), some (vI a), some (vI n), some (vI k)] [] M1 (QI K) := by
    intro m
    induction m with
    | zero =>
      intro k M1 hm k0 k1 hF h1 h2
      refine sg_X12_matches_139 ⟨by omega, fun _ => sg_X12_matches_174 ?_, fun z => by omega⟩
      have e : k = -1 := by omega
      subst e
      rw [show b + (pq g d n - 1 - -1) = b + pq g d n by omega]
      exact kk M1 hF h1 (fun j j0 j1 => h2 j j0 (by omega))
    | succ m ih =>
      intro k M1 hm k0 k1 hF h1 h2
      refine sg_X12_matches_139 ⟨by omega, fun z => by omega, fun _ => ⟨by omega, by omega, ?_⟩⟩
      have pp := pq_pos (show 0 ≤ k ∧ k < pq g d n by omega)
      have e56 := (hX.2.1.2 n n0 n1).2.2 pp.1 k (by omega) pp.2
      rw [hF 56 (by decide), e56]
      have := ih (k + -1) (up M1 84 (b + (pq g d n - 1 - k)) (nK d (n * 3 + k))) (by omega) (by omega) (by omega) (hF.up (by decide)) (fun e e1 => by rw [up_other (by omega)]; exact h1 e e1) (fun j j0 j1 => ?_)
      · rw [show b + (pq g d n - 1 - (k + -1)) = b + (pq g d n - 1 - k) + 1 by omega] at this
        exact this
      · by_cases e : j = pq g d n - 1 - k
        · rw [e, up_same, show pq g d n - 1 - (pq g d n - 1 - k) = k by omega]
        · rw [up_other (by omega)]
          exact h2 j j0 (by omega)
  have := loop _ (pq g d n - 1) M rfl (by omega) (by omega) (Fr.refl _ _) (fun e _ => rfl) (fun j j0 j1 => by omega)
  rw [show b + (pq g d n - 1 - (pq g d n - 1)) = b by omega] at this
  exact this
theorem c_areSame2 {M : Mem} {K : Int → Mem → Prop} {n x y : Int} {W z : Int → Int} (hR : Rw g W n z) (hg : SgOK g) (hn : n ≤ 64) (hw : ∀ u, 0 ≤ u → u < n → M 65 u = W u) (hz : ∀ u, 0 ≤ u → u < n → M 66 u = z u) (x0 : 0 ≤ x) (x1 : x < n) (y0 : 0 ≤ y) (y1 : y < n) (k1 : SmB W z x y → K 1 M) (k0 : ¬ SmB W z x y → K 0 M) : CI mX12_areSame [vR 50, vI x, vI y] M K := by
  have wx := (hR x x0 x1).2.1
  have wy := (hR y y0 y1).2.1
  refine c_areSame (hR.congr hw) hg hn hz x0 x1 y0 y1 (fun s => k1 ⟨s.1, fun j j0 j1 => ?_⟩) (fun s => k0 (fun t => s ⟨t.1, fun j j0 j1 => ?_⟩))
  · rw [← hw _ (by omega) (by omega), ← hw (y + j) (by omega) (by have := s.1; omega)]
    exact s.2 j j0 j1
  · rw [hw _ (by omega) (by omega), hw (y + j) (by omega) (by have := t.1; omega)]
    exact t.2 j j0 j1
/-- what the reference's variables have been given -/
def GV (d : Nd) (W z : Int → Int) (N : Int) (D : Int → Int → Prop) (A : Int → Int) : Prop := (∀ v, 0 ≤ v → v < nN d → A v = -13 ∨ ((0 ≤ A v ∧ A v < N) ∧ D v (A v))) ∧ ∀ v x, D v x → nC d v < 0 → 0 ≤ A v ∧ SmB W z x (A v)
theorem c_matches {M0 : Mem} {K : Int → Mem → Prop} {W z : Int → Int} {N v : Int} (hS : StOK g d tg) (hX : MMR g d tg M0) (hR : Rw g W N z) (z0 : z 0 = N) (N0 : 1 ≤ N) (N1 : N ≤ 64) (hw : ∀ u, 0 ≤ u → u < N → M0 65 u = W u) (hz : ∀ u, 0 ≤ u → u < N → M0 66 u = z u) (v0 : 0 ≤ v) (v1 : v < nN d)
    (k1 : ∀ M', Fr [83, 84] M0 M' → Mt g d tg W z (re tg v) → K 1 M') (k0 : ∀ M', Fr [83, 84] M0 M' → ¬ Mt g d tg W z (re tg v) → K 0 M') : CI mX12_matches [vR 50, vI v] M0 K := by
  obtain ⟨r, hG⟩ := hS.2.2.2
  have bn := hS.2.1.1
  have bg := hS.1.n
  have loop : ∀ (m : Nat) (M : Mem) (a w : Int) (G : Int → Int) (D : Int → Int → Prop), (N - a).toNat = m → Fr [83, 84] M0 M → 0 ≤ a → LG z N a G w → (∀ e, 0 ≤ e → e < w → 0 ≤ M 84 e ∧ M 84 e < nN d) → MI g d tg W z (re tg v) D (QM tg (M 84) w G) → GV d W z N D (M 83) → AW mX12_matches 35 [some (vR 50), some (vI v), some (vI w), some (vI a), none, none] [] M (QI K) := by
    intro m
    induction m using Nat.strongRecOn with
    | _ m ih =>
      intro M a w G D hm hF a0 hL hA hI hV
      have w0 := hL.1
      have hi := hL.hi hR
      by_cases ew : w = 0
      · refine sg_X12_matches_35 ⟨by omega, fun _ => k1 M hF (hI.mt ?_ ?_), fun y => by omega⟩
        · intro a b ⟨e, he, _⟩
          omega
        · intro u x y hx hy c0
          exact (hV.2 u x hx c0).2.tr (hV.2 u y hy c0).2.sy
      · have e65 := hF 65 (by decide)
        have e66 := hF 66 (by decide)
        have hX1 : MMR g d tg M := hX.fr hF (by decide)
        have qA := hA (w - 1) (by omega) (by omega)
        have qn := re_in hS.2.2.1 hG qA.1 qA.2
        have e54 := (hX1.2.1.2 _ qn.1 qn.2).2.1
        obtain ⟨r1, r2, r3, r4⟩ := hR.kids a0 (show a < N by omega)
        have hcb := hS.2.1.cbd hS.1 qn.1 qn.2
        obtain ⟨p1, p2, p3⟩ := QM.pop (tg := tg) (A := M 84) (G := G) (show 0 < w by omega)
        have eG := hL.2.1
        rw [eG] at p1 p2
        refine sg_X12_matches_35 ⟨by omega, fun y => by omega, fun _ => ⟨by omega, ?_⟩⟩
        rw [show w + -1 = w - 1 by omega]
        refine c_resolved hS hX1 qA.1 qA.2 ⟨by omega, ?_⟩
        rw [e65, hw a a0 (by omega), e54]
        generalize hn : re tg (M 84 (w - 1)) = n at *
        unfold nv
        by_cases c0 : nC d n < 0
        · rw [if_pos c0]
          have hVn := hV.1 n qn.1 qn.2
          have go : (∀ x, D n x → SmB W z x a) → AW mX12_matches 91 [some (vR 50), some (vI v), some (vI (w - 1)), some (vI a), some (vI n), none] [] M (QI K) := by
            intro hs
            refine sg_X12_matches_91 ⟨by omega, by omega, sg_X12_matches_174 ?_⟩
            rw [e66, hz a a0 (by omega)]
            have qt := hL.2.2.2 (w - 1) (by omega) (by omega)
            rw [eG] at qt
            have u84 : up M 83 n a 84 = M 84 := up_ne (by decide)
            refine ih _ ?_ (up M 83 n a) (a + z a) (w - 1) G (fun b c => D b c ∨ (b = n ∧ c = a)) rfl (hF.up (by decide)) (by omega) ⟨by omega, qt.2, hL.2.2.1, fun e e0 e1 => hL.2.2.2 e e0 (by omega)⟩ (fun e e0 e1 => by rw [u84]; exact hA e e0 (by omega)) ?_ ⟨fun u u0 u1 => ?_, fun u x hd cu => ?_⟩
            · omega
            · rw [u84]
              exact hI.step p1 (fun y => by omega) p2 (fun k k0 k1 => absurd (pq_pos ⟨k0, k1⟩).1 (by omega)) (fun b c q => Or.inl (p3 b c q))
            · by_cases eu : u = n
              · rw [eu, up_same]
                exact Or.inr ⟨⟨a0, by omega⟩, Or.inr ⟨rfl, rfl⟩⟩
              · rw [up_other eu]
                rcases hV.1 u u0 u1 with y | ⟨y1, y2⟩
                · exact Or.inl y
                · exact Or.inr ⟨y1, Or.inl y2⟩
            · by_cases eu : u = n
              · rw [eu, up_same]
                refine ⟨a0, ?_⟩
                rcases hd with y | ⟨_, y⟩
                · rw [eu] at y; exact hs x y
                · rw [y]; exact SmB.rf a
              · rw [up_other eu]
                rcases hd with y | ⟨y, _⟩
                · exact hV.2 u x y cu
                · exact absurd y eu
          refine ⟨by omega, fun y => by omega, fun _ => ⟨by omega, by omega, fun y => go (fun x hd => ?_), fun y => ⟨by omega, ?_⟩⟩⟩
          · have := (hV.2 n x hd c0).1
            omega
          · rcases hVn with t | ⟨t1, t2⟩
            · omega
            · refine c_areSame2 hR hS.1 N1 (fun u u0 u1 => by rw [e65]; exact hw u u0 u1) (fun u u0 u1 => by rw [e66]; exact hz u u0 u1) t1.1 t1.2 a0 (by omega) (fun s => ⟨by decide, fun _ => go (fun x hd => (hV.2 n x hd c0).2.tr s), fun y => absurd (by decide) y⟩) (fun s => ⟨by decide, fun y => absurd rfl y, fun _ => k0 M hF (fun mt => s ?_)⟩)
              exact mt.2 n _ a (hI.1 n _ t2) (hI.2.1 n a p1) c0
        · rw [if_neg c0]
          refine ⟨by omega, fun _ => ⟨by omega, by omega, by omega, fun ec => ?_, fun ec => k0 M hF (fun mt => ec ?_)⟩, fun y => by omega⟩
          · have ep : pq g d n = gA g (W a) := by unfold pq; rw [if_neg c0, ec]
            have hp := pq_bd hS.1 hS.2.1 qn.1 qn.2
            refine c_manyOf hS hX1 qn.1 qn.2 (c_pushM hS hX1 qn.1 qn.2 (by omega) (by omega) (fun M1 hF1 f1 f2 => ?_))
            have u83 : M1 83 = M 83 := hF1 83 (by decide)
            have hL2 := hL.push hR hS.1 (show 0 < w by omega) ep a0 (by omega)
            refine ih _ ?_ M1 (a + 1) (w - 1 + pq g d n) (gk z G (w - 1) (pq g d n) a) (fun b c => D b c ∨ (b = n ∧ c = a)) rfl (hF.trans (hF1.mono (by decide))) (by omega) hL2 (fun e e0 e1 => ?_) ?_ ?_
            · omega
            · by_cases l : e < w - 1
              · rw [f1 e l]; exact hA e e0 (by omega)
              · have := f2 (e - (w - 1)) (by omega) (by omega)
                rw [show w - 1 + (e - (w - 1)) = e by omega] at this
                rw [this]
                have pp := pq_pos (show 0 ≤ pq g d n - 1 - (e - (w - 1)) ∧ pq g d n - 1 - (e - (w - 1)) < pq g d n by omega)
                have kd := (hS.2.1.kid qn.1 qn.2 pp.1 ⟨by omega, pp.2⟩).1
                omega
            · refine hI.step p1 (fun _ => ec.symm) (fun b c q => ?_) (fun k k0 k1 => QM.kids f2 (by omega) k0 k1) (fun b c q => ?_)
              · rcases p2 b c q with y | y
                · exact Or.inl y
                · rcases QM.push (tg := tg) (d := d) (z := z) (a := a) (G := G) f1 f2 (by omega) with t | t
                  · exact Or.inr (t b c y)
                  · omega
              · rcases QM.back f1 f2 b c q with y | y
                · exact Or.inl (p3 b c y)
                · exact Or.inr ⟨by omega, y⟩
            · rw [u83]
              refine ⟨fun u u0 u1 => ?_, fun u x hd cu => ?_⟩
              · rcases hV.1 u u0 u1 with y | ⟨y1, y2⟩
                · exact Or.inl y
                · exact Or.inr ⟨y1, Or.inl y2⟩
              · rcases hd with y | ⟨y, _⟩
                · exact hV.2 u x y cu
                · rw [y] at cu; omega
          · exact (mt.1 n a (hI.2.1 n a p1) (by omega)).symm
  have init : ∀ (m : Nat) (M : Mem) (j : Int), (nN d - j).toNat = m → 0 ≤ j → j ≤ nN d → Fr [83, 84] M0 M → (∀ u, 0 ≤ u → u < j → M 83 u = -13) → AW mX12_matches 2 [some (vR 50), some (vI v), some (vI j), none, none, none] [] M (QI K) := by
    intro m
    induction m with
    | zero =>
      intro M j hm j0 j1 hF hj
      have e5 : M 50 5 = nN d := by rw [hF 50 (by decide)]; exact hX.2.1.1
      refine sg_X12_matches_2 ?_
      rw [e5]
      have u83 : up M 84 0 v 83 = M 83 := up_ne (by decide)
      have t0 : up M 84 0 v 84 0 = v := up_same
      refine ⟨by omega, fun _ => ?_, fun y => by omega⟩
      refine loop _ _ 0 1 (fun e => if e < 0 then N else 0) (fun _ _ => False) rfl (hF.up (by decide)) (by omega) ⟨by omega, rfl, rfl, fun e e0 e1 => ?_⟩ (fun e e0 e1 => ?_) (MI.start ?_ ?_) ⟨fun u u0 u1 => ?_, fun _ _ h => h.elim⟩
      · have e : e = 0 := by omega
        subst e
        have q := (hR.kids (show (0 : Int) ≤ 0 by omega) (show (0 : Int) < N by omega)).2.1
        refine ⟨⟨Int.le_refl _, by show (0 : Int) < N; omega⟩, ?_⟩
        show N = 0 + z 0
        omega
      · have e : e = 0 := by omega
        subst e
        rw [t0]
        exact ⟨v0, v1⟩
      · intro n x ⟨e, he, h1, h2⟩
        have e : e = 0 := by omega
        subst e
        rw [t0] at h1
        exact ⟨h1.symm, h2.symm⟩
      · exact ⟨0, by omega, by rw [t0], rfl⟩
      · rw [u83]
        exact Or.inl (hj u u0 (by omega))
    | succ m ih =>
      intro M j hm j0 j1 hF hj
      have e5 : M 50 5 = nN d := by rw [hF 50 (by decide)]; exact hX.2.1.1
      refine sg_X12_matches_2 ?_
      rw [e5]
      refine ⟨by omega, fun y => by omega, fun _ => ⟨by omega, ih _ (j + 1) (by omega) (by omega) (by omega) (hF.up (by decide)) (fun u u0 u1 => ?_)⟩⟩
      by_cases e : u = j
      · rw [e, up_same]
      · rw [up_other e]; exact hj u u0 (by omega)
  exact en_X12_matches (init _ M0 0 rfl (by omega) (by omega) (Fr.refl _ _) (fun u u0 u1 => by omega))
theorem c_matchNow {M0 : Mem} {K : Int → Mem → Prop} {W z R : Int → Int} {N n : Int} (hS : StOK g d tg) (hX : MMR g d tg M0) (hR : Rw g W N z) (z0 : z 0 = N) (N0 : 1 ≤ N) (N1 : N ≤ 64) (hw : ∀ u, 0 ≤ u → u < N → M0 65 u = W u) (hz : ∀ u, 0 ≤ u → u < N → M0 66 u = z u) (n0 : 0 ≤ n) (n1 : n ≤ 8) (e13 : M0 50 13 = n) (hr : ∀ j, 0 ≤ j → j < n → M0 59 j = R j ∧ 0 ≤ R j ∧ R j < nN d)
    (kk : ∀ M' r, Fr [83, 84] M0 M' → FM g d tg W z R n r → K r M') : CI mX12_matchNow [vR 50] M0 K := by
  have loop : ∀ (m : Nat) (M : Mem) (j : Int), (n - j).toNat = m → 0 ≤ j → j ≤ n → Fr [83, 84] M0 M → (∀ i, 0 ≤ i → i < j → ¬ Mt g d tg W z (re tg (R i))) → AW mX12_matchNow 2 [some (vR 50), some (vI j)] [] M (QI K) := by
    intro m
    induction m with
    | zero =>
      intro M j hm j0 j1 hF hj
      refine sg_X12_matchNow_2 ?_
      rw [hF 50 (by decide), e13]
      exact ⟨by omega, fun _ => kk M _ hF (Or.inl ⟨rfl, fun i i0 i1 => hj i i0 (by omega)⟩), fun y => by omega⟩
    | succ m ih =>
      intro M j hm j0 j1 hF hj
      have q := hr j j0 (by omega)
      refine sg_X12_matchNow_2 ?_
      rw [hF 50 (by decide), e13, hF 59 (by decide), q.1]
      refine ⟨by omega, fun y => by omega, fun _ => ⟨by omega, c_matches hS (hX.fr hF (by decide)) hR z0 N0 N1 (fun u u0 u1 => by rw [hF 65 (by decide)]; exact hw u u0 u1) (fun u u0 u1 => by rw [hF 66 (by decide)]; exact hz u u0 u1) q.2.1 q.2.2 (fun M1 hF1 mt => ⟨by decide, fun y => absurd y (by decide), fun _ => kk M1 j (hF.trans hF1) (Or.inr ⟨by omega, mt, hj⟩)⟩) (fun M1 hF1 mt => ⟨by decide, fun _ => ih M1 (j + 1) (by omega) (by omega) (by omega) (hF.trans hF1) (fun i i0 i1 => ?_), fun y => absurd rfl y⟩)⟩⟩
      by_cases e : i = j
      · rw [e]; exact mt
      · exact hj i i0 (by omega)
  exact en_X12_matchNow (loop _ M0 0 rfl (by omega) n0 (Fr.refl _ _) (fun i i0 i1 => by omega))
end
