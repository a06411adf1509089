/-! the class builds the nodes of a value -/
section
variable {g : Sg}
theorem c_place {M : Mem} {K : Mem → Prop} (hg : SgOK g) (hX : XSig g M) (hO : XCnt g M) {n t s i p w : Int} (hv : Vd g t s i) (hn : 0 ≤ n ∧ n < 100) (hp : p = -13 ∨ (0 ≤ p ∧ p < 300)) (hw : M 17 6 = w) (w0 : 0 ≤ w) (w1 : w + gA g (rc g t s i) ≤ 12)
    (kk : ∀ M', Fr [13, 14, 15, 17, 18, 19, 20, 21] M M' → M' 13 = st1 (M 13) n t → M' 14 = st1 (M 14) n (rc g t s i) → (∀ x, (x ≠ p ∨ p = -13) → M' 15 x = M 15 x) → (p ≠ -13 → M' 15 p = n) → M' 17 6 = w + gA g (rc g t s i) → (∀ e, e < w → M' 18 e = M 18 e ∧ M' 19 e = M 19 e ∧ M' 20 e = M 20 e) → (∀ k, 0 ≤ k → k < gA g (rc g t s i) → M' 18 (w + k) = gG g (rc g t s i * 3 + k) ∧ M' 19 (w + k) = kS g (rc g t s i) s (rr g t s i) k * 1000000 + kI g (rc g t s i) s (rr g t s i) k ∧ M' 20 (w + k) = n * 3 + k) → K M') : CV mX7_place [vR 17, vI n, vI t, vI (s * 1000000 + i), vI p] M K := by
  have hN := hg.n
  have h4 := hg.1
  have bC := Cs_bd (g := g) t s
  obtain ⟨r1, r2, r3, r4, r5⟩ := root_ok hg hv.2.1.1 hv.2.1.2 hv.2.2.1 hv.2.2.2
  have ha := hg.a r1.1 r1.2
  have hs := hv.2.1
  have hi := hv.2.2
  have eo : i - Ss g (rc g t s i) s = rr g t s i := by omega
  have e2 : M 2 = gR g := hX.2.2.1
  generalize hcc : rc g t s i = c at r1 r2 r3 r4 r5 ha w1 kk eo
  generalize hoo : rr g t s i = o at r3 r4 kk eo
  refine en_X7_place (c_rootOf hg hX hO hv.1 hs hv.2.2 ?_)
  rw [hcc]
  refine ⟨by omega, fun _ => en_X0_fill ⟨by omega, by omega, by omega, ?_⟩, fun z => by omega⟩
  rw [e2, r2]
  -- the parts wait
  have rest : ∀ M1 : Mem, Fr [13, 14, 15] M M1 → M1 13 = st1 (M 13) n t → M1 14 = st1 (M 14) n c → (∀ x, (x ≠ p ∨ p = -13) → M1 15 x = M 15 x) → (p ≠ -13 → M1 15 p = n) → AW mX7_place 46 [some (vR 17), some (vI n), some (vI t), some (vI (s * 1000000 + i)), some (vI p), some (vI c), none] [] M1 (QV K) := by
    intro M1 hF1 y13 y14 y15 y15p
    refine sg_X7_place_46 (c_split hg (hX.fr hF1 (by decide)) (hO.fr hF1 (by decide)) r1 hs (by omega) (by omega) (fun M2 hF2 h21 => ?_))
    rw [eo] at h21
    have hX2 : XSig g M2 := (hX.fr hF1 (by decide)).fr hF2 (by decide)
    have loop : ∀ (m : Nat) (k : Int) (M3 : Mem), (gA g c - k).toNat = m → 0 ≤ k → k ≤ gA g c → Fr [17, 18, 19, 20] M2 M3 → M3 17 6 = w + k → (∀ e, e < w → M3 18 e = M 18 e ∧ M3 19 e = M 19 e ∧ M3 20 e = M 20 e) → (∀ j, 0 ≤ j → j < k → M3 18 (w + j) = gG g (c * 3 + j) ∧ M3 19 (w + j) = kS g c s o j * 1000000 + kI g c s o j ∧ M3 20 (w + j) = n * 3 + j) → AW mX7_place 63 [some (vR 17), some (vI n), some (vI t), some (vI (s * 1000000 + i)), some (vI p), some (vI c), some (vI k)] [] M3 (QV K) := by
      intro m
      induction m with
      | zero =>
        intro k M3 hm k0 k1 hF3 h17 ho hk
        have e3 : M3 3 = gA g := by rw [hF3 3 (by decide)]; exact hX2.2.2.2.1
        refine sg_X7_place_63 ?_
        rw [e3]
        refine ⟨by omega, by omega, fun _ => kk M3 (((hF1.mono (by decide)).trans (hF2.mono (by decide))).trans (hF3.mono (by decide))) ?_ ?_ ?_ ?_ (by rw [h17]; omega) ho (fun j j0 j1 => hk j j0 (by omega)), fun z => by omega⟩
        · rw [hF3 13 (by decide), hF2 13 (by decide)]; exact y13
        · rw [hF3 14 (by decide), hF2 14 (by decide)]; exact y14
        · rw [hF3 15 (by decide), hF2 15 (by decide)]; exact y15
        · rw [hF3 15 (by decide), hF2 15 (by decide)]; exact y15p
      | succ m ih =>
        intro k M3 hm k0 k1 hF3 h17 ho hk
        have e3 : M3 3 = gA g := by rw [hF3 3 (by decide)]; exact hX2.2.2.2.1
        have e4 : M3 4 = gG g := by rw [hF3 4 (by decide)]; exact hX2.2.2.2.2
        have e21 : M3 21 k = kS g c s o k * 1000000 + kI g c s o k := by rw [hF3 21 (by decide)]; exact h21 k k0 (by omega)
        refine sg_X7_place_63 ?_
        rw [e3]
        refine ⟨by omega, by omega, fun z => by omega, fun _ => c_typeOfArgument (by omega) (by omega) ⟨by omega, en_X7_await ?_⟩⟩
        rw [e4, e21, h17]
        refine ⟨by omega, fun z => by omega, fun _ => ⟨by omega, by omega, by omega, ih (k + 1) _ (by omega) (by omega) (by omega) ((((hF3.up (by decide)).up (by decide)).up (by decide)).up (by decide)) ?_ (fun e he => ?_) (fun j j0 j1 => ?_)⟩⟩
        · rw [up_same]; omega
        · rw [up_ne (show (18 : Nat) ≠ 17 by decide), up_ne (show (18 : Nat) ≠ 20 by decide), up_ne (show (18 : Nat) ≠ 19 by decide), up_other (by omega), up_ne (show (19 : Nat) ≠ 17 by decide), up_ne (show (19 : Nat) ≠ 20 by decide), up_other (by omega), up_ne (show (19 : Nat) ≠ 18 by decide), up_ne (show (20 : Nat) ≠ 17 by decide), up_other (by omega), up_ne (show (20 : Nat) ≠ 19 by decide), up_ne (show (20 : Nat) ≠ 18 by decide)]
          exact ho e he
        · rw [up_ne (show (18 : Nat) ≠ 17 by decide), up_ne (show (18 : Nat) ≠ 20 by decide), up_ne (show (18 : Nat) ≠ 19 by decide), up_ne (show (19 : Nat) ≠ 17 by decide), up_ne (show (19 : Nat) ≠ 20 by decide), up_ne (show (20 : Nat) ≠ 17 by decide)]
          by_cases e : j = k
          · subst e
            rw [up_same, up_same, up_same]
            exact ⟨rfl, rfl, rfl⟩
          · rw [up_other (by omega), up_other (by omega), up_other (by omega), up_ne (show (19 : Nat) ≠ 18 by decide), up_ne (show (20 : Nat) ≠ 19 by decide), up_ne (show (20 : Nat) ≠ 18 by decide)]
            exact hk j j0 (by omega)
    refine loop _ 0 M2 rfl (by omega) (by omega) (Fr.refl _ _) ?_ (fun e he => ?_) (fun j j0 j1 => by omega)
    · rw [hF2 17 (by decide), hF1 17 (by decide)]; omega
    · rw [hF2 18 (by decide), hF1 18 (by decide), hF2 19 (by decide), hF1 19 (by decide), hF2 20 (by decide), hF1 20 (by decide)]
      exact ⟨rfl, rfl, rfl⟩
  refine ⟨by omega, fun z => rest _ (((Fr.refl _ M).up (by decide)).up (by decide)) rfl rfl (fun x _ => rfl) (fun y => absurd z y), fun z => ⟨by omega, rest _ ((((Fr.refl _ M).up (by decide)).up (by decide)).up (by decide)) rfl rfl (fun x hx => up_other (hx.resolve_right z)) (fun _ => up_same)⟩⟩
/-- what waits, from the lowest numbers to the highest -/
def SK (g : Sg) (first node : Int) (M : Mem) (S I H : Int → Int) (w : Int) : Prop := (0 ≤ w ∧ M 17 6 = w) ∧ H (-1) = first - 1 ∧ H (w - 1) = node ∧ (∀ e, 0 ≤ e → e < w → Vd g (M 18 e) (S e) (I e) ∧ M 19 e = S e * 1000000 + I e ∧ H e = H (e - 1) + S e ∧ (M 20 e = -13 ∨ ((node + 1) * 3 ≤ M 20 e ∧ M 20 e < 300))) ∧ ∀ e e2, 0 ≤ e → e < e2 → e2 < w → M 20 e ≠ -13 → M 20 e ≠ M 20 e2
theorem SK.hi {first node : Int} {M : Mem} {S I H : Int → Int} {w : Int} (h : SK g first node M S I H w) : ∀ (m : Nat), (m : Int) ≤ w → first - 1 + m ≤ H (m - 1)
  | 0, _ => by have := h.2.1; show first - 1 + 0 ≤ H (-1); omega
  | m + 1, hm => by
    have i := h.hi m (by omega)
    have q := (h.2.2.2.1 m (by omega) (by omega))
    have q1 := q.1.2.1
    have q2 := q.2.2.1
    rw [show ((m + 1 : Nat) : Int) - 1 = m by omega]
    omega
theorem c_buildLoop {K : Int → Mem → Prop} (hg : SgOK g) {first v1 v2 v3 root : Int} (f0 : 0 ≤ first) : ∀ (m : Nat) (M : Mem) (node : Int) (S I H : Int → Int) (w : Int), (node - first + 1).toNat = m → first - 1 ≤ node → node < 100 → node - first + 1 ≤ 12 → XSig g M → XCnt g M → SK g first node M S I H w →
    (∀ M', Fr [13, 14, 15, 17, 18, 19, 20, 21] M M' → (∀ n, (n < first ∨ node < n) → M' 13 n = M 13 n ∧ M' 14 n = M 14 n) → (∀ x, (x < first * 3 ∨ ((node + 1) * 3 ≤ x ∧ ∀ e, 0 ≤ e → e < w → x ≠ M 20 e)) → M' 15 x = M 15 x) → (∀ e, 0 ≤ e → e < w → Bt g (M' 13) (M' 14) (M' 15) (S e).toNat (H (e - 1) + 1) (M 18 e) (S e) (I e) ∧ (M 20 e ≠ -13 → M' 15 (M 20 e) = H e)) → K root (up M' 12 1 (M' 12 1 + v2))) →
    AW mX7_build 38 [some (vR 17), some (vI v1), some (vI v2), some (vI v3), some (vI first), some (vI root), some (vI node)] [] M (QI K) := by
  intro m
  induction m with
  | zero =>
    intro M node S I H w hm n0 n1 n2 hX hO hK kk
    have hh := hK.hi w.toNat (by have := hK.1.1; omega)
    rw [show ((w.toNat : Nat) : Int) = w by have := hK.1.1; omega, hK.2.2.1] at hh
    have w0 := hK.1.1
    exact sg_X7_build_38 ⟨by omega, fun _ => kk M (Fr.refl _ _) (fun n _ => ⟨rfl, rfl⟩) (fun x _ => rfl) (fun e e0 e1 => by omega), fun z => by omega⟩
  | succ m ih =>
    intro M node S I H w hm n0 n1 n2 hX hO hK kk
    have hh := hK.hi w.toNat (by have := hK.1.1; omega)
    rw [show ((w.toNat : Nat) : Int) = w by have := hK.1.1; omega, hK.2.2.1] at hh
    obtain ⟨⟨w0, h17⟩, hb, hH, he, hd⟩ := hK
    have wpos : 0 < w := by
      refine Classical.byContradiction (fun z => ?_)
      rw [show w - 1 = -1 by omega, hb] at hH
      omega
    have top := he (w - 1) (by omega) (by omega)
    have hs := top.1.2.1
    rw [hH] at top
    obtain ⟨r1, r2, r3, r4, r5⟩ := root_ok hg hs.1 hs.2 top.1.2.2.1 top.1.2.2.2
    have ha := hg.a r1.1 r1.2
    have hend := ofs_end (g := g) (c := rc g (M 18 (w - 1)) (S (w - 1)) (I (w - 1))) (s := S (w - 1)) ha.1 r3.1 r3.2
    have kid := fun k k0 k1 => kid_ok (k := k) hg r1 hs r3.1 r3.2 k0 k1
    -- arguments are no more than what is left
    have room : gA g (rc g (M 18 (w - 1)) (S (w - 1)) (I (w - 1))) ≤ S (w - 1) - 1 := by
      have q := (sl_ok (g := g) r3.1 r3.2 (gA g (rc g (M 18 (w - 1)) (S (w - 1)) (I (w - 1)))).toNat (by omega)).2.2
      unfold ofs at hend
      omega
    have below : first - 1 + (w - 1) ≤ H (w - 2) := by
      have h2 := SK.hi (g := g) (first := first) (node := node) (M := M) (S := S) (I := I) (H := H) (w := w) ⟨⟨w0, h17⟩, hb, hH, he, hd⟩ (w - 1).toNat (by omega)
      rw [show (((w - 1).toNat : Nat) : Int) = w - 1 by omega, show w - 1 - 1 = w - 2 by omega] at h2
      exact h2
    have eH := top.2.2.1
    rw [show w - 1 - 1 = w - 2 by omega] at eH
    refine sg_X7_build_38 ⟨by omega, fun z => by omega, fun _ => ⟨by omega, fun z => by omega, fun _ => ⟨by omega, by omega, by omega, ?_⟩⟩⟩
    rw [h17, top.2.1]
    have hX1 : XSig g (up M 17 6 (w - 1)) := hX
    have hO1 : XCnt g (up M 17 6 (w - 1)) := hO
    refine c_place (w := w - 1) hg hX1 hO1 top.1 (by omega) (by rcases top.2.2.2 with z | z <;> omega) up_same (by omega) (by omega) (fun M2 hF2 y13 y14 y15 y15p h17' ho hk => ?_)
    generalize hcc : rc g (M 18 (w - 1)) (S (w - 1)) (I (w - 1)) = c at *
    generalize hoo : rr g (M 18 (w - 1)) (S (w - 1)) (I (w - 1)) = o at *
    have F2 : Fr [13, 14, 15, 17, 18, 19, 20, 21] M M2 := ((Fr.refl _ M).up (by decide)).trans hF2
    have y13 : M2 13 = st1 (M 13) node (M 18 (w - 1)) := y13
    have y14 : M2 14 = st1 (M 14) node c := y14
    have y15 : ∀ x, (x ≠ M 20 (w - 1) ∨ M 20 (w - 1) = -13) → M2 15 x = M 15 x := y15
    have ho : ∀ e, e < w - 1 → M2 18 e = M 18 e ∧ M2 19 e = M 19 e ∧ M2 20 e = M 20 e := ho
    -- the new stack
    let S' : Int → Int := fun e => if e < w - 1 then S e else kS g c (S (w - 1)) o (e - (w - 1))
    let I' : Int → Int := fun e => if e < w - 1 then I e else kI g c (S (w - 1)) o (e - (w - 1))
    let H' : Int → Int := fun e => if e < w - 1 then H e else H (w - 2) + ofs g c (S (w - 1)) o (e - (w - 1)) + kS g c (S (w - 1)) o (e - (w - 1))
    have H'lo : ∀ e, e < w - 1 → H' e = H e := fun e l => by simp only [H', if_pos l]
    have H'hi : ∀ k, 0 ≤ k → H' (w - 1 + k) = H (w - 2) + ofs g c (S (w - 1)) o k + kS g c (S (w - 1)) o k := fun k l => by
      simp only [H', if_neg (show ¬ w - 1 + k < w - 1 by omega)]
      rw [show w - 1 + k - (w - 1) = k by omega]
    have S'lo : ∀ e, e < w - 1 → S' e = S e := fun e l => by simp only [S', if_pos l]
    have S'hi : ∀ k, 0 ≤ k → S' (w - 1 + k) = kS g c (S (w - 1)) o k := fun k l => by
      simp only [S', if_neg (show ¬ w - 1 + k < w - 1 by omega)]
      rw [show w - 1 + k - (w - 1) = k by omega]
    have I'lo : ∀ e, e < w - 1 → I' e = I e := fun e l => by simp only [I', if_pos l]
    have I'hi : ∀ k, 0 ≤ k → I' (w - 1 + k) = kI g c (S (w - 1)) o k := fun k l => by
      simp only [I', if_neg (show ¬ w - 1 + k < w - 1 by omega)]
      rw [show w - 1 + k - (w - 1) = k by omega]
    have pre : ∀ k, 0 ≤ k → k ≤ gA g c → H' (w - 1 + k - 1) = H (w - 2) + ofs g c (S (w - 1)) o k := by
      intro k k0 k1
      by_cases e : k = 0
      · rw [e, show w - 1 + 0 - 1 = w - 2 by omega, H'lo _ (by omega), ofs_0]; omega
      · have st := ofs_step (g := g) (c := c) (s := S (w - 1)) (o := o) (k := k - 1) (by omega)
        rw [show k - 1 + 1 = k by omega] at st
        rw [show w - 1 + k - 1 = w - 1 + (k - 1) by omega, H'hi (k - 1) (by omega), st]
        omega
    have hSK : SK g first (node - 1) M2 S' I' H' (w - 1 + gA g c) := by
      refine ⟨⟨by omega, h17'⟩, ?_, ?_, fun e e0 e1 => ?_, fun e e2 e0 e1 e3 en => ?_⟩
      · rw [H'lo _ (by omega)]; exact hb
      · rw [pre (gA g c) ha.1 (Int.le_refl _), hend]; omega
      · by_cases l : e < w - 1
        · have q := he e e0 (by omega)
          rw [S'lo e l, I'lo e l, H'lo e l, H'lo (e - 1) (by omega), (ho e l).1, (ho e l).2.1, (ho e l).2.2]
          exact ⟨q.1, q.2.1, q.2.2.1, q.2.2.2.imp id (fun z => ⟨by omega, z.2⟩)⟩
        · obtain ⟨k, rfl⟩ : ∃ k, e = w - 1 + k := ⟨e - (w - 1), by omega⟩
          have q := hk k (by omega) (by omega)
          have kv := kid k (by omega) (by omega)
          rw [S'hi k (by omega), I'hi k (by omega), H'hi k (by omega), pre k (by omega) (by omega), q.1, q.2.1, q.2.2]
          exact ⟨kv.1, rfl, rfl, Or.inr ⟨by omega, by omega⟩⟩
      · by_cases l2 : e2 < w - 1
        · rw [(ho e (by omega)).2.2] at en ⊢
          rw [(ho e2 l2).2.2]
          exact hd e e2 e0 e1 (by omega) en
        · have q2 := hk (e2 - (w - 1)) (by omega) (by omega)
          rw [show w - 1 + (e2 - (w - 1)) = e2 by omega] at q2
          rw [q2.2.2]
          by_cases l : e < w - 1
          · rw [(ho e l).2.2] at en ⊢
            have q := (he e e0 (by omega)).2.2.2
            rcases q with z | z
            · exact absurd z en
            · omega
          · have q1 := hk (e - (w - 1)) (by omega) (by omega)
            rw [show w - 1 + (e - (w - 1)) = e by omega] at q1
            rw [q1.2.2]
            omega
    rw [show node + -1 = node - 1 by omega]
    refine ih M2 (node - 1) S' I' H' (w - 1 + gA g c) (by omega) (by omega) (by omega) (by omega) (hX.fr F2 (by decide)) (hO.fr F2 (by decide)) hSK (fun M' hF' u1 u2 u3 => ?_)
    -- how the new places lie
    have notP : ∀ x, (node + 1) * 3 ≤ x → (∀ e, 0 ≤ e → e < w - 1 → x ≠ M 20 e) → ∀ e, 0 ≤ e → e < w - 1 + gA g c → x ≠ M2 20 e := by
      intro x x0 hx e e0 e1
      by_cases l : e < w - 1
      · rw [(ho e l).2.2]; exact hx e e0 l
      · have q1 := hk (e - (w - 1)) (by omega) (by omega)
        rw [show w - 1 + (e - (w - 1)) = e by omega] at q1
        rw [q1.2.2]
        omega
    have u0 := u1 node (Or.inr (by omega))
    refine kk M' (F2.trans hF') (fun n hn => ?_) (fun x hx => ?_) (fun e e0 e1 => ?_)
    · have q := u1 n (by omega)
      rw [q.1, q.2, y13, y14, st1_ne (by omega), st1_ne (by omega)]
      exact ⟨rfl, rfl⟩
    · rcases hx with z | ⟨z, z2⟩
      · rw [u2 x (Or.inl z)]
        refine y15 x ?_
        rcases top.2.2.2 with q | q
        · exact Or.inr q
        · left; omega
      · rw [u2 x (Or.inr ⟨by omega, notP x z (fun e e0 e1 => z2 e e0 (by omega))⟩)]
        exact y15 x (Or.inl (z2 (w - 1) (by omega) (by omega)))
    · by_cases l : e < w - 1
      · have q := u3 e e0 (by omega)
        rw [S'lo e l, I'lo e l, H'lo e l, H'lo (e - 1) (by omega), (ho e l).1, (ho e l).2.2] at q
        exact q
      · have ee : e = w - 1 := by omega
        subst ee
        rw [show w - 1 - 1 = w - 2 by omega]
        refine ⟨?_, fun hp => ?_⟩
        · have e1 : H (w - 2) + 1 + S (w - 1) - 1 = node := by omega
          rw [show (S (w - 1)).toNat = (S (w - 1) - 1).toNat + 1 by omega]
          unfold Bt
          rw [e1, hcc, hoo]
          refine ⟨by rw [u0.1, y13, st1_same], by rw [u0.2, y14, st1_same], fun k k0 k1 => ?_⟩
          have q := u3 (w - 1 + k) (by omega) (by omega)
          have q2 := hk k k0 k1
          have kv := kid k k0 k1
          rw [S'hi k k0, I'hi k k0, H'hi k k0, pre k k0 (by omega), q2.1, q2.2.2] at q
          refine ⟨?_, ?_⟩
          · rw [q.2 (by omega)]; omega
          · have q3 := Bt_le q.1 (S (w - 1) - 1).toNat (by omega)
            rw [show H (w - 2) + ofs g c (S (w - 1)) o k + 1 = H (w - 2) + 1 + ofs g c (S (w - 1)) o k by omega] at q3
            exact q3
        · have q := top.2.2.2
          rcases q with z | z
          · exact absurd z hp
          · rw [u2 (M 20 (w - 1)) (Or.inr ⟨by omega, notP _ z.1 (fun e e0 e1 z3 => hd e (w - 1) e0 e1 (by omega) (by rw [← z3]; exact hp) z3.symm)⟩), hH]
            exact y15p hp
end
