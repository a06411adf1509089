/-! root and parts: the class and the reference -/
section
variable {g : Sg}
theorem key_sz {s i : Int} (i0 : 0 ≤ i) (i1 : i < 1000000) : (s * 1000000 + i) / 1000000 = s := by omega
theorem key_ix {s i : Int} (i0 : 0 ≤ i) (i1 : i < 1000000) : (s * 1000000 + i) % 1000000 = i := by omega
theorem c_isBuiltBy {M : Mem} {K : Int → Mem → Prop} (hg : SgOK g) (hO : XCnt g M) {c s i : Int} (hc : 0 ≤ c ∧ c < gN g) (hs : 1 ≤ s ∧ s ≤ 12) (hi : 0 ≤ i ∧ i < 1000000) (k1 : Ss g c s ≤ i ∧ i - Ss g c s < Ws g c 0 (s - 1) → K 1 M) (k0 : ¬ (Ss g c s ≤ i ∧ i - Ss g c s < Ws g c 0 (s - 1)) → K 0 M) : CI mX8_isBuiltBy [vR 8, vI (s * 1000000 + i), vI c] M K := by
  have hn := hg.n
  have ha := hg.a hc.1 hc.2
  have bS := Ss_bd (g := g) c s
  have bW := Ws_bd (g := g) c 0 (s - 1)
  refine en_X8_isBuiltBy (c_sizeOfKey (by omega) ?_)
  rw [key_sz hi.1 hi.2]
  refine c_indexOfKey (by omega) ?_
  rw [key_ix hi.1 hi.2, hO.2.1 c s hc.1 hc.2 hs.1 hs.2]
  refine ⟨by omega, by omega, fun z => k0 (by omega), fun z => c_waysOf (by omega) (by omega) (by omega) ?_⟩
  rw [hO.2.2 c 0 (s - 1) hc.1 hc.2 (by omega) (by omega) (by omega) (by omega)]
  exact ⟨by omega, fun z2 => k0 (by omega), fun z2 => k1 (by omega)⟩
theorem c_rootOf {M : Mem} {K : Int → Mem → Prop} (hg : SgOK g) (hX : XSig g M) (hO : XCnt g M) {t s i : Int} (ht : 0 ≤ t ∧ t < gT g) (hs : 1 ≤ s ∧ s ≤ 12) (hi : 0 ≤ i ∧ i < Cs g t s) (kk : K (rc g t s i) M) : CI mX8_rootOf [vR 8, vI t, vI (s * 1000000 + i)] M K := by
  have hn := hg.n
  have h4 := hg.1
  have bC := Cs_bd (g := g) t s
  obtain ⟨r1, r2, r3, r4, r5⟩ := root_ok hg hs.1 hs.2 hi.1 hi.2
  have e1 : M 1 1 = gN g := hX.2.1
  have e2 : M 2 = gR g := hX.2.2.1
  have loop : ∀ (m : Nat) (x : Int), (rc g t s i - x).toNat = m → 0 ≤ x → x ≤ rc g t s i → AW mX8_rootOf 2 [some (vR 8), some (vI t), some (vI (s * 1000000 + i)), some (vI x)] [] M (QI K) := by
    intro m
    induction m with
    | zero =>
      intro x hm x0 x1
      have e : x = rc g t s i := by omega
      have hr := hg.r x0 (show x < gN g by omega)
      refine sg_X8_rootOf_2 ?_
      rw [e1, e2]
      refine ⟨by omega, fun z => by omega, fun _ => ⟨by omega, by omega, fun z => absurd (by rw [e]; exact r2) z, fun _ => c_isBuiltBy hg hO (by omega) hs (by omega) (fun _ => ⟨by decide, fun z => absurd z (by decide), fun _ => by rw [e]; exact kk⟩) (fun z => ?_)⟩⟩
      rw [e] at z
      omega
    | succ m ih =>
      intro x hm x0 x1
      have hr := hg.r x0 (show x < gN g by omega)
      refine sg_X8_rootOf_2 ?_
      rw [e1, e2]
      refine ⟨by omega, fun z => by omega, fun _ => ⟨by omega, by omega, fun z => sg_X8_rootOf_37 (ih (x + 1) (by omega) (by omega) (by omega)), fun z => c_isBuiltBy hg hO (by omega) hs (by omega) (fun y => ?_) (fun _ => ⟨by decide, fun _ => sg_X8_rootOf_37 (ih (x + 1) (by omega) (by omega) (by omega)), fun z => absurd rfl z⟩)⟩⟩
      have w := r5 x x0 (by omega) (Decidable.not_not.mp z)
      omega
  exact en_X8_rootOf (loop _ 0 rfl (by omega) r1.1)
theorem sl_step {c s o k : Int} (k0 : 0 ≤ k) : sl g c s o (k + 1).toNat = ((sl g c s o k.toNat).1 - kS g c s o k, om g c k (sl g c s o k.toNat).1 (sl g c s o k.toNat).2) := by
  rw [show (k + 1).toNat = k.toNat + 1 by omega]
  simp only [sl]
  unfold kS
  rw [show ((k.toNat : Nat) : Int) = k by omega]
theorem sl_in {c s o k : Int} (o0 : 0 ≤ o) (o1 : o < Ws g c 0 (s - 1)) (k0 : 0 ≤ k) (k1 : k < gA g c) : (0 ≤ (sl g c s o k.toNat).2 ∧ (sl g c s o k.toNat).2 < Ws g c k (sl g c s o k.toNat).1) ∧ (sl g c s o k.toNat).1 ≤ s - 1 - k := by
  have w := sl_ok o0 o1 k.toNat (by omega)
  rw [show ((k.toNat : Nat) : Int) = k by omega] at w
  exact ⟨⟨w.1, w.2.1⟩, w.2.2⟩
/-- a step of the search -/
theorem fo_step {c k lft f a : Int} {n : Nat} (h : ¬ a < blk g c k lft f) : fo g c k lft (n + 1) f a = fo g c k lft n (f + 1) (a - blk g c k lft f) := by
  simp only [fo]
  rw [if_neg h]
theorem fo_stop {c k lft f a : Int} {n : Nat} (h : a < blk g c k lft f) : fo g c k lft n f a = (f, a) := by
  cases n with
  | zero => rfl
  | succ n =>
    simp only [fo]
    rw [if_pos h]
theorem fo_ge {c k lft : Int} : ∀ (n : Nat) (f a : Int), f ≤ (fo g c k lft n f a).1
  | 0, f, a => Int.le_refl _
  | n + 1, f, a => by
    simp only [fo]
    split
    · exact Int.le_refl _
    · have := fo_ge (c := c) (k := k) (lft := lft) n (f + 1) (a - blk g c k lft f)
      omega
theorem c_split {M : Mem} {K : Mem → Prop} (hg : SgOK g) (hX : XSig g M) (hO : XCnt g M) {c s i : Int} (hc : 0 ≤ c ∧ c < gN g) (hs : 1 ≤ s ∧ s ≤ 12) (hi : 0 ≤ i ∧ i < 1000000) (hb : Ss g c s ≤ i ∧ i - Ss g c s < Ws g c 0 (s - 1)) (kk : ∀ M', Fr [21] M M' → (∀ k, 0 ≤ k → k < gA g c → M' 21 k = kS g c s (i - Ss g c s) k * 1000000 + kI g c s (i - Ss g c s) k) → K M') : CV mX8_split [vR 8, vI (s * 1000000 + i), vI c, vR 21] M K := by
  have hn := hg.n
  have h4 := hg.1
  have ha := hg.a hc.1 hc.2
  have bS := Ss_bd (g := g) c s
  have e3 : M 3 = gA g := hX.2.2.2.1
  generalize ho : i - Ss g c s = o at hb kk
  have bW := fun k l => Ws_bd (g := g) c k l
  have outer : ∀ (m : Nat) (M1 : Mem) (k : Int), (gA g c - k).toNat = m → 0 ≤ k → k ≤ gA g c → Fr [21] M M1 → (∀ j, 0 ≤ j → j < k → M1 21 j = kS g c s o j * 1000000 + kI g c s o j) → AW mX8_split 32 [some (vR 8), some (vI (s * 1000000 + i)), some (vI c), some (vR 21), some (vI (sl g c s o k.toNat).1), some (vI (sl g c s o k.toNat).2), some (vI k), none, none] [] M1 (QV K) := by
    intro m
    induction m with
    | zero =>
      intro M1 k hm k0 k1 hF hj
      refine sg_X8_split_32 ?_
      rw [hF 3 (by decide), e3]
      exact ⟨by omega, by omega, fun _ => kk M1 hF (fun j j0 j1 => hj j j0 (by omega)), fun z => by omega⟩
    | succ m ih =>
      intro M1 k hm k0 k1 hF hj
      have w := sl_in (g := g) (by omega) hb.2 k0 (show k < gA g c by omega)
      have q := own_ok (g := g) (c := c) (k := k) k0 (by omega) w.1.1 w.1.2
      have st := sl_step (g := g) (c := c) (s := s) (o := o) k0
      have hgg := hg.g hc.1 hc.2 k0 (show k < gA g c by omega)
      have bC := fun l f => blk_bd (g := g) c k l f
      have hX1 := hX.fr hF (by decide)
      have hO1 := hO.fr hF (by decide)
      have eo : kS g c s o k = ow g c k (sl g c s o k.toNat).1 (sl g c s o k.toNat).2 := rfl
      have ei : kI g c s o k = oi g c k (sl g c s o k.toNat).1 (sl g c s o k.toNat).2 := rfl
      have nx := ih
      generalize hl : (sl g c s o k.toNat).1 = lft at w q st eo ei
      generalize hA : (sl g c s o k.toNat).2 = a at w q st eo ei
      have b2 : a < 1000000 := by have := bW k lft; omega
      have fin : AW mX8_split 92 [some (vR 8), some (vI (s * 1000000 + i)), some (vI c), some (vR 21), some (vI lft), some (vI (oa g c k lft a)), some (vI k), some (vI (ow g c k lft a)), none] [] M1 (QV K) := by
        have b3 := bC lft (ow g c k lft a)
        have b4 := bW (k + 1) (lft - ow g c k lft a)
        refine sg_X8_split_92 (c_waysOf (by omega) (by omega) (by omega) ?_)
        rw [hO1.2.2 c (k + 1) (lft - ow g c k lft a) hc.1 hc.2 (by omega) (by omega) (by omega) (by omega)]
        have em : (if 1 < Ws g c (k + 1) (lft - ow g c k lft a) then Ws g c (k + 1) (lft - ow g c k lft a) else 1) = Ws g c (k + 1) (lft - ow g c k lft a) := by
          split <;> omega
        rw [em]
        refine ⟨by omega, by omega, c_keyOf ⟨by omega, by omega, ?_⟩⟩
        have nx2 := ih (up M1 21 k (ow g c k lft a * 1000000 + oa g c k lft a / Ws g c (k + 1) (lft - ow g c k lft a))) (k + 1) (by omega) (by omega) (by omega) (hF.up (by decide)) (fun j j0 j1 => ?_)
        · rw [st, eo] at nx2
          exact nx2
        · by_cases e : j = k
          · rw [e, up_same, eo, ei]
            rfl
          · rw [up_other e]
            exact hj j j0 (by omega)
      have inner : ∀ (n : Nat) (f x : Int), (n : Int) = lft - f + 1 → 1 ≤ f → f ≤ ow g c k lft a → 0 ≤ x → x ≤ a → fo g c k lft n f x = (ow g c k lft a, oa g c k lft a) → AW mX8_split 49 [some (vR 8), some (vI (s * 1000000 + i)), some (vI c), some (vR 21), some (vI lft), some (vI x), some (vI k), some (vI f), none] [] M1 (QV K) := by
        intro n
        induction n with
        | zero =>
          intro f x hn2 f1 f2 x0 x1 he
          omega
        | succ n ihn =>
          intro f x hn2 f1 f2 x0 x1 he
          by_cases ef : f = lft
          · have es : x = oa g c k lft a := by
              by_cases lt : x < blk g c k lft f
              · rw [fo_stop lt] at he
                exact congrArg Prod.snd he
              · rw [fo_step lt, show n = 0 by omega] at he
                have := congrArg Prod.fst he
                have this : f + 1 = ow g c k lft a := this
                omega
            refine sg_X8_split_49 ⟨by omega, fun _ => ?_, fun z => by omega⟩
            rw [es, show f = ow g c k lft a by omega]
            exact fin
          · have b3 := bC lft f
            have c9 := hO1.1 (gG g (c * 3 + k)) f hgg.1 hgg.2 (by omega) (by omega)
            have c11 := hO1.2.2 c (k + 1) (lft - f) hc.1 hc.2 (by omega) (by omega) (by omega) (by omega)
            have eb : cap (M1 9 (gG g (c * 3 + k) * 13 + f) * M1 11 ((c * 4 + (k + 1)) * 13 + (lft - f))) = blk g c k lft f := by
              rw [c9, c11]; rfl
            refine sg_X8_split_49 ⟨by omega, fun z => by omega, fun _ => c_waysOfSplit hg hX1 hc ⟨k0, by omega⟩ (by omega) (by rw [c9]; exact Cs_bd _ _) (by rw [c11]; exact Ws_bd _ _ _) ?_⟩
            rw [eb]
            refine ⟨by omega, fun z => ihn (f + 1) (x - blk g c k lft f) (by omega) (by omega) ?_ (by omega) (by omega) ?_, fun z => ?_⟩
            · rw [fo_step (by omega)] at he
              refine Classical.byContradiction (fun y => ?_)
              have e2 : f = ow g c k lft a := by omega
              cases n with
              | zero => omega
              | succ n2 =>
                have ge : f + 1 ≤ (fo g c k lft (n2 + 1) (f + 1) (x - blk g c k lft f)).1 := fo_ge _ _ _
                rw [he] at ge
                have ge : f + 1 ≤ ow g c k lft a := ge
                omega
            · rw [fo_step (by omega)] at he
              exact he
            · rw [fo_stop (by omega)] at he
              have e1 : f = ow g c k lft a := congrArg Prod.fst he
              have e2 : x = oa g c k lft a := congrArg Prod.snd he
              rw [e1, e2]
              exact fin
      refine sg_X8_split_32 ?_
      rw [hF 3 (by decide), e3]
      exact ⟨by omega, by omega, fun z => by omega, fun _ => inner lft.toNat 1 a (by omega) (by omega) q.1.1 w.1.1 (Int.le_refl _) rfl⟩
  refine en_X8_split (c_sizeOfKey (by omega) ?_)
  rw [key_sz hi.1 hi.2]
  refine c_indexOfKey (by omega) ?_
  rw [key_ix hi.1 hi.2, show c * 13 + (s - 1) + 1 = c * 13 + s by omega, hO.2.1 c s hc.1 hc.2 hs.1 hs.2, ho]
  exact ⟨by omega, outer _ M 0 rfl (by omega) (by omega) (Fr.refl _ _) (fun j j0 j1 => by omega)⟩
theorem c_split_b {M : Mem} {K : Mem → Prop} (hg : SgOK g) (hX : XSig g M) (hO : XCnt g M) {c s i : Int} (hc : 0 ≤ c ∧ c < gN g) (hs : 1 ≤ s ∧ s ≤ 12) (hi : 0 ≤ i ∧ i < 1000000) (hb : Ss g c s ≤ i ∧ i - Ss g c s < Ws g c 0 (s - 1)) (kk : ∀ M', Fr [49] M M' → (∀ k, 0 ≤ k → k < gA g c → M' 49 k = kS g c s (i - Ss g c s) k * 1000000 + kI g c s (i - Ss g c s) k) → K M') : CV mX8_split [vR 8, vI (s * 1000000 + i), vI c, vR 49] M K := by
  have hn := hg.n
  have h4 := hg.1
  have ha := hg.a hc.1 hc.2
  have bS := Ss_bd (g := g) c s
  have e3 : M 3 = gA g := hX.2.2.2.1
  generalize ho : i - Ss g c s = o at hb kk
  have bW := fun k l => Ws_bd (g := g) c k l
  have outer : ∀ (m : Nat) (M1 : Mem) (k : Int), (gA g c - k).toNat = m → 0 ≤ k → k ≤ gA g c → Fr [49] M M1 → (∀ j, 0 ≤ j → j < k → M1 49 j = kS g c s o j * 1000000 + kI g c s o j) → AW mX8_split 32 [some (vR 8), some (vI (s * 1000000 + i)), some (vI c), some (vR 49), some (vI (sl g c s o k.toNat).1), some (vI (sl g c s o k.toNat).2), some (vI k), none, none] [] M1 (QV K) := by
    intro m
    induction m with
    | zero =>
      intro M1 k hm k0 k1 hF hj
      refine sg_X8_split_b_32 ?_
      rw [hF 3 (by decide), e3]
      exact ⟨by omega, by omega, fun _ => kk M1 hF (fun j j0 j1 => hj j j0 (by omega)), fun z => by omega⟩
    | succ m ih =>
      intro M1 k hm k0 k1 hF hj
      have w := sl_in (g := g) (by omega) hb.2 k0 (show k < gA g c by omega)
      have q := own_ok (g := g) (c := c) (k := k) k0 (by omega) w.1.1 w.1.2
      have st := sl_step (g := g) (c := c) (s := s) (o := o) k0
      have hgg := hg.g hc.1 hc.2 k0 (show k < gA g c by omega)
      have bC := fun l f => blk_bd (g := g) c k l f
      have hX1 := hX.fr hF (by decide)
      have hO1 := hO.fr hF (by decide)
      have eo : kS g c s o k = ow g c k (sl g c s o k.toNat).1 (sl g c s o k.toNat).2 := rfl
      have ei : kI g c s o k = oi g c k (sl g c s o k.toNat).1 (sl g c s o k.toNat).2 := rfl
      have nx := ih
      generalize hl : (sl g c s o k.toNat).1 = lft at w q st eo ei
      generalize hA : (sl g c s o k.toNat).2 = a at w q st eo ei
      have b2 : a < 1000000 := by have := bW k lft; omega
      have fin : AW mX8_split 92 [some (vR 8), some (vI (s * 1000000 + i)), some (vI c), some (vR 49), some (vI lft), some (vI (oa g c k lft a)), some (vI k), some (vI (ow g c k lft a)), none] [] M1 (QV K) := by
        have b3 := bC lft (ow g c k lft a)
        have b4 := bW (k + 1) (lft - ow g c k lft a)
        refine sg_X8_split_b_92 (c_waysOf (by omega) (by omega) (by omega) ?_)
        rw [hO1.2.2 c (k + 1) (lft - ow g c k lft a) hc.1 hc.2 (by omega) (by omega) (by omega) (by omega)]
        have em : (if 1 < Ws g c (k + 1) (lft - ow g c k lft a) then Ws g c (k + 1) (lft - ow g c k lft a) else 1) = Ws g c (k + 1) (lft - ow g c k lft a) := by
          split <;> omega
        rw [em]
        refine ⟨by omega, by omega, c_keyOf ⟨by omega, by omega, ?_⟩⟩
        have nx2 := ih (up M1 49 k (ow g c k lft a * 1000000 + oa g c k lft a / Ws g c (k + 1) (lft - ow g c k lft a))) (k + 1) (by omega) (by omega) (by omega) (hF.up (by decide)) (fun j j0 j1 => ?_)
        · rw [st, eo] at nx2
          exact nx2
        · by_cases e : j = k
          · rw [e, up_same, eo, ei]
            rfl
          · rw [up_other e]
            exact hj j j0 (by omega)
      have inner : ∀ (n : Nat) (f x : Int), (n : Int) = lft - f + 1 → 1 ≤ f → f ≤ ow g c k lft a → 0 ≤ x → x ≤ a → fo g c k lft n f x = (ow g c k lft a, oa g c k lft a) → AW mX8_split 49 [some (vR 8), some (vI (s * 1000000 + i)), some (vI c), some (vR 49), some (vI lft), some (vI x), some (vI k), some (vI f), none] [] M1 (QV K) := by
        intro n
        induction n with
        | zero =>
          intro f x hn2 f1 f2 x0 x1 he
          omega
        | succ n ihn =>
          intro f x hn2 f1 f2 x0 x1 he
          by_cases ef : f = lft
          · have es : x = oa g c k lft a := by
              by_cases lt : x < blk g c k lft f
              · rw [fo_stop lt] at he
                exact congrArg Prod.snd he
              · rw [fo_step lt, show n = 0 by omega] at he
                have := congrArg Prod.fst he
                have this : f + 1 = ow g c k lft a := this
                omega
            refine sg_X8_split_b_49 ⟨by omega, fun _ => ?_, fun z => by omega⟩
            rw [es, show f = ow g c k lft a by omega]
            exact fin
          · have b3 := bC lft f
            have c9 := hO1.1 (gG g (c * 3 + k)) f hgg.1 hgg.2 (by omega) (by omega)
            have c11 := hO1.2.2 c (k + 1) (lft - f) hc.1 hc.2 (by omega) (by omega) (by omega) (by omega)
            have eb : cap (M1 9 (gG g (c * 3 + k) * 13 + f) * M1 11 ((c * 4 + (k + 1)) * 13 + (lft - f))) = blk g c k lft f := by
              rw [c9, c11]; rfl
            refine sg_X8_split_b_49 ⟨by omega, fun z => by omega, fun _ => c_waysOfSplit hg hX1 hc ⟨k0, by omega⟩ (by omega) (by rw [c9]; exact Cs_bd _ _) (by rw [c11]; exact Ws_bd _ _ _) ?_⟩
            rw [eb]
            refine ⟨by omega, fun z => ihn (f + 1) (x - blk g c k lft f) (by omega) (by omega) ?_ (by omega) (by omega) ?_, fun z => ?_⟩
            · rw [fo_step (by omega)] at he
              refine Classical.byContradiction (fun y => ?_)
              have e2 : f = ow g c k lft a := by omega
              cases n with
              | zero => omega
              | succ n2 =>
                have ge : f + 1 ≤ (fo g c k lft (n2 + 1) (f + 1) (x - blk g c k lft f)).1 := fo_ge _ _ _
                rw [he] at ge
                have ge : f + 1 ≤ ow g c k lft a := ge
                omega
            · rw [fo_step (by omega)] at he
              exact he
            · rw [fo_stop (by omega)] at he
              have e1 : f = ow g c k lft a := congrArg Prod.fst he
              have e2 : x = oa g c k lft a := congrArg Prod.snd he
              rw [e1, e2]
              exact fin
      refine sg_X8_split_b_32 ?_
      rw [hF 3 (by decide), e3]
      exact ⟨by omega, by omega, fun z => by omega, fun _ => inner lft.toNat 1 a (by omega) (by omega) q.1.1 w.1.1 (Int.le_refl _) rfl⟩
  refine en_X8_split_b (c_sizeOfKey (by omega) ?_)
  rw [key_sz hi.1 hi.2]
  refine c_indexOfKey (by omega) ?_
  rw [key_ix hi.1 hi.2, show c * 13 + (s - 1) + 1 = c * 13 + s by omega, hO.2.1 c s hc.1 hc.2 hs.1 hs.2, ho]
  exact ⟨by omega, outer _ M 0 rfl (by omega) (by omega) (Fr.refl _ _) (fun j j0 j1 => by omega)⟩
theorem c_share {M : Mem} {K : Mem → Prop} (hg : SgOK g) (hX : MSig g M) (hO : MCnt g M) {c s o : Int} (hc : 0 ≤ c ∧ c < gN g) (hs : 1 ≤ s ∧ s ≤ 12) (ho : 0 ≤ o ∧ o < Ws g c 0 (s - 1)) (kk : ∀ M', Fr [70, 71] M M' → (∀ k, 0 ≤ k → k < gA g c → M' 70 k = kS g c s o k ∧ M' 71 k = kI g c s o k) → K M') : CV mX12_share [vR 50, vI c, vI s, vI o] M K := by
  have hn := hg.n
  have h4 := hg.1
  have ha := hg.a hc.1 hc.2
  have bW := fun k l => Ws_bd (g := g) c k l
  have outer : ∀ (m : Nat) (M1 : Mem) (k : Int), (gA g c - k).toNat = m → 0 ≤ k → k ≤ gA g c → Fr [70, 71] M M1 → (∀ j, 0 ≤ j → j < k → M1 70 j = kS g c s o j ∧ M1 71 j = kI g c s o j) → AW mX12_share 11 [some (vR 50), some (vI c), some (vI s), some (vI o), some (vI (sl g c s o k.toNat).1), some (vI (sl g c s o k.toNat).2), some (vI k), none, none, none, none] [] M1 (QV K) := by
    intro m
    induction m with
    | zero =>
      intro M1 k hm k0 k1 hF hj
      have e52 := ((hX.fr2 hF (by decide)).2.2 c hc.1 hc.2).2.1
      refine sg_X12_share_11 ?_
      rw [e52]
      exact ⟨by omega, by omega, fun _ => kk M1 hF (fun j j0 j1 => hj j j0 (by omega)), fun z => by omega⟩
    | succ m ih =>
      intro M1 k hm k0 k1 hF hj
      have hX1 := hX.fr2 hF (by decide)
      have e52 := (hX1.2.2 c hc.1 hc.2).2.1
      have e53 := (hX1.2.2 c hc.1 hc.2).2.2 k k0 (by omega)
      have hO1 : MCnt g M1 := by
        unfold MCnt
        rw [hF 63 (by decide), hF 64 (by decide)]
        exact hO
      have w := sl_in (g := g) ho.1 ho.2 k0 (show k < gA g c by omega)
      have q := own_ok (g := g) (c := c) (k := k) k0 (by omega) w.1.1 w.1.2
      have st := sl_step (g := g) (c := c) (s := s) (o := o) k0
      have bC := fun l f => blk_bd (g := g) c k l f
      have eo : kS g c s o k = ow g c k (sl g c s o k.toNat).1 (sl g c s o k.toNat).2 := rfl
      have ei : kI g c s o k = oi g c k (sl g c s o k.toNat).1 (sl g c s o k.toNat).2 := rfl
      generalize hl : (sl g c s o k.toNat).1 = lft at w q st eo ei
      generalize hA : (sl g c s o k.toNat).2 = a at w q st eo ei
      have b2 : a < 1000000 := by have := bW k lft; omega
      have inner : ∀ (n : Nat) (f x : Int), (n : Int) = lft - f + 1 → 1 ≤ f → f ≤ ow g c k lft a → 0 ≤ x → x ≤ a → fo g c k lft n f x = (ow g c k lft a, oa g c k lft a) → AW mX12_share 53 [some (vR 50), some (vI c), some (vI s), some (vI o), some (vI lft), some (vI x), some (vI k), some (vI (gG g (c * 3 + k))), some (vI f), some (vI (blk g c k lft f)), none] [] M1 (QV K) := by
        intro n
        induction n with
        | zero =>
          intro f x hn2 f1 f2 x0 x1 he
          omega
        | succ n ihn =>
          intro f x hn2 f1 f2 x0 x1 he
          have b3 := bC lft f
          refine sg_X12_share_53 ⟨by omega, fun z => c_wayM ⟨by omega, by omega, ?_⟩, fun z => ?_⟩
          · rw [fo_stop z] at he
            have e1 : f = ow g c k lft a := congrArg Prod.fst he
            have e2 : x = oa g c k lft a := congrArg Prod.snd he
            subst e1; subst e2
            have b4 := bW (k + 1) (lft - ow g c k lft a)
            rw [hO1.2 c (k + 1) (lft - ow g c k lft a) hc.1 hc.2 (by omega) (by omega) (by omega) (by omega)]
            refine ⟨by omega, by omega, by omega, ?_⟩
            have nx2 := ih (up (up M1 70 k (ow g c k lft a)) 71 k (oa g c k lft a / Ws g c (k + 1) (lft - ow g c k lft a))) (k + 1) (by omega) (by omega) (by omega) ((hF.up (by decide)).up (by decide)) (fun j j0 j1 => ?_)
            · rw [st, eo] at nx2
              have em : oa g c k lft a - oa g c k lft a / Ws g c (k + 1) (lft - ow g c k lft a) * Ws g c (k + 1) (lft - ow g c k lft a) = om g c k lft a := by
                unfold om
                have := Int.emod_def (oa g c k lft a) (Ws g c (k + 1) (lft - ow g c k lft a))
                rw [this, Int.mul_comm]
              rw [em]
              exact nx2
            · by_cases e : j = k
              · subst e
                rw [up_same, up_ne (by decide), up_same, eo, ei]
                exact ⟨rfl, rfl⟩
              · rw [up_other e, up_ne (by decide), up_other e, up_ne (by decide)]
                exact hj j j0 (by omega)
          · rw [fo_step z] at he
            have lt : f < ow g c k lft a := by
              cases n with
              | zero =>
                have := congrArg Prod.fst he
                have this : f + 1 = ow g c k lft a := this
                omega
              | succ n2 =>
                have ge : f + 1 ≤ (fo g c k lft (n2 + 1) (f + 1) (x - blk g c k lft f)).1 := fo_ge _ _ _
                rw [he] at ge
                have ge : f + 1 ≤ ow g c k lft a := ge
                omega
            exact c_blockOf hg hO1 hc ⟨k0, by omega⟩ (by omega) (ihn (f + 1) (x - blk g c k lft f) (by omega) (by omega) (by omega) (by omega) (by omega) he)
      refine sg_X12_share_11 ?_
      rw [e52, e53]
      exact ⟨by omega, by omega, fun z => by omega, fun _ => ⟨by omega, c_blockOf hg hO1 hc ⟨k0, by omega⟩ (by omega) (inner lft.toNat 1 a (by omega) (by omega) q.1.1 w.1.1 (Int.le_refl _) rfl)⟩⟩
  exact en_X12_share (outer _ M 0 rfl (by omega) (by omega) (Fr.refl _ _) (fun j j0 j1 => by omega))
end
