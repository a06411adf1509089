/-! the reference makes nodes of the row -/
section
variable {g : Sg}
theorem ofs_mono (hg : SgOK g) {c s o j k : Int} (hc : 0 ≤ c ∧ c < gN g) (hs : 1 ≤ s ∧ s ≤ 12) (o0 : 0 ≤ o) (o1 : o < Ws g c 0 (s - 1)) (j0 : 0 ≤ j) (jk : j < k) (k1 : k ≤ gA g c) : ofs g c s o j + kS g c s o j ≤ ofs g c s o k := by
  have main : ∀ (m : Nat), j + 1 + (m : Int) ≤ gA g c → ofs g c s o j + kS g c s o j ≤ ofs g c s o (j + 1 + m) := by
    intro m
    induction m with
    | zero =>
      intro _
      rw [show j + 1 + ((0 : Nat) : Int) = j + 1 by omega, ofs_step j0]
      omega
    | succ m ih =>
      intro hm
      have i := ih (by omega)
      have kv := (kid_ok (k := j + 1 + m) hg hc hs o0 o1 (by omega) (by omega)).1.2.1
      rw [show j + 1 + ((m + 1 : Nat) : Int) = j + 1 + m + 1 by omega, ofs_step (by omega)]
      omega
  have := main (k - j - 1).toNat (by omega)
  rw [show j + 1 + (((k - j - 1).toNat : Nat) : Int) = k by omega] at this
  exact this
/-- what a value's turn leaves behind -/
def MkP (g : Sg) (M M' : Mem) (q N t s i : Int) : Prop := Fr [50, 54, 55, 56, 57, 72, 73, 74] M M' ∧ (∀ f : Int, f ≠ 5 → M' 50 f = M 50 f) ∧ M' 50 5 = N + s ∧ (∀ x, x < q → M' 72 x = M 72 x ∧ M' 73 x = M 73 x) ∧ (∀ x, x < 3 * q → M' 74 x = M 74 x) ∧ (∀ n, n < N → M' 54 n = M 54 n ∧ M' 55 n = M 55 n ∧ M' 57 n = M 57 n) ∧ (∀ x, x < N * 3 → M' 56 x = M 56 x) ∧ Bt g (M' 55) (M' 54) (M' 56) s.toNat N t s i ∧ ∀ n, N ≤ n → n < N + s → M' 57 n = -13
theorem c_mk {K : Int → Mem → Prop} (hg : SgOK g) : ∀ (f : Nat) (M : Mem) (p q N t s i v : Int), MSig g M → Vd g t s i → Pr g (M 65) f p t s i → 0 ≤ p → p + s ≤ M 50 21 → M 50 21 ≤ 12 → 0 ≤ q → q ≤ 40 - s → M 50 5 = N → 0 ≤ N → N + s ≤ 100 →
    (∀ M' c, MkP g M M' q N t s i → (q ≤ 0 → AW mX12_makeNodes 154 [some (vR 50), some (vI q), some (vI (N + s - 1)), some (vI (p + s - 1)), some (vI c)] [] M' (QI K)) ∧ (¬ q ≤ 0 → (0 ≤ M' 73 (q - 1) ∧ M' 73 (q - 1) < 3) ∧ AW mX12_makeNodes 154 [some (vR 50), some (vI q), some (vI (N + s - 1)), some (vI (p + s - 1)), some (vI c)] [] (up (up M' 74 (3 * (q - 1) + M' 73 (q - 1)) (N + s - 1)) 73 (q - 1) (M' 73 (q - 1) + 1)) (QI K))) →
    AW mX12_makeNodes 7 [some (vR 50), some (vI q), some (vI v), some (vI p), none] [] M (QI K) := by
  intro f
  induction f with
  | zero => intro M p q N t s i v _ _ h; exact h.elim
  | succ f ih =>
    intro M p q N t s i v hX hv hP p0 p1 l1 q0 q1 hN N0 N1 kk
    have hs := hv.2.1
    obtain ⟨r1, r2, r3, r4, r5⟩ := root_ok hg hs.1 hs.2 hv.2.2.1 hv.2.2.2
    have ha := hg.a r1.1 r1.2
    have hn := hg.n
    have hend := ofs_end (g := g) (c := rc g t s i) (s := s) ha.1 r3.1 r3.2
    have kid := fun k k0 k1 => kid_ok (k := k) hg r1 hs r3.1 r3.2 k0 k1
    obtain ⟨hW, hPk⟩ := hP
    generalize hcc : rc g t s i = c at *
    generalize hoo : rr g t s i = o at *
    refine sg_X12_makeNodes_7 ⟨by omega, fun z => by omega, fun _ => ⟨by omega, by omega, by omega, ?_⟩⟩
    rw [hW]
    -- k parts are made
    have kids : ∀ (m : Nat) (k : Int) (M1 : Mem) (w : Int), (gA g c - k).toNat = m → 0 ≤ k → k ≤ gA g c → Fr [50, 54, 55, 56, 57, 72, 73, 74] M M1 → (∀ f : Int, f ≠ 5 → M1 50 f = M 50 f) → M1 50 5 = N + ofs g c s o k → (∀ x, x < q → M1 72 x = M 72 x ∧ M1 73 x = M 73 x) → M1 72 q = c → M1 73 q = k → (∀ x, x < 3 * q → M1 74 x = M 74 x) → (∀ j, 0 ≤ j → j < k → M1 74 (3 * q + j) = N + ofs g c s o j + kS g c s o j - 1) → (∀ n, n < N → M1 54 n = M 54 n ∧ M1 55 n = M 55 n ∧ M1 57 n = M 57 n) → (∀ x, x < N * 3 → M1 56 x = M 56 x) → (∀ j, 0 ≤ j → j < k → Bt g (M1 55) (M1 54) (M1 56) (kS g c s o j).toNat (N + ofs g c s o j) (gG g (c * 3 + j)) (kS g c s o j) (kI g c s o j)) → (∀ n, N ≤ n → n < N + ofs g c s o k → M1 57 n = -13) → AW mX12_makeNodes 37 [some (vR 50), some (vI (q + 1)), some (vI w), some (vI (p + ofs g c s o k)), none] [] M1 (QI K) := by
      intro m
      induction m with
      | zero =>
        intro k M1 w hm k0 k1 hF h50 h5 h72 h72q h73q h74 h74k hn1 h56 hB h57
        have ek : k = gA g c := by omega
        subst ek
        rw [hend] at h5 h57
        have hX1 : MSig g M1 := hX.fr hF ⟨h50 0 (by decide), h50 1 (by decide)⟩ (by decide)
        have e51 := (hX1.2.2 c r1.1 r1.2).1
        have e52 := (hX1.2.2 c r1.1 r1.2).2.1
        refine sg_X12_makeNodes_37 ?_
        rw [show q + 1 - 1 = q by omega, show q + 1 + -1 = q by omega, h72q, h73q, e52, e51]
        refine ⟨by omega, fun z => by omega, fun _ => ⟨by omega, by omega, by omega, by omega, fun z => absurd rfl z, fun _ => ⟨by omega, by omega, by omega, by omega, by omega, en_X12_addNode ?_⟩⟩⟩
        rw [h5]
        refine ⟨by omega, by omega, by omega, by omega, by omega, by omega, ?_⟩
        rw [show N + (s - 1) + 1 - 1 = N + s - 1 by omega, show N + (s - 1) = N + s - 1 by omega]
        generalize hM2 : up (up (up (up (up (up (up M1 54 (N + s - 1) c) 55 (N + s - 1) (gR g c)) 56 (3 * (N + s - 1)) (M1 74 (3 * q))) 56 (3 * (N + s - 1) + 1) (M1 74 (3 * q + 1))) 56 (3 * (N + s - 1) + 2) (M1 74 (3 * q + 2))) 57 (N + s - 1) (-13)) 50 5 (N + s - 1 + 1) = M2
        have b54 : M2 54 = st1 (M1 54) (N + s - 1) c := by rw [← hM2]; rfl
        have b55 : M2 55 = st1 (M1 55) (N + s - 1) (gR g c) := by rw [← hM2]; rfl
        have b57 : M2 57 = st1 (M1 57) (N + s - 1) (-13) := by rw [← hM2]; rfl
        have b56 : M2 56 = fun x => if x = 3 * (N + s - 1) + 2 then M1 74 (3 * q + 2) else if x = 3 * (N + s - 1) + 1 then M1 74 (3 * q + 1) else if x = 3 * (N + s - 1) then M1 74 (3 * q) else M1 56 x := by rw [← hM2]; rfl
        have b56lo : ∀ x, x < (N + s - 1) * 3 → M2 56 x = M1 56 x := fun x hx => by
          rw [b56]; dsimp only; rw [if_neg (by omega), if_neg (by omega), if_neg (by omega)]
        have b50 : ∀ f : Int, f ≠ 5 → M2 50 f = M1 50 f := fun f hf => by rw [← hM2, up_other hf]; rfl
        have b505 : M2 50 5 = N + s := by rw [← hM2, up_same]; omega
        have F2 : Fr [50, 54, 55, 56, 57, 72, 73, 74] M M2 := by
          rw [← hM2]
          exact ((((((hF.up (by decide)).up (by decide)).up (by decide)).up (by decide)).up (by decide)).up (by decide)).up (by decide)
        have b72 : M2 72 = M1 72 := by rw [← hM2]; rfl
        have b73 : M2 73 = M1 73 := by rw [← hM2]; rfl
        have b74 : M2 74 = M1 74 := by rw [← hM2]; rfl
        clear hM2
        have post : MkP g M M2 q N t s i := by
          refine ⟨F2, fun f hf => by rw [b50 f hf]; exact h50 f hf, b505, ?_, ?_, fun n hn2 => ?_, fun x hx => ?_, ?_, fun n n0 n1 => ?_⟩
          · rw [b72, b73]; exact h72
          · rw [b74]; exact h74
          · rw [b54, b55, b57, st1_ne (by omega), st1_ne (by omega), st1_ne (by omega)]; exact hn1 n hn2
          · rw [b56lo x (by omega)]; exact h56 x hx
          · rw [show s.toNat = (s - 1).toNat + 1 by omega]
            unfold Bt
            rw [hcc, hoo]
            refine ⟨by rw [b55, st1_same]; exact r2, by rw [b54, st1_same], fun j j0 j1 => ?_⟩
            have kv := kid j j0 j1
            have kj := h74k j j0 j1
            refine ⟨?_, Bt_le (Bt_congr hg _ _ _ _ _ kv.1 (hB j j0 j1) (fun n n0 n1 => ⟨by rw [b55, st1_ne (by omega)], by rw [b54, st1_ne (by omega)], fun k3 k30 k31 => b56lo _ (by omega)⟩)) _ (by have := kv.2; omega)⟩
            rw [← kj, b56]
            dsimp only
            by_cases e2 : j = 2
            · rw [if_pos (by omega), e2]
            · rw [if_neg (by omega)]
              by_cases e1 : j = 1
              · rw [if_pos (by omega), e1]
              · have e0 : j = 0 := by omega
                rw [if_neg (by omega), if_pos (by omega), e0, Int.add_zero]
          · rw [b57]
            by_cases e : n = N + s - 1
            · rw [e, st1_same]
            · rw [st1_ne e]; exact h57 n n0 (by omega)
        have go := kk M2 c post
        rw [hend, show p + (s - 1) = p + s - 1 by omega]
        refine ⟨by omega, go.1, fun z => ?_⟩
        have g2 := go.2 z
        exact ⟨by omega, by omega, by omega, by omega, g2.2⟩
      | succ m ihm =>
        intro k M1 w hm k0 k1 hF h50 h5 h72 h72q h73q h74 h74k hn1 h56 hB h57
        have kv := kid k k0 (by omega)
        have ks := kv.1.2.1
        have hX1 : MSig g M1 := hX.fr hF ⟨h50 0 (by decide), h50 1 (by decide)⟩ (by decide)
        have e52 := (hX1.2.2 c r1.1 r1.2).2.1
        refine sg_X12_makeNodes_37 ?_
        rw [show q + 1 - 1 = q by omega, h72q, h73q, e52]
        refine ⟨by omega, fun z => by omega, fun _ => ⟨by omega, by omega, by omega, by omega, fun _ => sg_X12_makeNodes_157 ?_, fun z => by omega⟩⟩
        have hPk1 := hPk k k0 (by omega)
        rw [← hF 65 (by decide), show p + 1 + ofs g c s o k = p + ofs g c s o k + 1 by omega] at hPk1
        refine ih M1 (p + ofs g c s o k + 1) (q + 1) (N + ofs g c s o k) _ _ _ w hX1 kv.1 hPk1 (by omega) (by rw [h50 21 (by decide)]; omega) (by rw [h50 21 (by decide)]; exact l1) (by omega) (by omega) h5 (by omega) (by omega) (fun M2 c2 hm2 => ⟨fun z => by omega, fun _ => ?_⟩)
        obtain ⟨u0, u1, u2, u3, u4, u5, u6, u7, u8⟩ := hm2
        have e73 : M2 73 q = k := by rw [(u3 q (by omega)).2]; exact h73q
        rw [show q + 1 - 1 = q by omega, e73]
        refine ⟨by omega, sg_X12_makeNodes_154 ?_⟩
        have st := ofs_step (g := g) (c := c) (s := s) (o := o) k0
        rw [show p + ofs g c s o k + 1 + kS g c s o k - 1 = p + ofs g c s o (k + 1) by rw [st]; omega]
        refine ihm (k + 1) _ _ (by omega) (by omega) (by omega) (((hF.trans u0).up (by decide)).up (by decide)) (fun f hf => by rw [up_ne (by decide), up_ne (by decide), u1 f hf]; exact h50 f hf) ?_ (fun x hx => ?_) ?_ up_same (fun x hx => ?_) (fun j j0 j1 => ?_) (fun n hn2 => ?_) (fun x hx => ?_) (fun j j0 j1 => ?_) (fun n n0 n1 => ?_)
        · rw [up_ne (by decide), up_ne (by decide), u2, st]; omega
        · rw [up_ne (show (72 : Nat) ≠ 73 by decide), up_ne (show (72 : Nat) ≠ 74 by decide), up_other (by omega), up_ne (show (73 : Nat) ≠ 74 by decide), (u3 x (by omega)).1, (u3 x (by omega)).2]; exact h72 x hx
        · rw [up_ne (by decide), up_ne (by decide), (u3 q (by omega)).1]; exact h72q
        · rw [up_ne (by decide), up_other (by omega), u4 x (by omega)]; exact h74 x hx
        · rw [up_ne (by decide)]
          by_cases e : j = k
          · rw [e, up_same]
          · rw [up_other (by omega), u4 _ (by omega)]; exact h74k j j0 (by omega)
        · rw [up_ne (by decide), up_ne (by decide), up_ne (by decide), up_ne (by decide), up_ne (by decide), up_ne (by decide), (u5 n (by omega)).1, (u5 n (by omega)).2.1, (u5 n (by omega)).2.2]; exact hn1 n hn2
        · rw [up_ne (by decide), up_ne (by decide), u6 x (by omega)]; exact h56 x hx
        · rw [up_ne (by decide), up_ne (by decide), up_ne (by decide), up_ne (by decide), up_ne (by decide), up_ne (by decide)]
          by_cases e : j = k
          · rw [e]; exact u7
          · have kj := kid j j0 (by omega)
            have mono : ofs g c s o j + kS g c s o j ≤ ofs g c s o k := ofs_mono hg r1 hs r3.1 r3.2 j0 (by omega) (by omega)
            exact Bt_congr hg _ _ _ _ _ kj.1 (hB j j0 (by omega)) (fun n n0 n1 => ⟨(u5 n (by omega)).2.1, (u5 n (by omega)).1, fun k3 k30 k31 => u6 _ (by omega)⟩)
        · rw [up_ne (by decide), up_ne (by decide)]
          by_cases e : n < N + ofs g c s o k
          · rw [(u5 n e).2.2]; exact h57 n n0 e
          · exact u8 n (by omega) (by rw [st] at n1; omega)
    have start := kids _ 0 (up (up M 72 q c) 73 q 0) v rfl (by omega) ha.1 (((Fr.refl _ M).up (by decide)).up (by decide)) (fun f hf => rfl) (by rw [ofs_0, up_ne (by decide), up_ne (by decide), hN]; omega) (fun x hx => ?_) (by rw [up_ne (by decide), up_same]) up_same (fun x hx => rfl) (fun j j0 j1 => by omega) (fun n hn2 => ⟨rfl, rfl, rfl⟩) (fun x hx => rfl) (fun j j0 j1 => by omega) (fun n n0 n1 => by rw [ofs_0] at n1; omega)
    · rw [ofs_0, Int.add_zero] at start
      exact start
    · rw [up_ne (by decide), up_other (by omega), up_other (by omega), up_ne (by decide)]
      exact ⟨rfl, rfl⟩
end
