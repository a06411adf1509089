/-! coverage: one value on each side, and counting -/
section
variable {g : Sg} {d : Nd} {tg : Int → Int}
theorem Rw.uq {W z z2 : Int → Int} {n : Int} (hg : SgOK g) (h : Rw g W n z) (h2 : Rw g W n z2) : ∀ (m : Nat) (x : Int), (n - x).toNat ≤ m → 0 ≤ x → x < n → z x = z2 x := by
  intro m
  induction m with
  | zero => intro x hm x0 x1; omega
  | succ m ih =>
    intro x hm x0 x1
    obtain ⟨a1, a2, a3, a4⟩ := h.kids x0 x1
    obtain ⟨b1, b2, b3, b4⟩ := h2.kids x0 x1
    have ha := hg.a a1.1 a1.2
    have key : ∀ j : Nat, (j : Int) ≤ gA g (W x) → kst z x j = kst z2 x j := by
      intro j
      induction j with
      | zero => intro _; rfl
      | succ j ihj =>
        intro hj
        have e := ihj (by omega)
        have q := (a4 j (by omega) (by omega)).1
        rw [show ((j : Int)).toNat = j by omega] at q
        have := ih (kst z x j) (by omega) (by omega) q.2
        show kst z x j + z (kst z x j) = kst z2 x j + z2 (kst z2 x j)
        rw [← e, this]
    have := key (gA g (W x)).toNat (by omega)
    have := a3 ha.1
    have := b3 ha.1
    omega
def RowOf (g : Sg) (t s i : Int) (W z : Int → Int) : Prop := Pr g W s.toNat 0 t s i ∧ Rw g W s z ∧ z 0 = s ∧ ZU g W z s
theorem rows_of (hg : SgOK g) (t : Int) : ∃ Wf zf : Int → Int → Int → Int, ∀ s i, Vd g t s i → RowOf g t s i (Wf s i) (zf s i) := by
  have h : ∀ p : Int × Int, ∃ q : (Int → Int) × (Int → Int), Vd g t p.1 p.2 → RowOf g t p.1 p.2 q.1 q.2 := by
    intro p
    by_cases e : Vd g t p.1 p.2
    · obtain ⟨W, z, a⟩ := row_of hg e
      exact ⟨(W, z), fun _ => a⟩
    · exact ⟨(fun _ => 0, fun _ => 0), fun h => absurd h e⟩
  have h2 := Classical.axiomOfChoice h
  obtain ⟨f, hf⟩ := h2
  exact ⟨fun s i => (f (s, i)).1, fun s i => (f (s, i)).2, fun s i hv => hf (s, i) hv⟩
theorem FM.bd {W z R : Int → Int} {n r : Int} (h : FM g d tg W z R n r) : r = -13 ∨ (0 ≤ r ∧ r < n) := by
  rcases h with h | h
  · exact Or.inl h.1
  · exact Or.inr h.1
/-- the class between two values -/
def XSt (M0 : Mem) (b : Int) (M : Mem) : Prop := Fr fitS M0 M ∧ M 43 1 = M0 43 1 ∧ (M0 43 3 ≤ M 43 3 ∧ M 43 3 ≤ M0 43 3 + b) ∧ ∀ n, 0 ≤ n → n < 100 → 0 ≤ M 45 n ∧ M 45 n ≤ M 43 3
theorem XSt.mono {M0 M : Mem} {b b2 : Int} (h : XSt M0 b M) (l : b ≤ b2) : XSt M0 b2 M := ⟨h.1, h.2.1, ⟨h.2.2.1.1, by have := h.2.2.1.2; omega⟩, h.2.2.2⟩
theorem XSt.keep {M0 M : Mem} {b : Int} (h : XSt M0 b M) : Keep M0 M := by
  have f := h.1
  refine ⟨fun x hx => f x (by revert hx; revert x; decide), h.2.1, ?_, ?_, ?_, ?_, ?_⟩ <;> rw [f 50 (by decide)]
theorem Ctr.fits {c : Nat} {M0 M : Mem} {b : Int} (h : Ctr c M0) (x : XSt M0 b M) (hb : b ≤ 128000) : Ctr (c + 1) M := by
  obtain ⟨h1, h2, h3, h4, h5, h6⟩ := h
  obtain ⟨f, _, l, k⟩ := x
  unfold Ctr
  rw [f 28 (by decide), f 30 (by decide), f 37 (by decide), f 39 (by decide)]
  exact ⟨⟨h1.1, by omega⟩, ⟨h2.1, by omega⟩, ⟨by omega, by omega⟩, h4, h5, k⟩
theorem c_valX {M0 M : Mem} {K : Int → Mem → Prop} {W z : Int → Int} {b t s i : Int} (hC : Core g d tg M0) (h3 : 0 ≤ M0 43 3 ∧ M0 43 3 ≤ 800000000) (et : t = nY d (M0 44 0)) (hv : Vd g t s i) (hw : RowOf g t s i W z) (hx : XSt M0 b M) (b0 : b ≤ 1000000) (kk : ∀ M' r, XSt M0 (b + 8) M' → FM g d tg W z (M0 44) (M0 43 1) r → K r M') : CI mX2_firstFitting [vR 43, vR 8, vI (s * 1000000 + i)] M K := by
  obtain ⟨hF, e1, l3, h45⟩ := hx
  have hX : XR g d tg M := hC.2.1.fr hF (by decide)
  have hO : XCnt g M := by
    have := hC.2.2.2.2.1
    unfold XCnt
    rw [hF 9 (by decide), hF 10 (by decide), hF 11 (by decide)]
    exact this
  have hs := hv.2.1
  have hr := hC.2.2.2.2.2.2
  exact c_firstFitting_b (R := M0 44) (n := M0 43 1) (t := t) (RpC_key hC.1.1 hw.2.1 hw.2.2.2 hX.1 hO) hC.1 hX hw.2.1 hw.2.2.1 hs.1 (by omega) hr.1.1 hr.1.2 e1 (fun j j0 j1 => ⟨by rw [hF 44 (by decide)], (hr.2.2 j j0 j1).2.1, by rw [et]; exact (hr.2.2 j j0 j1).2.2⟩) ⟨⟨by omega, by omega⟩, s, i, s.toNat, hv, rfl, hw.1⟩ (by omega) h45 (fun M' r hF' e1' l3' h45' hfm => kk M' r ⟨hF.trans hF', e1', by omega, h45'⟩ hfm)
/-- the reference between two values -/
def MSt (M1 M : Mem) : Prop := Fr [50, 65, 66, 67, 68, 69, 70, 71, 83, 84] M1 M ∧ ∀ f : Int, f ≠ 21 → M 50 f = M1 50 f
theorem MSt.keep {M1 M : Mem} (h : MSt M1 M) : Keep M1 M := Keep.of2 h.1 (by decide) (fun x hx => h.2 x (by revert hx; revert x; decide))
theorem MSt.rf (M : Mem) : MSt M M := ⟨Fr.refl _ _, fun _ _ => rfl⟩
theorem c_layValue2 {M : Mem} {K : Mem → Prop} (hg : SgOK g) (hX : MSig g M) (hO : MCnt g M) {t s i : Int} {W z : Int → Int} (hv : Vd g t s i) (hw : RowOf g t s i W z) (kk : ∀ M', Fr [50, 65, 66, 67, 68, 69, 70, 71] M M' → (∀ f : Int, f ≠ 21 → M' 50 f = M 50 f) → (∀ x, 0 ≤ x → x < s → M' 65 x = W x) → (∀ x, 0 ≤ x → x < s → M' 66 x = z x) → K M') : CV mX12_layValue [vR 50, vI t, vI s, vI i] M K := by
  refine c_layValue hg hX hO hv (fun M' z2 hF h50 _ hp hr h66 => ?_)
  have e : ∀ x, 0 ≤ x → x < s → M' 65 x = W x := by
    intro x x0 x1
    have := Pr_agree hg _ _ 0 0 t s i hv hp hw.1 x x0 x1
    rw [show 0 + x = x by omega] at this
    exact this
  have hr2 : Rw g W s z2 := hr.congr (fun x x0 x1 => (e x x0 x1).symm)
  exact kk M' hF h50 e (fun x x0 x1 => by rw [h66 x x0 x1]; exact Rw.uq hg hr2 hw.2.1 _ x (Nat.le_refl _) x0 x1)
theorem c_subject {M : Mem} {K : Int → Mem → Prop} (hC : Core g d tg M) (n0 : 0 < M 43 1) (kk : K (nY d (M 44 0)) M) : CI mX12_subject [vR 50] M K := by
  have hr := hC.2.2.2.2.2.2.2.2 0 (by omega) n0
  have b := hC.1.2.1.1
  refine en_X12_subject ?_
  rw [hr.1, (hC.2.2.1.2.1.2 _ hr.2.1.1 hr.2.1.2).1]
  exact ⟨by omega, kk⟩
theorem c_subjectX {M : Mem} {K : Int → Mem → Prop} (hC : Core g d tg M) (n0 : 0 < M 43 1) (kk : K (nY d (M 44 0)) M) : CI mX2_subjectType [vR 43] M K := by
  have hr := hC.2.2.2.2.2.2.2.2 0 (by omega) n0
  have b := hC.1.2.1.1
  refine en_X2_subjectType ?_
  rw [hC.2.1.2.1.2.1]
  exact ⟨by omega, kk⟩
theorem MCnt.ms {M1 M : Mem} (h : MCnt g M1) (m : MSt M1 M) : MCnt g M := by
  unfold MCnt
  rw [m.1 63 (by decide), m.1 64 (by decide)]
  exact h
theorem c_valM {M1 M : Mem} {P : Int → Mem → Prop} {W z : Int → Int} {t s i : Int} (hC : Core g d tg M1) (n0 : 0 < M1 43 1) (et : t = nY d (M1 44 0)) (hv : Vd g t s i) (hw : RowOf g t s i W z) (hO : MCnt g M1) (hm : MSt M1 M) (kk : ∀ M' r, MSt M1 M' → FM g d tg W z (M1 44) (M1 43 1) r → P r M') : CI mX12_subject [vR 50] M (fun r25 M25 => CV mX12_layValue [vR 50, vI r25, vI s, vI i] M25 (fun M31 => CI mX12_matchNow [vR 50] M31 (fun r36 M36 => P r36 M36))) := by
  have hK := hm.keep
  have hC1 := hC.keep hK
  have e43 : M 43 1 = M1 43 1 := hK.2.1
  have e44 : M 44 = M1 44 := hK.1 44 (by decide)
  have hs := hv.2.1
  refine c_subject hC1 (by omega) ?_
  rw [e44, ← et]
  refine c_layValue2 hC.1.1 hC1.2.2.1.1 (hO.ms hm) hv hw (fun M2 hF2 h50 h65 h66 => ?_)
  have hm2 : MSt M1 M2 := ⟨hm.1.trans (hF2.mono (by decide)), fun f hf => (h50 f hf).trans (hm.2 f hf)⟩
  have hC2 := hC.keep hm2.keep
  have hr := hC2.2.2.2.2.2.2
  have f43 : M2 43 1 = M1 43 1 := hm2.keep.2.1
  have f44 : M2 44 = M1 44 := hm2.keep.1 44 (by decide)
  unfold Rws at hr
  rw [f44, f43] at hr
  refine c_matchNow (R := M1 44) (n := M1 43 1) hC2.1 hC2.2.2.1 hw.2.1 hw.2.2.1 hs.1 (by omega) h65 h66 (by omega) hr.1.2 hr.2.1 (fun j j0 j1 => ⟨(hr.2.2 j j0 j1).1, (hr.2.2 j j0 j1).2.1⟩) (fun M3 r hF3 hfm => kk M3 r ⟨hm2.1.trans (hF3.mono (by decide)), fun f hf => by rw [hF3 50 (by decide)]; exact hm2.2 f hf⟩ hfm)
/-- how often an answer comes among the first k values -/
def CtR (F : Int → Int → Prop) (a : Int) : Nat → Int → Prop
  | 0, x => x = 0
  | k + 1, x => ∃ y r, CtR F a k y ∧ F k r ∧ x = if r = a then y + 1 else y
theorem CtR.uq {F : Int → Int → Prop} {a : Int} (u : ∀ i r r2, F i r → F i r2 → r = r2) : ∀ (k : Nat) (x y : Int), CtR F a k x → CtR F a k y → x = y
  | 0, x, y, h, h2 => Eq.trans h (Eq.symm h2)
  | k + 1, x, y, h, h2 => by
    obtain ⟨x1, r, a1, a2, a3⟩ := h
    obtain ⟨y1, r2, b1, b2, b3⟩ := h2
    have e := CtR.uq u k x1 y1 a1 b1
    have f := u k r r2 a2 b2
    rw [a3, b3, e, f]
end
