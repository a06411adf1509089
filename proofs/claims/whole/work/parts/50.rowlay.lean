/-! the reference lays the row -/
section
variable {g : Sg}
/-- what waits: the top one begins at p, each lower one behind it -/
def LK (g : Sg) (p : Int) (M : Mem) (G : Int → Int) (w : Int) : Prop := 0 ≤ w ∧ G (w - 1) = p ∧ ∀ e, 0 ≤ e → e < w → Vd g (M 67 e) (M 68 e) (M 69 e) ∧ G (e - 1) = G e + M 68 e
theorem LK.hi {p : Int} {M : Mem} {G : Int → Int} {w : Int} (h : LK g p M G w) : ∀ (m : Nat), (m : Int) ≤ w → G (w - m - 1) ≥ p + m
  | 0, _ => by have := h.2.1; show G (w - 0 - 1) ≥ p + 0; rw [show w - 0 - 1 = w - 1 by omega]; omega
  | m + 1, hm => by
    have i := h.hi m (by omega)
    have q := h.2.2 (w - m - 1) (by omega) (by omega)
    have q1 := q.1.2.1
    have q2 := q.2
    rw [show w - m - 1 - 1 = w - ((m + 1 : Nat) : Int) - 1 by omega] at q2
    omega
theorem c_layRow {K : Mem → Prop} (hg : SgOK g) {v1 v2 v3 : Int} : ∀ (m : Nat) (M : Mem) (p : Int) (G : Int → Int) (w : Int), (G (-1) - p).toNat = m → 0 ≤ p → G (-1) ≤ 12 → MSig g M → MCnt g M → M 50 21 = p → LK g p M G w →
    (∀ M', Fr [50, 65, 67, 68, 69, 70, 71] M M' → (∀ f : Int, f ≠ 21 → M' 50 f = M 50 f) → M' 50 21 = G (-1) → (∀ x, x < p → M' 65 x = M 65 x) → (∀ e, 0 ≤ e → e < w → Pr g (M' 65) (M 68 e).toNat (G e) (M 67 e) (M 68 e) (M 69 e)) → CV mX12_layParts [vR 50] M' K) →
    AW mX12_layValue 29 [some (vR 50), some (vI v1), some (vI v2), some (vI v3), some (vI w), none, none, none, none, none] [] M (QV K) := by
  intro m
  induction m with
  | zero =>
    intro M p G w hm p0 g1 hX hO h21 hK kk
    have w0 := hK.1
    have hh := hK.hi w.toNat (by omega)
    rw [show w - ((w.toNat : Nat) : Int) - 1 = -1 by omega] at hh
    have ew : w = 0 := by omega
    have hp := hK.2.1
    rw [ew] at hp
    have hp : G (-1) = p := hp
    refine sg_X12_layValue_29 ⟨by omega, fun _ => ?_, fun z => by omega⟩
    exact kk M (Fr.refl _ _) (fun f _ => rfl) (by rw [h21, hp]) (fun x _ => rfl) (fun e e0 e1 => by omega)
  | succ m ih =>
    intro M p G w hm p0 g1 hX hO h21 hK kk
    have hh := hK.hi w.toNat (by have := hK.1; omega)
    rw [show w - ((w.toNat : Nat) : Int) - 1 = -1 by have := hK.1; omega] at hh
    obtain ⟨w0, hp, he⟩ := hK
    have wpos : 0 < w := by
      refine Classical.byContradiction (fun z => ?_)
      rw [show w - 1 = -1 by omega] at hp
      omega
    have top := he (w - 1) (by omega) (by omega)
    have hs := top.1.2.1
    rw [hp, show w - 1 - 1 = w - 2 by omega] at top
    obtain ⟨r1, r2, r3, r4, r5⟩ := root_ok hg hs.1 hs.2 top.1.2.2.1 top.1.2.2.2
    have ha := hg.a r1.1 r1.2
    have hend := ofs_end (g := g) (c := rc g (M 67 (w - 1)) (M 68 (w - 1)) (M 69 (w - 1))) (s := M 68 (w - 1)) ha.1 r3.1 r3.2
    have kid := fun k k0 k1 => kid_ok (k := k) hg r1 hs r3.1 r3.2 k0 k1
    have hn := hg.n
    refine sg_X12_layValue_29 ⟨by omega, fun z => by omega, fun _ => ⟨by omega, by omega, by omega, ?_⟩⟩
    rw [show w + -1 = w - 1 by omega]
    refine c_rootM hg hX hO top.1 (by omega) ?_ (gN g).toNat 0 (M 69 (w - 1)) (by omega) (by omega) top.1.2.2.1 (Int.le_refl _) rfl
    generalize hcc : rc g (M 67 (w - 1)) (M 68 (w - 1)) (M 69 (w - 1)) = c at *
    generalize hoo : rr g (M 67 (w - 1)) (M 68 (w - 1)) (M 69 (w - 1)) = o at *
    rw [h21]
    generalize hM1 : up (up M 65 p c) 50 21 (p + 1) = M1
    have F1 : Fr [50, 65] M M1 := by rw [← hM1]; exact ((Fr.refl _ M).up (by decide)).up (by decide)
    have a50 : ∀ f : Int, f ≠ 21 → M1 50 f = M 50 f := fun f hf => by rw [← hM1, up_other hf]; rfl
    have a21 : M1 50 21 = p + 1 := by rw [← hM1]; exact up_same
    have a65 : M1 65 = st1 (M 65) p c := by rw [← hM1]; rfl
    clear hM1
    have hX1 : MSig g M1 := hX.fr F1 ⟨a50 0 (by decide), a50 1 (by decide)⟩ (by decide)
    have hO1 : MCnt g M1 := by
      unfold MCnt
      rw [F1 63 (by decide), F1 64 (by decide)]
      exact hO
    refine c_share hg hX1 hO1 r1 hs r3 (fun M2 hF2 hk2 => ⟨by omega, ?_⟩)
    have hX2 : MSig g M2 := hX1.fr2 hF2 (by decide)
    have e52 := (hX2.2.2 c r1.1 r1.2).2.1
    rw [e52]
    -- the parts are put on, the last first
    have loop : ∀ (q : Nat) (k : Int) (M3 : Mem), (k + 1).toNat = q → -1 ≤ k → k < gA g c → Fr [67, 68, 69] M2 M3 → (∀ e, e < w - 1 → M3 67 e = M 67 e ∧ M3 68 e = M 68 e ∧ M3 69 e = M 69 e) → (∀ j, k < j → j < gA g c → M3 67 (w - 1 + (gA g c - 1 - j)) = gG g (c * 3 + j) ∧ M3 68 (w - 1 + (gA g c - 1 - j)) = kS g c (M 68 (w - 1)) o j ∧ M3 69 (w - 1 + (gA g c - 1 - j)) = kI g c (M 68 (w - 1)) o j) → AW mX12_layValue 183 [some (vR 50), some (vI v1), some (vI v2), some (vI v3), some (vI (w - 1 + (gA g c - 1 - k))), some (vI (M 67 (w - 1))), some (vI (M 68 (w - 1))), some (vI o), some (vI c), some (vI k)] [] M3 (QV K) := by
      intro q
      induction q with
      | zero =>
        intro k M3 hq k0 k1 hF3 ho hk
        have ek : k = -1 := by omega
        subst ek
        have F3 : Fr [50, 65, 67, 68, 69, 70, 71] M M3 := ((F1.mono (by decide)).trans (hF2.mono (by decide))).trans (hF3.mono (by decide))
        have b50 : M3 50 = M1 50 := by rw [hF3 50 (by decide), hF2 50 (by decide)]
        have b65 : M3 65 = st1 (M 65) p c := by rw [hF3 65 (by decide), hF2 65 (by decide), a65]
        refine sg_X12_layValue_183 ⟨by decide, fun _ => ?_, fun z => absurd (by decide) z⟩
        rw [show w - 1 + (gA g c - 1 - -1) = w - 1 + gA g c by omega]
        let G' : Int → Int := fun e => if e < w - 1 then G e else p + 1 + ofs g c (M 68 (w - 1)) o (gA g c - 1 - (e - (w - 1)))
        have G'lo : ∀ e, e < w - 1 → G' e = G e := fun e l => by simp only [G', if_pos l]
        have G'hi : ∀ j, j ≤ gA g c - 1 → G' (w - 1 + (gA g c - 1 - j)) = p + 1 + ofs g c (M 68 (w - 1)) o j := fun j l => by
          simp only [G', if_neg (show ¬ w - 1 + (gA g c - 1 - j) < w - 1 by omega)]
          rw [show gA g c - 1 - (w - 1 + (gA g c - 1 - j) - (w - 1)) = j by omega]
        have Gm1 : G' (-1) = G (-1) := G'lo _ (by omega)
        have hLK : LK g (p + 1) M3 G' (w - 1 + gA g c) := by
          refine ⟨by omega, ?_, fun e e0 e1 => ?_⟩
          · by_cases z : gA g c = 0
            · rw [z, ofs_0] at hend
              rw [z, show w - 1 + 0 - 1 = w - 2 by omega, G'lo _ (by omega)]
              omega
            · rw [show w - 1 + gA g c - 1 = w - 1 + (gA g c - 1 - 0) by omega, G'hi 0 (by omega), ofs_0]
              omega
          · by_cases l : e < w - 1
            · have y := he e e0 (by omega)
              rw [(ho e l).1, (ho e l).2.1, (ho e l).2.2, G'lo e l, G'lo (e - 1) (by omega)]
              exact y
            · obtain ⟨j, rfl⟩ : ∃ j, e = w - 1 + (gA g c - 1 - j) := ⟨gA g c - 1 - (e - (w - 1)), by omega⟩
              have y := hk j (by omega) (by omega)
              have kv := kid j (by omega) (by omega)
              have st := ofs_step (g := g) (c := c) (s := M 68 (w - 1)) (o := o) (k := j) (by omega)
              rw [y.1, y.2.1, y.2.2, G'hi j (by omega)]
              refine ⟨kv.1, ?_⟩
              by_cases z : j = gA g c - 1
              · rw [z, show w - 1 + (gA g c - 1 - (gA g c - 1)) - 1 = w - 2 by omega, G'lo _ (by omega)]
                rw [z, show gA g c - 1 + 1 = gA g c by omega] at st
                omega
              · rw [show w - 1 + (gA g c - 1 - j) - 1 = w - 1 + (gA g c - 1 - (j + 1)) by omega, G'hi (j + 1) (by omega), st]
                omega
        refine ih M3 (p + 1) G' (w - 1 + gA g c) (by rw [Gm1]; omega) (by omega) (by rw [Gm1]; exact g1) (hX2.fr2 hF3 (by decide)) ?_ (by rw [b50]; exact a21) hLK (fun M' hF' u50 u21 u65 uP => ?_)
        · unfold MCnt
          rw [hF3 63 (by decide), hF3 64 (by decide), hF2 63 (by decide), hF2 64 (by decide)]
          exact hO1
        · refine kk M' (F3.trans hF') (fun f hf => by rw [u50 f hf, b50]; exact a50 f hf) (by rw [u21, Gm1]) (fun x hx => ?_) (fun e e0 e1 => ?_)
          · rw [u65 x (by omega), b65, st1_ne (by omega)]
          · by_cases l : e < w - 1
            · have y := uP e e0 (by omega)
              rw [(ho e l).1, (ho e l).2.1, (ho e l).2.2, G'lo e l] at y
              exact y
            · have ee : e = w - 1 := by omega
              subst ee
              rw [hp, show (M 68 (w - 1)).toNat = (M 68 (w - 1) - 1).toNat + 1 by omega]
              unfold Pr
              rw [hcc, hoo]
              refine ⟨by rw [u65 p (by omega), b65, st1_same], fun j j0 j1 => ?_⟩
              have y := uP (w - 1 + (gA g c - 1 - j)) (by omega) (by omega)
              have y2 := hk j (by omega) j1
              have kv := kid j j0 j1
              rw [y2.1, y2.2.1, y2.2.2, G'hi j (by omega)] at y
              exact Pr_le y _ (by omega)
      | succ q ihq =>
        intro k M3 hq k0 k1 hF3 ho hk
        have e53 := ((hX2.fr2 hF3 (by decide)).2.2 c r1.1 r1.2).2.2 k (by omega) k1
        have y := hk2 k (by omega) k1
        have rm : gA g c ≤ M 68 (w - 1) - 1 := by
          have z := (sl_ok (g := g) r3.1 r3.2 (gA g c).toNat (by omega)).2.2
          unfold ofs at hend
          omega
        refine sg_X12_layValue_183 ⟨by omega, fun z => by omega, fun _ => ⟨by omega, by omega, by omega, by omega, by omega, by omega, ?_⟩⟩
        rw [e53, hF3 70 (by decide), hF3 71 (by decide), y.1, y.2, show w - 1 + (gA g c - 1 - k) + 1 = w - 1 + (gA g c - 1 - (k + -1)) by omega]
        refine ihq (k + -1) _ (by omega) (by omega) (by omega) (((hF3.up (by decide)).up (by decide)).up (by decide)) (fun e l => ?_) (fun j j0 j1 => ?_)
        · rw [up_ne (show (67 : Nat) ≠ 69 by decide), up_ne (show (67 : Nat) ≠ 68 by decide), up_other (by omega), up_ne (show (68 : Nat) ≠ 69 by decide), up_other (by omega), up_ne (show (68 : Nat) ≠ 67 by decide), up_other (by omega), up_ne (show (69 : Nat) ≠ 68 by decide), up_ne (show (69 : Nat) ≠ 67 by decide)]
          exact ho e l
        · rw [up_ne (show (67 : Nat) ≠ 69 by decide), up_ne (show (67 : Nat) ≠ 68 by decide), up_ne (show (68 : Nat) ≠ 69 by decide)]
          by_cases e : j = k
          · subst e
            rw [up_same, up_same, up_same]
            exact ⟨rfl, rfl, rfl⟩
          · rw [up_other (by omega), up_other (by omega), up_other (by omega), up_ne (show (68 : Nat) ≠ 67 by decide), up_ne (show (69 : Nat) ≠ 68 by decide), up_ne (show (69 : Nat) ≠ 67 by decide)]
            exact hk j (by omega) j1
    have fin := loop _ (gA g c - 1) M2 rfl (by omega) (by omega) (Fr.refl _ _) (fun e l => ?_) (fun j j0 j1 => by omega)
    · rw [show w - 1 + (gA g c - 1 - (gA g c - 1)) = w - 1 by omega] at fin
      exact fin
    · rw [hF2 67 (by decide), hF2 68 (by decide), hF2 69 (by decide), F1 67 (by decide), F1 68 (by decide), F1 69 (by decide)]
      exact ⟨rfl, rfl, rfl⟩
end
