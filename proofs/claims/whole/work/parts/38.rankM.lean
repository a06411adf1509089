/-! ranks: the reference -/
section
variable {g : Sg} {d : Nd} {tg : Int → Int}
theorem c_blockOf {M : Mem} {K : Int → Mem → Prop} (hg : SgOK g) (hM : MCnt g M) {c k f l : Int} (hc : 0 ≤ c ∧ c < gN g) (hk : 0 ≤ k ∧ k < gA g c) (hf : 1 ≤ f ∧ f ≤ l ∧ l ≤ 11) (kk : K (cap (Cs g (gG g (c * 3 + k)) f * Ws g c (k + 1) (l - f))) M) : CI mX12_blockOf [vR 50, vI c, vI k, vI (gG g (c * 3 + k)), vI f, vI l] M K := by
  have hn := hg.n
  have ha := hg.a hc.1 hc.2
  have hgg := (hg.2.2 c hc.1 hc.2).2.2 k hk.1 hk.2
  have ht := hg.1
  have b9 := Cs_bd (g := g) (gG g (c * 3 + k)) f
  have b11 := Ws_bd (g := g) c (k + 1) (l - f)
  have bm := mul_bd b9 b11
  refine en_X12_blockOf (c_countOfM (by omega) (by omega) ?_)
  rw [hM.1 _ _ hgg.1 (by omega) (by omega) (by omega)]
  refine ⟨by omega, c_wayM ⟨by omega, ?_⟩⟩
  rw [hM.2 c (k + 1) (l - f) hc.1 hc.2 (by omega) (by omega) (by omega) (by omega)]
  exact ⟨by omega, c_capped (by omega) kk⟩
theorem c_rankNow {M : Mem} {K : Int → Mem → Prop} (hS : StOK g d tg) (hX : MMR g d tg M) (hM : MCnt g M) {n : Int} (h0 : 0 ≤ n) (h1 : n < nN d) (hs : 1 ≤ Sz g d tg n ∧ Sz g d tg n ≤ 12) (h75 : M 75 n = Sz g d tg n) (h75k : ∀ k, 0 ≤ k → k < pq g d n → M 75 (nK d (n * 3 + k)) = Sz g d tg (kq d tg n k)) (h76k : ∀ k, 0 ≤ k → k < pq g d n → M 76 (nK d (n * 3 + k)) = Rk g d tg (kq d tg n k)) (kk : K (Rk g d tg n) M) : CI mX12_rankNow [vR 50, vI n] M K := by
  obtain ⟨r, hG⟩ := hS.2.2.2
  have b := hS.2.1.1
  have hn := hS.1.n
  obtain ⟨hc, hz, hk⟩ := small_kids hS.2.1 hS.2.2.1 hG h0 h1 (show 1 ≤ Sz g d tg n ∧ Sz g d tg n ≤ 60 by omega)
  have hcn := (hS.2.1.con h0 h1 hc).1
  have ha := hS.1.a hc hcn
  have ep : pq g d n = gA g (nC d n) := by unfold pq; rw [if_neg (by omega)]
  have eR := Rk_eq hS.2.1 hS.2.2.1 hG h0 h1
  have e52 := (hX.1.2.2 _ hc hcn).2.1
  have e54 : M 54 n = nC d n := by
    rw [(hX.2.1.2 n h0 h1).2.1]
    unfold nv
    rw [if_neg (by omega)]
  have bR : ∀ x, 0 ≤ Rk g d tg x ∧ Rk g d tg x ≤ 1000000 := fun x => Rk_bd x
  have inner : ∀ (m : Nat) (a f j : Int), (Sz g d tg (kq d tg n j) - f).toNat = m → 0 ≤ j → j < pq g d n → 1 ≤ f → f ≤ Sz g d tg (kq d tg n j) → a = bsm g (nC d n) j (Sz g d tg n - szc (Sz g d tg) d tg n j.toNat) (ixk g d tg (Rk g d tg) n j.toNat) (f - 1).toNat →
      AW mX12_rankNow 84 [some (vR 50), some (vI n), some (vI (nC d n)), some (vL (ixk g d tg (Rk g d tg) n (j + 1).toNat)), none, some (vI (Sz g d tg n - szc (Sz g d tg) d tg n (j + 1).toNat)), some (vI (j + 1)), none, none, none] [] M (QI K) →
      AW mX12_rankNow 124 [some (vR 50), some (vI n), some (vI (nC d n)), some (vL a), none, some (vI (Sz g d tg n - szc (Sz g d tg) d tg n j.toNat)), some (vI j), some (vI (nK d (n * 3 + j))), some (vI (gG g (nC d n * 3 + j))), some (vI f)] [] M (QI K) := by
    intro m
    induction m with
    | zero =>
      intro a f j hm j0 j1 f0 f1 ea go
      have w := hk j j0 j1
      have kd := (hS.2.1.kid h0 h1 hc ⟨j0, by omega⟩).1
      have ef : f = Sz g d tg (kq d tg n j) := by omega
      have ba := bsm_bd (g := g) (c := nC d n) (k := j) (lft := Sz g d tg n - szc (Sz g d tg) d tg n j.toNat) (ixk_bd (g := g) (d := d) (tg := tg) (n := n) bR j.toNat) (f - 1).toNat
      rw [← ea] at ba
      have hw := hM.2 (nC d n) (j + 1) (Sz g d tg n - szc (Sz g d tg) d tg n j.toNat - Sz g d tg (kq d tg n j)) hc hcn (by omega) (by omega) (by omega) (by omega)
      have bW := Ws_bd (g := g) (nC d n) (j + 1) (Sz g d tg n - szc (Sz g d tg) d tg n j.toNat - Sz g d tg (kq d tg n j))
      have br := bR (kq d tg n j)
      have bm := mul_bd br bW
      refine sg_X12_rankNow_124 ?_
      rw [h75k j j0 j1, h76k j j0 j1]
      refine ⟨by omega, by omega, fun _ => ⟨by omega, by omega, by omega, c_wayM ⟨by omega, ?_⟩⟩, fun z => by omega⟩
      rw [hw]
      have bc := cap_nn (show 0 ≤ a + Rk g d tg (kq d tg n j) * Ws g (nC d n) (j + 1) (Sz g d tg n - szc (Sz g d tg) d tg n j.toNat - Sz g d tg (kq d tg n j)) by omega)
      have bc2 := cap_le (a + Rk g d tg (kq d tg n j) * Ws g (nC d n) (j + 1) (Sz g d tg n - szc (Sz g d tg) d tg n j.toNat - Sz g d tg (kq d tg n j)))
      refine ⟨by omega, c_capped (by omega) ⟨by omega, ?_⟩⟩
      rw [ixk_step j0, ← ef, ← ea, w.2.1, ← ef, show Sz g d tg n - (szc (Sz g d tg) d tg n j.toNat + f) = Sz g d tg n - szc (Sz g d tg) d tg n j.toNat - f by omega, cap_add_cap ba.1] at go
      rw [← ef]
      exact go
    | succ m ih =>
      intro a f j hm j0 j1 f0 f1 ea go
      have w := hk j j0 j1
      have kd := (hS.2.1.kid h0 h1 hc ⟨j0, by omega⟩).1
      have ba := bsm_bd (g := g) (c := nC d n) (k := j) (lft := Sz g d tg n - szc (Sz g d tg) d tg n j.toNat) (ixk_bd (g := g) (d := d) (tg := tg) (n := n) bR j.toNat) (f - 1).toNat
      rw [← ea] at ba
      have b9 := Cs_bd (g := g) (gG g (nC d n * 3 + j)) f
      have b11 := Ws_bd (g := g) (nC d n) (j + 1) (Sz g d tg n - szc (Sz g d tg) d tg n j.toNat - f)
      have bc := cap_nn (Int.mul_nonneg b9.1 b11.1)
      have bc2 := cap_le (Cs g (gG g (nC d n * 3 + j)) f * Ws g (nC d n) (j + 1) (Sz g d tg n - szc (Sz g d tg) d tg n j.toNat - f))
      refine sg_X12_rankNow_124 ?_
      rw [h75k j j0 j1]
      refine ⟨by omega, by omega, fun z => by omega, fun _ => c_blockOf hS.1 hM ⟨hc, hcn⟩ (by omega) (by omega) ⟨by omega, c_capped (by omega) ?_⟩⟩
      have e1 := bsm_step (g := g) (c := nC d n) (k := j) (lft := Sz g d tg n - szc (Sz g d tg) d tg n j.toNat) (a := ixk g d tg (Rk g d tg) n j.toNat) (m := f - 1) (by omega)
      rw [show f - 1 + 1 = f by omega, ← ea] at e1
      have ba2 := bsm_bd (g := g) (c := nC d n) (k := j) (lft := Sz g d tg n - szc (Sz g d tg) d tg n j.toNat) (ixk_bd (g := g) (d := d) (tg := tg) (n := n) bR j.toNat) f.toNat
      rw [← e1]
      refine ⟨by omega, ih _ (f + 1) j (by omega) j0 j1 (by omega) (by omega) ?_ go⟩
      rw [show f + 1 - 1 = f by omega]
  have outer : ∀ (m : Nat) (a l j : Int), (pq g d n - j).toNat = m → 0 ≤ j → j ≤ pq g d n → a = ixk g d tg (Rk g d tg) n j.toNat → l = Sz g d tg n - szc (Sz g d tg) d tg n j.toNat → AW mX12_rankNow 84 [some (vR 50), some (vI n), some (vI (nC d n)), some (vL a), none, some (vI l), some (vI j), none, none, none] [] M (QI K) := by
    intro m
    induction m with
    | zero =>
      intro a l j hm j0 j1 ea el
      refine sg_X12_rankNow_84 ?_
      rw [e52]
      refine ⟨by omega, by omega, fun _ => ?_, fun z => by omega⟩
      rw [ea, show j = pq g d n by omega, ← eR]
      exact kk
    | succ m ih =>
      intro a l j hm j0 j1 ea el
      have w := hk j j0 (by omega)
      have e56 := (hX.2.1.2 n h0 h1).2.2 hc j j0 (by omega)
      have e53 := (hX.1.2.2 _ hc hcn).2.2 j j0 (by omega)
      refine sg_X12_rankNow_84 ?_
      rw [e52, e56, e53]
      refine ⟨by omega, by omega, fun z => by omega, fun _ => ⟨by omega, by omega, ?_⟩⟩
      rw [el]
      exact inner _ a 1 j rfl j0 (by omega) (by omega) (by omega) ea (ih _ _ (j + 1) (by omega) (by omega) (by omega) rfl rfl)
  have first : ∀ (m : Nat) (a i : Int), (nC d n - i).toNat = m → 0 ≤ i → i ≤ nC d n → a = csm (fun x => if gR g x = gR g (nC d n) then Ws g x 0 (Sz g d tg n - 1) else 0) i.toNat → AW mX12_rankNow 12 [some (vR 50), some (vI n), some (vI (nC d n)), some (vL a), none, some (vI i), none, none, none, none] [] M (QI K) := by
    intro m
    induction m with
    | zero =>
      intro a i hm i0 i1 ea
      refine sg_X12_rankNow_12 ?_
      rw [h75]
      refine ⟨by omega, fun _ => ⟨by omega, ?_⟩, fun z => by omega⟩
      refine outer _ _ _ 0 rfl (by omega) (by omega) ?_ rfl
      rw [ea, show i = nC d n by omega]
      rfl
    | succ m ih =>
      intro a i hm i0 i1 ea
      have e51 := (hX.1.2.2 i i0 (by omega)).1
      have e51c := (hX.1.2.2 _ hc hcn).1
      have r1 := hS.1.r i0 (show i < gN g by omega)
      have r2 := hS.1.r hc hcn
      have ba : 0 ≤ a ∧ a ≤ 1000000 := by
        rw [ea]
        refine csm_bd (fun x hx => ?_)
        split
        · exact (Ws_bd _ _ _).1
        · omega
      refine sg_X12_rankNow_12 ?_
      rw [e51, e51c, h75]
      refine ⟨by omega, fun z => by omega, fun _ => ⟨by omega, by omega, by omega, fun z => c_capped (by omega) ?_, fun z => ⟨by omega, c_wayM ⟨by omega, ?_⟩⟩⟩⟩
      · rw [Int.add_zero, cap_id ba.2]
        refine ⟨by omega, ih _ (i + 1) (by omega) (by omega) (by omega) ?_⟩
        rw [csm_step i0, show ((i.toNat : Nat) : Int) = i by omega, if_neg z, Int.add_zero, ← ea, cap_id ba.2]
      · have hw := hM.2 i 0 (Sz g d tg n - 1) i0 (by omega) (by omega) (hS.1.a i0 (by omega)).1 (by omega) (by omega)
        rw [hw]
        have bW := Ws_bd (g := g) i 0 (Sz g d tg n - 1)
        have bc := cap_nn (show 0 ≤ a + Ws g i 0 (Sz g d tg n - 1) by omega)
        have bc2 := cap_le (a + Ws g i 0 (Sz g d tg n - 1))
        refine ⟨by omega, c_capped (by omega) ⟨by omega, ih _ (i + 1) (by omega) (by omega) (by omega) ?_⟩⟩
        rw [csm_step i0, show ((i.toNat : Nat) : Int) = i by omega, if_pos (Decidable.not_not.mp z), ← ea]
  refine en_X12_rankNow ⟨by omega, ?_⟩
  rw [e54]
  exact first _ 0 0 rfl (by omega) (by omega) rfl
theorem c_layRanks {M : Mem} {K : Mem → Prop} (hS : StOK g d tg) (hX : MMR g d tg M) (h75 : ∀ n, 0 ≤ n → n < nN d → M 75 n = zz (Sz g d tg (re tg n))) (kk : ∀ M', Fr [63, 64, 76] M M' → (∀ n, 0 ≤ n → n < nN d → 1 ≤ Sz g d tg (re tg n) → Sz g d tg (re tg n) ≤ 12 → M' 76 n = Rk g d tg (re tg n)) → K M') : CV mX12_layRanks [vR 50] M K := by
  obtain ⟨r, hG⟩ := hS.2.2.2
  have b := hS.2.1.1
  refine en_X12_layRanks (c_layCounts hS.1 hX.1 (fun M1 hF1 hM => ?_))
  have inner : ∀ (m : Nat) (M2 : Mem) (s i : Int), (nN d - i).toNat = m → 1 ≤ s → s ≤ 12 → 0 ≤ i → i ≤ nN d → Fr [76] M1 M2 → (∀ n, 0 ≤ n → n < nN d → 1 ≤ Sz g d tg (re tg n) → (Sz g d tg (re tg n) < s ∨ (Sz g d tg (re tg n) = s ∧ n < i)) → M2 76 n = Rk g d tg (re tg n)) →
      (∀ M3, Fr [76] M1 M3 → (∀ n, 0 ≤ n → n < nN d → 1 ≤ Sz g d tg (re tg n) → (Sz g d tg (re tg n) < s + 1 ∨ (Sz g d tg (re tg n) = s + 1 ∧ n < 0)) → M3 76 n = Rk g d tg (re tg n)) → AW mX12_layRanks 6 [some (vR 50), some (vI (s + 1)), none] [] M3 (QV K)) → AW mX12_layRanks 14 [some (vR 50), some (vI s), some (vI i)] [] M2 (QV K) := by
    intro m
    induction m with
    | zero =>
      intro M2 s i hm s0 s1 i0 i1 hF hR go
      have e5 : M2 50 5 = nN d := by rw [hF 50 (by decide), hF1 50 (by decide)]; exact hX.2.1.1
      refine sg_X12_layRanks_14 ⟨by rw [e5]; omega, fun _ => go M2 hF (fun n n0 n1 n2 n3 => hR n n0 n1 n2 (by omega)), fun z => by rw [e5] at z; omega⟩
    | succ m ih =>
      intro M2 s i hm s0 s1 i0 i1 hF hR go
      have e5 : M2 50 5 = nN d := by rw [hF 50 (by decide), hF1 50 (by decide)]; exact hX.2.1.1
      have e75 : M2 75 = M 75 := by rw [hF 75 (by decide), hF1 75 (by decide)]
      have hX2 : MMR g d tg M2 := (hX.fr hF1 (by decide)).fr hF (by decide)
      have bS := Sz_bd (g := g) (d := d) (tg := tg) (re tg i)
      have hin := re_in hS.2.2.1 hG i0 (show i < nN d by omega)
      have zi := h75 i i0 (by omega)
      have bzi : -1 ≤ zz (Sz g d tg (re tg i)) ∧ zz (Sz g d tg (re tg i)) ≤ 1000000 := by unfold zz; split <;> omega
      refine sg_X12_layRanks_14 ⟨by rw [e5]; omega, fun z => by rw [e5] at z; omega, fun _ => ⟨by omega, ?_⟩⟩
      rw [e75, zi]
      refine ⟨by omega, fun z => sg_X12_layRanks_47 (ih M2 s (i + 1) (by omega) s0 s1 (by omega) (by omega) hF (fun n n0 n1 n2 n3 => ?_) go), fun z => ?_⟩
      · by_cases e : n = i
        · subst e
          by_cases l : Sz g d tg (re tg n) < s
          · exact hR n n0 n1 n2 (Or.inl l)
          · exfalso
            apply z
            unfold zz
            rw [if_neg (by omega)]
            omega
        · exact hR n n0 n1 n2 (by omega)
      · have es : Sz g d tg (re tg i) = s := by
          have z := Decidable.not_not.mp z
          unfold zz at z
          split at z <;> omega
        have rr := re_re hS.2.2.1 hG i0 (show i < nN d by omega)
        have sk := small_kids hS.2.1 hS.2.2.1 hG hin.1 hin.2 (show 1 ≤ Sz g d tg (re tg i) ∧ Sz g d tg (re tg i) ≤ 60 by omega)
        refine c_resolved hS hX2 i0 (by omega) (c_rankNow hS hX2 ⟨?_, ?_⟩ hin.1 hin.2 (by omega) ?_ (fun k k0 k1 => ?_) (fun k k0 k1 => ?_) ⟨by omega, sg_X12_layRanks_47 (ih _ s (i + 1) (by omega) s0 s1 (by omega) (by omega) (hF.up (by decide)) (fun n n0 n1 n2 n3 => ?_) go)⟩)
        · rw [hF 63 (by decide)]; exact hM.1
        · rw [hF 64 (by decide)]; exact hM.2
        · rw [e75, h75 _ hin.1 hin.2, rr]
          unfold zz
          rw [if_neg (by omega)]
        · have pp := pq_pos ⟨k0, k1⟩
          have kd := (hS.2.1.kid hin.1 hin.2 pp.1 ⟨k0, pp.2⟩).1
          have w := sk.2.2 k k0 k1
          rw [e75, h75 _ kd.1 (by omega)]
          unfold zz
          rw [if_neg]
          · rfl
          · show ¬ Sz g d tg (kq d tg (re tg i) k) = -9
            omega
        · have pp := pq_pos ⟨k0, k1⟩
          have kd := (hS.2.1.kid hin.1 hin.2 pp.1 ⟨k0, pp.2⟩).1
          have w := sk.2.2 k k0 k1
          have w1 : 1 ≤ Sz g d tg (re tg (nK d (re tg i * 3 + k))) := w.2.2.1
          have w2 : Sz g d tg (re tg (nK d (re tg i * 3 + k))) < s := by
            show Sz g d tg (kq d tg (re tg i) k) < s
            omega
          exact hR _ kd.1 (by omega) w1 (Or.inl w2)
        · by_cases e : n = i
          · rw [e, up_same]
          · rw [up_other e]
            exact hR n n0 n1 n2 (by omega)
  have outer : ∀ (m : Nat) (M2 : Mem) (s : Int), (13 - s).toNat = m → 1 ≤ s → s ≤ 13 → Fr [76] M1 M2 → (∀ n, 0 ≤ n → n < nN d → 1 ≤ Sz g d tg (re tg n) → (Sz g d tg (re tg n) < s ∨ (Sz g d tg (re tg n) = s ∧ n < 0)) → M2 76 n = Rk g d tg (re tg n)) → AW mX12_layRanks 6 [some (vR 50), some (vI s), none] [] M2 (QV K) := by
    intro m
    induction m with
    | zero =>
      intro M2 s hm s0 s1 hF hR
      exact sg_X12_layRanks_6 ⟨by omega, fun _ => kk M2 ((hF1.mono (by decide)).trans (hF.mono (by decide))) (fun n n0 n1 n2 n3 => hR n n0 n1 n2 (by omega)), fun z => by omega⟩
    | succ m ih =>
      intro M2 s hm s0 s1 hF hR
      exact sg_X12_layRanks_6 ⟨by omega, fun z => by omega, fun _ => inner _ M2 s 0 rfl s0 (by omega) (by omega) (by omega) hF hR (fun M3 hF3 hR3 => ih M3 (s + 1) (by omega) (by omega) (by omega) hF3 hR3)⟩
  exact outer _ M1 1 rfl (by omega) (by omega) (Fr.refl _ _) (fun n n0 n1 n2 n3 => by omega)
end
section
variable {c : Nat} {M : Mem} {K : Int → Mem → Prop}
theorem op_rank (h : Inv c M) (hc5 : c < 1000) {v : Int} (hv : InR v) (kk : ∀ r M1, Then mX12_rank [vR 50, vI v] c r M1 → K r M1) : CI mX11_rank [vR 0, vI v] M K := by
  obtain ⟨g, d, tg, hC, hc⟩ := h
  have hI : Inv (c + 1) M := ⟨g, d, tg, hC, hc.up⟩
  obtain ⟨⟨f1, f2, f3, f4, f5, f6⟩, b1, b2, b3⟩ := hC.facts
  have hc1 := hc.1
  have bS := fun v => Sz_bd (g := g) (d := d) (tg := tg) (re tg v)
  refine en_X11_rank (c_contains hv (by omega) (fun q => ⟨by decide, fun _ => c_measure hC.1 hC.2.1 (by omega) hc.2.2.2.1 q.1 (by omega) (fun M1 hF e3 hW ht hcl h23 => ?_), fun z => absurd (by decide) z⟩) (fun q => ⟨by decide, fun z => absurd rfl z, fun _ => kk _ M ⟨by decide, fun K2 k2 => en_X12_rank (c_isNode hv (by omega) (fun q2 => absurd (show 0 ≤ v ∧ v < M 12 1 by omega) q) (fun q2 => ⟨by decide, fun z => absurd rfl z, fun _ => k2 M hI⟩))⟩⟩))
  have bv := bS v
  have hc2 : Ctr (c + 1) M1 := hc.walk (fun x hx => hF x (by revert hx; revert x; decide)) (by omega) hW.2.1
  -- the reference
  have ref : ∀ (M2 : Mem) (K2 : Int → Mem → Prop), Fr [23, 24, 26, 27, 28, 29, 30, 31] M M2 → Ctr (c + 1) M2 → (∀ M3, Inv (c + 1) M3 → K2 (if Sz g d tg (re tg v) = -9 then -9 else if 12 < Sz g d tg (re tg v) then -10 else if Rk g d tg (re tg v) < 1000000 then Rk g d tg (re tg v) else -10) M3) → CI mX12_rank [vR 50, vI v] M2 K2 := by
    intro M2 K2 hF2 hcc k2
    have hC2 := hC.keep (Keep.of hF2 (by decide))
    have e50 : M2 50 = M 50 := hF2 50 (by decide)
    refine en_X12_rank (c_isNode hv (by rw [e50]; omega) (fun q2 => ⟨by decide, fun _ => c_laySizes hC2.1 hC2.2.2.1 (fun M3 hF3 h75 => ⟨by omega, ?_⟩), fun z => absurd (by decide) z⟩) (fun q2 => absurd (show 0 ≤ v ∧ v < M2 50 5 by rw [e50]; omega) q2))
    have hC3 := hC2.keep (Keep.of hF3 (by decide))
    have k3 := k2 M3 ⟨g, d, tg, hC3, hcc.fr hF3 (by decide)⟩
    rw [h75 v q.1 (by omega)]
    unfold zz
    by_cases e : Sz g d tg (re tg v) = -9
    · rw [if_pos e] at k3 ⊢
      exact ⟨by decide, fun z => absurd z (by decide), fun _ => k3⟩
    · rw [if_neg e] at k3 ⊢
      refine ⟨by omega, fun _ => ⟨by omega, by omega, fun z => c_layRanks hC3.1 hC3.2.2.1 h75 (fun M4 hF4 h76 => ⟨by omega, ?_⟩), fun z => by rw [if_pos (by omega)] at k3; exact k3⟩, fun z => by omega⟩
      have bR := Rk_bd (g := g) (d := d) (tg := tg) (re tg v)
      have k4 := k2 M4 ⟨g, d, tg, hC3.keep (Keep.of hF4 (by decide)), (hcc.fr hF3 (by decide)).fr hF4 (by decide)⟩
      rw [if_neg e, if_neg (by omega)] at k4
      rw [h76 v q.1 (by omega) (by omega) z]
      refine ⟨by omega, fun y => ⟨by omega, ?_⟩, fun y => ?_⟩
      · rw [if_pos y] at k4; exact k4
      · rw [if_neg y] at k4; exact k4
  have hF8 : Fr [23, 24, 26, 27, 28, 29, 30, 31] M M1 := hF.mono (by decide)
  refine ⟨by omega, fun z => ⟨by omega, fun z2 => ?_, fun z2 => kk _ M1 ⟨by decide, fun K2 k2 => ref M1 K2 hF8 hc2 (fun M3 h3 => ?_)⟩⟩, fun z => kk _ M1 ⟨by decide, fun K2 k2 => ref M1 K2 hF8 hc2 (fun M3 h3 => ?_)⟩⟩
  · refine c_indexAmong hC.1 (hC.2.1.fr hF (by decide)) (hC.2.2.2.2.1.fr hF (by decide)) hW q.1 (by omega) ht hcl h23 (by omega) (fun M2 hF2 => ?_)
    have bR := Rk_bd (g := g) (d := d) (tg := tg) (re tg v)
    have hF9 : Fr [23, 24, 26, 27, 28, 29, 30, 31] M M2 := hF8.trans (hF2.mono (by decide))
    refine ⟨by omega, fun y => kk _ M2 ⟨by omega, fun K2 k2 => ref M2 K2 hF9 (hc2.fr hF2 (by decide)) (fun M3 h3 => ?_)⟩, fun y => kk _ M2 ⟨by decide, fun K2 k2 => ref M2 K2 hF9 (hc2.fr hF2 (by decide)) (fun M3 h3 => ?_)⟩⟩
    · rw [if_neg z, if_neg (by omega), if_pos y]; exact k2 M3 h3
    · rw [if_neg z, if_neg (by omega), if_neg y]; exact k2 M3 h3
  · rw [if_neg z, if_pos (by omega)]; exact k2 M3 h3
  · rw [if_pos (Decidable.not_not.mp z)]; exact k2 M3 h3
end
