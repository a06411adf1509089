section
variable {g : Sg} {d : Nd} {tg : Int → Int} {W z : Int → Int} {N : Int} {M0 : Mem} {Rp : Int → Int → Int → Prop}
theorem c_fitsAtRoot_b {M : Mem} {K : Int → Mem → Prop} (hC : RpC mX8_isBuiltBy mX8_split 8 g W z N M0 Rp) (hS : StOK g d tg) (hX : XR g d tg M0) (hF : Fr fitS M0 M) {n i x w num : Int} (n0 : 0 ≤ n) (n1 : n < nN d) (hR : Rp i x (nY d n)) (ew : M 43 8 = w) (w0 : 0 ≤ w) (w1 : W x = nC d n → w + pq g d n ≤ 60) (en : M 43 3 = num) (b3 : InR num) (b45 : InR (M 45 n)) (b46 : nC d n < 0 → M 45 n = num → InR (M 46 n))
    (kv1 : nC d n < 0 → M 45 n ≠ num → K 1 (up (up M 45 n num) 46 n i)) (kv2 : nC d n < 0 → M 45 n = num → M 46 n = i → K 1 M) (kv3 : nC d n < 0 → M 45 n = num → M 46 n ≠ i → K 0 M) (kc0 : 0 ≤ nC d n → W x ≠ nC d n → K 0 M)
    (kc1 : 0 ≤ nC d n → W x = nC d n → ∀ M', Fr [43, 47, 48, 49] M M' → (∀ f : Int, f ≠ 8 → M' 43 f = M 43 f) → M' 43 8 = w + pq g d n → (∀ e, 0 ≤ e → e < w → M' 47 e = M 47 e ∧ M' 48 e = M 48 e) → (∀ k, 0 ≤ k → k < pq g d n → M' 47 (w + k) = nK d (n * 3 + k) ∧ Rp (M' 48 (w + k)) (kst z x k.toNat) (gG g (nC d n * 3 + k))) → K 1 M') : CI mX2_fitsAtRoot [vR 43, vI n, vR 8, vI i] M K := by
  have bn := hS.2.1.1
  have hX1 : XR g d tg M := hX.fr hF (by decide)
  have e14 : M 14 = nC d := hX1.2.1.2.2.1
  have hcb := hS.2.1.cbd hS.1 n0 n1
  have hi := (hC.1 i x _ hR).2
  refine en_X2_fitsAtRoot_b (c_isVariable (by omega) (by rw [e14]; omega) (fun y => ⟨by decide, fun q => absurd q (by decide), fun _ => en_X2_fitsVariable ?_⟩) (fun y => ⟨by decide, fun _ => ⟨by omega, ?_⟩, fun q => absurd rfl q⟩))
  · rw [e14] at y
    rw [en]
    refine ⟨by omega, ⟨b45, b3⟩, fun q => ⟨by omega, by omega, Or.inr rfl, kv1 (by omega) q⟩, fun q => ⟨by omega, ⟨b46 (by omega) (Decidable.not_not.mp q), hi⟩, fun q2 => ⟨Or.inl rfl, kv3 (by omega) (Decidable.not_not.mp q) q2⟩, fun q2 => ⟨Or.inr rfl, kv2 (by omega) (Decidable.not_not.mp q) (Decidable.not_not.mp q2)⟩⟩⟩
  · rw [e14] at y ⊢
    have c0 : 0 ≤ nC d n := by omega
    have hcon := hS.2.1.con n0 n1 c0
    have ep : pq g d n = gA g (nC d n) := by unfold pq; rw [if_neg (by omega)]
    have hp := pq_bd hS.1 hS.2.1 n0 n1
    refine hC.2.2.1 M _ i x (nY d n) (nC d n) hF hR c0 hcon.1 hcon.2.symm (fun q => ⟨by decide, fun _ => ?_, fun z => absurd (by decide) z⟩) (fun q => ⟨by decide, fun z => absurd rfl z, fun _ => kc0 c0 q⟩)
    have w1 := w1 q
    have sp := hC.2.2.2 M
    rw [← q]
    refine hC.2.2.2 M _ i x (nY d n) hF hR (fun M1 hF1 hk => ?_)
    rw [q] at hk ⊢
    have loop : ∀ (m : Nat) (k : Int) (M2 : Mem), (pq g d n - k).toNat = m → 0 ≤ k → k ≤ pq g d n → Fr [43, 47, 48, 49] M M2 → M2 49 = M1 49 → (∀ f : Int, f ≠ 8 → M2 43 f = M 43 f) → M2 43 8 = w + k → (∀ e, 0 ≤ e → e < w → M2 47 e = M 47 e ∧ M2 48 e = M 48 e) → (∀ j, 0 ≤ j → j < k → M2 47 (w + j) = nK d (n * 3 + j) ∧ M2 48 (w + j) = M1 49 j) → AW mX2_fitsAtRoot 59 [some (vR 43), some (vI n), some (vR 8), some (vI i), some (vI (nC d n)), some (vI k)] [] M2 (QI K) := by
      intro m
      induction m with
      | zero =>
        intro k M2 hm k0 k1 hF2 e49 e43 e8 he hj
        have hX2 : XR g d tg M2 := hX1.fr hF2 (by decide)
        refine sg_X2_fitsAtRoot_b_59 (c_partTotal hS hX2 n0 n1 ⟨by omega, fun _ => kc1 c0 q M2 hF2 e43 (by omega) he (fun j j0 j1 => ?_), fun z => by omega⟩)
        have := hj j j0 (by omega)
        exact ⟨this.1, by rw [this.2]; exact hk j j0 (by omega)⟩
      | succ m ih =>
        intro k M2 hm k0 k1 hF2 e49 e43 e8 he hj
        have hX2 : XR g d tg M2 := hX1.fr hF2 (by decide)
        have e15 : M2 15 = nK d := hX2.2.1.2.2.2
        refine sg_X2_fitsAtRoot_b_59 (c_partTotal hS hX2 n0 n1 ⟨by omega, fun z => by omega, fun _ => ⟨by omega, by omega, c_await e8 (by omega) (by omega) ?_⟩⟩)
        rw [e15, e49]
        have f47 : ∀ e, e ≠ w + k → up (up (up M2 47 (w + k) (nK d (n * 3 + k))) 48 (w + k) (M1 49 k)) 43 8 (w + k + 1) 47 e = M2 47 e := fun e h => by rw [up_ne (by decide), up_ne (by decide), up_other h]
        have f48 : ∀ e, e ≠ w + k → up (up (up M2 47 (w + k) (nK d (n * 3 + k))) 48 (w + k) (M1 49 k)) 43 8 (w + k + 1) 48 e = M2 48 e := fun e h => by rw [up_ne (by decide), up_other h, up_ne (by decide)]
        have s47 : up (up (up M2 47 (w + k) (nK d (n * 3 + k))) 48 (w + k) (M1 49 k)) 43 8 (w + k + 1) 47 (w + k) = nK d (n * 3 + k) := by rw [up_ne (by decide), up_ne (by decide), up_same]
        have s48 : up (up (up M2 47 (w + k) (nK d (n * 3 + k))) 48 (w + k) (M1 49 k)) 43 8 (w + k + 1) 48 (w + k) = M1 49 k := by rw [up_ne (by decide), up_same]
        rw [show n * 3 + k = n * 3 + k from rfl]
        refine ih (k + 1) _ (by omega) (by omega) (by omega) (((hF2.up (by decide)).up (by decide)).up (by decide)) ?_ (fun f hf => ?_) ?_ (fun e e0 e1 => ?_) (fun j j0 j1 => ?_)
        · rw [up_ne (by decide), up_ne (by decide), up_ne (by decide)]; exact e49
        · rw [up_other hf, up_ne (by decide), up_ne (by decide)]; exact e43 f hf
        · rw [up_same]; omega
        · rw [f47 e (by omega), f48 e (by omega)]; exact he e e0 e1
        · by_cases ej : j = k
          · rw [ej]; exact ⟨s47, s48⟩
          · rw [f47 _ (by omega), f48 _ (by omega)]; exact hj j j0 (by omega)
    exact loop _ 0 M1 rfl (by omega) (by omega) (hF1.mono (by decide)) rfl (fun f _ => by rw [hF1 43 (by decide)]) (by rw [hF1 43 (by decide)]; omega) (fun e _ _ => by rw [hF1 47 (by decide), hF1 48 (by decide)]; exact ⟨rfl, rfl⟩) (fun j j0 j1 => by omega)
theorem c_fits_b {M : Mem} {K : Int → Mem → Prop} (hC : RpC mX8_isBuiltBy mX8_split 8 g W z N M0 Rp) (hS : StOK g d tg) (hX : XR g d tg M0) (hR : Rw g W N z) (z0 : z 0 = N) (N0 : 1 ≤ N) (N1 : N ≤ 60) (hF : Fr fitS M0 M) {v i : Int} (v0 : 0 ≤ v) (v1 : v < nN d) (hi : Rp i 0 (nY d v)) (b3 : 0 ≤ M 43 3 ∧ M 43 3 < 1000000000) (b45 : ∀ n, 0 ≤ n → n < 100 → 0 ≤ M 45 n ∧ M 45 n ≤ M 43 3)
    (k1 : ∀ M', FtP M0 M M' → Mt g d tg W z (re tg v) → K 1 M') (k0 : ∀ M', FtP M0 M M' → ¬ Mt g d tg W z (re tg v) → K 0 M') : CI mX2_fits [vR 43, vI v, vR 8, vI i] M K := by
  obtain ⟨r, hG⟩ := hS.2.2.2
  have bn := hS.2.1.1
  have loop : ∀ (m : Nat) (M1 : Mem) (w s : Int) (X : Int → Int) (D : Int → Int → Prop), (hs z X w.toNat).toNat = m → 0 ≤ s → s + hs z X w.toNat ≤ 60 → FtP M0 M M1 → M1 43 8 = w → 0 ≤ w → (∀ e, 0 ≤ e → e < w → (0 ≤ M1 47 e ∧ M1 47 e < nN d) ∧ Rp (M1 48 e) (X e) (nY d (M1 47 e))) → MI g d tg W z (re tg v) D (QM tg (M1 47) w X) → GX d (M 43 3 + 1) Rp D (M1 45) (M1 46) → AW mX2_fits 27 [some (vR 43), some (vI v), some (vR 8), some (vI i), some (vI 1), some (vI s)] [] M1 (QI K) := by
    intro m
    induction m using Nat.strongRecOn with
    | _ m ih =>
      intro M1 w s X D hm s0 s1 hP ew w0 hA hI hV
      have hge := hs_ge (z := z) (X := X) w.toNat (fun e e0 e1 => by
        have q := (hC.1 _ _ _ (hA e e0 (by omega)).2).1
        exact (hR.kids q.1 q.2).2.1.1)
      by_cases w00 : w = 0
      · refine sg_X2_fits_b_27 ⟨by decide, fun y => absurd y (by decide), fun _ => ?_⟩
        rw [ew]
        refine ⟨by omega, fun _ => ⟨Or.inr rfl, k1 M1 hP (hI.mt ?_ ?_)⟩, fun y => by omega⟩
        · intro a b ⟨e, he, _⟩
          omega
        · intro u x y hx hy c0
          exact (hC.2.1 _ _ x y _ (hV.2 u x hx c0).2 (hV.2 u y hy c0).2).mp rfl
      · refine sg_X2_fits_b_27 ⟨by decide, fun y => absurd y (by decide), fun _ => ?_⟩
        rw [ew]
        refine ⟨by omega, fun y => by omega, fun _ => ⟨by omega, fun y => by omega, fun _ => ⟨by omega, ?_⟩⟩⟩
        obtain ⟨hF1, e43, en, c45⟩ := hP
        have hX1 : XR g d tg M1 := hX.fr hF1 (by decide)
        have F2 : Fr fitS M0 (up M1 43 8 (w - 1)) := hF1.up (by decide)
        have qA := hA (w - 1) (by omega) (by omega)
        have qn := re_in hS.2.2.1 hG qA.1.1 qA.1.2
        have qy := re_ty hS.2.2.1 hG qA.1.1 qA.1.2
        have ex := (hC.1 _ _ _ qA.2).1
        have hk := hR.kids ex.1 ex.2
        obtain ⟨p1, p2, p3⟩ := QM.pop (tg := tg) (A := M1 47) (G := X) (show 0 < w by omega)
        have eh : hs z X w.toNat = hs z X (w - 1).toNat + z (X (w - 1)) := by
          rw [show w.toNat = (w - 1).toNat + 1 by omega]
          show hs z X (w - 1).toNat + z (X ((w - 1).toNat : Int)) = _
          rw [show (((w - 1).toNat : Nat) : Int) = w - 1 by omega]
        have u8 : up M1 43 8 (w - 1) 43 8 = w - 1 := up_same
        have u43 : ∀ f : Int, f ≠ 8 → up M1 43 8 (w - 1) 43 f = M1 43 f := fun f hf => up_other hf
        have u45 : up M1 43 8 (w - 1) 45 = M1 45 := up_ne (by decide)
        have u46 : up M1 43 8 (w - 1) 46 = M1 46 := up_ne (by decide)
        have u47 : up M1 43 8 (w - 1) 47 = M1 47 := up_ne (by decide)
        have u48 : up M1 43 8 (w - 1) 48 = M1 48 := up_ne (by decide)
        refine c_resolve hS (hX.fr F2 (by decide)) qA.1.1 qA.1.2 ⟨by rw [u8]; omega, ?_⟩
        rw [u8, u48]
        have ge2 := hs_ge (z := z) (X := X) (w - 1).toNat (fun e e0 e1 => by
          have q := (hC.1 _ _ _ (hA e e0 (by omega)).2).1
          exact (hR.kids q.1 q.2).2.1.1)
        generalize hM2 : up M1 43 8 (w - 1) = M2 at *
        generalize hn : re tg (M1 47 (w - 1)) = n at *
        generalize hx : X (w - 1) = x at *
        generalize hid : M1 48 (w - 1) = id at *
        have hRn : Rp id x (nY d n) := by rw [qy]; exact qA.2
        have hP2 : FtP M0 M M2 := by
          refine ⟨F2, fun f f3 f8 => ?_, ?_, ?_⟩
          · rw [u43 f f8]; exact e43 f f3 f8
          · rw [u43 3 (by decide)]; exact en
          · rw [u45, u43 3 (by decide)]; exact c45
        have en2 : M2 43 3 = M 43 3 + 1 := hP2.2.2.1
        have fail : ∀ Mx, FtP M0 M Mx → ¬ Mt g d tg W z (re tg v) → AW mX2_fits 27 [some (vR 43), some (vI v), some (vR 8), some (vI i), some (vI 0), some (vI (s + 1))] [] Mx (QI K) := fun Mx h1 h3 => sg_X2_fits_b_27 ⟨by decide, fun _ => ⟨Or.inl rfl, k0 Mx h1 h3⟩, fun y => absurd rfl y⟩
        have d46 : nC d n < 0 → M2 45 n = M 43 3 + 1 → InR (M2 46 n) := fun c0 he => by
          rw [u45] at he
          rw [u46]
          obtain ⟨x2, hx2⟩ := hV.1 n qn.1 qn.2 c0 he
          exact (hC.1 _ _ _ (hV.2 n x2 hx2 c0).2).2
        have wpq : W x = nC d n → w - 1 + pq g d n ≤ 60 ∧ pq g d n = gA g (W x) ∧ kst z x (pq g d n).toNat = x + z x := by
          intro q
          have c0 : 0 ≤ nC d n := by rw [← q]; exact hk.1.1
          have ep : pq g d n = gA g (W x) := by unfold pq; rw [if_neg (by omega), q]
          have hp := pq_bd hS.1 hS.2.1 qn.1 qn.2
          have mny := hR.many hS.1 ex.1 ex.2
          exact ⟨by omega, ep, by rw [ep]; exact hk.2.2.1 (by omega)⟩
        refine c_fitsAtRoot_b (w := w - 1) (num := M 43 3 + 1) hC hS hX F2 qn.1 qn.2 hRn u8 (by omega) (fun q => (wpq q).1) en2 (by omega) (by rw [u45]; have := c45 n qn.1 (by omega); omega) d46 (fun c0 hne => ?_) (fun c0 he hv => ?_) (fun c0 he hv => ?_) (fun c0 hw => ?_) (fun c0 hw M3 hF3 t43 t8 te tk => ?_)
        · -- a variable, first met
          have t47 : up (up M2 45 n (M 43 3 + 1)) 46 n id 47 = M1 47 := by rw [up_ne (by decide), up_ne (by decide), u47]
          have t48 : up (up M2 45 n (M 43 3 + 1)) 46 n id 48 = M1 48 := by rw [up_ne (by decide), up_ne (by decide), u48]
          have t43 : up (up M2 45 n (M 43 3 + 1)) 46 n id 43 = M2 43 := by rw [up_ne (by decide), up_ne (by decide)]
          have t45 : ∀ u, up (up M2 45 n (M 43 3 + 1)) 46 n id 45 u = if u = n then M 43 3 + 1 else M1 45 u := by
            intro u
            rw [up_ne (by decide)]
            split
            · rename_i e; rw [e, up_same]
            · rename_i e; rw [up_other e, u45]
          have t46 : ∀ u, up (up M2 45 n (M 43 3 + 1)) 46 n id 46 u = if u = n then id else M1 46 u := by
            intro u
            split
            · rename_i e; rw [e, up_same]
            · rename_i e; rw [up_other e, up_ne (by decide), u46]
          refine ih _ ?_ _ (w - 1) (s + 1) X (fun a b => D a b ∨ (a = n ∧ b = x)) rfl (by omega) (by omega) ⟨(F2.up (by decide)).up (by decide), ?_, ?_, ?_⟩ ?_ (by omega) ?_ ?_ ⟨?_, ?_⟩
          · omega
          · intro f f3 f8
            rw [t43]; exact hP2.2.1 f f3 f8
          · rw [t43]; exact en2
          · intro u u0 u1
            rw [t43, en2, t45]
            split
            · omega
            · have := c45 u u0 u1
              omega
          · rw [t43]; exact u8
          · intro e e0 e1
            rw [t47, t48]
            exact hA e e0 (by omega)
          · rw [t47]
            exact hI.step p1 (fun y => by omega) p2 (fun k q0 q1 => absurd (pq_pos ⟨q0, q1⟩).1 (by omega)) (fun a b q => Or.inl (p3 a b q))
          · intro u u0 u1 cu
            rw [t45]
            split
            · rename_i e
              intro _
              exact ⟨x, Or.inr ⟨e, rfl⟩⟩
            · intro y
              obtain ⟨x2, hx2⟩ := hV.1 u u0 u1 cu y
              exact ⟨x2, Or.inl hx2⟩
          · intro u x2 hd cu
            rw [t45, t46]
            split
            · rename_i e
              refine ⟨rfl, ?_⟩
              rcases hd with y | ⟨_, y⟩
              · rw [e] at y
                rw [u45] at hne
                exact absurd (hV.2 n x2 y c0).1 hne
              · rw [e, y]; exact hRn
            · rename_i e
              rcases hd with y | ⟨y, _⟩
              · exact hV.2 u x2 y cu
              · exact absurd y e
        · -- met before, the same value
          rw [u46] at hv
          refine ih _ ?_ M2 (w - 1) (s + 1) X (fun a b => D a b ∨ (a = n ∧ b = x)) rfl (by omega) (by omega) hP2 u8 (by omega) (fun e e0 e1 => by rw [u47, u48]; exact hA e e0 (by omega)) ?_ ⟨fun u u0 u1 cu => ?_, fun u x2 hd cu => ?_⟩
          · omega
          · rw [u47]
            exact hI.step p1 (fun y => by omega) p2 (fun k q0 q1 => absurd (pq_pos ⟨q0, q1⟩).1 (by omega)) (fun a b q => Or.inl (p3 a b q))
          · rw [u45]
            intro y
            obtain ⟨x2, hx2⟩ := hV.1 u u0 u1 cu y
            exact ⟨x2, Or.inl hx2⟩
          · rw [u45, u46]
            rcases hd with y | ⟨y1, y2⟩
            · exact hV.2 u x2 y cu
            · rw [y1, y2, hv]
              rw [u45] at he
              exact ⟨he, hRn⟩
        · -- met before, another value
          rw [u46] at hv
          rw [u45] at he
          refine fail M2 hP2 (fun mt => ?_)
          obtain ⟨x2, hx2⟩ := hV.1 n qn.1 qn.2 c0 he
          have sm := mt.2 n x2 x (hI.1 n x2 hx2) (hI.2.1 n x p1) c0
          exact hv ((hC.2.1 _ _ x2 x _ (hV.2 n x2 hx2 c0).2 hRn).mpr sm)
        · exact fail M2 hP2 (fun mt => hw (mt.1 n x (hI.2.1 n x p1) c0))
        · obtain ⟨l1, l2, l3⟩ := wpq hw
          have hp := pq_bd hS.1 hS.2.1 qn.1 qn.2
          have t45 : M3 45 = M1 45 := by rw [hF3 45 (by decide), u45]
          have t46 : M3 46 = M1 46 := by rw [hF3 46 (by decide), u46]
          have hsum := hs_push (z := z) (X := X) (x := x) (show 0 ≤ w - 1 by omega) (pq g d n).toNat
          rw [show (w - 1).toNat + (pq g d n).toNat = (w - 1 + pq g d n).toNat by omega, l3] at hsum
          have f1 : ∀ e, 0 ≤ e → e < w - 1 → M3 47 e = M1 47 e := fun e e0 e1 => by rw [(te e e0 e1).1, u47]
          obtain ⟨x1, x2, x3⟩ := QX.push (tg := tg) (X := X) (z := z) (a := x) f1 (fun j j0 j1 => (tk j j0 j1).1) (show 0 ≤ w - 1 by omega) hp.1
          refine ih _ ?_ M3 (w - 1 + pq g d n) (s + 1) (xk z X (w - 1) x) (fun a b => D a b ∨ (a = n ∧ b = x)) rfl (by omega) (by omega) ⟨F2.trans (hF3.mono (by decide)), fun f f3 f8 => ?_, ?_, ?_⟩ t8 (by omega) (fun e e0 e1 => ?_) ?_ ⟨fun u u0 u1 cu y => ?_, fun u y hd cu => ?_⟩
          · omega
          · rw [t43 f f8]; exact hP2.2.1 f f3 f8
          · rw [t43 3 (by decide)]; exact en2
          · rw [t45, t43 3 (by decide), u43 3 (by decide)]; exact c45
          · by_cases l : e < w - 1
            · have q := te e e0 l
              rw [q.1, q.2, u47, u48]
              have : xk z X (w - 1) x e = X e := by unfold xk; rw [if_pos l]
              rw [this]
              exact hA e e0 (by omega)
            · have q := tk (e - (w - 1)) (by omega) (by omega)
              rw [show w - 1 + (e - (w - 1)) = e by omega] at q
              have : xk z X (w - 1) x e = kst z x (e - (w - 1)).toNat := by unfold xk; rw [if_neg l]
              rw [this, q.1]
              have kd := hS.2.1.kid qn.1 qn.2 c0 (show 0 ≤ e - (w - 1) ∧ e - (w - 1) < gA g (nC d n) by rw [← hw, ← l2]; omega)
              rw [kd.2]
              exact ⟨by omega, q.2⟩
          · refine hI.step p1 (fun _ => hw) (fun a b q => ?_) (fun k q0 q1 => x2 k q0 q1) (fun a b q => ?_)
            · rcases p2 a b q with y | y
              · exact Or.inl y
              · exact Or.inr (x1 a b y)
            · rcases x3 a b q with y | y
              · exact Or.inl (p3 a b y)
              · exact Or.inr ⟨c0, y⟩
          · rw [t45] at y
            obtain ⟨x2, hx2⟩ := hV.1 u u0 u1 cu y
            exact ⟨x2, Or.inl hx2⟩
          · rw [t45, t46]
            rcases hd with h | ⟨h, _⟩
            · exact hV.2 u y h cu
            · rw [h] at cu; omega
  have f8 : up (up M 43 3 (M 43 3 + 1)) 43 8 0 43 8 = 0 := up_same
  refine en_X2_fits_b (c_await f8 (by omega) (by omega) ?_)
  generalize hM1 : up (up (up (up (up M 43 3 (M 43 3 + 1)) 43 8 0) 47 0 v) 48 0 i) 43 8 (0 + 1) = M1
  have a47 : M1 47 0 = v := by rw [← hM1, up_ne (by decide), up_ne (by decide), up_same]
  have a48 : M1 48 0 = i := by rw [← hM1, up_ne (by decide), up_same]
  have a45 : M1 45 = M 45 := by rw [← hM1, up_ne (by decide), up_ne (by decide), up_ne (by decide), up_ne (by decide), up_ne (by decide)]
  have a46 : M1 46 = M 46 := by rw [← hM1, up_ne (by decide), up_ne (by decide), up_ne (by decide), up_ne (by decide), up_ne (by decide)]
  have a8 : M1 43 8 = 1 := by rw [← hM1, up_same]; rfl
  have a3 : M1 43 3 = M 43 3 + 1 := by rw [← hM1, up_other (by decide), up_ne (by decide), up_ne (by decide), up_other (by decide), up_same]
  have aF : Fr fitS M0 M1 := by rw [← hM1]; exact ((((hF.up (by decide)).up (by decide)).up (by decide)).up (by decide)).up (by decide)
  have a43 : ∀ f : Int, f ≠ 3 → f ≠ 8 → M1 43 f = M 43 f := fun f f3 f8 => by rw [← hM1, up_other f8, up_ne (by decide), up_ne (by decide), up_other f8, up_other f3]
  clear hM1 f8
  have e1 : hs z (fun _ => 0) (1 : Int).toNat = N := by show 0 + z 0 = N; omega
  refine loop _ M1 1 0 (fun _ => 0) (fun _ _ => False) rfl (by omega) (by rw [e1]; omega) ⟨aF, a43, a3, fun n n0 n1 => ?_⟩ a8 (by omega) (fun e e0 e1 => ?_) (MI.start ?_ ?_) ⟨fun u u0 u1 _ y => ?_, fun _ _ h => h.elim⟩
  · rw [a45, a3]
    have := b45 n n0 n1
    omega
  · have e : e = 0 := by omega
    subst e
    rw [a47, a48]
    exact ⟨⟨v0, v1⟩, hi⟩
  · intro n x ⟨e, he, h1, h2⟩
    have e : e = 0 := by omega
    subst e
    rw [a47] at h1
    exact ⟨h1.symm, h2.symm⟩
  · exact ⟨0, by omega, by rw [a47], rfl⟩
  · rw [a45] at y
    have := b45 u u0 (by omega)
    omega
/-- behind firstFitting -/
theorem c_firstFitting_b {K : Int → Mem → Prop} {R : Int → Int} {n i t : Int} (hC : RpC mX8_isBuiltBy mX8_split 8 g W z N M0 Rp) (hS : StOK g d tg) (hX : XR g d tg M0) (hR : Rw g W N z) (z0 : z 0 = N) (N0 : 1 ≤ N) (N1 : N ≤ 60) (n0 : 0 ≤ n) (n1 : n ≤ 8) (e1 : M0 43 1 = n) (hr : ∀ j, 0 ≤ j → j < n → M0 44 j = R j ∧ (0 ≤ R j ∧ R j < nN d) ∧ nY d (R j) = t) (hi : Rp i 0 t) (b3 : 0 ≤ M0 43 3 ∧ M0 43 3 < 900000000) (b45 : ∀ n, 0 ≤ n → n < 100 → 0 ≤ M0 45 n ∧ M0 45 n ≤ M0 43 3)
    (kk : ∀ M' r, Fr fitS M0 M' → M' 43 1 = n → (M0 43 3 ≤ M' 43 3 ∧ M' 43 3 ≤ M0 43 3 + 8) → (∀ n, 0 ≤ n → n < 100 → 0 ≤ M' 45 n ∧ M' 45 n ≤ M' 43 3) → FM g d tg W z R n r → K r M') : CI mX2_firstFitting [vR 43, vR 8, vI i] M0 K := by
  have loop : ∀ (m : Nat) (M : Mem) (j : Int), (n - j).toNat = m → 0 ≤ j → j ≤ n → Fr fitS M0 M → M 43 1 = n → M 43 3 = M0 43 3 + j → (∀ n, 0 ≤ n → n < 100 → 0 ≤ M 45 n ∧ M 45 n ≤ M 43 3) → (∀ i, 0 ≤ i → i < j → ¬ Mt g d tg W z (re tg (R i))) → AW mX2_firstFitting 2 [some (vR 43), some (vR 8), some (vI i), some (vI j)] [] M (QI K) := by
    intro m
    induction m with
    | zero =>
      intro M j hm j0 j1 hF h1 h3 h45 hj
      refine sg_X2_firstFitting_b_2 ?_
      rw [h1]
      exact ⟨by omega, fun _ => kk M _ hF h1 (by omega) h45 (Or.inl ⟨rfl, fun i i0 i1 => hj i i0 (by omega)⟩), fun y => by omega⟩
    | succ m ih =>
      intro M j hm j0 j1 hF h1 h3 h45 hj
      have q := hr j j0 (by omega)
      refine sg_X2_firstFitting_b_2 ?_
      rw [h1, hF 44 (by decide), q.1]
      refine ⟨by omega, fun y => by omega, fun _ => ⟨by omega, c_fits_b hC hS hX hR z0 N0 N1 hF q.2.1.1 q.2.1.2 (by rw [q.2.2]; exact hi) (by omega) h45 (fun M1 hP mt => ⟨by decide, fun y => absurd y (by decide), fun _ => kk M1 j hP.1 ?_ ?_ hP.2.2.2 (Or.inr ⟨by omega, mt, hj⟩)⟩) (fun M1 hP mt => ⟨by decide, fun _ => ih M1 (j + 1) (by omega) (by omega) (by omega) hP.1 ?_ ?_ hP.2.2.2 (fun i i0 i1 => ?_), fun y => absurd rfl y⟩)⟩⟩
      · rw [hP.2.1 1 (by decide) (by decide)]; exact h1
      · have := hP.2.2.1
        omega
      · rw [hP.2.1 1 (by decide) (by decide)]; exact h1
      · have := hP.2.2.1
        omega
      · by_cases e : i = j
        · rw [e]; exact mt
        · exact hj i i0 (by omega)
  exact en_X2_firstFitting_b (loop _ M0 0 rfl (by omega) n0 (Fr.refl _ _) e1 (by omega) b45 (fun i i0 i1 => by omega))
end
