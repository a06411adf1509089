/-! unification: the reference's run, and the call -/
section
variable {g : Sg} {d : Nd}
theorem nv_ge {d : Nd} (x : Int) : nv (nC d x) ≥ 0 ↔ 0 ≤ nC d x := by
  unfold nv
  split <;> omega
theorem c_runM {M0 : Mem} {K : Int → Mem → Prop} {tg0 : Int → Int} {a b out : Int} {tg' : Int → Int} (hS0 : MSig g M0) (hD0 : MNod g d M0)
    (kk : ∀ M', Fr [50, 57, 77, 78, 79, 80, 81, 82] M0 M' → (∀ f : Int, f ≠ 34 → f ≠ 37 → M' 50 f = M0 50 f) → ((out = 1 ∧ MTg d tg' M') ∨ (out ≠ 1 ∧ MTg d tg0 M')) → K out M')
    : ∀ (f : Nat) (tg : Int → Int) (n : Int) (L R dn : Int → Int) (M : Mem), URun g d f tg n L R dn out tg' → UI g d tg n L R → MU d M0 tg0 tg n L R dn M → AW mX12_unify 48 [some (vR 50), some (vI a), some (vI b), none, none, none, none] [] M (QI K) := by
  intro f
  induction f with
  | zero => intro tg n L R dn M h; exact h.elim
  | succ f ih =>
    intro tg n L R dn M hR hU hM
    have hle := hU.le
    have hn0 := hU.2.1
    have hS := hU.1
    have bn := hS.2.1.1
    have hMM := hM.keep hS0 hD0
    have h34 := hM.2.2.1
    rcases hR with ⟨hz, e1, e2⟩ | ⟨hn, hst⟩
    · refine sg_X12_unify_48 ⟨by omega, fun _ => ?_, fun z => by omega⟩
      have := kk M hM.1.1 hM.1.2 (Or.inl ⟨e1, by rw [e2]; exact hM.2.1⟩)
      rw [e1] at this
      exact this
    have hends := hU.ends hn
    have hpop := hU.pop hn
    have hpush := fun c0 ce => hU.push hn (p := re tg (L (n - 1))) (q := re tg (R (n - 1))) rfl rfl c0 ce
    have hw := hU.2.2.1 (n - 1) (by omega) (by omega)
    have h4 := hM.2.2.2.1 (n - 1) (by omega) (by omega)
    -- the memory with one pair less
    have hM1 : MU d M0 tg0 tg (n - 1) L R dn (up M 50 34 (n - 1)) := by
      obtain ⟨m1, m2, m3, m4, m5, m6, m7, m8⟩ := hM
      exact ⟨⟨m1.1.up (by decide), fun x x1 x2 => by rw [up_other x1]; exact m1.2 x x1 x2⟩, m2, up_same, fun i i0 i1 => m4 i i0 (by omega), m5, m6, m7, m8⟩
    have hMM1 := hM1.keep hS0 hD0
    refine sg_X12_unify_48 ⟨by omega, fun z => by omega, fun _ => ⟨by omega, ?_⟩⟩
    rw [h34, h4.1]
    refine c_resolved hS hMM1 hw.1.1.1 hw.1.1.2 ?_
    have e34 : up M 50 34 (n - 1) 50 34 = n - 1 := up_same
    have e78 : up M 50 34 (n - 1) 78 = M 78 := rfl
    rw [e34, e78, h4.2]
    refine ⟨by omega, c_resolved hS hMM1 hw.1.2.1 hw.1.2.2 ?_⟩
    clear hw h4 hMM
    generalize re tg (L (n - 1)) = p at *
    generalize re tg (R (n - 1)) = q at *
    obtain ⟨⟨hp, tp⟩, ⟨hq, tq⟩, ty⟩ := hends
    have cp := hS.2.1.cbd hS.1 hp.1 hp.2
    have cq := hS.2.1.cbd hS.1 hq.1 hq.2
    have e54p := (hMM1.2.1.2 p hp.1 hp.2).2.1
    have e54q := (hMM1.2.1.2 q hq.1 hq.2).2.1
    have gp := nv_ge (d := d) p
    have gq := nv_ge (d := d) q
    have bp : InR (nv (nC d p)) := by unfold nv; split <;> omega
    have bq : InR (nv (nC d q)) := by unfold nv; split <;> omega
    have eqq : 0 ≤ nC d p → 0 ≤ nC d q → (nv (nC d p) = nv (nC d q) ↔ nC d p = nC d q) := by
      intro c1 c2
      unfold nv
      rw [if_neg (by omega), if_neg (by omega)]
    have free0 : ∀ v, 0 ≤ v → v < nN d → tg v < 0 → tg0 v < 0 := by
      intro v v0 v1 tv
      rcases hM.2.2.2.2.2.2.2 v v0 v1 with z | ⟨k, hk, ek⟩
      · omega
      · have := (hM.2.2.2.2.2.2.1 k hk.1 hk.2).2
        rw [ek] at this
        exact this
    generalize hMx : up M 50 34 (n - 1) = M1 at *
    clear hMx
    -- on
    have on : ∀ (M2 : Mem), AW mX12_unify 48 [some (vR 50), some (vI a), some (vI b), none, none, none, none] [] M2 (QI K) → (InR 0 ∧ ((0 : Int) = 0 → AW mX12_unify 48 [some (vR 50), some (vI a), some (vI b), none, none, none, none] [] M2 (QI K)) ∧ (¬ (0 : Int) = 0 → AW mX12_unify 121 [some (vR 50), some (vI a), some (vI b), some (vI p), some (vI q), some (vI 0), some (vI 0)] [] M2 (QI K))) := fun M2 h => ⟨by decide, fun _ => h, fun z => absurd rfl z⟩
    -- a failure
    have fail : ∀ (M2 : Mem) (o : Int), (o = -7 ∨ o = -8) → out = o → Fr [81, 82] M1 M2 → (InR o ∧ (o = 0 → AW mX12_unify 48 [some (vR 50), some (vI a), some (vI b), none, none, none, none] [] M2 (QI K)) ∧ (¬ o = 0 → AW mX12_unify 121 [some (vR 50), some (vI a), some (vI b), some (vI p), some (vI q), some (vI o), some (vI 0)] [] M2 (QI K))) := by
      intro M2 o ho hout hF
      refine ⟨by omega, fun z => by omega, fun _ => ?_⟩
      subst hout
      have hM2 : MU d M0 tg0 tg (n - 1) L R dn M2 := by
        obtain ⟨m1, m2, m3, m4, m5, m6, m7, m8⟩ := hM1
        have e50 : M2 50 = M1 50 := hF 50 (by decide)
        have e80 : M2 80 = M1 80 := hF 80 (by decide)
        refine ⟨⟨m1.1.trans (hF.mono (by decide)), by rw [e50]; exact m1.2⟩, ?_, by rw [e50]; exact m3, ?_, ?_, by rw [e50]; exact m6, by rw [e50, e80]; exact m7, by rw [e50, e80]; exact m8⟩
        · unfold MTg; rw [hF 57 (by decide)]; exact m2
        · rw [hF 77 (by decide), hF 78 (by decide)]; exact m4
        · rw [hF 79 (by decide)]; exact m5
      exact c_undo (n := n - 1) (L := L) (R := R) (dn := dn) (tg := tg) hS.2.1 (fun M' x1 x2 x3 => kk M' x1 x2 (Or.inr ⟨by omega, x3⟩)) _ M2 M2 0 rfl (by omega) hM2.2.2.2.2.2.1.1 hM2 (Fr.refl _ _) (fun x x0 x1 => Or.inl ⟨hM2.2.1 x x0 x1, fun j j0 j1 => by omega⟩)
    -- a binding
    have bind : ∀ (M2 : Mem) (v w : Int), 0 ≤ v → v < nN d → tg v < 0 → 0 ≤ w → w < nN d → tg w < 0 → StOK g d (st1 tg v w) → URun g d f (st1 tg v w) (n - 1) L R dn out tg' → Fr [81, 82] M1 M2 → CV mX12_bind [vR 50, vI v, vI w] M2 (fun M3 => InR 0 ∧ ((0 : Int) = 0 → AW mX12_unify 48 [some (vR 50), some (vI a), some (vI b), none, none, none, none] [] M3 (QI K)) ∧ (¬ (0 : Int) = 0 → AW mX12_unify 121 [some (vR 50), some (vI a), some (vI b), some (vI p), some (vI q), some (vI 0), some (vI 0)] [] M3 (QI K))) := by
      intro M2 v w v0 v1 tv w0 w1 tw hS2 hr hF
      have hb := MU.bind (g := g) hS.2.1 hM1 hF v0 v1 tv w0 (free0 v v0 v1 tv)
      exact en_X12_bind ⟨by omega, hb.1, on _ (ih (st1 tg v w) (n - 1) L R dn _ hr (hpop.bind tv hS2) hb.2)⟩
    unfold UStep at hst
    rcases hst with ⟨e, hr⟩ | ⟨hpq, hc1, hc2, hr⟩ | ⟨hpq, hc1, hc2, hr⟩ | ⟨hpq, hc1, hc2, hr⟩ | ⟨hpq, hc1, hc2, hc3, ho, _⟩ | ⟨hpq, hc1, hc2, hdn, hr⟩ | ⟨hpq, hc1, hc2, hdn, hr⟩
    · exact ⟨by omega, fun z => absurd e z, fun _ => ih tg (n - 1) L R dn M1 hr hpop hM1⟩
    · refine ⟨by omega, fun _ => en_X12_unifyNow ?_, fun z => absurd hpq z⟩
      rw [e54p, e54q]
      refine ⟨by omega, bp, fun z => by omega, fun _ => ⟨by omega, bq, fun z => by omega, fun _ => ⟨by omega, fun z => ⟨by omega, fun _ => ?_, fun z2 => absurd z z2⟩, fun z => ⟨by omega, fun z2 => absurd z2 z, fun _ => ?_⟩⟩⟩⟩
      · have lt : p < q := by omega
        rw [if_pos lt, if_neg (show ¬ q < p by omega)] at hr
        exact bind M1 q p hq.1 hq.2 tq hp.1 hp.2 tp (acyc hS hq.1 hq.2 hc2 tq hp.1 hp.2 tp ty (leafc hc1) rfl (fun w => hpq w.symm)) hr (Fr.refl _ _)
      · have lt : q < p := by omega
        rw [if_neg (show ¬ p < q by omega), if_pos lt] at hr
        exact bind M1 p q hp.1 hp.2 tp hq.1 hq.2 tq (acyc hS hp.1 hp.2 hc1 tp hq.1 hq.2 tq ty.symm (leafc hc2) rfl (fun w => hpq w)) hr (Fr.refl _ _)
    · refine ⟨by omega, fun _ => en_X12_unifyNow ?_, fun z => absurd hpq z⟩
      rw [e54p, e54q]
      refine ⟨by omega, bp, fun z => by omega, fun _ => ⟨by omega, bq, fun _ => sg_X12_unifyNow_66 ⟨by decide, fun _ => sg_X12_unifyNow_75 ⟨by decide, fun z => absurd z (by decide), fun _ => ⟨by decide, fun z => absurd z (by decide), fun _ => ?_⟩⟩, fun z => absurd (by decide) z⟩, fun z => by omega⟩⟩
      refine c_occurs hS hMM1 hp.1 hp.2 hq.1 hq.2 tq (fun o M2 hF => ⟨by decide, fun z => absurd z (by decide), fun _ => ?_⟩) (fun o M2 hF => ⟨by decide, fun _ => ?_, fun z => absurd rfl z⟩)
      · rcases hr with ⟨_, ho, _⟩ | ⟨hno, _⟩
        · exact fail M2 (-8) (Or.inr rfl) ho hF
        · exact absurd o hno
      · rcases hr with ⟨ho, _⟩ | ⟨_, hr⟩
        · exact absurd ho o
        · obtain ⟨P, c1, c2, c3⟩ := nocc o
          exact bind M2 p q hp.1 hp.2 tp hq.1 hq.2 tq (acyc hS hp.1 hp.2 hc1 tp hq.1 hq.2 tq ty.symm c1 c2 c3) hr hF
    · refine ⟨by omega, fun _ => en_X12_unifyNow ?_, fun z => absurd hpq z⟩
      rw [e54p, e54q]
      refine ⟨by omega, bp, fun _ => ⟨by omega, bq, fun z => by omega, fun _ => sg_X12_unifyNow_66 ⟨by decide, fun z => absurd rfl z, fun _ => ⟨by decide, fun z => absurd z (by decide), fun _ => sg_X12_unifyNow_75 ⟨by decide, fun _ => ⟨by decide, fun _ => ?_, fun z => absurd rfl z⟩, fun z => absurd rfl z⟩⟩⟩⟩, fun z => by omega⟩
      refine c_occurs hS hMM1 hq.1 hq.2 hp.1 hp.2 tp (fun o M2 hF => ⟨by decide, fun z => absurd z (by decide), fun _ => ?_⟩) (fun o M2 hF => ⟨by decide, fun _ => ?_, fun z => absurd rfl z⟩)
      · rcases hr with ⟨_, ho, _⟩ | ⟨hno, _⟩
        · exact fail M2 (-8) (Or.inr rfl) ho hF
        · exact absurd o hno
      · rcases hr with ⟨ho, _⟩ | ⟨_, hr⟩
        · exact absurd ho o
        · obtain ⟨P, c1, c2, c3⟩ := nocc o
          exact bind M2 q p hq.1 hq.2 tq hp.1 hp.2 tp (acyc hS hq.1 hq.2 hc2 tq hp.1 hp.2 tp ty c1 c2 c3) hr hF
    · refine ⟨by omega, fun _ => en_X12_unifyNow ?_, fun z => absurd hpq z⟩
      rw [e54p, e54q]
      refine ⟨by omega, bp, fun _ => ⟨by omega, bq, fun _ => sg_X12_unifyNow_66 ⟨by decide, fun z => absurd rfl z, fun _ => ⟨by decide, fun _ => ?_, fun z => absurd rfl z⟩⟩, fun z => by omega⟩, fun z => by omega⟩
      rw [e54p, e54q]
      exact ⟨by omega, by omega, ⟨bp, bq⟩, fun z => absurd ((eqq hc1 hc2).mp z) hc3, fun _ => fail M1 (-7) (Or.inl rfl) ho (Fr.refl _ _)⟩
    · have hc2' : 0 ≤ nC d q := by omega
      have h79 := hM1.2.2.2.2.1 (100 * p + q) (by omega) (by omega)
      refine ⟨by omega, fun _ => en_X12_unifyNow ?_, fun z => absurd hpq z⟩
      rw [e54p, e54q]
      refine ⟨by omega, bp, fun _ => ⟨by omega, bq, fun _ => sg_X12_unifyNow_66 ⟨by decide, fun z => absurd rfl z, fun _ => ⟨by decide, fun _ => ?_, fun z => absurd rfl z⟩⟩, fun z => by omega⟩, fun z => by omega⟩
      rw [e54p, e54q, h79.1]
      exact ⟨by omega, by omega, ⟨bp, bq⟩, fun _ => ⟨by omega, by omega, fun _ => on M1 (ih tg (n - 1) L R dn M1 hr hpop hM1), fun z => absurd hdn z⟩, fun z => absurd ((eqq hc1 hc2').mpr hc2) z⟩
    · have hc2' : 0 ≤ nC d q := by omega
      have h79 := hM1.2.2.2.2.1 (100 * p + q) (by omega) (by omega)
      have hUp := hpush hc1 hc2
      have hle2 := hUp.le
      have hpb := pq_bd hS.1 hS.2.1 hp.1 hp.2
      refine ⟨by omega, fun _ => en_X12_unifyNow ?_, fun z => absurd hpq z⟩
      rw [e54p, e54q]
      refine ⟨by omega, bp, fun _ => ⟨by omega, bq, fun _ => sg_X12_unifyNow_66 ⟨by decide, fun z => absurd rfl z, fun _ => ⟨by decide, fun _ => ?_, fun z => absurd rfl z⟩⟩, fun z => by omega⟩, fun z => by omega⟩
      rw [e54p, e54q, h79.1]
      have hMM2 : MMR g d tg (up M1 79 (100 * p + q) 1) := hMM1
      have e34' : up M1 79 (100 * p + q) 1 50 34 = n - 1 := e34
      refine ⟨by omega, by omega, ⟨bp, bq⟩, fun _ => ⟨by omega, by omega, fun z => absurd hdn z, fun _ => ⟨by omega, c_pushChildren hS hMM2 hp.1 hp.2 hq.1 hq.2 hc1 hc2 (by rw [e34']; omega) (fun M3 hF3 h50 h34' ho hk => on M3 (ih tg (n - 1 + pq g d p) _ _ _ M3 hr hUp ?_))⟩⟩, fun z => absurd ((eqq hc1 hc2').mpr hc2) z⟩
      rw [e34'] at h34' ho hk
      obtain ⟨m1, m2, m3, m4, m5, m6, m7, m8⟩ := hM1
      have e37 : M3 50 37 = M1 50 37 := h50 37 (by decide)
      have e80 : M3 80 = M1 80 := hF3 80 (by decide)
      refine ⟨⟨(m1.1.up (by decide)).trans (hF3.mono (by decide)), fun x x1 x2 => ?_⟩, ?_, h34', fun i i0 i1 => ?_, fun x x0 x1 => ?_, by rw [e37]; exact m6, by rw [e37, e80]; exact m7, by rw [e37, e80]; exact m8⟩
      · rw [h50 x x1]; exact m1.2 x x1 x2
      · unfold MTg; rw [hF3 57 (by decide)]; exact m2
      · unfold psh
        by_cases e : i < n - 1
        · rw [if_pos e, if_pos e, (ho i e).1, (ho i e).2]
          exact m4 i i0 e
        · rw [if_neg e, if_neg e]
          have w := hk (pq g d p - 1 - (i - (n - 1))) (by omega) (by omega)
          rw [show n - 1 + (pq g d p - 1 - (pq g d p - 1 - (i - (n - 1)))) = i by omega] at w
          exact w
      · rw [hF3 79 (by decide)]
        by_cases e : x = 100 * p + q
        · rw [e, up_same, st1_same]; exact ⟨rfl, Or.inr rfl⟩
        · rw [up_other e, st1_ne e]; exact m5 x x0 x1
end
section
variable {c : Nat} {M : Mem} {K : Int → Mem → Prop}
theorem op_unify (h : Inv c M) (hc5 : c < 1000) {v w : Int} (hv : InR v) (hw : InR w) (kk : ∀ r M1, Then mX12_unify [vR 50, vI v, vI w] c r M1 → K r M1) : CI mX11_unify [vR 0, vI v, vI w] M K := by
  obtain ⟨g, d, tg, hC, hc⟩ := h
  have hI : Inv (c + 1) M := ⟨g, d, tg, hC, hc.up⟩
  obtain ⟨⟨f1, f2, f3, f4, f5, f6⟩, b1, b2, b3⟩ := hC.facts
  have hc1 := hc.2.1
  have hS := hC.1
  have e13 : M 13 = nY d := hC.2.1.2.1.2.1
  have e16 : M 16 = tg := hC.2.1.2.2
  refine en_X11_unify (c_contains hv (by omega) (fun q => ⟨by decide, fun z => absurd z (by decide), fun _ => c_contains hw (by omega) (fun q2 => ⟨by decide, fun _ => ?_, fun z => absurd (by decide) z⟩) (fun q2 => ⟨by decide, fun z => absurd rfl z, fun _ => kk _ M ⟨by decide, fun K2 k2 => ?_⟩⟩)⟩) (fun q => ⟨by decide, fun _ => kk _ M ⟨by decide, fun K2 k2 => ?_⟩, fun z => absurd rfl z⟩))
  rotate_left
  · exact en_X12_unify (c_isNode hv (by omega) (fun _ => ⟨by decide, fun z => absurd z (by decide), fun _ => c_isNode hw (by omega) (fun y => absurd (show 0 ≤ w ∧ w < M 12 1 by omega) q2) (fun y => ⟨by decide, fun z => absurd rfl z, fun _ => k2 M hI⟩)⟩) (fun y => absurd (show 0 ≤ v ∧ v < M 50 5 by omega) y))
  · exact en_X12_unify (c_isNode hv (by omega) (fun y => absurd (show 0 ≤ v ∧ v < M 12 1 by omega) q) (fun y => ⟨by decide, fun _ => k2 M hI, fun z => absurd rfl z⟩))
  have yv := (hS.2.1.2 v q.1 (by omega)).1
  have yw := (hS.2.1.2 w q2.1 (by omega)).1
  have e55v := (hC.2.2.1.2.1.2 v q.1 (by omega)).1
  have e55w := (hC.2.2.1.2.1.2 w q2.1 (by omega)).1
  rw [e13]
  refine ⟨by omega, by omega, by omega, fun ty => ?_, fun ty => kk _ M ⟨by decide, fun K2 k2 => ?_⟩⟩
  rotate_left
  · refine en_X12_unify (c_isNode hv (by omega) (fun _ => ⟨by decide, fun z => absurd z (by decide), fun _ => c_isNode hw (by omega) (fun _ => ⟨by decide, fun _ => ⟨by omega, by omega, ?_⟩, fun z => absurd (by decide) z⟩) (fun y => absurd (show 0 ≤ w ∧ w < M 50 5 by omega) y)⟩) (fun y => absurd (show 0 ≤ v ∧ v < M 50 5 by omega) y))
    rw [e55v, e55w]
    exact ⟨by omega, fun z => absurd z ty, fun _ => k2 M hI⟩
  -- both run
  have hUI : UI g d tg 1 (fun _ => v) (fun _ => w) := ⟨hS, by omega, fun i i0 i1 => ⟨⟨show 0 ≤ v ∧ v < nN d by omega, show 0 ≤ w ∧ w < nN d by omega⟩, ty⟩, fun i i0 i1 r hr => by
    have := hr.2 v
    show i + 3 * (r v : Int) ≤ 297
    omega⟩
  have hFc : Fr [33] M (cpy M 16 33 0 0 100) := by
    intro h hh
    unfold cpy
    rw [if_neg (fun z => hh (by rw [z]; decide))]
  refine en_X6_run ⟨by omega, c_fill36 (fun M1 hF1 hz => en_X6_await ?_)⟩
  have e325 : up M1 32 5 0 32 5 = 0 := up_same
  rw [e325]
  refine ⟨by decide, fun z => absurd z (by decide), fun _ => ⟨by decide, by decide, ?_⟩⟩
  generalize hM2 : up (up (up (up M1 32 5 0) 34 0 v) 35 0 w) 32 5 (0 + 1) = M2
  have F2 : Fr [32, 33, 34, 35, 36] M M2 := by
    rw [← hM2]
    exact (((((hFc.mono (by decide)).trans (hF1.mono (by decide))).up (by decide)).up (by decide)).up (by decide)).up (by decide)
  have a33 : ∀ i, 0 ≤ i → i < 100 → M2 33 i = tg i := by
    intro i i0 i1
    rw [← hM2, up_ne (by decide), up_ne (by decide), up_ne (by decide), up_ne (by decide), hF1 33 (by decide)]
    show (if 0 ≤ i ∧ i < 0 + 100 then M 16 (0 + (i - 0)) else M 33 i) = tg i
    rw [if_pos (by omega), e16]
    congr 1
    omega
  have a36 : ∀ i, 0 ≤ i → i < 157 → M2 36 i = 0 := fun i i0 i1 => by
    rw [← hM2, up_ne (by decide), up_ne (by decide), up_ne (by decide), up_ne (by decide)]
    exact hz i i0 i1
  have a325 : M2 32 5 = 1 := by rw [← hM2]; rfl
  have a340 : M2 34 0 = v := by rw [← hM2]; rfl
  have a350 : M2 35 0 = w := by rw [← hM2]; rfl
  clear hM2 e325
  have hfc := cnt_le (p := fun i : Nat => decide (tg i < 0)) (nN d).toNat
  have hfc2 : fcn d tg ≤ (nN d).toNat := hfc
  have hud := cnt_le (p := fun i : Nat => decide ((fun _ : Int => (0 : Int)) i = 0)) 10000
  have hud2 : udn (fun _ => 0) ≤ 10000 := hud
  refine c_runX (g := g) (d := d) (M0 := M2) (N := M 37 3 + 100) ((hC.2.1.1).fr F2 (by decide)) ?_ (by omega) _ M2 tg 1 (fun _ => v) (fun _ => w) (fun _ => 0) 0 rfl (by omega) (by omega) hUI ⟨Fr.refl _ _, by rw [F2 16 (by decide)]; exact e16, a325, fun i i0 i1 => ?_, fun x x0 x1 => ?_, ?_, ?_⟩ (fun M3 out tg' hrun hF3 h37 h39 hout => ?_)
  · unfold XNod
    rw [F2 12 (by decide), F2 13 (by decide), F2 14 (by decide), F2 15 (by decide)]
    exact hC.2.1.2.1
  · have e : i = 0 := by omega
    rw [e]; exact ⟨a340, a350⟩
  · rw [a36 _ (by omega) (by omega)]
    exact ⟨fun z => absurd z bs_zero, fun z => absurd rfl z⟩
  · rw [F2 37 (by decide)]; omega
  · rw [F2 39 (by decide), F2 37 (by decide)]; exact hc.2.2.2.2.1
  have hFM : Fr [16, 32, 33, 34, 35, 36, 37, 38, 39, 40] M M3 := (F2.mono (by decide)).trans (hF3.mono (by decide))
  have hcc : Ctr (c + 1) M3 := by
    obtain ⟨k1, k2, k3, k4, k5, k6⟩ := hc
    unfold Ctr
    rw [hFM 28 (by decide), hFM 30 (by decide), hFM 43 (by decide), hFM 45 (by decide)]
    exact ⟨⟨k1.1, by omega⟩, ⟨h37.1, by omega⟩, ⟨k3.1, by omega⟩, k4, h39, k6⟩
  have bout : InR out := by
    rcases hout with z | z
    · rw [z.1]; decide
    · rcases z.1 with y | y <;> rw [y] <;> decide
  refine kk out M3 ⟨bout, fun K2 k2 => ?_⟩
  obtain ⟨f, hf⟩ := hrun
  have e50 : M3 50 = M 50 := hFM 50 (by decide)
  have hMM3 : MMR g d tg M3 := hC.2.2.1.fr hFM (by decide)
  refine en_X12_unify (c_isNode hv (by rw [e50]; omega) (fun _ => ⟨by decide, fun z => absurd z (by decide), fun _ => c_isNode hw (by rw [e50]; omega) (fun _ => ⟨by decide, fun _ => ⟨by omega, by omega, ?_⟩, fun z => absurd (by decide) z⟩) (fun y => absurd (show 0 ≤ w ∧ w < M3 50 5 by rw [e50]; omega) y)⟩) (fun y => absurd (show 0 ≤ v ∧ v < M3 50 5 by rw [e50]; omega) y))
  rw [hFM 55 (by decide), e55v, e55w]
  refine ⟨by omega, fun _ => c_beginPairs (fun M4 hF4 h50 h34 h77 h78 h79 => ?_), fun z => absurd ty z⟩
  have k5 : ∀ x : Int, x ≠ 34 → x ≠ 37 → up M4 50 37 0 50 x = M3 50 x := fun x x1 x2 => by rw [up_other x2]; exact h50 x x1
  refine c_runM (M0 := M3) (tg0 := tg) (out := out) (tg' := tg') hMM3.1 hMM3.2.1 (fun M5 hF5 h505 hfin => ?_) f tg 1 (fun _ => v) (fun _ => w) (fun _ => 0) _ hf hUI ⟨⟨(hF4.mono (by decide)).up (by decide), k5⟩, ?_, ?_, fun i i0 i1 => ?_, fun x x0 x1 => ⟨h79 x x0 x1, Or.inl rfl⟩, ?_, fun k k0 k1 => ?_, fun x x0 x1 => Or.inl rfl⟩
  rotate_left
  · unfold MTg
    rw [up_ne (by decide), hF4 57 (by decide)]
    exact hMM3.2.2
  · rw [up_other (by decide)]; exact h34
  · have e : i = 0 := by omega
    rw [e]; exact ⟨h77, h78⟩
  · rw [up_same]; omega
  · rw [up_same] at k1; omega
  -- the end
  have F5 : Fr [16, 32, 33, 34, 35, 36, 37, 38, 39, 40, 50, 57, 77, 78, 79, 80, 81, 82] M M5 := (hFM.mono (by decide)).trans (hF5.mono (by decide))
  have e505 : ∀ x : Int, x ≠ 34 → x ≠ 37 → M5 50 x = M 50 x := fun x x1 x2 => by rw [h505 x x1 x2, e50]
  have fin : ∀ tg2, TgG g d tg2 → M3 16 = tg2 → MTg d tg2 M5 → K2 out M5 := by
    intro tg2 hT h16 hMT
    refine k2 M5 ⟨g, d, tg2, Core.tgs hC hT (by rw [hF5 16 (by decide)]; exact h16) hMT ?_ (fun h hh => F5 h (by revert hh; revert h; decide)) (by rw [F5 43 (by decide)]) (e505 0 (by decide) (by decide)) (e505 1 (by decide) (by decide)) (e505 5 (by decide) (by decide)) (e505 13 (by decide) (by decide)), hcc.fr hF5 (by decide)⟩
    unfold Sav
    rw [F5 41 (by decide), F5 42 (by decide), F5 58 (by decide), e505 11 (by decide) (by decide)]
    exact hC.2.2.2.2.2.1
  rcases hout with ⟨o1, o2, o3⟩ | ⟨o1, o2⟩
  · rcases hfin with ⟨_, u2⟩ | ⟨u1, _⟩
    · exact fin tg' o3.2.2 o2 u2
    · exact absurd o1 u1
  · rcases hfin with ⟨u1, _⟩ | ⟨_, u2⟩
    · omega
    · have hsame : ∀ n, 0 ≤ n → n < 100 → M3 16 n = tg n := fun n n0 n1 => by rw [o2 n n0 n1]; exact a33 n n0 n1
      refine fin (M3 16) (TgG.congr hS.2.1 hS.2.2 hsame) rfl (fun n n0 n1 => ?_)
      rw [u2 n n0 n1, hsame n n0 (by omega)]
end
