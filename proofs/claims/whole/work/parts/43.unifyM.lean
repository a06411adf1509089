/-! unification: the reference -/
section
variable {g : Sg} {d : Nd} {tg : Int → Int}
def OnS (M : Mem) (tg : Int → Int) (n x : Int) : Prop := ∃ i, (0 ≤ i ∧ i < n) ∧ re tg (M 81 i) = x
def unv (d : Nd) (M : Mem) : Nat := cnt (fun i => decide (M 82 i = 0)) (nN d).toNat
def OcI (g : Sg) (d : Nd) (tg : Int → Int) (v n : Int) (M : Mem) (m : Int) : Prop := (0 ≤ m ∧ m + 3 * (unv d M : Nat) ≤ 301) ∧ (∀ i, 0 ≤ i → i < m → (0 ≤ M 81 i ∧ M 81 i < nN d) ∧ ∀ P : Int → Prop, Clo g d tg P → P n → P (re tg (M 81 i))) ∧ (M 82 n ≠ 0 ∨ OnS M tg m n) ∧ (∀ x, 0 ≤ x → x < nN d → M 82 x ≠ 0 → x ≠ v ∧ ∀ k, 0 ≤ k → k < pq g d x → M 82 (kq d tg x k) ≠ 0 ∨ OnS M tg m (kq d tg x k)) ∧ ∀ x, 0 ≤ x → x < nN d → M 82 x = 0 ∨ M 82 x = 1
theorem c_occurs {M : Mem} {K : Int → Mem → Prop} (hS : StOK g d tg) (hX : MMR g d tg M) {v n : Int} (v0 : 0 ≤ v) (v1 : v < nN d) (n0 : 0 ≤ n) (n1 : n < nN d) (tn : tg n < 0) (k1 : Occ g d tg v n → ∀ M', Fr [81, 82] M M' → K 1 M') (k0 : ¬ Occ g d tg v n → ∀ M', Fr [81, 82] M M' → K 0 M') : CI mX12_occurs [vR 50, vI v, vI n] M K := by
  obtain ⟨r, hG⟩ := hS.2.2.2
  have bn := hS.2.1.1
  have loop : ∀ (q : Nat) (M1 : Mem) (m : Int), 4 * unv d M1 + m.toNat = q → Fr [81, 82] M M1 → OcI g d tg v n M1 m → AW mX12_occurs 32 [some (vR 50), some (vI v), some (vI n), some (vI m), none, none] [] M1 (QI K) := by
    intro q
    induction q using Nat.strongRecOn with
    | ind q ih =>
      intro M1 m hq hF hI
      obtain ⟨h0, h1, h2, h3, h4⟩ := hI
      have hX1 := hX.fr hF (by decide)
      by_cases ez : m ≤ 0
      · refine sg_X12_occurs_32 ⟨by omega, fun _ => k0 (fun o => ?_) M1 hF, fun z => absurd ez z⟩
        have noS : ∀ x, ¬ OnS M1 tg m x := fun x ⟨i, hi, _⟩ => by omega
        have := o (fun x => (0 ≤ x ∧ x < nN d) ∧ M1 82 x ≠ 0) (fun x k x0 x1 k0 k1 hx => ⟨(kq_in2 hS.2.1 hS.2.2.1 hG x0 x1 ⟨k0, k1⟩).1, ((h3 x x0 x1 hx.2).2 k k0 k1).resolve_right (noS _)⟩) ⟨⟨n0, n1⟩, h2.resolve_right (noS _)⟩
        exact (h3 v v0 v1 this.2).1 rfl
      have w := h1 (m - 1) (by omega) (by omega)
      have hin := re_in hS.2.2.1 hG w.1.1 w.1.2
      refine sg_X12_occurs_32 ⟨by omega, fun z => absurd z ez, fun _ => ⟨by omega, ?_⟩⟩
      rw [show m + -1 = m - 1 by omega]
      refine c_resolved hS hX1 w.1.1 w.1.2 ?_
      generalize hx : re tg (M1 81 (m - 1)) = x
      rw [hx] at hin w
      have b82 := h4 x hin.1 hin.2
      have off : ∀ y, OnS M1 tg m y → y = x ∨ OnS M1 tg (m - 1) y := by
        rintro y ⟨i, hi, e⟩
        by_cases e2 : i = m - 1
        · left; rw [← e, e2, hx]
        · exact Or.inr ⟨i, by omega, e⟩
      refine ⟨by omega, fun z => ⟨by omega, by omega, fun z2 => sg_X12_occurs_118 (ih (4 * unv d M1 + (m - 1).toNat) (by omega) M1 (m - 1) rfl hF ⟨by omega, fun i i0 i1 => h1 i i0 (by omega), ?_, fun y y0 y1 hy => ⟨(h3 y y0 y1 hy).1, fun k k0 k1 => ?_⟩, h4⟩), fun z2 => ⟨by omega, ?_⟩⟩, fun z => k1 (fun P c1 c2 => by have := w.2 P c1 c2; rw [Decidable.not_not.mp z] at this; exact this) M1 hF⟩
      · rcases h2 with e | e
        · exact Or.inl e
        · rcases off n e with e | e
          · rw [e]; exact Or.inl z2
          · exact Or.inr e
      · rcases (h3 y y0 y1 hy).2 k k0 k1 with e | e
        · exact Or.inl e
        · rcases off _ e with e | e
          · rw [e]; exact Or.inl z2
          · exact Or.inr e
      · have z2 : M1 82 x = 0 := Decidable.not_not.mp z2
        have hb := pq_bd hS.1 hS.2.1 hin.1 hin.2
        have hu : unv d (up M1 82 x 1) < unv d M1 := by
          unfold unv
          refine cnt_lt (fun i hi hp => ?_) x.toNat (by omega) ?_ ?_
          · have hp := of_decide_eq_true hp
            by_cases e : (i : Int) = x
            · rw [e, up_same] at hp; omega
            · rw [up_other e] at hp; exact decide_eq_true hp
          · rw [show ((x.toNat : Nat) : Int) = x by omega]; exact decide_eq_true z2
          · rw [show ((x.toNat : Nat) : Int) = x by omega, up_same]; rfl
        have inner : ∀ (c : Nat) (M2 : Mem) (k : Int), (pq g d x - k).toNat = c → 0 ≤ k → k ≤ pq g d x → Fr [81] (up M1 82 x 1) M2 → (∀ i, i < m - 1 → M2 81 i = M1 81 i) → (∀ j, 0 ≤ j → j < k → M2 81 (m - 1 + j) = nK d (x * 3 + j)) → AW mX12_occurs 80 [some (vR 50), some (vI v), some (vI n), some (vI (m - 1 + k)), some (vI x), some (vI k)] [] M2 (QI K) := by
          intro c
          induction c with
          | zero =>
            intro M2 k hc k0 k1 hF2 ho hn
            have ek : k = pq g d x := by omega
            have F2 : Fr [81, 82] M M2 := (hF.up (by decide)).trans (hF2.mono (by decide))
            have a82 : M2 82 = up M1 82 x 1 82 := hF2 82 (by decide)
            have aU : unv d M2 = unv d (up M1 82 x 1) := by unfold unv; rw [a82]
            refine sg_X12_occurs_80 (c_manyOf hS (hX.fr F2 (by decide)) hin.1 hin.2 ⟨by omega, fun _ => sg_X12_occurs_118 (ih (4 * unv d M2 + (m - 1 + k).toNat) (by omega) M2 (m - 1 + k) rfl F2 ⟨by omega, fun i i0 i1 => ?_, ?_, fun y y0 y1 hy => ?_, fun y y0 y1 => ?_⟩), fun y => by omega⟩)
            · by_cases e : i < m - 1
              · rw [ho i e]; exact h1 i i0 (by omega)
              · have wk := hn (i - (m - 1)) (by omega) (by omega)
                rw [show m - 1 + (i - (m - 1)) = i by omega] at wk
                have pp := pq_pos (show 0 ≤ i - (m - 1) ∧ i - (m - 1) < pq g d x by omega)
                have kd := (hS.2.1.kid hin.1 hin.2 pp.1 ⟨by omega, pp.2⟩).1
                rw [wk]
                exact ⟨by omega, fun P c1 c2 => c1 x _ hin.1 hin.2 (by omega) (by omega) (w.2 P c1 c2)⟩
            · have up82 : ∀ y, M1 82 y ≠ 0 → M2 82 y ≠ 0 := fun y hy => by
                rw [a82]
                by_cases e : y = x
                · rw [e, up_same]; decide
                · rw [up_other e]; exact hy
              rcases h2 with e | e
              · exact Or.inl (up82 _ e)
              · rcases off n e with e | ⟨i, hi, e⟩
                · left; rw [e, a82, up_same]; decide
                · exact Or.inr ⟨i, by omega, by rw [ho i hi.2]; exact e⟩
            · have keep : ∀ u, (M1 82 u ≠ 0 ∨ OnS M1 tg m u) → M2 82 u ≠ 0 ∨ OnS M2 tg (m - 1 + k) u := by
                rintro u (e | e)
                · left
                  rw [a82]
                  by_cases e2 : u = x
                  · rw [e2, up_same]; decide
                  · rw [up_other e2]; exact e
                · rcases off u e with e | ⟨i, hi, e⟩
                  · left; rw [e, a82, up_same]; decide
                  · exact Or.inr ⟨i, by omega, by rw [ho i hi.2]; exact e⟩
              by_cases e : y = x
              · subst e
                exact ⟨z, fun j j0 j1 => Or.inr ⟨m - 1 + j, by omega, by rw [hn j j0 (by omega)]; rfl⟩⟩
              · rw [a82, up_other e] at hy
                have w3 := h3 y y0 y1 hy
                exact ⟨w3.1, fun j j0 j1 => keep _ (w3.2 j j0 j1)⟩
            · rw [a82]
              by_cases e : y = x
              · rw [e, up_same]; exact Or.inr rfl
              · rw [up_other e]; exact h4 y y0 y1
          | succ c ic =>
            intro M2 k hc k0 k1 hF2 ho hn
            have F2 : Fr [81, 82] M M2 := (hF.up (by decide)).trans (hF2.mono (by decide))
            have hX2 := hX.fr F2 (by decide)
            have pp := pq_pos (show 0 ≤ k ∧ k < pq g d x by omega)
            have e56 := (hX2.2.1.2 x hin.1 hin.2).2.2 pp.1 k k0 pp.2
            refine sg_X12_occurs_80 (c_manyOf hS hX2 hin.1 hin.2 ⟨by omega, fun y => by omega, fun _ => ⟨by omega, by omega, ?_⟩⟩)
            rw [e56, show m - 1 + k + 1 = m - 1 + (k + 1) by omega]
            refine ic _ (k + 1) (by omega) (by omega) (by omega) (hF2.up (by decide)) (fun i hi => ?_) (fun j j0 j1 => ?_)
            · rw [up_other (by omega)]; exact ho i hi
            · by_cases e : j = k
              · rw [e, up_same]
              · rw [up_other (by omega)]; exact hn j j0 (by omega)
        have := inner _ (up M1 82 x 1) 0 rfl (by omega) (by omega) (Fr.refl _ _) (fun i hi => rfl) (fun j j0 j1 => by omega)
        rw [Int.add_zero] at this
        exact this
  have clr : ∀ (c : Nat) (i : Int) (M1 : Mem), (nN d - i).toNat = c → 0 ≤ i → i ≤ nN d → Fr [81, 82] M M1 → (∀ j, 0 ≤ j → j < i → M1 82 j = 0) → AW mX12_occurs 2 [some (vR 50), some (vI v), some (vI n), some (vI i), none, none] [] M1 (QI K) := by
    intro c
    induction c with
    | zero =>
      intro i M1 hc i0 i1 hF hz
      have e5 : M1 50 5 = nN d := by rw [hF 50 (by decide)]; exact hX.2.1.1
      have hu := cnt_le (p := fun i : Nat => decide (up M1 81 0 n 82 i = 0)) (nN d).toNat
      have hu2 : unv d (up M1 81 0 n) ≤ (nN d).toNat := hu
      have e0 : up M1 81 0 n 81 0 = n := up_same
      refine sg_X12_occurs_2 ⟨by rw [e5]; omega, fun _ => loop _ _ 1 rfl (hF.up (by decide)) ⟨by omega, fun j j0 j1 => ?_, Or.inr ⟨0, by omega, by rw [e0, re_free tn]⟩, fun y y0 y1 hy => absurd (hz y y0 (by omega)) hy, fun y y0 y1 => Or.inl (hz y y0 (by omega))⟩, fun z => by rw [e5] at z; omega⟩
      have e : j = 0 := by omega
      rw [e, e0, re_free tn]
      exact ⟨⟨n0, n1⟩, fun P _ c2 => c2⟩
    | succ c ih =>
      intro i M1 hc i0 i1 hF hz
      have e5 : M1 50 5 = nN d := by rw [hF 50 (by decide)]; exact hX.2.1.1
      refine sg_X12_occurs_2 ⟨by rw [e5]; omega, fun z => by rw [e5] at z; omega, fun _ => ⟨by omega, ih (i + 1) _ (by omega) (by omega) (by omega) (hF.up (by decide)) (fun j j0 j1 => ?_)⟩⟩
      by_cases e : j = i
      · rw [e, up_same]
      · rw [up_other e]; exact hz j j0 (by omega)
  exact en_X12_occurs (clr _ 0 M rfl (by omega) (by omega) (Fr.refl _ _) (fun j j0 j1 => by omega))
theorem UI.ends {n : Int} {L R : Int → Int} (hU : UI g d tg n L R) (hn : 0 < n) : ((0 ≤ re tg (L (n - 1)) ∧ re tg (L (n - 1)) < nN d) ∧ tg (re tg (L (n - 1))) < 0) ∧ ((0 ≤ re tg (R (n - 1)) ∧ re tg (R (n - 1)) < nN d) ∧ tg (re tg (R (n - 1))) < 0) ∧ nY d (re tg (L (n - 1))) = nY d (re tg (R (n - 1))) := by
  obtain ⟨r, hG⟩ := hU.1.2.2.2
  have hT := hU.1.2.2.1
  have w := hU.2.2.1 (n - 1) (by omega) (by omega)
  exact ⟨⟨re_in hT hG w.1.1.1 w.1.1.2, re_tg hT hG w.1.1.1 w.1.1.2⟩, ⟨re_in hT hG w.1.2.1 w.1.2.2, re_tg hT hG w.1.2.1 w.1.2.2⟩, by rw [re_ty hT hG w.1.1.1 w.1.1.2, re_ty hT hG w.1.2.1 w.1.2.2]; exact w.2⟩
theorem nocc {v n : Int} (o : ¬ Occ g d tg v n) : ∃ P, Clo g d tg P ∧ P n ∧ ¬ P v := Classical.byContradiction (fun w => o (fun P c1 c2 => Classical.byContradiction (fun c3 => w ⟨P, c1, c2, c3⟩)))
theorem leafc {x : Int} (hx : nC d x < 0) : Clo g d tg (fun y => y = x) := fun y k y0 y1 k0 k1 hy => by
  subst hy
  unfold pq at k1
  rw [if_pos hx] at k1
  omega
/-- the reference's memory while it unifies -/
def MU (d : Nd) (M0 : Mem) (tg0 tg : Int → Int) (n : Int) (L R dn : Int → Int) (M : Mem) : Prop := (Fr [50, 57, 77, 78, 79, 80, 81, 82] M0 M ∧ ∀ f : Int, f ≠ 34 → f ≠ 37 → M 50 f = M0 50 f) ∧ MTg d tg M ∧ M 50 34 = n ∧ (∀ i, 0 ≤ i → i < n → M 77 i = L i ∧ M 78 i = R i) ∧ (∀ x, 0 ≤ x → x < 10000 → M 79 x = dn x ∧ (dn x = 0 ∨ dn x = 1)) ∧ (0 ≤ M 50 37 ∧ M 50 37 + (fcn d tg : Nat) ≤ nN d) ∧ (∀ k, 0 ≤ k → k < M 50 37 → (0 ≤ M 80 k ∧ M 80 k < nN d) ∧ tg0 (M 80 k) < 0) ∧ ∀ x, 0 ≤ x → x < nN d → tg x = tg0 x ∨ ∃ k, (0 ≤ k ∧ k < M 50 37) ∧ M 80 k = x
theorem MU.keep {M0 M : Mem} {tg0 : Int → Int} {n : Int} {L R dn : Int → Int} (h : MU d M0 tg0 tg n L R dn M) (hS : MSig g M0) (hD : MNod g d M0) : MMR g d tg M := by
  have k : ∀ x ∈ [(0 : Int), 1, 5], M 50 x = M0 50 x := fun x hx => h.1.2 x (by revert hx; revert x; decide) (by revert hx; revert x; decide)
  refine ⟨?_, ?_, h.2.1⟩
  · unfold MSig
    rw [k 0 (by decide), k 1 (by decide), h.1.1 51 (by decide), h.1.1 52 (by decide), h.1.1 53 (by decide)]
    exact hS
  · unfold MNod
    rw [k 5 (by decide), h.1.1 54 (by decide), h.1.1 55 (by decide), h.1.1 56 (by decide)]
    exact hD
theorem c_undo {M0 : Mem} {K : Int → Mem → Prop} {tg0 : Int → Int} {n a b p q out : Int} {L R dn : Int → Int} (hN : NdOK g d)
    (kk : ∀ M', Fr [50, 57, 77, 78, 79, 80, 81, 82] M0 M' → (∀ f : Int, f ≠ 34 → f ≠ 37 → M' 50 f = M0 50 f) → MTg d tg0 M' → K out M')
    : ∀ (c : Nat) (M M1 : Mem) (k : Int), (M 50 37 - k).toNat = c → 0 ≤ k → k ≤ M 50 37 → MU d M0 tg0 tg n L R dn M → Fr [57] M M1 → (∀ x, 0 ≤ x → x < nN d → (M1 57 x = nv (tg x) ∧ ∀ j, 0 ≤ j → j < k → M 80 j ≠ x) ∨ M1 57 x = nv (tg0 x)) → AW mX12_unify 121 [some (vR 50), some (vI a), some (vI b), some (vI p), some (vI q), some (vI out), some (vI k)] [] M1 (QI K) := by
  intro c
  have bn := hN.1
  induction c with
  | zero =>
    intro M M1 k hc k0 k1 hM hF hx
    have e50 : M1 50 = M 50 := hF 50 (by decide)
    have hfc := hM.2.2.2.2.2.1
    refine sg_X12_unify_121 ⟨by rw [e50]; omega, fun _ => kk M1 (hM.1.1.trans (hF.mono (by decide))) (fun f h1 h2 => by rw [e50]; exact hM.1.2 f h1 h2) (fun x x0 x1 => ?_), fun z => by rw [e50] at z; omega⟩
    rcases hx x x0 x1 with ⟨e, hno⟩ | e
    · rcases hM.2.2.2.2.2.2.2 x x0 x1 with w | ⟨j, hj, ej⟩
      · rw [e, w]
      · exact absurd ej (hno j hj.1 (by omega))
    · exact e
  | succ c ih =>
    intro M M1 k hc k0 k1 hM hF hx
    have e50 : M1 50 = M 50 := hF 50 (by decide)
    have e80 : M1 80 = M 80 := hF 80 (by decide)
    have hfc := hM.2.2.2.2.2.1
    have w := hM.2.2.2.2.2.2.1 k k0 (by omega)
    refine sg_X12_unify_121 ⟨by rw [e50]; omega, fun z => by rw [e50] at z; omega, fun _ => ⟨by omega, ?_⟩⟩
    rw [e80]
    refine ⟨by omega, ih M _ (k + 1) (by omega) (by omega) (by omega) hM (hF.up (by decide)) (fun x x0 x1 => ?_)⟩
    by_cases e : x = M 80 k
    · right
      rw [e, up_same]
      unfold nv
      rw [if_pos w.2]
    · rw [up_other e]
      rcases hx x x0 x1 with ⟨e1, hno⟩ | e1
      · refine Or.inl ⟨e1, fun j j0 j1 => ?_⟩
        by_cases e2 : j = k
        · rw [e2]; exact fun z => e z.symm
        · exact hno j j0 (by omega)
      · exact Or.inr e1
theorem MU.bind {M0 M M1 : Mem} {tg0 : Int → Int} {n v w : Int} {L R dn : Int → Int} (hN : NdOK g d) (h : MU d M0 tg0 tg n L R dn M) (hF : Fr [81, 82] M M1) (v0 : 0 ≤ v) (v1 : v < nN d) (tv : tg v < 0) (w0 : 0 ≤ w) (h0 : tg0 v < 0) : (0 ≤ M1 50 37 ∧ M1 50 37 < 100) ∧ MU d M0 tg0 (st1 tg v w) n L R dn (up (up (up M1 57 v w) 80 (M1 50 37) v) 50 37 (M1 50 37 + 1)) := by
  obtain ⟨h1, h2, h3, h4, h5, h6, h7, h8⟩ := h
  have bn := hN.1
  have hfc := fcn_bind v0 v1 tv w0
  have e50 : M1 50 = M 50 := hF 50 (by decide)
  have e80 : M1 80 = M 80 := hF 80 (by decide)
  rw [e50]
  refine ⟨by omega, ⟨((((h1.1.trans (hF.mono (by decide))).up (by decide)).up (by decide)).up (by decide)), fun f a b => ?_⟩, fun x x0 x1 => ?_, ?_, fun i i0 i1 => ?_, ?_, ?_, fun k k0 k1 => ?_, fun x x0 x1 => ?_⟩
  · rw [up_other b, up_ne (by decide), up_ne (by decide), e50]; exact h1.2 f a b
  · rw [up_ne (by decide), up_ne (by decide)]
    by_cases e : x = v
    · rw [e, up_same, st1_same]; unfold nv; rw [if_neg (by omega)]
    · rw [up_other e, st1_ne e, hF 57 (by decide)]; exact h2 x x0 x1
  · rw [up_other (by decide), up_ne (by decide), up_ne (by decide), e50]; exact h3
  · rw [up_ne (by decide), up_ne (by decide), up_ne (by decide), up_ne (by decide), up_ne (by decide), up_ne (by decide), hF 77 (by decide), hF 78 (by decide)]; exact h4 i i0 i1
  · rw [up_ne (by decide), up_ne (by decide), up_ne (by decide), hF 79 (by decide)]; exact h5
  · rw [up_same]; omega
  · rw [up_same] at k1
    rw [up_ne (by decide)]
    by_cases e : k = M 50 37
    · rw [e, up_same]; exact ⟨⟨v0, v1⟩, h0⟩
    · rw [up_other e, up_ne (by decide), e80]; exact h7 k k0 (by omega)
  · rw [up_same]
    by_cases e : x = v
    · exact Or.inr ⟨M 50 37, by omega, by rw [up_ne (by decide), e, up_same]⟩
    · rw [st1_ne e]
      rcases h8 x x0 x1 with z | ⟨k, hk, ek⟩
      · exact Or.inl z
      · exact Or.inr ⟨k, by omega, by rw [up_ne (by decide), up_other (by omega), up_ne (by decide), e80]; exact ek⟩
end
