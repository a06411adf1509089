/-! what holds between calls -/
def Sav (g : Sg) (d : Nd) (M : Mem) : Prop := (0 ≤ M 41 0 ∧ M 41 0 ≤ 8) ∧ M 50 11 = M 41 0 ∧ ∀ j, 0 ≤ j → j < M 41 0 → TgG g d (fun n => M 42 (j * 100 + n)) ∧ ∀ n, 0 ≤ n → n < 100 → M 58 (100 * j + n) = nv (M 42 (j * 100 + n))
def Rws (d : Nd) (M : Mem) : Prop := (0 ≤ M 43 1 ∧ M 43 1 ≤ 8) ∧ M 50 13 = M 43 1 ∧ ∀ j, 0 ≤ j → j < M 43 1 → M 59 j = M 44 j ∧ (0 ≤ M 44 j ∧ M 44 j < nN d) ∧ nY d (M 44 j) = nY d (M 44 0)
def Core (g : Sg) (d : Nd) (tg : Int → Int) (M : Mem) : Prop := StOK g d tg ∧ XR g d tg M ∧ MMR g d tg M ∧ XPop g M ∧ XCnt g M ∧ Sav g d M ∧ Rws d M
def Ctr (c : Nat) (M : Mem) : Prop := (0 ≤ M 28 3 ∧ M 28 3 ≤ 101 * c) ∧ (0 ≤ M 37 3 ∧ M 37 3 ≤ 101 * c) ∧ (0 ≤ M 43 3 ∧ M 43 3 ≤ 128000 * c) ∧ (∀ n, 0 ≤ n → n < 100 → 0 ≤ M 30 n ∧ M 30 n ≤ M 28 3) ∧ (∀ n, 0 ≤ n → n < 100 → 0 ≤ M 39 n ∧ M 39 n ≤ M 37 3) ∧ ∀ n, 0 ≤ n → n < 100 → 0 ≤ M 45 n ∧ M 45 n ≤ M 43 3
def Inv (c : Nat) (M : Mem) : Prop := ∃ g d tg, Core g d tg M ∧ Ctr c M
/-- the reference's turn -/
def Then (m : MR) (args : List AV) (c : Nat) (r : Int) (M1 : Mem) : Prop := InR r ∧ ∀ K2 : Int → Mem → Prop, (∀ M2, Inv (c + 1) M2 → K2 r M2) → CI m args M1 K2
def keepL : List Nat := [1, 2, 3, 4, 6, 7, 9, 10, 11, 12, 13, 14, 15, 16, 41, 42, 44, 51, 52, 53, 54, 55, 56, 57, 58, 59]
def Keep (M M' : Mem) : Prop := (∀ h ∈ keepL, M' h = M h) ∧ M' 43 1 = M 43 1 ∧ M' 50 0 = M 50 0 ∧ M' 50 1 = M 50 1 ∧ M' 50 5 = M 50 5 ∧ M' 50 11 = M 50 11 ∧ M' 50 13 = M 50 13
theorem Keep.of {S : List Nat} {M M' : Mem} (f : Fr S M M') (hs : ∀ x ∈ 43 :: 50 :: keepL, x ∉ S) : Keep M M' := by
  have e43 := f 43 (hs 43 (by decide))
  have e50 := f 50 (hs 50 (by decide))
  refine ⟨fun h hh => f h (hs h (List.mem_cons_of_mem _ (List.mem_cons_of_mem _ hh))), ?_, ?_, ?_, ?_, ?_, ?_⟩
  · rw [e43]
  · rw [e50]
  · rw [e50]
  · rw [e50]
  · rw [e50]
  · rw [e50]
theorem Keep.tr {M M1 M2 : Mem} (a : Keep M M1) (b : Keep M1 M2) : Keep M M2 := by
  obtain ⟨a0, a1, a2, a3, a4, a5, a6⟩ := a
  obtain ⟨b0, b1, b2, b3, b4, b5, b6⟩ := b
  exact ⟨fun h hh => (b0 h hh).trans (a0 h hh), b1.trans a1, b2.trans a2, b3.trans a3, b4.trans a4, b5.trans a5, b6.trans a6⟩
theorem XSig.keep {g : Sg} {M M' : Mem} (h : XSig g M) (k : Keep M M') : XSig g M' := by
  unfold XSig
  rw [k.1 1 (by decide), k.1 2 (by decide), k.1 3 (by decide), k.1 4 (by decide)]
  exact h
theorem XR.keep {g : Sg} {d : Nd} {tg : Int → Int} {M M' : Mem} (h : XR g d tg M) (k : Keep M M') : XR g d tg M' := by
  refine ⟨h.1.keep k, ?_, ?_⟩
  · unfold XNod
    rw [k.1 12 (by decide), k.1 13 (by decide), k.1 14 (by decide), k.1 15 (by decide)]
    exact h.2.1
  · rw [k.1 16 (by decide)]
    exact h.2.2
theorem MSig.keep {g : Sg} {M M' : Mem} (h : MSig g M) (k : Keep M M') : MSig g M' := by
  unfold MSig
  rw [k.2.2.1, k.2.2.2.1, k.1 51 (by decide), k.1 52 (by decide), k.1 53 (by decide)]
  exact h
theorem MMR.keep {g : Sg} {d : Nd} {tg : Int → Int} {M M' : Mem} (h : MMR g d tg M) (k : Keep M M') : MMR g d tg M' := by
  refine ⟨h.1.keep k, ?_, ?_⟩
  · unfold MNod
    rw [k.2.2.2.2.1, k.1 54 (by decide), k.1 55 (by decide), k.1 56 (by decide)]
    exact h.2.1
  · unfold MTg
    rw [k.1 57 (by decide)]
    exact h.2.2
theorem XPop.keep {g : Sg} {M M' : Mem} (h : XPop g M) (k : Keep M M') : XPop g M' := by
  unfold XPop
  rw [k.1 6 (by decide), k.1 7 (by decide)]
  exact h
theorem XCnt.keep {g : Sg} {M M' : Mem} (h : XCnt g M) (k : Keep M M') : XCnt g M' := by
  unfold XCnt
  rw [k.1 9 (by decide), k.1 10 (by decide), k.1 11 (by decide)]
  exact h
theorem Core.keep {g : Sg} {d : Nd} {tg : Int → Int} {M M' : Mem} (h : Core g d tg M) (k : Keep M M') : Core g d tg M' := by
  obtain ⟨h1, h2, h3, h4, h5, h6, h7⟩ := h
  refine ⟨h1, h2.keep k, h3.keep k, h4.keep k, h5.keep k, ?_, ?_⟩
  · unfold Sav
    rw [k.1 41 (by decide), k.1 42 (by decide), k.1 58 (by decide), k.2.2.2.2.2.1]
    exact h6
  · unfold Rws
    rw [k.1 44 (by decide), k.1 59 (by decide), k.2.1, k.2.2.2.2.2.2]
    exact h7
theorem Ctr.up {c : Nat} {M : Mem} (h : Ctr c M) : Ctr (c + 1) M := by
  obtain ⟨h1, h2, h3, h4⟩ := h
  exact ⟨⟨h1.1, by omega⟩, ⟨h2.1, by omega⟩, ⟨h3.1, by omega⟩, h4⟩
theorem Ctr.keep {c : Nat} {M M' : Mem} (h : Ctr c M) (k : ∀ x ∈ [28, 30, 37, 39, 43, 45], M' x = M x) : Ctr c M' := by
  unfold Ctr
  rw [k 28 (by decide), k 30 (by decide), k 37 (by decide), k 39 (by decide), k 43 (by decide), k 45 (by decide)]
  exact h
theorem Ctr.fr {c : Nat} {S : List Nat} {M M' : Mem} (h : Ctr c M) (f : Fr S M M') (hs : ∀ x ∈ [28, 30, 37, 39, 43, 45], x ∉ S) : Ctr c M' := h.keep (fun x hx => f x (hs x hx))
theorem Core.facts {g : Sg} {d : Nd} {tg : Int → Int} {M : Mem} (h : Core g d tg M) : (M 1 0 = gT g ∧ M 1 1 = gN g ∧ M 50 0 = gT g ∧ M 50 1 = gN g ∧ M 12 1 = nN d ∧ M 50 5 = nN d) ∧ (0 ≤ gT g ∧ gT g ≤ 4) ∧ (0 ≤ gN g ∧ gN g ≤ 12) ∧ (0 ≤ nN d ∧ nN d ≤ 100) :=
  ⟨⟨h.2.1.1.1, h.2.1.1.2.1, h.2.2.1.1.1, h.2.2.1.1.2.1, h.2.1.2.1.1, h.2.2.1.2.1.1⟩, h.1.1.1, h.1.1.2.1, h.1.2.1.1⟩
/-! calls that change nothing that counts -/
section
variable {c : Nat} {M : Mem} {K : Int → Mem → Prop}
theorem op_resultType (h : Inv c M) {v : Int} (hv : InR v) (kk : ∀ r M1, Then mX12_resultType [vR 50, vI v] c r M1 → K r M1) : CI mX11_resultType [vR 0, vI v] M K := by
  obtain ⟨g, d, tg, hC, hc⟩ := h
  have hI : Inv (c + 1) M := ⟨g, d, tg, hC, hc.up⟩
  obtain ⟨⟨f1, f2, f3, f4, f5, f6⟩, b1, b2, b3⟩ := hC.facts
  refine en_X11_resultType (c_hasConstructor hv (by omega) (fun q => ⟨by decide, fun _ => ⟨by omega, kk _ M ?_⟩, fun z => absurd (by decide) z⟩) (fun q => ⟨by decide, fun z => absurd rfl z, fun _ => kk _ M ⟨by decide, fun K2 k2 => ?_⟩⟩))
  · have hr := hC.1.1.r q.1 (show v < gN g by omega)
    have e1 := (hC.2.2.1.1.2.2 v q.1 (by omega)).1
    rw [hC.2.1.1.2.2.1]
    refine ⟨by omega, fun K2 k2 => en_X12_resultType (c_isConstructor hv (by omega) (fun q2 => ⟨by decide, fun z => absurd z (by decide), fun _ => ⟨by omega, ?_⟩⟩) (fun q2 => absurd (show 0 ≤ v ∧ v < M 50 1 by omega) q2))⟩
    rw [e1]
    exact k2 M hI
  · exact en_X12_resultType (c_isConstructor hv (by omega) (fun q2 => absurd (show 0 ≤ v ∧ v < M 1 1 by omega) q) (fun q2 => ⟨by decide, fun _ => k2 M hI, fun z => absurd rfl z⟩))
theorem op_arity (h : Inv c M) {v : Int} (hv : InR v) (kk : ∀ r M1, Then mX12_arity [vR 50, vI v] c r M1 → K r M1) : CI mX11_arity [vR 0, vI v] M K := by
  obtain ⟨g, d, tg, hC, hc⟩ := h
  have hI : Inv (c + 1) M := ⟨g, d, tg, hC, hc.up⟩
  obtain ⟨⟨f1, f2, f3, f4, f5, f6⟩, b1, b2, b3⟩ := hC.facts
  refine en_X11_arity (c_hasConstructor hv (by omega) (fun q => ⟨by decide, fun _ => ⟨by omega, kk _ M ?_⟩, fun z => absurd (by decide) z⟩) (fun q => ⟨by decide, fun z => absurd rfl z, fun _ => kk _ M ⟨by decide, fun K2 k2 => ?_⟩⟩))
  · have hr := hC.1.1.a q.1 (show v < gN g by omega)
    have e1 := (hC.2.2.1.1.2.2 v q.1 (by omega)).2.1
    rw [hC.2.1.1.2.2.2.1]
    refine ⟨by omega, fun K2 k2 => en_X12_arity (c_isConstructor hv (by omega) (fun q2 => ⟨by decide, fun z => absurd z (by decide), fun _ => ⟨by omega, ?_⟩⟩) (fun q2 => absurd (show 0 ≤ v ∧ v < M 50 1 by omega) q2))⟩
    rw [e1]
    exact k2 M hI
  · exact en_X12_arity (c_isConstructor hv (by omega) (fun q2 => absurd (show 0 ≤ v ∧ v < M 1 1 by omega) q) (fun q2 => ⟨by decide, fun _ => k2 M hI, fun z => absurd rfl z⟩))
theorem op_argumentType (h : Inv c M) {v w : Int} (hv : InR v) (hw : InR w) (kk : ∀ r M1, Then mX12_argumentType [vR 50, vI v, vI w] c r M1 → K r M1) : CI mX11_argumentType [vR 0, vI v, vI w] M K := by
  obtain ⟨g, d, tg, hC, hc⟩ := h
  have hI : Inv (c + 1) M := ⟨g, d, tg, hC, hc.up⟩
  obtain ⟨⟨f1, f2, f3, f4, f5, f6⟩, b1, b2, b3⟩ := hC.facts
  refine en_X11_argumentType (c_hasConstructor hv (by omega) (fun q => ⟨by decide, fun _ => ?_, fun z => absurd (by decide) z⟩) (fun q => ⟨by decide, fun z => absurd rfl z, fun _ => kk _ M ⟨by decide, fun K2 k2 => ?_⟩⟩))
  · have ha := hC.1.1.a q.1 (show v < gN g by omega)
    have e3 : M 3 v = gA g v := by rw [hC.2.1.1.2.2.2.1]
    have e52 := (hC.2.2.1.1.2.2 v q.1 (by omega)).2.1
    have no : ¬ (0 ≤ w ∧ w < gA g v) → Then mX12_argumentType [vR 50, vI v, vI w] c (-13) M := by
      intro nq
      refine ⟨by decide, fun K2 k2 => en_X12_argumentType (c_isConstructor hv (by omega) (fun q2 => ⟨by decide, fun _ => ⟨by omega, c_in hw (by decide) (by rw [e52]; omega) (fun z => absurd (show 0 ≤ w ∧ w < gA g v by rw [e52] at z; omega) nq) (fun z => ⟨by decide, fun _ => k2 M hI, fun z => absurd rfl z⟩)⟩, fun z => absurd (by decide) z⟩) (fun q2 => absurd (show 0 ≤ v ∧ v < M 50 1 by omega) q2))⟩
    refine ⟨hw, fun z => kk _ M (no (by omega)), fun z => ⟨by omega, ⟨hw, by rw [e3]; omega⟩, fun z2 => c_typeOfArgument (by omega) (by rw [e3] at z2; omega) (kk _ M ?_), fun z2 => kk _ M (no (by rw [e3] at z2; omega))⟩⟩
    rw [e3] at z2
    have hgg := hC.1.1.g q.1 (show v < gN g by omega) (show 0 ≤ w by omega) z2
    have e53 := (hC.2.2.1.1.2.2 v q.1 (by omega)).2.2 w (by omega) z2
    rw [hC.2.1.1.2.2.2.2]
    refine ⟨by omega, fun K2 k2 => en_X12_argumentType (c_isConstructor hv (by omega) (fun q2 => ⟨by decide, fun _ => ⟨by omega, c_in hw (by decide) (by rw [e52]; omega) (fun z => ⟨by decide, fun z => absurd z (by decide), fun _ => ⟨by omega, ?_⟩⟩) (fun z => absurd (show 0 ≤ w ∧ w ≤ M 50 1 - 1 from absurd (show 0 ≤ w ∧ w ≤ M 52 v - 1 by rw [e52]; omega) z) (fun _ => z (by rw [e52]; omega)))⟩, fun z => absurd (by decide) z⟩) (fun q2 => absurd (show 0 ≤ v ∧ v < M 50 1 by omega) q2))⟩
    rw [e53]
    exact k2 M hI
  · exact en_X12_argumentType (c_isConstructor hv (by omega) (fun q2 => absurd (show 0 ≤ v ∧ v < M 1 1 by omega) q) (fun q2 => ⟨by decide, fun z => absurd rfl z, fun _ => k2 M hI⟩))
theorem op_cardinality (h : Inv c M) {v : Int} (hv : InR v) (kk : ∀ r M1, Then mX12_cardinality [vR 50, vI v] c r M1 → K r M1) : CI mX11_cardinality [vR 0, vI v] M K := by
  obtain ⟨g, d, tg, hC, hc⟩ := h
  have hI : Inv (c + 1) M := ⟨g, d, tg, hC, hc.up⟩
  obtain ⟨⟨f1, f2, f3, f4, f5, f6⟩, b1, b2, b3⟩ := hC.facts
  refine c_cardX hC.1.1 hC.2.1.1 hv (fun q => kk _ M ⟨by decide, fun K2 k2 => c_cardM hC.1.1 hC.2.2.1.1 hv (fun _ => k2 M hI) (fun z => absurd z q)⟩) (fun q => kk _ M ?_)
  have hT := hC.2.2.2.1.2 v q.1 (by omega)
  have bV := Vk_bd (g := g) 4 v
  refine ⟨by omega, fun K2 k2 => c_cardM hC.1.1 hC.2.2.1.1 hv (fun z => absurd q z) (fun _ M' x hF hx => ?_)⟩
  have e : x = M 7 v := by
    rcases hT with t | t <;> rcases hx with y | y
    · rw [t.2, y.2]
    · exact absurd t.1 y.1
    · exact absurd y.1 t.1
    · rw [t.2, y.2]
  rw [e]
  exact k2 M' ⟨g, d, tg, hC.keep (Keep.of hF (by decide)), hc.up.fr hF (by decide)⟩
theorem op_smallestSize (h : Inv c M) {v : Int} (hv : InR v) (kk : ∀ r M1, Then mX12_smallestSize [vR 50, vI v] c r M1 → K r M1) : CI mX11_smallestSize [vR 0, vI v] M K := by
  obtain ⟨g, d, tg, hC, hc⟩ := h
  have hI : Inv (c + 1) M := ⟨g, d, tg, hC, hc.up⟩
  obtain ⟨⟨f1, f2, f3, f4, f5, f6⟩, b1, b2, b3⟩ := hC.facts
  refine en_X11_smallestSize (c_hasType hv (by omega) (fun q => ⟨by decide, fun _ => ⟨by omega, kk _ M ?_⟩, fun z => absurd (by decide) z⟩) (fun q => ⟨by decide, fun z => absurd rfl z, fun _ => kk _ M ⟨by decide, fun K2 k2 => ?_⟩⟩))
  · rw [hC.2.2.2.1.1 v q.1 (by omega)]
    have b := (rdn_gd hC.1.1 4).bd v
    have b2 : -13 ≤ Sm g v ∧ Sm g v ≤ 256 := b
    refine ⟨by omega, fun K2 k2 => en_X12_smallestSize (c_isType hv (by omega) (fun q2 => ⟨by decide, fun _ => c_laySmallest hC.1.1 hC.2.2.1.1 (fun M' hF h60 => ⟨by omega, ?_⟩), fun z => absurd (by decide) z⟩) (fun q2 => absurd (show 0 ≤ v ∧ v < M 50 0 by omega) q2))⟩
    rw [h60 v q.1 (by omega)]
    exact k2 M' ⟨g, d, tg, hC.keep (Keep.of hF (by decide)), hc.up.fr hF (by decide)⟩
  · exact en_X12_smallestSize (c_isType hv (by omega) (fun q2 => absurd (show 0 ≤ v ∧ v < M 1 0 by omega) q) (fun q2 => ⟨by decide, fun z => absurd rfl z, fun _ => k2 M hI⟩))
theorem op_count (h : Inv c M) {v w : Int} (hv : InR v) (hw : InR w) (kk : ∀ r M1, Then mX12_count [vR 50, vI v, vI w] c r M1 → K r M1) : CI mX11_count [vR 0, vI v, vI w] M K := by
  obtain ⟨g, d, tg, hC, hc⟩ := h
  have hI : Inv (c + 1) M := ⟨g, d, tg, hC, hc.up⟩
  obtain ⟨⟨f1, f2, f3, f4, f5, f6⟩, b1, b2, b3⟩ := hC.facts
  refine en_X11_count (c_hasType hv (by omega) (fun q => ⟨by decide, fun _ => ?_, fun z => absurd (by decide) z⟩) (fun q => ⟨by decide, fun z => absurd rfl z, fun _ => kk _ M ⟨by decide, fun K2 k2 => ?_⟩⟩))
  · have no : ¬ (1 ≤ w ∧ w ≤ 12) → Then mX12_count [vR 50, vI v, vI w] c (-4) M := by
      intro nq
      exact ⟨by decide, fun K2 k2 => en_X12_count (c_isType hv (by omega) (fun q2 => ⟨by decide, fun _ => c_in hw (by decide) (by decide) (fun z => absurd z nq) (fun z => ⟨by decide, fun z => absurd rfl z, fun _ => k2 M hI⟩), fun z => absurd (by decide) z⟩) (fun q2 => absurd (show 0 ≤ v ∧ v < M 50 0 by omega) q2))⟩
    refine ⟨hw, fun z => kk _ M (no (by omega)), fun z => ⟨hw, fun z2 => c_countOf (by omega) (by omega) (kk _ M ?_), fun z2 => kk _ M (no (by omega))⟩⟩
    rw [hC.2.2.2.2.1.1 v w q.1 (by omega) (by omega) z2]
    have b := Cs_bd (g := g) v w
    refine ⟨by omega, fun K2 k2 => en_X12_count (c_isType hv (by omega) (fun q2 => ⟨by decide, fun _ => c_in hw (by decide) (by decide) (fun y => ⟨by decide, fun _ => c_layCounts hC.1.1 hC.2.2.1.1 (fun M' hF hM => c_countOfM (by omega) (by omega) ?_), fun z => absurd (by decide) z⟩) (fun y => absurd (show 1 ≤ w ∧ w ≤ 12 by omega) y), fun z => absurd (by decide) z⟩) (fun q2 => absurd (show 0 ≤ v ∧ v < M 50 0 by omega) q2))⟩
    rw [hM.1 v w q.1 (by omega) (by omega) z2]
    exact k2 M' ⟨g, d, tg, hC.keep (Keep.of hF (by decide)), hc.up.fr hF (by decide)⟩
  · exact en_X12_count (c_isType hv (by omega) (fun q2 => absurd (show 0 ≤ v ∧ v < M 1 0 by omega) q) (fun q2 => ⟨by decide, fun z => absurd rfl z, fun _ => k2 M hI⟩))
theorem op_nodeCount (h : Inv c M) (kk : ∀ r M1, Then mX12_nodeCount [vR 50] c r M1 → K r M1) : CI mX11_nodeCount [vR 0] M K := by
  obtain ⟨g, d, tg, hC, hc⟩ := h
  have hI : Inv (c + 1) M := ⟨g, d, tg, hC, hc.up⟩
  obtain ⟨⟨f1, f2, f3, f4, f5, f6⟩, b1, b2, b3⟩ := hC.facts
  refine en_X11_nodeCount (kk _ M ⟨by omega, fun K2 k2 => en_X12_nodeCount ?_⟩)
  rw [f6, ← f5]
  exact k2 M hI
theorem op_nodeType (h : Inv c M) {v : Int} (hv : InR v) (kk : ∀ r M1, Then mX12_nodeType [vR 50, vI v] c r M1 → K r M1) : CI mX11_nodeType [vR 0, vI v] M K := by
  obtain ⟨g, d, tg, hC, hc⟩ := h
  have hI : Inv (c + 1) M := ⟨g, d, tg, hC, hc.up⟩
  obtain ⟨⟨f1, f2, f3, f4, f5, f6⟩, b1, b2, b3⟩ := hC.facts
  refine en_X11_nodeType (c_contains hv (by omega) (fun q => ⟨by decide, fun _ => ⟨by omega, kk _ M ?_⟩, fun z => absurd (by decide) z⟩) (fun q => ⟨by decide, fun z => absurd rfl z, fun _ => kk _ M ⟨by decide, fun K2 k2 => ?_⟩⟩))
  · have e1 := (hC.2.2.1.2.1.2 v q.1 (by omega)).1
    have b := (hC.1.2.1.2 v q.1 (by omega)).1
    rw [hC.2.1.2.1.2.1]
    refine ⟨by omega, fun K2 k2 => en_X12_nodeType (c_isNode hv (by omega) (fun q2 => ⟨by decide, fun z => absurd z (by decide), fun _ => ⟨by omega, ?_⟩⟩) (fun q2 => absurd (show 0 ≤ v ∧ v < M 50 5 by omega) q2))⟩
    rw [e1]
    exact k2 M hI
  · exact en_X12_nodeType (c_isNode hv (by omega) (fun q2 => absurd (show 0 ≤ v ∧ v < M 12 1 by omega) q) (fun q2 => ⟨by decide, fun _ => k2 M hI, fun z => absurd rfl z⟩))
theorem op_binding (h : Inv c M) {v : Int} (hv : InR v) (kk : ∀ r M1, Then mX12_binding [vR 50, vI v] c r M1 → K r M1) : CI mX11_binding [vR 0, vI v] M K := by
  obtain ⟨g, d, tg, hC, hc⟩ := h
  have hI : Inv (c + 1) M := ⟨g, d, tg, hC, hc.up⟩
  obtain ⟨⟨f1, f2, f3, f4, f5, f6⟩, b1, b2, b3⟩ := hC.facts
  refine en_X11_binding (c_contains hv (by omega) (fun q => ⟨by decide, fun _ => ?_, fun z => absurd (by decide) z⟩) (fun q => ⟨by decide, fun z => absurd rfl z, fun _ => kk _ M ⟨by decide, fun K2 k2 => ?_⟩⟩))
  · have e1 := hC.2.2.1.2.2 v q.1 (by omega)
    have b := hC.1.2.2.1.1 v q.1 (by omega)
    rw [hC.2.1.2.2]
    refine ⟨by omega, by omega, fun z => ⟨by omega, kk _ M ⟨by omega, fun K2 k2 => en_X12_binding (c_isNode hv (by omega) (fun q2 => ⟨by decide, fun z => absurd z (by decide), fun _ => ⟨by omega, ?_⟩⟩) (fun q2 => absurd (show 0 ≤ v ∧ v < M 50 5 by omega) q2))⟩⟩, fun z => kk _ M ⟨by decide, fun K2 k2 => en_X12_binding (c_isNode hv (by omega) (fun q2 => ⟨by decide, fun z => absurd z (by decide), fun _ => ⟨by omega, ?_⟩⟩) (fun q2 => absurd (show 0 ≤ v ∧ v < M 50 5 by omega) q2))⟩⟩
    · rw [e1]
      unfold nv
      rw [if_neg (by omega)]
      exact k2 M hI
    · rw [e1]
      unfold nv
      rw [if_pos (by omega)]
      exact k2 M hI
  · exact en_X12_binding (c_isNode hv (by omega) (fun q2 => absurd (show 0 ≤ v ∧ v < M 12 1 by omega) q) (fun q2 => ⟨by decide, fun _ => k2 M hI, fun z => absurd rfl z⟩))
theorem op_head (h : Inv c M) {v : Int} (hv : InR v) (kk : ∀ r M1, Then mX12_head [vR 50, vI v] c r M1 → K r M1) : CI mX11_head [vR 0, vI v] M K := by
  obtain ⟨g, d, tg, hC, hc⟩ := h
  have hI : Inv (c + 1) M := ⟨g, d, tg, hC, hc.up⟩
  obtain ⟨⟨f1, f2, f3, f4, f5, f6⟩, b1, b2, b3⟩ := hC.facts
  obtain ⟨r, hG⟩ := hC.1.2.2.2
  refine en_X11_head (c_contains hv (by omega) (fun q => ⟨by decide, fun _ => c_resolve hC.1 hC.2.1 q.1 (by omega) ?_, fun z => absurd (by decide) z⟩) (fun q => ⟨by decide, fun z => absurd rfl z, fun _ => kk _ M ⟨by decide, fun K2 k2 => ?_⟩⟩))
  · have hin := re_in hC.1.2.2.1 hG q.1 (show v < nN d by omega)
    have hb := hC.1.2.1.cbd hC.1.1 hin.1 hin.2
    have e14 : M 14 = nC d := hC.2.1.2.1.2.2.1
    have e54 := (hC.2.2.1.2.1.2 _ hin.1 hin.2).2.1
    have fin : ∀ x : Int, nv (nC d (re tg v)) = x → InR x → Then mX12_head [vR 50, vI v] c x M := by
      intro x ex hx
      refine ⟨hx, fun K2 k2 => en_X12_head (c_isNode hv (by omega) (fun q2 => ⟨by decide, fun z => absurd z (by decide), fun _ => c_resolved hC.1 hC.2.2.1 q.1 (by omega) ⟨by omega, ?_⟩⟩) (fun q2 => absurd (show 0 ≤ v ∧ v < M 50 5 by omega) q2))⟩
      rw [e54, ex]
      exact k2 M hI
    refine c_isVariable (by omega) (by rw [e14]; omega) (fun z => ⟨by decide, fun y => absurd y (by decide), fun _ => kk _ M (fin _ ?_ (by decide))⟩) (fun z => ⟨by decide, fun _ => ⟨by omega, kk _ M (fin _ ?_ (by rw [e14]; omega))⟩, fun y => absurd rfl y⟩)
    · rw [e14] at z
      unfold nv
      rw [if_pos (by omega)]
    · rw [e14] at z ⊢
      unfold nv
      rw [if_neg (by omega)]
  · exact en_X12_head (c_isNode hv (by omega) (fun q2 => absurd (show 0 ≤ v ∧ v < M 12 1 by omega) q) (fun q2 => ⟨by decide, fun _ => k2 M hI, fun z => absurd rfl z⟩))
theorem op_child (h : Inv c M) {v w : Int} (hv : InR v) (hw : InR w) (kk : ∀ r M1, Then mX12_child [vR 50, vI v, vI w] c r M1 → K r M1) : CI mX11_child [vR 0, vI v, vI w] M K := by
  obtain ⟨g, d, tg, hC, hc⟩ := h
  have hI : Inv (c + 1) M := ⟨g, d, tg, hC, hc.up⟩
  obtain ⟨⟨f1, f2, f3, f4, f5, f6⟩, b1, b2, b3⟩ := hC.facts
  obtain ⟨r, hG⟩ := hC.1.2.2.2
  refine en_X11_child (c_contains hv (by omega) (fun q => ⟨by decide, fun _ => c_resolve hC.1 hC.2.1 q.1 (by omega) ?_, fun z => absurd (by decide) z⟩) (fun q => ⟨by decide, fun z => absurd rfl z, fun _ => kk _ M ⟨by decide, fun K2 k2 => ?_⟩⟩))
  · have hin := re_in hC.1.2.2.1 hG q.1 (show v < nN d by omega)
    have hp := pq_bd hC.1.1 hC.1.2.1 hin.1 hin.2
    have no : ¬ (0 ≤ w ∧ w < pq g d (re tg v)) → Then mX12_child [vR 50, vI v, vI w] c (-13) M := by
      intro nq
      exact ⟨by decide, fun K2 k2 => en_X12_child (c_isNode hv (by omega) (fun q2 => ⟨by decide, fun _ => c_resolved hC.1 hC.2.2.1 q.1 (by omega) (c_manyOf hC.1 hC.2.2.1 hin.1 hin.2 (c_in hw (by decide) (by omega) (fun z => absurd (show 0 ≤ w ∧ w < pq g d (re tg v) by omega) nq) (fun z => ⟨by decide, fun _ => k2 M hI, fun z => absurd rfl z⟩))), fun z => absurd (by decide) z⟩) (fun q2 => absurd (show 0 ≤ v ∧ v < M 50 5 by omega) q2))⟩
    refine ⟨hw, fun z => kk _ M (no (by omega)), fun z => c_partTotal hC.1 hC.2.1 hin.1 hin.2 ⟨⟨hw, by omega⟩, fun z2 => ⟨by omega, kk _ M ?_⟩, fun z2 => kk _ M (no (by omega))⟩⟩
    have pp := pq_pos (show 0 ≤ w ∧ w < pq g d (re tg v) by omega)
    have kd := (hC.1.2.1.kid hin.1 hin.2 pp.1 ⟨by omega, pp.2⟩).1
    have e56 := (hC.2.2.1.2.1.2 _ hin.1 hin.2).2.2 pp.1 w (by omega) pp.2
    rw [hC.2.1.2.1.2.2.2]
    refine ⟨by omega, fun K2 k2 => en_X12_child (c_isNode hv (by omega) (fun q2 => ⟨by decide, fun _ => c_resolved hC.1 hC.2.2.1 q.1 (by omega) (c_manyOf hC.1 hC.2.2.1 hin.1 hin.2 (c_in hw (by decide) (by omega) (fun z => ⟨by decide, fun z => absurd z (by decide), fun _ => ⟨by omega, ?_⟩⟩) (fun y => absurd (show 0 ≤ w ∧ w ≤ pq g d (re tg v) - 1 by omega) y))), fun z => absurd (by decide) z⟩) (fun q2 => absurd (show 0 ≤ v ∧ v < M 50 5 by omega) q2))⟩
    rw [e56]
    exact k2 M hI
  · exact en_X12_child (c_isNode hv (by omega) (fun q2 => absurd (show 0 ≤ v ∧ v < M 12 1 by omega) q) (fun q2 => ⟨by decide, fun z => absurd rfl z, fun _ => k2 M hI⟩))
end
