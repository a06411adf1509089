theorem arrV_congr {c n : Nat} {f g : Nat → Value} (h : ∀ j, j < n → f j = g j) : arrV c n f = arrV c n g := by
  unfold arrV
  congr 2
  funext j
  exact h j.val j.isLt
def vo2 (n : Nat) (v : AV) : Bool := match v with
  | .inr (.inr h) => decide (h < n ∨ 85 ≤ h)
  | _ => true
def lo2 (n : Nat) (ls : Ls) : Bool := ls.all (fun o => match o with | some v => vo2 n v | none => true)
def so2 (n : Nat) (st : List AV) : Bool := st.all (vo2 n)
theorem cv_o2 {ad ad2 : Nat → Nat} {n : Nat} (he : ∀ h, (h < n ∨ nH ≤ h) → ad2 h = ad h) {v : AV} (h : vo2 n v = true) : cv ad2 v = cv ad v := by
  rcases v with x | x | k
  · rfl
  · rfl
  · simp only [vo2, decide_eq_true_eq] at h
    simp [cv, he k h]
theorem LR.o2 {ad ad2 : Nat → Nat} {n N : Nat} {la : Array Slot} {ls : Ls} (he : ∀ h, (h < n ∨ nH ≤ h) → ad2 h = ad h) (h : LR ad la N ls) (hl : lo2 n ls = true) : LR ad2 la N ls := by
  refine ⟨h.1, h.2.1, fun i v hv => ?_⟩
  have := List.all_eq_true.mp hl _ (List.mem_of_getElem? hv)
  rw [cv_o2 he this]
  exact h.2.2 i v hv
theorem map_o2 {ad ad2 : Nat → Nat} {n : Nat} (he : ∀ h, (h < n ∨ nH ≤ h) → ad2 h = ad h) {st : List AV} (h : so2 n st = true) : st.map (cv ad2) = st.map (cv ad) :=
  List.map_congr_left (fun v hv => cv_o2 he (List.all_eq_true.mp h v hv))
def RQ (cm : MR) (ks2 : List BRow) : BQ := fun pc _ st k => decode (mrB cm) pc = .ok (.return_, 1) ∧ st = [] ∧ k = ks2
def MOB (cm : MR) (n : Nat) : Prop := plainName (mrY cm).cls = true ∧ cn (mrC cm) = (mrY cm).cls ∧ Cond.code (mrY cm) (mrB cm) (mrN cm) none ∈ lw_good ∧ Cond.initialized (mrY cm).cls ∈ lw_good ∧ (mrY cm).cls ≠ "java/lang/invoke/MethodHandle" ∧ (mrY cm).cls ≠ "java/lang/invoke/VarHandle" ∧ (parseMethodDescriptor (mrY cm).desc).map (fun d => d.parameters.length) = some n ∧ (mrY cm).name = "<init>" ∧ Cond.instanceMethod (mrY cm) ∈ lw_good
def QB (Dd : va_G) (cs : ClassId × ClassId × ClassId) (ad : Nat → Nat) (ks ks2 : List BRow) (sz : Nat) : Array Value → State → Outcome → State → Prop := fun _ st oc t => (oc = .returned none ∧ ∃ ad2 : Nat → Nat, va_P Dd classes (bw ad2 cs ks2) t.heap ∧ va_D (va_A (bw ad cs ks) sz) (bw ad2 cs ks2) ∧ ∀ h, (h < ks.length ∨ nH ≤ h) → ad2 h = ad h) ∧ va_F (va_A (bw ad cs ks) sz) st t
theorem metB {l : Launch} {Dd : va_G} {cs : ClassId × ClassId × ClassId} {ad : Nat → Nat} {cm : MR} {n sz : Nat} {As : List AV} {ks ks2 : List BRow} (hok : MOB cm n) (hent : (entS As).length ≤ mrN cm) (hl1 : ks.length ≤ ks2.length) (hl2 : bsz ks ≤ bsz ks2) (hk : PB l Dd cs ks2.length (bsz ks2) cm 0 (entL As (mrN cm)) [] ks (RQ cm ks2)) :
    Met l (mrY cm) (Cond.code (mrY cm) (mrB cm) (mrN cm) none :: lw_good) { frames := mrF cm, cells := ks2.length - ks.length, slots := bsz ks2 - bsz ks, locals := mrL cm } (va_Pc (As.map (cv ad)) (fun U => U.heap.size = sz ∧ va_P Dd classes (bw ad cs ks) U.heap ∧ WB Dd cs U ∧ va_D (fun _ => True) (bw ad cs ks)))
      (QB Dd cs ad ks ks2 sz) (ks2.length - ks.length) (bsz ks2 - bsz ks) (va_A (bw ad cs ks) sz) := by
  obtain ⟨o1, o2, o3, o4, o5, o6, o7, o8, o9⟩ := hok
  refine Met.ofW (cc := mrB cm) (maxL := mrN cm) (ret := none) o1 rfl ?_
  intro p e s m args below meth c s₁ B hml hv
  obtain ⟨rfl, hsz, hP, hWo, hD0⟩ := hv
  have hts := atoms_spec (ws := Cond.code (mrY cm) (mrB cm) (mrN cm) none :: lw_good) B.pre
  have hown : s.vm.findClass (cn (mrC cm)) = some m.cls := by rw [o2]; exact findClass_of_methodNamed B.named
  have hlocks := B.notSynchronized
  have hr := B.returns
  have hin : meth.name = "<init>" := (name_of_methodNamed B.named B.method).1.trans o8
  subst hsz
  rw [lg_entry_eq]
  refine hk p e _ s m _ below meth c s.heap [] 0 0 _ (va_A (bw ad cs ks) s.heap.size) _ ad ks.length (bsz ks) ks.length ad ⟨B.exec, B.bytes, hml, hown, fun w hw => hts w (List.mem_cons_of_mem _ hw), hWo, ⟨Nat.le_refl _, Nat.le_refl _⟩, fun _ => hin⟩ hP hD0.self va_S.rf (fun q h => Or.inr h) (LR.entry hent) ⟨by omega, by omega, ?_, ?_, Nat.le_refl _⟩ (fun _ _ => rfl) ?_
  · show ks2.length = ks.length + (ks2.length - ks.length)
    omega
  · show bsz ks2 = bsz ks + (bsz ks2 - bsz ks)
    omega
  intro pc' ls' st' ks' H' locs' cells' slots' la' ad' hq hP' hD' hS' hL' hn' he'
  obtain ⟨q1, rfl, rfl⟩ := hq
  have e1 : cells' = ks'.length - ks.length := by omega
  have e2 : slots' = bsz ks' - bsz ks := by omega
  subst e1
  subst e2
  exact W.vret B.exec B.bytes hr (fun t ht hW => ⟨⟨rfl, ad', by rw [ht]; exact hP', hD', he'⟩, hS'.F ht⟩) hS'.2.2 q1
theorem blindB {Dd : va_G} {cs : ClassId × ClassId × ClassId} {ad : Nat → Nat} {av : List Value} {ks : List BRow} {sz : Nat} : FrameBlind (va_Pc av (fun U => U.heap.size = sz ∧ va_P Dd classes (bw ad cs ks) U.heap ∧ WB Dd cs U ∧ va_D (fun _ => True) (bw ad cs ks))) := by
  intro a U g mk q
  obtain ⟨q0, q1, qP, qW, qD⟩ := q
  exact ⟨q0, q1, qP, WB.same (s := U) (U := U.calling g mk a) rfl qW, qD⟩
section
variable {l : Launch} {Dd : va_G} {cs : ClassId × ClassId × ClassId} {ke se : Nat} {mr : MR} {pc : Nat} {ls : Ls} {st : List AV} {ks : List BRow} {Q : BQ}
theorem callB_k {cm : MR} {As : List AV} {ks2 : List BRow} {h : Nat} (hsub1 : ks.length ≤ ks2.length) (hsub2 : bsz ks ≤ bsz ks2) (r1 : ks2.length ≤ ke) (r2 : bsz ks2 ≤ se) (o2 : lo2 ks.length ls = true) (o3 : so2 ks.length st = true) (kk : PB l Dd cs ke se mr (pc + 3) ls st ks2 Q)
    {p : Program} {e : Env} {R : Room} {s : State} {m : MethodId} {args : Array Value} {below : List Frame} {meth : Method} {c : Code} {H : Heap} {locs : List Loc} {cells slots : Nat} {Z : State → Prop} {A : Nat → Prop} {la : Array Slot} {ad : Nat → Nat} {k0 s0 n0 : Nat} {ad0 : Nat → Nat} {st0 : List Value} {a : Array Value}
    (X : CB Dd cs mr p R s m args meth c) (hD : va_D A (bw ad cs ks)) (hS : va_S A s.heap H locs) (hA : ∀ q, s.heap.size ≤ q → A q) (hL : LR ad la (mrN mr) ls) (hn : cells + k0 = ks.length ∧ slots + s0 = bsz ks ∧ ke = k0 + R.cells ∧ se = s0 + R.slots ∧ n0 ≤ ks.length) (he : ∀ h, (h < n0 ∨ nH ≤ h) → ad h = ad0 h) (hs : StopB l Dd cs mr Q p e R s m args below meth c Z A k0 s0 n0 ad0)
    (hr : va_Run p l e R s m args below meth c H locs cells slots (ks2.length - ks.length) (bsz ks2 - bsz ks) (F0 m pc la st0) (st.map (cv ad)) (QB Dd cs ad ks ks2 H.size a) (va_A (bw ad cs ks) H.size)) : W p l e R s m args below meth c H locs cells slots Z (F0 m pc la st0) := by
  have hin : ∀ q, va_A (bw ad cs ks) H.size q → A q := by
    intro q hq
    rcases hq with ⟨k, e, h⟩ | h
    · exact hD.2 k (q, e) h
    · exact hA q (Nat.le_trans hS.1 h)
  intro T hT X'
  obtain ⟨v, st₀, t, T', L, h0, X2, hL2, e1, e2, ⟨⟨hv, ad2, hP2, hD2, he2⟩, hz, hk⟩, st2⟩ := hr T hT X'
  cases hv
  rw [h0] at hz hk
  have g := kk p e R s m args below meth c T'.heap (locs ++ L) (cells + (ks2.length - ks.length)) (slots + (bsz ks2 - bsz ks)) Z A la ad2 k0 s0 n0 ad0 X (by rw [e1]; exact hP2) (hD2.weaken (fun k q _ h => hin q.1 h))
    ⟨Nat.le_trans hS.1 (by rw [e1]; exact hz), fun q h1 h2 => by rw [e1, hk q (Nat.lt_of_lt_of_le h1 hS.1) (fun z => h2 (hin q z))]; exact hS.2.1 q h1 h2, fun q hq => by
      rcases List.mem_append.mp hq with h | h
      · exact hS.2.2 q h
      · exact hin _ (hL2 q h)⟩ hA (LR.o2 he2 hL o2) ⟨by omega, by omega, hn.2.2.1, hn.2.2.2.1, by omega⟩ (fun h hh => by rw [he2 h (by omega), he h hh]) hs
  rw [map_o2 he2 o3] at g
  obtain ⟨t2, a1, b1⟩ := g T' rfl X2
  exact ⟨t2, st2 t2 a1, b1⟩
theorem PB.callI {cm : MR} {ix h : Nat} {As : List AV} {ks2 : List BRow} (h0 : decode (mrB mr) pc = .ok (.invokespecial ix, 3)) (hok : MOB cm As.length) (hlink : Cond.methodLink (cn (mrC mr)) ix (mrY cm) ∈ lw_good) (hrm : mrF cm + 1 ≤ mrF mr ∧ 8 + (mrN cm + 11) + mrL cm ≤ mrL mr) (hent : (entS (vR h :: As)).length ≤ mrN cm) (hwt : wt st ≤ 8)
    (hsub1 : ks.length ≤ ks2.length) (hsub2 : bsz ks ≤ bsz ks2) (r1 : ks2.length ≤ ke) (r2 : bsz ks2 ≤ se) (o2 : lo2 ks.length ls = true) (o3 : so2 ks.length st = true) (k1 : PB l Dd cs ks2.length (bsz ks2) cm 0 (entL (vR h :: As) (mrN cm)) [] ks (RQ cm ks2)) (kk : PB l Dd cs ke se mr (pc + 3) ls st ks2 Q) : PB l Dd cs ke se mr pc ls (As.reverse ++ vR h :: st) ks Q := by
  intro p e R s m args below meth c H locs cells slots Z A la ad k0 s0 n0 ad0 X hP hD hS hA hL hn he hs
  obtain ⟨hx, hb, hml, hown, hts, hWo, hroom, hin⟩ := id X
  obtain ⟨p1, p2, p3, p4, p5, p6, p7, p8, p9⟩ := id hok
  have hM := metB (ad := ad) (sz := H.size) hok hent hsub1 hsub2 k1
  have hgood : GoodIn lw_good (Cond.code (mrY cm) (mrB cm) (mrN cm) none :: lw_good) := good_all (fun w hw => (List.mem_cons.mp hw).elim (fun q => q ▸ p3) id)
  rw [List.map_append, List.map_reverse, List.map_cons]
  refine callB_k (cm := cm) (As := As) (h := h) hsub1 hsub2 r1 r2 o2 o3 kk X hD hS hA hL hn he hs (a := (Value.ref (ad h) :: As.map (cv ad)).toArray) ?_
  exact va_runI (As := As.map (cv ad)) (rest := st.map (cv ad)) (Ts := lw_good) (own := cn (mrC mr)) (b := ad h) ⟨hx, hb, hml, hown, hts⟩ hM (cwI As.length hts hgood rfl rfl rfl (hts _ p4) (hts _ hlink) (hts _ p9) p8 ⟨p5, p6, p7⟩ ⟨by show mrF cm + 1 ≤ R.frames; omega, by show 8 + (mrN cm + 11) + mrL cm ≤ R.locals; omega⟩) ⟨blindB, fun U hU hW => ⟨rfl, by rw [hU], by rw [hU]; exact hP, hWo.warm hW, hD.weaken (fun _ _ _ _ => trivial)⟩⟩ rfl (by simp) hL.1 rfl (lv_room (by rw [wt_cat]; exact hwt)) h0 ⟨by omega, by omega⟩
theorem PB.callIN {cm : MR} {ix h : Nat} {As : List AV} {ks2 : List BRow} (h0 : decode (mrB mr) pc = .ok (.invokespecial ix, 3)) (hok : MOB cm As.length) (hlink : (cn (mrC mr), ix, mrY cm) ∈ NIs) (hrm : mrF cm + 1 ≤ mrF mr ∧ 8 + (mrN cm + 11) + mrL cm ≤ mrL mr) (hent : (entS (vR h :: As)).length ≤ mrN cm) (hwt : wt st ≤ 8)
    (hsub1 : ks.length ≤ ks2.length) (hsub2 : bsz ks ≤ bsz ks2) (r1 : ks2.length ≤ ke) (r2 : bsz ks2 ≤ se) (o2 : lo2 ks.length ls = true) (o3 : so2 ks.length st = true) (k1 : PB l Dd cs ks2.length (bsz ks2) cm 0 (entL (vR h :: As) (mrN cm)) [] ks (RQ cm ks2)) (kk : PB l Dd cs ke se mr (pc + 3) ls st ks2 Q) : PB l Dd cs ke se mr pc ls (As.reverse ++ vR h :: st) ks Q := by
  intro p e R s m args below meth c H locs cells slots Z A la ad k0 s0 n0 ad0 X hP hD hS hA hL hn he hs
  obtain ⟨hx, hb, hml, hown, hts, hWo, hroom, hin⟩ := id X
  obtain ⟨p1, p2, p3, p4, p5, p6, p7, p8, p9⟩ := id hok
  have hM := metB (ad := ad) (sz := H.size) hok hent hsub1 hsub2 k1
  have hgood : GoodIn lw_good (Cond.code (mrY cm) (mrB cm) (mrN cm) none :: lw_good) := good_all (fun w hw => (List.mem_cons.mp hw).elim (fun q => q ▸ p3) id)
  rw [List.map_append, List.map_reverse, List.map_cons]
  refine callB_k (cm := cm) (As := As) (h := h) hsub1 hsub2 r1 r2 o2 o3 kk X hD hS hA hL hn he hs (a := (Value.ref (ad h) :: As.map (cv ad)).toArray) ?_
  exact va_runIN (As := As.map (cv ad)) (rest := st.map (cv ad)) (Ts := lw_good) (own := cn (mrC mr)) (host := nHost) (b := ad h) ⟨hx, hb, hml, hown, hts⟩ hM ⟨va_cnB As.length hts hgood rfl rfl rfl (hWo.2 _ hlink) (hts _ p4) ⟨p5, p6, p7⟩ ⟨by show mrF cm + 1 ≤ R.frames; omega, by show 8 + (mrN cm + 11) + mrL cm ≤ R.locals; omega⟩, p8, hts _ p9⟩ ⟨blindB, fun U hU hW => ⟨rfl, by rw [hU], by rw [hU]; exact hP, hWo.warm hW, hD.weaken (fun _ _ _ _ => trivial)⟩⟩ rfl (by simp) hL.1 rfl (lv_room (by rw [wt_cat]; exact hwt)) h0 ⟨by omega, by omega⟩
theorem PB.fill {ix h n : Nat} {c0 v : Int} (h0 : decode (mrB mr) pc = .ok (.invokestatic ix, 3)) (hcl : CallS (mrC mr) ix mJ7_fill_53178 2) (hk : ks[h]? = some (0, n, [], c0)) (hn2 : n < 2147483648) (hrm : 1 ≤ mrF mr ∧ 8 + (4 + 11) + 0 ≤ mrL mr) (hwt : wt st ≤ 8) (r1 : ks.length ≤ ke) (r2 : bsz ks ≤ se) (kk : PB l Dd cs ke se mr (pc + 3) ls st (ks.set h (0, n, [], v)) Q) : PB l Dd cs ke se mr pc ls (vI v :: vR h :: st) ks Q := by
  intro p e R s m args below meth c H locs cells slots Z A la ad k0 s0 n0 ad0 X hP hD hS hA hL hn he hs
  obtain ⟨hx, hb, hml, hown, hts, hWo, hroom, hin⟩ := id X
  obtain ⟨⟨p1, p2, p3, p4, p5, p6, p7, p8⟩, hlk, hst⟩ := hcl
  have hbe : be ad cs (0, n, [], c0) = .inl (cs.1, n, .inl (fun _ => Int32.ofInt c0)) := by simp [be]
  have hbv : be ad cs (0, n, [], v) = .inl (cs.1, n, .inl (fun _ => Int32.ofInt v)) := by simp [be]
  have hw : (bw ad cs ks)[h]? = some (ad h, .inl (cs.1, n, .inl (fun _ => Int32.ofInt c0))) := by rw [bw_get hk, hbe]
  have hPc : va_P Dd classes [(ad h, .inl (cs.1, n, .inl (fun _ => Int32.ofInt c0)))] H := hP.sub [h] (by simp [hw])
  have hg : GoodIn lw_good (va_wsS (cn (mrC mr)) ix yJ7_fill_53178 (Cond.code yJ7_fill_53178 cJ7_fill_53178 4 none :: lw_good)) := good_all (fun w hw => by
    unfold va_wsS at hw
    rcases List.mem_append.mp hw with hw | hw
    · simp only [List.mem_cons, List.not_mem_nil, or_false] at hw
      rcases hw with rfl | rfl | rfl
      · exact hlk
      · exact hst
      · exact p4
    · exact (List.mem_cons.mp hw).elim (fun q => q ▸ p3) id)
  have hr := va_runS (p := p) (l := l) (e := e) (R := R) (s := s) (m := m) (args := args) (below := below) (meth := meth) (c := c) (H := H) (locs := locs) (cells := cells) (slots := slots) (As := [.ref (ad h), .int (Int32.ofInt v)]) (rest := st.map (cv ad)) (g := F0 m pc la (.int (Int32.ofInt v) :: .ref (ad h) :: st.map (cv ad))) (Ts := lw_good) (own := cn (mrC mr)) (index := ix) (nL := mrN mr) ⟨hx, hb, hml, hown, hts⟩ (c_fill l Dd cs (ad h) n (Int32.ofInt v) (fun _ => Int32.ofInt c0) hn2) (va_cwS 2 hts hg rfl rfl rfl ⟨p5, p6, p7⟩ ⟨by show 0 + 1 ≤ R.frames; omega, by show 8 + (4 + 11) + 0 ≤ R.locals; omega⟩)
    ⟨fun a U g mk q => by obtain ⟨q0, qP, qK⟩ := q; exact ⟨q0, qP, va_K.moved (u := U) (U := U.calling g mk a) (Vm.Alike.refl U.vm) qK⟩, fun U hU hW => ⟨rfl, by rw [hU]; exact hPc, va_K.moved hW.alike hWo.1⟩⟩ rfl rfl hL.1 rfl (lv_room (by rw [wt_cat]; exact hwt)) h0 ⟨by omega, by omega⟩
  intro T hT X'
  obtain ⟨v0, st₀, t, T', L, h00, X2, hL2, e1, e2, ⟨⟨hv, g, hgv, hPg⟩, hz, hkq⟩, st2⟩ := hr T hT X'
  cases hv
  rw [h00] at hz hkq
  have hAh : A (ad h) := hD.2 h _ hw
  have hcell : T'.heap[ad h]? = some (vp_cell cs.1 (n, .inl (fun _ => Int32.ofInt v))) := by
    have := hPg 0 _ rfl
    rw [e1]
    show t.heap[ad h]? = _
    rw [show vp_cell cs.1 (n, .inl (fun _ => Int32.ofInt v)) = vp_cell cs.1 (n, .inl g) from by
      rw [vp_cell_i, vp_cell_i]
      exact arrV_congr (fun j hj => by rw [hgv j hj])]
    exact this
  have hlt := (List.getElem?_eq_some_iff.mp hk).1
  have hP1 : va_P Dd classes (bw ad cs (ks.set h (0, n, [], v))) T'.heap := by
    rw [← bw_set hk, hbv]
    intro k q hq
    by_cases hkh : k = h
    · subst hkh
      rw [List.getElem?_set_self (by rw [bw_len]; exact hlt)] at hq
      cases hq
      exact hcell
    · rw [List.getElem?_set_ne (Ne.symm hkh)] at hq
      refine (hP k q hq).kept ?_
      rw [e1]
      exact hkq q.1 (hP k q hq).lt (fun z => hkh (hD.1 k h q _ hq hw z))
  have hD1 : va_D A (bw ad cs (ks.set h (0, n, [], v))) := by
    rw [← bw_set hk, hbv]
    exact hD.set hw
  have esz : bsz (ks.set h (0, n, [], v)) = bsz ks := by
    unfold bsz
    rw [List.map_set]
    congr 1
    apply List.ext_getElem?
    intro j
    by_cases hj : j = h
    · subst hj
      rw [List.getElem?_set_self (by simpa using hlt), List.getElem?_map, hk]
      rfl
    · rw [List.getElem?_set_ne (Ne.symm hj)]
  have gg := kk p e R s m args below meth c T'.heap (locs ++ L) cells slots Z A la ad k0 s0 n0 ad0 X hP1 hD1
    ⟨Nat.le_trans hS.1 (by rw [e1]; exact hz), fun q h1 h2 => by rw [e1, hkq q (Nat.lt_of_lt_of_le h1 hS.1) (fun z => h2 (by rw [z]; exact hAh))]; exact hS.2.1 q h1 h2, fun q hq => by
      rcases List.mem_append.mp hq with h | h
      · exact hS.2.2 q h
      · rw [show q.base = ad _ from hL2 q h]; exact hAh⟩ hA hL ⟨by simp; exact hn.1, by rw [esz]; exact hn.2.1, hn.2.2.1, hn.2.2.2.1, by simp; exact hn.2.2.2.2⟩ he hs
  obtain ⟨t2, a1, b1⟩ := gg T' rfl X2
  exact ⟨t2, st2 t2 a1, b1⟩
end
