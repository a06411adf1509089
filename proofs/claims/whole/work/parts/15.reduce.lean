/-! THE CLAIM OUT OF ONE WALK OF THE LAW'S BODY. Your part is whole_start (and what it stands on); all else here is the same for every law, but numbers. -/
def R_law : String := "DatatypeTermsLaw"
def lw_P (b : Addr) (xs : List Int32) (args : Array Value) (s : State) : Prop := args = #[.ref b] ∧ s.IntsAt b xs ∧ xs.length ≤ 3072 ∧ (Jvm.Cond.and given_1 narrow_1).before args s = true
def lw_Q (_ : Array Value) (s : State) (o : Outcome) (t : State) : Prop := o = .returned (some (.int 1)) ∧ Framed s o t [] 85 80519
def lw_Z (below : List Frame) (a : Array Value) (s : State) : State → Prop := fun t => ∃ o, t.status = .running ∧ Ended t below o ∧ lw_Q a s o t
/-- the law's own end, with 1 on the stack, nothing written that was there before, its room as the claim has it -/
theorem lw_ret {p : Program} {l : Launch} {e : Env} {s : State} {m : MethodId} {below : List Frame} {meth : Method} {c : Code} {b : Nat} (hx : p.tables.exec = Jvm.exec) (hb : c.code = code) (hr : meth.sig.returnType = ret) (hlocks : meth.locks = false) {pc : Nat} {H : Heap} {ls : Array Slot} (hdg : decode code pc = .ok (.ireturn, 1)) : W p l e room_1 s m #[Value.ref b] below meth c H [] 85 80519 (lw_Z below #[Value.ref b] s) (F0 m pc ls [.int 1]) := by
  intro T hT X
  obtain ⟨fs, hret, hrun, hended, hW, hframe⟩ := X.leave (v := some (.int 1)) (hlocks := hlocks) (fun h => by rw [hr] at h; cases h)
  have hmeth' : T.vm.method? m = some meth := X.method'
  refine ⟨T.setFrames fs, ?_, .returned (some (.int 1)), hrun, hended, rfl, ⟨_, rfl⟩, hW, hframe⟩
  jvm_step X.here [X.here.top, hx, hb, hdg, hmeth', hr, ret, narrow_b1]
  (try refine ⟨rfl, ?_⟩); (try refine ⟨rfl, ?_⟩)
  first | (intro acts; rw [hret _ acts rfl rfl rfl]) | rw [hret _ _ rfl rfl rfl]
  exact Steps.refl _
/-- what holds at the law's entry: the machine, the code, the tables' words (any of lw_tbl by 'hts w (by decide +kernel)'), the script of L ints xs at the cell b, what the Statement gives of the start (any of its parts by flat_of_before) -/
def lw_At (p : Program) (s : State) (m : MethodId) (meth : Method) (c : Code) (b L : Nat) (xs : Nat → Int32) : Prop :=
  p.tables.exec = Jvm.exec ∧ c.code = code ∧ meth.sig.returnType = ret ∧ c.maxLocals = 4 ∧ s.vm.findClass R_law = some m.cls ∧ (∀ w ∈ lw_tbl, w.before #[Value.ref b] s = true) ∧ va_X b L xs s s.heap ∧ b < s.heap.size ∧ meth.locks = false ∧ (Jvm.Cond.and given_1 narrow_1).before #[Value.ref b] s = true
def m0 (h : Nat) : Int := if h = 6 then (-13) else if h = 16 then (-1) else 0
def M0 : Mem := fun h _ => m0 h
def tw (i : Nat) {w : Cond} (h : tables_1[i]? = some w) : w ∈ lw_tbl := List.mem_append_right _ (List.mem_of_getElem? h)
def bcv (r : BRow) : Nat × Nat × List (Option Nat) := (r.1, r.2.1, r.2.2.1.map (fun o => match o with | some (some h) => some h | _ => none))
def bno (r : BRow) : Bool := r.2.2.1.all (fun o => match o with | some none => false | _ => true)
theorem be_ce {ad : Nat → Nat} {cs : ClassId × ClassId × ClassId} {k : Nat} {r : BRow} (h1 : kd k = bcv r) (h2 : bno r = true) (h3 : m0 k = r.2.2.2) (h4 : r.1 < 3 ∨ r.2.2.2 = 0) : be ad cs r = ce ad cs M0 k := by
  unfold be ce
  rw [h1]
  simp only [bcv, M0, h3]
  by_cases g0 : r.1 = 0
  · rw [if_pos g0, if_pos g0]
  by_cases g1 : r.1 = 1
  · rw [if_neg g0, if_neg g0, if_pos g1, if_pos g1]
  by_cases g2 : r.1 = 2
  · rw [if_neg g0, if_neg g0, if_neg g1, if_neg g1, if_pos g2, if_pos g2]
  · rw [if_neg g0, if_neg g0, if_neg g1, if_neg g1, if_neg g2, if_neg g2]
    have e : r.2.2.2 = 0 := h4.resolve_left (by omega) 
    congr 2
    apply List.ext_getElem?
    intro j
    simp only [bfv, List.getElem?_map, List.getElem?_mapIdx]
    cases hj : r.2.2.1[j]? with
    | none => rfl
    | some o =>
      have := List.all_eq_true.mp h2 o (List.mem_of_getElem? hj)
      rcases o with _ | _ | h
      · simp [e]
      · cases this
      · rfl
def bchk (k : Nat) (o : Option BRow) : Bool := match o with
  | some r => decide (kd k = bcv r) && bno r && decide (m0 k = r.2.2.2) && decide (r.1 < 3 ∨ r.2.2.2 = 0)
  | none => false
theorem bchk_all : ∀ k, k < 85 → bchk k (bk_26[k]?) = true := by decide +kernel
theorem world0 (ad : Nat → Nat) (cs : ClassId × ClassId × ClassId) : bw ad cs bk_26 = wsOf ad cs M0 := by
  apply List.ext_getElem?
  intro k
  by_cases hk : k < 85
  · rw [wsOf_get hk]
    have h := bchk_all k hk
    cases hr : bk_26[k]? with
    | none => rw [hr] at h; cases h
    | some r =>
      rw [hr] at h
      simp only [bchk, Bool.and_eq_true, decide_eq_true_eq] at h
      rw [bw_get hr, be_ce h.1.1.1 h.1.1.2 h.1.2 h.2]
  · have hl : bk_26.length = 85 := by decide +kernel
    rw [List.getElem?_eq_none (by rw [bw_len, hl]; omega), List.getElem?_eq_none (by simp [wsOf]; show 85 ≤ k; omega)]
def PureLaw : Prop := ∀ (n : Nat) (xs : Nat → Int), n ≤ 3072 → (∀ j, InR (xs j)) → AW (mL_law n xs) 16 [some (vR 85), some (vR 0), some (vR 50), none] [] M0 (QI (fun r _ => r = 1))
theorem good_tbl : ∀ w ∈ lw_good, w ∈ lw_tbl := fun _ h => (List.mem_filter.mp h).1
theorem arr_known {s : State} {args : Array Value} {ty : FieldType} (h : (Cond.arrayClass ty).before args s = true) : ∃ c : ClassId, ArrOfT s c ty ∧ s.vm.findClass ("[" ++ ty.toString) = some c := by
  obtain ⟨c, k, comp, h1, h2, h3⟩ := Cond.arrayClass_spec h
  exact ⟨c, fun n z => ⟨fun k h => (by cases h), k, h2, comp, h3⟩, h1⟩
set_option maxHeartbeats 4000000 in
set_option maxRecDepth 100000 in
theorem whole_of (hpure : PureLaw) {p : Program} {e : Env} {s : State} {m : MethodId} {below : List Frame} {meth : Method} {c : Code} (l : Launch) {b L : Nat} {xs : Nat → Int32} (hL : L ≤ 3072) (C0 : lw_At p s m meth c b L xs) : W p l e room_1 s m #[Value.ref b] below meth c s.heap [] 0 0 (lw_Z below #[Value.ref b] s) (entryFrame m ([Value.ref b] : List Value).toArray 4) := by
  obtain ⟨hx, hb, hr, hml, hown, hts, hX, hbl, hlocks, hgv⟩ := id C0
  have hgood : ∀ w ∈ lw_good, w.before #[Value.ref b] s = true := fun w hw => hts w (good_tbl w hw)
  obtain ⟨c0, i0, hKn0⟩ := u_known (C := RX0) (T := TX0) (N := 6) (n := 6) hgood hin_X0 (hgood (.instantiable RX0 6) (tm 101 (by decide +kernel) rfl))
  obtain ⟨c1, i1, hKn1⟩ := u_known (C := RX1) (T := TX1) (N := 3) (n := 3) hgood hin_X1 (hgood (.instantiable RX1 3) (tm 61 (by decide +kernel) rfl))
  obtain ⟨c2, i2, hKn2⟩ := u_known (C := RX2) (T := TX2) (N := 10) (n := 10) hgood hin_X2 (hgood (.instantiable RX2 10) (tm 275 (by decide +kernel) rfl))
  obtain ⟨c3, i3, hKn3⟩ := u_known (C := RX3) (T := TX3) (N := 2) (n := 2) hgood hin_X3 (hgood (.instantiable RX3 2) (tm 261 (by decide +kernel) rfl))
  obtain ⟨c4, i4, hKn4⟩ := u_known (C := RX4) (T := TX4) (N := 5) (n := 5) hgood hin_X4 (hgood (.instantiable RX4 5) (tm 25 (by decide +kernel) rfl))
  obtain ⟨c5, i5, hKn5⟩ := u_known (C := RX5) (T := TX5) (N := 8) (n := 8) hgood hin_X5 (hgood (.instantiable RX5 8) (tm 172 (by decide +kernel) rfl))
  obtain ⟨c6, i6, hKn6⟩ := u_known (C := RX6) (T := TX6) (N := 7) (n := 7) hgood hin_X6 (hgood (.instantiable RX6 7) (tm 230 (by decide +kernel) rfl))
  obtain ⟨c7, i7, hKn7⟩ := u_known (C := RX7) (T := TX7) (N := 8) (n := 8) hgood hin_X7 (hgood (.instantiable RX7 8) (tm 141 (by decide +kernel) rfl))
  obtain ⟨c8, i8, hKn8⟩ := u_known (C := RX8) (T := TX8) (N := 4) (n := 4) hgood hin_X8 (hgood (.instantiable RX8 4) (tm 82 (by decide +kernel) rfl))
  obtain ⟨c9, i9, hKn9⟩ := u_known (C := RX10) (T := TX10) (N := 6) (n := 6) hgood hin_X10 (hgood (.instantiable RX10 6) (tm 178 (by decide +kernel) rfl))
  obtain ⟨c10, i10, hKn10⟩ := u_known (C := RX11) (T := TX11) (N := 9) (n := 9) hgood hin_X11 (hgood (.instantiable RX11 9) (tm 17 (by decide +kernel) rfl))
  obtain ⟨c11, i11, hKn11⟩ := u_known (C := RX12) (T := TX12) (N := 42) (n := 42) hgood hin_X12 (hgood (.instantiable RX12 42) (tm 793 (by decide +kernel) rfl))
  obtain ⟨dC, dI, hKc⟩ : ∃ (dC : Nat → ClassId) (dI : Nat → Nat → Nat), ∀ (k : Nat) (q : vw_C), classes[k]? = some q → u_Kn s q.1 q.2.1 q.2.2 (dC k) (dI k) := by
    refine ⟨fun k => match k with | 0 => c0 | 1 => c1 | 2 => c2 | 3 => c3 | 4 => c4 | 5 => c5 | 6 => c6 | 7 => c7 | 8 => c8 | 9 => c9 | 10 => c10 | 11 => c11 | _ => 0, fun k => match k with | 0 => i0 | 1 => i1 | 2 => i2 | 3 => i3 | 4 => i4 | 5 => i5 | 6 => i6 | 7 => i7 | 8 => i8 | 9 => i9 | 10 => i10 | 11 => i11 | _ => fun _ => 0, ?_⟩
    intro k q hq
    match k, hq with
    | 0, hq => cases hq; exact hKn0
    | 1, hq => cases hq; exact hKn1
    | 2, hq => cases hq; exact hKn2
    | 3, hq => cases hq; exact hKn3
    | 4, hq => cases hq; exact hKn4
    | 5, hq => cases hq; exact hKn5
    | 6, hq => cases hq; exact hKn6
    | 7, hq => cases hq; exact hKn7
    | 8, hq => cases hq; exact hKn8
    | 9, hq => cases hq; exact hKn9
    | 10, hq => cases hq; exact hKn10
    | 11, hq => cases hq; exact hKn11
    | k + 12, hq => simp [classes] at hq
  obtain ⟨cI, hI1, hI2⟩ := arr_known (hgood _ ac_int)
  obtain ⟨cZ, hZ1, hZ2⟩ := arr_known (hgood _ ac_boolean)
  obtain ⟨cL, hL1, hL2⟩ := arr_known (hgood _ ac_long)
  have hK : va_K (dC, dI) classes (tysOf (cI, cZ, cL)) s := by
    refine ⟨hKc, fun k q hq => ?_⟩
    match k, hq with
    | 0, hq => cases hq; exact ⟨hI1, hI2⟩
    | 1, hq => cases hq; exact ⟨hZ1, hZ2⟩
    | 2, hq => cases hq; exact ⟨hL1, hL2⟩
    | k + 3, hq => simp [tysOf] at hq
  have hNW : ∀ w ∈ NWs, va_Nw (.methodLinkNest w.1 w.2.1 w.2.2 nHost) s := by
    intro w hw
    simp only [NWs, List.mem_cons, List.not_mem_nil, or_false] at hw
    rcases hw with rfl | rfl | rfl | rfl | rfl
    · exact va_Nw.of rfl (hts _ (tw 388 (by decide +kernel)))
    · exact va_Nw.of rfl (hts _ (tw 393 (by decide +kernel)))
    · exact va_Nw.of rfl (hts _ (tw 413 (by decide +kernel)))
    · exact va_Nw.of rfl (hts _ (tw 414 (by decide +kernel)))
    · exact va_Nw.of rfl (hts _ (tw 596 (by decide +kernel)))
  have hNI : ∀ w ∈ NIs, va_Nw (.methodLinkNest w.1 w.2.1 w.2.2 nHost) s := by
    intro w hw
    simp only [NIs, List.mem_cons, List.not_mem_nil, or_false] at hw
    rcases hw with rfl | rfl
    · exact va_Nw.of rfl (hts _ (tw 26 (by decide +kernel)))
    · exact va_Nw.of rfl (hts _ (tw 262 (by decide +kernel)))
  have hFW : ∀ f ∈ FWs, va_Fw f.1 f.2.1 f.2.2 s := by
    intro f hf
    simp only [FWs, List.mem_cons, List.not_mem_nil, or_false] at hf
    rcases hf with rfl | rfl | rfl | rfl
    · exact va_Fw.of (hts _ (tw 747 (by decide +kernel))) (hts _ (tw 746 (by decide +kernel))) (hts _ (tw 752 (by decide +kernel))) (hts _ (tw 750 (by decide +kernel))) (hts _ (tw 748 (by decide +kernel)))
    · exact va_Fw.of (hts _ (tw 747 (by decide +kernel))) (hts _ (tw 746 (by decide +kernel))) (hts _ (tw 757 (by decide +kernel))) (hts _ (tw 756 (by decide +kernel))) (hts _ (tw 754 (by decide +kernel)))
    · exact va_Fw.of (hts _ (tw 761 (by decide +kernel))) (hts _ (tw 760 (by decide +kernel))) (hts _ (tw 765 (by decide +kernel))) (hts _ (tw 763 (by decide +kernel))) (hts _ (tw 748 (by decide +kernel)))
    · exact va_Fw.of (hts _ (tw 761 (by decide +kernel))) (hts _ (tw 760 (by decide +kernel))) (hts _ (tw 769 (by decide +kernel))) (hts _ (tw 768 (by decide +kernel))) (hts _ (tw 754 (by decide +kernel)))
  rw [lg_entry_eq]
  have hent := LR.entry (ad := fun h => if h = 85 then b else 0) (As := [vR 85]) (n := 4) (Nat.le_of_ble_eq_true rfl)
  refine b_law l (dC, dI) (cI, cZ, cL) p e room_1 s m #[Value.ref b] below meth c s.heap [] 0 0 _ (fun q => s.heap.size ≤ q) _ (fun h => if h = 85 then b else 0) 0 0 0 (fun h => if h = 85 then b else 0) ⟨hx, hb, hml, hown, hgood, ⟨hK, hNI⟩, ⟨by decide, by decide⟩, fun q => absurd q (by decide)⟩ (fun k q h => by simp [bw] at h) ⟨fun i j p q h => by simp [bw] at h, fun k q h => by simp [bw] at h⟩ va_S.rf (fun _ h => h) hent ⟨rfl, rfl, rfl, rfl, Nat.le_refl _⟩ (fun _ _ => rfl) ?_
  intro pc' ls' st' ks' H' locs' cells' slots' la' ad' hq hP' hD' hS' hL' hn' he'
  obtain ⟨rfl, rfl, rfl, rfl⟩ := hq
  have e1 : cells' = 85 := hn'.1
  have e2 : slots' = 80519 := hn'.2.trans (by decide +kernel)
  subst e1
  subst e2
  rw [world0] at hP' hD'
  have hb85 : ad' nH = b := by rw [he' nH (Or.inr (Nat.le_refl _))]; rfl
  have hDA : DA ad' (fun q => s.heap.size ≤ q) := by
    refine ⟨fun i j hi hj hij => hD'.1 i j _ _ (wsOf_get hi) (wsOf_get hj) hij, fun h hh => hD'.2 h _ (wsOf_get hh)⟩
  have hxs : ∀ j, InR ((xs j).toInt) := fun j => ⟨Int32.le_toInt (xs j), Int32.toInt_le (xs j)⟩
  refine hpure L (fun j => (xs j).toInt) hL hxs (PS l (dC, dI) ad' (cI, cZ, cL)) (sim_all l (dC, dI) ad' (cI, cZ, cL)) p e room_1 s m #[Value.ref b] below meth c H' locs' 85 80519 _ (fun q => s.heap.size ≤ q) la' ⟨hx, hb, hml, hown, hgood, ⟨hK, hNW, hFW⟩, hDA, ⟨by show 8 ≤ 10; decide, by show 195 ≤ 392; decide, Nat.le_refl _, Nat.le_refl _⟩, fun _ => ⟨xs, by rw [hb85]; exact hX, by rw [hb85]; exact hbl, by rw [hb85]; exact Nat.not_le.mpr hbl, fun _ _ => rfl, by show L < 2147483648; omega⟩⟩ hP' hS' hL' ?_
  intro r M' H2 locs2 pc2 la2 hq2 hP2 hS2 hat
  obtain ⟨x, rfl, rfl⟩ := hq2
  rcases hat with ⟨q, -⟩ | ⟨x, hx1, hd, -⟩
  · cases q
  · refine va_forget (fun q hq => hS2.2.2 q hq) ?_
    exact lw_ret hx hb hr hlocks hd
