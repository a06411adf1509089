/-! EVERY RULE OF THE ABSTRACT MACHINE IS THE REAL ONE'S. Written by gen_sim.py. -/
def AdA (ad : Nat → Nat) : Nat → Prop := fun q => ∃ h, h < nH ∧ ad h = q
def RetAt (mr : MR) (pc : Nat) (r : Option AV) : Prop := (r = none ∧ decode (mrB mr) pc = .ok (.return_, 1) ∧ mrT mr = none) ∨ ∃ x : Int, r = some (vI x) ∧ decode (mrB mr) pc = .ok (.ireturn, 1) ∧ (mrT mr = some .int ∨ (mrT mr = some .boolean ∧ (x = 0 ∨ x = 1)))
def Cx (Dd : va_G) (ad : Nat → Nat) (cs : ClassId × ClassId × ClassId) (mr : MR) (p : Program) (R : Room) (s : State) (m : MethodId) (args : Array Value) (c : Code) (cells slots : Nat) (A : Nat → Prop) : Prop :=
  p.tables.exec = Jvm.exec ∧ c.code = mrB mr ∧ c.maxLocals = mrN mr ∧ s.vm.findClass (cn (mrC mr)) = some m.cls ∧ (∀ w ∈ lw_good, w.before args s = true) ∧ Wo Dd cs s ∧ DA ad A ∧ (mrF mr ≤ R.frames ∧ mrL mr ≤ R.locals ∧ cells ≤ R.cells ∧ slots ≤ R.slots) ∧ (mrC mr = 13 → ∃ xs : Nat → Int32, va_X (ad nH) (mrS mr) xs s s.heap ∧ ad nH < s.heap.size ∧ ¬ A (ad nH) ∧ (∀ j, j < mrS mr → (xs j).toInt = mrX mr j) ∧ mrS mr < 2147483648)
def RetOK (l : Launch) (Dd : va_G) (ad : Nat → Nat) (cs : ClassId × ClassId × ClassId) (mr : MR) (Q : Po) (p : Program) (e : Env) (R : Room) (s : State) (m : MethodId) (args : Array Value) (below : List Frame) (meth : Method) (c : Code) (cells slots : Nat) (Z : State → Prop) (A : Nat → Prop) : Prop :=
  ∀ (r : Option AV) (M' : Mem) (H' : Heap) (locs' : List Loc) (pc' : Nat) (la' : Array Slot), Q r M' → va_P Dd classes (wsOf ad cs M') H' → va_S A s.heap H' locs' → RetAt mr pc' r → W p l e R s m args below meth c H' locs' cells slots Z (F0 m pc' la' (r.toList.map (cv ad)))
def PS (l : Launch) (Dd : va_G) (ad : Nat → Nat) (cs : ClassId × ClassId × ClassId) : AP := fun mr pc lst st M Q => ∀ (p : Program) (e : Env) (R : Room) (s : State) (m : MethodId) (args : Array Value) (below : List Frame) (meth : Method) (c : Code) (H : Heap) (locs : List Loc) (cells slots : Nat) (Z : State → Prop) (A : Nat → Prop) (la : Array Slot), Cx Dd ad cs mr p R s m args c cells slots A → va_P Dd classes (wsOf ad cs M) H → va_S A s.heap H locs → LR ad la (mrN mr) lst → RetOK l Dd ad cs mr Q p e R s m args below meth c cells slots Z A → W p l e R s m args below meth c H locs cells slots Z (F0 m pc la (st.map (cv ad)))
theorem oi_lt {x y : Int} (hx : InR x) (hy : InR y) : Int32.ofInt x < Int32.ofInt y ↔ x < y := Int32.ofInt_lt_iff_lt hx.1 hx.2 hy.1 hy.2
theorem oi_le {x y : Int} (hx : InR x) (hy : InR y) : Int32.ofInt x ≤ Int32.ofInt y ↔ x ≤ y := Int32.ofInt_le_iff_le hx.1 hx.2 hy.1 hy.2
theorem oi_eq {x y : Int} (hx : InR x) (hy : InR y) : Int32.ofInt x = Int32.ofInt y ↔ x = y := by
  constructor
  · intro h
    have h1 := (oi_le hx hy).mp (by rw [h]; exact Int32.le_refl _)
    have h2 := (oi_le hy hx).mp (by rw [h]; exact Int32.le_refl _)
    omega
  · intro h
    rw [h]
theorem oi_0 : (0 : Int32) = Int32.ofInt 0 := by decide +kernel
theorem in0 : InR 0 := by decide
theorem oi_clamp {i : Int} (h0 : 0 ≤ i) (h1 : i < 2147483648) : (Int32.ofInt i).toNatClampNeg = i.toNat := by
  show (Int32.ofInt i).toInt.toNat = i.toNat
  rw [Int32.toInt_ofInt_of_le (by omega) (by omega)]
theorem oi_in {i : Int} {n : Nat} (h : 0 ≤ i ∧ i < n) (hn : n < 2147483648) : vp_in (Int32.ofInt i) n := by
  rw [vp_in_iff, Int32.toInt_ofInt_of_le (by omega) (by omega)]
  exact h
theorem oi_get {M : Mem} {h n : Nat} {i : Int} (hi : 0 ≤ i ∧ i < n) (hn : n < 2147483648) : M h ((Int32.ofInt i).toNatClampNeg : Nat) = M h i := by
  rw [oi_clamp hi.1 (by omega), Int.toNat_of_nonneg hi.1]
theorem up_ne {M : Mem} {h h' : Nat} {i v : Int} (hn : h' ≠ h) : up M h i v h' = M h' := by simp [up, hn]
theorem up_eq {M : Mem} {h : Nat} {i v : Int} : up M h i v h = fun i' => if i' = i then v else M h i' := by simp [up]
theorem upd_oi {M : Mem} {h n : Nat} {i x : Int} (hi : 0 ≤ i ∧ i < n) (hn : n < 2147483648) : (fun j : Nat => Int32.ofInt (up M h i x h j)) = upd (fun j : Nat => Int32.ofInt (M h j)) (Int32.ofInt i).toNatClampNeg (Int32.ofInt x) := by
  funext j
  rw [up_eq, oi_clamp hi.1 (by omega)]
  dsimp only
  by_cases e : j = i.toNat
  · have e2 : (j : Int) = i := by omega
    rw [if_pos e2, e, pk_us]
  · have e2 : ¬ (j : Int) = i := by omega
    rw [if_neg e2, pk_un e]
theorem upd_ol {M : Mem} {h n : Nat} {i x : Int} (hi : 0 ≤ i ∧ i < n) (hn : n < 2147483648) : (fun j : Nat => Int64.ofInt (up M h i x h j)) = vp_updL (fun j : Nat => Int64.ofInt (M h j)) (Int32.ofInt i).toNatClampNeg (Int64.ofInt x) := by
  funext j
  rw [up_eq, oi_clamp hi.1 (by omega)]
  dsimp only
  by_cases e : j = i.toNat
  · have e2 : (j : Int) = i := by omega
    rw [if_pos e2, e, pk_uLs]
  · have e2 : ¬ (j : Int) = i := by omega
    rw [if_neg e2, pk_uLn e]
theorem wt_cat (ad : Nat → Nat) (st : List AV) : ((st.map (cv ad)).map fun v => v.category).sum = wt st := by
  unfold wt
  rw [List.map_map]
  congr 1
  apply List.map_congr_left
  intro v _
  exact cat_cv ad v

theorem lw_nat : Cond.native arraycopyName ∈ lw_good ∧ Cond.static arraycopyName ∈ lw_good ∧ Cond.initialized "java/lang/System" ∈ lw_good := ⟨List.mem_filter.mpr ⟨List.mem_append_right _ (List.mem_of_getElem? (i := 636) (by decide +kernel)), rfl⟩, List.mem_filter.mpr ⟨List.mem_append_right _ (List.mem_of_getElem? (i := 635) (by decide +kernel)), rfl⟩, List.mem_filter.mpr ⟨List.mem_append_right _ (List.mem_of_getElem? (i := 15) (by decide +kernel)), rfl⟩⟩
theorem lw_min : Cond.static Lib.Math.min.name ∈ lw_good ∧ Cond.initialized "java/lang/Math" ∈ lw_good ∧ Cond.code Lib.Math.min.name Lib.Math.min.code 2 (some .int) ∈ lw_good := ⟨List.mem_filter.mpr ⟨List.mem_append_right _ (List.mem_of_getElem? (i := 653) (by decide +kernel)), rfl⟩, List.mem_filter.mpr ⟨List.mem_append_right _ (List.mem_of_getElem? (i := 14) (by decide +kernel)), rfl⟩, List.mem_filter.mpr ⟨List.mem_append_right _ (List.mem_of_getElem? (i := 654) (by decide +kernel)), rfl⟩⟩
theorem lw_max : Cond.static Lib.Math.max.name ∈ lw_good ∧ Cond.initialized "java/lang/Math" ∈ lw_good ∧ Cond.code Lib.Math.max.name Lib.Math.max.code 2 (some .int) ∈ lw_good := ⟨List.mem_filter.mpr ⟨List.mem_append_right _ (List.mem_of_getElem? (i := 495) (by decide +kernel)), rfl⟩, List.mem_filter.mpr ⟨List.mem_append_right _ (List.mem_of_getElem? (i := 14) (by decide +kernel)), rfl⟩, List.mem_filter.mpr ⟨List.mem_append_right _ (List.mem_of_getElem? (i := 496) (by decide +kernel)), rfl⟩⟩
theorem S_iconst (l : Launch) (Dd : va_G) (ad : Nat → Nat) (cs : ClassId × ClassId × ClassId) : R_iconst (PS l Dd ad cs) := by
  intro mr pc ls st M Q n h0 k0 p e R s m args below meth c H locs cells slots Z A la X hP hS hL hret
  obtain ⟨hx, hb, hml, hown, hts, hWo, hDA, hroom, hscr⟩ := id X
  exact lv_iconst hx hb h0 rfl (k0 p e R s m args below meth c H locs cells slots Z A la X hP hS hL hret)
theorem S_bipush (l : Launch) (Dd : va_G) (ad : Nat → Nat) (cs : ClassId × ClassId × ClassId) : R_bipush (PS l Dd ad cs) := by
  intro mr pc ls st M Q n h0 h1 k0 p e R s m args below meth c H locs cells slots Z A la X hP hS hL hret
  obtain ⟨hx, hb, hml, hown, hts, hWo, hDA, hroom, hscr⟩ := id X
  exact lv_bipush hx hb h0 h1 (k0 p e R s m args below meth c H locs cells slots Z A la X hP hS hL hret)
theorem S_sipush (l : Launch) (Dd : va_G) (ad : Nat → Nat) (cs : ClassId × ClassId × ClassId) : R_sipush (PS l Dd ad cs) := by
  intro mr pc ls st M Q n h0 h1 k0 p e R s m args below meth c H locs cells slots Z A la X hP hS hL hret
  obtain ⟨hx, hb, hml, hown, hts, hWo, hDA, hroom, hscr⟩ := id X
  exact lv_sipush hx hb h0 h1 (k0 p e R s m args below meth c H locs cells slots Z A la X hP hS hL hret)
theorem S_ldc (l : Launch) (Dd : va_G) (ad : Nat → Nat) (cs : ClassId × ClassId × ClassId) : R_ldc (PS l Dd ad cs) := by
  intro mr pc ls st M Q ix n h0 h1 k0 p e R s m args below meth c H locs cells slots Z A la X hP hS hL hret
  obtain ⟨hx, hb, hml, hown, hts, hWo, hDA, hroom, hscr⟩ := id X
  exact lv_ldc hx hb hown (hts _ h1) h0 (k0 p e R s m args below meth c H locs cells slots Z A la X hP hS hL hret)
theorem S_ldc2 (l : Launch) (Dd : va_G) (ad : Nat → Nat) (cs : ClassId × ClassId × ClassId) : R_ldc2 (PS l Dd ad cs) := by
  intro mr pc ls st M Q ix n h0 h1 k0 p e R s m args below meth c H locs cells slots Z A la X hP hS hL hret
  obtain ⟨hx, hb, hml, hown, hts, hWo, hDA, hroom, hscr⟩ := id X
  exact lv_ldc2 hx hb hown (hts _ h1) h0 (k0 p e R s m args below meth c H locs cells slots Z A la X hP hS hL hret)
theorem S_lconst (l : Launch) (Dd : va_G) (ad : Nat → Nat) (cs : ClassId × ClassId × ClassId) : R_lconst (PS l Dd ad cs) := by
  intro mr pc ls st M Q k n h0 h1 k0 p e R s m args below meth c H locs cells slots Z A la X hP hS hL hret
  obtain ⟨hx, hb, hml, hown, hts, hWo, hDA, hroom, hscr⟩ := id X
  exact lv_lconst hx hb h0 h1 (k0 p e R s m args below meth c H locs cells slots Z A la X hP hS hL hret)
theorem S_iload_n (l : Launch) (Dd : va_G) (ad : Nat → Nat) (cs : ClassId × ClassId × ClassId) : R_iload_n (PS l Dd ad cs) := by
  intro mr pc ls st M Q k x h0 h1 k0 p e R s m args below meth c H locs cells slots Z A la X hP hS hL hret
  obtain ⟨hx, hb, hml, hown, hts, hWo, hDA, hroom, hscr⟩ := id X
  exact lv_iload_n hx hb h0 rfl (hL.2.2 _ _ h1) (k0 p e R s m args below meth c H locs cells slots Z A la X hP hS hL hret)
theorem S_iload (l : Launch) (Dd : va_G) (ad : Nat → Nat) (cs : ClassId × ClassId × ClassId) : R_iload (PS l Dd ad cs) := by
  intro mr pc ls st M Q k x h0 h1 k0 p e R s m args below meth c H locs cells slots Z A la X hP hS hL hret
  obtain ⟨hx, hb, hml, hown, hts, hWo, hDA, hroom, hscr⟩ := id X
  exact lv_iload hx hb h0 (hL.2.2 _ _ h1) (k0 p e R s m args below meth c H locs cells slots Z A la X hP hS hL hret)
theorem S_lload_n (l : Launch) (Dd : va_G) (ad : Nat → Nat) (cs : ClassId × ClassId × ClassId) : R_lload_n (PS l Dd ad cs) := by
  intro mr pc ls st M Q k x h0 h1 k0 p e R s m args below meth c H locs cells slots Z A la X hP hS hL hret
  obtain ⟨hx, hb, hml, hown, hts, hWo, hDA, hroom, hscr⟩ := id X
  exact lv_lload_n hx hb h0 rfl (hL.2.2 _ _ h1) (k0 p e R s m args below meth c H locs cells slots Z A la X hP hS hL hret)
theorem S_lload (l : Launch) (Dd : va_G) (ad : Nat → Nat) (cs : ClassId × ClassId × ClassId) : R_lload (PS l Dd ad cs) := by
  intro mr pc ls st M Q k x h0 h1 k0 p e R s m args below meth c H locs cells slots Z A la X hP hS hL hret
  obtain ⟨hx, hb, hml, hown, hts, hWo, hDA, hroom, hscr⟩ := id X
  exact lv_lload hx hb h0 (hL.2.2 _ _ h1) (k0 p e R s m args below meth c H locs cells slots Z A la X hP hS hL hret)
theorem S_aload_n (l : Launch) (Dd : va_G) (ad : Nat → Nat) (cs : ClassId × ClassId × ClassId) : R_aload_n (PS l Dd ad cs) := by
  intro mr pc ls st M Q k x h0 h1 k0 p e R s m args below meth c H locs cells slots Z A la X hP hS hL hret
  obtain ⟨hx, hb, hml, hown, hts, hWo, hDA, hroom, hscr⟩ := id X
  exact lv_aload_n hx hb h0 rfl (hL.2.2 _ _ h1) (k0 p e R s m args below meth c H locs cells slots Z A la X hP hS hL hret)
theorem S_aload (l : Launch) (Dd : va_G) (ad : Nat → Nat) (cs : ClassId × ClassId × ClassId) : R_aload (PS l Dd ad cs) := by
  intro mr pc ls st M Q k x h0 h1 k0 p e R s m args below meth c H locs cells slots Z A la X hP hS hL hret
  obtain ⟨hx, hb, hml, hown, hts, hWo, hDA, hroom, hscr⟩ := id X
  exact lv_aload hx hb h0 (hL.2.2 _ _ h1) (k0 p e R s m args below meth c H locs cells slots Z A la X hP hS hL hret)
theorem S_istore_n (l : Launch) (Dd : va_G) (ad : Nat → Nat) (cs : ClassId × ClassId × ClassId) : R_istore_n (PS l Dd ad cs) := by
  intro mr pc ls st M Q k ls2 x h0 h1 h2 k0 p e R s m args below meth c H locs cells slots Z A la X hP hS hL hret
  obtain ⟨hx, hb, hml, hown, hts, hWo, hDA, hroom, hscr⟩ := id X
  exact lv_istore_n hx hb h0 rfl hL.has h1 rfl (fun la2 hl2 => k0 p e R s m args below meth c H locs cells slots Z A la2 X hP hS (h2 ▸ LR.store (v := vI x) hl2) hret)
theorem S_istore (l : Launch) (Dd : va_G) (ad : Nat → Nat) (cs : ClassId × ClassId × ClassId) : R_istore (PS l Dd ad cs) := by
  intro mr pc ls st M Q k ls2 x h0 h1 h2 k0 p e R s m args below meth c H locs cells slots Z A la X hP hS hL hret
  obtain ⟨hx, hb, hml, hown, hts, hWo, hDA, hroom, hscr⟩ := id X
  exact lv_istore hx hb h0 hL.has h1 rfl (fun la2 hl2 => k0 p e R s m args below meth c H locs cells slots Z A la2 X hP hS (h2 ▸ LR.store (v := vI x) hl2) hret)
theorem S_lstore_n (l : Launch) (Dd : va_G) (ad : Nat → Nat) (cs : ClassId × ClassId × ClassId) : R_lstore_n (PS l Dd ad cs) := by
  intro mr pc ls st M Q k ls2 x h0 h1 h2 k0 p e R s m args below meth c H locs cells slots Z A la X hP hS hL hret
  obtain ⟨hx, hb, hml, hown, hts, hWo, hDA, hroom, hscr⟩ := id X
  exact lv_lstore_n hx hb h0 rfl hL.has h1 rfl (fun la2 hl2 => k0 p e R s m args below meth c H locs cells slots Z A la2 X hP hS (h2 ▸ LR.store2 (v := vL x) hl2) hret)
theorem S_lstore (l : Launch) (Dd : va_G) (ad : Nat → Nat) (cs : ClassId × ClassId × ClassId) : R_lstore (PS l Dd ad cs) := by
  intro mr pc ls st M Q k ls2 x h0 h1 h2 k0 p e R s m args below meth c H locs cells slots Z A la X hP hS hL hret
  obtain ⟨hx, hb, hml, hown, hts, hWo, hDA, hroom, hscr⟩ := id X
  exact lv_lstore hx hb h0 hL.has h1 rfl (fun la2 hl2 => k0 p e R s m args below meth c H locs cells slots Z A la2 X hP hS (h2 ▸ LR.store2 (v := vL x) hl2) hret)
theorem S_astore_n (l : Launch) (Dd : va_G) (ad : Nat → Nat) (cs : ClassId × ClassId × ClassId) : R_astore_n (PS l Dd ad cs) := by
  intro mr pc ls st M Q k ls2 x h0 h1 h2 k0 p e R s m args below meth c H locs cells slots Z A la X hP hS hL hret
  obtain ⟨hx, hb, hml, hown, hts, hWo, hDA, hroom, hscr⟩ := id X
  exact lv_astore_n hx hb h0 rfl hL.has h1 rfl (fun la2 hl2 => k0 p e R s m args below meth c H locs cells slots Z A la2 X hP hS (h2 ▸ LR.store (v := vR x) hl2) hret)
theorem S_astore (l : Launch) (Dd : va_G) (ad : Nat → Nat) (cs : ClassId × ClassId × ClassId) : R_astore (PS l Dd ad cs) := by
  intro mr pc ls st M Q k ls2 x h0 h1 h2 k0 p e R s m args below meth c H locs cells slots Z A la X hP hS hL hret
  obtain ⟨hx, hb, hml, hown, hts, hWo, hDA, hroom, hscr⟩ := id X
  exact lv_astore hx hb h0 hL.has h1 rfl (fun la2 hl2 => k0 p e R s m args below meth c H locs cells slots Z A la2 X hP hS (h2 ▸ LR.store (v := vR x) hl2) hret)
theorem S_iinc (l : Launch) (Dd : va_G) (ad : Nat → Nat) (cs : ClassId × ClassId × ClassId) : R_iinc (PS l Dd ad cs) := by
  intro mr pc ls st M Q k n x ls2 h0 h1 h2 h3 k0 p e R s m args below meth c H locs cells slots Z A la X hP hS hL hret
  obtain ⟨hx, hb, hml, hown, hts, hWo, hDA, hroom, hscr⟩ := id X
  obtain ⟨q, hq⟩ := List.getElem?_of_mem (asc_mem (ad := ad) h1)
  exact lv_iinc hx hb h0 hL.has hq (v := Int32.ofInt (x + n)) (by rw [Int32.ofInt_add]) h2 rfl (fun la2 hl2 => k0 p e R s m args below meth c H locs cells slots Z A la2 X hP hS (h3 ▸ LR.store (v := vI (x + n)) hl2) hret)
theorem S_iadd (l : Launch) (Dd : va_G) (ad : Nat → Nat) (cs : ClassId × ClassId × ClassId) : R_iadd (PS l Dd ad cs) := by
  intro mr pc ls st M Q x y h0 k0 p e R s m args below meth c H locs cells slots Z A la X hP hS hL hret
  obtain ⟨hx, hb, hml, hown, hts, hWo, hDA, hroom, hscr⟩ := id X
  have h : W p l e R s m args below meth c H locs cells slots Z (F0 m (pc + 1) la (.int (Int32.ofInt (x + y)) :: st.map (cv ad))) := k0 p e R s m args below meth c H locs cells slots Z A la X hP hS hL hret
  rw [Int32.ofInt_add] at h
  exact lv_iadd hx hb h0 h
theorem S_isub (l : Launch) (Dd : va_G) (ad : Nat → Nat) (cs : ClassId × ClassId × ClassId) : R_isub (PS l Dd ad cs) := by
  intro mr pc ls st M Q x y h0 k0 p e R s m args below meth c H locs cells slots Z A la X hP hS hL hret
  obtain ⟨hx, hb, hml, hown, hts, hWo, hDA, hroom, hscr⟩ := id X
  have h : W p l e R s m args below meth c H locs cells slots Z (F0 m (pc + 1) la (.int (Int32.ofInt (x - y)) :: st.map (cv ad))) := k0 p e R s m args below meth c H locs cells slots Z A la X hP hS hL hret
  rw [Int32.ofInt_sub] at h
  exact lv_isub hx hb h0 h
theorem S_imul (l : Launch) (Dd : va_G) (ad : Nat → Nat) (cs : ClassId × ClassId × ClassId) : R_imul (PS l Dd ad cs) := by
  intro mr pc ls st M Q x y h0 k0 p e R s m args below meth c H locs cells slots Z A la X hP hS hL hret
  obtain ⟨hx, hb, hml, hown, hts, hWo, hDA, hroom, hscr⟩ := id X
  have h : W p l e R s m args below meth c H locs cells slots Z (F0 m (pc + 1) la (.int (Int32.ofInt (x * y)) :: st.map (cv ad))) := k0 p e R s m args below meth c H locs cells slots Z A la X hP hS hL hret
  rw [Int32.ofInt_mul] at h
  exact lv_imul hx hb h0 h
theorem S_idiv (l : Launch) (Dd : va_G) (ad : Nat → Nat) (cs : ClassId × ClassId × ClassId) : R_idiv (PS l Dd ad cs) := by
  intro mr pc ls st M Q x y h0 h1 h2 k0 p e R s m args below meth c H locs cells slots Z A la X hP hS hL hret
  obtain ⟨hx, hb, hml, hown, hts, hWo, hDA, hroom, hscr⟩ := id X
  have h : W p l e R s m args below meth c H locs cells slots Z (F0 m (pc + 1) la (.int (Int32.ofInt (x / y)) :: st.map (cv ad))) := k0 p e R s m args below meth c H locs cells slots Z A la X hP hS hL hret
  have e1 : x / y = x.tdiv y := (Int.tdiv_eq_ediv_of_nonneg h1.1).symm
  rw [e1, Int32.ofInt_tdiv (by show (-2147483648 : Int) ≤ x; omega) (by show x ≤ 2147483647; omega) (by show (-2147483648 : Int) ≤ y; omega) (by show y ≤ 2147483647; omega)] at h
  exact lv_idiv hx hb h0 (by rw [oi_0, oi_eq (by omega) in0]; omega) h
theorem S_irem (l : Launch) (Dd : va_G) (ad : Nat → Nat) (cs : ClassId × ClassId × ClassId) : R_irem (PS l Dd ad cs) := by
  intro mr pc ls st M Q x y h0 h1 h2 k0 p e R s m args below meth c H locs cells slots Z A la X hP hS hL hret
  obtain ⟨hx, hb, hml, hown, hts, hWo, hDA, hroom, hscr⟩ := id X
  have h : W p l e R s m args below meth c H locs cells slots Z (F0 m (pc + 1) la (.int (Int32.ofInt (x % y)) :: st.map (cv ad))) := k0 p e R s m args below meth c H locs cells slots Z A la X hP hS hL hret
  have e1 : x / y = x.tdiv y := (Int.tdiv_eq_ediv_of_nonneg h1.1).symm
  have e2 : x % y = x - x / y * y := by rw [Int.mul_comm, Int.emod_def]
  rw [e2, e1, Int32.ofInt_sub, Int32.ofInt_mul, Int32.ofInt_tdiv (by show (-2147483648 : Int) ≤ x; omega) (by show x ≤ 2147483647; omega) (by show (-2147483648 : Int) ≤ y; omega) (by show y ≤ 2147483647; omega)] at h
  exact lv_irem hx hb h0 (by rw [oi_0, oi_eq (by omega) in0]; omega) h
theorem S_iand (l : Launch) (Dd : va_G) (ad : Nat → Nat) (cs : ClassId × ClassId × ClassId) : R_iand (PS l Dd ad cs) := by
  intro mr pc ls st M Q x y h0 k0 p e R s m args below meth c H locs cells slots Z A la X hP hS hL hret
  obtain ⟨hx, hb, hml, hown, hts, hWo, hDA, hroom, hscr⟩ := id X
  have h : W p l e R s m args below meth c H locs cells slots Z (F0 m (pc + 1) la (.int (Int32.ofInt (Int32.ofInt x &&& Int32.ofInt y).toInt) :: st.map (cv ad))) := k0 p e R s m args below meth c H locs cells slots Z A la X hP hS hL hret
  rw [Int32.ofInt_toInt] at h
  exact lv_iand hx hb h0 h
theorem S_i2l (l : Launch) (Dd : va_G) (ad : Nat → Nat) (cs : ClassId × ClassId × ClassId) : R_i2l (PS l Dd ad cs) := by
  intro mr pc ls st M Q x h0 h1 k0 p e R s m args below meth c H locs cells slots Z A la X hP hS hL hret
  obtain ⟨hx, hb, hml, hown, hts, hWo, hDA, hroom, hscr⟩ := id X
  exact lv_i2l hx hb h0 (Int32.toInt64_ofInt h1.1 h1.2) (k0 p e R s m args below meth c H locs cells slots Z A la X hP hS hL hret)
theorem S_l2i (l : Launch) (Dd : va_G) (ad : Nat → Nat) (cs : ClassId × ClassId × ClassId) : R_l2i (PS l Dd ad cs) := by
  intro mr pc ls st M Q x h0 k0 p e R s m args below meth c H locs cells slots Z A la X hP hS hL hret
  obtain ⟨hx, hb, hml, hown, hts, hWo, hDA, hroom, hscr⟩ := id X
  exact lv_l2i hx hb h0 Int64.toInt32_ofInt (k0 p e R s m args below meth c H locs cells slots Z A la X hP hS hL hret)
theorem S_ladd (l : Launch) (Dd : va_G) (ad : Nat → Nat) (cs : ClassId × ClassId × ClassId) : R_ladd (PS l Dd ad cs) := by
  intro mr pc ls st M Q x y h0 k0 p e R s m args below meth c H locs cells slots Z A la X hP hS hL hret
  obtain ⟨hx, hb, hml, hown, hts, hWo, hDA, hroom, hscr⟩ := id X
  have h : W p l e R s m args below meth c H locs cells slots Z (F0 m (pc + 1) la (.long (Int64.ofInt (x + y)) :: st.map (cv ad))) := k0 p e R s m args below meth c H locs cells slots Z A la X hP hS hL hret
  rw [Int64.ofInt_add] at h
  exact lv_ladd hx hb h0 h
theorem S_lmul (l : Launch) (Dd : va_G) (ad : Nat → Nat) (cs : ClassId × ClassId × ClassId) : R_lmul (PS l Dd ad cs) := by
  intro mr pc ls st M Q x y h0 k0 p e R s m args below meth c H locs cells slots Z A la X hP hS hL hret
  obtain ⟨hx, hb, hml, hown, hts, hWo, hDA, hroom, hscr⟩ := id X
  have h : W p l e R s m args below meth c H locs cells slots Z (F0 m (pc + 1) la (.long (Int64.ofInt (x * y)) :: st.map (cv ad))) := k0 p e R s m args below meth c H locs cells slots Z A la X hP hS hL hret
  rw [Int64.ofInt_mul] at h
  exact lv_lmul hx hb h0 h
theorem S_land (l : Launch) (Dd : va_G) (ad : Nat → Nat) (cs : ClassId × ClassId × ClassId) : R_land (PS l Dd ad cs) := by
  intro mr pc ls st M Q x y h0 k0 p e R s m args below meth c H locs cells slots Z A la X hP hS hL hret
  obtain ⟨hx, hb, hml, hown, hts, hWo, hDA, hroom, hscr⟩ := id X
  have h : W p l e R s m args below meth c H locs cells slots Z (F0 m (pc + 1) la (.long (Int64.ofInt (Int64.ofInt x &&& Int64.ofInt y).toInt) :: st.map (cv ad))) := k0 p e R s m args below meth c H locs cells slots Z A la X hP hS hL hret
  rw [Int64.ofInt_toInt] at h
  exact lv_land hx hb h0 h
theorem S_lor (l : Launch) (Dd : va_G) (ad : Nat → Nat) (cs : ClassId × ClassId × ClassId) : R_lor (PS l Dd ad cs) := by
  intro mr pc ls st M Q x y h0 k0 p e R s m args below meth c H locs cells slots Z A la X hP hS hL hret
  obtain ⟨hx, hb, hml, hown, hts, hWo, hDA, hroom, hscr⟩ := id X
  have h : W p l e R s m args below meth c H locs cells slots Z (F0 m (pc + 1) la (.long (Int64.ofInt (Int64.ofInt x ||| Int64.ofInt y).toInt) :: st.map (cv ad))) := k0 p e R s m args below meth c H locs cells slots Z A la X hP hS hL hret
  rw [Int64.ofInt_toInt] at h
  exact lv_lor hx hb h0 h
theorem S_lshl (l : Launch) (Dd : va_G) (ad : Nat → Nat) (cs : ClassId × ClassId × ClassId) : R_lshl (PS l Dd ad cs) := by
  intro mr pc ls st M Q x y h0 k0 p e R s m args below meth c H locs cells slots Z A la X hP hS hL hret
  obtain ⟨hx, hb, hml, hown, hts, hWo, hDA, hroom, hscr⟩ := id X
  have h : W p l e R s m args below meth c H locs cells slots Z (F0 m (pc + 1) la (.long (Int64.ofInt (Int64.ofInt x <<< ((Int32.ofInt y).toInt64 &&& 63)).toInt) :: st.map (cv ad))) := k0 p e R s m args below meth c H locs cells slots Z A la X hP hS hL hret
  rw [Int64.ofInt_toInt] at h
  exact lv_lshl hx hb h0 rfl h
theorem S_lcmp (l : Launch) (Dd : va_G) (ad : Nat → Nat) (cs : ClassId × ClassId × ClassId) : R_lcmp (PS l Dd ad cs) := by
  intro mr pc ls st M Q x y h0 h1 h2 k0 p e R s m args below meth c H locs cells slots Z A la X hP hS hL hret
  obtain ⟨hx, hb, hml, hown, hts, hWo, hDA, hroom, hscr⟩ := id X
  have h : W p l e R s m args below meth c H locs cells slots Z (F0 m (pc + 1) la (.int (Int32.ofInt (if x > y then 1 else if x = y then 0 else -1)) :: st.map (cv ad))) := k0 p e R s m args below meth c H locs cells slots Z A la X hP hS hL hret
  have e : lg_cmp (Int64.ofInt x) (Int64.ofInt y) = Int32.ofInt (if x > y then 1 else if x = y then 0 else -1) := by
    have g1 : Int64.ofInt y < Int64.ofInt x ↔ y < x := Int64.ofInt_lt_iff_lt h2.1 h2.2 h1.1 h1.2
    have g2 : Int64.ofInt x = Int64.ofInt y ↔ x = y := by
      constructor
      · intro q
        have a1 := (Int64.ofInt_le_iff_le h1.1 h1.2 h2.1 h2.2).mp (by rw [q]; exact Int64.le_refl _)
        have a2 := (Int64.ofInt_le_iff_le h2.1 h2.2 h1.1 h1.2).mp (by rw [q]; exact Int64.le_refl _)
        omega
      · intro q
        rw [q]
    unfold lg_cmp
    simp only [gt_iff_lt, g1, g2]
    repeat' split
    all_goals rfl
  rw [← e] at h
  exact W.lcmp hx hb h0 h
theorem S_dup (l : Launch) (Dd : va_G) (ad : Nat → Nat) (cs : ClassId × ClassId × ClassId) : R_dup (PS l Dd ad cs) := by
  intro mr pc ls st M Q v h0 h1 k0 p e R s m args below meth c H locs cells slots Z A la X hP hS hL hret
  obtain ⟨hx, hb, hml, hown, hts, hWo, hDA, hroom, hscr⟩ := id X
  exact lv_dup hx hb h0 (by rw [cat_cv, if_pos h1]) (k0 p e R s m args below meth c H locs cells slots Z A la X hP hS hL hret)
theorem S_dup2 (l : Launch) (Dd : va_G) (ad : Nat → Nat) (cs : ClassId × ClassId × ClassId) : R_dup2 (PS l Dd ad cs) := by
  intro mr pc ls st M Q v w h0 h1 h2 k0 p e R s m args below meth c H locs cells slots Z A la X hP hS hL hret
  obtain ⟨hx, hb, hml, hown, hts, hWo, hDA, hroom, hscr⟩ := id X
  exact lv_dup2_11 hx hb h0 (by rw [cat_cv, if_pos h1]) (by rw [cat_cv, if_pos h2]) (k0 p e R s m args below meth c H locs cells slots Z A la X hP hS hL hret)
theorem S_getR (l : Launch) (Dd : va_G) (ad : Nat → Nat) (cs : ClassId × ClassId × ClassId) : R_getR (PS l Dd ad cs) := by
  intro mr pc ls st M Q h ix ci k hz fs h0 h1 h2 h3 h4 k0 p e R s m args below meth c H locs cells slots Z A la X hP hS hL hret
  obtain ⟨hx, hb, hml, hown, hts, hWo, hDA, hroom, hscr⟩ := id X
  obtain ⟨C, T, N, g1, g2, g3, g4⟩ := h1
  exact va_get hx hb hts g4 hown hWo.1 hP h (ci := ci) (fs := fv ad M h fs) (by rw [wsOf_get h3, ce_3 h2]) g1 k g2 (hts _ g3) (fun _ q => q) (v := .ref (ad hz)) (by rw [List.getElem?_mapIdx, h4]; rfl) h0 (k0 p e R s m args below meth c H locs cells slots Z A la X hP hS hL hret)
theorem S_getI (l : Launch) (Dd : va_G) (ad : Nat → Nat) (cs : ClassId × ClassId × ClassId) : R_getI (PS l Dd ad cs) := by
  intro mr pc ls st M Q h ix ci k fs h0 h1 h2 h3 h4 k0 p e R s m args below meth c H locs cells slots Z A la X hP hS hL hret
  obtain ⟨hx, hb, hml, hown, hts, hWo, hDA, hroom, hscr⟩ := id X
  obtain ⟨C, T, N, g1, g2, g3, g4⟩ := h1
  exact va_get hx hb hts g4 hown hWo.1 hP h (ci := ci) (fs := fv ad M h fs) (by rw [wsOf_get h3, ce_3 h2]) g1 k g2 (hts _ g3) (fun _ q => q) (v := .int (Int32.ofInt (M h k))) (by rw [List.getElem?_mapIdx, h4]; rfl) h0 (k0 p e R s m args below meth c H locs cells slots Z A la X hP hS hL hret)
theorem S_put (l : Launch) (Dd : va_G) (ad : Nat → Nat) (cs : ClassId × ClassId × ClassId) : R_put (PS l Dd ad cs) := by
  intro mr pc ls st M Q h ix ci k fs x h0 h1 h2 h3 h4 k0 p e R s m args below meth c H locs cells slots Z A la X hP hS hL hret
  obtain ⟨hx, hb, hml, hown, hts, hWo, hDA, hroom, hscr⟩ := id X
  obtain ⟨C, T, N, ty, g1, g2, g3, g4, g5, g6, g7, g8⟩ := h1
  have hkl : k < fs.length := (List.getElem?_eq_some_iff.mp h4).1
  refine va_put hx hb hts g4 ty g5 g6 hown hWo.1 hP hDA.D hS h (ci := ci) (fs := fv ad M h fs) (by rw [wsOf_get h3, ce_3 h2]) g1 k g2 (hts _ g3) (fun _ q => q) g7 (ty := .int) (v := .int (Int32.ofInt x)) (by rw [g5 k g2, g8]) rfl rfl (by simp [fv, hkl]) h0 (fun H1 locs1 hP1 _ hS1 => ?_)
  have ee : ce ad cs (up M h k x) h = .inr (ci, (fv ad M h fs).set k (.int (Int32.ofInt x))) := by
    rw [ce_3 h2]
    congr 2
    apply List.ext_getElem?
    intro j
    by_cases hj : j = k
    · subst hj
      rw [List.getElem?_set_self (by simp [fv, hkl]), List.getElem?_mapIdx, h4]
      simp [up]
    · rw [List.getElem?_set_ne (Ne.symm hj), List.getElem?_mapIdx, List.getElem?_mapIdx]
      have : ¬ ((j : Int) = (k : Int)) := by omega
      simp [up, this]
  rw [wsOf_set h3 (fun h' hn => up_ne hn) ee] at hP1
  exact k0 p e R s m args below meth c H1 locs1 cells slots Z A la X hP1 hS1 hL hret
theorem S_iald (l : Launch) (Dd : va_G) (ad : Nat → Nat) (cs : ClassId × ClassId × ClassId) : R_iald (PS l Dd ad cs) := by
  intro mr pc ls st M Q h_ n i h0 h1 h2 h3 k0 p e R s m args below meth c H locs cells slots Z A la X hP hS hL hret
  obtain ⟨hx, hb, hml, hown, hts, hWo, hDA, hroom, hscr⟩ := id X
  have hn := kd_n h1
  have h : W p l e R s m args below meth c H locs cells slots Z (F0 m (pc + 1) la (.int (Int32.ofInt (M h_ i)) :: st.map (cv ad))) := k0 p e R s m args below meth c H locs cells slots Z A la X hP hS hL hret
  rw [← oi_get (M := M) (h := h_) h3 hn] at h
  exact va_iald hx hb hWo.1 hP h_ 0 (by rw [wsOf_get h2, ce_0 h1]) rfl (oi_in h3 hn) h0 h
theorem S_zald (l : Launch) (Dd : va_G) (ad : Nat → Nat) (cs : ClassId × ClassId × ClassId) : R_zald (PS l Dd ad cs) := by
  intro mr pc ls st M Q h_ n i h0 h1 h2 h3 k0 p e R s m args below meth c H locs cells slots Z A la X hP hS hL hret
  obtain ⟨hx, hb, hml, hown, hts, hWo, hDA, hroom, hscr⟩ := id X
  have hn := kd_n h1
  have h : W p l e R s m args below meth c H locs cells slots Z (F0 m (pc + 1) la (.int (Int32.ofInt (M h_ i)) :: st.map (cv ad))) := k0 p e R s m args below meth c H locs cells slots Z A la X hP hS hL hret
  rw [← oi_get (M := M) (h := h_) h3 hn] at h
  exact va_zald hx hb hWo.1 hP h_ 1 (by rw [wsOf_get h2, ce_1 h1]) rfl (oi_in h3 hn) h0 h
theorem S_lald (l : Launch) (Dd : va_G) (ad : Nat → Nat) (cs : ClassId × ClassId × ClassId) : R_lald (PS l Dd ad cs) := by
  intro mr pc ls st M Q h_ n i h0 h1 h2 h3 k0 p e R s m args below meth c H locs cells slots Z A la X hP hS hL hret
  obtain ⟨hx, hb, hml, hown, hts, hWo, hDA, hroom, hscr⟩ := id X
  have hn := kd_n h1
  have h : W p l e R s m args below meth c H locs cells slots Z (F0 m (pc + 1) la (.long (Int64.ofInt (M h_ i)) :: st.map (cv ad))) := k0 p e R s m args below meth c H locs cells slots Z A la X hP hS hL hret
  rw [← oi_get (M := M) (h := h_) h3 hn] at h
  exact va_lald hx hb hWo.1 hP h_ 2 (by rw [wsOf_get h2, ce_2 h1]) rfl (oi_in h3 hn) h0 h
theorem S_iast (l : Launch) (Dd : va_G) (ad : Nat → Nat) (cs : ClassId × ClassId × ClassId) : R_iast (PS l Dd ad cs) := by
  intro mr pc ls st M Q h_ n i x h0 h1 h2 h3 k0 p e R s m args below meth c H locs cells slots Z A la X hP hS hL hret
  obtain ⟨hx, hb, hml, hown, hts, hWo, hDA, hroom, hscr⟩ := id X
  have hn := kd_n h1
  refine va_iast hx hb hWo.1 hP hDA.D hS h_ 0 (by rw [wsOf_get h2, ce_0 h1]) rfl (oi_in h3 hn) h0 (fun H1 locs1 hP1 _ hS1 => ?_)
  rw [wsOf_set (M' := up M h_ i x) h2 (fun h' hq => up_ne hq) (by rw [ce_0 h1, upd_oi h3 hn])] at hP1
  exact k0 p e R s m args below meth c H1 locs1 cells slots Z A la X hP1 hS1 hL hret
theorem S_zast (l : Launch) (Dd : va_G) (ad : Nat → Nat) (cs : ClassId × ClassId × ClassId) : R_zast (PS l Dd ad cs) := by
  intro mr pc ls st M Q h_ n i x h0 h1 h2 h3 h4 k0 p e R s m args below meth c H locs cells slots Z A la X hP hS hL hret
  obtain ⟨hx, hb, hml, hown, hts, hWo, hDA, hroom, hscr⟩ := id X
  have hn := kd_n h1
  have hnar : vp_nar .boolean (Int32.ofInt x) = Int32.ofInt x := by rcases h4 with rfl | rfl <;> decide +kernel
  refine va_zast hx hb hWo.1 hP hDA.D hS h_ 1 (by rw [wsOf_get h2, ce_1 h1]) rfl (oi_in h3 hn) h0 (fun H1 locs1 hP1 _ hS1 => ?_)
  rw [hnar] at hP1
  rw [wsOf_set (M' := up M h_ i x) h2 (fun h' hq => up_ne hq) (by rw [ce_1 h1, upd_oi h3 hn])] at hP1
  exact k0 p e R s m args below meth c H1 locs1 cells slots Z A la X hP1 hS1 hL hret
theorem S_last (l : Launch) (Dd : va_G) (ad : Nat → Nat) (cs : ClassId × ClassId × ClassId) : R_last (PS l Dd ad cs) := by
  intro mr pc ls st M Q h_ n i x h0 h1 h2 h3 k0 p e R s m args below meth c H locs cells slots Z A la X hP hS hL hret
  obtain ⟨hx, hb, hml, hown, hts, hWo, hDA, hroom, hscr⟩ := id X
  have hn := kd_n h1
  refine va_last hx hb hWo.1 hP hDA.D hS h_ 2 (by rw [wsOf_get h2, ce_2 h1]) rfl (oi_in h3 hn) h0 (fun H1 locs1 hP1 _ hS1 => ?_)
  rw [wsOf_set (M' := up M h_ i x) h2 (fun h' hq => up_ne hq) (by rw [ce_2 h1, upd_ol h3 hn])] at hP1
  exact k0 p e R s m args below meth c H1 locs1 cells slots Z A la X hP1 hS1 hL hret
theorem S_alen (l : Launch) (Dd : va_G) (ad : Nat → Nat) (cs : ClassId × ClassId × ClassId) : R_alen (PS l Dd ad cs) := by
  intro mr pc ls st M Q h_ t n h0 h1 h2 h3 k0 p e R s m args below meth c H locs cells slots Z A la X hP hS hL hret
  obtain ⟨hx, hb, hml, hown, hts, hWo, hDA, hroom, hscr⟩ := id X
  have hn := kd_n h1
  rcases (show t = 0 ∨ t = 1 ∨ t = 2 by omega) with rfl | rfl | rfl
  · exact va_alen hx hb hWo.1 hP h_ 0 (by rw [wsOf_get h3, ce_0 h1]) rfl (v := Int32.ofInt n) rfl h0 (k0 p e R s m args below meth c H locs cells slots Z A la X hP hS hL hret)
  · exact va_alen hx hb hWo.1 hP h_ 1 (by rw [wsOf_get h3, ce_1 h1]) rfl (v := Int32.ofInt n) rfl h0 (k0 p e R s m args below meth c H locs cells slots Z A la X hP hS hL hret)
  · exact va_alen hx hb hWo.1 hP h_ 2 (by rw [wsOf_get h3, ce_2 h1]) rfl (v := Int32.ofInt n) rfl h0 (k0 p e R s m args below meth c H locs cells slots Z A la X hP hS hL hret)
theorem S_sald (l : Launch) (Dd : va_G) (ad : Nat → Nat) (cs : ClassId × ClassId × ClassId) : R_sald (PS l Dd ad cs) := by
  intro mr pc ls st M Q i h0 h1 h2 k0 p e R s m args below meth c H locs cells slots Z A la X hP hS hL hret
  obtain ⟨hx, hb, hml, hown, hts, hWo, hDA, hroom, hscr⟩ := id X
  obtain ⟨xs, g1, g2, g3, g4, hn⟩ := hscr h1
  have h : W p l e R s m args below meth c H locs cells slots Z (F0 m (pc + 1) la (.int (Int32.ofInt (mrX mr i.toNat)) :: st.map (cv ad))) := k0 p e R s m args below meth c H locs cells slots Z A la X hP hS hL hret
  rw [← g4 i.toNat (by omega), Int32.ofInt_toInt, ← oi_clamp h2.1 (by omega)] at h
  exact va_sld hx hb g1 g2 g3 hS (oi_in h2 hn) h0 h
theorem S_slen (l : Launch) (Dd : va_G) (ad : Nat → Nat) (cs : ClassId × ClassId × ClassId) : R_slen (PS l Dd ad cs) := by
  intro mr pc ls st M Q h0 h1 k0 p e R s m args below meth c H locs cells slots Z A la X hP hS hL hret
  obtain ⟨hx, hb, hml, hown, hts, hWo, hDA, hroom, hscr⟩ := id X
  obtain ⟨xs, g1, g2, g3, g4⟩ := hscr h1
  exact va_slen hx hb g1 g2 g3 hS h0 (k0 p e R s m args below meth c H locs cells slots Z A la X hP hS hL hret)
theorem S_if_eq (l : Launch) (Dd : va_G) (ad : Nat → Nat) (cs : ClassId × ClassId × ClassId) : R_if_eq (PS l Dd ad cs) := by
  intro mr pc ls st M Q x off tgt h0 h1 h2 k0 k1 p e R s m args below meth c H locs cells slots Z A la X hP hS hL hret
  obtain ⟨hx, hb, hml, hown, hts, hWo, hDA, hroom, hscr⟩ := id X
  have g := oi_eq h2 in0
  rw [← oi_0] at g
  exact lv_if_eq hx hb h0 h1 (fun hc => k0 (g.mp hc) p e R s m args below meth c H locs cells slots Z A la X hP hS hL hret) (fun hc => k1 (fun q => hc (g.mpr q)) p e R s m args below meth c H locs cells slots Z A la X hP hS hL hret)
theorem S_icmp_eq (l : Launch) (Dd : va_G) (ad : Nat → Nat) (cs : ClassId × ClassId × ClassId) : R_icmp_eq (PS l Dd ad cs) := by
  intro mr pc ls st M Q x y off tgt h0 h1 h2 h3 k0 k1 p e R s m args below meth c H locs cells slots Z A la X hP hS hL hret
  obtain ⟨hx, hb, hml, hown, hts, hWo, hDA, hroom, hscr⟩ := id X
  have g := oi_eq h2 h3
  exact lv_icmp_eq hx hb h0 h1 (fun hc => k0 (g.mp hc) p e R s m args below meth c H locs cells slots Z A la X hP hS hL hret) (fun hc => k1 (fun q => hc (g.mpr q)) p e R s m args below meth c H locs cells slots Z A la X hP hS hL hret)
theorem S_if_ne (l : Launch) (Dd : va_G) (ad : Nat → Nat) (cs : ClassId × ClassId × ClassId) : R_if_ne (PS l Dd ad cs) := by
  intro mr pc ls st M Q x off tgt h0 h1 h2 k0 k1 p e R s m args below meth c H locs cells slots Z A la X hP hS hL hret
  obtain ⟨hx, hb, hml, hown, hts, hWo, hDA, hroom, hscr⟩ := id X
  have g := oi_eq h2 in0
  rw [← oi_0] at g
  exact lv_if_ne hx hb h0 h1 (fun hc => k0 (fun q => hc (g.mpr q)) p e R s m args below meth c H locs cells slots Z A la X hP hS hL hret) (fun hc => k1 (fun q => q (g.mp hc)) p e R s m args below meth c H locs cells slots Z A la X hP hS hL hret)
theorem S_icmp_ne (l : Launch) (Dd : va_G) (ad : Nat → Nat) (cs : ClassId × ClassId × ClassId) : R_icmp_ne (PS l Dd ad cs) := by
  intro mr pc ls st M Q x y off tgt h0 h1 h2 h3 k0 k1 p e R s m args below meth c H locs cells slots Z A la X hP hS hL hret
  obtain ⟨hx, hb, hml, hown, hts, hWo, hDA, hroom, hscr⟩ := id X
  have g := oi_eq h2 h3
  exact lv_icmp_ne hx hb h0 h1 (fun hc => k0 (fun q => hc (g.mpr q)) p e R s m args below meth c H locs cells slots Z A la X hP hS hL hret) (fun hc => k1 (fun q => q (g.mp hc)) p e R s m args below meth c H locs cells slots Z A la X hP hS hL hret)
theorem S_if_lt (l : Launch) (Dd : va_G) (ad : Nat → Nat) (cs : ClassId × ClassId × ClassId) : R_if_lt (PS l Dd ad cs) := by
  intro mr pc ls st M Q x off tgt h0 h1 h2 k0 k1 p e R s m args below meth c H locs cells slots Z A la X hP hS hL hret
  obtain ⟨hx, hb, hml, hown, hts, hWo, hDA, hroom, hscr⟩ := id X
  have g := oi_lt h2 in0
  rw [← oi_0] at g
  exact lv_if_lt hx hb h0 h1 (fun hc => k0 (g.mp hc) p e R s m args below meth c H locs cells slots Z A la X hP hS hL hret) (fun hc => k1 (fun q => hc (g.mpr q)) p e R s m args below meth c H locs cells slots Z A la X hP hS hL hret)
theorem S_icmp_lt (l : Launch) (Dd : va_G) (ad : Nat → Nat) (cs : ClassId × ClassId × ClassId) : R_icmp_lt (PS l Dd ad cs) := by
  intro mr pc ls st M Q x y off tgt h0 h1 h2 h3 k0 k1 p e R s m args below meth c H locs cells slots Z A la X hP hS hL hret
  obtain ⟨hx, hb, hml, hown, hts, hWo, hDA, hroom, hscr⟩ := id X
  have g := oi_lt h2 h3
  exact lv_icmp_lt hx hb h0 h1 (fun hc => k0 (g.mp hc) p e R s m args below meth c H locs cells slots Z A la X hP hS hL hret) (fun hc => k1 (fun q => hc (g.mpr q)) p e R s m args below meth c H locs cells slots Z A la X hP hS hL hret)
theorem S_if_ge (l : Launch) (Dd : va_G) (ad : Nat → Nat) (cs : ClassId × ClassId × ClassId) : R_if_ge (PS l Dd ad cs) := by
  intro mr pc ls st M Q x off tgt h0 h1 h2 k0 k1 p e R s m args below meth c H locs cells slots Z A la X hP hS hL hret
  obtain ⟨hx, hb, hml, hown, hts, hWo, hDA, hroom, hscr⟩ := id X
  have g := oi_le in0 h2
  rw [← oi_0] at g
  exact lv_if_ge hx hb h0 h1 (fun hc => k0 (g.mp hc) p e R s m args below meth c H locs cells slots Z A la X hP hS hL hret) (fun hc => k1 (fun q => hc (g.mpr q)) p e R s m args below meth c H locs cells slots Z A la X hP hS hL hret)
theorem S_icmp_ge (l : Launch) (Dd : va_G) (ad : Nat → Nat) (cs : ClassId × ClassId × ClassId) : R_icmp_ge (PS l Dd ad cs) := by
  intro mr pc ls st M Q x y off tgt h0 h1 h2 h3 k0 k1 p e R s m args below meth c H locs cells slots Z A la X hP hS hL hret
  obtain ⟨hx, hb, hml, hown, hts, hWo, hDA, hroom, hscr⟩ := id X
  have g := oi_le h3 h2
  exact lv_icmp_ge hx hb h0 h1 (fun hc => k0 (g.mp hc) p e R s m args below meth c H locs cells slots Z A la X hP hS hL hret) (fun hc => k1 (fun q => hc (g.mpr q)) p e R s m args below meth c H locs cells slots Z A la X hP hS hL hret)
theorem S_if_gt (l : Launch) (Dd : va_G) (ad : Nat → Nat) (cs : ClassId × ClassId × ClassId) : R_if_gt (PS l Dd ad cs) := by
  intro mr pc ls st M Q x off tgt h0 h1 h2 k0 k1 p e R s m args below meth c H locs cells slots Z A la X hP hS hL hret
  obtain ⟨hx, hb, hml, hown, hts, hWo, hDA, hroom, hscr⟩ := id X
  have g := oi_lt in0 h2
  rw [← oi_0] at g
  exact lv_if_gt hx hb h0 h1 (fun hc => k0 (g.mp hc) p e R s m args below meth c H locs cells slots Z A la X hP hS hL hret) (fun hc => k1 (fun q => hc (g.mpr q)) p e R s m args below meth c H locs cells slots Z A la X hP hS hL hret)
theorem S_icmp_gt (l : Launch) (Dd : va_G) (ad : Nat → Nat) (cs : ClassId × ClassId × ClassId) : R_icmp_gt (PS l Dd ad cs) := by
  intro mr pc ls st M Q x y off tgt h0 h1 h2 h3 k0 k1 p e R s m args below meth c H locs cells slots Z A la X hP hS hL hret
  obtain ⟨hx, hb, hml, hown, hts, hWo, hDA, hroom, hscr⟩ := id X
  have g := oi_lt h3 h2
  exact lv_icmp_gt hx hb h0 h1 (fun hc => k0 (g.mp hc) p e R s m args below meth c H locs cells slots Z A la X hP hS hL hret) (fun hc => k1 (fun q => hc (g.mpr q)) p e R s m args below meth c H locs cells slots Z A la X hP hS hL hret)
theorem S_if_le (l : Launch) (Dd : va_G) (ad : Nat → Nat) (cs : ClassId × ClassId × ClassId) : R_if_le (PS l Dd ad cs) := by
  intro mr pc ls st M Q x off tgt h0 h1 h2 k0 k1 p e R s m args below meth c H locs cells slots Z A la X hP hS hL hret
  obtain ⟨hx, hb, hml, hown, hts, hWo, hDA, hroom, hscr⟩ := id X
  have g := oi_le h2 in0
  rw [← oi_0] at g
  exact lv_if_le hx hb h0 h1 (fun hc => k0 (g.mp hc) p e R s m args below meth c H locs cells slots Z A la X hP hS hL hret) (fun hc => k1 (fun q => hc (g.mpr q)) p e R s m args below meth c H locs cells slots Z A la X hP hS hL hret)
theorem S_icmp_le (l : Launch) (Dd : va_G) (ad : Nat → Nat) (cs : ClassId × ClassId × ClassId) : R_icmp_le (PS l Dd ad cs) := by
  intro mr pc ls st M Q x y off tgt h0 h1 h2 h3 k0 k1 p e R s m args below meth c H locs cells slots Z A la X hP hS hL hret
  obtain ⟨hx, hb, hml, hown, hts, hWo, hDA, hroom, hscr⟩ := id X
  have g := oi_le h2 h3
  exact lv_icmp_le hx hb h0 h1 (fun hc => k0 (g.mp hc) p e R s m args below meth c H locs cells slots Z A la X hP hS hL hret) (fun hc => k1 (fun q => hc (g.mpr q)) p e R s m args below meth c H locs cells slots Z A la X hP hS hL hret)
theorem S_goto (l : Launch) (Dd : va_G) (ad : Nat → Nat) (cs : ClassId × ClassId × ClassId) : R_goto (PS l Dd ad cs) := by
  intro mr pc ls st M Q off tgt h0 h1 k0 p e R s m args below meth c H locs cells slots Z A la X hP hS hL hret
  obtain ⟨hx, hb, hml, hown, hts, hWo, hDA, hroom, hscr⟩ := id X
  exact lv_goto hx hb h0 h1 (k0 p e R s m args below meth c H locs cells slots Z A la X hP hS hL hret)
theorem S_tblO (l : Launch) (Dd : va_G) (ad : Nat → Nat) (cs : ClassId × ClassId × ClassId) : R_tblO (PS l Dd ad cs) := by
  intro mr pc ls st M Q x dflt lo hi offs len tgt h0 h1 h2 h3 k0 p e R s m args below meth c H locs cells slots Z A la X hP hS hL hret
  obtain ⟨hx, hb, hml, hown, hts, hWo, hDA, hroom, hscr⟩ := id X
  have g : (Int32.ofInt x).toInt = x := Int32.toInt_ofInt_of_le (by omega) (by omega)
  exact lv_tableOut hx hb h0 (by rw [g]; exact h2) h3 (k0 p e R s m args below meth c H locs cells slots Z A la X hP hS hL hret)
theorem S_tblI (l : Launch) (Dd : va_G) (ad : Nat → Nat) (cs : ClassId × ClassId × ClassId) : R_tblI (PS l Dd ad cs) := by
  intro mr pc ls st M Q x dflt lo hi off offs len tgt h0 h1 h2 h3 h4 h5 k0 p e R s m args below meth c H locs cells slots Z A la X hP hS hL hret
  obtain ⟨hx, hb, hml, hown, hts, hWo, hDA, hroom, hscr⟩ := id X
  have g : (Int32.ofInt x).toInt = x := Int32.toInt_ofInt_of_le (by omega) (by omega)
  exact lv_tableIn hx hb h0 (by rw [g]; exact h2) (by rw [g]; exact h3) (by rw [g]; exact h4) h5 (k0 p e R s m args below meth c H locs cells slots Z A la X hP hS hL hret)
theorem S_vret (l : Launch) (Dd : va_G) (ad : Nat → Nat) (cs : ClassId × ClassId × ClassId) : R_vret (PS l Dd ad cs) := by
  intro mr pc ls st M Q h0 h1 h2 p e R s m args below meth c H locs cells slots Z A la X hP hS hL hret
  obtain ⟨hx, hb, hml, hown, hts, hWo, hDA, hroom, hscr⟩ := id X
  exact hret none M H locs pc la h2 hP hS (Or.inl ⟨rfl, h0, h1⟩)
theorem S_iret (l : Launch) (Dd : va_G) (ad : Nat → Nat) (cs : ClassId × ClassId × ClassId) : R_iret (PS l Dd ad cs) := by
  intro mr pc ls st M Q x h0 h1 h2 p e R s m args below meth c H locs cells slots Z A la X hP hS hL hret
  obtain ⟨hx, hb, hml, hown, hts, hWo, hDA, hroom, hscr⟩ := id X
  exact hret (some (vI x)) M H locs pc la h2 hP hS (Or.inr ⟨x, rfl, h0, Or.inl h1⟩)
theorem S_zret (l : Launch) (Dd : va_G) (ad : Nat → Nat) (cs : ClassId × ClassId × ClassId) : R_zret (PS l Dd ad cs) := by
  intro mr pc ls st M Q x h0 h1 h2 h3 p e R s m args below meth c H locs cells slots Z A la X hP hS hL hret
  obtain ⟨hx, hb, hml, hown, hts, hWo, hDA, hroom, hscr⟩ := id X
  exact hret (some (vI x)) M H locs pc la h3 hP hS (Or.inr ⟨x, rfl, h0, Or.inr ⟨h1, h2⟩⟩)
theorem S_copy (l : Launch) (Dd : va_G) (ad : Nat → Nat) (cs : ClassId × ClassId × ClassId) : R_copy (PS l Dd ad cs) := by
  intro mr pc ls st M Q ix h0_ h1_ n0 n1 sp dp n h0 h1 h2 h3 h4 h5 h6 h7 h8 h9 k0 p e R s m args below meth c H locs cells slots Z A la X hP hS hL hret
  obtain ⟨hx, hb, hml, hown, hts, hWo, hDA, hroom, hscr⟩ := id X
  have hn0 := kd_n h2
  have hn1 := kd_n h3
  have c1 := oi_clamp h6.1 (by omega)
  have c2 := oi_clamp h6.2.1 (by omega)
  have c3 := oi_clamp h6.2.2.1 (by omega)
  have nn : ∀ z : Int, 0 ≤ z → z < 2147483648 → ¬ Int32.ofInt z < 0 := fun z z0 z1 => by rw [oi_0, oi_lt (by omega) in0]; omega
  refine va_copyi hx hb (hml.trans hL.1.symm) hown (hts _ h1) (hts _ lw_nat.1) (hts _ lw_nat.2.1) (hts _ lw_nat.2.2) hWo.1 hP hDA.D hS h0_ h1_ 0 0 (by rw [wsOf_get h4, ce_0 h2]) (by rw [wsOf_get h5, ce_0 h3]) rfl rfl rfl (nn sp (by omega) (by omega)) (nn dp (by omega) (by omega)) (nn n (by omega) (by omega)) (by rw [c1, c3]; omega) (by rw [c2, c3]; omega) (fun _ _ => rfl) (by omega) (by rw [wt_cat]; omega) h0 (fun H1 locs1 hP1 _ hS1 => ?_)
  rw [wsOf_set (M' := cpy M h0_ h1_ sp dp n) h5 (fun h' hq => by simp [cpy, hq]) (by
    rw [ce_0 h3]
    congr 4
    funext j
    rw [c1, c2, c3]
    simp only [cpy, va_cpy, if_true]
    by_cases g : dp.toNat ≤ j ∧ j < dp.toNat + n.toNat
    · rw [if_pos g, if_pos (by omega)]
      congr 2
      omega
    · rw [if_neg g, if_neg (by omega)])] at hP1
  exact k0 p e R s m args below meth c H1 locs1 cells slots Z A la X hP1 hS1 hL hret
theorem S_mmax (l : Launch) (Dd : va_G) (ad : Nat → Nat) (cs : ClassId × ClassId × ClassId) : R_mmax (PS l Dd ad cs) := by
  intro mr pc ls st M Q ix x y h0 h1 h2 h3 h4 h5 h6 k0 p e R s m args below meth c H locs cells slots Z A la X hP hS hL hret
  obtain ⟨hx, hb, hml, hown, hts, hWo, hDA, hroom, hscr⟩ := id X
  have h : W p l e R s m args below meth c H locs cells slots Z (F0 m (pc + 3) la (.int (Int32.ofInt (if x < y then y else x)) :: st.map (cv ad))) := k0 p e R s m args below meth c H locs cells slots Z A la X hP hS hL hret
  have ee : Int32.ofInt (if x < y then y else x) = if Int32.ofInt x < Int32.ofInt y then Int32.ofInt y else Int32.ofInt x := by
    rw [apply_ite Int32.ofInt]
    simp only [oi_lt h5 h6]
  rw [ee] at h
  exact va_mmax hx hb (hml.trans hL.1.symm) hown (hts _ h1) (hts _ lw_max.1) (hts _ lw_max.2.1) (hts _ lw_max.2.2) (by omega) (by rw [wt_cat]; omega) hroom.2.2.1 hroom.2.2.2 h0 h
theorem S_mmin (l : Launch) (Dd : va_G) (ad : Nat → Nat) (cs : ClassId × ClassId × ClassId) : R_mmin (PS l Dd ad cs) := by
  intro mr pc ls st M Q ix x y h0 h1 h2 h3 h4 h5 h6 k0 p e R s m args below meth c H locs cells slots Z A la X hP hS hL hret
  obtain ⟨hx, hb, hml, hown, hts, hWo, hDA, hroom, hscr⟩ := id X
  have h : W p l e R s m args below meth c H locs cells slots Z (F0 m (pc + 3) la (.int (Int32.ofInt (if y < x then y else x)) :: st.map (cv ad))) := k0 p e R s m args below meth c H locs cells slots Z A la X hP hS hL hret
  have ee : Int32.ofInt (if y < x then y else x) = if Int32.ofInt y < Int32.ofInt x then Int32.ofInt y else Int32.ofInt x := by
    rw [apply_ite Int32.ofInt]
    simp only [oi_lt h6 h5]
  rw [ee] at h
  exact va_mmin hx hb (hml.trans hL.1.symm) hown (hts _ h1) (hts _ lw_min.1) (hts _ lw_min.2.1) (hts _ lw_min.2.2) (by omega) (by rw [wt_cat]; omega) hroom.2.2.1 hroom.2.2.2 h0 h
theorem S_weak (l : Launch) (Dd : va_G) (ad : Nat → Nat) (cs : ClassId × ClassId × ClassId) : R_weak (PS l Dd ad cs) := by
  intro mr pc ls st M Q ls2 h0 k0 p e R s m args below meth c H locs cells slots Z A la X hP hS hL hret
  obtain ⟨hx, hb, hml, hown, hts, hWo, hDA, hroom, hscr⟩ := id X
  exact k0 p e R s m args below meth c H locs cells slots Z A la X hP hS ⟨hL.1, hL.2.1, fun i v hv => hL.2.2 i v (lsub_get ls2 ls h0 i v hv)⟩ hret
theorem met_of {l : Launch} {Dd : va_G} {ad : Nat → Nat} {cs : ClassId × ClassId × ClassId} {cm : MR} {n : Nat} {As : List AV} {M : Mem} {Q1 : Po} (hok : MOK cm n) (hent : (entS As).length ≤ mrN cm) (hk : PS l Dd ad cs cm 0 (entL As (mrN cm)) [] M Q1) :
    Met l (mrY cm) (Cond.code (mrY cm) (mrB cm) (mrN cm) (mrT cm) :: lw_good) { frames := mrF cm, cells := 0, slots := 0, locals := mrL cm } (va_Pc (As.map (cv ad)) (fun U => va_P Dd classes (wsOf ad cs M) U.heap ∧ Wo Dd cs U ∧ DA ad (fun _ => True)))
      (fun _ st oc t => (∃ (r : Option AV) (M1 : Mem), Q1 r M1 ∧ oc = .returned (r.map (cv ad)) ∧ va_P Dd classes (wsOf ad cs M1) t.heap) ∧ va_F (AdA ad) st t) 0 0 (AdA ad) := by
  obtain ⟨o1, o2, o3, o4, o5, o6, o7, o8⟩ := hok
  refine Met.ofW (cc := mrB cm) (maxL := mrN cm) (ret := mrT cm) o1 rfl ?_
  intro p e s m args below meth c s₁ B hml hv
  obtain ⟨rfl, hP, hWo, hDA⟩ := hv
  have hts := atoms_spec (ws := Cond.code (mrY cm) (mrB cm) (mrN cm) (mrT cm) :: lw_good) B.pre
  have hown : s.vm.findClass (cn (mrC cm)) = some m.cls := by rw [o2]; exact findClass_of_methodNamed B.named
  have hlocks := B.notSynchronized
  have hr := B.returns
  rw [lg_entry_eq]
  refine hk p e _ s m _ below meth c s.heap [] 0 0 _ (AdA ad) _ ⟨B.exec, B.bytes, hml, hown, fun w hw => hts w (List.mem_cons_of_mem _ hw), hWo, ⟨hDA.1, fun h hh => ⟨h, hh, rfl⟩⟩, ⟨Nat.le_refl _, Nat.le_refl _, Nat.zero_le _, Nat.zero_le _⟩, fun q => absurd q o8⟩ hP va_S.rf (LR.entry hent) ?_
  intro r M' H' locs' pc' la' hq hP' hS' hat
  rcases hat with ⟨rfl, a1, a2⟩ | ⟨x, rfl, a1, a2⟩
  · exact W.vret B.exec B.bytes (hr.trans a2) (fun t ht hW => ⟨⟨none, M', hq, rfl, by rw [ht]; exact hP'⟩, hS'.F ht⟩) hS'.2.2 a1
  · rcases a2 with a2 | ⟨a2, a3⟩
    · exact W.iret B.exec B.bytes (hr.trans a2) (fun t ht hW => ⟨⟨some (vI x), M', hq, rfl, by rw [ht]; exact hP'⟩, hS'.F ht⟩) hS'.2.2 a1
    · exact W.zret B.exec B.bytes (hr.trans a2) (by rcases a3 with rfl | rfl <;> decide +kernel) (fun t ht hW => ⟨⟨some (vI x), M', hq, rfl, by rw [ht]; exact hP'⟩, hS'.F ht⟩) hS'.2.2 a1
theorem blind_of {Dd : va_G} {ad : Nat → Nat} {cs : ClassId × ClassId × ClassId} {av : List Value} {M : Mem} : FrameBlind (va_Pc av (fun U => va_P Dd classes (wsOf ad cs M) U.heap ∧ Wo Dd cs U ∧ DA ad (fun _ => True))) := by
  intro a U g mk q
  obtain ⟨q0, qP, qW, qD⟩ := q
  exact ⟨q0, qP, Wo.same (s := U) (U := U.calling g mk a) rfl qW, qD⟩
theorem AdA_in {ad : Nat → Nat} {A : Nat → Prop} (h : DA ad A) : ∀ q, AdA ad q → A q := by
  rintro q ⟨k, hk, rfl⟩
  exact h.2 k hk
theorem call_k3 {l : Launch} {Dd : va_G} {ad : Nat → Nat} {cs : ClassId × ClassId × ClassId} {p : Program} {e : Env} {R : Room} {s : State} {m : MethodId} {args : Array Value} {below : List Frame} {meth : Method} {c : Code} {H : Heap} {locs : List Loc} {cells slots : Nat} {Z : State → Prop} {A : Nat → Prop} {la : Array Slot} {pc : Nat} {st0 rest : List Value} {Q1 : Po}
    (hr : va_Run p l e R s m args below meth c H locs cells slots 0 0 (F0 m pc la st0) rest (fun st oc t => (∃ (r : Option AV) (M1 : Mem), Q1 r M1 ∧ oc = .returned (r.map (cv ad)) ∧ va_P Dd classes (wsOf ad cs M1) t.heap) ∧ va_F (AdA ad) st t) (AdA ad)) (hS : va_S A s.heap H locs) (hDA : DA ad A)
    (kk : ∀ (r : Option AV) (M1 : Mem) (H1 : Heap) (locs1 : List Loc), Q1 r M1 → va_P Dd classes (wsOf ad cs M1) H1 → va_S A s.heap H1 locs1 → W p l e R s m args below meth c H1 locs1 cells slots Z (F0 m (pc + 3) la ((r.map (cv ad)).toList ++ rest))) : W p l e R s m args below meth c H locs cells slots Z (F0 m pc la st0) := by
  intro T hT X
  obtain ⟨v, st₀, t, T', L, h0, X', hL, e1, e2, ⟨⟨r, M1, hq, hv, hP1⟩, hz, hk⟩, st⟩ := hr T hT X
  cases hv
  rw [h0] at hz hk
  have hin := AdA_in hDA
  obtain ⟨t2, a1, b1⟩ := kk r M1 T'.heap (locs ++ L) hq (by rw [e1]; exact hP1)
    ⟨Nat.le_trans hS.1 (by rw [e1]; exact hz), fun q h1 h2 => by rw [e1, hk q (Nat.lt_of_lt_of_le h1 hS.1) (fun z => h2 (hin q z))]; exact hS.2.1 q h1 h2, fun q hq => by
      rcases List.mem_append.mp hq with h | h
      · exact hS.2.2 q h
      · exact hin _ (hL q h)⟩ T' rfl X'
  exact ⟨t2, st t2 a1, b1⟩
theorem call_k5 {l : Launch} {Dd : va_G} {ad : Nat → Nat} {cs : ClassId × ClassId × ClassId} {p : Program} {e : Env} {R : Room} {s : State} {m : MethodId} {args : Array Value} {below : List Frame} {meth : Method} {c : Code} {H : Heap} {locs : List Loc} {cells slots : Nat} {Z : State → Prop} {A : Nat → Prop} {la : Array Slot} {pc : Nat} {st0 rest : List Value} {Q1 : Po}
    (hr : va_Run5 p l e R s m args below meth c H locs cells slots 0 0 (F0 m pc la st0) rest (fun st oc t => (∃ (r : Option AV) (M1 : Mem), Q1 r M1 ∧ oc = .returned (r.map (cv ad)) ∧ va_P Dd classes (wsOf ad cs M1) t.heap) ∧ va_F (AdA ad) st t) (AdA ad)) (hS : va_S A s.heap H locs) (hDA : DA ad A)
    (kk : ∀ (r : Option AV) (M1 : Mem) (H1 : Heap) (locs1 : List Loc), Q1 r M1 → va_P Dd classes (wsOf ad cs M1) H1 → va_S A s.heap H1 locs1 → W p l e R s m args below meth c H1 locs1 cells slots Z (F0 m (pc + 5) la ((r.map (cv ad)).toList ++ rest))) : W p l e R s m args below meth c H locs cells slots Z (F0 m pc la st0) := by
  intro T hT X
  obtain ⟨v, st₀, t, T', L, h0, X', hL, e1, e2, ⟨⟨r, M1, hq, hv, hP1⟩, hz, hk⟩, st⟩ := hr T hT X
  cases hv
  rw [h0] at hz hk
  have hin := AdA_in hDA
  obtain ⟨t2, a1, b1⟩ := kk r M1 T'.heap (locs ++ L) hq (by rw [e1]; exact hP1)
    ⟨Nat.le_trans hS.1 (by rw [e1]; exact hz), fun q h1 h2 => by rw [e1, hk q (Nat.lt_of_lt_of_le h1 hS.1) (fun z => h2 (hin q z))]; exact hS.2.1 q h1 h2, fun q hq => by
      rcases List.mem_append.mp hq with h | h
      · exact hS.2.2 q h
      · exact hin _ (hL q h)⟩ T' rfl X'
  exact ⟨t2, st t2 a1, b1⟩
theorem S_callV (l : Launch) (Dd : va_G) (ad : Nat → Nat) (cs : ClassId × ClassId × ClassId) : R_callV (PS l Dd ad cs) := by
  intro mr pc ls st M Q h fs cm ix As Q1 h0 hc hk hh hrm hent hwt k1 k2 p e R s m args below meth c H locs cells slots Z A la X hP hS hL hret
  obtain ⟨hx, hb, hml, hown, hts, hWo, hDA, hroom, hscr⟩ := id X
  obtain ⟨o1, o2, o3, o4, o5, o6, o7, o8⟩ := id hc.1
  have hM := met_of hc.1 hent k1
  have hroom2 : mrF cm + 1 ≤ R.frames ∧ 8 + (mrN cm + 11) + mrL cm ≤ R.locals := ⟨Nat.le_trans hrm.1 hroom.1, Nat.le_trans hrm.2 hroom.2.1⟩
  have hgood : GoodIn lw_good (Cond.code (mrY cm) (mrB cm) (mrN cm) (mrT cm) :: lw_good) := good_all (fun w hw => (List.mem_cons.mp hw).elim (fun q => q ▸ o3) id)
  have hPc : ∀ U : State, U.heap = H → s.WarmedH U.vm → va_P Dd classes (wsOf ad cs M) U.heap ∧ Wo Dd cs U ∧ DA ad (fun _ => True) := fun U hU hW => ⟨by rw [hU]; exact hP, hWo.warm hW, ⟨hDA.1, fun _ _ => trivial⟩⟩
  obtain ⟨Tc, Nc, hcl⟩ := cls_cn (mrC cm) hc.2.1
  have hrecv := va_recv hWo.1 hP hcl (q0 := h) (a := ad h) (fs := fv ad M h fs) (by rw [wsOf_get hh, ce_3 hk])
  dsimp only at hrecv
  rw [o2] at hrecv
  rw [List.map_append, List.map_reverse, List.map_cons]
  have hg : GoodIn lw_good (wsV (cn (mrC mr)) ix (mrY cm).cls (mrY cm) (Cond.code (mrY cm) (mrB cm) (mrN cm) (mrT cm) :: lw_good)) := good_all (fun w hw => by
    unfold wsV at hw
    rcases List.mem_append.mp hw with hw | hw
    · simp only [List.mem_cons, List.not_mem_nil, or_false] at hw
      rcases hw with rfl | rfl | rfl | rfl
      · exact hc.2.2.1
      · exact hc.2.2.2.1
      · exact hc.2.2.2.2
      · exact o4
    · exact (hgood w hw).1)
  refine call_k3 (va_runV (As := As.map (cv ad)) (rest := st.map (cv ad)) (Ts := lw_good) (own := cn (mrC mr)) (C := (mrY cm).cls) (b := ad h) ⟨hx, hb, hml, hown, hts⟩ hM (cwV As.length hts hg rfl rfl rfl ⟨rfl, o5, o6, o7⟩ hroom2) ⟨blind_of, hrecv, fun U hU hW => ⟨rfl, hPc U hU hW⟩⟩ rfl (by simp) hL.1 rfl (lv_room (by rw [wt_cat]; exact hwt)) h0 ⟨hroom.2.2.1, hroom.2.2.2⟩) hS hDA ?_
  exact fun r M1 H1 locs1 hq hP1 hS1 => by
    have g := k2 r M1 hq p e R s m args below meth c H1 locs1 cells slots Z A la X hP1 hS1 hL hret
    rw [List.map_append] at g
    cases r <;> exact g
theorem S_callS (l : Launch) (Dd : va_G) (ad : Nat → Nat) (cs : ClassId × ClassId × ClassId) : R_callS (PS l Dd ad cs) := by
  intro mr pc ls st M Q cm ix As Q1 h0 hc hrm hent hwt k1 k2 p e R s m args below meth c H locs cells slots Z A la X hP hS hL hret
  obtain ⟨hx, hb, hml, hown, hts, hWo, hDA, hroom, hscr⟩ := id X
  obtain ⟨o1, o2, o3, o4, o5, o6, o7, o8⟩ := id hc.1
  have hM := met_of hc.1 hent k1
  have hroom2 : mrF cm + 1 ≤ R.frames ∧ 8 + (mrN cm + 11) + mrL cm ≤ R.locals := ⟨Nat.le_trans hrm.1 hroom.1, Nat.le_trans hrm.2 hroom.2.1⟩
  have hgood : GoodIn lw_good (Cond.code (mrY cm) (mrB cm) (mrN cm) (mrT cm) :: lw_good) := good_all (fun w hw => (List.mem_cons.mp hw).elim (fun q => q ▸ o3) id)
  have hPc : ∀ U : State, U.heap = H → s.WarmedH U.vm → va_P Dd classes (wsOf ad cs M) U.heap ∧ Wo Dd cs U ∧ DA ad (fun _ => True) := fun U hU hW => ⟨by rw [hU]; exact hP, hWo.warm hW, ⟨hDA.1, fun _ _ => trivial⟩⟩
  rw [List.map_append, List.map_reverse]
  have hg : GoodIn lw_good (va_wsS (cn (mrC mr)) ix (mrY cm) (Cond.code (mrY cm) (mrB cm) (mrN cm) (mrT cm) :: lw_good)) := good_all (fun w hw => by
    unfold va_wsS at hw
    rcases List.mem_append.mp hw with hw | hw
    · simp only [List.mem_cons, List.not_mem_nil, or_false] at hw
      rcases hw with rfl | rfl | rfl
      · exact hc.2.1
      · exact hc.2.2
      · exact o4
    · exact (hgood w hw).1)
  refine call_k3 (va_runS (As := As.map (cv ad)) (rest := st.map (cv ad)) (Ts := lw_good) (own := cn (mrC mr)) ⟨hx, hb, hml, hown, hts⟩ hM (va_cwS As.length hts hg rfl rfl rfl ⟨o5, o6, o7⟩ hroom2) ⟨blind_of, fun U hU hW => ⟨rfl, hPc U hU hW⟩⟩ rfl (by simp) hL.1 rfl (lv_room (by rw [wt_cat]; exact hwt)) h0 ⟨hroom.2.2.1, hroom.2.2.2⟩) hS hDA ?_
  exact fun r M1 H1 locs1 hq hP1 hS1 => by
    have g := k2 r M1 hq p e R s m args below meth c H1 locs1 cells slots Z A la X hP1 hS1 hL hret
    rw [List.map_append] at g
    cases r <;> exact g
theorem S_callN (l : Launch) (Dd : va_G) (ad : Nat → Nat) (cs : ClassId × ClassId × ClassId) : R_callN (PS l Dd ad cs) := by
  intro mr pc ls st M Q cm ix As Q1 h0 hc hrm hent hwt k1 k2 p e R s m args below meth c H locs cells slots Z A la X hP hS hL hret
  obtain ⟨hx, hb, hml, hown, hts, hWo, hDA, hroom, hscr⟩ := id X
  obtain ⟨o1, o2, o3, o4, o5, o6, o7, o8⟩ := id hc.1
  have hM := met_of hc.1 hent k1
  have hroom2 : mrF cm + 1 ≤ R.frames ∧ 8 + (mrN cm + 11) + mrL cm ≤ R.locals := ⟨Nat.le_trans hrm.1 hroom.1, Nat.le_trans hrm.2 hroom.2.1⟩
  have hgood : GoodIn lw_good (Cond.code (mrY cm) (mrB cm) (mrN cm) (mrT cm) :: lw_good) := good_all (fun w hw => (List.mem_cons.mp hw).elim (fun q => q ▸ o3) id)
  have hPc : ∀ U : State, U.heap = H → s.WarmedH U.vm → va_P Dd classes (wsOf ad cs M) U.heap ∧ Wo Dd cs U ∧ DA ad (fun _ => True) := fun U hU hW => ⟨by rw [hU]; exact hP, hWo.warm hW, ⟨hDA.1, fun _ _ => trivial⟩⟩
  rw [List.map_append, List.map_reverse]
  refine call_k3 (va_runSN (As := As.map (cv ad)) (rest := st.map (cv ad)) (Ts := lw_good) (own := cn (mrC mr)) (host := nHost) ⟨hx, hb, hml, hown, hts⟩ hM ⟨va_cnB As.length hts hgood rfl rfl rfl (hWo.2.1 _ hc.2.1) (hts _ o4) ⟨o5, o6, o7⟩ hroom2, hts _ hc.2.2, trivial⟩ ⟨blind_of, fun U hU hW => ⟨rfl, hPc U hU hW⟩⟩ rfl (by simp) hL.1 rfl (lv_room (by rw [wt_cat]; exact hwt)) h0 ⟨hroom.2.2.1, hroom.2.2.2⟩) hS hDA ?_
  exact fun r M1 H1 locs1 hq hP1 hS1 => by
    have g := k2 r M1 hq p e R s m args below meth c H1 locs1 cells slots Z A la X hP1 hS1 hL hret
    rw [List.map_append] at g
    cases r <;> exact g
theorem S_callF (l : Launch) (Dd : va_G) (ad : Nat → Nat) (cs : ClassId × ClassId × ClassId) : R_callF (PS l Dd ad cs) := by
  intro mr pc ls st M Q h ct fs cm ix As Q1 h0 hc hk hh hrm hent hwt k1 k2 p e R s m args below meth c H locs cells slots Z A la X hP hS hL hret
  obtain ⟨hx, hb, hml, hown, hts, hWo, hDA, hroom, hscr⟩ := id X
  obtain ⟨o1, o2, o3, o4, o5, o6, o7, o8⟩ := id hc.1
  have hM := met_of hc.1 hent k1
  have hroom2 : mrF cm + 1 ≤ R.frames ∧ 8 + (mrN cm + 11) + mrL cm ≤ R.locals := ⟨Nat.le_trans hrm.1 hroom.1, Nat.le_trans hrm.2 hroom.2.1⟩
  have hgood : GoodIn lw_good (Cond.code (mrY cm) (mrB cm) (mrN cm) (mrT cm) :: lw_good) := good_all (fun w hw => (List.mem_cons.mp hw).elim (fun q => q ▸ o3) id)
  have hPc : ∀ U : State, U.heap = H → s.WarmedH U.vm → va_P Dd classes (wsOf ad cs M) U.heap ∧ Wo Dd cs U ∧ DA ad (fun _ => True) := fun U hU hW => ⟨by rw [hU]; exact hP, hWo.warm hW, ⟨hDA.1, fun _ _ => trivial⟩⟩
  obtain ⟨Tc, Nc, hcl⟩ := cls_cn (mrC cm) hc.2.1
  have hrecv := va_recv hWo.1 hP hcl (q0 := h) (a := ad h) (fs := fv ad M h fs) (by rw [wsOf_get hh, ce_3 hk])
  dsimp only at hrecv
  rw [o2] at hrecv
  rw [List.map_append, List.map_reverse, List.map_cons]
  obtain ⟨c1, c2, c3, c4, c5, c6, c7⟩ := hc
  have hg : GoodIn lw_good (va_wsF (cn (mrC mr)) ix (mrY cm).cls (iX9 ix) (mrY cm) (Cond.code (mrY cm) (mrB cm) (mrN cm) (mrT cm) :: lw_good)) := good_all (fun w hw => by
    unfold va_wsF at hw
    rcases List.mem_append.mp hw with hw | hw
    · simp only [List.mem_cons, List.not_mem_nil, or_false] at hw
      rcases hw with rfl | rfl | rfl | rfl
      · exact c4
      · exact c5
      · exact c6
      · exact o4
    · exact (hgood w hw).1)
  have hKn := hWo.1.1 (mrC cm) _ hcl
  have hat : ClassAt s (mrY cm).cls (Dd.1 (mrC cm)) := by rw [← o2]; exact hKn.2
  have hfo := FWs_ok _ c3
  refine call_k5 (va_runF (As := As.map (cv ad)) (rest := st.map (cv ad)) (Ts := lw_good) (own := cn (mrC mr)) (C := (mrY cm).cls) (x := iX9 ix) (b := ad h) hat ⟨hx, hb, hml, hown, hts⟩ hM (va_cwF As.length hts hg rfl rfl rfl (hWo.2.2 _ c3) ⟨hfo.1, hfo.2, c7⟩ hroom2) ⟨blind_of, hrecv, fun U hU hW => ⟨rfl, hPc U hU hW⟩⟩ rfl (by simp) hL.1 rfl (lv_room (by rw [wt_cat]; exact hwt)) h0 ⟨hroom.2.2.1, hroom.2.2.2⟩) hS hDA ?_
  exact fun r M1 H1 locs1 hq hP1 hS1 => by
    have g := k2 r M1 hq p e R s m args below meth c H1 locs1 cells slots Z A la X hP1 hS1 hL hret
    rw [List.map_append] at g
    cases r <;> exact g
theorem sim_all (l : Launch) (Dd : va_G) (ad : Nat → Nat) (cs : ClassId × ClassId × ClassId) : Rules (PS l Dd ad cs) := ⟨S_iconst l Dd ad cs, S_bipush l Dd ad cs, S_sipush l Dd ad cs, S_ldc l Dd ad cs, S_ldc2 l Dd ad cs, S_lconst l Dd ad cs, S_iload_n l Dd ad cs, S_iload l Dd ad cs, S_lload_n l Dd ad cs, S_lload l Dd ad cs, S_aload_n l Dd ad cs, S_aload l Dd ad cs, S_istore_n l Dd ad cs, S_istore l Dd ad cs, S_lstore_n l Dd ad cs, S_lstore l Dd ad cs, S_astore_n l Dd ad cs, S_astore l Dd ad cs, S_iinc l Dd ad cs, S_iadd l Dd ad cs, S_isub l Dd ad cs, S_imul l Dd ad cs, S_idiv l Dd ad cs, S_irem l Dd ad cs, S_iand l Dd ad cs, S_i2l l Dd ad cs, S_l2i l Dd ad cs, S_ladd l Dd ad cs, S_lmul l Dd ad cs, S_land l Dd ad cs, S_lor l Dd ad cs, S_lshl l Dd ad cs, S_lcmp l Dd ad cs, S_dup l Dd ad cs, S_dup2 l Dd ad cs, S_getR l Dd ad cs, S_getI l Dd ad cs, S_put l Dd ad cs, S_iald l Dd ad cs, S_zald l Dd ad cs, S_lald l Dd ad cs, S_iast l Dd ad cs, S_zast l Dd ad cs, S_last l Dd ad cs, S_alen l Dd ad cs, S_sald l Dd ad cs, S_slen l Dd ad cs, S_if_eq l Dd ad cs, S_icmp_eq l Dd ad cs, S_if_ne l Dd ad cs, S_icmp_ne l Dd ad cs, S_if_lt l Dd ad cs, S_icmp_lt l Dd ad cs, S_if_ge l Dd ad cs, S_icmp_ge l Dd ad cs, S_if_gt l Dd ad cs, S_icmp_gt l Dd ad cs, S_if_le l Dd ad cs, S_icmp_le l Dd ad cs, S_goto l Dd ad cs, S_tblO l Dd ad cs, S_tblI l Dd ad cs, S_vret l Dd ad cs, S_iret l Dd ad cs, S_zret l Dd ad cs, S_callV l Dd ad cs, S_callS l Dd ad cs, S_callN l Dd ad cs, S_callF l Dd ad cs, S_copy l Dd ad cs, S_mmax l Dd ad cs, S_mmin l Dd ad cs, S_weak l Dd ad cs⟩
