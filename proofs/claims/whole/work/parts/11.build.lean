/-! MAKING THE OBJECTS: constructors over a world that grows; rows of cells by their handles -/
abbrev BRow : Type := Nat × Nat × List (Option (Option Nat)) × Int
def bfv (ad : Nat → Nat) (fs : List (Option (Option Nat))) : List Value := fs.map (fun o => match o with | none => .int (Int32.ofInt 0) | some none => .null | some (some h) => .ref (ad h))
def be (ad : Nat → Nat) (cs : ClassId × ClassId × ClassId) (r : BRow) : va_E :=
  if r.1 = 0 then .inl (cs.1, r.2.1, .inl (fun _ => Int32.ofInt r.2.2.2))
  else if r.1 = 1 then .inl (cs.2.1, r.2.1, .inl (fun _ => Int32.ofInt r.2.2.2))
  else if r.1 = 2 then .inl (cs.2.2, r.2.1, .inr (.inl (fun _ => Int64.ofInt r.2.2.2)))
  else .inr (r.2.1, bfv ad r.2.2.1)
def bw (ad : Nat → Nat) (cs : ClassId × ClassId × ClassId) (ks : List BRow) : va_W := ks.mapIdx (fun h r => (ad h, be ad cs r))
def bsz (ks : List BRow) : Nat := (ks.map (fun r => if r.1 < 3 then r.2.1 else r.2.2.1.length)).sum
def bro (n : Nat) (r : BRow) : Bool := r.2.2.1.all (fun o => match o with | some (some h) => decide (h ≠ n) | _ => true)
def bok (n : Nat) (ks : List BRow) : Bool := ks.all (bro n)
def vok (n : Nat) (v : AV) : Bool := match v with
  | .inr (.inr h) => decide (h ≠ n)
  | _ => true
def lok (n : Nat) (ls : Ls) : Bool := ls.all (fun o => match o with | some v => vok n v | none => true)
def sok (n : Nat) (st : List AV) : Bool := st.all (vok n)
theorem bw_get {ad : Nat → Nat} {cs : ClassId × ClassId × ClassId} {ks : List BRow} {h : Nat} {r : BRow} (e : ks[h]? = some r) : (bw ad cs ks)[h]? = some (ad h, be ad cs r) := by
  simp [bw, List.getElem?_mapIdx, e]
theorem bw_len {ad : Nat → Nat} {cs : ClassId × ClassId × ClassId} {ks : List BRow} : (bw ad cs ks).length = ks.length := by simp [bw]
theorem bw_set {ad : Nat → Nat} {cs : ClassId × ClassId × ClassId} {ks : List BRow} {h : Nat} {r r2 : BRow} (e : ks[h]? = some r) : (bw ad cs ks).set h (ad h, be ad cs r2) = bw ad cs (ks.set h r2) := by
  have hl := (List.getElem?_eq_some_iff.mp e).1
  apply List.ext_getElem?
  intro k
  by_cases hk : k = h
  · subst hk
    rw [List.getElem?_set_self (by rw [bw_len]; exact hl), bw_get (r := r2) (by rw [List.getElem?_set_self hl])]
  · rw [List.getElem?_set_ne (Ne.symm hk)]
    simp only [bw, List.getElem?_mapIdx, List.getElem?_set_ne (Ne.symm hk)]
theorem be_ext {ad ad2 : Nat → Nat} {cs : ClassId × ClassId × ClassId} {n : Nat} (hx : ∀ h, h ≠ n → ad2 h = ad h) {r : BRow} (hr : bro n r = true) : be ad2 cs r = be ad cs r := by
  unfold be
  have e : bfv ad2 r.2.2.1 = bfv ad r.2.2.1 := by
    unfold bfv
    apply List.map_congr_left
    intro o ho
    have := List.all_eq_true.mp hr o ho
    rcases o with _ | _ | h
    · rfl
    · rfl
    · simp only [decide_eq_true_eq] at this
      simp only
      rw [hx h this]
  rw [e]
def ext (ad : Nat → Nat) (n q : Nat) : Nat → Nat := fun h => if h = n then q else ad h
theorem ext_ne {ad : Nat → Nat} {n q h : Nat} (hn : h ≠ n) : ext ad n q h = ad h := by simp [ext, hn]
theorem ext_eq {ad : Nat → Nat} {n q : Nat} : ext ad n q n = q := by simp [ext]
theorem bw_push {ad : Nat → Nat} {cs : ClassId × ClassId × ClassId} {ks : List BRow} {r : BRow} {q : Nat} (hk : bok ks.length ks = true) (hr : bro ks.length r = true) : bw (ext ad ks.length q) cs (ks ++ [r]) = bw ad cs ks ++ [(q, be ad cs r)] := by
  apply List.ext_getElem?
  intro k
  by_cases h1 : k < ks.length
  · have e : ks[k]? = some ks[k] := List.getElem?_eq_getElem h1
    rw [List.getElem?_append_left (by rw [bw_len]; exact h1), bw_get e, bw_get (r := ks[k]) (by rw [List.getElem?_append_left h1]; exact e), ext_ne (by omega), be_ext (fun h hh => ext_ne hh) (List.all_eq_true.mp hk _ (List.getElem_mem h1))]
  · by_cases h2 : k = ks.length
    · subst h2
      rw [bw_get (r := r) (by simp), ext_eq, List.getElem?_append_right (by rw [bw_len]; exact Nat.le_refl _), bw_len, be_ext (fun h hh => ext_ne hh) hr]
      simp
    · rw [List.getElem?_eq_none (by rw [bw_len]; simp; omega), List.getElem?_eq_none (by rw [List.length_append, bw_len]; simp; omega)]
theorem cv_ext {ad : Nat → Nat} {n q : Nat} {v : AV} (h : vok n v = true) : cv (ext ad n q) v = cv ad v := by
  rcases v with x | x | k
  · rfl
  · rfl
  · simp only [vok, decide_eq_true_eq] at h
    simp [cv, ext_ne h]
theorem LR.ext {ad : Nat → Nat} {n q N : Nat} {la : Array Slot} {ls : Ls} (h : LR ad la N ls) (hl : lok n ls = true) : LR (ext ad n q) la N ls := by
  refine ⟨h.1, h.2.1, fun i v hv => ?_⟩
  have := List.all_eq_true.mp hl _ (List.mem_of_getElem? hv)
  rw [cv_ext this]
  exact h.2.2 i v hv
theorem map_ext {ad : Nat → Nat} {n q : Nat} {st : List AV} (h : sok n st = true) : st.map (cv (ext ad n q)) = st.map (cv ad) :=
  List.map_congr_left (fun v hv => cv_ext (List.all_eq_true.mp h v hv))
def NIs : List (String × Nat × MethodName) := [(RX11, 11, yX4_init), (RX11, 68, yX3_init)]
def WB (Dd : va_G) (cs : ClassId × ClassId × ClassId) (U : State) : Prop := va_K Dd classes (tysOf cs) U ∧ ∀ w ∈ NIs, va_Nw (.methodLinkNest w.1 w.2.1 w.2.2 nHost) U
theorem WB.warm {Dd : va_G} {cs : ClassId × ClassId × ClassId} {s U : State} (hW : s.WarmedH U.vm) (h : WB Dd cs s) : WB Dd cs U := ⟨va_K.moved hW.alike h.1, fun w hw => va_Nw.warmM hW (h.2 w hw)⟩
theorem WB.same {Dd : va_G} {cs : ClassId × ClassId × ClassId} {s U : State} (e : s.vm = U.vm) (h : WB Dd cs s) : WB Dd cs U := ⟨va_K.moved (e ▸ Vm.Alike.refl s.vm) h.1, fun w hw => va_Nw.same rfl e (h.2 w hw)⟩
def CB (Dd : va_G) (cs : ClassId × ClassId × ClassId) (mr : MR) (p : Program) (R : Room) (s : State) (m : MethodId) (args : Array Value) (meth : Method) (c : Code) : Prop :=
  p.tables.exec = Jvm.exec ∧ c.code = mrB mr ∧ c.maxLocals = mrN mr ∧ s.vm.findClass (cn (mrC mr)) = some m.cls ∧ (∀ w ∈ lw_good, w.before args s = true) ∧ WB Dd cs s ∧ (mrF mr ≤ R.frames ∧ mrL mr ≤ R.locals) ∧ ((mrY mr).name = "<init>" → meth.name = "<init>")
abbrev BQ : Type := Nat → Ls → List AV → List BRow → Prop
def StopB (l : Launch) (Dd : va_G) (cs : ClassId × ClassId × ClassId) (mr : MR) (Q : BQ) (p : Program) (e : Env) (R : Room) (s : State) (m : MethodId) (args : Array Value) (below : List Frame) (meth : Method) (c : Code) (Z : State → Prop) (A : Nat → Prop) (k0 s0 n0 : Nat) (ad0 : Nat → Nat) : Prop :=
  ∀ (pc : Nat) (ls : Ls) (st : List AV) (ks : List BRow) (H : Heap) (locs : List Loc) (cells slots : Nat) (la : Array Slot) (ad : Nat → Nat), Q pc ls st ks → va_P Dd classes (bw ad cs ks) H → va_D A (bw ad cs ks) → va_S A s.heap H locs → LR ad la (mrN mr) ls → (cells + k0 = ks.length ∧ slots + s0 = bsz ks) → (∀ h, (h < n0 ∨ nH ≤ h) → ad h = ad0 h) → W p l e R s m args below meth c H locs cells slots Z (F0 m pc la (st.map (cv ad)))
def PB (l : Launch) (Dd : va_G) (cs : ClassId × ClassId × ClassId) (ke se : Nat) (mr : MR) (pc : Nat) (ls : Ls) (st : List AV) (ks : List BRow) (Q : BQ) : Prop :=
  ∀ (p : Program) (e : Env) (R : Room) (s : State) (m : MethodId) (args : Array Value) (below : List Frame) (meth : Method) (c : Code) (H : Heap) (locs : List Loc) (cells slots : Nat) (Z : State → Prop) (A : Nat → Prop) (la : Array Slot) (ad : Nat → Nat) (k0 s0 n0 : Nat) (ad0 : Nat → Nat),
    CB Dd cs mr p R s m args meth c → va_P Dd classes (bw ad cs ks) H → va_D A (bw ad cs ks) → va_S A s.heap H locs → (∀ q, s.heap.size ≤ q → A q) → LR ad la (mrN mr) ls → (cells + k0 = ks.length ∧ slots + s0 = bsz ks ∧ ke = k0 + R.cells ∧ se = s0 + R.slots ∧ n0 ≤ ks.length) → (∀ h, (h < n0 ∨ nH ≤ h) → ad h = ad0 h) → StopB l Dd cs mr Q p e R s m args below meth c Z A k0 s0 n0 ad0 →
    W p l e R s m args below meth c H locs cells slots Z (F0 m pc la (st.map (cv ad)))
section
variable {l : Launch} {Dd : va_G} {cs : ClassId × ClassId × ClassId} {ke se : Nat} {mr : MR} {pc : Nat} {ls : Ls} {st : List AV} {ks : List BRow} {Q : BQ}
theorem PB.stop (h : Q pc ls st ks) : PB l Dd cs ke se mr pc ls st ks Q := by
  intro p e R s m args below meth c H locs cells slots Z A la ad k0 s0 n0 ad0 X hP hD hS hA hL hn he hs
  exact hs pc ls st ks H locs cells slots la ad h hP hD hS hL ⟨hn.1, hn.2.1⟩ he
theorem PB.rows {ks2 : List BRow} (h : ks = ks2) (k : PB l Dd cs ke se mr pc ls st ks2 Q) : PB l Dd cs ke se mr pc ls st ks Q := h ▸ k
theorem PB.aload_n {k : Fin 4} {x : Nat} (h0 : decode (mrB mr) pc = .ok (.aload_n k, 1)) (h1 : ls[(k : Nat)]? = some (some (vR x))) (kk : PB l Dd cs ke se mr (pc + 1) ls (vR x :: st) ks Q) : PB l Dd cs ke se mr pc ls st ks Q := by
  intro p e R s m args below meth c H locs cells slots Z A la ad k0 s0 n0 ad0 X hP hD hS hA hL hn he hs
  exact lv_aload_n X.1 X.2.1 h0 rfl (hL.2.2 _ _ h1) (kk p e R s m args below meth c H locs cells slots Z A la ad k0 s0 n0 ad0 X hP hD hS hA hL hn he hs)
theorem PB.iconst {n : Int} (h0 : decode (mrB mr) pc = .ok (.iconst n, 1)) (kk : PB l Dd cs ke se mr (pc + 1) ls (vI n :: st) ks Q) : PB l Dd cs ke se mr pc ls st ks Q := by
  intro p e R s m args below meth c H locs cells slots Z A la ad k0 s0 n0 ad0 X hP hD hS hA hL hn he hs
  exact lv_iconst X.1 X.2.1 h0 rfl (kk p e R s m args below meth c H locs cells slots Z A la ad k0 s0 n0 ad0 X hP hD hS hA hL hn he hs)
theorem PB.bipush {n : Int} (h0 : decode (mrB mr) pc = .ok (.bipush n, 2)) (h1 : (Int8.ofInt n).toInt32 = Int32.ofInt n) (kk : PB l Dd cs ke se mr (pc + 2) ls (vI n :: st) ks Q) : PB l Dd cs ke se mr pc ls st ks Q := by
  intro p e R s m args below meth c H locs cells slots Z A la ad k0 s0 n0 ad0 X hP hD hS hA hL hn he hs
  exact lv_bipush X.1 X.2.1 h0 h1 (kk p e R s m args below meth c H locs cells slots Z A la ad k0 s0 n0 ad0 X hP hD hS hA hL hn he hs)
theorem PB.sipush {n : Int} (h0 : decode (mrB mr) pc = .ok (.sipush n, 3)) (h1 : (Int16.ofInt n).toInt32 = Int32.ofInt n) (kk : PB l Dd cs ke se mr (pc + 3) ls (vI n :: st) ks Q) : PB l Dd cs ke se mr pc ls st ks Q := by
  intro p e R s m args below meth c H locs cells slots Z A la ad k0 s0 n0 ad0 X hP hD hS hA hL hn he hs
  exact lv_sipush X.1 X.2.1 h0 h1 (kk p e R s m args below meth c H locs cells slots Z A la ad k0 s0 n0 ad0 X hP hD hS hA hL hn he hs)
theorem PB.dup {x : Nat} (h0 : decode (mrB mr) pc = .ok (.dup, 1)) (kk : PB l Dd cs ke se mr (pc + 1) ls (vR x :: vR x :: st) ks Q) : PB l Dd cs ke se mr pc ls (vR x :: st) ks Q := by
  intro p e R s m args below meth c H locs cells slots Z A la ad k0 s0 n0 ad0 X hP hD hS hA hL hn he hs
  exact lv_dup X.1 X.2.1 h0 rfl (kk p e R s m args below meth c H locs cells slots Z A la ad k0 s0 n0 ad0 X hP hD hS hA hL hn he hs)
theorem PB.astore_n {k : Fin 4} {x : Nat} {ls2 : Ls} (h0 : decode (mrB mr) pc = .ok (.astore_n k, 1)) (h1 : (k : Nat) < mrN mr) (h2 : setL ls k (some (vR x)) = ls2) (kk : PB l Dd cs ke se mr (pc + 1) ls2 st ks Q) : PB l Dd cs ke se mr pc ls (vR x :: st) ks Q := by
  intro p e R s m args below meth c H locs cells slots Z A la ad k0 s0 n0 ad0 X hP hD hS hA hL hn he hs
  exact lv_astore_n X.1 X.2.1 h0 rfl hL.has h1 rfl (fun la2 hl2 => kk p e R s m args below meth c H locs cells slots Z A la2 ad k0 s0 n0 ad0 X hP hD hS hA (h2 ▸ LR.store (v := vR x) hl2) hn he hs)
theorem PB.objInit {ix x : Nat} (h0 : decode (mrB mr) pc = .ok (.invokespecial ix, 3)) (h1 : Cond.methodLink (cn (mrC mr)) ix Lib.objectInit ∈ lw_good) (h2 : Cond.instanceMethod Lib.objectInit ∈ lw_good) (h3 : Cond.code Lib.objectInit ⟨#[0xb1]⟩ 1 none ∈ lw_good) (h4 : 1 ≤ mrF mr) (h5 : wt st + 12 ≤ mrL mr) (kk : PB l Dd cs ke se mr (pc + 3) ls st ks Q) : PB l Dd cs ke se mr pc ls (vR x :: st) ks Q := by
  intro p e R s m args below meth c H locs cells slots Z A la ad k0 s0 n0 ad0 X hP hD hS hA hL hn he hs
  obtain ⟨hx, hb, hml, hown, hts, hWo, hroom, hin⟩ := id X
  exact W.objInit hx hb hown (hts _ h1) (hts _ h2) (hts _ h3) rfl (by rw [hml]; exact hL.1) rfl h0 (by omega) (by rw [wt_cat]; show 2 * 0 + _ + 12 ≤ _; omega) (kk p e R s m args below meth c H locs cells slots Z A la ad k0 s0 n0 ad0 X hP hD hS hA hL hn he hs)
theorem PB.new {ix ci N : Nat} {T : u_T} {fs : List (Option (Option Nat))} (ty : Nat → FieldType) (h0 : decode (mrB mr) pc = .ok (.new ix, 3)) (h1 : Cond.classLink (cn (mrC mr)) ix (cn ci) ∈ lw_good) (h2 : Cond.instantiable (cn ci) N ∈ lw_good) (h3 : Cond.initialized (cn ci) ∈ lw_good) (h4 : classes[ci]? = some (cn ci, T, N)) (h5 : ∀ w ∈ u_ws (cn ci) T N, w ∈ lw_good) (h6 : ∀ k, k < N → parseFieldDescriptor (T k).2.2.1 = some (ty k)) (h7 : ∀ j, j < N → defaultValue (ty j) = vp_V (bfv id fs) j) (h8 : fs.length = N) (hf : fs.all (fun o => match o with | some (some _) => false | _ => true) = true)
    (r0 : ke ≤ nH) (r1 : ks.length + 1 ≤ ke) (r2 : bsz ks + N ≤ se) (o1 : bok ks.length ks = true) (o2 : lok ks.length ls = true) (o3 : sok ks.length st = true) (kk : PB l Dd cs ke se mr (pc + 3) ls (vR ks.length :: st) (ks ++ [(3, ci, fs, 0)]) Q) : PB l Dd cs ke se mr pc ls st ks Q := by
  intro p e R s m args below meth c H locs cells slots Z A la ad k0 s0 n0 ad0 X hP hD hS hA hL hn he hs
  obtain ⟨hx, hb, hml, hown, hts, hWo, hroom, hin⟩ := id X
  obtain ⟨c1, c2, c3, c4, c5⟩ := hn
  have efs : ∀ ad : Nat → Nat, bfv ad fs = bfv id fs := by
    intro ad
    unfold bfv
    apply List.map_congr_left
    intro o ho
    have := List.all_eq_true.mp hf o ho
    rcases o with _ | _ | h
    · rfl
    · rfl
    · cases this
  have hro : bro ks.length (3, ci, fs, 0) = true := by
    unfold bro
    refine List.all_eq_true.mpr (fun o ho => ?_)
    have := List.all_eq_true.mp hf o ho
    rcases o with _ | _ | h
    · rfl
    · rfl
    · cases this
  have hbe : be ad cs (3, ci, fs, 0) = .inr (ci, bfv id fs) := by simp [be, efs ad]
  refine va_new (ci := ci) (fs := bfv id fs) hx hb hts h5 ty h6 hown (hts _ h1) (hts _ h2) (hts _ h3) hWo.1 hP hD hS hA h4 h7 (by omega) (by omega) h0 (fun q H1 hP1 hD1 hS1 => ?_)
  rw [← hbe, ← bw_push (r := (3, ci, fs, 0)) o1 hro] at hP1 hD1
  have g := kk p e R s m args below meth c H1 locs (cells + 1) (slots + N) Z A la (ext ad ks.length q) k0 s0 n0 ad0 X hP1 hD1 hS1 hA (hL.ext o2) ⟨by simp; omega, by simp [bsz] at c2 ⊢; omega, c3, c4, by simp; omega⟩ (fun h hh => by rw [ext_ne (by omega), he h hh]) hs
  rw [List.map_cons, map_ext o3] at g
  simp only [cv, ext_eq] at g
  exact g
theorem PB.newaI {n : Nat} (h0 : decode (mrB mr) pc = .ok (.newarray .int, 2)) (h1 : Cond.arrayClass .int ∈ lw_good) (h2 : n * 8 ≤ 536870912)
    (r0 : ke ≤ nH) (r1 : ks.length + 1 ≤ ke) (r2 : bsz ks + n ≤ se) (o1 : bok ks.length ks = true) (o2 : lok ks.length ls = true) (o3 : sok ks.length st = true) (kk : PB l Dd cs ke se mr (pc + 2) ls (vR ks.length :: st) (ks ++ [(0, n, [], 0)]) Q) : PB l Dd cs ke se mr pc ls (vI n :: st) ks Q := by
  intro p e R s m args below meth c H locs cells slots Z A la ad k0 s0 n0 ad0 X hP hD hS hA hL hn he hs
  obtain ⟨hx, hb, hml, hown, hts, hWo, hroom, hin⟩ := id X
  obtain ⟨c1, c2, c3, c4, c5⟩ := hn
  have hcl : (Int32.ofInt (n : Int)).toNatClampNeg = n := by rw [oi_clamp (by omega) (by omega)]; omega
  have hnn : ¬ Int32.ofInt (n : Int) < 0 := by rw [oi_0, oi_lt (by omega) in0]; omega
  refine va_newa (atype := .int) (ty := .int) hx hb (hts _ h1) rfl hWo.1 hP hD hS hA (a0 := (n, .inl (fun _ => Int32.ofInt 0))) (fun cA => rfl) hnn hcl (Nat.le_trans (Nat.mul_le_mul_left n (by decide)) h2) (by omega) (by omega) h0 (fun q cA H1 hK1 hP1 hD1 hS1 => ?_)
  have e1 : s.vm.findClass ("[" ++ FieldType.int.toString) = some cA := (hK1.2 3 (cA, .int) rfl).2
  have e2 : s.vm.findClass ("[" ++ FieldType.int.toString) = some cs.1 := (hWo.1.2 0 (cs.1, .int) rfl).2
  have e3 : cA = cs.1 := Option.some.inj (e1.symm.trans e2)
  subst e3
  have hbe : be ad cs (0, n, [], 0) = .inl (cs.1, n, .inl (fun _ => Int32.ofInt 0)) := by simp [be]
  rw [← hbe, ← bw_push (r := (0, n, [], 0)) o1 rfl] at hP1 hD1
  have g := kk p e R s m args below meth c H1 locs (cells + 1) (slots + n) Z A la (ext ad ks.length q) k0 s0 n0 ad0 X hP1 hD1 hS1 hA (hL.ext o2) ⟨by simp; omega, by simp [bsz] at c2 ⊢; omega, c3, c4, by simp; omega⟩ (fun h hh => by rw [ext_ne (by omega), he h hh]) hs
  rw [List.map_cons, map_ext o3] at g
  simp only [cv, ext_eq] at g
  exact g
theorem PB.newaZ {n : Nat} (h0 : decode (mrB mr) pc = .ok (.newarray .boolean, 2)) (h1 : Cond.arrayClass .boolean ∈ lw_good) (h2 : n * 8 ≤ 536870912)
    (r0 : ke ≤ nH) (r1 : ks.length + 1 ≤ ke) (r2 : bsz ks + n ≤ se) (o1 : bok ks.length ks = true) (o2 : lok ks.length ls = true) (o3 : sok ks.length st = true) (kk : PB l Dd cs ke se mr (pc + 2) ls (vR ks.length :: st) (ks ++ [(1, n, [], 0)]) Q) : PB l Dd cs ke se mr pc ls (vI n :: st) ks Q := by
  intro p e R s m args below meth c H locs cells slots Z A la ad k0 s0 n0 ad0 X hP hD hS hA hL hn he hs
  obtain ⟨hx, hb, hml, hown, hts, hWo, hroom, hin⟩ := id X
  obtain ⟨c1, c2, c3, c4, c5⟩ := hn
  have hcl : (Int32.ofInt (n : Int)).toNatClampNeg = n := by rw [oi_clamp (by omega) (by omega)]; omega
  have hnn : ¬ Int32.ofInt (n : Int) < 0 := by rw [oi_0, oi_lt (by omega) in0]; omega
  refine va_newa (atype := .boolean) (ty := .boolean) hx hb (hts _ h1) rfl hWo.1 hP hD hS hA (a0 := (n, .inl (fun _ => Int32.ofInt 0))) (fun cA => rfl) hnn hcl (Nat.le_trans (Nat.mul_le_mul_left n (by decide)) h2) (by omega) (by omega) h0 (fun q cA H1 hK1 hP1 hD1 hS1 => ?_)
  have e1 : s.vm.findClass ("[" ++ FieldType.boolean.toString) = some cA := (hK1.2 3 (cA, .boolean) rfl).2
  have e2 : s.vm.findClass ("[" ++ FieldType.boolean.toString) = some cs.2.1 := (hWo.1.2 1 (cs.2.1, .boolean) rfl).2
  have e3 : cA = cs.2.1 := Option.some.inj (e1.symm.trans e2)
  subst e3
  have hbe : be ad cs (1, n, [], 0) = .inl (cs.2.1, n, .inl (fun _ => Int32.ofInt 0)) := by simp [be]
  rw [← hbe, ← bw_push (r := (1, n, [], 0)) o1 rfl] at hP1 hD1
  have g := kk p e R s m args below meth c H1 locs (cells + 1) (slots + n) Z A la (ext ad ks.length q) k0 s0 n0 ad0 X hP1 hD1 hS1 hA (hL.ext o2) ⟨by simp; omega, by simp [bsz] at c2 ⊢; omega, c3, c4, by simp; omega⟩ (fun h hh => by rw [ext_ne (by omega), he h hh]) hs
  rw [List.map_cons, map_ext o3] at g
  simp only [cv, ext_eq] at g
  exact g
theorem PB.newaL {n : Nat} (h0 : decode (mrB mr) pc = .ok (.newarray .long, 2)) (h1 : Cond.arrayClass .long ∈ lw_good) (h2 : n * 8 ≤ 536870912)
    (r0 : ke ≤ nH) (r1 : ks.length + 1 ≤ ke) (r2 : bsz ks + n ≤ se) (o1 : bok ks.length ks = true) (o2 : lok ks.length ls = true) (o3 : sok ks.length st = true) (kk : PB l Dd cs ke se mr (pc + 2) ls (vR ks.length :: st) (ks ++ [(2, n, [], 0)]) Q) : PB l Dd cs ke se mr pc ls (vI n :: st) ks Q := by
  intro p e R s m args below meth c H locs cells slots Z A la ad k0 s0 n0 ad0 X hP hD hS hA hL hn he hs
  obtain ⟨hx, hb, hml, hown, hts, hWo, hroom, hin⟩ := id X
  obtain ⟨c1, c2, c3, c4, c5⟩ := hn
  have hcl : (Int32.ofInt (n : Int)).toNatClampNeg = n := by rw [oi_clamp (by omega) (by omega)]; omega
  have hnn : ¬ Int32.ofInt (n : Int) < 0 := by rw [oi_0, oi_lt (by omega) in0]; omega
  refine va_newa (atype := .long) (ty := .long) hx hb (hts _ h1) rfl hWo.1 hP hD hS hA (a0 := (n, .inr (.inl (fun _ => Int64.ofInt 0)))) (fun cA => rfl) hnn hcl (Nat.le_trans (Nat.mul_le_mul_left n (by decide)) h2) (by omega) (by omega) h0 (fun q cA H1 hK1 hP1 hD1 hS1 => ?_)
  have e1 : s.vm.findClass ("[" ++ FieldType.long.toString) = some cA := (hK1.2 3 (cA, .long) rfl).2
  have e2 : s.vm.findClass ("[" ++ FieldType.long.toString) = some cs.2.2 := (hWo.1.2 2 (cs.2.2, .long) rfl).2
  have e3 : cA = cs.2.2 := Option.some.inj (e1.symm.trans e2)
  subst e3
  have hbe : be ad cs (2, n, [], 0) = .inl (cs.2.2, n, .inr (.inl (fun _ => Int64.ofInt 0))) := by simp [be]
  rw [← hbe, ← bw_push (r := (2, n, [], 0)) o1 rfl] at hP1 hD1
  have g := kk p e R s m args below meth c H1 locs (cells + 1) (slots + n) Z A la (ext ad ks.length q) k0 s0 n0 ad0 X hP1 hD1 hS1 hA (hL.ext o2) ⟨by simp; omega, by simp [bsz] at c2 ⊢; omega, c3, c4, by simp; omega⟩ (fun h hh => by rw [ext_ne (by omega), he h hh]) hs
  rw [List.map_cons, map_ext o3] at g
  simp only [cv, ext_eq] at g
  exact g
def FldF (c ix ci k : Nat) : Prop := ∃ (C : String) (T : u_T) (N : Nat) (ty : Nat → FieldType), classes[ci]? = some (C, T, N) ∧ k < N ∧ Cond.fieldLink (cn c) ix (T k).1 (T k).2.1 (T k).2.2.1 ∈ lw_good ∧ (∀ w ∈ u_ws C T N, w ∈ lw_good) ∧ (∀ k, k < N → parseFieldDescriptor (T k).2.2.1 = some (ty k)) ∧ (∀ a, a < N → ∀ b, b < N → a ≠ b → (T a).2.1 ≠ (T b).2.1) ∧ (T k).2.2.2 = true ∧ (T k).1 = cn c ∧ ∀ a : Nat, narrow (ty k) (.ref a) = .ref a ∧ fits (ty k) (.ref a) = true
theorem PB.put {ix h h2 ci k : Nat} {fs : List (Option (Option Nat))} (h0 : decode (mrB mr) pc = .ok (.putfield ix, 3)) (h1 : FldF (mrC mr) ix ci k) (hnm : (mrY mr).name = "<init>") (hk : ks[h]? = some (3, ci, fs, 0)) (hkl : k < fs.length) (kk : PB l Dd cs ke se mr (pc + 3) ls st (ks.set h (3, ci, fs.set k (some (some h2)), 0)) Q) : PB l Dd cs ke se mr pc ls (vR h2 :: vR h :: st) ks Q := by
  intro p e R s m args below meth c H locs cells slots Z A la ad k0 s0 n0 ad0 X hP hD hS hA hL hn he hs
  obtain ⟨hx, hb, hml, hown, hts, hWo, hroom, hin⟩ := id X
  obtain ⟨C, T, N, ty, g1, g2, g3, g4, g5, g6, g7, g8, g9⟩ := h1
  have hbe : be ad cs (3, ci, fs, 0) = .inr (ci, bfv ad fs) := by simp [be]
  have hbe2 : be ad cs (3, ci, fs.set k (some (some h2)), 0) = .inr (ci, (bfv ad fs).set k (.ref (ad h2))) := by simp [be, bfv, List.map_set]
  refine va_putF hx hb hts g4 ty g5 g6 hown hWo.1 hP hD hS h (ci := ci) (fs := bfv ad fs) (by rw [bw_get hk, hbe]) g1 k g2 (hts _ g3) (fun _ q => q) g7 (hin hnm) g8 (ty := ty k) (v := .ref (ad h2)) (g5 k g2) (g9 _).1 (g9 _).2 (by simp [bfv, hkl]) h0 (fun H1 locs1 hP1 hD1 hS1 => ?_)
  rw [← hbe2, bw_set hk] at hP1 hD1
  have hlt := (List.getElem?_eq_some_iff.mp hk).1
  have esz : bsz (ks.set h (3, ci, fs.set k (some (some h2)), 0)) = bsz ks := by
    unfold bsz
    rw [List.map_set]
    simp only [Nat.lt_irrefl, if_false, List.length_set]
    congr 1
    apply List.ext_getElem?
    intro j
    by_cases hj : j = h
    · subst hj
      rw [List.getElem?_set_self (by simpa using hlt), List.getElem?_map, hk]
      rfl
    · rw [List.getElem?_set_ne (Ne.symm hj)]
  exact kk p e R s m args below meth c H1 locs1 cells slots Z A la ad k0 s0 n0 ad0 X hP1 hD1 hS1 hA hL ⟨by simp; exact hn.1, by rw [esz]; exact hn.2.1, hn.2.2.1, hn.2.2.2.1, by simp; exact hn.2.2.2.2⟩ he hs
theorem PB.getR {ix h h2 ci k : Nat} {fs : List (Option (Option Nat))} (h0 : decode (mrB mr) pc = .ok (.getfield ix, 3)) (h1 : FldG (mrC mr) ix ci k) (hk : ks[h]? = some (3, ci, fs, 0)) (hf : fs[k]? = some (some (some h2))) (kk : PB l Dd cs ke se mr (pc + 3) ls (vR h2 :: st) ks Q) : PB l Dd cs ke se mr pc ls (vR h :: st) ks Q := by
  intro p e R s m args below meth c H locs cells slots Z A la ad k0 s0 n0 ad0 X hP hD hS hA hL hn he hs
  obtain ⟨hx, hb, hml, hown, hts, hWo, hroom, hin⟩ := id X
  obtain ⟨C, T, N, g1, g2, g3, g4⟩ := h1
  have hbe : be ad cs (3, ci, fs, 0) = .inr (ci, bfv ad fs) := by simp [be]
  exact va_get hx hb hts g4 hown hWo.1 hP h (ci := ci) (fs := bfv ad fs) (by rw [bw_get hk, hbe]) g1 k g2 (hts _ g3) (fun _ q => q) (v := .ref (ad h2)) (by simp [bfv, hf]) h0 (kk p e R s m args below meth c H locs cells slots Z A la ad k0 s0 n0 ad0 X hP hD hS hA hL hn he hs)
end
def fillQ (Dd : va_G) (cs : ClassId × ClassId × ClassId) (a n : Nat) (v : Int32) : Array Value → State → Outcome → State → Prop := fun _ st oc t => (oc = .returned none ∧ ∃ g : Nat → Int32, (∀ j, j < n → g j = v) ∧ va_P Dd classes [(a, .inl (cs.1, n, .inl g))] t.heap) ∧ va_F (fun q => q = a) st t
/-- Arrays.fill over a row of ints -/
theorem c_fill (l : Launch) (Dd : va_G) (cs : ClassId × ClassId × ClassId) (a n : Nat) (v : Int32) (f : Nat → Int32) (hn : n < 2147483648) : Met l yJ7_fill_53178 (Cond.code yJ7_fill_53178 cJ7_fill_53178 4 none :: lw_good) { frames := 0, cells := 0, slots := 0, locals := 0 } (va_Pc [.ref a, .int v] (fun U => va_P Dd classes [(a, .inl (cs.1, n, .inl f))] U.heap ∧ va_K Dd classes (tysOf cs) U))
    (fillQ Dd cs a n v) 0 0 (fun q => q = a) := by
  refine Met.ofW (cc := cJ7_fill_53178) (maxL := 4) (ret := none) (by decide +kernel) rfl ?_
  intro p e s m args below meth c s₁ B hml hv
  obtain ⟨rfl, hP, hK⟩ := hv
  have hx := B.exec
  have hb := B.bytes
  have hr := B.returns
  have hlocks := B.notSynchronized
  have hl := lv_entry ([.ref a, .int v]) (n := 4) (Nat.le_of_ble_eq_true rfl)
  rw [lg_entry_eq]
  generalize (lg_sl ([.ref a, .int v]) ++ List.replicate (4 - (lg_sl ([.ref a, .int v])).length) Slot.unset).toArray = ls at hl ⊢
  have hl : lv_has ls 4 [(0, .ref a), (1, .int v)] := hl
  have hD : ∀ g : Nat → Int32, va_D (fun q => q = a) [(a, .inl (cs.1, n, .inl g))] := by
    intro g
    refine ⟨fun i j x y hi hj _ => ?_, fun k q hk => ?_⟩
    · have h1 := (List.getElem?_eq_some_iff.mp hi).1
      have h2 := (List.getElem?_eq_some_iff.mp hj).1
      simp at h1 h2
      omega
    · have h1 := (List.getElem?_eq_some_iff.mp hk).1
      simp at h1
      subst h1
      cases hk
      rfl
  have hS : va_S (fun q => q = a) s.heap s.heap [] := va_S.rf
  refine lv_iconst (v := 0) hx hb dJ7_fill_53178_0 (by decide) ?_
  refine lv_istore_n (lv' := [(2, .int 0), (0, .ref a), (1, .int v)]) hx hb dJ7_fill_53178_1 rfl hl (by decide) rfl (fun ls hl => ?_)
  refine lv_aload_n hx hb dJ7_fill_53178_2 rfl (lv_at hl 1 rfl) ?_
  refine va_alen hx hb hK hP 0 0 rfl rfl (v := nI n) rfl dJ7_fill_53178_3 ?_
  refine lv_istore_n (lv' := [(3, .int (nI n)), (2, .int 0), (0, .ref a), (1, .int v)]) hx hb dJ7_fill_53178_4 rfl hl (by decide) rfl (fun ls hl => ?_)
  have loop : ∀ (k i : Nat) (g : Nat → Int32) (H : Heap) (locs : List Loc) (ls : Array Slot), n - i = k → i ≤ n → (∀ j, j < i → g j = v) → va_P Dd classes [(a, .inl (cs.1, n, .inl g))] H → va_S (fun q => q = a) s.heap H locs → lv_has ls 4 [(3, .int (nI n)), (2, .int (nI i)), (0, .ref a), (1, .int v)] → W p l e { frames := 0, cells := 0, slots := 0, locals := 0 } s m #[.ref a, .int v] below meth c H locs 0 0 (MQ below (fillQ Dd cs a n v) #[.ref a, .int v] s 0 0 (fun q => q = a)) (F0 m 5 ls []) := by
    intro k
    induction k with
    | zero =>
      intro i g H locs ls hk hi hg hP hS hl
      refine lv_iload_n hx hb dJ7_fill_53178_5 rfl (lv_at hl 1 rfl) ?_
      refine lv_iload_n hx hb dJ7_fill_53178_6 rfl (lv_at hl 0 rfl) ?_
      have e : i = n := by omega
      subst e
      refine lv_icmp_ge (tgt := 20) hx hb dJ7_fill_53178_7 (by decide) (fun _ => ?_) (fun hc => absurd (Int32.le_refl _) hc)
      exact W.vret hx hb hr (fun t ht hW => ⟨⟨rfl, g, hg, by rw [ht]; exact hP⟩, hS.F ht⟩) hS.2.2 dJ7_fill_53178_20
    | succ k ih =>
      intro i g H locs ls hk hi hg hP hS hl
      refine lv_iload_n hx hb dJ7_fill_53178_5 rfl (lv_at hl 1 rfl) ?_
      refine lv_iload_n hx hb dJ7_fill_53178_6 rfl (lv_at hl 0 rfl) ?_
      refine lv_icmp_ge (tgt := 20) hx hb dJ7_fill_53178_7 (by decide) (fun hc => absurd hc (nI_ge (by omega) hn)) (fun _ => ?_)
      refine lv_aload_n hx hb dJ7_fill_53178_10 rfl (lv_at hl 2 rfl) ?_
      refine lv_iload_n hx hb dJ7_fill_53178_11 rfl (lv_at hl 1 rfl) ?_
      refine lv_iload_n hx hb dJ7_fill_53178_12 rfl (lv_at hl 3 rfl) ?_
      refine va_iast hx hb hK hP (hD g) hS 0 0 rfl rfl (vp_in_nI (by omega) hn) dJ7_fill_53178_13 (fun H1 locs1 hP1 _ hS1 => ?_)
      refine lv_iinc (v := nI (i + 1)) (lv' := [(2, .int (nI (i + 1))), (3, .int (nI n)), (0, .ref a), (1, .int v)]) hx hb dJ7_fill_53178_14 hl (k := 1) rfl (nI_1 i) (by decide) rfl (fun ls hl => ?_)
      refine lv_goto (tgt := 5) hx hb dJ7_fill_53178_17 (by decide) ?_
      refine ih (i + 1) (upd g (nI i).toNatClampNeg v) H1 locs1 ls (by omega) (by omega) (fun j hj => ?_) hP1 hS1 (lv_sub hl [1, 0, 2, 3] rfl)
      rw [nI_clamp (by omega)]
      by_cases e : j = i
      · rw [e, pk_us]
      · rw [pk_un e]
        exact hg j (by omega)
  exact loop (n - 0) 0 f s.heap [] ls rfl (by omega) (fun j hj => absurd hj (by omega)) hP hS (lv_sub hl [0, 1, 2, 3] rfl)
