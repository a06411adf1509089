/-! THE ABSTRACT MACHINE: ints as Int, references as handles, memory by handle and place. Written by gen_am.py. -/
abbrev AV : Type := Int ⊕ (Int ⊕ Nat)
abbrev vI (x : Int) : AV := Sum.inl x
abbrev vL (x : Int) : AV := Sum.inr (Sum.inl x)
abbrev vR (h : Nat) : AV := Sum.inr (Sum.inr h)
def cv (ad : Nat → Nat) (v : AV) : Value := match v with
  | .inl x => .int (Int32.ofInt x)
  | .inr (.inl x) => .long (Int64.ofInt x)
  | .inr (.inr h) => .ref (ad h)
def cat1 (v : AV) : Bool := match v with
  | .inr (.inl _) => false
  | _ => true
def wt (st : List AV) : Nat := (st.map fun v => if cat1 v then 1 else 2).sum
abbrev Mem : Type := Nat → Int → Int
def up (M : Mem) (h : Nat) (i v : Int) : Mem := fun h' => if h' = h then (fun i' => if i' = i then v else M h i') else M h'
def cpy (M : Mem) (h0 h1 : Nat) (sp dp n : Int) : Mem := fun h' => if h' = h1 then (fun i => if dp ≤ i ∧ i < dp + n then M h0 (sp + (i - dp)) else M h1 i) else M h'
abbrev Ls : Type := List (Option AV)
abbrev Po : Type := Option AV → Mem → Prop
/-- a method: number of its class, name, code, locals, answer, room in frames and in locals' words; the script's length and values (the law's alone) -/
abbrev MR : Type := Nat × MethodName × ByteArray × Nat × Option FieldType × Nat × Nat × Nat × (Nat → Int)
abbrev mrC (mr : MR) : Nat := mr.1
abbrev mrY (mr : MR) : MethodName := mr.2.1
abbrev mrB (mr : MR) : ByteArray := mr.2.2.1
abbrev mrN (mr : MR) : Nat := mr.2.2.2.1
abbrev mrT (mr : MR) : Option FieldType := mr.2.2.2.2.1
abbrev mrF (mr : MR) : Nat := mr.2.2.2.2.2.1
abbrev mrL (mr : MR) : Nat := mr.2.2.2.2.2.2.1
abbrev mrS (mr : MR) : Nat := mr.2.2.2.2.2.2.2.1
abbrev mrX (mr : MR) : Nat → Int := mr.2.2.2.2.2.2.2.2
abbrev AP : Type := MR → Nat → Ls → List AV → Mem → Po → Prop
abbrev InR (x : Int) : Prop := -2147483648 ≤ x ∧ x ≤ 2147483647
abbrev InR8 (x : Int) : Prop := -9223372036854775808 ≤ x ∧ x ≤ 9223372036854775807
/-- locals behind a store: a long whose second half is overwritten is lost -/
def setL : Ls → Nat → Option AV → Ls
  | [], _, _ => []
  | _ :: t, 0, v => v :: t
  | a :: t, 1, v => (match a with | some (.inr (.inl _)) => none | _ => a) :: setL t 0 v
  | a :: t, i + 2, v => a :: setL t (i + 1) v
def setL2 (ls : Ls) (i : Nat) (v : Option AV) : Ls := setL (setL ls (i + 1) none) i v
/-- a knows no more of the locals than b -/
def lsub : Ls → Ls → Prop
  | [], _ => True
  | none :: a, _ :: b => lsub a b
  | none :: a, [] => lsub a []
  | some v :: a, w :: b => w = some v ∧ lsub a b
  | some _ :: _, [] => False
/-- locals at a method's entry -/
def entS (As : List AV) : Ls := As.flatMap fun v => if cat1 v then [some v] else [some v, none]
def entL (As : List AV) (n : Nat) : Ls := entS As ++ List.replicate (n - (entS As).length) none
abbrev classes : List vw_C := [(RX0, TX0, 6), (RX1, TX1, 3), (RX2, TX2, 10), (RX3, TX3, 2), (RX4, TX4, 5), (RX5, TX5, 8), (RX6, TX6, 7), (RX7, TX7, 8), (RX8, TX8, 4), (RX10, TX10, 6), (RX11, TX11, 9), (RX12, TX12, 42)]
def cn : Nat → String
  | 0 => RX0
  | 1 => RX1
  | 2 => RX2
  | 3 => RX3
  | 4 => RX4
  | 5 => RX5
  | 6 => RX6
  | 7 => RX7
  | 8 => RX8
  | 9 => RX10
  | 10 => RX11
  | 11 => RX12
  | 13 => RL
  | 14 => RJ7
  | _ => RJ9
def nH : Nat := 85
def kdT : List (Nat × Nat × List (Option Nat)) := [
  (3, 10, [some 1, some 5, some 8, some 12, some 17, some 22, some 32, some 41, some 43]),
  (3, 4, [none, none, some 2, some 3, some 4]),
  (0, 12, []),
  (0, 12, []),
  (0, 36, []),
  (3, 1, [some 1, some 6, some 7]),
  (0, 4, []),
  (0, 4, []),
  (3, 8, [some 1, some 9, some 10, some 11]),
  (0, 52, []),
  (0, 156, []),
  (0, 624, []),
  (3, 0, [some 1, none, some 13, some 14, some 15, some 16]),
  (0, 100, []),
  (0, 100, []),
  (0, 300, []),
  (0, 100, []),
  (3, 7, [some 1, some 8, some 12, some 18, some 19, some 20, none, some 21]),
  (0, 12, []),
  (0, 12, []),
  (0, 12, []),
  (0, 3, []),
  (3, 5, [some 12, some 8, some 28, some 23, some 24, some 25, some 26, some 27]),
  (0, 100, []),
  (0, 100, []),
  (0, 100, []),
  (0, 3, []),
  (0, 3, []),
  (3, 9, [some 12, some 29, none, none, some 30, some 31]),
  (0, 100, []),
  (0, 100, []),
  (0, 100, []),
  (3, 6, [some 12, some 37, some 33, some 34, some 35, none, some 36]),
  (0, 100, []),
  (0, 300, []),
  (0, 300, []),
  (2, 157, []),
  (3, 9, [some 12, some 38, none, none, some 39, some 40]),
  (0, 100, []),
  (0, 100, []),
  (0, 100, []),
  (3, 3, [none, some 42]),
  (0, 800, []),
  (3, 2, [some 12, none, some 44, none, some 45, some 46, some 47, some 48, none, some 49]),
  (0, 8, []),
  (0, 100, []),
  (0, 100, []),
  (0, 60, []),
  (0, 60, []),
  (0, 3, []),
  (3, 11, [none, none, some 51, some 52, some 53, none, some 54, some 55, some 56, some 57, some 58, none, some 59, none, some 60, some 61, some 62, some 63, some 64, some 65, some 66, none, some 67, some 68, some 69, some 70, some 71, some 72, some 73, some 74, some 75, some 76, some 77, some 78, none, some 79, some 80, none, some 81, some 82, some 83, some 84]),
  (0, 12, []),
  (0, 12, []),
  (0, 36, []),
  (0, 100, []),
  (0, 100, []),
  (0, 300, []),
  (0, 100, []),
  (0, 800, []),
  (0, 8, []),
  (0, 4, []),
  (0, 4, []),
  (1, 16, []),
  (0, 52, []),
  (0, 624, []),
  (0, 64, []),
  (0, 64, []),
  (0, 64, []),
  (0, 64, []),
  (0, 64, []),
  (0, 3, []),
  (0, 3, []),
  (0, 64, []),
  (0, 64, []),
  (0, 192, []),
  (0, 100, []),
  (0, 100, []),
  (0, 31000, []),
  (0, 31000, []),
  (1, 10000, []),
  (0, 100, []),
  (0, 400, []),
  (1, 100, []),
  (0, 100, []),
  (0, 256, [])]
def kd (h : Nat) : Nat × Nat × List (Option Nat) := kdT.getD h (9, 0, [])
def lw_good : List Cond := lw_tbl.filter goodWord
def FldG (c ix ci k : Nat) : Prop := ∃ (C : String) (T : u_T) (N : Nat), classes[ci]? = some (C, T, N) ∧ k < N ∧ Cond.fieldLink (cn c) ix (T k).1 (T k).2.1 (T k).2.2.1 ∈ lw_good ∧ ∀ w ∈ u_ws C T N, w ∈ lw_good
def FldP (c ix ci k : Nat) : Prop := ∃ (C : String) (T : u_T) (N : Nat) (ty : Nat → FieldType), classes[ci]? = some (C, T, N) ∧ k < N ∧ Cond.fieldLink (cn c) ix (T k).1 (T k).2.1 (T k).2.2.1 ∈ lw_good ∧ (∀ w ∈ u_ws C T N, w ∈ lw_good) ∧ (∀ k, k < N → parseFieldDescriptor (T k).2.2.1 = some (ty k)) ∧ (∀ a, a < N → ∀ b, b < N → a ≠ b → (T a).2.1 ≠ (T b).2.1) ∧ (T k).2.2.2 = false ∧ ty k = .int
/-- a method that may be called: its name, code and class as the tables have them -/
def MOK (cm : MR) (n : Nat) : Prop := plainName (mrY cm).cls = true ∧ cn (mrC cm) = (mrY cm).cls ∧ Cond.code (mrY cm) (mrB cm) (mrN cm) (mrT cm) ∈ lw_good ∧ Cond.initialized (mrY cm).cls ∈ lw_good ∧ (mrY cm).cls ≠ "java/lang/invoke/MethodHandle" ∧ (mrY cm).cls ≠ "java/lang/invoke/VarHandle" ∧ (parseMethodDescriptor (mrY cm).desc).map (fun d => d.parameters.length) = some n ∧ mrC cm ≠ 13
def CallV (c ix : Nat) (cm : MR) (n : Nat) : Prop := MOK cm n ∧ mrC cm < 12 ∧ Cond.methodLink (cn c) ix (mrY cm) ∈ lw_good ∧ Cond.instanceMethod (mrY cm) ∈ lw_good ∧ Cond.selects (mrY cm).cls (mrY cm) (mrY cm) ∈ lw_good
def CallS (c ix : Nat) (cm : MR) (n : Nat) : Prop := MOK cm n ∧ Cond.methodLink (cn c) ix (mrY cm) ∈ lw_good ∧ Cond.static (mrY cm) ∈ lw_good
def NWs : List (String × Nat × MethodName) := [(RX1, 68, yX11_limitedProduct), (RX1, 65, yX11_limitedSum), (RX8, 66, yX11_limitedProduct), (RX8, 49, yX11_limitedSum), (RX5, 78, yX11_limitedSum)]
def nHost : String := "DatatypeTerms"
def CallN (c ix : Nat) (cm : MR) (n : Nat) : Prop := MOK cm n ∧ (cn c, ix, mrY cm) ∈ NWs ∧ Cond.static (mrY cm) ∈ lw_good
def iX9 (ix : Nat) : MethodName := if ix = 76 then ⟨RX9, "isBuiltBy", "(II)Z"⟩ else ⟨RX9, "split", "(II[I)V"⟩
def FWs : List (String × MethodName × MethodName) := [(RX5, iX9 76, yX5_isBuiltBy), (RX8, iX9 76, yX8_isBuiltBy), (RX5, iX9 81, yX5_split), (RX8, iX9 81, yX8_split)]
def CallF (c ix : Nat) (cm : MR) (n : Nat) : Prop := MOK cm n ∧ mrC cm < 12 ∧ ((mrY cm).cls, iX9 ix, mrY cm) ∈ FWs ∧ Cond.methodLink (cn c) ix (iX9 ix) ∈ lw_good ∧ Cond.selects (mrY cm).cls (iX9 ix) (mrY cm) ∈ lw_good ∧ Cond.instanceMethod (mrY cm) ∈ lw_good ∧ (parseMethodDescriptor (iX9 ix).desc).map (fun d => d.parameters.length) = some n
def R_iconst (P : AP) : Prop := ∀ (mr : MR) (pc : Nat) (ls : Ls) (st : List AV) (M : Mem) (Q : Po) (n : Int), decode (mrB mr) pc = .ok (.iconst n, 1) → P mr (pc + 1) ls (vI n :: st) M Q → P mr pc ls st M Q
def R_bipush (P : AP) : Prop := ∀ (mr : MR) (pc : Nat) (ls : Ls) (st : List AV) (M : Mem) (Q : Po) (n : Int), decode (mrB mr) pc = .ok (.bipush n, 2) → (Int8.ofInt n).toInt32 = Int32.ofInt n → P mr (pc + 2) ls (vI n :: st) M Q → P mr pc ls st M Q
def R_sipush (P : AP) : Prop := ∀ (mr : MR) (pc : Nat) (ls : Ls) (st : List AV) (M : Mem) (Q : Po) (n : Int), decode (mrB mr) pc = .ok (.sipush n, 3) → (Int16.ofInt n).toInt32 = Int32.ofInt n → P mr (pc + 3) ls (vI n :: st) M Q → P mr pc ls st M Q
def R_ldc (P : AP) : Prop := ∀ (mr : MR) (pc : Nat) (ls : Ls) (st : List AV) (M : Mem) (Q : Po) (ix : Nat) (n : Int), decode (mrB mr) pc = .ok (.ldc ix, 2) → Cond.constant (cn (mrC mr)) ix (Int32.ofInt n) ∈ lw_good → P mr (pc + 2) ls (vI n :: st) M Q → P mr pc ls st M Q
def R_ldc2 (P : AP) : Prop := ∀ (mr : MR) (pc : Nat) (ls : Ls) (st : List AV) (M : Mem) (Q : Po) (ix : Nat) (n : Int), decode (mrB mr) pc = .ok (.ldc2_w ix, 3) → Cond.constantLong (cn (mrC mr)) ix (Int64.ofInt n) ∈ lw_good → P mr (pc + 3) ls (vL n :: st) M Q → P mr pc ls st M Q
def R_lconst (P : AP) : Prop := ∀ (mr : MR) (pc : Nat) (ls : Ls) (st : List AV) (M : Mem) (Q : Po) (k : Fin 2) (n : Int), decode (mrB mr) pc = .ok (.lconst k, 1) → Int64.ofNat (k : Nat) = Int64.ofInt n → P mr (pc + 1) ls (vL n :: st) M Q → P mr pc ls st M Q
def R_iload_n (P : AP) : Prop := ∀ (mr : MR) (pc : Nat) (ls : Ls) (st : List AV) (M : Mem) (Q : Po) (k : Fin 4) (x : Int), decode (mrB mr) pc = .ok (.iload_n k, 1) → ls[(k : Nat)]? = some (some (vI x)) → P mr (pc + 1) ls (vI x :: st) M Q → P mr pc ls st M Q
def R_iload (P : AP) : Prop := ∀ (mr : MR) (pc : Nat) (ls : Ls) (st : List AV) (M : Mem) (Q : Po) (k : Nat) (x : Int), decode (mrB mr) pc = .ok (.iload k, 2) → ls[k]? = some (some (vI x)) → P mr (pc + 2) ls (vI x :: st) M Q → P mr pc ls st M Q
def R_lload_n (P : AP) : Prop := ∀ (mr : MR) (pc : Nat) (ls : Ls) (st : List AV) (M : Mem) (Q : Po) (k : Fin 4) (x : Int), decode (mrB mr) pc = .ok (.lload_n k, 1) → ls[(k : Nat)]? = some (some (vL x)) → P mr (pc + 1) ls (vL x :: st) M Q → P mr pc ls st M Q
def R_lload (P : AP) : Prop := ∀ (mr : MR) (pc : Nat) (ls : Ls) (st : List AV) (M : Mem) (Q : Po) (k : Nat) (x : Int), decode (mrB mr) pc = .ok (.lload k, 2) → ls[k]? = some (some (vL x)) → P mr (pc + 2) ls (vL x :: st) M Q → P mr pc ls st M Q
def R_aload_n (P : AP) : Prop := ∀ (mr : MR) (pc : Nat) (ls : Ls) (st : List AV) (M : Mem) (Q : Po) (k : Fin 4) (x : Nat), decode (mrB mr) pc = .ok (.aload_n k, 1) → ls[(k : Nat)]? = some (some (vR x)) → P mr (pc + 1) ls (vR x :: st) M Q → P mr pc ls st M Q
def R_aload (P : AP) : Prop := ∀ (mr : MR) (pc : Nat) (ls : Ls) (st : List AV) (M : Mem) (Q : Po) (k : Nat) (x : Nat), decode (mrB mr) pc = .ok (.aload k, 2) → ls[k]? = some (some (vR x)) → P mr (pc + 2) ls (vR x :: st) M Q → P mr pc ls st M Q
def R_istore_n (P : AP) : Prop := ∀ (mr : MR) (pc : Nat) (ls : Ls) (st : List AV) (M : Mem) (Q : Po) (k : Fin 4) (ls2 : Ls) (x : Int), decode (mrB mr) pc = .ok (.istore_n k, 1) → (k : Nat) < mrN mr → setL ls k (some (vI x)) = ls2 → P mr (pc + 1) ls2 st M Q → P mr pc ls (vI x :: st) M Q
def R_istore (P : AP) : Prop := ∀ (mr : MR) (pc : Nat) (ls : Ls) (st : List AV) (M : Mem) (Q : Po) (k : Nat) (ls2 : Ls) (x : Int), decode (mrB mr) pc = .ok (.istore k, 2) → k < mrN mr → setL ls k (some (vI x)) = ls2 → P mr (pc + 2) ls2 st M Q → P mr pc ls (vI x :: st) M Q
def R_lstore_n (P : AP) : Prop := ∀ (mr : MR) (pc : Nat) (ls : Ls) (st : List AV) (M : Mem) (Q : Po) (k : Fin 4) (ls2 : Ls) (x : Int), decode (mrB mr) pc = .ok (.lstore_n k, 1) → (k : Nat) + 1 < mrN mr → setL2 ls k (some (vL x)) = ls2 → P mr (pc + 1) ls2 st M Q → P mr pc ls (vL x :: st) M Q
def R_lstore (P : AP) : Prop := ∀ (mr : MR) (pc : Nat) (ls : Ls) (st : List AV) (M : Mem) (Q : Po) (k : Nat) (ls2 : Ls) (x : Int), decode (mrB mr) pc = .ok (.lstore k, 2) → k + 1 < mrN mr → setL2 ls k (some (vL x)) = ls2 → P mr (pc + 2) ls2 st M Q → P mr pc ls (vL x :: st) M Q
def R_astore_n (P : AP) : Prop := ∀ (mr : MR) (pc : Nat) (ls : Ls) (st : List AV) (M : Mem) (Q : Po) (k : Fin 4) (ls2 : Ls) (x : Nat), decode (mrB mr) pc = .ok (.astore_n k, 1) → (k : Nat) < mrN mr → setL ls k (some (vR x)) = ls2 → P mr (pc + 1) ls2 st M Q → P mr pc ls (vR x :: st) M Q
def R_astore (P : AP) : Prop := ∀ (mr : MR) (pc : Nat) (ls : Ls) (st : List AV) (M : Mem) (Q : Po) (k : Nat) (ls2 : Ls) (x : Nat), decode (mrB mr) pc = .ok (.astore k, 2) → k < mrN mr → setL ls k (some (vR x)) = ls2 → P mr (pc + 2) ls2 st M Q → P mr pc ls (vR x :: st) M Q
def R_iinc (P : AP) : Prop := ∀ (mr : MR) (pc : Nat) (ls : Ls) (st : List AV) (M : Mem) (Q : Po) (k : Nat) (n x : Int) (ls2 : Ls), decode (mrB mr) pc = .ok (.iinc k n, 3) → ls[k]? = some (some (vI x)) → k < mrN mr → setL ls k (some (vI (x + n))) = ls2 → P mr (pc + 3) ls2 st M Q → P mr pc ls st M Q
def R_iadd (P : AP) : Prop := ∀ (mr : MR) (pc : Nat) (ls : Ls) (st : List AV) (M : Mem) (Q : Po) (x y : Int), decode (mrB mr) pc = .ok (.iadd, 1) → P mr (pc + 1) ls (vI (x + y) :: st) M Q → P mr pc ls (vI y :: vI x :: st) M Q
def R_isub (P : AP) : Prop := ∀ (mr : MR) (pc : Nat) (ls : Ls) (st : List AV) (M : Mem) (Q : Po) (x y : Int), decode (mrB mr) pc = .ok (.isub, 1) → P mr (pc + 1) ls (vI (x - y) :: st) M Q → P mr pc ls (vI y :: vI x :: st) M Q
def R_imul (P : AP) : Prop := ∀ (mr : MR) (pc : Nat) (ls : Ls) (st : List AV) (M : Mem) (Q : Po) (x y : Int), decode (mrB mr) pc = .ok (.imul, 1) → P mr (pc + 1) ls (vI (x * y) :: st) M Q → P mr pc ls (vI y :: vI x :: st) M Q
def R_idiv (P : AP) : Prop := ∀ (mr : MR) (pc : Nat) (ls : Ls) (st : List AV) (M : Mem) (Q : Po) (x y : Int), decode (mrB mr) pc = .ok (.idiv, 1) → 0 ≤ x ∧ x ≤ 2147483647 → 0 < y ∧ y ≤ 2147483647 → P mr (pc + 1) ls (vI (x / y) :: st) M Q → P mr pc ls (vI y :: vI x :: st) M Q
def R_irem (P : AP) : Prop := ∀ (mr : MR) (pc : Nat) (ls : Ls) (st : List AV) (M : Mem) (Q : Po) (x y : Int), decode (mrB mr) pc = .ok (.irem, 1) → 0 ≤ x ∧ x ≤ 2147483647 → 0 < y ∧ y ≤ 2147483647 → P mr (pc + 1) ls (vI (x % y) :: st) M Q → P mr pc ls (vI y :: vI x :: st) M Q
def R_iand (P : AP) : Prop := ∀ (mr : MR) (pc : Nat) (ls : Ls) (st : List AV) (M : Mem) (Q : Po) (x y : Int), decode (mrB mr) pc = .ok (.iand, 1) → P mr (pc + 1) ls (vI (Int32.ofInt x &&& Int32.ofInt y).toInt :: st) M Q → P mr pc ls (vI y :: vI x :: st) M Q
def R_i2l (P : AP) : Prop := ∀ (mr : MR) (pc : Nat) (ls : Ls) (st : List AV) (M : Mem) (Q : Po) (x : Int), decode (mrB mr) pc = .ok (.i2l, 1) → InR x → P mr (pc + 1) ls (vL x :: st) M Q → P mr pc ls (vI x :: st) M Q
def R_l2i (P : AP) : Prop := ∀ (mr : MR) (pc : Nat) (ls : Ls) (st : List AV) (M : Mem) (Q : Po) (x : Int), decode (mrB mr) pc = .ok (.l2i, 1) → P mr (pc + 1) ls (vI x :: st) M Q → P mr pc ls (vL x :: st) M Q
def R_ladd (P : AP) : Prop := ∀ (mr : MR) (pc : Nat) (ls : Ls) (st : List AV) (M : Mem) (Q : Po) (x y : Int), decode (mrB mr) pc = .ok (.ladd, 1) → P mr (pc + 1) ls (vL (x + y) :: st) M Q → P mr pc ls (vL y :: vL x :: st) M Q
def R_lmul (P : AP) : Prop := ∀ (mr : MR) (pc : Nat) (ls : Ls) (st : List AV) (M : Mem) (Q : Po) (x y : Int), decode (mrB mr) pc = .ok (.lmul, 1) → P mr (pc + 1) ls (vL (x * y) :: st) M Q → P mr pc ls (vL y :: vL x :: st) M Q
def R_land (P : AP) : Prop := ∀ (mr : MR) (pc : Nat) (ls : Ls) (st : List AV) (M : Mem) (Q : Po) (x y : Int), decode (mrB mr) pc = .ok (.land, 1) → P mr (pc + 1) ls (vL (Int64.ofInt x &&& Int64.ofInt y).toInt :: st) M Q → P mr pc ls (vL y :: vL x :: st) M Q
def R_lor (P : AP) : Prop := ∀ (mr : MR) (pc : Nat) (ls : Ls) (st : List AV) (M : Mem) (Q : Po) (x y : Int), decode (mrB mr) pc = .ok (.lor, 1) → P mr (pc + 1) ls (vL (Int64.ofInt x ||| Int64.ofInt y).toInt :: st) M Q → P mr pc ls (vL y :: vL x :: st) M Q
def R_lshl (P : AP) : Prop := ∀ (mr : MR) (pc : Nat) (ls : Ls) (st : List AV) (M : Mem) (Q : Po) (x y : Int), decode (mrB mr) pc = .ok (.lshl, 1) → P mr (pc + 1) ls (vL (Int64.ofInt x <<< ((Int32.ofInt y).toInt64 &&& 63)).toInt :: st) M Q → P mr pc ls (vI y :: vL x :: st) M Q
def R_lcmp (P : AP) : Prop := ∀ (mr : MR) (pc : Nat) (ls : Ls) (st : List AV) (M : Mem) (Q : Po) (x y : Int), decode (mrB mr) pc = .ok (.lcmp, 1) → InR8 x → InR8 y → P mr (pc + 1) ls (vI (if x > y then 1 else if x = y then 0 else -1) :: st) M Q → P mr pc ls (vL y :: vL x :: st) M Q
def R_dup (P : AP) : Prop := ∀ (mr : MR) (pc : Nat) (ls : Ls) (st : List AV) (M : Mem) (Q : Po) (v : AV), decode (mrB mr) pc = .ok (.dup, 1) → cat1 v = true → P mr (pc + 1) ls (v :: v :: st) M Q → P mr pc ls (v :: st) M Q
def R_dup2 (P : AP) : Prop := ∀ (mr : MR) (pc : Nat) (ls : Ls) (st : List AV) (M : Mem) (Q : Po) (v w : AV), decode (mrB mr) pc = .ok (.dup2, 1) → cat1 v = true → cat1 w = true → P mr (pc + 1) ls (v :: w :: v :: w :: st) M Q → P mr pc ls (v :: w :: st) M Q
def R_getR (P : AP) : Prop := ∀ (mr : MR) (pc : Nat) (ls : Ls) (st : List AV) (M : Mem) (Q : Po) (h ix ci k h2 : Nat) (fs : List (Option Nat)), decode (mrB mr) pc = .ok (.getfield ix, 3) → FldG (mrC mr) ix ci k → kd h = (3, ci, fs) → h < nH → fs[k]? = some (some h2) → P mr (pc + 3) ls (vR h2 :: st) M Q → P mr pc ls (vR h :: st) M Q
def R_getI (P : AP) : Prop := ∀ (mr : MR) (pc : Nat) (ls : Ls) (st : List AV) (M : Mem) (Q : Po) (h ix ci k : Nat) (fs : List (Option Nat)), decode (mrB mr) pc = .ok (.getfield ix, 3) → FldG (mrC mr) ix ci k → kd h = (3, ci, fs) → h < nH → fs[k]? = some none → P mr (pc + 3) ls (vI (M h k) :: st) M Q → P mr pc ls (vR h :: st) M Q
def R_put (P : AP) : Prop := ∀ (mr : MR) (pc : Nat) (ls : Ls) (st : List AV) (M : Mem) (Q : Po) (h ix ci k : Nat) (fs : List (Option Nat)) (x : Int), decode (mrB mr) pc = .ok (.putfield ix, 3) → FldP (mrC mr) ix ci k → kd h = (3, ci, fs) → h < nH → fs[k]? = some none → P mr (pc + 3) ls st (up M h k x) Q → P mr pc ls (vI x :: vR h :: st) M Q
def R_iald (P : AP) : Prop := ∀ (mr : MR) (pc : Nat) (ls : Ls) (st : List AV) (M : Mem) (Q : Po) (h n : Nat) (i : Int), decode (mrB mr) pc = .ok (.iaload, 1) → kd h = (0, n, []) → h < nH → 0 ≤ i ∧ i < n → P mr (pc + 1) ls (vI (M h i) :: st) M Q → P mr pc ls (vI i :: vR h :: st) M Q
def R_zald (P : AP) : Prop := ∀ (mr : MR) (pc : Nat) (ls : Ls) (st : List AV) (M : Mem) (Q : Po) (h n : Nat) (i : Int), decode (mrB mr) pc = .ok (.baload, 1) → kd h = (1, n, []) → h < nH → 0 ≤ i ∧ i < n → P mr (pc + 1) ls (vI (M h i) :: st) M Q → P mr pc ls (vI i :: vR h :: st) M Q
def R_lald (P : AP) : Prop := ∀ (mr : MR) (pc : Nat) (ls : Ls) (st : List AV) (M : Mem) (Q : Po) (h n : Nat) (i : Int), decode (mrB mr) pc = .ok (.laload, 1) → kd h = (2, n, []) → h < nH → 0 ≤ i ∧ i < n → P mr (pc + 1) ls (vL (M h i) :: st) M Q → P mr pc ls (vI i :: vR h :: st) M Q
def R_iast (P : AP) : Prop := ∀ (mr : MR) (pc : Nat) (ls : Ls) (st : List AV) (M : Mem) (Q : Po) (h n : Nat) (i x : Int), decode (mrB mr) pc = .ok (.iastore, 1) → kd h = (0, n, []) → h < nH → 0 ≤ i ∧ i < n → P mr (pc + 1) ls st (up M h i x) Q → P mr pc ls (vI x :: vI i :: vR h :: st) M Q
def R_zast (P : AP) : Prop := ∀ (mr : MR) (pc : Nat) (ls : Ls) (st : List AV) (M : Mem) (Q : Po) (h n : Nat) (i x : Int), decode (mrB mr) pc = .ok (.bastore, 1) → kd h = (1, n, []) → h < nH → 0 ≤ i ∧ i < n → x = 0 ∨ x = 1 → P mr (pc + 1) ls st (up M h i x) Q → P mr pc ls (vI x :: vI i :: vR h :: st) M Q
def R_last (P : AP) : Prop := ∀ (mr : MR) (pc : Nat) (ls : Ls) (st : List AV) (M : Mem) (Q : Po) (h n : Nat) (i x : Int), decode (mrB mr) pc = .ok (.lastore, 1) → kd h = (2, n, []) → h < nH → 0 ≤ i ∧ i < n → P mr (pc + 1) ls st (up M h i x) Q → P mr pc ls (vL x :: vI i :: vR h :: st) M Q
def R_alen (P : AP) : Prop := ∀ (mr : MR) (pc : Nat) (ls : Ls) (st : List AV) (M : Mem) (Q : Po) (h t n : Nat), decode (mrB mr) pc = .ok (.arraylength, 1) → kd h = (t, n, []) → t < 3 → h < nH → P mr (pc + 1) ls (vI n :: st) M Q → P mr pc ls (vR h :: st) M Q
def R_sald (P : AP) : Prop := ∀ (mr : MR) (pc : Nat) (ls : Ls) (st : List AV) (M : Mem) (Q : Po) (i : Int), decode (mrB mr) pc = .ok (.iaload, 1) → mrC mr = 13 → 0 ≤ i ∧ i < mrS mr → P mr (pc + 1) ls (vI (mrX mr i.toNat) :: st) M Q → P mr pc ls (vI i :: vR nH :: st) M Q
def R_slen (P : AP) : Prop := ∀ (mr : MR) (pc : Nat) (ls : Ls) (st : List AV) (M : Mem) (Q : Po) , decode (mrB mr) pc = .ok (.arraylength, 1) → mrC mr = 13 → P mr (pc + 1) ls (vI (mrS mr) :: st) M Q → P mr pc ls (vR nH :: st) M Q
def R_if_eq (P : AP) : Prop := ∀ (mr : MR) (pc : Nat) (ls : Ls) (st : List AV) (M : Mem) (Q : Po) (x off : Int) (tgt : Nat), decode (mrB mr) pc = .ok (.ifCond .eq off, 3) → (pc : Int) + off = (tgt : Int) → InR x → (x = 0 → P mr tgt ls st M Q) → (¬ (x = 0) → P mr (pc + 3) ls st M Q) → P mr pc ls (vI x :: st) M Q
def R_icmp_eq (P : AP) : Prop := ∀ (mr : MR) (pc : Nat) (ls : Ls) (st : List AV) (M : Mem) (Q : Po) (x y off : Int) (tgt : Nat), decode (mrB mr) pc = .ok (.if_icmp .eq off, 3) → (pc : Int) + off = (tgt : Int) → InR x → InR y → (x = y → P mr tgt ls st M Q) → (¬ (x = y) → P mr (pc + 3) ls st M Q) → P mr pc ls (vI y :: vI x :: st) M Q
def R_if_ne (P : AP) : Prop := ∀ (mr : MR) (pc : Nat) (ls : Ls) (st : List AV) (M : Mem) (Q : Po) (x off : Int) (tgt : Nat), decode (mrB mr) pc = .ok (.ifCond .ne off, 3) → (pc : Int) + off = (tgt : Int) → InR x → (x ≠ 0 → P mr tgt ls st M Q) → (¬ (x ≠ 0) → P mr (pc + 3) ls st M Q) → P mr pc ls (vI x :: st) M Q
def R_icmp_ne (P : AP) : Prop := ∀ (mr : MR) (pc : Nat) (ls : Ls) (st : List AV) (M : Mem) (Q : Po) (x y off : Int) (tgt : Nat), decode (mrB mr) pc = .ok (.if_icmp .ne off, 3) → (pc : Int) + off = (tgt : Int) → InR x → InR y → (x ≠ y → P mr tgt ls st M Q) → (¬ (x ≠ y) → P mr (pc + 3) ls st M Q) → P mr pc ls (vI y :: vI x :: st) M Q
def R_if_lt (P : AP) : Prop := ∀ (mr : MR) (pc : Nat) (ls : Ls) (st : List AV) (M : Mem) (Q : Po) (x off : Int) (tgt : Nat), decode (mrB mr) pc = .ok (.ifCond .lt off, 3) → (pc : Int) + off = (tgt : Int) → InR x → (x < 0 → P mr tgt ls st M Q) → (¬ (x < 0) → P mr (pc + 3) ls st M Q) → P mr pc ls (vI x :: st) M Q
def R_icmp_lt (P : AP) : Prop := ∀ (mr : MR) (pc : Nat) (ls : Ls) (st : List AV) (M : Mem) (Q : Po) (x y off : Int) (tgt : Nat), decode (mrB mr) pc = .ok (.if_icmp .lt off, 3) → (pc : Int) + off = (tgt : Int) → InR x → InR y → (x < y → P mr tgt ls st M Q) → (¬ (x < y) → P mr (pc + 3) ls st M Q) → P mr pc ls (vI y :: vI x :: st) M Q
def R_if_ge (P : AP) : Prop := ∀ (mr : MR) (pc : Nat) (ls : Ls) (st : List AV) (M : Mem) (Q : Po) (x off : Int) (tgt : Nat), decode (mrB mr) pc = .ok (.ifCond .ge off, 3) → (pc : Int) + off = (tgt : Int) → InR x → (x ≥ 0 → P mr tgt ls st M Q) → (¬ (x ≥ 0) → P mr (pc + 3) ls st M Q) → P mr pc ls (vI x :: st) M Q
def R_icmp_ge (P : AP) : Prop := ∀ (mr : MR) (pc : Nat) (ls : Ls) (st : List AV) (M : Mem) (Q : Po) (x y off : Int) (tgt : Nat), decode (mrB mr) pc = .ok (.if_icmp .ge off, 3) → (pc : Int) + off = (tgt : Int) → InR x → InR y → (x ≥ y → P mr tgt ls st M Q) → (¬ (x ≥ y) → P mr (pc + 3) ls st M Q) → P mr pc ls (vI y :: vI x :: st) M Q
def R_if_gt (P : AP) : Prop := ∀ (mr : MR) (pc : Nat) (ls : Ls) (st : List AV) (M : Mem) (Q : Po) (x off : Int) (tgt : Nat), decode (mrB mr) pc = .ok (.ifCond .gt off, 3) → (pc : Int) + off = (tgt : Int) → InR x → (x > 0 → P mr tgt ls st M Q) → (¬ (x > 0) → P mr (pc + 3) ls st M Q) → P mr pc ls (vI x :: st) M Q
def R_icmp_gt (P : AP) : Prop := ∀ (mr : MR) (pc : Nat) (ls : Ls) (st : List AV) (M : Mem) (Q : Po) (x y off : Int) (tgt : Nat), decode (mrB mr) pc = .ok (.if_icmp .gt off, 3) → (pc : Int) + off = (tgt : Int) → InR x → InR y → (x > y → P mr tgt ls st M Q) → (¬ (x > y) → P mr (pc + 3) ls st M Q) → P mr pc ls (vI y :: vI x :: st) M Q
def R_if_le (P : AP) : Prop := ∀ (mr : MR) (pc : Nat) (ls : Ls) (st : List AV) (M : Mem) (Q : Po) (x off : Int) (tgt : Nat), decode (mrB mr) pc = .ok (.ifCond .le off, 3) → (pc : Int) + off = (tgt : Int) → InR x → (x ≤ 0 → P mr tgt ls st M Q) → (¬ (x ≤ 0) → P mr (pc + 3) ls st M Q) → P mr pc ls (vI x :: st) M Q
def R_icmp_le (P : AP) : Prop := ∀ (mr : MR) (pc : Nat) (ls : Ls) (st : List AV) (M : Mem) (Q : Po) (x y off : Int) (tgt : Nat), decode (mrB mr) pc = .ok (.if_icmp .le off, 3) → (pc : Int) + off = (tgt : Int) → InR x → InR y → (x ≤ y → P mr tgt ls st M Q) → (¬ (x ≤ y) → P mr (pc + 3) ls st M Q) → P mr pc ls (vI y :: vI x :: st) M Q
def R_goto (P : AP) : Prop := ∀ (mr : MR) (pc : Nat) (ls : Ls) (st : List AV) (M : Mem) (Q : Po) (off : Int) (tgt : Nat), decode (mrB mr) pc = .ok (.goto off, 3) → (pc : Int) + off = (tgt : Int) → P mr tgt ls st M Q → P mr pc ls st M Q
def R_tblO (P : AP) : Prop := ∀ (mr : MR) (pc : Nat) (ls : Ls) (st : List AV) (M : Mem) (Q : Po) (x dflt lo hi : Int) (offs : Array Int) (len tgt : Nat), decode (mrB mr) pc = .ok (.tableswitch dflt lo hi offs, len) → InR x → x < lo ∨ hi < x → (pc : Int) + dflt = (tgt : Int) → P mr tgt ls st M Q → P mr pc ls (vI x :: st) M Q
def R_tblI (P : AP) : Prop := ∀ (mr : MR) (pc : Nat) (ls : Ls) (st : List AV) (M : Mem) (Q : Po) (x dflt lo hi off : Int) (offs : Array Int) (len tgt : Nat), decode (mrB mr) pc = .ok (.tableswitch dflt lo hi offs, len) → InR x → ¬ x < lo → ¬ hi < x → offs[(x - lo).toNat]? = some off → (pc : Int) + off = (tgt : Int) → P mr tgt ls st M Q → P mr pc ls (vI x :: st) M Q
def R_vret (P : AP) : Prop := ∀ (mr : MR) (pc : Nat) (ls : Ls) (st : List AV) (M : Mem) (Q : Po) , decode (mrB mr) pc = .ok (.return_, 1) → mrT mr = none → Q none M → P mr pc ls [] M Q
def R_iret (P : AP) : Prop := ∀ (mr : MR) (pc : Nat) (ls : Ls) (st : List AV) (M : Mem) (Q : Po) (x : Int), decode (mrB mr) pc = .ok (.ireturn, 1) → mrT mr = some .int → Q (some (vI x)) M → P mr pc ls [vI x] M Q
def R_zret (P : AP) : Prop := ∀ (mr : MR) (pc : Nat) (ls : Ls) (st : List AV) (M : Mem) (Q : Po) (x : Int), decode (mrB mr) pc = .ok (.ireturn, 1) → mrT mr = some .boolean → x = 0 ∨ x = 1 → Q (some (vI x)) M → P mr pc ls [vI x] M Q
def R_callV (P : AP) : Prop := ∀ (mr : MR) (pc : Nat) (ls : Ls) (st : List AV) (M : Mem) (Q : Po) (h : Nat) (fs : List (Option Nat)) (cm : MR) (ix : Nat) (As : List AV) (Q1 : Po), decode (mrB mr) pc = .ok (.invokevirtual ix, 3) → CallV (mrC mr) ix cm As.length → kd h = (3, mrC cm, fs) → h < nH → mrF cm + 1 ≤ mrF mr ∧ 8 + (mrN cm + 11) + mrL cm ≤ mrL mr → (entS (vR h :: As)).length ≤ mrN cm → wt st ≤ 8 → P cm 0 (entL (vR h :: As) (mrN cm)) [] M Q1 → (∀ (r : Option AV) (M1 : Mem), Q1 r M1 → P mr (pc + 3) ls (r.toList ++ st) M1 Q) → P mr pc ls (As.reverse ++ vR h :: st) M Q
def R_callS (P : AP) : Prop := ∀ (mr : MR) (pc : Nat) (ls : Ls) (st : List AV) (M : Mem) (Q : Po) (cm : MR) (ix : Nat) (As : List AV) (Q1 : Po), decode (mrB mr) pc = .ok (.invokestatic ix, 3) → CallS (mrC mr) ix cm As.length → mrF cm + 1 ≤ mrF mr ∧ 8 + (mrN cm + 11) + mrL cm ≤ mrL mr → (entS As).length ≤ mrN cm → wt st ≤ 8 → P cm 0 (entL As (mrN cm)) [] M Q1 → (∀ (r : Option AV) (M1 : Mem), Q1 r M1 → P mr (pc + 3) ls (r.toList ++ st) M1 Q) → P mr pc ls (As.reverse ++ st) M Q
def R_callN (P : AP) : Prop := ∀ (mr : MR) (pc : Nat) (ls : Ls) (st : List AV) (M : Mem) (Q : Po) (cm : MR) (ix : Nat) (As : List AV) (Q1 : Po), decode (mrB mr) pc = .ok (.invokestatic ix, 3) → CallN (mrC mr) ix cm As.length → mrF cm + 1 ≤ mrF mr ∧ 8 + (mrN cm + 11) + mrL cm ≤ mrL mr → (entS As).length ≤ mrN cm → wt st ≤ 8 → P cm 0 (entL As (mrN cm)) [] M Q1 → (∀ (r : Option AV) (M1 : Mem), Q1 r M1 → P mr (pc + 3) ls (r.toList ++ st) M1 Q) → P mr pc ls (As.reverse ++ st) M Q
def R_callF (P : AP) : Prop := ∀ (mr : MR) (pc : Nat) (ls : Ls) (st : List AV) (M : Mem) (Q : Po) (h ct : Nat) (fs : List (Option Nat)) (cm : MR) (ix : Nat) (As : List AV) (Q1 : Po), decode (mrB mr) pc = .ok (.invokeinterface ix ct, 5) → CallF (mrC mr) ix cm As.length → kd h = (3, mrC cm, fs) → h < nH → mrF cm + 1 ≤ mrF mr ∧ 8 + (mrN cm + 11) + mrL cm ≤ mrL mr → (entS (vR h :: As)).length ≤ mrN cm → wt st ≤ 8 → P cm 0 (entL (vR h :: As) (mrN cm)) [] M Q1 → (∀ (r : Option AV) (M1 : Mem), Q1 r M1 → P mr (pc + 5) ls (r.toList ++ st) M1 Q) → P mr pc ls (As.reverse ++ vR h :: st) M Q
def R_copy (P : AP) : Prop := ∀ (mr : MR) (pc : Nat) (ls : Ls) (st : List AV) (M : Mem) (Q : Po) (ix h0 h1 n0 n1 : Nat) (sp dp n : Int), decode (mrB mr) pc = .ok (.invokestatic ix, 3) → Cond.methodLink (cn (mrC mr)) ix arraycopyName ∈ lw_good → kd h0 = (0, n0, []) → kd h1 = (0, n1, []) → h0 < nH → h1 < nH → 0 ≤ sp ∧ 0 ≤ dp ∧ 0 ≤ n ∧ sp + n ≤ n0 ∧ dp + n ≤ n1 → 1 ≤ mrF mr → 8 + (nativeFrameWords "java/lang/System" "arraycopy" 5 + 11) ≤ mrL mr → wt st ≤ 8 → P mr (pc + 3) ls st (cpy M h0 h1 sp dp n) Q → P mr pc ls (vI n :: vI dp :: vR h1 :: vI sp :: vR h0 :: st) M Q
def R_mmax (P : AP) : Prop := ∀ (mr : MR) (pc : Nat) (ls : Ls) (st : List AV) (M : Mem) (Q : Po) (ix : Nat) (x y : Int), decode (mrB mr) pc = .ok (.invokestatic ix, 3) → Cond.methodLink (cn (mrC mr)) ix Lib.Math.max.name ∈ lw_good → 1 ≤ mrF mr → 8 + 13 ≤ mrL mr → wt st ≤ 8 → InR x → InR y → P mr (pc + 3) ls (vI (if x < y then y else x) :: st) M Q → P mr pc ls (vI y :: vI x :: st) M Q
def R_mmin (P : AP) : Prop := ∀ (mr : MR) (pc : Nat) (ls : Ls) (st : List AV) (M : Mem) (Q : Po) (ix : Nat) (x y : Int), decode (mrB mr) pc = .ok (.invokestatic ix, 3) → Cond.methodLink (cn (mrC mr)) ix Lib.Math.min.name ∈ lw_good → 1 ≤ mrF mr → 8 + 13 ≤ mrL mr → wt st ≤ 8 → InR x → InR y → P mr (pc + 3) ls (vI (if y < x then y else x) :: st) M Q → P mr pc ls (vI y :: vI x :: st) M Q
def R_weak (P : AP) : Prop := ∀ (mr : MR) (pc : Nat) (ls : Ls) (st : List AV) (M : Mem) (Q : Po) (ls2 : Ls), lsub ls2 ls → P mr pc ls2 st M Q → P mr pc ls st M Q
def Rules (P : AP) : Prop := R_iconst P ∧ R_bipush P ∧ R_sipush P ∧ R_ldc P ∧ R_ldc2 P ∧ R_lconst P ∧ R_iload_n P ∧ R_iload P ∧ R_lload_n P ∧ R_lload P ∧ R_aload_n P ∧ R_aload P ∧ R_istore_n P ∧ R_istore P ∧ R_lstore_n P ∧ R_lstore P ∧ R_astore_n P ∧ R_astore P ∧ R_iinc P ∧ R_iadd P ∧ R_isub P ∧ R_imul P ∧ R_idiv P ∧ R_irem P ∧ R_iand P ∧ R_i2l P ∧ R_l2i P ∧ R_ladd P ∧ R_lmul P ∧ R_land P ∧ R_lor P ∧ R_lshl P ∧ R_lcmp P ∧ R_dup P ∧ R_dup2 P ∧ R_getR P ∧ R_getI P ∧ R_put P ∧ R_iald P ∧ R_zald P ∧ R_lald P ∧ R_iast P ∧ R_zast P ∧ R_last P ∧ R_alen P ∧ R_sald P ∧ R_slen P ∧ R_if_eq P ∧ R_icmp_eq P ∧ R_if_ne P ∧ R_icmp_ne P ∧ R_if_lt P ∧ R_icmp_lt P ∧ R_if_ge P ∧ R_icmp_ge P ∧ R_if_gt P ∧ R_icmp_gt P ∧ R_if_le P ∧ R_icmp_le P ∧ R_goto P ∧ R_tblO P ∧ R_tblI P ∧ R_vret P ∧ R_iret P ∧ R_zret P ∧ R_callV P ∧ R_callS P ∧ R_callN P ∧ R_callF P ∧ R_copy P ∧ R_mmax P ∧ R_mmin P ∧ R_weak P
def AW : AP := fun mr pc ls st M Q => ∀ P : AP, Rules P → P mr pc ls st M Q
theorem AW.iconst {mr : MR} {pc : Nat} {ls : Ls} {st : List AV} {M : Mem} {Q : Po} {n : Int} (e0 : decode (mrB mr) pc = .ok (.iconst n, 1)) (k0 : AW mr (pc + 1) ls (vI n :: st) M Q) : AW mr pc ls st M Q := fun P hP => hP.1 mr pc ls st M Q n e0 (k0 P hP)
theorem AW.bipush {mr : MR} {pc : Nat} {ls : Ls} {st : List AV} {M : Mem} {Q : Po} {n : Int} (e0 : decode (mrB mr) pc = .ok (.bipush n, 2)) (e1 : (Int8.ofInt n).toInt32 = Int32.ofInt n) (k0 : AW mr (pc + 2) ls (vI n :: st) M Q) : AW mr pc ls st M Q := fun P hP => hP.2.1 mr pc ls st M Q n e0 e1 (k0 P hP)
theorem AW.sipush {mr : MR} {pc : Nat} {ls : Ls} {st : List AV} {M : Mem} {Q : Po} {n : Int} (e0 : decode (mrB mr) pc = .ok (.sipush n, 3)) (e1 : (Int16.ofInt n).toInt32 = Int32.ofInt n) (k0 : AW mr (pc + 3) ls (vI n :: st) M Q) : AW mr pc ls st M Q := fun P hP => hP.2.2.1 mr pc ls st M Q n e0 e1 (k0 P hP)
theorem AW.ldc {mr : MR} {pc : Nat} {ls : Ls} {st : List AV} {M : Mem} {Q : Po} {ix : Nat} {n : Int} (e0 : decode (mrB mr) pc = .ok (.ldc ix, 2)) (e1 : Cond.constant (cn (mrC mr)) ix (Int32.ofInt n) ∈ lw_good) (k0 : AW mr (pc + 2) ls (vI n :: st) M Q) : AW mr pc ls st M Q := fun P hP => hP.2.2.2.1 mr pc ls st M Q ix n e0 e1 (k0 P hP)
theorem AW.ldc2 {mr : MR} {pc : Nat} {ls : Ls} {st : List AV} {M : Mem} {Q : Po} {ix : Nat} {n : Int} (e0 : decode (mrB mr) pc = .ok (.ldc2_w ix, 3)) (e1 : Cond.constantLong (cn (mrC mr)) ix (Int64.ofInt n) ∈ lw_good) (k0 : AW mr (pc + 3) ls (vL n :: st) M Q) : AW mr pc ls st M Q := fun P hP => hP.2.2.2.2.1 mr pc ls st M Q ix n e0 e1 (k0 P hP)
theorem AW.lconst {mr : MR} {pc : Nat} {ls : Ls} {st : List AV} {M : Mem} {Q : Po} {k : Fin 2} {n : Int} (e0 : decode (mrB mr) pc = .ok (.lconst k, 1)) (e1 : Int64.ofNat (k : Nat) = Int64.ofInt n) (k0 : AW mr (pc + 1) ls (vL n :: st) M Q) : AW mr pc ls st M Q := fun P hP => hP.2.2.2.2.2.1 mr pc ls st M Q k n e0 e1 (k0 P hP)
theorem AW.iload_n {mr : MR} {pc : Nat} {ls : Ls} {st : List AV} {M : Mem} {Q : Po} {k : Fin 4} {x : Int} (e0 : decode (mrB mr) pc = .ok (.iload_n k, 1)) (e1 : ls[(k : Nat)]? = some (some (vI x))) (k0 : AW mr (pc + 1) ls (vI x :: st) M Q) : AW mr pc ls st M Q := fun P hP => hP.2.2.2.2.2.2.1 mr pc ls st M Q k x e0 e1 (k0 P hP)
theorem AW.iload {mr : MR} {pc : Nat} {ls : Ls} {st : List AV} {M : Mem} {Q : Po} {k : Nat} {x : Int} (e0 : decode (mrB mr) pc = .ok (.iload k, 2)) (e1 : ls[k]? = some (some (vI x))) (k0 : AW mr (pc + 2) ls (vI x :: st) M Q) : AW mr pc ls st M Q := fun P hP => hP.2.2.2.2.2.2.2.1 mr pc ls st M Q k x e0 e1 (k0 P hP)
theorem AW.lload_n {mr : MR} {pc : Nat} {ls : Ls} {st : List AV} {M : Mem} {Q : Po} {k : Fin 4} {x : Int} (e0 : decode (mrB mr) pc = .ok (.lload_n k, 1)) (e1 : ls[(k : Nat)]? = some (some (vL x))) (k0 : AW mr (pc + 1) ls (vL x :: st) M Q) : AW mr pc ls st M Q := fun P hP => hP.2.2.2.2.2.2.2.2.1 mr pc ls st M Q k x e0 e1 (k0 P hP)
theorem AW.lload {mr : MR} {pc : Nat} {ls : Ls} {st : List AV} {M : Mem} {Q : Po} {k : Nat} {x : Int} (e0 : decode (mrB mr) pc = .ok (.lload k, 2)) (e1 : ls[k]? = some (some (vL x))) (k0 : AW mr (pc + 2) ls (vL x :: st) M Q) : AW mr pc ls st M Q := fun P hP => hP.2.2.2.2.2.2.2.2.2.1 mr pc ls st M Q k x e0 e1 (k0 P hP)
theorem AW.aload_n {mr : MR} {pc : Nat} {ls : Ls} {st : List AV} {M : Mem} {Q : Po} {k : Fin 4} {x : Nat} (e0 : decode (mrB mr) pc = .ok (.aload_n k, 1)) (e1 : ls[(k : Nat)]? = some (some (vR x))) (k0 : AW mr (pc + 1) ls (vR x :: st) M Q) : AW mr pc ls st M Q := fun P hP => hP.2.2.2.2.2.2.2.2.2.2.1 mr pc ls st M Q k x e0 e1 (k0 P hP)
theorem AW.aload {mr : MR} {pc : Nat} {ls : Ls} {st : List AV} {M : Mem} {Q : Po} {k : Nat} {x : Nat} (e0 : decode (mrB mr) pc = .ok (.aload k, 2)) (e1 : ls[k]? = some (some (vR x))) (k0 : AW mr (pc + 2) ls (vR x :: st) M Q) : AW mr pc ls st M Q := fun P hP => hP.2.2.2.2.2.2.2.2.2.2.2.1 mr pc ls st M Q k x e0 e1 (k0 P hP)
theorem AW.istore_n {mr : MR} {pc : Nat} {ls : Ls} {st : List AV} {M : Mem} {Q : Po} {k : Fin 4} {ls2 : Ls} {x : Int} (e0 : decode (mrB mr) pc = .ok (.istore_n k, 1)) (e1 : (k : Nat) < mrN mr) (e2 : setL ls k (some (vI x)) = ls2) (k0 : AW mr (pc + 1) ls2 st M Q) : AW mr pc ls (vI x :: st) M Q := fun P hP => hP.2.2.2.2.2.2.2.2.2.2.2.2.1 mr pc ls st M Q k ls2 x e0 e1 e2 (k0 P hP)
theorem AW.istore {mr : MR} {pc : Nat} {ls : Ls} {st : List AV} {M : Mem} {Q : Po} {k : Nat} {ls2 : Ls} {x : Int} (e0 : decode (mrB mr) pc = .ok (.istore k, 2)) (e1 : k < mrN mr) (e2 : setL ls k (some (vI x)) = ls2) (k0 : AW mr (pc + 2) ls2 st M Q) : AW mr pc ls (vI x :: st) M Q := fun P hP => hP.2.2.2.2.2.2.2.2.2.2.2.2.2.1 mr pc ls st M Q k ls2 x e0 e1 e2 (k0 P hP)
theorem AW.lstore_n {mr : MR} {pc : Nat} {ls : Ls} {st : List AV} {M : Mem} {Q : Po} {k : Fin 4} {ls2 : Ls} {x : Int} (e0 : decode (mrB mr) pc = .ok (.lstore_n k, 1)) (e1 : (k : Nat) + 1 < mrN mr) (e2 : setL2 ls k (some (vL x)) = ls2) (k0 : AW mr (pc + 1) ls2 st M Q) : AW mr pc ls (vL x :: st) M Q := fun P hP => hP.2.2.2.2.2.2.2.2.2.2.2.2.2.2.1 mr pc ls st M Q k ls2 x e0 e1 e2 (k0 P hP)
theorem AW.lstore {mr : MR} {pc : Nat} {ls : Ls} {st : List AV} {M : Mem} {Q : Po} {k : Nat} {ls2 : Ls} {x : Int} (e0 : decode (mrB mr) pc = .ok (.lstore k, 2)) (e1 : k + 1 < mrN mr) (e2 : setL2 ls k (some (vL x)) = ls2) (k0 : AW mr (pc + 2) ls2 st M Q) : AW mr pc ls (vL x :: st) M Q := fun P hP => hP.2.2.2.2.2.2.2.2.2.2.2.2.2.2.2.1 mr pc ls st M Q k ls2 x e0 e1 e2 (k0 P hP)
theorem AW.astore_n {mr : MR} {pc : Nat} {ls : Ls} {st : List AV} {M : Mem} {Q : Po} {k : Fin 4} {ls2 : Ls} {x : Nat} (e0 : decode (mrB mr) pc = .ok (.astore_n k, 1)) (e1 : (k : Nat) < mrN mr) (e2 : setL ls k (some (vR x)) = ls2) (k0 : AW mr (pc + 1) ls2 st M Q) : AW mr pc ls (vR x :: st) M Q := fun P hP => hP.2.2.2.2.2.2.2.2.2.2.2.2.2.2.2.2.1 mr pc ls st M Q k ls2 x e0 e1 e2 (k0 P hP)
theorem AW.astore {mr : MR} {pc : Nat} {ls : Ls} {st : List AV} {M : Mem} {Q : Po} {k : Nat} {ls2 : Ls} {x : Nat} (e0 : decode (mrB mr) pc = .ok (.astore k, 2)) (e1 : k < mrN mr) (e2 : setL ls k (some (vR x)) = ls2) (k0 : AW mr (pc + 2) ls2 st M Q) : AW mr pc ls (vR x :: st) M Q := fun P hP => hP.2.2.2.2.2.2.2.2.2.2.2.2.2.2.2.2.2.1 mr pc ls st M Q k ls2 x e0 e1 e2 (k0 P hP)
theorem AW.iinc {mr : MR} {pc : Nat} {ls : Ls} {st : List AV} {M : Mem} {Q : Po} {k : Nat} {n x : Int} {ls2 : Ls} (e0 : decode (mrB mr) pc = .ok (.iinc k n, 3)) (e1 : ls[k]? = some (some (vI x))) (e2 : k < mrN mr) (e3 : setL ls k (some (vI (x + n))) = ls2) (k0 : AW mr (pc + 3) ls2 st M Q) : AW mr pc ls st M Q := fun P hP => hP.2.2.2.2.2.2.2.2.2.2.2.2.2.2.2.2.2.2.1 mr pc ls st M Q k n x ls2 e0 e1 e2 e3 (k0 P hP)
theorem AW.iadd {mr : MR} {pc : Nat} {ls : Ls} {st : List AV} {M : Mem} {Q : Po} {x y : Int} (e0 : decode (mrB mr) pc = .ok (.iadd, 1)) (k0 : AW mr (pc + 1) ls (vI (x + y) :: st) M Q) : AW mr pc ls (vI y :: vI x :: st) M Q := fun P hP => hP.2.2.2.2.2.2.2.2.2.2.2.2.2.2.2.2.2.2.2.1 mr pc ls st M Q x y e0 (k0 P hP)
theorem AW.isub {mr : MR} {pc : Nat} {ls : Ls} {st : List AV} {M : Mem} {Q : Po} {x y : Int} (e0 : decode (mrB mr) pc = .ok (.isub, 1)) (k0 : AW mr (pc + 1) ls (vI (x - y) :: st) M Q) : AW mr pc ls (vI y :: vI x :: st) M Q := fun P hP => hP.2.2.2.2.2.2.2.2.2.2.2.2.2.2.2.2.2.2.2.2.1 mr pc ls st M Q x y e0 (k0 P hP)
theorem AW.imul {mr : MR} {pc : Nat} {ls : Ls} {st : List AV} {M : Mem} {Q : Po} {x y : Int} (e0 : decode (mrB mr) pc = .ok (.imul, 1)) (k0 : AW mr (pc + 1) ls (vI (x * y) :: st) M Q) : AW mr pc ls (vI y :: vI x :: st) M Q := fun P hP => hP.2.2.2.2.2.2.2.2.2.2.2.2.2.2.2.2.2.2.2.2.2.1 mr pc ls st M Q x y e0 (k0 P hP)
theorem AW.idiv {mr : MR} {pc : Nat} {ls : Ls} {st : List AV} {M : Mem} {Q : Po} {x y : Int} (e0 : decode (mrB mr) pc = .ok (.idiv, 1)) (e1 : 0 ≤ x ∧ x ≤ 2147483647) (e2 : 0 < y ∧ y ≤ 2147483647) (k0 : AW mr (pc + 1) ls (vI (x / y) :: st) M Q) : AW mr pc ls (vI y :: vI x :: st) M Q := fun P hP => hP.2.2.2.2.2.2.2.2.2.2.2.2.2.2.2.2.2.2.2.2.2.2.1 mr pc ls st M Q x y e0 e1 e2 (k0 P hP)
theorem AW.irem {mr : MR} {pc : Nat} {ls : Ls} {st : List AV} {M : Mem} {Q : Po} {x y : Int} (e0 : decode (mrB mr) pc = .ok (.irem, 1)) (e1 : 0 ≤ x ∧ x ≤ 2147483647) (e2 : 0 < y ∧ y ≤ 2147483647) (k0 : AW mr (pc + 1) ls (vI (x % y) :: st) M Q) : AW mr pc ls (vI y :: vI x :: st) M Q := fun P hP => hP.2.2.2.2.2.2.2.2.2.2.2.2.2.2.2.2.2.2.2.2.2.2.2.1 mr pc ls st M Q x y e0 e1 e2 (k0 P hP)
theorem AW.iand {mr : MR} {pc : Nat} {ls : Ls} {st : List AV} {M : Mem} {Q : Po} {x y : Int} (e0 : decode (mrB mr) pc = .ok (.iand, 1)) (k0 : AW mr (pc + 1) ls (vI (Int32.ofInt x &&& Int32.ofInt y).toInt :: st) M Q) : AW mr pc ls (vI y :: vI x :: st) M Q := fun P hP => hP.2.2.2.2.2.2.2.2.2.2.2.2.2.2.2.2.2.2.2.2.2.2.2.2.1 mr pc ls st M Q x y e0 (k0 P hP)
theorem AW.i2l {mr : MR} {pc : Nat} {ls : Ls} {st : List AV} {M : Mem} {Q : Po} {x : Int} (e0 : decode (mrB mr) pc = .ok (.i2l, 1)) (e1 : InR x) (k0 : AW mr (pc + 1) ls (vL x :: st) M Q) : AW mr pc ls (vI x :: st) M Q := fun P hP => hP.2.2.2.2.2.2.2.2.2.2.2.2.2.2.2.2.2.2.2.2.2.2.2.2.2.1 mr pc ls st M Q x e0 e1 (k0 P hP)
theorem AW.l2i {mr : MR} {pc : Nat} {ls : Ls} {st : List AV} {M : Mem} {Q : Po} {x : Int} (e0 : decode (mrB mr) pc = .ok (.l2i, 1)) (k0 : AW mr (pc + 1) ls (vI x :: st) M Q) : AW mr pc ls (vL x :: st) M Q := fun P hP => hP.2.2.2.2.2.2.2.2.2.2.2.2.2.2.2.2.2.2.2.2.2.2.2.2.2.2.1 mr pc ls st M Q x e0 (k0 P hP)
theorem AW.ladd {mr : MR} {pc : Nat} {ls : Ls} {st : List AV} {M : Mem} {Q : Po} {x y : Int} (e0 : decode (mrB mr) pc = .ok (.ladd, 1)) (k0 : AW mr (pc + 1) ls (vL (x + y) :: st) M Q) : AW mr pc ls (vL y :: vL x :: st) M Q := fun P hP => hP.2.2.2.2.2.2.2.2.2.2.2.2.2.2.2.2.2.2.2.2.2.2.2.2.2.2.2.1 mr pc ls st M Q x y e0 (k0 P hP)
theorem AW.lmul {mr : MR} {pc : Nat} {ls : Ls} {st : List AV} {M : Mem} {Q : Po} {x y : Int} (e0 : decode (mrB mr) pc = .ok (.lmul, 1)) (k0 : AW mr (pc + 1) ls (vL (x * y) :: st) M Q) : AW mr pc ls (vL y :: vL x :: st) M Q := fun P hP => hP.2.2.2.2.2.2.2.2.2.2.2.2.2.2.2.2.2.2.2.2.2.2.2.2.2.2.2.2.1 mr pc ls st M Q x y e0 (k0 P hP)
theorem AW.land {mr : MR} {pc : Nat} {ls : Ls} {st : List AV} {M : Mem} {Q : Po} {x y : Int} (e0 : decode (mrB mr) pc = .ok (.land, 1)) (k0 : AW mr (pc + 1) ls (vL (Int64.ofInt x &&& Int64.ofInt y).toInt :: st) M Q) : AW mr pc ls (vL y :: vL x :: st) M Q := fun P hP => hP.2.2.2.2.2.2.2.2.2.2.2.2.2.2.2.2.2.2.2.2.2.2.2.2.2.2.2.2.2.1 mr pc ls st M Q x y e0 (k0 P hP)
theorem AW.lor {mr : MR} {pc : Nat} {ls : Ls} {st : List AV} {M : Mem} {Q : Po} {x y : Int} (e0 : decode (mrB mr) pc = .ok (.lor, 1)) (k0 : AW mr (pc + 1) ls (vL (Int64.ofInt x ||| Int64.ofInt y).toInt :: st) M Q) : AW mr pc ls (vL y :: vL x :: st) M Q := fun P hP => hP.2.2.2.2.2.2.2.2.2.2.2.2.2.2.2.2.2.2.2.2.2.2.2.2.2.2.2.2.2.2.1 mr pc ls st M Q x y e0 (k0 P hP)
theorem AW.lshl {mr : MR} {pc : Nat} {ls : Ls} {st : List AV} {M : Mem} {Q : Po} {x y : Int} (e0 : decode (mrB mr) pc = .ok (.lshl, 1)) (k0 : AW mr (pc + 1) ls (vL (Int64.ofInt x <<< ((Int32.ofInt y).toInt64 &&& 63)).toInt :: st) M Q) : AW mr pc ls (vI y :: vL x :: st) M Q := fun P hP => hP.2.2.2.2.2.2.2.2.2.2.2.2.2.2.2.2.2.2.2.2.2.2.2.2.2.2.2.2.2.2.2.1 mr pc ls st M Q x y e0 (k0 P hP)
theorem AW.lcmp {mr : MR} {pc : Nat} {ls : Ls} {st : List AV} {M : Mem} {Q : Po} {x y : Int} (e0 : decode (mrB mr) pc = .ok (.lcmp, 1)) (e1 : InR8 x) (e2 : InR8 y) (k0 : AW mr (pc + 1) ls (vI (if x > y then 1 else if x = y then 0 else -1) :: st) M Q) : AW mr pc ls (vL y :: vL x :: st) M Q := fun P hP => hP.2.2.2.2.2.2.2.2.2.2.2.2.2.2.2.2.2.2.2.2.2.2.2.2.2.2.2.2.2.2.2.2.1 mr pc ls st M Q x y e0 e1 e2 (k0 P hP)
theorem AW.dup {mr : MR} {pc : Nat} {ls : Ls} {st : List AV} {M : Mem} {Q : Po} {v : AV} (e0 : decode (mrB mr) pc = .ok (.dup, 1)) (e1 : cat1 v = true) (k0 : AW mr (pc + 1) ls (v :: v :: st) M Q) : AW mr pc ls (v :: st) M Q := fun P hP => hP.2.2.2.2.2.2.2.2.2.2.2.2.2.2.2.2.2.2.2.2.2.2.2.2.2.2.2.2.2.2.2.2.2.1 mr pc ls st M Q v e0 e1 (k0 P hP)
theorem AW.dup2 {mr : MR} {pc : Nat} {ls : Ls} {st : List AV} {M : Mem} {Q : Po} {v w : AV} (e0 : decode (mrB mr) pc = .ok (.dup2, 1)) (e1 : cat1 v = true) (e2 : cat1 w = true) (k0 : AW mr (pc + 1) ls (v :: w :: v :: w :: st) M Q) : AW mr pc ls (v :: w :: st) M Q := fun P hP => hP.2.2.2.2.2.2.2.2.2.2.2.2.2.2.2.2.2.2.2.2.2.2.2.2.2.2.2.2.2.2.2.2.2.2.1 mr pc ls st M Q v w e0 e1 e2 (k0 P hP)
theorem AW.getR {mr : MR} {pc : Nat} {ls : Ls} {st : List AV} {M : Mem} {Q : Po} {h ix ci k h2 : Nat} {fs : List (Option Nat)} (e0 : decode (mrB mr) pc = .ok (.getfield ix, 3)) (e1 : FldG (mrC mr) ix ci k) (e2 : kd h = (3, ci, fs)) (e3 : h < nH) (e4 : fs[k]? = some (some h2)) (k0 : AW mr (pc + 3) ls (vR h2 :: st) M Q) : AW mr pc ls (vR h :: st) M Q := fun P hP => hP.2.2.2.2.2.2.2.2.2.2.2.2.2.2.2.2.2.2.2.2.2.2.2.2.2.2.2.2.2.2.2.2.2.2.2.1 mr pc ls st M Q h ix ci k h2 fs e0 e1 e2 e3 e4 (k0 P hP)
theorem AW.getI {mr : MR} {pc : Nat} {ls : Ls} {st : List AV} {M : Mem} {Q : Po} {h ix ci k : Nat} {fs : List (Option Nat)} (e0 : decode (mrB mr) pc = .ok (.getfield ix, 3)) (e1 : FldG (mrC mr) ix ci k) (e2 : kd h = (3, ci, fs)) (e3 : h < nH) (e4 : fs[k]? = some none) (k0 : AW mr (pc + 3) ls (vI (M h k) :: st) M Q) : AW mr pc ls (vR h :: st) M Q := fun P hP => hP.2.2.2.2.2.2.2.2.2.2.2.2.2.2.2.2.2.2.2.2.2.2.2.2.2.2.2.2.2.2.2.2.2.2.2.2.1 mr pc ls st M Q h ix ci k fs e0 e1 e2 e3 e4 (k0 P hP)
theorem AW.put {mr : MR} {pc : Nat} {ls : Ls} {st : List AV} {M : Mem} {Q : Po} {h ix ci k : Nat} {fs : List (Option Nat)} {x : Int} (e0 : decode (mrB mr) pc = .ok (.putfield ix, 3)) (e1 : FldP (mrC mr) ix ci k) (e2 : kd h = (3, ci, fs)) (e3 : h < nH) (e4 : fs[k]? = some none) (k0 : AW mr (pc + 3) ls st (up M h k x) Q) : AW mr pc ls (vI x :: vR h :: st) M Q := fun P hP => hP.2.2.2.2.2.2.2.2.2.2.2.2.2.2.2.2.2.2.2.2.2.2.2.2.2.2.2.2.2.2.2.2.2.2.2.2.2.1 mr pc ls st M Q h ix ci k fs x e0 e1 e2 e3 e4 (k0 P hP)
theorem AW.iald {mr : MR} {pc : Nat} {ls : Ls} {st : List AV} {M : Mem} {Q : Po} {h n : Nat} {i : Int} (e0 : decode (mrB mr) pc = .ok (.iaload, 1)) (e1 : kd h = (0, n, [])) (e2 : h < nH) (e3 : 0 ≤ i ∧ i < n) (k0 : AW mr (pc + 1) ls (vI (M h i) :: st) M Q) : AW mr pc ls (vI i :: vR h :: st) M Q := fun P hP => hP.2.2.2.2.2.2.2.2.2.2.2.2.2.2.2.2.2.2.2.2.2.2.2.2.2.2.2.2.2.2.2.2.2.2.2.2.2.2.1 mr pc ls st M Q h n i e0 e1 e2 e3 (k0 P hP)
theorem AW.zald {mr : MR} {pc : Nat} {ls : Ls} {st : List AV} {M : Mem} {Q : Po} {h n : Nat} {i : Int} (e0 : decode (mrB mr) pc = .ok (.baload, 1)) (e1 : kd h = (1, n, [])) (e2 : h < nH) (e3 : 0 ≤ i ∧ i < n) (k0 : AW mr (pc + 1) ls (vI (M h i) :: st) M Q) : AW mr pc ls (vI i :: vR h :: st) M Q := fun P hP => hP.2.2.2.2.2.2.2.2.2.2.2.2.2.2.2.2.2.2.2.2.2.2.2.2.2.2.2.2.2.2.2.2.2.2.2.2.2.2.2.1 mr pc ls st M Q h n i e0 e1 e2 e3 (k0 P hP)
theorem AW.lald {mr : MR} {pc : Nat} {ls : Ls} {st : List AV} {M : Mem} {Q : Po} {h n : Nat} {i : Int} (e0 : decode (mrB mr) pc = .ok (.laload, 1)) (e1 : kd h = (2, n, [])) (e2 : h < nH) (e3 : 0 ≤ i ∧ i < n) (k0 : AW mr (pc + 1) ls (vL (M h i) :: st) M Q) : AW mr pc ls (vI i :: vR h :: st) M Q := fun P hP => hP.2.2.2.2.2.2.2.2.2.2.2.2.2.2.2.2.2.2.2.2.2.2.2.2.2.2.2.2.2.2.2.2.2.2.2.2.2.2.2.2.1 mr pc ls st M Q h n i e0 e1 e2 e3 (k0 P hP)
theorem AW.iast {mr : MR} {pc : Nat} {ls : Ls} {st : List AV} {M : Mem} {Q : Po} {h n : Nat} {i x : Int} (e0 : decode (mrB mr) pc = .ok (.iastore, 1)) (e1 : kd h = (0, n, [])) (e2 : h < nH) (e3 : 0 ≤ i ∧ i < n) (k0 : AW mr (pc + 1) ls st (up M h i x) Q) : AW mr pc ls (vI x :: vI i :: vR h :: st) M Q := fun P hP => hP.2.2.2.2.2.2.2.2.2.2.2.2.2.2.2.2.2.2.2.2.2.2.2.2.2.2.2.2.2.2.2.2.2.2.2.2.2.2.2.2.2.1 mr pc ls st M Q h n i x e0 e1 e2 e3 (k0 P hP)
theorem AW.zast {mr : MR} {pc : Nat} {ls : Ls} {st : List AV} {M : Mem} {Q : Po} {h n : Nat} {i x : Int} (e0 : decode (mrB mr) pc = .ok (.bastore, 1)) (e1 : kd h = (1, n, [])) (e2 : h < nH) (e3 : 0 ≤ i ∧ i < n) (e4 : x = 0 ∨ x = 1) (k0 : AW mr (pc + 1) ls st (up M h i x) Q) : AW mr pc ls (vI x :: vI i :: vR h :: st) M Q := fun P hP => hP.2.2.2.2.2.2.2.2.2.2.2.2.2.2.2.2.2.2.2.2.2.2.2.2.2.2.2.2.2.2.2.2.2.2.2.2.2.2.2.2.2.2.1 mr pc ls st M Q h n i x e0 e1 e2 e3 e4 (k0 P hP)
theorem AW.last {mr : MR} {pc : Nat} {ls : Ls} {st : List AV} {M : Mem} {Q : Po} {h n : Nat} {i x : Int} (e0 : decode (mrB mr) pc = .ok (.lastore, 1)) (e1 : kd h = (2, n, [])) (e2 : h < nH) (e3 : 0 ≤ i ∧ i < n) (k0 : AW mr (pc + 1) ls st (up M h i x) Q) : AW mr pc ls (vL x :: vI i :: vR h :: st) M Q := fun P hP => hP.2.2.2.2.2.2.2.2.2.2.2.2.2.2.2.2.2.2.2.2.2.2.2.2.2.2.2.2.2.2.2.2.2.2.2.2.2.2.2.2.2.2.2.1 mr pc ls st M Q h n i x e0 e1 e2 e3 (k0 P hP)
theorem AW.alen {mr : MR} {pc : Nat} {ls : Ls} {st : List AV} {M : Mem} {Q : Po} {h t n : Nat} (e0 : decode (mrB mr) pc = .ok (.arraylength, 1)) (e1 : kd h = (t, n, [])) (e2 : t < 3) (e3 : h < nH) (k0 : AW mr (pc + 1) ls (vI n :: st) M Q) : AW mr pc ls (vR h :: st) M Q := fun P hP => hP.2.2.2.2.2.2.2.2.2.2.2.2.2.2.2.2.2.2.2.2.2.2.2.2.2.2.2.2.2.2.2.2.2.2.2.2.2.2.2.2.2.2.2.2.1 mr pc ls st M Q h t n e0 e1 e2 e3 (k0 P hP)
theorem AW.sald {mr : MR} {pc : Nat} {ls : Ls} {st : List AV} {M : Mem} {Q : Po} {i : Int} (e0 : decode (mrB mr) pc = .ok (.iaload, 1)) (e1 : mrC mr = 13) (e2 : 0 ≤ i ∧ i < mrS mr) (k0 : AW mr (pc + 1) ls (vI (mrX mr i.toNat) :: st) M Q) : AW mr pc ls (vI i :: vR nH :: st) M Q := fun P hP => hP.2.2.2.2.2.2.2.2.2.2.2.2.2.2.2.2.2.2.2.2.2.2.2.2.2.2.2.2.2.2.2.2.2.2.2.2.2.2.2.2.2.2.2.2.2.1 mr pc ls st M Q i e0 e1 e2 (k0 P hP)
theorem AW.slen {mr : MR} {pc : Nat} {ls : Ls} {st : List AV} {M : Mem} {Q : Po}  (e0 : decode (mrB mr) pc = .ok (.arraylength, 1)) (e1 : mrC mr = 13) (k0 : AW mr (pc + 1) ls (vI (mrS mr) :: st) M Q) : AW mr pc ls (vR nH :: st) M Q := fun P hP => hP.2.2.2.2.2.2.2.2.2.2.2.2.2.2.2.2.2.2.2.2.2.2.2.2.2.2.2.2.2.2.2.2.2.2.2.2.2.2.2.2.2.2.2.2.2.2.1 mr pc ls st M Q  e0 e1 (k0 P hP)
theorem AW.if_eq {mr : MR} {pc : Nat} {ls : Ls} {st : List AV} {M : Mem} {Q : Po} {x off : Int} {tgt : Nat} (e0 : decode (mrB mr) pc = .ok (.ifCond .eq off, 3)) (e1 : (pc : Int) + off = (tgt : Int)) (e2 : InR x) (k0 : x = 0 → AW mr tgt ls st M Q) (k1 : ¬ (x = 0) → AW mr (pc + 3) ls st M Q) : AW mr pc ls (vI x :: st) M Q := fun P hP => hP.2.2.2.2.2.2.2.2.2.2.2.2.2.2.2.2.2.2.2.2.2.2.2.2.2.2.2.2.2.2.2.2.2.2.2.2.2.2.2.2.2.2.2.2.2.2.2.1 mr pc ls st M Q x off tgt e0 e1 e2 (fun hc => k0 hc P hP) (fun hc => k1 hc P hP)
theorem AW.icmp_eq {mr : MR} {pc : Nat} {ls : Ls} {st : List AV} {M : Mem} {Q : Po} {x y off : Int} {tgt : Nat} (e0 : decode (mrB mr) pc = .ok (.if_icmp .eq off, 3)) (e1 : (pc : Int) + off = (tgt : Int)) (e2 : InR x) (e3 : InR y) (k0 : x = y → AW mr tgt ls st M Q) (k1 : ¬ (x = y) → AW mr (pc + 3) ls st M Q) : AW mr pc ls (vI y :: vI x :: st) M Q := fun P hP => hP.2.2.2.2.2.2.2.2.2.2.2.2.2.2.2.2.2.2.2.2.2.2.2.2.2.2.2.2.2.2.2.2.2.2.2.2.2.2.2.2.2.2.2.2.2.2.2.2.1 mr pc ls st M Q x y off tgt e0 e1 e2 e3 (fun hc => k0 hc P hP) (fun hc => k1 hc P hP)
theorem AW.if_ne {mr : MR} {pc : Nat} {ls : Ls} {st : List AV} {M : Mem} {Q : Po} {x off : Int} {tgt : Nat} (e0 : decode (mrB mr) pc = .ok (.ifCond .ne off, 3)) (e1 : (pc : Int) + off = (tgt : Int)) (e2 : InR x) (k0 : x ≠ 0 → AW mr tgt ls st M Q) (k1 : ¬ (x ≠ 0) → AW mr (pc + 3) ls st M Q) : AW mr pc ls (vI x :: st) M Q := fun P hP => hP.2.2.2.2.2.2.2.2.2.2.2.2.2.2.2.2.2.2.2.2.2.2.2.2.2.2.2.2.2.2.2.2.2.2.2.2.2.2.2.2.2.2.2.2.2.2.2.2.2.1 mr pc ls st M Q x off tgt e0 e1 e2 (fun hc => k0 hc P hP) (fun hc => k1 hc P hP)
theorem AW.icmp_ne {mr : MR} {pc : Nat} {ls : Ls} {st : List AV} {M : Mem} {Q : Po} {x y off : Int} {tgt : Nat} (e0 : decode (mrB mr) pc = .ok (.if_icmp .ne off, 3)) (e1 : (pc : Int) + off = (tgt : Int)) (e2 : InR x) (e3 : InR y) (k0 : x ≠ y → AW mr tgt ls st M Q) (k1 : ¬ (x ≠ y) → AW mr (pc + 3) ls st M Q) : AW mr pc ls (vI y :: vI x :: st) M Q := fun P hP => hP.2.2.2.2.2.2.2.2.2.2.2.2.2.2.2.2.2.2.2.2.2.2.2.2.2.2.2.2.2.2.2.2.2.2.2.2.2.2.2.2.2.2.2.2.2.2.2.2.2.2.1 mr pc ls st M Q x y off tgt e0 e1 e2 e3 (fun hc => k0 hc P hP) (fun hc => k1 hc P hP)
theorem AW.if_lt {mr : MR} {pc : Nat} {ls : Ls} {st : List AV} {M : Mem} {Q : Po} {x off : Int} {tgt : Nat} (e0 : decode (mrB mr) pc = .ok (.ifCond .lt off, 3)) (e1 : (pc : Int) + off = (tgt : Int)) (e2 : InR x) (k0 : x < 0 → AW mr tgt ls st M Q) (k1 : ¬ (x < 0) → AW mr (pc + 3) ls st M Q) : AW mr pc ls (vI x :: st) M Q := fun P hP => hP.2.2.2.2.2.2.2.2.2.2.2.2.2.2.2.2.2.2.2.2.2.2.2.2.2.2.2.2.2.2.2.2.2.2.2.2.2.2.2.2.2.2.2.2.2.2.2.2.2.2.2.1 mr pc ls st M Q x off tgt e0 e1 e2 (fun hc => k0 hc P hP) (fun hc => k1 hc P hP)
theorem AW.icmp_lt {mr : MR} {pc : Nat} {ls : Ls} {st : List AV} {M : Mem} {Q : Po} {x y off : Int} {tgt : Nat} (e0 : decode (mrB mr) pc = .ok (.if_icmp .lt off, 3)) (e1 : (pc : Int) + off = (tgt : Int)) (e2 : InR x) (e3 : InR y) (k0 : x < y → AW mr tgt ls st M Q) (k1 : ¬ (x < y) → AW mr (pc + 3) ls st M Q) : AW mr pc ls (vI y :: vI x :: st) M Q := fun P hP => hP.2.2.2.2.2.2.2.2.2.2.2.2.2.2.2.2.2.2.2.2.2.2.2.2.2.2.2.2.2.2.2.2.2.2.2.2.2.2.2.2.2.2.2.2.2.2.2.2.2.2.2.2.1 mr pc ls st M Q x y off tgt e0 e1 e2 e3 (fun hc => k0 hc P hP) (fun hc => k1 hc P hP)
theorem AW.if_ge {mr : MR} {pc : Nat} {ls : Ls} {st : List AV} {M : Mem} {Q : Po} {x off : Int} {tgt : Nat} (e0 : decode (mrB mr) pc = .ok (.ifCond .ge off, 3)) (e1 : (pc : Int) + off = (tgt : Int)) (e2 : InR x) (k0 : x ≥ 0 → AW mr tgt ls st M Q) (k1 : ¬ (x ≥ 0) → AW mr (pc + 3) ls st M Q) : AW mr pc ls (vI x :: st) M Q := fun P hP => hP.2.2.2.2.2.2.2.2.2.2.2.2.2.2.2.2.2.2.2.2.2.2.2.2.2.2.2.2.2.2.2.2.2.2.2.2.2.2.2.2.2.2.2.2.2.2.2.2.2.2.2.2.2.1 mr pc ls st M Q x off tgt e0 e1 e2 (fun hc => k0 hc P hP) (fun hc => k1 hc P hP)
theorem AW.icmp_ge {mr : MR} {pc : Nat} {ls : Ls} {st : List AV} {M : Mem} {Q : Po} {x y off : Int} {tgt : Nat} (e0 : decode (mrB mr) pc = .ok (.if_icmp .ge off, 3)) (e1 : (pc : Int) + off = (tgt : Int)) (e2 : InR x) (e3 : InR y) (k0 : x ≥ y → AW mr tgt ls st M Q) (k1 : ¬ (x ≥ y) → AW mr (pc + 3) ls st M Q) : AW mr pc ls (vI y :: vI x :: st) M Q := fun P hP => hP.2.2.2.2.2.2.2.2.2.2.2.2.2.2.2.2.2.2.2.2.2.2.2.2.2.2.2.2.2.2.2.2.2.2.2.2.2.2.2.2.2.2.2.2.2.2.2.2.2.2.2.2.2.2.1 mr pc ls st M Q x y off tgt e0 e1 e2 e3 (fun hc => k0 hc P hP) (fun hc => k1 hc P hP)
theorem AW.if_gt {mr : MR} {pc : Nat} {ls : Ls} {st : List AV} {M : Mem} {Q : Po} {x off : Int} {tgt : Nat} (e0 : decode (mrB mr) pc = .ok (.ifCond .gt off, 3)) (e1 : (pc : Int) + off = (tgt : Int)) (e2 : InR x) (k0 : x > 0 → AW mr tgt ls st M Q) (k1 : ¬ (x > 0) → AW mr (pc + 3) ls st M Q) : AW mr pc ls (vI x :: st) M Q := fun P hP => hP.2.2.2.2.2.2.2.2.2.2.2.2.2.2.2.2.2.2.2.2.2.2.2.2.2.2.2.2.2.2.2.2.2.2.2.2.2.2.2.2.2.2.2.2.2.2.2.2.2.2.2.2.2.2.2.1 mr pc ls st M Q x off tgt e0 e1 e2 (fun hc => k0 hc P hP) (fun hc => k1 hc P hP)
theorem AW.icmp_gt {mr : MR} {pc : Nat} {ls : Ls} {st : List AV} {M : Mem} {Q : Po} {x y off : Int} {tgt : Nat} (e0 : decode (mrB mr) pc = .ok (.if_icmp .gt off, 3)) (e1 : (pc : Int) + off = (tgt : Int)) (e2 : InR x) (e3 : InR y) (k0 : x > y → AW mr tgt ls st M Q) (k1 : ¬ (x > y) → AW mr (pc + 3) ls st M Q) : AW mr pc ls (vI y :: vI x :: st) M Q := fun P hP => hP.2.2.2.2.2.2.2.2.2.2.2.2.2.2.2.2.2.2.2.2.2.2.2.2.2.2.2.2.2.2.2.2.2.2.2.2.2.2.2.2.2.2.2.2.2.2.2.2.2.2.2.2.2.2.2.2.1 mr pc ls st M Q x y off tgt e0 e1 e2 e3 (fun hc => k0 hc P hP) (fun hc => k1 hc P hP)
theorem AW.if_le {mr : MR} {pc : Nat} {ls : Ls} {st : List AV} {M : Mem} {Q : Po} {x off : Int} {tgt : Nat} (e0 : decode (mrB mr) pc = .ok (.ifCond .le off, 3)) (e1 : (pc : Int) + off = (tgt : Int)) (e2 : InR x) (k0 : x ≤ 0 → AW mr tgt ls st M Q) (k1 : ¬ (x ≤ 0) → AW mr (pc + 3) ls st M Q) : AW mr pc ls (vI x :: st) M Q := fun P hP => hP.2.2.2.2.2.2.2.2.2.2.2.2.2.2.2.2.2.2.2.2.2.2.2.2.2.2.2.2.2.2.2.2.2.2.2.2.2.2.2.2.2.2.2.2.2.2.2.2.2.2.2.2.2.2.2.2.2.1 mr pc ls st M Q x off tgt e0 e1 e2 (fun hc => k0 hc P hP) (fun hc => k1 hc P hP)
theorem AW.icmp_le {mr : MR} {pc : Nat} {ls : Ls} {st : List AV} {M : Mem} {Q : Po} {x y off : Int} {tgt : Nat} (e0 : decode (mrB mr) pc = .ok (.if_icmp .le off, 3)) (e1 : (pc : Int) + off = (tgt : Int)) (e2 : InR x) (e3 : InR y) (k0 : x ≤ y → AW mr tgt ls st M Q) (k1 : ¬ (x ≤ y) → AW mr (pc + 3) ls st M Q) : AW mr pc ls (vI y :: vI x :: st) M Q := fun P hP => hP.2.2.2.2.2.2.2.2.2.2.2.2.2.2.2.2.2.2.2.2.2.2.2.2.2.2.2.2.2.2.2.2.2.2.2.2.2.2.2.2.2.2.2.2.2.2.2.2.2.2.2.2.2.2.2.2.2.2.1 mr pc ls st M Q x y off tgt e0 e1 e2 e3 (fun hc => k0 hc P hP) (fun hc => k1 hc P hP)
theorem AW.goto {mr : MR} {pc : Nat} {ls : Ls} {st : List AV} {M : Mem} {Q : Po} {off : Int} {tgt : Nat} (e0 : decode (mrB mr) pc = .ok (.goto off, 3)) (e1 : (pc : Int) + off = (tgt : Int)) (k0 : AW mr tgt ls st M Q) : AW mr pc ls st M Q := fun P hP => hP.2.2.2.2.2.2.2.2.2.2.2.2.2.2.2.2.2.2.2.2.2.2.2.2.2.2.2.2.2.2.2.2.2.2.2.2.2.2.2.2.2.2.2.2.2.2.2.2.2.2.2.2.2.2.2.2.2.2.2.1 mr pc ls st M Q off tgt e0 e1 (k0 P hP)
theorem AW.tblO {mr : MR} {pc : Nat} {ls : Ls} {st : List AV} {M : Mem} {Q : Po} {x dflt lo hi : Int} {offs : Array Int} {len tgt : Nat} (e0 : decode (mrB mr) pc = .ok (.tableswitch dflt lo hi offs, len)) (e1 : InR x) (e2 : x < lo ∨ hi < x) (e3 : (pc : Int) + dflt = (tgt : Int)) (k0 : AW mr tgt ls st M Q) : AW mr pc ls (vI x :: st) M Q := fun P hP => hP.2.2.2.2.2.2.2.2.2.2.2.2.2.2.2.2.2.2.2.2.2.2.2.2.2.2.2.2.2.2.2.2.2.2.2.2.2.2.2.2.2.2.2.2.2.2.2.2.2.2.2.2.2.2.2.2.2.2.2.2.1 mr pc ls st M Q x dflt lo hi offs len tgt e0 e1 e2 e3 (k0 P hP)
theorem AW.tblI {mr : MR} {pc : Nat} {ls : Ls} {st : List AV} {M : Mem} {Q : Po} {x dflt lo hi off : Int} {offs : Array Int} {len tgt : Nat} (e0 : decode (mrB mr) pc = .ok (.tableswitch dflt lo hi offs, len)) (e1 : InR x) (e2 : ¬ x < lo) (e3 : ¬ hi < x) (e4 : offs[(x - lo).toNat]? = some off) (e5 : (pc : Int) + off = (tgt : Int)) (k0 : AW mr tgt ls st M Q) : AW mr pc ls (vI x :: st) M Q := fun P hP => hP.2.2.2.2.2.2.2.2.2.2.2.2.2.2.2.2.2.2.2.2.2.2.2.2.2.2.2.2.2.2.2.2.2.2.2.2.2.2.2.2.2.2.2.2.2.2.2.2.2.2.2.2.2.2.2.2.2.2.2.2.2.1 mr pc ls st M Q x dflt lo hi off offs len tgt e0 e1 e2 e3 e4 e5 (k0 P hP)
theorem AW.vret {mr : MR} {pc : Nat} {ls : Ls} {st : List AV} {M : Mem} {Q : Po}  (e0 : decode (mrB mr) pc = .ok (.return_, 1)) (e1 : mrT mr = none) (e2 : Q none M)  : AW mr pc ls [] M Q := fun P hP => hP.2.2.2.2.2.2.2.2.2.2.2.2.2.2.2.2.2.2.2.2.2.2.2.2.2.2.2.2.2.2.2.2.2.2.2.2.2.2.2.2.2.2.2.2.2.2.2.2.2.2.2.2.2.2.2.2.2.2.2.2.2.2.1 mr pc ls st M Q  e0 e1 e2 
theorem AW.iret {mr : MR} {pc : Nat} {ls : Ls} {st : List AV} {M : Mem} {Q : Po} {x : Int} (e0 : decode (mrB mr) pc = .ok (.ireturn, 1)) (e1 : mrT mr = some .int) (e2 : Q (some (vI x)) M)  : AW mr pc ls [vI x] M Q := fun P hP => hP.2.2.2.2.2.2.2.2.2.2.2.2.2.2.2.2.2.2.2.2.2.2.2.2.2.2.2.2.2.2.2.2.2.2.2.2.2.2.2.2.2.2.2.2.2.2.2.2.2.2.2.2.2.2.2.2.2.2.2.2.2.2.2.1 mr pc ls st M Q x e0 e1 e2 
theorem AW.zret {mr : MR} {pc : Nat} {ls : Ls} {st : List AV} {M : Mem} {Q : Po} {x : Int} (e0 : decode (mrB mr) pc = .ok (.ireturn, 1)) (e1 : mrT mr = some .boolean) (e2 : x = 0 ∨ x = 1) (e3 : Q (some (vI x)) M)  : AW mr pc ls [vI x] M Q := fun P hP => hP.2.2.2.2.2.2.2.2.2.2.2.2.2.2.2.2.2.2.2.2.2.2.2.2.2.2.2.2.2.2.2.2.2.2.2.2.2.2.2.2.2.2.2.2.2.2.2.2.2.2.2.2.2.2.2.2.2.2.2.2.2.2.2.2.1 mr pc ls st M Q x e0 e1 e2 e3 
theorem AW.callV {mr : MR} {pc : Nat} {ls : Ls} {st : List AV} {M : Mem} {Q : Po} {h : Nat} {fs : List (Option Nat)} {cm : MR} {ix : Nat} {As : List AV} {Q1 : Po} (e0 : decode (mrB mr) pc = .ok (.invokevirtual ix, 3)) (e1 : CallV (mrC mr) ix cm As.length) (e2 : kd h = (3, mrC cm, fs)) (e3 : h < nH) (e4 : mrF cm + 1 ≤ mrF mr ∧ 8 + (mrN cm + 11) + mrL cm ≤ mrL mr) (e5 : (entS (vR h :: As)).length ≤ mrN cm) (e6 : wt st ≤ 8) (k1 : AW cm 0 (entL (vR h :: As) (mrN cm)) [] M Q1) (k2 : ∀ (r : Option AV) (M1 : Mem), Q1 r M1 → AW mr (pc + 3) ls (r.toList ++ st) M1 Q) : AW mr pc ls (As.reverse ++ vR h :: st) M Q := fun P hP => hP.2.2.2.2.2.2.2.2.2.2.2.2.2.2.2.2.2.2.2.2.2.2.2.2.2.2.2.2.2.2.2.2.2.2.2.2.2.2.2.2.2.2.2.2.2.2.2.2.2.2.2.2.2.2.2.2.2.2.2.2.2.2.2.2.2.1 mr pc ls st M Q h fs cm ix As Q1 e0 e1 e2 e3 e4 e5 e6 (k1 P hP) (fun r M1 hq => k2 r M1 hq P hP)
theorem AW.callS {mr : MR} {pc : Nat} {ls : Ls} {st : List AV} {M : Mem} {Q : Po} {cm : MR} {ix : Nat} {As : List AV} {Q1 : Po} (e0 : decode (mrB mr) pc = .ok (.invokestatic ix, 3)) (e1 : CallS (mrC mr) ix cm As.length) (e2 : mrF cm + 1 ≤ mrF mr ∧ 8 + (mrN cm + 11) + mrL cm ≤ mrL mr) (e3 : (entS As).length ≤ mrN cm) (e4 : wt st ≤ 8) (k1 : AW cm 0 (entL As (mrN cm)) [] M Q1) (k2 : ∀ (r : Option AV) (M1 : Mem), Q1 r M1 → AW mr (pc + 3) ls (r.toList ++ st) M1 Q) : AW mr pc ls (As.reverse ++ st) M Q := fun P hP => hP.2.2.2.2.2.2.2.2.2.2.2.2.2.2.2.2.2.2.2.2.2.2.2.2.2.2.2.2.2.2.2.2.2.2.2.2.2.2.2.2.2.2.2.2.2.2.2.2.2.2.2.2.2.2.2.2.2.2.2.2.2.2.2.2.2.2.1 mr pc ls st M Q cm ix As Q1 e0 e1 e2 e3 e4 (k1 P hP) (fun r M1 hq => k2 r M1 hq P hP)
theorem AW.callN {mr : MR} {pc : Nat} {ls : Ls} {st : List AV} {M : Mem} {Q : Po} {cm : MR} {ix : Nat} {As : List AV} {Q1 : Po} (e0 : decode (mrB mr) pc = .ok (.invokestatic ix, 3)) (e1 : CallN (mrC mr) ix cm As.length) (e2 : mrF cm + 1 ≤ mrF mr ∧ 8 + (mrN cm + 11) + mrL cm ≤ mrL mr) (e3 : (entS As).length ≤ mrN cm) (e4 : wt st ≤ 8) (k1 : AW cm 0 (entL As (mrN cm)) [] M Q1) (k2 : ∀ (r : Option AV) (M1 : Mem), Q1 r M1 → AW mr (pc + 3) ls (r.toList ++ st) M1 Q) : AW mr pc ls (As.reverse ++ st) M Q := fun P hP => hP.2.2.2.2.2.2.2.2.2.2.2.2.2.2.2.2.2.2.2.2.2.2.2.2.2.2.2.2.2.2.2.2.2.2.2.2.2.2.2.2.2.2.2.2.2.2.2.2.2.2.2.2.2.2.2.2.2.2.2.2.2.2.2.2.2.2.2.1 mr pc ls st M Q cm ix As Q1 e0 e1 e2 e3 e4 (k1 P hP) (fun r M1 hq => k2 r M1 hq P hP)
theorem AW.callF {mr : MR} {pc : Nat} {ls : Ls} {st : List AV} {M : Mem} {Q : Po} {h ct : Nat} {fs : List (Option Nat)} {cm : MR} {ix : Nat} {As : List AV} {Q1 : Po} (e0 : decode (mrB mr) pc = .ok (.invokeinterface ix ct, 5)) (e1 : CallF (mrC mr) ix cm As.length) (e2 : kd h = (3, mrC cm, fs)) (e3 : h < nH) (e4 : mrF cm + 1 ≤ mrF mr ∧ 8 + (mrN cm + 11) + mrL cm ≤ mrL mr) (e5 : (entS (vR h :: As)).length ≤ mrN cm) (e6 : wt st ≤ 8) (k1 : AW cm 0 (entL (vR h :: As) (mrN cm)) [] M Q1) (k2 : ∀ (r : Option AV) (M1 : Mem), Q1 r M1 → AW mr (pc + 5) ls (r.toList ++ st) M1 Q) : AW mr pc ls (As.reverse ++ vR h :: st) M Q := fun P hP => hP.2.2.2.2.2.2.2.2.2.2.2.2.2.2.2.2.2.2.2.2.2.2.2.2.2.2.2.2.2.2.2.2.2.2.2.2.2.2.2.2.2.2.2.2.2.2.2.2.2.2.2.2.2.2.2.2.2.2.2.2.2.2.2.2.2.2.2.2.1 mr pc ls st M Q h ct fs cm ix As Q1 e0 e1 e2 e3 e4 e5 e6 (k1 P hP) (fun r M1 hq => k2 r M1 hq P hP)
theorem AW.copy {mr : MR} {pc : Nat} {ls : Ls} {st : List AV} {M : Mem} {Q : Po} {ix h0 h1 n0 n1 : Nat} {sp dp n : Int} (e0 : decode (mrB mr) pc = .ok (.invokestatic ix, 3)) (e1 : Cond.methodLink (cn (mrC mr)) ix arraycopyName ∈ lw_good) (e2 : kd h0 = (0, n0, [])) (e3 : kd h1 = (0, n1, [])) (e4 : h0 < nH) (e5 : h1 < nH) (e6 : 0 ≤ sp ∧ 0 ≤ dp ∧ 0 ≤ n ∧ sp + n ≤ n0 ∧ dp + n ≤ n1) (e7 : 1 ≤ mrF mr) (e8 : 8 + (nativeFrameWords "java/lang/System" "arraycopy" 5 + 11) ≤ mrL mr) (e9 : wt st ≤ 8) (k0 : AW mr (pc + 3) ls st (cpy M h0 h1 sp dp n) Q) : AW mr pc ls (vI n :: vI dp :: vR h1 :: vI sp :: vR h0 :: st) M Q := fun P hP => hP.2.2.2.2.2.2.2.2.2.2.2.2.2.2.2.2.2.2.2.2.2.2.2.2.2.2.2.2.2.2.2.2.2.2.2.2.2.2.2.2.2.2.2.2.2.2.2.2.2.2.2.2.2.2.2.2.2.2.2.2.2.2.2.2.2.2.2.2.2.1 mr pc ls st M Q ix h0 h1 n0 n1 sp dp n e0 e1 e2 e3 e4 e5 e6 e7 e8 e9 (k0 P hP)
theorem AW.mmax {mr : MR} {pc : Nat} {ls : Ls} {st : List AV} {M : Mem} {Q : Po} {ix : Nat} {x y : Int} (e0 : decode (mrB mr) pc = .ok (.invokestatic ix, 3)) (e1 : Cond.methodLink (cn (mrC mr)) ix Lib.Math.max.name ∈ lw_good) (e2 : 1 ≤ mrF mr) (e3 : 8 + 13 ≤ mrL mr) (e4 : wt st ≤ 8) (e5 : InR x) (e6 : InR y) (k0 : AW mr (pc + 3) ls (vI (if x < y then y else x) :: st) M Q) : AW mr pc ls (vI y :: vI x :: st) M Q := fun P hP => hP.2.2.2.2.2.2.2.2.2.2.2.2.2.2.2.2.2.2.2.2.2.2.2.2.2.2.2.2.2.2.2.2.2.2.2.2.2.2.2.2.2.2.2.2.2.2.2.2.2.2.2.2.2.2.2.2.2.2.2.2.2.2.2.2.2.2.2.2.2.2.1 mr pc ls st M Q ix x y e0 e1 e2 e3 e4 e5 e6 (k0 P hP)
theorem AW.mmin {mr : MR} {pc : Nat} {ls : Ls} {st : List AV} {M : Mem} {Q : Po} {ix : Nat} {x y : Int} (e0 : decode (mrB mr) pc = .ok (.invokestatic ix, 3)) (e1 : Cond.methodLink (cn (mrC mr)) ix Lib.Math.min.name ∈ lw_good) (e2 : 1 ≤ mrF mr) (e3 : 8 + 13 ≤ mrL mr) (e4 : wt st ≤ 8) (e5 : InR x) (e6 : InR y) (k0 : AW mr (pc + 3) ls (vI (if y < x then y else x) :: st) M Q) : AW mr pc ls (vI y :: vI x :: st) M Q := fun P hP => hP.2.2.2.2.2.2.2.2.2.2.2.2.2.2.2.2.2.2.2.2.2.2.2.2.2.2.2.2.2.2.2.2.2.2.2.2.2.2.2.2.2.2.2.2.2.2.2.2.2.2.2.2.2.2.2.2.2.2.2.2.2.2.2.2.2.2.2.2.2.2.2.1 mr pc ls st M Q ix x y e0 e1 e2 e3 e4 e5 e6 (k0 P hP)
theorem AW.weak {mr : MR} {pc : Nat} {ls : Ls} {st : List AV} {M : Mem} {Q : Po} {ls2 : Ls} (e0 : lsub ls2 ls) (k0 : AW mr pc ls2 st M Q) : AW mr pc ls st M Q := fun P hP => hP.2.2.2.2.2.2.2.2.2.2.2.2.2.2.2.2.2.2.2.2.2.2.2.2.2.2.2.2.2.2.2.2.2.2.2.2.2.2.2.2.2.2.2.2.2.2.2.2.2.2.2.2.2.2.2.2.2.2.2.2.2.2.2.2.2.2.2.2.2.2.2.2 mr pc ls st M Q ls2 e0 (k0 P hP)
/-- a call whose answer is an int; one that answers nothing -/
def QI (K : Int → Mem → Prop) : Po := fun r M1 => ∃ x : Int, r = some (vI x) ∧ K x M1
def QV (K : Mem → Prop) : Po := fun r M1 => r = none ∧ K M1
def CI (cm : MR) (As : List AV) (M : Mem) (K : Int → Mem → Prop) : Prop := AW cm 0 (entL As (mrN cm)) [] M (QI K)
def CV (cm : MR) (As : List AV) (M : Mem) (K : Mem → Prop) : Prop := AW cm 0 (entL As (mrN cm)) [] M (QV K)
theorem lcm_gt {x y : Int} : (if x > y then (1 : Int) else if x = y then 0 else -1) > 0 ↔ x > y := by repeat' split <;> omega
theorem lcm_le {x y : Int} : (if x > y then (1 : Int) else if x = y then 0 else -1) ≤ 0 ↔ x ≤ y := by repeat' split <;> omega
theorem lcm_ge {x y : Int} : (if x > y then (1 : Int) else if x = y then 0 else -1) ≥ 0 ↔ x ≥ y := by repeat' split <;> omega
theorem lcm_lt {x y : Int} : (if x > y then (1 : Int) else if x = y then 0 else -1) < 0 ↔ x < y := by repeat' split <;> omega
theorem lcm_eq {x y : Int} : (if x > y then (1 : Int) else if x = y then 0 else -1) = 0 ↔ x = y := by repeat' split <;> omega
theorem lcm_ne {x y : Int} : (if x > y then (1 : Int) else if x = y then 0 else -1) ≠ 0 ↔ x ≠ y := by repeat' split <;> omega
theorem lcm_in {x y : Int} : InR (if x > y then (1 : Int) else if x = y then 0 else -1) := by repeat' split <;> omega
