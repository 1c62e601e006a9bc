/-! ===== a method's frame, from its entry to its end (own work) ===== -/
/-- a method: its name, its code, what it answers, its handlers as the class file has them -/
abbrev ev_Im : Type := MethodName × (ByteArray × (Option FieldType × List (Nat × Nat × Nat × Nat)))
def ev_UW : List Cond := lw_tbl.filter goodWord
def ev_cw (x : ev_Im) (n : Nat) : Cond := match x.2.2.2 with
  | [] => .code x.1 x.2.1 n x.2.2.1
  | q :: t => .codeWith x.1 x.2.1 n x.2.2.1 (q :: t)
def ev_wm (x : ev_Im) (n : Nat) : List Cond := ev_cw x n :: ev_UW
def ev_rm (d mc ms : Nat) : Room := { frames := 10 + d, cells := mc, slots := ms, locals := 100 + 70 * d }
section EVE
/-! what an entry of the evaluator's program must be, by what stands in the class file -/
def ev_i_int (cc : ByteArray) (own : String) (Ts : List Cond) (pc nx a : Nat) : Prop :=
  (∃ n, decode cc pc = .ok (.iconst n, 1) ∧ Int32.ofInt n = nI a ∧ nx = pc + 1) ∨ (∃ n, decode cc pc = .ok (.bipush n, 2) ∧ (Int8.ofInt n).toInt32 = nI a ∧ nx = pc + 2) ∨ (∃ n, decode cc pc = .ok (.sipush n, 3) ∧ (Int16.ofInt n).toInt32 = nI a ∧ nx = pc + 3) ∨ (∃ (ix : Nat) (v : Int32), decode cc pc = .ok (.ldc ix, 2) ∧ v = nI a ∧ nx = pc + 2 ∧ Cond.constant own ix v ∈ Ts) ∨ (∃ (ix : Nat) (v : Int32), decode cc pc = .ok (.ldc_w ix, 3) ∧ v = nI a ∧ nx = pc + 3 ∧ Cond.constant own ix v ∈ Ts)
def ev_i_wide (cc : ByteArray) (own : String) (Ts : List Cond) (pc nx a b' : Nat) : Prop :=
  ((∃ n : Fin 2, decode cc pc = .ok (.lconst n, 1) ∧ a = 0 ∧ Int64.ofNat (n : Nat) = lN b' ∧ nx = pc + 1) ∨ (decode cc pc = .ok (.dconst 0, 1) ∧ a = 2 ∧ FP.dconst0 = UInt64.ofNat b' ∧ nx = pc + 1)) ∨ ((decode cc pc = .ok (.fconst 0, 1) ∧ a = 1 ∧ FP.fconst0 = UInt32.ofNat b' ∧ nx = pc + 1) ∨ (∃ (ix : Nat) (v : Int64), decode cc pc = .ok (.ldc2_w ix, 3) ∧ a = 0 ∧ v = lN b' ∧ nx = pc + 3 ∧ Cond.constantLong own ix v ∈ Ts))
def ev_i_if (cc : ByteArray) (pc a b' c' : Nat) (f : Jvm.ClassFile.Cond → Int → Instr) : Prop :=
  ∃ off : Int, ((a = 0 ∧ decode cc pc = .ok (f .eq off, 3) ∧ (pc : Int) + off = (b' : Int) ∧ c' = pc + 3) ∨ (a = 0 ∧ decode cc pc = .ok (f .ne off, 3) ∧ (pc : Int) + off = (c' : Int) ∧ b' = pc + 3)) ∨ ((a = 1 ∧ decode cc pc = .ok (f .lt off, 3) ∧ (pc : Int) + off = (b' : Int) ∧ c' = pc + 3) ∨ (a = 1 ∧ decode cc pc = .ok (f .ge off, 3) ∧ (pc : Int) + off = (c' : Int) ∧ b' = pc + 3)) ∨ ((a = 2 ∧ decode cc pc = .ok (f .gt off, 3) ∧ (pc : Int) + off = (b' : Int) ∧ c' = pc + 3) ∨ (a = 2 ∧ decode cc pc = .ok (f .le off, 3) ∧ (pc : Int) + off = (c' : Int) ∧ b' = pc + 3))
def ev_i_st (cc : ByteArray) (nL pc nx a : Nat) (f : Nat → Instr) (g : Fin 4 → Instr) : Prop :=
  ((decode cc pc = .ok (f a, 2) ∧ nx = pc + 2) ∨ (∃ n : Fin 4, decode cc pc = .ok (g n, 1) ∧ (n : Nat) = a ∧ nx = pc + 1)) ∧ a < nL
def ev_i_ld (cc : ByteArray) (pc nx a : Nat) (f : Nat → Instr) (g : Fin 4 → Instr) : Prop :=
  (decode cc pc = .ok (f a, 2) ∧ nx = pc + 2) ∨ (∃ n : Fin 4, decode cc pc = .ok (g n, 1) ∧ (n : Nat) = a ∧ nx = pc + 1)
def ev_i_bin (cc : ByteArray) (pc nx a : Nat) : Prop :=
  ((a = 0 ∧ decode cc pc = .ok (.imul, 1)) ∨ (a = 1 ∧ decode cc pc = .ok (.iand, 1)) ∨ (a = 2 ∧ decode cc pc = .ok (.ior, 1)) ∨ (a = 3 ∧ decode cc pc = .ok (.ixor, 1)) ∨ (a = 4 ∧ decode cc pc = .ok (.ishl, 1)) ∨ (a = 5 ∧ decode cc pc = .ok (.ishr, 1)) ∨ (a = 6 ∧ decode cc pc = .ok (.iushr, 1))) ∧ nx = pc + 1
def ev_i_acmp (cc : ByteArray) (pc b' c' : Nat) : Prop :=
  ∃ off : Int, (decode cc pc = .ok (.if_acmp .eq off, 3) ∧ (pc : Int) + off = (b' : Int) ∧ c' = pc + 3) ∨ (decode cc pc = .ok (.if_acmp .ne off, 3) ∧ (pc : Int) + off = (c' : Int) ∧ b' = pc + 3)
def ev_i_isnull (cc : ByteArray) (pc b' c' : Nat) : Prop :=
  ∃ off : Int, (decode cc pc = .ok (.ifnull off, 3) ∧ (pc : Int) + off = (b' : Int) ∧ c' = pc + 3) ∨ (decode cc pc = .ok (.ifnonnull off, 3) ∧ (pc : Int) + off = (c' : Int) ∧ b' = pc + 3)
def ev_i_getf (cc : ByteArray) (own : String) (Ts : List Cond) (pc nx a b' : Nat) : Prop :=
  ∃ (index : Nat) (C : String) (T : u_T) (N : Nat), decode cc pc = .ok (.getfield index, 3) ∧ nx = pc + 3 ∧ vwCl[a]? = some (C, T, N) ∧ b' < N ∧ (∀ x ∈ u_ws C T N, x ∈ Ts) ∧ ev_fl_ok own (T b').1 (T b').2.1 (T b').2.2.1 index Ts
def ev_i_putf (cc : ByteArray) (own mn : String) (Ts : List Cond) (pc nx a b' c' : Nat) : Prop :=
  ∃ (index : Nat) (C : String) (T : u_T) (N : Nat) (ty0 : Nat → FieldType), decode cc pc = .ok (.putfield index, 3) ∧ nx = pc + 3 ∧ vwCl[a]? = some (C, T, N) ∧ b' < N ∧ (∀ x ∈ u_ws C T N, x ∈ Ts) ∧ (∀ k, k < N → parseFieldDescriptor (T k).2.2.1 = some (ty0 k)) ∧ (∀ x, x < N → ∀ y, y < N → x ≠ y → (T x).2.1 ≠ (T y).2.1) ∧
      ((c' = 0 ∧ ty0 b' = .int) ∨ (c' = 1 ∧ ty0 b' = .boolean) ∨ (c' = 2 ∧ ((∃ C, ty0 b' = .object C) ∨ ∃ t, ty0 b' = .array t)) ∨ (c' = 3 ∧ ty0 b' = .long)) ∧
      (((T b').2.2.2 = false ∧ ev_fl_ok own (T b').1 (T b').2.1 (T b').2.2.1 index Ts) ∨ ((T b').2.2.2 = true ∧ mn = "<init>" ∧ (T b').1 = own ∧ Cond.fieldLink own index (T b').1 (T b').2.1 (T b').2.2.1 ∈ Ts))
def ev_i_ald (cc : ByteArray) (pc nx a b' : Nat) : Prop :=
  ((a = 20 ∧ b' = 20 ∧ decode cc pc = .ok (.iaload, 1)) ∨ (a = 21 ∧ b' = 22 ∧ decode cc pc = .ok (.baload, 1)) ∨ (a = 23 ∧ b' = 23 ∧ decode cc pc = .ok (.laload, 1)) ∨ (a = 24 ∧ b' = 25 ∧ decode cc pc = .ok (.aaload, 1)) ∨ (a = 26 ∧ b' = 28 ∧ decode cc pc = .ok (.aaload, 1))) ∧ nx = pc + 1
def ev_i_new (cc : ByteArray) (own : String) (Ts : List Cond) (pc nx a b' : Nat) (tg : List Nat) : Prop :=
  ∃ (index : Nat) (C : String) (T : u_T) (N : Nat) (ty0 : Nat → FieldType), decode cc pc = .ok (.new index, 3) ∧ nx = pc + 3 ∧ vwCl[a]? = some (C, T, N) ∧ b' = N ∧ N ≤ 32 ∧ (∀ x ∈ u_ws C T N, x ∈ Ts) ∧ (∀ k, k < N → parseFieldDescriptor (T k).2.2.1 = some (ty0 k)) ∧ (∀ k, k < N → ev_dc (ty0 k) < 3) ∧ tg = (List.range N).map (fun k => ev_dc (ty0 k)) ∧
      Cond.classLink own index C ∈ Ts ∧ Cond.instantiable C N ∈ Ts ∧ Cond.initialized C ∈ Ts
def ev_i_newa (cc : ByteArray) (own : String) (Ts : List Cond) (pc nx a b' : Nat) : Prop :=
  (∃ at9 : ArrayType, decode cc pc = .ok (.newarray at9, 2) ∧ nx = pc + 2 ∧ newarray.typeOf at9 = ev_ty a ∧ 20 ≤ a ∧ a ≤ 21 ∧ b' = ev_dc (ev_ty a) ∧ Cond.arrayClass (newarray.typeOf at9) ∈ Ts) ∨
      (∃ (ix : Nat) (C : String), decode cc pc = .ok (.anewarray ix, 3) ∧ nx = pc + 3 ∧ 24 ≤ a ∧ a ≤ 28 ∧ ev_ty a = .object C ∧ b' = 1 ∧ Cond.classLink own ix C ∈ Ts ∧ Cond.arrayOver (.object C) ∈ lw_tbl)
def ev_i_call (I : Nat → ev_Im) (P : Nat → ev_M) (cc : ByteArray) (own : String) (pc nx a b' c' : Nat) (tg : List Nat) : Prop :=
  ∃ (ix n : Nat), nx = pc + 3 ∧ tg = [(P a).2.1, (P a).2.2.1] ∧ (P a).1 ≤ 51 ∧ b' ≤ (P a).1 ∧ ev_cw (I a) (P a).1 ∈ ev_UW ∧ Cond.initialized (I a).1.cls ∈ ev_UW ∧
    ((I a).1.cls ≠ "java/lang/invoke/MethodHandle" ∧ (I a).1.cls ≠ "java/lang/invoke/VarHandle" ∧ (parseMethodDescriptor (I a).1.desc).map (fun d => d.parameters.length) = some n) ∧ Cond.initialized own ∈ ev_UW ∧
    ((decode cc pc = .ok (.invokevirtual ix, 3) ∧ b' = n + 1 ∧ (∃ (ci : Nat) (rr : vw_C), c' = ci + 1 ∧ vwCl[ci]? = some rr ∧ rr.1 = (I a).1.cls) ∧ (I a).2.2.2 = [] ∧ Cond.methodLink own ix (I a).1 ∈ ev_UW ∧ Cond.instanceMethod (I a).1 ∈ ev_UW ∧ Cond.selects (I a).1.cls (I a).1 (I a).1 ∈ ev_UW) ∨
     (decode cc pc = .ok (.invokestatic ix, 3) ∧ b' = n ∧ c' = 0 ∧ Cond.methodLink own ix (I a).1 ∈ ev_UW ∧ Cond.static (I a).1 ∈ ev_UW) ∨
     (decode cc pc = .ok (.invokespecial ix, 3) ∧ b' = n + 1 ∧ (∃ (ci : Nat) (rr : vw_C), c' = ci + 1 ∧ vwCl[ci]? = some rr) ∧ (I a).2.2.2 = [] ∧ (I a).1.name = "<init>" ∧ (I a).2.2.1 = none ∧ Cond.instanceMethod (I a).1 ∈ ev_UW ∧ (Cond.methodLink own ix (I a).1 ∈ ev_UW ∨ ∃ host, Cond.methodLinkNest own ix (I a).1 host ∈ lw_tbl)))
def ev_i_throw (cc : ByteArray) (own : String) (Ts : List Cond) (Sg : List (String × (Nat × String))) (pc a : Nat) : Prop :=
  ∃ (ik is9 ic : Nat) (text : String), a < 4 ∧ decode cc pc = .ok (.new ik, 3) ∧ decode cc (pc + 3) = .ok (.dup, 1) ∧ ((decode cc (pc + 4) = .ok (.ldc is9, 2) ∧ decode cc (pc + 6) = .ok (.invokespecial ic, 3) ∧ decode cc (pc + 9) = .ok (.athrow, 1)) ∨ (decode cc (pc + 4) = .ok (.ldc_w is9, 3) ∧ decode cc (pc + 7) = .ok (.invokespecial ic, 3) ∧ decode cc (pc + 10) = .ok (.athrow, 1))) ∧
      Cond.classLink own ik (ev_ex a) ∈ Ts ∧ Cond.initialized (ev_ex a) ∈ Ts ∧ (own, (is9, text)) ∈ Sg ∧ (∀ x ∈ (ev_xat own ic a).filter goodWord, x ∈ Ts) ∧
      (∀ x ∈ (ev_xat own ic a).filter (fun w => !goodWord w), x ∈ lw_tbl ∧ ev_bw x = true ∧ x.onTables = true) ∧
      (∀ x ∈ Cond.classLink own ik (ev_ex a) :: Cond.initialized (ev_ex a) :: ev_xat own ic a, vx_ot x = true)
def ev_i_switch (cc : ByteArray) (pc a b' c' : Nat) (tg : List Nat) : Prop :=
  ∃ (df lo hi9 : Int) (offs : Array Int) (len : Nat), decode cc pc = .ok (.tableswitch df lo hi9 offs, len) ∧ -2147483648 ≤ lo ∧ -2147483648 ≤ hi9 ∧ a = (lo + 2147483648).toNat ∧ b' = (hi9 + 2147483648).toNat ∧ (pc : Int) + df = (c' : Int) ∧ (∀ (j t : Nat), tg[j]? = some t → ∃ off, offs[j]? = some off ∧ (pc : Int) + off = (t : Int))
def ev_i_cv (cc : ByteArray) (pc nx a : Nat) : Prop :=
  ((a = 0 ∧ decode cc pc = .ok (.i2l, 1)) ∨ (a = 1 ∧ decode cc pc = .ok (.l2i, 1)) ∨ (a = 2 ∧ decode cc pc = .ok (.i2d, 1)) ∨ (a = 3 ∧ decode cc pc = .ok (.i2f, 1)) ∨ (a = 4 ∧ decode cc pc = .ok (.f2d, 1)) ∨ (a = 5 ∧ decode cc pc = .ok (.i2b, 1)) ∨ (a = 6 ∧ decode cc pc = .ok (.i2c, 1))) ∧ nx = pc + 1
def ev_i_w2 (cc : ByteArray) (own : String) (Ts : List Cond) (pc nx a : Nat) : Prop :=
  (((a = 0 ∧ decode cc pc = .ok (.ddiv, 1)) ∨ (a = 1 ∧ decode cc pc = .ok (.fdiv, 1)) ∨ (a = 2 ∧ decode cc pc = .ok (.dcmp .l, 1)) ∨ (a = 3 ∧ decode cc pc = .ok (.dcmp .g, 1)) ∨ (a = 4 ∧ decode cc pc = .ok (.lcmp, 1)) ∨ (a = 5 ∧ decode cc pc = .ok (.lshr, 1)) ∨ (a = 6 ∧ decode cc pc = .ok (.lshl, 1)) ∨ (a = 7 ∧ decode cc pc = .ok (.land, 1)) ∨ (a = 8 ∧ decode cc pc = .ok (.lor, 1))) ∧ nx = pc + 1) ∨
      (∃ ix : Nat, a = 9 ∧ decode cc pc = .ok (.invokestatic ix, 3) ∧ nx = pc + 3 ∧ Cond.methodLink own ix Lib.Math.max.name ∈ Ts ∧ Cond.static Lib.Math.max.name ∈ Ts ∧ Cond.initialized "java/lang/Math" ∈ Ts ∧ Cond.code Lib.Math.max.name Lib.Math.max.code 2 (some .int) ∈ Ts)
def ev_i_objinit (cc : ByteArray) (own : String) (Ts : List Cond) (pc nx : Nat) : Prop :=
  ∃ ix : Nat, decode cc pc = .ok (.invokespecial ix, 3) ∧ nx = pc + 3 ∧ Cond.methodLink own ix Lib.objectInit ∈ Ts ∧ Cond.instanceMethod Lib.objectInit ∈ Ts ∧ Cond.code Lib.objectInit ⟨#[0xb1]⟩ 1 none ∈ Ts
def ev_i_copy (cc : ByteArray) (own : String) (Ts : List Cond) (pc nx : Nat) : Prop :=
  ∃ ix : Nat, decode cc pc = .ok (.invokestatic ix, 3) ∧ nx = pc + 3 ∧ Cond.methodLink own ix arraycopyName ∈ Ts ∧ Cond.native arraycopyName ∈ Ts ∧ Cond.static arraycopyName ∈ Ts ∧ Cond.initialized "java/lang/System" ∈ Ts
def ev_i_idiv (cc : ByteArray) (pc nx a : Nat) : Prop := ((a = 0 ∧ decode cc pc = .ok (.idiv, 1)) ∨ (a = 1 ∧ decode cc pc = .ok (.irem, 1))) ∧ nx = pc + 1
/-! the JDK's own string bodies: names and words -/
def js_co : MethodName := { cls := "java/lang/String", name := "coder", desc := "()B" }
def js_ln : MethodName := { cls := "java/lang/String", name := "length", desc := "()I" }
def js_il : MethodName := { cls := "java/lang/String", name := "isLatin1", desc := "()Z" }
def js_ch : MethodName := { cls := "java/lang/String", name := "charAt", desc := "(I)C" }
def js_ci : MethodName := { cls := "java/lang/String", name := "checkIndex", desc := "(II)V" }
def js_lc : MethodName := { cls := "java/lang/StringLatin1", name := "charAt", desc := "([BI)C" }
def js_pi : MethodName := { cls := "jdk/internal/util/Preconditions", name := "checkIndex", desc := "(IILjava/util/function/BiFunction;)I" }
/-- the words that these bodies stand on -/
def js_ws : List Cond := [.code js_co prog_26_method_152_code 1 (some .byte), .code js_ln prog_26_method_54_code 1 (some .int), .code js_il prog_26_method_154_code 1 (some .boolean), .code js_ch prog_26_method_56_code 2 (some .char), .code js_ci prog_26_method_155_code 2 none, .code js_lc prog_28_method_2_code 2 (some .char), .code js_pi prog_46_method_11_code 3 (some .int),
  .methodLink "java/lang/String" 335 js_co, .methodLink "java/lang/String" 492 js_il, .methodLink "java/lang/String" 495 js_lc, .methodLink "java/lang/StringLatin1" 9 js_ci, .methodLink "java/lang/String" 1059 js_pi,
  .instanceMethod js_co, .instanceMethod js_il, .instanceMethod js_ln, .instanceMethod js_ch, .selects "java/lang/String" js_co js_co, .selects "java/lang/String" js_il js_il, .selects "java/lang/String" js_ln js_ln, .selects "java/lang/String" js_ch js_ch, .static js_lc, .static js_ci, .static js_pi,
  .initialized "java/lang/String", .initialized "java/lang/StringLatin1", .initialized "jdk/internal/util/Preconditions",
  .fieldLink "java/lang/String" 38 "java/lang/String" "COMPACT_STRINGS" "Z", .fieldLink "java/lang/String" 15 "java/lang/String" "coder" "B", .fieldLink "java/lang/String" 9 "java/lang/String" "value" "[B", .fieldLink "java/lang/String" 1053 "jdk/internal/util/Preconditions" "SIOOBE_FORMATTER" "Ljava/util/function/BiFunction;"]
def ev_i_ldcs (cc : ByteArray) (own : String) (pc nx a : Nat) : Prop := a < 26 ∧ own = (ev_sk a).1 ∧ decode cc pc = .ok (.ldc (ev_sk a).2.1, 2) ∧ nx = pc + 2
def ev_i_str (cc : ByteArray) (own : String) (pc nx : Nat) (y : MethodName) : Prop := ∃ ix, decode cc pc = .ok (.invokevirtual ix, 3) ∧ nx = pc + 3 ∧ Cond.methodLink own ix y ∈ ev_UW ∧ ∀ x ∈ js_ws, x ∈ ev_UW
/-- an entry is what the class file has there -/
def ev_eok (I : Nat → ev_Im) (P : Nat → ev_M) (Sg : List (String × (Nat × String))) (Ts : List Cond) (y : MethodName) (cc : ByteArray) (ret : Option FieldType) (nL pc op nx a b' c' : Nat) (tg : List Nat) : Prop :=
  match op with
  | 0 => True
  | 1 => ev_i_int cc y.cls Ts pc nx a
  | 2 => decode cc pc = .ok (.aconst_null, 1) ∧ nx = pc + 1
  | 3 => ev_i_wide cc y.cls Ts pc nx a b'
  | 6 => ev_i_ld cc pc nx a .iload .iload_n
  | 7 => ev_i_ld cc pc nx a .aload .aload_n
  | 8 => decode cc pc = .ok (.dload a, 2) ∧ nx = pc + 2
  | 9 => ev_i_st cc nL pc nx a .istore .istore_n
  | 10 => ev_i_st cc nL pc nx a .astore .astore_n
  | 11 => decode cc pc = .ok (.dstore a, 2) ∧ nx = pc + 2 ∧ a + 1 < nL
  | 12 => ∃ n : Int, decode cc pc = .ok (.iinc a n, 3) ∧ Int32.ofInt n = nI b' ∧ nx = pc + 3 ∧ a < nL
  | 13 => decode cc pc = .ok (.iadd, 1) ∧ nx = pc + 1
  | 14 => decode cc pc = .ok (.isub, 1) ∧ nx = pc + 1
  | 15 => ev_i_bin cc pc nx a
  | 16 => ev_i_if cc pc a b' c' .ifCond
  | 17 => ev_i_if cc pc a b' c' .if_icmp
  | 18 => ev_i_acmp cc pc b' c'
  | 19 => ev_i_isnull cc pc b' c'
  | 20 => ∃ off : Int, decode cc pc = .ok (.goto off, 3) ∧ (pc : Int) + off = (nx : Int)
  | 21 => decode cc pc = .ok (.dup, 1) ∧ nx = pc + 1
  | 22 => decode cc pc = .ok (.dup2, 1) ∧ nx = pc + 1
  | 23 => decode cc pc = .ok (.pop, 1) ∧ nx = pc + 1
  | 24 => ev_i_getf cc y.cls Ts pc nx a b'
  | 25 => ev_i_putf cc y.cls y.name Ts pc nx a b' c'
  | 26 => decode cc pc = .ok (.arraylength, 1) ∧ nx = pc + 1
  | 27 => a = 20 ∧ b' = 20 ∧ decode cc pc = .ok (.iaload, 1) ∧ nx = pc + 1
  | 28 => decode cc pc = .ok (.iastore, 1) ∧ nx = pc + 1
  | 29 => ev_i_ald cc pc nx a b'
  | 30 => decode cc pc = .ok (.bastore, 1) ∧ nx = pc + 1
  | 31 => decode cc pc = .ok (.lastore, 1) ∧ nx = pc + 1
  | 32 => decode cc pc = .ok (.aastore, 1) ∧ nx = pc + 1
  | 33 => ev_i_new cc y.cls Ts pc nx a b' tg
  | 34 => ev_i_newa cc y.cls Ts pc nx a b'
  | 35 => ev_i_call I P cc y.cls pc nx a b' c' tg
  | 36 => ev_i_objinit cc y.cls Ts pc nx
  | 37 => ev_i_throw cc y.cls Ts Sg pc a
  | 38 => decode cc pc = .ok (.return_, 1) ∧ ret = none
  | 39 => decode cc pc = .ok (.ireturn, 1) ∧ ((a = 0 ∧ ret = some .int) ∨ (a = 1 ∧ ret = some .boolean))
  | 40 => decode cc pc = .ok (.areturn, 1) ∧ ∃ rt, ret = some rt ∧ ((∃ n, rt = .object n) ∨ ∃ t, rt = .array t)
  | 41 => (a = 1 ∧ decode cc pc = .ok (.freturn, 1) ∧ ret = some .float) ∨ (a = 2 ∧ decode cc pc = .ok (.dreturn, 1) ∧ ret = some .double)
  | 42 => ev_i_switch cc pc a b' c' tg
  | 43 => ev_i_cv cc pc nx a
  | 44 => ev_i_w2 cc y.cls Ts pc nx a
  | 45 => ev_i_copy cc y.cls Ts pc nx
  | 46 => True
  | 47 => ev_i_idiv cc pc nx a
  | 48 => a = 1 ∧ decode cc pc = .ok (.iand, 1) ∧ nx = pc + 1
  | 49 => ev_i_ldcs cc y.cls pc nx a
  | 50 => ev_i_str cc y.cls pc nx js_ln
  | 51 => ev_i_str cc y.cls pc nx js_ch
  | _ => False
/-- .. wherever the program counter stands -/
def ev_cok (I : Nat → ev_Im) (P : Nat → ev_M) (Sg : List (String × (Nat × String))) (Ts : List Cond) (y : MethodName) (cc : ByteArray) (ret : Option FieldType) (nL : Nat) (code : Nat → ev_E) : Prop :=
  ∀ pc, ev_eok I P Sg Ts y cc ret nL pc (code pc).1 (code pc).2.1 (code pc).2.2.1 (code pc).2.2.2.1 (code pc).2.2.2.2.1 (code pc).2.2.2.2.2
/-- the handlers, with the exceptions' numbers for the places in the class's pool -/
def ev_hok (own : String) (Ts : List Cond) (hh : List (Nat × Nat × Nat × Nat)) (hs : List (Nat × (Nat × (Nat × Nat)))) : Prop :=
  ∃ cn : Nat → Nat, hs = hh.map (fun q => (q.1, (q.2.1, (q.2.2.1, cn q.2.2.2)))) ∧ ∀ q ∈ hh, cn q.2.2.2 < 4 ∧ q.2.2.2 ≠ 0 ∧ Cond.classLink own q.2.2.2 (ev_ex (cn q.2.2.2)) ∈ Ts
/-- a method of the program is what the class file has -/
def ev_mok (I : Nat → ev_Im) (P : Nat → ev_M) (Sg : List (String × (Nat × String))) (i : Nat) : Prop :=
  plainName (I i).1.cls = true ∧ ev_cok I P Sg (ev_wm (I i) (P i).1) (I i).1 (I i).2.1 (I i).2.2.1 (P i).1 (P i).2.2.2.2 ∧ ev_hok (I i).1.cls (ev_wm (I i) (P i).1) (I i).2.2.2 (P i).2.2.2.1 ∧
    ((I i).2.2.2 ≠ [] → ∀ pc, ((P i).2.2.2.2 pc).1 ≠ 37) ∧ ∀ pc, ((P i).2.2.2.2 pc).1 ≠ 46
end EVE
section EVX
variable {D : va_G} {aC : Nat → ClassId} {b : ev_B} {B0 L : Nat} {σ : Nat → Int32}
variable {p : Program} {l : Launch} {e : Env} {R : Room} {s : State} {m : MethodId} {args : Array Value} {below : List Frame} {meth : Method} {c : Code} {Q : State → Prop}
variable {cc : ByteArray} {nL : Nat} {Ts : List Cond} {own : String} {Sg : List (String × (Nat × String))}
variable {Φ : ev_P} {M : ev_M} {k : ev_N} {cl : ev_F} {nx a b' c' pc : Nat} {tg : List Nat} {loc : ev_L} {st : List ev_V} {w : ev_W} {r : ev_S}
theorem ev_dle (x y : Nat) : decide (x ≤ y) = Nat.ble x y := by
  cases h : Nat.ble x y with
  | true => exact decide_eq_true (Nat.le_of_ble_eq_true h)
  | false => exact decide_eq_false (fun q => by rw [Nat.ble_eq_true_of_le q] at h; cases h)
theorem ev_sp_ok : ∀ (n : Nat) (acc st As r : List ev_V), ev_sp n acc st = some (As, r) → ∃ t, st = t ++ r ∧ t.length = n ∧ As = t.reverse ++ acc := by
  intro n
  induction n with
  | zero =>
    intro acc st As r h
    have h : some (acc, st) = some (As, r) := h
    cases h
    exact ⟨[], rfl, rfl, rfl⟩
  | succ n ih =>
    intro acc st As r h
    cases st with
    | nil => exact absurd h (fun z => by cases z)
    | cons v t =>
      obtain ⟨t9, h1, h2, h3⟩ := ih (v :: acc) t As r h
      exact ⟨v :: t9, by rw [h1]; rfl, by rw [List.length_cons, h2], by rw [h3]; simp⟩
theorem ev_hd_ok {args : Array Value} {s : State} {own : String} {Ts : List Cond} {cn : Nat → Nat} {E pc : Nat} (hE : E < 4) (ht : ∀ w ∈ Ts, w.before args s = true) (hV : ev_VF D aC Sg s) : ∀ (hh : List (Nat × Nat × Nat × Nat)), (∀ q ∈ hh, cn q.2.2.2 < 4 ∧ q.2.2.2 ≠ 0 ∧ Cond.classLink own q.2.2.2 (ev_ex (cn q.2.2.2)) ∈ Ts) →
    (ev_hd (hh.map (fun q => (q.1, (q.2.1, (q.2.2.1, cn q.2.2.2))))) pc E = none → ∀ z ∈ tableOf hh, covers z pc = false ∨ (z.catchType ≠ 0 ∧ ∃ nm : String, (Cond.classLink own z.catchType nm).before args s = true ∧ va_Nc (ev_ex E) nm s)) ∧
    (∀ hp, ev_hd (hh.map (fun q => (q.1, (q.2.1, (q.2.2.1, cn q.2.2.2))))) pc E = some hp → ∃ (pre : List ExceptionTableEntry) (x : ExceptionTableEntry) (suf : List ExceptionTableEntry), tableOf hh = pre ++ x :: suf ∧ (∀ z ∈ pre, covers z pc = false ∨ (z.catchType ≠ 0 ∧ ∃ nm : String, (Cond.classLink own z.catchType nm).before args s = true ∧ va_Nc (ev_ex E) nm s)) ∧ covers x pc = true ∧ x.catchType ≠ 0 ∧ (Cond.classLink own x.catchType (ev_ex E)).before args s = true ∧ x.handlerPc = hp) := by
  intro hh
  induction hh with
  | nil => exact fun _ => ⟨fun _ z hz => absurd hz List.not_mem_nil, fun hp h => absurd h (fun z => by cases z)⟩
  | cons q t ih =>
    intro hq
    obtain ⟨i1, i2⟩ := ih (fun x hx => hq x (List.mem_cons_of_mem _ hx))
    obtain ⟨q1, q2, q3⟩ := hq q List.mem_cons_self
    have ecov : covers (⟨q.1, q.2.1, q.2.2.1, q.2.2.2⟩ : ExceptionTableEntry) pc = (Nat.ble q.1 pc && Nat.ble (pc + 1) q.2.1) := by
      show (decide (q.1 ≤ pc) && decide (pc + 1 ≤ q.2.1)) = _
      rw [ev_dle, ev_dle]
    have hun : ev_hd ((q :: t).map (fun q => (q.1, (q.2.1, (q.2.2.1, cn q.2.2.2))))) pc E = ev_if (Nat.ble q.1 pc && Nat.ble (pc + 1) q.2.1) (ev_if (Nat.beq (cn q.2.2.2) E) (some q.2.2.1) (ev_hd (t.map (fun q => (q.1, (q.2.1, (q.2.2.1, cn q.2.2.2))))) pc E)) (ev_hd (t.map (fun q => (q.1, (q.2.1, (q.2.2.1, cn q.2.2.2))))) pc E) := rfl
    rw [hun]
    have htab : tableOf (q :: t) = (⟨q.1, q.2.1, q.2.2.1, q.2.2.2⟩ : ExceptionTableEntry) :: tableOf t := rfl
    rw [htab]
    have cons9 : ∀ hp, (covers (⟨q.1, q.2.1, q.2.2.1, q.2.2.2⟩ : ExceptionTableEntry) pc = false ∨ (q.2.2.2 ≠ 0 ∧ ∃ nm : String, (Cond.classLink own q.2.2.2 nm).before args s = true ∧ va_Nc (ev_ex E) nm s)) → ev_hd (t.map (fun q => (q.1, (q.2.1, (q.2.2.1, cn q.2.2.2))))) pc E = some hp →
        ∃ (pre : List ExceptionTableEntry) (x : ExceptionTableEntry) (suf : List ExceptionTableEntry), (⟨q.1, q.2.1, q.2.2.1, q.2.2.2⟩ : ExceptionTableEntry) :: tableOf t = pre ++ x :: suf ∧ (∀ z ∈ pre, covers z pc = false ∨ (z.catchType ≠ 0 ∧ ∃ nm : String, (Cond.classLink own z.catchType nm).before args s = true ∧ va_Nc (ev_ex E) nm s)) ∧ covers x pc = true ∧ x.catchType ≠ 0 ∧ (Cond.classLink own x.catchType (ev_ex E)).before args s = true ∧ x.handlerPc = hp := by
      intro hp h0 h1
      obtain ⟨pre, x, suf, g1, g2, g3⟩ := i2 hp h1
      refine ⟨_ :: pre, x, suf, by rw [g1]; rfl, fun z hz => ?_, g3⟩
      rcases List.mem_cons.mp hz with rfl | hz
      · exact h0
      · exact g2 z hz
    cases c1 : (Nat.ble q.1 pc && Nat.ble (pc + 1) q.2.1) with
    | false =>
      rw [c1] at ecov
      rw [ev_if_f]
      refine ⟨fun h z hz => ?_, fun hp h => cons9 hp (Or.inl ecov) h⟩
      rcases List.mem_cons.mp hz with rfl | hz
      · exact Or.inl ecov
      · exact i1 h z hz
    | true =>
      rw [c1] at ecov
      rw [ev_if_t]
      cases c2 : Nat.beq (cn q.2.2.2) E with
      | true =>
        rw [ev_if_t]
        have c2 := Nat.eq_of_beq_eq_true c2
        refine ⟨fun h => absurd h (fun z => by cases z), fun hp h => ?_⟩
        have h := Option.some.inj h
        refine ⟨[], _, tableOf t, rfl, fun z hz => absurd hz List.not_mem_nil, ecov, q2, ?_, h⟩
        rw [← c2]
        exact ht _ q3
      | false =>
        rw [ev_if_f]
        have c2 := Nat.ne_of_beq_eq_false c2
        have h0 : covers (⟨q.1, q.2.1, q.2.2.1, q.2.2.2⟩ : ExceptionTableEntry) pc = false ∨ (q.2.2.2 ≠ 0 ∧ ∃ nm : String, (Cond.classLink own q.2.2.2 nm).before args s = true ∧ va_Nc (ev_ex E) nm s) := Or.inr ⟨q2, _, ht _ q3, hV.2.2.2 E _ hE q1 (fun z => c2 z.symm)⟩
        refine ⟨fun h z hz => ?_, fun hp h => cons9 hp h0 h⟩
        rcases List.mem_cons.mp hz with rfl | hz
        · exact h0
        · exact i1 h z hz
end EVX
