/-! ===== what an entry of the law's and the JDK's code must be (own work) ===== -/
def jq_gc : MethodName := ⟨"java/lang/Object", "getClass", "()Ljava/lang/Class;"⟩
def jq_cl : MethodName := ⟨"java/lang/Object", "clone", "()Ljava/lang/Object;"⟩
def jq_cb : MethodName := ⟨"[B", "clone", "()Ljava/lang/Object;"⟩
/-- the statics that are read: class, name, type -/
def gs_T : List (String × (String × String)) := [("java/lang/String", ("COMPACT_STRINGS", "Z")), ("java/util/ArrayList", ("DEFAULTCAPACITY_EMPTY_ELEMENTDATA", "[Ljava/lang/Object;")), ("java/lang/Integer", ("DigitOnes", "[B")), ("java/lang/Integer", ("DigitTens", "[B")), ("jdk/internal/util/Preconditions", ("SIOOBE_FORMATTER", "Ljava/util/function/BiFunction;"))]
/-- the law's texts: their places in its pool -/
def lw_so : List (Nat × String) := [(93, " near"), (95, " group"), (97, " room"), (99, " kin"), (101, " old"), (105, "order"), (113, ";deep "), (118, ";root "), (123, "process "), (132, "duty "), (148, "will ")]
/-- a call's callee, plain -/
def ev2_cal (I : Nat → ev_Im) (P : Nat → ev_M) (a b' n : Nat) : Prop :=
  (P a).1 ≤ 51 ∧ b' ≤ (P a).1 ∧ (I a).2.2.2 = [] ∧ ev_cw (I a) (P a).1 ∈ ev_UW ∧ Cond.initialized (I a).1.cls ∈ ev_UW ∧ Cond.instanceMethod (I a).1 ∈ ev_UW ∧ b' = n + 1
/-- calls through an interface: class, what is named, what is run -/
def fw_L : List (String × (MethodName × MethodName)) := [("java/util/ArrayList", (⟨"java/util/List", "add", "(Ljava/lang/Object;)Z"⟩, ⟨"java/util/ArrayList", "add", "(Ljava/lang/Object;)Z"⟩)), ("java/util/ArrayList", (⟨"java/util/List", "get", "(I)Ljava/lang/Object;"⟩, ⟨"java/util/ArrayList", "get", "(I)Ljava/lang/Object;"⟩)), ("java/util/ArrayList", (⟨"java/util/List", "size", "()I"⟩, ⟨"java/util/ArrayList", "size", "()I"⟩)), ("java/util/ArrayList", (⟨"java/util/List", "iterator", "()Ljava/util/Iterator;"⟩, ⟨"java/util/ArrayList", "iterator", "()Ljava/util/Iterator;"⟩)), ("java/util/ArrayList$Itr", (⟨"java/util/Iterator", "hasNext", "()Z"⟩, ⟨"java/util/ArrayList$Itr", "hasNext", "()Z"⟩)), ("java/util/ArrayList$Itr", (⟨"java/util/Iterator", "next", "()Ljava/lang/Object;"⟩, ⟨"java/util/ArrayList$Itr", "next", "()Ljava/lang/Object;"⟩))]
/-- invokeinterface -/
def ev2_face (I : Nat → ev_Im) (P : Nat → ev_M) (cc : ByteArray) (own : String) (pc nx a b' c' : Nat) : Prop :=
  ∃ (ix n ct ci : Nat) (rr : vw_C) (x : MethodName), nx = pc + 5 ∧ ev2_cal I P a b' n ∧ decode cc pc = .ok (.invokeinterface ix ct, 5) ∧ c' = ci + 1 ∧ vwCl[ci]? = some rr ∧ (rr.1, (x, (I a).1)) ∈ fw_L ∧
    Cond.methodLink own ix x ∈ ev_UW ∧ Cond.selects rr.1 x (I a).1 ∈ ev_UW ∧ (x.cls ≠ "java/lang/invoke/MethodHandle" ∧ x.cls ≠ "java/lang/invoke/VarHandle") ∧ (parseMethodDescriptor x.desc).map (fun d => d.parameters.length) = some n
/-- invokevirtual by a name of a class above -/
def ev2_virt (I : Nat → ev_Im) (P : Nat → ev_M) (cc : ByteArray) (own : String) (pc nx a b' c' : Nat) : Prop :=
  ∃ (ix n ci : Nat) (rr : vw_C) (x : MethodName), nx = pc + 3 ∧ ev2_cal I P a b' n ∧ decode cc pc = .ok (.invokevirtual ix, 3) ∧ c' = ci + 1 ∧ vwCl[ci]? = some rr ∧
    Cond.methodLink own ix x ∈ ev_UW ∧ Cond.sameMethod x.cls x.cls x.name x.desc ∈ ev_UW ∧ Cond.instanceMethod x ∈ ev_UW ∧ (∃ (b0 : ByteArray) (m0 : Nat) (r0 : Option FieldType), Cond.code x b0 m0 r0 ∈ ev_UW) ∧ Cond.selects rr.1 x (I a).1 ∈ ev_UW ∧ (x.cls ≠ "java/lang/invoke/MethodHandle" ∧ x.cls ≠ "java/lang/invoke/VarHandle") ∧ (parseMethodDescriptor x.desc).map (fun d => d.parameters.length) = some n
/-- invokespecial of the class above -/
def ev2_sup (I : Nat → ev_Im) (P : Nat → ev_M) (cc : ByteArray) (own : String) (pc nx a b' c' : Nat) : Prop :=
  ∃ (ix n ci : Nat) (rr : vw_C), nx = pc + 3 ∧ ev2_cal I P a b' n ∧ decode cc pc = .ok (.invokespecial ix, 3) ∧ c' = ci + 1 ∧ vwCl[ci]? = some rr ∧
    Cond.methodLink own ix (I a).1 ∈ ev_UW ∧ Cond.sameMethod (I a).1.cls (I a).1.cls (I a).1.name (I a).1.desc ∈ ev_UW ∧ Cond.superclass own (I a).1.cls ∈ ev_UW ∧ (I a).1.name ≠ "<init>" ∧ (parseMethodDescriptor (I a).1.desc).map (fun d => d.parameters.length) = some n
/-- a field by the name of a class below the one that has it -/
def ev2_fal (own : String) (ix a b' : Nat) (Ts : List Cond) : Prop :=
  ∃ (C : String) (T : u_T) (N : Nat) (ref : String), vwCl[a]? = some (C, T, N) ∧ b' < N ∧ (∀ x ∈ u_ws C T N, x ∈ Ts) ∧ Cond.sameField ref (T b').1 (T b').2.1 (T b').2.2.1 ∈ Ts ∧ Cond.fieldLink own ix ref (T b').2.1 (T b').2.2.1 ∈ Ts
/-- .. and what a store asks besides -/
def ev2_fst (a b' : Nat) (ty : FieldType) : Prop :=
  ∃ (C : String) (T : u_T) (N : Nat) (ty0 : Nat → FieldType), vwCl[a]? = some (C, T, N) ∧ b' < N ∧ (T b').2.2.2 = false ∧ (∀ k, k < N → parseFieldDescriptor (T k).2.2.1 = some (ty0 k)) ∧ (∀ x, x < N → ∀ y, y < N → x ≠ y → (T x).2.1 ≠ (T y).2.1) ∧ ty0 b' = ty
def ev_eok2 (κ : CX) (im : ev_Im) (Ts : List Cond) (nL pc op nx a b' c' : Nat) (tg : List Nat) : Prop :=
  match op with
  | 35 => (a < 92 → ev_i_call pr_I pr_P im.2.1 im.1.cls pc nx a b' c' [(pr_P a).2.1, (pr_P a).2.2.1]) ∧ (92 ≤ a → ev_i_call κ.2.2.2.2.2.2.2.2.2.1 κ.2.2.2.2.2.2.2.2.2.2 im.2.1 im.1.cls pc nx a b' c' [(κ.2.2.2.2.2.2.2.2.2.2 a).2.1, (κ.2.2.2.2.2.2.2.2.2.2 a).2.2.1])
  | 38 => decode im.2.1 pc = .ok (.return_, 1) ∧ im.2.2.1 = none
  | 39 => decode im.2.1 pc = .ok (.ireturn, 1) ∧ ((a = 0 ∧ im.2.2.1 = some .int) ∨ (a = 1 ∧ im.2.2.1 = some .boolean) ∨ (a = 2 ∧ im.2.2.1 = some .byte) ∨ (a = 3 ∧ im.2.2.1 = some .char))
  | 40 => decode im.2.1 pc = .ok (.areturn, 1) ∧ ∃ rt, im.2.2.1 = some rt ∧ ((∃ n, rt = .object n) ∨ ∃ t, rt = .array t)
  | 52 => decode im.2.1 pc = .ok (.ineg, 1) ∧ nx = pc + 1
  | 53 => decode im.2.1 pc = .ok (.dup_x1, 1) ∧ nx = pc + 1
  | 54 => ∃ ix q, gs_T[a]? = some q ∧ decode im.2.1 pc = .ok (.getstatic ix, 3) ∧ nx = pc + 3 ∧ Cond.fieldLink im.1.cls ix q.1 q.2.1 q.2.2 ∈ Ts
  | 55 => ∃ ix nm, decode im.2.1 pc = .ok (.checkcast ix, 3) ∧ nx = pc + 3 ∧ Cond.classLink im.1.cls ix nm ∈ Ts ∧ ((a = 7 ∧ nm = RX7) ∨ (a = 21 ∧ nm = "[B"))
  | 56 => ev_i_copy im.2.1 im.1.cls Ts pc nx
  | 57 => ∃ ix, decode im.2.1 pc = .ok (.invokevirtual ix, 3) ∧ nx = pc + 3 ∧ Cond.methodLink im.1.cls ix jq_cb ∈ Ts ∧ Cond.sameMethod "[B" "java/lang/Object" "clone" "()Ljava/lang/Object;" ∈ Ts ∧ Cond.native jq_cl ∈ Ts ∧ Cond.instanceMethod jq_cl ∈ Ts ∧ Cond.selects "[B" jq_cb jq_cl ∈ Ts ∧ Cond.castable "[B" "java/lang/Cloneable" ∈ lw_tbl
  | 58 => ∃ ix, decode im.2.1 pc = .ok (.invokevirtual ix, 3) ∧ nx = pc + 3 ∧ Cond.methodLink im.1.cls ix jq_gc ∈ Ts ∧ Cond.declares jq_gc ∈ lw_tbl ∧ Cond.selects "[Ljava/lang/Object;" jq_gc jq_gc ∈ Ts ∧ Cond.instanceMethod jq_gc ∈ Ts ∧ Cond.native jq_gc ∈ Ts
  | 59 => ∃ ix, decode im.2.1 pc = .ok (.ldc ix, 2) ∧ nx = pc + 2 ∧ Cond.classLink im.1.cls ix "[Ljava/lang/Object;" ∈ Ts
  | 60 => decode im.2.1 pc = .ok (.aastore, 1) ∧ nx = pc + 1 ∧ Cond.castable RX7 "java/lang/Object" ∈ lw_tbl
  | 61 => a < 11 ∧ im.1.cls = "OrphanTreeLaw" ∧ decode im.2.1 pc = .ok (.ldc (lw_so.getD a (0, "")).1, 2) ∧ nx = pc + 2
  | 62 => ev2_face κ.2.2.2.2.2.2.2.2.2.1 κ.2.2.2.2.2.2.2.2.2.2 im.2.1 im.1.cls pc nx a b' c'
  | 63 => ev2_virt κ.2.2.2.2.2.2.2.2.2.1 κ.2.2.2.2.2.2.2.2.2.2 im.2.1 im.1.cls pc nx a b' c'
  | 64 => ev2_sup κ.2.2.2.2.2.2.2.2.2.1 κ.2.2.2.2.2.2.2.2.2.2 im.2.1 im.1.cls pc nx a b' c'
  | 65 => ∃ (ix : Nat) (C : String) (T : u_T) (N : Nat) (ty0 : Nat → FieldType), decode im.2.1 pc = .ok (.putfield ix, 3) ∧ nx = pc + 3 ∧ vwCl[a]? = some (C, T, N) ∧ b' < N ∧ (∀ x ∈ u_ws C T N, x ∈ Ts) ∧ Cond.fieldLink im.1.cls ix (T b').1 (T b').2.1 (T b').2.2.1 ∈ Ts ∧ (∀ k, k < N → parseFieldDescriptor (T k).2.2.1 = some (ty0 k)) ∧ (∀ x, x < N → ∀ y, y < N → x ≠ y → (T x).2.1 ≠ (T y).2.1) ∧ ty0 b' = .byte ∧ ((T b').2.2.2 = false ∨ ((T b').2.2.2 = true ∧ im.1.name = "<init>" ∧ (T b').1 = im.1.cls))
  | 66 => ∃ ix, decode im.2.1 pc = .ok (.getfield ix, 3) ∧ nx = pc + 3 ∧ ev2_fal im.1.cls ix a b' Ts
  | 67 => ∃ ix, decode im.2.1 pc = .ok (.putfield ix, 3) ∧ nx = pc + 3 ∧ ev2_fal im.1.cls ix a b' Ts ∧ ev2_fst a b' .int
  | _ => True
