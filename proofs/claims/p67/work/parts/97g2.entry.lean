/-! ===== entries of the program, one lemma a kind (own work) ===== -/
def pr_E (Ts : List Cond) (y : MethodName) (cc : ByteArray) (ret : Option FieldType) (nL : Nat) (pc : Nat) (x : ev_E) : Prop :=
  ev_eok pr_I pr_P pr_S Ts y cc ret nL pc x.1 x.2.1 x.2.2.1 x.2.2.2.1 x.2.2.2.2.1 x.2.2.2.2.2
theorem ev_uwat {x : Cond} (i : Nat) (h : lw_tbl[i]? = some x) (hg : goodWord x = true) : x ∈ ev_UW := List.mem_filter.mpr ⟨List.mem_of_getElem? h, hg⟩
theorem ev_twat {x : Cond} (i : Nat) (h : lw_tbl[i]? = some x) : x ∈ lw_tbl := List.mem_of_getElem? h
section ENT
variable {y : MethodName} {cc : ByteArray} {ret : Option FieldType} {nL pc nx a b c : Nat} {tg : List Nat} {im : ev_Im} {ml : Nat}
theorem et_0 {Ts : List Cond} : ∀ pc, pr_E Ts y cc ret nL pc pr_e0 := fun _ => trivial
theorem et_ct {E : Nat → ev_E → Prop} {n : Nat} {f g : Nat → ev_E} (hf : ∀ pc, E pc (f pc)) (hg : ∀ pc, E pc (g pc)) : ∀ pc, E pc (ev_ct n f g pc) := by
  intro pc
  unfold ev_ct
  cases Nat.ble pc n
  · exact hg pc
  · exact hf pc
theorem et_q {Ts : List Cond} {n : Nat} {x : ev_E} (h : pr_E Ts y cc ret nL n x) : ∀ pc, pr_E Ts y cc ret nL pc (pr_q n x pc) := by
  intro pc
  unfold pr_q
  cases e : Nat.beq pc n with
  | false => exact et_0 pc
  | true =>
    have := Nat.eq_of_beq_eq_true e
    subst this
    exact h
theorem et_up {x : Cond} (h : x ∈ ev_UW) : x ∈ ev_wm im ml := List.mem_cons_of_mem _ h
theorem et_iconst {n : Int} (hd : decode cc pc = .ok (.iconst n, 1)) (h : Int32.ofInt n = nI a) : pr_E (ev_wm im ml) y cc ret nL pc (1, (pc + 1, (a, (0, (0, []))))) := by
  show ev_i_int cc y.cls (ev_wm im ml) pc (pc + 1) a
  exact Or.inl ⟨n, hd, h, rfl⟩
theorem et_bipush {n : Int} (hd : decode cc pc = .ok (.bipush n, 2)) (h : (Int8.ofInt n).toInt32 = nI a) : pr_E (ev_wm im ml) y cc ret nL pc (1, (pc + 2, (a, (0, (0, []))))) := by
  show ev_i_int cc y.cls (ev_wm im ml) pc (pc + 2) a
  exact Or.inr (Or.inl ⟨n, hd, h, rfl⟩)
theorem et_sipush {n : Int} (hd : decode cc pc = .ok (.sipush n, 3)) (h : (Int16.ofInt n).toInt32 = nI a) : pr_E (ev_wm im ml) y cc ret nL pc (1, (pc + 3, (a, (0, (0, []))))) := by
  show ev_i_int cc y.cls (ev_wm im ml) pc (pc + 3) a
  exact Or.inr (Or.inr (Or.inl ⟨n, hd, h, rfl⟩))
theorem et_ldc {ix : Nat} {v : Int32} (hd : decode cc pc = .ok (.ldc ix, 2)) (h : v = nI a) (hw : Cond.constant y.cls ix v ∈ ev_UW) : pr_E (ev_wm im ml) y cc ret nL pc (1, (pc + 2, (a, (0, (0, []))))) := by
  show ev_i_int cc y.cls (ev_wm im ml) pc (pc + 2) a
  exact Or.inr (Or.inr (Or.inr (Or.inl ⟨ix, v, hd, h, rfl, et_up hw⟩)))
theorem et_ldcw {ix : Nat} {v : Int32} (hd : decode cc pc = .ok (.ldc_w ix, 3)) (h : v = nI a) (hw : Cond.constant y.cls ix v ∈ ev_UW) : pr_E (ev_wm im ml) y cc ret nL pc (1, (pc + 3, (a, (0, (0, []))))) := by
  show ev_i_int cc y.cls (ev_wm im ml) pc (pc + 3) a
  exact Or.inr (Or.inr (Or.inr (Or.inr ⟨ix, v, hd, h, rfl, et_up hw⟩)))
theorem et_null (hd : decode cc pc = .ok (.aconst_null, 1)) : pr_E (ev_wm im ml) y cc ret nL pc (2, (pc + 1, (0, (0, (0, []))))) := by
  exact ⟨hd, rfl⟩
theorem et_lconst {n : Fin 2} (hd : decode cc pc = .ok (.lconst n, 1)) (h : Int64.ofNat (n : Nat) = lN b) : pr_E (ev_wm im ml) y cc ret nL pc (3, (pc + 1, (0, (b, (0, []))))) := by
  show ev_i_wide cc y.cls (ev_wm im ml) pc (pc + 1) 0 b
  exact Or.inl (Or.inl ⟨n, hd, rfl, h, rfl⟩)
theorem et_dconst (hd : decode cc pc = .ok (.dconst 0, 1)) (h : FP.dconst0 = UInt64.ofNat b) : pr_E (ev_wm im ml) y cc ret nL pc (3, (pc + 1, (2, (b, (0, []))))) := by
  show ev_i_wide cc y.cls (ev_wm im ml) pc (pc + 1) 2 b
  exact Or.inl (Or.inr ⟨hd, rfl, h, rfl⟩)
theorem et_fconst (hd : decode cc pc = .ok (.fconst 0, 1)) (h : FP.fconst0 = UInt32.ofNat b) : pr_E (ev_wm im ml) y cc ret nL pc (3, (pc + 1, (1, (b, (0, []))))) := by
  show ev_i_wide cc y.cls (ev_wm im ml) pc (pc + 1) 1 b
  exact Or.inr (Or.inl ⟨hd, rfl, h, rfl⟩)
theorem et_ldc2 {ix : Nat} {v : Int64} (hd : decode cc pc = .ok (.ldc2_w ix, 3)) (h : v = lN b) (hw : Cond.constantLong y.cls ix v ∈ ev_UW) : pr_E (ev_wm im ml) y cc ret nL pc (3, (pc + 3, (0, (b, (0, []))))) := by
  show ev_i_wide cc y.cls (ev_wm im ml) pc (pc + 3) 0 b
  exact Or.inr (Or.inr ⟨ix, v, hd, rfl, h, rfl, et_up hw⟩)
theorem et_iload (hd : decode cc pc = .ok (.iload a, 2)) : pr_E (ev_wm im ml) y cc ret nL pc (6, (pc + 2, (a, (0, (0, []))))) := by
  show ev_i_ld cc pc (pc + 2) a .iload .iload_n
  exact Or.inl ⟨hd, rfl⟩
theorem et_iloadn {n : Fin 4} (hd : decode cc pc = .ok (.iload_n n, 1)) (h : (n : Nat) = a) : pr_E (ev_wm im ml) y cc ret nL pc (6, (pc + 1, (a, (0, (0, []))))) := by
  show ev_i_ld cc pc (pc + 1) a .iload .iload_n
  exact Or.inr ⟨n, hd, h, rfl⟩
theorem et_aload (hd : decode cc pc = .ok (.aload a, 2)) : pr_E (ev_wm im ml) y cc ret nL pc (7, (pc + 2, (a, (0, (0, []))))) := by
  show ev_i_ld cc pc (pc + 2) a .aload .aload_n
  exact Or.inl ⟨hd, rfl⟩
theorem et_aloadn {n : Fin 4} (hd : decode cc pc = .ok (.aload_n n, 1)) (h : (n : Nat) = a) : pr_E (ev_wm im ml) y cc ret nL pc (7, (pc + 1, (a, (0, (0, []))))) := by
  show ev_i_ld cc pc (pc + 1) a .aload .aload_n
  exact Or.inr ⟨n, hd, h, rfl⟩
theorem et_dload (hd : decode cc pc = .ok (.dload a, 2)) : pr_E (ev_wm im ml) y cc ret nL pc (8, (pc + 2, (a, (0, (0, []))))) := by
  exact ⟨hd, rfl⟩
theorem et_istore (hd : decode cc pc = .ok (.istore a, 2)) (hl : a < nL) : pr_E (ev_wm im ml) y cc ret nL pc (9, (pc + 2, (a, (0, (0, []))))) := by
  show ev_i_st cc nL pc (pc + 2) a .istore .istore_n
  exact ⟨Or.inl ⟨hd, rfl⟩, hl⟩
theorem et_istoren {n : Fin 4} (hd : decode cc pc = .ok (.istore_n n, 1)) (h : (n : Nat) = a) (hl : a < nL) : pr_E (ev_wm im ml) y cc ret nL pc (9, (pc + 1, (a, (0, (0, []))))) := by
  show ev_i_st cc nL pc (pc + 1) a .istore .istore_n
  exact ⟨Or.inr ⟨n, hd, h, rfl⟩, hl⟩
theorem et_astore (hd : decode cc pc = .ok (.astore a, 2)) (hl : a < nL) : pr_E (ev_wm im ml) y cc ret nL pc (10, (pc + 2, (a, (0, (0, []))))) := by
  show ev_i_st cc nL pc (pc + 2) a .astore .astore_n
  exact ⟨Or.inl ⟨hd, rfl⟩, hl⟩
theorem et_astoren {n : Fin 4} (hd : decode cc pc = .ok (.astore_n n, 1)) (h : (n : Nat) = a) (hl : a < nL) : pr_E (ev_wm im ml) y cc ret nL pc (10, (pc + 1, (a, (0, (0, []))))) := by
  show ev_i_st cc nL pc (pc + 1) a .astore .astore_n
  exact ⟨Or.inr ⟨n, hd, h, rfl⟩, hl⟩
theorem et_dstore (hd : decode cc pc = .ok (.dstore a, 2)) (hl : a + 1 < nL) : pr_E (ev_wm im ml) y cc ret nL pc (11, (pc + 2, (a, (0, (0, []))))) := by
  exact ⟨hd, rfl, hl⟩
theorem et_iinc {n : Int} (hd : decode cc pc = .ok (.iinc a n, 3)) (h : Int32.ofInt n = nI b) (hl : a < nL) : pr_E (ev_wm im ml) y cc ret nL pc (12, (pc + 3, (a, (b, (0, []))))) := by
  exact ⟨n, hd, h, rfl, hl⟩
theorem et_iadd (hd : decode cc pc = .ok (.iadd, 1)) : pr_E (ev_wm im ml) y cc ret nL pc (13, (pc + 1, (0, (0, (0, []))))) := by
  exact ⟨hd, rfl⟩
theorem et_isub (hd : decode cc pc = .ok (.isub, 1)) : pr_E (ev_wm im ml) y cc ret nL pc (14, (pc + 1, (0, (0, (0, []))))) := by
  exact ⟨hd, rfl⟩
theorem et_imul (hd : decode cc pc = .ok (.imul, 1)) : pr_E (ev_wm im ml) y cc ret nL pc (15, (pc + 1, (0, (0, (0, []))))) := by
  show ev_i_bin cc pc (pc + 1) 0
  exact ⟨Or.inl ⟨rfl, hd⟩, rfl⟩
theorem et_iand (hd : decode cc pc = .ok (.iand, 1)) : pr_E (ev_wm im ml) y cc ret nL pc (15, (pc + 1, (1, (0, (0, []))))) := by
  show ev_i_bin cc pc (pc + 1) 1
  exact ⟨Or.inr (Or.inl ⟨rfl, hd⟩), rfl⟩
theorem et_ior (hd : decode cc pc = .ok (.ior, 1)) : pr_E (ev_wm im ml) y cc ret nL pc (15, (pc + 1, (2, (0, (0, []))))) := by
  show ev_i_bin cc pc (pc + 1) 2
  exact ⟨Or.inr (Or.inr (Or.inl ⟨rfl, hd⟩)), rfl⟩
theorem et_ixor (hd : decode cc pc = .ok (.ixor, 1)) : pr_E (ev_wm im ml) y cc ret nL pc (15, (pc + 1, (3, (0, (0, []))))) := by
  show ev_i_bin cc pc (pc + 1) 3
  exact ⟨Or.inr (Or.inr (Or.inr (Or.inl ⟨rfl, hd⟩))), rfl⟩
theorem et_ishl (hd : decode cc pc = .ok (.ishl, 1)) : pr_E (ev_wm im ml) y cc ret nL pc (15, (pc + 1, (4, (0, (0, []))))) := by
  show ev_i_bin cc pc (pc + 1) 4
  exact ⟨Or.inr (Or.inr (Or.inr (Or.inr (Or.inl ⟨rfl, hd⟩)))), rfl⟩
theorem et_ishr (hd : decode cc pc = .ok (.ishr, 1)) : pr_E (ev_wm im ml) y cc ret nL pc (15, (pc + 1, (5, (0, (0, []))))) := by
  show ev_i_bin cc pc (pc + 1) 5
  exact ⟨Or.inr (Or.inr (Or.inr (Or.inr (Or.inr (Or.inl ⟨rfl, hd⟩))))), rfl⟩
theorem et_iushr (hd : decode cc pc = .ok (.iushr, 1)) : pr_E (ev_wm im ml) y cc ret nL pc (15, (pc + 1, (6, (0, (0, []))))) := by
  show ev_i_bin cc pc (pc + 1) 6
  exact ⟨Or.inr (Or.inr (Or.inr (Or.inr (Or.inr (Or.inr (⟨rfl, hd⟩)))))), rfl⟩
theorem et_ifeq {off : Int} (hd : decode cc pc = .ok (.ifCond .eq off, 3)) (h : (pc : Int) + off = (b : Int)) : pr_E (ev_wm im ml) y cc ret nL pc (16, (pc + 3, (0, (b, (pc + 3, []))))) := by
  show ev_i_if cc pc 0 b (pc + 3) .ifCond
  exact ⟨off, Or.inl (Or.inl ⟨rfl, hd, h, rfl⟩)⟩
theorem et_ifne {off : Int} (hd : decode cc pc = .ok (.ifCond .ne off, 3)) (h : (pc : Int) + off = (c : Int)) : pr_E (ev_wm im ml) y cc ret nL pc (16, (pc + 3, (0, (pc + 3, (c, []))))) := by
  show ev_i_if cc pc 0 (pc + 3) c .ifCond
  exact ⟨off, Or.inl (Or.inr ⟨rfl, hd, h, rfl⟩)⟩
theorem et_iflt {off : Int} (hd : decode cc pc = .ok (.ifCond .lt off, 3)) (h : (pc : Int) + off = (b : Int)) : pr_E (ev_wm im ml) y cc ret nL pc (16, (pc + 3, (1, (b, (pc + 3, []))))) := by
  show ev_i_if cc pc 1 b (pc + 3) .ifCond
  exact ⟨off, Or.inr (Or.inl (Or.inl ⟨rfl, hd, h, rfl⟩))⟩
theorem et_ifge {off : Int} (hd : decode cc pc = .ok (.ifCond .ge off, 3)) (h : (pc : Int) + off = (c : Int)) : pr_E (ev_wm im ml) y cc ret nL pc (16, (pc + 3, (1, (pc + 3, (c, []))))) := by
  show ev_i_if cc pc 1 (pc + 3) c .ifCond
  exact ⟨off, Or.inr (Or.inl (Or.inr ⟨rfl, hd, h, rfl⟩))⟩
theorem et_ifgt {off : Int} (hd : decode cc pc = .ok (.ifCond .gt off, 3)) (h : (pc : Int) + off = (b : Int)) : pr_E (ev_wm im ml) y cc ret nL pc (16, (pc + 3, (2, (b, (pc + 3, []))))) := by
  show ev_i_if cc pc 2 b (pc + 3) .ifCond
  exact ⟨off, Or.inr (Or.inr (Or.inl ⟨rfl, hd, h, rfl⟩))⟩
theorem et_ifle {off : Int} (hd : decode cc pc = .ok (.ifCond .le off, 3)) (h : (pc : Int) + off = (c : Int)) : pr_E (ev_wm im ml) y cc ret nL pc (16, (pc + 3, (2, (pc + 3, (c, []))))) := by
  show ev_i_if cc pc 2 (pc + 3) c .ifCond
  exact ⟨off, Or.inr (Or.inr (Or.inr ⟨rfl, hd, h, rfl⟩))⟩
theorem et_icmpeq {off : Int} (hd : decode cc pc = .ok (.if_icmp .eq off, 3)) (h : (pc : Int) + off = (b : Int)) : pr_E (ev_wm im ml) y cc ret nL pc (17, (pc + 3, (0, (b, (pc + 3, []))))) := by
  show ev_i_if cc pc 0 b (pc + 3) .if_icmp
  exact ⟨off, Or.inl (Or.inl ⟨rfl, hd, h, rfl⟩)⟩
theorem et_icmpne {off : Int} (hd : decode cc pc = .ok (.if_icmp .ne off, 3)) (h : (pc : Int) + off = (c : Int)) : pr_E (ev_wm im ml) y cc ret nL pc (17, (pc + 3, (0, (pc + 3, (c, []))))) := by
  show ev_i_if cc pc 0 (pc + 3) c .if_icmp
  exact ⟨off, Or.inl (Or.inr ⟨rfl, hd, h, rfl⟩)⟩
theorem et_icmplt {off : Int} (hd : decode cc pc = .ok (.if_icmp .lt off, 3)) (h : (pc : Int) + off = (b : Int)) : pr_E (ev_wm im ml) y cc ret nL pc (17, (pc + 3, (1, (b, (pc + 3, []))))) := by
  show ev_i_if cc pc 1 b (pc + 3) .if_icmp
  exact ⟨off, Or.inr (Or.inl (Or.inl ⟨rfl, hd, h, rfl⟩))⟩
theorem et_icmpge {off : Int} (hd : decode cc pc = .ok (.if_icmp .ge off, 3)) (h : (pc : Int) + off = (c : Int)) : pr_E (ev_wm im ml) y cc ret nL pc (17, (pc + 3, (1, (pc + 3, (c, []))))) := by
  show ev_i_if cc pc 1 (pc + 3) c .if_icmp
  exact ⟨off, Or.inr (Or.inl (Or.inr ⟨rfl, hd, h, rfl⟩))⟩
theorem et_icmpgt {off : Int} (hd : decode cc pc = .ok (.if_icmp .gt off, 3)) (h : (pc : Int) + off = (b : Int)) : pr_E (ev_wm im ml) y cc ret nL pc (17, (pc + 3, (2, (b, (pc + 3, []))))) := by
  show ev_i_if cc pc 2 b (pc + 3) .if_icmp
  exact ⟨off, Or.inr (Or.inr (Or.inl ⟨rfl, hd, h, rfl⟩))⟩
theorem et_icmple {off : Int} (hd : decode cc pc = .ok (.if_icmp .le off, 3)) (h : (pc : Int) + off = (c : Int)) : pr_E (ev_wm im ml) y cc ret nL pc (17, (pc + 3, (2, (pc + 3, (c, []))))) := by
  show ev_i_if cc pc 2 (pc + 3) c .if_icmp
  exact ⟨off, Or.inr (Or.inr (Or.inr ⟨rfl, hd, h, rfl⟩))⟩
theorem et_acmpeq {off : Int} (hd : decode cc pc = .ok (.if_acmp .eq off, 3)) (h : (pc : Int) + off = (b : Int)) : pr_E (ev_wm im ml) y cc ret nL pc (18, (pc + 3, (0, (b, (pc + 3, []))))) := by
  show ev_i_acmp cc pc b (pc + 3)
  exact ⟨off, Or.inl ⟨hd, h, rfl⟩⟩
theorem et_acmpne {off : Int} (hd : decode cc pc = .ok (.if_acmp .ne off, 3)) (h : (pc : Int) + off = (c : Int)) : pr_E (ev_wm im ml) y cc ret nL pc (18, (pc + 3, (0, (pc + 3, (c, []))))) := by
  show ev_i_acmp cc pc (pc + 3) c
  exact ⟨off, Or.inr ⟨hd, h, rfl⟩⟩
theorem et_ifnull {off : Int} (hd : decode cc pc = .ok (.ifnull off, 3)) (h : (pc : Int) + off = (b : Int)) : pr_E (ev_wm im ml) y cc ret nL pc (19, (pc + 3, (0, (b, (pc + 3, []))))) := by
  show ev_i_isnull cc pc b (pc + 3)
  exact ⟨off, Or.inl ⟨hd, h, rfl⟩⟩
theorem et_ifnonnull {off : Int} (hd : decode cc pc = .ok (.ifnonnull off, 3)) (h : (pc : Int) + off = (c : Int)) : pr_E (ev_wm im ml) y cc ret nL pc (19, (pc + 3, (0, (pc + 3, (c, []))))) := by
  show ev_i_isnull cc pc (pc + 3) c
  exact ⟨off, Or.inr ⟨hd, h, rfl⟩⟩
theorem et_goto {off : Int} (hd : decode cc pc = .ok (.goto off, 3)) (h : (pc : Int) + off = (nx : Int)) : pr_E (ev_wm im ml) y cc ret nL pc (20, (nx, (0, (0, (0, []))))) := by
  exact ⟨off, hd, h⟩
theorem et_dup (hd : decode cc pc = .ok (.dup, 1)) : pr_E (ev_wm im ml) y cc ret nL pc (21, (pc + 1, (0, (0, (0, []))))) := by
  exact ⟨hd, rfl⟩
theorem et_dup2 (hd : decode cc pc = .ok (.dup2, 1)) : pr_E (ev_wm im ml) y cc ret nL pc (22, (pc + 1, (0, (0, (0, []))))) := by
  exact ⟨hd, rfl⟩
theorem et_pop (hd : decode cc pc = .ok (.pop, 1)) : pr_E (ev_wm im ml) y cc ret nL pc (23, (pc + 1, (0, (0, (0, []))))) := by
  exact ⟨hd, rfl⟩
theorem et_alen (hd : decode cc pc = .ok (.arraylength, 1)) : pr_E (ev_wm im ml) y cc ret nL pc (26, (pc + 1, (0, (0, (0, []))))) := by
  exact ⟨hd, rfl⟩
/-- what the tables give of a class -/
def et_Tm (C : String) (T : u_T) (N : Nat) (ty0 : Nat → FieldType) : Prop := (∀ x ∈ u_ws C T N, x ∈ ev_UW) ∧ (∀ k, k < N → parseFieldDescriptor (T k).2.2.1 = some (ty0 k)) ∧ (∀ x, x < N → ∀ y, y < N → x ≠ y → (T x).2.1 ≠ (T y).2.1)
def et_tc (c : Nat) (t : FieldType) : Prop := (c = 0 ∧ t = .int) ∨ (c = 1 ∧ t = .boolean) ∨ (c = 2 ∧ ((∃ C, t = .object C) ∨ ∃ t9, t = .array t9)) ∨ (c = 3 ∧ t = .long)
theorem et_getf {C : String} {T : u_T} {N ix : Nat} {ty0 : Nat → FieldType} (hT : et_Tm C T N ty0) (hc : vwCl[a]? = some (C, T, N)) (hN : b < N) (hd : decode cc pc = .ok (.getfield ix, 3)) (hf : Cond.fieldLink y.cls ix (T b).1 (T b).2.1 (T b).2.2.1 ∈ ev_UW) : pr_E (ev_wm im ml) y cc ret nL pc (24, (pc + 3, (a, (b, (0, []))))) := by
  show ev_i_getf cc y.cls (ev_wm im ml) pc (pc + 3) a b
  exact ⟨ix, C, T, N, hd, rfl, hc, hN, fun x hx => et_up (hT.1 x hx), Or.inl (et_up hf)⟩
theorem et_getfN {C : String} {T : u_T} {N ix : Nat} {ty0 : Nat → FieldType} (hT : et_Tm C T N ty0) (hc : vwCl[a]? = some (C, T, N)) (hN : b < N) {host : String} (hd : decode cc pc = .ok (.getfield ix, 3)) (hf : Cond.fieldLinkNest y.cls ix (T b).1 (T b).2.1 (T b).2.2.1 host ∈ lw_tbl) : pr_E (ev_wm im ml) y cc ret nL pc (24, (pc + 3, (a, (b, (0, []))))) := by
  show ev_i_getf cc y.cls (ev_wm im ml) pc (pc + 3) a b
  exact ⟨ix, C, T, N, hd, rfl, hc, hN, fun x hx => et_up (hT.1 x hx), Or.inr ⟨host, hf⟩⟩
theorem et_putf {C : String} {T : u_T} {N ix : Nat} {ty0 : Nat → FieldType} (hT : et_Tm C T N ty0) (hc : vwCl[a]? = some (C, T, N)) (hN : b < N) (ht : et_tc c (ty0 b)) (hd : decode cc pc = .ok (.putfield ix, 3)) (hfi : (T b).2.2.2 = false) (hf : Cond.fieldLink y.cls ix (T b).1 (T b).2.1 (T b).2.2.1 ∈ ev_UW) : pr_E (ev_wm im ml) y cc ret nL pc (25, (pc + 3, (a, (b, (c, []))))) := by
  show ev_i_putf cc y.cls y.name (ev_wm im ml) pc (pc + 3) a b c
  exact ⟨ix, C, T, N, ty0, hd, rfl, hc, hN, fun x hx => et_up (hT.1 x hx), hT.2.1, hT.2.2, ht, Or.inl ⟨hfi, Or.inl (et_up hf)⟩⟩
theorem et_putfN {C : String} {T : u_T} {N ix : Nat} {ty0 : Nat → FieldType} (hT : et_Tm C T N ty0) (hc : vwCl[a]? = some (C, T, N)) (hN : b < N) (ht : et_tc c (ty0 b)) (hd : decode cc pc = .ok (.putfield ix, 3)) (hfi : (T b).2.2.2 = false) {host : String} (hf : Cond.fieldLinkNest y.cls ix (T b).1 (T b).2.1 (T b).2.2.1 host ∈ lw_tbl) : pr_E (ev_wm im ml) y cc ret nL pc (25, (pc + 3, (a, (b, (c, []))))) := by
  show ev_i_putf cc y.cls y.name (ev_wm im ml) pc (pc + 3) a b c
  exact ⟨ix, C, T, N, ty0, hd, rfl, hc, hN, fun x hx => et_up (hT.1 x hx), hT.2.1, hT.2.2, ht, Or.inl ⟨hfi, Or.inr ⟨host, hf⟩⟩⟩
theorem et_putfF {C : String} {T : u_T} {N ix : Nat} {ty0 : Nat → FieldType} (hT : et_Tm C T N ty0) (hc : vwCl[a]? = some (C, T, N)) (hN : b < N) (ht : et_tc c (ty0 b)) (hd : decode cc pc = .ok (.putfield ix, 3)) (hfi : (T b).2.2.2 = true) (hm : y.name = "<init>") (ho : (T b).1 = y.cls) (hf : Cond.fieldLink y.cls ix (T b).1 (T b).2.1 (T b).2.2.1 ∈ ev_UW) : pr_E (ev_wm im ml) y cc ret nL pc (25, (pc + 3, (a, (b, (c, []))))) := by
  show ev_i_putf cc y.cls y.name (ev_wm im ml) pc (pc + 3) a b c
  exact ⟨ix, C, T, N, ty0, hd, rfl, hc, hN, fun x hx => et_up (hT.1 x hx), hT.2.1, hT.2.2, ht, Or.inr ⟨hfi, hm, ho, et_up hf⟩⟩
theorem et_iald (hd : decode cc pc = .ok (.iaload, 1)) : pr_E (ev_wm im ml) y cc ret nL pc (27, (pc + 1, (20, (20, (0, []))))) := by
  exact ⟨rfl, rfl, hd, rfl⟩
theorem et_iast (hd : decode cc pc = .ok (.iastore, 1)) : pr_E (ev_wm im ml) y cc ret nL pc (28, (pc + 1, (0, (0, (0, []))))) := by
  exact ⟨hd, rfl⟩
theorem et_bast (hd : decode cc pc = .ok (.bastore, 1)) : pr_E (ev_wm im ml) y cc ret nL pc (30, (pc + 1, (0, (0, (0, []))))) := by
  exact ⟨hd, rfl⟩
theorem et_last (hd : decode cc pc = .ok (.lastore, 1)) : pr_E (ev_wm im ml) y cc ret nL pc (31, (pc + 1, (0, (0, (0, []))))) := by
  exact ⟨hd, rfl⟩
theorem et_aast (hd : decode cc pc = .ok (.aastore, 1)) : pr_E (ev_wm im ml) y cc ret nL pc (32, (pc + 1, (0, (0, (0, []))))) := by
  exact ⟨hd, rfl⟩
theorem et_bald (hd : decode cc pc = .ok (.baload, 1)) : pr_E (ev_wm im ml) y cc ret nL pc (29, (pc + 1, (21, (22, (0, []))))) := by
  show ev_i_ald cc pc (pc + 1) 21 22
  exact ⟨Or.inr (Or.inl ⟨rfl, rfl, hd⟩), rfl⟩
theorem et_lald (hd : decode cc pc = .ok (.laload, 1)) : pr_E (ev_wm im ml) y cc ret nL pc (29, (pc + 1, (23, (23, (0, []))))) := by
  show ev_i_ald cc pc (pc + 1) 23 23
  exact ⟨Or.inr (Or.inr (Or.inl ⟨rfl, rfl, hd⟩)), rfl⟩
theorem et_aald2 (hd : decode cc pc = .ok (.aaload, 1)) : pr_E (ev_wm im ml) y cc ret nL pc (29, (pc + 1, (26, (28, (0, []))))) := by
  show ev_i_ald cc pc (pc + 1) 26 28
  exact ⟨Or.inr (Or.inr (Or.inr (Or.inr ⟨rfl, rfl, hd⟩))), rfl⟩
theorem et_aald (hd : decode cc pc = .ok (.aaload, 1)) : pr_E (ev_wm im ml) y cc ret nL pc (29, (pc + 1, (24, (25, (0, []))))) := by
  show ev_i_ald cc pc (pc + 1) 24 25
  exact ⟨Or.inr (Or.inr (Or.inr (Or.inl ⟨rfl, rfl, hd⟩))), rfl⟩
theorem et_new {C : String} {T : u_T} {N ix : Nat} {ty0 : Nat → FieldType} (hT : et_Tm C T N ty0) (hc : vwCl[a]? = some (C, T, N)) (hd : decode cc pc = .ok (.new ix, 3)) (h32 : N ≤ 32) (h3 : ∀ k, k < N → ev_dc (ty0 k) < 3) (htg : tg = (List.range N).map (fun k => ev_dc (ty0 k))) (h1 : Cond.classLink y.cls ix C ∈ ev_UW) (h2 : Cond.instantiable C N ∈ ev_UW) (h4 : Cond.initialized C ∈ ev_UW) : pr_E (ev_wm im ml) y cc ret nL pc (33, (pc + 3, (a, (N, (0, tg))))) := by
  show ev_i_new cc y.cls (ev_wm im ml) pc (pc + 3) a N tg
  exact ⟨ix, C, T, N, ty0, hd, rfl, hc, rfl, h32, fun x hx => et_up (hT.1 x hx), hT.2.1, h3, htg, et_up h1, et_up h2, et_up h4⟩
theorem et_newa {at9 : ArrayType} (hd : decode cc pc = .ok (.newarray at9, 2)) (h1 : newarray.typeOf at9 = ev_ty a) (h2 : 20 ≤ a) (h3 : a ≤ 21) (h4 : b = ev_dc (ev_ty a)) (hw : Cond.arrayClass (newarray.typeOf at9) ∈ ev_UW) : pr_E (ev_wm im ml) y cc ret nL pc (34, (pc + 2, (a, (b, (0, []))))) := by
  show ev_i_newa cc y.cls (ev_wm im ml) pc (pc + 2) a b
  exact Or.inl ⟨at9, hd, rfl, h1, h2, h3, h4, et_up hw⟩
theorem et_anewa {ix : Nat} {C : String} (hd : decode cc pc = .ok (.anewarray ix, 3)) (h1 : 24 ≤ a) (h2 : a ≤ 28) (h3 : ev_ty a = .object C) (hw : Cond.classLink y.cls ix C ∈ ev_UW) (hv : Cond.arrayOver (.object C) ∈ lw_tbl) : pr_E (ev_wm im ml) y cc ret nL pc (34, (pc + 3, (a, (1, (0, []))))) := by
  show ev_i_newa cc y.cls (ev_wm im ml) pc (pc + 3) a 1
  exact Or.inr ⟨ix, C, hd, rfl, h1, h2, h3, rfl, et_up hw, hv⟩
/-- what the tables give of a called method i, n arguments, most locals ml9, what it makes at the most -/
def pr_G (i n ml9 mc ms : Nat) : Prop := (pr_P i).1 = ml9 ∧ (pr_P i).2.1 = mc ∧ (pr_P i).2.2.1 = ms ∧ ml9 ≤ 51 ∧ ev_cw (pr_I i) (pr_P i).1 ∈ ev_UW ∧ Cond.initialized (pr_I i).1.cls ∈ ev_UW ∧ ((pr_I i).1.cls ≠ "java/lang/invoke/MethodHandle" ∧ (pr_I i).1.cls ≠ "java/lang/invoke/VarHandle" ∧ (parseMethodDescriptor (pr_I i).1.desc).map (fun d => d.parameters.length) = some n)
def pr_GV (i ci : Nat) : Prop := (∃ rr : vw_C, vwCl[ci]? = some rr ∧ rr.1 = (pr_I i).1.cls) ∧ (pr_I i).2.2.2 = [] ∧ Cond.instanceMethod (pr_I i).1 ∈ ev_UW ∧ Cond.selects (pr_I i).1.cls (pr_I i).1 (pr_I i).1 ∈ ev_UW
def pr_GI (i ci : Nat) : Prop := (∃ rr : vw_C, vwCl[ci]? = some rr) ∧ (pr_I i).2.2.2 = [] ∧ (pr_I i).1.name = "<init>" ∧ (pr_I i).2.2.1 = none ∧ Cond.instanceMethod (pr_I i).1 ∈ ev_UW
theorem et_callV {ix n ml9 mc ms ci : Nat} (hG : pr_G a n ml9 mc ms) (hmb : n + 1 ≤ ml9) (ho : Cond.initialized y.cls ∈ ev_UW) (hV : pr_GV a ci) (hd : decode cc pc = .ok (.invokevirtual ix, 3)) (hl : Cond.methodLink y.cls ix (pr_I a).1 ∈ ev_UW) : pr_E (ev_wm im ml) y cc ret nL pc (35, (pc + 3, (a, (n + 1, (ci + 1, [mc, ms]))))) := by
  show ev_i_call pr_I pr_P cc y.cls pc (pc + 3) a (n + 1) (ci + 1) [mc, ms]
  exact ⟨ix, n, rfl, by rw [hG.2.1, hG.2.2.1], by rw [hG.1]; exact hG.2.2.2.1, by rw [hG.1]; exact hmb, hG.2.2.2.2.1, hG.2.2.2.2.2.1, hG.2.2.2.2.2.2, ho, Or.inl ⟨hd, rfl, ⟨ci, hV.1.choose, rfl, hV.1.choose_spec.1, hV.1.choose_spec.2⟩, hV.2.1, hl, hV.2.2.1, hV.2.2.2⟩⟩
theorem et_callS {ix n ml9 mc ms : Nat} (hG : pr_G a n ml9 mc ms) (hmb : n ≤ ml9) (ho : Cond.initialized y.cls ∈ ev_UW) (hd : decode cc pc = .ok (.invokestatic ix, 3)) (hl : Cond.methodLink y.cls ix (pr_I a).1 ∈ ev_UW) (hs : Cond.static (pr_I a).1 ∈ ev_UW) : pr_E (ev_wm im ml) y cc ret nL pc (35, (pc + 3, (a, (n, (0, [mc, ms]))))) := by
  show ev_i_call pr_I pr_P cc y.cls pc (pc + 3) a n 0 [mc, ms]
  exact ⟨ix, n, rfl, by rw [hG.2.1, hG.2.2.1], by rw [hG.1]; exact hG.2.2.2.1, by rw [hG.1]; exact hmb, hG.2.2.2.2.1, hG.2.2.2.2.2.1, hG.2.2.2.2.2.2, ho, Or.inr (Or.inl ⟨hd, rfl, rfl, hl, hs⟩)⟩
theorem et_callI {ix n ml9 mc ms ci : Nat} (hG : pr_G a n ml9 mc ms) (hmb : n + 1 ≤ ml9) (ho : Cond.initialized y.cls ∈ ev_UW) (hI : pr_GI a ci) (hd : decode cc pc = .ok (.invokespecial ix, 3)) (hl : Cond.methodLink y.cls ix (pr_I a).1 ∈ ev_UW) : pr_E (ev_wm im ml) y cc ret nL pc (35, (pc + 3, (a, (n + 1, (ci + 1, [mc, ms]))))) := by
  show ev_i_call pr_I pr_P cc y.cls pc (pc + 3) a (n + 1) (ci + 1) [mc, ms]
  exact ⟨ix, n, rfl, by rw [hG.2.1, hG.2.2.1], by rw [hG.1]; exact hG.2.2.2.1, by rw [hG.1]; exact hmb, hG.2.2.2.2.1, hG.2.2.2.2.2.1, hG.2.2.2.2.2.2, ho, Or.inr (Or.inr ⟨hd, rfl, ⟨ci, hI.1.choose, rfl, hI.1.choose_spec⟩, hI.2.1, hI.2.2.1, hI.2.2.2.1, hI.2.2.2.2, Or.inl hl⟩)⟩
theorem et_callN {ix n ml9 mc ms ci : Nat} (hG : pr_G a n ml9 mc ms) (hmb : n + 1 ≤ ml9) (ho : Cond.initialized y.cls ∈ ev_UW) {host : String} (hI : pr_GI a ci) (hd : decode cc pc = .ok (.invokespecial ix, 3)) (hl : Cond.methodLinkNest y.cls ix (pr_I a).1 host ∈ lw_tbl) : pr_E (ev_wm im ml) y cc ret nL pc (35, (pc + 3, (a, (n + 1, (ci + 1, [mc, ms]))))) := by
  show ev_i_call pr_I pr_P cc y.cls pc (pc + 3) a (n + 1) (ci + 1) [mc, ms]
  exact ⟨ix, n, rfl, by rw [hG.2.1, hG.2.2.1], by rw [hG.1]; exact hG.2.2.2.1, by rw [hG.1]; exact hmb, hG.2.2.2.2.1, hG.2.2.2.2.2.1, hG.2.2.2.2.2.2, ho, Or.inr (Or.inr ⟨hd, rfl, ⟨ci, hI.1.choose, rfl, hI.1.choose_spec⟩, hI.2.1, hI.2.2.1, hI.2.2.2.1, hI.2.2.2.2, Or.inr ⟨host, hl⟩⟩)⟩
theorem et_objinit {ix : Nat} (hd : decode cc pc = .ok (.invokespecial ix, 3)) (h1 : Cond.methodLink y.cls ix Lib.objectInit ∈ ev_UW) (h2 : Cond.instanceMethod Lib.objectInit ∈ ev_UW) (h3 : Cond.code Lib.objectInit ⟨#[0xb1]⟩ 1 none ∈ ev_UW) : pr_E (ev_wm im ml) y cc ret nL pc (36, (pc + 3, (0, (0, (0, []))))) := by
  show ev_i_objinit cc y.cls (ev_wm im ml) pc (pc + 3)
  exact ⟨ix, hd, rfl, et_up h1, et_up h2, et_up h3⟩
/-- what the tables give of a throw -/
def pr_X (own : String) (ik ic a : Nat) : Prop := Cond.classLink own ik (ev_ex a) ∈ ev_UW ∧ Cond.initialized (ev_ex a) ∈ ev_UW ∧ (∀ x ∈ (ev_xat own ic a).filter goodWord, x ∈ ev_UW) ∧
      (∀ x ∈ (ev_xat own ic a).filter (fun w => !goodWord w), x ∈ lw_tbl ∧ ev_bw x = true ∧ x.onTables = true) ∧
      (∀ x ∈ Cond.classLink own ik (ev_ex a) :: Cond.initialized (ev_ex a) :: ev_xat own ic a, vx_ot x = true)
theorem et_throw {ik is9 ic : Nat} {text : String} (hX : pr_X y.cls ik ic a) (ha : a < 4) (hd : decode cc pc = .ok (.new ik, 3)) (hd2 : decode cc (pc + 3) = .ok (.dup, 1)) (hd3 : decode cc (pc + 4) = .ok (.ldc is9, 2)) (hd4 : decode cc (pc + 6) = .ok (.invokespecial ic, 3)) (hd5 : decode cc (pc + 9) = .ok (.athrow, 1)) (hS : (y.cls, (is9, text)) ∈ pr_S) : pr_E (ev_wm im ml) y cc ret nL pc (37, (0, (a, (0, (0, []))))) := by
  show ev_i_throw cc y.cls (ev_wm im ml) pr_S pc a
  exact ⟨ik, is9, ic, text, ha, hd, hd2, Or.inl ⟨hd3, hd4, hd5⟩, et_up hX.1, et_up hX.2.1, hS, fun x hx => et_up (hX.2.2.1 x hx), hX.2.2.2.1, hX.2.2.2.2⟩
theorem et_throwW {ik is9 ic : Nat} {text : String} (hX : pr_X y.cls ik ic a) (ha : a < 4) (hd : decode cc pc = .ok (.new ik, 3)) (hd2 : decode cc (pc + 3) = .ok (.dup, 1)) (hd3 : decode cc (pc + 4) = .ok (.ldc_w is9, 3)) (hd4 : decode cc (pc + 7) = .ok (.invokespecial ic, 3)) (hd5 : decode cc (pc + 10) = .ok (.athrow, 1)) (hS : (y.cls, (is9, text)) ∈ pr_S) : pr_E (ev_wm im ml) y cc ret nL pc (37, (0, (a, (0, (0, []))))) := by
  show ev_i_throw cc y.cls (ev_wm im ml) pr_S pc a
  exact ⟨ik, is9, ic, text, ha, hd, hd2, Or.inr ⟨hd3, hd4, hd5⟩, et_up hX.1, et_up hX.2.1, hS, fun x hx => et_up (hX.2.2.1 x hx), hX.2.2.2.1, hX.2.2.2.2⟩
theorem et_vret (hd : decode cc pc = .ok (.return_, 1)) (h : ret = none) : pr_E (ev_wm im ml) y cc ret nL pc (38, (nx, (0, (0, (0, []))))) := by
  exact ⟨hd, h⟩
theorem et_iret (hd : decode cc pc = .ok (.ireturn, 1)) (h : ret = some .int) : pr_E (ev_wm im ml) y cc ret nL pc (39, (nx, (0, (0, (0, []))))) := by
  exact ⟨hd, Or.inl ⟨rfl, h⟩⟩
theorem et_zret (hd : decode cc pc = .ok (.ireturn, 1)) (h : ret = some .boolean) : pr_E (ev_wm im ml) y cc ret nL pc (39, (nx, (1, (0, (0, []))))) := by
  exact ⟨hd, Or.inr ⟨rfl, h⟩⟩
theorem et_aretO {C : String} (hd : decode cc pc = .ok (.areturn, 1)) (h : ret = some (.object C)) : pr_E (ev_wm im ml) y cc ret nL pc (40, (nx, (0, (0, (0, []))))) := by
  exact ⟨hd, _, h, Or.inl ⟨C, rfl⟩⟩
theorem et_fret (hd : decode cc pc = .ok (.freturn, 1)) (h : ret = some .float) : pr_E (ev_wm im ml) y cc ret nL pc (41, (nx, (1, (0, (0, []))))) := by
  exact Or.inl ⟨rfl, hd, h⟩
theorem et_dret (hd : decode cc pc = .ok (.dreturn, 1)) (h : ret = some .double) : pr_E (ev_wm im ml) y cc ret nL pc (41, (nx, (2, (0, (0, []))))) := by
  exact Or.inr ⟨rfl, hd, h⟩
def et_tg (pc : Nat) (tg : List Nat) (offs : List Int) : Prop := tg.map (fun (t : Nat) => (t : Int)) = offs.map (fun off => (pc : Int) + off)
theorem et_tg_d {pc : Nat} {tg : List Nat} {offs : List Int} (h : tg.map (fun (t : Nat) => (t : Int)) = offs.map (fun off => (pc : Int) + off)) : et_tg pc tg offs := h
theorem et_tg_ok {pc : Nat} {tg : List Nat} {offs : List Int} (h : et_tg pc tg offs) : ∀ (j t : Nat), tg[j]? = some t → ∃ off, offs.toArray[j]? = some off ∧ (pc : Int) + off = (t : Int) := by
  intro j t hj
  have h1 : (tg.map (fun (t : Nat) => (t : Int)))[j]? = some (t : Int) := by rw [List.getElem?_map, hj]; rfl
  unfold et_tg at h
  rw [h, List.getElem?_map] at h1
  cases h2 : offs[j]? with
  | none => rw [h2] at h1; cases h1
  | some off =>
    rw [h2] at h1
    refine ⟨off, ?_, Option.some.inj h1⟩
    rw [List.getElem?_toArray, h2]
theorem et_switch {df lo hi9 : Int} {offs : List Int} {len : Nat} (hd : decode cc pc = .ok (.tableswitch df lo hi9 offs.toArray, len)) (h1 : -2147483648 ≤ lo) (h2 : -2147483648 ≤ hi9) (h3 : a = (lo + 2147483648).toNat) (h4 : b = (hi9 + 2147483648).toNat) (h5 : (pc : Int) + df = (c : Int)) (h6 : et_tg pc tg offs) : pr_E (ev_wm im ml) y cc ret nL pc (42, (nx, (a, (b, (c, tg))))) := by
  show ev_i_switch cc pc a b c tg
  exact ⟨df, lo, hi9, offs.toArray, len, hd, h1, h2, h3, h4, h5, et_tg_ok h6⟩
theorem et_i2l (hd : decode cc pc = .ok (.i2l, 1)) : pr_E (ev_wm im ml) y cc ret nL pc (43, (pc + 1, (0, (0, (0, []))))) := by
  show ev_i_cv cc pc (pc + 1) 0
  exact ⟨Or.inl ⟨rfl, hd⟩, rfl⟩
theorem et_l2i (hd : decode cc pc = .ok (.l2i, 1)) : pr_E (ev_wm im ml) y cc ret nL pc (43, (pc + 1, (1, (0, (0, []))))) := by
  show ev_i_cv cc pc (pc + 1) 1
  exact ⟨Or.inr (Or.inl ⟨rfl, hd⟩), rfl⟩
theorem et_i2d (hd : decode cc pc = .ok (.i2d, 1)) : pr_E (ev_wm im ml) y cc ret nL pc (43, (pc + 1, (2, (0, (0, []))))) := by
  show ev_i_cv cc pc (pc + 1) 2
  exact ⟨Or.inr (Or.inr (Or.inl ⟨rfl, hd⟩)), rfl⟩
theorem et_i2f (hd : decode cc pc = .ok (.i2f, 1)) : pr_E (ev_wm im ml) y cc ret nL pc (43, (pc + 1, (3, (0, (0, []))))) := by
  show ev_i_cv cc pc (pc + 1) 3
  exact ⟨Or.inr (Or.inr (Or.inr (Or.inl ⟨rfl, hd⟩))), rfl⟩
theorem et_f2d (hd : decode cc pc = .ok (.f2d, 1)) : pr_E (ev_wm im ml) y cc ret nL pc (43, (pc + 1, (4, (0, (0, []))))) := by
  show ev_i_cv cc pc (pc + 1) 4
  exact ⟨Or.inr (Or.inr (Or.inr (Or.inr (Or.inl ⟨rfl, hd⟩)))), rfl⟩
theorem et_i2b (hd : decode cc pc = .ok (.i2b, 1)) : pr_E (ev_wm im ml) y cc ret nL pc (43, (pc + 1, (5, (0, (0, []))))) := by
  show ev_i_cv cc pc (pc + 1) 5
  exact ⟨Or.inr (Or.inr (Or.inr (Or.inr (Or.inr (Or.inl ⟨rfl, hd⟩))))), rfl⟩
theorem et_i2c (hd : decode cc pc = .ok (.i2c, 1)) : pr_E (ev_wm im ml) y cc ret nL pc (43, (pc + 1, (6, (0, (0, []))))) := by
  show ev_i_cv cc pc (pc + 1) 6
  exact ⟨Or.inr (Or.inr (Or.inr (Or.inr (Or.inr (Or.inr (⟨rfl, hd⟩)))))), rfl⟩
theorem et_w2_0 (hd : decode cc pc = .ok (.ddiv, 1)) : pr_E (ev_wm im ml) y cc ret nL pc (44, (pc + 1, (0, (0, (0, []))))) := by
  show ev_i_w2 cc y.cls (ev_wm im ml) pc (pc + 1) 0
  exact Or.inl ⟨Or.inl ⟨rfl, hd⟩, rfl⟩
theorem et_w2_1 (hd : decode cc pc = .ok (.fdiv, 1)) : pr_E (ev_wm im ml) y cc ret nL pc (44, (pc + 1, (1, (0, (0, []))))) := by
  show ev_i_w2 cc y.cls (ev_wm im ml) pc (pc + 1) 1
  exact Or.inl ⟨Or.inr (Or.inl ⟨rfl, hd⟩), rfl⟩
theorem et_w2_2 (hd : decode cc pc = .ok (.dcmp .l, 1)) : pr_E (ev_wm im ml) y cc ret nL pc (44, (pc + 1, (2, (0, (0, []))))) := by
  show ev_i_w2 cc y.cls (ev_wm im ml) pc (pc + 1) 2
  exact Or.inl ⟨Or.inr (Or.inr (Or.inl ⟨rfl, hd⟩)), rfl⟩
theorem et_w2_3 (hd : decode cc pc = .ok (.dcmp .g, 1)) : pr_E (ev_wm im ml) y cc ret nL pc (44, (pc + 1, (3, (0, (0, []))))) := by
  show ev_i_w2 cc y.cls (ev_wm im ml) pc (pc + 1) 3
  exact Or.inl ⟨Or.inr (Or.inr (Or.inr (Or.inl ⟨rfl, hd⟩))), rfl⟩
theorem et_w2_4 (hd : decode cc pc = .ok (.lcmp, 1)) : pr_E (ev_wm im ml) y cc ret nL pc (44, (pc + 1, (4, (0, (0, []))))) := by
  show ev_i_w2 cc y.cls (ev_wm im ml) pc (pc + 1) 4
  exact Or.inl ⟨Or.inr (Or.inr (Or.inr (Or.inr (Or.inl ⟨rfl, hd⟩)))), rfl⟩
theorem et_w2_5 (hd : decode cc pc = .ok (.lshr, 1)) : pr_E (ev_wm im ml) y cc ret nL pc (44, (pc + 1, (5, (0, (0, []))))) := by
  show ev_i_w2 cc y.cls (ev_wm im ml) pc (pc + 1) 5
  exact Or.inl ⟨Or.inr (Or.inr (Or.inr (Or.inr (Or.inr (Or.inl ⟨rfl, hd⟩))))), rfl⟩
theorem et_w2_6 (hd : decode cc pc = .ok (.lshl, 1)) : pr_E (ev_wm im ml) y cc ret nL pc (44, (pc + 1, (6, (0, (0, []))))) := by
  show ev_i_w2 cc y.cls (ev_wm im ml) pc (pc + 1) 6
  exact Or.inl ⟨Or.inr (Or.inr (Or.inr (Or.inr (Or.inr (Or.inr (Or.inl ⟨rfl, hd⟩)))))), rfl⟩
theorem et_w2_7 (hd : decode cc pc = .ok (.land, 1)) : pr_E (ev_wm im ml) y cc ret nL pc (44, (pc + 1, (7, (0, (0, []))))) := by
  show ev_i_w2 cc y.cls (ev_wm im ml) pc (pc + 1) 7
  exact Or.inl ⟨Or.inr (Or.inr (Or.inr (Or.inr (Or.inr (Or.inr (Or.inr (Or.inl ⟨rfl, hd⟩))))))), rfl⟩
theorem et_w2_8 (hd : decode cc pc = .ok (.lor, 1)) : pr_E (ev_wm im ml) y cc ret nL pc (44, (pc + 1, (8, (0, (0, []))))) := by
  show ev_i_w2 cc y.cls (ev_wm im ml) pc (pc + 1) 8
  exact Or.inl ⟨Or.inr (Or.inr (Or.inr (Or.inr (Or.inr (Or.inr (Or.inr (Or.inr (⟨rfl, hd⟩)))))))), rfl⟩
theorem et_max {ix : Nat} (hd : decode cc pc = .ok (.invokestatic ix, 3)) (h1 : Cond.methodLink y.cls ix Lib.Math.max.name ∈ ev_UW) (h2 : Cond.static Lib.Math.max.name ∈ ev_UW) (h3 : Cond.initialized "java/lang/Math" ∈ ev_UW) (h4 : Cond.code Lib.Math.max.name Lib.Math.max.code 2 (some .int) ∈ ev_UW) : pr_E (ev_wm im ml) y cc ret nL pc (44, (pc + 3, (9, (0, (0, []))))) := by
  show ev_i_w2 cc y.cls (ev_wm im ml) pc (pc + 3) 9
  exact Or.inr ⟨ix, rfl, hd, rfl, et_up h1, et_up h2, et_up h3, et_up h4⟩
theorem et_copy {ix : Nat} (hd : decode cc pc = .ok (.invokestatic ix, 3)) (h1 : Cond.methodLink y.cls ix arraycopyName ∈ ev_UW) (h2 : Cond.native arraycopyName ∈ ev_UW) (h3 : Cond.static arraycopyName ∈ ev_UW) (h4 : Cond.initialized "java/lang/System" ∈ ev_UW) : pr_E (ev_wm im ml) y cc ret nL pc (45, (pc + 3, (0, (0, (0, []))))) := by
  show ev_i_copy cc y.cls (ev_wm im ml) pc (pc + 3)
  exact ⟨ix, hd, rfl, et_up h1, et_up h2, et_up h3, et_up h4⟩
theorem et_idiv (hd : decode cc pc = .ok (.idiv, 1)) : pr_E (ev_wm im ml) y cc ret nL pc (47, (pc + 1, (0, (0, (0, []))))) := by
  show ev_i_idiv cc pc (pc + 1) 0
  exact ⟨Or.inl ⟨rfl, hd⟩, rfl⟩
theorem et_irem (hd : decode cc pc = .ok (.irem, 1)) : pr_E (ev_wm im ml) y cc ret nL pc (47, (pc + 1, (1, (0, (0, []))))) := by
  show ev_i_idiv cc pc (pc + 1) 1
  exact ⟨Or.inr ⟨rfl, hd⟩, rfl⟩
theorem et_stop : pr_E (ev_wm im ml) y cc ret nL pc (46, (0, (0, (0, (0, []))))) := trivial
theorem et_iand63 (hd : decode cc pc = .ok (.iand, 1)) : pr_E (ev_wm im ml) y cc ret nL pc (48, (pc + 1, (1, (0, (0, []))))) := by
  show (1 : Nat) = 1 ∧ decode cc pc = .ok (.iand, 1) ∧ pc + 1 = pc + 1
  exact ⟨rfl, hd, rfl⟩
theorem et_ldcs (hd : decode cc pc = .ok (.ldc (ev_sk a).2.1, 2)) (h : y.cls = (ev_sk a).1) (ha : a < 26) : pr_E (ev_wm im ml) y cc ret nL pc (49, (pc + 2, (a, (0, (0, []))))) := by
  show ev_i_ldcs cc y.cls pc (pc + 2) a
  exact ⟨ha, h, hd, rfl⟩
theorem et_slen {ix : Nat} (hd : decode cc pc = .ok (.invokevirtual ix, 3)) (hw : Cond.methodLink y.cls ix js_ln ∈ ev_UW) (hJ : ∀ x ∈ js_ws, x ∈ ev_UW) : pr_E (ev_wm im ml) y cc ret nL pc (50, (pc + 3, (0, (0, (0, []))))) := by
  show ev_i_str cc y.cls pc (pc + 3) js_ln
  exact ⟨ix, hd, rfl, hw, hJ⟩
theorem et_chat {ix : Nat} (hd : decode cc pc = .ok (.invokevirtual ix, 3)) (hw : Cond.methodLink y.cls ix js_ch ∈ ev_UW) (hJ : ∀ x ∈ js_ws, x ∈ ev_UW) : pr_E (ev_wm im ml) y cc ret nL pc (51, (pc + 3, (0, (0, (0, []))))) := by
  show ev_i_str cc y.cls pc (pc + 3) js_ch
  exact ⟨ix, hd, rfl, hw, hJ⟩
end ENT
