/-! ===== instructions decoded from a method's bytes, all of a method by one yes or no (own work, by program: wip/p2/gen3.py) ===== -/
noncomputable def bx (L : List Nat) : Nat → Nat → Bool :=
  List.rec (motive := fun _ => Nat → Nat → Bool) (fun _ _ => false) (fun x _ ih i b => Nat.rec (motive := fun _ => Bool) (Nat.beq x b) (fun k _ => ih k b) i) L
theorem bx_t {L : List Nat} : ∀ {i b : Nat}, bx L i b = true → L[i]? = some b := by
  induction L with
  | nil => intro i b h; exact absurd h (fun z => by cases z)
  | cons x t ih =>
    intro i b h
    cases i with
    | zero =>
      have h : Nat.beq x b = true := h
      rw [Nat.eq_of_beq_eq_true h]
      rfl
    | succ k =>
      have h : bx t k b = true := h
      rw [List.getElem?_cons_succ]
      exact ih h
theorem bx_2 {a b : Prop} {x y : Bool} (ha : x = true → a) (hb : y = true → b) (h : (x && y) = true) : a ∧ b := by
  rw [Bool.and_eq_true] at h
  exact ⟨ha h.1, hb h.2⟩
section DQB
variable {c : ByteArray} {L : List Nat} {pc a i : Nat}
theorem dk_s1 (h0 : DB c i a) : (Jvm.ClassFile.Reader.s1 : Jvm.ClassFile.Decoder Int) c i = .ok (Jvm.ClassFile.Reader.signed 8 a, i + 1) := by
  show Except.bind ((Jvm.ClassFile.Reader.u1 : Jvm.ClassFile.Decoder Nat) c i) (fun z => Except.ok (Jvm.ClassFile.Reader.signed 8 z.1, z.2)) = _
  rw [dk_u1 h0]
  rfl
set_option maxRecDepth 100000 in
theorem dq_42 (hL : c.data.toList.map UInt8.toNat = L) (h : bx L pc 42 = true) : decode c pc = .ok (.aload_n 0, 1) := by
  have h0 : DB c pc 42 := dk_bt hL (bx_t h)
  have e : Jvm.ClassFile.Decoder.instr pc c pc = .ok (.aload_n 0, pc + 1) := by
    unfold Jvm.ClassFile.Decoder.instr
    refine (dk_bind (dk_u1 h0)).trans ?_
    rfl
  rw [dk_dec e, show pc + 1 - pc = 1 by omega]
set_option maxRecDepth 100000 in
theorem dq_183 {b : Nat} {ix : Nat} (hL : c.data.toList.map UInt8.toNat = L) (h : (bx L pc 183 && (bx L (pc + 1) a && (bx L (pc + 1 + 1) b && decide (a * 256 + b = ix)))) = true) : decode c pc = .ok (.invokespecial ix, 3) := by
  simp only [Bool.and_eq_true, decide_eq_true_eq] at h
  have h0 : DB c pc 183 := dk_bt hL (bx_t h.1)
  have h1 : DB c (pc + 1) a := dk_bt hL (bx_t h.2.1)
  have h2 : DB c (pc + 1 + 1) b := dk_bt hL (bx_t h.2.2.1)
  have e : Jvm.ClassFile.Decoder.instr pc c pc = .ok (.invokespecial ix, pc + 1 + 2) := by
    unfold Jvm.ClassFile.Decoder.instr
    refine (dk_bind (dk_u1 h0)).trans ?_
    show ((Jvm.ClassFile.Reader.u2 >>= fun x => pure (.invokespecial x)) : Jvm.ClassFile.Decoder Jvm.ClassFile.Instr) c (pc + 1) = _
    rw [dk_bind (dk_u2 h1 h2), h.2.2.2]
    rfl
  rw [dk_dec e, show pc + 1 + 2 - pc = 3 by omega]
set_option maxRecDepth 100000 in
theorem dq_89 (hL : c.data.toList.map UInt8.toNat = L) (h : bx L pc 89 = true) : decode c pc = .ok (.dup, 1) := by
  have h0 : DB c pc 89 := dk_bt hL (bx_t h)
  have e : Jvm.ClassFile.Decoder.instr pc c pc = .ok (.dup, pc + 1) := by
    unfold Jvm.ClassFile.Decoder.instr
    refine (dk_bind (dk_u1 h0)).trans ?_
    rfl
  rw [dk_dec e, show pc + 1 - pc = 1 by omega]
set_option maxRecDepth 100000 in
theorem dq_181 {b : Nat} {ix : Nat} (hL : c.data.toList.map UInt8.toNat = L) (h : (bx L pc 181 && (bx L (pc + 1) a && (bx L (pc + 1 + 1) b && decide (a * 256 + b = ix)))) = true) : decode c pc = .ok (.putfield ix, 3) := by
  simp only [Bool.and_eq_true, decide_eq_true_eq] at h
  have h0 : DB c pc 181 := dk_bt hL (bx_t h.1)
  have h1 : DB c (pc + 1) a := dk_bt hL (bx_t h.2.1)
  have h2 : DB c (pc + 1 + 1) b := dk_bt hL (bx_t h.2.2.1)
  have e : Jvm.ClassFile.Decoder.instr pc c pc = .ok (.putfield ix, pc + 1 + 2) := by
    unfold Jvm.ClassFile.Decoder.instr
    refine (dk_bind (dk_u1 h0)).trans ?_
    show ((Jvm.ClassFile.Reader.u2 >>= fun x => pure (.putfield x)) : Jvm.ClassFile.Decoder Jvm.ClassFile.Instr) c (pc + 1) = _
    rw [dk_bind (dk_u2 h1 h2), h.2.2.2]
    rfl
  rw [dk_dec e, show pc + 1 + 2 - pc = 3 by omega]
set_option maxRecDepth 100000 in
theorem dq_3 (hL : c.data.toList.map UInt8.toNat = L) (h : bx L pc 3 = true) : decode c pc = .ok (.iconst 0, 1) := by
  have h0 : DB c pc 3 := dk_bt hL (bx_t h)
  have e : Jvm.ClassFile.Decoder.instr pc c pc = .ok (.iconst 0, pc + 1) := by
    unfold Jvm.ClassFile.Decoder.instr
    refine (dk_bind (dk_u1 h0)).trans ?_
    rfl
  rw [dk_dec e, show pc + 1 - pc = 1 by omega]
set_option maxRecDepth 100000 in
theorem dq_177 (hL : c.data.toList.map UInt8.toNat = L) (h : bx L pc 177 = true) : decode c pc = .ok (.return_, 1) := by
  have h0 : DB c pc 177 := dk_bt hL (bx_t h)
  have e : Jvm.ClassFile.Decoder.instr pc c pc = .ok (.return_, pc + 1) := by
    unfold Jvm.ClassFile.Decoder.instr
    refine (dk_bind (dk_u1 h0)).trans ?_
    rfl
  rw [dk_dec e, show pc + 1 - pc = 1 by omega]
set_option maxRecDepth 100000 in
theorem dq_180 {b : Nat} {ix : Nat} (hL : c.data.toList.map UInt8.toNat = L) (h : (bx L pc 180 && (bx L (pc + 1) a && (bx L (pc + 1 + 1) b && decide (a * 256 + b = ix)))) = true) : decode c pc = .ok (.getfield ix, 3) := by
  simp only [Bool.and_eq_true, decide_eq_true_eq] at h
  have h0 : DB c pc 180 := dk_bt hL (bx_t h.1)
  have h1 : DB c (pc + 1) a := dk_bt hL (bx_t h.2.1)
  have h2 : DB c (pc + 1 + 1) b := dk_bt hL (bx_t h.2.2.1)
  have e : Jvm.ClassFile.Decoder.instr pc c pc = .ok (.getfield ix, pc + 1 + 2) := by
    unfold Jvm.ClassFile.Decoder.instr
    refine (dk_bind (dk_u1 h0)).trans ?_
    show ((Jvm.ClassFile.Reader.u2 >>= fun x => pure (.getfield x)) : Jvm.ClassFile.Decoder Jvm.ClassFile.Instr) c (pc + 1) = _
    rw [dk_bind (dk_u2 h1 h2), h.2.2.2]
    rfl
  rw [dk_dec e, show pc + 1 + 2 - pc = 3 by omega]
set_option maxRecDepth 100000 in
theorem dq_58 (hL : c.data.toList.map UInt8.toNat = L) (h : (bx L pc 58 && bx L (pc + 1) a) = true) : decode c pc = .ok (.astore a, 2) := by
  simp only [Bool.and_eq_true] at h
  have h0 : DB c pc 58 := dk_bt hL (bx_t h.1)
  have h1 : DB c (pc + 1) a := dk_bt hL (bx_t h.2)
  have e : Jvm.ClassFile.Decoder.instr pc c pc = .ok (.astore a, pc + 1 + 1) := by
    unfold Jvm.ClassFile.Decoder.instr
    refine (dk_bind (dk_u1 h0)).trans ?_
    show ((Jvm.ClassFile.Reader.u1 >>= fun x => pure (.astore x)) : Jvm.ClassFile.Decoder Jvm.ClassFile.Instr) c (pc + 1) = _
    rw [dk_bind (dk_u1 h1)]
    rfl
  rw [dk_dec e, show pc + 1 + 1 - pc = 2 by omega]
set_option maxRecDepth 100000 in
theorem dq_25 (hL : c.data.toList.map UInt8.toNat = L) (h : (bx L pc 25 && bx L (pc + 1) a) = true) : decode c pc = .ok (.aload a, 2) := by
  simp only [Bool.and_eq_true] at h
  have h0 : DB c pc 25 := dk_bt hL (bx_t h.1)
  have h1 : DB c (pc + 1) a := dk_bt hL (bx_t h.2)
  have e : Jvm.ClassFile.Decoder.instr pc c pc = .ok (.aload a, pc + 1 + 1) := by
    unfold Jvm.ClassFile.Decoder.instr
    refine (dk_bind (dk_u1 h0)).trans ?_
    show ((Jvm.ClassFile.Reader.u1 >>= fun x => pure (.aload x)) : Jvm.ClassFile.Decoder Jvm.ClassFile.Instr) c (pc + 1) = _
    rw [dk_bind (dk_u1 h1)]
    rfl
  rw [dk_dec e, show pc + 1 + 1 - pc = 2 by omega]
set_option maxRecDepth 100000 in
theorem dq_16 {ix : Int} (hL : c.data.toList.map UInt8.toNat = L) (h : (bx L pc 16 && (bx L (pc + 1) a && decide (Jvm.ClassFile.Reader.signed 8 a = ix))) = true) : decode c pc = .ok (.bipush ix, 2) := by
  simp only [Bool.and_eq_true, decide_eq_true_eq] at h
  have h0 : DB c pc 16 := dk_bt hL (bx_t h.1)
  have h1 : DB c (pc + 1) a := dk_bt hL (bx_t h.2.1)
  have e : Jvm.ClassFile.Decoder.instr pc c pc = .ok (.bipush ix, pc + 1 + 1) := by
    unfold Jvm.ClassFile.Decoder.instr
    refine (dk_bind (dk_u1 h0)).trans ?_
    show ((Jvm.ClassFile.Reader.s1 >>= fun x => pure (.bipush x)) : Jvm.ClassFile.Decoder Jvm.ClassFile.Instr) c (pc + 1) = _
    rw [dk_bind (dk_s1 h1), h.2.2]
    rfl
  rw [dk_dec e, show pc + 1 + 1 - pc = 2 by omega]
set_option maxRecDepth 100000 in
theorem dq_96 (hL : c.data.toList.map UInt8.toNat = L) (h : bx L pc 96 = true) : decode c pc = .ok (.iadd, 1) := by
  have h0 : DB c pc 96 := dk_bt hL (bx_t h)
  have e : Jvm.ClassFile.Decoder.instr pc c pc = .ok (.iadd, pc + 1) := by
    unfold Jvm.ClassFile.Decoder.instr
    refine (dk_bind (dk_u1 h0)).trans ?_
    rfl
  rw [dk_dec e, show pc + 1 - pc = 1 by omega]
set_option maxRecDepth 100000 in
theorem dq_17 {b : Nat} {ix : Int} (hL : c.data.toList.map UInt8.toNat = L) (h : (bx L pc 17 && (bx L (pc + 1) a && (bx L (pc + 1 + 1) b && decide (Jvm.ClassFile.Reader.signed 16 (a * 256 + b) = ix)))) = true) : decode c pc = .ok (.sipush ix, 3) := by
  simp only [Bool.and_eq_true, decide_eq_true_eq] at h
  have h0 : DB c pc 17 := dk_bt hL (bx_t h.1)
  have h1 : DB c (pc + 1) a := dk_bt hL (bx_t h.2.1)
  have h2 : DB c (pc + 1 + 1) b := dk_bt hL (bx_t h.2.2.1)
  have e : Jvm.ClassFile.Decoder.instr pc c pc = .ok (.sipush ix, pc + 1 + 2) := by
    unfold Jvm.ClassFile.Decoder.instr
    refine (dk_bind (dk_u1 h0)).trans ?_
    show ((Jvm.ClassFile.Reader.s2 >>= fun x => pure (.sipush x)) : Jvm.ClassFile.Decoder Jvm.ClassFile.Instr) c (pc + 1) = _
    rw [dk_bind (dk_s2 h1 h2), h.2.2.2]
    rfl
  rw [dk_dec e, show pc + 1 + 2 - pc = 3 by omega]
set_option maxRecDepth 100000 in
theorem dq_164 {b : Nat} {ix : Int} (hL : c.data.toList.map UInt8.toNat = L) (h : (bx L pc 164 && (bx L (pc + 1) a && (bx L (pc + 1 + 1) b && decide (Jvm.ClassFile.Reader.signed 16 (a * 256 + b) = ix)))) = true) : decode c pc = .ok (.if_icmp .le ix, 3) := by
  simp only [Bool.and_eq_true, decide_eq_true_eq] at h
  have h0 : DB c pc 164 := dk_bt hL (bx_t h.1)
  have h1 : DB c (pc + 1) a := dk_bt hL (bx_t h.2.1)
  have h2 : DB c (pc + 1 + 1) b := dk_bt hL (bx_t h.2.2.1)
  have e : Jvm.ClassFile.Decoder.instr pc c pc = .ok (.if_icmp .le ix, pc + 1 + 2) := by
    unfold Jvm.ClassFile.Decoder.instr
    refine (dk_bind (dk_u1 h0)).trans ?_
    show ((Jvm.ClassFile.Reader.s2 >>= fun x => pure (.if_icmp .le x)) : Jvm.ClassFile.Decoder Jvm.ClassFile.Instr) c (pc + 1) = _
    rw [dk_bind (dk_s2 h1 h2), h.2.2.2]
    rfl
  rw [dk_dec e, show pc + 1 + 2 - pc = 3 by omega]
set_option maxRecDepth 100000 in
theorem dq_2 (hL : c.data.toList.map UInt8.toNat = L) (h : bx L pc 2 = true) : decode c pc = .ok (.iconst (-1), 1) := by
  have h0 : DB c pc 2 := dk_bt hL (bx_t h)
  have e : Jvm.ClassFile.Decoder.instr pc c pc = .ok (.iconst (-1), pc + 1) := by
    unfold Jvm.ClassFile.Decoder.instr
    refine (dk_bind (dk_u1 h0)).trans ?_
    rfl
  rw [dk_dec e, show pc + 1 - pc = 1 by omega]
set_option maxRecDepth 100000 in
theorem dq_172 (hL : c.data.toList.map UInt8.toNat = L) (h : bx L pc 172 = true) : decode c pc = .ok (.ireturn, 1) := by
  have h0 : DB c pc 172 := dk_bt hL (bx_t h)
  have e : Jvm.ClassFile.Decoder.instr pc c pc = .ok (.ireturn, pc + 1) := by
    unfold Jvm.ClassFile.Decoder.instr
    refine (dk_bind (dk_u1 h0)).trans ?_
    rfl
  rw [dk_dec e, show pc + 1 - pc = 1 by omega]
set_option maxRecDepth 100000 in
theorem dq_27 (hL : c.data.toList.map UInt8.toNat = L) (h : bx L pc 27 = true) : decode c pc = .ok (.iload_n 1, 1) := by
  have h0 : DB c pc 27 := dk_bt hL (bx_t h)
  have e : Jvm.ClassFile.Decoder.instr pc c pc = .ok (.iload_n 1, pc + 1) := by
    unfold Jvm.ClassFile.Decoder.instr
    refine (dk_bind (dk_u1 h0)).trans ?_
    rfl
  rw [dk_dec e, show pc + 1 - pc = 1 by omega]
set_option maxRecDepth 100000 in
theorem dq_182 {b : Nat} {ix : Nat} (hL : c.data.toList.map UInt8.toNat = L) (h : (bx L pc 182 && (bx L (pc + 1) a && (bx L (pc + 1 + 1) b && decide (a * 256 + b = ix)))) = true) : decode c pc = .ok (.invokevirtual ix, 3) := by
  simp only [Bool.and_eq_true, decide_eq_true_eq] at h
  have h0 : DB c pc 182 := dk_bt hL (bx_t h.1)
  have h1 : DB c (pc + 1) a := dk_bt hL (bx_t h.2.1)
  have h2 : DB c (pc + 1 + 1) b := dk_bt hL (bx_t h.2.2.1)
  have e : Jvm.ClassFile.Decoder.instr pc c pc = .ok (.invokevirtual ix, pc + 1 + 2) := by
    unfold Jvm.ClassFile.Decoder.instr
    refine (dk_bind (dk_u1 h0)).trans ?_
    show ((Jvm.ClassFile.Reader.u2 >>= fun x => pure (.invokevirtual x)) : Jvm.ClassFile.Decoder Jvm.ClassFile.Instr) c (pc + 1) = _
    rw [dk_bind (dk_u2 h1 h2), h.2.2.2]
    rfl
  rw [dk_dec e, show pc + 1 + 2 - pc = 3 by omega]
set_option maxRecDepth 100000 in
theorem dq_28 (hL : c.data.toList.map UInt8.toNat = L) (h : bx L pc 28 = true) : decode c pc = .ok (.iload_n 2, 1) := by
  have h0 : DB c pc 28 := dk_bt hL (bx_t h)
  have e : Jvm.ClassFile.Decoder.instr pc c pc = .ok (.iload_n 2, pc + 1) := by
    unfold Jvm.ClassFile.Decoder.instr
    refine (dk_bind (dk_u1 h0)).trans ?_
    rfl
  rw [dk_dec e, show pc + 1 - pc = 1 by omega]
set_option maxRecDepth 100000 in
theorem dq_29 (hL : c.data.toList.map UInt8.toNat = L) (h : bx L pc 29 = true) : decode c pc = .ok (.iload_n 3, 1) := by
  have h0 : DB c pc 29 := dk_bt hL (bx_t h)
  have e : Jvm.ClassFile.Decoder.instr pc c pc = .ok (.iload_n 3, pc + 1) := by
    unfold Jvm.ClassFile.Decoder.instr
    refine (dk_bind (dk_u1 h0)).trans ?_
    rfl
  rw [dk_dec e, show pc + 1 - pc = 1 by omega]
set_option maxRecDepth 100000 in
theorem dq_21 (hL : c.data.toList.map UInt8.toNat = L) (h : (bx L pc 21 && bx L (pc + 1) a) = true) : decode c pc = .ok (.iload a, 2) := by
  simp only [Bool.and_eq_true] at h
  have h0 : DB c pc 21 := dk_bt hL (bx_t h.1)
  have h1 : DB c (pc + 1) a := dk_bt hL (bx_t h.2)
  have e : Jvm.ClassFile.Decoder.instr pc c pc = .ok (.iload a, pc + 1 + 1) := by
    unfold Jvm.ClassFile.Decoder.instr
    refine (dk_bind (dk_u1 h0)).trans ?_
    show ((Jvm.ClassFile.Reader.u1 >>= fun x => pure (.iload x)) : Jvm.ClassFile.Decoder Jvm.ClassFile.Instr) c (pc + 1) = _
    rw [dk_bind (dk_u1 h1)]
    rfl
  rw [dk_dec e, show pc + 1 + 1 - pc = 2 by omega]
set_option maxRecDepth 100000 in
theorem dq_155 {b : Nat} {ix : Int} (hL : c.data.toList.map UInt8.toNat = L) (h : (bx L pc 155 && (bx L (pc + 1) a && (bx L (pc + 1 + 1) b && decide (Jvm.ClassFile.Reader.signed 16 (a * 256 + b) = ix)))) = true) : decode c pc = .ok (.ifCond .lt ix, 3) := by
  simp only [Bool.and_eq_true, decide_eq_true_eq] at h
  have h0 : DB c pc 155 := dk_bt hL (bx_t h.1)
  have h1 : DB c (pc + 1) a := dk_bt hL (bx_t h.2.1)
  have h2 : DB c (pc + 1 + 1) b := dk_bt hL (bx_t h.2.2.1)
  have e : Jvm.ClassFile.Decoder.instr pc c pc = .ok (.ifCond .lt ix, pc + 1 + 2) := by
    unfold Jvm.ClassFile.Decoder.instr
    refine (dk_bind (dk_u1 h0)).trans ?_
    show ((Jvm.ClassFile.Reader.s2 >>= fun x => pure (.ifCond .lt x)) : Jvm.ClassFile.Decoder Jvm.ClassFile.Instr) c (pc + 1) = _
    rw [dk_bind (dk_s2 h1 h2), h.2.2.2]
    rfl
  rw [dk_dec e, show pc + 1 + 2 - pc = 3 by omega]
set_option maxRecDepth 100000 in
theorem dq_4 (hL : c.data.toList.map UInt8.toNat = L) (h : bx L pc 4 = true) : decode c pc = .ok (.iconst 1, 1) := by
  have h0 : DB c pc 4 := dk_bt hL (bx_t h)
  have e : Jvm.ClassFile.Decoder.instr pc c pc = .ok (.iconst 1, pc + 1) := by
    unfold Jvm.ClassFile.Decoder.instr
    refine (dk_bind (dk_u1 h0)).trans ?_
    rfl
  rw [dk_dec e, show pc + 1 - pc = 1 by omega]
set_option maxRecDepth 100000 in
theorem dq_60 (hL : c.data.toList.map UInt8.toNat = L) (h : bx L pc 60 = true) : decode c pc = .ok (.istore_n 1, 1) := by
  have h0 : DB c pc 60 := dk_bt hL (bx_t h)
  have e : Jvm.ClassFile.Decoder.instr pc c pc = .ok (.istore_n 1, pc + 1) := by
    unfold Jvm.ClassFile.Decoder.instr
    refine (dk_bind (dk_u1 h0)).trans ?_
    rfl
  rw [dk_dec e, show pc + 1 - pc = 1 by omega]
set_option maxRecDepth 100000 in
theorem dq_61 (hL : c.data.toList.map UInt8.toNat = L) (h : bx L pc 61 = true) : decode c pc = .ok (.istore_n 2, 1) := by
  have h0 : DB c pc 61 := dk_bt hL (bx_t h)
  have e : Jvm.ClassFile.Decoder.instr pc c pc = .ok (.istore_n 2, pc + 1) := by
    unfold Jvm.ClassFile.Decoder.instr
    refine (dk_bind (dk_u1 h0)).trans ?_
    rfl
  rw [dk_dec e, show pc + 1 - pc = 1 by omega]
set_option maxRecDepth 100000 in
theorem dq_162 {b : Nat} {ix : Int} (hL : c.data.toList.map UInt8.toNat = L) (h : (bx L pc 162 && (bx L (pc + 1) a && (bx L (pc + 1 + 1) b && decide (Jvm.ClassFile.Reader.signed 16 (a * 256 + b) = ix)))) = true) : decode c pc = .ok (.if_icmp .ge ix, 3) := by
  simp only [Bool.and_eq_true, decide_eq_true_eq] at h
  have h0 : DB c pc 162 := dk_bt hL (bx_t h.1)
  have h1 : DB c (pc + 1) a := dk_bt hL (bx_t h.2.1)
  have h2 : DB c (pc + 1 + 1) b := dk_bt hL (bx_t h.2.2.1)
  have e : Jvm.ClassFile.Decoder.instr pc c pc = .ok (.if_icmp .ge ix, pc + 1 + 2) := by
    unfold Jvm.ClassFile.Decoder.instr
    refine (dk_bind (dk_u1 h0)).trans ?_
    show ((Jvm.ClassFile.Reader.s2 >>= fun x => pure (.if_icmp .ge x)) : Jvm.ClassFile.Decoder Jvm.ClassFile.Instr) c (pc + 1) = _
    rw [dk_bind (dk_s2 h1 h2), h.2.2.2]
    rfl
  rw [dk_dec e, show pc + 1 + 2 - pc = 3 by omega]
set_option maxRecDepth 100000 in
theorem dq_153 {b : Nat} {ix : Int} (hL : c.data.toList.map UInt8.toNat = L) (h : (bx L pc 153 && (bx L (pc + 1) a && (bx L (pc + 1 + 1) b && decide (Jvm.ClassFile.Reader.signed 16 (a * 256 + b) = ix)))) = true) : decode c pc = .ok (.ifCond .eq ix, 3) := by
  simp only [Bool.and_eq_true, decide_eq_true_eq] at h
  have h0 : DB c pc 153 := dk_bt hL (bx_t h.1)
  have h1 : DB c (pc + 1) a := dk_bt hL (bx_t h.2.1)
  have h2 : DB c (pc + 1 + 1) b := dk_bt hL (bx_t h.2.2.1)
  have e : Jvm.ClassFile.Decoder.instr pc c pc = .ok (.ifCond .eq ix, pc + 1 + 2) := by
    unfold Jvm.ClassFile.Decoder.instr
    refine (dk_bind (dk_u1 h0)).trans ?_
    show ((Jvm.ClassFile.Reader.s2 >>= fun x => pure (.ifCond .eq x)) : Jvm.ClassFile.Decoder Jvm.ClassFile.Instr) c (pc + 1) = _
    rw [dk_bind (dk_s2 h1 h2), h.2.2.2]
    rfl
  rw [dk_dec e, show pc + 1 + 2 - pc = 3 by omega]
set_option maxRecDepth 100000 in
theorem dq_132 {b : Nat} {ix : Int} (hL : c.data.toList.map UInt8.toNat = L) (h : (bx L pc 132 && (bx L (pc + 1) a && (bx L (pc + 1 + 1) b && decide (Jvm.ClassFile.Reader.signed 8 b = ix)))) = true) : decode c pc = .ok (.iinc a ix, 3) := by
  simp only [Bool.and_eq_true, decide_eq_true_eq] at h
  have h0 : DB c pc 132 := dk_bt hL (bx_t h.1)
  have h1 : DB c (pc + 1) a := dk_bt hL (bx_t h.2.1)
  have h2 : DB c (pc + 1 + 1) b := dk_bt hL (bx_t h.2.2.1)
  have e : Jvm.ClassFile.Decoder.instr pc c pc = .ok (.iinc a ix, pc + 1 + 1 + 1) := by
    unfold Jvm.ClassFile.Decoder.instr
    refine (dk_bind (dk_u1 h0)).trans ?_
    show ((Jvm.ClassFile.Reader.u1 >>= fun x => (Jvm.ClassFile.Reader.s1 >>= fun y => pure (.iinc x y))) : Jvm.ClassFile.Decoder Jvm.ClassFile.Instr) c (pc + 1) = _
    rw [dk_bind (dk_u1 h1), dk_bind (dk_s1 h2), h.2.2.2]
    rfl
  rw [dk_dec e, show pc + 1 + 1 + 1 - pc = 3 by omega]
set_option maxRecDepth 100000 in
theorem dq_167 {b : Nat} {ix : Int} (hL : c.data.toList.map UInt8.toNat = L) (h : (bx L pc 167 && (bx L (pc + 1) a && (bx L (pc + 1 + 1) b && decide (Jvm.ClassFile.Reader.signed 16 (a * 256 + b) = ix)))) = true) : decode c pc = .ok (.goto ix, 3) := by
  simp only [Bool.and_eq_true, decide_eq_true_eq] at h
  have h0 : DB c pc 167 := dk_bt hL (bx_t h.1)
  have h1 : DB c (pc + 1) a := dk_bt hL (bx_t h.2.1)
  have h2 : DB c (pc + 1 + 1) b := dk_bt hL (bx_t h.2.2.1)
  have e : Jvm.ClassFile.Decoder.instr pc c pc = .ok (.goto ix, pc + 1 + 2) := by
    unfold Jvm.ClassFile.Decoder.instr
    refine (dk_bind (dk_u1 h0)).trans ?_
    show ((Jvm.ClassFile.Reader.s2 >>= fun x => pure (.goto x)) : Jvm.ClassFile.Decoder Jvm.ClassFile.Instr) c (pc + 1) = _
    rw [dk_bind (dk_s2 h1 h2), h.2.2.2]
    rfl
  rw [dk_dec e, show pc + 1 + 2 - pc = 3 by omega]
set_option maxRecDepth 100000 in
theorem dq_5 (hL : c.data.toList.map UInt8.toNat = L) (h : bx L pc 5 = true) : decode c pc = .ok (.iconst 2, 1) := by
  have h0 : DB c pc 5 := dk_bt hL (bx_t h)
  have e : Jvm.ClassFile.Decoder.instr pc c pc = .ok (.iconst 2, pc + 1) := by
    unfold Jvm.ClassFile.Decoder.instr
    refine (dk_bind (dk_u1 h0)).trans ?_
    rfl
  rw [dk_dec e, show pc + 1 - pc = 1 by omega]
set_option maxRecDepth 100000 in
theorem dq_184 {b : Nat} {ix : Nat} (hL : c.data.toList.map UInt8.toNat = L) (h : (bx L pc 184 && (bx L (pc + 1) a && (bx L (pc + 1 + 1) b && decide (a * 256 + b = ix)))) = true) : decode c pc = .ok (.invokestatic ix, 3) := by
  simp only [Bool.and_eq_true, decide_eq_true_eq] at h
  have h0 : DB c pc 184 := dk_bt hL (bx_t h.1)
  have h1 : DB c (pc + 1) a := dk_bt hL (bx_t h.2.1)
  have h2 : DB c (pc + 1 + 1) b := dk_bt hL (bx_t h.2.2.1)
  have e : Jvm.ClassFile.Decoder.instr pc c pc = .ok (.invokestatic ix, pc + 1 + 2) := by
    unfold Jvm.ClassFile.Decoder.instr
    refine (dk_bind (dk_u1 h0)).trans ?_
    show ((Jvm.ClassFile.Reader.u2 >>= fun x => pure (.invokestatic x)) : Jvm.ClassFile.Decoder Jvm.ClassFile.Instr) c (pc + 1) = _
    rw [dk_bind (dk_u2 h1 h2), h.2.2.2]
    rfl
  rw [dk_dec e, show pc + 1 + 2 - pc = 3 by omega]
set_option maxRecDepth 100000 in
theorem dq_78 (hL : c.data.toList.map UInt8.toNat = L) (h : bx L pc 78 = true) : decode c pc = .ok (.astore_n 3, 1) := by
  have h0 : DB c pc 78 := dk_bt hL (bx_t h)
  have e : Jvm.ClassFile.Decoder.instr pc c pc = .ok (.astore_n 3, pc + 1) := by
    unfold Jvm.ClassFile.Decoder.instr
    refine (dk_bind (dk_u1 h0)).trans ?_
    rfl
  rw [dk_dec e, show pc + 1 - pc = 1 by omega]
set_option maxRecDepth 100000 in
theorem dq_45 (hL : c.data.toList.map UInt8.toNat = L) (h : bx L pc 45 = true) : decode c pc = .ok (.aload_n 3, 1) := by
  have h0 : DB c pc 45 := dk_bt hL (bx_t h)
  have e : Jvm.ClassFile.Decoder.instr pc c pc = .ok (.aload_n 3, pc + 1) := by
    unfold Jvm.ClassFile.Decoder.instr
    refine (dk_bind (dk_u1 h0)).trans ?_
    rfl
  rw [dk_dec e, show pc + 1 - pc = 1 by omega]
set_option maxRecDepth 100000 in
theorem dq_8 (hL : c.data.toList.map UInt8.toNat = L) (h : bx L pc 8 = true) : decode c pc = .ok (.iconst 5, 1) := by
  have h0 : DB c pc 8 := dk_bt hL (bx_t h)
  have e : Jvm.ClassFile.Decoder.instr pc c pc = .ok (.iconst 5, pc + 1) := by
    unfold Jvm.ClassFile.Decoder.instr
    refine (dk_bind (dk_u1 h0)).trans ?_
    rfl
  rw [dk_dec e, show pc + 1 - pc = 1 by omega]
set_option maxRecDepth 100000 in
theorem dq_161 {b : Nat} {ix : Int} (hL : c.data.toList.map UInt8.toNat = L) (h : (bx L pc 161 && (bx L (pc + 1) a && (bx L (pc + 1 + 1) b && decide (Jvm.ClassFile.Reader.signed 16 (a * 256 + b) = ix)))) = true) : decode c pc = .ok (.if_icmp .lt ix, 3) := by
  simp only [Bool.and_eq_true, decide_eq_true_eq] at h
  have h0 : DB c pc 161 := dk_bt hL (bx_t h.1)
  have h1 : DB c (pc + 1) a := dk_bt hL (bx_t h.2.1)
  have h2 : DB c (pc + 1 + 1) b := dk_bt hL (bx_t h.2.2.1)
  have e : Jvm.ClassFile.Decoder.instr pc c pc = .ok (.if_icmp .lt ix, pc + 1 + 2) := by
    unfold Jvm.ClassFile.Decoder.instr
    refine (dk_bind (dk_u1 h0)).trans ?_
    show ((Jvm.ClassFile.Reader.s2 >>= fun x => pure (.if_icmp .lt x)) : Jvm.ClassFile.Decoder Jvm.ClassFile.Instr) c (pc + 1) = _
    rw [dk_bind (dk_s2 h1 h2), h.2.2.2]
    rfl
  rw [dk_dec e, show pc + 1 + 2 - pc = 3 by omega]
set_option maxRecDepth 100000 in
theorem dq_46 (hL : c.data.toList.map UInt8.toNat = L) (h : bx L pc 46 = true) : decode c pc = .ok (.iaload, 1) := by
  have h0 : DB c pc 46 := dk_bt hL (bx_t h)
  have e : Jvm.ClassFile.Decoder.instr pc c pc = .ok (.iaload, pc + 1) := by
    unfold Jvm.ClassFile.Decoder.instr
    refine (dk_bind (dk_u1 h0)).trans ?_
    rfl
  rw [dk_dec e, show pc + 1 - pc = 1 by omega]
set_option maxRecDepth 100000 in
theorem dq_77 (hL : c.data.toList.map UInt8.toNat = L) (h : bx L pc 77 = true) : decode c pc = .ok (.astore_n 2, 1) := by
  have h0 : DB c pc 77 := dk_bt hL (bx_t h)
  have e : Jvm.ClassFile.Decoder.instr pc c pc = .ok (.astore_n 2, pc + 1) := by
    unfold Jvm.ClassFile.Decoder.instr
    refine (dk_bind (dk_u1 h0)).trans ?_
    rfl
  rw [dk_dec e, show pc + 1 - pc = 1 by omega]
set_option maxRecDepth 100000 in
theorem dq_44 (hL : c.data.toList.map UInt8.toNat = L) (h : bx L pc 44 = true) : decode c pc = .ok (.aload_n 2, 1) := by
  have h0 : DB c pc 44 := dk_bt hL (bx_t h)
  have e : Jvm.ClassFile.Decoder.instr pc c pc = .ok (.aload_n 2, pc + 1) := by
    unfold Jvm.ClassFile.Decoder.instr
    refine (dk_bind (dk_u1 h0)).trans ?_
    rfl
  rw [dk_dec e, show pc + 1 - pc = 1 by omega]
set_option maxRecDepth 100000 in
theorem dq_159 {b : Nat} {ix : Int} (hL : c.data.toList.map UInt8.toNat = L) (h : (bx L pc 159 && (bx L (pc + 1) a && (bx L (pc + 1 + 1) b && decide (Jvm.ClassFile.Reader.signed 16 (a * 256 + b) = ix)))) = true) : decode c pc = .ok (.if_icmp .eq ix, 3) := by
  simp only [Bool.and_eq_true, decide_eq_true_eq] at h
  have h0 : DB c pc 159 := dk_bt hL (bx_t h.1)
  have h1 : DB c (pc + 1) a := dk_bt hL (bx_t h.2.1)
  have h2 : DB c (pc + 1 + 1) b := dk_bt hL (bx_t h.2.2.1)
  have e : Jvm.ClassFile.Decoder.instr pc c pc = .ok (.if_icmp .eq ix, pc + 1 + 2) := by
    unfold Jvm.ClassFile.Decoder.instr
    refine (dk_bind (dk_u1 h0)).trans ?_
    show ((Jvm.ClassFile.Reader.s2 >>= fun x => pure (.if_icmp .eq x)) : Jvm.ClassFile.Decoder Jvm.ClassFile.Instr) c (pc + 1) = _
    rw [dk_bind (dk_s2 h1 h2), h.2.2.2]
    rfl
  rw [dk_dec e, show pc + 1 + 2 - pc = 3 by omega]
set_option maxRecDepth 100000 in
theorem dq_1 (hL : c.data.toList.map UInt8.toNat = L) (h : bx L pc 1 = true) : decode c pc = .ok (.aconst_null, 1) := by
  have h0 : DB c pc 1 := dk_bt hL (bx_t h)
  have e : Jvm.ClassFile.Decoder.instr pc c pc = .ok (.aconst_null, pc + 1) := by
    unfold Jvm.ClassFile.Decoder.instr
    refine (dk_bind (dk_u1 h0)).trans ?_
    rfl
  rw [dk_dec e, show pc + 1 - pc = 1 by omega]
set_option maxRecDepth 100000 in
theorem dq_62 (hL : c.data.toList.map UInt8.toNat = L) (h : bx L pc 62 = true) : decode c pc = .ok (.istore_n 3, 1) := by
  have h0 : DB c pc 62 := dk_bt hL (bx_t h)
  have e : Jvm.ClassFile.Decoder.instr pc c pc = .ok (.istore_n 3, pc + 1) := by
    unfold Jvm.ClassFile.Decoder.instr
    refine (dk_bind (dk_u1 h0)).trans ?_
    rfl
  rw [dk_dec e, show pc + 1 - pc = 1 by omega]
set_option maxRecDepth 100000 in
theorem dq_198 {b : Nat} {ix : Int} (hL : c.data.toList.map UInt8.toNat = L) (h : (bx L pc 198 && (bx L (pc + 1) a && (bx L (pc + 1 + 1) b && decide (Jvm.ClassFile.Reader.signed 16 (a * 256 + b) = ix)))) = true) : decode c pc = .ok (.ifnull ix, 3) := by
  simp only [Bool.and_eq_true, decide_eq_true_eq] at h
  have h0 : DB c pc 198 := dk_bt hL (bx_t h.1)
  have h1 : DB c (pc + 1) a := dk_bt hL (bx_t h.2.1)
  have h2 : DB c (pc + 1 + 1) b := dk_bt hL (bx_t h.2.2.1)
  have e : Jvm.ClassFile.Decoder.instr pc c pc = .ok (.ifnull ix, pc + 1 + 2) := by
    unfold Jvm.ClassFile.Decoder.instr
    refine (dk_bind (dk_u1 h0)).trans ?_
    show ((Jvm.ClassFile.Reader.s2 >>= fun x => pure (.ifnull x)) : Jvm.ClassFile.Decoder Jvm.ClassFile.Instr) c (pc + 1) = _
    rw [dk_bind (dk_s2 h1 h2), h.2.2.2]
    rfl
  rw [dk_dec e, show pc + 1 + 2 - pc = 3 by omega]
set_option maxRecDepth 100000 in
theorem dq_199 {b : Nat} {ix : Int} (hL : c.data.toList.map UInt8.toNat = L) (h : (bx L pc 199 && (bx L (pc + 1) a && (bx L (pc + 1 + 1) b && decide (Jvm.ClassFile.Reader.signed 16 (a * 256 + b) = ix)))) = true) : decode c pc = .ok (.ifnonnull ix, 3) := by
  simp only [Bool.and_eq_true, decide_eq_true_eq] at h
  have h0 : DB c pc 199 := dk_bt hL (bx_t h.1)
  have h1 : DB c (pc + 1) a := dk_bt hL (bx_t h.2.1)
  have h2 : DB c (pc + 1 + 1) b := dk_bt hL (bx_t h.2.2.1)
  have e : Jvm.ClassFile.Decoder.instr pc c pc = .ok (.ifnonnull ix, pc + 1 + 2) := by
    unfold Jvm.ClassFile.Decoder.instr
    refine (dk_bind (dk_u1 h0)).trans ?_
    show ((Jvm.ClassFile.Reader.s2 >>= fun x => pure (.ifnonnull x)) : Jvm.ClassFile.Decoder Jvm.ClassFile.Instr) c (pc + 1) = _
    rw [dk_bind (dk_s2 h1 h2), h.2.2.2]
    rfl
  rw [dk_dec e, show pc + 1 + 2 - pc = 3 by omega]
set_option maxRecDepth 100000 in
theorem dq_190 (hL : c.data.toList.map UInt8.toNat = L) (h : bx L pc 190 = true) : decode c pc = .ok (.arraylength, 1) := by
  have h0 : DB c pc 190 := dk_bt hL (bx_t h)
  have e : Jvm.ClassFile.Decoder.instr pc c pc = .ok (.arraylength, pc + 1) := by
    unfold Jvm.ClassFile.Decoder.instr
    refine (dk_bind (dk_u1 h0)).trans ?_
    rfl
  rw [dk_dec e, show pc + 1 - pc = 1 by omega]
set_option maxRecDepth 100000 in
theorem dq_54 (hL : c.data.toList.map UInt8.toNat = L) (h : (bx L pc 54 && bx L (pc + 1) a) = true) : decode c pc = .ok (.istore a, 2) := by
  simp only [Bool.and_eq_true] at h
  have h0 : DB c pc 54 := dk_bt hL (bx_t h.1)
  have h1 : DB c (pc + 1) a := dk_bt hL (bx_t h.2)
  have e : Jvm.ClassFile.Decoder.instr pc c pc = .ok (.istore a, pc + 1 + 1) := by
    unfold Jvm.ClassFile.Decoder.instr
    refine (dk_bind (dk_u1 h0)).trans ?_
    show ((Jvm.ClassFile.Reader.u1 >>= fun x => pure (.istore x)) : Jvm.ClassFile.Decoder Jvm.ClassFile.Instr) c (pc + 1) = _
    rw [dk_bind (dk_u1 h1)]
    rfl
  rw [dk_dec e, show pc + 1 + 1 - pc = 2 by omega]
set_option maxRecDepth 100000 in
theorem dq_50 (hL : c.data.toList.map UInt8.toNat = L) (h : bx L pc 50 = true) : decode c pc = .ok (.aaload, 1) := by
  have h0 : DB c pc 50 := dk_bt hL (bx_t h)
  have e : Jvm.ClassFile.Decoder.instr pc c pc = .ok (.aaload, pc + 1) := by
    unfold Jvm.ClassFile.Decoder.instr
    refine (dk_bind (dk_u1 h0)).trans ?_
    rfl
  rw [dk_dec e, show pc + 1 - pc = 1 by omega]
set_option maxRecDepth 100000 in
theorem dq_160 {b : Nat} {ix : Int} (hL : c.data.toList.map UInt8.toNat = L) (h : (bx L pc 160 && (bx L (pc + 1) a && (bx L (pc + 1 + 1) b && decide (Jvm.ClassFile.Reader.signed 16 (a * 256 + b) = ix)))) = true) : decode c pc = .ok (.if_icmp .ne ix, 3) := by
  simp only [Bool.and_eq_true, decide_eq_true_eq] at h
  have h0 : DB c pc 160 := dk_bt hL (bx_t h.1)
  have h1 : DB c (pc + 1) a := dk_bt hL (bx_t h.2.1)
  have h2 : DB c (pc + 1 + 1) b := dk_bt hL (bx_t h.2.2.1)
  have e : Jvm.ClassFile.Decoder.instr pc c pc = .ok (.if_icmp .ne ix, pc + 1 + 2) := by
    unfold Jvm.ClassFile.Decoder.instr
    refine (dk_bind (dk_u1 h0)).trans ?_
    show ((Jvm.ClassFile.Reader.s2 >>= fun x => pure (.if_icmp .ne x)) : Jvm.ClassFile.Decoder Jvm.ClassFile.Instr) c (pc + 1) = _
    rw [dk_bind (dk_s2 h1 h2), h.2.2.2]
    rfl
  rw [dk_dec e, show pc + 1 + 2 - pc = 3 by omega]
set_option maxRecDepth 100000 in
theorem dq_158 {b : Nat} {ix : Int} (hL : c.data.toList.map UInt8.toNat = L) (h : (bx L pc 158 && (bx L (pc + 1) a && (bx L (pc + 1 + 1) b && decide (Jvm.ClassFile.Reader.signed 16 (a * 256 + b) = ix)))) = true) : decode c pc = .ok (.ifCond .le ix, 3) := by
  simp only [Bool.and_eq_true, decide_eq_true_eq] at h
  have h0 : DB c pc 158 := dk_bt hL (bx_t h.1)
  have h1 : DB c (pc + 1) a := dk_bt hL (bx_t h.2.1)
  have h2 : DB c (pc + 1 + 1) b := dk_bt hL (bx_t h.2.2.1)
  have e : Jvm.ClassFile.Decoder.instr pc c pc = .ok (.ifCond .le ix, pc + 1 + 2) := by
    unfold Jvm.ClassFile.Decoder.instr
    refine (dk_bind (dk_u1 h0)).trans ?_
    show ((Jvm.ClassFile.Reader.s2 >>= fun x => pure (.ifCond .le x)) : Jvm.ClassFile.Decoder Jvm.ClassFile.Instr) c (pc + 1) = _
    rw [dk_bind (dk_s2 h1 h2), h.2.2.2]
    rfl
  rw [dk_dec e, show pc + 1 + 2 - pc = 3 by omega]
set_option maxRecDepth 100000 in
theorem dq_104 (hL : c.data.toList.map UInt8.toNat = L) (h : bx L pc 104 = true) : decode c pc = .ok (.imul, 1) := by
  have h0 : DB c pc 104 := dk_bt hL (bx_t h)
  have e : Jvm.ClassFile.Decoder.instr pc c pc = .ok (.imul, pc + 1) := by
    unfold Jvm.ClassFile.Decoder.instr
    refine (dk_bind (dk_u1 h0)).trans ?_
    rfl
  rw [dk_dec e, show pc + 1 - pc = 1 by omega]
set_option maxRecDepth 100000 in
theorem dq_120 (hL : c.data.toList.map UInt8.toNat = L) (h : bx L pc 120 = true) : decode c pc = .ok (.ishl, 1) := by
  have h0 : DB c pc 120 := dk_bt hL (bx_t h)
  have e : Jvm.ClassFile.Decoder.instr pc c pc = .ok (.ishl, pc + 1) := by
    unfold Jvm.ClassFile.Decoder.instr
    refine (dk_bind (dk_u1 h0)).trans ?_
    rfl
  rw [dk_dec e, show pc + 1 - pc = 1 by omega]
set_option maxRecDepth 100000 in
theorem dq_128 (hL : c.data.toList.map UInt8.toNat = L) (h : bx L pc 128 = true) : decode c pc = .ok (.ior, 1) := by
  have h0 : DB c pc 128 := dk_bt hL (bx_t h)
  have e : Jvm.ClassFile.Decoder.instr pc c pc = .ok (.ior, pc + 1) := by
    unfold Jvm.ClassFile.Decoder.instr
    refine (dk_bind (dk_u1 h0)).trans ?_
    rfl
  rw [dk_dec e, show pc + 1 - pc = 1 by omega]
set_option maxRecDepth 100000 in
theorem dq_130 (hL : c.data.toList.map UInt8.toNat = L) (h : bx L pc 130 = true) : decode c pc = .ok (.ixor, 1) := by
  have h0 : DB c pc 130 := dk_bt hL (bx_t h)
  have e : Jvm.ClassFile.Decoder.instr pc c pc = .ok (.ixor, pc + 1) := by
    unfold Jvm.ClassFile.Decoder.instr
    refine (dk_bind (dk_u1 h0)).trans ?_
    rfl
  rw [dk_dec e, show pc + 1 - pc = 1 by omega]
set_option maxRecDepth 100000 in
theorem dq_126 (hL : c.data.toList.map UInt8.toNat = L) (h : bx L pc 126 = true) : decode c pc = .ok (.iand, 1) := by
  have h0 : DB c pc 126 := dk_bt hL (bx_t h)
  have e : Jvm.ClassFile.Decoder.instr pc c pc = .ok (.iand, pc + 1) := by
    unfold Jvm.ClassFile.Decoder.instr
    refine (dk_bind (dk_u1 h0)).trans ?_
    rfl
  rw [dk_dec e, show pc + 1 - pc = 1 by omega]
set_option maxRecDepth 100000 in
theorem dq_165 {b : Nat} {ix : Int} (hL : c.data.toList.map UInt8.toNat = L) (h : (bx L pc 165 && (bx L (pc + 1) a && (bx L (pc + 1 + 1) b && decide (Jvm.ClassFile.Reader.signed 16 (a * 256 + b) = ix)))) = true) : decode c pc = .ok (.if_acmp .eq ix, 3) := by
  simp only [Bool.and_eq_true, decide_eq_true_eq] at h
  have h0 : DB c pc 165 := dk_bt hL (bx_t h.1)
  have h1 : DB c (pc + 1) a := dk_bt hL (bx_t h.2.1)
  have h2 : DB c (pc + 1 + 1) b := dk_bt hL (bx_t h.2.2.1)
  have e : Jvm.ClassFile.Decoder.instr pc c pc = .ok (.if_acmp .eq ix, pc + 1 + 2) := by
    unfold Jvm.ClassFile.Decoder.instr
    refine (dk_bind (dk_u1 h0)).trans ?_
    show ((Jvm.ClassFile.Reader.s2 >>= fun x => pure (.if_acmp .eq x)) : Jvm.ClassFile.Decoder Jvm.ClassFile.Instr) c (pc + 1) = _
    rw [dk_bind (dk_s2 h1 h2), h.2.2.2]
    rfl
  rw [dk_dec e, show pc + 1 + 2 - pc = 3 by omega]
set_option maxRecDepth 100000 in
theorem dq_154 {b : Nat} {ix : Int} (hL : c.data.toList.map UInt8.toNat = L) (h : (bx L pc 154 && (bx L (pc + 1) a && (bx L (pc + 1 + 1) b && decide (Jvm.ClassFile.Reader.signed 16 (a * 256 + b) = ix)))) = true) : decode c pc = .ok (.ifCond .ne ix, 3) := by
  simp only [Bool.and_eq_true, decide_eq_true_eq] at h
  have h0 : DB c pc 154 := dk_bt hL (bx_t h.1)
  have h1 : DB c (pc + 1) a := dk_bt hL (bx_t h.2.1)
  have h2 : DB c (pc + 1 + 1) b := dk_bt hL (bx_t h.2.2.1)
  have e : Jvm.ClassFile.Decoder.instr pc c pc = .ok (.ifCond .ne ix, pc + 1 + 2) := by
    unfold Jvm.ClassFile.Decoder.instr
    refine (dk_bind (dk_u1 h0)).trans ?_
    show ((Jvm.ClassFile.Reader.s2 >>= fun x => pure (.ifCond .ne x)) : Jvm.ClassFile.Decoder Jvm.ClassFile.Instr) c (pc + 1) = _
    rw [dk_bind (dk_s2 h1 h2), h.2.2.2]
    rfl
  rw [dk_dec e, show pc + 1 + 2 - pc = 3 by omega]
set_option maxRecDepth 100000 in
theorem dq_166 {b : Nat} {ix : Int} (hL : c.data.toList.map UInt8.toNat = L) (h : (bx L pc 166 && (bx L (pc + 1) a && (bx L (pc + 1 + 1) b && decide (Jvm.ClassFile.Reader.signed 16 (a * 256 + b) = ix)))) = true) : decode c pc = .ok (.if_acmp .ne ix, 3) := by
  simp only [Bool.and_eq_true, decide_eq_true_eq] at h
  have h0 : DB c pc 166 := dk_bt hL (bx_t h.1)
  have h1 : DB c (pc + 1) a := dk_bt hL (bx_t h.2.1)
  have h2 : DB c (pc + 1 + 1) b := dk_bt hL (bx_t h.2.2.1)
  have e : Jvm.ClassFile.Decoder.instr pc c pc = .ok (.if_acmp .ne ix, pc + 1 + 2) := by
    unfold Jvm.ClassFile.Decoder.instr
    refine (dk_bind (dk_u1 h0)).trans ?_
    show ((Jvm.ClassFile.Reader.s2 >>= fun x => pure (.if_acmp .ne x)) : Jvm.ClassFile.Decoder Jvm.ClassFile.Instr) c (pc + 1) = _
    rw [dk_bind (dk_s2 h1 h2), h.2.2.2]
    rfl
  rw [dk_dec e, show pc + 1 + 2 - pc = 3 by omega]
set_option maxRecDepth 100000 in
theorem dq_87 (hL : c.data.toList.map UInt8.toNat = L) (h : bx L pc 87 = true) : decode c pc = .ok (.pop, 1) := by
  have h0 : DB c pc 87 := dk_bt hL (bx_t h)
  have e : Jvm.ClassFile.Decoder.instr pc c pc = .ok (.pop, pc + 1) := by
    unfold Jvm.ClassFile.Decoder.instr
    refine (dk_bind (dk_u1 h0)).trans ?_
    rfl
  rw [dk_dec e, show pc + 1 - pc = 1 by omega]
set_option maxRecDepth 100000 in
theorem dq_100 (hL : c.data.toList.map UInt8.toNat = L) (h : bx L pc 100 = true) : decode c pc = .ok (.isub, 1) := by
  have h0 : DB c pc 100 := dk_bt hL (bx_t h)
  have e : Jvm.ClassFile.Decoder.instr pc c pc = .ok (.isub, pc + 1) := by
    unfold Jvm.ClassFile.Decoder.instr
    refine (dk_bind (dk_u1 h0)).trans ?_
    rfl
  rw [dk_dec e, show pc + 1 - pc = 1 by omega]
set_option maxRecDepth 100000 in
theorem dq_135 (hL : c.data.toList.map UInt8.toNat = L) (h : bx L pc 135 = true) : decode c pc = .ok (.i2d, 1) := by
  have h0 : DB c pc 135 := dk_bt hL (bx_t h)
  have e : Jvm.ClassFile.Decoder.instr pc c pc = .ok (.i2d, pc + 1) := by
    unfold Jvm.ClassFile.Decoder.instr
    refine (dk_bind (dk_u1 h0)).trans ?_
    rfl
  rw [dk_dec e, show pc + 1 - pc = 1 by omega]
set_option maxRecDepth 100000 in
theorem dq_175 (hL : c.data.toList.map UInt8.toNat = L) (h : bx L pc 175 = true) : decode c pc = .ok (.dreturn, 1) := by
  have h0 : DB c pc 175 := dk_bt hL (bx_t h)
  have e : Jvm.ClassFile.Decoder.instr pc c pc = .ok (.dreturn, pc + 1) := by
    unfold Jvm.ClassFile.Decoder.instr
    refine (dk_bind (dk_u1 h0)).trans ?_
    rfl
  rw [dk_dec e, show pc + 1 - pc = 1 by omega]
set_option maxRecDepth 100000 in
theorem dq_134 (hL : c.data.toList.map UInt8.toNat = L) (h : bx L pc 134 = true) : decode c pc = .ok (.i2f, 1) := by
  have h0 : DB c pc 134 := dk_bt hL (bx_t h)
  have e : Jvm.ClassFile.Decoder.instr pc c pc = .ok (.i2f, pc + 1) := by
    unfold Jvm.ClassFile.Decoder.instr
    refine (dk_bind (dk_u1 h0)).trans ?_
    rfl
  rw [dk_dec e, show pc + 1 - pc = 1 by omega]
set_option maxRecDepth 100000 in
theorem dq_174 (hL : c.data.toList.map UInt8.toNat = L) (h : bx L pc 174 = true) : decode c pc = .ok (.freturn, 1) := by
  have h0 : DB c pc 174 := dk_bt hL (bx_t h)
  have e : Jvm.ClassFile.Decoder.instr pc c pc = .ok (.freturn, pc + 1) := by
    unfold Jvm.ClassFile.Decoder.instr
    refine (dk_bind (dk_u1 h0)).trans ?_
    rfl
  rw [dk_dec e, show pc + 1 - pc = 1 by omega]
set_option maxRecDepth 100000 in
theorem dq_7 (hL : c.data.toList.map UInt8.toNat = L) (h : bx L pc 7 = true) : decode c pc = .ok (.iconst 4, 1) := by
  have h0 : DB c pc 7 := dk_bt hL (bx_t h)
  have e : Jvm.ClassFile.Decoder.instr pc c pc = .ok (.iconst 4, pc + 1) := by
    unfold Jvm.ClassFile.Decoder.instr
    refine (dk_bind (dk_u1 h0)).trans ?_
    rfl
  rw [dk_dec e, show pc + 1 - pc = 1 by omega]
set_option maxRecDepth 100000 in
theorem dq_51 (hL : c.data.toList.map UInt8.toNat = L) (h : bx L pc 51 = true) : decode c pc = .ok (.baload, 1) := by
  have h0 : DB c pc 51 := dk_bt hL (bx_t h)
  have e : Jvm.ClassFile.Decoder.instr pc c pc = .ok (.baload, pc + 1) := by
    unfold Jvm.ClassFile.Decoder.instr
    refine (dk_bind (dk_u1 h0)).trans ?_
    rfl
  rw [dk_dec e, show pc + 1 - pc = 1 by omega]
set_option maxRecDepth 100000 in
theorem dq_176 (hL : c.data.toList.map UInt8.toNat = L) (h : bx L pc 176 = true) : decode c pc = .ok (.areturn, 1) := by
  have h0 : DB c pc 176 := dk_bt hL (bx_t h)
  have e : Jvm.ClassFile.Decoder.instr pc c pc = .ok (.areturn, pc + 1) := by
    unfold Jvm.ClassFile.Decoder.instr
    refine (dk_bind (dk_u1 h0)).trans ?_
    rfl
  rw [dk_dec e, show pc + 1 - pc = 1 by omega]
set_option maxRecDepth 100000 in
theorem dq_26 (hL : c.data.toList.map UInt8.toNat = L) (h : bx L pc 26 = true) : decode c pc = .ok (.iload_n 0, 1) := by
  have h0 : DB c pc 26 := dk_bt hL (bx_t h)
  have e : Jvm.ClassFile.Decoder.instr pc c pc = .ok (.iload_n 0, pc + 1) := by
    unfold Jvm.ClassFile.Decoder.instr
    refine (dk_bind (dk_u1 h0)).trans ?_
    rfl
  rw [dk_dec e, show pc + 1 - pc = 1 by omega]
set_option maxRecDepth 100000 in
theorem dq_43 (hL : c.data.toList.map UInt8.toNat = L) (h : bx L pc 43 = true) : decode c pc = .ok (.aload_n 1, 1) := by
  have h0 : DB c pc 43 := dk_bt hL (bx_t h)
  have e : Jvm.ClassFile.Decoder.instr pc c pc = .ok (.aload_n 1, pc + 1) := by
    unfold Jvm.ClassFile.Decoder.instr
    refine (dk_bind (dk_u1 h0)).trans ?_
    rfl
  rw [dk_dec e, show pc + 1 - pc = 1 by omega]
set_option maxRecDepth 100000 in
theorem dq_163 {b : Nat} {ix : Int} (hL : c.data.toList.map UInt8.toNat = L) (h : (bx L pc 163 && (bx L (pc + 1) a && (bx L (pc + 1 + 1) b && decide (Jvm.ClassFile.Reader.signed 16 (a * 256 + b) = ix)))) = true) : decode c pc = .ok (.if_icmp .gt ix, 3) := by
  simp only [Bool.and_eq_true, decide_eq_true_eq] at h
  have h0 : DB c pc 163 := dk_bt hL (bx_t h.1)
  have h1 : DB c (pc + 1) a := dk_bt hL (bx_t h.2.1)
  have h2 : DB c (pc + 1 + 1) b := dk_bt hL (bx_t h.2.2.1)
  have e : Jvm.ClassFile.Decoder.instr pc c pc = .ok (.if_icmp .gt ix, pc + 1 + 2) := by
    unfold Jvm.ClassFile.Decoder.instr
    refine (dk_bind (dk_u1 h0)).trans ?_
    show ((Jvm.ClassFile.Reader.s2 >>= fun x => pure (.if_icmp .gt x)) : Jvm.ClassFile.Decoder Jvm.ClassFile.Instr) c (pc + 1) = _
    rw [dk_bind (dk_s2 h1 h2), h.2.2.2]
    rfl
  rw [dk_dec e, show pc + 1 + 2 - pc = 3 by omega]
set_option maxRecDepth 100000 in
theorem dq_79 (hL : c.data.toList.map UInt8.toNat = L) (h : bx L pc 79 = true) : decode c pc = .ok (.iastore, 1) := by
  have h0 : DB c pc 79 := dk_bt hL (bx_t h)
  have e : Jvm.ClassFile.Decoder.instr pc c pc = .ok (.iastore, pc + 1) := by
    unfold Jvm.ClassFile.Decoder.instr
    refine (dk_bind (dk_u1 h0)).trans ?_
    rfl
  rw [dk_dec e, show pc + 1 - pc = 1 by omega]
set_option maxRecDepth 100000 in
theorem dq_6 (hL : c.data.toList.map UInt8.toNat = L) (h : bx L pc 6 = true) : decode c pc = .ok (.iconst 3, 1) := by
  have h0 : DB c pc 6 := dk_bt hL (bx_t h)
  have e : Jvm.ClassFile.Decoder.instr pc c pc = .ok (.iconst 3, pc + 1) := by
    unfold Jvm.ClassFile.Decoder.instr
    refine (dk_bind (dk_u1 h0)).trans ?_
    rfl
  rw [dk_dec e, show pc + 1 - pc = 1 by omega]
set_option maxRecDepth 100000 in
theorem dq_92 (hL : c.data.toList.map UInt8.toNat = L) (h : bx L pc 92 = true) : decode c pc = .ok (.dup2, 1) := by
  have h0 : DB c pc 92 := dk_bt hL (bx_t h)
  have e : Jvm.ClassFile.Decoder.instr pc c pc = .ok (.dup2, pc + 1) := by
    unfold Jvm.ClassFile.Decoder.instr
    refine (dk_bind (dk_u1 h0)).trans ?_
    rfl
  rw [dk_dec e, show pc + 1 - pc = 1 by omega]
set_option maxRecDepth 100000 in
theorem dq_122 (hL : c.data.toList.map UInt8.toNat = L) (h : bx L pc 122 = true) : decode c pc = .ok (.ishr, 1) := by
  have h0 : DB c pc 122 := dk_bt hL (bx_t h)
  have e : Jvm.ClassFile.Decoder.instr pc c pc = .ok (.ishr, pc + 1) := by
    unfold Jvm.ClassFile.Decoder.instr
    refine (dk_bind (dk_u1 h0)).trans ?_
    rfl
  rw [dk_dec e, show pc + 1 - pc = 1 by omega]
set_option maxRecDepth 100000 in
theorem dq_84 (hL : c.data.toList.map UInt8.toNat = L) (h : bx L pc 84 = true) : decode c pc = .ok (.bastore, 1) := by
  have h0 : DB c pc 84 := dk_bt hL (bx_t h)
  have e : Jvm.ClassFile.Decoder.instr pc c pc = .ok (.bastore, pc + 1) := by
    unfold Jvm.ClassFile.Decoder.instr
    refine (dk_bind (dk_u1 h0)).trans ?_
    rfl
  rw [dk_dec e, show pc + 1 - pc = 1 by omega]
set_option maxRecDepth 100000 in
theorem dq_156 {b : Nat} {ix : Int} (hL : c.data.toList.map UInt8.toNat = L) (h : (bx L pc 156 && (bx L (pc + 1) a && (bx L (pc + 1 + 1) b && decide (Jvm.ClassFile.Reader.signed 16 (a * 256 + b) = ix)))) = true) : decode c pc = .ok (.ifCond .ge ix, 3) := by
  simp only [Bool.and_eq_true, decide_eq_true_eq] at h
  have h0 : DB c pc 156 := dk_bt hL (bx_t h.1)
  have h1 : DB c (pc + 1) a := dk_bt hL (bx_t h.2.1)
  have h2 : DB c (pc + 1 + 1) b := dk_bt hL (bx_t h.2.2.1)
  have e : Jvm.ClassFile.Decoder.instr pc c pc = .ok (.ifCond .ge ix, pc + 1 + 2) := by
    unfold Jvm.ClassFile.Decoder.instr
    refine (dk_bind (dk_u1 h0)).trans ?_
    show ((Jvm.ClassFile.Reader.s2 >>= fun x => pure (.ifCond .ge x)) : Jvm.ClassFile.Decoder Jvm.ClassFile.Instr) c (pc + 1) = _
    rw [dk_bind (dk_s2 h1 h2), h.2.2.2]
    rfl
  rw [dk_dec e, show pc + 1 + 2 - pc = 3 by omega]
set_option maxRecDepth 100000 in
theorem dq_189 {b : Nat} {ix : Nat} (hL : c.data.toList.map UInt8.toNat = L) (h : (bx L pc 189 && (bx L (pc + 1) a && (bx L (pc + 1 + 1) b && decide (a * 256 + b = ix)))) = true) : decode c pc = .ok (.anewarray ix, 3) := by
  simp only [Bool.and_eq_true, decide_eq_true_eq] at h
  have h0 : DB c pc 189 := dk_bt hL (bx_t h.1)
  have h1 : DB c (pc + 1) a := dk_bt hL (bx_t h.2.1)
  have h2 : DB c (pc + 1 + 1) b := dk_bt hL (bx_t h.2.2.1)
  have e : Jvm.ClassFile.Decoder.instr pc c pc = .ok (.anewarray ix, pc + 1 + 2) := by
    unfold Jvm.ClassFile.Decoder.instr
    refine (dk_bind (dk_u1 h0)).trans ?_
    show ((Jvm.ClassFile.Reader.u2 >>= fun x => pure (.anewarray x)) : Jvm.ClassFile.Decoder Jvm.ClassFile.Instr) c (pc + 1) = _
    rw [dk_bind (dk_u2 h1 h2), h.2.2.2]
    rfl
  rw [dk_dec e, show pc + 1 + 2 - pc = 3 by omega]
set_option maxRecDepth 100000 in
theorem dq_83 (hL : c.data.toList.map UInt8.toNat = L) (h : bx L pc 83 = true) : decode c pc = .ok (.aastore, 1) := by
  have h0 : DB c pc 83 := dk_bt hL (bx_t h)
  have e : Jvm.ClassFile.Decoder.instr pc c pc = .ok (.aastore, pc + 1) := by
    unfold Jvm.ClassFile.Decoder.instr
    refine (dk_bind (dk_u1 h0)).trans ?_
    rfl
  rw [dk_dec e, show pc + 1 - pc = 1 by omega]
set_option maxRecDepth 100000 in
theorem dq_145 (hL : c.data.toList.map UInt8.toNat = L) (h : bx L pc 145 = true) : decode c pc = .ok (.i2b, 1) := by
  have h0 : DB c pc 145 := dk_bt hL (bx_t h)
  have e : Jvm.ClassFile.Decoder.instr pc c pc = .ok (.i2b, pc + 1) := by
    unfold Jvm.ClassFile.Decoder.instr
    refine (dk_bind (dk_u1 h0)).trans ?_
    rfl
  rw [dk_dec e, show pc + 1 - pc = 1 by omega]
set_option maxRecDepth 100000 in
theorem dq_146 (hL : c.data.toList.map UInt8.toNat = L) (h : bx L pc 146 = true) : decode c pc = .ok (.i2c, 1) := by
  have h0 : DB c pc 146 := dk_bt hL (bx_t h)
  have e : Jvm.ClassFile.Decoder.instr pc c pc = .ok (.i2c, pc + 1) := by
    unfold Jvm.ClassFile.Decoder.instr
    refine (dk_bind (dk_u1 h0)).trans ?_
    rfl
  rw [dk_dec e, show pc + 1 - pc = 1 by omega]
set_option maxRecDepth 100000 in
theorem dq_136 (hL : c.data.toList.map UInt8.toNat = L) (h : bx L pc 136 = true) : decode c pc = .ok (.l2i, 1) := by
  have h0 : DB c pc 136 := dk_bt hL (bx_t h)
  have e : Jvm.ClassFile.Decoder.instr pc c pc = .ok (.l2i, pc + 1) := by
    unfold Jvm.ClassFile.Decoder.instr
    refine (dk_bind (dk_u1 h0)).trans ?_
    rfl
  rw [dk_dec e, show pc + 1 - pc = 1 by omega]
set_option maxRecDepth 100000 in
theorem dq_133 (hL : c.data.toList.map UInt8.toNat = L) (h : bx L pc 133 = true) : decode c pc = .ok (.i2l, 1) := by
  have h0 : DB c pc 133 := dk_bt hL (bx_t h)
  have e : Jvm.ClassFile.Decoder.instr pc c pc = .ok (.i2l, pc + 1) := by
    unfold Jvm.ClassFile.Decoder.instr
    refine (dk_bind (dk_u1 h0)).trans ?_
    rfl
  rw [dk_dec e, show pc + 1 - pc = 1 by omega]
set_option maxRecDepth 100000 in
theorem dq_76 (hL : c.data.toList.map UInt8.toNat = L) (h : bx L pc 76 = true) : decode c pc = .ok (.astore_n 1, 1) := by
  have h0 : DB c pc 76 := dk_bt hL (bx_t h)
  have e : Jvm.ClassFile.Decoder.instr pc c pc = .ok (.astore_n 1, pc + 1) := by
    unfold Jvm.ClassFile.Decoder.instr
    refine (dk_bind (dk_u1 h0)).trans ?_
    rfl
  rw [dk_dec e, show pc + 1 - pc = 1 by omega]
set_option maxRecDepth 100000 in
theorem dq_157 {b : Nat} {ix : Int} (hL : c.data.toList.map UInt8.toNat = L) (h : (bx L pc 157 && (bx L (pc + 1) a && (bx L (pc + 1 + 1) b && decide (Jvm.ClassFile.Reader.signed 16 (a * 256 + b) = ix)))) = true) : decode c pc = .ok (.ifCond .gt ix, 3) := by
  simp only [Bool.and_eq_true, decide_eq_true_eq] at h
  have h0 : DB c pc 157 := dk_bt hL (bx_t h.1)
  have h1 : DB c (pc + 1) a := dk_bt hL (bx_t h.2.1)
  have h2 : DB c (pc + 1 + 1) b := dk_bt hL (bx_t h.2.2.1)
  have e : Jvm.ClassFile.Decoder.instr pc c pc = .ok (.ifCond .gt ix, pc + 1 + 2) := by
    unfold Jvm.ClassFile.Decoder.instr
    refine (dk_bind (dk_u1 h0)).trans ?_
    show ((Jvm.ClassFile.Reader.s2 >>= fun x => pure (.ifCond .gt x)) : Jvm.ClassFile.Decoder Jvm.ClassFile.Instr) c (pc + 1) = _
    rw [dk_bind (dk_s2 h1 h2), h.2.2.2]
    rfl
  rw [dk_dec e, show pc + 1 + 2 - pc = 3 by omega]
set_option maxRecDepth 100000 in
theorem dq_80 (hL : c.data.toList.map UInt8.toNat = L) (h : bx L pc 80 = true) : decode c pc = .ok (.lastore, 1) := by
  have h0 : DB c pc 80 := dk_bt hL (bx_t h)
  have e : Jvm.ClassFile.Decoder.instr pc c pc = .ok (.lastore, pc + 1) := by
    unfold Jvm.ClassFile.Decoder.instr
    refine (dk_bind (dk_u1 h0)).trans ?_
    rfl
  rw [dk_dec e, show pc + 1 - pc = 1 by omega]
set_option maxRecDepth 100000 in
theorem dq_124 (hL : c.data.toList.map UInt8.toNat = L) (h : bx L pc 124 = true) : decode c pc = .ok (.iushr, 1) := by
  have h0 : DB c pc 124 := dk_bt hL (bx_t h)
  have e : Jvm.ClassFile.Decoder.instr pc c pc = .ok (.iushr, pc + 1) := by
    unfold Jvm.ClassFile.Decoder.instr
    refine (dk_bind (dk_u1 h0)).trans ?_
    rfl
  rw [dk_dec e, show pc + 1 - pc = 1 by omega]
set_option maxRecDepth 100000 in
theorem dq_59 (hL : c.data.toList.map UInt8.toNat = L) (h : bx L pc 59 = true) : decode c pc = .ok (.istore_n 0, 1) := by
  have h0 : DB c pc 59 := dk_bt hL (bx_t h)
  have e : Jvm.ClassFile.Decoder.instr pc c pc = .ok (.istore_n 0, pc + 1) := by
    unfold Jvm.ClassFile.Decoder.instr
    refine (dk_bind (dk_u1 h0)).trans ?_
    rfl
  rw [dk_dec e, show pc + 1 - pc = 1 by omega]
end DQB
def bl_0 : List Nat := [42, 183, 0, 1, 42, 187, 0, 7, 89, 183, 0, 9, 181, 0, 10, 42, 187, 0, 7, 89, 183, 0, 9, 181, 0, 16, 42, 187, 0, 7, 89, 183, 0, 9, 181, 0, 19, 42, 187, 0, 22, 89, 183, 0, 24, 181, 0, 25, 42, 187, 0, 29, 89, 183, 0, 31, 181, 0, 32, 42, 187, 0, 36, 89, 183, 0, 38, 181, 0, 39, 42, 3, 181, 0, 43, 177]
theorem hb_0 : prog_1_method_1_code.data.toList.map UInt8.toNat = bl_0 := dk_eq_t _ _ (by decide +kernel)
def bl_1 : List Nat := [42, 180, 0, 32, 180, 0, 47, 58, 6, 25, 6, 180, 0, 51, 16, 20, 96, 17, 1, 244, 164, 0, 5, 2, 172, 25, 6, 27, 182, 0, 57, 25, 6, 28, 182, 0, 57, 25, 6, 29, 182, 0, 57, 25, 6, 21, 4, 182, 0, 57, 25, 6, 21, 5, 182, 0, 57, 25, 6, 180, 0, 51, 172]
theorem hb_1 : prog_1_method_2_code.data.toList.map UInt8.toNat = bl_1 := dk_eq_t _ _ (by decide +kernel)
def bl_2 : List Nat := [27, 155, 0, 17, 27, 42, 180, 0, 32, 180, 0, 47, 180, 0, 51, 164, 0, 5, 3, 172, 42, 180, 0, 32, 180, 0, 47, 27, 181, 0, 51, 4, 172]
theorem hb_2 : prog_1_method_3_code.data.toList.map UInt8.toNat = bl_2 := dk_eq_t _ _ (by decide +kernel)
def bl_3 : List Nat := [42, 180, 0, 32, 182, 0, 61, 4, 60, 3, 61, 28, 17, 1, 244, 162, 0, 21, 27, 153, 0, 17, 42, 180, 0, 32, 182, 0, 64, 60, 132, 2, 1, 167, 255, 234, 42, 180, 0, 32, 180, 0, 47, 3, 181, 0, 51, 42, 180, 0, 32, 180, 0, 68, 153, 0, 5, 2, 172, 42, 180, 0, 10, 42, 180, 0, 32, 180, 0, 71, 182, 0, 72, 42, 180, 0, 25, 3, 181, 0, 76, 42, 3, 181, 0, 43, 42, 180, 0, 39, 3, 181, 0, 79, 42, 180, 0, 10, 180, 0, 80, 172]
theorem hb_3 : prog_1_method_4_code.data.toList.map UInt8.toNat = bl_3 := dk_eq_t _ _ (by decide +kernel)
def bl_4 : List Nat := [42, 180, 0, 32, 180, 0, 68, 172]
theorem hb_4 : prog_1_method_5_code.data.toList.map UInt8.toNat = bl_4 := dk_eq_t _ _ (by decide +kernel)
def bl_5 : List Nat := [42, 180, 0, 32, 180, 0, 83, 172]
theorem hb_5 : prog_1_method_6_code.data.toList.map UInt8.toNat = bl_5 := dk_eq_t _ _ (by decide +kernel)
def bl_6 : List Nat := [27, 170, 0, 0, 0, 0, 0, 160, 0, 0, 0, 0, 0, 0, 0, 10, 0, 0, 0, 59, 0, 0, 0, 67, 0, 0, 0, 76, 0, 0, 0, 85, 0, 0, 0, 94, 0, 0, 0, 102, 0, 0, 0, 110, 0, 0, 0, 118, 0, 0, 0, 126, 0, 0, 0, 144, 0, 0, 0, 152, 42, 180, 0, 10, 180, 0, 80, 172, 42, 180, 0, 10, 3, 182, 0, 86, 172, 42, 180, 0, 10, 4, 182, 0, 86, 172, 42, 180, 0, 10, 5, 182, 0, 86, 172, 42, 180, 0, 10, 180, 0, 90, 172, 42, 180, 0, 10, 180, 0, 93, 172, 42, 180, 0, 10, 180, 0, 96, 172, 42, 180, 0, 10, 180, 0, 99, 172, 42, 180, 0, 10, 42, 180, 0, 10, 180, 0, 102, 182, 0, 106, 184, 0, 110, 172, 42, 180, 0, 25, 180, 0, 76, 172, 42, 180, 0, 10, 180, 0, 115, 172, 187, 0, 118, 89, 18, 120, 183, 0, 122, 191]
theorem hb_6 : prog_1_method_7_code.data.toList.map UInt8.toNat = bl_6 := dk_eq_t _ _ (by decide +kernel)
def bl_7 : List Nat := [42, 27, 182, 0, 125, 78, 28, 170, 0, 0, 0, 159, 0, 0, 0, 0, 0, 0, 0, 14, 0, 0, 0, 73, 0, 0, 0, 81, 0, 0, 0, 86, 0, 0, 0, 91, 0, 0, 0, 96, 0, 0, 0, 105, 0, 0, 0, 110, 0, 0, 0, 115, 0, 0, 0, 120, 0, 0, 0, 125, 0, 0, 0, 134, 0, 0, 0, 139, 0, 0, 0, 144, 0, 0, 0, 149, 0, 0, 0, 154, 45, 180, 0, 129, 184, 0, 134, 172, 45, 180, 0, 137, 172, 45, 182, 0, 140, 172, 45, 180, 0, 144, 172, 42, 180, 0, 10, 45, 182, 0, 147, 172, 45, 180, 0, 150, 172, 45, 180, 0, 153, 172, 45, 180, 0, 156, 172, 45, 180, 0, 159, 172, 42, 180, 0, 10, 45, 182, 0, 106, 172, 45, 180, 0, 162, 172, 45, 180, 0, 165, 172, 45, 180, 0, 168, 172, 45, 180, 0, 171, 172, 45, 182, 0, 174, 172, 187, 0, 118, 89, 18, 177, 183, 0, 122, 191]
theorem hb_7 : prog_1_method_8_code.data.toList.map UInt8.toNat = bl_7 := dk_eq_t _ _ (by decide +kernel)
def bl_8 : List Nat := [27, 16, 7, 184, 0, 179, 42, 180, 0, 10, 27, 182, 0, 183, 180, 0, 186, 172]
theorem hb_8 : prog_1_method_9_code.data.toList.map UInt8.toNat = bl_8 := dk_eq_t _ _ (by decide +kernel)
def bl_9 : List Nat := [27, 155, 0, 8, 27, 8, 161, 0, 7, 2, 167, 0, 12, 42, 180, 0, 10, 180, 0, 189, 27, 46, 172]
theorem hb_9 : prog_1_method_10_code.data.toList.map UInt8.toNat = bl_9 := dk_eq_t _ _ (by decide +kernel)
def bl_10 : List Nat := [42, 27, 182, 0, 125, 77, 44, 180, 0, 150, 5, 159, 0, 7, 4, 167, 0, 4, 3, 184, 0, 193, 44, 182, 0, 197, 172]
theorem hb_10 : prog_1_method_11_code.data.toList.map UInt8.toNat = bl_10 := dk_eq_t _ _ (by decide +kernel)
def bl_11 : List Nat := [42, 27, 182, 0, 125, 78, 42, 28, 182, 0, 125, 58, 4, 45, 180, 0, 150, 5, 159, 0, 25, 25, 4, 180, 0, 150, 5, 159, 0, 16, 45, 25, 4, 182, 0, 200, 153, 0, 7, 4, 167, 0, 4, 3, 172]
theorem hb_11 : prog_1_method_12_code.data.toList.map UInt8.toNat = bl_11 := dk_eq_t _ _ (by decide +kernel)
def bl_12 : List Nat := [42, 27, 182, 0, 125, 78, 42, 28, 182, 0, 125, 58, 4, 45, 180, 0, 150, 5, 159, 0, 16, 25, 4, 180, 0, 150, 5, 159, 0, 7, 4, 167, 0, 4, 3, 184, 0, 193, 42, 180, 0, 10, 45, 25, 4, 182, 0, 204, 180, 0, 186, 172]
theorem hb_12 : prog_1_method_13_code.data.toList.map UInt8.toNat = bl_12 := dk_eq_t _ _ (by decide +kernel)
def bl_13 : List Nat := [42, 180, 0, 10, 42, 27, 182, 0, 125, 3, 182, 0, 208, 172]
theorem hb_13 : prog_1_method_14_code.data.toList.map UInt8.toNat = bl_13 := dk_eq_t _ _ (by decide +kernel)
def bl_14 : List Nat := [27, 155, 0, 9, 27, 16, 40, 161, 0, 7, 1, 167, 0, 10, 42, 180, 0, 10, 180, 0, 102, 77, 3, 62, 29, 27, 162, 0, 22, 44, 198, 0, 18, 42, 180, 0, 10, 44, 182, 0, 212, 77, 132, 3, 1, 167, 255, 235, 44, 199, 0, 13, 187, 0, 216, 89, 18, 218, 183, 0, 220, 191, 44, 180, 0, 186, 172]
theorem hb_14 : prog_1_method_15_code.data.toList.map UInt8.toNat = bl_14 := dk_eq_t _ _ (by decide +kernel)
def bl_15 : List Nat := [3, 61, 42, 180, 0, 10, 180, 0, 221, 78, 45, 190, 54, 4, 3, 54, 5, 21, 5, 21, 4, 162, 0, 35, 45, 21, 5, 50, 58, 6, 25, 6, 182, 0, 225, 153, 0, 15, 25, 6, 182, 0, 197, 27, 160, 0, 6, 132, 2, 1, 132, 5, 1, 167, 255, 220, 28, 172]
theorem hb_15 : prog_1_method_16_code.data.toList.map UInt8.toNat = bl_15 := dk_eq_t _ _ (by decide +kernel)
def bl_16 : List Nat := [42, 180, 0, 10, 182, 0, 228, 172]
theorem hb_16 : prog_1_method_17_code.data.toList.map UInt8.toNat = bl_16 := dk_eq_t _ _ (by decide +kernel)
def bl_17 : List Nat := [42, 27, 182, 0, 125, 58, 5, 28, 16, 9, 184, 0, 179, 29, 16, 9, 184, 0, 179, 21, 4, 16, 9, 184, 0, 179, 25, 5, 182, 0, 140, 158, 0, 19, 42, 180, 0, 10, 180, 0, 80, 16, 40, 162, 0, 7, 4, 167, 0, 4, 3, 184, 0, 193, 42, 180, 0, 25, 42, 180, 0, 10, 182, 0, 231, 42, 180, 0, 10, 25, 5, 28, 29, 21, 4, 182, 0, 234, 184, 0, 134, 172]
theorem hb_17 : prog_1_method_18_code.data.toList.map UInt8.toNat = bl_17 := dk_eq_t _ _ (by decide +kernel)
def bl_18 : List Nat := [42, 27, 28, 182, 0, 238, 78, 42, 180, 0, 25, 42, 180, 0, 10, 182, 0, 231, 42, 180, 0, 10, 45, 28, 182, 0, 242, 172]
theorem hb_18 : prog_1_method_19_code.data.toList.map UInt8.toNat = bl_18 := dk_eq_t _ _ (by decide +kernel)
def bl_19 : List Nat := [27, 28, 184, 0, 245, 42, 180, 0, 25, 42, 180, 0, 10, 182, 0, 231, 42, 180, 0, 10, 27, 28, 182, 0, 248, 172]
theorem hb_19 : prog_1_method_20_code.data.toList.map UInt8.toNat = bl_19 := dk_eq_t _ _ (by decide +kernel)
def bl_20 : List Nat := [42, 27, 182, 0, 125, 77, 44, 182, 0, 225, 184, 0, 193, 42, 180, 0, 10, 44, 2, 182, 0, 252, 78, 45, 199, 0, 14, 187, 0, 216, 89, 19, 1, 0, 183, 0, 220, 191, 42, 180, 0, 25, 42, 180, 0, 10, 182, 0, 231, 45, 5, 181, 0, 150, 17, 3, 232, 45, 180, 0, 186, 104, 45, 180, 0, 162, 96, 172]
theorem hb_20 : prog_1_method_21_code.data.toList.map UInt8.toNat = bl_20 := dk_eq_t _ _ (by decide +kernel)
def bl_21 : List Nat := [42, 27, 182, 0, 125, 78, 28, 16, 9, 184, 0, 179, 45, 182, 1, 2, 184, 0, 193, 42, 180, 0, 25, 42, 180, 0, 10, 182, 0, 231, 45, 89, 180, 0, 165, 4, 28, 120, 128, 181, 0, 165, 42, 180, 0, 10, 45, 28, 182, 1, 5, 172]
theorem hb_21 : prog_1_method_22_code.data.toList.map UInt8.toNat = bl_21 := dk_eq_t _ _ (by decide +kernel)
def bl_22 : List Nat := [42, 27, 182, 0, 125, 78, 28, 16, 9, 184, 0, 179, 45, 182, 0, 225, 184, 0, 193, 42, 180, 0, 25, 42, 180, 0, 10, 182, 0, 231, 45, 28, 182, 1, 8, 54, 4, 45, 89, 180, 0, 165, 4, 28, 120, 2, 130, 126, 181, 0, 165, 21, 4, 172]
theorem hb_22 : prog_1_method_23_code.data.toList.map UInt8.toNat = bl_22 := dk_eq_t _ _ (by decide +kernel)
def bl_23 : List Nat := [42, 27, 182, 0, 125, 78, 42, 28, 182, 0, 125, 58, 4, 45, 182, 1, 2, 153, 0, 42, 25, 4, 182, 0, 140, 158, 0, 34, 25, 4, 45, 165, 0, 28, 45, 25, 4, 182, 0, 200, 154, 0, 19, 25, 4, 45, 180, 0, 153, 182, 1, 8, 154, 0, 7, 4, 167, 0, 4, 3, 184, 0, 193, 42, 180, 0, 25, 42, 180, 0, 10, 182, 0, 231, 45, 180, 0, 129, 184, 0, 134, 54, 5, 45, 25, 4, 182, 1, 12, 21, 5, 172]
theorem hb_23 : prog_1_method_24_code.data.toList.map UInt8.toNat = bl_23 := dk_eq_t _ _ (by decide +kernel)
def bl_24 : List Nat := [42, 27, 182, 0, 125, 78, 28, 16, 9, 184, 0, 179, 45, 182, 0, 225, 184, 0, 193, 42, 180, 0, 25, 42, 180, 0, 10, 182, 0, 231, 45, 180, 0, 137, 54, 4, 45, 28, 181, 0, 137, 21, 4, 172]
theorem hb_24 : prog_1_method_25_code.data.toList.map UInt8.toNat = bl_24 := dk_eq_t _ _ (by decide +kernel)
def bl_25 : List Nat := [42, 27, 182, 0, 125, 78, 28, 16, 9, 184, 0, 179, 45, 182, 0, 225, 184, 0, 193, 42, 180, 0, 25, 42, 180, 0, 10, 182, 0, 231, 45, 180, 0, 156, 54, 4, 45, 28, 181, 0, 156, 21, 4, 172]
theorem hb_25 : prog_1_method_26_code.data.toList.map UInt8.toNat = bl_25 := dk_eq_t _ _ (by decide +kernel)
def bl_26 : List Nat := [42, 27, 182, 0, 125, 78, 28, 2, 159, 0, 23, 42, 28, 182, 0, 125, 45, 166, 0, 14, 187, 0, 118, 89, 19, 1, 16, 183, 0, 122, 191, 45, 182, 1, 2, 184, 0, 193, 42, 180, 0, 25, 42, 180, 0, 10, 182, 0, 231, 45, 180, 0, 159, 54, 4, 45, 28, 181, 0, 159, 21, 4, 172]
theorem hb_26 : prog_1_method_27_code.data.toList.map UInt8.toNat = bl_26 := dk_eq_t _ _ (by decide +kernel)
def bl_27 : List Nat := [27, 16, 7, 184, 0, 179, 42, 28, 182, 0, 125, 78, 45, 182, 0, 225, 184, 0, 193, 42, 180, 0, 25, 42, 180, 0, 10, 182, 0, 231, 42, 180, 0, 10, 27, 182, 0, 183, 180, 0, 186, 54, 4, 42, 180, 0, 10, 27, 45, 182, 1, 18, 21, 4, 172]
theorem hb_27 : prog_1_method_28_code.data.toList.map UInt8.toNat = bl_27 := dk_eq_t _ _ (by decide +kernel)
def bl_28 : List Nat := [42, 27, 182, 0, 125, 77, 44, 182, 1, 2, 184, 0, 193, 42, 180, 0, 10, 44, 182, 1, 22, 180, 0, 186, 172]
theorem hb_28 : prog_1_method_29_code.data.toList.map UInt8.toNat = bl_28 := dk_eq_t _ _ (by decide +kernel)
def bl_29 : List Nat := [42, 27, 182, 0, 125, 77, 44, 182, 1, 2, 184, 0, 193, 42, 180, 0, 10, 44, 182, 1, 25, 180, 0, 186, 172]
theorem hb_29 : prog_1_method_30_code.data.toList.map UInt8.toNat = bl_29 := dk_eq_t _ _ (by decide +kernel)
def bl_30 : List Nat := [42, 27, 28, 182, 0, 238, 87, 42, 27, 28, 182, 1, 28, 172]
theorem hb_30 : prog_1_method_31_code.data.toList.map UInt8.toNat = bl_30 := dk_eq_t _ _ (by decide +kernel)
def bl_31 : List Nat := [42, 27, 28, 182, 0, 238, 87, 42, 27, 28, 182, 1, 28, 87, 42, 180, 0, 16, 182, 0, 228, 172]
theorem hb_31 : prog_1_method_32_code.data.toList.map UInt8.toNat = bl_31 := dk_eq_t _ _ (by decide +kernel)
def bl_32 : List Nat := [42, 27, 182, 0, 125, 87, 42, 28, 29, 182, 0, 238, 87, 42, 28, 29, 182, 1, 28, 87, 42, 180, 0, 16, 27, 182, 1, 31, 58, 4, 25, 4, 199, 0, 7, 2, 167, 0, 11, 25, 4, 180, 0, 129, 184, 0, 134, 172]
theorem hb_32 : prog_1_method_33_code.data.toList.map UInt8.toNat = bl_32 := dk_eq_t _ _ (by decide +kernel)
def bl_33 : List Nat := [27, 28, 184, 0, 245, 42, 180, 0, 16, 42, 180, 0, 10, 182, 0, 72, 42, 180, 0, 16, 27, 28, 182, 0, 248, 87, 42, 180, 0, 16, 180, 0, 96, 42, 180, 0, 10, 180, 0, 96, 100, 172]
theorem hb_33 : prog_1_method_34_code.data.toList.map UInt8.toNat = bl_33 := dk_eq_t _ _ (by decide +kernel)
def bl_34 : List Nat := [27, 17, 0, 255, 184, 0, 179, 2, 61, 2, 62, 42, 180, 0, 10, 180, 0, 221, 58, 4, 25, 4, 190, 54, 5, 3, 54, 6, 21, 6, 21, 5, 162, 0, 55, 25, 4, 21, 6, 50, 58, 7, 25, 7, 182, 1, 2, 153, 0, 16, 42, 25, 7, 180, 0, 186, 27, 182, 1, 28, 167, 0, 4, 2, 54, 8, 21, 8, 29, 164, 0, 12, 25, 7, 180, 0, 186, 61, 21, 8, 62, 132, 6, 1, 167, 255, 200, 28, 172]
theorem hb_34 : prog_1_method_35_code.data.toList.map UInt8.toNat = bl_34 := dk_eq_t _ _ (by decide +kernel)
def bl_35 : List Nat := [27, 16, 9, 184, 0, 179, 2, 61, 3, 62, 42, 180, 0, 10, 180, 0, 221, 58, 4, 25, 4, 190, 54, 5, 3, 54, 6, 21, 6, 21, 5, 162, 0, 54, 25, 4, 21, 6, 50, 58, 7, 25, 7, 182, 1, 2, 153, 0, 33, 25, 7, 27, 182, 1, 8, 154, 0, 24, 25, 7, 182, 0, 140, 29, 164, 0, 15, 25, 7, 180, 0, 186, 61, 25, 7, 182, 0, 140, 62, 132, 6, 1, 167, 255, 201, 28, 172]
theorem hb_35 : prog_1_method_36_code.data.toList.map UInt8.toNat = bl_35 := dk_eq_t _ _ (by decide +kernel)
def bl_36 : List Nat := [3, 60, 42, 180, 0, 10, 180, 0, 221, 77, 44, 190, 62, 3, 54, 4, 21, 4, 29, 162, 0, 23, 44, 21, 4, 50, 58, 5, 27, 25, 5, 182, 0, 140, 96, 60, 132, 4, 1, 167, 255, 233, 27, 172]
theorem hb_36 : prog_1_method_37_code.data.toList.map UInt8.toNat = bl_36 := dk_eq_t _ _ (by decide +kernel)
def bl_37 : List Nat := [3, 60, 42, 180, 0, 10, 180, 0, 221, 77, 44, 190, 62, 3, 54, 4, 21, 4, 29, 162, 0, 39, 44, 21, 4, 50, 58, 5, 25, 5, 182, 0, 225, 153, 0, 19, 25, 5, 180, 0, 144, 25, 5, 180, 0, 137, 164, 0, 6, 132, 1, 1, 132, 4, 1, 167, 255, 217, 27, 172]
theorem hb_37 : prog_1_method_38_code.data.toList.map UInt8.toNat = bl_37 := dk_eq_t _ _ (by decide +kernel)
def bl_38 : List Nat := [27, 16, 9, 184, 0, 179, 3, 61, 42, 180, 0, 10, 180, 0, 221, 78, 45, 190, 54, 4, 3, 54, 5, 21, 5, 21, 4, 162, 0, 35, 45, 21, 5, 50, 58, 6, 25, 6, 182, 0, 225, 153, 0, 15, 25, 6, 180, 0, 153, 27, 160, 0, 6, 132, 2, 1, 132, 5, 1, 167, 255, 220, 28, 172]
theorem hb_38 : prog_1_method_39_code.data.toList.map UInt8.toNat = bl_38 := dk_eq_t _ _ (by decide +kernel)
def bl_39 : List Nat := [42, 180, 0, 10, 42, 27, 182, 0, 125, 2, 182, 0, 252, 184, 0, 134, 172]
theorem hb_39 : prog_1_method_40_code.data.toList.map UInt8.toNat = bl_39 := dk_eq_t _ _ (by decide +kernel)
def bl_40 : List Nat := [1, 77, 42, 180, 0, 10, 180, 0, 221, 78, 45, 190, 54, 4, 3, 54, 5, 21, 5, 21, 4, 162, 0, 35, 45, 21, 5, 50, 58, 6, 25, 6, 182, 1, 34, 153, 0, 15, 25, 6, 180, 1, 37, 27, 160, 0, 6, 25, 6, 77, 132, 5, 1, 167, 255, 220, 44, 199, 0, 14, 187, 0, 216, 89, 19, 1, 40, 183, 0, 220, 191, 44, 180, 0, 186, 172]
theorem hb_40 : prog_1_method_41_code.data.toList.map UInt8.toNat = bl_40 := dk_eq_t _ _ (by decide +kernel)
def bl_41 : List Nat := [3, 60, 3, 61, 42, 180, 0, 10, 180, 0, 221, 78, 45, 190, 54, 4, 3, 54, 5, 21, 5, 21, 4, 162, 0, 34, 45, 21, 5, 50, 58, 6, 25, 6, 182, 0, 225, 153, 0, 14, 27, 25, 6, 182, 0, 197, 96, 60, 132, 2, 1, 132, 5, 1, 167, 255, 221, 28, 154, 0, 7, 14, 167, 0, 8, 27, 135, 28, 135, 111, 175]
theorem hb_41 : prog_1_method_42_code.data.toList.map UInt8.toNat = bl_41 := dk_eq_t _ _ (by decide +kernel)
def bl_42 : List Nat := [42, 180, 0, 10, 180, 0, 93, 154, 0, 7, 11, 167, 0, 20, 42, 180, 0, 10, 180, 0, 96, 134, 42, 180, 0, 10, 180, 0, 93, 134, 110, 174]
theorem hb_42 : prog_1_method_43_code.data.toList.map UInt8.toNat = bl_42 := dk_eq_t _ _ (by decide +kernel)
def bl_43 : List Nat := [42, 27, 182, 0, 125, 78, 28, 17, 0, 255, 184, 0, 179, 45, 182, 0, 225, 184, 0, 193, 42, 180, 0, 25, 42, 180, 0, 10, 182, 0, 231, 42, 180, 0, 10, 45, 28, 182, 1, 42, 172]
theorem hb_43 : prog_1_method_44_code.data.toList.map UInt8.toNat = bl_43 := dk_eq_t _ _ (by decide +kernel)
def bl_44 : List Nat := [42, 27, 182, 0, 125, 78, 42, 28, 182, 0, 125, 58, 4, 45, 182, 1, 2, 153, 0, 39, 25, 4, 182, 1, 2, 153, 0, 31, 45, 25, 4, 165, 0, 25, 45, 25, 4, 182, 0, 200, 154, 0, 16, 25, 4, 45, 182, 0, 200, 154, 0, 7, 4, 167, 0, 4, 3, 184, 0, 193, 42, 180, 0, 25, 42, 180, 0, 10, 182, 0, 231, 45, 182, 0, 197, 25, 4, 182, 0, 197, 160, 0, 7, 4, 167, 0, 4, 3, 54, 5, 5, 42, 180, 0, 10, 45, 3, 182, 0, 208, 96, 42, 180, 0, 10, 25, 4, 3, 182, 0, 208, 96, 54, 6, 45, 180, 0, 129, 58, 7, 45, 25, 4, 180, 0, 129, 182, 1, 12, 25, 4, 25, 7, 182, 1, 12, 21, 5, 153, 0, 7, 3, 167, 0, 5, 21, 6, 172]
theorem hb_44 : prog_1_method_45_code.data.toList.map UInt8.toNat = bl_44 := dk_eq_t _ _ (by decide +kernel)
def bl_45 : List Nat := [42, 27, 182, 0, 125, 77, 44, 182, 0, 225, 184, 0, 193, 42, 180, 0, 25, 42, 180, 0, 10, 182, 0, 231, 42, 180, 0, 10, 44, 182, 1, 45, 172]
theorem hb_45 : prog_1_method_46_code.data.toList.map UInt8.toNat = bl_45 := dk_eq_t _ _ (by decide +kernel)
def bl_46 : List Nat := [42, 180, 0, 10, 42, 27, 182, 0, 125, 4, 182, 0, 208, 172]
theorem hb_46 : prog_1_method_47_code.data.toList.map UInt8.toNat = bl_46 := dk_eq_t _ _ (by decide +kernel)
def bl_47 : List Nat := [42, 27, 182, 0, 125, 77, 3, 62, 42, 180, 0, 10, 180, 0, 221, 58, 4, 25, 4, 190, 54, 5, 3, 54, 6, 21, 6, 21, 5, 162, 0, 41, 25, 4, 21, 6, 50, 58, 7, 25, 7, 182, 0, 225, 153, 0, 20, 44, 25, 7, 182, 0, 200, 153, 0, 11, 29, 25, 7, 182, 0, 140, 96, 62, 132, 6, 1, 167, 255, 214, 29, 172]
theorem hb_47 : prog_1_method_48_code.data.toList.map UInt8.toNat = bl_47 := dk_eq_t _ _ (by decide +kernel)
def bl_48 : List Nat := [2, 60, 3, 61, 42, 180, 0, 10, 180, 0, 221, 78, 45, 190, 54, 4, 3, 54, 5, 21, 5, 21, 4, 162, 0, 44, 45, 21, 5, 50, 58, 6, 25, 6, 182, 0, 225, 153, 0, 24, 25, 6, 180, 0, 168, 28, 164, 0, 15, 25, 6, 180, 0, 186, 60, 25, 6, 180, 0, 168, 61, 132, 5, 1, 167, 255, 211, 27, 172]
theorem hb_48 : prog_1_method_49_code.data.toList.map UInt8.toNat = bl_48 := dk_eq_t _ _ (by decide +kernel)
def bl_49 : List Nat := [42, 27, 182, 0, 125, 77, 44, 182, 1, 2, 184, 0, 193, 3, 62, 42, 180, 0, 10, 180, 0, 221, 58, 4, 25, 4, 190, 54, 5, 3, 54, 6, 21, 6, 21, 5, 162, 0, 32, 25, 4, 21, 6, 50, 58, 7, 42, 180, 0, 10, 25, 7, 44, 182, 1, 48, 153, 0, 6, 132, 3, 1, 132, 6, 1, 167, 255, 223, 29, 172]
theorem hb_49 : prog_1_method_50_code.data.toList.map UInt8.toNat = bl_49 := dk_eq_t _ _ (by decide +kernel)
def bl_50 : List Nat := [42, 27, 182, 0, 125, 182, 1, 2, 184, 0, 193, 42, 27, 4, 182, 1, 28, 42, 27, 3, 182, 1, 28, 162, 0, 7, 4, 167, 0, 4, 3, 172]
theorem hb_50 : prog_1_method_51_code.data.toList.map UInt8.toNat = bl_50 := dk_eq_t _ _ (by decide +kernel)
def bl_51 : List Nat := [27, 28, 184, 0, 245, 42, 180, 0, 16, 42, 180, 0, 10, 182, 0, 72, 42, 180, 0, 16, 27, 28, 182, 0, 248, 87, 42, 180, 0, 16, 3, 182, 0, 86, 172]
theorem hb_51 : prog_1_method_52_code.data.toList.map UInt8.toNat = bl_51 := dk_eq_t _ _ (by decide +kernel)
def bl_52 : List Nat := [42, 180, 0, 10, 180, 0, 90, 154, 0, 7, 14, 167, 0, 21, 42, 180, 0, 10, 5, 182, 0, 86, 135, 42, 180, 0, 10, 180, 0, 90, 135, 111, 175]
theorem hb_52 : prog_1_method_53_code.data.toList.map UInt8.toNat = bl_52 := dk_eq_t _ _ (by decide +kernel)
def bl_53 : List Nat := [42, 27, 182, 0, 125, 78, 42, 28, 182, 0, 125, 58, 4, 45, 180, 0, 150, 5, 159, 0, 16, 25, 4, 180, 0, 150, 5, 159, 0, 7, 4, 167, 0, 4, 3, 184, 0, 193, 45, 182, 0, 197, 25, 4, 182, 0, 197, 96, 5, 42, 180, 0, 10, 45, 25, 4, 182, 0, 204, 182, 0, 197, 104, 100, 172]
theorem hb_53 : prog_1_method_54_code.data.toList.map UInt8.toNat = bl_53 := dk_eq_t _ _ (by decide +kernel)
def bl_54 : List Nat := [42, 27, 182, 0, 125, 77, 44, 182, 1, 2, 184, 0, 193, 42, 180, 0, 25, 42, 180, 0, 10, 182, 0, 231, 42, 180, 0, 10, 44, 182, 1, 52, 172]
theorem hb_54 : prog_1_method_55_code.data.toList.map UInt8.toNat = bl_54 := dk_eq_t _ _ (by decide +kernel)
def bl_55 : List Nat := [42, 28, 182, 0, 125, 87, 27, 16, 7, 184, 0, 179, 42, 28, 29, 182, 0, 238, 87, 42, 28, 29, 182, 1, 28, 87, 42, 180, 0, 16, 27, 182, 0, 183, 180, 0, 186, 172]
theorem hb_55 : prog_1_method_56_code.data.toList.map UInt8.toNat = bl_55 := dk_eq_t _ _ (by decide +kernel)
def bl_56 : List Nat := [27, 16, 7, 184, 0, 179, 42, 180, 0, 16, 42, 180, 0, 10, 182, 0, 72, 3, 61, 28, 16, 40, 162, 0, 44, 42, 180, 0, 16, 27, 182, 0, 183, 42, 180, 0, 16, 180, 0, 102, 165, 0, 26, 42, 180, 0, 16, 42, 180, 0, 16, 27, 182, 0, 183, 3, 182, 0, 242, 87, 132, 2, 1, 167, 255, 212, 28, 172]
theorem hb_56 : prog_1_method_57_code.data.toList.map UInt8.toNat = bl_56 := dk_eq_t _ _ (by decide +kernel)
def bl_57 : List Nat := [42, 27, 182, 0, 125, 77, 2, 62, 2, 54, 4, 42, 180, 0, 10, 180, 0, 221, 58, 5, 25, 5, 190, 54, 6, 3, 54, 7, 21, 7, 21, 6, 162, 0, 58, 25, 5, 21, 7, 50, 58, 8, 25, 8, 44, 182, 1, 55, 153, 0, 16, 42, 180, 0, 10, 25, 8, 3, 182, 0, 208, 167, 0, 4, 2, 54, 9, 21, 9, 21, 4, 164, 0, 13, 25, 8, 180, 0, 186, 62, 21, 9, 54, 4, 132, 7, 1, 167, 255, 197, 29, 172]
theorem hb_57 : prog_1_method_58_code.data.toList.map UInt8.toNat = bl_57 := dk_eq_t _ _ (by decide +kernel)
def bl_58 : List Nat := [42, 27, 182, 0, 125, 77, 3, 62, 42, 180, 0, 10, 180, 0, 221, 58, 4, 25, 4, 190, 54, 5, 3, 54, 6, 21, 6, 21, 5, 162, 0, 43, 25, 4, 21, 6, 50, 58, 7, 25, 7, 182, 0, 225, 153, 0, 22, 44, 25, 7, 182, 0, 200, 153, 0, 13, 29, 4, 25, 7, 180, 0, 153, 120, 128, 62, 132, 6, 1, 167, 255, 212, 29, 172]
theorem hb_58 : prog_1_method_59_code.data.toList.map UInt8.toNat = bl_58 := dk_eq_t _ _ (by decide +kernel)
def bl_59 : List Nat := [42, 27, 182, 0, 125, 77, 3, 62, 42, 180, 0, 10, 180, 0, 221, 58, 4, 25, 4, 190, 54, 5, 3, 54, 6, 21, 6, 21, 5, 162, 0, 40, 25, 4, 21, 6, 50, 58, 7, 25, 7, 44, 182, 1, 55, 153, 0, 18, 25, 7, 180, 0, 153, 44, 180, 0, 153, 159, 0, 6, 132, 3, 1, 132, 6, 1, 167, 255, 215, 29, 172]
theorem hb_59 : prog_1_method_60_code.data.toList.map UInt8.toNat = bl_59 := dk_eq_t _ _ (by decide +kernel)
def bl_60 : List Nat := [42, 27, 182, 0, 125, 78, 28, 7, 184, 0, 179, 45, 180, 0, 150, 5, 159, 0, 7, 4, 167, 0, 4, 3, 184, 0, 193, 42, 180, 0, 39, 3, 181, 0, 79, 28, 170, 0, 0, 0, 0, 0, 0, 89, 0, 0, 0, 0, 0, 0, 0, 3, 0, 0, 0, 32, 0, 0, 0, 43, 0, 0, 0, 58, 0, 0, 0, 74, 42, 180, 0, 39, 45, 182, 1, 58, 167, 0, 61, 42, 180, 0, 39, 42, 180, 0, 10, 45, 182, 1, 61, 167, 0, 46, 42, 180, 0, 39, 42, 180, 0, 10, 45, 3, 184, 1, 65, 167, 0, 30, 42, 180, 0, 39, 42, 180, 0, 10, 45, 182, 1, 69, 167, 0, 15, 42, 180, 0, 39, 42, 180, 0, 10, 45, 182, 1, 72, 42, 180, 0, 39, 180, 0, 79, 154, 0, 12, 42, 180, 0, 39, 16, 45, 182, 1, 75, 42, 180, 0, 39, 180, 0, 79, 172]
theorem hb_60 : prog_1_method_61_code.data.toList.map UInt8.toNat = bl_60 := dk_eq_t _ _ (by decide +kernel)
def bl_61 : List Nat := [27, 155, 0, 21, 27, 42, 180, 0, 39, 180, 0, 79, 162, 0, 10, 27, 17, 1, 44, 161, 0, 7, 2, 167, 0, 12, 42, 180, 0, 39, 180, 1, 79, 27, 51, 172]
theorem hb_61 : prog_1_method_62_code.data.toList.map UInt8.toNat = bl_61 := dk_eq_t _ _ (by decide +kernel)
def bl_62 : List Nat := [42, 180, 0, 25, 42, 180, 0, 10, 182, 1, 83, 153, 0, 13, 42, 180, 0, 25, 180, 0, 76, 167, 0, 4, 2, 172]
theorem hb_62 : prog_1_method_63_code.data.toList.map UInt8.toNat = bl_62 := dk_eq_t _ _ (by decide +kernel)
def bl_63 : List Nat := [42, 180, 0, 19, 42, 180, 0, 10, 182, 0, 72, 42, 4, 181, 0, 43, 42, 180, 0, 10, 3, 182, 0, 86, 172]
theorem hb_63 : prog_1_method_64_code.data.toList.map UInt8.toNat = bl_63 := dk_eq_t _ _ (by decide +kernel)
def bl_64 : List Nat := [42, 180, 0, 43, 184, 0, 193, 42, 180, 0, 10, 42, 180, 0, 19, 182, 0, 72, 42, 180, 0, 25, 3, 181, 0, 76, 42, 180, 0, 10, 3, 182, 0, 86, 172]
theorem hb_64 : prog_1_method_65_code.data.toList.map UInt8.toNat = bl_64 := dk_eq_t _ _ (by decide +kernel)
def bl_65 : List Nat := [42, 180, 0, 10, 27, 182, 1, 31, 77, 44, 199, 0, 14, 187, 1, 87, 89, 19, 1, 89, 183, 1, 91, 191, 44, 176]
theorem hb_65 : prog_1_method_66_code.data.toList.map UInt8.toNat = bl_65 := dk_eq_t _ _ (by decide +kernel)
def bl_66 : List Nat := [26, 155, 0, 8, 26, 27, 164, 0, 14, 187, 0, 118, 89, 19, 1, 92, 183, 0, 122, 191, 177]
theorem hb_66 : prog_1_method_67_code.data.toList.map UInt8.toNat = bl_66 := dk_eq_t _ _ (by decide +kernel)
def bl_67 : List Nat := [26, 154, 0, 14, 187, 1, 94, 89, 19, 1, 96, 183, 1, 98, 191, 177]
theorem hb_67 : prog_1_method_68_code.data.toList.map UInt8.toNat = bl_67 := dk_eq_t _ _ (by decide +kernel)
def bl_68 : List Nat := [42, 199, 0, 7, 2, 167, 0, 7, 42, 180, 0, 186, 172]
theorem hb_68 : prog_1_method_69_code.data.toList.map UInt8.toNat = bl_68 := dk_eq_t _ _ (by decide +kernel)
def bl_69 : List Nat := [42, 27, 182, 0, 125, 78, 28, 17, 0, 255, 184, 0, 179, 45, 182, 1, 2, 184, 0, 193, 45, 176]
theorem hb_69 : prog_1_method_70_code.data.toList.map UInt8.toNat = bl_69 := dk_eq_t _ _ (by decide +kernel)
def bl_70 : List Nat := [26, 16, 9, 184, 0, 179, 27, 17, 0, 255, 184, 0, 179, 177]
theorem hb_70 : prog_1_method_71_code.data.toList.map UInt8.toNat = bl_70 := dk_eq_t _ _ (by decide +kernel)
def bl_71 : List Nat := [42, 180, 0, 16, 42, 180, 0, 10, 182, 0, 72, 42, 180, 0, 16, 27, 182, 1, 31, 78, 45, 199, 0, 7, 3, 167, 0, 12, 42, 180, 0, 16, 45, 28, 182, 0, 242, 172]
theorem hb_71 : prog_1_method_72_code.data.toList.map UInt8.toNat = bl_71 := dk_eq_t _ _ (by decide +kernel)
def bl_72 : List Nat := [42, 44, 180, 0, 186, 182, 1, 99, 44, 180, 0, 144, 153, 0, 9, 29, 16, 40, 161, 0, 4, 177, 16, 40, 54, 4, 43, 180, 0, 221, 58, 5, 25, 5, 190, 54, 6, 3, 54, 7, 21, 7, 21, 6, 162, 0, 45, 25, 5, 21, 7, 50, 58, 8, 25, 8, 44, 182, 1, 55, 153, 0, 23, 42, 21, 4, 182, 1, 75, 42, 43, 25, 8, 29, 4, 96, 184, 1, 65, 16, 32, 54, 4, 132, 7, 1, 167, 255, 210, 42, 16, 41, 182, 1, 75, 177]
theorem hb_72 : prog_1_method_73_code.data.toList.map UInt8.toNat = bl_72 := dk_eq_t _ _ (by decide +kernel)
def bl_73 : List Nat := [42, 183, 0, 1, 42, 17, 3, 12, 188, 10, 181, 0, 7, 42, 17, 3, 12, 188, 10, 181, 0, 13, 42, 17, 3, 12, 188, 10, 181, 0, 16, 42, 17, 3, 12, 188, 10, 181, 0, 19, 42, 17, 30, 120, 188, 10, 181, 0, 22, 42, 16, 40, 188, 4, 181, 0, 25, 42, 17, 1, 244, 188, 10, 181, 0, 29, 42, 2, 181, 0, 32, 42, 7, 188, 10, 181, 0, 36, 42, 16, 40, 188, 10, 181, 0, 39, 42, 17, 1, 144, 188, 10, 181, 0, 42, 42, 182, 0, 45, 177]
theorem hb_73 : prog_9_method_1_code.data.toList.map UInt8.toNat = bl_73 := dk_eq_t _ _ (by decide +kernel)
def bl_74 : List Nat := [42, 180, 0, 48, 172]
theorem hb_74 : prog_9_method_2_code.data.toList.map UInt8.toNat = bl_74 := dk_eq_t _ _ (by decide +kernel)
def bl_75 : List Nat := [26, 27, 161, 0, 12, 26, 28, 163, 0, 7, 4, 167, 0, 4, 3, 172]
theorem hb_75 : prog_9_method_3_code.data.toList.map UInt8.toNat = bl_75 := dk_eq_t _ _ (by decide +kernel)
def bl_76 : List Nat := [27, 153, 0, 8, 42, 28, 181, 0, 48, 27, 172]
theorem hb_76 : prog_9_method_4_code.data.toList.map UInt8.toNat = bl_76 := dk_eq_t _ _ (by decide +kernel)
def bl_77 : List Nat := [3, 54, 5, 21, 5, 21, 4, 162, 0, 21, 44, 29, 21, 5, 96, 42, 27, 21, 5, 96, 46, 79, 132, 5, 1, 167, 255, 234, 177]
theorem hb_77 : prog_9_method_5_code.data.toList.map UInt8.toNat = bl_77 := dk_eq_t _ _ (by decide +kernel)
def bl_78 : List Nat := [3, 60, 27, 17, 3, 12, 162, 0, 16, 42, 180, 0, 7, 27, 3, 79, 132, 1, 1, 167, 255, 239, 42, 180, 0, 7, 8, 6, 79, 3, 60, 27, 6, 162, 0, 19, 42, 180, 0, 7, 16, 6, 27, 96, 27, 79, 132, 1, 1, 167, 255, 238, 42, 180, 0, 7, 16, 59, 16, 20, 79, 42, 2, 16, 9, 3, 3, 182, 0, 51, 87, 177]
theorem hb_78 : prog_9_method_6_code.data.toList.map UInt8.toNat = bl_78 := dk_eq_t _ _ (by decide +kernel)
def bl_79 : List Nat := [42, 180, 0, 7, 3, 46, 54, 5, 42, 180, 0, 7, 16, 60, 21, 5, 96, 27, 79, 42, 180, 0, 7, 16, 100, 21, 5, 96, 28, 79, 42, 180, 0, 7, 17, 0, 140, 21, 5, 96, 3, 79, 42, 180, 0, 7, 17, 0, 180, 21, 5, 96, 29, 79, 42, 180, 0, 7, 17, 0, 220, 21, 5, 96, 21, 4, 79, 42, 180, 0, 7, 17, 1, 4, 21, 5, 96, 2, 79, 42, 180, 0, 7, 17, 1, 44, 21, 5, 96, 2, 79, 42, 180, 0, 7, 17, 1, 84, 21, 5, 96, 3, 79, 42, 180, 0, 7, 17, 1, 124, 21, 5, 96, 3, 79, 42, 180, 0, 7, 17, 1, 164, 21, 5, 96, 2, 79, 3, 54, 6, 21, 6, 16, 8, 162, 0, 27, 42, 180, 0, 7, 17, 1, 204, 16, 8, 21, 5, 104, 96, 21, 6, 96, 2, 79, 132, 6, 1, 167, 255, 228, 42, 180, 0, 7, 3, 92, 46, 4, 96, 79, 21, 5, 172]
theorem hb_79 : prog_9_method_7_code.data.toList.map UInt8.toNat = bl_79 := dk_eq_t _ _ (by decide +kernel)
def bl_80 : List Nat := [42, 180, 0, 55, 16, 10, 160, 0, 31, 42, 180, 0, 22, 17, 3, 12, 42, 180, 0, 22, 3, 17, 27, 108, 184, 0, 58, 42, 89, 180, 0, 55, 4, 100, 181, 0, 55, 42, 180, 0, 7, 3, 42, 180, 0, 22, 17, 3, 12, 42, 180, 0, 55, 104, 17, 3, 12, 184, 0, 58, 42, 89, 180, 0, 55, 4, 96, 181, 0, 55, 177]
theorem hb_80 : prog_9_method_8_code.data.toList.map UInt8.toNat = bl_80 := dk_eq_t _ _ (by decide +kernel)
def bl_81 : List Nat := [42, 180, 0, 7, 3, 42, 180, 0, 16, 3, 17, 3, 12, 184, 0, 58, 177]
theorem hb_81 : prog_9_method_9_code.data.toList.map UInt8.toNat = bl_81 := dk_eq_t _ _ (by decide +kernel)
def bl_82 : List Nat := [42, 180, 0, 16, 3, 42, 180, 0, 7, 3, 17, 3, 12, 184, 0, 58, 177]
theorem hb_82 : prog_9_method_10_code.data.toList.map UInt8.toNat = bl_82 := dk_eq_t _ _ (by decide +kernel)
def bl_83 : List Nat := [42, 180, 0, 7, 17, 0, 140, 27, 96, 46, 154, 0, 7, 4, 167, 0, 4, 3, 172]
theorem hb_83 : prog_9_method_11_code.data.toList.map UInt8.toNat = bl_83 := dk_eq_t _ _ (by decide +kernel)
def bl_84 : List Nat := [42, 180, 0, 7, 17, 0, 140, 27, 96, 46, 29, 160, 0, 24, 42, 180, 0, 7, 16, 60, 27, 96, 46, 28, 160, 0, 11, 27, 153, 0, 7, 4, 167, 0, 4, 3, 172]
theorem hb_84 : prog_9_method_12_code.data.toList.map UInt8.toNat = bl_84 := dk_eq_t _ _ (by decide +kernel)
def bl_85 : List Nat := [3, 62, 3, 54, 4, 21, 4, 42, 180, 0, 7, 3, 46, 162, 0, 28, 29, 42, 21, 4, 27, 28, 182, 0, 62, 153, 0, 7, 4, 167, 0, 4, 3, 96, 62, 132, 4, 1, 167, 255, 223, 29, 172]
theorem hb_85 : prog_9_method_13_code.data.toList.map UInt8.toNat = bl_85 := dk_eq_t _ _ (by decide +kernel)
def bl_86 : List Nat := [42, 27, 182, 0, 66, 153, 0, 26, 3, 42, 180, 0, 7, 16, 100, 27, 96, 46, 42, 27, 3, 182, 0, 70, 100, 184, 0, 74, 167, 0, 4, 3, 172]
theorem hb_86 : prog_9_method_14_code.data.toList.map UInt8.toNat = bl_86 := dk_eq_t _ _ (by decide +kernel)
def bl_87 : List Nat := [42, 180, 0, 7, 17, 1, 84, 27, 96, 46, 28, 122, 4, 126, 4, 160, 0, 7, 4, 167, 0, 4, 3, 172]
theorem hb_87 : prog_9_method_15_code.data.toList.map UInt8.toNat = bl_87 := dk_eq_t _ _ (by decide +kernel)
def bl_88 : List Nat := [28, 62, 29, 153, 0, 29, 42, 180, 0, 7, 16, 60, 29, 96, 46, 27, 159, 0, 16, 42, 180, 0, 7, 16, 60, 29, 96, 46, 62, 167, 255, 229, 29, 153, 0, 7, 4, 167, 0, 4, 3, 172]
theorem hb_88 : prog_9_method_16_code.data.toList.map UInt8.toNat = bl_88 := dk_eq_t _ _ (by decide +kernel)
def bl_89 : List Nat := [3, 61, 27, 62, 29, 153, 0, 19, 132, 2, 1, 42, 180, 0, 7, 16, 60, 29, 96, 46, 62, 167, 255, 239, 28, 172]
theorem hb_89 : prog_9_method_17_code.data.toList.map UInt8.toNat = bl_89 := dk_eq_t _ _ (by decide +kernel)
def bl_90 : List Nat := [3, 60, 3, 61, 28, 42, 180, 0, 7, 3, 46, 162, 0, 25, 27, 42, 28, 182, 0, 66, 153, 0, 7, 4, 167, 0, 4, 3, 96, 60, 132, 2, 1, 167, 255, 227, 27, 172]
theorem hb_90 : prog_9_method_18_code.data.toList.map UInt8.toNat = bl_90 := dk_eq_t _ _ (by decide +kernel)
def bl_91 : List Nat := [42, 27, 182, 0, 66, 153, 0, 71, 27, 28, 159, 0, 66, 42, 28, 27, 182, 0, 79, 154, 0, 57, 42, 180, 0, 25, 27, 51, 154, 0, 48, 42, 27, 182, 0, 83, 158, 0, 40, 42, 27, 182, 0, 87, 42, 180, 0, 7, 16, 59, 46, 162, 0, 25, 42, 27, 42, 180, 0, 7, 17, 0, 180, 28, 96, 46, 182, 0, 90, 154, 0, 7, 4, 167, 0, 4, 3, 172]
theorem hb_91 : prog_9_method_19_code.data.toList.map UInt8.toNat = bl_91 := dk_eq_t _ _ (by decide +kernel)
def bl_92 : List Nat := [28, 62, 29, 153, 0, 32, 29, 28, 159, 0, 14, 42, 29, 27, 182, 0, 93, 153, 0, 5, 29, 172, 42, 180, 0, 7, 16, 60, 29, 96, 46, 62, 167, 255, 226, 2, 172]
theorem hb_92 : prog_9_method_20_code.data.toList.map UInt8.toNat = bl_92 := dk_eq_t _ _ (by decide +kernel)
def bl_93 : List Nat := [2, 54, 4, 4, 54, 5, 21, 5, 42, 180, 0, 7, 3, 46, 162, 0, 81, 21, 5, 28, 159, 0, 69, 29, 153, 0, 27, 42, 180, 0, 7, 17, 0, 180, 21, 5, 96, 46, 42, 180, 0, 7, 17, 0, 180, 27, 96, 46, 160, 0, 41, 42, 21, 5, 27, 182, 0, 93, 154, 0, 6, 167, 0, 28, 21, 4, 2, 159, 0, 18, 42, 21, 5, 182, 0, 83, 42, 21, 4, 182, 0, 83, 164, 0, 7, 21, 5, 54, 4, 132, 5, 1, 167, 255, 170, 21, 4, 172]
theorem hb_93 : prog_9_method_21_code.data.toList.map UInt8.toNat = bl_93 := dk_eq_t _ _ (by decide +kernel)
def bl_94 : List Nat := [28, 154, 0, 5, 2, 172, 4, 62, 29, 42, 180, 0, 7, 3, 46, 162, 0, 43, 29, 28, 159, 0, 32, 42, 29, 42, 180, 0, 7, 16, 60, 28, 96, 46, 3, 182, 0, 62, 153, 0, 14, 42, 29, 27, 182, 0, 93, 153, 0, 5, 29, 172, 132, 3, 1, 167, 255, 209, 2, 172]
theorem hb_94 : prog_9_method_22_code.data.toList.map UInt8.toNat = bl_94 := dk_eq_t _ _ (by decide +kernel)
def bl_95 : List Nat := [4, 62, 29, 42, 180, 0, 7, 3, 46, 162, 0, 25, 29, 28, 159, 0, 14, 42, 29, 27, 182, 0, 93, 153, 0, 5, 29, 172, 132, 3, 1, 167, 255, 227, 2, 172]
theorem hb_95 : prog_9_method_23_code.data.toList.map UInt8.toNat = bl_95 := dk_eq_t _ _ (by decide +kernel)
def bl_96 : List Nat := [27, 170, 0, 0, 0, 0, 0, 61, 0, 0, 0, 0, 0, 0, 0, 3, 0, 0, 0, 31, 0, 0, 0, 38, 0, 0, 0, 46, 0, 0, 0, 54, 42, 28, 29, 182, 0, 96, 172, 42, 28, 29, 4, 182, 0, 99, 172, 42, 28, 29, 3, 182, 0, 99, 172, 42, 28, 29, 182, 0, 103, 172, 42, 28, 29, 182, 0, 106, 172]
theorem hb_96 : prog_9_method_24_code.data.toList.map UInt8.toNat = bl_96 := dk_eq_t _ _ (by decide +kernel)
def bl_97 : List Nat := [3, 62, 29, 42, 180, 0, 7, 8, 46, 162, 0, 35, 42, 42, 180, 0, 7, 16, 6, 29, 96, 46, 27, 28, 182, 0, 109, 54, 4, 21, 4, 2, 159, 0, 6, 21, 4, 172, 132, 3, 1, 167, 255, 217, 3, 172]
theorem hb_97 : prog_9_method_25_code.data.toList.map UInt8.toNat = bl_97 := dk_eq_t _ _ (by decide +kernel)
def bl_98 : List Nat := [42, 180, 0, 7, 16, 60, 28, 96, 27, 79, 42, 180, 0, 7, 17, 1, 124, 28, 96, 92, 46, 4, 96, 79, 42, 180, 0, 7, 5, 92, 46, 4, 96, 79, 42, 180, 0, 7, 6, 92, 46, 27, 154, 0, 7, 4, 167, 0, 4, 3, 96, 79, 177]
theorem hb_98 : prog_9_method_26_code.data.toList.map UInt8.toNat = bl_98 := dk_eq_t _ _ (by decide +kernel)
def bl_99 : List Nat := [42, 180, 0, 7, 16, 60, 27, 96, 46, 62, 28, 153, 0, 36, 42, 180, 0, 25, 29, 51, 154, 0, 27, 42, 180, 0, 7, 17, 0, 220, 29, 96, 46, 153, 0, 14, 42, 180, 0, 7, 3, 46, 16, 40, 160, 0, 5, 2, 172, 42, 180, 0, 7, 17, 0, 220, 29, 96, 92, 46, 4, 100, 79, 42, 180, 0, 7, 7, 92, 46, 4, 96, 79, 42, 29, 42, 180, 0, 7, 16, 100, 27, 96, 46, 42, 180, 0, 7, 17, 0, 180, 27, 96, 46, 42, 180, 0, 7, 17, 0, 220, 27, 96, 46, 182, 0, 51, 54, 4, 42, 180, 0, 25, 21, 4, 3, 84, 42, 180, 0, 7, 17, 1, 164, 27, 96, 21, 4, 79, 21, 4, 172]
theorem hb_99 : prog_9_method_27_code.data.toList.map UInt8.toNat = bl_99 := dk_eq_t _ _ (by decide +kernel)
def bl_100 : List Nat := [42, 180, 0, 7, 17, 1, 204, 16, 8, 27, 104, 96, 28, 96, 46, 62, 29, 2, 159, 0, 24, 42, 29, 182, 0, 66, 153, 0, 16, 42, 180, 0, 25, 29, 51, 154, 0, 7, 29, 167, 0, 8, 42, 27, 182, 0, 113, 172]
theorem hb_100 : prog_9_method_28_code.data.toList.map UInt8.toNat = bl_100 := dk_eq_t _ _ (by decide +kernel)
def bl_101 : List Nat := [42, 180, 0, 7, 17, 1, 4, 27, 96, 46, 61, 28, 2, 159, 0, 22, 42, 28, 182, 0, 66, 153, 0, 14, 42, 180, 0, 25, 28, 51, 154, 0, 5, 28, 172, 3, 62, 29, 42, 180, 0, 7, 3, 46, 162, 0, 30, 42, 29, 27, 3, 182, 0, 62, 153, 0, 14, 42, 180, 0, 25, 29, 51, 154, 0, 5, 29, 172, 132, 3, 1, 167, 255, 222, 42, 180, 0, 7, 16, 60, 27, 96, 46, 172]
theorem hb_101 : prog_9_method_29_code.data.toList.map UInt8.toNat = bl_101 := dk_eq_t _ _ (by decide +kernel)
def bl_102 : List Nat := [3, 61, 28, 42, 180, 0, 7, 4, 46, 162, 0, 37, 42, 42, 180, 0, 7, 16, 19, 28, 96, 46, 27, 4, 182, 0, 62, 153, 0, 13, 42, 180, 0, 7, 16, 19, 28, 96, 46, 172, 132, 2, 1, 167, 255, 215, 2, 172]
theorem hb_102 : prog_9_method_30_code.data.toList.map UInt8.toNat = bl_102 := dk_eq_t _ _ (by decide +kernel)
def bl_103 : List Nat := [3, 61, 42, 27, 182, 0, 116, 62, 29, 2, 159, 0, 36, 42, 180, 0, 7, 17, 0, 140, 29, 96, 5, 79, 28, 42, 180, 0, 7, 17, 1, 44, 29, 96, 46, 96, 61, 42, 27, 182, 0, 116, 62, 167, 255, 221, 28, 172]
theorem hb_103 : prog_9_method_31_code.data.toList.map UInt8.toNat = bl_103 := dk_eq_t _ _ (by decide +kernel)
def bl_104 : List Nat := [42, 180, 0, 7, 16, 60, 27, 96, 46, 62, 42, 180, 0, 7, 6, 46, 54, 4, 42, 180, 0, 7, 17, 0, 140, 27, 96, 4, 79, 42, 180, 0, 7, 17, 1, 44, 27, 96, 28, 79, 42, 180, 0, 7, 16, 19, 42, 180, 0, 7, 4, 46, 96, 27, 79, 42, 180, 0, 7, 4, 92, 46, 4, 96, 79, 42, 27, 28, 182, 0, 119, 54, 5, 3, 54, 6, 21, 6, 16, 8, 162, 0, 51, 42, 180, 0, 7, 16, 11, 21, 6, 96, 46, 27, 160, 0, 31, 42, 180, 0, 7, 16, 11, 21, 6, 96, 21, 5, 2, 159, 0, 8, 21, 5, 167, 0, 10, 42, 27, 21, 6, 182, 0, 122, 79, 132, 6, 1, 167, 255, 204, 4, 54, 6, 21, 6, 42, 180, 0, 7, 3, 46, 162, 0, 56, 42, 21, 6, 27, 3, 182, 0, 62, 154, 0, 6, 167, 0, 36, 42, 21, 5, 2, 159, 0, 17, 42, 21, 5, 182, 0, 83, 158, 0, 8, 21, 5, 167, 0, 10, 42, 21, 6, 27, 182, 0, 125, 21, 6, 182, 0, 128, 132, 6, 1, 167, 255, 195, 4, 54, 6, 21, 6, 42, 180, 0, 7, 3, 46, 162, 0, 31, 42, 21, 6, 27, 4, 182, 0, 62, 153, 0, 14, 42, 180, 0, 7, 16, 60, 21, 6, 96, 29, 79, 132, 6, 1, 167, 255, 220, 29, 154, 0, 11, 42, 3, 182, 0, 132, 167, 0, 4, 3, 54, 6, 21, 6, 156, 0, 7, 2, 167, 0, 12, 42, 180, 0, 7, 6, 46, 21, 4, 100, 172]
theorem hb_104 : prog_9_method_32_code.data.toList.map UInt8.toNat = bl_104 := dk_eq_t _ _ (by decide +kernel)
def bl_105 : List Nat := [42, 180, 0, 7, 3, 46, 62, 3, 54, 4, 3, 54, 5, 21, 5, 16, 40, 162, 0, 56, 42, 180, 0, 25, 21, 5, 21, 5, 158, 0, 37, 21, 5, 29, 162, 0, 31, 42, 21, 5, 182, 0, 66, 153, 0, 22, 42, 180, 0, 7, 17, 0, 180, 21, 5, 96, 46, 27, 160, 0, 7, 4, 167, 0, 4, 3, 84, 132, 5, 1, 167, 255, 199, 4, 54, 5, 21, 5, 29, 162, 0, 46, 42, 180, 0, 25, 21, 5, 51, 154, 0, 6, 167, 0, 27, 42, 21, 5, 28, 182, 0, 135, 54, 6, 21, 4, 21, 6, 156, 0, 7, 3, 167, 0, 4, 4, 96, 54, 4, 132, 5, 1, 167, 255, 210, 3, 54, 5, 21, 5, 16, 40, 162, 0, 17, 42, 180, 0, 25, 21, 5, 3, 84, 132, 5, 1, 167, 255, 238, 21, 4, 172]
theorem hb_105 : prog_9_method_33_code.data.toList.map UInt8.toNat = bl_105 := dk_eq_t _ _ (by decide +kernel)
def bl_106 : List Nat := [16, 24, 61, 28, 155, 0, 35, 42, 180, 0, 29, 42, 180, 0, 138, 27, 28, 122, 17, 0, 255, 126, 79, 42, 89, 180, 0, 138, 4, 96, 181, 0, 138, 132, 2, 248, 167, 255, 223, 177]
theorem hb_106 : prog_9_method_34_code.data.toList.map UInt8.toNat = bl_106 := dk_eq_t _ _ (by decide +kernel)
def bl_107 : List Nat := [42, 3, 181, 0, 48, 42, 180, 0, 138, 16, 20, 96, 17, 1, 244, 164, 0, 5, 2, 172, 42, 27, 182, 0, 141, 42, 28, 182, 0, 141, 42, 29, 182, 0, 141, 42, 21, 4, 182, 0, 141, 42, 21, 5, 182, 0, 141, 42, 180, 0, 138, 172]
theorem hb_107 : prog_9_method_35_code.data.toList.map UInt8.toNat = bl_107 := dk_eq_t _ _ (by decide +kernel)
def bl_108 : List Nat := [42, 3, 181, 0, 48, 27, 3, 42, 180, 0, 138, 184, 0, 145, 154, 0, 5, 3, 172, 42, 27, 181, 0, 138, 4, 172]
theorem hb_108 : prog_9_method_36_code.data.toList.map UInt8.toNat = bl_108 := dk_eq_t _ _ (by decide +kernel)
def bl_109 : List Nat := [27, 42, 180, 0, 138, 162, 0, 12, 42, 180, 0, 29, 27, 46, 167, 0, 4, 2, 172]
theorem hb_109 : prog_9_method_37_code.data.toList.map UInt8.toNat = bl_109 := dk_eq_t _ _ (by decide +kernel)
def bl_110 : List Nat := [42, 42, 180, 0, 148, 182, 0, 151, 16, 32, 159, 0, 16, 42, 42, 180, 0, 148, 182, 0, 151, 16, 10, 160, 0, 16, 42, 89, 180, 0, 148, 4, 96, 181, 0, 148, 167, 255, 220, 42, 42, 180, 0, 148, 181, 0, 154, 42, 42, 180, 0, 148, 182, 0, 151, 60, 42, 3, 181, 0, 157, 27, 2, 160, 0, 11, 42, 3, 181, 0, 160, 167, 0, 158, 27, 16, 97, 16, 122, 184, 0, 145, 153, 0, 39, 42, 4, 181, 0, 160, 42, 42, 180, 0, 148, 182, 0, 151, 16, 97, 16, 122, 184, 0, 145, 153, 0, 124, 42, 89, 180, 0, 148, 4, 96, 181, 0, 148, 167, 255, 228, 27, 16, 48, 16, 57, 184, 0, 145, 153, 0, 75, 42, 5, 181, 0, 160, 42, 42, 180, 0, 148, 182, 0, 151, 16, 48, 16, 57, 184, 0, 145, 153, 0, 77, 42, 180, 0, 148, 42, 180, 0, 154, 100, 5, 162, 0, 26, 42, 16, 10, 42, 180, 0, 157, 104, 42, 42, 180, 0, 148, 182, 0, 151, 96, 16, 48, 100, 181, 0, 157, 42, 89, 180, 0, 148, 4, 96, 181, 0, 148, 167, 255, 192, 42, 27, 16, 59, 160, 0, 7, 6, 167, 0, 4, 7, 181, 0, 160, 42, 89, 180, 0, 148, 4, 96, 181, 0, 148, 177]
theorem hb_110 : prog_9_method_38_code.data.toList.map UInt8.toNat = bl_110 := dk_eq_t _ _ (by decide +kernel)
def bl_111 : List Nat := [42, 180, 0, 148, 42, 180, 0, 154, 100, 172]
theorem hb_111 : prog_9_method_39_code.data.toList.map UInt8.toNat = bl_111 := dk_eq_t _ _ (by decide +kernel)
def bl_112 : List Nat := [42, 180, 0, 163, 154, 0, 16, 42, 27, 181, 0, 163, 42, 42, 180, 0, 154, 181, 0, 166, 3, 172]
theorem hb_112 : prog_9_method_40_code.data.toList.map UInt8.toNat = bl_112 := dk_eq_t _ _ (by decide +kernel)
def bl_113 : List Nat := [42, 180, 0, 160, 4, 160, 0, 14, 42, 182, 0, 169, 43, 182, 0, 173, 159, 0, 5, 3, 172, 3, 61, 28, 43, 182, 0, 173, 162, 0, 30, 42, 180, 0, 29, 42, 180, 0, 154, 28, 96, 46, 43, 28, 182, 0, 178, 159, 0, 5, 3, 172, 132, 2, 1, 167, 255, 224, 4, 172]
theorem hb_113 : prog_9_method_41_code.data.toList.map UInt8.toNat = bl_113 := dk_eq_t _ _ (by decide +kernel)
def bl_114 : List Nat := [42, 180, 0, 160, 5, 160, 0, 11, 42, 182, 0, 169, 5, 164, 0, 9, 42, 4, 182, 0, 182, 172, 42, 180, 0, 157, 27, 28, 184, 0, 145, 154, 0, 11, 42, 5, 182, 0, 182, 153, 0, 7, 4, 167, 0, 4, 3, 172]
theorem hb_114 : prog_9_method_42_code.data.toList.map UInt8.toNat = bl_114 := dk_eq_t _ _ (by decide +kernel)
def bl_115 : List Nat := [42, 28, 29, 182, 0, 185, 154, 0, 5, 3, 172, 42, 180, 0, 36, 27, 42, 180, 0, 157, 79, 42, 182, 0, 188, 4, 172]
theorem hb_115 : prog_9_method_43_code.data.toList.map UInt8.toNat = bl_115 := dk_eq_t _ _ (by decide +kernel)
def bl_116 : List Nat := [42, 180, 0, 191, 27, 126, 153, 0, 9, 42, 6, 182, 0, 182, 172, 42, 89, 180, 0, 191, 27, 128, 181, 0, 191, 42, 182, 0, 188, 4, 172]
theorem hb_116 : prog_9_method_44_code.data.toList.map UInt8.toNat = bl_116 := dk_eq_t _ _ (by decide +kernel)
def bl_117 : List Nat := [42, 18, 194, 182, 0, 196, 153, 0, 5, 3, 172, 42, 18, 200, 182, 0, 196, 153, 0, 5, 4, 172, 42, 18, 202, 182, 0, 196, 153, 0, 5, 5, 172, 42, 18, 204, 182, 0, 196, 153, 0, 5, 6, 172, 42, 18, 206, 182, 0, 196, 153, 0, 7, 7, 167, 0, 4, 2, 172]
theorem hb_117 : prog_9_method_45_code.data.toList.map UInt8.toNat = bl_117 := dk_eq_t _ _ (by decide +kernel)
def bl_118 : List Nat := [42, 5, 182, 0, 208, 153, 0, 14, 42, 3, 4, 16, 20, 182, 0, 211, 154, 0, 5, 3, 172, 42, 180, 0, 7, 16, 59, 42, 180, 0, 36, 3, 46, 79, 4, 172]
theorem hb_118 : prog_9_method_46_code.data.toList.map UInt8.toNat = bl_118 := dk_eq_t _ _ (by decide +kernel)
def bl_119 : List Nat := [42, 7, 182, 0, 208, 153, 0, 25, 42, 3, 3, 16, 9, 182, 0, 211, 153, 0, 14, 42, 4, 3, 16, 9, 182, 0, 211, 154, 0, 5, 3, 172, 42, 180, 0, 7, 16, 100, 42, 180, 0, 36, 3, 46, 79, 42, 180, 0, 7, 17, 0, 220, 42, 180, 0, 36, 4, 46, 79, 4, 172]
theorem hb_119 : prog_9_method_47_code.data.toList.map UInt8.toNat = bl_119 := dk_eq_t _ _ (by decide +kernel)
def bl_120 : List Nat := [42, 182, 0, 188, 42, 3, 4, 42, 180, 0, 7, 3, 46, 4, 100, 182, 0, 211, 153, 0, 13, 42, 3, 16, 7, 182, 0, 185, 154, 0, 5, 3, 172, 42, 180, 0, 7, 17, 1, 204, 16, 8, 42, 180, 0, 36, 3, 46, 104, 96, 42, 180, 0, 157, 96, 46, 2, 159, 0, 9, 42, 6, 182, 0, 182, 172, 42, 4, 3, 16, 7, 182, 0, 211, 153, 0, 19, 42, 3, 42, 180, 0, 7, 3, 46, 4, 100, 182, 0, 185, 154, 0, 5, 3, 172, 42, 180, 0, 157, 42, 180, 0, 36, 3, 46, 160, 0, 9, 42, 5, 182, 0, 182, 172, 42, 5, 3, 42, 180, 0, 7, 3, 46, 4, 100, 182, 0, 211, 154, 0, 5, 3, 172, 42, 180, 0, 7, 17, 1, 204, 16, 8, 42, 180, 0, 36, 3, 46, 104, 96, 42, 180, 0, 36, 4, 46, 96, 42, 180, 0, 36, 5, 46, 79, 4, 172]
theorem hb_120 : prog_9_method_48_code.data.toList.map UInt8.toNat = bl_120 := dk_eq_t _ _ (by decide +kernel)
def bl_121 : List Nat := [42, 4, 182, 0, 208, 154, 0, 5, 3, 172, 42, 180, 0, 7, 8, 3, 79, 3, 60, 42, 180, 0, 160, 4, 160, 0, 72, 42, 182, 0, 214, 61, 28, 2, 160, 0, 9, 42, 4, 182, 0, 182, 172, 27, 28, 122, 4, 126, 4, 160, 0, 9, 42, 6, 182, 0, 182, 172, 27, 4, 28, 120, 128, 60, 42, 180, 0, 7, 16, 6, 42, 180, 0, 7, 8, 46, 96, 28, 79, 42, 180, 0, 7, 8, 92, 46, 4, 96, 79, 42, 182, 0, 188, 167, 255, 182, 4, 172]
theorem hb_121 : prog_9_method_49_code.data.toList.map UInt8.toNat = bl_121 := dk_eq_t _ _ (by decide +kernel)
def bl_122 : List Nat := [42, 180, 0, 7, 3, 46, 16, 24, 164, 0, 9, 42, 7, 182, 0, 182, 172, 42, 182, 0, 188, 42, 3, 42, 180, 0, 7, 3, 46, 4, 100, 182, 0, 185, 154, 0, 5, 3, 172, 42, 42, 180, 0, 157, 182, 0, 83, 154, 0, 9, 42, 5, 182, 0, 182, 172, 42, 3, 3, 42, 180, 0, 7, 3, 46, 4, 100, 182, 0, 211, 153, 0, 36, 42, 4, 3, 16, 9, 182, 0, 211, 153, 0, 25, 42, 5, 3, 16, 9, 182, 0, 211, 153, 0, 14, 42, 6, 3, 16, 9, 182, 0, 211, 154, 0, 5, 3, 172, 42, 42, 180, 0, 36, 3, 46, 42, 180, 0, 36, 4, 46, 42, 180, 0, 36, 5, 46, 42, 180, 0, 36, 6, 46, 182, 0, 51, 87, 4, 172]
theorem hb_122 : prog_9_method_50_code.data.toList.map UInt8.toNat = bl_122 := dk_eq_t _ _ (by decide +kernel)
def bl_123 : List Nat := [42, 182, 0, 188, 42, 4, 42, 180, 0, 7, 3, 46, 4, 100, 182, 0, 185, 154, 0, 5, 3, 172, 42, 180, 0, 7, 17, 1, 4, 42, 180, 0, 157, 96, 46, 2, 159, 0, 9, 42, 6, 182, 0, 182, 172, 42, 3, 4, 42, 180, 0, 7, 3, 46, 4, 100, 182, 0, 211, 154, 0, 5, 3, 172, 42, 3, 42, 180, 0, 7, 3, 46, 4, 100, 182, 0, 185, 154, 0, 5, 3, 172, 42, 180, 0, 157, 42, 180, 0, 36, 3, 46, 160, 0, 9, 42, 5, 182, 0, 182, 172, 42, 4, 3, 42, 180, 0, 7, 3, 46, 4, 100, 182, 0, 211, 154, 0, 5, 3, 172, 42, 180, 0, 7, 17, 1, 4, 42, 180, 0, 36, 3, 46, 96, 42, 180, 0, 36, 4, 46, 79, 4, 172]
theorem hb_123 : prog_9_method_51_code.data.toList.map UInt8.toNat = bl_123 := dk_eq_t _ _ (by decide +kernel)
def bl_124 : List Nat := [42, 182, 0, 188, 42, 3, 3, 16, 7, 182, 0, 211, 153, 0, 20, 42, 4, 3, 42, 180, 0, 7, 3, 46, 4, 100, 182, 0, 211, 154, 0, 5, 3, 172, 42, 180, 0, 7, 16, 11, 42, 180, 0, 36, 3, 46, 96, 42, 180, 0, 36, 4, 46, 79, 4, 172]
theorem hb_124 : prog_9_method_52_code.data.toList.map UInt8.toNat = bl_124 := dk_eq_t _ _ (by decide +kernel)
def bl_125 : List Nat := [42, 182, 0, 188, 42, 3, 4, 42, 180, 0, 7, 3, 46, 4, 100, 182, 0, 211, 153, 0, 13, 42, 3, 16, 9, 182, 0, 185, 154, 0, 5, 3, 172, 42, 42, 180, 0, 36, 3, 46, 42, 180, 0, 157, 182, 0, 90, 153, 0, 9, 42, 6, 182, 0, 182, 172, 42, 4, 3, 16, 9, 182, 0, 211, 154, 0, 5, 3, 172, 42, 180, 0, 7, 17, 1, 84, 42, 180, 0, 36, 3, 46, 96, 92, 46, 4, 42, 180, 0, 36, 4, 46, 120, 128, 79, 4, 172]
theorem hb_125 : prog_9_method_53_code.data.toList.map UInt8.toNat = bl_125 := dk_eq_t _ _ (by decide +kernel)
def bl_126 : List Nat := [42, 18, 217, 182, 0, 196, 153, 0, 8, 42, 182, 0, 219, 172, 42, 18, 223, 182, 0, 196, 153, 0, 8, 42, 182, 0, 224, 172, 42, 18, 227, 182, 0, 196, 153, 0, 8, 42, 182, 0, 229, 172, 42, 18, 232, 182, 0, 196, 153, 0, 8, 42, 182, 0, 234, 172, 42, 18, 237, 182, 0, 196, 153, 0, 8, 42, 182, 0, 239, 172, 42, 18, 242, 182, 0, 196, 153, 0, 8, 42, 182, 0, 244, 172, 42, 18, 247, 182, 0, 196, 153, 0, 8, 42, 182, 0, 249, 172, 42, 18, 252, 182, 0, 196, 153, 0, 10, 42, 182, 0, 254, 167, 0, 8, 42, 4, 182, 0, 182, 172]
theorem hb_126 : prog_9_method_54_code.data.toList.map UInt8.toNat = bl_126 := dk_eq_t _ _ (by decide +kernel)
def bl_127 : List Nat := [42, 180, 0, 160, 153, 0, 33, 42, 182, 1, 1, 154, 0, 5, 3, 172, 42, 180, 0, 160, 6, 159, 0, 9, 42, 4, 182, 0, 182, 172, 42, 182, 0, 188, 167, 255, 222, 4, 172]
theorem hb_127 : prog_9_method_55_code.data.toList.map UInt8.toNat = bl_127 := dk_eq_t _ _ (by decide +kernel)
def bl_128 : List Nat := [42, 3, 181, 0, 48, 42, 180, 0, 7, 3, 42, 180, 0, 13, 3, 17, 3, 12, 184, 0, 58, 42, 182, 0, 45, 42, 3, 181, 0, 163, 42, 2, 181, 0, 166, 42, 3, 181, 0, 148, 42, 3, 181, 0, 191, 42, 182, 0, 188, 42, 182, 1, 4, 60, 42, 3, 181, 0, 138, 42, 42, 180, 0, 163, 181, 1, 7, 42, 42, 180, 0, 166, 181, 0, 32, 27, 154, 0, 21, 42, 180, 0, 13, 3, 42, 180, 0, 7, 3, 17, 3, 12, 184, 0, 58, 2, 172, 42, 3, 181, 0, 55, 42, 3, 181, 1, 10, 42, 180, 0, 7, 3, 46, 172]
theorem hb_128 : prog_9_method_56_code.data.toList.map UInt8.toNat = bl_128 := dk_eq_t _ _ (by decide +kernel)
def bl_129 : List Nat := [42, 3, 181, 0, 48, 42, 180, 1, 7, 172]
theorem hb_129 : prog_9_method_57_code.data.toList.map UInt8.toNat = bl_129 := dk_eq_t _ _ (by decide +kernel)
def bl_130 : List Nat := [42, 3, 181, 0, 48, 42, 180, 0, 32, 172]
theorem hb_130 : prog_9_method_58_code.data.toList.map UInt8.toNat = bl_130 := dk_eq_t _ _ (by decide +kernel)
def bl_131 : List Nat := [3, 61, 3, 62, 29, 42, 180, 0, 7, 3, 46, 162, 0, 31, 28, 42, 180, 0, 7, 17, 0, 140, 29, 96, 46, 27, 160, 0, 7, 4, 167, 0, 4, 3, 96, 61, 132, 3, 1, 167, 255, 221, 28, 172]
theorem hb_131 : prog_9_method_59_code.data.toList.map UInt8.toNat = bl_131 := dk_eq_t _ _ (by decide +kernel)
def bl_132 : List Nat := [3, 61, 3, 62, 29, 16, 8, 162, 0, 32, 28, 42, 180, 0, 7, 16, 11, 29, 96, 46, 27, 160, 0, 9, 4, 29, 120, 167, 0, 4, 3, 128, 61, 132, 3, 1, 167, 255, 224, 28, 172]
theorem hb_132 : prog_9_method_60_code.data.toList.map UInt8.toNat = bl_132 := dk_eq_t _ _ (by decide +kernel)
def bl_133 : List Nat := [3, 61, 3, 62, 29, 16, 8, 162, 0, 38, 28, 42, 180, 0, 7, 17, 1, 204, 16, 8, 27, 104, 96, 29, 96, 46, 2, 159, 0, 9, 4, 29, 120, 167, 0, 4, 3, 128, 61, 132, 3, 1, 167, 255, 218, 28, 172]
theorem hb_133 : prog_9_method_61_code.data.toList.map UInt8.toNat = bl_133 := dk_eq_t _ _ (by decide +kernel)
def bl_134 : List Nat := [42, 3, 181, 0, 48, 42, 27, 3, 16, 10, 184, 0, 145, 154, 0, 7, 4, 167, 0, 4, 3, 4, 182, 1, 14, 153, 0, 5, 3, 172, 27, 170, 0, 0, 0, 94, 0, 0, 0, 0, 0, 0, 0, 10, 0, 0, 0, 57, 0, 0, 0, 64, 0, 0, 0, 64, 0, 0, 0, 64, 0, 0, 0, 94, 0, 0, 0, 94, 0, 0, 0, 94, 0, 0, 0, 94, 0, 0, 0, 72, 0, 0, 0, 81, 0, 0, 0, 86, 42, 180, 0, 7, 3, 46, 172, 42, 27, 4, 100, 182, 1, 18, 172, 42, 3, 182, 1, 21, 184, 1, 24, 172, 42, 180, 0, 55, 172, 42, 180, 0, 7, 16, 59, 46, 172, 42, 180, 0, 7, 4, 27, 96, 7, 100, 46, 172]
theorem hb_134 : prog_9_method_62_code.data.toList.map UInt8.toNat = bl_134 := dk_eq_t _ _ (by decide +kernel)
def bl_135 : List Nat := [42, 3, 181, 0, 48, 42, 27, 3, 42, 180, 0, 7, 3, 46, 4, 100, 184, 0, 145, 154, 0, 7, 4, 167, 0, 4, 3, 4, 182, 1, 14, 172]
theorem hb_135 : prog_9_method_63_code.data.toList.map UInt8.toNat = bl_135 := dk_eq_t _ _ (by decide +kernel)
def bl_136 : List Nat := [42, 27, 182, 1, 29, 154, 0, 24, 42, 42, 27, 182, 0, 66, 154, 0, 7, 4, 167, 0, 4, 3, 28, 182, 1, 14, 153, 0, 7, 4, 167, 0, 4, 3, 172]
theorem hb_136 : prog_9_method_64_code.data.toList.map UInt8.toNat = bl_136 := dk_eq_t _ _ (by decide +kernel)
def bl_137 : List Nat := [42, 27, 182, 1, 29, 154, 0, 28, 42, 27, 153, 0, 11, 42, 27, 182, 0, 66, 154, 0, 7, 4, 167, 0, 4, 3, 28, 182, 1, 14, 153, 0, 7, 4, 167, 0, 4, 3, 172]
theorem hb_137 : prog_9_method_65_code.data.toList.map UInt8.toNat = bl_137 := dk_eq_t _ _ (by decide +kernel)
def bl_138 : List Nat := [42, 27, 182, 1, 29, 154, 0, 26, 42, 28, 3, 16, 14, 184, 0, 145, 154, 0, 7, 4, 167, 0, 4, 3, 5, 182, 1, 14, 153, 0, 5, 3, 172, 28, 170, 0, 0, 0, 0, 204, 0, 0, 0, 0, 0, 0, 0, 13, 0, 0, 0, 70, 0, 0, 0, 80, 0, 0, 0, 90, 0, 0, 0, 96, 0, 0, 0, 103, 0, 0, 0, 110, 0, 0, 0, 121, 0, 0, 0, 132, 0, 0, 0, 143, 0, 0, 0, 154, 0, 0, 0, 160, 0, 0, 0, 171, 0, 0, 0, 182, 0, 0, 0, 193, 42, 180, 0, 7, 16, 60, 27, 96, 46, 172, 42, 180, 0, 7, 16, 100, 27, 96, 46, 172, 42, 27, 182, 0, 83, 172, 42, 27, 3, 182, 0, 70, 172, 42, 27, 4, 182, 0, 70, 172, 42, 180, 0, 7, 17, 0, 140, 27, 96, 46, 172, 42, 180, 0, 7, 17, 0, 180, 27, 96, 46, 172, 42, 180, 0, 7, 17, 0, 220, 27, 96, 46, 172, 42, 180, 0, 7, 17, 1, 4, 27, 96, 46, 172, 42, 27, 182, 1, 21, 172, 42, 180, 0, 7, 17, 1, 44, 27, 96, 46, 172, 42, 180, 0, 7, 17, 1, 84, 27, 96, 46, 172, 42, 180, 0, 7, 17, 1, 124, 27, 96, 46, 172, 42, 180, 0, 7, 17, 1, 164, 27, 96, 46, 172, 42, 27, 182, 1, 32, 172]
theorem hb_138 : prog_9_method_66_code.data.toList.map UInt8.toNat = bl_138 := dk_eq_t _ _ (by decide +kernel)
def bl_139 : List Nat := [42, 27, 3, 16, 7, 184, 0, 145, 154, 0, 7, 4, 167, 0, 4, 3, 28, 182, 1, 14, 172]
theorem hb_139 : prog_9_method_67_code.data.toList.map UInt8.toNat = bl_139 := dk_eq_t _ _ (by decide +kernel)
def bl_140 : List Nat := [42, 3, 181, 0, 48, 42, 27, 4, 182, 1, 35, 153, 0, 7, 3, 167, 0, 12, 42, 180, 0, 7, 16, 11, 27, 96, 46, 172]
theorem hb_140 : prog_9_method_68_code.data.toList.map UInt8.toNat = bl_140 := dk_eq_t _ _ (by decide +kernel)
def bl_141 : List Nat := [42, 3, 181, 0, 48, 27, 3, 42, 180, 0, 7, 8, 46, 4, 100, 184, 0, 145, 153, 0, 15, 42, 180, 0, 7, 16, 6, 27, 96, 46, 167, 0, 4, 2, 172]
theorem hb_141 : prog_9_method_69_code.data.toList.map UInt8.toNat = bl_141 := dk_eq_t _ _ (by decide +kernel)
def bl_142 : List Nat := [42, 180, 0, 7, 17, 0, 140, 27, 96, 46, 5, 160, 0, 7, 4, 167, 0, 4, 3, 172]
theorem hb_142 : prog_9_method_70_code.data.toList.map UInt8.toNat = bl_142 := dk_eq_t _ _ (by decide +kernel)
def bl_143 : List Nat := [42, 27, 182, 1, 29, 154, 0, 16, 42, 42, 27, 182, 1, 38, 5, 182, 1, 14, 153, 0, 7, 3, 167, 0, 8, 42, 27, 182, 0, 87, 172]
theorem hb_143 : prog_9_method_71_code.data.toList.map UInt8.toNat = bl_143 := dk_eq_t _ _ (by decide +kernel)
def bl_144 : List Nat := [42, 27, 182, 1, 29, 154, 0, 11, 42, 28, 182, 1, 29, 153, 0, 5, 3, 172, 42, 27, 182, 1, 38, 154, 0, 29, 42, 28, 182, 1, 38, 154, 0, 21, 27, 28, 159, 0, 16, 42, 27, 28, 182, 0, 79, 153, 0, 7, 4, 167, 0, 4, 3, 172]
theorem hb_144 : prog_9_method_72_code.data.toList.map UInt8.toNat = bl_144 := dk_eq_t _ _ (by decide +kernel)
def bl_145 : List Nat := [27, 62, 29, 28, 159, 0, 25, 42, 29, 28, 182, 0, 79, 154, 0, 16, 42, 180, 0, 7, 16, 60, 29, 96, 46, 62, 167, 255, 232, 29, 172]
theorem hb_145 : prog_9_method_73_code.data.toList.map UInt8.toNat = bl_145 := dk_eq_t _ _ (by decide +kernel)
def bl_146 : List Nat := [42, 27, 182, 1, 29, 154, 0, 40, 42, 28, 182, 1, 29, 154, 0, 32, 42, 42, 27, 182, 1, 38, 154, 0, 11, 42, 28, 182, 1, 38, 153, 0, 7, 4, 167, 0, 4, 3, 5, 182, 1, 14, 153, 0, 7, 4, 167, 0, 4, 3, 172]
theorem hb_146 : prog_9_method_74_code.data.toList.map UInt8.toNat = bl_146 := dk_eq_t _ _ (by decide +kernel)
def bl_147 : List Nat := [42, 27, 28, 182, 1, 41, 153, 0, 7, 3, 167, 0, 9, 42, 27, 28, 182, 1, 44, 172]
theorem hb_147 : prog_9_method_75_code.data.toList.map UInt8.toNat = bl_147 := dk_eq_t _ _ (by decide +kernel)
def bl_148 : List Nat := [42, 27, 28, 182, 1, 41, 153, 0, 7, 3, 167, 0, 27, 42, 27, 182, 0, 87, 42, 28, 182, 0, 87, 96, 5, 42, 42, 27, 28, 182, 1, 44, 182, 0, 87, 104, 100, 172]
theorem hb_148 : prog_9_method_76_code.data.toList.map UInt8.toNat = bl_148 := dk_eq_t _ _ (by decide +kernel)
def bl_149 : List Nat := [3, 61, 4, 62, 29, 42, 180, 0, 7, 3, 46, 162, 0, 34, 28, 42, 29, 182, 0, 66, 153, 0, 16, 42, 27, 29, 182, 0, 79, 153, 0, 7, 4, 167, 0, 4, 3, 96, 61, 132, 3, 1, 167, 255, 218, 28, 172]
theorem hb_149 : prog_9_method_77_code.data.toList.map UInt8.toNat = bl_149 := dk_eq_t _ _ (by decide +kernel)
def bl_150 : List Nat := [42, 27, 182, 1, 29, 154, 0, 11, 42, 27, 182, 0, 66, 154, 0, 7, 3, 167, 0, 8, 42, 27, 182, 1, 47, 172]
theorem hb_150 : prog_9_method_78_code.data.toList.map UInt8.toNat = bl_150 := dk_eq_t _ _ (by decide +kernel)
def bl_151 : List Nat := [42, 27, 3, 182, 1, 50, 61, 27, 62, 28, 2, 160, 0, 37, 29, 153, 0, 33, 42, 42, 180, 0, 7, 16, 60, 29, 96, 46, 29, 4, 96, 182, 1, 50, 61, 42, 180, 0, 7, 16, 60, 29, 96, 46, 62, 167, 255, 220, 28, 172]
theorem hb_151 : prog_9_method_79_code.data.toList.map UInt8.toNat = bl_151 := dk_eq_t _ _ (by decide +kernel)
def bl_152 : List Nat := [28, 62, 29, 42, 180, 0, 7, 3, 46, 162, 0, 19, 42, 29, 27, 3, 182, 0, 62, 154, 0, 9, 132, 3, 1, 167, 255, 233, 29, 42, 180, 0, 7, 3, 46, 162, 0, 7, 29, 167, 0, 4, 2, 172]
theorem hb_152 : prog_9_method_80_code.data.toList.map UInt8.toNat = bl_152 := dk_eq_t _ _ (by decide +kernel)
def bl_153 : List Nat := [42, 3, 181, 0, 48, 42, 27, 3, 42, 182, 1, 53, 4, 100, 184, 0, 145, 154, 0, 7, 4, 167, 0, 4, 3, 4, 182, 1, 14, 153, 0, 5, 3, 172, 3, 61, 3, 62, 29, 27, 162, 0, 15, 42, 28, 182, 1, 56, 61, 132, 3, 1, 167, 255, 242, 28, 172]
theorem hb_153 : prog_9_method_81_code.data.toList.map UInt8.toNat = bl_153 := dk_eq_t _ _ (by decide +kernel)
def bl_154 : List Nat := [42, 3, 181, 0, 48, 3, 61, 3, 62, 29, 42, 180, 0, 7, 3, 46, 162, 0, 34, 28, 42, 29, 182, 0, 66, 153, 0, 16, 42, 29, 182, 0, 87, 27, 160, 0, 7, 4, 167, 0, 4, 3, 96, 61, 132, 3, 1, 167, 255, 218, 28, 172]
theorem hb_154 : prog_9_method_82_code.data.toList.map UInt8.toNat = bl_154 := dk_eq_t _ _ (by decide +kernel)
def bl_155 : List Nat := [3, 60, 3, 61, 28, 42, 180, 0, 7, 3, 46, 162, 0, 27, 42, 28, 182, 0, 66, 153, 0, 13, 27, 42, 28, 182, 0, 87, 184, 0, 74, 60, 132, 2, 1, 167, 255, 225, 27, 172]
theorem hb_155 : prog_9_method_83_code.data.toList.map UInt8.toNat = bl_155 := dk_eq_t _ _ (by decide +kernel)
def bl_156 : List Nat := [42, 3, 181, 0, 48, 42, 182, 1, 59, 172]
theorem hb_156 : prog_9_method_84_code.data.toList.map UInt8.toNat = bl_156 := dk_eq_t _ _ (by decide +kernel)
def bl_157 : List Nat := [26, 3, 16, 9, 184, 0, 145, 172]
theorem hb_157 : prog_9_method_85_code.data.toList.map UInt8.toNat = bl_157 := dk_eq_t _ _ (by decide +kernel)
def bl_158 : List Nat := [42, 27, 182, 1, 29, 154, 0, 38, 42, 28, 184, 1, 62, 153, 0, 18, 29, 184, 1, 62, 153, 0, 11, 21, 4, 184, 1, 62, 154, 0, 7, 4, 167, 0, 4, 3, 5, 182, 1, 14, 153, 0, 5, 3, 172, 42, 42, 27, 182, 0, 83, 153, 0, 14, 42, 180, 0, 7, 3, 46, 16, 40, 160, 0, 7, 4, 167, 0, 4, 3, 6, 182, 1, 14, 153, 0, 5, 3, 172, 42, 182, 1, 65, 42, 27, 28, 29, 21, 4, 182, 0, 51, 172]
theorem hb_158 : prog_9_method_86_code.data.toList.map UInt8.toNat = bl_158 := dk_eq_t _ _ (by decide +kernel)
def bl_159 : List Nat := [42, 27, 182, 1, 29, 154, 0, 52, 42, 28, 3, 17, 0, 255, 184, 0, 145, 154, 0, 7, 4, 167, 0, 4, 3, 5, 182, 1, 14, 154, 0, 28, 42, 27, 153, 0, 11, 42, 27, 182, 0, 66, 154, 0, 7, 4, 167, 0, 4, 3, 6, 182, 1, 14, 153, 0, 7, 4, 167, 0, 4, 3, 172]
theorem hb_159 : prog_9_method_87_code.data.toList.map UInt8.toNat = bl_159 := dk_eq_t _ _ (by decide +kernel)
def bl_160 : List Nat := [42, 27, 28, 182, 1, 68, 153, 0, 5, 3, 172, 42, 182, 1, 65, 42, 27, 28, 182, 0, 135, 172]
theorem hb_160 : prog_9_method_88_code.data.toList.map UInt8.toNat = bl_160 := dk_eq_t _ _ (by decide +kernel)
def bl_161 : List Nat := [42, 3, 181, 0, 48, 42, 27, 184, 1, 62, 153, 0, 14, 28, 3, 17, 0, 255, 184, 0, 145, 154, 0, 7, 4, 167, 0, 4, 3, 4, 182, 1, 14, 172]
theorem hb_161 : prog_9_method_89_code.data.toList.map UInt8.toNat = bl_161 := dk_eq_t _ _ (by decide +kernel)
def bl_162 : List Nat := [42, 27, 28, 182, 1, 71, 153, 0, 5, 3, 172, 42, 182, 1, 65, 42, 27, 28, 182, 1, 74, 172]
theorem hb_162 : prog_9_method_90_code.data.toList.map UInt8.toNat = bl_162 := dk_eq_t _ _ (by decide +kernel)
def bl_163 : List Nat := [42, 27, 5, 182, 1, 77, 153, 0, 5, 3, 172, 42, 27, 182, 0, 116, 61, 42, 28, 2, 160, 0, 7, 4, 167, 0, 4, 3, 6, 182, 1, 14, 153, 0, 5, 3, 172, 42, 182, 1, 65, 42, 180, 0, 7, 17, 0, 140, 28, 96, 5, 79, 17, 3, 232, 28, 104, 42, 180, 0, 7, 17, 1, 44, 28, 96, 46, 96, 172]
theorem hb_163 : prog_9_method_91_code.data.toList.map UInt8.toNat = bl_163 := dk_eq_t _ _ (by decide +kernel)
def bl_164 : List Nat := [42, 27, 5, 182, 1, 77, 153, 0, 5, 3, 172, 42, 182, 1, 65, 42, 27, 182, 0, 132, 172]
theorem hb_164 : prog_9_method_92_code.data.toList.map UInt8.toNat = bl_164 := dk_eq_t _ _ (by decide +kernel)
def bl_165 : List Nat := [42, 27, 182, 1, 29, 154, 0, 48, 42, 28, 184, 1, 62, 154, 0, 7, 4, 167, 0, 4, 3, 5, 182, 1, 14, 154, 0, 28, 42, 27, 153, 0, 11, 42, 27, 182, 0, 66, 154, 0, 7, 4, 167, 0, 4, 3, 6, 182, 1, 14, 153, 0, 5, 3, 172, 42, 182, 1, 65, 42, 180, 0, 7, 17, 1, 84, 27, 96, 92, 46, 4, 28, 120, 128, 79, 3, 62, 4, 54, 4, 21, 4, 42, 180, 0, 7, 3, 46, 162, 0, 54, 42, 21, 4, 27, 3, 182, 0, 62, 153, 0, 37, 42, 180, 0, 7, 17, 0, 180, 21, 4, 96, 46, 28, 159, 0, 6, 167, 0, 19, 42, 42, 21, 4, 27, 182, 0, 125, 21, 4, 182, 0, 128, 132, 3, 1, 132, 4, 1, 167, 255, 197, 29, 172]
theorem hb_165 : prog_9_method_93_code.data.toList.map UInt8.toNat = bl_165 := dk_eq_t _ _ (by decide +kernel)
def bl_166 : List Nat := [42, 27, 182, 1, 29, 154, 0, 44, 42, 28, 184, 1, 62, 154, 0, 7, 4, 167, 0, 4, 3, 5, 182, 1, 14, 154, 0, 24, 42, 42, 27, 182, 0, 66, 154, 0, 7, 4, 167, 0, 4, 3, 6, 182, 1, 14, 153, 0, 5, 3, 172, 42, 182, 1, 65, 42, 27, 28, 182, 0, 90, 62, 42, 180, 0, 7, 17, 1, 84, 27, 96, 92, 46, 4, 28, 120, 2, 130, 126, 79, 29, 172]
theorem hb_166 : prog_9_method_94_code.data.toList.map UInt8.toNat = bl_166 := dk_eq_t _ _ (by decide +kernel)
def bl_167 : List Nat := [42, 27, 182, 1, 29, 154, 0, 11, 42, 28, 182, 1, 29, 153, 0, 5, 3, 172, 42, 27, 153, 0, 59, 42, 27, 182, 0, 66, 153, 0, 51, 42, 28, 182, 0, 66, 153, 0, 43, 27, 28, 159, 0, 38, 42, 27, 28, 182, 0, 79, 154, 0, 29, 42, 28, 182, 0, 83, 153, 0, 21, 42, 28, 42, 180, 0, 7, 17, 0, 180, 27, 96, 46, 182, 0, 90, 153, 0, 7, 4, 167, 0, 4, 3, 5, 182, 1, 14, 153, 0, 5, 3, 172, 42, 182, 1, 65, 42, 180, 0, 7, 16, 60, 27, 96, 46, 62, 42, 180, 0, 7, 16, 60, 27, 96, 28, 79, 29, 172]
theorem hb_167 : prog_9_method_95_code.data.toList.map UInt8.toNat = bl_167 := dk_eq_t _ _ (by decide +kernel)
def bl_168 : List Nat := [42, 28, 182, 1, 29, 154, 0, 44, 42, 29, 184, 1, 62, 154, 0, 7, 4, 167, 0, 4, 3, 5, 182, 1, 14, 154, 0, 24, 42, 42, 28, 182, 0, 66, 154, 0, 7, 4, 167, 0, 4, 3, 6, 182, 1, 14, 153, 0, 5, 3, 172, 42, 182, 1, 65, 42, 180, 0, 7, 27, 28, 96, 46, 54, 4, 42, 180, 0, 7, 27, 28, 96, 29, 79, 21, 4, 172]
theorem hb_168 : prog_9_method_96_code.data.toList.map UInt8.toNat = bl_168 := dk_eq_t _ _ (by decide +kernel)
def bl_169 : List Nat := [42, 16, 100, 27, 28, 182, 1, 80, 172]
theorem hb_169 : prog_9_method_97_code.data.toList.map UInt8.toNat = bl_169 := dk_eq_t _ _ (by decide +kernel)
def bl_170 : List Nat := [42, 17, 0, 220, 27, 28, 182, 1, 80, 172]
theorem hb_170 : prog_9_method_98_code.data.toList.map UInt8.toNat = bl_170 := dk_eq_t _ _ (by decide +kernel)
def bl_171 : List Nat := [42, 27, 182, 1, 29, 154, 0, 75, 42, 28, 2, 42, 180, 0, 7, 3, 46, 4, 100, 184, 0, 145, 154, 0, 7, 4, 167, 0, 4, 3, 4, 182, 1, 14, 154, 0, 46, 42, 27, 28, 160, 0, 7, 4, 167, 0, 4, 3, 5, 182, 1, 14, 154, 0, 28, 42, 27, 153, 0, 11, 42, 27, 182, 0, 66, 154, 0, 7, 4, 167, 0, 4, 3, 6, 182, 1, 14, 153, 0, 5, 3, 172, 42, 182, 1, 65, 42, 180, 0, 7, 17, 1, 4, 27, 96, 46, 62, 42, 180, 0, 7, 17, 1, 4, 27, 96, 28, 79, 29, 172]
theorem hb_171 : prog_9_method_99_code.data.toList.map UInt8.toNat = bl_171 := dk_eq_t _ _ (by decide +kernel)
def bl_172 : List Nat := [42, 3, 181, 0, 48, 42, 27, 4, 182, 1, 35, 154, 0, 53, 42, 28, 3, 42, 180, 0, 7, 3, 46, 4, 100, 184, 0, 145, 154, 0, 7, 4, 167, 0, 4, 3, 5, 182, 1, 14, 154, 0, 24, 42, 42, 28, 182, 0, 66, 154, 0, 7, 4, 167, 0, 4, 3, 6, 182, 1, 14, 153, 0, 5, 3, 172, 42, 182, 1, 65, 42, 180, 0, 7, 16, 11, 27, 96, 46, 62, 42, 180, 0, 7, 16, 11, 27, 96, 28, 79, 29, 172]
theorem hb_172 : prog_9_method_100_code.data.toList.map UInt8.toNat = bl_172 := dk_eq_t _ _ (by decide +kernel)
def bl_173 : List Nat := [2, 61, 4, 62, 29, 42, 180, 0, 7, 3, 46, 162, 0, 46, 42, 29, 182, 0, 66, 153, 0, 32, 42, 27, 29, 182, 0, 79, 153, 0, 23, 28, 2, 159, 0, 16, 42, 29, 182, 0, 87, 42, 28, 182, 0, 87, 161, 0, 5, 29, 61, 132, 3, 1, 167, 255, 206, 28, 172]
theorem hb_173 : prog_9_method_101_code.data.toList.map UInt8.toNat = bl_173 := dk_eq_t _ _ (by decide +kernel)
def bl_174 : List Nat := [42, 27, 182, 1, 29, 154, 0, 48, 42, 28, 3, 17, 0, 255, 184, 0, 145, 154, 0, 7, 4, 167, 0, 4, 3, 5, 182, 1, 14, 154, 0, 24, 42, 42, 27, 182, 0, 66, 154, 0, 7, 4, 167, 0, 4, 3, 6, 182, 1, 14, 153, 0, 5, 3, 172, 42, 182, 1, 65, 3, 62, 42, 27, 182, 1, 83, 54, 4, 21, 4, 2, 159, 0, 35, 42, 21, 4, 28, 182, 0, 135, 54, 5, 29, 21, 5, 156, 0, 7, 3, 167, 0, 4, 4, 96, 62, 42, 27, 182, 1, 83, 54, 4, 167, 255, 221, 29, 172]
theorem hb_174 : prog_9_method_102_code.data.toList.map UInt8.toNat = bl_174 := dk_eq_t _ _ (by decide +kernel)
def bl_175 : List Nat := [42, 27, 182, 1, 29, 154, 0, 11, 42, 28, 182, 1, 29, 153, 0, 5, 3, 172, 42, 27, 153, 0, 46, 28, 153, 0, 42, 42, 27, 182, 0, 66, 153, 0, 34, 42, 28, 182, 0, 66, 153, 0, 26, 27, 28, 159, 0, 21, 42, 27, 28, 182, 0, 79, 154, 0, 12, 42, 28, 27, 182, 0, 79, 153, 0, 7, 4, 167, 0, 4, 3, 5, 182, 1, 14, 153, 0, 5, 3, 172, 42, 182, 1, 65, 3, 62, 29, 42, 180, 0, 7, 3, 46, 162, 0, 32, 42, 180, 0, 39, 29, 42, 29, 182, 0, 66, 153, 0, 11, 42, 29, 182, 0, 87, 167, 0, 4, 2, 79, 132, 3, 1, 167, 255, 220, 42, 180, 0, 7, 16, 60, 27, 96, 46, 62, 42, 180, 0, 7, 16, 60, 27, 96, 42, 180, 0, 7, 16, 60, 28, 96, 46, 79, 42, 180, 0, 7, 16, 60, 28, 96, 29, 79, 3, 54, 4, 3, 54, 5, 21, 5, 42, 180, 0, 7, 3, 46, 162, 0, 44, 21, 4, 42, 21, 5, 182, 0, 66, 153, 0, 23, 42, 21, 5, 182, 0, 87, 42, 180, 0, 39, 21, 5, 46, 159, 0, 7, 4, 167, 0, 4, 3, 96, 54, 4, 132, 5, 1, 167, 255, 207, 21, 4, 172]
theorem hb_175 : prog_9_method_103_code.data.toList.map UInt8.toNat = bl_175 := dk_eq_t _ _ (by decide +kernel)
def bl_176 : List Nat := [42, 27, 5, 182, 1, 86, 153, 0, 5, 3, 172, 42, 182, 1, 65, 3, 61, 42, 180, 0, 7, 3, 46, 4, 100, 62, 29, 158, 0, 54, 42, 29, 27, 3, 182, 0, 62, 153, 0, 38, 42, 27, 3, 182, 0, 70, 42, 180, 0, 7, 16, 100, 27, 96, 46, 163, 0, 6, 167, 0, 17, 42, 42, 29, 27, 182, 0, 125, 29, 182, 0, 128, 132, 2, 1, 132, 3, 255, 167, 255, 204, 28, 172]
theorem hb_176 : prog_9_method_104_code.data.toList.map UInt8.toNat = bl_176 := dk_eq_t _ _ (by decide +kernel)
def bl_177 : List Nat := [42, 27, 5, 182, 1, 86, 153, 0, 7, 3, 167, 0, 17, 42, 27, 42, 180, 0, 7, 16, 60, 27, 96, 46, 182, 0, 125, 172]
theorem hb_177 : prog_9_method_105_code.data.toList.map UInt8.toNat = bl_177 := dk_eq_t _ _ (by decide +kernel)
def bl_178 : List Nat := [42, 27, 5, 182, 1, 86, 153, 0, 5, 3, 172, 3, 61, 4, 62, 29, 42, 180, 0, 7, 3, 46, 162, 0, 26, 28, 42, 29, 27, 182, 0, 93, 153, 0, 7, 4, 167, 0, 4, 3, 96, 61, 132, 3, 1, 167, 255, 226, 28, 172]
theorem hb_178 : prog_9_method_106_code.data.toList.map UInt8.toNat = bl_178 := dk_eq_t _ _ (by decide +kernel)
def bl_179 : List Nat := [42, 27, 5, 182, 1, 86, 153, 0, 7, 3, 167, 0, 8, 42, 27, 182, 0, 113, 172]
theorem hb_179 : prog_9_method_107_code.data.toList.map UInt8.toNat = bl_179 := dk_eq_t _ _ (by decide +kernel)
def bl_180 : List Nat := [42, 182, 1, 89, 42, 27, 28, 182, 0, 135, 62, 42, 182, 1, 92, 29, 172]
theorem hb_180 : prog_9_method_108_code.data.toList.map UInt8.toNat = bl_180 := dk_eq_t _ _ (by decide +kernel)
def bl_181 : List Nat := [42, 27, 28, 182, 1, 68, 153, 0, 7, 3, 167, 0, 9, 42, 27, 28, 182, 1, 95, 172]
theorem hb_181 : prog_9_method_109_code.data.toList.map UInt8.toNat = bl_181 := dk_eq_t _ _ (by decide +kernel)
def bl_182 : List Nat := [42, 27, 28, 182, 1, 68, 153, 0, 5, 3, 172, 42, 182, 1, 89, 42, 27, 28, 182, 0, 135, 62, 29, 156, 0, 7, 2, 167, 0, 7, 42, 182, 1, 59, 54, 4, 42, 182, 1, 92, 21, 4, 172]
theorem hb_182 : prog_9_method_110_code.data.toList.map UInt8.toNat = bl_182 := dk_eq_t _ _ (by decide +kernel)
def bl_183 : List Nat := [42, 27, 182, 1, 29, 154, 0, 12, 42, 28, 29, 182, 1, 68, 153, 0, 5, 3, 172, 42, 182, 1, 89, 42, 28, 29, 182, 0, 135, 54, 4, 21, 4, 156, 0, 7, 2, 167, 0, 12, 42, 180, 0, 7, 16, 60, 27, 96, 46, 54, 5, 42, 182, 1, 92, 21, 5, 172]
theorem hb_183 : prog_9_method_111_code.data.toList.map UInt8.toNat = bl_183 := dk_eq_t _ _ (by decide +kernel)
def bl_184 : List Nat := [42, 28, 182, 1, 29, 154, 0, 21, 42, 27, 5, 182, 1, 35, 154, 0, 12, 42, 28, 29, 182, 1, 68, 153, 0, 5, 3, 172, 42, 182, 1, 89, 42, 28, 29, 182, 0, 135, 54, 4, 21, 4, 156, 0, 7, 2, 167, 0, 12, 42, 180, 0, 7, 16, 11, 27, 96, 46, 54, 5, 42, 182, 1, 92, 21, 5, 172]
theorem hb_184 : prog_9_method_112_code.data.toList.map UInt8.toNat = bl_184 := dk_eq_t _ _ (by decide +kernel)
def bl_185 : List Nat := [42, 27, 28, 182, 1, 71, 153, 0, 5, 3, 172, 42, 180, 0, 7, 6, 46, 62, 42, 182, 1, 89, 42, 27, 28, 182, 1, 74, 54, 4, 21, 4, 156, 0, 7, 2, 167, 0, 11, 42, 180, 0, 7, 6, 46, 29, 100, 54, 5, 42, 182, 1, 92, 21, 5, 172]
theorem hb_185 : prog_9_method_113_code.data.toList.map UInt8.toNat = bl_185 := dk_eq_t _ _ (by decide +kernel)
def bl_186 : List Nat := [42, 27, 28, 182, 1, 71, 153, 0, 5, 3, 172, 42, 182, 1, 89, 42, 27, 28, 182, 1, 74, 62, 29, 156, 0, 7, 2, 167, 0, 7, 42, 182, 1, 53, 54, 4, 42, 182, 1, 92, 21, 4, 172]
theorem hb_186 : prog_9_method_114_code.data.toList.map UInt8.toNat = bl_186 := dk_eq_t _ _ (by decide +kernel)
def bl_187 : List Nat := [42, 3, 181, 0, 48, 42, 27, 3, 17, 0, 255, 184, 0, 145, 154, 0, 7, 4, 167, 0, 4, 3, 4, 182, 1, 14, 153, 0, 5, 3, 172, 2, 61, 2, 62, 4, 54, 4, 21, 4, 42, 180, 0, 7, 3, 46, 162, 0, 47, 42, 21, 4, 182, 0, 66, 153, 0, 13, 42, 21, 4, 27, 182, 1, 95, 167, 0, 4, 2, 54, 5, 21, 5, 29, 164, 0, 6, 21, 4, 61, 29, 21, 5, 184, 0, 74, 62, 132, 4, 1, 167, 255, 204, 28, 172]
theorem hb_187 : prog_9_method_115_code.data.toList.map UInt8.toNat = bl_187 := dk_eq_t _ _ (by decide +kernel)
def bl_188 : List Nat := [42, 27, 5, 182, 1, 86, 153, 0, 7, 3, 167, 0, 23, 42, 27, 4, 182, 1, 95, 42, 27, 3, 182, 1, 95, 162, 0, 7, 4, 167, 0, 4, 3, 172]
theorem hb_188 : prog_9_method_116_code.data.toList.map UInt8.toNat = bl_188 := dk_eq_t _ _ (by decide +kernel)
def bl_189 : List Nat := [42, 3, 181, 0, 48, 42, 27, 4, 182, 1, 35, 153, 0, 5, 3, 172, 42, 182, 1, 89, 3, 61, 42, 180, 0, 7, 16, 11, 27, 96, 46, 153, 0, 33, 42, 42, 180, 0, 7, 16, 11, 27, 96, 46, 3, 182, 0, 135, 62, 28, 29, 156, 0, 7, 3, 167, 0, 4, 4, 96, 61, 167, 255, 217, 42, 182, 1, 92, 28, 172]
theorem hb_189 : prog_9_method_117_code.data.toList.map UInt8.toNat = bl_189 := dk_eq_t _ _ (by decide +kernel)
def bl_190 : List Nat := [42, 3, 181, 0, 48, 42, 27, 184, 1, 62, 154, 0, 7, 4, 167, 0, 4, 3, 4, 182, 1, 14, 153, 0, 5, 3, 172, 2, 61, 4, 62, 29, 42, 180, 0, 7, 3, 46, 162, 0, 49, 42, 29, 182, 0, 83, 153, 0, 35, 42, 29, 27, 182, 0, 90, 153, 0, 6, 167, 0, 23, 28, 2, 159, 0, 16, 42, 29, 182, 0, 83, 42, 28, 182, 0, 83, 164, 0, 5, 29, 61, 132, 3, 1, 167, 255, 203, 28, 172]
theorem hb_190 : prog_9_method_118_code.data.toList.map UInt8.toNat = bl_190 := dk_eq_t _ _ (by decide +kernel)
def bl_191 : List Nat := [42, 3, 181, 0, 48, 3, 60, 3, 61, 28, 42, 180, 0, 7, 3, 46, 162, 0, 17, 27, 42, 28, 182, 0, 83, 96, 60, 132, 2, 1, 167, 255, 235, 27, 172]
theorem hb_191 : prog_9_method_119_code.data.toList.map UInt8.toNat = bl_191 := dk_eq_t _ _ (by decide +kernel)
def bl_192 : List Nat := [42, 3, 181, 0, 48, 3, 60, 3, 61, 28, 42, 180, 0, 7, 3, 46, 162, 0, 43, 27, 42, 28, 182, 0, 66, 153, 0, 25, 42, 28, 3, 182, 0, 70, 42, 180, 0, 7, 16, 100, 28, 96, 46, 164, 0, 7, 4, 167, 0, 4, 3, 96, 60, 132, 2, 1, 167, 255, 209, 27, 172]
theorem hb_192 : prog_9_method_120_code.data.toList.map UInt8.toNat = bl_192 := dk_eq_t _ _ (by decide +kernel)
def bl_193 : List Nat := [42, 3, 181, 0, 48, 42, 27, 184, 1, 62, 154, 0, 7, 4, 167, 0, 4, 3, 4, 182, 1, 14, 153, 0, 5, 3, 172, 3, 61, 3, 62, 29, 42, 180, 0, 7, 3, 46, 162, 0, 39, 28, 42, 29, 182, 0, 66, 153, 0, 21, 42, 180, 0, 7, 17, 0, 180, 29, 96, 46, 27, 160, 0, 7, 4, 167, 0, 4, 3, 96, 61, 132, 3, 1, 167, 255, 213, 28, 172]
theorem hb_193 : prog_9_method_121_code.data.toList.map UInt8.toNat = bl_193 := dk_eq_t _ _ (by decide +kernel)
def bl_194 : List Nat := [42, 27, 182, 1, 29, 153, 0, 7, 3, 167, 0, 8, 42, 27, 182, 0, 116, 172]
theorem hb_194 : prog_9_method_122_code.data.toList.map UInt8.toNat = bl_194 := dk_eq_t _ _ (by decide +kernel)
def bl_195 : List Nat := [42, 3, 181, 0, 48, 42, 27, 3, 42, 180, 0, 7, 4, 46, 4, 100, 184, 0, 145, 154, 0, 7, 4, 167, 0, 4, 3, 4, 182, 1, 14, 153, 0, 7, 3, 167, 0, 12, 42, 180, 0, 7, 16, 19, 27, 96, 46, 172]
theorem hb_195 : prog_9_method_123_code.data.toList.map UInt8.toNat = bl_195 := dk_eq_t _ _ (by decide +kernel)
def bl_196 : List Nat := [42, 3, 181, 0, 48, 3, 60, 3, 61, 28, 42, 180, 0, 7, 3, 46, 162, 0, 29, 27, 42, 28, 182, 0, 66, 153, 0, 11, 42, 28, 182, 0, 87, 167, 0, 4, 3, 96, 60, 132, 2, 1, 167, 255, 223, 27, 135, 42, 182, 1, 53, 135, 111, 175]
theorem hb_196 : prog_9_method_124_code.data.toList.map UInt8.toNat = bl_196 := dk_eq_t _ _ (by decide +kernel)
def bl_197 : List Nat := [42, 3, 181, 0, 48, 42, 180, 0, 7, 5, 46, 154, 0, 7, 11, 167, 0, 18, 42, 180, 0, 7, 6, 46, 134, 42, 180, 0, 7, 5, 46, 134, 110, 174]
theorem hb_197 : prog_9_method_125_code.data.toList.map UInt8.toNat = bl_197 := dk_eq_t _ _ (by decide +kernel)
def bl_198 : List Nat := [42, 3, 181, 0, 48, 42, 180, 0, 7, 4, 46, 154, 0, 7, 14, 167, 0, 17, 42, 5, 182, 1, 18, 135, 42, 180, 0, 7, 4, 46, 135, 111, 175]
theorem hb_198 : prog_9_method_126_code.data.toList.map UInt8.toNat = bl_198 := dk_eq_t _ _ (by decide +kernel)
def bl_199 : List Nat := [42, 27, 182, 1, 29, 154, 0, 11, 42, 27, 182, 0, 66, 154, 0, 5, 3, 172, 3, 61, 4, 62, 29, 42, 180, 0, 7, 3, 46, 162, 0, 40, 28, 42, 180, 0, 7, 17, 0, 140, 29, 96, 46, 4, 160, 0, 16, 42, 27, 29, 182, 0, 79, 153, 0, 7, 4, 167, 0, 4, 3, 96, 61, 132, 3, 1, 167, 255, 212, 28, 172]
theorem hb_199 : prog_9_method_127_code.data.toList.map UInt8.toNat = bl_199 := dk_eq_t _ _ (by decide +kernel)
def bl_200 : List Nat := [42, 27, 182, 1, 29, 154, 0, 11, 42, 27, 182, 0, 66, 154, 0, 5, 3, 172, 3, 61, 4, 62, 29, 42, 180, 0, 7, 3, 46, 162, 0, 38, 28, 42, 29, 182, 0, 66, 153, 0, 20, 42, 27, 29, 182, 0, 79, 153, 0, 11, 42, 29, 182, 0, 83, 167, 0, 4, 3, 96, 61, 132, 3, 1, 167, 255, 214, 28, 172]
theorem hb_200 : prog_9_method_128_code.data.toList.map UInt8.toNat = bl_200 := dk_eq_t _ _ (by decide +kernel)
def bl_201 : List Nat := [42, 3, 181, 0, 48, 2, 60, 4, 61, 28, 42, 180, 0, 7, 3, 46, 162, 0, 51, 42, 28, 182, 0, 66, 153, 0, 37, 42, 180, 0, 7, 17, 1, 124, 28, 96, 46, 27, 2, 160, 0, 7, 3, 167, 0, 13, 42, 180, 0, 7, 17, 1, 124, 27, 96, 46, 164, 0, 5, 28, 60, 132, 2, 1, 167, 255, 201, 27, 172]
theorem hb_201 : prog_9_method_129_code.data.toList.map UInt8.toNat = bl_201 := dk_eq_t _ _ (by decide +kernel)
def bl_202 : List Nat := [42, 27, 182, 1, 29, 153, 0, 5, 3, 172, 2, 61, 4, 62, 29, 42, 180, 0, 7, 3, 46, 162, 0, 39, 42, 29, 27, 3, 182, 0, 62, 153, 0, 23, 28, 2, 159, 0, 16, 42, 29, 182, 1, 47, 42, 28, 182, 1, 47, 164, 0, 5, 29, 61, 132, 3, 1, 167, 255, 213, 28, 172]
theorem hb_202 : prog_9_method_130_code.data.toList.map UInt8.toNat = bl_202 := dk_eq_t _ _ (by decide +kernel)
def bl_203 : List Nat := [42, 27, 182, 1, 29, 154, 0, 11, 42, 27, 182, 0, 66, 154, 0, 5, 3, 172, 3, 61, 4, 62, 29, 42, 180, 0, 7, 3, 46, 162, 0, 45, 28, 42, 29, 182, 0, 66, 153, 0, 27, 42, 27, 29, 182, 0, 79, 153, 0, 18, 4, 42, 180, 0, 7, 17, 0, 180, 29, 96, 46, 120, 167, 0, 4, 3, 128, 61, 132, 3, 1, 167, 255, 207, 28, 172]
theorem hb_203 : prog_9_method_131_code.data.toList.map UInt8.toNat = bl_203 := dk_eq_t _ _ (by decide +kernel)
def bl_204 : List Nat := [42, 27, 182, 1, 29, 153, 0, 5, 3, 172, 3, 61, 4, 62, 29, 42, 180, 0, 7, 3, 46, 162, 0, 50, 28, 42, 29, 27, 3, 182, 0, 62, 153, 0, 30, 42, 180, 0, 7, 17, 0, 180, 29, 96, 46, 42, 180, 0, 7, 17, 0, 180, 27, 96, 46, 159, 0, 7, 4, 167, 0, 4, 3, 96, 61, 132, 3, 1, 167, 255, 202, 28, 172]
theorem hb_204 : prog_9_method_132_code.data.toList.map UInt8.toNat = bl_204 := dk_eq_t _ _ (by decide +kernel)
def bl_205 : List Nat := [42, 180, 0, 42, 42, 180, 1, 98, 27, 79, 42, 89, 180, 1, 98, 4, 96, 181, 1, 98, 177]
theorem hb_205 : prog_9_method_133_code.data.toList.map UInt8.toNat = bl_205 := dk_eq_t _ _ (by decide +kernel)
def bl_206 : List Nat := [27, 62, 42, 29, 182, 0, 87, 28, 164, 0, 16, 42, 180, 0, 7, 16, 60, 29, 96, 46, 62, 167, 255, 237, 29, 172]
theorem hb_206 : prog_9_method_134_code.data.toList.map UInt8.toNat = bl_206 := dk_eq_t _ _ (by decide +kernel)
def bl_207 : List Nat := [4, 61, 27, 28, 108, 16, 9, 164, 0, 11, 28, 16, 10, 104, 61, 167, 255, 243, 28, 158, 0, 24, 42, 16, 48, 27, 28, 108, 16, 10, 112, 96, 182, 1, 101, 28, 16, 10, 108, 61, 167, 255, 234, 177]
theorem hb_207 : prog_9_method_135_code.data.toList.map UInt8.toNat = bl_207 := dk_eq_t _ _ (by decide +kernel)
def bl_208 : List Nat := [42, 180, 1, 98, 158, 0, 8, 42, 27, 182, 1, 101, 177]
theorem hb_208 : prog_9_method_136_code.data.toList.map UInt8.toNat = bl_208 := dk_eq_t _ _ (by decide +kernel)
def bl_209 : List Nat := [3, 61, 28, 42, 27, 182, 0, 87, 163, 0, 25, 42, 16, 47, 182, 1, 104, 42, 42, 27, 28, 182, 1, 107, 182, 1, 110, 132, 2, 1, 167, 255, 228, 177]
theorem hb_209 : prog_9_method_137_code.data.toList.map UInt8.toNat = bl_209 := dk_eq_t _ _ (by decide +kernel)
def bl_210 : List Nat := [42, 27, 3, 182, 1, 50, 61, 28, 2, 159, 0, 26, 42, 16, 44, 182, 1, 104, 42, 28, 182, 1, 110, 42, 27, 28, 4, 96, 182, 1, 50, 61, 167, 255, 231, 177]
theorem hb_210 : prog_9_method_138_code.data.toList.map UInt8.toNat = bl_210 := dk_eq_t _ _ (by decide +kernel)
def bl_211 : List Nat := [42, 27, 182, 1, 110, 42, 27, 3, 182, 1, 50, 61, 28, 2, 160, 0, 4, 177, 42, 16, 40, 182, 1, 101, 28, 62, 29, 2, 159, 0, 31, 29, 28, 159, 0, 9, 42, 16, 32, 182, 1, 101, 42, 29, 182, 1, 113, 42, 27, 29, 4, 96, 182, 1, 50, 62, 167, 255, 226, 42, 16, 41, 182, 1, 101, 177]
theorem hb_211 : prog_9_method_139_code.data.toList.map UInt8.toNat = bl_211 := dk_eq_t _ _ (by decide +kernel)
def bl_212 : List Nat := [3, 61, 28, 42, 180, 0, 7, 4, 46, 162, 0, 63, 42, 180, 0, 7, 16, 19, 28, 96, 46, 62, 42, 29, 27, 4, 182, 0, 62, 154, 0, 6, 167, 0, 34, 42, 16, 44, 182, 1, 104, 42, 29, 182, 1, 110, 42, 16, 58, 182, 1, 101, 42, 42, 180, 0, 7, 17, 1, 44, 29, 96, 46, 182, 1, 110, 132, 2, 1, 167, 255, 189, 177]
theorem hb_212 : prog_9_method_140_code.data.toList.map UInt8.toNat = bl_212 := dk_eq_t _ _ (by decide +kernel)
def bl_213 : List Nat := [42, 27, 182, 1, 29, 154, 0, 38, 42, 28, 3, 7, 184, 0, 145, 154, 0, 7, 4, 167, 0, 4, 3, 5, 182, 1, 14, 154, 0, 16, 42, 42, 27, 182, 1, 38, 6, 182, 1, 14, 153, 0, 5, 3, 172, 42, 3, 181, 1, 98, 28, 154, 0, 8, 42, 27, 182, 1, 116, 28, 4, 160, 0, 8, 42, 27, 182, 1, 119, 28, 5, 160, 0, 8, 42, 27, 182, 1, 113, 3, 62, 29, 16, 8, 162, 0, 32, 28, 6, 160, 0, 27, 42, 180, 0, 7, 16, 11, 29, 96, 46, 27, 160, 0, 8, 42, 29, 182, 1, 110, 132, 3, 1, 167, 255, 224, 28, 7, 160, 0, 8, 42, 27, 182, 1, 122, 42, 180, 1, 98, 154, 0, 9, 42, 16, 45, 182, 1, 101, 42, 180, 1, 98, 172]
theorem hb_213 : prog_9_method_141_code.data.toList.map UInt8.toNat = bl_213 := dk_eq_t _ _ (by decide +kernel)
def bl_214 : List Nat := [42, 3, 181, 0, 48, 27, 3, 42, 180, 1, 98, 4, 100, 184, 0, 145, 153, 0, 12, 42, 180, 0, 42, 27, 46, 167, 0, 4, 2, 172]
theorem hb_214 : prog_9_method_142_code.data.toList.map UInt8.toNat = bl_214 := dk_eq_t _ _ (by decide +kernel)
def bl_215 : List Nat := [42, 3, 181, 0, 48, 42, 180, 0, 55, 154, 0, 5, 2, 172, 42, 89, 180, 0, 55, 4, 100, 181, 0, 55, 42, 180, 0, 22, 17, 3, 12, 42, 180, 0, 55, 104, 42, 180, 0, 7, 3, 17, 3, 12, 184, 0, 58, 42, 180, 0, 55, 172]
theorem hb_215 : prog_9_method_143_code.data.toList.map UInt8.toNat = bl_215 := dk_eq_t _ _ (by decide +kernel)
def bl_216 : List Nat := [42, 3, 181, 0, 48, 42, 180, 0, 7, 3, 42, 180, 0, 19, 3, 17, 3, 12, 184, 0, 58, 42, 4, 181, 1, 10, 42, 182, 1, 53, 172]
theorem hb_216 : prog_9_method_144_code.data.toList.map UInt8.toNat = bl_216 := dk_eq_t _ _ (by decide +kernel)
def bl_217 : List Nat := [42, 3, 181, 0, 48, 42, 42, 180, 1, 10, 154, 0, 7, 4, 167, 0, 4, 3, 4, 182, 1, 14, 153, 0, 5, 3, 172, 42, 180, 0, 19, 3, 42, 180, 0, 7, 3, 17, 3, 12, 184, 0, 58, 42, 3, 181, 0, 55, 42, 182, 1, 53, 172]
theorem hb_217 : prog_9_method_145_code.data.toList.map UInt8.toNat = bl_217 := dk_eq_t _ _ (by decide +kernel)
def bl_218 : List Nat := [42, 183, 0, 3, 42, 16, 10, 189, 0, 9, 181, 0, 11, 42, 3, 181, 0, 17, 42, 3, 181, 0, 21, 3, 60, 27, 16, 10, 162, 0, 22, 42, 180, 0, 11, 27, 187, 0, 9, 89, 183, 0, 24, 83, 132, 1, 1, 167, 255, 234, 177]
theorem hb_218 : prog_2_method_1_code.data.toList.map UInt8.toNat = bl_218 := dk_eq_t _ _ (by decide +kernel)
def bl_219 : List Nat := [42, 180, 0, 21, 155, 0, 12, 42, 180, 0, 21, 16, 10, 161, 0, 8, 42, 3, 181, 0, 21, 42, 180, 0, 11, 42, 180, 0, 21, 50, 43, 182, 0, 25, 42, 89, 180, 0, 21, 4, 96, 181, 0, 21, 42, 180, 0, 17, 16, 10, 162, 0, 13, 42, 89, 180, 0, 17, 4, 96, 181, 0, 17, 177]
theorem hb_219 : prog_2_method_2_code.data.toList.map UInt8.toNat = bl_219 := dk_eq_t _ _ (by decide +kernel)
def bl_220 : List Nat := [42, 180, 0, 17, 154, 0, 5, 3, 172, 42, 180, 0, 21, 158, 0, 12, 42, 180, 0, 21, 16, 10, 164, 0, 9, 42, 16, 10, 181, 0, 21, 42, 89, 180, 0, 21, 4, 100, 181, 0, 21, 42, 89, 180, 0, 17, 4, 100, 181, 0, 17, 43, 42, 180, 0, 11, 42, 180, 0, 21, 50, 182, 0, 25, 4, 172]
theorem hb_220 : prog_2_method_3_code.data.toList.map UInt8.toNat = bl_220 := dk_eq_t _ _ (by decide +kernel)
def bl_221 : List Nat := [42, 183, 0, 3, 42, 17, 1, 244, 188, 8, 181, 0, 9, 42, 3, 181, 0, 15, 177]
theorem hb_221 : prog_3_method_1_code.data.toList.map UInt8.toNat = bl_221 := dk_eq_t _ _ (by decide +kernel)
def bl_222 : List Nat := [16, 24, 61, 28, 155, 0, 49, 42, 180, 0, 15, 155, 0, 36, 42, 180, 0, 15, 17, 1, 244, 162, 0, 26, 42, 180, 0, 9, 42, 180, 0, 15, 27, 28, 122, 145, 84, 42, 89, 180, 0, 15, 4, 96, 181, 0, 15, 132, 2, 248, 167, 255, 209, 177]
theorem hb_222 : prog_3_method_2_code.data.toList.map UInt8.toNat = bl_222 := dk_eq_t _ _ (by decide +kernel)
def bl_223 : List Nat := [27, 155, 0, 18, 27, 42, 180, 0, 15, 162, 0, 10, 27, 17, 1, 244, 161, 0, 7, 3, 167, 0, 9, 42, 180, 0, 9, 27, 51, 172]
theorem hb_223 : prog_3_method_3_code.data.toList.map UInt8.toNat = bl_223 := dk_eq_t _ _ (by decide +kernel)
def bl_224 : List Nat := [42, 183, 0, 3, 42, 17, 1, 44, 188, 8, 181, 0, 9, 42, 3, 181, 0, 15, 177]
theorem hb_224 : prog_4_method_1_code.data.toList.map UInt8.toNat = bl_224 := dk_eq_t _ _ (by decide +kernel)
def bl_225 : List Nat := [42, 180, 0, 15, 155, 0, 34, 42, 180, 0, 15, 17, 1, 44, 162, 0, 24, 42, 180, 0, 9, 42, 180, 0, 15, 27, 145, 84, 42, 89, 180, 0, 15, 4, 96, 181, 0, 15, 177]
theorem hb_225 : prog_4_method_2_code.data.toList.map UInt8.toNat = bl_225 := dk_eq_t _ _ (by decide +kernel)
def bl_226 : List Nat := [27, 16, 100, 161, 0, 15, 42, 16, 48, 27, 16, 100, 108, 96, 146, 182, 0, 19, 27, 16, 10, 161, 0, 18, 42, 16, 48, 27, 16, 10, 108, 16, 10, 112, 96, 146, 182, 0, 19, 42, 16, 48, 27, 16, 10, 112, 96, 146, 182, 0, 19, 177]
theorem hb_226 : prog_4_method_3_code.data.toList.map UInt8.toNat = bl_226 := dk_eq_t _ _ (by decide +kernel)
def bl_227 : List Nat := [43, 182, 0, 23, 61, 28, 158, 0, 52, 43, 78, 3, 54, 4, 21, 4, 28, 162, 0, 21, 45, 180, 0, 29, 198, 0, 14, 45, 180, 0, 29, 78, 132, 4, 1, 167, 255, 235, 42, 45, 180, 0, 33, 182, 0, 36, 42, 16, 47, 182, 0, 19, 132, 2, 255, 167, 255, 206, 42, 43, 180, 0, 33, 182, 0, 36, 177]
theorem hb_227 : prog_4_method_4_code.data.toList.map UInt8.toNat = bl_227 := dk_eq_t _ _ (by decide +kernel)
def bl_228 : List Nat := [43, 180, 0, 40, 78, 45, 190, 54, 4, 3, 54, 5, 21, 5, 21, 4, 162, 0, 37, 45, 21, 5, 50, 58, 6, 25, 6, 44, 182, 0, 46, 153, 0, 16, 42, 182, 0, 50, 42, 25, 6, 180, 0, 33, 182, 0, 36, 132, 5, 1, 167, 255, 218, 177]
theorem hb_228 : prog_4_method_5_code.data.toList.map UInt8.toNat = bl_228 := dk_eq_t _ _ (by decide +kernel)
def bl_229 : List Nat := [43, 44, 182, 0, 53, 62, 3, 54, 4, 21, 4, 16, 8, 162, 0, 24, 29, 21, 4, 122, 4, 126, 153, 0, 9, 42, 21, 4, 182, 0, 36, 132, 4, 1, 167, 255, 231, 177]
theorem hb_229 : prog_4_method_6_code.data.toList.map UInt8.toNat = bl_229 := dk_eq_t _ _ (by decide +kernel)
def bl_230 : List Nat := [43, 44, 2, 182, 0, 57, 78, 3, 54, 4, 21, 4, 16, 40, 162, 0, 49, 45, 198, 0, 45, 42, 182, 0, 50, 42, 45, 180, 0, 33, 182, 0, 36, 42, 16, 58, 182, 0, 19, 42, 45, 180, 0, 61, 182, 0, 36, 43, 44, 45, 180, 0, 64, 182, 0, 57, 78, 132, 4, 1, 167, 255, 206, 177]
theorem hb_230 : prog_4_method_7_code.data.toList.map UInt8.toNat = bl_230 := dk_eq_t _ _ (by decide +kernel)
def bl_231 : List Nat := [42, 180, 0, 15, 158, 0, 9, 42, 16, 44, 182, 0, 19, 177]
theorem hb_231 : prog_4_method_8_code.data.toList.map UInt8.toNat = bl_231 := dk_eq_t _ _ (by decide +kernel)
def bl_232 : List Nat := [42, 183, 0, 3, 42, 6, 181, 0, 9, 42, 1, 181, 0, 15, 42, 3, 181, 0, 19, 42, 3, 181, 0, 22, 42, 3, 181, 0, 25, 42, 3, 181, 0, 28, 42, 2, 181, 0, 31, 42, 3, 181, 0, 34, 42, 2, 181, 0, 37, 42, 2, 181, 0, 40, 42, 3, 181, 0, 43, 42, 2, 181, 0, 46, 42, 3, 181, 0, 49, 42, 9, 181, 0, 53, 42, 27, 181, 0, 57, 177]
theorem hb_232 : prog_5_method_1_code.data.toList.map UInt8.toNat = bl_232 := dk_eq_t _ _ (by decide +kernel)
def bl_233 : List Nat := [42, 27, 181, 0, 9, 42, 1, 181, 0, 15, 42, 3, 181, 0, 19, 42, 28, 181, 0, 22, 42, 29, 181, 0, 25, 42, 21, 4, 181, 0, 28, 42, 2, 181, 0, 31, 42, 3, 181, 0, 34, 42, 2, 181, 0, 37, 42, 2, 181, 0, 40, 42, 3, 181, 0, 43, 42, 2, 181, 0, 46, 42, 3, 181, 0, 49, 42, 9, 181, 0, 53, 177]
theorem hb_233 : prog_5_method_2_code.data.toList.map UInt8.toNat = bl_233 := dk_eq_t _ _ (by decide +kernel)
def bl_234 : List Nat := [42, 43, 180, 0, 9, 181, 0, 9, 42, 43, 180, 0, 19, 181, 0, 19, 42, 43, 180, 0, 22, 181, 0, 22, 42, 43, 180, 0, 25, 181, 0, 25, 42, 43, 180, 0, 28, 181, 0, 28, 42, 43, 180, 0, 31, 181, 0, 31, 42, 43, 180, 0, 34, 181, 0, 34, 42, 43, 180, 0, 37, 181, 0, 37, 42, 43, 180, 0, 40, 181, 0, 40, 42, 43, 180, 0, 43, 181, 0, 43, 42, 43, 180, 0, 46, 181, 0, 46, 42, 43, 180, 0, 49, 181, 0, 49, 42, 43, 180, 0, 53, 181, 0, 53, 177]
theorem hb_234 : prog_5_method_3_code.data.toList.map UInt8.toNat = bl_234 := dk_eq_t _ _ (by decide +kernel)
def bl_235 : List Nat := [42, 180, 0, 9, 154, 0, 7, 4, 167, 0, 4, 3, 172]
theorem hb_235 : prog_5_method_4_code.data.toList.map UInt8.toNat = bl_235 := dk_eq_t _ _ (by decide +kernel)
def bl_236 : List Nat := [42, 180, 0, 9, 154, 0, 14, 42, 180, 0, 15, 198, 0, 7, 4, 167, 0, 4, 3, 172]
theorem hb_236 : prog_5_method_5_code.data.toList.map UInt8.toNat = bl_236 := dk_eq_t _ _ (by decide +kernel)
def bl_237 : List Nat := [42, 180, 0, 9, 4, 159, 0, 11, 42, 180, 0, 9, 5, 160, 0, 7, 4, 167, 0, 4, 3, 172]
theorem hb_237 : prog_5_method_6_code.data.toList.map UInt8.toNat = bl_237 := dk_eq_t _ _ (by decide +kernel)
def bl_238 : List Nat := [42, 180, 0, 9, 154, 0, 15, 42, 180, 0, 15, 43, 166, 0, 7, 4, 167, 0, 4, 3, 172]
theorem hb_238 : prog_5_method_7_code.data.toList.map UInt8.toNat = bl_238 := dk_eq_t _ _ (by decide +kernel)
def bl_239 : List Nat := [42, 180, 0, 9, 4, 160, 0, 15, 42, 180, 0, 15, 43, 166, 0, 7, 4, 167, 0, 4, 3, 172]
theorem hb_239 : prog_5_method_8_code.data.toList.map UInt8.toNat = bl_239 := dk_eq_t _ _ (by decide +kernel)
def bl_240 : List Nat := [42, 180, 0, 9, 154, 0, 14, 42, 180, 0, 49, 154, 0, 7, 4, 167, 0, 4, 3, 172]
theorem hb_240 : prog_5_method_9_code.data.toList.map UInt8.toNat = bl_240 := dk_eq_t _ _ (by decide +kernel)
def bl_241 : List Nat := [42, 180, 0, 34, 27, 122, 4, 126, 153, 0, 7, 4, 167, 0, 4, 3, 172]
theorem hb_241 : prog_5_method_10_code.data.toList.map UInt8.toNat = bl_241 := dk_eq_t _ _ (by decide +kernel)
def bl_242 : List Nat := [42, 180, 0, 9, 154, 0, 26, 42, 180, 0, 22, 42, 180, 0, 19, 164, 0, 15, 42, 180, 0, 22, 42, 180, 0, 19, 100, 167, 0, 4, 3, 172]
theorem hb_242 : prog_5_method_11_code.data.toList.map UInt8.toNat = bl_242 := dk_eq_t _ _ (by decide +kernel)
def bl_243 : List Nat := [3, 60, 42, 180, 0, 15, 77, 44, 198, 0, 14, 132, 1, 1, 44, 180, 0, 15, 77, 167, 255, 244, 27, 172]
theorem hb_243 : prog_5_method_12_code.data.toList.map UInt8.toNat = bl_243 := dk_eq_t _ _ (by decide +kernel)
def bl_244 : List Nat := [43, 180, 0, 15, 77, 44, 198, 0, 18, 44, 42, 166, 0, 5, 4, 172, 44, 180, 0, 15, 77, 167, 255, 240, 3, 172]
theorem hb_244 : prog_5_method_13_code.data.toList.map UInt8.toNat = bl_244 := dk_eq_t _ _ (by decide +kernel)
def bl_245 : List Nat := [42, 180, 0, 15, 198, 0, 16, 42, 180, 0, 15, 89, 180, 0, 19, 4, 100, 181, 0, 19, 42, 43, 181, 0, 15, 43, 89, 180, 0, 19, 4, 96, 181, 0, 19, 177]
theorem hb_245 : prog_5_method_14_code.data.toList.map UInt8.toNat = bl_245 := dk_eq_t _ _ (by decide +kernel)
def bl_246 : List Nat := [42, 180, 0, 53, 16, 8, 27, 104, 123, 20, 0, 60, 127, 136, 4, 100, 172]
theorem hb_246 : prog_5_method_15_code.data.toList.map UInt8.toNat = bl_246 := dk_eq_t _ _ (by decide +kernel)
def bl_247 : List Nat := [42, 89, 180, 0, 53, 28, 4, 96, 133, 16, 8, 27, 104, 121, 129, 181, 0, 53, 177]
theorem hb_247 : prog_5_method_16_code.data.toList.map UInt8.toNat = bl_247 := dk_eq_t _ _ (by decide +kernel)
def bl_248 : List Nat := [3, 60, 3, 61, 28, 16, 8, 162, 0, 24, 42, 28, 182, 0, 62, 2, 159, 0, 9, 27, 4, 28, 120, 128, 60, 132, 2, 1, 167, 255, 232, 27, 172]
theorem hb_248 : prog_5_method_17_code.data.toList.map UInt8.toNat = bl_248 := dk_eq_t _ _ (by decide +kernel)
def bl_249 : List Nat := [42, 183, 0, 3, 42, 187, 0, 9, 89, 183, 0, 11, 181, 0, 12, 42, 187, 0, 18, 89, 183, 0, 20, 181, 0, 21, 42, 3, 181, 0, 25, 42, 2, 181, 0, 29, 42, 3, 181, 0, 32, 42, 3, 181, 0, 35, 42, 3, 181, 0, 38, 42, 3, 181, 0, 41, 42, 3, 181, 0, 44, 42, 3, 181, 0, 48, 42, 3, 181, 0, 51, 177]
theorem hb_249 : prog_6_method_1_code.data.toList.map UInt8.toNat = bl_249 := dk_eq_t _ _ (by decide +kernel)
def bl_250 : List Nat := [42, 180, 0, 21, 182, 0, 54, 42, 3, 181, 0, 25, 42, 2, 181, 0, 29, 42, 3, 181, 0, 44, 42, 3, 181, 0, 48, 42, 3, 181, 0, 51, 42, 3, 181, 0, 38, 177]
theorem hb_250 : prog_6_method_2_code.data.toList.map UInt8.toNat = bl_250 := dk_eq_t _ _ (by decide +kernel)
def bl_251 : List Nat := [42, 182, 0, 57, 42, 180, 0, 32, 154, 0, 5, 3, 172, 42, 18, 60, 182, 0, 62, 153, 0, 8, 42, 182, 0, 66, 172, 42, 18, 70, 182, 0, 62, 153, 0, 8, 42, 182, 0, 72, 172, 42, 18, 75, 182, 0, 62, 153, 0, 8, 42, 182, 0, 77, 172, 42, 18, 80, 182, 0, 62, 153, 0, 8, 42, 182, 0, 82, 172, 42, 18, 85, 182, 0, 62, 153, 0, 8, 42, 182, 0, 87, 172, 42, 18, 90, 182, 0, 62, 153, 0, 8, 42, 182, 0, 92, 172, 42, 18, 95, 182, 0, 62, 153, 0, 8, 42, 182, 0, 97, 172, 42, 18, 100, 182, 0, 62, 153, 0, 10, 42, 182, 0, 102, 167, 0, 8, 42, 4, 182, 0, 105, 172]
theorem hb_251 : prog_6_method_3_code.data.toList.map UInt8.toNat = bl_251 := dk_eq_t _ _ (by decide +kernel)
def bl_252 : List Nat := [42, 180, 0, 44, 153, 0, 9, 42, 6, 182, 0, 105, 172, 42, 4, 181, 0, 44, 42, 180, 0, 21, 182, 0, 109, 42, 182, 0, 57, 3, 60, 27, 8, 162, 0, 64, 42, 180, 0, 32, 4, 160, 0, 56, 42, 182, 0, 112, 61, 28, 2, 160, 0, 9, 42, 4, 182, 0, 105, 172, 42, 180, 0, 21, 28, 182, 0, 116, 153, 0, 9, 42, 6, 182, 0, 105, 172, 42, 180, 0, 21, 180, 0, 119, 27, 28, 79, 42, 182, 0, 57, 132, 1, 1, 167, 255, 193, 42, 180, 0, 32, 6, 159, 0, 23, 42, 42, 182, 0, 112, 2, 160, 0, 7, 4, 167, 0, 4, 6, 182, 0, 105, 153, 0, 7, 4, 167, 0, 4, 3, 172]
theorem hb_252 : prog_6_method_4_code.data.toList.map UInt8.toNat = bl_252 := dk_eq_t _ _ (by decide +kernel)
def bl_253 : List Nat := [42, 18, 123, 182, 0, 62, 153, 0, 5, 3, 172, 42, 18, 125, 182, 0, 62, 153, 0, 5, 4, 172, 42, 18, 127, 182, 0, 62, 153, 0, 5, 5, 172, 42, 18, 129, 182, 0, 62, 153, 0, 5, 6, 172, 42, 18, 131, 182, 0, 62, 153, 0, 7, 7, 167, 0, 4, 2, 172]
theorem hb_253 : prog_6_method_5_code.data.toList.map UInt8.toNat = bl_253 := dk_eq_t _ _ (by decide +kernel)
def bl_254 : List Nat := [42, 180, 0, 48, 153, 0, 9, 42, 6, 182, 0, 105, 172, 42, 4, 181, 0, 48, 42, 4, 16, 20, 182, 0, 133, 154, 0, 5, 3, 172, 42, 180, 0, 21, 42, 180, 0, 41, 181, 0, 137, 42, 182, 0, 139, 172]
theorem hb_254 : prog_6_method_6_code.data.toList.map UInt8.toNat = bl_254 := dk_eq_t _ _ (by decide +kernel)
def bl_255 : List Nat := [42, 180, 0, 51, 153, 0, 9, 42, 6, 182, 0, 105, 172, 42, 4, 181, 0, 51, 42, 3, 16, 9, 182, 0, 133, 154, 0, 5, 3, 172, 42, 180, 0, 21, 180, 0, 142, 42, 180, 0, 41, 181, 0, 145, 42, 3, 16, 9, 182, 0, 133, 154, 0, 5, 3, 172, 42, 180, 0, 21, 180, 0, 142, 42, 180, 0, 41, 181, 0, 150, 42, 182, 0, 139, 172]
theorem hb_255 : prog_6_method_7_code.data.toList.map UInt8.toNat = bl_255 := dk_eq_t _ _ (by decide +kernel)
def bl_256 : List Nat := [42, 180, 0, 21, 180, 0, 153, 16, 24, 164, 0, 9, 42, 7, 182, 0, 105, 172, 42, 3, 182, 0, 156, 76, 43, 199, 0, 5, 3, 172, 43, 182, 0, 160, 154, 0, 9, 42, 5, 182, 0, 105, 172, 42, 3, 16, 9, 182, 0, 133, 154, 0, 5, 3, 172, 42, 180, 0, 41, 61, 42, 3, 16, 9, 182, 0, 133, 154, 0, 5, 3, 172, 42, 180, 0, 41, 62, 42, 3, 16, 9, 182, 0, 133, 154, 0, 5, 3, 172, 42, 180, 0, 21, 43, 28, 29, 42, 180, 0, 41, 182, 0, 162, 87, 42, 182, 0, 139, 172]
theorem hb_256 : prog_6_method_8_code.data.toList.map UInt8.toNat = bl_256 := dk_eq_t _ _ (by decide +kernel)
def bl_257 : List Nat := [42, 4, 182, 0, 156, 76, 43, 199, 0, 5, 3, 172, 43, 180, 0, 166, 2, 159, 0, 9, 42, 6, 182, 0, 105, 172, 42, 3, 182, 0, 156, 77, 44, 199, 0, 5, 3, 172, 44, 43, 166, 0, 9, 42, 5, 182, 0, 105, 172, 43, 44, 180, 0, 168, 181, 0, 166, 42, 182, 0, 139, 172]
theorem hb_257 : prog_6_method_9_code.data.toList.map UInt8.toNat = bl_257 := dk_eq_t _ _ (by decide +kernel)
def bl_258 : List Nat := [42, 3, 16, 7, 182, 0, 133, 154, 0, 5, 3, 172, 42, 180, 0, 41, 60, 42, 3, 182, 0, 156, 77, 44, 199, 0, 5, 3, 172, 42, 180, 0, 21, 27, 44, 182, 0, 171, 42, 182, 0, 139, 172]
theorem hb_258 : prog_6_method_10_code.data.toList.map UInt8.toNat = bl_258 := dk_eq_t _ _ (by decide +kernel)
def bl_259 : List Nat := [42, 4, 182, 0, 156, 76, 43, 198, 0, 13, 42, 3, 16, 9, 182, 0, 133, 154, 0, 5, 3, 172, 43, 42, 180, 0, 41, 182, 0, 175, 153, 0, 9, 42, 6, 182, 0, 105, 172, 43, 89, 180, 0, 178, 4, 42, 180, 0, 41, 120, 128, 181, 0, 178, 42, 182, 0, 139, 172]
theorem hb_259 : prog_6_method_11_code.data.toList.map UInt8.toNat = bl_259 := dk_eq_t _ _ (by decide +kernel)
def bl_260 : List Nat := [42, 4, 182, 0, 156, 76, 43, 198, 0, 13, 42, 3, 16, 7, 182, 0, 133, 154, 0, 5, 3, 172, 42, 180, 0, 41, 61, 43, 28, 182, 0, 181, 2, 159, 0, 9, 42, 6, 182, 0, 105, 172, 42, 3, 182, 0, 156, 78, 45, 199, 0, 5, 3, 172, 45, 43, 166, 0, 9, 42, 5, 182, 0, 105, 172, 43, 28, 45, 180, 0, 168, 182, 0, 185, 42, 182, 0, 139, 172]
theorem hb_260 : prog_6_method_12_code.data.toList.map UInt8.toNat = bl_260 := dk_eq_t _ _ (by decide +kernel)
def bl_261 : List Nat := [42, 27, 42, 180, 0, 21, 180, 0, 153, 4, 100, 182, 0, 133, 153, 0, 17, 42, 180, 0, 21, 42, 180, 0, 41, 182, 0, 189, 167, 0, 4, 1, 176]
theorem hb_261 : prog_6_method_13_code.data.toList.map UInt8.toNat = bl_261 := dk_eq_t _ _ (by decide +kernel)
def bl_262 : List Nat := [42, 182, 0, 57, 42, 180, 0, 32, 5, 159, 0, 9, 42, 4, 182, 0, 105, 172, 42, 180, 0, 41, 27, 161, 0, 11, 42, 180, 0, 41, 28, 164, 0, 11, 42, 5, 182, 0, 105, 153, 0, 7, 4, 167, 0, 4, 3, 172]
theorem hb_262 : prog_6_method_14_code.data.toList.map UInt8.toNat = bl_262 := dk_eq_t _ _ (by decide +kernel)
def bl_263 : List Nat := [42, 182, 0, 57, 42, 180, 0, 32, 6, 159, 0, 11, 42, 4, 182, 0, 105, 153, 0, 7, 4, 167, 0, 4, 3, 172]
theorem hb_263 : prog_6_method_15_code.data.toList.map UInt8.toNat = bl_263 := dk_eq_t _ _ (by decide +kernel)
def bl_264 : List Nat := [42, 27, 181, 0, 25, 42, 42, 180, 0, 35, 181, 0, 29, 3, 172]
theorem hb_264 : prog_6_method_16_code.data.toList.map UInt8.toNat = bl_264 := dk_eq_t _ _ (by decide +kernel)
def bl_265 : List Nat := [42, 42, 180, 0, 38, 181, 0, 35, 42, 180, 0, 35, 42, 180, 0, 12, 180, 0, 192, 162, 0, 33, 42, 180, 0, 12, 42, 180, 0, 35, 182, 0, 195, 184, 0, 197, 153, 0, 16, 42, 89, 180, 0, 35, 4, 96, 181, 0, 35, 167, 255, 215, 42, 42, 180, 0, 35, 181, 0, 38, 42, 3, 181, 0, 32, 42, 180, 0, 35, 42, 180, 0, 12, 180, 0, 192, 162, 0, 31, 42, 42, 180, 0, 12, 42, 180, 0, 35, 182, 0, 195, 184, 0, 200, 181, 0, 32, 42, 89, 180, 0, 38, 4, 96, 181, 0, 38, 42, 42, 180, 0, 12, 42, 180, 0, 35, 182, 0, 195, 16, 48, 100, 181, 0, 41, 42, 180, 0, 32, 4, 159, 0, 11, 42, 180, 0, 32, 5, 160, 0, 77, 42, 180, 0, 38, 42, 180, 0, 12, 180, 0, 192, 162, 0, 63, 42, 180, 0, 12, 42, 180, 0, 38, 182, 0, 195, 184, 0, 200, 42, 180, 0, 32, 160, 0, 42, 42, 16, 10, 42, 180, 0, 41, 104, 42, 180, 0, 12, 42, 180, 0, 38, 182, 0, 195, 96, 16, 48, 100, 181, 0, 41, 42, 89, 180, 0, 38, 4, 96, 181, 0, 38, 167, 255, 169, 42, 180, 0, 32, 5, 160, 0, 21, 42, 180, 0, 38, 42, 180, 0, 35, 100, 5, 164, 0, 8, 42, 7, 181, 0, 32, 177]
theorem hb_265 : prog_6_method_17_code.data.toList.map UInt8.toNat = bl_265 := dk_eq_t _ _ (by decide +kernel)
def bl_266 : List Nat := [26, 16, 32, 159, 0, 9, 26, 16, 10, 160, 0, 7, 4, 167, 0, 4, 3, 172]
theorem hb_266 : prog_6_method_18_code.data.toList.map UInt8.toNat = bl_266 := dk_eq_t _ _ (by decide +kernel)
def bl_267 : List Nat := [26, 16, 97, 161, 0, 11, 26, 16, 122, 163, 0, 5, 4, 172, 26, 16, 48, 161, 0, 11, 26, 16, 57, 163, 0, 5, 5, 172, 26, 16, 59, 160, 0, 7, 6, 167, 0, 4, 7, 172]
theorem hb_267 : prog_6_method_19_code.data.toList.map UInt8.toNat = bl_267 := dk_eq_t _ _ (by decide +kernel)
def bl_268 : List Nat := [42, 180, 0, 38, 42, 180, 0, 35, 100, 43, 182, 0, 203, 160, 0, 7, 4, 167, 0, 4, 3, 61, 3, 62, 28, 153, 0, 44, 29, 43, 182, 0, 203, 162, 0, 36, 42, 180, 0, 12, 42, 180, 0, 35, 29, 96, 182, 0, 195, 43, 29, 182, 0, 207, 160, 0, 7, 4, 167, 0, 4, 3, 61, 132, 3, 1, 167, 255, 214, 28, 172]
theorem hb_268 : prog_6_method_20_code.data.toList.map UInt8.toNat = bl_268 := dk_eq_t _ _ (by decide +kernel)
def bl_269 : List Nat := [42, 183, 0, 3, 42, 187, 0, 9, 89, 3, 183, 0, 11, 181, 0, 14, 42, 16, 40, 189, 0, 9, 181, 0, 20, 42, 16, 8, 188, 10, 181, 0, 24, 42, 8, 188, 10, 181, 0, 28, 42, 16, 20, 181, 0, 31, 42, 3, 181, 0, 35, 42, 3, 181, 0, 38, 42, 3, 181, 0, 41, 42, 3, 181, 0, 44, 42, 3, 181, 0, 47, 3, 60, 27, 16, 40, 162, 0, 34, 42, 180, 0, 20, 27, 27, 154, 0, 10, 42, 180, 0, 14, 167, 0, 11, 187, 0, 9, 89, 27, 183, 0, 11, 83, 132, 1, 1, 167, 255, 222, 42, 182, 0, 50, 177]
theorem hb_269 : prog_7_method_1_code.data.toList.map UInt8.toNat = bl_269 := dk_eq_t _ _ (by decide +kernel)
def bl_270 : List Nat := [42, 180, 0, 20, 76, 43, 190, 61, 3, 62, 29, 28, 162, 0, 23, 43, 29, 50, 58, 4, 25, 4, 6, 3, 3, 3, 182, 0, 53, 132, 3, 1, 167, 255, 234, 42, 180, 0, 14, 3, 16, 9, 3, 3, 182, 0, 53, 3, 60, 27, 16, 8, 162, 0, 16, 42, 180, 0, 24, 27, 3, 79, 132, 1, 1, 167, 255, 240, 42, 182, 0, 57, 42, 180, 0, 28, 3, 3, 79, 42, 180, 0, 28, 4, 4, 79, 42, 180, 0, 28, 5, 5, 79, 42, 16, 20, 181, 0, 31, 42, 4, 181, 0, 35, 42, 3, 181, 0, 38, 42, 3, 181, 0, 41, 42, 3, 181, 0, 44, 42, 3, 181, 0, 47, 177]
theorem hb_270 : prog_7_method_2_code.data.toList.map UInt8.toNat = bl_270 := dk_eq_t _ _ (by decide +kernel)
def bl_271 : List Nat := [42, 180, 0, 28, 77, 44, 190, 62, 3, 54, 4, 21, 4, 29, 162, 0, 23, 44, 21, 4, 46, 54, 5, 21, 5, 27, 160, 0, 5, 4, 172, 132, 4, 1, 167, 255, 233, 3, 172]
theorem hb_271 : prog_7_method_3_code.data.toList.map UInt8.toNat = bl_271 := dk_eq_t _ _ (by decide +kernel)
def bl_272 : List Nat := [3, 60, 27, 8, 162, 0, 16, 42, 180, 0, 28, 27, 2, 79, 132, 1, 1, 167, 255, 241, 177]
theorem hb_272 : prog_7_method_4_code.data.toList.map UInt8.toNat = bl_272 := dk_eq_t _ _ (by decide +kernel)
def bl_273 : List Nat := [42, 43, 180, 0, 35, 181, 0, 35, 3, 61, 28, 16, 40, 162, 0, 57, 43, 180, 0, 20, 28, 50, 78, 42, 180, 0, 20, 28, 50, 45, 182, 0, 60, 42, 180, 0, 20, 28, 50, 45, 180, 0, 64, 199, 0, 7, 1, 167, 0, 14, 42, 45, 180, 0, 64, 180, 0, 67, 182, 0, 70, 181, 0, 64, 132, 2, 1, 167, 255, 199, 43, 180, 0, 24, 3, 42, 180, 0, 24, 3, 16, 8, 184, 0, 74, 43, 180, 0, 28, 3, 42, 180, 0, 28, 3, 8, 184, 0, 74, 42, 43, 180, 0, 31, 181, 0, 31, 42, 43, 180, 0, 38, 181, 0, 38, 42, 43, 180, 0, 41, 181, 0, 41, 42, 43, 180, 0, 44, 181, 0, 44, 42, 43, 180, 0, 47, 181, 0, 47, 177]
theorem hb_273 : prog_7_method_5_code.data.toList.map UInt8.toNat = bl_273 := dk_eq_t _ _ (by decide +kernel)
def bl_274 : List Nat := [27, 155, 0, 17, 27, 42, 180, 0, 35, 162, 0, 9, 27, 16, 40, 161, 0, 7, 1, 167, 0, 9, 42, 180, 0, 20, 27, 50, 176]
theorem hb_274 : prog_7_method_6_code.data.toList.map UInt8.toNat = bl_274 := dk_eq_t _ _ (by decide +kernel)
def bl_275 : List Nat := [3, 61, 42, 180, 0, 20, 78, 45, 190, 54, 4, 3, 54, 5, 21, 5, 21, 4, 162, 0, 27, 45, 21, 5, 50, 58, 6, 25, 6, 180, 0, 80, 27, 160, 0, 6, 132, 2, 1, 132, 5, 1, 167, 255, 228, 28, 172]
theorem hb_275 : prog_7_method_7_code.data.toList.map UInt8.toNat = bl_275 := dk_eq_t _ _ (by decide +kernel)
def bl_276 : List Nat := [3, 62, 42, 180, 0, 20, 58, 4, 25, 4, 190, 54, 5, 3, 54, 6, 21, 6, 21, 5, 162, 0, 37, 25, 4, 21, 6, 50, 58, 7, 25, 7, 180, 0, 80, 28, 160, 0, 15, 43, 25, 7, 182, 0, 83, 153, 0, 6, 132, 3, 1, 132, 6, 1, 167, 255, 218, 29, 172]
theorem hb_276 : prog_7_method_8_code.data.toList.map UInt8.toNat = bl_276 := dk_eq_t _ _ (by decide +kernel)
def bl_277 : List Nat := [3, 61, 42, 180, 0, 20, 78, 45, 190, 54, 4, 3, 54, 5, 21, 5, 21, 4, 162, 0, 27, 45, 21, 5, 50, 58, 6, 25, 6, 43, 182, 0, 87, 153, 0, 6, 132, 2, 1, 132, 5, 1, 167, 255, 228, 28, 172]
theorem hb_277 : prog_7_method_9_code.data.toList.map UInt8.toNat = bl_277 := dk_eq_t _ _ (by decide +kernel)
def bl_278 : List Nat := [3, 60, 42, 180, 0, 20, 77, 44, 190, 62, 3, 54, 4, 21, 4, 29, 162, 0, 38, 44, 21, 4, 50, 58, 5, 25, 5, 182, 0, 90, 153, 0, 18, 25, 5, 182, 0, 94, 27, 164, 0, 9, 25, 5, 182, 0, 94, 60, 132, 4, 1, 167, 255, 218, 27, 172]
theorem hb_278 : prog_7_method_10_code.data.toList.map UInt8.toNat = bl_278 := dk_eq_t _ _ (by decide +kernel)
def bl_279 : List Nat := [43, 78, 45, 198, 0, 26, 45, 44, 165, 0, 11, 45, 44, 182, 0, 83, 153, 0, 5, 45, 176, 45, 180, 0, 64, 78, 167, 255, 232, 42, 180, 0, 14, 176]
theorem hb_279 : prog_7_method_11_code.data.toList.map UInt8.toNat = bl_279 := dk_eq_t _ _ (by decide +kernel)
def bl_280 : List Nat := [42, 180, 0, 20, 78, 45, 190, 54, 4, 3, 54, 5, 21, 5, 21, 4, 162, 0, 36, 45, 21, 5, 50, 58, 6, 25, 6, 180, 0, 67, 28, 164, 0, 15, 25, 6, 43, 182, 0, 98, 153, 0, 6, 25, 6, 176, 132, 5, 1, 167, 255, 219, 1, 176]
theorem hb_280 : prog_7_method_12_code.data.toList.map UInt8.toNat = bl_280 := dk_eq_t _ _ (by decide +kernel)
def bl_281 : List Nat := [1, 78, 42, 180, 0, 20, 58, 4, 25, 4, 190, 54, 5, 3, 54, 6, 21, 6, 21, 5, 162, 0, 53, 25, 4, 21, 6, 50, 58, 7, 25, 7, 43, 182, 0, 87, 153, 0, 31, 25, 7, 180, 0, 101, 28, 164, 0, 22, 45, 198, 0, 15, 25, 7, 180, 0, 101, 45, 180, 0, 101, 162, 0, 6, 25, 7, 78, 132, 6, 1, 167, 255, 202, 45, 176]
theorem hb_281 : prog_7_method_13_code.data.toList.map UInt8.toNat = bl_281 := dk_eq_t _ _ (by decide +kernel)
def bl_282 : List Nat := [42, 43, 2, 182, 0, 104, 77, 43, 78, 44, 199, 0, 31, 45, 180, 0, 64, 198, 0, 24, 42, 45, 180, 0, 64, 45, 180, 0, 67, 182, 0, 104, 77, 45, 180, 0, 64, 78, 167, 255, 227, 44, 176]
theorem hb_282 : prog_7_method_14_code.data.toList.map UInt8.toNat = bl_282 := dk_eq_t _ _ (by decide +kernel)
def bl_283 : List Nat := [27, 155, 0, 9, 27, 16, 8, 161, 0, 7, 1, 167, 0, 13, 42, 42, 180, 0, 24, 27, 46, 182, 0, 70, 77, 44, 199, 0, 10, 42, 180, 0, 14, 167, 0, 4, 44, 176]
theorem hb_283 : prog_7_method_15_code.data.toList.map UInt8.toNat = bl_283 := dk_eq_t _ _ (by decide +kernel)
def bl_284 : List Nat := [27, 155, 0, 19, 27, 16, 8, 162, 0, 13, 42, 180, 0, 24, 27, 44, 180, 0, 67, 79, 177]
theorem hb_284 : prog_7_method_16_code.data.toList.map UInt8.toNat = bl_284 := dk_eq_t _ _ (by decide +kernel)
def bl_285 : List Nat := [3, 61, 3, 62, 29, 16, 8, 162, 0, 28, 42, 180, 0, 24, 29, 46, 43, 180, 0, 67, 160, 0, 9, 28, 4, 29, 120, 128, 61, 132, 3, 1, 167, 255, 228, 28, 172]
theorem hb_285 : prog_7_method_17_code.data.toList.map UInt8.toNat = bl_285 := dk_eq_t _ _ (by decide +kernel)
def bl_286 : List Nat := [42, 180, 0, 35, 155, 0, 12, 42, 180, 0, 35, 16, 40, 161, 0, 5, 1, 176, 42, 180, 0, 20, 42, 180, 0, 35, 50, 58, 5, 42, 89, 180, 0, 35, 4, 96, 181, 0, 35, 25, 5, 3, 28, 29, 21, 4, 182, 0, 53, 25, 5, 43, 182, 0, 108, 25, 5, 176]
theorem hb_286 : prog_7_method_18_code.data.toList.map UInt8.toNat = bl_286 := dk_eq_t _ _ (by decide +kernel)
def bl_287 : List Nat := [43, 180, 0, 64, 78, 45, 199, 0, 5, 3, 172, 42, 180, 0, 44, 54, 4, 43, 4, 181, 0, 80, 43, 28, 181, 0, 111, 43, 42, 180, 0, 38, 181, 0, 101, 42, 89, 180, 0, 38, 4, 96, 181, 0, 38, 45, 89, 180, 0, 114, 4, 100, 181, 0, 114, 28, 154, 0, 7, 1, 167, 0, 9, 42, 43, 45, 182, 0, 117, 58, 5, 42, 43, 25, 5, 182, 0, 121, 42, 180, 0, 20, 58, 6, 25, 6, 190, 54, 7, 3, 54, 8, 21, 8, 21, 7, 162, 0, 67, 25, 6, 21, 8, 50, 58, 9, 25, 9, 43, 182, 0, 98, 153, 0, 45, 25, 5, 198, 0, 15, 25, 5, 182, 0, 125, 158, 0, 7, 4, 167, 0, 4, 3, 54, 10, 42, 25, 9, 21, 10, 153, 0, 8, 25, 5, 167, 0, 9, 42, 25, 9, 182, 0, 128, 182, 0, 132, 132, 8, 1, 167, 255, 188, 42, 180, 0, 20, 58, 6, 25, 6, 190, 54, 7, 3, 54, 8, 21, 8, 21, 7, 162, 0, 31, 25, 6, 21, 8, 50, 58, 9, 25, 9, 43, 182, 0, 87, 153, 0, 9, 25, 9, 45, 181, 0, 64, 132, 8, 1, 167, 255, 224, 45, 42, 180, 0, 14, 166, 0, 12, 42, 42, 180, 0, 14, 182, 0, 135, 87, 42, 180, 0, 44, 21, 4, 100, 172]
theorem hb_287 : prog_7_method_19_code.data.toList.map UInt8.toNat = bl_287 := dk_eq_t _ _ (by decide +kernel)
def bl_288 : List Nat := [44, 180, 0, 139, 154, 0, 10, 44, 180, 0, 143, 157, 0, 5, 1, 176, 42, 44, 43, 180, 0, 146, 43, 180, 0, 149, 43, 180, 0, 143, 182, 0, 152, 78, 45, 198, 0, 31, 44, 89, 180, 0, 143, 4, 100, 181, 0, 143, 43, 45, 180, 0, 67, 181, 0, 156, 42, 89, 180, 0, 47, 4, 96, 181, 0, 47, 45, 176]
theorem hb_288 : prog_7_method_20_code.data.toList.map UInt8.toNat = bl_288 := dk_eq_t _ _ (by decide +kernel)
def bl_289 : List Nat := [3, 62, 29, 16, 8, 162, 0, 49, 42, 180, 0, 24, 29, 46, 43, 180, 0, 67, 160, 0, 30, 44, 198, 0, 7, 44, 167, 0, 9, 42, 43, 29, 182, 0, 159, 58, 4, 42, 180, 0, 24, 29, 25, 4, 180, 0, 67, 79, 132, 3, 1, 167, 255, 207, 177]
theorem hb_289 : prog_7_method_21_code.data.toList.map UInt8.toNat = bl_289 := dk_eq_t _ _ (by decide +kernel)
def bl_290 : List Nat := [42, 43, 28, 182, 0, 162, 182, 0, 70, 78, 45, 198, 0, 14, 45, 182, 0, 166, 153, 0, 7, 45, 167, 0, 8, 42, 43, 182, 0, 169, 176]
theorem hb_290 : prog_7_method_22_code.data.toList.map UInt8.toNat = bl_290 := dk_eq_t _ _ (by decide +kernel)
def bl_291 : List Nat := [42, 43, 180, 0, 172, 182, 0, 70, 77, 44, 198, 0, 12, 44, 182, 0, 166, 153, 0, 5, 44, 176, 42, 180, 0, 20, 78, 45, 190, 54, 4, 3, 54, 5, 21, 5, 21, 4, 162, 0, 35, 45, 21, 5, 50, 58, 6, 25, 6, 43, 182, 0, 98, 153, 0, 14, 25, 6, 182, 0, 166, 153, 0, 6, 25, 6, 176, 132, 5, 1, 167, 255, 220, 43, 180, 0, 64, 199, 0, 10, 42, 180, 0, 14, 167, 0, 7, 43, 180, 0, 64, 176]
theorem hb_291 : prog_7_method_23_code.data.toList.map UInt8.toNat = bl_291 := dk_eq_t _ _ (by decide +kernel)
def bl_292 : List Nat := [43, 44, 182, 0, 108, 43, 89, 180, 0, 175, 4, 96, 181, 0, 175, 42, 89, 180, 0, 41, 4, 96, 181, 0, 41, 44, 42, 180, 0, 14, 166, 0, 13, 42, 89, 180, 0, 44, 4, 96, 181, 0, 44, 177]
theorem hb_292 : prog_7_method_24_code.data.toList.map UInt8.toNat = bl_292 := dk_eq_t _ _ (by decide +kernel)
def bl_293 : List Nat := [43, 180, 0, 64, 77, 44, 199, 0, 8, 42, 180, 0, 14, 176, 1, 78, 3, 54, 4, 21, 4, 8, 162, 0, 108, 45, 199, 0, 104, 42, 180, 0, 28, 21, 4, 46, 170, 0, 0, 0, 0, 0, 0, 88, 0, 0, 0, 0, 0, 0, 0, 4, 0, 0, 0, 36, 0, 0, 0, 46, 0, 0, 0, 57, 0, 0, 0, 68, 0, 0, 0, 78, 42, 43, 44, 182, 0, 178, 78, 167, 0, 45, 42, 43, 44, 4, 182, 0, 181, 78, 167, 0, 34, 42, 43, 44, 3, 182, 0, 181, 78, 167, 0, 23, 42, 43, 44, 182, 0, 185, 78, 167, 0, 13, 42, 43, 44, 182, 0, 188, 78, 167, 0, 3, 132, 4, 1, 167, 255, 148, 45, 199, 0, 10, 42, 180, 0, 14, 167, 0, 4, 45, 176]
theorem hb_293 : prog_7_method_25_code.data.toList.map UInt8.toNat = bl_293 := dk_eq_t _ _ (by decide +kernel)
def bl_294 : List Nat := [44, 180, 0, 64, 78, 45, 198, 0, 22, 42, 45, 43, 182, 0, 191, 153, 0, 5, 45, 176, 45, 180, 0, 64, 78, 167, 255, 236, 1, 176]
theorem hb_294 : prog_7_method_26_code.data.toList.map UInt8.toNat = bl_294 := dk_eq_t _ _ (by decide +kernel)
def bl_295 : List Nat := [1, 58, 4, 42, 180, 0, 20, 58, 5, 25, 5, 190, 54, 6, 3, 54, 7, 21, 7, 21, 6, 162, 0, 94, 25, 5, 21, 7, 50, 58, 8, 25, 8, 44, 165, 0, 23, 29, 153, 0, 15, 25, 8, 180, 0, 149, 43, 180, 0, 149, 160, 0, 7, 4, 167, 0, 4, 3, 54, 9, 25, 4, 198, 0, 16, 25, 8, 182, 0, 125, 25, 4, 182, 0, 125, 164, 0, 7, 4, 167, 0, 4, 3, 54, 10, 21, 9, 153, 0, 22, 21, 10, 153, 0, 17, 42, 25, 8, 43, 182, 0, 191, 153, 0, 7, 25, 8, 58, 4, 132, 7, 1, 167, 255, 161, 25, 4, 176]
theorem hb_295 : prog_7_method_27_code.data.toList.map UInt8.toNat = bl_295 := dk_eq_t _ _ (by decide +kernel)
def bl_296 : List Nat := [44, 180, 0, 64, 78, 42, 180, 0, 20, 58, 4, 25, 4, 190, 54, 5, 3, 54, 6, 21, 6, 21, 5, 162, 0, 48, 25, 4, 21, 6, 50, 58, 7, 45, 198, 0, 31, 25, 7, 44, 165, 0, 25, 25, 7, 45, 182, 0, 98, 153, 0, 16, 42, 25, 7, 43, 182, 0, 191, 153, 0, 6, 25, 7, 176, 132, 6, 1, 167, 255, 207, 1, 176]
theorem hb_296 : prog_7_method_28_code.data.toList.map UInt8.toNat = bl_296 := dk_eq_t _ _ (by decide +kernel)
def bl_297 : List Nat := [42, 180, 0, 20, 78, 45, 190, 54, 4, 3, 54, 5, 21, 5, 21, 4, 162, 0, 34, 45, 21, 5, 50, 58, 6, 25, 6, 44, 165, 0, 16, 42, 25, 6, 43, 182, 0, 191, 153, 0, 6, 25, 6, 176, 132, 5, 1, 167, 255, 221, 1, 176]
theorem hb_297 : prog_7_method_29_code.data.toList.map UInt8.toNat = bl_297 := dk_eq_t _ _ (by decide +kernel)
def bl_298 : List Nat := [43, 182, 0, 195, 153, 0, 33, 43, 180, 0, 139, 154, 0, 26, 43, 44, 165, 0, 21, 43, 44, 180, 0, 149, 182, 0, 198, 154, 0, 10, 43, 182, 0, 125, 154, 0, 5, 3, 172, 43, 182, 0, 94, 42, 180, 0, 31, 162, 0, 15, 44, 43, 182, 0, 83, 154, 0, 7, 4, 167, 0, 4, 3, 172]
theorem hb_298 : prog_7_method_30_code.data.toList.map UInt8.toNat = bl_298 := dk_eq_t _ _ (by decide +kernel)
def bl_299 : List Nat := [42, 180, 0, 20, 78, 45, 190, 54, 4, 3, 54, 5, 21, 5, 21, 4, 162, 0, 42, 45, 21, 5, 50, 58, 6, 25, 6, 25, 6, 182, 0, 195, 153, 0, 16, 25, 6, 180, 0, 149, 27, 160, 0, 7, 4, 167, 0, 4, 3, 181, 0, 139, 132, 5, 1, 167, 255, 213, 3, 62, 42, 180, 0, 20, 58, 4, 25, 4, 190, 54, 5, 3, 54, 6, 21, 6, 21, 5, 162, 0, 35, 25, 4, 21, 6, 50, 58, 7, 25, 7, 180, 0, 139, 153, 0, 14, 42, 25, 7, 28, 182, 0, 202, 87, 132, 3, 1, 132, 6, 1, 167, 255, 220, 42, 180, 0, 20, 58, 4, 25, 4, 190, 54, 5, 3, 54, 6, 21, 6, 21, 5, 162, 0, 22, 25, 4, 21, 6, 50, 58, 7, 25, 7, 3, 181, 0, 139, 132, 6, 1, 167, 255, 233, 29, 172]
theorem hb_299 : prog_7_method_31_code.data.toList.map UInt8.toNat = bl_299 := dk_eq_t _ _ (by decide +kernel)
def bl_300 : List Nat := [3, 62, 42, 180, 0, 20, 58, 4, 25, 4, 190, 54, 5, 3, 54, 6, 21, 6, 21, 5, 162, 0, 49, 25, 4, 21, 6, 50, 58, 7, 25, 7, 43, 182, 0, 98, 153, 0, 27, 25, 7, 180, 0, 149, 28, 160, 0, 18, 42, 25, 7, 42, 25, 7, 182, 0, 128, 182, 0, 132, 132, 3, 1, 132, 6, 1, 167, 255, 206, 29, 172]
theorem hb_300 : prog_7_method_32_code.data.toList.map UInt8.toNat = bl_300 := dk_eq_t _ _ (by decide +kernel)
def bl_301 : List Nat := [3, 61, 16, 39, 62, 29, 155, 0, 56, 43, 180, 0, 114, 43, 180, 0, 146, 164, 0, 39, 42, 180, 0, 20, 29, 50, 43, 182, 0, 98, 153, 0, 26, 42, 42, 180, 0, 20, 29, 50, 42, 42, 180, 0, 20, 29, 50, 182, 0, 128, 182, 0, 132, 132, 2, 1, 132, 3, 255, 167, 255, 202, 28, 172]
theorem hb_301 : prog_7_method_33_code.data.toList.map UInt8.toNat = bl_301 := dk_eq_t _ _ (by decide +kernel)
def bl_302 : List Nat := [3, 61, 42, 180, 0, 20, 78, 45, 190, 54, 4, 3, 54, 5, 21, 5, 21, 4, 162, 0, 38, 45, 21, 5, 50, 58, 6, 25, 6, 43, 182, 0, 87, 153, 0, 17, 25, 6, 5, 181, 0, 80, 28, 25, 6, 180, 0, 111, 96, 61, 132, 5, 1, 167, 255, 217, 28, 172]
theorem hb_302 : prog_7_method_34_code.data.toList.map UInt8.toNat = bl_302 := dk_eq_t _ _ (by decide +kernel)
def bl_303 : List Nat := [3, 62, 42, 43, 182, 0, 206, 58, 4, 25, 4, 198, 0, 30, 29, 16, 40, 162, 0, 24, 42, 25, 4, 28, 182, 0, 202, 87, 132, 3, 1, 42, 43, 182, 0, 206, 58, 4, 167, 255, 227, 29, 172]
theorem hb_303 : prog_7_method_35_code.data.toList.map UInt8.toNat = bl_303 := dk_eq_t _ _ (by decide +kernel)
def bl_304 : List Nat := [1, 77, 42, 180, 0, 20, 78, 45, 190, 54, 4, 3, 54, 5, 21, 5, 21, 4, 162, 0, 51, 45, 21, 5, 50, 58, 6, 25, 6, 182, 0, 90, 153, 0, 31, 43, 25, 6, 182, 0, 83, 153, 0, 22, 44, 198, 0, 15, 25, 6, 182, 0, 94, 44, 182, 0, 94, 161, 0, 6, 25, 6, 77, 132, 5, 1, 167, 255, 204, 44, 176]
theorem hb_304 : prog_7_method_36_code.data.toList.map UInt8.toNat = bl_304 := dk_eq_t _ _ (by decide +kernel)
def bl_305 : List Nat := [44, 3, 42, 27, 182, 0, 7, 133, 80, 167, 0, 6, 78, 4, 172, 3, 172]
theorem hb_305 : method_3_code.data.toList.map UInt8.toNat = bl_305 := dk_eq_t _ _ (by decide +kernel)
def bl_306 : List Nat := [45, 3, 42, 27, 28, 182, 0, 15, 133, 80, 167, 0, 11, 58, 4, 4, 172, 58, 4, 5, 172, 3, 172]
theorem hb_306 : method_4_code.data.toList.map UInt8.toNat = bl_306 := dk_eq_t _ _ (by decide +kernel)
def bl_307 : List Nat := [44, 3, 42, 27, 182, 0, 21, 133, 80, 167, 0, 6, 78, 4, 172, 3, 172]
theorem hb_307 : method_5_code.data.toList.map UInt8.toNat = bl_307 := dk_eq_t _ _ (by decide +kernel)
def bl_308 : List Nat := [44, 3, 42, 27, 182, 0, 24, 133, 80, 167, 0, 9, 78, 4, 172, 78, 5, 172, 3, 172]
theorem hb_308 : method_6_code.data.toList.map UInt8.toNat = bl_308 := dk_eq_t _ _ (by decide +kernel)
def bl_309 : List Nat := [45, 3, 42, 27, 28, 182, 0, 29, 153, 0, 7, 10, 167, 0, 4, 9, 80, 167, 0, 7, 58, 4, 4, 172, 3, 172]
theorem hb_309 : method_7_code.data.toList.map UInt8.toNat = bl_309 := dk_eq_t _ _ (by decide +kernel)
def bl_310 : List Nat := [45, 3, 42, 27, 28, 182, 0, 33, 133, 80, 167, 0, 11, 58, 4, 4, 172, 58, 4, 5, 172, 3, 172]
theorem hb_310 : method_8_code.data.toList.map UInt8.toNat = bl_310 := dk_eq_t _ _ (by decide +kernel)
def bl_311 : List Nat := [44, 3, 42, 27, 182, 0, 36, 133, 80, 167, 0, 6, 78, 4, 172, 3, 172]
theorem hb_311 : method_9_code.data.toList.map UInt8.toNat = bl_311 := dk_eq_t _ _ (by decide +kernel)
def bl_312 : List Nat := [44, 3, 42, 27, 182, 0, 39, 133, 80, 167, 0, 6, 78, 4, 172, 3, 172]
theorem hb_312 : method_10_code.data.toList.map UInt8.toNat = bl_312 := dk_eq_t _ _ (by decide +kernel)
def bl_313 : List Nat := [25, 5, 3, 42, 27, 28, 29, 21, 4, 182, 0, 44, 133, 80, 167, 0, 15, 58, 6, 4, 172, 58, 6, 5, 172, 58, 6, 6, 172, 3, 172]
theorem hb_313 : method_11_code.data.toList.map UInt8.toNat = bl_313 := dk_eq_t _ _ (by decide +kernel)
def bl_314 : List Nat := [45, 3, 42, 27, 28, 182, 0, 48, 133, 80, 167, 0, 15, 58, 4, 4, 172, 58, 4, 5, 172, 58, 4, 6, 172, 3, 172]
theorem hb_314 : method_12_code.data.toList.map UInt8.toNat = bl_314 := dk_eq_t _ _ (by decide +kernel)
def bl_315 : List Nat := [45, 3, 42, 27, 28, 182, 0, 51, 133, 80, 167, 0, 7, 58, 4, 4, 172, 3, 172]
theorem hb_315 : method_13_code.data.toList.map UInt8.toNat = bl_315 := dk_eq_t _ _ (by decide +kernel)
def bl_316 : List Nat := [44, 3, 42, 27, 182, 0, 54, 133, 80, 167, 0, 12, 78, 4, 172, 78, 5, 172, 78, 6, 172, 3, 172]
theorem hb_316 : method_14_code.data.toList.map UInt8.toNat = bl_316 := dk_eq_t _ _ (by decide +kernel)
def bl_317 : List Nat := [45, 3, 42, 27, 28, 182, 0, 57, 133, 80, 167, 0, 15, 58, 4, 4, 172, 58, 4, 5, 172, 58, 4, 6, 172, 3, 172]
theorem hb_317 : method_15_code.data.toList.map UInt8.toNat = bl_317 := dk_eq_t _ _ (by decide +kernel)
def bl_318 : List Nat := [45, 3, 42, 27, 28, 182, 0, 60, 153, 0, 7, 10, 167, 0, 4, 9, 80, 167, 0, 15, 58, 4, 4, 172, 58, 4, 5, 172, 58, 4, 6, 172, 3, 172]
theorem hb_318 : method_16_code.data.toList.map UInt8.toNat = bl_318 := dk_eq_t _ _ (by decide +kernel)
def bl_319 : List Nat := [45, 3, 42, 27, 28, 182, 0, 63, 133, 80, 167, 0, 11, 58, 4, 4, 172, 58, 4, 5, 172, 3, 172]
theorem hb_319 : method_17_code.data.toList.map UInt8.toNat = bl_319 := dk_eq_t _ _ (by decide +kernel)
def bl_320 : List Nat := [45, 3, 42, 27, 28, 182, 0, 66, 133, 80, 167, 0, 15, 58, 4, 4, 172, 58, 4, 5, 172, 58, 4, 6, 172, 3, 172]
theorem hb_320 : method_18_code.data.toList.map UInt8.toNat = bl_320 := dk_eq_t _ _ (by decide +kernel)
def bl_321 : List Nat := [45, 3, 42, 27, 28, 182, 0, 69, 133, 80, 167, 0, 15, 58, 4, 4, 172, 58, 4, 5, 172, 58, 4, 6, 172, 3, 172]
theorem hb_321 : method_19_code.data.toList.map UInt8.toNat = bl_321 := dk_eq_t _ _ (by decide +kernel)
def bl_322 : List Nat := [45, 3, 42, 27, 28, 182, 0, 72, 133, 80, 167, 0, 15, 58, 4, 4, 172, 58, 4, 5, 172, 58, 4, 6, 172, 3, 172]
theorem hb_322 : method_20_code.data.toList.map UInt8.toNat = bl_322 := dk_eq_t _ _ (by decide +kernel)
def bl_323 : List Nat := [45, 3, 42, 27, 28, 182, 0, 75, 133, 80, 167, 0, 15, 58, 4, 4, 172, 58, 4, 5, 172, 58, 4, 6, 172, 3, 172]
theorem hb_323 : method_21_code.data.toList.map UInt8.toNat = bl_323 := dk_eq_t _ _ (by decide +kernel)
def bl_324 : List Nat := [44, 3, 42, 27, 182, 0, 78, 133, 80, 167, 0, 9, 78, 4, 172, 78, 5, 172, 3, 172]
theorem hb_324 : method_22_code.data.toList.map UInt8.toNat = bl_324 := dk_eq_t _ _ (by decide +kernel)
def bl_325 : List Nat := [44, 3, 42, 27, 182, 0, 81, 133, 80, 167, 0, 9, 78, 4, 172, 78, 5, 172, 3, 172]
theorem hb_325 : method_23_code.data.toList.map UInt8.toNat = bl_325 := dk_eq_t _ _ (by decide +kernel)
def bl_326 : List Nat := [45, 3, 42, 27, 28, 182, 0, 84, 133, 80, 167, 0, 15, 58, 4, 4, 172, 58, 4, 5, 172, 58, 4, 6, 172, 3, 172]
theorem hb_326 : method_24_code.data.toList.map UInt8.toNat = bl_326 := dk_eq_t _ _ (by decide +kernel)
def bl_327 : List Nat := [45, 3, 42, 27, 28, 182, 0, 87, 133, 80, 167, 0, 15, 58, 4, 4, 172, 58, 4, 5, 172, 58, 4, 6, 172, 3, 172]
theorem hb_327 : method_25_code.data.toList.map UInt8.toNat = bl_327 := dk_eq_t _ _ (by decide +kernel)
def bl_328 : List Nat := [25, 4, 3, 42, 27, 28, 29, 182, 0, 90, 133, 80, 167, 0, 15, 58, 5, 4, 172, 58, 5, 5, 172, 58, 5, 6, 172, 3, 172]
theorem hb_328 : method_26_code.data.toList.map UInt8.toNat = bl_328 := dk_eq_t _ _ (by decide +kernel)
def bl_329 : List Nat := [45, 3, 42, 27, 28, 182, 0, 94, 133, 80, 167, 0, 7, 58, 4, 4, 172, 3, 172]
theorem hb_329 : method_27_code.data.toList.map UInt8.toNat = bl_329 := dk_eq_t _ _ (by decide +kernel)
def bl_330 : List Nat := [44, 3, 42, 27, 182, 0, 97, 133, 80, 167, 0, 6, 78, 4, 172, 3, 172]
theorem hb_330 : method_28_code.data.toList.map UInt8.toNat = bl_330 := dk_eq_t _ _ (by decide +kernel)
def bl_331 : List Nat := [44, 3, 42, 27, 182, 0, 100, 133, 80, 167, 0, 6, 78, 4, 172, 3, 172]
theorem hb_331 : method_29_code.data.toList.map UInt8.toNat = bl_331 := dk_eq_t _ _ (by decide +kernel)
def bl_332 : List Nat := [44, 3, 42, 27, 182, 0, 103, 133, 80, 167, 0, 6, 78, 4, 172, 3, 172]
theorem hb_332 : method_30_code.data.toList.map UInt8.toNat = bl_332 := dk_eq_t _ _ (by decide +kernel)
def bl_333 : List Nat := [44, 3, 42, 27, 182, 0, 106, 133, 80, 167, 0, 6, 78, 4, 172, 3, 172]
theorem hb_333 : method_31_code.data.toList.map UInt8.toNat = bl_333 := dk_eq_t _ _ (by decide +kernel)
def bl_334 : List Nat := [44, 3, 42, 27, 182, 0, 109, 133, 80, 167, 0, 6, 78, 4, 172, 3, 172]
theorem hb_334 : method_32_code.data.toList.map UInt8.toNat = bl_334 := dk_eq_t _ _ (by decide +kernel)
def bl_335 : List Nat := [45, 3, 42, 27, 28, 182, 0, 112, 133, 80, 167, 0, 15, 58, 4, 4, 172, 58, 4, 5, 172, 58, 4, 6, 172, 3, 172]
theorem hb_335 : method_33_code.data.toList.map UInt8.toNat = bl_335 := dk_eq_t _ _ (by decide +kernel)
def bl_336 : List Nat := [45, 3, 42, 27, 28, 182, 0, 115, 133, 80, 167, 0, 11, 58, 4, 4, 172, 58, 4, 5, 172, 3, 172]
theorem hb_336 : method_34_code.data.toList.map UInt8.toNat = bl_336 := dk_eq_t _ _ (by decide +kernel)
def bl_337 : List Nat := [44, 3, 42, 27, 182, 0, 118, 133, 80, 167, 0, 9, 78, 4, 172, 78, 5, 172, 3, 172]
theorem hb_337 : method_35_code.data.toList.map UInt8.toNat = bl_337 := dk_eq_t _ _ (by decide +kernel)
def bl_338 : List Nat := [44, 3, 42, 27, 182, 0, 121, 133, 80, 167, 0, 6, 78, 4, 172, 3, 172]
theorem hb_338 : method_36_code.data.toList.map UInt8.toNat = bl_338 := dk_eq_t _ _ (by decide +kernel)
def bl_339 : List Nat := [44, 3, 42, 27, 182, 0, 124, 133, 80, 167, 0, 6, 78, 4, 172, 3, 172]
theorem hb_339 : method_37_code.data.toList.map UInt8.toNat = bl_339 := dk_eq_t _ _ (by decide +kernel)
def bl_340 : List Nat := [44, 3, 42, 27, 182, 0, 127, 133, 80, 167, 0, 9, 78, 4, 172, 78, 5, 172, 3, 172]
theorem hb_340 : method_38_code.data.toList.map UInt8.toNat = bl_340 := dk_eq_t _ _ (by decide +kernel)
def bl_341 : List Nat := [44, 3, 42, 27, 182, 0, 130, 133, 80, 167, 0, 9, 78, 4, 172, 78, 5, 172, 3, 172]
theorem hb_341 : method_39_code.data.toList.map UInt8.toNat = bl_341 := dk_eq_t _ _ (by decide +kernel)
def bl_342 : List Nat := [45, 3, 42, 27, 28, 182, 0, 133, 133, 80, 167, 0, 7, 58, 4, 4, 172, 3, 172]
theorem hb_342 : method_40_code.data.toList.map UInt8.toNat = bl_342 := dk_eq_t _ _ (by decide +kernel)
def bl_343 : List Nat := [45, 3, 42, 27, 28, 182, 0, 136, 133, 80, 167, 0, 11, 58, 4, 4, 172, 58, 4, 5, 172, 3, 172]
theorem hb_343 : method_41_code.data.toList.map UInt8.toNat = bl_343 := dk_eq_t _ _ (by decide +kernel)
def bl_344 : List Nat := [44, 3, 42, 27, 182, 0, 139, 133, 80, 167, 0, 9, 78, 4, 172, 78, 5, 172, 3, 172]
theorem hb_344 : method_42_code.data.toList.map UInt8.toNat = bl_344 := dk_eq_t _ _ (by decide +kernel)
def bl_345 : List Nat := [25, 4, 3, 42, 27, 28, 29, 182, 0, 142, 133, 80, 167, 0, 15, 58, 5, 4, 172, 58, 5, 5, 172, 58, 5, 6, 172, 3, 172]
theorem hb_345 : method_43_code.data.toList.map UInt8.toNat = bl_345 := dk_eq_t _ _ (by decide +kernel)
def bl_346 : List Nat := [44, 3, 42, 27, 182, 0, 145, 133, 80, 167, 0, 6, 78, 4, 172, 3, 172]
theorem hb_346 : method_44_code.data.toList.map UInt8.toNat = bl_346 := dk_eq_t _ _ (by decide +kernel)
def bl_347 : List Nat := [44, 3, 42, 27, 182, 0, 148, 133, 80, 167, 0, 6, 78, 4, 172, 3, 172]
theorem hb_347 : method_45_code.data.toList.map UInt8.toNat = bl_347 := dk_eq_t _ _ (by decide +kernel)
def bl_348 : List Nat := [44, 3, 42, 27, 182, 0, 151, 133, 80, 167, 0, 6, 78, 4, 172, 3, 172]
theorem hb_348 : method_46_code.data.toList.map UInt8.toNat = bl_348 := dk_eq_t _ _ (by decide +kernel)
def bl_349 : List Nat := [44, 3, 42, 27, 182, 0, 154, 133, 80, 167, 0, 6, 78, 4, 172, 3, 172]
theorem hb_349 : method_47_code.data.toList.map UInt8.toNat = bl_349 := dk_eq_t _ _ (by decide +kernel)
def bl_350 : List Nat := [45, 3, 42, 27, 28, 182, 0, 157, 133, 80, 167, 0, 15, 58, 4, 4, 172, 58, 4, 5, 172, 58, 4, 6, 172, 3, 172]
theorem hb_350 : method_48_code.data.toList.map UInt8.toNat = bl_350 := dk_eq_t _ _ (by decide +kernel)
def bl_351 : List Nat := [43, 3, 42, 182, 0, 160, 133, 80, 167, 0, 6, 77, 4, 172, 3, 172]
theorem hb_351 : method_49_code.data.toList.map UInt8.toNat = bl_351 := dk_eq_t _ _ (by decide +kernel)
def bl_353 : List Nat := [26, 26, 4, 124, 19, 1, 9, 126, 100, 59, 26, 19, 1, 10, 126, 26, 5, 124, 19, 1, 10, 126, 96, 59, 26, 26, 7, 124, 96, 19, 1, 11, 126, 59, 26, 26, 16, 8, 124, 96, 59, 26, 26, 16, 16, 124, 96, 59, 26, 16, 63, 126, 172]
theorem hb_353 : prog_17_method_49_code.data.toList.map UInt8.toNat = bl_353 := dk_eq_t _ _ (by decide +kernel)
