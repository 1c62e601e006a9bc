/-! ===== instructions decoded from a method's bytes, all of a method by one yes or no (own work, by program: wip/p2/gen3.py) ===== -/
noncomputable def bx (L : List Nat) : Nat → Nat → Bool :=
  List.rec (motive := fun _ => Nat → Nat → Bool) (fun _ _ => false) (fun x _ ih i b => Nat.rec (motive := fun _ => Bool) (Nat.beq x b) (fun k _ => ih k b) i) L
theorem bx_t {L : List Nat} : ∀ {i b : Nat}, bx L i b = true → L[i]? = some b := by
  induction L with
  | nil => intro i b h; exact absurd h (fun z => by cases z)
  | cons x t ih =>
    intro i b h
    cases i with
    | zero =>
      have h : Nat.beq x b = true := h
      rw [Nat.eq_of_beq_eq_true h]
      rfl
    | succ k =>
      have h : bx t k b = true := h
      rw [List.getElem?_cons_succ]
      exact ih h
theorem bx_2 {a b : Prop} {x y : Bool} (ha : x = true → a) (hb : y = true → b) (h : (x && y) = true) : a ∧ b := by
  rw [Bool.and_eq_true] at h
  exact ⟨ha h.1, hb h.2⟩
section DQB
variable {c : ByteArray} {L : List Nat} {pc a i : Nat}
theorem dk_s1 (h0 : DB c i a) : (Jvm.ClassFile.Reader.s1 : Jvm.ClassFile.Decoder Int) c i = .ok (Jvm.ClassFile.Reader.signed 8 a, i + 1) := by
  show Except.bind ((Jvm.ClassFile.Reader.u1 : Jvm.ClassFile.Decoder Nat) c i) (fun z => Except.ok (Jvm.ClassFile.Reader.signed 8 z.1, z.2)) = _
  rw [dk_u1 h0]
  rfl
set_option maxRecDepth 100000 in
theorem dq_42 (hL : c.data.toList.map UInt8.toNat = L) (h : bx L pc 42 = true) : decode c pc = .ok (.aload_n 0, 1) := by
  have h0 : DB c pc 42 := dk_bt hL (bx_t h)
  have e : Jvm.ClassFile.Decoder.instr pc c pc = .ok (.aload_n 0, pc + 1) := by
    unfold Jvm.ClassFile.Decoder.instr
    refine (dk_bind (dk_u1 h0)).trans ?_
    rfl
  rw [dk_dec e, show pc + 1 - pc = 1 by omega]
set_option maxRecDepth 100000 in
theorem dq_183 {b : Nat} {ix : Nat} (hL : c.data.toList.map UInt8.toNat = L) (h : (bx L pc 183 && (bx L (pc + 1) a && (bx L (pc + 1 + 1) b && decide (a * 256 + b = ix)))) = true) : decode c pc = .ok (.invokespecial ix, 3) := by
  simp only [Bool.and_eq_true, decide_eq_true_eq] at h
  have h0 : DB c pc 183 := dk_bt hL (bx_t h.1)
  have h1 : DB c (pc + 1) a := dk_bt hL (bx_t h.2.1)
  have h2 : DB c (pc + 1 + 1) b := dk_bt hL (bx_t h.2.2.1)
  have e : Jvm.ClassFile.Decoder.instr pc c pc = .ok (.invokespecial ix, pc + 1 + 2) := by
    unfold Jvm.ClassFile.Decoder.instr
    refine (dk_bind (dk_u1 h0)).trans ?_
    show ((Jvm.ClassFile.Reader.u2 >>= fun x => pure (.invokespecial x)) : Jvm.ClassFile.Decoder Jvm.ClassFile.Instr) c (pc + 1) = _
    rw [dk_bind (dk_u2 h1 h2), h.2.2.2]
    rfl
  rw [dk_dec e, show pc + 1 + 2 - pc = 3 by omega]
set_option maxRecDepth 100000 in
theorem dq_89 (hL : c.data.toList.map UInt8.toNat = L) (h : bx L pc 89 = true) : decode c pc = .ok (.dup, 1) := by
  have h0 : DB c pc 89 := dk_bt hL (bx_t h)
  have e : Jvm.ClassFile.Decoder.instr pc c pc = .ok (.dup, pc + 1) := by
    unfold Jvm.ClassFile.Decoder.instr
    refine (dk_bind (dk_u1 h0)).trans ?_
    rfl
  rw [dk_dec e, show pc + 1 - pc = 1 by omega]
set_option maxRecDepth 100000 in
theorem dq_181 {b : Nat} {ix : Nat} (hL : c.data.toList.map UInt8.toNat = L) (h : (bx L pc 181 && (bx L (pc + 1) a && (bx L (pc + 1 + 1) b && decide (a * 256 + b = ix)))) = true) : decode c pc = .ok (.putfield ix, 3) := by
  simp only [Bool.and_eq_true, decide_eq_true_eq] at h
  have h0 : DB c pc 181 := dk_bt hL (bx_t h.1)
  have h1 : DB c (pc + 1) a := dk_bt hL (bx_t h.2.1)
  have h2 : DB c (pc + 1 + 1) b := dk_bt hL (bx_t h.2.2.1)
  have e : Jvm.ClassFile.Decoder.instr pc c pc = .ok (.putfield ix, pc + 1 + 2) := by
    unfold Jvm.ClassFile.Decoder.instr
    refine (dk_bind (dk_u1 h0)).trans ?_
    show ((Jvm.ClassFile.Reader.u2 >>= fun x => pure (.putfield x)) : Jvm.ClassFile.Decoder Jvm.ClassFile.Instr) c (pc + 1) = _
    rw [dk_bind (dk_u2 h1 h2), h.2.2.2]
    rfl
  rw [dk_dec e, show pc + 1 + 2 - pc = 3 by omega]
set_option maxRecDepth 100000 in
theorem dq_3 (hL : c.data.toList.map UInt8.toNat = L) (h : bx L pc 3 = true) : decode c pc = .ok (.iconst 0, 1) := by
  have h0 : DB c pc 3 := dk_bt hL (bx_t h)
  have e : Jvm.ClassFile.Decoder.instr pc c pc = .ok (.iconst 0, pc + 1) := by
    unfold Jvm.ClassFile.Decoder.instr
    refine (dk_bind (dk_u1 h0)).trans ?_
    rfl
  rw [dk_dec e, show pc + 1 - pc = 1 by omega]
set_option maxRecDepth 100000 in
theorem dq_177 (hL : c.data.toList.map UInt8.toNat = L) (h : bx L pc 177 = true) : decode c pc = .ok (.return_, 1) := by
  have h0 : DB c pc 177 := dk_bt hL (bx_t h)
  have e : Jvm.ClassFile.Decoder.instr pc c pc = .ok (.return_, pc + 1) := by
    unfold Jvm.ClassFile.Decoder.instr
    refine (dk_bind (dk_u1 h0)).trans ?_
    rfl
  rw [dk_dec e, show pc + 1 - pc = 1 by omega]
set_option maxRecDepth 100000 in
theorem dq_180 {b : Nat} {ix : Nat} (hL : c.data.toList.map UInt8.toNat = L) (h : (bx L pc 180 && (bx L (pc + 1) a && (bx L (pc + 1 + 1) b && decide (a * 256 + b = ix)))) = true) : decode c pc = .ok (.getfield ix, 3) := by
  simp only [Bool.and_eq_true, decide_eq_true_eq] at h
  have h0 : DB c pc 180 := dk_bt hL (bx_t h.1)
  have h1 : DB c (pc + 1) a := dk_bt hL (bx_t h.2.1)
  have h2 : DB c (pc + 1 + 1) b := dk_bt hL (bx_t h.2.2.1)
  have e : Jvm.ClassFile.Decoder.instr pc c pc = .ok (.getfield ix, pc + 1 + 2) := by
    unfold Jvm.ClassFile.Decoder.instr
    refine (dk_bind (dk_u1 h0)).trans ?_
    show ((Jvm.ClassFile.Reader.u2 >>= fun x => pure (.getfield x)) : Jvm.ClassFile.Decoder Jvm.ClassFile.Instr) c (pc + 1) = _
    rw [dk_bind (dk_u2 h1 h2), h.2.2.2]
    rfl
  rw [dk_dec e, show pc + 1 + 2 - pc = 3 by omega]
set_option maxRecDepth 100000 in
theorem dq_58 (hL : c.data.toList.map UInt8.toNat = L) (h : (bx L pc 58 && bx L (pc + 1) a) = true) : decode c pc = .ok (.astore a, 2) := by
  simp only [Bool.and_eq_true] at h
  have h0 : DB c pc 58 := dk_bt hL (bx_t h.1)
  have h1 : DB c (pc + 1) a := dk_bt hL (bx_t h.2)
  have e : Jvm.ClassFile.Decoder.instr pc c pc = .ok (.astore a, pc + 1 + 1) := by
    unfold Jvm.ClassFile.Decoder.instr
    refine (dk_bind (dk_u1 h0)).trans ?_
    show ((Jvm.ClassFile.Reader.u1 >>= fun x => pure (.astore x)) : Jvm.ClassFile.Decoder Jvm.ClassFile.Instr) c (pc + 1) = _
    rw [dk_bind (dk_u1 h1)]
    rfl
  rw [dk_dec e, show pc + 1 + 1 - pc = 2 by omega]
set_option maxRecDepth 100000 in
theorem dq_25 (hL : c.data.toList.map UInt8.toNat = L) (h : (bx L pc 25 && bx L (pc + 1) a) = true) : decode c pc = .ok (.aload a, 2) := by
  simp only [Bool.and_eq_true] at h
  have h0 : DB c pc 25 := dk_bt hL (bx_t h.1)
  have h1 : DB c (pc + 1) a := dk_bt hL (bx_t h.2)
  have e : Jvm.ClassFile.Decoder.instr pc c pc = .ok (.aload a, pc + 1 + 1) := by
    unfold Jvm.ClassFile.Decoder.instr
    refine (dk_bind (dk_u1 h0)).trans ?_
    show ((Jvm.ClassFile.Reader.u1 >>= fun x => pure (.aload x)) : Jvm.ClassFile.Decoder Jvm.ClassFile.Instr) c (pc + 1) = _
    rw [dk_bind (dk_u1 h1)]
    rfl
  rw [dk_dec e, show pc + 1 + 1 - pc = 2 by omega]
set_option maxRecDepth 100000 in
theorem dq_16 {ix : Int} (hL : c.data.toList.map UInt8.toNat = L) (h : (bx L pc 16 && (bx L (pc + 1) a && decide (Jvm.ClassFile.Reader.signed 8 a = ix))) = true) : decode c pc = .ok (.bipush ix, 2) := by
  simp only [Bool.and_eq_true, decide_eq_true_eq] at h
  have h0 : DB c pc 16 := dk_bt hL (bx_t h.1)
  have h1 : DB c (pc + 1) a := dk_bt hL (bx_t h.2.1)
  have e : Jvm.ClassFile.Decoder.instr pc c pc = .ok (.bipush ix, pc + 1 + 1) := by
    unfold Jvm.ClassFile.Decoder.instr
    refine (dk_bind (dk_u1 h0)).trans ?_
    show ((Jvm.ClassFile.Reader.s1 >>= fun x => pure (.bipush x)) : Jvm.ClassFile.Decoder Jvm.ClassFile.Instr) c (pc + 1) = _
    rw [dk_bind (dk_s1 h1), h.2.2]
    rfl
  rw [dk_dec e, show pc + 1 + 1 - pc = 2 by omega]
set_option maxRecDepth 100000 in
theorem dq_96 (hL : c.data.toList.map UInt8.toNat = L) (h : bx L pc 96 = true) : decode c pc = .ok (.iadd, 1) := by
  have h0 : DB c pc 96 := dk_bt hL (bx_t h)
  have e : Jvm.ClassFile.Decoder.instr pc c pc = .ok (.iadd, pc + 1) := by
    unfold Jvm.ClassFile.Decoder.instr
    refine (dk_bind (dk_u1 h0)).trans ?_
    rfl
  rw [dk_dec e, show pc + 1 - pc = 1 by omega]
set_option maxRecDepth 100000 in
theorem dq_17 {b : Nat} {ix : Int} (hL : c.data.toList.map UInt8.toNat = L) (h : (bx L pc 17 && (bx L (pc + 1) a && (bx L (pc + 1 + 1) b && decide (Jvm.ClassFile.Reader.signed 16 (a * 256 + b) = ix)))) = true) : decode c pc = .ok (.sipush ix, 3) := by
  simp only [Bool.and_eq_true, decide_eq_true_eq] at h
  have h0 : DB c pc 17 := dk_bt hL (bx_t h.1)
  have h1 : DB c (pc + 1) a := dk_bt hL (bx_t h.2.1)
  have h2 : DB c (pc + 1 + 1) b := dk_bt hL (bx_t h.2.2.1)
  have e : Jvm.ClassFile.Decoder.instr pc c pc = .ok (.sipush ix, pc + 1 + 2) := by
    unfold Jvm.ClassFile.Decoder.instr
    refine (dk_bind (dk_u1 h0)).trans ?_
    show ((Jvm.ClassFile.Reader.s2 >>= fun x => pure (.sipush x)) : Jvm.ClassFile.Decoder Jvm.ClassFile.Instr) c (pc + 1) = _
    rw [dk_bind (dk_s2 h1 h2), h.2.2.2]
    rfl
  rw [dk_dec e, show pc + 1 + 2 - pc = 3 by omega]
set_option maxRecDepth 100000 in
theorem dq_164 {b : Nat} {ix : Int} (hL : c.data.toList.map UInt8.toNat = L) (h : (bx L pc 164 && (bx L (pc + 1) a && (bx L (pc + 1 + 1) b && decide (Jvm.ClassFile.Reader.signed 16 (a * 256 + b) = ix)))) = true) : decode c pc = .ok (.if_icmp .le ix, 3) := by
  simp only [Bool.and_eq_true, decide_eq_true_eq] at h
  have h0 : DB c pc 164 := dk_bt hL (bx_t h.1)
  have h1 : DB c (pc + 1) a := dk_bt hL (bx_t h.2.1)
  have h2 : DB c (pc + 1 + 1) b := dk_bt hL (bx_t h.2.2.1)
  have e : Jvm.ClassFile.Decoder.instr pc c pc = .ok (.if_icmp .le ix, pc + 1 + 2) := by
    unfold Jvm.ClassFile.Decoder.instr
    refine (dk_bind (dk_u1 h0)).trans ?_
    show ((Jvm.ClassFile.Reader.s2 >>= fun x => pure (.if_icmp .le x)) : Jvm.ClassFile.Decoder Jvm.ClassFile.Instr) c (pc + 1) = _
    rw [dk_bind (dk_s2 h1 h2), h.2.2.2]
    rfl
  rw [dk_dec e, show pc + 1 + 2 - pc = 3 by omega]
set_option maxRecDepth 100000 in
theorem dq_2 (hL : c.data.toList.map UInt8.toNat = L) (h : bx L pc 2 = true) : decode c pc = .ok (.iconst (-1), 1) := by
  have h0 : DB c pc 2 := dk_bt hL (bx_t h)
  have e : Jvm.ClassFile.Decoder.instr pc c pc = .ok (.iconst (-1), pc + 1) := by
    unfold Jvm.ClassFile.Decoder.instr
    refine (dk_bind (dk_u1 h0)).trans ?_
    rfl
  rw [dk_dec e, show pc + 1 - pc = 1 by omega]
set_option maxRecDepth 100000 in
theorem dq_172 (hL : c.data.toList.map UInt8.toNat = L) (h : bx L pc 172 = true) : decode c pc = .ok (.ireturn, 1) := by
  have h0 : DB c pc 172 := dk_bt hL (bx_t h)
  have e : Jvm.ClassFile.Decoder.instr pc c pc = .ok (.ireturn, pc + 1) := by
    unfold Jvm.ClassFile.Decoder.instr
    refine (dk_bind (dk_u1 h0)).trans ?_
    rfl
  rw [dk_dec e, show pc + 1 - pc = 1 by omega]
set_option maxRecDepth 100000 in
theorem dq_27 (hL : c.data.toList.map UInt8.toNat = L) (h : bx L pc 27 = true) : decode c pc = .ok (.iload_n 1, 1) := by
  have h0 : DB c pc 27 := dk_bt hL (bx_t h)
  have e : Jvm.ClassFile.Decoder.instr pc c pc = .ok (.iload_n 1, pc + 1) := by
    unfold Jvm.ClassFile.Decoder.instr
    refine (dk_bind (dk_u1 h0)).trans ?_
    rfl
  rw [dk_dec e, show pc + 1 - pc = 1 by omega]
set_option maxRecDepth 100000 in
theorem dq_182 {b : Nat} {ix : Nat} (hL : c.data.toList.map UInt8.toNat = L) (h : (bx L pc 182 && (bx L (pc + 1) a && (bx L (pc + 1 + 1) b && decide (a * 256 + b = ix)))) = true) : decode c pc = .ok (.invokevirtual ix, 3) := by
  simp only [Bool.and_eq_true, decide_eq_true_eq] at h
  have h0 : DB c pc 182 := dk_bt hL (bx_t h.1)
  have h1 : DB c (pc + 1) a := dk_bt hL (bx_t h.2.1)
  have h2 : DB c (pc + 1 + 1) b := dk_bt hL (bx_t h.2.2.1)
  have e : Jvm.ClassFile.Decoder.instr pc c pc = .ok (.invokevirtual ix, pc + 1 + 2) := by
    unfold Jvm.ClassFile.Decoder.instr
    refine (dk_bind (dk_u1 h0)).trans ?_
    show ((Jvm.ClassFile.Reader.u2 >>= fun x => pure (.invokevirtual x)) : Jvm.ClassFile.Decoder Jvm.ClassFile.Instr) c (pc + 1) = _
    rw [dk_bind (dk_u2 h1 h2), h.2.2.2]
    rfl
  rw [dk_dec e, show pc + 1 + 2 - pc = 3 by omega]
set_option maxRecDepth 100000 in
theorem dq_28 (hL : c.data.toList.map UInt8.toNat = L) (h : bx L pc 28 = true) : decode c pc = .ok (.iload_n 2, 1) := by
  have h0 : DB c pc 28 := dk_bt hL (bx_t h)
  have e : Jvm.ClassFile.Decoder.instr pc c pc = .ok (.iload_n 2, pc + 1) := by
    unfold Jvm.ClassFile.Decoder.instr
    refine (dk_bind (dk_u1 h0)).trans ?_
    rfl
  rw [dk_dec e, show pc + 1 - pc = 1 by omega]
set_option maxRecDepth 100000 in
theorem dq_29 (hL : c.data.toList.map UInt8.toNat = L) (h : bx L pc 29 = true) : decode c pc = .ok (.iload_n 3, 1) := by
  have h0 : DB c pc 29 := dk_bt hL (bx_t h)
  have e : Jvm.ClassFile.Decoder.instr pc c pc = .ok (.iload_n 3, pc + 1) := by
    unfold Jvm.ClassFile.Decoder.instr
    refine (dk_bind (dk_u1 h0)).trans ?_
    rfl
  rw [dk_dec e, show pc + 1 - pc = 1 by omega]
set_option maxRecDepth 100000 in
theorem dq_21 (hL : c.data.toList.map UInt8.toNat = L) (h : (bx L pc 21 && bx L (pc + 1) a) = true) : decode c pc = .ok (.iload a, 2) := by
  simp only [Bool.and_eq_true] at h
  have h0 : DB c pc 21 := dk_bt hL (bx_t h.1)
  have h1 : DB c (pc + 1) a := dk_bt hL (bx_t h.2)
  have e : Jvm.ClassFile.Decoder.instr pc c pc = .ok (.iload a, pc + 1 + 1) := by
    unfold Jvm.ClassFile.Decoder.instr
    refine (dk_bind (dk_u1 h0)).trans ?_
    show ((Jvm.ClassFile.Reader.u1 >>= fun x => pure (.iload x)) : Jvm.ClassFile.Decoder Jvm.ClassFile.Instr) c (pc + 1) = _
    rw [dk_bind (dk_u1 h1)]
    rfl
  rw [dk_dec e, show pc + 1 + 1 - pc = 2 by omega]
set_option maxRecDepth 100000 in
theorem dq_155 {b : Nat} {ix : Int} (hL : c.data.toList.map UInt8.toNat = L) (h : (bx L pc 155 && (bx L (pc + 1) a && (bx L (pc + 1 + 1) b && decide (Jvm.ClassFile.Reader.signed 16 (a * 256 + b) = ix)))) = true) : decode c pc = .ok (.ifCond .lt ix, 3) := by
  simp only [Bool.and_eq_true, decide_eq_true_eq] at h
  have h0 : DB c pc 155 := dk_bt hL (bx_t h.1)
  have h1 : DB c (pc + 1) a := dk_bt hL (bx_t h.2.1)
  have h2 : DB c (pc + 1 + 1) b := dk_bt hL (bx_t h.2.2.1)
  have e : Jvm.ClassFile.Decoder.instr pc c pc = .ok (.ifCond .lt ix, pc + 1 + 2) := by
    unfold Jvm.ClassFile.Decoder.instr
    refine (dk_bind (dk_u1 h0)).trans ?_
    show ((Jvm.ClassFile.Reader.s2 >>= fun x => pure (.ifCond .lt x)) : Jvm.ClassFile.Decoder Jvm.ClassFile.Instr) c (pc + 1) = _
    rw [dk_bind (dk_s2 h1 h2), h.2.2.2]
    rfl
  rw [dk_dec e, show pc + 1 + 2 - pc = 3 by omega]
set_option maxRecDepth 100000 in
theorem dq_4 (hL : c.data.toList.map UInt8.toNat = L) (h : bx L pc 4 = true) : decode c pc = .ok (.iconst 1, 1) := by
  have h0 : DB c pc 4 := dk_bt hL (bx_t h)
  have e : Jvm.ClassFile.Decoder.instr pc c pc = .ok (.iconst 1, pc + 1) := by
    unfold Jvm.ClassFile.Decoder.instr
    refine (dk_bind (dk_u1 h0)).trans ?_
    rfl
  rw [dk_dec e, show pc + 1 - pc = 1 by omega]
set_option maxRecDepth 100000 in
theorem dq_60 (hL : c.data.toList.map UInt8.toNat = L) (h : bx L pc 60 = true) : decode c pc = .ok (.istore_n 1, 1) := by
  have h0 : DB c pc 60 := dk_bt hL (bx_t h)
  have e : Jvm.ClassFile.Decoder.instr pc c pc = .ok (.istore_n 1, pc + 1) := by
    unfold Jvm.ClassFile.Decoder.instr
    refine (dk_bind (dk_u1 h0)).trans ?_
    rfl
  rw [dk_dec e, show pc + 1 - pc = 1 by omega]
set_option maxRecDepth 100000 in
theorem dq_61 (hL : c.data.toList.map UInt8.toNat = L) (h : bx L pc 61 = true) : decode c pc = .ok (.istore_n 2, 1) := by
  have h0 : DB c pc 61 := dk_bt hL (bx_t h)
  have e : Jvm.ClassFile.Decoder.instr pc c pc = .ok (.istore_n 2, pc + 1) := by
    unfold Jvm.ClassFile.Decoder.instr
    refine (dk_bind (dk_u1 h0)).trans ?_
    rfl
  rw [dk_dec e, show pc + 1 - pc = 1 by omega]
set_option maxRecDepth 100000 in
theorem dq_162 {b : Nat} {ix : Int} (hL : c.data.toList.map UInt8.toNat = L) (h : (bx L pc 162 && (bx L (pc + 1) a && (bx L (pc + 1 + 1) b && decide (Jvm.ClassFile.Reader.signed 16 (a * 256 + b) = ix)))) = true) : decode c pc = .ok (.if_icmp .ge ix, 3) := by
  simp only [Bool.and_eq_true, decide_eq_true_eq] at h
  have h0 : DB c pc 162 := dk_bt hL (bx_t h.1)
  have h1 : DB c (pc + 1) a := dk_bt hL (bx_t h.2.1)
  have h2 : DB c (pc + 1 + 1) b := dk_bt hL (bx_t h.2.2.1)
  have e : Jvm.ClassFile.Decoder.instr pc c pc = .ok (.if_icmp .ge ix, pc + 1 + 2) := by
    unfold Jvm.ClassFile.Decoder.instr
    refine (dk_bind (dk_u1 h0)).trans ?_
    show ((Jvm.ClassFile.Reader.s2 >>= fun x => pure (.if_icmp .ge x)) : Jvm.ClassFile.Decoder Jvm.ClassFile.Instr) c (pc + 1) = _
    rw [dk_bind (dk_s2 h1 h2), h.2.2.2]
    rfl
  rw [dk_dec e, show pc + 1 + 2 - pc = 3 by omega]
set_option maxRecDepth 100000 in
theorem dq_153 {b : Nat} {ix : Int} (hL : c.data.toList.map UInt8.toNat = L) (h : (bx L pc 153 && (bx L (pc + 1) a && (bx L (pc + 1 + 1) b && decide (Jvm.ClassFile.Reader.signed 16 (a * 256 + b) = ix)))) = true) : decode c pc = .ok (.ifCond .eq ix, 3) := by
  simp only [Bool.and_eq_true, decide_eq_true_eq] at h
  have h0 : DB c pc 153 := dk_bt hL (bx_t h.1)
  have h1 : DB c (pc + 1) a := dk_bt hL (bx_t h.2.1)
  have h2 : DB c (pc + 1 + 1) b := dk_bt hL (bx_t h.2.2.1)
  have e : Jvm.ClassFile.Decoder.instr pc c pc = .ok (.ifCond .eq ix, pc + 1 + 2) := by
    unfold Jvm.ClassFile.Decoder.instr
    refine (dk_bind (dk_u1 h0)).trans ?_
    show ((Jvm.ClassFile.Reader.s2 >>= fun x => pure (.ifCond .eq x)) : Jvm.ClassFile.Decoder Jvm.ClassFile.Instr) c (pc + 1) = _
    rw [dk_bind (dk_s2 h1 h2), h.2.2.2]
    rfl
  rw [dk_dec e, show pc + 1 + 2 - pc = 3 by omega]
set_option maxRecDepth 100000 in
theorem dq_132 {b : Nat} {ix : Int} (hL : c.data.toList.map UInt8.toNat = L) (h : (bx L pc 132 && (bx L (pc + 1) a && (bx L (pc + 1 + 1) b && decide (Jvm.ClassFile.Reader.signed 8 b = ix)))) = true) : decode c pc = .ok (.iinc a ix, 3) := by
  simp only [Bool.and_eq_true, decide_eq_true_eq] at h
  have h0 : DB c pc 132 := dk_bt hL (bx_t h.1)
  have h1 : DB c (pc + 1) a := dk_bt hL (bx_t h.2.1)
  have h2 : DB c (pc + 1 + 1) b := dk_bt hL (bx_t h.2.2.1)
  have e : Jvm.ClassFile.Decoder.instr pc c pc = .ok (.iinc a ix, pc + 1 + 1 + 1) := by
    unfold Jvm.ClassFile.Decoder.instr
    refine (dk_bind (dk_u1 h0)).trans ?_
    show ((Jvm.ClassFile.Reader.u1 >>= fun x => (Jvm.ClassFile.Reader.s1 >>= fun y => pure (.iinc x y))) : Jvm.ClassFile.Decoder Jvm.ClassFile.Instr) c (pc + 1) = _
    rw [dk_bind (dk_u1 h1), dk_bind (dk_s1 h2), h.2.2.2]
    rfl
  rw [dk_dec e, show pc + 1 + 1 + 1 - pc = 3 by omega]
set_option maxRecDepth 100000 in
theorem dq_167 {b : Nat} {ix : Int} (hL : c.data.toList.map UInt8.toNat = L) (h : (bx L pc 167 && (bx L (pc + 1) a && (bx L (pc + 1 + 1) b && decide (Jvm.ClassFile.Reader.signed 16 (a * 256 + b) = ix)))) = true) : decode c pc = .ok (.goto ix, 3) := by
  simp only [Bool.and_eq_true, decide_eq_true_eq] at h
  have h0 : DB c pc 167 := dk_bt hL (bx_t h.1)
  have h1 : DB c (pc + 1) a := dk_bt hL (bx_t h.2.1)
  have h2 : DB c (pc + 1 + 1) b := dk_bt hL (bx_t h.2.2.1)
  have e : Jvm.ClassFile.Decoder.instr pc c pc = .ok (.goto ix, pc + 1 + 2) := by
    unfold Jvm.ClassFile.Decoder.instr
    refine (dk_bind (dk_u1 h0)).trans ?_
    show ((Jvm.ClassFile.Reader.s2 >>= fun x => pure (.goto x)) : Jvm.ClassFile.Decoder Jvm.ClassFile.Instr) c (pc + 1) = _
    rw [dk_bind (dk_s2 h1 h2), h.2.2.2]
    rfl
  rw [dk_dec e, show pc + 1 + 2 - pc = 3 by omega]
set_option maxRecDepth 100000 in
theorem dq_5 (hL : c.data.toList.map UInt8.toNat = L) (h : bx L pc 5 = true) : decode c pc = .ok (.iconst 2, 1) := by
  have h0 : DB c pc 5 := dk_bt hL (bx_t h)
  have e : Jvm.ClassFile.Decoder.instr pc c pc = .ok (.iconst 2, pc + 1) := by
    unfold Jvm.ClassFile.Decoder.instr
    refine (dk_bind (dk_u1 h0)).trans ?_
    rfl
  rw [dk_dec e, show pc + 1 - pc = 1 by omega]
set_option maxRecDepth 100000 in
theorem dq_184 {b : Nat} {ix : Nat} (hL : c.data.toList.map UInt8.toNat = L) (h : (bx L pc 184 && (bx L (pc + 1) a && (bx L (pc + 1 + 1) b && decide (a * 256 + b = ix)))) = true) : decode c pc = .ok (.invokestatic ix, 3) := by
  simp only [Bool.and_eq_true, decide_eq_true_eq] at h
  have h0 : DB c pc 184 := dk_bt hL (bx_t h.1)
  have h1 : DB c (pc + 1) a := dk_bt hL (bx_t h.2.1)
  have h2 : DB c (pc + 1 + 1) b := dk_bt hL (bx_t h.2.2.1)
  have e : Jvm.ClassFile.Decoder.instr pc c pc = .ok (.invokestatic ix, pc + 1 + 2) := by
    unfold Jvm.ClassFile.Decoder.instr
    refine (dk_bind (dk_u1 h0)).trans ?_
    show ((Jvm.ClassFile.Reader.u2 >>= fun x => pure (.invokestatic x)) : Jvm.ClassFile.Decoder Jvm.ClassFile.Instr) c (pc + 1) = _
    rw [dk_bind (dk_u2 h1 h2), h.2.2.2]
    rfl
  rw [dk_dec e, show pc + 1 + 2 - pc = 3 by omega]
set_option maxRecDepth 100000 in
theorem dq_78 (hL : c.data.toList.map UInt8.toNat = L) (h : bx L pc 78 = true) : decode c pc = .ok (.astore_n 3, 1) := by
  have h0 : DB c pc 78 := dk_bt hL (bx_t h)
  have e : Jvm.ClassFile.Decoder.instr pc c pc = .ok (.astore_n 3, pc + 1) := by
    unfold Jvm.ClassFile.Decoder.instr
    refine (dk_bind (dk_u1 h0)).trans ?_
    rfl
  rw [dk_dec e, show pc + 1 - pc = 1 by omega]
set_option maxRecDepth 100000 in
theorem dq_45 (hL : c.data.toList.map UInt8.toNat = L) (h : bx L pc 45 = true) : decode c pc = .ok (.aload_n 3, 1) := by
  have h0 : DB c pc 45 := dk_bt hL (bx_t h)
  have e : Jvm.ClassFile.Decoder.instr pc c pc = .ok (.aload_n 3, pc + 1) := by
    unfold Jvm.ClassFile.Decoder.instr
    refine (dk_bind (dk_u1 h0)).trans ?_
    rfl
  rw [dk_dec e, show pc + 1 - pc = 1 by omega]
set_option maxRecDepth 100000 in
theorem dq_77 (hL : c.data.toList.map UInt8.toNat = L) (h : bx L pc 77 = true) : decode c pc = .ok (.astore_n 2, 1) := by
  have h0 : DB c pc 77 := dk_bt hL (bx_t h)
  have e : Jvm.ClassFile.Decoder.instr pc c pc = .ok (.astore_n 2, pc + 1) := by
    unfold Jvm.ClassFile.Decoder.instr
    refine (dk_bind (dk_u1 h0)).trans ?_
    rfl
  rw [dk_dec e, show pc + 1 - pc = 1 by omega]
set_option maxRecDepth 100000 in
theorem dq_44 (hL : c.data.toList.map UInt8.toNat = L) (h : bx L pc 44 = true) : decode c pc = .ok (.aload_n 2, 1) := by
  have h0 : DB c pc 44 := dk_bt hL (bx_t h)
  have e : Jvm.ClassFile.Decoder.instr pc c pc = .ok (.aload_n 2, pc + 1) := by
    unfold Jvm.ClassFile.Decoder.instr
    refine (dk_bind (dk_u1 h0)).trans ?_
    rfl
  rw [dk_dec e, show pc + 1 - pc = 1 by omega]
set_option maxRecDepth 100000 in
theorem dq_159 {b : Nat} {ix : Int} (hL : c.data.toList.map UInt8.toNat = L) (h : (bx L pc 159 && (bx L (pc + 1) a && (bx L (pc + 1 + 1) b && decide (Jvm.ClassFile.Reader.signed 16 (a * 256 + b) = ix)))) = true) : decode c pc = .ok (.if_icmp .eq ix, 3) := by
  simp only [Bool.and_eq_true, decide_eq_true_eq] at h
  have h0 : DB c pc 159 := dk_bt hL (bx_t h.1)
  have h1 : DB c (pc + 1) a := dk_bt hL (bx_t h.2.1)
  have h2 : DB c (pc + 1 + 1) b := dk_bt hL (bx_t h.2.2.1)
  have e : Jvm.ClassFile.Decoder.instr pc c pc = .ok (.if_icmp .eq ix, pc + 1 + 2) := by
    unfold Jvm.ClassFile.Decoder.instr
    refine (dk_bind (dk_u1 h0)).trans ?_
    show ((Jvm.ClassFile.Reader.s2 >>= fun x => pure (.if_icmp .eq x)) : Jvm.ClassFile.Decoder Jvm.ClassFile.Instr) c (pc + 1) = _
    rw [dk_bind (dk_s2 h1 h2), h.2.2.2]
    rfl
  rw [dk_dec e, show pc + 1 + 2 - pc = 3 by omega]
set_option maxRecDepth 100000 in
theorem dq_158 {b : Nat} {ix : Int} (hL : c.data.toList.map UInt8.toNat = L) (h : (bx L pc 158 && (bx L (pc + 1) a && (bx L (pc + 1 + 1) b && decide (Jvm.ClassFile.Reader.signed 16 (a * 256 + b) = ix)))) = true) : decode c pc = .ok (.ifCond .le ix, 3) := by
  simp only [Bool.and_eq_true, decide_eq_true_eq] at h
  have h0 : DB c pc 158 := dk_bt hL (bx_t h.1)
  have h1 : DB c (pc + 1) a := dk_bt hL (bx_t h.2.1)
  have h2 : DB c (pc + 1 + 1) b := dk_bt hL (bx_t h.2.2.1)
  have e : Jvm.ClassFile.Decoder.instr pc c pc = .ok (.ifCond .le ix, pc + 1 + 2) := by
    unfold Jvm.ClassFile.Decoder.instr
    refine (dk_bind (dk_u1 h0)).trans ?_
    show ((Jvm.ClassFile.Reader.s2 >>= fun x => pure (.ifCond .le x)) : Jvm.ClassFile.Decoder Jvm.ClassFile.Instr) c (pc + 1) = _
    rw [dk_bind (dk_s2 h1 h2), h.2.2.2]
    rfl
  rw [dk_dec e, show pc + 1 + 2 - pc = 3 by omega]
set_option maxRecDepth 100000 in
theorem dq_120 (hL : c.data.toList.map UInt8.toNat = L) (h : bx L pc 120 = true) : decode c pc = .ok (.ishl, 1) := by
  have h0 : DB c pc 120 := dk_bt hL (bx_t h)
  have e : Jvm.ClassFile.Decoder.instr pc c pc = .ok (.ishl, pc + 1) := by
    unfold Jvm.ClassFile.Decoder.instr
    refine (dk_bind (dk_u1 h0)).trans ?_
    rfl
  rw [dk_dec e, show pc + 1 - pc = 1 by omega]
set_option maxRecDepth 100000 in
theorem dq_128 (hL : c.data.toList.map UInt8.toNat = L) (h : bx L pc 128 = true) : decode c pc = .ok (.ior, 1) := by
  have h0 : DB c pc 128 := dk_bt hL (bx_t h)
  have e : Jvm.ClassFile.Decoder.instr pc c pc = .ok (.ior, pc + 1) := by
    unfold Jvm.ClassFile.Decoder.instr
    refine (dk_bind (dk_u1 h0)).trans ?_
    rfl
  rw [dk_dec e, show pc + 1 - pc = 1 by omega]
set_option maxRecDepth 100000 in
theorem dq_54 (hL : c.data.toList.map UInt8.toNat = L) (h : (bx L pc 54 && bx L (pc + 1) a) = true) : decode c pc = .ok (.istore a, 2) := by
  simp only [Bool.and_eq_true] at h
  have h0 : DB c pc 54 := dk_bt hL (bx_t h.1)
  have h1 : DB c (pc + 1) a := dk_bt hL (bx_t h.2)
  have e : Jvm.ClassFile.Decoder.instr pc c pc = .ok (.istore a, pc + 1 + 1) := by
    unfold Jvm.ClassFile.Decoder.instr
    refine (dk_bind (dk_u1 h0)).trans ?_
    show ((Jvm.ClassFile.Reader.u1 >>= fun x => pure (.istore x)) : Jvm.ClassFile.Decoder Jvm.ClassFile.Instr) c (pc + 1) = _
    rw [dk_bind (dk_u1 h1)]
    rfl
  rw [dk_dec e, show pc + 1 + 1 - pc = 2 by omega]
set_option maxRecDepth 100000 in
theorem dq_130 (hL : c.data.toList.map UInt8.toNat = L) (h : bx L pc 130 = true) : decode c pc = .ok (.ixor, 1) := by
  have h0 : DB c pc 130 := dk_bt hL (bx_t h)
  have e : Jvm.ClassFile.Decoder.instr pc c pc = .ok (.ixor, pc + 1) := by
    unfold Jvm.ClassFile.Decoder.instr
    refine (dk_bind (dk_u1 h0)).trans ?_
    rfl
  rw [dk_dec e, show pc + 1 - pc = 1 by omega]
set_option maxRecDepth 100000 in
theorem dq_126 (hL : c.data.toList.map UInt8.toNat = L) (h : bx L pc 126 = true) : decode c pc = .ok (.iand, 1) := by
  have h0 : DB c pc 126 := dk_bt hL (bx_t h)
  have e : Jvm.ClassFile.Decoder.instr pc c pc = .ok (.iand, pc + 1) := by
    unfold Jvm.ClassFile.Decoder.instr
    refine (dk_bind (dk_u1 h0)).trans ?_
    rfl
  rw [dk_dec e, show pc + 1 - pc = 1 by omega]
set_option maxRecDepth 100000 in
theorem dq_165 {b : Nat} {ix : Int} (hL : c.data.toList.map UInt8.toNat = L) (h : (bx L pc 165 && (bx L (pc + 1) a && (bx L (pc + 1 + 1) b && decide (Jvm.ClassFile.Reader.signed 16 (a * 256 + b) = ix)))) = true) : decode c pc = .ok (.if_acmp .eq ix, 3) := by
  simp only [Bool.and_eq_true, decide_eq_true_eq] at h
  have h0 : DB c pc 165 := dk_bt hL (bx_t h.1)
  have h1 : DB c (pc + 1) a := dk_bt hL (bx_t h.2.1)
  have h2 : DB c (pc + 1 + 1) b := dk_bt hL (bx_t h.2.2.1)
  have e : Jvm.ClassFile.Decoder.instr pc c pc = .ok (.if_acmp .eq ix, pc + 1 + 2) := by
    unfold Jvm.ClassFile.Decoder.instr
    refine (dk_bind (dk_u1 h0)).trans ?_
    show ((Jvm.ClassFile.Reader.s2 >>= fun x => pure (.if_acmp .eq x)) : Jvm.ClassFile.Decoder Jvm.ClassFile.Instr) c (pc + 1) = _
    rw [dk_bind (dk_s2 h1 h2), h.2.2.2]
    rfl
  rw [dk_dec e, show pc + 1 + 2 - pc = 3 by omega]
set_option maxRecDepth 100000 in
theorem dq_154 {b : Nat} {ix : Int} (hL : c.data.toList.map UInt8.toNat = L) (h : (bx L pc 154 && (bx L (pc + 1) a && (bx L (pc + 1 + 1) b && decide (Jvm.ClassFile.Reader.signed 16 (a * 256 + b) = ix)))) = true) : decode c pc = .ok (.ifCond .ne ix, 3) := by
  simp only [Bool.and_eq_true, decide_eq_true_eq] at h
  have h0 : DB c pc 154 := dk_bt hL (bx_t h.1)
  have h1 : DB c (pc + 1) a := dk_bt hL (bx_t h.2.1)
  have h2 : DB c (pc + 1 + 1) b := dk_bt hL (bx_t h.2.2.1)
  have e : Jvm.ClassFile.Decoder.instr pc c pc = .ok (.ifCond .ne ix, pc + 1 + 2) := by
    unfold Jvm.ClassFile.Decoder.instr
    refine (dk_bind (dk_u1 h0)).trans ?_
    show ((Jvm.ClassFile.Reader.s2 >>= fun x => pure (.ifCond .ne x)) : Jvm.ClassFile.Decoder Jvm.ClassFile.Instr) c (pc + 1) = _
    rw [dk_bind (dk_s2 h1 h2), h.2.2.2]
    rfl
  rw [dk_dec e, show pc + 1 + 2 - pc = 3 by omega]
set_option maxRecDepth 100000 in
theorem dq_166 {b : Nat} {ix : Int} (hL : c.data.toList.map UInt8.toNat = L) (h : (bx L pc 166 && (bx L (pc + 1) a && (bx L (pc + 1 + 1) b && decide (Jvm.ClassFile.Reader.signed 16 (a * 256 + b) = ix)))) = true) : decode c pc = .ok (.if_acmp .ne ix, 3) := by
  simp only [Bool.and_eq_true, decide_eq_true_eq] at h
  have h0 : DB c pc 166 := dk_bt hL (bx_t h.1)
  have h1 : DB c (pc + 1) a := dk_bt hL (bx_t h.2.1)
  have h2 : DB c (pc + 1 + 1) b := dk_bt hL (bx_t h.2.2.1)
  have e : Jvm.ClassFile.Decoder.instr pc c pc = .ok (.if_acmp .ne ix, pc + 1 + 2) := by
    unfold Jvm.ClassFile.Decoder.instr
    refine (dk_bind (dk_u1 h0)).trans ?_
    show ((Jvm.ClassFile.Reader.s2 >>= fun x => pure (.if_acmp .ne x)) : Jvm.ClassFile.Decoder Jvm.ClassFile.Instr) c (pc + 1) = _
    rw [dk_bind (dk_s2 h1 h2), h.2.2.2]
    rfl
  rw [dk_dec e, show pc + 1 + 2 - pc = 3 by omega]
set_option maxRecDepth 100000 in
theorem dq_190 (hL : c.data.toList.map UInt8.toNat = L) (h : bx L pc 190 = true) : decode c pc = .ok (.arraylength, 1) := by
  have h0 : DB c pc 190 := dk_bt hL (bx_t h)
  have e : Jvm.ClassFile.Decoder.instr pc c pc = .ok (.arraylength, pc + 1) := by
    unfold Jvm.ClassFile.Decoder.instr
    refine (dk_bind (dk_u1 h0)).trans ?_
    rfl
  rw [dk_dec e, show pc + 1 - pc = 1 by omega]
set_option maxRecDepth 100000 in
theorem dq_62 (hL : c.data.toList.map UInt8.toNat = L) (h : bx L pc 62 = true) : decode c pc = .ok (.istore_n 3, 1) := by
  have h0 : DB c pc 62 := dk_bt hL (bx_t h)
  have e : Jvm.ClassFile.Decoder.instr pc c pc = .ok (.istore_n 3, pc + 1) := by
    unfold Jvm.ClassFile.Decoder.instr
    refine (dk_bind (dk_u1 h0)).trans ?_
    rfl
  rw [dk_dec e, show pc + 1 - pc = 1 by omega]
set_option maxRecDepth 100000 in
theorem dq_50 (hL : c.data.toList.map UInt8.toNat = L) (h : bx L pc 50 = true) : decode c pc = .ok (.aaload, 1) := by
  have h0 : DB c pc 50 := dk_bt hL (bx_t h)
  have e : Jvm.ClassFile.Decoder.instr pc c pc = .ok (.aaload, pc + 1) := by
    unfold Jvm.ClassFile.Decoder.instr
    refine (dk_bind (dk_u1 h0)).trans ?_
    rfl
  rw [dk_dec e, show pc + 1 - pc = 1 by omega]
set_option maxRecDepth 100000 in
theorem dq_199 {b : Nat} {ix : Int} (hL : c.data.toList.map UInt8.toNat = L) (h : (bx L pc 199 && (bx L (pc + 1) a && (bx L (pc + 1 + 1) b && decide (Jvm.ClassFile.Reader.signed 16 (a * 256 + b) = ix)))) = true) : decode c pc = .ok (.ifnonnull ix, 3) := by
  simp only [Bool.and_eq_true, decide_eq_true_eq] at h
  have h0 : DB c pc 199 := dk_bt hL (bx_t h.1)
  have h1 : DB c (pc + 1) a := dk_bt hL (bx_t h.2.1)
  have h2 : DB c (pc + 1 + 1) b := dk_bt hL (bx_t h.2.2.1)
  have e : Jvm.ClassFile.Decoder.instr pc c pc = .ok (.ifnonnull ix, pc + 1 + 2) := by
    unfold Jvm.ClassFile.Decoder.instr
    refine (dk_bind (dk_u1 h0)).trans ?_
    show ((Jvm.ClassFile.Reader.s2 >>= fun x => pure (.ifnonnull x)) : Jvm.ClassFile.Decoder Jvm.ClassFile.Instr) c (pc + 1) = _
    rw [dk_bind (dk_s2 h1 h2), h.2.2.2]
    rfl
  rw [dk_dec e, show pc + 1 + 2 - pc = 3 by omega]
set_option maxRecDepth 100000 in
theorem dq_176 (hL : c.data.toList.map UInt8.toNat = L) (h : bx L pc 176 = true) : decode c pc = .ok (.areturn, 1) := by
  have h0 : DB c pc 176 := dk_bt hL (bx_t h)
  have e : Jvm.ClassFile.Decoder.instr pc c pc = .ok (.areturn, pc + 1) := by
    unfold Jvm.ClassFile.Decoder.instr
    refine (dk_bind (dk_u1 h0)).trans ?_
    rfl
  rw [dk_dec e, show pc + 1 - pc = 1 by omega]
set_option maxRecDepth 100000 in
theorem dq_26 (hL : c.data.toList.map UInt8.toNat = L) (h : bx L pc 26 = true) : decode c pc = .ok (.iload_n 0, 1) := by
  have h0 : DB c pc 26 := dk_bt hL (bx_t h)
  have e : Jvm.ClassFile.Decoder.instr pc c pc = .ok (.iload_n 0, pc + 1) := by
    unfold Jvm.ClassFile.Decoder.instr
    refine (dk_bind (dk_u1 h0)).trans ?_
    rfl
  rw [dk_dec e, show pc + 1 - pc = 1 by omega]
set_option maxRecDepth 100000 in
theorem dq_189 {b : Nat} {ix : Nat} (hL : c.data.toList.map UInt8.toNat = L) (h : (bx L pc 189 && (bx L (pc + 1) a && (bx L (pc + 1 + 1) b && decide (a * 256 + b = ix)))) = true) : decode c pc = .ok (.anewarray ix, 3) := by
  simp only [Bool.and_eq_true, decide_eq_true_eq] at h
  have h0 : DB c pc 189 := dk_bt hL (bx_t h.1)
  have h1 : DB c (pc + 1) a := dk_bt hL (bx_t h.2.1)
  have h2 : DB c (pc + 1 + 1) b := dk_bt hL (bx_t h.2.2.1)
  have e : Jvm.ClassFile.Decoder.instr pc c pc = .ok (.anewarray ix, pc + 1 + 2) := by
    unfold Jvm.ClassFile.Decoder.instr
    refine (dk_bind (dk_u1 h0)).trans ?_
    show ((Jvm.ClassFile.Reader.u2 >>= fun x => pure (.anewarray x)) : Jvm.ClassFile.Decoder Jvm.ClassFile.Instr) c (pc + 1) = _
    rw [dk_bind (dk_u2 h1 h2), h.2.2.2]
    rfl
  rw [dk_dec e, show pc + 1 + 2 - pc = 3 by omega]
set_option maxRecDepth 100000 in
theorem dq_83 (hL : c.data.toList.map UInt8.toNat = L) (h : bx L pc 83 = true) : decode c pc = .ok (.aastore, 1) := by
  have h0 : DB c pc 83 := dk_bt hL (bx_t h)
  have e : Jvm.ClassFile.Decoder.instr pc c pc = .ok (.aastore, pc + 1) := by
    unfold Jvm.ClassFile.Decoder.instr
    refine (dk_bind (dk_u1 h0)).trans ?_
    rfl
  rw [dk_dec e, show pc + 1 - pc = 1 by omega]
set_option maxRecDepth 100000 in
theorem dq_161 {b : Nat} {ix : Int} (hL : c.data.toList.map UInt8.toNat = L) (h : (bx L pc 161 && (bx L (pc + 1) a && (bx L (pc + 1 + 1) b && decide (Jvm.ClassFile.Reader.signed 16 (a * 256 + b) = ix)))) = true) : decode c pc = .ok (.if_icmp .lt ix, 3) := by
  simp only [Bool.and_eq_true, decide_eq_true_eq] at h
  have h0 : DB c pc 161 := dk_bt hL (bx_t h.1)
  have h1 : DB c (pc + 1) a := dk_bt hL (bx_t h.2.1)
  have h2 : DB c (pc + 1 + 1) b := dk_bt hL (bx_t h.2.2.1)
  have e : Jvm.ClassFile.Decoder.instr pc c pc = .ok (.if_icmp .lt ix, pc + 1 + 2) := by
    unfold Jvm.ClassFile.Decoder.instr
    refine (dk_bind (dk_u1 h0)).trans ?_
    show ((Jvm.ClassFile.Reader.s2 >>= fun x => pure (.if_icmp .lt x)) : Jvm.ClassFile.Decoder Jvm.ClassFile.Instr) c (pc + 1) = _
    rw [dk_bind (dk_s2 h1 h2), h.2.2.2]
    rfl
  rw [dk_dec e, show pc + 1 + 2 - pc = 3 by omega]
set_option maxRecDepth 100000 in
theorem dq_43 (hL : c.data.toList.map UInt8.toNat = L) (h : bx L pc 43 = true) : decode c pc = .ok (.aload_n 1, 1) := by
  have h0 : DB c pc 43 := dk_bt hL (bx_t h)
  have e : Jvm.ClassFile.Decoder.instr pc c pc = .ok (.aload_n 1, pc + 1) := by
    unfold Jvm.ClassFile.Decoder.instr
    refine (dk_bind (dk_u1 h0)).trans ?_
    rfl
  rw [dk_dec e, show pc + 1 - pc = 1 by omega]
set_option maxRecDepth 100000 in
theorem dq_122 (hL : c.data.toList.map UInt8.toNat = L) (h : bx L pc 122 = true) : decode c pc = .ok (.ishr, 1) := by
  have h0 : DB c pc 122 := dk_bt hL (bx_t h)
  have e : Jvm.ClassFile.Decoder.instr pc c pc = .ok (.ishr, pc + 1) := by
    unfold Jvm.ClassFile.Decoder.instr
    refine (dk_bind (dk_u1 h0)).trans ?_
    rfl
  rw [dk_dec e, show pc + 1 - pc = 1 by omega]
set_option maxRecDepth 100000 in
theorem dq_145 (hL : c.data.toList.map UInt8.toNat = L) (h : bx L pc 145 = true) : decode c pc = .ok (.i2b, 1) := by
  have h0 : DB c pc 145 := dk_bt hL (bx_t h)
  have e : Jvm.ClassFile.Decoder.instr pc c pc = .ok (.i2b, pc + 1) := by
    unfold Jvm.ClassFile.Decoder.instr
    refine (dk_bind (dk_u1 h0)).trans ?_
    rfl
  rw [dk_dec e, show pc + 1 - pc = 1 by omega]
set_option maxRecDepth 100000 in
theorem dq_84 (hL : c.data.toList.map UInt8.toNat = L) (h : bx L pc 84 = true) : decode c pc = .ok (.bastore, 1) := by
  have h0 : DB c pc 84 := dk_bt hL (bx_t h)
  have e : Jvm.ClassFile.Decoder.instr pc c pc = .ok (.bastore, pc + 1) := by
    unfold Jvm.ClassFile.Decoder.instr
    refine (dk_bind (dk_u1 h0)).trans ?_
    rfl
  rw [dk_dec e, show pc + 1 - pc = 1 by omega]
set_option maxRecDepth 100000 in
theorem dq_51 (hL : c.data.toList.map UInt8.toNat = L) (h : bx L pc 51 = true) : decode c pc = .ok (.baload, 1) := by
  have h0 : DB c pc 51 := dk_bt hL (bx_t h)
  have e : Jvm.ClassFile.Decoder.instr pc c pc = .ok (.baload, pc + 1) := by
    unfold Jvm.ClassFile.Decoder.instr
    refine (dk_bind (dk_u1 h0)).trans ?_
    rfl
  rw [dk_dec e, show pc + 1 - pc = 1 by omega]
set_option maxRecDepth 100000 in
theorem dq_6 (hL : c.data.toList.map UInt8.toNat = L) (h : bx L pc 6 = true) : decode c pc = .ok (.iconst 3, 1) := by
  have h0 : DB c pc 6 := dk_bt hL (bx_t h)
  have e : Jvm.ClassFile.Decoder.instr pc c pc = .ok (.iconst 3, pc + 1) := by
    unfold Jvm.ClassFile.Decoder.instr
    refine (dk_bind (dk_u1 h0)).trans ?_
    rfl
  rw [dk_dec e, show pc + 1 - pc = 1 by omega]
set_option maxRecDepth 100000 in
theorem dq_1 (hL : c.data.toList.map UInt8.toNat = L) (h : bx L pc 1 = true) : decode c pc = .ok (.aconst_null, 1) := by
  have h0 : DB c pc 1 := dk_bt hL (bx_t h)
  have e : Jvm.ClassFile.Decoder.instr pc c pc = .ok (.aconst_null, pc + 1) := by
    unfold Jvm.ClassFile.Decoder.instr
    refine (dk_bind (dk_u1 h0)).trans ?_
    rfl
  rw [dk_dec e, show pc + 1 - pc = 1 by omega]
set_option maxRecDepth 100000 in
theorem dq_198 {b : Nat} {ix : Int} (hL : c.data.toList.map UInt8.toNat = L) (h : (bx L pc 198 && (bx L (pc + 1) a && (bx L (pc + 1 + 1) b && decide (Jvm.ClassFile.Reader.signed 16 (a * 256 + b) = ix)))) = true) : decode c pc = .ok (.ifnull ix, 3) := by
  simp only [Bool.and_eq_true, decide_eq_true_eq] at h
  have h0 : DB c pc 198 := dk_bt hL (bx_t h.1)
  have h1 : DB c (pc + 1) a := dk_bt hL (bx_t h.2.1)
  have h2 : DB c (pc + 1 + 1) b := dk_bt hL (bx_t h.2.2.1)
  have e : Jvm.ClassFile.Decoder.instr pc c pc = .ok (.ifnull ix, pc + 1 + 2) := by
    unfold Jvm.ClassFile.Decoder.instr
    refine (dk_bind (dk_u1 h0)).trans ?_
    show ((Jvm.ClassFile.Reader.s2 >>= fun x => pure (.ifnull x)) : Jvm.ClassFile.Decoder Jvm.ClassFile.Instr) c (pc + 1) = _
    rw [dk_bind (dk_s2 h1 h2), h.2.2.2]
    rfl
  rw [dk_dec e, show pc + 1 + 2 - pc = 3 by omega]
set_option maxRecDepth 100000 in
theorem dq_160 {b : Nat} {ix : Int} (hL : c.data.toList.map UInt8.toNat = L) (h : (bx L pc 160 && (bx L (pc + 1) a && (bx L (pc + 1 + 1) b && decide (Jvm.ClassFile.Reader.signed 16 (a * 256 + b) = ix)))) = true) : decode c pc = .ok (.if_icmp .ne ix, 3) := by
  simp only [Bool.and_eq_true, decide_eq_true_eq] at h
  have h0 : DB c pc 160 := dk_bt hL (bx_t h.1)
  have h1 : DB c (pc + 1) a := dk_bt hL (bx_t h.2.1)
  have h2 : DB c (pc + 1 + 1) b := dk_bt hL (bx_t h.2.2.1)
  have e : Jvm.ClassFile.Decoder.instr pc c pc = .ok (.if_icmp .ne ix, pc + 1 + 2) := by
    unfold Jvm.ClassFile.Decoder.instr
    refine (dk_bind (dk_u1 h0)).trans ?_
    show ((Jvm.ClassFile.Reader.s2 >>= fun x => pure (.if_icmp .ne x)) : Jvm.ClassFile.Decoder Jvm.ClassFile.Instr) c (pc + 1) = _
    rw [dk_bind (dk_s2 h1 h2), h.2.2.2]
    rfl
  rw [dk_dec e, show pc + 1 + 2 - pc = 3 by omega]
set_option maxRecDepth 100000 in
theorem dq_100 (hL : c.data.toList.map UInt8.toNat = L) (h : bx L pc 100 = true) : decode c pc = .ok (.isub, 1) := by
  have h0 : DB c pc 100 := dk_bt hL (bx_t h)
  have e : Jvm.ClassFile.Decoder.instr pc c pc = .ok (.isub, pc + 1) := by
    unfold Jvm.ClassFile.Decoder.instr
    refine (dk_bind (dk_u1 h0)).trans ?_
    rfl
  rw [dk_dec e, show pc + 1 - pc = 1 by omega]
set_option maxRecDepth 100000 in
theorem dq_104 (hL : c.data.toList.map UInt8.toNat = L) (h : bx L pc 104 = true) : decode c pc = .ok (.imul, 1) := by
  have h0 : DB c pc 104 := dk_bt hL (bx_t h)
  have e : Jvm.ClassFile.Decoder.instr pc c pc = .ok (.imul, pc + 1) := by
    unfold Jvm.ClassFile.Decoder.instr
    refine (dk_bind (dk_u1 h0)).trans ?_
    rfl
  rw [dk_dec e, show pc + 1 - pc = 1 by omega]
set_option maxRecDepth 100000 in
theorem dq_136 (hL : c.data.toList.map UInt8.toNat = L) (h : bx L pc 136 = true) : decode c pc = .ok (.l2i, 1) := by
  have h0 : DB c pc 136 := dk_bt hL (bx_t h)
  have e : Jvm.ClassFile.Decoder.instr pc c pc = .ok (.l2i, pc + 1) := by
    unfold Jvm.ClassFile.Decoder.instr
    refine (dk_bind (dk_u1 h0)).trans ?_
    rfl
  rw [dk_dec e, show pc + 1 - pc = 1 by omega]
set_option maxRecDepth 100000 in
theorem dq_133 (hL : c.data.toList.map UInt8.toNat = L) (h : bx L pc 133 = true) : decode c pc = .ok (.i2l, 1) := by
  have h0 : DB c pc 133 := dk_bt hL (bx_t h)
  have e : Jvm.ClassFile.Decoder.instr pc c pc = .ok (.i2l, pc + 1) := by
    unfold Jvm.ClassFile.Decoder.instr
    refine (dk_bind (dk_u1 h0)).trans ?_
    rfl
  rw [dk_dec e, show pc + 1 - pc = 1 by omega]
set_option maxRecDepth 100000 in
theorem dq_8 (hL : c.data.toList.map UInt8.toNat = L) (h : bx L pc 8 = true) : decode c pc = .ok (.iconst 5, 1) := by
  have h0 : DB c pc 8 := dk_bt hL (bx_t h)
  have e : Jvm.ClassFile.Decoder.instr pc c pc = .ok (.iconst 5, pc + 1) := by
    unfold Jvm.ClassFile.Decoder.instr
    refine (dk_bind (dk_u1 h0)).trans ?_
    rfl
  rw [dk_dec e, show pc + 1 - pc = 1 by omega]
set_option maxRecDepth 100000 in
theorem dq_79 (hL : c.data.toList.map UInt8.toNat = L) (h : bx L pc 79 = true) : decode c pc = .ok (.iastore, 1) := by
  have h0 : DB c pc 79 := dk_bt hL (bx_t h)
  have e : Jvm.ClassFile.Decoder.instr pc c pc = .ok (.iastore, pc + 1) := by
    unfold Jvm.ClassFile.Decoder.instr
    refine (dk_bind (dk_u1 h0)).trans ?_
    rfl
  rw [dk_dec e, show pc + 1 - pc = 1 by omega]
set_option maxRecDepth 100000 in
theorem dq_7 (hL : c.data.toList.map UInt8.toNat = L) (h : bx L pc 7 = true) : decode c pc = .ok (.iconst 4, 1) := by
  have h0 : DB c pc 7 := dk_bt hL (bx_t h)
  have e : Jvm.ClassFile.Decoder.instr pc c pc = .ok (.iconst 4, pc + 1) := by
    unfold Jvm.ClassFile.Decoder.instr
    refine (dk_bind (dk_u1 h0)).trans ?_
    rfl
  rw [dk_dec e, show pc + 1 - pc = 1 by omega]
set_option maxRecDepth 100000 in
theorem dq_76 (hL : c.data.toList.map UInt8.toNat = L) (h : bx L pc 76 = true) : decode c pc = .ok (.astore_n 1, 1) := by
  have h0 : DB c pc 76 := dk_bt hL (bx_t h)
  have e : Jvm.ClassFile.Decoder.instr pc c pc = .ok (.astore_n 1, pc + 1) := by
    unfold Jvm.ClassFile.Decoder.instr
    refine (dk_bind (dk_u1 h0)).trans ?_
    rfl
  rw [dk_dec e, show pc + 1 - pc = 1 by omega]
set_option maxRecDepth 100000 in
theorem dq_87 (hL : c.data.toList.map UInt8.toNat = L) (h : bx L pc 87 = true) : decode c pc = .ok (.pop, 1) := by
  have h0 : DB c pc 87 := dk_bt hL (bx_t h)
  have e : Jvm.ClassFile.Decoder.instr pc c pc = .ok (.pop, pc + 1) := by
    unfold Jvm.ClassFile.Decoder.instr
    refine (dk_bind (dk_u1 h0)).trans ?_
    rfl
  rw [dk_dec e, show pc + 1 - pc = 1 by omega]
set_option maxRecDepth 100000 in
theorem dq_163 {b : Nat} {ix : Int} (hL : c.data.toList.map UInt8.toNat = L) (h : (bx L pc 163 && (bx L (pc + 1) a && (bx L (pc + 1 + 1) b && decide (Jvm.ClassFile.Reader.signed 16 (a * 256 + b) = ix)))) = true) : decode c pc = .ok (.if_icmp .gt ix, 3) := by
  simp only [Bool.and_eq_true, decide_eq_true_eq] at h
  have h0 : DB c pc 163 := dk_bt hL (bx_t h.1)
  have h1 : DB c (pc + 1) a := dk_bt hL (bx_t h.2.1)
  have h2 : DB c (pc + 1 + 1) b := dk_bt hL (bx_t h.2.2.1)
  have e : Jvm.ClassFile.Decoder.instr pc c pc = .ok (.if_icmp .gt ix, pc + 1 + 2) := by
    unfold Jvm.ClassFile.Decoder.instr
    refine (dk_bind (dk_u1 h0)).trans ?_
    show ((Jvm.ClassFile.Reader.s2 >>= fun x => pure (.if_icmp .gt x)) : Jvm.ClassFile.Decoder Jvm.ClassFile.Instr) c (pc + 1) = _
    rw [dk_bind (dk_s2 h1 h2), h.2.2.2]
    rfl
  rw [dk_dec e, show pc + 1 + 2 - pc = 3 by omega]
set_option maxRecDepth 100000 in
theorem dq_46 (hL : c.data.toList.map UInt8.toNat = L) (h : bx L pc 46 = true) : decode c pc = .ok (.iaload, 1) := by
  have h0 : DB c pc 46 := dk_bt hL (bx_t h)
  have e : Jvm.ClassFile.Decoder.instr pc c pc = .ok (.iaload, pc + 1) := by
    unfold Jvm.ClassFile.Decoder.instr
    refine (dk_bind (dk_u1 h0)).trans ?_
    rfl
  rw [dk_dec e, show pc + 1 - pc = 1 by omega]
set_option maxRecDepth 100000 in
theorem dq_157 {b : Nat} {ix : Int} (hL : c.data.toList.map UInt8.toNat = L) (h : (bx L pc 157 && (bx L (pc + 1) a && (bx L (pc + 1 + 1) b && decide (Jvm.ClassFile.Reader.signed 16 (a * 256 + b) = ix)))) = true) : decode c pc = .ok (.ifCond .gt ix, 3) := by
  simp only [Bool.and_eq_true, decide_eq_true_eq] at h
  have h0 : DB c pc 157 := dk_bt hL (bx_t h.1)
  have h1 : DB c (pc + 1) a := dk_bt hL (bx_t h.2.1)
  have h2 : DB c (pc + 1 + 1) b := dk_bt hL (bx_t h.2.2.1)
  have e : Jvm.ClassFile.Decoder.instr pc c pc = .ok (.ifCond .gt ix, pc + 1 + 2) := by
    unfold Jvm.ClassFile.Decoder.instr
    refine (dk_bind (dk_u1 h0)).trans ?_
    show ((Jvm.ClassFile.Reader.s2 >>= fun x => pure (.ifCond .gt x)) : Jvm.ClassFile.Decoder Jvm.ClassFile.Instr) c (pc + 1) = _
    rw [dk_bind (dk_s2 h1 h2), h.2.2.2]
    rfl
  rw [dk_dec e, show pc + 1 + 2 - pc = 3 by omega]
set_option maxRecDepth 100000 in
theorem dq_124 (hL : c.data.toList.map UInt8.toNat = L) (h : bx L pc 124 = true) : decode c pc = .ok (.iushr, 1) := by
  have h0 : DB c pc 124 := dk_bt hL (bx_t h)
  have e : Jvm.ClassFile.Decoder.instr pc c pc = .ok (.iushr, pc + 1) := by
    unfold Jvm.ClassFile.Decoder.instr
    refine (dk_bind (dk_u1 h0)).trans ?_
    rfl
  rw [dk_dec e, show pc + 1 - pc = 1 by omega]
set_option maxRecDepth 100000 in
theorem dq_59 (hL : c.data.toList.map UInt8.toNat = L) (h : bx L pc 59 = true) : decode c pc = .ok (.istore_n 0, 1) := by
  have h0 : DB c pc 59 := dk_bt hL (bx_t h)
  have e : Jvm.ClassFile.Decoder.instr pc c pc = .ok (.istore_n 0, pc + 1) := by
    unfold Jvm.ClassFile.Decoder.instr
    refine (dk_bind (dk_u1 h0)).trans ?_
    rfl
  rw [dk_dec e, show pc + 1 - pc = 1 by omega]
end DQB
def bl_0 : List Nat := [42, 183, 0, 1, 42, 187, 0, 7, 89, 183, 0, 9, 181, 0, 10, 42, 187, 0, 7, 89, 183, 0, 9, 181, 0, 16, 42, 187, 0, 7, 89, 183, 0, 9, 181, 0, 19, 42, 187, 0, 22, 89, 183, 0, 24, 181, 0, 25, 42, 187, 0, 29, 89, 183, 0, 31, 181, 0, 32, 42, 187, 0, 36, 89, 183, 0, 38, 181, 0, 39, 42, 3, 181, 0, 43, 177]
theorem hb_0 : prog_1_method_1_code.data.toList.map UInt8.toNat = bl_0 := dk_eq_t _ _ (by decide +kernel)
def bl_1 : List Nat := [42, 180, 0, 32, 180, 0, 47, 58, 6, 25, 6, 180, 0, 51, 16, 20, 96, 17, 1, 244, 164, 0, 5, 2, 172, 25, 6, 27, 182, 0, 57, 25, 6, 28, 182, 0, 57, 25, 6, 29, 182, 0, 57, 25, 6, 21, 4, 182, 0, 57, 25, 6, 21, 5, 182, 0, 57, 25, 6, 180, 0, 51, 172]
theorem hb_1 : prog_1_method_2_code.data.toList.map UInt8.toNat = bl_1 := dk_eq_t _ _ (by decide +kernel)
def bl_2 : List Nat := [27, 155, 0, 17, 27, 42, 180, 0, 32, 180, 0, 47, 180, 0, 51, 164, 0, 5, 3, 172, 42, 180, 0, 32, 180, 0, 47, 27, 181, 0, 51, 4, 172]
theorem hb_2 : prog_1_method_3_code.data.toList.map UInt8.toNat = bl_2 := dk_eq_t _ _ (by decide +kernel)
def bl_3 : List Nat := [42, 180, 0, 32, 182, 0, 61, 4, 60, 3, 61, 28, 17, 1, 244, 162, 0, 21, 27, 153, 0, 17, 42, 180, 0, 32, 182, 0, 64, 60, 132, 2, 1, 167, 255, 234, 42, 180, 0, 32, 180, 0, 47, 3, 181, 0, 51, 42, 180, 0, 32, 180, 0, 68, 153, 0, 5, 2, 172, 42, 180, 0, 10, 42, 180, 0, 32, 180, 0, 71, 182, 0, 72, 42, 180, 0, 25, 3, 181, 0, 76, 42, 3, 181, 0, 43, 42, 180, 0, 39, 3, 181, 0, 79, 42, 180, 0, 10, 180, 0, 80, 172]
theorem hb_3 : prog_1_method_4_code.data.toList.map UInt8.toNat = bl_3 := dk_eq_t _ _ (by decide +kernel)
def bl_4 : List Nat := [27, 170, 0, 0, 0, 0, 0, 160, 0, 0, 0, 0, 0, 0, 0, 10, 0, 0, 0, 59, 0, 0, 0, 67, 0, 0, 0, 76, 0, 0, 0, 85, 0, 0, 0, 94, 0, 0, 0, 102, 0, 0, 0, 110, 0, 0, 0, 118, 0, 0, 0, 126, 0, 0, 0, 144, 0, 0, 0, 152, 42, 180, 0, 10, 180, 0, 80, 172, 42, 180, 0, 10, 3, 182, 0, 86, 172, 42, 180, 0, 10, 4, 182, 0, 86, 172, 42, 180, 0, 10, 5, 182, 0, 86, 172, 42, 180, 0, 10, 180, 0, 90, 172, 42, 180, 0, 10, 180, 0, 93, 172, 42, 180, 0, 10, 180, 0, 96, 172, 42, 180, 0, 10, 180, 0, 99, 172, 42, 180, 0, 10, 42, 180, 0, 10, 180, 0, 102, 182, 0, 106, 184, 0, 110, 172, 42, 180, 0, 25, 180, 0, 76, 172, 42, 180, 0, 10, 180, 0, 115, 172, 187, 0, 118, 89, 18, 120, 183, 0, 122, 191]
theorem hb_4 : prog_1_method_7_code.data.toList.map UInt8.toNat = bl_4 := dk_eq_t _ _ (by decide +kernel)
def bl_5 : List Nat := [42, 27, 182, 0, 125, 78, 28, 170, 0, 0, 0, 159, 0, 0, 0, 0, 0, 0, 0, 14, 0, 0, 0, 73, 0, 0, 0, 81, 0, 0, 0, 86, 0, 0, 0, 91, 0, 0, 0, 96, 0, 0, 0, 105, 0, 0, 0, 110, 0, 0, 0, 115, 0, 0, 0, 120, 0, 0, 0, 125, 0, 0, 0, 134, 0, 0, 0, 139, 0, 0, 0, 144, 0, 0, 0, 149, 0, 0, 0, 154, 45, 180, 0, 129, 184, 0, 134, 172, 45, 180, 0, 137, 172, 45, 182, 0, 140, 172, 45, 180, 0, 144, 172, 42, 180, 0, 10, 45, 182, 0, 147, 172, 45, 180, 0, 150, 172, 45, 180, 0, 153, 172, 45, 180, 0, 156, 172, 45, 180, 0, 159, 172, 42, 180, 0, 10, 45, 182, 0, 106, 172, 45, 180, 0, 162, 172, 45, 180, 0, 165, 172, 45, 180, 0, 168, 172, 45, 180, 0, 171, 172, 45, 182, 0, 174, 172, 187, 0, 118, 89, 18, 177, 183, 0, 122, 191]
theorem hb_5 : prog_1_method_8_code.data.toList.map UInt8.toNat = bl_5 := dk_eq_t _ _ (by decide +kernel)
def bl_6 : List Nat := [42, 27, 182, 0, 125, 77, 44, 180, 0, 150, 5, 159, 0, 7, 4, 167, 0, 4, 3, 184, 0, 193, 44, 182, 0, 197, 172]
theorem hb_6 : prog_1_method_11_code.data.toList.map UInt8.toNat = bl_6 := dk_eq_t _ _ (by decide +kernel)
def bl_7 : List Nat := [42, 27, 182, 0, 125, 58, 5, 28, 16, 9, 184, 0, 179, 29, 16, 9, 184, 0, 179, 21, 4, 16, 9, 184, 0, 179, 25, 5, 182, 0, 140, 158, 0, 19, 42, 180, 0, 10, 180, 0, 80, 16, 40, 162, 0, 7, 4, 167, 0, 4, 3, 184, 0, 193, 42, 180, 0, 25, 42, 180, 0, 10, 182, 0, 231, 42, 180, 0, 10, 25, 5, 28, 29, 21, 4, 182, 0, 234, 184, 0, 134, 172]
theorem hb_7 : prog_1_method_18_code.data.toList.map UInt8.toNat = bl_7 := dk_eq_t _ _ (by decide +kernel)
def bl_8 : List Nat := [42, 27, 28, 182, 0, 238, 78, 42, 180, 0, 25, 42, 180, 0, 10, 182, 0, 231, 42, 180, 0, 10, 45, 28, 182, 0, 242, 172]
theorem hb_8 : prog_1_method_19_code.data.toList.map UInt8.toNat = bl_8 := dk_eq_t _ _ (by decide +kernel)
def bl_9 : List Nat := [27, 28, 184, 0, 245, 42, 180, 0, 25, 42, 180, 0, 10, 182, 0, 231, 42, 180, 0, 10, 27, 28, 182, 0, 248, 172]
theorem hb_9 : prog_1_method_20_code.data.toList.map UInt8.toNat = bl_9 := dk_eq_t _ _ (by decide +kernel)
def bl_10 : List Nat := [42, 27, 182, 0, 125, 78, 28, 16, 9, 184, 0, 179, 45, 182, 1, 2, 184, 0, 193, 42, 180, 0, 25, 42, 180, 0, 10, 182, 0, 231, 45, 89, 180, 0, 165, 4, 28, 120, 128, 181, 0, 165, 42, 180, 0, 10, 45, 28, 182, 1, 5, 172]
theorem hb_10 : prog_1_method_22_code.data.toList.map UInt8.toNat = bl_10 := dk_eq_t _ _ (by decide +kernel)
def bl_11 : List Nat := [42, 27, 182, 0, 125, 78, 28, 16, 9, 184, 0, 179, 45, 182, 0, 225, 184, 0, 193, 42, 180, 0, 25, 42, 180, 0, 10, 182, 0, 231, 45, 28, 182, 1, 8, 54, 4, 45, 89, 180, 0, 165, 4, 28, 120, 2, 130, 126, 181, 0, 165, 21, 4, 172]
theorem hb_11 : prog_1_method_23_code.data.toList.map UInt8.toNat = bl_11 := dk_eq_t _ _ (by decide +kernel)
def bl_12 : List Nat := [42, 27, 182, 0, 125, 78, 42, 28, 182, 0, 125, 58, 4, 45, 182, 1, 2, 153, 0, 42, 25, 4, 182, 0, 140, 158, 0, 34, 25, 4, 45, 165, 0, 28, 45, 25, 4, 182, 0, 200, 154, 0, 19, 25, 4, 45, 180, 0, 153, 182, 1, 8, 154, 0, 7, 4, 167, 0, 4, 3, 184, 0, 193, 42, 180, 0, 25, 42, 180, 0, 10, 182, 0, 231, 45, 180, 0, 129, 184, 0, 134, 54, 5, 45, 25, 4, 182, 1, 12, 21, 5, 172]
theorem hb_12 : prog_1_method_24_code.data.toList.map UInt8.toNat = bl_12 := dk_eq_t _ _ (by decide +kernel)
def bl_13 : List Nat := [42, 27, 182, 0, 125, 78, 28, 16, 9, 184, 0, 179, 45, 182, 0, 225, 184, 0, 193, 42, 180, 0, 25, 42, 180, 0, 10, 182, 0, 231, 45, 180, 0, 137, 54, 4, 45, 28, 181, 0, 137, 21, 4, 172]
theorem hb_13 : prog_1_method_25_code.data.toList.map UInt8.toNat = bl_13 := dk_eq_t _ _ (by decide +kernel)
def bl_14 : List Nat := [42, 27, 182, 0, 125, 78, 28, 16, 9, 184, 0, 179, 45, 182, 0, 225, 184, 0, 193, 42, 180, 0, 25, 42, 180, 0, 10, 182, 0, 231, 45, 180, 0, 156, 54, 4, 45, 28, 181, 0, 156, 21, 4, 172]
theorem hb_14 : prog_1_method_26_code.data.toList.map UInt8.toNat = bl_14 := dk_eq_t _ _ (by decide +kernel)
def bl_15 : List Nat := [42, 27, 182, 0, 125, 78, 28, 2, 159, 0, 23, 42, 28, 182, 0, 125, 45, 166, 0, 14, 187, 0, 118, 89, 19, 1, 16, 183, 0, 122, 191, 45, 182, 1, 2, 184, 0, 193, 42, 180, 0, 25, 42, 180, 0, 10, 182, 0, 231, 45, 180, 0, 159, 54, 4, 45, 28, 181, 0, 159, 21, 4, 172]
theorem hb_15 : prog_1_method_27_code.data.toList.map UInt8.toNat = bl_15 := dk_eq_t _ _ (by decide +kernel)
def bl_16 : List Nat := [27, 16, 7, 184, 0, 179, 42, 28, 182, 0, 125, 78, 45, 182, 0, 225, 184, 0, 193, 42, 180, 0, 25, 42, 180, 0, 10, 182, 0, 231, 42, 180, 0, 10, 27, 182, 0, 183, 180, 0, 186, 54, 4, 42, 180, 0, 10, 27, 45, 182, 1, 18, 21, 4, 172]
theorem hb_16 : prog_1_method_28_code.data.toList.map UInt8.toNat = bl_16 := dk_eq_t _ _ (by decide +kernel)
def bl_17 : List Nat := [42, 27, 182, 0, 125, 77, 44, 182, 1, 2, 184, 0, 193, 42, 180, 0, 10, 44, 182, 1, 22, 180, 0, 186, 172]
theorem hb_17 : prog_1_method_29_code.data.toList.map UInt8.toNat = bl_17 := dk_eq_t _ _ (by decide +kernel)
def bl_18 : List Nat := [42, 27, 182, 0, 125, 77, 44, 182, 1, 2, 184, 0, 193, 42, 180, 0, 10, 44, 182, 1, 25, 180, 0, 186, 172]
theorem hb_18 : prog_1_method_30_code.data.toList.map UInt8.toNat = bl_18 := dk_eq_t _ _ (by decide +kernel)
def bl_19 : List Nat := [3, 60, 42, 180, 0, 10, 180, 0, 221, 77, 44, 190, 62, 3, 54, 4, 21, 4, 29, 162, 0, 23, 44, 21, 4, 50, 58, 5, 27, 25, 5, 182, 0, 140, 96, 60, 132, 4, 1, 167, 255, 233, 27, 172]
theorem hb_19 : prog_1_method_37_code.data.toList.map UInt8.toNat = bl_19 := dk_eq_t _ _ (by decide +kernel)
def bl_20 : List Nat := [42, 27, 182, 0, 125, 77, 44, 182, 0, 225, 184, 0, 193, 42, 180, 0, 25, 42, 180, 0, 10, 182, 0, 231, 42, 180, 0, 10, 44, 182, 1, 45, 172]
theorem hb_20 : prog_1_method_46_code.data.toList.map UInt8.toNat = bl_20 := dk_eq_t _ _ (by decide +kernel)
def bl_21 : List Nat := [42, 27, 182, 0, 125, 77, 44, 182, 1, 2, 184, 0, 193, 42, 180, 0, 25, 42, 180, 0, 10, 182, 0, 231, 42, 180, 0, 10, 44, 182, 1, 52, 172]
theorem hb_21 : prog_1_method_55_code.data.toList.map UInt8.toNat = bl_21 := dk_eq_t _ _ (by decide +kernel)
def bl_22 : List Nat := [42, 180, 0, 10, 27, 182, 1, 31, 77, 44, 199, 0, 14, 187, 1, 87, 89, 19, 1, 89, 183, 1, 91, 191, 44, 176]
theorem hb_22 : prog_1_method_66_code.data.toList.map UInt8.toNat = bl_22 := dk_eq_t _ _ (by decide +kernel)
def bl_23 : List Nat := [26, 155, 0, 8, 26, 27, 164, 0, 14, 187, 0, 118, 89, 19, 1, 92, 183, 0, 122, 191, 177]
theorem hb_23 : prog_1_method_67_code.data.toList.map UInt8.toNat = bl_23 := dk_eq_t _ _ (by decide +kernel)
def bl_24 : List Nat := [26, 154, 0, 14, 187, 1, 94, 89, 19, 1, 96, 183, 1, 98, 191, 177]
theorem hb_24 : prog_1_method_68_code.data.toList.map UInt8.toNat = bl_24 := dk_eq_t _ _ (by decide +kernel)
def bl_25 : List Nat := [42, 199, 0, 7, 2, 167, 0, 7, 42, 180, 0, 186, 172]
theorem hb_25 : prog_1_method_69_code.data.toList.map UInt8.toNat = bl_25 := dk_eq_t _ _ (by decide +kernel)
def bl_26 : List Nat := [42, 27, 182, 0, 125, 78, 28, 17, 0, 255, 184, 0, 179, 45, 182, 1, 2, 184, 0, 193, 45, 176]
theorem hb_26 : prog_1_method_70_code.data.toList.map UInt8.toNat = bl_26 := dk_eq_t _ _ (by decide +kernel)
def bl_27 : List Nat := [26, 16, 9, 184, 0, 179, 27, 17, 0, 255, 184, 0, 179, 177]
theorem hb_27 : prog_1_method_71_code.data.toList.map UInt8.toNat = bl_27 := dk_eq_t _ _ (by decide +kernel)
def bl_28 : List Nat := [42, 183, 0, 3, 42, 16, 10, 189, 0, 9, 181, 0, 11, 42, 3, 181, 0, 17, 42, 3, 181, 0, 21, 3, 60, 27, 16, 10, 162, 0, 22, 42, 180, 0, 11, 27, 187, 0, 9, 89, 183, 0, 24, 83, 132, 1, 1, 167, 255, 234, 177]
theorem hb_28 : prog_2_method_1_code.data.toList.map UInt8.toNat = bl_28 := dk_eq_t _ _ (by decide +kernel)
def bl_29 : List Nat := [42, 180, 0, 21, 155, 0, 12, 42, 180, 0, 21, 16, 10, 161, 0, 8, 42, 3, 181, 0, 21, 42, 180, 0, 11, 42, 180, 0, 21, 50, 43, 182, 0, 25, 42, 89, 180, 0, 21, 4, 96, 181, 0, 21, 42, 180, 0, 17, 16, 10, 162, 0, 13, 42, 89, 180, 0, 17, 4, 96, 181, 0, 17, 177]
theorem hb_29 : prog_2_method_2_code.data.toList.map UInt8.toNat = bl_29 := dk_eq_t _ _ (by decide +kernel)
def bl_30 : List Nat := [42, 183, 0, 3, 42, 17, 1, 244, 188, 8, 181, 0, 9, 42, 3, 181, 0, 15, 177]
theorem hb_30 : prog_3_method_1_code.data.toList.map UInt8.toNat = bl_30 := dk_eq_t _ _ (by decide +kernel)
def bl_31 : List Nat := [16, 24, 61, 28, 155, 0, 49, 42, 180, 0, 15, 155, 0, 36, 42, 180, 0, 15, 17, 1, 244, 162, 0, 26, 42, 180, 0, 9, 42, 180, 0, 15, 27, 28, 122, 145, 84, 42, 89, 180, 0, 15, 4, 96, 181, 0, 15, 132, 2, 248, 167, 255, 209, 177]
theorem hb_31 : prog_3_method_2_code.data.toList.map UInt8.toNat = bl_31 := dk_eq_t _ _ (by decide +kernel)
def bl_32 : List Nat := [27, 155, 0, 18, 27, 42, 180, 0, 15, 162, 0, 10, 27, 17, 1, 244, 161, 0, 7, 3, 167, 0, 9, 42, 180, 0, 9, 27, 51, 172]
theorem hb_32 : prog_3_method_3_code.data.toList.map UInt8.toNat = bl_32 := dk_eq_t _ _ (by decide +kernel)
def bl_33 : List Nat := [42, 183, 0, 3, 42, 17, 1, 44, 188, 8, 181, 0, 9, 42, 3, 181, 0, 15, 177]
theorem hb_33 : prog_4_method_1_code.data.toList.map UInt8.toNat = bl_33 := dk_eq_t _ _ (by decide +kernel)
def bl_34 : List Nat := [42, 183, 0, 3, 42, 6, 181, 0, 9, 42, 1, 181, 0, 15, 42, 3, 181, 0, 19, 42, 3, 181, 0, 22, 42, 3, 181, 0, 25, 42, 3, 181, 0, 28, 42, 2, 181, 0, 31, 42, 3, 181, 0, 34, 42, 2, 181, 0, 37, 42, 2, 181, 0, 40, 42, 3, 181, 0, 43, 42, 2, 181, 0, 46, 42, 3, 181, 0, 49, 42, 9, 181, 0, 53, 42, 27, 181, 0, 57, 177]
theorem hb_34 : prog_5_method_1_code.data.toList.map UInt8.toNat = bl_34 := dk_eq_t _ _ (by decide +kernel)
def bl_35 : List Nat := [42, 27, 181, 0, 9, 42, 1, 181, 0, 15, 42, 3, 181, 0, 19, 42, 28, 181, 0, 22, 42, 29, 181, 0, 25, 42, 21, 4, 181, 0, 28, 42, 2, 181, 0, 31, 42, 3, 181, 0, 34, 42, 2, 181, 0, 37, 42, 2, 181, 0, 40, 42, 3, 181, 0, 43, 42, 2, 181, 0, 46, 42, 3, 181, 0, 49, 42, 9, 181, 0, 53, 177]
theorem hb_35 : prog_5_method_2_code.data.toList.map UInt8.toNat = bl_35 := dk_eq_t _ _ (by decide +kernel)
def bl_36 : List Nat := [42, 43, 180, 0, 9, 181, 0, 9, 42, 43, 180, 0, 19, 181, 0, 19, 42, 43, 180, 0, 22, 181, 0, 22, 42, 43, 180, 0, 25, 181, 0, 25, 42, 43, 180, 0, 28, 181, 0, 28, 42, 43, 180, 0, 31, 181, 0, 31, 42, 43, 180, 0, 34, 181, 0, 34, 42, 43, 180, 0, 37, 181, 0, 37, 42, 43, 180, 0, 40, 181, 0, 40, 42, 43, 180, 0, 43, 181, 0, 43, 42, 43, 180, 0, 46, 181, 0, 46, 42, 43, 180, 0, 49, 181, 0, 49, 42, 43, 180, 0, 53, 181, 0, 53, 177]
theorem hb_36 : prog_5_method_3_code.data.toList.map UInt8.toNat = bl_36 := dk_eq_t _ _ (by decide +kernel)
def bl_37 : List Nat := [42, 180, 0, 9, 154, 0, 7, 4, 167, 0, 4, 3, 172]
theorem hb_37 : prog_5_method_4_code.data.toList.map UInt8.toNat = bl_37 := dk_eq_t _ _ (by decide +kernel)
def bl_38 : List Nat := [42, 180, 0, 9, 154, 0, 14, 42, 180, 0, 15, 198, 0, 7, 4, 167, 0, 4, 3, 172]
theorem hb_38 : prog_5_method_5_code.data.toList.map UInt8.toNat = bl_38 := dk_eq_t _ _ (by decide +kernel)
def bl_39 : List Nat := [42, 180, 0, 9, 154, 0, 15, 42, 180, 0, 15, 43, 166, 0, 7, 4, 167, 0, 4, 3, 172]
theorem hb_39 : prog_5_method_7_code.data.toList.map UInt8.toNat = bl_39 := dk_eq_t _ _ (by decide +kernel)
def bl_40 : List Nat := [42, 180, 0, 9, 4, 160, 0, 15, 42, 180, 0, 15, 43, 166, 0, 7, 4, 167, 0, 4, 3, 172]
theorem hb_40 : prog_5_method_8_code.data.toList.map UInt8.toNat = bl_40 := dk_eq_t _ _ (by decide +kernel)
def bl_41 : List Nat := [42, 180, 0, 9, 154, 0, 14, 42, 180, 0, 49, 154, 0, 7, 4, 167, 0, 4, 3, 172]
theorem hb_41 : prog_5_method_9_code.data.toList.map UInt8.toNat = bl_41 := dk_eq_t _ _ (by decide +kernel)
def bl_42 : List Nat := [42, 180, 0, 34, 27, 122, 4, 126, 153, 0, 7, 4, 167, 0, 4, 3, 172]
theorem hb_42 : prog_5_method_10_code.data.toList.map UInt8.toNat = bl_42 := dk_eq_t _ _ (by decide +kernel)
def bl_43 : List Nat := [42, 180, 0, 9, 154, 0, 26, 42, 180, 0, 22, 42, 180, 0, 19, 164, 0, 15, 42, 180, 0, 22, 42, 180, 0, 19, 100, 167, 0, 4, 3, 172]
theorem hb_43 : prog_5_method_11_code.data.toList.map UInt8.toNat = bl_43 := dk_eq_t _ _ (by decide +kernel)
def bl_44 : List Nat := [3, 60, 42, 180, 0, 15, 77, 44, 198, 0, 14, 132, 1, 1, 44, 180, 0, 15, 77, 167, 255, 244, 27, 172]
theorem hb_44 : prog_5_method_12_code.data.toList.map UInt8.toNat = bl_44 := dk_eq_t _ _ (by decide +kernel)
def bl_45 : List Nat := [43, 180, 0, 15, 77, 44, 198, 0, 18, 44, 42, 166, 0, 5, 4, 172, 44, 180, 0, 15, 77, 167, 255, 240, 3, 172]
theorem hb_45 : prog_5_method_13_code.data.toList.map UInt8.toNat = bl_45 := dk_eq_t _ _ (by decide +kernel)
def bl_46 : List Nat := [42, 180, 0, 15, 198, 0, 16, 42, 180, 0, 15, 89, 180, 0, 19, 4, 100, 181, 0, 19, 42, 43, 181, 0, 15, 43, 89, 180, 0, 19, 4, 96, 181, 0, 19, 177]
theorem hb_46 : prog_5_method_14_code.data.toList.map UInt8.toNat = bl_46 := dk_eq_t _ _ (by decide +kernel)
def bl_47 : List Nat := [42, 180, 0, 53, 16, 8, 27, 104, 123, 20, 0, 60, 127, 136, 4, 100, 172]
theorem hb_47 : prog_5_method_15_code.data.toList.map UInt8.toNat = bl_47 := dk_eq_t _ _ (by decide +kernel)
def bl_48 : List Nat := [42, 89, 180, 0, 53, 28, 4, 96, 133, 16, 8, 27, 104, 121, 129, 181, 0, 53, 177]
theorem hb_48 : prog_5_method_16_code.data.toList.map UInt8.toNat = bl_48 := dk_eq_t _ _ (by decide +kernel)
def bl_49 : List Nat := [3, 60, 3, 61, 28, 16, 8, 162, 0, 24, 42, 28, 182, 0, 62, 2, 159, 0, 9, 27, 4, 28, 120, 128, 60, 132, 2, 1, 167, 255, 232, 27, 172]
theorem hb_49 : prog_5_method_17_code.data.toList.map UInt8.toNat = bl_49 := dk_eq_t _ _ (by decide +kernel)
def bl_50 : List Nat := [42, 183, 0, 3, 42, 187, 0, 9, 89, 183, 0, 11, 181, 0, 12, 42, 187, 0, 18, 89, 183, 0, 20, 181, 0, 21, 42, 3, 181, 0, 25, 42, 2, 181, 0, 29, 42, 3, 181, 0, 32, 42, 3, 181, 0, 35, 42, 3, 181, 0, 38, 42, 3, 181, 0, 41, 42, 3, 181, 0, 44, 42, 3, 181, 0, 48, 42, 3, 181, 0, 51, 177]
theorem hb_50 : prog_6_method_1_code.data.toList.map UInt8.toNat = bl_50 := dk_eq_t _ _ (by decide +kernel)
def bl_51 : List Nat := [42, 180, 0, 21, 182, 0, 54, 42, 3, 181, 0, 25, 42, 2, 181, 0, 29, 42, 3, 181, 0, 44, 42, 3, 181, 0, 48, 42, 3, 181, 0, 51, 42, 3, 181, 0, 38, 177]
theorem hb_51 : prog_6_method_2_code.data.toList.map UInt8.toNat = bl_51 := dk_eq_t _ _ (by decide +kernel)
def bl_52 : List Nat := [42, 182, 0, 57, 42, 180, 0, 32, 154, 0, 5, 3, 172, 42, 18, 60, 182, 0, 62, 153, 0, 8, 42, 182, 0, 66, 172, 42, 18, 70, 182, 0, 62, 153, 0, 8, 42, 182, 0, 72, 172, 42, 18, 75, 182, 0, 62, 153, 0, 8, 42, 182, 0, 77, 172, 42, 18, 80, 182, 0, 62, 153, 0, 8, 42, 182, 0, 82, 172, 42, 18, 85, 182, 0, 62, 153, 0, 8, 42, 182, 0, 87, 172, 42, 18, 90, 182, 0, 62, 153, 0, 8, 42, 182, 0, 92, 172, 42, 18, 95, 182, 0, 62, 153, 0, 8, 42, 182, 0, 97, 172, 42, 18, 100, 182, 0, 62, 153, 0, 10, 42, 182, 0, 102, 167, 0, 8, 42, 4, 182, 0, 105, 172]
theorem hb_52 : prog_6_method_3_code.data.toList.map UInt8.toNat = bl_52 := dk_eq_t _ _ (by decide +kernel)
def bl_53 : List Nat := [42, 180, 0, 44, 153, 0, 9, 42, 6, 182, 0, 105, 172, 42, 4, 181, 0, 44, 42, 180, 0, 21, 182, 0, 109, 42, 182, 0, 57, 3, 60, 27, 8, 162, 0, 64, 42, 180, 0, 32, 4, 160, 0, 56, 42, 182, 0, 112, 61, 28, 2, 160, 0, 9, 42, 4, 182, 0, 105, 172, 42, 180, 0, 21, 28, 182, 0, 116, 153, 0, 9, 42, 6, 182, 0, 105, 172, 42, 180, 0, 21, 180, 0, 119, 27, 28, 79, 42, 182, 0, 57, 132, 1, 1, 167, 255, 193, 42, 180, 0, 32, 6, 159, 0, 23, 42, 42, 182, 0, 112, 2, 160, 0, 7, 4, 167, 0, 4, 6, 182, 0, 105, 153, 0, 7, 4, 167, 0, 4, 3, 172]
theorem hb_53 : prog_6_method_4_code.data.toList.map UInt8.toNat = bl_53 := dk_eq_t _ _ (by decide +kernel)
def bl_54 : List Nat := [42, 18, 123, 182, 0, 62, 153, 0, 5, 3, 172, 42, 18, 125, 182, 0, 62, 153, 0, 5, 4, 172, 42, 18, 127, 182, 0, 62, 153, 0, 5, 5, 172, 42, 18, 129, 182, 0, 62, 153, 0, 5, 6, 172, 42, 18, 131, 182, 0, 62, 153, 0, 7, 7, 167, 0, 4, 2, 172]
theorem hb_54 : prog_6_method_5_code.data.toList.map UInt8.toNat = bl_54 := dk_eq_t _ _ (by decide +kernel)
def bl_55 : List Nat := [42, 180, 0, 48, 153, 0, 9, 42, 6, 182, 0, 105, 172, 42, 4, 181, 0, 48, 42, 4, 16, 20, 182, 0, 133, 154, 0, 5, 3, 172, 42, 180, 0, 21, 42, 180, 0, 41, 181, 0, 137, 42, 182, 0, 139, 172]
theorem hb_55 : prog_6_method_6_code.data.toList.map UInt8.toNat = bl_55 := dk_eq_t _ _ (by decide +kernel)
def bl_56 : List Nat := [42, 180, 0, 51, 153, 0, 9, 42, 6, 182, 0, 105, 172, 42, 4, 181, 0, 51, 42, 3, 16, 9, 182, 0, 133, 154, 0, 5, 3, 172, 42, 180, 0, 21, 180, 0, 142, 42, 180, 0, 41, 181, 0, 145, 42, 3, 16, 9, 182, 0, 133, 154, 0, 5, 3, 172, 42, 180, 0, 21, 180, 0, 142, 42, 180, 0, 41, 181, 0, 150, 42, 182, 0, 139, 172]
theorem hb_56 : prog_6_method_7_code.data.toList.map UInt8.toNat = bl_56 := dk_eq_t _ _ (by decide +kernel)
def bl_57 : List Nat := [42, 180, 0, 21, 180, 0, 153, 16, 24, 164, 0, 9, 42, 7, 182, 0, 105, 172, 42, 3, 182, 0, 156, 76, 43, 199, 0, 5, 3, 172, 43, 182, 0, 160, 154, 0, 9, 42, 5, 182, 0, 105, 172, 42, 3, 16, 9, 182, 0, 133, 154, 0, 5, 3, 172, 42, 180, 0, 41, 61, 42, 3, 16, 9, 182, 0, 133, 154, 0, 5, 3, 172, 42, 180, 0, 41, 62, 42, 3, 16, 9, 182, 0, 133, 154, 0, 5, 3, 172, 42, 180, 0, 21, 43, 28, 29, 42, 180, 0, 41, 182, 0, 162, 87, 42, 182, 0, 139, 172]
theorem hb_57 : prog_6_method_8_code.data.toList.map UInt8.toNat = bl_57 := dk_eq_t _ _ (by decide +kernel)
def bl_58 : List Nat := [42, 4, 182, 0, 156, 76, 43, 199, 0, 5, 3, 172, 43, 180, 0, 166, 2, 159, 0, 9, 42, 6, 182, 0, 105, 172, 42, 3, 182, 0, 156, 77, 44, 199, 0, 5, 3, 172, 44, 43, 166, 0, 9, 42, 5, 182, 0, 105, 172, 43, 44, 180, 0, 168, 181, 0, 166, 42, 182, 0, 139, 172]
theorem hb_58 : prog_6_method_9_code.data.toList.map UInt8.toNat = bl_58 := dk_eq_t _ _ (by decide +kernel)
def bl_59 : List Nat := [42, 3, 16, 7, 182, 0, 133, 154, 0, 5, 3, 172, 42, 180, 0, 41, 60, 42, 3, 182, 0, 156, 77, 44, 199, 0, 5, 3, 172, 42, 180, 0, 21, 27, 44, 182, 0, 171, 42, 182, 0, 139, 172]
theorem hb_59 : prog_6_method_10_code.data.toList.map UInt8.toNat = bl_59 := dk_eq_t _ _ (by decide +kernel)
def bl_60 : List Nat := [42, 4, 182, 0, 156, 76, 43, 198, 0, 13, 42, 3, 16, 9, 182, 0, 133, 154, 0, 5, 3, 172, 43, 42, 180, 0, 41, 182, 0, 175, 153, 0, 9, 42, 6, 182, 0, 105, 172, 43, 89, 180, 0, 178, 4, 42, 180, 0, 41, 120, 128, 181, 0, 178, 42, 182, 0, 139, 172]
theorem hb_60 : prog_6_method_11_code.data.toList.map UInt8.toNat = bl_60 := dk_eq_t _ _ (by decide +kernel)
def bl_61 : List Nat := [42, 4, 182, 0, 156, 76, 43, 198, 0, 13, 42, 3, 16, 7, 182, 0, 133, 154, 0, 5, 3, 172, 42, 180, 0, 41, 61, 43, 28, 182, 0, 181, 2, 159, 0, 9, 42, 6, 182, 0, 105, 172, 42, 3, 182, 0, 156, 78, 45, 199, 0, 5, 3, 172, 45, 43, 166, 0, 9, 42, 5, 182, 0, 105, 172, 43, 28, 45, 180, 0, 168, 182, 0, 185, 42, 182, 0, 139, 172]
theorem hb_61 : prog_6_method_12_code.data.toList.map UInt8.toNat = bl_61 := dk_eq_t _ _ (by decide +kernel)
def bl_62 : List Nat := [42, 27, 42, 180, 0, 21, 180, 0, 153, 4, 100, 182, 0, 133, 153, 0, 17, 42, 180, 0, 21, 42, 180, 0, 41, 182, 0, 189, 167, 0, 4, 1, 176]
theorem hb_62 : prog_6_method_13_code.data.toList.map UInt8.toNat = bl_62 := dk_eq_t _ _ (by decide +kernel)
def bl_63 : List Nat := [42, 182, 0, 57, 42, 180, 0, 32, 5, 159, 0, 9, 42, 4, 182, 0, 105, 172, 42, 180, 0, 41, 27, 161, 0, 11, 42, 180, 0, 41, 28, 164, 0, 11, 42, 5, 182, 0, 105, 153, 0, 7, 4, 167, 0, 4, 3, 172]
theorem hb_63 : prog_6_method_14_code.data.toList.map UInt8.toNat = bl_63 := dk_eq_t _ _ (by decide +kernel)
def bl_64 : List Nat := [42, 182, 0, 57, 42, 180, 0, 32, 6, 159, 0, 11, 42, 4, 182, 0, 105, 153, 0, 7, 4, 167, 0, 4, 3, 172]
theorem hb_64 : prog_6_method_15_code.data.toList.map UInt8.toNat = bl_64 := dk_eq_t _ _ (by decide +kernel)
def bl_65 : List Nat := [42, 27, 181, 0, 25, 42, 42, 180, 0, 35, 181, 0, 29, 3, 172]
theorem hb_65 : prog_6_method_16_code.data.toList.map UInt8.toNat = bl_65 := dk_eq_t _ _ (by decide +kernel)
def bl_66 : List Nat := [42, 42, 180, 0, 38, 181, 0, 35, 42, 180, 0, 35, 42, 180, 0, 12, 180, 0, 192, 162, 0, 33, 42, 180, 0, 12, 42, 180, 0, 35, 182, 0, 195, 184, 0, 197, 153, 0, 16, 42, 89, 180, 0, 35, 4, 96, 181, 0, 35, 167, 255, 215, 42, 42, 180, 0, 35, 181, 0, 38, 42, 3, 181, 0, 32, 42, 180, 0, 35, 42, 180, 0, 12, 180, 0, 192, 162, 0, 31, 42, 42, 180, 0, 12, 42, 180, 0, 35, 182, 0, 195, 184, 0, 200, 181, 0, 32, 42, 89, 180, 0, 38, 4, 96, 181, 0, 38, 42, 42, 180, 0, 12, 42, 180, 0, 35, 182, 0, 195, 16, 48, 100, 181, 0, 41, 42, 180, 0, 32, 4, 159, 0, 11, 42, 180, 0, 32, 5, 160, 0, 77, 42, 180, 0, 38, 42, 180, 0, 12, 180, 0, 192, 162, 0, 63, 42, 180, 0, 12, 42, 180, 0, 38, 182, 0, 195, 184, 0, 200, 42, 180, 0, 32, 160, 0, 42, 42, 16, 10, 42, 180, 0, 41, 104, 42, 180, 0, 12, 42, 180, 0, 38, 182, 0, 195, 96, 16, 48, 100, 181, 0, 41, 42, 89, 180, 0, 38, 4, 96, 181, 0, 38, 167, 255, 169, 42, 180, 0, 32, 5, 160, 0, 21, 42, 180, 0, 38, 42, 180, 0, 35, 100, 5, 164, 0, 8, 42, 7, 181, 0, 32, 177]
theorem hb_66 : prog_6_method_17_code.data.toList.map UInt8.toNat = bl_66 := dk_eq_t _ _ (by decide +kernel)
def bl_67 : List Nat := [26, 16, 32, 159, 0, 9, 26, 16, 10, 160, 0, 7, 4, 167, 0, 4, 3, 172]
theorem hb_67 : prog_6_method_18_code.data.toList.map UInt8.toNat = bl_67 := dk_eq_t _ _ (by decide +kernel)
def bl_68 : List Nat := [26, 16, 97, 161, 0, 11, 26, 16, 122, 163, 0, 5, 4, 172, 26, 16, 48, 161, 0, 11, 26, 16, 57, 163, 0, 5, 5, 172, 26, 16, 59, 160, 0, 7, 6, 167, 0, 4, 7, 172]
theorem hb_68 : prog_6_method_19_code.data.toList.map UInt8.toNat = bl_68 := dk_eq_t _ _ (by decide +kernel)
def bl_69 : List Nat := [42, 180, 0, 38, 42, 180, 0, 35, 100, 43, 182, 0, 203, 160, 0, 7, 4, 167, 0, 4, 3, 61, 3, 62, 28, 153, 0, 44, 29, 43, 182, 0, 203, 162, 0, 36, 42, 180, 0, 12, 42, 180, 0, 35, 29, 96, 182, 0, 195, 43, 29, 182, 0, 207, 160, 0, 7, 4, 167, 0, 4, 3, 61, 132, 3, 1, 167, 255, 214, 28, 172]
theorem hb_69 : prog_6_method_20_code.data.toList.map UInt8.toNat = bl_69 := dk_eq_t _ _ (by decide +kernel)
def bl_70 : List Nat := [42, 183, 0, 3, 42, 187, 0, 9, 89, 3, 183, 0, 11, 181, 0, 14, 42, 16, 40, 189, 0, 9, 181, 0, 20, 42, 16, 8, 188, 10, 181, 0, 24, 42, 8, 188, 10, 181, 0, 28, 42, 16, 20, 181, 0, 31, 42, 3, 181, 0, 35, 42, 3, 181, 0, 38, 42, 3, 181, 0, 41, 42, 3, 181, 0, 44, 42, 3, 181, 0, 47, 3, 60, 27, 16, 40, 162, 0, 34, 42, 180, 0, 20, 27, 27, 154, 0, 10, 42, 180, 0, 14, 167, 0, 11, 187, 0, 9, 89, 27, 183, 0, 11, 83, 132, 1, 1, 167, 255, 222, 42, 182, 0, 50, 177]
theorem hb_70 : prog_7_method_1_code.data.toList.map UInt8.toNat = bl_70 := dk_eq_t _ _ (by decide +kernel)
def bl_71 : List Nat := [42, 180, 0, 20, 76, 43, 190, 61, 3, 62, 29, 28, 162, 0, 23, 43, 29, 50, 58, 4, 25, 4, 6, 3, 3, 3, 182, 0, 53, 132, 3, 1, 167, 255, 234, 42, 180, 0, 14, 3, 16, 9, 3, 3, 182, 0, 53, 3, 60, 27, 16, 8, 162, 0, 16, 42, 180, 0, 24, 27, 3, 79, 132, 1, 1, 167, 255, 240, 42, 182, 0, 57, 42, 180, 0, 28, 3, 3, 79, 42, 180, 0, 28, 4, 4, 79, 42, 180, 0, 28, 5, 5, 79, 42, 16, 20, 181, 0, 31, 42, 4, 181, 0, 35, 42, 3, 181, 0, 38, 42, 3, 181, 0, 41, 42, 3, 181, 0, 44, 42, 3, 181, 0, 47, 177]
theorem hb_71 : prog_7_method_2_code.data.toList.map UInt8.toNat = bl_71 := dk_eq_t _ _ (by decide +kernel)
def bl_72 : List Nat := [42, 180, 0, 28, 77, 44, 190, 62, 3, 54, 4, 21, 4, 29, 162, 0, 23, 44, 21, 4, 46, 54, 5, 21, 5, 27, 160, 0, 5, 4, 172, 132, 4, 1, 167, 255, 233, 3, 172]
theorem hb_72 : prog_7_method_3_code.data.toList.map UInt8.toNat = bl_72 := dk_eq_t _ _ (by decide +kernel)
def bl_73 : List Nat := [3, 60, 27, 8, 162, 0, 16, 42, 180, 0, 28, 27, 2, 79, 132, 1, 1, 167, 255, 241, 177]
theorem hb_73 : prog_7_method_4_code.data.toList.map UInt8.toNat = bl_73 := dk_eq_t _ _ (by decide +kernel)
def bl_74 : List Nat := [42, 43, 180, 0, 35, 181, 0, 35, 3, 61, 28, 16, 40, 162, 0, 57, 43, 180, 0, 20, 28, 50, 78, 42, 180, 0, 20, 28, 50, 45, 182, 0, 60, 42, 180, 0, 20, 28, 50, 45, 180, 0, 64, 199, 0, 7, 1, 167, 0, 14, 42, 45, 180, 0, 64, 180, 0, 67, 182, 0, 70, 181, 0, 64, 132, 2, 1, 167, 255, 199, 43, 180, 0, 24, 3, 42, 180, 0, 24, 3, 16, 8, 184, 0, 74, 43, 180, 0, 28, 3, 42, 180, 0, 28, 3, 8, 184, 0, 74, 42, 43, 180, 0, 31, 181, 0, 31, 42, 43, 180, 0, 38, 181, 0, 38, 42, 43, 180, 0, 41, 181, 0, 41, 42, 43, 180, 0, 44, 181, 0, 44, 42, 43, 180, 0, 47, 181, 0, 47, 177]
theorem hb_74 : prog_7_method_5_code.data.toList.map UInt8.toNat = bl_74 := dk_eq_t _ _ (by decide +kernel)
def bl_75 : List Nat := [27, 155, 0, 17, 27, 42, 180, 0, 35, 162, 0, 9, 27, 16, 40, 161, 0, 7, 1, 167, 0, 9, 42, 180, 0, 20, 27, 50, 176]
theorem hb_75 : prog_7_method_6_code.data.toList.map UInt8.toNat = bl_75 := dk_eq_t _ _ (by decide +kernel)
def bl_76 : List Nat := [3, 61, 42, 180, 0, 20, 78, 45, 190, 54, 4, 3, 54, 5, 21, 5, 21, 4, 162, 0, 27, 45, 21, 5, 50, 58, 6, 25, 6, 180, 0, 80, 27, 160, 0, 6, 132, 2, 1, 132, 5, 1, 167, 255, 228, 28, 172]
theorem hb_76 : prog_7_method_7_code.data.toList.map UInt8.toNat = bl_76 := dk_eq_t _ _ (by decide +kernel)
def bl_77 : List Nat := [3, 61, 42, 180, 0, 20, 78, 45, 190, 54, 4, 3, 54, 5, 21, 5, 21, 4, 162, 0, 27, 45, 21, 5, 50, 58, 6, 25, 6, 43, 182, 0, 87, 153, 0, 6, 132, 2, 1, 132, 5, 1, 167, 255, 228, 28, 172]
theorem hb_77 : prog_7_method_9_code.data.toList.map UInt8.toNat = bl_77 := dk_eq_t _ _ (by decide +kernel)
def bl_78 : List Nat := [27, 155, 0, 9, 27, 16, 8, 161, 0, 7, 1, 167, 0, 13, 42, 42, 180, 0, 24, 27, 46, 182, 0, 70, 77, 44, 199, 0, 10, 42, 180, 0, 14, 167, 0, 4, 44, 176]
theorem hb_78 : prog_7_method_15_code.data.toList.map UInt8.toNat = bl_78 := dk_eq_t _ _ (by decide +kernel)
def bl_79 : List Nat := [27, 155, 0, 19, 27, 16, 8, 162, 0, 13, 42, 180, 0, 24, 27, 44, 180, 0, 67, 79, 177]
theorem hb_79 : prog_7_method_16_code.data.toList.map UInt8.toNat = bl_79 := dk_eq_t _ _ (by decide +kernel)
def bl_80 : List Nat := [3, 61, 3, 62, 29, 16, 8, 162, 0, 28, 42, 180, 0, 24, 29, 46, 43, 180, 0, 67, 160, 0, 9, 28, 4, 29, 120, 128, 61, 132, 3, 1, 167, 255, 228, 28, 172]
theorem hb_80 : prog_7_method_17_code.data.toList.map UInt8.toNat = bl_80 := dk_eq_t _ _ (by decide +kernel)
def bl_81 : List Nat := [42, 180, 0, 35, 155, 0, 12, 42, 180, 0, 35, 16, 40, 161, 0, 5, 1, 176, 42, 180, 0, 20, 42, 180, 0, 35, 50, 58, 5, 42, 89, 180, 0, 35, 4, 96, 181, 0, 35, 25, 5, 3, 28, 29, 21, 4, 182, 0, 53, 25, 5, 43, 182, 0, 108, 25, 5, 176]
theorem hb_81 : prog_7_method_18_code.data.toList.map UInt8.toNat = bl_81 := dk_eq_t _ _ (by decide +kernel)
def bl_82 : List Nat := [43, 180, 0, 64, 78, 45, 199, 0, 5, 3, 172, 42, 180, 0, 44, 54, 4, 43, 4, 181, 0, 80, 43, 28, 181, 0, 111, 43, 42, 180, 0, 38, 181, 0, 101, 42, 89, 180, 0, 38, 4, 96, 181, 0, 38, 45, 89, 180, 0, 114, 4, 100, 181, 0, 114, 28, 154, 0, 7, 1, 167, 0, 9, 42, 43, 45, 182, 0, 117, 58, 5, 42, 43, 25, 5, 182, 0, 121, 42, 180, 0, 20, 58, 6, 25, 6, 190, 54, 7, 3, 54, 8, 21, 8, 21, 7, 162, 0, 67, 25, 6, 21, 8, 50, 58, 9, 25, 9, 43, 182, 0, 98, 153, 0, 45, 25, 5, 198, 0, 15, 25, 5, 182, 0, 125, 158, 0, 7, 4, 167, 0, 4, 3, 54, 10, 42, 25, 9, 21, 10, 153, 0, 8, 25, 5, 167, 0, 9, 42, 25, 9, 182, 0, 128, 182, 0, 132, 132, 8, 1, 167, 255, 188, 42, 180, 0, 20, 58, 6, 25, 6, 190, 54, 7, 3, 54, 8, 21, 8, 21, 7, 162, 0, 31, 25, 6, 21, 8, 50, 58, 9, 25, 9, 43, 182, 0, 87, 153, 0, 9, 25, 9, 45, 181, 0, 64, 132, 8, 1, 167, 255, 224, 45, 42, 180, 0, 14, 166, 0, 12, 42, 42, 180, 0, 14, 182, 0, 135, 87, 42, 180, 0, 44, 21, 4, 100, 172]
theorem hb_82 : prog_7_method_19_code.data.toList.map UInt8.toNat = bl_82 := dk_eq_t _ _ (by decide +kernel)
def bl_83 : List Nat := [44, 180, 0, 139, 154, 0, 10, 44, 180, 0, 143, 157, 0, 5, 1, 176, 42, 44, 43, 180, 0, 146, 43, 180, 0, 149, 43, 180, 0, 143, 182, 0, 152, 78, 45, 198, 0, 31, 44, 89, 180, 0, 143, 4, 100, 181, 0, 143, 43, 45, 180, 0, 67, 181, 0, 156, 42, 89, 180, 0, 47, 4, 96, 181, 0, 47, 45, 176]
theorem hb_83 : prog_7_method_20_code.data.toList.map UInt8.toNat = bl_83 := dk_eq_t _ _ (by decide +kernel)
def bl_84 : List Nat := [3, 62, 29, 16, 8, 162, 0, 49, 42, 180, 0, 24, 29, 46, 43, 180, 0, 67, 160, 0, 30, 44, 198, 0, 7, 44, 167, 0, 9, 42, 43, 29, 182, 0, 159, 58, 4, 42, 180, 0, 24, 29, 25, 4, 180, 0, 67, 79, 132, 3, 1, 167, 255, 207, 177]
theorem hb_84 : prog_7_method_21_code.data.toList.map UInt8.toNat = bl_84 := dk_eq_t _ _ (by decide +kernel)
def bl_85 : List Nat := [42, 43, 28, 182, 0, 162, 182, 0, 70, 78, 45, 198, 0, 14, 45, 182, 0, 166, 153, 0, 7, 45, 167, 0, 8, 42, 43, 182, 0, 169, 176]
theorem hb_85 : prog_7_method_22_code.data.toList.map UInt8.toNat = bl_85 := dk_eq_t _ _ (by decide +kernel)
def bl_86 : List Nat := [42, 43, 180, 0, 172, 182, 0, 70, 77, 44, 198, 0, 12, 44, 182, 0, 166, 153, 0, 5, 44, 176, 42, 180, 0, 20, 78, 45, 190, 54, 4, 3, 54, 5, 21, 5, 21, 4, 162, 0, 35, 45, 21, 5, 50, 58, 6, 25, 6, 43, 182, 0, 98, 153, 0, 14, 25, 6, 182, 0, 166, 153, 0, 6, 25, 6, 176, 132, 5, 1, 167, 255, 220, 43, 180, 0, 64, 199, 0, 10, 42, 180, 0, 14, 167, 0, 7, 43, 180, 0, 64, 176]
theorem hb_86 : prog_7_method_23_code.data.toList.map UInt8.toNat = bl_86 := dk_eq_t _ _ (by decide +kernel)
def bl_87 : List Nat := [43, 44, 182, 0, 108, 43, 89, 180, 0, 175, 4, 96, 181, 0, 175, 42, 89, 180, 0, 41, 4, 96, 181, 0, 41, 44, 42, 180, 0, 14, 166, 0, 13, 42, 89, 180, 0, 44, 4, 96, 181, 0, 44, 177]
theorem hb_87 : prog_7_method_24_code.data.toList.map UInt8.toNat = bl_87 := dk_eq_t _ _ (by decide +kernel)
def bl_88 : List Nat := [43, 180, 0, 64, 77, 44, 199, 0, 8, 42, 180, 0, 14, 176, 1, 78, 3, 54, 4, 21, 4, 8, 162, 0, 108, 45, 199, 0, 104, 42, 180, 0, 28, 21, 4, 46, 170, 0, 0, 0, 0, 0, 0, 88, 0, 0, 0, 0, 0, 0, 0, 4, 0, 0, 0, 36, 0, 0, 0, 46, 0, 0, 0, 57, 0, 0, 0, 68, 0, 0, 0, 78, 42, 43, 44, 182, 0, 178, 78, 167, 0, 45, 42, 43, 44, 4, 182, 0, 181, 78, 167, 0, 34, 42, 43, 44, 3, 182, 0, 181, 78, 167, 0, 23, 42, 43, 44, 182, 0, 185, 78, 167, 0, 13, 42, 43, 44, 182, 0, 188, 78, 167, 0, 3, 132, 4, 1, 167, 255, 148, 45, 199, 0, 10, 42, 180, 0, 14, 167, 0, 4, 45, 176]
theorem hb_88 : prog_7_method_25_code.data.toList.map UInt8.toNat = bl_88 := dk_eq_t _ _ (by decide +kernel)
def bl_89 : List Nat := [44, 180, 0, 64, 78, 45, 198, 0, 22, 42, 45, 43, 182, 0, 191, 153, 0, 5, 45, 176, 45, 180, 0, 64, 78, 167, 255, 236, 1, 176]
theorem hb_89 : prog_7_method_26_code.data.toList.map UInt8.toNat = bl_89 := dk_eq_t _ _ (by decide +kernel)
def bl_90 : List Nat := [1, 58, 4, 42, 180, 0, 20, 58, 5, 25, 5, 190, 54, 6, 3, 54, 7, 21, 7, 21, 6, 162, 0, 94, 25, 5, 21, 7, 50, 58, 8, 25, 8, 44, 165, 0, 23, 29, 153, 0, 15, 25, 8, 180, 0, 149, 43, 180, 0, 149, 160, 0, 7, 4, 167, 0, 4, 3, 54, 9, 25, 4, 198, 0, 16, 25, 8, 182, 0, 125, 25, 4, 182, 0, 125, 164, 0, 7, 4, 167, 0, 4, 3, 54, 10, 21, 9, 153, 0, 22, 21, 10, 153, 0, 17, 42, 25, 8, 43, 182, 0, 191, 153, 0, 7, 25, 8, 58, 4, 132, 7, 1, 167, 255, 161, 25, 4, 176]
theorem hb_90 : prog_7_method_27_code.data.toList.map UInt8.toNat = bl_90 := dk_eq_t _ _ (by decide +kernel)
def bl_91 : List Nat := [44, 180, 0, 64, 78, 42, 180, 0, 20, 58, 4, 25, 4, 190, 54, 5, 3, 54, 6, 21, 6, 21, 5, 162, 0, 48, 25, 4, 21, 6, 50, 58, 7, 45, 198, 0, 31, 25, 7, 44, 165, 0, 25, 25, 7, 45, 182, 0, 98, 153, 0, 16, 42, 25, 7, 43, 182, 0, 191, 153, 0, 6, 25, 7, 176, 132, 6, 1, 167, 255, 207, 1, 176]
theorem hb_91 : prog_7_method_28_code.data.toList.map UInt8.toNat = bl_91 := dk_eq_t _ _ (by decide +kernel)
def bl_92 : List Nat := [42, 180, 0, 20, 78, 45, 190, 54, 4, 3, 54, 5, 21, 5, 21, 4, 162, 0, 34, 45, 21, 5, 50, 58, 6, 25, 6, 44, 165, 0, 16, 42, 25, 6, 43, 182, 0, 191, 153, 0, 6, 25, 6, 176, 132, 5, 1, 167, 255, 221, 1, 176]
theorem hb_92 : prog_7_method_29_code.data.toList.map UInt8.toNat = bl_92 := dk_eq_t _ _ (by decide +kernel)
def bl_93 : List Nat := [43, 182, 0, 195, 153, 0, 33, 43, 180, 0, 139, 154, 0, 26, 43, 44, 165, 0, 21, 43, 44, 180, 0, 149, 182, 0, 198, 154, 0, 10, 43, 182, 0, 125, 154, 0, 5, 3, 172, 43, 182, 0, 94, 42, 180, 0, 31, 162, 0, 15, 44, 43, 182, 0, 83, 154, 0, 7, 4, 167, 0, 4, 3, 172]
theorem hb_93 : prog_7_method_30_code.data.toList.map UInt8.toNat = bl_93 := dk_eq_t _ _ (by decide +kernel)
def bl_94 : List Nat := [42, 180, 0, 20, 78, 45, 190, 54, 4, 3, 54, 5, 21, 5, 21, 4, 162, 0, 42, 45, 21, 5, 50, 58, 6, 25, 6, 25, 6, 182, 0, 195, 153, 0, 16, 25, 6, 180, 0, 149, 27, 160, 0, 7, 4, 167, 0, 4, 3, 181, 0, 139, 132, 5, 1, 167, 255, 213, 3, 62, 42, 180, 0, 20, 58, 4, 25, 4, 190, 54, 5, 3, 54, 6, 21, 6, 21, 5, 162, 0, 35, 25, 4, 21, 6, 50, 58, 7, 25, 7, 180, 0, 139, 153, 0, 14, 42, 25, 7, 28, 182, 0, 202, 87, 132, 3, 1, 132, 6, 1, 167, 255, 220, 42, 180, 0, 20, 58, 4, 25, 4, 190, 54, 5, 3, 54, 6, 21, 6, 21, 5, 162, 0, 22, 25, 4, 21, 6, 50, 58, 7, 25, 7, 3, 181, 0, 139, 132, 6, 1, 167, 255, 233, 29, 172]
theorem hb_94 : prog_7_method_31_code.data.toList.map UInt8.toNat = bl_94 := dk_eq_t _ _ (by decide +kernel)
def bl_95 : List Nat := [3, 62, 42, 180, 0, 20, 58, 4, 25, 4, 190, 54, 5, 3, 54, 6, 21, 6, 21, 5, 162, 0, 49, 25, 4, 21, 6, 50, 58, 7, 25, 7, 43, 182, 0, 98, 153, 0, 27, 25, 7, 180, 0, 149, 28, 160, 0, 18, 42, 25, 7, 42, 25, 7, 182, 0, 128, 182, 0, 132, 132, 3, 1, 132, 6, 1, 167, 255, 206, 29, 172]
theorem hb_95 : prog_7_method_32_code.data.toList.map UInt8.toNat = bl_95 := dk_eq_t _ _ (by decide +kernel)
def bl_96 : List Nat := [3, 61, 16, 39, 62, 29, 155, 0, 56, 43, 180, 0, 114, 43, 180, 0, 146, 164, 0, 39, 42, 180, 0, 20, 29, 50, 43, 182, 0, 98, 153, 0, 26, 42, 42, 180, 0, 20, 29, 50, 42, 42, 180, 0, 20, 29, 50, 182, 0, 128, 182, 0, 132, 132, 2, 1, 132, 3, 255, 167, 255, 202, 28, 172]
theorem hb_96 : prog_7_method_33_code.data.toList.map UInt8.toNat = bl_96 := dk_eq_t _ _ (by decide +kernel)
def bl_97 : List Nat := [3, 61, 42, 180, 0, 20, 78, 45, 190, 54, 4, 3, 54, 5, 21, 5, 21, 4, 162, 0, 38, 45, 21, 5, 50, 58, 6, 25, 6, 43, 182, 0, 87, 153, 0, 17, 25, 6, 5, 181, 0, 80, 28, 25, 6, 180, 0, 111, 96, 61, 132, 5, 1, 167, 255, 217, 28, 172]
theorem hb_97 : prog_7_method_34_code.data.toList.map UInt8.toNat = bl_97 := dk_eq_t _ _ (by decide +kernel)
def bl_117 : List Nat := [26, 26, 4, 124, 19, 1, 9, 126, 100, 59, 26, 19, 1, 10, 126, 26, 5, 124, 19, 1, 10, 126, 96, 59, 26, 26, 7, 124, 96, 19, 1, 11, 126, 59, 26, 26, 16, 8, 124, 96, 59, 26, 26, 16, 16, 124, 96, 59, 26, 16, 63, 126, 172]
theorem hb_117 : prog_21_method_49_code.data.toList.map UInt8.toNat = bl_117 := dk_eq_t _ _ (by decide +kernel)
