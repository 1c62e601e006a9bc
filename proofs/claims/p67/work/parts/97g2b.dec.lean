/-! ===== the law's own bytes by rows of 64, its commonest instructions decoded from them (own work, by program: wip/p7/gen_dk.py) ===== -/
def dk_R : List (List Nat) := [[187, 0, 31, 89, 42, 183, 1, 21, 76, 187, 0, 12, 89, 183, 1, 24, 77, 44, 43, 182, 1, 25, 184, 1, 28, 44, 182, 1, 32, 43, 180, 0, 30, 185, 0, 80, 1, 0, 160, 0, 11, 43, 44, 182, 1, 35, 154, 0, 5, 3, 172, 3, 62, 29, 16, 36, 162, 0, 45, 43, 44, 42, 16, 11], [29, 16, 12, 112, 96, 184, 0, 58, 29, 16, 12, 108, 8, 104, 124, 182, 1, 39, 153, 0, 11, 43, 44, 182, 1, 35, 154, 0, 5, 3, 172, 132, 3, 1, 167, 255, 211, 4, 172]]
/-- rows of 64 -/
def dk_ok : List (List Nat) → Bool
  | [] => true
  | [_] => true
  | r :: s :: t => decide (r.length = 64) && dk_ok (s :: t)
theorem dk_fl : ∀ (L : List (List Nat)) (a b x : Nat) (row : List Nat), dk_ok L = true → L[a]? = some row → row[b]? = some x → L.flatten[64 * a + b]? = some x := by
  intro L
  induction L with
  | nil => intro a b x row _ h _; cases h
  | cons r t ih =>
    intro a b x row hk h hx
    cases a with
    | zero =>
      cases h
      have hb : b < r.length := (List.getElem?_eq_some_iff.mp hx).1
      show (r ++ t.flatten)[64 * 0 + b]? = some x
      rw [show 64 * 0 + b = b by omega, List.getElem?_append_left hb]
      exact hx
    | succ a =>
      cases t with
      | nil => cases h
      | cons s t =>
        have hk : (decide (r.length = 64) && dk_ok (s :: t)) = true := hk
        rw [Bool.and_eq_true] at hk
        have hr := of_decide_eq_true hk.1
        show (r ++ (s :: t).flatten)[64 * (a + 1) + b]? = some x
        rw [List.getElem?_append_right (by omega), show 64 * (a + 1) + b - r.length = 64 * a + b by omega]
        exact ih a b x row hk.2 h hx
/-- the byte at a place -/
def DB (c : ByteArray) (i b : Nat) : Prop := ∃ h : i < c.size, (c[i]'h).toNat = b
theorem dk_bt {c : ByteArray} {L : List Nat} (hL : c.data.toList.map UInt8.toNat = L) {i b : Nat} (h : L[i]? = some b) : DB c i b := by
  rw [← hL, List.getElem?_map] at h
  cases hu : c.data.toList[i]? with
  | none => rw [hu] at h; cases h
  | some u =>
    rw [hu] at h
    cases h
    obtain ⟨hi, hv⟩ := List.getElem?_eq_some_iff.mp hu
    have hs : i < c.data.size := by rw [← Array.length_toList]; exact hi
    refine ⟨hs, ?_⟩
    show (c.data[i]'hs).toNat = u.toNat
    rw [← hv, Array.getElem_toList]
/-- two lists of numbers, compared from the front -/
def dk_eq : List Nat → List Nat → Bool
  | [], [] => true
  | a :: l, b :: m => Nat.beq a b && dk_eq l m
  | _, _ => false
theorem dk_eq_t : ∀ l m : List Nat, dk_eq l m = true → l = m := by
  intro l
  induction l with
  | nil =>
    intro m h
    cases m with
    | nil => rfl
    | cons b m => cases h
  | cons a l ih =>
    intro m h
    cases m with
    | nil => cases h
    | cons b m =>
      have h : (Nat.beq a b && dk_eq l m) = true := h
      rw [Bool.and_eq_true] at h
      rw [Nat.eq_of_beq_eq_true h.1, ih m h.2]
theorem dk_all : code.data.toList.map UInt8.toNat = dk_R.flatten := dk_eq_t _ _ (by decide +kernel)
theorem dk_k : dk_ok dk_R = true := by decide +kernel
theorem dk_at {i b : Nat} (a : Nat) {e : Nat} (h : (dk_R[a]?.bind (fun r => r[e]?)) = some b) (hi : 64 * a + e = i) : DB code i b := by
  cases hr : dk_R[a]? with
  | none => rw [hr] at h; cases h
  | some row =>
    rw [hr] at h
    subst hi
    exact dk_bt dk_all (dk_fl dk_R a e b row dk_k hr h)
section DKB
variable {c : ByteArray} {pc i j a b ix : Nat}
theorem dk_u1 (h : DB c i b) : (Jvm.ClassFile.Reader.u1 : Jvm.ClassFile.Decoder Nat) c i = .ok (b, i + 1) := by
  obtain ⟨h, e⟩ := h
  show (if h : i < c.size then (do set (i + 1); pure (c[i]'h).toNat : Jvm.ClassFile.Decoder Nat) else throw (Jvm.ClassFile.HasTruncated.truncated i)) c i = _
  rw [dif_pos h, e]
  rfl
theorem dk_bind {α β : Type} {x : α} {r : Jvm.ClassFile.Decoder α} {f : α → Jvm.ClassFile.Decoder β} (h : r c i = .ok (x, j)) : (r >>= f) c i = f x c j := by
  show Except.bind (r c i) (fun z => f z.1 c z.2) = _
  rw [h]
  rfl
theorem dk_u2 (h0 : DB c i a) (h1 : DB c (i + 1) b) : (Jvm.ClassFile.Reader.u2 : Jvm.ClassFile.Decoder Nat) c i = .ok (a * 256 + b, i + 2) := by
  unfold Jvm.ClassFile.Reader.u2
  rw [dk_bind (dk_u1 h0), dk_bind (dk_u1 h1)]
  rfl
theorem dk_s2 (h0 : DB c i a) (h1 : DB c (i + 1) b) : (Jvm.ClassFile.Reader.s2 : Jvm.ClassFile.Decoder Int) c i = .ok (Jvm.ClassFile.Reader.signed 16 (a * 256 + b), i + 2) := by
  show Except.bind ((Jvm.ClassFile.Reader.u2 : Jvm.ClassFile.Decoder Nat) c i) (fun z => Except.ok (Jvm.ClassFile.Reader.signed 16 z.1, z.2)) = _
  rw [dk_u2 h0 h1]
  rfl
theorem dk_dec {x : Jvm.ClassFile.Instr} {n : Nat} (h : Jvm.ClassFile.Decoder.instr pc c pc = .ok (x, n)) : decode c pc = .ok (x, n - pc) := by
  show Except.bind (Jvm.ClassFile.Decoder.instr pc c pc) (fun z => Except.ok (z.1, z.2 - pc)) = _
  rw [h]
  rfl
set_option maxRecDepth 100000 in
theorem dk_iconst_0 (h0 : DB c pc 3) : decode c pc = .ok (.iconst 0, 1) := by
  have e : Jvm.ClassFile.Decoder.instr pc c pc = .ok (.iconst 0, pc + 1) := by
    unfold Jvm.ClassFile.Decoder.instr
    refine (dk_bind (dk_u1 h0)).trans ?_
    rfl
  rw [dk_dec e, show pc + 1 - pc = 1 by omega]
set_option maxRecDepth 100000 in
theorem dk_iconst_1 (h0 : DB c pc 4) : decode c pc = .ok (.iconst 1, 1) := by
  have e : Jvm.ClassFile.Decoder.instr pc c pc = .ok (.iconst 1, pc + 1) := by
    unfold Jvm.ClassFile.Decoder.instr
    refine (dk_bind (dk_u1 h0)).trans ?_
    rfl
  rw [dk_dec e, show pc + 1 - pc = 1 by omega]
set_option maxRecDepth 100000 in
theorem dk_iconst_2 (h0 : DB c pc 5) : decode c pc = .ok (.iconst 2, 1) := by
  have e : Jvm.ClassFile.Decoder.instr pc c pc = .ok (.iconst 2, pc + 1) := by
    unfold Jvm.ClassFile.Decoder.instr
    refine (dk_bind (dk_u1 h0)).trans ?_
    rfl
  rw [dk_dec e, show pc + 1 - pc = 1 by omega]
set_option maxRecDepth 100000 in
theorem dk_iconst_3 (h0 : DB c pc 6) : decode c pc = .ok (.iconst 3, 1) := by
  have e : Jvm.ClassFile.Decoder.instr pc c pc = .ok (.iconst 3, pc + 1) := by
    unfold Jvm.ClassFile.Decoder.instr
    refine (dk_bind (dk_u1 h0)).trans ?_
    rfl
  rw [dk_dec e, show pc + 1 - pc = 1 by omega]
set_option maxRecDepth 100000 in
theorem dk_iconst_4 (h0 : DB c pc 7) : decode c pc = .ok (.iconst 4, 1) := by
  have e : Jvm.ClassFile.Decoder.instr pc c pc = .ok (.iconst 4, pc + 1) := by
    unfold Jvm.ClassFile.Decoder.instr
    refine (dk_bind (dk_u1 h0)).trans ?_
    rfl
  rw [dk_dec e, show pc + 1 - pc = 1 by omega]
set_option maxRecDepth 100000 in
theorem dk_iconst_5 (h0 : DB c pc 8) : decode c pc = .ok (.iconst 5, 1) := by
  have e : Jvm.ClassFile.Decoder.instr pc c pc = .ok (.iconst 5, pc + 1) := by
    unfold Jvm.ClassFile.Decoder.instr
    refine (dk_bind (dk_u1 h0)).trans ?_
    rfl
  rw [dk_dec e, show pc + 1 - pc = 1 by omega]
set_option maxRecDepth 100000 in
theorem dk_aload_0 (h0 : DB c pc 42) : decode c pc = .ok (.aload_n 0, 1) := by
  have e : Jvm.ClassFile.Decoder.instr pc c pc = .ok (.aload_n 0, pc + 1) := by
    unfold Jvm.ClassFile.Decoder.instr
    refine (dk_bind (dk_u1 h0)).trans ?_
    rfl
  rw [dk_dec e, show pc + 1 - pc = 1 by omega]
set_option maxRecDepth 100000 in
theorem dk_aload_1 (h0 : DB c pc 43) : decode c pc = .ok (.aload_n 1, 1) := by
  have e : Jvm.ClassFile.Decoder.instr pc c pc = .ok (.aload_n 1, pc + 1) := by
    unfold Jvm.ClassFile.Decoder.instr
    refine (dk_bind (dk_u1 h0)).trans ?_
    rfl
  rw [dk_dec e, show pc + 1 - pc = 1 by omega]
set_option maxRecDepth 100000 in
theorem dk_aload_2 (h0 : DB c pc 44) : decode c pc = .ok (.aload_n 2, 1) := by
  have e : Jvm.ClassFile.Decoder.instr pc c pc = .ok (.aload_n 2, pc + 1) := by
    unfold Jvm.ClassFile.Decoder.instr
    refine (dk_bind (dk_u1 h0)).trans ?_
    rfl
  rw [dk_dec e, show pc + 1 - pc = 1 by omega]
set_option maxRecDepth 100000 in
theorem dk_aload_3 (h0 : DB c pc 45) : decode c pc = .ok (.aload_n 3, 1) := by
  have e : Jvm.ClassFile.Decoder.instr pc c pc = .ok (.aload_n 3, pc + 1) := by
    unfold Jvm.ClassFile.Decoder.instr
    refine (dk_bind (dk_u1 h0)).trans ?_
    rfl
  rw [dk_dec e, show pc + 1 - pc = 1 by omega]
set_option maxRecDepth 100000 in
theorem dk_iaload (h0 : DB c pc 46) : decode c pc = .ok (.iaload, 1) := by
  have e : Jvm.ClassFile.Decoder.instr pc c pc = .ok (.iaload, pc + 1) := by
    unfold Jvm.ClassFile.Decoder.instr
    refine (dk_bind (dk_u1 h0)).trans ?_
    rfl
  rw [dk_dec e, show pc + 1 - pc = 1 by omega]
set_option maxRecDepth 100000 in
theorem dk_iadd (h0 : DB c pc 96) : decode c pc = .ok (.iadd, 1) := by
  have e : Jvm.ClassFile.Decoder.instr pc c pc = .ok (.iadd, pc + 1) := by
    unfold Jvm.ClassFile.Decoder.instr
    refine (dk_bind (dk_u1 h0)).trans ?_
    rfl
  rw [dk_dec e, show pc + 1 - pc = 1 by omega]
set_option maxRecDepth 100000 in
theorem dk_pop (h0 : DB c pc 87) : decode c pc = .ok (.pop, 1) := by
  have e : Jvm.ClassFile.Decoder.instr pc c pc = .ok (.pop, pc + 1) := by
    unfold Jvm.ClassFile.Decoder.instr
    refine (dk_bind (dk_u1 h0)).trans ?_
    rfl
  rw [dk_dec e, show pc + 1 - pc = 1 by omega]
set_option maxRecDepth 100000 in
theorem dk_iload (h0 : DB c pc 21) (h1 : DB c (pc + 1) a) : decode c pc = .ok (.iload a, 2) := by
  have e : Jvm.ClassFile.Decoder.instr pc c pc = .ok (.iload a, pc + 1 + 1) := by
    unfold Jvm.ClassFile.Decoder.instr
    refine (dk_bind (dk_u1 h0)).trans ?_
    show ((Jvm.ClassFile.Reader.u1 >>= fun x => pure (.iload x)) : Jvm.ClassFile.Decoder Jvm.ClassFile.Instr) c (pc + 1) = _
    rw [dk_bind (dk_u1 h1)]
    rfl
  rw [dk_dec e, show pc + 1 + 1 - pc = 2 by omega]
set_option maxRecDepth 100000 in
theorem dk_istore (h0 : DB c pc 54) (h1 : DB c (pc + 1) a) : decode c pc = .ok (.istore a, 2) := by
  have e : Jvm.ClassFile.Decoder.instr pc c pc = .ok (.istore a, pc + 1 + 1) := by
    unfold Jvm.ClassFile.Decoder.instr
    refine (dk_bind (dk_u1 h0)).trans ?_
    show ((Jvm.ClassFile.Reader.u1 >>= fun x => pure (.istore x)) : Jvm.ClassFile.Decoder Jvm.ClassFile.Instr) c (pc + 1) = _
    rw [dk_bind (dk_u1 h1)]
    rfl
  rw [dk_dec e, show pc + 1 + 1 - pc = 2 by omega]
set_option maxRecDepth 100000 in
theorem dk_dstore (h0 : DB c pc 57) (h1 : DB c (pc + 1) a) : decode c pc = .ok (.dstore a, 2) := by
  have e : Jvm.ClassFile.Decoder.instr pc c pc = .ok (.dstore a, pc + 1 + 1) := by
    unfold Jvm.ClassFile.Decoder.instr
    refine (dk_bind (dk_u1 h0)).trans ?_
    show ((Jvm.ClassFile.Reader.u1 >>= fun x => pure (.dstore x)) : Jvm.ClassFile.Decoder Jvm.ClassFile.Instr) c (pc + 1) = _
    rw [dk_bind (dk_u1 h1)]
    rfl
  rw [dk_dec e, show pc + 1 + 1 - pc = 2 by omega]
set_option maxRecDepth 100000 in
theorem dk_invokevirtual {ix : Nat} (h0 : DB c pc 182) (h1 : DB c (pc + 1) a) (h2 : DB c (pc + 1 + 1) b) (hx : a * 256 + b = ix) : decode c pc = .ok (.invokevirtual ix, 3) := by
  have e : Jvm.ClassFile.Decoder.instr pc c pc = .ok (.invokevirtual ix, pc + 1 + 2) := by
    unfold Jvm.ClassFile.Decoder.instr
    refine (dk_bind (dk_u1 h0)).trans ?_
    show ((Jvm.ClassFile.Reader.u2 >>= fun x => pure (.invokevirtual x)) : Jvm.ClassFile.Decoder Jvm.ClassFile.Instr) c (pc + 1) = _
    rw [dk_bind (dk_u2 h1 h2), hx]
    rfl
  rw [dk_dec e, show pc + 1 + 2 - pc = 3 by omega]
set_option maxRecDepth 100000 in
theorem dk_invokestatic {ix : Nat} (h0 : DB c pc 184) (h1 : DB c (pc + 1) a) (h2 : DB c (pc + 1 + 1) b) (hx : a * 256 + b = ix) : decode c pc = .ok (.invokestatic ix, 3) := by
  have e : Jvm.ClassFile.Decoder.instr pc c pc = .ok (.invokestatic ix, pc + 1 + 2) := by
    unfold Jvm.ClassFile.Decoder.instr
    refine (dk_bind (dk_u1 h0)).trans ?_
    show ((Jvm.ClassFile.Reader.u2 >>= fun x => pure (.invokestatic x)) : Jvm.ClassFile.Decoder Jvm.ClassFile.Instr) c (pc + 1) = _
    rw [dk_bind (dk_u2 h1 h2), hx]
    rfl
  rw [dk_dec e, show pc + 1 + 2 - pc = 3 by omega]
set_option maxRecDepth 100000 in
theorem dk_goto {ix : Int} (h0 : DB c pc 167) (h1 : DB c (pc + 1) a) (h2 : DB c (pc + 1 + 1) b) (hx : Jvm.ClassFile.Reader.signed 16 (a * 256 + b) = ix) : decode c pc = .ok (.goto ix, 3) := by
  have e : Jvm.ClassFile.Decoder.instr pc c pc = .ok (.goto ix, pc + 1 + 2) := by
    unfold Jvm.ClassFile.Decoder.instr
    refine (dk_bind (dk_u1 h0)).trans ?_
    show ((Jvm.ClassFile.Reader.s2 >>= fun x => pure (.goto x)) : Jvm.ClassFile.Decoder Jvm.ClassFile.Instr) c (pc + 1) = _
    rw [dk_bind (dk_s2 h1 h2), hx]
    rfl
  rw [dk_dec e, show pc + 1 + 2 - pc = 3 by omega]
end DKB
