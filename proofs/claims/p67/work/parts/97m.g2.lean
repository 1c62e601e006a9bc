/-! ===== the judgement of the law's layer, and its steps (own work) ===== -/
def cxS (κ : CX) (w : ev_W) (H : Heap) : Prop := ev_J κ.1 κ.2.1 κ.2.2.1 κ.2.2.2.1 κ.2.2.2.2.2.1 w H
/-- the constants as they lie in the heap below -/
def CZ (b : ev_B) (B0 : Nat) (U : State) (H : Heap) : Prop :=
  (∀ j, j < 11 → vk_R "OrphanTreeLaw" (lw_so.getD j (0, "")).1 (lw_so.getD j (0, "")).2 (b.2.1 (100 + j)) U ∧ va_O "java/lang/String" (b.2.1 (100 + j)) (ev_A b B0) U H ∧ va_OF "java/lang/String" "coder" "B" (.int 0) (b.2.1 (100 + j)) (ev_A b B0) U H ∧ va_OF "java/lang/String" "value" "[B" (.ref (b.2.1 (100100 + j))) (b.2.1 (100 + j)) (ev_A b B0) U H ∧ va_T .byte (b.2.1 (100100 + j)) (lw_tx.getD j []).length (fun i => .int (nI ((lw_tx.getD j []).getD i 0))) (ev_A b B0) U H) ∧
  va_Z "java/lang/Integer" "DigitOnes" "[B" (.ref (b.2.1 200000)) (ev_A b B0) U H ∧ va_T .byte (b.2.1 200000) 100 (fun i => .int (nI (48 + i % 10))) (ev_A b B0) U H ∧
  va_Z "java/lang/Integer" "DigitTens" "[B" (.ref (b.2.1 200001)) (ev_A b B0) U H ∧ va_T .byte (b.2.1 200001) 100 (fun i => .int (nI (48 + i / 10))) (ev_A b B0) U H ∧
  va_Z "java/util/ArrayList" "DEFAULTCAPACITY_EMPTY_ELEMENTDATA" "[Ljava/lang/Object;" (.ref (b.2.1 200002)) (ev_A b B0) U H ∧ va_T (.object "java/lang/Object") (b.2.1 200002) 0 (fun _ => .null) (ev_A b B0) U H ∧
  va_Mi "[Ljava/lang/Object;" (b.2.1 200003) U ∧ (∀ q ∈ fw_L, va_Fw q.1 q.2.1 q.2.2 U) ∧ (∃ fv : Value, (fv = .null ∨ fv = .ref (b.2.1 200004)) ∧ va_Z "jdk/internal/util/Preconditions" "SIOOBE_FORMATTER" "Ljava/util/function/BiFunction;" fv (ev_A b B0) U H)
/-- a frame -/
def FX (κ : CX) (im : ev_Im) (M : ev_M) (p : Program) (s : State) (m : MethodId) (args : Array Value) (meth : Method) (c : Code) : Prop :=
  ev_Fx κ.1 κ.2.1 κ.2.2.1 κ.2.2.2.1 κ.2.2.2.2.1 κ.2.2.2.2.2.1 p s m args meth c im.2.1 M.1 (ev_wm im M.1) im.1.cls κ.2.2.2.2.2.2.2.1 ∧ meth.name = im.1.name ∧ meth.sig.returnType = im.2.2.1 ∧ CZ κ.2.2.1 κ.2.2.2.1 s s.heap
/-- a method's table is what the class file has (the evaluator's own instructions) -/
def ECk (κ : CX) (im : ev_Im) (M : ev_M) : Prop := ∀ pc, ((M.2.2.2.2 pc).1 ∈ ev_op1 → ev_eok κ.2.2.2.2.2.2.2.2.2.1 κ.2.2.2.2.2.2.2.2.2.2 κ.2.2.2.2.2.2.2.1 (ev_wm im M.1) im.1 im.2.1 im.2.2.1 M.1 pc (M.2.2.2.2 pc).1 (M.2.2.2.2 pc).2.1 (M.2.2.2.2 pc).2.2.1 (M.2.2.2.2 pc).2.2.2.1 (M.2.2.2.2 pc).2.2.2.2.1 (M.2.2.2.2 pc).2.2.2.2.2) ∧ ev_eok2 κ im (ev_wm im M.1) M.1 pc (M.2.2.2.2 pc).1 (M.2.2.2.2 pc).2.1 (M.2.2.2.2 pc).2.2.1 (M.2.2.2.2 pc).2.2.2.1 (M.2.2.2.2 pc).2.2.2.2.1 (M.2.2.2.2 pc).2.2.2.2.2
def CXall (κ : CX) : Prop := CXok κ ∧ ∀ i, 92 ≤ i → plainName (κ.2.2.2.2.2.2.2.2.2.1 i).1.cls = true ∧ ECk κ (κ.2.2.2.2.2.2.2.2.2.1 i) (κ.2.2.2.2.2.2.2.2.2.2 i)
/-- a method's end -/
def QG (κ : CX) (t : Nat) (v : Int) (S : sS) : Array Value → State → Outcome → State → Prop :=
  fun _ st o tt => o = .returned ((drv2 t v).map (ev_dn κ.2.2.1 κ.2.2.2.1 κ.2.2.2.2.2.1)) ∧ cxS κ (cW S 0 0) tt.heap ∧ va_F (ev_A κ.2.2.1 κ.2.2.2.1) st tt
/-- if X tells an end, the machine comes to it -/
def G2 (κ : CX) (im : ev_Im) (M : ev_M) (t d : Nat) (n0 s0 : Int) (X : Option (Int × sS)) (pc : Nat) (loc : ev_L) (st : List ev_V) (S : sS) : Prop :=
  ∀ v S', X = some (v, S') → (sn S ≤ sn S' ∧ ss S ≤ ss S' ∧ EXT S S') ∧ (VR2 t v ∧ WF2 κ S') ∧
    (n0 ≤ sn S → s0 ≤ ss S → sn S' ≤ 1000000 → ∀ (p : Program) (e : Env) (s : State) (m : MethodId) (args : Array Value) (below : List Frame) (meth : Method) (c : Code), CXall κ → FX κ im M p s m args meth c → ECk κ im M →
      cxG κ p e (ev_rm d (sn S' - n0).toNat (ss S' - s0).toNat) s m args below meth c (MQ below (QG κ t v S') args s (sn S' - n0).toNat (ss S' - s0).toNat (ev_A κ.2.2.1 κ.2.2.2.1)) M.1 pc loc st (cW S (sn S - n0).toNat (ss S - s0).toNat))
def bdS {β : Type} (Y : Option (Int × sS)) (K : Int → sS → Option β) : Option β := match Y with
  | some y => K y.1 y.2
  | none => none
section G2
variable {κ : CX} {im : ev_Im} {M : ev_M} {t d : Nat} {n0 s0 : Int} {X A B : Option (Int × sS)} {pc nx : Nat} {loc : ev_L} {st r : List ev_V} {S : sS} {a b c' : Nat} {tg : List Nat} {x y p j v : Int}
theorem g2_none : G2 κ im M t d n0 s0 none pc loc st S := fun v S' h => by cases h
theorem g2_kn {q : Prop} [Decidable q] (hq : q) (h : G2 κ im M t d n0 s0 (if q then X else none) pc loc st S) : G2 κ im M t d n0 s0 X pc loc st S := by
  rw [if_pos hq] at h
  exact h
theorem g2_ck {q : Prop} [Decidable q] (k : q → G2 κ im M t d n0 s0 X pc loc st S) : G2 κ im M t d n0 s0 (if q then X else none) pc loc st S := by
  split
  · next h => exact k h
  · exact g2_none
theorem g2_ite {q : Prop} [Decidable q] (k1 : q → G2 κ im M t d n0 s0 A pc loc st S) (k2 : ¬ q → G2 κ im M t d n0 s0 B pc loc st S) : G2 κ im M t d n0 s0 (if q then A else B) pc loc st S := by
  split
  · next h => exact k1 h
  · next h => exact k2 h
theorem g2_step {op pc2 : Nat} {loc2 : ev_L} {st2 : List ev_V} {S2 : sS} (hc : M.2.2.2.2 pc = (op, (nx, (a, (b, (c', tg)))))) (hop : op ∈ ev_op1) (hn : sn S ≤ sn S2 ∧ ss S ≤ ss S2 ∧ EXT S S2) (hSF : SF S2)
    (h : ∀ (Φ : ev_P) (M : ev_M) (w : ev_W) (c9 s9 : Nat), WS w S → w.2.2.2 = (c9, s9) → c9 + (sn S2 - sn S).toNat ≤ M.2.1 → s9 + (ss S2 - ss S).toNat ≤ M.2.2.1 → sn S2 ≤ 1000000 →
      ∃ w2, WS w2 S2 ∧ w2.2.2.2 = (c9 + (sn S2 - sn S).toNat, s9 + (ss S2 - ss S).toNat) ∧ ∀ (k : ev_N) (cl : ev_F), ev_sel op Φ M k cl nx a b c' tg pc loc st w = k pc2 loc2 st2 w2)
    (hk : G2 κ im M t d n0 s0 X pc2 loc2 st2 S2) : G2 κ im M t d n0 s0 X pc loc st S := by
  intro v S' hX
  obtain ⟨h1, h2, h3⟩ := hk v S' hX
  refine ⟨⟨Int.le_trans hn.1 h1.1, Int.le_trans hn.2.1 h1.2.1, ext_t hn.2.2 h1.2.2⟩, h2, fun k1 k2 k3 p e s m args below meth c hκ hF hE => ?_⟩
  have go := h3 (by omega) (by omega) k3 p e s m args below meth c hκ hF hE
  obtain ⟨w2, w1, wz, wk⟩ := h κ.2.2.2.2.2.2.2.2.1 (M.1, ((sn S' - n0).toNat, ((ss S' - s0).toNat, M.2.2.2))) (cW S (sn S - n0).toNat (ss S - s0).toNat) (sn S - n0).toNat (ss S - s0).toNat ws_c rfl (by show _ ≤ (sn S' - n0).toNat; omega) (by show _ ≤ (ss S' - s0).toNat; omega) (by omega)
  have hok := hE pc
  rw [hc] at hok
  refine ev_one (M := (M.1, ((sn S' - n0).toNat, ((ss S' - s0).toNat, M.2.2.2)))) (Φ := κ.2.2.2.2.2.2.2.2.1) (k := kG (cxG κ p e (ev_rm d (sn S' - n0).toNat (ss S' - s0).toNat) s m args below meth c (MQ below (QG κ t v S') args s (sn S' - n0).toNat (ss S' - s0).toNat (ev_A κ.2.2.1 κ.2.2.2.1)) M.1)) (cl := fun _ _ _ => none) (r := ev_r0) (y := im.1) (ret := im.2.2.1) hκ.1.1 hκ.1.2.1 hF.1 hF.2.1 ⟨Nat.le_refl _, Nat.le_refl _⟩ ⟨by show 1 ≤ 10 + d; omega, by show 100 ≤ 100 + 70 * d; omega⟩ kG_o hop (hok.1 hop) ?_
  rw [wk]
  refine kG_t ?_
  refine ws_Go w1 hSF wz ?_
  rw [show (sn S - n0).toNat + (sn S2 - sn S).toNat = (sn S2 - n0).toNat by omega, show (ss S - s0).toNat + (ss S2 - ss S).toNat = (ss S2 - s0).toNat by omega]
  exact go
/-- an instruction that leaves the heap as it is -/
theorem g2_sl {op pc2 : Nat} {loc2 : ev_L} {st2 : List ev_V} (hc : M.2.2.2.2 pc = (op, (nx, (a, (b, (c', tg)))))) (hop : op ∈ ev_op1)
    (h : ∀ (Φ : ev_P) (M : ev_M) (w : ev_W) (k : ev_N) (cl : ev_F), WS w S → sn S ≤ 1000000 → ev_sel op Φ M k cl nx a b c' tg pc loc st w = k pc2 loc2 st2 w)
    (hk : G2 κ im M t d n0 s0 X pc2 loc2 st2 S) : G2 κ im M t d n0 s0 X pc loc st S := by
  intro v S' hX
  obtain ⟨h1, h2, h3⟩ := hk v S' hX
  refine ⟨h1, h2, fun k1 k2 k3 p e s m args below meth c hκ hF hE => ?_⟩
  have go := h3 k1 k2 k3 p e s m args below meth c hκ hF hE
  have hok := hE pc
  rw [hc] at hok
  refine ev_one (M := (M.1, ((sn S' - n0).toNat, ((ss S' - s0).toNat, M.2.2.2)))) (Φ := κ.2.2.2.2.2.2.2.2.1) (k := kG (cxG κ p e (ev_rm d (sn S' - n0).toNat (ss S' - s0).toNat) s m args below meth c (MQ below (QG κ t v S') args s (sn S' - n0).toNat (ss S' - s0).toNat (ev_A κ.2.2.1 κ.2.2.2.1)) M.1)) (cl := fun _ _ _ => none) (r := ev_r0) (y := im.1) (ret := im.2.2.1) hκ.1.1 hκ.1.2.1 hF.1 hF.2.1 ⟨Nat.le_refl _, Nat.le_refl _⟩ ⟨by show 1 ≤ 10 + d; omega, by show 100 ≤ 100 + 70 * d; omega⟩ kG_o hop (hok.1 hop) ?_
  rw [h _ _ _ _ _ ws_c (by omega)]
  exact kG_t go
theorem g2_br {op : Nat} {q : Prop} [Decidable q] {tp fp : Nat} (hc : M.2.2.2.2 pc = (op, (nx, (a, (b, (c', tg)))))) (hop : op ∈ ev_op1) (h : ∀ (Φ : ev_P) (M : ev_M) (w : ev_W) (k : ev_N) (cl : ev_F), ev_sel op Φ M k cl nx a b c' tg pc loc st w = ev_br (some (decide q)) (k tp loc r w) (k fp loc r w))
    (k1 : q → G2 κ im M t d n0 s0 A tp loc r S) (k2 : ¬ q → G2 κ im M t d n0 s0 B fp loc r S) : G2 κ im M t d n0 s0 (if q then A else B) pc loc st S := by
  split
  · next hq => exact g2_sl hc hop (fun Φ M w k cl _ _ => by rw [h, decide_eq_true hq]; rfl) (k1 hq)
  · next hq => exact g2_sl hc hop (fun Φ M w k cl _ _ => by rw [h, decide_eq_false hq]; rfl) (k2 hq)
theorem g2_int (hc : M.2.2.2.2 pc = (1, (nx, (a, (b, (c', tg)))))) (x : Int) (hx : (x % 4294967296).toNat = a) (k : G2 κ im M t d n0 s0 X nx loc (sI x :: st) S) : G2 κ im M t d n0 s0 X pc loc st S :=
  g2_sl hc (by decide) (fun Φ M w k cl _ _ => by subst hx; rfl) k
theorem g2_null (hc : M.2.2.2.2 pc = (2, (nx, (a, (b, (c', tg)))))) (k : G2 κ im M t d n0 s0 X nx loc (sR (-1) :: st) S) : G2 κ im M t d n0 s0 X pc loc st S :=
  g2_sl hc (by decide) (fun Φ M w k cl _ _ => rfl) k
theorem g2_iload (hc : M.2.2.2.2 pc = (6, (nx, (a, (b, (c', tg)))))) (hl : ev_lg loc a = some (some (sI x))) (k : G2 κ im M t d n0 s0 X nx loc (sI x :: st) S) : G2 κ im M t d n0 s0 X pc loc st S :=
  g2_sl hc (by decide) (fun Φ M w k cl _ _ => by
    show ev_h_iload Φ M k cl nx a b c' tg pc loc st w = _
    unfold ev_h_iload
    rw [hl]
    rfl) k
theorem g2_aload (hc : M.2.2.2.2 pc = (7, (nx, (a, (b, (c', tg)))))) (hl : ev_lg loc a = some (some (sR x))) (k : G2 κ im M t d n0 s0 X nx loc (sR x :: st) S) : G2 κ im M t d n0 s0 X pc loc st S :=
  g2_sl hc (by decide) (fun Φ M w k cl _ _ => by
    show ev_h_aload Φ M k cl nx a b c' tg pc loc st w = _
    unfold ev_h_aload
    rw [hl]
    rfl) k
theorem g2_istore {loc2 : ev_L} (hc : M.2.2.2.2 pc = (9, (nx, (a, (b, (c', tg)))))) (hn : ev_nw loc a = true) (h2 : ev_ls loc a (some (sI x)) = loc2) (k : G2 κ im M t d n0 s0 X nx loc2 r S) : G2 κ im M t d n0 s0 X pc loc (sI x :: r) S :=
  g2_sl hc (by decide) (fun Φ M w k cl _ _ => by
    subst h2
    show ev_if (ev_ii (sI x) && ev_nw loc a) _ _ = _
    rw [hn]
    rfl) k
theorem g2_astore {loc2 : ev_L} (hc : M.2.2.2.2 pc = (10, (nx, (a, (b, (c', tg)))))) (hn : ev_nw loc a = true) (h2 : ev_ls loc a (some (sR x)) = loc2) (k : G2 κ im M t d n0 s0 X nx loc2 r S) : G2 κ im M t d n0 s0 X pc loc (sR x :: r) S :=
  g2_sl hc (by decide) (fun Φ M w k cl _ _ => by
    subst h2
    show ev_if (ev_ir (sR x) && ev_nw loc a) _ _ = _
    rw [hn]
    rfl) k
theorem g2_iinc {loc2 : ev_L} (hc : M.2.2.2.2 pc = (12, (nx, (a, (b, (c', tg)))))) (hl : ev_lg loc a = some (some (sI x))) (hn : ev_nw loc a = true) (y : Int) (hy : (y % 4294967296).toNat = b) (h2 : ev_ls loc a (some (sI (w32 (x + y)))) = loc2) (k : G2 κ im M t d n0 s0 X nx loc2 st S) : G2 κ im M t d n0 s0 X pc loc st S :=
  g2_sl hc (by decide) (fun Φ M w kk cl _ _ => by
    subst h2
    show ev_h_iinc Φ M kk cl nx a b c' tg pc loc st w = _
    unfold ev_h_iinc
    rw [hl, sI_w32]
    show ev_if (ev_nw loc a) (kk nx (ev_ls loc a (some (.inl (((x % 4294967296).toNat + b) % 4294967296)))) st w) none = _
    rw [hn]
    show kk nx (ev_ls loc a (some (.inl (((x % 4294967296).toNat + b) % 4294967296)))) st w = kk nx (ev_ls loc a (some (.inl ((x + y) % 4294967296).toNat))) st w
    rw [show ((x % 4294967296).toNat + b) % 4294967296 = ((x + y) % 4294967296).toNat by omega]) k
theorem g2_iadd (hc : M.2.2.2.2 pc = (13, (nx, (a, (b, (c', tg)))))) (k : G2 κ im M t d n0 s0 X nx loc (sI (w32 (x + y)) :: r) S) : G2 κ im M t d n0 s0 X pc loc (sI y :: sI x :: r) S :=
  g2_sl hc (by decide) (fun Φ M w k cl _ _ => by
    show k nx loc (.inl (((x % 4294967296).toNat + (y % 4294967296).toNat) % 4294967296) :: r) w = _
    rw [sI_w32]
    show _ = k nx loc (.inl ((x + y) % 4294967296).toNat :: r) w
    rw [show ((x % 4294967296).toNat + (y % 4294967296).toNat) % 4294967296 = ((x + y) % 4294967296).toNat by omega]) k
theorem g2_isub (hc : M.2.2.2.2 pc = (14, (nx, (a, (b, (c', tg)))))) (k : G2 κ im M t d n0 s0 X nx loc (sI (w32 (x - y)) :: r) S) : G2 κ im M t d n0 s0 X pc loc (sI y :: sI x :: r) S :=
  g2_sl hc (by decide) (fun Φ M w k cl _ _ => by
    show k nx loc (.inl (((x % 4294967296).toNat + (4294967296 - (y % 4294967296).toNat % 4294967296)) % 4294967296) :: r) w = _
    rw [sI_w32]
    show _ = k nx loc (.inl ((x - y) % 4294967296).toNat :: r) w
    rw [show ((x % 4294967296).toNat + (4294967296 - (y % 4294967296).toNat % 4294967296)) % 4294967296 = ((x - y) % 4294967296).toNat by omega]) k
theorem g2_ibin (hc : M.2.2.2.2 pc = (15, (nx, (a, (b, (c', tg)))))) (k : G2 κ im M t d n0 s0 X nx loc (sI (opI a x y) :: r) S) : G2 κ im M t d n0 s0 X pc loc (sI y :: sI x :: r) S :=
  g2_sl hc (by decide) (fun Φ M w k cl _ _ => by
    show k nx loc (.inl (ev_n (ev_opI a (nI (x % 4294967296).toNat) (nI (y % 4294967296).toNat))) :: r) w = _
    rw [ev_n_sI]
    rfl) k
theorem g2_div (hc : M.2.2.2.2 pc = (47, (nx, (0, (b, (c', tg)))))) (h : 1 ≤ y ∧ y < 2147483648 ∧ 0 ≤ x ∧ x < 2147483648) (k : G2 κ im M t d n0 s0 X nx loc (sI (x / y) :: r) S) : G2 κ im M t d n0 s0 X pc loc (sI y :: sI x :: r) S :=
  g2_sl hc (by decide) (fun Φ M w k cl _ _ => by
    obtain ⟨h1, h2, h3, h4⟩ := h
    obtain ⟨m, rfl⟩ := Int.eq_ofNat_of_zero_le h3
    obtain ⟨n, rfl⟩ := Int.eq_ofNat_of_zero_le (show 0 ≤ y by omega)
    have e1 : sI (m : Int) = .inl m := by unfold sI; congr 1; omega
    have e2 : sI (n : Int) = .inl n := by unfold sI; congr 1; omega
    have e4 : m / n ≤ m := Nat.div_le_self _ _
    have e3 : sI ((m : Int) / (n : Int)) = .inl (m / n) := by
      rw [show (m : Int) / (n : Int) = ((m / n : Nat) : Int) from rfl]
      generalize m / n = z at e4 ⊢
      unfold sI
      congr 1
      omega
    rw [e1, e2, e3]
    show ev_if (Nat.ble 1 n && (Nat.ble (n + 1) 2147483648 && Nat.ble (m + 1) 2147483648)) _ _ = _
    rw [Nat.ble_eq.mpr (show 1 ≤ n by omega), Nat.ble_eq.mpr (show n + 1 ≤ 2147483648 by omega), Nat.ble_eq.mpr (show m + 1 ≤ 2147483648 by omega)]
    rfl) k
theorem g2_rem (hc : M.2.2.2.2 pc = (47, (nx, (1, (b, (c', tg)))))) (h : 1 ≤ y ∧ y < 2147483648 ∧ 0 ≤ x ∧ x < 2147483648) (k : G2 κ im M t d n0 s0 X nx loc (sI (x % y) :: r) S) : G2 κ im M t d n0 s0 X pc loc (sI y :: sI x :: r) S :=
  g2_sl hc (by decide) (fun Φ M w k cl _ _ => by
    obtain ⟨h1, h2, h3, h4⟩ := h
    obtain ⟨m, rfl⟩ := Int.eq_ofNat_of_zero_le h3
    obtain ⟨n, rfl⟩ := Int.eq_ofNat_of_zero_le (show 0 ≤ y by omega)
    have e1 : sI (m : Int) = .inl m := by unfold sI; congr 1; omega
    have e2 : sI (n : Int) = .inl n := by unfold sI; congr 1; omega
    have e4 : m % n ≤ m := Nat.mod_le _ _
    have e3 : sI ((m : Int) % (n : Int)) = .inl (m % n) := by
      rw [show (m : Int) % (n : Int) = ((m % n : Nat) : Int) from rfl]
      generalize m % n = z at e4 ⊢
      unfold sI
      congr 1
      omega
    rw [e1, e2, e3]
    show ev_if (Nat.ble 1 n && (Nat.ble (n + 1) 2147483648 && Nat.ble (m + 1) 2147483648)) _ _ = _
    rw [Nat.ble_eq.mpr (show 1 ≤ n by omega), Nat.ble_eq.mpr (show n + 1 ≤ 2147483648 by omega), Nat.ble_eq.mpr (show m + 1 ≤ 2147483648 by omega)]
    rfl) k
theorem g2_ifeq (hc : M.2.2.2.2 pc = (16, (nx, (0, (b, (c', tg)))))) (hx : InR x) (k1 : x = 0 → G2 κ im M t d n0 s0 A b loc r S) (k2 : ¬ x = 0 → G2 κ im M t d n0 s0 B c' loc r S) : G2 κ im M t d n0 s0 (if x = 0 then A else B) pc loc (sI x :: r) S :=
  g2_br (r := r) hc (by decide) (fun Φ M w k cl => by rw [gq_16, gq_0, gq_c0 hx inR_0]) k1 k2
theorem g2_iflt (hc : M.2.2.2.2 pc = (16, (nx, (1, (b, (c', tg)))))) (hx : InR x) (k1 : x < 0 → G2 κ im M t d n0 s0 A b loc r S) (k2 : ¬ x < 0 → G2 κ im M t d n0 s0 B c' loc r S) : G2 κ im M t d n0 s0 (if x < 0 then A else B) pc loc (sI x :: r) S :=
  g2_br (r := r) hc (by decide) (fun Φ M w k cl => by rw [gq_16, gq_0, gq_c1 hx inR_0]) k1 k2
theorem g2_ifgt (hc : M.2.2.2.2 pc = (16, (nx, (2, (b, (c', tg)))))) (hx : InR x) (k1 : 0 < x → G2 κ im M t d n0 s0 A b loc r S) (k2 : ¬ 0 < x → G2 κ im M t d n0 s0 B c' loc r S) : G2 κ im M t d n0 s0 (if 0 < x then A else B) pc loc (sI x :: r) S :=
  g2_br (r := r) hc (by decide) (fun Φ M w k cl => by rw [gq_16, gq_0, gq_c2 hx inR_0]) k1 k2
theorem g2_cmeq (hc : M.2.2.2.2 pc = (17, (nx, (0, (b, (c', tg)))))) (hx : InR x) (hy : InR y) (k1 : x = y → G2 κ im M t d n0 s0 A b loc r S) (k2 : ¬ x = y → G2 κ im M t d n0 s0 B c' loc r S) : G2 κ im M t d n0 s0 (if x = y then A else B) pc loc (sI y :: sI x :: r) S :=
  g2_br (r := r) hc (by decide) (fun Φ M w k cl => by rw [gq_17, gq_c0 hx hy]) k1 k2
theorem g2_cmlt (hc : M.2.2.2.2 pc = (17, (nx, (1, (b, (c', tg)))))) (hx : InR x) (hy : InR y) (k1 : x < y → G2 κ im M t d n0 s0 A b loc r S) (k2 : ¬ x < y → G2 κ im M t d n0 s0 B c' loc r S) : G2 κ im M t d n0 s0 (if x < y then A else B) pc loc (sI y :: sI x :: r) S :=
  g2_br (r := r) hc (by decide) (fun Φ M w k cl => by rw [gq_17, gq_c1 hx hy]) k1 k2
theorem g2_cmgt (hc : M.2.2.2.2 pc = (17, (nx, (2, (b, (c', tg)))))) (hx : InR x) (hy : InR y) (k1 : y < x → G2 κ im M t d n0 s0 A b loc r S) (k2 : ¬ y < x → G2 κ im M t d n0 s0 B c' loc r S) : G2 κ im M t d n0 s0 (if y < x then A else B) pc loc (sI y :: sI x :: r) S :=
  g2_br (r := r) hc (by decide) (fun Φ M w k cl => by rw [gq_17, gq_c2 hx hy]) k1 k2
theorem g2_acmp (hc : M.2.2.2.2 pc = (18, (nx, (a, (b, (c', tg)))))) (hx : RfO x) (hy : RfO y) (k1 : x = y → G2 κ im M t d n0 s0 A b loc r S) (k2 : ¬ x = y → G2 κ im M t d n0 s0 B c' loc r S) : G2 κ im M t d n0 s0 (if x = y then A else B) pc loc (sR y :: sR x :: r) S :=
  g2_br (r := r) hc (by decide) (fun Φ M w k cl => by
    unfold RfO at hx hy
    show ev_if (ev_own (if x < 0 then none else some x.toNat) && ev_own (if y < 0 then none else some y.toNat)) (ev_if (ev_oeq (if x < 0 then none else some x.toNat) (if y < 0 then none else some y.toNat)) (k b loc r w) (k c' loc r w)) none = _
    have ow : ∀ z : Int, z < 1000000 → ev_own (if z < 0 then none else some z.toNat) = true := by
      intro z hz
      split
      · rfl
      · exact Nat.ble_eq.mpr (by omega)
    rw [ow x (by have := hx.2; omega), ow y (by have := hy.2; omega)]
    have oe : ev_oeq (if x < 0 then none else some x.toNat) (if y < 0 then none else some y.toNat) = decide (x = y) := by
      by_cases h1 : x < 0
      · by_cases h2 : y < 0
        · rw [if_pos h1, if_pos h2, decide_eq_true (by omega)]
          rfl
        · rw [if_pos h1, if_neg h2, decide_eq_false (by omega)]
          rfl
      · by_cases h2 : y < 0
        · rw [if_neg h1, if_pos h2, decide_eq_false (by omega)]
          rfl
        · rw [if_neg h1, if_neg h2]
          show Nat.beq x.toNat y.toNat = _
          by_cases h3 : x = y
          · rw [h3, decide_eq_true rfl]
            exact Nat.beq_refl _
          · rw [decide_eq_false h3]
            exact Bool.eq_false_iff.mpr (fun z => h3 (by have := Nat.eq_of_beq_eq_true z; omega))
    rw [oe]
    cases decide (x = y) <;> rfl) k1 k2
theorem g2_isnull (hc : M.2.2.2.2 pc = (19, (nx, (a, (b, (c', tg)))))) (k1 : x < 0 → G2 κ im M t d n0 s0 A b loc r S) (k2 : ¬ x < 0 → G2 κ im M t d n0 s0 B c' loc r S) : G2 κ im M t d n0 s0 (if x < 0 then A else B) pc loc (sR x :: r) S :=
  g2_br (r := r) hc (by decide) (fun Φ M w k cl => by
    unfold sR
    by_cases h : x < 0
    · rw [if_pos h, decide_eq_true h]
      rfl
    · rw [if_neg h, decide_eq_false h]
      rfl) k1 k2
theorem g2_goto (hc : M.2.2.2.2 pc = (20, (nx, (a, (b, (c', tg)))))) (k : G2 κ im M t d n0 s0 X nx loc st S) : G2 κ im M t d n0 s0 X pc loc st S := g2_sl hc (by decide) (fun Φ M w k cl _ _ => rfl) k
theorem g2_dupI (hc : M.2.2.2.2 pc = (21, (nx, (a, (b, (c', tg)))))) (k : G2 κ im M t d n0 s0 X nx loc (sI x :: sI x :: r) S) : G2 κ im M t d n0 s0 X pc loc (sI x :: r) S := g2_sl hc (by decide) (fun Φ M w k cl _ _ => rfl) k
theorem g2_dupR (hc : M.2.2.2.2 pc = (21, (nx, (a, (b, (c', tg)))))) (k : G2 κ im M t d n0 s0 X nx loc (sR x :: sR x :: r) S) : G2 κ im M t d n0 s0 X pc loc (sR x :: r) S := g2_sl hc (by decide) (fun Φ M w k cl _ _ => rfl) k
theorem g2_dup2 (hc : M.2.2.2.2 pc = (22, (nx, (a, (b, (c', tg)))))) (k : G2 κ im M t d n0 s0 X nx loc (sI x :: sR y :: sI x :: sR y :: r) S) : G2 κ im M t d n0 s0 X pc loc (sI x :: sR y :: r) S := g2_sl hc (by decide) (fun Φ M w k cl _ _ => rfl) k
theorem g2_popI (hc : M.2.2.2.2 pc = (23, (nx, (a, (b, (c', tg)))))) (k : G2 κ im M t d n0 s0 X nx loc r S) : G2 κ im M t d n0 s0 X pc loc (sI x :: r) S := g2_sl hc (by decide) (fun Φ M w k cl _ _ => rfl) k
theorem g2_popR (hc : M.2.2.2.2 pc = (23, (nx, (a, (b, (c', tg)))))) (k : G2 κ im M t d n0 s0 X nx loc r S) : G2 κ im M t d n0 s0 X pc loc (sR x :: r) S := g2_sl hc (by decide) (fun Φ M w k cl _ _ => rfl) k
theorem g2_swh {lo hi : Int} {i tp : Nat} (hc : M.2.2.2.2 pc = (42, (nx, (a, (b, (c', tg)))))) (ha : (lo + 2147483648).toNat = a) (hb : (hi + 2147483648).toNat = b) (hx : x = lo + i) (hr : -2147483648 ≤ lo ∧ lo + i ≤ hi ∧ hi < 2147483648) (ht : ev_lg tg i = some tp) (k : G2 κ im M t d n0 s0 X tp loc r S) : G2 κ im M t d n0 s0 X pc loc (sI x :: r) S := by
  have hi' : InR x := by unfold InR; omega
  have hu := fun (Φ : ev_P) => gq_itv (Φ := Φ) hi'
  have h1 : a ≤ (x + 2147483648).toNat := by omega
  have h2 : (x + 2147483648).toNat ≤ b := by omega
  have h3 : (x + 2147483648).toNat - a = i := by omega
  generalize (x + 2147483648).toNat = u at hu h1 h2 h3
  exact g2_sl hc (by decide) (fun Φ M w kk cl _ _ => by
    rw [gq_42, gq_sw (hu Φ), gq_bf (show a < u + 1 by omega), gq_bf (show u < b + 1 by omega), show Nat.beq u u = true from Nat.beq_refl _, Nat.ble_eq.mpr h1, Nat.ble_eq.mpr h2, h3, ht]
    rfl) k
theorem g2_swd {lo hi : Int} (hc : M.2.2.2.2 pc = (42, (nx, (a, (b, (c', tg)))))) (ha : (lo + 2147483648).toNat = a) (hb : (hi + 2147483648).toNat = b) (hi' : InR x) (hr : x < lo ∨ hi < x) (hlo : -2147483648 ≤ lo ∧ -2147483648 ≤ hi) (k : G2 κ im M t d n0 s0 X c' loc r S) : G2 κ im M t d n0 s0 X pc loc (sI x :: r) S := by
  have hu := fun (Φ : ev_P) => gq_itv (Φ := Φ) hi'
  unfold InR at hi'
  have h1 : (Nat.ble ((x + 2147483648).toNat + 1) a || Nat.ble (b + 1) (x + 2147483648).toNat) = true := by
    rw [Bool.or_eq_true, Nat.ble_eq, Nat.ble_eq]
    omega
  generalize (x + 2147483648).toNat = u at hu h1
  exact g2_sl hc (by decide) (fun Φ M w kk cl _ _ => by
    rw [gq_42, gq_sw (hu Φ), h1]
    rfl) k
end G2
