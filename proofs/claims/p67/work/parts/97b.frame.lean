/-! ===== a frame: what the evaluator's state says of the machine's; the instructions without the heap (own work) ===== -/
noncomputable def ev_fv (b : ev_B) (B0 : Nat) (σ : Nat → Int32) (d : List (List (List ev_V))) (k : Nat) : Value := match ev_get d k with
  | some v => ev_dn b B0 σ v
  | none => .null
def ev_ty (k : Nat) : FieldType := match k with
  | 20 => .int
  | 21 => .byte
  | 22 => .boolean
  | 23 => .long
  | 24 => .object RX3
  | 25 => .object RX5
  | 26 => .object "java/lang/Object"
  | 27 => .object RX7
  | _ => .object RJ0
def ev_tys (aC : Nat → ClassId) : List (ClassId × FieldType) := [(aC 20, ev_ty 20), (aC 21, ev_ty 21), (aC 24, ev_ty 24), (aC 25, ev_ty 25), (aC 26, ev_ty 26), (aC 27, ev_ty 27), (aC 28, ev_ty 28)]
/-- the kinds of arrays -/
def ev_ak (k : Nat) : Prop := k = 20 ∨ k = 21 ∨ k = 24 ∨ k = 25 ∨ k = 26 ∨ k = 27 ∨ k = 28
/-- a thing lies at a -/
def ev_at (D : va_G) (aC : Nat → ClassId) (b : ev_B) (B0 : Nat) (σ : Nat → Int32) (a : Nat) (q : ev_C) (H : Heap) : Prop :=
  q.1 = 99 ∨ (∃ r, vwCl[q.1]? = some r ∧ t_OB a (D.1 q.1) r.2.2 (D.2 q.1) H (ev_fv b B0 σ q.2.2)) ∨ (ev_ak q.1 ∧ 20 ≤ q.1 ∧ H[a]? = some (arrV (aC q.1) q.2.1 (ev_fv b B0 σ q.2.2)))
/-- the world's things lie in the heap -/
def ev_J (D : va_G) (aC : Nat → ClassId) (b : ev_B) (B0 : Nat) (σ : Nat → Int32) (w : ev_W) (H : Heap) : Prop :=
  (∀ i q, ev_get w.1 i = some q → (i < 1000000 ∧ i < b.2.2) ∧ ev_at D aC b B0 σ (B0 + i) q H) ∧ B0 + w.2.1 ≤ H.size ∧ (w.2.2.1 = true → H.size = B0 + w.2.1)
/-- the words that aren't good ones, but go along -/
def ev_bw : Cond → Bool
  | .castable _ _ => true
  | .fieldLinkNest _ _ _ _ _ _ => true
  | .methodLinkNest _ _ _ _ => true
  | .arrayOver (.object _) => true
  | .declares _ => true
  | _ => false
/-- the exceptions: class, and the classes above it but Throwable -/
def ev_ex (E : Nat) : String := match E with
  | 0 => "java/lang/IllegalArgumentException"
  | 1 => "java/lang/IllegalStateException"
  | 2 => "java/lang/IndexOutOfBoundsException"
  | _ => "java/util/NoSuchElementException"
/-- what a frame takes from the tables -/
def ev_VF (D : va_G) (aC : Nat → ClassId) (Sg : List (String × (Nat × String))) (U : State) : Prop :=
  va_K D vwCl (ev_tys aC) U ∧ (∀ w ∈ lw_tbl, ev_bw w = true → w.before #[] U = true) ∧ (∀ q ∈ Sg, ∃ sa, vk_R q.1 q.2.1 q.2.2 sa U) ∧ (∀ i j, i < 4 → j < 4 → i ≠ j → va_Nc (ev_ex i) (ev_ex j) U)
/-- .. and from the heap below the world -/
def ev_so : List (String × (Nat × String)) := [("OrphanTree$SetupReader", (60, "order")), ("OrphanTree$SetupReader", (70, "deep")), ("OrphanTree$SetupReader", (75, "root")), ("OrphanTree$SetupReader", (80, "process")), ("OrphanTree$SetupReader", (85, "heir")), ("OrphanTree$SetupReader", (90, "duty")), ("OrphanTree$SetupReader", (95, "refuse")), ("OrphanTree$SetupReader", (100, "will")), ("OrphanTree$SetupReader", (123, "near")), ("OrphanTree$SetupReader", (125, "group")), ("OrphanTree$SetupReader", (127, "room")), ("OrphanTree$SetupReader", (129, "kin")), ("OrphanTree$SetupReader", (131, "old")), ("OrphanTree$SetupReader", (60, "order")), ("OrphanTree$SetupReader", (70, "deep")), ("OrphanTree$SetupReader", (75, "root")), ("OrphanTree$SetupReader", (80, "process")), ("OrphanTree$SetupReader", (85, "heir")), ("OrphanTree$SetupReader", (90, "duty")), ("OrphanTree$SetupReader", (95, "refuse")), ("OrphanTree$SetupReader", (100, "will")), ("OrphanTree$SetupReader", (123, "near")), ("OrphanTree$SetupReader", (125, "group")), ("OrphanTree$SetupReader", (127, "room")), ("OrphanTree$SetupReader", (129, "kin")), ("OrphanTree$SetupReader", (131, "old"))]
/-- the k-th text constant: whose, its place, the text -/
def ev_sk (k : Nat) : String × (Nat × String) := ev_so.getD k ("", (0, ""))
/-- its bytes -/
noncomputable def ev_bt (k : Nat) : List Nat := (ev_txt k).getD []
/-- the texts as they lie in the heap below the world -/
def ev_SZ (b : ev_B) (B0 : Nat) (U : State) (H : Heap) : Prop :=
  va_Z "java/lang/String" "COMPACT_STRINGS" "Z" (.int 1) (ev_A b B0) U H ∧ (∃ fv : Value, (fv = .null ∨ ∃ z, fv = .ref z) ∧ va_Z "jdk/internal/util/Preconditions" "SIOOBE_FORMATTER" "Ljava/util/function/BiFunction;" fv (ev_A b B0) U H) ∧ ∀ k, k < 26 → vk_R (ev_sk k).1 (ev_sk k).2.1 (ev_sk k).2.2 (b.2.1 k) U ∧ va_O "java/lang/String" (b.2.1 k) (ev_A b B0) U H ∧ va_OF "java/lang/String" "coder" "B" (.int 0) (b.2.1 k) (ev_A b B0) U H ∧ ∃ v, va_OF "java/lang/String" "value" "[B" (.ref v) (b.2.1 k) (ev_A b B0) U H ∧ va_T .byte v (ev_bt k).length (fun j => .int (nI ((ev_bt k).getD j 0))) (ev_A b B0) U H
def ev_ZF (b : ev_B) (B0 L : Nat) (σ : Nat → Int32) (U : State) (H : Heap) : Prop :=
  va_X b.1 L σ U H ∧ vx_Zq Bundle.tN "UNASSIGNED_STACK" Bundle.steD (ev_A b B0) U H ∧ vx_Zq Bundle.tN "SUPPRESSED_SENTINEL" Bundle.listD (ev_A b B0) U H ∧ ev_SZ b B0 U H
def ev_lh (b : ev_B) (B0 : Nat) (σ : Nat → Int32) (nL : Nat) (loc : ev_L) (ls : Array Slot) : Prop :=
  ls.size = nL ∧ lv_wf ls ∧ ∀ i v, ev_lg loc i = some (some v) → ls[i]? = some (.val (ev_dn b B0 σ v))
/-- the known locals as a list -/
noncomputable def ev_ll (b : ev_B) (B0 : Nat) (σ : Nat → Int32) (loc : ev_L) : List (Nat × Value) := (List.range loc.length).filterMap (fun i => match ev_lg loc i with
  | some (some v) => some (i, ev_dn b B0 σ v)
  | _ => none)
section EVF
variable {D : va_G} {aC : Nat → ClassId} {b : ev_B} {B0 L : Nat} {σ : Nat → Int32}
theorem ev_ll_in {loc : ev_L} {q : Nat × Value} : q ∈ ev_ll b B0 σ loc ↔ ∃ v, ev_lg loc q.1 = some (some v) ∧ q.2 = ev_dn b B0 σ v := by
  unfold ev_ll
  rw [List.mem_filterMap]
  constructor
  · rintro ⟨i, -, h⟩
    split at h
    · next v hv =>
      cases h
      exact ⟨v, hv, rfl⟩
    · cases h
  · rintro ⟨v, h1, h2⟩
    refine ⟨q.1, ?_, ?_⟩
    · rw [ev_lg_eq] at h1
      exact List.mem_range.mpr (List.getElem?_eq_some_iff.mp h1).1
    · rw [h1]
      show some (q.1, ev_dn b B0 σ v) = some q
      rw [← h2]
theorem ev_lh_has {nL : Nat} {loc : ev_L} {ls : Array Slot} (h : ev_lh b B0 σ nL loc ls) : lv_has ls nL (ev_ll b B0 σ loc) := by
  refine ⟨h.1, h.2.1, fun q hq => ?_⟩
  obtain ⟨v, h1, h2⟩ := ev_ll_in.mp hq
  rw [h2]
  exact h.2.2 _ _ h1
theorem ev_lh_st1 {nL a : Nat} {loc : ev_L} {ls' : Array Slot} {o : Option ev_V} {x : Value} (hw : ev_nw loc a = true) (hx : ∀ v, o = some v → ev_dn b B0 σ v = x)
    (h : lv_has ls' nL ((a, x) :: (ev_ll b B0 σ loc).filter (fun q => !(q.1 == a) && !(q.1 + 1 == a && q.2.category == 2)))) : ev_lh b B0 σ nL (ev_ls loc a o) ls' := by
  refine ⟨h.1, h.2.1, fun j v hj => ?_⟩
  rw [ev_lg_eq, ev_ls_eq, List.getElem?_set] at hj
  by_cases e : a = j
  · subst e
    rw [if_pos rfl] at hj
    split at hj
    · cases hj
      rw [hx v rfl]
      exact h.2.2 _ List.mem_cons_self
    · cases hj
  · rw [if_neg e, ← ev_lg_eq] at hj
    refine h.2.2 (j, ev_dn b B0 σ v) (List.mem_cons_of_mem _ (List.mem_filter.mpr ⟨ev_ll_in.mpr ⟨v, hj, rfl⟩, ?_⟩))
    have e1 : (j == a) = false := by simpa using fun q : j = a => e q.symm
    simp only [e1, Bool.not_false, Bool.true_and, Bool.not_eq_true']
    by_cases e2 : j + 1 = a
    · subst e2
      unfold ev_nw at hw
      simp only [hj] at hw
      have hv : ev_wide v = false := by simpa using hw
      rw [ev_dn_c hv]
      simp
    · simp [e2]
theorem ev_lh_st2 {nL a : Nat} {loc : ev_L} {ls' : Array Slot} {v : ev_V} {x : Value} (hw : ev_nw loc a = true) (hx : ev_dn b B0 σ v = x)
    (h : lv_has ls' nL ((a, x) :: (ev_ll b B0 σ loc).filter (fun q => !(q.1 == a) && (!(q.1 == a + 1) && !(q.1 + 1 == a && q.2.category == 2))))) : ev_lh b B0 σ nL (ev_ls (ev_ls loc a (some v)) (a + 1) none) ls' := by
  refine ⟨h.1, h.2.1, fun j v' hj => ?_⟩
  rw [ev_lg_eq, ev_ls_eq, List.getElem?_set] at hj
  by_cases e0 : a + 1 = j
  · rw [if_pos e0] at hj
    split at hj
    · cases hj
    · cases hj
  · rw [if_neg e0, ev_ls_eq, List.getElem?_set] at hj
    by_cases e : a = j
    · subst e
      rw [if_pos rfl] at hj
      split at hj
      · cases hj
        rw [hx]
        exact h.2.2 _ List.mem_cons_self
      · cases hj
    · rw [if_neg e, ← ev_lg_eq] at hj
      refine h.2.2 (j, ev_dn b B0 σ v') (List.mem_cons_of_mem _ (List.mem_filter.mpr ⟨ev_ll_in.mpr ⟨v', hj, rfl⟩, ?_⟩))
      have e1 : (j == a) = false := by simpa using fun q : j = a => e q.symm
      have e3 : (j == a + 1) = false := by simpa using fun q : j = a + 1 => e0 q.symm
      simp only [e1, e3, Bool.not_false, Bool.true_and, Bool.not_eq_true']
      by_cases e2 : j + 1 = a
      · subst e2
        unfold ev_nw at hw
        simp only [hj] at hw
        have hv : ev_wide v' = false := by simpa using hw
        rw [ev_dn_c hv]
        simp
      · simp [e2]
theorem ev_at.kept {a : Nat} {q : ev_C} {H H1 : Heap} (h : ev_at D aC b B0 σ a q H) (e : H1[a]? = H[a]?) : ev_at D aC b B0 σ a q H1 := by
  rcases h with h | ⟨r, h1, h2⟩ | ⟨h1, h2, h3⟩
  · exact Or.inl h
  · exact Or.inr (Or.inl ⟨r, h1, h2.kept e⟩)
  · exact Or.inr (Or.inr ⟨h1, h2, e.trans h3⟩)
theorem ev_J_A {w : ev_W} {H : Heap} {i : Nat} {q : ev_C} (h : ev_J D aC b B0 σ w H) (hq : ev_get w.1 i = some q) : ev_A b B0 (B0 + i) := ⟨Nat.le_add_right _ _, by have := (h.1 i q hq).1.2; omega⟩
theorem ev_J_set {w : ev_W} {H H1 : Heap} {i : Nat} {q q' : ev_C} {x : List (List (List ev_C))} (h : ev_J D aC b B0 σ w H) (hq : ev_get w.1 i = some q) (hx : ∀ j, ev_get x j = if j = i then some q' else ev_get w.1 j) (h1 : ev_at D aC b B0 σ (B0 + i) q' H1) (hz : H1.size = H.size) (ho : ∀ x, x ≠ B0 + i → H1[x]? = H[x]?) : ev_J D aC b B0 σ (x, w.2) H1 := by
  refine ⟨fun j u hj => ?_, by rw [hz]; exact h.2.1, by rw [hz]; exact h.2.2⟩
  have hj : ev_get x j = some u := hj
  rw [hx] at hj
  by_cases e : j = i
  · subst e
    rw [if_pos rfl] at hj
    cases hj
    exact ⟨(h.1 j q hq).1, h1⟩
  · rw [if_neg e] at hj
    exact ⟨(h.1 j u hj).1, (h.1 j u hj).2.kept (ho _ (by omega))⟩
variable {p : Program} {l : Launch} {e : Env} {R : Room} {s : State} {m : MethodId} {args : Array Value} {below : List Frame} {meth : Method} {c : Code} {Q : State → Prop}
variable {cc : ByteArray} {nL : Nat} {Ts : List Cond} {own : String} {Sg : List (String × (Nat × String))}
/-- the machine goes on well from here -/
def ev_Go (D : va_G) (aC : Nat → ClassId) (b : ev_B) (B0 : Nat) (σ : Nat → Int32) (p : Program) (l : Launch) (e : Env) (R : Room) (s : State) (m : MethodId) (args : Array Value) (below : List Frame) (meth : Method) (c : Code) (Q : State → Prop) (nL : Nat) (pc : Nat) (loc : ev_L) (st : List ev_V) (w : ev_W) : Prop :=
  ∀ (H : Heap) (locs : List Loc) (ls : Array Slot), ev_lh b B0 σ nL loc ls → ev_J D aC b B0 σ w H → va_S (ev_A b B0) s.heap H locs →
    W p l e R s m args below meth c H locs w.2.2.2.1 w.2.2.2.2 Q (F0 m pc ls (st.map (ev_dn b B0 σ)))
/-- what holds in a frame -/
def ev_Fx (D : va_G) (aC : Nat → ClassId) (b : ev_B) (B0 L : Nat) (σ : Nat → Int32) (p : Program) (s : State) (m : MethodId) (args : Array Value) (meth : Method) (c : Code) (cc : ByteArray) (nL : Nat) (Ts : List Cond) (own : String) (Sg : List (String × (Nat × String))) : Prop :=
  p.tables.exec = Jvm.exec ∧ c.code = cc ∧ c.maxLocals = nL ∧ s.vm.findClass own = some m.cls ∧ (∀ w ∈ Ts, w.before args s = true) ∧ ev_VF D aC Sg s ∧ ev_ZF b B0 L σ s s.heap ∧ b.1 < B0 ∧ B0 ≤ s.heap.size ∧ meth.locks = false
variable {Φ : ev_P} {M : ev_M} {k : ev_N} {cl : ev_F} {nx a b' c' pc : Nat} {tg : List Nat} {loc : ev_L} {st : List ev_V} {w : ev_W} {r : ev_S}
/-- a pure step of the stack -/
theorem ev_pure {nx : Nat} {st st' : List ev_V} (hk : ∀ pc loc st w, k pc loc st w = some r → ev_Go D aC b B0 σ p l e R s m args below meth c Q nL pc loc st w) (h : k nx loc st' w = some r)
    (hr : ∀ (H : Heap) (locs : List Loc) (ls : Array Slot), ev_lh b B0 σ nL loc ls → W p l e R s m args below meth c H locs w.2.2.2.1 w.2.2.2.2 Q (F0 m nx ls (st'.map (ev_dn b B0 σ))) → W p l e R s m args below meth c H locs w.2.2.2.1 w.2.2.2.2 Q (F0 m pc ls (st.map (ev_dn b B0 σ)))) : ev_Go D aC b B0 σ p l e R s m args below meth c Q nL pc loc st w :=
  fun H locs ls hl hJ hS => hr H locs ls hl (hk _ _ _ _ h H locs ls hl hJ hS)
theorem ev_o_int (hF : ev_Fx D aC b B0 L σ p s m args meth c cc nL Ts own Sg) (hk : ∀ pc loc st w, k pc loc st w = some r → ev_Go D aC b B0 σ p l e R s m args below meth c Q nL pc loc st w) (h : ev_h_int Φ M k cl nx a b' c' tg pc loc st w = some r)
    (hi : (∃ n, decode cc pc = .ok (.iconst n, 1) ∧ Int32.ofInt n = nI a ∧ nx = pc + 1) ∨ (∃ n, decode cc pc = .ok (.bipush n, 2) ∧ (Int8.ofInt n).toInt32 = nI a ∧ nx = pc + 2) ∨ (∃ n, decode cc pc = .ok (.sipush n, 3) ∧ (Int16.ofInt n).toInt32 = nI a ∧ nx = pc + 3) ∨ (∃ (ix : Nat) (v : Int32), decode cc pc = .ok (.ldc ix, 2) ∧ v = nI a ∧ nx = pc + 2 ∧ Cond.constant own ix v ∈ Ts) ∨ (∃ (ix : Nat) (v : Int32), decode cc pc = .ok (.ldc_w ix, 3) ∧ v = nI a ∧ nx = pc + 3 ∧ Cond.constant own ix v ∈ Ts)) :
    ev_Go D aC b B0 σ p l e R s m args below meth c Q nL pc loc st w := by
  obtain ⟨hx, hb, -, ho, ht, -⟩ := hF
  refine ev_pure hk h fun H locs ls _ g => ?_
  rcases hi with ⟨n, d, v, rfl⟩ | ⟨n, d, v, rfl⟩ | ⟨n, d, v, rfl⟩ | ⟨ix, v, d, rfl, rfl, hw⟩ | ⟨ix, v, d, rfl, rfl, hw⟩
  · exact lv_iconst hx hb d v g
  · exact lv_bipush hx hb d v g
  · exact lv_sipush hx hb d v g
  · exact lv_ldc hx hb ho (ht _ hw) d g
  · exact lv_ldcw hx hb ho (ht _ hw) d g
theorem ev_o_null (hF : ev_Fx D aC b B0 L σ p s m args meth c cc nL Ts own Sg) (hk : ∀ pc loc st w, k pc loc st w = some r → ev_Go D aC b B0 σ p l e R s m args below meth c Q nL pc loc st w) (h : ev_h_null Φ M k cl nx a b' c' tg pc loc st w = some r)
    (hi : decode cc pc = .ok (.aconst_null, 1) ∧ nx = pc + 1) : ev_Go D aC b B0 σ p l e R s m args below meth c Q nL pc loc st w := by
  obtain ⟨hx, hb, -⟩ := hF
  obtain ⟨d, rfl⟩ := hi
  exact ev_pure hk h fun H locs ls _ g => lv_null hx hb d g
theorem ev_o_wide (hF : ev_Fx D aC b B0 L σ p s m args meth c cc nL Ts own Sg) (hk : ∀ pc loc st w, k pc loc st w = some r → ev_Go D aC b B0 σ p l e R s m args below meth c Q nL pc loc st w) (h : ev_h_wide Φ M k cl nx a b' c' tg pc loc st w = some r)
    (hi : ((∃ n : Fin 2, decode cc pc = .ok (.lconst n, 1) ∧ a = 0 ∧ Int64.ofNat (n : Nat) = lN b' ∧ nx = pc + 1) ∨ (decode cc pc = .ok (.dconst 0, 1) ∧ a = 2 ∧ FP.dconst0 = UInt64.ofNat b' ∧ nx = pc + 1)) ∨ ((decode cc pc = .ok (.fconst 0, 1) ∧ a = 1 ∧ FP.fconst0 = UInt32.ofNat b' ∧ nx = pc + 1) ∨ (∃ (ix : Nat) (v : Int64), decode cc pc = .ok (.ldc2_w ix, 3) ∧ a = 0 ∧ v = lN b' ∧ nx = pc + 3 ∧ Cond.constantLong own ix v ∈ Ts))) :
    ev_Go D aC b B0 σ p l e R s m args below meth c Q nL pc loc st w := by
  obtain ⟨hx, hb, -, ho, ht, -⟩ := hF
  refine ev_pure hk h fun H locs ls _ g => ?_
  rcases hi with (⟨n, d, rfl, v, rfl⟩ | ⟨d, rfl, v, rfl⟩) | (⟨d, rfl, v, rfl⟩ | ⟨ix, v, d, rfl, rfl, rfl, hw⟩)
  · exact lv_lconst hx hb d v g
  · refine lv_dconst0 hx hb d ?_
    rw [v]
    exact g
  · refine lv_fconst0 hx hb d ?_
    rw [v]
    exact g
  · exact lv_ldc2 hx hb ho (ht _ hw) d g
theorem ev_o_iload (hF : ev_Fx D aC b B0 L σ p s m args meth c cc nL Ts own Sg) (hk : ∀ pc loc st w, k pc loc st w = some r → ev_Go D aC b B0 σ p l e R s m args below meth c Q nL pc loc st w) (h : ev_h_iload Φ M k cl nx a b' c' tg pc loc st w = some r)
    (hi : (decode cc pc = .ok (.iload a, 2) ∧ nx = pc + 2) ∨ (∃ n : Fin 4, decode cc pc = .ok (.iload_n n, 1) ∧ (n : Nat) = a ∧ nx = pc + 1)) : ev_Go D aC b B0 σ p l e R s m args below meth c Q nL pc loc st w := by
  obtain ⟨hx, hb, -⟩ := hF
  unfold ev_h_iload at h
  split at h
  · next v hv =>
    obtain ⟨h1, h⟩ := ev_if_n h
    obtain ⟨x, ex⟩ := ev_dn_i (b := b) (B0 := B0) (σ := σ) h1
    refine ev_pure hk h fun H locs ls hl g => ?_
    have e := hl.2.2 _ _ hv
    rw [List.map_cons, ex] at g
    rw [ex] at e
    rcases hi with ⟨d, rfl⟩ | ⟨n, d, hn, rfl⟩
    · exact lv_iload hx hb d e g
    · exact lv_iload_n hx hb d hn e g
  · cases h
theorem ev_o_aload (hF : ev_Fx D aC b B0 L σ p s m args meth c cc nL Ts own Sg) (hk : ∀ pc loc st w, k pc loc st w = some r → ev_Go D aC b B0 σ p l e R s m args below meth c Q nL pc loc st w) (h : ev_h_aload Φ M k cl nx a b' c' tg pc loc st w = some r)
    (hi : (decode cc pc = .ok (.aload a, 2) ∧ nx = pc + 2) ∨ (∃ n : Fin 4, decode cc pc = .ok (.aload_n n, 1) ∧ (n : Nat) = a ∧ nx = pc + 1)) : ev_Go D aC b B0 σ p l e R s m args below meth c Q nL pc loc st w := by
  obtain ⟨hx, hb, -⟩ := hF
  unfold ev_h_aload at h
  split at h
  · next v hv =>
    obtain ⟨h1, h⟩ := ev_if_n h
    obtain ⟨x, -, ex⟩ := ev_dn_r (b := b) (B0 := B0) (σ := σ) h1
    refine ev_pure hk h fun H locs ls hl g => ?_
    have e := hl.2.2 _ _ hv
    rw [List.map_cons, ex] at g
    rw [ex] at e
    cases x with
    | none =>
      rcases hi with ⟨d, rfl⟩ | ⟨n, d, hn, rfl⟩
      · exact lv_aloadN hx hb d e g
      · exact lv_aload_nN hx hb d hn e g
    | some y =>
      rcases hi with ⟨d, rfl⟩ | ⟨n, d, hn, rfl⟩
      · exact lv_aload hx hb d e g
      · exact lv_aload_n hx hb d hn e g
  · cases h
theorem ev_o_dload (hF : ev_Fx D aC b B0 L σ p s m args meth c cc nL Ts own Sg) (hk : ∀ pc loc st w, k pc loc st w = some r → ev_Go D aC b B0 σ p l e R s m args below meth c Q nL pc loc st w) (h : ev_h_dload Φ M k cl nx a b' c' tg pc loc st w = some r)
    (hi : decode cc pc = .ok (.dload a, 2) ∧ nx = pc + 2) : ev_Go D aC b B0 σ p l e R s m args below meth c Q nL pc loc st w := by
  obtain ⟨hx, hb, -⟩ := hF
  obtain ⟨d, rfl⟩ := hi
  unfold ev_h_dload at h
  split at h
  · next v hv =>
    obtain ⟨h1, h⟩ := ev_if_n h
    obtain ⟨x, rfl⟩ := ev_dn_k h1
    exact ev_pure hk h fun H locs ls hl g => lv_dload hx hb d (hl.2.2 _ _ hv) g
  · cases h
theorem ev_o_istore (hF : ev_Fx D aC b B0 L σ p s m args meth c cc nL Ts own Sg) (hk : ∀ pc loc st w, k pc loc st w = some r → ev_Go D aC b B0 σ p l e R s m args below meth c Q nL pc loc st w) (h : ev_h_istore Φ M k cl nx a b' c' tg pc loc st w = some r)
    (hi : ((decode cc pc = .ok (.istore a, 2) ∧ nx = pc + 2) ∨ (∃ n : Fin 4, decode cc pc = .ok (.istore_n n, 1) ∧ (n : Nat) = a ∧ nx = pc + 1)) ∧ a < nL) : ev_Go D aC b B0 σ p l e R s m args below meth c Q nL pc loc st w := by
  obtain ⟨hx, hb, -⟩ := hF
  obtain ⟨hi, ha⟩ := hi
  unfold ev_h_istore at h
  split at h
  · next v rr =>
    obtain ⟨h1, h⟩ := ev_if_n h
    simp only [Bool.and_eq_true] at h1
    obtain ⟨x, ex⟩ := ev_dn_i (b := b) (B0 := B0) (σ := σ) h1.1
    intro H locs ls hl hJ hS
    rw [List.map_cons, ex]
    have go : ∀ ls' : Array Slot, lv_has ls' nL ((a, Value.int x) :: (ev_ll b B0 σ loc).filter (fun q => !(q.1 == a) && !(q.1 + 1 == a && q.2.category == 2))) → W p l e R s m args below meth c H locs w.2.2.2.1 w.2.2.2.2 Q (F0 m nx ls' (rr.map (ev_dn b B0 σ))) :=
      fun ls' h' => hk _ _ _ _ h H locs ls' (ev_lh_st1 h1.2 (fun v' e' => by cases e'; exact ex) h') hJ hS
    rcases hi with ⟨d, rfl⟩ | ⟨n, d, hn, rfl⟩
    · exact lv_istore hx hb d (ev_lh_has hl) ha rfl go
    · exact lv_istore_n hx hb d hn (ev_lh_has hl) ha rfl go
  · cases h
theorem ev_o_astore (hF : ev_Fx D aC b B0 L σ p s m args meth c cc nL Ts own Sg) (hk : ∀ pc loc st w, k pc loc st w = some r → ev_Go D aC b B0 σ p l e R s m args below meth c Q nL pc loc st w) (h : ev_h_astore Φ M k cl nx a b' c' tg pc loc st w = some r)
    (hi : ((decode cc pc = .ok (.astore a, 2) ∧ nx = pc + 2) ∨ (∃ n : Fin 4, decode cc pc = .ok (.astore_n n, 1) ∧ (n : Nat) = a ∧ nx = pc + 1)) ∧ a < nL) : ev_Go D aC b B0 σ p l e R s m args below meth c Q nL pc loc st w := by
  obtain ⟨hx, hb, -⟩ := hF
  obtain ⟨hi, ha⟩ := hi
  unfold ev_h_astore at h
  split at h
  · next v rr =>
    obtain ⟨h1, h⟩ := ev_if_n h
    simp only [Bool.and_eq_true] at h1
    obtain ⟨x, -, ex⟩ := ev_dn_r (b := b) (B0 := B0) (σ := σ) h1.1
    intro H locs ls hl hJ hS
    rw [List.map_cons, ex]
    have go : ∀ ls' : Array Slot, lv_has ls' nL ((a, va_rf (x.map (ev_ad b B0))) :: (ev_ll b B0 σ loc).filter (fun q => !(q.1 == a) && !(q.1 + 1 == a && q.2.category == 2))) → W p l e R s m args below meth c H locs w.2.2.2.1 w.2.2.2.2 Q (F0 m nx ls' (rr.map (ev_dn b B0 σ))) :=
      fun ls' h' => hk _ _ _ _ h H locs ls' (ev_lh_st1 h1.2 (fun v' e' => by cases e'; exact ex) h') hJ hS
    cases x with
    | none =>
      rcases hi with ⟨d, rfl⟩ | ⟨n, d, hn, rfl⟩
      · exact lv_astoreN hx hb d (ev_lh_has hl) ha rfl go
      · exact lv_astore_nN hx hb d hn (ev_lh_has hl) ha rfl go
    | some y =>
      rcases hi with ⟨d, rfl⟩ | ⟨n, d, hn, rfl⟩
      · exact lv_astore hx hb d (ev_lh_has hl) ha rfl go
      · exact lv_astore_n hx hb d hn (ev_lh_has hl) ha rfl go
  · cases h
theorem ev_o_dstore (hF : ev_Fx D aC b B0 L σ p s m args meth c cc nL Ts own Sg) (hk : ∀ pc loc st w, k pc loc st w = some r → ev_Go D aC b B0 σ p l e R s m args below meth c Q nL pc loc st w) (h : ev_h_dstore Φ M k cl nx a b' c' tg pc loc st w = some r)
    (hi : decode cc pc = .ok (.dstore a, 2) ∧ nx = pc + 2 ∧ a + 1 < nL) : ev_Go D aC b B0 σ p l e R s m args below meth c Q nL pc loc st w := by
  obtain ⟨hx, hb, -⟩ := hF
  obtain ⟨d, rfl, ha⟩ := hi
  unfold ev_h_dstore at h
  split at h
  · next v rr =>
    obtain ⟨h1, h⟩ := ev_if_n h
    simp only [Bool.and_eq_true] at h1
    obtain ⟨x, rfl⟩ := ev_dn_k h1.1
    intro H locs ls hl hJ hS
    exact lv_dstore hx hb d (ev_lh_has hl) ha rfl fun ls' h' => hk _ _ _ _ h H locs ls' (ev_lh_st2 h1.2 rfl h') hJ hS
  · cases h
theorem ev_o_iinc (hF : ev_Fx D aC b B0 L σ p s m args meth c cc nL Ts own Sg) (hk : ∀ pc loc st w, k pc loc st w = some r → ev_Go D aC b B0 σ p l e R s m args below meth c Q nL pc loc st w) (h : ev_h_iinc Φ M k cl nx a b' c' tg pc loc st w = some r)
    (hi : ∃ n : Int, decode cc pc = .ok (.iinc a n, 3) ∧ Int32.ofInt n = nI b' ∧ nx = pc + 3 ∧ a < nL) : ev_Go D aC b B0 σ p l e R s m args below meth c Q nL pc loc st w := by
  obtain ⟨hx, hb, -⟩ := hF
  obtain ⟨n, d, en, rfl, ha⟩ := hi
  unfold ev_h_iinc at h
  split at h
  · next v hv =>
    obtain ⟨h1, h⟩ := ev_if_n h
    intro H locs ls hl hJ hS
    obtain ⟨j, hj⟩ := List.getElem?_of_mem (ev_ll_in (b := b) (B0 := B0) (σ := σ) (q := (a, .int (nI v))).mpr ⟨_, hv, rfl⟩)
    refine lv_iinc (k := j) (x := nI v) (v := nI ((v + b') % 4294967296)) hx hb d (ev_lh_has hl) hj (by rw [en, ev_nI_add]) ha rfl fun ls' h' => ?_
    exact hk _ _ _ _ h H locs ls' (ev_lh_st1 h1 (fun v' e' => by cases e'; rfl) h') hJ hS
  · cases h
theorem ev_o_iadd (hF : ev_Fx D aC b B0 L σ p s m args meth c cc nL Ts own Sg) (hk : ∀ pc loc st w, k pc loc st w = some r → ev_Go D aC b B0 σ p l e R s m args below meth c Q nL pc loc st w) (h : ev_h_iadd Φ M k cl nx a b' c' tg pc loc st w = some r)
    (hi : decode cc pc = .ok (.iadd, 1) ∧ nx = pc + 1) : ev_Go D aC b B0 σ p l e R s m args below meth c Q nL pc loc st w := by
  obtain ⟨hx, hb, -⟩ := hF
  obtain ⟨d, rfl⟩ := hi
  unfold ev_h_iadd at h
  split at h
  · split at h
    · next y x rr z hz =>
      obtain ⟨u, v, e1, e2, e3⟩ := ev_b2_ok (b := b) (B0 := B0) (σ := σ) ev_nI_add hz
      refine ev_pure hk h fun H locs ls hl g => ?_
      simp only [List.map_cons, e1, e2, e3] at g ⊢
      exact lv_iadd hx hb d g
    · cases h
  · cases h
theorem ev_o_isub (hF : ev_Fx D aC b B0 L σ p s m args meth c cc nL Ts own Sg) (hk : ∀ pc loc st w, k pc loc st w = some r → ev_Go D aC b B0 σ p l e R s m args below meth c Q nL pc loc st w) (h : ev_h_isub Φ M k cl nx a b' c' tg pc loc st w = some r)
    (hi : decode cc pc = .ok (.isub, 1) ∧ nx = pc + 1) : ev_Go D aC b B0 σ p l e R s m args below meth c Q nL pc loc st w := by
  obtain ⟨hx, hb, -⟩ := hF
  obtain ⟨d, rfl⟩ := hi
  unfold ev_h_isub at h
  split at h
  · split at h
    · next y x rr z hz =>
      obtain ⟨u, v, e1, e2, e3⟩ := ev_b2_ok (b := b) (B0 := B0) (σ := σ) ev_nI_sub hz
      refine ev_pure hk h fun H locs ls hl g => ?_
      simp only [List.map_cons, e1, e2, e3] at g ⊢
      exact lv_isub hx hb d g
    · cases h
  · cases h
theorem ev_o_ibin (hF : ev_Fx D aC b B0 L σ p s m args meth c cc nL Ts own Sg) (hk : ∀ pc loc st w, k pc loc st w = some r → ev_Go D aC b B0 σ p l e R s m args below meth c Q nL pc loc st w) (h : ev_h_ibin Φ M k cl nx a b' c' tg pc loc st w = some r)
    (hi : ((a = 0 ∧ decode cc pc = .ok (.imul, 1)) ∨ (a = 1 ∧ decode cc pc = .ok (.iand, 1)) ∨ (a = 2 ∧ decode cc pc = .ok (.ior, 1)) ∨ (a = 3 ∧ decode cc pc = .ok (.ixor, 1)) ∨ (a = 4 ∧ decode cc pc = .ok (.ishl, 1)) ∨ (a = 5 ∧ decode cc pc = .ok (.ishr, 1)) ∨ (a = 6 ∧ decode cc pc = .ok (.iushr, 1))) ∧ nx = pc + 1) : ev_Go D aC b B0 σ p l e R s m args below meth c Q nL pc loc st w := by
  obtain ⟨hx, hb, -⟩ := hF
  obtain ⟨hi, rfl⟩ := hi
  unfold ev_h_ibin at h
  split at h
  · split at h
    · next y x rr z hz =>
      obtain ⟨u, v, e1, e2, e3⟩ := ev_b2_ok (b := b) (B0 := B0) (σ := σ) (fun m n => ev_nI_n _) hz
      refine ev_pure hk h fun H locs ls hl g => ?_
      simp only [List.map_cons, e1, e2, e3] at g ⊢
      rcases hi with ⟨rfl, d⟩ | ⟨rfl, d⟩ | ⟨rfl, d⟩ | ⟨rfl, d⟩ | ⟨rfl, d⟩ | ⟨rfl, d⟩ | ⟨rfl, d⟩
      · exact lv_imul hx hb d g
      · exact lv_iand hx hb d g
      · exact lv_ior hx hb d g
      · exact lv_ixor hx hb d g
      · exact lv_ishl hx hb d g
      · exact lv_ishr hx hb d g
      · exact lv_iushr hx hb d rfl g
    · cases h
  · cases h
theorem ev_o_iand63 (hF : ev_Fx D aC b B0 L σ p s m args meth c cc nL Ts own Sg) (hk : ∀ pc loc st w, k pc loc st w = some r → ev_Go D aC b B0 σ p l e R s m args below meth c Q nL pc loc st w) (h : ev_h_iand63 Φ M k cl nx a b' c' tg pc loc st w = some r)
    (hi : a = 1 ∧ decode cc pc = .ok (.iand, 1) ∧ nx = pc + 1) : ev_Go D aC b B0 σ p l e R s m args below meth c Q nL pc loc st w := by
  obtain ⟨hx, hb, -⟩ := id hF
  obtain ⟨rfl, d, rfl⟩ := hi
  unfold ev_h_iand63 at h
  split at h
  · next i f rr =>
    obtain ⟨h1, h⟩ := ev_if_n h
    have h1 := Nat.le_of_ble_eq_true h1
    refine ev_pure hk h fun H locs ls hl g => ?_
    have e1 : ev_sv σ (i + 5000) = ev_sv σ i &&& nI 63 := by
      unfold ev_sv
      rw [if_neg (by omega), if_pos (by omega), Nat.add_sub_cancel]
      rfl
    have g : W p l e R s m args below meth c H locs w.2.2.2.1 w.2.2.2.2 Q (F0 m (pc + 1) ls (.int (ev_sv σ (i + 5000)) :: rr.map (ev_dn b B0 σ))) := g
    rw [e1] at g
    exact lv_iand hx hb d g
  · exact ev_o_ibin hF hk h ⟨Or.inr (Or.inl ⟨rfl, d⟩), rfl⟩
theorem ev_o_idiv (hF : ev_Fx D aC b B0 L σ p s m args meth c cc nL Ts own Sg) (hk : ∀ pc loc st w, k pc loc st w = some r → ev_Go D aC b B0 σ p l e R s m args below meth c Q nL pc loc st w) (h : ev_h_idiv Φ M k cl nx a b' c' tg pc loc st w = some r)
    (hi : ((a = 0 ∧ decode cc pc = .ok (.idiv, 1)) ∨ (a = 1 ∧ decode cc pc = .ok (.irem, 1))) ∧ nx = pc + 1) : ev_Go D aC b B0 σ p l e R s m args below meth c Q nL pc loc st w := by
  obtain ⟨hx, hb, -⟩ := hF
  obtain ⟨hi, rfl⟩ := hi
  unfold ev_h_idiv at h
  split at h
  · next y x rr =>
    obtain ⟨h1, h⟩ := ev_if_n h
    simp only [Bool.and_eq_true] at h1
    have g1 := Nat.le_of_ble_eq_true h1.1
    have g2 := Nat.le_of_ble_eq_true h1.2.1
    have g3 := Nat.le_of_ble_eq_true h1.2.2
    refine ev_pure hk h fun H locs ls hl g => ?_
    rcases hi with ⟨rfl, d⟩ | ⟨rfl, d⟩
    · refine lv_idiv hx hb d (nI_ne0 (by omega) (by omega)) ?_
      rw [pk_div (by omega) (by omega) (by omega)]
      exact g
    · refine lv_irem hx hb d (nI_ne0 (by omega) (by omega)) ?_
      rw [pk_rem (by omega) (by omega) (by omega)]
      exact g
  · cases h
theorem ev_br_ok {o : Option Bool} {t f : ev_R} (h : ev_br o t f = some r) : ∃ z, o = some z ∧ (z = true → t = some r) ∧ (z = false → f = some r) := by
  unfold ev_br at h
  split at h
  · exact ⟨true, rfl, fun _ => h, (fun q => absurd q (by decide))⟩
  · exact ⟨false, rfl, (fun q => absurd q (by decide)), fun _ => h⟩
  · cases h
theorem ev_o_if0 (hF : ev_Fx D aC b B0 L σ p s m args meth c cc nL Ts own Sg) (hΦ : ev_FO Φ σ) (hk : ∀ pc loc st w, k pc loc st w = some r → ev_Go D aC b B0 σ p l e R s m args below meth c Q nL pc loc st w) (h : ev_h_if0 Φ M k cl nx a b' c' tg pc loc st w = some r)
    (hi : ∃ off : Int, ((a = 0 ∧ decode cc pc = .ok (.ifCond .eq off, 3) ∧ (pc : Int) + off = (b' : Int) ∧ c' = pc + 3) ∨ (a = 0 ∧ decode cc pc = .ok (.ifCond .ne off, 3) ∧ (pc : Int) + off = (c' : Int) ∧ b' = pc + 3)) ∨ ((a = 1 ∧ decode cc pc = .ok (.ifCond .lt off, 3) ∧ (pc : Int) + off = (b' : Int) ∧ c' = pc + 3) ∨ (a = 1 ∧ decode cc pc = .ok (.ifCond .ge off, 3) ∧ (pc : Int) + off = (c' : Int) ∧ b' = pc + 3)) ∨ ((a = 2 ∧ decode cc pc = .ok (.ifCond .gt off, 3) ∧ (pc : Int) + off = (b' : Int) ∧ c' = pc + 3) ∨ (a = 2 ∧ decode cc pc = .ok (.ifCond .le off, 3) ∧ (pc : Int) + off = (c' : Int) ∧ b' = pc + 3))) :
    ev_Go D aC b B0 σ p l e R s m args below meth c Q nL pc loc st w := by
  obtain ⟨hx, hb, -⟩ := hF
  unfold ev_h_if0 at h
  split at h
  · next x rr =>
    obtain ⟨z, hz, ht, hf⟩ := ev_br_ok h
    obtain ⟨u, v, e1, e2, e3⟩ := ev_cmp_ok (b := b) (B0 := B0) hΦ hz
    have e2 : v = 0 := by cases e2; rfl
    subst e2
    intro H locs ls hl hJ hS
    rw [List.map_cons, e1]
    have gt : ev_rel a u 0 → W p l e R s m args below meth c H locs w.2.2.2.1 w.2.2.2.2 Q (F0 m b' ls (rr.map (ev_dn b B0 σ))) := fun q => hk _ _ _ _ (ht (e3.mp q)) H locs ls hl hJ hS
    have gf : ¬ ev_rel a u 0 → W p l e R s m args below meth c H locs w.2.2.2.1 w.2.2.2.2 Q (F0 m c' ls (rr.map (ev_dn b B0 σ))) := fun q => hk _ _ _ _ (hf (Bool.eq_false_iff.mpr (fun y => q (e3.mpr y)))) H locs ls hl hJ hS
    obtain ⟨off, (⟨rfl, d, t, rfl⟩ | ⟨rfl, d, t, rfl⟩) | (⟨rfl, d, t, rfl⟩ | ⟨rfl, d, t, rfl⟩) | (⟨rfl, d, t, rfl⟩ | ⟨rfl, d, t, rfl⟩)⟩ := hi
    · exact lv_if_eq hx hb d t (fun q => gt q) (fun q => gf q)
    · exact lv_if_ne hx hb d t (fun q => gf q) (fun q => gt q)
    · exact lv_if_lt hx hb d t (fun q => gt q) (fun q => gf q)
    · exact lv_if_ge hx hb d t (fun q => gf (Int32.not_lt.mpr q)) (fun q => gt (Int32.not_le.mp q))
    · exact lv_if_gt hx hb d t (fun q => gt q) (fun q => gf q)
    · exact lv_if_le hx hb d t (fun q => gf (Int32.not_lt.mpr q)) (fun q => gt (Int32.not_le.mp q))
  · cases h
theorem ev_o_icmp (hF : ev_Fx D aC b B0 L σ p s m args meth c cc nL Ts own Sg) (hΦ : ev_FO Φ σ) (hk : ∀ pc loc st w, k pc loc st w = some r → ev_Go D aC b B0 σ p l e R s m args below meth c Q nL pc loc st w) (h : ev_h_icmp Φ M k cl nx a b' c' tg pc loc st w = some r)
    (hi : ∃ off : Int, ((a = 0 ∧ decode cc pc = .ok (.if_icmp .eq off, 3) ∧ (pc : Int) + off = (b' : Int) ∧ c' = pc + 3) ∨ (a = 0 ∧ decode cc pc = .ok (.if_icmp .ne off, 3) ∧ (pc : Int) + off = (c' : Int) ∧ b' = pc + 3)) ∨ ((a = 1 ∧ decode cc pc = .ok (.if_icmp .lt off, 3) ∧ (pc : Int) + off = (b' : Int) ∧ c' = pc + 3) ∨ (a = 1 ∧ decode cc pc = .ok (.if_icmp .ge off, 3) ∧ (pc : Int) + off = (c' : Int) ∧ b' = pc + 3)) ∨ ((a = 2 ∧ decode cc pc = .ok (.if_icmp .gt off, 3) ∧ (pc : Int) + off = (b' : Int) ∧ c' = pc + 3) ∨ (a = 2 ∧ decode cc pc = .ok (.if_icmp .le off, 3) ∧ (pc : Int) + off = (c' : Int) ∧ b' = pc + 3))) :
    ev_Go D aC b B0 σ p l e R s m args below meth c Q nL pc loc st w := by
  obtain ⟨hx, hb, -⟩ := hF
  unfold ev_h_icmp at h
  split at h
  · next y x rr =>
    obtain ⟨z, hz, ht, hf⟩ := ev_br_ok h
    obtain ⟨u, v, e1, e2, e3⟩ := ev_cmp_ok (b := b) (B0 := B0) hΦ hz
    intro H locs ls hl hJ hS
    rw [List.map_cons, List.map_cons, e1, e2]
    have gt : ev_rel a u v → W p l e R s m args below meth c H locs w.2.2.2.1 w.2.2.2.2 Q (F0 m b' ls (rr.map (ev_dn b B0 σ))) := fun q => hk _ _ _ _ (ht (e3.mp q)) H locs ls hl hJ hS
    have gf : ¬ ev_rel a u v → W p l e R s m args below meth c H locs w.2.2.2.1 w.2.2.2.2 Q (F0 m c' ls (rr.map (ev_dn b B0 σ))) := fun q => hk _ _ _ _ (hf (Bool.eq_false_iff.mpr (fun y => q (e3.mpr y)))) H locs ls hl hJ hS
    obtain ⟨off, (⟨rfl, d, t, rfl⟩ | ⟨rfl, d, t, rfl⟩) | (⟨rfl, d, t, rfl⟩ | ⟨rfl, d, t, rfl⟩) | (⟨rfl, d, t, rfl⟩ | ⟨rfl, d, t, rfl⟩)⟩ := hi
    · exact lv_icmp_eq hx hb d t (fun q => gt q) (fun q => gf q)
    · exact lv_icmp_ne hx hb d t (fun q => gf q) (fun q => gt q)
    · exact lv_icmp_lt hx hb d t (fun q => gt q) (fun q => gf q)
    · exact lv_icmp_ge hx hb d t (fun q => gf (Int32.not_lt.mpr q)) (fun q => gt (Int32.not_le.mp q))
    · exact lv_icmp_gt hx hb d t (fun q => gt q) (fun q => gf q)
    · exact lv_icmp_le hx hb d t (fun q => gf (Int32.not_lt.mpr q)) (fun q => gt (Int32.not_le.mp q))
  · cases h
theorem ev_oeq_ok {x y : Option Nat} (h : (ev_own x && ev_own y) = true) : x.map (ev_ad b B0) = y.map (ev_ad b B0) ↔ ev_oeq x y = true := by
  simp only [Bool.and_eq_true] at h
  cases x with
  | none => cases y with
    | none => exact ⟨fun _ => rfl, fun _ => rfl⟩
    | some n => exact ⟨fun q => (by cases q), fun q => (by cases q)⟩
  | some m => cases y with
    | none => exact ⟨fun q => (by cases q), fun q => (by cases q)⟩
    | some n =>
      have h1 := Nat.le_of_ble_eq_true h.1
      have h2 := Nat.le_of_ble_eq_true h.2
      constructor
      · intro q
        have q : ev_ad b B0 m = ev_ad b B0 n := Option.some.inj q
        unfold ev_ad at q
        rw [if_neg (show ¬ m = 1000000 by omega), if_neg (show ¬ 2000000 ≤ m by omega), if_neg (show ¬ n = 1000000 by omega), if_neg (show ¬ 2000000 ≤ n by omega)] at q
        have : m = n := by omega
        subst this
        exact Nat.beq_refl m
      · intro q
        have : m = n := Nat.eq_of_beq_eq_true q
        rw [this]
theorem ev_o_acmp (hF : ev_Fx D aC b B0 L σ p s m args meth c cc nL Ts own Sg) (hk : ∀ pc loc st w, k pc loc st w = some r → ev_Go D aC b B0 σ p l e R s m args below meth c Q nL pc loc st w) (h : ev_h_acmp Φ M k cl nx a b' c' tg pc loc st w = some r)
    (hi : ∃ off : Int, (decode cc pc = .ok (.if_acmp .eq off, 3) ∧ (pc : Int) + off = (b' : Int) ∧ c' = pc + 3) ∨ (decode cc pc = .ok (.if_acmp .ne off, 3) ∧ (pc : Int) + off = (c' : Int) ∧ b' = pc + 3)) : ev_Go D aC b B0 σ p l e R s m args below meth c Q nL pc loc st w := by
  obtain ⟨hx, hb, -⟩ := hF
  unfold ev_h_acmp at h
  split at h
  · next y x rr =>
    obtain ⟨h1, h⟩ := ev_if_n h
    have h2 := ev_oeq_ok (b := b) (B0 := B0) h1
    intro H locs ls hl hJ hS
    have dn : ∀ z : Option Nat, ev_dn b B0 σ (.inr (.inl z)) = va_rf (z.map (ev_ad b B0)) := fun z => by cases z <;> rfl
    rw [List.map_cons, List.map_cons, dn, dn]
    have gt : x.map (ev_ad b B0) = y.map (ev_ad b B0) → W p l e R s m args below meth c H locs w.2.2.2.1 w.2.2.2.2 Q (F0 m b' ls (rr.map (ev_dn b B0 σ))) := fun q => by
      rw [h2.mp q] at h
      exact hk _ _ _ _ h H locs ls hl hJ hS
    have gf : ¬ x.map (ev_ad b B0) = y.map (ev_ad b B0) → W p l e R s m args below meth c H locs w.2.2.2.1 w.2.2.2.2 Q (F0 m c' ls (rr.map (ev_dn b B0 σ))) := fun q => by
      rw [Bool.eq_false_iff.mpr (fun y => q (h2.mpr y))] at h
      exact hk _ _ _ _ h H locs ls hl hJ hS
    obtain ⟨off, ⟨d, t, rfl⟩ | ⟨d, t, rfl⟩⟩ := hi
    · exact lv_acmp_eq hx hb d t (fun q => gt q) (fun q => gf q)
    · exact lv_acmp_ne hx hb d t (fun q => gf q) (fun q => gt q)
  · cases h
theorem ev_o_isnull (hF : ev_Fx D aC b B0 L σ p s m args meth c cc nL Ts own Sg) (hk : ∀ pc loc st w, k pc loc st w = some r → ev_Go D aC b B0 σ p l e R s m args below meth c Q nL pc loc st w) (h : ev_h_isnull Φ M k cl nx a b' c' tg pc loc st w = some r)
    (hi : ∃ off : Int, (decode cc pc = .ok (.ifnull off, 3) ∧ (pc : Int) + off = (b' : Int) ∧ c' = pc + 3) ∨ (decode cc pc = .ok (.ifnonnull off, 3) ∧ (pc : Int) + off = (c' : Int) ∧ b' = pc + 3)) : ev_Go D aC b B0 σ p l e R s m args below meth c Q nL pc loc st w := by
  obtain ⟨hx, hb, -⟩ := hF
  unfold ev_h_isnull at h
  split at h
  · next rr =>
    refine ev_pure hk h fun H locs ls hl g => ?_
    obtain ⟨off, ⟨d, t, rfl⟩ | ⟨d, t, rfl⟩⟩ := hi
    · exact lv_ifnullN hx hb d t g
    · exact lv_ifnonnullN hx hb d g
  · next y rr =>
    refine ev_pure hk h fun H locs ls hl g => ?_
    obtain ⟨off, ⟨d, t, rfl⟩ | ⟨d, t, rfl⟩⟩ := hi
    · exact lv_ifnull hx hb d g
    · exact lv_ifnonnull hx hb d t g
  · cases h
theorem ev_o_goto (hF : ev_Fx D aC b B0 L σ p s m args meth c cc nL Ts own Sg) (hk : ∀ pc loc st w, k pc loc st w = some r → ev_Go D aC b B0 σ p l e R s m args below meth c Q nL pc loc st w) (h : ev_h_goto Φ M k cl nx a b' c' tg pc loc st w = some r)
    (hi : ∃ off : Int, decode cc pc = .ok (.goto off, 3) ∧ (pc : Int) + off = (nx : Int)) : ev_Go D aC b B0 σ p l e R s m args below meth c Q nL pc loc st w := by
  obtain ⟨hx, hb, -⟩ := hF
  obtain ⟨off, d, t⟩ := hi
  exact ev_pure hk h fun H locs ls hl g => lv_goto hx hb d t g
theorem ev_o_dup (hF : ev_Fx D aC b B0 L σ p s m args meth c cc nL Ts own Sg) (hk : ∀ pc loc st w, k pc loc st w = some r → ev_Go D aC b B0 σ p l e R s m args below meth c Q nL pc loc st w) (h : ev_h_dup Φ M k cl nx a b' c' tg pc loc st w = some r)
    (hi : decode cc pc = .ok (.dup, 1) ∧ nx = pc + 1) : ev_Go D aC b B0 σ p l e R s m args below meth c Q nL pc loc st w := by
  obtain ⟨hx, hb, -⟩ := hF
  obtain ⟨d, rfl⟩ := hi
  unfold ev_h_dup at h
  split at h
  · next x rr =>
    obtain ⟨h1, h⟩ := ev_if_n h
    exact ev_pure hk h fun H locs ls hl g => lv_dup hx hb d (ev_dn_c (by simpa using h1)) g
  · cases h
theorem ev_o_dup2 (hF : ev_Fx D aC b B0 L σ p s m args meth c cc nL Ts own Sg) (hk : ∀ pc loc st w, k pc loc st w = some r → ev_Go D aC b B0 σ p l e R s m args below meth c Q nL pc loc st w) (h : ev_h_dup2 Φ M k cl nx a b' c' tg pc loc st w = some r)
    (hi : decode cc pc = .ok (.dup2, 1) ∧ nx = pc + 1) : ev_Go D aC b B0 σ p l e R s m args below meth c Q nL pc loc st w := by
  obtain ⟨hx, hb, -⟩ := hF
  obtain ⟨d, rfl⟩ := hi
  unfold ev_h_dup2 at h
  split at h
  · next x y rr =>
    obtain ⟨h1, h⟩ := ev_if_n h
    simp only [Bool.and_eq_true, Bool.not_eq_true'] at h1
    exact ev_pure hk h fun H locs ls hl g => lv_dup2_11 hx hb d (ev_dn_c h1.1) (ev_dn_c h1.2) g
  · cases h
theorem ev_o_pop (hF : ev_Fx D aC b B0 L σ p s m args meth c cc nL Ts own Sg) (hk : ∀ pc loc st w, k pc loc st w = some r → ev_Go D aC b B0 σ p l e R s m args below meth c Q nL pc loc st w) (h : ev_h_pop Φ M k cl nx a b' c' tg pc loc st w = some r)
    (hi : decode cc pc = .ok (.pop, 1) ∧ nx = pc + 1) : ev_Go D aC b B0 σ p l e R s m args below meth c Q nL pc loc st w := by
  obtain ⟨hx, hb, -⟩ := hF
  obtain ⟨d, rfl⟩ := hi
  unfold ev_h_pop at h
  split at h
  · next x rr =>
    obtain ⟨h1, h⟩ := ev_if_n h
    exact ev_pure hk h fun H locs ls hl g => lv_pop hx hb d (ev_dn_c (by simpa using h1)) g
  · cases h
end EVF
