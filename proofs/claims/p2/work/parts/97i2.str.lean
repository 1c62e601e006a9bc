/-! ===== String.length and String.charAt of a text constant: the JDK's own bodies, walked (own work) ===== -/
def js_co : MethodName := { cls := "java/lang/String", name := "coder", desc := "()B" }
def js_ln : MethodName := { cls := "java/lang/String", name := "length", desc := "()I" }
def js_il : MethodName := { cls := "java/lang/String", name := "isLatin1", desc := "()Z" }
def js_ch : MethodName := { cls := "java/lang/String", name := "charAt", desc := "(I)C" }
def js_ci : MethodName := { cls := "java/lang/String", name := "checkIndex", desc := "(II)V" }
def js_lc : MethodName := { cls := "java/lang/StringLatin1", name := "charAt", desc := "([BI)C" }
def js_pi : MethodName := { cls := "jdk/internal/util/Preconditions", name := "checkIndex", desc := "(IILjava/util/function/BiFunction;)I" }
/-- the words that these bodies stand on -/
def js_ws : List Cond := [.code js_co prog_20_method_152_code 1 (some .byte), .code js_ln prog_20_method_54_code 1 (some .int), .code js_il prog_20_method_154_code 1 (some .boolean), .code js_ch prog_20_method_56_code 2 (some .char), .code js_ci prog_20_method_155_code 2 none, .code js_lc prog_21_method_2_code 2 (some .char), .code js_pi prog_28_method_11_code 3 (some .int),
  .methodLink "java/lang/String" 335 js_co, .methodLink "java/lang/String" 492 js_il, .methodLink "java/lang/String" 495 js_lc, .methodLink "java/lang/StringLatin1" 9 js_ci, .methodLink "java/lang/String" 1059 js_pi,
  .instanceMethod js_co, .instanceMethod js_il, .instanceMethod js_ln, .instanceMethod js_ch, .selects "java/lang/String" js_co js_co, .selects "java/lang/String" js_il js_il, .selects "java/lang/String" js_ln js_ln, .selects "java/lang/String" js_ch js_ch, .static js_lc, .static js_ci, .static js_pi,
  .initialized "java/lang/String", .initialized "java/lang/StringLatin1", .initialized "jdk/internal/util/Preconditions",
  .fieldLink "java/lang/String" 38 "java/lang/String" "COMPACT_STRINGS" "Z", .fieldLink "java/lang/String" 15 "java/lang/String" "coder" "B", .fieldLink "java/lang/String" 9 "java/lang/String" "value" "[B", .fieldLink "java/lang/String" 1053 "jdk/internal/util/Preconditions" "SIOOBE_FORMATTER" "Ljava/util/function/BiFunction;"]
def js_rm (k L : Nat) : Room := { frames := k, cells := 0, slots := 0, locals := L }
section JST
variable {l : Launch} {B0 a v n : Nat} {f : Nat → Int32}
/-- a text as it lies in the heap -/
def js_T (B0 a v n : Nat) (f : Nat → Int32) (U : State) (H : Heap) : Prop :=
  va_O "java/lang/String" a (fun q => B0 ≤ q) U H ∧ va_OF "java/lang/String" "coder" "B" (.int 0) a (fun q => B0 ≤ q) U H ∧ va_OF "java/lang/String" "value" "[B" (.ref v) a (fun q => B0 ≤ q) U H ∧ va_T .byte v n (fun j => .int (f j)) (fun q => B0 ≤ q) U H ∧
  va_Z "java/lang/String" "COMPACT_STRINGS" "Z" (.int 1) (fun q => B0 ≤ q) U H ∧ ∃ fm, va_Z "jdk/internal/util/Preconditions" "SIOOBE_FORMATTER" "Ljava/util/function/BiFunction;" (.ref fm) (fun q => B0 ≤ q) U H
theorem js_T.moved {u U : State} {H : Heap} (hv : u.vm.Alike U.vm) (h : js_T B0 a v n f u H) : js_T B0 a v n f U H := by
  obtain ⟨h1, h2, h3, h4, h5, fm, h6⟩ := h
  exact ⟨h1.moved hv, h2.moved hv, h3.moved hv, h4.moved hv, h5.moved hv, fm, h6.moved hv⟩
theorem js_T.kept {U : State} {H H1 : Heap} (h : js_T B0 a v n f U H) (hq : ∀ q : Nat, q < H.size → ¬ B0 ≤ q → H1[q]? = H[q]?) : js_T B0 a v n f U H1 := by
  obtain ⟨h1, h2, h3, h4, h5, fm, h6⟩ := h
  exact ⟨h1.kept hq, h2.kept hq, h3.kept hq, h4.kept hq, h5.kept hq, fm, h6.kept hq⟩
def js_P (B0 a v n : Nat) (f : Nat → Int32) (As : List Value) : Array Value → State → Prop := fun x U => x = As.toArray ∧ js_T B0 a v n f U U.heap
theorem js_P_blind {As : List Value} : FrameBlind (js_P B0 a v n f As) := by
  intro x U g mk h
  exact ⟨h.1, js_T.moved (u := U) (U := U.calling g mk x) (Vm.Alike.refl U.vm) h.2⟩
def js_Q (r : Option Value) : Array Value → State → Outcome → State → Prop := fun _ st o t => o = .returned r ∧ t.heap = st.heap
def js_X : String → State → State → Prop := fun _ _ _ => False
def js_M (l : Launch) (B0 a v n : Nat) (f : Nat → Int32) (y : MethodName) (cc : ByteArray) (nL : Nat) (ret : Option FieldType) (rm : Room) (As : List Value) (r : Option Value) : Prop :=
  vx_Met l y (Cond.code y cc nL ret :: ev_UW) rm (js_P B0 a v n f As) (js_Q r) js_X 0 0 (fun q => B0 ≤ q)
variable {p : Program} {e : Env} {R : Room} {s : State} {m : MethodId} {args : Array Value} {below : List Frame} {meth : Method} {c : Code} {H : Heap} {locs : List Loc} {cells slots : Nat} {Q : State → Prop}
variable {cc : ByteArray} {nL pc : Nat} {Ts : List Cond} {own : String} {ls : Array Slot} {rest : List Value} {r : Option Value}
theorem js_end {st0 : List Value} {a9 : Array Value} (hS : va_S (fun q => B0 ≤ q) s.heap H locs)
    (hrun : vx_Run p l e R s m args below meth c H locs cells slots 0 0 (F0 m pc ls st0) rest (js_Q r a9) js_X (fun q => B0 ≤ q))
    (kk : ∀ locs1, va_S (fun q => B0 ≤ q) s.heap H locs1 → W p l e R s m args below meth c H locs1 (cells + 0) (slots + 0) Q (F0 m (pc + 3) ls (r.toList ++ rest))) :
    W p l e R s m args below meth c H locs cells slots Q (F0 m pc ls st0) := by
  intro T hT X
  rcases hrun T hT X with ⟨v, st₀, t, T', L9, h0, X', hL, e1, e2, ⟨g1, g2⟩, stp⟩ | ⟨q, st₀, t, T', L9, E, ce, h0, X', hL, e1, e2, hf, -⟩
  · obtain ⟨-, -, k3⟩ := vx_keep h0 e1 hS (fun q _ h => h) (fun q h => h) hL ⟨Nat.le_of_eq (by rw [g2]), fun q _ _ => by rw [g2]⟩
    have g1 := Outcome.returned.inj g1
    subst g1
    have eH : T'.heap = H := by rw [e1, g2, h0]
    obtain ⟨t2, a1, b1⟩ := kk (locs ++ L9) (by rw [← eH]; exact k3) T' eH X'
    exact ⟨t2, stp t2 a1, b1⟩
  · exact hf.elim
/-- a call of one of them on a text -/
theorem js_callV {y : MethodName} {bytes : ByteArray} {maxL : Nat} {ret : Option FieldType} {rm : Room} {As : List Value} {ix k : Nat} (S : CallFix p m c cc nL s args Ts own) (hTs : ∀ x ∈ ev_UW, x ∈ Ts) (hM : js_M l B0 a v n f y bytes maxL ret rm (.ref a :: As) r) (hrm : rm.cells = 0 ∧ rm.slots = 0)
    (hcw : Cond.code y bytes maxL ret ∈ ev_UW) (hyc : y.cls = "java/lang/String") (w1 : Cond.initialized "java/lang/String" ∈ ev_UW) (w2 : (Cond.methodLink own ix y).before args s = true) (w3 : Cond.instanceMethod y ∈ ev_UW) (w4 : Cond.selects "java/lang/String" y y ∈ ev_UW)
    (hnm : y.cls ≠ "java/lang/invoke/MethodHandle" ∧ y.cls ≠ "java/lang/invoke/VarHandle" ∧ (parseMethodDescriptor y.desc).map (fun d => d.parameters.length) = some k) (hk : As.length = k)
    (hroom : rm.frames + 1 ≤ R.frames ∧ 8 + (maxL + 11) + rm.locals ≤ R.locals) (hT : js_T B0 a v n f s s.heap) (hS : va_S (fun q => B0 ≤ q) s.heap H locs) (hsize : ls.size = nL) (hW : (rest.map fun v => v.category).sum ≤ 8) (hdg : decode cc pc = .ok (.invokevirtual ix, 3)) (hf : cells ≤ R.cells ∧ slots ≤ R.slots)
    (kk : ∀ locs1, va_S (fun q => B0 ≤ q) s.heap H locs1 → W p l e R s m args below meth c H locs1 (cells + 0) (slots + 0) Q (F0 m (pc + 3) ls (r.toList ++ rest))) :
    W p l e R s m args below meth c H locs cells slots Q (F0 m pc ls (As.reverse ++ .ref a :: rest)) := by
  have ht := S.2.2.2.2
  have hGood : GoodIn Ts (Cond.code y bytes maxL ret :: ev_UW) := ev_good hTs (fun x hx => by
    rcases List.mem_cons.mp hx with rfl | hx
    · exact hcw
    · exact hx)
  obtain ⟨cell, g1, g2, g3, -⟩ := hT.1.kept hS.2.1
  exact js_end hS (vx_runV (R := R) (l := l) (e := e) (below := below) (meth := meth) (H := H) (locs := locs) (cells := cells) (slots := slots) (g := F0 m pc ls (As.reverse ++ .ref a :: rest)) (As := As) (rest := rest) (b := a) (C := "java/lang/String") (index := ix) (n := k) (bytes := bytes) (maxL := maxL) (ret := ret) S hM
    ⟨callB_of k ht hGood rfl hrm.1 hrm.2 (by rw [hyc]; exact ht _ (hTs _ w1)) w2 hnm hroom, ht _ (hTs _ w3), ht _ (hTs _ w4)⟩
    ⟨js_P_blind, ⟨cell, g1, g2, g3⟩, fun U hU hW => ⟨rfl, by rw [hU]; exact (hT.kept hS.2.1).moved hW.alike⟩⟩ rfl hk hsize rfl (by show 2 * 0 + _ ≤ 8; omega) hdg ⟨hf.1, hf.2⟩) kk
theorem js_callS {y : MethodName} {bytes : ByteArray} {maxL : Nat} {ret : Option FieldType} {rm : Room} {As : List Value} {ix k : Nat} (S : CallFix p m c cc nL s args Ts own) (hTs : ∀ x ∈ ev_UW, x ∈ Ts) (hM : js_M l B0 a v n f y bytes maxL ret rm As r) (hrm : rm.cells = 0 ∧ rm.slots = 0)
    (hcw : Cond.code y bytes maxL ret ∈ ev_UW) (w1 : Cond.initialized y.cls ∈ ev_UW) (w2 : Cond.methodLink own ix y ∈ ev_UW) (w3 : Cond.static y ∈ ev_UW)
    (hnm : y.cls ≠ "java/lang/invoke/MethodHandle" ∧ y.cls ≠ "java/lang/invoke/VarHandle" ∧ (parseMethodDescriptor y.desc).map (fun d => d.parameters.length) = some k) (hk : As.length = k)
    (hroom : rm.frames + 1 ≤ R.frames ∧ 8 + (maxL + 11) + rm.locals ≤ R.locals) (hT : js_T B0 a v n f s s.heap) (hS : va_S (fun q => B0 ≤ q) s.heap H locs) (hsize : ls.size = nL) (hW : (rest.map fun v => v.category).sum ≤ 8) (hdg : decode cc pc = .ok (.invokestatic ix, 3)) (hf : cells ≤ R.cells ∧ slots ≤ R.slots)
    (kk : ∀ locs1, va_S (fun q => B0 ≤ q) s.heap H locs1 → W p l e R s m args below meth c H locs1 (cells + 0) (slots + 0) Q (F0 m (pc + 3) ls (r.toList ++ rest))) :
    W p l e R s m args below meth c H locs cells slots Q (F0 m pc ls (As.reverse ++ rest)) := by
  have ht := S.2.2.2.2
  have hGood : GoodIn Ts (Cond.code y bytes maxL ret :: ev_UW) := ev_good hTs (fun x hx => by
    rcases List.mem_cons.mp hx with rfl | hx
    · exact hcw
    · exact hx)
  exact js_end hS (vx_runS (R := R) (l := l) (e := e) (below := below) (meth := meth) (H := H) (locs := locs) (cells := cells) (slots := slots) (g := F0 m pc ls (As.reverse ++ rest)) (As := As) (rest := rest) (index := ix) (n := k) (bytes := bytes) (maxL := maxL) (ret := ret) S hM
    ⟨callB_of k ht hGood rfl hrm.1 hrm.2 (ht _ (hTs _ w1)) (ht _ (hTs _ w2)) hnm hroom, ht _ (hTs _ w3)⟩
    ⟨js_P_blind, fun U hU hW => ⟨rfl, by rw [hU]; exact (hT.kept hS.2.1).moved hW.alike⟩⟩ rfl hk hsize rfl (by show 2 * 0 + _ ≤ 8; omega) hdg ⟨hf.1, hf.2⟩) kk
theorem js_fx {y : MethodName} {ret : Option FieldType} {rm : Room} {s₁ : State} (B : BodyLoose p l y (headSpec (Cond.code y cc nL ret :: ev_UW) rm) cc nL ret e s m args below meth c s₁) (hml : c.maxLocals = nL) : CallFix p m c cc nL s args (Cond.code y cc nL ret :: ev_UW) y.cls ∧ meth.sig.returnType = ret :=
  ⟨⟨B.exec, B.bytes, hml, findClass_of_methodNamed B.named, atoms_spec (ws := Cond.code y cc nL ret :: ev_UW) B.pre⟩, B.returns⟩
theorem js_up {y : Cond} : ∀ x ∈ ev_UW, x ∈ y :: ev_UW := fun _ h => List.mem_cons_of_mem _ h
theorem js_coder (hJ : ∀ x ∈ js_ws, x ∈ ev_UW) : js_M l B0 a v n f js_co prog_20_method_152_code 1 (some .byte) (js_rm 0 0) [.ref a] (some (.int 0)) := by
  refine vx_ofW (by decide) rfl fun p e s m args below meth c s₁ B hml hT hv => ?_
  obtain ⟨rfl, hO, hC, hV, hA, hZ, hF⟩ := hv
  obtain ⟨⟨hx, hb, hml2, ho, ht⟩, hr⟩ := js_fx B hml
  have w : ∀ x ∈ js_ws, x.before [Value.ref a].toArray s = true := fun x h => ht x (js_up x (hJ x h))
  rw [lg_entry_eq]
  refine va_gets hx hb hZ va_S.rf ho (w (.fieldLink "java/lang/String" 38 "java/lang/String" "COMPACT_STRINGS" "Z") (by simp [js_ws])) (fun x h => h) (show decode prog_20_method_152_code 0 = .ok (.getstatic 38, 3) by decide +kernel) ?_
  refine lv_if_eq hx hb (tgt := 13) (show decode prog_20_method_152_code 3 = .ok (.ifCond .eq 10, 3) by decide +kernel) (by decide) (fun h => absurd h (by decide)) (fun _ => ?_)
  refine lv_aload_n hx hb (show decode prog_20_method_152_code 6 = .ok (.aload_n 0, 1) by decide +kernel) rfl rfl ?_
  refine vk_getf hx hb hC va_S.rf ho (w (.fieldLink "java/lang/String" 15 "java/lang/String" "coder" "B") (by simp [js_ws])) (fun x h => h) (show decode prog_20_method_152_code 7 = .ok (.getfield 15, 3) by decide +kernel) ?_
  refine lv_goto hx hb (tgt := 14) (show decode prog_20_method_152_code 10 = .ok (.goto 4, 3) by decide +kernel) (by decide) ?_
  exact vx_ret (W.zret hx hb hr rfl (fun t ht hW => ⟨rfl, ht⟩) (fun q h => by cases h) (show decode prog_20_method_152_code 14 = .ok (.ireturn, 1) by decide +kernel) (hlocks := B.notSynchronized))
theorem js_isLatin1 (hJ : ∀ x ∈ js_ws, x ∈ ev_UW) : js_M l B0 a v n f js_il prog_20_method_154_code 1 (some .boolean) (js_rm 0 0) [.ref a] (some (.int 1)) := by
  refine vx_ofW (by decide) rfl fun p e s m args below meth c s₁ B hml hT hv => ?_
  obtain ⟨rfl, hO, hC, hV, hA, hZ, hF⟩ := hv
  obtain ⟨⟨hx, hb, hml2, ho, ht⟩, hr⟩ := js_fx B hml
  have w : ∀ x ∈ js_ws, x.before [Value.ref a].toArray s = true := fun x h => ht x (js_up x (hJ x h))
  rw [lg_entry_eq]
  refine va_gets hx hb hZ va_S.rf ho (w (.fieldLink "java/lang/String" 38 "java/lang/String" "COMPACT_STRINGS" "Z") (by simp [js_ws])) (fun x h => h) (show decode prog_20_method_154_code 0 = .ok (.getstatic 38, 3) by decide +kernel) ?_
  refine lv_if_eq hx hb (tgt := 17) (show decode prog_20_method_154_code 3 = .ok (.ifCond .eq 14, 3) by decide +kernel) (by decide) (fun h => absurd h (by decide)) (fun _ => ?_)
  refine lv_aload_n hx hb (show decode prog_20_method_154_code 6 = .ok (.aload_n 0, 1) by decide +kernel) rfl rfl ?_
  refine vk_getf hx hb hC va_S.rf ho (w (.fieldLink "java/lang/String" 15 "java/lang/String" "coder" "B") (by simp [js_ws])) (fun x h => h) (show decode prog_20_method_154_code 7 = .ok (.getfield 15, 3) by decide +kernel) ?_
  refine lv_if_ne hx hb (tgt := 17) (show decode prog_20_method_154_code 10 = .ok (.ifCond .ne 7, 3) by decide +kernel) (by decide) (fun h => absurd rfl h) (fun _ => ?_)
  refine lv_iconst hx hb (v := 1) (show decode prog_20_method_154_code 13 = .ok (.iconst 1, 1) by decide +kernel) rfl ?_
  refine lv_goto hx hb (tgt := 18) (show decode prog_20_method_154_code 14 = .ok (.goto 4, 3) by decide +kernel) (by decide) ?_
  exact vx_ret (W.zret hx hb hr rfl (fun t ht hW => ⟨rfl, ht⟩) (fun q h => by cases h) (show decode prog_20_method_154_code 18 = .ok (.ireturn, 1) by decide +kernel) (hlocks := B.notSynchronized))
/-- Preconditions.checkIndex of an index within -/
theorem js_pcheck (hJ : ∀ x ∈ js_ws, x ∈ ev_UW) {i k : Int32} {fm : Nat} (h0 : ¬ i < 0) (h1 : i < k) : js_M l B0 a v n f js_pi prog_28_method_11_code 3 (some .int) (js_rm 0 0) [.int i, .int k, .ref fm] (some (.int i)) := by
  refine vx_ofW (by decide) rfl fun p e s m args below meth c s₁ B hml hT hv => ?_
  obtain ⟨rfl, hO, hC, hV, hA, hZ, hF⟩ := hv
  obtain ⟨⟨hx, hb, hml2, ho, ht⟩, hr⟩ := js_fx B hml
  rw [lg_entry_eq]
  refine lv_iload_n hx hb (show decode prog_28_method_11_code 0 = .ok (.iload_n 0, 1) by decide +kernel) rfl rfl ?_
  refine lv_if_lt hx hb (tgt := 9) (show decode prog_28_method_11_code 1 = .ok (.ifCond .lt 8, 3) by decide +kernel) (by decide) (fun h => absurd h h0) (fun _ => ?_)
  refine lv_iload_n hx hb (show decode prog_28_method_11_code 4 = .ok (.iload_n 0, 1) by decide +kernel) rfl rfl ?_
  refine lv_iload_n hx hb (show decode prog_28_method_11_code 5 = .ok (.iload_n 1, 1) by decide +kernel) rfl rfl ?_
  refine lv_icmp_lt hx hb (tgt := 16) (show decode prog_28_method_11_code 6 = .ok (.if_icmp .lt 10, 3) by decide +kernel) (by decide) (fun _ => ?_) (fun h => absurd h1 h)
  refine lv_iload_n hx hb (show decode prog_28_method_11_code 16 = .ok (.iload_n 0, 1) by decide +kernel) rfl rfl ?_
  exact vx_ret (W.zret hx hb hr rfl (fun t ht hW => ⟨rfl, ht⟩) (fun q h => by cases h) (show decode prog_28_method_11_code 17 = .ok (.ireturn, 1) by decide +kernel) (hlocks := B.notSynchronized))
end JST
