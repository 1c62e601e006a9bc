/-! ===== String.length and String.charAt of a text constant: the JDK's own bodies, walked (own work) ===== -/
def js_rm (k L : Nat) : Room := { frames := k, cells := 0, slots := 0, locals := L }
section JST
variable {l : Launch} {A0 : Nat → Prop} {a v n : Nat} {f : Nat → Int32}
/-- a text as it lies in the heap -/
def js_T (A0 : Nat → Prop) (a v n : Nat) (f : Nat → Int32) (U : State) (H : Heap) : Prop :=
  va_O "java/lang/String" a A0 U H ∧ va_OF "java/lang/String" "coder" "B" (.int 0) a A0 U H ∧ va_OF "java/lang/String" "value" "[B" (.ref v) a A0 U H ∧ va_T .byte v n (fun j => .int (f j)) A0 U H ∧
  va_Z "java/lang/String" "COMPACT_STRINGS" "Z" (.int 1) A0 U H ∧ ∃ fv : Value, (fv = .null ∨ ∃ z, fv = .ref z) ∧ va_Z "jdk/internal/util/Preconditions" "SIOOBE_FORMATTER" "Ljava/util/function/BiFunction;" fv A0 U H
theorem js_T.moved {u U : State} {H : Heap} (hv : u.vm.Alike U.vm) (h : js_T A0 a v n f u H) : js_T A0 a v n f U H := by
  obtain ⟨h1, h2, h3, h4, h5, fm, h7, h6⟩ := h
  exact ⟨h1.moved hv, h2.moved hv, h3.moved hv, h4.moved hv, h5.moved hv, fm, h7, h6.moved hv⟩
theorem js_T.kept {U : State} {H H1 : Heap} (h : js_T A0 a v n f U H) (hq : ∀ q : Nat, q < H.size → ¬ A0 q → H1[q]? = H[q]?) : js_T A0 a v n f U H1 := by
  obtain ⟨h1, h2, h3, h4, h5, fm, h7, h6⟩ := h
  exact ⟨h1.kept hq, h2.kept hq, h3.kept hq, h4.kept hq, h5.kept hq, fm, h7, h6.kept hq⟩
def js_P (A0 : Nat → Prop) (a v n : Nat) (f : Nat → Int32) (As : List Value) : Array Value → State → Prop := fun x U => x = As.toArray ∧ js_T A0 a v n f U U.heap
theorem js_P_blind {As : List Value} : FrameBlind (js_P A0 a v n f As) := by
  intro x U g mk h
  exact ⟨h.1, js_T.moved (u := U) (U := U.calling g mk x) (Vm.Alike.refl U.vm) h.2⟩
def js_Q (r : Option Value) : Array Value → State → Outcome → State → Prop := fun _ st o t => o = .returned r ∧ t.heap = st.heap
def js_X : String → State → State → Prop := fun _ _ _ => False
def js_M (l : Launch) (A0 : Nat → Prop) (a v n : Nat) (f : Nat → Int32) (y : MethodName) (cc : ByteArray) (nL : Nat) (ret : Option FieldType) (rm : Room) (As : List Value) (r : Option Value) : Prop :=
  vx_Met l y (Cond.code y cc nL ret :: ev_UW) rm (js_P A0 a v n f As) (js_Q r) js_X 0 0 A0
variable {p : Program} {e : Env} {R : Room} {s : State} {m : MethodId} {args : Array Value} {below : List Frame} {meth : Method} {c : Code} {H : Heap} {locs : List Loc} {cells slots : Nat} {Q : State → Prop}
variable {cc : ByteArray} {nL pc : Nat} {Ts : List Cond} {own : String} {ls : Array Slot} {rest : List Value} {r : Option Value}
theorem js_end {st0 : List Value} {a9 : Array Value} (hS : va_S A0 s.heap H locs)
    (hrun : vx_Run p l e R s m args below meth c H locs cells slots 0 0 (F0 m pc ls st0) rest (js_Q r a9) js_X A0)
    (kk : ∀ locs1, va_S A0 s.heap H locs1 → W p l e R s m args below meth c H locs1 (cells + 0) (slots + 0) Q (F0 m (pc + 3) ls (r.toList ++ rest))) :
    W p l e R s m args below meth c H locs cells slots Q (F0 m pc ls st0) := by
  intro T hT X
  rcases hrun T hT X with ⟨v, st₀, t, T', L9, h0, X', hL, e1, e2, ⟨g1, g2⟩, stp⟩ | ⟨q, st₀, t, T', L9, E, ce, h0, X', hL, e1, e2, hf, -⟩
  · obtain ⟨-, -, k3⟩ := vx_keep h0 e1 hS (fun q _ h => h) (fun q h => h) hL ⟨Nat.le_of_eq (by rw [g2]), fun q _ _ => by rw [g2]⟩
    have g1 := Outcome.returned.inj g1
    subst g1
    have eH : T'.heap = H := by rw [e1, g2, h0]
    obtain ⟨t2, a1, b1⟩ := kk (locs ++ L9) (by rw [← eH]; exact k3) T' eH X'
    exact ⟨t2, stp t2 a1, b1⟩
  · exact hf.elim
/-- a call of one of them on a text -/
theorem js_callV {y : MethodName} {bytes : ByteArray} {maxL : Nat} {ret : Option FieldType} {rm : Room} {As : List Value} {ix k : Nat} (S : CallFix p m c cc nL s args Ts own) (hTs : ∀ x ∈ ev_UW, x ∈ Ts) (hM : js_M l A0 a v n f y bytes maxL ret rm (.ref a :: As) r) (hrm : rm.cells = 0 ∧ rm.slots = 0)
    (hcw : Cond.code y bytes maxL ret ∈ ev_UW) (hyc : y.cls = "java/lang/String") (w1 : Cond.initialized "java/lang/String" ∈ ev_UW) (w2 : (Cond.methodLink own ix y).before args s = true) (w3 : Cond.instanceMethod y ∈ ev_UW) (w4 : Cond.selects "java/lang/String" y y ∈ ev_UW)
    (hnm : y.cls ≠ "java/lang/invoke/MethodHandle" ∧ y.cls ≠ "java/lang/invoke/VarHandle" ∧ (parseMethodDescriptor y.desc).map (fun d => d.parameters.length) = some k) (hk : As.length = k)
    (hroom : rm.frames + 1 ≤ R.frames ∧ 8 + (maxL + 11) + rm.locals ≤ R.locals) (hT : js_T A0 a v n f s s.heap) (hS : va_S A0 s.heap H locs) (hsize : ls.size = nL) (hW : (rest.map fun v => v.category).sum ≤ 8) (hdg : decode cc pc = .ok (.invokevirtual ix, 3)) (hf : cells ≤ R.cells ∧ slots ≤ R.slots)
    (kk : ∀ locs1, va_S A0 s.heap H locs1 → W p l e R s m args below meth c H locs1 (cells + 0) (slots + 0) Q (F0 m (pc + 3) ls (r.toList ++ rest))) :
    W p l e R s m args below meth c H locs cells slots Q (F0 m pc ls (As.reverse ++ .ref a :: rest)) := by
  have ht := S.2.2.2.2
  have hGood : GoodIn Ts (Cond.code y bytes maxL ret :: ev_UW) := ev_good hTs (fun x hx => by
    rcases List.mem_cons.mp hx with rfl | hx
    · exact hcw
    · exact hx)
  obtain ⟨cell, g1, g2, g3, -⟩ := hT.1.kept hS.2.1
  exact js_end hS (vx_runV (R := R) (l := l) (e := e) (below := below) (meth := meth) (H := H) (locs := locs) (cells := cells) (slots := slots) (g := F0 m pc ls (As.reverse ++ .ref a :: rest)) (As := As) (rest := rest) (b := a) (C := "java/lang/String") (index := ix) (n := k) (bytes := bytes) (maxL := maxL) (ret := ret) S hM
    ⟨callB_of k ht hGood rfl hrm.1 hrm.2 (by rw [hyc]; exact ht _ (hTs _ w1)) w2 hnm hroom, ht _ (hTs _ w3), ht _ (hTs _ w4)⟩
    ⟨js_P_blind, ⟨cell, g1, g2, g3⟩, fun U hU hW => ⟨rfl, by rw [hU]; exact (hT.kept hS.2.1).moved hW.alike⟩⟩ rfl hk hsize rfl (by show 2 * 0 + _ ≤ 8; omega) hdg ⟨hf.1, hf.2⟩) kk
theorem js_callS {y : MethodName} {bytes : ByteArray} {maxL : Nat} {ret : Option FieldType} {rm : Room} {As : List Value} {ix k : Nat} (S : CallFix p m c cc nL s args Ts own) (hTs : ∀ x ∈ ev_UW, x ∈ Ts) (hM : js_M l A0 a v n f y bytes maxL ret rm As r) (hrm : rm.cells = 0 ∧ rm.slots = 0)
    (hcw : Cond.code y bytes maxL ret ∈ ev_UW) (w1 : Cond.initialized y.cls ∈ ev_UW) (w2 : Cond.methodLink own ix y ∈ ev_UW) (w3 : Cond.static y ∈ ev_UW)
    (hnm : y.cls ≠ "java/lang/invoke/MethodHandle" ∧ y.cls ≠ "java/lang/invoke/VarHandle" ∧ (parseMethodDescriptor y.desc).map (fun d => d.parameters.length) = some k) (hk : As.length = k)
    (hroom : rm.frames + 1 ≤ R.frames ∧ 8 + (maxL + 11) + rm.locals ≤ R.locals) (hT : js_T A0 a v n f s s.heap) (hS : va_S A0 s.heap H locs) (hsize : ls.size = nL) (hW : (rest.map fun v => v.category).sum ≤ 8) (hdg : decode cc pc = .ok (.invokestatic ix, 3)) (hf : cells ≤ R.cells ∧ slots ≤ R.slots)
    (kk : ∀ locs1, va_S A0 s.heap H locs1 → W p l e R s m args below meth c H locs1 (cells + 0) (slots + 0) Q (F0 m (pc + 3) ls (r.toList ++ rest))) :
    W p l e R s m args below meth c H locs cells slots Q (F0 m pc ls (As.reverse ++ rest)) := by
  have ht := S.2.2.2.2
  have hGood : GoodIn Ts (Cond.code y bytes maxL ret :: ev_UW) := ev_good hTs (fun x hx => by
    rcases List.mem_cons.mp hx with rfl | hx
    · exact hcw
    · exact hx)
  exact js_end hS (vx_runS (R := R) (l := l) (e := e) (below := below) (meth := meth) (H := H) (locs := locs) (cells := cells) (slots := slots) (g := F0 m pc ls (As.reverse ++ rest)) (As := As) (rest := rest) (index := ix) (n := k) (bytes := bytes) (maxL := maxL) (ret := ret) S hM
    ⟨callB_of k ht hGood rfl hrm.1 hrm.2 (ht _ (hTs _ w1)) (ht _ (hTs _ w2)) hnm hroom, ht _ (hTs _ w3)⟩
    ⟨js_P_blind, fun U hU hW => ⟨rfl, by rw [hU]; exact (hT.kept hS.2.1).moved hW.alike⟩⟩ rfl hk hsize rfl (by show 2 * 0 + _ ≤ 8; omega) hdg ⟨hf.1, hf.2⟩) kk
theorem js_fx {y : MethodName} {ret : Option FieldType} {rm : Room} {s₁ : State} (B : BodyLoose p l y (headSpec (Cond.code y cc nL ret :: ev_UW) rm) cc nL ret e s m args below meth c s₁) (hml : c.maxLocals = nL) : CallFix p m c cc nL s args (Cond.code y cc nL ret :: ev_UW) y.cls ∧ meth.sig.returnType = ret :=
  ⟨⟨B.exec, B.bytes, hml, findClass_of_methodNamed B.named, atoms_spec (ws := Cond.code y cc nL ret :: ev_UW) B.pre⟩, B.returns⟩
theorem js_up {y : Cond} : ∀ x ∈ ev_UW, x ∈ y :: ev_UW := fun _ h => List.mem_cons_of_mem _ h
theorem js_coder (hJ : ∀ x ∈ js_ws, x ∈ ev_UW) : js_M l A0 a v n f js_co prog_26_method_152_code 1 (some .byte) (js_rm 0 0) [.ref a] (some (.int 0)) := by
  refine vx_ofW (by decide) rfl fun p e s m args below meth c s₁ B hml hT hv => ?_
  obtain ⟨rfl, hO, hC, hV, hA, hZ, hF⟩ := hv
  obtain ⟨⟨hx, hb, hml2, ho, ht⟩, hr⟩ := js_fx B hml
  have w : ∀ x ∈ js_ws, x.before [Value.ref a].toArray s = true := fun x h => ht x (js_up x (hJ x h))
  rw [lg_entry_eq]
  refine va_gets hx hb hZ va_S.rf ho (w (.fieldLink "java/lang/String" 38 "java/lang/String" "COMPACT_STRINGS" "Z") (by simp [js_ws])) (fun x h => h) (show decode prog_26_method_152_code 0 = .ok (.getstatic 38, 3) by decide +kernel) ?_
  refine lv_if_eq hx hb (tgt := 13) (show decode prog_26_method_152_code 3 = .ok (.ifCond .eq 10, 3) by decide +kernel) (by decide) (fun h => absurd h (by decide)) (fun _ => ?_)
  refine lv_aload_n hx hb (show decode prog_26_method_152_code 6 = .ok (.aload_n 0, 1) by decide +kernel) rfl rfl ?_
  refine vk_getf hx hb hC va_S.rf ho (w (.fieldLink "java/lang/String" 15 "java/lang/String" "coder" "B") (by simp [js_ws])) (fun x h => h) (show decode prog_26_method_152_code 7 = .ok (.getfield 15, 3) by decide +kernel) ?_
  refine lv_goto hx hb (tgt := 14) (show decode prog_26_method_152_code 10 = .ok (.goto 4, 3) by decide +kernel) (by decide) ?_
  exact vx_ret (W.zret hx hb hr rfl (fun t ht hW => ⟨rfl, ht⟩) (fun q h => by cases h) (show decode prog_26_method_152_code 14 = .ok (.ireturn, 1) by decide +kernel) (hlocks := B.notSynchronized))
theorem js_isLatin1 (hJ : ∀ x ∈ js_ws, x ∈ ev_UW) : js_M l A0 a v n f js_il prog_26_method_154_code 1 (some .boolean) (js_rm 0 0) [.ref a] (some (.int 1)) := by
  refine vx_ofW (by decide) rfl fun p e s m args below meth c s₁ B hml hT hv => ?_
  obtain ⟨rfl, hO, hC, hV, hA, hZ, hF⟩ := hv
  obtain ⟨⟨hx, hb, hml2, ho, ht⟩, hr⟩ := js_fx B hml
  have w : ∀ x ∈ js_ws, x.before [Value.ref a].toArray s = true := fun x h => ht x (js_up x (hJ x h))
  rw [lg_entry_eq]
  refine va_gets hx hb hZ va_S.rf ho (w (.fieldLink "java/lang/String" 38 "java/lang/String" "COMPACT_STRINGS" "Z") (by simp [js_ws])) (fun x h => h) (show decode prog_26_method_154_code 0 = .ok (.getstatic 38, 3) by decide +kernel) ?_
  refine lv_if_eq hx hb (tgt := 17) (show decode prog_26_method_154_code 3 = .ok (.ifCond .eq 14, 3) by decide +kernel) (by decide) (fun h => absurd h (by decide)) (fun _ => ?_)
  refine lv_aload_n hx hb (show decode prog_26_method_154_code 6 = .ok (.aload_n 0, 1) by decide +kernel) rfl rfl ?_
  refine vk_getf hx hb hC va_S.rf ho (w (.fieldLink "java/lang/String" 15 "java/lang/String" "coder" "B") (by simp [js_ws])) (fun x h => h) (show decode prog_26_method_154_code 7 = .ok (.getfield 15, 3) by decide +kernel) ?_
  refine lv_if_ne hx hb (tgt := 17) (show decode prog_26_method_154_code 10 = .ok (.ifCond .ne 7, 3) by decide +kernel) (by decide) (fun h => absurd rfl h) (fun _ => ?_)
  refine lv_iconst hx hb (v := 1) (show decode prog_26_method_154_code 13 = .ok (.iconst 1, 1) by decide +kernel) rfl ?_
  refine lv_goto hx hb (tgt := 18) (show decode prog_26_method_154_code 14 = .ok (.goto 4, 3) by decide +kernel) (by decide) ?_
  exact vx_ret (W.zret hx hb hr rfl (fun t ht hW => ⟨rfl, ht⟩) (fun q h => by cases h) (show decode prog_26_method_154_code 18 = .ok (.ireturn, 1) by decide +kernel) (hlocks := B.notSynchronized))
/-- Preconditions.checkIndex of an index within -/
theorem js_pcheck (hJ : ∀ x ∈ js_ws, x ∈ ev_UW) {i k : Int32} {fv : Value} (hfv : fv = .null ∨ ∃ z, fv = .ref z) (h0 : ¬ i < 0) (h1 : i < k) : js_M l A0 a v n f js_pi prog_46_method_11_code 3 (some .int) (js_rm 0 0) [.int i, .int k, fv] (some (.int i)) := by
  rcases hfv with rfl | ⟨fm, rfl⟩
  all_goals
    refine vx_ofW (by decide) rfl fun p e s m args below meth c s₁ B hml hT hv => ?_
    obtain ⟨rfl, hO, hC, hV, hA, hZ, hF⟩ := hv
    obtain ⟨⟨hx, hb, hml2, ho, ht⟩, hr⟩ := js_fx B hml
    rw [lg_entry_eq]
    refine lv_iload_n hx hb (show decode prog_46_method_11_code 0 = .ok (.iload_n 0, 1) by decide +kernel) rfl rfl ?_
    refine lv_if_lt hx hb (tgt := 9) (show decode prog_46_method_11_code 1 = .ok (.ifCond .lt 8, 3) by decide +kernel) (by decide) (fun h => absurd h h0) (fun _ => ?_)
    refine lv_iload_n hx hb (show decode prog_46_method_11_code 4 = .ok (.iload_n 0, 1) by decide +kernel) rfl rfl ?_
    refine lv_iload_n hx hb (show decode prog_46_method_11_code 5 = .ok (.iload_n 1, 1) by decide +kernel) rfl rfl ?_
    refine lv_icmp_lt hx hb (tgt := 16) (show decode prog_46_method_11_code 6 = .ok (.if_icmp .lt 10, 3) by decide +kernel) (by decide) (fun _ => ?_) (fun h => absurd h1 h)
    refine lv_iload_n hx hb (show decode prog_46_method_11_code 16 = .ok (.iload_n 0, 1) by decide +kernel) rfl rfl ?_
    exact vx_ret (W.zret hx hb hr rfl (fun t ht hW => ⟨rfl, ht⟩) (fun q h => by cases h) (show decode prog_46_method_11_code 17 = .ok (.ireturn, 1) by decide +kernel) (hlocks := B.notSynchronized))
theorem js_check (hJ : ∀ x ∈ js_ws, x ∈ ev_UW) {i k : Int32} (h0 : ¬ i < 0) (h1 : i < k) : js_M l A0 a v n f js_ci prog_26_method_155_code 2 none (js_rm 1 22) [.int i, .int k] none := by
  refine vx_ofW (by decide) rfl fun p e s m args below meth c s₁ B hml hT hv => ?_
  have hv' := hv
  obtain ⟨rfl, hO, hC, hV, hA, hZ, fv, hfv, hF⟩ := hv
  obtain ⟨hfx, hr⟩ := js_fx B hml
  obtain ⟨hx, hb, hml2, ho, ht⟩ := id hfx
  have w : ∀ x ∈ js_ws, x.before [Value.int i, Value.int k].toArray s = true := fun x h => ht x (js_up x (hJ x h))
  rw [lg_entry_eq]
  refine lv_iload_n hx hb (show decode prog_26_method_155_code 0 = .ok (.iload_n 0, 1) by decide +kernel) rfl rfl ?_
  refine lv_iload_n hx hb (show decode prog_26_method_155_code 1 = .ok (.iload_n 1, 1) by decide +kernel) rfl rfl ?_
  refine va_gets hx hb hF va_S.rf ho (w (.fieldLink "java/lang/String" 1053 "jdk/internal/util/Preconditions" "SIOOBE_FORMATTER" "Ljava/util/function/BiFunction;") (by simp [js_ws])) (fun x h => h) (show decode prog_26_method_155_code 2 = .ok (.getstatic 1053, 3) by decide +kernel) ?_
  refine js_callS (As := [.int i, .int k, fv]) (rest := []) (k := 3) hfx js_up (js_pcheck hJ hfv h0 h1) ⟨rfl, rfl⟩ (hJ _ (by simp [js_ws])) (hJ (.initialized "jdk/internal/util/Preconditions") (by simp [js_ws])) (hJ (.methodLink "java/lang/String" 1059 js_pi) (by simp [js_ws])) (hJ _ (by simp [js_ws])) ⟨by decide, by decide, by decide +kernel⟩ rfl (by decide) hv'.2 va_S.rf rfl (by decide) (show decode prog_26_method_155_code 5 = .ok (.invokestatic 1059, 3) by decide +kernel) ⟨Nat.le_refl _, Nat.le_refl _⟩ (fun locs1 hS => ?_)
  refine lv_pop hx hb (show decode prog_26_method_155_code 8 = .ok (.pop, 1) by decide +kernel) rfl ?_
  exact vx_ret (W.vret hx hb hr (fun t ht hW => ⟨rfl, ht⟩) hS.2.2 (show decode prog_26_method_155_code 9 = .ok (.return_, 1) by decide +kernel) (hlocks := B.notSynchronized))
theorem js_nar : ∀ z : Nat, z < 128 → (((nI z &&& 255).toUInt32 % 65536).toInt32 = nI z ∧ narrow .char (.int (nI z)) = .int (nI z)) := by decide +kernel
theorem js_shr : ∀ n : Nat, n < 9 → nI n >>> ((0 : Int32) &&& 31) = nI n := by decide +kernel
theorem js_lchar (hJ : ∀ x ∈ js_ws, x ∈ ev_UW) {j z : Nat} (hj : j < n) (hn : n < 9) (hz : f j = nI z) (hz2 : z < 128) : js_M l A0 a v n f js_lc prog_28_method_2_code 2 (some .char) (js_rm 2 43) [.ref v, .int (nI j)] (some (.int (nI z))) := by
  refine vx_ofW (by decide) rfl fun p e s m args below meth c s₁ B hml hT hv => ?_
  have hv' := hv
  obtain ⟨rfl, hO, hC, hV, hA, hZ, fv, hfv, hF⟩ := hv
  obtain ⟨hfx, hr⟩ := js_fx B hml
  obtain ⟨hx, hb, hml2, ho, ht⟩ := id hfx
  have nz := js_nar z hz2
  rw [lg_entry_eq]
  refine lv_iload_n hx hb (show decode prog_28_method_2_code 0 = .ok (.iload_n 1, 1) by decide +kernel) rfl rfl ?_
  refine lv_aload_n hx hb (show decode prog_28_method_2_code 1 = .ok (.aload_n 0, 1) by decide +kernel) rfl rfl ?_
  refine va_tlen hx hb hA va_S.rf (v := nI n) rfl (show decode prog_28_method_2_code 2 = .ok (.arraylength, 1) by decide +kernel) ?_
  refine js_callS (As := [.int (nI j), .int (nI n)]) (rest := []) (k := 2) hfx js_up (js_check hJ (nI_pos (by omega)) (nI_lt hj (by omega))) ⟨rfl, rfl⟩ (hJ _ (by simp [js_ws])) (hJ (.initialized "java/lang/String") (by simp [js_ws])) (hJ (.methodLink "java/lang/StringLatin1" 9 js_ci) (by simp [js_ws])) (hJ _ (by simp [js_ws])) ⟨by decide, by decide, by decide +kernel⟩ rfl (by decide) hv'.2 va_S.rf rfl (by decide) (show decode prog_28_method_2_code 3 = .ok (.invokestatic 9, 3) by decide +kernel) ⟨Nat.le_refl _, Nat.le_refl _⟩ (fun locs1 hS => ?_)
  refine lv_aload_n hx hb (show decode prog_28_method_2_code 6 = .ok (.aload_n 0, 1) by decide +kernel) rfl rfl ?_
  refine lv_iload_n hx hb (show decode prog_28_method_2_code 7 = .ok (.iload_n 1, 1) by decide +kernel) rfl rfl ?_
  refine va_tb hx hb hA hS (vp_in_nI hj (by omega)) (v := .int (nI z)) (by rw [nI_clamp (by omega), hz]) (show decode prog_28_method_2_code 8 = .ok (.baload, 1) by decide +kernel) ?_
  refine lv_sipush hx hb (v := 255) (show decode prog_28_method_2_code 9 = .ok (.sipush 255, 3) by decide +kernel) (by decide) ?_
  refine lv_iand hx hb (show decode prog_28_method_2_code 12 = .ok (.iand, 1) by decide +kernel) ?_
  refine lv_i2c hx hb (v := nI z) (show decode prog_28_method_2_code 13 = .ok (.i2c, 1) by decide +kernel) nz.1 ?_
  exact vx_ret (W.zret hx hb hr nz.2 (fun t ht hW => ⟨rfl, ht⟩) hS.2.2 (show decode prog_28_method_2_code 14 = .ok (.ireturn, 1) by decide +kernel) (hlocks := B.notSynchronized))
theorem js_length (hJ : ∀ x ∈ js_ws, x ∈ ev_UW) (hn : n < 9) : js_M l A0 a v n f js_ln prog_26_method_54_code 1 (some .int) (js_rm 1 22) [.ref a] (some (.int (nI n))) := by
  refine vx_ofW (by decide) rfl fun p e s m args below meth c s₁ B hml hT hv => ?_
  have hv' := hv
  obtain ⟨rfl, hO, hC, hV, hA, hZ, fv, hfv, hF⟩ := hv
  obtain ⟨hfx, hr⟩ := js_fx B hml
  obtain ⟨hx, hb, hml2, ho, ht⟩ := id hfx
  have w : ∀ x ∈ js_ws, x.before [Value.ref a].toArray s = true := fun x h => ht x (js_up x (hJ x h))
  rw [lg_entry_eq]
  refine lv_aload_n hx hb (show decode prog_26_method_54_code 0 = .ok (.aload_n 0, 1) by decide +kernel) rfl rfl ?_
  refine vk_getf hx hb hV va_S.rf ho (w (.fieldLink "java/lang/String" 9 "java/lang/String" "value" "[B") (by simp [js_ws])) (fun x h => h) (show decode prog_26_method_54_code 1 = .ok (.getfield 9, 3) by decide +kernel) ?_
  refine va_tlen hx hb hA va_S.rf (v := nI n) rfl (show decode prog_26_method_54_code 4 = .ok (.arraylength, 1) by decide +kernel) ?_
  refine lv_aload_n hx hb (show decode prog_26_method_54_code 5 = .ok (.aload_n 0, 1) by decide +kernel) rfl rfl ?_
  refine js_callV (As := []) (rest := [.int (nI n)]) (k := 0) hfx js_up (js_coder hJ) ⟨rfl, rfl⟩ (hJ _ (by simp [js_ws])) rfl (hJ _ (by simp [js_ws])) (w (.methodLink "java/lang/String" 335 js_co) (by simp [js_ws])) (hJ _ (by simp [js_ws])) (hJ _ (by simp [js_ws])) ⟨by decide, by decide, by decide +kernel⟩ rfl (by decide) hv'.2 va_S.rf rfl (Nat.le_of_ble_eq_true rfl) (show decode prog_26_method_54_code 6 = .ok (.invokevirtual 335, 3) by decide +kernel) ⟨Nat.le_refl _, Nat.le_refl _⟩ (fun locs1 hS => ?_)
  refine lv_ishr hx hb (show decode prog_26_method_54_code 9 = .ok (.ishr, 1) by decide +kernel) ?_
  rw [js_shr n hn]
  exact vx_ret (W.zret hx hb hr rfl (fun t ht hW => ⟨rfl, ht⟩) hS.2.2 (show decode prog_26_method_54_code 10 = .ok (.ireturn, 1) by decide +kernel) (hlocks := B.notSynchronized))
theorem js_char (hJ : ∀ x ∈ js_ws, x ∈ ev_UW) {j z : Nat} (hj : j < n) (hn : n < 9) (hz : f j = nI z) (hz2 : z < 128) : js_M l A0 a v n f js_ch prog_26_method_56_code 2 (some .char) (js_rm 3 64) [.ref a, .int (nI j)] (some (.int (nI z))) := by
  refine vx_ofW (by decide) rfl fun p e s m args below meth c s₁ B hml hT hv => ?_
  have hv' := hv
  obtain ⟨rfl, hO, hC, hV, hA, hZ, fv, hfv, hF⟩ := hv
  obtain ⟨hfx, hr⟩ := js_fx B hml
  obtain ⟨hx, hb, hml2, ho, ht⟩ := id hfx
  have nz := js_nar z hz2
  have w : ∀ x ∈ js_ws, x.before [Value.ref a, Value.int (nI j)].toArray s = true := fun x h => ht x (js_up x (hJ x h))
  rw [lg_entry_eq]
  refine lv_aload_n hx hb (show decode prog_26_method_56_code 0 = .ok (.aload_n 0, 1) by decide +kernel) rfl rfl ?_
  refine js_callV (As := []) (rest := []) (k := 0) hfx js_up (js_isLatin1 hJ) ⟨rfl, rfl⟩ (hJ _ (by simp [js_ws])) rfl (hJ _ (by simp [js_ws])) (w (.methodLink "java/lang/String" 492 js_il) (by simp [js_ws])) (hJ _ (by simp [js_ws])) (hJ _ (by simp [js_ws])) ⟨by decide, by decide, by decide +kernel⟩ rfl (by decide) hv'.2 va_S.rf rfl (by decide) (show decode prog_26_method_56_code 1 = .ok (.invokevirtual 492, 3) by decide +kernel) ⟨Nat.le_refl _, Nat.le_refl _⟩ (fun locs1 hS => ?_)
  refine lv_if_eq hx hb (tgt := 16) (show decode prog_26_method_56_code 4 = .ok (.ifCond .eq 12, 3) by decide +kernel) (by decide) (fun h => absurd h (by decide)) (fun _ => ?_)
  refine lv_aload_n hx hb (show decode prog_26_method_56_code 7 = .ok (.aload_n 0, 1) by decide +kernel) rfl rfl ?_
  refine vk_getf hx hb hV hS ho (w (.fieldLink "java/lang/String" 9 "java/lang/String" "value" "[B") (by simp [js_ws])) (fun x h => h) (show decode prog_26_method_56_code 8 = .ok (.getfield 9, 3) by decide +kernel) ?_
  refine lv_iload_n hx hb (show decode prog_26_method_56_code 11 = .ok (.iload_n 1, 1) by decide +kernel) rfl rfl ?_
  refine js_callS (As := [.ref v, .int (nI j)]) (rest := []) (k := 2) hfx js_up (js_lchar hJ hj hn hz hz2) ⟨rfl, rfl⟩ (hJ _ (by simp [js_ws])) (hJ (.initialized "java/lang/StringLatin1") (by simp [js_ws])) (hJ (.methodLink "java/lang/String" 495 js_lc) (by simp [js_ws])) (hJ _ (by simp [js_ws])) ⟨by decide, by decide, by decide +kernel⟩ rfl (by decide) hv'.2 hS rfl (by decide) (show decode prog_26_method_56_code 12 = .ok (.invokestatic 495, 3) by decide +kernel) ⟨Nat.le_refl _, Nat.le_refl _⟩ (fun locs2 hS2 => ?_)
  exact vx_ret (W.zret hx hb hr nz.2 (fun t ht hW => ⟨rfl, ht⟩) hS2.2.2 (show decode prog_26_method_56_code 15 = .ok (.ireturn, 1) by decide +kernel) (hlocks := B.notSynchronized))
end JST
section EVS
variable {D : va_G} {aC : Nat → ClassId} {b : ev_B} {B0 L : Nat} {σ : Nat → Int32}
variable {p : Program} {l : Launch} {e : Env} {R : Room} {s : State} {m : MethodId} {args : Array Value} {below : List Frame} {meth : Method} {c : Code} {Q : State → Prop}
variable {cc : ByteArray} {nL : Nat} {Ts : List Cond} {own : String} {Sg : List (String × (Nat × String))}
variable {Φ : ev_P} {M : ev_M} {k : ev_N} {cl : ev_F} {nx a b' c' pc : Nat} {tg : List Nat} {loc : ev_L} {st : List ev_V} {w : ev_W} {r : ev_S}
theorem ev_ad_s {i : Nat} (h : ev_tb ≤ i) : ev_ad b B0 i = b.2.1 (i - ev_tb) := by
  have e : ev_tb = 2000000 := rfl
  rw [e] at h ⊢
  unfold ev_ad
  rw [if_neg (by omega), if_pos h]
theorem ev_o_ldcs (hF : ev_Fx D aC b B0 L σ p s m args meth c cc nL Ts own Sg) (hk : ∀ pc loc st w, k pc loc st w = some r → ev_Go D aC b B0 σ p l e R s m args below meth c Q nL pc loc st w) (h : ev_h_ldcs Φ M k cl nx a b' c' tg pc loc st w = some r) (hi : ev_i_ldcs cc own pc nx a) : ev_Go D aC b B0 σ p l e R s m args below meth c Q nL pc loc st w := by
  obtain ⟨hx, hb, hml, ho, ht, hV, hZ, -⟩ := id hF
  obtain ⟨ha, h1, d, rfl⟩ := hi
  have h : ev_if (Nat.ble (a + 1) 26) (k (pc + 2) loc (.inr (.inl (some (ev_tb + a))) :: st) w) none = some r := h
  obtain ⟨-, h⟩ := ev_if_n h
  refine ev_pure hk h fun H locs ls hl g => ?_
  rw [List.map_cons] at g
  have e : ev_dn b B0 σ (.inr (.inl (some (ev_tb + a)))) = .ref (b.2.1 a) := by
    show Value.ref (ev_ad b B0 (ev_tb + a)) = _
    rw [ev_ad_s (by omega), Nat.add_sub_cancel_left]
  rw [e] at g
  subst h1
  exact va_ldcS hx hb ho (hZ.2.2.2.2.2 a ha).1 d g
/-- the text behind a thing -/
theorem ev_tx_ok {i : Nat} {t : List Nat} (hZ : ev_ZF b B0 L σ s s.heap) (h1 : ev_tin i = true) (h2 : ev_txt (i - ev_tb) = some t) : t.length < 9 ∧ (∀ j, t.getD j 0 < 128) ∧ ∃ v, js_T (ev_A b B0) (b.2.1 (i - ev_tb)) v t.length (fun j => nI (t.getD j 0)) s s.heap := by
  unfold ev_tin at h1
  rw [Bool.and_eq_true] at h1
  have k1 := Nat.le_of_ble_eq_true h1.1
  have k2 := Nat.le_of_ble_eq_true h1.2
  obtain ⟨q1, q2, q3, v, q4, q5⟩ := hZ.2.2.2.2.2 (i - ev_tb) (by omega)
  obtain ⟨l9, g1, g2, g3, g4⟩ := gtx_some (p := (i : Int))
  have eb : ev_bt (i - ev_tb) = t := by
    unfold ev_bt
    rw [h2]
    rfl
  have g1 : ev_txt (i - ev_tb) = some l9 := g1
  rw [h2] at g1
  have := Option.some.inj g1
  subst this
  rw [eb] at q5
  exact ⟨g3, g4, v, q2, q3, q4, q5, hZ.2.2.2.1, hZ.2.2.2.2.1⟩
theorem ev_o_slen (hF : ev_Fx D aC b B0 L σ p s m args meth c cc nL Ts own Sg) (hTs : ∀ x ∈ ev_UW, x ∈ Ts) (hR : 10 ≤ R.frames ∧ 100 ≤ R.locals) (hMR : M.2.1 ≤ R.cells ∧ M.2.2.1 ≤ R.slots) (hk : ∀ pc loc st w, k pc loc st w = some r → ev_Go D aC b B0 σ p l e R s m args below meth c Q nL pc loc st w) (h : ev_h_slen Φ M k cl nx a b' c' tg pc loc st w = some r) (hi : ev_i_str cc own pc nx js_ln) : ev_Go D aC b B0 σ p l e R s m args below meth c Q nL pc loc st w := by
  obtain ⟨hx, hb, hml, ho, ht, hV, hZ, hbB, hB, hlk⟩ := id hF
  obtain ⟨ix, d, rfl, w1, hJ⟩ := hi
  unfold ev_h_slen at h
  split at h
  · next i rr =>
    obtain ⟨h1, h⟩ := ev_if_n h
    rw [Bool.and_eq_true, Bool.and_eq_true] at h1
    split at h
    · next t htx =>
      obtain ⟨t1, t2, v, hT⟩ := ev_tx_ok hZ h1.1 htx
      have k1 := Nat.le_of_ble_eq_true h1.2.1
      have k2 := ev_cs_ok (b := b) (B0 := B0) (σ := σ) rr
      have k3 := ev_may_ok h1.2.2 hMR
      have hi : ev_tb ≤ i := by
        have := h1.1
        unfold ev_tin at this
        rw [Bool.and_eq_true] at this
        exact Nat.le_of_ble_eq_true this.1
      intro H locs ls hl hJ2 hS
      rw [List.map_cons]
      have e : ev_dn b B0 σ (.inr (.inl (some i))) = .ref (b.2.1 (i - ev_tb)) := by
        show Value.ref (ev_ad b B0 i) = _
        rw [ev_ad_s hi]
      rw [e]
      refine js_callV (As := []) (k := 0) ⟨hx, hb, hml, ho, ht⟩ hTs (js_length hJ t1) ⟨rfl, rfl⟩ (hJ _ (by simp [js_ws])) rfl (hJ _ (by simp [js_ws])) (ht _ (hTs _ w1)) (hJ _ (by simp [js_ws])) (hJ _ (by simp [js_ws])) ⟨by decide, by decide, by decide +kernel⟩ rfl (by show 1 + 1 ≤ _ ∧ 8 + (1 + 11) + 22 ≤ _; omega) hT hS hl.1 (by omega) d ⟨by omega, by omega⟩ (fun locs1 hS1 => ?_)
      exact hk _ _ _ _ h H locs1 ls hl hJ2 hS1
    · cases h
  · cases h
theorem ev_o_chat (hF : ev_Fx D aC b B0 L σ p s m args meth c cc nL Ts own Sg) (hTs : ∀ x ∈ ev_UW, x ∈ Ts) (hR : 10 ≤ R.frames ∧ 100 ≤ R.locals) (hMR : M.2.1 ≤ R.cells ∧ M.2.2.1 ≤ R.slots) (hk : ∀ pc loc st w, k pc loc st w = some r → ev_Go D aC b B0 σ p l e R s m args below meth c Q nL pc loc st w) (h : ev_h_chat Φ M k cl nx a b' c' tg pc loc st w = some r) (hi : ev_i_str cc own pc nx js_ch) : ev_Go D aC b B0 σ p l e R s m args below meth c Q nL pc loc st w := by
  obtain ⟨hx, hb, hml, ho, ht, hV, hZ, hbB, hB, hlk⟩ := id hF
  obtain ⟨ix, d, rfl, w1, hJ⟩ := hi
  unfold ev_h_chat at h
  split at h
  · next j i rr =>
    obtain ⟨h1, h⟩ := ev_if_n h
    rw [Bool.and_eq_true, Bool.and_eq_true] at h1
    split at h
    · next t htx =>
      split at h
      · next z hz =>
        obtain ⟨t1, t2, v, hT⟩ := ev_tx_ok hZ h1.1 htx
        have k1 := Nat.le_of_ble_eq_true h1.2.1
        have k2 := ev_cs_ok (b := b) (B0 := B0) (σ := σ) rr
        have k3 := ev_may_ok h1.2.2 hMR
        rw [ev_lg_eq] at hz
        have hj : j < t.length := (List.getElem?_eq_some_iff.mp hz).1
        have ez : t.getD j 0 = z := by rw [List.getD_eq_getElem?_getD, hz]; rfl
        have hi : ev_tb ≤ i := by
          have := h1.1
          unfold ev_tin at this
          rw [Bool.and_eq_true] at this
          exact Nat.le_of_ble_eq_true this.1
        intro H locs ls hl hJ2 hS
        rw [List.map_cons, List.map_cons]
        have e : ev_dn b B0 σ (.inr (.inl (some i))) = .ref (b.2.1 (i - ev_tb)) := by
          show Value.ref (ev_ad b B0 i) = _
          rw [ev_ad_s hi]
        rw [e]
        refine js_callV (As := [.int (nI j)]) (k := 1) ⟨hx, hb, hml, ho, ht⟩ hTs (js_char hJ hj t1 (z := z) (by rw [ez]) (by rw [← ez]; exact t2 j)) ⟨rfl, rfl⟩ (hJ _ (by simp [js_ws])) rfl (hJ _ (by simp [js_ws])) (ht _ (hTs _ w1)) (hJ _ (by simp [js_ws])) (hJ _ (by simp [js_ws])) ⟨by decide, by decide, by decide +kernel⟩ rfl (by show 3 + 1 ≤ _ ∧ 8 + (2 + 11) + 64 ≤ _; omega) hT hS hl.1 (by omega) d ⟨by omega, by omega⟩ (fun locs1 hS1 => ?_)
        exact hk _ _ _ _ h H locs1 ls hl hJ2 hS1
      · cases h
    · cases h
  · cases h
end EVS
