/-! ===== answers, exceptions, calls (own work) ===== -/
section EVC
variable {D : va_G} {aC : Nat → ClassId} {b : ev_B} {B0 L : Nat} {σ : Nat → Int32}
variable {p : Program} {l : Launch} {e : Env} {R : Room} {s : State} {m : MethodId} {args : Array Value} {below : List Frame} {meth : Method} {c : Code} {Q : State → Prop}
variable {cc : ByteArray} {nL : Nat} {Ts : List Cond} {own : String} {Sg : List (String × (Nat × String))}
variable {Φ : ev_P} {M : ev_M} {k : ev_N} {cl : ev_F} {nx a b' c' pc : Nat} {tg : List Nat} {loc : ev_L} {st : List ev_V} {w : ev_W} {r : ev_S}
theorem ev_bw_warm {U : State} (hW : s.WarmedH U.vm) {x : Cond} (hx : ev_bw x = true) (h : x.before #[] s = true) : x.before #[] U = true := by
  match x, hx, h with
  | .castable C T, _, h => exact va_Nw.warmC hW h
  | .fieldLinkNest _ _ _ _ _ _, _, h => exact va_Nw.warmF hW h
  | .methodLinkNest _ _ _ _, _, h => exact va_Nw.warmM hW h
  | .arrayOver (.object C), _, h => exact va_AO.moved (C := C) hW.alike h
  | .declares x, _, h => exact va_Nw.warmD hW h
theorem ev_VF_warm {U : State} (hW : s.WarmedH U.vm) (h : ev_VF D aC Sg s) : ev_VF D aC Sg U := by
  obtain ⟨h1, h2, h3, h4⟩ := h
  refine ⟨va_K.moved hW.alike h1, fun x hx hb => ev_bw_warm hW hb (h2 x hx hb), fun q hq => ?_, fun i j hi hj hij => (h4 i j hi hj hij).moved hW.alike⟩
  obtain ⟨sa, h⟩ := h3 q hq
  exact ⟨sa, vk_R.warm hW h⟩
theorem ev_ZF_to {U : State} {H : Heap} {locs : List Loc} (hb : b.1 < B0) (hW : s.WarmedH U.vm) (h : ev_ZF b B0 L σ s s.heap) (hS : va_S (ev_A b B0) s.heap H locs) : ev_ZF b B0 L σ U H := by
  have hv := hW.alike
  obtain ⟨h1, h2, h3, h4⟩ := h
  have kp : ∀ a : Nat, a < s.heap.size → ¬ ev_A b B0 a → H[a]? = s.heap[a]? := fun a h1 h2 => hS.2.1 a h1 h2
  refine ⟨va_X.moved hv ?_, (h2.kept kp).moved hv, (h3.kept kp).moved hv, (h4.1.kept kp).moved hv, ?_, fun k hk => ?_⟩
  · obtain ⟨scr, g1, g2⟩ := h1
    exact ⟨scr, by rw [hS.2.1 b.1 (Array.getElem?_eq_some_iff.mp g1).1 (fun z => by have := z.1; omega)]; exact g1, g2⟩
  · obtain ⟨fm, h8, h9⟩ := h4.2.1
    exact ⟨fm, h8, (h9.kept kp).moved hv⟩
  · obtain ⟨q1, q2, q3, v, q4, q5⟩ := h4.2.2 k hk
    exact ⟨vk_R.warm hW q1, va_O.moved hv (q2.kept kp), va_OF.moved hv (q3.kept kp), v, va_OF.moved hv (q4.kept kp), va_T.moved hv (q5.kept kp)⟩
/-- a method's start, its answer, its exception -/
def ev_Pc (D : va_G) (aC : Nat → ClassId) (b : ev_B) (B0 L : Nat) (σ : Nat → Int32) (Sg : List (String × (Nat × String))) (As : List ev_V) (w : ev_W) : Array Value → State → Prop :=
  fun v U => v = (As.map (ev_dn b B0 σ)).toArray ∧ ev_J D aC b B0 σ w U.heap ∧ ev_VF D aC Sg U ∧ ev_ZF b B0 L σ U U.heap ∧ b.1 < B0 ∧ B0 ≤ U.heap.size
def ev_Qc (D : va_G) (aC : Nat → ClassId) (b : ev_B) (B0 : Nat) (σ : Nat → Int32) (r : ev_S) : Array Value → State → Outcome → State → Prop :=
  fun _ st o t => ∃ vo w2, r = .inl (vo, w2) ∧ o = .returned (vo.map (ev_dn b B0 σ)) ∧ ev_J D aC b B0 σ w2 t.heap ∧ va_F (ev_A b B0) st t
def ev_Xc (D : va_G) (aC : Nat → ClassId) (b : ev_B) (B0 : Nat) (σ : Nat → Int32) (r : ev_S) : String → State → State → Prop :=
  fun E st t => ∃ n w2, r = .inr (.inl (n, w2)) ∧ E = ev_ex n ∧ n < 4 ∧ ev_J D aC b B0 σ w2 t.heap ∧ va_F (ev_A b B0) st t
theorem ev_Pc_blind {As : List ev_V} : FrameBlind (ev_Pc D aC b B0 L σ Sg As w) := by
  intro v U g mk h
  obtain ⟨h1, h2, h3, h4, h5, h6⟩ := h
  have hv : U.vm.Alike (U.calling g mk v).vm := Vm.Alike.refl U.vm
  exact ⟨h1, h2, ev_VF_warm (s := U) (U := U.calling g mk v) (State.WarmedH.refl U) h3, ⟨va_X.moved hv h4.1, h4.2.1.moved hv, h4.2.2.1.moved hv, h4.2.2.2.1.moved hv, h4.2.2.2.2.1.imp (fun _ h9 => ⟨h9.1, h9.2.moved hv⟩), fun k hk => by
    obtain ⟨q1, q2, q3, z, q4, q5⟩ := h4.2.2.2.2.2 k hk
    exact ⟨vk_R.warm (s := U) (U := U.calling g mk v) (State.WarmedH.refl U) q1, va_O.moved hv q2, va_OF.moved hv q3, z, va_OF.moved hv q4, va_T.moved hv q5⟩⟩, h5, h6⟩
theorem ev_may0 (h : ev_may M w 0 0 = true) : w.2.2.2.1 ≤ M.2.1 ∧ w.2.2.2.2 ≤ M.2.2.1 := by
  unfold ev_may at h
  rw [Bool.and_eq_true] at h
  have h1 := Nat.le_of_ble_eq_true h.1
  have h2 := Nat.le_of_ble_eq_true h.2
  exact ⟨by omega, by omega⟩
theorem ev_o_vret (hF : ev_Fx D aC b B0 L σ p s m args meth c cc nL Ts own Sg) (hQ : Q = vx_MQ below (ev_Qc D aC b B0 σ r) (ev_Xc D aC b B0 σ r) args s M.2.1 M.2.2.1 (ev_A b B0)) (h : ev_h_vret Φ M k cl nx a b' c' tg pc loc st w = some r)
    (hi : decode cc pc = .ok (.return_, 1) ∧ meth.sig.returnType = none) : ev_Go D aC b B0 σ p l e R s m args below meth c Q nL pc loc st w := by
  obtain ⟨hx, hb, -, -, -, -, -, -, -, hlk⟩ := id hF
  unfold ev_h_vret at h
  split at h
  · obtain ⟨h1, h⟩ := ev_if_n h
    have e := (Option.some.inj h).symm
    intro H locs ls hl hJ hS
    subst hQ
    obtain ⟨m1, m2⟩ := ev_may0 h1
    refine W.widen m1 m2 (vx_ret (W.vret hx hb hi.2 (fun t ht hW => ?_) hS.2.2 hi.1 (hlocks := hlk)))
    exact ⟨none, w, e, rfl, by rw [ht]; exact hJ, hS.F ht⟩
  · cases h
theorem ev_o_iret (hF : ev_Fx D aC b B0 L σ p s m args meth c cc nL Ts own Sg) (hQ : Q = vx_MQ below (ev_Qc D aC b B0 σ r) (ev_Xc D aC b B0 σ r) args s M.2.1 M.2.2.1 (ev_A b B0)) (h : ev_h_iret Φ M k cl nx a b' c' tg pc loc st w = some r)
    (hi : decode cc pc = .ok (.ireturn, 1) ∧ ((a = 0 ∧ meth.sig.returnType = some .int) ∨ (a = 1 ∧ meth.sig.returnType = some .boolean))) : ev_Go D aC b B0 σ p l e R s m args below meth c Q nL pc loc st w := by
  obtain ⟨hx, hb, -, -, -, -, -, -, -, hlk⟩ := id hF
  unfold ev_h_iret at h
  split at h
  · next v =>
    obtain ⟨h1, h⟩ := ev_if_n h
    rw [Bool.and_eq_true] at h1
    have e := (Option.some.inj h).symm
    intro H locs ls hl hJ hS
    subst hQ
    obtain ⟨m1, m2⟩ := ev_may0 h1.2
    refine W.widen m1 m2 (vx_ret ?_)
    have hii : ev_ii v = true := by
      rcases hi.2 with ⟨rfl, -⟩ | ⟨rfl, -⟩
      · exact h1.1
      · rcases v with n | q | ⟨t, f⟩ | ⟨j, n⟩
        · rfl
        · exact absurd h1.1 (fun z => by cases z)
        · rfl
        · exact absurd h1.1 (fun z => by cases z)
    obtain ⟨x, ex⟩ := ev_dn_i (b := b) (B0 := B0) (σ := σ) hii
    have hn : ∃ ty, meth.sig.returnType = some ty ∧ narrow ty (.int x) = .int x := by
      rcases hi.2 with ⟨-, hr⟩ | ⟨rfl, hr⟩
      · exact ⟨_, hr, rfl⟩
      · have := (ev_fits_ok (b := b) (B0 := B0) (σ := σ) h1.1 (ty := .boolean) (Or.inr (Or.inl ⟨rfl, rfl⟩))).1
        rw [ex] at this
        exact ⟨_, hr, this⟩
    obtain ⟨ty, hr, hn⟩ := hn
    rw [List.map_cons, List.map_nil, ex]
    exact W.zret hx hb hr hn (fun t ht hW => ⟨some v, w, e, by rw [Option.map_some, ex], by rw [ht]; exact hJ, hS.F ht⟩) hS.2.2 hi.1 (hlocks := hlk)
  · cases h
theorem ev_o_aret (hF : ev_Fx D aC b B0 L σ p s m args meth c cc nL Ts own Sg) (hQ : Q = vx_MQ below (ev_Qc D aC b B0 σ r) (ev_Xc D aC b B0 σ r) args s M.2.1 M.2.2.1 (ev_A b B0)) (h : ev_h_aret Φ M k cl nx a b' c' tg pc loc st w = some r)
    (hi : decode cc pc = .ok (.areturn, 1) ∧ ∃ rt, meth.sig.returnType = some rt ∧ ((∃ n, rt = .object n) ∨ ∃ t, rt = .array t)) : ev_Go D aC b B0 σ p l e R s m args below meth c Q nL pc loc st w := by
  obtain ⟨hx, hb, -, -, -, -, -, -, -, hlk⟩ := id hF
  obtain ⟨d, rt, hr, hrt⟩ := hi
  unfold ev_h_aret at h
  split at h
  · next v =>
    obtain ⟨h1, h⟩ := ev_if_n h
    rw [Bool.and_eq_true] at h1
    have e := (Option.some.inj h).symm
    intro H locs ls hl hJ hS
    subst hQ
    obtain ⟨m1, m2⟩ := ev_may0 h1.2
    refine W.widen m1 m2 (vx_ret ?_)
    obtain ⟨x, -, ex⟩ := ev_dn_r (b := b) (B0 := B0) (σ := σ) h1.1
    rw [List.map_cons, List.map_nil, ex]
    refine W.aret hx hb hr hrt ?_ (fun t ht hW => ⟨some v, w, e, by rw [Option.map_some, ex], by rw [ht]; exact hJ, hS.F ht⟩) hS.2.2 d (hlocks := hlk)
    cases x with
    | none => exact Or.inl rfl
    | some y => exact Or.inr ⟨_, rfl⟩
  · cases h
theorem ev_o_wret (hF : ev_Fx D aC b B0 L σ p s m args meth c cc nL Ts own Sg) (hQ : Q = vx_MQ below (ev_Qc D aC b B0 σ r) (ev_Xc D aC b B0 σ r) args s M.2.1 M.2.2.1 (ev_A b B0)) (h : ev_h_wret Φ M k cl nx a b' c' tg pc loc st w = some r)
    (hi : (a = 1 ∧ decode cc pc = .ok (.freturn, 1) ∧ meth.sig.returnType = some .float) ∨ (a = 2 ∧ decode cc pc = .ok (.dreturn, 1) ∧ meth.sig.returnType = some .double)) : ev_Go D aC b B0 σ p l e R s m args below meth c Q nL pc loc st w := by
  obtain ⟨hx, hb, -, -, -, -, -, -, -, hlk⟩ := id hF
  unfold ev_h_wret at h
  split at h
  · next v =>
    obtain ⟨h1, h⟩ := ev_if_n h
    rw [Bool.and_eq_true] at h1
    have e := (Option.some.inj h).symm
    intro H locs ls hl hJ hS
    subst hQ
    obtain ⟨m1, m2⟩ := ev_may0 h1.2
    refine W.widen m1 m2 (vx_ret ?_)
    obtain ⟨n, rfl⟩ := ev_dn_k h1.1
    rcases hi with ⟨rfl, d, hr⟩ | ⟨rfl, d, hr⟩
    · exact W.fret hx hb hr (fun t ht hW => ⟨_, w, e, rfl, by rw [ht]; exact hJ, hS.F ht⟩) hS.2.2 d (hlocks := hlk)
    · exact W.dret hx hb hr (fun t ht hW => ⟨_, w, e, rfl, by rw [ht]; exact hJ, hS.F ht⟩) hS.2.2 d (hlocks := hlk)
  · cases h
theorem ev_ad_lt {i : Nat} {q : ev_C} {H : Heap} (hJ : ev_J D aC b B0 σ w H) (hq : ev_get w.1 i = some q) (h99 : q.1 ≠ 99) : B0 + i < H.size := by
  rcases (hJ.1 i q hq).2 with h | ⟨rr, -, cell, k1, -⟩ | ⟨-, -, k1⟩
  · exact absurd h h99
  · exact (Array.getElem?_eq_some_iff.mp k1).1
  · exact (Array.getElem?_eq_some_iff.mp k1).1
/-- the world stays behind what only makes new cells -/
theorem ev_J_more {H H1 : Heap} (hJ : ev_J D aC b B0 σ w H) (hz : H.size ≤ H1.size) (ho : ∀ q, q < H.size → H1[q]? = H[q]?) {y : Nat × Nat} : ev_J D aC b B0 σ (w.1, (w.2.1, (false, y))) H1 := by
  refine ⟨fun i q hq => ⟨(hJ.1 i q hq).1, ?_⟩, Nat.le_trans hJ.2.1 hz, fun z => by cases z⟩
  by_cases h : q.1 = 99
  · exact Or.inl h
  · exact (hJ.1 i q hq).2.kept (ho _ (ev_ad_lt hJ hq h))
theorem ev_o_throw (hF : ev_Fx D aC b B0 L σ p s m args meth c cc nL Ts own Sg) (hl9 : l.stackTraces = false) (hR : 10 ≤ R.frames ∧ 100 ≤ R.locals) (hMR : M.2.1 ≤ R.cells ∧ M.2.2.1 ≤ R.slots) (hT : ∀ x ∈ c.exceptionTable.toList, False)
    (hQ : Q = vx_MQ below (ev_Qc D aC b B0 σ r) (ev_Xc D aC b B0 σ r) args s M.2.1 M.2.2.1 (ev_A b B0)) (h : ev_h_throw Φ M k cl nx a b' c' tg pc loc st w = some r)
    (hi : ∃ (ik is9 ic : Nat) (text : String), a < 4 ∧ decode cc pc = .ok (.new ik, 3) ∧ decode cc (pc + 3) = .ok (.dup, 1) ∧ ((decode cc (pc + 4) = .ok (.ldc is9, 2) ∧ decode cc (pc + 6) = .ok (.invokespecial ic, 3) ∧ decode cc (pc + 9) = .ok (.athrow, 1)) ∨ (decode cc (pc + 4) = .ok (.ldc_w is9, 3) ∧ decode cc (pc + 7) = .ok (.invokespecial ic, 3) ∧ decode cc (pc + 10) = .ok (.athrow, 1))) ∧
      Cond.classLink own ik (ev_ex a) ∈ Ts ∧ Cond.initialized (ev_ex a) ∈ Ts ∧ (own, (is9, text)) ∈ Sg ∧ (∀ x ∈ (ev_xat own ic a).filter goodWord, x ∈ Ts) ∧
      (∀ x ∈ (ev_xat own ic a).filter (fun w => !goodWord w), x ∈ lw_tbl ∧ ev_bw x = true ∧ x.onTables = true) ∧
      (∀ x ∈ Cond.classLink own ik (ev_ex a) :: Cond.initialized (ev_ex a) :: ev_xat own ic a, vx_ot x = true)) : ev_Go D aC b B0 σ p l e R s m args below meth c Q nL pc loc st w := by
  obtain ⟨hx, hb, hml, ho, ht, hV, hZ, hbB, hB, hlk⟩ := id hF
  obtain ⟨ik, is9, ic, text, ha, d0, d3, d9, w1, w2, w3, w4, w5, w6⟩ := hi
  unfold ev_h_throw at h
  obtain ⟨h1, h⟩ := ev_if_n h
  rw [Bool.and_eq_true] at h1
  have e := (Option.some.inj h).symm
  have h2 := Nat.le_of_ble_eq_true h1.2
  have h3 := ev_cs_ok (b := b) (B0 := B0) (σ := σ) st
  intro H locs ls hl hJ hS
  subst hQ
  obtain ⟨sa, hstr⟩ := hV.2.2.1 _ w3
  have hm : w.2.2.2.1 + 1 ≤ M.2.1 ∧ w.2.2.2.2 + 6 ≤ M.2.2.1 := by
    have h9 := h1.1
    unfold ev_may at h9
    rw [Bool.and_eq_true] at h9
    exact ⟨Nat.le_of_ble_eq_true h9.1, Nat.le_of_ble_eq_true h9.2⟩
  have hfit : Bundle.fit (ev_ex a) = true := by
    have : a = 0 ∨ a = 1 ∨ a = 2 ∨ a = 3 := by omega
    rcases this with rfl | rfl | rfl | rfl <;> decide +kernel
  have hnm : ∀ n ∈ ["java/lang/Exception"], Bundle.fit n = true := by decide +kernel
  have hat : ∀ x ∈ ev_xat own ic a, x.before args s = true := by
    refine vx_hat (B := (ev_xat own ic a).filter (fun w => !goodWord w)) (fun x hx => ht _ (w4 x hx)) (fun x hx => hx) (fun x hx => ?_)
    obtain ⟨g1, g2, g3⟩ := w5 x hx
    exact va_Nw.use g3 (hV.2.1 x g1 g2)
  have hxx : ∀ t : State, s.vm.Alike t.vm → H.size ≤ t.heap.size → (∀ q : Nat, q < H.size → t.heap[q]? = H[q]?) → ev_Xc D aC b B0 σ r (ev_ex a) s t := fun t hv hz hq =>
    ⟨a, _, e, rfl, ha, ev_J_more hJ hz hq, ⟨Nat.le_trans hS.1 hz, fun q g1 g2 => (hq q (Nat.lt_of_lt_of_le g1 hS.1)).trans (hS.2.1 q g1 g2)⟩⟩
  rcases d9 with ⟨d4, d6, d9⟩ | ⟨d4, d6, d9⟩
  · exact ev_throwX (Y0 := "java/lang/RuntimeException") (names := ["java/lang/Exception"]) (A := ev_A b B0) hx hb hl9 (ev_xi_ok a).1 (ev_xi_ok a).2.1 (ev_xi_ok a).2.2.1 (ev_xi_ok a).2.2.2 ho hfit (by decide +kernel) hnm (ht _ w1) (ht _ w2) hstr hat w6 hZ.2.1 hZ.2.2.1 hS (by rw [hml]; exact hl.1) d0 d3 d4 d6 d9 (fun x hx => (hT x hx).elim) (by simp only [List.length_cons, List.length_nil]; omega) (by simp only [List.length_cons, List.length_nil]; omega) (by omega) (by omega) hlk hxx hS.2.2 hm.1 hm.2
  · exact ev_throwXW (Y0 := "java/lang/RuntimeException") (names := ["java/lang/Exception"]) (A := ev_A b B0) hx hb hl9 (ev_xi_ok a).1 (ev_xi_ok a).2.1 (ev_xi_ok a).2.2.1 (ev_xi_ok a).2.2.2 ho hfit (by decide +kernel) hnm (ht _ w1) (ht _ w2) hstr hat w6 hZ.2.1 hZ.2.2.1 hS (by rw [hml]; exact hl.1) d0 d3 d4 d6 d9 (fun x hx => (hT x hx).elim) (by simp only [List.length_cons, List.length_nil]; omega) (by simp only [List.length_cons, List.length_nil]; omega) (by omega) (by omega) hlk hxx hS.2.2 hm.1 hm.2
/-- behind a call -/
theorem ev_call_end {r2 : ev_S} {H : Heap} {locs : List Loc} {ls : Array Slot} {st0 rest : List Value} {a9 : Array Value} {mc ms : Nat} (hS : va_S (ev_A b B0) s.heap H locs)
    (hrun : vx_Run p l e R s m args below meth c H locs w.2.2.2.1 w.2.2.2.2 mc ms (F0 m pc ls st0) rest (ev_Qc D aC b B0 σ r2 a9) (ev_Xc D aC b B0 σ r2) (ev_A b B0))
    (hret : ∀ vo w2 (H1 : Heap) (locs1 : List Loc), r2 = .inl (vo, w2) → ev_J D aC b B0 σ w2 H1 → va_S (ev_A b B0) s.heap H1 locs1 → W p l e R s m args below meth c H1 locs1 (w.2.2.2.1 + mc) (w.2.2.2.2 + ms) Q (F0 m (pc + 3) ls ((vo.map (ev_dn b B0 σ)).toList ++ rest)))
    (hthr : ∀ n w2 (H1 : Heap) (locs1 : List Loc) (q : Nat) (ce : Cell), r2 = .inr (.inl (n, w2)) → n < 4 → ev_J D aC b B0 σ w2 H1 → va_S (ev_A b B0) s.heap H1 locs1 → H1[q]? = some ce → ce.vm = .none → s.vm.findClass (ev_ex n) = some ce.cls → vx_W p l e R s m args below meth c H1 locs1 (w.2.2.2.1 + mc) (w.2.2.2.2 + ms) Q (F0 m pc ls rest) q) :
    W p l e R s m args below meth c H locs w.2.2.2.1 w.2.2.2.2 Q (F0 m pc ls st0) := by
  intro T hT X
  rcases hrun T hT X with ⟨v, st₀, t, T', L9, h0, X', hL, e1, e2, ⟨vo, w2, g1, g2, g3, g4⟩, stp⟩ | ⟨q, st₀, t, T', L9, E, ce, h0, X', hL, e1, e2, ⟨n, w2, g1, g2, g3, g4, g5⟩, hce, hcv, hcl, stp⟩
  · obtain ⟨-, -, k3⟩ := vx_keep h0 e1 hS (fun q _ h => h) (fun q h => h) hL g4
    have g2 := Outcome.returned.inj g2
    subst g2
    obtain ⟨t2, a1, b1⟩ := hret vo w2 T'.heap (locs ++ L9) g1 (by rw [e1]; exact g3) k3 T' rfl X'
    exact ⟨t2, stp t2 a1, b1⟩
  · obtain ⟨-, -, k3⟩ := vx_keep h0 e1 hS (fun q _ h => h) (fun q h => h) hL g5
    subst g2
    obtain ⟨t2, a1, b1⟩ := hthr n w2 T'.heap (locs ++ L9) q ce g1 g3 (by rw [e1]; exact g4) k3 (by rw [e1]; exact hce) hcv hcl T' rfl X'
    exact ⟨t2, stp.trans a1, b1⟩
end EVC
