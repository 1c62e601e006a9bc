/-! ===== the law's layer: ends and calls (own work) ===== -/
theorem fw_ok : ∀ q ∈ fw_L, q.2.1.cls ≠ "java/lang/invoke/MethodHandle" ∧ q.2.1.cls ≠ "java/lang/invoke/VarHandle" := by
  have h : fw_L.all (fun q => decide (q.2.1.cls ≠ "java/lang/invoke/MethodHandle" ∧ q.2.1.cls ≠ "java/lang/invoke/VarHandle")) = true := by decide +kernel
  exact fun q hq => of_decide_eq_true (List.all_eq_true.mp h q hq)
theorem cz_to {b : ev_B} {B0 : Nat} {s U : State} {H : Heap} {locs : List Loc} (hW : s.WarmedH U.vm) (h : CZ b B0 s s.heap) (hS : va_S (ev_A b B0) s.heap H locs) : CZ b B0 U H := by
  have hv := hW.alike
  have kp : ∀ a : Nat, a < s.heap.size → ¬ ev_A b B0 a → H[a]? = s.heap[a]? := fun a h1 h2 => hS.2.1 a h1 h2
  obtain ⟨z1, z2, z3, z4, z5, z6, z7, z8, z9, fv, z10, z11⟩ := h
  refine ⟨fun j hj => ?_, (z2.kept kp).moved hv, (z3.kept kp).moved hv, (z4.kept kp).moved hv, (z5.kept kp).moved hv, (z6.kept kp).moved hv, (z7.kept kp).moved hv, z8.moved hv, fun q hq => (z9 q hq).moved (fw_ok q hq) hv, fv, z10, (z11.kept kp).moved hv⟩
  obtain ⟨q1, q2, q3, q4, q5⟩ := z1 j hj
  exact ⟨vk_R.warm hW q1, va_O.moved hv (q2.kept kp), va_OF.moved hv (q3.kept kp), va_OF.moved hv (q4.kept kp), va_T.moved hv (q5.kept kp)⟩
theorem cz_same {b : ev_B} {B0 : Nat} {U : State} {g : JFrame} {mk : MethodId} {v : Array Value} {H : Heap} (h : CZ b B0 U H) : CZ b B0 (U.calling g mk v) H := by
  have hv : U.vm.Alike (U.calling g mk v).vm := Vm.Alike.refl U.vm
  obtain ⟨z1, z2, z3, z4, z5, z6, z7, z8, z9, fv, z10, z11⟩ := h
  refine ⟨fun j hj => ?_, z2.moved hv, z3.moved hv, z4.moved hv, z5.moved hv, z6.moved hv, z7.moved hv, z8.moved hv, fun q hq => (z9 q hq).moved (fw_ok q hq) hv, fv, z10, z11.moved hv⟩
  obtain ⟨q1, q2, q3, q4, q5⟩ := z1 j hj
  exact ⟨vk_R.warm (s := U) (U := U.calling g mk v) (State.WarmedH.refl U) q1, va_O.moved hv q2, va_OF.moved hv q3, va_OF.moved hv q4, va_T.moved hv q5⟩
/-- a method's start -/
def PcG (κ : CX) (As : List ev_V) (S : sS) : Array Value → State → Prop :=
  fun v U => ev_Pc κ.1 κ.2.1 κ.2.2.1 κ.2.2.2.1 κ.2.2.2.2.1 κ.2.2.2.2.2.1 κ.2.2.2.2.2.2.2.1 As (cW S 0 0) v U ∧ CZ κ.2.2.1 κ.2.2.2.1 U U.heap
theorem PcG_blind {κ : CX} {As : List ev_V} {S : sS} : FrameBlind (PcG κ As S) := fun v U g mk h => ⟨ev_Pc_blind v U g mk h.1, cz_same h.2⟩
section G2R
variable {κ : CX} {im im' : ev_Im} {M M' : ev_M} {t d t' mi na : Nat} {n0 s0 : Int} {X A B Y : Option (Int × sS)} {pc nx : Nat} {loc : ev_L} {st r As As' : List ev_V} {S S1 : sS} {a b c' ci : Nat} {tg : List Nat} {x y p j v v1 z : Int}
/-! ends -/
theorem g2_vret (hc : M.2.2.2.2 pc = (38, (nx, (a, (b, (c', tg)))))) (hW : WF2 κ S) : G2 κ im M 0 d n0 s0 (some (v, S)) pc loc [] S := by
  intro v S' hX
  cases hX
  refine ⟨⟨Int.le_refl _, Int.le_refl _, ext_r⟩, ⟨trivial, hW⟩, fun k1 k2 k3 p e s m args below meth c hκ hF hE => ?_⟩
  intro H locs ls hl hJ hS
  obtain ⟨hx, hbb, -, ho, ht, hV, hZ, h1, h2, hlk⟩ := id hF.1
  have hok := hE pc
  rw [hc] at hok
  obtain ⟨dd, hr⟩ := hok.2
  exact W.vret hx hbb (hF.2.2.1.trans hr) (fun t ht hW => ⟨rfl, by rw [ht]; exact cx_J hJ, hS.F ht⟩) hS.2.2 dd (hlocks := hlk)
theorem g2_zr {ty : FieldType} (hc : M.2.2.2.2 pc = (39, (nx, (a, (b, (c', tg)))))) (hW : WF2 κ S) (ht : t = 1 ∨ t = 3) (hv : VR2 t v) (hn : narrow ty (.int (toI v)) = .int (toI v)) (hty : ∀ (y : Option FieldType), ((a = 0 ∧ y = some .int) ∨ (a = 1 ∧ y = some .boolean) ∨ (a = 2 ∧ y = some .byte) ∨ (a = 3 ∧ y = some .char)) → y = some ty) : G2 κ im M t d n0 s0 (some (v, S)) pc loc [sI v] S := by
  intro v2 S' hX
  cases hX
  refine ⟨⟨Int.le_refl _, Int.le_refl _, ext_r⟩, ⟨hv, hW⟩, fun k1 k2 k3 p e s m args below meth c hκ hF hE => ?_⟩
  intro H locs ls hl hJ hS
  obtain ⟨hx, hbb, -, ho, ht9, hV, hZ, h1, h2, hlk⟩ := id hF.1
  have hok := hE pc
  rw [hc] at hok
  obtain ⟨dd, hr⟩ := hok.2
  have hd : drv2 t v = some (sI v) := by rcases ht with rfl | rfl <;> rfl
  exact W.zret hx hbb (hF.2.2.1.trans (hty _ hr)) hn (fun t ht hW => ⟨by rw [hd]; rfl, by rw [ht]; exact cx_J hJ, hS.F ht⟩) hS.2.2 dd (hlocks := hlk)
theorem g2_iret (hc : M.2.2.2.2 pc = (39, (nx, (0, (b, (c', tg)))))) (hW : WF2 κ S) (hv : InR v) : G2 κ im M 1 d n0 s0 (some (v, S)) pc loc [sI v] S :=
  g2_zr (ty := .int) hc hW (Or.inl rfl) hv rfl (fun y h => by rcases h with ⟨-, h⟩ | ⟨h, -⟩ | ⟨h, -⟩ | ⟨h, -⟩; exact h; all_goals cases h)
theorem g2_zret (hc : M.2.2.2.2 pc = (39, (nx, (1, (b, (c', tg)))))) (hW : WF2 κ S) (hv : B01 v) : G2 κ im M 3 d n0 s0 (some (v, S)) pc loc [sI v] S :=
  g2_zr (ty := .boolean) hc hW (Or.inr rfl) hv (by rcases hv with rfl | rfl <;> decide +kernel) (fun y h => by rcases h with ⟨h, -⟩ | ⟨-, h⟩ | ⟨h, -⟩ | ⟨h, -⟩; cases h; exact h; all_goals cases h)
theorem g2_bret (hc : M.2.2.2.2 pc = (39, (nx, (2, (b, (c', tg)))))) (hW : WF2 κ S) : G2 κ im M 1 d n0 s0 (if -128 ≤ v ∧ v < 128 then some (v, S) else none) pc loc [sI v] S :=
  g2_ck fun hk => g2_zr (ty := .byte) hc hW (Or.inl rfl) (by show InR v; unfold InR; omega) (by_fit hk).1 (fun y h => by rcases h with ⟨h, -⟩ | ⟨h, -⟩ | ⟨-, h⟩ | ⟨h, -⟩; cases h; cases h; exact h; cases h)
theorem ch_nar : ∀ n : Nat, n < 256 → narrow .char (.int (nI n)) = .int (nI n) := by decide +kernel
theorem g2_cret (hc : M.2.2.2.2 pc = (39, (nx, (3, (b, (c', tg)))))) (hW : WF2 κ S) : G2 κ im M 1 d n0 s0 (if 0 ≤ v ∧ v < 256 then some (v, S) else none) pc loc [sI v] S :=
  g2_ck fun hk => g2_zr (ty := .char) hc hW (Or.inl rfl) (by show InR v; unfold InR; omega) (by rw [(toI_nn hk.1 (by omega)).1]; exact ch_nar _ (by omega)) (fun y h => by rcases h with ⟨h, -⟩ | ⟨h, -⟩ | ⟨h, -⟩ | ⟨-, h⟩; cases h; cases h; cases h; exact h)
theorem g2_ar (hc : M.2.2.2.2 pc = (40, (nx, (a, (b, (c', tg)))))) (hW : WF2 κ S) (ht : t = 2 ∨ t = 6) (hv : VR2 t v) : G2 κ im M t d n0 s0 (some (v, S)) pc loc [sR v] S := by
  intro v2 S' hX
  cases hX
  refine ⟨⟨Int.le_refl _, Int.le_refl _, ext_r⟩, ⟨hv, hW⟩, fun k1 k2 k3 p e s m args below meth c hκ hF hE => ?_⟩
  intro H locs ls hl hJ hS
  obtain ⟨hx, hbb, -, ho, ht9, hV, hZ, h1, h2, hlk⟩ := id hF.1
  have hok := hE pc
  rw [hc] at hok
  obtain ⟨dd, rt, hr, hrt⟩ := hok.2
  have hd : drv2 t v = some (sR v) := by rcases ht with rfl | rfl <;> rfl
  have hvv : ev_dn κ.2.2.1 κ.2.2.2.1 κ.2.2.2.2.2.1 (sR v) = .null ∨ ∃ a, ev_dn κ.2.2.1 κ.2.2.2.1 κ.2.2.2.2.2.1 (sR v) = .ref a := by
    by_cases h : v < 0
    · refine Or.inl ?_
      unfold sR
      rw [if_pos h]
      rfl
    · refine Or.inr ⟨ev_ad κ.2.2.1 κ.2.2.2.1 v.toNat, ?_⟩
      rw [sR_pos (by omega)]
      rfl
  exact W.aret hx hbb (hF.2.2.1.trans hr) hrt hvv (fun t ht hW => ⟨by rw [hd]; rfl, by rw [ht]; exact cx_J hJ, hS.F ht⟩) hS.2.2 dd (hlocks := hlk)
theorem g2_aret (hc : M.2.2.2.2 pc = (40, (nx, (a, (b, (c', tg)))))) (hW : WF2 κ S) (hv : RfO v) : G2 κ im M 2 d n0 s0 (some (v, S)) pc loc [sR v] S := g2_ar hc hW (Or.inl rfl) hv
theorem g2_areA (hc : M.2.2.2.2 pc = (40, (nx, (a, (b, (c', tg)))))) (hW : WF2 κ S) (hv : RfA v) : G2 κ im M 6 d n0 s0 (some (v, S)) pc loc [sR v] S := g2_ar hc hW (Or.inr rfl) hv
/-! calls -/
/-- a method's contract -/
theorem g2_met (hκ : CXall κ) (hi : 92 ≤ mi) (hIP : κ.2.2.2.2.2.2.2.2.2.1 mi = im' ∧ κ.2.2.2.2.2.2.2.2.2.2 mi = M') (hG : G2 κ im' M' t' d (sn S) (ss S) Y 0 (ev_loc M'.1 As) [] S) (hY : Y = some (v1, S1)) (h6 : sn S1 ≤ 1000000) (hnl : im'.2.2.2 = []) (hn : As.length ≤ M'.1) (hw : As.all (fun v => !ev_wide v) = true) :
    Met κ.2.2.2.2.2.2.1 im'.1 (ev_wm im' M'.1) (ev_rm d (sn S1 - sn S).toNat (ss S1 - ss S).toNat) (PcG κ As S) (QG κ t' v1 S1) (sn S1 - sn S).toNat (ss S1 - ss S).toNat (ev_A κ.2.2.1 κ.2.2.2.1) := by
  obtain ⟨hpl, hE⟩ := hκ.2 mi hi
  rw [hIP.1] at hpl
  rw [hIP.1, hIP.2] at hE
  have hcw : ev_wm im' M'.1 = Cond.code im'.1 im'.2.1 M'.1 im'.2.2.1 :: ev_UW := by
    unfold ev_wm ev_cw
    rw [hnl]
  refine Met.ofW hpl hcw fun p e s m args below meth c s₁ B hml hv => ?_
  obtain ⟨⟨rfl, hJ, hV, hZ, hbB, hB⟩, hCZ⟩ := hv
  have hc : ∀ v ∈ As.map (ev_dn κ.2.2.1 κ.2.2.2.1 κ.2.2.2.2.2.1), v.category = 1 := fun v hv => by
    obtain ⟨a, ha, rfl⟩ := List.mem_map.mp hv
    exact ev_dn_c (by simpa using List.all_eq_true.mp hw a ha)
  have hF : ev_Fx κ.1 κ.2.1 κ.2.2.1 κ.2.2.2.1 κ.2.2.2.2.1 κ.2.2.2.2.2.1 p s m (As.map (ev_dn κ.2.2.1 κ.2.2.2.1 κ.2.2.2.2.2.1)).toArray meth c im'.2.1 M'.1 (ev_wm im' M'.1) im'.1.cls κ.2.2.2.2.2.2.2.1 :=
    ⟨B.exec, B.bytes, hml, findClass_of_methodNamed B.named, atoms_spec (ws := ev_wm im' M'.1) B.pre, hV, hZ, hbB, hB, B.notSynchronized⟩
  have hl0 := lv_entry (As.map (ev_dn κ.2.2.1 κ.2.2.2.1 κ.2.2.2.2.2.1)) (n := M'.1) (by rw [ev_sl_len hc, List.length_map]; exact hn)
  rw [lg_entry_eq]
  generalize (lg_sl (As.map (ev_dn κ.2.2.1 κ.2.2.2.1 κ.2.2.2.2.2.1)) ++ List.replicate (M'.1 - (lg_sl (As.map (ev_dn κ.2.2.1 κ.2.2.2.1 κ.2.2.2.2.2.1))).length) Slot.unset).toArray = ls at hl0 ⊢
  have hl := ev_entry hw hn hl0
  obtain ⟨-, -, h3⟩ := hG v1 S1 hY
  have go := h3 (Int.le_refl _) (Int.le_refl _) h6 p e s m (As.map (ev_dn κ.2.2.1 κ.2.2.2.1 κ.2.2.2.2.2.1)).toArray below meth c hκ ⟨hF, (name_of_methodNamed B.named B.method).1, B.returns, hCZ⟩ hE
  have go := go s.heap [] ls hl (cx_J hJ) va_S.rf
  rw [Int.sub_self, Int.sub_self] at go
  exact go
variable {p9 : Program} {e : Env} {R : Room} {s : State} {m : MethodId} {args : Array Value} {below : List Frame} {meth : Method} {c : Code} {H : Heap} {locs : List Loc} {cells slots mc ms : Nat} {Q : State → Prop} {ls : Array Slot} {st0 rest : List Value} {a9 : Array Value}
theorem g2_end3 (hS : va_S (ev_A κ.2.2.1 κ.2.2.2.1) s.heap H locs) (hrun : va_Run p9 κ.2.2.2.2.2.2.1 e R s m args below meth c H locs cells slots mc ms (F0 m pc ls st0) rest (QG κ t' v1 S1 a9) (ev_A κ.2.2.1 κ.2.2.2.1))
    (kk : ∀ (H1 : Heap) (locs1 : List Loc), cxS κ (cW S1 0 0) H1 → va_S (ev_A κ.2.2.1 κ.2.2.2.1) s.heap H1 locs1 → W p9 κ.2.2.2.2.2.2.1 e R s m args below meth c H1 locs1 (cells + mc) (slots + ms) Q (F0 m (pc + 3) ls (((drv2 t' v1).map (ev_dn κ.2.2.1 κ.2.2.2.1 κ.2.2.2.2.2.1)).toList ++ rest))) : W p9 κ.2.2.2.2.2.2.1 e R s m args below meth c H locs cells slots Q (F0 m pc ls st0) := by
  intro T hT X
  obtain ⟨v, st₀, t, T', L9, h0, X', hL, e1, e2, ⟨g1, g2, g3⟩, stp⟩ := hrun T hT X
  obtain ⟨-, -, k3⟩ := vx_keep h0 e1 hS (fun q _ h => h) (fun q h => h) hL g3
  have g1 := Outcome.returned.inj g1
  subst g1
  obtain ⟨t2, a1, b1⟩ := kk T'.heap (locs ++ L9) (by rw [e1]; exact g2) k3 T' rfl X'
  exact ⟨t2, stp t2 a1, b1⟩
theorem g2_end5 (hS : va_S (ev_A κ.2.2.1 κ.2.2.2.1) s.heap H locs) (hrun : va_Run5 p9 κ.2.2.2.2.2.2.1 e R s m args below meth c H locs cells slots mc ms (F0 m pc ls st0) rest (QG κ t' v1 S1 a9) (ev_A κ.2.2.1 κ.2.2.2.1))
    (kk : ∀ (H1 : Heap) (locs1 : List Loc), cxS κ (cW S1 0 0) H1 → va_S (ev_A κ.2.2.1 κ.2.2.2.1) s.heap H1 locs1 → W p9 κ.2.2.2.2.2.2.1 e R s m args below meth c H1 locs1 (cells + mc) (slots + ms) Q (F0 m (pc + 5) ls (((drv2 t' v1).map (ev_dn κ.2.2.1 κ.2.2.2.1 κ.2.2.2.2.2.1)).toList ++ rest))) : W p9 κ.2.2.2.2.2.2.1 e R s m args below meth c H locs cells slots Q (F0 m pc ls st0) := by
  intro T hT X
  obtain ⟨v, st₀, t, T', L9, h0, X', hL, e1, e2, ⟨g1, g2, g3⟩, stp⟩ := hrun T hT X
  obtain ⟨-, -, k3⟩ := vx_keep h0 e1 hS (fun q _ h => h) (fun q h => h) hL g3
  have g1 := Outcome.returned.inj g1
  subst g1
  obtain ⟨t2, a1, b1⟩ := kk T'.heap (locs ++ L9) (by rw [e1]; exact g2) k3 T' rfl X'
  exact ⟨t2, stp t2 a1, b1⟩
/-- what a call's row may use -/
def CallIn (κ : CX) (im : ev_Im) (M : ev_M) (d : Nat) (S : sS) (p : Program) (R : Room) (s : State) (m : MethodId) (args : Array Value) (meth : Method) (c : Code) (H : Heap) (locs : List Loc) (cells slots mc ms : Nat) (ls : Array Slot) : Prop :=
  CXall κ ∧ FX κ im M p s m args meth c ∧ ECk κ im M ∧ (10 + d ≤ R.frames ∧ 100 + 70 * d ≤ R.locals) ∧ ls.size = M.1 ∧ sn S ≤ 1000000 ∧ cxS κ (cW S 0 0) H ∧ va_S (ev_A κ.2.2.1 κ.2.2.2.1) s.heap H locs ∧ (cells + mc ≤ R.cells ∧ slots + ms ≤ R.slots)
theorem g2_callm {K : Int → sS → Option (Int × sS)} (hi : 92 ≤ mi) (hIP : κ.2.2.2.2.2.2.2.2.2.1 mi = im' ∧ κ.2.2.2.2.2.2.2.2.2.2 mi = M') (hw : As.all (fun v => !ev_wide v) = true) (hcal2 : ECk κ im M → im'.2.2.2 = [] ∧ As.length ≤ M'.1)
    (hmach : ∀ (p : Program) (e : Env) (R : Room) (s : State) (m : MethodId) (args : Array Value) (below : List Frame) (meth : Method) (c : Code) (H : Heap) (locs : List Loc) (cells slots mc ms : Nat) (Q : State → Prop) (ls : Array Slot) (v1 : Int) (S1 : sS), CallIn κ im M d S p R s m args meth c H locs cells slots mc ms ls →
      Met κ.2.2.2.2.2.2.1 im'.1 (ev_wm im' M'.1) (ev_rm (d - 1) mc ms) (PcG κ As S) (QG κ t' v1 S1) mc ms (ev_A κ.2.2.1 κ.2.2.2.1) → (∀ U : State, U.heap = H → s.WarmedH U.vm → PcG κ As S (As.map (ev_dn κ.2.2.1 κ.2.2.2.1 κ.2.2.2.2.2.1)).toArray U) →
      (∀ (H1 : Heap) (locs1 : List Loc), cxS κ (cW S1 0 0) H1 → va_S (ev_A κ.2.2.1 κ.2.2.2.1) s.heap H1 locs1 → W p κ.2.2.2.2.2.2.1 e R s m args below meth c H1 locs1 (cells + mc) (slots + ms) Q (F0 m nx ls (((drv2 t' v1).map (ev_dn κ.2.2.1 κ.2.2.2.1 κ.2.2.2.2.2.1)).toList ++ r.map (ev_dn κ.2.2.1 κ.2.2.2.1 κ.2.2.2.2.2.1)))) →
      W p κ.2.2.2.2.2.2.1 e R s m args below meth c H locs cells slots Q (F0 m pc ls (st.map (ev_dn κ.2.2.1 κ.2.2.2.1 κ.2.2.2.2.2.1))))
    (hcal : G2 κ im' M' t' (d - 1) (sn S) (ss S) Y 0 (ev_loc M'.1 As) [] S) (k : ∀ v S1, VR2 t' v → WF2 κ S1 → EXT S S1 → G2 κ im M t d n0 s0 (K v S1) nx loc ((drv2 t' v).toList ++ r) S1) : G2 κ im M t d n0 s0 (bdS Y K) pc loc st S := by
  intro v S' hX
  cases hY : Y with
  | none => rw [hY] at hX; cases hX
  | some y =>
    obtain ⟨v1, S1⟩ := y
    rw [hY] at hX
    have hX : K v1 S1 = some (v, S') := hX
    obtain ⟨c1, c2, -⟩ := hcal v1 S1 hY
    obtain ⟨h1, h2, h3⟩ := k v1 S1 c2.1 c2.2 c1.2.2 v S' hX
    refine ⟨⟨Int.le_trans c1.1 h1.1, Int.le_trans c1.2.1 h1.2.1, ext_t c1.2.2 h1.2.2⟩, h2, fun k1 k2 k3 p e s m args below meth c hκ hF hE => ?_⟩
    have go := h3 (by omega) (by omega) k3 p e s m args below meth c hκ hF hE
    have hmet := g2_met hκ hi hIP hcal hY (by omega) (hcal2 hE).1 (hcal2 hE).2 hw
    intro H locs ls hl hJ hS
    refine hmach p e _ s m args below meth c H locs _ _ _ _ _ ls v1 S1 ⟨hκ, hF, hE, ⟨Nat.le_refl _, Nat.le_refl _⟩, hl.1, by omega, cx_J hJ, hS, ⟨?_, ?_⟩⟩ hmet (fun U hU hWm => ?_) (fun H1 locs1 g1 g2 => ?_)
    · show (sn S - n0).toNat + (sn S1 - sn S).toNat ≤ (sn S' - n0).toNat
      omega
    · show (ss S - s0).toNat + (ss S1 - ss S).toNat ≤ (ss S' - s0).toNat
      omega
    · obtain ⟨hx, hbb, -, ho, ht, hV, hZ, hbB, hB, -⟩ := id hF.1
      exact ⟨⟨rfl, by rw [hU]; exact cx_J hJ, ev_VF_warm hWm hV, by rw [hU]; exact ev_ZF_to hbB hWm hZ hS, hbB, by rw [hU]; exact Nat.le_trans hB hS.1⟩, by rw [hU]; exact cz_to hWm hF.2.2.2 hS⟩
    · have g := go H1 locs1 ls hl (cx_J g1) g2
      have e1 : (cW S (sn S - n0).toNat (ss S - s0).toNat).2.2.2.1 + (sn S1 - sn S).toNat = (sn S1 - n0).toNat := by
        show (sn S - n0).toNat + _ = _
        omega
      have e2 : (cW S (sn S - n0).toNat (ss S - s0).toNat).2.2.2.2 + (ss S1 - ss S).toNat = (ss S1 - s0).toNat := by
        show (ss S - s0).toNat + _ = _
        omega
      rw [e1, e2]
      have e3 : ((drv2 t' v1).map (ev_dn κ.2.2.1 κ.2.2.2.1 κ.2.2.2.2.2.1)).toList ++ r.map (ev_dn κ.2.2.1 κ.2.2.2.1 κ.2.2.2.2.2.1) = ((drv2 t' v1).toList ++ r).map (ev_dn κ.2.2.1 κ.2.2.2.1 κ.2.2.2.2.2.1) := by
        rw [List.map_append]
        cases drv2 t' v1 <;> rfl
      rw [e3]
      exact g
/-- a call's receiver -/
theorem cx_recv {rr : vw_C} (hW : WF2 κ S) (hI : CallIn κ im M d S p9 R s m args meth c H locs cells slots mc ms ls) (hk : sK S p = ci) (hci : vwCl[ci]? = some rr) : ∃ a, ev_dn κ.2.2.1 κ.2.2.2.1 κ.2.2.2.2.2.1 (sR p) = .ref a ∧ ∃ cell : Cell, H[a]? = some cell ∧ cell.vm.isStatics = false ∧ s.vm.findClass rr.1 = some cell.cls := by
  obtain ⟨hκ, hF, -, -, -, hn, hJ, hS, -⟩ := hI
  have hlt : ci < 13 := (List.getElem?_eq_some_iff.mp hci).1
  have h20 : ¬ p = 1000000 := fun e => by
    have := hW.2.2.1
    rw [← e] at this
    omega
  by_cases h1 : p < 2000000
  · obtain ⟨h2, h3⟩ := sf_real hW.2.1 (by omega) h1 h20
    obtain ⟨q, hq, u1, u2, u3⟩ := ws_cell (w := cW S 0 0) ws_c h2 h3 hn (by omega)
    obtain ⟨hi, cell, q1, q2, q3, q4⟩ := ev_J_obj hJ hq (rr := rr) (by rw [u1, hk]; exact hci)
    obtain ⟨hx, hbb, -, ho, ht, hV, -⟩ := id hF.1
    refine ⟨_, dn_w h2 (by omega), cell, q1, by rw [q3]; rfl, ?_⟩
    rw [q2, u1, hk]
    exact (hV.1.1 ci _ hci).2.1
  · obtain ⟨g1, -, -⟩ := hW.2.1.2.2.2.2.1 p (by omega)
    rw [hk] at g1
    obtain ⟨⟨p1, p2⟩, a12⟩ := cK_obj g1.symm hlt
    subst a12
    cases hci
    obtain ⟨-, cO, -⟩ := hF.2.2.2.1 (p - 2000100).toNat (by omega)
    obtain ⟨cell, q1, q2, q3, -⟩ := cO.kept hS.2.1
    refine ⟨_, dn_c (by omega), cell, ?_, q2, q3⟩
    rw [show (p - 2000000).toNat = 100 + (p - 2000100).toNat by omega]
    exact q1
theorem sp_map (hsp : ev_sp na [] st = some (As, r)) : As.length = na ∧ st.map (ev_dn κ.2.2.1 κ.2.2.2.1 κ.2.2.2.2.2.1) = (As.map (ev_dn κ.2.2.1 κ.2.2.2.1 κ.2.2.2.2.2.1)).reverse ++ r.map (ev_dn κ.2.2.1 κ.2.2.2.1 κ.2.2.2.2.2.1) := by
  obtain ⟨tk, t1, t2, t3⟩ := ev_sp_ok _ _ _ _ _ hsp
  rw [List.append_nil] at t3
  exact ⟨by rw [t3, List.length_reverse, t2], by rw [t1, t3, List.map_append, List.map_reverse, List.reverse_reverse]⟩
theorem cs_8 (h : Nat.ble (ev_cs r) 8 = true) : ((r.map (ev_dn κ.2.2.1 κ.2.2.2.1 κ.2.2.2.2.2.1)).map fun v => v.category).sum ≤ 8 := Nat.le_trans (ev_cs_ok r) (Nat.le_of_ble_eq_true h)
theorem call_room {nL : Nat} (hd : 1 ≤ d) (h51 : nL ≤ 51) (hR : 10 + d ≤ R.frames ∧ 100 + 70 * d ≤ R.locals) : (ev_rm (d - 1) mc ms).frames + 1 ≤ R.frames ∧ 8 + (nL + 11) + (ev_rm (d - 1) mc ms).locals ≤ R.locals := by
  show 10 + (d - 1) + 1 ≤ _ ∧ 8 + (nL + 11) + (100 + 70 * (d - 1)) ≤ _
  omega
/-- invokevirtual, of the receiver's own class; a String may be a constant -/
theorem g2_callV {K : Int → sS → Option (Int × sS)} (hc : M.2.2.2.2 pc = (35, (nx, (mi, (na, (ci + 1, tg)))))) (hi : 92 ≤ mi) (hIP : κ.2.2.2.2.2.2.2.2.2.1 mi = im' ∧ κ.2.2.2.2.2.2.2.2.2.2 mi = M') (hinit : im'.1.name ≠ "<init>") (hsp : ev_sp na [] st = some (sR p :: As', r)) (hw : As'.all (fun v => !ev_wide v) = true) (hcs : Nat.ble (ev_cs r) 8 = true) (hd : 1 ≤ d) (hW : WF2 κ S)
    (hcal : G2 κ im' M' t' (d - 1) (sn S) (ss S) Y 0 (ev_loc M'.1 (sR p :: As')) [] S) (k : ∀ v S1, VR2 t' v → WF2 κ S1 → EXT S S1 → G2 κ im M t d n0 s0 (K v S1) nx loc ((drv2 t' v).toList ++ r) S1) : G2 κ im M t d n0 s0 (if sK S p = ci then bdS Y K else none) pc loc st S := by
  refine g2_ck fun hk => ?_
  obtain ⟨hlen, hst⟩ := sp_map (κ := κ) hsp
  have hfac : ECk κ im M → ∃ (ix n : Nat), nx = pc + 3 ∧ M'.1 ≤ 51 ∧ na ≤ M'.1 ∧ ev_cw im' M'.1 ∈ ev_UW ∧ Cond.initialized im'.1.cls ∈ ev_UW ∧ (im'.1.cls ≠ "java/lang/invoke/MethodHandle" ∧ im'.1.cls ≠ "java/lang/invoke/VarHandle" ∧ (parseMethodDescriptor im'.1.desc).map (fun d => d.parameters.length) = some n) ∧ decode im.2.1 pc = .ok (.invokevirtual ix, 3) ∧ na = n + 1 ∧ (∃ rr, vwCl[ci]? = some rr ∧ rr.1 = im'.1.cls) ∧ im'.2.2.2 = [] ∧ Cond.methodLink im.1.cls ix im'.1 ∈ ev_UW ∧ Cond.instanceMethod im'.1 ∈ ev_UW ∧ Cond.selects im'.1.cls im'.1 im'.1 ∈ ev_UW := by
    intro hE
    have hok := hE pc
    rw [hc] at hok
    have hok := hok.2.2 hi
    dsimp only at hok
    unfold ev_i_call at hok
    rw [hIP.1, hIP.2] at hok
    obtain ⟨ix, n, e1, -, h51, hb, hcw, hini, hnm, -, ⟨dd, hb1, ⟨ci2, rr9, hc1, hci, hcn⟩, hhe, w1, w2, w3⟩ | ⟨dd, hb1, hc1, -⟩ | ⟨dd, hb1, -, -, hn1, -⟩⟩ := hok
    · have : ci2 = ci := by omega
      subst this
      exact ⟨ix, n, e1, h51, hb, hcw, hini, hnm, dd, hb1, ⟨rr9, hci, hcn⟩, hhe, w1, w2, w3⟩
    · cases hc1
    · exact absurd hn1 hinit
  refine g2_callm (As := sR p :: As') hi hIP (by rw [List.all_cons]; simp only [hw]; rfl) (fun hE => ?_) (fun p9 e R s m args below meth c H locs cells slots mc ms Q ls v1 S1 hI hM hPc kk => ?_) hcal k
  · obtain ⟨ix, n, e1, h51, hb, hcw, hini, hnm, dd, hb1, -, hhe, -⟩ := hfac hE
    exact ⟨hhe, by omega⟩
  · obtain ⟨hκ, hF, hE, hR, hsz, hn, hJ, hS, hroom⟩ := id hI
    obtain ⟨ix, n, e1, h51, hb, hcw, hini, hnm, dd, hb1, ⟨rr, hci, hcn⟩, hhe, w1, w2, w3⟩ := hfac hE
    subst e1
    obtain ⟨hx, hbb, hml, ho, ht, hV, -⟩ := id hF.1
    obtain ⟨aR, e5, cell, q1, q2, q3⟩ := cx_recv hW hI hk hci
    have hTs : ∀ x ∈ ev_UW, x ∈ ev_wm im M.1 := fun x hx => List.mem_cons_of_mem _ hx
    have hcw9 : ev_wm im' M'.1 = Cond.code im'.1 im'.2.1 M'.1 im'.2.2.1 :: ev_UW := by
      unfold ev_wm ev_cw
      rw [hhe]
    have hGood : GoodIn (ev_wm im M.1) (ev_wm im' M'.1) := ev_good hTs (ev_wm_in hcw)
    have hrun := va_runV (R := R) (l := κ.2.2.2.2.2.2.1) (e := e) (below := below) (meth := meth) (H := H) (locs := locs) (cells := cells) (slots := slots) (g := F0 m pc ls (st.map (ev_dn κ.2.2.1 κ.2.2.2.1 κ.2.2.2.2.2.1))) (As := As'.map (ev_dn κ.2.2.1 κ.2.2.2.1 κ.2.2.2.2.2.1)) (rest := r.map (ev_dn κ.2.2.1 κ.2.2.2.1 κ.2.2.2.2.2.1)) (b := aR) (C := im'.1.cls) (index := ix) (n := n) (bytes := im'.2.1) (maxL := M'.1) (ret := im'.2.2.1) (⟨hx, hbb, hml, ho, ht⟩ : CallFix p9 m c im.2.1 M.1 s args (ev_wm im M.1) im.1.cls) hM
      ⟨callB_of n ht hGood hcw9 rfl rfl (ht _ (hTs _ hini)) (ht _ (hTs _ w1)) hnm (call_room hd h51 hR), ht _ (hTs _ w2), ht _ (hTs _ w3)⟩
      ⟨PcG_blind, ⟨cell, q1, q2, by rw [← hcn]; exact q3⟩, fun U hU hWm => by
        have := hPc U hU hWm
        rw [List.map_cons, e5] at this
        exact this⟩ rfl (by rw [List.length_map]; rw [List.length_cons] at hlen; omega) hsz (by
        show st.map _ = _
        rw [hst, List.map_cons, e5, List.reverse_cons, List.append_assoc]
        rfl) (by show 2 * 0 + _ ≤ 8; have := cs_8 (κ := κ) hcs; omega) dd hroom
    exact g2_end3 hS hrun kk
/-- invokestatic -/
theorem g2_callS {K : Int → sS → Option (Int × sS)} (hc : M.2.2.2.2 pc = (35, (nx, (mi, (na, (0, tg)))))) (hi : 92 ≤ mi) (hIP : κ.2.2.2.2.2.2.2.2.2.1 mi = im' ∧ κ.2.2.2.2.2.2.2.2.2.2 mi = M') (hnl : im'.2.2.2 = []) (hsp : ev_sp na [] st = some (As, r)) (hw : As.all (fun v => !ev_wide v) = true) (hcs : Nat.ble (ev_cs r) 8 = true) (hd : 1 ≤ d)
    (hcal : G2 κ im' M' t' (d - 1) (sn S) (ss S) Y 0 (ev_loc M'.1 As) [] S) (k : ∀ v S1, VR2 t' v → WF2 κ S1 → EXT S S1 → G2 κ im M t d n0 s0 (K v S1) nx loc ((drv2 t' v).toList ++ r) S1) : G2 κ im M t d n0 s0 (bdS Y K) pc loc st S := by
  obtain ⟨hlen, hst⟩ := sp_map (κ := κ) hsp
  have hfac : ECk κ im M → ∃ (ix n : Nat), nx = pc + 3 ∧ M'.1 ≤ 51 ∧ na ≤ M'.1 ∧ ev_cw im' M'.1 ∈ ev_UW ∧ Cond.initialized im'.1.cls ∈ ev_UW ∧ (im'.1.cls ≠ "java/lang/invoke/MethodHandle" ∧ im'.1.cls ≠ "java/lang/invoke/VarHandle" ∧ (parseMethodDescriptor im'.1.desc).map (fun d => d.parameters.length) = some n) ∧ decode im.2.1 pc = .ok (.invokestatic ix, 3) ∧ na = n ∧ Cond.methodLink im.1.cls ix im'.1 ∈ ev_UW ∧ Cond.static im'.1 ∈ ev_UW := by
    intro hE
    have hok := hE pc
    rw [hc] at hok
    have hok := hok.2.2 hi
    dsimp only at hok
    unfold ev_i_call at hok
    rw [hIP.1, hIP.2] at hok
    obtain ⟨ix, n, e1, -, h51, hb, hcw, hini, hnm, -, ⟨dd, hb1, ⟨ci2, rr9, hc1, -⟩, -⟩ | ⟨dd, hb1, hc1, w1, w2⟩ | ⟨dd, hb1, ⟨ci2, rr9, hc1, -⟩, -⟩⟩ := hok
    · cases hc1
    · exact ⟨ix, n, e1, h51, hb, hcw, hini, hnm, dd, hb1, w1, w2⟩
    · cases hc1
  refine g2_callm (As := As) hi hIP hw (fun hE => ?_) (fun p9 e R s m args below meth c H locs cells slots mc ms Q ls v1 S1 hI hM hPc kk => ?_) hcal k
  · obtain ⟨ix, n, e1, h51, hb, -⟩ := hfac hE
    exact ⟨hnl, by omega⟩
  · obtain ⟨hκ, hF, hE, hR, hsz, hn, hJ, hS, hroom⟩ := id hI
    obtain ⟨ix, n, e1, h51, hb, hcw, hini, hnm, dd, hb1, w1, w2⟩ := hfac hE
    subst e1
    obtain ⟨hx, hbb, hml, ho, ht, hV, -⟩ := id hF.1
    have hTs : ∀ x ∈ ev_UW, x ∈ ev_wm im M.1 := fun x hx => List.mem_cons_of_mem _ hx
    have hcw9 : ev_wm im' M'.1 = Cond.code im'.1 im'.2.1 M'.1 im'.2.2.1 :: ev_UW := by
      unfold ev_wm ev_cw
      rw [hnl]
    have hGood : GoodIn (ev_wm im M.1) (ev_wm im' M'.1) := ev_good hTs (ev_wm_in hcw)
    have hrun := va_runS (R := R) (l := κ.2.2.2.2.2.2.1) (e := e) (below := below) (meth := meth) (H := H) (locs := locs) (cells := cells) (slots := slots) (g := F0 m pc ls (st.map (ev_dn κ.2.2.1 κ.2.2.2.1 κ.2.2.2.2.2.1))) (As := As.map (ev_dn κ.2.2.1 κ.2.2.2.1 κ.2.2.2.2.2.1)) (rest := r.map (ev_dn κ.2.2.1 κ.2.2.2.1 κ.2.2.2.2.2.1)) (index := ix) (n := n) (bytes := im'.2.1) (maxL := M'.1) (ret := im'.2.2.1) (⟨hx, hbb, hml, ho, ht⟩ : CallFix p9 m c im.2.1 M.1 s args (ev_wm im M.1) im.1.cls) hM
      ⟨callB_of n ht hGood hcw9 rfl rfl (ht _ (hTs _ hini)) (ht _ (hTs _ w1)) hnm (call_room hd h51 hR), ht _ (hTs _ w2)⟩
      ⟨PcG_blind, hPc⟩ rfl (by rw [List.length_map]; omega) hsz (by
        show st.map _ = _
        exact hst) (by show 2 * 0 + _ ≤ 8; have := cs_8 (κ := κ) hcs; omega) dd hroom
    exact g2_end3 hS hrun kk
/-- invokespecial of a constructor -/
theorem g2_callI {K : Int → sS → Option (Int × sS)} (hc : M.2.2.2.2 pc = (35, (nx, (mi, (na, (ci + 1, tg)))))) (hi : 92 ≤ mi) (hIP : κ.2.2.2.2.2.2.2.2.2.1 mi = im' ∧ κ.2.2.2.2.2.2.2.2.2.2 mi = M') (hsp : ev_sp na [] st = some (sR p :: As', r)) (hw : As'.all (fun v => !ev_wide v) = true) (hcs : Nat.ble (ev_cs r) 8 = true) (hd : 1 ≤ d) (hdec : ∃ ix, decode im.2.1 pc = .ok (.invokespecial ix, 3))
    (hcal : G2 κ im' M' 0 (d - 1) (sn S) (ss S) Y 0 (ev_loc M'.1 (sR p :: As')) [] S) (k : ∀ v S1, WF2 κ S1 → EXT S S1 → G2 κ im M t d n0 s0 (K v S1) nx loc r S1) : G2 κ im M t d n0 s0 (if 0 ≤ p then bdS Y K else none) pc loc st S := by
  refine g2_ck fun hk => ?_
  obtain ⟨hlen, hst⟩ := sp_map (κ := κ) hsp
  have hfac : ECk κ im M → ∃ (ix n : Nat), nx = pc + 3 ∧ M'.1 ≤ 51 ∧ na ≤ M'.1 ∧ ev_cw im' M'.1 ∈ ev_UW ∧ Cond.initialized im'.1.cls ∈ ev_UW ∧ (im'.1.cls ≠ "java/lang/invoke/MethodHandle" ∧ im'.1.cls ≠ "java/lang/invoke/VarHandle" ∧ (parseMethodDescriptor im'.1.desc).map (fun d => d.parameters.length) = some n) ∧ decode im.2.1 pc = .ok (.invokespecial ix, 3) ∧ na = n + 1 ∧ im'.2.2.2 = [] ∧ im'.1.name = "<init>" ∧ im'.2.2.1 = none ∧ Cond.instanceMethod im'.1 ∈ ev_UW ∧ (Cond.methodLink im.1.cls ix im'.1 ∈ ev_UW ∨ ∃ host, Cond.methodLinkNest im.1.cls ix im'.1 host ∈ lw_tbl) := by
    intro hE
    have hok := hE pc
    rw [hc] at hok
    have hok := hok.2.2 hi
    dsimp only at hok
    unfold ev_i_call at hok
    rw [hIP.1, hIP.2] at hok
    obtain ⟨ix, n, e1, -, h51, hb, hcw, hini, hnm, -, ⟨dd, hb1, -, -, -, -, w3⟩ | ⟨dd, hb1, hc1, -⟩ | ⟨dd, hb1, -, hhe, hn1, hn2, w2, w1⟩⟩ := hok
    · obtain ⟨ix9, hdec⟩ := hdec
      rw [dd] at hdec
      cases hdec
    · cases hc1
    · exact ⟨ix, n, e1, h51, hb, hcw, hini, hnm, dd, hb1, hhe, hn1, hn2, w2, w1⟩
  refine g2_callm (As := sR p :: As') (t' := 0) hi hIP (by rw [List.all_cons]; simp only [hw]; rfl) (fun hE => ?_) (fun p9 e R s m args below meth c H locs cells slots mc ms Q ls v1 S1 hI hM hPc kk => ?_) hcal (fun v S1 _ h e => k v S1 h e)
  · obtain ⟨ix, n, e1, h51, hb, hcw, hini, hnm, dd, hb1, hhe, -⟩ := hfac hE
    exact ⟨hhe, by omega⟩
  · obtain ⟨hκ, hF, hE, hR, hsz, hn, hJ, hS, hroom⟩ := id hI
    obtain ⟨ix, n, e1, h51, hb, hcw, hini, hnm, dd, hb1, hhe, hn1, hn2, w2, w1⟩ := hfac hE
    subst e1
    obtain ⟨hx, hbb, hml, ho, ht, hV, -⟩ := id hF.1
    have e5 : ev_dn κ.2.2.1 κ.2.2.2.1 κ.2.2.2.2.2.1 (sR p) = .ref (ev_ad κ.2.2.1 κ.2.2.2.1 p.toNat) := by
      rw [sR_pos hk]
      rfl
    have hTs : ∀ x ∈ ev_UW, x ∈ ev_wm im M.1 := fun x hx => List.mem_cons_of_mem _ hx
    have hcw9 : ev_wm im' M'.1 = Cond.code im'.1 im'.2.1 M'.1 none :: ev_UW := by
      unfold ev_wm ev_cw
      rw [hhe, ← hn2]
    have hGood : GoodIn (ev_wm im M.1) (ev_wm im' M'.1) := ev_good hTs (ev_wm_in hcw)
    have hpre : ∀ U : State, U.heap = H → s.WarmedH U.vm → PcG κ (sR p :: As') S (Value.ref (ev_ad κ.2.2.1 κ.2.2.2.1 p.toNat) :: As'.map (ev_dn κ.2.2.1 κ.2.2.2.1 κ.2.2.2.2.2.1)).toArray U := fun U hU hWm => by
      have := hPc U hU hWm
      rw [List.map_cons, e5] at this
      exact this
    have hstk : st.map (ev_dn κ.2.2.1 κ.2.2.2.1 κ.2.2.2.2.2.1) = (As'.map (ev_dn κ.2.2.1 κ.2.2.2.1 κ.2.2.2.2.2.1)).reverse ++ Value.ref (ev_ad κ.2.2.1 κ.2.2.2.1 p.toNat) :: r.map (ev_dn κ.2.2.1 κ.2.2.2.1 κ.2.2.2.2.2.1) := by
      rw [hst, List.map_cons, e5, List.reverse_cons, List.append_assoc]
      rfl
    rcases w1 with w1 | ⟨host, w1⟩
    · have hrun := va_runI (R := R) (l := κ.2.2.2.2.2.2.1) (e := e) (below := below) (meth := meth) (H := H) (locs := locs) (cells := cells) (slots := slots) (g := F0 m pc ls (st.map (ev_dn κ.2.2.1 κ.2.2.2.1 κ.2.2.2.2.2.1))) (As := As'.map (ev_dn κ.2.2.1 κ.2.2.2.1 κ.2.2.2.2.2.1)) (rest := r.map (ev_dn κ.2.2.1 κ.2.2.2.1 κ.2.2.2.2.2.1)) (b := ev_ad κ.2.2.1 κ.2.2.2.1 p.toNat) (index := ix) (n := n) (bytes := im'.2.1) (maxL := M'.1) (⟨hx, hbb, hml, ho, ht⟩ : CallFix p9 m c im.2.1 M.1 s args (ev_wm im M.1) im.1.cls) hM
        ⟨callB_of n ht hGood hcw9 rfl rfl (ht _ (hTs _ hini)) (ht _ (hTs _ w1)) hnm (call_room hd h51 hR), hn1, ht _ (hTs _ w2)⟩
        ⟨PcG_blind, hpre⟩ rfl (by rw [List.length_map]; rw [List.length_cons] at hlen; omega) hsz hstk (by show 2 * 0 + _ ≤ 8; have := cs_8 (κ := κ) hcs; omega) dd hroom
      exact g2_end3 hS hrun kk
    · have hrun := va_runIN (R := R) (l := κ.2.2.2.2.2.2.1) (e := e) (below := below) (meth := meth) (H := H) (locs := locs) (cells := cells) (slots := slots) (g := F0 m pc ls (st.map (ev_dn κ.2.2.1 κ.2.2.2.1 κ.2.2.2.2.2.1))) (As := As'.map (ev_dn κ.2.2.1 κ.2.2.2.1 κ.2.2.2.2.2.1)) (rest := r.map (ev_dn κ.2.2.1 κ.2.2.2.1 κ.2.2.2.2.2.1)) (b := ev_ad κ.2.2.1 κ.2.2.2.1 p.toNat) (index := ix) (n := n) (bytes := im'.2.1) (maxL := M'.1) (host := host) (⟨hx, hbb, hml, ho, ht⟩ : CallFix p9 m c im.2.1 M.1 s args (ev_wm im M.1) im.1.cls) hM
        ⟨va_cnB n ht hGood hcw9 rfl rfl (hV.2.1 _ w1 rfl) (ht _ (hTs _ hini)) hnm (call_room hd h51 hR), hn1, ht _ (hTs _ w2)⟩
        ⟨PcG_blind, hpre⟩ rfl (by rw [List.length_map]; rw [List.length_cons] at hlen; omega) hsz hstk (by show 2 * 0 + _ ≤ 8; have := cs_8 (κ := κ) hcs; omega) dd hroom
      exact g2_end3 hS hrun kk
/-- invokeinterface -/
theorem g2_callF {K : Int → sS → Option (Int × sS)} (hc : M.2.2.2.2 pc = (62, (nx, (mi, (na, (ci + 1, tg)))))) (hi : 92 ≤ mi) (hIP : κ.2.2.2.2.2.2.2.2.2.1 mi = im' ∧ κ.2.2.2.2.2.2.2.2.2.2 mi = M') (hsp : ev_sp na [] st = some (sR p :: As', r)) (hw : As'.all (fun v => !ev_wide v) = true) (hcs : Nat.ble (ev_cs r) 8 = true) (hd : 1 ≤ d) (hW : WF2 κ S)
    (hcal : G2 κ im' M' t' (d - 1) (sn S) (ss S) Y 0 (ev_loc M'.1 (sR p :: As')) [] S) (k : ∀ v S1, VR2 t' v → WF2 κ S1 → EXT S S1 → G2 κ im M t d n0 s0 (K v S1) nx loc ((drv2 t' v).toList ++ r) S1) : G2 κ im M t d n0 s0 (if sK S p = ci then bdS Y K else none) pc loc st S := by
  refine g2_ck fun hk => ?_
  obtain ⟨hlen, hst⟩ := sp_map (κ := κ) hsp
  have hfac : ECk κ im M → ∃ (ix n ct : Nat) (rr : vw_C) (x : MethodName), nx = pc + 5 ∧ (M'.1 ≤ 51 ∧ na ≤ M'.1 ∧ im'.2.2.2 = [] ∧ ev_cw im' M'.1 ∈ ev_UW ∧ Cond.initialized im'.1.cls ∈ ev_UW ∧ Cond.instanceMethod im'.1 ∈ ev_UW ∧ na = n + 1) ∧ decode im.2.1 pc = .ok (.invokeinterface ix ct, 5) ∧ vwCl[ci]? = some rr ∧ (rr.1, (x, im'.1)) ∈ fw_L ∧ Cond.methodLink im.1.cls ix x ∈ ev_UW ∧ Cond.selects rr.1 x im'.1 ∈ ev_UW ∧ (x.cls ≠ "java/lang/invoke/MethodHandle" ∧ x.cls ≠ "java/lang/invoke/VarHandle") ∧ (parseMethodDescriptor x.desc).map (fun d => d.parameters.length) = some n := by
    intro hE
    have hok := hE pc
    rw [hc] at hok
    have hok : ev2_face κ.2.2.2.2.2.2.2.2.2.1 κ.2.2.2.2.2.2.2.2.2.2 im.2.1 im.1.cls pc nx mi na (ci + 1) := hok.2
    obtain ⟨ix, n, ct, ci2, rr, x, e1, h1, dd, hc1, hci, h2⟩ := hok
    unfold ev2_cal at h1
    rw [hIP.1, hIP.2] at h1
    rw [hIP.1] at h2
    have : ci2 = ci := by omega
    subst this
    exact ⟨ix, n, ct, rr, x, e1, h1, dd, hci, h2⟩
  refine g2_callm (As := sR p :: As') hi hIP (by rw [List.all_cons]; simp only [hw]; rfl) (fun hE => ?_) (fun p9 e R s m args below meth c H locs cells slots mc ms Q ls v1 S1 hI hM hPc kk => ?_) hcal k
  · obtain ⟨ix, n, ct, rr, x, e1, ⟨h51, hb, hhe, -⟩, -⟩ := hfac hE
    exact ⟨hhe, by omega⟩
  · obtain ⟨hκ, hF, hE, hR, hsz, hn, hJ, hS, hroom⟩ := id hI
    obtain ⟨ix, n, ct, rr, x, e1, ⟨h51, hb, hhe, hcw, hini, w2, hb1⟩, dd, hci, hfw, w1, w3, hnm1, hnm2⟩ := hfac hE
    subst e1
    obtain ⟨hx, hbb, hml, ho, ht, hV, -⟩ := id hF.1
    obtain ⟨aR, e5, cell, q1, q2, q3⟩ := cx_recv hW hI hk hci
    have hTs : ∀ x ∈ ev_UW, x ∈ ev_wm im M.1 := fun x hx => List.mem_cons_of_mem _ hx
    have hcw9 : ev_wm im' M'.1 = Cond.code im'.1 im'.2.1 M'.1 im'.2.2.1 :: ev_UW := by
      unfold ev_wm ev_cw
      rw [hhe]
    have hGood : GoodIn (ev_wm im M.1) (va_wsF im.1.cls ix rr.1 x im'.1 (ev_wm im' M'.1)) := ev_good hTs (fun y hy => by
      unfold va_wsF at hy
      rcases List.mem_append.mp hy with hy | hy
      · simp only [List.mem_cons, List.not_mem_nil, or_false] at hy
        rcases hy with rfl | rfl | rfl | rfl
        · exact w1
        · exact w3
        · exact w2
        · exact hini
      · exact ev_wm_in hcw y hy)
    have hrun := va_runF (R := R) (l := κ.2.2.2.2.2.2.1) (e := e) (below := below) (meth := meth) (H := H) (locs := locs) (cells := cells) (slots := slots) (g := F0 m pc ls (st.map (ev_dn κ.2.2.1 κ.2.2.2.1 κ.2.2.2.2.2.1))) (As := As'.map (ev_dn κ.2.2.1 κ.2.2.2.1 κ.2.2.2.2.2.1)) (rest := r.map (ev_dn κ.2.2.1 κ.2.2.2.1 κ.2.2.2.2.2.1)) (b := aR) (C := rr.1) (x := x) (index := ix) (n := n) (bytes := im'.2.1) (maxL := M'.1) (ret := im'.2.2.1) (hV.1.1 ci _ hci).2 (⟨hx, hbb, hml, ho, ht⟩ : CallFix p9 m c im.2.1 M.1 s args (ev_wm im M.1) im.1.cls) hM
      (va_cwF n ht hGood hcw9 rfl rfl (hF.2.2.2.2.2.2.2.2.2.2.2.1 _ hfw) ⟨hnm1.1, hnm1.2, hnm2⟩ (call_room hd h51 hR))
      ⟨PcG_blind, ⟨cell, q1, q2, q3⟩, fun U hU hWm => by
        have := hPc U hU hWm
        rw [List.map_cons, e5] at this
        exact this⟩ rfl (by rw [List.length_map]; rw [List.length_cons] at hlen; omega) hsz (by
        show st.map _ = _
        rw [hst, List.map_cons, e5, List.reverse_cons, List.append_assoc]
        rfl) (by show 2 * 0 + _ ≤ 8; have := cs_8 (κ := κ) hcs; omega) dd hroom
    exact g2_end5 hS hrun kk
/-- invokevirtual by a name of the class above -/
theorem g2_callU {K : Int → sS → Option (Int × sS)} (hc : M.2.2.2.2 pc = (63, (nx, (mi, (na, (ci + 1, tg)))))) (hi : 92 ≤ mi) (hIP : κ.2.2.2.2.2.2.2.2.2.1 mi = im' ∧ κ.2.2.2.2.2.2.2.2.2.2 mi = M') (hsp : ev_sp na [] st = some (sR p :: As', r)) (hw : As'.all (fun v => !ev_wide v) = true) (hcs : Nat.ble (ev_cs r) 8 = true) (hd : 1 ≤ d) (hW : WF2 κ S)
    (hcal : G2 κ im' M' t' (d - 1) (sn S) (ss S) Y 0 (ev_loc M'.1 (sR p :: As')) [] S) (k : ∀ v S1, VR2 t' v → WF2 κ S1 → EXT S S1 → G2 κ im M t d n0 s0 (K v S1) nx loc ((drv2 t' v).toList ++ r) S1) : G2 κ im M t d n0 s0 (if sK S p = ci then bdS Y K else none) pc loc st S := by
  refine g2_ck fun hk => ?_
  obtain ⟨hlen, hst⟩ := sp_map (κ := κ) hsp
  have hfac : ECk κ im M → ∃ (ix n : Nat) (rr : vw_C) (x : MethodName), nx = pc + 3 ∧ (M'.1 ≤ 51 ∧ na ≤ M'.1 ∧ im'.2.2.2 = [] ∧ ev_cw im' M'.1 ∈ ev_UW ∧ Cond.initialized im'.1.cls ∈ ev_UW ∧ Cond.instanceMethod im'.1 ∈ ev_UW ∧ na = n + 1) ∧ decode im.2.1 pc = .ok (.invokevirtual ix, 3) ∧ vwCl[ci]? = some rr ∧ Cond.methodLink im.1.cls ix x ∈ ev_UW ∧ Cond.sameMethod x.cls x.cls x.name x.desc ∈ ev_UW ∧ Cond.instanceMethod x ∈ ev_UW ∧ (∃ (b0 : ByteArray) (m0 : Nat) (r0 : Option FieldType), Cond.code x b0 m0 r0 ∈ ev_UW) ∧ Cond.selects rr.1 x im'.1 ∈ ev_UW ∧ (x.cls ≠ "java/lang/invoke/MethodHandle" ∧ x.cls ≠ "java/lang/invoke/VarHandle") ∧ (parseMethodDescriptor x.desc).map (fun d => d.parameters.length) = some n := by
    intro hE
    have hok := hE pc
    rw [hc] at hok
    have hok : ev2_virt κ.2.2.2.2.2.2.2.2.2.1 κ.2.2.2.2.2.2.2.2.2.2 im.2.1 im.1.cls pc nx mi na (ci + 1) := hok.2
    obtain ⟨ix, n, ci2, rr, x, e1, h1, dd, hc1, hci, h2⟩ := hok
    unfold ev2_cal at h1
    rw [hIP.1, hIP.2] at h1
    rw [hIP.1] at h2
    have : ci2 = ci := by omega
    subst this
    exact ⟨ix, n, rr, x, e1, h1, dd, hci, h2⟩
  refine g2_callm (As := sR p :: As') hi hIP (by rw [List.all_cons]; simp only [hw]; rfl) (fun hE => ?_) (fun p9 e R s m args below meth c H locs cells slots mc ms Q ls v1 S1 hI hM hPc kk => ?_) hcal k
  · obtain ⟨ix, n, rr, x, e1, ⟨h51, hb, hhe, -⟩, -⟩ := hfac hE
    exact ⟨hhe, by omega⟩
  · obtain ⟨hκ, hF, hE, hR, hsz, hn, hJ, hS, hroom⟩ := id hI
    obtain ⟨ix, n, rr, x, e1, ⟨h51, hb, hhe, hcw, hini, w2, hb1⟩, dd, hci, w1, w4, w5, ⟨b9, m9, r9, w6⟩, w3, hnm1, hnm2⟩ := hfac hE
    subst e1
    obtain ⟨hx, hbb, hml, ho, ht, hV, -⟩ := id hF.1
    obtain ⟨aR, e5, cell, q1, q2, q3⟩ := cx_recv hW hI hk hci
    have hTs : ∀ x ∈ ev_UW, x ∈ ev_wm im M.1 := fun x hx => List.mem_cons_of_mem _ hx
    have hcw9 : ev_wm im' M'.1 = Cond.code im'.1 im'.2.1 M'.1 im'.2.2.1 :: ev_UW := by
      unfold ev_wm ev_cw
      rw [hhe]
    have hGood : GoodIn (ev_wm im M.1) (va_wsO im.1.cls ix rr.1 x.cls x im'.1 (ev_wm im' M'.1)) := ev_good hTs (fun y hy => by
      unfold va_wsO at hy
      rcases List.mem_append.mp hy with hy | hy
      · simp only [List.mem_cons, List.not_mem_nil, or_false] at hy
        rcases hy with rfl | rfl | rfl | rfl | rfl | rfl
        · exact w1
        · exact w4
        · exact w5
        · exact w3
        · exact w2
        · exact hini
      · exact ev_wm_in hcw y hy)
    have hrun := va_runU (R := R) (l := κ.2.2.2.2.2.2.1) (e := e) (below := below) (meth := meth) (H := H) (locs := locs) (cells := cells) (slots := slots) (g := F0 m pc ls (st.map (ev_dn κ.2.2.1 κ.2.2.2.1 κ.2.2.2.2.2.1))) (As := As'.map (ev_dn κ.2.2.1 κ.2.2.2.1 κ.2.2.2.2.2.1)) (rest := r.map (ev_dn κ.2.2.1 κ.2.2.2.1 κ.2.2.2.2.2.1)) (b := aR) (C := rr.1) (owner := x.cls) (x := x) (index := ix) (n := n) (bytes := im'.2.1) (maxL := M'.1) (ret := im'.2.2.1) (⟨hx, hbb, hml, ho, ht⟩ : CallFix p9 m c im.2.1 M.1 s args (ev_wm im M.1) im.1.cls) hM
      (va_cwO n ht hGood hcw9 rfl rfl (hTs _ w6) ⟨hnm1.1, hnm1.2, hnm2⟩ (call_room hd h51 hR))
      ⟨PcG_blind, ⟨cell, q1, q2, q3⟩, fun U hU hWm => by
        have := hPc U hU hWm
        rw [List.map_cons, e5] at this
        exact this⟩ rfl (by rw [List.length_map]; rw [List.length_cons] at hlen; omega) hsz (by
        show st.map _ = _
        rw [hst, List.map_cons, e5, List.reverse_cons, List.append_assoc]
        rfl) (by show 2 * 0 + _ ≤ 8; have := cs_8 (κ := κ) hcs; omega) dd hroom
    exact g2_end3 hS hrun kk
/-- invokespecial of the class above -/
theorem g2_callP {K : Int → sS → Option (Int × sS)} (hc : M.2.2.2.2 pc = (64, (nx, (mi, (na, (ci + 1, tg)))))) (hi : 92 ≤ mi) (hIP : κ.2.2.2.2.2.2.2.2.2.1 mi = im' ∧ κ.2.2.2.2.2.2.2.2.2.2 mi = M') (hsp : ev_sp na [] st = some (sR p :: As', r)) (hw : As'.all (fun v => !ev_wide v) = true) (hcs : Nat.ble (ev_cs r) 8 = true) (hd : 1 ≤ d) (hW : WF2 κ S)
    (hcal : G2 κ im' M' t' (d - 1) (sn S) (ss S) Y 0 (ev_loc M'.1 (sR p :: As')) [] S) (k : ∀ v S1, VR2 t' v → WF2 κ S1 → EXT S S1 → G2 κ im M t d n0 s0 (K v S1) nx loc ((drv2 t' v).toList ++ r) S1) : G2 κ im M t d n0 s0 (if sK S p = ci then bdS Y K else none) pc loc st S := by
  refine g2_ck fun hk => ?_
  obtain ⟨hlen, hst⟩ := sp_map (κ := κ) hsp
  have hfac : ECk κ im M → ∃ (ix n : Nat) (rr : vw_C), nx = pc + 3 ∧ (M'.1 ≤ 51 ∧ na ≤ M'.1 ∧ im'.2.2.2 = [] ∧ ev_cw im' M'.1 ∈ ev_UW ∧ Cond.initialized im'.1.cls ∈ ev_UW ∧ Cond.instanceMethod im'.1 ∈ ev_UW ∧ na = n + 1) ∧ decode im.2.1 pc = .ok (.invokespecial ix, 3) ∧ vwCl[ci]? = some rr ∧ Cond.methodLink im.1.cls ix im'.1 ∈ ev_UW ∧ Cond.sameMethod im'.1.cls im'.1.cls im'.1.name im'.1.desc ∈ ev_UW ∧ Cond.superclass im.1.cls im'.1.cls ∈ ev_UW ∧ im'.1.name ≠ "<init>" ∧ (parseMethodDescriptor im'.1.desc).map (fun d => d.parameters.length) = some n := by
    intro hE
    have hok := hE pc
    rw [hc] at hok
    have hok : ev2_sup κ.2.2.2.2.2.2.2.2.2.1 κ.2.2.2.2.2.2.2.2.2.2 im.2.1 im.1.cls pc nx mi na (ci + 1) := hok.2
    obtain ⟨ix, n, ci2, rr, e1, h1, dd, hc1, hci, h2⟩ := hok
    unfold ev2_cal at h1
    rw [hIP.1, hIP.2] at h1
    rw [hIP.1] at h2
    have : ci2 = ci := by omega
    subst this
    exact ⟨ix, n, rr, e1, h1, dd, hci, h2⟩
  refine g2_callm (As := sR p :: As') hi hIP (by rw [List.all_cons]; simp only [hw]; rfl) (fun hE => ?_) (fun p9 e R s m args below meth c H locs cells slots mc ms Q ls v1 S1 hI hM hPc kk => ?_) hcal k
  · obtain ⟨ix, n, rr, e1, ⟨h51, hb, hhe, -⟩, -⟩ := hfac hE
    exact ⟨hhe, by omega⟩
  · obtain ⟨hκ, hF, hE, hR, hsz, hn, hJ, hS, hroom⟩ := id hI
    obtain ⟨ix, n, rr, e1, ⟨h51, hb, hhe, hcw, hini, w2, hb1⟩, dd, hci, w1, w4, w5, hnm1, hnm2⟩ := hfac hE
    subst e1
    obtain ⟨hx, hbb, hml, ho, ht, hV, -⟩ := id hF.1
    obtain ⟨aR, e5, cell, q1, q2, q3⟩ := cx_recv hW hI hk hci
    have hTs : ∀ x ∈ ev_UW, x ∈ ev_wm im M.1 := fun x hx => List.mem_cons_of_mem _ hx
    have hcw9 : ev_wm im' M'.1 = Cond.code im'.1 im'.2.1 M'.1 im'.2.2.1 :: ev_UW := by
      unfold ev_wm ev_cw
      rw [hhe]
    have hGood : GoodIn (ev_wm im M.1) (va_wsSU im.1.cls ix im'.1 (ev_wm im' M'.1)) := ev_good hTs (fun y hy => by
      unfold va_wsSU at hy
      rcases List.mem_append.mp hy with hy | hy
      · simp only [List.mem_cons, List.not_mem_nil, or_false] at hy
        rcases hy with rfl | rfl | rfl | rfl | rfl
        · exact w1
        · exact w4
        · exact w5
        · exact w2
        · exact hini
      · exact ev_wm_in hcw y hy)
    have hrun := va_runSU (R := R) (l := κ.2.2.2.2.2.2.1) (e := e) (below := below) (meth := meth) (H := H) (locs := locs) (cells := cells) (slots := slots) (g := F0 m pc ls (st.map (ev_dn κ.2.2.1 κ.2.2.2.1 κ.2.2.2.2.2.1))) (As := As'.map (ev_dn κ.2.2.1 κ.2.2.2.1 κ.2.2.2.2.2.1)) (rest := r.map (ev_dn κ.2.2.1 κ.2.2.2.1 κ.2.2.2.2.2.1)) (b := aR) (C := rr.1) (index := ix) (n := n) (bytes := im'.2.1) (maxL := M'.1) (ret := im'.2.2.1) (hV.1.1 ci _ hci).2 (⟨hx, hbb, hml, ho, ht⟩ : CallFix p9 m c im.2.1 M.1 s args (ev_wm im M.1) im.1.cls) hM
      (va_cwSU n ht hGood hcw9 rfl rfl ⟨hnm1, hnm2⟩ (call_room hd h51 hR))
      ⟨PcG_blind, ⟨cell, q1, q2, q3⟩, fun U hU hWm => by
        have := hPc U hU hWm
        rw [List.map_cons, e5] at this
        exact this⟩ rfl (by rw [List.length_map]; rw [List.length_cons] at hlen; omega) hsz (by
        show st.map _ = _
        rw [hst, List.map_cons, e5, List.reverse_cons, List.append_assoc]
        rfl) (by show 2 * 0 + _ ≤ 8; have := cs_8 (κ := κ) hcs; omega) dd hroom
    exact g2_end3 hS hrun kk
end G2R
