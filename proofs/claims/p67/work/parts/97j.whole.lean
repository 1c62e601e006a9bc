/-! ===== runs of the evaluator, whole (own work) ===== -/
section EVW
variable {D : va_G} {aC : Nat → ClassId} {b : ev_B} {B0 L : Nat} {σ : Nat → Int32}
variable {Φ : ev_P} {Sg : List (String × (Nat × String))} {I : Nat → ev_Im} {P : Nat → ev_M} {l : Launch}
/-- the answers and throws of a frame -/
def ev_Ret (I : Nat → ev_Im) (P : Nat → ev_M) (Sg : List (String × (Nat × String))) (Φ : ev_P) (D : va_G) (aC : Nat → ClassId) (b : ev_B) (B0 : Nat) (σ : Nat → Int32) (p : Program) (l : Launch) (e : Env) (R : Room) (s : State) (m : MethodId) (args : Array Value) (below : List Frame) (meth : Method) (c : Code) (Q : State → Prop) (Ts : List Cond) (y : MethodName) (cc : ByteArray) (ret : Option FieldType) (nL : Nat) (M : ev_M) (r : ev_S) : Prop :=
  ∀ (op nx a b' c' : Nat) (tg : List Nat) (pc : Nat) (loc : ev_L) (st : List ev_V) (w : ev_W) (k : ev_N) (cl : ev_F), (op = 37 ∨ op = 38 ∨ op = 39 ∨ op = 40 ∨ op = 41 ∨ op = 46) → M.2.2.2.2 pc = (op, (nx, (a, (b', (c', tg))))) → ev_eok I P Sg Ts y cc ret nL pc op nx a b' c' tg → ev_sel op Φ M k cl nx a b' c' tg pc loc st w = some r →
    ev_Go D aC b B0 σ p l e R s m args below meth c Q nL pc loc st w
/-- a frame of the machine that follows the evaluator's method M with the end r -/
def ev_Fr (I : Nat → ev_Im) (P : Nat → ev_M) (Sg : List (String × (Nat × String))) (Φ : ev_P) (D : va_G) (aC : Nat → ClassId) (b : ev_B) (B0 L : Nat) (σ : Nat → Int32) (p : Program) (l : Launch) (e : Env) (R : Room) (s : State) (m : MethodId) (args : Array Value) (below : List Frame) (meth : Method) (c : Code) (Q : State → Prop) (Ts : List Cond) (y : MethodName) (cc : ByteArray) (ret : Option FieldType) (hh : List (Nat × Nat × Nat × Nat)) (nL d : Nat) (M : ev_M) (r : ev_S) : Prop :=
  ev_Fx D aC b B0 L σ p s m args meth c cc nL Ts y.cls Sg ∧ (∀ x ∈ ev_UW, x ∈ Ts) ∧ ev_cok I P Sg Ts y cc ret nL M.2.2.2.2 ∧ meth.name = y.name ∧ ev_hok y.cls Ts hh M.2.2.2.1 ∧ c.exceptionTable.toList = tableOf hh ∧ (M.2.1 ≤ R.cells ∧ M.2.2.1 ≤ R.slots) ∧ (10 + d ≤ R.frames ∧ 100 + 70 * d ≤ R.locals) ∧
  ev_Ret I P Sg Φ D aC b B0 σ p l e R s m args below meth c Q Ts y cc ret nL M r ∧ ev_Out D aC b B0 σ p l e R s m args below meth c Q y.cls M r
/-- n steps of the evaluator are right, in any frame -/
def ev_Ok (I : Nat → ev_Im) (P : Nat → ev_M) (Sg : List (String × (Nat × String))) (Φ : ev_P) (D : va_G) (aC : Nat → ClassId) (b : ev_B) (B0 L : Nat) (σ : Nat → Int32) (l : Launch) (n : Nat) : Prop :=
  ∀ (p : Program) (e : Env) (R : Room) (s : State) (m : MethodId) (args : Array Value) (below : List Frame) (meth : Method) (c : Code) (Q : State → Prop) (Ts : List Cond) (y : MethodName) (cc : ByteArray) (ret : Option FieldType) (hh : List (Nat × Nat × Nat × Nat)) (nL d : Nat) (M : ev_M) (r : ev_S),
    ev_Fr I P Sg Φ D aC b B0 L σ p l e R s m args below meth c Q Ts y cc ret hh nL d M r → ∀ pc loc st w, ev_run Φ P n d M pc loc st w = some r → ev_Go D aC b B0 σ p l e R s m args below meth c Q nL pc loc st w
theorem ev_args_in {vs : List Value} (h : ∀ v ∈ vs, v.category = 1) : ∀ (i k : Nat) (v : Value), vs[k]? = some v → (i + k, v) ∈ lv_args i vs := by
  induction vs with
  | nil => intro i k v hk; simp at hk
  | cons x t ih =>
    intro i k v hk
    have hx : ¬ x.category = 2 := by
      rw [h x List.mem_cons_self]
      decide
    show (i + k, v) ∈ (i, x) :: lv_args (if x.category = 2 then i + 2 else i + 1) t
    rw [if_neg hx]
    cases k with
    | zero =>
      have hk : some x = some v := hk
      cases hk
      exact List.mem_cons_self
    | succ k =>
      have hk : t[k]? = some v := by simpa using hk
      have := ih (fun v hv => h v (List.mem_cons_of_mem _ hv)) (i + 1) k v hk
      rw [show i + (k + 1) = i + 1 + k by omega]
      exact List.mem_cons_of_mem _ this
theorem ev_sl_len {vs : List Value} (h : ∀ v ∈ vs, v.category = 1) : (lg_sl vs).length = vs.length := by
  induction vs with
  | nil => rfl
  | cons x t ih =>
    have hx : ¬ x.category = 2 := by
      rw [h x List.mem_cons_self]
      decide
    unfold lg_sl at ih ⊢
    rw [List.flatMap_cons, if_neg hx, List.length_append, ih (fun v hv => h v (List.mem_cons_of_mem _ hv))]
    simp only [List.length_cons, List.length_nil]
    omega
theorem ev_entry {As : List ev_V} {nL : Nat} {ls : Array Slot} (hw : As.all (fun v => !ev_wide v) = true) (hn : As.length ≤ nL) (h : lv_has ls nL (lv_args 0 (As.map (ev_dn b B0 σ)))) : ev_lh b B0 σ nL (ev_loc nL As) ls := by
  have hc : ∀ v ∈ As.map (ev_dn b B0 σ), v.category = 1 := fun v hv => by
    obtain ⟨a, ha, rfl⟩ := List.mem_map.mp hv
    exact ev_dn_c (by simpa using List.all_eq_true.mp hw a ha)
  refine ⟨h.1, h.2.1, fun i v hi => ?_⟩
  rw [ev_lg_eq] at hi
  unfold ev_loc at hi
  by_cases hl : i < As.length
  · rw [List.getElem?_append_left (by rw [List.length_map]; exact hl), List.getElem?_map] at hi
    cases hv : As[i]? with
    | none => rw [hv] at hi; cases hi
    | some a =>
      rw [hv] at hi
      have hi : some (some a) = some (some v) := hi
      have e := Option.some.inj (Option.some.inj hi)
      subst e
      have := ev_args_in hc 0 i (ev_dn b B0 σ a) (by rw [List.getElem?_map, hv]; rfl)
      rw [Nat.zero_add] at this
      exact h.2.2 _ this
  · rw [List.getElem?_append_right (by rw [List.length_map]; omega), List.getElem?_replicate] at hi
    split at hi <;> cases hi
/-- a method's contract out of the evaluator's run of it -/
theorem ev_met {n : Nat} (ih : ev_Ok I P Sg Φ D aC b B0 L σ l n) (hP : ∀ i, ev_mok I P Sg i) (hl9 : l.stackTraces = false) {i d : Nat} {As : List ev_V} {w : ev_W} {r2 : ev_S} (hr : ev_run Φ P n d (P i) 0 (ev_loc (P i).1 As) [] w = some r2) (hn : As.length ≤ (P i).1) (hw : As.all (fun v => !ev_wide v) = true) (hw0 : w.2.2.2 = (0, 0)) :
    vx_Met l (I i).1 (ev_wm (I i) (P i).1) (ev_rm d (P i).2.1 (P i).2.2.1) (ev_Pc D aC b B0 L σ Sg As w) (ev_Qc D aC b B0 σ r2) (ev_Xc D aC b B0 σ r2) (P i).2.1 (P i).2.2.1 (ev_A b B0) := by
  obtain ⟨hpl, hcok, hhok, hno, hno2⟩ := hP i
  have hc : ∀ v ∈ As.map (ev_dn b B0 σ), v.category = 1 := fun v hv => by
    obtain ⟨a, ha, rfl⟩ := List.mem_map.mp hv
    exact ev_dn_c (by simpa using List.all_eq_true.mp hw a ha)
  have main : ∀ (p : Program) (e : Env) (s : State) (m : MethodId) (args : Array Value) (below : List Frame) (meth : Method) (c : Code) (s₁ : State), BodyLoose p l (I i).1 (headSpec (ev_wm (I i) (P i).1) (ev_rm d (P i).2.1 (P i).2.2.1)) (I i).2.1 (P i).1 (I i).2.2.1 e s m args below meth c s₁ → c.maxLocals = (P i).1 → c.exceptionTable.toList = tableOf (I i).2.2.2 → ev_Pc D aC b B0 L σ Sg As w args s →
      W p l e (headSpec (ev_wm (I i) (P i).1) (ev_rm d (P i).2.1 (P i).2.2.1)).room s m args below meth c s.heap [] 0 0 (vx_MQ below (ev_Qc D aC b B0 σ r2) (ev_Xc D aC b B0 σ r2) args s (P i).2.1 (P i).2.2.1 (ev_A b B0)) (entryFrame m args (P i).1) := by
    intro p e s m args below meth c s₁ B hml hT hv
    obtain ⟨rfl, hJ, hV, hZ, hbB, hB⟩ := hv
    have hF : ev_Fx D aC b B0 L σ p s m (As.map (ev_dn b B0 σ)).toArray meth c (I i).2.1 (P i).1 (ev_wm (I i) (P i).1) (I i).1.cls Sg :=
      ⟨B.exec, B.bytes, hml, findClass_of_methodNamed B.named, atoms_spec (ws := ev_wm (I i) (P i).1) B.pre, hV, hZ, hbB, hB, B.notSynchronized⟩
    have hname : meth.name = (I i).1.name := (name_of_methodNamed B.named B.method).1
    have hret : meth.sig.returnType = (I i).2.2.1 := B.returns
    have hl0 := lv_entry (As.map (ev_dn b B0 σ)) (n := (P i).1) (by rw [ev_sl_len hc, List.length_map]; exact hn)
    rw [lg_entry_eq]
    generalize (lg_sl (As.map (ev_dn b B0 σ)) ++ List.replicate ((P i).1 - (lg_sl (As.map (ev_dn b B0 σ))).length) Slot.unset).toArray = ls at hl0 ⊢
    have hl := ev_entry hw hn hl0
    have hR : (10 ≤ (ev_rm d (P i).2.1 (P i).2.2.1).frames ∧ 100 ≤ (ev_rm d (P i).2.1 (P i).2.2.1).locals) := ⟨Nat.le_add_right _ _, Nat.le_add_right _ _⟩
    have hMR : (P i).2.1 ≤ (ev_rm d (P i).2.1 (P i).2.2.1).cells ∧ (P i).2.2.1 ≤ (ev_rm d (P i).2.1 (P i).2.2.1).slots := ⟨Nat.le_refl _, Nat.le_refl _⟩
    have hRet : ev_Ret I P Sg Φ D aC b B0 σ p l e (ev_rm d (P i).2.1 (P i).2.2.1) s m (As.map (ev_dn b B0 σ)).toArray below meth c (vx_MQ below (ev_Qc D aC b B0 σ r2) (ev_Xc D aC b B0 σ r2) (As.map (ev_dn b B0 σ)).toArray s (P i).2.1 (P i).2.2.1 (ev_A b B0)) (ev_wm (I i) (P i).1) (I i).1 (I i).2.1 (I i).2.2.1 (P i).1 (P i) r2 := by
      intro op nx a b' c' tg pc loc st w k cl hop hcode hok h
      rcases hop with rfl | rfl | rfl | rfl | rfl | rfl
      · have hh0 : (I i).2.2.2 = [] := by
          cases hz : (I i).2.2.2 with
          | nil => rfl
          | cons q t => exact absurd (by rw [hcode]) (hno (by rw [hz]; exact fun z => by cases z) pc)
        exact ev_o_throw hF hl9 hR hMR (fun x hx => by rw [hT, hh0] at hx; cases hx) rfl (show ev_h_throw Φ (P i) k cl nx a b' c' tg pc loc st w = some r2 from h) hok
      · exact ev_o_vret hF rfl (show ev_h_vret Φ (P i) k cl nx a b' c' tg pc loc st w = some r2 from h) ⟨hok.1, hret.trans hok.2⟩
      · refine ev_o_iret hF rfl (show ev_h_iret Φ (P i) k cl nx a b' c' tg pc loc st w = some r2 from h) ⟨hok.1, ?_⟩
        rw [hret]
        exact hok.2
      · refine ev_o_aret hF rfl (show ev_h_aret Φ (P i) k cl nx a b' c' tg pc loc st w = some r2 from h) ⟨hok.1, ?_⟩
        rw [hret]
        exact hok.2
      · refine ev_o_wret hF rfl (show ev_h_wret Φ (P i) k cl nx a b' c' tg pc loc st w = some r2 from h) ?_
        rw [hret]
        exact hok
      · exact absurd (by rw [hcode]) (hno2 pc)
    have hOut : ev_Out D aC b B0 σ p l e (ev_rm d (P i).2.1 (P i).2.2.1) s m (As.map (ev_dn b B0 σ)).toArray below meth c (vx_MQ below (ev_Qc D aC b B0 σ r2) (ev_Xc D aC b B0 σ r2) (As.map (ev_dn b B0 σ)).toArray s (P i).2.1 (P i).2.2.1 (ev_A b B0)) (I i).1.cls (P i) r2 := by
      intro E w H locs ls rest pc q ce hE hr2 hmay hJ hS hpass hq hv hcl
      obtain ⟨m1, m2⟩ := ev_may0 hmay
      exact vx_outP hF.2.2.2.1 B.notSynchronized hpass hq hv hcl (fun t ht hv => ⟨E, w, hr2, rfl, hE, by rw [ht]; exact hJ, hS.F ht⟩) hS.2.2 m1 m2
    have go := ih p e (ev_rm d (P i).2.1 (P i).2.2.1) s m (As.map (ev_dn b B0 σ)).toArray below meth c _ (ev_wm (I i) (P i).1) (I i).1 (I i).2.1 (I i).2.2.1 (I i).2.2.2 (P i).1 d (P i) r2
      ⟨hF, fun x hx => List.mem_cons_of_mem _ hx, hcok, hname, hhok, hT, hMR, ⟨Nat.le_refl _, Nat.le_refl _⟩, hRet, hOut⟩ 0 (ev_loc (P i).1 As) [] w hr s.heap [] ls hl hJ va_S.rf
    rw [hw0] at go
    exact go
  cases hz : (I i).2.2.2 with
  | nil =>
    have hcw : ev_wm (I i) (P i).1 = Cond.code (I i).1 (I i).2.1 (P i).1 (I i).2.2.1 :: ev_UW := by
      unfold ev_wm ev_cw
      rw [hz]
    refine vx_ofW hpl hcw fun p e s m args below meth c s₁ B hml hT hv => main p e s m args below meth c s₁ B hml ?_ hv
    rw [hz]
    cases ht : c.exceptionTable.toList with
    | nil => rfl
    | cons x t => exact (hT x (by rw [ht]; exact List.mem_cons_self)).elim
  | cons q t =>
    have hcw : ev_wm (I i) (P i).1 = Cond.codeWith (I i).1 (I i).2.1 (P i).1 (I i).2.2.1 (q :: t) :: ev_UW := by
      unfold ev_wm ev_cw
      rw [hz]
    refine vx_ofWH hpl hcw fun p e s m args below meth c s₁ B hml hv => main p e s m args below meth c s₁ B hml ?_ hv
    rw [hz]
    exact vx_table (x := (I i).1) B (atoms_spec (ws := ev_wm (I i) (P i).1) B.pre _ (by rw [hcw]; exact List.mem_cons_self))
theorem ev_exec_eq (Φ : ev_P) (M : ev_M) (k : ev_N) (cl : ev_F) (x : ev_E) (pc : Nat) (loc : ev_L) (st : List ev_V) (w : ev_W) : ev_exec Φ M k cl x pc loc st w = ev_sel x.1 Φ M k cl x.2.1 x.2.2.1 x.2.2.2.1 x.2.2.2.2.1 x.2.2.2.2.2 pc loc st w := rfl
theorem ev_call_none {M : ev_M} {k : ev_N} {cl : ev_F} {nx a b' c' pc : Nat} {tg : List Nat} {loc : ev_L} {st : List ev_V} {w : ev_W} {r : ev_S} (hcl : ∀ a As w, cl a As w = none) (h : ev_h_call Φ M k cl nx a b' c' tg pc loc st w = some r) : False := by
  unfold ev_h_call at h
  split at h
  · split at h
    · obtain ⟨h1, h⟩ := ev_if_n h
      obtain ⟨h2, h⟩ := ev_if_n h
      rw [hcl] at h
      cases h
    · cases h
  · cases h
theorem ev_main (hP : ∀ i, ev_mok I P Sg i) (hl9 : l.stackTraces = false) (hcast : ∀ i, i < 4 → Cond.castable (ev_ex i) (ev_ex i) ∈ lw_tbl) (hΦ : ev_FO Φ σ) (hL : Φ.1 ≤ 5000 → Φ.1 = L) : ∀ n, ev_Ok I P Sg Φ D aC b B0 L σ l n := by
  intro n
  induction n with
  | zero => exact fun p e R s m args below meth c Q Ts y cc ret hh nL d M r _ pc loc st w h => absurd h (fun z => by cases z)
  | succ n ih =>
    intro p e R s m args below meth c Q Ts y cc ret hh nL d M r hFr pc loc st w h
    obtain ⟨hF, hTs, hcok, hname, hhok, hT, hMR, hRd, hRet, hOut⟩ := id hFr
    have hk : ∀ pc loc st w, ev_run Φ P n d M pc loc st w = some r → ev_Go D aC b B0 σ p l e R s m args below meth c Q nL pc loc st w := ih p e R s m args below meth c Q Ts y cc ret hh nL d M r hFr
    have h : ev_exec Φ M (ev_run Φ P n d M) (fun mi As w => Nat.rec (motive := fun _ => ev_R) none (fun d' _ => ev_run Φ P n d' (P mi) 0 (ev_loc (P mi).1 As) [] w) d) (M.2.2.2.2 pc) pc loc st w = some r := h
    rw [ev_exec_eq] at h
    have hst : ∀ pc nx a tg, (M.2.2.2.2 pc) = (10, (nx, (a, tg))) → ev_i_st cc nL pc nx a .astore .astore_n := fun pc nx a tg hc => by
      have := hcok pc
      rw [hc] at this
      exact this
    have hok := hcok pc
    have hR1 : 1 ≤ R.frames ∧ 100 ≤ R.locals := ⟨by omega, by omega⟩
    generalize hx : M.2.2.2.2 pc = x at h hok
    obtain ⟨op, nx, a, b', c', tg⟩ := x
    dsimp only at h hok
    match op, h, hok, hx with
    | 0, h, _, _ => exact absurd h (fun z => by cases z)
    | 1, h, hok, _ => exact ev_o_int hF hk (show ev_h_int Φ M (ev_run Φ P n d M) (fun mi As w => Nat.rec (motive := fun _ => ev_R) none (fun d' _ => ev_run Φ P n d' (P mi) 0 (ev_loc (P mi).1 As) [] w) d) nx a b' c' tg pc loc st w = some r from h) hok
    | 2, h, hok, _ => exact ev_o_null hF hk (show ev_h_null Φ M (ev_run Φ P n d M) (fun mi As w => Nat.rec (motive := fun _ => ev_R) none (fun d' _ => ev_run Φ P n d' (P mi) 0 (ev_loc (P mi).1 As) [] w) d) nx a b' c' tg pc loc st w = some r from h) hok
    | 3, h, hok, _ => exact ev_o_wide hF hk (show ev_h_wide Φ M (ev_run Φ P n d M) (fun mi As w => Nat.rec (motive := fun _ => ev_R) none (fun d' _ => ev_run Φ P n d' (P mi) 0 (ev_loc (P mi).1 As) [] w) d) nx a b' c' tg pc loc st w = some r from h) hok
    | 6, h, hok, _ => exact ev_o_iload hF hk (show ev_h_iload Φ M (ev_run Φ P n d M) (fun mi As w => Nat.rec (motive := fun _ => ev_R) none (fun d' _ => ev_run Φ P n d' (P mi) 0 (ev_loc (P mi).1 As) [] w) d) nx a b' c' tg pc loc st w = some r from h) hok
    | 7, h, hok, _ => exact ev_o_aload hF hk (show ev_h_aload Φ M (ev_run Φ P n d M) (fun mi As w => Nat.rec (motive := fun _ => ev_R) none (fun d' _ => ev_run Φ P n d' (P mi) 0 (ev_loc (P mi).1 As) [] w) d) nx a b' c' tg pc loc st w = some r from h) hok
    | 8, h, hok, _ => exact ev_o_dload hF hk (show ev_h_dload Φ M (ev_run Φ P n d M) (fun mi As w => Nat.rec (motive := fun _ => ev_R) none (fun d' _ => ev_run Φ P n d' (P mi) 0 (ev_loc (P mi).1 As) [] w) d) nx a b' c' tg pc loc st w = some r from h) hok
    | 9, h, hok, _ => exact ev_o_istore hF hk (show ev_h_istore Φ M (ev_run Φ P n d M) (fun mi As w => Nat.rec (motive := fun _ => ev_R) none (fun d' _ => ev_run Φ P n d' (P mi) 0 (ev_loc (P mi).1 As) [] w) d) nx a b' c' tg pc loc st w = some r from h) hok
    | 10, h, hok, _ => exact ev_o_astore hF hk (show ev_h_astore Φ M (ev_run Φ P n d M) (fun mi As w => Nat.rec (motive := fun _ => ev_R) none (fun d' _ => ev_run Φ P n d' (P mi) 0 (ev_loc (P mi).1 As) [] w) d) nx a b' c' tg pc loc st w = some r from h) hok
    | 11, h, hok, _ => exact ev_o_dstore hF hk (show ev_h_dstore Φ M (ev_run Φ P n d M) (fun mi As w => Nat.rec (motive := fun _ => ev_R) none (fun d' _ => ev_run Φ P n d' (P mi) 0 (ev_loc (P mi).1 As) [] w) d) nx a b' c' tg pc loc st w = some r from h) hok
    | 12, h, hok, _ => exact ev_o_iinc hF hk (show ev_h_iinc Φ M (ev_run Φ P n d M) (fun mi As w => Nat.rec (motive := fun _ => ev_R) none (fun d' _ => ev_run Φ P n d' (P mi) 0 (ev_loc (P mi).1 As) [] w) d) nx a b' c' tg pc loc st w = some r from h) hok
    | 13, h, hok, _ => exact ev_o_iadd hF hk (show ev_h_iadd Φ M (ev_run Φ P n d M) (fun mi As w => Nat.rec (motive := fun _ => ev_R) none (fun d' _ => ev_run Φ P n d' (P mi) 0 (ev_loc (P mi).1 As) [] w) d) nx a b' c' tg pc loc st w = some r from h) hok
    | 14, h, hok, _ => exact ev_o_isub hF hk (show ev_h_isub Φ M (ev_run Φ P n d M) (fun mi As w => Nat.rec (motive := fun _ => ev_R) none (fun d' _ => ev_run Φ P n d' (P mi) 0 (ev_loc (P mi).1 As) [] w) d) nx a b' c' tg pc loc st w = some r from h) hok
    | 15, h, hok, _ => exact ev_o_ibin hF hk (show ev_h_ibin Φ M (ev_run Φ P n d M) (fun mi As w => Nat.rec (motive := fun _ => ev_R) none (fun d' _ => ev_run Φ P n d' (P mi) 0 (ev_loc (P mi).1 As) [] w) d) nx a b' c' tg pc loc st w = some r from h) hok
    | 16, h, hok, _ => exact ev_o_if0 hF hΦ hk (show ev_h_if0 Φ M (ev_run Φ P n d M) (fun mi As w => Nat.rec (motive := fun _ => ev_R) none (fun d' _ => ev_run Φ P n d' (P mi) 0 (ev_loc (P mi).1 As) [] w) d) nx a b' c' tg pc loc st w = some r from h) hok
    | 17, h, hok, _ => exact ev_o_icmp hF hΦ hk (show ev_h_icmp Φ M (ev_run Φ P n d M) (fun mi As w => Nat.rec (motive := fun _ => ev_R) none (fun d' _ => ev_run Φ P n d' (P mi) 0 (ev_loc (P mi).1 As) [] w) d) nx a b' c' tg pc loc st w = some r from h) hok
    | 18, h, hok, _ => exact ev_o_acmp hF hk (show ev_h_acmp Φ M (ev_run Φ P n d M) (fun mi As w => Nat.rec (motive := fun _ => ev_R) none (fun d' _ => ev_run Φ P n d' (P mi) 0 (ev_loc (P mi).1 As) [] w) d) nx a b' c' tg pc loc st w = some r from h) hok
    | 19, h, hok, _ => exact ev_o_isnull hF hk (show ev_h_isnull Φ M (ev_run Φ P n d M) (fun mi As w => Nat.rec (motive := fun _ => ev_R) none (fun d' _ => ev_run Φ P n d' (P mi) 0 (ev_loc (P mi).1 As) [] w) d) nx a b' c' tg pc loc st w = some r from h) hok
    | 20, h, hok, _ => exact ev_o_goto hF hk (show ev_h_goto Φ M (ev_run Φ P n d M) (fun mi As w => Nat.rec (motive := fun _ => ev_R) none (fun d' _ => ev_run Φ P n d' (P mi) 0 (ev_loc (P mi).1 As) [] w) d) nx a b' c' tg pc loc st w = some r from h) hok
    | 21, h, hok, _ => exact ev_o_dup hF hk (show ev_h_dup Φ M (ev_run Φ P n d M) (fun mi As w => Nat.rec (motive := fun _ => ev_R) none (fun d' _ => ev_run Φ P n d' (P mi) 0 (ev_loc (P mi).1 As) [] w) d) nx a b' c' tg pc loc st w = some r from h) hok
    | 22, h, hok, _ => exact ev_o_dup2 hF hk (show ev_h_dup2 Φ M (ev_run Φ P n d M) (fun mi As w => Nat.rec (motive := fun _ => ev_R) none (fun d' _ => ev_run Φ P n d' (P mi) 0 (ev_loc (P mi).1 As) [] w) d) nx a b' c' tg pc loc st w = some r from h) hok
    | 23, h, hok, _ => exact ev_o_pop hF hk (show ev_h_pop Φ M (ev_run Φ P n d M) (fun mi As w => Nat.rec (motive := fun _ => ev_R) none (fun d' _ => ev_run Φ P n d' (P mi) 0 (ev_loc (P mi).1 As) [] w) d) nx a b' c' tg pc loc st w = some r from h) hok
    | 24, h, hok, _ => exact ev_o_getf hF hk (show ev_h_getf Φ M (ev_run Φ P n d M) (fun mi As w => Nat.rec (motive := fun _ => ev_R) none (fun d' _ => ev_run Φ P n d' (P mi) 0 (ev_loc (P mi).1 As) [] w) d) nx a b' c' tg pc loc st w = some r from h) hok
    | 25, h, hok, _ =>
      refine ev_o_putf hF hk (show ev_h_putf Φ M (ev_run Φ P n d M) (fun mi As w => Nat.rec (motive := fun _ => ev_R) none (fun d' _ => ev_run Φ P n d' (P mi) 0 (ev_loc (P mi).1 As) [] w) d) nx a b' c' tg pc loc st w = some r from h) ?_
      rw [hname]
      exact hok
    | 26, h, hok, _ => exact ev_o_alen hF hL hk (show ev_h_alen Φ M (ev_run Φ P n d M) (fun mi As w => Nat.rec (motive := fun _ => ev_R) none (fun d' _ => ev_run Φ P n d' (P mi) 0 (ev_loc (P mi).1 As) [] w) d) nx a b' c' tg pc loc st w = some r from h) hok
    | 27, h, hok, _ => exact ev_o_iald hF hL hΦ hk (show ev_h_iald Φ M (ev_run Φ P n d M) (fun mi As w => Nat.rec (motive := fun _ => ev_R) none (fun d' _ => ev_run Φ P n d' (P mi) 0 (ev_loc (P mi).1 As) [] w) d) nx a b' c' tg pc loc st w = some r from h) hok
    | 28, h, hok, _ => exact ev_o_iast hF hk (show ev_h_iast Φ M (ev_run Φ P n d M) (fun mi As w => Nat.rec (motive := fun _ => ev_R) none (fun d' _ => ev_run Φ P n d' (P mi) 0 (ev_loc (P mi).1 As) [] w) d) nx a b' c' tg pc loc st w = some r from h) hok
    | 29, h, hok, _ => exact ev_o_ald hF hk (show ev_h_ald Φ M (ev_run Φ P n d M) (fun mi As w => Nat.rec (motive := fun _ => ev_R) none (fun d' _ => ev_run Φ P n d' (P mi) 0 (ev_loc (P mi).1 As) [] w) d) nx a b' c' tg pc loc st w = some r from h) hok
    | 30, h, hok, _ => exact ev_o_bast hF hk (show ev_h_bast Φ M (ev_run Φ P n d M) (fun mi As w => Nat.rec (motive := fun _ => ev_R) none (fun d' _ => ev_run Φ P n d' (P mi) 0 (ev_loc (P mi).1 As) [] w) d) nx a b' c' tg pc loc st w = some r from h) hok
    | 31, h, hok, _ => exact ev_o_last hF hk (show ev_h_last Φ M (ev_run Φ P n d M) (fun mi As w => Nat.rec (motive := fun _ => ev_R) none (fun d' _ => ev_run Φ P n d' (P mi) 0 (ev_loc (P mi).1 As) [] w) d) nx a b' c' tg pc loc st w = some r from h) hok
    | 32, h, hok, _ => exact ev_o_aast hF hk (show ev_h_aast 3 5 Φ M (ev_run Φ P n d M) (fun mi As w => Nat.rec (motive := fun _ => ev_R) none (fun d' _ => ev_run Φ P n d' (P mi) 0 (ev_loc (P mi).1 As) [] w) d) nx a b' c' tg pc loc st w = some r from h) hok
    | 33, h, hok, _ => exact ev_o_new hF hMR hk (show ev_h_new Φ M (ev_run Φ P n d M) (fun mi As w => Nat.rec (motive := fun _ => ev_R) none (fun d' _ => ev_run Φ P n d' (P mi) 0 (ev_loc (P mi).1 As) [] w) d) nx a b' c' tg pc loc st w = some r from h) hok
    | 34, h, hok, _ => exact ev_o_newa hF hMR hk (show ev_h_newa Φ M (ev_run Φ P n d M) (fun mi As w => Nat.rec (motive := fun _ => ev_R) none (fun d' _ => ev_run Φ P n d' (P mi) 0 (ev_loc (P mi).1 As) [] w) d) nx a b' c' tg pc loc st w = some r from h) hok
    | 35, h, hok, _ =>
      cases d with
      | zero => exact (ev_call_none (fun _ _ _ => rfl) (show ev_h_call Φ M (ev_run Φ P n 0 M) (fun mi As w => Nat.rec (motive := fun _ => ev_R) none (fun d' _ => ev_run Φ P n d' (P mi) 0 (ev_loc (P mi).1 As) [] w) 0) nx a b' c' tg pc loc st w = some r from h)).elim
      | succ d =>
        exact ev_o_call (d := d) hF hcast hTs ⟨by omega, by omega⟩ hMR hk hst hhok hT hOut (fun As w r2 h2 h3 h4 h5 => ev_met ih hP hl9 h2 h3 h4 h5) (show ev_h_call Φ M (ev_run Φ P n (d + 1) M) (fun mi As w => Nat.rec (motive := fun _ => ev_R) none (fun d' _ => ev_run Φ P n d' (P mi) 0 (ev_loc (P mi).1 As) [] w) (d + 1)) nx a b' c' tg pc loc st w = some r from h) hok
    | 36, h, hok, _ => exact ev_o_objinit hF hR1 hk (show ev_h_objinit Φ M (ev_run Φ P n d M) (fun mi As w => Nat.rec (motive := fun _ => ev_R) none (fun d' _ => ev_run Φ P n d' (P mi) 0 (ev_loc (P mi).1 As) [] w) d) nx a b' c' tg pc loc st w = some r from h) hok
    | 37, h, hok, hx => exact hRet _ _ _ _ _ _ _ _ _ _ _ _ (Or.inl rfl) hx hok h
    | 38, h, hok, hx => exact hRet _ _ _ _ _ _ _ _ _ _ _ _ (Or.inr (Or.inl rfl)) hx hok h
    | 39, h, hok, hx => exact hRet _ _ _ _ _ _ _ _ _ _ _ _ (Or.inr (Or.inr (Or.inl rfl))) hx hok h
    | 40, h, hok, hx => exact hRet _ _ _ _ _ _ _ _ _ _ _ _ (Or.inr (Or.inr (Or.inr (Or.inl rfl)))) hx hok h
    | 41, h, hok, hx => exact hRet _ _ _ _ _ _ _ _ _ _ _ _ (Or.inr (Or.inr (Or.inr (Or.inr (Or.inl rfl))))) hx hok h
    | 42, h, hok, _ => exact ev_o_switch hF hΦ hk (show ev_h_switch Φ M (ev_run Φ P n d M) (fun mi As w => Nat.rec (motive := fun _ => ev_R) none (fun d' _ => ev_run Φ P n d' (P mi) 0 (ev_loc (P mi).1 As) [] w) d) nx a b' c' tg pc loc st w = some r from h) hok
    | 43, h, hok, _ => exact ev_o_cv hF hk (show ev_h_cv Φ M (ev_run Φ P n d M) (fun mi As w => Nat.rec (motive := fun _ => ev_R) none (fun d' _ => ev_run Φ P n d' (P mi) 0 (ev_loc (P mi).1 As) [] w) d) nx a b' c' tg pc loc st w = some r from h) hok
    | 44, h, hok, _ => exact ev_o_w2 hF hR1 hMR hk (show ev_h_w2 Φ M (ev_run Φ P n d M) (fun mi As w => Nat.rec (motive := fun _ => ev_R) none (fun d' _ => ev_run Φ P n d' (P mi) 0 (ev_loc (P mi).1 As) [] w) d) nx a b' c' tg pc loc st w = some r from h) hok
    | 45, h, hok, _ => exact ev_o_copy hF hR1 hk (show ev_h_copy Φ M (ev_run Φ P n d M) (fun mi As w => Nat.rec (motive := fun _ => ev_R) none (fun d' _ => ev_run Φ P n d' (P mi) 0 (ev_loc (P mi).1 As) [] w) d) nx a b' c' tg pc loc st w = some r from h) hok
    | 46, h, hok, hx => exact hRet _ _ _ _ _ _ _ _ _ _ _ _ (Or.inr (Or.inr (Or.inr (Or.inr (Or.inr rfl))))) hx hok h
    | 47, h, hok, _ => exact ev_o_idiv hF hk (show ev_h_idiv Φ M (ev_run Φ P n d M) (fun mi As w => Nat.rec (motive := fun _ => ev_R) none (fun d' _ => ev_run Φ P n d' (P mi) 0 (ev_loc (P mi).1 As) [] w) d) nx a b' c' tg pc loc st w = some r from h) hok
    | 48, h, hok, _ => exact ev_o_iand63 hF hk (show ev_h_iand63 Φ M (ev_run Φ P n d M) (fun mi As w => Nat.rec (motive := fun _ => ev_R) none (fun d' _ => ev_run Φ P n d' (P mi) 0 (ev_loc (P mi).1 As) [] w) d) nx a b' c' tg pc loc st w = some r from h) hok
    | 4, _, hok, _ => exact hok.elim
    | 5, _, hok, _ => exact hok.elim
    | 49, h, hok, _ => exact ev_o_ldcs hF hk (show ev_h_ldcs Φ M (ev_run Φ P n d M) (fun mi As w => Nat.rec (motive := fun _ => ev_R) none (fun d' _ => ev_run Φ P n d' (P mi) 0 (ev_loc (P mi).1 As) [] w) d) nx a b' c' tg pc loc st w = some r from h) hok
    | 50, h, hok, _ => exact ev_o_slen hF hTs ⟨by omega, by omega⟩ hMR hk (show ev_h_slen Φ M (ev_run Φ P n d M) (fun mi As w => Nat.rec (motive := fun _ => ev_R) none (fun d' _ => ev_run Φ P n d' (P mi) 0 (ev_loc (P mi).1 As) [] w) d) nx a b' c' tg pc loc st w = some r from h) hok
    | 51, h, hok, _ => exact ev_o_chat hF hTs ⟨by omega, by omega⟩ hMR hk (show ev_h_chat Φ M (ev_run Φ P n d M) (fun mi As w => Nat.rec (motive := fun _ => ev_R) none (fun d' _ => ev_run Φ P n d' (P mi) 0 (ev_loc (P mi).1 As) [] w) d) nx a b' c' tg pc loc st w = some r from h) hok
    | k + 52, _, hok, _ => exact hok.elim
end EVW
