/-! ===== the evaluator is right: a run of it is a run of the machine (own work) ===== -/
section EVZ
variable {D : va_G} {aC : Nat → ClassId} {b : ev_B} {B0 L : Nat} {σ : Nat → Int32}
variable {p : Program} {l : Launch} {e : Env} {R : Room} {s : State} {m : MethodId} {args : Array Value} {below : List Frame} {meth : Method} {c : Code} {Q : State → Prop}
variable {cc : ByteArray} {nL : Nat} {Ts : List Cond} {own : String} {Sg : List (String × (Nat × String))}
variable {Φ : ev_P} {M : ev_M} {k : ev_N} {cl : ev_F} {nx a b' c' pc : Nat} {tg : List Nat} {loc : ev_L} {st : List ev_V} {w : ev_W} {r : ev_S}
variable {I : Nat → ev_Im} {P : Nat → ev_M}
/-- an exception leaves this frame well -/
def ev_Out (D : va_G) (aC : Nat → ClassId) (b : ev_B) (B0 : Nat) (σ : Nat → Int32) (p : Program) (l : Launch) (e : Env) (R : Room) (s : State) (m : MethodId) (args : Array Value) (below : List Frame) (meth : Method) (c : Code) (Q : State → Prop) (own : String) (M : ev_M) (r : ev_S) : Prop :=
  ∀ (E : Nat) (w : ev_W) (H : Heap) (locs : List Loc) (ls : Array Slot) (rest : List Value) (pc q : Nat) (ce : Cell), E < 4 → r = .inr (.inl (E, w)) → ev_may M w 0 0 = true → ev_J D aC b B0 σ w H → va_S (ev_A b B0) s.heap H locs →
    (∀ z ∈ c.exceptionTable.toList, covers z pc = false ∨ (z.catchType ≠ 0 ∧ ∃ nm : String, (Cond.classLink own z.catchType nm).before args s = true ∧ va_Nc (ev_ex E) nm s)) → H[q]? = some ce → ce.vm = .none → s.vm.findClass (ev_ex E) = some ce.cls →
    vx_W p l e R s m args below meth c H locs w.2.2.2.1 w.2.2.2.2 Q (F0 m pc ls rest) q
theorem ev_exc_ok {hh : List (Nat × Nat × Nat × Nat)} {E : Nat} {H : Heap} {locs : List Loc} {ls : Array Slot} {rest : List Value} {q : Nat} {ce : Cell} (hF : ev_Fx D aC b B0 L σ p s m args meth c cc nL Ts own Sg) (hcast : ∀ i, i < 4 → Cond.castable (ev_ex i) (ev_ex i) ∈ lw_tbl)
    (hk : ∀ pc loc st w, k pc loc st w = some r → ev_Go D aC b B0 σ p l e R s m args below meth c Q nL pc loc st w) (hst : ∀ pc nx a tg, (M.2.2.2.2 pc) = (10, (nx, (a, tg))) → ev_i_st cc nL pc nx a .astore .astore_n) (hh9 : ev_hok own Ts hh M.2.2.2.1) (hT : c.exceptionTable.toList = tableOf hh)
    (hOut : ev_Out D aC b B0 σ p l e R s m args below meth c Q own M r) (h : ev_exc M k pc E loc w = some r) (hE : E < 4) (hl : ev_lh b B0 σ nL loc ls) (hJ : ev_J D aC b B0 σ w H) (hS : va_S (ev_A b B0) s.heap H locs) (hq : H[q]? = some ce) (hv : ce.vm = .none) (hcl : s.vm.findClass (ev_ex E) = some ce.cls) :
    vx_W p l e R s m args below meth c H locs w.2.2.2.1 w.2.2.2.2 Q (F0 m pc ls rest) q := by
  obtain ⟨hx, hb, hml, ho, ht, hV, -⟩ := id hF
  obtain ⟨cn, e1, e2⟩ := hh9
  obtain ⟨f1, f2⟩ := ev_hd_ok (cn := cn) (E := E) (pc := pc) hE ht hV hh e2
  unfold ev_exc at h
  rw [e1] at h
  split at h
  · next hn =>
    obtain ⟨h1, h⟩ := ev_if_n h
    exact hOut E w H locs ls rest pc q ce hE (Option.some.inj h).symm h1 hJ hS (by rw [hT]; exact f1 hn) hq hv hcl
  · next hp hn =>
    split at h
    next op nx9 a9 tg9 hcode =>
    obtain ⟨h1, h9⟩ := ev_if_n h
    rw [Bool.and_eq_true] at h1
    have hop := Nat.eq_of_beq_eq_true h1.1
    subst hop
    obtain ⟨hi, ha⟩ := hst hp nx9 a9 tg9 hcode
    obtain ⟨pre, x, suf, g1, g2, g3, g4, g5, g6⟩ := f2 hp hn
    refine vx_catch ho pre x suf (by rw [hT]; exact g1) g2 g3 g4 g5 (va_Nw.use rfl (hV.2.1 _ (hcast E hE) rfl)) hq hv hcl ?_
    rw [g6]
    have go : ∀ ls' : Array Slot, lv_has ls' nL ((a9, Value.ref q) :: (ev_ll b B0 σ loc).filter (fun q => !(q.1 == a9) && !(q.1 + 1 == a9 && q.2.category == 2))) → W p l e R s m args below meth c H locs w.2.2.2.1 w.2.2.2.2 Q (F0 m nx9 ls' []) :=
      fun ls' h' => hk _ _ _ _ h9 H locs ls' (ev_lh_st1 (o := none) h1.2 (fun v' e' => by cases e') h') hJ hS
    rcases hi with ⟨d, rfl⟩ | ⟨n, d, hn, rfl⟩
    · exact lv_astore hx hb d (ev_lh_has hl) ha rfl go
    · exact lv_astore_n hx hb d hn (ev_lh_has hl) ha rfl go
theorem ev_rc_ok {ci : Nat} {As : List ev_V} (h : ev_rc (ci + 1) As w = true) : ∃ i As' q, As = .inr (.inl (some i)) :: As' ∧ ev_get w.1 i = some q ∧ q.1 = ci := by
  match As, h with
  | .inr (.inl (some i)) :: As', h =>
    have h : (match ev_get w.1 i with
      | some q => Nat.beq q.1 ci
      | none => false) = true := h
    cases hq : ev_get w.1 i with
    | none => rw [hq] at h; cases h
    | some q => rw [hq] at h; exact ⟨i, As', q, rfl, hq, Nat.eq_of_beq_eq_true h⟩
  | [], h => exact absurd h (fun z => by cases z)
  | .inl _ :: _, h => exact absurd h (fun z => by cases z)
  | .inr (.inl none) :: _, h => exact absurd h (fun z => by cases z)
  | .inr (.inr _) :: _, h => exact absurd h (fun z => by cases z)
theorem ev_uw {x : Cond} (h : x ∈ ev_UW) : x ∈ lw_tbl ∧ goodWord x = true := List.mem_filter.mp h
theorem ev_good {ws : List Cond} (hTs : ∀ x ∈ ev_UW, x ∈ Ts) (h : ∀ x ∈ ws, x ∈ ev_UW) : GoodIn Ts ws := fun x hx => ⟨hTs x (h x hx), good_of_word (ev_uw (h x hx)).2⟩
theorem ev_wm_in {x : ev_Im} {n : Nat} (h : ev_cw x n ∈ ev_UW) : ∀ y ∈ ev_wm x n, y ∈ ev_UW := fun y hy => by
  rcases List.mem_cons.mp hy with rfl | hy
  · exact h
  · exact hy
theorem ev_o_call {hh : List (Nat × Nat × Nat × Nat)} {d : Nat} (hF : ev_Fx D aC b B0 L σ p s m args meth c cc nL Ts own Sg) (hcast : ∀ i, i < 4 → Cond.castable (ev_ex i) (ev_ex i) ∈ lw_tbl) (hTs : ∀ x ∈ ev_UW, x ∈ Ts) (hR : 11 + d ≤ R.frames ∧ 170 + 70 * d ≤ R.locals) (hMR : M.2.1 ≤ R.cells ∧ M.2.2.1 ≤ R.slots)
    (hk : ∀ pc loc st w, k pc loc st w = some r → ev_Go D aC b B0 σ p l e R s m args below meth c Q nL pc loc st w) (hst : ∀ pc nx a tg, (M.2.2.2.2 pc) = (10, (nx, (a, tg))) → ev_i_st cc nL pc nx a .astore .astore_n) (hh9 : ev_hok own Ts hh M.2.2.2.1) (hT : c.exceptionTable.toList = tableOf hh)
    (hOut : ev_Out D aC b B0 σ p l e R s m args below meth c Q own M r)
    (hM : ∀ (As : List ev_V) (w : ev_W) (r2 : ev_S), cl a As w = some r2 → As.length ≤ (P a).1 → As.all (fun v => !ev_wide v) = true → w.2.2.2 = (0, 0) → vx_Met l (I a).1 (ev_wm (I a) (P a).1) (ev_rm d (P a).2.1 (P a).2.2.1) (ev_Pc D aC b B0 L σ Sg As w) (ev_Qc D aC b B0 σ r2) (ev_Xc D aC b B0 σ r2) (P a).2.1 (P a).2.2.1 (ev_A b B0))
    (h : ev_h_call Φ M k cl nx a b' c' tg pc loc st w = some r) (hi : ev_i_call I P cc own pc nx a b' c' tg) : ev_Go D aC b B0 σ p l e R s m args below meth c Q nL pc loc st w := by
  obtain ⟨hx, hb, hml, ho, ht, hV, hZ, hbB, hB, hlk⟩ := id hF
  obtain ⟨ix, n, rfl, rfl, hm51, hbP, hcw, hini, hnm, hown9, hi⟩ := hi
  unfold ev_h_call at h
  split at h
  · next As rr hsp =>
    obtain ⟨tk, t1, t2, t3⟩ := ev_sp_ok _ _ _ _ _ hsp
    rw [List.append_nil] at t3
    have h : ev_if (Nat.ble (ev_cs rr) 8 && (ev_may M w (P a).2.1 (P a).2.2.1 && As.all (fun v => !ev_wide v))) (ev_if (ev_rc c' As w) (ev_cont M k (pc + 3) pc loc rr w (P a).2.1 (P a).2.2.1 (cl a As (w.1, (w.2.1, (w.2.2.1, (0, 0)))))) none) none = some r := h
    obtain ⟨h1, h⟩ := ev_if_n h
    obtain ⟨h2, h⟩ := ev_if_n h
    rw [Bool.and_eq_true, Bool.and_eq_true] at h1
    have k1 := Nat.le_of_ble_eq_true h1.1
    have k2 := ev_cs_ok (b := b) (B0 := B0) (σ := σ) rr
    have k3 := ev_may_ok h1.2.1 hMR
    obtain ⟨r2, hr2⟩ : ∃ r2, cl a As (w.1, (w.2.1, (w.2.2.1, (0, 0)))) = some r2 := by
      cases hc : cl a As (w.1, (w.2.1, (w.2.2.1, (0, 0)))) with
      | none => rw [hc] at h; cases h
      | some r2 => exact ⟨r2, rfl⟩
    rw [hr2] at h
    have hlen : As.length = b' := by rw [t3, List.length_reverse, t2]
    have hMet := hM As _ r2 hr2 (by rw [hlen]; exact hbP) h1.2.2 rfl
    intro H locs ls hl hJ hS
    have hPc : ∀ U : State, U.heap = H → s.WarmedH U.vm → ev_Pc D aC b B0 L σ Sg As (w.1, (w.2.1, (w.2.2.1, (0, 0)))) (As.map (ev_dn b B0 σ)).toArray U := fun U hU hW =>
      ⟨rfl, by rw [hU]; exact hJ, ev_VF_warm hW hV, by rw [hU]; exact ev_ZF_to hbB hW hZ hS, hbB, by rw [hU]; exact Nat.le_trans (Nat.le_add_right _ _) hJ.2.1⟩
    have hret : ∀ vo w2 (H1 : Heap) (locs1 : List Loc), r2 = .inl (vo, w2) → ev_J D aC b B0 σ w2 H1 → va_S (ev_A b B0) s.heap H1 locs1 → W p l e R s m args below meth c H1 locs1 (w.2.2.2.1 + (P a).2.1) (w.2.2.2.2 + (P a).2.2.1) Q (F0 m (pc + 3) ls ((vo.map (ev_dn b B0 σ)).toList ++ rr.map (ev_dn b B0 σ))) := by
      intro vo w2 H1 locs1 e1 g1 g2
      subst e1
      cases vo with
      | none => exact hk _ _ _ _ h H1 locs1 ls hl g1 g2
      | some v => exact hk _ _ _ _ h H1 locs1 ls hl g1 g2
    have hthr : ∀ n w2 (H1 : Heap) (locs1 : List Loc) (q : Nat) (ce : Cell), r2 = .inr (.inl (n, w2)) → n < 4 → ev_J D aC b B0 σ w2 H1 → va_S (ev_A b B0) s.heap H1 locs1 → H1[q]? = some ce → ce.vm = .none → s.vm.findClass (ev_ex n) = some ce.cls → vx_W p l e R s m args below meth c H1 locs1 (w.2.2.2.1 + (P a).2.1) (w.2.2.2.2 + (P a).2.2.1) Q (F0 m pc ls (rr.map (ev_dn b B0 σ))) q := by
      intro n w2 H1 locs1 q ce e1 hn4 g1 g2 g3 g4 g5
      subst e1
      exact ev_exc_ok (w := ev_back w w2 (P a).2.1 (P a).2.2.1) hF hcast hk hst hh9 hT hOut h hn4 hl g1 g2 g3 g4 g5
    have hstack : st.map (ev_dn b B0 σ) = (As.map (ev_dn b B0 σ)).reverse ++ rr.map (ev_dn b B0 σ) := by
      rw [t1, t3, List.map_append, List.map_reverse, List.reverse_reverse]
    have hW9 : 2 * (F0 m pc ls (st.map (ev_dn b B0 σ))).monitorRoom + ((rr.map (ev_dn b B0 σ)).map fun v => v.category).sum ≤ 8 := by
      show 2 * 0 + _ ≤ 8
      omega
    have hGood : GoodIn Ts (ev_wm (I a) (P a).1) := ev_good hTs (ev_wm_in hcw)
    have hroom : (ev_rm d (P a).2.1 (P a).2.2.1).frames + 1 ≤ R.frames ∧ 8 + ((P a).1 + 11) + (ev_rm d (P a).2.1 (P a).2.2.1).locals ≤ R.locals := by
      show 10 + d + 1 ≤ _ ∧ 8 + ((P a).1 + 11) + (100 + 70 * d) ≤ _
      omega
    have hsize : ls.size = nL := hl.1
    have hini9 := ht _ (hTs _ hini)
    have hfix : CallFix p m c cc nL s args Ts own := ⟨hx, hb, hml, ho, ht⟩
    have hrecv : ∀ ci rr9, c' = ci + 1 → vwCl[ci]? = some rr9 → ∃ i As', As = .inr (.inl (some i)) :: As' ∧ i < 1000000 ∧ ∃ cell : Cell, H[B0 + i]? = some cell ∧ cell.cls = D.1 ci ∧ cell.vm = .none := by
      intro ci rr9 e1 e2
      subst e1
      obtain ⟨i, As', q, rfl, hq, e3⟩ := ev_rc_ok h2
      subst e3
      obtain ⟨g1, cell, g2, g3, g4, -⟩ := ev_J_obj hJ hq e2
      exact ⟨i, As', rfl, g1, cell, g2, g3, g4⟩
    have e1 : ∀ {n : Nat}, n < 1000000 → ev_dn b B0 σ (.inr (.inl (some n))) = .ref (B0 + n) := fun hn => by
      show Value.ref _ = _
      rw [ev_ad_w hn]
    have hparam : ∀ sig, parseMethodDescriptor (I a).1.desc = some sig → n = sig.parameters.length := fun sig h9 => by
      have h8 := hnm.2.2
      rw [h9] at h8
      exact (Option.some.inj h8).symm
    rcases hi with ⟨dd, hb1, ⟨ci, rr9, hc1, hci, hcn⟩, hhe, w1, w2, w3⟩ | ⟨dd, hb1, hc1, w1, w2⟩ | ⟨dd, hb1, ⟨ci, rr9, hc1, hci⟩, hhe, hn1, hn2, w2, w1⟩
    · obtain ⟨i, As', rfl, hi6, cell, g2, g3, g4⟩ := hrecv ci rr9 hc1 hci
      have hlen' : As'.length = n := by
        have := hlen
        rw [List.length_cons] at this
        omega
      have hcw9 : ev_wm (I a) (P a).1 = Cond.code (I a).1 (I a).2.1 (P a).1 (I a).2.2.1 :: ev_UW := by
        unfold ev_wm ev_cw
        rw [hhe]
      have hfc : s.vm.findClass (I a).1.cls = some cell.cls := by
        rw [g3, ← hcn]
        exact (hV.1.1 ci _ hci).2.1
      have hrun := vx_runV (R := R) (l := l) (e := e) (below := below) (meth := meth) (H := H) (locs := locs) (cells := w.2.2.2.1) (slots := w.2.2.2.2) (g := F0 m pc ls (st.map (ev_dn b B0 σ))) (As := As'.map (ev_dn b B0 σ)) (rest := rr.map (ev_dn b B0 σ)) (b := B0 + i) (C := (I a).1.cls) (index := ix) (n := n) (bytes := (I a).2.1) (maxL := (P a).1) (ret := (I a).2.2.1) hfix hMet
        ⟨callB_of n ht hGood hcw9 rfl rfl hini9 (ht _ (hTs _ w1)) hnm hroom, ht _ (hTs _ w2), ht _ (hTs _ w3)⟩
        ⟨ev_Pc_blind, ⟨cell, g2, by rw [g4]; rfl, hfc⟩, fun U hU hW => by
          have := hPc U hU hW
          rw [List.map_cons, e1 hi6] at this
          exact this⟩ rfl (by rw [List.length_map]; exact hlen') hsize (by
          show st.map (ev_dn b B0 σ) = _
          rw [hstack, List.map_cons, e1 hi6, List.reverse_cons, List.append_assoc]
          rfl) hW9 dd k3
      exact ev_call_end hS hrun hret hthr
    · have hlen' : As.length = n := hlen.trans hb1
      by_cases hhe : (I a).2.2.2 = []
      · have hcw9 : ev_wm (I a) (P a).1 = Cond.code (I a).1 (I a).2.1 (P a).1 (I a).2.2.1 :: ev_UW := by
          unfold ev_wm ev_cw
          rw [hhe]
        have hrun := vx_runS (R := R) (l := l) (e := e) (below := below) (meth := meth) (H := H) (locs := locs) (cells := w.2.2.2.1) (slots := w.2.2.2.2) (g := F0 m pc ls (st.map (ev_dn b B0 σ))) (As := As.map (ev_dn b B0 σ)) (rest := rr.map (ev_dn b B0 σ)) (index := ix) (n := n) (bytes := (I a).2.1) (maxL := (P a).1) (ret := (I a).2.2.1) hfix hMet
          ⟨callB_of n ht hGood hcw9 rfl rfl hini9 (ht _ (hTs _ w1)) hnm hroom, ht _ (hTs _ w2)⟩
          ⟨ev_Pc_blind, hPc⟩ rfl (by rw [List.length_map]; exact hlen') hsize hstack hW9 dd k3
        exact ev_call_end hS hrun hret hthr
      · obtain ⟨q9, t9, hq9⟩ : ∃ q t, (I a).2.2.2 = q :: t := by
          cases hz : (I a).2.2.2 with
          | nil => exact absurd hz hhe
          | cons q t => exact ⟨q, t, rfl⟩
        have hcw9 : ev_wm (I a) (P a).1 = Cond.codeWith (I a).1 (I a).2.1 (P a).1 (I a).2.2.1 (q9 :: t9) :: ev_UW := by
          unfold ev_wm ev_cw
          rw [hq9]
        have hc9 : Cond.codeWith (I a).1 (I a).2.1 (P a).1 (I a).2.2.1 (q9 :: t9) ∈ ev_wm (I a) (P a).1 := by rw [hcw9]; exact List.mem_cons_self
        have hrun := vx_runSX (R := R) (l := l) (e := e) (below := below) (meth := meth) (H := H) (locs := locs) (cells := w.2.2.2.1) (slots := w.2.2.2.2) (g := F0 m pc ls (st.map (ev_dn b B0 σ))) (As := As.map (ev_dn b B0 σ)) (rest := rr.map (ev_dn b B0 σ)) (index := ix) (n := n) (bytes := (I a).2.1) (maxL := (P a).1) (ret := (I a).2.2.1) (hh := q9 :: t9) hfix hMet
          ⟨⟨rfl, rfl, hroom.1, hroom.2, pay_in ht hGood, hc9⟩, ht _ (hGood _ hc9).1, hini9, ⟨hnm.1, hnm.2.1⟩, hparam, ht _ (hTs _ w1), ht _ (hTs _ w2)⟩
          ⟨ev_Pc_blind, hPc⟩ rfl (by rw [List.length_map]; exact hlen') hsize hstack hW9 dd k3
        exact ev_call_end hS hrun hret hthr
    · obtain ⟨i, As', rfl, hi6, cell, g2, g3, g4⟩ := hrecv ci rr9 hc1 hci
      have hlen' : As'.length = n := by
        have := hlen
        rw [List.length_cons] at this
        omega
      have hcw9 : ev_wm (I a) (P a).1 = Cond.code (I a).1 (I a).2.1 (P a).1 none :: ev_UW := by
        unfold ev_wm ev_cw
        rw [hhe, hn2]
      have hpre : PreS s H (ev_Pc D aC b B0 L σ Sg (.inr (.inl (some i)) :: As') (w.1, (w.2.1, (w.2.2.1, (0, 0))))) (.ref (B0 + i) :: As'.map (ev_dn b B0 σ)) := ⟨ev_Pc_blind, fun U hU hW => by
          have := hPc U hU hW
          rw [List.map_cons, e1 hi6] at this
          exact this⟩
      have hst9 : (F0 m pc ls (st.map (ev_dn b B0 σ))).stack = (As'.map (ev_dn b B0 σ)).reverse ++ .ref (B0 + i) :: rr.map (ev_dn b B0 σ) := by
        show st.map (ev_dn b B0 σ) = _
        rw [hstack, List.map_cons, e1 hi6, List.reverse_cons, List.append_assoc]
        rfl
      rcases w1 with w1 | ⟨host, w1⟩
      · have hrun := vx_runI (R := R) (l := l) (e := e) (below := below) (meth := meth) (H := H) (locs := locs) (cells := w.2.2.2.1) (slots := w.2.2.2.2) (g := F0 m pc ls (st.map (ev_dn b B0 σ))) (As := As'.map (ev_dn b B0 σ)) (rest := rr.map (ev_dn b B0 σ)) (b := B0 + i) (index := ix) (n := n) (bytes := (I a).2.1) (maxL := (P a).1) hfix hMet
          ⟨callB_of n ht hGood hcw9 rfl rfl hini9 (ht _ (hTs _ w1)) hnm hroom, hn1, ht _ (hTs _ w2)⟩ hpre rfl (by rw [List.length_map]; exact hlen') hsize hst9 hW9 dd k3
        exact ev_call_end hS hrun hret hthr
      · have hrun := vx_runIN (R := R) (l := l) (e := e) (below := below) (meth := meth) (H := H) (locs := locs) (cells := w.2.2.2.1) (slots := w.2.2.2.2) (g := F0 m pc ls (st.map (ev_dn b B0 σ))) (As := As'.map (ev_dn b B0 σ)) (rest := rr.map (ev_dn b B0 σ)) (b := B0 + i) (index := ix) (n := n) (bytes := (I a).2.1) (maxL := (P a).1) (host := host) hfix hMet
          ⟨va_cnB n ht hGood hcw9 rfl rfl (hV.2.1 _ w1 rfl) hini9 hnm hroom, hn1, ht _ (hTs _ w2)⟩ hpre rfl (by rw [List.length_map]; exact hlen') hsize hst9 hW9 dd k3
        exact ev_call_end hS hrun hret hthr
  · cases h
end EVZ
