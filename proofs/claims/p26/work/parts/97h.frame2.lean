/-! ===== System.arraycopy, the call of a method, a whole frame (own work) ===== -/
section EVY
variable {D : va_G} {aC : Nat → ClassId} {b : ev_B} {B0 L : Nat} {σ : Nat → Int32}
variable {p : Program} {l : Launch} {e : Env} {R : Room} {s : State} {m : MethodId} {args : Array Value} {below : List Frame} {meth : Method} {c : Code} {Q : State → Prop}
variable {cc : ByteArray} {nL : Nat} {Ts : List Cond} {own : String} {Sg : List (String × (Nat × String))}
variable {Φ : ev_P} {M : ev_M} {k : ev_N} {cl : ev_F} {nx a b' c' pc : Nat} {tg : List Nat} {loc : ev_L} {st : List ev_V} {w : ev_W} {r : ev_S}
theorem ev_cpy_ok {f g : List (List (List ev_V))} : ∀ (n : Nat) (h : List (List (List ev_V))), ev_cpy n f g = some h → (∀ i, i < n → ∃ v, ev_get f i = some v ∧ ev_ii v = true) ∧ ∀ j, ev_get h j = if j < n then ev_get f j else ev_get g j := by
  intro n
  induction n with
  | zero =>
    intro h hh
    have hh : some g = some h := hh
    cases hh
    exact ⟨fun i hi => absurd hi (Nat.not_lt_zero i), fun j => by rw [if_neg (Nat.not_lt_zero j)]⟩
  | succ n ih =>
    intro h hh
    have hh : (match ev_cpy n f g, ev_get f n with
      | some h, some v => ev_if (ev_ii v) (ev_sto h n v) none
      | _, _ => none) = some h := hh
    split at hh
    · next h9 v h1 h2 =>
      obtain ⟨h3, hh⟩ := ev_if_n hh
      obtain ⟨i1, i2⟩ := ih h9 h1
      obtain ⟨-, i3⟩ := ev_sto_ok hh
      refine ⟨fun i hi => ?_, fun j => ?_⟩
      · by_cases e : i = n
        · subst e
          exact ⟨v, h2, h3⟩
        · exact i1 i (by omega)
      · rw [i3, i2]
        by_cases e : j = n
        · subst e
          rw [if_pos rfl, if_pos (Nat.lt_succ_self j), h2]
        · rw [if_neg e]
          by_cases e2 : j < n
          · rw [if_pos e2, if_pos (by omega)]
          · rw [if_neg e2, if_neg (by omega)]
    · cases hh
theorem ev_o_copy (hF : ev_Fx D aC b B0 L σ p s m args meth c cc nL Ts own Sg) (hR : 1 ≤ R.frames ∧ 100 ≤ R.locals) (hk : ∀ pc loc st w, k pc loc st w = some r → ev_Go D aC b B0 σ p l e R s m args below meth c Q nL pc loc st w) (h : ev_h_copy Φ M k cl nx a b' c' tg pc loc st w = some r)
    (hi : ev_i_copy cc own Ts pc nx) : ev_Go D aC b B0 σ p l e R s m args below meth c Q nL pc loc st w := by
  obtain ⟨hx, hb, hml, ho, ht, hV, -⟩ := id hF
  obtain ⟨ix, d, rfl, w1, w2, w3, w4⟩ := hi
  unfold ev_h_copy at h
  split at h
  · next n i i0 rr =>
    split at h
    · next q q0 hq hq0 =>
      obtain ⟨h1, h⟩ := ev_if_n h
      simp only [Bool.and_eq_true] at h1
      obtain ⟨h1, h2, h3, h4, h5, h6, h7⟩ := h1
      have k1 := Nat.eq_of_beq_eq_true h1
      have k2 := Nat.eq_of_beq_eq_true h2
      have k3 := Nat.le_of_ble_eq_true h3
      have k4 := Nat.le_of_ble_eq_true h4
      have k5 := Nat.le_of_ble_eq_true h5
      have k6 := Nat.le_of_ble_eq_true h6
      have k7 := Nat.le_of_ble_eq_true h7
      have k8 := ev_cs_ok (b := b) (B0 := B0) (σ := σ) rr
      split at h
      · next z hz =>
        split at h
        · next x hx9 =>
          obtain ⟨c1, c2⟩ := ev_cpy_ok n z hz
          obtain ⟨-, hx9⟩ := ev_sto_ok hx9
          intro H locs ls hl hJ hS
          obtain ⟨hi9, g1⟩ := ev_J_arr hJ hq (by omega) (by omega)
          obtain ⟨hi0, g0⟩ := ev_J_arr hJ hq0 (by omega) (by omega)
          have e1 : ∀ {n : Nat}, n < 1000000 → ev_dn b B0 σ (.inr (.inl (some n))) = .ref (B0 + n) := fun hn => by
            show Value.ref _ = _
            rw [ev_ad_w hn]
          simp only [List.map_cons]
          rw [e1 hi9, e1 hi0]
          have e5 : (nI n).toNatClampNeg = n := nI_clamp (by omega)
          have e50 : (nI 0).toNatClampNeg = 0 := nI_clamp (by omega)
          have e6 : (nI n).toInt = n := nI_toInt (by omega)
          have e60 : (nI 0).toInt = 0 := nI_toInt (n := 0) (by omega)
          intro T hT X
          obtain ⟨-, kk0, hk0, cm0, hkk0⟩ := (ev_tys_of hV (k := 20) (by omega) (by omega)).1 q0.2.1 (ev_fv b B0 σ q0.2.2)
          obtain ⟨-, kk1, hk1, cm1, hkk1⟩ := (ev_tys_of hV (k := 20) (by omega) (by omega)).1 q.2.1 (ev_fv b B0 σ q.2.2)
          rw [k1] at g1
          rw [k2] at g0
          have hread : ∀ i, i < n → (arrV (aC 20) q0.2.1 (ev_fv b B0 σ q0.2.2)).slots.getD ((nI 0).toNatClampNeg + i) .null = ev_fv b B0 σ q0.2.2 i := fun i hi => by
            rw [e50, Nat.zero_add, Array.getD_eq_getD_getElem?, arrV_read _ _ (by omega)]
            rfl
          have hint : ∀ i, i < n → ∃ y, ev_fv b B0 σ q0.2.2 i = .int y := fun i hi => by
            obtain ⟨v, v1, v2⟩ := c1 i hi
            obtain ⟨y, ey⟩ := ev_dn_i (b := b) (B0 := B0) (σ := σ) v2
            refine ⟨y, ?_⟩
            unfold ev_fv
            rw [v1]
            exact ey
          obtain ⟨vm', X', step⟩ := X.arraycopy hx ho (ht _ w1) (ht _ w2) (ht _ w3) (ht _ w4) (src := B0 + i0) (dst := B0 + i) (cs := arrV (aC 20) q0.2.1 (ev_fv b B0 σ q0.2.2)) (cd := arrV (aC 20) q.2.1 (ev_fv b B0 σ q.2.2)) (srcPos := nI 0) (destPos := nI 0) (n := nI n) (by rw [hT]; exact g0) (by rw [hT]; exact g1)
            (fun _ h => by cases h) (fun _ h => by cases h) (fun h => by cases h) (fun h => by cases h) hk0 hk1 hkk0 hkk1 (by rfl) (nI_pos (n := 0) (by omega)) (nI_pos (n := 0) (by omega)) (nI_pos (n := n) (by omega))
            (by rw [e60, e6, arrV_size]; omega) (by rw [e60, e6, arrV_size]; omega)
            (fun vm₁ _ i hi => by
              rw [e5] at hi
              obtain ⟨y, ey⟩ := hint i hi
              rw [hread i hi, ey]
              exact ⟨rfl, trivial⟩)
            (g := F0 m pc ls (.int (nI n) :: .int (nI 0) :: .ref (B0 + i) :: .int (nI 0) :: .ref (B0 + i0) :: rr.map (ev_dn b B0 σ))) rfl (by rw [hml]; exact hl.1) (rest := rr.map (ev_dn b B0 σ)) rfl (by rw [hb]; exact d) hR.1 (by
              have : nativeFrameWords "java/lang/System" "arraycopy" 5 + 11 ≤ 90 := by decide +kernel
              show 2 * 0 + _ + _ ≤ _
              omega)
          have ecop : copied (arrV (aC 20) q0.2.1 (ev_fv b B0 σ q0.2.2)) (arrV (aC 20) q.2.1 (ev_fv b B0 σ q.2.2)) (nI 0) (nI 0) (nI n) = arrV (aC 20) q.2.1 (ev_fv b B0 σ z) := by
            have h9 := va_copied (fun v : Value => v) (aC 20) (aC 20) (n0 := q0.2.1) (n1 := q.2.1) (sp := (nI 0).toNatClampNeg) (dp := (nI 0).toNatClampNeg) (n := (nI n).toNatClampNeg) (ev_fv b B0 σ q0.2.2) (ev_fv b B0 σ q.2.2) (by rw [e50, e5]; omega)
            refine h9.trans (ev_arr_to fun j hj => ?_)
            show va_cpy _ _ _ _ _ j = _
            unfold va_cpy
            rw [e50, e5]
            unfold ev_fv
            rw [c2]
            by_cases hjn : j < n
            · rw [if_pos ⟨Nat.zero_le j, by omega⟩, if_pos hjn, Nat.zero_add, Nat.sub_zero]
            · rw [if_neg (by omega), if_neg hjn]
          rw [ecop] at X' step
          have hlt : B0 + i < H.size := (Array.getElem?_eq_some_iff.mp g1).1
          have hheap : ((T.setVm vm').setCell (B0 + i) (arrV (aC 20) q.2.1 (ev_fv b B0 σ z))).heap = H.setIfInBounds (B0 + i) (arrV (aC 20) q.2.1 (ev_fv b B0 σ z)) := by rw [← hT]; rfl
          have oq : ∀ y : Nat, y ≠ B0 + i → (H.setIfInBounds (B0 + i) (arrV (aC 20) q.2.1 (ev_fv b B0 σ z)))[y]? = H[y]? := fun y hy => by simp [Array.getElem?_setIfInBounds, Ne.symm hy]
          have hself : (H.setIfInBounds (B0 + i) (arrV (aC 20) q.2.1 (ev_fv b B0 σ z)))[B0 + i]? = some (arrV (aC 20) q.2.1 (ev_fv b B0 σ z)) := by simp [Array.getElem?_setIfInBounds, hlt]
          have hzz : (H.setIfInBounds (B0 + i) (arrV (aC 20) q.2.1 (ev_fv b B0 σ z))).size = H.size := by simp
          obtain ⟨t, a1, b1⟩ := hk _ _ _ _ h _ _ ls hl (ev_J_set hJ hq hx9 (Or.inr (Or.inr ⟨by show 20 ≤ q.1; omega, by show q.1 ≤ 25; omega, by rw [hself, k1]⟩)) hzz oq)
            ⟨by rw [hzz]; exact hS.1, fun y g1 g2 => by
              rw [oq y (fun e => g2 (by rw [e]; exact Nat.le_add_right _ _))]
              exact hS.2.1 y g1 g2, fun y hy => by
              rcases List.mem_append.mp hy with h | h
              · exact hS.2.2 y h
              · obtain ⟨z, -, hz⟩ := List.mem_map.mp h
                rw [← hz]
                exact Nat.le_add_right _ _⟩ _ hheap X'
          exact ⟨t, step t a1, b1⟩
        · cases h
      · cases h
    · cases h
  · cases h
end EVY
/-! ===== the evaluator is right: a run of it is a run of the machine (own work) ===== -/
section EVZ
variable {D : va_G} {aC : Nat → ClassId} {b : ev_B} {B0 L : Nat} {σ : Nat → Int32}
variable {p : Program} {l : Launch} {e : Env} {R : Room} {s : State} {m : MethodId} {args : Array Value} {below : List Frame} {meth : Method} {c : Code} {Q : State → Prop}
variable {cc : ByteArray} {nL : Nat} {Ts : List Cond} {own : String} {Sg : List (String × (Nat × String))}
variable {Φ : ev_P} {M : ev_M} {k : ev_N} {cl : ev_F} {nx a b' c' pc : Nat} {tg : List Nat} {loc : ev_L} {st : List ev_V} {w : ev_W} {r : ev_S}
variable {I : Nat → ev_Im} {P : Nat → ev_M}
/-- an exception leaves this frame well -/
def ev_Out (D : va_G) (aC : Nat → ClassId) (b : ev_B) (B0 : Nat) (σ : Nat → Int32) (p : Program) (l : Launch) (e : Env) (R : Room) (s : State) (m : MethodId) (args : Array Value) (below : List Frame) (meth : Method) (c : Code) (Q : State → Prop) (own : String) (M : ev_M) (r : ev_S) : Prop :=
  ∀ (E : Nat) (w : ev_W) (H : Heap) (locs : List Loc) (ls : Array Slot) (rest : List Value) (pc q : Nat) (ce : Cell), E < 4 → r = .inr (.inl (E, w)) → ev_may M w 0 0 = true → ev_J D aC b B0 σ w H → va_S (fun q => B0 ≤ q) s.heap H locs →
    (∀ z ∈ c.exceptionTable.toList, covers z pc = false ∨ (z.catchType ≠ 0 ∧ ∃ nm : String, (Cond.classLink own z.catchType nm).before args s = true ∧ va_Nc (ev_ex E) nm s)) → H[q]? = some ce → ce.vm = .none → s.vm.findClass (ev_ex E) = some ce.cls →
    vx_W p l e R s m args below meth c H locs w.2.2.2.1 w.2.2.2.2 Q (F0 m pc ls rest) q
theorem ev_exc_ok {hh : List (Nat × Nat × Nat × Nat)} {E : Nat} {H : Heap} {locs : List Loc} {ls : Array Slot} {rest : List Value} {q : Nat} {ce : Cell} (hF : ev_Fx D aC b B0 L σ p s m args meth c cc nL Ts own Sg) (hcast : ∀ i, i < 4 → Cond.castable (ev_ex i) (ev_ex i) ∈ lw_tbl)
    (hk : ∀ pc loc st w, k pc loc st w = some r → ev_Go D aC b B0 σ p l e R s m args below meth c Q nL pc loc st w) (hst : ∀ pc nx a tg, (M.2.2.2.2 pc) = (10, (nx, (a, tg))) → ev_i_st cc nL pc nx a .astore .astore_n) (hh9 : ev_hok own Ts hh M.2.2.2.1) (hT : c.exceptionTable.toList = tableOf hh)
    (hOut : ev_Out D aC b B0 σ p l e R s m args below meth c Q own M r) (h : ev_exc M k pc E loc w = some r) (hE : E < 4) (hl : ev_lh b B0 σ nL loc ls) (hJ : ev_J D aC b B0 σ w H) (hS : va_S (fun q => B0 ≤ q) s.heap H locs) (hq : H[q]? = some ce) (hv : ce.vm = .none) (hcl : s.vm.findClass (ev_ex E) = some ce.cls) :
    vx_W p l e R s m args below meth c H locs w.2.2.2.1 w.2.2.2.2 Q (F0 m pc ls rest) q := by
  obtain ⟨hx, hb, hml, ho, ht, hV, -⟩ := id hF
  obtain ⟨cn, e1, e2⟩ := hh9
  obtain ⟨f1, f2⟩ := ev_hd_ok (cn := cn) (E := E) (pc := pc) hE ht hV hh e2
  unfold ev_exc at h
  rw [e1] at h
  split at h
  · next hn =>
    obtain ⟨h1, h⟩ := ev_if_n h
    exact hOut E w H locs ls rest pc q ce hE (Option.some.inj h).symm h1 hJ hS (by rw [hT]; exact f1 hn) hq hv hcl
  · next hp hn =>
    split at h
    next op nx9 a9 tg9 hcode =>
    obtain ⟨h1, h9⟩ := ev_if_n h
    rw [Bool.and_eq_true] at h1
    have hop := Nat.eq_of_beq_eq_true h1.1
    subst hop
    obtain ⟨hi, ha⟩ := hst hp nx9 a9 tg9 hcode
    obtain ⟨pre, x, suf, g1, g2, g3, g4, g5, g6⟩ := f2 hp hn
    refine vx_catch ho pre x suf (by rw [hT]; exact g1) g2 g3 g4 g5 (va_Nw.use rfl (hV.2.1 _ (hcast E hE) rfl)) hq hv hcl ?_
    rw [g6]
    have go : ∀ ls' : Array Slot, lv_has ls' nL ((a9, Value.ref q) :: (ev_ll b B0 σ loc).filter (fun q => !(q.1 == a9) && !(q.1 + 1 == a9 && q.2.category == 2))) → W p l e R s m args below meth c H locs w.2.2.2.1 w.2.2.2.2 Q (F0 m nx9 ls' []) :=
      fun ls' h' => hk _ _ _ _ h9 H locs ls' (ev_lh_st1 (o := none) h1.2 (fun v' e' => by cases e') h') hJ hS
    rcases hi with ⟨d, rfl⟩ | ⟨n, d, hn, rfl⟩
    · exact lv_astore hx hb d (ev_lh_has hl) ha rfl go
    · exact lv_astore_n hx hb d hn (ev_lh_has hl) ha rfl go
theorem ev_rc_ok {ci : Nat} {As : List ev_V} (h : ev_rc (ci + 1) As w = true) : ∃ i As' q, As = .inr (.inl (some i)) :: As' ∧ ev_get w.1 i = some q ∧ q.1 = ci := by
  match As, h with
  | .inr (.inl (some i)) :: As', h =>
    have h : (match ev_get w.1 i with
      | some q => Nat.beq q.1 ci
      | none => false) = true := h
    cases hq : ev_get w.1 i with
    | none => rw [hq] at h; cases h
    | some q => rw [hq] at h; exact ⟨i, As', q, rfl, hq, Nat.eq_of_beq_eq_true h⟩
  | [], h => exact absurd h (fun z => by cases z)
  | .inl _ :: _, h => exact absurd h (fun z => by cases z)
  | .inr (.inl none) :: _, h => exact absurd h (fun z => by cases z)
  | .inr (.inr _) :: _, h => exact absurd h (fun z => by cases z)
theorem ev_uw {x : Cond} (h : x ∈ ev_UW) : x ∈ lw_tbl ∧ goodWord x = true := List.mem_filter.mp h
theorem ev_good {ws : List Cond} (hTs : ∀ x ∈ ev_UW, x ∈ Ts) (h : ∀ x ∈ ws, x ∈ ev_UW) : GoodIn Ts ws := fun x hx => ⟨hTs x (h x hx), good_of_word (ev_uw (h x hx)).2⟩
theorem ev_wm_in {x : ev_Im} {n : Nat} (h : ev_cw x n ∈ ev_UW) : ∀ y ∈ ev_wm x n, y ∈ ev_UW := fun y hy => by
  rcases List.mem_cons.mp hy with rfl | hy
  · exact h
  · exact hy
theorem ev_o_call {hh : List (Nat × Nat × Nat × Nat)} {d : Nat} (hF : ev_Fx D aC b B0 L σ p s m args meth c cc nL Ts own Sg) (hcast : ∀ i, i < 4 → Cond.castable (ev_ex i) (ev_ex i) ∈ lw_tbl) (hTs : ∀ x ∈ ev_UW, x ∈ Ts) (hR : 11 + d ≤ R.frames ∧ 170 + 70 * d ≤ R.locals) (hMR : M.2.1 ≤ R.cells ∧ M.2.2.1 ≤ R.slots)
    (hk : ∀ pc loc st w, k pc loc st w = some r → ev_Go D aC b B0 σ p l e R s m args below meth c Q nL pc loc st w) (hst : ∀ pc nx a tg, (M.2.2.2.2 pc) = (10, (nx, (a, tg))) → ev_i_st cc nL pc nx a .astore .astore_n) (hh9 : ev_hok own Ts hh M.2.2.2.1) (hT : c.exceptionTable.toList = tableOf hh)
    (hOut : ev_Out D aC b B0 σ p l e R s m args below meth c Q own M r)
    (hM : ∀ (As : List ev_V) (w : ev_W) (r2 : ev_S), cl a As w = some r2 → As.length ≤ (P a).1 → As.all (fun v => !ev_wide v) = true → w.2.2.2 = (0, 0) → vx_Met l (I a).1 (ev_wm (I a) (P a).1) (ev_rm d (P a).2.1 (P a).2.2.1) (ev_Pc D aC b B0 L σ Sg As w) (ev_Qc D aC b B0 σ r2) (ev_Xc D aC b B0 σ r2) (P a).2.1 (P a).2.2.1 (fun q => B0 ≤ q))
    (h : ev_h_call Φ M k cl nx a b' c' tg pc loc st w = some r) (hi : ev_i_call I P cc own pc nx a b' c' tg) : ev_Go D aC b B0 σ p l e R s m args below meth c Q nL pc loc st w := by
  obtain ⟨hx, hb, hml, ho, ht, hV, hZ, hbB, hB, hlk⟩ := id hF
  obtain ⟨ix, n, rfl, rfl, hm51, hbP, hcw, hini, hnm, hown9, hi⟩ := hi
  unfold ev_h_call at h
  split at h
  · next As rr hsp =>
    obtain ⟨tk, t1, t2, t3⟩ := ev_sp_ok _ _ _ _ _ hsp
    rw [List.append_nil] at t3
    have h : ev_if (Nat.ble (ev_cs rr) 8 && (ev_may M w (P a).2.1 (P a).2.2.1 && As.all (fun v => !ev_wide v))) (ev_if (ev_rc c' As w) (ev_cont M k (pc + 3) pc loc rr w (P a).2.1 (P a).2.2.1 (cl a As (w.1, (w.2.1, (w.2.2.1, (0, 0)))))) none) none = some r := h
    obtain ⟨h1, h⟩ := ev_if_n h
    obtain ⟨h2, h⟩ := ev_if_n h
    rw [Bool.and_eq_true, Bool.and_eq_true] at h1
    have k1 := Nat.le_of_ble_eq_true h1.1
    have k2 := ev_cs_ok (b := b) (B0 := B0) (σ := σ) rr
    have k3 := ev_may_ok h1.2.1 hMR
    obtain ⟨r2, hr2⟩ : ∃ r2, cl a As (w.1, (w.2.1, (w.2.2.1, (0, 0)))) = some r2 := by
      cases hc : cl a As (w.1, (w.2.1, (w.2.2.1, (0, 0)))) with
      | none => rw [hc] at h; cases h
      | some r2 => exact ⟨r2, rfl⟩
    rw [hr2] at h
    have hlen : As.length = b' := by rw [t3, List.length_reverse, t2]
    have hMet := hM As _ r2 hr2 (by rw [hlen]; exact hbP) h1.2.2 rfl
    intro H locs ls hl hJ hS
    have hPc : ∀ U : State, U.heap = H → s.WarmedH U.vm → ev_Pc D aC b B0 L σ Sg As (w.1, (w.2.1, (w.2.2.1, (0, 0)))) (As.map (ev_dn b B0 σ)).toArray U := fun U hU hW =>
      ⟨rfl, by rw [hU]; exact hJ, ev_VF_warm hW hV, by rw [hU]; exact ev_ZF_to hbB hW hZ hS, hbB, by rw [hU]; exact Nat.le_trans (Nat.le_add_right _ _) hJ.2.1⟩
    have hret : ∀ vo w2 (H1 : Heap) (locs1 : List Loc), r2 = .inl (vo, w2) → ev_J D aC b B0 σ w2 H1 → va_S (fun q => B0 ≤ q) s.heap H1 locs1 → W p l e R s m args below meth c H1 locs1 (w.2.2.2.1 + (P a).2.1) (w.2.2.2.2 + (P a).2.2.1) Q (F0 m (pc + 3) ls ((vo.map (ev_dn b B0 σ)).toList ++ rr.map (ev_dn b B0 σ))) := by
      intro vo w2 H1 locs1 e1 g1 g2
      subst e1
      cases vo with
      | none => exact hk _ _ _ _ h H1 locs1 ls hl g1 g2
      | some v => exact hk _ _ _ _ h H1 locs1 ls hl g1 g2
    have hthr : ∀ n w2 (H1 : Heap) (locs1 : List Loc) (q : Nat) (ce : Cell), r2 = .inr (.inl (n, w2)) → n < 4 → ev_J D aC b B0 σ w2 H1 → va_S (fun q => B0 ≤ q) s.heap H1 locs1 → H1[q]? = some ce → ce.vm = .none → s.vm.findClass (ev_ex n) = some ce.cls → vx_W p l e R s m args below meth c H1 locs1 (w.2.2.2.1 + (P a).2.1) (w.2.2.2.2 + (P a).2.2.1) Q (F0 m pc ls (rr.map (ev_dn b B0 σ))) q := by
      intro n w2 H1 locs1 q ce e1 hn4 g1 g2 g3 g4 g5
      subst e1
      exact ev_exc_ok (w := ev_back w w2 (P a).2.1 (P a).2.2.1) hF hcast hk hst hh9 hT hOut h hn4 hl g1 g2 g3 g4 g5
    have hstack : st.map (ev_dn b B0 σ) = (As.map (ev_dn b B0 σ)).reverse ++ rr.map (ev_dn b B0 σ) := by
      rw [t1, t3, List.map_append, List.map_reverse, List.reverse_reverse]
    have hW9 : 2 * (F0 m pc ls (st.map (ev_dn b B0 σ))).monitorRoom + ((rr.map (ev_dn b B0 σ)).map fun v => v.category).sum ≤ 8 := by
      show 2 * 0 + _ ≤ 8
      omega
    have hGood : GoodIn Ts (ev_wm (I a) (P a).1) := ev_good hTs (ev_wm_in hcw)
    have hroom : (ev_rm d (P a).2.1 (P a).2.2.1).frames + 1 ≤ R.frames ∧ 8 + ((P a).1 + 11) + (ev_rm d (P a).2.1 (P a).2.2.1).locals ≤ R.locals := by
      show 10 + d + 1 ≤ _ ∧ 8 + ((P a).1 + 11) + (100 + 70 * d) ≤ _
      omega
    have hsize : ls.size = nL := hl.1
    have hini9 := ht _ (hTs _ hini)
    have hfix : CallFix p m c cc nL s args Ts own := ⟨hx, hb, hml, ho, ht⟩
    have hrecv : ∀ ci rr9, c' = ci + 1 → vwCl[ci]? = some rr9 → ∃ i As', As = .inr (.inl (some i)) :: As' ∧ i < 1000000 ∧ ∃ cell : Cell, H[B0 + i]? = some cell ∧ cell.cls = D.1 ci ∧ cell.vm = .none := by
      intro ci rr9 e1 e2
      subst e1
      obtain ⟨i, As', q, rfl, hq, e3⟩ := ev_rc_ok h2
      subst e3
      obtain ⟨g1, cell, g2, g3, g4, -⟩ := ev_J_obj hJ hq e2
      exact ⟨i, As', rfl, g1, cell, g2, g3, g4⟩
    have e1 : ∀ {n : Nat}, n < 1000000 → ev_dn b B0 σ (.inr (.inl (some n))) = .ref (B0 + n) := fun hn => by
      show Value.ref _ = _
      rw [ev_ad_w hn]
    have hparam : ∀ sig, parseMethodDescriptor (I a).1.desc = some sig → n = sig.parameters.length := fun sig h9 => by
      have h8 := hnm.2.2
      rw [h9] at h8
      exact (Option.some.inj h8).symm
    rcases hi with ⟨dd, hb1, ⟨ci, rr9, hc1, hci, hcn⟩, hhe, w1, w2, w3⟩ | ⟨dd, hb1, hc1, w1, w2⟩ | ⟨dd, hb1, ⟨ci, rr9, hc1, hci⟩, hhe, hn1, hn2, w2, w1⟩
    · obtain ⟨i, As', rfl, hi6, cell, g2, g3, g4⟩ := hrecv ci rr9 hc1 hci
      have hlen' : As'.length = n := by
        have := hlen
        rw [List.length_cons] at this
        omega
      have hcw9 : ev_wm (I a) (P a).1 = Cond.code (I a).1 (I a).2.1 (P a).1 (I a).2.2.1 :: ev_UW := by
        unfold ev_wm ev_cw
        rw [hhe]
      have hfc : s.vm.findClass (I a).1.cls = some cell.cls := by
        rw [g3, ← hcn]
        exact (hV.1.1 ci _ hci).2.1
      have hrun := vx_runV (R := R) (l := l) (e := e) (below := below) (meth := meth) (H := H) (locs := locs) (cells := w.2.2.2.1) (slots := w.2.2.2.2) (g := F0 m pc ls (st.map (ev_dn b B0 σ))) (As := As'.map (ev_dn b B0 σ)) (rest := rr.map (ev_dn b B0 σ)) (b := B0 + i) (C := (I a).1.cls) (index := ix) (n := n) (bytes := (I a).2.1) (maxL := (P a).1) (ret := (I a).2.2.1) hfix hMet
        ⟨callB_of n ht hGood hcw9 rfl rfl hini9 (ht _ (hTs _ w1)) hnm hroom, ht _ (hTs _ w2), ht _ (hTs _ w3)⟩
        ⟨ev_Pc_blind, ⟨cell, g2, by rw [g4]; rfl, hfc⟩, fun U hU hW => by
          have := hPc U hU hW
          rw [List.map_cons, e1 hi6] at this
          exact this⟩ rfl (by rw [List.length_map]; exact hlen') hsize (by
          show st.map (ev_dn b B0 σ) = _
          rw [hstack, List.map_cons, e1 hi6, List.reverse_cons, List.append_assoc]
          rfl) hW9 dd k3
      exact ev_call_end hS hrun hret hthr
    · have hlen' : As.length = n := hlen.trans hb1
      by_cases hhe : (I a).2.2.2 = []
      · have hcw9 : ev_wm (I a) (P a).1 = Cond.code (I a).1 (I a).2.1 (P a).1 (I a).2.2.1 :: ev_UW := by
          unfold ev_wm ev_cw
          rw [hhe]
        have hrun := vx_runS (R := R) (l := l) (e := e) (below := below) (meth := meth) (H := H) (locs := locs) (cells := w.2.2.2.1) (slots := w.2.2.2.2) (g := F0 m pc ls (st.map (ev_dn b B0 σ))) (As := As.map (ev_dn b B0 σ)) (rest := rr.map (ev_dn b B0 σ)) (index := ix) (n := n) (bytes := (I a).2.1) (maxL := (P a).1) (ret := (I a).2.2.1) hfix hMet
          ⟨callB_of n ht hGood hcw9 rfl rfl hini9 (ht _ (hTs _ w1)) hnm hroom, ht _ (hTs _ w2)⟩
          ⟨ev_Pc_blind, hPc⟩ rfl (by rw [List.length_map]; exact hlen') hsize hstack hW9 dd k3
        exact ev_call_end hS hrun hret hthr
      · obtain ⟨q9, t9, hq9⟩ : ∃ q t, (I a).2.2.2 = q :: t := by
          cases hz : (I a).2.2.2 with
          | nil => exact absurd hz hhe
          | cons q t => exact ⟨q, t, rfl⟩
        have hcw9 : ev_wm (I a) (P a).1 = Cond.codeWith (I a).1 (I a).2.1 (P a).1 (I a).2.2.1 (q9 :: t9) :: ev_UW := by
          unfold ev_wm ev_cw
          rw [hq9]
        have hc9 : Cond.codeWith (I a).1 (I a).2.1 (P a).1 (I a).2.2.1 (q9 :: t9) ∈ ev_wm (I a) (P a).1 := by rw [hcw9]; exact List.mem_cons_self
        have hrun := vx_runSX (R := R) (l := l) (e := e) (below := below) (meth := meth) (H := H) (locs := locs) (cells := w.2.2.2.1) (slots := w.2.2.2.2) (g := F0 m pc ls (st.map (ev_dn b B0 σ))) (As := As.map (ev_dn b B0 σ)) (rest := rr.map (ev_dn b B0 σ)) (index := ix) (n := n) (bytes := (I a).2.1) (maxL := (P a).1) (ret := (I a).2.2.1) (hh := q9 :: t9) hfix hMet
          ⟨⟨rfl, rfl, hroom.1, hroom.2, pay_in ht hGood, hc9⟩, ht _ (hGood _ hc9).1, hini9, ⟨hnm.1, hnm.2.1⟩, hparam, ht _ (hTs _ w1), ht _ (hTs _ w2)⟩
          ⟨ev_Pc_blind, hPc⟩ rfl (by rw [List.length_map]; exact hlen') hsize hstack hW9 dd k3
        exact ev_call_end hS hrun hret hthr
    · obtain ⟨i, As', rfl, hi6, cell, g2, g3, g4⟩ := hrecv ci rr9 hc1 hci
      have hlen' : As'.length = n := by
        have := hlen
        rw [List.length_cons] at this
        omega
      have hcw9 : ev_wm (I a) (P a).1 = Cond.code (I a).1 (I a).2.1 (P a).1 none :: ev_UW := by
        unfold ev_wm ev_cw
        rw [hhe, hn2]
      have hpre : PreS s H (ev_Pc D aC b B0 L σ Sg (.inr (.inl (some i)) :: As') (w.1, (w.2.1, (w.2.2.1, (0, 0))))) (.ref (B0 + i) :: As'.map (ev_dn b B0 σ)) := ⟨ev_Pc_blind, fun U hU hW => by
          have := hPc U hU hW
          rw [List.map_cons, e1 hi6] at this
          exact this⟩
      have hst9 : (F0 m pc ls (st.map (ev_dn b B0 σ))).stack = (As'.map (ev_dn b B0 σ)).reverse ++ .ref (B0 + i) :: rr.map (ev_dn b B0 σ) := by
        show st.map (ev_dn b B0 σ) = _
        rw [hstack, List.map_cons, e1 hi6, List.reverse_cons, List.append_assoc]
        rfl
      rcases w1 with w1 | ⟨host, w1⟩
      · have hrun := vx_runI (R := R) (l := l) (e := e) (below := below) (meth := meth) (H := H) (locs := locs) (cells := w.2.2.2.1) (slots := w.2.2.2.2) (g := F0 m pc ls (st.map (ev_dn b B0 σ))) (As := As'.map (ev_dn b B0 σ)) (rest := rr.map (ev_dn b B0 σ)) (b := B0 + i) (index := ix) (n := n) (bytes := (I a).2.1) (maxL := (P a).1) hfix hMet
          ⟨callB_of n ht hGood hcw9 rfl rfl hini9 (ht _ (hTs _ w1)) hnm hroom, hn1, ht _ (hTs _ w2)⟩ hpre rfl (by rw [List.length_map]; exact hlen') hsize hst9 hW9 dd k3
        exact ev_call_end hS hrun hret hthr
      · have hrun := vx_runIN (R := R) (l := l) (e := e) (below := below) (meth := meth) (H := H) (locs := locs) (cells := w.2.2.2.1) (slots := w.2.2.2.2) (g := F0 m pc ls (st.map (ev_dn b B0 σ))) (As := As'.map (ev_dn b B0 σ)) (rest := rr.map (ev_dn b B0 σ)) (b := B0 + i) (index := ix) (n := n) (bytes := (I a).2.1) (maxL := (P a).1) (host := host) hfix hMet
          ⟨va_cnB n ht hGood hcw9 rfl rfl (hV.2.1 _ w1 rfl) hini9 hnm hroom, hn1, ht _ (hTs _ w2)⟩ hpre rfl (by rw [List.length_map]; exact hlen') hsize hst9 hW9 dd k3
        exact ev_call_end hS hrun hret hthr
  · cases h
end EVZ
/-! ===== String.length and String.charAt of a text constant: the JDK's own bodies, walked (own work) ===== -/
def js_rm (k L : Nat) : Room := { frames := k, cells := 0, slots := 0, locals := L }
section JST
variable {l : Launch} {B0 a v n : Nat} {f : Nat → Int32}
/-- a text as it lies in the heap -/
def js_T (B0 a v n : Nat) (f : Nat → Int32) (U : State) (H : Heap) : Prop :=
  va_O "java/lang/String" a (fun q => B0 ≤ q) U H ∧ va_OF "java/lang/String" "coder" "B" (.int 0) a (fun q => B0 ≤ q) U H ∧ va_OF "java/lang/String" "value" "[B" (.ref v) a (fun q => B0 ≤ q) U H ∧ va_T .byte v n (fun j => .int (f j)) (fun q => B0 ≤ q) U H ∧
  va_Z "java/lang/String" "COMPACT_STRINGS" "Z" (.int 1) (fun q => B0 ≤ q) U H ∧ ∃ fv : Value, (fv = .null ∨ ∃ z, fv = .ref z) ∧ va_Z "jdk/internal/util/Preconditions" "SIOOBE_FORMATTER" "Ljava/util/function/BiFunction;" fv (fun q => B0 ≤ q) U H
theorem js_T.moved {u U : State} {H : Heap} (hv : u.vm.Alike U.vm) (h : js_T B0 a v n f u H) : js_T B0 a v n f U H := by
  obtain ⟨h1, h2, h3, h4, h5, fm, h7, h6⟩ := h
  exact ⟨h1.moved hv, h2.moved hv, h3.moved hv, h4.moved hv, h5.moved hv, fm, h7, h6.moved hv⟩
theorem js_T.kept {U : State} {H H1 : Heap} (h : js_T B0 a v n f U H) (hq : ∀ q : Nat, q < H.size → ¬ B0 ≤ q → H1[q]? = H[q]?) : js_T B0 a v n f U H1 := by
  obtain ⟨h1, h2, h3, h4, h5, fm, h7, h6⟩ := h
  exact ⟨h1.kept hq, h2.kept hq, h3.kept hq, h4.kept hq, h5.kept hq, fm, h7, h6.kept hq⟩
def js_P (B0 a v n : Nat) (f : Nat → Int32) (As : List Value) : Array Value → State → Prop := fun x U => x = As.toArray ∧ js_T B0 a v n f U U.heap
theorem js_P_blind {As : List Value} : FrameBlind (js_P B0 a v n f As) := by
  intro x U g mk h
  exact ⟨h.1, js_T.moved (u := U) (U := U.calling g mk x) (Vm.Alike.refl U.vm) h.2⟩
def js_Q (r : Option Value) : Array Value → State → Outcome → State → Prop := fun _ st o t => o = .returned r ∧ t.heap = st.heap
def js_X : String → State → State → Prop := fun _ _ _ => False
def js_M (l : Launch) (B0 a v n : Nat) (f : Nat → Int32) (y : MethodName) (cc : ByteArray) (nL : Nat) (ret : Option FieldType) (rm : Room) (As : List Value) (r : Option Value) : Prop :=
  vx_Met l y (Cond.code y cc nL ret :: ev_UW) rm (js_P B0 a v n f As) (js_Q r) js_X 0 0 (fun q => B0 ≤ q)
variable {p : Program} {e : Env} {R : Room} {s : State} {m : MethodId} {args : Array Value} {below : List Frame} {meth : Method} {c : Code} {H : Heap} {locs : List Loc} {cells slots : Nat} {Q : State → Prop}
variable {cc : ByteArray} {nL pc : Nat} {Ts : List Cond} {own : String} {ls : Array Slot} {rest : List Value} {r : Option Value}
theorem js_end {st0 : List Value} {a9 : Array Value} (hS : va_S (fun q => B0 ≤ q) s.heap H locs)
    (hrun : vx_Run p l e R s m args below meth c H locs cells slots 0 0 (F0 m pc ls st0) rest (js_Q r a9) js_X (fun q => B0 ≤ q))
    (kk : ∀ locs1, va_S (fun q => B0 ≤ q) s.heap H locs1 → W p l e R s m args below meth c H locs1 (cells + 0) (slots + 0) Q (F0 m (pc + 3) ls (r.toList ++ rest))) :
    W p l e R s m args below meth c H locs cells slots Q (F0 m pc ls st0) := by
  intro T hT X
  rcases hrun T hT X with ⟨v, st₀, t, T', L9, h0, X', hL, e1, e2, ⟨g1, g2⟩, stp⟩ | ⟨q, st₀, t, T', L9, E, ce, h0, X', hL, e1, e2, hf, -⟩
  · obtain ⟨-, -, k3⟩ := vx_keep h0 e1 hS (fun q _ h => h) (fun q h => h) hL ⟨Nat.le_of_eq (by rw [g2]), fun q _ _ => by rw [g2]⟩
    have g1 := Outcome.returned.inj g1
    subst g1
    have eH : T'.heap = H := by rw [e1, g2, h0]
    obtain ⟨t2, a1, b1⟩ := kk (locs ++ L9) (by rw [← eH]; exact k3) T' eH X'
    exact ⟨t2, stp t2 a1, b1⟩
  · exact hf.elim
/-- a call of one of them on a text -/
theorem js_callV {y : MethodName} {bytes : ByteArray} {maxL : Nat} {ret : Option FieldType} {rm : Room} {As : List Value} {ix k : Nat} (S : CallFix p m c cc nL s args Ts own) (hTs : ∀ x ∈ ev_UW, x ∈ Ts) (hM : js_M l B0 a v n f y bytes maxL ret rm (.ref a :: As) r) (hrm : rm.cells = 0 ∧ rm.slots = 0)
    (hcw : Cond.code y bytes maxL ret ∈ ev_UW) (hyc : y.cls = "java/lang/String") (w1 : Cond.initialized "java/lang/String" ∈ ev_UW) (w2 : (Cond.methodLink own ix y).before args s = true) (w3 : Cond.instanceMethod y ∈ ev_UW) (w4 : Cond.selects "java/lang/String" y y ∈ ev_UW)
    (hnm : y.cls ≠ "java/lang/invoke/MethodHandle" ∧ y.cls ≠ "java/lang/invoke/VarHandle" ∧ (parseMethodDescriptor y.desc).map (fun d => d.parameters.length) = some k) (hk : As.length = k)
    (hroom : rm.frames + 1 ≤ R.frames ∧ 8 + (maxL + 11) + rm.locals ≤ R.locals) (hT : js_T B0 a v n f s s.heap) (hS : va_S (fun q => B0 ≤ q) s.heap H locs) (hsize : ls.size = nL) (hW : (rest.map fun v => v.category).sum ≤ 8) (hdg : decode cc pc = .ok (.invokevirtual ix, 3)) (hf : cells ≤ R.cells ∧ slots ≤ R.slots)
    (kk : ∀ locs1, va_S (fun q => B0 ≤ q) s.heap H locs1 → W p l e R s m args below meth c H locs1 (cells + 0) (slots + 0) Q (F0 m (pc + 3) ls (r.toList ++ rest))) :
    W p l e R s m args below meth c H locs cells slots Q (F0 m pc ls (As.reverse ++ .ref a :: rest)) := by
  have ht := S.2.2.2.2
  have hGood : GoodIn Ts (Cond.code y bytes maxL ret :: ev_UW) := ev_good hTs (fun x hx => by
    rcases List.mem_cons.mp hx with rfl | hx
    · exact hcw
    · exact hx)
  obtain ⟨cell, g1, g2, g3, -⟩ := hT.1.kept hS.2.1
  exact js_end hS (vx_runV (R := R) (l := l) (e := e) (below := below) (meth := meth) (H := H) (locs := locs) (cells := cells) (slots := slots) (g := F0 m pc ls (As.reverse ++ .ref a :: rest)) (As := As) (rest := rest) (b := a) (C := "java/lang/String") (index := ix) (n := k) (bytes := bytes) (maxL := maxL) (ret := ret) S hM
    ⟨callB_of k ht hGood rfl hrm.1 hrm.2 (by rw [hyc]; exact ht _ (hTs _ w1)) w2 hnm hroom, ht _ (hTs _ w3), ht _ (hTs _ w4)⟩
    ⟨js_P_blind, ⟨cell, g1, g2, g3⟩, fun U hU hW => ⟨rfl, by rw [hU]; exact (hT.kept hS.2.1).moved hW.alike⟩⟩ rfl hk hsize rfl (by show 2 * 0 + _ ≤ 8; omega) hdg ⟨hf.1, hf.2⟩) kk
theorem js_callS {y : MethodName} {bytes : ByteArray} {maxL : Nat} {ret : Option FieldType} {rm : Room} {As : List Value} {ix k : Nat} (S : CallFix p m c cc nL s args Ts own) (hTs : ∀ x ∈ ev_UW, x ∈ Ts) (hM : js_M l B0 a v n f y bytes maxL ret rm As r) (hrm : rm.cells = 0 ∧ rm.slots = 0)
    (hcw : Cond.code y bytes maxL ret ∈ ev_UW) (w1 : Cond.initialized y.cls ∈ ev_UW) (w2 : Cond.methodLink own ix y ∈ ev_UW) (w3 : Cond.static y ∈ ev_UW)
    (hnm : y.cls ≠ "java/lang/invoke/MethodHandle" ∧ y.cls ≠ "java/lang/invoke/VarHandle" ∧ (parseMethodDescriptor y.desc).map (fun d => d.parameters.length) = some k) (hk : As.length = k)
    (hroom : rm.frames + 1 ≤ R.frames ∧ 8 + (maxL + 11) + rm.locals ≤ R.locals) (hT : js_T B0 a v n f s s.heap) (hS : va_S (fun q => B0 ≤ q) s.heap H locs) (hsize : ls.size = nL) (hW : (rest.map fun v => v.category).sum ≤ 8) (hdg : decode cc pc = .ok (.invokestatic ix, 3)) (hf : cells ≤ R.cells ∧ slots ≤ R.slots)
    (kk : ∀ locs1, va_S (fun q => B0 ≤ q) s.heap H locs1 → W p l e R s m args below meth c H locs1 (cells + 0) (slots + 0) Q (F0 m (pc + 3) ls (r.toList ++ rest))) :
    W p l e R s m args below meth c H locs cells slots Q (F0 m pc ls (As.reverse ++ rest)) := by
  have ht := S.2.2.2.2
  have hGood : GoodIn Ts (Cond.code y bytes maxL ret :: ev_UW) := ev_good hTs (fun x hx => by
    rcases List.mem_cons.mp hx with rfl | hx
    · exact hcw
    · exact hx)
  exact js_end hS (vx_runS (R := R) (l := l) (e := e) (below := below) (meth := meth) (H := H) (locs := locs) (cells := cells) (slots := slots) (g := F0 m pc ls (As.reverse ++ rest)) (As := As) (rest := rest) (index := ix) (n := k) (bytes := bytes) (maxL := maxL) (ret := ret) S hM
    ⟨callB_of k ht hGood rfl hrm.1 hrm.2 (ht _ (hTs _ w1)) (ht _ (hTs _ w2)) hnm hroom, ht _ (hTs _ w3)⟩
    ⟨js_P_blind, fun U hU hW => ⟨rfl, by rw [hU]; exact (hT.kept hS.2.1).moved hW.alike⟩⟩ rfl hk hsize rfl (by show 2 * 0 + _ ≤ 8; omega) hdg ⟨hf.1, hf.2⟩) kk
theorem js_fx {y : MethodName} {ret : Option FieldType} {rm : Room} {s₁ : State} (B : BodyLoose p l y (headSpec (Cond.code y cc nL ret :: ev_UW) rm) cc nL ret e s m args below meth c s₁) (hml : c.maxLocals = nL) : CallFix p m c cc nL s args (Cond.code y cc nL ret :: ev_UW) y.cls ∧ meth.sig.returnType = ret :=
  ⟨⟨B.exec, B.bytes, hml, findClass_of_methodNamed B.named, atoms_spec (ws := Cond.code y cc nL ret :: ev_UW) B.pre⟩, B.returns⟩
theorem js_up {y : Cond} : ∀ x ∈ ev_UW, x ∈ y :: ev_UW := fun _ h => List.mem_cons_of_mem _ h
theorem js_coder (hJ : ∀ x ∈ js_ws, x ∈ ev_UW) : js_M l B0 a v n f js_co prog_20_method_152_code 1 (some .byte) (js_rm 0 0) [.ref a] (some (.int 0)) := by
  refine vx_ofW (by decide) rfl fun p e s m args below meth c s₁ B hml hT hv => ?_
  obtain ⟨rfl, hO, hC, hV, hA, hZ, hF⟩ := hv
  obtain ⟨⟨hx, hb, hml2, ho, ht⟩, hr⟩ := js_fx B hml
  have w : ∀ x ∈ js_ws, x.before [Value.ref a].toArray s = true := fun x h => ht x (js_up x (hJ x h))
  rw [lg_entry_eq]
  refine va_gets hx hb hZ va_S.rf ho (w (.fieldLink "java/lang/String" 38 "java/lang/String" "COMPACT_STRINGS" "Z") (by simp [js_ws])) (fun x h => h) (show decode prog_20_method_152_code 0 = .ok (.getstatic 38, 3) by decide +kernel) ?_
  refine lv_if_eq hx hb (tgt := 13) (show decode prog_20_method_152_code 3 = .ok (.ifCond .eq 10, 3) by decide +kernel) (by decide) (fun h => absurd h (by decide)) (fun _ => ?_)
  refine lv_aload_n hx hb (show decode prog_20_method_152_code 6 = .ok (.aload_n 0, 1) by decide +kernel) rfl rfl ?_
  refine vk_getf hx hb hC va_S.rf ho (w (.fieldLink "java/lang/String" 15 "java/lang/String" "coder" "B") (by simp [js_ws])) (fun x h => h) (show decode prog_20_method_152_code 7 = .ok (.getfield 15, 3) by decide +kernel) ?_
  refine lv_goto hx hb (tgt := 14) (show decode prog_20_method_152_code 10 = .ok (.goto 4, 3) by decide +kernel) (by decide) ?_
  exact vx_ret (W.zret hx hb hr rfl (fun t ht hW => ⟨rfl, ht⟩) (fun q h => by cases h) (show decode prog_20_method_152_code 14 = .ok (.ireturn, 1) by decide +kernel) (hlocks := B.notSynchronized))
theorem js_isLatin1 (hJ : ∀ x ∈ js_ws, x ∈ ev_UW) : js_M l B0 a v n f js_il prog_20_method_154_code 1 (some .boolean) (js_rm 0 0) [.ref a] (some (.int 1)) := by
  refine vx_ofW (by decide) rfl fun p e s m args below meth c s₁ B hml hT hv => ?_
  obtain ⟨rfl, hO, hC, hV, hA, hZ, hF⟩ := hv
  obtain ⟨⟨hx, hb, hml2, ho, ht⟩, hr⟩ := js_fx B hml
  have w : ∀ x ∈ js_ws, x.before [Value.ref a].toArray s = true := fun x h => ht x (js_up x (hJ x h))
  rw [lg_entry_eq]
  refine va_gets hx hb hZ va_S.rf ho (w (.fieldLink "java/lang/String" 38 "java/lang/String" "COMPACT_STRINGS" "Z") (by simp [js_ws])) (fun x h => h) (show decode prog_20_method_154_code 0 = .ok (.getstatic 38, 3) by decide +kernel) ?_
  refine lv_if_eq hx hb (tgt := 17) (show decode prog_20_method_154_code 3 = .ok (.ifCond .eq 14, 3) by decide +kernel) (by decide) (fun h => absurd h (by decide)) (fun _ => ?_)
  refine lv_aload_n hx hb (show decode prog_20_method_154_code 6 = .ok (.aload_n 0, 1) by decide +kernel) rfl rfl ?_
  refine vk_getf hx hb hC va_S.rf ho (w (.fieldLink "java/lang/String" 15 "java/lang/String" "coder" "B") (by simp [js_ws])) (fun x h => h) (show decode prog_20_method_154_code 7 = .ok (.getfield 15, 3) by decide +kernel) ?_
  refine lv_if_ne hx hb (tgt := 17) (show decode prog_20_method_154_code 10 = .ok (.ifCond .ne 7, 3) by decide +kernel) (by decide) (fun h => absurd rfl h) (fun _ => ?_)
  refine lv_iconst hx hb (v := 1) (show decode prog_20_method_154_code 13 = .ok (.iconst 1, 1) by decide +kernel) rfl ?_
  refine lv_goto hx hb (tgt := 18) (show decode prog_20_method_154_code 14 = .ok (.goto 4, 3) by decide +kernel) (by decide) ?_
  exact vx_ret (W.zret hx hb hr rfl (fun t ht hW => ⟨rfl, ht⟩) (fun q h => by cases h) (show decode prog_20_method_154_code 18 = .ok (.ireturn, 1) by decide +kernel) (hlocks := B.notSynchronized))
/-- Preconditions.checkIndex of an index within -/
theorem js_pcheck (hJ : ∀ x ∈ js_ws, x ∈ ev_UW) {i k : Int32} {fv : Value} (hfv : fv = .null ∨ ∃ z, fv = .ref z) (h0 : ¬ i < 0) (h1 : i < k) : js_M l B0 a v n f js_pi prog_28_method_11_code 3 (some .int) (js_rm 0 0) [.int i, .int k, fv] (some (.int i)) := by
  rcases hfv with rfl | ⟨fm, rfl⟩
  all_goals
    refine vx_ofW (by decide) rfl fun p e s m args below meth c s₁ B hml hT hv => ?_
    obtain ⟨rfl, hO, hC, hV, hA, hZ, hF⟩ := hv
    obtain ⟨⟨hx, hb, hml2, ho, ht⟩, hr⟩ := js_fx B hml
    rw [lg_entry_eq]
    refine lv_iload_n hx hb (show decode prog_28_method_11_code 0 = .ok (.iload_n 0, 1) by decide +kernel) rfl rfl ?_
    refine lv_if_lt hx hb (tgt := 9) (show decode prog_28_method_11_code 1 = .ok (.ifCond .lt 8, 3) by decide +kernel) (by decide) (fun h => absurd h h0) (fun _ => ?_)
    refine lv_iload_n hx hb (show decode prog_28_method_11_code 4 = .ok (.iload_n 0, 1) by decide +kernel) rfl rfl ?_
    refine lv_iload_n hx hb (show decode prog_28_method_11_code 5 = .ok (.iload_n 1, 1) by decide +kernel) rfl rfl ?_
    refine lv_icmp_lt hx hb (tgt := 16) (show decode prog_28_method_11_code 6 = .ok (.if_icmp .lt 10, 3) by decide +kernel) (by decide) (fun _ => ?_) (fun h => absurd h1 h)
    refine lv_iload_n hx hb (show decode prog_28_method_11_code 16 = .ok (.iload_n 0, 1) by decide +kernel) rfl rfl ?_
    exact vx_ret (W.zret hx hb hr rfl (fun t ht hW => ⟨rfl, ht⟩) (fun q h => by cases h) (show decode prog_28_method_11_code 17 = .ok (.ireturn, 1) by decide +kernel) (hlocks := B.notSynchronized))
theorem js_check (hJ : ∀ x ∈ js_ws, x ∈ ev_UW) {i k : Int32} (h0 : ¬ i < 0) (h1 : i < k) : js_M l B0 a v n f js_ci prog_20_method_155_code 2 none (js_rm 1 22) [.int i, .int k] none := by
  refine vx_ofW (by decide) rfl fun p e s m args below meth c s₁ B hml hT hv => ?_
  have hv' := hv
  obtain ⟨rfl, hO, hC, hV, hA, hZ, fv, hfv, hF⟩ := hv
  obtain ⟨hfx, hr⟩ := js_fx B hml
  obtain ⟨hx, hb, hml2, ho, ht⟩ := id hfx
  have w : ∀ x ∈ js_ws, x.before [Value.int i, Value.int k].toArray s = true := fun x h => ht x (js_up x (hJ x h))
  rw [lg_entry_eq]
  refine lv_iload_n hx hb (show decode prog_20_method_155_code 0 = .ok (.iload_n 0, 1) by decide +kernel) rfl rfl ?_
  refine lv_iload_n hx hb (show decode prog_20_method_155_code 1 = .ok (.iload_n 1, 1) by decide +kernel) rfl rfl ?_
  refine va_gets hx hb hF va_S.rf ho (w (.fieldLink "java/lang/String" 1053 "jdk/internal/util/Preconditions" "SIOOBE_FORMATTER" "Ljava/util/function/BiFunction;") (by simp [js_ws])) (fun x h => h) (show decode prog_20_method_155_code 2 = .ok (.getstatic 1053, 3) by decide +kernel) ?_
  refine js_callS (As := [.int i, .int k, fv]) (rest := []) (k := 3) hfx js_up (js_pcheck hJ hfv h0 h1) ⟨rfl, rfl⟩ (hJ _ (by simp [js_ws])) (hJ (.initialized "jdk/internal/util/Preconditions") (by simp [js_ws])) (hJ (.methodLink "java/lang/String" 1059 js_pi) (by simp [js_ws])) (hJ _ (by simp [js_ws])) ⟨by decide, by decide, by decide +kernel⟩ rfl (by decide) hv'.2 va_S.rf rfl (by decide) (show decode prog_20_method_155_code 5 = .ok (.invokestatic 1059, 3) by decide +kernel) ⟨Nat.le_refl _, Nat.le_refl _⟩ (fun locs1 hS => ?_)
  refine lv_pop hx hb (show decode prog_20_method_155_code 8 = .ok (.pop, 1) by decide +kernel) rfl ?_
  exact vx_ret (W.vret hx hb hr (fun t ht hW => ⟨rfl, ht⟩) hS.2.2 (show decode prog_20_method_155_code 9 = .ok (.return_, 1) by decide +kernel) (hlocks := B.notSynchronized))
theorem js_nar : ∀ z : Nat, z < 128 → (((nI z &&& 255).toUInt32 % 65536).toInt32 = nI z ∧ narrow .char (.int (nI z)) = .int (nI z)) := by decide +kernel
theorem js_shr : ∀ n : Nat, n < 9 → nI n >>> ((0 : Int32) &&& 31) = nI n := by decide +kernel
theorem js_lchar (hJ : ∀ x ∈ js_ws, x ∈ ev_UW) {j z : Nat} (hj : j < n) (hn : n < 9) (hz : f j = nI z) (hz2 : z < 128) : js_M l B0 a v n f js_lc prog_21_method_2_code 2 (some .char) (js_rm 2 43) [.ref v, .int (nI j)] (some (.int (nI z))) := by
  refine vx_ofW (by decide) rfl fun p e s m args below meth c s₁ B hml hT hv => ?_
  have hv' := hv
  obtain ⟨rfl, hO, hC, hV, hA, hZ, fv, hfv, hF⟩ := hv
  obtain ⟨hfx, hr⟩ := js_fx B hml
  obtain ⟨hx, hb, hml2, ho, ht⟩ := id hfx
  have nz := js_nar z hz2
  rw [lg_entry_eq]
  refine lv_iload_n hx hb (show decode prog_21_method_2_code 0 = .ok (.iload_n 1, 1) by decide +kernel) rfl rfl ?_
  refine lv_aload_n hx hb (show decode prog_21_method_2_code 1 = .ok (.aload_n 0, 1) by decide +kernel) rfl rfl ?_
  refine va_tlen hx hb hA va_S.rf (v := nI n) rfl (show decode prog_21_method_2_code 2 = .ok (.arraylength, 1) by decide +kernel) ?_
  refine js_callS (As := [.int (nI j), .int (nI n)]) (rest := []) (k := 2) hfx js_up (js_check hJ (nI_pos (by omega)) (nI_lt hj (by omega))) ⟨rfl, rfl⟩ (hJ _ (by simp [js_ws])) (hJ (.initialized "java/lang/String") (by simp [js_ws])) (hJ (.methodLink "java/lang/StringLatin1" 9 js_ci) (by simp [js_ws])) (hJ _ (by simp [js_ws])) ⟨by decide, by decide, by decide +kernel⟩ rfl (by decide) hv'.2 va_S.rf rfl (by decide) (show decode prog_21_method_2_code 3 = .ok (.invokestatic 9, 3) by decide +kernel) ⟨Nat.le_refl _, Nat.le_refl _⟩ (fun locs1 hS => ?_)
  refine lv_aload_n hx hb (show decode prog_21_method_2_code 6 = .ok (.aload_n 0, 1) by decide +kernel) rfl rfl ?_
  refine lv_iload_n hx hb (show decode prog_21_method_2_code 7 = .ok (.iload_n 1, 1) by decide +kernel) rfl rfl ?_
  refine va_tb hx hb hA hS (vp_in_nI hj (by omega)) (v := .int (nI z)) (by rw [nI_clamp (by omega), hz]) (show decode prog_21_method_2_code 8 = .ok (.baload, 1) by decide +kernel) ?_
  refine lv_sipush hx hb (v := 255) (show decode prog_21_method_2_code 9 = .ok (.sipush 255, 3) by decide +kernel) (by decide) ?_
  refine lv_iand hx hb (show decode prog_21_method_2_code 12 = .ok (.iand, 1) by decide +kernel) ?_
  refine lv_i2c hx hb (v := nI z) (show decode prog_21_method_2_code 13 = .ok (.i2c, 1) by decide +kernel) nz.1 ?_
  exact vx_ret (W.zret hx hb hr nz.2 (fun t ht hW => ⟨rfl, ht⟩) hS.2.2 (show decode prog_21_method_2_code 14 = .ok (.ireturn, 1) by decide +kernel) (hlocks := B.notSynchronized))
theorem js_length (hJ : ∀ x ∈ js_ws, x ∈ ev_UW) (hn : n < 9) : js_M l B0 a v n f js_ln prog_20_method_54_code 1 (some .int) (js_rm 1 22) [.ref a] (some (.int (nI n))) := by
  refine vx_ofW (by decide) rfl fun p e s m args below meth c s₁ B hml hT hv => ?_
  have hv' := hv
  obtain ⟨rfl, hO, hC, hV, hA, hZ, fv, hfv, hF⟩ := hv
  obtain ⟨hfx, hr⟩ := js_fx B hml
  obtain ⟨hx, hb, hml2, ho, ht⟩ := id hfx
  have w : ∀ x ∈ js_ws, x.before [Value.ref a].toArray s = true := fun x h => ht x (js_up x (hJ x h))
  rw [lg_entry_eq]
  refine lv_aload_n hx hb (show decode prog_20_method_54_code 0 = .ok (.aload_n 0, 1) by decide +kernel) rfl rfl ?_
  refine vk_getf hx hb hV va_S.rf ho (w (.fieldLink "java/lang/String" 9 "java/lang/String" "value" "[B") (by simp [js_ws])) (fun x h => h) (show decode prog_20_method_54_code 1 = .ok (.getfield 9, 3) by decide +kernel) ?_
  refine va_tlen hx hb hA va_S.rf (v := nI n) rfl (show decode prog_20_method_54_code 4 = .ok (.arraylength, 1) by decide +kernel) ?_
  refine lv_aload_n hx hb (show decode prog_20_method_54_code 5 = .ok (.aload_n 0, 1) by decide +kernel) rfl rfl ?_
  refine js_callV (As := []) (rest := [.int (nI n)]) (k := 0) hfx js_up (js_coder hJ) ⟨rfl, rfl⟩ (hJ _ (by simp [js_ws])) rfl (hJ _ (by simp [js_ws])) (w (.methodLink "java/lang/String" 335 js_co) (by simp [js_ws])) (hJ _ (by simp [js_ws])) (hJ _ (by simp [js_ws])) ⟨by decide, by decide, by decide +kernel⟩ rfl (by decide) hv'.2 va_S.rf rfl (Nat.le_of_ble_eq_true rfl) (show decode prog_20_method_54_code 6 = .ok (.invokevirtual 335, 3) by decide +kernel) ⟨Nat.le_refl _, Nat.le_refl _⟩ (fun locs1 hS => ?_)
  refine lv_ishr hx hb (show decode prog_20_method_54_code 9 = .ok (.ishr, 1) by decide +kernel) ?_
  rw [js_shr n hn]
  exact vx_ret (W.zret hx hb hr rfl (fun t ht hW => ⟨rfl, ht⟩) hS.2.2 (show decode prog_20_method_54_code 10 = .ok (.ireturn, 1) by decide +kernel) (hlocks := B.notSynchronized))
theorem js_char (hJ : ∀ x ∈ js_ws, x ∈ ev_UW) {j z : Nat} (hj : j < n) (hn : n < 9) (hz : f j = nI z) (hz2 : z < 128) : js_M l B0 a v n f js_ch prog_20_method_56_code 2 (some .char) (js_rm 3 64) [.ref a, .int (nI j)] (some (.int (nI z))) := by
  refine vx_ofW (by decide) rfl fun p e s m args below meth c s₁ B hml hT hv => ?_
  have hv' := hv
  obtain ⟨rfl, hO, hC, hV, hA, hZ, fv, hfv, hF⟩ := hv
  obtain ⟨hfx, hr⟩ := js_fx B hml
  obtain ⟨hx, hb, hml2, ho, ht⟩ := id hfx
  have nz := js_nar z hz2
  have w : ∀ x ∈ js_ws, x.before [Value.ref a, Value.int (nI j)].toArray s = true := fun x h => ht x (js_up x (hJ x h))
  rw [lg_entry_eq]
  refine lv_aload_n hx hb (show decode prog_20_method_56_code 0 = .ok (.aload_n 0, 1) by decide +kernel) rfl rfl ?_
  refine js_callV (As := []) (rest := []) (k := 0) hfx js_up (js_isLatin1 hJ) ⟨rfl, rfl⟩ (hJ _ (by simp [js_ws])) rfl (hJ _ (by simp [js_ws])) (w (.methodLink "java/lang/String" 492 js_il) (by simp [js_ws])) (hJ _ (by simp [js_ws])) (hJ _ (by simp [js_ws])) ⟨by decide, by decide, by decide +kernel⟩ rfl (by decide) hv'.2 va_S.rf rfl (by decide) (show decode prog_20_method_56_code 1 = .ok (.invokevirtual 492, 3) by decide +kernel) ⟨Nat.le_refl _, Nat.le_refl _⟩ (fun locs1 hS => ?_)
  refine lv_if_eq hx hb (tgt := 16) (show decode prog_20_method_56_code 4 = .ok (.ifCond .eq 12, 3) by decide +kernel) (by decide) (fun h => absurd h (by decide)) (fun _ => ?_)
  refine lv_aload_n hx hb (show decode prog_20_method_56_code 7 = .ok (.aload_n 0, 1) by decide +kernel) rfl rfl ?_
  refine vk_getf hx hb hV hS ho (w (.fieldLink "java/lang/String" 9 "java/lang/String" "value" "[B") (by simp [js_ws])) (fun x h => h) (show decode prog_20_method_56_code 8 = .ok (.getfield 9, 3) by decide +kernel) ?_
  refine lv_iload_n hx hb (show decode prog_20_method_56_code 11 = .ok (.iload_n 1, 1) by decide +kernel) rfl rfl ?_
  refine js_callS (As := [.ref v, .int (nI j)]) (rest := []) (k := 2) hfx js_up (js_lchar hJ hj hn hz hz2) ⟨rfl, rfl⟩ (hJ _ (by simp [js_ws])) (hJ (.initialized "java/lang/StringLatin1") (by simp [js_ws])) (hJ (.methodLink "java/lang/String" 495 js_lc) (by simp [js_ws])) (hJ _ (by simp [js_ws])) ⟨by decide, by decide, by decide +kernel⟩ rfl (by decide) hv'.2 hS rfl (by decide) (show decode prog_20_method_56_code 12 = .ok (.invokestatic 495, 3) by decide +kernel) ⟨Nat.le_refl _, Nat.le_refl _⟩ (fun locs2 hS2 => ?_)
  exact vx_ret (W.zret hx hb hr nz.2 (fun t ht hW => ⟨rfl, ht⟩) hS2.2.2 (show decode prog_20_method_56_code 15 = .ok (.ireturn, 1) by decide +kernel) (hlocks := B.notSynchronized))
end JST
section EVS
variable {D : va_G} {aC : Nat → ClassId} {b : ev_B} {B0 L : Nat} {σ : Nat → Int32}
variable {p : Program} {l : Launch} {e : Env} {R : Room} {s : State} {m : MethodId} {args : Array Value} {below : List Frame} {meth : Method} {c : Code} {Q : State → Prop}
variable {cc : ByteArray} {nL : Nat} {Ts : List Cond} {own : String} {Sg : List (String × (Nat × String))}
variable {Φ : ev_P} {M : ev_M} {k : ev_N} {cl : ev_F} {nx a b' c' pc : Nat} {tg : List Nat} {loc : ev_L} {st : List ev_V} {w : ev_W} {r : ev_S}
theorem ev_ad_s {i : Nat} (h : ev_tb ≤ i) : ev_ad b B0 i = b.2 (i - ev_tb) := by
  have e : ev_tb = 2000000 := rfl
  rw [e] at h ⊢
  unfold ev_ad
  rw [if_neg (by omega), if_pos h]
theorem ev_o_ldcs (hF : ev_Fx D aC b B0 L σ p s m args meth c cc nL Ts own Sg) (hk : ∀ pc loc st w, k pc loc st w = some r → ev_Go D aC b B0 σ p l e R s m args below meth c Q nL pc loc st w) (h : ev_h_ldcs Φ M k cl nx a b' c' tg pc loc st w = some r) (hi : ev_i_ldcs cc own pc nx a) : ev_Go D aC b B0 σ p l e R s m args below meth c Q nL pc loc st w := by
  obtain ⟨hx, hb, hml, ho, ht, hV, hZ, -⟩ := id hF
  obtain ⟨ha, h1, d, rfl⟩ := hi
  have h : ev_if (Nat.ble (a + 1) 26) (k (pc + 2) loc (.inr (.inl (some (ev_tb + a))) :: st) w) none = some r := h
  obtain ⟨-, h⟩ := ev_if_n h
  refine ev_pure hk h fun H locs ls hl g => ?_
  rw [List.map_cons] at g
  have e : ev_dn b B0 σ (.inr (.inl (some (ev_tb + a)))) = .ref (b.2 a) := by
    show Value.ref (ev_ad b B0 (ev_tb + a)) = _
    rw [ev_ad_s (by omega), Nat.add_sub_cancel_left]
  rw [e] at g
  subst h1
  exact va_ldcS hx hb ho (hZ.2.2.2.2.2 a ha).1 d g
/-- the text behind a thing -/
theorem ev_tx_ok {i : Nat} {t : List Nat} (hZ : ev_ZF b B0 L σ s s.heap) (h1 : ev_tin i = true) (h2 : ev_txt (i - ev_tb) = some t) : t.length < 9 ∧ (∀ j, t.getD j 0 < 128) ∧ ∃ v, js_T B0 (b.2 (i - ev_tb)) v t.length (fun j => nI (t.getD j 0)) s s.heap := by
  unfold ev_tin at h1
  rw [Bool.and_eq_true] at h1
  have k1 := Nat.le_of_ble_eq_true h1.1
  have k2 := Nat.le_of_ble_eq_true h1.2
  obtain ⟨q1, q2, q3, v, q4, q5⟩ := hZ.2.2.2.2.2 (i - ev_tb) (by omega)
  obtain ⟨l9, g1, g2, g3, g4⟩ := gtx_some (p := (i : Int))
  have eb : ev_bt (i - ev_tb) = t := by
    unfold ev_bt
    rw [h2]
    rfl
  have g1 : ev_txt (i - ev_tb) = some l9 := g1
  rw [h2] at g1
  have := Option.some.inj g1
  subst this
  rw [eb] at q5
  exact ⟨g3, g4, v, q2, q3, q4, q5, hZ.2.2.2.1, hZ.2.2.2.2.1⟩
theorem ev_o_slen (hF : ev_Fx D aC b B0 L σ p s m args meth c cc nL Ts own Sg) (hTs : ∀ x ∈ ev_UW, x ∈ Ts) (hR : 10 ≤ R.frames ∧ 100 ≤ R.locals) (hMR : M.2.1 ≤ R.cells ∧ M.2.2.1 ≤ R.slots) (hk : ∀ pc loc st w, k pc loc st w = some r → ev_Go D aC b B0 σ p l e R s m args below meth c Q nL pc loc st w) (h : ev_h_slen Φ M k cl nx a b' c' tg pc loc st w = some r) (hi : ev_i_str cc own pc nx js_ln) : ev_Go D aC b B0 σ p l e R s m args below meth c Q nL pc loc st w := by
  obtain ⟨hx, hb, hml, ho, ht, hV, hZ, hbB, hB, hlk⟩ := id hF
  obtain ⟨ix, d, rfl, w1, hJ⟩ := hi
  unfold ev_h_slen at h
  split at h
  · next i rr =>
    obtain ⟨h1, h⟩ := ev_if_n h
    rw [Bool.and_eq_true, Bool.and_eq_true] at h1
    split at h
    · next t htx =>
      obtain ⟨t1, t2, v, hT⟩ := ev_tx_ok hZ h1.1 htx
      have k1 := Nat.le_of_ble_eq_true h1.2.1
      have k2 := ev_cs_ok (b := b) (B0 := B0) (σ := σ) rr
      have k3 := ev_may_ok h1.2.2 hMR
      have hi : ev_tb ≤ i := by
        have := h1.1
        unfold ev_tin at this
        rw [Bool.and_eq_true] at this
        exact Nat.le_of_ble_eq_true this.1
      intro H locs ls hl hJ2 hS
      rw [List.map_cons]
      have e : ev_dn b B0 σ (.inr (.inl (some i))) = .ref (b.2 (i - ev_tb)) := by
        show Value.ref (ev_ad b B0 i) = _
        rw [ev_ad_s hi]
      rw [e]
      refine js_callV (As := []) (k := 0) ⟨hx, hb, hml, ho, ht⟩ hTs (js_length hJ t1) ⟨rfl, rfl⟩ (hJ _ (by simp [js_ws])) rfl (hJ _ (by simp [js_ws])) (ht _ (hTs _ w1)) (hJ _ (by simp [js_ws])) (hJ _ (by simp [js_ws])) ⟨by decide, by decide, by decide +kernel⟩ rfl (by show 1 + 1 ≤ _ ∧ 8 + (1 + 11) + 22 ≤ _; omega) hT hS hl.1 (by omega) d ⟨by omega, by omega⟩ (fun locs1 hS1 => ?_)
      exact hk _ _ _ _ h H locs1 ls hl hJ2 hS1
    · cases h
  · cases h
theorem ev_o_chat (hF : ev_Fx D aC b B0 L σ p s m args meth c cc nL Ts own Sg) (hTs : ∀ x ∈ ev_UW, x ∈ Ts) (hR : 10 ≤ R.frames ∧ 100 ≤ R.locals) (hMR : M.2.1 ≤ R.cells ∧ M.2.2.1 ≤ R.slots) (hk : ∀ pc loc st w, k pc loc st w = some r → ev_Go D aC b B0 σ p l e R s m args below meth c Q nL pc loc st w) (h : ev_h_chat Φ M k cl nx a b' c' tg pc loc st w = some r) (hi : ev_i_str cc own pc nx js_ch) : ev_Go D aC b B0 σ p l e R s m args below meth c Q nL pc loc st w := by
  obtain ⟨hx, hb, hml, ho, ht, hV, hZ, hbB, hB, hlk⟩ := id hF
  obtain ⟨ix, d, rfl, w1, hJ⟩ := hi
  unfold ev_h_chat at h
  split at h
  · next j i rr =>
    obtain ⟨h1, h⟩ := ev_if_n h
    rw [Bool.and_eq_true, Bool.and_eq_true] at h1
    split at h
    · next t htx =>
      split at h
      · next z hz =>
        obtain ⟨t1, t2, v, hT⟩ := ev_tx_ok hZ h1.1 htx
        have k1 := Nat.le_of_ble_eq_true h1.2.1
        have k2 := ev_cs_ok (b := b) (B0 := B0) (σ := σ) rr
        have k3 := ev_may_ok h1.2.2 hMR
        rw [ev_lg_eq] at hz
        have hj : j < t.length := (List.getElem?_eq_some_iff.mp hz).1
        have ez : t.getD j 0 = z := by rw [List.getD_eq_getElem?_getD, hz]; rfl
        have hi : ev_tb ≤ i := by
          have := h1.1
          unfold ev_tin at this
          rw [Bool.and_eq_true] at this
          exact Nat.le_of_ble_eq_true this.1
        intro H locs ls hl hJ2 hS
        rw [List.map_cons, List.map_cons]
        have e : ev_dn b B0 σ (.inr (.inl (some i))) = .ref (b.2 (i - ev_tb)) := by
          show Value.ref (ev_ad b B0 i) = _
          rw [ev_ad_s hi]
        rw [e]
        refine js_callV (As := [.int (nI j)]) (k := 1) ⟨hx, hb, hml, ho, ht⟩ hTs (js_char hJ hj t1 (z := z) (by rw [ez]) (by rw [← ez]; exact t2 j)) ⟨rfl, rfl⟩ (hJ _ (by simp [js_ws])) rfl (hJ _ (by simp [js_ws])) (ht _ (hTs _ w1)) (hJ _ (by simp [js_ws])) (hJ _ (by simp [js_ws])) ⟨by decide, by decide, by decide +kernel⟩ rfl (by show 3 + 1 ≤ _ ∧ 8 + (2 + 11) + 64 ≤ _; omega) hT hS hl.1 (by omega) d ⟨by omega, by omega⟩ (fun locs1 hS1 => ?_)
        exact hk _ _ _ _ h H locs1 ls hl hJ2 hS1
      · cases h
    · cases h
  · cases h
end EVS
/-! ===== runs of the evaluator, whole (own work) ===== -/
section EVW
variable {D : va_G} {aC : Nat → ClassId} {b : ev_B} {B0 L : Nat} {σ : Nat → Int32}
variable {Φ : ev_P} {Sg : List (String × (Nat × String))} {I : Nat → ev_Im} {P : Nat → ev_M} {l : Launch}
/-- the answers and throws of a frame -/
def ev_Ret (I : Nat → ev_Im) (P : Nat → ev_M) (Sg : List (String × (Nat × String))) (Φ : ev_P) (D : va_G) (aC : Nat → ClassId) (b : ev_B) (B0 : Nat) (σ : Nat → Int32) (p : Program) (l : Launch) (e : Env) (R : Room) (s : State) (m : MethodId) (args : Array Value) (below : List Frame) (meth : Method) (c : Code) (Q : State → Prop) (Ts : List Cond) (y : MethodName) (cc : ByteArray) (ret : Option FieldType) (nL : Nat) (M : ev_M) (r : ev_S) : Prop :=
  ∀ (op nx a b' c' : Nat) (tg : List Nat) (pc : Nat) (loc : ev_L) (st : List ev_V) (w : ev_W) (k : ev_N) (cl : ev_F), (op = 37 ∨ op = 38 ∨ op = 39 ∨ op = 40 ∨ op = 41 ∨ op = 46) → M.2.2.2.2 pc = (op, (nx, (a, (b', (c', tg))))) → ev_eok I P Sg Ts y cc ret nL pc op nx a b' c' tg → ev_sel op Φ M k cl nx a b' c' tg pc loc st w = some r →
    ev_Go D aC b B0 σ p l e R s m args below meth c Q nL pc loc st w
/-- a frame of the machine that follows the evaluator's method M with the end r -/
def ev_Fr (I : Nat → ev_Im) (P : Nat → ev_M) (Sg : List (String × (Nat × String))) (Φ : ev_P) (D : va_G) (aC : Nat → ClassId) (b : ev_B) (B0 L : Nat) (σ : Nat → Int32) (p : Program) (l : Launch) (e : Env) (R : Room) (s : State) (m : MethodId) (args : Array Value) (below : List Frame) (meth : Method) (c : Code) (Q : State → Prop) (Ts : List Cond) (y : MethodName) (cc : ByteArray) (ret : Option FieldType) (hh : List (Nat × Nat × Nat × Nat)) (nL d : Nat) (M : ev_M) (r : ev_S) : Prop :=
  ev_Fx D aC b B0 L σ p s m args meth c cc nL Ts y.cls Sg ∧ (∀ x ∈ ev_UW, x ∈ Ts) ∧ ev_cok I P Sg Ts y cc ret nL M.2.2.2.2 ∧ meth.name = y.name ∧ ev_hok y.cls Ts hh M.2.2.2.1 ∧ c.exceptionTable.toList = tableOf hh ∧ (M.2.1 ≤ R.cells ∧ M.2.2.1 ≤ R.slots) ∧ (10 + d ≤ R.frames ∧ 100 + 70 * d ≤ R.locals) ∧
  ev_Ret I P Sg Φ D aC b B0 σ p l e R s m args below meth c Q Ts y cc ret nL M r ∧ ev_Out D aC b B0 σ p l e R s m args below meth c Q y.cls M r
/-- n steps of the evaluator are right, in any frame -/
def ev_Ok (I : Nat → ev_Im) (P : Nat → ev_M) (Sg : List (String × (Nat × String))) (Φ : ev_P) (D : va_G) (aC : Nat → ClassId) (b : ev_B) (B0 L : Nat) (σ : Nat → Int32) (l : Launch) (n : Nat) : Prop :=
  ∀ (p : Program) (e : Env) (R : Room) (s : State) (m : MethodId) (args : Array Value) (below : List Frame) (meth : Method) (c : Code) (Q : State → Prop) (Ts : List Cond) (y : MethodName) (cc : ByteArray) (ret : Option FieldType) (hh : List (Nat × Nat × Nat × Nat)) (nL d : Nat) (M : ev_M) (r : ev_S),
    ev_Fr I P Sg Φ D aC b B0 L σ p l e R s m args below meth c Q Ts y cc ret hh nL d M r → ∀ pc loc st w, ev_run Φ P n d M pc loc st w = some r → ev_Go D aC b B0 σ p l e R s m args below meth c Q nL pc loc st w
theorem ev_args_in {vs : List Value} (h : ∀ v ∈ vs, v.category = 1) : ∀ (i k : Nat) (v : Value), vs[k]? = some v → (i + k, v) ∈ lv_args i vs := by
  induction vs with
  | nil => intro i k v hk; simp at hk
  | cons x t ih =>
    intro i k v hk
    have hx : ¬ x.category = 2 := by
      rw [h x List.mem_cons_self]
      decide
    show (i + k, v) ∈ (i, x) :: lv_args (if x.category = 2 then i + 2 else i + 1) t
    rw [if_neg hx]
    cases k with
    | zero =>
      have hk : some x = some v := hk
      cases hk
      exact List.mem_cons_self
    | succ k =>
      have hk : t[k]? = some v := by simpa using hk
      have := ih (fun v hv => h v (List.mem_cons_of_mem _ hv)) (i + 1) k v hk
      rw [show i + (k + 1) = i + 1 + k by omega]
      exact List.mem_cons_of_mem _ this
theorem ev_sl_len {vs : List Value} (h : ∀ v ∈ vs, v.category = 1) : (lg_sl vs).length = vs.length := by
  induction vs with
  | nil => rfl
  | cons x t ih =>
    have hx : ¬ x.category = 2 := by
      rw [h x List.mem_cons_self]
      decide
    unfold lg_sl at ih ⊢
    rw [List.flatMap_cons, if_neg hx, List.length_append, ih (fun v hv => h v (List.mem_cons_of_mem _ hv))]
    simp only [List.length_cons, List.length_nil]
    omega
theorem ev_entry {As : List ev_V} {nL : Nat} {ls : Array Slot} (hw : As.all (fun v => !ev_wide v) = true) (hn : As.length ≤ nL) (h : lv_has ls nL (lv_args 0 (As.map (ev_dn b B0 σ)))) : ev_lh b B0 σ nL (ev_loc nL As) ls := by
  have hc : ∀ v ∈ As.map (ev_dn b B0 σ), v.category = 1 := fun v hv => by
    obtain ⟨a, ha, rfl⟩ := List.mem_map.mp hv
    exact ev_dn_c (by simpa using List.all_eq_true.mp hw a ha)
  refine ⟨h.1, h.2.1, fun i v hi => ?_⟩
  rw [ev_lg_eq] at hi
  unfold ev_loc at hi
  by_cases hl : i < As.length
  · rw [List.getElem?_append_left (by rw [List.length_map]; exact hl), List.getElem?_map] at hi
    cases hv : As[i]? with
    | none => rw [hv] at hi; cases hi
    | some a =>
      rw [hv] at hi
      have hi : some (some a) = some (some v) := hi
      have e := Option.some.inj (Option.some.inj hi)
      subst e
      have := ev_args_in hc 0 i (ev_dn b B0 σ a) (by rw [List.getElem?_map, hv]; rfl)
      rw [Nat.zero_add] at this
      exact h.2.2 _ this
  · rw [List.getElem?_append_right (by rw [List.length_map]; omega), List.getElem?_replicate] at hi
    split at hi <;> cases hi
/-- a method's contract out of the evaluator's run of it -/
theorem ev_met {n : Nat} (ih : ev_Ok I P Sg Φ D aC b B0 L σ l n) (hP : ∀ i, ev_mok I P Sg i) (hl9 : l.stackTraces = false) {i d : Nat} {As : List ev_V} {w : ev_W} {r2 : ev_S} (hr : ev_run Φ P n d (P i) 0 (ev_loc (P i).1 As) [] w = some r2) (hn : As.length ≤ (P i).1) (hw : As.all (fun v => !ev_wide v) = true) (hw0 : w.2.2.2 = (0, 0)) :
    vx_Met l (I i).1 (ev_wm (I i) (P i).1) (ev_rm d (P i).2.1 (P i).2.2.1) (ev_Pc D aC b B0 L σ Sg As w) (ev_Qc D aC b B0 σ r2) (ev_Xc D aC b B0 σ r2) (P i).2.1 (P i).2.2.1 (fun q => B0 ≤ q) := by
  obtain ⟨hpl, hcok, hhok, hno, hno2⟩ := hP i
  have hc : ∀ v ∈ As.map (ev_dn b B0 σ), v.category = 1 := fun v hv => by
    obtain ⟨a, ha, rfl⟩ := List.mem_map.mp hv
    exact ev_dn_c (by simpa using List.all_eq_true.mp hw a ha)
  have main : ∀ (p : Program) (e : Env) (s : State) (m : MethodId) (args : Array Value) (below : List Frame) (meth : Method) (c : Code) (s₁ : State), BodyLoose p l (I i).1 (headSpec (ev_wm (I i) (P i).1) (ev_rm d (P i).2.1 (P i).2.2.1)) (I i).2.1 (P i).1 (I i).2.2.1 e s m args below meth c s₁ → c.maxLocals = (P i).1 → c.exceptionTable.toList = tableOf (I i).2.2.2 → ev_Pc D aC b B0 L σ Sg As w args s →
      W p l e (headSpec (ev_wm (I i) (P i).1) (ev_rm d (P i).2.1 (P i).2.2.1)).room s m args below meth c s.heap [] 0 0 (vx_MQ below (ev_Qc D aC b B0 σ r2) (ev_Xc D aC b B0 σ r2) args s (P i).2.1 (P i).2.2.1 (fun q => B0 ≤ q)) (entryFrame m args (P i).1) := by
    intro p e s m args below meth c s₁ B hml hT hv
    obtain ⟨rfl, hJ, hV, hZ, hbB, hB⟩ := hv
    have hF : ev_Fx D aC b B0 L σ p s m (As.map (ev_dn b B0 σ)).toArray meth c (I i).2.1 (P i).1 (ev_wm (I i) (P i).1) (I i).1.cls Sg :=
      ⟨B.exec, B.bytes, hml, findClass_of_methodNamed B.named, atoms_spec (ws := ev_wm (I i) (P i).1) B.pre, hV, hZ, hbB, hB, B.notSynchronized⟩
    have hname : meth.name = (I i).1.name := (name_of_methodNamed B.named B.method).1
    have hret : meth.sig.returnType = (I i).2.2.1 := B.returns
    have hl0 := lv_entry (As.map (ev_dn b B0 σ)) (n := (P i).1) (by rw [ev_sl_len hc, List.length_map]; exact hn)
    rw [lg_entry_eq]
    generalize (lg_sl (As.map (ev_dn b B0 σ)) ++ List.replicate ((P i).1 - (lg_sl (As.map (ev_dn b B0 σ))).length) Slot.unset).toArray = ls at hl0 ⊢
    have hl := ev_entry hw hn hl0
    have hR : (10 ≤ (ev_rm d (P i).2.1 (P i).2.2.1).frames ∧ 100 ≤ (ev_rm d (P i).2.1 (P i).2.2.1).locals) := ⟨Nat.le_add_right _ _, Nat.le_add_right _ _⟩
    have hMR : (P i).2.1 ≤ (ev_rm d (P i).2.1 (P i).2.2.1).cells ∧ (P i).2.2.1 ≤ (ev_rm d (P i).2.1 (P i).2.2.1).slots := ⟨Nat.le_refl _, Nat.le_refl _⟩
    have hRet : ev_Ret I P Sg Φ D aC b B0 σ p l e (ev_rm d (P i).2.1 (P i).2.2.1) s m (As.map (ev_dn b B0 σ)).toArray below meth c (vx_MQ below (ev_Qc D aC b B0 σ r2) (ev_Xc D aC b B0 σ r2) (As.map (ev_dn b B0 σ)).toArray s (P i).2.1 (P i).2.2.1 (fun q => B0 ≤ q)) (ev_wm (I i) (P i).1) (I i).1 (I i).2.1 (I i).2.2.1 (P i).1 (P i) r2 := by
      intro op nx a b' c' tg pc loc st w k cl hop hcode hok h
      rcases hop with rfl | rfl | rfl | rfl | rfl | rfl
      · have hh0 : (I i).2.2.2 = [] := by
          cases hz : (I i).2.2.2 with
          | nil => rfl
          | cons q t => exact absurd (by rw [hcode]) (hno (by rw [hz]; exact fun z => by cases z) pc)
        exact ev_o_throw hF hl9 hR hMR (fun x hx => by rw [hT, hh0] at hx; cases hx) rfl (show ev_h_throw Φ (P i) k cl nx a b' c' tg pc loc st w = some r2 from h) hok
      · exact ev_o_vret hF rfl (show ev_h_vret Φ (P i) k cl nx a b' c' tg pc loc st w = some r2 from h) ⟨hok.1, hret.trans hok.2⟩
      · refine ev_o_iret hF rfl (show ev_h_iret Φ (P i) k cl nx a b' c' tg pc loc st w = some r2 from h) ⟨hok.1, ?_⟩
        rw [hret]
        exact hok.2
      · refine ev_o_aret hF rfl (show ev_h_aret Φ (P i) k cl nx a b' c' tg pc loc st w = some r2 from h) ⟨hok.1, ?_⟩
        rw [hret]
        exact hok.2
      · refine ev_o_wret hF rfl (show ev_h_wret Φ (P i) k cl nx a b' c' tg pc loc st w = some r2 from h) ?_
        rw [hret]
        exact hok
      · exact absurd (by rw [hcode]) (hno2 pc)
    have hOut : ev_Out D aC b B0 σ p l e (ev_rm d (P i).2.1 (P i).2.2.1) s m (As.map (ev_dn b B0 σ)).toArray below meth c (vx_MQ below (ev_Qc D aC b B0 σ r2) (ev_Xc D aC b B0 σ r2) (As.map (ev_dn b B0 σ)).toArray s (P i).2.1 (P i).2.2.1 (fun q => B0 ≤ q)) (I i).1.cls (P i) r2 := by
      intro E w H locs ls rest pc q ce hE hr2 hmay hJ hS hpass hq hv hcl
      obtain ⟨m1, m2⟩ := ev_may0 hmay
      exact vx_outP hF.2.2.2.1 B.notSynchronized hpass hq hv hcl (fun t ht hv => ⟨E, w, hr2, rfl, hE, by rw [ht]; exact hJ, hS.F ht⟩) hS.2.2 m1 m2
    have go := ih p e (ev_rm d (P i).2.1 (P i).2.2.1) s m (As.map (ev_dn b B0 σ)).toArray below meth c _ (ev_wm (I i) (P i).1) (I i).1 (I i).2.1 (I i).2.2.1 (I i).2.2.2 (P i).1 d (P i) r2
      ⟨hF, fun x hx => List.mem_cons_of_mem _ hx, hcok, hname, hhok, hT, hMR, ⟨Nat.le_refl _, Nat.le_refl _⟩, hRet, hOut⟩ 0 (ev_loc (P i).1 As) [] w hr s.heap [] ls hl hJ va_S.rf
    rw [hw0] at go
    exact go
  cases hz : (I i).2.2.2 with
  | nil =>
    have hcw : ev_wm (I i) (P i).1 = Cond.code (I i).1 (I i).2.1 (P i).1 (I i).2.2.1 :: ev_UW := by
      unfold ev_wm ev_cw
      rw [hz]
    refine vx_ofW hpl hcw fun p e s m args below meth c s₁ B hml hT hv => main p e s m args below meth c s₁ B hml ?_ hv
    rw [hz]
    cases ht : c.exceptionTable.toList with
    | nil => rfl
    | cons x t => exact (hT x (by rw [ht]; exact List.mem_cons_self)).elim
  | cons q t =>
    have hcw : ev_wm (I i) (P i).1 = Cond.codeWith (I i).1 (I i).2.1 (P i).1 (I i).2.2.1 (q :: t) :: ev_UW := by
      unfold ev_wm ev_cw
      rw [hz]
    refine vx_ofWH hpl hcw fun p e s m args below meth c s₁ B hml hv => main p e s m args below meth c s₁ B hml ?_ hv
    rw [hz]
    exact vx_table (x := (I i).1) B (atoms_spec (ws := ev_wm (I i) (P i).1) B.pre _ (by rw [hcw]; exact List.mem_cons_self))
theorem ev_exec_eq (Φ : ev_P) (M : ev_M) (k : ev_N) (cl : ev_F) (x : ev_E) (pc : Nat) (loc : ev_L) (st : List ev_V) (w : ev_W) : ev_exec Φ M k cl x pc loc st w = ev_sel x.1 Φ M k cl x.2.1 x.2.2.1 x.2.2.2.1 x.2.2.2.2.1 x.2.2.2.2.2 pc loc st w := rfl
theorem ev_call_none {M : ev_M} {k : ev_N} {cl : ev_F} {nx a b' c' pc : Nat} {tg : List Nat} {loc : ev_L} {st : List ev_V} {w : ev_W} {r : ev_S} (hcl : ∀ a As w, cl a As w = none) (h : ev_h_call Φ M k cl nx a b' c' tg pc loc st w = some r) : False := by
  unfold ev_h_call at h
  split at h
  · split at h
    · obtain ⟨h1, h⟩ := ev_if_n h
      obtain ⟨h2, h⟩ := ev_if_n h
      rw [hcl] at h
      cases h
    · cases h
  · cases h
theorem ev_main (hP : ∀ i, ev_mok I P Sg i) (hl9 : l.stackTraces = false) (hcast : ∀ i, i < 4 → Cond.castable (ev_ex i) (ev_ex i) ∈ lw_tbl) (hΦ : ev_FO Φ σ) (hL : Φ.1 ≤ 5000 → Φ.1 = L) : ∀ n, ev_Ok I P Sg Φ D aC b B0 L σ l n := by
  intro n
  induction n with
  | zero => exact fun p e R s m args below meth c Q Ts y cc ret hh nL d M r _ pc loc st w h => absurd h (fun z => by cases z)
  | succ n ih =>
    intro p e R s m args below meth c Q Ts y cc ret hh nL d M r hFr pc loc st w h
    obtain ⟨hF, hTs, hcok, hname, hhok, hT, hMR, hRd, hRet, hOut⟩ := id hFr
    have hk : ∀ pc loc st w, ev_run Φ P n d M pc loc st w = some r → ev_Go D aC b B0 σ p l e R s m args below meth c Q nL pc loc st w := ih p e R s m args below meth c Q Ts y cc ret hh nL d M r hFr
    have h : ev_exec Φ M (ev_run Φ P n d M) (fun mi As w => Nat.rec (motive := fun _ => ev_R) none (fun d' _ => ev_run Φ P n d' (P mi) 0 (ev_loc (P mi).1 As) [] w) d) (M.2.2.2.2 pc) pc loc st w = some r := h
    rw [ev_exec_eq] at h
    have hst : ∀ pc nx a tg, (M.2.2.2.2 pc) = (10, (nx, (a, tg))) → ev_i_st cc nL pc nx a .astore .astore_n := fun pc nx a tg hc => by
      have := hcok pc
      rw [hc] at this
      exact this
    have hok := hcok pc
    have hR1 : 1 ≤ R.frames ∧ 100 ≤ R.locals := ⟨by omega, by omega⟩
    generalize hx : M.2.2.2.2 pc = x at h hok
    obtain ⟨op, nx, a, b', c', tg⟩ := x
    dsimp only at h hok
    match op, h, hok, hx with
    | 0, h, _, _ => exact absurd h (fun z => by cases z)
    | 1, h, hok, _ => exact ev_o_int hF hk (show ev_h_int Φ M (ev_run Φ P n d M) (fun mi As w => Nat.rec (motive := fun _ => ev_R) none (fun d' _ => ev_run Φ P n d' (P mi) 0 (ev_loc (P mi).1 As) [] w) d) nx a b' c' tg pc loc st w = some r from h) hok
    | 2, h, hok, _ => exact ev_o_null hF hk (show ev_h_null Φ M (ev_run Φ P n d M) (fun mi As w => Nat.rec (motive := fun _ => ev_R) none (fun d' _ => ev_run Φ P n d' (P mi) 0 (ev_loc (P mi).1 As) [] w) d) nx a b' c' tg pc loc st w = some r from h) hok
    | 3, h, hok, _ => exact ev_o_wide hF hk (show ev_h_wide Φ M (ev_run Φ P n d M) (fun mi As w => Nat.rec (motive := fun _ => ev_R) none (fun d' _ => ev_run Φ P n d' (P mi) 0 (ev_loc (P mi).1 As) [] w) d) nx a b' c' tg pc loc st w = some r from h) hok
    | 6, h, hok, _ => exact ev_o_iload hF hk (show ev_h_iload Φ M (ev_run Φ P n d M) (fun mi As w => Nat.rec (motive := fun _ => ev_R) none (fun d' _ => ev_run Φ P n d' (P mi) 0 (ev_loc (P mi).1 As) [] w) d) nx a b' c' tg pc loc st w = some r from h) hok
    | 7, h, hok, _ => exact ev_o_aload hF hk (show ev_h_aload Φ M (ev_run Φ P n d M) (fun mi As w => Nat.rec (motive := fun _ => ev_R) none (fun d' _ => ev_run Φ P n d' (P mi) 0 (ev_loc (P mi).1 As) [] w) d) nx a b' c' tg pc loc st w = some r from h) hok
    | 8, h, hok, _ => exact ev_o_dload hF hk (show ev_h_dload Φ M (ev_run Φ P n d M) (fun mi As w => Nat.rec (motive := fun _ => ev_R) none (fun d' _ => ev_run Φ P n d' (P mi) 0 (ev_loc (P mi).1 As) [] w) d) nx a b' c' tg pc loc st w = some r from h) hok
    | 9, h, hok, _ => exact ev_o_istore hF hk (show ev_h_istore Φ M (ev_run Φ P n d M) (fun mi As w => Nat.rec (motive := fun _ => ev_R) none (fun d' _ => ev_run Φ P n d' (P mi) 0 (ev_loc (P mi).1 As) [] w) d) nx a b' c' tg pc loc st w = some r from h) hok
    | 10, h, hok, _ => exact ev_o_astore hF hk (show ev_h_astore Φ M (ev_run Φ P n d M) (fun mi As w => Nat.rec (motive := fun _ => ev_R) none (fun d' _ => ev_run Φ P n d' (P mi) 0 (ev_loc (P mi).1 As) [] w) d) nx a b' c' tg pc loc st w = some r from h) hok
    | 11, h, hok, _ => exact ev_o_dstore hF hk (show ev_h_dstore Φ M (ev_run Φ P n d M) (fun mi As w => Nat.rec (motive := fun _ => ev_R) none (fun d' _ => ev_run Φ P n d' (P mi) 0 (ev_loc (P mi).1 As) [] w) d) nx a b' c' tg pc loc st w = some r from h) hok
    | 12, h, hok, _ => exact ev_o_iinc hF hk (show ev_h_iinc Φ M (ev_run Φ P n d M) (fun mi As w => Nat.rec (motive := fun _ => ev_R) none (fun d' _ => ev_run Φ P n d' (P mi) 0 (ev_loc (P mi).1 As) [] w) d) nx a b' c' tg pc loc st w = some r from h) hok
    | 13, h, hok, _ => exact ev_o_iadd hF hk (show ev_h_iadd Φ M (ev_run Φ P n d M) (fun mi As w => Nat.rec (motive := fun _ => ev_R) none (fun d' _ => ev_run Φ P n d' (P mi) 0 (ev_loc (P mi).1 As) [] w) d) nx a b' c' tg pc loc st w = some r from h) hok
    | 14, h, hok, _ => exact ev_o_isub hF hk (show ev_h_isub Φ M (ev_run Φ P n d M) (fun mi As w => Nat.rec (motive := fun _ => ev_R) none (fun d' _ => ev_run Φ P n d' (P mi) 0 (ev_loc (P mi).1 As) [] w) d) nx a b' c' tg pc loc st w = some r from h) hok
    | 15, h, hok, _ => exact ev_o_ibin hF hk (show ev_h_ibin Φ M (ev_run Φ P n d M) (fun mi As w => Nat.rec (motive := fun _ => ev_R) none (fun d' _ => ev_run Φ P n d' (P mi) 0 (ev_loc (P mi).1 As) [] w) d) nx a b' c' tg pc loc st w = some r from h) hok
    | 16, h, hok, _ => exact ev_o_if0 hF hΦ hk (show ev_h_if0 Φ M (ev_run Φ P n d M) (fun mi As w => Nat.rec (motive := fun _ => ev_R) none (fun d' _ => ev_run Φ P n d' (P mi) 0 (ev_loc (P mi).1 As) [] w) d) nx a b' c' tg pc loc st w = some r from h) hok
    | 17, h, hok, _ => exact ev_o_icmp hF hΦ hk (show ev_h_icmp Φ M (ev_run Φ P n d M) (fun mi As w => Nat.rec (motive := fun _ => ev_R) none (fun d' _ => ev_run Φ P n d' (P mi) 0 (ev_loc (P mi).1 As) [] w) d) nx a b' c' tg pc loc st w = some r from h) hok
    | 18, h, hok, _ => exact ev_o_acmp hF hk (show ev_h_acmp Φ M (ev_run Φ P n d M) (fun mi As w => Nat.rec (motive := fun _ => ev_R) none (fun d' _ => ev_run Φ P n d' (P mi) 0 (ev_loc (P mi).1 As) [] w) d) nx a b' c' tg pc loc st w = some r from h) hok
    | 19, h, hok, _ => exact ev_o_isnull hF hk (show ev_h_isnull Φ M (ev_run Φ P n d M) (fun mi As w => Nat.rec (motive := fun _ => ev_R) none (fun d' _ => ev_run Φ P n d' (P mi) 0 (ev_loc (P mi).1 As) [] w) d) nx a b' c' tg pc loc st w = some r from h) hok
    | 20, h, hok, _ => exact ev_o_goto hF hk (show ev_h_goto Φ M (ev_run Φ P n d M) (fun mi As w => Nat.rec (motive := fun _ => ev_R) none (fun d' _ => ev_run Φ P n d' (P mi) 0 (ev_loc (P mi).1 As) [] w) d) nx a b' c' tg pc loc st w = some r from h) hok
    | 21, h, hok, _ => exact ev_o_dup hF hk (show ev_h_dup Φ M (ev_run Φ P n d M) (fun mi As w => Nat.rec (motive := fun _ => ev_R) none (fun d' _ => ev_run Φ P n d' (P mi) 0 (ev_loc (P mi).1 As) [] w) d) nx a b' c' tg pc loc st w = some r from h) hok
    | 22, h, hok, _ => exact ev_o_dup2 hF hk (show ev_h_dup2 Φ M (ev_run Φ P n d M) (fun mi As w => Nat.rec (motive := fun _ => ev_R) none (fun d' _ => ev_run Φ P n d' (P mi) 0 (ev_loc (P mi).1 As) [] w) d) nx a b' c' tg pc loc st w = some r from h) hok
    | 23, h, hok, _ => exact ev_o_pop hF hk (show ev_h_pop Φ M (ev_run Φ P n d M) (fun mi As w => Nat.rec (motive := fun _ => ev_R) none (fun d' _ => ev_run Φ P n d' (P mi) 0 (ev_loc (P mi).1 As) [] w) d) nx a b' c' tg pc loc st w = some r from h) hok
    | 24, h, hok, _ => exact ev_o_getf hF hk (show ev_h_getf Φ M (ev_run Φ P n d M) (fun mi As w => Nat.rec (motive := fun _ => ev_R) none (fun d' _ => ev_run Φ P n d' (P mi) 0 (ev_loc (P mi).1 As) [] w) d) nx a b' c' tg pc loc st w = some r from h) hok
    | 25, h, hok, _ =>
      refine ev_o_putf hF hk (show ev_h_putf Φ M (ev_run Φ P n d M) (fun mi As w => Nat.rec (motive := fun _ => ev_R) none (fun d' _ => ev_run Φ P n d' (P mi) 0 (ev_loc (P mi).1 As) [] w) d) nx a b' c' tg pc loc st w = some r from h) ?_
      rw [hname]
      exact hok
    | 26, h, hok, _ => exact ev_o_alen hF hL hk (show ev_h_alen Φ M (ev_run Φ P n d M) (fun mi As w => Nat.rec (motive := fun _ => ev_R) none (fun d' _ => ev_run Φ P n d' (P mi) 0 (ev_loc (P mi).1 As) [] w) d) nx a b' c' tg pc loc st w = some r from h) hok
    | 27, h, hok, _ => exact ev_o_iald hF hL hΦ hk (show ev_h_iald Φ M (ev_run Φ P n d M) (fun mi As w => Nat.rec (motive := fun _ => ev_R) none (fun d' _ => ev_run Φ P n d' (P mi) 0 (ev_loc (P mi).1 As) [] w) d) nx a b' c' tg pc loc st w = some r from h) hok
    | 28, h, hok, _ => exact ev_o_iast hF hk (show ev_h_iast Φ M (ev_run Φ P n d M) (fun mi As w => Nat.rec (motive := fun _ => ev_R) none (fun d' _ => ev_run Φ P n d' (P mi) 0 (ev_loc (P mi).1 As) [] w) d) nx a b' c' tg pc loc st w = some r from h) hok
    | 29, h, hok, _ => exact ev_o_ald hF hk (show ev_h_ald Φ M (ev_run Φ P n d M) (fun mi As w => Nat.rec (motive := fun _ => ev_R) none (fun d' _ => ev_run Φ P n d' (P mi) 0 (ev_loc (P mi).1 As) [] w) d) nx a b' c' tg pc loc st w = some r from h) hok
    | 30, h, hok, _ => exact ev_o_bast hF hk (show ev_h_bast Φ M (ev_run Φ P n d M) (fun mi As w => Nat.rec (motive := fun _ => ev_R) none (fun d' _ => ev_run Φ P n d' (P mi) 0 (ev_loc (P mi).1 As) [] w) d) nx a b' c' tg pc loc st w = some r from h) hok
    | 31, h, hok, _ => exact ev_o_last hF hk (show ev_h_last Φ M (ev_run Φ P n d M) (fun mi As w => Nat.rec (motive := fun _ => ev_R) none (fun d' _ => ev_run Φ P n d' (P mi) 0 (ev_loc (P mi).1 As) [] w) d) nx a b' c' tg pc loc st w = some r from h) hok
    | 32, h, hok, _ => exact ev_o_aast hF hk (show ev_h_aast 3 5 Φ M (ev_run Φ P n d M) (fun mi As w => Nat.rec (motive := fun _ => ev_R) none (fun d' _ => ev_run Φ P n d' (P mi) 0 (ev_loc (P mi).1 As) [] w) d) nx a b' c' tg pc loc st w = some r from h) hok
    | 33, h, hok, _ => exact ev_o_new hF hMR hk (show ev_h_new Φ M (ev_run Φ P n d M) (fun mi As w => Nat.rec (motive := fun _ => ev_R) none (fun d' _ => ev_run Φ P n d' (P mi) 0 (ev_loc (P mi).1 As) [] w) d) nx a b' c' tg pc loc st w = some r from h) hok
    | 34, h, hok, _ => exact ev_o_newa hF hMR hk (show ev_h_newa Φ M (ev_run Φ P n d M) (fun mi As w => Nat.rec (motive := fun _ => ev_R) none (fun d' _ => ev_run Φ P n d' (P mi) 0 (ev_loc (P mi).1 As) [] w) d) nx a b' c' tg pc loc st w = some r from h) hok
    | 35, h, hok, _ =>
      cases d with
      | zero => exact (ev_call_none (fun _ _ _ => rfl) (show ev_h_call Φ M (ev_run Φ P n 0 M) (fun mi As w => Nat.rec (motive := fun _ => ev_R) none (fun d' _ => ev_run Φ P n d' (P mi) 0 (ev_loc (P mi).1 As) [] w) 0) nx a b' c' tg pc loc st w = some r from h)).elim
      | succ d =>
        exact ev_o_call (d := d) hF hcast hTs ⟨by omega, by omega⟩ hMR hk hst hhok hT hOut (fun As w r2 h2 h3 h4 h5 => ev_met ih hP hl9 h2 h3 h4 h5) (show ev_h_call Φ M (ev_run Φ P n (d + 1) M) (fun mi As w => Nat.rec (motive := fun _ => ev_R) none (fun d' _ => ev_run Φ P n d' (P mi) 0 (ev_loc (P mi).1 As) [] w) (d + 1)) nx a b' c' tg pc loc st w = some r from h) hok
    | 36, h, hok, _ => exact ev_o_objinit hF hR1 hk (show ev_h_objinit Φ M (ev_run Φ P n d M) (fun mi As w => Nat.rec (motive := fun _ => ev_R) none (fun d' _ => ev_run Φ P n d' (P mi) 0 (ev_loc (P mi).1 As) [] w) d) nx a b' c' tg pc loc st w = some r from h) hok
    | 37, h, hok, hx => exact hRet _ _ _ _ _ _ _ _ _ _ _ _ (Or.inl rfl) hx hok h
    | 38, h, hok, hx => exact hRet _ _ _ _ _ _ _ _ _ _ _ _ (Or.inr (Or.inl rfl)) hx hok h
    | 39, h, hok, hx => exact hRet _ _ _ _ _ _ _ _ _ _ _ _ (Or.inr (Or.inr (Or.inl rfl))) hx hok h
    | 40, h, hok, hx => exact hRet _ _ _ _ _ _ _ _ _ _ _ _ (Or.inr (Or.inr (Or.inr (Or.inl rfl)))) hx hok h
    | 41, h, hok, hx => exact hRet _ _ _ _ _ _ _ _ _ _ _ _ (Or.inr (Or.inr (Or.inr (Or.inr (Or.inl rfl))))) hx hok h
    | 42, h, hok, _ => exact ev_o_switch hF hΦ hk (show ev_h_switch Φ M (ev_run Φ P n d M) (fun mi As w => Nat.rec (motive := fun _ => ev_R) none (fun d' _ => ev_run Φ P n d' (P mi) 0 (ev_loc (P mi).1 As) [] w) d) nx a b' c' tg pc loc st w = some r from h) hok
    | 43, h, hok, _ => exact ev_o_cv hF hk (show ev_h_cv Φ M (ev_run Φ P n d M) (fun mi As w => Nat.rec (motive := fun _ => ev_R) none (fun d' _ => ev_run Φ P n d' (P mi) 0 (ev_loc (P mi).1 As) [] w) d) nx a b' c' tg pc loc st w = some r from h) hok
    | 44, h, hok, _ => exact ev_o_w2 hF hR1 hMR hk (show ev_h_w2 Φ M (ev_run Φ P n d M) (fun mi As w => Nat.rec (motive := fun _ => ev_R) none (fun d' _ => ev_run Φ P n d' (P mi) 0 (ev_loc (P mi).1 As) [] w) d) nx a b' c' tg pc loc st w = some r from h) hok
    | 45, h, hok, _ => exact ev_o_copy hF hR1 hk (show ev_h_copy Φ M (ev_run Φ P n d M) (fun mi As w => Nat.rec (motive := fun _ => ev_R) none (fun d' _ => ev_run Φ P n d' (P mi) 0 (ev_loc (P mi).1 As) [] w) d) nx a b' c' tg pc loc st w = some r from h) hok
    | 46, h, hok, hx => exact hRet _ _ _ _ _ _ _ _ _ _ _ _ (Or.inr (Or.inr (Or.inr (Or.inr (Or.inr rfl))))) hx hok h
    | 47, h, hok, _ => exact ev_o_idiv hF hk (show ev_h_idiv Φ M (ev_run Φ P n d M) (fun mi As w => Nat.rec (motive := fun _ => ev_R) none (fun d' _ => ev_run Φ P n d' (P mi) 0 (ev_loc (P mi).1 As) [] w) d) nx a b' c' tg pc loc st w = some r from h) hok
    | 48, h, hok, _ => exact ev_o_iand63 hF hk (show ev_h_iand63 Φ M (ev_run Φ P n d M) (fun mi As w => Nat.rec (motive := fun _ => ev_R) none (fun d' _ => ev_run Φ P n d' (P mi) 0 (ev_loc (P mi).1 As) [] w) d) nx a b' c' tg pc loc st w = some r from h) hok
    | 4, _, hok, _ => exact hok.elim
    | 5, _, hok, _ => exact hok.elim
    | 49, h, hok, _ => exact ev_o_ldcs hF hk (show ev_h_ldcs Φ M (ev_run Φ P n d M) (fun mi As w => Nat.rec (motive := fun _ => ev_R) none (fun d' _ => ev_run Φ P n d' (P mi) 0 (ev_loc (P mi).1 As) [] w) d) nx a b' c' tg pc loc st w = some r from h) hok
    | 50, h, hok, _ => exact ev_o_slen hF hTs ⟨by omega, by omega⟩ hMR hk (show ev_h_slen Φ M (ev_run Φ P n d M) (fun mi As w => Nat.rec (motive := fun _ => ev_R) none (fun d' _ => ev_run Φ P n d' (P mi) 0 (ev_loc (P mi).1 As) [] w) d) nx a b' c' tg pc loc st w = some r from h) hok
    | 51, h, hok, _ => exact ev_o_chat hF hTs ⟨by omega, by omega⟩ hMR hk (show ev_h_chat Φ M (ev_run Φ P n d M) (fun mi As w => Nat.rec (motive := fun _ => ev_R) none (fun d' _ => ev_run Φ P n d' (P mi) 0 (ev_loc (P mi).1 As) [] w) d) nx a b' c' tg pc loc st w = some r from h) hok
    | k + 52, _, hok, _ => exact hok.elim
end EVW
