/-! ===== new things, conversions, switches, the JDK's own (own work) ===== -/
section EVM
variable {D : va_G} {aC : Nat → ClassId} {b : ev_B} {B0 L : Nat} {σ : Nat → Int32}
variable {p : Program} {l : Launch} {e : Env} {R : Room} {s : State} {m : MethodId} {args : Array Value} {below : List Frame} {meth : Method} {c : Code} {Q : State → Prop}
variable {cc : ByteArray} {nL : Nat} {Ts : List Cond} {own : String} {Sg : List (String × (Nat × String))}
variable {Φ : ev_P} {M : ev_M} {k : ev_N} {cl : ev_F} {nx a b' c' pc : Nat} {tg : List Nat} {loc : ev_L} {st : List ev_V} {w : ev_W} {r : ev_S}
theorem ev_mk_ok {q : ev_C} {n : Nat} {kt : ev_W → ev_R} (h : ev_mk w q n kt = some r) :
    ∃ (x : List (List (List ev_C))) (u : ev_C), w.2.2.1 = true ∧ ev_get w.1 w.2.1 = some u ∧ (∀ j, ev_get x j = if j = w.2.1 then some q else ev_get w.1 j) ∧ kt (x, (w.2.1 + 1, (true, (w.2.2.2.1 + 1, w.2.2.2.2 + n)))) = some r := by
  unfold ev_mk at h
  obtain ⟨h1, h⟩ := ev_if_n h
  split at h
  · next x hx =>
    obtain ⟨⟨u, hu⟩, h2⟩ := ev_sto_ok hx
    exact ⟨x, u, h1, hu, h2, h⟩
  · cases h
theorem ev_J_new {H H1 : Heap} {q u : ev_C} {x : List (List (List ev_C))} {y : Nat × Nat} (h : ev_J D aC b B0 σ w H) (he : w.2.2.1 = true) (hu : ev_get w.1 w.2.1 = some u) (hx : ∀ j, ev_get x j = if j = w.2.1 then some q else ev_get w.1 j)
    (h1 : ev_at D aC b B0 σ H.size q H1) (hz : H1.size = H.size + 1) (ho : ∀ x, x < H.size → H1[x]? = H[x]?) : ev_J D aC b B0 σ (x, (w.2.1 + 1, (true, y))) H1 := by
  have e := h.2.2 he
  refine ⟨fun j v hj => ?_, ?_, fun _ => ?_⟩
  · have hj : ev_get x j = some v := hj
    rw [hx] at hj
    by_cases ej : j = w.2.1
    · rw [if_pos ej] at hj
      cases hj
      rw [ej, ← e]
      exact ⟨(h.1 _ _ hu).1, h1⟩
    · rw [if_neg ej] at hj
      obtain ⟨g1, g2⟩ := h.1 j v hj
      refine ⟨g1, ?_⟩
      rcases g2 with g | ⟨rr, g2, g3⟩ | ⟨g2, g3, g4⟩
      · exact Or.inl g
      · obtain ⟨cell, k1, k2⟩ := id g3
        exact Or.inr (Or.inl ⟨rr, g2, g3.kept (ho _ (Array.getElem?_eq_some_iff.mp k1).1)⟩)
      · exact Or.inr (Or.inr ⟨g2, g3, (ho _ (Array.getElem?_eq_some_iff.mp g4).1).trans g4⟩)
  · show B0 + (w.2.1 + 1) ≤ H1.size
    omega
  · show H1.size = B0 + (w.2.1 + 1)
    omega
theorem ev_S_new {A : Nat → Prop} {H0 H H1 : Heap} {locs : List Loc} (hS : va_S A H0 H locs) (hz : H1.size = H.size + 1) (ho : ∀ q, q < H.size → H1[q]? = H[q]?) : va_S A H0 H1 locs :=
  ⟨Nat.le_trans hS.1 (by omega), fun q h1 h2 => (ho q (Nat.lt_of_lt_of_le h1 hS.1)).trans (hS.2.1 q h1 h2), hS.2.2⟩
theorem ev_may_ok {x y : Nat} (h : ev_may M w x y = true) (hR : M.2.1 ≤ R.cells ∧ M.2.2.1 ≤ R.slots) : w.2.2.2.1 + x ≤ R.cells ∧ w.2.2.2.2 + y ≤ R.slots := by
  unfold ev_may at h
  rw [Bool.and_eq_true] at h
  have h1 := Nat.le_of_ble_eq_true h.1
  have h2 := Nat.le_of_ble_eq_true h.2
  omega
def ev_dc (t : FieldType) : Nat := match t with
  | .object _ => 1
  | .array _ => 1
  | .long => 2
  | .float => 3
  | .double => 3
  | _ => 0
theorem ev_dv_ok {t : FieldType} (h : ev_dc t < 3) : ev_dn b B0 σ (ev_dv (ev_dc t)) = defaultValue t := by
  cases t <;> first | rfl | (exact absurd h (by decide))
theorem ev_ch8_get {l : List ev_V} {k : Nat} (hk : k < 32) : ev_get [ev_ch8 l] k = l[k]? := by
  rw [ev_get_eq]
  have e1 : k / 64 = 0 := by omega
  rw [e1]
  show ((ev_ch8 l)[k / 8 % 8]?).bind (fun d => d[k % 8]?) = _
  have h4 : k / 8 % 8 = 0 ∨ k / 8 % 8 = 1 ∨ k / 8 % 8 = 2 ∨ k / 8 % 8 = 3 := by omega
  rcases h4 with h | h | h | h
  · rw [h]
    show (l.take 8)[k % 8]? = _
    rw [List.getElem?_take, if_pos (by omega), show k % 8 = k by omega]
  · rw [h]
    show ((l.drop 8).take 8)[k % 8]? = _
    rw [List.getElem?_take, if_pos (by omega), List.getElem?_drop, show 8 + k % 8 = k by omega]
  · rw [h]
    show ((l.drop 16).take 8)[k % 8]? = _
    rw [List.getElem?_take, if_pos (by omega), List.getElem?_drop, show 16 + k % 8 = k by omega]
  · rw [h]
    show (l.drop 24)[k % 8]? = _
    rw [List.getElem?_drop, show 24 + k % 8 = k by omega]
theorem ev_fv_new {N : Nat} {ty : Nat → FieldType} (hN : N ≤ 32) (ht : ∀ k, k < N → ev_dc (ty k) < 3) {k : Nat} (hk : k < N) : defaultValue (ty k) = ev_fv b B0 σ [ev_ch8 (((List.range N).map (fun k => ev_dc (ty k))).map ev_dv)] k := by
  unfold ev_fv
  rw [ev_ch8_get (by omega), List.getElem?_map, List.getElem?_map, List.getElem?_range hk]
  exact (ev_dv_ok (ht k hk)).symm
theorem ev_o_new (hF : ev_Fx D aC b B0 L σ p s m args meth c cc nL Ts own Sg) (hR : M.2.1 ≤ R.cells ∧ M.2.2.1 ≤ R.slots) (hk : ∀ pc loc st w, k pc loc st w = some r → ev_Go D aC b B0 σ p l e R s m args below meth c Q nL pc loc st w) (h : ev_h_new Φ M k cl nx a b' c' tg pc loc st w = some r)
    (hi : ∃ (index : Nat) (C : String) (T : u_T) (N : Nat) (ty0 : Nat → FieldType), decode cc pc = .ok (.new index, 3) ∧ nx = pc + 3 ∧ vwCl[a]? = some (C, T, N) ∧ b' = N ∧ N ≤ 32 ∧ (∀ x ∈ u_ws C T N, x ∈ Ts) ∧ (∀ k, k < N → parseFieldDescriptor (T k).2.2.1 = some (ty0 k)) ∧ (∀ k, k < N → ev_dc (ty0 k) < 3) ∧ tg = (List.range N).map (fun k => ev_dc (ty0 k)) ∧
      Cond.classLink own index C ∈ Ts ∧ Cond.instantiable C N ∈ Ts ∧ Cond.initialized C ∈ Ts) : ev_Go D aC b B0 σ p l e R s m args below meth c Q nL pc loc st w := by
  obtain ⟨hx, hb, -, ho, ht, hV, -⟩ := id hF
  obtain ⟨index, C, T, N, ty0, d, rfl, hc, rfl, hN, hin, hty, hdc, rfl, w1, w2, w3⟩ := hi
  unfold ev_h_new at h
  obtain ⟨h1, h⟩ := ev_if_n h
  obtain ⟨x, u, he, hu, hx9, h⟩ := ev_mk_ok h
  intro H locs ls hl hJ hS
  have hKn := hV.1.1 a _ hc
  obtain ⟨r1, r2⟩ := ev_may_ok h1 hR
  refine W.newcK hx hb ho (ht _ w1) (ht _ w2) (ht _ w3) rfl d r1 r2 hKn.2.1 rfl fun H1 kC hkC e1 z1 o1 => ?_
  have e9 := hJ.2.2 he
  have go := hk _ _ _ _ h H1 locs ls hl (ev_J_new hJ he hu hx9 (Or.inr (Or.inl ⟨_, hc, (u_born ty0 ht hin hKn hkC e1 hty).to (fun k hk9 => ev_fv_new hN hdc hk9)⟩)) z1 o1) (ev_S_new hS z1 o1)
  have e2 : ev_dn b B0 σ (.inr (.inl (some w.2.1))) = .ref H.size := by
    show Value.ref _ = _
    rw [ev_ad_w (hJ.1 _ _ hu).1.1, e9]
  rw [List.map_cons, e2] at go
  exact go
theorem ev_rows_get {n j : Nat} {v : ev_V} (h : j < n) : ev_get (ev_rows n v) j = some v := by
  rw [ev_get_eq]
  unfold ev_rows
  rw [List.getElem?_replicate, if_pos (by omega)]
  show ((List.replicate 8 (List.replicate 8 v))[j / 8 % 8]?).bind (fun d => d[j % 8]?) = _
  rw [List.getElem?_replicate, if_pos (by omega)]
  show (List.replicate 8 v)[j % 8]? = _
  rw [List.getElem?_replicate, if_pos (by omega)]
theorem ev_arr_to {cA : ClassId} {N : Nat} {f g : Nat → Value} (h : ∀ j, j < N → f j = g j) : arrV cA N f = arrV cA N g := by
  unfold arrV
  congr 1
  apply Array.ext
  · simp
  · intro j h1 h2
    simp only [Array.getElem_ofFn]
    exact h j (by simpa using h1)
theorem ev_o_newa (hF : ev_Fx D aC b B0 L σ p s m args meth c cc nL Ts own Sg) (hR : M.2.1 ≤ R.cells ∧ M.2.2.1 ≤ R.slots) (hk : ∀ pc loc st w, k pc loc st w = some r → ev_Go D aC b B0 σ p l e R s m args below meth c Q nL pc loc st w) (h : ev_h_newa Φ M k cl nx a b' c' tg pc loc st w = some r)
    (hi : (∃ at9 : ArrayType, decode cc pc = .ok (.newarray at9, 2) ∧ nx = pc + 2 ∧ newarray.typeOf at9 = ev_ty a ∧ 20 ≤ a ∧ a ≤ 21 ∧ b' = ev_dc (ev_ty a) ∧ Cond.arrayClass (newarray.typeOf at9) ∈ Ts) ∨
      (∃ (ix : Nat) (C : String), decode cc pc = .ok (.anewarray ix, 3) ∧ nx = pc + 3 ∧ 24 ≤ a ∧ a ≤ 28 ∧ ev_ty a = .object C ∧ b' = 1 ∧ Cond.classLink own ix C ∈ Ts ∧ Cond.arrayOver (.object C) ∈ lw_tbl)) : ev_Go D aC b B0 σ p l e R s m args below meth c Q nL pc loc st w := by
  obtain ⟨hx, hb, -, ho, ht, hV, -⟩ := id hF
  unfold ev_h_newa at h
  split at h
  · next n rr =>
    obtain ⟨h1, h⟩ := ev_if_n h
    rw [Bool.and_eq_true] at h1
    have hn := Nat.le_of_ble_eq_true h1.2
    obtain ⟨r1, r2⟩ := ev_may_ok h1.1 hR
    obtain ⟨x, u, he, hu, hx9, h9⟩ := ev_mk_ok h
    intro H locs ls hl hJ hS
    have e9 := hJ.2.2 he
    have e2 : ev_dn b B0 σ (.inr (.inl (some w.2.1))) = .ref H.size := by
      show Value.ref _ = _
      rw [ev_ad_w (hJ.1 _ _ hu).1.1, e9]
    have e5 : (nI n).toNatClampNeg = n := nI_clamp (by omega)
    have e6 : ¬ nI n < 0 := nI_pos (by omega)
    rw [List.map_cons]
    rcases hi with ⟨at9, d, rfl, hty, ha, ha2, rfl, hw⟩ | ⟨ix, C, d, rfl, ha, ha2, hty, rfl, hw, hw2⟩
    · have hz : componentBytes (newarray.typeOf at9) ≤ 8 := by cases at9 <;> decide
      refine va_newaK (N := n) hx hb (ht _ hw) rfl d rfl e6 e5 (Nat.le_trans (Nat.mul_le_mul hn hz) (by decide)) r1 r2 rfl fun H1 cA e1 z1 o1 hAr hNm => ?_
      have hak : ev_ak a := by unfold ev_ak; omega
      obtain ⟨-, hRA⟩ := ev_tys_of hV (k := a) hak
      have hcA : cA = aC a := by
        have ha9 : a = 20 ∨ a = 21 := by omega
        rw [hty] at hNm
        rcases ha9 with rfl | rfl <;> exact Option.some.inj (hNm.symm.trans hRA)
      have hdc : ev_dc (ev_ty a) < 3 := by
        have ha9 : a = 20 ∨ a = 21 := by omega
        rcases ha9 with rfl | rfl <;> decide
      have go := hk _ _ _ _ h9 H1 locs ls hl (ev_J_new hJ he hu hx9 (Or.inr (Or.inr ⟨hak, by show 20 ≤ a; omega, by
        rw [e1, hcA, hty]
        refine congrArg some (ev_arr_to fun j hj => ?_)
        unfold ev_fv
        rw [ev_rows_get hj]
        exact (ev_dv_ok hdc).symm⟩)) z1 o1) (ev_S_new hS z1 o1)
      rw [List.map_cons, e2] at go
      exact go
    · refine W.anew hx hb ho (ht _ hw) (show (Cond.arrayOver (.object C)).before args s = true from va_AO.use (C := C) (hV.2.1 _ hw2 rfl)) rfl d rfl e6 (by rw [e5]; omega) r1 (by rw [e5]; exact r2) fun cA kA comp f1 f2 f3 f4 => ?_
      have hak : ev_ak a := by unfold ev_ak; omega
      obtain ⟨-, hRA⟩ := ev_tys_of hV (k := a) hak
      rw [hty] at hRA
      obtain ⟨kA', comp', g1, g2, g3, g4⟩ := hRA
      have hcA : cA = aC a := Option.some.inj (f1.symm.trans g4)
      rw [arrV_new, e5]
      have z1 : (H.push (arrV cA n (fun _ => Value.null))).size = H.size + 1 := by simp
      have o1 : ∀ q, q < H.size → (H.push (arrV cA n (fun _ => Value.null)))[q]? = H[q]? := fun q hq => by rw [Array.getElem?_push, if_neg (Nat.ne_of_lt hq)]
      have e1 : (H.push (arrV cA n (fun _ => Value.null)))[H.size]? = some (arrV cA n (fun _ => Value.null)) := by simp
      have go := hk _ _ _ _ h9 _ locs ls hl (ev_J_new hJ he hu hx9 (Or.inr (Or.inr ⟨hak, by show 20 ≤ a; omega, by
        rw [e1, hcA]
        refine congrArg some (ev_arr_to fun j hj => ?_)
        unfold ev_fv
        rw [ev_rows_get hj]
        rfl⟩)) z1 o1) (ev_S_new hS z1 o1)
      rw [List.map_cons, e2] at go
      exact go
  · cases h
theorem ev_o_objinit (hF : ev_Fx D aC b B0 L σ p s m args meth c cc nL Ts own Sg) (hR : 1 ≤ R.frames ∧ 100 ≤ R.locals) (hk : ∀ pc loc st w, k pc loc st w = some r → ev_Go D aC b B0 σ p l e R s m args below meth c Q nL pc loc st w) (h : ev_h_objinit Φ M k cl nx a b' c' tg pc loc st w = some r)
    (hi : ∃ ix : Nat, decode cc pc = .ok (.invokespecial ix, 3) ∧ nx = pc + 3 ∧ Cond.methodLink own ix Lib.objectInit ∈ Ts ∧ Cond.instanceMethod Lib.objectInit ∈ Ts ∧ Cond.code Lib.objectInit ⟨#[0xb1]⟩ 1 none ∈ Ts) : ev_Go D aC b B0 σ p l e R s m args below meth c Q nL pc loc st w := by
  obtain ⟨hx, hb, hml, ho, ht, hV, -⟩ := id hF
  obtain ⟨ix, d, rfl, w1, w2, w3⟩ := hi
  unfold ev_h_objinit at h
  split at h
  · next i rr =>
    obtain ⟨h1, h⟩ := ev_if_n h
    have h1 := Nat.le_of_ble_eq_true h1
    have h2 := ev_cs_ok (b := b) (B0 := B0) (σ := σ) rr
    exact ev_pure hk h fun H locs ls hl g => W.objInit hx hb ho (ht _ w1) (ht _ w2) (ht _ w3) rfl (by rw [hml]; exact hl.1) rfl d hR.1 (by show 2 * 0 + _ + 12 ≤ _; omega) g
  · cases h
theorem ev_bb_z {x : Int32} {z : Int} (hz : -2147483648 ≤ z) : (ev_bb x < (z + 2147483648).toNat ↔ x.toInt < z) ∧ ((z + 2147483648).toNat < ev_bb x ↔ z < x.toInt) ∧ (ev_bb x - (z + 2147483648).toNat = (x.toInt - z).toNat) := by
  have h1 := ev_bb_ge x
  unfold ev_bb
  refine ⟨?_, ?_, ?_⟩ <;> omega
theorem ev_o_switch (hF : ev_Fx D aC b B0 L σ p s m args meth c cc nL Ts own Sg) (hΦ : ev_FO Φ σ) (hk : ∀ pc loc st w, k pc loc st w = some r → ev_Go D aC b B0 σ p l e R s m args below meth c Q nL pc loc st w) (h : ev_h_switch Φ M k cl nx a b' c' tg pc loc st w = some r)
    (hi : ∃ (df lo hi9 : Int) (offs : Array Int) (len : Nat), decode cc pc = .ok (.tableswitch df lo hi9 offs, len) ∧ -2147483648 ≤ lo ∧ -2147483648 ≤ hi9 ∧ a = (lo + 2147483648).toNat ∧ b' = (hi9 + 2147483648).toNat ∧ (pc : Int) + df = (c' : Int) ∧ (∀ (j t : Nat), tg[j]? = some t → ∃ off, offs[j]? = some off ∧ (pc : Int) + off = (t : Int))) :
    ev_Go D aC b B0 σ p l e R s m args below meth c Q nL pc loc st w := by
  obtain ⟨hx, hb, -⟩ := id hF
  obtain ⟨df, lo, hi9, offs, len, d, hlo, hhi, rfl, rfl, hdf, htg⟩ := hi
  unfold ev_h_switch at h
  split at h
  · next x rr =>
    split at h
    · next q hq =>
      obtain ⟨u, eu, u1, u2⟩ := ev_itv_ok (b := b) (B0 := B0) hΦ hq
      obtain ⟨l1, l2, l3⟩ := ev_bb_z (x := u) hlo
      obtain ⟨m1, m2, -⟩ := ev_bb_z (x := u) hhi
      cases c1 : (Nat.ble (q.2 + 1) (lo + 2147483648).toNat || Nat.ble ((hi9 + 2147483648).toNat + 1) q.1) with
      | true =>
        rw [c1, ev_if_t] at h
        refine ev_pure hk h fun H locs ls hl g => ?_
        rw [List.map_cons, eu]
        rw [Bool.or_eq_true] at c1
        refine lv_tableOut hx hb d ?_ hdf g
        rcases c1 with c1 | c1
        · have := Nat.le_of_ble_eq_true c1
          exact Or.inl (l1.mp (by omega))
        · have := Nat.le_of_ble_eq_true c1
          exact Or.inr (m2.mp (by omega))
      | false =>
        rw [c1, ev_if_f] at h
        obtain ⟨h1, h⟩ := ev_if_n h
        rw [Bool.and_eq_true, Bool.and_eq_true] at h1
        have k1 := Nat.eq_of_beq_eq_true h1.1
        have k2 := Nat.le_of_ble_eq_true h1.2.1
        have k3 := Nat.le_of_ble_eq_true h1.2.2
        split at h
        · next t ht =>
          rw [ev_lg_eq] at ht
          obtain ⟨off, o1, o2⟩ := htg _ _ ht
          refine ev_pure hk h fun H locs ls hl g => ?_
          rw [List.map_cons, eu]
          have eb : ev_bb u = q.1 := by omega
          refine lv_tableIn hx hb d (fun z => ?_) (fun z => ?_) (off := off) ?_ o2 g
          · have := l1.mpr z
            omega
          · have := m2.mpr z
            omega
          · rw [← l3, eb]
            exact o1
        · cases h
    · cases h
  · cases h
theorem ev_u32 (x : UInt32) : UInt32.ofNat x.toNat = x := by simp
theorem ev_u64 (x : UInt64) : UInt64.ofNat x.toNat = x := by simp
theorem ev_o_cv (hF : ev_Fx D aC b B0 L σ p s m args meth c cc nL Ts own Sg) (hk : ∀ pc loc st w, k pc loc st w = some r → ev_Go D aC b B0 σ p l e R s m args below meth c Q nL pc loc st w) (h : ev_h_cv Φ M k cl nx a b' c' tg pc loc st w = some r)
    (hi : ((a = 0 ∧ decode cc pc = .ok (.i2l, 1)) ∨ (a = 1 ∧ decode cc pc = .ok (.l2i, 1)) ∨ (a = 2 ∧ decode cc pc = .ok (.i2d, 1)) ∨ (a = 3 ∧ decode cc pc = .ok (.i2f, 1)) ∨ (a = 4 ∧ decode cc pc = .ok (.f2d, 1)) ∨ (a = 5 ∧ decode cc pc = .ok (.i2b, 1)) ∨ (a = 6 ∧ decode cc pc = .ok (.i2c, 1))) ∧ nx = pc + 1) : ev_Go D aC b B0 σ p l e R s m args below meth c Q nL pc loc st w := by
  obtain ⟨hx, hb, -⟩ := id hF
  obtain ⟨hi, rfl⟩ := hi
  unfold ev_h_cv at h
  split at h
  · next x rr =>
    split at h
    · next z hz =>
      refine ev_pure hk h fun H locs ls hl g => ?_
      rw [List.map_cons] at g ⊢
      rcases hi with ⟨rfl, d⟩ | ⟨rfl, d⟩ | ⟨rfl, d⟩ | ⟨rfl, d⟩ | ⟨rfl, d⟩ | ⟨rfl, d⟩ | ⟨rfl, d⟩
      · rcases x with n | q | ⟨t, f⟩ | ⟨j, n⟩
        · have e := (Option.some.inj hz).symm
          subst e
          refine lv_i2l hx hb d rfl ?_
          have e : ev_dn b B0 σ (.inr (.inr (.inr (0, ev_nl (nI n).toInt64)))) = .long (nI n).toInt64 := by
            show Value.long _ = _
            rw [ev_lN_n]
          rw [e] at g
          exact g
        · exact absurd hz (fun z => by cases z)
        · exact absurd hz (fun z => by cases z)
        · exact absurd hz (fun z => by cases z)
      · rcases x with n | q | ⟨t, f⟩ | ⟨j, n⟩
        · exact absurd hz (fun z => by cases z)
        · exact absurd hz (fun z => by cases z)
        · exact absurd hz (fun z => by cases z)
        · match j, hz, g with
          | 0, hz, g =>
            have e := (Option.some.inj hz).symm
            subst e
            refine lv_l2i hx hb d rfl ?_
            have e : ev_dn b B0 σ (.inl (ev_n (lN n).toInt32)) = .int (lN n).toInt32 := by
              show Value.int _ = _
              rw [ev_nI_n]
            rw [e] at g
            exact g
          | j + 1, hz, g => exact absurd hz (fun z => by cases z)
      · rcases x with n | q | ⟨t, f⟩ | ⟨j, n⟩
        · have e := (Option.some.inj hz).symm
          subst e
          refine lv_i2d hx hb d ?_
          have e : ev_dn b B0 σ (.inr (.inr (.inr (2, (FP.i2d (nI n)).toNat)))) = .double (FP.i2d (nI n)) := by
            show Value.double _ = _
            rw [ev_u64]
          rw [e] at g
          exact g
        · exact absurd hz (fun z => by cases z)
        · exact absurd hz (fun z => by cases z)
        · exact absurd hz (fun z => by cases z)
      · rcases x with n | q | ⟨t, f⟩ | ⟨j, n⟩
        · have e := (Option.some.inj hz).symm
          subst e
          refine lv_i2f hx hb d ?_
          have e : ev_dn b B0 σ (.inr (.inr (.inr (1, (FP.i2f (nI n)).toNat)))) = .float (FP.i2f (nI n)) := by
            show Value.float _ = _
            rw [ev_u32]
          rw [e] at g
          exact g
        · exact absurd hz (fun z => by cases z)
        · exact absurd hz (fun z => by cases z)
        · exact absurd hz (fun z => by cases z)
      · rcases x with n | q | ⟨t, f⟩ | ⟨j, n⟩
        · exact absurd hz (fun z => by cases z)
        · exact absurd hz (fun z => by cases z)
        · exact absurd hz (fun z => by cases z)
        · match j, hz, g with
          | 0, hz, g => exact absurd hz (fun z => by cases z)
          | 1, hz, g =>
            have hz : ev_if (ev_n64 (FP.f2d (UInt32.ofNat n))) (some (.inr (.inr (.inr (2, (FP.f2d (UInt32.ofNat n)).toNat))))) none = some z := hz
            obtain ⟨h1, hz⟩ := ev_if_n hz
            have e := (Option.some.inj hz).symm
            subst e
            refine lv_f2d hx hb d (by unfold vf_n64; exact of_decide_eq_true h1) ?_
            have e : ev_dn b B0 σ (.inr (.inr (.inr (2, (FP.f2d (UInt32.ofNat n)).toNat)))) = .double (FP.f2d (UInt32.ofNat n)) := by
              show Value.double _ = _
              rw [ev_u64]
            rw [e] at g
            exact g
          | j + 2, hz, g => exact absurd hz (fun z => by cases z)
      · rcases x with n | q | ⟨t, f⟩ | ⟨j, n⟩
        · have e := (Option.some.inj hz).symm
          subst e
          refine lv_i2b hx hb d rfl ?_
          have e : ev_dn b B0 σ (.inl (ev_n (nI n).toInt8.toInt32)) = .int (nI n).toInt8.toInt32 := by
            show Value.int _ = _
            rw [ev_nI_n]
          rw [e] at g
          exact g
        · exact absurd hz (fun z => by cases z)
        · cases t with
          | none =>
            have e := (Option.some.inj hz).symm
            subst e
            exact lv_i2b hx hb d rfl g
          | some i => exact absurd hz (fun z => by cases z)
        · exact absurd hz (fun z => by cases z)
      · rcases x with n | q | ⟨t, f⟩ | ⟨j, n⟩
        · have e := (Option.some.inj hz).symm
          subst e
          refine lv_i2c hx hb d rfl ?_
          have e : ev_dn b B0 σ (.inl (n % 65536)) = .int ((nI n).toUInt32 % 65536).toInt32 := by
            show Value.int _ = _
            rw [pk_char]
            refine congrArg Value.int (ev_nI_eq ?_)
            have e2 : (nI n).toBitVec.toNat = n % 4294967296 := by
              rw [← ev_nI_mod, pk_tn (by omega)]
            rw [e2]
            omega
          rw [e] at g
          exact g
        · exact absurd hz (fun z => by cases z)
        · exact absurd hz (fun z => by cases z)
        · exact absurd hz (fun z => by cases z)
    · cases h
  · cases h
theorem ev_o_w2 (hF : ev_Fx D aC b B0 L σ p s m args meth c cc nL Ts own Sg) (hR : 1 ≤ R.frames ∧ 100 ≤ R.locals) (hMR0 : M.2.1 ≤ R.cells ∧ M.2.2.1 ≤ R.slots) (hk : ∀ pc loc st w, k pc loc st w = some r → ev_Go D aC b B0 σ p l e R s m args below meth c Q nL pc loc st w) (h : ev_h_w2 Φ M k cl nx a b' c' tg pc loc st w = some r)
    (hi : (((a = 0 ∧ decode cc pc = .ok (.ddiv, 1)) ∨ (a = 1 ∧ decode cc pc = .ok (.fdiv, 1)) ∨ (a = 2 ∧ decode cc pc = .ok (.dcmp .l, 1)) ∨ (a = 3 ∧ decode cc pc = .ok (.dcmp .g, 1)) ∨ (a = 4 ∧ decode cc pc = .ok (.lcmp, 1)) ∨ (a = 5 ∧ decode cc pc = .ok (.lshr, 1)) ∨ (a = 6 ∧ decode cc pc = .ok (.lshl, 1)) ∨ (a = 7 ∧ decode cc pc = .ok (.land, 1)) ∨ (a = 8 ∧ decode cc pc = .ok (.lor, 1))) ∧ nx = pc + 1) ∨
      (∃ ix : Nat, a = 9 ∧ decode cc pc = .ok (.invokestatic ix, 3) ∧ nx = pc + 3 ∧ Cond.methodLink own ix Lib.Math.max.name ∈ Ts ∧ Cond.static Lib.Math.max.name ∈ Ts ∧ Cond.initialized "java/lang/Math" ∈ Ts ∧ Cond.code Lib.Math.max.name Lib.Math.max.code 2 (some .int) ∈ Ts)) : ev_Go D aC b B0 σ p l e R s m args below meth c Q nL pc loc st w := by
  obtain ⟨hx, hb, hml, ho, ht, -⟩ := id hF
  unfold ev_h_w2 at h
  split at h
  · next y x rr =>
    split at h
    · next z hz =>
      obtain ⟨h1, h⟩ := ev_if_n h
      rw [Bool.and_eq_true] at h1
      have hMR := ev_may_ok h1.2 hMR0
      have h1 := Nat.le_of_ble_eq_true h1.1
      have h2 := ev_cs_ok (b := b) (B0 := B0) (σ := σ) rr
      refine ev_pure hk h fun H locs ls hl g => ?_
      rw [List.map_cons] at g
      rw [List.map_cons, List.map_cons]
      unfold ev_w2 at hz
      split at hz
      · obtain ⟨h9, hz⟩ := ev_if_n hz
        have e := (Option.some.inj hz).symm
        subst e
        rcases hi with ⟨hi, rfl⟩ | ⟨ix, h0, -⟩
        · have d : decode cc pc = .ok (.ddiv, 1) := by
            rcases hi with ⟨-, d⟩ | ⟨h0, -⟩ | ⟨h0, -⟩ | ⟨h0, -⟩ | ⟨h0, -⟩ | ⟨h0, -⟩ | ⟨h0, -⟩ | ⟨h0, -⟩ | ⟨h0, -⟩
            · exact d
            all_goals exact absurd h0 (by decide)
          refine lv_ddiv hx hb d (by unfold vf_n64; exact of_decide_eq_true h9) ?_
          simp only [ev_dn, ev_u64] at g
          exact g
        · exact absurd h0 (by decide)
      · obtain ⟨h9, hz⟩ := ev_if_n hz
        have e := (Option.some.inj hz).symm
        subst e
        rcases hi with ⟨hi, rfl⟩ | ⟨ix, h0, -⟩
        · have d : decode cc pc = .ok (.fdiv, 1) := by
            rcases hi with ⟨h0, -⟩ | ⟨-, d⟩ | ⟨h0, -⟩ | ⟨h0, -⟩ | ⟨h0, -⟩ | ⟨h0, -⟩ | ⟨h0, -⟩ | ⟨h0, -⟩ | ⟨h0, -⟩
            · exact absurd h0 (by decide)
            · exact d
            all_goals exact absurd h0 (by decide)
          refine lv_fdiv hx hb d (by unfold vf_n32; exact of_decide_eq_true h9) ?_
          simp only [ev_dn, ev_u32] at g
          exact g
        · exact absurd h0 (by decide)
      · have e := (Option.some.inj hz).symm
        subst e
        rcases hi with ⟨hi, rfl⟩ | ⟨ix, h0, -⟩
        · have d : decode cc pc = .ok (.dcmp .l, 1) := by
            rcases hi with ⟨h0, -⟩ | ⟨h0, -⟩ | ⟨-, d⟩ | ⟨h0, -⟩ | ⟨h0, -⟩ | ⟨h0, -⟩ | ⟨h0, -⟩ | ⟨h0, -⟩ | ⟨h0, -⟩
            · exact absurd h0 (by decide)
            · exact absurd h0 (by decide)
            · exact d
            all_goals exact absurd h0 (by decide)
          refine lv_dcmp hx hb d ?_
          simp only [ev_dn, ev_nI_n] at g
          exact g
        · exact absurd h0 (by decide)
      · have e := (Option.some.inj hz).symm
        subst e
        rcases hi with ⟨hi, rfl⟩ | ⟨ix, h0, -⟩
        · have d : decode cc pc = .ok (.dcmp .g, 1) := by
            rcases hi with ⟨h0, -⟩ | ⟨h0, -⟩ | ⟨h0, -⟩ | ⟨-, d⟩ | ⟨h0, -⟩ | ⟨h0, -⟩ | ⟨h0, -⟩ | ⟨h0, -⟩ | ⟨h0, -⟩
            · exact absurd h0 (by decide)
            · exact absurd h0 (by decide)
            · exact absurd h0 (by decide)
            · exact d
            all_goals exact absurd h0 (by decide)
          refine lv_dcmp hx hb d ?_
          simp only [ev_dn, ev_nI_n] at g
          exact g
        · exact absurd h0 (by decide)
      · have e := (Option.some.inj hz).symm
        subst e
        rcases hi with ⟨hi, rfl⟩ | ⟨ix, h0, -⟩
        · have d : decode cc pc = .ok (.lcmp, 1) := by
            rcases hi with ⟨h0, -⟩ | ⟨h0, -⟩ | ⟨h0, -⟩ | ⟨h0, -⟩ | ⟨-, d⟩ | ⟨h0, -⟩ | ⟨h0, -⟩ | ⟨h0, -⟩ | ⟨h0, -⟩
            · exact absurd h0 (by decide)
            · exact absurd h0 (by decide)
            · exact absurd h0 (by decide)
            · exact absurd h0 (by decide)
            · exact d
            all_goals exact absurd h0 (by decide)
          refine W.lcmp hx hb d ?_
          simp only [ev_dn, ev_nI_n] at g
          exact g
        · exact absurd h0 (by decide)
      · have e := (Option.some.inj hz).symm
        subst e
        rcases hi with ⟨hi, rfl⟩ | ⟨ix, h0, -⟩
        · have d : decode cc pc = .ok (.lshr, 1) := by
            rcases hi with ⟨h0, -⟩ | ⟨h0, -⟩ | ⟨h0, -⟩ | ⟨h0, -⟩ | ⟨h0, -⟩ | ⟨-, d⟩ | ⟨h0, -⟩ | ⟨h0, -⟩ | ⟨h0, -⟩
            · exact absurd h0 (by decide)
            · exact absurd h0 (by decide)
            · exact absurd h0 (by decide)
            · exact absurd h0 (by decide)
            · exact absurd h0 (by decide)
            · exact d
            all_goals exact absurd h0 (by decide)
          refine lv_lshr hx hb d rfl ?_
          simp only [ev_dn, ev_lN_n] at g
          exact g
        · exact absurd h0 (by decide)
      · have e := (Option.some.inj hz).symm
        subst e
        rcases hi with ⟨hi, rfl⟩ | ⟨ix, h0, -⟩
        · have d : decode cc pc = .ok (.lshl, 1) := by
            rcases hi with ⟨h0, -⟩ | ⟨h0, -⟩ | ⟨h0, -⟩ | ⟨h0, -⟩ | ⟨h0, -⟩ | ⟨h0, -⟩ | ⟨-, d⟩ | ⟨h0, -⟩ | ⟨h0, -⟩
            · exact absurd h0 (by decide)
            · exact absurd h0 (by decide)
            · exact absurd h0 (by decide)
            · exact absurd h0 (by decide)
            · exact absurd h0 (by decide)
            · exact absurd h0 (by decide)
            · exact d
            all_goals exact absurd h0 (by decide)
          refine lv_lshl hx hb d rfl ?_
          simp only [ev_dn, ev_lN_n] at g
          exact g
        · exact absurd h0 (by decide)
      · have e := (Option.some.inj hz).symm
        subst e
        rcases hi with ⟨hi, rfl⟩ | ⟨ix, h0, -⟩
        · have d : decode cc pc = .ok (.land, 1) := by
            rcases hi with ⟨h0, -⟩ | ⟨h0, -⟩ | ⟨h0, -⟩ | ⟨h0, -⟩ | ⟨h0, -⟩ | ⟨h0, -⟩ | ⟨h0, -⟩ | ⟨-, d⟩ | ⟨h0, -⟩
            · exact absurd h0 (by decide)
            · exact absurd h0 (by decide)
            · exact absurd h0 (by decide)
            · exact absurd h0 (by decide)
            · exact absurd h0 (by decide)
            · exact absurd h0 (by decide)
            · exact absurd h0 (by decide)
            · exact d
            all_goals exact absurd h0 (by decide)
          refine lv_land hx hb d ?_
          simp only [ev_dn, ev_lN_n] at g
          exact g
        · exact absurd h0 (by decide)
      · have e := (Option.some.inj hz).symm
        subst e
        rcases hi with ⟨hi, rfl⟩ | ⟨ix, h0, -⟩
        · have d : decode cc pc = .ok (.lor, 1) := by
            rcases hi with ⟨h0, -⟩ | ⟨h0, -⟩ | ⟨h0, -⟩ | ⟨h0, -⟩ | ⟨h0, -⟩ | ⟨h0, -⟩ | ⟨h0, -⟩ | ⟨h0, -⟩ | ⟨-, d⟩
            · exact absurd h0 (by decide)
            · exact absurd h0 (by decide)
            · exact absurd h0 (by decide)
            · exact absurd h0 (by decide)
            · exact absurd h0 (by decide)
            · exact absurd h0 (by decide)
            · exact absurd h0 (by decide)
            · exact absurd h0 (by decide)
            · exact d
          refine lv_lor hx hb d ?_
          simp only [ev_dn, ev_lN_n] at g
          exact g
        · exact absurd h0 (by decide)
      · next m9 n9 =>
        have e := (Option.some.inj hz).symm
        subst e
        rcases hi with ⟨hi, -⟩ | ⟨ix, -, d, rfl, w1, w2, w3, w4⟩
        · rcases hi with ⟨h0, -⟩ | ⟨h0, -⟩ | ⟨h0, -⟩ | ⟨h0, -⟩ | ⟨h0, -⟩ | ⟨h0, -⟩ | ⟨h0, -⟩ | ⟨h0, -⟩ | ⟨h0, -⟩
          all_goals exact absurd h0 (by decide)
        · refine va_mmax hx hb (by rw [hml]; exact hl.1.symm) ho (ht _ w1) (ht _ w2) (ht _ w3) (ht _ w4) hR.1 (by omega) hMR.1 hMR.2 d ?_
          have e : ev_dn b B0 σ (.inl (ev_if (Nat.ble (ev_bi m9 + 1) (ev_bi n9)) n9 m9)) = .int (if nI m9 < nI n9 then nI n9 else nI m9) := by
            show Value.int _ = _
            refine congrArg Value.int ?_
            cases c1 : Nat.ble (ev_bi m9 + 1) (ev_bi n9) with
            | true =>
              have := Nat.le_of_ble_eq_true c1
              rw [ev_if_t, if_pos (by rw [ev_bb_lt, ← ev_bi_ok, ← ev_bi_ok]; omega)]
            | false =>
              have : ¬ ev_bi m9 + 1 ≤ ev_bi n9 := fun q => by rw [Nat.ble_eq_true_of_le q] at c1; cases c1
              rw [ev_if_f, if_neg (by rw [ev_bb_lt, ← ev_bi_ok, ← ev_bi_ok]; omega)]
          rw [e] at g
          exact g
      · cases hz
    · cases h
  · cases h
end EVM
