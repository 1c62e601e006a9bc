/-! ===== the instructions that reach the heap (own work) ===== -/
section EVH
variable {D : va_G} {aC : Nat → ClassId} {b : ev_B} {B0 L : Nat} {σ : Nat → Int32}
variable {p : Program} {l : Launch} {e : Env} {R : Room} {s : State} {m : MethodId} {args : Array Value} {below : List Frame} {meth : Method} {c : Code} {Q : State → Prop}
variable {cc : ByteArray} {nL : Nat} {Ts : List Cond} {own : String} {Sg : List (String × (Nat × String))}
variable {Φ : ev_P} {M : ev_M} {k : ev_N} {cl : ev_F} {nx a b' c' pc : Nat} {tg : List Nat} {loc : ev_L} {st : List ev_V} {w : ev_W} {r : ev_S}
theorem ev_S_put {A : Nat → Prop} {H0 H H1 : Heap} {locs : List Loc} {x y : Nat} (hS : va_S A H0 H locs) (hz : H1.size = H.size) (ho : ∀ q, q ≠ x → H1[q]? = H[q]?) (hx : A x) : va_S A H0 H1 (locs ++ [⟨x, y⟩]) := by
  refine ⟨by rw [hz]; exact hS.1, fun q h1 h2 => ?_, fun q hq => ?_⟩
  · rw [ho q (fun z => h2 (by rw [z]; exact hx))]
    exact hS.2.1 q h1 h2
  · rcases List.mem_append.mp hq with h | h
    · exact hS.2.2 q h
    · rcases List.mem_singleton.mp h with rfl
      exact hx
theorem ev_fv_set {d d' : List (List (List ev_V))} {k : Nat} {v : ev_V} (h : ∀ j, ev_get d' j = if j = k then some v else ev_get d j) : ev_fv b B0 σ d' = updV (ev_fv b B0 σ d) k (ev_dn b B0 σ v) := by
  funext j
  unfold ev_fv updV
  rw [h]
  by_cases e : j = k
  · rw [if_pos e, if_pos e]
  · rw [if_neg e, if_neg e]
/-- an object among the world's things -/
theorem ev_J_obj {w : ev_W} {H : Heap} {i : Nat} {q : ev_C} (h : ev_J D aC b B0 σ w H) (hq : ev_get w.1 i = some q) {rr : vw_C} (hc : vwCl[q.1]? = some rr) : i < 1000000 ∧ t_OB (B0 + i) (D.1 q.1) rr.2.2 (D.2 q.1) H (ev_fv b B0 σ q.2.2) := by
  obtain ⟨h1, h2⟩ := h.1 i q hq
  refine ⟨h1.1, ?_⟩
  have hl : q.1 < 13 := (List.getElem?_eq_some_iff.mp hc).1
  rcases h2 with h | ⟨r, h2, h3⟩ | ⟨-, h2, -⟩
  · omega
  · cases hc.symm.trans h2
    exact h3
  · omega
theorem ev_J_arr {w : ev_W} {H : Heap} {i : Nat} {q : ev_C} (h : ev_J D aC b B0 σ w H) (hq : ev_get w.1 i = some q) (h20 : 20 ≤ q.1) (h25 : q.1 ≤ 28) : i < 1000000 ∧ H[B0 + i]? = some (arrV (aC q.1) q.2.1 (ev_fv b B0 σ q.2.2)) := by
  obtain ⟨h1, h2⟩ := h.1 i q hq
  refine ⟨h1.1, ?_⟩
  rcases h2 with h | ⟨r, h2, -⟩ | ⟨-, -, h3⟩
  · omega
  · have : q.1 < 13 := (List.getElem?_eq_some_iff.mp h2).1
    omega
  · exact h3
theorem ev_J_ak {w : ev_W} {H : Heap} {i : Nat} {q : ev_C} (h : ev_J D aC b B0 σ w H) (hq : ev_get w.1 i = some q) (h20 : 20 ≤ q.1) (h28 : q.1 ≤ 28) : ev_ak q.1 := by
  obtain ⟨h1, h2⟩ := h.1 i q hq
  rcases h2 with h | ⟨r, h2, -⟩ | ⟨h3, -⟩
  · omega
  · have : q.1 < 13 := (List.getElem?_eq_some_iff.mp h2).1
    omega
  · exact h3
theorem ev_ad_w {i : Nat} (h : i < 1000000) : ev_ad b B0 i = B0 + i := by
  unfold ev_ad
  rw [if_neg (by omega), if_neg (by omega)]
theorem ev_tys_of (hV : ev_VF D aC Sg s) {k : Nat} (h20 : ev_ak k) : ArrOfT s (aC k) (ev_ty k) ∧ va_RA s (aC k) (ev_ty k) := by
  rcases h20 with rfl | rfl | rfl | rfl | rfl | rfl | rfl
  · exact hV.1.2 0 _ rfl
  · exact hV.1.2 1 _ rfl
  · exact hV.1.2 2 _ rfl
  · exact hV.1.2 3 _ rfl
  · exact hV.1.2 4 _ rfl
  · exact hV.1.2 5 _ rfl
  · exact hV.1.2 6 _ rfl
/-- a link to a field: of the class itself, or of a nest mate -/
def ev_fl_ok (own ref n d : String) (index : Nat) (Ts : List Cond) : Prop := Cond.fieldLink own index ref n d ∈ Ts ∨ ∃ host, Cond.fieldLinkNest own index ref n d host ∈ lw_tbl
theorem ev_o_getf (hF : ev_Fx D aC b B0 L σ p s m args meth c cc nL Ts own Sg) (hk : ∀ pc loc st w, k pc loc st w = some r → ev_Go D aC b B0 σ p l e R s m args below meth c Q nL pc loc st w) (h : ev_h_getf Φ M k cl nx a b' c' tg pc loc st w = some r)
    (hi : ∃ (index : Nat) (C : String) (T : u_T) (N : Nat), decode cc pc = .ok (.getfield index, 3) ∧ nx = pc + 3 ∧ vwCl[a]? = some (C, T, N) ∧ b' < N ∧ (∀ x ∈ u_ws C T N, x ∈ Ts) ∧ ev_fl_ok own (T b').1 (T b').2.1 (T b').2.2.1 index Ts) : ev_Go D aC b B0 σ p l e R s m args below meth c Q nL pc loc st w := by
  obtain ⟨hx, hb, -, ho, ht, hV, -⟩ := hF
  obtain ⟨index, C, T, N, d, rfl, hc, hN, hin, hlk⟩ := hi
  unfold ev_h_getf at h
  split at h
  · next i rr =>
    split at h
    · next q hq =>
      obtain ⟨h1, h⟩ := ev_if_n h
      have h1 := Nat.eq_of_beq_eq_true h1
      split at h
      · next v hv =>
        intro H locs ls hl hJ hS
        have hc' : vwCl[q.1]? = some (C, T, N) := by rw [h1]; exact hc
        obtain ⟨hi, cell, q1, q2, q3, q4⟩ := ev_J_obj hJ hq hc'
        obtain ⟨hS9, hfc, kC, hkC, hkind⟩ := hV.1.1 q.1 _ hc'
        obtain ⟨cf, kf, fi, f, hif, hsl⟩ := hS9 b' hN
        have hst := (u_facts hfc hkC (u_lays ht hin hN) hif).1
        have go := hk _ _ _ _ h H locs ls hl hJ hS
        rw [List.map_cons] at go ⊢
        have e1 : ev_dn b B0 σ (.inr (.inl (some i))) = .ref (B0 + i) := by
          show Value.ref _ = _
          rw [ev_ad_w hi]
        rw [e1]
        have e2 : cell.slots[f.slot]? = some (ev_dn b B0 σ v) := by
          rw [hsl, q4 b' hN]
          unfold ev_fv
          rw [hv]
        rcases hlk with hlk | ⟨host, hlk⟩
        · exact W.getf hx hb ho (ht _ hlk) hif hst q1 (by rw [q3]; exact fun h => by cases h) e2 rfl rfl d go
        · exact va_Wgetf hx hb ho (va_Nw.use rfl (hV.2.1 _ hlk rfl)) hif hst q1 (by rw [q3]; exact fun h => by cases h) e2 rfl rfl d go
      · cases h
    · cases h
  · cases h
theorem ev_fits_ok {c : Nat} {v : ev_V} (h : ev_fits c v = true) {ty : FieldType} (hty : (c = 0 ∧ ty = .int) ∨ (c = 1 ∧ ty = .boolean) ∨ (c = 2 ∧ ((∃ C, ty = .object C) ∨ ∃ t, ty = .array t)) ∨ (c = 3 ∧ ty = .long)) : narrow ty (ev_dn b B0 σ v) = ev_dn b B0 σ v ∧ fits ty (ev_dn b B0 σ v) = true := by
  rcases hty with ⟨rfl, rfl⟩ | ⟨rfl, rfl⟩ | ⟨rfl, hty⟩ | ⟨rfl, rfl⟩
  · obtain ⟨x, ex⟩ := ev_dn_i (b := b) (B0 := B0) (σ := σ) (show ev_ii v = true from h)
    rw [ex]
    exact ⟨rfl, rfl⟩
  · rcases v with n | z | ⟨t, f⟩ | ⟨j, n⟩
    · have h : Nat.ble n 1 = true := h
      have h := Nat.le_of_ble_eq_true h
      have : n = 0 ∨ n = 1 := by omega
      rcases this with rfl | rfl
      · exact (by decide +kernel : narrow FieldType.boolean (.int (nI 0)) = .int (nI 0) ∧ fits FieldType.boolean (.int (nI 0)) = true)
      · exact (by decide +kernel : narrow FieldType.boolean (.int (nI 1)) = .int (nI 1) ∧ fits FieldType.boolean (.int (nI 1)) = true)
    · cases h
    · cases h
    · cases h
  · obtain ⟨x, -, ex⟩ := ev_dn_r (b := b) (B0 := B0) (σ := σ) (show ev_ir v = true from h)
    rw [ex]
    rcases hty with ⟨C, rfl⟩ | ⟨t, rfl⟩ <;> cases x <;> exact ⟨rfl, rfl⟩
  · obtain ⟨n, rfl⟩ := ev_dn_k (show ev_ik 0 v = true from h)
    exact ⟨rfl, rfl⟩
theorem ev_o_putf (hF : ev_Fx D aC b B0 L σ p s m args meth c cc nL Ts own Sg) (hk : ∀ pc loc st w, k pc loc st w = some r → ev_Go D aC b B0 σ p l e R s m args below meth c Q nL pc loc st w) (h : ev_h_putf Φ M k cl nx a b' c' tg pc loc st w = some r)
    (hi : ∃ (index : Nat) (C : String) (T : u_T) (N : Nat) (ty0 : Nat → FieldType), decode cc pc = .ok (.putfield index, 3) ∧ nx = pc + 3 ∧ vwCl[a]? = some (C, T, N) ∧ b' < N ∧ (∀ x ∈ u_ws C T N, x ∈ Ts) ∧ (∀ k, k < N → parseFieldDescriptor (T k).2.2.1 = some (ty0 k)) ∧ (∀ x, x < N → ∀ y, y < N → x ≠ y → (T x).2.1 ≠ (T y).2.1) ∧
      ((c' = 0 ∧ ty0 b' = .int) ∨ (c' = 1 ∧ ty0 b' = .boolean) ∨ (c' = 2 ∧ ((∃ C, ty0 b' = .object C) ∨ ∃ t, ty0 b' = .array t)) ∨ (c' = 3 ∧ ty0 b' = .long)) ∧
      (((T b').2.2.2 = false ∧ ev_fl_ok own (T b').1 (T b').2.1 (T b').2.2.1 index Ts) ∨ ((T b').2.2.2 = true ∧ meth.name = "<init>" ∧ (T b').1 = own ∧ Cond.fieldLink own index (T b').1 (T b').2.1 (T b').2.2.1 ∈ Ts))) : ev_Go D aC b B0 σ p l e R s m args below meth c Q nL pc loc st w := by
  obtain ⟨hx, hb, -, ho, ht, hV, -⟩ := hF
  obtain ⟨index, C, T, N, ty0, d, rfl, hc, hN, hin, hty, hnm, hty9, hlk⟩ := hi
  unfold ev_h_putf at h
  split at h
  · next v i rr =>
    split at h
    · next q hq =>
      obtain ⟨h1, h⟩ := ev_if_n h
      simp only [Bool.and_eq_true] at h1
      obtain ⟨h1, h2⟩ := h1
      have h1 := Nat.eq_of_beq_eq_true h1
      obtain ⟨d9, x9, u9, hu9, hd9, hx9, h⟩ := ev_upd_ok h
      intro H locs ls hl hJ hS
      have hc' : vwCl[q.1]? = some (C, T, N) := by rw [h1]; exact hc
      obtain ⟨hi, cell, q1, q2, q3, q4⟩ := ev_J_obj hJ hq hc'
      have hap := va_apart (own := own) ht hin ty0 hty hnm hV.1 hc'
      obtain ⟨hS9, hfc, kC, hkC, hkind⟩ := hV.1.1 q.1 _ hc'
      obtain ⟨cf, kf, fi, f, hif, hsl⟩ := hS9 b' hN
      have hst := (u_facts hfc hkC (u_lays ht hin hN) hif).1
      obtain ⟨hn, hfit⟩ := ev_fits_ok (b := b) (B0 := B0) (σ := σ) h2 hty9
      have hd := hty b' hN
      have hlay := ht _ (hin _ (u_in_lay hN))
      unfold u_lay at hlay
      have e1 : ev_dn b B0 σ (.inr (.inl (some i))) = .ref (B0 + i) := by
        show Value.ref _ = _
        rw [ev_ad_w hi]
      rw [List.map_cons, List.map_cons, e1]
      have hslot : f.slot < cell.slots.size := by rw [hsl]; exact k2_hasslot (q4 b' hN)
      have go : ∀ H' : Heap, H'[B0 + i]? = some (cell.setSlot f.slot (ev_dn b B0 σ v)) → H'.size = H.size → (∀ q, q ≠ B0 + i → H'[q]? = H[q]?) →
          W p l e R s m args below meth c H' (locs ++ [⟨B0 + i, f.slot⟩]) w.2.2.2.1 w.2.2.2.2 Q (F0 m (pc + 3) ls (rr.map (ev_dn b B0 σ))) := by
        intro H' g1 g2 g3
        rw [hsl] at g1
        refine hk _ _ _ _ h H' _ ls hl (ev_J_set hJ hq hx9 (Or.inr (Or.inl ⟨_, hc', ?_⟩)) g2 g3) (ev_S_put hS g2 g3 (ev_J_A hJ hq))
        rw [ev_fv_set hd9]
        exact ⟨_, g1, q2, q3, t_set q4 hap hN _⟩
      rcases hlk with ⟨hfin, hlk⟩ | ⟨hfin, hini, hown2, hlk⟩
      · rw [if_neg (by rw [hfin]; decide)] at hlay
        have h6 := u_store hfc hkC hkind hlay hif hd hn hfit
        rcases hlk with hlk | ⟨host, hlk⟩
        · exact W.putK hx hb (f := f) ⟨ho, ht _ hlk, ⟨_, _, _, hif⟩, hst⟩ (by rw [q2]; exact h6) q1 q3 hslot rfl rfl d go
        · exact va_WputK hx hb (f := f) ho (va_Nw.use rfl (hV.2.1 _ hlk rfl)) hif hst (by rw [q2]; exact h6) q1 q3 hslot rfl rfl d go
      · rw [if_pos hfin] at hlay
        have hcf : m.cls = cf := by
          obtain ⟨_, _, c', _, _, _, -, -, hf', -, -, -, hown3, -⟩ := Cond.laysFinal_spec hlay
          have e1 : c' = cf := by have := hif.symm.trans hf'; simp at this; exact this.1.symm
          rw [hown2] at hown3
          rw [← e1]; exact Option.some.inj (ho.symm.trans hown3)
        have h6 := u_fits hfc hkC hkind (Or.inr hlay) hif hd hn hfit
        exact W.putFinK hx hb ho (ht _ hlk) hif hst hcf hini (by rw [q2]; exact h6) q1 q3 hslot rfl rfl d go
    · cases h
  · cases h
/-- what a frame has of the script -/
theorem ev_scr (hF : ev_Fx D aC b B0 L σ p s m args meth c cc nL Ts own Sg) {H : Heap} {locs : List Loc} (hS : va_S (ev_A b B0) s.heap H locs) : va_X b.1 L σ s H := by
  obtain ⟨-, -, -, -, -, -, ⟨hX, -⟩, hbB, -⟩ := hF
  obtain ⟨scr, h1, h2⟩ := hX
  exact ⟨scr, by rw [hS.2.1 b.1 (Array.getElem?_eq_some_iff.mp h1).1 (fun z => by have := z.1; omega)]; exact h1, h2⟩
theorem ev_o_alen (hF : ev_Fx D aC b B0 L σ p s m args meth c cc nL Ts own Sg) (hL : Φ.1 ≤ 5000 → Φ.1 = L) (hk : ∀ pc loc st w, k pc loc st w = some r → ev_Go D aC b B0 σ p l e R s m args below meth c Q nL pc loc st w) (h : ev_h_alen Φ M k cl nx a b' c' tg pc loc st w = some r)
    (hi : decode cc pc = .ok (.arraylength, 1) ∧ nx = pc + 1) : ev_Go D aC b B0 σ p l e R s m args below meth c Q nL pc loc st w := by
  obtain ⟨hx, hb, -, ho, ht, hV, -⟩ := id hF
  obtain ⟨d, rfl⟩ := hi
  unfold ev_h_alen at h
  split at h
  · next i rr =>
    intro H locs ls hl hJ hS
    cases c1 : Nat.beq i 1000000 with
    | true =>
      rw [c1, ev_if_t] at h
      have c1 := Nat.eq_of_beq_eq_true c1
      subst c1
      obtain ⟨scr, g1, g2, g3, g4, -⟩ := ev_scr hF hS
      obtain ⟨h9, h⟩ := ev_if_n h
      have hL := hL (Nat.le_of_ble_eq_true h9)
      have go := hk _ _ _ _ h H locs ls hl hJ hS
      exact W.alen (n := nI Φ.1) hx hb (a := b.1) g1 g2 (by rw [g4, hL]; rfl) rfl rfl d go
    | false =>
      rw [c1, ev_if_f] at h
      split at h
      · next q hq =>
        obtain ⟨h1, h⟩ := ev_if_n h
        simp only [Bool.and_eq_true] at h1
        have k1 := Nat.le_of_ble_eq_true h1.1
        have k2 := Nat.le_of_ble_eq_true h1.2
        obtain ⟨hi, g1⟩ := ev_J_arr hJ hq k1 k2
        have go := hk _ _ _ _ h H locs ls hl hJ hS
        rw [List.map_cons] at go ⊢
        have e1 : ev_dn b B0 σ (.inr (.inl (some i))) = .ref (B0 + i) := by
          show Value.ref _ = _
          rw [ev_ad_w hi]
        rw [e1]
        exact W.alen (n := nI q.2.1) hx hb g1 ((ev_tys_of hV (ev_J_ak hJ hq k1 k2)).1 _ _) (by rw [arrV_size]; rfl) rfl rfl d go
      · cases h
  · cases h
theorem ev_ix {j N : Nat} (h : (Nat.ble (j + 1) N && Nat.ble N 65536) = true) : j < N ∧ (nI j).toNatClampNeg = j ∧ ¬ (nI j < 0 ∨ N ≤ (nI j).toNatClampNeg) := by
  simp only [Bool.and_eq_true] at h
  have h1 := Nat.le_of_ble_eq_true h.1
  have h2 := Nat.le_of_ble_eq_true h.2
  have e : (nI j).toNatClampNeg = j := nI_clamp (by omega)
  refine ⟨by omega, e, ?_⟩
  rw [e]
  rintro (q | q)
  · exact nI_pos (by omega) q
  · omega
theorem ev_o_ald (hF : ev_Fx D aC b B0 L σ p s m args meth c cc nL Ts own Sg) (hk : ∀ pc loc st w, k pc loc st w = some r → ev_Go D aC b B0 σ p l e R s m args below meth c Q nL pc loc st w) (h : ev_h_ald Φ M k cl nx a b' c' tg pc loc st w = some r)
    (hi : ((a = 20 ∧ b' = 20 ∧ decode cc pc = .ok (.iaload, 1)) ∨ (a = 21 ∧ b' = 22 ∧ decode cc pc = .ok (.baload, 1)) ∨ (a = 23 ∧ b' = 23 ∧ decode cc pc = .ok (.laload, 1)) ∨ (a = 24 ∧ b' = 25 ∧ decode cc pc = .ok (.aaload, 1)) ∨ (a = 26 ∧ b' = 28 ∧ decode cc pc = .ok (.aaload, 1))) ∧ nx = pc + 1) : ev_Go D aC b B0 σ p l e R s m args below meth c Q nL pc loc st w := by
  obtain ⟨hx, hb, -, ho, ht, hV, -⟩ := id hF
  obtain ⟨hi, rfl⟩ := hi
  unfold ev_h_ald at h
  split at h
  · next j i rr =>
    split at h
    · next q hq =>
      obtain ⟨h1, h⟩ := ev_if_n h
      simp only [Bool.and_eq_true] at h1
      have k1 := Nat.le_of_ble_eq_true h1.1
      have k2 := Nat.le_of_ble_eq_true h1.2.1
      obtain ⟨g4, g5, g6⟩ := ev_ix (j := j) (N := q.2.1) (by rw [Bool.and_eq_true]; exact h1.2.2)
      split at h
      · next v hv =>
        intro H locs ls hl hJ hS
        have hab : 20 ≤ a ∧ b' ≤ 28 := by rcases hi with ⟨rfl, rfl, -⟩ | ⟨rfl, rfl, -⟩ | ⟨rfl, rfl, -⟩ | ⟨rfl, rfl, -⟩ | ⟨rfl, rfl, -⟩ <;> omega
        obtain ⟨hi9, g1⟩ := ev_J_arr hJ hq (by omega) (by omega)
        have hA := (ev_tys_of hV (k := q.1) (ev_J_ak hJ hq (by omega) (by omega))).1 q.2.1 (ev_fv b B0 σ q.2.2)
        have go := hk _ _ _ _ h H locs ls hl hJ hS
        rw [List.map_cons] at go
        rw [List.map_cons, List.map_cons]
        have e1 : ev_dn b B0 σ (.inr (.inl (some i))) = .ref (B0 + i) := by
          show Value.ref _ = _
          rw [ev_ad_w hi9]
        rw [e1]
        have hin : ¬ (nI j < 0 ∨ (arrV (aC q.1) q.2.1 (ev_fv b B0 σ q.2.2)).slots.size ≤ (nI j).toNatClampNeg) := by rw [arrV_size]; exact g6
        have hv9 : (arrV (aC q.1) q.2.1 (ev_fv b B0 σ q.2.2)).slots[(nI j).toNatClampNeg]? = some (ev_dn b B0 σ v) := by
          rw [g5, arrV_read _ _ g4]
          unfold ev_fv
          rw [hv]
        have hkn : (arrV (aC q.1) q.2.1 (ev_fv b B0 σ q.2.2)).vm ≠ .unknown := fun z => by cases z
        rcases hi with ⟨rfl, rfl, d⟩ | ⟨rfl, rfl, d⟩ | ⟨rfl, rfl, d⟩ | ⟨rfl, rfl, d⟩ | ⟨rfl, rfl, d⟩
        · have e9 : q.1 = 20 := by omega
          rw [e9] at g1 hA hin hv9 hkn
          exact W.iald hx hb g1 hA hkn hin hv9 rfl rfl d go
        · have e9 : q.1 = 21 ∨ q.1 = 22 := by omega
          rcases e9 with e9 | e9
          · rw [e9] at g1 hA hin hv9 hkn
            exact W.bald hx hb g1 hA hkn hin hv9 rfl rfl d go
          · rw [e9] at g1 hA hin hv9 hkn
            exact W.zald hx hb g1 hA hkn hin hv9 rfl rfl d go
        · have e9 : q.1 = 23 := by omega
          rw [e9] at g1 hA hin hv9 hkn
          exact W.lald hx hb g1 hA hkn hin hv9 rfl rfl d go
        · have e9 : q.1 = 24 ∨ q.1 = 25 := by omega
          rcases e9 with e9 | e9
          · rw [e9] at g1 hA hin hv9 hkn
            exact W.aald (ty := .object RX3) hx hb g1 hA rfl hkn hin hv9 rfl rfl d go
          · rw [e9] at g1 hA hin hv9 hkn
            exact W.aald (ty := .object RX5) hx hb g1 hA rfl hkn hin hv9 rfl rfl d go
        · have e9 : q.1 = 26 ∨ q.1 = 27 ∨ q.1 = 28 := by omega
          rcases e9 with e9 | e9 | e9
          · rw [e9] at g1 hA hin hv9 hkn
            exact W.aald (ty := .object "java/lang/Object") hx hb g1 hA rfl hkn hin hv9 rfl rfl d go
          · rw [e9] at g1 hA hin hv9 hkn
            exact W.aald (ty := .object RX7) hx hb g1 hA rfl hkn hin hv9 rfl rfl d go
          · rw [e9] at g1 hA hin hv9 hkn
            exact W.aald (ty := .object RJ0) hx hb g1 hA rfl hkn hin hv9 rfl rfl d go
      · cases h
    · cases h
  · cases h
theorem ev_o_iald (hF : ev_Fx D aC b B0 L σ p s m args meth c cc nL Ts own Sg) (hL : Φ.1 ≤ 5000 → Φ.1 = L) (hΦ : ev_FO Φ σ) (hk : ∀ pc loc st w, k pc loc st w = some r → ev_Go D aC b B0 σ p l e R s m args below meth c Q nL pc loc st w) (h : ev_h_iald Φ M k cl nx a b' c' tg pc loc st w = some r)
    (hi : a = 20 ∧ b' = 20 ∧ decode cc pc = .ok (.iaload, 1) ∧ nx = pc + 1) : ev_Go D aC b B0 σ p l e R s m args below meth c Q nL pc loc st w := by
  obtain ⟨hx, hb, -, ho, ht, hV, -⟩ := id hF
  unfold ev_h_iald at h
  split at h
  · next j i rr =>
    cases c1 : Nat.beq i 1000000 with
    | true =>
      rw [c1, ev_if_t] at h
      have c1 := Nat.eq_of_beq_eq_true c1
      subst c1
      obtain ⟨h1, h⟩ := ev_if_n h
      simp only [Bool.and_eq_true] at h1
      have k1 := Nat.le_of_ble_eq_true h1.1
      have k2 := Nat.le_of_ble_eq_true h1.2
      have hL := hL k2
      obtain ⟨rfl, rfl, d, rfl⟩ := hi
      intro H locs ls hl hJ hS
      obtain ⟨scr, g1, g2, g3, g4, g5⟩ := ev_scr hF hS
      have e5 : (nI j).toNatClampNeg = j := nI_clamp (by omega)
      have es : ev_sv σ j = σ j := by
        unfold ev_sv
        rw [if_pos (by omega)]
      have hf := hΦ j
      rw [es] at hf
      generalize ev_fl Φ.2 j = f at h hf
      obtain ⟨lo, hi⟩ := f
      have h : ev_if (Nat.beq lo hi) (k (pc + 1) loc (.inl ((lo + 2147483648) % 4294967296) :: rr) w) (k (pc + 1) loc (.inr (.inr (.inl (some j, fun _ => 0))) :: rr) w) = some r := h
      have fin : ∀ z : ev_V, ev_dn b B0 σ z = .int (σ j) → k (pc + 1) loc (z :: rr) w = some r → W p l e R s m args below meth c H locs w.2.2.2.1 w.2.2.2.2 Q (F0 m pc ls (List.map (ev_dn b B0 σ) (.inl j :: .inr (.inl (some 1000000)) :: rr))) := by
        intro z e9 h
        have go := hk _ _ _ _ h H locs ls hl hJ hS
        rw [List.map_cons, e9] at go
        exact W.iald hx hb (a := b.1) g1 g2 g3 (by rw [g4, e5]; rintro (q | q); exact nI_pos (by omega) q; omega) (by rw [e5]; exact g5 j (by omega)) rfl rfl d go
      cases c2 : Nat.beq lo hi with
      | false =>
        rw [c2, ev_if_f] at h
        refine fin _ ?_ h
        show Value.int (ev_sv σ j) = Value.int (σ j)
        rw [es]
      | true =>
        rw [c2, ev_if_t] at h
        have c2 := Nat.eq_of_beq_eq_true c2
        refine fin _ ?_ h
        show Value.int (nI ((lo + 2147483648) % 4294967296)) = Value.int (σ j)
        have h9 := ev_bb_max (σ j)
        have hlo : lo = ev_bb (σ j) := by
          have q1 : lo ≤ ev_bb (σ j) := hf.1
          have q2 : ev_bb (σ j) ≤ hi := hf.2
          omega
        have e7 : nI ((lo + 2147483648) % 4294967296) = σ j := by
          apply ev_bb_inj
          rw [← ev_bi_ok]
          unfold ev_bi
          omega
        rw [e7]
    | false =>
      rw [c1, ev_if_f] at h
      exact ev_o_ald hF hk h ⟨Or.inl ⟨hi.1, hi.2.1, hi.2.2.1⟩, hi.2.2.2⟩
  · cases h
/-- an element of an array was written -/
theorem ev_J_ast {w : ev_W} {H H1 : Heap} {i j : Nat} {q : ev_C} {x : List (List (List ev_C))} {d : List (List (List ev_V))} {v : ev_V} (h : ev_J D aC b B0 σ w H) (hq : ev_get w.1 i = some q) (hd : ∀ n, ev_get d n = if n = j then some v else ev_get q.2.2 n) (hx : ∀ n, ev_get x n = if n = i then some (q.1, (q.2.1, d)) else ev_get w.1 n)
    (h20 : 20 ≤ q.1) (h25 : ev_ak q.1) (h1 : H1[B0 + i]? = some ((arrV (aC q.1) q.2.1 (ev_fv b B0 σ q.2.2)).setSlot j (ev_dn b B0 σ v))) (hz : H1.size = H.size) (ho : ∀ x, x ≠ B0 + i → H1[x]? = H[x]?) : ev_J D aC b B0 σ (x, w.2) H1 := by
  refine ev_J_set h hq hx (Or.inr (Or.inr ⟨h25, h20, ?_⟩)) hz ho
  rw [h1, arrV_store, ev_fv_set hd]
theorem ev_o_iast (hF : ev_Fx D aC b B0 L σ p s m args meth c cc nL Ts own Sg) (hk : ∀ pc loc st w, k pc loc st w = some r → ev_Go D aC b B0 σ p l e R s m args below meth c Q nL pc loc st w) (h : ev_h_iast Φ M k cl nx a b' c' tg pc loc st w = some r)
    (hi : decode cc pc = .ok (.iastore, 1) ∧ nx = pc + 1) : ev_Go D aC b B0 σ p l e R s m args below meth c Q nL pc loc st w := by
  obtain ⟨hx, hb, -, ho, ht, hV, -⟩ := id hF
  obtain ⟨d, rfl⟩ := hi
  unfold ev_h_iast at h
  split at h
  · next v j i rr =>
    split at h
    · next q hq =>
      obtain ⟨h1, h⟩ := ev_if_n h
      rw [Bool.and_eq_true, Bool.and_eq_true] at h1
      have k1 := Nat.eq_of_beq_eq_true h1.1
      obtain ⟨g4, g5, g6⟩ := ev_ix h1.2.2
      obtain ⟨xv, ex⟩ := ev_dn_i (b := b) (B0 := B0) (σ := σ) h1.2.1
      obtain ⟨d9, x9, u9, hu9, hd9, hx9, h⟩ := ev_upd_ok h
      intro H locs ls hl hJ hS
      obtain ⟨hi9, g1⟩ := ev_J_arr hJ hq (by omega) (by omega)
      have hA := (ev_tys_of hV (k := q.1) (ev_J_ak hJ hq (by omega) (by omega))).1 q.2.1 (ev_fv b B0 σ q.2.2)
      have e1 : ev_dn b B0 σ (.inr (.inl (some i))) = .ref (B0 + i) := by
        show Value.ref _ = _
        rw [ev_ad_w hi9]
      rw [List.map_cons, List.map_cons, List.map_cons, e1, ex]
      refine W.iast hx hb g1 (by rw [k1] at hA ⊢; exact hA) (fun z => by cases z) (by rw [arrV_size]; exact g6) rfl rfl d fun H1 z1 z2 z3 => ?_
      rw [g5, ← ex] at z1
      exact hk _ _ _ _ h H1 _ ls hl (ev_J_ast hJ hq hd9 hx9 (by omega) (ev_J_ak hJ hq (by omega) (by omega)) z1 z2 z3) (ev_S_put hS z2 z3 (ev_J_A hJ hq))
    · cases h
  · cases h
theorem ev_nb_ok {v z : ev_V} (h : ev_nb v = some z) : ∃ x : Int32, ev_dn b B0 σ v = .int x ∧ ev_dn b B0 σ z = .int x.toInt8.toInt32 := by
  rcases v with n | q | ⟨t, f⟩ | ⟨j, n⟩
  · have h : some (.inl (ev_n (nI n).toInt8.toInt32)) = some z := h
    cases h
    exact ⟨nI n, rfl, by show Value.int _ = _; rw [ev_nI_n]⟩
  · cases h
  · cases t with
    | none => cases h; exact ⟨f σ, rfl, rfl⟩
    | some i => cases h
  · cases h
theorem ev_o_bast (hF : ev_Fx D aC b B0 L σ p s m args meth c cc nL Ts own Sg) (hk : ∀ pc loc st w, k pc loc st w = some r → ev_Go D aC b B0 σ p l e R s m args below meth c Q nL pc loc st w) (h : ev_h_bast Φ M k cl nx a b' c' tg pc loc st w = some r)
    (hi : decode cc pc = .ok (.bastore, 1) ∧ nx = pc + 1) : ev_Go D aC b B0 σ p l e R s m args below meth c Q nL pc loc st w := by
  obtain ⟨hx, hb, -, ho, ht, hV, -⟩ := id hF
  obtain ⟨d, rfl⟩ := hi
  unfold ev_h_bast at h
  split at h
  · next v j i rr =>
    split at h
    · next q hq =>
      obtain ⟨h1, h⟩ := ev_if_n h
      obtain ⟨g4, g5, g6⟩ := ev_ix h1
      cases c1 : Nat.beq q.1 21 with
      | true =>
        rw [c1, ev_if_t] at h
        have k1 := Nat.eq_of_beq_eq_true c1
        split at h
        · next z hz =>
          obtain ⟨xv, ex, ez⟩ := ev_nb_ok (b := b) (B0 := B0) (σ := σ) hz
          obtain ⟨d9, x9, u9, hu9, hd9, hx9, h⟩ := ev_upd_ok h
          intro H locs ls hl hJ hS
          obtain ⟨hi9, g1⟩ := ev_J_arr hJ hq (by omega) (by omega)
          have hA := (ev_tys_of hV (k := q.1) (ev_J_ak hJ hq (by omega) (by omega))).1 q.2.1 (ev_fv b B0 σ q.2.2)
          have e1 : ev_dn b B0 σ (.inr (.inl (some i))) = .ref (B0 + i) := by
            show Value.ref _ = _
            rw [ev_ad_w hi9]
          rw [List.map_cons, List.map_cons, List.map_cons, e1, ex]
          refine W.bast hx hb g1 (by rw [k1] at hA ⊢; exact hA) (fun z => by cases z) (by rw [arrV_size]; exact g6) rfl rfl d fun H1 z1 z2 z3 => ?_
          rw [g5, narrow_byte, ← ez] at z1
          exact hk _ _ _ _ h H1 _ ls hl (ev_J_ast hJ hq hd9 hx9 (by omega) (ev_J_ak hJ hq (by omega) (by omega)) z1 z2 z3) (ev_S_put hS z2 z3 (ev_J_A hJ hq))
        · cases h
      | false =>
        rw [c1, ev_if_f] at h
        obtain ⟨h2, h⟩ := ev_if_n h
        rw [Bool.and_eq_true] at h2
        have k1 := Nat.eq_of_beq_eq_true h2.1
        obtain ⟨hn, -⟩ := ev_fits_ok (b := b) (B0 := B0) (σ := σ) h2.2 (ty := .boolean) (Or.inr (Or.inl ⟨rfl, rfl⟩))
        have hii : ev_ii v = true := by
          rcases v with n | q | ⟨t, f⟩ | ⟨j, n⟩
          · rfl
          · exact absurd h2.2 (fun z => by cases z)
          · rfl
          · exact absurd h2.2 (fun z => by cases z)
        obtain ⟨xv, ex⟩ := ev_dn_i (b := b) (B0 := B0) (σ := σ) hii
        obtain ⟨d9, x9, u9, hu9, hd9, hx9, h⟩ := ev_upd_ok h
        intro H locs ls hl hJ hS
        obtain ⟨hi9, g1⟩ := ev_J_arr hJ hq (by omega) (by omega)
        have hA := (ev_tys_of hV (k := q.1) (ev_J_ak hJ hq (by omega) (by omega))).1 q.2.1 (ev_fv b B0 σ q.2.2)
        have e1 : ev_dn b B0 σ (.inr (.inl (some i))) = .ref (B0 + i) := by
          show Value.ref _ = _
          rw [ev_ad_w hi9]
        rw [List.map_cons, List.map_cons, List.map_cons, e1, ex]
        refine W.zast hx hb g1 (by rw [k1] at hA ⊢; exact hA) (fun z => by cases z) (by rw [arrV_size]; exact g6) rfl rfl d fun H1 z1 z2 z3 => ?_
        rw [g5, ← ex, hn] at z1
        exact hk _ _ _ _ h H1 _ ls hl (ev_J_ast hJ hq hd9 hx9 (by omega) (ev_J_ak hJ hq (by omega) (by omega)) z1 z2 z3) (ev_S_put hS z2 z3 (ev_J_A hJ hq))
    · cases h
  · cases h
theorem ev_o_last (hF : ev_Fx D aC b B0 L σ p s m args meth c cc nL Ts own Sg) (hk : ∀ pc loc st w, k pc loc st w = some r → ev_Go D aC b B0 σ p l e R s m args below meth c Q nL pc loc st w) (h : ev_h_last Φ M k cl nx a b' c' tg pc loc st w = some r)
    (hi : decode cc pc = .ok (.lastore, 1) ∧ nx = pc + 1) : ev_Go D aC b B0 σ p l e R s m args below meth c Q nL pc loc st w := by
  obtain ⟨hx, hb, -, ho, ht, hV, -⟩ := id hF
  obtain ⟨d, rfl⟩ := hi
  unfold ev_h_last at h
  split at h
  · next v j i rr =>
    split at h
    · next q hq =>
      obtain ⟨h1, h⟩ := ev_if_n h
      rw [Bool.and_eq_true, Bool.and_eq_true] at h1
      have k1 := Nat.eq_of_beq_eq_true h1.1
      obtain ⟨g4, g5, g6⟩ := ev_ix h1.2.2
      obtain ⟨nv, rfl⟩ := ev_dn_k h1.2.1
      obtain ⟨d9, x9, u9, hu9, hd9, hx9, h⟩ := ev_upd_ok h
      intro H locs ls hl hJ hS
      obtain ⟨hi9, g1⟩ := ev_J_arr hJ hq (by omega) (by omega)
      have hA := (ev_tys_of hV (k := q.1) (ev_J_ak hJ hq (by omega) (by omega))).1 q.2.1 (ev_fv b B0 σ q.2.2)
      have e1 : ev_dn b B0 σ (.inr (.inl (some i))) = .ref (B0 + i) := by
        show Value.ref _ = _
        rw [ev_ad_w hi9]
      rw [List.map_cons, List.map_cons, List.map_cons, e1]
      refine W.last (x := lN nv) hx hb g1 (by rw [k1] at hA ⊢; exact hA) (fun z => by cases z) (by rw [arrV_size]; exact g6) rfl rfl d fun H1 z1 z2 z3 => ?_
      rw [g5] at z1
      exact hk _ _ _ _ h H1 _ ls hl (ev_J_ast hJ hq hd9 hx9 (by omega) (ev_J_ak hJ hq (by omega) (by omega)) z1 z2 z3) (ev_S_put hS z2 z3 (ev_J_A hJ hq))
    · cases h
  · cases h
theorem ev_o_aast (hF : ev_Fx D aC b B0 L σ p s m args meth c cc nL Ts own Sg) (hk : ∀ pc loc st w, k pc loc st w = some r → ev_Go D aC b B0 σ p l e R s m args below meth c Q nL pc loc st w) (h : ev_h_aast 3 5 Φ M k cl nx a b' c' tg pc loc st w = some r)
    (hi : decode cc pc = .ok (.aastore, 1) ∧ nx = pc + 1) : ev_Go D aC b B0 σ p l e R s m args below meth c Q nL pc loc st w := by
  obtain ⟨hx, hb, -, ho, ht, hV, -⟩ := id hF
  obtain ⟨d, rfl⟩ := hi
  unfold ev_h_aast at h
  split at h
  · next x j i rr =>
    split at h
    · next q u hq hu =>
      obtain ⟨h1, h⟩ := ev_if_n h
      rw [Bool.and_eq_true] at h1
      obtain ⟨g4, g5, g6⟩ := ev_ix h1.2
      obtain ⟨d9, x9, u9, hu9, hd9, hx9, h⟩ := ev_upd_ok h
      have kk : (q.1 = 24 ∧ u.1 = 3) ∨ (q.1 = 25 ∧ u.1 = 5) := by
        have h1 := h1.1
        cases c1 : Nat.beq q.1 24 with
        | true =>
          rw [c1, ev_if_t] at h1
          exact Or.inl ⟨Nat.eq_of_beq_eq_true c1, Nat.eq_of_beq_eq_true h1⟩
        | false =>
          rw [c1, ev_if_f, Bool.and_eq_true] at h1
          exact Or.inr ⟨Nat.eq_of_beq_eq_true h1.1, Nat.eq_of_beq_eq_true h1.2⟩
      intro H locs ls hl hJ hS
      obtain ⟨hi9, g1⟩ := ev_J_arr hJ hq (by omega) (by omega)
      obtain ⟨-, hRA⟩ := ev_tys_of hV (k := q.1) (ev_J_ak hJ hq (by omega) (by omega))
      have e1 : ∀ {n : Nat}, n < 1000000 → ev_dn b B0 σ (.inr (.inl (some n))) = .ref (B0 + n) := fun hn => by
        show Value.ref _ = _
        rw [ev_ad_w hn]
      have main : ∀ (ci : Nat) (rr9 : vw_C), u.1 = ci → vwCl[ci]? = some rr9 → va_RA s (aC q.1) (.object rr9.1) → W p l e R s m args below meth c H locs w.2.2.2.1 w.2.2.2.2 Q (F0 m pc ls ((.inr (.inl (some x)) :: .inl j :: .inr (.inl (some i)) :: rr).map (ev_dn b B0 σ))) := by
        intro ci rr9 eu hci hra
        obtain ⟨hx9', cellV, f1, f2, f3, -⟩ := ev_J_obj hJ hu (rr := rr9) (by rw [eu]; exact hci)
        have hcls := (hV.1.1 ci rr9 hci).2
        obtain ⟨kA, comp, k1, k2, k3, -⟩ := hra
        have hcomp : comp = D.1 ci := Option.some.inj (k3.symm.trans hcls.1)
        subst hcomp
        obtain ⟨kC, hkC, -⟩ := hcls.2
        rw [List.map_cons, List.map_cons, List.map_cons, e1 hi9, e1 hx9']
        refine W.aast hx hb g1 (fun q h => by cases h) (fun h => by cases h) k1 k2 rfl hkC ⟨fun z => g6 (Or.inl z), by rw [arrV_size, g5]; exact g4⟩ f1 (fun q h => by rw [f3] at h; cases h) (by rw [f2, eu]; exact hkC) (by rw [f2, eu]; exact va_assign hcls) rfl rfl d fun H1 z1 z2 z3 => ?_
        rw [g5, ← e1 hx9'] at z1
        exact hk _ _ _ _ h H1 _ ls hl (ev_J_ast hJ hq hd9 hx9 (by omega) (ev_J_ak hJ hq (by omega) (by omega)) z1 z2 z3) (ev_S_put hS z2 z3 (ev_J_A hJ hq))
      rcases kk with ⟨k1, k2⟩ | ⟨k1, k2⟩
      · rw [k1] at hRA
        exact main 3 (RX3, TX3, 15) k2 rfl (by rw [k1]; exact hRA)
      · rw [k1] at hRA
        exact main 5 (RX5, TX5, 10) k2 rfl (by rw [k1]; exact hRA)
    · cases h
  · cases h
end EVH
