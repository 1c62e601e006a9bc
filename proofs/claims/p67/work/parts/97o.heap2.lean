/-! ===== the law's layer: arrays, new things (own work) ===== -/
theorem toI_n {n : Nat} (h : n < 4294967296) : toI (n : Int) = nI n := by
  unfold toI
  rw [show ((n : Int) % 4294967296).toNat = n by omega]
theorem toI_I (x : Int32) : toI x.toInt = x := by
  have h := ev_n_sI x
  unfold toI
  have h2 : ev_n x = (x.toInt % 4294967296).toNat := by
    have h3 : (Sum.inl (ev_n x) : ev_V) = .inl (x.toInt % 4294967296).toNat := h
    exact Sum.inl.inj h3
  rw [← h2, ev_nI_n]
theorem lw_small (j i : Nat) : (lw_tx.getD j []).getD i 0 < 256 := by
  have h : lw_tx.all (fun l => l.all (fun c => decide (c < 256))) = true := by decide
  have h := List.all_eq_true.mp h
  rw [List.getD_eq_getElem?_getD, List.getD_eq_getElem?_getD]
  cases h1 : lw_tx[j]? with
  | none => simp
  | some l =>
    show (l[i]?).getD 0 < 256
    cases h2 : l[i]? with
    | none => simp
    | some c =>
      have := List.all_eq_true.mp (h l (List.mem_of_getElem? h1)) c (List.mem_of_getElem? h2)
      exact of_decide_eq_true this
theorem lw_len (j : Nat) : (lw_tx.getD j []).length ≤ 200 := by
  have h : lw_tx.all (fun l => decide (l.length ≤ 200)) = true := by decide
  rw [List.getD_eq_getElem?_getD]
  cases h1 : lw_tx[j]? with
  | none => simp
  | some l => exact of_decide_eq_true (List.all_eq_true.mp h l (List.mem_of_getElem? h1))
theorem cz_arr {b : ev_B} {B0 : Nat} {U : State} {H : Heap} {p : Int} (hz : CZ b B0 U H) (h2 : 20 ≤ cK p) (h3 : cK p ≤ 28) : ∃ (ty : FieldType) (f : Nat → Value), va_T ty (b.2.1 (p - 2000000).toNat) (cZ p).toNat f (ev_A b B0) U H ∧ (cK p = 21 → ty = .byte ∧ ∀ i : Nat, (i : Int) < cZ p → f i = .int (toI (cg p i))) := by
  obtain ⟨z1, -, z2, -, z3, -, z4, -⟩ := hz
  rcases cK_arr h2 h3 with ⟨k, q1, q2⟩ | ⟨k, rfl | rfl⟩ | ⟨k, rfl⟩
  · obtain ⟨-, -, -, -, g⟩ := z1 (p - 2100100).toNat (by omega)
    have e1 : cZ p = ((lw_tx.getD (p - 2100100).toNat []).length : Nat) := by
      unfold cZ
      rw [if_neg (by omega), if_pos ⟨q1, q2⟩]
    have e2 : ∀ i : Nat, cg p i = ((lw_tx.getD (p - 2100100).toNat []).getD i 0 : Nat) := fun i => by
      unfold cg
      rw [if_neg (by omega), if_pos ⟨q1, q2⟩]
      rfl
    refine ⟨.byte, fun i => .int (nI ((lw_tx.getD (p - 2100100).toNat []).getD i 0)), ?_, fun _ => ⟨rfl, fun i _ => ?_⟩⟩
    · rw [e1, show (p - 2000000).toNat = 100100 + (p - 2100100).toNat by omega]
      exact g
    · rw [e2, toI_n (by have := lw_small (p - 2100100).toNat i; omega)]
  · refine ⟨.byte, _, z2, fun _ => ⟨rfl, fun i hi => ?_⟩⟩
    have hi : (i : Int) < 100 := hi
    have e2 : cg 2200000 i = ((48 + i % 10 : Nat) : Int) := by
      unfold cg
      rw [if_neg (by omega), if_neg (by omega), if_pos ⟨Or.inl rfl, by omega⟩]
      show lw_dig 0 (i : Nat) = _
      unfold lw_dig
      rw [if_pos rfl]
      omega
    rw [e2, toI_n (by omega)]
  · refine ⟨.byte, _, z3, fun _ => ⟨rfl, fun i hi => ?_⟩⟩
    have hi : (i : Int) < 100 := hi
    have e2 : cg 2200001 i = ((48 + i / 10 : Nat) : Int) := by
      unfold cg
      rw [if_neg (by omega), if_neg (by omega), if_pos ⟨Or.inr rfl, by omega⟩]
      show lw_dig 1 (i : Nat) = _
      unfold lw_dig
      rw [if_neg (by decide)]
      omega
    rw [e2, toI_n (by omega)]
  · exact ⟨_, _, z4, fun h => by rw [k] at h; cases h⟩
theorem cz_bd {p : Int} (h2 : 20 ≤ cK p) (h3 : cK p ≤ 28) : 0 ≤ cZ p ∧ cZ p ≤ 200 := by
  rcases cK_arr h2 h3 with ⟨k, q1, q2⟩ | ⟨k, rfl | rfl⟩ | ⟨k, rfl⟩
  · have e1 : cZ p = ((lw_tx.getD (p - 2100100).toNat []).length : Nat) := by
      unfold cZ
      rw [if_neg (by omega), if_pos ⟨q1, q2⟩]
    have := lw_len (p - 2100100).toNat
    omega
  · exact ⟨by decide, by decide⟩
  · exact ⟨by decide, by decide⟩
  · exact ⟨by decide, by decide⟩
theorem by_i2b (x : Int) : -128 ≤ i2b x ∧ i2b x < 128 := by
  unfold i2b
  rw [Int8.toInt_toInt32]
  have h1 := Int8.le_toInt (toI x).toInt8
  have h2 := Int8.toInt_lt (toI x).toInt8
  omega
theorem gq_nb {x : Int} : ev_nb (sI x) = some (sI (i2b x)) := by
  show some (Sum.inl (ev_n (nI (x % 4294967296).toNat).toInt8.toInt32)) = some (sI (i2b x))
  exact congrArg some (ev_n_sI _)
section G2I
variable {κ : CX} {im : ev_Im} {M : ev_M} {t d : Nat} {n0 s0 : Int} {X A B : Option (Int × sS)} {pc nx : Nat} {loc : ev_L} {st r : List ev_V} {S : sS} {a b c' : Nat} {tg : List Nat} {x y p j v z : Int}
/-- three kinds of arrays: made here, the script, constants -/
theorem wf_arr (hW : WF2 κ S) (h20 : 20 ≤ sK S p) (h28 : sK S p ≤ 28) : ((0 ≤ p ∧ p < sn S) ∧ (ev_ak (sK S p) ∧ ¬ sK S p = 24 ∧ ¬ sK S p = 25) ∧ 0 ≤ sZ S p ∧ sZ S p ≤ 65536) ∨ (p = 1000000 ∧ sK S p = 20 ∧ sZ S p = (κ.2.2.2.2.1 : Nat)) ∨ (2000000 ≤ p ∧ sK S p = cK p ∧ sZ S p = cZ p ∧ ∀ y, sg S p y = cg p y) := by
  by_cases h1 : p = 1000000
  · refine Or.inr (Or.inl ⟨h1, ?_⟩)
    rw [h1]
    exact ⟨hW.2.2.1, hW.2.2.2.1⟩
  · by_cases h2 : p < 2000000
    · obtain ⟨g1, g2⟩ := sf_real hW.2.1 (by omega) h2 h1
      exact Or.inl ⟨⟨g1, g2⟩, sf_arr hW.2.1 h20 h28 g1 g2⟩
    · exact Or.inr (Or.inr ⟨by omega, hW.2.1.2.2.2.2.1 p (by omega)⟩)
theorem g2_alen {K : Int → Option (Int × sS)} (hc : M.2.2.2.2 pc = (26, (nx, (a, (b, (c', tg)))))) (hW : WF2 κ S) (k : ∀ v, InR v → G2 κ im M t d n0 s0 (K v) nx loc (sI v :: r) S) : G2 κ im M t d n0 s0 (if 20 ≤ sK S p ∧ sK S p ≤ 28 then bnd (sZ S p) K else none) pc loc (sR p :: r) S := by
  refine g2_ck fun hk => ?_
  rcases wf_arr hW hk.1 hk.2 with ⟨⟨h2, h3⟩, ⟨h4, -⟩, h5, h6⟩ | ⟨h1, h2, h3⟩ | ⟨h1, h2, h3, h4⟩
  · refine g2_sl hc (by decide) (fun Φ M w kk cl hw hn => ?_) (k _ (by unfold InR; omega))
    obtain ⟨q, hq, e1, e2, e3⟩ := ws_cell hw h2 h3 hn (by omega)
    rw [sR_pos h2]
    have hb : (.inl q.2.1 : ev_V) = sI (sZ S p) := by
      rw [sI_nn (by omega), e2]
    rw [← hb]
    show ev_if (Nat.beq p.toNat 1000000) _ (match ev_get w.1 p.toNat with
      | some q => ev_if (Nat.ble 20 q.1 && Nat.ble q.1 28) (kk nx loc (.inl q.2.1 :: r) w) none
      | none => none) = _
    rw [Bool.eq_false_iff.mpr (fun z => by have := Nat.eq_of_beq_eq_true z; omega : ¬ Nat.beq p.toNat 1000000 = true), hq]
    show ev_if (Nat.ble 20 q.1 && Nat.ble q.1 28) (kk nx loc (.inl q.2.1 :: r) w) none = _
    rw [Nat.ble_eq.mpr (show 20 ≤ q.1 by omega), Nat.ble_eq.mpr (show q.1 ≤ 28 by omega)]
    rfl
  · have hL := hW.2.2.2.2.2
    refine g2_mp (fun p9 e R s m args below meth c Q c9 s9 H locs ls hκ hF hE hR hsz hn hJ hS go => ?_) (k _ (by unfold InR; omega))
    obtain ⟨hx, hbb, -, ho, ht, hV, -⟩ := id hF.1
    have hok := hE pc
    rw [hc] at hok
    obtain ⟨dd, e1⟩ := hok.1 op_26
    dsimp only at dd e1
    subst e1
    obtain ⟨scr, g1, g2, g3, g4, -⟩ := ev_scr hF.1 hS
    rw [h1, List.map_cons, dn_s]
    rw [List.map_cons, h3, dn_i, toI_n (by omega)] at go
    exact W.alen (n := nI κ.2.2.2.2.1) hx hbb g1 g2 (by rw [g4]; rfl) rfl rfl dd go
  · have hb := cz_bd (p := p) (by omega) (by omega)
    refine g2_mp (fun p9 e R s m args below meth c Q c9 s9 H locs ls hκ hF hE hR hsz hn hJ hS go => ?_) (k _ (by unfold InR; omega))
    obtain ⟨hx, hbb, -, ho, ht, hV, -⟩ := id hF.1
    have hok := hE pc
    rw [hc] at hok
    obtain ⟨dd, e1⟩ := hok.1 op_26
    dsimp only at dd e1
    subst e1
    obtain ⟨ty, f, hT, -⟩ := cz_arr hF.2.2.2 (p := p) (by omega) (by omega)
    rw [List.map_cons, dn_c h1]
    have e9 : toI (sZ S p) = Int32.ofNat (cZ p).toNat := by
      rw [h3, show cZ p = ((cZ p).toNat : Int) by omega, toI_n (by omega)]
      rfl
    rw [List.map_cons, dn_i, e9] at go
    exact va_tlen hx hbb hT hS rfl dd go
theorem gh_ald {Φ : ev_P} {M : ev_M} {kk : ev_N} {cl : ev_F} {w : ev_W} {q : ev_C} (h0 : 0 ≤ j) (hj : j < sZ S p) (hz : 0 ≤ sZ S p ∧ sZ S p ≤ 65536) (hq : ev_get w.1 p.toNat = some q) (e2 : q.2.1 = (sZ S p).toNat) (hk : a ≤ q.1 ∧ q.1 ≤ b) {u : ev_V} (e3 : ev_get q.2.2 j.toNat = some u) (hp : 0 ≤ p) : ev_sel 29 Φ M kk cl nx a b c' tg pc loc (sI j :: sR p :: r) w = kk nx loc (u :: r) w := by
  rw [sI_nn (by omega), sR_pos hp]
  exact gh_29 hq hk (by omega) e3
/-- bytes, of a constant too -/
theorem g2_bald {K : Int → Option (Int × sS)} (hc : M.2.2.2.2 pc = (29, (nx, (21, (22, (c', tg)))))) (hW : WF2 κ S) (k : ∀ v, InR v → G2 κ im M t d n0 s0 (K v) nx loc (sI v :: r) S) : G2 κ im M t d n0 s0 (if sK S p = 21 ∧ 0 ≤ j ∧ j < sZ S p then bnd (sg S p j) K else none) pc loc (sI j :: sR p :: r) S := by
  refine g2_ck fun hk => ?_
  obtain ⟨hk, h0, hj⟩ := hk
  have hv : InR (sg S p j) := by
    have := hW.1.1 p j
    rw [hk] at this
    have this : -128 ≤ sg S p j ∧ sg S p j < 128 := this
    unfold InR
    omega
  have hjj : ((j.toNat : Nat) : Int) = j := by omega
  rcases wf_arr (p := p) hW (by omega) (by omega) with ⟨⟨h2, h3⟩, -, h5, h6⟩ | ⟨h1, h2, h3⟩ | ⟨h1, h2, h3, h4⟩
  · refine g2_sl hc (by decide) (fun Φ M w kk cl hw hn => ?_) (k _ hv)
    obtain ⟨q, hq, e1, e2, e3⟩ := ws_cell hw h2 h3 hn (by omega)
    have e4 := e3 j.toNat (by omega)
    rw [hk, hjj] at e4
    exact gh_ald h0 hj ⟨h5, h6⟩ hq e2 (by omega) e4 h2
  · omega
  · have hb := cz_bd (p := p) (by omega) (by omega)
    refine g2_mp (fun p9 e R s m args below meth c Q c9 s9 H locs ls hκ hF hE hR hsz hn hJ hS go => ?_) (k _ hv)
    obtain ⟨hx, hbb, -, ho, ht, hV, -⟩ := id hF.1
    have hok := hE pc
    rw [hc] at hok
    obtain ⟨dd, e1⟩ := hok.1 op_29
    dsimp only at dd e1
    subst e1
    have dd : decode im.2.1 pc = .ok (.baload, 1) := by
      rcases dd with ⟨q, -⟩ | ⟨-, -, dd⟩ | ⟨q, -⟩ | ⟨q, -⟩ | ⟨q, -⟩
      · cases q
      · exact dd
      · cases q
      · cases q
      · cases q
    obtain ⟨ty, f, hT, hf⟩ := cz_arr hF.2.2.2 (p := p) (by omega) (by omega)
    obtain ⟨rfl, hf2⟩ := hf (by omega)
    obtain ⟨cell, g1, g2, g3, g4, g5, g6, g7⟩ := hT.kept hS.2.1
    have ej : toI j = nI j.toNat := by
      have := toI_n (n := j.toNat) (by omega)
      rw [hjj] at this
      exact this
    have e5 : (nI j.toNat).toNatClampNeg = j.toNat := nI_clamp (by omega)
    rw [List.map_cons, List.map_cons, dn_c h1, dn_i, ej]
    rw [List.map_cons, dn_i] at go
    refine W.bald hx hbb g1 g2 g3 (by rw [e5]; rintro (q | q); exact nI_pos (by omega) q; omega) (by rw [e5]; exact g6 _ (by omega)) rfl rfl dd ?_
    rw [hf2 _ (by omega), hjj, ← h4]
    exact go
/-- ints, of the script too -/
theorem g2_iald {K : Int → Option (Int × sS)} (hc : M.2.2.2.2 pc = (27, (nx, (a, (b, (c', tg)))))) (hW : WF2 κ S) (k : ∀ v, InR v → G2 κ im M t d n0 s0 (K v) nx loc (sI v :: r) S) : G2 κ im M t d n0 s0 (if sK S p = 20 ∧ 0 ≤ j ∧ j < sZ S p then bnd (sg S p j) K else none) pc loc (sI j :: sR p :: r) S := by
  refine g2_ck fun hk => ?_
  obtain ⟨hk, h0, hj⟩ := hk
  have hv : InR (sg S p j) := by
    have := hW.1.1 p j
    rw [hk] at this
    exact this
  have hjj : ((j.toNat : Nat) : Int) = j := by omega
  rcases wf_arr (p := p) hW (by omega) (by omega) with ⟨⟨h2, h3⟩, -, h5, h6⟩ | ⟨h1, h2, h3⟩ | ⟨h1, h2, h3, h4⟩
  · refine g2_mp (fun p9 e R s m args below meth c Q c9 s9 H locs ls hκ hF hE hR hsz hn hJ hS go => ?_) (k _ hv)
    obtain ⟨hx, hbb, -, ho, ht, hV, -⟩ := id hF.1
    have hok := hE pc
    rw [hc] at hok
    obtain ⟨-, -, dd, e1⟩ := hok.1 op_27
    dsimp only at dd e1
    subst e1
    obtain ⟨q, hq, e1, e2, e3⟩ := ws_cell (w := cW S c9 s9) ws_c h2 h3 hn (by omega)
    have e4 := e3 j.toNat (by omega)
    rw [hk, hjj] at e4
    obtain ⟨hi9, g1⟩ := ev_J_arr hJ hq (by omega) (by omega)
    have hA := (ev_tys_of hV (k := 20) (Or.inl rfl)).1 q.2.1 (ev_fv κ.2.2.1 κ.2.2.2.1 κ.2.2.2.2.2.1 q.2.2)
    rw [e1, hk] at g1
    have ej : toI j = nI j.toNat := by
      have := toI_n (n := j.toNat) (by omega)
      rw [hjj] at this
      exact this
    have e5 : (nI j.toNat).toNatClampNeg = j.toNat := nI_clamp (by omega)
    rw [List.map_cons, List.map_cons, dn_w h2 (by omega), dn_i, ej]
    rw [List.map_cons] at go
    refine W.iald hx hbb g1 hA (fun z => by cases z) (by rw [e5, arrV_size]; rintro (q | q); exact nI_pos (by omega) q; omega) (by rw [e5]; exact arrV_read _ _ (by omega)) rfl rfl dd ?_
    have e6 : ev_fv κ.2.2.1 κ.2.2.2.1 κ.2.2.2.2.2.1 q.2.2 j.toNat = ev_dn κ.2.2.1 κ.2.2.2.1 κ.2.2.2.2.2.1 (sI (sg S p j)) := by
      unfold ev_fv
      rw [e4]
      rfl
    rw [e6]
    exact go
  · have hL := hW.2.2.2.2.2
    refine g2_mp (fun p9 e R s m args below meth c Q c9 s9 H locs ls hκ hF hE hR hsz hn hJ hS go => ?_) (k _ hv)
    obtain ⟨hx, hbb, -, ho, ht, hV, -⟩ := id hF.1
    have hok := hE pc
    rw [hc] at hok
    obtain ⟨-, -, dd, e1⟩ := hok.1 op_27
    dsimp only at dd e1
    subst e1
    obtain ⟨scr, g1, g2, g3, g4, g5⟩ := ev_scr hF.1 hS
    have ej : toI j = nI j.toNat := by
      have := toI_n (n := j.toNat) (by omega)
      rw [hjj] at this
      exact this
    have e5 : (nI j.toNat).toNatClampNeg = j.toNat := nI_clamp (by omega)
    rw [h1, List.map_cons, List.map_cons, dn_s, dn_i, ej]
    have e7 : sg S p j = (κ.2.2.2.2.2.1 j.toNat).toInt := by
      have := hW.2.2.2.2.1 j.toNat
      rw [hjj] at this
      rw [h1]
      exact this
    rw [List.map_cons, dn_i, e7, toI_I] at go
    exact W.iald hx hbb (a := κ.2.2.1.1) g1 g2 g3 (by rw [g4, e5]; rintro (q | q); exact nI_pos (by omega) q; omega) (by rw [e5]; exact g5 j.toNat (by omega)) rfl rfl dd go
  · rcases cK_arr (p := p) (by omega) (by omega) with q | q | q <;> omega
/-- things -/
theorem g2_aald {K : Int → Option (Int × sS)} (hc : M.2.2.2.2 pc = (29, (nx, (26, (28, (c', tg)))))) (hW : WF2 κ S) (k : ∀ v, RfO v → G2 κ im M t d n0 s0 (K v) nx loc (sR v :: r) S) : G2 κ im M t d n0 s0 (if (sK S p = 26 ∨ sK S p = 27) ∧ 0 ≤ j ∧ j < sZ S p then bnd (sg S p j) K else none) pc loc (sI j :: sR p :: r) S := by
  refine g2_ck fun hk => ?_
  obtain ⟨hk, h0, hj⟩ := hk
  have ht : ty2 (sK S p) j = 2 := by
    rcases hk with hk | hk <;> (rw [hk]; rfl)
  have hv : RfO (sg S p j) := by
    have := hW.1.1 p j
    rw [ht] at this
    exact this
  have hjj : ((j.toNat : Nat) : Int) = j := by omega
  rcases wf_arr (p := p) hW (by omega) (by omega) with ⟨⟨h2, h3⟩, -, h5, h6⟩ | ⟨h1, h2, h3⟩ | ⟨h1, h2, h3, h4⟩
  · refine g2_sl hc (by decide) (fun Φ M w kk cl hw hn => ?_) (k _ hv)
    obtain ⟨q, hq, e1, e2, e3⟩ := ws_cell hw h2 h3 hn (by omega)
    have e4 := e3 j.toNat (by omega)
    rw [hjj, ht] at e4
    exact gh_ald h0 hj ⟨h5, h6⟩ hq e2 (by omega) e4 h2
  · omega
  · rcases cK_arr (p := p) (by omega) (by omega) with ⟨q, -⟩ | ⟨q, -⟩ | ⟨-, q⟩
    · omega
    · omega
    · have : cZ p = 0 := by rw [q]; decide
      omega
theorem g2_aalS {K : Int → Option (Int × sS)} (hc : M.2.2.2.2 pc = (29, (nx, (26, (28, (c', tg)))))) (hW : WF2 κ S) (k : ∀ v, RfA v → G2 κ im M t d n0 s0 (K v) nx loc (sR v :: r) S) : G2 κ im M t d n0 s0 (if sK S p = 28 ∧ 0 ≤ j ∧ j < sZ S p then bnd (sg S p j) K else none) pc loc (sI j :: sR p :: r) S := by
  refine g2_ck fun hk => ?_
  obtain ⟨hk, h0, hj⟩ := hk
  have ht : ty2 (sK S p) j = 5 := by rw [hk]; rfl
  have hv : RfA (sg S p j) := by
    have := hW.1.1 p j
    rw [ht] at this
    exact this
  have hjj : ((j.toNat : Nat) : Int) = j := by omega
  rcases wf_arr (p := p) hW (by omega) (by omega) with ⟨⟨h2, h3⟩, -, h5, h6⟩ | ⟨h1, h2, h3⟩ | ⟨h1, h2, h3, h4⟩
  · refine g2_sl hc (by decide) (fun Φ M w kk cl hw hn => ?_) (k _ hv)
    obtain ⟨q, hq, e1, e2, e3⟩ := ws_cell hw h2 h3 hn (by omega)
    have e4 := e3 j.toNat (by omega)
    rw [hjj, ht] at e4
    exact gh_ald h0 hj ⟨h5, h6⟩ hq e2 (by omega) e4 h2
  · omega
  · rcases cK_arr (p := p) (by omega) (by omega) with ⟨q, -⟩ | ⟨q, -⟩ | ⟨q, -⟩ <;> omega
/-- stores of ints and bytes -/
theorem g2_iast {K : sS → Option (Int × sS)} (hc : M.2.2.2.2 pc = (28, (nx, (a, (b, (c', tg)))))) (hW : WF2 κ S) (hv : InR v) (k : ∀ S1, WF2 κ S1 → EXT S S1 → G2 κ im M t d n0 s0 (K S1) nx loc r S1) : G2 κ im M t d n0 s0 (if sK S p = 20 ∧ p < 1000000 ∧ 0 ≤ j ∧ j < sZ S p then bnd (uS S p j v) K else none) pc loc (sI v :: sI j :: sR p :: r) S := by
  refine g2_ck fun hk => ?_
  obtain ⟨hk, hp, h0, hj⟩ := hk
  obtain ⟨h2, h3⟩ := sf_real hW.2.1 (p := p) (by omega) (by omega) (by omega)
  obtain ⟨-, h5, h6⟩ := sf_arr hW.2.1 (p := p) (by omega) (by omega) h2 h3
  have hjj : ((j.toNat : Nat) : Int) = j := by omega
  have hW2 : WF2 κ (uS S p j v) := wf_uS hW hp (by rw [hk]; exact hv)
  refine g2_step (S2 := uS S p j v) hc (by decide) ⟨Int.le_refl _, Int.le_refl _, ext_uS⟩ hW2.2.1 (fun Φ M w c9 s9 hw hz _ _ hn => ?_) (k _ hW2 ext_uS)
  obtain ⟨q, hq, e1, e2, d9, x9, -, -, g6, g7⟩ := ws_upd (b := j.toNat) (v := v) hw h2 h3 hn (by omega) (by omega)
  rw [hk] at g7
  rw [hjj] at g6
  refine ⟨(x9, w.2), g6, ?_, fun kk cl => ?_⟩
  · show w.2.2.2 = (c9 + (sn S - sn S).toNat, s9 + (ss S - ss S).toNat)
    rw [hz, Int.sub_self, Int.sub_self]
    rfl
  · rw [sR_pos h2, sI_nn (j := j) (by omega), gh_28 hq (e1.trans hk) (by omega) rfl]
    exact g7 _
theorem g2_bast {K : sS → Option (Int × sS)} (hc : M.2.2.2.2 pc = (30, (nx, (a, (b, (c', tg)))))) (hW : WF2 κ S) (k : ∀ S1, WF2 κ S1 → EXT S S1 → G2 κ im M t d n0 s0 (K S1) nx loc r S1) : G2 κ im M t d n0 s0 (if sK S p = 21 ∧ p < 1000000 ∧ 0 ≤ j ∧ j < sZ S p then bnd (uS S p j (i2b v)) K else none) pc loc (sI v :: sI j :: sR p :: r) S := by
  refine g2_ck fun hk => ?_
  obtain ⟨hk, hp, h0, hj⟩ := hk
  obtain ⟨h2, h3⟩ := sf_real hW.2.1 (p := p) (by omega) (by omega) (by omega)
  obtain ⟨-, h5, h6⟩ := sf_arr hW.2.1 (p := p) (by omega) (by omega) h2 h3
  have hjj : ((j.toNat : Nat) : Int) = j := by omega
  have hW2 : WF2 κ (uS S p j (i2b v)) := wf_uS hW hp (by rw [hk]; exact by_i2b _)
  refine g2_step (S2 := uS S p j (i2b v)) hc (by decide) ⟨Int.le_refl _, Int.le_refl _, ext_uS⟩ hW2.2.1 (fun Φ M w c9 s9 hw hz _ _ hn => ?_) (k _ hW2 ext_uS)
  obtain ⟨q, hq, e1, e2, d9, x9, -, -, g6, g7⟩ := ws_upd (b := j.toNat) (v := i2b v) hw h2 h3 hn (by omega) (by omega)
  rw [hk] at g7
  rw [hjj] at g6
  refine ⟨(x9, w.2), g6, ?_, fun kk cl => ?_⟩
  · show w.2.2.2 = (c9 + (sn S - sn S).toNat, s9 + (ss S - ss S).toNat)
    rw [hz, Int.sub_self, Int.sub_self]
    rfl
  · rw [sR_pos h2, sI_nn (j := j) (by omega), gh_30b hq (e1.trans hk) (by omega) gq_nb]
    exact g7 _
/-- a store of a thing -/
theorem g2_aast {K : sS → Option (Int × sS)} (hc : M.2.2.2.2 pc = (60, (nx, (a, (b, (c', tg)))))) (hW : WF2 κ S) (hv : RfO v) (k : ∀ S1, WF2 κ S1 → EXT S S1 → G2 κ im M t d n0 s0 (K S1) nx loc r S1) : G2 κ im M t d n0 s0 (if (sK S p = 26 ∨ sK S p = 27) ∧ p < 1000000 ∧ (0 ≤ j ∧ j < sZ S p) ∧ (v = -1 ∨ sK S v = 7) then bnd (uS S p j v) K else none) pc loc (sR v :: sI j :: sR p :: r) S := by
  refine g2_ck fun hk => ?_
  obtain ⟨hk, hp, ⟨h0, hj⟩, hv7⟩ := hk
  obtain ⟨h2, h3⟩ := sf_real hW.2.1 (p := p) (by omega) (by omega) (by omega)
  obtain ⟨⟨h4, -⟩, h5, h6⟩ := sf_arr hW.2.1 (p := p) (by omega) (by omega) h2 h3
  have hjj : ((j.toNat : Nat) : Int) = j := by omega
  have ht : ty2 (sK S p) j = 2 := by
    rcases hk with hk | hk <;> (rw [hk]; rfl)
  have ht2 : ty2 (sK S p) (j.toNat : Nat) = 2 := by rw [hjj]; exact ht
  have hW2 : WF2 κ (uS S p j v) := wf_uS hW hp (by rw [ht]; exact hv)
  refine g2_mc (S2 := uS S p j v) ⟨Int.le_refl _, Int.le_refl _, ext_uS⟩ (fun p9 e R s m args below meth c Q c9 s9 hκ hF hE _ hR hn go => ?_) (k _ hW2 ext_uS)
  have hn : sn S ≤ 1000000 := hn
  obtain ⟨q, hq, e1, e2, d9, x9, e3, e4, g6, -⟩ := ws_upd (w := cW S c9 s9) (b := j.toNat) (v := v) ws_c h2 h3 hn (by omega) (by omega)
  rw [hjj] at g6
  rw [ht2] at e3
  have go2 := ws_Go (w := (x9, (cW S c9 s9).2)) (c9 := c9) (s9 := s9) g6 hW2.2.1 rfl (by
    have go := go
    rw [show sn (uS S p j v) = sn S from rfl, show ss (uS S p j v) = ss S from rfl, Int.sub_self, Int.sub_self] at go
    exact go)
  intro H locs ls hl hJ hS
  obtain ⟨hx, hbb, -, ho, ht9, hV, -⟩ := id hF.1
  have hok := hE pc
  rw [hc] at hok
  obtain ⟨dd, e5, hcw⟩ := hok.2
  dsimp only at dd e5
  subst e5
  obtain ⟨hi9, g1⟩ := ev_J_arr hJ hq (by omega) (by omega)
  have hak : ev_ak q.1 := by rw [e1]; exact h4
  obtain ⟨hAT, hRA⟩ := ev_tys_of hV hak
  have ej : toI j = nI j.toNat := by
    have := toI_n (n := j.toNat) (by omega)
    rw [hjj] at this
    exact this
  have e8 : (nI j.toNat).toNatClampNeg = j.toNat := nI_clamp (by omega)
  have fin : ∀ H1 : Heap, H1[κ.2.2.2.1 + p.toNat]? = some ((arrV (κ.2.1 q.1) q.2.1 (ev_fv κ.2.2.1 κ.2.2.2.1 κ.2.2.2.2.2.1 q.2.2)).setSlot j.toNat (ev_dn κ.2.2.1 κ.2.2.2.1 κ.2.2.2.2.2.1 (sR v))) → H1.size = H.size → (∀ x, x ≠ κ.2.2.2.1 + p.toNat → H1[x]? = H[x]?) →
      W p9 κ.2.2.2.2.2.2.1 e R s m args below meth c H1 (locs ++ [⟨κ.2.2.2.1 + p.toNat, j.toNat⟩]) c9 s9 Q (F0 m (pc + 1) ls (r.map (ev_dn κ.2.2.1 κ.2.2.2.1 κ.2.2.2.2.2.1))) := by
    intro H1 z1 z2 z3
    exact go2 H1 _ ls hl (ev_J_ast (v := sR v) hJ hq e3 e4 (by omega) hak z1 z2 z3) (ev_S_put hS z2 z3 (ev_J_A hJ hq))
  rw [List.map_cons, List.map_cons, List.map_cons, dn_w h2 (by omega), dn_i, ej]
  have hin : ¬ (nI j.toNat < 0) ∧ (nI j.toNat).toNatClampNeg < (arrV (κ.2.1 q.1) q.2.1 (ev_fv κ.2.2.1 κ.2.2.2.1 κ.2.2.2.2.2.1 q.2.2)).slots.size := ⟨nI_pos (by omega), by rw [arrV_size, e8]; omega⟩
  rcases hv7 with rfl | hv7
  · rw [dn_n]
    have hkk : ∃ C, ev_ty q.1 = .object C := by
      rw [e1]
      rcases hk with hk | hk
      · exact ⟨_, by rw [hk]; rfl⟩
      · exact ⟨_, by rw [hk]; rfl⟩
    obtain ⟨C, hC⟩ := hkk
    refine va_WaastN (C := C) hx hbb g1 (by rw [← hC]; exact hAT _ _) (fun z => by cases z) (by rintro (q | q); exact hin.1 q; exact absurd hin.2 (by omega)) rfl rfl dd fun H1 z1 z2 z3 => ?_
    rw [e8] at z1 ⊢
    exact fin H1 z1 z2 z3
  · obtain ⟨v2, v3⟩ := sf_real hW.2.1 (p := v) (by omega) (by have := hv.2; omega) (by have := hv.2; omega)
    obtain ⟨u, hu, u1, u2, u3⟩ := ws_cell (w := cW S c9 s9) ws_c v2 v3 hn (by omega)
    have hci : vwCl[u.1]? = some (RX7, TX7, 13) := by rw [u1, hv7]; rfl
    obtain ⟨hx9', cellV, f1, f2, f3, -⟩ := ev_J_obj hJ hu hci
    have hcls := (hV.1.1 7 (RX7, TX7, 13) rfl).2
    obtain ⟨kC, hkC, -⟩ := hcls.2
    rw [u1, hv7] at f2
    have hva : ∃ C, ev_ty q.1 = .object C ∧ ∃ comp kE, s.vm.findClass C = some comp ∧ s.vm.classes[comp]? = some kE ∧ s.vm.assignable (κ.1.1 7) comp = true := by
      rw [e1]
      rcases hk with hk | hk
      · rw [hk] at e1
        rw [e1] at hRA
        obtain ⟨kA, comp, k1, k2, k3, -⟩ := hRA
        obtain ⟨kE, hkE, -⟩ := Vm.findClass_spec k3
        obtain ⟨c0, t1, w1, w2, w3⟩ := Cond.castable_spec (va_Nw.use (A := args) rfl (hV.2.1 _ hcw rfl))
        cases hcls.1.symm.trans w1
        cases k3.symm.trans w2
        exact ⟨_, by rw [hk]; rfl, _, kE, k3, hkE, w3⟩
      · exact ⟨RX7, by rw [hk]; rfl, _, kC, hcls.1, hkC, va_assign hcls⟩
    obtain ⟨C, hC, comp, kE, k3, hkE, hasg⟩ := hva
    rw [hC] at hRA
    obtain ⟨kA, comp2, k1, k2, k4, -⟩ := hRA
    cases k3.symm.trans k4
    rw [dn_w v2 (by have := hv.2; omega)]
    refine W.aast hx hbb g1 (fun q h => by cases h) (fun h => by cases h) k1 k2 rfl hkE hin f1 (fun q h => by rw [f3] at h; cases h) (by rw [f2]; exact hkC) (by rw [f2]; exact hasg) rfl rfl dd fun H1 z1 z2 z3 => ?_
    rw [e8] at z1 ⊢
    rw [← dn_w v2 (by have := hv.2; omega)] at z1
    exact fin H1 z1 z2 z3
end G2I
