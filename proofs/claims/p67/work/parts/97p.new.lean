/-! ===== the law's layer: new things; instructions of its own (own work) ===== -/
theorem sn_nS {S : sS} {k : Nat} {z : Int} : sn (nS S k z) = sn S + 1 := rfl
theorem ss_nS {S : sS} {k : Nat} {z : Int} : ss (nS S k z) = ss S + z := rfl
theorem sK_nS {S : sS} {k : Nat} {z x : Int} : sK (nS S k z) x = if x = sn S then k else sK S x := rfl
theorem sZ_nS {S : sS} {k : Nat} {z x : Int} : sZ (nS S k z) x = if x = sn S then z else sZ S x := rfl
theorem sg_nS {S : sS} {k : Nat} {z x y : Int} : sg (nS S k z) x y = if x = sn S then dS k y else sg S x y := rfl
theorem sb_nS {S : sS} {k : Nat} {z : Int} : sb (nS S k z) = sb S := rfl
theorem sc_nS {S : sS} {k : Nat} {z : Int} : sc (nS S k z) = sc S := rfl
theorem vt_dS (k : Nat) (y : Int) : VT2 (ty2 k y) (dS k y) := by
  unfold dS
  by_cases h : ty2 k y = 2 ∨ ty2 k y = 5
  · rw [if_pos h]
    rcases h with h | h
    · rw [h]
      exact ⟨Int.le_refl _, by decide⟩
    · rw [h]
      exact ⟨Int.le_refl _, by decide⟩
  · rw [if_neg h]
    generalize ty2 k y = t at h
    unfold VT2
    split
    · exact inR_0
    · exact Or.inl rfl
    · exact absurd (Or.inl rfl) h
    · exact ⟨by decide, by decide⟩
    · exact absurd (Or.inr rfl) h
    · exact inR_0
theorem wf_nS {κ : CX} {S : sS} {k : Nat} {z : Int} (h : WF2 κ S) (h1 : sn S < 1000000) (hk : ((7 ≤ k ∧ k ≤ 12) ∧ z = nf k) ∨ ((ev_ak k ∧ ¬ k = 24 ∧ ¬ k = 25) ∧ 0 ≤ z ∧ z ≤ 65536)) : WF2 κ (nS S k z) := by
  obtain ⟨⟨a1, a2⟩, ⟨f1, f2, f3, f4, f5, f6⟩, c1, c2, c3, c4⟩ := h
  refine ⟨⟨fun x y => ?_, a2⟩, ⟨by rw [sn_nS]; omega, fun x h0 h9 => ?_, ?_, fun hb x h0 h9 => ?_, fun x hx => ?_, fun x hx => ?_⟩, ?_, ?_, fun j => ?_, c4⟩
  · rw [sK_nS, sg_nS]
    by_cases e : x = sn S
    · rw [if_pos e, if_pos e]
      exact vt_dS k y
    · rw [if_neg e, if_neg e]
      exact a1 x y
  · rw [sn_nS] at h9
    rw [sK_nS, sZ_nS, sb_nS]
    by_cases e : x = sn S
    · rw [if_pos e, if_pos e]
      exact Or.inr hk
    · rw [if_neg e, if_neg e]
      exact f2 x h0 (by omega)
  · rw [sb_nS, sn_nS]
    rcases f3 with f3 | f3
    · exact Or.inl f3
    · exact Or.inr ⟨f3.1, by omega⟩
  · rw [sb_nS] at hb h0 h9
    rw [sK_nS, if_neg (by rcases f3 with f3 | f3 <;> omega)]
    exact f4 hb x h0 h9
  · obtain ⟨g1, g2, g3⟩ := f5 x hx
    exact ⟨by rw [sK_nS, if_neg (by omega)]; exact g1, by rw [sZ_nS, if_neg (by omega)]; exact g2, fun y => by rw [sg_nS, if_neg (by omega)]; exact g3 y⟩
  · rw [sn_nS] at hx
    rw [sK_nS, if_neg (by omega)]
    exact f6 x (by omega)
  · show sK (nS S k z) 1000000 = 20
    rw [sK_nS, if_neg (by omega)]
    exact c1
  · show sZ (nS S k z) 1000000 = _
    rw [sZ_nS, if_neg (by omega)]
    exact c2
  · show sg (nS S k z) 1000000 j = _
    rw [sg_nS, if_neg (by omega)]
    exact c3 j
theorem ws_new {w : ev_W} {S : sS} {k : Nat} {z : Int} (hw : WS w S) (h0 : 0 ≤ sn S) (h1 : sn S < 1000000) (hk : ¬ k = 98) {l : List (List (List ev_V))} {n : Nat} (hz : (n : Int) = z) (hl : ∀ j : Nat, j < n → ev_get l j = some (dec2 (ty2 k j) (dS k j))) :
    ∃ x, ev_sto w.1 w.2.1 (k, (n, l)) = some x ∧ ∀ cs, WS (x, (w.2.1 + 1, (true, cs))) (nS S k z) := by
  obtain ⟨u, hu, -⟩ := hw.1 (sn S).toNat (by omega)
  rw [← hw.2.2.1] at hu
  obtain ⟨x, x1, x2⟩ := gb_sto (v := (k, (n, l))) hu
  have hi : (((sn S).toNat : Nat) : Int) = sn S := by omega
  refine ⟨x, x1, fun cs => ⟨fun i hi9 => ?_, fun i hi9 => ?_, ?_, rfl⟩⟩
  · by_cases e : i = (sn S).toNat
    · refine ⟨(k, (n, l)), by show ev_get x i = _; rw [x2, hw.2.2.1, if_pos e], ?_⟩
      subst e
      have hf : (fun j : Nat => dec2 (ty2 (sK (nS S k z) (sn S)) j) (sg (nS S k z) (sn S) j)) = (fun j : Nat => dec2 (ty2 k j) (dS k j)) := by
        funext j
        rw [sK_nS, if_pos rfl, sg_nS, if_pos rfl]
      have hC : cC (nS S k z) (sn S).toNat = (k, (z.toNat, mkR z.toNat (fun j : Nat => dec2 (ty2 k j) (dS k j)))) := by
        unfold cC
        rw [hi, sn_nS, if_pos (by omega), hf, sK_nS, if_pos rfl, if_neg hk, sZ_nS, if_pos rfl]
      rw [hC]
      refine ⟨rfl, by show n = z.toNat; omega, fun j hj => ?_⟩
      have hj : j < z.toNat := hj
      dsimp only
      rw [mkR_get, if_pos (by omega)]
      exact hl j (by omega)
    · obtain ⟨q9, g1, g2⟩ := hw.1 i hi9
      refine ⟨q9, by show ev_get x i = _; rw [x2, hw.2.2.1, if_neg e]; exact g1, ?_⟩
      have hC : cC (nS S k z) i = cC S i := by
        have e1 : sK (nS S k z) i = sK S i := by rw [sK_nS, if_neg (by omega)]
        have e2 : sZ (nS S k z) i = sZ S i := by rw [sZ_nS, if_neg (by omega)]
        have hf : (fun j : Nat => dec2 (ty2 (sK S i) j) (sg (nS S k z) i j)) = (fun j : Nat => dec2 (ty2 (sK S i) j) (sg S i j)) := by
          funext j
          rw [sg_nS, if_neg (by omega)]
        unfold cC
        rw [sn_nS, sb_nS, sc_nS, e1, e2, hf]
        by_cases h : (i : Int) < sn S
        · rw [if_pos (by omega), if_pos h]
        · rw [if_neg (by omega), if_neg h]
      rw [hC]
      exact g2
  · show ev_get x i = none
    rw [x2, hw.2.2.1, if_neg (by omega)]
    exact hw.2.1 i hi9
  · show w.2.1 + 1 = (sn S + 1).toNat
    rw [hw.2.2.1]
    omega
section G2N
variable {κ : CX} {im : ev_Im} {M : ev_M} {t d : Nat} {n0 s0 : Int} {X A B : Option (Int × sS)} {pc nx : Nat} {loc : ev_L} {st r : List ev_V} {S : sS} {a b c' : Nat} {tg : List Nat} {x y p j v z : Int}
theorem g2_mk {op : Nat} {l : List (List (List ev_V))} {n k : Nat} {K : Int → sS → Option (Int × sS)} (hc : M.2.2.2.2 pc = (op, (nx, (a, (b, (c', tg)))))) (hop : op ∈ ev_op1) (hW : WF2 κ S) (h1 : sn S < 1000000)
    (hk : ((7 ≤ k ∧ k ≤ 12) ∧ (n : Int) = nf k) ∨ ((ev_ak k ∧ ¬ k = 24 ∧ ¬ k = 25) ∧ 0 ≤ (n : Int) ∧ (n : Int) ≤ 65536)) (hl : ∀ j : Nat, j < n → ev_get l j = some (dec2 (ty2 k j) (dS k j)))
    (h : ∀ (Φ : ev_P) (M : ev_M) (w : ev_W) (kk : ev_N) (cl : ev_F), ev_may M w 1 n = true → ev_sel op Φ M kk cl nx a b c' tg pc loc st w = ev_mk w (k, (n, l)) n (kk nx loc (.inr (.inl (some w.2.1)) :: r)))
    (kk : ∀ p S1, (0 ≤ p ∧ p < 1000000) → (sK S1 p = k ∧ sZ S1 p = n) → WF2 κ S1 → EXT S S1 → G2 κ im M t d n0 s0 (K p S1) nx loc (sR p :: r) S1) : G2 κ im M t d n0 s0 (bnd (sn S) fun p => bnd (nS S k n) (K p)) pc loc st S := by
  have hW2 : WF2 κ (nS S k n) := wf_nS hW h1 hk
  have h0 : 0 ≤ sn S := hW.2.1.1
  have hk98 : ¬ k = 98 := by
    rcases hk with ⟨hk, -⟩ | ⟨⟨hk, -⟩, -⟩
    · omega
    · rcases hk with hk | hk | hk | hk | hk | hk | hk <;> omega
  refine g2_step (S2 := nS S k n) (st2 := sR (sn S) :: r) hc hop ⟨by rw [sn_nS]; omega, by rw [ss_nS]; omega, ext_nS hW.2.1 h1⟩ hW2.2.1 (fun Φ M w c9 s9 hw hz hm1 hm2 hn => ?_) (kk _ _ ⟨h0, h1⟩ ⟨by rw [sK_nS, if_pos rfl], by rw [sZ_nS, if_pos rfl]⟩ hW2 (ext_nS hW.2.1 h1))
  rw [sn_nS] at hm1
  rw [ss_nS] at hm2
  obtain ⟨x, x1, x2⟩ := ws_new hw h0 h1 hk98 rfl hl
  have hmay : ev_may M w 1 n = true := gh_may hz ⟨by omega, by omega⟩
  refine ⟨(x, (w.2.1 + 1, (true, (w.2.2.2.1 + 1, w.2.2.2.2 + n)))), x2 _, ?_, fun kk cl => ?_⟩
  · show (w.2.2.2.1 + 1, w.2.2.2.2 + n) = (c9 + (sn S + 1 - sn S).toNat, s9 + (ss S + n - ss S).toNat)
    rw [hz, show sn S + 1 - sn S = 1 by omega, show ss S + (n : Int) - ss S = n by omega]
    rfl
  · rw [h Φ M w kk cl hmay]
    unfold ev_mk
    rw [hw.2.2.2, ev_if_t, x1, sR_pos h0, hw.2.2.1]
theorem g2_new {K : Int → sS → Option (Int × sS)} (hc : M.2.2.2.2 pc = (33, (nx, (a, (b, (c', tg)))))) (hW : WF2 κ S) (ha : (7 ≤ a ∧ a ≤ 12) ∧ b = nf a ∧ b ≤ 32) (hl : tg.map ev_dv = (List.range b).map (fun j : Nat => dec2 (ty2 a j) (dS a j))) (kk : ∀ p S1, (0 ≤ p ∧ p < 1000000) → (sK S1 p = a ∧ sZ S1 p = b) → WF2 κ S1 → EXT S S1 → G2 κ im M t d n0 s0 (K p S1) nx loc (sR p :: st) S1) :
    G2 κ im M t d n0 s0 (if sn S < 1000000 then bnd (sn S) fun p => bnd (nS S a b) (K p) else none) pc loc st S := by
  refine g2_ck fun h1 => ?_
  refine g2_mk (l := [ev_ch8 (tg.map ev_dv)]) (n := b) (k := a) hc (by decide) hW h1 (Or.inl ⟨ha.1, by rw [ha.2.1]⟩) (fun j hj => ?_) (fun Φ M w kk cl hm => ?_) kk
  · rw [ev_ch8_get (by omega), hl, List.getElem?_map, List.getElem?_range hj]
    rfl
  · show ev_if (ev_may M w 1 b) _ none = _
    rw [hm]
    rfl
theorem dv_ok : ∀ k, k = 20 ∨ k = 21 ∨ k = 26 ∨ k = 27 ∨ k = 28 → ∀ j : Nat, ev_dv (if k < 24 then 0 else 1) = dec2 (ty2 k j) (dS k j) := by
  intro k hk j
  rcases hk with rfl | rfl | rfl | rfl | rfl <;> rfl
theorem g2_newa {K : Int → sS → Option (Int × sS)} (hc : M.2.2.2.2 pc = (34, (nx, (a, (b, (c', tg)))))) (hW : WF2 κ S) (ha : (a = 20 ∨ a = 21 ∨ a = 26 ∨ a = 27 ∨ a = 28) ∧ b = if a < 24 then 0 else 1) (kk : ∀ p S1, (0 ≤ p ∧ p < 1000000) → (sK S1 p = a ∧ sZ S1 p = z) → WF2 κ S1 → EXT S S1 → G2 κ im M t d n0 s0 (K p S1) nx loc (sR p :: r) S1) :
    G2 κ im M t d n0 s0 (if sn S < 1000000 ∧ 0 ≤ z ∧ z ≤ 65536 then bnd (sn S) fun p => bnd (nS S a z) (K p) else none) pc loc (sI z :: r) S := by
  refine g2_ck fun h1 => ?_
  obtain ⟨h1, h2, h3⟩ := h1
  have hz : ((z.toNat : Nat) : Int) = z := by omega
  have g := g2_mk (K := K) (st := sI z :: r) (r := r) (l := ev_rows z.toNat (ev_dv b)) (n := z.toNat) (k := a) (t := t) (d := d) (n0 := n0) (s0 := s0) (loc := loc) (im := im) hc (by decide) hW h1 (Or.inr ⟨by unfold ev_ak; omega, by omega, by omega⟩) (fun j hj => by
    rw [ev_rows_get hj, ha.2]
    exact congrArg some (dv_ok a ha.1 j)) (fun Φ M w kk cl hm => by
    rw [sI_nn (by omega)]
    show ev_if (ev_may M w 1 z.toNat && Nat.ble z.toNat 65536) _ none = _
    rw [hm, Nat.ble_eq.mpr (show z.toNat ≤ 65536 by omega)]
    rfl) (fun p S1 g1 g2 => kk p S1 g1 (by rw [hz] at g2; exact g2))
  rw [hz] at g
  exact g
theorem g2_ineg (hc : M.2.2.2.2 pc = (52, (nx, (a, (b, (c', tg)))))) (k : G2 κ im M t d n0 s0 X nx loc (sI (w32 (-x)) :: r) S) : G2 κ im M t d n0 s0 X pc loc (sI x :: r) S := by
  refine g2_mp (fun p9 e R s m args below meth c Q c9 s9 H locs ls hκ hF hE hR hsz hn hJ hS go => ?_) k
  obtain ⟨hx, hbb, -⟩ := id hF.1
  have hok := hE pc
  rw [hc] at hok
  obtain ⟨dd, e1⟩ := hok.2
  dsimp only at dd e1
  subst e1
  rw [List.map_cons, sI_w32, dn_i] at go
  rw [List.map_cons, dn_i]
  refine lv_ineg hx hbb dd ?_
  have e : -toI x = toI (-x) := by
    have h : toI (-x) + toI x = 0 := by
      unfold toI
      rw [nI_add]
      have := ev_nI_eq (m := (-x % 4294967296).toNat + (x % 4294967296).toNat) (n := 0) (by omega)
      rw [this]
      rfl
    have h2 : toI (-x) = 0 - toI x := by rw [← h, Int32.add_sub_cancel]
    rw [h2, Int32.zero_sub]
  rw [e]
  exact go
theorem dn_cat {u : ev_V} (h : ev_wide u = false) : (ev_dn κ.2.2.1 κ.2.2.2.1 κ.2.2.2.2.2.1 u).category = 1 := ev_dn_c h
theorem g2_dupx {u v : ev_V} (hc : M.2.2.2.2 pc = (53, (nx, (a, (b, (c', tg)))))) (hu : ev_wide u = false) (hv : ev_wide v = false) (k : G2 κ im M t d n0 s0 X nx loc (u :: v :: u :: r) S) : G2 κ im M t d n0 s0 X pc loc (u :: v :: r) S := by
  refine g2_mp (fun p9 e R s m args below meth c Q c9 s9 H locs ls hκ hF hE hR hsz hn hJ hS go => ?_) k
  obtain ⟨hx, hbb, -⟩ := id hF.1
  have hok := hE pc
  rw [hc] at hok
  obtain ⟨dd, e1⟩ := hok.2
  dsimp only at dd e1
  subst e1
  exact lv_dup_x1 hx hbb dd (dn_cat hu) (dn_cat hv) go
theorem g2_gets {u : ev_V} {q : String × (String × String)} {vv : Value} (hc : M.2.2.2.2 pc = (54, (nx, (a, (b, (c', tg)))))) (hq : gs_T[a]? = some q) (hv : ev_dn κ.2.2.1 κ.2.2.2.1 κ.2.2.2.2.2.1 u = vv) (hz : ∀ (p : Program) (s : State) (m : MethodId) (args : Array Value) (meth : Method) (c : Code), FX κ im M p s m args meth c → va_Z q.1 q.2.1 q.2.2 vv (ev_A κ.2.2.1 κ.2.2.2.1) s s.heap)
    (k : G2 κ im M t d n0 s0 X nx loc (u :: st) S) : G2 κ im M t d n0 s0 X pc loc st S := by
  refine g2_mp (fun p9 e R s m args below meth c Q c9 s9 H locs ls hκ hF hE hR hsz hn hJ hS go => ?_) k
  obtain ⟨hx, hbb, -, ho, ht, -⟩ := id hF.1
  have hok := hE pc
  rw [hc] at hok
  obtain ⟨ix, q2, e1, dd, e2, e3⟩ := hok.2
  dsimp only at e1 dd e2 e3
  subst e2
  cases hq.symm.trans e1
  rw [List.map_cons, hv] at go
  exact va_gets hx hbb (hz _ _ _ _ _ _ hF) hS ho (ht _ e3) (fun x h => h) dd go
theorem g2_gets0 (hc : M.2.2.2.2 pc = (54, (nx, (0, (b, (c', tg)))))) (k : G2 κ im M t d n0 s0 X nx loc (sI 1 :: st) S) : G2 κ im M t d n0 s0 X pc loc st S :=
  g2_gets (q := ("java/lang/String", ("COMPACT_STRINGS", "Z"))) (vv := .int 1) hc rfl rfl (fun _ _ _ _ _ _ hF => hF.1.2.2.2.2.2.2.1.2.2.2.1) k
theorem g2_gets1 (hc : M.2.2.2.2 pc = (54, (nx, (1, (b, (c', tg)))))) (k : G2 κ im M t d n0 s0 X nx loc (sR 2200002 :: st) S) : G2 κ im M t d n0 s0 X pc loc st S :=
  g2_gets (q := ("java/util/ArrayList", ("DEFAULTCAPACITY_EMPTY_ELEMENTDATA", "[Ljava/lang/Object;"))) (vv := .ref (κ.2.2.1.2.1 200002)) hc rfl (dn_c (by omega)) (fun _ _ _ _ _ _ hF => hF.2.2.2.2.2.2.2.2.1) k
theorem g2_gets2 (hc : M.2.2.2.2 pc = (54, (nx, (2, (b, (c', tg)))))) (k : G2 κ im M t d n0 s0 X nx loc (sR 2200000 :: st) S) : G2 κ im M t d n0 s0 X pc loc st S :=
  g2_gets (q := ("java/lang/Integer", ("DigitOnes", "[B"))) (vv := .ref (κ.2.2.1.2.1 200000)) hc rfl (dn_c (by omega)) (fun _ _ _ _ _ _ hF => hF.2.2.2.2.1) k
theorem g2_gets3 (hc : M.2.2.2.2 pc = (54, (nx, (3, (b, (c', tg)))))) (k : G2 κ im M t d n0 s0 X nx loc (sR 2200001 :: st) S) : G2 κ im M t d n0 s0 X pc loc st S :=
  g2_gets (q := ("java/lang/Integer", ("DigitTens", "[B"))) (vv := .ref (κ.2.2.1.2.1 200001)) hc rfl (dn_c (by omega)) (fun _ _ _ _ _ _ hF => hF.2.2.2.2.2.2.1) k
theorem g2_gets4 (hc : M.2.2.2.2 pc = (54, (nx, (4, (b, (c', tg)))))) (k : ∀ v, RfA v → G2 κ im M t d n0 s0 X nx loc (sR v :: st) S) : G2 κ im M t d n0 s0 X pc loc st S := by
  intro v S' hX
  have g1 := k (-1) (by unfold RfA; omega) v S' hX
  have g2 := k 2200004 (by unfold RfA; omega) v S' hX
  refine ⟨g1.1, g1.2.1, fun k1 k2 k3 p e s m args below meth c hκ hF hE => ?_⟩
  have f1 := g1.2.2 k1 k2 k3 p e s m args below meth c hκ hF hE
  have f2 := g2.2.2 k1 k2 k3 p e s m args below meth c hκ hF hE
  intro H locs ls hl hJ hS
  have go1 := f1 H locs ls hl hJ hS
  have go2 := f2 H locs ls hl hJ hS
  obtain ⟨hx, hbb, -, ho, ht, -⟩ := id hF.1
  have hok := hE pc
  rw [hc] at hok
  obtain ⟨ix, q2, e1, dd, e2, e3⟩ := hok.2
  dsimp only at e1 dd e2 e3
  subst e2
  cases e1
  obtain ⟨fv, hfv, hZ⟩ := hF.2.2.2.2.2.2.2.2.2.2.2.2
  rcases hfv with rfl | rfl
  · rw [List.map_cons, dn_n] at go1
    exact va_gets hx hbb hZ hS ho (ht _ e3) (fun x h => h) dd go1
  · rw [List.map_cons, dn_c (by omega)] at go2
    exact va_gets hx hbb hZ hS ho (ht _ e3) (fun x h => h) dd go2
/-- casts -/
theorem g2_cast7 (hc : M.2.2.2.2 pc = (55, (nx, (7, (b, (c', tg)))))) (hW : WF2 κ S) (hv : RfO p) (k : G2 κ im M t d n0 s0 X nx loc (sR p :: r) S) : G2 κ im M t d n0 s0 (if p = -1 ∨ sK S p = 7 then X else none) pc loc (sR p :: r) S := by
  refine g2_ck fun hk => ?_
  refine g2_mp (fun p9 e R s m args below meth c Q c9 s9 H locs ls hκ hF hE hR hsz hn hJ hS go => ?_) k
  obtain ⟨hx, hbb, -, ho, ht, hV, -⟩ := id hF.1
  have hok := hE pc
  rw [hc] at hok
  obtain ⟨ix, nm, dd, e1, e2, e3⟩ := hok.2
  dsimp only at dd e1 e2 e3
  subst e1
  rcases hk with rfl | hk
  · rw [List.map_cons, dn_n] at go ⊢
    exact lv_castN hx hbb dd go
  · obtain ⟨v2, v3⟩ := sf_real hW.2.1 (p := p) (by omega) (by have := hv.2; omega) (by have := hv.2; omega)
    obtain ⟨u, hu, u1, u2, u3⟩ := ws_cell (w := cW S c9 s9) ws_c v2 v3 hn (by omega)
    have hci : vwCl[u.1]? = some (RX7, TX7, 13) := by rw [u1, hk]; rfl
    obtain ⟨hx9', cellV, f1, f2, f3, -⟩ := ev_J_obj hJ hu hci
    have hcls := (hV.1.1 7 (RX7, TX7, 13) rfl).2
    rw [u1, hk] at f2
    have e4 : nm = RX7 := by
      rcases e3 with ⟨-, e3⟩ | ⟨q, -⟩
      · exact e3
      · cases q
    subst e4
    rw [List.map_cons, dn_w v2 (by have := hv.2; omega)] at go ⊢
    exact va_castE hx hbb ho (ht _ e2) ⟨cellV, f1, by rw [f3]; rfl, by rw [f2]; exact hcls.1⟩ dd go
theorem g2_castB (hc : M.2.2.2.2 pc = (55, (nx, (21, (b, (c', tg)))))) (hW : WF2 κ S) (k : G2 κ im M t d n0 s0 X nx loc (sR p :: r) S) : G2 κ im M t d n0 s0 (if sK S p = 21 ∧ p < 1000000 then X else none) pc loc (sR p :: r) S := by
  refine g2_ck fun hk => ?_
  obtain ⟨hk, hp⟩ := hk
  refine g2_mp (fun p9 e R s m args below meth c Q c9 s9 H locs ls hκ hF hE hR hsz hn hJ hS go => ?_) k
  obtain ⟨hx, hbb, -, ho, ht, hV, -⟩ := id hF.1
  have hok := hE pc
  rw [hc] at hok
  obtain ⟨ix, nm, dd, e1, e2, e3⟩ := hok.2
  dsimp only at dd e1 e2 e3
  subst e1
  obtain ⟨v2, v3⟩ := sf_real hW.2.1 (p := p) (by omega) (by omega) (by omega)
  obtain ⟨u, hu, u1, u2, u3⟩ := ws_cell (w := cW S c9 s9) ws_c v2 v3 hn (by omega)
  obtain ⟨-, g1⟩ := ev_J_arr hJ hu (by omega) (by omega)
  have hRA := (ev_tys_of hV (k := 21) (Or.inr (Or.inl rfl))).2
  rw [u1, hk] at g1
  have e4 : nm = "[B" := by
    rcases e3 with ⟨q, -⟩ | ⟨-, e3⟩
    · cases q
    · exact e3
  subst e4
  rw [List.map_cons, dn_w v2 (by omega)] at go ⊢
  exact va_castE hx hbb ho (ht _ e2) ⟨_, g1, rfl, hRA⟩ dd go
/-- the class Object[] -/
theorem g2_getC (hc : M.2.2.2.2 pc = (58, (nx, (a, (b, (c', tg)))))) (hW : WF2 κ S) (hcs : Nat.ble (ev_cs r) 8 = true) (k : G2 κ im M t d n0 s0 X nx loc (sR 2200003 :: r) S) : G2 κ im M t d n0 s0 (if sK S p = 26 ∧ p < 1000000 then X else none) pc loc (sR p :: r) S := by
  refine g2_ck fun hk => ?_
  obtain ⟨hk, hp⟩ := hk
  refine g2_mp (fun p9 e R s m args below meth c Q c9 s9 H locs ls hκ hF hE hR hsz hn hJ hS go => ?_) k
  obtain ⟨hx, hbb, hml, ho, ht, hV, -⟩ := id hF.1
  have hok := hE pc
  rw [hc] at hok
  obtain ⟨ix, dd, e1, w1, w2, w3, w4, w5⟩ := hok.2
  dsimp only at dd e1 w1
  subst e1
  obtain ⟨v2, v3⟩ := sf_real hW.2.1 (p := p) (by omega) (by omega) (by omega)
  obtain ⟨u, hu, u1, u2, u3⟩ := ws_cell (w := cW S c9 s9) ws_c v2 v3 hn (by omega)
  obtain ⟨-, g1⟩ := ev_J_arr hJ hu (by omega) (by omega)
  have hRA := (ev_tys_of hV (k := 26) (Or.inr (Or.inr (Or.inr (Or.inr (Or.inl rfl)))))).2
  rw [u1, hk] at g1
  obtain ⟨kA, comp, -, -, -, hfc⟩ := hRA
  have hk8 := ev_cs_ok (b := κ.2.2.1) (B0 := κ.2.2.2.1) (σ := κ.2.2.2.2.2.1) r
  have hk9 := Nat.le_of_ble_eq_true hcs
  rw [List.map_cons, dn_w v2 (by omega)]
  rw [List.map_cons, dn_c (by omega)] at go
  exact va_getC (C := "[Ljava/lang/Object;") (mi := κ.2.2.1.2.1 200003) hx hbb (hml.trans hsz.symm) ho (ht _ w1) (va_Nw.use rfl (hV.2.1 _ w2 rfl)) (ht _ w3) (ht _ w4) (ht _ w5) hF.2.2.2.2.2.2.2.2.2.2.1 ⟨_, g1, rfl, hfc⟩ (by omega) (by omega) dd go
theorem g2_ldcC (hc : M.2.2.2.2 pc = (59, (nx, (a, (b, (c', tg)))))) (k : G2 κ im M t d n0 s0 X nx loc (sR 2200003 :: st) S) : G2 κ im M t d n0 s0 X pc loc st S := by
  refine g2_mp (fun p9 e R s m args below meth c Q c9 s9 H locs ls hκ hF hE hR hsz hn hJ hS go => ?_) k
  obtain ⟨hx, hbb, hml, ho, ht, hV, -⟩ := id hF.1
  have hok := hE pc
  rw [hc] at hok
  obtain ⟨ix, dd, e1, w1⟩ := hok.2
  dsimp only at dd e1 w1
  subst e1
  rw [List.map_cons, dn_c (by omega)] at go
  exact va_ldcM hx hbb ho (ht _ w1) hF.2.2.2.2.2.2.2.2.2.2.1 dd go
end G2N
