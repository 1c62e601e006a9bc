/-! ===== the law's layer: the heap (own work) ===== -/
theorem ws_cell {w : ev_W} {S : sS} {p : Int} (hw : WS w S) (h0 : 0 ≤ p) (h1 : p < sn S) (h2 : sn S ≤ 1000000) (h98 : ¬ sK S p = 98) : ∃ q, ev_get w.1 p.toNat = some q ∧ q.1 = sK S p ∧ q.2.1 = (sZ S p).toNat ∧ ∀ j, j < q.2.1 → ev_get q.2.2 j = some (dec2 (ty2 (sK S p) j) (sg S p j)) := by
  obtain ⟨q, hq, e1, e2, e3⟩ := hw.1 p.toNat (by omega)
  have hp : ((p.toNat : Nat) : Int) = p := by omega
  have hC : cC S p.toNat = (sK S p, ((sZ S p).toNat, mkR (sZ S p).toNat (fun j => dec2 (ty2 (sK S p) j) (sg S p j)))) := by
    unfold cC
    rw [hp, if_pos h1, if_neg h98]
  rw [hC] at e1 e2 e3
  refine ⟨q, hq, e1, e2, fun j hj => ?_⟩
  have hj2 : j < (sZ S p).toNat := by rw [e2] at hj; exact hj
  rw [e3 j hj2]
  dsimp only
  rw [mkR_get, if_pos (by omega)]
theorem sf_real {S : sS} {p : Int} (h : SF S) (h1 : ¬ sK S p = 99) (h2 : p < 2000000) (h3 : ¬ p = 1000000) : 0 ≤ p ∧ p < sn S := by
  have h4 : ¬ (p < 0 ∨ (sn S ≤ p ∧ p < 2000000 ∧ ¬ p = 1000000)) := fun z => h1 (h.2.2.2.2.2 p z)
  omega
theorem sf_obj {S : sS} {p : Int} {a : Nat} (h : SF S) (hk : sK S p = a) (ha : a < 13) (h0 : 0 ≤ p) (h1 : p < sn S) : 7 ≤ a ∧ sZ S p = nf a := by
  rcases h.2.1 p h0 h1 with k | ⟨k1, k2⟩ | ⟨⟨k1, -⟩, -⟩
  · omega
  · rw [hk] at k1 k2
    exact ⟨k1.1, k2⟩
  · rw [hk] at k1
    rcases k1 with k | k | k | k | k | k | k <;> omega
theorem sf_arr {S : sS} {p : Int} (h : SF S) (h20 : 20 ≤ sK S p) (h28 : sK S p ≤ 28) (h0 : 0 ≤ p) (h1 : p < sn S) : (ev_ak (sK S p) ∧ ¬ sK S p = 24 ∧ ¬ sK S p = 25) ∧ 0 ≤ sZ S p ∧ sZ S p ≤ 65536 := by
  rcases h.2.1 p h0 h1 with k | ⟨k1, k2⟩ | k
  · omega
  · omega
  · exact k
theorem cK_obj {p : Int} {a : Nat} (h : cK p = a) (ha : a < 13) : (2000100 ≤ p ∧ p < 2000111) ∧ a = 12 := by
  unfold cK at h
  split at h
  · next h1 => exact ⟨h1, h.symm⟩
  · split at h
    · omega
    · split at h
      · omega
      · split at h <;> omega
theorem cK_arr {p : Int} (h2 : 20 ≤ cK p) (h3 : cK p ≤ 28) : (cK p = 21 ∧ 2100100 ≤ p ∧ p < 2100111) ∨ (cK p = 21 ∧ (p = 2200000 ∨ p = 2200001)) ∨ (cK p = 26 ∧ p = 2200002) := by
  unfold cK at h2 h3 ⊢
  split at h2
  · omega
  · next g1 =>
    rw [if_neg g1] at h3 ⊢
    split at h2
    · next g2 =>
      rw [if_pos g2]
      exact Or.inl ⟨rfl, g2⟩
    · next g2 =>
      rw [if_neg g2] at h3 ⊢
      split at h2
      · next g3 =>
        rw [if_pos g3]
        exact Or.inr (Or.inl ⟨rfl, g3⟩)
      · next g3 =>
        rw [if_neg g3] at h3 ⊢
        split at h2
        · next g4 =>
          rw [if_pos g4]
          exact Or.inr (Or.inr ⟨rfl, g4⟩)
        · next g4 =>
          rw [if_neg g4] at h3
          omega
/-! a store -/
theorem sg_uS {S : sS} {p b v x y : Int} : sg (uS S p b v) x y = if x = p ∧ y = b then v else sg S x y := rfl
theorem wf_uS {κ : CX} {S : sS} {p b v : Int} (h : WF2 κ S) (hp : p < 1000000) (hv : VT2 (ty2 (sK S p) b) v) : WF2 κ (uS S p b v) := by
  obtain ⟨⟨h1, h2⟩, ⟨f1, f2, f3, f4, f5, f6⟩, c1, c2, c3, c4⟩ := h
  refine ⟨⟨fun x y => ?_, h2⟩, ⟨f1, f2, f3, f4, fun x hx => ⟨(f5 x hx).1, (f5 x hx).2.1, fun y => ?_⟩, f6⟩, c1, c2, fun j => ?_, c4⟩
  · rw [sg_uS]
    by_cases e : x = p ∧ y = b
    · rw [if_pos e, e.1, e.2]
      exact hv
    · rw [if_neg e]
      exact h1 x y
  · rw [sg_uS, if_neg (by omega)]
    exact (f5 x hx).2.2 y
  · rw [sg_uS, if_neg (by omega)]
    exact c3 j
theorem ws_upd {w : ev_W} {S : sS} {p : Int} {b : Nat} {v : Int} (hw : WS w S) (h0 : 0 ≤ p) (h1 : p < sn S) (h2 : sn S ≤ 1000000) (h98 : ¬ sK S p = 98) (hb : (b : Int) < sZ S p) :
    ∃ q, ev_get w.1 p.toNat = some q ∧ q.1 = sK S p ∧ q.2.1 = (sZ S p).toNat ∧ ∃ (d : List (List (List ev_V))) (x : List (List (List ev_C))), (∀ j, ev_get d j = if j = b then some (dec2 (ty2 (sK S p) b) v) else ev_get q.2.2 j) ∧ (∀ j, ev_get x j = if j = p.toNat then some (q.1, (q.2.1, d)) else ev_get w.1 j) ∧ WS (x, w.2) (uS S p b v) ∧ ∀ kt, ev_upd w p.toNat q b (dec2 (ty2 (sK S p) b) v) kt = kt (x, w.2) := by
  obtain ⟨q, hq, e1, e2, e3⟩ := ws_cell hw h0 h1 h2 h98
  obtain ⟨d, d1, d2⟩ := gb_sto (v := dec2 (ty2 (sK S p) b) v) (e3 b (by omega))
  obtain ⟨x, x1, x2⟩ := gb_sto (v := (q.1, (q.2.1, d))) hq
  have hp : ((p.toNat : Nat) : Int) = p := by omega
  refine ⟨q, hq, e1, e2, d, x, d2, x2, ⟨fun i hi => ?_, fun i hi => ?_, hw.2.2.1, hw.2.2.2⟩, fun kt => ?_⟩
  · by_cases e : i = p.toNat
    · refine ⟨(q.1, (q.2.1, d)), by show ev_get x i = _; rw [x2, if_pos e], ?_⟩
      subst e
      have hC : cC (uS S p b v) p.toNat = (sK S p, ((sZ S p).toNat, mkR (sZ S p).toNat (fun j => dec2 (ty2 (sK S p) j) (sg (uS S p b v) p j)))) := by
        unfold cC
        rw [hp]
        show (if p < sn S then (if sK S p = 98 then _ else _) else _) = _
        rw [if_pos h1, if_neg h98]
        rfl
      rw [hC]
      refine ⟨e1, e2, fun j hj => ?_⟩
      have hj : j < (sZ S p).toNat := hj
      dsimp only
      rw [mkR_get, if_pos (by omega), d2]
      show _ = some (dec2 (ty2 (sK S p) j) (if p = p ∧ (j : Int) = b then v else sg S p j))
      by_cases e9 : j = b
      · rw [if_pos e9, if_pos ⟨rfl, by omega⟩, e9]
      · rw [if_neg e9, if_neg (by omega)]
        exact e3 j (by omega)
    · obtain ⟨q9, g1, g2⟩ := hw.1 i hi
      refine ⟨q9, by show ev_get x i = _; rw [x2, if_neg e]; exact g1, ?_⟩
      have hC : cC (uS S p b v) i = cC S i := by
        have hf : (fun j : Nat => dec2 (ty2 (sK S i) j) (sg (uS S p b v) i j)) = (fun j : Nat => dec2 (ty2 (sK S i) j) (sg S i j)) := by
          funext j
          rw [sg_uS, if_neg (by omega)]
        unfold cC
        show (if (i : Int) < sn S then (if sK S i = 98 then _ else (sK S i, ((sZ S i).toNat, mkR (sZ S i).toNat (fun j : Nat => dec2 (ty2 (sK S i) j) (sg (uS S p b v) i j))))) else _) = _
        rw [hf]
        rfl
      rw [hC]
      exact g2
  · show ev_get x i = none
    rw [x2, if_neg (by omega)]
    exact hw.2.1 i hi
  · unfold ev_upd
    rw [d1]
    show (match ev_sto w.1 p.toNat (q.1, (q.2.1, d)) with
      | some x => kt (x, w.2)
      | none => none) = _
    rw [x1]
theorem op_24 : (24 : Nat) ∈ ev_op1 := by decide
theorem op_26 : (26 : Nat) ∈ ev_op1 := by decide
theorem op_27 : (27 : Nat) ∈ ev_op1 := by decide
theorem op_29 : (29 : Nat) ∈ ev_op1 := by decide
theorem op_18 : (18 : Nat) ∈ ev_op1 := by decide
theorem sI_nn {j : Int} (h : 0 ≤ j ∧ j < 4294967296) : sI j = .inl j.toNat := by
  unfold sI
  rw [Int.emod_eq_of_lt h.1 h.2]
section G2H
variable {κ : CX} {im : ev_Im} {M : ev_M} {t d : Nat} {n0 s0 : Int} {X A B : Option (Int × sS)} {pc nx : Nat} {loc : ev_L} {st r : List ev_V} {S : sS} {a b c' : Nat} {tg : List Nat} {x y p j v z : Int}
/-- a step of the machine itself -/
theorem g2_mc {pc2 : Nat} {loc2 : ev_L} {st2 : List ev_V} {S2 : sS} (hn : sn S ≤ sn S2 ∧ ss S ≤ ss S2 ∧ EXT S S2)
    (h : ∀ (p : Program) (e : Env) (R : Room) (s : State) (m : MethodId) (args : Array Value) (below : List Frame) (meth : Method) (c : Code) (Q : State → Prop) (c9 s9 : Nat), CXall κ → FX κ im M p s m args meth c → ECk κ im M → (c9 + (sn S2 - sn S).toNat ≤ R.cells ∧ s9 + (ss S2 - ss S).toNat ≤ R.slots) → (10 + d ≤ R.frames ∧ 100 + 70 * d ≤ R.locals) → sn S2 ≤ 1000000 →
      cxG κ p e R s m args below meth c Q M.1 pc2 loc2 st2 (cW S2 (c9 + (sn S2 - sn S).toNat) (s9 + (ss S2 - ss S).toNat)) → cxG κ p e R s m args below meth c Q M.1 pc loc st (cW S c9 s9))
    (hk : G2 κ im M t d n0 s0 X pc2 loc2 st2 S2) : G2 κ im M t d n0 s0 X pc loc st S := by
  intro v S' hX
  obtain ⟨h1, h2, h3⟩ := hk v S' hX
  refine ⟨⟨Int.le_trans hn.1 h1.1, Int.le_trans hn.2.1 h1.2.1, ext_t hn.2.2 h1.2.2⟩, h2, fun k1 k2 k3 p e s m args below meth c hκ hF hE => ?_⟩
  have go := h3 (by omega) (by omega) k3 p e s m args below meth c hκ hF hE
  refine h p e _ s m args below meth c _ _ _ hκ hF hE ⟨by show _ ≤ (sn S' - n0).toNat; omega, by show _ ≤ (ss S' - s0).toNat; omega⟩ ⟨Nat.le_refl _, Nat.le_refl _⟩ (by omega) ?_
  rw [show (sn S - n0).toNat + (sn S2 - sn S).toNat = (sn S2 - n0).toNat by omega, show (ss S - s0).toNat + (ss S2 - ss S).toNat = (ss S2 - s0).toNat by omega]
  exact go
/-- .. that leaves the heap -/
theorem g2_mp {pc2 : Nat} {st2 : List ev_V}
    (h : ∀ (p : Program) (e : Env) (R : Room) (s : State) (m : MethodId) (args : Array Value) (below : List Frame) (meth : Method) (c : Code) (Q : State → Prop) (c9 s9 : Nat) (H : Heap) (locs : List Loc) (ls : Array Slot), CXall κ → FX κ im M p s m args meth c → ECk κ im M → (10 + d ≤ R.frames ∧ 100 + 70 * d ≤ R.locals) → ls.size = M.1 → sn S ≤ 1000000 → cxS κ (cW S c9 s9) H → va_S (ev_A κ.2.2.1 κ.2.2.2.1) s.heap H locs →
      W p κ.2.2.2.2.2.2.1 e R s m args below meth c H locs c9 s9 Q (F0 m pc2 ls (st2.map (ev_dn κ.2.2.1 κ.2.2.2.1 κ.2.2.2.2.2.1))) → W p κ.2.2.2.2.2.2.1 e R s m args below meth c H locs c9 s9 Q (F0 m pc ls (st.map (ev_dn κ.2.2.1 κ.2.2.2.1 κ.2.2.2.2.2.1))))
    (hk : G2 κ im M t d n0 s0 X pc2 loc st2 S) : G2 κ im M t d n0 s0 X pc loc st S := by
  refine g2_mc ⟨Int.le_refl _, Int.le_refl _, ext_r⟩ (fun p e R s m args below meth c Q c9 s9 hκ hF hE _ hR hn go => ?_) hk
  intro H locs ls hl hJ hS
  have g := go H locs ls hl hJ hS
  rw [Int.sub_self, Int.sub_self] at g
  exact h p e R s m args below meth c Q c9 s9 H locs ls hκ hF hE hR hl.1 hn hJ hS g
theorem cx_J {c1 s1 c2 s2 : Nat} {H : Heap} (h : cxS κ (cW S c1 s1) H) : cxS κ (cW S c2 s2) H := h
theorem dn_c {p : Int} (h : 2000000 ≤ p) : ev_dn κ.2.2.1 κ.2.2.2.1 κ.2.2.2.2.2.1 (sR p) = .ref (κ.2.2.1.2.1 (p - 2000000).toNat) := by
  rw [sR_pos (by omega)]
  show Value.ref _ = _
  unfold ev_ad
  rw [if_neg (by omega), if_pos (by omega), show p.toNat - 2000000 = (p - 2000000).toNat by omega]
theorem dn_s : ev_dn κ.2.2.1 κ.2.2.2.1 κ.2.2.2.2.2.1 (sR 1000000) = .ref κ.2.2.1.1 := by
  rw [sR_pos (by omega)]
  rfl
theorem dn_w {p : Int} (h0 : 0 ≤ p) (h : p < 1000000) : ev_dn κ.2.2.1 κ.2.2.2.1 κ.2.2.2.2.2.1 (sR p) = .ref (κ.2.2.2.1 + p.toNat) := by
  rw [sR_pos h0]
  show Value.ref _ = _
  rw [ev_ad_w (by omega)]
theorem dn_n : ev_dn κ.2.2.1 κ.2.2.2.1 κ.2.2.2.2.2.1 (sR (-1)) = .null := rfl
theorem dn_i {x : Int} : ev_dn κ.2.2.1 κ.2.2.2.1 κ.2.2.2.2.2.1 (sI x) = .int (toI x) := rfl
/-- a field read -/
theorem g2_get {K : Int → Option (Int × sS)} (hc : M.2.2.2.2 pc = (24, (nx, (a, (b, (c', tg)))))) (hW : WF2 κ S) (ha : a < 13) (hb : b < nf a) (h12 : a = 12 → b ≤ 1) (k : ∀ v, VT2 (ty2 a b) v → G2 κ im M t d n0 s0 (K v) nx loc (dec2 (ty2 a b) v :: r) S) : G2 κ im M t d n0 s0 (if sK S p = a then bnd (sg S p b) K else none) pc loc (sR p :: r) S := by
  refine g2_ck fun hk => ?_
  have hv : VT2 (ty2 a b) (sg S p b) := by
    have := hW.1.1 p b
    rw [hk] at this
    exact this
  have h20 : ¬ p = 1000000 := fun e => by
    have := hW.2.2.1
    rw [← e] at this
    omega
  by_cases h1 : p < 2000000
  · obtain ⟨h2, h3⟩ := sf_real hW.2.1 (by omega) h1 h20
    obtain ⟨h4, h5⟩ := sf_obj hW.2.1 hk ha h2 h3
    refine g2_sl hc (by decide) (fun Φ M w kk cl hw hn => ?_) (k _ hv)
    obtain ⟨q, hq, e1, e2, e3⟩ := ws_cell hw h2 h3 hn (by omega)
    have e4 := e3 b (by omega)
    rw [hk] at e4
    rw [sR_pos h2, gh_24 hq (e1.trans hk) e4]
  · obtain ⟨g1, -, g3⟩ := hW.2.1.2.2.2.2.1 p (by omega)
    rw [hk] at g1
    obtain ⟨⟨p1, p2⟩, a12⟩ := cK_obj g1.symm ha
    have hb1 := h12 a12
    refine g2_mp (fun p9 e R s m args below meth c Q c9 s9 H locs ls hκ hF hE hR hsz hn hJ hS go => ?_) (k _ hv)
    obtain ⟨hx, hbb, -, ho, ht, hV, -⟩ := id hF.1
    have hok := hE pc
    rw [hc] at hok
    obtain ⟨ix, C, T, N, dd, e1, e2, e3, e4, e5⟩ := hok.1 op_24
    dsimp only at e1 e2 e3 e4 e5
    subst e1
    rw [a12] at e2
    cases e2
    obtain ⟨cR, cO, cC9, cV, cT9⟩ := hF.2.2.2.1 (p - 2000100).toNat (by omega)
    rw [List.map_cons, dn_c (by omega), show (p - 2000000).toNat = 100 + (p - 2000100).toNat by omega]
    rw [List.map_cons] at go
    have hb2 : b = 0 ∨ b = 1 := by omega
    subst a12
    rcases hb2 with rfl | rfl
    · obtain ⟨cf, k9, i9, f9, cell, h1, h2, h3, h4, h5, h6⟩ := cV.kept hS.2.1
      have ev : ev_dn κ.2.2.1 κ.2.2.2.1 κ.2.2.2.2.2.1 (dec2 (ty2 12 ((0 : Nat) : Int)) (sg S p ((0 : Nat) : Int))) = .ref (κ.2.2.1.2.1 (100100 + (p - 2000100).toNat)) := by
        have e9 : sg S p ((0 : Nat) : Int) = p + 100000 := by
          rw [g3]
          unfold cg
          rw [if_pos ⟨p1, p2⟩]
          exact if_pos rfl
        rw [e9]
        show ev_dn _ _ _ (sR (p + 100000)) = _
        rw [dn_c (by omega), show (p + 100000 - 2000000).toNat = 100100 + (p - 2000100).toNat by omega]
      rw [ev] at go
      rcases e5 with e5 | ⟨host, e5⟩
      · exact W.getf hx hbb ho (ht _ e5) h1 h2 h3 h4 h5 rfl rfl dd go
      · exact va_Wgetf hx hbb ho (va_Nw.use rfl (hV.2.1 _ e5 rfl)) h1 h2 h3 h4 h5 rfl rfl dd go
    · obtain ⟨cf, k9, i9, f9, cell, h1, h2, h3, h4, h5, h6⟩ := cC9.kept hS.2.1
      have ev : ev_dn κ.2.2.1 κ.2.2.2.1 κ.2.2.2.2.2.1 (dec2 (ty2 12 ((1 : Nat) : Int)) (sg S p ((1 : Nat) : Int))) = .int 0 := by
        have e9 : sg S p ((1 : Nat) : Int) = 0 := by
          rw [g3]
          unfold cg
          rw [if_pos ⟨p1, p2⟩]
          rfl
        rw [e9]
        rfl
      rw [ev] at go
      rcases e5 with e5 | ⟨host, e5⟩
      · exact W.getf hx hbb ho (ht _ e5) h1 h2 h3 h4 h5 rfl rfl dd go
      · exact va_Wgetf hx hbb ho (va_Nw.use rfl (hV.2.1 _ e5 rfl)) h1 h2 h3 h4 h5 rfl rfl dd go
theorem g2_getI {K : Int → Option (Int × sS)} (hc : M.2.2.2.2 pc = (24, (nx, (a, (b, (c', tg)))))) (hW : WF2 κ S) (h : a < 13 ∧ b < nf a ∧ (a = 12 → b ≤ 1) ∧ ty2 a b = 0) (k : ∀ v, InR v → G2 κ im M t d n0 s0 (K v) nx loc (sI v :: r) S) : G2 κ im M t d n0 s0 (if sK S p = a then bnd (sg S p b) K else none) pc loc (sR p :: r) S :=
  g2_get hc hW h.1 h.2.1 h.2.2.1 (fun v hv => by rw [h.2.2.2] at hv ⊢; exact k v hv)
theorem g2_getB {K : Int → Option (Int × sS)} (hc : M.2.2.2.2 pc = (24, (nx, (a, (b, (c', tg)))))) (hW : WF2 κ S) (h : a < 13 ∧ b < nf a ∧ (a = 12 → b ≤ 1) ∧ ty2 a b = 1) (k : ∀ v, B01 v → G2 κ im M t d n0 s0 (K v) nx loc (sI v :: r) S) : G2 κ im M t d n0 s0 (if sK S p = a then bnd (sg S p b) K else none) pc loc (sR p :: r) S :=
  g2_get hc hW h.1 h.2.1 h.2.2.1 (fun v hv => by rw [h.2.2.2] at hv ⊢; exact k v hv)
theorem g2_getR {K : Int → Option (Int × sS)} (hc : M.2.2.2.2 pc = (24, (nx, (a, (b, (c', tg)))))) (hW : WF2 κ S) (h : a < 13 ∧ b < nf a ∧ (a = 12 → b ≤ 1) ∧ ty2 a b = 2) (k : ∀ v, RfO v → G2 κ im M t d n0 s0 (K v) nx loc (sR v :: r) S) : G2 κ im M t d n0 s0 (if sK S p = a then bnd (sg S p b) K else none) pc loc (sR p :: r) S :=
  g2_get hc hW h.1 h.2.1 h.2.2.1 (fun v hv => by rw [h.2.2.2] at hv ⊢; exact k v hv)
theorem g2_getA {K : Int → Option (Int × sS)} (hc : M.2.2.2.2 pc = (24, (nx, (a, (b, (c', tg)))))) (hW : WF2 κ S) (h : a < 13 ∧ b < nf a ∧ (a = 12 → b ≤ 1) ∧ ty2 a b = 5) (k : ∀ v, RfA v → G2 κ im M t d n0 s0 (K v) nx loc (sR v :: r) S) : G2 κ im M t d n0 s0 (if sK S p = a then bnd (sg S p b) K else none) pc loc (sR p :: r) S :=
  g2_get hc hW h.1 h.2.1 h.2.2.1 (fun v hv => by rw [h.2.2.2] at hv ⊢; exact k v hv)
/-- a field written -/
theorem g2_put {K : sS → Option (Int × sS)} (hc : M.2.2.2.2 pc = (25, (nx, (a, (b, (c', tg)))))) (hW : WF2 κ S) (ha : a < 13) (hb : b < nf a) (hv : VT2 (ty2 a b) v) (hf : ev_fits c' (dec2 (ty2 a b) v) = true) (k : ∀ S1, WF2 κ S1 → EXT S S1 → G2 κ im M t d n0 s0 (K S1) nx loc r S1) : G2 κ im M t d n0 s0 (if sK S p = a ∧ p < 1000000 then bnd (uS S p b v) K else none) pc loc (dec2 (ty2 a b) v :: sR p :: r) S := by
  refine g2_ck fun hk => ?_
  obtain ⟨hk, hp⟩ := hk
  obtain ⟨h2, h3⟩ := sf_real (p := p) hW.2.1 (by omega) (by omega) (by omega)
  obtain ⟨h4, h5⟩ := sf_obj hW.2.1 hk ha h2 h3
  have hW2 : WF2 κ (uS S p b v) := wf_uS hW hp (by rw [hk]; exact hv)
  refine g2_step (S2 := uS S p b v) hc (by decide) ⟨Int.le_refl _, Int.le_refl _, ext_uS⟩ hW2.2.1 (fun Φ M w c9 s9 hw hz _ _ hn => ?_) (k _ hW2 ext_uS)
  obtain ⟨q, hq, e1, e2, d9, x9, -, -, h6, h7⟩ := ws_upd (b := b) (v := v) hw h2 h3 hn (by omega) (by omega)
  refine ⟨(x9, w.2), h6, ?_, fun kk cl => ?_⟩
  · show w.2.2.2 = (c9 + (sn S - sn S).toNat, s9 + (ss S - ss S).toNat)
    rw [hz, Int.sub_self, Int.sub_self]
    rfl
  · rw [hk] at h7
    rw [sR_pos h2, gh_25 hq (e1.trans hk) hf, h7]
theorem g2_putI {K : sS → Option (Int × sS)} (hc : M.2.2.2.2 pc = (25, (nx, (a, (b, (0, tg)))))) (hW : WF2 κ S) (h : a < 13 ∧ b < nf a ∧ ty2 a b = 0) (hv : InR v) (k : ∀ S1, WF2 κ S1 → EXT S S1 → G2 κ im M t d n0 s0 (K S1) nx loc r S1) : G2 κ im M t d n0 s0 (if sK S p = a ∧ p < 1000000 then bnd (uS S p b v) K else none) pc loc (sI v :: sR p :: r) S := by
  have g := g2_put (p := p) (v := v) (r := r) hc hW h.1 h.2.1 (by rw [h.2.2]; exact hv) (by rw [h.2.2]; rfl) k
  rw [h.2.2] at g
  exact g
theorem g2_putB {K : sS → Option (Int × sS)} (hc : M.2.2.2.2 pc = (25, (nx, (a, (b, (1, tg)))))) (hW : WF2 κ S) (h : a < 13 ∧ b < nf a ∧ ty2 a b = 1) (hv : B01 v) (k : ∀ S1, WF2 κ S1 → EXT S S1 → G2 κ im M t d n0 s0 (K S1) nx loc r S1) : G2 κ im M t d n0 s0 (if sK S p = a ∧ p < 1000000 then bnd (uS S p b v) K else none) pc loc (sI v :: sR p :: r) S := by
  have g := g2_put (p := p) (v := v) (r := r) hc hW h.1 h.2.1 (by rw [h.2.2]; exact hv) (by rw [h.2.2]; rcases hv with rfl | rfl <;> rfl) k
  rw [h.2.2] at g
  exact g
theorem g2_putR {K : sS → Option (Int × sS)} (hc : M.2.2.2.2 pc = (25, (nx, (a, (b, (2, tg)))))) (hW : WF2 κ S) (h : a < 13 ∧ b < nf a ∧ ty2 a b = 2) (hv : RfO v) (k : ∀ S1, WF2 κ S1 → EXT S S1 → G2 κ im M t d n0 s0 (K S1) nx loc r S1) : G2 κ im M t d n0 s0 (if sK S p = a ∧ p < 1000000 then bnd (uS S p b v) K else none) pc loc (sR v :: sR p :: r) S := by
  have g := g2_put (p := p) (v := v) (r := r) hc hW h.1 h.2.1 (by rw [h.2.2]; exact hv) (by rw [h.2.2]; rfl) k
  rw [h.2.2] at g
  exact g
theorem g2_putA {K : sS → Option (Int × sS)} (hc : M.2.2.2.2 pc = (25, (nx, (a, (b, (2, tg)))))) (hW : WF2 κ S) (h : a < 13 ∧ b < nf a ∧ ty2 a b = 5) (hv : RfA v) (k : ∀ S1, WF2 κ S1 → EXT S S1 → G2 κ im M t d n0 s0 (K S1) nx loc r S1) : G2 κ im M t d n0 s0 (if sK S p = a ∧ p < 1000000 then bnd (uS S p b v) K else none) pc loc (sR v :: sR p :: r) S := by
  have g := g2_put (p := p) (v := v) (r := r) hc hW h.1 h.2.1 (by rw [h.2.2]; exact hv) (by rw [h.2.2]; rfl) k
  rw [h.2.2] at g
  exact g
end G2H
