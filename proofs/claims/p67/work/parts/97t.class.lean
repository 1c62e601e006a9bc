/-! ===== the law's layer: a call of a method of the class (own work) ===== -/
def bdC {β : Type} (f : β → Nat × (Int × gH)) (X : Option β) (K : Int → gH → Option (Int × sS)) : Option (Int × sS) := match X with
  | some r => if (f r).1 = 0 then K (f r).2.1 (f r).2.2 else none
  | none => none
theorem ev_at_cv {D : va_G} {aC : Nat → ClassId} {b b' : ev_B} {B0 B0' : Nat} {σ : Nat → Int32} {a : Nat} {q q' : ev_C} {H : Heap} (h : ev_at D aC b B0 σ a q H) (e1 : q'.1 = q.1) (e2 : q'.2.1 = q.2.1) (e3 : ∀ j, j < q.2.1 → ev_fv b' B0' σ q'.2.2 j = ev_fv b B0 σ q.2.2 j) (hn : qN q) : ev_at D aC b' B0' σ a q' H := by
  rcases h with h | ⟨r, h1, h2⟩ | ⟨h1, h2, h3⟩
  · exact Or.inl (e1.trans h)
  · refine Or.inr (Or.inl ⟨r, by rw [e1]; exact h1, ?_⟩)
    rw [e1]
    exact h2.to (fun k hk => (e3 k (Nat.lt_of_lt_of_le hk (hn r h1))).symm)
  · refine Or.inr (Or.inr ⟨by rw [e1]; exact h1, by rw [e1]; exact h2, ?_⟩)
    rw [h3, e1, e2]
    exact congrArg some (ev_arr_to (fun j hj => (e3 j hj).symm))
section G2T
variable {κ : CX} {im : ev_Im} {M : ev_M} {t d t' mi na : Nat} {n0 s0 : Int} {X : Option (Int × sS)} {pc nx : Nat} {loc : ev_L} {st r : List ev_V} {S : sS} {a b c' : Nat} {tg : List Nat} {x y p j v z : Int}
theorem dn_B {tt : Nat} (hb : 0 ≤ sb S) (hb2 : sb S + 624 ≤ 1000000) (hv : VT tt v) : ev_dn κ.2.2.1 κ.2.2.2.1 κ.2.2.2.2.2.1 (decB (sb S) tt v) = ev_dn (bC κ.2.2.1) (κ.2.2.2.1 + (sb S).toNat) κ.2.2.2.2.2.1 (dec tt v) := by
  by_cases h2 : tt = 2
  · subst h2
    have hv : RfR v := hv
    show ev_dn _ _ _ (sR (if v < 0 then -1 else sb S + v)) = ev_dn _ _ _ (sR v)
    by_cases h : v < 0
    · rw [if_pos h]
      unfold sR
      rw [if_pos h]
      rfl
    · rw [if_neg h, sR_pos (by omega), sR_pos (by omega)]
      show Value.ref (ev_ad _ _ _) = Value.ref (ev_ad _ _ _)
      rw [ev_ad_w (by have := hv.2; omega), ev_ad_w (by have := hv.2; omega)]
      exact congrArg Value.ref (show κ.2.2.2.1 + (sb S + v).toNat = κ.2.2.2.1 + (sb S).toNat + v.toNat by omega)
  · by_cases h3 : tt = 3
    · subst h3
      rfl
    · have e1 : decB (sb S) tt v = sI v := by
        unfold decB
        split
        · exact absurd rfl h2
        · exact absurd rfl h3
        · rfl
      have e2 : dec tt v = sI v := by
        unfold dec
        split
        · exact absurd rfl h2
        · exact absurd rfl h3
        · rfl
      rw [e1, e2]
      rfl
theorem cC_in {i : Nat} (hF : SF S) (hb : 0 ≤ sb S) (hi : i < 624) : cC S ((sb S).toNat + i) = (kd i, ((sz i).toNat, mkR (sz i).toNat (fun j : Nat => decB (sb S) (typ (kd i) j) (sc S i j)))) := by
  have h3 : sb S + 624 ≤ sn S := by
    rcases hF.2.2.1 with h | h
    · omega
    · exact h.2
  have e : (((sb S).toNat + i : Nat) : Int) - sb S = i := by omega
  unfold cC
  rw [if_pos (by omega), if_pos (hF.2.2.2.1 hb _ (by omega) (by omega)), e]
theorem kW_J {c9 s9 : Nat} {H : Heap} (hκ : CXok κ) (hW : WF2 κ S) (hb : 0 ≤ sb S) (hn : sn S ≤ 1000000) (hJ : cxS κ (cW S c9 s9) H) : ev_J κ.1 κ.2.1 (bC κ.2.2.1) (κ.2.2.2.1 + (sb S).toNat) κ.2.2.2.2.2.1 (kW S) H := by
  have h3 : sb S + 624 ≤ sn S := by
    rcases hW.2.1.2.2.1 with h | h
    · omega
    · exact h.2
  refine ⟨fun i q hq => ?_, ?_, fun _ => ?_⟩
  · have hq : ev_get (kCT (sc S)) i = some q := hq
    rw [kCT_get] at hq
    by_cases hi : i < 624
    · rw [if_pos hi] at hq
      cases hq
      refine ⟨⟨by omega, hi⟩, ?_⟩
      have hold : ev_get (cW S c9 s9).1 ((sb S).toNat + i) = some (cC S ((sb S).toNat + i)) := by
        show ev_get (cT S) _ = _
        rw [cT_get, if_pos (by omega)]
      have h9 := (hJ.1 _ _ hold).2
      rw [Nat.add_assoc]
      refine ev_at_cv h9 ?_ ?_ (fun j hj => ?_) (cC_N hW.2.1)
      · rw [cC_in hW.2.1 hb hi]
      · rw [cC_in hW.2.1 hb hi]
      · rw [cC_in hW.2.1 hb hi] at hj ⊢
        have hj : j < (sz i).toNat := hj
        dsimp only
        unfold ev_fv
        rw [mkR_get, mkR_get, if_pos (by omega), if_pos (by omega)]
        exact (dn_B hb (by omega) (hW.1.2 i j (by omega))).symm
    · rw [if_neg hi] at hq
      cases hq
  · have := hJ.2.1
    show κ.2.2.2.1 + (sb S).toNat + (sn S - sb S).toNat ≤ _
    have h9 : κ.2.2.2.1 + (sn S).toNat ≤ H.size := this
    omega
  · have h9 : H.size = κ.2.2.2.1 + (sn S).toNat := hJ.2.2 rfl
    show H.size = κ.2.2.2.1 + (sb S).toNat + (sn S - sb S).toNat
    omega
theorem kW_back {c9 s9 : Nat} {H H1 : Heap} {g : gH} {w2 : ev_W} (hκ : CXok κ) (hW : WF2 κ S) (hb : 0 ≤ sb S) (hn : sn S ≤ 1000000) (hg : HR g) (hJ : cxS κ (cW S c9 s9) H) (h1 : Wg w2 g) (h2 : w2.2 = (kW S).2) (hJ2 : ev_J κ.1 κ.2.1 (bC κ.2.2.1) (κ.2.2.2.1 + (sb S).toNat) κ.2.2.2.2.2.1 w2 H1) (hk : ∀ q : Nat, q < H.size → ¬ ev_A (bC κ.2.2.1) (κ.2.2.2.1 + (sb S).toNat) q → H1[q]? = H[q]?) : cxS κ (cW (cS S g) c9 s9) H1 := by
  have h3 : sb S + 624 ≤ sn S := by
    rcases hW.2.1.2.2.1 with h | h
    · omega
    · exact h.2
  have hz : H.size = κ.2.2.2.1 + (sn S).toNat := hJ.2.2 rfl
  have hz1 : H1.size = κ.2.2.2.1 + (sb S).toNat + w2.2.1 := hJ2.2.2 (by rw [h2]; rfl)
  have hz2 : w2.2.1 = (sn S - sb S).toNat := by rw [h2]; rfl
  refine ⟨fun i q hq => ?_, ?_, fun _ => ?_⟩
  · have hq : ev_get (cT (cS S g)) i = some q := hq
    rw [cT_get] at hq
    by_cases hi : i < 1000000
    · rw [if_pos hi] at hq
      cases hq
      refine ⟨⟨hi, by rw [hκ.2.2.1]; exact hi⟩, ?_⟩
      by_cases hr : (sb S).toNat ≤ i ∧ i < (sb S).toNat + 624
      · obtain ⟨i9, rfl⟩ : ∃ i9, i = (sb S).toNat + i9 := ⟨i - (sb S).toNat, by omega⟩
        have hi9 : i9 < 624 := by omega
        obtain ⟨q9, q1, q2, q3, q4⟩ := h1 i9 hi9
        have h9 := (hJ2.1 _ _ q1).2
        rw [Nat.add_assoc] at h9
        have hcin := cC_in (S := cS S g) hW.2.1 hb hi9
        rw [show cC (cS S g) ((sb S).toNat + i9) = _ from hcin]
        refine ev_at_cv h9 q2.symm ?_ (fun j hj => ?_) (fun rr hrr => ?_)
        · show (sz i9).toNat = q9.2.1
          omega
        · have hj2 : j < (sz i9).toNat := by omega
          dsimp only
          unfold ev_fv
          rw [mkR_get, if_pos (by omega), q4 j (by omega)]
          exact dn_B hb (by show sb S + 624 ≤ 1000000; omega) (hg i9 j (by omega))
        · rw [q2] at hrr
          have hs := (sz_bd i9).1
          have hk9 := kd_rg (i9 : Int) (by omega) (by omega)
          rcases hk9 with h5 | h5 | h5 | h5 | h5
          · rw [sz_vw _ h5 rr hrr]
            have := sz_of (p := (i9 : Int)) rfl (by omega)
            omega
          · rw [h5] at hrr; cases hrr
          · rw [h5] at hrr; cases hrr
          · rw [h5] at hrr; cases hrr
          · rw [h5] at hrr; cases hrr
      · have h98 : (i : Int) < sn S → ¬ sK S i = 98 := fun hlt h98 => by
          rcases hW.2.1.2.1 i (by omega) hlt with ⟨-, k2, k3, k4⟩ | ⟨k1, -⟩ | ⟨⟨k1, -⟩, -⟩
          · omega
          · omega
          · rw [h98] at k1
            rcases k1 with k | k | k | k | k | k | k <;> omega
        have hC : cC (cS S g) i = cC S i := by
          unfold cC
          show (if (i : Int) < sn S then (if sK S i = 98 then _ else _) else _) = _
          by_cases hlt : (i : Int) < sn S
          · rw [if_pos hlt, if_neg (h98 hlt), if_pos hlt, if_neg (h98 hlt)]
            rfl
          · rw [if_neg hlt, if_neg hlt]
        rw [hC]
        have hold : ev_get (cW S c9 s9).1 i = some (cC S i) := by
          show ev_get (cT S) _ = _
          rw [cT_get, if_pos hi]
        by_cases hlt : (i : Int) < sn S
        · exact (hJ.1 _ _ hold).2.kept (hk _ (by omega) (fun z => by have z1 := z.1; have z2 : κ.2.2.2.1 + i < κ.2.2.2.1 + (sb S).toNat + 624 := z.2; omega))
        · refine Or.inl ?_
          unfold cC
          rw [if_neg hlt]
    · rw [if_neg hi] at hq
      cases hq
  · show κ.2.2.2.1 + (sn S).toNat ≤ H1.size
    omega
  · show H1.size = κ.2.2.2.1 + (sn S).toNat
    omega
theorem zf_bC {s : State} {H : Heap} (hb : κ.2.2.2.1 + (sb S).toNat + 624 ≤ κ.2.2.2.1 + κ.2.2.1.2.2) (h : ev_ZF κ.2.2.1 κ.2.2.2.1 κ.2.2.2.2.1 κ.2.2.2.2.2.1 s H) : ev_ZF (bC κ.2.2.1) (κ.2.2.2.1 + (sb S).toNat) κ.2.2.2.2.1 κ.2.2.2.2.2.1 s H := by
  have hA : ∀ q, ev_A (bC κ.2.2.1) (κ.2.2.2.1 + (sb S).toNat) q → ev_A κ.2.2.1 κ.2.2.2.1 q := fun q hq => by
    have h2 : q < κ.2.2.2.1 + (sb S).toNat + 624 := hq.2
    exact ⟨by have := hq.1; omega, by omega⟩
  obtain ⟨h1, h2, h3, h4, ⟨fv, h5, h6⟩, h7⟩ := h
  refine ⟨h1, h2.narrow hA, h3.narrow hA, h4.narrow hA, ⟨fv, h5, h6.narrow hA⟩, fun k hk => ?_⟩
  obtain ⟨q1, q2, q3, v, q4, q5⟩ := h7 k hk
  exact ⟨q1, q2.narrow hA, q3.narrow hA, v, q4.narrow hA, q5.narrow hA⟩
theorem g2_callC {β : Type} {f : β → Nat × (Int × gH)} {Y : Option β} {K : Int → sS → Option (Int × sS)} {Is : List Int} (hc : M.2.2.2.2 pc = (35, (nx, (mi, (na, (7, tg)))))) (hmi : mi < 92) (hsp : ev_sp na [] st = some (sR p :: Is.map sI, r)) (hcs : Nat.ble (ev_cs r) 8 = true) (hd : 1 ≤ d) (hW : WF2 κ S) (ht' : t' = 1 ∨ t' = 3) (hini : (pr_I mi).1.name ≠ "<init>") (hmc : (pr_P mi).2.1 = 0 ∧ (pr_P mi).2.2.1 = 0)
    (hgo : Go (5001, []) pr_P f t' Y (d - 1) (pr_P mi) 0 (ev_loc (pr_P mi).1 (sR 0 :: Is.map sI)) [] (sc S) 0 0) (k : ∀ v S1, VR2 t' v → WF2 κ S1 → EXT S S1 → G2 κ im M t d n0 s0 (K v S1) nx loc (sI v :: r) S1) :
    G2 κ im M t d n0 s0 (if p = sb S ∧ 0 ≤ p then bdC f Y (fun v c => bnd (cS S c) (K v)) else none) pc loc st S := by
  refine g2_ck fun hk => ?_
  obtain ⟨rfl, hb⟩ := hk
  intro v S' hX
  cases hY : Y with
  | none => rw [hY] at hX; cases hX
  | some r0 =>
    rw [hY] at hX
    have hX : (if (f r0).1 = 0 then K (f r0).2.1 (cS S (f r0).2.2) else none) = some (v, S') := hX
    by_cases hf0 : (f r0).1 = 0
    · rw [if_pos hf0] at hX
      obtain ⟨g1, g2, g3⟩ := hgo r0 hY hf0
      have hW1 : WF2 κ (cS S (f r0).2.2) := ⟨⟨hW.1.1, g2⟩, hW.2.1, hW.2.2⟩
      have hvr : VR2 t' (f r0).2.1 := by
        rcases ht' with rfl | rfl <;> exact g1
      obtain ⟨h1, h2, h3⟩ := k _ _ hvr hW1 ext_cS v S' hX
      refine ⟨h1, h2, fun k1 k2 k3 p9 e s m args below meth c hκ hF hE => ?_⟩
      have go := h3 k1 k2 k3 p9 e s m args below meth c hκ hF hE
      obtain ⟨nn, w', w1, w2, w3⟩ := g3 (kW S) (kW_g S) rfl
      have hrun9 := w3 nn (Nat.le_refl _)
      obtain ⟨hlen, hst⟩ := sp_map (κ := κ) hsp
      have hn : sn S ≤ 1000000 := Int.le_trans h1.1 k3
      have h624 : sb S + 624 ≤ sn S := by
        rcases hW.2.1.2.2.1 with h | h
        · omega
        · exact h.2
      have hw : (sR 0 :: Is.map sI).all (fun v => !ev_wide v) = true := by
        rw [List.all_cons, Bool.and_eq_true]
        refine ⟨rfl, List.all_eq_true.mpr (fun v hv => ?_)⟩
        obtain ⟨i, -, rfl⟩ := List.mem_map.mp hv
        rfl
      have hok := hE pc
      rw [hc] at hok
      have hok := hok.2.1 hmi
      dsimp only at hok
      unfold ev_i_call at hok
      obtain ⟨ix, n, e1, -, h51, hbn, hcw, hinit, hnm, -, ⟨dd, hb1, ⟨ci2, rr9, hc1, hci, hcn⟩, hhe, q1, q2, q3⟩ | ⟨dd, hb1, hc1, -⟩ | ⟨dd, hb1, -, -, hn1, -⟩⟩ := hok
      · have : ci2 = 6 := by omega
        subst this
        cases hci
        subst e1
        have hMet := ev_met (D := κ.1) (aC := κ.2.1) (b := bC κ.2.2.1) (B0 := κ.2.2.2.1 + (sb S).toNat) (L := κ.2.2.2.2.1) (σ := κ.2.2.2.2.2.1) (l := κ.2.2.2.2.2.2.1) (I := pr_I) (P := pr_P) (Sg := pr_S) (Φ := (5001, [])) (n := nn) (ev_main pr_all hκ.1.2.2.2.1 hκ.1.2.2.2.2.2 (fun i => ⟨Nat.zero_le _, ev_bb_max _⟩) (fun z => absurd z (by decide)) nn) pr_all hκ.1.2.2.2.1 (i := mi) (d := d - 1) (As := sR 0 :: Is.map sI) (w := kW S) hrun9 (by rw [List.length_cons] at hlen ⊢; omega) hw rfl
        rw [hmc.1, hmc.2] at hMet
        intro H locs ls hl hJ hS
        obtain ⟨hx, hbb, hml, ho, ht, hV, hZ, hbB, hB, -⟩ := id hF.1
        have hTs : ∀ x ∈ ev_UW, x ∈ ev_wm im M.1 := fun x hx => List.mem_cons_of_mem _ hx
        have hcw9 : ev_wm (pr_I mi) (pr_P mi).1 = Cond.code (pr_I mi).1 (pr_I mi).2.1 (pr_P mi).1 (pr_I mi).2.2.1 :: ev_UW := by
          unfold ev_wm ev_cw
          rw [hhe]
        have hGood : GoodIn (ev_wm im M.1) (ev_wm (pr_I mi) (pr_P mi).1) := ev_good hTs (ev_wm_in hcw)
        have hJk := kW_J hκ.1 hW hb hn hJ
        have hq0 : ev_get (kW S).1 0 = some (kd 0, ((sz 0).toNat, mkR (sz 0).toNat (fun j : Nat => dec (typ (kd 0) j) (sc S 0 j)))) := by
          show ev_get (kCT (sc S)) 0 = _
          rw [kCT_get, if_pos (by decide)]
          rfl
        obtain ⟨-, cell, f1, f2, f3, -⟩ := ev_J_obj hJk hq0 (rr := (RX6, TX6, 7)) (by show vwCl[kd 0]? = _; rw [kd_c0]; rfl)
        have f1 : H[κ.2.2.2.1 + (sb S).toNat]? = some cell := f1
        have f2 : cell.cls = κ.1.1 6 := by
          have f2 : cell.cls = κ.1.1 (kd 0) := f2
          rw [kd_c0] at f2
          exact f2
        have e5 : ev_dn κ.2.2.1 κ.2.2.2.1 κ.2.2.2.2.2.1 (sR (sb S)) = .ref (κ.2.2.2.1 + (sb S).toNat) := dn_w hb (by omega)
        have emap : (sR 0 :: Is.map sI).map (ev_dn (bC κ.2.2.1) (κ.2.2.2.1 + (sb S).toNat) κ.2.2.2.2.2.1) = .ref (κ.2.2.2.1 + (sb S).toNat) :: (Is.map sI).map (ev_dn κ.2.2.1 κ.2.2.2.1 κ.2.2.2.2.2.1) := by
          have ea : ev_dn (bC κ.2.2.1) (κ.2.2.2.1 + (sb S).toNat) κ.2.2.2.2.2.1 (sR 0) = .ref (κ.2.2.2.1 + (sb S).toNat) := by
            rw [sR_pos (Int.le_refl 0)]
            show Value.ref (ev_ad _ _ _) = _
            rw [ev_ad_w (by decide)]
            rfl
          have eb : (Is.map sI).map (ev_dn (bC κ.2.2.1) (κ.2.2.2.1 + (sb S).toNat) κ.2.2.2.2.2.1) = (Is.map sI).map (ev_dn κ.2.2.1 κ.2.2.2.1 κ.2.2.2.2.2.1) := by
            rw [List.map_map, List.map_map]
            exact List.map_congr_left (fun i _ => rfl)
          rw [List.map_cons, ea, eb]
        have hPc : ∀ U : State, U.heap = H → s.WarmedH U.vm → ev_Pc κ.1 κ.2.1 (bC κ.2.2.1) (κ.2.2.2.1 + (sb S).toNat) κ.2.2.2.2.1 κ.2.2.2.2.2.1 pr_S (sR 0 :: Is.map sI) (kW S) (Value.ref (κ.2.2.2.1 + (sb S).toNat) :: (Is.map sI).map (ev_dn κ.2.2.1 κ.2.2.2.1 κ.2.2.2.2.2.1)).toArray U := fun U hU hWm =>
          ⟨by rw [emap], by rw [hU]; exact hJk, by have := ev_VF_warm hWm hV; rw [hκ.1.2.2.2.2.1] at this; exact this, zf_bC (by rw [hκ.1.2.2.1]; omega) (by rw [hU]; exact ev_ZF_to hbB hWm hZ hS), by show κ.2.2.1.1 < _; omega, by rw [hU]; have := hJk.2.1; omega⟩
        have hrunV := vx_runV (R := ev_rm d (sn S' - n0).toNat (ss S' - s0).toNat) (l := κ.2.2.2.2.2.2.1) (e := e) (below := below) (meth := meth) (H := H) (locs := locs) (cells := (cW S (sn S - n0).toNat (ss S - s0).toNat).2.2.2.1) (slots := (cW S (sn S - n0).toNat (ss S - s0).toNat).2.2.2.2) (g := F0 m pc ls (st.map (ev_dn κ.2.2.1 κ.2.2.2.1 κ.2.2.2.2.2.1))) (As := (Is.map sI).map (ev_dn κ.2.2.1 κ.2.2.2.1 κ.2.2.2.2.2.1)) (rest := r.map (ev_dn κ.2.2.1 κ.2.2.2.1 κ.2.2.2.2.2.1)) (b := κ.2.2.2.1 + (sb S).toNat) (C := (pr_I mi).1.cls) (index := ix) (n := n) (bytes := (pr_I mi).2.1) (maxL := (pr_P mi).1) (ret := (pr_I mi).2.2.1) (⟨hx, hbb, hml, ho, ht⟩ : CallFix p9 m c im.2.1 M.1 s args (ev_wm im M.1) im.1.cls) hMet
          ⟨callB_of n ht hGood hcw9 rfl rfl (ht _ (hTs _ hinit)) (ht _ (hTs _ q1)) hnm (call_room hd h51 ⟨Nat.le_refl _, Nat.le_refl _⟩), ht _ (hTs _ q2), ht _ (hTs _ q3)⟩
          ⟨ev_Pc_blind, ⟨cell, f1, by rw [f3]; rfl, by rw [← hcn, f2]; exact (hV.1.1 6 _ rfl).2.1⟩, hPc⟩ rfl (by rw [List.length_map]; rw [List.length_cons] at hlen; omega) hl.1 (by
            show st.map _ = _
            rw [hst, List.map_cons, e5, List.reverse_cons, List.append_assoc]
            rfl) (by show 2 * 0 + _ ≤ 8; have := cs_8 (κ := κ) hcs; omega) dd ⟨by show (sn S - n0).toNat + 0 ≤ (sn S' - n0).toNat; have h9 : sn S ≤ sn S' := h1.1; omega, by show (ss S - s0).toNat + 0 ≤ (ss S' - s0).toNat; have h9 : ss S ≤ ss S' := h1.2.1; omega⟩
        intro T hT X9
        rcases hrunV T hT X9 with ⟨vv, st₀, tt, T', L9, z0, X', hL, z1, z2, ⟨vo, w9, y1, y2, y3, y4⟩, stp⟩ | ⟨qq, st₀, tt, T', L9, E, ce, z0, X', hL, z1, z2, ⟨n9, w9, y1, -⟩, -⟩
        · have hAA : ∀ q, ev_A (bC κ.2.2.1) (κ.2.2.2.1 + (sb S).toNat) q → ev_A κ.2.2.1 κ.2.2.2.1 q := fun q hq => by
            have h2 : q < κ.2.2.2.1 + (sb S).toNat + 624 := hq.2
            exact ⟨by have := hq.1; omega, by rw [hκ.1.2.2.1]; omega⟩
          obtain ⟨k5, k4, k3'⟩ := vx_keep z0 z1 hS (fun q _ h => hAA q h) hAA hL y4
          have y2 := Outcome.returned.inj y2
          have y1 : (Sum.inl (drv t' (f r0).2.1, w') : ev_S) = .inl (vo, w9) := y1
          cases y1
          have hd9 : drv t' (f r0).2.1 = some (sI (f r0).2.1) := by rcases ht' with rfl | rfl <;> rfl
          rw [hd9] at y2
          subst y2
          have hJ1 : cxS κ (cW (cS S (f r0).2.2) 0 0) T'.heap := kW_back hκ.1 hW hb hn g2 (cx_J (c2 := 0) (s2 := 0) hJ) w1 w2 (by rw [z1]; exact y3) k4
          obtain ⟨t2, a1, b1⟩ := go T'.heap (locs ++ L9) ls hl (cx_J hJ1) k3' T' rfl X'
          exact ⟨t2, stp t2 a1, b1⟩
        · cases y1
      · cases hc1
      · exact absurd hn1 hini
    · rw [if_neg hf0] at hX
      cases hX
end G2T
