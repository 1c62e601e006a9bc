/-! ===== the law's layer: new OrphanTree() as three instructions at once (own work) ===== -/
def ct_L : List ev_V := [vN, vN, vN, vN, vN, vN, (vI 0)]
theorem ctor_nn (own : String) (ix : Nat) (host : String) : Cond.methodLinkNest own ix (pr_I 0).1 host ∉ lw_tbl := by
  have h : lw_tbl.all (fun w => match w with
    | .methodLinkNest _ _ x _ => decide (x ≠ (pr_I 0).1)
    | _ => true) = true := by decide +kernel
  intro hm
  have := List.all_eq_true.mp h _ hm
  exact absurd rfl (of_decide_eq_true this)
section G2C
variable {κ : CX} {im : ev_Im} {M : ev_M} {t d : Nat} {n0 s0 : Int} {X : Option (Int × sS)} {pc nx : Nat} {loc : ev_L} {S : sS} {a b c' : Nat} {tg : List Nat} {p v : Int}
theorem cC_mS_in {i : Nat} (h0 : 0 ≤ sn S) (hi : i < 624) : cC (mS S) ((sn S).toNat + i) = (kd i, ((sz i).toNat, mkR (sz i).toNat (fun j : Nat => decB (sn S) (typ (kd i) j) (g0 i j)))) := by
  have e : (((sn S).toNat + i : Nat) : Int) - sn S = i := by omega
  have e1 : sK (mS S) (((sn S).toNat + i : Nat) : Int) = 98 := by rw [sK_mS, if_pos (by omega)]
  unfold cC
  rw [sn_mS, if_pos (by omega), if_pos e1, sb_mS, sc_mS, e]
theorem cC_mS_out {i : Nat} (hb : sb S = -1) (hF : SF S) (hi : (i : Int) < sn S) : cC (mS S) i = cC S i := by
  have h98 : ¬ sK S i = 98 := fun h98 => by
    rcases hF.2.1 i (by omega) hi with ⟨-, k2, k3, k4⟩ | ⟨k1, -⟩ | ⟨⟨k1, -⟩, -⟩
    · omega
    · omega
    · rw [h98] at k1
      rcases k1 with k | k | k | k | k | k | k <;> omega
  have e1 : sK (mS S) i = sK S i := by rw [sK_mS, if_neg (by omega)]
  unfold cC
  rw [sn_mS, if_pos (by omega), if_pos hi, e1, if_neg h98, if_neg h98]
  rfl
theorem g2_ctor {K : Int → sS → Option (Int × sS)} {nx2 nx3 a2 b2 c2 mi : Nat} (hmi : mi = 0) {tg2 tg3 : List Nat} (hc : M.2.2.2.2 pc = (33, (nx, (6, (7, (c', tg)))))) (hc2 : M.2.2.2.2 nx = (21, (nx2, (a2, (b2, (c2, tg2)))))) (hc3 : M.2.2.2.2 nx2 = (35, (nx3, (mi, (1, (7, tg3)))))) (hW : WF2 κ S) (hd : 21 ≤ d) (htg : tg.map ev_dv = ct_L) (hdec : ∃ ix, decode im.2.1 nx2 = .ok (.invokespecial ix, 3))
    (kk : ∀ p S1, (0 ≤ p ∧ p < 1000000) → WF2 κ S1 → EXT S S1 → G2 κ im M t d n0 s0 (K p S1) nx3 loc [sR p] S1) : G2 κ im M t d n0 s0 (if sb S = -1 ∧ sn S + 624 ≤ 1000000 then bnd (sn S) fun p => bnd (mS S) (K p) else none) pc loc [] S := by
  refine g2_ck fun hk => ?_
  obtain ⟨hb, h6⟩ := hk
  have h0 : 0 ≤ sn S := hW.2.1.1
  have hW2 := wf_mS hW hb h6
  have hE2 := ext_mS hW.2.1 h6
  intro v S' hX
  obtain ⟨h1, h2, h3⟩ := kk (sn S) (mS S) ⟨h0, by omega⟩ hW2 hE2 v S' hX
  have m1 : sn S + 624 ≤ sn S' := h1.1
  have m2 : ss S + 10117 ≤ ss S' := h1.2.1
  refine ⟨⟨by omega, by omega, ext_t hE2 h1.2.2⟩, h2, fun k1 k2 k3 p9 e s m args below meth c hκ hF hE => ?_⟩
  have go := h3 (by rw [sn_mS]; omega) (by rw [ss_mS]; omega) k3 p9 e s m args below meth c hκ hF hE
  have hok1 := hE pc
  rw [hc] at hok1
  have hok2 := hE nx
  rw [hc2] at hok2
  have hok3 := hE nx2
  rw [hc3] at hok3
  obtain ⟨u, hu, -⟩ := (ws_c (S := S) (c := (sn S - n0).toNat) (s := (ss S - s0).toNat)).1 (sn S).toNat (by omega)
  obtain ⟨x, x1, x2⟩ := gb_sto (v := ((6, (7, [ev_ch8 ct_L])) : ev_C)) hu
  refine ev_one (M := (M.1, ((sn S' - n0).toNat, ((ss S' - s0).toNat, M.2.2.2)))) (Φ := κ.2.2.2.2.2.2.2.2.1) (k := kG (cxG κ p9 e (ev_rm d (sn S' - n0).toNat (ss S' - s0).toNat) s m args below meth c (MQ below (QG κ t v S') args s (sn S' - n0).toNat (ss S' - s0).toNat (ev_A κ.2.2.1 κ.2.2.2.1)) M.1)) (cl := fun _ _ _ => none) (r := ev_r0) (y := im.1) (ret := im.2.2.1) hκ.1.1 hκ.1.2.1 hF.1 hF.2.1 ⟨Nat.le_refl _, Nat.le_refl _⟩ ⟨by show 1 ≤ 10 + d; omega, by show 100 ≤ 100 + 70 * d; omega⟩ kG_o (show (33 : Nat) ∈ ev_op1 by decide) (hok1.1 (show (33 : Nat) ∈ ev_op1 by decide)) ?_
  show ev_if (ev_may (M.1, ((sn S' - n0).toNat, ((ss S' - s0).toNat, M.2.2.2))) (cW S (sn S - n0).toNat (ss S - s0).toNat) 1 7) (ev_mk (cW S (sn S - n0).toNat (ss S - s0).toNat) (6, (7, [ev_ch8 (tg.map ev_dv)])) 7 (fun w => kG (cxG κ p9 e (ev_rm d (sn S' - n0).toNat (ss S' - s0).toNat) s m args below meth c (MQ below (QG κ t v S') args s (sn S' - n0).toNat (ss S' - s0).toNat (ev_A κ.2.2.1 κ.2.2.2.1)) M.1) nx loc [.inr (.inl (some (sn S).toNat))] w)) none = some ev_r0
  rw [gh_may (c := (sn S - n0).toNat) (s := (ss S - s0).toNat) rfl ⟨by show _ ≤ (sn S' - n0).toNat; omega, by show _ ≤ (ss S' - s0).toNat; omega⟩, ev_if_t, htg]
  unfold ev_mk
  rw [show (cW S (sn S - n0).toNat (ss S - s0).toNat).2.2.1 = true from rfl, ev_if_t, show (cW S (sn S - n0).toNat (ss S - s0).toNat).2.1 = (sn S).toNat from rfl, x1]
  refine kG_t ?_
  intro H locs ls hl hJ hS
  obtain ⟨hx, hbb, hml, ho, ht, hV, hZ, hbB, hB, -⟩ := id hF.1
  obtain ⟨d2, e2⟩ := hok2.1 (show (21 : Nat) ∈ ev_op1 by decide)
  dsimp only at d2 e2
  subst e2
  have hok3 := hok3.2.1 (show mi < 92 by omega)
  dsimp only at hok3
  unfold ev_i_call at hok3
  obtain ⟨ix, n, e1, -, h51, hbn, hcw, hinit, hnm, -, ⟨dd, hb1, ⟨ci2, rr9, hc1, hci, hcn⟩, hhe, q1, q2, q3⟩ | ⟨dd, hb1, hc1, -⟩ | ⟨dd, hb1, ⟨ci2, rr9, hc1, hci⟩, hhe, hn1, hn2, w2, w1⟩⟩ := hok3
  · obtain ⟨ix9, hdec⟩ := hdec
    rw [dd] at hdec
    cases hdec
  · cases hc1
  · subst e1
    have hTs : ∀ x ∈ ev_UW, x ∈ ev_wm im M.1 := fun x hx => List.mem_cons_of_mem _ hx
    have hcw9 : ev_wm (pr_I mi) (pr_P mi).1 = Cond.code (pr_I mi).1 (pr_I mi).2.1 (pr_P mi).1 none :: ev_UW := by
      unfold ev_wm ev_cw
      rw [hhe, ← hn2]
    have hGood : GoodIn (ev_wm im M.1) (ev_wm (pr_I mi) (pr_P mi).1) := ev_good hTs (ev_wm_in hcw)
    have hz0 : H.size = κ.2.2.2.1 + ((sn S).toNat + 1) := hJ.2.2 rfl
    have hMet : vx_Met κ.2.2.2.2.2.2.1 (pr_I mi).1 (ev_wm (pr_I mi) (pr_P mi).1) (ev_rm 20 623 10110) (ev_Pc κ.1 κ.2.1 (bC κ.2.2.1) (κ.2.2.2.1 + (sn S).toNat) κ.2.2.2.2.1 κ.2.2.2.2.2.1 pr_S [sR 0] pr_w0) (ev_Qc κ.1 κ.2.1 (bC κ.2.2.1) (κ.2.2.2.1 + (sn S).toNat) κ.2.2.2.2.2.1 (.inl (none, pr_W1))) (ev_Xc κ.1 κ.2.1 (bC κ.2.2.1) (κ.2.2.2.1 + (sn S).toNat) κ.2.2.2.2.2.1 (.inl (none, pr_W1))) 623 10110 (ev_A (bC κ.2.2.1) (κ.2.2.2.1 + (sn S).toNat)) := by
      subst hmi
      exact ev_met (D := κ.1) (aC := κ.2.1) (b := bC κ.2.2.1) (B0 := κ.2.2.2.1 + (sn S).toNat) (L := κ.2.2.2.2.1) (σ := κ.2.2.2.2.2.1) (l := κ.2.2.2.2.2.2.1) (I := pr_I) (P := pr_P) (Sg := pr_S) (Φ := (5001, [])) (n := 10000) (ev_main pr_all hκ.1.2.2.2.1 hκ.1.2.2.2.2.2 (fun i => ⟨Nat.zero_le _, ev_bb_max _⟩) (fun z => absurd z (by decide)) 10000) pr_all hκ.1.2.2.2.1 (i := 0) (d := 20) (As := [sR 0]) (w := pr_w0) pr_start (by decide) rfl rfl
    have hJ0 : ev_J κ.1 κ.2.1 (bC κ.2.2.1) (κ.2.2.2.1 + (sn S).toNat) κ.2.2.2.2.2.1 pr_w0 H := by
      refine ⟨fun i q hq => ?_, ?_, fun _ => ?_⟩
      · rw [w0_get] at hq
        by_cases hi : i < 624
        · rw [if_pos hi] at hq
          have hq := Option.some.inj hq
          refine ⟨⟨by omega, hi⟩, ?_⟩
          by_cases hi0 : i = 0
          · rw [if_pos hi0] at hq
            subst hq
            subst hi0
            have hold : ev_get x (sn S).toNat = some ((6, (7, [ev_ch8 ct_L])) : ev_C) := by rw [x2, if_pos rfl]
            have h9 := (hJ.1 _ _ hold).2
            refine ev_at_cv h9 rfl rfl (fun j hj => ?_) (fun r hr => ?_)
            · have hj : j < 7 := hj
              dsimp only
              unfold ev_fv
              have hjj : j = 0 ∨ j = 1 ∨ j = 2 ∨ j = 3 ∨ j = 4 ∨ j = 5 ∨ j = 6 := by omega
              rcases hjj with rfl | rfl | rfl | rfl | rfl | rfl | rfl <;> rfl
            · cases hr
              exact Nat.le_refl _
          · rw [if_neg hi0] at hq
            subst hq
            exact Or.inl rfl
        · rw [if_neg hi] at hq
          cases hq
      · show κ.2.2.2.1 + (sn S).toNat + 1 ≤ H.size
        omega
      · show H.size = κ.2.2.2.1 + (sn S).toNat + 1
        omega
    have hold : ev_get x (sn S).toNat = some ((6, (7, [ev_ch8 ct_L])) : ev_C) := by rw [x2, if_pos rfl]
    have e5 : ev_dn κ.2.2.1 κ.2.2.2.1 κ.2.2.2.2.2.1 (.inr (.inl (some (sn S).toNat))) = .ref (κ.2.2.2.1 + (sn S).toNat) := by
      show Value.ref _ = _
      rw [ev_ad_w (by omega)]
    have hPc : ∀ U : State, U.heap = H → s.WarmedH U.vm → ev_Pc κ.1 κ.2.1 (bC κ.2.2.1) (κ.2.2.2.1 + (sn S).toNat) κ.2.2.2.2.1 κ.2.2.2.2.2.1 pr_S [sR 0] pr_w0 (Value.ref (κ.2.2.2.1 + (sn S).toNat) :: []).toArray U := fun U hU hWm =>
      ⟨by rw [List.map_cons, List.map_nil, sR_pos (Int.le_refl 0)]; show _ = (Value.ref (ev_ad _ _ _) :: []).toArray; rw [ev_ad_w (by decide)]; rfl, by rw [hU]; exact hJ0, by have := ev_VF_warm hWm hV; rw [hκ.1.2.2.2.2.1] at this; exact this, zf_bC (S := mS S) (by rw [hκ.1.2.2.1, sb_mS]; omega) (by rw [hU]; exact ev_ZF_to hbB hWm hZ hS), by show κ.2.2.1.1 < _; omega, by rw [hU]; omega⟩
    rw [List.map_cons, List.map_nil, e5]
    refine lv_dup hx hbb d2 rfl ?_
    have hrunI := vx_runI (R := ev_rm d (sn S' - n0).toNat (ss S' - s0).toNat) (l := κ.2.2.2.2.2.2.1) (e := e) (below := below) (meth := meth) (H := H) (locs := locs) (cells := (sn S - n0).toNat + 1) (slots := (ss S - s0).toNat + 7) (g := F0 m (nx + 1) ls [.ref (κ.2.2.2.1 + (sn S).toNat), .ref (κ.2.2.2.1 + (sn S).toNat)]) (As := []) (rest := [.ref (κ.2.2.2.1 + (sn S).toNat)]) (b := κ.2.2.2.1 + (sn S).toNat) (index := ix) (n := n) (bytes := (pr_I mi).2.1) (maxL := (pr_P mi).1) (⟨hx, hbb, hml, ho, ht⟩ : CallFix p9 m c im.2.1 M.1 s args (ev_wm im M.1) im.1.cls) hMet
      ⟨callB_of n ht hGood hcw9 rfl rfl (ht _ (hTs _ hinit)) (ht _ (hTs _ (w1.elim id (fun ⟨host, h⟩ => absurd h (by subst hmi; exact ctor_nn _ _ _)))) ) hnm ⟨by show 10 + 20 + 1 ≤ 10 + d; omega, by show 8 + ((pr_P mi).1 + 11) + (100 + 70 * 20) ≤ 100 + 70 * d; omega⟩, hn1, ht _ (hTs _ w2)⟩
      ⟨ev_Pc_blind, hPc⟩ rfl (by show 0 = n; omega) hl.1 rfl (by show 2 * 0 + 1 ≤ 8; omega) dd ⟨by show (sn S - n0).toNat + 1 + 623 ≤ (sn S' - n0).toNat; omega, by show (ss S - s0).toNat + 7 + 10110 ≤ (ss S' - s0).toNat; omega⟩
    intro T hT X9
    rcases hrunI T hT X9 with ⟨vv, st₀, tt, T', L9, z0, X', hL, z1, z2, ⟨vo, w9, y1, y2, y3, y4⟩, stp⟩ | ⟨qq, st₀, tt, T', L9, E, ce, z0, X', hL, z1, z2, ⟨n9, w9, y1, -⟩, -⟩
    · have hAA : ∀ q, ev_A (bC κ.2.2.1) (κ.2.2.2.1 + (sn S).toNat) q → ev_A κ.2.2.1 κ.2.2.2.1 q := fun q hq => by
        have h2 : q < κ.2.2.2.1 + (sn S).toNat + 624 := hq.2
        exact ⟨by have := hq.1; omega, by rw [hκ.1.2.2.1]; omega⟩
      obtain ⟨k5, k4, k3'⟩ := vx_keep z0 z1 hS (fun q _ h => hAA q h) hAA hL y4
      have y2 := Outcome.returned.inj y2
      cases y1
      subst y2
      have hz1 : T'.heap.size = κ.2.2.2.1 + (sn S).toNat + 624 := by
        have := y3.2.2 rfl
        rw [z1]
        exact this
      have hJ1 : cxS κ (cW (mS S) 0 0) T'.heap := by
        refine ⟨fun i q hq => ?_, ?_, fun _ => ?_⟩
        · have hq : ev_get (cT (mS S)) i = some q := hq
          rw [cT_get] at hq
          by_cases hi : i < 1000000
          · rw [if_pos hi] at hq
            cases hq
            refine ⟨⟨hi, by rw [hκ.1.2.2.1]; exact hi⟩, ?_⟩
            by_cases hr : (sn S).toNat ≤ i ∧ i < (sn S).toNat + 624
            · obtain ⟨i9, rfl⟩ : ∃ i9, i = (sn S).toNat + i9 := ⟨i - (sn S).toNat, by omega⟩
              have hi9 : i9 < 624 := by omega
              obtain ⟨q9, u1, u2, u3, u4⟩ := g0_W i9 hi9
              have h9 := (y3.1 _ _ u1).2
              rw [Nat.add_assoc, ← z1] at h9
              rw [cC_mS_in h0 hi9]
              refine ev_at_cv h9 u2.symm ?_ (fun j hj => ?_) (fun rr hrr => ?_)
              · show (sz i9).toNat = q9.2.1
                omega
              · have hj2 : j < (sz i9).toNat := by omega
                dsimp only
                unfold ev_fv
                rw [mkR_get, if_pos (by omega), u4 j (by omega)]
                exact dn_B (S := mS S) h0 (by rw [sb_mS]; omega) (g0_H i9 j (by omega))
              · rw [u2] at hrr
                have hs := (sz_bd i9).1
                have hk9 := kd_rg (i9 : Int) (by omega) (by omega)
                rcases hk9 with h5 | h5 | h5 | h5 | h5
                · rw [sz_vw _ h5 rr hrr]
                  have := sz_of (p := (i9 : Int)) rfl (by omega)
                  omega
                · rw [h5] at hrr; cases hrr
                · rw [h5] at hrr; cases hrr
                · rw [h5] at hrr; cases hrr
                · rw [h5] at hrr; cases hrr
            · by_cases hlt : (i : Int) < sn S
              · rw [cC_mS_out hb hW.2.1 hlt]
                have hold9 : ev_get x i = some (cC S i) := by
                  rw [x2, if_neg (by omega)]
                  show ev_get (cT S) _ = _
                  rw [cT_get, if_pos hi]
                exact (hJ.1 _ _ hold9).2.kept (k4 _ (by omega) (fun z => by have z1 := z.1; omega))
              · refine Or.inl ?_
                unfold cC
                rw [sn_mS, if_neg (by omega)]
          · rw [if_neg hi] at hq
            cases hq
        · show κ.2.2.2.1 + (sn S + 624).toNat ≤ T'.heap.size
          omega
        · show T'.heap.size = κ.2.2.2.1 + (sn S + 624).toNat
          omega
      have X2 : Stand p9 κ.2.2.2.2.2.2.1 e (ev_rm d (sn S' - n0).toNat (ss S' - s0).toNat) s m args below meth c T' (locs ++ L9) (sn (mS S) - n0).toNat (ss (mS S) - s0).toNat := by
        rw [show (sn (mS S) - n0).toNat = (sn S - n0).toNat + 1 + 623 by rw [sn_mS]; omega, show (ss (mS S) - s0).toNat = (ss S - s0).toNat + 7 + 10110 by rw [ss_mS]; omega]
        exact X'
      have go2 := go T'.heap (locs ++ L9) ls hl (cx_J hJ1) k3'
      rw [List.map_cons, List.map_nil, dn_w h0 (by omega)] at go2
      obtain ⟨t2, a1, b1⟩ := go2 T' rfl X2
      exact ⟨t2, stp t2 a1, b1⟩
    · cases y1
end G2C
