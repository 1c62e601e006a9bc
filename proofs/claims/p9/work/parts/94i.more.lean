/-! ===== both readers in step: duties, heirs, the root, refusals (own work) ===== -/
section PAR9
variable {C C' : gH → (Int → Int) → Prop} {g g' G H K A : gH} {r r' : Int → Int} {a b c d e i j k l m n p q s t u v w x y z S : Int}
theorem gw_ {M : gH} (h : RA C g g' K M) (hk : 0 ≤ k ∧ k < 780) : kd (M 624 0) = 20 ∧ (0 : Int) ≤ k ∧ k < sz (M 624 0) := gd_w h.1.2.1.1 hk
theorem gT_ {M : gH} (h : RT C g g' K M) (hk : 0 ≤ k ∧ k < 780) : kd (M 624 0) = 20 ∧ (0 : Int) ≤ k ∧ k < sz (M 624 0) := gd_w h.1.2.1.1 hk
theorem m0_ {M : gH} (h : RLs C g g' K M) : M 624 0 = 625 := h.2.1.1.1.1
theorem m20_ {M : gH} (h : RLs C g g' K M) : M 624 20 = 632 := e20 h.2.1.1
theorem g625 (hk : 0 ≤ k ∧ k < 780) : kd 625 = 20 ∧ (0 : Int) ≤ k ∧ k < sz 625 := by rw [sz_625]; exact ⟨kd_625, hk⟩
theorem g632 (hk : 0 ≤ k ∧ k < 4) : kd 632 = 20 ∧ (0 : Int) ≤ k ∧ k < sz 632 := by rw [sz_632]; exact ⟨kd_632, hk⟩
theorem rr_duty (h : RT (CQ 578) g g' G H) : RR (SE (CQ 578) g g') (fS_takeDuty G 575) (bdN (fM_readDuty H 624) mt) := by
  obtain ⟨y, L0, e, hL0, fL0⟩ := rt_model h
  rw [fS_takeDuty, fM_readDuty, e, bdN_s, bdN_mt]
  refine rr_takes hL0 (by omega) SE_e (fun K L hL bL vL eL _ kJ kF => ?_)
  rw [m0_ hL.1]
  refine RR_gm (g625 (by omega)) ?_
  rw [bdN_mt]
  refine rr_namedT hL (by omega) (by omega) SE_e (fun K2 M hM bM vM eM oM kJ2 kF2 => ?_)
  have hI := hM.1.1
  have hD := hM.1.2.1
  have hb := RL_M hM.1
  have m0 := m0_ hM.1
  have m20 := m20_ hM.1
  rw [← oM 0 (by omega)] at bL vL
  have ht := CR_T hI.1 T578
  rw [if_pos (kd578 hI.1), r578 hI.1, vL, fT_giveDuty, if_neg (show ¬ M 632 0 < 0 by omega), if_pos (show M 632 0 < 8 by omega), if_pos (kdp T578 (show 0 ≤ M 632 1 ∧ M 632 1 < 40 by omega)), TS_2 ht.1, if_pos (show kd (578 + 3) = 20 ∧ (0 : Int) ≤ M 632 0 ∧ M 632 0 < sz (578 + 3) by rw [szT3 T578]; exact ⟨kdT3 T578, by omega, by omega⟩), bnd_s, bdN_s, bdN_id, TS_n ht.1 (show 0 ≤ M 632 1 ∧ M 632 1 < 40 by omega)]
  simp (disch := omega) only [m0, m20, kd_625, sz_625, kd_632, sz_632, w32_r, true_and, le_t, lt_t, and_true, ↓reduceIte, bnd_s, bdN_s]
  refine rr_semi (RA_up hM CF_CQ (RI_w hI (by omega)) (fun x hx => pU_n (by omega)) (RD_row hD (WBF_11 hD.1.2.1 (by omega) (by omega) (hD.2.2.2.2.2 _ (by omega) (by omega))) (by omega) (by omega)) (fun x hx => pU_n hx) ?_)
  rw [pU_s]
  exact CQ_d hM.1.2.2.2.1.2 hb (RL_1 hM.1) (by omega)
theorem rr_heir (h : RT (CQ 578) g g' G H) : RR (SE (CQ 578) g g') (fS_takeHeir G 575) (bdN (fM_readHeir H 624) mt) := by
  obtain ⟨y, L0, e, hL0, fL0⟩ := rt_model h
  rw [fS_takeHeir, fM_readHeir, e, bdN_s, m0_ hL0.1]
  refine RR_gm (g625 (by omega)) ?_
  rw [bdN_mt]
  refine rr_named hL0 (by omega) SE_e (fun K hK bK vK nK kJ kF => ?_)
  have hb := RL_M hK.1
  have hcp := hK.1.2.2.2.1.2
  have pe := hcp.2.2.2.1 (L0 624 17) (by omega) (by omega)
  have b1 := pc_b (T := 578) (i := L0 624 17) (by omega)
  refine RR_gl (kdp T578 (by omega)) ?_
  rw [m0_ hL0.1, w32_r (show -2147483648 ≤ 260 + L0 624 17 ∧ 260 + L0 624 17 < 2147483648 by omega)]
  refine RR_gm (g625 (by omega)) ?_
  by_cases c : L0 625 (260 + L0 624 17) = -1
  · rw [if_pos (show K (pc 578 (L0 624 17)) 7 = -1 by rw [pe.1.2.2.2.2.1]; exact c), if_pos c]
    refine RR_gm (g625 (by omega)) ?_
    rw [bdN_mt]
    obtain ⟨y2, L1, e1, rfl, hL1, r1, r2, r3⟩ := rt_take (k := 0) (a := 1) (b := w32 (L0 625 0 - 1)) hK (by omega) nK (by rw [w32_r (by omega)]; omega)
    rw [e1, bdN_s, if_neg f0, m0_ hL1.1]
    refine RR_gm (g625 (by omega)) ?_
    rw [bdN_mt]
    refine rr_named hL1 (by omega) SE_e (fun K2 hK2 bK2 vK2 nK2 kJ2 kF2 => ?_)
    have b2 := pc_b (T := 578) (i := L1 624 17) (by rw [r1] at bK2; omega)
    rw [m20_ hL1.1, r2, m0_ hL1.1]
    refine RR_gm (g632 (by omega)) ?_
    by_cases c2 : L1 624 17 = L0 624 17
    · rw [if_pos c2, if_pos (show pc 578 (L1 624 17) = pc 578 (L0 624 17) by rw [c2])]
      exact rr_failm hK2 (by omega) (fun _ => rfl)
    · rw [if_neg c2, if_neg (fun z => c2 (pc_inj (by omega) (by omega) z))]
      refine RR_gm (g625 (by omega)) ?_
      rw [bdN_mt]
      obtain ⟨y3, L2, e2, rfl, hL2, s1, s2, s3⟩ := rt_take (k := 1) (a := 0) (b := w32 (L1 625 0 - 1)) hK2 (by omega) nK2 (by rw [r1] at bK2 ⊢; rw [w32_r (by omega)]; omega)
      rw [e2, bdN_s, if_neg f0]
      rw [r1] at bK2
      have hI := hL2.1.1
      have hD := hL2.1.2.1
      have ht := CR_T hI.1 T578
      have q0 : L2 632 0 = L0 624 17 := by rw [s3 0 (by omega)]; exact r2
      have eR : L2 625 0 = L0 625 0 := by rw [s1, r1]
      rw [if_pos (kdp T578 (show 0 ≤ L1 624 17 ∧ L1 624 17 < 40 by omega)), bnd_s, bdN_id, TS_n ht.1 (show 0 ≤ L1 624 17 ∧ L1 624 17 < 40 by omega), m20_ hL2.1, m0_ hL2.1, q0, s2, w32_r (show -2147483648 ≤ 260 + L0 624 17 ∧ 260 + L0 624 17 < 2147483648 by omega)]
      refine RR_gm (g632 (by omega)) (RR_gm (g632 (by omega)) (RR_gm (g625 (by omega)) ?_))
      rw [bnd_s, bdN_s]
      refine rr_semi (RA_up hL2 CF_CQ (RI_w hI (by omega)) (fun x hx => pU_n (by omega)) (RD_row hD (WBF_pl hD.1.2.1 (WB_pl hD.1.2.1.1 (by omega) (fun z => by omega) (fun _ => by omega)) (by omega)) (by omega) (by omega)) (fun x hx => pU_n hx) ?_)
      rw [pU_s]
      exact CQ_pf hL2.1.2.2.2.1.2 (RL_M hL2.1) (RL_1 hL2.1) (by omega) (by omega)
  · rw [if_neg (show ¬ K (pc 578 (L0 624 17)) 7 = -1 by rw [pe.1.2.2.2.2.1]; exact c), if_neg c]
    exact rr_failm hK (by omega) (fun _ => rfl)
theorem CF_cap : CF (fun G r => CQ 578 G (u1 r 100 v)) := fun G H r h hr e => CQ_eq h (by rw [u1_n (by omega)]; exact hr) (fun x x0 x1 => e x x0 (by omega))
theorem rr_root (h : RT (CQ 578) g g' G H) : RR (SE (CQ 578) g g') (fS_takeRoot G 575) (bdN (fM_readRoot H 624) mt) := by
  rw [fS_takeRoot, fM_readRoot, bdN_mt]
  refine rr_once h (Or.inr (Or.inr ⟨rfl, rfl⟩)) SE_e (fun L hL eL => ?_)
  rw [bdN_mt]
  refine rr_takes hL (by omega) SE_e (fun K M hM bM vM eM _ kJ kF => ?_)
  have hI := hM.1.1
  have hb := RL_M hM.1
  have hw := hM.1.2.1.1.2.1
  have ht := CR_T hI.1 T578
  have k0 : kd (578 + 1) = 3 := by rw [← pc_0]; exact kdp T578 (by omega)
  rw [if_pos (kd578 hI.1), r578 hI.1, TS_0 ht.1, if_pos k0, bnd_s, vM, bdN_mt]
  have hM2 : RA (fun G r => CQ 578 G (u1 r 100 (M 632 0))) g g' (pU K (578 + 1) 4 (M 632 0)) M := RA_up hM CF_cap (RI_w hI (by omega)) (fun x hx => pU_n (by omega)) hM.1.2.1 (fun _ _ => rfl) (CQ_p0 hM.1.2.2.2.1.2 ⟨hw.1.1.1, hb.2⟩ (RL_1 hM.1) (by omega))
  refine rr_takes hM2 (by omega) SE_e (fun K2 M2 hN bN vN eN oN kJ2 kF2 => ?_)
  have hI2 := hN.1.1
  have hD2 := hN.1.2.1
  have hb2 := RL_M hN.1
  have hw2 := hN.1.2.1.1.2.1
  have ht2 := CR_T hI2.1 T578
  have hc2 : CQ 578 K2 (u1 (M2 625) 100 (M 632 0)) := hN.1.2.2.2.1.2
  rw [← oN 0 (by omega)] at bM hc2
  rw [if_pos (kd578 hI2.1), r578 hI2.1, TS_0 ht2.1, if_pos k0, bnd_s, vN, bdN_id]
  have j0 := m0_ hN.1
  have j20 := m20_ hN.1
  have r1 := RD_row (k := 100) (v := M2 632 0) hD2 (WBF_pl hD2.1.2.1 (WB_pl hD2.1.2.1.1 (by omega) (fun _ => bM) (fun z => by omega)) (by omega)) (by omega) (by omega)
  have q0 := r1.1.1.1
  have q20 : pU M2 625 100 (M2 632 0) 624 20 = 632 := e20 r1.1
  have q32 : pU M2 625 100 (M2 632 0) 632 = M2 632 := pU_n (by omega)
  have q25 : pU M2 625 100 (M2 632 0) 625 = u1 (M2 625) 100 (M2 632 0) := pU_s
  have qx : ∀ x, ¬ x = 625 → pU M2 625 100 (M2 632 0) x = M2 x := fun x hx => pU_n hx
  simp (disch := omega) only [j0, j20, kd_625, sz_625, kd_632, sz_632, true_and, le_t, lt_t, and_true, ↓reduceIte, bnd_s]
  generalize pU M2 625 100 (M2 632 0) = Q at *
  simp (disch := omega) only [q0, q20, kd_625, sz_625, kd_632, sz_632, true_and, le_t, lt_t, and_true, ↓reduceIte, bnd_s, bdN_s]
  rw [q32]
  refine rr_semi (RA_up hN CF_CQ (RI_w hI2 (by omega)) (fun x hx => pU_n (by omega)) (RD_row r1 (WBF_220 r1.1.2.1 bN) (by omega) (by omega)) (fun x hx => by rw [pU_n hx]; exact qx x hx) ?_)
  rw [pU_s, q25]
  exact CQ_p0 hc2 (by rw [u1_n (by omega)]; exact ⟨hw2.1.1.1, hb2.2⟩) (by rw [u1_n (by omega)]; exact RL_1 hN.1) (by omega)
theorem bit1 (x : Int) : opI 1 x 1 = 0 ∨ opI 1 x 1 = 1 := by
  have e : (toI x &&& toI 1).toBitVec = (toI x).toBitVec &&& 1#32 := rfl
  have h : ((toI x).toBitVec &&& 1#32).toNat = (toI x).toBitVec.toNat % 2 := by
    rw [BitVec.toNat_and]
    exact Nat.and_one_is_mod _
  have e2 : opI 1 x 1 = ((toI x).toBitVec &&& 1#32).toInt := rfl
  rw [e2, BitVec.toInt_eq_toNat_cond, h]
  split <;> omega
theorem rr_refusal (h : RT (CQ 578) g g' G H) : RR (SE (CQ 578) g g') (fS_takeRefusal G 575) (bdN (fM_readRefusal H 624) mt) := by
  obtain ⟨y, L0, e, hL0, fL0⟩ := rt_model h
  rw [fS_takeRefusal, fM_readRefusal, e, bdN_s, m0_ hL0.1]
  refine RR_gm (g625 (by omega)) ?_
  rw [bdN_mt]
  refine rr_namedT hL0 (by omega) (by omega) SE_e (fun K L hL bL vL eL oL kJ kF => ?_)
  have hb := RL_M hL.1
  have b1 := pc_b (T := 578) (i := L 632 0) (by omega)
  rw [bdN_mt]
  obtain ⟨v, K2, w, L2, e1, e2, z⟩ := rr_number (a := 0) (b := 9) (Φ := fun v K2 w L2 => (v = 0 ∧ w = 0 ∧ RE g g' K2 L2) ∨ (v = 1 ∧ w = 1 ∧ L2 = L ∧ RT (CQ 578) g g' K2 L ∧ (0 ≤ L 624 17 ∧ L 624 17 ≤ 9) ∧ K2 575 7 = L 624 17 ∧ (L 624 18 = 2 ∧ L 624 15 - L 624 16 ≤ 2))) hL (fun _ _ x => Or.inl ⟨rfl, rfl, x⟩) (fun K2 x1 x2 x3 x6 _ _ => Or.inr ⟨rfl, rfl, rfl, x1, x2, x3, x6⟩)
  rw [e1, e2, bdN_s, bdN_s]
  rcases z with ⟨rfl, rfl, z⟩ | ⟨rfl, rfl, rfl, hK2, b2, v2, n2⟩
  · rw [if_pos rfl, if_pos rfl]
    exact RR_i (SE_e _ _ z)
  · have pe := hK2.1.2.2.2.1.2.2.2.2.1 (L2 632 0) (by omega) (by omega)
    rw [if_neg f0, if_neg f0, m20_ hL.1]
    refine RR_gl (kdp T578 (by omega)) (RR_gm (g632 (by omega)) ?_)
    rw [vM_refuses hL.1.2.1.1.1 (by omega), bdP_s, fP_refuses, v2, pe.1.2.2.2.2.2.1]
    have hbit := bit1 (opI 5 (L2 625 (340 + L2 632 0)) (L2 624 17))
    by_cases c : opI 1 (opI 5 (L2 625 (340 + L2 632 0)) (L2 624 17)) 1 = 1
    · rw [if_pos (show rfs (L2 625) (L2 632 0) (L2 624 17) = true from decide_eq_true c), if_neg f0, if_neg (show ¬ opI 1 (opI 5 (L2 625 (340 + L2 632 0)) (L2 624 17)) 1 = 0 by omega), bdP_s, if_neg f0]
      exact rr_failm hK2 (by omega) (fun _ => rfl)
    · rw [if_neg (show ¬ rfs (L2 625) (L2 632 0) (L2 624 17) = true from fun z => c (of_decide_eq_true z)), if_pos (show (0 : Int) = 0 from rfl), if_pos (show opI 1 (opI 5 (L2 625 (340 + L2 632 0)) (L2 624 17)) 1 = 0 by omega), bdP_s, if_pos (show (0 : Int) = 0 from rfl)]
      rw [bdN_mt]
      obtain ⟨y3, L3, e3, rfl, hL3, s1, s2, s3⟩ := rt_take (k := 1) (a := 0) (b := 9) hK2 (by omega) n2 b2
      rw [e3, bdN_s, if_neg f0]
      have hI := hL3.1.1
      have hD := hL3.1.2.1
      have q0 : L3 632 0 = L2 632 0 := s3 0 (by omega)
      rw [bnd_s, bdN_id, m20_ hL3.1, m0_ hL3.1, q0, s2, s1, w32_r (show -2147483648 ≤ 340 + L2 632 0 ∧ 340 + L2 632 0 < 2147483648 by omega)]
      refine RR_gm (g632 (by omega)) (RR_gm (g625 (by omega)) (RR_gm (g632 (by omega)) (RR_gm (g625 (by omega)) ?_)))
      rw [bnd_s, bdN_s]
      rw [← s1] at bL
      have hb3 := RL_M hL3.1
      refine rr_semi (RA_up hL3 CF_CQ (RI_w hI (by omega)) (fun x hx => pU_n (by omega)) (RD_row hD (WBF_340 hD.1.2.1 (by omega)) (by omega) (by omega)) (fun x hx => pU_n hx) ?_)
      rw [pU_s]
      exact CQ_pf hL3.1.2.2.2.1.2 (RL_M hL3.1) (RL_1 hL3.1) (by omega) (by omega)
end PAR9
