/-! ===== both readers in step: wills (own work) ===== -/
section PAR13
variable {C C' : gH → (Int → Int) → Prop} {g g' G H K A : gH} {r r' : Int → Int} {a b c d e i j k l m n p q s t u v w x y z S : Int}
theorem rr_will (h : RT (CQ 578) g g' G H) : RR (SE (CQ 578) g g') (fS_takeWill G 575) (bdN (fM_readWill H 624) mt) := by
  obtain ⟨y, L0, e, hL0, fL0⟩ := rt_model h
  rw [fS_takeWill, fM_readWill, e, bdN_s, m0_ hL0.1]
  refine RR_gm (g625 (by omega)) ?_
  rw [bdN_mt]
  refine rr_namedT hL0 (by omega) (by omega) SE_e (fun K L hL bL vL eL oL kJ kF => ?_)
  have hb := RL_M hL.1
  have b1 := pc_b (T := 578) (i := L 632 0) (by omega)
  rw [bdN_mt]
  obtain ⟨v, K2, w, L2, e1, e2, z⟩ := rr_number (a := 0) (b := 7) (Φ := fun v K2 w L2 => (v = 0 ∧ w = 0 ∧ RE g g' K2 L2) ∨ (v = 1 ∧ w = 1 ∧ L2 = L ∧ RT (CQ 578) g g' K2 L ∧ (0 ≤ L 624 17 ∧ L 624 17 ≤ 7) ∧ K2 575 7 = L 624 17 ∧ (L 624 18 = 2 ∧ L 624 15 - L 624 16 ≤ 2))) hL (fun _ _ x => Or.inl ⟨rfl, rfl, x⟩) (fun K2 x1 x2 x3 x6 _ _ => Or.inr ⟨rfl, rfl, rfl, x1, x2, x3, x6⟩)
  rw [e1, e2, bdN_s, bdN_s]
  rcases z with ⟨rfl, rfl, z⟩ | ⟨rfl, rfl, rfl, hK2, b2, v2, n2⟩
  · rw [if_pos rfl, if_pos rfl]
    exact RR_i (SE_e _ _ z)
  have pe := hK2.1.2.2.2.1.2.2.2.2.1 (L2 632 0) (by omega) (by omega)
  rw [if_neg f0, if_neg f0, m20_ hL.1]
  refine RR_gl (kdp T578 (by omega)) (RR_gm (g632 (by omega)) ?_)
  rw [m0_ hL.1, w_460 (by omega) (by omega), fP_willFor, bdP_s]
  refine RR_gm (g625 (by omega)) ?_
  have ew : w32 (gl2i (opL 0 (opS 0 (K2 (pc 578 (L2 632 0)) 14) (opI 0 8 (K2 575 7))) 255) - 1) = L2 625 (460 + 8 * L2 632 0 + L2 624 17) := by
    rw [v2]
    exact pe.2.1 _ b2.1 (by omega)
  rw [ew]
  by_cases c : L2 625 (460 + 8 * L2 632 0 + L2 624 17) = -1
  · rw [if_pos c, if_pos c, bdN_mt]
    obtain ⟨y3, L3, e3, rfl, hL3, s1, s2, s3⟩ := rt_take (k := 1) (a := 0) (b := 7) hK2 (by omega) n2 b2
    rw [e3, bdN_s, if_neg f0, m0_ hL3.1]
    refine RR_gm (g625 (by omega)) ?_
    rw [bdN_mt]
    refine rr_named hL3 (by omega) SE_e (fun K4 hK4 b4 v4 n4 kJ4 kF4 => ?_)
    have q0 : L3 632 0 = L2 632 0 := s3 0 (by omega)
    rw [m20_ hL3.1, q0, m0_ hL3.1]
    refine RR_gm (g632 (by omega)) ?_
    rw [s1] at b4
    by_cases c2 : L3 624 17 = L2 632 0
    · rw [if_pos c2, if_pos (show pc 578 (L3 624 17) = pc 578 (L2 632 0) by rw [c2])]
      exact rr_failm hK4 (by omega) (fun _ => rfl)
    · rw [if_neg c2, if_neg (fun z => c2 (pc_inj (by omega) (by omega) z))]
      refine RR_gm (g625 (by omega)) ?_
      rw [bdN_mt]
      obtain ⟨y5, L5, e5, rfl, hL5, t1, t2, t3⟩ := rt_take (k := 2) (a := 0) (b := w32 (L3 625 0 - 1)) hK4 (by omega) n4 (by rw [s1, w32_r (by omega)]; omega)
      rw [e5, bdN_s, if_neg f0]
      have hI := hL5.1.1
      have hD := hL5.1.2.1
      have ht := CR_T hI.1 T578
      have p0 : L5 632 0 = L2 632 0 := by rw [t3 0 (by omega)]; exact q0
      have p1 : L5 632 1 = L2 624 17 := by rw [t3 1 (by omega)]; exact s2
      have eR : L5 625 = L2 625 := t1.trans s1
      rw [if_pos (kdp T578 (show 0 ≤ L3 624 17 ∧ L3 624 17 < 40 by omega)), fP_addWill, bnd_s, bdN_s, bdN_id, TS_n ht.1 (show 0 ≤ L3 624 17 ∧ L3 624 17 < 40 by omega), v2, m20_ hL5.1, m0_ hL5.1, p0, p1, t2, w_460 (by omega) (by omega)]
      refine RR_gm (g632 (by omega)) (RR_gm (g632 (by omega)) (RR_gm (g632 (by omega)) (RR_gm (g625 (by omega)) ?_)))
      rw [bnd_s, bdN_s]
      have hcp := hL5.1.2.2.2.1.2
      have pe5 := hcp.2.2.2.1 (L2 632 0) (by omega) (by rw [eR]; omega)
      rw [← eR] at b4 hb bL c
      refine rr_semi (RA_up hL5 CF_CQ (RI_w hI (by omega)) (fun x hx => pU_n (by omega)) (RD_row hD (WBF_pl hD.1.2.1 (WB_pl hD.1.2.1.1 (by omega) (fun z => by omega) (fun _ => by omega)) (by omega)) (by omega) (by omega)) (fun x hx => pU_n hx) ?_)
      rw [pU_s]
      obtain ⟨f, ef⟩ := f8 (d := L2 624 17) (by omega)
      refine CQ_wl hcp hb (RL_1 hL5.1) (by omega) (by omega) (fun j j0 j1 => ?_)
      obtain ⟨fj, ej⟩ := f8 ⟨j0, j1⟩
      rw [ej, ef]
      refine wl_add _ f fj _ (by omega) ?_
      rw [← ef, pe5.2.1 _ (by omega) (by omega)]
      exact c
  · rw [if_neg c, if_neg c]
    exact rr_failm hK2 (by omega) (fun _ => rfl)
end PAR13
