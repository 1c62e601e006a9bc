/-! ===== both readers in step: processes (own work) ===== -/
section PAR10
variable {C C' : gH → (Int → Int) → Prop} {g g' G H K A : gH} {r r' : Int → Int} {a b c d e i j k l m n p q s t u v w x y z S : Int}
theorem vP_room (h : PE (G c) r i) (hc : 0 ≤ r (100 + i) ∧ r (100 + i) ≤ 9) : fP_room G c = some (room r i) := by
  obtain ⟨⟨a1, a2, -⟩, -, w2, -⟩ := h
  have kb : 0 ≤ kids r i 0 := (cn_bd _ _ _).1
  rw [fP_room, a1, a2, w2]
  unfold room gmax
  by_cases c1 : r (140 + i) = 0
  · rw [if_pos c1, if_pos c1]
    by_cases c2 : kids r i 0 < r (100 + i)
    · rw [if_pos c2, if_pos (by omega), w32_r (by omega)]
    · rw [if_neg c2, if_neg (by omega)]
  · rw [if_neg c1, if_neg c1]
theorem rr_process (h : RT (CQ 578) g g' G H) : RR (SE (CQ 578) g g') (fS_takeProcess G 575) (bdN (fM_readProcess H 624) mt) := by
  have hcp := h.1.2.2.2.1.2
  rw [fS_takeProcess, fM_readProcess, if_pos (kd578 h.1.1.1), r578 h.1.1.1, hcp.1.1, m0_ h.1]
  refine RR_gm (g625 (by omega)) ?_
  by_cases c : 24 < H 625 0
  · rw [if_pos c, if_pos c]
    exact rr_failm h (by omega) (fun _ => rfl)
  rw [if_neg c, if_neg c]
  obtain ⟨y, L0, e, hL0, fL0⟩ := rt_model h
  have eR : L0 625 = H 625 := fL0.1 625 (by omega)
  rw [e, bdN_s, m0_ hL0.1]
  refine RR_gm (g625 (by omega)) ?_
  rw [bdN_mt]
  refine rr_named hL0 (by omega) SE_e (fun K hK bK vK nK kJ kF => ?_)
  have hb := RL_M hK.1
  have hw := hK.1.2.1.1.2.1
  have pe := hK.1.2.2.2.1.2.2.2.2.1 (L0 624 17) (by omega) (by omega)
  refine RR_gl (kdp T578 (by omega)) ?_
  rw [vM_roomOf hK.1.2.1.1.1 hw.1 (by omega), bdP_s, vP_room pe (hw.1.2.2.2.2.2.2 _ (by omega) (by omega)), bdP_s]
  by_cases c2 : room (L0 625) (L0 624 17) = 0
  · rw [if_pos c2, if_pos c2]
    exact rr_failm hK (by omega) (fun _ => rfl)
  rw [if_neg c2, if_neg c2, m0_ hL0.1]
  refine RR_gm (g625 (by omega)) ?_
  rw [bdN_mt]
  obtain ⟨y1, L1, e1, rfl, hL1, r1, r2, r3⟩ := rt_take (k := 0) (a := 0) (b := w32 (L0 625 0 - 1)) hK (by omega) nK (by rw [w32_r (by omega)]; omega)
  rw [e1, bdN_s, if_neg f0, bdN_mt]
  refine rr_takes hL1 (by omega) SE_e (fun K1 M1 hM1 b1 v1 e1 o1 _ _ => ?_)
  rw [bdN_mt]
  refine rr_takes hM1 (by omega) SE_e (fun K2 M2 hM2 b2 v2 e2 o2 _ _ => ?_)
  rw [bdN_mt]
  refine rr_takes hM2 (by omega) SE_e (fun K3 M3 hM3 b3 v3 e3 o3 _ _ => ?_)
  have q0 : M3 632 0 = L0 624 17 := by rw [o3 0 (by omega), o2 0 (by omega), o1 0 (by omega)]; exact r2
  have q1 : M3 632 1 = K1 575 7 := by rw [o3 1 (by omega), o2 1 (by omega)]; exact v1.symm
  have q2 : M3 632 2 = K2 575 7 := by rw [o3 2 (by omega)]; exact v2.symm
  have eR3 : M3 625 = L0 625 := by rw [e3, e2, e1, r1]
  have bb1 : 0 ≤ M3 632 1 ∧ M3 632 1 ≤ 9 := by rw [q1, v1]; exact b1
  rw [← eR3] at bK
  rw [← q0] at bK
  have hI := hM3.1.1
  have hD := hM3.1.2.1
  have hcp3 := hM3.1.2.2.2.1.2
  have h24 : M3 625 0 ≤ 24 := by rw [eR3, eR]; omega
  have hw3 := hD.1.2.1
  have k5 : K3 578 5 = M3 625 0 := hcp3.1.1
  have bj := pc_b (T := 578) (i := M3 632 0) (by omega)
  have hst := hD.2.2.2.2.2
  obtain ⟨A, eA, iA, a1, a2, a3, a4, a5, a6, a7⟩ := vT_arrive (a := M3 632 1) (b := M3 632 2) (d := M3 632 3) (j := M3 632 0) (CR_T hI.1 T578) T578 (by rw [k5]; omega) (by rw [k5]; omega)
  rw [k5] at eA a1 a2 a4 a5 a6 a7
  have pj := hcp3.2.2.2.1 (M3 632 0) (by omega) (by omega)
  have kb := cn_bd (fun c => ic (M3 625) c (M3 632 0) 0) (M3 625 0).toNat 0
  have ek : K3 (pc 578 (M3 632 0)) 3 = kids (M3 625) (M3 632 0) 0 := pj.2.2.1
  have kb2 : 0 ≤ K3 (pc 578 (M3 632 0)) 3 ∧ K3 (pc 578 (M3 632 0)) 3 ≤ 40 := by
    rw [ek]
    unfold kids
    omega
  rw [w32_r (show -2147483648 ≤ K3 (pc 578 (M3 632 0)) 3 + 1 ∧ K3 (pc 578 (M3 632 0)) 3 + 1 < 2147483648 by omega)] at a3
  rw [if_pos (kd578 hI.1), r578 hI.1, ← q0, ← q1, ← q2, v3, eA, bdN_s, bdN_id, m20_ hM3.1]
  refine RR_gm (g632 (by omega)) (RR_gm (g632 (by omega)) (RR_gm (g632 (by omega)) (RR_gm (g632 (by omega)) ?_)))
  rw [vM_comes hD.1.1 (by omega), bdN_s, bdN_s]
  have ho := fun k => cmR_o (r := M3 625) (a := M3 632 0) (c := M3 632 1) (gp := M3 632 2) (b := M3 632 3) (k := k) (by omega)
  refine rr_semi (RA_up hM3 CF_CQ (RI_IT hI iA) (fun x hx => iA.2 x (by omega)) (RD_sw hD (WBF_cm hw3 (by omega) (by omega) (hst _ (by omega) (by omega)) bb1 b3) (fun i i0 i1 => ?_)) (fun x hx => sw_n hx) ?_)
  · rw [cmR_0] at i1
    by_cases ei : i = M3 625 0
    · rw [ei]; exact (cmR_n (r := M3 625) (a := M3 632 0) (c := M3 632 1) (gp := M3 632 2) (b := M3 632 3) (by omega)).2.2.1
    · rw [ho _ (by omega)]; exact hst i i0 (by omega)
  · rw [sw_s]
    exact CQ_cm hcp3 hw3.1 (by omega) (RL_1 hM3.1) (by omega) a1 a2 a3 a4 a5 a6 a7
end PAR10
