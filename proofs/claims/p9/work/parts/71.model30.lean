/-! ===== the reference's reader: heir, refusal (own work) ===== -/
section MODEL30
variable {g G H K : gH} {p code t c a b k q gp d x y z w v n l i : Int}
theorem RS_c {c : Prop} [Decidable c] {A B : Option (Int × gH)} (h : c) (h1 : RS g G A) : RS g G (if c then A else B) := by
  rw [if_pos h]; exact h1
theorem gd_w (h : MInv K) (hk : 0 ≤ k ∧ k < 780) : kd (K 624 0) = 20 ∧ (0 : Int) ≤ k ∧ k < sz (K 624 0) := by
  rw [h.1.1, kd_625, sz_625]; exact ⟨rfl, hk⟩
theorem gd_r (h : MInv K) (hk : 0 ≤ k ∧ k < 4) : kd (K 624 20) = 20 ∧ (0 : Int) ≤ k ∧ k < sz (K 624 20) := by
  have h20 : K 624 20 = 632 := h.1.2.2.2.2.2.2.1
  rw [h20, kd_632, sz_632]; exact ⟨rfl, hk⟩
theorem w_m (h : MInv K) : w32 (K (K 624 0) 0 - 1) = K 625 0 - 1 := by
  have := h.2.1.1.1
  rw [h.1.1, w32_r (by omega)]
theorem e20 (h : MInv K) : K 624 20 = 632 := h.1.2.2.2.2.2.2.1
theorem rs_heir (h : RD g G) : RS g G (fM_readHeir G 624) := by
  rw [fM_readHeir]
  refine RS_advance h (Int.le_refl _) (fun K hK _ pK => RS_c (gd_w hK.1 (by omega)) ?_)
  have hM := hK.1.2.1.1.1
  rw [w_m hK.1]
  refine RS_number hK pK (fun b1 b2 => RS_c (gd_w hK.1 (by rw [w32_r (by omega)]; omega)) (RS_ite (fun _ => RS_c (gd_w hK.1 (by omega)) ?_) (fun _ => RS_fails hK pK)))
  rw [w_m hK.1]
  refine RS_takes hK (by omega) pK (fun L hL eL bL _ pL => RS_c (gd_w hL.1 (by omega)) ?_)
  have hML := hL.1.2.1.1.1
  rw [← eL] at bL
  rw [w_m hL.1]
  refine RS_number hL pL (fun c1 c2 => RS_c (gd_r hL.1 (by omega)) (RS_ite (fun _ => RS_fails hL pL) (fun _ => RS_c (gd_w hL.1 (by omega)) ?_)))
  rw [w_m hL.1]
  refine RS_takes hL (by omega) pL (fun J hJ eJ bJ oJ pJ => RS_c (gd_r hJ.1 (by omega)) (RS_c (gd_r hJ.1 (by omega)) ?_))
  rw [← oJ 0 (by omega), ← eJ] at bL
  rw [← eJ] at bJ
  have hMJ := hJ.1.2.1.1.1
  rw [e20 hJ.1, hJ.1.1.1, w32_r (by omega), if_pos (by rw [kd_625, sz_625]; omega), bnd_s]
  exact RD_pos (RD_row hJ (WBF_pl hJ.1.2.1 (WB_pl hJ.1.2.1.1 (by omega) (fun z => by omega) (fun _ => by omega)) (by omega)) (by omega) (by omega)) pJ rfl
theorem rs_refusal (h : RD g G) : RS g G (fM_readRefusal G 624) := by
  rw [fM_readRefusal]
  refine RS_advance h (Int.le_refl _) (fun K hK _ pK => RS_c (gd_w hK.1 (by omega)) ?_)
  have hM := hK.1.2.1.1.1
  rw [w_m hK.1]
  refine RS_takes hK (by omega) pK (fun L hL eL bL _ pL => ?_)
  have hML := hL.1.2.1.1.1
  rw [← eL] at bL
  refine RS_number hL pL (fun c1 c2 => RS_c (gd_r hL.1 (by omega)) ?_)
  rw [e20 hL.1, vM_refuses hL.1.1 (by omega), bdP_s]
  refine RS_ite (fun _ => ?_) (fun _ => RS_fails hL pL)
  refine RS_takes hL (by omega) pL (fun J hJ eJ bJ oJ pJ => RS_c (gd_r hJ.1 (by omega)) ?_)
  rw [← oJ 0 (by omega), ← eJ] at bL
  have hMJ := hJ.1.2.1.1.1
  rw [e20 hJ.1, hJ.1.1.1, w32_r (by omega), if_pos (by rw [kd_625, sz_625]; omega), if_pos (by rw [kd_632, sz_632]; omega), if_pos (by rw [kd_625, sz_625]; omega), bnd_s]
  exact RD_pos (RD_row hJ (WBF_340 hJ.1.2.1 (by omega)) (by omega) (by omega)) pJ rfl
end MODEL30
