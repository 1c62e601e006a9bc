/-! ===== the reference's reader: wills (own work) ===== -/
section MODEL31
variable {g G H K : gH} {p code t c a b k q gp d x y z w v n l i : Int}
theorem w_460 (ha : 0 ≤ a ∧ a < 40) (hb : 0 ≤ b ∧ b ≤ 7) : w32 (w32 (460 + opI 0 8 a) + b) = 460 + 8 * a + b := by
  rw [opI_mul, w32_r (x := 8 * a) (by omega), w32_r (x := 460 + 8 * a) (by omega), w32_r (by omega)]
theorem rs_will (h : RD g G) : RS g G (fM_readWill G 624) := by
  rw [fM_readWill]
  refine RS_advance h (Int.le_refl _) (fun K hK _ pK => RS_c (gd_w hK.1 (by omega)) ?_)
  have hM := hK.1.2.1.1.1
  rw [w_m hK.1]
  refine RS_takes hK (by omega) pK (fun L hL eL bL _ pL => ?_)
  have hML := hL.1.2.1.1.1
  rw [← eL] at bL
  refine RS_number hL pL (fun c1 c2 => RS_c (gd_r hL.1 (by omega)) ?_)
  rw [e20 hL.1, w_460 (by omega) (by omega)]
  refine RS_c (gd_w hL.1 (by omega)) (RS_ite (fun _ => ?_) (fun _ => RS_fails hL pL))
  refine RS_takes hL (by omega) pL (fun J hJ eJ bJ oJ pJ => RS_c (gd_w hJ.1 (by omega)) ?_)
  rw [← oJ 0 (by omega), ← eJ] at bL
  have hMJ := hJ.1.2.1.1.1
  rw [w_m hJ.1]
  refine RS_number hJ pJ (fun d1 d2 => RS_c (gd_r hJ.1 (by omega)) (RS_ite (fun _ => RS_fails hJ pJ) (fun _ => RS_c (gd_w hJ.1 (by omega)) ?_)))
  rw [w_m hJ.1]
  refine RS_takes hJ (by omega) pJ (fun I hI eI bI oI pI => RS_c (gd_r hI.1 (by omega)) (RS_c (gd_r hI.1 (by omega)) (RS_c (gd_r hI.1 (by omega)) ?_)))
  rw [← oI 0 (by omega), ← eI] at bL
  rw [← oI 1 (by omega)] at bJ
  rw [← eI] at bI
  have hMI := hI.1.2.1.1.1
  rw [e20 hI.1, w_460 (by omega) (by omega)]
  refine RS_c (gd_w hI.1 (by omega)) ?_
  rw [bnd_s, hI.1.1.1]
  exact RD_pos (RD_row hI (WBF_pl hI.1.2.1 (WB_pl hI.1.2.1.1 (by omega) (fun z => by omega) (fun _ => by omega)) (by omega)) (by omega) (by omega)) pI rfl
end MODEL31
