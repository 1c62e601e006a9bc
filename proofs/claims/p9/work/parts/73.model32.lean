/-! ===== the reference's reader: processes (own work) ===== -/
section MODEL32
variable {g G H K : gH} {p code t c a b k q gp d x y z w v n l i : Int}
theorem RD_sw {r : Int → Int} (h : RD g G) (hw : WBF r) (hr : ∀ i, 0 ≤ i → i < r 0 → r (140 + i) = 0) : RD g (sw G r) := by
  obtain ⟨a1, b1, b2, b3, b4, b5⟩ := h
  refine ⟨MInv_sw a1 hw, MF_sw b1, FX_e b2 (fun x x0 x1 x2 => sw_n (by omega)), by rw [sw_n (by omega)]; exact b3, ?_, by rw [sw_s]; exact hr⟩
  unfold TK; rw [sw_n (by omega)]; exact b4
theorem rs_process (h : RD g G) : RS g G (fM_readProcess G 624) := by
  rw [fM_readProcess]
  refine RS_c (gd_w h.1 (by omega)) (RS_ite (fun _ => RS_fails h (Int.le_refl _)) (fun h24 => ?_))
  rw [h.1.1.1] at h24
  refine RS_advance h (Int.le_refl _) (fun K hK fK pK => RS_c (gd_w hK.1 (by omega)) ?_)
  rw [← fK.1 625 (by omega)] at h24
  have hM := hK.1.2.1.1.1
  rw [w_m hK.1]
  refine RS_number hK pK (fun b1 b2 => ?_)
  rw [vM_roomOf hK.1.1 hK.1.2.1.1 (by omega), bdP_s]
  refine RS_ite (fun _ => RS_fails hK pK) (fun _ => RS_c (gd_w hK.1 (by omega)) ?_)
  rw [w_m hK.1]
  refine RS_takes hK (by omega) pK (fun L hL eL bL _ pL => ?_)
  rw [← eL] at bL h24
  refine RS_takes hL (by omega) pL (fun M hM1 eM bM oM pM => ?_)
  rw [← oM 0 (by omega), ← eM] at bL
  rw [← eM] at h24
  refine RS_takes hM1 (by omega) pM (fun N hN eN bN oN pN => ?_)
  rw [← oN 0 (by omega), ← eN] at bL
  rw [← oN 1 (by omega)] at bM
  rw [← eN] at h24
  refine RS_takes hN (by omega) pN (fun I hI eI bI oI pI => RS_c (gd_r hI.1 (by omega)) (RS_c (gd_r hI.1 (by omega)) (RS_c (gd_r hI.1 (by omega)) (RS_c (gd_r hI.1 (by omega)) ?_))))
  rw [← oI 0 (by omega), ← eI] at bL
  rw [← oI 1 (by omega)] at bM
  rw [← eI] at h24
  have hMI := hI.1.2.1.1.1
  rw [e20 hI.1, vM_comes hI.1.1 (by omega), bdN_s]
  have hst := hI.2.2.2.2.2
  have ho := fun k => cmR_o (r := I 625) (a := I 632 0) (c := I 632 1) (gp := I 632 2) (b := I 632 3) (k := k) (by omega)
  refine RS_i rfl (RD_sw hI (WBF_cm hI.1.2.1 (by omega) (by omega) (hst _ (by omega) (by omega)) bM bI) (fun i i0 i1 => ?_)) (by rw [sw_n (by omega)]; exact pI)
  rw [cmR_0] at i1
  by_cases e : i = I 625 0
  · rw [e]; exact (cmR_n (r := I 625) (a := I 632 0) (c := I 632 1) (gp := I 632 2) (b := I 632 3) (by omega)).2.2.1
  · rw [ho _ (by omega)]; exact hst i i0 (by omega)
end MODEL32
