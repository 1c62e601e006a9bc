/-! ===== the reference's reader: heir, refusal (own work) ===== -/
section MODEL30
variable {g G H K : gH} {p code t c a b k q gp d x y z w v n l i : Int}
theorem RS_c {c : Prop} [Decidable c] {A B : Option (Int × gH)} (h : c) (h1 : RS g G A) : RS g G (if c then A else B) := by
  rw [if_pos h]; exact h1
theorem gd_w (h : MInv K) (hk : 0 ≤ k ∧ k < 780) : kd (K 624 0) = 20 ∧ (0 : Int) ≤ k ∧ k < sz (K 624 0) := by
  rw [h.1.1, kd_625, sz_625]; exact ⟨rfl, hk⟩
theorem gd_r (h : MInv K) (hk : 0 ≤ k ∧ k < 4) : kd (K 624 20) = 20 ∧ (0 : Int) ≤ k ∧ k < sz (K 624 20) := by
  have h20 : K 624 20 = 632 := h.1.2.2.2.2.2.2.1
  rw [h20, kd_632, sz_632]; exact ⟨rfl, hk⟩
theorem w_m (h : MInv K) : w32 (K (K 624 0) 0 - 1) = K 625 0 - 1 := by
  have := h.2.1.1.1
  rw [h.1.1, w32_r (by omega)]
theorem e20 (h : MInv K) : K 624 20 = 632 := h.1.2.2.2.2.2.2.1
theorem rs_heir (h : RD g G) : RS g G (fM_readHeir G 624) := by
  rw [fM_readHeir]
  refine RS_advance h (Int.le_refl _) (fun K hK _ pK => RS_c (gd_w hK.1 (by omega)) ?_)
  have hM := hK.1.2.1.1.1
  rw [w_m hK.1]
  refine RS_number hK pK (fun b1 b2 => RS_c (gd_w hK.1 (by rw [w32_r (by omega)]; omega)) (RS_ite (fun _ => RS_c (gd_w hK.1 (by omega)) ?_) (fun _ => RS_fails hK pK)))
  rw [w_m hK.1]
  refine RS_takes hK (by omega) pK (fun L hL eL bL _ pL => RS_c (gd_w hL.1 (by omega)) ?_)
  have hML := hL.1.2.1.1.1
  rw [← eL] at bL
  rw [w_m hL.1]
  refine RS_number hL pL (fun c1 c2 => RS_c (gd_r hL.1 (by omega)) (RS_ite (fun _ => RS_fails hL pL) (fun _ => RS_c (gd_w hL.1 (by omega)) ?_)))
  rw [w_m hL.1]
  refine RS_takes hL (by omega) pL (fun J hJ eJ bJ oJ pJ => RS_c (gd_r hJ.1 (by omega)) (RS_c (gd_r hJ.1 (by omega)) ?_))
  rw [← oJ 0 (by omega), ← eJ] at bL
  rw [← eJ] at bJ
  have hMJ := hJ.1.2.1.1.1
  rw [e20 hJ.1, hJ.1.1.1, w32_r (by omega), if_pos (by rw [kd_625, sz_625]; omega), bnd_s]
  exact RD_pos (RD_row hJ (WBF_pl hJ.1.2.1 (WB_pl hJ.1.2.1.1 (by omega) (fun z => by omega) (fun _ => by omega)) (by omega)) (by omega) (by omega)) pJ rfl
theorem rs_refusal (h : RD g G) : RS g G (fM_readRefusal G 624) := by
  rw [fM_readRefusal]
  refine RS_advance h (Int.le_refl _) (fun K hK _ pK => RS_c (gd_w hK.1 (by omega)) ?_)
  have hM := hK.1.2.1.1.1
  rw [w_m hK.1]
  refine RS_takes hK (by omega) pK (fun L hL eL bL _ pL => ?_)
  have hML := hL.1.2.1.1.1
  rw [← eL] at bL
  refine RS_number hL pL (fun c1 c2 => RS_c (gd_r hL.1 (by omega)) ?_)
  rw [e20 hL.1, vM_refuses hL.1.1 (by omega), bdP_s]
  refine RS_ite (fun _ => ?_) (fun _ => RS_fails hL pL)
  refine RS_takes hL (by omega) pL (fun J hJ eJ bJ oJ pJ => RS_c (gd_r hJ.1 (by omega)) ?_)
  rw [← oJ 0 (by omega), ← eJ] at bL
  have hMJ := hJ.1.2.1.1.1
  rw [e20 hJ.1, hJ.1.1.1, w32_r (by omega), if_pos (by rw [kd_625, sz_625]; omega), if_pos (by rw [kd_632, sz_632]; omega), if_pos (by rw [kd_625, sz_625]; omega), bnd_s]
  exact RD_pos (RD_row hJ (WBF_340 hJ.1.2.1 (by omega)) (by omega) (by omega)) pJ rfl
end MODEL30
/-! ===== the reference's reader: wills (own work) ===== -/
section MODEL31
variable {g G H K : gH} {p code t c a b k q gp d x y z w v n l i : Int}
theorem w_460 (ha : 0 ≤ a ∧ a < 40) (hb : 0 ≤ b ∧ b ≤ 7) : w32 (w32 (460 + opI 0 8 a) + b) = 460 + 8 * a + b := by
  rw [opI_mul, w32_r (x := 8 * a) (by omega), w32_r (x := 460 + 8 * a) (by omega), w32_r (by omega)]
theorem rs_will (h : RD g G) : RS g G (fM_readWill G 624) := by
  rw [fM_readWill]
  refine RS_advance h (Int.le_refl _) (fun K hK _ pK => RS_c (gd_w hK.1 (by omega)) ?_)
  have hM := hK.1.2.1.1.1
  rw [w_m hK.1]
  refine RS_takes hK (by omega) pK (fun L hL eL bL _ pL => ?_)
  have hML := hL.1.2.1.1.1
  rw [← eL] at bL
  refine RS_number hL pL (fun c1 c2 => RS_c (gd_r hL.1 (by omega)) ?_)
  rw [e20 hL.1, w_460 (by omega) (by omega)]
  refine RS_c (gd_w hL.1 (by omega)) (RS_ite (fun _ => ?_) (fun _ => RS_fails hL pL))
  refine RS_takes hL (by omega) pL (fun J hJ eJ bJ oJ pJ => RS_c (gd_w hJ.1 (by omega)) ?_)
  rw [← oJ 0 (by omega), ← eJ] at bL
  have hMJ := hJ.1.2.1.1.1
  rw [w_m hJ.1]
  refine RS_number hJ pJ (fun d1 d2 => RS_c (gd_r hJ.1 (by omega)) (RS_ite (fun _ => RS_fails hJ pJ) (fun _ => RS_c (gd_w hJ.1 (by omega)) ?_)))
  rw [w_m hJ.1]
  refine RS_takes hJ (by omega) pJ (fun I hI eI bI oI pI => RS_c (gd_r hI.1 (by omega)) (RS_c (gd_r hI.1 (by omega)) (RS_c (gd_r hI.1 (by omega)) ?_)))
  rw [← oI 0 (by omega), ← eI] at bL
  rw [← oI 1 (by omega)] at bJ
  rw [← eI] at bI
  have hMI := hI.1.2.1.1.1
  rw [e20 hI.1, w_460 (by omega) (by omega)]
  refine RS_c (gd_w hI.1 (by omega)) ?_
  rw [bnd_s, hI.1.1.1]
  exact RD_pos (RD_row hI (WBF_pl hI.1.2.1 (WB_pl hI.1.2.1.1 (by omega) (fun z => by omega) (fun _ => by omega)) (by omega)) (by omega) (by omega)) pI rfl
end MODEL31
/-! ===== the reference's reader: processes (own work) ===== -/
section MODEL32
variable {g G H K : gH} {p code t c a b k q gp d x y z w v n l i : Int}
theorem RD_sw {r : Int → Int} (h : RD g G) (hw : WBF r) (hr : ∀ i, 0 ≤ i → i < r 0 → r (140 + i) = 0) : RD g (sw G r) := by
  obtain ⟨a1, b1, b2, b3, b4, b5⟩ := h
  refine ⟨MInv_sw a1 hw, MF_sw b1, FX_e b2 (fun x x0 x1 x2 => sw_n (by omega)), by rw [sw_n (by omega)]; exact b3, ?_, by rw [sw_s]; exact hr⟩
  unfold TK; rw [sw_n (by omega)]; exact b4
theorem rs_process (h : RD g G) : RS g G (fM_readProcess G 624) := by
  rw [fM_readProcess]
  refine RS_c (gd_w h.1 (by omega)) (RS_ite (fun _ => RS_fails h (Int.le_refl _)) (fun h24 => ?_))
  rw [h.1.1.1] at h24
  refine RS_advance h (Int.le_refl _) (fun K hK fK pK => RS_c (gd_w hK.1 (by omega)) ?_)
  rw [← fK.1 625 (by omega)] at h24
  have hM := hK.1.2.1.1.1
  rw [w_m hK.1]
  refine RS_number hK pK (fun b1 b2 => ?_)
  rw [vM_roomOf hK.1.1 hK.1.2.1.1 (by omega), bdP_s]
  refine RS_ite (fun _ => RS_fails hK pK) (fun _ => RS_c (gd_w hK.1 (by omega)) ?_)
  rw [w_m hK.1]
  refine RS_takes hK (by omega) pK (fun L hL eL bL _ pL => ?_)
  rw [← eL] at bL h24
  refine RS_takes hL (by omega) pL (fun M hM1 eM bM oM pM => ?_)
  rw [← oM 0 (by omega), ← eM] at bL
  rw [← eM] at h24
  refine RS_takes hM1 (by omega) pM (fun N hN eN bN oN pN => ?_)
  rw [← oN 0 (by omega), ← eN] at bL
  rw [← oN 1 (by omega)] at bM
  rw [← eN] at h24
  refine RS_takes hN (by omega) pN (fun I hI eI bI oI pI => RS_c (gd_r hI.1 (by omega)) (RS_c (gd_r hI.1 (by omega)) (RS_c (gd_r hI.1 (by omega)) (RS_c (gd_r hI.1 (by omega)) ?_))))
  rw [← oI 0 (by omega), ← eI] at bL
  rw [← oI 1 (by omega)] at bM
  rw [← eI] at h24
  have hMI := hI.1.2.1.1.1
  rw [e20 hI.1, vM_comes hI.1.1 (by omega), bdN_s]
  have hst := hI.2.2.2.2.2
  have ho := fun k => cmR_o (r := I 625) (a := I 632 0) (c := I 632 1) (gp := I 632 2) (b := I 632 3) (k := k) (by omega)
  refine RS_i rfl (RD_sw hI (WBF_cm hI.1.2.1 (by omega) (by omega) (hst _ (by omega) (by omega)) bM bI) (fun i i0 i1 => ?_)) (by rw [sw_n (by omega)]; exact pI)
  rw [cmR_0] at i1
  by_cases e : i = I 625 0
  · rw [e]; exact (cmR_n (r := I 625) (a := I 632 0) (c := I 632 1) (gp := I 632 2) (b := I 632 3) (by omega)).2.2.1
  · rw [ho _ (by omega)]; exact hst i i0 (by omega)
end MODEL32
/-! ===== the reference's reader: the order of rules (own work) ===== -/
def pcn (m : Nat) : Nat := m % 2 + m / 2 % 2 + m / 4 % 2 + m / 8 % 2 + m / 16 % 2
theorem msk : ∀ m : Fin 32, ∀ y : Fin 5, opI 1 (opI 5 (m.val : Int) (y.val : Int)) 1 = 1 ∨ (∃ j : Fin 32, opI 2 (m.val : Int) (opI 4 1 (y.val : Int)) = (j.val : Int) ∧ pcn j.val = pcn m.val + 1) := by decide +kernel
theorem pcn_5 : ∀ m : Fin 32, pcn m.val ≤ 5 := by decide +kernel
section MODEL33
variable {g G H K : gH} {p code t c a b k q gp d x y z w v n l i : Int}
theorem vM_ruleHere (h : RD g G) : ∃ y, fM_ruleHere G 624 = some y ∧ (-1 ≤ y ∧ y ≤ 4) := by
  have iw := fun v hv => vM_isWord (v := v) h.1 h.2.2.2.2.1 hv
  obtain ⟨y1, e1, -⟩ := iw 2000021 (by omega)
  obtain ⟨y2, e2, -⟩ := iw 2000022 (by omega)
  obtain ⟨y3, e3, -⟩ := iw 2000023 (by omega)
  obtain ⟨y4, e4, -⟩ := iw 2000024 (by omega)
  obtain ⟨y5, e5, -⟩ := iw 2000025 (by omega)
  rw [fM_ruleHere, e1, bdP_s, e2, bdP_s, e3, bdP_s, e4, bdP_s, e5, bdP_s]
  repeat' split
  all_goals exact ⟨_, rfl, by omega⟩
theorem WB_5 {r : Int → Int} (h : WB r) (hv : 0 ≤ v ∧ v ≤ 5) : WB (u1 r 5 v) := by
  obtain ⟨a1, a2, a3, a4, a5, a6, a7⟩ := h
  have e0 : u1 r 5 v 0 = r 0 := u1_n (by omega)
  unfold WB
  rw [e0, u1_s]
  exact ⟨a1, fun i i0 i1 => by rw [u1_n (by omega)]; exact a2 i i0 i1, acy_ext a3 a2 (fun i i0 i1 => u1_n (show ¬ 60 + i = 5 by omega)), hv, fun i i0 i1 => by rw [u1_n (by omega)]; exact a5 i i0 i1, fun i d i0 i1 d0 d1 => by rw [u1_n (by omega)]; exact a6 i d i0 i1 d0 d1, fun i i0 i1 => by rw [u1_n (by omega)]; exact a7 i i0 i1⟩
theorem WBF_5 {r : Int → Int} (h : WBF r) (hv : 0 ≤ v ∧ v ≤ 5) : WBF (u1 r 5 v) := WBF_pl h (WB_5 h.1 hv) (by omega)
theorem WBF_6 {r : Int → Int} (h : WBF r) (hk : 6 ≤ k ∧ k < 11) : WBF (u1 r k v) := WBF_pl h (WB_eq h.1 (fun j hj => u1_n (by omega))) (by omega)
theorem rs_order (h : RD g G) : RS g G (fM_readOrder G 624) := by
  rw [fM_readOrder]
  refine RS_once h (Int.le_refl _) (fun K hK eK pK => RS_c (gd_w hK.1 (by omega)) ?_)
  rw [bnd_s, hK.1.1.1]
  have key : ∀ (m n : Nat) (j : Fin 32) (K : gH), RD g K → G 624 15 ≤ K 624 15 → K 625 5 = (pcn j.val : Int) → 5 - pcn j.val = m → m < n → RS g G (lM_readOrder_19 624 n (j.val : Int) K) := by
    intro m
    induction m with
    | zero =>
      intro n j K hK pK h5 hm hn
      obtain ⟨n, rfl⟩ : ∃ k, n = k + 1 := ⟨n - 1, by omega⟩
      obtain ⟨y, e, b1, b2⟩ := vM_ruleHere hK
      show RS g G (bM_readOrder_19 624 (lM_readOrder_19 624 n) (j.val : Int) K)
      rw [bM_readOrder_19]
      refine RS_ite (fun _ => ?_) (fun _ => RS_i rfl hK pK)
      rw [e, bdP_s]
      refine RS_ite (fun _ => RS_fails hK pK) (fun hy => RS_ite (fun _ => RS_fails hK pK) (fun hb => ?_))
      exfalso
      have := msk j ⟨y.toNat, by omega⟩
      rw [show ((⟨y.toNat, by omega⟩ : Fin 5).val : Int) = y by simp only []; omega] at this
      rcases this with e1 | ⟨i, e1, e2⟩
      · exact hb e1
      · have := pcn_5 i; omega
    | succ m ih =>
      intro n j K hK pK h5 hm hn
      obtain ⟨n, rfl⟩ : ∃ k, n = k + 1 := ⟨n - 1, by omega⟩
      obtain ⟨y, e, b1, b2⟩ := vM_ruleHere hK
      show RS g G (bM_readOrder_19 624 (lM_readOrder_19 624 n) (j.val : Int) K)
      rw [bM_readOrder_19]
      refine RS_ite (fun _ => ?_) (fun _ => RS_i rfl hK pK)
      rw [e, bdP_s]
      refine RS_ite (fun _ => RS_fails hK pK) (fun hy => RS_ite (fun _ => RS_fails hK pK) (fun hb => ?_))
      have := msk j ⟨y.toNat, by omega⟩
      rw [show ((⟨y.toNat, by omega⟩ : Fin 5).val : Int) = y by simp only []; omega] at this
      rcases this with e1 | ⟨i, e1, e2⟩
      · exact absurd e1 hb
      have p5 := pcn_5 i
      rw [hK.1.1.1, h5, w32_r (by omega)]
      refine RS_c (by rw [kd_625, sz_625]; omega) (RS_c (by rw [kd_625, sz_625]; omega) ?_)
      have r1 := RD_row (k := 6 + (pcn j.val : Int)) (v := y) hK (WBF_6 hK.1.2.1 (by omega)) (by omega) (by omega)
      have q5 : pU K 625 (6 + (pcn j.val : Int)) y 625 5 = (pcn j.val : Int) := by rw [pU_s, u1_n (by omega)]; exact h5
      have qp : G 624 15 ≤ pU K 625 (6 + (pcn j.val : Int)) y 624 15 := by rw [pU_n (by omega)]; exact pK
      rw [bnd_s]
      generalize pU K 625 (6 + (pcn j.val : Int)) y = Q at *
      rw [r1.1.1.1, q5, w32_r (by omega)]
      refine RS_c (by rw [kd_625, sz_625]; omega) (RS_c (by rw [kd_625, sz_625]; omega) ?_)
      have r2 := RD_row (k := 5) (v := (pcn j.val : Int) + 1) r1 (WBF_5 r1.1.2.1 (by omega)) (by omega) (by omega)
      have s5 : pU Q 625 5 ((pcn j.val : Int) + 1) 625 5 = (pcn j.val : Int) + 1 := by rw [pU_s, u1_s]
      have sp : G 624 15 ≤ pU Q 625 5 ((pcn j.val : Int) + 1) 624 15 := by rw [pU_n (by omega)]; exact qp
      rw [bnd_s]
      generalize pU Q 625 5 ((pcn j.val : Int) + 1) = T at *
      refine RS_advance r2 sp (fun L hL fL pL => ?_)
      rw [e1]
      exact ih n i L hL pL (by rw [fL.1 625 (by omega), s5, e2]; omega) (by omega) (by omega)
  have hf := fu_ge
  have r1 := RD_row (k := 5) (v := 0) hK (WBF_5 hK.1.2.1 (by omega)) (by omega) (by omega)
  exact key 5 fu 0 _ r1 (by rw [pU_n (by omega)]; exact pK) (by rw [pU_s, u1_s]; rfl) rfl (by omega)
end MODEL33
/-! ===== the reference's reader: the text (own work) ===== -/
section MODEL34
variable {g G H K : gH} {p code t c a b k q gp d x y z w v n l i : Int}
theorem RS_w {X : Option (Int × gH)} (h : RS g G X) : RS g G (bdN X (fun y H => some (y, H))) := by
  obtain ⟨y, H, e, k1, k2⟩ := h
  rw [e, bdN_s]; exact RS_i rfl k1 k2
theorem rs_statement (h : RD g G) : RS g G (fM_readStatement G 624) := by
  have iw := fun v hv => vM_isWord (v := v) h.1 h.2.2.2.2.1 hv
  obtain ⟨y1, e1, -⟩ := iw 2000013 (by omega)
  obtain ⟨y2, e2, -⟩ := iw 2000014 (by omega)
  obtain ⟨y3, e3, -⟩ := iw 2000015 (by omega)
  obtain ⟨y4, e4, -⟩ := iw 2000020 (by omega)
  obtain ⟨y5, e5, -⟩ := iw 2000016 (by omega)
  obtain ⟨y6, e6, -⟩ := iw 2000017 (by omega)
  obtain ⟨y7, e7, -⟩ := iw 2000018 (by omega)
  obtain ⟨y8, e8, -⟩ := iw 2000019 (by omega)
  rw [fM_readStatement, e1, bdP_s, e2, bdP_s, e3, bdP_s, e4, bdP_s, e5, bdP_s, e6, bdP_s, e7, bdP_s, e8, bdP_s]
  exact RS_ite (fun _ => RS_ite (fun _ => RS_ite (fun _ => RS_ite (fun _ => RS_ite (fun _ => RS_ite (fun _ => RS_ite (fun _ => RS_ite (fun _ => RS_fails h (Int.le_refl _)) (fun _ => RS_w (rs_refusal h))) (fun _ => RS_w (rs_duty h))) (fun _ => RS_w (rs_heir h))) (fun _ => RS_w (rs_process h))) (fun _ => RS_w (rs_will h))) (fun _ => RS_w (rs_root h))) (fun _ => RS_w (rs_deep h))) (fun _ => RS_w (rs_order h))
theorem rs_text (h : RD g G) : ∃ y H, fM_readText G 624 = some (y, H) ∧ RD g H := by
  have key : ∀ (m n : Nat) (K : gH), RD g K → (K 624 18 = 0 ∨ (K 624 10 - K 624 15).toNat + 1 ≤ m) → m < n → ∃ y H, lM_readText_0 624 n K = some (y, H) ∧ RD g H := by
    intro m
    induction m with
    | zero =>
      intro n K hK hm hn
      obtain ⟨n, rfl⟩ : ∃ k, n = k + 1 := ⟨n - 1, by omega⟩
      have h18 : K 624 18 = 0 := by omega
      refine ⟨1, K, ?_, hK⟩
      show bM_readText_0 624 (lM_readText_0 624 n) K = _
      rw [bM_readText_0, if_pos h18]
    | succ m ih =>
      intro n K hK hm hn
      obtain ⟨n, rfl⟩ : ∃ k, n = k + 1 := ⟨n - 1, by omega⟩
      show ∃ y H, bM_readText_0 624 (lM_readText_0 624 n) K = some (y, H) ∧ RD g H
      rw [bM_readText_0]
      by_cases h18 : K 624 18 = 0
      · rw [if_pos h18]; exact ⟨1, K, rfl, hK⟩
      · rw [if_neg h18]
        obtain ⟨y, L, e, hL, pL⟩ := rs_statement hK
        rw [e, bdN_s]
        by_cases hy : y = 0
        · rw [if_pos hy]; exact ⟨0, L, rfl, hL⟩
        · rw [if_neg hy]
          by_cases h3 : L 624 18 = 3
          · rw [if_pos h3]
            obtain ⟨M, e2, hM, aM⟩ := rd_advance hL
            rw [e2, bdN_s]
            refine ih n M hM ?_ (by omega)
            rcases aM.2.2.2.2 with z | z
            · exact Or.inl z
            · right
              have t := hM.2.2.2.2.1
              have l1 := hM.2.2.2.1
              have l2 := hK.2.2.2.1
              unfold TK at t
              omega
          · rw [if_neg h3]
            obtain ⟨M, e2, hM, -⟩ := rd_fails (v := 1) hL
            rw [e2, bdN_s]
            exact ⟨0, M, rfl, hM⟩
  have hf := fu_ge
  have h10 := h.1.2.2.2.2.2.1
  have ht := h.2.2.2.2.1
  unfold TK at ht
  exact key 501 fu G h (Or.inr (by omega)) (by omega)
end MODEL34
/-! ===== the reference's reader: a fresh row (own work) ===== -/
section MODEL35
variable {g G H K : gH} {p code t c a b k q gp d x y z w v n l i : Int}
/-- the row is wiped -/
theorem clr_1 (hs : MS G) : ∀ (m n : Nat) (i : Int) (G : gH), G 624 0 = 625 → (780 - i).toNat = m → m < n → 0 ≤ i → ∃ r, lM_clear_2 624 n i G = jM_clear_22 (sw G r) 624 ∧ ∀ k, 0 ≤ k → k < 780 → r k = if i ≤ k then 0 else G 625 k := by
  intro m
  induction m with
  | zero =>
    intro n i G h0 hm hn hi
    obtain ⟨n, rfl⟩ : ∃ k, n = k + 1 := ⟨n - 1, by omega⟩
    refine ⟨G 625, ?_, fun k k0 k1 => by rw [if_neg (by omega)]⟩
    show bM_clear_2 624 (lM_clear_2 624 n) i G = _
    rw [bM_clear_2, if_neg (by omega)]
    rw [sw_id]
  | succ m ih =>
    intro n i G h0 hm hn hi
    obtain ⟨n, rfl⟩ : ∃ k, n = k + 1 := ⟨n - 1, by omega⟩
    obtain ⟨r, e, hr⟩ := ih n (i + 1) (pU G 625 i 0) (by rw [pU_n (by omega)]; exact h0) (by omega) (by omega) (by omega)
    refine ⟨r, ?_, fun k k0 k1 => ?_⟩
    · show bM_clear_2 624 (lM_clear_2 624 n) i G = _
      rw [bM_clear_2, if_pos (by omega), h0, if_pos (by rw [kd_625, sz_625]; omega), bnd_s, w32_r (by omega), e, pU_625, sw_sw]
    · rw [hr k k0 k1]
      by_cases e1 : i + 1 ≤ k
      · rw [if_pos e1, if_pos (by omega)]
      · rw [if_neg e1, pU_s]
        by_cases e2 : k = i
        · rw [e2, u1_s, if_pos (by omega)]
        · rw [u1_n e2, if_neg (by omega)]
theorem WBF_new {r : Int → Int} (h0 : r 0 = 0) (h1 : r 1 = 0) (h5 : 0 ≤ r 5 ∧ r 5 ≤ 5) (hz : ∀ k, 11 ≤ k → k < 19 → r k = 0) : WBF (cmR r (-1) 9 0 0) := by
  have v : ∀ k, cmR r (-1) 9 0 0 k = if k = 0 then 1 else if 460 ≤ k ∧ k < 468 then -1 else if k = 420 then -1 else if k = 380 then 0 else if k = 340 then 0 else if k = 300 then -1 else if k = 260 then -1 else if k = 220 then 0 else if k = 180 then 0 else if k = 140 then 0 else if k = 100 then 9 else if k = 60 then -1 else r k := by
    intro k
    unfold cmR
    rw [h0]
    rfl
  have v0 : cmR r (-1) 9 0 0 0 = 1 := by rw [v, if_pos rfl]
  have v1 : cmR r (-1) 9 0 0 1 = 0 := by rw [v]; simp (disch := omega) only [if_neg]; exact h1
  have v5 : cmR r (-1) 9 0 0 5 = r 5 := by rw [v]; simp (disch := omega) only [if_neg]
  have v140 : cmR r (-1) 9 0 0 140 = 0 := by rw [v]; rfl
  have v100 : cmR r (-1) 9 0 0 100 = 9 := by rw [v]; rfl
  have v260 : cmR r (-1) 9 0 0 260 = -1 := by rw [v]; rfl
  have v220 : cmR r (-1) 9 0 0 220 = 0 := by rw [v]; rfl
  have vd : ∀ d, 0 ≤ d → d < 8 → cmR r (-1) 9 0 0 (11 + d) = 0 := by intro d d0 d1; rw [v]; simp (disch := omega) only [if_neg]; exact hz _ (by omega) (by omega)
  have vw : ∀ d, 0 ≤ d → d < 8 → cmR r (-1) 9 0 0 (460 + d) = -1 := by intro d d0 d1; rw [v, if_neg (by omega), if_pos (by omega)]
  have one : ∀ i, 0 ≤ i → i < cmR r (-1) 9 0 0 0 → i = 0 := by intro i i0 i1; rw [v0] at i1; omega
  refine ⟨⟨by rw [v0]; omega, fun i i0 i1 => absurd (one i (by omega) i1) (by omega), fun i i0 i1 => by rw [one i i0 i1]; exact en_0, by rw [v5]; exact h5, fun i i0 i1 => ?_, fun i d i0 i1 d0 d1 => ?_, fun i i0 i1 => ?_⟩, ⟨fun i i0 i1 => ?_, v140⟩, fun i i0 i1 => absurd (one i (by omega) i1) (by omega), ⟨by rw [v1]; omega, fun k k0 k1 => by rw [v1] at k1; omega⟩, fun i i0 i1 i2 => ?_, ?_, fun d d0 d1 => ?_, fun i i0 i1 i2 => ?_, fun i i0 i1 => ?_⟩
  · rw [one i i0 i1, show (260 + 0 : Int) = 260 by omega, v260, v0]; omega
  · rw [one i i0 i1, show (460 + 8 * 0 + d : Int) = 460 + d by omega, vw d d0 d1, v0]; omega
  · rw [one i i0 i1, show (100 + 0 : Int) = 100 by omega, v100]; omega
  · rw [one i i0 i1, show (140 + 0 : Int) = 140 by omega, v140]; omega
  · rw [one i i0 i1, show (140 + 0 : Int) = 140 by omega, v140] at i2; exact absurd rfl i2
  · show cmR r (-1) 9 0 0 1 = _
    rw [v1, v0]
    show (0 : Int) = cn _ 1 0
    rw [cn_s]
    rw [show (140 + 0 : Int) = 140 by omega, v140]
    rfl
  · rw [vd d d0 d1, v0, show (140 + 0 : Int) = 140 by omega, v140]; omega
  · rw [one i i0 i1, show (140 + 0 : Int) = 140 by omega, v140] at i2; omega
  · rw [one i i0 i1, show (220 + 0 : Int) = 220 by omega, v220]; omega
end MODEL35
/-! ===== the reference's clear (own work) ===== -/
section MODEL36
variable {g G H K : gH} {p code t c a b k q gp d x y z w v n l i : Int}
theorem cm140 {r : Int → Int} (h : r 0 = 0) : cmR r (-1) 9 0 0 140 = 0 := by
  unfold cmR
  rw [h]
  rfl
theorem clr_3 (r0 : Int → Int) (e : ∀ k, 0 ≤ k → k < 780 → r0 k = 0) (hs : MS G) : ∃ r, jM_clear_22 (sw G r0) 624 = some (0, sw G r) ∧ WBF r ∧ r 0 = 1 ∧ r 140 = 0 := by
  have hf := fu_ge
  have h0 : ∀ r, sw G r 624 0 = 625 := fun r => by rw [sw_n (by omega)]; exact hs.1
  have st : ∀ (n : Nat) (i : Int) (r : Int → Int), 0 ≤ i → i < 3 → lM_clear_31 624 (n + 1) i (sw G r) = lM_clear_31 624 n (i + 1) (sw G (u1 r (6 + i) i)) := by
    intro n i r i0 i1
    show bM_clear_31 624 (lM_clear_31 624 n) i (sw G r) = _
    rw [bM_clear_31, if_pos i1, h0, w32_r (by omega), if_pos (by rw [kd_625, sz_625]; omega), bnd_s, w32_r (by omega), pU_sw]
  obtain ⟨n, hn⟩ : ∃ n, fu = n + 4 := ⟨fu - 4, by omega⟩
  have hM : 0 ≤ u1 (u1 (u1 (u1 (u1 r0 5 3) (6 + 0) 0) (6 + (0 + 1)) (0 + 1)) (6 + (0 + 1 + 1)) (0 + 1 + 1)) 59 20 0 ∧ u1 (u1 (u1 (u1 (u1 r0 5 3) (6 + 0) 0) (6 + (0 + 1)) (0 + 1)) (6 + (0 + 1 + 1)) (0 + 1 + 1)) 59 20 0 < 40 := by
    simp (disch := omega) only [u1_n]
    rw [e 0 (by omega) (by omega)]; omega
  refine ⟨cmR (u1 (u1 (u1 (u1 (u1 r0 5 3) (6 + 0) 0) (6 + (0 + 1)) (0 + 1)) (6 + (0 + 1 + 1)) (0 + 1 + 1)) 59 20) (-1) 9 0 0, ?_, WBF_new ?_ ?_ ?_ ?_, ?_, ?_⟩
  · rw [jM_clear_22, h0, if_pos (by rw [kd_625, sz_625]; omega), bnd_s, pU_sw, hn, st _ _ _ (by omega) (by omega), st _ _ _ (by omega) (by omega), st _ _ _ (by omega) (by omega)]
    show bM_clear_31 624 (lM_clear_31 624 n) (0 + 1 + 1 + 1) _ = _
    rw [bM_clear_31, if_neg (by omega), jM_clear_52, h0, if_pos (by rw [kd_625, sz_625]; omega), bnd_s, pU_sw, vM_comes (MS_sw hs) (by rw [sw_s]; exact hM), bdN_s, sw_s, sw_sw]
  · simp (disch := omega) only [u1_n]; exact e 0 (by omega) (by omega)
  · simp (disch := omega) only [u1_n]; exact e 1 (by omega) (by omega)
  · simp (disch := omega) only [u1_n, u1_s]; omega
  · intro k k0 k1
    simp (disch := omega) only [u1_n]; exact e k (by omega) (by omega)
  · rw [cmR_0]; simp (disch := omega) only [u1_n]; rw [e 0 (by omega) (by omega)]; rfl
  · exact cm140 (by simp (disch := omega) only [u1_n]; exact e 0 (by omega) (by omega))
end MODEL36
/-! ===== the reference's loadTree (own work) ===== -/
section MODEL37
variable {g G H K : gH} {p code t c a b k q gp d x y z w v n l i : Int}
theorem kd_626 : kd 626 = 20 := by decide +kernel
theorem sz_626 : sz 626 = 780 := by decide +kernel
/-- the input taken, its error kept -/
theorem MInv_taken (h : MInv g) : MInv (pU (pU (pU g 624 10 0) 624 11 a) 624 12 b) := by
  obtain ⟨h1, h2, h3, ⟨h4, h5⟩, h6, h7, h8⟩ := h
  unfold MInv MS
  simp (disch := omega) only [pU_n, pU_s, u1_n, u1_s]
  exact ⟨h1, h2, h3, ⟨h4, h5⟩, h6, by omega, h8⟩
theorem MInv_67 (h : MInv g) : MInv (pU (pU g 624 6 0) 624 7 0) := by
  obtain ⟨h1, h2, h3, ⟨h4, h5⟩, h6, h7, h8⟩ := h
  unfold MInv MS
  simp (disch := omega) only [pU_n, pU_s, u1_n, u1_s]
  exact ⟨h1, h2, h3, ⟨by omega, fun j j0 j1 => absurd j0 (by omega)⟩, fun z => absurd trivial z, h7, h8⟩
theorem oM_loadTree (hi : MInv g) : ∃ v g', fM_loadTree g 624 = some (v, g') ∧ MInv g' ∧ MF g g' ∧ g' 624 10 = 0 := by
  have e : pU g 624 8 0 = th g 0 := rfl
  rw [fM_loadTree, bnd_s, e]
  have o1 := OK_th (t := 0) (OK_r hi)
  have i1 := o1.1
  have f1 := o1.2.1
  generalize th g 0 = G at *
  have s1 := i1.1
  have h0 := s1.1
  have h1 : G 624 1 = 626 := s1.2.2.2.2.2.2.2.2.2
  have hc := vM_copies (g := G) (a := 625) (x := 0) (b := 626) (y := 0) (n := 780) ⟨kd_625, kd_626⟩ (by rw [sz_625]; omega) (by rw [sz_626]; omega) (by omega) (Or.inl (by omega))
  rw [h0, h1, hc, bdN_s]
  have i2 : MInv (cpG G 625 0 626 0 780) := by
    have z := i1
    unfold MInv MS at z ⊢
    simp (disch := omega) only [cpG_n]
    exact z
  have k26 : ∀ k, 0 ≤ k → k < 780 → cpG G 625 0 626 0 780 626 k = G 625 k := fun k k0 k1 => by
    unfold cpG
    rw [if_pos ⟨rfl, by omega, by omega⟩, show (0 + k - 0 : Int) = k by omega]
  have f2 : MF g (cpG G 625 0 626 0 780) := MF_cp f1 (by omega)
  have w1 := i1.2.1
  generalize cpG G 625 0 626 0 780 = K at *
  obtain ⟨r, c1, c2⟩ := clr_1 i2.1 780 fu 0 K i2.1.1 rfl (by have := fu_ge; omega) (by omega)
  obtain ⟨r', c3, c4, c5, c6⟩ := clr_3 r (fun k k0 k1 => by rw [c2 k k0 k1, if_pos k0]) i2.1
  have c7 : fM_clear K 624 = some (0, sw K r') := by rw [fM_clear, c1, c3]
  rw [c7, bdN_s, bnd_s, bnd_s, bnd_s, bnd_s]
  have i3 : MInv (sw K r') := MInv_sw i2 c4
  have p4 : PF (sw K r') (pU (pU (pU (pU (sw K r') 624 13 0) 624 14 (-1)) 624 15 0) 624 19 0) := PF_u (PF_u (PF_u (PF_u PF_r (by omega)) (by omega)) (by omega)) (by omega)
  have e15 : pU (pU (pU (pU (sw K r') 624 13 0) 624 14 (-1)) 624 15 0) 624 19 0 624 15 = 0 := by
    simp (disch := omega) only [pU_s, u1_n, u1_s]
  have k3 : sw K r' 626 = K 626 := sw_n (by omega)
  have r3 : sw K r' 625 = r' := sw_s
  have f3 : MF g (sw K r') := MF_sw f2
  generalize sw K r' = J at *
  generalize pU (pU (pU (pU J 624 13 0) 624 14 (-1)) 624 15 0) 624 19 0 = L at *
  have i4 := MInv_PF i3 p4
  obtain ⟨H, a1, a2⟩ := vM_advance i4 (by unfold Ps; rw [e15]; exact ⟨Int.le_refl _, i4.2.2.2.2.2.1.1⟩)
  rw [a1, bdN_s]
  have p5 := PF_t p4 a2.1
  have hR : RD J H := ⟨MInv_PF i4 a2.1, fun x hx => p5.1 x (by omega), ⟨p5.1 626 (by omega), fun x x0 x1 => p5.1 x (by omega), fun k k0 k1 => p5.2 k (by omega)⟩, p5.2 10 (by omega), a2.2.1, by
    rw [p5.1 625 (by omega), r3, c5]
    intro i i0 i1
    rw [show i = 0 by omega]
    exact c6⟩
  obtain ⟨y, M, b1, b2⟩ := rs_text hR
  rw [b1, bdN_s, bnd_s, bnd_s, bnd_s]
  have i6 : MInv M := b2.1
  have f6 : MF g M := MF_t f3 b2.2.1
  have k6 : ∀ k, 0 ≤ k → k < 780 → M 626 k = G 625 k := fun k k0 k1 => by rw [b2.2.2.1.1, k3, k26 k k0 k1]
  have i7 : MInv (pU (pU (pU M 624 10 0) 624 11 (pU M 624 10 0 624 13)) 624 12 (pU (pU M 624 10 0) 624 11 (pU M 624 10 0 624 13) 624 14)) := MInv_taken i6
  have f7 : MF g (pU (pU (pU M 624 10 0) 624 11 (pU M 624 10 0 624 13)) 624 12 (pU (pU M 624 10 0) 624 11 (pU M 624 10 0 624 13) 624 14)) := MF_pU (MF_pU (MF_pU f6 (by omega)) (by omega)) (by omega)
  have t7 : (pU (pU (pU M 624 10 0) 624 11 (pU M 624 10 0 624 13)) 624 12 (pU (pU M 624 10 0) 624 11 (pU M 624 10 0 624 13) 624 14)) 624 10 = 0 := by
    rw [pU_s, u1_n (by omega), pU_s, u1_n (by omega), pU_s, u1_s]
  have k7 : ∀ k, 0 ≤ k → k < 780 → (pU (pU (pU M 624 10 0) 624 11 (pU M 624 10 0 624 13)) 624 12 (pU (pU M 624 10 0) 624 11 (pU M 624 10 0 624 13) 624 14)) 626 k = G 625 k := fun k k0 k1 => by
    rw [pU_n (by omega), pU_n (by omega), pU_n (by omega)]; exact k6 k k0 k1
  generalize pU (pU (pU M 624 10 0) 624 11 (pU M 624 10 0 624 13)) 624 12 (pU (pU M 624 10 0) 624 11 (pU M 624 10 0 624 13) 624 14) = N at *
  have n0 := i7.1.1
  have n1 : N 624 1 = 626 := i7.1.2.2.2.2.2.2.2.2.2
  by_cases hy : y = 0
  · have hc := vM_copies (g := N) (a := 626) (x := 0) (b := 625) (y := 0) (n := 780) ⟨kd_626, kd_625⟩ (by rw [sz_626]; omega) (by rw [sz_625]; omega) (by omega) (Or.inl (by omega))
    rw [if_pos hy, n0, n1, hc, bdN_s]
    refine ⟨_, _, rfl, ?_, MF_cp f7 (by omega), by rw [cpG_n (by omega)]; exact t7⟩
    have hrow : WBF (cpG N 626 0 625 0 780 625) := WBF_ext w1 (fun k k0 k1 => by
      unfold cpG
      rw [if_pos ⟨rfl, by omega, by omega⟩, show (0 + k - 0 : Int) = k by omega]
      exact k7 k k0 k1)
    obtain ⟨h1, h2, h3, ⟨h4, h5⟩, h6, h7, h8⟩ := i7
    unfold MInv MS
    simp (disch := omega) only [cpG_n]
    exact ⟨h1, hrow, h3, ⟨h4, h5⟩, h6, h7, h8⟩
  · rw [if_neg hy, bnd_s, bnd_s]
    have i8 := MInv_67 i7
    rw [i8.1.1, if_pos (by rw [kd_625, sz_625]; omega)]
    exact ⟨_, _, rfl, i8, MF_pU (MF_pU f7 (by omega)) (by omega), by rw [pU_s, u1_n (by omega), pU_s, u1_n (by omega)]; exact t7⟩
end MODEL37
