/-! ===== the reference's reader: the order of rules (own work) ===== -/
def pcn (m : Nat) : Nat := m % 2 + m / 2 % 2 + m / 4 % 2 + m / 8 % 2 + m / 16 % 2
theorem msk : ∀ m : Fin 32, ∀ y : Fin 5, opI 1 (opI 5 (m.val : Int) (y.val : Int)) 1 = 1 ∨ (∃ j : Fin 32, opI 2 (m.val : Int) (opI 4 1 (y.val : Int)) = (j.val : Int) ∧ pcn j.val = pcn m.val + 1) := by decide +kernel
theorem pcn_5 : ∀ m : Fin 32, pcn m.val ≤ 5 := by decide +kernel
section MODEL33
variable {g G H K : gH} {p code t c a b k q gp d x y z w v n l i : Int}
theorem vM_ruleHere (h : RD g G) : ∃ y, fM_ruleHere G 624 = some y ∧ (-1 ≤ y ∧ y ≤ 4) := by
  have iw := fun v hv => vM_isWord (v := v) h.1 h.2.2.2.2.1 hv
  obtain ⟨y1, e1, -⟩ := iw 2000021 (by omega)
  obtain ⟨y2, e2, -⟩ := iw 2000022 (by omega)
  obtain ⟨y3, e3, -⟩ := iw 2000023 (by omega)
  obtain ⟨y4, e4, -⟩ := iw 2000024 (by omega)
  obtain ⟨y5, e5, -⟩ := iw 2000025 (by omega)
  rw [fM_ruleHere, e1, bdP_s, e2, bdP_s, e3, bdP_s, e4, bdP_s, e5, bdP_s]
  repeat' split
  all_goals exact ⟨_, rfl, by omega⟩
theorem WB_5 {r : Int → Int} (h : WB r) (hv : 0 ≤ v ∧ v ≤ 5) : WB (u1 r 5 v) := by
  obtain ⟨a1, a2, a3, a4, a5, a6, a7⟩ := h
  have e0 : u1 r 5 v 0 = r 0 := u1_n (by omega)
  unfold WB
  rw [e0, u1_s]
  exact ⟨a1, fun i i0 i1 => by rw [u1_n (by omega)]; exact a2 i i0 i1, acy_ext a3 a2 (fun i i0 i1 => u1_n (show ¬ 60 + i = 5 by omega)), hv, fun i i0 i1 => by rw [u1_n (by omega)]; exact a5 i i0 i1, fun i d i0 i1 d0 d1 => by rw [u1_n (by omega)]; exact a6 i d i0 i1 d0 d1, fun i i0 i1 => by rw [u1_n (by omega)]; exact a7 i i0 i1⟩
theorem WBF_5 {r : Int → Int} (h : WBF r) (hv : 0 ≤ v ∧ v ≤ 5) : WBF (u1 r 5 v) := WBF_pl h (WB_5 h.1 hv) (by omega)
theorem WBF_6 {r : Int → Int} (h : WBF r) (hk : 6 ≤ k ∧ k < 11) : WBF (u1 r k v) := WBF_pl h (WB_eq h.1 (fun j hj => u1_n (by omega))) (by omega)
theorem rs_order (h : RD g G) : RS g G (fM_readOrder G 624) := by
  rw [fM_readOrder]
  refine RS_once h (Int.le_refl _) (fun K hK eK pK => RS_c (gd_w hK.1 (by omega)) ?_)
  rw [bnd_s, hK.1.1.1]
  have key : ∀ (m n : Nat) (j : Fin 32) (K : gH), RD g K → G 624 15 ≤ K 624 15 → K 625 5 = (pcn j.val : Int) → 5 - pcn j.val = m → m < n → RS g G (lM_readOrder_19 624 n (j.val : Int) K) := by
    intro m
    induction m with
    | zero =>
      intro n j K hK pK h5 hm hn
      obtain ⟨n, rfl⟩ : ∃ k, n = k + 1 := ⟨n - 1, by omega⟩
      obtain ⟨y, e, b1, b2⟩ := vM_ruleHere hK
      show RS g G (bM_readOrder_19 624 (lM_readOrder_19 624 n) (j.val : Int) K)
      rw [bM_readOrder_19]
      refine RS_ite (fun _ => ?_) (fun _ => RS_i rfl hK pK)
      rw [e, bdP_s]
      refine RS_ite (fun _ => RS_fails hK pK) (fun hy => RS_ite (fun _ => RS_fails hK pK) (fun hb => ?_))
      exfalso
      have := msk j ⟨y.toNat, by omega⟩
      rw [show ((⟨y.toNat, by omega⟩ : Fin 5).val : Int) = y by simp only []; omega] at this
      rcases this with e1 | ⟨i, e1, e2⟩
      · exact hb e1
      · have := pcn_5 i; omega
    | succ m ih =>
      intro n j K hK pK h5 hm hn
      obtain ⟨n, rfl⟩ : ∃ k, n = k + 1 := ⟨n - 1, by omega⟩
      obtain ⟨y, e, b1, b2⟩ := vM_ruleHere hK
      show RS g G (bM_readOrder_19 624 (lM_readOrder_19 624 n) (j.val : Int) K)
      rw [bM_readOrder_19]
      refine RS_ite (fun _ => ?_) (fun _ => RS_i rfl hK pK)
      rw [e, bdP_s]
      refine RS_ite (fun _ => RS_fails hK pK) (fun hy => RS_ite (fun _ => RS_fails hK pK) (fun hb => ?_))
      have := msk j ⟨y.toNat, by omega⟩
      rw [show ((⟨y.toNat, by omega⟩ : Fin 5).val : Int) = y by simp only []; omega] at this
      rcases this with e1 | ⟨i, e1, e2⟩
      · exact absurd e1 hb
      have p5 := pcn_5 i
      rw [hK.1.1.1, h5, w32_r (by omega)]
      refine RS_c (by rw [kd_625, sz_625]; omega) (RS_c (by rw [kd_625, sz_625]; omega) ?_)
      have r1 := RD_row (k := 6 + (pcn j.val : Int)) (v := y) hK (WBF_6 hK.1.2.1 (by omega)) (by omega) (by omega)
      have q5 : pU K 625 (6 + (pcn j.val : Int)) y 625 5 = (pcn j.val : Int) := by rw [pU_s, u1_n (by omega)]; exact h5
      have qp : G 624 15 ≤ pU K 625 (6 + (pcn j.val : Int)) y 624 15 := by rw [pU_n (by omega)]; exact pK
      rw [bnd_s]
      generalize pU K 625 (6 + (pcn j.val : Int)) y = Q at *
      rw [r1.1.1.1, q5, w32_r (by omega)]
      refine RS_c (by rw [kd_625, sz_625]; omega) (RS_c (by rw [kd_625, sz_625]; omega) ?_)
      have r2 := RD_row (k := 5) (v := (pcn j.val : Int) + 1) r1 (WBF_5 r1.1.2.1 (by omega)) (by omega) (by omega)
      have s5 : pU Q 625 5 ((pcn j.val : Int) + 1) 625 5 = (pcn j.val : Int) + 1 := by rw [pU_s, u1_s]
      have sp : G 624 15 ≤ pU Q 625 5 ((pcn j.val : Int) + 1) 624 15 := by rw [pU_n (by omega)]; exact qp
      rw [bnd_s]
      generalize pU Q 625 5 ((pcn j.val : Int) + 1) = T at *
      refine RS_advance r2 sp (fun L hL fL pL => ?_)
      rw [e1]
      exact ih n i L hL pL (by rw [fL.1 625 (by omega), s5, e2]; omega) (by omega) (by omega)
  have hf := fu_ge
  have r1 := RD_row (k := 5) (v := 0) hK (WBF_5 hK.1.2.1 (by omega)) (by omega) (by omega)
  exact key 5 fu 0 _ r1 (by rw [pU_n (by omega)]; exact pK) (by rw [pU_s, u1_s]; rfl) rfl (by omega)
end MODEL33
