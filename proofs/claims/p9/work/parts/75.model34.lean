/-! ===== the reference's reader: the text (own work) ===== -/
section MODEL34
variable {g G H K : gH} {p code t c a b k q gp d x y z w v n l i : Int}
theorem RS_w {X : Option (Int × gH)} (h : RS g G X) : RS g G (bdN X (fun y H => some (y, H))) := by
  obtain ⟨y, H, e, k1, k2⟩ := h
  rw [e, bdN_s]; exact RS_i rfl k1 k2
theorem rs_statement (h : RD g G) : RS g G (fM_readStatement G 624) := by
  have iw := fun v hv => vM_isWord (v := v) h.1 h.2.2.2.2.1 hv
  obtain ⟨y1, e1, -⟩ := iw 2000013 (by omega)
  obtain ⟨y2, e2, -⟩ := iw 2000014 (by omega)
  obtain ⟨y3, e3, -⟩ := iw 2000015 (by omega)
  obtain ⟨y4, e4, -⟩ := iw 2000020 (by omega)
  obtain ⟨y5, e5, -⟩ := iw 2000016 (by omega)
  obtain ⟨y6, e6, -⟩ := iw 2000017 (by omega)
  obtain ⟨y7, e7, -⟩ := iw 2000018 (by omega)
  obtain ⟨y8, e8, -⟩ := iw 2000019 (by omega)
  rw [fM_readStatement, e1, bdP_s, e2, bdP_s, e3, bdP_s, e4, bdP_s, e5, bdP_s, e6, bdP_s, e7, bdP_s, e8, bdP_s]
  exact RS_ite (fun _ => RS_ite (fun _ => RS_ite (fun _ => RS_ite (fun _ => RS_ite (fun _ => RS_ite (fun _ => RS_ite (fun _ => RS_ite (fun _ => RS_fails h (Int.le_refl _)) (fun _ => RS_w (rs_refusal h))) (fun _ => RS_w (rs_duty h))) (fun _ => RS_w (rs_heir h))) (fun _ => RS_w (rs_process h))) (fun _ => RS_w (rs_will h))) (fun _ => RS_w (rs_root h))) (fun _ => RS_w (rs_deep h))) (fun _ => RS_w (rs_order h))
theorem rs_text (h : RD g G) : ∃ y H, fM_readText G 624 = some (y, H) ∧ RD g H := by
  have key : ∀ (m n : Nat) (K : gH), RD g K → (K 624 18 = 0 ∨ (K 624 10 - K 624 15).toNat + 1 ≤ m) → m < n → ∃ y H, lM_readText_0 624 n K = some (y, H) ∧ RD g H := by
    intro m
    induction m with
    | zero =>
      intro n K hK hm hn
      obtain ⟨n, rfl⟩ : ∃ k, n = k + 1 := ⟨n - 1, by omega⟩
      have h18 : K 624 18 = 0 := by omega
      refine ⟨1, K, ?_, hK⟩
      show bM_readText_0 624 (lM_readText_0 624 n) K = _
      rw [bM_readText_0, if_pos h18]
    | succ m ih =>
      intro n K hK hm hn
      obtain ⟨n, rfl⟩ : ∃ k, n = k + 1 := ⟨n - 1, by omega⟩
      show ∃ y H, bM_readText_0 624 (lM_readText_0 624 n) K = some (y, H) ∧ RD g H
      rw [bM_readText_0]
      by_cases h18 : K 624 18 = 0
      · rw [if_pos h18]; exact ⟨1, K, rfl, hK⟩
      · rw [if_neg h18]
        obtain ⟨y, L, e, hL, pL⟩ := rs_statement hK
        rw [e, bdN_s]
        by_cases hy : y = 0
        · rw [if_pos hy]; exact ⟨0, L, rfl, hL⟩
        · rw [if_neg hy]
          by_cases h3 : L 624 18 = 3
          · rw [if_pos h3]
            obtain ⟨M, e2, hM, aM⟩ := rd_advance hL
            rw [e2, bdN_s]
            refine ih n M hM ?_ (by omega)
            rcases aM.2.2.2.2 with z | z
            · exact Or.inl z
            · right
              have t := hM.2.2.2.2.1
              have l1 := hM.2.2.2.1
              have l2 := hK.2.2.2.1
              unfold TK at t
              omega
          · rw [if_neg h3]
            obtain ⟨M, e2, hM, -⟩ := rd_fails (v := 1) hL
            rw [e2, bdN_s]
            exact ⟨0, M, rfl, hM⟩
  have hf := fu_ge
  have h10 := h.1.2.2.2.2.2.1
  have ht := h.2.2.2.2.1
  unfold TK at ht
  exact key 501 fu G h (Or.inr (by omega)) (by omega)
end MODEL34
