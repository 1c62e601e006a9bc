/-! ===== the answer to a question, in both (own work) ===== -/
section PAR43
variable {g g' G G' H H' K : gH} {r r' dm : Int → Int} {a b c d e i j k l m n o p q s t u v w x y z S T gp code : Int}
theorem jv_height (h : JA G H) : JV G (fC_height G 0) (fM_height H 624) := by
  have o1 := JA_th (t := 0) h
  have e8 : pU H 624 8 0 = th H 0 := rfl
  obtain ⟨v, e1, e2⟩ := lk_high o1.2.1.1 (jaQ o1)
  rw [sw_id] at e2
  rw [fC_height, fM_height, bnd_s, e8, ja0 h, if_pos (kdT T1), e1, bdP_s, e2, bdP_s]
  exact JV_i o1 th8
end PAR43
