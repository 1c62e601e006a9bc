/-! ===== the answer to a question, in both (own work) ===== -/
section PAR43
variable {g g' G G' H H' K : gH} {r r' dm : Int → Int} {a b c d e i j k l m n o p q s t u v w x y z S T gp code : Int}
theorem jv_rule (h : JA G H) : JV G (fC_rule G 0 a) (fM_rule H 624 a) := by
  have q := jaQ h
  have o1 := JA_th (t := 0) h
  have e25 : th H 0 625 = H 625 := th_n (by omega)
  have h01 : th H 0 624 0 = 625 := o1.2.1.1.1
  have e8 : pU H 624 8 0 = th H 0 := rfl
  have w5 := q.2.2.1.2.2.2.1
  have cr := q.2.2.2.1.2.1
  rw [fC_rule, fM_rule, bnd_s, e8, h01, if_pos (g625 (by omega)), e25, w32_r (x := H 625 5 - 1) (by omega), vM_inRange, bdP_s, ja0 h, if_pos (kdT T1), TS_3 q.2.1.1]
  by_cases c1 : a < 0
  · rw [if_pos c1, if_neg (show ¬ (0 ≤ a ∧ a ≤ H 625 5 - 1) by omega), if_pos rfl]; exact JV_i o1 th8
  · rw [if_neg c1]
    by_cases c2 : a < 5
    · rw [if_pos c2, if_pos ⟨kdT4 T1, by omega, by rw [szT4 T1]; exact c2⟩, cr a (by omega) c2]
      by_cases c3 : a < H 625 5
      · rw [if_pos c3, if_pos (show 0 ≤ a ∧ a ≤ H 625 5 - 1 by omega), if_neg f0, w32_r (x := 6 + a) (by omega), if_pos (g625 (by omega))]; exact JV_i o1 th8
      · rw [if_neg c3, if_neg (show ¬ (0 ≤ a ∧ a ≤ H 625 5 - 1) by omega), if_pos rfl]; exact JV_i o1 th8
    · rw [if_neg c2, if_neg (show ¬ (0 ≤ a ∧ a ≤ H 625 5 - 1) by omega), if_pos rfl]; exact JV_i o1 th8
end PAR43
