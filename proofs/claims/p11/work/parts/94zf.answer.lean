/-! ===== the answer to a question, in both (own work) ===== -/
section PAR43
variable {g g' G G' H H' K : gH} {r r' dm : Int → Int} {a b c d e i j k l m n o p q s t u v w x y z S T gp code : Int}
theorem jq_depth (h : JA G H) : JQ t2 G (fC_depth G 0 p) (fM_depth H 624 p) := by
  have q := jaQ h
  have hb := jaM h
  have o1 := JA_th (t := 0) h
  have e25 : th H 0 625 = H 625 := th_n (by omega)
  rw [fC_depth, fM_depth, vM_noProcess h.2.1]
  by_cases a : 0 ≤ p ∧ p < H 625 0
  · have ig := gone_ o1 (p := p) (by rw [e25]; exact a)
    have dk := vM_deep (g := th H 0) (x := p) o1.2.1.1 (by rw [e25]; exact QQ_en q a)
    rw [e25] at ig dk
    rw [if_pos a, if_pos a, bdN_s, if_pos rfl, jn_y h a, bdQ_0, if_pos (kdp T1 (by omega)), QQ_st q a, ig, bdP_s, qP_above q a]
    by_cases c : H 625 (140 + p) = 2
    · rw [if_pos c, if_pos c, fl1, bdN_s, if_neg f0, st_n, qe2]
      exact JQ_e (JA_th o1) (th8.trans rfl) (by decide)
    · rw [if_neg c, if_neg c, fl0, bdN_s, if_pos rfl, st_1, bdQ_0, bdP_s, dk, bdP_s]
      exact JQ_i o1 th8
  · rw [if_neg a, if_neg a, bdN_s, if_neg f0, jn_n h a, qe3]
    exact JQ_e (JA_th h) (th8.trans rfl) (by decide)
end PAR43
