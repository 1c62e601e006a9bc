/-! ===== the answer to a question, in both (own work) ===== -/
section PAR43
variable {g g' G G' H H' K : gH} {r r' dm : Int → Int} {a b c d e i j k l m n o p q s t u v w x y z S T gp code : Int}
theorem jq_below (h : JA G H) : JQ tq G (fC_below G 0 p) (fM_below H 624 p) := by
  have q := jaQ h
  have hb := jaM h
  have o1 := JA_th (t := 0) h
  have e25 : th H 0 625 = H 625 := th_n (by omega)
  rw [fC_below, fM_below, vM_noProcess h.2.1]
  by_cases a : 0 ≤ p ∧ p < H 625 0
  · have bo := vM_belowOf (p := p) o1.2.1.1 o1.2.1.2.1.1
    rw [e25] at bo
    rw [if_pos a, if_pos a, bdN_s, if_pos rfl, jn_y h a, bdQ_0, ja0 h, if_pos (kdT T1), qT_below q a (by omega), bdP_s, vM_runs o1.2.1.1 (by omega), bdP_s, e25]
    by_cases c : H 625 (140 + p) = 0
    · rw [if_pos c, if_neg f0, bo, bdP_s]; exact JQ_i o1 th8
    · rw [if_neg c, if_pos rfl, cn_z _ 0 (fun k k0 k1 => by
        cases hO : OV (up (H 625)) p k with
        | false => rw [Bool.and_false]
        | true =>
          by_cases c2 : H 625 (140 + k) = 0
          · exact absurd (over_run h.2.1.2.1 ⟨k0, by omega⟩ (by omega) hO) c
          · rw [decide_eq_false c2, Bool.false_and])]
      exact JQ_i o1 th8
  · rw [if_neg a, if_neg a, bdN_s, if_neg f0, jn_n h a, qe3]
    exact JQ_e (JA_th h) (th8.trans rfl) (by decide)
end PAR43
