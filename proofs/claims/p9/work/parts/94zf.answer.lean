/-! ===== the answer to a question, in both (own work) ===== -/
section PAR43
variable {g g' G G' H H' K : gH} {r r' dm : Int → Int} {a b c d e i j k l m n o p q s t u v w x y z S T gp code : Int}
theorem jq_holder (h : JA G H) : JQ t0 G (fC_holder G 0 a) (fM_holder H 624 a) := by
  have q := jaQ h
  have hb := jaM h
  have o1 := JA_th (t := 0) h
  have e25 : th H 0 625 = H 625 := th_n (by omega)
  have h01 : th H 0 624 0 = 625 := o1.2.1.1.1
  have e8 : pU H 624 8 0 = th H 0 := rfl
  rw [fC_holder, fM_holder, bnd_s, e8]
  rcases vM_noDuty (g := th H 0) (a := a) (c := 1) with ⟨a1, e1⟩ | ⟨a1, e1⟩
  · rw [e1, bdN_s, if_neg f0, rg_n a1, qe1]; exact JQ_e (k := 0) (JA_th o1) (th8.trans rfl) (by decide)
  · have hd := h.2.1.2.1.2.2.2.2.2.2.1 a a1.1 (by omega)
    rw [e1, bdN_s, if_pos rfl, rg_y a1, bdQ_0, ja0 h, if_pos (kdT T1), qT_holder q (by omega) (by omega), bdP_s, if_pos (kdp T1 (by omega)), TS_n q.2.1.1 (by omega), h01, w32_r (by omega), if_pos (g625 (by omega)), e25]
    exact JQ_i o1 th8
end PAR43
