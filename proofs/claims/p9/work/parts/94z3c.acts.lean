/-! ===== calls that change the tree, in both, more (own work) ===== -/
section PAR30
variable {g g' G G' H H' K : gH} {r r' d d' dm : Int → Int} {a b c e i j k l m n o p q s t u v w x y z S T gp code : Int}
theorem jo_accept (h : JA G H) : JO t3 True (fC_accept G 0 p gp) (fM_accept H 624 p gp) := by
  have hb := jaM h
  have q := jaQ h
  have o1 := JA_th (t := 0) h
  have e625 : th H 0 625 = H 625 := th_n (by omega)
  rw [fC_accept, fM_accept, vM_noProcess h.2.1]
  by_cases a : 0 ≤ p ∧ p < H 625 0
  · rw [if_pos a, if_pos a, bdN_s, if_pos rfl, vM_isSmall, bdP_s, jn_y h a, bdQ_0]
    by_cases b : 0 ≤ gp ∧ gp ≤ 9
    · rw [if_pos b, if_neg f0, jM_accept_21, if_pos kd_c624, fl0, bdN_s, if_pos rfl, rg_y b, bdQ_0, if_pos (kdp T1 (by omega)), qP_run q a, bdP_s, vM_runs o1.2.1.1 (by omega), bdP_s, e625]
      by_cases c : H 625 (140 + p) = 0
      · rw [if_pos c, if_neg f0, jM_accept_42, if_pos kd_c624, fl0, bdN_s, if_pos rfl, st_1, bdQ_0]
        refine jo_act0 o1 th8 (fun G1 H1 j q1 eG e25 => ?_)
        have e1 : H1 625 = H 625 := e25.trans e625
        have w := j.2.1.2.1
        have hp : 0 ≤ p ∧ p < H1 625 0 := by rw [e1]; exact a
        have m4 := j.2.1.1.1
        have hM := jaM j
        have f8 : G1 (pc 1 p) 8 = H1 625 (340 + p) := (QQ_pe q1 hp).1.2.2.2.2.2.1
        obtain ⟨q2, t2⟩ := QQ_f (a := 8) (b := 340) (p := p) (v := opI 1 (H1 625 (340 + p)) (opI 3 (opI 4 1 gp) (-1))) q1 (ja40 j) hp (by omega) (WBF_rf w hp).1
        have w2 := WBF_rf (p := p) (v := opI 1 (H1 625 (340 + p)) (opI 3 (opI 4 1 gp) (-1))) w hp
        rw [qP_refuses q1 hp, bdP_s, bnd_s, f8, vM_refuses j.2.1.1 (by omega), bdP_s, m4, w32_r (x := 340 + p) (by omega), if_pos (g625 (by omega)), if_pos (g625 (by omega)), bnd_s, pU_625]
        exact ⟨_, _, _, _, rfl, rfl, fun _ => rfl, q2, w2, t2⟩
      · rw [if_neg c, if_pos rfl, jM_accept_42, if_pos kd_c624, fl1, bdN_s, if_neg f0, st_n, qe2]
        exact JO_e (JA_th o1) (th8.trans rfl) (by decide)
    · rw [if_neg b, if_pos rfl, jM_accept_21, if_pos kd_c624, fl1, bdN_s, if_neg f0, rg_n b, qe1]
      exact JO_e (JA_th o1) (th8.trans rfl) (by decide)
  · rw [if_neg a, if_neg a, bdN_s, if_neg f0, jn_n h a, qe3]
    exact JO_e (JA_th h) (th8.trans rfl) (by decide)
end PAR30
