/-! ===== the answer to a question, in both (own work) ===== -/
section PAR43
variable {g g' G G' H H' K : gH} {r r' dm : Int → Int} {a b c d e i j k l m n o p q s t u v w x y z S T gp code : Int}
theorem jv_atDepth (h : JA G H) : JV G (fC_atDepth G 0 d) (fM_atDepth H 624 d) := by
  have q := jaQ h
  have hb := jaM h
  have o1 := JA_th (t := 0) h
  have e25 : th H 0 625 = H 625 := th_n (by omega)
  have h01 : th H 0 624 0 = 625 := o1.2.1.1.1
  have e8 : pU H 624 8 0 = th H 0 := rfl
  obtain ⟨s, t, e1, e2, e3⟩ := loops2 (LC := fun n k s => lC_atDepth_17 G d (1 + 2) 40 n s k) (LM := fun n k t => lM_atDepth_9 (th H 0) 624 d n t k) (EC := some) (EM := fun t => some (t, th H 0)) (s0 := 0) (t0 := 0) (H 625 0) 0 (fun k s t => s = t ∧ 0 ≤ s ∧ s ≤ k) (by omega) (fun n k k0 k1 => by omega) (fun n n' k s t k0 k1 hr => by
    obtain ⟨rfl, s0, s1⟩ := hr
    have ru := vM_runs (g := th H 0) (p := k) o1.2.1.1 (by omega)
    have dk := vM_deep (g := th H 0) (x := k) o1.2.1.1 (by rw [e25]; exact QQ_en q ⟨k0, k1⟩)
    rw [e25] at ru dk
    have eC : lC_atDepth_17 G d (1 + 2) 40 (n + 1) s k = bC_atDepth_17 G d (1 + 2) 40 (lC_atDepth_17 G d (1 + 2) 40 n) s k := rfl
    have eM : lM_atDepth_9 (th H 0) 624 d (n' + 1) s k = bM_atDepth_9 (th H 0) 624 d (lM_atDepth_9 (th H 0) 624 d n') s k := rfl
    show ∃ s' t', lC_atDepth_17 G d (1 + 2) 40 (n + 1) s k = _ ∧ lM_atDepth_9 (th H 0) 624 d (n' + 1) s k = _ ∧ _
    rw [eC, eM, bC_atDepth_17, bM_atDepth_9, if_pos (show k < 40 by omega), if_pos (g24_ q (by omega)), TS_p q.2.1.1 (by omega), if_pos (kdp T1 (by omega)), qP_run q ⟨k0, k1⟩, bdP_s, qP_above q ⟨k0, k1⟩, bdP_s, h01, if_pos (g625 (by omega)), e25, if_pos k1, ru, bdP_s, dk, bdP_s, w32_r (x := k + 1) (by omega), w32_r (x := s + 1) (by omega), w32_r (x := s + 0) (by omega), Int.add_zero]
    by_cases c1 : H 625 (140 + k) = 0
    · rw [if_pos c1, if_neg f0, if_neg f0]
      by_cases c2 : DP (up (H 625)) k = d
      · rw [if_pos c2, if_pos c2]; exact ⟨_, _, rfl, rfl, rfl, by omega, by omega⟩
      · rw [if_neg c2, if_neg c2]; exact ⟨_, _, rfl, rfl, rfl, by omega, by omega⟩
    · rw [if_neg c1, if_pos rfl, if_pos rfl]; exact ⟨_, _, rfl, rfl, rfl, by omega, by omega⟩) (fun n k s t k0 k1 hr => by
    show bC_atDepth_17 G d (1 + 2) 40 (lC_atDepth_17 G d (1 + 2) 40 n) s k = _
    rw [bC_atDepth_17, if_pos k1, if_pos (g24_ q (by omega)), TS_p q.2.1.1 (by omega), if_pos (kdp T1 (by omega)), fP_isRunning, QQ_out q (by omega), if_neg (by omega), bdP_s, if_pos rfl, w32_r (by omega)]) (fun n s _ _ => by
    show bC_atDepth_17 G d (1 + 2) 40 (lC_atDepth_17 G d (1 + 2) 40 n) s 40 = _
    rw [bC_atDepth_17, if_neg (by omega)]) (fun n _ t _ => by
    show bM_atDepth_9 (th H 0) 624 d (lM_atDepth_9 (th H 0) 624 d n) t (H 625 0) = _
    rw [bM_atDepth_9, h01, if_pos (g625 (by omega)), e25, if_neg (by omega)]) ⟨rfl, by omega, by omega⟩
  have e1 : lC_atDepth_17 G d (1 + 2) 40 fu 0 0 = some s := e1
  have e2 : lM_atDepth_9 (th H 0) 624 d fu 0 0 = some (t, th H 0) := e2
  rw [fC_atDepth, ja0 h, if_pos (kdT T1), TS_1 q.2.1.1, if_pos (kdT2 T1), szT2 T1, e1, fM_atDepth, bnd_s, e8, e2, e3.1]
  exact JV_i o1 th8
end PAR43
