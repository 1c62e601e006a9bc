/-! ===== calls that change the tree, in both, more (own work) ===== -/
section PAR30
variable {g g' G G' H H' K : gH} {r r' d d' dm : Int → Int} {a b c e i j k l m n o p q s t u v w x y z S T gp code : Int}
/-- a field of a process, in both -/
theorem QQ_f (h : QQ S G r d) (h1 : r 1 ≤ 40) (hp : 0 ≤ p ∧ p < r 0) (hab : (a = 4 ∧ b = 100) ∨ (a = 6 ∧ b = 220) ∨ (a = 7 ∧ b = 260) ∨ (a = 8 ∧ b = 340)) (hw : WB (u1 r (b + p) v)) : QQ S (pU G (pc S p) a v) (u1 r (b + p) v) d ∧ TF S G (pU G (pc S p) a v) := by
  have hb := QQ_b h
  have bp := pc_b (T := S) (i := p) (by omega)
  rcases hab with hab | hab | hab | hab
  all_goals
    refine ⟨⟨h.1, (IT_w (IT_r h.2.1) (by omega)).1, hw, CP_pf h.2.2.2.1 (by omega) h1 hp (by obtain ⟨rfl, rfl⟩ := hab; decide), fun i i0 i1 => ?_, ?_⟩, (IT_w (IT_r h.2.1) (by omega)).2⟩
    · rw [pU_y (by omega)]; exact h.2.2.2.2.1 i i0 i1
    · exact LR_e h.2.2.2.2.2 (u1_n (by omega)) (u1_n (by omega)) (u1_n (by omega))
theorem jo_refuse (h : JA G H) : JO t3 True (fC_refuse G 0 p gp) (fM_refuse H 624 p gp) := by
  have hb := jaM h
  have q := jaQ h
  have o1 := JA_th (t := 0) h
  have e625 : th H 0 625 = H 625 := th_n (by omega)
  rw [fC_refuse, fM_refuse, vM_noProcess h.2.1]
  by_cases a : 0 ≤ p ∧ p < H 625 0
  · rw [if_pos a, if_pos a, bdN_s, if_pos rfl, vM_isSmall, bdP_s, jn_y h a, bdQ_0]
    by_cases b : 0 ≤ gp ∧ gp ≤ 9
    · rw [if_pos b, if_neg f0, jM_refuse_21, if_pos kd_c624, fl0, bdN_s, if_pos rfl, rg_y b, bdQ_0, if_pos (kdp T1 (by omega)), qP_mortal q (by omega), bdP_s, vM_runs o1.2.1.1 (by omega), bdP_s, e625]
      by_cases c : (0 < p ∧ p < H 625 0) ∧ H 625 (140 + p) = 0
      · rw [if_pos c, if_pos c.2, if_neg (show ¬ p = 0 by omega), if_neg f0, jM_refuse_46, if_pos kd_c624, fl0, bdN_s, if_pos rfl, st_1, bdQ_0]
        refine jo_act0 o1 th8 (fun G1 H1 j q1 eG e25 => ?_)
        have e1 : H1 625 = H 625 := e25.trans e625
        have w := j.2.1.2.1
        have hp : 0 < p ∧ p < H1 625 0 := by rw [e1]; exact c.1
        have m4 := j.2.1.1.1
        have hM := jaM j
        have f8 : G1 (pc 1 p) 8 = H1 625 (340 + p) := (QQ_pe q1 (i := p) (by omega)).1.2.2.2.2.2.1
        obtain ⟨q2, t2⟩ := QQ_f (a := 8) (b := 340) (p := p) (v := opI 2 (H1 625 (340 + p)) (opI 4 1 gp)) q1 (ja40 j) (by omega) (by omega) (WBF_rf w (by omega)).1
        have w2 := WBF_rf (p := p) (v := opI 2 (H1 625 (340 + p)) (opI 4 1 gp)) w (by omega)
        have n0 : u1 (H1 625) (340 + p) (opI 2 (H1 625 (340 + p)) (opI 4 1 gp)) 0 = H1 625 0 := u1_n (by omega)
        obtain ⟨f, ef⟩ : ∃ f, fu = f + 1 := ⟨fu - 1, by have := fu_ge; omega⟩
        obtain ⟨v, G2, r2, y1, y2, y3, y4, y5⟩ := lk_refuse (p := p) (gp := gp) j.2.1.1 _ f fu 1 0 _ _ rfl (by have := fu_ge; omega) (by rw [n0]; have := fu_ge; omega) (by omega) (by omega) (by omega) q2 w2 (by rw [n0]; exact hp)
        rw [bnd_s, f8, m4, w32_r (x := 340 + p) (by omega), if_pos (g625 (by omega)), if_pos (g625 (by omega)), bnd_s, pU_625, y2]
        have e0 : pU G1 (pc 1 p) 8 (opI 2 (H1 625 (340 + p)) (opI 4 1 gp)) 0 0 = 1 := by rw [t2 0 (by omega)]; exact ja0 j
        have s0 : lT_loseGroup_16 1 (pc 1 p) gp (1 + 2) 40 fu 0 0 (pU G1 (pc 1 p) 8 (opI 2 (H1 625 (340 + p)) (opI 4 1 gp))) = lT_loseGroup_16 1 (pc 1 p) gp (1 + 2) 40 f 0 1 (pU G1 (pc 1 p) 8 (opI 2 (H1 625 (340 + p)) (opI 4 1 gp))) := by
          rw [ef]
          show bT_loseGroup_16 1 (pc 1 p) gp (1 + 2) 40 (lT_loseGroup_16 1 (pc 1 p) gp (1 + 2) 40 f) 0 0 _ = _
          rw [bT_loseGroup_16, if_pos (by omega), if_pos ⟨kdT2 T1, by omega, by rw [szT2 T1]; omega⟩, TS_p q2.2.1.1 (by omega), if_pos (kdp T1 (by omega)), qP_child q2 (by omega) (by omega), if_neg (fun z => (ic_t.mp z.2).2.2 rfl), bdP_s, if_pos rfl, w32_r (by omega)]
          rfl
        rw [e0, if_pos (kdT T1), fT_loseGroup, TS_1 q2.2.1.1, if_pos (kdT2 T1), szT2 T1, s0, y1, bdN_s]
        exact ⟨v, v, G2, r2, rfl, rfl, fun _ => rfl, y3, y4, TF_t t2 y5⟩
      · have bad : ∀ X : Option (Int × gH), X = jM_refuse_46 (th H 0) 624 p gp 624 1 → JO t3 True (some (1 + 1, (0, G))) X := by
          intro X hX
          rw [hX, jM_refuse_46, if_pos kd_c624, fl1, bdN_s, if_neg f0]
          exact JO_e (JA_th o1) (th8.trans rfl) (by decide)
        rw [if_neg c, st_n, qe2]
        by_cases c0 : p = 0
        · rw [if_pos c0, jM_refuse_41]; exact bad _ rfl
        · rw [if_neg c0, if_neg (fun z => c ⟨by omega, z⟩), if_pos rfl, jM_refuse_41]; exact bad _ rfl
    · rw [if_neg b, if_pos rfl, jM_refuse_21, if_pos kd_c624, fl1, bdN_s, if_neg f0, rg_n b, qe1]
      exact JO_e (JA_th o1) (th8.trans rfl) (by decide)
  · rw [if_neg a, if_neg a, bdN_s, if_neg f0, jn_n h a, qe3]
    exact JO_e (JA_th h) (th8.trans rfl) (by decide)
end PAR30
