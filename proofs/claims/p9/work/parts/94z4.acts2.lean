/-! ===== calls that change the tree, in both: setHeir to readAll (own work) ===== -/
section PAR31
variable {g g' G G' H H' K : gH} {r r' d d' dm : Int → Int} {a b c e i j k l m n o p q s t u v w x y z S T gp code : Int}
theorem jo_setHeir (h : JA G H) : JO t3 True (fC_setHeir G 0 p c) (fM_setHeir H 624 p c) := by
  have hb := jaM h
  have q := jaQ h
  have o1 := JA_th (t := 0) h
  have h01 : th H 0 624 0 = 625 := o1.2.1.1.1
  have e625 : th H 0 625 = H 625 := th_n (by omega)
  rw [fC_setHeir, fM_setHeir, vM_noProcess h.2.1]
  by_cases a : 0 ≤ p ∧ p < H 625 0
  · have tail : ¬ p = c → (-1 ≤ c ∧ c < H 625 0) → JO t3 True (if kd (pc 1 p) = 3 then bdP (fP_isMortal G (pc 1 p)) (fun y10 => bdQ (fC_checkState G y10) (fun y14 => if kd (G 0 3) = 0 then bdN (fH_push G (G 0 3) (G 0 0)) (fun y23 g25 => bnd (pU g25 (pc 1 p) 7 c) (fun g28 => some (0, ((g25 (pc 1 p) 7), g28)))) else none) (fun E19 => some (E19 + 1, (0, G)))) else none) (jM_setHeir_48 (th H 0) 624 p c 624 0) := by
      intro hpc hc
      rw [jM_setHeir_48, if_pos kd_c624, fl0, bdN_s, if_pos rfl, if_pos (kdp T1 (by omega)), qP_mortal q (by omega), bdP_s, vM_runs o1.2.1.1 (by omega), bdP_s, e625]
      by_cases c1 : (0 < p ∧ p < H 625 0) ∧ H 625 (140 + p) = 0
      · rw [if_pos c1, if_pos c1.2, if_neg (show ¬ p = 0 by omega), if_neg f0, jM_setHeir_73, if_pos kd_c624, fl0, bdN_s, if_pos rfl, st_1, bdQ_0]
        refine jo_act0 o1 th8 (fun G1 H1 j q1 eG e25 => ?_)
        have e1 : H1 625 = H 625 := e25.trans e625
        have w := j.2.1.2.1
        have hp : 0 ≤ p ∧ p < H1 625 0 := by rw [e1]; exact a
        have m4 := j.2.1.1.1
        have hM := jaM j
        have w2 := WBF_h1 (p := p) (c := c) w hp (by rw [e1]; exact hc)
        obtain ⟨q2, t2⟩ := QQ_f (a := 7) (b := 260) (p := p) (v := c) q1 (ja40 j) hp (by omega) w2.1
        have fv : G1 (pc 1 p) 7 = H1 625 (260 + p) := (QQ_pe q1 hp).1.2.2.2.2.1
        rw [bnd_s, fv, m4, w32_r (x := 260 + p) (by omega), if_pos (g625 (by omega)), if_pos (g625 (by omega)), bnd_s, pU_625]
        exact ⟨_, _, _, _, rfl, rfl, fun _ => rfl, q2, w2, t2⟩
      · have bad : ∀ X : Option (Int × gH), X = jM_setHeir_73 (th H 0) 624 p c 624 1 → JO t3 True (some (1 + 1, (0, G))) X := by
          intro X hX
          rw [hX, jM_setHeir_73, if_pos kd_c624, fl1, bdN_s, if_neg f0]
          exact JO_e (JA_th o1) (th8.trans rfl) (by decide)
        rw [if_neg c1, st_n, qe2]
        by_cases c0 : p = 0
        · rw [if_pos c0, jM_setHeir_68]; exact bad _ rfl
        · rw [if_neg c0, if_neg (fun z => c1 ⟨by omega, z⟩), if_pos rfl, jM_setHeir_68]; exact bad _ rfl
    rw [if_pos a, if_pos a, bdN_s, if_pos rfl, jn_y h a, bdQ_0, h01, if_pos (g625 (by omega)), e625, w32_r (by omega), vM_inRange, bdP_s]
    by_cases c2 : c = -1
    · rw [if_pos c2, if_pos (show -1 ≤ c ∧ c ≤ H 625 0 - 1 by omega), if_neg f0, jM_setHeir_30, if_pos kd_c624, fl0, bdN_s, if_pos rfl, if_neg (show ¬ p = c by omega)]
      exact tail (by omega) (by omega)
    · rw [if_neg c2]
      by_cases c3 : 0 ≤ c ∧ c < H 625 0
      · rw [jn_y h c3, bdQ_0, if_pos (show -1 ≤ c ∧ c ≤ H 625 0 - 1 by omega), if_neg f0, jM_setHeir_30, if_pos kd_c624, fl0, bdN_s, if_pos rfl]
        by_cases c4 : p = c
        · rw [if_pos (show pc 1 c = pc 1 p by rw [c4]), if_pos c4, jM_setHeir_48, if_pos kd_c624, fl1, bdN_s, if_neg f0]
          exact JO_e (k := 0) (JA_th o1) (th8.trans rfl) (by decide)
        · rw [if_neg (fun z => c4 (pc_inj c3.1 a.1 z).symm), if_neg c4]
          exact tail c4 (by omega)
      · rw [jn_n h c3, qe3, if_neg (show ¬ (-1 ≤ c ∧ c ≤ H 625 0 - 1) by omega), if_pos rfl, jM_setHeir_30, if_pos kd_c624, fl1, bdN_s, if_neg f0]
        exact JO_e (JA_th o1) (th8.trans rfl) (by decide)
  · rw [if_neg a, if_neg a, bdN_s, if_neg f0, jn_n h a, qe3]
    exact JO_e (JA_th h) (th8.trans rfl) (by decide)
theorem jo_give (h : JA G H) : JO tv True (fC_give G 0 a p) (fM_give H 624 a p) := by
  have hb := jaM h
  have q := jaQ h
  have o1 := JA_th (t := 0) h
  have h01 : th H 0 624 0 = 625 := o1.2.1.1.1
  have e625 : th H 0 625 = H 625 := th_n (by omega)
  have e8 : pU H 624 8 0 = th H 0 := rfl
  rw [fC_give, fM_give, bnd_s, e8]
  rcases vM_noDuty (g := th H 0) (a := a) (c := 1) with ⟨a1, e1⟩ | ⟨a1, e1⟩
  · rw [e1, bdN_s, if_neg f0, rg_n a1, qe1]
    exact JO_e (JA_th o1) (th8.trans rfl) (by decide)
  · rw [e1, bdN_s, if_pos rfl, rg_y a1, bdQ_0, h01, if_pos (g625 (by omega)), e625, w32_r (by omega), vM_inRange, bdP_s]
    by_cases b : 0 ≤ p ∧ p < H 625 0
    · rw [if_pos (show 0 ≤ p ∧ p ≤ H 625 0 - 1 by omega), if_neg f0, jM_give_36, if_pos kd_c624, fl0, bdN_s, if_pos rfl, jn_y h b, bdQ_0, if_pos (kdp T1 (by omega)), qP_run q b, bdP_s, vM_runs o1.2.1.1 (by omega), bdP_s, e625]
      by_cases c : H 625 (140 + p) = 0
      · rw [if_pos c, if_neg f0, jM_give_57, if_pos kd_c624, fl0, bdN_s, if_pos rfl, st_1, bdQ_0]
        refine jo_act0 o1 th8 (fun G1 H1 j q1 eG e25 => ?_)
        have e1 : H1 625 = H 625 := e25.trans e625
        have w := j.2.1.2.1
        have hp : 0 ≤ p ∧ p < H1 625 0 := by rw [e1]; exact b
        have m4 := j.2.1.1.1
        have hM := jaM j
        have hd := w.2.2.2.2.2.2.1 a a1.1 (by omega)
        have w2 := WBF_d1 (p := p) (a := a) w hp (by rw [e1]; exact c) (by omega)
        have hI : IT 1 G1 (pU G1 (1 + 3) a p) := IT_w (IT_r q1.2.1) (by omega)
        have q2 : QQ 1 (pU G1 (1 + 3) a p) (u1 (H1 625) (11 + a) p) (H1 630) := by
          refine ⟨T1, hI.1, w2.1, CP_d q1.2.2.2.1 (by omega) (ja40 j) (by omega), fun i i0 i1 => ?_, ?_⟩
          · have bi := pc_b (T := 1) ⟨i0, i1⟩
            rw [pU_n (by omega)]; exact q1.2.2.2.2.1 i i0 i1
          · exact LR_e q1.2.2.2.2.2 (u1_n (by omega)) (u1_n (by omega)) (u1_n (by omega))
        have n0 : G1 (pc 1 (H1 625 (11 + a))) 0 = H1 625 (11 + a) := TS_n q1.2.1.1 (by omega)
        have np : G1 (pc 1 p) 0 = p := TS_n q1.2.1.1 (by omega)
        rw [ja0 j, if_pos (kdT T1), qT_holder q1 (by omega) (by omega), bdP_s, if_pos (kdp T1 (by omega)), fT_giveDuty, if_neg (by omega), if_pos (by omega), if_pos (kdp T1 (by omega)), TS_2 q1.2.1.1, if_pos ⟨kdT3 T1, a1.1, by rw [szT3 T1]; omega⟩, np, bnd_s, bdN_s, n0, m4, w32_r (x := 11 + a) (by omega), if_pos (g625 (by omega)), if_pos (g625 (by omega)), bnd_s, pU_625]
        exact ⟨_, _, _, _, rfl, rfl, fun _ => rfl, q2, w2, hI.2⟩
      · rw [if_neg c, if_pos rfl, jM_give_57, if_pos kd_c624, fl1, bdN_s, if_neg f0, st_n, qe2]
        exact JO_e (JA_th o1) (th8.trans rfl) (by decide)
    · rw [if_neg (show ¬ (0 ≤ p ∧ p ≤ H 625 0 - 1) by omega), if_pos rfl, jM_give_36, if_pos kd_c624, fl1, bdN_s, if_neg f0, jn_n h b, qe3]
      exact JO_e (JA_th o1) (th8.trans rfl) (by decide)
/-- a process comes, in both -/
theorem lk_come (hs : MS H) (h : QQ S G r dm) (hw : WBF r) (hM : r 0 < 40) (hj : 0 ≤ j ∧ j < r 0) (hst : r (140 + j) = 0) (hc : 0 ≤ c ∧ c ≤ 9) (hbu : 0 ≤ b ∧ b ≤ 9) (hd : dm (r 0) = 0) : ∃ G', fT_arrive G S (pc S j) c gp b = some (pc S (r 0), G') ∧ fM_comes (sw H r) 624 j c gp b = some (r 0, sw H (cmR r j c gp b)) ∧ QQ S G' (cmR r j c gp b) dm ∧ WBF (cmR r j c gp b) ∧ TF S G G' := by
  have hb := QQ_b h
  obtain ⟨A, eA, iA, t1, t2, t3, t4, t5, t6, t7⟩ := vT_arrive (a := c) (b := gp) (d := b) (j := j) h.2.1 h.1 (by rw [QQ_0 h]; exact hj) (by rw [QQ_0 h]; omega)
  rw [QQ_0 h] at eA t1 t2 t4 t5 t6 t7
  have kb := kids_bd (r := r) (i := j) (s := 0)
  have f3 := (QQ_pe h hj).2.2.1
  rw [f3, w32_r (by omega), ← f3] at t3
  have hcp := CP_cm h.2.2.2.1 h.2.2.1 (by omega) (by have := WBF_1 hw; omega) hj t1 t2 t3 t4 t5 t6 t7
  have w2 := WBF_cm (gp := gp) hw hM hj hst hc hbu
  have mc := vM_comes (g := sw H r) (a := j) (c := c) (gp := gp) (b := b) (MS_sw hs) (by rw [sw_s]; omega)
  rw [sw_s, sw_sw] at mc
  refine ⟨A, eA, mc, ⟨h.1, iA.1, w2.1, hcp, fun i i0 i1 => ?_, ?_⟩, w2, iA.2⟩
  · have bi := pc_b (T := S) ⟨i0, i1⟩
    by_cases z : i = r 0
    · rw [z, hd]; exact t7.2.1
    · by_cases z2 : i = j
      · rw [z2, t3, u1_n (by omega)]; exact h.2.2.2.2.1 j hj.1 (by omega)
      · rw [t2 _ (by omega) (pc_ne i0 (by omega) z) (pc_ne i0 hj.1 z2)]; exact h.2.2.2.2.1 i i0 i1
  · exact LR_e h.2.2.2.2.2 (cmR_o (by omega) (by omega)) (cmR_o (by omega) (by omega)) (cmR_o (by omega) (by omega))
theorem jo_spawn (h : JA G H) : JO t3 True (fC_spawn G 0 p c gp b) (fM_spawn H 624 p c gp b) := by
  have hb := jaM h
  have q := jaQ h
  have o1 := JA_th (t := 0) h
  have h01 : th H 0 624 0 = 625 := o1.2.1.1.1
  have e625 : th H 0 625 = H 625 := th_n (by omega)
  have bad2 : ∀ X : Option (Int × gH), X = jM_spawn_36 (th H 0) 624 p c gp b 624 1 → JO t3 True (some (0 + 1, (0, G))) X := by
    intro X hX
    rw [hX, jM_spawn_36, if_pos kd_c624, fl1, bdN_s, if_neg f0]
    exact JO_e (JA_th o1) (th8.trans rfl) (by decide)
  have bad3 : ∀ X : Option (Int × gH), X = jM_spawn_70 (th H 0) 624 p c gp b 624 1 → JO t3 True (some (1 + 1, (0, G))) X := by
    intro X hX
    rw [hX, jM_spawn_70, if_pos kd_c624, fl1, bdN_s, if_neg f0]
    exact JO_e (JA_th o1) (th8.trans rfl) (by decide)
  rw [fC_spawn, fM_spawn, vM_noProcess h.2.1]
  by_cases a : 0 ≤ p ∧ p < H 625 0
  · rw [if_pos a, if_pos a, bdN_s, if_pos rfl, vM_isSmall, bdP_s, jn_y h a, bdQ_0, jM_spawn_31]
    by_cases b1 : 0 ≤ c ∧ c ≤ 9
    · rw [if_pos b1, if_neg f0, rg_y b1, bdQ_0, vM_isSmall, bdP_s]
      by_cases b2 : 0 ≤ gp ∧ gp ≤ 9
      · rw [if_pos b2, if_neg f0, rg_y b2, bdQ_0, vM_isSmall, bdP_s]
        by_cases b3 : 0 ≤ b ∧ b ≤ 9
        · have rm := vM_roomOf (g := th H 0) (p := p) o1.2.1.1 o1.2.1.2.1.1 (by rw [e625]; exact a)
          have rb := room_bd q.2.2.1 a
          rw [e625] at rm
          rw [if_pos b3, if_neg f0, rg_y b3, bdQ_0, jM_spawn_36, if_pos kd_c624, fl0, bdN_s, if_pos rfl, if_pos (kdp T1 (by omega)), qP_room q a, bdP_s, rm, bdP_s, ja0 h, if_pos (kdT T1), QQ_0 q, h01, if_pos (g625 (by omega)), e625, jC_spawn_50, jM_spawn_65]
          by_cases c1 : room (H 625) p = 0
          · rw [if_pos c1, if_neg (by omega), jC_spawn_51, st_n, qe2]
            exact bad3 _ rfl
          · rw [if_neg c1, if_pos (by omega)]
            by_cases c2 : H 625 0 = 40
            · rw [if_pos c2, if_neg (by omega), jC_spawn_51, st_n, qe2]
              exact bad3 _ rfl
            · rw [if_neg c2, if_pos (by omega), jC_spawn_51, jM_spawn_70, if_pos kd_c624, fl0, bdN_s, if_pos rfl, st_1, bdQ_0]
              refine jo_act0 o1 th8 (fun G1 H1 j q1 eG e25 => ?_)
              have e1 : H1 625 = H 625 := e25.trans e625
              have w := j.2.1.2.1
              have hM : H1 625 0 < 40 := by rw [e1]; omega
              obtain ⟨G2, x1, x2, x3, x4, x5⟩ := lk_come (c := c) (gp := gp) (b := b) (j := p) j.2.1.1 q1 w hM (by rw [e1]; exact a) (by rw [e1]; exact room_run c1) b1 b3 (j.2.1.2.2.1 _ (by have := jaM j; omega) hM)
              rw [sw_id] at x2
              have hMj := jaM j
              rw [ja0 j, if_pos (kdT T1), x1, bdN_s, x2, bdN_s, fC_numberOf, if_neg (pc_pos T1 (by omega)), if_pos (kdp T1 (by omega)), TS_n x3.2.1.1 (by omega), bdP_s]
              exact ⟨_, _, _, _, rfl, rfl, fun _ => rfl, x3, x4, x5⟩
        · rw [if_neg b3, if_pos rfl, rg_n b3, qe1]; exact bad2 _ rfl
      · rw [if_neg b2, if_pos rfl, rg_n b2, qe1]; exact bad2 _ rfl
    · rw [if_neg b1, if_pos rfl, rg_n b1, qe1]; exact bad2 _ rfl
  · rw [if_neg a, if_neg a, bdN_s, if_neg f0, jn_n h a, qe3]
    exact JO_e (JA_th h) (th8.trans rfl) (by decide)
theorem jo_move (h : JA G H) : JO t2 True (fC_move G 0 p q) (fM_move H 624 p q) := by
  have hb := jaM h
  have qq := jaQ h
  have o1 := JA_th (t := 0) h
  have h01 : th H 0 624 0 = 625 := o1.2.1.1.1
  have e625 : th H 0 625 = H 625 := th_n (by omega)
  have bad : ∀ X : Option (Int × gH), X = jM_move_84 (th H 0) 624 p q 624 1 → JO t2 True (jC_move_60 G 0 (pc 1 p) (pc 1 q) 0) X := by
    intro X hX
    rw [hX, jM_move_84, if_pos kd_c624, fl1, bdN_s, if_neg f0, jC_move_60, st_n, qe2]
    exact JO_e (JA_th o1) (th8.trans rfl) (by decide)
  rw [fC_move, fM_move, vM_noProcess h.2.1]
  by_cases a : 0 ≤ p ∧ p < H 625 0
  · rw [if_pos a, if_pos a, bdN_s, if_pos rfl, vM_noProcess2 h.2.1, jn_y h a, bdQ_0]
    by_cases b : 0 ≤ q ∧ q < H 625 0
    · have rp := vM_runs (g := th H 0) (p := p) o1.2.1.1 (by omega)
      have rq := vM_runs (g := th H 0) (p := q) o1.2.1.1 (by omega)
      have ov := vM_isOver (g := th H 0) (p := p) (x := q) o1.2.1.1 (by rw [e625]; exact QQ_en qq b)
      have rm := vM_roomOf (g := th H 0) (p := q) o1.2.1.1 o1.2.1.2.1.1 (by rw [e625]; exact b)
      have rf := vM_refuses (g := th H 0) (p := q) (a := H 625 (180 + p)) o1.2.1.1 (by omega)
      have rb := room_bd qq.2.2.1 b
      rw [e625] at rp rq ov rm rf
      rw [if_pos b, if_pos b, bdN_s, if_pos rfl, jn_y h b, bdQ_0, if_pos (kdp T1 (by omega)), qP_mortal qq (by omega), bdP_s, if_pos (kdp T1 (i := q) (by omega)), qP_room qq b, bdP_s, qP_over qq a.1 b, bdP_s, (QQ_pe qq a).1.2.2.1, qP_refuses qq b, bdP_s, rp, bdP_s, rq, bdP_s, ov, bdP_s, rm, bdP_s, h01, e625, w32_r (x := 180 + p) (by omega), if_pos (g625 (by omega)), rf, bdP_s, jC_move_59, jM_move_79]
      by_cases c1 : (0 < p ∧ p < H 625 0) ∧ H 625 (140 + p) = 0
      · rw [if_pos c1, if_neg f0, if_neg (show ¬ p = 0 by omega), if_pos c1.2, if_neg f0]
        by_cases c2 : H 625 (140 + q) = 0
        · rw [if_pos c2, if_neg f0]
          by_cases c3 : p = q
          · rw [if_pos c3, if_pos (show pc 1 q = pc 1 p by rw [c3])]
            split <;> exact bad _ rfl
          · rw [if_neg c3, if_neg (fun z => c3 (pc_inj b.1 a.1 z).symm)]
            by_cases c4 : OV (up (H 625)) p q = true
            · rw [if_pos c4, if_neg f0, if_neg f0]
              split <;> exact bad _ rfl
            · rw [if_neg c4, if_pos rfl, if_pos rfl]
              by_cases c5 : room (H 625) q = 0
              · rw [if_pos c5, if_neg (by omega)]; exact bad _ rfl
              · rw [if_neg c5, if_pos (by omega)]
                by_cases c6 : rfs (H 625) q (H 625 (180 + p)) = true
                · rw [if_pos c6, if_neg f0, if_neg f0]; exact bad _ rfl
                · rw [if_neg c6, if_pos rfl, if_pos rfl, jC_move_60, jM_move_84, if_pos kd_c624, fl0, bdN_s, if_pos rfl, st_1, bdQ_0]
                  refine jo_act0 o1 th8 (fun G1 H1 j q1 eG e25 => ?_)
                  have e1 : H1 625 = H 625 := e25.trans e625
                  have w := j.2.1.2.1
                  have m4 := j.2.1.1.1
                  have hM := jaM j
                  have hp : 0 < p ∧ p < H1 625 0 := by rw [e1]; exact c1.1
                  have hq : 0 ≤ q ∧ q < H1 625 0 := by rw [e1]; exact b
                  have o4 : OV (up (H1 625)) p q = false := by rw [e1]; exact Bool.eq_false_iff.mpr c4
                  have w2 := WBF_sup (r' := u1 (H1 625) (60 + p) q) w (c := p) (t := q) hp hq (fun z => c3 z.symm) o4 (by rw [e1]; exact c2) u1_s (fun k k1 k2 k3 k4 => u1_n k4)
                  obtain ⟨G2, x1, x2, x3⟩ := aP_put q1 (ja40 j) hp (by rw [e1]; exact c1.2) hq (fun z => c3 z.symm) o4
                  have hu := QQ_rg q1 hp
                  have eu : H1 625 (60 + p) = up (H1 625) p := rfl
                  rw [if_pos (kdp T1 (by omega)), QQ_up q1 hp, fC_numberOf, if_neg (pc_pos T1 (by omega)), if_pos (kdp T1 (by omega)), TS_n q1.2.1.1 (by omega), bdP_s, x1, bdN_s, m4, w32_r (x := 60 + p) (by omega), if_pos (g625 (by omega)), if_pos (g625 (by omega)), bnd_s, pU_625, eu]
                  exact ⟨_, _, _, _, rfl, rfl, fun _ => rfl, x2, w2, x3⟩
        · have c5 : room (H 625) q = 0 := by unfold room; rw [if_neg c2]
          rw [if_neg c2, if_pos rfl, if_neg (show ¬ 0 < room (H 625) q by omega)]
          exact bad _ rfl
      · rw [if_neg c1, if_pos rfl]
        by_cases c0 : p = 0
        · rw [if_pos c0]; exact bad _ rfl
        · rw [if_neg c0, if_neg (fun z => c1 ⟨by omega, z⟩), if_pos rfl]; exact bad _ rfl
    · rw [if_neg b, if_neg b, bdN_s, if_neg f0, jn_n h b, qe3]
      exact JO_e (JA_th h) (th8.trans rfl) (by decide)
  · rw [if_neg a, if_neg a, bdN_s, if_neg f0, jn_n h a, qe3]
    exact JO_e (JA_th h) (th8.trans rfl) (by decide)
theorem jo_relieve (h : JA G H) : JO t2 True (fC_relieve G 0 p) (fM_relieve H 624 p) := by
  have hb := jaM h
  have q := jaQ h
  rw [fC_relieve, fM_relieve]
  rcases vM_notExiting (p := p) (c := 2) h.2.1 with ⟨a, e⟩ | ⟨a, c, e⟩ | ⟨a, c, e⟩
  · rw [e, bdN_s, if_neg f0, jn_n h a, qe3]
    exact JO_e (JA_th h) (th8.trans rfl) (by decide)
  · rw [e, bdN_s, if_neg f0, jn_y h a, bdQ_0, if_pos (kdp T1 (by omega)), qP_mortal q (by omega), bdP_s, if_neg (fun z => c ⟨by omega, z.2⟩), st_n, qe2]
    exact JO_e (JA_th h) (th8.trans rfl) (by decide)
  · rw [e, bdN_s, if_pos rfl, jn_y h ⟨by omega, a.2⟩, bdQ_0, if_pos (kdp T1 (by omega)), qP_mortal q (by omega), bdP_s, if_pos ⟨a, c⟩, st_1, bdQ_0]
    refine jo_act0 (JA_th h) th8 (fun G1 H1 j q1 eG e25 => ?_)
    have e1 : H1 625 = H 625 := e25.trans (th_n (by omega))
    have w := j.2.1.2.1
    have m4 := j.2.1.1.1
    have hM := jaM j
    have hfu := fu_ge
    have hp : 0 < p ∧ p < H1 625 0 := by rw [e1]; exact a
    have skip : ∀ (m n : Nat) (k : Int), (k - (H1 625 0 - 1)).toNat = m → H1 625 0 - 1 ≤ k → k < 40 → lT_loseSurplus_5 1 (pc 1 p) (n + m) 0 k G1 = lT_loseSurplus_5 1 (pc 1 p) n 0 (H1 625 0 - 1) G1 := by
      intro m
      induction m with
      | zero =>
        intro n k hm k0 k1
        rw [show k = H1 625 0 - 1 by omega]
        rfl
      | succ m ih =>
        intro n k hm k0 k1
        show bT_loseSurplus_5 1 (pc 1 p) (lT_loseSurplus_5 1 (pc 1 p) (n + m)) 0 k G1 = _
        have g24 : kd (1 + 2) = 24 ∧ (0 : Int) ≤ k ∧ k < sz (1 + 2) := ⟨kdT2 T1, by omega, by rw [szT2 T1]; omega⟩
        rw [bT_loseSurplus_5, if_neg (by omega), if_pos (kdp T1 (by omega)), TS_1 q1.2.1.1, if_pos g24, TS_p q1.2.1.1 (by omega), if_pos (kdp T1 (by omega)), qP_child q1 (by omega) (by omega), bdP_s, if_neg (show ¬ (k < H1 625 0 ∧ ic (H1 625) k p 0 = true) from fun z => by omega), if_pos rfl, w32_r (x := k + -1) (by omega), ih n (k + -1) (by omega) (by omega) (by omega)]
        split <;> rfl
    obtain ⟨f, ef⟩ : ∃ f, fu = f + (39 - (H1 625 0 - 1)).toNat := ⟨fu - (39 - (H1 625 0 - 1)).toNat, by omega⟩
    obtain ⟨v, G2, r2, y1, y2, y3, y4, y5⟩ := lk_relieve (p := p) j.2.1.1 _ f fu (H1 625 0 - 1) 0 G1 (H1 625) rfl (by omega) (by omega) (by omega) (by omega) (by omega) q1 w hp
    rw [sw_id] at y2
    rw [ja0 j, if_pos (kdT T1), fT_loseSurplus, show lT_loseSurplus_5 1 (pc 1 p) fu 0 39 G1 = lT_loseSurplus_5 1 (pc 1 p) f 0 (H1 625 0 - 1) G1 by rw [ef]; exact skip _ f 39 rfl (by omega) (by omega), y1, bdN_s, m4, if_pos (g625 (by omega)), w32_r (by omega), y2]
    exact ⟨_, _, _, _, rfl, rfl, fun _ => rfl, y3, y4, y5⟩
theorem jo_readAll (h : JA G H) : JO t2 True (fC_readAll G 0 p) (fM_readAll H 624 p) := by
  have hb := jaM h
  have q := jaQ h
  rw [fC_readAll, fM_readAll]
  rcases vM_notRunning (p := p) (c := 2) h.2.1 with ⟨a, e⟩ | ⟨a, c, e⟩ | ⟨a, c, e⟩
  · rw [e, bdN_s, if_neg f0, jn_n h a, qe3]
    exact JO_e (JA_th h) (th8.trans rfl) (by decide)
  · rw [e, bdN_s, if_neg f0, jn_y h a, bdQ_0, if_pos (kdp T1 (by omega)), qP_run q a, bdP_s, if_neg c, st_n, qe2]
    exact JO_e (JA_th h) (th8.trans rfl) (by decide)
  · rw [e, bdN_s, if_pos rfl, jn_y h a, bdQ_0, if_pos (kdp T1 (by omega)), qP_run q a, bdP_s, if_pos c, st_1, bdQ_0]
    refine jo_act0 (JA_th h) th8 (fun G1 H1 j q1 eG e25 => ?_)
    have e1 : H1 625 = H 625 := e25.trans (th_n (by omega))
    have w := j.2.1.2.1
    obtain ⟨ra, -⟩ := vM_readsAll (g := H1) (r := H1 625) (p := p) j.2.1.1 w.1.1 w.2.2.2.1 w.2.2.2.2.1 w.2.2.2.2.2.2.2.1
    rw [sw_id] at ra
    obtain ⟨w1, w2⟩ := WF_rd (p := p) w.1 w.2
    obtain ⟨G2, x1, x2, x3⟩ := aT_readZ q1 (by have := WBF_1 w; omega) w.2.2.2.2.2.2.2.1 (p := p) (by rw [e1]; exact a) w1
    rw [ja0 j, if_pos (kdT T1), x1, bdN_s, ra, bdN_s]
    exact ⟨_, _, _, _, rfl, rfl, fun _ => rfl, x2, ⟨w1, w2⟩, x3⟩
theorem jo_prune (h : JA G H) : JO t3 True (fC_prune G 0 p code) (fM_prune H 624 p code) := by
  have hb := jaM h
  have q := jaQ h
  have o1 := JA_th (t := 0) h
  have e625 : th H 0 625 = H 625 := th_n (by omega)
  rw [fC_prune, fM_prune, vM_noProcess h.2.1]
  by_cases a : 0 ≤ p ∧ p < H 625 0
  · rw [if_pos a, if_pos a, bdN_s, if_pos rfl, vM_inRange, bdP_s, jn_y h a, bdQ_0]
    by_cases b : 0 ≤ code ∧ code ≤ 255
    · rw [if_pos b, if_neg f0, jM_prune_25, if_pos kd_c624, fl0, bdN_s, if_pos rfl, rg_y b, bdQ_0, if_pos (kdp T1 (by omega)), qP_run q a, bdP_s, vM_runs o1.2.1.1 (by omega), bdP_s, e625]
      by_cases c : H 625 (140 + p) = 0
      · rw [if_pos c, if_neg f0, jM_prune_46, if_pos kd_c624, fl0, bdN_s, if_pos rfl, st_1, bdQ_0]
        refine jo_act o1 th8 (fun G1 H1 j q1 eG e25 => ?_)
        have e1 : H1 625 = H 625 := e25.trans e625
        have w := j.2.1.2.1
        have hfu := fu_ge
        have hp : 0 ≤ p ∧ p < H1 625 0 := by rw [e1]; exact a
        obtain ⟨c', l1, l2, l3⟩ := lk_lowest (p := p) j.2.1.1 q1 hp
        rw [sw_id] at l2
        have hn := WBF_1 w
        obtain ⟨v, G2, r2, d2, y1, y2, y3, y4, y5, y6⟩ := lk_prune_l (p := p) (code := code) j.2.1.1 b _ fu fu 0 c' G1 (H1 625) (H1 630) rfl (by omega) (by omega) (by omega) l3 q1 w hp
        rw [md_id, sw_id] at y2
        rw [ja0 j, if_pos (kdT T1), fT_pruneBelow, l1, bdP_s, y1, bdN_s, l2, bdP_s, y2]
        exact ⟨_, _, _, _, _, rfl, rfl, fun _ => rfl, y3, y4, y5, fun i i0 i1 => y6 i (j.2.1.2.2.1 i i0 i1)⟩
      · rw [if_neg c, if_pos rfl, jM_prune_46, if_pos kd_c624, fl1, bdN_s, if_neg f0, st_n, qe2]
        exact JO_e (JA_th o1) (th8.trans rfl) (by decide)
    · rw [if_neg b, if_pos rfl, jM_prune_25, if_pos kd_c624, fl1, bdN_s, if_neg f0, rg_n b, qe1]
      exact JO_e (JA_th o1) (th8.trans rfl) (by decide)
  · rw [if_neg a, if_neg a, bdN_s, if_neg f0, jn_n h a, qe3]
    exact JO_e (JA_th h) (th8.trans rfl) (by decide)
end PAR31
