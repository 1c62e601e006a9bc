/-! ===== the evaluator comes to what the functions tell (own work, by program: wip/p2/dec.py) ===== -/
theorem tfW_refuse {Φ : ev_P} {d : Nat} (hd : 6 ≤ d) {g : gH} (hg : HR g) {v0 v1 v2 v3 : Int} (h0 : RfR v0) (h1 : InR v1) (h2 : InR v2) (h3 : RfR v3) : Go Φ pr_P fN 1 (fW_refuse g v0 v1 v2 v3) d (pr_P 317) 0 (ev_loc (pr_P 317).1 [(sR v0), (sI v1), (sI v2), (sR v3)]) [] g 0 0 := by
  show Go Φ pr_P fN 1 (fW_refuse g v0 v1 v2 v3) d pr_m317 0 [some (sR v0), some (sI v1), some (sI v2), some (sR v3), none] [] g 0 0
  unfold fW_refuse
  refine go_aload k317_0 rfl ?_
  refine go_int k317_1 0 rfl ?_
  refine go_aload k317_2 rfl ?_
  refine go_iload k317_3 rfl ?_
  refine go_iload k317_4 rfl ?_
  refine go_ck (fun q1 => ?_)
  refine go_callT1 k317_5 rfl rfl rfl ⟨by decide, _, rfl, q1⟩ ⟨by decide, by decide⟩ (by omega) (tfC_refuse (by omega) hg q1  h1 h2) (fun y2 g4 r3 e5 => ?_) (fun E7 g4 e6 => ?_)
  · refine go_i2l k317_8 r3 ?_
    refine go_ck (fun q8 => ?_)
    refine go_last k317_9 e5 q8 (inL_R r3) (fun g9 e10 => ?_)
    refine go_goto k317_10 ?_
    refine go_int k317_25 0 rfl ?_
    exact go_iret k317_26 e10 (inR_b (Or.inl rfl)) ⟨by decide, by decide⟩ rfl
  · refine ge_ite (fun hE9 => ?_) (fun _ => ?_)
    · subst hE9
      refine ge_catch rfl k317_13 rfl (loc2 := [some (sR v0), some (sI v1), some (sI v2), some (sR v3), none]) rfl ?_
      refine go_int k317_15 1 rfl ?_
      exact go_iret k317_16 e6 (inR_b (Or.inr rfl)) ⟨by decide, by decide⟩ rfl
    refine ge_ite (fun hE9 => ?_) (fun _ => ?_)
    · subst hE9
      refine ge_catch rfl k317_17 rfl (loc2 := [some (sR v0), some (sI v1), some (sI v2), some (sR v3), none]) rfl ?_
      refine go_int k317_19 2 rfl ?_
      exact go_iret k317_20 e6 (inR_of (by decide)) ⟨by decide, by decide⟩ rfl
    refine ge_ite (fun hE9 => ?_) (fun _ => ?_)
    · subst hE9
      refine ge_catch rfl k317_21 rfl (loc2 := [some (sR v0), some (sI v1), some (sI v2), some (sR v3), none]) rfl ?_
      refine go_int k317_23 3 rfl ?_
      exact go_iret k317_24 e6 (inR_of (by decide)) ⟨by decide, by decide⟩ rfl
    exact ge_none
theorem tfC_accept {Φ : ev_P} {d : Nat} (hd : 3 ≤ d) {g : gH} (hg : HR g) {v0 v1 v2 : Int} (hK0 : kd v0 = 6) (h1 : InR v1) (h2 : InR v2) : Go Φ pr_P fT 3 (fC_accept g v0 v1 v2) d (pr_P 22) 0 (ev_loc (pr_P 22).1 [(sR v0), (sI v1), (sI v2)]) [] g 0 0 := by
  show Go Φ pr_P fT 3 (fC_accept g v0 v1 v2) d pr_m22 0 [some (sR v0), some (sI v1), some (sI v2), none, none] [] g 0 0
  unfold fC_accept
  refine go_aload k22_0 rfl ?_
  refine go_iload k22_1 rfl ?_
  refine go_callQ2 k22_2 rfl rfl rfl ⟨by decide, _, rfl, hK0⟩ ⟨by decide, by decide⟩ (by omega) (tfC_named (by omega) hg hK0  h1) (fun y1 r2 => ?_) (fun e5 E6 => ge_prop rfl ⟨by decide, by decide⟩ e5 rfl)
  refine go_astore k22_5 rfl (loc2 := [some (sR v0), some (sI v1), some (sI v2), some (sR y1), none]) rfl ?_
  refine go_iload k22_6 rfl ?_
  refine go_int k22_7 9 rfl ?_
  refine go_callQ0 k22_9 rfl rfl rfl trivial ⟨by decide, by decide⟩ (by omega) (tfC_checkRange (by omega) hg  h2 (inR_of (by decide))) (fun y7 => ?_) (fun e11 E12 => ge_prop rfl ⟨by decide, by decide⟩ e11 rfl)
  refine go_aload k22_12 rfl ?_
  refine go_ck (fun q13 => ?_)
  refine go_callP3 k22_13 rfl rfl rfl ⟨by decide, _, rfl, q13⟩ ⟨by decide, by decide⟩ (by omega) (tfP_isRunning (by omega) hg q13 ) (fun y14 r15 => ?_)
  refine go_callQ0 k22_16 rfl rfl rfl trivial ⟨by decide, by decide⟩ (by omega) (tfC_checkState (by omega) hg  r15) (fun y18 => ?_) (fun e22 E23 => ge_prop rfl ⟨by decide, by decide⟩ e22 rfl)
  refine go_aload k22_19 rfl ?_
  refine go_getR (bI := 3) k22_20 hg hK0 (by decide) rfl rfl (fun r24 => ?_)
  refine go_aload k22_23 rfl ?_
  refine go_getR (bI := 0) k22_24 hg hK0 (by decide) rfl rfl (fun r25 => ?_)
  refine go_ck (fun q26 => ?_)
  refine go_callN0 k22_27 rfl rfl rfl ⟨by decide, _, rfl, q26⟩ ⟨by decide, by decide⟩ (by omega) (tfH_push (by omega) hg q26  r25) (fun y27 g29 e30 => ?_)
  refine go_aload k22_30 rfl ?_
  refine go_iload k22_31 rfl ?_
  refine go_callP3 k22_32 rfl rfl rfl ⟨by decide, _, rfl, q13⟩ ⟨by decide, by decide⟩ (by omega) (tfP_refuses (by omega) e30 q13  h2) (fun y31 r32 => ?_)
  refine go_istore k22_35 rfl (loc2 := [some (sR v0), some (sI v1), some (sI v2), some (sR y1), some (sI y31)]) rfl ?_
  refine go_aload k22_37 rfl ?_
  refine go_dupR k22_38 ?_
  refine go_getI (bI := 8) k22_39 e30 q13 (by decide) rfl rfl (fun r35 => ?_)
  refine go_int k22_42 1 rfl ?_
  refine go_iload k22_43 rfl ?_
  refine go_ibin k22_44 ?_
  refine go_int k22_45 (-1) rfl ?_
  refine go_ibin k22_46 ?_
  refine go_ibin k22_47 ?_
  refine go_putI (bI := 8) k22_48 e30 q13 (by decide) rfl rfl (inR_opI _ _ _) (fun g36 e37 => ?_)
  refine go_iload k22_51 rfl ?_
  exact go_bret k22_53 e37 r32 ⟨by decide, by decide⟩ rfl
theorem tfW_accept {Φ : ev_P} {d : Nat} (hd : 4 ≤ d) {g : gH} (hg : HR g) {v0 v1 v2 v3 : Int} (h0 : RfR v0) (h1 : InR v1) (h2 : InR v2) (h3 : RfR v3) : Go Φ pr_P fN 1 (fW_accept g v0 v1 v2 v3) d (pr_P 318) 0 (ev_loc (pr_P 318).1 [(sR v0), (sI v1), (sI v2), (sR v3)]) [] g 0 0 := by
  show Go Φ pr_P fN 1 (fW_accept g v0 v1 v2 v3) d pr_m318 0 [some (sR v0), some (sI v1), some (sI v2), some (sR v3), none] [] g 0 0
  unfold fW_accept
  refine go_aload k318_0 rfl ?_
  refine go_int k318_1 0 rfl ?_
  refine go_aload k318_2 rfl ?_
  refine go_iload k318_3 rfl ?_
  refine go_iload k318_4 rfl ?_
  refine go_ck (fun q1 => ?_)
  refine go_callT3 k318_5 rfl rfl rfl ⟨by decide, _, rfl, q1⟩ ⟨by decide, by decide⟩ (by omega) (tfC_accept (by omega) hg q1  h1 h2) (fun y2 g4 r3 e5 => ?_) (fun E7 g4 e6 => ?_)
  · refine go_ifeq k318_8 (inR_b r3) (fun c8 => ?_) (fun c9 => ?_)
    · refine go_lconst k318_15 0 rfl ?_
      refine go_ck (fun q10 => ?_)
      refine go_last k318_16 e5 q10 (inL_of (by decide)) (fun g11 e12 => ?_)
      refine go_goto k318_17 ?_
      refine go_int k318_32 0 rfl ?_
      exact go_iret k318_33 e12 (inR_b (Or.inl rfl)) ⟨by decide, by decide⟩ rfl
    · refine go_lconst k318_11 1 rfl ?_
      refine go_goto k318_12 ?_
      refine go_ck (fun q13 => ?_)
      refine go_last k318_16 e5 q13 (inL_of (by decide)) (fun g14 e15 => ?_)
      refine go_goto k318_17 ?_
      refine go_int k318_32 0 rfl ?_
      exact go_iret k318_33 e15 (inR_b (Or.inl rfl)) ⟨by decide, by decide⟩ rfl
  · refine ge_ite (fun hE9 => ?_) (fun _ => ?_)
    · subst hE9
      refine ge_catch rfl k318_20 rfl (loc2 := [some (sR v0), some (sI v1), some (sI v2), some (sR v3), none]) rfl ?_
      refine go_int k318_22 1 rfl ?_
      exact go_iret k318_23 e6 (inR_b (Or.inr rfl)) ⟨by decide, by decide⟩ rfl
    refine ge_ite (fun hE9 => ?_) (fun _ => ?_)
    · subst hE9
      refine ge_catch rfl k318_24 rfl (loc2 := [some (sR v0), some (sI v1), some (sI v2), some (sR v3), none]) rfl ?_
      refine go_int k318_26 2 rfl ?_
      exact go_iret k318_27 e6 (inR_of (by decide)) ⟨by decide, by decide⟩ rfl
    refine ge_ite (fun hE9 => ?_) (fun _ => ?_)
    · subst hE9
      refine ge_catch rfl k318_28 rfl (loc2 := [some (sR v0), some (sI v1), some (sI v2), some (sR v3), none]) rfl ?_
      refine go_int k318_30 3 rfl ?_
      exact go_iret k318_31 e6 (inR_of (by decide)) ⟨by decide, by decide⟩ rfl
    exact ge_none
theorem tjC_move_60 {Φ : ev_P} {d : Nat} (hd : 3 ≤ d) {g : gH} (hg : HR g) {v0 v3 v4 : Int} (hK0 : kd v0 = 6) (h3 : RfR v3) (h4 : RfR v4) {s0 : Int} (z0 : B01 s0) (u1 : Option ev_V) (w1 : nwo u1) (u2 : Option ev_V) (w2 : nwo u2) (u5 : Option ev_V) (w5 : nwo u5) : Go Φ pr_P fT 1 (jC_move_60 g v0 v3 v4 s0 ) d pr_m23 60 [some (sR v0), u1, u2, some (sR v3), some (sR v4), u5] [(sI s0)] g 2 12 := by
  unfold jC_move_60
  refine go_callQ0 k23_60 rfl rfl rfl trivial ⟨by decide, by decide⟩ (by omega) (tfC_checkState (by omega) hg  z0) (fun y42 => ?_) (fun e46 E47 => ge_prop rfl ⟨by decide, by decide⟩ e46 rfl)
  refine go_aload k23_63 rfl ?_
  refine go_getR (bI := 3) k23_64 hg hK0 (by decide) rfl rfl (fun r48 => ?_)
  refine go_aload k23_67 rfl ?_
  refine go_getR (bI := 0) k23_68 hg hK0 (by decide) rfl rfl (fun r49 => ?_)
  refine go_ck (fun q50 => ?_)
  refine go_callN0 k23_71 rfl rfl rfl ⟨by decide, _, rfl, q50⟩ ⟨by decide, by decide⟩ (by omega) (tfH_push (by omega) hg q50  r49) (fun y51 g53 e54 => ?_)
  refine go_aload k23_74 rfl ?_
  refine go_ck (fun q55 => ?_)
  refine go_getR (bI := 2) k23_75 e54 q55 (by decide) rfl rfl (fun r56 => ?_)
  refine go_callP1 k23_78 rfl rfl rfl trivial ⟨by decide, by decide⟩ (by omega) (tfC_numberOf (by omega) e54  r56) (fun y57 r58 => ?_)
  refine go_istore k23_81 rfl (loc2 := [some (sR v0), u1, u2, some (sR v3), some (sR v4), some (sI y57)]) rfl ?_
  refine go_aload k23_83 rfl ?_
  refine go_aload k23_84 rfl ?_
  refine go_callN0 k23_86 rfl rfl rfl ⟨by decide, _, rfl, q55⟩ ⟨by decide, by decide⟩ (by omega) (tfP_putUnder (by omega) e54 q55  h4) (fun y61 g63 e64 => ?_)
  refine go_iload k23_89 rfl ?_
  exact go_iret k23_91 e64 r58 ⟨by decide, by decide⟩ rfl
theorem tjC_move_59 {Φ : ev_P} {d : Nat} (hd : 3 ≤ d) {g : gH} (hg : HR g) {v0 v3 v4 : Int} (hK0 : kd v0 = 6) (h3 : RfR v3) (h4 : RfR v4) (u1 : Option ev_V) (w1 : nwo u1) (u2 : Option ev_V) (w2 : nwo u2) (u5 : Option ev_V) (w5 : nwo u5) : Go Φ pr_P fT 1 (jC_move_59 g v0 v3 v4 ) d pr_m23 59 [some (sR v0), u1, u2, some (sR v3), some (sR v4), u5] [] g 2 12 := by
  unfold jC_move_59
  refine go_int k23_59 0 rfl ?_
  exact tjC_move_60 hd hg hK0 h3 h4 (Or.inl rfl) u1 w1 u2 w2 u5 w5
theorem tfC_move {Φ : ev_P} {d : Nat} (hd : 3 ≤ d) {g : gH} (hg : HR g) {v0 v1 v2 : Int} (hK0 : kd v0 = 6) (h1 : InR v1) (h2 : InR v2) : Go Φ pr_P fT 1 (fC_move g v0 v1 v2) d (pr_P 23) 0 (ev_loc (pr_P 23).1 [(sR v0), (sI v1), (sI v2)]) [] g 0 0 := by
  show Go Φ pr_P fT 1 (fC_move g v0 v1 v2) d pr_m23 0 [some (sR v0), some (sI v1), some (sI v2), none, none, none] [] g 0 0
  unfold fC_move
  refine go_aload k23_0 rfl ?_
  refine go_iload k23_1 rfl ?_
  refine go_callQ2 k23_2 rfl rfl rfl ⟨by decide, _, rfl, hK0⟩ ⟨by decide, by decide⟩ (by omega) (tfC_named (by omega) hg hK0  h1) (fun y1 r2 => ?_) (fun e5 E6 => ge_prop rfl ⟨by decide, by decide⟩ e5 rfl)
  refine go_astore k23_5 rfl (loc2 := [some (sR v0), some (sI v1), some (sI v2), some (sR y1), none, none]) rfl ?_
  refine go_aload k23_6 rfl ?_
  refine go_iload k23_7 rfl ?_
  refine go_callQ2 k23_8 rfl rfl rfl ⟨by decide, _, rfl, hK0⟩ ⟨by decide, by decide⟩ (by omega) (tfC_named (by omega) hg hK0  h2) (fun y7 r8 => ?_) (fun e11 E12 => ge_prop rfl ⟨by decide, by decide⟩ e11 rfl)
  refine go_astore k23_11 rfl (loc2 := [some (sR v0), some (sI v1), some (sI v2), some (sR y1), some (sR y7), none]) rfl ?_
  refine go_aload k23_13 rfl ?_
  refine go_ck (fun q13 => ?_)
  refine go_callP3 k23_14 rfl rfl rfl ⟨by decide, _, rfl, q13⟩ ⟨by decide, by decide⟩ (by omega) (tfP_isMortal (by omega) hg q13 ) (fun y14 r15 => ?_)
  refine go_ifeq k23_17 (inR_b r15) (fun c18 => ?_) (fun c19 => ?_)
  · exact tjC_move_59 hd hg hK0 r2 r8 (some (sI v1)) rfl (some (sI v2)) rfl none rfl
  · refine go_aload k23_20 rfl ?_
    refine go_ck (fun q20 => ?_)
    refine go_callP1 k23_22 rfl rfl rfl ⟨by decide, _, rfl, q20⟩ ⟨by decide, by decide⟩ (by omega) (tfP_room (by omega) hg q20 ) (fun y21 r22 => ?_)
    refine go_ifgt k23_25 r22 (fun c25 => ?_) (fun c26 => ?_)
    · refine go_aload k23_28 rfl ?_
      refine go_aload k23_30 rfl ?_
      refine go_acmp k23_31 r8 r2 (fun c27 => ?_) (fun c28 => ?_)
      · exact tjC_move_59 hd hg hK0 r2 r8 (some (sI v1)) rfl (some (sI v2)) rfl none rfl
      · refine go_aload k23_34 rfl ?_
        refine go_aload k23_35 rfl ?_
        refine go_callP3 k23_37 rfl rfl rfl ⟨by decide, _, rfl, q13⟩ ⟨by decide, by decide⟩ (by omega) (tfP_isOver (by omega) hg q13  r8) (fun y29 r30 => ?_)
        refine go_ifeq k23_40 (inR_b r30) (fun c33 => ?_) (fun c34 => ?_)
        · refine go_aload k23_43 rfl ?_
          refine go_aload k23_45 rfl ?_
          refine go_getI (bI := 5) k23_46 hg q13 (by decide) rfl rfl (fun r35 => ?_)
          refine go_callP3 k23_49 rfl rfl rfl ⟨by decide, _, rfl, q20⟩ ⟨by decide, by decide⟩ (by omega) (tfP_refuses (by omega) hg q20  r35) (fun y36 r37 => ?_)
          refine go_ifeq k23_52 (inR_b r37) (fun c40 => ?_) (fun c41 => ?_)
          · refine go_int k23_55 1 rfl ?_
            refine go_goto k23_56 ?_
            exact tjC_move_60 hd hg hK0 r2 r8 (Or.inr rfl) (some (sI v1)) rfl (some (sI v2)) rfl none rfl
          · exact tjC_move_59 hd hg hK0 r2 r8 (some (sI v1)) rfl (some (sI v2)) rfl none rfl
        · exact tjC_move_59 hd hg hK0 r2 r8 (some (sI v1)) rfl (some (sI v2)) rfl none rfl
    · exact tjC_move_59 hd hg hK0 r2 r8 (some (sI v1)) rfl (some (sI v2)) rfl none rfl
theorem tfW_move {Φ : ev_P} {d : Nat} (hd : 4 ≤ d) {g : gH} (hg : HR g) {v0 v1 v2 v3 : Int} (h0 : RfR v0) (h1 : InR v1) (h2 : InR v2) (h3 : RfR v3) : Go Φ pr_P fN 1 (fW_move g v0 v1 v2 v3) d (pr_P 319) 0 (ev_loc (pr_P 319).1 [(sR v0), (sI v1), (sI v2), (sR v3)]) [] g 0 0 := by
  show Go Φ pr_P fN 1 (fW_move g v0 v1 v2 v3) d pr_m319 0 [some (sR v0), some (sI v1), some (sI v2), some (sR v3), none] [] g 0 0
  unfold fW_move
  refine go_aload k319_0 rfl ?_
  refine go_int k319_1 0 rfl ?_
  refine go_aload k319_2 rfl ?_
  refine go_iload k319_3 rfl ?_
  refine go_iload k319_4 rfl ?_
  refine go_ck (fun q1 => ?_)
  refine go_callT1 k319_5 rfl rfl rfl ⟨by decide, _, rfl, q1⟩ ⟨by decide, by decide⟩ (by omega) (tfC_move (by omega) hg q1  h1 h2) (fun y2 g4 r3 e5 => ?_) (fun E7 g4 e6 => ?_)
  · refine go_i2l k319_8 r3 ?_
    refine go_ck (fun q8 => ?_)
    refine go_last k319_9 e5 q8 (inL_R r3) (fun g9 e10 => ?_)
    refine go_goto k319_10 ?_
    refine go_int k319_21 0 rfl ?_
    exact go_iret k319_22 e10 (inR_b (Or.inl rfl)) ⟨by decide, by decide⟩ rfl
  · refine ge_ite (fun hE9 => ?_) (fun _ => ?_)
    · subst hE9
      refine ge_catch rfl k319_13 rfl (loc2 := [some (sR v0), some (sI v1), some (sI v2), some (sR v3), none]) rfl ?_
      refine go_int k319_15 1 rfl ?_
      exact go_iret k319_16 e6 (inR_b (Or.inr rfl)) ⟨by decide, by decide⟩ rfl
    refine ge_ite (fun hE9 => ?_) (fun _ => ?_)
    · subst hE9
      refine ge_catch rfl k319_17 rfl (loc2 := [some (sR v0), some (sI v1), some (sI v2), some (sR v3), none]) rfl ?_
      refine go_int k319_19 2 rfl ?_
      exact go_iret k319_20 e6 (inR_of (by decide)) ⟨by decide, by decide⟩ rfl
    exact ge_none
theorem tfC_setCapacity {Φ : ev_P} {d : Nat} (hd : 3 ≤ d) {g : gH} (hg : HR g) {v0 v1 v2 : Int} (hK0 : kd v0 = 6) (h1 : InR v1) (h2 : InR v2) : Go Φ pr_P fT 1 (fC_setCapacity g v0 v1 v2) d (pr_P 24) 0 (ev_loc (pr_P 24).1 [(sR v0), (sI v1), (sI v2)]) [] g 0 0 := by
  show Go Φ pr_P fT 1 (fC_setCapacity g v0 v1 v2) d pr_m24 0 [some (sR v0), some (sI v1), some (sI v2), none, none] [] g 0 0
  unfold fC_setCapacity
  refine go_aload k24_0 rfl ?_
  refine go_iload k24_1 rfl ?_
  refine go_callQ2 k24_2 rfl rfl rfl ⟨by decide, _, rfl, hK0⟩ ⟨by decide, by decide⟩ (by omega) (tfC_named (by omega) hg hK0  h1) (fun y1 r2 => ?_) (fun e5 E6 => ge_prop rfl ⟨by decide, by decide⟩ e5 rfl)
  refine go_astore k24_5 rfl (loc2 := [some (sR v0), some (sI v1), some (sI v2), some (sR y1), none]) rfl ?_
  refine go_iload k24_6 rfl ?_
  refine go_int k24_7 9 rfl ?_
  refine go_callQ0 k24_9 rfl rfl rfl trivial ⟨by decide, by decide⟩ (by omega) (tfC_checkRange (by omega) hg  h2 (inR_of (by decide))) (fun y7 => ?_) (fun e11 E12 => ge_prop rfl ⟨by decide, by decide⟩ e11 rfl)
  refine go_aload k24_12 rfl ?_
  refine go_ck (fun q13 => ?_)
  refine go_callP3 k24_13 rfl rfl rfl ⟨by decide, _, rfl, q13⟩ ⟨by decide, by decide⟩ (by omega) (tfP_isRunning (by omega) hg q13 ) (fun y14 r15 => ?_)
  refine go_callQ0 k24_16 rfl rfl rfl trivial ⟨by decide, by decide⟩ (by omega) (tfC_checkState (by omega) hg  r15) (fun y18 => ?_) (fun e22 E23 => ge_prop rfl ⟨by decide, by decide⟩ e22 rfl)
  refine go_aload k24_19 rfl ?_
  refine go_getR (bI := 3) k24_20 hg hK0 (by decide) rfl rfl (fun r24 => ?_)
  refine go_aload k24_23 rfl ?_
  refine go_getR (bI := 0) k24_24 hg hK0 (by decide) rfl rfl (fun r25 => ?_)
  refine go_ck (fun q26 => ?_)
  refine go_callN0 k24_27 rfl rfl rfl ⟨by decide, _, rfl, q26⟩ ⟨by decide, by decide⟩ (by omega) (tfH_push (by omega) hg q26  r25) (fun y27 g29 e30 => ?_)
  refine go_aload k24_30 rfl ?_
  refine go_getI (bI := 4) k24_31 e30 q13 (by decide) rfl rfl (fun r31 => ?_)
  refine go_istore k24_34 rfl (loc2 := [some (sR v0), some (sI v1), some (sI v2), some (sR y1), some (sI (g29 y1 4))]) rfl ?_
  refine go_aload k24_36 rfl ?_
  refine go_iload k24_37 rfl ?_
  refine go_putI (bI := 4) k24_38 e30 q13 (by decide) rfl rfl h2 (fun g32 e33 => ?_)
  refine go_iload k24_41 rfl ?_
  exact go_iret k24_43 e33 r31 ⟨by decide, by decide⟩ rfl
theorem tfW_setCapacity {Φ : ev_P} {d : Nat} (hd : 4 ≤ d) {g : gH} (hg : HR g) {v0 v1 v2 v3 : Int} (h0 : RfR v0) (h1 : InR v1) (h2 : InR v2) (h3 : RfR v3) : Go Φ pr_P fN 1 (fW_setCapacity g v0 v1 v2 v3) d (pr_P 320) 0 (ev_loc (pr_P 320).1 [(sR v0), (sI v1), (sI v2), (sR v3)]) [] g 0 0 := by
  show Go Φ pr_P fN 1 (fW_setCapacity g v0 v1 v2 v3) d pr_m320 0 [some (sR v0), some (sI v1), some (sI v2), some (sR v3), none] [] g 0 0
  unfold fW_setCapacity
  refine go_aload k320_0 rfl ?_
  refine go_int k320_1 0 rfl ?_
  refine go_aload k320_2 rfl ?_
  refine go_iload k320_3 rfl ?_
  refine go_iload k320_4 rfl ?_
  refine go_ck (fun q1 => ?_)
  refine go_callT1 k320_5 rfl rfl rfl ⟨by decide, _, rfl, q1⟩ ⟨by decide, by decide⟩ (by omega) (tfC_setCapacity (by omega) hg q1  h1 h2) (fun y2 g4 r3 e5 => ?_) (fun E7 g4 e6 => ?_)
  · refine go_i2l k320_8 r3 ?_
    refine go_ck (fun q8 => ?_)
    refine go_last k320_9 e5 q8 (inL_R r3) (fun g9 e10 => ?_)
    refine go_goto k320_10 ?_
    refine go_int k320_25 0 rfl ?_
    exact go_iret k320_26 e10 (inR_b (Or.inl rfl)) ⟨by decide, by decide⟩ rfl
  · refine ge_ite (fun hE9 => ?_) (fun _ => ?_)
    · subst hE9
      refine ge_catch rfl k320_13 rfl (loc2 := [some (sR v0), some (sI v1), some (sI v2), some (sR v3), none]) rfl ?_
      refine go_int k320_15 1 rfl ?_
      exact go_iret k320_16 e6 (inR_b (Or.inr rfl)) ⟨by decide, by decide⟩ rfl
    refine ge_ite (fun hE9 => ?_) (fun _ => ?_)
    · subst hE9
      refine ge_catch rfl k320_17 rfl (loc2 := [some (sR v0), some (sI v1), some (sI v2), some (sR v3), none]) rfl ?_
      refine go_int k320_19 2 rfl ?_
      exact go_iret k320_20 e6 (inR_of (by decide)) ⟨by decide, by decide⟩ rfl
    refine ge_ite (fun hE9 => ?_) (fun _ => ?_)
    · subst hE9
      refine ge_catch rfl k320_21 rfl (loc2 := [some (sR v0), some (sI v1), some (sI v2), some (sR v3), none]) rfl ?_
      refine go_int k320_23 3 rfl ?_
      exact go_iret k320_24 e6 (inR_of (by decide)) ⟨by decide, by decide⟩ rfl
    exact ge_none
theorem tfC_setBudget {Φ : ev_P} {d : Nat} (hd : 3 ≤ d) {g : gH} (hg : HR g) {v0 v1 v2 : Int} (hK0 : kd v0 = 6) (h1 : InR v1) (h2 : InR v2) : Go Φ pr_P fT 1 (fC_setBudget g v0 v1 v2) d (pr_P 25) 0 (ev_loc (pr_P 25).1 [(sR v0), (sI v1), (sI v2)]) [] g 0 0 := by
  show Go Φ pr_P fT 1 (fC_setBudget g v0 v1 v2) d pr_m25 0 [some (sR v0), some (sI v1), some (sI v2), none, none] [] g 0 0
  unfold fC_setBudget
  refine go_aload k25_0 rfl ?_
  refine go_iload k25_1 rfl ?_
  refine go_callQ2 k25_2 rfl rfl rfl ⟨by decide, _, rfl, hK0⟩ ⟨by decide, by decide⟩ (by omega) (tfC_named (by omega) hg hK0  h1) (fun y1 r2 => ?_) (fun e5 E6 => ge_prop rfl ⟨by decide, by decide⟩ e5 rfl)
  refine go_astore k25_5 rfl (loc2 := [some (sR v0), some (sI v1), some (sI v2), some (sR y1), none]) rfl ?_
  refine go_iload k25_6 rfl ?_
  refine go_int k25_7 9 rfl ?_
  refine go_callQ0 k25_9 rfl rfl rfl trivial ⟨by decide, by decide⟩ (by omega) (tfC_checkRange (by omega) hg  h2 (inR_of (by decide))) (fun y7 => ?_) (fun e11 E12 => ge_prop rfl ⟨by decide, by decide⟩ e11 rfl)
  refine go_aload k25_12 rfl ?_
  refine go_ck (fun q13 => ?_)
  refine go_callP3 k25_13 rfl rfl rfl ⟨by decide, _, rfl, q13⟩ ⟨by decide, by decide⟩ (by omega) (tfP_isRunning (by omega) hg q13 ) (fun y14 r15 => ?_)
  refine go_callQ0 k25_16 rfl rfl rfl trivial ⟨by decide, by decide⟩ (by omega) (tfC_checkState (by omega) hg  r15) (fun y18 => ?_) (fun e22 E23 => ge_prop rfl ⟨by decide, by decide⟩ e22 rfl)
  refine go_aload k25_19 rfl ?_
  refine go_getR (bI := 3) k25_20 hg hK0 (by decide) rfl rfl (fun r24 => ?_)
  refine go_aload k25_23 rfl ?_
  refine go_getR (bI := 0) k25_24 hg hK0 (by decide) rfl rfl (fun r25 => ?_)
  refine go_ck (fun q26 => ?_)
  refine go_callN0 k25_27 rfl rfl rfl ⟨by decide, _, rfl, q26⟩ ⟨by decide, by decide⟩ (by omega) (tfH_push (by omega) hg q26  r25) (fun y27 g29 e30 => ?_)
  refine go_aload k25_30 rfl ?_
  refine go_getI (bI := 6) k25_31 e30 q13 (by decide) rfl rfl (fun r31 => ?_)
  refine go_istore k25_34 rfl (loc2 := [some (sR v0), some (sI v1), some (sI v2), some (sR y1), some (sI (g29 y1 6))]) rfl ?_
  refine go_aload k25_36 rfl ?_
  refine go_iload k25_37 rfl ?_
  refine go_putI (bI := 6) k25_38 e30 q13 (by decide) rfl rfl h2 (fun g32 e33 => ?_)
  refine go_iload k25_41 rfl ?_
  exact go_iret k25_43 e33 r31 ⟨by decide, by decide⟩ rfl
theorem tfW_setBudget {Φ : ev_P} {d : Nat} (hd : 4 ≤ d) {g : gH} (hg : HR g) {v0 v1 v2 v3 : Int} (h0 : RfR v0) (h1 : InR v1) (h2 : InR v2) (h3 : RfR v3) : Go Φ pr_P fN 1 (fW_setBudget g v0 v1 v2 v3) d (pr_P 321) 0 (ev_loc (pr_P 321).1 [(sR v0), (sI v1), (sI v2), (sR v3)]) [] g 0 0 := by
  show Go Φ pr_P fN 1 (fW_setBudget g v0 v1 v2 v3) d pr_m321 0 [some (sR v0), some (sI v1), some (sI v2), some (sR v3), none] [] g 0 0
  unfold fW_setBudget
  refine go_aload k321_0 rfl ?_
  refine go_int k321_1 0 rfl ?_
  refine go_aload k321_2 rfl ?_
  refine go_iload k321_3 rfl ?_
  refine go_iload k321_4 rfl ?_
  refine go_ck (fun q1 => ?_)
  refine go_callT1 k321_5 rfl rfl rfl ⟨by decide, _, rfl, q1⟩ ⟨by decide, by decide⟩ (by omega) (tfC_setBudget (by omega) hg q1  h1 h2) (fun y2 g4 r3 e5 => ?_) (fun E7 g4 e6 => ?_)
  · refine go_i2l k321_8 r3 ?_
    refine go_ck (fun q8 => ?_)
    refine go_last k321_9 e5 q8 (inL_R r3) (fun g9 e10 => ?_)
    refine go_goto k321_10 ?_
    refine go_int k321_25 0 rfl ?_
    exact go_iret k321_26 e10 (inR_b (Or.inl rfl)) ⟨by decide, by decide⟩ rfl
  · refine ge_ite (fun hE9 => ?_) (fun _ => ?_)
    · subst hE9
      refine ge_catch rfl k321_13 rfl (loc2 := [some (sR v0), some (sI v1), some (sI v2), some (sR v3), none]) rfl ?_
      refine go_int k321_15 1 rfl ?_
      exact go_iret k321_16 e6 (inR_b (Or.inr rfl)) ⟨by decide, by decide⟩ rfl
    refine ge_ite (fun hE9 => ?_) (fun _ => ?_)
    · subst hE9
      refine ge_catch rfl k321_17 rfl (loc2 := [some (sR v0), some (sI v1), some (sI v2), some (sR v3), none]) rfl ?_
      refine go_int k321_19 2 rfl ?_
      exact go_iret k321_20 e6 (inR_of (by decide)) ⟨by decide, by decide⟩ rfl
    refine ge_ite (fun hE9 => ?_) (fun _ => ?_)
    · subst hE9
      refine ge_catch rfl k321_21 rfl (loc2 := [some (sR v0), some (sI v1), some (sI v2), some (sR v3), none]) rfl ?_
      refine go_int k321_23 3 rfl ?_
      exact go_iret k321_24 e6 (inR_of (by decide)) ⟨by decide, by decide⟩ rfl
    exact ge_none
theorem tfC_setHeir {Φ : ev_P} {d : Nat} (hd : 3 ≤ d) {g : gH} (hg : HR g) {v0 v1 v2 : Int} (hK0 : kd v0 = 6) (h1 : InR v1) (h2 : InR v2) : Go Φ pr_P fT 1 (fC_setHeir g v0 v1 v2) d (pr_P 26) 0 (ev_loc (pr_P 26).1 [(sR v0), (sI v1), (sI v2)]) [] g 0 0 := by
  show Go Φ pr_P fT 1 (fC_setHeir g v0 v1 v2) d pr_m26 0 [some (sR v0), some (sI v1), some (sI v2), none, none] [] g 0 0
  unfold fC_setHeir
  refine go_aload k26_0 rfl ?_
  refine go_iload k26_1 rfl ?_
  refine go_callQ2 k26_2 rfl rfl rfl ⟨by decide, _, rfl, hK0⟩ ⟨by decide, by decide⟩ (by omega) (tfC_named (by omega) hg hK0  h1) (fun y1 r2 => ?_) (fun e5 E6 => ge_prop rfl ⟨by decide, by decide⟩ e5 rfl)
  refine go_astore k26_5 rfl (loc2 := [some (sR v0), some (sI v1), some (sI v2), some (sR y1), none]) rfl ?_
  refine go_iload k26_6 rfl ?_
  refine go_int k26_7 (-1) rfl ?_
  refine go_cmeq k26_8 h2 (inR_of (by decide)) (fun c7 => ?_) (fun c8 => ?_)
  · refine go_aload k26_31 rfl ?_
    refine go_ck (fun q9 => ?_)
    refine go_callP3 k26_32 rfl rfl rfl ⟨by decide, _, rfl, q9⟩ ⟨by decide, by decide⟩ (by omega) (tfP_isMortal (by omega) hg q9 ) (fun y10 r11 => ?_)
    refine go_callQ0 k26_35 rfl rfl rfl trivial ⟨by decide, by decide⟩ (by omega) (tfC_checkState (by omega) hg  r11) (fun y14 => ?_) (fun e18 E19 => ge_prop rfl ⟨by decide, by decide⟩ e18 rfl)
    refine go_aload k26_38 rfl ?_
    refine go_getR (bI := 3) k26_39 hg hK0 (by decide) rfl rfl (fun r20 => ?_)
    refine go_aload k26_42 rfl ?_
    refine go_getR (bI := 0) k26_43 hg hK0 (by decide) rfl rfl (fun r21 => ?_)
    refine go_ck (fun q22 => ?_)
    refine go_callN0 k26_46 rfl rfl rfl ⟨by decide, _, rfl, q22⟩ ⟨by decide, by decide⟩ (by omega) (tfH_push (by omega) hg q22  r21) (fun y23 g25 e26 => ?_)
    refine go_aload k26_49 rfl ?_
    refine go_getI (bI := 7) k26_50 e26 q9 (by decide) rfl rfl (fun r27 => ?_)
    refine go_istore k26_53 rfl (loc2 := [some (sR v0), some (sI v1), some (sI v2), some (sR y1), some (sI (g25 y1 7))]) rfl ?_
    refine go_aload k26_55 rfl ?_
    refine go_iload k26_56 rfl ?_
    refine go_putI (bI := 7) k26_57 e26 q9 (by decide) rfl rfl h2 (fun g28 e29 => ?_)
    refine go_iload k26_60 rfl ?_
    exact go_iret k26_62 e29 r27 ⟨by decide, by decide⟩ rfl
  · refine go_aload k26_11 rfl ?_
    refine go_iload k26_12 rfl ?_
    refine go_callQ2 k26_13 rfl rfl rfl ⟨by decide, _, rfl, hK0⟩ ⟨by decide, by decide⟩ (by omega) (tfC_named (by omega) hg hK0  h2) (fun y30 r31 => ?_) (fun e34 E35 => ge_prop rfl ⟨by decide, by decide⟩ e34 rfl)
    refine go_aload k26_16 rfl ?_
    refine go_acmp k26_17 r31 r2 (fun c36 => ?_) (fun c37 => ?_)
    · exact go_throw k26_20 hg ⟨by decide, by decide⟩ rfl rfl
    · refine go_aload k26_31 rfl ?_
      refine go_ck (fun q38 => ?_)
      refine go_callP3 k26_32 rfl rfl rfl ⟨by decide, _, rfl, q38⟩ ⟨by decide, by decide⟩ (by omega) (tfP_isMortal (by omega) hg q38 ) (fun y39 r40 => ?_)
      refine go_callQ0 k26_35 rfl rfl rfl trivial ⟨by decide, by decide⟩ (by omega) (tfC_checkState (by omega) hg  r40) (fun y43 => ?_) (fun e47 E48 => ge_prop rfl ⟨by decide, by decide⟩ e47 rfl)
      refine go_aload k26_38 rfl ?_
      refine go_getR (bI := 3) k26_39 hg hK0 (by decide) rfl rfl (fun r49 => ?_)
      refine go_aload k26_42 rfl ?_
      refine go_getR (bI := 0) k26_43 hg hK0 (by decide) rfl rfl (fun r50 => ?_)
      refine go_ck (fun q51 => ?_)
      refine go_callN0 k26_46 rfl rfl rfl ⟨by decide, _, rfl, q51⟩ ⟨by decide, by decide⟩ (by omega) (tfH_push (by omega) hg q51  r50) (fun y52 g54 e55 => ?_)
      refine go_aload k26_49 rfl ?_
      refine go_getI (bI := 7) k26_50 e55 q38 (by decide) rfl rfl (fun r56 => ?_)
      refine go_istore k26_53 rfl (loc2 := [some (sR v0), some (sI v1), some (sI v2), some (sR y1), some (sI (g54 y1 7))]) rfl ?_
      refine go_aload k26_55 rfl ?_
      refine go_iload k26_56 rfl ?_
      refine go_putI (bI := 7) k26_57 e55 q38 (by decide) rfl rfl h2 (fun g57 e58 => ?_)
      refine go_iload k26_60 rfl ?_
      exact go_iret k26_62 e58 r56 ⟨by decide, by decide⟩ rfl
theorem tfW_setHeir {Φ : ev_P} {d : Nat} (hd : 4 ≤ d) {g : gH} (hg : HR g) {v0 v1 v2 v3 : Int} (h0 : RfR v0) (h1 : InR v1) (h2 : InR v2) (h3 : RfR v3) : Go Φ pr_P fN 1 (fW_setHeir g v0 v1 v2 v3) d (pr_P 322) 0 (ev_loc (pr_P 322).1 [(sR v0), (sI v1), (sI v2), (sR v3)]) [] g 0 0 := by
  show Go Φ pr_P fN 1 (fW_setHeir g v0 v1 v2 v3) d pr_m322 0 [some (sR v0), some (sI v1), some (sI v2), some (sR v3), none] [] g 0 0
  unfold fW_setHeir
  refine go_aload k322_0 rfl ?_
  refine go_int k322_1 0 rfl ?_
  refine go_aload k322_2 rfl ?_
  refine go_iload k322_3 rfl ?_
  refine go_iload k322_4 rfl ?_
  refine go_ck (fun q1 => ?_)
  refine go_callT1 k322_5 rfl rfl rfl ⟨by decide, _, rfl, q1⟩ ⟨by decide, by decide⟩ (by omega) (tfC_setHeir (by omega) hg q1  h1 h2) (fun y2 g4 r3 e5 => ?_) (fun E7 g4 e6 => ?_)
  · refine go_i2l k322_8 r3 ?_
    refine go_ck (fun q8 => ?_)
    refine go_last k322_9 e5 q8 (inL_R r3) (fun g9 e10 => ?_)
    refine go_goto k322_10 ?_
    refine go_int k322_25 0 rfl ?_
    exact go_iret k322_26 e10 (inR_b (Or.inl rfl)) ⟨by decide, by decide⟩ rfl
  · refine ge_ite (fun hE9 => ?_) (fun _ => ?_)
    · subst hE9
      refine ge_catch rfl k322_13 rfl (loc2 := [some (sR v0), some (sI v1), some (sI v2), some (sR v3), none]) rfl ?_
      refine go_int k322_15 1 rfl ?_
      exact go_iret k322_16 e6 (inR_b (Or.inr rfl)) ⟨by decide, by decide⟩ rfl
    refine ge_ite (fun hE9 => ?_) (fun _ => ?_)
    · subst hE9
      refine ge_catch rfl k322_17 rfl (loc2 := [some (sR v0), some (sI v1), some (sI v2), some (sR v3), none]) rfl ?_
      refine go_int k322_19 2 rfl ?_
      exact go_iret k322_20 e6 (inR_of (by decide)) ⟨by decide, by decide⟩ rfl
    refine ge_ite (fun hE9 => ?_) (fun _ => ?_)
    · subst hE9
      refine ge_catch rfl k322_21 rfl (loc2 := [some (sR v0), some (sI v1), some (sI v2), some (sR v3), none]) rfl ?_
      refine go_int k322_23 3 rfl ?_
      exact go_iret k322_24 e6 (inR_of (by decide)) ⟨by decide, by decide⟩ rfl
    exact ge_none
theorem tfC_give {Φ : ev_P} {d : Nat} (hd : 3 ≤ d) {g : gH} (hg : HR g) {v0 v1 v2 : Int} (hK0 : kd v0 = 6) (h1 : InR v1) (h2 : InR v2) : Go Φ pr_P fT 1 (fC_give g v0 v1 v2) d (pr_P 27) 0 (ev_loc (pr_P 27).1 [(sR v0), (sI v1), (sI v2)]) [] g 0 0 := by
  show Go Φ pr_P fT 1 (fC_give g v0 v1 v2) d pr_m27 0 [some (sR v0), some (sI v1), some (sI v2), none, none] [] g 0 0
  unfold fC_give
  refine go_iload k27_0 rfl ?_
  refine go_int k27_1 7 rfl ?_
  refine go_callQ0 k27_3 rfl rfl rfl trivial ⟨by decide, by decide⟩ (by omega) (tfC_checkRange (by omega) hg  h1 (inR_of (by decide))) (fun y1 => ?_) (fun e5 E6 => ge_prop rfl ⟨by decide, by decide⟩ e5 rfl)
  refine go_aload k27_6 rfl ?_
  refine go_iload k27_7 rfl ?_
  refine go_callQ2 k27_8 rfl rfl rfl ⟨by decide, _, rfl, hK0⟩ ⟨by decide, by decide⟩ (by omega) (tfC_named (by omega) hg hK0  h2) (fun y7 r8 => ?_) (fun e11 E12 => ge_prop rfl ⟨by decide, by decide⟩ e11 rfl)
  refine go_astore k27_11 rfl (loc2 := [some (sR v0), some (sI v1), some (sI v2), some (sR y7), none]) rfl ?_
  refine go_aload k27_12 rfl ?_
  refine go_ck (fun q13 => ?_)
  refine go_callP3 k27_13 rfl rfl rfl ⟨by decide, _, rfl, q13⟩ ⟨by decide, by decide⟩ (by omega) (tfP_isRunning (by omega) hg q13 ) (fun y14 r15 => ?_)
  refine go_callQ0 k27_16 rfl rfl rfl trivial ⟨by decide, by decide⟩ (by omega) (tfC_checkState (by omega) hg  r15) (fun y18 => ?_) (fun e22 E23 => ge_prop rfl ⟨by decide, by decide⟩ e22 rfl)
  refine go_aload k27_19 rfl ?_
  refine go_getR (bI := 3) k27_20 hg hK0 (by decide) rfl rfl (fun r24 => ?_)
  refine go_aload k27_23 rfl ?_
  refine go_getR (bI := 0) k27_24 hg hK0 (by decide) rfl rfl (fun r25 => ?_)
  refine go_ck (fun q26 => ?_)
  refine go_callN0 k27_27 rfl rfl rfl ⟨by decide, _, rfl, q26⟩ ⟨by decide, by decide⟩ (by omega) (tfH_push (by omega) hg q26  r25) (fun y27 g29 e30 => ?_)
  refine go_aload k27_30 rfl ?_
  refine go_getR (bI := 0) k27_31 e30 hK0 (by decide) rfl rfl (fun r31 => ?_)
  refine go_iload k27_34 rfl ?_
  refine go_ck (fun q32 => ?_)
  refine go_callP2 k27_35 rfl rfl rfl ⟨by decide, _, rfl, q32⟩ ⟨by decide, by decide⟩ (by omega) (tfT_holderOf (by omega) e30 q32  h1) (fun y33 r34 => ?_)
  refine go_ck (fun q37 => ?_)
  refine go_getI (bI := 0) k27_38 e30 q37 (by decide) rfl rfl (fun r38 => ?_)
  refine go_istore k27_41 rfl (loc2 := [some (sR v0), some (sI v1), some (sI v2), some (sR y7), some (sI (g29 y33 0))]) rfl ?_
  refine go_aload k27_43 rfl ?_
  refine go_getR (bI := 0) k27_44 e30 hK0 (by decide) rfl rfl (fun r39 => ?_)
  refine go_iload k27_47 rfl ?_
  refine go_aload k27_48 rfl ?_
  refine go_callN0 k27_49 rfl rfl rfl ⟨by decide, _, rfl, q32⟩ ⟨by decide, by decide⟩ (by omega) (tfT_giveDuty (by omega) e30 q32  h1 r8) (fun y40 g42 e43 => ?_)
  refine go_iload k27_52 rfl ?_
  exact go_iret k27_54 e43 r38 ⟨by decide, by decide⟩ rfl
theorem tfW_give {Φ : ev_P} {d : Nat} (hd : 4 ≤ d) {g : gH} (hg : HR g) {v0 v1 v2 v3 : Int} (h0 : RfR v0) (h1 : InR v1) (h2 : InR v2) (h3 : RfR v3) : Go Φ pr_P fN 1 (fW_give g v0 v1 v2 v3) d (pr_P 323) 0 (ev_loc (pr_P 323).1 [(sR v0), (sI v1), (sI v2), (sR v3)]) [] g 0 0 := by
  show Go Φ pr_P fN 1 (fW_give g v0 v1 v2 v3) d pr_m323 0 [some (sR v0), some (sI v1), some (sI v2), some (sR v3), none] [] g 0 0
  unfold fW_give
  refine go_aload k323_0 rfl ?_
  refine go_int k323_1 0 rfl ?_
  refine go_aload k323_2 rfl ?_
  refine go_iload k323_3 rfl ?_
  refine go_iload k323_4 rfl ?_
  refine go_ck (fun q1 => ?_)
  refine go_callT1 k323_5 rfl rfl rfl ⟨by decide, _, rfl, q1⟩ ⟨by decide, by decide⟩ (by omega) (tfC_give (by omega) hg q1  h1 h2) (fun y2 g4 r3 e5 => ?_) (fun E7 g4 e6 => ?_)
  · refine go_i2l k323_8 r3 ?_
    refine go_ck (fun q8 => ?_)
    refine go_last k323_9 e5 q8 (inL_R r3) (fun g9 e10 => ?_)
    refine go_goto k323_10 ?_
    refine go_int k323_25 0 rfl ?_
    exact go_iret k323_26 e10 (inR_b (Or.inl rfl)) ⟨by decide, by decide⟩ rfl
  · refine ge_ite (fun hE9 => ?_) (fun _ => ?_)
    · subst hE9
      refine ge_catch rfl k323_13 rfl (loc2 := [some (sR v0), some (sI v1), some (sI v2), some (sR v3), none]) rfl ?_
      refine go_int k323_15 1 rfl ?_
      exact go_iret k323_16 e6 (inR_b (Or.inr rfl)) ⟨by decide, by decide⟩ rfl
    refine ge_ite (fun hE9 => ?_) (fun _ => ?_)
    · subst hE9
      refine ge_catch rfl k323_17 rfl (loc2 := [some (sR v0), some (sI v1), some (sI v2), some (sR v3), none]) rfl ?_
      refine go_int k323_19 2 rfl ?_
      exact go_iret k323_20 e6 (inR_of (by decide)) ⟨by decide, by decide⟩ rfl
    refine ge_ite (fun hE9 => ?_) (fun _ => ?_)
    · subst hE9
      refine ge_catch rfl k323_21 rfl (loc2 := [some (sR v0), some (sI v1), some (sI v2), some (sR v3), none]) rfl ?_
      refine go_int k323_23 3 rfl ?_
      exact go_iret k323_24 e6 (inR_of (by decide)) ⟨by decide, by decide⟩ rfl
    exact ge_none
theorem tfC_adopter {Φ : ev_P} {d : Nat} (hd : 4 ≤ d) {g : gH} (hg : HR g) {v0 v1 : Int} (hK0 : kd v0 = 6) (h1 : InR v1) : Go Φ pr_P (fQ g) 1 (fC_adopter g v0 v1) d (pr_P 28) 0 (ev_loc (pr_P 28).1 [(sR v0), (sI v1)]) [] g 0 0 := by
  show Go Φ pr_P (fQ g) 1 (fC_adopter g v0 v1) d pr_m28 0 [some (sR v0), some (sI v1), none] [] g 0 0
  unfold fC_adopter
  refine go_aload k28_0 rfl ?_
  refine go_iload k28_1 rfl ?_
  refine go_callQ2 k28_2 rfl rfl rfl ⟨by decide, _, rfl, hK0⟩ ⟨by decide, by decide⟩ (by omega) (tfC_named (by omega) hg hK0  h1) (fun y1 r2 => ?_) (fun e5 E6 => ge_prop rfl ⟨by decide, by decide⟩ e5 rfl)
  refine go_astore k28_5 rfl (loc2 := [some (sR v0), some (sI v1), some (sR y1)]) rfl ?_
  refine go_aload k28_6 rfl ?_
  refine go_ck (fun q7 => ?_)
  refine go_callP3 k28_7 rfl rfl rfl ⟨by decide, _, rfl, q7⟩ ⟨by decide, by decide⟩ (by omega) (tfP_isMortal (by omega) hg q7 ) (fun y8 r9 => ?_)
  refine go_callQ0 k28_10 rfl rfl rfl trivial ⟨by decide, by decide⟩ (by omega) (tfC_checkState (by omega) hg  r9) (fun y12 => ?_) (fun e16 E17 => ge_prop rfl ⟨by decide, by decide⟩ e16 rfl)
  refine go_aload k28_13 rfl ?_
  refine go_getR (bI := 0) k28_14 hg hK0 (by decide) rfl rfl (fun r18 => ?_)
  refine go_aload k28_17 rfl ?_
  refine go_ck (fun q19 => ?_)
  refine go_callP2 k28_18 rfl rfl rfl ⟨by decide, _, rfl, q19⟩ ⟨by decide, by decide⟩ (by omega) (tfT_adopterOf (by omega) hg q19  r2) (fun y20 r21 => ?_)
  refine go_ck (fun q24 => ?_)
  refine go_getI (bI := 0) k28_21 hg q24 (by decide) rfl rfl (fun r25 => ?_)
  exact go_iret k28_24 hg r25 ⟨by decide, by decide⟩ rfl
theorem tfW_adopter {Φ : ev_P} {d : Nat} (hd : 5 ≤ d) {g : gH} (hg : HR g) {v0 v1 v2 : Int} (h0 : RfR v0) (h1 : InR v1) (h2 : RfR v2) : Go Φ pr_P fN 1 (fW_adopter g v0 v1 v2) d (pr_P 324) 0 (ev_loc (pr_P 324).1 [(sR v0), (sI v1), (sR v2)]) [] g 0 0 := by
  show Go Φ pr_P fN 1 (fW_adopter g v0 v1 v2) d pr_m324 0 [some (sR v0), some (sI v1), some (sR v2), none] [] g 0 0
  unfold fW_adopter
  refine go_aload k324_0 rfl ?_
  refine go_int k324_1 0 rfl ?_
  refine go_aload k324_2 rfl ?_
  refine go_iload k324_3 rfl ?_
  refine go_ck (fun q1 => ?_)
  refine go_callQ1 k324_4 rfl rfl rfl ⟨by decide, _, rfl, q1⟩ ⟨by decide, by decide⟩ (by omega) (tfC_adopter (by omega) hg q1  h1) (fun y2 r3 => ?_) (fun e6 E7 => ?_)
  · refine go_i2l k324_7 r3 ?_
    refine go_ck (fun q8 => ?_)
    refine go_last k324_8 hg q8 (inL_R r3) (fun g9 e10 => ?_)
    refine go_goto k324_9 ?_
    refine go_int k324_18 0 rfl ?_
    exact go_iret k324_19 e10 (inR_b (Or.inl rfl)) ⟨by decide, by decide⟩ rfl
  · refine ge_ite (fun hE9 => ?_) (fun _ => ?_)
    · subst hE9
      refine ge_catch rfl k324_12 rfl (loc2 := [some (sR v0), some (sI v1), some (sR v2), none]) rfl ?_
      refine go_int k324_13 1 rfl ?_
      exact go_iret k324_14 e6 (inR_b (Or.inr rfl)) ⟨by decide, by decide⟩ rfl
    refine ge_ite (fun hE9 => ?_) (fun _ => ?_)
    · subst hE9
      refine ge_catch rfl k324_15 rfl (loc2 := [some (sR v0), some (sI v1), some (sR v2), none]) rfl ?_
      refine go_int k324_16 2 rfl ?_
      exact go_iret k324_17 e6 (inR_of (by decide)) ⟨by decide, by decide⟩ rfl
    exact ge_none
theorem tfC_heirNow {Φ : ev_P} {d : Nat} (hd : 2 ≤ d) {g : gH} (hg : HR g) {v0 v1 : Int} (hK0 : kd v0 = 6) (h1 : InR v1) : Go Φ pr_P (fQ g) 1 (fC_heirNow g v0 v1) d (pr_P 29) 0 (ev_loc (pr_P 29).1 [(sR v0), (sI v1)]) [] g 0 0 := by
  show Go Φ pr_P (fQ g) 1 (fC_heirNow g v0 v1) d pr_m29 0 [some (sR v0), some (sI v1), none] [] g 0 0
  unfold fC_heirNow
  refine go_aload k29_0 rfl ?_
  refine go_iload k29_1 rfl ?_
  refine go_callQ2 k29_2 rfl rfl rfl ⟨by decide, _, rfl, hK0⟩ ⟨by decide, by decide⟩ (by omega) (tfC_named (by omega) hg hK0  h1) (fun y1 r2 => ?_) (fun e5 E6 => ge_prop rfl ⟨by decide, by decide⟩ e5 rfl)
  refine go_astore k29_5 rfl (loc2 := [some (sR v0), some (sI v1), some (sR y1)]) rfl ?_
  refine go_aload k29_6 rfl ?_
  refine go_ck (fun q7 => ?_)
  refine go_callP3 k29_7 rfl rfl rfl ⟨by decide, _, rfl, q7⟩ ⟨by decide, by decide⟩ (by omega) (tfP_isMortal (by omega) hg q7 ) (fun y8 r9 => ?_)
  refine go_callQ0 k29_10 rfl rfl rfl trivial ⟨by decide, by decide⟩ (by omega) (tfC_checkState (by omega) hg  r9) (fun y12 => ?_) (fun e16 E17 => ge_prop rfl ⟨by decide, by decide⟩ e16 rfl)
  refine go_aload k29_13 rfl ?_
  refine go_getR (bI := 0) k29_14 hg hK0 (by decide) rfl rfl (fun r18 => ?_)
  refine go_aload k29_17 rfl ?_
  refine go_ck (fun q19 => ?_)
  refine go_callP2 k29_18 rfl rfl rfl ⟨by decide, _, rfl, q19⟩ ⟨by decide, by decide⟩ (by omega) (tfT_heirOf (by omega) hg q19  r2) (fun y20 r21 => ?_)
  refine go_ck (fun q24 => ?_)
  refine go_getI (bI := 0) k29_21 hg q24 (by decide) rfl rfl (fun r25 => ?_)
  exact go_iret k29_24 hg r25 ⟨by decide, by decide⟩ rfl
theorem tfW_heirNow {Φ : ev_P} {d : Nat} (hd : 3 ≤ d) {g : gH} (hg : HR g) {v0 v1 v2 : Int} (h0 : RfR v0) (h1 : InR v1) (h2 : RfR v2) : Go Φ pr_P fN 1 (fW_heirNow g v0 v1 v2) d (pr_P 325) 0 (ev_loc (pr_P 325).1 [(sR v0), (sI v1), (sR v2)]) [] g 0 0 := by
  show Go Φ pr_P fN 1 (fW_heirNow g v0 v1 v2) d pr_m325 0 [some (sR v0), some (sI v1), some (sR v2), none] [] g 0 0
  unfold fW_heirNow
  refine go_aload k325_0 rfl ?_
  refine go_int k325_1 0 rfl ?_
  refine go_aload k325_2 rfl ?_
  refine go_iload k325_3 rfl ?_
  refine go_ck (fun q1 => ?_)
  refine go_callQ1 k325_4 rfl rfl rfl ⟨by decide, _, rfl, q1⟩ ⟨by decide, by decide⟩ (by omega) (tfC_heirNow (by omega) hg q1  h1) (fun y2 r3 => ?_) (fun e6 E7 => ?_)
  · refine go_i2l k325_7 r3 ?_
    refine go_ck (fun q8 => ?_)
    refine go_last k325_8 hg q8 (inL_R r3) (fun g9 e10 => ?_)
    refine go_goto k325_9 ?_
    refine go_int k325_18 0 rfl ?_
    exact go_iret k325_19 e10 (inR_b (Or.inl rfl)) ⟨by decide, by decide⟩ rfl
  · refine ge_ite (fun hE9 => ?_) (fun _ => ?_)
    · subst hE9
      refine ge_catch rfl k325_12 rfl (loc2 := [some (sR v0), some (sI v1), some (sR v2), none]) rfl ?_
      refine go_int k325_13 1 rfl ?_
      exact go_iret k325_14 e6 (inR_b (Or.inr rfl)) ⟨by decide, by decide⟩ rfl
    refine ge_ite (fun hE9 => ?_) (fun _ => ?_)
    · subst hE9
      refine ge_catch rfl k325_15 rfl (loc2 := [some (sR v0), some (sI v1), some (sR v2), none]) rfl ?_
      refine go_int k325_16 2 rfl ?_
      exact go_iret k325_17 e6 (inR_of (by decide)) ⟨by decide, by decide⟩ rfl
    exact ge_none
theorem tfC_exitOfCopy {Φ : ev_P} {d : Nat} (hd : 5 ≤ d) {g : gH} (hg : HR g) {v0 v1 v2 : Int} (hK0 : kd v0 = 6) (h1 : InR v1) (h2 : InR v2) : Go Φ pr_P fN 1 (fC_exitOfCopy g v0 v1 v2) d (pr_P 71) 0 (ev_loc (pr_P 71).1 [(sR v0), (sI v1), (sI v2)]) [] g 0 0 := by
  show Go Φ pr_P fN 1 (fC_exitOfCopy g v0 v1 v2) d pr_m71 0 [some (sR v0), some (sI v1), some (sI v2), none] [] g 0 0
  unfold fC_exitOfCopy
  refine go_aload k71_0 rfl ?_
  refine go_getR (bI := 1) k71_1 hg hK0 (by decide) rfl rfl (fun r1 => ?_)
  refine go_aload k71_4 rfl ?_
  refine go_getR (bI := 0) k71_5 hg hK0 (by decide) rfl rfl (fun r2 => ?_)
  refine go_ck (fun q3 => ?_)
  refine go_callN0 k71_8 rfl rfl rfl ⟨by decide, _, rfl, q3⟩ ⟨Nat.zero_le _, Nat.zero_le _⟩ (by omega) (tfT_take (by omega) hg q3  r2) (fun y4 g6 e7 => ?_)
  refine go_aload k71_11 rfl ?_
  refine go_getR (bI := 1) k71_12 e7 hK0 (by decide) rfl rfl (fun r8 => ?_)
  refine go_iload k71_15 rfl ?_
  refine go_ck (fun q9 => ?_)
  refine go_callP2 k71_16 rfl rfl rfl ⟨by decide, _, rfl, q9⟩ ⟨Nat.zero_le _, Nat.zero_le _⟩ (by omega) (tfT_at (by omega) e7 q9  h1) (fun y10 r11 => ?_)
  refine go_astore k71_19 rfl (loc2 := [some (sR v0), some (sI v1), some (sI v2), some (sR y10)]) rfl ?_
  refine go_aload k71_20 rfl ?_
  refine go_isnull k71_21  (fun c14 => ?_) (fun c15 => ?_)
  · refine go_int k71_24 0 rfl ?_
    refine go_goto k71_25 ?_
    exact go_iret k71_37 e7 (inR_b (Or.inl rfl)) ⟨Nat.zero_le _, Nat.zero_le _⟩ rfl
  · refine go_aload k71_28 rfl ?_
    refine go_getR (bI := 1) k71_29 e7 hK0 (by decide) rfl rfl (fun r16 => ?_)
    refine go_aload k71_32 rfl ?_
    refine go_iload k71_33 rfl ?_
    refine go_callN1 k71_34 rfl rfl rfl ⟨by decide, _, rfl, q9⟩ ⟨Nat.zero_le _, Nat.zero_le _⟩ (by omega) (tfT_letExit (by omega) e7 q9  r11 h2) (fun y17 g19 r18 e20 => ?_)
    exact go_iret k71_37 e20 r18 ⟨Nat.zero_le _, Nat.zero_le _⟩ rfl
theorem tfC_wouldFall {Φ : ev_P} {d : Nat} (hd : 6 ≤ d) {g : gH} (hg : HR g) {v0 v1 v2 : Int} (hK0 : kd v0 = 6) (h1 : InR v1) (h2 : InR v2) : Go Φ pr_P fT 1 (fC_wouldFall g v0 v1 v2) d (pr_P 30) 0 (ev_loc (pr_P 30).1 [(sR v0), (sI v1), (sI v2)]) [] g 0 0 := by
  show Go Φ pr_P fT 1 (fC_wouldFall g v0 v1 v2) d pr_m30 0 [some (sR v0), some (sI v1), some (sI v2)] [] g 0 0
  unfold fC_wouldFall
  refine go_aload k30_0 rfl ?_
  refine go_iload k30_1 rfl ?_
  refine go_iload k30_2 rfl ?_
  refine go_callQ2 k30_3 rfl rfl rfl ⟨by decide, _, rfl, hK0⟩ ⟨by decide, by decide⟩ (by omega) (tfC_namedForExit (by omega) hg hK0  h1 h2) (fun y1 r2 => ?_) (fun e5 E6 => ge_prop rfl ⟨by decide, by decide⟩ e5 rfl)
  refine go_popR k30_6 ?_
  refine go_aload k30_7 rfl ?_
  refine go_iload k30_8 rfl ?_
  refine go_iload k30_9 rfl ?_
  refine go_callN1 k30_10 rfl rfl rfl ⟨by decide, _, rfl, hK0⟩ ⟨by decide, by decide⟩ (by omega) (tfC_exitOfCopy (by omega) hg hK0  h1 h2) (fun y7 g9 r8 e10 => ?_)
  exact go_iret k30_13 e10 r8 ⟨by decide, by decide⟩ rfl
theorem tfW_wouldFall {Φ : ev_P} {d : Nat} (hd : 7 ≤ d) {g : gH} (hg : HR g) {v0 v1 v2 v3 : Int} (h0 : RfR v0) (h1 : InR v1) (h2 : InR v2) (h3 : RfR v3) : Go Φ pr_P fN 1 (fW_wouldFall g v0 v1 v2 v3) d (pr_P 326) 0 (ev_loc (pr_P 326).1 [(sR v0), (sI v1), (sI v2), (sR v3)]) [] g 0 0 := by
  show Go Φ pr_P fN 1 (fW_wouldFall g v0 v1 v2 v3) d pr_m326 0 [some (sR v0), some (sI v1), some (sI v2), some (sR v3), none] [] g 0 0
  unfold fW_wouldFall
  refine go_aload k326_0 rfl ?_
  refine go_int k326_1 0 rfl ?_
  refine go_aload k326_2 rfl ?_
  refine go_iload k326_3 rfl ?_
  refine go_iload k326_4 rfl ?_
  refine go_ck (fun q1 => ?_)
  refine go_callT1 k326_5 rfl rfl rfl ⟨by decide, _, rfl, q1⟩ ⟨by decide, by decide⟩ (by omega) (tfC_wouldFall (by omega) hg q1  h1 h2) (fun y2 g4 r3 e5 => ?_) (fun E7 g4 e6 => ?_)
  · refine go_i2l k326_8 r3 ?_
    refine go_ck (fun q8 => ?_)
    refine go_last k326_9 e5 q8 (inL_R r3) (fun g9 e10 => ?_)
    refine go_goto k326_10 ?_
    refine go_int k326_25 0 rfl ?_
    exact go_iret k326_26 e10 (inR_b (Or.inl rfl)) ⟨by decide, by decide⟩ rfl
  · refine ge_ite (fun hE9 => ?_) (fun _ => ?_)
    · subst hE9
      refine ge_catch rfl k326_13 rfl (loc2 := [some (sR v0), some (sI v1), some (sI v2), some (sR v3), none]) rfl ?_
      refine go_int k326_15 1 rfl ?_
      exact go_iret k326_16 e6 (inR_b (Or.inr rfl)) ⟨by decide, by decide⟩ rfl
    refine ge_ite (fun hE9 => ?_) (fun _ => ?_)
    · subst hE9
      refine ge_catch rfl k326_17 rfl (loc2 := [some (sR v0), some (sI v1), some (sI v2), some (sR v3), none]) rfl ?_
      refine go_int k326_19 2 rfl ?_
      exact go_iret k326_20 e6 (inR_of (by decide)) ⟨by decide, by decide⟩ rfl
    refine ge_ite (fun hE9 => ?_) (fun _ => ?_)
    · subst hE9
      refine ge_catch rfl k326_21 rfl (loc2 := [some (sR v0), some (sI v1), some (sI v2), some (sR v3), none]) rfl ?_
      refine go_int k326_23 3 rfl ?_
      exact go_iret k326_24 e6 (inR_of (by decide)) ⟨by decide, by decide⟩ rfl
    exact ge_none
theorem tfC_wouldStand {Φ : ev_P} {d : Nat} (hd : 6 ≤ d) {g : gH} (hg : HR g) {v0 v1 v2 : Int} (hK0 : kd v0 = 6) (h1 : InR v1) (h2 : InR v2) : Go Φ pr_P fT 1 (fC_wouldStand g v0 v1 v2) d (pr_P 31) 0 (ev_loc (pr_P 31).1 [(sR v0), (sI v1), (sI v2)]) [] g 0 0 := by
  show Go Φ pr_P fT 1 (fC_wouldStand g v0 v1 v2) d pr_m31 0 [some (sR v0), some (sI v1), some (sI v2)] [] g 0 0
  unfold fC_wouldStand
  refine go_aload k31_0 rfl ?_
  refine go_iload k31_1 rfl ?_
  refine go_iload k31_2 rfl ?_
  refine go_callQ2 k31_3 rfl rfl rfl ⟨by decide, _, rfl, hK0⟩ ⟨by decide, by decide⟩ (by omega) (tfC_namedForExit (by omega) hg hK0  h1 h2) (fun y1 r2 => ?_) (fun e5 E6 => ge_prop rfl ⟨by decide, by decide⟩ e5 rfl)
  refine go_popR k31_6 ?_
  refine go_aload k31_7 rfl ?_
  refine go_iload k31_8 rfl ?_
  refine go_iload k31_9 rfl ?_
  refine go_callN1 k31_10 rfl rfl rfl ⟨by decide, _, rfl, hK0⟩ ⟨by decide, by decide⟩ (by omega) (tfC_exitOfCopy (by omega) hg hK0  h1 h2) (fun y7 g9 r8 e10 => ?_)
  refine go_popI k31_13 ?_
  refine go_aload k31_14 rfl ?_
  refine go_getR (bI := 1) k31_15 e10 hK0 (by decide) rfl rfl (fun r11 => ?_)
  refine go_ck (fun q12 => ?_)
  refine go_callP1 k31_18 rfl rfl rfl ⟨by decide, _, rfl, q12⟩ ⟨by decide, by decide⟩ (by omega) (tfT_greatestDepth (by omega) e10 q12 ) (fun y13 r14 => ?_)
  exact go_iret k31_21 e10 r14 ⟨by decide, by decide⟩ rfl
theorem tfW_wouldStand {Φ : ev_P} {d : Nat} (hd : 7 ≤ d) {g : gH} (hg : HR g) {v0 v1 v2 v3 : Int} (h0 : RfR v0) (h1 : InR v1) (h2 : InR v2) (h3 : RfR v3) : Go Φ pr_P fN 1 (fW_wouldStand g v0 v1 v2 v3) d (pr_P 327) 0 (ev_loc (pr_P 327).1 [(sR v0), (sI v1), (sI v2), (sR v3)]) [] g 0 0 := by
  show Go Φ pr_P fN 1 (fW_wouldStand g v0 v1 v2 v3) d pr_m327 0 [some (sR v0), some (sI v1), some (sI v2), some (sR v3), none] [] g 0 0
  unfold fW_wouldStand
  refine go_aload k327_0 rfl ?_
  refine go_int k327_1 0 rfl ?_
  refine go_aload k327_2 rfl ?_
  refine go_iload k327_3 rfl ?_
  refine go_iload k327_4 rfl ?_
  refine go_ck (fun q1 => ?_)
  refine go_callT1 k327_5 rfl rfl rfl ⟨by decide, _, rfl, q1⟩ ⟨by decide, by decide⟩ (by omega) (tfC_wouldStand (by omega) hg q1  h1 h2) (fun y2 g4 r3 e5 => ?_) (fun E7 g4 e6 => ?_)
  · refine go_i2l k327_8 r3 ?_
    refine go_ck (fun q8 => ?_)
    refine go_last k327_9 e5 q8 (inL_R r3) (fun g9 e10 => ?_)
    refine go_goto k327_10 ?_
    refine go_int k327_25 0 rfl ?_
    exact go_iret k327_26 e10 (inR_b (Or.inl rfl)) ⟨by decide, by decide⟩ rfl
  · refine ge_ite (fun hE9 => ?_) (fun _ => ?_)
    · subst hE9
      refine ge_catch rfl k327_13 rfl (loc2 := [some (sR v0), some (sI v1), some (sI v2), some (sR v3), none]) rfl ?_
      refine go_int k327_15 1 rfl ?_
      exact go_iret k327_16 e6 (inR_b (Or.inr rfl)) ⟨by decide, by decide⟩ rfl
    refine ge_ite (fun hE9 => ?_) (fun _ => ?_)
    · subst hE9
      refine ge_catch rfl k327_17 rfl (loc2 := [some (sR v0), some (sI v1), some (sI v2), some (sR v3), none]) rfl ?_
      refine go_int k327_19 2 rfl ?_
      exact go_iret k327_20 e6 (inR_of (by decide)) ⟨by decide, by decide⟩ rfl
    refine ge_ite (fun hE9 => ?_) (fun _ => ?_)
    · subst hE9
      refine ge_catch rfl k327_21 rfl (loc2 := [some (sR v0), some (sI v1), some (sI v2), some (sR v3), none]) rfl ?_
      refine go_int k327_23 3 rfl ?_
      exact go_iret k327_24 e6 (inR_of (by decide)) ⟨by decide, by decide⟩ rfl
    exact ge_none
theorem tfC_wouldHave {Φ : ev_P} {d : Nat} (hd : 6 ≤ d) {g : gH} (hg : HR g) {v0 v1 v2 v3 : Int} (hK0 : kd v0 = 6) (h1 : InR v1) (h2 : InR v2) (h3 : InR v3) : Go Φ pr_P fT 1 (fC_wouldHave g v0 v1 v2 v3) d (pr_P 32) 0 (ev_loc (pr_P 32).1 [(sR v0), (sI v1), (sI v2), (sI v3)]) [] g 0 0 := by
  show Go Φ pr_P fT 1 (fC_wouldHave g v0 v1 v2 v3) d pr_m32 0 [some (sR v0), some (sI v1), some (sI v2), some (sI v3), none] [] g 0 0
  unfold fC_wouldHave
  refine go_aload k32_0 rfl ?_
  refine go_iload k32_1 rfl ?_
  refine go_callQ2 k32_2 rfl rfl rfl ⟨by decide, _, rfl, hK0⟩ ⟨by decide, by decide⟩ (by omega) (tfC_named (by omega) hg hK0  h1) (fun y1 r2 => ?_) (fun e5 E6 => ge_prop rfl ⟨by decide, by decide⟩ e5 rfl)
  refine go_popR k32_5 ?_
  refine go_aload k32_6 rfl ?_
  refine go_iload k32_7 rfl ?_
  refine go_iload k32_8 rfl ?_
  refine go_callQ2 k32_9 rfl rfl rfl ⟨by decide, _, rfl, hK0⟩ ⟨by decide, by decide⟩ (by omega) (tfC_namedForExit (by omega) hg hK0  h2 h3) (fun y7 r8 => ?_) (fun e11 E12 => ge_prop rfl ⟨by decide, by decide⟩ e11 rfl)
  refine go_popR k32_12 ?_
  refine go_aload k32_13 rfl ?_
  refine go_iload k32_14 rfl ?_
  refine go_iload k32_15 rfl ?_
  refine go_callN1 k32_16 rfl rfl rfl ⟨by decide, _, rfl, hK0⟩ ⟨by decide, by decide⟩ (by omega) (tfC_exitOfCopy (by omega) hg hK0  h2 h3) (fun y13 g15 r14 e16 => ?_)
  refine go_popI k32_19 ?_
  refine go_aload k32_20 rfl ?_
  refine go_getR (bI := 1) k32_21 e16 hK0 (by decide) rfl rfl (fun r17 => ?_)
  refine go_iload k32_24 rfl ?_
  refine go_ck (fun q18 => ?_)
  refine go_callP2 k32_25 rfl rfl rfl ⟨by decide, _, rfl, q18⟩ ⟨by decide, by decide⟩ (by omega) (tfT_at (by omega) e16 q18  h1) (fun y19 r20 => ?_)
  refine go_astore k32_28 rfl (loc2 := [some (sR v0), some (sI v1), some (sI v2), some (sI v3), some (sR y19)]) rfl ?_
  refine go_aload k32_30 rfl ?_
  refine go_isnull k32_32  (fun c23 => ?_) (fun c24 => ?_)
  · refine go_int k32_35 (-1) rfl ?_
    refine go_goto k32_36 ?_
    exact go_iret k32_47 e16 (inR_of (by decide)) ⟨by decide, by decide⟩ rfl
  · refine go_aload k32_39 rfl ?_
    refine go_ck (fun q25 => ?_)
    refine go_getR (bI := 2) k32_41 e16 q25 (by decide) rfl rfl (fun r26 => ?_)
    refine go_callP1 k32_44 rfl rfl rfl trivial ⟨by decide, by decide⟩ (by omega) (tfC_numberOf (by omega) e16  r26) (fun y27 r28 => ?_)
    exact go_iret k32_47 e16 r28 ⟨by decide, by decide⟩ rfl
theorem tfW_wouldHave {Φ : ev_P} {d : Nat} (hd : 7 ≤ d) {g : gH} (hg : HR g) {v0 v1 v2 v3 v4 : Int} (h0 : RfR v0) (h1 : InR v1) (h2 : InR v2) (h3 : InR v3) (h4 : RfR v4) : Go Φ pr_P fN 1 (fW_wouldHave g v0 v1 v2 v3 v4) d (pr_P 328) 0 (ev_loc (pr_P 328).1 [(sR v0), (sI v1), (sI v2), (sI v3), (sR v4)]) [] g 0 0 := by
  show Go Φ pr_P fN 1 (fW_wouldHave g v0 v1 v2 v3 v4) d pr_m328 0 [some (sR v0), some (sI v1), some (sI v2), some (sI v3), some (sR v4), none] [] g 0 0
  unfold fW_wouldHave
  refine go_aload k328_0 rfl ?_
  refine go_int k328_2 0 rfl ?_
  refine go_aload k328_3 rfl ?_
  refine go_iload k328_4 rfl ?_
  refine go_iload k328_5 rfl ?_
  refine go_iload k328_6 rfl ?_
  refine go_ck (fun q1 => ?_)
  refine go_callT1 k328_7 rfl rfl rfl ⟨by decide, _, rfl, q1⟩ ⟨by decide, by decide⟩ (by omega) (tfC_wouldHave (by omega) hg q1  h1 h2 h3) (fun y2 g4 r3 e5 => ?_) (fun E7 g4 e6 => ?_)
  · refine go_i2l k328_10 r3 ?_
    refine go_ck (fun q8 => ?_)
    refine go_last k328_11 e5 q8 (inL_R r3) (fun g9 e10 => ?_)
    refine go_goto k328_12 ?_
    refine go_int k328_27 0 rfl ?_
    exact go_iret k328_28 e10 (inR_b (Or.inl rfl)) ⟨by decide, by decide⟩ rfl
  · refine ge_ite (fun hE9 => ?_) (fun _ => ?_)
    · subst hE9
      refine ge_catch rfl k328_15 rfl (loc2 := [some (sR v0), some (sI v1), some (sI v2), some (sI v3), some (sR v4), none]) rfl ?_
      refine go_int k328_17 1 rfl ?_
      exact go_iret k328_18 e6 (inR_b (Or.inr rfl)) ⟨by decide, by decide⟩ rfl
    refine ge_ite (fun hE9 => ?_) (fun _ => ?_)
    · subst hE9
      refine ge_catch rfl k328_19 rfl (loc2 := [some (sR v0), some (sI v1), some (sI v2), some (sI v3), some (sR v4), none]) rfl ?_
      refine go_int k328_21 2 rfl ?_
      exact go_iret k328_22 e6 (inR_of (by decide)) ⟨by decide, by decide⟩ rfl
    refine ge_ite (fun hE9 => ?_) (fun _ => ?_)
    · subst hE9
      refine ge_catch rfl k328_23 rfl (loc2 := [some (sR v0), some (sI v1), some (sI v2), some (sI v3), some (sR v4), none]) rfl ?_
      refine go_int k328_25 3 rfl ?_
      exact go_iret k328_26 e6 (inR_of (by decide)) ⟨by decide, by decide⟩ rfl
    exact ge_none
theorem tfC_wouldFallBy {Φ : ev_P} {d : Nat} (hd : 6 ≤ d) {g : gH} (hg : HR g) {v0 v1 v2 : Int} (hK0 : kd v0 = 6) (h1 : InR v1) (h2 : InR v2) : Go Φ pr_P fT 1 (fC_wouldFallBy g v0 v1 v2) d (pr_P 33) 0 (ev_loc (pr_P 33).1 [(sR v0), (sI v1), (sI v2)]) [] g 0 0 := by
  show Go Φ pr_P fT 1 (fC_wouldFallBy g v0 v1 v2) d pr_m33 0 [some (sR v0), some (sI v1), some (sI v2)] [] g 0 0
  unfold fC_wouldFallBy
  refine go_iload k33_0 rfl ?_
  refine go_iload k33_1 rfl ?_
  refine go_callQ0 k33_2 rfl rfl rfl trivial ⟨by decide, by decide⟩ (by omega) (tfC_checkKill (by omega) hg  h1 h2) (fun y1 => ?_) (fun e5 E6 => ge_prop rfl ⟨by decide, by decide⟩ e5 rfl)
  refine go_aload k33_5 rfl ?_
  refine go_getR (bI := 1) k33_6 hg hK0 (by decide) rfl rfl (fun r7 => ?_)
  refine go_aload k33_9 rfl ?_
  refine go_getR (bI := 0) k33_10 hg hK0 (by decide) rfl rfl (fun r8 => ?_)
  refine go_ck (fun q9 => ?_)
  refine go_callN0 k33_13 rfl rfl rfl ⟨by decide, _, rfl, q9⟩ ⟨by decide, by decide⟩ (by omega) (tfT_take (by omega) hg q9  r8) (fun y10 g12 e13 => ?_)
  refine go_aload k33_16 rfl ?_
  refine go_getR (bI := 1) k33_17 e13 hK0 (by decide) rfl rfl (fun r14 => ?_)
  refine go_iload k33_20 rfl ?_
  refine go_iload k33_21 rfl ?_
  refine go_ck (fun q15 => ?_)
  refine go_callN1 k33_22 rfl rfl rfl ⟨by decide, _, rfl, q15⟩ ⟨by decide, by decide⟩ (by omega) (tfT_killGroup (by omega) e13 q15  h1 h2) (fun y16 g18 r17 e19 => ?_)
  refine go_popI k33_25 ?_
  refine go_aload k33_26 rfl ?_
  refine go_getR (bI := 1) k33_27 e19 hK0 (by decide) rfl rfl (fun r20 => ?_)
  refine go_ck (fun q21 => ?_)
  refine go_getI (bI := 8) k33_30 e19 q21 (by decide) rfl rfl (fun r22 => ?_)
  refine go_aload k33_33 rfl ?_
  refine go_getR (bI := 0) k33_34 e19 hK0 (by decide) rfl rfl (fun r23 => ?_)
  refine go_ck (fun q24 => ?_)
  refine go_getI (bI := 8) k33_37 e19 q24 (by decide) rfl rfl (fun r25 => ?_)
  refine go_isub k33_40 ?_
  exact go_iret k33_41 e19 (inR_w32 _) ⟨by decide, by decide⟩ rfl
theorem tfW_wouldFallBy {Φ : ev_P} {d : Nat} (hd : 7 ≤ d) {g : gH} (hg : HR g) {v0 v1 v2 v3 : Int} (h0 : RfR v0) (h1 : InR v1) (h2 : InR v2) (h3 : RfR v3) : Go Φ pr_P fN 1 (fW_wouldFallBy g v0 v1 v2 v3) d (pr_P 329) 0 (ev_loc (pr_P 329).1 [(sR v0), (sI v1), (sI v2), (sR v3)]) [] g 0 0 := by
  show Go Φ pr_P fN 1 (fW_wouldFallBy g v0 v1 v2 v3) d pr_m329 0 [some (sR v0), some (sI v1), some (sI v2), some (sR v3), none] [] g 0 0
  unfold fW_wouldFallBy
  refine go_aload k329_0 rfl ?_
  refine go_int k329_1 0 rfl ?_
  refine go_aload k329_2 rfl ?_
  refine go_iload k329_3 rfl ?_
  refine go_iload k329_4 rfl ?_
  refine go_ck (fun q1 => ?_)
  refine go_callT1 k329_5 rfl rfl rfl ⟨by decide, _, rfl, q1⟩ ⟨by decide, by decide⟩ (by omega) (tfC_wouldFallBy (by omega) hg q1  h1 h2) (fun y2 g4 r3 e5 => ?_) (fun E7 g4 e6 => ?_)
  · refine go_i2l k329_8 r3 ?_
    refine go_ck (fun q8 => ?_)
    refine go_last k329_9 e5 q8 (inL_R r3) (fun g9 e10 => ?_)
    refine go_goto k329_10 ?_
    refine go_int k329_17 0 rfl ?_
    exact go_iret k329_18 e10 (inR_b (Or.inl rfl)) ⟨by decide, by decide⟩ rfl
  · refine ge_ite (fun hE9 => ?_) (fun _ => ?_)
    · subst hE9
      refine ge_catch rfl k329_13 rfl (loc2 := [some (sR v0), some (sI v1), some (sI v2), some (sR v3), none]) rfl ?_
      refine go_int k329_15 1 rfl ?_
      exact go_iret k329_16 e6 (inR_b (Or.inr rfl)) ⟨by decide, by decide⟩ rfl
    exact ge_none
theorem tjC_weakest_64 {Φ : ev_P} {d : Nat} (hd : 6 ≤ d) {X28 : Int → Int → Int → gH → Option (Nat × (Int × gH))} {g : gH} (hg : HR g) {v0 v1 v2 v3 v4 v5 v6 v7 : Int} (hK0 : kd v0 = 6) (h1 : InR v1) (h2 : InR v2) (h3 : InR v3) (h4 : RfR v4) (h5 : InR v5) (h6 : InR v6) (h7 : RfR v7) {s0 : Int} (z0 : InR s0) (HX28 : ∀ (v2 : Int) (h2 : InR v2) (v3 : Int) (h3 : InR v3) (v6 : Int) (h6 : InR v6) (g : gH) (hg : HR g) (u7 : Option ev_V) (w7 : nwo u7) (u8 : Option ev_V) (w8 : nwo u8), Go Φ pr_P fT 1 (X28 v2 v3 v6 g) d pr_m34 28 [some (sR v0), some (sI v1), some (sI v2), some (sI v3), some (sR v4), some (sI v5), some (sI v6), u7, u8] [] g 1 6) (u8 : Option ev_V) (w8 : nwo u8) : Go Φ pr_P fT 1 (jC_weakest_64 X28 g v0 v1 v2 v3 v4 v5 v6 v7 s0 ) d pr_m34 64 [some (sR v0), some (sI v1), some (sI v2), some (sI v3), some (sR v4), some (sI v5), some (sI v6), some (sR v7), u8] [(sI s0)] g 1 6 := by
  unfold jC_weakest_64
  refine go_istore k34_64 rfl (loc2 := [some (sR v0), some (sI v1), some (sI v2), some (sI v3), some (sR v4), some (sI v5), some (sI v6), some (sR v7), some (sI s0)]) rfl ?_
  refine go_iload k34_66 rfl ?_
  refine go_iload k34_68 rfl ?_
  refine go_cmgt k34_69 z0 h3 (fun c28 => ?_) (fun c29 => ?_)
  · refine go_aload k34_72 rfl ?_
    refine go_ck (fun q30 => ?_)
    refine go_getI (bI := 0) k34_74 hg q30 (by decide) rfl rfl (fun r31 => ?_)
    refine go_istore k34_77 rfl (loc2 := [some (sR v0), some (sI v1), some (sI (g v7 0)), some (sI v3), some (sR v4), some (sI v5), some (sI v6), some (sR v7), some (sI s0)]) rfl ?_
    refine go_iload k34_78 rfl ?_
    refine go_istore k34_80 rfl (loc2 := [some (sR v0), some (sI v1), some (sI (g v7 0)), some (sI s0), some (sR v4), some (sI v5), some (sI v6), some (sR v7), some (sI s0)]) rfl ?_
    refine go_iinc k34_81 rfl rfl 1 rfl (loc2 := [some (sR v0), some (sI v1), some (sI (g v7 0)), some (sI s0), some (sR v4), some (sI v5), some (sI (w32 (v6 + 1))), some (sR v7), some (sI s0)]) rfl ?_
    refine go_goto k34_84 ?_
    exact HX28 (g v7 0) r31 s0 z0 (w32 (v6 + 1)) (inR_w32 _) g hg (some (sR v7)) rfl (some (sI s0)) rfl
  · refine go_iinc k34_81 rfl rfl 1 rfl (loc2 := [some (sR v0), some (sI v1), some (sI v2), some (sI v3), some (sR v4), some (sI v5), some (sI (w32 (v6 + 1))), some (sR v7), some (sI s0)]) rfl ?_
    refine go_goto k34_84 ?_
    exact HX28 v2 h2 v3 h3 (w32 (v6 + 1)) (inR_w32 _) g hg (some (sR v7)) rfl (some (sI s0)) rfl
theorem tbC_weakest_28 {Φ : ev_P} {d : Nat} (hd : 6 ≤ d) {v0 v1 v4 v5 : Int} (hK0 : kd v0 = 6) (h1 : InR v1) (h4 : RfR v4) (h5 : InR v5) {X28 : Int → Int → Int → gH → Option (Nat × (Int × gH))} (HX28 : ∀ (v2 : Int) (h2 : InR v2) (v3 : Int) (h3 : InR v3) (v6 : Int) (h6 : InR v6) (g : gH) (hg : HR g) (u7 : Option ev_V) (w7 : nwo u7) (u8 : Option ev_V) (w8 : nwo u8), Go Φ pr_P fT 1 (X28 v2 v3 v6 g) d pr_m34 28 [some (sR v0), some (sI v1), some (sI v2), some (sI v3), some (sR v4), some (sI v5), some (sI v6), u7, u8] [] g 1 6) : ∀ (v2 : Int) (h2 : InR v2) (v3 : Int) (h3 : InR v3) (v6 : Int) (h6 : InR v6) (g : gH) (hg : HR g) (u7 : Option ev_V) (w7 : nwo u7) (u8 : Option ev_V) (w8 : nwo u8), Go Φ pr_P fT 1 (bC_weakest_28 v0 v1 v4 v5 X28 v2 v3 v6 g) d pr_m34 28 [some (sR v0), some (sI v1), some (sI v2), some (sI v3), some (sR v4), some (sI v5), some (sI v6), u7, u8] [] g 1 6 := by
  intro v2 h2 v3 h3 v6 h6 g hg u7 w7 u8 w8
  unfold bC_weakest_28
  refine go_iload k34_28 rfl ?_
  refine go_iload k34_30 rfl ?_
  refine go_cmlt k34_32 h6 h5 (fun c12 => ?_) (fun c13 => ?_)
  · refine go_aload k34_35 rfl ?_
    refine go_iload k34_37 rfl ?_
    refine go_ck (fun q15 => ?_)
    refine go_pald k34_39 hg q15 (fun r14 => ?_)
    refine go_astore k34_40 rfl (loc2 := [some (sR v0), some (sI v1), some (sI v2), some (sI v3), some (sR v4), some (sI v5), some (sI v6), some (sR (g v4 v6)), u8]) rfl ?_
    refine go_aload k34_42 rfl ?_
    refine go_ck (fun q16 => ?_)
    refine go_callP3 k34_44 rfl rfl rfl ⟨by decide, _, rfl, q16⟩ ⟨by decide, by decide⟩ (by omega) (tfP_isMortal (by omega) hg q16 ) (fun y17 r18 => ?_)
    refine go_ifeq k34_47 (inR_b r18) (fun c21 => ?_) (fun c22 => ?_)
    · refine go_int k34_63 (-1) rfl ?_
      exact tjC_weakest_64 hd hg hK0 h1 h2 h3 h4 h5 h6 r14 (inR_of (by decide)) HX28 u8 w8
    · refine go_aload k34_50 rfl ?_
      refine go_aload k34_51 rfl ?_
      refine go_getI (bI := 0) k34_53 hg q16 (by decide) rfl rfl (fun r23 => ?_)
      refine go_iload k34_56 rfl ?_
      refine go_callN1 k34_57 rfl rfl rfl ⟨by decide, _, rfl, hK0⟩ ⟨by decide, by decide⟩ (by omega) (tfC_exitOfCopy (by omega) hg hK0  r23 h1) (fun y24 g26 r25 e27 => ?_)
      refine go_goto k34_60 ?_
      exact tjC_weakest_64 hd e27 hK0 h1 h2 h3 h4 h5 h6 r14 r25 HX28 u8 w8
  · refine go_iload k34_87 rfl ?_
    exact go_iret k34_88 hg h2 ⟨by decide, by decide⟩ rfl
theorem tlC_weakest_28 {Φ : ev_P} {d : Nat} (hd : 6 ≤ d) {v0 v1 v4 v5 : Int} (hK0 : kd v0 = 6) (h1 : InR v1) (h4 : RfR v4) (h5 : InR v5) : ∀ n : Nat, ∀ (v2 : Int) (h2 : InR v2) (v3 : Int) (h3 : InR v3) (v6 : Int) (h6 : InR v6) (g : gH) (hg : HR g) (u7 : Option ev_V) (w7 : nwo u7) (u8 : Option ev_V) (w8 : nwo u8), Go Φ pr_P fT 1 (lC_weakest_28 v0 v1 v4 v5 n v2 v3 v6 g) d pr_m34 28 [some (sR v0), some (sI v1), some (sI v2), some (sI v3), some (sR v4), some (sI v5), some (sI v6), u7, u8] [] g 1 6 := by
  intro n
  induction n with
  | zero => intros; exact go_none
  | succ n ih => exact tbC_weakest_28 hd hK0 h1 h4 h5 ih
theorem tfC_weakest {Φ : ev_P} {d : Nat} (hd : 6 ≤ d) {g : gH} (hg : HR g) {v0 v1 : Int} (hK0 : kd v0 = 6) (h1 : InR v1) : Go Φ pr_P fT 1 (fC_weakest g v0 v1) d (pr_P 34) 0 (ev_loc (pr_P 34).1 [(sR v0), (sI v1)]) [] g 0 0 := by
  show Go Φ pr_P fT 1 (fC_weakest g v0 v1) d pr_m34 0 [some (sR v0), some (sI v1), none, none, none, none, none, none, none] [] g 0 0
  unfold fC_weakest
  refine go_iload k34_0 rfl ?_
  refine go_int k34_1 255 rfl ?_
  refine go_callQ0 k34_4 rfl rfl rfl trivial ⟨by decide, by decide⟩ (by omega) (tfC_checkRange (by omega) hg  h1 (inR_of (by decide))) (fun y1 => ?_) (fun e5 E6 => ge_prop rfl ⟨by decide, by decide⟩ e5 rfl)
  refine go_int k34_7 (-1) rfl ?_
  refine go_istore k34_8 rfl (loc2 := [some (sR v0), some (sI v1), some (sI (-1)), none, none, none, none, none, none]) rfl ?_
  refine go_int k34_9 (-1) rfl ?_
  refine go_istore k34_10 rfl (loc2 := [some (sR v0), some (sI v1), some (sI (-1)), some (sI (-1)), none, none, none, none, none]) rfl ?_
  refine go_aload k34_11 rfl ?_
  refine go_getR (bI := 0) k34_12 hg hK0 (by decide) rfl rfl (fun r7 => ?_)
  refine go_ck (fun q8 => ?_)
  refine go_getR (bI := 1) k34_15 hg q8 (by decide) rfl rfl (fun r9 => ?_)
  refine go_astore k34_18 rfl (loc2 := [some (sR v0), some (sI v1), some (sI (-1)), some (sI (-1)), some (sR (g (g v0 0) 1)), none, none, none, none]) rfl ?_
  refine go_aload k34_20 rfl ?_
  refine go_ck (fun q11 => ?_)
  refine go_alen k34_22 (ka_24 q11) (fun r10 => ?_)
  refine go_istore k34_23 rfl (loc2 := [some (sR v0), some (sI v1), some (sI (-1)), some (sI (-1)), some (sR (g (g v0 0) 1)), some (sI (sz (g (g v0 0) 1))), none, none, none]) rfl ?_
  refine go_int k34_25 0 rfl ?_
  refine go_istore k34_26 rfl (loc2 := [some (sR v0), some (sI v1), some (sI (-1)), some (sI (-1)), some (sR (g (g v0 0) 1)), some (sI (sz (g (g v0 0) 1))), some (sI 0), none, none]) rfl ?_
  exact tlC_weakest_28 hd hK0 h1 r9 r10 fu (-1) (inR_of (by decide)) (-1) (inR_of (by decide)) 0 (inR_b (Or.inl rfl)) g hg none rfl none rfl
theorem tfW_weakest {Φ : ev_P} {d : Nat} (hd : 7 ≤ d) {g : gH} (hg : HR g) {v0 v1 v2 : Int} (h0 : RfR v0) (h1 : InR v1) (h2 : RfR v2) : Go Φ pr_P fN 1 (fW_weakest g v0 v1 v2) d (pr_P 330) 0 (ev_loc (pr_P 330).1 [(sR v0), (sI v1), (sR v2)]) [] g 0 0 := by
  show Go Φ pr_P fN 1 (fW_weakest g v0 v1 v2) d pr_m330 0 [some (sR v0), some (sI v1), some (sR v2), none] [] g 0 0
  unfold fW_weakest
  refine go_aload k330_0 rfl ?_
  refine go_int k330_1 0 rfl ?_
  refine go_aload k330_2 rfl ?_
  refine go_iload k330_3 rfl ?_
  refine go_ck (fun q1 => ?_)
  refine go_callT1 k330_4 rfl rfl rfl ⟨by decide, _, rfl, q1⟩ ⟨by decide, by decide⟩ (by omega) (tfC_weakest (by omega) hg q1  h1) (fun y2 g4 r3 e5 => ?_) (fun E7 g4 e6 => ?_)
  · refine go_i2l k330_7 r3 ?_
    refine go_ck (fun q8 => ?_)
    refine go_last k330_8 e5 q8 (inL_R r3) (fun g9 e10 => ?_)
    refine go_goto k330_9 ?_
    refine go_int k330_15 0 rfl ?_
    exact go_iret k330_16 e10 (inR_b (Or.inl rfl)) ⟨by decide, by decide⟩ rfl
  · refine ge_ite (fun hE9 => ?_) (fun _ => ?_)
    · subst hE9
      refine ge_catch rfl k330_12 rfl (loc2 := [some (sR v0), some (sI v1), some (sR v2), none]) rfl ?_
      refine go_int k330_13 1 rfl ?_
      exact go_iret k330_14 e6 (inR_b (Or.inr rfl)) ⟨by decide, by decide⟩ rfl
    exact ge_none
theorem tbC_roomiest_27 {Φ : ev_P} {d : Nat} (hd : 1 ≤ d) {g : gH} (hg : HR g) {v1 v4 v5 : Int} (h1 : InR v1) (h4 : RfR v4) (h5 : InR v5) {X27 : Int → Int → Int → Option (Nat × Int)} (HX27 : ∀ (v2 : Int) (h2 : InR v2) (v3 : Int) (h3 : InR v3) (v6 : Int) (h6 : InR v6) (u0 : Option ev_V) (w0 : nwo u0) (u7 : Option ev_V) (w7 : nwo u7), Go Φ pr_P (fQ g) 1 (X27 v2 v3 v6) d pr_m35 27 [u0, some (sI v1), some (sI v2), some (sI v3), some (sR v4), some (sI v5), some (sI v6), u7] [] g 1 6) : ∀ (v2 : Int) (h2 : InR v2) (v3 : Int) (h3 : InR v3) (v6 : Int) (h6 : InR v6) (u0 : Option ev_V) (w0 : nwo u0) (u7 : Option ev_V) (w7 : nwo u7), Go Φ pr_P (fQ g) 1 (bC_roomiest_27 g v1 v4 v5 X27 v2 v3 v6) d pr_m35 27 [u0, some (sI v1), some (sI v2), some (sI v3), some (sR v4), some (sI v5), some (sI v6), u7] [] g 1 6 := by
  intro v2 h2 v3 h3 v6 h6 u0 w0 u7 w7
  unfold bC_roomiest_27
  refine go_iload k35_27 rfl ?_
  refine go_iload k35_29 rfl ?_
  refine go_cmlt k35_31 h6 h5 (fun c12 => ?_) (fun c13 => ?_)
  · refine go_aload k35_34 rfl ?_
    refine go_iload k35_36 rfl ?_
    refine go_ck (fun q15 => ?_)
    refine go_pald k35_38 hg q15 (fun r14 => ?_)
    refine go_astore k35_39 rfl (loc2 := [u0, some (sI v1), some (sI v2), some (sI v3), some (sR v4), some (sI v5), some (sI v6), some (sR (g v4 v6))]) rfl ?_
    refine go_aload k35_41 rfl ?_
    refine go_ck (fun q16 => ?_)
    refine go_callP3 k35_43 rfl rfl rfl ⟨by decide, _, rfl, q16⟩ ⟨by decide, by decide⟩ (by omega) (tfP_isMortal (by omega) hg q16 ) (fun y17 r18 => ?_)
    refine go_ifeq k35_46 (inR_b r18) (fun c21 => ?_) (fun c22 => ?_)
    · refine go_iinc k35_79 rfl rfl 1 rfl (loc2 := [u0, some (sI v1), some (sI v2), some (sI v3), some (sR v4), some (sI v5), some (sI (w32 (v6 + 1))), some (sR (g v4 v6))]) rfl ?_
      refine go_goto k35_82 ?_
      exact HX27 v2 h2 v3 h3 (w32 (v6 + 1)) (inR_w32 _) u0 w0 (some (sR (g v4 v6))) rfl
    · refine go_aload k35_49 rfl ?_
      refine go_iload k35_51 rfl ?_
      refine go_callP3 k35_52 rfl rfl rfl ⟨by decide, _, rfl, q16⟩ ⟨by decide, by decide⟩ (by omega) (tfP_refuses (by omega) hg q16  h1) (fun y23 r24 => ?_)
      refine go_ifeq k35_55 (inR_b r24) (fun c27 => ?_) (fun c28 => ?_)
      · refine go_aload k35_58 rfl ?_
        refine go_callP1 k35_60 rfl rfl rfl ⟨by decide, _, rfl, q16⟩ ⟨by decide, by decide⟩ (by omega) (tfP_room (by omega) hg q16 ) (fun y29 r30 => ?_)
        refine go_iload k35_63 rfl ?_
        refine go_cmgt k35_64 r30 h3 (fun c33 => ?_) (fun c34 => ?_)
        · refine go_aload k35_67 rfl ?_
          refine go_getI (bI := 0) k35_69 hg q16 (by decide) rfl rfl (fun r35 => ?_)
          refine go_istore k35_72 rfl (loc2 := [u0, some (sI v1), some (sI (g (g v4 v6) 0)), some (sI v3), some (sR v4), some (sI v5), some (sI v6), some (sR (g v4 v6))]) rfl ?_
          refine go_aload k35_73 rfl ?_
          refine go_callP1 k35_75 rfl rfl rfl ⟨by decide, _, rfl, q16⟩ ⟨by decide, by decide⟩ (by omega) (tfP_room (by omega) hg q16 ) (fun y36 r37 => ?_)
          refine go_istore k35_78 rfl (loc2 := [u0, some (sI v1), some (sI (g (g v4 v6) 0)), some (sI y36), some (sR v4), some (sI v5), some (sI v6), some (sR (g v4 v6))]) rfl ?_
          refine go_iinc k35_79 rfl rfl 1 rfl (loc2 := [u0, some (sI v1), some (sI (g (g v4 v6) 0)), some (sI y36), some (sR v4), some (sI v5), some (sI (w32 (v6 + 1))), some (sR (g v4 v6))]) rfl ?_
          refine go_goto k35_82 ?_
          exact HX27 (g (g v4 v6) 0) r35 y36 r37 (w32 (v6 + 1)) (inR_w32 _) u0 w0 (some (sR (g v4 v6))) rfl
        · refine go_iinc k35_79 rfl rfl 1 rfl (loc2 := [u0, some (sI v1), some (sI v2), some (sI v3), some (sR v4), some (sI v5), some (sI (w32 (v6 + 1))), some (sR (g v4 v6))]) rfl ?_
          refine go_goto k35_82 ?_
          exact HX27 v2 h2 v3 h3 (w32 (v6 + 1)) (inR_w32 _) u0 w0 (some (sR (g v4 v6))) rfl
      · refine go_iinc k35_79 rfl rfl 1 rfl (loc2 := [u0, some (sI v1), some (sI v2), some (sI v3), some (sR v4), some (sI v5), some (sI (w32 (v6 + 1))), some (sR (g v4 v6))]) rfl ?_
        refine go_goto k35_82 ?_
        exact HX27 v2 h2 v3 h3 (w32 (v6 + 1)) (inR_w32 _) u0 w0 (some (sR (g v4 v6))) rfl
  · refine go_iload k35_85 rfl ?_
    exact go_iret k35_86 hg h2 ⟨by decide, by decide⟩ rfl
theorem tlC_roomiest_27 {Φ : ev_P} {d : Nat} (hd : 1 ≤ d) {g : gH} (hg : HR g) {v1 v4 v5 : Int} (h1 : InR v1) (h4 : RfR v4) (h5 : InR v5) : ∀ n : Nat, ∀ (v2 : Int) (h2 : InR v2) (v3 : Int) (h3 : InR v3) (v6 : Int) (h6 : InR v6) (u0 : Option ev_V) (w0 : nwo u0) (u7 : Option ev_V) (w7 : nwo u7), Go Φ pr_P (fQ g) 1 (lC_roomiest_27 g v1 v4 v5 n v2 v3 v6) d pr_m35 27 [u0, some (sI v1), some (sI v2), some (sI v3), some (sR v4), some (sI v5), some (sI v6), u7] [] g 1 6 := by
  intro n
  induction n with
  | zero => intros; exact go_none
  | succ n ih => exact tbC_roomiest_27 hd hg h1 h4 h5 ih
theorem tfC_roomiest {Φ : ev_P} {d : Nat} (hd : 1 ≤ d) {g : gH} (hg : HR g) {v0 v1 : Int} (hK0 : kd v0 = 6) (h1 : InR v1) : Go Φ pr_P (fQ g) 1 (fC_roomiest g v0 v1) d (pr_P 35) 0 (ev_loc (pr_P 35).1 [(sR v0), (sI v1)]) [] g 0 0 := by
  show Go Φ pr_P (fQ g) 1 (fC_roomiest g v0 v1) d pr_m35 0 [some (sR v0), some (sI v1), none, none, none, none, none, none] [] g 0 0
  unfold fC_roomiest
  refine go_iload k35_0 rfl ?_
  refine go_int k35_1 9 rfl ?_
  refine go_callQ0 k35_3 rfl rfl rfl trivial ⟨by decide, by decide⟩ (by omega) (tfC_checkRange (by omega) hg  h1 (inR_of (by decide))) (fun y1 => ?_) (fun e5 E6 => ge_prop rfl ⟨by decide, by decide⟩ e5 rfl)
  refine go_int k35_6 (-1) rfl ?_
  refine go_istore k35_7 rfl (loc2 := [some (sR v0), some (sI v1), some (sI (-1)), none, none, none, none, none]) rfl ?_
  refine go_int k35_8 0 rfl ?_
  refine go_istore k35_9 rfl (loc2 := [some (sR v0), some (sI v1), some (sI (-1)), some (sI 0), none, none, none, none]) rfl ?_
  refine go_aload k35_10 rfl ?_
  refine go_getR (bI := 0) k35_11 hg hK0 (by decide) rfl rfl (fun r7 => ?_)
  refine go_ck (fun q8 => ?_)
  refine go_getR (bI := 1) k35_14 hg q8 (by decide) rfl rfl (fun r9 => ?_)
  refine go_astore k35_17 rfl (loc2 := [some (sR v0), some (sI v1), some (sI (-1)), some (sI 0), some (sR (g (g v0 0) 1)), none, none, none]) rfl ?_
  refine go_aload k35_19 rfl ?_
  refine go_ck (fun q11 => ?_)
  refine go_alen k35_21 (ka_24 q11) (fun r10 => ?_)
  refine go_istore k35_22 rfl (loc2 := [some (sR v0), some (sI v1), some (sI (-1)), some (sI 0), some (sR (g (g v0 0) 1)), some (sI (sz (g (g v0 0) 1))), none, none]) rfl ?_
  refine go_int k35_24 0 rfl ?_
  refine go_istore k35_25 rfl (loc2 := [some (sR v0), some (sI v1), some (sI (-1)), some (sI 0), some (sR (g (g v0 0) 1)), some (sI (sz (g (g v0 0) 1))), some (sI 0), none]) rfl ?_
  exact tlC_roomiest_27 hd hg h1 r9 r10 fu (-1) (inR_of (by decide)) 0 (inR_b (Or.inl rfl)) 0 (inR_b (Or.inl rfl)) (some (sR v0)) rfl none rfl
theorem tfW_roomiest {Φ : ev_P} {d : Nat} (hd : 2 ≤ d) {g : gH} (hg : HR g) {v0 v1 v2 : Int} (h0 : RfR v0) (h1 : InR v1) (h2 : RfR v2) : Go Φ pr_P fN 1 (fW_roomiest g v0 v1 v2) d (pr_P 331) 0 (ev_loc (pr_P 331).1 [(sR v0), (sI v1), (sR v2)]) [] g 0 0 := by
  show Go Φ pr_P fN 1 (fW_roomiest g v0 v1 v2) d pr_m331 0 [some (sR v0), some (sI v1), some (sR v2), none] [] g 0 0
  unfold fW_roomiest
  refine go_aload k331_0 rfl ?_
  refine go_int k331_1 0 rfl ?_
  refine go_aload k331_2 rfl ?_
  refine go_iload k331_3 rfl ?_
  refine go_ck (fun q1 => ?_)
  refine go_callQ1 k331_4 rfl rfl rfl ⟨by decide, _, rfl, q1⟩ ⟨by decide, by decide⟩ (by omega) (tfC_roomiest (by omega) hg q1  h1) (fun y2 r3 => ?_) (fun e6 E7 => ?_)
  · refine go_i2l k331_7 r3 ?_
    refine go_ck (fun q8 => ?_)
    refine go_last k331_8 hg q8 (inL_R r3) (fun g9 e10 => ?_)
    refine go_goto k331_9 ?_
    refine go_int k331_15 0 rfl ?_
    exact go_iret k331_16 e10 (inR_b (Or.inl rfl)) ⟨by decide, by decide⟩ rfl
  · refine ge_ite (fun hE9 => ?_) (fun _ => ?_)
    · subst hE9
      refine ge_catch rfl k331_12 rfl (loc2 := [some (sR v0), some (sI v1), some (sR v2), none]) rfl ?_
      refine go_int k331_13 1 rfl ?_
      exact go_iret k331_14 e6 (inR_b (Or.inr rfl)) ⟨by decide, by decide⟩ rfl
    exact ge_none
theorem tbC_ofGroup_23 {Φ : ev_P} {d : Nat} (hd : 1 ≤ d) {g : gH} (hg : HR g) {v1 v3 v4 : Int} (h1 : InR v1) (h3 : RfR v3) (h4 : InR v4) {X23 : Int → Int → Option (Nat × Int)} (HX23 : ∀ (v2 : Int) (h2 : InR v2) (v5 : Int) (h5 : InR v5) (u0 : Option ev_V) (w0 : nwo u0) (u6 : Option ev_V) (w6 : nwo u6), Go Φ pr_P (fQ g) 1 (X23 v2 v5) d pr_m38 23 [u0, some (sI v1), some (sI v2), some (sR v3), some (sI v4), some (sI v5), u6] [] g 1 6) : ∀ (v2 : Int) (h2 : InR v2) (v5 : Int) (h5 : InR v5) (u0 : Option ev_V) (w0 : nwo u0) (u6 : Option ev_V) (w6 : nwo u6), Go Φ pr_P (fQ g) 1 (bC_ofGroup_23 g v1 v3 v4 X23 v2 v5) d pr_m38 23 [u0, some (sI v1), some (sI v2), some (sR v3), some (sI v4), some (sI v5), u6] [] g 1 6 := by
  intro v2 h2 v5 h5 u0 w0 u6 w6
  unfold bC_ofGroup_23
  refine go_iload k38_23 rfl ?_
  refine go_iload k38_25 rfl ?_
  refine go_cmlt k38_27 h5 h4 (fun c12 => ?_) (fun c13 => ?_)
  · refine go_aload k38_30 rfl ?_
    refine go_iload k38_31 rfl ?_
    refine go_ck (fun q15 => ?_)
    refine go_pald k38_33 hg q15 (fun r14 => ?_)
    refine go_astore k38_34 rfl (loc2 := [u0, some (sI v1), some (sI v2), some (sR v3), some (sI v4), some (sI v5), some (sR (g v3 v5))]) rfl ?_
    refine go_aload k38_36 rfl ?_
    refine go_ck (fun q16 => ?_)
    refine go_callP3 k38_38 rfl rfl rfl ⟨by decide, _, rfl, q16⟩ ⟨by decide, by decide⟩ (by omega) (tfP_isRunning (by omega) hg q16 ) (fun y17 r18 => ?_)
    refine go_ifeq k38_41 (inR_b r18) (fun c21 => ?_) (fun c22 => ?_)
    · refine go_iinc k38_56 rfl rfl 1 rfl (loc2 := [u0, some (sI v1), some (sI v2), some (sR v3), some (sI v4), some (sI (w32 (v5 + 1))), some (sR (g v3 v5))]) rfl ?_
      refine go_goto k38_59 ?_
      exact HX23 v2 h2 (w32 (v5 + 1)) (inR_w32 _) u0 w0 (some (sR (g v3 v5))) rfl
    · refine go_aload k38_44 rfl ?_
      refine go_getI (bI := 5) k38_46 hg q16 (by decide) rfl rfl (fun r23 => ?_)
      refine go_iload k38_49 rfl ?_
      refine go_cmeq k38_50 r23 h1 (fun c24 => ?_) (fun c25 => ?_)
      · refine go_iinc k38_53 rfl rfl 1 rfl (loc2 := [u0, some (sI v1), some (sI (w32 (v2 + 1))), some (sR v3), some (sI v4), some (sI v5), some (sR (g v3 v5))]) rfl ?_
        refine go_iinc k38_56 rfl rfl 1 rfl (loc2 := [u0, some (sI v1), some (sI (w32 (v2 + 1))), some (sR v3), some (sI v4), some (sI (w32 (v5 + 1))), some (sR (g v3 v5))]) rfl ?_
        refine go_goto k38_59 ?_
        exact HX23 (w32 (v2 + 1)) (inR_w32 _) (w32 (v5 + 1)) (inR_w32 _) u0 w0 (some (sR (g v3 v5))) rfl
      · refine go_iinc k38_56 rfl rfl 1 rfl (loc2 := [u0, some (sI v1), some (sI v2), some (sR v3), some (sI v4), some (sI (w32 (v5 + 1))), some (sR (g v3 v5))]) rfl ?_
        refine go_goto k38_59 ?_
        exact HX23 v2 h2 (w32 (v5 + 1)) (inR_w32 _) u0 w0 (some (sR (g v3 v5))) rfl
  · refine go_iload k38_62 rfl ?_
    exact go_iret k38_63 hg h2 ⟨by decide, by decide⟩ rfl
theorem tlC_ofGroup_23 {Φ : ev_P} {d : Nat} (hd : 1 ≤ d) {g : gH} (hg : HR g) {v1 v3 v4 : Int} (h1 : InR v1) (h3 : RfR v3) (h4 : InR v4) : ∀ n : Nat, ∀ (v2 : Int) (h2 : InR v2) (v5 : Int) (h5 : InR v5) (u0 : Option ev_V) (w0 : nwo u0) (u6 : Option ev_V) (w6 : nwo u6), Go Φ pr_P (fQ g) 1 (lC_ofGroup_23 g v1 v3 v4 n v2 v5) d pr_m38 23 [u0, some (sI v1), some (sI v2), some (sR v3), some (sI v4), some (sI v5), u6] [] g 1 6 := by
  intro n
  induction n with
  | zero => intros; exact go_none
  | succ n ih => exact tbC_ofGroup_23 hd hg h1 h3 h4 ih
theorem tfC_ofGroup {Φ : ev_P} {d : Nat} (hd : 1 ≤ d) {g : gH} (hg : HR g) {v0 v1 : Int} (hK0 : kd v0 = 6) (h1 : InR v1) : Go Φ pr_P (fQ g) 1 (fC_ofGroup g v0 v1) d (pr_P 38) 0 (ev_loc (pr_P 38).1 [(sR v0), (sI v1)]) [] g 0 0 := by
  show Go Φ pr_P (fQ g) 1 (fC_ofGroup g v0 v1) d pr_m38 0 [some (sR v0), some (sI v1), none, none, none, none, none] [] g 0 0
  unfold fC_ofGroup
  refine go_iload k38_0 rfl ?_
  refine go_int k38_1 9 rfl ?_
  refine go_callQ0 k38_3 rfl rfl rfl trivial ⟨by decide, by decide⟩ (by omega) (tfC_checkRange (by omega) hg  h1 (inR_of (by decide))) (fun y1 => ?_) (fun e5 E6 => ge_prop rfl ⟨by decide, by decide⟩ e5 rfl)
  refine go_int k38_6 0 rfl ?_
  refine go_istore k38_7 rfl (loc2 := [some (sR v0), some (sI v1), some (sI 0), none, none, none, none]) rfl ?_
  refine go_aload k38_8 rfl ?_
  refine go_getR (bI := 0) k38_9 hg hK0 (by decide) rfl rfl (fun r7 => ?_)
  refine go_ck (fun q8 => ?_)
  refine go_getR (bI := 1) k38_12 hg q8 (by decide) rfl rfl (fun r9 => ?_)
  refine go_astore k38_15 rfl (loc2 := [some (sR v0), some (sI v1), some (sI 0), some (sR (g (g v0 0) 1)), none, none, none]) rfl ?_
  refine go_aload k38_16 rfl ?_
  refine go_ck (fun q11 => ?_)
  refine go_alen k38_17 (ka_24 q11) (fun r10 => ?_)
  refine go_istore k38_18 rfl (loc2 := [some (sR v0), some (sI v1), some (sI 0), some (sR (g (g v0 0) 1)), some (sI (sz (g (g v0 0) 1))), none, none]) rfl ?_
  refine go_int k38_20 0 rfl ?_
  refine go_istore k38_21 rfl (loc2 := [some (sR v0), some (sI v1), some (sI 0), some (sR (g (g v0 0) 1)), some (sI (sz (g (g v0 0) 1))), some (sI 0), none]) rfl ?_
  exact tlC_ofGroup_23 hd hg h1 r9 r10 fu 0 (inR_b (Or.inl rfl)) 0 (inR_b (Or.inl rfl)) (some (sR v0)) rfl none rfl
theorem tfW_ofGroup {Φ : ev_P} {d : Nat} (hd : 2 ≤ d) {g : gH} (hg : HR g) {v0 v1 v2 : Int} (h0 : RfR v0) (h1 : InR v1) (h2 : RfR v2) : Go Φ pr_P fN 1 (fW_ofGroup g v0 v1 v2) d (pr_P 332) 0 (ev_loc (pr_P 332).1 [(sR v0), (sI v1), (sR v2)]) [] g 0 0 := by
  show Go Φ pr_P fN 1 (fW_ofGroup g v0 v1 v2) d pr_m332 0 [some (sR v0), some (sI v1), some (sR v2), none] [] g 0 0
  unfold fW_ofGroup
  refine go_aload k332_0 rfl ?_
  refine go_int k332_1 0 rfl ?_
  refine go_aload k332_2 rfl ?_
  refine go_iload k332_3 rfl ?_
  refine go_ck (fun q1 => ?_)
  refine go_callQ1 k332_4 rfl rfl rfl ⟨by decide, _, rfl, q1⟩ ⟨by decide, by decide⟩ (by omega) (tfC_ofGroup (by omega) hg q1  h1) (fun y2 r3 => ?_) (fun e6 E7 => ?_)
  · refine go_i2l k332_7 r3 ?_
    refine go_ck (fun q8 => ?_)
    refine go_last k332_8 hg q8 (inL_R r3) (fun g9 e10 => ?_)
    refine go_goto k332_9 ?_
    refine go_int k332_15 0 rfl ?_
    exact go_iret k332_16 e10 (inR_b (Or.inl rfl)) ⟨by decide, by decide⟩ rfl
  · refine ge_ite (fun hE9 => ?_) (fun _ => ?_)
    · subst hE9
      refine ge_catch rfl k332_12 rfl (loc2 := [some (sR v0), some (sI v1), some (sR v2), none]) rfl ?_
      refine go_int k332_13 1 rfl ?_
      exact go_iret k332_14 e6 (inR_b (Or.inr rfl)) ⟨by decide, by decide⟩ rfl
    exact ge_none
theorem tfC_nextTestament {Φ : ev_P} {d : Nat} (hd : 2 ≤ d) {g : gH} (hg : HR g) {v0 v1 : Int} (hK0 : kd v0 = 6) (h1 : InR v1) : Go Φ pr_P (fQ g) 1 (fC_nextTestament g v0 v1) d (pr_P 39) 0 (ev_loc (pr_P 39).1 [(sR v0), (sI v1)]) [] g 0 0 := by
  show Go Φ pr_P (fQ g) 1 (fC_nextTestament g v0 v1) d pr_m39 0 [some (sR v0), some (sI v1)] [] g 0 0
  unfold fC_nextTestament
  refine go_aload k39_0 rfl ?_
  refine go_getR (bI := 0) k39_1 hg hK0 (by decide) rfl rfl (fun r1 => ?_)
  refine go_aload k39_4 rfl ?_
  refine go_iload k39_5 rfl ?_
  refine go_callQ2 k39_6 rfl rfl rfl ⟨by decide, _, rfl, hK0⟩ ⟨by decide, by decide⟩ (by omega) (tfC_named (by omega) hg hK0  h1) (fun y2 r3 => ?_) (fun e6 E7 => ge_prop rfl ⟨by decide, by decide⟩ e6 rfl)
  refine go_int k39_9 (-1) rfl ?_
  refine go_ck (fun q8 => ?_)
  refine go_callP2 k39_10 rfl rfl rfl ⟨by decide, _, rfl, q8⟩ ⟨by decide, by decide⟩ (by omega) (tfT_zombieBehind (by omega) hg q8  r3 (inR_of (by decide))) (fun y9 r10 => ?_)
  refine go_callP1 k39_13 rfl rfl rfl trivial ⟨by decide, by decide⟩ (by omega) (tfC_numberOf (by omega) hg  r10) (fun y13 r14 => ?_)
  exact go_iret k39_16 hg r14 ⟨by decide, by decide⟩ rfl
theorem tfW_nextTestament {Φ : ev_P} {d : Nat} (hd : 3 ≤ d) {g : gH} (hg : HR g) {v0 v1 v2 : Int} (h0 : RfR v0) (h1 : InR v1) (h2 : RfR v2) : Go Φ pr_P fN 1 (fW_nextTestament g v0 v1 v2) d (pr_P 333) 0 (ev_loc (pr_P 333).1 [(sR v0), (sI v1), (sR v2)]) [] g 0 0 := by
  show Go Φ pr_P fN 1 (fW_nextTestament g v0 v1 v2) d pr_m333 0 [some (sR v0), some (sI v1), some (sR v2), none] [] g 0 0
  unfold fW_nextTestament
  refine go_aload k333_0 rfl ?_
  refine go_int k333_1 0 rfl ?_
  refine go_aload k333_2 rfl ?_
  refine go_iload k333_3 rfl ?_
  refine go_ck (fun q1 => ?_)
  refine go_callQ1 k333_4 rfl rfl rfl ⟨by decide, _, rfl, q1⟩ ⟨by decide, by decide⟩ (by omega) (tfC_nextTestament (by omega) hg q1  h1) (fun y2 r3 => ?_) (fun e6 E7 => ?_)
  · refine go_i2l k333_7 r3 ?_
    refine go_ck (fun q8 => ?_)
    refine go_last k333_8 hg q8 (inL_R r3) (fun g9 e10 => ?_)
    refine go_goto k333_9 ?_
    refine go_int k333_15 0 rfl ?_
    exact go_iret k333_16 e10 (inR_b (Or.inl rfl)) ⟨by decide, by decide⟩ rfl
  · refine ge_ite (fun hE9 => ?_) (fun _ => ?_)
    · subst hE9
      refine ge_catch rfl k333_12 rfl (loc2 := [some (sR v0), some (sI v1), some (sR v2), none]) rfl ?_
      refine go_int k333_13 1 rfl ?_
      exact go_iret k333_14 e6 (inR_b (Or.inr rfl)) ⟨by decide, by decide⟩ rfl
    exact ge_none
theorem tfP_hasExited {Φ : ev_P} {d : Nat} (hd : 0 ≤ d) {g : gH} (hg : HR g) {v0 : Int} (hK0 : kd v0 = 3) : Go Φ pr_P (fP g) 3 (fP_hasExited g v0) d (pr_P 237) 0 (ev_loc (pr_P 237).1 [(sR v0)]) [] g 0 0 := by
  show Go Φ pr_P (fP g) 3 (fP_hasExited g v0) d pr_m237 0 [some (sR v0)] [] g 0 0
  unfold fP_hasExited
  refine go_aload k237_0 rfl ?_
  refine go_getI (bI := 1) k237_1 hg hK0 (by decide) rfl rfl (fun r1 => ?_)
  refine go_int k237_4 1 rfl ?_
  refine go_cmeq k237_5 r1 (inR_b (Or.inr rfl)) (fun c2 => ?_) (fun c3 => ?_)
  · refine go_int k237_16 1 rfl ?_
    refine go_goto k237_17 ?_
    exact go_bret k237_21 hg (Or.inr rfl) ⟨Nat.zero_le _, Nat.zero_le _⟩ rfl
  · refine go_aload k237_8 rfl ?_
    refine go_getI (bI := 1) k237_9 hg hK0 (by decide) rfl rfl (fun r4 => ?_)
    refine go_int k237_12 2 rfl ?_
    refine go_cmeq k237_13 r4 (inR_of (by decide)) (fun c5 => ?_) (fun c6 => ?_)
    · refine go_int k237_16 1 rfl ?_
      refine go_goto k237_17 ?_
      exact go_bret k237_21 hg (Or.inr rfl) ⟨Nat.zero_le _, Nat.zero_le _⟩ rfl
    · refine go_int k237_20 0 rfl ?_
      exact go_bret k237_21 hg (Or.inl rfl) ⟨Nat.zero_le _, Nat.zero_le _⟩ rfl
theorem tjC_exited_56 {Φ : ev_P} {d : Nat} (hd : 1 ≤ d) {g : gH} (hg : HR g) {v2 : Int} (h2 : RfR v2) (u0 : Option ev_V) (w0 : nwo u0) (u1 : Option ev_V) (w1 : nwo u1) (u3 : Option ev_V) (w3 : nwo u3) (u4 : Option ev_V) (w4 : nwo u4) (u5 : Option ev_V) (w5 : nwo u5) (u6 : Option ev_V) (w6 : nwo u6) : Go Φ pr_P (fQ g) 1 (jC_exited_56 g v2 ) d pr_m40 56 [u0, u1, some (sR v2), u3, u4, u5, u6] [] g 0 0 := by
  unfold jC_exited_56
  refine go_aload k40_56 rfl ?_
  refine go_isnull k40_57  (fun c20 => ?_) (fun c21 => ?_)
  · exact go_throw k40_60 hg ⟨by decide, by decide⟩ rfl rfl
  · refine go_aload k40_71 rfl ?_
    refine go_ck (fun q22 => ?_)
    refine go_getI (bI := 0) k40_72 hg q22 (by decide) rfl rfl (fun r23 => ?_)
    exact go_iret k40_75 hg r23 ⟨Nat.zero_le _, Nat.zero_le _⟩ rfl
theorem tbC_exited_17 {Φ : ev_P} {d : Nat} (hd : 1 ≤ d) {g : gH} (hg : HR g) {v1 v3 v4 : Int} (h1 : InR v1) (h3 : RfR v3) (h4 : InR v4) {X17 : Int → Int → Option (Nat × Int)} (HX17 : ∀ (v2 : Int) (h2 : RfR v2) (v5 : Int) (h5 : InR v5) (u0 : Option ev_V) (w0 : nwo u0) (u6 : Option ev_V) (w6 : nwo u6), Go Φ pr_P (fQ g) 1 (X17 v2 v5) d pr_m40 17 [u0, some (sI v1), some (sR v2), some (sR v3), some (sI v4), some (sI v5), u6] [] g 0 0) : ∀ (v2 : Int) (h2 : RfR v2) (v5 : Int) (h5 : InR v5) (u0 : Option ev_V) (w0 : nwo u0) (u6 : Option ev_V) (w6 : nwo u6), Go Φ pr_P (fQ g) 1 (bC_exited_17 g v1 v3 v4 X17 v2 v5) d pr_m40 17 [u0, some (sI v1), some (sR v2), some (sR v3), some (sI v4), some (sI v5), u6] [] g 0 0 := by
  intro v2 h2 v5 h5 u0 w0 u6 w6
  unfold bC_exited_17
  refine go_iload k40_17 rfl ?_
  refine go_iload k40_19 rfl ?_
  refine go_cmlt k40_21 h5 h4 (fun c6 => ?_) (fun c7 => ?_)
  · refine go_aload k40_24 rfl ?_
    refine go_iload k40_25 rfl ?_
    refine go_ck (fun q9 => ?_)
    refine go_pald k40_27 hg q9 (fun r8 => ?_)
    refine go_astore k40_28 rfl (loc2 := [u0, some (sI v1), some (sR v2), some (sR v3), some (sI v4), some (sI v5), some (sR (g v3 v5))]) rfl ?_
    refine go_aload k40_30 rfl ?_
    refine go_ck (fun q10 => ?_)
    refine go_callP3 k40_32 rfl rfl rfl ⟨by decide, _, rfl, q10⟩ ⟨Nat.zero_le _, Nat.zero_le _⟩ (by omega) (tfP_hasExited (by omega) hg q10 ) (fun y11 r12 => ?_)
    refine go_ifeq k40_35 (inR_b r12) (fun c15 => ?_) (fun c16 => ?_)
    · refine go_iinc k40_50 rfl rfl 1 rfl (loc2 := [u0, some (sI v1), some (sR v2), some (sR v3), some (sI v4), some (sI (w32 (v5 + 1))), some (sR (g v3 v5))]) rfl ?_
      refine go_goto k40_53 ?_
      exact HX17 v2 h2 (w32 (v5 + 1)) (inR_w32 _) u0 w0 (some (sR (g v3 v5))) rfl
    · refine go_aload k40_38 rfl ?_
      refine go_getI (bI := 10) k40_40 hg q10 (by decide) rfl rfl (fun r17 => ?_)
      refine go_iload k40_43 rfl ?_
      refine go_cmeq k40_44 r17 h1 (fun c18 => ?_) (fun c19 => ?_)
      · refine go_aload k40_47 rfl ?_
        refine go_astore k40_49 rfl (loc2 := [u0, some (sI v1), some (sR (g v3 v5)), some (sR v3), some (sI v4), some (sI v5), some (sR (g v3 v5))]) rfl ?_
        refine go_iinc k40_50 rfl rfl 1 rfl (loc2 := [u0, some (sI v1), some (sR (g v3 v5)), some (sR v3), some (sI v4), some (sI (w32 (v5 + 1))), some (sR (g v3 v5))]) rfl ?_
        refine go_goto k40_53 ?_
        exact HX17 (g v3 v5) r8 (w32 (v5 + 1)) (inR_w32 _) u0 w0 (some (sR (g v3 v5))) rfl
      · refine go_iinc k40_50 rfl rfl 1 rfl (loc2 := [u0, some (sI v1), some (sR v2), some (sR v3), some (sI v4), some (sI (w32 (v5 + 1))), some (sR (g v3 v5))]) rfl ?_
        refine go_goto k40_53 ?_
        exact HX17 v2 h2 (w32 (v5 + 1)) (inR_w32 _) u0 w0 (some (sR (g v3 v5))) rfl
  · exact tjC_exited_56 hd hg h2 u0 w0 (some (sI v1)) rfl (some (sR v3)) rfl (some (sI v4)) rfl (some (sI v5)) rfl u6 w6
theorem tlC_exited_17 {Φ : ev_P} {d : Nat} (hd : 1 ≤ d) {g : gH} (hg : HR g) {v1 v3 v4 : Int} (h1 : InR v1) (h3 : RfR v3) (h4 : InR v4) : ∀ n : Nat, ∀ (v2 : Int) (h2 : RfR v2) (v5 : Int) (h5 : InR v5) (u0 : Option ev_V) (w0 : nwo u0) (u6 : Option ev_V) (w6 : nwo u6), Go Φ pr_P (fQ g) 1 (lC_exited_17 g v1 v3 v4 n v2 v5) d pr_m40 17 [u0, some (sI v1), some (sR v2), some (sR v3), some (sI v4), some (sI v5), u6] [] g 0 0 := by
  intro n
  induction n with
  | zero => intros; exact go_none
  | succ n ih => exact tbC_exited_17 hd hg h1 h3 h4 ih
theorem tfC_exited {Φ : ev_P} {d : Nat} (hd : 1 ≤ d) {g : gH} (hg : HR g) {v0 v1 : Int} (hK0 : kd v0 = 6) (h1 : InR v1) : Go Φ pr_P (fQ g) 1 (fC_exited g v0 v1) d (pr_P 40) 0 (ev_loc (pr_P 40).1 [(sR v0), (sI v1)]) [] g 0 0 := by
  show Go Φ pr_P (fQ g) 1 (fC_exited g v0 v1) d pr_m40 0 [some (sR v0), some (sI v1), none, none, none, none, none] [] g 0 0
  unfold fC_exited
  refine go_null k40_0 ?_
  refine go_astore k40_1 rfl (loc2 := [some (sR v0), some (sI v1), some (sR (-1)), none, none, none, none]) rfl ?_
  refine go_aload k40_2 rfl ?_
  refine go_getR (bI := 0) k40_3 hg hK0 (by decide) rfl rfl (fun r1 => ?_)
  refine go_ck (fun q2 => ?_)
  refine go_getR (bI := 1) k40_6 hg q2 (by decide) rfl rfl (fun r3 => ?_)
  refine go_astore k40_9 rfl (loc2 := [some (sR v0), some (sI v1), some (sR (-1)), some (sR (g (g v0 0) 1)), none, none, none]) rfl ?_
  refine go_aload k40_10 rfl ?_
  refine go_ck (fun q5 => ?_)
  refine go_alen k40_11 (ka_24 q5) (fun r4 => ?_)
  refine go_istore k40_12 rfl (loc2 := [some (sR v0), some (sI v1), some (sR (-1)), some (sR (g (g v0 0) 1)), some (sI (sz (g (g v0 0) 1))), none, none]) rfl ?_
  refine go_int k40_14 0 rfl ?_
  refine go_istore k40_15 rfl (loc2 := [some (sR v0), some (sI v1), some (sR (-1)), some (sR (g (g v0 0) 1)), some (sI (sz (g (g v0 0) 1))), some (sI 0), none]) rfl ?_
  exact tlC_exited_17 hd hg h1 r3 r4 fu (-1) rfR_null 0 (inR_b (Or.inl rfl)) (some (sR v0)) rfl none rfl
theorem tfW_exited {Φ : ev_P} {d : Nat} (hd : 2 ≤ d) {g : gH} (hg : HR g) {v0 v1 v2 : Int} (h0 : RfR v0) (h1 : InR v1) (h2 : RfR v2) : Go Φ pr_P fN 1 (fW_exited g v0 v1 v2) d (pr_P 334) 0 (ev_loc (pr_P 334).1 [(sR v0), (sI v1), (sR v2)]) [] g 0 0 := by
  show Go Φ pr_P fN 1 (fW_exited g v0 v1 v2) d pr_m334 0 [some (sR v0), some (sI v1), some (sR v2), none] [] g 0 0
  unfold fW_exited
  refine go_aload k334_0 rfl ?_
  refine go_int k334_1 0 rfl ?_
  refine go_aload k334_2 rfl ?_
  refine go_iload k334_3 rfl ?_
  refine go_ck (fun q1 => ?_)
  refine go_callQ1 k334_4 rfl rfl rfl ⟨by decide, _, rfl, q1⟩ ⟨by decide, by decide⟩ (by omega) (tfC_exited (by omega) hg q1  h1) (fun y2 r3 => ?_) (fun e6 E7 => ?_)
  · refine go_i2l k334_7 r3 ?_
    refine go_ck (fun q8 => ?_)
    refine go_last k334_8 hg q8 (inL_R r3) (fun g9 e10 => ?_)
    refine go_goto k334_9 ?_
    refine go_int k334_15 0 rfl ?_
    exact go_iret k334_16 e10 (inR_b (Or.inl rfl)) ⟨by decide, by decide⟩ rfl
  · refine ge_ite (fun hE9 => ?_) (fun _ => ?_)
    · subst hE9
      refine ge_catch rfl k334_12 rfl (loc2 := [some (sR v0), some (sI v1), some (sR v2), none]) rfl ?_
      refine go_int k334_13 1 rfl ?_
      exact go_iret k334_14 e6 (inR_b (Or.inr rfl)) ⟨by decide, by decide⟩ rfl
    exact ge_none
theorem tbT_deepestBelow_14 {Φ : ev_P} {d : Nat} (hd : 1 ≤ d) {g : gH} (hg : HR g) {v1 v3 v4 : Int} (h1 : RfR v1) (h3 : RfR v3) (h4 : InR v4) {X14 : Int → Int → Option Int} (HX14 : ∀ (v2 : Int) (h2 : RfR v2) (v5 : Int) (h5 : InR v5) (u0 : Option ev_V) (w0 : nwo u0) (u6 : Option ev_V) (w6 : nwo u6), Go Φ pr_P (fP g) 2 (X14 v2 v5) d pr_m304 14 [u0, some (sR v1), some (sR v2), some (sR v3), some (sI v4), some (sI v5), u6] [] g 0 0) : ∀ (v2 : Int) (h2 : RfR v2) (v5 : Int) (h5 : InR v5) (u0 : Option ev_V) (w0 : nwo u0) (u6 : Option ev_V) (w6 : nwo u6), Go Φ pr_P (fP g) 2 (bT_deepestBelow_14 g v1 v3 v4 X14 v2 v5) d pr_m304 14 [u0, some (sR v1), some (sR v2), some (sR v3), some (sI v4), some (sI v5), u6] [] g 0 0 := by
  intro v2 h2 v5 h5 u0 w0 u6 w6
  unfold bT_deepestBelow_14
  refine go_iload k304_14 rfl ?_
  refine go_iload k304_16 rfl ?_
  refine go_cmlt k304_18 h5 h4 (fun c4 => ?_) (fun c5 => ?_)
  · refine go_aload k304_21 rfl ?_
    refine go_iload k304_22 rfl ?_
    refine go_ck (fun q7 => ?_)
    refine go_pald k304_24 hg q7 (fun r6 => ?_)
    refine go_astore k304_25 rfl (loc2 := [u0, some (sR v1), some (sR v2), some (sR v3), some (sI v4), some (sI v5), some (sR (g v3 v5))]) rfl ?_
    refine go_aload k304_27 rfl ?_
    refine go_ck (fun q8 => ?_)
    refine go_callP3 k304_29 rfl rfl rfl ⟨by decide, _, rfl, q8⟩ ⟨Nat.zero_le _, Nat.zero_le _⟩ (by omega) (tfP_isRunning (by omega) hg q8 ) (fun y9 r10 => ?_)
    refine go_ifeq k304_32 (inR_b r10) (fun c13 => ?_) (fun c14 => ?_)
    · refine go_iinc k304_63 rfl rfl 1 rfl (loc2 := [u0, some (sR v1), some (sR v2), some (sR v3), some (sI v4), some (sI (w32 (v5 + 1))), some (sR (g v3 v5))]) rfl ?_
      refine go_goto k304_66 ?_
      exact HX14 v2 h2 (w32 (v5 + 1)) (inR_w32 _) u0 w0 (some (sR (g v3 v5))) rfl
    · refine go_aload k304_35 rfl ?_
      refine go_aload k304_36 rfl ?_
      refine go_ck (fun q15 => ?_)
      refine go_callP3 k304_38 rfl rfl rfl ⟨by decide, _, rfl, q15⟩ ⟨Nat.zero_le _, Nat.zero_le _⟩ (by omega) (tfP_isOver (by omega) hg q15  r6) (fun y16 r17 => ?_)
      refine go_ifeq k304_41 (inR_b r17) (fun c20 => ?_) (fun c21 => ?_)
      · refine go_iinc k304_63 rfl rfl 1 rfl (loc2 := [u0, some (sR v1), some (sR v2), some (sR v3), some (sI v4), some (sI (w32 (v5 + 1))), some (sR (g v3 v5))]) rfl ?_
        refine go_goto k304_66 ?_
        exact HX14 v2 h2 (w32 (v5 + 1)) (inR_w32 _) u0 w0 (some (sR (g v3 v5))) rfl
      · refine go_aload k304_44 rfl ?_
        refine go_isnull k304_45  (fun c22 => ?_) (fun c23 => ?_)
        · refine go_aload k304_60 rfl ?_
          refine go_astore k304_62 rfl (loc2 := [u0, some (sR v1), some (sR (g v3 v5)), some (sR v3), some (sI v4), some (sI v5), some (sR (g v3 v5))]) rfl ?_
          refine go_iinc k304_63 rfl rfl 1 rfl (loc2 := [u0, some (sR v1), some (sR (g v3 v5)), some (sR v3), some (sI v4), some (sI (w32 (v5 + 1))), some (sR (g v3 v5))]) rfl ?_
          refine go_goto k304_66 ?_
          exact HX14 (g v3 v5) r6 (w32 (v5 + 1)) (inR_w32 _) u0 w0 (some (sR (g v3 v5))) rfl
        · refine go_aload k304_48 rfl ?_
          refine go_callP1 k304_50 rfl rfl rfl ⟨by decide, _, rfl, q8⟩ ⟨Nat.zero_le _, Nat.zero_le _⟩ (by omega) (tfP_countAbove (by omega) hg q8 ) (fun y24 r25 => ?_)
          refine go_aload k304_53 rfl ?_
          refine go_ck (fun q28 => ?_)
          refine go_callP1 k304_54 rfl rfl rfl ⟨by decide, _, rfl, q28⟩ ⟨Nat.zero_le _, Nat.zero_le _⟩ (by omega) (tfP_countAbove (by omega) hg q28 ) (fun y29 r30 => ?_)
          refine go_cmlt k304_57 r25 r30 (fun c33 => ?_) (fun c34 => ?_)
          · refine go_iinc k304_63 rfl rfl 1 rfl (loc2 := [u0, some (sR v1), some (sR v2), some (sR v3), some (sI v4), some (sI (w32 (v5 + 1))), some (sR (g v3 v5))]) rfl ?_
            refine go_goto k304_66 ?_
            exact HX14 v2 h2 (w32 (v5 + 1)) (inR_w32 _) u0 w0 (some (sR (g v3 v5))) rfl
          · refine go_aload k304_60 rfl ?_
            refine go_astore k304_62 rfl (loc2 := [u0, some (sR v1), some (sR (g v3 v5)), some (sR v3), some (sI v4), some (sI v5), some (sR (g v3 v5))]) rfl ?_
            refine go_iinc k304_63 rfl rfl 1 rfl (loc2 := [u0, some (sR v1), some (sR (g v3 v5)), some (sR v3), some (sI v4), some (sI (w32 (v5 + 1))), some (sR (g v3 v5))]) rfl ?_
            refine go_goto k304_66 ?_
            exact HX14 (g v3 v5) r6 (w32 (v5 + 1)) (inR_w32 _) u0 w0 (some (sR (g v3 v5))) rfl
  · refine go_aload k304_69 rfl ?_
    exact go_aret k304_70 hg h2 ⟨Nat.zero_le _, Nat.zero_le _⟩ rfl
theorem tlT_deepestBelow_14 {Φ : ev_P} {d : Nat} (hd : 1 ≤ d) {g : gH} (hg : HR g) {v1 v3 v4 : Int} (h1 : RfR v1) (h3 : RfR v3) (h4 : InR v4) : ∀ n : Nat, ∀ (v2 : Int) (h2 : RfR v2) (v5 : Int) (h5 : InR v5) (u0 : Option ev_V) (w0 : nwo u0) (u6 : Option ev_V) (w6 : nwo u6), Go Φ pr_P (fP g) 2 (lT_deepestBelow_14 g v1 v3 v4 n v2 v5) d pr_m304 14 [u0, some (sR v1), some (sR v2), some (sR v3), some (sI v4), some (sI v5), u6] [] g 0 0 := by
  intro n
  induction n with
  | zero => intros; exact go_none
  | succ n ih => exact tbT_deepestBelow_14 hd hg h1 h3 h4 ih
theorem tfT_deepestBelow {Φ : ev_P} {d : Nat} (hd : 1 ≤ d) {g : gH} (hg : HR g) {v0 v1 : Int} (hK0 : kd v0 = 5) (h1 : RfR v1) : Go Φ pr_P (fP g) 2 (fT_deepestBelow g v0 v1) d (pr_P 304) 0 (ev_loc (pr_P 304).1 [(sR v0), (sR v1)]) [] g 0 0 := by
  show Go Φ pr_P (fP g) 2 (fT_deepestBelow g v0 v1) d pr_m304 0 [some (sR v0), some (sR v1), none, none, none, none, none] [] g 0 0
  unfold fT_deepestBelow
  refine go_null k304_0 ?_
  refine go_astore k304_1 rfl (loc2 := [some (sR v0), some (sR v1), some (sR (-1)), none, none, none, none]) rfl ?_
  refine go_aload k304_2 rfl ?_
  refine go_getR (bI := 1) k304_3 hg hK0 (by decide) rfl rfl (fun r1 => ?_)
  refine go_astore k304_6 rfl (loc2 := [some (sR v0), some (sR v1), some (sR (-1)), some (sR (g v0 1)), none, none, none]) rfl ?_
  refine go_aload k304_7 rfl ?_
  refine go_ck (fun q3 => ?_)
  refine go_alen k304_8 (ka_24 q3) (fun r2 => ?_)
  refine go_istore k304_9 rfl (loc2 := [some (sR v0), some (sR v1), some (sR (-1)), some (sR (g v0 1)), some (sI (sz (g v0 1))), none, none]) rfl ?_
  refine go_int k304_11 0 rfl ?_
  refine go_istore k304_12 rfl (loc2 := [some (sR v0), some (sR v1), some (sR (-1)), some (sR (g v0 1)), some (sI (sz (g v0 1))), some (sI 0), none]) rfl ?_
  exact tlT_deepestBelow_14 hd hg h1 r1 r2 fu (-1) rfR_null 0 (inR_b (Or.inl rfl)) (some (sR v0)) rfl none rfl
theorem tbT_pruneBelow_9 {Φ : ev_P} {d : Nat} (hd : 5 ≤ d) {v0 v1 v2 : Int} (hK0 : kd v0 = 5) (h1 : RfR v1) (h2 : InR v2) {X9 : Int → Int → gH → Option (Int × gH)} (HX9 : ∀ (v3 : Int) (h3 : InR v3) (v4 : Int) (h4 : RfR v4) (g : gH) (hg : HR g), Go Φ pr_P fN 1 (X9 v3 v4 g) d pr_m303 9 [some (sR v0), some (sR v1), some (sI v2), some (sI v3), some (sR v4)] [] g 0 0) : ∀ (v3 : Int) (h3 : InR v3) (v4 : Int) (h4 : RfR v4) (g : gH) (hg : HR g), Go Φ pr_P fN 1 (bT_pruneBelow_9 v0 v1 v2 X9 v3 v4 g) d pr_m303 9 [some (sR v0), some (sR v1), some (sI v2), some (sI v3), some (sR v4)] [] g 0 0 := by
  intro v3 h3 v4 h4 g hg
  unfold bT_pruneBelow_9
  refine go_aload k303_9 rfl ?_
  refine go_isnull k303_11  (fun c5 => ?_) (fun c6 => ?_)
  · refine go_iload k303_41 rfl ?_
    exact go_iret k303_42 hg h3 ⟨Nat.zero_le _, Nat.zero_le _⟩ rfl
  · refine go_iload k303_14 rfl ?_
    refine go_int k303_15 40 rfl ?_
    refine go_cmlt k303_17 h3 (inR_of (by decide)) (fun c7 => ?_) (fun c8 => ?_)
    · refine go_aload k303_20 rfl ?_
      refine go_aload k303_21 rfl ?_
      refine go_iload k303_23 rfl ?_
      refine go_callN1 k303_24 rfl rfl rfl ⟨by decide, _, rfl, hK0⟩ ⟨Nat.zero_le _, Nat.zero_le _⟩ (by omega) (tfT_letExit (by omega) hg hK0  h4 h2) (fun y9 g11 r10 e12 => ?_)
      refine go_popI k303_27 ?_
      refine go_iinc k303_28 rfl rfl 1 rfl (loc2 := [some (sR v0), some (sR v1), some (sI v2), some (sI (w32 (v3 + 1))), some (sR v4)]) rfl ?_
      refine go_aload k303_31 rfl ?_
      refine go_aload k303_32 rfl ?_
      refine go_callP2 k303_33 rfl rfl rfl ⟨by decide, _, rfl, hK0⟩ ⟨Nat.zero_le _, Nat.zero_le _⟩ (by omega) (tfT_deepestBelow (by omega) e12 hK0  h1) (fun y13 r14 => ?_)
      refine go_astore k303_36 rfl (loc2 := [some (sR v0), some (sR v1), some (sI v2), some (sI (w32 (v3 + 1))), some (sR y13)]) rfl ?_
      refine go_goto k303_38 ?_
      exact HX9 (w32 (v3 + 1)) (inR_w32 _) y13 r14 g11 e12
    · refine go_iload k303_41 rfl ?_
      exact go_iret k303_42 hg h3 ⟨Nat.zero_le _, Nat.zero_le _⟩ rfl
theorem tlT_pruneBelow_9 {Φ : ev_P} {d : Nat} (hd : 5 ≤ d) {v0 v1 v2 : Int} (hK0 : kd v0 = 5) (h1 : RfR v1) (h2 : InR v2) : ∀ n : Nat, ∀ (v3 : Int) (h3 : InR v3) (v4 : Int) (h4 : RfR v4) (g : gH) (hg : HR g), Go Φ pr_P fN 1 (lT_pruneBelow_9 v0 v1 v2 n v3 v4 g) d pr_m303 9 [some (sR v0), some (sR v1), some (sI v2), some (sI v3), some (sR v4)] [] g 0 0 := by
  intro n
  induction n with
  | zero => intros; exact go_none
  | succ n ih => exact tbT_pruneBelow_9 hd hK0 h1 h2 ih
theorem tfT_pruneBelow {Φ : ev_P} {d : Nat} (hd : 5 ≤ d) {g : gH} (hg : HR g) {v0 v1 v2 : Int} (hK0 : kd v0 = 5) (h1 : RfR v1) (h2 : InR v2) : Go Φ pr_P fN 1 (fT_pruneBelow g v0 v1 v2) d (pr_P 303) 0 (ev_loc (pr_P 303).1 [(sR v0), (sR v1), (sI v2)]) [] g 0 0 := by
  show Go Φ pr_P fN 1 (fT_pruneBelow g v0 v1 v2) d pr_m303 0 [some (sR v0), some (sR v1), some (sI v2), none, none] [] g 0 0
  unfold fT_pruneBelow
  refine go_int k303_0 0 rfl ?_
  refine go_istore k303_1 rfl (loc2 := [some (sR v0), some (sR v1), some (sI v2), some (sI 0), none]) rfl ?_
  refine go_aload k303_2 rfl ?_
  refine go_aload k303_3 rfl ?_
  refine go_callP2 k303_4 rfl rfl rfl ⟨by decide, _, rfl, hK0⟩ ⟨Nat.zero_le _, Nat.zero_le _⟩ (by omega) (tfT_deepestBelow (by omega) hg hK0  h1) (fun y1 r2 => ?_)
  refine go_astore k303_7 rfl (loc2 := [some (sR v0), some (sR v1), some (sI v2), some (sI 0), some (sR y1)]) rfl ?_
  exact tlT_pruneBelow_9 hd hK0 h1 h2 fu 0 (inR_b (Or.inl rfl)) y1 r2 g hg
theorem tfC_prune {Φ : ev_P} {d : Nat} (hd : 6 ≤ d) {g : gH} (hg : HR g) {v0 v1 v2 : Int} (hK0 : kd v0 = 6) (h1 : InR v1) (h2 : InR v2) : Go Φ pr_P fT 1 (fC_prune g v0 v1 v2) d (pr_P 43) 0 (ev_loc (pr_P 43).1 [(sR v0), (sI v1), (sI v2)]) [] g 0 0 := by
  show Go Φ pr_P fT 1 (fC_prune g v0 v1 v2) d pr_m43 0 [some (sR v0), some (sI v1), some (sI v2), none] [] g 0 0
  unfold fC_prune
  refine go_aload k43_0 rfl ?_
  refine go_iload k43_1 rfl ?_
  refine go_callQ2 k43_2 rfl rfl rfl ⟨by decide, _, rfl, hK0⟩ ⟨by decide, by decide⟩ (by omega) (tfC_named (by omega) hg hK0  h1) (fun y1 r2 => ?_) (fun e5 E6 => ge_prop rfl ⟨by decide, by decide⟩ e5 rfl)
  refine go_astore k43_5 rfl (loc2 := [some (sR v0), some (sI v1), some (sI v2), some (sR y1)]) rfl ?_
  refine go_iload k43_6 rfl ?_
  refine go_int k43_7 255 rfl ?_
  refine go_callQ0 k43_10 rfl rfl rfl trivial ⟨by decide, by decide⟩ (by omega) (tfC_checkRange (by omega) hg  h2 (inR_of (by decide))) (fun y7 => ?_) (fun e11 E12 => ge_prop rfl ⟨by decide, by decide⟩ e11 rfl)
  refine go_aload k43_13 rfl ?_
  refine go_ck (fun q13 => ?_)
  refine go_callP3 k43_14 rfl rfl rfl ⟨by decide, _, rfl, q13⟩ ⟨by decide, by decide⟩ (by omega) (tfP_isRunning (by omega) hg q13 ) (fun y14 r15 => ?_)
  refine go_callQ0 k43_17 rfl rfl rfl trivial ⟨by decide, by decide⟩ (by omega) (tfC_checkState (by omega) hg  r15) (fun y18 => ?_) (fun e22 E23 => ge_prop rfl ⟨by decide, by decide⟩ e22 rfl)
  refine go_aload k43_20 rfl ?_
  refine go_getR (bI := 3) k43_21 hg hK0 (by decide) rfl rfl (fun r24 => ?_)
  refine go_aload k43_24 rfl ?_
  refine go_getR (bI := 0) k43_25 hg hK0 (by decide) rfl rfl (fun r25 => ?_)
  refine go_ck (fun q26 => ?_)
  refine go_callN0 k43_28 rfl rfl rfl ⟨by decide, _, rfl, q26⟩ ⟨by decide, by decide⟩ (by omega) (tfH_push (by omega) hg q26  r25) (fun y27 g29 e30 => ?_)
  refine go_aload k43_31 rfl ?_
  refine go_getR (bI := 0) k43_32 e30 hK0 (by decide) rfl rfl (fun r31 => ?_)
  refine go_aload k43_35 rfl ?_
  refine go_iload k43_36 rfl ?_
  refine go_ck (fun q32 => ?_)
  refine go_callN1 k43_37 rfl rfl rfl ⟨by decide, _, rfl, q32⟩ ⟨by decide, by decide⟩ (by omega) (tfT_pruneBelow (by omega) e30 q32  r2 h2) (fun y33 g35 r34 e36 => ?_)
  exact go_iret k43_40 e36 r34 ⟨by decide, by decide⟩ rfl
theorem tfW_prune {Φ : ev_P} {d : Nat} (hd : 7 ≤ d) {g : gH} (hg : HR g) {v0 v1 v2 v3 : Int} (h0 : RfR v0) (h1 : InR v1) (h2 : InR v2) (h3 : RfR v3) : Go Φ pr_P fN 1 (fW_prune g v0 v1 v2 v3) d (pr_P 335) 0 (ev_loc (pr_P 335).1 [(sR v0), (sI v1), (sI v2), (sR v3)]) [] g 0 0 := by
  show Go Φ pr_P fN 1 (fW_prune g v0 v1 v2 v3) d pr_m335 0 [some (sR v0), some (sI v1), some (sI v2), some (sR v3), none] [] g 0 0
  unfold fW_prune
  refine go_aload k335_0 rfl ?_
  refine go_int k335_1 0 rfl ?_
  refine go_aload k335_2 rfl ?_
  refine go_iload k335_3 rfl ?_
  refine go_iload k335_4 rfl ?_
  refine go_ck (fun q1 => ?_)
  refine go_callT1 k335_5 rfl rfl rfl ⟨by decide, _, rfl, q1⟩ ⟨by decide, by decide⟩ (by omega) (tfC_prune (by omega) hg q1  h1 h2) (fun y2 g4 r3 e5 => ?_) (fun E7 g4 e6 => ?_)
  · refine go_i2l k335_8 r3 ?_
    refine go_ck (fun q8 => ?_)
    refine go_last k335_9 e5 q8 (inL_R r3) (fun g9 e10 => ?_)
    refine go_goto k335_10 ?_
    refine go_int k335_25 0 rfl ?_
    exact go_iret k335_26 e10 (inR_b (Or.inl rfl)) ⟨by decide, by decide⟩ rfl
  · refine ge_ite (fun hE9 => ?_) (fun _ => ?_)
    · subst hE9
      refine ge_catch rfl k335_13 rfl (loc2 := [some (sR v0), some (sI v1), some (sI v2), some (sR v3), none]) rfl ?_
      refine go_int k335_15 1 rfl ?_
      exact go_iret k335_16 e6 (inR_b (Or.inr rfl)) ⟨by decide, by decide⟩ rfl
    refine ge_ite (fun hE9 => ?_) (fun _ => ?_)
    · subst hE9
      refine ge_catch rfl k335_17 rfl (loc2 := [some (sR v0), some (sI v1), some (sI v2), some (sR v3), none]) rfl ?_
      refine go_int k335_19 2 rfl ?_
      exact go_iret k335_20 e6 (inR_of (by decide)) ⟨by decide, by decide⟩ rfl
    refine ge_ite (fun hE9 => ?_) (fun _ => ?_)
    · subst hE9
      refine ge_catch rfl k335_21 rfl (loc2 := [some (sR v0), some (sI v1), some (sI v2), some (sR v3), none]) rfl ?_
      refine go_int k335_23 3 rfl ?_
      exact go_iret k335_24 e6 (inR_of (by decide)) ⟨by decide, by decide⟩ rfl
    exact ge_none
theorem tjC_exchange_88 {Φ : ev_P} {d : Nat} (hd : 3 ≤ d) {g : gH} (hg : HR g) {v0 v3 v4 : Int} (hK0 : kd v0 = 6) (h3 : RfR v3) (h4 : RfR v4) {s0 : Int} (z0 : B01 s0) (u1 : Option ev_V) (w1 : nwo u1) (u2 : Option ev_V) (w2 : nwo u2) (u5 : Option ev_V) (w5 : nwo u5) (u6 : Option ev_V) (w6 : nwo u6) (u7 : Option ev_V) (w7 : nwo u7) : Go Φ pr_P fT 1 (jC_exchange_88 g v0 v3 v4 s0 ) d pr_m44 88 [some (sR v0), u1, u2, some (sR v3), some (sR v4), u5, u6, u7] [(sI s0)] g 3 18 := by
  unfold jC_exchange_88
  refine go_istore k44_88 rfl (loc2 := [some (sR v0), u1, u2, some (sR v3), some (sR v4), some (sI s0), u6, u7]) rfl ?_
  refine go_int k44_90 2 rfl ?_
  refine go_aload k44_91 rfl ?_
  refine go_getR (bI := 0) k44_92 hg hK0 (by decide) rfl rfl (fun r66 => ?_)
  refine go_aload k44_95 rfl ?_
  refine go_int k44_96 0 rfl ?_
  refine go_ck (fun q67 => ?_)
  refine go_callP1 k44_97 rfl rfl rfl ⟨by decide, _, rfl, q67⟩ ⟨by decide, by decide⟩ (by omega) (tfT_countBelow (by omega) hg q67  h3 (inR_b (Or.inl rfl))) (fun y68 r69 => ?_)
  refine go_iadd k44_100 ?_
  refine go_aload k44_101 rfl ?_
  refine go_getR (bI := 0) k44_102 hg hK0 (by decide) rfl rfl (fun r72 => ?_)
  refine go_aload k44_105 rfl ?_
  refine go_int k44_107 0 rfl ?_
  refine go_callP1 k44_108 rfl rfl rfl ⟨by decide, _, rfl, q67⟩ ⟨by decide, by decide⟩ (by omega) (tfT_countBelow (by omega) hg q67  h4 (inR_b (Or.inl rfl))) (fun y73 r74 => ?_)
  refine go_iadd k44_111 ?_
  refine go_istore k44_112 rfl (loc2 := [some (sR v0), u1, u2, some (sR v3), some (sR v4), some (sI s0), some (sI (w32 ((w32 (2 + y68)) + y73))), u7]) rfl ?_
  refine go_aload k44_114 rfl ?_
  refine go_ck (fun q77 => ?_)
  refine go_getR (bI := 2) k44_115 hg q77 (by decide) rfl rfl (fun r78 => ?_)
  refine go_astore k44_118 rfl (loc2 := [some (sR v0), u1, u2, some (sR v3), some (sR v4), some (sI s0), some (sI (w32 ((w32 (2 + y68)) + y73))), some (sR (g v3 2))]) rfl ?_
  refine go_aload k44_120 rfl ?_
  refine go_aload k44_121 rfl ?_
  refine go_ck (fun q79 => ?_)
  refine go_getR (bI := 2) k44_123 hg q79 (by decide) rfl rfl (fun r80 => ?_)
  refine go_callN0 k44_126 rfl rfl rfl ⟨by decide, _, rfl, q77⟩ ⟨by decide, by decide⟩ (by omega) (tfP_putUnder (by omega) hg q77  r80) (fun y81 g83 e84 => ?_)
  refine go_aload k44_129 rfl ?_
  refine go_aload k44_131 rfl ?_
  refine go_callN0 k44_133 rfl rfl rfl ⟨by decide, _, rfl, q79⟩ ⟨by decide, by decide⟩ (by omega) (tfP_putUnder (by omega) e84 q79  r78) (fun y85 g87 e88 => ?_)
  refine go_iload k44_136 rfl ?_
  refine go_ifeq k44_138 (inR_b z0) (fun c89 => ?_) (fun c90 => ?_)
  · refine go_iload k44_145 rfl ?_
    exact go_iret k44_147 e88 (inR_w32 _) ⟨by decide, by decide⟩ rfl
  · refine go_int k44_141 0 rfl ?_
    refine go_goto k44_142 ?_
    exact go_iret k44_147 e88 (inR_b (Or.inl rfl)) ⟨by decide, by decide⟩ rfl
theorem tjC_exchange_57 {Φ : ev_P} {d : Nat} (hd : 3 ≤ d) {g : gH} (hg : HR g) {v0 v3 v4 : Int} (hK0 : kd v0 = 6) (h3 : RfR v3) (h4 : RfR v4) {s0 : Int} (z0 : B01 s0) (u1 : Option ev_V) (w1 : nwo u1) (u2 : Option ev_V) (w2 : nwo u2) (u5 : Option ev_V) (w5 : nwo u5) (u6 : Option ev_V) (w6 : nwo u6) (u7 : Option ev_V) (w7 : nwo u7) : Go Φ pr_P fT 1 (jC_exchange_57 g v0 v3 v4 s0 ) d pr_m44 57 [some (sR v0), u1, u2, some (sR v3), some (sR v4), u5, u6, u7] [(sI s0)] g 2 12 := by
  unfold jC_exchange_57
  refine go_callQ0 k44_57 rfl rfl rfl trivial ⟨by decide, by decide⟩ (by omega) (tfC_checkState (by omega) hg  z0) (fun y41 => ?_) (fun e45 E46 => ge_prop rfl ⟨by decide, by decide⟩ e45 rfl)
  refine go_aload k44_60 rfl ?_
  refine go_getR (bI := 3) k44_61 hg hK0 (by decide) rfl rfl (fun r47 => ?_)
  refine go_aload k44_64 rfl ?_
  refine go_getR (bI := 0) k44_65 hg hK0 (by decide) rfl rfl (fun r48 => ?_)
  refine go_ck (fun q49 => ?_)
  refine go_callN0 k44_68 rfl rfl rfl ⟨by decide, _, rfl, q49⟩ ⟨by decide, by decide⟩ (by omega) (tfH_push (by omega) hg q49  r48) (fun y50 g52 e53 => ?_)
  refine go_aload k44_71 rfl ?_
  refine go_ck (fun q54 => ?_)
  refine go_callP1 k44_72 rfl rfl rfl ⟨by decide, _, rfl, q54⟩ ⟨by decide, by decide⟩ (by omega) (tfP_countAbove (by omega) e53 q54 ) (fun y55 r56 => ?_)
  refine go_aload k44_75 rfl ?_
  refine go_ck (fun q59 => ?_)
  refine go_callP1 k44_77 rfl rfl rfl ⟨by decide, _, rfl, q59⟩ ⟨by decide, by decide⟩ (by omega) (tfP_countAbove (by omega) e53 q59 ) (fun y60 r61 => ?_)
  refine go_cmeq k44_80 r56 r61 (fun c64 => ?_) (fun c65 => ?_)
  · refine go_int k44_83 1 rfl ?_
    refine go_goto k44_84 ?_
    exact tjC_exchange_88 hd e53 hK0 h3 h4 (Or.inr rfl) u1 w1 u2 w2 u5 w5 u6 w6 u7 w7
  · refine go_int k44_87 0 rfl ?_
    exact tjC_exchange_88 hd e53 hK0 h3 h4 (Or.inl rfl) u1 w1 u2 w2 u5 w5 u6 w6 u7 w7
theorem tjC_exchange_56 {Φ : ev_P} {d : Nat} (hd : 3 ≤ d) {g : gH} (hg : HR g) {v0 v3 v4 : Int} (hK0 : kd v0 = 6) (h3 : RfR v3) (h4 : RfR v4) (u1 : Option ev_V) (w1 : nwo u1) (u2 : Option ev_V) (w2 : nwo u2) (u5 : Option ev_V) (w5 : nwo u5) (u6 : Option ev_V) (w6 : nwo u6) (u7 : Option ev_V) (w7 : nwo u7) : Go Φ pr_P fT 1 (jC_exchange_56 g v0 v3 v4 ) d pr_m44 56 [some (sR v0), u1, u2, some (sR v3), some (sR v4), u5, u6, u7] [] g 2 12 := by
  unfold jC_exchange_56
  refine go_int k44_56 0 rfl ?_
  exact tjC_exchange_57 hd hg hK0 h3 h4 (Or.inl rfl) u1 w1 u2 w2 u5 w5 u6 w6 u7 w7
theorem tfC_exchange {Φ : ev_P} {d : Nat} (hd : 3 ≤ d) {g : gH} (hg : HR g) {v0 v1 v2 : Int} (hK0 : kd v0 = 6) (h1 : InR v1) (h2 : InR v2) : Go Φ pr_P fT 1 (fC_exchange g v0 v1 v2) d (pr_P 44) 0 (ev_loc (pr_P 44).1 [(sR v0), (sI v1), (sI v2)]) [] g 0 0 := by
  show Go Φ pr_P fT 1 (fC_exchange g v0 v1 v2) d pr_m44 0 [some (sR v0), some (sI v1), some (sI v2), none, none, none, none, none] [] g 0 0
  unfold fC_exchange
  refine go_aload k44_0 rfl ?_
  refine go_iload k44_1 rfl ?_
  refine go_callQ2 k44_2 rfl rfl rfl ⟨by decide, _, rfl, hK0⟩ ⟨by decide, by decide⟩ (by omega) (tfC_named (by omega) hg hK0  h1) (fun y1 r2 => ?_) (fun e5 E6 => ge_prop rfl ⟨by decide, by decide⟩ e5 rfl)
  refine go_astore k44_5 rfl (loc2 := [some (sR v0), some (sI v1), some (sI v2), some (sR y1), none, none, none, none]) rfl ?_
  refine go_aload k44_6 rfl ?_
  refine go_iload k44_7 rfl ?_
  refine go_callQ2 k44_8 rfl rfl rfl ⟨by decide, _, rfl, hK0⟩ ⟨by decide, by decide⟩ (by omega) (tfC_named (by omega) hg hK0  h2) (fun y7 r8 => ?_) (fun e11 E12 => ge_prop rfl ⟨by decide, by decide⟩ e11 rfl)
  refine go_astore k44_11 rfl (loc2 := [some (sR v0), some (sI v1), some (sI v2), some (sR y1), some (sR y7), none, none, none]) rfl ?_
  refine go_aload k44_13 rfl ?_
  refine go_ck (fun q13 => ?_)
  refine go_callP3 k44_14 rfl rfl rfl ⟨by decide, _, rfl, q13⟩ ⟨by decide, by decide⟩ (by omega) (tfP_isMortal (by omega) hg q13 ) (fun y14 r15 => ?_)
  refine go_ifeq k44_17 (inR_b r15) (fun c18 => ?_) (fun c19 => ?_)
  · exact tjC_exchange_56 hd hg hK0 r2 r8 (some (sI v1)) rfl (some (sI v2)) rfl none rfl none rfl none rfl
  · refine go_aload k44_20 rfl ?_
    refine go_ck (fun q20 => ?_)
    refine go_callP3 k44_22 rfl rfl rfl ⟨by decide, _, rfl, q20⟩ ⟨by decide, by decide⟩ (by omega) (tfP_isMortal (by omega) hg q20 ) (fun y21 r22 => ?_)
    refine go_ifeq k44_25 (inR_b r22) (fun c25 => ?_) (fun c26 => ?_)
    · exact tjC_exchange_56 hd hg hK0 r2 r8 (some (sI v1)) rfl (some (sI v2)) rfl none rfl none rfl none rfl
    · refine go_aload k44_28 rfl ?_
      refine go_aload k44_29 rfl ?_
      refine go_acmp k44_31 r2 r8 (fun c27 => ?_) (fun c28 => ?_)
      · exact tjC_exchange_56 hd hg hK0 r2 r8 (some (sI v1)) rfl (some (sI v2)) rfl none rfl none rfl none rfl
      · refine go_aload k44_34 rfl ?_
        refine go_aload k44_35 rfl ?_
        refine go_callP3 k44_37 rfl rfl rfl ⟨by decide, _, rfl, q13⟩ ⟨by decide, by decide⟩ (by omega) (tfP_isOver (by omega) hg q13  r8) (fun y29 r30 => ?_)
        refine go_ifeq k44_40 (inR_b r30) (fun c33 => ?_) (fun c34 => ?_)
        · refine go_aload k44_43 rfl ?_
          refine go_aload k44_45 rfl ?_
          refine go_callP3 k44_46 rfl rfl rfl ⟨by decide, _, rfl, q20⟩ ⟨by decide, by decide⟩ (by omega) (tfP_isOver (by omega) hg q20  r2) (fun y35 r36 => ?_)
          refine go_ifeq k44_49 (inR_b r36) (fun c39 => ?_) (fun c40 => ?_)
          · refine go_int k44_52 1 rfl ?_
            refine go_goto k44_53 ?_
            exact tjC_exchange_57 hd hg hK0 r2 r8 (Or.inr rfl) (some (sI v1)) rfl (some (sI v2)) rfl none rfl none rfl none rfl
          · exact tjC_exchange_56 hd hg hK0 r2 r8 (some (sI v1)) rfl (some (sI v2)) rfl none rfl none rfl none rfl
        · exact tjC_exchange_56 hd hg hK0 r2 r8 (some (sI v1)) rfl (some (sI v2)) rfl none rfl none rfl none rfl
theorem tfW_exchange {Φ : ev_P} {d : Nat} (hd : 4 ≤ d) {g : gH} (hg : HR g) {v0 v1 v2 v3 : Int} (h0 : RfR v0) (h1 : InR v1) (h2 : InR v2) (h3 : RfR v3) : Go Φ pr_P fN 1 (fW_exchange g v0 v1 v2 v3) d (pr_P 336) 0 (ev_loc (pr_P 336).1 [(sR v0), (sI v1), (sI v2), (sR v3)]) [] g 0 0 := by
  show Go Φ pr_P fN 1 (fW_exchange g v0 v1 v2 v3) d pr_m336 0 [some (sR v0), some (sI v1), some (sI v2), some (sR v3), none] [] g 0 0
  unfold fW_exchange
  refine go_aload k336_0 rfl ?_
  refine go_int k336_1 0 rfl ?_
  refine go_aload k336_2 rfl ?_
  refine go_iload k336_3 rfl ?_
  refine go_iload k336_4 rfl ?_
  refine go_ck (fun q1 => ?_)
  refine go_callT1 k336_5 rfl rfl rfl ⟨by decide, _, rfl, q1⟩ ⟨by decide, by decide⟩ (by omega) (tfC_exchange (by omega) hg q1  h1 h2) (fun y2 g4 r3 e5 => ?_) (fun E7 g4 e6 => ?_)
  · refine go_i2l k336_8 r3 ?_
    refine go_ck (fun q8 => ?_)
    refine go_last k336_9 e5 q8 (inL_R r3) (fun g9 e10 => ?_)
    refine go_goto k336_10 ?_
    refine go_int k336_21 0 rfl ?_
    exact go_iret k336_22 e10 (inR_b (Or.inl rfl)) ⟨by decide, by decide⟩ rfl
  · refine ge_ite (fun hE9 => ?_) (fun _ => ?_)
    · subst hE9
      refine ge_catch rfl k336_13 rfl (loc2 := [some (sR v0), some (sI v1), some (sI v2), some (sR v3), none]) rfl ?_
      refine go_int k336_15 1 rfl ?_
      exact go_iret k336_16 e6 (inR_b (Or.inr rfl)) ⟨by decide, by decide⟩ rfl
    refine ge_ite (fun hE9 => ?_) (fun _ => ?_)
    · subst hE9
      refine ge_catch rfl k336_17 rfl (loc2 := [some (sR v0), some (sI v1), some (sI v2), some (sR v3), none]) rfl ?_
      refine go_int k336_19 2 rfl ?_
      exact go_iret k336_20 e6 (inR_of (by decide)) ⟨by decide, by decide⟩ rfl
    exact ge_none
theorem tfC_readAll {Φ : ev_P} {d : Nat} (hd : 3 ≤ d) {g : gH} (hg : HR g) {v0 v1 : Int} (hK0 : kd v0 = 6) (h1 : InR v1) : Go Φ pr_P fT 1 (fC_readAll g v0 v1) d (pr_P 45) 0 (ev_loc (pr_P 45).1 [(sR v0), (sI v1)]) [] g 0 0 := by
  show Go Φ pr_P fT 1 (fC_readAll g v0 v1) d pr_m45 0 [some (sR v0), some (sI v1), none] [] g 0 0
  unfold fC_readAll
  refine go_aload k45_0 rfl ?_
  refine go_iload k45_1 rfl ?_
  refine go_callQ2 k45_2 rfl rfl rfl ⟨by decide, _, rfl, hK0⟩ ⟨by decide, by decide⟩ (by omega) (tfC_named (by omega) hg hK0  h1) (fun y1 r2 => ?_) (fun e5 E6 => ge_prop rfl ⟨by decide, by decide⟩ e5 rfl)
  refine go_astore k45_5 rfl (loc2 := [some (sR v0), some (sI v1), some (sR y1)]) rfl ?_
  refine go_aload k45_6 rfl ?_
  refine go_ck (fun q7 => ?_)
  refine go_callP3 k45_7 rfl rfl rfl ⟨by decide, _, rfl, q7⟩ ⟨by decide, by decide⟩ (by omega) (tfP_isRunning (by omega) hg q7 ) (fun y8 r9 => ?_)
  refine go_callQ0 k45_10 rfl rfl rfl trivial ⟨by decide, by decide⟩ (by omega) (tfC_checkState (by omega) hg  r9) (fun y12 => ?_) (fun e16 E17 => ge_prop rfl ⟨by decide, by decide⟩ e16 rfl)
  refine go_aload k45_13 rfl ?_
  refine go_getR (bI := 3) k45_14 hg hK0 (by decide) rfl rfl (fun r18 => ?_)
  refine go_aload k45_17 rfl ?_
  refine go_getR (bI := 0) k45_18 hg hK0 (by decide) rfl rfl (fun r19 => ?_)
  refine go_ck (fun q20 => ?_)
  refine go_callN0 k45_21 rfl rfl rfl ⟨by decide, _, rfl, q20⟩ ⟨by decide, by decide⟩ (by omega) (tfH_push (by omega) hg q20  r19) (fun y21 g23 e24 => ?_)
  refine go_aload k45_24 rfl ?_
  refine go_getR (bI := 0) k45_25 e24 hK0 (by decide) rfl rfl (fun r25 => ?_)
  refine go_aload k45_28 rfl ?_
  refine go_ck (fun q26 => ?_)
  refine go_callN1 k45_29 rfl rfl rfl ⟨by decide, _, rfl, q26⟩ ⟨by decide, by decide⟩ (by omega) (tfT_readZombiesOf (by omega) e24 q26  r2) (fun y27 g29 r28 e30 => ?_)
  exact go_iret k45_32 e30 r28 ⟨by decide, by decide⟩ rfl
theorem tfW_readAll {Φ : ev_P} {d : Nat} (hd : 4 ≤ d) {g : gH} (hg : HR g) {v0 v1 v2 : Int} (h0 : RfR v0) (h1 : InR v1) (h2 : RfR v2) : Go Φ pr_P fN 1 (fW_readAll g v0 v1 v2) d (pr_P 337) 0 (ev_loc (pr_P 337).1 [(sR v0), (sI v1), (sR v2)]) [] g 0 0 := by
  show Go Φ pr_P fN 1 (fW_readAll g v0 v1 v2) d pr_m337 0 [some (sR v0), some (sI v1), some (sR v2), none] [] g 0 0
  unfold fW_readAll
  refine go_aload k337_0 rfl ?_
  refine go_int k337_1 0 rfl ?_
  refine go_aload k337_2 rfl ?_
  refine go_iload k337_3 rfl ?_
  refine go_ck (fun q1 => ?_)
  refine go_callT1 k337_4 rfl rfl rfl ⟨by decide, _, rfl, q1⟩ ⟨by decide, by decide⟩ (by omega) (tfC_readAll (by omega) hg q1  h1) (fun y2 g4 r3 e5 => ?_) (fun E7 g4 e6 => ?_)
  · refine go_i2l k337_7 r3 ?_
    refine go_ck (fun q8 => ?_)
    refine go_last k337_8 e5 q8 (inL_R r3) (fun g9 e10 => ?_)
    refine go_goto k337_9 ?_
    refine go_int k337_18 0 rfl ?_
    exact go_iret k337_19 e10 (inR_b (Or.inl rfl)) ⟨by decide, by decide⟩ rfl
  · refine ge_ite (fun hE9 => ?_) (fun _ => ?_)
    · subst hE9
      refine ge_catch rfl k337_12 rfl (loc2 := [some (sR v0), some (sI v1), some (sR v2), none]) rfl ?_
      refine go_int k337_13 1 rfl ?_
      exact go_iret k337_14 e6 (inR_b (Or.inr rfl)) ⟨by decide, by decide⟩ rfl
    refine ge_ite (fun hE9 => ?_) (fun _ => ?_)
    · subst hE9
      refine ge_catch rfl k337_15 rfl (loc2 := [some (sR v0), some (sI v1), some (sR v2), none]) rfl ?_
      refine go_int k337_16 2 rfl ?_
      exact go_iret k337_17 e6 (inR_of (by decide)) ⟨by decide, by decide⟩ rfl
    exact ge_none
theorem tfC_testamentsBelow {Φ : ev_P} {d : Nat} (hd : 2 ≤ d) {g : gH} (hg : HR g) {v0 v1 : Int} (hK0 : kd v0 = 6) (h1 : InR v1) : Go Φ pr_P (fQ g) 1 (fC_testamentsBelow g v0 v1) d (pr_P 46) 0 (ev_loc (pr_P 46).1 [(sR v0), (sI v1)]) [] g 0 0 := by
  show Go Φ pr_P (fQ g) 1 (fC_testamentsBelow g v0 v1) d pr_m46 0 [some (sR v0), some (sI v1)] [] g 0 0
  unfold fC_testamentsBelow
  refine go_aload k46_0 rfl ?_
  refine go_getR (bI := 0) k46_1 hg hK0 (by decide) rfl rfl (fun r1 => ?_)
  refine go_aload k46_4 rfl ?_
  refine go_iload k46_5 rfl ?_
  refine go_callQ2 k46_6 rfl rfl rfl ⟨by decide, _, rfl, hK0⟩ ⟨by decide, by decide⟩ (by omega) (tfC_named (by omega) hg hK0  h1) (fun y2 r3 => ?_) (fun e6 E7 => ge_prop rfl ⟨by decide, by decide⟩ e6 rfl)
  refine go_int k46_9 1 rfl ?_
  refine go_ck (fun q8 => ?_)
  refine go_callP1 k46_10 rfl rfl rfl ⟨by decide, _, rfl, q8⟩ ⟨by decide, by decide⟩ (by omega) (tfT_countBelow (by omega) hg q8  r3 (inR_b (Or.inr rfl))) (fun y9 r10 => ?_)
  exact go_iret k46_13 hg r10 ⟨by decide, by decide⟩ rfl
theorem tfW_testamentsBelow {Φ : ev_P} {d : Nat} (hd : 3 ≤ d) {g : gH} (hg : HR g) {v0 v1 v2 : Int} (h0 : RfR v0) (h1 : InR v1) (h2 : RfR v2) : Go Φ pr_P fN 1 (fW_testamentsBelow g v0 v1 v2) d (pr_P 338) 0 (ev_loc (pr_P 338).1 [(sR v0), (sI v1), (sR v2)]) [] g 0 0 := by
  show Go Φ pr_P fN 1 (fW_testamentsBelow g v0 v1 v2) d pr_m338 0 [some (sR v0), some (sI v1), some (sR v2), none] [] g 0 0
  unfold fW_testamentsBelow
  refine go_aload k338_0 rfl ?_
  refine go_int k338_1 0 rfl ?_
  refine go_aload k338_2 rfl ?_
  refine go_iload k338_3 rfl ?_
  refine go_ck (fun q1 => ?_)
  refine go_callQ1 k338_4 rfl rfl rfl ⟨by decide, _, rfl, q1⟩ ⟨by decide, by decide⟩ (by omega) (tfC_testamentsBelow (by omega) hg q1  h1) (fun y2 r3 => ?_) (fun e6 E7 => ?_)
  · refine go_i2l k338_7 r3 ?_
    refine go_ck (fun q8 => ?_)
    refine go_last k338_8 hg q8 (inL_R r3) (fun g9 e10 => ?_)
    refine go_goto k338_9 ?_
    refine go_int k338_15 0 rfl ?_
    exact go_iret k338_16 e10 (inR_b (Or.inl rfl)) ⟨by decide, by decide⟩ rfl
  · refine ge_ite (fun hE9 => ?_) (fun _ => ?_)
    · subst hE9
      refine ge_catch rfl k338_12 rfl (loc2 := [some (sR v0), some (sI v1), some (sR v2), none]) rfl ?_
      refine go_int k338_13 1 rfl ?_
      exact go_iret k338_14 e6 (inR_b (Or.inr rfl)) ⟨by decide, by decide⟩ rfl
    exact ge_none
theorem tbC_roomBelow_25 {Φ : ev_P} {d : Nat} (hd : 2 ≤ d) {g : gH} (hg : HR g) {v2 v4 v5 : Int} (h2 : RfR v2) (h4 : RfR v4) (h5 : InR v5) {X25 : Int → Int → Option (Nat × Int)} (HX25 : ∀ (v3 : Int) (h3 : InR v3) (v6 : Int) (h6 : InR v6) (u0 : Option ev_V) (w0 : nwo u0) (u1 : Option ev_V) (w1 : nwo u1) (u7 : Option ev_V) (w7 : nwo u7), Go Φ pr_P (fQ g) 1 (X25 v3 v6) d pr_m47 25 [u0, u1, some (sR v2), some (sI v3), some (sR v4), some (sI v5), some (sI v6), u7] [] g 1 6) : ∀ (v3 : Int) (h3 : InR v3) (v6 : Int) (h6 : InR v6) (u0 : Option ev_V) (w0 : nwo u0) (u1 : Option ev_V) (w1 : nwo u1) (u7 : Option ev_V) (w7 : nwo u7), Go Φ pr_P (fQ g) 1 (bC_roomBelow_25 g v2 v4 v5 X25 v3 v6) d pr_m47 25 [u0, u1, some (sR v2), some (sI v3), some (sR v4), some (sI v5), some (sI v6), u7] [] g 1 6 := by
  intro v3 h3 v6 h6 u0 w0 u1 w1 u7 w7
  unfold bC_roomBelow_25
  refine go_iload k47_25 rfl ?_
  refine go_iload k47_27 rfl ?_
  refine go_cmlt k47_29 h6 h5 (fun c12 => ?_) (fun c13 => ?_)
  · refine go_aload k47_32 rfl ?_
    refine go_iload k47_34 rfl ?_
    refine go_ck (fun q15 => ?_)
    refine go_pald k47_36 hg q15 (fun r14 => ?_)
    refine go_astore k47_37 rfl (loc2 := [u0, u1, some (sR v2), some (sI v3), some (sR v4), some (sI v5), some (sI v6), some (sR (g v4 v6))]) rfl ?_
    refine go_aload k47_39 rfl ?_
    refine go_ck (fun q16 => ?_)
    refine go_callP3 k47_41 rfl rfl rfl ⟨by decide, _, rfl, q16⟩ ⟨by decide, by decide⟩ (by omega) (tfP_isRunning (by omega) hg q16 ) (fun y17 r18 => ?_)
    refine go_ifeq k47_44 (inR_b r18) (fun c21 => ?_) (fun c22 => ?_)
    · refine go_iinc k47_64 rfl rfl 1 rfl (loc2 := [u0, u1, some (sR v2), some (sI v3), some (sR v4), some (sI v5), some (sI (w32 (v6 + 1))), some (sR (g v4 v6))]) rfl ?_
      refine go_goto k47_67 ?_
      exact HX25 v3 h3 (w32 (v6 + 1)) (inR_w32 _) u0 w0 u1 w1 (some (sR (g v4 v6))) rfl
    · refine go_aload k47_47 rfl ?_
      refine go_aload k47_48 rfl ?_
      refine go_ck (fun q23 => ?_)
      refine go_callP3 k47_50 rfl rfl rfl ⟨by decide, _, rfl, q23⟩ ⟨by decide, by decide⟩ (by omega) (tfP_isOver (by omega) hg q23  r14) (fun y24 r25 => ?_)
      refine go_ifeq k47_53 (inR_b r25) (fun c28 => ?_) (fun c29 => ?_)
      · refine go_iinc k47_64 rfl rfl 1 rfl (loc2 := [u0, u1, some (sR v2), some (sI v3), some (sR v4), some (sI v5), some (sI (w32 (v6 + 1))), some (sR (g v4 v6))]) rfl ?_
        refine go_goto k47_67 ?_
        exact HX25 v3 h3 (w32 (v6 + 1)) (inR_w32 _) u0 w0 u1 w1 (some (sR (g v4 v6))) rfl
      · refine go_iload k47_56 rfl ?_
        refine go_aload k47_57 rfl ?_
        refine go_callP1 k47_59 rfl rfl rfl ⟨by decide, _, rfl, q16⟩ ⟨by decide, by decide⟩ (by omega) (tfP_room (by omega) hg q16 ) (fun y30 r31 => ?_)
        refine go_iadd k47_62 ?_
        refine go_istore k47_63 rfl (loc2 := [u0, u1, some (sR v2), some (sI (w32 (v3 + y30))), some (sR v4), some (sI v5), some (sI v6), some (sR (g v4 v6))]) rfl ?_
        refine go_iinc k47_64 rfl rfl 1 rfl (loc2 := [u0, u1, some (sR v2), some (sI (w32 (v3 + y30))), some (sR v4), some (sI v5), some (sI (w32 (v6 + 1))), some (sR (g v4 v6))]) rfl ?_
        refine go_goto k47_67 ?_
        exact HX25 (w32 (v3 + y30)) (inR_w32 _) (w32 (v6 + 1)) (inR_w32 _) u0 w0 u1 w1 (some (sR (g v4 v6))) rfl
  · refine go_iload k47_70 rfl ?_
    exact go_iret k47_71 hg h3 ⟨by decide, by decide⟩ rfl
theorem tlC_roomBelow_25 {Φ : ev_P} {d : Nat} (hd : 2 ≤ d) {g : gH} (hg : HR g) {v2 v4 v5 : Int} (h2 : RfR v2) (h4 : RfR v4) (h5 : InR v5) : ∀ n : Nat, ∀ (v3 : Int) (h3 : InR v3) (v6 : Int) (h6 : InR v6) (u0 : Option ev_V) (w0 : nwo u0) (u1 : Option ev_V) (w1 : nwo u1) (u7 : Option ev_V) (w7 : nwo u7), Go Φ pr_P (fQ g) 1 (lC_roomBelow_25 g v2 v4 v5 n v3 v6) d pr_m47 25 [u0, u1, some (sR v2), some (sI v3), some (sR v4), some (sI v5), some (sI v6), u7] [] g 1 6 := by
  intro n
  induction n with
  | zero => intros; exact go_none
  | succ n ih => exact tbC_roomBelow_25 hd hg h2 h4 h5 ih
theorem tfC_roomBelow {Φ : ev_P} {d : Nat} (hd : 2 ≤ d) {g : gH} (hg : HR g) {v0 v1 : Int} (hK0 : kd v0 = 6) (h1 : InR v1) : Go Φ pr_P (fQ g) 1 (fC_roomBelow g v0 v1) d (pr_P 47) 0 (ev_loc (pr_P 47).1 [(sR v0), (sI v1)]) [] g 0 0 := by
  show Go Φ pr_P (fQ g) 1 (fC_roomBelow g v0 v1) d pr_m47 0 [some (sR v0), some (sI v1), none, none, none, none, none, none] [] g 0 0
  unfold fC_roomBelow
  refine go_aload k47_0 rfl ?_
  refine go_iload k47_1 rfl ?_
  refine go_callQ2 k47_2 rfl rfl rfl ⟨by decide, _, rfl, hK0⟩ ⟨by decide, by decide⟩ (by omega) (tfC_named (by omega) hg hK0  h1) (fun y1 r2 => ?_) (fun e5 E6 => ge_prop rfl ⟨by decide, by decide⟩ e5 rfl)
  refine go_astore k47_5 rfl (loc2 := [some (sR v0), some (sI v1), some (sR y1), none, none, none, none, none]) rfl ?_
  refine go_int k47_6 0 rfl ?_
  refine go_istore k47_7 rfl (loc2 := [some (sR v0), some (sI v1), some (sR y1), some (sI 0), none, none, none, none]) rfl ?_
  refine go_aload k47_8 rfl ?_
  refine go_getR (bI := 0) k47_9 hg hK0 (by decide) rfl rfl (fun r7 => ?_)
  refine go_ck (fun q8 => ?_)
  refine go_getR (bI := 1) k47_12 hg q8 (by decide) rfl rfl (fun r9 => ?_)
  refine go_astore k47_15 rfl (loc2 := [some (sR v0), some (sI v1), some (sR y1), some (sI 0), some (sR (g (g v0 0) 1)), none, none, none]) rfl ?_
  refine go_aload k47_17 rfl ?_
  refine go_ck (fun q11 => ?_)
  refine go_alen k47_19 (ka_24 q11) (fun r10 => ?_)
  refine go_istore k47_20 rfl (loc2 := [some (sR v0), some (sI v1), some (sR y1), some (sI 0), some (sR (g (g v0 0) 1)), some (sI (sz (g (g v0 0) 1))), none, none]) rfl ?_
  refine go_int k47_22 0 rfl ?_
  refine go_istore k47_23 rfl (loc2 := [some (sR v0), some (sI v1), some (sR y1), some (sI 0), some (sR (g (g v0 0) 1)), some (sI (sz (g (g v0 0) 1))), some (sI 0), none]) rfl ?_
  exact tlC_roomBelow_25 hd hg r2 r9 r10 fu 0 (inR_b (Or.inl rfl)) 0 (inR_b (Or.inl rfl)) (some (sR v0)) rfl (some (sI v1)) rfl none rfl
theorem tfW_roomBelow {Φ : ev_P} {d : Nat} (hd : 3 ≤ d) {g : gH} (hg : HR g) {v0 v1 v2 : Int} (h0 : RfR v0) (h1 : InR v1) (h2 : RfR v2) : Go Φ pr_P fN 1 (fW_roomBelow g v0 v1 v2) d (pr_P 339) 0 (ev_loc (pr_P 339).1 [(sR v0), (sI v1), (sR v2)]) [] g 0 0 := by
  show Go Φ pr_P fN 1 (fW_roomBelow g v0 v1 v2) d pr_m339 0 [some (sR v0), some (sI v1), some (sR v2), none] [] g 0 0
  unfold fW_roomBelow
  refine go_aload k339_0 rfl ?_
  refine go_int k339_1 0 rfl ?_
  refine go_aload k339_2 rfl ?_
  refine go_iload k339_3 rfl ?_
  refine go_ck (fun q1 => ?_)
  refine go_callQ1 k339_4 rfl rfl rfl ⟨by decide, _, rfl, q1⟩ ⟨by decide, by decide⟩ (by omega) (tfC_roomBelow (by omega) hg q1  h1) (fun y2 r3 => ?_) (fun e6 E7 => ?_)
  · refine go_i2l k339_7 r3 ?_
    refine go_ck (fun q8 => ?_)
    refine go_last k339_8 hg q8 (inL_R r3) (fun g9 e10 => ?_)
    refine go_goto k339_9 ?_
    refine go_int k339_15 0 rfl ?_
    exact go_iret k339_16 e10 (inR_b (Or.inl rfl)) ⟨by decide, by decide⟩ rfl
  · refine ge_ite (fun hE9 => ?_) (fun _ => ?_)
    · subst hE9
      refine ge_catch rfl k339_12 rfl (loc2 := [some (sR v0), some (sI v1), some (sR v2), none]) rfl ?_
      refine go_int k339_13 1 rfl ?_
      exact go_iret k339_14 e6 (inR_b (Or.inr rfl)) ⟨by decide, by decide⟩ rfl
    exact ge_none
theorem tbC_adopters_32 {Φ : ev_P} {d : Nat} (hd : 2 ≤ d) {g : gH} (hg : HR g) {v0 v2 v4 v5 : Int} (hK0 : kd v0 = 6) (h2 : RfR v2) (h4 : RfR v4) (h5 : InR v5) {X32 : Int → Int → Option (Nat × Int)} (HX32 : ∀ (v3 : Int) (h3 : InR v3) (v6 : Int) (h6 : InR v6) (u1 : Option ev_V) (w1 : nwo u1) (u7 : Option ev_V) (w7 : nwo u7), Go Φ pr_P (fQ g) 1 (X32 v3 v6) d pr_m49 32 [some (sR v0), u1, some (sR v2), some (sI v3), some (sR v4), some (sI v5), some (sI v6), u7] [] g 2 12) : ∀ (v3 : Int) (h3 : InR v3) (v6 : Int) (h6 : InR v6) (u1 : Option ev_V) (w1 : nwo u1) (u7 : Option ev_V) (w7 : nwo u7), Go Φ pr_P (fQ g) 1 (bC_adopters_32 g v0 v2 v4 v5 X32 v3 v6) d pr_m49 32 [some (sR v0), u1, some (sR v2), some (sI v3), some (sR v4), some (sI v5), some (sI v6), u7] [] g 2 12 := by
  intro v3 h3 v6 h6 u1 w1 u7 w7
  unfold bC_adopters_32
  refine go_iload k49_32 rfl ?_
  refine go_iload k49_34 rfl ?_
  refine go_cmlt k49_36 h6 h5 (fun c23 => ?_) (fun c24 => ?_)
  · refine go_aload k49_39 rfl ?_
    refine go_iload k49_41 rfl ?_
    refine go_ck (fun q26 => ?_)
    refine go_pald k49_43 hg q26 (fun r25 => ?_)
    refine go_astore k49_44 rfl (loc2 := [some (sR v0), u1, some (sR v2), some (sI v3), some (sR v4), some (sI v5), some (sI v6), some (sR (g v4 v6))]) rfl ?_
    refine go_aload k49_46 rfl ?_
    refine go_getR (bI := 0) k49_47 hg hK0 (by decide) rfl rfl (fun r27 => ?_)
    refine go_aload k49_50 rfl ?_
    refine go_aload k49_52 rfl ?_
    refine go_ck (fun q28 => ?_)
    refine go_callP3 k49_53 rfl rfl rfl ⟨by decide, _, rfl, q28⟩ ⟨by decide, by decide⟩ (by omega) (tfT_canAdopt (by omega) hg q28  r25 h2) (fun y29 r30 => ?_)
    refine go_ifeq k49_56 (inR_b r30) (fun c33 => ?_) (fun c34 => ?_)
    · refine go_iinc k49_62 rfl rfl 1 rfl (loc2 := [some (sR v0), u1, some (sR v2), some (sI v3), some (sR v4), some (sI v5), some (sI (w32 (v6 + 1))), some (sR (g v4 v6))]) rfl ?_
      refine go_goto k49_65 ?_
      exact HX32 v3 h3 (w32 (v6 + 1)) (inR_w32 _) u1 w1 (some (sR (g v4 v6))) rfl
    · refine go_iinc k49_59 rfl rfl 1 rfl (loc2 := [some (sR v0), u1, some (sR v2), some (sI (w32 (v3 + 1))), some (sR v4), some (sI v5), some (sI v6), some (sR (g v4 v6))]) rfl ?_
      refine go_iinc k49_62 rfl rfl 1 rfl (loc2 := [some (sR v0), u1, some (sR v2), some (sI (w32 (v3 + 1))), some (sR v4), some (sI v5), some (sI (w32 (v6 + 1))), some (sR (g v4 v6))]) rfl ?_
      refine go_goto k49_65 ?_
      exact HX32 (w32 (v3 + 1)) (inR_w32 _) (w32 (v6 + 1)) (inR_w32 _) u1 w1 (some (sR (g v4 v6))) rfl
  · refine go_iload k49_68 rfl ?_
    exact go_iret k49_69 hg h3 ⟨by decide, by decide⟩ rfl
theorem tlC_adopters_32 {Φ : ev_P} {d : Nat} (hd : 2 ≤ d) {g : gH} (hg : HR g) {v0 v2 v4 v5 : Int} (hK0 : kd v0 = 6) (h2 : RfR v2) (h4 : RfR v4) (h5 : InR v5) : ∀ n : Nat, ∀ (v3 : Int) (h3 : InR v3) (v6 : Int) (h6 : InR v6) (u1 : Option ev_V) (w1 : nwo u1) (u7 : Option ev_V) (w7 : nwo u7), Go Φ pr_P (fQ g) 1 (lC_adopters_32 g v0 v2 v4 v5 n v3 v6) d pr_m49 32 [some (sR v0), u1, some (sR v2), some (sI v3), some (sR v4), some (sI v5), some (sI v6), u7] [] g 2 12 := by
  intro n
  induction n with
  | zero => intros; exact go_none
  | succ n ih => exact tbC_adopters_32 hd hg hK0 h2 h4 h5 ih
theorem tfC_adopters {Φ : ev_P} {d : Nat} (hd : 2 ≤ d) {g : gH} (hg : HR g) {v0 v1 : Int} (hK0 : kd v0 = 6) (h1 : InR v1) : Go Φ pr_P (fQ g) 1 (fC_adopters g v0 v1) d (pr_P 49) 0 (ev_loc (pr_P 49).1 [(sR v0), (sI v1)]) [] g 0 0 := by
  show Go Φ pr_P (fQ g) 1 (fC_adopters g v0 v1) d pr_m49 0 [some (sR v0), some (sI v1), none, none, none, none, none, none] [] g 0 0
  unfold fC_adopters
  refine go_aload k49_0 rfl ?_
  refine go_iload k49_1 rfl ?_
  refine go_callQ2 k49_2 rfl rfl rfl ⟨by decide, _, rfl, hK0⟩ ⟨by decide, by decide⟩ (by omega) (tfC_named (by omega) hg hK0  h1) (fun y1 r2 => ?_) (fun e5 E6 => ge_prop rfl ⟨by decide, by decide⟩ e5 rfl)
  refine go_astore k49_5 rfl (loc2 := [some (sR v0), some (sI v1), some (sR y1), none, none, none, none, none]) rfl ?_
  refine go_aload k49_6 rfl ?_
  refine go_ck (fun q7 => ?_)
  refine go_callP3 k49_7 rfl rfl rfl ⟨by decide, _, rfl, q7⟩ ⟨by decide, by decide⟩ (by omega) (tfP_isMortal (by omega) hg q7 ) (fun y8 r9 => ?_)
  refine go_callQ0 k49_10 rfl rfl rfl trivial ⟨by decide, by decide⟩ (by omega) (tfC_checkState (by omega) hg  r9) (fun y12 => ?_) (fun e16 E17 => ge_prop rfl ⟨by decide, by decide⟩ e16 rfl)
  refine go_int k49_13 0 rfl ?_
  refine go_istore k49_14 rfl (loc2 := [some (sR v0), some (sI v1), some (sR y1), some (sI 0), none, none, none, none]) rfl ?_
  refine go_aload k49_15 rfl ?_
  refine go_getR (bI := 0) k49_16 hg hK0 (by decide) rfl rfl (fun r18 => ?_)
  refine go_ck (fun q19 => ?_)
  refine go_getR (bI := 1) k49_19 hg q19 (by decide) rfl rfl (fun r20 => ?_)
  refine go_astore k49_22 rfl (loc2 := [some (sR v0), some (sI v1), some (sR y1), some (sI 0), some (sR (g (g v0 0) 1)), none, none, none]) rfl ?_
  refine go_aload k49_24 rfl ?_
  refine go_ck (fun q22 => ?_)
  refine go_alen k49_26 (ka_24 q22) (fun r21 => ?_)
  refine go_istore k49_27 rfl (loc2 := [some (sR v0), some (sI v1), some (sR y1), some (sI 0), some (sR (g (g v0 0) 1)), some (sI (sz (g (g v0 0) 1))), none, none]) rfl ?_
  refine go_int k49_29 0 rfl ?_
  refine go_istore k49_30 rfl (loc2 := [some (sR v0), some (sI v1), some (sR y1), some (sI 0), some (sR (g (g v0 0) 1)), some (sI (sz (g (g v0 0) 1))), some (sI 0), none]) rfl ?_
  exact tlC_adopters_32 hd hg hK0 r2 r20 r21 fu 0 (inR_b (Or.inl rfl)) 0 (inR_b (Or.inl rfl)) (some (sI v1)) rfl none rfl
theorem tfW_adopters {Φ : ev_P} {d : Nat} (hd : 3 ≤ d) {g : gH} (hg : HR g) {v0 v1 v2 : Int} (h0 : RfR v0) (h1 : InR v1) (h2 : RfR v2) : Go Φ pr_P fN 1 (fW_adopters g v0 v1 v2) d (pr_P 340) 0 (ev_loc (pr_P 340).1 [(sR v0), (sI v1), (sR v2)]) [] g 0 0 := by
  show Go Φ pr_P fN 1 (fW_adopters g v0 v1 v2) d pr_m340 0 [some (sR v0), some (sI v1), some (sR v2), none] [] g 0 0
  unfold fW_adopters
  refine go_aload k340_0 rfl ?_
  refine go_int k340_1 0 rfl ?_
  refine go_aload k340_2 rfl ?_
  refine go_iload k340_3 rfl ?_
  refine go_ck (fun q1 => ?_)
  refine go_callQ1 k340_4 rfl rfl rfl ⟨by decide, _, rfl, q1⟩ ⟨by decide, by decide⟩ (by omega) (tfC_adopters (by omega) hg q1  h1) (fun y2 r3 => ?_) (fun e6 E7 => ?_)
  · refine go_i2l k340_7 r3 ?_
    refine go_ck (fun q8 => ?_)
    refine go_last k340_8 hg q8 (inL_R r3) (fun g9 e10 => ?_)
    refine go_goto k340_9 ?_
    refine go_int k340_18 0 rfl ?_
    exact go_iret k340_19 e10 (inR_b (Or.inl rfl)) ⟨by decide, by decide⟩ rfl
  · refine ge_ite (fun hE9 => ?_) (fun _ => ?_)
    · subst hE9
      refine ge_catch rfl k340_12 rfl (loc2 := [some (sR v0), some (sI v1), some (sR v2), none]) rfl ?_
      refine go_int k340_13 1 rfl ?_
      exact go_iret k340_14 e6 (inR_b (Or.inr rfl)) ⟨by decide, by decide⟩ rfl
    refine ge_ite (fun hE9 => ?_) (fun _ => ?_)
    · subst hE9
      refine ge_catch rfl k340_15 rfl (loc2 := [some (sR v0), some (sI v1), some (sR v2), none]) rfl ?_
      refine go_int k340_16 2 rfl ?_
      exact go_iret k340_17 e6 (inR_of (by decide)) ⟨by decide, by decide⟩ rfl
    exact ge_none
theorem tfC_betterCode {Φ : ev_P} {d : Nat} (hd : 6 ≤ d) {g : gH} (hg : HR g) {v0 v1 : Int} (hK0 : kd v0 = 6) (h1 : InR v1) : Go Φ pr_P fT 1 (fC_betterCode g v0 v1) d (pr_P 50) 0 (ev_loc (pr_P 50).1 [(sR v0), (sI v1)]) [] g 0 0 := by
  show Go Φ pr_P fT 1 (fC_betterCode g v0 v1) d pr_m50 0 [some (sR v0), some (sI v1)] [] g 0 0
  unfold fC_betterCode
  refine go_aload k50_0 rfl ?_
  refine go_iload k50_1 rfl ?_
  refine go_callQ2 k50_2 rfl rfl rfl ⟨by decide, _, rfl, hK0⟩ ⟨by decide, by decide⟩ (by omega) (tfC_named (by omega) hg hK0  h1) (fun y1 r2 => ?_) (fun e5 E6 => ge_prop rfl ⟨by decide, by decide⟩ e5 rfl)
  refine go_ck (fun q7 => ?_)
  refine go_callP3 k50_5 rfl rfl rfl ⟨by decide, _, rfl, q7⟩ ⟨by decide, by decide⟩ (by omega) (tfP_isMortal (by omega) hg q7 ) (fun y8 r9 => ?_)
  refine go_callQ0 k50_8 rfl rfl rfl trivial ⟨by decide, by decide⟩ (by omega) (tfC_checkState (by omega) hg  r9) (fun y12 => ?_) (fun e16 E17 => ge_prop rfl ⟨by decide, by decide⟩ e16 rfl)
  refine go_aload k50_11 rfl ?_
  refine go_iload k50_12 rfl ?_
  refine go_int k50_13 1 rfl ?_
  refine go_callN1 k50_14 rfl rfl rfl ⟨by decide, _, rfl, hK0⟩ ⟨by decide, by decide⟩ (by omega) (tfC_exitOfCopy (by omega) hg hK0  h1 (inR_b (Or.inr rfl))) (fun y18 g20 r19 e21 => ?_)
  refine go_aload k50_17 rfl ?_
  refine go_iload k50_18 rfl ?_
  refine go_int k50_19 0 rfl ?_
  refine go_callN1 k50_20 rfl rfl rfl ⟨by decide, _, rfl, hK0⟩ ⟨by decide, by decide⟩ (by omega) (tfC_exitOfCopy (by omega) e21 hK0  h1 (inR_b (Or.inl rfl))) (fun y22 g24 r23 e25 => ?_)
  refine go_cmlt k50_23 r19 r23 (fun c26 => ?_) (fun c27 => ?_)
  · refine go_int k50_26 1 rfl ?_
    refine go_goto k50_27 ?_
    exact go_iret k50_31 e25 (inR_b (Or.inr rfl)) ⟨by decide, by decide⟩ rfl
  · refine go_int k50_30 0 rfl ?_
    exact go_iret k50_31 e25 (inR_b (Or.inl rfl)) ⟨by decide, by decide⟩ rfl
theorem tfW_betterCode {Φ : ev_P} {d : Nat} (hd : 7 ≤ d) {g : gH} (hg : HR g) {v0 v1 v2 : Int} (h0 : RfR v0) (h1 : InR v1) (h2 : RfR v2) : Go Φ pr_P fN 1 (fW_betterCode g v0 v1 v2) d (pr_P 341) 0 (ev_loc (pr_P 341).1 [(sR v0), (sI v1), (sR v2)]) [] g 0 0 := by
  show Go Φ pr_P fN 1 (fW_betterCode g v0 v1 v2) d pr_m341 0 [some (sR v0), some (sI v1), some (sR v2), none] [] g 0 0
  unfold fW_betterCode
  refine go_aload k341_0 rfl ?_
  refine go_int k341_1 0 rfl ?_
  refine go_aload k341_2 rfl ?_
  refine go_iload k341_3 rfl ?_
  refine go_ck (fun q1 => ?_)
  refine go_callT1 k341_4 rfl rfl rfl ⟨by decide, _, rfl, q1⟩ ⟨by decide, by decide⟩ (by omega) (tfC_betterCode (by omega) hg q1  h1) (fun y2 g4 r3 e5 => ?_) (fun E7 g4 e6 => ?_)
  · refine go_i2l k341_7 r3 ?_
    refine go_ck (fun q8 => ?_)
    refine go_last k341_8 e5 q8 (inL_R r3) (fun g9 e10 => ?_)
    refine go_goto k341_9 ?_
    refine go_int k341_18 0 rfl ?_
    exact go_iret k341_19 e10 (inR_b (Or.inl rfl)) ⟨by decide, by decide⟩ rfl
  · refine ge_ite (fun hE9 => ?_) (fun _ => ?_)
    · subst hE9
      refine ge_catch rfl k341_12 rfl (loc2 := [some (sR v0), some (sI v1), some (sR v2), none]) rfl ?_
      refine go_int k341_13 1 rfl ?_
      exact go_iret k341_14 e6 (inR_b (Or.inr rfl)) ⟨by decide, by decide⟩ rfl
    refine ge_ite (fun hE9 => ?_) (fun _ => ?_)
    · subst hE9
      refine ge_catch rfl k341_15 rfl (loc2 := [some (sR v0), some (sI v1), some (sR v2), none]) rfl ?_
      refine go_int k341_16 2 rfl ?_
      exact go_iret k341_17 e6 (inR_of (by decide)) ⟨by decide, by decide⟩ rfl
    exact ge_none
theorem tfC_wouldRun {Φ : ev_P} {d : Nat} (hd : 6 ≤ d) {g : gH} (hg : HR g) {v0 v1 v2 : Int} (hK0 : kd v0 = 6) (h1 : InR v1) (h2 : InR v2) : Go Φ pr_P fT 1 (fC_wouldRun g v0 v1 v2) d (pr_P 51) 0 (ev_loc (pr_P 51).1 [(sR v0), (sI v1), (sI v2)]) [] g 0 0 := by
  show Go Φ pr_P fT 1 (fC_wouldRun g v0 v1 v2) d pr_m51 0 [some (sR v0), some (sI v1), some (sI v2)] [] g 0 0
  unfold fC_wouldRun
  refine go_iload k51_0 rfl ?_
  refine go_iload k51_1 rfl ?_
  refine go_callQ0 k51_2 rfl rfl rfl trivial ⟨by decide, by decide⟩ (by omega) (tfC_checkKill (by omega) hg  h1 h2) (fun y1 => ?_) (fun e5 E6 => ge_prop rfl ⟨by decide, by decide⟩ e5 rfl)
  refine go_aload k51_5 rfl ?_
  refine go_getR (bI := 1) k51_6 hg hK0 (by decide) rfl rfl (fun r7 => ?_)
  refine go_aload k51_9 rfl ?_
  refine go_getR (bI := 0) k51_10 hg hK0 (by decide) rfl rfl (fun r8 => ?_)
  refine go_ck (fun q9 => ?_)
  refine go_callN0 k51_13 rfl rfl rfl ⟨by decide, _, rfl, q9⟩ ⟨by decide, by decide⟩ (by omega) (tfT_take (by omega) hg q9  r8) (fun y10 g12 e13 => ?_)
  refine go_aload k51_16 rfl ?_
  refine go_getR (bI := 1) k51_17 e13 hK0 (by decide) rfl rfl (fun r14 => ?_)
  refine go_iload k51_20 rfl ?_
  refine go_iload k51_21 rfl ?_
  refine go_ck (fun q15 => ?_)
  refine go_callN1 k51_22 rfl rfl rfl ⟨by decide, _, rfl, q15⟩ ⟨by decide, by decide⟩ (by omega) (tfT_killGroup (by omega) e13 q15  h1 h2) (fun y16 g18 r17 e19 => ?_)
  refine go_popI k51_25 ?_
  refine go_aload k51_26 rfl ?_
  refine go_getR (bI := 1) k51_27 e19 hK0 (by decide) rfl rfl (fun r20 => ?_)
  refine go_int k51_30 0 rfl ?_
  refine go_ck (fun q21 => ?_)
  refine go_callP1 k51_31 rfl rfl rfl ⟨by decide, _, rfl, q21⟩ ⟨by decide, by decide⟩ (by omega) (tfT_countInState (by omega) e19 q21  (inR_b (Or.inl rfl))) (fun y22 r23 => ?_)
  exact go_iret k51_34 e19 r23 ⟨by decide, by decide⟩ rfl
theorem tfW_wouldRun {Φ : ev_P} {d : Nat} (hd : 7 ≤ d) {g : gH} (hg : HR g) {v0 v1 v2 v3 : Int} (h0 : RfR v0) (h1 : InR v1) (h2 : InR v2) (h3 : RfR v3) : Go Φ pr_P fN 1 (fW_wouldRun g v0 v1 v2 v3) d (pr_P 342) 0 (ev_loc (pr_P 342).1 [(sR v0), (sI v1), (sI v2), (sR v3)]) [] g 0 0 := by
  show Go Φ pr_P fN 1 (fW_wouldRun g v0 v1 v2 v3) d pr_m342 0 [some (sR v0), some (sI v1), some (sI v2), some (sR v3), none] [] g 0 0
  unfold fW_wouldRun
  refine go_aload k342_0 rfl ?_
  refine go_int k342_1 0 rfl ?_
  refine go_aload k342_2 rfl ?_
  refine go_iload k342_3 rfl ?_
  refine go_iload k342_4 rfl ?_
  refine go_ck (fun q1 => ?_)
  refine go_callT1 k342_5 rfl rfl rfl ⟨by decide, _, rfl, q1⟩ ⟨by decide, by decide⟩ (by omega) (tfC_wouldRun (by omega) hg q1  h1 h2) (fun y2 g4 r3 e5 => ?_) (fun E7 g4 e6 => ?_)
  · refine go_i2l k342_8 r3 ?_
    refine go_ck (fun q8 => ?_)
    refine go_last k342_9 e5 q8 (inL_R r3) (fun g9 e10 => ?_)
    refine go_goto k342_10 ?_
    refine go_int k342_17 0 rfl ?_
    exact go_iret k342_18 e10 (inR_b (Or.inl rfl)) ⟨by decide, by decide⟩ rfl
  · refine ge_ite (fun hE9 => ?_) (fun _ => ?_)
    · subst hE9
      refine ge_catch rfl k342_13 rfl (loc2 := [some (sR v0), some (sI v1), some (sI v2), some (sR v3), none]) rfl ?_
      refine go_int k342_15 1 rfl ?_
      exact go_iret k342_16 e6 (inR_b (Or.inr rfl)) ⟨by decide, by decide⟩ rfl
    exact ge_none
theorem tjC_apart_35 {Φ : ev_P} {d : Nat} (hd : 2 ≤ d) {g : gH} (hg : HR g) {v0 v3 v4 : Int} (hK0 : kd v0 = 6) (h3 : RfR v3) (h4 : RfR v4) {s0 : Int} (z0 : B01 s0) (u1 : Option ev_V) (w1 : nwo u1) (u2 : Option ev_V) (w2 : nwo u2) : Go Φ pr_P (fQ g) 1 (jC_apart_35 g v0 v3 v4 s0 ) d pr_m53 35 [some (sR v0), u1, u2, some (sR v3), some (sR v4)] [(sI s0)] g 2 12 := by
  unfold jC_apart_35
  refine go_callQ0 k53_35 rfl rfl rfl trivial ⟨by decide, by decide⟩ (by omega) (tfC_checkState (by omega) hg  z0) (fun y21 => ?_) (fun e25 E26 => ge_prop rfl ⟨by decide, by decide⟩ e25 rfl)
  refine go_aload k53_38 rfl ?_
  refine go_ck (fun q27 => ?_)
  refine go_callP1 k53_39 rfl rfl rfl ⟨by decide, _, rfl, q27⟩ ⟨by decide, by decide⟩ (by omega) (tfP_countAbove (by omega) hg q27 ) (fun y28 r29 => ?_)
  refine go_aload k53_42 rfl ?_
  refine go_ck (fun q32 => ?_)
  refine go_callP1 k53_44 rfl rfl rfl ⟨by decide, _, rfl, q32⟩ ⟨by decide, by decide⟩ (by omega) (tfP_countAbove (by omega) hg q32 ) (fun y33 r34 => ?_)
  refine go_iadd k53_47 ?_
  refine go_int k53_48 2 rfl ?_
  refine go_aload k53_49 rfl ?_
  refine go_getR (bI := 0) k53_50 hg hK0 (by decide) rfl rfl (fun r37 => ?_)
  refine go_aload k53_53 rfl ?_
  refine go_aload k53_54 rfl ?_
  refine go_ck (fun q38 => ?_)
  refine go_callP2 k53_56 rfl rfl rfl ⟨by decide, _, rfl, q38⟩ ⟨by decide, by decide⟩ (by omega) (tfT_lowestOver (by omega) hg q38  h3 h4) (fun y39 r40 => ?_)
  refine go_ck (fun q43 => ?_)
  refine go_callP1 k53_59 rfl rfl rfl ⟨by decide, _, rfl, q43⟩ ⟨by decide, by decide⟩ (by omega) (tfP_countAbove (by omega) hg q43 ) (fun y44 r45 => ?_)
  refine go_ibin k53_62 ?_
  refine go_isub k53_63 ?_
  exact go_iret k53_64 hg (inR_w32 _) ⟨by decide, by decide⟩ rfl
theorem tjC_apart_34 {Φ : ev_P} {d : Nat} (hd : 2 ≤ d) {g : gH} (hg : HR g) {v0 v3 v4 : Int} (hK0 : kd v0 = 6) (h3 : RfR v3) (h4 : RfR v4) (u1 : Option ev_V) (w1 : nwo u1) (u2 : Option ev_V) (w2 : nwo u2) : Go Φ pr_P (fQ g) 1 (jC_apart_34 g v0 v3 v4 ) d pr_m53 34 [some (sR v0), u1, u2, some (sR v3), some (sR v4)] [] g 2 12 := by
  unfold jC_apart_34
  refine go_int k53_34 0 rfl ?_
  exact tjC_apart_35 hd hg hK0 h3 h4 (Or.inl rfl) u1 w1 u2 w2
theorem tfC_apart {Φ : ev_P} {d : Nat} (hd : 2 ≤ d) {g : gH} (hg : HR g) {v0 v1 v2 : Int} (hK0 : kd v0 = 6) (h1 : InR v1) (h2 : InR v2) : Go Φ pr_P (fQ g) 1 (fC_apart g v0 v1 v2) d (pr_P 53) 0 (ev_loc (pr_P 53).1 [(sR v0), (sI v1), (sI v2)]) [] g 0 0 := by
  show Go Φ pr_P (fQ g) 1 (fC_apart g v0 v1 v2) d pr_m53 0 [some (sR v0), some (sI v1), some (sI v2), none, none] [] g 0 0
  unfold fC_apart
  refine go_aload k53_0 rfl ?_
  refine go_iload k53_1 rfl ?_
  refine go_callQ2 k53_2 rfl rfl rfl ⟨by decide, _, rfl, hK0⟩ ⟨by decide, by decide⟩ (by omega) (tfC_named (by omega) hg hK0  h1) (fun y1 r2 => ?_) (fun e5 E6 => ge_prop rfl ⟨by decide, by decide⟩ e5 rfl)
  refine go_astore k53_5 rfl (loc2 := [some (sR v0), some (sI v1), some (sI v2), some (sR y1), none]) rfl ?_
  refine go_aload k53_6 rfl ?_
  refine go_iload k53_7 rfl ?_
  refine go_callQ2 k53_8 rfl rfl rfl ⟨by decide, _, rfl, hK0⟩ ⟨by decide, by decide⟩ (by omega) (tfC_named (by omega) hg hK0  h2) (fun y7 r8 => ?_) (fun e11 E12 => ge_prop rfl ⟨by decide, by decide⟩ e11 rfl)
  refine go_astore k53_11 rfl (loc2 := [some (sR v0), some (sI v1), some (sI v2), some (sR y1), some (sR y7)]) rfl ?_
  refine go_aload k53_13 rfl ?_
  refine go_ck (fun q13 => ?_)
  refine go_getI (bI := 1) k53_14 hg q13 (by decide) rfl rfl (fun r14 => ?_)
  refine go_int k53_17 2 rfl ?_
  refine go_cmeq k53_18 r14 (inR_of (by decide)) (fun c15 => ?_) (fun c16 => ?_)
  · exact tjC_apart_34 hd hg hK0 r2 r8 (some (sI v1)) rfl (some (sI v2)) rfl
  · refine go_aload k53_21 rfl ?_
    refine go_ck (fun q17 => ?_)
    refine go_getI (bI := 1) k53_23 hg q17 (by decide) rfl rfl (fun r18 => ?_)
    refine go_int k53_26 2 rfl ?_
    refine go_cmeq k53_27 r18 (inR_of (by decide)) (fun c19 => ?_) (fun c20 => ?_)
    · exact tjC_apart_34 hd hg hK0 r2 r8 (some (sI v1)) rfl (some (sI v2)) rfl
    · refine go_int k53_30 1 rfl ?_
      refine go_goto k53_31 ?_
      exact tjC_apart_35 hd hg hK0 r2 r8 (Or.inr rfl) (some (sI v1)) rfl (some (sI v2)) rfl
theorem tfW_apart {Φ : ev_P} {d : Nat} (hd : 3 ≤ d) {g : gH} (hg : HR g) {v0 v1 v2 v3 : Int} (h0 : RfR v0) (h1 : InR v1) (h2 : InR v2) (h3 : RfR v3) : Go Φ pr_P fN 1 (fW_apart g v0 v1 v2 v3) d (pr_P 343) 0 (ev_loc (pr_P 343).1 [(sR v0), (sI v1), (sI v2), (sR v3)]) [] g 0 0 := by
  show Go Φ pr_P fN 1 (fW_apart g v0 v1 v2 v3) d pr_m343 0 [some (sR v0), some (sI v1), some (sI v2), some (sR v3), none] [] g 0 0
  unfold fW_apart
  refine go_aload k343_0 rfl ?_
  refine go_int k343_1 0 rfl ?_
  refine go_aload k343_2 rfl ?_
  refine go_iload k343_3 rfl ?_
  refine go_iload k343_4 rfl ?_
  refine go_ck (fun q1 => ?_)
  refine go_callQ1 k343_5 rfl rfl rfl ⟨by decide, _, rfl, q1⟩ ⟨by decide, by decide⟩ (by omega) (tfC_apart (by omega) hg q1  h1 h2) (fun y2 r3 => ?_) (fun e6 E7 => ?_)
  · refine go_i2l k343_8 r3 ?_
    refine go_ck (fun q8 => ?_)
    refine go_last k343_9 hg q8 (inL_R r3) (fun g9 e10 => ?_)
    refine go_goto k343_10 ?_
    refine go_int k343_21 0 rfl ?_
    exact go_iret k343_22 e10 (inR_b (Or.inl rfl)) ⟨by decide, by decide⟩ rfl
  · refine ge_ite (fun hE9 => ?_) (fun _ => ?_)
    · subst hE9
      refine ge_catch rfl k343_13 rfl (loc2 := [some (sR v0), some (sI v1), some (sI v2), some (sR v3), none]) rfl ?_
      refine go_int k343_15 1 rfl ?_
      exact go_iret k343_16 e6 (inR_b (Or.inr rfl)) ⟨by decide, by decide⟩ rfl
    refine ge_ite (fun hE9 => ?_) (fun _ => ?_)
    · subst hE9
      refine ge_catch rfl k343_17 rfl (loc2 := [some (sR v0), some (sI v1), some (sI v2), some (sR v3), none]) rfl ?_
      refine go_int k343_19 2 rfl ?_
      exact go_iret k343_20 e6 (inR_of (by decide)) ⟨by decide, by decide⟩ rfl
    exact ge_none
theorem tbT_loseSurplus_5 {Φ : ev_P} {d : Nat} (hd : 4 ≤ d) {v0 v1 : Int} (hK0 : kd v0 = 5) (h1 : RfR v1) {X5 : Int → Int → gH → Option (Int × gH)} (HX5 : ∀ (v2 : Int) (h2 : InR v2) (v3 : Int) (h3 : InR v3) (g : gH) (hg : HR g), Go Φ pr_P fN 1 (X5 v2 v3 g) d pr_m301 5 [some (sR v0), some (sR v1), some (sI v2), some (sI v3)] [] g 0 0) : ∀ (v2 : Int) (h2 : InR v2) (v3 : Int) (h3 : InR v3) (g : gH) (hg : HR g), Go Φ pr_P fN 1 (bT_loseSurplus_5 v0 v1 X5 v2 v3 g) d pr_m301 5 [some (sR v0), some (sR v1), some (sI v2), some (sI v3)] [] g 0 0 := by
  intro v2 h2 v3 h3 g hg
  unfold bT_loseSurplus_5
  refine go_iload k301_5 rfl ?_
  refine go_iflt k301_6 h3 (fun c1 => ?_) (fun c2 => ?_)
  · refine go_iload k301_62 rfl ?_
    exact go_iret k301_63 hg h2 ⟨Nat.zero_le _, Nat.zero_le _⟩ rfl
  · refine go_aload k301_9 rfl ?_
    refine go_ck (fun q3 => ?_)
    refine go_getI (bI := 3) k301_10 hg q3 (by decide) rfl rfl (fun r4 => ?_)
    refine go_aload k301_13 rfl ?_
    refine go_getI (bI := 4) k301_14 hg q3 (by decide) rfl rfl (fun r5 => ?_)
    refine go_cmgt k301_17 r4 r5 (fun c6 => ?_) (fun c7 => ?_)
    · refine go_aload k301_20 rfl ?_
      refine go_getR (bI := 1) k301_21 hg hK0 (by decide) rfl rfl (fun r8 => ?_)
      refine go_iload k301_24 rfl ?_
      refine go_ck (fun q10 => ?_)
      refine go_pald k301_25 hg q10 (fun r9 => ?_)
      refine go_aload k301_26 rfl ?_
      refine go_ck (fun q11 => ?_)
      refine go_callP3 k301_27 rfl rfl rfl ⟨by decide, _, rfl, q11⟩ ⟨Nat.zero_le _, Nat.zero_le _⟩ (by omega) (tfP_isRunningChildOf (by omega) hg q11  h1) (fun y12 r13 => ?_)
      refine go_ifeq k301_30 (inR_b r13) (fun c16 => ?_) (fun c17 => ?_)
      · refine go_iinc k301_56 rfl rfl (-1) rfl (loc2 := [some (sR v0), some (sR v1), some (sI v2), some (sI (w32 (v3 + (-1))))]) rfl ?_
        refine go_goto k301_59 ?_
        exact HX5 v2 h2 (w32 (v3 + (-1))) (inR_w32 _) g hg
      · refine go_aload k301_33 rfl ?_
        refine go_aload k301_34 rfl ?_
        refine go_getR (bI := 1) k301_35 hg hK0 (by decide) rfl rfl (fun r18 => ?_)
        refine go_iload k301_38 rfl ?_
        refine go_ck (fun q20 => ?_)
        refine go_pald k301_39 hg q20 (fun r19 => ?_)
        refine go_aload k301_40 rfl ?_
        refine go_aload k301_41 rfl ?_
        refine go_getR (bI := 1) k301_42 hg hK0 (by decide) rfl rfl (fun r21 => ?_)
        refine go_iload k301_45 rfl ?_
        refine go_ck (fun q23 => ?_)
        refine go_pald k301_46 hg q23 (fun r22 => ?_)
        refine go_callP2 k301_47 rfl rfl rfl ⟨by decide, _, rfl, hK0⟩ ⟨Nat.zero_le _, Nat.zero_le _⟩ (by omega) (tfT_adopterOf (by omega) hg hK0  r22) (fun y24 r25 => ?_)
        refine go_callN0 k301_50 rfl rfl rfl ⟨by decide, _, rfl, hK0⟩ ⟨Nat.zero_le _, Nat.zero_le _⟩ (by omega) (tfT_adopt (by omega) hg hK0  r19 r25) (fun y28 g30 e31 => ?_)
        refine go_iinc k301_53 rfl rfl 1 rfl (loc2 := [some (sR v0), some (sR v1), some (sI (w32 (v2 + 1))), some (sI v3)]) rfl ?_
        refine go_iinc k301_56 rfl rfl (-1) rfl (loc2 := [some (sR v0), some (sR v1), some (sI (w32 (v2 + 1))), some (sI (w32 (v3 + (-1))))]) rfl ?_
        refine go_goto k301_59 ?_
        exact HX5 (w32 (v2 + 1)) (inR_w32 _) (w32 (v3 + (-1))) (inR_w32 _) g30 e31
    · refine go_iinc k301_56 rfl rfl (-1) rfl (loc2 := [some (sR v0), some (sR v1), some (sI v2), some (sI (w32 (v3 + (-1))))]) rfl ?_
      refine go_goto k301_59 ?_
      exact HX5 v2 h2 (w32 (v3 + (-1))) (inR_w32 _) g hg
theorem tlT_loseSurplus_5 {Φ : ev_P} {d : Nat} (hd : 4 ≤ d) {v0 v1 : Int} (hK0 : kd v0 = 5) (h1 : RfR v1) : ∀ n : Nat, ∀ (v2 : Int) (h2 : InR v2) (v3 : Int) (h3 : InR v3) (g : gH) (hg : HR g), Go Φ pr_P fN 1 (lT_loseSurplus_5 v0 v1 n v2 v3 g) d pr_m301 5 [some (sR v0), some (sR v1), some (sI v2), some (sI v3)] [] g 0 0 := by
  intro n
  induction n with
  | zero => intros; exact go_none
  | succ n ih => exact tbT_loseSurplus_5 hd hK0 h1 ih
theorem tfT_loseSurplus {Φ : ev_P} {d : Nat} (hd : 4 ≤ d) {g : gH} (hg : HR g) {v0 v1 : Int} (hK0 : kd v0 = 5) (h1 : RfR v1) : Go Φ pr_P fN 1 (fT_loseSurplus g v0 v1) d (pr_P 301) 0 (ev_loc (pr_P 301).1 [(sR v0), (sR v1)]) [] g 0 0 := by
  show Go Φ pr_P fN 1 (fT_loseSurplus g v0 v1) d pr_m301 0 [some (sR v0), some (sR v1), none, none] [] g 0 0
  unfold fT_loseSurplus
  refine go_int k301_0 0 rfl ?_
  refine go_istore k301_1 rfl (loc2 := [some (sR v0), some (sR v1), some (sI 0), none]) rfl ?_
  refine go_int k301_2 39 rfl ?_
  refine go_istore k301_4 rfl (loc2 := [some (sR v0), some (sR v1), some (sI 0), some (sI 39)]) rfl ?_
  exact tlT_loseSurplus_5 hd hK0 h1 fu 0 (inR_b (Or.inl rfl)) 39 (inR_of (by decide)) g hg
