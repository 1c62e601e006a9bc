/-! ===== the evaluator comes to what the functions tell (own work, by program: wip/p67/gen/dec.py) ===== -/
theorem tfC_refuse {Φ : ev_P} {d : Nat} (hd : 5 ≤ d) {g : gH} (hg : HR g) {v0 v1 v2 : Int} (hK0 : kd v0 = 6) (h1 : InR v1) (h2 : InR v2) : Go Φ pr_P fT 1 (fC_refuse g v0 v1 v2) d (pr_P 10) 0 (ev_loc (pr_P 10).1 [(sR v0), (sI v1), (sI v2)]) [] g 0 0 := by
  show Go Φ pr_P fT 1 (fC_refuse g v0 v1 v2) d pr_m10 0 [some (sR v0), some (sI v1), some (sI v2), none] [] g 0 0
  unfold fC_refuse
  refine go_aload kk10_0.1.1.1.1.1 rfl ?_
  refine go_iload kk10_0.1.1.1.1.2 rfl ?_
  refine go_callQ2 kk10_0.1.1.1.2.1 rfl rfl rfl ⟨by decide, _, rfl, hK0⟩ ⟨Nat.zero_le _, Nat.zero_le _⟩ (by omega) (tfC_named (by omega) hg hK0  h1) (fun y1 r2 => ?_) ge_qt
  refine go_astore kk10_0.1.1.1.2.2 rfl (loc2 := [some (sR v0), some (sI v1), some (sI v2), some (sR y1)]) rfl ?_
  refine go_iload kk10_0.1.1.2.1.1 rfl ?_
  refine go_int kk10_0.1.1.2.1.2 9 rfl ?_
  refine go_callQ0 kk10_0.1.1.2.2.1 rfl rfl rfl trivial ⟨Nat.zero_le _, Nat.zero_le _⟩ (by omega) (tfC_checkRange (by omega) hg  h2 (inR_of (by decide))) (fun y7 => ?_) ge_qt
  refine go_aload kk10_0.1.1.2.2.2 rfl ?_
  refine go_ck (fun q13 => ?_)
  refine go_callP3 kk10_0.1.2.1.1.1 rfl rfl rfl ⟨by decide, _, rfl, q13⟩ ⟨Nat.zero_le _, Nat.zero_le _⟩ (by omega) (tfP_isMortal (by omega) hg q13 ) (fun y14 r15 => ?_)
  refine go_callQ0 kk10_0.1.2.1.1.2 rfl rfl rfl trivial ⟨Nat.zero_le _, Nat.zero_le _⟩ (by omega) (tfC_checkState (by omega) hg  r15) (fun y18 => ?_) ge_qt
  refine go_aload kk10_0.1.2.1.2.1 rfl ?_
  refine go_getR (bI := 3) kk10_0.1.2.1.2.2 hg hK0 (by decide) rfl rfl (fun r24 => ?_)
  refine go_aload kk10_0.1.2.2.1.1 rfl ?_
  refine go_getR (bI := 0) kk10_0.1.2.2.1.2 hg hK0 (by decide) rfl rfl (fun r25 => ?_)
  refine go_ck (fun q26 => ?_)
  refine go_callN0 kk10_0.1.2.2.2 rfl rfl rfl ⟨by decide, _, rfl, q26⟩ ⟨Nat.zero_le _, Nat.zero_le _⟩ (by omega) (tfH_push (by omega) hg q26  r25) (fun y27 g29 e30 => ?_)
  refine go_aload kk10_0.2.1.1.1.1 rfl ?_
  refine go_dupR kk10_0.2.1.1.1.2 ?_
  refine go_getI (bI := 8) kk10_0.2.1.1.2.1 e30 q13 (by decide) rfl rfl (fun r31 => ?_)
  refine go_int kk10_0.2.1.1.2.2 1 rfl ?_
  refine go_iload kk10_0.2.1.2.1.1 rfl ?_
  refine go_ibin kk10_0.2.1.2.1.2 ?_
  refine go_ibin kk10_0.2.1.2.2 ?_
  refine go_putI (bI := 8) kk10_0.2.2.1.1.1 e30 q13 (by decide) rfl rfl (inR_opI _ _ _) (fun g32 e33 => ?_)
  refine go_aload kk10_0.2.2.1.1.2 rfl ?_
  refine go_getR (bI := 0) kk10_0.2.2.1.2.1 e33 hK0 (by decide) rfl rfl (fun r34 => ?_)
  refine go_aload kk10_0.2.2.1.2.2 rfl ?_
  refine go_iload kk10_0.2.2.2.1.1 rfl ?_
  refine go_ck (fun q35 => ?_)
  refine go_callN1 kk10_0.2.2.2.1.2 rfl rfl rfl ⟨by decide, _, rfl, q35⟩ ⟨Nat.zero_le _, Nat.zero_le _⟩ (by omega) (tfT_loseGroup (by omega) e33 q35  r2 h2) (fun y36 g38 r37 e39 => ?_)
  exact go_iret kk10_0.2.2.2.2 e39 r37 ⟨Nat.zero_le _, Nat.zero_le _⟩ rfl
theorem tfP_isRunning {Φ : ev_P} {d : Nat} (hd : 0 ≤ d) {g : gH} (hg : HR g) {v0 : Int} (hK0 : kd v0 = 3) : Go Φ pr_P (fP g) 3 (fP_isRunning g v0) d (pr_P 37) 0 (ev_loc (pr_P 37).1 [(sR v0)]) [] g 0 0 := by
  show Go Φ pr_P (fP g) 3 (fP_isRunning g v0) d pr_m37 0 [some (sR v0)] [] g 0 0
  unfold fP_isRunning
  refine go_aload kk37_0.1.1.1 rfl ?_
  refine go_getI (bI := 1) kk37_0.1.1.2 hg hK0 (by decide) rfl rfl (fun r1 => ?_)
  refine go_ifeq kk37_0.1.2.1 r1 (fun c2 => ?_) (fun c3 => ?_)
  · refine go_int kk37_0.1.2.2 1 rfl ?_
    refine go_goto kk37_0.2.1.1 ?_
    exact go_bret kk37_0.2.2 hg (Or.inr rfl) ⟨Nat.zero_le _, Nat.zero_le _⟩ rfl
  · refine go_int kk37_0.2.1.2 0 rfl ?_
    exact go_bret kk37_0.2.2 hg (Or.inl rfl) ⟨Nat.zero_le _, Nat.zero_le _⟩ rfl
theorem tfC_accept {Φ : ev_P} {d : Nat} (hd : 3 ≤ d) {g : gH} (hg : HR g) {v0 v1 v2 : Int} (hK0 : kd v0 = 6) (h1 : InR v1) (h2 : InR v2) : Go Φ pr_P fT 3 (fC_accept g v0 v1 v2) d (pr_P 11) 0 (ev_loc (pr_P 11).1 [(sR v0), (sI v1), (sI v2)]) [] g 0 0 := by
  show Go Φ pr_P fT 3 (fC_accept g v0 v1 v2) d pr_m11 0 [some (sR v0), some (sI v1), some (sI v2), none, none] [] g 0 0
  unfold fC_accept
  refine go_aload kk11_0.1.1.1.1.1 rfl ?_
  refine go_iload kk11_0.1.1.1.1.2 rfl ?_
  refine go_callQ2 kk11_0.1.1.1.2.1 rfl rfl rfl ⟨by decide, _, rfl, hK0⟩ ⟨Nat.zero_le _, Nat.zero_le _⟩ (by omega) (tfC_named (by omega) hg hK0  h1) (fun y1 r2 => ?_) ge_qt
  refine go_astore kk11_0.1.1.1.2.2 rfl (loc2 := [some (sR v0), some (sI v1), some (sI v2), some (sR y1), none]) rfl ?_
  refine go_iload kk11_0.1.1.2.1.1 rfl ?_
  refine go_int kk11_0.1.1.2.1.2 9 rfl ?_
  refine go_callQ0 kk11_0.1.1.2.2.1 rfl rfl rfl trivial ⟨Nat.zero_le _, Nat.zero_le _⟩ (by omega) (tfC_checkRange (by omega) hg  h2 (inR_of (by decide))) (fun y7 => ?_) ge_qt
  refine go_aload kk11_0.1.1.2.2.2 rfl ?_
  refine go_ck (fun q13 => ?_)
  refine go_callP3 kk11_0.1.2.1.1.1 rfl rfl rfl ⟨by decide, _, rfl, q13⟩ ⟨Nat.zero_le _, Nat.zero_le _⟩ (by omega) (tfP_isRunning (by omega) hg q13 ) (fun y14 r15 => ?_)
  refine go_callQ0 kk11_0.1.2.1.1.2 rfl rfl rfl trivial ⟨Nat.zero_le _, Nat.zero_le _⟩ (by omega) (tfC_checkState (by omega) hg  r15) (fun y18 => ?_) ge_qt
  refine go_aload kk11_0.1.2.1.2.1 rfl ?_
  refine go_getR (bI := 3) kk11_0.1.2.1.2.2 hg hK0 (by decide) rfl rfl (fun r24 => ?_)
  refine go_aload kk11_0.1.2.2.1.1 rfl ?_
  refine go_getR (bI := 0) kk11_0.1.2.2.1.2 hg hK0 (by decide) rfl rfl (fun r25 => ?_)
  refine go_ck (fun q26 => ?_)
  refine go_callN0 kk11_0.1.2.2.2.1 rfl rfl rfl ⟨by decide, _, rfl, q26⟩ ⟨Nat.zero_le _, Nat.zero_le _⟩ (by omega) (tfH_push (by omega) hg q26  r25) (fun y27 g29 e30 => ?_)
  refine go_aload kk11_0.1.2.2.2.2 rfl ?_
  refine go_iload kk11_0.2.1.1.1.1 rfl ?_
  refine go_callP3 kk11_0.2.1.1.1.2 rfl rfl rfl ⟨by decide, _, rfl, q13⟩ ⟨Nat.zero_le _, Nat.zero_le _⟩ (by omega) (tfP_refuses (by omega) e30 q13  h2) (fun y31 r32 => ?_)
  refine go_istore kk11_0.2.1.1.2.1 rfl (loc2 := [some (sR v0), some (sI v1), some (sI v2), some (sR y1), some (sI y31)]) rfl ?_
  refine go_aload kk11_0.2.1.1.2.2 rfl ?_
  refine go_dupR kk11_0.2.1.2.1.1 ?_
  refine go_getI (bI := 8) kk11_0.2.1.2.1.2 e30 q13 (by decide) rfl rfl (fun r35 => ?_)
  refine go_int kk11_0.2.1.2.2.1 1 rfl ?_
  refine go_iload kk11_0.2.1.2.2.2 rfl ?_
  refine go_ibin kk11_0.2.2.1.1.1 ?_
  refine go_int kk11_0.2.2.1.1.2 (-1) rfl ?_
  refine go_ibin kk11_0.2.2.1.2.1 ?_
  refine go_ibin kk11_0.2.2.1.2.2 ?_
  refine go_putI (bI := 8) kk11_0.2.2.2.1.1 e30 q13 (by decide) rfl rfl (inR_opI _ _ _) (fun g36 e37 => ?_)
  refine go_iload kk11_0.2.2.2.1.2 rfl ?_
  exact go_bret kk11_0.2.2.2.2 e37 r32 ⟨Nat.zero_le _, Nat.zero_le _⟩ rfl
theorem tjC_move_60 {Φ : ev_P} {d : Nat} (hd : 3 ≤ d) {g : gH} (hg : HR g) {v0 v3 v4 : Int} (hK0 : kd v0 = 6) (h3 : RfR v3) (h4 : RfR v4) {s0 : Int} (z0 : B01 s0) (u1 : Option ev_V) (w1 : nwo u1) (u2 : Option ev_V) (w2 : nwo u2) (u5 : Option ev_V) (w5 : nwo u5) : Go Φ pr_P fT 1 (jC_move_60 g v0 v3 v4 s0 ) d pr_m12 60 [some (sR v0), u1, u2, some (sR v3), some (sR v4), u5] [(sI s0)] g 0 0 := by
  unfold jC_move_60
  refine go_callQ0 kk12_0.2.1.2.1.1.2 rfl rfl rfl trivial ⟨Nat.zero_le _, Nat.zero_le _⟩ (by omega) (tfC_checkState (by omega) hg  z0) (fun y42 => ?_) ge_qt
  refine go_aload kk12_0.2.1.2.1.2 rfl ?_
  refine go_getR (bI := 3) kk12_0.2.1.2.2.1 hg hK0 (by decide) rfl rfl (fun r48 => ?_)
  refine go_aload kk12_0.2.1.2.2.2 rfl ?_
  refine go_getR (bI := 0) kk12_0.2.2.1.1.1.1 hg hK0 (by decide) rfl rfl (fun r49 => ?_)
  refine go_ck (fun q50 => ?_)
  refine go_callN0 kk12_0.2.2.1.1.1.2 rfl rfl rfl ⟨by decide, _, rfl, q50⟩ ⟨Nat.zero_le _, Nat.zero_le _⟩ (by omega) (tfH_push (by omega) hg q50  r49) (fun y51 g53 e54 => ?_)
  refine go_aload kk12_0.2.2.1.1.2 rfl ?_
  refine go_ck (fun q55 => ?_)
  refine go_getR (bI := 2) kk12_0.2.2.1.2.1.1 e54 q55 (by decide) rfl rfl (fun r56 => ?_)
  refine go_callP1 kk12_0.2.2.1.2.1.2 rfl rfl rfl trivial ⟨Nat.zero_le _, Nat.zero_le _⟩ (by omega) (tfC_numberOf (by omega) e54  r56) (fun y57 r58 => ?_)
  refine go_istore kk12_0.2.2.1.2.2 rfl (loc2 := [some (sR v0), u1, u2, some (sR v3), some (sR v4), some (sI y57)]) rfl ?_
  refine go_aload kk12_0.2.2.2.1.1.1 rfl ?_
  refine go_aload kk12_0.2.2.2.1.1.2 rfl ?_
  refine go_callN0 kk12_0.2.2.2.1.2 rfl rfl rfl ⟨by decide, _, rfl, q55⟩ ⟨Nat.zero_le _, Nat.zero_le _⟩ (by omega) (tfP_putUnder (by omega) e54 q55  h4) (fun y61 g63 e64 => ?_)
  refine go_iload kk12_0.2.2.2.2.1 rfl ?_
  exact go_iret kk12_0.2.2.2.2.2 e64 r58 ⟨Nat.zero_le _, Nat.zero_le _⟩ rfl
theorem tjC_move_59 {Φ : ev_P} {d : Nat} (hd : 3 ≤ d) {g : gH} (hg : HR g) {v0 v3 v4 : Int} (hK0 : kd v0 = 6) (h3 : RfR v3) (h4 : RfR v4) (u1 : Option ev_V) (w1 : nwo u1) (u2 : Option ev_V) (w2 : nwo u2) (u5 : Option ev_V) (w5 : nwo u5) : Go Φ pr_P fT 1 (jC_move_59 g v0 v3 v4 ) d pr_m12 59 [some (sR v0), u1, u2, some (sR v3), some (sR v4), u5] [] g 0 0 := by
  unfold jC_move_59
  refine go_int kk12_0.2.1.2.1.1.1 0 rfl ?_
  exact tjC_move_60 hd hg hK0 h3 h4 (Or.inl rfl) u1 w1 u2 w2 u5 w5
theorem tfC_move {Φ : ev_P} {d : Nat} (hd : 3 ≤ d) {g : gH} (hg : HR g) {v0 v1 v2 : Int} (hK0 : kd v0 = 6) (h1 : InR v1) (h2 : InR v2) : Go Φ pr_P fT 1 (fC_move g v0 v1 v2) d (pr_P 12) 0 (ev_loc (pr_P 12).1 [(sR v0), (sI v1), (sI v2)]) [] g 0 0 := by
  show Go Φ pr_P fT 1 (fC_move g v0 v1 v2) d pr_m12 0 [some (sR v0), some (sI v1), some (sI v2), none, none, none] [] g 0 0
  unfold fC_move
  refine go_aload kk12_0.1.1.1.1.1.1 rfl ?_
  refine go_iload kk12_0.1.1.1.1.1.2 rfl ?_
  refine go_callQ2 kk12_0.1.1.1.1.2 rfl rfl rfl ⟨by decide, _, rfl, hK0⟩ ⟨Nat.zero_le _, Nat.zero_le _⟩ (by omega) (tfC_named (by omega) hg hK0  h1) (fun y1 r2 => ?_) ge_qt
  refine go_astore kk12_0.1.1.1.2.1.1 rfl (loc2 := [some (sR v0), some (sI v1), some (sI v2), some (sR y1), none, none]) rfl ?_
  refine go_aload kk12_0.1.1.1.2.1.2 rfl ?_
  refine go_iload kk12_0.1.1.1.2.2 rfl ?_
  refine go_callQ2 kk12_0.1.1.2.1.1.1 rfl rfl rfl ⟨by decide, _, rfl, hK0⟩ ⟨Nat.zero_le _, Nat.zero_le _⟩ (by omega) (tfC_named (by omega) hg hK0  h2) (fun y7 r8 => ?_) ge_qt
  refine go_astore kk12_0.1.1.2.1.1.2 rfl (loc2 := [some (sR v0), some (sI v1), some (sI v2), some (sR y1), some (sR y7), none]) rfl ?_
  refine go_aload kk12_0.1.1.2.1.2 rfl ?_
  refine go_ck (fun q13 => ?_)
  refine go_callP3 kk12_0.1.1.2.2.1 rfl rfl rfl ⟨by decide, _, rfl, q13⟩ ⟨Nat.zero_le _, Nat.zero_le _⟩ (by omega) (tfP_isMortal (by omega) hg q13 ) (fun y14 r15 => ?_)
  refine go_ifeq kk12_0.1.1.2.2.2 (inR_b r15) (fun c18 => ?_) (fun c19 => ?_)
  · exact tjC_move_59 hd hg hK0 r2 r8 (some (sI v1)) rfl (some (sI v2)) rfl none rfl
  · refine go_aload kk12_0.1.2.1.1.1.1 rfl ?_
    refine go_ck (fun q20 => ?_)
    refine go_callP1 kk12_0.1.2.1.1.1.2 rfl rfl rfl ⟨by decide, _, rfl, q20⟩ ⟨Nat.zero_le _, Nat.zero_le _⟩ (by omega) (tfP_room (by omega) hg q20 ) (fun y21 r22 => ?_)
    refine go_ifgt kk12_0.1.2.1.1.2 r22 (fun c25 => ?_) (fun c26 => ?_)
    · refine go_aload kk12_0.1.2.1.2.1.1 rfl ?_
      refine go_aload kk12_0.1.2.1.2.1.2 rfl ?_
      refine go_acmp kk12_0.1.2.1.2.2 r8 r2 (fun c27 => ?_) (fun c28 => ?_)
      · exact tjC_move_59 hd hg hK0 r2 r8 (some (sI v1)) rfl (some (sI v2)) rfl none rfl
      · refine go_aload kk12_0.1.2.2.1.1.1 rfl ?_
        refine go_aload kk12_0.1.2.2.1.1.2 rfl ?_
        refine go_callP3 kk12_0.1.2.2.1.2 rfl rfl rfl ⟨by decide, _, rfl, q13⟩ ⟨Nat.zero_le _, Nat.zero_le _⟩ (by omega) (tfP_isOver (by omega) hg q13  r8) (fun y29 r30 => ?_)
        refine go_ifeq kk12_0.1.2.2.2.1 (inR_b r30) (fun c33 => ?_) (fun c34 => ?_)
        · refine go_aload kk12_0.1.2.2.2.2 rfl ?_
          refine go_aload kk12_0.2.1.1.1.1.1 rfl ?_
          refine go_getI (bI := 5) kk12_0.2.1.1.1.1.2 hg q13 (by decide) rfl rfl (fun r35 => ?_)
          refine go_callP3 kk12_0.2.1.1.1.2 rfl rfl rfl ⟨by decide, _, rfl, q20⟩ ⟨Nat.zero_le _, Nat.zero_le _⟩ (by omega) (tfP_refuses (by omega) hg q20  r35) (fun y36 r37 => ?_)
          refine go_ifeq kk12_0.2.1.1.2.1.1 (inR_b r37) (fun c40 => ?_) (fun c41 => ?_)
          · refine go_int kk12_0.2.1.1.2.1.2 1 rfl ?_
            refine go_goto kk12_0.2.1.1.2.2 ?_
            exact tjC_move_60 hd hg hK0 r2 r8 (Or.inr rfl) (some (sI v1)) rfl (some (sI v2)) rfl none rfl
          · exact tjC_move_59 hd hg hK0 r2 r8 (some (sI v1)) rfl (some (sI v2)) rfl none rfl
        · exact tjC_move_59 hd hg hK0 r2 r8 (some (sI v1)) rfl (some (sI v2)) rfl none rfl
    · exact tjC_move_59 hd hg hK0 r2 r8 (some (sI v1)) rfl (some (sI v2)) rfl none rfl
theorem tfC_setCapacity {Φ : ev_P} {d : Nat} (hd : 3 ≤ d) {g : gH} (hg : HR g) {v0 v1 v2 : Int} (hK0 : kd v0 = 6) (h1 : InR v1) (h2 : InR v2) : Go Φ pr_P fT 1 (fC_setCapacity g v0 v1 v2) d (pr_P 13) 0 (ev_loc (pr_P 13).1 [(sR v0), (sI v1), (sI v2)]) [] g 0 0 := by
  show Go Φ pr_P fT 1 (fC_setCapacity g v0 v1 v2) d pr_m13 0 [some (sR v0), some (sI v1), some (sI v2), none, none] [] g 0 0
  unfold fC_setCapacity
  refine go_aload kk13_0.1.1.1.1.1 rfl ?_
  refine go_iload kk13_0.1.1.1.1.2 rfl ?_
  refine go_callQ2 kk13_0.1.1.1.2 rfl rfl rfl ⟨by decide, _, rfl, hK0⟩ ⟨Nat.zero_le _, Nat.zero_le _⟩ (by omega) (tfC_named (by omega) hg hK0  h1) (fun y1 r2 => ?_) ge_qt
  refine go_astore kk13_0.1.1.2.1.1 rfl (loc2 := [some (sR v0), some (sI v1), some (sI v2), some (sR y1), none]) rfl ?_
  refine go_iload kk13_0.1.1.2.1.2 rfl ?_
  refine go_int kk13_0.1.1.2.2 9 rfl ?_
  refine go_callQ0 kk13_0.1.2.1.1.1 rfl rfl rfl trivial ⟨Nat.zero_le _, Nat.zero_le _⟩ (by omega) (tfC_checkRange (by omega) hg  h2 (inR_of (by decide))) (fun y7 => ?_) ge_qt
  refine go_aload kk13_0.1.2.1.1.2 rfl ?_
  refine go_ck (fun q13 => ?_)
  refine go_callP3 kk13_0.1.2.1.2 rfl rfl rfl ⟨by decide, _, rfl, q13⟩ ⟨Nat.zero_le _, Nat.zero_le _⟩ (by omega) (tfP_isRunning (by omega) hg q13 ) (fun y14 r15 => ?_)
  refine go_callQ0 kk13_0.1.2.2.1.1 rfl rfl rfl trivial ⟨Nat.zero_le _, Nat.zero_le _⟩ (by omega) (tfC_checkState (by omega) hg  r15) (fun y18 => ?_) ge_qt
  refine go_aload kk13_0.1.2.2.1.2 rfl ?_
  refine go_getR (bI := 3) kk13_0.1.2.2.2 hg hK0 (by decide) rfl rfl (fun r24 => ?_)
  refine go_aload kk13_0.2.1.1.1.1 rfl ?_
  refine go_getR (bI := 0) kk13_0.2.1.1.1.2 hg hK0 (by decide) rfl rfl (fun r25 => ?_)
  refine go_ck (fun q26 => ?_)
  refine go_callN0 kk13_0.2.1.1.2 rfl rfl rfl ⟨by decide, _, rfl, q26⟩ ⟨Nat.zero_le _, Nat.zero_le _⟩ (by omega) (tfH_push (by omega) hg q26  r25) (fun y27 g29 e30 => ?_)
  refine go_aload kk13_0.2.1.2.1.1 rfl ?_
  refine go_getI (bI := 4) kk13_0.2.1.2.1.2 e30 q13 (by decide) rfl rfl (fun r31 => ?_)
  refine go_istore kk13_0.2.1.2.2 rfl (loc2 := [some (sR v0), some (sI v1), some (sI v2), some (sR y1), some (sI (g29 y1 4))]) rfl ?_
  refine go_aload kk13_0.2.2.1.1.1 rfl ?_
  refine go_iload kk13_0.2.2.1.1.2 rfl ?_
  refine go_putI (bI := 4) kk13_0.2.2.1.2 e30 q13 (by decide) rfl rfl h2 (fun g32 e33 => ?_)
  refine go_iload kk13_0.2.2.2.1 rfl ?_
  exact go_iret kk13_0.2.2.2.2 e33 r31 ⟨Nat.zero_le _, Nat.zero_le _⟩ rfl
theorem tfC_setBudget {Φ : ev_P} {d : Nat} (hd : 3 ≤ d) {g : gH} (hg : HR g) {v0 v1 v2 : Int} (hK0 : kd v0 = 6) (h1 : InR v1) (h2 : InR v2) : Go Φ pr_P fT 1 (fC_setBudget g v0 v1 v2) d (pr_P 14) 0 (ev_loc (pr_P 14).1 [(sR v0), (sI v1), (sI v2)]) [] g 0 0 := by
  show Go Φ pr_P fT 1 (fC_setBudget g v0 v1 v2) d pr_m14 0 [some (sR v0), some (sI v1), some (sI v2), none, none] [] g 0 0
  unfold fC_setBudget
  refine go_aload kk14_0.1.1.1.1.1 rfl ?_
  refine go_iload kk14_0.1.1.1.1.2 rfl ?_
  refine go_callQ2 kk14_0.1.1.1.2 rfl rfl rfl ⟨by decide, _, rfl, hK0⟩ ⟨Nat.zero_le _, Nat.zero_le _⟩ (by omega) (tfC_named (by omega) hg hK0  h1) (fun y1 r2 => ?_) ge_qt
  refine go_astore kk14_0.1.1.2.1.1 rfl (loc2 := [some (sR v0), some (sI v1), some (sI v2), some (sR y1), none]) rfl ?_
  refine go_iload kk14_0.1.1.2.1.2 rfl ?_
  refine go_int kk14_0.1.1.2.2 9 rfl ?_
  refine go_callQ0 kk14_0.1.2.1.1.1 rfl rfl rfl trivial ⟨Nat.zero_le _, Nat.zero_le _⟩ (by omega) (tfC_checkRange (by omega) hg  h2 (inR_of (by decide))) (fun y7 => ?_) ge_qt
  refine go_aload kk14_0.1.2.1.1.2 rfl ?_
  refine go_ck (fun q13 => ?_)
  refine go_callP3 kk14_0.1.2.1.2 rfl rfl rfl ⟨by decide, _, rfl, q13⟩ ⟨Nat.zero_le _, Nat.zero_le _⟩ (by omega) (tfP_isRunning (by omega) hg q13 ) (fun y14 r15 => ?_)
  refine go_callQ0 kk14_0.1.2.2.1.1 rfl rfl rfl trivial ⟨Nat.zero_le _, Nat.zero_le _⟩ (by omega) (tfC_checkState (by omega) hg  r15) (fun y18 => ?_) ge_qt
  refine go_aload kk14_0.1.2.2.1.2 rfl ?_
  refine go_getR (bI := 3) kk14_0.1.2.2.2 hg hK0 (by decide) rfl rfl (fun r24 => ?_)
  refine go_aload kk14_0.2.1.1.1.1 rfl ?_
  refine go_getR (bI := 0) kk14_0.2.1.1.1.2 hg hK0 (by decide) rfl rfl (fun r25 => ?_)
  refine go_ck (fun q26 => ?_)
  refine go_callN0 kk14_0.2.1.1.2 rfl rfl rfl ⟨by decide, _, rfl, q26⟩ ⟨Nat.zero_le _, Nat.zero_le _⟩ (by omega) (tfH_push (by omega) hg q26  r25) (fun y27 g29 e30 => ?_)
  refine go_aload kk14_0.2.1.2.1.1 rfl ?_
  refine go_getI (bI := 6) kk14_0.2.1.2.1.2 e30 q13 (by decide) rfl rfl (fun r31 => ?_)
  refine go_istore kk14_0.2.1.2.2 rfl (loc2 := [some (sR v0), some (sI v1), some (sI v2), some (sR y1), some (sI (g29 y1 6))]) rfl ?_
  refine go_aload kk14_0.2.2.1.1.1 rfl ?_
  refine go_iload kk14_0.2.2.1.1.2 rfl ?_
  refine go_putI (bI := 6) kk14_0.2.2.1.2 e30 q13 (by decide) rfl rfl h2 (fun g32 e33 => ?_)
  refine go_iload kk14_0.2.2.2.1 rfl ?_
  exact go_iret kk14_0.2.2.2.2 e33 r31 ⟨Nat.zero_le _, Nat.zero_le _⟩ rfl
theorem tfC_setHeir {Φ : ev_P} {d : Nat} (hd : 3 ≤ d) {g : gH} (hg : HR g) {v0 v1 v2 : Int} (hK0 : kd v0 = 6) (h1 : InR v1) (h2 : InR v2) : Go Φ pr_P fT 1 (fC_setHeir g v0 v1 v2) d (pr_P 15) 0 (ev_loc (pr_P 15).1 [(sR v0), (sI v1), (sI v2)]) [] g 0 0 := by
  show Go Φ pr_P fT 1 (fC_setHeir g v0 v1 v2) d pr_m15 0 [some (sR v0), some (sI v1), some (sI v2), none, none] [] g 0 0
  unfold fC_setHeir
  refine go_aload kk15_0.1.1.1.1.1 rfl ?_
  refine go_iload kk15_0.1.1.1.1.2 rfl ?_
  refine go_callQ2 kk15_0.1.1.1.2.1 rfl rfl rfl ⟨by decide, _, rfl, hK0⟩ ⟨Nat.zero_le _, Nat.zero_le _⟩ (by omega) (tfC_named (by omega) hg hK0  h1) (fun y1 r2 => ?_) ge_qt
  refine go_astore kk15_0.1.1.1.2.2 rfl (loc2 := [some (sR v0), some (sI v1), some (sI v2), some (sR y1), none]) rfl ?_
  refine go_iload kk15_0.1.1.2.1.1 rfl ?_
  refine go_int kk15_0.1.1.2.1.2 (-1) rfl ?_
  refine go_cmeq kk15_0.1.1.2.2.1 h2 (inR_of (by decide)) (fun c7 => ?_) (fun c8 => ?_)
  · refine go_aload kk15_0.1.2.2.1.2 rfl ?_
    refine go_ck (fun q9 => ?_)
    refine go_callP3 kk15_0.1.2.2.2 rfl rfl rfl ⟨by decide, _, rfl, q9⟩ ⟨Nat.zero_le _, Nat.zero_le _⟩ (by omega) (tfP_isMortal (by omega) hg q9 ) (fun y10 r11 => ?_)
    refine go_callQ0 kk15_0.2.1.1.1.1 rfl rfl rfl trivial ⟨Nat.zero_le _, Nat.zero_le _⟩ (by omega) (tfC_checkState (by omega) hg  r11) (fun y14 => ?_) ge_qt
    refine go_aload kk15_0.2.1.1.1.2 rfl ?_
    refine go_getR (bI := 3) kk15_0.2.1.1.2.1 hg hK0 (by decide) rfl rfl (fun r20 => ?_)
    refine go_aload kk15_0.2.1.1.2.2 rfl ?_
    refine go_getR (bI := 0) kk15_0.2.1.2.1.1 hg hK0 (by decide) rfl rfl (fun r21 => ?_)
    refine go_ck (fun q22 => ?_)
    refine go_callN0 kk15_0.2.1.2.1.2 rfl rfl rfl ⟨by decide, _, rfl, q22⟩ ⟨Nat.zero_le _, Nat.zero_le _⟩ (by omega) (tfH_push (by omega) hg q22  r21) (fun y23 g25 e26 => ?_)
    refine go_aload kk15_0.2.1.2.2 rfl ?_
    refine go_getI (bI := 7) kk15_0.2.2.1.1.1 e26 q9 (by decide) rfl rfl (fun r27 => ?_)
    refine go_istore kk15_0.2.2.1.1.2 rfl (loc2 := [some (sR v0), some (sI v1), some (sI v2), some (sR y1), some (sI (g25 y1 7))]) rfl ?_
    refine go_aload kk15_0.2.2.1.2.1 rfl ?_
    refine go_iload kk15_0.2.2.1.2.2 rfl ?_
    refine go_putI (bI := 7) kk15_0.2.2.2.1.1 e26 q9 (by decide) rfl rfl h2 (fun g28 e29 => ?_)
    refine go_iload kk15_0.2.2.2.1.2 rfl ?_
    exact go_iret kk15_0.2.2.2.2 e29 r27 ⟨Nat.zero_le _, Nat.zero_le _⟩ rfl
  · refine go_aload kk15_0.1.1.2.2.2 rfl ?_
    refine go_iload kk15_0.1.2.1.1.1 rfl ?_
    refine go_callQ2 kk15_0.1.2.1.1.2 rfl rfl rfl ⟨by decide, _, rfl, hK0⟩ ⟨Nat.zero_le _, Nat.zero_le _⟩ (by omega) (tfC_named (by omega) hg hK0  h2) (fun y30 r31 => ?_) ge_qt
    refine go_aload kk15_0.1.2.1.2.1 rfl ?_
    refine go_acmp kk15_0.1.2.1.2.2 r31 r2 (fun c36 => ?_) (fun c37 => ?_)
    · exact go_thr (Nat.succ_ne_zero _)
    · refine go_aload kk15_0.1.2.2.1.2 rfl ?_
      refine go_ck (fun q38 => ?_)
      refine go_callP3 kk15_0.1.2.2.2 rfl rfl rfl ⟨by decide, _, rfl, q38⟩ ⟨Nat.zero_le _, Nat.zero_le _⟩ (by omega) (tfP_isMortal (by omega) hg q38 ) (fun y39 r40 => ?_)
      refine go_callQ0 kk15_0.2.1.1.1.1 rfl rfl rfl trivial ⟨Nat.zero_le _, Nat.zero_le _⟩ (by omega) (tfC_checkState (by omega) hg  r40) (fun y43 => ?_) ge_qt
      refine go_aload kk15_0.2.1.1.1.2 rfl ?_
      refine go_getR (bI := 3) kk15_0.2.1.1.2.1 hg hK0 (by decide) rfl rfl (fun r49 => ?_)
      refine go_aload kk15_0.2.1.1.2.2 rfl ?_
      refine go_getR (bI := 0) kk15_0.2.1.2.1.1 hg hK0 (by decide) rfl rfl (fun r50 => ?_)
      refine go_ck (fun q51 => ?_)
      refine go_callN0 kk15_0.2.1.2.1.2 rfl rfl rfl ⟨by decide, _, rfl, q51⟩ ⟨Nat.zero_le _, Nat.zero_le _⟩ (by omega) (tfH_push (by omega) hg q51  r50) (fun y52 g54 e55 => ?_)
      refine go_aload kk15_0.2.1.2.2 rfl ?_
      refine go_getI (bI := 7) kk15_0.2.2.1.1.1 e55 q38 (by decide) rfl rfl (fun r56 => ?_)
      refine go_istore kk15_0.2.2.1.1.2 rfl (loc2 := [some (sR v0), some (sI v1), some (sI v2), some (sR y1), some (sI (g54 y1 7))]) rfl ?_
      refine go_aload kk15_0.2.2.1.2.1 rfl ?_
      refine go_iload kk15_0.2.2.1.2.2 rfl ?_
      refine go_putI (bI := 7) kk15_0.2.2.2.1.1 e55 q38 (by decide) rfl rfl h2 (fun g57 e58 => ?_)
      refine go_iload kk15_0.2.2.2.1.2 rfl ?_
      exact go_iret kk15_0.2.2.2.2 e58 r56 ⟨Nat.zero_le _, Nat.zero_le _⟩ rfl
theorem tjT_holderOf_24 {Φ : ev_P} {d : Nat} (hd : 1 ≤ d) {g : gH} (hg : HR g) {v0 : Int} (hK0 : kd v0 = 5) {s0 : Int} (z0 : RfR s0) (u1 : Option ev_V) (w1 : nwo u1) (u2 : Option ev_V) (w2 : nwo u2) : Go Φ pr_P (fP g) 2 (jT_holderOf_24 g v0 s0 ) d pr_m78 24 [some (sR v0), u1, u2] [(sR s0)] g 0 0 := by
  unfold jT_holderOf_24
  refine go_astore kk78_0.2.1.1.2 w1 (loc2 := [some (sR v0), u1, some (sR s0)]) rfl ?_
  refine go_aload kk78_0.2.1.2.1 rfl ?_
  refine go_isnull kk78_0.2.1.2.2  (fun c12 => ?_) (fun c13 => ?_)
  · refine go_aload kk78_0.2.2.1.1.1 rfl ?_
    refine go_getR (bI := 0) kk78_0.2.2.1.1.2 hg hK0 (by decide) rfl rfl (fun r14 => ?_)
    refine go_goto kk78_0.2.2.1.2 ?_
    exact go_aret kk78_0.2.2.2.2 hg r14 ⟨Nat.zero_le _, Nat.zero_le _⟩ rfl
  · refine go_aload kk78_0.2.2.2.1 rfl ?_
    exact go_aret kk78_0.2.2.2.2 hg z0 ⟨Nat.zero_le _, Nat.zero_le _⟩ rfl
theorem tjT_holderOf_10 {Φ : ev_P} {d : Nat} (hd : 1 ≤ d) {g : gH} (hg : HR g) {v0 : Int} (hK0 : kd v0 = 5) (u1 : Option ev_V) (w1 : nwo u1) (u2 : Option ev_V) (w2 : nwo u2) : Go Φ pr_P (fP g) 2 (jT_holderOf_10 g v0 ) d pr_m78 10 [some (sR v0), u1, u2] [] g 0 0 := by
  unfold jT_holderOf_10
  refine go_null kk78_0.1.1.2.2 ?_
  refine go_goto kk78_0.1.2.1.1.1 ?_
  exact tjT_holderOf_24 hd hg hK0 rfR_null u1 w1 u2 w2
theorem tfT_holderOf {Φ : ev_P} {d : Nat} (hd : 1 ≤ d) {g : gH} (hg : HR g) {v0 v1 : Int} (hK0 : kd v0 = 5) (h1 : InR v1) : Go Φ pr_P (fP g) 2 (fT_holderOf g v0 v1) d (pr_P 78) 0 (ev_loc (pr_P 78).1 [(sR v0), (sI v1)]) [] g 0 0 := by
  show Go Φ pr_P (fP g) 2 (fT_holderOf g v0 v1) d pr_m78 0 [some (sR v0), some (sI v1), none] [] g 0 0
  unfold fT_holderOf
  refine go_iload kk78_0.1.1.1.1.1 rfl ?_
  refine go_iflt kk78_0.1.1.1.1.2 h1 (fun c1 => ?_) (fun c2 => ?_)
  · exact tjT_holderOf_10 hd hg hK0 (some (sI v1)) rfl none rfl
  · refine go_iload kk78_0.1.1.1.2 rfl ?_
    refine go_int kk78_0.1.1.2.1.1 8 rfl ?_
    refine go_cmlt kk78_0.1.1.2.1.2 h1 (inR_of (by decide)) (fun c3 => ?_) (fun c4 => ?_)
    · refine go_aload kk78_0.1.2.1.1.2 rfl ?_
      refine go_aload kk78_0.1.2.1.2 rfl ?_
      refine go_getR (bI := 2) kk78_0.1.2.2.1 hg hK0 (by decide) rfl rfl (fun r5 => ?_)
      refine go_iload kk78_0.1.2.2.2 rfl ?_
      refine go_ck (fun q7 => ?_)
      refine go_iald kk78_0.2.1.1.1.1 hg q7 r5 (fun r6 => ?_)
      refine go_callP2 kk78_0.2.1.1.1.2 rfl rfl rfl ⟨by decide, _, rfl, hK0⟩ ⟨Nat.zero_le _, Nat.zero_le _⟩ (by omega) (tfT_at (by omega) hg hK0  r6) (fun y8 r9 => ?_)
      exact tjT_holderOf_24 hd hg hK0 r9 (some (sI v1)) rfl none rfl
    · exact tjT_holderOf_10 hd hg hK0 (some (sI v1)) rfl none rfl
theorem tfC_give {Φ : ev_P} {d : Nat} (hd : 3 ≤ d) {g : gH} (hg : HR g) {v0 v1 v2 : Int} (hK0 : kd v0 = 6) (h1 : InR v1) (h2 : InR v2) : Go Φ pr_P fT 1 (fC_give g v0 v1 v2) d (pr_P 16) 0 (ev_loc (pr_P 16).1 [(sR v0), (sI v1), (sI v2)]) [] g 0 0 := by
  show Go Φ pr_P fT 1 (fC_give g v0 v1 v2) d pr_m16 0 [some (sR v0), some (sI v1), some (sI v2), none, none] [] g 0 0
  unfold fC_give
  refine go_iload kk16_0.1.1.1.1.1 rfl ?_
  refine go_int kk16_0.1.1.1.1.2 7 rfl ?_
  refine go_callQ0 kk16_0.1.1.1.2.1 rfl rfl rfl trivial ⟨Nat.zero_le _, Nat.zero_le _⟩ (by omega) (tfC_checkRange (by omega) hg  h1 (inR_of (by decide))) (fun y1 => ?_) ge_qt
  refine go_aload kk16_0.1.1.1.2.2 rfl ?_
  refine go_iload kk16_0.1.1.2.1.1 rfl ?_
  refine go_callQ2 kk16_0.1.1.2.1.2 rfl rfl rfl ⟨by decide, _, rfl, hK0⟩ ⟨Nat.zero_le _, Nat.zero_le _⟩ (by omega) (tfC_named (by omega) hg hK0  h2) (fun y7 r8 => ?_) ge_qt
  refine go_astore kk16_0.1.1.2.2 rfl (loc2 := [some (sR v0), some (sI v1), some (sI v2), some (sR y7), none]) rfl ?_
  refine go_aload kk16_0.1.2.1.1.1 rfl ?_
  refine go_ck (fun q13 => ?_)
  refine go_callP3 kk16_0.1.2.1.1.2 rfl rfl rfl ⟨by decide, _, rfl, q13⟩ ⟨Nat.zero_le _, Nat.zero_le _⟩ (by omega) (tfP_isRunning (by omega) hg q13 ) (fun y14 r15 => ?_)
  refine go_callQ0 kk16_0.1.2.1.2.1 rfl rfl rfl trivial ⟨Nat.zero_le _, Nat.zero_le _⟩ (by omega) (tfC_checkState (by omega) hg  r15) (fun y18 => ?_) ge_qt
  refine go_aload kk16_0.1.2.1.2.2 rfl ?_
  refine go_getR (bI := 3) kk16_0.1.2.2.1.1 hg hK0 (by decide) rfl rfl (fun r24 => ?_)
  refine go_aload kk16_0.1.2.2.1.2 rfl ?_
  refine go_getR (bI := 0) kk16_0.1.2.2.2 hg hK0 (by decide) rfl rfl (fun r25 => ?_)
  refine go_ck (fun q26 => ?_)
  refine go_callN0 kk16_0.2.1.1.1.1 rfl rfl rfl ⟨by decide, _, rfl, q26⟩ ⟨Nat.zero_le _, Nat.zero_le _⟩ (by omega) (tfH_push (by omega) hg q26  r25) (fun y27 g29 e30 => ?_)
  refine go_aload kk16_0.2.1.1.1.2 rfl ?_
  refine go_getR (bI := 0) kk16_0.2.1.1.2.1 e30 hK0 (by decide) rfl rfl (fun r31 => ?_)
  refine go_iload kk16_0.2.1.1.2.2 rfl ?_
  refine go_ck (fun q32 => ?_)
  refine go_callP2 kk16_0.2.1.2.1.1 rfl rfl rfl ⟨by decide, _, rfl, q32⟩ ⟨Nat.zero_le _, Nat.zero_le _⟩ (by omega) (tfT_holderOf (by omega) e30 q32  h1) (fun y33 r34 => ?_)
  refine go_ck (fun q37 => ?_)
  refine go_getI (bI := 0) kk16_0.2.1.2.1.2 e30 q37 (by decide) rfl rfl (fun r38 => ?_)
  refine go_istore kk16_0.2.1.2.2 rfl (loc2 := [some (sR v0), some (sI v1), some (sI v2), some (sR y7), some (sI (g29 y33 0))]) rfl ?_
  refine go_aload kk16_0.2.2.1.1.1 rfl ?_
  refine go_getR (bI := 0) kk16_0.2.2.1.1.2 e30 hK0 (by decide) rfl rfl (fun r39 => ?_)
  refine go_iload kk16_0.2.2.1.2.1 rfl ?_
  refine go_aload kk16_0.2.2.1.2.2 rfl ?_
  refine go_callN0 kk16_0.2.2.2.1.1 rfl rfl rfl ⟨by decide, _, rfl, q32⟩ ⟨Nat.zero_le _, Nat.zero_le _⟩ (by omega) (tfT_giveDuty (by omega) e30 q32  h1 r8) (fun y40 g42 e43 => ?_)
  refine go_iload kk16_0.2.2.2.1.2 rfl ?_
  exact go_iret kk16_0.2.2.2.2 e43 r38 ⟨Nat.zero_le _, Nat.zero_le _⟩ rfl
theorem tfC_adopter {Φ : ev_P} {d : Nat} (hd : 4 ≤ d) {g : gH} (hg : HR g) {v0 v1 : Int} (hK0 : kd v0 = 6) (h1 : InR v1) : Go Φ pr_P (fQ g) 1 (fC_adopter g v0 v1) d (pr_P 17) 0 (ev_loc (pr_P 17).1 [(sR v0), (sI v1)]) [] g 0 0 := by
  show Go Φ pr_P (fQ g) 1 (fC_adopter g v0 v1) d pr_m17 0 [some (sR v0), some (sI v1), none] [] g 0 0
  unfold fC_adopter
  refine go_aload kk17_0.1.1.1.1 rfl ?_
  refine go_iload kk17_0.1.1.1.2 rfl ?_
  refine go_callQ2 kk17_0.1.1.2.1 rfl rfl rfl ⟨by decide, _, rfl, hK0⟩ ⟨Nat.zero_le _, Nat.zero_le _⟩ (by omega) (tfC_named (by omega) hg hK0  h1) (fun y1 r2 => ?_) ge_qq
  refine go_astore kk17_0.1.1.2.2 rfl (loc2 := [some (sR v0), some (sI v1), some (sR y1)]) rfl ?_
  refine go_aload kk17_0.1.2.1.1 rfl ?_
  refine go_ck (fun q7 => ?_)
  refine go_callP3 kk17_0.1.2.1.2 rfl rfl rfl ⟨by decide, _, rfl, q7⟩ ⟨Nat.zero_le _, Nat.zero_le _⟩ (by omega) (tfP_isMortal (by omega) hg q7 ) (fun y8 r9 => ?_)
  refine go_callQ0 kk17_0.1.2.2 rfl rfl rfl trivial ⟨Nat.zero_le _, Nat.zero_le _⟩ (by omega) (tfC_checkState (by omega) hg  r9) (fun y12 => ?_) ge_qq
  refine go_aload kk17_0.2.1.1.1 rfl ?_
  refine go_getR (bI := 0) kk17_0.2.1.1.2 hg hK0 (by decide) rfl rfl (fun r18 => ?_)
  refine go_aload kk17_0.2.1.2 rfl ?_
  refine go_ck (fun q19 => ?_)
  refine go_callP2 kk17_0.2.2.1.1 rfl rfl rfl ⟨by decide, _, rfl, q19⟩ ⟨Nat.zero_le _, Nat.zero_le _⟩ (by omega) (tfT_adopterOf (by omega) hg q19  r2) (fun y20 r21 => ?_)
  refine go_ck (fun q24 => ?_)
  refine go_getI (bI := 0) kk17_0.2.2.1.2 hg q24 (by decide) rfl rfl (fun r25 => ?_)
  exact go_iret kk17_0.2.2.2 hg r25 ⟨Nat.zero_le _, Nat.zero_le _⟩ rfl
theorem tfC_heirNow {Φ : ev_P} {d : Nat} (hd : 2 ≤ d) {g : gH} (hg : HR g) {v0 v1 : Int} (hK0 : kd v0 = 6) (h1 : InR v1) : Go Φ pr_P (fQ g) 1 (fC_heirNow g v0 v1) d (pr_P 18) 0 (ev_loc (pr_P 18).1 [(sR v0), (sI v1)]) [] g 0 0 := by
  show Go Φ pr_P (fQ g) 1 (fC_heirNow g v0 v1) d pr_m18 0 [some (sR v0), some (sI v1), none] [] g 0 0
  unfold fC_heirNow
  refine go_aload kk18_0.1.1.1.1 rfl ?_
  refine go_iload kk18_0.1.1.1.2 rfl ?_
  refine go_callQ2 kk18_0.1.1.2.1 rfl rfl rfl ⟨by decide, _, rfl, hK0⟩ ⟨Nat.zero_le _, Nat.zero_le _⟩ (by omega) (tfC_named (by omega) hg hK0  h1) (fun y1 r2 => ?_) ge_qq
  refine go_astore kk18_0.1.1.2.2 rfl (loc2 := [some (sR v0), some (sI v1), some (sR y1)]) rfl ?_
  refine go_aload kk18_0.1.2.1.1 rfl ?_
  refine go_ck (fun q7 => ?_)
  refine go_callP3 kk18_0.1.2.1.2 rfl rfl rfl ⟨by decide, _, rfl, q7⟩ ⟨Nat.zero_le _, Nat.zero_le _⟩ (by omega) (tfP_isMortal (by omega) hg q7 ) (fun y8 r9 => ?_)
  refine go_callQ0 kk18_0.1.2.2 rfl rfl rfl trivial ⟨Nat.zero_le _, Nat.zero_le _⟩ (by omega) (tfC_checkState (by omega) hg  r9) (fun y12 => ?_) ge_qq
  refine go_aload kk18_0.2.1.1.1 rfl ?_
  refine go_getR (bI := 0) kk18_0.2.1.1.2 hg hK0 (by decide) rfl rfl (fun r18 => ?_)
  refine go_aload kk18_0.2.1.2 rfl ?_
  refine go_ck (fun q19 => ?_)
  refine go_callP2 kk18_0.2.2.1.1 rfl rfl rfl ⟨by decide, _, rfl, q19⟩ ⟨Nat.zero_le _, Nat.zero_le _⟩ (by omega) (tfT_heirOf (by omega) hg q19  r2) (fun y20 r21 => ?_)
  refine go_ck (fun q24 => ?_)
  refine go_getI (bI := 0) kk18_0.2.2.1.2 hg q24 (by decide) rfl rfl (fun r25 => ?_)
  exact go_iret kk18_0.2.2.2 hg r25 ⟨Nat.zero_le _, Nat.zero_le _⟩ rfl
theorem tbC_allRoom_16 {Φ : ev_P} {d : Nat} (hd : 1 ≤ d) {g : gH} (hg : HR g) {v2 v3 : Int} (h2 : RfR v2) (h3 : InR v3) {X16 : Int → Int → Option Int} (HX16 : ∀ (v1 : Int) (h1 : InR v1) (v4 : Int) (h4 : InR v4) (u0 : Option ev_V) (w0 : nwo u0) (u5 : Option ev_V) (w5 : nwo u5), Go Φ pr_P (fP g) 1 (X16 v1 v4) d pr_m19 16 [u0, some (sI v1), some (sR v2), some (sI v3), some (sI v4), u5] [] g 0 0) : ∀ (v1 : Int) (h1 : InR v1) (v4 : Int) (h4 : InR v4) (u0 : Option ev_V) (w0 : nwo u0) (u5 : Option ev_V) (w5 : nwo u5), Go Φ pr_P (fP g) 1 (bC_allRoom_16 g v2 v3 X16 v1 v4) d pr_m19 16 [u0, some (sI v1), some (sR v2), some (sI v3), some (sI v4), u5] [] g 0 0 := by
  intro v1 h1 v4 h4 u0 w0 u5 w5
  unfold bC_allRoom_16
  refine go_iload kk19_0.1.2.2.1.1 rfl ?_
  refine go_iload kk19_0.1.2.2.1.2 rfl ?_
  refine go_cmlt kk19_0.1.2.2.2 h4 h3 (fun c6 => ?_) (fun c7 => ?_)
  · refine go_aload kk19_0.2.1.1.1.1 rfl ?_
    refine go_iload kk19_0.2.1.1.1.2 rfl ?_
    refine go_ck (fun q9 => ?_)
    refine go_pald kk19_0.2.1.1.2.1 hg q9 (fun r8 => ?_)
    refine go_astore kk19_0.2.1.1.2.2 rfl (loc2 := [u0, some (sI v1), some (sR v2), some (sI v3), some (sI v4), some (sR (g v2 v4))]) rfl ?_
    refine go_iload kk19_0.2.1.2.1.1 rfl ?_
    refine go_aload kk19_0.2.1.2.1.2 rfl ?_
    refine go_ck (fun q10 => ?_)
    refine go_callP1 kk19_0.2.1.2.2 rfl rfl rfl ⟨by decide, _, rfl, q10⟩ ⟨Nat.zero_le _, Nat.zero_le _⟩ (by omega) (tfP_room (by omega) hg q10 ) (fun y11 r12 => ?_)
    refine go_iadd kk19_0.2.2.1.1.1 ?_
    refine go_istore kk19_0.2.2.1.1.2 w0 (loc2 := [u0, some (sI (w32 (v1 + y11))), some (sR v2), some (sI v3), some (sI v4), some (sR (g v2 v4))]) rfl ?_
    refine go_iinc kk19_0.2.2.1.2 rfl rfl 1 rfl (loc2 := [u0, some (sI (w32 (v1 + y11))), some (sR v2), some (sI v3), some (sI (w32 (v4 + 1))), some (sR (g v2 v4))]) rfl ?_
    refine go_goto kk19_0.2.2.2.1.1 ?_
    exact HX16 (w32 (v1 + y11)) (inR_w32 _) (w32 (v4 + 1)) (inR_w32 _) u0 w0 (some (sR (g v2 v4))) rfl
  · refine go_iload kk19_0.2.2.2.1.2 rfl ?_
    exact go_iret kk19_0.2.2.2.2 hg h1 ⟨Nat.zero_le _, Nat.zero_le _⟩ rfl
theorem tlC_allRoom_16 {Φ : ev_P} {d : Nat} (hd : 1 ≤ d) {g : gH} (hg : HR g) {v2 v3 : Int} (h2 : RfR v2) (h3 : InR v3) : ∀ n : Nat, ∀ (v1 : Int) (h1 : InR v1) (v4 : Int) (h4 : InR v4) (u0 : Option ev_V) (w0 : nwo u0) (u5 : Option ev_V) (w5 : nwo u5), Go Φ pr_P (fP g) 1 (lC_allRoom_16 g v2 v3 n v1 v4) d pr_m19 16 [u0, some (sI v1), some (sR v2), some (sI v3), some (sI v4), u5] [] g 0 0 := by
  intro n
  induction n with
  | zero => intros; exact go_none
  | succ n ih => exact tbC_allRoom_16 hd hg h2 h3 ih
theorem tfC_allRoom {Φ : ev_P} {d : Nat} (hd : 1 ≤ d) {g : gH} (hg : HR g) {v0 : Int} (hK0 : kd v0 = 6) : Go Φ pr_P (fP g) 1 (fC_allRoom g v0) d (pr_P 19) 0 (ev_loc (pr_P 19).1 [(sR v0)]) [] g 0 0 := by
  show Go Φ pr_P (fP g) 1 (fC_allRoom g v0) d pr_m19 0 [some (sR v0), none, none, none, none, none] [] g 0 0
  unfold fC_allRoom
  refine go_int kk19_0.1.1.1.1.1 0 rfl ?_
  refine go_istore kk19_0.1.1.1.1.2 rfl (loc2 := [some (sR v0), some (sI 0), none, none, none, none]) rfl ?_
  refine go_aload kk19_0.1.1.1.2.1 rfl ?_
  refine go_getR (bI := 0) kk19_0.1.1.1.2.2 hg hK0 (by decide) rfl rfl (fun r1 => ?_)
  refine go_ck (fun q2 => ?_)
  refine go_getR (bI := 1) kk19_0.1.1.2.1.1 hg q2 (by decide) rfl rfl (fun r3 => ?_)
  refine go_astore kk19_0.1.1.2.1.2 rfl (loc2 := [some (sR v0), some (sI 0), some (sR (g (g v0 0) 1)), none, none, none]) rfl ?_
  refine go_aload kk19_0.1.1.2.2 rfl ?_
  refine go_ck (fun q5 => ?_)
  refine go_alen kk19_0.1.2.1.1.1 (ka_24 q5) r3 (fun r4 => ?_)
  refine go_istore kk19_0.1.2.1.1.2 rfl (loc2 := [some (sR v0), some (sI 0), some (sR (g (g v0 0) 1)), some (sI (sz (g (g v0 0) 1))), none, none]) rfl ?_
  refine go_int kk19_0.1.2.1.2.1 0 rfl ?_
  refine go_istore kk19_0.1.2.1.2.2 rfl (loc2 := [some (sR v0), some (sI 0), some (sR (g (g v0 0) 1)), some (sI (sz (g (g v0 0) 1))), some (sI 0), none]) rfl ?_
  exact tlC_allRoom_16 hd hg r3 r4 fu 0 (inR_b (Or.inl rfl)) 0 (inR_b (Or.inl rfl)) (some (sR v0)) rfl none rfl
theorem tfC_readAll {Φ : ev_P} {d : Nat} (hd : 3 ≤ d) {g : gH} (hg : HR g) {v0 v1 : Int} (hK0 : kd v0 = 6) (h1 : InR v1) : Go Φ pr_P fT 1 (fC_readAll g v0 v1) d (pr_P 20) 0 (ev_loc (pr_P 20).1 [(sR v0), (sI v1)]) [] g 0 0 := by
  show Go Φ pr_P fT 1 (fC_readAll g v0 v1) d pr_m20 0 [some (sR v0), some (sI v1), none] [] g 0 0
  unfold fC_readAll
  refine go_aload kk20_0.1.1.1.1.1 rfl ?_
  refine go_iload kk20_0.1.1.1.1.2 rfl ?_
  refine go_callQ2 kk20_0.1.1.1.2 rfl rfl rfl ⟨by decide, _, rfl, hK0⟩ ⟨Nat.zero_le _, Nat.zero_le _⟩ (by omega) (tfC_named (by omega) hg hK0  h1) (fun y1 r2 => ?_) ge_qt
  refine go_astore kk20_0.1.1.2.1 rfl (loc2 := [some (sR v0), some (sI v1), some (sR y1)]) rfl ?_
  refine go_aload kk20_0.1.1.2.2 rfl ?_
  refine go_ck (fun q7 => ?_)
  refine go_callP3 kk20_0.1.2.1.1 rfl rfl rfl ⟨by decide, _, rfl, q7⟩ ⟨Nat.zero_le _, Nat.zero_le _⟩ (by omega) (tfP_isRunning (by omega) hg q7 ) (fun y8 r9 => ?_)
  refine go_callQ0 kk20_0.1.2.1.2 rfl rfl rfl trivial ⟨Nat.zero_le _, Nat.zero_le _⟩ (by omega) (tfC_checkState (by omega) hg  r9) (fun y12 => ?_) ge_qt
  refine go_aload kk20_0.1.2.2.1 rfl ?_
  refine go_getR (bI := 3) kk20_0.1.2.2.2 hg hK0 (by decide) rfl rfl (fun r18 => ?_)
  refine go_aload kk20_0.2.1.1.1 rfl ?_
  refine go_getR (bI := 0) kk20_0.2.1.1.2 hg hK0 (by decide) rfl rfl (fun r19 => ?_)
  refine go_ck (fun q20 => ?_)
  refine go_callN0 kk20_0.2.1.2.1 rfl rfl rfl ⟨by decide, _, rfl, q20⟩ ⟨Nat.zero_le _, Nat.zero_le _⟩ (by omega) (tfH_push (by omega) hg q20  r19) (fun y21 g23 e24 => ?_)
  refine go_aload kk20_0.2.1.2.2 rfl ?_
  refine go_getR (bI := 0) kk20_0.2.2.1.1 e24 hK0 (by decide) rfl rfl (fun r25 => ?_)
  refine go_aload kk20_0.2.2.1.2 rfl ?_
  refine go_ck (fun q26 => ?_)
  refine go_callN1 kk20_0.2.2.2.1 rfl rfl rfl ⟨by decide, _, rfl, q26⟩ ⟨Nat.zero_le _, Nat.zero_le _⟩ (by omega) (tfT_readZombiesOf (by omega) e24 q26  r2) (fun y27 g29 r28 e30 => ?_)
  exact go_iret kk20_0.2.2.2.2 e30 r28 ⟨Nat.zero_le _, Nat.zero_le _⟩ rfl
theorem tbT_loseSurplus_5 {Φ : ev_P} {d : Nat} (hd : 4 ≤ d) {v0 v1 : Int} (hK0 : kd v0 = 5) (h1 : RfR v1) {X5 : Int → Int → gH → Option (Int × gH)} (HX5 : ∀ (v2 : Int) (h2 : InR v2) (v3 : Int) (h3 : InR v3) (g : gH) (hg : HR g), Go Φ pr_P fN 1 (X5 v2 v3 g) d pr_m96 5 [some (sR v0), some (sR v1), some (sI v2), some (sI v3)] [] g 0 0) : ∀ (v2 : Int) (h2 : InR v2) (v3 : Int) (h3 : InR v3) (g : gH) (hg : HR g), Go Φ pr_P fN 1 (bT_loseSurplus_5 v0 v1 X5 v2 v3 g) d pr_m96 5 [some (sR v0), some (sR v1), some (sI v2), some (sI v3)] [] g 0 0 := by
  intro v2 h2 v3 h3 g hg
  unfold bT_loseSurplus_5
  refine go_iload kk96_0.1.1.1.2.2 rfl ?_
  refine go_iflt kk96_0.1.1.2.1.1 h3 (fun c1 => ?_) (fun c2 => ?_)
  · refine go_iload kk96_0.2.2.2.2.1 rfl ?_
    exact go_iret kk96_0.2.2.2.2.2 hg h2 ⟨Nat.zero_le _, Nat.zero_le _⟩ rfl
  · refine go_aload kk96_0.1.1.2.1.2 rfl ?_
    refine go_ck (fun q3 => ?_)
    refine go_getI (bI := 3) kk96_0.1.1.2.2.1 hg q3 (by decide) rfl rfl (fun r4 => ?_)
    refine go_aload kk96_0.1.1.2.2.2 rfl ?_
    refine go_getI (bI := 4) kk96_0.1.2.1.1.1.1 hg q3 (by decide) rfl rfl (fun r5 => ?_)
    refine go_cmgt kk96_0.1.2.1.1.1.2 r4 r5 (fun c6 => ?_) (fun c7 => ?_)
    · refine go_aload kk96_0.1.2.1.1.2 rfl ?_
      refine go_getR (bI := 1) kk96_0.1.2.1.2.1 hg hK0 (by decide) rfl rfl (fun r8 => ?_)
      refine go_iload kk96_0.1.2.1.2.2 rfl ?_
      refine go_ck (fun q10 => ?_)
      refine go_pald kk96_0.1.2.2.1.1 hg q10 (fun r9 => ?_)
      refine go_aload kk96_0.1.2.2.1.2 rfl ?_
      refine go_ck (fun q11 => ?_)
      refine go_callP3 kk96_0.1.2.2.2.1 rfl rfl rfl ⟨by decide, _, rfl, q11⟩ ⟨Nat.zero_le _, Nat.zero_le _⟩ (by omega) (tfP_isRunningChildOf (by omega) hg q11  h1) (fun y12 r13 => ?_)
      refine go_ifeq kk96_0.1.2.2.2.2 (inR_b r13) (fun c16 => ?_) (fun c17 => ?_)
      · refine go_iinc kk96_0.2.2.2.1.1 rfl rfl (-1) rfl (loc2 := [some (sR v0), some (sR v1), some (sI v2), some (sI (w32 (v3 + (-1))))]) rfl ?_
        refine go_goto kk96_0.2.2.2.1.2 ?_
        exact HX5 v2 h2 (w32 (v3 + (-1))) (inR_w32 _) g hg
      · refine go_aload kk96_0.2.1.1.1.1.1 rfl ?_
        refine go_aload kk96_0.2.1.1.1.1.2 rfl ?_
        refine go_getR (bI := 1) kk96_0.2.1.1.1.2 hg hK0 (by decide) rfl rfl (fun r18 => ?_)
        refine go_iload kk96_0.2.1.1.2.1 rfl ?_
        refine go_ck (fun q20 => ?_)
        refine go_pald kk96_0.2.1.1.2.2 hg q20 (fun r19 => ?_)
        refine go_aload kk96_0.2.1.2.1.1 rfl ?_
        refine go_aload kk96_0.2.1.2.1.2 rfl ?_
        refine go_getR (bI := 1) kk96_0.2.1.2.2.1 hg hK0 (by decide) rfl rfl (fun r21 => ?_)
        refine go_iload kk96_0.2.1.2.2.2 rfl ?_
        refine go_ck (fun q23 => ?_)
        refine go_pald kk96_0.2.2.1.1.1 hg q23 (fun r22 => ?_)
        refine go_callP2 kk96_0.2.2.1.1.2 rfl rfl rfl ⟨by decide, _, rfl, hK0⟩ ⟨Nat.zero_le _, Nat.zero_le _⟩ (by omega) (tfT_adopterOf (by omega) hg hK0  r22) (fun y24 r25 => ?_)
        refine go_callN0 kk96_0.2.2.1.2.1 rfl rfl rfl ⟨by decide, _, rfl, hK0⟩ ⟨Nat.zero_le _, Nat.zero_le _⟩ (by omega) (tfT_adopt (by omega) hg hK0  r19 r25) (fun y28 g30 e31 => ?_)
        refine go_iinc kk96_0.2.2.1.2.2 rfl rfl 1 rfl (loc2 := [some (sR v0), some (sR v1), some (sI (w32 (v2 + 1))), some (sI v3)]) rfl ?_
        refine go_iinc kk96_0.2.2.2.1.1 rfl rfl (-1) rfl (loc2 := [some (sR v0), some (sR v1), some (sI (w32 (v2 + 1))), some (sI (w32 (v3 + (-1))))]) rfl ?_
        refine go_goto kk96_0.2.2.2.1.2 ?_
        exact HX5 (w32 (v2 + 1)) (inR_w32 _) (w32 (v3 + (-1))) (inR_w32 _) g30 e31
    · refine go_iinc kk96_0.2.2.2.1.1 rfl rfl (-1) rfl (loc2 := [some (sR v0), some (sR v1), some (sI v2), some (sI (w32 (v3 + (-1))))]) rfl ?_
      refine go_goto kk96_0.2.2.2.1.2 ?_
      exact HX5 v2 h2 (w32 (v3 + (-1))) (inR_w32 _) g hg
theorem tlT_loseSurplus_5 {Φ : ev_P} {d : Nat} (hd : 4 ≤ d) {v0 v1 : Int} (hK0 : kd v0 = 5) (h1 : RfR v1) : ∀ n : Nat, ∀ (v2 : Int) (h2 : InR v2) (v3 : Int) (h3 : InR v3) (g : gH) (hg : HR g), Go Φ pr_P fN 1 (lT_loseSurplus_5 v0 v1 n v2 v3 g) d pr_m96 5 [some (sR v0), some (sR v1), some (sI v2), some (sI v3)] [] g 0 0 := by
  intro n
  induction n with
  | zero => intros; exact go_none
  | succ n ih => exact tbT_loseSurplus_5 hd hK0 h1 ih
theorem tfT_loseSurplus {Φ : ev_P} {d : Nat} (hd : 4 ≤ d) {g : gH} (hg : HR g) {v0 v1 : Int} (hK0 : kd v0 = 5) (h1 : RfR v1) : Go Φ pr_P fN 1 (fT_loseSurplus g v0 v1) d (pr_P 96) 0 (ev_loc (pr_P 96).1 [(sR v0), (sR v1)]) [] g 0 0 := by
  show Go Φ pr_P fN 1 (fT_loseSurplus g v0 v1) d pr_m96 0 [some (sR v0), some (sR v1), none, none] [] g 0 0
  unfold fT_loseSurplus
  refine go_int kk96_0.1.1.1.1.1.1 0 rfl ?_
  refine go_istore kk96_0.1.1.1.1.1.2 rfl (loc2 := [some (sR v0), some (sR v1), some (sI 0), none]) rfl ?_
  refine go_int kk96_0.1.1.1.1.2 39 rfl ?_
  refine go_istore kk96_0.1.1.1.2.1 rfl (loc2 := [some (sR v0), some (sR v1), some (sI 0), some (sI 39)]) rfl ?_
  exact tlT_loseSurplus_5 hd hK0 h1 fu 0 (inR_b (Or.inl rfl)) 39 (inR_of (by decide)) g hg
theorem tfC_relieve {Φ : ev_P} {d : Nat} (hd : 5 ≤ d) {g : gH} (hg : HR g) {v0 v1 : Int} (hK0 : kd v0 = 6) (h1 : InR v1) : Go Φ pr_P fT 1 (fC_relieve g v0 v1) d (pr_P 21) 0 (ev_loc (pr_P 21).1 [(sR v0), (sI v1)]) [] g 0 0 := by
  show Go Φ pr_P fT 1 (fC_relieve g v0 v1) d pr_m21 0 [some (sR v0), some (sI v1), none] [] g 0 0
  unfold fC_relieve
  refine go_aload kk21_0.1.1.1.1.1 rfl ?_
  refine go_iload kk21_0.1.1.1.1.2 rfl ?_
  refine go_callQ2 kk21_0.1.1.1.2 rfl rfl rfl ⟨by decide, _, rfl, hK0⟩ ⟨Nat.zero_le _, Nat.zero_le _⟩ (by omega) (tfC_named (by omega) hg hK0  h1) (fun y1 r2 => ?_) ge_qt
  refine go_astore kk21_0.1.1.2.1 rfl (loc2 := [some (sR v0), some (sI v1), some (sR y1)]) rfl ?_
  refine go_aload kk21_0.1.1.2.2 rfl ?_
  refine go_ck (fun q7 => ?_)
  refine go_callP3 kk21_0.1.2.1.1 rfl rfl rfl ⟨by decide, _, rfl, q7⟩ ⟨Nat.zero_le _, Nat.zero_le _⟩ (by omega) (tfP_isMortal (by omega) hg q7 ) (fun y8 r9 => ?_)
  refine go_callQ0 kk21_0.1.2.1.2 rfl rfl rfl trivial ⟨Nat.zero_le _, Nat.zero_le _⟩ (by omega) (tfC_checkState (by omega) hg  r9) (fun y12 => ?_) ge_qt
  refine go_aload kk21_0.1.2.2.1 rfl ?_
  refine go_getR (bI := 3) kk21_0.1.2.2.2 hg hK0 (by decide) rfl rfl (fun r18 => ?_)
  refine go_aload kk21_0.2.1.1.1 rfl ?_
  refine go_getR (bI := 0) kk21_0.2.1.1.2 hg hK0 (by decide) rfl rfl (fun r19 => ?_)
  refine go_ck (fun q20 => ?_)
  refine go_callN0 kk21_0.2.1.2.1 rfl rfl rfl ⟨by decide, _, rfl, q20⟩ ⟨Nat.zero_le _, Nat.zero_le _⟩ (by omega) (tfH_push (by omega) hg q20  r19) (fun y21 g23 e24 => ?_)
  refine go_aload kk21_0.2.1.2.2 rfl ?_
  refine go_getR (bI := 0) kk21_0.2.2.1.1 e24 hK0 (by decide) rfl rfl (fun r25 => ?_)
  refine go_aload kk21_0.2.2.1.2 rfl ?_
  refine go_ck (fun q26 => ?_)
  refine go_callN1 kk21_0.2.2.2.1 rfl rfl rfl ⟨by decide, _, rfl, q26⟩ ⟨Nat.zero_le _, Nat.zero_le _⟩ (by omega) (tfT_loseSurplus (by omega) e24 q26  r2) (fun y27 g29 r28 e30 => ?_)
  exact go_iret kk21_0.2.2.2.2 e30 r28 ⟨Nat.zero_le _, Nat.zero_le _⟩ rfl
