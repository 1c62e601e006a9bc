/-! ===== the evaluator comes to what the functions tell (own work, by program: wip/p2/dec.py) ===== -/
theorem tfC_relieve {Φ : ev_P} {d : Nat} (hd : 5 ≤ d) {g : gH} (hg : HR g) {v0 v1 : Int} (hK0 : kd v0 = 6) (h1 : InR v1) : Go Φ pr_P fT 1 (fC_relieve g v0 v1) d (pr_P 54) 0 (ev_loc (pr_P 54).1 [(sR v0), (sI v1)]) [] g 0 0 := by
  show Go Φ pr_P fT 1 (fC_relieve g v0 v1) d pr_m54 0 [some (sR v0), some (sI v1), none] [] g 0 0
  unfold fC_relieve
  refine go_aload k54_0 rfl ?_
  refine go_iload k54_1 rfl ?_
  refine go_callQ2 k54_2 rfl rfl rfl ⟨by decide, _, rfl, hK0⟩ ⟨by decide, by decide⟩ (by omega) (tfC_named (by omega) hg hK0  h1) (fun y1 r2 => ?_) (fun e5 E6 => ge_prop rfl ⟨by decide, by decide⟩ e5 rfl)
  refine go_astore k54_5 rfl (loc2 := [some (sR v0), some (sI v1), some (sR y1)]) rfl ?_
  refine go_aload k54_6 rfl ?_
  refine go_ck (fun q7 => ?_)
  refine go_callP3 k54_7 rfl rfl rfl ⟨by decide, _, rfl, q7⟩ ⟨by decide, by decide⟩ (by omega) (tfP_isMortal (by omega) hg q7 ) (fun y8 r9 => ?_)
  refine go_callQ0 k54_10 rfl rfl rfl trivial ⟨by decide, by decide⟩ (by omega) (tfC_checkState (by omega) hg  r9) (fun y12 => ?_) (fun e16 E17 => ge_prop rfl ⟨by decide, by decide⟩ e16 rfl)
  refine go_aload k54_13 rfl ?_
  refine go_getR (bI := 3) k54_14 hg hK0 (by decide) rfl rfl (fun r18 => ?_)
  refine go_aload k54_17 rfl ?_
  refine go_getR (bI := 0) k54_18 hg hK0 (by decide) rfl rfl (fun r19 => ?_)
  refine go_ck (fun q20 => ?_)
  refine go_callN0 k54_21 rfl rfl rfl ⟨by decide, _, rfl, q20⟩ ⟨by decide, by decide⟩ (by omega) (tfH_push (by omega) hg q20  r19) (fun y21 g23 e24 => ?_)
  refine go_aload k54_24 rfl ?_
  refine go_getR (bI := 0) k54_25 e24 hK0 (by decide) rfl rfl (fun r25 => ?_)
  refine go_aload k54_28 rfl ?_
  refine go_ck (fun q26 => ?_)
  refine go_callN1 k54_29 rfl rfl rfl ⟨by decide, _, rfl, q26⟩ ⟨by decide, by decide⟩ (by omega) (tfT_loseSurplus (by omega) e24 q26  r2) (fun y27 g29 r28 e30 => ?_)
  exact go_iret k54_32 e30 r28 ⟨by decide, by decide⟩ rfl
theorem tfW_relieve {Φ : ev_P} {d : Nat} (hd : 6 ≤ d) {g : gH} (hg : HR g) {v0 v1 v2 : Int} (h0 : RfR v0) (h1 : InR v1) (h2 : RfR v2) : Go Φ pr_P fN 1 (fW_relieve g v0 v1 v2) d (pr_P 344) 0 (ev_loc (pr_P 344).1 [(sR v0), (sI v1), (sR v2)]) [] g 0 0 := by
  show Go Φ pr_P fN 1 (fW_relieve g v0 v1 v2) d pr_m344 0 [some (sR v0), some (sI v1), some (sR v2), none] [] g 0 0
  unfold fW_relieve
  refine go_aload k344_0 rfl ?_
  refine go_int k344_1 0 rfl ?_
  refine go_aload k344_2 rfl ?_
  refine go_iload k344_3 rfl ?_
  refine go_ck (fun q1 => ?_)
  refine go_callT1 k344_4 rfl rfl rfl ⟨by decide, _, rfl, q1⟩ ⟨by decide, by decide⟩ (by omega) (tfC_relieve (by omega) hg q1  h1) (fun y2 g4 r3 e5 => ?_) (fun E7 g4 e6 => ?_)
  · refine go_i2l k344_7 r3 ?_
    refine go_ck (fun q8 => ?_)
    refine go_last k344_8 e5 q8 (inL_R r3) (fun g9 e10 => ?_)
    refine go_goto k344_9 ?_
    refine go_int k344_18 0 rfl ?_
    exact go_iret k344_19 e10 (inR_b (Or.inl rfl)) ⟨by decide, by decide⟩ rfl
  · refine ge_ite (fun hE9 => ?_) (fun _ => ?_)
    · subst hE9
      refine ge_catch rfl k344_12 rfl (loc2 := [some (sR v0), some (sI v1), some (sR v2), none]) rfl ?_
      refine go_int k344_13 1 rfl ?_
      exact go_iret k344_14 e6 (inR_b (Or.inr rfl)) ⟨by decide, by decide⟩ rfl
    refine ge_ite (fun hE9 => ?_) (fun _ => ?_)
    · subst hE9
      refine ge_catch rfl k344_15 rfl (loc2 := [some (sR v0), some (sI v1), some (sR v2), none]) rfl ?_
      refine go_int k344_16 2 rfl ?_
      exact go_iret k344_17 e6 (inR_of (by decide)) ⟨by decide, by decide⟩ rfl
    exact ge_none
theorem tfC_wouldHold {Φ : ev_P} {d : Nat} (hd : 6 ≤ d) {g : gH} (hg : HR g) {v0 v1 v2 v3 : Int} (hK0 : kd v0 = 6) (h1 : InR v1) (h2 : InR v2) (h3 : InR v3) : Go Φ pr_P fT 1 (fC_wouldHold g v0 v1 v2 v3) d (pr_P 55) 0 (ev_loc (pr_P 55).1 [(sR v0), (sI v1), (sI v2), (sI v3)]) [] g 0 0 := by
  show Go Φ pr_P fT 1 (fC_wouldHold g v0 v1 v2 v3) d pr_m55 0 [some (sR v0), some (sI v1), some (sI v2), some (sI v3)] [] g 0 0
  unfold fC_wouldHold
  refine go_aload k55_0 rfl ?_
  refine go_iload k55_1 rfl ?_
  refine go_callQ2 k55_2 rfl rfl rfl ⟨by decide, _, rfl, hK0⟩ ⟨by decide, by decide⟩ (by omega) (tfC_named (by omega) hg hK0  h2) (fun y1 r2 => ?_) (fun e5 E6 => ge_prop rfl ⟨by decide, by decide⟩ e5 rfl)
  refine go_popR k55_5 ?_
  refine go_iload k55_6 rfl ?_
  refine go_int k55_7 7 rfl ?_
  refine go_callQ0 k55_9 rfl rfl rfl trivial ⟨by decide, by decide⟩ (by omega) (tfC_checkRange (by omega) hg  h1 (inR_of (by decide))) (fun y7 => ?_) (fun e11 E12 => ge_prop rfl ⟨by decide, by decide⟩ e11 rfl)
  refine go_aload k55_12 rfl ?_
  refine go_iload k55_13 rfl ?_
  refine go_iload k55_14 rfl ?_
  refine go_callQ2 k55_15 rfl rfl rfl ⟨by decide, _, rfl, hK0⟩ ⟨by decide, by decide⟩ (by omega) (tfC_namedForExit (by omega) hg hK0  h2 h3) (fun y13 r14 => ?_) (fun e17 E18 => ge_prop rfl ⟨by decide, by decide⟩ e17 rfl)
  refine go_popR k55_18 ?_
  refine go_aload k55_19 rfl ?_
  refine go_iload k55_20 rfl ?_
  refine go_iload k55_21 rfl ?_
  refine go_callN1 k55_22 rfl rfl rfl ⟨by decide, _, rfl, hK0⟩ ⟨by decide, by decide⟩ (by omega) (tfC_exitOfCopy (by omega) hg hK0  h2 h3) (fun y19 g21 r20 e22 => ?_)
  refine go_popI k55_25 ?_
  refine go_aload k55_26 rfl ?_
  refine go_getR (bI := 1) k55_27 e22 hK0 (by decide) rfl rfl (fun r23 => ?_)
  refine go_iload k55_30 rfl ?_
  refine go_ck (fun q24 => ?_)
  refine go_callP2 k55_31 rfl rfl rfl ⟨by decide, _, rfl, q24⟩ ⟨by decide, by decide⟩ (by omega) (tfT_holderOf (by omega) e22 q24  h1) (fun y25 r26 => ?_)
  refine go_ck (fun q29 => ?_)
  refine go_getI (bI := 0) k55_34 e22 q29 (by decide) rfl rfl (fun r30 => ?_)
  exact go_iret k55_37 e22 r30 ⟨by decide, by decide⟩ rfl
theorem tfW_wouldHold {Φ : ev_P} {d : Nat} (hd : 7 ≤ d) {g : gH} (hg : HR g) {v0 v1 v2 v3 v4 : Int} (h0 : RfR v0) (h1 : InR v1) (h2 : InR v2) (h3 : InR v3) (h4 : RfR v4) : Go Φ pr_P fN 1 (fW_wouldHold g v0 v1 v2 v3 v4) d (pr_P 345) 0 (ev_loc (pr_P 345).1 [(sR v0), (sI v1), (sI v2), (sI v3), (sR v4)]) [] g 0 0 := by
  show Go Φ pr_P fN 1 (fW_wouldHold g v0 v1 v2 v3 v4) d pr_m345 0 [some (sR v0), some (sI v1), some (sI v2), some (sI v3), some (sR v4), none] [] g 0 0
  unfold fW_wouldHold
  refine go_aload k345_0 rfl ?_
  refine go_int k345_2 0 rfl ?_
  refine go_aload k345_3 rfl ?_
  refine go_iload k345_4 rfl ?_
  refine go_iload k345_5 rfl ?_
  refine go_iload k345_6 rfl ?_
  refine go_ck (fun q1 => ?_)
  refine go_callT1 k345_7 rfl rfl rfl ⟨by decide, _, rfl, q1⟩ ⟨by decide, by decide⟩ (by omega) (tfC_wouldHold (by omega) hg q1  h1 h2 h3) (fun y2 g4 r3 e5 => ?_) (fun E7 g4 e6 => ?_)
  · refine go_i2l k345_10 r3 ?_
    refine go_ck (fun q8 => ?_)
    refine go_last k345_11 e5 q8 (inL_R r3) (fun g9 e10 => ?_)
    refine go_goto k345_12 ?_
    refine go_int k345_27 0 rfl ?_
    exact go_iret k345_28 e10 (inR_b (Or.inl rfl)) ⟨by decide, by decide⟩ rfl
  · refine ge_ite (fun hE9 => ?_) (fun _ => ?_)
    · subst hE9
      refine ge_catch rfl k345_15 rfl (loc2 := [some (sR v0), some (sI v1), some (sI v2), some (sI v3), some (sR v4), none]) rfl ?_
      refine go_int k345_17 1 rfl ?_
      exact go_iret k345_18 e6 (inR_b (Or.inr rfl)) ⟨by decide, by decide⟩ rfl
    refine ge_ite (fun hE9 => ?_) (fun _ => ?_)
    · subst hE9
      refine ge_catch rfl k345_19 rfl (loc2 := [some (sR v0), some (sI v1), some (sI v2), some (sI v3), some (sR v4), none]) rfl ?_
      refine go_int k345_21 2 rfl ?_
      exact go_iret k345_22 e6 (inR_of (by decide)) ⟨by decide, by decide⟩ rfl
    refine ge_ite (fun hE9 => ?_) (fun _ => ?_)
    · subst hE9
      refine ge_catch rfl k345_23 rfl (loc2 := [some (sR v0), some (sI v1), some (sI v2), some (sI v3), some (sR v4), none]) rfl ?_
      refine go_int k345_25 3 rfl ?_
      exact go_iret k345_26 e6 (inR_of (by decide)) ⟨by decide, by decide⟩ rfl
    exact ge_none
theorem tbC_dutyLife_19 {Φ : ev_P} {d : Nat} (hd : 5 ≤ d) {v0 v1 : Int} (hK0 : kd v0 = 6) (h1 : InR v1) {X19 : Int → gH → Option (Nat × (Int × gH))} (HX19 : ∀ (v2 : Int) (h2 : InR v2) (g : gH) (hg : HR g), Go Φ pr_P fT 1 (X19 v2 g) d pr_m56 19 [some (sR v0), some (sI v1), some (sI v2)] [] g 1 6) : ∀ (v2 : Int) (h2 : InR v2) (g : gH) (hg : HR g), Go Φ pr_P fT 1 (bC_dutyLife_19 v0 v1 X19 v2 g) d pr_m56 19 [some (sR v0), some (sI v1), some (sI v2)] [] g 1 6 := by
  intro v2 h2 g hg
  unfold bC_dutyLife_19
  refine go_iload k56_19 rfl ?_
  refine go_int k56_20 40 rfl ?_
  refine go_cmlt k56_22 h2 (inR_of (by decide)) (fun c14 => ?_) (fun c15 => ?_)
  · refine go_aload k56_25 rfl ?_
    refine go_getR (bI := 1) k56_26 hg hK0 (by decide) rfl rfl (fun r16 => ?_)
    refine go_iload k56_29 rfl ?_
    refine go_ck (fun q17 => ?_)
    refine go_callP2 k56_30 rfl rfl rfl ⟨by decide, _, rfl, q17⟩ ⟨by decide, by decide⟩ (by omega) (tfT_holderOf (by omega) hg q17  h1) (fun y18 r19 => ?_)
    refine go_aload k56_33 rfl ?_
    refine go_getR (bI := 1) k56_34 hg hK0 (by decide) rfl rfl (fun r22 => ?_)
    refine go_getR (bI := 0) k56_37 hg q17 (by decide) rfl rfl (fun r23 => ?_)
    refine go_acmp k56_40 r19 r23 (fun c24 => ?_) (fun c25 => ?_)
    · refine go_iload k56_66 rfl ?_
      exact go_iret k56_67 hg h2 ⟨by decide, by decide⟩ rfl
    · refine go_aload k56_43 rfl ?_
      refine go_getR (bI := 1) k56_44 hg hK0 (by decide) rfl rfl (fun r26 => ?_)
      refine go_aload k56_47 rfl ?_
      refine go_getR (bI := 1) k56_48 hg hK0 (by decide) rfl rfl (fun r27 => ?_)
      refine go_iload k56_51 rfl ?_
      refine go_callP2 k56_52 rfl rfl rfl ⟨by decide, _, rfl, q17⟩ ⟨by decide, by decide⟩ (by omega) (tfT_holderOf (by omega) hg q17  h1) (fun y28 r29 => ?_)
      refine go_int k56_55 0 rfl ?_
      refine go_callN1 k56_56 rfl rfl rfl ⟨by decide, _, rfl, q17⟩ ⟨by decide, by decide⟩ (by omega) (tfT_letExit (by omega) hg q17  r29 (inR_b (Or.inl rfl))) (fun y32 g34 r33 e35 => ?_)
      refine go_popI k56_59 ?_
      refine go_iinc k56_60 rfl rfl 1 rfl (loc2 := [some (sR v0), some (sI v1), some (sI (w32 (v2 + 1)))]) rfl ?_
      refine go_goto k56_63 ?_
      exact HX19 (w32 (v2 + 1)) (inR_w32 _) g34 e35
  · refine go_iload k56_66 rfl ?_
    exact go_iret k56_67 hg h2 ⟨by decide, by decide⟩ rfl
theorem tlC_dutyLife_19 {Φ : ev_P} {d : Nat} (hd : 5 ≤ d) {v0 v1 : Int} (hK0 : kd v0 = 6) (h1 : InR v1) : ∀ n : Nat, ∀ (v2 : Int) (h2 : InR v2) (g : gH) (hg : HR g), Go Φ pr_P fT 1 (lC_dutyLife_19 v0 v1 n v2 g) d pr_m56 19 [some (sR v0), some (sI v1), some (sI v2)] [] g 1 6 := by
  intro n
  induction n with
  | zero => intros; exact go_none
  | succ n ih => exact tbC_dutyLife_19 hd hK0 h1 ih
theorem tfC_dutyLife {Φ : ev_P} {d : Nat} (hd : 5 ≤ d) {g : gH} (hg : HR g) {v0 v1 : Int} (hK0 : kd v0 = 6) (h1 : InR v1) : Go Φ pr_P fT 1 (fC_dutyLife g v0 v1) d (pr_P 56) 0 (ev_loc (pr_P 56).1 [(sR v0), (sI v1)]) [] g 0 0 := by
  show Go Φ pr_P fT 1 (fC_dutyLife g v0 v1) d pr_m56 0 [some (sR v0), some (sI v1), none] [] g 0 0
  unfold fC_dutyLife
  refine go_iload k56_0 rfl ?_
  refine go_int k56_1 7 rfl ?_
  refine go_callQ0 k56_3 rfl rfl rfl trivial ⟨by decide, by decide⟩ (by omega) (tfC_checkRange (by omega) hg  h1 (inR_of (by decide))) (fun y1 => ?_) (fun e5 E6 => ge_prop rfl ⟨by decide, by decide⟩ e5 rfl)
  refine go_aload k56_6 rfl ?_
  refine go_getR (bI := 1) k56_7 hg hK0 (by decide) rfl rfl (fun r7 => ?_)
  refine go_aload k56_10 rfl ?_
  refine go_getR (bI := 0) k56_11 hg hK0 (by decide) rfl rfl (fun r8 => ?_)
  refine go_ck (fun q9 => ?_)
  refine go_callN0 k56_14 rfl rfl rfl ⟨by decide, _, rfl, q9⟩ ⟨by decide, by decide⟩ (by omega) (tfT_take (by omega) hg q9  r8) (fun y10 g12 e13 => ?_)
  refine go_int k56_17 0 rfl ?_
  refine go_istore k56_18 rfl (loc2 := [some (sR v0), some (sI v1), some (sI 0)]) rfl ?_
  exact tlC_dutyLife_19 hd hK0 h1 fu 0 (inR_b (Or.inl rfl)) g12 e13
theorem tfW_dutyLife {Φ : ev_P} {d : Nat} (hd : 6 ≤ d) {g : gH} (hg : HR g) {v0 v1 v2 : Int} (h0 : RfR v0) (h1 : InR v1) (h2 : RfR v2) : Go Φ pr_P fN 1 (fW_dutyLife g v0 v1 v2) d (pr_P 346) 0 (ev_loc (pr_P 346).1 [(sR v0), (sI v1), (sR v2)]) [] g 0 0 := by
  show Go Φ pr_P fN 1 (fW_dutyLife g v0 v1 v2) d pr_m346 0 [some (sR v0), some (sI v1), some (sR v2), none] [] g 0 0
  unfold fW_dutyLife
  refine go_aload k346_0 rfl ?_
  refine go_int k346_1 0 rfl ?_
  refine go_aload k346_2 rfl ?_
  refine go_iload k346_3 rfl ?_
  refine go_ck (fun q1 => ?_)
  refine go_callT1 k346_4 rfl rfl rfl ⟨by decide, _, rfl, q1⟩ ⟨by decide, by decide⟩ (by omega) (tfC_dutyLife (by omega) hg q1  h1) (fun y2 g4 r3 e5 => ?_) (fun E7 g4 e6 => ?_)
  · refine go_i2l k346_7 r3 ?_
    refine go_ck (fun q8 => ?_)
    refine go_last k346_8 e5 q8 (inL_R r3) (fun g9 e10 => ?_)
    refine go_goto k346_9 ?_
    refine go_int k346_15 0 rfl ?_
    exact go_iret k346_16 e10 (inR_b (Or.inl rfl)) ⟨by decide, by decide⟩ rfl
  · refine ge_ite (fun hE9 => ?_) (fun _ => ?_)
    · subst hE9
      refine ge_catch rfl k346_12 rfl (loc2 := [some (sR v0), some (sI v1), some (sR v2), none]) rfl ?_
      refine go_int k346_13 1 rfl ?_
      exact go_iret k346_14 e6 (inR_b (Or.inr rfl)) ⟨by decide, by decide⟩ rfl
    exact ge_none
theorem tjC_heaviest_65 {Φ : ev_P} {d : Nat} (hd : 2 ≤ d) {X28 : Int → Int → Int → Option (Nat × Int)} {g : gH} (hg : HR g) {v0 v2 v3 v4 v5 v6 v7 v8 : Int} (hK0 : kd v0 = 6) (h2 : RfR v2) (h3 : InR v3) (h4 : InR v4) (h5 : RfR v5) (h6 : InR v6) (h7 : InR v7) (h8 : RfR v8) {s0 : Int} (z0 : InR s0) (HX28 : ∀ (v3 : Int) (h3 : InR v3) (v4 : Int) (h4 : InR v4) (v7 : Int) (h7 : InR v7) (u1 : Option ev_V) (w1 : nwo u1) (u8 : Option ev_V) (w8 : nwo u8) (u9 : Option ev_V) (w9 : nwo u9), Go Φ pr_P (fQ g) 1 (X28 v3 v4 v7) d pr_m57 28 [some (sR v0), u1, some (sR v2), some (sI v3), some (sI v4), some (sR v5), some (sI v6), some (sI v7), u8, u9] [] g 1 6) (u1 : Option ev_V) (w1 : nwo u1) (u9 : Option ev_V) (w9 : nwo u9) : Go Φ pr_P (fQ g) 1 (jC_heaviest_65 X28 g v0 v2 v3 v4 v5 v6 v7 v8 s0 ) d pr_m57 65 [some (sR v0), u1, some (sR v2), some (sI v3), some (sI v4), some (sR v5), some (sI v6), some (sI v7), some (sR v8), u9] [(sI s0)] g 1 6 := by
  unfold jC_heaviest_65
  refine go_istore k57_65 rfl (loc2 := [some (sR v0), u1, some (sR v2), some (sI v3), some (sI v4), some (sR v5), some (sI v6), some (sI v7), some (sR v8), some (sI s0)]) rfl ?_
  refine go_iload k57_67 rfl ?_
  refine go_iload k57_69 rfl ?_
  refine go_cmgt k57_71 z0 h4 (fun c29 => ?_) (fun c30 => ?_)
  · refine go_aload k57_74 rfl ?_
    refine go_ck (fun q31 => ?_)
    refine go_getI (bI := 0) k57_76 hg q31 (by decide) rfl rfl (fun r32 => ?_)
    refine go_istore k57_79 rfl (loc2 := [some (sR v0), u1, some (sR v2), some (sI (g v8 0)), some (sI v4), some (sR v5), some (sI v6), some (sI v7), some (sR v8), some (sI s0)]) rfl ?_
    refine go_iload k57_80 rfl ?_
    refine go_istore k57_82 rfl (loc2 := [some (sR v0), u1, some (sR v2), some (sI (g v8 0)), some (sI s0), some (sR v5), some (sI v6), some (sI v7), some (sR v8), some (sI s0)]) rfl ?_
    refine go_iinc k57_84 rfl rfl 1 rfl (loc2 := [some (sR v0), u1, some (sR v2), some (sI (g v8 0)), some (sI s0), some (sR v5), some (sI v6), some (sI (w32 (v7 + 1))), some (sR v8), some (sI s0)]) rfl ?_
    refine go_goto k57_87 ?_
    exact HX28 (g v8 0) r32 s0 z0 (w32 (v7 + 1)) (inR_w32 _) u1 w1 (some (sR v8)) rfl (some (sI s0)) rfl
  · refine go_iinc k57_84 rfl rfl 1 rfl (loc2 := [some (sR v0), u1, some (sR v2), some (sI v3), some (sI v4), some (sR v5), some (sI v6), some (sI (w32 (v7 + 1))), some (sR v8), some (sI s0)]) rfl ?_
    refine go_goto k57_87 ?_
    exact HX28 v3 h3 v4 h4 (w32 (v7 + 1)) (inR_w32 _) u1 w1 (some (sR v8)) rfl (some (sI s0)) rfl
theorem tbC_heaviest_28 {Φ : ev_P} {d : Nat} (hd : 2 ≤ d) {g : gH} (hg : HR g) {v0 v2 v5 v6 : Int} (hK0 : kd v0 = 6) (h2 : RfR v2) (h5 : RfR v5) (h6 : InR v6) {X28 : Int → Int → Int → Option (Nat × Int)} (HX28 : ∀ (v3 : Int) (h3 : InR v3) (v4 : Int) (h4 : InR v4) (v7 : Int) (h7 : InR v7) (u1 : Option ev_V) (w1 : nwo u1) (u8 : Option ev_V) (w8 : nwo u8) (u9 : Option ev_V) (w9 : nwo u9), Go Φ pr_P (fQ g) 1 (X28 v3 v4 v7) d pr_m57 28 [some (sR v0), u1, some (sR v2), some (sI v3), some (sI v4), some (sR v5), some (sI v6), some (sI v7), u8, u9] [] g 1 6) : ∀ (v3 : Int) (h3 : InR v3) (v4 : Int) (h4 : InR v4) (v7 : Int) (h7 : InR v7) (u1 : Option ev_V) (w1 : nwo u1) (u8 : Option ev_V) (w8 : nwo u8) (u9 : Option ev_V) (w9 : nwo u9), Go Φ pr_P (fQ g) 1 (bC_heaviest_28 g v0 v2 v5 v6 X28 v3 v4 v7) d pr_m57 28 [some (sR v0), u1, some (sR v2), some (sI v3), some (sI v4), some (sR v5), some (sI v6), some (sI v7), u8, u9] [] g 1 6 := by
  intro v3 h3 v4 h4 v7 h7 u1 w1 u8 w8 u9 w9
  unfold bC_heaviest_28
  refine go_iload k57_28 rfl ?_
  refine go_iload k57_30 rfl ?_
  refine go_cmlt k57_32 h7 h6 (fun c12 => ?_) (fun c13 => ?_)
  · refine go_aload k57_35 rfl ?_
    refine go_iload k57_37 rfl ?_
    refine go_ck (fun q15 => ?_)
    refine go_pald k57_39 hg q15 (fun r14 => ?_)
    refine go_astore k57_40 rfl (loc2 := [some (sR v0), u1, some (sR v2), some (sI v3), some (sI v4), some (sR v5), some (sI v6), some (sI v7), some (sR (g v5 v7)), u9]) rfl ?_
    refine go_aload k57_42 rfl ?_
    refine go_aload k57_44 rfl ?_
    refine go_ck (fun q16 => ?_)
    refine go_callP3 k57_45 rfl rfl rfl ⟨by decide, _, rfl, q16⟩ ⟨by decide, by decide⟩ (by omega) (tfP_isRunningChildOf (by omega) hg q16  h2) (fun y17 r18 => ?_)
    refine go_ifeq k57_48 (inR_b r18) (fun c21 => ?_) (fun c22 => ?_)
    · refine go_int k57_64 (-1) rfl ?_
      exact tjC_heaviest_65 hd hg hK0 h2 h3 h4 h5 h6 h7 r14 (inR_of (by decide)) HX28 u1 w1 u9 w9
    · refine go_aload k57_51 rfl ?_
      refine go_getR (bI := 0) k57_52 hg hK0 (by decide) rfl rfl (fun r23 => ?_)
      refine go_aload k57_55 rfl ?_
      refine go_int k57_57 0 rfl ?_
      refine go_ck (fun q24 => ?_)
      refine go_callP1 k57_58 rfl rfl rfl ⟨by decide, _, rfl, q24⟩ ⟨by decide, by decide⟩ (by omega) (tfT_countBelow (by omega) hg q24  r14 (inR_b (Or.inl rfl))) (fun y25 r26 => ?_)
      refine go_goto k57_61 ?_
      exact tjC_heaviest_65 hd hg hK0 h2 h3 h4 h5 h6 h7 r14 r26 HX28 u1 w1 u9 w9
  · refine go_iload k57_90 rfl ?_
    exact go_iret k57_91 hg h3 ⟨by decide, by decide⟩ rfl
theorem tlC_heaviest_28 {Φ : ev_P} {d : Nat} (hd : 2 ≤ d) {g : gH} (hg : HR g) {v0 v2 v5 v6 : Int} (hK0 : kd v0 = 6) (h2 : RfR v2) (h5 : RfR v5) (h6 : InR v6) : ∀ n : Nat, ∀ (v3 : Int) (h3 : InR v3) (v4 : Int) (h4 : InR v4) (v7 : Int) (h7 : InR v7) (u1 : Option ev_V) (w1 : nwo u1) (u8 : Option ev_V) (w8 : nwo u8) (u9 : Option ev_V) (w9 : nwo u9), Go Φ pr_P (fQ g) 1 (lC_heaviest_28 g v0 v2 v5 v6 n v3 v4 v7) d pr_m57 28 [some (sR v0), u1, some (sR v2), some (sI v3), some (sI v4), some (sR v5), some (sI v6), some (sI v7), u8, u9] [] g 1 6 := by
  intro n
  induction n with
  | zero => intros; exact go_none
  | succ n ih => exact tbC_heaviest_28 hd hg hK0 h2 h5 h6 ih
theorem tfC_heaviest {Φ : ev_P} {d : Nat} (hd : 2 ≤ d) {g : gH} (hg : HR g) {v0 v1 : Int} (hK0 : kd v0 = 6) (h1 : InR v1) : Go Φ pr_P (fQ g) 1 (fC_heaviest g v0 v1) d (pr_P 57) 0 (ev_loc (pr_P 57).1 [(sR v0), (sI v1)]) [] g 0 0 := by
  show Go Φ pr_P (fQ g) 1 (fC_heaviest g v0 v1) d pr_m57 0 [some (sR v0), some (sI v1), none, none, none, none, none, none, none, none] [] g 0 0
  unfold fC_heaviest
  refine go_aload k57_0 rfl ?_
  refine go_iload k57_1 rfl ?_
  refine go_callQ2 k57_2 rfl rfl rfl ⟨by decide, _, rfl, hK0⟩ ⟨by decide, by decide⟩ (by omega) (tfC_named (by omega) hg hK0  h1) (fun y1 r2 => ?_) (fun e5 E6 => ge_prop rfl ⟨by decide, by decide⟩ e5 rfl)
  refine go_astore k57_5 rfl (loc2 := [some (sR v0), some (sI v1), some (sR y1), none, none, none, none, none, none, none]) rfl ?_
  refine go_int k57_6 (-1) rfl ?_
  refine go_istore k57_7 rfl (loc2 := [some (sR v0), some (sI v1), some (sR y1), some (sI (-1)), none, none, none, none, none, none]) rfl ?_
  refine go_int k57_8 (-1) rfl ?_
  refine go_istore k57_9 rfl (loc2 := [some (sR v0), some (sI v1), some (sR y1), some (sI (-1)), some (sI (-1)), none, none, none, none, none]) rfl ?_
  refine go_aload k57_11 rfl ?_
  refine go_getR (bI := 0) k57_12 hg hK0 (by decide) rfl rfl (fun r7 => ?_)
  refine go_ck (fun q8 => ?_)
  refine go_getR (bI := 1) k57_15 hg q8 (by decide) rfl rfl (fun r9 => ?_)
  refine go_astore k57_18 rfl (loc2 := [some (sR v0), some (sI v1), some (sR y1), some (sI (-1)), some (sI (-1)), some (sR (g (g v0 0) 1)), none, none, none, none]) rfl ?_
  refine go_aload k57_20 rfl ?_
  refine go_ck (fun q11 => ?_)
  refine go_alen k57_22 (ka_24 q11) (fun r10 => ?_)
  refine go_istore k57_23 rfl (loc2 := [some (sR v0), some (sI v1), some (sR y1), some (sI (-1)), some (sI (-1)), some (sR (g (g v0 0) 1)), some (sI (sz (g (g v0 0) 1))), none, none, none]) rfl ?_
  refine go_int k57_25 0 rfl ?_
  refine go_istore k57_26 rfl (loc2 := [some (sR v0), some (sI v1), some (sR y1), some (sI (-1)), some (sI (-1)), some (sR (g (g v0 0) 1)), some (sI (sz (g (g v0 0) 1))), some (sI 0), none, none]) rfl ?_
  exact tlC_heaviest_28 hd hg hK0 r2 r9 r10 fu (-1) (inR_of (by decide)) (-1) (inR_of (by decide)) 0 (inR_b (Or.inl rfl)) (some (sI v1)) rfl none rfl none rfl
theorem tfW_heaviest {Φ : ev_P} {d : Nat} (hd : 3 ≤ d) {g : gH} (hg : HR g) {v0 v1 v2 : Int} (h0 : RfR v0) (h1 : InR v1) (h2 : RfR v2) : Go Φ pr_P fN 1 (fW_heaviest g v0 v1 v2) d (pr_P 347) 0 (ev_loc (pr_P 347).1 [(sR v0), (sI v1), (sR v2)]) [] g 0 0 := by
  show Go Φ pr_P fN 1 (fW_heaviest g v0 v1 v2) d pr_m347 0 [some (sR v0), some (sI v1), some (sR v2), none] [] g 0 0
  unfold fW_heaviest
  refine go_aload k347_0 rfl ?_
  refine go_int k347_1 0 rfl ?_
  refine go_aload k347_2 rfl ?_
  refine go_iload k347_3 rfl ?_
  refine go_ck (fun q1 => ?_)
  refine go_callQ1 k347_4 rfl rfl rfl ⟨by decide, _, rfl, q1⟩ ⟨by decide, by decide⟩ (by omega) (tfC_heaviest (by omega) hg q1  h1) (fun y2 r3 => ?_) (fun e6 E7 => ?_)
  · refine go_i2l k347_7 r3 ?_
    refine go_ck (fun q8 => ?_)
    refine go_last k347_8 hg q8 (inL_R r3) (fun g9 e10 => ?_)
    refine go_goto k347_9 ?_
    refine go_int k347_15 0 rfl ?_
    exact go_iret k347_16 e10 (inR_b (Or.inl rfl)) ⟨by decide, by decide⟩ rfl
  · refine ge_ite (fun hE9 => ?_) (fun _ => ?_)
    · subst hE9
      refine ge_catch rfl k347_12 rfl (loc2 := [some (sR v0), some (sI v1), some (sR v2), none]) rfl ?_
      refine go_int k347_13 1 rfl ?_
      exact go_iret k347_14 e6 (inR_b (Or.inr rfl)) ⟨by decide, by decide⟩ rfl
    exact ge_none
theorem tbC_groupsBelow_25 {Φ : ev_P} {d : Nat} (hd : 2 ≤ d) {g : gH} (hg : HR g) {v2 v4 v5 : Int} (h2 : RfR v2) (h4 : RfR v4) (h5 : InR v5) {X25 : Int → Int → Option (Nat × Int)} (HX25 : ∀ (v3 : Int) (h3 : InR v3) (v6 : Int) (h6 : InR v6) (u0 : Option ev_V) (w0 : nwo u0) (u1 : Option ev_V) (w1 : nwo u1) (u7 : Option ev_V) (w7 : nwo u7), Go Φ pr_P (fQ g) 1 (X25 v3 v6) d pr_m58 25 [u0, u1, some (sR v2), some (sI v3), some (sR v4), some (sI v5), some (sI v6), u7] [] g 1 6) : ∀ (v3 : Int) (h3 : InR v3) (v6 : Int) (h6 : InR v6) (u0 : Option ev_V) (w0 : nwo u0) (u1 : Option ev_V) (w1 : nwo u1) (u7 : Option ev_V) (w7 : nwo u7), Go Φ pr_P (fQ g) 1 (bC_groupsBelow_25 g v2 v4 v5 X25 v3 v6) d pr_m58 25 [u0, u1, some (sR v2), some (sI v3), some (sR v4), some (sI v5), some (sI v6), u7] [] g 1 6 := by
  intro v3 h3 v6 h6 u0 w0 u1 w1 u7 w7
  unfold bC_groupsBelow_25
  refine go_iload k58_25 rfl ?_
  refine go_iload k58_27 rfl ?_
  refine go_cmlt k58_29 h6 h5 (fun c12 => ?_) (fun c13 => ?_)
  · refine go_aload k58_32 rfl ?_
    refine go_iload k58_34 rfl ?_
    refine go_ck (fun q15 => ?_)
    refine go_pald k58_36 hg q15 (fun r14 => ?_)
    refine go_astore k58_37 rfl (loc2 := [u0, u1, some (sR v2), some (sI v3), some (sR v4), some (sI v5), some (sI v6), some (sR (g v4 v6))]) rfl ?_
    refine go_aload k58_39 rfl ?_
    refine go_ck (fun q16 => ?_)
    refine go_callP3 k58_41 rfl rfl rfl ⟨by decide, _, rfl, q16⟩ ⟨by decide, by decide⟩ (by omega) (tfP_isRunning (by omega) hg q16 ) (fun y17 r18 => ?_)
    refine go_ifeq k58_44 (inR_b r18) (fun c21 => ?_) (fun c22 => ?_)
    · refine go_iinc k58_66 rfl rfl 1 rfl (loc2 := [u0, u1, some (sR v2), some (sI v3), some (sR v4), some (sI v5), some (sI (w32 (v6 + 1))), some (sR (g v4 v6))]) rfl ?_
      refine go_goto k58_69 ?_
      exact HX25 v3 h3 (w32 (v6 + 1)) (inR_w32 _) u0 w0 u1 w1 (some (sR (g v4 v6))) rfl
    · refine go_aload k58_47 rfl ?_
      refine go_aload k58_48 rfl ?_
      refine go_ck (fun q23 => ?_)
      refine go_callP3 k58_50 rfl rfl rfl ⟨by decide, _, rfl, q23⟩ ⟨by decide, by decide⟩ (by omega) (tfP_isOver (by omega) hg q23  r14) (fun y24 r25 => ?_)
      refine go_ifeq k58_53 (inR_b r25) (fun c28 => ?_) (fun c29 => ?_)
      · refine go_iinc k58_66 rfl rfl 1 rfl (loc2 := [u0, u1, some (sR v2), some (sI v3), some (sR v4), some (sI v5), some (sI (w32 (v6 + 1))), some (sR (g v4 v6))]) rfl ?_
        refine go_goto k58_69 ?_
        exact HX25 v3 h3 (w32 (v6 + 1)) (inR_w32 _) u0 w0 u1 w1 (some (sR (g v4 v6))) rfl
      · refine go_iload k58_56 rfl ?_
        refine go_int k58_57 1 rfl ?_
        refine go_aload k58_58 rfl ?_
        refine go_getI (bI := 5) k58_60 hg q16 (by decide) rfl rfl (fun r30 => ?_)
        refine go_ibin k58_63 ?_
        refine go_ibin k58_64 ?_
        refine go_istore k58_65 rfl (loc2 := [u0, u1, some (sR v2), some (sI (opI 2 v3 (opI 4 1 (g (g v4 v6) 5)))), some (sR v4), some (sI v5), some (sI v6), some (sR (g v4 v6))]) rfl ?_
        refine go_iinc k58_66 rfl rfl 1 rfl (loc2 := [u0, u1, some (sR v2), some (sI (opI 2 v3 (opI 4 1 (g (g v4 v6) 5)))), some (sR v4), some (sI v5), some (sI (w32 (v6 + 1))), some (sR (g v4 v6))]) rfl ?_
        refine go_goto k58_69 ?_
        exact HX25 (opI 2 v3 (opI 4 1 (g (g v4 v6) 5))) (inR_opI _ _ _) (w32 (v6 + 1)) (inR_w32 _) u0 w0 u1 w1 (some (sR (g v4 v6))) rfl
  · refine go_iload k58_72 rfl ?_
    exact go_iret k58_73 hg h3 ⟨by decide, by decide⟩ rfl
theorem tlC_groupsBelow_25 {Φ : ev_P} {d : Nat} (hd : 2 ≤ d) {g : gH} (hg : HR g) {v2 v4 v5 : Int} (h2 : RfR v2) (h4 : RfR v4) (h5 : InR v5) : ∀ n : Nat, ∀ (v3 : Int) (h3 : InR v3) (v6 : Int) (h6 : InR v6) (u0 : Option ev_V) (w0 : nwo u0) (u1 : Option ev_V) (w1 : nwo u1) (u7 : Option ev_V) (w7 : nwo u7), Go Φ pr_P (fQ g) 1 (lC_groupsBelow_25 g v2 v4 v5 n v3 v6) d pr_m58 25 [u0, u1, some (sR v2), some (sI v3), some (sR v4), some (sI v5), some (sI v6), u7] [] g 1 6 := by
  intro n
  induction n with
  | zero => intros; exact go_none
  | succ n ih => exact tbC_groupsBelow_25 hd hg h2 h4 h5 ih
theorem tfC_groupsBelow {Φ : ev_P} {d : Nat} (hd : 2 ≤ d) {g : gH} (hg : HR g) {v0 v1 : Int} (hK0 : kd v0 = 6) (h1 : InR v1) : Go Φ pr_P (fQ g) 1 (fC_groupsBelow g v0 v1) d (pr_P 58) 0 (ev_loc (pr_P 58).1 [(sR v0), (sI v1)]) [] g 0 0 := by
  show Go Φ pr_P (fQ g) 1 (fC_groupsBelow g v0 v1) d pr_m58 0 [some (sR v0), some (sI v1), none, none, none, none, none, none] [] g 0 0
  unfold fC_groupsBelow
  refine go_aload k58_0 rfl ?_
  refine go_iload k58_1 rfl ?_
  refine go_callQ2 k58_2 rfl rfl rfl ⟨by decide, _, rfl, hK0⟩ ⟨by decide, by decide⟩ (by omega) (tfC_named (by omega) hg hK0  h1) (fun y1 r2 => ?_) (fun e5 E6 => ge_prop rfl ⟨by decide, by decide⟩ e5 rfl)
  refine go_astore k58_5 rfl (loc2 := [some (sR v0), some (sI v1), some (sR y1), none, none, none, none, none]) rfl ?_
  refine go_int k58_6 0 rfl ?_
  refine go_istore k58_7 rfl (loc2 := [some (sR v0), some (sI v1), some (sR y1), some (sI 0), none, none, none, none]) rfl ?_
  refine go_aload k58_8 rfl ?_
  refine go_getR (bI := 0) k58_9 hg hK0 (by decide) rfl rfl (fun r7 => ?_)
  refine go_ck (fun q8 => ?_)
  refine go_getR (bI := 1) k58_12 hg q8 (by decide) rfl rfl (fun r9 => ?_)
  refine go_astore k58_15 rfl (loc2 := [some (sR v0), some (sI v1), some (sR y1), some (sI 0), some (sR (g (g v0 0) 1)), none, none, none]) rfl ?_
  refine go_aload k58_17 rfl ?_
  refine go_ck (fun q11 => ?_)
  refine go_alen k58_19 (ka_24 q11) (fun r10 => ?_)
  refine go_istore k58_20 rfl (loc2 := [some (sR v0), some (sI v1), some (sR y1), some (sI 0), some (sR (g (g v0 0) 1)), some (sI (sz (g (g v0 0) 1))), none, none]) rfl ?_
  refine go_int k58_22 0 rfl ?_
  refine go_istore k58_23 rfl (loc2 := [some (sR v0), some (sI v1), some (sR y1), some (sI 0), some (sR (g (g v0 0) 1)), some (sI (sz (g (g v0 0) 1))), some (sI 0), none]) rfl ?_
  exact tlC_groupsBelow_25 hd hg r2 r9 r10 fu 0 (inR_b (Or.inl rfl)) 0 (inR_b (Or.inl rfl)) (some (sR v0)) rfl (some (sI v1)) rfl none rfl
theorem tfW_groupsBelow {Φ : ev_P} {d : Nat} (hd : 3 ≤ d) {g : gH} (hg : HR g) {v0 v1 v2 : Int} (h0 : RfR v0) (h1 : InR v1) (h2 : RfR v2) : Go Φ pr_P fN 1 (fW_groupsBelow g v0 v1 v2) d (pr_P 348) 0 (ev_loc (pr_P 348).1 [(sR v0), (sI v1), (sR v2)]) [] g 0 0 := by
  show Go Φ pr_P fN 1 (fW_groupsBelow g v0 v1 v2) d pr_m348 0 [some (sR v0), some (sI v1), some (sR v2), none] [] g 0 0
  unfold fW_groupsBelow
  refine go_aload k348_0 rfl ?_
  refine go_int k348_1 0 rfl ?_
  refine go_aload k348_2 rfl ?_
  refine go_iload k348_3 rfl ?_
  refine go_ck (fun q1 => ?_)
  refine go_callQ1 k348_4 rfl rfl rfl ⟨by decide, _, rfl, q1⟩ ⟨by decide, by decide⟩ (by omega) (tfC_groupsBelow (by omega) hg q1  h1) (fun y2 r3 => ?_) (fun e6 E7 => ?_)
  · refine go_i2l k348_7 r3 ?_
    refine go_ck (fun q8 => ?_)
    refine go_last k348_8 hg q8 (inL_R r3) (fun g9 e10 => ?_)
    refine go_goto k348_9 ?_
    refine go_int k348_15 0 rfl ?_
    exact go_iret k348_16 e10 (inR_b (Or.inl rfl)) ⟨by decide, by decide⟩ rfl
  · refine ge_ite (fun hE9 => ?_) (fun _ => ?_)
    · subst hE9
      refine ge_catch rfl k348_12 rfl (loc2 := [some (sR v0), some (sI v1), some (sR v2), none]) rfl ?_
      refine go_int k348_13 1 rfl ?_
      exact go_iret k348_14 e6 (inR_b (Or.inr rfl)) ⟨by decide, by decide⟩ rfl
    exact ge_none
theorem tbC_strangers_25 {Φ : ev_P} {d : Nat} (hd : 2 ≤ d) {g : gH} (hg : HR g) {v2 v4 v5 : Int} (h2 : RfR v2) (h4 : RfR v4) (h5 : InR v5) {X25 : Int → Int → Option (Nat × Int)} (HX25 : ∀ (v3 : Int) (h3 : InR v3) (v6 : Int) (h6 : InR v6) (u0 : Option ev_V) (w0 : nwo u0) (u1 : Option ev_V) (w1 : nwo u1) (u7 : Option ev_V) (w7 : nwo u7), Go Φ pr_P (fQ g) 1 (X25 v3 v6) d pr_m59 25 [u0, u1, some (sR v2), some (sI v3), some (sR v4), some (sI v5), some (sI v6), u7] [] g 1 6) : ∀ (v3 : Int) (h3 : InR v3) (v6 : Int) (h6 : InR v6) (u0 : Option ev_V) (w0 : nwo u0) (u1 : Option ev_V) (w1 : nwo u1) (u7 : Option ev_V) (w7 : nwo u7), Go Φ pr_P (fQ g) 1 (bC_strangers_25 g v2 v4 v5 X25 v3 v6) d pr_m59 25 [u0, u1, some (sR v2), some (sI v3), some (sR v4), some (sI v5), some (sI v6), u7] [] g 1 6 := by
  intro v3 h3 v6 h6 u0 w0 u1 w1 u7 w7
  unfold bC_strangers_25
  refine go_iload k59_25 rfl ?_
  refine go_iload k59_27 rfl ?_
  refine go_cmlt k59_29 h6 h5 (fun c12 => ?_) (fun c13 => ?_)
  · refine go_aload k59_32 rfl ?_
    refine go_iload k59_34 rfl ?_
    refine go_ck (fun q15 => ?_)
    refine go_pald k59_36 hg q15 (fun r14 => ?_)
    refine go_astore k59_37 rfl (loc2 := [u0, u1, some (sR v2), some (sI v3), some (sR v4), some (sI v5), some (sI v6), some (sR (g v4 v6))]) rfl ?_
    refine go_aload k59_39 rfl ?_
    refine go_aload k59_41 rfl ?_
    refine go_ck (fun q16 => ?_)
    refine go_callP3 k59_42 rfl rfl rfl ⟨by decide, _, rfl, q16⟩ ⟨by decide, by decide⟩ (by omega) (tfP_isRunningChildOf (by omega) hg q16  h2) (fun y17 r18 => ?_)
    refine go_ifeq k59_45 (inR_b r18) (fun c21 => ?_) (fun c22 => ?_)
    · refine go_iinc k59_63 rfl rfl 1 rfl (loc2 := [u0, u1, some (sR v2), some (sI v3), some (sR v4), some (sI v5), some (sI (w32 (v6 + 1))), some (sR (g v4 v6))]) rfl ?_
      refine go_goto k59_66 ?_
      exact HX25 v3 h3 (w32 (v6 + 1)) (inR_w32 _) u0 w0 u1 w1 (some (sR (g v4 v6))) rfl
    · refine go_aload k59_48 rfl ?_
      refine go_getI (bI := 5) k59_50 hg q16 (by decide) rfl rfl (fun r23 => ?_)
      refine go_aload k59_53 rfl ?_
      refine go_ck (fun q24 => ?_)
      refine go_getI (bI := 5) k59_54 hg q24 (by decide) rfl rfl (fun r25 => ?_)
      refine go_cmeq k59_57 r23 r25 (fun c26 => ?_) (fun c27 => ?_)
      · refine go_iinc k59_63 rfl rfl 1 rfl (loc2 := [u0, u1, some (sR v2), some (sI v3), some (sR v4), some (sI v5), some (sI (w32 (v6 + 1))), some (sR (g v4 v6))]) rfl ?_
        refine go_goto k59_66 ?_
        exact HX25 v3 h3 (w32 (v6 + 1)) (inR_w32 _) u0 w0 u1 w1 (some (sR (g v4 v6))) rfl
      · refine go_iinc k59_60 rfl rfl 1 rfl (loc2 := [u0, u1, some (sR v2), some (sI (w32 (v3 + 1))), some (sR v4), some (sI v5), some (sI v6), some (sR (g v4 v6))]) rfl ?_
        refine go_iinc k59_63 rfl rfl 1 rfl (loc2 := [u0, u1, some (sR v2), some (sI (w32 (v3 + 1))), some (sR v4), some (sI v5), some (sI (w32 (v6 + 1))), some (sR (g v4 v6))]) rfl ?_
        refine go_goto k59_66 ?_
        exact HX25 (w32 (v3 + 1)) (inR_w32 _) (w32 (v6 + 1)) (inR_w32 _) u0 w0 u1 w1 (some (sR (g v4 v6))) rfl
  · refine go_iload k59_69 rfl ?_
    exact go_iret k59_70 hg h3 ⟨by decide, by decide⟩ rfl
theorem tlC_strangers_25 {Φ : ev_P} {d : Nat} (hd : 2 ≤ d) {g : gH} (hg : HR g) {v2 v4 v5 : Int} (h2 : RfR v2) (h4 : RfR v4) (h5 : InR v5) : ∀ n : Nat, ∀ (v3 : Int) (h3 : InR v3) (v6 : Int) (h6 : InR v6) (u0 : Option ev_V) (w0 : nwo u0) (u1 : Option ev_V) (w1 : nwo u1) (u7 : Option ev_V) (w7 : nwo u7), Go Φ pr_P (fQ g) 1 (lC_strangers_25 g v2 v4 v5 n v3 v6) d pr_m59 25 [u0, u1, some (sR v2), some (sI v3), some (sR v4), some (sI v5), some (sI v6), u7] [] g 1 6 := by
  intro n
  induction n with
  | zero => intros; exact go_none
  | succ n ih => exact tbC_strangers_25 hd hg h2 h4 h5 ih
theorem tfC_strangers {Φ : ev_P} {d : Nat} (hd : 2 ≤ d) {g : gH} (hg : HR g) {v0 v1 : Int} (hK0 : kd v0 = 6) (h1 : InR v1) : Go Φ pr_P (fQ g) 1 (fC_strangers g v0 v1) d (pr_P 59) 0 (ev_loc (pr_P 59).1 [(sR v0), (sI v1)]) [] g 0 0 := by
  show Go Φ pr_P (fQ g) 1 (fC_strangers g v0 v1) d pr_m59 0 [some (sR v0), some (sI v1), none, none, none, none, none, none] [] g 0 0
  unfold fC_strangers
  refine go_aload k59_0 rfl ?_
  refine go_iload k59_1 rfl ?_
  refine go_callQ2 k59_2 rfl rfl rfl ⟨by decide, _, rfl, hK0⟩ ⟨by decide, by decide⟩ (by omega) (tfC_named (by omega) hg hK0  h1) (fun y1 r2 => ?_) (fun e5 E6 => ge_prop rfl ⟨by decide, by decide⟩ e5 rfl)
  refine go_astore k59_5 rfl (loc2 := [some (sR v0), some (sI v1), some (sR y1), none, none, none, none, none]) rfl ?_
  refine go_int k59_6 0 rfl ?_
  refine go_istore k59_7 rfl (loc2 := [some (sR v0), some (sI v1), some (sR y1), some (sI 0), none, none, none, none]) rfl ?_
  refine go_aload k59_8 rfl ?_
  refine go_getR (bI := 0) k59_9 hg hK0 (by decide) rfl rfl (fun r7 => ?_)
  refine go_ck (fun q8 => ?_)
  refine go_getR (bI := 1) k59_12 hg q8 (by decide) rfl rfl (fun r9 => ?_)
  refine go_astore k59_15 rfl (loc2 := [some (sR v0), some (sI v1), some (sR y1), some (sI 0), some (sR (g (g v0 0) 1)), none, none, none]) rfl ?_
  refine go_aload k59_17 rfl ?_
  refine go_ck (fun q11 => ?_)
  refine go_alen k59_19 (ka_24 q11) (fun r10 => ?_)
  refine go_istore k59_20 rfl (loc2 := [some (sR v0), some (sI v1), some (sR y1), some (sI 0), some (sR (g (g v0 0) 1)), some (sI (sz (g (g v0 0) 1))), none, none]) rfl ?_
  refine go_int k59_22 0 rfl ?_
  refine go_istore k59_23 rfl (loc2 := [some (sR v0), some (sI v1), some (sR y1), some (sI 0), some (sR (g (g v0 0) 1)), some (sI (sz (g (g v0 0) 1))), some (sI 0), none]) rfl ?_
  exact tlC_strangers_25 hd hg r2 r9 r10 fu 0 (inR_b (Or.inl rfl)) 0 (inR_b (Or.inl rfl)) (some (sR v0)) rfl (some (sI v1)) rfl none rfl
theorem tfW_strangers {Φ : ev_P} {d : Nat} (hd : 3 ≤ d) {g : gH} (hg : HR g) {v0 v1 v2 : Int} (h0 : RfR v0) (h1 : InR v1) (h2 : RfR v2) : Go Φ pr_P fN 1 (fW_strangers g v0 v1 v2) d (pr_P 349) 0 (ev_loc (pr_P 349).1 [(sR v0), (sI v1), (sR v2)]) [] g 0 0 := by
  show Go Φ pr_P fN 1 (fW_strangers g v0 v1 v2) d pr_m349 0 [some (sR v0), some (sI v1), some (sR v2), none] [] g 0 0
  unfold fW_strangers
  refine go_aload k349_0 rfl ?_
  refine go_int k349_1 0 rfl ?_
  refine go_aload k349_2 rfl ?_
  refine go_iload k349_3 rfl ?_
  refine go_ck (fun q1 => ?_)
  refine go_callQ1 k349_4 rfl rfl rfl ⟨by decide, _, rfl, q1⟩ ⟨by decide, by decide⟩ (by omega) (tfC_strangers (by omega) hg q1  h1) (fun y2 r3 => ?_) (fun e6 E7 => ?_)
  · refine go_i2l k349_7 r3 ?_
    refine go_ck (fun q8 => ?_)
    refine go_last k349_8 hg q8 (inL_R r3) (fun g9 e10 => ?_)
    refine go_goto k349_9 ?_
    refine go_int k349_15 0 rfl ?_
    exact go_iret k349_16 e10 (inR_b (Or.inl rfl)) ⟨by decide, by decide⟩ rfl
  · refine ge_ite (fun hE9 => ?_) (fun _ => ?_)
    · subst hE9
      refine ge_catch rfl k349_12 rfl (loc2 := [some (sR v0), some (sI v1), some (sR v2), none]) rfl ?_
      refine go_int k349_13 1 rfl ?_
      exact go_iret k349_14 e6 (inR_b (Or.inr rfl)) ⟨by decide, by decide⟩ rfl
    exact ge_none
theorem tfO_putSign {Φ : ev_P} {d : Nat} (hd : 0 ≤ d) {g : gH} (hg : HR g) {v0 v1 : Int} (hK0 : kd v0 = 2) (h1 : InR v1) : Go Φ pr_P fN 0 (fO_putSign g v0 v1) d (pr_P 225) 0 (ev_loc (pr_P 225).1 [(sR v0), (sI v1)]) [] g 0 0 := by
  show Go Φ pr_P fN 0 (fO_putSign g v0 v1) d pr_m225 0 [some (sR v0), some (sI v1)] [] g 0 0
  unfold fO_putSign
  refine go_aload k225_0 rfl ?_
  refine go_getI (bI := 1) k225_1 hg hK0 (by decide) rfl rfl (fun r1 => ?_)
  refine go_iflt k225_4 r1 (fun c2 => ?_) (fun c3 => ?_)
  · exact go_vret k225_38 hg ⟨Nat.zero_le _, Nat.zero_le _⟩ rfl
  · refine go_aload k225_7 rfl ?_
    refine go_getI (bI := 1) k225_8 hg hK0 (by decide) rfl rfl (fun r4 => ?_)
    refine go_int k225_11 300 rfl ?_
    refine go_cmlt k225_14 r4 (inR_of (by decide)) (fun c5 => ?_) (fun c6 => ?_)
    · refine go_aload k225_17 rfl ?_
      refine go_getR (bI := 0) k225_18 hg hK0 (by decide) rfl rfl (fun r7 => ?_)
      refine go_aload k225_21 rfl ?_
      refine go_getI (bI := 1) k225_22 hg hK0 (by decide) rfl rfl (fun r8 => ?_)
      refine go_iload k225_25 rfl ?_
      refine go_i2b k225_26 ?_
      refine go_ck (fun q9 => ?_)
      refine go_bast k225_27 hg q9 (fun g10 e11 => ?_)
      refine go_aload k225_28 rfl ?_
      refine go_dupR k225_29 ?_
      refine go_getI (bI := 1) k225_30 e11 hK0 (by decide) rfl rfl (fun r12 => ?_)
      refine go_int k225_33 1 rfl ?_
      refine go_iadd k225_34 ?_
      refine go_putI (bI := 1) k225_35 e11 hK0 (by decide) rfl rfl (inR_w32 _) (fun g13 e14 => ?_)
      exact go_vret k225_38 e14 ⟨Nat.zero_le _, Nat.zero_le _⟩ rfl
    · exact go_vret k225_38 hg ⟨Nat.zero_le _, Nat.zero_le _⟩ rfl
theorem tjO_putNumber_18 {Φ : ev_P} {d : Nat} (hd : 1 ≤ d) {g : gH} (hg : HR g) {v0 v1 : Int} (hK0 : kd v0 = 2) (h1 : InR v1) : Go Φ pr_P fN 0 (jO_putNumber_18 g v0 v1 ) d pr_m226 18 [some (sR v0), some (sI v1)] [] g 0 0 := by
  unfold jO_putNumber_18
  refine go_iload k226_18 rfl ?_
  refine go_int k226_19 10 rfl ?_
  refine go_cmlt k226_21 h1 (inR_of (by decide)) (fun c8 => ?_) (fun c9 => ?_)
  · refine go_aload k226_39 rfl ?_
    refine go_int k226_40 48 rfl ?_
    refine go_iload k226_42 rfl ?_
    refine go_int k226_43 10 rfl ?_
    refine go_ck (fun q10 => ?_)
    refine go_rem k226_45 q10 ?_
    refine go_iadd k226_46 ?_
    refine go_i2c k226_47 ?_
    refine go_callN0 k226_48 rfl rfl rfl ⟨by decide, _, rfl, hK0⟩ ⟨Nat.zero_le _, Nat.zero_le _⟩ (by omega) (tfO_putSign (by omega) hg hK0  (inR_i2c _)) (fun y11 g13 e14 => ?_)
    exact go_vret k226_51 e14 ⟨Nat.zero_le _, Nat.zero_le _⟩ rfl
  · refine go_aload k226_24 rfl ?_
    refine go_int k226_25 48 rfl ?_
    refine go_iload k226_27 rfl ?_
    refine go_int k226_28 10 rfl ?_
    refine go_ck (fun q15 => ?_)
    refine go_div k226_30 q15 ?_
    refine go_int k226_31 10 rfl ?_
    refine go_ck (fun q16 => ?_)
    refine go_rem k226_33 q16 ?_
    refine go_iadd k226_34 ?_
    refine go_i2c k226_35 ?_
    refine go_callN0 k226_36 rfl rfl rfl ⟨by decide, _, rfl, hK0⟩ ⟨Nat.zero_le _, Nat.zero_le _⟩ (by omega) (tfO_putSign (by omega) hg hK0  (inR_i2c _)) (fun y17 g19 e20 => ?_)
    refine go_aload k226_39 rfl ?_
    refine go_int k226_40 48 rfl ?_
    refine go_iload k226_42 rfl ?_
    refine go_int k226_43 10 rfl ?_
    refine go_ck (fun q21 => ?_)
    refine go_rem k226_45 q21 ?_
    refine go_iadd k226_46 ?_
    refine go_i2c k226_47 ?_
    refine go_callN0 k226_48 rfl rfl rfl ⟨by decide, _, rfl, hK0⟩ ⟨Nat.zero_le _, Nat.zero_le _⟩ (by omega) (tfO_putSign (by omega) e20 hK0  (inR_i2c _)) (fun y22 g24 e25 => ?_)
    exact go_vret k226_51 e25 ⟨Nat.zero_le _, Nat.zero_le _⟩ rfl
theorem tfO_putNumber {Φ : ev_P} {d : Nat} (hd : 1 ≤ d) {g : gH} (hg : HR g) {v0 v1 : Int} (hK0 : kd v0 = 2) (h1 : InR v1) : Go Φ pr_P fN 0 (fO_putNumber g v0 v1) d (pr_P 226) 0 (ev_loc (pr_P 226).1 [(sR v0), (sI v1)]) [] g 0 0 := by
  show Go Φ pr_P fN 0 (fO_putNumber g v0 v1) d pr_m226 0 [some (sR v0), some (sI v1)] [] g 0 0
  unfold fO_putNumber
  refine go_iload k226_0 rfl ?_
  refine go_int k226_1 100 rfl ?_
  refine go_cmlt k226_3 h1 (inR_of (by decide)) (fun c1 => ?_) (fun c2 => ?_)
  · exact tjO_putNumber_18 hd hg hK0 h1
  · refine go_aload k226_6 rfl ?_
    refine go_int k226_7 48 rfl ?_
    refine go_iload k226_9 rfl ?_
    refine go_int k226_10 100 rfl ?_
    refine go_ck (fun q3 => ?_)
    refine go_div k226_12 q3 ?_
    refine go_iadd k226_13 ?_
    refine go_i2c k226_14 ?_
    refine go_callN0 k226_15 rfl rfl rfl ⟨by decide, _, rfl, hK0⟩ ⟨Nat.zero_le _, Nat.zero_le _⟩ (by omega) (tfO_putSign (by omega) hg hK0  (inR_i2c _)) (fun y4 g6 e7 => ?_)
    exact tjO_putNumber_18 hd e7 hK0 h1
theorem tbC_putBranch_40 {Φ : ev_P} {d : Nat} (hd : 3 ≤ d) {R : gH → Int → Int → Int → Int → Option (Int × gH)} (HR0 : ∀ (g : gH) (hg : HR g) (v0 : Int) (v1 : Int) (v2 : Int) (v3 : Int) (h0 : RfR v0) (h1 : RfR v1) (h2 : RfR v2) (h3 : InR v3), Go Φ pr_P fN 0 (R g v0 v1 v2 v3) (d - 1) (pr_P 72) 0 (ev_loc (pr_P 72).1 [(sR v0), (sR v1), (sR v2), (sI v3)]) [] g 0 0) {v0 v1 v2 v3 v5 v6 : Int} (h0 : RfR v0) (h1 : RfR v1) (h2 : RfR v2) (h3 : InR v3) (h5 : RfR v5) (h6 : InR v6) {X40 : Int → Int → gH → Option (Int × gH)} (HX40 : ∀ (v4 : Int) (h4 : InR v4) (v7 : Int) (h7 : InR v7) (g : gH) (hg : HR g) (u8 : Option ev_V) (w8 : nwo u8), Go Φ pr_P fN 0 (X40 v4 v7 g) d pr_m72 40 [some (sR v0), some (sR v1), some (sR v2), some (sI v3), some (sI v4), some (sR v5), some (sI v6), some (sI v7), u8] [] g 0 0) : ∀ (v4 : Int) (h4 : InR v4) (v7 : Int) (h7 : InR v7) (g : gH) (hg : HR g) (u8 : Option ev_V) (w8 : nwo u8), Go Φ pr_P fN 0 (bC_putBranch_40 R v0 v1 v2 v3 v5 v6 X40 v4 v7 g) d pr_m72 40 [some (sR v0), some (sR v1), some (sR v2), some (sI v3), some (sI v4), some (sR v5), some (sI v6), some (sI v7), u8] [] g 0 0 := by
  intro v4 h4 v7 h7 g hg u8 w8
  unfold bC_putBranch_40
  refine go_iload k72_40 rfl ?_
  refine go_iload k72_42 rfl ?_
  refine go_cmlt k72_44 h7 h6 (fun c17 => ?_) (fun c18 => ?_)
  · refine go_aload k72_47 rfl ?_
    refine go_iload k72_49 rfl ?_
    refine go_ck (fun q20 => ?_)
    refine go_pald k72_51 hg q20 (fun r19 => ?_)
    refine go_astore k72_52 rfl (loc2 := [some (sR v0), some (sR v1), some (sR v2), some (sI v3), some (sI v4), some (sR v5), some (sI v6), some (sI v7), some (sR (g v5 v7))]) rfl ?_
    refine go_aload k72_54 rfl ?_
    refine go_aload k72_56 rfl ?_
    refine go_ck (fun q21 => ?_)
    refine go_callP3 k72_57 rfl rfl rfl ⟨by decide, _, rfl, q21⟩ ⟨Nat.zero_le _, Nat.zero_le _⟩ (by omega) (tfP_isRunningChildOf (by omega) hg q21  h2) (fun y22 r23 => ?_)
    refine go_ifeq k72_60 (inR_b r23) (fun c26 => ?_) (fun c27 => ?_)
    · refine go_iinc k72_83 rfl rfl 1 rfl (loc2 := [some (sR v0), some (sR v1), some (sR v2), some (sI v3), some (sI v4), some (sR v5), some (sI v6), some (sI (w32 (v7 + 1))), some (sR (g v5 v7))]) rfl ?_
      refine go_goto k72_86 ?_
      exact HX40 v4 h4 (w32 (v7 + 1)) (inR_w32 _) g hg (some (sR (g v5 v7))) rfl
    · refine go_aload k72_63 rfl ?_
      refine go_iload k72_64 rfl ?_
      refine go_ck (fun q28 => ?_)
      refine go_callN0 k72_66 rfl rfl rfl ⟨by decide, _, rfl, q28⟩ ⟨Nat.zero_le _, Nat.zero_le _⟩ (by omega) (tfO_putSign (by omega) hg q28  h4) (fun y29 g31 e32 => ?_)
      refine go_aload k72_69 rfl ?_
      refine go_aload k72_70 rfl ?_
      refine go_aload k72_71 rfl ?_
      refine go_iload k72_73 rfl ?_
      refine go_int k72_74 1 rfl ?_
      refine go_iadd k72_75 ?_
      refine go_callN0 k72_76 rfl rfl rfl trivial ⟨Nat.zero_le _, Nat.zero_le _⟩ (by omega) (HR0 g31 e32 v0 v1 (g v5 v7) (w32 (v3 + 1))  h0 h1 r19 (inR_w32 _)) (fun y33 g35 e36 => ?_)
      refine go_int k72_79 32 rfl ?_
      refine go_istore k72_81 rfl (loc2 := [some (sR v0), some (sR v1), some (sR v2), some (sI v3), some (sI 32), some (sR v5), some (sI v6), some (sI v7), some (sR (g v5 v7))]) rfl ?_
      refine go_iinc k72_83 rfl rfl 1 rfl (loc2 := [some (sR v0), some (sR v1), some (sR v2), some (sI v3), some (sI 32), some (sR v5), some (sI v6), some (sI (w32 (v7 + 1))), some (sR (g v5 v7))]) rfl ?_
      refine go_goto k72_86 ?_
      exact HX40 32 (inR_of (by decide)) (w32 (v7 + 1)) (inR_w32 _) g35 e36 (some (sR (g v5 v7))) rfl
  · refine go_aload k72_89 rfl ?_
    refine go_int k72_90 41 rfl ?_
    refine go_ck (fun q37 => ?_)
    refine go_callN0 k72_92 rfl rfl rfl ⟨by decide, _, rfl, q37⟩ ⟨Nat.zero_le _, Nat.zero_le _⟩ (by omega) (tfO_putSign (by omega) hg q37  (inR_of (by decide))) (fun y38 g40 e41 => ?_)
    exact go_vret k72_95 e41 ⟨Nat.zero_le _, Nat.zero_le _⟩ rfl
theorem tlC_putBranch_40 {Φ : ev_P} {d : Nat} (hd : 3 ≤ d) {R : gH → Int → Int → Int → Int → Option (Int × gH)} (HR0 : ∀ (g : gH) (hg : HR g) (v0 : Int) (v1 : Int) (v2 : Int) (v3 : Int) (h0 : RfR v0) (h1 : RfR v1) (h2 : RfR v2) (h3 : InR v3), Go Φ pr_P fN 0 (R g v0 v1 v2 v3) (d - 1) (pr_P 72) 0 (ev_loc (pr_P 72).1 [(sR v0), (sR v1), (sR v2), (sI v3)]) [] g 0 0) {v0 v1 v2 v3 v5 v6 : Int} (h0 : RfR v0) (h1 : RfR v1) (h2 : RfR v2) (h3 : InR v3) (h5 : RfR v5) (h6 : InR v6) : ∀ n : Nat, ∀ (v4 : Int) (h4 : InR v4) (v7 : Int) (h7 : InR v7) (g : gH) (hg : HR g) (u8 : Option ev_V) (w8 : nwo u8), Go Φ pr_P fN 0 (lC_putBranch_40 R v0 v1 v2 v3 v5 v6 n v4 v7 g) d pr_m72 40 [some (sR v0), some (sR v1), some (sR v2), some (sI v3), some (sI v4), some (sR v5), some (sI v6), some (sI v7), u8] [] g 0 0 := by
  intro n
  induction n with
  | zero => intros; exact go_none
  | succ n ih => exact tbC_putBranch_40 hd HR0 h0 h1 h2 h3 h5 h6 ih
theorem tfbC_putBranch {Φ : ev_P} {d : Nat} (hd : 3 ≤ d) {R : gH → Int → Int → Int → Int → Option (Int × gH)} (HR0 : ∀ (g : gH) (hg : HR g) (v0 : Int) (v1 : Int) (v2 : Int) (v3 : Int) (h0 : RfR v0) (h1 : RfR v1) (h2 : RfR v2) (h3 : InR v3), Go Φ pr_P fN 0 (R g v0 v1 v2 v3) (d - 1) (pr_P 72) 0 (ev_loc (pr_P 72).1 [(sR v0), (sR v1), (sR v2), (sI v3)]) [] g 0 0) {g : gH} (hg : HR g) {v0 v1 v2 v3 : Int} (h0 : RfR v0) (h1 : RfR v1) (h2 : RfR v2) (h3 : InR v3) : Go Φ pr_P fN 0 (fbC_putBranch R g v0 v1 v2 v3) d (pr_P 72) 0 (ev_loc (pr_P 72).1 [(sR v0), (sR v1), (sR v2), (sI v3)]) [] g 0 0 := by
  show Go Φ pr_P fN 0 (fbC_putBranch R g v0 v1 v2 v3) d pr_m72 0 [some (sR v0), some (sR v1), some (sR v2), some (sI v3), none, none, none, none, none] [] g 0 0
  unfold fbC_putBranch
  refine go_aload k72_0 rfl ?_
  refine go_aload k72_1 rfl ?_
  refine go_ck (fun q1 => ?_)
  refine go_getI (bI := 0) k72_2 hg q1 (by decide) rfl rfl (fun r2 => ?_)
  refine go_ck (fun q3 => ?_)
  refine go_callN0 k72_5 rfl rfl rfl ⟨by decide, _, rfl, q3⟩ ⟨Nat.zero_le _, Nat.zero_le _⟩ (by omega) (tfO_putNumber (by omega) hg q3  r2) (fun y4 g6 e7 => ?_)
  refine go_aload k72_8 rfl ?_
  refine go_getI (bI := 3) k72_9 e7 q1 (by decide) rfl rfl (fun r8 => ?_)
  refine go_ifeq k72_12 r8 (fun c9 => ?_) (fun c10 => ?_)
  · exact go_vret k72_21 e7 ⟨Nat.zero_le _, Nat.zero_le _⟩ rfl
  · refine go_iload k72_15 rfl ?_
    refine go_int k72_16 40 rfl ?_
    refine go_cmlt k72_18 h3 (inR_of (by decide)) (fun c11 => ?_) (fun c12 => ?_)
    · refine go_int k72_22 40 rfl ?_
      refine go_istore k72_24 rfl (loc2 := [some (sR v0), some (sR v1), some (sR v2), some (sI v3), some (sI 40), none, none, none, none]) rfl ?_
      refine go_aload k72_26 rfl ?_
      refine go_ck (fun q13 => ?_)
      refine go_getR (bI := 1) k72_27 e7 q13 (by decide) rfl rfl (fun r14 => ?_)
      refine go_astore k72_30 rfl (loc2 := [some (sR v0), some (sR v1), some (sR v2), some (sI v3), some (sI 40), some (sR (g6 v1 1)), none, none, none]) rfl ?_
      refine go_aload k72_32 rfl ?_
      refine go_ck (fun q16 => ?_)
      refine go_alen k72_34 (ka_24 q16) (fun r15 => ?_)
      refine go_istore k72_35 rfl (loc2 := [some (sR v0), some (sR v1), some (sR v2), some (sI v3), some (sI 40), some (sR (g6 v1 1)), some (sI (sz (g6 v1 1))), none, none]) rfl ?_
      refine go_int k72_37 0 rfl ?_
      refine go_istore k72_38 rfl (loc2 := [some (sR v0), some (sR v1), some (sR v2), some (sI v3), some (sI 40), some (sR (g6 v1 1)), some (sI (sz (g6 v1 1))), some (sI 0), none]) rfl ?_
      exact tlC_putBranch_40 hd HR0 h0 h1 h2 h3 r14 r15 fu 40 (inR_of (by decide)) 0 (inR_b (Or.inl rfl)) g6 e7 none rfl
    · exact go_vret k72_21 e7 ⟨Nat.zero_le _, Nat.zero_le _⟩ rfl
theorem tfnC_putBranch {Φ : ev_P} : ∀ (n d : Nat) (hd : n + 3 ≤ d), ∀ (g : gH) (hg : HR g) (v0 : Int) (v1 : Int) (v2 : Int) (v3 : Int) (h0 : RfR v0) (h1 : RfR v1) (h2 : RfR v2) (h3 : InR v3), Go Φ pr_P fN 0 (fC_putBranch n g v0 v1 v2 v3) d (pr_P 72) 0 (ev_loc (pr_P 72).1 [(sR v0), (sR v1), (sR v2), (sI v3)]) [] g 0 0 := by
  intro n
  induction n with
  | zero => intros; exact go_none
  | succ n ih =>
    intro d hd g hg v0 v1 v2 v3 h0 h1 h2 h3
    exact tfbC_putBranch (by omega) (fun g hg v0 v1 v2 v3 h0 h1 h2 h3 => ih (d - 1) (by omega) g hg v0 v1 v2 v3 h0 h1 h2 h3) hg h0 h1 h2 h3
theorem tfC_putBranch {Φ : ev_P} {d : Nat} (hd : 63 ≤ d) {g : gH} (hg : HR g) {v0 v1 v2 v3 : Int} (h0 : RfR v0) (h1 : RfR v1) (h2 : RfR v2) (h3 : InR v3) : Go Φ pr_P fN 0 (fC_putBranch fr g v0 v1 v2 v3) d (pr_P 72) 0 (ev_loc (pr_P 72).1 [(sR v0), (sR v1), (sR v2), (sI v3)]) [] g 0 0 := tfnC_putBranch fr d (by unfold fr; omega) g hg v0 v1 v2 v3 h0 h1 h2 h3
theorem tjO_putPath_38 {Φ : ev_P} {d : Nat} (hd : 2 ≤ d) {X5 : Int → gH → Option (Int × gH)} {g : gH} (hg : HR g) {v0 v1 v2 v3 : Int} (hK0 : kd v0 = 2) (h1 : RfR v1) (h2 : InR v2) (h3 : RfR v3) (HX5 : ∀ (v2 : Int) (h2 : InR v2) (g : gH) (hg : HR g) (u3 : Option ev_V) (w3 : nwo u3) (u4 : Option ev_V) (w4 : nwo u4), Go Φ pr_P fN 0 (X5 v2 g) d pr_m227 5 [some (sR v0), some (sR v1), some (sI v2), u3, u4] [] g 0 0) (u4 : Option ev_V) (w4 : nwo u4) : Go Φ pr_P fN 0 (jO_putPath_38 X5 g v0 v1 v2 v3 ) d pr_m227 38 [some (sR v0), some (sR v1), some (sI v2), some (sR v3), u4] [] g 0 0 := by
  unfold jO_putPath_38
  refine go_aload k227_38 rfl ?_
  refine go_aload k227_39 rfl ?_
  refine go_ck (fun q21 => ?_)
  refine go_getI (bI := 0) k227_40 hg q21 (by decide) rfl rfl (fun r22 => ?_)
  refine go_callN0 k227_43 rfl rfl rfl ⟨by decide, _, rfl, hK0⟩ ⟨Nat.zero_le _, Nat.zero_le _⟩ (by omega) (tfO_putNumber (by omega) hg hK0  r22) (fun y23 g25 e26 => ?_)
  refine go_aload k227_46 rfl ?_
  refine go_int k227_47 47 rfl ?_
  refine go_callN0 k227_49 rfl rfl rfl ⟨by decide, _, rfl, hK0⟩ ⟨Nat.zero_le _, Nat.zero_le _⟩ (by omega) (tfO_putSign (by omega) e26 hK0  (inR_of (by decide))) (fun y27 g29 e30 => ?_)
  refine go_iinc k227_52 rfl rfl (-1) rfl (loc2 := [some (sR v0), some (sR v1), some (sI (w32 (v2 + (-1)))), some (sR v3), u4]) rfl ?_
  refine go_goto k227_55 ?_
  exact HX5 (w32 (v2 + (-1))) (inR_w32 _) g29 e30 (some (sR v3)) rfl u4 w4
theorem tbO_putPath_14 {Φ : ev_P} {d : Nat} (hd : 2 ≤ d) {X5 : Int → gH → Option (Int × gH)} {g : gH} (hg : HR g) {v0 v1 v2 : Int} (hK0 : kd v0 = 2) (h1 : RfR v1) (h2 : InR v2) (HX5 : ∀ (v2 : Int) (h2 : InR v2) (g : gH) (hg : HR g) (u3 : Option ev_V) (w3 : nwo u3) (u4 : Option ev_V) (w4 : nwo u4), Go Φ pr_P fN 0 (X5 v2 g) d pr_m227 5 [some (sR v0), some (sR v1), some (sI v2), u3, u4] [] g 0 0) {X14 : Int → Int → Option (Int × gH)} (HX14 : ∀ (v3 : Int) (h3 : RfR v3) (v4 : Int) (h4 : InR v4), Go Φ pr_P fN 0 (X14 v3 v4) d pr_m227 14 [some (sR v0), some (sR v1), some (sI v2), some (sR v3), some (sI v4)] [] g 0 0) : ∀ (v3 : Int) (h3 : RfR v3) (v4 : Int) (h4 : InR v4), Go Φ pr_P fN 0 (bO_putPath_14 X5 g v0 v1 v2 X14 v3 v4) d pr_m227 14 [some (sR v0), some (sR v1), some (sI v2), some (sR v3), some (sI v4)] [] g 0 0 := by
  intro v3 h3 v4 h4
  unfold bO_putPath_14
  refine go_iload k227_14 rfl ?_
  refine go_iload k227_16 rfl ?_
  refine go_cmlt k227_17 h4 h2 (fun c14 => ?_) (fun c15 => ?_)
  · refine go_aload k227_20 rfl ?_
    refine go_ck (fun q16 => ?_)
    refine go_getR (bI := 2) k227_21 hg q16 (by decide) rfl rfl (fun r17 => ?_)
    refine go_isnull k227_24  (fun c18 => ?_) (fun c19 => ?_)
    · exact tjO_putPath_38 hd hg hK0 h1 h2 h3 HX5 (some (sI v4)) rfl
    · refine go_aload k227_27 rfl ?_
      refine go_getR (bI := 2) k227_28 hg q16 (by decide) rfl rfl (fun r20 => ?_)
      refine go_astore k227_31 rfl (loc2 := [some (sR v0), some (sR v1), some (sI v2), some (sR (g v3 2)), some (sI v4)]) rfl ?_
      refine go_iinc k227_32 rfl rfl 1 rfl (loc2 := [some (sR v0), some (sR v1), some (sI v2), some (sR (g v3 2)), some (sI (w32 (v4 + 1)))]) rfl ?_
      refine go_goto k227_35 ?_
      exact HX14 (g v3 2) r20 (w32 (v4 + 1)) (inR_w32 _)
  · exact tjO_putPath_38 hd hg hK0 h1 h2 h3 HX5 (some (sI v4)) rfl
theorem tlO_putPath_14 {Φ : ev_P} {d : Nat} (hd : 2 ≤ d) {X5 : Int → gH → Option (Int × gH)} {g : gH} (hg : HR g) {v0 v1 v2 : Int} (hK0 : kd v0 = 2) (h1 : RfR v1) (h2 : InR v2) (HX5 : ∀ (v2 : Int) (h2 : InR v2) (g : gH) (hg : HR g) (u3 : Option ev_V) (w3 : nwo u3) (u4 : Option ev_V) (w4 : nwo u4), Go Φ pr_P fN 0 (X5 v2 g) d pr_m227 5 [some (sR v0), some (sR v1), some (sI v2), u3, u4] [] g 0 0) : ∀ n : Nat, ∀ (v3 : Int) (h3 : RfR v3) (v4 : Int) (h4 : InR v4), Go Φ pr_P fN 0 (lO_putPath_14 X5 g v0 v1 v2 n v3 v4) d pr_m227 14 [some (sR v0), some (sR v1), some (sI v2), some (sR v3), some (sI v4)] [] g 0 0 := by
  intro n
  induction n with
  | zero => intros; exact go_none
  | succ n ih => exact tbO_putPath_14 hd hg hK0 h1 h2 HX5 ih
theorem tbO_putPath_5 {Φ : ev_P} {d : Nat} (hd : 2 ≤ d) {v0 v1 : Int} (hK0 : kd v0 = 2) (h1 : RfR v1) {X5 : Int → gH → Option (Int × gH)} (HX5 : ∀ (v2 : Int) (h2 : InR v2) (g : gH) (hg : HR g) (u3 : Option ev_V) (w3 : nwo u3) (u4 : Option ev_V) (w4 : nwo u4), Go Φ pr_P fN 0 (X5 v2 g) d pr_m227 5 [some (sR v0), some (sR v1), some (sI v2), u3, u4] [] g 0 0) : ∀ (v2 : Int) (h2 : InR v2) (g : gH) (hg : HR g) (u3 : Option ev_V) (w3 : nwo u3) (u4 : Option ev_V) (w4 : nwo u4), Go Φ pr_P fN 0 (bO_putPath_5 v0 v1 X5 v2 g) d pr_m227 5 [some (sR v0), some (sR v1), some (sI v2), u3, u4] [] g 0 0 := by
  intro v2 h2 g hg u3 w3 u4 w4
  unfold bO_putPath_5
  refine go_iload k227_5 rfl ?_
  refine go_ifgt k227_6 h2 (fun c6 => ?_) (fun c7 => ?_)
  · refine go_aload k227_9 rfl ?_
    refine go_astore k227_10 rfl (loc2 := [some (sR v0), some (sR v1), some (sI v2), some (sR v1), u4]) rfl ?_
    refine go_int k227_11 0 rfl ?_
    refine go_istore k227_12 rfl (loc2 := [some (sR v0), some (sR v1), some (sI v2), some (sR v1), some (sI 0)]) rfl ?_
    exact tlO_putPath_14 hd hg hK0 h1 h2 HX5 fu v1 h1 0 (inR_b (Or.inl rfl))
  · refine go_aload k227_58 rfl ?_
    refine go_aload k227_59 rfl ?_
    refine go_ck (fun q8 => ?_)
    refine go_getI (bI := 0) k227_60 hg q8 (by decide) rfl rfl (fun r9 => ?_)
    refine go_callN0 k227_63 rfl rfl rfl ⟨by decide, _, rfl, hK0⟩ ⟨Nat.zero_le _, Nat.zero_le _⟩ (by omega) (tfO_putNumber (by omega) hg hK0  r9) (fun y10 g12 e13 => ?_)
    exact go_vret k227_66 e13 ⟨Nat.zero_le _, Nat.zero_le _⟩ rfl
theorem tlO_putPath_5 {Φ : ev_P} {d : Nat} (hd : 2 ≤ d) {v0 v1 : Int} (hK0 : kd v0 = 2) (h1 : RfR v1) : ∀ n : Nat, ∀ (v2 : Int) (h2 : InR v2) (g : gH) (hg : HR g) (u3 : Option ev_V) (w3 : nwo u3) (u4 : Option ev_V) (w4 : nwo u4), Go Φ pr_P fN 0 (lO_putPath_5 v0 v1 n v2 g) d pr_m227 5 [some (sR v0), some (sR v1), some (sI v2), u3, u4] [] g 0 0 := by
  intro n
  induction n with
  | zero => intros; exact go_none
  | succ n ih => exact tbO_putPath_5 hd hK0 h1 ih
theorem tfO_putPath {Φ : ev_P} {d : Nat} (hd : 2 ≤ d) {g : gH} (hg : HR g) {v0 v1 : Int} (hK0 : kd v0 = 2) (h1 : RfR v1) : Go Φ pr_P fN 0 (fO_putPath g v0 v1) d (pr_P 227) 0 (ev_loc (pr_P 227).1 [(sR v0), (sR v1)]) [] g 0 0 := by
  show Go Φ pr_P fN 0 (fO_putPath g v0 v1) d pr_m227 0 [some (sR v0), some (sR v1), none, none, none] [] g 0 0
  unfold fO_putPath
  refine go_aload k227_0 rfl ?_
  refine go_ck (fun q1 => ?_)
  refine go_callP1 k227_1 rfl rfl rfl ⟨by decide, _, rfl, q1⟩ ⟨Nat.zero_le _, Nat.zero_le _⟩ (by omega) (tfP_countAbove (by omega) hg q1 ) (fun y2 r3 => ?_)
  refine go_istore k227_4 rfl (loc2 := [some (sR v0), some (sR v1), some (sI y2), none, none]) rfl ?_
  exact tlO_putPath_5 hd hK0 h1 fu y2 r3 g hg none rfl none rfl
theorem tfO_putComma {Φ : ev_P} {d : Nat} (hd : 1 ≤ d) {g : gH} (hg : HR g) {v0 : Int} (hK0 : kd v0 = 2) : Go Φ pr_P fN 0 (fO_putComma g v0) d (pr_P 231) 0 (ev_loc (pr_P 231).1 [(sR v0)]) [] g 0 0 := by
  show Go Φ pr_P fN 0 (fO_putComma g v0) d pr_m231 0 [some (sR v0)] [] g 0 0
  unfold fO_putComma
  refine go_aload k231_0 rfl ?_
  refine go_getI (bI := 1) k231_1 hg hK0 (by decide) rfl rfl (fun r1 => ?_)
  refine go_ifgt k231_4 r1 (fun c2 => ?_) (fun c3 => ?_)
  · refine go_aload k231_7 rfl ?_
    refine go_int k231_8 44 rfl ?_
    refine go_callN0 k231_10 rfl rfl rfl ⟨by decide, _, rfl, hK0⟩ ⟨Nat.zero_le _, Nat.zero_le _⟩ (by omega) (tfO_putSign (by omega) hg hK0  (inR_of (by decide))) (fun y4 g6 e7 => ?_)
    exact go_vret k231_13 e7 ⟨Nat.zero_le _, Nat.zero_le _⟩ rfl
  · exact go_vret k231_13 hg ⟨Nat.zero_le _, Nat.zero_le _⟩ rfl
theorem tbO_putChildren_12 {Φ : ev_P} {d : Nat} (hd : 2 ≤ d) {v0 v2 v3 v4 : Int} (hK0 : kd v0 = 2) (h2 : RfR v2) (h3 : RfR v3) (h4 : InR v4) {X12 : Int → gH → Option (Int × gH)} (HX12 : ∀ (v5 : Int) (h5 : InR v5) (g : gH) (hg : HR g) (u1 : Option ev_V) (w1 : nwo u1) (u6 : Option ev_V) (w6 : nwo u6), Go Φ pr_P fN 0 (X12 v5 g) d pr_m228 12 [some (sR v0), u1, some (sR v2), some (sR v3), some (sI v4), some (sI v5), u6] [] g 0 0) : ∀ (v5 : Int) (h5 : InR v5) (g : gH) (hg : HR g) (u1 : Option ev_V) (w1 : nwo u1) (u6 : Option ev_V) (w6 : nwo u6), Go Φ pr_P fN 0 (bO_putChildren_12 v0 v2 v3 v4 X12 v5 g) d pr_m228 12 [some (sR v0), u1, some (sR v2), some (sR v3), some (sI v4), some (sI v5), u6] [] g 0 0 := by
  intro v5 h5 g hg u1 w1 u6 w6
  unfold bO_putChildren_12
  refine go_iload k228_12 rfl ?_
  refine go_iload k228_14 rfl ?_
  refine go_cmlt k228_16 h5 h4 (fun c5 => ?_) (fun c6 => ?_)
  · refine go_aload k228_19 rfl ?_
    refine go_iload k228_20 rfl ?_
    refine go_ck (fun q8 => ?_)
    refine go_pald k228_22 hg q8 (fun r7 => ?_)
    refine go_astore k228_23 rfl (loc2 := [some (sR v0), u1, some (sR v2), some (sR v3), some (sI v4), some (sI v5), some (sR (g v3 v5))]) rfl ?_
    refine go_aload k228_25 rfl ?_
    refine go_aload k228_27 rfl ?_
    refine go_ck (fun q9 => ?_)
    refine go_callP3 k228_28 rfl rfl rfl ⟨by decide, _, rfl, q9⟩ ⟨Nat.zero_le _, Nat.zero_le _⟩ (by omega) (tfP_isRunningChildOf (by omega) hg q9  h2) (fun y10 r11 => ?_)
    refine go_ifeq k228_31 (inR_b r11) (fun c14 => ?_) (fun c15 => ?_)
    · refine go_iinc k228_47 rfl rfl 1 rfl (loc2 := [some (sR v0), u1, some (sR v2), some (sR v3), some (sI v4), some (sI (w32 (v5 + 1))), some (sR (g v3 v5))]) rfl ?_
      refine go_goto k228_50 ?_
      exact HX12 (w32 (v5 + 1)) (inR_w32 _) g hg u1 w1 (some (sR (g v3 v5))) rfl
    · refine go_aload k228_34 rfl ?_
      refine go_callN0 k228_35 rfl rfl rfl ⟨by decide, _, rfl, hK0⟩ ⟨Nat.zero_le _, Nat.zero_le _⟩ (by omega) (tfO_putComma (by omega) hg hK0 ) (fun y16 g18 e19 => ?_)
      refine go_aload k228_38 rfl ?_
      refine go_aload k228_39 rfl ?_
      refine go_getI (bI := 0) k228_41 e19 q9 (by decide) rfl rfl (fun r20 => ?_)
      refine go_callN0 k228_44 rfl rfl rfl ⟨by decide, _, rfl, hK0⟩ ⟨Nat.zero_le _, Nat.zero_le _⟩ (by omega) (tfO_putNumber (by omega) e19 hK0  r20) (fun y21 g23 e24 => ?_)
      refine go_iinc k228_47 rfl rfl 1 rfl (loc2 := [some (sR v0), u1, some (sR v2), some (sR v3), some (sI v4), some (sI (w32 (v5 + 1))), some (sR (g v3 v5))]) rfl ?_
      refine go_goto k228_50 ?_
      exact HX12 (w32 (v5 + 1)) (inR_w32 _) g23 e24 u1 w1 (some (sR (g v3 v5))) rfl
  · exact go_vret k228_53 hg ⟨Nat.zero_le _, Nat.zero_le _⟩ rfl
theorem tlO_putChildren_12 {Φ : ev_P} {d : Nat} (hd : 2 ≤ d) {v0 v2 v3 v4 : Int} (hK0 : kd v0 = 2) (h2 : RfR v2) (h3 : RfR v3) (h4 : InR v4) : ∀ n : Nat, ∀ (v5 : Int) (h5 : InR v5) (g : gH) (hg : HR g) (u1 : Option ev_V) (w1 : nwo u1) (u6 : Option ev_V) (w6 : nwo u6), Go Φ pr_P fN 0 (lO_putChildren_12 v0 v2 v3 v4 n v5 g) d pr_m228 12 [some (sR v0), u1, some (sR v2), some (sR v3), some (sI v4), some (sI v5), u6] [] g 0 0 := by
  intro n
  induction n with
  | zero => intros; exact go_none
  | succ n ih => exact tbO_putChildren_12 hd hK0 h2 h3 h4 ih
theorem tfO_putChildren {Φ : ev_P} {d : Nat} (hd : 2 ≤ d) {g : gH} (hg : HR g) {v0 v1 v2 : Int} (hK0 : kd v0 = 2) (h1 : RfR v1) (h2 : RfR v2) : Go Φ pr_P fN 0 (fO_putChildren g v0 v1 v2) d (pr_P 228) 0 (ev_loc (pr_P 228).1 [(sR v0), (sR v1), (sR v2)]) [] g 0 0 := by
  show Go Φ pr_P fN 0 (fO_putChildren g v0 v1 v2) d pr_m228 0 [some (sR v0), some (sR v1), some (sR v2), none, none, none, none] [] g 0 0
  unfold fO_putChildren
  refine go_aload k228_0 rfl ?_
  refine go_ck (fun q1 => ?_)
  refine go_getR (bI := 1) k228_1 hg q1 (by decide) rfl rfl (fun r2 => ?_)
  refine go_astore k228_4 rfl (loc2 := [some (sR v0), some (sR v1), some (sR v2), some (sR (g v1 1)), none, none, none]) rfl ?_
  refine go_aload k228_5 rfl ?_
  refine go_ck (fun q4 => ?_)
  refine go_alen k228_6 (ka_24 q4) (fun r3 => ?_)
  refine go_istore k228_7 rfl (loc2 := [some (sR v0), some (sR v1), some (sR v2), some (sR (g v1 1)), some (sI (sz (g v1 1))), none, none]) rfl ?_
  refine go_int k228_9 0 rfl ?_
  refine go_istore k228_10 rfl (loc2 := [some (sR v0), some (sR v1), some (sR v2), some (sR (g v1 1)), some (sI (sz (g v1 1))), some (sI 0), none]) rfl ?_
  exact tlO_putChildren_12 hd hK0 h2 r2 r3 fu 0 (inR_b (Or.inl rfl)) g hg (some (sR v1)) rfl none rfl
theorem tbO_putDuties_9 {Φ : ev_P} {d : Nat} (hd : 2 ≤ d) {v0 v3 : Int} (hK0 : kd v0 = 2) (h3 : InR v3) {X9 : Int → gH → Option (Int × gH)} (HX9 : ∀ (v4 : Int) (h4 : InR v4) (g : gH) (hg : HR g) (u1 : Option ev_V) (w1 : nwo u1) (u2 : Option ev_V) (w2 : nwo u2), Go Φ pr_P fN 0 (X9 v4 g) d pr_m229 9 [some (sR v0), u1, u2, some (sI v3), some (sI v4)] [] g 0 0) : ∀ (v4 : Int) (h4 : InR v4) (g : gH) (hg : HR g) (u1 : Option ev_V) (w1 : nwo u1) (u2 : Option ev_V) (w2 : nwo u2), Go Φ pr_P fN 0 (bO_putDuties_9 v0 v3 X9 v4 g) d pr_m229 9 [some (sR v0), u1, u2, some (sI v3), some (sI v4)] [] g 0 0 := by
  intro v4 h4 g hg u1 w1 u2 w2
  unfold bO_putDuties_9
  refine go_iload k229_9 rfl ?_
  refine go_int k229_11 8 rfl ?_
  refine go_cmlt k229_13 h4 (inR_of (by decide)) (fun c6 => ?_) (fun c7 => ?_)
  · refine go_iload k229_16 rfl ?_
    refine go_iload k229_17 rfl ?_
    refine go_ibin k229_19 ?_
    refine go_int k229_20 1 rfl ?_
    refine go_ibin k229_21 ?_
    refine go_ifeq k229_22 (inR_opI _ _ _) (fun c8 => ?_) (fun c9 => ?_)
    · refine go_iinc k229_31 rfl rfl 1 rfl (loc2 := [some (sR v0), u1, u2, some (sI v3), some (sI (w32 (v4 + 1)))]) rfl ?_
      refine go_goto k229_34 ?_
      exact HX9 (w32 (v4 + 1)) (inR_w32 _) g hg u1 w1 u2 w2
    · refine go_aload k229_25 rfl ?_
      refine go_iload k229_26 rfl ?_
      refine go_callN0 k229_28 rfl rfl rfl ⟨by decide, _, rfl, hK0⟩ ⟨Nat.zero_le _, Nat.zero_le _⟩ (by omega) (tfO_putNumber (by omega) hg hK0  h4) (fun y10 g12 e13 => ?_)
      refine go_iinc k229_31 rfl rfl 1 rfl (loc2 := [some (sR v0), u1, u2, some (sI v3), some (sI (w32 (v4 + 1)))]) rfl ?_
      refine go_goto k229_34 ?_
      exact HX9 (w32 (v4 + 1)) (inR_w32 _) g12 e13 u1 w1 u2 w2
  · exact go_vret k229_37 hg ⟨Nat.zero_le _, Nat.zero_le _⟩ rfl
theorem tlO_putDuties_9 {Φ : ev_P} {d : Nat} (hd : 2 ≤ d) {v0 v3 : Int} (hK0 : kd v0 = 2) (h3 : InR v3) : ∀ n : Nat, ∀ (v4 : Int) (h4 : InR v4) (g : gH) (hg : HR g) (u1 : Option ev_V) (w1 : nwo u1) (u2 : Option ev_V) (w2 : nwo u2), Go Φ pr_P fN 0 (lO_putDuties_9 v0 v3 n v4 g) d pr_m229 9 [some (sR v0), u1, u2, some (sI v3), some (sI v4)] [] g 0 0 := by
  intro n
  induction n with
  | zero => intros; exact go_none
  | succ n ih => exact tbO_putDuties_9 hd hK0 h3 ih
theorem tfO_putDuties {Φ : ev_P} {d : Nat} (hd : 2 ≤ d) {g : gH} (hg : HR g) {v0 v1 v2 : Int} (hK0 : kd v0 = 2) (h1 : RfR v1) (h2 : RfR v2) : Go Φ pr_P fN 0 (fO_putDuties g v0 v1 v2) d (pr_P 229) 0 (ev_loc (pr_P 229).1 [(sR v0), (sR v1), (sR v2)]) [] g 0 0 := by
  show Go Φ pr_P fN 0 (fO_putDuties g v0 v1 v2) d pr_m229 0 [some (sR v0), some (sR v1), some (sR v2), none, none] [] g 0 0
  unfold fO_putDuties
  refine go_aload k229_0 rfl ?_
  refine go_aload k229_1 rfl ?_
  refine go_ck (fun q1 => ?_)
  refine go_callP1 k229_2 rfl rfl rfl ⟨by decide, _, rfl, q1⟩ ⟨Nat.zero_le _, Nat.zero_le _⟩ (by omega) (tfT_dutiesOf (by omega) hg q1  h2) (fun y2 r3 => ?_)
  refine go_istore k229_5 rfl (loc2 := [some (sR v0), some (sR v1), some (sR v2), some (sI y2), none]) rfl ?_
  refine go_int k229_6 0 rfl ?_
  refine go_istore k229_7 rfl (loc2 := [some (sR v0), some (sR v1), some (sR v2), some (sI y2), some (sI 0)]) rfl ?_
  exact tlO_putDuties_9 hd hK0 r3 fu 0 (inR_b (Or.inl rfl)) g hg (some (sR v1)) rfl (some (sR v2)) rfl
theorem tbO_putZombies_10 {Φ : ev_P} {d : Nat} (hd : 2 ≤ d) {v0 v1 v2 : Int} (hK0 : kd v0 = 2) (h1 : RfR v1) (h2 : RfR v2) {X10 : Int → Int → gH → Option (Int × gH)} (HX10 : ∀ (v3 : Int) (h3 : RfR v3) (v4 : Int) (h4 : InR v4) (g : gH) (hg : HR g), Go Φ pr_P fN 0 (X10 v3 v4 g) d pr_m230 10 [some (sR v0), some (sR v1), some (sR v2), some (sR v3), some (sI v4)] [] g 0 0) : ∀ (v3 : Int) (h3 : RfR v3) (v4 : Int) (h4 : InR v4) (g : gH) (hg : HR g), Go Φ pr_P fN 0 (bO_putZombies_10 v0 v1 v2 X10 v3 v4 g) d pr_m230 10 [some (sR v0), some (sR v1), some (sR v2), some (sR v3), some (sI v4)] [] g 0 0 := by
  intro v3 h3 v4 h4 g hg
  unfold bO_putZombies_10
  refine go_iload k230_10 rfl ?_
  refine go_int k230_12 40 rfl ?_
  refine go_cmlt k230_14 h4 (inR_of (by decide)) (fun c6 => ?_) (fun c7 => ?_)
  · refine go_aload k230_17 rfl ?_
    refine go_isnull k230_18  (fun c8 => ?_) (fun c9 => ?_)
    · exact go_vret k230_63 hg ⟨Nat.zero_le _, Nat.zero_le _⟩ rfl
    · refine go_aload k230_21 rfl ?_
      refine go_callN0 k230_22 rfl rfl rfl ⟨by decide, _, rfl, hK0⟩ ⟨Nat.zero_le _, Nat.zero_le _⟩ (by omega) (tfO_putComma (by omega) hg hK0 ) (fun y10 g12 e13 => ?_)
      refine go_aload k230_25 rfl ?_
      refine go_aload k230_26 rfl ?_
      refine go_ck (fun q14 => ?_)
      refine go_getI (bI := 0) k230_27 e13 q14 (by decide) rfl rfl (fun r15 => ?_)
      refine go_callN0 k230_30 rfl rfl rfl ⟨by decide, _, rfl, hK0⟩ ⟨Nat.zero_le _, Nat.zero_le _⟩ (by omega) (tfO_putNumber (by omega) e13 hK0  r15) (fun y16 g18 e19 => ?_)
      refine go_aload k230_33 rfl ?_
      refine go_int k230_34 58 rfl ?_
      refine go_callN0 k230_36 rfl rfl rfl ⟨by decide, _, rfl, hK0⟩ ⟨Nat.zero_le _, Nat.zero_le _⟩ (by omega) (tfO_putSign (by omega) e19 hK0  (inR_of (by decide))) (fun y20 g22 e23 => ?_)
      refine go_aload k230_39 rfl ?_
      refine go_aload k230_40 rfl ?_
      refine go_getI (bI := 9) k230_41 e23 q14 (by decide) rfl rfl (fun r24 => ?_)
      refine go_callN0 k230_44 rfl rfl rfl ⟨by decide, _, rfl, hK0⟩ ⟨Nat.zero_le _, Nat.zero_le _⟩ (by omega) (tfO_putNumber (by omega) e23 hK0  r24) (fun y25 g27 e28 => ?_)
      refine go_aload k230_47 rfl ?_
      refine go_aload k230_48 rfl ?_
      refine go_aload k230_49 rfl ?_
      refine go_getI (bI := 10) k230_50 e28 q14 (by decide) rfl rfl (fun r29 => ?_)
      refine go_ck (fun q30 => ?_)
      refine go_callP2 k230_53 rfl rfl rfl ⟨by decide, _, rfl, q30⟩ ⟨Nat.zero_le _, Nat.zero_le _⟩ (by omega) (tfT_zombieBehind (by omega) e28 q30  h2 r29) (fun y31 r32 => ?_)
      refine go_astore k230_56 rfl (loc2 := [some (sR v0), some (sR v1), some (sR v2), some (sR y31), some (sI v4)]) rfl ?_
      refine go_iinc k230_57 rfl rfl 1 rfl (loc2 := [some (sR v0), some (sR v1), some (sR v2), some (sR y31), some (sI (w32 (v4 + 1)))]) rfl ?_
      refine go_goto k230_60 ?_
      exact HX10 y31 r32 (w32 (v4 + 1)) (inR_w32 _) g27 e28
  · exact go_vret k230_63 hg ⟨Nat.zero_le _, Nat.zero_le _⟩ rfl
theorem tlO_putZombies_10 {Φ : ev_P} {d : Nat} (hd : 2 ≤ d) {v0 v1 v2 : Int} (hK0 : kd v0 = 2) (h1 : RfR v1) (h2 : RfR v2) : ∀ n : Nat, ∀ (v3 : Int) (h3 : RfR v3) (v4 : Int) (h4 : InR v4) (g : gH) (hg : HR g), Go Φ pr_P fN 0 (lO_putZombies_10 v0 v1 v2 n v3 v4 g) d pr_m230 10 [some (sR v0), some (sR v1), some (sR v2), some (sR v3), some (sI v4)] [] g 0 0 := by
  intro n
  induction n with
  | zero => intros; exact go_none
  | succ n ih => exact tbO_putZombies_10 hd hK0 h1 h2 ih
theorem tfO_putZombies {Φ : ev_P} {d : Nat} (hd : 2 ≤ d) {g : gH} (hg : HR g) {v0 v1 v2 : Int} (hK0 : kd v0 = 2) (h1 : RfR v1) (h2 : RfR v2) : Go Φ pr_P fN 0 (fO_putZombies g v0 v1 v2) d (pr_P 230) 0 (ev_loc (pr_P 230).1 [(sR v0), (sR v1), (sR v2)]) [] g 0 0 := by
  show Go Φ pr_P fN 0 (fO_putZombies g v0 v1 v2) d pr_m230 0 [some (sR v0), some (sR v1), some (sR v2), none, none] [] g 0 0
  unfold fO_putZombies
  refine go_aload k230_0 rfl ?_
  refine go_aload k230_1 rfl ?_
  refine go_int k230_2 (-1) rfl ?_
  refine go_ck (fun q1 => ?_)
  refine go_callP2 k230_3 rfl rfl rfl ⟨by decide, _, rfl, q1⟩ ⟨Nat.zero_le _, Nat.zero_le _⟩ (by omega) (tfT_zombieBehind (by omega) hg q1  h2 (inR_of (by decide))) (fun y2 r3 => ?_)
  refine go_astore k230_6 rfl (loc2 := [some (sR v0), some (sR v1), some (sR v2), some (sR y2), none]) rfl ?_
  refine go_int k230_7 0 rfl ?_
  refine go_istore k230_8 rfl (loc2 := [some (sR v0), some (sR v1), some (sR v2), some (sR y2), some (sI 0)]) rfl ?_
  exact tlO_putZombies_10 hd hK0 h1 h2 fu y2 r3 0 (inR_b (Or.inl rfl)) g hg
theorem tjC_print_137 {Φ : ev_P} {d : Nat} (hd : 64 ≤ d) {g : gH} (hg : HR g) {v0 : Int} (hK0 : kd v0 = 6) (u1 : Option ev_V) (w1 : nwo u1) (u2 : Option ev_V) (w2 : nwo u2) (u3 : Option ev_V) (w3 : nwo u3) : Go Φ pr_P fT 1 (jC_print_137 g v0 ) d pr_m60 137 [some (sR v0), u1, u2, u3] [] g 3 18 := by
  unfold jC_print_137
  refine go_aload k60_137 rfl ?_
  refine go_getR (bI := 5) k60_138 hg hK0 (by decide) rfl rfl (fun r68 => ?_)
  refine go_ck (fun q69 => ?_)
  refine go_getI (bI := 1) k60_141 hg q69 (by decide) rfl rfl (fun r70 => ?_)
  refine go_ifeq k60_144 r70 (fun c71 => ?_) (fun c72 => ?_)
  · refine go_aload k60_147 rfl ?_
    refine go_getR (bI := 5) k60_148 hg hK0 (by decide) rfl rfl (fun r73 => ?_)
    refine go_int k60_151 45 rfl ?_
    refine go_callN0 k60_153 rfl rfl rfl ⟨by decide, _, rfl, q69⟩ ⟨by decide, by decide⟩ (by omega) (tfO_putSign (by omega) hg q69  (inR_of (by decide))) (fun y74 g76 e77 => ?_)
    refine go_aload k60_156 rfl ?_
    refine go_getR (bI := 5) k60_157 e77 hK0 (by decide) rfl rfl (fun r78 => ?_)
    refine go_ck (fun q79 => ?_)
    refine go_getI (bI := 1) k60_160 e77 q79 (by decide) rfl rfl (fun r80 => ?_)
    exact go_iret k60_163 e77 r80 ⟨by decide, by decide⟩ rfl
  · refine go_aload k60_156 rfl ?_
    refine go_getR (bI := 5) k60_157 hg hK0 (by decide) rfl rfl (fun r81 => ?_)
    refine go_getI (bI := 1) k60_160 hg q69 (by decide) rfl rfl (fun r82 => ?_)
    exact go_iret k60_163 hg r82 ⟨by decide, by decide⟩ rfl
theorem tjC_print_24 {Φ : ev_P} {d : Nat} (hd : 64 ≤ d) {g : gH} (hg : HR g) {v0 v2 v3 : Int} (hK0 : kd v0 = 6) (h2 : InR v2) (h3 : RfR v3) {s0 : Int} (z0 : B01 s0) (u1 : Option ev_V) (w1 : nwo u1) : Go Φ pr_P fT 1 (jC_print_24 g v0 v2 v3 s0 ) d pr_m60 24 [some (sR v0), u1, some (sI v2), some (sR v3)] [(sI s0)] g 2 12 := by
  unfold jC_print_24
  refine go_callQ0 k60_24 rfl rfl rfl trivial ⟨by decide, by decide⟩ (by omega) (tfC_checkState (by omega) hg  z0) (fun y17 => ?_) (fun e21 E22 => ge_prop rfl ⟨by decide, by decide⟩ e21 rfl)
  refine go_aload k60_27 rfl ?_
  refine go_getR (bI := 5) k60_28 hg hK0 (by decide) rfl rfl (fun r23 => ?_)
  refine go_int k60_31 0 rfl ?_
  refine go_ck (fun q24 => ?_)
  refine go_putI (bI := 1) k60_32 hg q24 (by decide) rfl rfl (inR_b (Or.inl rfl)) (fun g25 e26 => ?_)
  refine go_iload k60_35 rfl ?_
  refine go_ite (fun c27 => ?_) (fun c28 => ?_)
  · refine go_swh (lo := 0) (hi := 3) (i := 0) k60_36 rfl rfl (by omega) (by omega) rfl ?_
    refine go_aload k60_68 rfl ?_
    refine go_getR (bI := 5) k60_69 e26 hK0 (by decide) rfl rfl (fun r29 => ?_)
    refine go_aload k60_72 rfl ?_
    refine go_ck (fun q30 => ?_)
    refine go_callN0 k60_73 rfl rfl rfl ⟨by decide, _, rfl, q30⟩ ⟨by decide, by decide⟩ (by omega) (tfO_putPath (by omega) e26 q30  h3) (fun y31 g33 e34 => ?_)
    refine go_goto k60_76 ?_
    exact tjC_print_137 hd e34 hK0 u1 w1 (some (sI v2)) rfl (some (sR v3)) rfl
  refine go_ite (fun c35 => ?_) (fun c36 => ?_)
  · refine go_swh (lo := 0) (hi := 3) (i := 1) k60_36 rfl rfl (by omega) (by omega) rfl ?_
    refine go_aload k60_79 rfl ?_
    refine go_getR (bI := 5) k60_80 e26 hK0 (by decide) rfl rfl (fun r37 => ?_)
    refine go_aload k60_83 rfl ?_
    refine go_getR (bI := 0) k60_84 e26 hK0 (by decide) rfl rfl (fun r38 => ?_)
    refine go_aload k60_87 rfl ?_
    refine go_ck (fun q39 => ?_)
    refine go_callN0 k60_88 rfl rfl rfl ⟨by decide, _, rfl, q39⟩ ⟨by decide, by decide⟩ (by omega) (tfO_putChildren (by omega) e26 q39  r38 h3) (fun y40 g42 e43 => ?_)
    refine go_goto k60_91 ?_
    exact tjC_print_137 hd e43 hK0 u1 w1 (some (sI v2)) rfl (some (sR v3)) rfl
  refine go_ite (fun c44 => ?_) (fun c45 => ?_)
  · refine go_swh (lo := 0) (hi := 3) (i := 2) k60_36 rfl rfl (by omega) (by omega) rfl ?_
    refine go_aload k60_94 rfl ?_
    refine go_getR (bI := 5) k60_95 e26 hK0 (by decide) rfl rfl (fun r46 => ?_)
    refine go_aload k60_98 rfl ?_
    refine go_getR (bI := 0) k60_99 e26 hK0 (by decide) rfl rfl (fun r47 => ?_)
    refine go_aload k60_102 rfl ?_
    refine go_int k60_103 0 rfl ?_
    refine go_callN0 k60_104 rfl rfl rfl trivial ⟨by decide, by decide⟩ (by omega) (tfC_putBranch (by omega) e26  r46 r47 h3 (inR_b (Or.inl rfl))) (fun y48 g50 e51 => ?_)
    refine go_goto k60_107 ?_
    exact tjC_print_137 hd e51 hK0 u1 w1 (some (sI v2)) rfl (some (sR v3)) rfl
  refine go_ite (fun c52 => ?_) (fun c53 => ?_)
  · refine go_swh (lo := 0) (hi := 3) (i := 3) k60_36 rfl rfl (by omega) (by omega) rfl ?_
    refine go_aload k60_110 rfl ?_
    refine go_getR (bI := 5) k60_111 e26 hK0 (by decide) rfl rfl (fun r54 => ?_)
    refine go_aload k60_114 rfl ?_
    refine go_getR (bI := 0) k60_115 e26 hK0 (by decide) rfl rfl (fun r55 => ?_)
    refine go_aload k60_118 rfl ?_
    refine go_ck (fun q56 => ?_)
    refine go_callN0 k60_119 rfl rfl rfl ⟨by decide, _, rfl, q56⟩ ⟨by decide, by decide⟩ (by omega) (tfO_putDuties (by omega) e26 q56  r55 h3) (fun y57 g59 e60 => ?_)
    refine go_goto k60_122 ?_
    exact tjC_print_137 hd e60 hK0 u1 w1 (some (sI v2)) rfl (some (sR v3)) rfl
  refine go_swd (lo := 0) (hi := 3) k60_36 rfl rfl h2 (by omega) (by omega) ?_
  refine go_aload k60_125 rfl ?_
  refine go_getR (bI := 5) k60_126 e26 hK0 (by decide) rfl rfl (fun r61 => ?_)
  refine go_aload k60_129 rfl ?_
  refine go_getR (bI := 0) k60_130 e26 hK0 (by decide) rfl rfl (fun r62 => ?_)
  refine go_aload k60_133 rfl ?_
  refine go_ck (fun q63 => ?_)
  refine go_callN0 k60_134 rfl rfl rfl ⟨by decide, _, rfl, q63⟩ ⟨by decide, by decide⟩ (by omega) (tfO_putZombies (by omega) e26 q63  r62 h3) (fun y64 g66 e67 => ?_)
  exact tjC_print_137 hd e67 hK0 u1 w1 (some (sI v2)) rfl (some (sR v3)) rfl
theorem tfC_print {Φ : ev_P} {d : Nat} (hd : 64 ≤ d) {g : gH} (hg : HR g) {v0 v1 v2 : Int} (hK0 : kd v0 = 6) (h1 : InR v1) (h2 : InR v2) : Go Φ pr_P fT 1 (fC_print g v0 v1 v2) d (pr_P 60) 0 (ev_loc (pr_P 60).1 [(sR v0), (sI v1), (sI v2)]) [] g 0 0 := by
  show Go Φ pr_P fT 1 (fC_print g v0 v1 v2) d pr_m60 0 [some (sR v0), some (sI v1), some (sI v2), none] [] g 0 0
  unfold fC_print
  refine go_aload k60_0 rfl ?_
  refine go_iload k60_1 rfl ?_
  refine go_callQ2 k60_2 rfl rfl rfl ⟨by decide, _, rfl, hK0⟩ ⟨by decide, by decide⟩ (by omega) (tfC_named (by omega) hg hK0  h1) (fun y1 r2 => ?_) (fun e5 E6 => ge_prop rfl ⟨by decide, by decide⟩ e5 rfl)
  refine go_astore k60_5 rfl (loc2 := [some (sR v0), some (sI v1), some (sI v2), some (sR y1)]) rfl ?_
  refine go_iload k60_6 rfl ?_
  refine go_int k60_7 4 rfl ?_
  refine go_callQ0 k60_8 rfl rfl rfl trivial ⟨by decide, by decide⟩ (by omega) (tfC_checkRange (by omega) hg  h2 (inR_of (by decide))) (fun y7 => ?_) (fun e11 E12 => ge_prop rfl ⟨by decide, by decide⟩ e11 rfl)
  refine go_aload k60_11 rfl ?_
  refine go_ck (fun q13 => ?_)
  refine go_getI (bI := 1) k60_12 hg q13 (by decide) rfl rfl (fun r14 => ?_)
  refine go_int k60_15 2 rfl ?_
  refine go_cmeq k60_16 r14 (inR_of (by decide)) (fun c15 => ?_) (fun c16 => ?_)
  · refine go_int k60_23 0 rfl ?_
    exact tjC_print_24 hd hg hK0 h2 r2 (Or.inl rfl) (some (sI v1)) rfl
  · refine go_int k60_19 1 rfl ?_
    refine go_goto k60_20 ?_
    exact tjC_print_24 hd hg hK0 h2 r2 (Or.inr rfl) (some (sI v1)) rfl
theorem tfW_print {Φ : ev_P} {d : Nat} (hd : 65 ≤ d) {g : gH} (hg : HR g) {v0 v1 v2 v3 : Int} (h0 : RfR v0) (h1 : InR v1) (h2 : InR v2) (h3 : RfR v3) : Go Φ pr_P fN 1 (fW_print g v0 v1 v2 v3) d (pr_P 350) 0 (ev_loc (pr_P 350).1 [(sR v0), (sI v1), (sI v2), (sR v3)]) [] g 0 0 := by
  show Go Φ pr_P fN 1 (fW_print g v0 v1 v2 v3) d pr_m350 0 [some (sR v0), some (sI v1), some (sI v2), some (sR v3), none] [] g 0 0
  unfold fW_print
  refine go_aload k350_0 rfl ?_
  refine go_int k350_1 0 rfl ?_
  refine go_aload k350_2 rfl ?_
  refine go_iload k350_3 rfl ?_
  refine go_iload k350_4 rfl ?_
  refine go_ck (fun q1 => ?_)
  refine go_callT1 k350_5 rfl rfl rfl ⟨by decide, _, rfl, q1⟩ ⟨by decide, by decide⟩ (by omega) (tfC_print (by omega) hg q1  h1 h2) (fun y2 g4 r3 e5 => ?_) (fun E7 g4 e6 => ?_)
  · refine go_i2l k350_8 r3 ?_
    refine go_ck (fun q8 => ?_)
    refine go_last k350_9 e5 q8 (inL_R r3) (fun g9 e10 => ?_)
    refine go_goto k350_10 ?_
    refine go_int k350_25 0 rfl ?_
    exact go_iret k350_26 e10 (inR_b (Or.inl rfl)) ⟨by decide, by decide⟩ rfl
  · refine ge_ite (fun hE9 => ?_) (fun _ => ?_)
    · subst hE9
      refine ge_catch rfl k350_13 rfl (loc2 := [some (sR v0), some (sI v1), some (sI v2), some (sR v3), none]) rfl ?_
      refine go_int k350_15 1 rfl ?_
      exact go_iret k350_16 e6 (inR_b (Or.inr rfl)) ⟨by decide, by decide⟩ rfl
    refine ge_ite (fun hE9 => ?_) (fun _ => ?_)
    · subst hE9
      refine ge_catch rfl k350_17 rfl (loc2 := [some (sR v0), some (sI v1), some (sI v2), some (sR v3), none]) rfl ?_
      refine go_int k350_19 2 rfl ?_
      exact go_iret k350_20 e6 (inR_of (by decide)) ⟨by decide, by decide⟩ rfl
    refine ge_ite (fun hE9 => ?_) (fun _ => ?_)
    · subst hE9
      refine ge_catch rfl k350_21 rfl (loc2 := [some (sR v0), some (sI v1), some (sI v2), some (sR v3), none]) rfl ?_
      refine go_int k350_23 3 rfl ?_
      exact go_iret k350_24 e6 (inR_of (by decide)) ⟨by decide, by decide⟩ rfl
    exact ge_none
theorem tfC_restoreState {Φ : ev_P} {d : Nat} (hd : 2 ≤ d) {g : gH} (hg : HR g) {v0 : Int} (hK0 : kd v0 = 6) : Go Φ pr_P fT 1 (fC_restoreState g v0) d (pr_P 64) 0 (ev_loc (pr_P 64).1 [(sR v0)]) [] g 0 0 := by
  show Go Φ pr_P fT 1 (fC_restoreState g v0) d pr_m64 0 [some (sR v0)] [] g 0 0
  unfold fC_restoreState
  refine go_aload k64_0 rfl ?_
  refine go_getB (bI := 6) k64_1 hg hK0 (by decide) rfl rfl (fun r1 => ?_)
  refine go_callQ0 k64_4 rfl rfl rfl trivial ⟨by decide, by decide⟩ (by omega) (tfC_checkState (by omega) hg  r1) (fun y2 => ?_) (fun e6 E7 => ge_prop rfl ⟨by decide, by decide⟩ e6 rfl)
  refine go_aload k64_7 rfl ?_
  refine go_getR (bI := 0) k64_8 hg hK0 (by decide) rfl rfl (fun r8 => ?_)
  refine go_aload k64_11 rfl ?_
  refine go_getR (bI := 2) k64_12 hg hK0 (by decide) rfl rfl (fun r9 => ?_)
  refine go_ck (fun q10 => ?_)
  refine go_callN0 k64_15 rfl rfl rfl ⟨by decide, _, rfl, q10⟩ ⟨by decide, by decide⟩ (by omega) (tfT_take (by omega) hg q10  r9) (fun y11 g13 e14 => ?_)
  refine go_aload k64_18 rfl ?_
  refine go_getR (bI := 3) k64_19 e14 hK0 (by decide) rfl rfl (fun r15 => ?_)
  refine go_int k64_22 0 rfl ?_
  refine go_ck (fun q16 => ?_)
  refine go_putI (bI := 1) k64_23 e14 q16 (by decide) rfl rfl (inR_b (Or.inl rfl)) (fun g17 e18 => ?_)
  refine go_aload k64_26 rfl ?_
  refine go_getR (bI := 0) k64_27 e18 hK0 (by decide) rfl rfl (fun r19 => ?_)
  refine go_int k64_30 0 rfl ?_
  refine go_ck (fun q20 => ?_)
  refine go_callP1 k64_31 rfl rfl rfl ⟨by decide, _, rfl, q20⟩ ⟨by decide, by decide⟩ (by omega) (tfT_countInState (by omega) e18 q20  (inR_b (Or.inl rfl))) (fun y21 r22 => ?_)
  exact go_iret k64_34 e18 r22 ⟨by decide, by decide⟩ rfl
theorem tfW_restoreState {Φ : ev_P} {d : Nat} (hd : 3 ≤ d) {g : gH} (hg : HR g) {v0 v1 : Int} (h0 : RfR v0) (h1 : RfR v1) : Go Φ pr_P fN 1 (fW_restoreState g v0 v1) d (pr_P 351) 0 (ev_loc (pr_P 351).1 [(sR v0), (sR v1)]) [] g 0 0 := by
  show Go Φ pr_P fN 1 (fW_restoreState g v0 v1) d pr_m351 0 [some (sR v0), some (sR v1), none] [] g 0 0
  unfold fW_restoreState
  refine go_aload k351_0 rfl ?_
  refine go_int k351_1 0 rfl ?_
  refine go_aload k351_2 rfl ?_
  refine go_ck (fun q1 => ?_)
  refine go_callT1 k351_3 rfl rfl rfl ⟨by decide, _, rfl, q1⟩ ⟨by decide, by decide⟩ (by omega) (tfC_restoreState (by omega) hg q1 ) (fun y2 g4 r3 e5 => ?_) (fun E7 g4 e6 => ?_)
  · refine go_i2l k351_6 r3 ?_
    refine go_ck (fun q8 => ?_)
    refine go_last k351_7 e5 q8 (inL_R r3) (fun g9 e10 => ?_)
    refine go_goto k351_8 ?_
    refine go_int k351_14 0 rfl ?_
    exact go_iret k351_15 e10 (inR_b (Or.inl rfl)) ⟨by decide, by decide⟩ rfl
  · refine ge_ite (fun hE9 => ?_) (fun _ => ?_)
    · subst hE9
      refine ge_catch rfl k351_11 rfl (loc2 := [some (sR v0), some (sR v1), none]) rfl ?_
      refine go_int k351_12 1 rfl ?_
      exact go_iret k351_13 e6 (inR_b (Or.inr rfl)) ⟨by decide, by decide⟩ rfl
    exact ge_none
