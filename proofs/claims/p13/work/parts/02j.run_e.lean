/-! ===== the evaluator comes to what the functions tell (own work, by program: wip/p2/dec.py) ===== -/
theorem tbM_overfull_9 {Φ : ev_P} {d : Nat} (hd : 2 ≤ d) {g : gH} (hg : HR g) {v0 : Int} (hK0 : kd v0 = 7) {X9 : Int → Int → Option (Int × gH)} (HX9 : ∀ (v1 : Int) (h1 : InR v1) (v2 : Int) (h2 : InR v2), Go Φ pr_P fN 1 (X9 v1 v2) d pr_m192 9 [some (sR v0), some (sI v1), some (sI v2)] [] g 0 0) : ∀ (v1 : Int) (h1 : InR v1) (v2 : Int) (h2 : InR v2), Go Φ pr_P fN 1 (bM_overfull_9 g v0 X9 v1 v2) d pr_m192 9 [some (sR v0), some (sI v1), some (sI v2)] [] g 0 0 := by
  intro v1 h1 v2 h2
  unfold bM_overfull_9
  refine go_iload k192_9 rfl ?_
  refine go_aload k192_10 rfl ?_
  refine go_getR (bI := 0) k192_11 hg hK0 (by decide) rfl rfl (fun r3 => ?_)
  refine go_int k192_14 0 rfl ?_
  refine go_ck (fun q5 => ?_)
  refine go_iald k192_15 hg q5 (fun r4 => ?_)
  refine go_cmlt k192_16 h2 r4 (fun c6 => ?_) (fun c7 => ?_)
  · refine go_iload k192_19 rfl ?_
    refine go_aload k192_20 rfl ?_
    refine go_iload k192_21 rfl ?_
    refine go_callP3 k192_22 rfl rfl rfl ⟨by decide, _, rfl, hK0⟩ ⟨Nat.zero_le _, Nat.zero_le _⟩ (by omega) (tfM_runs (by omega) hg hK0  h2) (fun y8 r9 => ?_)
    refine go_ifeq k192_25 (inR_b r9) (fun c12 => ?_) (fun c13 => ?_)
    · refine go_int k192_50 0 rfl ?_
      refine go_iadd k192_51 ?_
      refine go_istore k192_52 rfl (loc2 := [some (sR v0), some (sI (w32 (v1 + 0))), some (sI v2)]) rfl ?_
      refine go_iinc k192_53 rfl rfl 1 rfl (loc2 := [some (sR v0), some (sI (w32 (v1 + 0))), some (sI (w32 (v2 + 1)))]) rfl ?_
      refine go_goto k192_56 ?_
      exact HX9 (w32 (v1 + 0)) (inR_w32 _) (w32 (v2 + 1)) (inR_w32 _)
    · refine go_aload k192_28 rfl ?_
      refine go_iload k192_29 rfl ?_
      refine go_int k192_30 0 rfl ?_
      refine go_callP1 k192_31 rfl rfl rfl ⟨by decide, _, rfl, hK0⟩ ⟨Nat.zero_le _, Nat.zero_le _⟩ (by omega) (tfM_childrenOf (by omega) hg hK0  h2 (inR_b (Or.inl rfl))) (fun y14 r15 => ?_)
      refine go_aload k192_34 rfl ?_
      refine go_getR (bI := 0) k192_35 hg hK0 (by decide) rfl rfl (fun r18 => ?_)
      refine go_int k192_38 100 rfl ?_
      refine go_iload k192_40 rfl ?_
      refine go_iadd k192_41 ?_
      refine go_ck (fun q20 => ?_)
      refine go_iald k192_42 hg q20 (fun r19 => ?_)
      refine go_cmgt k192_43 r15 r19 (fun c21 => ?_) (fun c22 => ?_)
      · refine go_int k192_46 1 rfl ?_
        refine go_goto k192_47 ?_
        refine go_iadd k192_51 ?_
        refine go_istore k192_52 rfl (loc2 := [some (sR v0), some (sI (w32 (v1 + 1))), some (sI v2)]) rfl ?_
        refine go_iinc k192_53 rfl rfl 1 rfl (loc2 := [some (sR v0), some (sI (w32 (v1 + 1))), some (sI (w32 (v2 + 1)))]) rfl ?_
        refine go_goto k192_56 ?_
        exact HX9 (w32 (v1 + 1)) (inR_w32 _) (w32 (v2 + 1)) (inR_w32 _)
      · refine go_int k192_50 0 rfl ?_
        refine go_iadd k192_51 ?_
        refine go_istore k192_52 rfl (loc2 := [some (sR v0), some (sI (w32 (v1 + 0))), some (sI v2)]) rfl ?_
        refine go_iinc k192_53 rfl rfl 1 rfl (loc2 := [some (sR v0), some (sI (w32 (v1 + 0))), some (sI (w32 (v2 + 1)))]) rfl ?_
        refine go_goto k192_56 ?_
        exact HX9 (w32 (v1 + 0)) (inR_w32 _) (w32 (v2 + 1)) (inR_w32 _)
  · refine go_iload k192_59 rfl ?_
    exact go_iret k192_60 hg h1 ⟨Nat.zero_le _, Nat.zero_le _⟩ rfl
theorem tlM_overfull_9 {Φ : ev_P} {d : Nat} (hd : 2 ≤ d) {g : gH} (hg : HR g) {v0 : Int} (hK0 : kd v0 = 7) : ∀ n : Nat, ∀ (v1 : Int) (h1 : InR v1) (v2 : Int) (h2 : InR v2), Go Φ pr_P fN 1 (lM_overfull_9 g v0 n v1 v2) d pr_m192 9 [some (sR v0), some (sI v1), some (sI v2)] [] g 0 0 := by
  intro n
  induction n with
  | zero => intros; exact go_none
  | succ n ih => exact tbM_overfull_9 hd hg hK0 ih
theorem tfM_overfull {Φ : ev_P} {d : Nat} (hd : 2 ≤ d) {g : gH} (hg : HR g) {v0 : Int} (hK0 : kd v0 = 7) : Go Φ pr_P fN 1 (fM_overfull g v0) d (pr_P 192) 0 (ev_loc (pr_P 192).1 [(sR v0)]) [] g 0 0 := by
  show Go Φ pr_P fN 1 (fM_overfull g v0) d pr_m192 0 [some (sR v0), none, none] [] g 0 0
  unfold fM_overfull
  refine go_aload k192_0 rfl ?_
  refine go_int k192_1 0 rfl ?_
  refine go_putI (bI := 8) k192_2 hg hK0 (by decide) rfl rfl (inR_b (Or.inl rfl)) (fun g1 e2 => ?_)
  refine go_int k192_5 0 rfl ?_
  refine go_istore k192_6 rfl (loc2 := [some (sR v0), some (sI 0), none]) rfl ?_
  refine go_int k192_7 0 rfl ?_
  refine go_istore k192_8 rfl (loc2 := [some (sR v0), some (sI 0), some (sI 0)]) rfl ?_
  exact tlM_overfull_9 hd e2 hK0 fu 0 (inR_b (Or.inl rfl)) 0 (inR_b (Or.inl rfl))
theorem tbM_ofGroup_31 {Φ : ev_P} {d : Nat} (hd : 2 ≤ d) {g : gH} (hg : HR g) {v0 v1 : Int} (hK0 : kd v0 = 7) (h1 : InR v1) {X31 : Int → Int → Option (Int × gH)} (HX31 : ∀ (v2 : Int) (h2 : InR v2) (v3 : Int) (h3 : InR v3), Go Φ pr_P fN 1 (X31 v2 v3) d pr_m193 31 [some (sR v0), some (sI v1), some (sI v2), some (sI v3)] [] g 0 0) : ∀ (v2 : Int) (h2 : InR v2) (v3 : Int) (h3 : InR v3), Go Φ pr_P fN 1 (bM_ofGroup_31 g v0 v1 X31 v2 v3) d pr_m193 31 [some (sR v0), some (sI v1), some (sI v2), some (sI v3)] [] g 0 0 := by
  intro v2 h2 v3 h3
  unfold bM_ofGroup_31
  refine go_iload k193_31 rfl ?_
  refine go_aload k193_32 rfl ?_
  refine go_getR (bI := 0) k193_33 hg hK0 (by decide) rfl rfl (fun r16 => ?_)
  refine go_int k193_36 0 rfl ?_
  refine go_ck (fun q18 => ?_)
  refine go_iald k193_37 hg q18 (fun r17 => ?_)
  refine go_cmlt k193_38 h3 r17 (fun c19 => ?_) (fun c20 => ?_)
  · refine go_iload k193_41 rfl ?_
    refine go_aload k193_42 rfl ?_
    refine go_iload k193_43 rfl ?_
    refine go_callP3 k193_44 rfl rfl rfl ⟨by decide, _, rfl, hK0⟩ ⟨Nat.zero_le _, Nat.zero_le _⟩ (by omega) (tfM_runs (by omega) hg hK0  h3) (fun y21 r22 => ?_)
    refine go_ifeq k193_47 (inR_b r22) (fun c25 => ?_) (fun c26 => ?_)
    · refine go_int k193_68 0 rfl ?_
      refine go_iadd k193_69 ?_
      refine go_istore k193_70 rfl (loc2 := [some (sR v0), some (sI v1), some (sI (w32 (v2 + 0))), some (sI v3)]) rfl ?_
      refine go_iinc k193_71 rfl rfl 1 rfl (loc2 := [some (sR v0), some (sI v1), some (sI (w32 (v2 + 0))), some (sI (w32 (v3 + 1)))]) rfl ?_
      refine go_goto k193_74 ?_
      exact HX31 (w32 (v2 + 0)) (inR_w32 _) (w32 (v3 + 1)) (inR_w32 _)
    · refine go_aload k193_50 rfl ?_
      refine go_getR (bI := 0) k193_51 hg hK0 (by decide) rfl rfl (fun r27 => ?_)
      refine go_int k193_54 180 rfl ?_
      refine go_iload k193_57 rfl ?_
      refine go_iadd k193_58 ?_
      refine go_ck (fun q29 => ?_)
      refine go_iald k193_59 hg q29 (fun r28 => ?_)
      refine go_iload k193_60 rfl ?_
      refine go_cmeq k193_61 r28 h1 (fun c30 => ?_) (fun c31 => ?_)
      · refine go_int k193_64 1 rfl ?_
        refine go_goto k193_65 ?_
        refine go_iadd k193_69 ?_
        refine go_istore k193_70 rfl (loc2 := [some (sR v0), some (sI v1), some (sI (w32 (v2 + 1))), some (sI v3)]) rfl ?_
        refine go_iinc k193_71 rfl rfl 1 rfl (loc2 := [some (sR v0), some (sI v1), some (sI (w32 (v2 + 1))), some (sI (w32 (v3 + 1)))]) rfl ?_
        refine go_goto k193_74 ?_
        exact HX31 (w32 (v2 + 1)) (inR_w32 _) (w32 (v3 + 1)) (inR_w32 _)
      · refine go_int k193_68 0 rfl ?_
        refine go_iadd k193_69 ?_
        refine go_istore k193_70 rfl (loc2 := [some (sR v0), some (sI v1), some (sI (w32 (v2 + 0))), some (sI v3)]) rfl ?_
        refine go_iinc k193_71 rfl rfl 1 rfl (loc2 := [some (sR v0), some (sI v1), some (sI (w32 (v2 + 0))), some (sI (w32 (v3 + 1)))]) rfl ?_
        refine go_goto k193_74 ?_
        exact HX31 (w32 (v2 + 0)) (inR_w32 _) (w32 (v3 + 1)) (inR_w32 _)
  · refine go_iload k193_77 rfl ?_
    exact go_iret k193_78 hg h2 ⟨Nat.zero_le _, Nat.zero_le _⟩ rfl
theorem tlM_ofGroup_31 {Φ : ev_P} {d : Nat} (hd : 2 ≤ d) {g : gH} (hg : HR g) {v0 v1 : Int} (hK0 : kd v0 = 7) (h1 : InR v1) : ∀ n : Nat, ∀ (v2 : Int) (h2 : InR v2) (v3 : Int) (h3 : InR v3), Go Φ pr_P fN 1 (lM_ofGroup_31 g v0 v1 n v2 v3) d pr_m193 31 [some (sR v0), some (sI v1), some (sI v2), some (sI v3)] [] g 0 0 := by
  intro n
  induction n with
  | zero => intros; exact go_none
  | succ n ih => exact tbM_ofGroup_31 hd hg hK0 h1 ih
theorem tjM_ofGroup_18 {Φ : ev_P} {d : Nat} (hd : 2 ≤ d) {g : gH} (hg : HR g) {v0 v1 : Int} (hK0 : kd v0 = 7) (h1 : InR v1) {s0 s1 : Int} (z0 : RfR s0) (z1 : B01 s1) (u2 : Option ev_V) (w2 : nwo u2) (u3 : Option ev_V) (w3 : nwo u3) : Go Φ pr_P fN 1 (jM_ofGroup_18 g v0 v1 s0 s1 ) d pr_m193 18 [some (sR v0), some (sI v1), u2, u3] [(sI s1), (sR s0)] g 0 0 := by
  unfold jM_ofGroup_18
  refine go_int k193_18 1 rfl ?_
  refine go_ck (fun q9 => ?_)
  refine go_callN3 k193_19 rfl rfl rfl ⟨by decide, _, rfl, q9⟩ ⟨Nat.zero_le _, Nat.zero_le _⟩ (by omega) (tfM_fails (by omega) hg q9  z1 (inR_b (Or.inr rfl))) (fun y10 g12 r11 e13 => ?_)
  refine go_ifeq k193_22 (inR_b r11) (fun c14 => ?_) (fun c15 => ?_)
  · refine go_int k193_27 0 rfl ?_
    refine go_istore k193_28 rfl (loc2 := [some (sR v0), some (sI v1), some (sI 0), u3]) rfl ?_
    refine go_int k193_29 0 rfl ?_
    refine go_istore k193_30 rfl (loc2 := [some (sR v0), some (sI v1), some (sI 0), some (sI 0)]) rfl ?_
    exact tlM_ofGroup_31 hd e13 hK0 h1 fu 0 (inR_b (Or.inl rfl)) 0 (inR_b (Or.inl rfl))
  · refine go_int k193_25 0 rfl ?_
    exact go_iret k193_26 e13 (inR_b (Or.inl rfl)) ⟨Nat.zero_le _, Nat.zero_le _⟩ rfl
theorem tfM_ofGroup {Φ : ev_P} {d : Nat} (hd : 2 ≤ d) {g : gH} (hg : HR g) {v0 v1 : Int} (hK0 : kd v0 = 7) (h1 : InR v1) : Go Φ pr_P fN 1 (fM_ofGroup g v0 v1) d (pr_P 193) 0 (ev_loc (pr_P 193).1 [(sR v0), (sI v1)]) [] g 0 0 := by
  show Go Φ pr_P fN 1 (fM_ofGroup g v0 v1) d pr_m193 0 [some (sR v0), some (sI v1), none, none] [] g 0 0
  unfold fM_ofGroup
  refine go_aload k193_0 rfl ?_
  refine go_int k193_1 0 rfl ?_
  refine go_putI (bI := 8) k193_2 hg hK0 (by decide) rfl rfl (inR_b (Or.inl rfl)) (fun g1 e2 => ?_)
  refine go_aload k193_5 rfl ?_
  refine go_iload k193_6 rfl ?_
  refine go_callP3 k193_7 rfl rfl rfl trivial ⟨Nat.zero_le _, Nat.zero_le _⟩ (by omega) (tfM_isSmall (by omega) e2  h1) (fun y3 r4 => ?_)
  refine go_ifeq k193_10 (inR_b r4) (fun c7 => ?_) (fun c8 => ?_)
  · refine go_int k193_13 1 rfl ?_
    refine go_goto k193_14 ?_
    exact tjM_ofGroup_18 hd e2 hK0 h1 (rfR_kd hK0 (by decide)) (Or.inr rfl) none rfl none rfl
  · refine go_int k193_17 0 rfl ?_
    exact tjM_ofGroup_18 hd e2 hK0 h1 (rfR_kd hK0 (by decide)) (Or.inl rfl) none rfl none rfl
theorem tfM_nextTestament {Φ : ev_P} {d : Nat} (hd : 2 ≤ d) {g : gH} (hg : HR g) {v0 v1 : Int} (hK0 : kd v0 = 7) (h1 : InR v1) : Go Φ pr_P fN 1 (fM_nextTestament g v0 v1) d (pr_P 194) 0 (ev_loc (pr_P 194).1 [(sR v0), (sI v1)]) [] g 0 0 := by
  show Go Φ pr_P fN 1 (fM_nextTestament g v0 v1) d pr_m194 0 [some (sR v0), some (sI v1)] [] g 0 0
  unfold fM_nextTestament
  refine go_aload k194_0 rfl ?_
  refine go_iload k194_1 rfl ?_
  refine go_callN3 k194_2 rfl rfl rfl ⟨by decide, _, rfl, hK0⟩ ⟨Nat.zero_le _, Nat.zero_le _⟩ (by omega) (tfM_noProcess (by omega) hg hK0  h1) (fun y1 g3 r2 e4 => ?_)
  refine go_ifeq k194_5 (inR_b r2) (fun c5 => ?_) (fun c6 => ?_)
  · refine go_aload k194_12 rfl ?_
    refine go_iload k194_13 rfl ?_
    refine go_callP1 k194_14 rfl rfl rfl ⟨by decide, _, rfl, hK0⟩ ⟨Nat.zero_le _, Nat.zero_le _⟩ (by omega) (tfM_firstZombie (by omega) e4 hK0  h1) (fun y7 r8 => ?_)
    exact go_iret k194_17 e4 r8 ⟨Nat.zero_le _, Nat.zero_le _⟩ rfl
  · refine go_int k194_8 0 rfl ?_
    refine go_goto k194_9 ?_
    exact go_iret k194_17 e4 (inR_b (Or.inl rfl)) ⟨Nat.zero_le _, Nat.zero_le _⟩ rfl
theorem tjM_exited_27 {Φ : ev_P} {d : Nat} (hd : 1 ≤ d) {g : gH} (hg : HR g) {v0 v1 : Int} (hK0 : kd v0 = 7) (h1 : InR v1) {s0 s1 : Int} (z0 : RfR s0) (z1 : B01 s1) : Go Φ pr_P fN 1 (jM_exited_27 g v0 v1 s0 s1 ) d pr_m195 27 [some (sR v0), some (sI v1)] [(sI s1), (sR s0)] g 0 0 := by
  unfold jM_exited_27
  refine go_int k195_27 1 rfl ?_
  refine go_ck (fun q12 => ?_)
  refine go_callN3 k195_28 rfl rfl rfl ⟨by decide, _, rfl, q12⟩ ⟨Nat.zero_le _, Nat.zero_le _⟩ (by omega) (tfM_fails (by omega) hg q12  z1 (inR_b (Or.inr rfl))) (fun y13 g15 r14 e16 => ?_)
  refine go_ifeq k195_31 (inR_b r14) (fun c17 => ?_) (fun c18 => ?_)
  · refine go_aload k195_38 rfl ?_
    refine go_getR (bI := 0) k195_39 e16 hK0 (by decide) rfl rfl (fun r19 => ?_)
    refine go_int k195_42 19 rfl ?_
    refine go_iload k195_44 rfl ?_
    refine go_iadd k195_45 ?_
    refine go_ck (fun q21 => ?_)
    refine go_iald k195_46 e16 q21 (fun r20 => ?_)
    exact go_iret k195_47 e16 r20 ⟨Nat.zero_le _, Nat.zero_le _⟩ rfl
  · refine go_int k195_34 0 rfl ?_
    refine go_goto k195_35 ?_
    exact go_iret k195_47 e16 (inR_b (Or.inl rfl)) ⟨Nat.zero_le _, Nat.zero_le _⟩ rfl
theorem tfM_exited {Φ : ev_P} {d : Nat} (hd : 1 ≤ d) {g : gH} (hg : HR g) {v0 v1 : Int} (hK0 : kd v0 = 7) (h1 : InR v1) : Go Φ pr_P fN 1 (fM_exited g v0 v1) d (pr_P 195) 0 (ev_loc (pr_P 195).1 [(sR v0), (sI v1)]) [] g 0 0 := by
  show Go Φ pr_P fN 1 (fM_exited g v0 v1) d pr_m195 0 [some (sR v0), some (sI v1)] [] g 0 0
  unfold fM_exited
  refine go_aload k195_0 rfl ?_
  refine go_int k195_1 0 rfl ?_
  refine go_putI (bI := 8) k195_2 hg hK0 (by decide) rfl rfl (inR_b (Or.inl rfl)) (fun g1 e2 => ?_)
  refine go_aload k195_5 rfl ?_
  refine go_iload k195_6 rfl ?_
  refine go_int k195_7 0 rfl ?_
  refine go_aload k195_8 rfl ?_
  refine go_getR (bI := 0) k195_9 e2 hK0 (by decide) rfl rfl (fun r3 => ?_)
  refine go_int k195_12 1 rfl ?_
  refine go_ck (fun q5 => ?_)
  refine go_iald k195_13 e2 q5 (fun r4 => ?_)
  refine go_int k195_14 1 rfl ?_
  refine go_isub k195_15 ?_
  refine go_callP3 k195_16 rfl rfl rfl trivial ⟨Nat.zero_le _, Nat.zero_le _⟩ (by omega) (tfM_inRange (by omega) e2  h1 (inR_b (Or.inl rfl)) (inR_w32 _)) (fun y6 r7 => ?_)
  refine go_ifeq k195_19 (inR_b r7) (fun c10 => ?_) (fun c11 => ?_)
  · refine go_int k195_22 1 rfl ?_
    refine go_goto k195_23 ?_
    exact tjM_exited_27 hd e2 hK0 h1 (rfR_kd hK0 (by decide)) (Or.inr rfl)
  · refine go_int k195_26 0 rfl ?_
    exact tjM_exited_27 hd e2 hK0 h1 (rfR_kd hK0 (by decide)) (Or.inl rfl)
theorem tjM_meanDepth_45 {Φ : ev_P} {d : Nat} (hd : 2 ≤ d) {g : gH} (hg : HR g) {v0 v1 : Int} (hK0 : kd v0 = 7) (h1 : InR v1) (u2 : Option ev_V) (w2 : nwo u2) : Go Φ pr_P fN 5 (jM_meanDepth_45 g v0 v1 ) d pr_m196 45 [some (sR v0), some (sI v1), u2] [] g 0 0 := by
  unfold jM_meanDepth_45
  refine go_iload k196_45 rfl ?_
  refine go_i2d k196_46 ?_
  refine go_aload k196_47 rfl ?_
  refine go_callP1 k196_48 rfl rfl rfl ⟨by decide, _, rfl, hK0⟩ ⟨Nat.zero_le _, Nat.zero_le _⟩ (by omega) (tfM_runningMany (by omega) hg hK0 ) (fun y18 r19 => ?_)
  refine go_i2d k196_51 ?_
  refine go_ck (fun q22 => ?_)
  refine go_ddiv k196_52 q22 rfl ⟨Nat.zero_le _, Nat.zero_le _⟩ ?_
  exact go_dret k196_53 hg ⟨Nat.zero_le _, Nat.zero_le _⟩ rfl
theorem tbM_meanDepth_9 {Φ : ev_P} {d : Nat} (hd : 2 ≤ d) {g : gH} (hg : HR g) {v0 : Int} (hK0 : kd v0 = 7) {X9 : Int → Int → Option (Int × gH)} (HX9 : ∀ (v1 : Int) (h1 : InR v1) (v2 : Int) (h2 : InR v2), Go Φ pr_P fN 5 (X9 v1 v2) d pr_m196 9 [some (sR v0), some (sI v1), some (sI v2)] [] g 0 0) : ∀ (v1 : Int) (h1 : InR v1) (v2 : Int) (h2 : InR v2), Go Φ pr_P fN 5 (bM_meanDepth_9 g v0 X9 v1 v2) d pr_m196 9 [some (sR v0), some (sI v1), some (sI v2)] [] g 0 0 := by
  intro v1 h1 v2 h2
  unfold bM_meanDepth_9
  refine go_iload k196_9 rfl ?_
  refine go_aload k196_10 rfl ?_
  refine go_getR (bI := 0) k196_11 hg hK0 (by decide) rfl rfl (fun r3 => ?_)
  refine go_int k196_14 0 rfl ?_
  refine go_ck (fun q5 => ?_)
  refine go_iald k196_15 hg q5 (fun r4 => ?_)
  refine go_cmlt k196_16 h2 r4 (fun c6 => ?_) (fun c7 => ?_)
  · refine go_iload k196_19 rfl ?_
    refine go_aload k196_20 rfl ?_
    refine go_iload k196_21 rfl ?_
    refine go_callP3 k196_22 rfl rfl rfl ⟨by decide, _, rfl, hK0⟩ ⟨Nat.zero_le _, Nat.zero_le _⟩ (by omega) (tfM_runs (by omega) hg hK0  h2) (fun y8 r9 => ?_)
    refine go_ifeq k196_25 (inR_b r9) (fun c12 => ?_) (fun c13 => ?_)
    · refine go_int k196_36 0 rfl ?_
      refine go_iadd k196_37 ?_
      refine go_istore k196_38 rfl (loc2 := [some (sR v0), some (sI (w32 (v1 + 0))), some (sI v2)]) rfl ?_
      refine go_iinc k196_39 rfl rfl 1 rfl (loc2 := [some (sR v0), some (sI (w32 (v1 + 0))), some (sI (w32 (v2 + 1)))]) rfl ?_
      refine go_goto k196_42 ?_
      exact HX9 (w32 (v1 + 0)) (inR_w32 _) (w32 (v2 + 1)) (inR_w32 _)
    · refine go_aload k196_28 rfl ?_
      refine go_iload k196_29 rfl ?_
      refine go_callP1 k196_30 rfl rfl rfl ⟨by decide, _, rfl, hK0⟩ ⟨Nat.zero_le _, Nat.zero_le _⟩ (by omega) (tfM_deep (by omega) hg hK0  h2) (fun y14 r15 => ?_)
      refine go_goto k196_33 ?_
      refine go_iadd k196_37 ?_
      refine go_istore k196_38 rfl (loc2 := [some (sR v0), some (sI (w32 (v1 + y14))), some (sI v2)]) rfl ?_
      refine go_iinc k196_39 rfl rfl 1 rfl (loc2 := [some (sR v0), some (sI (w32 (v1 + y14))), some (sI (w32 (v2 + 1)))]) rfl ?_
      refine go_goto k196_42 ?_
      exact HX9 (w32 (v1 + y14)) (inR_w32 _) (w32 (v2 + 1)) (inR_w32 _)
  · exact tjM_meanDepth_45 hd hg hK0 h1 (some (sI v2)) rfl
theorem tlM_meanDepth_9 {Φ : ev_P} {d : Nat} (hd : 2 ≤ d) {g : gH} (hg : HR g) {v0 : Int} (hK0 : kd v0 = 7) : ∀ n : Nat, ∀ (v1 : Int) (h1 : InR v1) (v2 : Int) (h2 : InR v2), Go Φ pr_P fN 5 (lM_meanDepth_9 g v0 n v1 v2) d pr_m196 9 [some (sR v0), some (sI v1), some (sI v2)] [] g 0 0 := by
  intro n
  induction n with
  | zero => intros; exact go_none
  | succ n ih => exact tbM_meanDepth_9 hd hg hK0 ih
theorem tfM_meanDepth {Φ : ev_P} {d : Nat} (hd : 2 ≤ d) {g : gH} (hg : HR g) {v0 : Int} (hK0 : kd v0 = 7) : Go Φ pr_P fN 5 (fM_meanDepth g v0) d (pr_P 196) 0 (ev_loc (pr_P 196).1 [(sR v0)]) [] g 0 0 := by
  show Go Φ pr_P fN 5 (fM_meanDepth g v0) d pr_m196 0 [some (sR v0), none, none] [] g 0 0
  unfold fM_meanDepth
  refine go_aload k196_0 rfl ?_
  refine go_int k196_1 0 rfl ?_
  refine go_putI (bI := 8) k196_2 hg hK0 (by decide) rfl rfl (inR_b (Or.inl rfl)) (fun g1 e2 => ?_)
  refine go_int k196_5 0 rfl ?_
  refine go_istore k196_6 rfl (loc2 := [some (sR v0), some (sI 0), none]) rfl ?_
  refine go_int k196_7 0 rfl ?_
  refine go_istore k196_8 rfl (loc2 := [some (sR v0), some (sI 0), some (sI 0)]) rfl ?_
  exact tlM_meanDepth_9 hd e2 hK0 fu 0 (inR_b (Or.inl rfl)) 0 (inR_b (Or.inl rfl))
theorem tfM_rootShare {Φ : ev_P} {d : Nat} (hd : 0 ≤ d) {g : gH} (hg : HR g) {v0 : Int} (hK0 : kd v0 = 7) : Go Φ pr_P fN 4 (fM_rootShare g v0) d (pr_P 197) 0 (ev_loc (pr_P 197).1 [(sR v0)]) [] g 0 0 := by
  show Go Φ pr_P fN 4 (fM_rootShare g v0) d pr_m197 0 [some (sR v0)] [] g 0 0
  unfold fM_rootShare
  refine go_aload k197_0 rfl ?_
  refine go_int k197_1 0 rfl ?_
  refine go_putI (bI := 8) k197_2 hg hK0 (by decide) rfl rfl (inR_b (Or.inl rfl)) (fun g1 e2 => ?_)
  refine go_aload k197_5 rfl ?_
  refine go_getR (bI := 0) k197_6 e2 hK0 (by decide) rfl rfl (fun r3 => ?_)
  refine go_int k197_9 2 rfl ?_
  refine go_ck (fun q5 => ?_)
  refine go_iald k197_10 e2 q5 (fun r4 => ?_)
  refine go_ifeq k197_11 r4 (fun c6 => ?_) (fun c7 => ?_)
  · refine go_fconst k197_14 0 rfl ?_
    refine go_goto k197_15 ?_
    exact go_fret k197_33 e2 ⟨Nat.zero_le _, Nat.zero_le _⟩ rfl
  · refine go_aload k197_18 rfl ?_
    refine go_getR (bI := 0) k197_19 e2 hK0 (by decide) rfl rfl (fun r8 => ?_)
    refine go_int k197_22 3 rfl ?_
    refine go_ck (fun q10 => ?_)
    refine go_iald k197_23 e2 q10 (fun r9 => ?_)
    refine go_i2f k197_24 ?_
    refine go_aload k197_25 rfl ?_
    refine go_getR (bI := 0) k197_26 e2 hK0 (by decide) rfl rfl (fun r11 => ?_)
    refine go_int k197_29 2 rfl ?_
    refine go_ck (fun q13 => ?_)
    refine go_iald k197_30 e2 q13 (fun r12 => ?_)
    refine go_i2f k197_31 ?_
    refine go_ck (fun q14 => ?_)
    refine go_fdiv k197_32 q14 rfl ⟨Nat.zero_le _, Nat.zero_le _⟩ ?_
    exact go_fret k197_33 e2 ⟨Nat.zero_le _, Nat.zero_le _⟩ rfl
theorem tfM_readShare {Φ : ev_P} {d : Nat} (hd : 1 ≤ d) {g : gH} (hg : HR g) {v0 : Int} (hK0 : kd v0 = 7) : Go Φ pr_P fN 5 (fM_readShare g v0) d (pr_P 198) 0 (ev_loc (pr_P 198).1 [(sR v0)]) [] g 0 0 := by
  show Go Φ pr_P fN 5 (fM_readShare g v0) d pr_m198 0 [some (sR v0)] [] g 0 0
  unfold fM_readShare
  refine go_aload k198_0 rfl ?_
  refine go_int k198_1 0 rfl ?_
  refine go_putI (bI := 8) k198_2 hg hK0 (by decide) rfl rfl (inR_b (Or.inl rfl)) (fun g1 e2 => ?_)
  refine go_aload k198_5 rfl ?_
  refine go_getR (bI := 0) k198_6 e2 hK0 (by decide) rfl rfl (fun r3 => ?_)
  refine go_int k198_9 1 rfl ?_
  refine go_ck (fun q5 => ?_)
  refine go_iald k198_10 e2 q5 (fun r4 => ?_)
  refine go_ifeq k198_11 r4 (fun c6 => ?_) (fun c7 => ?_)
  · refine go_dconst k198_14 0 rfl ?_
    refine go_goto k198_15 ?_
    exact go_dret k198_32 e2 ⟨Nat.zero_le _, Nat.zero_le _⟩ rfl
  · refine go_aload k198_18 rfl ?_
    refine go_int k198_19 2 rfl ?_
    refine go_callP1 k198_20 rfl rfl rfl ⟨by decide, _, rfl, hK0⟩ ⟨Nat.zero_le _, Nat.zero_le _⟩ (by omega) (tfM_inState (by omega) e2 hK0  (inR_of (by decide))) (fun y8 r9 => ?_)
    refine go_i2d k198_23 ?_
    refine go_aload k198_24 rfl ?_
    refine go_getR (bI := 0) k198_25 e2 hK0 (by decide) rfl rfl (fun r12 => ?_)
    refine go_int k198_28 1 rfl ?_
    refine go_ck (fun q14 => ?_)
    refine go_iald k198_29 e2 q14 (fun r13 => ?_)
    refine go_i2d k198_30 ?_
    refine go_ck (fun q15 => ?_)
    refine go_ddiv k198_31 q15 rfl ⟨Nat.zero_le _, Nat.zero_le _⟩ ?_
    exact go_dret k198_32 e2 ⟨Nat.zero_le _, Nat.zero_le _⟩ rfl
theorem tbM_testamentsBelow_22 {Φ : ev_P} {d : Nat} (hd : 2 ≤ d) {g : gH} (hg : HR g) {v0 v1 : Int} (hK0 : kd v0 = 7) (h1 : InR v1) {X22 : Int → Int → Option (Int × gH)} (HX22 : ∀ (v2 : Int) (h2 : InR v2) (v3 : Int) (h3 : InR v3), Go Φ pr_P fN 1 (X22 v2 v3) d pr_m199 22 [some (sR v0), some (sI v1), some (sI v2), some (sI v3)] [] g 0 0) : ∀ (v2 : Int) (h2 : InR v2) (v3 : Int) (h3 : InR v3), Go Φ pr_P fN 1 (bM_testamentsBelow_22 g v0 v1 X22 v2 v3) d pr_m199 22 [some (sR v0), some (sI v1), some (sI v2), some (sI v3)] [] g 0 0 := by
  intro v2 h2 v3 h3
  unfold bM_testamentsBelow_22
  refine go_iload k199_22 rfl ?_
  refine go_aload k199_23 rfl ?_
  refine go_getR (bI := 0) k199_24 hg hK0 (by decide) rfl rfl (fun r13 => ?_)
  refine go_int k199_27 0 rfl ?_
  refine go_ck (fun q15 => ?_)
  refine go_iald k199_28 hg q15 (fun r14 => ?_)
  refine go_cmlt k199_29 h3 r14 (fun c16 => ?_) (fun c17 => ?_)
  · refine go_iload k199_32 rfl ?_
    refine go_aload k199_33 rfl ?_
    refine go_getR (bI := 0) k199_34 hg hK0 (by decide) rfl rfl (fun r18 => ?_)
    refine go_int k199_37 140 rfl ?_
    refine go_iload k199_40 rfl ?_
    refine go_iadd k199_41 ?_
    refine go_ck (fun q20 => ?_)
    refine go_iald k199_42 hg q20 (fun r19 => ?_)
    refine go_int k199_43 1 rfl ?_
    refine go_cmeq k199_44 r19 (inR_b (Or.inr rfl)) (fun c21 => ?_) (fun c22 => ?_)
    · refine go_aload k199_47 rfl ?_
      refine go_iload k199_48 rfl ?_
      refine go_iload k199_49 rfl ?_
      refine go_callP3 k199_50 rfl rfl rfl ⟨by decide, _, rfl, hK0⟩ ⟨Nat.zero_le _, Nat.zero_le _⟩ (by omega) (tfM_isOver (by omega) hg hK0  h1 h3) (fun y23 r24 => ?_)
      refine go_ifeq k199_53 (inR_b r24) (fun c27 => ?_) (fun c28 => ?_)
      · refine go_int k199_60 0 rfl ?_
        refine go_iadd k199_61 ?_
        refine go_istore k199_62 rfl (loc2 := [some (sR v0), some (sI v1), some (sI (w32 (v2 + 0))), some (sI v3)]) rfl ?_
        refine go_iinc k199_63 rfl rfl 1 rfl (loc2 := [some (sR v0), some (sI v1), some (sI (w32 (v2 + 0))), some (sI (w32 (v3 + 1)))]) rfl ?_
        refine go_goto k199_66 ?_
        exact HX22 (w32 (v2 + 0)) (inR_w32 _) (w32 (v3 + 1)) (inR_w32 _)
      · refine go_int k199_56 1 rfl ?_
        refine go_goto k199_57 ?_
        refine go_iadd k199_61 ?_
        refine go_istore k199_62 rfl (loc2 := [some (sR v0), some (sI v1), some (sI (w32 (v2 + 1))), some (sI v3)]) rfl ?_
        refine go_iinc k199_63 rfl rfl 1 rfl (loc2 := [some (sR v0), some (sI v1), some (sI (w32 (v2 + 1))), some (sI (w32 (v3 + 1)))]) rfl ?_
        refine go_goto k199_66 ?_
        exact HX22 (w32 (v2 + 1)) (inR_w32 _) (w32 (v3 + 1)) (inR_w32 _)
    · refine go_int k199_60 0 rfl ?_
      refine go_iadd k199_61 ?_
      refine go_istore k199_62 rfl (loc2 := [some (sR v0), some (sI v1), some (sI (w32 (v2 + 0))), some (sI v3)]) rfl ?_
      refine go_iinc k199_63 rfl rfl 1 rfl (loc2 := [some (sR v0), some (sI v1), some (sI (w32 (v2 + 0))), some (sI (w32 (v3 + 1)))]) rfl ?_
      refine go_goto k199_66 ?_
      exact HX22 (w32 (v2 + 0)) (inR_w32 _) (w32 (v3 + 1)) (inR_w32 _)
  · refine go_iload k199_69 rfl ?_
    exact go_iret k199_70 hg h2 ⟨Nat.zero_le _, Nat.zero_le _⟩ rfl
theorem tlM_testamentsBelow_22 {Φ : ev_P} {d : Nat} (hd : 2 ≤ d) {g : gH} (hg : HR g) {v0 v1 : Int} (hK0 : kd v0 = 7) (h1 : InR v1) : ∀ n : Nat, ∀ (v2 : Int) (h2 : InR v2) (v3 : Int) (h3 : InR v3), Go Φ pr_P fN 1 (lM_testamentsBelow_22 g v0 v1 n v2 v3) d pr_m199 22 [some (sR v0), some (sI v1), some (sI v2), some (sI v3)] [] g 0 0 := by
  intro n
  induction n with
  | zero => intros; exact go_none
  | succ n ih => exact tbM_testamentsBelow_22 hd hg hK0 h1 ih
theorem tfM_testamentsBelow {Φ : ev_P} {d : Nat} (hd : 2 ≤ d) {g : gH} (hg : HR g) {v0 v1 : Int} (hK0 : kd v0 = 7) (h1 : InR v1) : Go Φ pr_P fN 1 (fM_testamentsBelow g v0 v1) d (pr_P 199) 0 (ev_loc (pr_P 199).1 [(sR v0), (sI v1)]) [] g 0 0 := by
  show Go Φ pr_P fN 1 (fM_testamentsBelow g v0 v1) d pr_m199 0 [some (sR v0), some (sI v1), none, none] [] g 0 0
  unfold fM_testamentsBelow
  refine go_aload k199_0 rfl ?_
  refine go_iload k199_1 rfl ?_
  refine go_callN3 k199_2 rfl rfl rfl ⟨by decide, _, rfl, hK0⟩ ⟨Nat.zero_le _, Nat.zero_le _⟩ (by omega) (tfM_noProcess (by omega) hg hK0  h1) (fun y1 g3 r2 e4 => ?_)
  refine go_ifeq k199_5 (inR_b r2) (fun c5 => ?_) (fun c6 => ?_)
  · refine go_aload k199_8 rfl ?_
    refine go_iload k199_9 rfl ?_
    refine go_callP3 k199_10 rfl rfl rfl ⟨by decide, _, rfl, hK0⟩ ⟨Nat.zero_le _, Nat.zero_le _⟩ (by omega) (tfM_runs (by omega) e4 hK0  h1) (fun y7 r8 => ?_)
    refine go_ifeq k199_13 (inR_b r8) (fun c11 => ?_) (fun c12 => ?_)
    · refine go_int k199_16 0 rfl ?_
      exact go_iret k199_17 e4 (inR_b (Or.inl rfl)) ⟨Nat.zero_le _, Nat.zero_le _⟩ rfl
    · refine go_int k199_18 0 rfl ?_
      refine go_istore k199_19 rfl (loc2 := [some (sR v0), some (sI v1), some (sI 0), none]) rfl ?_
      refine go_int k199_20 1 rfl ?_
      refine go_istore k199_21 rfl (loc2 := [some (sR v0), some (sI v1), some (sI 0), some (sI 1)]) rfl ?_
      exact tlM_testamentsBelow_22 hd e4 hK0 h1 fu 0 (inR_b (Or.inl rfl)) 1 (inR_b (Or.inr rfl))
  · refine go_int k199_16 0 rfl ?_
    exact go_iret k199_17 e4 (inR_b (Or.inl rfl)) ⟨Nat.zero_le _, Nat.zero_le _⟩ rfl
theorem tbM_roomBelow_22 {Φ : ev_P} {d : Nat} (hd : 3 ≤ d) {g : gH} (hg : HR g) {v0 v1 : Int} (hK0 : kd v0 = 7) (h1 : InR v1) {X22 : Int → Int → Option (Int × gH)} (HX22 : ∀ (v2 : Int) (h2 : InR v2) (v3 : Int) (h3 : InR v3), Go Φ pr_P fN 1 (X22 v2 v3) d pr_m200 22 [some (sR v0), some (sI v1), some (sI v2), some (sI v3)] [] g 0 0) : ∀ (v2 : Int) (h2 : InR v2) (v3 : Int) (h3 : InR v3), Go Φ pr_P fN 1 (bM_roomBelow_22 g v0 v1 X22 v2 v3) d pr_m200 22 [some (sR v0), some (sI v1), some (sI v2), some (sI v3)] [] g 0 0 := by
  intro v2 h2 v3 h3
  unfold bM_roomBelow_22
  refine go_iload k200_22 rfl ?_
  refine go_aload k200_23 rfl ?_
  refine go_getR (bI := 0) k200_24 hg hK0 (by decide) rfl rfl (fun r13 => ?_)
  refine go_int k200_27 0 rfl ?_
  refine go_ck (fun q15 => ?_)
  refine go_iald k200_28 hg q15 (fun r14 => ?_)
  refine go_cmlt k200_29 h3 r14 (fun c16 => ?_) (fun c17 => ?_)
  · refine go_iload k200_32 rfl ?_
    refine go_aload k200_33 rfl ?_
    refine go_iload k200_34 rfl ?_
    refine go_callP3 k200_35 rfl rfl rfl ⟨by decide, _, rfl, hK0⟩ ⟨Nat.zero_le _, Nat.zero_le _⟩ (by omega) (tfM_runs (by omega) hg hK0  h3) (fun y18 r19 => ?_)
    refine go_ifeq k200_38 (inR_b r19) (fun c22 => ?_) (fun c23 => ?_)
    · refine go_int k200_58 0 rfl ?_
      refine go_iadd k200_59 ?_
      refine go_istore k200_60 rfl (loc2 := [some (sR v0), some (sI v1), some (sI (w32 (v2 + 0))), some (sI v3)]) rfl ?_
      refine go_iinc k200_61 rfl rfl 1 rfl (loc2 := [some (sR v0), some (sI v1), some (sI (w32 (v2 + 0))), some (sI (w32 (v3 + 1)))]) rfl ?_
      refine go_goto k200_64 ?_
      exact HX22 (w32 (v2 + 0)) (inR_w32 _) (w32 (v3 + 1)) (inR_w32 _)
    · refine go_aload k200_41 rfl ?_
      refine go_iload k200_42 rfl ?_
      refine go_iload k200_43 rfl ?_
      refine go_callP3 k200_44 rfl rfl rfl ⟨by decide, _, rfl, hK0⟩ ⟨Nat.zero_le _, Nat.zero_le _⟩ (by omega) (tfM_isOver (by omega) hg hK0  h1 h3) (fun y24 r25 => ?_)
      refine go_ifeq k200_47 (inR_b r25) (fun c28 => ?_) (fun c29 => ?_)
      · refine go_int k200_58 0 rfl ?_
        refine go_iadd k200_59 ?_
        refine go_istore k200_60 rfl (loc2 := [some (sR v0), some (sI v1), some (sI (w32 (v2 + 0))), some (sI v3)]) rfl ?_
        refine go_iinc k200_61 rfl rfl 1 rfl (loc2 := [some (sR v0), some (sI v1), some (sI (w32 (v2 + 0))), some (sI (w32 (v3 + 1)))]) rfl ?_
        refine go_goto k200_64 ?_
        exact HX22 (w32 (v2 + 0)) (inR_w32 _) (w32 (v3 + 1)) (inR_w32 _)
      · refine go_aload k200_50 rfl ?_
        refine go_iload k200_51 rfl ?_
        refine go_callP1 k200_52 rfl rfl rfl ⟨by decide, _, rfl, hK0⟩ ⟨Nat.zero_le _, Nat.zero_le _⟩ (by omega) (tfM_roomOf (by omega) hg hK0  h3) (fun y30 r31 => ?_)
        refine go_goto k200_55 ?_
        refine go_iadd k200_59 ?_
        refine go_istore k200_60 rfl (loc2 := [some (sR v0), some (sI v1), some (sI (w32 (v2 + y30))), some (sI v3)]) rfl ?_
        refine go_iinc k200_61 rfl rfl 1 rfl (loc2 := [some (sR v0), some (sI v1), some (sI (w32 (v2 + y30))), some (sI (w32 (v3 + 1)))]) rfl ?_
        refine go_goto k200_64 ?_
        exact HX22 (w32 (v2 + y30)) (inR_w32 _) (w32 (v3 + 1)) (inR_w32 _)
  · refine go_iload k200_67 rfl ?_
    exact go_iret k200_68 hg h2 ⟨Nat.zero_le _, Nat.zero_le _⟩ rfl
theorem tlM_roomBelow_22 {Φ : ev_P} {d : Nat} (hd : 3 ≤ d) {g : gH} (hg : HR g) {v0 v1 : Int} (hK0 : kd v0 = 7) (h1 : InR v1) : ∀ n : Nat, ∀ (v2 : Int) (h2 : InR v2) (v3 : Int) (h3 : InR v3), Go Φ pr_P fN 1 (lM_roomBelow_22 g v0 v1 n v2 v3) d pr_m200 22 [some (sR v0), some (sI v1), some (sI v2), some (sI v3)] [] g 0 0 := by
  intro n
  induction n with
  | zero => intros; exact go_none
  | succ n ih => exact tbM_roomBelow_22 hd hg hK0 h1 ih
theorem tfM_roomBelow {Φ : ev_P} {d : Nat} (hd : 3 ≤ d) {g : gH} (hg : HR g) {v0 v1 : Int} (hK0 : kd v0 = 7) (h1 : InR v1) : Go Φ pr_P fN 1 (fM_roomBelow g v0 v1) d (pr_P 200) 0 (ev_loc (pr_P 200).1 [(sR v0), (sI v1)]) [] g 0 0 := by
  show Go Φ pr_P fN 1 (fM_roomBelow g v0 v1) d pr_m200 0 [some (sR v0), some (sI v1), none, none] [] g 0 0
  unfold fM_roomBelow
  refine go_aload k200_0 rfl ?_
  refine go_iload k200_1 rfl ?_
  refine go_callN3 k200_2 rfl rfl rfl ⟨by decide, _, rfl, hK0⟩ ⟨Nat.zero_le _, Nat.zero_le _⟩ (by omega) (tfM_noProcess (by omega) hg hK0  h1) (fun y1 g3 r2 e4 => ?_)
  refine go_ifeq k200_5 (inR_b r2) (fun c5 => ?_) (fun c6 => ?_)
  · refine go_aload k200_8 rfl ?_
    refine go_iload k200_9 rfl ?_
    refine go_callP3 k200_10 rfl rfl rfl ⟨by decide, _, rfl, hK0⟩ ⟨Nat.zero_le _, Nat.zero_le _⟩ (by omega) (tfM_runs (by omega) e4 hK0  h1) (fun y7 r8 => ?_)
    refine go_ifeq k200_13 (inR_b r8) (fun c11 => ?_) (fun c12 => ?_)
    · refine go_int k200_16 0 rfl ?_
      exact go_iret k200_17 e4 (inR_b (Or.inl rfl)) ⟨Nat.zero_le _, Nat.zero_le _⟩ rfl
    · refine go_int k200_18 0 rfl ?_
      refine go_istore k200_19 rfl (loc2 := [some (sR v0), some (sI v1), some (sI 0), none]) rfl ?_
      refine go_int k200_20 1 rfl ?_
      refine go_istore k200_21 rfl (loc2 := [some (sR v0), some (sI v1), some (sI 0), some (sI 1)]) rfl ?_
      exact tlM_roomBelow_22 hd e4 hK0 h1 fu 0 (inR_b (Or.inl rfl)) 1 (inR_b (Or.inr rfl))
  · refine go_int k200_16 0 rfl ?_
    exact go_iret k200_17 e4 (inR_b (Or.inl rfl)) ⟨Nat.zero_le _, Nat.zero_le _⟩ rfl
theorem tjM_mostAdopted_56 {Φ : ev_P} {d : Nat} (hd : 1 ≤ d) {X9 : Int → Int → Option (Int × gH)} {g : gH} (hg : HR g) {v0 v1 v2 : Int} (hK0 : kd v0 = 7) (h1 : InR v1) (h2 : InR v2) {s0 s1 : Int} (z0 : InR s0) (z1 : InR s1) (HX9 : ∀ (v1 : Int) (h1 : InR v1) (v2 : Int) (h2 : InR v2), Go Φ pr_P fN 1 (X9 v1 v2) d pr_m201 9 [some (sR v0), some (sI v1), some (sI v2)] [] g 0 0) : Go Φ pr_P fN 1 (jM_mostAdopted_56 X9 g v0 v1 v2 s0 s1 ) d pr_m201 56 [some (sR v0), some (sI v1), some (sI v2)] [(sI s1), (sI s0)] g 0 0 := by
  unfold jM_mostAdopted_56
  refine go_cmgt k201_56 z0 z1 (fun c22 => ?_) (fun c23 => ?_)
  · refine go_iload k201_59 rfl ?_
    refine go_istore k201_60 rfl (loc2 := [some (sR v0), some (sI v2), some (sI v2)]) rfl ?_
    refine go_iinc k201_61 rfl rfl 1 rfl (loc2 := [some (sR v0), some (sI v2), some (sI (w32 (v2 + 1)))]) rfl ?_
    refine go_goto k201_64 ?_
    exact HX9 v2 h2 (w32 (v2 + 1)) (inR_w32 _)
  · refine go_iinc k201_61 rfl rfl 1 rfl (loc2 := [some (sR v0), some (sI v1), some (sI (w32 (v2 + 1)))]) rfl ?_
    refine go_goto k201_64 ?_
    exact HX9 v1 h1 (w32 (v2 + 1)) (inR_w32 _)
theorem tbM_mostAdopted_9 {Φ : ev_P} {d : Nat} (hd : 1 ≤ d) {g : gH} (hg : HR g) {v0 : Int} (hK0 : kd v0 = 7) {X9 : Int → Int → Option (Int × gH)} (HX9 : ∀ (v1 : Int) (h1 : InR v1) (v2 : Int) (h2 : InR v2), Go Φ pr_P fN 1 (X9 v1 v2) d pr_m201 9 [some (sR v0), some (sI v1), some (sI v2)] [] g 0 0) : ∀ (v1 : Int) (h1 : InR v1) (v2 : Int) (h2 : InR v2), Go Φ pr_P fN 1 (bM_mostAdopted_9 g v0 X9 v1 v2) d pr_m201 9 [some (sR v0), some (sI v1), some (sI v2)] [] g 0 0 := by
  intro v1 h1 v2 h2
  unfold bM_mostAdopted_9
  refine go_iload k201_9 rfl ?_
  refine go_aload k201_10 rfl ?_
  refine go_getR (bI := 0) k201_11 hg hK0 (by decide) rfl rfl (fun r3 => ?_)
  refine go_int k201_14 0 rfl ?_
  refine go_ck (fun q5 => ?_)
  refine go_iald k201_15 hg q5 (fun r4 => ?_)
  refine go_cmlt k201_16 h2 r4 (fun c6 => ?_) (fun c7 => ?_)
  · refine go_aload k201_19 rfl ?_
    refine go_iload k201_20 rfl ?_
    refine go_callP3 k201_21 rfl rfl rfl ⟨by decide, _, rfl, hK0⟩ ⟨Nat.zero_le _, Nat.zero_le _⟩ (by omega) (tfM_runs (by omega) hg hK0  h2) (fun y8 r9 => ?_)
    refine go_ifeq k201_24 (inR_b r9) (fun c12 => ?_) (fun c13 => ?_)
    · refine go_iinc k201_61 rfl rfl 1 rfl (loc2 := [some (sR v0), some (sI v1), some (sI (w32 (v2 + 1)))]) rfl ?_
      refine go_goto k201_64 ?_
      exact HX9 v1 h1 (w32 (v2 + 1)) (inR_w32 _)
    · refine go_aload k201_27 rfl ?_
      refine go_getR (bI := 0) k201_28 hg hK0 (by decide) rfl rfl (fun r14 => ?_)
      refine go_int k201_31 380 rfl ?_
      refine go_iload k201_34 rfl ?_
      refine go_iadd k201_35 ?_
      refine go_ck (fun q16 => ?_)
      refine go_iald k201_36 hg q16 (fun r15 => ?_)
      refine go_iload k201_37 rfl ?_
      refine go_int k201_38 (-1) rfl ?_
      refine go_cmeq k201_39 h1 (inR_of (by decide)) (fun c17 => ?_) (fun c18 => ?_)
      · refine go_int k201_42 0 rfl ?_
        refine go_goto k201_43 ?_
        exact tjM_mostAdopted_56 hd hg hK0 h1 h2 r15 (inR_b (Or.inl rfl)) HX9
      · refine go_aload k201_46 rfl ?_
        refine go_getR (bI := 0) k201_47 hg hK0 (by decide) rfl rfl (fun r19 => ?_)
        refine go_int k201_50 380 rfl ?_
        refine go_iload k201_53 rfl ?_
        refine go_iadd k201_54 ?_
        refine go_ck (fun q21 => ?_)
        refine go_iald k201_55 hg q21 (fun r20 => ?_)
        exact tjM_mostAdopted_56 hd hg hK0 h1 h2 r15 r20 HX9
  · refine go_iload k201_67 rfl ?_
    exact go_iret k201_68 hg h1 ⟨Nat.zero_le _, Nat.zero_le _⟩ rfl
theorem tlM_mostAdopted_9 {Φ : ev_P} {d : Nat} (hd : 1 ≤ d) {g : gH} (hg : HR g) {v0 : Int} (hK0 : kd v0 = 7) : ∀ n : Nat, ∀ (v1 : Int) (h1 : InR v1) (v2 : Int) (h2 : InR v2), Go Φ pr_P fN 1 (lM_mostAdopted_9 g v0 n v1 v2) d pr_m201 9 [some (sR v0), some (sI v1), some (sI v2)] [] g 0 0 := by
  intro n
  induction n with
  | zero => intros; exact go_none
  | succ n ih => exact tbM_mostAdopted_9 hd hg hK0 ih
theorem tfM_mostAdopted {Φ : ev_P} {d : Nat} (hd : 1 ≤ d) {g : gH} (hg : HR g) {v0 : Int} (hK0 : kd v0 = 7) : Go Φ pr_P fN 1 (fM_mostAdopted g v0) d (pr_P 201) 0 (ev_loc (pr_P 201).1 [(sR v0)]) [] g 0 0 := by
  show Go Φ pr_P fN 1 (fM_mostAdopted g v0) d pr_m201 0 [some (sR v0), none, none] [] g 0 0
  unfold fM_mostAdopted
  refine go_aload k201_0 rfl ?_
  refine go_int k201_1 0 rfl ?_
  refine go_putI (bI := 8) k201_2 hg hK0 (by decide) rfl rfl (inR_b (Or.inl rfl)) (fun g1 e2 => ?_)
  refine go_int k201_5 (-1) rfl ?_
  refine go_istore k201_6 rfl (loc2 := [some (sR v0), some (sI (-1)), none]) rfl ?_
  refine go_int k201_7 1 rfl ?_
  refine go_istore k201_8 rfl (loc2 := [some (sR v0), some (sI (-1)), some (sI 1)]) rfl ?_
  exact tlM_mostAdopted_9 hd e2 hK0 fu (-1) (inR_of (by decide)) 1 (inR_b (Or.inr rfl))
theorem tbM_heaviest_14 {Φ : ev_P} {d : Nat} (hd : 2 ≤ d) {g : gH} (hg : HR g) {v0 v1 : Int} (hK0 : kd v0 = 7) (h1 : InR v1) {X14 : Int → Int → Option (Int × gH)} (HX14 : ∀ (v2 : Int) (h2 : InR v2) (v3 : Int) (h3 : InR v3), Go Φ pr_P fN 1 (X14 v2 v3) d pr_m202 14 [some (sR v0), some (sI v1), some (sI v2), some (sI v3)] [] g 0 0) : ∀ (v2 : Int) (h2 : InR v2) (v3 : Int) (h3 : InR v3), Go Φ pr_P fN 1 (bM_heaviest_14 g v0 v1 X14 v2 v3) d pr_m202 14 [some (sR v0), some (sI v1), some (sI v2), some (sI v3)] [] g 0 0 := by
  intro v2 h2 v3 h3
  unfold bM_heaviest_14
  refine go_iload k202_14 rfl ?_
  refine go_aload k202_15 rfl ?_
  refine go_getR (bI := 0) k202_16 hg hK0 (by decide) rfl rfl (fun r7 => ?_)
  refine go_int k202_19 0 rfl ?_
  refine go_ck (fun q9 => ?_)
  refine go_iald k202_20 hg q9 (fun r8 => ?_)
  refine go_cmlt k202_21 h3 r8 (fun c10 => ?_) (fun c11 => ?_)
  · refine go_aload k202_24 rfl ?_
    refine go_iload k202_25 rfl ?_
    refine go_iload k202_26 rfl ?_
    refine go_int k202_27 0 rfl ?_
    refine go_callP3 k202_28 rfl rfl rfl ⟨by decide, _, rfl, hK0⟩ ⟨Nat.zero_le _, Nat.zero_le _⟩ (by omega) (tfM_isChild (by omega) hg hK0  h3 h1 (inR_b (Or.inl rfl))) (fun y12 r13 => ?_)
    refine go_ifeq k202_31 (inR_b r13) (fun c16 => ?_) (fun c17 => ?_)
    · refine go_iinc k202_54 rfl rfl 1 rfl (loc2 := [some (sR v0), some (sI v1), some (sI v2), some (sI (w32 (v3 + 1)))]) rfl ?_
      refine go_goto k202_57 ?_
      exact HX14 v2 h2 (w32 (v3 + 1)) (inR_w32 _)
    · refine go_iload k202_34 rfl ?_
      refine go_int k202_35 (-1) rfl ?_
      refine go_cmeq k202_36 h2 (inR_of (by decide)) (fun c18 => ?_) (fun c19 => ?_)
      · refine go_iload k202_52 rfl ?_
        refine go_istore k202_53 rfl (loc2 := [some (sR v0), some (sI v1), some (sI v3), some (sI v3)]) rfl ?_
        refine go_iinc k202_54 rfl rfl 1 rfl (loc2 := [some (sR v0), some (sI v1), some (sI v3), some (sI (w32 (v3 + 1)))]) rfl ?_
        refine go_goto k202_57 ?_
        exact HX14 v3 h3 (w32 (v3 + 1)) (inR_w32 _)
      · refine go_aload k202_39 rfl ?_
        refine go_iload k202_40 rfl ?_
        refine go_callP1 k202_41 rfl rfl rfl ⟨by decide, _, rfl, hK0⟩ ⟨Nat.zero_le _, Nat.zero_le _⟩ (by omega) (tfM_belowOf (by omega) hg hK0  h3) (fun y20 r21 => ?_)
        refine go_aload k202_44 rfl ?_
        refine go_iload k202_45 rfl ?_
        refine go_callP1 k202_46 rfl rfl rfl ⟨by decide, _, rfl, hK0⟩ ⟨Nat.zero_le _, Nat.zero_le _⟩ (by omega) (tfM_belowOf (by omega) hg hK0  h2) (fun y24 r25 => ?_)
        refine go_cmgt k202_49 r21 r25 (fun c28 => ?_) (fun c29 => ?_)
        · refine go_iload k202_52 rfl ?_
          refine go_istore k202_53 rfl (loc2 := [some (sR v0), some (sI v1), some (sI v3), some (sI v3)]) rfl ?_
          refine go_iinc k202_54 rfl rfl 1 rfl (loc2 := [some (sR v0), some (sI v1), some (sI v3), some (sI (w32 (v3 + 1)))]) rfl ?_
          refine go_goto k202_57 ?_
          exact HX14 v3 h3 (w32 (v3 + 1)) (inR_w32 _)
        · refine go_iinc k202_54 rfl rfl 1 rfl (loc2 := [some (sR v0), some (sI v1), some (sI v2), some (sI (w32 (v3 + 1)))]) rfl ?_
          refine go_goto k202_57 ?_
          exact HX14 v2 h2 (w32 (v3 + 1)) (inR_w32 _)
  · refine go_iload k202_60 rfl ?_
    exact go_iret k202_61 hg h2 ⟨Nat.zero_le _, Nat.zero_le _⟩ rfl
theorem tlM_heaviest_14 {Φ : ev_P} {d : Nat} (hd : 2 ≤ d) {g : gH} (hg : HR g) {v0 v1 : Int} (hK0 : kd v0 = 7) (h1 : InR v1) : ∀ n : Nat, ∀ (v2 : Int) (h2 : InR v2) (v3 : Int) (h3 : InR v3), Go Φ pr_P fN 1 (lM_heaviest_14 g v0 v1 n v2 v3) d pr_m202 14 [some (sR v0), some (sI v1), some (sI v2), some (sI v3)] [] g 0 0 := by
  intro n
  induction n with
  | zero => intros; exact go_none
  | succ n ih => exact tbM_heaviest_14 hd hg hK0 h1 ih
theorem tfM_heaviest {Φ : ev_P} {d : Nat} (hd : 2 ≤ d) {g : gH} (hg : HR g) {v0 v1 : Int} (hK0 : kd v0 = 7) (h1 : InR v1) : Go Φ pr_P fN 1 (fM_heaviest g v0 v1) d (pr_P 202) 0 (ev_loc (pr_P 202).1 [(sR v0), (sI v1)]) [] g 0 0 := by
  show Go Φ pr_P fN 1 (fM_heaviest g v0 v1) d pr_m202 0 [some (sR v0), some (sI v1), none, none] [] g 0 0
  unfold fM_heaviest
  refine go_aload k202_0 rfl ?_
  refine go_iload k202_1 rfl ?_
  refine go_callN3 k202_2 rfl rfl rfl ⟨by decide, _, rfl, hK0⟩ ⟨Nat.zero_le _, Nat.zero_le _⟩ (by omega) (tfM_noProcess (by omega) hg hK0  h1) (fun y1 g3 r2 e4 => ?_)
  refine go_ifeq k202_5 (inR_b r2) (fun c5 => ?_) (fun c6 => ?_)
  · refine go_int k202_10 (-1) rfl ?_
    refine go_istore k202_11 rfl (loc2 := [some (sR v0), some (sI v1), some (sI (-1)), none]) rfl ?_
    refine go_int k202_12 1 rfl ?_
    refine go_istore k202_13 rfl (loc2 := [some (sR v0), some (sI v1), some (sI (-1)), some (sI 1)]) rfl ?_
    exact tlM_heaviest_14 hd e4 hK0 h1 fu (-1) (inR_of (by decide)) 1 (inR_b (Or.inr rfl))
  · refine go_int k202_8 0 rfl ?_
    exact go_iret k202_9 e4 (inR_b (Or.inl rfl)) ⟨Nat.zero_le _, Nat.zero_le _⟩ rfl
theorem tbM_groupsBelow_22 {Φ : ev_P} {d : Nat} (hd : 2 ≤ d) {g : gH} (hg : HR g) {v0 v1 : Int} (hK0 : kd v0 = 7) (h1 : InR v1) {X22 : Int → Int → Option (Int × gH)} (HX22 : ∀ (v2 : Int) (h2 : InR v2) (v3 : Int) (h3 : InR v3), Go Φ pr_P fN 1 (X22 v2 v3) d pr_m203 22 [some (sR v0), some (sI v1), some (sI v2), some (sI v3)] [] g 0 0) : ∀ (v2 : Int) (h2 : InR v2) (v3 : Int) (h3 : InR v3), Go Φ pr_P fN 1 (bM_groupsBelow_22 g v0 v1 X22 v2 v3) d pr_m203 22 [some (sR v0), some (sI v1), some (sI v2), some (sI v3)] [] g 0 0 := by
  intro v2 h2 v3 h3
  unfold bM_groupsBelow_22
  refine go_iload k203_22 rfl ?_
  refine go_aload k203_23 rfl ?_
  refine go_getR (bI := 0) k203_24 hg hK0 (by decide) rfl rfl (fun r13 => ?_)
  refine go_int k203_27 0 rfl ?_
  refine go_ck (fun q15 => ?_)
  refine go_iald k203_28 hg q15 (fun r14 => ?_)
  refine go_cmlt k203_29 h3 r14 (fun c16 => ?_) (fun c17 => ?_)
  · refine go_iload k203_32 rfl ?_
    refine go_aload k203_33 rfl ?_
    refine go_iload k203_34 rfl ?_
    refine go_callP3 k203_35 rfl rfl rfl ⟨by decide, _, rfl, hK0⟩ ⟨Nat.zero_le _, Nat.zero_le _⟩ (by omega) (tfM_runs (by omega) hg hK0  h3) (fun y18 r19 => ?_)
    refine go_ifeq k203_38 (inR_b r19) (fun c22 => ?_) (fun c23 => ?_)
    · refine go_int k203_65 0 rfl ?_
      refine go_ibin k203_66 ?_
      refine go_istore k203_67 rfl (loc2 := [some (sR v0), some (sI v1), some (sI (opI 2 v2 0)), some (sI v3)]) rfl ?_
      refine go_iinc k203_68 rfl rfl 1 rfl (loc2 := [some (sR v0), some (sI v1), some (sI (opI 2 v2 0)), some (sI (w32 (v3 + 1)))]) rfl ?_
      refine go_goto k203_71 ?_
      exact HX22 (opI 2 v2 0) (inR_opI _ _ _) (w32 (v3 + 1)) (inR_w32 _)
    · refine go_aload k203_41 rfl ?_
      refine go_iload k203_42 rfl ?_
      refine go_iload k203_43 rfl ?_
      refine go_callP3 k203_44 rfl rfl rfl ⟨by decide, _, rfl, hK0⟩ ⟨Nat.zero_le _, Nat.zero_le _⟩ (by omega) (tfM_isOver (by omega) hg hK0  h1 h3) (fun y24 r25 => ?_)
      refine go_ifeq k203_47 (inR_b r25) (fun c28 => ?_) (fun c29 => ?_)
      · refine go_int k203_65 0 rfl ?_
        refine go_ibin k203_66 ?_
        refine go_istore k203_67 rfl (loc2 := [some (sR v0), some (sI v1), some (sI (opI 2 v2 0)), some (sI v3)]) rfl ?_
        refine go_iinc k203_68 rfl rfl 1 rfl (loc2 := [some (sR v0), some (sI v1), some (sI (opI 2 v2 0)), some (sI (w32 (v3 + 1)))]) rfl ?_
        refine go_goto k203_71 ?_
        exact HX22 (opI 2 v2 0) (inR_opI _ _ _) (w32 (v3 + 1)) (inR_w32 _)
      · refine go_int k203_50 1 rfl ?_
        refine go_aload k203_51 rfl ?_
        refine go_getR (bI := 0) k203_52 hg hK0 (by decide) rfl rfl (fun r30 => ?_)
        refine go_int k203_55 180 rfl ?_
        refine go_iload k203_58 rfl ?_
        refine go_iadd k203_59 ?_
        refine go_ck (fun q32 => ?_)
        refine go_iald k203_60 hg q32 (fun r31 => ?_)
        refine go_ibin k203_61 ?_
        refine go_goto k203_62 ?_
        refine go_ibin k203_66 ?_
        refine go_istore k203_67 rfl (loc2 := [some (sR v0), some (sI v1), some (sI (opI 2 v2 (opI 4 1 (g (g v0 0) (w32 (180 + v3)))))), some (sI v3)]) rfl ?_
        refine go_iinc k203_68 rfl rfl 1 rfl (loc2 := [some (sR v0), some (sI v1), some (sI (opI 2 v2 (opI 4 1 (g (g v0 0) (w32 (180 + v3)))))), some (sI (w32 (v3 + 1)))]) rfl ?_
        refine go_goto k203_71 ?_
        exact HX22 (opI 2 v2 (opI 4 1 (g (g v0 0) (w32 (180 + v3))))) (inR_opI _ _ _) (w32 (v3 + 1)) (inR_w32 _)
  · refine go_iload k203_74 rfl ?_
    exact go_iret k203_75 hg h2 ⟨Nat.zero_le _, Nat.zero_le _⟩ rfl
theorem tlM_groupsBelow_22 {Φ : ev_P} {d : Nat} (hd : 2 ≤ d) {g : gH} (hg : HR g) {v0 v1 : Int} (hK0 : kd v0 = 7) (h1 : InR v1) : ∀ n : Nat, ∀ (v2 : Int) (h2 : InR v2) (v3 : Int) (h3 : InR v3), Go Φ pr_P fN 1 (lM_groupsBelow_22 g v0 v1 n v2 v3) d pr_m203 22 [some (sR v0), some (sI v1), some (sI v2), some (sI v3)] [] g 0 0 := by
  intro n
  induction n with
  | zero => intros; exact go_none
  | succ n ih => exact tbM_groupsBelow_22 hd hg hK0 h1 ih
theorem tfM_groupsBelow {Φ : ev_P} {d : Nat} (hd : 2 ≤ d) {g : gH} (hg : HR g) {v0 v1 : Int} (hK0 : kd v0 = 7) (h1 : InR v1) : Go Φ pr_P fN 1 (fM_groupsBelow g v0 v1) d (pr_P 203) 0 (ev_loc (pr_P 203).1 [(sR v0), (sI v1)]) [] g 0 0 := by
  show Go Φ pr_P fN 1 (fM_groupsBelow g v0 v1) d pr_m203 0 [some (sR v0), some (sI v1), none, none] [] g 0 0
  unfold fM_groupsBelow
  refine go_aload k203_0 rfl ?_
  refine go_iload k203_1 rfl ?_
  refine go_callN3 k203_2 rfl rfl rfl ⟨by decide, _, rfl, hK0⟩ ⟨Nat.zero_le _, Nat.zero_le _⟩ (by omega) (tfM_noProcess (by omega) hg hK0  h1) (fun y1 g3 r2 e4 => ?_)
  refine go_ifeq k203_5 (inR_b r2) (fun c5 => ?_) (fun c6 => ?_)
  · refine go_aload k203_8 rfl ?_
    refine go_iload k203_9 rfl ?_
    refine go_callP3 k203_10 rfl rfl rfl ⟨by decide, _, rfl, hK0⟩ ⟨Nat.zero_le _, Nat.zero_le _⟩ (by omega) (tfM_runs (by omega) e4 hK0  h1) (fun y7 r8 => ?_)
    refine go_ifeq k203_13 (inR_b r8) (fun c11 => ?_) (fun c12 => ?_)
    · refine go_int k203_16 0 rfl ?_
      exact go_iret k203_17 e4 (inR_b (Or.inl rfl)) ⟨Nat.zero_le _, Nat.zero_le _⟩ rfl
    · refine go_int k203_18 0 rfl ?_
      refine go_istore k203_19 rfl (loc2 := [some (sR v0), some (sI v1), some (sI 0), none]) rfl ?_
      refine go_int k203_20 1 rfl ?_
      refine go_istore k203_21 rfl (loc2 := [some (sR v0), some (sI v1), some (sI 0), some (sI 1)]) rfl ?_
      exact tlM_groupsBelow_22 hd e4 hK0 h1 fu 0 (inR_b (Or.inl rfl)) 1 (inR_b (Or.inr rfl))
  · refine go_int k203_16 0 rfl ?_
    exact go_iret k203_17 e4 (inR_b (Or.inl rfl)) ⟨Nat.zero_le _, Nat.zero_le _⟩ rfl
theorem tbM_strangers_14 {Φ : ev_P} {d : Nat} (hd : 2 ≤ d) {g : gH} (hg : HR g) {v0 v1 : Int} (hK0 : kd v0 = 7) (h1 : InR v1) {X14 : Int → Int → Option (Int × gH)} (HX14 : ∀ (v2 : Int) (h2 : InR v2) (v3 : Int) (h3 : InR v3), Go Φ pr_P fN 1 (X14 v2 v3) d pr_m204 14 [some (sR v0), some (sI v1), some (sI v2), some (sI v3)] [] g 0 0) : ∀ (v2 : Int) (h2 : InR v2) (v3 : Int) (h3 : InR v3), Go Φ pr_P fN 1 (bM_strangers_14 g v0 v1 X14 v2 v3) d pr_m204 14 [some (sR v0), some (sI v1), some (sI v2), some (sI v3)] [] g 0 0 := by
  intro v2 h2 v3 h3
  unfold bM_strangers_14
  refine go_iload k204_14 rfl ?_
  refine go_aload k204_15 rfl ?_
  refine go_getR (bI := 0) k204_16 hg hK0 (by decide) rfl rfl (fun r7 => ?_)
  refine go_int k204_19 0 rfl ?_
  refine go_ck (fun q9 => ?_)
  refine go_iald k204_20 hg q9 (fun r8 => ?_)
  refine go_cmlt k204_21 h3 r8 (fun c10 => ?_) (fun c11 => ?_)
  · refine go_iload k204_24 rfl ?_
    refine go_aload k204_25 rfl ?_
    refine go_iload k204_26 rfl ?_
    refine go_iload k204_27 rfl ?_
    refine go_int k204_28 0 rfl ?_
    refine go_callP3 k204_29 rfl rfl rfl ⟨by decide, _, rfl, hK0⟩ ⟨Nat.zero_le _, Nat.zero_le _⟩ (by omega) (tfM_isChild (by omega) hg hK0  h3 h1 (inR_b (Or.inl rfl))) (fun y12 r13 => ?_)
    refine go_ifeq k204_32 (inR_b r13) (fun c16 => ?_) (fun c17 => ?_)
    · refine go_int k204_62 0 rfl ?_
      refine go_iadd k204_63 ?_
      refine go_istore k204_64 rfl (loc2 := [some (sR v0), some (sI v1), some (sI (w32 (v2 + 0))), some (sI v3)]) rfl ?_
      refine go_iinc k204_65 rfl rfl 1 rfl (loc2 := [some (sR v0), some (sI v1), some (sI (w32 (v2 + 0))), some (sI (w32 (v3 + 1)))]) rfl ?_
      refine go_goto k204_68 ?_
      exact HX14 (w32 (v2 + 0)) (inR_w32 _) (w32 (v3 + 1)) (inR_w32 _)
    · refine go_aload k204_35 rfl ?_
      refine go_getR (bI := 0) k204_36 hg hK0 (by decide) rfl rfl (fun r18 => ?_)
      refine go_int k204_39 180 rfl ?_
      refine go_iload k204_42 rfl ?_
      refine go_iadd k204_43 ?_
      refine go_ck (fun q20 => ?_)
      refine go_iald k204_44 hg q20 (fun r19 => ?_)
      refine go_aload k204_45 rfl ?_
      refine go_getR (bI := 0) k204_46 hg hK0 (by decide) rfl rfl (fun r21 => ?_)
      refine go_int k204_49 180 rfl ?_
      refine go_iload k204_52 rfl ?_
      refine go_iadd k204_53 ?_
      refine go_ck (fun q23 => ?_)
      refine go_iald k204_54 hg q23 (fun r22 => ?_)
      refine go_cmeq k204_55 r19 r22 (fun c24 => ?_) (fun c25 => ?_)
      · refine go_int k204_62 0 rfl ?_
        refine go_iadd k204_63 ?_
        refine go_istore k204_64 rfl (loc2 := [some (sR v0), some (sI v1), some (sI (w32 (v2 + 0))), some (sI v3)]) rfl ?_
        refine go_iinc k204_65 rfl rfl 1 rfl (loc2 := [some (sR v0), some (sI v1), some (sI (w32 (v2 + 0))), some (sI (w32 (v3 + 1)))]) rfl ?_
        refine go_goto k204_68 ?_
        exact HX14 (w32 (v2 + 0)) (inR_w32 _) (w32 (v3 + 1)) (inR_w32 _)
      · refine go_int k204_58 1 rfl ?_
        refine go_goto k204_59 ?_
        refine go_iadd k204_63 ?_
        refine go_istore k204_64 rfl (loc2 := [some (sR v0), some (sI v1), some (sI (w32 (v2 + 1))), some (sI v3)]) rfl ?_
        refine go_iinc k204_65 rfl rfl 1 rfl (loc2 := [some (sR v0), some (sI v1), some (sI (w32 (v2 + 1))), some (sI (w32 (v3 + 1)))]) rfl ?_
        refine go_goto k204_68 ?_
        exact HX14 (w32 (v2 + 1)) (inR_w32 _) (w32 (v3 + 1)) (inR_w32 _)
  · refine go_iload k204_71 rfl ?_
    exact go_iret k204_72 hg h2 ⟨Nat.zero_le _, Nat.zero_le _⟩ rfl
theorem tlM_strangers_14 {Φ : ev_P} {d : Nat} (hd : 2 ≤ d) {g : gH} (hg : HR g) {v0 v1 : Int} (hK0 : kd v0 = 7) (h1 : InR v1) : ∀ n : Nat, ∀ (v2 : Int) (h2 : InR v2) (v3 : Int) (h3 : InR v3), Go Φ pr_P fN 1 (lM_strangers_14 g v0 v1 n v2 v3) d pr_m204 14 [some (sR v0), some (sI v1), some (sI v2), some (sI v3)] [] g 0 0 := by
  intro n
  induction n with
  | zero => intros; exact go_none
  | succ n ih => exact tbM_strangers_14 hd hg hK0 h1 ih
theorem tfM_strangers {Φ : ev_P} {d : Nat} (hd : 2 ≤ d) {g : gH} (hg : HR g) {v0 v1 : Int} (hK0 : kd v0 = 7) (h1 : InR v1) : Go Φ pr_P fN 1 (fM_strangers g v0 v1) d (pr_P 204) 0 (ev_loc (pr_P 204).1 [(sR v0), (sI v1)]) [] g 0 0 := by
  show Go Φ pr_P fN 1 (fM_strangers g v0 v1) d pr_m204 0 [some (sR v0), some (sI v1), none, none] [] g 0 0
  unfold fM_strangers
  refine go_aload k204_0 rfl ?_
  refine go_iload k204_1 rfl ?_
  refine go_callN3 k204_2 rfl rfl rfl ⟨by decide, _, rfl, hK0⟩ ⟨Nat.zero_le _, Nat.zero_le _⟩ (by omega) (tfM_noProcess (by omega) hg hK0  h1) (fun y1 g3 r2 e4 => ?_)
  refine go_ifeq k204_5 (inR_b r2) (fun c5 => ?_) (fun c6 => ?_)
  · refine go_int k204_10 0 rfl ?_
    refine go_istore k204_11 rfl (loc2 := [some (sR v0), some (sI v1), some (sI 0), none]) rfl ?_
    refine go_int k204_12 1 rfl ?_
    refine go_istore k204_13 rfl (loc2 := [some (sR v0), some (sI v1), some (sI 0), some (sI 1)]) rfl ?_
    exact tlM_strangers_14 hd e4 hK0 h1 fu 0 (inR_b (Or.inl rfl)) 1 (inR_b (Or.inr rfl))
  · refine go_int k204_8 0 rfl ?_
    exact go_iret k204_9 e4 (inR_b (Or.inl rfl)) ⟨Nat.zero_le _, Nat.zero_le _⟩ rfl
theorem tfM_write {Φ : ev_P} {d : Nat} (hd : 0 ≤ d) {g : gH} (hg : HR g) {v0 v1 : Int} (hK0 : kd v0 = 7) (h1 : InR v1) : Go Φ pr_P fN 0 (fM_write g v0 v1) d (pr_P 205) 0 (ev_loc (pr_P 205).1 [(sR v0), (sI v1)]) [] g 0 0 := by
  show Go Φ pr_P fN 0 (fM_write g v0 v1) d pr_m205 0 [some (sR v0), some (sI v1)] [] g 0 0
  unfold fM_write
  refine go_aload k205_0 rfl ?_
  refine go_getR (bI := 22) k205_1 hg hK0 (by decide) rfl rfl (fun r1 => ?_)
  refine go_aload k205_4 rfl ?_
  refine go_getI (bI := 23) k205_5 hg hK0 (by decide) rfl rfl (fun r2 => ?_)
  refine go_iload k205_8 rfl ?_
  refine go_ck (fun q3 => ?_)
  refine go_iast k205_9 hg q3 h1 (fun g4 e5 => ?_)
  refine go_aload k205_10 rfl ?_
  refine go_dupR k205_11 ?_
  refine go_getI (bI := 23) k205_12 e5 hK0 (by decide) rfl rfl (fun r6 => ?_)
  refine go_int k205_15 1 rfl ?_
  refine go_iadd k205_16 ?_
  refine go_putI (bI := 23) k205_17 e5 hK0 (by decide) rfl rfl (inR_w32 _) (fun g7 e8 => ?_)
  exact go_vret k205_20 e8 ⟨Nat.zero_le _, Nat.zero_le _⟩ rfl
theorem tbM_writeNumber_18 {Φ : ev_P} {d : Nat} (hd : 1 ≤ d) {v0 v1 : Int} (hK0 : kd v0 = 7) (h1 : InR v1) {X18 : Int → gH → Option (Int × gH)} (HX18 : ∀ (v2 : Int) (h2 : InR v2) (g : gH) (hg : HR g), Go Φ pr_P fN 0 (X18 v2 g) d pr_m207 18 [some (sR v0), some (sI v1), some (sI v2)] [] g 0 0) : ∀ (v2 : Int) (h2 : InR v2) (g : gH) (hg : HR g), Go Φ pr_P fN 0 (bM_writeNumber_18 v0 v1 X18 v2 g) d pr_m207 18 [some (sR v0), some (sI v1), some (sI v2)] [] g 0 0 := by
  intro v2 h2 g hg
  unfold bM_writeNumber_18
  refine go_iload k207_18 rfl ?_
  refine go_ifgt k207_19 h2 (fun c4 => ?_) (fun c5 => ?_)
  · refine go_aload k207_22 rfl ?_
    refine go_int k207_23 48 rfl ?_
    refine go_iload k207_25 rfl ?_
    refine go_iload k207_26 rfl ?_
    refine go_ck (fun q6 => ?_)
    refine go_div k207_27 q6 ?_
    refine go_int k207_28 10 rfl ?_
    refine go_ck (fun q7 => ?_)
    refine go_rem k207_30 q7 ?_
    refine go_iadd k207_31 ?_
    refine go_callN0 k207_32 rfl rfl rfl ⟨by decide, _, rfl, hK0⟩ ⟨Nat.zero_le _, Nat.zero_le _⟩ (by omega) (tfM_write (by omega) hg hK0  (inR_w32 _)) (fun y8 g10 e11 => ?_)
    refine go_iload k207_35 rfl ?_
    refine go_int k207_36 10 rfl ?_
    refine go_ck (fun q12 => ?_)
    refine go_div k207_38 q12 ?_
    refine go_istore k207_39 rfl (loc2 := [some (sR v0), some (sI v1), some (sI (v2 / 10))]) rfl ?_
    refine go_goto k207_40 ?_
    exact HX18 (v2 / 10) (inR_div q12) g10 e11
  · exact go_vret k207_43 hg ⟨Nat.zero_le _, Nat.zero_le _⟩ rfl
theorem tlM_writeNumber_18 {Φ : ev_P} {d : Nat} (hd : 1 ≤ d) {v0 v1 : Int} (hK0 : kd v0 = 7) (h1 : InR v1) : ∀ n : Nat, ∀ (v2 : Int) (h2 : InR v2) (g : gH) (hg : HR g), Go Φ pr_P fN 0 (lM_writeNumber_18 v0 v1 n v2 g) d pr_m207 18 [some (sR v0), some (sI v1), some (sI v2)] [] g 0 0 := by
  intro n
  induction n with
  | zero => intros; exact go_none
  | succ n ih => exact tbM_writeNumber_18 hd hK0 h1 ih
theorem tbM_writeNumber_2 {Φ : ev_P} {d : Nat} (hd : 1 ≤ d) {g : gH} (hg : HR g) {v0 v1 : Int} (hK0 : kd v0 = 7) (h1 : InR v1) {X2 : Int → Option (Int × gH)} (HX2 : ∀ (v2 : Int) (h2 : InR v2), Go Φ pr_P fN 0 (X2 v2) d pr_m207 2 [some (sR v0), some (sI v1), some (sI v2)] [] g 0 0) : ∀ (v2 : Int) (h2 : InR v2), Go Φ pr_P fN 0 (bM_writeNumber_2 g v0 v1 X2 v2) d pr_m207 2 [some (sR v0), some (sI v1), some (sI v2)] [] g 0 0 := by
  intro v2 h2
  unfold bM_writeNumber_2
  refine go_iload k207_2 rfl ?_
  refine go_iload k207_3 rfl ?_
  refine go_ck (fun q1 => ?_)
  refine go_div k207_4 q1 ?_
  refine go_int k207_5 9 rfl ?_
  refine go_cmgt k207_7 (inR_div q1) (inR_of (by decide)) (fun c2 => ?_) (fun c3 => ?_)
  · refine go_iload k207_10 rfl ?_
    refine go_int k207_11 10 rfl ?_
    refine go_ibin k207_13 ?_
    refine go_istore k207_14 rfl (loc2 := [some (sR v0), some (sI v1), some (sI (opI 0 v2 10))]) rfl ?_
    refine go_goto k207_15 ?_
    exact HX2 (opI 0 v2 10) (inR_opI _ _ _)
  · exact tlM_writeNumber_18 hd hK0 h1 fu v2 h2 g hg
theorem tlM_writeNumber_2 {Φ : ev_P} {d : Nat} (hd : 1 ≤ d) {g : gH} (hg : HR g) {v0 v1 : Int} (hK0 : kd v0 = 7) (h1 : InR v1) : ∀ n : Nat, ∀ (v2 : Int) (h2 : InR v2), Go Φ pr_P fN 0 (lM_writeNumber_2 g v0 v1 n v2) d pr_m207 2 [some (sR v0), some (sI v1), some (sI v2)] [] g 0 0 := by
  intro n
  induction n with
  | zero => intros; exact go_none
  | succ n ih => exact tbM_writeNumber_2 hd hg hK0 h1 ih
theorem tfM_writeNumber {Φ : ev_P} {d : Nat} (hd : 1 ≤ d) {g : gH} (hg : HR g) {v0 v1 : Int} (hK0 : kd v0 = 7) (h1 : InR v1) : Go Φ pr_P fN 0 (fM_writeNumber g v0 v1) d (pr_P 207) 0 (ev_loc (pr_P 207).1 [(sR v0), (sI v1)]) [] g 0 0 := by
  show Go Φ pr_P fN 0 (fM_writeNumber g v0 v1) d pr_m207 0 [some (sR v0), some (sI v1), none] [] g 0 0
  unfold fM_writeNumber
  refine go_int k207_0 1 rfl ?_
  refine go_istore k207_1 rfl (loc2 := [some (sR v0), some (sI v1), some (sI 1)]) rfl ?_
  exact tlM_writeNumber_2 hd hg hK0 h1 fu 1 (inR_b (Or.inr rfl))
theorem tbM_onPath_2 {Φ : ev_P} {d : Nat} (hd : 1 ≤ d) {g : gH} (hg : HR g) {v0 v2 : Int} (hK0 : kd v0 = 7) (h2 : InR v2) {X2 : Int → Option Int} (HX2 : ∀ (v3 : Int) (h3 : InR v3) (u1 : Option ev_V) (w1 : nwo u1), Go Φ pr_P (fP g) 1 (X2 v3) d pr_m206 2 [some (sR v0), u1, some (sI v2), some (sI v3)] [] g 0 0) : ∀ (v3 : Int) (h3 : InR v3) (u1 : Option ev_V) (w1 : nwo u1), Go Φ pr_P (fP g) 1 (bM_onPath_2 g v0 v2 X2 v3) d pr_m206 2 [some (sR v0), u1, some (sI v2), some (sI v3)] [] g 0 0 := by
  intro v3 h3 u1 w1
  unfold bM_onPath_2
  refine go_aload k206_2 rfl ?_
  refine go_iload k206_3 rfl ?_
  refine go_callP1 k206_4 rfl rfl rfl ⟨by decide, _, rfl, hK0⟩ ⟨Nat.zero_le _, Nat.zero_le _⟩ (by omega) (tfM_deep (by omega) hg hK0  h3) (fun y1 r2 => ?_)
  refine go_iload k206_7 rfl ?_
  refine go_cmgt k206_8 r2 h2 (fun c5 => ?_) (fun c6 => ?_)
  · refine go_aload k206_11 rfl ?_
    refine go_getR (bI := 0) k206_12 hg hK0 (by decide) rfl rfl (fun r7 => ?_)
    refine go_int k206_15 60 rfl ?_
    refine go_iload k206_17 rfl ?_
    refine go_iadd k206_18 ?_
    refine go_ck (fun q9 => ?_)
    refine go_iald k206_19 hg q9 (fun r8 => ?_)
    refine go_istore k206_20 rfl (loc2 := [some (sR v0), u1, some (sI v2), some (sI (g (g v0 0) (w32 (60 + v3))))]) rfl ?_
    refine go_goto k206_21 ?_
    exact HX2 (g (g v0 0) (w32 (60 + v3))) r8 u1 w1
  · refine go_iload k206_24 rfl ?_
    exact go_iret k206_25 hg h3 ⟨Nat.zero_le _, Nat.zero_le _⟩ rfl
theorem tlM_onPath_2 {Φ : ev_P} {d : Nat} (hd : 1 ≤ d) {g : gH} (hg : HR g) {v0 v2 : Int} (hK0 : kd v0 = 7) (h2 : InR v2) : ∀ n : Nat, ∀ (v3 : Int) (h3 : InR v3) (u1 : Option ev_V) (w1 : nwo u1), Go Φ pr_P (fP g) 1 (lM_onPath_2 g v0 v2 n v3) d pr_m206 2 [some (sR v0), u1, some (sI v2), some (sI v3)] [] g 0 0 := by
  intro n
  induction n with
  | zero => intros; exact go_none
  | succ n ih => exact tbM_onPath_2 hd hg hK0 h2 ih
theorem tfM_onPath {Φ : ev_P} {d : Nat} (hd : 1 ≤ d) {g : gH} (hg : HR g) {v0 v1 v2 : Int} (hK0 : kd v0 = 7) (h1 : InR v1) (h2 : InR v2) : Go Φ pr_P (fP g) 1 (fM_onPath g v0 v1 v2) d (pr_P 206) 0 (ev_loc (pr_P 206).1 [(sR v0), (sI v1), (sI v2)]) [] g 0 0 := by
  show Go Φ pr_P (fP g) 1 (fM_onPath g v0 v1 v2) d pr_m206 0 [some (sR v0), some (sI v1), some (sI v2), none] [] g 0 0
  unfold fM_onPath
  refine go_iload k206_0 rfl ?_
  refine go_istore k206_1 rfl (loc2 := [some (sR v0), some (sI v1), some (sI v2), some (sI v1)]) rfl ?_
  exact tlM_onPath_2 hd hg hK0 h2 fu v1 h1 (some (sI v1)) rfl
theorem tfM_writeBetween {Φ : ev_P} {d : Nat} (hd : 1 ≤ d) {g : gH} (hg : HR g) {v0 v1 : Int} (hK0 : kd v0 = 7) (h1 : InR v1) : Go Φ pr_P fN 0 (fM_writeBetween g v0 v1) d (pr_P 208) 0 (ev_loc (pr_P 208).1 [(sR v0), (sI v1)]) [] g 0 0 := by
  show Go Φ pr_P fN 0 (fM_writeBetween g v0 v1) d pr_m208 0 [some (sR v0), some (sI v1)] [] g 0 0
  unfold fM_writeBetween
  refine go_aload k208_0 rfl ?_
  refine go_getI (bI := 23) k208_1 hg hK0 (by decide) rfl rfl (fun r1 => ?_)
  refine go_ifgt k208_4 r1 (fun c2 => ?_) (fun c3 => ?_)
  · refine go_aload k208_7 rfl ?_
    refine go_iload k208_8 rfl ?_
    refine go_callN0 k208_9 rfl rfl rfl ⟨by decide, _, rfl, hK0⟩ ⟨Nat.zero_le _, Nat.zero_le _⟩ (by omega) (tfM_write (by omega) hg hK0  h1) (fun y4 g6 e7 => ?_)
    exact go_vret k208_12 e7 ⟨Nat.zero_le _, Nat.zero_le _⟩ rfl
  · exact go_vret k208_12 hg ⟨Nat.zero_le _, Nat.zero_le _⟩ rfl
theorem tbM_writePath_2 {Φ : ev_P} {d : Nat} (hd : 2 ≤ d) {v0 v1 : Int} (hK0 : kd v0 = 7) (h1 : InR v1) {X2 : Int → gH → Option (Int × gH)} (HX2 : ∀ (v2 : Int) (h2 : InR v2) (g : gH) (hg : HR g), Go Φ pr_P fN 0 (X2 v2 g) d pr_m209 2 [some (sR v0), some (sI v1), some (sI v2)] [] g 0 0) : ∀ (v2 : Int) (h2 : InR v2) (g : gH) (hg : HR g), Go Φ pr_P fN 0 (bM_writePath_2 v0 v1 X2 v2 g) d pr_m209 2 [some (sR v0), some (sI v1), some (sI v2)] [] g 0 0 := by
  intro v2 h2 g hg
  unfold bM_writePath_2
  refine go_iload k209_2 rfl ?_
  refine go_aload k209_3 rfl ?_
  refine go_iload k209_4 rfl ?_
  refine go_callP1 k209_5 rfl rfl rfl ⟨by decide, _, rfl, hK0⟩ ⟨Nat.zero_le _, Nat.zero_le _⟩ (by omega) (tfM_deep (by omega) hg hK0  h1) (fun y1 r2 => ?_)
  refine go_cmgt k209_8 h2 r2 (fun c5 => ?_) (fun c6 => ?_)
  · exact go_vret k209_33 hg ⟨Nat.zero_le _, Nat.zero_le _⟩ rfl
  · refine go_aload k209_11 rfl ?_
    refine go_int k209_12 47 rfl ?_
    refine go_callN0 k209_14 rfl rfl rfl ⟨by decide, _, rfl, hK0⟩ ⟨Nat.zero_le _, Nat.zero_le _⟩ (by omega) (tfM_writeBetween (by omega) hg hK0  (inR_of (by decide))) (fun y7 g9 e10 => ?_)
    refine go_aload k209_17 rfl ?_
    refine go_aload k209_18 rfl ?_
    refine go_iload k209_19 rfl ?_
    refine go_iload k209_20 rfl ?_
    refine go_callP1 k209_21 rfl rfl rfl ⟨by decide, _, rfl, hK0⟩ ⟨Nat.zero_le _, Nat.zero_le _⟩ (by omega) (tfM_onPath (by omega) e10 hK0  h1 h2) (fun y11 r12 => ?_)
    refine go_callN0 k209_24 rfl rfl rfl ⟨by decide, _, rfl, hK0⟩ ⟨Nat.zero_le _, Nat.zero_le _⟩ (by omega) (tfM_writeNumber (by omega) e10 hK0  r12) (fun y15 g17 e18 => ?_)
    refine go_iinc k209_27 rfl rfl 1 rfl (loc2 := [some (sR v0), some (sI v1), some (sI (w32 (v2 + 1)))]) rfl ?_
    refine go_goto k209_30 ?_
    exact HX2 (w32 (v2 + 1)) (inR_w32 _) g17 e18
theorem tlM_writePath_2 {Φ : ev_P} {d : Nat} (hd : 2 ≤ d) {v0 v1 : Int} (hK0 : kd v0 = 7) (h1 : InR v1) : ∀ n : Nat, ∀ (v2 : Int) (h2 : InR v2) (g : gH) (hg : HR g), Go Φ pr_P fN 0 (lM_writePath_2 v0 v1 n v2 g) d pr_m209 2 [some (sR v0), some (sI v1), some (sI v2)] [] g 0 0 := by
  intro n
  induction n with
  | zero => intros; exact go_none
  | succ n ih => exact tbM_writePath_2 hd hK0 h1 ih
theorem tfM_writePath {Φ : ev_P} {d : Nat} (hd : 2 ≤ d) {g : gH} (hg : HR g) {v0 v1 : Int} (hK0 : kd v0 = 7) (h1 : InR v1) : Go Φ pr_P fN 0 (fM_writePath g v0 v1) d (pr_P 209) 0 (ev_loc (pr_P 209).1 [(sR v0), (sI v1)]) [] g 0 0 := by
  show Go Φ pr_P fN 0 (fM_writePath g v0 v1) d pr_m209 0 [some (sR v0), some (sI v1), none] [] g 0 0
  unfold fM_writePath
  refine go_int k209_0 0 rfl ?_
  refine go_istore k209_1 rfl (loc2 := [some (sR v0), some (sI v1), some (sI 0)]) rfl ?_
  exact tlM_writePath_2 hd hK0 h1 fu 0 (inR_b (Or.inl rfl)) g hg
theorem tbM_writeChildren_7 {Φ : ev_P} {d : Nat} (hd : 2 ≤ d) {v0 v1 : Int} (hK0 : kd v0 = 7) (h1 : InR v1) {X7 : Int → gH → Option (Int × gH)} (HX7 : ∀ (v2 : Int) (h2 : InR v2) (g : gH) (hg : HR g), Go Φ pr_P fN 0 (X7 v2 g) d pr_m210 7 [some (sR v0), some (sI v1), some (sI v2)] [] g 0 0) : ∀ (v2 : Int) (h2 : InR v2) (g : gH) (hg : HR g), Go Φ pr_P fN 0 (bM_writeChildren_7 v0 v1 X7 v2 g) d pr_m210 7 [some (sR v0), some (sI v1), some (sI v2)] [] g 0 0 := by
  intro v2 h2 g hg
  unfold bM_writeChildren_7
  refine go_iload k210_7 rfl ?_
  refine go_int k210_8 (-1) rfl ?_
  refine go_cmeq k210_9 h2 (inR_of (by decide)) (fun c5 => ?_) (fun c6 => ?_)
  · exact go_vret k210_35 hg ⟨Nat.zero_le _, Nat.zero_le _⟩ rfl
  · refine go_aload k210_12 rfl ?_
    refine go_int k210_13 44 rfl ?_
    refine go_callN0 k210_15 rfl rfl rfl ⟨by decide, _, rfl, hK0⟩ ⟨Nat.zero_le _, Nat.zero_le _⟩ (by omega) (tfM_writeBetween (by omega) hg hK0  (inR_of (by decide))) (fun y7 g9 e10 => ?_)
    refine go_aload k210_18 rfl ?_
    refine go_iload k210_19 rfl ?_
    refine go_callN0 k210_20 rfl rfl rfl ⟨by decide, _, rfl, hK0⟩ ⟨Nat.zero_le _, Nat.zero_le _⟩ (by omega) (tfM_writeNumber (by omega) e10 hK0  h2) (fun y11 g13 e14 => ?_)
    refine go_aload k210_23 rfl ?_
    refine go_iload k210_24 rfl ?_
    refine go_iload k210_25 rfl ?_
    refine go_int k210_26 1 rfl ?_
    refine go_iadd k210_27 ?_
    refine go_callP1 k210_28 rfl rfl rfl ⟨by decide, _, rfl, hK0⟩ ⟨Nat.zero_le _, Nat.zero_le _⟩ (by omega) (tfM_nextChild (by omega) e14 hK0  h1 (inR_w32 _)) (fun y15 r16 => ?_)
    refine go_istore k210_31 rfl (loc2 := [some (sR v0), some (sI v1), some (sI y15)]) rfl ?_
    refine go_goto k210_32 ?_
    exact HX7 y15 r16 g13 e14
theorem tlM_writeChildren_7 {Φ : ev_P} {d : Nat} (hd : 2 ≤ d) {v0 v1 : Int} (hK0 : kd v0 = 7) (h1 : InR v1) : ∀ n : Nat, ∀ (v2 : Int) (h2 : InR v2) (g : gH) (hg : HR g), Go Φ pr_P fN 0 (lM_writeChildren_7 v0 v1 n v2 g) d pr_m210 7 [some (sR v0), some (sI v1), some (sI v2)] [] g 0 0 := by
  intro n
  induction n with
  | zero => intros; exact go_none
  | succ n ih => exact tbM_writeChildren_7 hd hK0 h1 ih
theorem tfM_writeChildren {Φ : ev_P} {d : Nat} (hd : 2 ≤ d) {g : gH} (hg : HR g) {v0 v1 : Int} (hK0 : kd v0 = 7) (h1 : InR v1) : Go Φ pr_P fN 0 (fM_writeChildren g v0 v1) d (pr_P 210) 0 (ev_loc (pr_P 210).1 [(sR v0), (sI v1)]) [] g 0 0 := by
  show Go Φ pr_P fN 0 (fM_writeChildren g v0 v1) d pr_m210 0 [some (sR v0), some (sI v1), none] [] g 0 0
  unfold fM_writeChildren
  refine go_aload k210_0 rfl ?_
  refine go_iload k210_1 rfl ?_
  refine go_int k210_2 0 rfl ?_
  refine go_callP1 k210_3 rfl rfl rfl ⟨by decide, _, rfl, hK0⟩ ⟨Nat.zero_le _, Nat.zero_le _⟩ (by omega) (tfM_nextChild (by omega) hg hK0  h1 (inR_b (Or.inl rfl))) (fun y1 r2 => ?_)
  refine go_istore k210_6 rfl (loc2 := [some (sR v0), some (sI v1), some (sI y1)]) rfl ?_
  exact tlM_writeChildren_7 hd hK0 h1 fu y1 r2 g hg
theorem tjM_writeTree_42 {Φ : ev_P} {d : Nat} (hd : 3 ≤ d) {R : gH → Int → Int → Option (Int × gH)} (HR0 : ∀ (g : gH) (hg : HR g) (v0 : Int) (v1 : Int) (hK0 : kd v0 = 7) (h1 : InR v1), Go Φ pr_P fN 0 (R g v0 v1) (d - 1) (pr_P 211) 0 (ev_loc (pr_P 211).1 [(sR v0), (sI v1)]) [] g 0 0) {X26 : Int → gH → Option (Int × gH)} {g : gH} (hg : HR g) {v0 v1 v2 v3 : Int} (hK0 : kd v0 = 7) (h1 : InR v1) (h2 : InR v2) (h3 : InR v3) (HX26 : ∀ (v3 : Int) (h3 : InR v3) (g : gH) (hg : HR g), Go Φ pr_P fN 0 (X26 v3 g) d pr_m211 26 [some (sR v0), some (sI v1), some (sI v2), some (sI v3)] [] g 0 0) : Go Φ pr_P fN 0 (jM_writeTree_42 R X26 g v0 v1 v2 v3 ) d pr_m211 42 [some (sR v0), some (sI v1), some (sI v2), some (sI v3)] [] g 0 0 := by
  unfold jM_writeTree_42
  refine go_aload k211_42 rfl ?_
  refine go_iload k211_43 rfl ?_
  refine go_callN0 k211_44 rfl rfl rfl ⟨by decide, _, rfl, hK0⟩ ⟨Nat.zero_le _, Nat.zero_le _⟩ (by omega) (HR0 g hg v0 v3 hK0  h3) (fun y27 g29 e30 => ?_)
  refine go_aload k211_47 rfl ?_
  refine go_iload k211_48 rfl ?_
  refine go_iload k211_49 rfl ?_
  refine go_int k211_50 1 rfl ?_
  refine go_iadd k211_51 ?_
  refine go_callP1 k211_52 rfl rfl rfl ⟨by decide, _, rfl, hK0⟩ ⟨Nat.zero_le _, Nat.zero_le _⟩ (by omega) (tfM_nextChild (by omega) e30 hK0  h1 (inR_w32 _)) (fun y31 r32 => ?_)
  refine go_istore k211_55 rfl (loc2 := [some (sR v0), some (sI v1), some (sI v2), some (sI y31)]) rfl ?_
  refine go_goto k211_56 ?_
  exact HX26 y31 r32 g29 e30
theorem tbM_writeTree_26 {Φ : ev_P} {d : Nat} (hd : 3 ≤ d) {R : gH → Int → Int → Option (Int × gH)} (HR0 : ∀ (g : gH) (hg : HR g) (v0 : Int) (v1 : Int) (hK0 : kd v0 = 7) (h1 : InR v1), Go Φ pr_P fN 0 (R g v0 v1) (d - 1) (pr_P 211) 0 (ev_loc (pr_P 211).1 [(sR v0), (sI v1)]) [] g 0 0) {v0 v1 v2 : Int} (hK0 : kd v0 = 7) (h1 : InR v1) (h2 : InR v2) {X26 : Int → gH → Option (Int × gH)} (HX26 : ∀ (v3 : Int) (h3 : InR v3) (g : gH) (hg : HR g), Go Φ pr_P fN 0 (X26 v3 g) d pr_m211 26 [some (sR v0), some (sI v1), some (sI v2), some (sI v3)] [] g 0 0) : ∀ (v3 : Int) (h3 : InR v3) (g : gH) (hg : HR g), Go Φ pr_P fN 0 (bM_writeTree_26 R v0 v1 v2 X26 v3 g) d pr_m211 26 [some (sR v0), some (sI v1), some (sI v2), some (sI v3)] [] g 0 0 := by
  intro v3 h3 g hg
  unfold bM_writeTree_26
  refine go_iload k211_26 rfl ?_
  refine go_int k211_27 (-1) rfl ?_
  refine go_cmeq k211_28 h3 (inR_of (by decide)) (fun c15 => ?_) (fun c16 => ?_)
  · refine go_aload k211_59 rfl ?_
    refine go_int k211_60 41 rfl ?_
    refine go_callN0 k211_62 rfl rfl rfl ⟨by decide, _, rfl, hK0⟩ ⟨Nat.zero_le _, Nat.zero_le _⟩ (by omega) (tfM_write (by omega) hg hK0  (inR_of (by decide))) (fun y17 g19 e20 => ?_)
    exact go_vret k211_65 e20 ⟨Nat.zero_le _, Nat.zero_le _⟩ rfl
  · refine go_iload k211_31 rfl ?_
    refine go_iload k211_32 rfl ?_
    refine go_cmeq k211_33 h3 h2 (fun c21 => ?_) (fun c22 => ?_)
    · exact tjM_writeTree_42 hd HR0 hg hK0 h1 h2 h3 HX26
    · refine go_aload k211_36 rfl ?_
      refine go_int k211_37 32 rfl ?_
      refine go_callN0 k211_39 rfl rfl rfl ⟨by decide, _, rfl, hK0⟩ ⟨Nat.zero_le _, Nat.zero_le _⟩ (by omega) (tfM_write (by omega) hg hK0  (inR_of (by decide))) (fun y23 g25 e26 => ?_)
      exact tjM_writeTree_42 hd HR0 e26 hK0 h1 h2 h3 HX26
theorem tlM_writeTree_26 {Φ : ev_P} {d : Nat} (hd : 3 ≤ d) {R : gH → Int → Int → Option (Int × gH)} (HR0 : ∀ (g : gH) (hg : HR g) (v0 : Int) (v1 : Int) (hK0 : kd v0 = 7) (h1 : InR v1), Go Φ pr_P fN 0 (R g v0 v1) (d - 1) (pr_P 211) 0 (ev_loc (pr_P 211).1 [(sR v0), (sI v1)]) [] g 0 0) {v0 v1 v2 : Int} (hK0 : kd v0 = 7) (h1 : InR v1) (h2 : InR v2) : ∀ n : Nat, ∀ (v3 : Int) (h3 : InR v3) (g : gH) (hg : HR g), Go Φ pr_P fN 0 (lM_writeTree_26 R v0 v1 v2 n v3 g) d pr_m211 26 [some (sR v0), some (sI v1), some (sI v2), some (sI v3)] [] g 0 0 := by
  intro n
  induction n with
  | zero => intros; exact go_none
  | succ n ih => exact tbM_writeTree_26 hd HR0 hK0 h1 h2 ih
theorem tfbM_writeTree {Φ : ev_P} {d : Nat} (hd : 3 ≤ d) {R : gH → Int → Int → Option (Int × gH)} (HR0 : ∀ (g : gH) (hg : HR g) (v0 : Int) (v1 : Int) (hK0 : kd v0 = 7) (h1 : InR v1), Go Φ pr_P fN 0 (R g v0 v1) (d - 1) (pr_P 211) 0 (ev_loc (pr_P 211).1 [(sR v0), (sI v1)]) [] g 0 0) {g : gH} (hg : HR g) {v0 v1 : Int} (hK0 : kd v0 = 7) (h1 : InR v1) : Go Φ pr_P fN 0 (fbM_writeTree R g v0 v1) d (pr_P 211) 0 (ev_loc (pr_P 211).1 [(sR v0), (sI v1)]) [] g 0 0 := by
  show Go Φ pr_P fN 0 (fbM_writeTree R g v0 v1) d pr_m211 0 [some (sR v0), some (sI v1), none, none] [] g 0 0
  unfold fbM_writeTree
  refine go_aload k211_0 rfl ?_
  refine go_iload k211_1 rfl ?_
  refine go_callN0 k211_2 rfl rfl rfl ⟨by decide, _, rfl, hK0⟩ ⟨Nat.zero_le _, Nat.zero_le _⟩ (by omega) (tfM_writeNumber (by omega) hg hK0  h1) (fun y1 g3 e4 => ?_)
  refine go_aload k211_5 rfl ?_
  refine go_iload k211_6 rfl ?_
  refine go_int k211_7 0 rfl ?_
  refine go_callP1 k211_8 rfl rfl rfl ⟨by decide, _, rfl, hK0⟩ ⟨Nat.zero_le _, Nat.zero_le _⟩ (by omega) (tfM_nextChild (by omega) e4 hK0  h1 (inR_b (Or.inl rfl))) (fun y5 r6 => ?_)
  refine go_istore k211_11 rfl (loc2 := [some (sR v0), some (sI v1), some (sI y5), none]) rfl ?_
  refine go_iload k211_12 rfl ?_
  refine go_int k211_13 (-1) rfl ?_
  refine go_cmeq k211_14 r6 (inR_of (by decide)) (fun c9 => ?_) (fun c10 => ?_)
  · exact go_vret k211_17 e4 ⟨Nat.zero_le _, Nat.zero_le _⟩ rfl
  · refine go_aload k211_18 rfl ?_
    refine go_int k211_19 40 rfl ?_
    refine go_callN0 k211_21 rfl rfl rfl ⟨by decide, _, rfl, hK0⟩ ⟨Nat.zero_le _, Nat.zero_le _⟩ (by omega) (tfM_write (by omega) e4 hK0  (inR_of (by decide))) (fun y11 g13 e14 => ?_)
    refine go_iload k211_24 rfl ?_
    refine go_istore k211_25 rfl (loc2 := [some (sR v0), some (sI v1), some (sI y5), some (sI y5)]) rfl ?_
    exact tlM_writeTree_26 hd HR0 hK0 h1 r6 fu y5 r6 g13 e14
theorem tfnM_writeTree {Φ : ev_P} : ∀ (n d : Nat) (hd : n + 3 ≤ d), ∀ (g : gH) (hg : HR g) (v0 : Int) (v1 : Int) (hK0 : kd v0 = 7) (h1 : InR v1), Go Φ pr_P fN 0 (fM_writeTree n g v0 v1) d (pr_P 211) 0 (ev_loc (pr_P 211).1 [(sR v0), (sI v1)]) [] g 0 0 := by
  intro n
  induction n with
  | zero => intros; exact go_none
  | succ n ih =>
    intro d hd g hg v0 v1 hK0 h1
    exact tfbM_writeTree (by omega) (fun g hg v0 v1 hK0 h1 => ih (d - 1) (by omega) g hg v0 v1 hK0 h1) hg hK0 h1
theorem tfM_writeTree {Φ : ev_P} {d : Nat} (hd : 63 ≤ d) {g : gH} (hg : HR g) {v0 v1 : Int} (hK0 : kd v0 = 7) (h1 : InR v1) : Go Φ pr_P fN 0 (fM_writeTree fr g v0 v1) d (pr_P 211) 0 (ev_loc (pr_P 211).1 [(sR v0), (sI v1)]) [] g 0 0 := tfnM_writeTree fr d (by unfold fr; omega) g hg v0 v1 hK0 h1
theorem tbM_writeZombies_2 {Φ : ev_P} {d : Nat} (hd : 2 ≤ d) {v0 v1 : Int} (hK0 : kd v0 = 7) (h1 : InR v1) {X2 : Int → gH → Option (Int × gH)} (HX2 : ∀ (v2 : Int) (h2 : InR v2) (g : gH) (hg : HR g) (u3 : Option ev_V) (w3 : nwo u3), Go Φ pr_P fN 0 (X2 v2 g) d pr_m212 2 [some (sR v0), some (sI v1), some (sI v2), u3] [] g 0 0) : ∀ (v2 : Int) (h2 : InR v2) (g : gH) (hg : HR g) (u3 : Option ev_V) (w3 : nwo u3), Go Φ pr_P fN 0 (bM_writeZombies_2 v0 v1 X2 v2 g) d pr_m212 2 [some (sR v0), some (sI v1), some (sI v2), u3] [] g 0 0 := by
  intro v2 h2 g hg u3 w3
  unfold bM_writeZombies_2
  refine go_iload k212_2 rfl ?_
  refine go_aload k212_3 rfl ?_
  refine go_getR (bI := 0) k212_4 hg hK0 (by decide) rfl rfl (fun r1 => ?_)
  refine go_int k212_7 1 rfl ?_
  refine go_ck (fun q3 => ?_)
  refine go_iald k212_8 hg q3 (fun r2 => ?_)
  refine go_cmlt k212_9 h2 r2 (fun c4 => ?_) (fun c5 => ?_)
  · refine go_aload k212_12 rfl ?_
    refine go_getR (bI := 0) k212_13 hg hK0 (by decide) rfl rfl (fun r6 => ?_)
    refine go_int k212_16 19 rfl ?_
    refine go_iload k212_18 rfl ?_
    refine go_iadd k212_19 ?_
    refine go_ck (fun q8 => ?_)
    refine go_iald k212_20 hg q8 (fun r7 => ?_)
    refine go_istore k212_21 rfl (loc2 := [some (sR v0), some (sI v1), some (sI v2), some (sI (g (g v0 0) (w32 (19 + v2))))]) rfl ?_
    refine go_aload k212_22 rfl ?_
    refine go_iload k212_23 rfl ?_
    refine go_iload k212_24 rfl ?_
    refine go_int k212_25 1 rfl ?_
    refine go_callP3 k212_26 rfl rfl rfl ⟨by decide, _, rfl, hK0⟩ ⟨Nat.zero_le _, Nat.zero_le _⟩ (by omega) (tfM_isChild (by omega) hg hK0  r7 h1 (inR_b (Or.inr rfl))) (fun y9 r10 => ?_)
    refine go_ifeq k212_29 (inR_b r10) (fun c13 => ?_) (fun c14 => ?_)
    · refine go_goto k212_32 ?_
      refine go_iinc k212_66 rfl rfl 1 rfl (loc2 := [some (sR v0), some (sI v1), some (sI (w32 (v2 + 1))), some (sI (g (g v0 0) (w32 (19 + v2))))]) rfl ?_
      refine go_goto k212_69 ?_
      exact HX2 (w32 (v2 + 1)) (inR_w32 _) g hg (some (sI (g (g v0 0) (w32 (19 + v2))))) rfl
    · refine go_aload k212_35 rfl ?_
      refine go_int k212_36 44 rfl ?_
      refine go_callN0 k212_38 rfl rfl rfl ⟨by decide, _, rfl, hK0⟩ ⟨Nat.zero_le _, Nat.zero_le _⟩ (by omega) (tfM_writeBetween (by omega) hg hK0  (inR_of (by decide))) (fun y15 g17 e18 => ?_)
      refine go_aload k212_41 rfl ?_
      refine go_iload k212_42 rfl ?_
      refine go_callN0 k212_43 rfl rfl rfl ⟨by decide, _, rfl, hK0⟩ ⟨Nat.zero_le _, Nat.zero_le _⟩ (by omega) (tfM_writeNumber (by omega) e18 hK0  r7) (fun y19 g21 e22 => ?_)
      refine go_aload k212_46 rfl ?_
      refine go_int k212_47 58 rfl ?_
      refine go_callN0 k212_49 rfl rfl rfl ⟨by decide, _, rfl, hK0⟩ ⟨Nat.zero_le _, Nat.zero_le _⟩ (by omega) (tfM_write (by omega) e22 hK0  (inR_of (by decide))) (fun y23 g25 e26 => ?_)
      refine go_aload k212_52 rfl ?_
      refine go_aload k212_53 rfl ?_
      refine go_getR (bI := 0) k212_54 e26 hK0 (by decide) rfl rfl (fun r27 => ?_)
      refine go_int k212_57 300 rfl ?_
      refine go_iload k212_60 rfl ?_
      refine go_iadd k212_61 ?_
      refine go_ck (fun q29 => ?_)
      refine go_iald k212_62 e26 q29 (fun r28 => ?_)
      refine go_callN0 k212_63 rfl rfl rfl ⟨by decide, _, rfl, hK0⟩ ⟨Nat.zero_le _, Nat.zero_le _⟩ (by omega) (tfM_writeNumber (by omega) e26 hK0  r28) (fun y30 g32 e33 => ?_)
      refine go_iinc k212_66 rfl rfl 1 rfl (loc2 := [some (sR v0), some (sI v1), some (sI (w32 (v2 + 1))), some (sI (g (g v0 0) (w32 (19 + v2))))]) rfl ?_
      refine go_goto k212_69 ?_
      exact HX2 (w32 (v2 + 1)) (inR_w32 _) g32 e33 (some (sI (g (g v0 0) (w32 (19 + v2))))) rfl
  · exact go_vret k212_72 hg ⟨Nat.zero_le _, Nat.zero_le _⟩ rfl
theorem tlM_writeZombies_2 {Φ : ev_P} {d : Nat} (hd : 2 ≤ d) {v0 v1 : Int} (hK0 : kd v0 = 7) (h1 : InR v1) : ∀ n : Nat, ∀ (v2 : Int) (h2 : InR v2) (g : gH) (hg : HR g) (u3 : Option ev_V) (w3 : nwo u3), Go Φ pr_P fN 0 (lM_writeZombies_2 v0 v1 n v2 g) d pr_m212 2 [some (sR v0), some (sI v1), some (sI v2), u3] [] g 0 0 := by
  intro n
  induction n with
  | zero => intros; exact go_none
  | succ n ih => exact tbM_writeZombies_2 hd hK0 h1 ih
theorem tfM_writeZombies {Φ : ev_P} {d : Nat} (hd : 2 ≤ d) {g : gH} (hg : HR g) {v0 v1 : Int} (hK0 : kd v0 = 7) (h1 : InR v1) : Go Φ pr_P fN 0 (fM_writeZombies g v0 v1) d (pr_P 212) 0 (ev_loc (pr_P 212).1 [(sR v0), (sI v1)]) [] g 0 0 := by
  show Go Φ pr_P fN 0 (fM_writeZombies g v0 v1) d pr_m212 0 [some (sR v0), some (sI v1), none, none] [] g 0 0
  unfold fM_writeZombies
  refine go_int k212_0 0 rfl ?_
  refine go_istore k212_1 rfl (loc2 := [some (sR v0), some (sI v1), some (sI 0), none]) rfl ?_
  exact tlM_writeZombies_2 hd hK0 h1 fu 0 (inR_b (Or.inl rfl)) g hg none rfl
theorem tjM_print_126 {Φ : ev_P} {d : Nat} (hd : 64 ≤ d) {g : gH} (hg : HR g) {v0 : Int} (hK0 : kd v0 = 7) (u1 : Option ev_V) (w1 : nwo u1) (u2 : Option ev_V) (w2 : nwo u2) (u3 : Option ev_V) (w3 : nwo u3) : Go Φ pr_P fN 1 (jM_print_126 g v0 ) d pr_m213 126 [some (sR v0), u1, u2, u3] [] g 0 0 := by
  unfold jM_print_126
  refine go_aload k213_126 rfl ?_
  refine go_getI (bI := 23) k213_127 hg hK0 (by decide) rfl rfl (fun r69 => ?_)
  refine go_ifeq k213_130 r69 (fun c70 => ?_) (fun c71 => ?_)
  · refine go_aload k213_133 rfl ?_
    refine go_int k213_134 45 rfl ?_
    refine go_callN0 k213_136 rfl rfl rfl ⟨by decide, _, rfl, hK0⟩ ⟨Nat.zero_le _, Nat.zero_le _⟩ (by omega) (tfM_write (by omega) hg hK0  (inR_of (by decide))) (fun y72 g74 e75 => ?_)
    refine go_aload k213_139 rfl ?_
    refine go_getI (bI := 23) k213_140 e75 hK0 (by decide) rfl rfl (fun r76 => ?_)
    exact go_iret k213_143 e75 r76 ⟨Nat.zero_le _, Nat.zero_le _⟩ rfl
  · refine go_aload k213_139 rfl ?_
    refine go_getI (bI := 23) k213_140 hg hK0 (by decide) rfl rfl (fun r77 => ?_)
    exact go_iret k213_143 hg r77 ⟨Nat.zero_le _, Nat.zero_le _⟩ rfl
theorem tjM_print_116 {Φ : ev_P} {d : Nat} (hd : 64 ≤ d) {g : gH} (hg : HR g) {v0 v1 v2 : Int} (hK0 : kd v0 = 7) (h1 : InR v1) (h2 : InR v2) (u3 : Option ev_V) (w3 : nwo u3) : Go Φ pr_P fN 1 (jM_print_116 g v0 v1 v2 ) d pr_m213 116 [some (sR v0), some (sI v1), some (sI v2), u3] [] g 0 0 := by
  unfold jM_print_116
  refine go_iload k213_116 rfl ?_
  refine go_int k213_117 4 rfl ?_
  refine go_cmeq k213_118 h2 (inR_of (by decide)) (fun c63 => ?_) (fun c64 => ?_)
  · refine go_aload k213_121 rfl ?_
    refine go_iload k213_122 rfl ?_
    refine go_callN0 k213_123 rfl rfl rfl ⟨by decide, _, rfl, hK0⟩ ⟨Nat.zero_le _, Nat.zero_le _⟩ (by omega) (tfM_writeZombies (by omega) hg hK0  h1) (fun y65 g67 e68 => ?_)
    exact tjM_print_126 hd e68 hK0 (some (sI v1)) rfl (some (sI v2)) rfl u3 w3
  · exact tjM_print_126 hd hg hK0 (some (sI v1)) rfl (some (sI v2)) rfl u3 w3
theorem tbM_print_81 {Φ : ev_P} {d : Nat} (hd : 64 ≤ d) {v0 v1 v2 : Int} (hK0 : kd v0 = 7) (h1 : InR v1) (h2 : InR v2) {X81 : Int → gH → Option (Int × gH)} (HX81 : ∀ (v3 : Int) (h3 : InR v3) (g : gH) (hg : HR g), Go Φ pr_P fN 1 (X81 v3 g) d pr_m213 81 [some (sR v0), some (sI v1), some (sI v2), some (sI v3)] [] g 0 0) : ∀ (v3 : Int) (h3 : InR v3) (g : gH) (hg : HR g), Go Φ pr_P fN 1 (bM_print_81 v0 v1 v2 X81 v3 g) d pr_m213 81 [some (sR v0), some (sI v1), some (sI v2), some (sI v3)] [] g 0 0 := by
  intro v3 h3 g hg
  unfold bM_print_81
  refine go_iload k213_81 rfl ?_
  refine go_int k213_82 8 rfl ?_
  refine go_cmlt k213_84 h3 (inR_of (by decide)) (fun c50 => ?_) (fun c51 => ?_)
  · refine go_iload k213_87 rfl ?_
    refine go_int k213_88 3 rfl ?_
    refine go_cmeq k213_89 h2 (inR_of (by decide)) (fun c52 => ?_) (fun c53 => ?_)
    · refine go_aload k213_92 rfl ?_
      refine go_getR (bI := 0) k213_93 hg hK0 (by decide) rfl rfl (fun r54 => ?_)
      refine go_int k213_96 11 rfl ?_
      refine go_iload k213_98 rfl ?_
      refine go_iadd k213_99 ?_
      refine go_ck (fun q56 => ?_)
      refine go_iald k213_100 hg q56 (fun r55 => ?_)
      refine go_iload k213_101 rfl ?_
      refine go_cmeq k213_102 r55 h1 (fun c57 => ?_) (fun c58 => ?_)
      · refine go_aload k213_105 rfl ?_
        refine go_iload k213_106 rfl ?_
        refine go_callN0 k213_107 rfl rfl rfl ⟨by decide, _, rfl, hK0⟩ ⟨Nat.zero_le _, Nat.zero_le _⟩ (by omega) (tfM_writeNumber (by omega) hg hK0  h3) (fun y59 g61 e62 => ?_)
        refine go_iinc k213_110 rfl rfl 1 rfl (loc2 := [some (sR v0), some (sI v1), some (sI v2), some (sI (w32 (v3 + 1)))]) rfl ?_
        refine go_goto k213_113 ?_
        exact HX81 (w32 (v3 + 1)) (inR_w32 _) g61 e62
      · refine go_iinc k213_110 rfl rfl 1 rfl (loc2 := [some (sR v0), some (sI v1), some (sI v2), some (sI (w32 (v3 + 1)))]) rfl ?_
        refine go_goto k213_113 ?_
        exact HX81 (w32 (v3 + 1)) (inR_w32 _) g hg
    · exact tjM_print_116 hd hg hK0 h1 h2 (some (sI v3)) rfl
  · exact tjM_print_116 hd hg hK0 h1 h2 (some (sI v3)) rfl
theorem tlM_print_81 {Φ : ev_P} {d : Nat} (hd : 64 ≤ d) {v0 v1 v2 : Int} (hK0 : kd v0 = 7) (h1 : InR v1) (h2 : InR v2) : ∀ n : Nat, ∀ (v3 : Int) (h3 : InR v3) (g : gH) (hg : HR g), Go Φ pr_P fN 1 (lM_print_81 v0 v1 v2 n v3 g) d pr_m213 81 [some (sR v0), some (sI v1), some (sI v2), some (sI v3)] [] g 0 0 := by
  intro n
  induction n with
  | zero => intros; exact go_none
  | succ n ih => exact tbM_print_81 hd hK0 h1 h2 ih
theorem tjM_print_69 {Φ : ev_P} {d : Nat} (hd : 64 ≤ d) {g : gH} (hg : HR g) {v0 v1 v2 : Int} (hK0 : kd v0 = 7) (h1 : InR v1) (h2 : InR v2) (u3 : Option ev_V) (w3 : nwo u3) : Go Φ pr_P fN 1 (jM_print_69 g v0 v1 v2 ) d pr_m213 69 [some (sR v0), some (sI v1), some (sI v2), u3] [] g 0 0 := by
  unfold jM_print_69
  refine go_iload k213_69 rfl ?_
  refine go_int k213_70 2 rfl ?_
  refine go_cmeq k213_71 h2 (inR_of (by decide)) (fun c44 => ?_) (fun c45 => ?_)
  · refine go_aload k213_74 rfl ?_
    refine go_iload k213_75 rfl ?_
    refine go_callN0 k213_76 rfl rfl rfl ⟨by decide, _, rfl, hK0⟩ ⟨Nat.zero_le _, Nat.zero_le _⟩ (by omega) (tfM_writeTree (by omega) hg hK0  h1) (fun y46 g48 e49 => ?_)
    refine go_int k213_79 0 rfl ?_
    refine go_istore k213_80 rfl (loc2 := [some (sR v0), some (sI v1), some (sI v2), some (sI 0)]) rfl ?_
    exact tlM_print_81 hd hK0 h1 h2 fu 0 (inR_b (Or.inl rfl)) g48 e49
  · refine go_int k213_79 0 rfl ?_
    refine go_istore k213_80 rfl (loc2 := [some (sR v0), some (sI v1), some (sI v2), some (sI 0)]) rfl ?_
    exact tlM_print_81 hd hK0 h1 h2 fu 0 (inR_b (Or.inl rfl)) g hg
theorem tjM_print_59 {Φ : ev_P} {d : Nat} (hd : 64 ≤ d) {g : gH} (hg : HR g) {v0 v1 v2 : Int} (hK0 : kd v0 = 7) (h1 : InR v1) (h2 : InR v2) (u3 : Option ev_V) (w3 : nwo u3) : Go Φ pr_P fN 1 (jM_print_59 g v0 v1 v2 ) d pr_m213 59 [some (sR v0), some (sI v1), some (sI v2), u3] [] g 0 0 := by
  unfold jM_print_59
  refine go_iload k213_59 rfl ?_
  refine go_int k213_60 1 rfl ?_
  refine go_cmeq k213_61 h2 (inR_b (Or.inr rfl)) (fun c38 => ?_) (fun c39 => ?_)
  · refine go_aload k213_64 rfl ?_
    refine go_iload k213_65 rfl ?_
    refine go_callN0 k213_66 rfl rfl rfl ⟨by decide, _, rfl, hK0⟩ ⟨Nat.zero_le _, Nat.zero_le _⟩ (by omega) (tfM_writeChildren (by omega) hg hK0  h1) (fun y40 g42 e43 => ?_)
    exact tjM_print_69 hd e43 hK0 h1 h2 u3 w3
  · exact tjM_print_69 hd hg hK0 h1 h2 u3 w3
theorem tjM_print_23 {Φ : ev_P} {d : Nat} (hd : 64 ≤ d) {g : gH} (hg : HR g) {v0 v1 v2 : Int} (hK0 : kd v0 = 7) (h1 : InR v1) (h2 : InR v2) {s0 s1 : Int} (z0 : RfR s0) (z1 : B01 s1) (u3 : Option ev_V) (w3 : nwo u3) : Go Φ pr_P fN 1 (jM_print_23 g v0 v1 v2 s0 s1 ) d pr_m213 23 [some (sR v0), some (sI v1), some (sI v2), u3] [(sI s1), (sR s0)] g 0 0 := by
  unfold jM_print_23
  refine go_int k213_23 2 rfl ?_
  refine go_ck (fun q13 => ?_)
  refine go_callN3 k213_24 rfl rfl rfl ⟨by decide, _, rfl, q13⟩ ⟨Nat.zero_le _, Nat.zero_le _⟩ (by omega) (tfM_fails (by omega) hg q13  z1 (inR_of (by decide))) (fun y14 g16 r15 e17 => ?_)
  refine go_ifeq k213_27 (inR_b r15) (fun c18 => ?_) (fun c19 => ?_)
  · refine go_aload k213_30 rfl ?_
    refine go_aload k213_31 rfl ?_
    refine go_iload k213_32 rfl ?_
    refine go_callP3 k213_33 rfl rfl rfl ⟨by decide, _, rfl, hK0⟩ ⟨Nat.zero_le _, Nat.zero_le _⟩ (by omega) (tfM_isGone (by omega) e17 hK0  h1) (fun y20 r21 => ?_)
    refine go_int k213_36 3 rfl ?_
    refine go_callN3 k213_37 rfl rfl rfl ⟨by decide, _, rfl, hK0⟩ ⟨Nat.zero_le _, Nat.zero_le _⟩ (by omega) (tfM_fails (by omega) e17 hK0  r21 (inR_of (by decide))) (fun y24 g26 r25 e27 => ?_)
    refine go_ifeq k213_40 (inR_b r25) (fun c28 => ?_) (fun c29 => ?_)
    · refine go_aload k213_45 rfl ?_
      refine go_int k213_46 0 rfl ?_
      refine go_putI (bI := 23) k213_47 e27 hK0 (by decide) rfl rfl (inR_b (Or.inl rfl)) (fun g30 e31 => ?_)
      refine go_iload k213_50 rfl ?_
      refine go_ifeq k213_51 h2 (fun c32 => ?_) (fun c33 => ?_)
      · refine go_aload k213_54 rfl ?_
        refine go_iload k213_55 rfl ?_
        refine go_callN0 k213_56 rfl rfl rfl ⟨by decide, _, rfl, hK0⟩ ⟨Nat.zero_le _, Nat.zero_le _⟩ (by omega) (tfM_writePath (by omega) e31 hK0  h1) (fun y34 g36 e37 => ?_)
        exact tjM_print_59 hd e37 hK0 h1 h2 u3 w3
      · exact tjM_print_59 hd e31 hK0 h1 h2 u3 w3
    · refine go_int k213_43 0 rfl ?_
      exact go_iret k213_44 e27 (inR_b (Or.inl rfl)) ⟨Nat.zero_le _, Nat.zero_le _⟩ rfl
  · refine go_int k213_43 0 rfl ?_
    exact go_iret k213_44 e17 (inR_b (Or.inl rfl)) ⟨Nat.zero_le _, Nat.zero_le _⟩ rfl
theorem tfM_print {Φ : ev_P} {d : Nat} (hd : 64 ≤ d) {g : gH} (hg : HR g) {v0 v1 v2 : Int} (hK0 : kd v0 = 7) (h1 : InR v1) (h2 : InR v2) : Go Φ pr_P fN 1 (fM_print g v0 v1 v2) d (pr_P 213) 0 (ev_loc (pr_P 213).1 [(sR v0), (sI v1), (sI v2)]) [] g 0 0 := by
  show Go Φ pr_P fN 1 (fM_print g v0 v1 v2) d pr_m213 0 [some (sR v0), some (sI v1), some (sI v2), none] [] g 0 0
  unfold fM_print
  refine go_aload k213_0 rfl ?_
  refine go_iload k213_1 rfl ?_
  refine go_callN3 k213_2 rfl rfl rfl ⟨by decide, _, rfl, hK0⟩ ⟨Nat.zero_le _, Nat.zero_le _⟩ (by omega) (tfM_noProcess (by omega) hg hK0  h1) (fun y1 g3 r2 e4 => ?_)
  refine go_ifeq k213_5 (inR_b r2) (fun c5 => ?_) (fun c6 => ?_)
  · refine go_aload k213_8 rfl ?_
    refine go_iload k213_9 rfl ?_
    refine go_int k213_10 0 rfl ?_
    refine go_int k213_11 4 rfl ?_
    refine go_callP3 k213_12 rfl rfl rfl trivial ⟨Nat.zero_le _, Nat.zero_le _⟩ (by omega) (tfM_inRange (by omega) e4  h2 (inR_b (Or.inl rfl)) (inR_of (by decide))) (fun y7 r8 => ?_)
    refine go_ifeq k213_15 (inR_b r8) (fun c11 => ?_) (fun c12 => ?_)
    · refine go_int k213_18 1 rfl ?_
      refine go_goto k213_19 ?_
      exact tjM_print_23 hd e4 hK0 h1 h2 (rfR_kd hK0 (by decide)) (Or.inr rfl) none rfl
    · refine go_int k213_22 0 rfl ?_
      exact tjM_print_23 hd e4 hK0 h1 h2 (rfR_kd hK0 (by decide)) (Or.inl rfl) none rfl
  · refine go_int k213_43 0 rfl ?_
    exact go_iret k213_44 e4 (inR_b (Or.inl rfl)) ⟨Nat.zero_le _, Nat.zero_le _⟩ rfl
theorem tfM_outputByte {Φ : ev_P} {d : Nat} (hd : 1 ≤ d) {g : gH} (hg : HR g) {v0 v1 : Int} (hK0 : kd v0 = 7) (h1 : InR v1) : Go Φ pr_P fN 1 (fM_outputByte g v0 v1) d (pr_P 214) 0 (ev_loc (pr_P 214).1 [(sR v0), (sI v1)]) [] g 0 0 := by
  show Go Φ pr_P fN 1 (fM_outputByte g v0 v1) d pr_m214 0 [some (sR v0), some (sI v1)] [] g 0 0
  unfold fM_outputByte
  refine go_aload k214_0 rfl ?_
  refine go_int k214_1 0 rfl ?_
  refine go_putI (bI := 8) k214_2 hg hK0 (by decide) rfl rfl (inR_b (Or.inl rfl)) (fun g1 e2 => ?_)
  refine go_iload k214_5 rfl ?_
  refine go_int k214_6 0 rfl ?_
  refine go_aload k214_7 rfl ?_
  refine go_getI (bI := 23) k214_8 e2 hK0 (by decide) rfl rfl (fun r3 => ?_)
  refine go_int k214_11 1 rfl ?_
  refine go_isub k214_12 ?_
  refine go_callP3 k214_13 rfl rfl rfl trivial ⟨Nat.zero_le _, Nat.zero_le _⟩ (by omega) (tfM_inRange (by omega) e2  h1 (inR_b (Or.inl rfl)) (inR_w32 _)) (fun y4 r5 => ?_)
  refine go_ifeq k214_16 (inR_b r5) (fun c8 => ?_) (fun c9 => ?_)
  · refine go_int k214_28 (-1) rfl ?_
    exact go_iret k214_29 e2 (inR_of (by decide)) ⟨Nat.zero_le _, Nat.zero_le _⟩ rfl
  · refine go_aload k214_19 rfl ?_
    refine go_getR (bI := 22) k214_20 e2 hK0 (by decide) rfl rfl (fun r10 => ?_)
    refine go_iload k214_23 rfl ?_
    refine go_ck (fun q12 => ?_)
    refine go_iald k214_24 e2 q12 (fun r11 => ?_)
    refine go_goto k214_25 ?_
    exact go_iret k214_29 e2 r11 ⟨Nat.zero_le _, Nat.zero_le _⟩ rfl
theorem tfM_undo {Φ : ev_P} {d : Nat} (hd : 1 ≤ d) {g : gH} (hg : HR g) {v0 : Int} (hK0 : kd v0 = 7) : Go Φ pr_P fN 1 (fM_undo g v0) d (pr_P 215) 0 (ev_loc (pr_P 215).1 [(sR v0)]) [] g 0 0 := by
  show Go Φ pr_P fN 1 (fM_undo g v0) d pr_m215 0 [some (sR v0)] [] g 0 0
  unfold fM_undo
  refine go_aload k215_0 rfl ?_
  refine go_int k215_1 0 rfl ?_
  refine go_putI (bI := 8) k215_2 hg hK0 (by decide) rfl rfl (inR_b (Or.inl rfl)) (fun g1 e2 => ?_)
  refine go_aload k215_5 rfl ?_
  refine go_getI (bI := 6) k215_6 e2 hK0 (by decide) rfl rfl (fun r3 => ?_)
  refine go_ifeq k215_9 r3 (fun c4 => ?_) (fun c5 => ?_)
  · refine go_int k215_12 (-1) rfl ?_
    exact go_iret k215_13 e2 (inR_of (by decide)) ⟨Nat.zero_le _, Nat.zero_le _⟩ rfl
  · refine go_aload k215_14 rfl ?_
    refine go_dupR k215_15 ?_
    refine go_getI (bI := 6) k215_16 e2 hK0 (by decide) rfl rfl (fun r6 => ?_)
    refine go_int k215_19 1 rfl ?_
    refine go_isub k215_20 ?_
    refine go_putI (bI := 6) k215_21 e2 hK0 (by decide) rfl rfl (inR_w32 _) (fun g7 e8 => ?_)
    refine go_aload k215_24 rfl ?_
    refine go_getR (bI := 4) k215_25 e8 hK0 (by decide) rfl rfl (fun r9 => ?_)
    refine go_int k215_28 780 rfl ?_
    refine go_aload k215_31 rfl ?_
    refine go_getI (bI := 6) k215_32 e8 hK0 (by decide) rfl rfl (fun r10 => ?_)
    refine go_ibin k215_35 ?_
    refine go_aload k215_36 rfl ?_
    refine go_getR (bI := 0) k215_37 e8 hK0 (by decide) rfl rfl (fun r11 => ?_)
    refine go_int k215_40 0 rfl ?_
    refine go_int k215_41 780 rfl ?_
    refine go_callN0 k215_44 rfl rfl rfl trivial ⟨Nat.zero_le _, Nat.zero_le _⟩ (by omega) (tfM_copies (by omega) e8  r9 (inR_opI _ _ _) r11 (inR_b (Or.inl rfl)) (inR_of (by decide))) (fun y12 g14 e15 => ?_)
    refine go_aload k215_47 rfl ?_
    refine go_getI (bI := 6) k215_48 e15 hK0 (by decide) rfl rfl (fun r16 => ?_)
    exact go_iret k215_51 e15 r16 ⟨Nat.zero_le _, Nat.zero_le _⟩ rfl
theorem tfM_saveState {Φ : ev_P} {d : Nat} (hd : 2 ≤ d) {g : gH} (hg : HR g) {v0 : Int} (hK0 : kd v0 = 7) : Go Φ pr_P fN 1 (fM_saveState g v0) d (pr_P 216) 0 (ev_loc (pr_P 216).1 [(sR v0)]) [] g 0 0 := by
  show Go Φ pr_P fN 1 (fM_saveState g v0) d pr_m216 0 [some (sR v0)] [] g 0 0
  unfold fM_saveState
  refine go_aload k216_0 rfl ?_
  refine go_int k216_1 0 rfl ?_
  refine go_putI (bI := 8) k216_2 hg hK0 (by decide) rfl rfl (inR_b (Or.inl rfl)) (fun g1 e2 => ?_)
  refine go_aload k216_5 rfl ?_
  refine go_getR (bI := 0) k216_6 e2 hK0 (by decide) rfl rfl (fun r3 => ?_)
  refine go_int k216_9 0 rfl ?_
  refine go_aload k216_10 rfl ?_
  refine go_getR (bI := 3) k216_11 e2 hK0 (by decide) rfl rfl (fun r4 => ?_)
  refine go_int k216_14 0 rfl ?_
  refine go_int k216_15 780 rfl ?_
  refine go_callN0 k216_18 rfl rfl rfl trivial ⟨Nat.zero_le _, Nat.zero_le _⟩ (by omega) (tfM_copies (by omega) e2  r3 (inR_b (Or.inl rfl)) r4 (inR_b (Or.inl rfl)) (inR_of (by decide))) (fun y5 g7 e8 => ?_)
  refine go_aload k216_21 rfl ?_
  refine go_int k216_22 1 rfl ?_
  refine go_putB (bI := 7) k216_23 e8 hK0 (by decide) rfl rfl (Or.inr rfl) (fun g9 e10 => ?_)
  refine go_aload k216_26 rfl ?_
  refine go_callP1 k216_27 rfl rfl rfl ⟨by decide, _, rfl, hK0⟩ ⟨Nat.zero_le _, Nat.zero_le _⟩ (by omega) (tfM_runningMany (by omega) e10 hK0 ) (fun y11 r12 => ?_)
  exact go_iret k216_30 e10 r12 ⟨Nat.zero_le _, Nat.zero_le _⟩ rfl
theorem tjM_restoreState_18 {Φ : ev_P} {d : Nat} (hd : 2 ≤ d) {g : gH} (hg : HR g) {v0 : Int} (hK0 : kd v0 = 7) {s0 s1 : Int} (z0 : RfR s0) (z1 : B01 s1) : Go Φ pr_P fN 1 (jM_restoreState_18 g v0 s0 s1 ) d pr_m217 18 [some (sR v0)] [(sI s1), (sR s0)] g 0 0 := by
  unfold jM_restoreState_18
  refine go_int k217_18 1 rfl ?_
  refine go_ck (fun q6 => ?_)
  refine go_callN3 k217_19 rfl rfl rfl ⟨by decide, _, rfl, q6⟩ ⟨Nat.zero_le _, Nat.zero_le _⟩ (by omega) (tfM_fails (by omega) hg q6  z1 (inR_b (Or.inr rfl))) (fun y7 g9 r8 e10 => ?_)
  refine go_ifeq k217_22 (inR_b r8) (fun c11 => ?_) (fun c12 => ?_)
  · refine go_aload k217_27 rfl ?_
    refine go_getR (bI := 3) k217_28 e10 hK0 (by decide) rfl rfl (fun r13 => ?_)
    refine go_int k217_31 0 rfl ?_
    refine go_aload k217_32 rfl ?_
    refine go_getR (bI := 0) k217_33 e10 hK0 (by decide) rfl rfl (fun r14 => ?_)
    refine go_int k217_36 0 rfl ?_
    refine go_int k217_37 780 rfl ?_
    refine go_callN0 k217_40 rfl rfl rfl trivial ⟨Nat.zero_le _, Nat.zero_le _⟩ (by omega) (tfM_copies (by omega) e10  r13 (inR_b (Or.inl rfl)) r14 (inR_b (Or.inl rfl)) (inR_of (by decide))) (fun y15 g17 e18 => ?_)
    refine go_aload k217_43 rfl ?_
    refine go_int k217_44 0 rfl ?_
    refine go_putI (bI := 6) k217_45 e18 hK0 (by decide) rfl rfl (inR_b (Or.inl rfl)) (fun g19 e20 => ?_)
    refine go_aload k217_48 rfl ?_
    refine go_callP1 k217_49 rfl rfl rfl ⟨by decide, _, rfl, hK0⟩ ⟨Nat.zero_le _, Nat.zero_le _⟩ (by omega) (tfM_runningMany (by omega) e20 hK0 ) (fun y21 r22 => ?_)
    exact go_iret k217_52 e20 r22 ⟨Nat.zero_le _, Nat.zero_le _⟩ rfl
  · refine go_int k217_25 0 rfl ?_
    exact go_iret k217_26 e10 (inR_b (Or.inl rfl)) ⟨Nat.zero_le _, Nat.zero_le _⟩ rfl
theorem tfM_restoreState {Φ : ev_P} {d : Nat} (hd : 2 ≤ d) {g : gH} (hg : HR g) {v0 : Int} (hK0 : kd v0 = 7) : Go Φ pr_P fN 1 (fM_restoreState g v0) d (pr_P 217) 0 (ev_loc (pr_P 217).1 [(sR v0)]) [] g 0 0 := by
  show Go Φ pr_P fN 1 (fM_restoreState g v0) d pr_m217 0 [some (sR v0)] [] g 0 0
  unfold fM_restoreState
  refine go_aload k217_0 rfl ?_
  refine go_int k217_1 0 rfl ?_
  refine go_putI (bI := 8) k217_2 hg hK0 (by decide) rfl rfl (inR_b (Or.inl rfl)) (fun g1 e2 => ?_)
  refine go_aload k217_5 rfl ?_
  refine go_aload k217_6 rfl ?_
  refine go_getB (bI := 7) k217_7 e2 hK0 (by decide) rfl rfl (fun r3 => ?_)
  refine go_ifeq k217_10 (inR_b r3) (fun c4 => ?_) (fun c5 => ?_)
  · refine go_int k217_13 1 rfl ?_
    refine go_goto k217_14 ?_
    exact tjM_restoreState_18 hd e2 hK0 (rfR_kd hK0 (by decide)) (Or.inr rfl)
  · refine go_int k217_17 0 rfl ?_
    exact tjM_restoreState_18 hd e2 hK0 (rfR_kd hK0 (by decide)) (Or.inl rfl)
theorem tbT_dutiesOf_4 {Φ : ev_P} {d : Nat} (hd : 0 ≤ d) {g : gH} (hg : HR g) {v0 v1 : Int} (hK0 : kd v0 = 5) (h1 : RfR v1) {X4 : Int → Int → Option Int} (HX4 : ∀ (v2 : Int) (h2 : InR v2) (v3 : Int) (h3 : InR v3), Go Φ pr_P (fP g) 1 (X4 v2 v3) d pr_m285 4 [some (sR v0), some (sR v1), some (sI v2), some (sI v3)] [] g 0 0) : ∀ (v2 : Int) (h2 : InR v2) (v3 : Int) (h3 : InR v3), Go Φ pr_P (fP g) 1 (bT_dutiesOf_4 g v0 v1 X4 v2 v3) d pr_m285 4 [some (sR v0), some (sR v1), some (sI v2), some (sI v3)] [] g 0 0 := by
  intro v2 h2 v3 h3
  unfold bT_dutiesOf_4
  refine go_iload k285_4 rfl ?_
  refine go_int k285_5 8 rfl ?_
  refine go_cmlt k285_7 h3 (inR_of (by decide)) (fun c1 => ?_) (fun c2 => ?_)
  · refine go_aload k285_10 rfl ?_
    refine go_getR (bI := 2) k285_11 hg hK0 (by decide) rfl rfl (fun r3 => ?_)
    refine go_iload k285_14 rfl ?_
    refine go_ck (fun q5 => ?_)
    refine go_iald k285_15 hg q5 (fun r4 => ?_)
    refine go_aload k285_16 rfl ?_
    refine go_ck (fun q6 => ?_)
    refine go_getI (bI := 0) k285_17 hg q6 (by decide) rfl rfl (fun r7 => ?_)
    refine go_cmeq k285_20 r4 r7 (fun c8 => ?_) (fun c9 => ?_)
    · refine go_iload k285_23 rfl ?_
      refine go_int k285_24 1 rfl ?_
      refine go_iload k285_25 rfl ?_
      refine go_ibin k285_26 ?_
      refine go_ibin k285_27 ?_
      refine go_istore k285_28 rfl (loc2 := [some (sR v0), some (sR v1), some (sI (opI 2 v2 (opI 4 1 v3))), some (sI v3)]) rfl ?_
      refine go_iinc k285_29 rfl rfl 1 rfl (loc2 := [some (sR v0), some (sR v1), some (sI (opI 2 v2 (opI 4 1 v3))), some (sI (w32 (v3 + 1)))]) rfl ?_
      refine go_goto k285_32 ?_
      exact HX4 (opI 2 v2 (opI 4 1 v3)) (inR_opI _ _ _) (w32 (v3 + 1)) (inR_w32 _)
    · refine go_iinc k285_29 rfl rfl 1 rfl (loc2 := [some (sR v0), some (sR v1), some (sI v2), some (sI (w32 (v3 + 1)))]) rfl ?_
      refine go_goto k285_32 ?_
      exact HX4 v2 h2 (w32 (v3 + 1)) (inR_w32 _)
  · refine go_iload k285_35 rfl ?_
    exact go_iret k285_36 hg h2 ⟨Nat.zero_le _, Nat.zero_le _⟩ rfl
theorem tlT_dutiesOf_4 {Φ : ev_P} {d : Nat} (hd : 0 ≤ d) {g : gH} (hg : HR g) {v0 v1 : Int} (hK0 : kd v0 = 5) (h1 : RfR v1) : ∀ n : Nat, ∀ (v2 : Int) (h2 : InR v2) (v3 : Int) (h3 : InR v3), Go Φ pr_P (fP g) 1 (lT_dutiesOf_4 g v0 v1 n v2 v3) d pr_m285 4 [some (sR v0), some (sR v1), some (sI v2), some (sI v3)] [] g 0 0 := by
  intro n
  induction n with
  | zero => intros; exact go_none
  | succ n ih => exact tbT_dutiesOf_4 hd hg hK0 h1 ih
theorem tfT_dutiesOf {Φ : ev_P} {d : Nat} (hd : 0 ≤ d) {g : gH} (hg : HR g) {v0 v1 : Int} (hK0 : kd v0 = 5) (h1 : RfR v1) : Go Φ pr_P (fP g) 1 (fT_dutiesOf g v0 v1) d (pr_P 285) 0 (ev_loc (pr_P 285).1 [(sR v0), (sR v1)]) [] g 0 0 := by
  show Go Φ pr_P (fP g) 1 (fT_dutiesOf g v0 v1) d pr_m285 0 [some (sR v0), some (sR v1), none, none] [] g 0 0
  unfold fT_dutiesOf
  refine go_int k285_0 0 rfl ?_
  refine go_istore k285_1 rfl (loc2 := [some (sR v0), some (sR v1), some (sI 0), none]) rfl ?_
  refine go_int k285_2 0 rfl ?_
  refine go_istore k285_3 rfl (loc2 := [some (sR v0), some (sR v1), some (sI 0), some (sI 0)]) rfl ?_
  exact tlT_dutiesOf_4 hd hg hK0 h1 fu 0 (inR_b (Or.inl rfl)) 0 (inR_b (Or.inl rfl))
theorem tfC_count {Φ : ev_P} {d : Nat} (hd : 1 ≤ d) {g : gH} (hg : HR g) {v0 v1 : Int} (hK0 : kd v0 = 6) (h1 : InR v1) : Go Φ pr_P (fQ g) 1 (fC_count g v0 v1) d (pr_P 6) 0 (ev_loc (pr_P 6).1 [(sR v0), (sI v1)]) [] g 0 0 := by
  show Go Φ pr_P (fQ g) 1 (fC_count g v0 v1) d pr_m6 0 [some (sR v0), some (sI v1)] [] g 0 0
  unfold fC_count
  refine go_iload k6_0 rfl ?_
  refine go_ite (fun c1 => ?_) (fun c2 => ?_)
  · refine go_swh (lo := 0) (hi := 10) (i := 0) k6_1 rfl rfl (by omega) (by omega) rfl ?_
    refine go_aload k6_60 rfl ?_
    refine go_getR (bI := 0) k6_61 hg hK0 (by decide) rfl rfl (fun r3 => ?_)
    refine go_ck (fun q4 => ?_)
    refine go_getI (bI := 5) k6_64 hg q4 (by decide) rfl rfl (fun r5 => ?_)
    exact go_iret k6_67 hg r5 ⟨Nat.zero_le _, Nat.zero_le _⟩ rfl
  refine go_ite (fun c6 => ?_) (fun c7 => ?_)
  · refine go_swh (lo := 0) (hi := 10) (i := 1) k6_1 rfl rfl (by omega) (by omega) rfl ?_
    refine go_aload k6_68 rfl ?_
    refine go_getR (bI := 0) k6_69 hg hK0 (by decide) rfl rfl (fun r8 => ?_)
    refine go_int k6_72 0 rfl ?_
    refine go_ck (fun q9 => ?_)
    refine go_callP1 k6_73 rfl rfl rfl ⟨by decide, _, rfl, q9⟩ ⟨Nat.zero_le _, Nat.zero_le _⟩ (by omega) (tfT_countInState (by omega) hg q9  (inR_b (Or.inl rfl))) (fun y10 r11 => ?_)
    exact go_iret k6_76 hg r11 ⟨Nat.zero_le _, Nat.zero_le _⟩ rfl
  refine go_ite (fun c14 => ?_) (fun c15 => ?_)
  · refine go_swh (lo := 0) (hi := 10) (i := 2) k6_1 rfl rfl (by omega) (by omega) rfl ?_
    refine go_aload k6_77 rfl ?_
    refine go_getR (bI := 0) k6_78 hg hK0 (by decide) rfl rfl (fun r16 => ?_)
    refine go_int k6_81 1 rfl ?_
    refine go_ck (fun q17 => ?_)
    refine go_callP1 k6_82 rfl rfl rfl ⟨by decide, _, rfl, q17⟩ ⟨Nat.zero_le _, Nat.zero_le _⟩ (by omega) (tfT_countInState (by omega) hg q17  (inR_b (Or.inr rfl))) (fun y18 r19 => ?_)
    exact go_iret k6_85 hg r19 ⟨Nat.zero_le _, Nat.zero_le _⟩ rfl
  refine go_ite (fun c22 => ?_) (fun c23 => ?_)
  · refine go_swh (lo := 0) (hi := 10) (i := 3) k6_1 rfl rfl (by omega) (by omega) rfl ?_
    refine go_aload k6_86 rfl ?_
    refine go_getR (bI := 0) k6_87 hg hK0 (by decide) rfl rfl (fun r24 => ?_)
    refine go_int k6_90 2 rfl ?_
    refine go_ck (fun q25 => ?_)
    refine go_callP1 k6_91 rfl rfl rfl ⟨by decide, _, rfl, q25⟩ ⟨Nat.zero_le _, Nat.zero_le _⟩ (by omega) (tfT_countInState (by omega) hg q25  (inR_of (by decide))) (fun y26 r27 => ?_)
    exact go_iret k6_94 hg r27 ⟨Nat.zero_le _, Nat.zero_le _⟩ rfl
  refine go_ite (fun c30 => ?_) (fun c31 => ?_)
  · refine go_swh (lo := 0) (hi := 10) (i := 4) k6_1 rfl rfl (by omega) (by omega) rfl ?_
    refine go_aload k6_95 rfl ?_
    refine go_getR (bI := 0) k6_96 hg hK0 (by decide) rfl rfl (fun r32 => ?_)
    refine go_ck (fun q33 => ?_)
    refine go_getI (bI := 6) k6_99 hg q33 (by decide) rfl rfl (fun r34 => ?_)
    exact go_iret k6_102 hg r34 ⟨Nat.zero_le _, Nat.zero_le _⟩ rfl
  refine go_ite (fun c35 => ?_) (fun c36 => ?_)
  · refine go_swh (lo := 0) (hi := 10) (i := 5) k6_1 rfl rfl (by omega) (by omega) rfl ?_
    refine go_aload k6_103 rfl ?_
    refine go_getR (bI := 0) k6_104 hg hK0 (by decide) rfl rfl (fun r37 => ?_)
    refine go_ck (fun q38 => ?_)
    refine go_getI (bI := 7) k6_107 hg q38 (by decide) rfl rfl (fun r39 => ?_)
    exact go_iret k6_110 hg r39 ⟨Nat.zero_le _, Nat.zero_le _⟩ rfl
  refine go_ite (fun c40 => ?_) (fun c41 => ?_)
  · refine go_swh (lo := 0) (hi := 10) (i := 6) k6_1 rfl rfl (by omega) (by omega) rfl ?_
    refine go_aload k6_111 rfl ?_
    refine go_getR (bI := 0) k6_112 hg hK0 (by decide) rfl rfl (fun r42 => ?_)
    refine go_ck (fun q43 => ?_)
    refine go_getI (bI := 8) k6_115 hg q43 (by decide) rfl rfl (fun r44 => ?_)
    exact go_iret k6_118 hg r44 ⟨Nat.zero_le _, Nat.zero_le _⟩ rfl
  refine go_ite (fun c45 => ?_) (fun c46 => ?_)
  · refine go_swh (lo := 0) (hi := 10) (i := 7) k6_1 rfl rfl (by omega) (by omega) rfl ?_
    refine go_aload k6_119 rfl ?_
    refine go_getR (bI := 0) k6_120 hg hK0 (by decide) rfl rfl (fun r47 => ?_)
    refine go_ck (fun q48 => ?_)
    refine go_getI (bI := 9) k6_123 hg q48 (by decide) rfl rfl (fun r49 => ?_)
    exact go_iret k6_126 hg r49 ⟨Nat.zero_le _, Nat.zero_le _⟩ rfl
  refine go_ite (fun c50 => ?_) (fun c51 => ?_)
  · refine go_swh (lo := 0) (hi := 10) (i := 8) k6_1 rfl rfl (by omega) (by omega) rfl ?_
    refine go_aload k6_127 rfl ?_
    refine go_getR (bI := 0) k6_128 hg hK0 (by decide) rfl rfl (fun r52 => ?_)
    refine go_aload k6_131 rfl ?_
    refine go_getR (bI := 0) k6_132 hg hK0 (by decide) rfl rfl (fun r53 => ?_)
    refine go_ck (fun q54 => ?_)
    refine go_getR (bI := 0) k6_135 hg q54 (by decide) rfl rfl (fun r55 => ?_)
    refine go_callP1 k6_138 rfl rfl rfl ⟨by decide, _, rfl, q54⟩ ⟨Nat.zero_le _, Nat.zero_le _⟩ (by omega) (tfT_dutiesOf (by omega) hg q54  r55) (fun y56 r57 => ?_)
    refine go_callP1 k6_141 rfl rfl rfl trivial ⟨Nat.zero_le _, Nat.zero_le _⟩ (by omega) (tfJ_bitCount (by omega) hg  r57) (fun y60 r61 => ?_)
    exact go_iret k6_144 hg r61 ⟨Nat.zero_le _, Nat.zero_le _⟩ rfl
  refine go_ite (fun c64 => ?_) (fun c65 => ?_)
  · refine go_swh (lo := 0) (hi := 10) (i := 9) k6_1 rfl rfl (by omega) (by omega) rfl ?_
    refine go_aload k6_145 rfl ?_
    refine go_getR (bI := 3) k6_146 hg hK0 (by decide) rfl rfl (fun r66 => ?_)
    refine go_ck (fun q67 => ?_)
    refine go_getI (bI := 1) k6_149 hg q67 (by decide) rfl rfl (fun r68 => ?_)
    exact go_iret k6_152 hg r68 ⟨Nat.zero_le _, Nat.zero_le _⟩ rfl
  refine go_ite (fun c69 => ?_) (fun c70 => ?_)
  · refine go_swh (lo := 0) (hi := 10) (i := 10) k6_1 rfl rfl (by omega) (by omega) rfl ?_
    refine go_aload k6_153 rfl ?_
    refine go_getR (bI := 0) k6_154 hg hK0 (by decide) rfl rfl (fun r71 => ?_)
    refine go_ck (fun q72 => ?_)
    refine go_getI (bI := 4) k6_157 hg q72 (by decide) rfl rfl (fun r73 => ?_)
    exact go_iret k6_160 hg r73 ⟨Nat.zero_le _, Nat.zero_le _⟩ rfl
  refine go_swd (lo := 0) (hi := 10) k6_1 rfl rfl h1 (by omega) (by omega) ?_
  exact go_throw k6_161 hg ⟨by decide, by decide⟩ rfl rfl
theorem tfW_count {Φ : ev_P} {d : Nat} (hd : 2 ≤ d) {g : gH} (hg : HR g) {v0 v1 v2 : Int} (h0 : RfR v0) (h1 : InR v1) (h2 : RfR v2) : Go Φ pr_P fN 1 (fW_count g v0 v1 v2) d (pr_P 305) 0 (ev_loc (pr_P 305).1 [(sR v0), (sI v1), (sR v2)]) [] g 0 0 := by
  show Go Φ pr_P fN 1 (fW_count g v0 v1 v2) d pr_m305 0 [some (sR v0), some (sI v1), some (sR v2), none] [] g 0 0
  unfold fW_count
  refine go_aload k305_0 rfl ?_
  refine go_int k305_1 0 rfl ?_
  refine go_aload k305_2 rfl ?_
  refine go_iload k305_3 rfl ?_
  refine go_ck (fun q1 => ?_)
  refine go_callQ1 k305_4 rfl rfl rfl ⟨by decide, _, rfl, q1⟩ ⟨by decide, by decide⟩ (by omega) (tfC_count (by omega) hg q1  h1) (fun y2 r3 => ?_) (fun e6 E7 => ?_)
  · refine go_i2l k305_7 r3 ?_
    refine go_ck (fun q8 => ?_)
    refine go_last k305_8 hg q8 (inL_R r3) (fun g9 e10 => ?_)
    refine go_goto k305_9 ?_
    refine go_int k305_15 0 rfl ?_
    exact go_iret k305_16 e10 (inR_b (Or.inl rfl)) ⟨by decide, by decide⟩ rfl
  · refine ge_ite (fun hE9 => ?_) (fun _ => ?_)
    · subst hE9
      refine ge_catch rfl k305_12 rfl (loc2 := [some (sR v0), some (sI v1), some (sR v2), none]) rfl ?_
      refine go_int k305_13 1 rfl ?_
      exact go_iret k305_14 e6 (inR_b (Or.inr rfl)) ⟨by decide, by decide⟩ rfl
    exact ge_none
theorem tfC_named {Φ : ev_P} {d : Nat} (hd : 1 ≤ d) {g : gH} (hg : HR g) {v0 v1 : Int} (hK0 : kd v0 = 6) (h1 : InR v1) : Go Φ pr_P (fQ g) 2 (fC_named g v0 v1) d (pr_P 65) 0 (ev_loc (pr_P 65).1 [(sR v0), (sI v1)]) [] g 0 0 := by
  show Go Φ pr_P (fQ g) 2 (fC_named g v0 v1) d pr_m65 0 [some (sR v0), some (sI v1), none] [] g 0 0
  unfold fC_named
  refine go_aload k65_0 rfl ?_
  refine go_getR (bI := 0) k65_1 hg hK0 (by decide) rfl rfl (fun r1 => ?_)
  refine go_iload k65_4 rfl ?_
  refine go_ck (fun q2 => ?_)
  refine go_callP2 k65_5 rfl rfl rfl ⟨by decide, _, rfl, q2⟩ ⟨Nat.zero_le _, Nat.zero_le _⟩ (by omega) (tfT_at (by omega) hg q2  h1) (fun y3 r4 => ?_)
  refine go_astore k65_8 rfl (loc2 := [some (sR v0), some (sI v1), some (sR y3)]) rfl ?_
  refine go_aload k65_9 rfl ?_
  refine go_isnull k65_10  (fun c7 => ?_) (fun c8 => ?_)
  · exact go_throw k65_13 hg ⟨by decide, by decide⟩ rfl rfl
  · refine go_aload k65_24 rfl ?_
    exact go_aret k65_25 hg r4 ⟨Nat.zero_le _, Nat.zero_le _⟩ rfl
theorem tfC_numberOf {Φ : ev_P} {d : Nat} (hd : 0 ≤ d) {g : gH} (hg : HR g) {v0 : Int} (h0 : RfR v0) : Go Φ pr_P (fP g) 1 (fC_numberOf g v0) d (pr_P 68) 0 (ev_loc (pr_P 68).1 [(sR v0)]) [] g 0 0 := by
  show Go Φ pr_P (fP g) 1 (fC_numberOf g v0) d pr_m68 0 [some (sR v0)] [] g 0 0
  unfold fC_numberOf
  refine go_aload k68_0 rfl ?_
  refine go_isnull k68_1  (fun c1 => ?_) (fun c2 => ?_)
  · refine go_int k68_4 (-1) rfl ?_
    refine go_goto k68_5 ?_
    exact go_iret k68_12 hg (inR_of (by decide)) ⟨Nat.zero_le _, Nat.zero_le _⟩ rfl
  · refine go_aload k68_8 rfl ?_
    refine go_ck (fun q3 => ?_)
    refine go_getI (bI := 0) k68_9 hg q3 (by decide) rfl rfl (fun r4 => ?_)
    exact go_iret k68_12 hg r4 ⟨Nat.zero_le _, Nat.zero_le _⟩ rfl
theorem tbP_willMask_4 {Φ : ev_P} {d : Nat} (hd : 1 ≤ d) {g : gH} (hg : HR g) {v0 : Int} (hK0 : kd v0 = 3) {X4 : Int → Int → Option Int} (HX4 : ∀ (v1 : Int) (h1 : InR v1) (v2 : Int) (h2 : InR v2), Go Φ pr_P (fP g) 1 (X4 v1 v2) d pr_m248 4 [some (sR v0), some (sI v1), some (sI v2)] [] g 0 0) : ∀ (v1 : Int) (h1 : InR v1) (v2 : Int) (h2 : InR v2), Go Φ pr_P (fP g) 1 (bP_willMask_4 g v0 X4 v1 v2) d pr_m248 4 [some (sR v0), some (sI v1), some (sI v2)] [] g 0 0 := by
  intro v1 h1 v2 h2
  unfold bP_willMask_4
  refine go_iload k248_4 rfl ?_
  refine go_int k248_5 8 rfl ?_
  refine go_cmlt k248_7 h2 (inR_of (by decide)) (fun c1 => ?_) (fun c2 => ?_)
  · refine go_aload k248_10 rfl ?_
    refine go_iload k248_11 rfl ?_
    refine go_callP1 k248_12 rfl rfl rfl ⟨by decide, _, rfl, hK0⟩ ⟨Nat.zero_le _, Nat.zero_le _⟩ (by omega) (tfP_willFor (by omega) hg hK0  h2) (fun y3 r4 => ?_)
    refine go_int k248_15 (-1) rfl ?_
    refine go_cmeq k248_16 r4 (inR_of (by decide)) (fun c7 => ?_) (fun c8 => ?_)
    · refine go_iinc k248_25 rfl rfl 1 rfl (loc2 := [some (sR v0), some (sI v1), some (sI (w32 (v2 + 1)))]) rfl ?_
      refine go_goto k248_28 ?_
      exact HX4 v1 h1 (w32 (v2 + 1)) (inR_w32 _)
    · refine go_iload k248_19 rfl ?_
      refine go_int k248_20 1 rfl ?_
      refine go_iload k248_21 rfl ?_
      refine go_ibin k248_22 ?_
      refine go_ibin k248_23 ?_
      refine go_istore k248_24 rfl (loc2 := [some (sR v0), some (sI (opI 2 v1 (opI 4 1 v2))), some (sI v2)]) rfl ?_
      refine go_iinc k248_25 rfl rfl 1 rfl (loc2 := [some (sR v0), some (sI (opI 2 v1 (opI 4 1 v2))), some (sI (w32 (v2 + 1)))]) rfl ?_
      refine go_goto k248_28 ?_
      exact HX4 (opI 2 v1 (opI 4 1 v2)) (inR_opI _ _ _) (w32 (v2 + 1)) (inR_w32 _)
  · refine go_iload k248_31 rfl ?_
    exact go_iret k248_32 hg h1 ⟨Nat.zero_le _, Nat.zero_le _⟩ rfl
theorem tlP_willMask_4 {Φ : ev_P} {d : Nat} (hd : 1 ≤ d) {g : gH} (hg : HR g) {v0 : Int} (hK0 : kd v0 = 3) : ∀ n : Nat, ∀ (v1 : Int) (h1 : InR v1) (v2 : Int) (h2 : InR v2), Go Φ pr_P (fP g) 1 (lP_willMask_4 g v0 n v1 v2) d pr_m248 4 [some (sR v0), some (sI v1), some (sI v2)] [] g 0 0 := by
  intro n
  induction n with
  | zero => intros; exact go_none
  | succ n ih => exact tbP_willMask_4 hd hg hK0 ih
theorem tfP_willMask {Φ : ev_P} {d : Nat} (hd : 1 ≤ d) {g : gH} (hg : HR g) {v0 : Int} (hK0 : kd v0 = 3) : Go Φ pr_P (fP g) 1 (fP_willMask g v0) d (pr_P 248) 0 (ev_loc (pr_P 248).1 [(sR v0)]) [] g 0 0 := by
  show Go Φ pr_P (fP g) 1 (fP_willMask g v0) d pr_m248 0 [some (sR v0), none, none] [] g 0 0
  unfold fP_willMask
  refine go_int k248_0 0 rfl ?_
  refine go_istore k248_1 rfl (loc2 := [some (sR v0), some (sI 0), none]) rfl ?_
  refine go_int k248_2 0 rfl ?_
  refine go_istore k248_3 rfl (loc2 := [some (sR v0), some (sI 0), some (sI 0)]) rfl ?_
  exact tlP_willMask_4 hd hg hK0 fu 0 (inR_b (Or.inl rfl)) 0 (inR_b (Or.inl rfl))
theorem tfP_isZombieOf {Φ : ev_P} {d : Nat} (hd : 0 ≤ d) {g : gH} (hg : HR g) {v0 v1 : Int} (hK0 : kd v0 = 3) (h1 : RfR v1) : Go Φ pr_P (fP g) 3 (fP_isZombieOf g v0 v1) d (pr_P 239) 0 (ev_loc (pr_P 239).1 [(sR v0), (sR v1)]) [] g 0 0 := by
  show Go Φ pr_P (fP g) 3 (fP_isZombieOf g v0 v1) d pr_m239 0 [some (sR v0), some (sR v1)] [] g 0 0
  unfold fP_isZombieOf
  refine go_aload k239_0 rfl ?_
  refine go_getI (bI := 1) k239_1 hg hK0 (by decide) rfl rfl (fun r1 => ?_)
  refine go_int k239_4 1 rfl ?_
  refine go_cmeq k239_5 r1 (inR_b (Or.inr rfl)) (fun c2 => ?_) (fun c3 => ?_)
  · refine go_aload k239_8 rfl ?_
    refine go_getR (bI := 2) k239_9 hg hK0 (by decide) rfl rfl (fun r4 => ?_)
    refine go_aload k239_12 rfl ?_
    refine go_acmp k239_13 r4 h1 (fun c5 => ?_) (fun c6 => ?_)
    · refine go_int k239_16 1 rfl ?_
      refine go_goto k239_17 ?_
      exact go_bret k239_21 hg (Or.inr rfl) ⟨Nat.zero_le _, Nat.zero_le _⟩ rfl
    · refine go_int k239_20 0 rfl ?_
      exact go_bret k239_21 hg (Or.inl rfl) ⟨Nat.zero_le _, Nat.zero_le _⟩ rfl
  · refine go_int k239_20 0 rfl ?_
    exact go_bret k239_21 hg (Or.inl rfl) ⟨Nat.zero_le _, Nat.zero_le _⟩ rfl
theorem tbT_countZombiesOf_14 {Φ : ev_P} {d : Nat} (hd : 1 ≤ d) {g : gH} (hg : HR g) {v1 v3 v4 : Int} (h1 : RfR v1) (h3 : RfR v3) (h4 : InR v4) {X14 : Int → Int → Option Int} (HX14 : ∀ (v2 : Int) (h2 : InR v2) (v5 : Int) (h5 : InR v5) (u0 : Option ev_V) (w0 : nwo u0) (u6 : Option ev_V) (w6 : nwo u6), Go Φ pr_P (fP g) 1 (X14 v2 v5) d pr_m277 14 [u0, some (sR v1), some (sI v2), some (sR v3), some (sI v4), some (sI v5), u6] [] g 0 0) : ∀ (v2 : Int) (h2 : InR v2) (v5 : Int) (h5 : InR v5) (u0 : Option ev_V) (w0 : nwo u0) (u6 : Option ev_V) (w6 : nwo u6), Go Φ pr_P (fP g) 1 (bT_countZombiesOf_14 g v1 v3 v4 X14 v2 v5) d pr_m277 14 [u0, some (sR v1), some (sI v2), some (sR v3), some (sI v4), some (sI v5), u6] [] g 0 0 := by
  intro v2 h2 v5 h5 u0 w0 u6 w6
  unfold bT_countZombiesOf_14
  refine go_iload k277_14 rfl ?_
  refine go_iload k277_16 rfl ?_
  refine go_cmlt k277_18 h5 h4 (fun c4 => ?_) (fun c5 => ?_)
  · refine go_aload k277_21 rfl ?_
    refine go_iload k277_22 rfl ?_
    refine go_ck (fun q7 => ?_)
    refine go_pald k277_24 hg q7 (fun r6 => ?_)
    refine go_astore k277_25 rfl (loc2 := [u0, some (sR v1), some (sI v2), some (sR v3), some (sI v4), some (sI v5), some (sR (g v3 v5))]) rfl ?_
    refine go_aload k277_27 rfl ?_
    refine go_aload k277_29 rfl ?_
    refine go_ck (fun q8 => ?_)
    refine go_callP3 k277_30 rfl rfl rfl ⟨by decide, _, rfl, q8⟩ ⟨Nat.zero_le _, Nat.zero_le _⟩ (by omega) (tfP_isZombieOf (by omega) hg q8  h1) (fun y9 r10 => ?_)
    refine go_ifeq k277_33 (inR_b r10) (fun c13 => ?_) (fun c14 => ?_)
    · refine go_iinc k277_39 rfl rfl 1 rfl (loc2 := [u0, some (sR v1), some (sI v2), some (sR v3), some (sI v4), some (sI (w32 (v5 + 1))), some (sR (g v3 v5))]) rfl ?_
      refine go_goto k277_42 ?_
      exact HX14 v2 h2 (w32 (v5 + 1)) (inR_w32 _) u0 w0 (some (sR (g v3 v5))) rfl
    · refine go_iinc k277_36 rfl rfl 1 rfl (loc2 := [u0, some (sR v1), some (sI (w32 (v2 + 1))), some (sR v3), some (sI v4), some (sI v5), some (sR (g v3 v5))]) rfl ?_
      refine go_iinc k277_39 rfl rfl 1 rfl (loc2 := [u0, some (sR v1), some (sI (w32 (v2 + 1))), some (sR v3), some (sI v4), some (sI (w32 (v5 + 1))), some (sR (g v3 v5))]) rfl ?_
      refine go_goto k277_42 ?_
      exact HX14 (w32 (v2 + 1)) (inR_w32 _) (w32 (v5 + 1)) (inR_w32 _) u0 w0 (some (sR (g v3 v5))) rfl
  · refine go_iload k277_45 rfl ?_
    exact go_iret k277_46 hg h2 ⟨Nat.zero_le _, Nat.zero_le _⟩ rfl
theorem tlT_countZombiesOf_14 {Φ : ev_P} {d : Nat} (hd : 1 ≤ d) {g : gH} (hg : HR g) {v1 v3 v4 : Int} (h1 : RfR v1) (h3 : RfR v3) (h4 : InR v4) : ∀ n : Nat, ∀ (v2 : Int) (h2 : InR v2) (v5 : Int) (h5 : InR v5) (u0 : Option ev_V) (w0 : nwo u0) (u6 : Option ev_V) (w6 : nwo u6), Go Φ pr_P (fP g) 1 (lT_countZombiesOf_14 g v1 v3 v4 n v2 v5) d pr_m277 14 [u0, some (sR v1), some (sI v2), some (sR v3), some (sI v4), some (sI v5), u6] [] g 0 0 := by
  intro n
  induction n with
  | zero => intros; exact go_none
  | succ n ih => exact tbT_countZombiesOf_14 hd hg h1 h3 h4 ih
theorem tfT_countZombiesOf {Φ : ev_P} {d : Nat} (hd : 1 ≤ d) {g : gH} (hg : HR g) {v0 v1 : Int} (hK0 : kd v0 = 5) (h1 : RfR v1) : Go Φ pr_P (fP g) 1 (fT_countZombiesOf g v0 v1) d (pr_P 277) 0 (ev_loc (pr_P 277).1 [(sR v0), (sR v1)]) [] g 0 0 := by
  show Go Φ pr_P (fP g) 1 (fT_countZombiesOf g v0 v1) d pr_m277 0 [some (sR v0), some (sR v1), none, none, none, none, none] [] g 0 0
  unfold fT_countZombiesOf
  refine go_int k277_0 0 rfl ?_
  refine go_istore k277_1 rfl (loc2 := [some (sR v0), some (sR v1), some (sI 0), none, none, none, none]) rfl ?_
  refine go_aload k277_2 rfl ?_
  refine go_getR (bI := 1) k277_3 hg hK0 (by decide) rfl rfl (fun r1 => ?_)
  refine go_astore k277_6 rfl (loc2 := [some (sR v0), some (sR v1), some (sI 0), some (sR (g v0 1)), none, none, none]) rfl ?_
  refine go_aload k277_7 rfl ?_
  refine go_ck (fun q3 => ?_)
  refine go_alen k277_8 (ka_24 q3) (fun r2 => ?_)
  refine go_istore k277_9 rfl (loc2 := [some (sR v0), some (sR v1), some (sI 0), some (sR (g v0 1)), some (sI (sz (g v0 1))), none, none]) rfl ?_
  refine go_int k277_11 0 rfl ?_
  refine go_istore k277_12 rfl (loc2 := [some (sR v0), some (sR v1), some (sI 0), some (sR (g v0 1)), some (sI (sz (g v0 1))), some (sI 0), none]) rfl ?_
  exact tlT_countZombiesOf_14 hd hg h1 r1 r2 fu 0 (inR_b (Or.inl rfl)) 0 (inR_b (Or.inl rfl)) (some (sR v0)) rfl none rfl
theorem tfC_process {Φ : ev_P} {d : Nat} (hd : 2 ≤ d) {g : gH} (hg : HR g) {v0 v1 v2 : Int} (hK0 : kd v0 = 6) (h1 : InR v1) (h2 : InR v2) : Go Φ pr_P (fQ g) 1 (fC_process g v0 v1 v2) d (pr_P 7) 0 (ev_loc (pr_P 7).1 [(sR v0), (sI v1), (sI v2)]) [] g 0 0 := by
  show Go Φ pr_P (fQ g) 1 (fC_process g v0 v1 v2) d pr_m7 0 [some (sR v0), some (sI v1), some (sI v2), none] [] g 0 0
  unfold fC_process
  refine go_aload k7_0 rfl ?_
  refine go_iload k7_1 rfl ?_
  refine go_callQ2 k7_2 rfl rfl rfl ⟨by decide, _, rfl, hK0⟩ ⟨by decide, by decide⟩ (by omega) (tfC_named (by omega) hg hK0  h1) (fun y1 r2 => ?_) (fun e5 E6 => ge_prop rfl ⟨by decide, by decide⟩ e5 rfl)
  refine go_astore k7_5 rfl (loc2 := [some (sR v0), some (sI v1), some (sI v2), some (sR y1)]) rfl ?_
  refine go_iload k7_6 rfl ?_
  refine go_ite (fun c7 => ?_) (fun c8 => ?_)
  · refine go_swh (lo := 0) (hi := 14) (i := 0) k7_7 rfl rfl (by omega) (by omega) rfl ?_
    refine go_aload k7_80 rfl ?_
    refine go_ck (fun q9 => ?_)
    refine go_getR (bI := 2) k7_81 hg q9 (by decide) rfl rfl (fun r10 => ?_)
    refine go_callP1 k7_84 rfl rfl rfl trivial ⟨by decide, by decide⟩ (by omega) (tfC_numberOf (by omega) hg  r10) (fun y11 r12 => ?_)
    exact go_iret k7_87 hg r12 ⟨by decide, by decide⟩ rfl
  refine go_ite (fun c15 => ?_) (fun c16 => ?_)
  · refine go_swh (lo := 0) (hi := 14) (i := 1) k7_7 rfl rfl (by omega) (by omega) rfl ?_
    refine go_aload k7_88 rfl ?_
    refine go_ck (fun q17 => ?_)
    refine go_getI (bI := 4) k7_89 hg q17 (by decide) rfl rfl (fun r18 => ?_)
    exact go_iret k7_92 hg r18 ⟨by decide, by decide⟩ rfl
  refine go_ite (fun c19 => ?_) (fun c20 => ?_)
  · refine go_swh (lo := 0) (hi := 14) (i := 2) k7_7 rfl rfl (by omega) (by omega) rfl ?_
    refine go_aload k7_93 rfl ?_
    refine go_ck (fun q21 => ?_)
    refine go_callP1 k7_94 rfl rfl rfl ⟨by decide, _, rfl, q21⟩ ⟨by decide, by decide⟩ (by omega) (tfP_room (by omega) hg q21 ) (fun y22 r23 => ?_)
    exact go_iret k7_97 hg r23 ⟨by decide, by decide⟩ rfl
  refine go_ite (fun c26 => ?_) (fun c27 => ?_)
  · refine go_swh (lo := 0) (hi := 14) (i := 3) k7_7 rfl rfl (by omega) (by omega) rfl ?_
    refine go_aload k7_98 rfl ?_
    refine go_ck (fun q28 => ?_)
    refine go_getI (bI := 3) k7_99 hg q28 (by decide) rfl rfl (fun r29 => ?_)
    exact go_iret k7_102 hg r29 ⟨by decide, by decide⟩ rfl
  refine go_ite (fun c30 => ?_) (fun c31 => ?_)
  · refine go_swh (lo := 0) (hi := 14) (i := 4) k7_7 rfl rfl (by omega) (by omega) rfl ?_
    refine go_aload k7_103 rfl ?_
    refine go_getR (bI := 0) k7_104 hg hK0 (by decide) rfl rfl (fun r32 => ?_)
    refine go_aload k7_107 rfl ?_
    refine go_ck (fun q33 => ?_)
    refine go_callP1 k7_108 rfl rfl rfl ⟨by decide, _, rfl, q33⟩ ⟨by decide, by decide⟩ (by omega) (tfT_countZombiesOf (by omega) hg q33  r2) (fun y34 r35 => ?_)
    exact go_iret k7_111 hg r35 ⟨by decide, by decide⟩ rfl
  refine go_ite (fun c38 => ?_) (fun c39 => ?_)
  · refine go_swh (lo := 0) (hi := 14) (i := 5) k7_7 rfl rfl (by omega) (by omega) rfl ?_
    refine go_aload k7_112 rfl ?_
    refine go_ck (fun q40 => ?_)
    refine go_getI (bI := 1) k7_113 hg q40 (by decide) rfl rfl (fun r41 => ?_)
    exact go_iret k7_116 hg r41 ⟨by decide, by decide⟩ rfl
  refine go_ite (fun c42 => ?_) (fun c43 => ?_)
  · refine go_swh (lo := 0) (hi := 14) (i := 6) k7_7 rfl rfl (by omega) (by omega) rfl ?_
    refine go_aload k7_117 rfl ?_
    refine go_ck (fun q44 => ?_)
    refine go_getI (bI := 5) k7_118 hg q44 (by decide) rfl rfl (fun r45 => ?_)
    exact go_iret k7_121 hg r45 ⟨by decide, by decide⟩ rfl
  refine go_ite (fun c46 => ?_) (fun c47 => ?_)
  · refine go_swh (lo := 0) (hi := 14) (i := 7) k7_7 rfl rfl (by omega) (by omega) rfl ?_
    refine go_aload k7_122 rfl ?_
    refine go_ck (fun q48 => ?_)
    refine go_getI (bI := 6) k7_123 hg q48 (by decide) rfl rfl (fun r49 => ?_)
    exact go_iret k7_126 hg r49 ⟨by decide, by decide⟩ rfl
  refine go_ite (fun c50 => ?_) (fun c51 => ?_)
  · refine go_swh (lo := 0) (hi := 14) (i := 8) k7_7 rfl rfl (by omega) (by omega) rfl ?_
    refine go_aload k7_127 rfl ?_
    refine go_ck (fun q52 => ?_)
    refine go_getI (bI := 7) k7_128 hg q52 (by decide) rfl rfl (fun r53 => ?_)
    exact go_iret k7_131 hg r53 ⟨by decide, by decide⟩ rfl
  refine go_ite (fun c54 => ?_) (fun c55 => ?_)
  · refine go_swh (lo := 0) (hi := 14) (i := 9) k7_7 rfl rfl (by omega) (by omega) rfl ?_
    refine go_aload k7_132 rfl ?_
    refine go_getR (bI := 0) k7_133 hg hK0 (by decide) rfl rfl (fun r56 => ?_)
    refine go_aload k7_136 rfl ?_
    refine go_ck (fun q57 => ?_)
    refine go_callP1 k7_137 rfl rfl rfl ⟨by decide, _, rfl, q57⟩ ⟨by decide, by decide⟩ (by omega) (tfT_dutiesOf (by omega) hg q57  r2) (fun y58 r59 => ?_)
    exact go_iret k7_140 hg r59 ⟨by decide, by decide⟩ rfl
  refine go_ite (fun c62 => ?_) (fun c63 => ?_)
  · refine go_swh (lo := 0) (hi := 14) (i := 10) k7_7 rfl rfl (by omega) (by omega) rfl ?_
    refine go_aload k7_141 rfl ?_
    refine go_ck (fun q64 => ?_)
    refine go_getI (bI := 9) k7_142 hg q64 (by decide) rfl rfl (fun r65 => ?_)
    exact go_iret k7_145 hg r65 ⟨by decide, by decide⟩ rfl
  refine go_ite (fun c66 => ?_) (fun c67 => ?_)
  · refine go_swh (lo := 0) (hi := 14) (i := 11) k7_7 rfl rfl (by omega) (by omega) rfl ?_
    refine go_aload k7_146 rfl ?_
    refine go_ck (fun q68 => ?_)
    refine go_getI (bI := 8) k7_147 hg q68 (by decide) rfl rfl (fun r69 => ?_)
    exact go_iret k7_150 hg r69 ⟨by decide, by decide⟩ rfl
  refine go_ite (fun c70 => ?_) (fun c71 => ?_)
  · refine go_swh (lo := 0) (hi := 14) (i := 12) k7_7 rfl rfl (by omega) (by omega) rfl ?_
    refine go_aload k7_151 rfl ?_
    refine go_ck (fun q72 => ?_)
    refine go_getI (bI := 11) k7_152 hg q72 (by decide) rfl rfl (fun r73 => ?_)
    exact go_iret k7_155 hg r73 ⟨by decide, by decide⟩ rfl
  refine go_ite (fun c74 => ?_) (fun c75 => ?_)
  · refine go_swh (lo := 0) (hi := 14) (i := 13) k7_7 rfl rfl (by omega) (by omega) rfl ?_
    refine go_aload k7_156 rfl ?_
    refine go_ck (fun q76 => ?_)
    refine go_getI (bI := 12) k7_157 hg q76 (by decide) rfl rfl (fun r77 => ?_)
    exact go_iret k7_160 hg r77 ⟨by decide, by decide⟩ rfl
  refine go_ite (fun c78 => ?_) (fun c79 => ?_)
  · refine go_swh (lo := 0) (hi := 14) (i := 14) k7_7 rfl rfl (by omega) (by omega) rfl ?_
    refine go_aload k7_161 rfl ?_
    refine go_ck (fun q80 => ?_)
    refine go_callP1 k7_162 rfl rfl rfl ⟨by decide, _, rfl, q80⟩ ⟨by decide, by decide⟩ (by omega) (tfP_willMask (by omega) hg q80 ) (fun y81 r82 => ?_)
    exact go_iret k7_165 hg r82 ⟨by decide, by decide⟩ rfl
  refine go_swd (lo := 0) (hi := 14) k7_7 rfl rfl h2 (by omega) (by omega) ?_
  exact go_throw k7_166 hg ⟨by decide, by decide⟩ rfl rfl
theorem tfW_process {Φ : ev_P} {d : Nat} (hd : 3 ≤ d) {g : gH} (hg : HR g) {v0 v1 v2 v3 : Int} (h0 : RfR v0) (h1 : InR v1) (h2 : InR v2) (h3 : RfR v3) : Go Φ pr_P fN 1 (fW_process g v0 v1 v2 v3) d (pr_P 306) 0 (ev_loc (pr_P 306).1 [(sR v0), (sI v1), (sI v2), (sR v3)]) [] g 0 0 := by
  show Go Φ pr_P fN 1 (fW_process g v0 v1 v2 v3) d pr_m306 0 [some (sR v0), some (sI v1), some (sI v2), some (sR v3), none] [] g 0 0
  unfold fW_process
  refine go_aload k306_0 rfl ?_
  refine go_int k306_1 0 rfl ?_
  refine go_aload k306_2 rfl ?_
  refine go_iload k306_3 rfl ?_
  refine go_iload k306_4 rfl ?_
  refine go_ck (fun q1 => ?_)
  refine go_callQ1 k306_5 rfl rfl rfl ⟨by decide, _, rfl, q1⟩ ⟨by decide, by decide⟩ (by omega) (tfC_process (by omega) hg q1  h1 h2) (fun y2 r3 => ?_) (fun e6 E7 => ?_)
  · refine go_i2l k306_8 r3 ?_
    refine go_ck (fun q8 => ?_)
    refine go_last k306_9 hg q8 (inL_R r3) (fun g9 e10 => ?_)
    refine go_goto k306_10 ?_
    refine go_int k306_21 0 rfl ?_
    exact go_iret k306_22 e10 (inR_b (Or.inl rfl)) ⟨by decide, by decide⟩ rfl
  · refine ge_ite (fun hE9 => ?_) (fun _ => ?_)
    · subst hE9
      refine ge_catch rfl k306_13 rfl (loc2 := [some (sR v0), some (sI v1), some (sI v2), some (sR v3), none]) rfl ?_
      refine go_int k306_15 1 rfl ?_
      exact go_iret k306_16 e6 (inR_b (Or.inr rfl)) ⟨by decide, by decide⟩ rfl
    refine ge_ite (fun hE9 => ?_) (fun _ => ?_)
    · subst hE9
      refine ge_catch rfl k306_17 rfl (loc2 := [some (sR v0), some (sI v1), some (sI v2), some (sR v3), none]) rfl ?_
      refine go_int k306_19 2 rfl ?_
      exact go_iret k306_20 e6 (inR_of (by decide)) ⟨by decide, by decide⟩ rfl
    exact ge_none
theorem tfC_checkRange {Φ : ev_P} {d : Nat} (hd : 0 ≤ d) {g : gH} (hg : HR g) {v0 v1 : Int} (h0 : InR v0) (h1 : InR v1) : Go Φ pr_P (fQ g) 0 (fC_checkRange g v0 v1) d (pr_P 66) 0 (ev_loc (pr_P 66).1 [(sI v0), (sI v1)]) [] g 0 0 := by
  show Go Φ pr_P (fQ g) 0 (fC_checkRange g v0 v1) d pr_m66 0 [some (sI v0), some (sI v1)] [] g 0 0
  unfold fC_checkRange
  refine go_iload k66_0 rfl ?_
  refine go_iflt k66_1 h0 (fun c1 => ?_) (fun c2 => ?_)
  · exact go_throw k66_9 hg ⟨by decide, by decide⟩ rfl rfl
  · refine go_iload k66_4 rfl ?_
    refine go_iload k66_5 rfl ?_
    refine go_cmgt k66_6 h0 h1 (fun c3 => ?_) (fun c4 => ?_)
    · exact go_throw k66_9 hg ⟨by decide, by decide⟩ rfl rfl
    · exact go_vret k66_20 hg ⟨Nat.zero_le _, Nat.zero_le _⟩ rfl
theorem tjT_holderOf_24 {Φ : ev_P} {d : Nat} (hd : 1 ≤ d) {g : gH} (hg : HR g) {v0 : Int} (hK0 : kd v0 = 5) {s0 : Int} (z0 : RfR s0) (u1 : Option ev_V) (w1 : nwo u1) (u2 : Option ev_V) (w2 : nwo u2) : Go Φ pr_P (fP g) 2 (jT_holderOf_24 g v0 s0 ) d pr_m283 24 [some (sR v0), u1, u2] [(sR s0)] g 0 0 := by
  unfold jT_holderOf_24
  refine go_astore k283_24 w1 (loc2 := [some (sR v0), u1, some (sR s0)]) rfl ?_
  refine go_aload k283_25 rfl ?_
  refine go_isnull k283_26  (fun c12 => ?_) (fun c13 => ?_)
  · refine go_aload k283_29 rfl ?_
    refine go_getR (bI := 0) k283_30 hg hK0 (by decide) rfl rfl (fun r14 => ?_)
    refine go_goto k283_33 ?_
    exact go_aret k283_37 hg r14 ⟨Nat.zero_le _, Nat.zero_le _⟩ rfl
  · refine go_aload k283_36 rfl ?_
    exact go_aret k283_37 hg z0 ⟨Nat.zero_le _, Nat.zero_le _⟩ rfl
theorem tjT_holderOf_10 {Φ : ev_P} {d : Nat} (hd : 1 ≤ d) {g : gH} (hg : HR g) {v0 : Int} (hK0 : kd v0 = 5) (u1 : Option ev_V) (w1 : nwo u1) (u2 : Option ev_V) (w2 : nwo u2) : Go Φ pr_P (fP g) 2 (jT_holderOf_10 g v0 ) d pr_m283 10 [some (sR v0), u1, u2] [] g 0 0 := by
  unfold jT_holderOf_10
  refine go_null k283_10 ?_
  refine go_goto k283_11 ?_
  exact tjT_holderOf_24 hd hg hK0 rfR_null u1 w1 u2 w2
theorem tfT_holderOf {Φ : ev_P} {d : Nat} (hd : 1 ≤ d) {g : gH} (hg : HR g) {v0 v1 : Int} (hK0 : kd v0 = 5) (h1 : InR v1) : Go Φ pr_P (fP g) 2 (fT_holderOf g v0 v1) d (pr_P 283) 0 (ev_loc (pr_P 283).1 [(sR v0), (sI v1)]) [] g 0 0 := by
  show Go Φ pr_P (fP g) 2 (fT_holderOf g v0 v1) d pr_m283 0 [some (sR v0), some (sI v1), none] [] g 0 0
  unfold fT_holderOf
  refine go_iload k283_0 rfl ?_
  refine go_iflt k283_1 h1 (fun c1 => ?_) (fun c2 => ?_)
  · exact tjT_holderOf_10 hd hg hK0 (some (sI v1)) rfl none rfl
  · refine go_iload k283_4 rfl ?_
    refine go_int k283_5 8 rfl ?_
    refine go_cmlt k283_7 h1 (inR_of (by decide)) (fun c3 => ?_) (fun c4 => ?_)
    · refine go_aload k283_14 rfl ?_
      refine go_aload k283_15 rfl ?_
      refine go_getR (bI := 2) k283_16 hg hK0 (by decide) rfl rfl (fun r5 => ?_)
      refine go_iload k283_19 rfl ?_
      refine go_ck (fun q7 => ?_)
      refine go_iald k283_20 hg q7 (fun r6 => ?_)
      refine go_callP2 k283_21 rfl rfl rfl ⟨by decide, _, rfl, hK0⟩ ⟨Nat.zero_le _, Nat.zero_le _⟩ (by omega) (tfT_at (by omega) hg hK0  r6) (fun y8 r9 => ?_)
      exact tjT_holderOf_24 hd hg hK0 r9 (some (sI v1)) rfl none rfl
    · exact tjT_holderOf_10 hd hg hK0 (some (sI v1)) rfl none rfl
theorem tfC_holder {Φ : ev_P} {d : Nat} (hd : 2 ≤ d) {g : gH} (hg : HR g) {v0 v1 : Int} (hK0 : kd v0 = 6) (h1 : InR v1) : Go Φ pr_P (fQ g) 1 (fC_holder g v0 v1) d (pr_P 8) 0 (ev_loc (pr_P 8).1 [(sR v0), (sI v1)]) [] g 0 0 := by
  show Go Φ pr_P (fQ g) 1 (fC_holder g v0 v1) d pr_m8 0 [some (sR v0), some (sI v1)] [] g 0 0
  unfold fC_holder
  refine go_iload k8_0 rfl ?_
  refine go_int k8_1 7 rfl ?_
  refine go_callQ0 k8_3 rfl rfl rfl trivial ⟨by decide, by decide⟩ (by omega) (tfC_checkRange (by omega) hg  h1 (inR_of (by decide))) (fun y1 => ?_) (fun e5 E6 => ge_prop rfl ⟨by decide, by decide⟩ e5 rfl)
  refine go_aload k8_6 rfl ?_
  refine go_getR (bI := 0) k8_7 hg hK0 (by decide) rfl rfl (fun r7 => ?_)
  refine go_iload k8_10 rfl ?_
  refine go_ck (fun q8 => ?_)
  refine go_callP2 k8_11 rfl rfl rfl ⟨by decide, _, rfl, q8⟩ ⟨by decide, by decide⟩ (by omega) (tfT_holderOf (by omega) hg q8  h1) (fun y9 r10 => ?_)
  refine go_ck (fun q13 => ?_)
  refine go_getI (bI := 0) k8_14 hg q13 (by decide) rfl rfl (fun r14 => ?_)
  exact go_iret k8_17 hg r14 ⟨by decide, by decide⟩ rfl
theorem tfW_holder {Φ : ev_P} {d : Nat} (hd : 3 ≤ d) {g : gH} (hg : HR g) {v0 v1 v2 : Int} (h0 : RfR v0) (h1 : InR v1) (h2 : RfR v2) : Go Φ pr_P fN 1 (fW_holder g v0 v1 v2) d (pr_P 307) 0 (ev_loc (pr_P 307).1 [(sR v0), (sI v1), (sR v2)]) [] g 0 0 := by
  show Go Φ pr_P fN 1 (fW_holder g v0 v1 v2) d pr_m307 0 [some (sR v0), some (sI v1), some (sR v2), none] [] g 0 0
  unfold fW_holder
  refine go_aload k307_0 rfl ?_
  refine go_int k307_1 0 rfl ?_
  refine go_aload k307_2 rfl ?_
  refine go_iload k307_3 rfl ?_
  refine go_ck (fun q1 => ?_)
  refine go_callQ1 k307_4 rfl rfl rfl ⟨by decide, _, rfl, q1⟩ ⟨by decide, by decide⟩ (by omega) (tfC_holder (by omega) hg q1  h1) (fun y2 r3 => ?_) (fun e6 E7 => ?_)
  · refine go_i2l k307_7 r3 ?_
    refine go_ck (fun q8 => ?_)
    refine go_last k307_8 hg q8 (inL_R r3) (fun g9 e10 => ?_)
    refine go_goto k307_9 ?_
    refine go_int k307_15 0 rfl ?_
    exact go_iret k307_16 e10 (inR_b (Or.inl rfl)) ⟨by decide, by decide⟩ rfl
  · refine ge_ite (fun hE9 => ?_) (fun _ => ?_)
    · subst hE9
      refine ge_catch rfl k307_12 rfl (loc2 := [some (sR v0), some (sI v1), some (sR v2), none]) rfl ?_
      refine go_int k307_13 1 rfl ?_
      exact go_iret k307_14 e6 (inR_b (Or.inr rfl)) ⟨by decide, by decide⟩ rfl
    exact ge_none
theorem tfC_checkState {Φ : ev_P} {d : Nat} (hd : 0 ≤ d) {g : gH} (hg : HR g) {v0 : Int} (h0 : B01 v0) : Go Φ pr_P (fQ g) 0 (fC_checkState g v0) d (pr_P 67) 0 (ev_loc (pr_P 67).1 [(sI v0)]) [] g 0 0 := by
  show Go Φ pr_P (fQ g) 0 (fC_checkState g v0) d pr_m67 0 [some (sI v0)] [] g 0 0
  unfold fC_checkState
  refine go_iload k67_0 rfl ?_
  refine go_ifeq k67_1 (inR_b h0) (fun c1 => ?_) (fun c2 => ?_)
  · exact go_throw k67_4 hg ⟨by decide, by decide⟩ rfl rfl
  · exact go_vret k67_15 hg ⟨Nat.zero_le _, Nat.zero_le _⟩ rfl
theorem tfC_depth {Φ : ev_P} {d : Nat} (hd : 2 ≤ d) {g : gH} (hg : HR g) {v0 v1 : Int} (hK0 : kd v0 = 6) (h1 : InR v1) : Go Φ pr_P (fQ g) 1 (fC_depth g v0 v1) d (pr_P 10) 0 (ev_loc (pr_P 10).1 [(sR v0), (sI v1)]) [] g 0 0 := by
  show Go Φ pr_P (fQ g) 1 (fC_depth g v0 v1) d pr_m10 0 [some (sR v0), some (sI v1), none] [] g 0 0
  unfold fC_depth
  refine go_aload k10_0 rfl ?_
  refine go_iload k10_1 rfl ?_
  refine go_callQ2 k10_2 rfl rfl rfl ⟨by decide, _, rfl, hK0⟩ ⟨by decide, by decide⟩ (by omega) (tfC_named (by omega) hg hK0  h1) (fun y1 r2 => ?_) (fun e5 E6 => ge_prop rfl ⟨by decide, by decide⟩ e5 rfl)
  refine go_astore k10_5 rfl (loc2 := [some (sR v0), some (sI v1), some (sR y1)]) rfl ?_
  refine go_aload k10_6 rfl ?_
  refine go_ck (fun q7 => ?_)
  refine go_getI (bI := 1) k10_7 hg q7 (by decide) rfl rfl (fun r8 => ?_)
  refine go_int k10_10 2 rfl ?_
  refine go_cmeq k10_11 r8 (inR_of (by decide)) (fun c9 => ?_) (fun c10 => ?_)
  · refine go_int k10_18 0 rfl ?_
    refine go_callQ0 k10_19 rfl rfl rfl trivial ⟨by decide, by decide⟩ (by omega) (tfC_checkState (by omega) hg  (Or.inl rfl)) (fun y11 => ?_) (fun e15 E16 => ge_prop rfl ⟨by decide, by decide⟩ e15 rfl)
    refine go_aload k10_22 rfl ?_
    refine go_callP1 k10_23 rfl rfl rfl ⟨by decide, _, rfl, q7⟩ ⟨by decide, by decide⟩ (by omega) (tfP_countAbove (by omega) hg q7 ) (fun y17 r18 => ?_)
    exact go_iret k10_26 hg r18 ⟨by decide, by decide⟩ rfl
  · refine go_int k10_14 1 rfl ?_
    refine go_goto k10_15 ?_
    refine go_callQ0 k10_19 rfl rfl rfl trivial ⟨by decide, by decide⟩ (by omega) (tfC_checkState (by omega) hg  (Or.inr rfl)) (fun y21 => ?_) (fun e25 E26 => ge_prop rfl ⟨by decide, by decide⟩ e25 rfl)
    refine go_aload k10_22 rfl ?_
    refine go_callP1 k10_23 rfl rfl rfl ⟨by decide, _, rfl, q7⟩ ⟨by decide, by decide⟩ (by omega) (tfP_countAbove (by omega) hg q7 ) (fun y27 r28 => ?_)
    exact go_iret k10_26 hg r28 ⟨by decide, by decide⟩ rfl
theorem tfW_depth {Φ : ev_P} {d : Nat} (hd : 3 ≤ d) {g : gH} (hg : HR g) {v0 v1 v2 : Int} (h0 : RfR v0) (h1 : InR v1) (h2 : RfR v2) : Go Φ pr_P fN 1 (fW_depth g v0 v1 v2) d (pr_P 308) 0 (ev_loc (pr_P 308).1 [(sR v0), (sI v1), (sR v2)]) [] g 0 0 := by
  show Go Φ pr_P fN 1 (fW_depth g v0 v1 v2) d pr_m308 0 [some (sR v0), some (sI v1), some (sR v2), none] [] g 0 0
  unfold fW_depth
  refine go_aload k308_0 rfl ?_
  refine go_int k308_1 0 rfl ?_
  refine go_aload k308_2 rfl ?_
  refine go_iload k308_3 rfl ?_
  refine go_ck (fun q1 => ?_)
  refine go_callQ1 k308_4 rfl rfl rfl ⟨by decide, _, rfl, q1⟩ ⟨by decide, by decide⟩ (by omega) (tfC_depth (by omega) hg q1  h1) (fun y2 r3 => ?_) (fun e6 E7 => ?_)
  · refine go_i2l k308_7 r3 ?_
    refine go_ck (fun q8 => ?_)
    refine go_last k308_8 hg q8 (inL_R r3) (fun g9 e10 => ?_)
    refine go_goto k308_9 ?_
    refine go_int k308_18 0 rfl ?_
    exact go_iret k308_19 e10 (inR_b (Or.inl rfl)) ⟨by decide, by decide⟩ rfl
  · refine ge_ite (fun hE9 => ?_) (fun _ => ?_)
    · subst hE9
      refine ge_catch rfl k308_12 rfl (loc2 := [some (sR v0), some (sI v1), some (sR v2), none]) rfl ?_
      refine go_int k308_13 1 rfl ?_
      exact go_iret k308_14 e6 (inR_b (Or.inr rfl)) ⟨by decide, by decide⟩ rfl
    refine ge_ite (fun hE9 => ?_) (fun _ => ?_)
    · subst hE9
      refine ge_catch rfl k308_15 rfl (loc2 := [some (sR v0), some (sI v1), some (sR v2), none]) rfl ?_
      refine go_int k308_16 2 rfl ?_
      exact go_iret k308_17 e6 (inR_of (by decide)) ⟨by decide, by decide⟩ rfl
    exact ge_none
theorem tbP_isOver_5 {Φ : ev_P} {d : Nat} (hd : 0 ≤ d) {g : gH} (hg : HR g) {v0 : Int} (hK0 : kd v0 = 3) {X5 : Int → Option Int} (HX5 : ∀ (v2 : Int) (h2 : RfR v2) (u1 : Option ev_V) (w1 : nwo u1), Go Φ pr_P (fP g) 3 (X5 v2) d pr_m244 5 [some (sR v0), u1, some (sR v2)] [] g 0 0) : ∀ (v2 : Int) (h2 : RfR v2) (u1 : Option ev_V) (w1 : nwo u1), Go Φ pr_P (fP g) 3 (bP_isOver_5 g v0 X5 v2) d pr_m244 5 [some (sR v0), u1, some (sR v2)] [] g 0 0 := by
  intro v2 h2 u1 w1
  unfold bP_isOver_5
  refine go_aload k244_5 rfl ?_
  refine go_isnull k244_6  (fun c3 => ?_) (fun c4 => ?_)
  · refine go_int k244_24 0 rfl ?_
    exact go_bret k244_25 hg (Or.inl rfl) ⟨Nat.zero_le _, Nat.zero_le _⟩ rfl
  · refine go_aload k244_9 rfl ?_
    refine go_aload k244_10 rfl ?_
    refine go_acmp k244_11 h2 (rfR_kd hK0 (by decide)) (fun c5 => ?_) (fun c6 => ?_)
    · refine go_int k244_14 1 rfl ?_
      exact go_bret k244_15 hg (Or.inr rfl) ⟨Nat.zero_le _, Nat.zero_le _⟩ rfl
    · refine go_aload k244_16 rfl ?_
      refine go_ck (fun q7 => ?_)
      refine go_getR (bI := 2) k244_17 hg q7 (by decide) rfl rfl (fun r8 => ?_)
      refine go_astore k244_20 w1 (loc2 := [some (sR v0), u1, some (sR (g v2 2))]) rfl ?_
      refine go_goto k244_21 ?_
      exact HX5 (g v2 2) r8 u1 w1
theorem tlP_isOver_5 {Φ : ev_P} {d : Nat} (hd : 0 ≤ d) {g : gH} (hg : HR g) {v0 : Int} (hK0 : kd v0 = 3) : ∀ n : Nat, ∀ (v2 : Int) (h2 : RfR v2) (u1 : Option ev_V) (w1 : nwo u1), Go Φ pr_P (fP g) 3 (lP_isOver_5 g v0 n v2) d pr_m244 5 [some (sR v0), u1, some (sR v2)] [] g 0 0 := by
  intro n
  induction n with
  | zero => intros; exact go_none
  | succ n ih => exact tbP_isOver_5 hd hg hK0 ih
theorem tfP_isOver {Φ : ev_P} {d : Nat} (hd : 0 ≤ d) {g : gH} (hg : HR g) {v0 v1 : Int} (hK0 : kd v0 = 3) (h1 : RfR v1) : Go Φ pr_P (fP g) 3 (fP_isOver g v0 v1) d (pr_P 244) 0 (ev_loc (pr_P 244).1 [(sR v0), (sR v1)]) [] g 0 0 := by
  show Go Φ pr_P (fP g) 3 (fP_isOver g v0 v1) d pr_m244 0 [some (sR v0), some (sR v1), none] [] g 0 0
  unfold fP_isOver
  refine go_aload k244_0 rfl ?_
  refine go_ck (fun q1 => ?_)
  refine go_getR (bI := 2) k244_1 hg q1 (by decide) rfl rfl (fun r2 => ?_)
  refine go_astore k244_4 rfl (loc2 := [some (sR v0), some (sR v1), some (sR (g v1 2))]) rfl ?_
  exact tlP_isOver_5 hd hg hK0 fu (g v1 2) r2 (some (sR v1)) rfl
theorem tfC_isAbove {Φ : ev_P} {d : Nat} (hd : 2 ≤ d) {g : gH} (hg : HR g) {v0 v1 v2 : Int} (hK0 : kd v0 = 6) (h1 : InR v1) (h2 : InR v2) : Go Φ pr_P (fQ g) 3 (fC_isAbove g v0 v1 v2) d (pr_P 11) 0 (ev_loc (pr_P 11).1 [(sR v0), (sI v1), (sI v2)]) [] g 0 0 := by
  show Go Φ pr_P (fQ g) 3 (fC_isAbove g v0 v1 v2) d pr_m11 0 [some (sR v0), some (sI v1), some (sI v2), none, none] [] g 0 0
  unfold fC_isAbove
  refine go_aload k11_0 rfl ?_
  refine go_iload k11_1 rfl ?_
  refine go_callQ2 k11_2 rfl rfl rfl ⟨by decide, _, rfl, hK0⟩ ⟨by decide, by decide⟩ (by omega) (tfC_named (by omega) hg hK0  h1) (fun y1 r2 => ?_) (fun e5 E6 => ge_prop rfl ⟨by decide, by decide⟩ e5 rfl)
  refine go_astore k11_5 rfl (loc2 := [some (sR v0), some (sI v1), some (sI v2), some (sR y1), none]) rfl ?_
  refine go_aload k11_6 rfl ?_
  refine go_iload k11_7 rfl ?_
  refine go_callQ2 k11_8 rfl rfl rfl ⟨by decide, _, rfl, hK0⟩ ⟨by decide, by decide⟩ (by omega) (tfC_named (by omega) hg hK0  h2) (fun y7 r8 => ?_) (fun e11 E12 => ge_prop rfl ⟨by decide, by decide⟩ e11 rfl)
  refine go_astore k11_11 rfl (loc2 := [some (sR v0), some (sI v1), some (sI v2), some (sR y1), some (sR y7)]) rfl ?_
  refine go_aload k11_13 rfl ?_
  refine go_ck (fun q13 => ?_)
  refine go_getI (bI := 1) k11_14 hg q13 (by decide) rfl rfl (fun r14 => ?_)
  refine go_int k11_17 2 rfl ?_
  refine go_cmeq k11_18 r14 (inR_of (by decide)) (fun c15 => ?_) (fun c16 => ?_)
  · refine go_int k11_43 0 rfl ?_
    exact go_bret k11_44 hg (Or.inl rfl) ⟨by decide, by decide⟩ rfl
  · refine go_aload k11_21 rfl ?_
    refine go_ck (fun q17 => ?_)
    refine go_getI (bI := 1) k11_23 hg q17 (by decide) rfl rfl (fun r18 => ?_)
    refine go_int k11_26 2 rfl ?_
    refine go_cmeq k11_27 r18 (inR_of (by decide)) (fun c19 => ?_) (fun c20 => ?_)
    · refine go_int k11_43 0 rfl ?_
      exact go_bret k11_44 hg (Or.inl rfl) ⟨by decide, by decide⟩ rfl
    · refine go_aload k11_30 rfl ?_
      refine go_aload k11_31 rfl ?_
      refine go_callP3 k11_33 rfl rfl rfl ⟨by decide, _, rfl, q13⟩ ⟨by decide, by decide⟩ (by omega) (tfP_isOver (by omega) hg q13  r8) (fun y21 r22 => ?_)
      refine go_ifeq k11_36 (inR_b r22) (fun c25 => ?_) (fun c26 => ?_)
      · refine go_int k11_43 0 rfl ?_
        exact go_bret k11_44 hg (Or.inl rfl) ⟨by decide, by decide⟩ rfl
      · refine go_int k11_39 1 rfl ?_
        refine go_goto k11_40 ?_
        exact go_bret k11_44 hg (Or.inr rfl) ⟨by decide, by decide⟩ rfl
theorem tfW_isAbove {Φ : ev_P} {d : Nat} (hd : 3 ≤ d) {g : gH} (hg : HR g) {v0 v1 v2 v3 : Int} (h0 : RfR v0) (h1 : InR v1) (h2 : InR v2) (h3 : RfR v3) : Go Φ pr_P fN 1 (fW_isAbove g v0 v1 v2 v3) d (pr_P 309) 0 (ev_loc (pr_P 309).1 [(sR v0), (sI v1), (sI v2), (sR v3)]) [] g 0 0 := by
  show Go Φ pr_P fN 1 (fW_isAbove g v0 v1 v2 v3) d pr_m309 0 [some (sR v0), some (sI v1), some (sI v2), some (sR v3), none] [] g 0 0
  unfold fW_isAbove
  refine go_aload k309_0 rfl ?_
  refine go_int k309_1 0 rfl ?_
  refine go_aload k309_2 rfl ?_
  refine go_iload k309_3 rfl ?_
  refine go_iload k309_4 rfl ?_
  refine go_ck (fun q1 => ?_)
  refine go_callQ3 k309_5 rfl rfl rfl ⟨by decide, _, rfl, q1⟩ ⟨by decide, by decide⟩ (by omega) (tfC_isAbove (by omega) hg q1  h1 h2) (fun y2 r3 => ?_) (fun e6 E7 => ?_)
  · refine go_ifeq k309_8 (inR_b r3) (fun c8 => ?_) (fun c9 => ?_)
    · refine go_lconst k309_15 0 rfl ?_
      refine go_ck (fun q10 => ?_)
      refine go_last k309_16 hg q10 (inL_of (by decide)) (fun g11 e12 => ?_)
      refine go_goto k309_17 ?_
      refine go_int k309_24 0 rfl ?_
      exact go_iret k309_25 e12 (inR_b (Or.inl rfl)) ⟨by decide, by decide⟩ rfl
    · refine go_lconst k309_11 1 rfl ?_
      refine go_goto k309_12 ?_
      refine go_ck (fun q13 => ?_)
      refine go_last k309_16 hg q13 (inL_of (by decide)) (fun g14 e15 => ?_)
      refine go_goto k309_17 ?_
      refine go_int k309_24 0 rfl ?_
      exact go_iret k309_25 e15 (inR_b (Or.inl rfl)) ⟨by decide, by decide⟩ rfl
  · refine ge_ite (fun hE9 => ?_) (fun _ => ?_)
    · subst hE9
      refine ge_catch rfl k309_20 rfl (loc2 := [some (sR v0), some (sI v1), some (sI v2), some (sR v3), none]) rfl ?_
      refine go_int k309_22 1 rfl ?_
      exact go_iret k309_23 e6 (inR_b (Or.inr rfl)) ⟨by decide, by decide⟩ rfl
    exact ge_none
theorem tbT_lowestOver_2 {Φ : ev_P} {d : Nat} (hd : 1 ≤ d) {g : gH} (hg : HR g) {v0 v2 : Int} (hK0 : kd v0 = 5) (h2 : RfR v2) {X2 : Int → Option Int} (HX2 : ∀ (v3 : Int) (h3 : RfR v3) (u1 : Option ev_V) (w1 : nwo u1), Go Φ pr_P (fP g) 2 (X2 v3) d pr_m279 2 [some (sR v0), u1, some (sR v2), some (sR v3)] [] g 0 0) : ∀ (v3 : Int) (h3 : RfR v3) (u1 : Option ev_V) (w1 : nwo u1), Go Φ pr_P (fP g) 2 (bT_lowestOver_2 g v0 v2 X2 v3) d pr_m279 2 [some (sR v0), u1, some (sR v2), some (sR v3)] [] g 0 0 := by
  intro v3 h3 u1 w1
  unfold bT_lowestOver_2
  refine go_aload k279_2 rfl ?_
  refine go_isnull k279_3  (fun c1 => ?_) (fun c2 => ?_)
  · refine go_aload k279_29 rfl ?_
    refine go_getR (bI := 0) k279_30 hg hK0 (by decide) rfl rfl (fun r3 => ?_)
    exact go_aret k279_33 hg r3 ⟨Nat.zero_le _, Nat.zero_le _⟩ rfl
  · refine go_aload k279_6 rfl ?_
    refine go_aload k279_7 rfl ?_
    refine go_acmp k279_8 h3 h2 (fun c4 => ?_) (fun c5 => ?_)
    · refine go_aload k279_19 rfl ?_
      exact go_aret k279_20 hg h3 ⟨Nat.zero_le _, Nat.zero_le _⟩ rfl
    · refine go_aload k279_11 rfl ?_
      refine go_aload k279_12 rfl ?_
      refine go_ck (fun q6 => ?_)
      refine go_callP3 k279_13 rfl rfl rfl ⟨by decide, _, rfl, q6⟩ ⟨Nat.zero_le _, Nat.zero_le _⟩ (by omega) (tfP_isOver (by omega) hg q6  h2) (fun y7 r8 => ?_)
      refine go_ifeq k279_16 (inR_b r8) (fun c11 => ?_) (fun c12 => ?_)
      · refine go_aload k279_21 rfl ?_
        refine go_getR (bI := 2) k279_22 hg q6 (by decide) rfl rfl (fun r13 => ?_)
        refine go_astore k279_25 rfl (loc2 := [some (sR v0), u1, some (sR v2), some (sR (g v3 2))]) rfl ?_
        refine go_goto k279_26 ?_
        exact HX2 (g v3 2) r13 u1 w1
      · refine go_aload k279_19 rfl ?_
        exact go_aret k279_20 hg h3 ⟨Nat.zero_le _, Nat.zero_le _⟩ rfl
theorem tlT_lowestOver_2 {Φ : ev_P} {d : Nat} (hd : 1 ≤ d) {g : gH} (hg : HR g) {v0 v2 : Int} (hK0 : kd v0 = 5) (h2 : RfR v2) : ∀ n : Nat, ∀ (v3 : Int) (h3 : RfR v3) (u1 : Option ev_V) (w1 : nwo u1), Go Φ pr_P (fP g) 2 (lT_lowestOver_2 g v0 v2 n v3) d pr_m279 2 [some (sR v0), u1, some (sR v2), some (sR v3)] [] g 0 0 := by
  intro n
  induction n with
  | zero => intros; exact go_none
  | succ n ih => exact tbT_lowestOver_2 hd hg hK0 h2 ih
theorem tfT_lowestOver {Φ : ev_P} {d : Nat} (hd : 1 ≤ d) {g : gH} (hg : HR g) {v0 v1 v2 : Int} (hK0 : kd v0 = 5) (h1 : RfR v1) (h2 : RfR v2) : Go Φ pr_P (fP g) 2 (fT_lowestOver g v0 v1 v2) d (pr_P 279) 0 (ev_loc (pr_P 279).1 [(sR v0), (sR v1), (sR v2)]) [] g 0 0 := by
  show Go Φ pr_P (fP g) 2 (fT_lowestOver g v0 v1 v2) d pr_m279 0 [some (sR v0), some (sR v1), some (sR v2), none] [] g 0 0
  unfold fT_lowestOver
  refine go_aload k279_0 rfl ?_
  refine go_astore k279_1 rfl (loc2 := [some (sR v0), some (sR v1), some (sR v2), some (sR v1)]) rfl ?_
  exact tlT_lowestOver_2 hd hg hK0 h2 fu v1 h1 (some (sR v1)) rfl
theorem tfC_meet {Φ : ev_P} {d : Nat} (hd : 2 ≤ d) {g : gH} (hg : HR g) {v0 v1 v2 : Int} (hK0 : kd v0 = 6) (h1 : InR v1) (h2 : InR v2) : Go Φ pr_P (fQ g) 1 (fC_meet g v0 v1 v2) d (pr_P 12) 0 (ev_loc (pr_P 12).1 [(sR v0), (sI v1), (sI v2)]) [] g 0 0 := by
  show Go Φ pr_P (fQ g) 1 (fC_meet g v0 v1 v2) d pr_m12 0 [some (sR v0), some (sI v1), some (sI v2), none, none] [] g 0 0
  unfold fC_meet
  refine go_aload k12_0 rfl ?_
  refine go_iload k12_1 rfl ?_
  refine go_callQ2 k12_2 rfl rfl rfl ⟨by decide, _, rfl, hK0⟩ ⟨by decide, by decide⟩ (by omega) (tfC_named (by omega) hg hK0  h1) (fun y1 r2 => ?_) (fun e5 E6 => ge_prop rfl ⟨by decide, by decide⟩ e5 rfl)
  refine go_astore k12_5 rfl (loc2 := [some (sR v0), some (sI v1), some (sI v2), some (sR y1), none]) rfl ?_
  refine go_aload k12_6 rfl ?_
  refine go_iload k12_7 rfl ?_
  refine go_callQ2 k12_8 rfl rfl rfl ⟨by decide, _, rfl, hK0⟩ ⟨by decide, by decide⟩ (by omega) (tfC_named (by omega) hg hK0  h2) (fun y7 r8 => ?_) (fun e11 E12 => ge_prop rfl ⟨by decide, by decide⟩ e11 rfl)
  refine go_astore k12_11 rfl (loc2 := [some (sR v0), some (sI v1), some (sI v2), some (sR y1), some (sR y7)]) rfl ?_
  refine go_aload k12_13 rfl ?_
  refine go_ck (fun q13 => ?_)
  refine go_getI (bI := 1) k12_14 hg q13 (by decide) rfl rfl (fun r14 => ?_)
  refine go_int k12_17 2 rfl ?_
  refine go_cmeq k12_18 r14 (inR_of (by decide)) (fun c15 => ?_) (fun c16 => ?_)
  · refine go_int k12_34 0 rfl ?_
    refine go_callQ0 k12_35 rfl rfl rfl trivial ⟨by decide, by decide⟩ (by omega) (tfC_checkState (by omega) hg  (Or.inl rfl)) (fun y17 => ?_) (fun e21 E22 => ge_prop rfl ⟨by decide, by decide⟩ e21 rfl)
    refine go_aload k12_38 rfl ?_
    refine go_getR (bI := 0) k12_39 hg hK0 (by decide) rfl rfl (fun r23 => ?_)
    refine go_aload k12_42 rfl ?_
    refine go_aload k12_43 rfl ?_
    refine go_ck (fun q24 => ?_)
    refine go_callP2 k12_45 rfl rfl rfl ⟨by decide, _, rfl, q24⟩ ⟨by decide, by decide⟩ (by omega) (tfT_lowestOver (by omega) hg q24  r2 r8) (fun y25 r26 => ?_)
    refine go_ck (fun q29 => ?_)
    refine go_getI (bI := 0) k12_48 hg q29 (by decide) rfl rfl (fun r30 => ?_)
    exact go_iret k12_51 hg r30 ⟨by decide, by decide⟩ rfl
  · refine go_aload k12_21 rfl ?_
    refine go_ck (fun q31 => ?_)
    refine go_getI (bI := 1) k12_23 hg q31 (by decide) rfl rfl (fun r32 => ?_)
    refine go_int k12_26 2 rfl ?_
    refine go_cmeq k12_27 r32 (inR_of (by decide)) (fun c33 => ?_) (fun c34 => ?_)
    · refine go_int k12_34 0 rfl ?_
      refine go_callQ0 k12_35 rfl rfl rfl trivial ⟨by decide, by decide⟩ (by omega) (tfC_checkState (by omega) hg  (Or.inl rfl)) (fun y35 => ?_) (fun e39 E40 => ge_prop rfl ⟨by decide, by decide⟩ e39 rfl)
      refine go_aload k12_38 rfl ?_
      refine go_getR (bI := 0) k12_39 hg hK0 (by decide) rfl rfl (fun r41 => ?_)
      refine go_aload k12_42 rfl ?_
      refine go_aload k12_43 rfl ?_
      refine go_ck (fun q42 => ?_)
      refine go_callP2 k12_45 rfl rfl rfl ⟨by decide, _, rfl, q42⟩ ⟨by decide, by decide⟩ (by omega) (tfT_lowestOver (by omega) hg q42  r2 r8) (fun y43 r44 => ?_)
      refine go_ck (fun q47 => ?_)
      refine go_getI (bI := 0) k12_48 hg q47 (by decide) rfl rfl (fun r48 => ?_)
      exact go_iret k12_51 hg r48 ⟨by decide, by decide⟩ rfl
    · refine go_int k12_30 1 rfl ?_
      refine go_goto k12_31 ?_
      refine go_callQ0 k12_35 rfl rfl rfl trivial ⟨by decide, by decide⟩ (by omega) (tfC_checkState (by omega) hg  (Or.inr rfl)) (fun y49 => ?_) (fun e53 E54 => ge_prop rfl ⟨by decide, by decide⟩ e53 rfl)
      refine go_aload k12_38 rfl ?_
      refine go_getR (bI := 0) k12_39 hg hK0 (by decide) rfl rfl (fun r55 => ?_)
      refine go_aload k12_42 rfl ?_
      refine go_aload k12_43 rfl ?_
      refine go_ck (fun q56 => ?_)
      refine go_callP2 k12_45 rfl rfl rfl ⟨by decide, _, rfl, q56⟩ ⟨by decide, by decide⟩ (by omega) (tfT_lowestOver (by omega) hg q56  r2 r8) (fun y57 r58 => ?_)
      refine go_ck (fun q61 => ?_)
      refine go_getI (bI := 0) k12_48 hg q61 (by decide) rfl rfl (fun r62 => ?_)
      exact go_iret k12_51 hg r62 ⟨by decide, by decide⟩ rfl
theorem tfW_meet {Φ : ev_P} {d : Nat} (hd : 3 ≤ d) {g : gH} (hg : HR g) {v0 v1 v2 v3 : Int} (h0 : RfR v0) (h1 : InR v1) (h2 : InR v2) (h3 : RfR v3) : Go Φ pr_P fN 1 (fW_meet g v0 v1 v2 v3) d (pr_P 310) 0 (ev_loc (pr_P 310).1 [(sR v0), (sI v1), (sI v2), (sR v3)]) [] g 0 0 := by
  show Go Φ pr_P fN 1 (fW_meet g v0 v1 v2 v3) d pr_m310 0 [some (sR v0), some (sI v1), some (sI v2), some (sR v3), none] [] g 0 0
  unfold fW_meet
  refine go_aload k310_0 rfl ?_
  refine go_int k310_1 0 rfl ?_
  refine go_aload k310_2 rfl ?_
  refine go_iload k310_3 rfl ?_
  refine go_iload k310_4 rfl ?_
  refine go_ck (fun q1 => ?_)
  refine go_callQ1 k310_5 rfl rfl rfl ⟨by decide, _, rfl, q1⟩ ⟨by decide, by decide⟩ (by omega) (tfC_meet (by omega) hg q1  h1 h2) (fun y2 r3 => ?_) (fun e6 E7 => ?_)
  · refine go_i2l k310_8 r3 ?_
    refine go_ck (fun q8 => ?_)
    refine go_last k310_9 hg q8 (inL_R r3) (fun g9 e10 => ?_)
    refine go_goto k310_10 ?_
    refine go_int k310_21 0 rfl ?_
    exact go_iret k310_22 e10 (inR_b (Or.inl rfl)) ⟨by decide, by decide⟩ rfl
  · refine ge_ite (fun hE9 => ?_) (fun _ => ?_)
    · subst hE9
      refine ge_catch rfl k310_13 rfl (loc2 := [some (sR v0), some (sI v1), some (sI v2), some (sR v3), none]) rfl ?_
      refine go_int k310_15 1 rfl ?_
      exact go_iret k310_16 e6 (inR_b (Or.inr rfl)) ⟨by decide, by decide⟩ rfl
    refine ge_ite (fun hE9 => ?_) (fun _ => ?_)
    · subst hE9
      refine ge_catch rfl k310_17 rfl (loc2 := [some (sR v0), some (sI v1), some (sI v2), some (sR v3), none]) rfl ?_
      refine go_int k310_19 2 rfl ?_
      exact go_iret k310_20 e6 (inR_of (by decide)) ⟨by decide, by decide⟩ rfl
    exact ge_none
theorem tbT_countBelow_16 {Φ : ev_P} {d : Nat} (hd : 1 ≤ d) {g : gH} (hg : HR g) {v1 v2 v4 v5 : Int} (h1 : RfR v1) (h2 : InR v2) (h4 : RfR v4) (h5 : InR v5) {X16 : Int → Int → Option Int} (HX16 : ∀ (v3 : Int) (h3 : InR v3) (v6 : Int) (h6 : InR v6) (u0 : Option ev_V) (w0 : nwo u0) (u7 : Option ev_V) (w7 : nwo u7), Go Φ pr_P (fP g) 1 (X16 v3 v6) d pr_m276 16 [u0, some (sR v1), some (sI v2), some (sI v3), some (sR v4), some (sI v5), some (sI v6), u7] [] g 0 0) : ∀ (v3 : Int) (h3 : InR v3) (v6 : Int) (h6 : InR v6) (u0 : Option ev_V) (w0 : nwo u0) (u7 : Option ev_V) (w7 : nwo u7), Go Φ pr_P (fP g) 1 (bT_countBelow_16 g v1 v2 v4 v5 X16 v3 v6) d pr_m276 16 [u0, some (sR v1), some (sI v2), some (sI v3), some (sR v4), some (sI v5), some (sI v6), u7] [] g 0 0 := by
  intro v3 h3 v6 h6 u0 w0 u7 w7
  unfold bT_countBelow_16
  refine go_iload k276_16 rfl ?_
  refine go_iload k276_18 rfl ?_
  refine go_cmlt k276_20 h6 h5 (fun c4 => ?_) (fun c5 => ?_)
  · refine go_aload k276_23 rfl ?_
    refine go_iload k276_25 rfl ?_
    refine go_ck (fun q7 => ?_)
    refine go_pald k276_27 hg q7 (fun r6 => ?_)
    refine go_astore k276_28 rfl (loc2 := [u0, some (sR v1), some (sI v2), some (sI v3), some (sR v4), some (sI v5), some (sI v6), some (sR (g v4 v6))]) rfl ?_
    refine go_aload k276_30 rfl ?_
    refine go_ck (fun q8 => ?_)
    refine go_getI (bI := 1) k276_32 hg q8 (by decide) rfl rfl (fun r9 => ?_)
    refine go_iload k276_35 rfl ?_
    refine go_cmeq k276_36 r9 h2 (fun c10 => ?_) (fun c11 => ?_)
    · refine go_aload k276_39 rfl ?_
      refine go_aload k276_40 rfl ?_
      refine go_ck (fun q12 => ?_)
      refine go_callP3 k276_42 rfl rfl rfl ⟨by decide, _, rfl, q12⟩ ⟨Nat.zero_le _, Nat.zero_le _⟩ (by omega) (tfP_isOver (by omega) hg q12  r6) (fun y13 r14 => ?_)
      refine go_ifeq k276_45 (inR_b r14) (fun c17 => ?_) (fun c18 => ?_)
      · refine go_iinc k276_51 rfl rfl 1 rfl (loc2 := [u0, some (sR v1), some (sI v2), some (sI v3), some (sR v4), some (sI v5), some (sI (w32 (v6 + 1))), some (sR (g v4 v6))]) rfl ?_
        refine go_goto k276_54 ?_
        exact HX16 v3 h3 (w32 (v6 + 1)) (inR_w32 _) u0 w0 (some (sR (g v4 v6))) rfl
      · refine go_iinc k276_48 rfl rfl 1 rfl (loc2 := [u0, some (sR v1), some (sI v2), some (sI (w32 (v3 + 1))), some (sR v4), some (sI v5), some (sI v6), some (sR (g v4 v6))]) rfl ?_
        refine go_iinc k276_51 rfl rfl 1 rfl (loc2 := [u0, some (sR v1), some (sI v2), some (sI (w32 (v3 + 1))), some (sR v4), some (sI v5), some (sI (w32 (v6 + 1))), some (sR (g v4 v6))]) rfl ?_
        refine go_goto k276_54 ?_
        exact HX16 (w32 (v3 + 1)) (inR_w32 _) (w32 (v6 + 1)) (inR_w32 _) u0 w0 (some (sR (g v4 v6))) rfl
    · refine go_iinc k276_51 rfl rfl 1 rfl (loc2 := [u0, some (sR v1), some (sI v2), some (sI v3), some (sR v4), some (sI v5), some (sI (w32 (v6 + 1))), some (sR (g v4 v6))]) rfl ?_
      refine go_goto k276_54 ?_
      exact HX16 v3 h3 (w32 (v6 + 1)) (inR_w32 _) u0 w0 (some (sR (g v4 v6))) rfl
  · refine go_iload k276_57 rfl ?_
    exact go_iret k276_58 hg h3 ⟨Nat.zero_le _, Nat.zero_le _⟩ rfl
theorem tlT_countBelow_16 {Φ : ev_P} {d : Nat} (hd : 1 ≤ d) {g : gH} (hg : HR g) {v1 v2 v4 v5 : Int} (h1 : RfR v1) (h2 : InR v2) (h4 : RfR v4) (h5 : InR v5) : ∀ n : Nat, ∀ (v3 : Int) (h3 : InR v3) (v6 : Int) (h6 : InR v6) (u0 : Option ev_V) (w0 : nwo u0) (u7 : Option ev_V) (w7 : nwo u7), Go Φ pr_P (fP g) 1 (lT_countBelow_16 g v1 v2 v4 v5 n v3 v6) d pr_m276 16 [u0, some (sR v1), some (sI v2), some (sI v3), some (sR v4), some (sI v5), some (sI v6), u7] [] g 0 0 := by
  intro n
  induction n with
  | zero => intros; exact go_none
  | succ n ih => exact tbT_countBelow_16 hd hg h1 h2 h4 h5 ih
theorem tfT_countBelow {Φ : ev_P} {d : Nat} (hd : 1 ≤ d) {g : gH} (hg : HR g) {v0 v1 v2 : Int} (hK0 : kd v0 = 5) (h1 : RfR v1) (h2 : InR v2) : Go Φ pr_P (fP g) 1 (fT_countBelow g v0 v1 v2) d (pr_P 276) 0 (ev_loc (pr_P 276).1 [(sR v0), (sR v1), (sI v2)]) [] g 0 0 := by
  show Go Φ pr_P (fP g) 1 (fT_countBelow g v0 v1 v2) d pr_m276 0 [some (sR v0), some (sR v1), some (sI v2), none, none, none, none, none] [] g 0 0
  unfold fT_countBelow
  refine go_int k276_0 0 rfl ?_
  refine go_istore k276_1 rfl (loc2 := [some (sR v0), some (sR v1), some (sI v2), some (sI 0), none, none, none, none]) rfl ?_
  refine go_aload k276_2 rfl ?_
  refine go_getR (bI := 1) k276_3 hg hK0 (by decide) rfl rfl (fun r1 => ?_)
  refine go_astore k276_6 rfl (loc2 := [some (sR v0), some (sR v1), some (sI v2), some (sI 0), some (sR (g v0 1)), none, none, none]) rfl ?_
  refine go_aload k276_8 rfl ?_
  refine go_ck (fun q3 => ?_)
  refine go_alen k276_10 (ka_24 q3) (fun r2 => ?_)
  refine go_istore k276_11 rfl (loc2 := [some (sR v0), some (sR v1), some (sI v2), some (sI 0), some (sR (g v0 1)), some (sI (sz (g v0 1))), none, none]) rfl ?_
  refine go_int k276_13 0 rfl ?_
  refine go_istore k276_14 rfl (loc2 := [some (sR v0), some (sR v1), some (sI v2), some (sI 0), some (sR (g v0 1)), some (sI (sz (g v0 1))), some (sI 0), none]) rfl ?_
  exact tlT_countBelow_16 hd hg h1 h2 r1 r2 fu 0 (inR_b (Or.inl rfl)) 0 (inR_b (Or.inl rfl)) (some (sR v0)) rfl none rfl
