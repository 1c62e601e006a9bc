/-! ===== the evaluator comes to what the functions tell (own work, by program: wip/p2/dec.py) ===== -/
theorem tfC_below {Φ : ev_P} {d : Nat} (hd : 2 ≤ d) {g : gH} (hg : HR g) {v0 v1 : Int} (hK0 : kd v0 = 6) (h1 : InR v1) : Go Φ pr_P (fQ g) 1 (fC_below g v0 v1) d (pr_P 13) 0 (ev_loc (pr_P 13).1 [(sR v0), (sI v1)]) [] g 0 0 := by
  show Go Φ pr_P (fQ g) 1 (fC_below g v0 v1) d pr_m13 0 [some (sR v0), some (sI v1)] [] g 0 0
  unfold fC_below
  refine go_aload k13_0 rfl ?_
  refine go_getR (bI := 0) k13_1 hg hK0 (by decide) rfl rfl (fun r1 => ?_)
  refine go_aload k13_4 rfl ?_
  refine go_iload k13_5 rfl ?_
  refine go_callQ2 k13_6 rfl rfl rfl ⟨by decide, _, rfl, hK0⟩ ⟨by decide, by decide⟩ (by omega) (tfC_named (by omega) hg hK0  h1) (fun y2 r3 => ?_) (fun e6 E7 => ge_prop rfl ⟨by decide, by decide⟩ e6 rfl)
  refine go_int k13_9 0 rfl ?_
  refine go_ck (fun q8 => ?_)
  refine go_callP1 k13_10 rfl rfl rfl ⟨by decide, _, rfl, q8⟩ ⟨by decide, by decide⟩ (by omega) (tfT_countBelow (by omega) hg q8  r3 (inR_b (Or.inl rfl))) (fun y9 r10 => ?_)
  exact go_iret k13_13 hg r10 ⟨by decide, by decide⟩ rfl
theorem tfW_below {Φ : ev_P} {d : Nat} (hd : 3 ≤ d) {g : gH} (hg : HR g) {v0 v1 v2 : Int} (h0 : RfR v0) (h1 : InR v1) (h2 : RfR v2) : Go Φ pr_P fN 1 (fW_below g v0 v1 v2) d (pr_P 311) 0 (ev_loc (pr_P 311).1 [(sR v0), (sI v1), (sR v2)]) [] g 0 0 := by
  show Go Φ pr_P fN 1 (fW_below g v0 v1 v2) d pr_m311 0 [some (sR v0), some (sI v1), some (sR v2), none] [] g 0 0
  unfold fW_below
  refine go_aload k311_0 rfl ?_
  refine go_int k311_1 0 rfl ?_
  refine go_aload k311_2 rfl ?_
  refine go_iload k311_3 rfl ?_
  refine go_ck (fun q1 => ?_)
  refine go_callQ1 k311_4 rfl rfl rfl ⟨by decide, _, rfl, q1⟩ ⟨by decide, by decide⟩ (by omega) (tfC_below (by omega) hg q1  h1) (fun y2 r3 => ?_) (fun e6 E7 => ?_)
  · refine go_i2l k311_7 r3 ?_
    refine go_ck (fun q8 => ?_)
    refine go_last k311_8 hg q8 (inL_R r3) (fun g9 e10 => ?_)
    refine go_goto k311_9 ?_
    refine go_int k311_15 0 rfl ?_
    exact go_iret k311_16 e10 (inR_b (Or.inl rfl)) ⟨by decide, by decide⟩ rfl
  · refine ge_ite (fun hE9 => ?_) (fun _ => ?_)
    · subst hE9
      refine ge_catch rfl k311_12 rfl (loc2 := [some (sR v0), some (sI v1), some (sR v2), none]) rfl ?_
      refine go_int k311_13 1 rfl ?_
      exact go_iret k311_14 e6 (inR_b (Or.inr rfl)) ⟨by decide, by decide⟩ rfl
    exact ge_none
theorem tfP_isRunningChildOf {Φ : ev_P} {d : Nat} (hd : 0 ≤ d) {g : gH} (hg : HR g) {v0 v1 : Int} (hK0 : kd v0 = 3) (h1 : RfR v1) : Go Φ pr_P (fP g) 3 (fP_isRunningChildOf g v0 v1) d (pr_P 238) 0 (ev_loc (pr_P 238).1 [(sR v0), (sR v1)]) [] g 0 0 := by
  show Go Φ pr_P (fP g) 3 (fP_isRunningChildOf g v0 v1) d pr_m238 0 [some (sR v0), some (sR v1)] [] g 0 0
  unfold fP_isRunningChildOf
  refine go_aload k238_0 rfl ?_
  refine go_getI (bI := 1) k238_1 hg hK0 (by decide) rfl rfl (fun r1 => ?_)
  refine go_ifeq k238_4 r1 (fun c2 => ?_) (fun c3 => ?_)
  · refine go_aload k238_7 rfl ?_
    refine go_getR (bI := 2) k238_8 hg hK0 (by decide) rfl rfl (fun r4 => ?_)
    refine go_aload k238_11 rfl ?_
    refine go_acmp k238_12 r4 h1 (fun c5 => ?_) (fun c6 => ?_)
    · refine go_int k238_15 1 rfl ?_
      refine go_goto k238_16 ?_
      exact go_bret k238_20 hg (Or.inr rfl) ⟨Nat.zero_le _, Nat.zero_le _⟩ rfl
    · refine go_int k238_19 0 rfl ?_
      exact go_bret k238_20 hg (Or.inl rfl) ⟨Nat.zero_le _, Nat.zero_le _⟩ rfl
  · refine go_int k238_19 0 rfl ?_
    exact go_bret k238_20 hg (Or.inl rfl) ⟨Nat.zero_le _, Nat.zero_le _⟩ rfl
theorem tbT_childBehind_12 {Φ : ev_P} {d : Nat} (hd : 1 ≤ d) {g : gH} (hg : HR g) {v1 v2 v3 v4 : Int} (h1 : RfR v1) (h2 : InR v2) (h3 : RfR v3) (h4 : InR v4) {X12 : Int → Option Int} (HX12 : ∀ (v5 : Int) (h5 : InR v5) (u0 : Option ev_V) (w0 : nwo u0) (u6 : Option ev_V) (w6 : nwo u6), Go Φ pr_P (fP g) 2 (X12 v5) d pr_m280 12 [u0, some (sR v1), some (sI v2), some (sR v3), some (sI v4), some (sI v5), u6] [] g 0 0) : ∀ (v5 : Int) (h5 : InR v5) (u0 : Option ev_V) (w0 : nwo u0) (u6 : Option ev_V) (w6 : nwo u6), Go Φ pr_P (fP g) 2 (bT_childBehind_12 g v1 v2 v3 v4 X12 v5) d pr_m280 12 [u0, some (sR v1), some (sI v2), some (sR v3), some (sI v4), some (sI v5), u6] [] g 0 0 := by
  intro v5 h5 u0 w0 u6 w6
  unfold bT_childBehind_12
  refine go_iload k280_12 rfl ?_
  refine go_iload k280_14 rfl ?_
  refine go_cmlt k280_16 h5 h4 (fun c4 => ?_) (fun c5 => ?_)
  · refine go_aload k280_19 rfl ?_
    refine go_iload k280_20 rfl ?_
    refine go_ck (fun q7 => ?_)
    refine go_pald k280_22 hg q7 (fun r6 => ?_)
    refine go_astore k280_23 rfl (loc2 := [u0, some (sR v1), some (sI v2), some (sR v3), some (sI v4), some (sI v5), some (sR (g v3 v5))]) rfl ?_
    refine go_aload k280_25 rfl ?_
    refine go_ck (fun q8 => ?_)
    refine go_getI (bI := 0) k280_27 hg q8 (by decide) rfl rfl (fun r9 => ?_)
    refine go_iload k280_30 rfl ?_
    refine go_cmgt k280_31 r9 h2 (fun c10 => ?_) (fun c11 => ?_)
    · refine go_aload k280_34 rfl ?_
      refine go_aload k280_36 rfl ?_
      refine go_callP3 k280_37 rfl rfl rfl ⟨by decide, _, rfl, q8⟩ ⟨Nat.zero_le _, Nat.zero_le _⟩ (by omega) (tfP_isRunningChildOf (by omega) hg q8  h1) (fun y12 r13 => ?_)
      refine go_ifeq k280_40 (inR_b r13) (fun c16 => ?_) (fun c17 => ?_)
      · refine go_iinc k280_46 rfl rfl 1 rfl (loc2 := [u0, some (sR v1), some (sI v2), some (sR v3), some (sI v4), some (sI (w32 (v5 + 1))), some (sR (g v3 v5))]) rfl ?_
        refine go_goto k280_49 ?_
        exact HX12 (w32 (v5 + 1)) (inR_w32 _) u0 w0 (some (sR (g v3 v5))) rfl
      · refine go_aload k280_43 rfl ?_
        exact go_aret k280_45 hg r6 ⟨Nat.zero_le _, Nat.zero_le _⟩ rfl
    · refine go_iinc k280_46 rfl rfl 1 rfl (loc2 := [u0, some (sR v1), some (sI v2), some (sR v3), some (sI v4), some (sI (w32 (v5 + 1))), some (sR (g v3 v5))]) rfl ?_
      refine go_goto k280_49 ?_
      exact HX12 (w32 (v5 + 1)) (inR_w32 _) u0 w0 (some (sR (g v3 v5))) rfl
  · refine go_null k280_52 ?_
    exact go_aret k280_53 hg rfR_null ⟨Nat.zero_le _, Nat.zero_le _⟩ rfl
theorem tlT_childBehind_12 {Φ : ev_P} {d : Nat} (hd : 1 ≤ d) {g : gH} (hg : HR g) {v1 v2 v3 v4 : Int} (h1 : RfR v1) (h2 : InR v2) (h3 : RfR v3) (h4 : InR v4) : ∀ n : Nat, ∀ (v5 : Int) (h5 : InR v5) (u0 : Option ev_V) (w0 : nwo u0) (u6 : Option ev_V) (w6 : nwo u6), Go Φ pr_P (fP g) 2 (lT_childBehind_12 g v1 v2 v3 v4 n v5) d pr_m280 12 [u0, some (sR v1), some (sI v2), some (sR v3), some (sI v4), some (sI v5), u6] [] g 0 0 := by
  intro n
  induction n with
  | zero => intros; exact go_none
  | succ n ih => exact tbT_childBehind_12 hd hg h1 h2 h3 h4 ih
theorem tfT_childBehind {Φ : ev_P} {d : Nat} (hd : 1 ≤ d) {g : gH} (hg : HR g) {v0 v1 v2 : Int} (hK0 : kd v0 = 5) (h1 : RfR v1) (h2 : InR v2) : Go Φ pr_P (fP g) 2 (fT_childBehind g v0 v1 v2) d (pr_P 280) 0 (ev_loc (pr_P 280).1 [(sR v0), (sR v1), (sI v2)]) [] g 0 0 := by
  show Go Φ pr_P (fP g) 2 (fT_childBehind g v0 v1 v2) d pr_m280 0 [some (sR v0), some (sR v1), some (sI v2), none, none, none, none] [] g 0 0
  unfold fT_childBehind
  refine go_aload k280_0 rfl ?_
  refine go_getR (bI := 1) k280_1 hg hK0 (by decide) rfl rfl (fun r1 => ?_)
  refine go_astore k280_4 rfl (loc2 := [some (sR v0), some (sR v1), some (sI v2), some (sR (g v0 1)), none, none, none]) rfl ?_
  refine go_aload k280_5 rfl ?_
  refine go_ck (fun q3 => ?_)
  refine go_alen k280_6 (ka_24 q3) (fun r2 => ?_)
  refine go_istore k280_7 rfl (loc2 := [some (sR v0), some (sR v1), some (sI v2), some (sR (g v0 1)), some (sI (sz (g v0 1))), none, none]) rfl ?_
  refine go_int k280_9 0 rfl ?_
  refine go_istore k280_10 rfl (loc2 := [some (sR v0), some (sR v1), some (sI v2), some (sR (g v0 1)), some (sI (sz (g v0 1))), some (sI 0), none]) rfl ?_
  exact tlT_childBehind_12 hd hg h1 h2 r1 r2 fu 0 (inR_b (Or.inl rfl)) (some (sR v0)) rfl none rfl
theorem tbT_nextOfWalk_9 {Φ : ev_P} {d : Nat} (hd : 2 ≤ d) {g : gH} (hg : HR g) {v0 : Int} (hK0 : kd v0 = 5) {X9 : Int → Int → Option Int} (HX9 : ∀ (v2 : Int) (h2 : RfR v2) (v3 : Int) (h3 : RfR v3) (u1 : Option ev_V) (w1 : nwo u1), Go Φ pr_P (fP g) 2 (X9 v2 v3) d pr_m282 9 [some (sR v0), u1, some (sR v2), some (sR v3)] [] g 0 0) : ∀ (v2 : Int) (h2 : RfR v2) (v3 : Int) (h3 : RfR v3) (u1 : Option ev_V) (w1 : nwo u1), Go Φ pr_P (fP g) 2 (bT_nextOfWalk_9 g v0 X9 v2 v3) d pr_m282 9 [some (sR v0), u1, some (sR v2), some (sR v3)] [] g 0 0 := by
  intro v2 h2 v3 h3 u1 w1
  unfold bT_nextOfWalk_9
  refine go_aload k282_9 rfl ?_
  refine go_isnull k282_10  (fun c5 => ?_) (fun c6 => ?_)
  · refine go_aload k282_13 rfl ?_
    refine go_ck (fun q7 => ?_)
    refine go_getR (bI := 2) k282_14 hg q7 (by decide) rfl rfl (fun r8 => ?_)
    refine go_isnull k282_17  (fun c9 => ?_) (fun c10 => ?_)
    · refine go_aload k282_41 rfl ?_
      exact go_aret k282_42 hg h2 ⟨Nat.zero_le _, Nat.zero_le _⟩ rfl
    · refine go_aload k282_20 rfl ?_
      refine go_aload k282_21 rfl ?_
      refine go_getR (bI := 2) k282_22 hg q7 (by decide) rfl rfl (fun r11 => ?_)
      refine go_aload k282_25 rfl ?_
      refine go_getI (bI := 0) k282_26 hg q7 (by decide) rfl rfl (fun r12 => ?_)
      refine go_callP2 k282_29 rfl rfl rfl ⟨by decide, _, rfl, hK0⟩ ⟨Nat.zero_le _, Nat.zero_le _⟩ (by omega) (tfT_childBehind (by omega) hg hK0  r11 r12) (fun y13 r14 => ?_)
      refine go_astore k282_32 w1 (loc2 := [some (sR v0), u1, some (sR y13), some (sR v3)]) rfl ?_
      refine go_aload k282_33 rfl ?_
      refine go_getR (bI := 2) k282_34 hg q7 (by decide) rfl rfl (fun r17 => ?_)
      refine go_astore k282_37 rfl (loc2 := [some (sR v0), u1, some (sR y13), some (sR (g v3 2))]) rfl ?_
      refine go_goto k282_38 ?_
      exact HX9 y13 r14 (g v3 2) r17 u1 w1
  · refine go_aload k282_41 rfl ?_
    exact go_aret k282_42 hg h2 ⟨Nat.zero_le _, Nat.zero_le _⟩ rfl
theorem tlT_nextOfWalk_9 {Φ : ev_P} {d : Nat} (hd : 2 ≤ d) {g : gH} (hg : HR g) {v0 : Int} (hK0 : kd v0 = 5) : ∀ n : Nat, ∀ (v2 : Int) (h2 : RfR v2) (v3 : Int) (h3 : RfR v3) (u1 : Option ev_V) (w1 : nwo u1), Go Φ pr_P (fP g) 2 (lT_nextOfWalk_9 g v0 n v2 v3) d pr_m282 9 [some (sR v0), u1, some (sR v2), some (sR v3)] [] g 0 0 := by
  intro n
  induction n with
  | zero => intros; exact go_none
  | succ n ih => exact tbT_nextOfWalk_9 hd hg hK0 ih
theorem tfT_nextOfWalk {Φ : ev_P} {d : Nat} (hd : 2 ≤ d) {g : gH} (hg : HR g) {v0 v1 : Int} (hK0 : kd v0 = 5) (h1 : RfR v1) : Go Φ pr_P (fP g) 2 (fT_nextOfWalk g v0 v1) d (pr_P 282) 0 (ev_loc (pr_P 282).1 [(sR v0), (sR v1)]) [] g 0 0 := by
  show Go Φ pr_P (fP g) 2 (fT_nextOfWalk g v0 v1) d pr_m282 0 [some (sR v0), some (sR v1), none, none] [] g 0 0
  unfold fT_nextOfWalk
  refine go_aload k282_0 rfl ?_
  refine go_aload k282_1 rfl ?_
  refine go_int k282_2 (-1) rfl ?_
  refine go_callP2 k282_3 rfl rfl rfl ⟨by decide, _, rfl, hK0⟩ ⟨Nat.zero_le _, Nat.zero_le _⟩ (by omega) (tfT_childBehind (by omega) hg hK0  h1 (inR_of (by decide))) (fun y1 r2 => ?_)
  refine go_astore k282_6 rfl (loc2 := [some (sR v0), some (sR v1), some (sR y1), none]) rfl ?_
  refine go_aload k282_7 rfl ?_
  refine go_astore k282_8 rfl (loc2 := [some (sR v0), some (sR v1), some (sR y1), some (sR v1)]) rfl ?_
  exact tlT_nextOfWalk_9 hd hg hK0 fu y1 r2 v1 h1 (some (sR v1)) rfl
theorem tjC_walked_48 {Φ : ev_P} {d : Nat} (hd : 3 ≤ d) {g : gH} (hg : HR g) {v2 : Int} (h2 : RfR v2) (u0 : Option ev_V) (w0 : nwo u0) (u1 : Option ev_V) (w1 : nwo u1) (u3 : Option ev_V) (w3 : nwo u3) : Go Φ pr_P (fQ g) 1 (jC_walked_48 g v2 ) d pr_m14 48 [u0, u1, some (sR v2), u3] [] g 0 0 := by
  unfold jC_walked_48
  refine go_aload k14_48 rfl ?_
  refine go_isnull k14_49  (fun c18 => ?_) (fun c19 => ?_)
  · exact go_throw k14_52 hg ⟨by decide, by decide⟩ rfl rfl
  · refine go_aload k14_62 rfl ?_
    refine go_ck (fun q20 => ?_)
    refine go_getI (bI := 0) k14_63 hg q20 (by decide) rfl rfl (fun r21 => ?_)
    exact go_iret k14_66 hg r21 ⟨Nat.zero_le _, Nat.zero_le _⟩ rfl
theorem tbC_walked_24 {Φ : ev_P} {d : Nat} (hd : 3 ≤ d) {g : gH} (hg : HR g) {v0 v1 : Int} (hK0 : kd v0 = 6) (h1 : InR v1) {X24 : Int → Int → Option (Nat × Int)} (HX24 : ∀ (v2 : Int) (h2 : RfR v2) (v3 : Int) (h3 : InR v3), Go Φ pr_P (fQ g) 1 (X24 v2 v3) d pr_m14 24 [some (sR v0), some (sI v1), some (sR v2), some (sI v3)] [] g 0 0) : ∀ (v2 : Int) (h2 : RfR v2) (v3 : Int) (h3 : InR v3), Go Φ pr_P (fQ g) 1 (bC_walked_24 g v0 v1 X24 v2 v3) d pr_m14 24 [some (sR v0), some (sI v1), some (sR v2), some (sI v3)] [] g 0 0 := by
  intro v2 h2 v3 h3
  unfold bC_walked_24
  refine go_iload k14_24 rfl ?_
  refine go_iload k14_25 rfl ?_
  refine go_cmlt k14_26 h3 h1 (fun c8 => ?_) (fun c9 => ?_)
  · refine go_aload k14_29 rfl ?_
    refine go_isnull k14_30  (fun c10 => ?_) (fun c11 => ?_)
    · exact tjC_walked_48 hd hg h2 (some (sR v0)) rfl (some (sI v1)) rfl (some (sI v3)) rfl
    · refine go_aload k14_33 rfl ?_
      refine go_getR (bI := 0) k14_34 hg hK0 (by decide) rfl rfl (fun r12 => ?_)
      refine go_aload k14_37 rfl ?_
      refine go_ck (fun q13 => ?_)
      refine go_callP2 k14_38 rfl rfl rfl ⟨by decide, _, rfl, q13⟩ ⟨Nat.zero_le _, Nat.zero_le _⟩ (by omega) (tfT_nextOfWalk (by omega) hg q13  h2) (fun y14 r15 => ?_)
      refine go_astore k14_41 rfl (loc2 := [some (sR v0), some (sI v1), some (sR y14), some (sI v3)]) rfl ?_
      refine go_iinc k14_42 rfl rfl 1 rfl (loc2 := [some (sR v0), some (sI v1), some (sR y14), some (sI (w32 (v3 + 1)))]) rfl ?_
      refine go_goto k14_45 ?_
      exact HX24 y14 r15 (w32 (v3 + 1)) (inR_w32 _)
  · exact tjC_walked_48 hd hg h2 (some (sR v0)) rfl (some (sI v1)) rfl (some (sI v3)) rfl
theorem tlC_walked_24 {Φ : ev_P} {d : Nat} (hd : 3 ≤ d) {g : gH} (hg : HR g) {v0 v1 : Int} (hK0 : kd v0 = 6) (h1 : InR v1) : ∀ n : Nat, ∀ (v2 : Int) (h2 : RfR v2) (v3 : Int) (h3 : InR v3), Go Φ pr_P (fQ g) 1 (lC_walked_24 g v0 v1 n v2 v3) d pr_m14 24 [some (sR v0), some (sI v1), some (sR v2), some (sI v3)] [] g 0 0 := by
  intro n
  induction n with
  | zero => intros; exact go_none
  | succ n ih => exact tbC_walked_24 hd hg hK0 h1 ih
theorem tfC_walked {Φ : ev_P} {d : Nat} (hd : 3 ≤ d) {g : gH} (hg : HR g) {v0 v1 : Int} (hK0 : kd v0 = 6) (h1 : InR v1) : Go Φ pr_P (fQ g) 1 (fC_walked g v0 v1) d (pr_P 14) 0 (ev_loc (pr_P 14).1 [(sR v0), (sI v1)]) [] g 0 0 := by
  show Go Φ pr_P (fQ g) 1 (fC_walked g v0 v1) d pr_m14 0 [some (sR v0), some (sI v1), none, none] [] g 0 0
  unfold fC_walked
  refine go_iload k14_0 rfl ?_
  refine go_iflt k14_1 h1 (fun c1 => ?_) (fun c2 => ?_)
  · refine go_null k14_10 ?_
    refine go_goto k14_11 ?_
    refine go_astore k14_21 rfl (loc2 := [some (sR v0), some (sI v1), some (sR (-1)), none]) rfl ?_
    refine go_int k14_22 0 rfl ?_
    refine go_istore k14_23 rfl (loc2 := [some (sR v0), some (sI v1), some (sR (-1)), some (sI 0)]) rfl ?_
    exact tlC_walked_24 hd hg hK0 h1 fu (-1) rfR_null 0 (inR_b (Or.inl rfl))
  · refine go_iload k14_4 rfl ?_
    refine go_int k14_5 40 rfl ?_
    refine go_cmlt k14_7 h1 (inR_of (by decide)) (fun c3 => ?_) (fun c4 => ?_)
    · refine go_aload k14_14 rfl ?_
      refine go_getR (bI := 0) k14_15 hg hK0 (by decide) rfl rfl (fun r5 => ?_)
      refine go_ck (fun q6 => ?_)
      refine go_getR (bI := 0) k14_18 hg q6 (by decide) rfl rfl (fun r7 => ?_)
      refine go_astore k14_21 rfl (loc2 := [some (sR v0), some (sI v1), some (sR (g (g v0 0) 0)), none]) rfl ?_
      refine go_int k14_22 0 rfl ?_
      refine go_istore k14_23 rfl (loc2 := [some (sR v0), some (sI v1), some (sR (g (g v0 0) 0)), some (sI 0)]) rfl ?_
      exact tlC_walked_24 hd hg hK0 h1 fu (g (g v0 0) 0) r7 0 (inR_b (Or.inl rfl))
    · refine go_null k14_10 ?_
      refine go_goto k14_11 ?_
      refine go_astore k14_21 rfl (loc2 := [some (sR v0), some (sI v1), some (sR (-1)), none]) rfl ?_
      refine go_int k14_22 0 rfl ?_
      refine go_istore k14_23 rfl (loc2 := [some (sR v0), some (sI v1), some (sR (-1)), some (sI 0)]) rfl ?_
      exact tlC_walked_24 hd hg hK0 h1 fu (-1) rfR_null 0 (inR_b (Or.inl rfl))
theorem tfW_walked {Φ : ev_P} {d : Nat} (hd : 4 ≤ d) {g : gH} (hg : HR g) {v0 v1 v2 : Int} (h0 : RfR v0) (h1 : InR v1) (h2 : RfR v2) : Go Φ pr_P fN 1 (fW_walked g v0 v1 v2) d (pr_P 312) 0 (ev_loc (pr_P 312).1 [(sR v0), (sI v1), (sR v2)]) [] g 0 0 := by
  show Go Φ pr_P fN 1 (fW_walked g v0 v1 v2) d pr_m312 0 [some (sR v0), some (sI v1), some (sR v2), none] [] g 0 0
  unfold fW_walked
  refine go_aload k312_0 rfl ?_
  refine go_int k312_1 0 rfl ?_
  refine go_aload k312_2 rfl ?_
  refine go_iload k312_3 rfl ?_
  refine go_ck (fun q1 => ?_)
  refine go_callQ1 k312_4 rfl rfl rfl ⟨by decide, _, rfl, q1⟩ ⟨by decide, by decide⟩ (by omega) (tfC_walked (by omega) hg q1  h1) (fun y2 r3 => ?_) (fun e6 E7 => ?_)
  · refine go_i2l k312_7 r3 ?_
    refine go_ck (fun q8 => ?_)
    refine go_last k312_8 hg q8 (inL_R r3) (fun g9 e10 => ?_)
    refine go_goto k312_9 ?_
    refine go_int k312_15 0 rfl ?_
    exact go_iret k312_16 e10 (inR_b (Or.inl rfl)) ⟨by decide, by decide⟩ rfl
  · refine ge_ite (fun hE9 => ?_) (fun _ => ?_)
    · subst hE9
      refine ge_catch rfl k312_12 rfl (loc2 := [some (sR v0), some (sI v1), some (sR v2), none]) rfl ?_
      refine go_int k312_13 1 rfl ?_
      exact go_iret k312_14 e6 (inR_b (Or.inr rfl)) ⟨by decide, by decide⟩ rfl
    exact ge_none
theorem tjH_push_21 {Φ : ev_P} {d : Nat} (hd : 2 ≤ d) {g : gH} (hg : HR g) {v0 v1 : Int} (hK0 : kd v0 = 0) (h1 : RfR v1) : Go Φ pr_P fN 0 (jH_push_21 g v0 v1 ) d pr_m219 21 [some (sR v0), some (sR v1)] [] g 0 0 := by
  unfold jH_push_21
  refine go_aload k219_21 rfl ?_
  refine go_getR (bI := 0) k219_22 hg hK0 (by decide) rfl rfl (fun r9 => ?_)
  refine go_aload k219_25 rfl ?_
  refine go_getI (bI := 2) k219_26 hg hK0 (by decide) rfl rfl (fun r10 => ?_)
  refine go_ck (fun q12 => ?_)
  refine go_tald k219_29 hg q12 (fun r11 => ?_)
  refine go_aload k219_30 rfl ?_
  refine go_ck (fun q13 => ?_)
  refine go_callN0 k219_31 rfl rfl rfl ⟨by decide, _, rfl, q13⟩ ⟨Nat.zero_le _, Nat.zero_le _⟩ (by omega) (tfT_take (by omega) hg q13  h1) (fun y14 g16 e17 => ?_)
  refine go_aload k219_34 rfl ?_
  refine go_dupR k219_35 ?_
  refine go_getI (bI := 2) k219_36 e17 hK0 (by decide) rfl rfl (fun r18 => ?_)
  refine go_int k219_39 1 rfl ?_
  refine go_iadd k219_40 ?_
  refine go_putI (bI := 2) k219_41 e17 hK0 (by decide) rfl rfl (inR_w32 _) (fun g19 e20 => ?_)
  refine go_aload k219_44 rfl ?_
  refine go_getI (bI := 1) k219_45 e20 hK0 (by decide) rfl rfl (fun r21 => ?_)
  refine go_int k219_48 10 rfl ?_
  refine go_cmlt k219_50 r21 (inR_of (by decide)) (fun c22 => ?_) (fun c23 => ?_)
  · refine go_aload k219_53 rfl ?_
    refine go_dupR k219_54 ?_
    refine go_getI (bI := 1) k219_55 e20 hK0 (by decide) rfl rfl (fun r24 => ?_)
    refine go_int k219_58 1 rfl ?_
    refine go_iadd k219_59 ?_
    refine go_putI (bI := 1) k219_60 e20 hK0 (by decide) rfl rfl (inR_w32 _) (fun g25 e26 => ?_)
    exact go_vret k219_63 e26 ⟨Nat.zero_le _, Nat.zero_le _⟩ rfl
  · exact go_vret k219_63 e20 ⟨Nat.zero_le _, Nat.zero_le _⟩ rfl
theorem tjH_push_16 {Φ : ev_P} {d : Nat} (hd : 2 ≤ d) {g : gH} (hg : HR g) {v0 v1 : Int} (hK0 : kd v0 = 0) (h1 : RfR v1) : Go Φ pr_P fN 0 (jH_push_16 g v0 v1 ) d pr_m219 16 [some (sR v0), some (sR v1)] [] g 0 0 := by
  unfold jH_push_16
  refine go_aload k219_16 rfl ?_
  refine go_int k219_17 0 rfl ?_
  refine go_putI (bI := 2) k219_18 hg hK0 (by decide) rfl rfl (inR_b (Or.inl rfl)) (fun g7 e8 => ?_)
  exact tjH_push_21 hd e8 hK0 h1
theorem tfH_push {Φ : ev_P} {d : Nat} (hd : 2 ≤ d) {g : gH} (hg : HR g) {v0 v1 : Int} (hK0 : kd v0 = 0) (h1 : RfR v1) : Go Φ pr_P fN 0 (fH_push g v0 v1) d (pr_P 219) 0 (ev_loc (pr_P 219).1 [(sR v0), (sR v1)]) [] g 0 0 := by
  show Go Φ pr_P fN 0 (fH_push g v0 v1) d pr_m219 0 [some (sR v0), some (sR v1)] [] g 0 0
  unfold fH_push
  refine go_aload k219_0 rfl ?_
  refine go_getI (bI := 2) k219_1 hg hK0 (by decide) rfl rfl (fun r1 => ?_)
  refine go_iflt k219_4 r1 (fun c2 => ?_) (fun c3 => ?_)
  · exact tjH_push_16 hd hg hK0 h1
  · refine go_aload k219_7 rfl ?_
    refine go_getI (bI := 2) k219_8 hg hK0 (by decide) rfl rfl (fun r4 => ?_)
    refine go_int k219_11 10 rfl ?_
    refine go_cmlt k219_13 r4 (inR_of (by decide)) (fun c5 => ?_) (fun c6 => ?_)
    · exact tjH_push_21 hd hg hK0 h1
    · exact tjH_push_16 hd hg hK0 h1
theorem tjC_spawn_51 {Φ : ev_P} {d : Nat} (hd : 3 ≤ d) {g : gH} (hg : HR g) {v0 v2 v3 v4 v5 : Int} (hK0 : kd v0 = 6) (h2 : InR v2) (h3 : InR v3) (h4 : InR v4) (h5 : RfR v5) {s0 : Int} (z0 : B01 s0) (u1 : Option ev_V) (w1 : nwo u1) : Go Φ pr_P fT 1 (jC_spawn_51 g v0 v2 v3 v4 v5 s0 ) d pr_m17 51 [some (sR v0), u1, some (sI v2), some (sI v3), some (sI v4), some (sR v5)] [(sI s0)] g 4 24 := by
  unfold jC_spawn_51
  refine go_callQ0 k17_51 rfl rfl rfl trivial ⟨by decide, by decide⟩ (by omega) (tfC_checkState (by omega) hg  z0) (fun y37 => ?_) (fun e41 E42 => ge_prop rfl ⟨by decide, by decide⟩ e41 rfl)
  refine go_aload k17_54 rfl ?_
  refine go_getR (bI := 3) k17_55 hg hK0 (by decide) rfl rfl (fun r43 => ?_)
  refine go_aload k17_58 rfl ?_
  refine go_getR (bI := 0) k17_59 hg hK0 (by decide) rfl rfl (fun r44 => ?_)
  refine go_ck (fun q45 => ?_)
  refine go_callN0 k17_62 rfl rfl rfl ⟨by decide, _, rfl, q45⟩ ⟨by decide, by decide⟩ (by omega) (tfH_push (by omega) hg q45  r44) (fun y46 g48 e49 => ?_)
  refine go_aload k17_65 rfl ?_
  refine go_getR (bI := 0) k17_66 e49 hK0 (by decide) rfl rfl (fun r50 => ?_)
  refine go_aload k17_69 rfl ?_
  refine go_iload k17_71 rfl ?_
  refine go_iload k17_72 rfl ?_
  refine go_iload k17_73 rfl ?_
  refine go_ck (fun q51 => ?_)
  refine go_callN2 k17_75 rfl rfl rfl ⟨by decide, _, rfl, q51⟩ ⟨by decide, by decide⟩ (by omega) (tfT_arrive (by omega) e49 q51  h5 h2 h3 h4) (fun y52 g54 r53 e55 => ?_)
  refine go_callP1 k17_78 rfl rfl rfl trivial ⟨by decide, by decide⟩ (by omega) (tfC_numberOf (by omega) e55  r53) (fun y56 r57 => ?_)
  exact go_iret k17_81 e55 r57 ⟨by decide, by decide⟩ rfl
theorem tjC_spawn_50 {Φ : ev_P} {d : Nat} (hd : 3 ≤ d) {g : gH} (hg : HR g) {v0 v2 v3 v4 v5 : Int} (hK0 : kd v0 = 6) (h2 : InR v2) (h3 : InR v3) (h4 : InR v4) (h5 : RfR v5) (u1 : Option ev_V) (w1 : nwo u1) : Go Φ pr_P fT 1 (jC_spawn_50 g v0 v2 v3 v4 v5 ) d pr_m17 50 [some (sR v0), u1, some (sI v2), some (sI v3), some (sI v4), some (sR v5)] [] g 4 24 := by
  unfold jC_spawn_50
  refine go_int k17_50 0 rfl ?_
  exact tjC_spawn_51 hd hg hK0 h2 h3 h4 h5 (Or.inl rfl) u1 w1
theorem tfC_spawn {Φ : ev_P} {d : Nat} (hd : 3 ≤ d) {g : gH} (hg : HR g) {v0 v1 v2 v3 v4 : Int} (hK0 : kd v0 = 6) (h1 : InR v1) (h2 : InR v2) (h3 : InR v3) (h4 : InR v4) : Go Φ pr_P fT 1 (fC_spawn g v0 v1 v2 v3 v4) d (pr_P 17) 0 (ev_loc (pr_P 17).1 [(sR v0), (sI v1), (sI v2), (sI v3), (sI v4)]) [] g 0 0 := by
  show Go Φ pr_P fT 1 (fC_spawn g v0 v1 v2 v3 v4) d pr_m17 0 [some (sR v0), some (sI v1), some (sI v2), some (sI v3), some (sI v4), none] [] g 0 0
  unfold fC_spawn
  refine go_aload k17_0 rfl ?_
  refine go_iload k17_1 rfl ?_
  refine go_callQ2 k17_2 rfl rfl rfl ⟨by decide, _, rfl, hK0⟩ ⟨by decide, by decide⟩ (by omega) (tfC_named (by omega) hg hK0  h1) (fun y1 r2 => ?_) (fun e5 E6 => ge_prop rfl ⟨by decide, by decide⟩ e5 rfl)
  refine go_astore k17_5 rfl (loc2 := [some (sR v0), some (sI v1), some (sI v2), some (sI v3), some (sI v4), some (sR y1)]) rfl ?_
  refine go_iload k17_7 rfl ?_
  refine go_int k17_8 9 rfl ?_
  refine go_callQ0 k17_10 rfl rfl rfl trivial ⟨by decide, by decide⟩ (by omega) (tfC_checkRange (by omega) hg  h2 (inR_of (by decide))) (fun y7 => ?_) (fun e11 E12 => ge_prop rfl ⟨by decide, by decide⟩ e11 rfl)
  refine go_iload k17_13 rfl ?_
  refine go_int k17_14 9 rfl ?_
  refine go_callQ0 k17_16 rfl rfl rfl trivial ⟨by decide, by decide⟩ (by omega) (tfC_checkRange (by omega) hg  h3 (inR_of (by decide))) (fun y13 => ?_) (fun e17 E18 => ge_prop rfl ⟨by decide, by decide⟩ e17 rfl)
  refine go_iload k17_19 rfl ?_
  refine go_int k17_21 9 rfl ?_
  refine go_callQ0 k17_23 rfl rfl rfl trivial ⟨by decide, by decide⟩ (by omega) (tfC_checkRange (by omega) hg  h4 (inR_of (by decide))) (fun y19 => ?_) (fun e23 E24 => ge_prop rfl ⟨by decide, by decide⟩ e23 rfl)
  refine go_aload k17_26 rfl ?_
  refine go_ck (fun q25 => ?_)
  refine go_callP1 k17_28 rfl rfl rfl ⟨by decide, _, rfl, q25⟩ ⟨by decide, by decide⟩ (by omega) (tfP_room (by omega) hg q25 ) (fun y26 r27 => ?_)
  refine go_ifgt k17_31 r27 (fun c30 => ?_) (fun c31 => ?_)
  · refine go_aload k17_34 rfl ?_
    refine go_getR (bI := 0) k17_35 hg hK0 (by decide) rfl rfl (fun r32 => ?_)
    refine go_ck (fun q33 => ?_)
    refine go_getI (bI := 5) k17_38 hg q33 (by decide) rfl rfl (fun r34 => ?_)
    refine go_int k17_41 40 rfl ?_
    refine go_cmlt k17_43 r34 (inR_of (by decide)) (fun c35 => ?_) (fun c36 => ?_)
    · refine go_int k17_46 1 rfl ?_
      refine go_goto k17_47 ?_
      exact tjC_spawn_51 hd hg hK0 h2 h3 h4 r2 (Or.inr rfl) (some (sI v1)) rfl
    · exact tjC_spawn_50 hd hg hK0 h2 h3 h4 r2 (some (sI v1)) rfl
  · exact tjC_spawn_50 hd hg hK0 h2 h3 h4 r2 (some (sI v1)) rfl
theorem tfW_spawn {Φ : ev_P} {d : Nat} (hd : 4 ≤ d) {g : gH} (hg : HR g) {v0 v1 v2 v3 v4 v5 : Int} (h0 : RfR v0) (h1 : InR v1) (h2 : InR v2) (h3 : InR v3) (h4 : InR v4) (h5 : RfR v5) : Go Φ pr_P fN 1 (fW_spawn g v0 v1 v2 v3 v4 v5) d (pr_P 313) 0 (ev_loc (pr_P 313).1 [(sR v0), (sI v1), (sI v2), (sI v3), (sI v4), (sR v5)]) [] g 0 0 := by
  show Go Φ pr_P fN 1 (fW_spawn g v0 v1 v2 v3 v4 v5) d pr_m313 0 [some (sR v0), some (sI v1), some (sI v2), some (sI v3), some (sI v4), some (sR v5), none] [] g 0 0
  unfold fW_spawn
  refine go_aload k313_0 rfl ?_
  refine go_int k313_2 0 rfl ?_
  refine go_aload k313_3 rfl ?_
  refine go_iload k313_4 rfl ?_
  refine go_iload k313_5 rfl ?_
  refine go_iload k313_6 rfl ?_
  refine go_iload k313_7 rfl ?_
  refine go_ck (fun q1 => ?_)
  refine go_callT1 k313_9 rfl rfl rfl ⟨by decide, _, rfl, q1⟩ ⟨by decide, by decide⟩ (by omega) (tfC_spawn (by omega) hg q1  h1 h2 h3 h4) (fun y2 g4 r3 e5 => ?_) (fun E7 g4 e6 => ?_)
  · refine go_i2l k313_12 r3 ?_
    refine go_ck (fun q8 => ?_)
    refine go_last k313_13 e5 q8 (inL_R r3) (fun g9 e10 => ?_)
    refine go_goto k313_14 ?_
    refine go_int k313_29 0 rfl ?_
    exact go_iret k313_30 e10 (inR_b (Or.inl rfl)) ⟨by decide, by decide⟩ rfl
  · refine ge_ite (fun hE9 => ?_) (fun _ => ?_)
    · subst hE9
      refine ge_catch rfl k313_17 rfl (loc2 := [some (sR v0), some (sI v1), some (sI v2), some (sI v3), some (sI v4), some (sR v5), none]) rfl ?_
      refine go_int k313_19 1 rfl ?_
      exact go_iret k313_20 e6 (inR_b (Or.inr rfl)) ⟨by decide, by decide⟩ rfl
    refine ge_ite (fun hE9 => ?_) (fun _ => ?_)
    · subst hE9
      refine ge_catch rfl k313_21 rfl (loc2 := [some (sR v0), some (sI v1), some (sI v2), some (sI v3), some (sI v4), some (sR v5), none]) rfl ?_
      refine go_int k313_23 2 rfl ?_
      exact go_iret k313_24 e6 (inR_of (by decide)) ⟨by decide, by decide⟩ rfl
    refine ge_ite (fun hE9 => ?_) (fun _ => ?_)
    · subst hE9
      refine ge_catch rfl k313_25 rfl (loc2 := [some (sR v0), some (sI v1), some (sI v2), some (sI v3), some (sI v4), some (sR v5), none]) rfl ?_
      refine go_int k313_27 3 rfl ?_
      exact go_iret k313_28 e6 (inR_of (by decide)) ⟨by decide, by decide⟩ rfl
    exact ge_none
theorem tfP_isMortal {Φ : ev_P} {d : Nat} (hd : 0 ≤ d) {g : gH} (hg : HR g) {v0 : Int} (hK0 : kd v0 = 3) : Go Φ pr_P (fP g) 3 (fP_isMortal g v0) d (pr_P 236) 0 (ev_loc (pr_P 236).1 [(sR v0)]) [] g 0 0 := by
  show Go Φ pr_P (fP g) 3 (fP_isMortal g v0) d pr_m236 0 [some (sR v0)] [] g 0 0
  unfold fP_isMortal
  refine go_aload k236_0 rfl ?_
  refine go_getI (bI := 1) k236_1 hg hK0 (by decide) rfl rfl (fun r1 => ?_)
  refine go_ifeq k236_4 r1 (fun c2 => ?_) (fun c3 => ?_)
  · refine go_aload k236_7 rfl ?_
    refine go_getR (bI := 2) k236_8 hg hK0 (by decide) rfl rfl (fun r4 => ?_)
    refine go_isnull k236_11  (fun c5 => ?_) (fun c6 => ?_)
    · refine go_int k236_18 0 rfl ?_
      exact go_bret k236_19 hg (Or.inl rfl) ⟨Nat.zero_le _, Nat.zero_le _⟩ rfl
    · refine go_int k236_14 1 rfl ?_
      refine go_goto k236_15 ?_
      exact go_bret k236_19 hg (Or.inr rfl) ⟨Nat.zero_le _, Nat.zero_le _⟩ rfl
  · refine go_int k236_18 0 rfl ?_
    exact go_bret k236_19 hg (Or.inl rfl) ⟨Nat.zero_le _, Nat.zero_le _⟩ rfl
theorem tfC_namedForExit {Φ : ev_P} {d : Nat} (hd : 2 ≤ d) {g : gH} (hg : HR g) {v0 v1 v2 : Int} (hK0 : kd v0 = 6) (h1 : InR v1) (h2 : InR v2) : Go Φ pr_P (fQ g) 2 (fC_namedForExit g v0 v1 v2) d (pr_P 69) 0 (ev_loc (pr_P 69).1 [(sR v0), (sI v1), (sI v2)]) [] g 0 0 := by
  show Go Φ pr_P (fQ g) 2 (fC_namedForExit g v0 v1 v2) d pr_m69 0 [some (sR v0), some (sI v1), some (sI v2), none] [] g 0 0
  unfold fC_namedForExit
  refine go_aload k69_0 rfl ?_
  refine go_iload k69_1 rfl ?_
  refine go_callQ2 k69_2 rfl rfl rfl ⟨by decide, _, rfl, hK0⟩ ⟨by decide, by decide⟩ (by omega) (tfC_named (by omega) hg hK0  h1) (fun y1 r2 => ?_) (fun e5 E6 => ge_prop rfl ⟨by decide, by decide⟩ e5 rfl)
  refine go_astore k69_5 rfl (loc2 := [some (sR v0), some (sI v1), some (sI v2), some (sR y1)]) rfl ?_
  refine go_iload k69_6 rfl ?_
  refine go_int k69_7 255 rfl ?_
  refine go_callQ0 k69_10 rfl rfl rfl trivial ⟨by decide, by decide⟩ (by omega) (tfC_checkRange (by omega) hg  h2 (inR_of (by decide))) (fun y7 => ?_) (fun e11 E12 => ge_prop rfl ⟨by decide, by decide⟩ e11 rfl)
  refine go_aload k69_13 rfl ?_
  refine go_ck (fun q13 => ?_)
  refine go_callP3 k69_14 rfl rfl rfl ⟨by decide, _, rfl, q13⟩ ⟨by decide, by decide⟩ (by omega) (tfP_isMortal (by omega) hg q13 ) (fun y14 r15 => ?_)
  refine go_callQ0 k69_17 rfl rfl rfl trivial ⟨by decide, by decide⟩ (by omega) (tfC_checkState (by omega) hg  r15) (fun y18 => ?_) (fun e22 E23 => ge_prop rfl ⟨by decide, by decide⟩ e22 rfl)
  refine go_aload k69_20 rfl ?_
  exact go_aret k69_21 hg r2 ⟨by decide, by decide⟩ rfl
theorem tfT_replace {Φ : ev_P} {d : Nat} (hd : 2 ≤ d) {g : gH} (hg : HR g) {v0 v1 v2 : Int} (hK0 : kd v0 = 5) (h1 : RfR v1) (h2 : RfR v2) : Go Φ pr_P fN 2 (fT_replace g v0 v1 v2) d (pr_P 288) 0 (ev_loc (pr_P 288).1 [(sR v0), (sR v1), (sR v2)]) [] g 0 0 := by
  show Go Φ pr_P fN 2 (fT_replace g v0 v1 v2) d pr_m288 0 [some (sR v0), some (sR v1), some (sR v2), none] [] g 0 0
  unfold fT_replace
  refine go_aload k288_0 rfl ?_
  refine go_ck (fun q1 => ?_)
  refine go_getB (bI := 13) k288_1 hg q1 (by decide) rfl rfl (fun r2 => ?_)
  refine go_ifeq k288_4 (inR_b r2) (fun c3 => ?_) (fun c4 => ?_)
  · refine go_aload k288_7 rfl ?_
    refine go_getI (bI := 6) k288_8 hg q1 (by decide) rfl rfl (fun r5 => ?_)
    refine go_ifgt k288_11 r5 (fun c6 => ?_) (fun c7 => ?_)
    · refine go_aload k288_16 rfl ?_
      refine go_aload k288_17 rfl ?_
      refine go_aload k288_18 rfl ?_
      refine go_ck (fun q8 => ?_)
      refine go_getI (bI := 4) k288_19 hg q8 (by decide) rfl rfl (fun r9 => ?_)
      refine go_aload k288_22 rfl ?_
      refine go_getI (bI := 5) k288_23 hg q8 (by decide) rfl rfl (fun r10 => ?_)
      refine go_aload k288_26 rfl ?_
      refine go_getI (bI := 6) k288_27 hg q8 (by decide) rfl rfl (fun r11 => ?_)
      refine go_callN2 k288_30 rfl rfl rfl ⟨by decide, _, rfl, hK0⟩ ⟨Nat.zero_le _, Nat.zero_le _⟩ (by omega) (tfT_arrive (by omega) hg hK0  h2 r9 r10 r11) (fun y12 g14 r13 e15 => ?_)
      refine go_astore k288_33 rfl (loc2 := [some (sR v0), some (sR v1), some (sR v2), some (sR y12)]) rfl ?_
      refine go_aload k288_34 rfl ?_
      refine go_isnull k288_35  (fun c16 => ?_) (fun c17 => ?_)
      · refine go_aload k288_66 rfl ?_
        exact go_aret k288_67 e15 r13 ⟨Nat.zero_le _, Nat.zero_le _⟩ rfl
      · refine go_aload k288_38 rfl ?_
        refine go_dupR k288_39 ?_
        refine go_getI (bI := 6) k288_40 e15 q1 (by decide) rfl rfl (fun r18 => ?_)
        refine go_int k288_43 1 rfl ?_
        refine go_isub k288_44 ?_
        refine go_putI (bI := 6) k288_45 e15 q1 (by decide) rfl rfl (inR_w32 _) (fun g19 e20 => ?_)
        refine go_aload k288_48 rfl ?_
        refine go_aload k288_49 rfl ?_
        refine go_ck (fun q21 => ?_)
        refine go_getI (bI := 0) k288_50 e20 q21 (by decide) rfl rfl (fun r22 => ?_)
        refine go_putI (bI := 12) k288_53 e20 q8 (by decide) rfl rfl r22 (fun g23 e24 => ?_)
        refine go_aload k288_56 rfl ?_
        refine go_dupR k288_57 ?_
        refine go_getI (bI := 9) k288_58 e24 hK0 (by decide) rfl rfl (fun r25 => ?_)
        refine go_int k288_61 1 rfl ?_
        refine go_iadd k288_62 ?_
        refine go_putI (bI := 9) k288_63 e24 hK0 (by decide) rfl rfl (inR_w32 _) (fun g26 e27 => ?_)
        refine go_aload k288_66 rfl ?_
        exact go_aret k288_67 e27 r13 ⟨Nat.zero_le _, Nat.zero_le _⟩ rfl
    · refine go_null k288_14 ?_
      exact go_aret k288_15 hg rfR_null ⟨Nat.zero_le _, Nat.zero_le _⟩ rfl
  · refine go_null k288_14 ?_
    exact go_aret k288_15 hg rfR_null ⟨Nat.zero_le _, Nat.zero_le _⟩ rfl
theorem tfP_canInherit {Φ : ev_P} {d : Nat} (hd : 0 ≤ d) {g : gH} (hg : HR g) {v0 : Int} (hK0 : kd v0 = 3) : Go Φ pr_P (fP g) 3 (fP_canInherit g v0) d (pr_P 240) 0 (ev_loc (pr_P 240).1 [(sR v0)]) [] g 0 0 := by
  show Go Φ pr_P (fP g) 3 (fP_canInherit g v0) d pr_m240 0 [some (sR v0)] [] g 0 0
  unfold fP_canInherit
  refine go_aload k240_0 rfl ?_
  refine go_getI (bI := 1) k240_1 hg hK0 (by decide) rfl rfl (fun r1 => ?_)
  refine go_ifeq k240_4 r1 (fun c2 => ?_) (fun c3 => ?_)
  · refine go_aload k240_7 rfl ?_
    refine go_getB (bI := 13) k240_8 hg hK0 (by decide) rfl rfl (fun r4 => ?_)
    refine go_ifeq k240_11 (inR_b r4) (fun c5 => ?_) (fun c6 => ?_)
    · refine go_int k240_14 1 rfl ?_
      refine go_goto k240_15 ?_
      exact go_bret k240_19 hg (Or.inr rfl) ⟨Nat.zero_le _, Nat.zero_le _⟩ rfl
    · refine go_int k240_18 0 rfl ?_
      exact go_bret k240_19 hg (Or.inl rfl) ⟨Nat.zero_le _, Nat.zero_le _⟩ rfl
  · refine go_int k240_18 0 rfl ?_
    exact go_bret k240_19 hg (Or.inl rfl) ⟨Nat.zero_le _, Nat.zero_le _⟩ rfl
theorem tjT_heirOf_73 {Φ : ev_P} {d : Nat} (hd : 1 ≤ d) {g : gH} (hg : HR g) {v0 v1 : Int} (hK0 : kd v0 = 5) (h1 : RfR v1) (u2 : Option ev_V) (w2 : nwo u2) (u3 : Option ev_V) (w3 : nwo u3) (u4 : Option ev_V) (w4 : nwo u4) (u5 : Option ev_V) (w5 : nwo u5) (u6 : Option ev_V) (w6 : nwo u6) : Go Φ pr_P (fP g) 2 (jT_heirOf_73 g v0 v1 ) d pr_m291 73 [some (sR v0), some (sR v1), u2, u3, u4, u5, u6] [] g 0 0 := by
  unfold jT_heirOf_73
  refine go_aload k291_73 rfl ?_
  refine go_ck (fun q39 => ?_)
  refine go_getR (bI := 2) k291_74 hg q39 (by decide) rfl rfl (fun r40 => ?_)
  refine go_isnull k291_77  (fun c41 => ?_) (fun c42 => ?_)
  · refine go_aload k291_80 rfl ?_
    refine go_getR (bI := 0) k291_81 hg hK0 (by decide) rfl rfl (fun r43 => ?_)
    refine go_goto k291_84 ?_
    exact go_aret k291_91 hg r43 ⟨Nat.zero_le _, Nat.zero_le _⟩ rfl
  · refine go_aload k291_87 rfl ?_
    refine go_getR (bI := 2) k291_88 hg q39 (by decide) rfl rfl (fun r44 => ?_)
    exact go_aret k291_91 hg r44 ⟨Nat.zero_le _, Nat.zero_le _⟩ rfl
theorem tbT_heirOf_34 {Φ : ev_P} {d : Nat} (hd : 1 ≤ d) {g : gH} (hg : HR g) {v0 v1 v3 v4 : Int} (hK0 : kd v0 = 5) (h1 : RfR v1) (h3 : RfR v3) (h4 : InR v4) {X34 : Int → Option Int} (HX34 : ∀ (v5 : Int) (h5 : InR v5) (u2 : Option ev_V) (w2 : nwo u2) (u6 : Option ev_V) (w6 : nwo u6), Go Φ pr_P (fP g) 2 (X34 v5) d pr_m291 34 [some (sR v0), some (sR v1), u2, some (sR v3), some (sI v4), some (sI v5), u6] [] g 0 0) : ∀ (v5 : Int) (h5 : InR v5) (u2 : Option ev_V) (w2 : nwo u2) (u6 : Option ev_V) (w6 : nwo u6), Go Φ pr_P (fP g) 2 (bT_heirOf_34 g v0 v1 v3 v4 X34 v5) d pr_m291 34 [some (sR v0), some (sR v1), u2, some (sR v3), some (sI v4), some (sI v5), u6] [] g 0 0 := by
  intro v5 h5 u2 w2 u6 w6
  unfold bT_heirOf_34
  refine go_iload k291_34 rfl ?_
  refine go_iload k291_36 rfl ?_
  refine go_cmlt k291_38 h5 h4 (fun c22 => ?_) (fun c23 => ?_)
  · refine go_aload k291_41 rfl ?_
    refine go_iload k291_42 rfl ?_
    refine go_ck (fun q25 => ?_)
    refine go_pald k291_44 hg q25 (fun r24 => ?_)
    refine go_astore k291_45 rfl (loc2 := [some (sR v0), some (sR v1), u2, some (sR v3), some (sI v4), some (sI v5), some (sR (g v3 v5))]) rfl ?_
    refine go_aload k291_47 rfl ?_
    refine go_aload k291_49 rfl ?_
    refine go_ck (fun q26 => ?_)
    refine go_callP3 k291_50 rfl rfl rfl ⟨by decide, _, rfl, q26⟩ ⟨Nat.zero_le _, Nat.zero_le _⟩ (by omega) (tfP_isRunningChildOf (by omega) hg q26  h1) (fun y27 r28 => ?_)
    refine go_ifeq k291_53 (inR_b r28) (fun c31 => ?_) (fun c32 => ?_)
    · refine go_iinc k291_67 rfl rfl 1 rfl (loc2 := [some (sR v0), some (sR v1), u2, some (sR v3), some (sI v4), some (sI (w32 (v5 + 1))), some (sR (g v3 v5))]) rfl ?_
      refine go_goto k291_70 ?_
      exact HX34 (w32 (v5 + 1)) (inR_w32 _) u2 w2 (some (sR (g v3 v5))) rfl
    · refine go_aload k291_56 rfl ?_
      refine go_callP3 k291_58 rfl rfl rfl ⟨by decide, _, rfl, q26⟩ ⟨Nat.zero_le _, Nat.zero_le _⟩ (by omega) (tfP_canInherit (by omega) hg q26 ) (fun y33 r34 => ?_)
      refine go_ifeq k291_61 (inR_b r34) (fun c37 => ?_) (fun c38 => ?_)
      · refine go_iinc k291_67 rfl rfl 1 rfl (loc2 := [some (sR v0), some (sR v1), u2, some (sR v3), some (sI v4), some (sI (w32 (v5 + 1))), some (sR (g v3 v5))]) rfl ?_
        refine go_goto k291_70 ?_
        exact HX34 (w32 (v5 + 1)) (inR_w32 _) u2 w2 (some (sR (g v3 v5))) rfl
      · refine go_aload k291_64 rfl ?_
        exact go_aret k291_66 hg r24 ⟨Nat.zero_le _, Nat.zero_le _⟩ rfl
  · exact tjT_heirOf_73 hd hg hK0 h1 u2 w2 (some (sR v3)) rfl (some (sI v4)) rfl (some (sI v5)) rfl u6 w6
theorem tlT_heirOf_34 {Φ : ev_P} {d : Nat} (hd : 1 ≤ d) {g : gH} (hg : HR g) {v0 v1 v3 v4 : Int} (hK0 : kd v0 = 5) (h1 : RfR v1) (h3 : RfR v3) (h4 : InR v4) : ∀ n : Nat, ∀ (v5 : Int) (h5 : InR v5) (u2 : Option ev_V) (w2 : nwo u2) (u6 : Option ev_V) (w6 : nwo u6), Go Φ pr_P (fP g) 2 (lT_heirOf_34 g v0 v1 v3 v4 n v5) d pr_m291 34 [some (sR v0), some (sR v1), u2, some (sR v3), some (sI v4), some (sI v5), u6] [] g 0 0 := by
  intro n
  induction n with
  | zero => intros; exact go_none
  | succ n ih => exact tbT_heirOf_34 hd hg hK0 h1 h3 h4 ih
theorem tfT_heirOf {Φ : ev_P} {d : Nat} (hd : 1 ≤ d) {g : gH} (hg : HR g) {v0 v1 : Int} (hK0 : kd v0 = 5) (h1 : RfR v1) : Go Φ pr_P (fP g) 2 (fT_heirOf g v0 v1) d (pr_P 291) 0 (ev_loc (pr_P 291).1 [(sR v0), (sR v1)]) [] g 0 0 := by
  show Go Φ pr_P (fP g) 2 (fT_heirOf g v0 v1) d pr_m291 0 [some (sR v0), some (sR v1), none, none, none, none, none] [] g 0 0
  unfold fT_heirOf
  refine go_aload k291_0 rfl ?_
  refine go_aload k291_1 rfl ?_
  refine go_ck (fun q1 => ?_)
  refine go_getI (bI := 7) k291_2 hg q1 (by decide) rfl rfl (fun r2 => ?_)
  refine go_callP2 k291_5 rfl rfl rfl ⟨by decide, _, rfl, hK0⟩ ⟨Nat.zero_le _, Nat.zero_le _⟩ (by omega) (tfT_at (by omega) hg hK0  r2) (fun y3 r4 => ?_)
  refine go_astore k291_8 rfl (loc2 := [some (sR v0), some (sR v1), some (sR y3), none, none, none, none]) rfl ?_
  refine go_aload k291_9 rfl ?_
  refine go_isnull k291_10  (fun c7 => ?_) (fun c8 => ?_)
  · refine go_aload k291_22 rfl ?_
    refine go_getR (bI := 1) k291_23 hg hK0 (by decide) rfl rfl (fun r9 => ?_)
    refine go_astore k291_26 rfl (loc2 := [some (sR v0), some (sR v1), some (sR y3), some (sR (g v0 1)), none, none, none]) rfl ?_
    refine go_aload k291_27 rfl ?_
    refine go_ck (fun q11 => ?_)
    refine go_alen k291_28 (ka_24 q11) (fun r10 => ?_)
    refine go_istore k291_29 rfl (loc2 := [some (sR v0), some (sR v1), some (sR y3), some (sR (g v0 1)), some (sI (sz (g v0 1))), none, none]) rfl ?_
    refine go_int k291_31 0 rfl ?_
    refine go_istore k291_32 rfl (loc2 := [some (sR v0), some (sR v1), some (sR y3), some (sR (g v0 1)), some (sI (sz (g v0 1))), some (sI 0), none]) rfl ?_
    exact tlT_heirOf_34 hd hg hK0 h1 r9 r10 fu 0 (inR_b (Or.inl rfl)) (some (sR y3)) rfl none rfl
  · refine go_aload k291_13 rfl ?_
    refine go_ck (fun q12 => ?_)
    refine go_callP3 k291_14 rfl rfl rfl ⟨by decide, _, rfl, q12⟩ ⟨Nat.zero_le _, Nat.zero_le _⟩ (by omega) (tfP_canInherit (by omega) hg q12 ) (fun y13 r14 => ?_)
    refine go_ifeq k291_17 (inR_b r14) (fun c17 => ?_) (fun c18 => ?_)
    · refine go_aload k291_22 rfl ?_
      refine go_getR (bI := 1) k291_23 hg hK0 (by decide) rfl rfl (fun r19 => ?_)
      refine go_astore k291_26 rfl (loc2 := [some (sR v0), some (sR v1), some (sR y3), some (sR (g v0 1)), none, none, none]) rfl ?_
      refine go_aload k291_27 rfl ?_
      refine go_ck (fun q21 => ?_)
      refine go_alen k291_28 (ka_24 q21) (fun r20 => ?_)
      refine go_istore k291_29 rfl (loc2 := [some (sR v0), some (sR v1), some (sR y3), some (sR (g v0 1)), some (sI (sz (g v0 1))), none, none]) rfl ?_
      refine go_int k291_31 0 rfl ?_
      refine go_istore k291_32 rfl (loc2 := [some (sR v0), some (sR v1), some (sR y3), some (sR (g v0 1)), some (sI (sz (g v0 1))), some (sI 0), none]) rfl ?_
      exact tlT_heirOf_34 hd hg hK0 h1 r19 r20 fu 0 (inR_b (Or.inl rfl)) (some (sR y3)) rfl none rfl
    · refine go_aload k291_20 rfl ?_
      exact go_aret k291_21 hg r4 ⟨Nat.zero_le _, Nat.zero_le _⟩ rfl
theorem tfT_inheritorOf {Φ : ev_P} {d : Nat} (hd : 2 ≤ d) {g : gH} (hg : HR g) {v0 v1 v2 : Int} (hK0 : kd v0 = 5) (h1 : RfR v1) (h2 : InR v2) : Go Φ pr_P (fP g) 2 (fT_inheritorOf g v0 v1 v2) d (pr_P 290) 0 (ev_loc (pr_P 290).1 [(sR v0), (sR v1), (sI v2)]) [] g 0 0 := by
  show Go Φ pr_P (fP g) 2 (fT_inheritorOf g v0 v1 v2) d pr_m290 0 [some (sR v0), some (sR v1), some (sI v2), none] [] g 0 0
  unfold fT_inheritorOf
  refine go_aload k290_0 rfl ?_
  refine go_aload k290_1 rfl ?_
  refine go_iload k290_2 rfl ?_
  refine go_ck (fun q1 => ?_)
  refine go_callP1 k290_3 rfl rfl rfl ⟨by decide, _, rfl, q1⟩ ⟨Nat.zero_le _, Nat.zero_le _⟩ (by omega) (tfP_willFor (by omega) hg q1  h2) (fun y2 r3 => ?_)
  refine go_callP2 k290_6 rfl rfl rfl ⟨by decide, _, rfl, hK0⟩ ⟨Nat.zero_le _, Nat.zero_le _⟩ (by omega) (tfT_at (by omega) hg hK0  r3) (fun y6 r7 => ?_)
  refine go_astore k290_9 rfl (loc2 := [some (sR v0), some (sR v1), some (sI v2), some (sR y6)]) rfl ?_
  refine go_aload k290_10 rfl ?_
  refine go_isnull k290_11  (fun c10 => ?_) (fun c11 => ?_)
  · refine go_aload k290_25 rfl ?_
    refine go_aload k290_26 rfl ?_
    refine go_callP2 k290_27 rfl rfl rfl ⟨by decide, _, rfl, hK0⟩ ⟨Nat.zero_le _, Nat.zero_le _⟩ (by omega) (tfT_heirOf (by omega) hg hK0  h1) (fun y12 r13 => ?_)
    exact go_aret k290_30 hg r13 ⟨Nat.zero_le _, Nat.zero_le _⟩ rfl
  · refine go_aload k290_14 rfl ?_
    refine go_ck (fun q16 => ?_)
    refine go_callP3 k290_15 rfl rfl rfl ⟨by decide, _, rfl, q16⟩ ⟨Nat.zero_le _, Nat.zero_le _⟩ (by omega) (tfP_canInherit (by omega) hg q16 ) (fun y17 r18 => ?_)
    refine go_ifeq k290_18 (inR_b r18) (fun c21 => ?_) (fun c22 => ?_)
    · refine go_aload k290_25 rfl ?_
      refine go_aload k290_26 rfl ?_
      refine go_callP2 k290_27 rfl rfl rfl ⟨by decide, _, rfl, hK0⟩ ⟨Nat.zero_le _, Nat.zero_le _⟩ (by omega) (tfT_heirOf (by omega) hg hK0  h1) (fun y23 r24 => ?_)
      exact go_aret k290_30 hg r24 ⟨Nat.zero_le _, Nat.zero_le _⟩ rfl
    · refine go_aload k290_21 rfl ?_
      refine go_goto k290_22 ?_
      exact go_aret k290_30 hg r7 ⟨Nat.zero_le _, Nat.zero_le _⟩ rfl
theorem tbT_passDuties_2 {Φ : ev_P} {d : Nat} (hd : 3 ≤ d) {v0 v1 v2 : Int} (hK0 : kd v0 = 5) (h1 : RfR v1) (h2 : RfR v2) {X2 : Int → gH → Option (Int × gH)} (HX2 : ∀ (v3 : Int) (h3 : InR v3) (g : gH) (hg : HR g) (u4 : Option ev_V) (w4 : nwo u4), Go Φ pr_P fN 0 (X2 v3 g) d pr_m289 2 [some (sR v0), some (sR v1), some (sR v2), some (sI v3), u4] [] g 0 0) : ∀ (v3 : Int) (h3 : InR v3) (g : gH) (hg : HR g) (u4 : Option ev_V) (w4 : nwo u4), Go Φ pr_P fN 0 (bT_passDuties_2 v0 v1 v2 X2 v3 g) d pr_m289 2 [some (sR v0), some (sR v1), some (sR v2), some (sI v3), u4] [] g 0 0 := by
  intro v3 h3 g hg u4 w4
  unfold bT_passDuties_2
  refine go_iload k289_2 rfl ?_
  refine go_int k289_3 8 rfl ?_
  refine go_cmlt k289_5 h3 (inR_of (by decide)) (fun c1 => ?_) (fun c2 => ?_)
  · refine go_aload k289_8 rfl ?_
    refine go_getR (bI := 2) k289_9 hg hK0 (by decide) rfl rfl (fun r3 => ?_)
    refine go_iload k289_12 rfl ?_
    refine go_ck (fun q5 => ?_)
    refine go_iald k289_13 hg q5 (fun r4 => ?_)
    refine go_aload k289_14 rfl ?_
    refine go_ck (fun q6 => ?_)
    refine go_getI (bI := 0) k289_15 hg q6 (by decide) rfl rfl (fun r7 => ?_)
    refine go_cmeq k289_18 r4 r7 (fun c8 => ?_) (fun c9 => ?_)
    · refine go_aload k289_21 rfl ?_
      refine go_isnull k289_22  (fun c10 => ?_) (fun c11 => ?_)
      · refine go_aload k289_29 rfl ?_
        refine go_aload k289_30 rfl ?_
        refine go_iload k289_31 rfl ?_
        refine go_callP2 k289_32 rfl rfl rfl ⟨by decide, _, rfl, hK0⟩ ⟨Nat.zero_le _, Nat.zero_le _⟩ (by omega) (tfT_inheritorOf (by omega) hg hK0  h1 h3) (fun y12 r13 => ?_)
        refine go_astore k289_35 rfl (loc2 := [some (sR v0), some (sR v1), some (sR v2), some (sI v3), some (sR y12)]) rfl ?_
        refine go_aload k289_37 rfl ?_
        refine go_getR (bI := 2) k289_38 hg hK0 (by decide) rfl rfl (fun r16 => ?_)
        refine go_iload k289_41 rfl ?_
        refine go_aload k289_42 rfl ?_
        refine go_ck (fun q17 => ?_)
        refine go_getI (bI := 0) k289_44 hg q17 (by decide) rfl rfl (fun r18 => ?_)
        refine go_ck (fun q19 => ?_)
        refine go_iast k289_47 hg q19 r18 (fun g20 e21 => ?_)
        refine go_iinc k289_48 rfl rfl 1 rfl (loc2 := [some (sR v0), some (sR v1), some (sR v2), some (sI (w32 (v3 + 1))), some (sR y12)]) rfl ?_
        refine go_goto k289_51 ?_
        exact HX2 (w32 (v3 + 1)) (inR_w32 _) g20 e21 (some (sR y12)) rfl
      · refine go_aload k289_25 rfl ?_
        refine go_goto k289_26 ?_
        refine go_astore k289_35 rfl (loc2 := [some (sR v0), some (sR v1), some (sR v2), some (sI v3), some (sR v2)]) rfl ?_
        refine go_aload k289_37 rfl ?_
        refine go_getR (bI := 2) k289_38 hg hK0 (by decide) rfl rfl (fun r22 => ?_)
        refine go_iload k289_41 rfl ?_
        refine go_aload k289_42 rfl ?_
        refine go_ck (fun q23 => ?_)
        refine go_getI (bI := 0) k289_44 hg q23 (by decide) rfl rfl (fun r24 => ?_)
        refine go_ck (fun q25 => ?_)
        refine go_iast k289_47 hg q25 r24 (fun g26 e27 => ?_)
        refine go_iinc k289_48 rfl rfl 1 rfl (loc2 := [some (sR v0), some (sR v1), some (sR v2), some (sI (w32 (v3 + 1))), some (sR v2)]) rfl ?_
        refine go_goto k289_51 ?_
        exact HX2 (w32 (v3 + 1)) (inR_w32 _) g26 e27 (some (sR v2)) rfl
    · refine go_iinc k289_48 rfl rfl 1 rfl (loc2 := [some (sR v0), some (sR v1), some (sR v2), some (sI (w32 (v3 + 1))), u4]) rfl ?_
      refine go_goto k289_51 ?_
      exact HX2 (w32 (v3 + 1)) (inR_w32 _) g hg u4 w4
  · exact go_vret k289_54 hg ⟨Nat.zero_le _, Nat.zero_le _⟩ rfl
theorem tlT_passDuties_2 {Φ : ev_P} {d : Nat} (hd : 3 ≤ d) {v0 v1 v2 : Int} (hK0 : kd v0 = 5) (h1 : RfR v1) (h2 : RfR v2) : ∀ n : Nat, ∀ (v3 : Int) (h3 : InR v3) (g : gH) (hg : HR g) (u4 : Option ev_V) (w4 : nwo u4), Go Φ pr_P fN 0 (lT_passDuties_2 v0 v1 v2 n v3 g) d pr_m289 2 [some (sR v0), some (sR v1), some (sR v2), some (sI v3), u4] [] g 0 0 := by
  intro n
  induction n with
  | zero => intros; exact go_none
  | succ n ih => exact tbT_passDuties_2 hd hK0 h1 h2 ih
theorem tfT_passDuties {Φ : ev_P} {d : Nat} (hd : 3 ≤ d) {g : gH} (hg : HR g) {v0 v1 v2 : Int} (hK0 : kd v0 = 5) (h1 : RfR v1) (h2 : RfR v2) : Go Φ pr_P fN 0 (fT_passDuties g v0 v1 v2) d (pr_P 289) 0 (ev_loc (pr_P 289).1 [(sR v0), (sR v1), (sR v2)]) [] g 0 0 := by
  show Go Φ pr_P fN 0 (fT_passDuties g v0 v1 v2) d pr_m289 0 [some (sR v0), some (sR v1), some (sR v2), none, none] [] g 0 0
  unfold fT_passDuties
  refine go_int k289_0 0 rfl ?_
  refine go_istore k289_1 rfl (loc2 := [some (sR v0), some (sR v1), some (sR v2), some (sI 0), none]) rfl ?_
  exact tlT_passDuties_2 hd hK0 h1 h2 fu 0 (inR_b (Or.inl rfl)) g hg none rfl
theorem tfT_adopt {Φ : ev_P} {d : Nat} (hd : 1 ≤ d) {g : gH} (hg : HR g) {v0 v1 v2 : Int} (hK0 : kd v0 = 5) (h1 : RfR v1) (h2 : RfR v2) : Go Φ pr_P fN 0 (fT_adopt g v0 v1 v2) d (pr_P 292) 0 (ev_loc (pr_P 292).1 [(sR v0), (sR v1), (sR v2)]) [] g 0 0 := by
  show Go Φ pr_P fN 0 (fT_adopt g v0 v1 v2) d pr_m292 0 [some (sR v0), some (sR v1), some (sR v2)] [] g 0 0
  unfold fT_adopt
  refine go_aload k292_0 rfl ?_
  refine go_aload k292_1 rfl ?_
  refine go_ck (fun q1 => ?_)
  refine go_callN0 k292_2 rfl rfl rfl ⟨by decide, _, rfl, q1⟩ ⟨Nat.zero_le _, Nat.zero_le _⟩ (by omega) (tfP_putUnder (by omega) hg q1  h2) (fun y2 g4 e5 => ?_)
  refine go_aload k292_5 rfl ?_
  refine go_dupR k292_6 ?_
  refine go_getI (bI := 11) k292_7 e5 q1 (by decide) rfl rfl (fun r6 => ?_)
  refine go_int k292_10 1 rfl ?_
  refine go_iadd k292_11 ?_
  refine go_putI (bI := 11) k292_12 e5 q1 (by decide) rfl rfl (inR_w32 _) (fun g7 e8 => ?_)
  refine go_aload k292_15 rfl ?_
  refine go_dupR k292_16 ?_
  refine go_getI (bI := 7) k292_17 e8 hK0 (by decide) rfl rfl (fun r9 => ?_)
  refine go_int k292_20 1 rfl ?_
  refine go_iadd k292_21 ?_
  refine go_putI (bI := 7) k292_22 e8 hK0 (by decide) rfl rfl (inR_w32 _) (fun g10 e11 => ?_)
  refine go_aload k292_25 rfl ?_
  refine go_aload k292_26 rfl ?_
  refine go_getR (bI := 0) k292_27 e11 hK0 (by decide) rfl rfl (fun r12 => ?_)
  refine go_acmp k292_30 h2 r12 (fun c13 => ?_) (fun c14 => ?_)
  · refine go_aload k292_33 rfl ?_
    refine go_dupR k292_34 ?_
    refine go_getI (bI := 8) k292_35 e11 hK0 (by decide) rfl rfl (fun r15 => ?_)
    refine go_int k292_38 1 rfl ?_
    refine go_iadd k292_39 ?_
    refine go_putI (bI := 8) k292_40 e11 hK0 (by decide) rfl rfl (inR_w32 _) (fun g16 e17 => ?_)
    exact go_vret k292_43 e17 ⟨Nat.zero_le _, Nat.zero_le _⟩ rfl
  · exact go_vret k292_43 e11 ⟨Nat.zero_le _, Nat.zero_le _⟩ rfl
theorem tfT_canAdopt {Φ : ev_P} {d : Nat} (hd : 1 ≤ d) {g : gH} (hg : HR g) {v0 v1 v2 : Int} (hK0 : kd v0 = 5) (h1 : RfR v1) (h2 : RfR v2) : Go Φ pr_P (fP g) 3 (fT_canAdopt g v0 v1 v2) d (pr_P 298) 0 (ev_loc (pr_P 298).1 [(sR v0), (sR v1), (sR v2)]) [] g 0 0 := by
  show Go Φ pr_P (fP g) 3 (fT_canAdopt g v0 v1 v2) d pr_m298 0 [some (sR v0), some (sR v1), some (sR v2)] [] g 0 0
  unfold fT_canAdopt
  refine go_aload k298_0 rfl ?_
  refine go_ck (fun q1 => ?_)
  refine go_callP3 k298_1 rfl rfl rfl ⟨by decide, _, rfl, q1⟩ ⟨Nat.zero_le _, Nat.zero_le _⟩ (by omega) (tfP_isMortal (by omega) hg q1 ) (fun y2 r3 => ?_)
  refine go_ifeq k298_4 (inR_b r3) (fun c6 => ?_) (fun c7 => ?_)
  · refine go_int k298_37 0 rfl ?_
    exact go_bret k298_38 hg (Or.inl rfl) ⟨Nat.zero_le _, Nat.zero_le _⟩ rfl
  · refine go_aload k298_7 rfl ?_
    refine go_getB (bI := 13) k298_8 hg q1 (by decide) rfl rfl (fun r8 => ?_)
    refine go_ifeq k298_11 (inR_b r8) (fun c9 => ?_) (fun c10 => ?_)
    · refine go_aload k298_14 rfl ?_
      refine go_aload k298_15 rfl ?_
      refine go_acmp k298_16 h1 h2 (fun c11 => ?_) (fun c12 => ?_)
      · refine go_int k298_37 0 rfl ?_
        exact go_bret k298_38 hg (Or.inl rfl) ⟨Nat.zero_le _, Nat.zero_le _⟩ rfl
      · refine go_aload k298_19 rfl ?_
        refine go_aload k298_20 rfl ?_
        refine go_ck (fun q13 => ?_)
        refine go_getI (bI := 5) k298_21 hg q13 (by decide) rfl rfl (fun r14 => ?_)
        refine go_callP3 k298_24 rfl rfl rfl ⟨by decide, _, rfl, q1⟩ ⟨Nat.zero_le _, Nat.zero_le _⟩ (by omega) (tfP_refuses (by omega) hg q1  r14) (fun y15 r16 => ?_)
        refine go_ifeq k298_27 (inR_b r16) (fun c19 => ?_) (fun c20 => ?_)
        · refine go_aload k298_30 rfl ?_
          refine go_callP1 k298_31 rfl rfl rfl ⟨by decide, _, rfl, q1⟩ ⟨Nat.zero_le _, Nat.zero_le _⟩ (by omega) (tfP_room (by omega) hg q1 ) (fun y21 r22 => ?_)
          refine go_ifeq k298_34 r22 (fun c25 => ?_) (fun c26 => ?_)
          · refine go_int k298_37 0 rfl ?_
            exact go_bret k298_38 hg (Or.inl rfl) ⟨Nat.zero_le _, Nat.zero_le _⟩ rfl
          · refine go_aload k298_39 rfl ?_
            refine go_callP1 k298_40 rfl rfl rfl ⟨by decide, _, rfl, q1⟩ ⟨Nat.zero_le _, Nat.zero_le _⟩ (by omega) (tfP_countAbove (by omega) hg q1 ) (fun y27 r28 => ?_)
            refine go_aload k298_43 rfl ?_
            refine go_getI (bI := 4) k298_44 hg hK0 (by decide) rfl rfl (fun r31 => ?_)
            refine go_cmlt k298_47 r28 r31 (fun c32 => ?_) (fun c33 => ?_)
            · refine go_aload k298_50 rfl ?_
              refine go_aload k298_51 rfl ?_
              refine go_callP3 k298_52 rfl rfl rfl ⟨by decide, _, rfl, q13⟩ ⟨Nat.zero_le _, Nat.zero_le _⟩ (by omega) (tfP_isOver (by omega) hg q13  h1) (fun y34 r35 => ?_)
              refine go_ifeq k298_55 (inR_b r35) (fun c38 => ?_) (fun c39 => ?_)
              · refine go_int k298_58 1 rfl ?_
                refine go_goto k298_59 ?_
                exact go_bret k298_63 hg (Or.inr rfl) ⟨Nat.zero_le _, Nat.zero_le _⟩ rfl
              · refine go_int k298_62 0 rfl ?_
                exact go_bret k298_63 hg (Or.inl rfl) ⟨Nat.zero_le _, Nat.zero_le _⟩ rfl
            · refine go_int k298_62 0 rfl ?_
              exact go_bret k298_63 hg (Or.inl rfl) ⟨Nat.zero_le _, Nat.zero_le _⟩ rfl
        · refine go_int k298_37 0 rfl ?_
          exact go_bret k298_38 hg (Or.inl rfl) ⟨Nat.zero_le _, Nat.zero_le _⟩ rfl
    · refine go_int k298_37 0 rfl ?_
      exact go_bret k298_38 hg (Or.inl rfl) ⟨Nat.zero_le _, Nat.zero_le _⟩ rfl
theorem tbT_nearest_5 {Φ : ev_P} {d : Nat} (hd : 2 ≤ d) {g : gH} (hg : HR g) {v0 v1 : Int} (hK0 : kd v0 = 5) (h1 : RfR v1) {X5 : Int → Option Int} (HX5 : ∀ (v3 : Int) (h3 : RfR v3) (u2 : Option ev_V) (w2 : nwo u2), Go Φ pr_P (fP g) 2 (X5 v3) d pr_m294 5 [some (sR v0), some (sR v1), u2, some (sR v3)] [] g 0 0) : ∀ (v3 : Int) (h3 : RfR v3) (u2 : Option ev_V) (w2 : nwo u2), Go Φ pr_P (fP g) 2 (bT_nearest_5 g v0 v1 X5 v3) d pr_m294 5 [some (sR v0), some (sR v1), u2, some (sR v3)] [] g 0 0 := by
  intro v3 h3 u2 w2
  unfold bT_nearest_5
  refine go_aload k294_5 rfl ?_
  refine go_isnull k294_6  (fun c3 => ?_) (fun c4 => ?_)
  · refine go_null k294_28 ?_
    exact go_aret k294_29 hg rfR_null ⟨Nat.zero_le _, Nat.zero_le _⟩ rfl
  · refine go_aload k294_9 rfl ?_
    refine go_aload k294_10 rfl ?_
    refine go_aload k294_11 rfl ?_
    refine go_callP3 k294_12 rfl rfl rfl ⟨by decide, _, rfl, hK0⟩ ⟨Nat.zero_le _, Nat.zero_le _⟩ (by omega) (tfT_canAdopt (by omega) hg hK0  h3 h1) (fun y5 r6 => ?_)
    refine go_ifeq k294_15 (inR_b r6) (fun c9 => ?_) (fun c10 => ?_)
    · refine go_aload k294_20 rfl ?_
      refine go_ck (fun q11 => ?_)
      refine go_getR (bI := 2) k294_21 hg q11 (by decide) rfl rfl (fun r12 => ?_)
      refine go_astore k294_24 w2 (loc2 := [some (sR v0), some (sR v1), u2, some (sR (g v3 2))]) rfl ?_
      refine go_goto k294_25 ?_
      exact HX5 (g v3 2) r12 u2 w2
    · refine go_aload k294_18 rfl ?_
      exact go_aret k294_19 hg h3 ⟨Nat.zero_le _, Nat.zero_le _⟩ rfl
theorem tlT_nearest_5 {Φ : ev_P} {d : Nat} (hd : 2 ≤ d) {g : gH} (hg : HR g) {v0 v1 : Int} (hK0 : kd v0 = 5) (h1 : RfR v1) : ∀ n : Nat, ∀ (v3 : Int) (h3 : RfR v3) (u2 : Option ev_V) (w2 : nwo u2), Go Φ pr_P (fP g) 2 (lT_nearest_5 g v0 v1 n v3) d pr_m294 5 [some (sR v0), some (sR v1), u2, some (sR v3)] [] g 0 0 := by
  intro n
  induction n with
  | zero => intros; exact go_none
  | succ n ih => exact tbT_nearest_5 hd hg hK0 h1 ih
theorem tfT_nearest {Φ : ev_P} {d : Nat} (hd : 2 ≤ d) {g : gH} (hg : HR g) {v0 v1 v2 : Int} (hK0 : kd v0 = 5) (h1 : RfR v1) (h2 : RfR v2) : Go Φ pr_P (fP g) 2 (fT_nearest g v0 v1 v2) d (pr_P 294) 0 (ev_loc (pr_P 294).1 [(sR v0), (sR v1), (sR v2)]) [] g 0 0 := by
  show Go Φ pr_P (fP g) 2 (fT_nearest g v0 v1 v2) d pr_m294 0 [some (sR v0), some (sR v1), some (sR v2), none] [] g 0 0
  unfold fT_nearest
  refine go_aload k294_0 rfl ?_
  refine go_ck (fun q1 => ?_)
  refine go_getR (bI := 2) k294_1 hg q1 (by decide) rfl rfl (fun r2 => ?_)
  refine go_astore k294_4 rfl (loc2 := [some (sR v0), some (sR v1), some (sR v2), some (sR (g v2 2))]) rfl ?_
  exact tlT_nearest_5 hd hg hK0 h1 fu (g v2 2) r2 (some (sR v2)) rfl
theorem tjT_roomiestFor_83 {Φ : ev_P} {d : Nat} (hd : 2 ≤ d) {X17 : Int → Int → Option Int} {g : gH} (hg : HR g) {v0 v1 v2 v3 v4 v5 v6 v7 v8 v9 : Int} (hK0 : kd v0 = 5) (h1 : RfR v1) (h2 : RfR v2) (h3 : B01 v3) (h4 : RfR v4) (h5 : RfR v5) (h6 : InR v6) (h7 : InR v7) (h8 : RfR v8) (h9 : B01 v9) {s0 : Int} (z0 : B01 s0) (HX17 : ∀ (v4 : Int) (h4 : RfR v4) (v7 : Int) (h7 : InR v7) (u8 : Option ev_V) (w8 : nwo u8) (u9 : Option ev_V) (w9 : nwo u9) (u10 : Option ev_V) (w10 : nwo u10), Go Φ pr_P (fP g) 2 (X17 v4 v7) d pr_m295 17 [some (sR v0), some (sR v1), some (sR v2), some (sI v3), some (sR v4), some (sR v5), some (sI v6), some (sI v7), u8, u9, u10] [] g 0 0) (u10 : Option ev_V) (w10 : nwo u10) : Go Φ pr_P (fP g) 2 (jT_roomiestFor_83 X17 g v0 v1 v2 v3 v4 v5 v6 v7 v8 v9 s0 ) d pr_m295 83 [some (sR v0), some (sR v1), some (sR v2), some (sI v3), some (sR v4), some (sR v5), some (sI v6), some (sI v7), some (sR v8), some (sI v9), u10] [(sI s0)] g 0 0 := by
  unfold jT_roomiestFor_83
  refine go_istore k295_83 rfl (loc2 := [some (sR v0), some (sR v1), some (sR v2), some (sI v3), some (sR v4), some (sR v5), some (sI v6), some (sI v7), some (sR v8), some (sI v9), some (sI s0)]) rfl ?_
  refine go_iload k295_85 rfl ?_
  refine go_ifeq k295_87 (inR_b h9) (fun c32 => ?_) (fun c33 => ?_)
  · refine go_iinc k295_109 rfl rfl 1 rfl (loc2 := [some (sR v0), some (sR v1), some (sR v2), some (sI v3), some (sR v4), some (sR v5), some (sI v6), some (sI (w32 (v7 + 1))), some (sR v8), some (sI v9), some (sI s0)]) rfl ?_
    refine go_goto k295_112 ?_
    exact HX17 v4 h4 (w32 (v7 + 1)) (inR_w32 _) (some (sR v8)) rfl (some (sI v9)) rfl (some (sI s0)) rfl
  · refine go_iload k295_90 rfl ?_
    refine go_ifeq k295_92 (inR_b z0) (fun c34 => ?_) (fun c35 => ?_)
    · refine go_iinc k295_109 rfl rfl 1 rfl (loc2 := [some (sR v0), some (sR v1), some (sR v2), some (sI v3), some (sR v4), some (sR v5), some (sI v6), some (sI (w32 (v7 + 1))), some (sR v8), some (sI v9), some (sI s0)]) rfl ?_
      refine go_goto k295_112 ?_
      exact HX17 v4 h4 (w32 (v7 + 1)) (inR_w32 _) (some (sR v8)) rfl (some (sI v9)) rfl (some (sI s0)) rfl
    · refine go_aload k295_95 rfl ?_
      refine go_aload k295_96 rfl ?_
      refine go_aload k295_98 rfl ?_
      refine go_callP3 k295_99 rfl rfl rfl ⟨by decide, _, rfl, hK0⟩ ⟨Nat.zero_le _, Nat.zero_le _⟩ (by omega) (tfT_canAdopt (by omega) hg hK0  h8 h1) (fun y36 r37 => ?_)
      refine go_ifeq k295_102 (inR_b r37) (fun c40 => ?_) (fun c41 => ?_)
      · refine go_iinc k295_109 rfl rfl 1 rfl (loc2 := [some (sR v0), some (sR v1), some (sR v2), some (sI v3), some (sR v4), some (sR v5), some (sI v6), some (sI (w32 (v7 + 1))), some (sR v8), some (sI v9), some (sI s0)]) rfl ?_
        refine go_goto k295_112 ?_
        exact HX17 v4 h4 (w32 (v7 + 1)) (inR_w32 _) (some (sR v8)) rfl (some (sI v9)) rfl (some (sI s0)) rfl
      · refine go_aload k295_105 rfl ?_
        refine go_astore k295_107 rfl (loc2 := [some (sR v0), some (sR v1), some (sR v2), some (sI v3), some (sR v8), some (sR v5), some (sI v6), some (sI v7), some (sR v8), some (sI v9), some (sI s0)]) rfl ?_
        refine go_iinc k295_109 rfl rfl 1 rfl (loc2 := [some (sR v0), some (sR v1), some (sR v2), some (sI v3), some (sR v8), some (sR v5), some (sI v6), some (sI (w32 (v7 + 1))), some (sR v8), some (sI v9), some (sI s0)]) rfl ?_
        refine go_goto k295_112 ?_
        exact HX17 v8 h8 (w32 (v7 + 1)) (inR_w32 _) (some (sR v8)) rfl (some (sI v9)) rfl (some (sI s0)) rfl
theorem tjT_roomiestFor_78 {Φ : ev_P} {d : Nat} (hd : 2 ≤ d) {X17 : Int → Int → Option Int} {g : gH} (hg : HR g) {v0 v1 v2 v3 v4 v5 v6 v7 v8 v9 : Int} (hK0 : kd v0 = 5) (h1 : RfR v1) (h2 : RfR v2) (h3 : B01 v3) (h4 : RfR v4) (h5 : RfR v5) (h6 : InR v6) (h7 : InR v7) (h8 : RfR v8) (h9 : B01 v9) (HX17 : ∀ (v4 : Int) (h4 : RfR v4) (v7 : Int) (h7 : InR v7) (u8 : Option ev_V) (w8 : nwo u8) (u9 : Option ev_V) (w9 : nwo u9) (u10 : Option ev_V) (w10 : nwo u10), Go Φ pr_P (fP g) 2 (X17 v4 v7) d pr_m295 17 [some (sR v0), some (sR v1), some (sR v2), some (sI v3), some (sR v4), some (sR v5), some (sI v6), some (sI v7), u8, u9, u10] [] g 0 0) (u10 : Option ev_V) (w10 : nwo u10) : Go Φ pr_P (fP g) 2 (jT_roomiestFor_78 X17 g v0 v1 v2 v3 v4 v5 v6 v7 v8 v9 ) d pr_m295 78 [some (sR v0), some (sR v1), some (sR v2), some (sI v3), some (sR v4), some (sR v5), some (sI v6), some (sI v7), some (sR v8), some (sI v9), u10] [] g 0 0 := by
  unfold jT_roomiestFor_78
  refine go_int k295_78 1 rfl ?_
  refine go_goto k295_79 ?_
  exact tjT_roomiestFor_83 hd hg hK0 h1 h2 h3 h4 h5 h6 h7 h8 h9 (Or.inr rfl) HX17 u10 w10
theorem tjT_roomiestFor_58 {Φ : ev_P} {d : Nat} (hd : 2 ≤ d) {X17 : Int → Int → Option Int} {g : gH} (hg : HR g) {v0 v1 v2 v3 v4 v5 v6 v7 v8 : Int} (hK0 : kd v0 = 5) (h1 : RfR v1) (h2 : RfR v2) (h3 : B01 v3) (h4 : RfR v4) (h5 : RfR v5) (h6 : InR v6) (h7 : InR v7) (h8 : RfR v8) {s0 : Int} (z0 : B01 s0) (HX17 : ∀ (v4 : Int) (h4 : RfR v4) (v7 : Int) (h7 : InR v7) (u8 : Option ev_V) (w8 : nwo u8) (u9 : Option ev_V) (w9 : nwo u9) (u10 : Option ev_V) (w10 : nwo u10), Go Φ pr_P (fP g) 2 (X17 v4 v7) d pr_m295 17 [some (sR v0), some (sR v1), some (sR v2), some (sI v3), some (sR v4), some (sR v5), some (sI v6), some (sI v7), u8, u9, u10] [] g 0 0) (u9 : Option ev_V) (w9 : nwo u9) (u10 : Option ev_V) (w10 : nwo u10) : Go Φ pr_P (fP g) 2 (jT_roomiestFor_58 X17 g v0 v1 v2 v3 v4 v5 v6 v7 v8 s0 ) d pr_m295 58 [some (sR v0), some (sR v1), some (sR v2), some (sI v3), some (sR v4), some (sR v5), some (sI v6), some (sI v7), some (sR v8), u9, u10] [(sI s0)] g 0 0 := by
  unfold jT_roomiestFor_58
  refine go_istore k295_58 rfl (loc2 := [some (sR v0), some (sR v1), some (sR v2), some (sI v3), some (sR v4), some (sR v5), some (sI v6), some (sI v7), some (sR v8), some (sI s0), u10]) rfl ?_
  refine go_aload k295_60 rfl ?_
  refine go_isnull k295_62  (fun c18 => ?_) (fun c19 => ?_)
  · exact tjT_roomiestFor_78 hd hg hK0 h1 h2 h3 h4 h5 h6 h7 h8 z0 HX17 u10 w10
  · refine go_aload k295_65 rfl ?_
    refine go_ck (fun q20 => ?_)
    refine go_callP1 k295_67 rfl rfl rfl ⟨by decide, _, rfl, q20⟩ ⟨Nat.zero_le _, Nat.zero_le _⟩ (by omega) (tfP_room (by omega) hg q20 ) (fun y21 r22 => ?_)
    refine go_aload k295_70 rfl ?_
    refine go_ck (fun q25 => ?_)
    refine go_callP1 k295_72 rfl rfl rfl ⟨by decide, _, rfl, q25⟩ ⟨Nat.zero_le _, Nat.zero_le _⟩ (by omega) (tfP_room (by omega) hg q25 ) (fun y26 r27 => ?_)
    refine go_cmgt k295_75 r22 r27 (fun c30 => ?_) (fun c31 => ?_)
    · exact tjT_roomiestFor_78 hd hg hK0 h1 h2 h3 h4 h5 h6 h7 h8 z0 HX17 u10 w10
    · refine go_int k295_82 0 rfl ?_
      exact tjT_roomiestFor_83 hd hg hK0 h1 h2 h3 h4 h5 h6 h7 h8 z0 (Or.inl rfl) HX17 u10 w10
theorem tjT_roomiestFor_57 {Φ : ev_P} {d : Nat} (hd : 2 ≤ d) {X17 : Int → Int → Option Int} {g : gH} (hg : HR g) {v0 v1 v2 v3 v4 v5 v6 v7 v8 : Int} (hK0 : kd v0 = 5) (h1 : RfR v1) (h2 : RfR v2) (h3 : B01 v3) (h4 : RfR v4) (h5 : RfR v5) (h6 : InR v6) (h7 : InR v7) (h8 : RfR v8) (HX17 : ∀ (v4 : Int) (h4 : RfR v4) (v7 : Int) (h7 : InR v7) (u8 : Option ev_V) (w8 : nwo u8) (u9 : Option ev_V) (w9 : nwo u9) (u10 : Option ev_V) (w10 : nwo u10), Go Φ pr_P (fP g) 2 (X17 v4 v7) d pr_m295 17 [some (sR v0), some (sR v1), some (sR v2), some (sI v3), some (sR v4), some (sR v5), some (sI v6), some (sI v7), u8, u9, u10] [] g 0 0) (u9 : Option ev_V) (w9 : nwo u9) (u10 : Option ev_V) (w10 : nwo u10) : Go Φ pr_P (fP g) 2 (jT_roomiestFor_57 X17 g v0 v1 v2 v3 v4 v5 v6 v7 v8 ) d pr_m295 57 [some (sR v0), some (sR v1), some (sR v2), some (sI v3), some (sR v4), some (sR v5), some (sI v6), some (sI v7), some (sR v8), u9, u10] [] g 0 0 := by
  unfold jT_roomiestFor_57
  refine go_int k295_57 0 rfl ?_
  exact tjT_roomiestFor_58 hd hg hK0 h1 h2 h3 h4 h5 h6 h7 h8 (Or.inl rfl) HX17 u9 w9 u10 w10
theorem tjT_roomiestFor_53 {Φ : ev_P} {d : Nat} (hd : 2 ≤ d) {X17 : Int → Int → Option Int} {g : gH} (hg : HR g) {v0 v1 v2 v3 v4 v5 v6 v7 v8 : Int} (hK0 : kd v0 = 5) (h1 : RfR v1) (h2 : RfR v2) (h3 : B01 v3) (h4 : RfR v4) (h5 : RfR v5) (h6 : InR v6) (h7 : InR v7) (h8 : RfR v8) (HX17 : ∀ (v4 : Int) (h4 : RfR v4) (v7 : Int) (h7 : InR v7) (u8 : Option ev_V) (w8 : nwo u8) (u9 : Option ev_V) (w9 : nwo u9) (u10 : Option ev_V) (w10 : nwo u10), Go Φ pr_P (fP g) 2 (X17 v4 v7) d pr_m295 17 [some (sR v0), some (sR v1), some (sR v2), some (sI v3), some (sR v4), some (sR v5), some (sI v6), some (sI v7), u8, u9, u10] [] g 0 0) (u9 : Option ev_V) (w9 : nwo u9) (u10 : Option ev_V) (w10 : nwo u10) : Go Φ pr_P (fP g) 2 (jT_roomiestFor_53 X17 g v0 v1 v2 v3 v4 v5 v6 v7 v8 ) d pr_m295 53 [some (sR v0), some (sR v1), some (sR v2), some (sI v3), some (sR v4), some (sR v5), some (sI v6), some (sI v7), some (sR v8), u9, u10] [] g 0 0 := by
  unfold jT_roomiestFor_53
  refine go_int k295_53 1 rfl ?_
  refine go_goto k295_54 ?_
  exact tjT_roomiestFor_58 hd hg hK0 h1 h2 h3 h4 h5 h6 h7 h8 (Or.inr rfl) HX17 u9 w9 u10 w10
theorem tbT_roomiestFor_17 {Φ : ev_P} {d : Nat} (hd : 2 ≤ d) {g : gH} (hg : HR g) {v0 v1 v2 v3 v5 v6 : Int} (hK0 : kd v0 = 5) (h1 : RfR v1) (h2 : RfR v2) (h3 : B01 v3) (h5 : RfR v5) (h6 : InR v6) {X17 : Int → Int → Option Int} (HX17 : ∀ (v4 : Int) (h4 : RfR v4) (v7 : Int) (h7 : InR v7) (u8 : Option ev_V) (w8 : nwo u8) (u9 : Option ev_V) (w9 : nwo u9) (u10 : Option ev_V) (w10 : nwo u10), Go Φ pr_P (fP g) 2 (X17 v4 v7) d pr_m295 17 [some (sR v0), some (sR v1), some (sR v2), some (sI v3), some (sR v4), some (sR v5), some (sI v6), some (sI v7), u8, u9, u10] [] g 0 0) : ∀ (v4 : Int) (h4 : RfR v4) (v7 : Int) (h7 : InR v7) (u8 : Option ev_V) (w8 : nwo u8) (u9 : Option ev_V) (w9 : nwo u9) (u10 : Option ev_V) (w10 : nwo u10), Go Φ pr_P (fP g) 2 (bT_roomiestFor_17 g v0 v1 v2 v3 v5 v6 X17 v4 v7) d pr_m295 17 [some (sR v0), some (sR v1), some (sR v2), some (sI v3), some (sR v4), some (sR v5), some (sI v6), some (sI v7), u8, u9, u10] [] g 0 0 := by
  intro v4 h4 v7 h7 u8 w8 u9 w9 u10 w10
  unfold bT_roomiestFor_17
  refine go_iload k295_17 rfl ?_
  refine go_iload k295_19 rfl ?_
  refine go_cmlt k295_21 h7 h6 (fun c4 => ?_) (fun c5 => ?_)
  · refine go_aload k295_24 rfl ?_
    refine go_iload k295_26 rfl ?_
    refine go_ck (fun q7 => ?_)
    refine go_pald k295_28 hg q7 (fun r6 => ?_)
    refine go_astore k295_29 rfl (loc2 := [some (sR v0), some (sR v1), some (sR v2), some (sI v3), some (sR v4), some (sR v5), some (sI v6), some (sI v7), some (sR (g v5 v7)), u9, u10]) rfl ?_
    refine go_aload k295_31 rfl ?_
    refine go_aload k295_33 rfl ?_
    refine go_acmp k295_34 r6 h2 (fun c8 => ?_) (fun c9 => ?_)
    · exact tjT_roomiestFor_57 hd hg hK0 h1 h2 h3 h4 h5 h6 h7 r6 HX17 u9 w9 u10 w10
    · refine go_iload k295_37 rfl ?_
      refine go_ifeq k295_38 (inR_b h3) (fun c10 => ?_) (fun c11 => ?_)
      · exact tjT_roomiestFor_53 hd hg hK0 h1 h2 h3 h4 h5 h6 h7 r6 HX17 u9 w9 u10 w10
      · refine go_aload k295_41 rfl ?_
        refine go_ck (fun q12 => ?_)
        refine go_getI (bI := 5) k295_43 hg q12 (by decide) rfl rfl (fun r13 => ?_)
        refine go_aload k295_46 rfl ?_
        refine go_ck (fun q14 => ?_)
        refine go_getI (bI := 5) k295_47 hg q14 (by decide) rfl rfl (fun r15 => ?_)
        refine go_cmeq k295_50 r13 r15 (fun c16 => ?_) (fun c17 => ?_)
        · exact tjT_roomiestFor_53 hd hg hK0 h1 h2 h3 h4 h5 h6 h7 r6 HX17 u9 w9 u10 w10
        · exact tjT_roomiestFor_57 hd hg hK0 h1 h2 h3 h4 h5 h6 h7 r6 HX17 u9 w9 u10 w10
  · refine go_aload k295_115 rfl ?_
    exact go_aret k295_117 hg h4 ⟨Nat.zero_le _, Nat.zero_le _⟩ rfl
theorem tlT_roomiestFor_17 {Φ : ev_P} {d : Nat} (hd : 2 ≤ d) {g : gH} (hg : HR g) {v0 v1 v2 v3 v5 v6 : Int} (hK0 : kd v0 = 5) (h1 : RfR v1) (h2 : RfR v2) (h3 : B01 v3) (h5 : RfR v5) (h6 : InR v6) : ∀ n : Nat, ∀ (v4 : Int) (h4 : RfR v4) (v7 : Int) (h7 : InR v7) (u8 : Option ev_V) (w8 : nwo u8) (u9 : Option ev_V) (w9 : nwo u9) (u10 : Option ev_V) (w10 : nwo u10), Go Φ pr_P (fP g) 2 (lT_roomiestFor_17 g v0 v1 v2 v3 v5 v6 n v4 v7) d pr_m295 17 [some (sR v0), some (sR v1), some (sR v2), some (sI v3), some (sR v4), some (sR v5), some (sI v6), some (sI v7), u8, u9, u10] [] g 0 0 := by
  intro n
  induction n with
  | zero => intros; exact go_none
  | succ n ih => exact tbT_roomiestFor_17 hd hg hK0 h1 h2 h3 h5 h6 ih
theorem tfT_roomiestFor {Φ : ev_P} {d : Nat} (hd : 2 ≤ d) {g : gH} (hg : HR g) {v0 v1 v2 v3 : Int} (hK0 : kd v0 = 5) (h1 : RfR v1) (h2 : RfR v2) (h3 : B01 v3) : Go Φ pr_P (fP g) 2 (fT_roomiestFor g v0 v1 v2 v3) d (pr_P 295) 0 (ev_loc (pr_P 295).1 [(sR v0), (sR v1), (sR v2), (sI v3)]) [] g 0 0 := by
  show Go Φ pr_P (fP g) 2 (fT_roomiestFor g v0 v1 v2 v3) d pr_m295 0 [some (sR v0), some (sR v1), some (sR v2), some (sI v3), none, none, none, none, none, none, none] [] g 0 0
  unfold fT_roomiestFor
  refine go_null k295_0 ?_
  refine go_astore k295_1 rfl (loc2 := [some (sR v0), some (sR v1), some (sR v2), some (sI v3), some (sR (-1)), none, none, none, none, none, none]) rfl ?_
  refine go_aload k295_3 rfl ?_
  refine go_getR (bI := 1) k295_4 hg hK0 (by decide) rfl rfl (fun r1 => ?_)
  refine go_astore k295_7 rfl (loc2 := [some (sR v0), some (sR v1), some (sR v2), some (sI v3), some (sR (-1)), some (sR (g v0 1)), none, none, none, none, none]) rfl ?_
  refine go_aload k295_9 rfl ?_
  refine go_ck (fun q3 => ?_)
  refine go_alen k295_11 (ka_24 q3) (fun r2 => ?_)
  refine go_istore k295_12 rfl (loc2 := [some (sR v0), some (sR v1), some (sR v2), some (sI v3), some (sR (-1)), some (sR (g v0 1)), some (sI (sz (g v0 1))), none, none, none, none]) rfl ?_
  refine go_int k295_14 0 rfl ?_
  refine go_istore k295_15 rfl (loc2 := [some (sR v0), some (sR v1), some (sR v2), some (sI v3), some (sR (-1)), some (sR (g v0 1)), some (sI (sz (g v0 1))), some (sI 0), none, none, none]) rfl ?_
  exact tlT_roomiestFor_17 hd hg hK0 h1 h2 h3 r1 r2 fu (-1) rfR_null 0 (inR_b (Or.inl rfl)) none rfl none rfl none rfl
theorem tbT_firstKin_19 {Φ : ev_P} {d : Nat} (hd : 2 ≤ d) {g : gH} (hg : HR g) {v0 v1 v2 v3 v4 v5 : Int} (hK0 : kd v0 = 5) (h1 : RfR v1) (h2 : RfR v2) (h3 : RfR v3) (h4 : RfR v4) (h5 : InR v5) {X19 : Int → Option Int} (HX19 : ∀ (v6 : Int) (h6 : InR v6) (u7 : Option ev_V) (w7 : nwo u7), Go Φ pr_P (fP g) 2 (X19 v6) d pr_m296 19 [some (sR v0), some (sR v1), some (sR v2), some (sR v3), some (sR v4), some (sI v5), some (sI v6), u7] [] g 0 0) : ∀ (v6 : Int) (h6 : InR v6) (u7 : Option ev_V) (w7 : nwo u7), Go Φ pr_P (fP g) 2 (bT_firstKin_19 g v0 v1 v2 v3 v4 v5 X19 v6) d pr_m296 19 [some (sR v0), some (sR v1), some (sR v2), some (sR v3), some (sR v4), some (sI v5), some (sI v6), u7] [] g 0 0 := by
  intro v6 h6 u7 w7
  unfold bT_firstKin_19
  refine go_iload k296_19 rfl ?_
  refine go_iload k296_21 rfl ?_
  refine go_cmlt k296_23 h6 h5 (fun c6 => ?_) (fun c7 => ?_)
  · refine go_aload k296_26 rfl ?_
    refine go_iload k296_28 rfl ?_
    refine go_ck (fun q9 => ?_)
    refine go_pald k296_30 hg q9 (fun r8 => ?_)
    refine go_astore k296_31 rfl (loc2 := [some (sR v0), some (sR v1), some (sR v2), some (sR v3), some (sR v4), some (sI v5), some (sI v6), some (sR (g v4 v6))]) rfl ?_
    refine go_aload k296_33 rfl ?_
    refine go_isnull k296_34  (fun c10 => ?_) (fun c11 => ?_)
    · refine go_iinc k296_65 rfl rfl 1 rfl (loc2 := [some (sR v0), some (sR v1), some (sR v2), some (sR v3), some (sR v4), some (sI v5), some (sI (w32 (v6 + 1))), some (sR (g v4 v6))]) rfl ?_
      refine go_goto k296_68 ?_
      exact HX19 (w32 (v6 + 1)) (inR_w32 _) (some (sR (g v4 v6))) rfl
    · refine go_aload k296_37 rfl ?_
      refine go_aload k296_39 rfl ?_
      refine go_acmp k296_40 r8 h2 (fun c12 => ?_) (fun c13 => ?_)
      · refine go_iinc k296_65 rfl rfl 1 rfl (loc2 := [some (sR v0), some (sR v1), some (sR v2), some (sR v3), some (sR v4), some (sI v5), some (sI (w32 (v6 + 1))), some (sR (g v4 v6))]) rfl ?_
        refine go_goto k296_68 ?_
        exact HX19 (w32 (v6 + 1)) (inR_w32 _) (some (sR (g v4 v6))) rfl
      · refine go_aload k296_43 rfl ?_
        refine go_aload k296_45 rfl ?_
        refine go_ck (fun q14 => ?_)
        refine go_callP3 k296_46 rfl rfl rfl ⟨by decide, _, rfl, q14⟩ ⟨Nat.zero_le _, Nat.zero_le _⟩ (by omega) (tfP_isRunningChildOf (by omega) hg q14  h3) (fun y15 r16 => ?_)
        refine go_ifeq k296_49 (inR_b r16) (fun c19 => ?_) (fun c20 => ?_)
        · refine go_iinc k296_65 rfl rfl 1 rfl (loc2 := [some (sR v0), some (sR v1), some (sR v2), some (sR v3), some (sR v4), some (sI v5), some (sI (w32 (v6 + 1))), some (sR (g v4 v6))]) rfl ?_
          refine go_goto k296_68 ?_
          exact HX19 (w32 (v6 + 1)) (inR_w32 _) (some (sR (g v4 v6))) rfl
        · refine go_aload k296_52 rfl ?_
          refine go_aload k296_53 rfl ?_
          refine go_aload k296_55 rfl ?_
          refine go_callP3 k296_56 rfl rfl rfl ⟨by decide, _, rfl, hK0⟩ ⟨Nat.zero_le _, Nat.zero_le _⟩ (by omega) (tfT_canAdopt (by omega) hg hK0  r8 h1) (fun y21 r22 => ?_)
          refine go_ifeq k296_59 (inR_b r22) (fun c25 => ?_) (fun c26 => ?_)
          · refine go_iinc k296_65 rfl rfl 1 rfl (loc2 := [some (sR v0), some (sR v1), some (sR v2), some (sR v3), some (sR v4), some (sI v5), some (sI (w32 (v6 + 1))), some (sR (g v4 v6))]) rfl ?_
            refine go_goto k296_68 ?_
            exact HX19 (w32 (v6 + 1)) (inR_w32 _) (some (sR (g v4 v6))) rfl
          · refine go_aload k296_62 rfl ?_
            exact go_aret k296_64 hg r8 ⟨Nat.zero_le _, Nat.zero_le _⟩ rfl
  · refine go_null k296_71 ?_
    exact go_aret k296_72 hg rfR_null ⟨Nat.zero_le _, Nat.zero_le _⟩ rfl
theorem tlT_firstKin_19 {Φ : ev_P} {d : Nat} (hd : 2 ≤ d) {g : gH} (hg : HR g) {v0 v1 v2 v3 v4 v5 : Int} (hK0 : kd v0 = 5) (h1 : RfR v1) (h2 : RfR v2) (h3 : RfR v3) (h4 : RfR v4) (h5 : InR v5) : ∀ n : Nat, ∀ (v6 : Int) (h6 : InR v6) (u7 : Option ev_V) (w7 : nwo u7), Go Φ pr_P (fP g) 2 (lT_firstKin_19 g v0 v1 v2 v3 v4 v5 n v6) d pr_m296 19 [some (sR v0), some (sR v1), some (sR v2), some (sR v3), some (sR v4), some (sI v5), some (sI v6), u7] [] g 0 0 := by
  intro n
  induction n with
  | zero => intros; exact go_none
  | succ n ih => exact tbT_firstKin_19 hd hg hK0 h1 h2 h3 h4 h5 ih
theorem tfT_firstKin {Φ : ev_P} {d : Nat} (hd : 2 ≤ d) {g : gH} (hg : HR g) {v0 v1 v2 : Int} (hK0 : kd v0 = 5) (h1 : RfR v1) (h2 : RfR v2) : Go Φ pr_P (fP g) 2 (fT_firstKin g v0 v1 v2) d (pr_P 296) 0 (ev_loc (pr_P 296).1 [(sR v0), (sR v1), (sR v2)]) [] g 0 0 := by
  show Go Φ pr_P (fP g) 2 (fT_firstKin g v0 v1 v2) d pr_m296 0 [some (sR v0), some (sR v1), some (sR v2), none, none, none, none, none] [] g 0 0
  unfold fT_firstKin
  refine go_aload k296_0 rfl ?_
  refine go_ck (fun q1 => ?_)
  refine go_getR (bI := 2) k296_1 hg q1 (by decide) rfl rfl (fun r2 => ?_)
  refine go_astore k296_4 rfl (loc2 := [some (sR v0), some (sR v1), some (sR v2), some (sR (g v2 2)), none, none, none, none]) rfl ?_
  refine go_aload k296_5 rfl ?_
  refine go_getR (bI := 1) k296_6 hg hK0 (by decide) rfl rfl (fun r3 => ?_)
  refine go_astore k296_9 rfl (loc2 := [some (sR v0), some (sR v1), some (sR v2), some (sR (g v2 2)), some (sR (g v0 1)), none, none, none]) rfl ?_
  refine go_aload k296_11 rfl ?_
  refine go_ck (fun q5 => ?_)
  refine go_alen k296_13 (ka_24 q5) (fun r4 => ?_)
  refine go_istore k296_14 rfl (loc2 := [some (sR v0), some (sR v1), some (sR v2), some (sR (g v2 2)), some (sR (g v0 1)), some (sI (sz (g v0 1))), none, none]) rfl ?_
  refine go_int k296_16 0 rfl ?_
  refine go_istore k296_17 rfl (loc2 := [some (sR v0), some (sR v1), some (sR v2), some (sR (g v2 2)), some (sR (g v0 1)), some (sI (sz (g v0 1))), some (sI 0), none]) rfl ?_
  exact tlT_firstKin_19 hd hg hK0 h1 h2 r2 r3 r4 fu 0 (inR_b (Or.inl rfl)) none rfl
theorem tbT_oldest_12 {Φ : ev_P} {d : Nat} (hd : 2 ≤ d) {g : gH} (hg : HR g) {v0 v1 v2 v3 v4 : Int} (hK0 : kd v0 = 5) (h1 : RfR v1) (h2 : RfR v2) (h3 : RfR v3) (h4 : InR v4) {X12 : Int → Option Int} (HX12 : ∀ (v5 : Int) (h5 : InR v5) (u6 : Option ev_V) (w6 : nwo u6), Go Φ pr_P (fP g) 2 (X12 v5) d pr_m297 12 [some (sR v0), some (sR v1), some (sR v2), some (sR v3), some (sI v4), some (sI v5), u6] [] g 0 0) : ∀ (v5 : Int) (h5 : InR v5) (u6 : Option ev_V) (w6 : nwo u6), Go Φ pr_P (fP g) 2 (bT_oldest_12 g v0 v1 v2 v3 v4 X12 v5) d pr_m297 12 [some (sR v0), some (sR v1), some (sR v2), some (sR v3), some (sI v4), some (sI v5), u6] [] g 0 0 := by
  intro v5 h5 u6 w6
  unfold bT_oldest_12
  refine go_iload k297_12 rfl ?_
  refine go_iload k297_14 rfl ?_
  refine go_cmlt k297_16 h5 h4 (fun c4 => ?_) (fun c5 => ?_)
  · refine go_aload k297_19 rfl ?_
    refine go_iload k297_20 rfl ?_
    refine go_ck (fun q7 => ?_)
    refine go_pald k297_22 hg q7 (fun r6 => ?_)
    refine go_astore k297_23 rfl (loc2 := [some (sR v0), some (sR v1), some (sR v2), some (sR v3), some (sI v4), some (sI v5), some (sR (g v3 v5))]) rfl ?_
    refine go_aload k297_25 rfl ?_
    refine go_aload k297_27 rfl ?_
    refine go_acmp k297_28 r6 h2 (fun c8 => ?_) (fun c9 => ?_)
    · refine go_iinc k297_44 rfl rfl 1 rfl (loc2 := [some (sR v0), some (sR v1), some (sR v2), some (sR v3), some (sI v4), some (sI (w32 (v5 + 1))), some (sR (g v3 v5))]) rfl ?_
      refine go_goto k297_47 ?_
      exact HX12 (w32 (v5 + 1)) (inR_w32 _) (some (sR (g v3 v5))) rfl
    · refine go_aload k297_31 rfl ?_
      refine go_aload k297_32 rfl ?_
      refine go_aload k297_34 rfl ?_
      refine go_callP3 k297_35 rfl rfl rfl ⟨by decide, _, rfl, hK0⟩ ⟨Nat.zero_le _, Nat.zero_le _⟩ (by omega) (tfT_canAdopt (by omega) hg hK0  r6 h1) (fun y10 r11 => ?_)
      refine go_ifeq k297_38 (inR_b r11) (fun c14 => ?_) (fun c15 => ?_)
      · refine go_iinc k297_44 rfl rfl 1 rfl (loc2 := [some (sR v0), some (sR v1), some (sR v2), some (sR v3), some (sI v4), some (sI (w32 (v5 + 1))), some (sR (g v3 v5))]) rfl ?_
        refine go_goto k297_47 ?_
        exact HX12 (w32 (v5 + 1)) (inR_w32 _) (some (sR (g v3 v5))) rfl
      · refine go_aload k297_41 rfl ?_
        exact go_aret k297_43 hg r6 ⟨Nat.zero_le _, Nat.zero_le _⟩ rfl
  · refine go_null k297_50 ?_
    exact go_aret k297_51 hg rfR_null ⟨Nat.zero_le _, Nat.zero_le _⟩ rfl
theorem tlT_oldest_12 {Φ : ev_P} {d : Nat} (hd : 2 ≤ d) {g : gH} (hg : HR g) {v0 v1 v2 v3 v4 : Int} (hK0 : kd v0 = 5) (h1 : RfR v1) (h2 : RfR v2) (h3 : RfR v3) (h4 : InR v4) : ∀ n : Nat, ∀ (v5 : Int) (h5 : InR v5) (u6 : Option ev_V) (w6 : nwo u6), Go Φ pr_P (fP g) 2 (lT_oldest_12 g v0 v1 v2 v3 v4 n v5) d pr_m297 12 [some (sR v0), some (sR v1), some (sR v2), some (sR v3), some (sI v4), some (sI v5), u6] [] g 0 0 := by
  intro n
  induction n with
  | zero => intros; exact go_none
  | succ n ih => exact tbT_oldest_12 hd hg hK0 h1 h2 h3 h4 ih
theorem tfT_oldest {Φ : ev_P} {d : Nat} (hd : 2 ≤ d) {g : gH} (hg : HR g) {v0 v1 v2 : Int} (hK0 : kd v0 = 5) (h1 : RfR v1) (h2 : RfR v2) : Go Φ pr_P (fP g) 2 (fT_oldest g v0 v1 v2) d (pr_P 297) 0 (ev_loc (pr_P 297).1 [(sR v0), (sR v1), (sR v2)]) [] g 0 0 := by
  show Go Φ pr_P (fP g) 2 (fT_oldest g v0 v1 v2) d pr_m297 0 [some (sR v0), some (sR v1), some (sR v2), none, none, none, none] [] g 0 0
  unfold fT_oldest
  refine go_aload k297_0 rfl ?_
  refine go_getR (bI := 1) k297_1 hg hK0 (by decide) rfl rfl (fun r1 => ?_)
  refine go_astore k297_4 rfl (loc2 := [some (sR v0), some (sR v1), some (sR v2), some (sR (g v0 1)), none, none, none]) rfl ?_
  refine go_aload k297_5 rfl ?_
  refine go_ck (fun q3 => ?_)
  refine go_alen k297_6 (ka_24 q3) (fun r2 => ?_)
  refine go_istore k297_7 rfl (loc2 := [some (sR v0), some (sR v1), some (sR v2), some (sR (g v0 1)), some (sI (sz (g v0 1))), none, none]) rfl ?_
  refine go_int k297_9 0 rfl ?_
  refine go_istore k297_10 rfl (loc2 := [some (sR v0), some (sR v1), some (sR v2), some (sR (g v0 1)), some (sI (sz (g v0 1))), some (sI 0), none]) rfl ?_
  exact tlT_oldest_12 hd hg hK0 h1 h2 r1 r2 fu 0 (inR_b (Or.inl rfl)) none rfl
theorem tjT_adopterOf_130 {Φ : ev_P} {d : Nat} (hd : 3 ≤ d) {g : gH} (hg : HR g) {v0 v3 : Int} (hK0 : kd v0 = 5) (h3 : RfR v3) (u1 : Option ev_V) (w1 : nwo u1) (u2 : Option ev_V) (w2 : nwo u2) (u4 : Option ev_V) (w4 : nwo u4) : Go Φ pr_P (fP g) 2 (jT_adopterOf_130 g v0 v3 ) d pr_m293 130 [some (sR v0), u1, u2, some (sR v3), u4] [] g 0 0 := by
  unfold jT_adopterOf_130
  refine go_aload k293_130 rfl ?_
  refine go_isnull k293_131  (fun c43 => ?_) (fun c44 => ?_)
  · refine go_aload k293_134 rfl ?_
    refine go_getR (bI := 0) k293_135 hg hK0 (by decide) rfl rfl (fun r45 => ?_)
    refine go_goto k293_138 ?_
    exact go_aret k293_142 hg r45 ⟨Nat.zero_le _, Nat.zero_le _⟩ rfl
  · refine go_aload k293_141 rfl ?_
    exact go_aret k293_142 hg h3 ⟨Nat.zero_le _, Nat.zero_le _⟩ rfl
theorem tbT_adopterOf_19 {Φ : ev_P} {d : Nat} (hd : 3 ≤ d) {g : gH} (hg : HR g) {v0 v1 v2 : Int} (hK0 : kd v0 = 5) (h1 : RfR v1) (h2 : RfR v2) {X19 : Int → Int → Option Int} (HX19 : ∀ (v3 : Int) (h3 : RfR v3) (v4 : Int) (h4 : InR v4), Go Φ pr_P (fP g) 2 (X19 v3 v4) d pr_m293 19 [some (sR v0), some (sR v1), some (sR v2), some (sR v3), some (sI v4)] [] g 0 0) : ∀ (v3 : Int) (h3 : RfR v3) (v4 : Int) (h4 : InR v4), Go Φ pr_P (fP g) 2 (bT_adopterOf_19 g v0 v1 v2 X19 v3 v4) d pr_m293 19 [some (sR v0), some (sR v1), some (sR v2), some (sR v3), some (sI v4)] [] g 0 0 := by
  intro v3 h3 v4 h4
  unfold bT_adopterOf_19
  refine go_iload k293_19 rfl ?_
  refine go_int k293_21 5 rfl ?_
  refine go_cmlt k293_22 h4 (inR_of (by decide)) (fun c6 => ?_) (fun c7 => ?_)
  · refine go_aload k293_25 rfl ?_
    refine go_isnull k293_26  (fun c8 => ?_) (fun c9 => ?_)
    · refine go_aload k293_29 rfl ?_
      refine go_getR (bI := 3) k293_30 hg hK0 (by decide) rfl rfl (fun r10 => ?_)
      refine go_iload k293_33 rfl ?_
      refine go_ck (fun q12 => ?_)
      refine go_iald k293_35 hg q12 (fun r11 => ?_)
      refine go_ite (fun c13 => ?_) (fun c14 => ?_)
      · refine go_swh (lo := 0) (hi := 4) (i := 0) k293_36 rfl rfl (by omega) (by omega) rfl ?_
        refine go_aload k293_72 rfl ?_
        refine go_aload k293_73 rfl ?_
        refine go_aload k293_74 rfl ?_
        refine go_callP2 k293_75 rfl rfl rfl ⟨by decide, _, rfl, hK0⟩ ⟨Nat.zero_le _, Nat.zero_le _⟩ (by omega) (tfT_nearest (by omega) hg hK0  h1 h2) (fun y15 r16 => ?_)
        refine go_astore k293_78 rfl (loc2 := [some (sR v0), some (sR v1), some (sR v2), some (sR y15), some (sI v4)]) rfl ?_
        refine go_goto k293_79 ?_
        refine go_iinc k293_124 rfl rfl 1 rfl (loc2 := [some (sR v0), some (sR v1), some (sR v2), some (sR y15), some (sI (w32 (v4 + 1)))]) rfl ?_
        refine go_goto k293_127 ?_
        exact HX19 y15 r16 (w32 (v4 + 1)) (inR_w32 _)
      refine go_ite (fun c19 => ?_) (fun c20 => ?_)
      · refine go_swh (lo := 0) (hi := 4) (i := 1) k293_36 rfl rfl (by omega) (by omega) rfl ?_
        refine go_aload k293_82 rfl ?_
        refine go_aload k293_83 rfl ?_
        refine go_aload k293_84 rfl ?_
        refine go_int k293_85 1 rfl ?_
        refine go_callP2 k293_86 rfl rfl rfl ⟨by decide, _, rfl, hK0⟩ ⟨Nat.zero_le _, Nat.zero_le _⟩ (by omega) (tfT_roomiestFor (by omega) hg hK0  h1 h2 (Or.inr rfl)) (fun y21 r22 => ?_)
        refine go_astore k293_89 rfl (loc2 := [some (sR v0), some (sR v1), some (sR v2), some (sR y21), some (sI v4)]) rfl ?_
        refine go_goto k293_90 ?_
        refine go_iinc k293_124 rfl rfl 1 rfl (loc2 := [some (sR v0), some (sR v1), some (sR v2), some (sR y21), some (sI (w32 (v4 + 1)))]) rfl ?_
        refine go_goto k293_127 ?_
        exact HX19 y21 r22 (w32 (v4 + 1)) (inR_w32 _)
      refine go_ite (fun c25 => ?_) (fun c26 => ?_)
      · refine go_swh (lo := 0) (hi := 4) (i := 2) k293_36 rfl rfl (by omega) (by omega) rfl ?_
        refine go_aload k293_93 rfl ?_
        refine go_aload k293_94 rfl ?_
        refine go_aload k293_95 rfl ?_
        refine go_int k293_96 0 rfl ?_
        refine go_callP2 k293_97 rfl rfl rfl ⟨by decide, _, rfl, hK0⟩ ⟨Nat.zero_le _, Nat.zero_le _⟩ (by omega) (tfT_roomiestFor (by omega) hg hK0  h1 h2 (Or.inl rfl)) (fun y27 r28 => ?_)
        refine go_astore k293_100 rfl (loc2 := [some (sR v0), some (sR v1), some (sR v2), some (sR y27), some (sI v4)]) rfl ?_
        refine go_goto k293_101 ?_
        refine go_iinc k293_124 rfl rfl 1 rfl (loc2 := [some (sR v0), some (sR v1), some (sR v2), some (sR y27), some (sI (w32 (v4 + 1)))]) rfl ?_
        refine go_goto k293_127 ?_
        exact HX19 y27 r28 (w32 (v4 + 1)) (inR_w32 _)
      refine go_ite (fun c31 => ?_) (fun c32 => ?_)
      · refine go_swh (lo := 0) (hi := 4) (i := 3) k293_36 rfl rfl (by omega) (by omega) rfl ?_
        refine go_aload k293_104 rfl ?_
        refine go_aload k293_105 rfl ?_
        refine go_aload k293_106 rfl ?_
        refine go_callP2 k293_107 rfl rfl rfl ⟨by decide, _, rfl, hK0⟩ ⟨Nat.zero_le _, Nat.zero_le _⟩ (by omega) (tfT_firstKin (by omega) hg hK0  h1 h2) (fun y33 r34 => ?_)
        refine go_astore k293_110 rfl (loc2 := [some (sR v0), some (sR v1), some (sR v2), some (sR y33), some (sI v4)]) rfl ?_
        refine go_goto k293_111 ?_
        refine go_iinc k293_124 rfl rfl 1 rfl (loc2 := [some (sR v0), some (sR v1), some (sR v2), some (sR y33), some (sI (w32 (v4 + 1)))]) rfl ?_
        refine go_goto k293_127 ?_
        exact HX19 y33 r34 (w32 (v4 + 1)) (inR_w32 _)
      refine go_ite (fun c37 => ?_) (fun c38 => ?_)
      · refine go_swh (lo := 0) (hi := 4) (i := 4) k293_36 rfl rfl (by omega) (by omega) rfl ?_
        refine go_aload k293_114 rfl ?_
        refine go_aload k293_115 rfl ?_
        refine go_aload k293_116 rfl ?_
        refine go_callP2 k293_117 rfl rfl rfl ⟨by decide, _, rfl, hK0⟩ ⟨Nat.zero_le _, Nat.zero_le _⟩ (by omega) (tfT_oldest (by omega) hg hK0  h1 h2) (fun y39 r40 => ?_)
        refine go_astore k293_120 rfl (loc2 := [some (sR v0), some (sR v1), some (sR v2), some (sR y39), some (sI v4)]) rfl ?_
        refine go_goto k293_121 ?_
        refine go_iinc k293_124 rfl rfl 1 rfl (loc2 := [some (sR v0), some (sR v1), some (sR v2), some (sR y39), some (sI (w32 (v4 + 1)))]) rfl ?_
        refine go_goto k293_127 ?_
        exact HX19 y39 r40 (w32 (v4 + 1)) (inR_w32 _)
      refine go_swd (lo := 0) (hi := 4) k293_36 rfl rfl r11 (by omega) (by omega) ?_
      refine go_iinc k293_124 rfl rfl 1 rfl (loc2 := [some (sR v0), some (sR v1), some (sR v2), some (sR v3), some (sI (w32 (v4 + 1)))]) rfl ?_
      refine go_goto k293_127 ?_
      exact HX19 v3 h3 (w32 (v4 + 1)) (inR_w32 _)
    · exact tjT_adopterOf_130 hd hg hK0 h3 (some (sR v1)) rfl (some (sR v2)) rfl (some (sI v4)) rfl
  · exact tjT_adopterOf_130 hd hg hK0 h3 (some (sR v1)) rfl (some (sR v2)) rfl (some (sI v4)) rfl
theorem tlT_adopterOf_19 {Φ : ev_P} {d : Nat} (hd : 3 ≤ d) {g : gH} (hg : HR g) {v0 v1 v2 : Int} (hK0 : kd v0 = 5) (h1 : RfR v1) (h2 : RfR v2) : ∀ n : Nat, ∀ (v3 : Int) (h3 : RfR v3) (v4 : Int) (h4 : InR v4), Go Φ pr_P (fP g) 2 (lT_adopterOf_19 g v0 v1 v2 n v3 v4) d pr_m293 19 [some (sR v0), some (sR v1), some (sR v2), some (sR v3), some (sI v4)] [] g 0 0 := by
  intro n
  induction n with
  | zero => intros; exact go_none
  | succ n ih => exact tbT_adopterOf_19 hd hg hK0 h1 h2 ih
theorem tfT_adopterOf {Φ : ev_P} {d : Nat} (hd : 3 ≤ d) {g : gH} (hg : HR g) {v0 v1 : Int} (hK0 : kd v0 = 5) (h1 : RfR v1) : Go Φ pr_P (fP g) 2 (fT_adopterOf g v0 v1) d (pr_P 293) 0 (ev_loc (pr_P 293).1 [(sR v0), (sR v1)]) [] g 0 0 := by
  show Go Φ pr_P (fP g) 2 (fT_adopterOf g v0 v1) d pr_m293 0 [some (sR v0), some (sR v1), none, none, none] [] g 0 0
  unfold fT_adopterOf
  refine go_aload k293_0 rfl ?_
  refine go_ck (fun q1 => ?_)
  refine go_getR (bI := 2) k293_1 hg q1 (by decide) rfl rfl (fun r2 => ?_)
  refine go_astore k293_4 rfl (loc2 := [some (sR v0), some (sR v1), some (sR (g v1 2)), none, none]) rfl ?_
  refine go_aload k293_5 rfl ?_
  refine go_isnull k293_6  (fun c3 => ?_) (fun c4 => ?_)
  · refine go_aload k293_9 rfl ?_
    refine go_getR (bI := 0) k293_10 hg hK0 (by decide) rfl rfl (fun r5 => ?_)
    exact go_aret k293_13 hg r5 ⟨Nat.zero_le _, Nat.zero_le _⟩ rfl
  · refine go_null k293_14 ?_
    refine go_astore k293_15 rfl (loc2 := [some (sR v0), some (sR v1), some (sR (g v1 2)), some (sR (-1)), none]) rfl ?_
    refine go_int k293_16 0 rfl ?_
    refine go_istore k293_17 rfl (loc2 := [some (sR v0), some (sR v1), some (sR (g v1 2)), some (sR (-1)), some (sI 0)]) rfl ?_
    exact tlT_adopterOf_19 hd hg hK0 h1 r2 fu (-1) rfR_null 0 (inR_b (Or.inl rfl))
theorem tbT_readZombiesOf_14 {Φ : ev_P} {d : Nat} (hd : 1 ≤ d) {v1 v3 v4 : Int} (h1 : RfR v1) (h3 : RfR v3) (h4 : InR v4) {X14 : Int → Int → gH → Option (Int × gH)} (HX14 : ∀ (v2 : Int) (h2 : InR v2) (v5 : Int) (h5 : InR v5) (g : gH) (hg : HR g) (u0 : Option ev_V) (w0 : nwo u0) (u6 : Option ev_V) (w6 : nwo u6), Go Φ pr_P fN 1 (X14 v2 v5 g) d pr_m302 14 [u0, some (sR v1), some (sI v2), some (sR v3), some (sI v4), some (sI v5), u6] [] g 0 0) : ∀ (v2 : Int) (h2 : InR v2) (v5 : Int) (h5 : InR v5) (g : gH) (hg : HR g) (u0 : Option ev_V) (w0 : nwo u0) (u6 : Option ev_V) (w6 : nwo u6), Go Φ pr_P fN 1 (bT_readZombiesOf_14 v1 v3 v4 X14 v2 v5 g) d pr_m302 14 [u0, some (sR v1), some (sI v2), some (sR v3), some (sI v4), some (sI v5), u6] [] g 0 0 := by
  intro v2 h2 v5 h5 g hg u0 w0 u6 w6
  unfold bT_readZombiesOf_14
  refine go_iload k302_14 rfl ?_
  refine go_iload k302_16 rfl ?_
  refine go_cmlt k302_18 h5 h4 (fun c4 => ?_) (fun c5 => ?_)
  · refine go_aload k302_21 rfl ?_
    refine go_iload k302_22 rfl ?_
    refine go_ck (fun q7 => ?_)
    refine go_pald k302_24 hg q7 (fun r6 => ?_)
    refine go_astore k302_25 rfl (loc2 := [u0, some (sR v1), some (sI v2), some (sR v3), some (sI v4), some (sI v5), some (sR (g v3 v5))]) rfl ?_
    refine go_aload k302_27 rfl ?_
    refine go_aload k302_29 rfl ?_
    refine go_ck (fun q8 => ?_)
    refine go_callP3 k302_30 rfl rfl rfl ⟨by decide, _, rfl, q8⟩ ⟨Nat.zero_le _, Nat.zero_le _⟩ (by omega) (tfP_isZombieOf (by omega) hg q8  h1) (fun y9 r10 => ?_)
    refine go_ifeq k302_33 (inR_b r10) (fun c13 => ?_) (fun c14 => ?_)
    · refine go_iinc k302_50 rfl rfl 1 rfl (loc2 := [u0, some (sR v1), some (sI v2), some (sR v3), some (sI v4), some (sI (w32 (v5 + 1))), some (sR (g v3 v5))]) rfl ?_
      refine go_goto k302_53 ?_
      exact HX14 v2 h2 (w32 (v5 + 1)) (inR_w32 _) g hg u0 w0 (some (sR (g v3 v5))) rfl
    · refine go_aload k302_36 rfl ?_
      refine go_int k302_38 2 rfl ?_
      refine go_putI (bI := 1) k302_39 hg q8 (by decide) rfl rfl (inR_of (by decide)) (fun g15 e16 => ?_)
      refine go_iload k302_42 rfl ?_
      refine go_aload k302_43 rfl ?_
      refine go_getI (bI := 9) k302_45 e16 q8 (by decide) rfl rfl (fun r17 => ?_)
      refine go_iadd k302_48 ?_
      refine go_istore k302_49 rfl (loc2 := [u0, some (sR v1), some (sI (w32 (v2 + (g15 (g v3 v5) 9)))), some (sR v3), some (sI v4), some (sI v5), some (sR (g v3 v5))]) rfl ?_
      refine go_iinc k302_50 rfl rfl 1 rfl (loc2 := [u0, some (sR v1), some (sI (w32 (v2 + (g15 (g v3 v5) 9)))), some (sR v3), some (sI v4), some (sI (w32 (v5 + 1))), some (sR (g v3 v5))]) rfl ?_
      refine go_goto k302_53 ?_
      exact HX14 (w32 (v2 + (g15 (g v3 v5) 9))) (inR_w32 _) (w32 (v5 + 1)) (inR_w32 _) g15 e16 u0 w0 (some (sR (g v3 v5))) rfl
  · refine go_iload k302_56 rfl ?_
    exact go_iret k302_57 hg h2 ⟨Nat.zero_le _, Nat.zero_le _⟩ rfl
theorem tlT_readZombiesOf_14 {Φ : ev_P} {d : Nat} (hd : 1 ≤ d) {v1 v3 v4 : Int} (h1 : RfR v1) (h3 : RfR v3) (h4 : InR v4) : ∀ n : Nat, ∀ (v2 : Int) (h2 : InR v2) (v5 : Int) (h5 : InR v5) (g : gH) (hg : HR g) (u0 : Option ev_V) (w0 : nwo u0) (u6 : Option ev_V) (w6 : nwo u6), Go Φ pr_P fN 1 (lT_readZombiesOf_14 v1 v3 v4 n v2 v5 g) d pr_m302 14 [u0, some (sR v1), some (sI v2), some (sR v3), some (sI v4), some (sI v5), u6] [] g 0 0 := by
  intro n
  induction n with
  | zero => intros; exact go_none
  | succ n ih => exact tbT_readZombiesOf_14 hd h1 h3 h4 ih
theorem tfT_readZombiesOf {Φ : ev_P} {d : Nat} (hd : 1 ≤ d) {g : gH} (hg : HR g) {v0 v1 : Int} (hK0 : kd v0 = 5) (h1 : RfR v1) : Go Φ pr_P fN 1 (fT_readZombiesOf g v0 v1) d (pr_P 302) 0 (ev_loc (pr_P 302).1 [(sR v0), (sR v1)]) [] g 0 0 := by
  show Go Φ pr_P fN 1 (fT_readZombiesOf g v0 v1) d pr_m302 0 [some (sR v0), some (sR v1), none, none, none, none, none] [] g 0 0
  unfold fT_readZombiesOf
  refine go_int k302_0 0 rfl ?_
  refine go_istore k302_1 rfl (loc2 := [some (sR v0), some (sR v1), some (sI 0), none, none, none, none]) rfl ?_
  refine go_aload k302_2 rfl ?_
  refine go_getR (bI := 1) k302_3 hg hK0 (by decide) rfl rfl (fun r1 => ?_)
  refine go_astore k302_6 rfl (loc2 := [some (sR v0), some (sR v1), some (sI 0), some (sR (g v0 1)), none, none, none]) rfl ?_
  refine go_aload k302_7 rfl ?_
  refine go_ck (fun q3 => ?_)
  refine go_alen k302_8 (ka_24 q3) (fun r2 => ?_)
  refine go_istore k302_9 rfl (loc2 := [some (sR v0), some (sR v1), some (sI 0), some (sR (g v0 1)), some (sI (sz (g v0 1))), none, none]) rfl ?_
  refine go_int k302_11 0 rfl ?_
  refine go_istore k302_12 rfl (loc2 := [some (sR v0), some (sR v1), some (sI 0), some (sR (g v0 1)), some (sI (sz (g v0 1))), some (sI 0), none]) rfl ?_
  exact tlT_readZombiesOf_14 hd h1 r1 r2 fu 0 (inR_b (Or.inl rfl)) 0 (inR_b (Or.inl rfl)) g hg (some (sR v0)) rfl none rfl
theorem tjT_letExit_133 {Φ : ev_P} {d : Nat} (hd : 4 ≤ d) {X92 : Int → gH → Option (Int × gH)} {g : gH} (hg : HR g) {v0 v1 v3 v4 v5 v6 v7 v8 v9 : Int} (hK0 : kd v0 = 5) (h1 : RfR v1) (h3 : RfR v3) (h4 : InR v4) (h5 : RfR v5) (h6 : RfR v6) (h7 : InR v7) (h8 : InR v8) (h9 : RfR v9) {s0 : Int} (z0 : B01 s0) (HX92 : ∀ (v8 : Int) (h8 : InR v8) (g : gH) (hg : HR g) (u2 : Option ev_V) (w2 : nwo u2) (u9 : Option ev_V) (w9 : nwo u9) (u10 : Option ev_V) (w10 : nwo u10), Go Φ pr_P fN 1 (X92 v8 g) d pr_m287 92 [some (sR v0), some (sR v1), u2, some (sR v3), some (sI v4), some (sR v5), some (sR v6), some (sI v7), some (sI v8), u9, u10] [] g 0 0) (u2 : Option ev_V) (w2 : nwo u2) (u10 : Option ev_V) (w10 : nwo u10) : Go Φ pr_P fN 1 (jT_letExit_133 X92 g v0 v1 v3 v4 v5 v6 v7 v8 v9 s0 ) d pr_m287 133 [some (sR v0), some (sR v1), u2, some (sR v3), some (sI v4), some (sR v5), some (sR v6), some (sI v7), some (sI v8), some (sR v9), u10] [(sI s0)] g 0 0 := by
  unfold jT_letExit_133
  refine go_istore k287_133 rfl (loc2 := [some (sR v0), some (sR v1), u2, some (sR v3), some (sI v4), some (sR v5), some (sR v6), some (sI v7), some (sI v8), some (sR v9), some (sI s0)]) rfl ?_
  refine go_aload k287_135 rfl ?_
  refine go_aload k287_136 rfl ?_
  refine go_iload k287_138 rfl ?_
  refine go_ifeq k287_140 (inR_b z0) (fun c53 => ?_) (fun c54 => ?_)
  · refine go_aload k287_148 rfl ?_
    refine go_aload k287_149 rfl ?_
    refine go_callP2 k287_151 rfl rfl rfl ⟨by decide, _, rfl, hK0⟩ ⟨Nat.zero_le _, Nat.zero_le _⟩ (by omega) (tfT_adopterOf (by omega) hg hK0  h9) (fun y55 r56 => ?_)
    refine go_callN0 k287_154 rfl rfl rfl ⟨by decide, _, rfl, hK0⟩ ⟨Nat.zero_le _, Nat.zero_le _⟩ (by omega) (tfT_adopt (by omega) hg hK0  h9 r56) (fun y59 g61 e62 => ?_)
    refine go_iinc k287_157 rfl rfl 1 rfl (loc2 := [some (sR v0), some (sR v1), u2, some (sR v3), some (sI v4), some (sR v5), some (sR v6), some (sI v7), some (sI (w32 (v8 + 1))), some (sR v9), some (sI s0)]) rfl ?_
    refine go_goto k287_160 ?_
    exact HX92 (w32 (v8 + 1)) (inR_w32 _) g61 e62 u2 w2 (some (sR v9)) rfl (some (sI s0)) rfl
  · refine go_aload k287_143 rfl ?_
    refine go_goto k287_145 ?_
    refine go_callN0 k287_154 rfl rfl rfl ⟨by decide, _, rfl, hK0⟩ ⟨Nat.zero_le _, Nat.zero_le _⟩ (by omega) (tfT_adopt (by omega) hg hK0  h9 h5) (fun y63 g65 e66 => ?_)
    refine go_iinc k287_157 rfl rfl 1 rfl (loc2 := [some (sR v0), some (sR v1), u2, some (sR v3), some (sI v4), some (sR v5), some (sR v6), some (sI v7), some (sI (w32 (v8 + 1))), some (sR v9), some (sI s0)]) rfl ?_
    refine go_goto k287_160 ?_
    exact HX92 (w32 (v8 + 1)) (inR_w32 _) g65 e66 u2 w2 (some (sR v9)) rfl (some (sI s0)) rfl
theorem tjT_letExit_132 {Φ : ev_P} {d : Nat} (hd : 4 ≤ d) {X92 : Int → gH → Option (Int × gH)} {g : gH} (hg : HR g) {v0 v1 v3 v4 v5 v6 v7 v8 v9 : Int} (hK0 : kd v0 = 5) (h1 : RfR v1) (h3 : RfR v3) (h4 : InR v4) (h5 : RfR v5) (h6 : RfR v6) (h7 : InR v7) (h8 : InR v8) (h9 : RfR v9) (HX92 : ∀ (v8 : Int) (h8 : InR v8) (g : gH) (hg : HR g) (u2 : Option ev_V) (w2 : nwo u2) (u9 : Option ev_V) (w9 : nwo u9) (u10 : Option ev_V) (w10 : nwo u10), Go Φ pr_P fN 1 (X92 v8 g) d pr_m287 92 [some (sR v0), some (sR v1), u2, some (sR v3), some (sI v4), some (sR v5), some (sR v6), some (sI v7), some (sI v8), u9, u10] [] g 0 0) (u2 : Option ev_V) (w2 : nwo u2) (u10 : Option ev_V) (w10 : nwo u10) : Go Φ pr_P fN 1 (jT_letExit_132 X92 g v0 v1 v3 v4 v5 v6 v7 v8 v9 ) d pr_m287 132 [some (sR v0), some (sR v1), u2, some (sR v3), some (sI v4), some (sR v5), some (sR v6), some (sI v7), some (sI v8), some (sR v9), u10] [] g 0 0 := by
  unfold jT_letExit_132
  refine go_int k287_132 0 rfl ?_
  exact tjT_letExit_133 hd hg hK0 h1 h3 h4 h5 h6 h7 h8 h9 (Or.inl rfl) HX92 u2 w2 u10 w10
theorem tjT_letExit_212 {Φ : ev_P} {d : Nat} (hd : 4 ≤ d) {g : gH} (hg : HR g) {v0 v3 v4 : Int} (hK0 : kd v0 = 5) (h3 : RfR v3) (h4 : InR v4) (u1 : Option ev_V) (w1 : nwo u1) (u2 : Option ev_V) (w2 : nwo u2) (u5 : Option ev_V) (w5 : nwo u5) (u6 : Option ev_V) (w6 : nwo u6) (u7 : Option ev_V) (w7 : nwo u7) (u8 : Option ev_V) (w8 : nwo u8) (u9 : Option ev_V) (w9 : nwo u9) (u10 : Option ev_V) (w10 : nwo u10) : Go Φ pr_P fN 1 (jT_letExit_212 g v0 v3 v4 ) d pr_m287 212 [some (sR v0), u1, u2, some (sR v3), some (sI v4), u5, u6, u7, u8, u9, u10] [] g 0 0 := by
  unfold jT_letExit_212
  refine go_aload k287_212 rfl ?_
  refine go_aload k287_213 rfl ?_
  refine go_getR (bI := 0) k287_214 hg hK0 (by decide) rfl rfl (fun r83 => ?_)
  refine go_acmp k287_217 h3 r83 (fun c84 => ?_) (fun c85 => ?_)
  · refine go_aload k287_220 rfl ?_
    refine go_aload k287_221 rfl ?_
    refine go_getR (bI := 0) k287_222 hg hK0 (by decide) rfl rfl (fun r86 => ?_)
    refine go_callN1 k287_225 rfl rfl rfl ⟨by decide, _, rfl, hK0⟩ ⟨Nat.zero_le _, Nat.zero_le _⟩ (by omega) (tfT_readZombiesOf (by omega) hg hK0  r86) (fun y87 g89 r88 e90 => ?_)
    refine go_popI k287_228 ?_
    refine go_aload k287_229 rfl ?_
    refine go_getI (bI := 8) k287_230 e90 hK0 (by decide) rfl rfl (fun r91 => ?_)
    refine go_iload k287_233 rfl ?_
    refine go_isub k287_235 ?_
    exact go_iret k287_236 e90 (inR_w32 _) ⟨Nat.zero_le _, Nat.zero_le _⟩ rfl
  · refine go_aload k287_229 rfl ?_
    refine go_getI (bI := 8) k287_230 hg hK0 (by decide) rfl rfl (fun r92 => ?_)
    refine go_iload k287_233 rfl ?_
    refine go_isub k287_235 ?_
    exact go_iret k287_236 hg (inR_w32 _) ⟨Nat.zero_le _, Nat.zero_le _⟩ rfl
theorem tbT_letExit_177 {Φ : ev_P} {d : Nat} (hd : 4 ≤ d) {v0 v1 v3 v4 v6 v7 : Int} (hK0 : kd v0 = 5) (h1 : RfR v1) (h3 : RfR v3) (h4 : InR v4) (h6 : RfR v6) (h7 : InR v7) {X177 : Int → gH → Option (Int × gH)} (HX177 : ∀ (v8 : Int) (h8 : InR v8) (g : gH) (hg : HR g) (u2 : Option ev_V) (w2 : nwo u2) (u5 : Option ev_V) (w5 : nwo u5) (u9 : Option ev_V) (w9 : nwo u9) (u10 : Option ev_V) (w10 : nwo u10), Go Φ pr_P fN 1 (X177 v8 g) d pr_m287 177 [some (sR v0), some (sR v1), u2, some (sR v3), some (sI v4), u5, some (sR v6), some (sI v7), some (sI v8), u9, u10] [] g 0 0) : ∀ (v8 : Int) (h8 : InR v8) (g : gH) (hg : HR g) (u2 : Option ev_V) (w2 : nwo u2) (u5 : Option ev_V) (w5 : nwo u5) (u9 : Option ev_V) (w9 : nwo u9) (u10 : Option ev_V) (w10 : nwo u10), Go Φ pr_P fN 1 (bT_letExit_177 v0 v1 v3 v4 v6 v7 X177 v8 g) d pr_m287 177 [some (sR v0), some (sR v1), u2, some (sR v3), some (sI v4), u5, some (sR v6), some (sI v7), some (sI v8), u9, u10] [] g 0 0 := by
  intro v8 h8 g hg u2 w2 u5 w5 u9 w9 u10 w10
  unfold bT_letExit_177
  refine go_iload k287_177 rfl ?_
  refine go_iload k287_179 rfl ?_
  refine go_cmlt k287_181 h8 h7 (fun c70 => ?_) (fun c71 => ?_)
  · refine go_aload k287_184 rfl ?_
    refine go_iload k287_186 rfl ?_
    refine go_ck (fun q73 => ?_)
    refine go_pald k287_188 hg q73 (fun r72 => ?_)
    refine go_astore k287_189 rfl (loc2 := [some (sR v0), some (sR v1), u2, some (sR v3), some (sI v4), u5, some (sR v6), some (sI v7), some (sI v8), some (sR (g v6 v8)), u10]) rfl ?_
    refine go_aload k287_191 rfl ?_
    refine go_aload k287_193 rfl ?_
    refine go_ck (fun q74 => ?_)
    refine go_callP3 k287_194 rfl rfl rfl ⟨by decide, _, rfl, q74⟩ ⟨Nat.zero_le _, Nat.zero_le _⟩ (by omega) (tfP_isZombieOf (by omega) hg q74  h1) (fun y75 r76 => ?_)
    refine go_ifeq k287_197 (inR_b r76) (fun c79 => ?_) (fun c80 => ?_)
    · refine go_iinc k287_206 rfl rfl 1 rfl (loc2 := [some (sR v0), some (sR v1), u2, some (sR v3), some (sI v4), u5, some (sR v6), some (sI v7), some (sI (w32 (v8 + 1))), some (sR (g v6 v8)), u10]) rfl ?_
      refine go_goto k287_209 ?_
      exact HX177 (w32 (v8 + 1)) (inR_w32 _) g hg u2 w2 u5 w5 (some (sR (g v6 v8))) rfl u10 w10
    · refine go_aload k287_200 rfl ?_
      refine go_aload k287_202 rfl ?_
      refine go_putR (bI := 2) k287_203 hg q74 (by decide) rfl rfl h3 (fun g81 e82 => ?_)
      refine go_iinc k287_206 rfl rfl 1 rfl (loc2 := [some (sR v0), some (sR v1), u2, some (sR v3), some (sI v4), u5, some (sR v6), some (sI v7), some (sI (w32 (v8 + 1))), some (sR (g v6 v8)), u10]) rfl ?_
      refine go_goto k287_209 ?_
      exact HX177 (w32 (v8 + 1)) (inR_w32 _) g81 e82 u2 w2 u5 w5 (some (sR (g v6 v8))) rfl u10 w10
  · exact tjT_letExit_212 hd hg hK0 h3 h4 (some (sR v1)) rfl u2 w2 u5 w5 (some (sR v6)) rfl (some (sI v7)) rfl (some (sI v8)) rfl u9 w9 u10 w10
theorem tlT_letExit_177 {Φ : ev_P} {d : Nat} (hd : 4 ≤ d) {v0 v1 v3 v4 v6 v7 : Int} (hK0 : kd v0 = 5) (h1 : RfR v1) (h3 : RfR v3) (h4 : InR v4) (h6 : RfR v6) (h7 : InR v7) : ∀ n : Nat, ∀ (v8 : Int) (h8 : InR v8) (g : gH) (hg : HR g) (u2 : Option ev_V) (w2 : nwo u2) (u5 : Option ev_V) (w5 : nwo u5) (u9 : Option ev_V) (w9 : nwo u9) (u10 : Option ev_V) (w10 : nwo u10), Go Φ pr_P fN 1 (lT_letExit_177 v0 v1 v3 v4 v6 v7 n v8 g) d pr_m287 177 [some (sR v0), some (sR v1), u2, some (sR v3), some (sI v4), u5, some (sR v6), some (sI v7), some (sI v8), u9, u10] [] g 0 0 := by
  intro n
  induction n with
  | zero => intros; exact go_none
  | succ n ih => exact tbT_letExit_177 hd hK0 h1 h3 h4 h6 h7 ih
theorem tjT_letExit_163 {Φ : ev_P} {d : Nat} (hd : 4 ≤ d) {g : gH} (hg : HR g) {v0 v1 v3 v4 : Int} (hK0 : kd v0 = 5) (h1 : RfR v1) (h3 : RfR v3) (h4 : InR v4) (u2 : Option ev_V) (w2 : nwo u2) (u5 : Option ev_V) (w5 : nwo u5) (u6 : Option ev_V) (w6 : nwo u6) (u7 : Option ev_V) (w7 : nwo u7) (u8 : Option ev_V) (w8 : nwo u8) (u9 : Option ev_V) (w9 : nwo u9) (u10 : Option ev_V) (w10 : nwo u10) : Go Φ pr_P fN 1 (jT_letExit_163 g v0 v1 v3 v4 ) d pr_m287 163 [some (sR v0), some (sR v1), u2, some (sR v3), some (sI v4), u5, u6, u7, u8, u9, u10] [] g 0 0 := by
  unfold jT_letExit_163
  refine go_aload k287_163 rfl ?_
  refine go_getR (bI := 1) k287_164 hg hK0 (by decide) rfl rfl (fun r67 => ?_)
  refine go_astore k287_167 w5 (loc2 := [some (sR v0), some (sR v1), u2, some (sR v3), some (sI v4), u5, some (sR (g v0 1)), u7, u8, u9, u10]) rfl ?_
  refine go_aload k287_169 rfl ?_
  refine go_ck (fun q69 => ?_)
  refine go_alen k287_171 (ka_24 q69) (fun r68 => ?_)
  refine go_istore k287_172 rfl (loc2 := [some (sR v0), some (sR v1), u2, some (sR v3), some (sI v4), u5, some (sR (g v0 1)), some (sI (sz (g v0 1))), u8, u9, u10]) rfl ?_
  refine go_int k287_174 0 rfl ?_
  refine go_istore k287_175 rfl (loc2 := [some (sR v0), some (sR v1), u2, some (sR v3), some (sI v4), u5, some (sR (g v0 1)), some (sI (sz (g v0 1))), some (sI 0), u9, u10]) rfl ?_
  exact tlT_letExit_177 hd hK0 h1 h3 h4 r67 r68 fu 0 (inR_b (Or.inl rfl)) g hg u2 w2 u5 w5 u9 w9 u10 w10
theorem tbT_letExit_92 {Φ : ev_P} {d : Nat} (hd : 4 ≤ d) {v0 v1 v3 v4 v5 v6 v7 : Int} (hK0 : kd v0 = 5) (h1 : RfR v1) (h3 : RfR v3) (h4 : InR v4) (h5 : RfR v5) (h6 : RfR v6) (h7 : InR v7) {X92 : Int → gH → Option (Int × gH)} (HX92 : ∀ (v8 : Int) (h8 : InR v8) (g : gH) (hg : HR g) (u2 : Option ev_V) (w2 : nwo u2) (u9 : Option ev_V) (w9 : nwo u9) (u10 : Option ev_V) (w10 : nwo u10), Go Φ pr_P fN 1 (X92 v8 g) d pr_m287 92 [some (sR v0), some (sR v1), u2, some (sR v3), some (sI v4), some (sR v5), some (sR v6), some (sI v7), some (sI v8), u9, u10] [] g 0 0) : ∀ (v8 : Int) (h8 : InR v8) (g : gH) (hg : HR g) (u2 : Option ev_V) (w2 : nwo u2) (u9 : Option ev_V) (w9 : nwo u9) (u10 : Option ev_V) (w10 : nwo u10), Go Φ pr_P fN 1 (bT_letExit_92 v0 v1 v3 v4 v5 v6 v7 X92 v8 g) d pr_m287 92 [some (sR v0), some (sR v1), u2, some (sR v3), some (sI v4), some (sR v5), some (sR v6), some (sI v7), some (sI v8), u9, u10] [] g 0 0 := by
  intro v8 h8 g hg u2 w2 u9 w9 u10 w10
  unfold bT_letExit_92
  refine go_iload k287_92 rfl ?_
  refine go_iload k287_94 rfl ?_
  refine go_cmlt k287_96 h8 h7 (fun c33 => ?_) (fun c34 => ?_)
  · refine go_aload k287_99 rfl ?_
    refine go_iload k287_101 rfl ?_
    refine go_ck (fun q36 => ?_)
    refine go_pald k287_103 hg q36 (fun r35 => ?_)
    refine go_astore k287_104 rfl (loc2 := [some (sR v0), some (sR v1), u2, some (sR v3), some (sI v4), some (sR v5), some (sR v6), some (sI v7), some (sI v8), some (sR (g v6 v8)), u10]) rfl ?_
    refine go_aload k287_106 rfl ?_
    refine go_aload k287_108 rfl ?_
    refine go_ck (fun q37 => ?_)
    refine go_callP3 k287_109 rfl rfl rfl ⟨by decide, _, rfl, q37⟩ ⟨Nat.zero_le _, Nat.zero_le _⟩ (by omega) (tfP_isRunningChildOf (by omega) hg q37  h1) (fun y38 r39 => ?_)
    refine go_ifeq k287_112 (inR_b r39) (fun c42 => ?_) (fun c43 => ?_)
    · refine go_iinc k287_157 rfl rfl 1 rfl (loc2 := [some (sR v0), some (sR v1), u2, some (sR v3), some (sI v4), some (sR v5), some (sR v6), some (sI v7), some (sI (w32 (v8 + 1))), some (sR (g v6 v8)), u10]) rfl ?_
      refine go_goto k287_160 ?_
      exact HX92 (w32 (v8 + 1)) (inR_w32 _) g hg u2 w2 (some (sR (g v6 v8))) rfl u10 w10
    · refine go_aload k287_115 rfl ?_
      refine go_isnull k287_117  (fun c44 => ?_) (fun c45 => ?_)
      · exact tjT_letExit_132 hd hg hK0 h1 h3 h4 h5 h6 h7 h8 r35 HX92 u2 w2 u10 w10
      · refine go_aload k287_120 rfl ?_
        refine go_ck (fun q46 => ?_)
        refine go_callP1 k287_122 rfl rfl rfl ⟨by decide, _, rfl, q46⟩ ⟨Nat.zero_le _, Nat.zero_le _⟩ (by omega) (tfP_room (by omega) hg q46 ) (fun y47 r48 => ?_)
        refine go_ifgt k287_125 r48 (fun c51 => ?_) (fun c52 => ?_)
        · refine go_int k287_128 1 rfl ?_
          refine go_goto k287_129 ?_
          exact tjT_letExit_133 hd hg hK0 h1 h3 h4 h5 h6 h7 h8 r35 (Or.inr rfl) HX92 u2 w2 u10 w10
        · exact tjT_letExit_132 hd hg hK0 h1 h3 h4 h5 h6 h7 h8 r35 HX92 u2 w2 u10 w10
  · exact tjT_letExit_163 hd hg hK0 h1 h3 h4 u2 w2 (some (sR v5)) rfl (some (sR v6)) rfl (some (sI v7)) rfl (some (sI v8)) rfl u9 w9 u10 w10
theorem tlT_letExit_92 {Φ : ev_P} {d : Nat} (hd : 4 ≤ d) {v0 v1 v3 v4 v5 v6 v7 : Int} (hK0 : kd v0 = 5) (h1 : RfR v1) (h3 : RfR v3) (h4 : InR v4) (h5 : RfR v5) (h6 : RfR v6) (h7 : InR v7) : ∀ n : Nat, ∀ (v8 : Int) (h8 : InR v8) (g : gH) (hg : HR g) (u2 : Option ev_V) (w2 : nwo u2) (u9 : Option ev_V) (w9 : nwo u9) (u10 : Option ev_V) (w10 : nwo u10), Go Φ pr_P fN 1 (lT_letExit_92 v0 v1 v3 v4 v5 v6 v7 n v8 g) d pr_m287 92 [some (sR v0), some (sR v1), u2, some (sR v3), some (sI v4), some (sR v5), some (sR v6), some (sI v7), some (sI v8), u9, u10] [] g 0 0 := by
  intro n
  induction n with
  | zero => intros; exact go_none
  | succ n ih => exact tbT_letExit_92 hd hK0 h1 h3 h4 h5 h6 h7 ih
theorem tjT_letExit_69 {Φ : ev_P} {d : Nat} (hd : 4 ≤ d) {g : gH} (hg : HR g) {v0 v1 v3 v4 : Int} (hK0 : kd v0 = 5) (h1 : RfR v1) (h3 : RfR v3) (h4 : InR v4) {s0 : Int} (z0 : RfR s0) (u2 : Option ev_V) (w2 : nwo u2) (u5 : Option ev_V) (w5 : nwo u5) (u6 : Option ev_V) (w6 : nwo u6) (u7 : Option ev_V) (w7 : nwo u7) (u8 : Option ev_V) (w8 : nwo u8) (u9 : Option ev_V) (w9 : nwo u9) (u10 : Option ev_V) (w10 : nwo u10) : Go Φ pr_P fN 1 (jT_letExit_69 g v0 v1 v3 v4 s0 ) d pr_m287 69 [some (sR v0), some (sR v1), u2, some (sR v3), some (sI v4), u5, u6, u7, u8, u9, u10] [(sR s0)] g 0 0 := by
  unfold jT_letExit_69
  refine go_astore k287_69 rfl (loc2 := [some (sR v0), some (sR v1), u2, some (sR v3), some (sI v4), some (sR s0), u6, u7, u8, u9, u10]) rfl ?_
  refine go_aload k287_71 rfl ?_
  refine go_aload k287_72 rfl ?_
  refine go_aload k287_73 rfl ?_
  refine go_callN0 k287_75 rfl rfl rfl ⟨by decide, _, rfl, hK0⟩ ⟨Nat.zero_le _, Nat.zero_le _⟩ (by omega) (tfT_passDuties (by omega) hg hK0  h1 z0) (fun y26 g28 e29 => ?_)
  refine go_aload k287_78 rfl ?_
  refine go_getR (bI := 1) k287_79 e29 hK0 (by decide) rfl rfl (fun r30 => ?_)
  refine go_astore k287_82 rfl (loc2 := [some (sR v0), some (sR v1), u2, some (sR v3), some (sI v4), some (sR s0), some (sR (g28 v0 1)), u7, u8, u9, u10]) rfl ?_
  refine go_aload k287_84 rfl ?_
  refine go_ck (fun q32 => ?_)
  refine go_alen k287_86 (ka_24 q32) (fun r31 => ?_)
  refine go_istore k287_87 rfl (loc2 := [some (sR v0), some (sR v1), u2, some (sR v3), some (sI v4), some (sR s0), some (sR (g28 v0 1)), some (sI (sz (g28 v0 1))), u8, u9, u10]) rfl ?_
  refine go_int k287_89 0 rfl ?_
  refine go_istore k287_90 rfl (loc2 := [some (sR v0), some (sR v1), u2, some (sR v3), some (sI v4), some (sR s0), some (sR (g28 v0 1)), some (sI (sz (g28 v0 1))), some (sI 0), u9, u10]) rfl ?_
  exact tlT_letExit_92 hd hK0 h1 h3 h4 z0 r30 r31 fu 0 (inR_b (Or.inl rfl)) g28 e29 u2 w2 u9 w9 u10 w10
theorem tfT_letExit {Φ : ev_P} {d : Nat} (hd : 4 ≤ d) {g : gH} (hg : HR g) {v0 v1 v2 : Int} (hK0 : kd v0 = 5) (h1 : RfR v1) (h2 : InR v2) : Go Φ pr_P fN 1 (fT_letExit g v0 v1 v2) d (pr_P 287) 0 (ev_loc (pr_P 287).1 [(sR v0), (sR v1), (sI v2)]) [] g 0 0 := by
  show Go Φ pr_P fN 1 (fT_letExit g v0 v1 v2) d pr_m287 0 [some (sR v0), some (sR v1), some (sI v2), none, none, none, none, none, none, none, none] [] g 0 0
  unfold fT_letExit
  refine go_aload k287_0 rfl ?_
  refine go_ck (fun q1 => ?_)
  refine go_getR (bI := 2) k287_1 hg q1 (by decide) rfl rfl (fun r2 => ?_)
  refine go_astore k287_4 rfl (loc2 := [some (sR v0), some (sR v1), some (sI v2), some (sR (g v1 2)), none, none, none, none, none, none, none]) rfl ?_
  refine go_aload k287_5 rfl ?_
  refine go_isnull k287_6  (fun c3 => ?_) (fun c4 => ?_)
  · refine go_int k287_9 0 rfl ?_
    exact go_iret k287_10 hg (inR_b (Or.inl rfl)) ⟨Nat.zero_le _, Nat.zero_le _⟩ rfl
  · refine go_aload k287_11 rfl ?_
    refine go_getI (bI := 8) k287_12 hg hK0 (by decide) rfl rfl (fun r5 => ?_)
    refine go_istore k287_15 rfl (loc2 := [some (sR v0), some (sR v1), some (sI v2), some (sR (g v1 2)), some (sI (g v0 8)), none, none, none, none, none, none]) rfl ?_
    refine go_aload k287_17 rfl ?_
    refine go_int k287_18 1 rfl ?_
    refine go_putI (bI := 1) k287_19 hg q1 (by decide) rfl rfl (inR_b (Or.inr rfl)) (fun g6 e7 => ?_)
    refine go_aload k287_22 rfl ?_
    refine go_iload k287_23 rfl ?_
    refine go_putI (bI := 9) k287_24 e7 q1 (by decide) rfl rfl h2 (fun g8 e9 => ?_)
    refine go_aload k287_27 rfl ?_
    refine go_aload k287_28 rfl ?_
    refine go_getI (bI := 6) k287_29 e9 hK0 (by decide) rfl rfl (fun r10 => ?_)
    refine go_putI (bI := 10) k287_32 e9 q1 (by decide) rfl rfl r10 (fun g11 e12 => ?_)
    refine go_aload k287_35 rfl ?_
    refine go_dupR k287_36 ?_
    refine go_getI (bI := 6) k287_37 e12 hK0 (by decide) rfl rfl (fun r13 => ?_)
    refine go_int k287_40 1 rfl ?_
    refine go_iadd k287_41 ?_
    refine go_putI (bI := 6) k287_42 e12 hK0 (by decide) rfl rfl (inR_w32 _) (fun g14 e15 => ?_)
    refine go_aload k287_45 rfl ?_
    refine go_dupR k287_46 ?_
    refine go_ck (fun q16 => ?_)
    refine go_getI (bI := 3) k287_47 e15 q16 (by decide) rfl rfl (fun r17 => ?_)
    refine go_int k287_50 1 rfl ?_
    refine go_isub k287_51 ?_
    refine go_putI (bI := 3) k287_52 e15 q16 (by decide) rfl rfl (inR_w32 _) (fun g18 e19 => ?_)
    refine go_iload k287_55 rfl ?_
    refine go_ifeq k287_56 h2 (fun c20 => ?_) (fun c21 => ?_)
    · refine go_null k287_59 ?_
      refine go_goto k287_60 ?_
      exact tjT_letExit_69 hd e19 hK0 h1 r2 r5 rfR_null (some (sI v2)) rfl none rfl none rfl none rfl none rfl none rfl none rfl
    · refine go_aload k287_63 rfl ?_
      refine go_aload k287_64 rfl ?_
      refine go_aload k287_65 rfl ?_
      refine go_callN2 k287_66 rfl rfl rfl ⟨by decide, _, rfl, hK0⟩ ⟨Nat.zero_le _, Nat.zero_le _⟩ (by omega) (tfT_replace (by omega) e19 hK0  h1 r2) (fun y22 g24 r23 e25 => ?_)
      exact tjT_letExit_69 hd e25 hK0 h1 r2 r5 r23 (some (sI v2)) rfl none rfl none rfl none rfl none rfl none rfl none rfl
theorem tfC_exit {Φ : ev_P} {d : Nat} (hd : 5 ≤ d) {g : gH} (hg : HR g) {v0 v1 v2 : Int} (hK0 : kd v0 = 6) (h1 : InR v1) (h2 : InR v2) : Go Φ pr_P fT 1 (fC_exit g v0 v1 v2) d (pr_P 18) 0 (ev_loc (pr_P 18).1 [(sR v0), (sI v1), (sI v2)]) [] g 0 0 := by
  show Go Φ pr_P fT 1 (fC_exit g v0 v1 v2) d pr_m18 0 [some (sR v0), some (sI v1), some (sI v2), none] [] g 0 0
  unfold fC_exit
  refine go_aload k18_0 rfl ?_
  refine go_iload k18_1 rfl ?_
  refine go_iload k18_2 rfl ?_
  refine go_callQ2 k18_3 rfl rfl rfl ⟨by decide, _, rfl, hK0⟩ ⟨by decide, by decide⟩ (by omega) (tfC_namedForExit (by omega) hg hK0  h1 h2) (fun y1 r2 => ?_) (fun e5 E6 => ge_prop rfl ⟨by decide, by decide⟩ e5 rfl)
  refine go_astore k18_6 rfl (loc2 := [some (sR v0), some (sI v1), some (sI v2), some (sR y1)]) rfl ?_
  refine go_aload k18_7 rfl ?_
  refine go_getR (bI := 3) k18_8 hg hK0 (by decide) rfl rfl (fun r7 => ?_)
  refine go_aload k18_11 rfl ?_
  refine go_getR (bI := 0) k18_12 hg hK0 (by decide) rfl rfl (fun r8 => ?_)
  refine go_ck (fun q9 => ?_)
  refine go_callN0 k18_15 rfl rfl rfl ⟨by decide, _, rfl, q9⟩ ⟨by decide, by decide⟩ (by omega) (tfH_push (by omega) hg q9  r8) (fun y10 g12 e13 => ?_)
  refine go_aload k18_18 rfl ?_
  refine go_getR (bI := 0) k18_19 e13 hK0 (by decide) rfl rfl (fun r14 => ?_)
  refine go_aload k18_22 rfl ?_
  refine go_iload k18_23 rfl ?_
  refine go_ck (fun q15 => ?_)
  refine go_callN1 k18_24 rfl rfl rfl ⟨by decide, _, rfl, q15⟩ ⟨by decide, by decide⟩ (by omega) (tfT_letExit (by omega) e13 q15  r2 h2) (fun y16 g18 r17 e19 => ?_)
  exact go_iret k18_27 e19 r17 ⟨by decide, by decide⟩ rfl
theorem tfW_exit {Φ : ev_P} {d : Nat} (hd : 6 ≤ d) {g : gH} (hg : HR g) {v0 v1 v2 v3 : Int} (h0 : RfR v0) (h1 : InR v1) (h2 : InR v2) (h3 : RfR v3) : Go Φ pr_P fN 1 (fW_exit g v0 v1 v2 v3) d (pr_P 314) 0 (ev_loc (pr_P 314).1 [(sR v0), (sI v1), (sI v2), (sR v3)]) [] g 0 0 := by
  show Go Φ pr_P fN 1 (fW_exit g v0 v1 v2 v3) d pr_m314 0 [some (sR v0), some (sI v1), some (sI v2), some (sR v3), none] [] g 0 0
  unfold fW_exit
  refine go_aload k314_0 rfl ?_
  refine go_int k314_1 0 rfl ?_
  refine go_aload k314_2 rfl ?_
  refine go_iload k314_3 rfl ?_
  refine go_iload k314_4 rfl ?_
  refine go_ck (fun q1 => ?_)
  refine go_callT1 k314_5 rfl rfl rfl ⟨by decide, _, rfl, q1⟩ ⟨by decide, by decide⟩ (by omega) (tfC_exit (by omega) hg q1  h1 h2) (fun y2 g4 r3 e5 => ?_) (fun E7 g4 e6 => ?_)
  · refine go_i2l k314_8 r3 ?_
    refine go_ck (fun q8 => ?_)
    refine go_last k314_9 e5 q8 (inL_R r3) (fun g9 e10 => ?_)
    refine go_goto k314_10 ?_
    refine go_int k314_25 0 rfl ?_
    exact go_iret k314_26 e10 (inR_b (Or.inl rfl)) ⟨by decide, by decide⟩ rfl
  · refine ge_ite (fun hE9 => ?_) (fun _ => ?_)
    · subst hE9
      refine ge_catch rfl k314_13 rfl (loc2 := [some (sR v0), some (sI v1), some (sI v2), some (sR v3), none]) rfl ?_
      refine go_int k314_15 1 rfl ?_
      exact go_iret k314_16 e6 (inR_b (Or.inr rfl)) ⟨by decide, by decide⟩ rfl
    refine ge_ite (fun hE9 => ?_) (fun _ => ?_)
    · subst hE9
      refine ge_catch rfl k314_17 rfl (loc2 := [some (sR v0), some (sI v1), some (sI v2), some (sR v3), none]) rfl ?_
      refine go_int k314_19 2 rfl ?_
      exact go_iret k314_20 e6 (inR_of (by decide)) ⟨by decide, by decide⟩ rfl
    refine ge_ite (fun hE9 => ?_) (fun _ => ?_)
    · subst hE9
      refine ge_catch rfl k314_21 rfl (loc2 := [some (sR v0), some (sI v1), some (sI v2), some (sR v3), none]) rfl ?_
      refine go_int k314_23 3 rfl ?_
      exact go_iret k314_24 e6 (inR_of (by decide)) ⟨by decide, by decide⟩ rfl
    exact ge_none
theorem tfC_checkKill {Φ : ev_P} {d : Nat} (hd : 1 ≤ d) {g : gH} (hg : HR g) {v0 v1 : Int} (h0 : InR v0) (h1 : InR v1) : Go Φ pr_P (fQ g) 0 (fC_checkKill g v0 v1) d (pr_P 70) 0 (ev_loc (pr_P 70).1 [(sI v0), (sI v1)]) [] g 0 0 := by
  show Go Φ pr_P (fQ g) 0 (fC_checkKill g v0 v1) d pr_m70 0 [some (sI v0), some (sI v1)] [] g 0 0
  unfold fC_checkKill
  refine go_iload k70_0 rfl ?_
  refine go_int k70_1 9 rfl ?_
  refine go_callQ0 k70_3 rfl rfl rfl trivial ⟨by decide, by decide⟩ (by omega) (tfC_checkRange (by omega) hg  h0 (inR_of (by decide))) (fun y1 => ?_) (fun e5 E6 => ge_prop rfl ⟨by decide, by decide⟩ e5 rfl)
  refine go_iload k70_6 rfl ?_
  refine go_int k70_7 255 rfl ?_
  refine go_callQ0 k70_10 rfl rfl rfl trivial ⟨by decide, by decide⟩ (by omega) (tfC_checkRange (by omega) hg  h1 (inR_of (by decide))) (fun y7 => ?_) (fun e11 E12 => ge_prop rfl ⟨by decide, by decide⟩ e11 rfl)
  exact go_vret k70_13 hg ⟨by decide, by decide⟩ rfl
theorem tbT_killGroup_127 {Φ : ev_P} {d : Nat} (hd : 5 ≤ d) {v3 v4 v5 : Int} (h3 : InR v3) (h4 : RfR v4) (h5 : InR v5) {X127 : Int → gH → Option (Int × gH)} (HX127 : ∀ (v6 : Int) (h6 : InR v6) (g : gH) (hg : HR g) (u0 : Option ev_V) (w0 : nwo u0) (u1 : Option ev_V) (w1 : nwo u1) (u2 : Option ev_V) (w2 : nwo u2) (u7 : Option ev_V) (w7 : nwo u7), Go Φ pr_P fN 1 (X127 v6 g) d pr_m299 127 [u0, u1, u2, some (sI v3), some (sR v4), some (sI v5), some (sI v6), u7] [] g 0 0) : ∀ (v6 : Int) (h6 : InR v6) (g : gH) (hg : HR g) (u0 : Option ev_V) (w0 : nwo u0) (u1 : Option ev_V) (w1 : nwo u1) (u2 : Option ev_V) (w2 : nwo u2) (u7 : Option ev_V) (w7 : nwo u7), Go Φ pr_P fN 1 (bT_killGroup_127 v3 v4 v5 X127 v6 g) d pr_m299 127 [u0, u1, u2, some (sI v3), some (sR v4), some (sI v5), some (sI v6), u7] [] g 0 0 := by
  intro v6 h6 g hg u0 w0 u1 w1 u2 w2 u7 w7
  unfold bT_killGroup_127
  refine go_iload k299_127 rfl ?_
  refine go_iload k299_129 rfl ?_
  refine go_cmlt k299_131 h6 h5 (fun c42 => ?_) (fun c43 => ?_)
  · refine go_aload k299_134 rfl ?_
    refine go_iload k299_136 rfl ?_
    refine go_ck (fun q45 => ?_)
    refine go_pald k299_138 hg q45 (fun r44 => ?_)
    refine go_astore k299_139 rfl (loc2 := [u0, u1, u2, some (sI v3), some (sR v4), some (sI v5), some (sI v6), some (sR (g v4 v6))]) rfl ?_
    refine go_aload k299_141 rfl ?_
    refine go_int k299_143 0 rfl ?_
    refine go_ck (fun q46 => ?_)
    refine go_putB (bI := 13) k299_144 hg q46 (by decide) rfl rfl (Or.inl rfl) (fun g47 e48 => ?_)
    refine go_iinc k299_147 rfl rfl 1 rfl (loc2 := [u0, u1, u2, some (sI v3), some (sR v4), some (sI v5), some (sI (w32 (v6 + 1))), some (sR (g v4 v6))]) rfl ?_
    refine go_goto k299_150 ?_
    exact HX127 (w32 (v6 + 1)) (inR_w32 _) g47 e48 u0 w0 u1 w1 u2 w2 (some (sR (g v4 v6))) rfl
  · refine go_iload k299_153 rfl ?_
    exact go_iret k299_154 hg h3 ⟨Nat.zero_le _, Nat.zero_le _⟩ rfl
theorem tlT_killGroup_127 {Φ : ev_P} {d : Nat} (hd : 5 ≤ d) {v3 v4 v5 : Int} (h3 : InR v3) (h4 : RfR v4) (h5 : InR v5) : ∀ n : Nat, ∀ (v6 : Int) (h6 : InR v6) (g : gH) (hg : HR g) (u0 : Option ev_V) (w0 : nwo u0) (u1 : Option ev_V) (w1 : nwo u1) (u2 : Option ev_V) (w2 : nwo u2) (u7 : Option ev_V) (w7 : nwo u7), Go Φ pr_P fN 1 (lT_killGroup_127 v3 v4 v5 n v6 g) d pr_m299 127 [u0, u1, u2, some (sI v3), some (sR v4), some (sI v5), some (sI v6), u7] [] g 0 0 := by
  intro n
  induction n with
  | zero => intros; exact go_none
  | succ n ih => exact tbT_killGroup_127 hd h3 h4 h5 ih
theorem tjT_killGroup_113 {Φ : ev_P} {d : Nat} (hd : 5 ≤ d) {g : gH} (hg : HR g) {v0 v3 : Int} (hK0 : kd v0 = 5) (h3 : InR v3) (u1 : Option ev_V) (w1 : nwo u1) (u2 : Option ev_V) (w2 : nwo u2) (u4 : Option ev_V) (w4 : nwo u4) (u5 : Option ev_V) (w5 : nwo u5) (u6 : Option ev_V) (w6 : nwo u6) (u7 : Option ev_V) (w7 : nwo u7) : Go Φ pr_P fN 1 (jT_killGroup_113 g v0 v3 ) d pr_m299 113 [some (sR v0), u1, u2, some (sI v3), u4, u5, u6, u7] [] g 0 0 := by
  unfold jT_killGroup_113
  refine go_aload k299_113 rfl ?_
  refine go_getR (bI := 1) k299_114 hg hK0 (by decide) rfl rfl (fun r39 => ?_)
  refine go_astore k299_117 rfl (loc2 := [some (sR v0), u1, u2, some (sI v3), some (sR (g v0 1)), u5, u6, u7]) rfl ?_
  refine go_aload k299_119 rfl ?_
  refine go_ck (fun q41 => ?_)
  refine go_alen k299_121 (ka_24 q41) (fun r40 => ?_)
  refine go_istore k299_122 rfl (loc2 := [some (sR v0), u1, u2, some (sI v3), some (sR (g v0 1)), some (sI (sz (g v0 1))), u6, u7]) rfl ?_
  refine go_int k299_124 0 rfl ?_
  refine go_istore k299_125 rfl (loc2 := [some (sR v0), u1, u2, some (sI v3), some (sR (g v0 1)), some (sI (sz (g v0 1))), some (sI 0), u7]) rfl ?_
  exact tlT_killGroup_127 hd h3 r39 r40 fu 0 (inR_b (Or.inl rfl)) g hg (some (sR v0)) rfl u1 w1 u2 w2 u7 w7
theorem tbT_killGroup_74 {Φ : ev_P} {d : Nat} (hd : 5 ≤ d) {v0 v2 v4 v5 : Int} (hK0 : kd v0 = 5) (h2 : InR v2) (h4 : RfR v4) (h5 : InR v5) {X74 : Int → Int → gH → Option (Int × gH)} (HX74 : ∀ (v3 : Int) (h3 : InR v3) (v6 : Int) (h6 : InR v6) (g : gH) (hg : HR g) (u1 : Option ev_V) (w1 : nwo u1) (u7 : Option ev_V) (w7 : nwo u7), Go Φ pr_P fN 1 (X74 v3 v6 g) d pr_m299 74 [some (sR v0), u1, some (sI v2), some (sI v3), some (sR v4), some (sI v5), some (sI v6), u7] [] g 0 0) : ∀ (v3 : Int) (h3 : InR v3) (v6 : Int) (h6 : InR v6) (g : gH) (hg : HR g) (u1 : Option ev_V) (w1 : nwo u1) (u7 : Option ev_V) (w7 : nwo u7), Go Φ pr_P fN 1 (bT_killGroup_74 v0 v2 v4 v5 X74 v3 v6 g) d pr_m299 74 [some (sR v0), u1, some (sI v2), some (sI v3), some (sR v4), some (sI v5), some (sI v6), u7] [] g 0 0 := by
  intro v3 h3 v6 h6 g hg u1 w1 u7 w7
  unfold bT_killGroup_74
  refine go_iload k299_74 rfl ?_
  refine go_iload k299_76 rfl ?_
  refine go_cmlt k299_78 h6 h5 (fun c27 => ?_) (fun c28 => ?_)
  · refine go_aload k299_81 rfl ?_
    refine go_iload k299_83 rfl ?_
    refine go_ck (fun q30 => ?_)
    refine go_pald k299_85 hg q30 (fun r29 => ?_)
    refine go_astore k299_86 rfl (loc2 := [some (sR v0), u1, some (sI v2), some (sI v3), some (sR v4), some (sI v5), some (sI v6), some (sR (g v4 v6))]) rfl ?_
    refine go_aload k299_88 rfl ?_
    refine go_ck (fun q31 => ?_)
    refine go_getB (bI := 13) k299_90 hg q31 (by decide) rfl rfl (fun r32 => ?_)
    refine go_ifeq k299_93 (inR_b r32) (fun c33 => ?_) (fun c34 => ?_)
    · refine go_iinc k299_107 rfl rfl 1 rfl (loc2 := [some (sR v0), u1, some (sI v2), some (sI v3), some (sR v4), some (sI v5), some (sI (w32 (v6 + 1))), some (sR (g v4 v6))]) rfl ?_
      refine go_goto k299_110 ?_
      exact HX74 v3 h3 (w32 (v6 + 1)) (inR_w32 _) g hg u1 w1 (some (sR (g v4 v6))) rfl
    · refine go_aload k299_96 rfl ?_
      refine go_aload k299_97 rfl ?_
      refine go_iload k299_99 rfl ?_
      refine go_callN1 k299_100 rfl rfl rfl ⟨by decide, _, rfl, hK0⟩ ⟨Nat.zero_le _, Nat.zero_le _⟩ (by omega) (tfT_letExit (by omega) hg hK0  r29 h2) (fun y35 g37 r36 e38 => ?_)
      refine go_popI k299_103 ?_
      refine go_iinc k299_104 rfl rfl 1 rfl (loc2 := [some (sR v0), u1, some (sI v2), some (sI (w32 (v3 + 1))), some (sR v4), some (sI v5), some (sI v6), some (sR (g v4 v6))]) rfl ?_
      refine go_iinc k299_107 rfl rfl 1 rfl (loc2 := [some (sR v0), u1, some (sI v2), some (sI (w32 (v3 + 1))), some (sR v4), some (sI v5), some (sI (w32 (v6 + 1))), some (sR (g v4 v6))]) rfl ?_
      refine go_goto k299_110 ?_
      exact HX74 (w32 (v3 + 1)) (inR_w32 _) (w32 (v6 + 1)) (inR_w32 _) g37 e38 u1 w1 (some (sR (g v4 v6))) rfl
  · exact tjT_killGroup_113 hd hg hK0 h3 u1 w1 (some (sI v2)) rfl (some (sR v4)) rfl (some (sI v5)) rfl (some (sI v6)) rfl u7 w7
theorem tlT_killGroup_74 {Φ : ev_P} {d : Nat} (hd : 5 ≤ d) {v0 v2 v4 v5 : Int} (hK0 : kd v0 = 5) (h2 : InR v2) (h4 : RfR v4) (h5 : InR v5) : ∀ n : Nat, ∀ (v3 : Int) (h3 : InR v3) (v6 : Int) (h6 : InR v6) (g : gH) (hg : HR g) (u1 : Option ev_V) (w1 : nwo u1) (u7 : Option ev_V) (w7 : nwo u7), Go Φ pr_P fN 1 (lT_killGroup_74 v0 v2 v4 v5 n v3 v6 g) d pr_m299 74 [some (sR v0), u1, some (sI v2), some (sI v3), some (sR v4), some (sI v5), some (sI v6), u7] [] g 0 0 := by
  intro n
  induction n with
  | zero => intros; exact go_none
  | succ n ih => exact tbT_killGroup_74 hd hK0 h2 h4 h5 ih
theorem tjT_killGroup_58 {Φ : ev_P} {d : Nat} (hd : 5 ≤ d) {g : gH} (hg : HR g) {v0 v2 : Int} (hK0 : kd v0 = 5) (h2 : InR v2) (u1 : Option ev_V) (w1 : nwo u1) (u3 : Option ev_V) (w3 : nwo u3) (u4 : Option ev_V) (w4 : nwo u4) (u5 : Option ev_V) (w5 : nwo u5) (u6 : Option ev_V) (w6 : nwo u6) (u7 : Option ev_V) (w7 : nwo u7) : Go Φ pr_P fN 1 (jT_killGroup_58 g v0 v2 ) d pr_m299 58 [some (sR v0), u1, some (sI v2), u3, u4, u5, u6, u7] [] g 0 0 := by
  unfold jT_killGroup_58
  refine go_int k299_58 0 rfl ?_
  refine go_istore k299_59 rfl (loc2 := [some (sR v0), u1, some (sI v2), some (sI 0), u4, u5, u6, u7]) rfl ?_
  refine go_aload k299_60 rfl ?_
  refine go_getR (bI := 1) k299_61 hg hK0 (by decide) rfl rfl (fun r24 => ?_)
  refine go_astore k299_64 rfl (loc2 := [some (sR v0), u1, some (sI v2), some (sI 0), some (sR (g v0 1)), u5, u6, u7]) rfl ?_
  refine go_aload k299_66 rfl ?_
  refine go_ck (fun q26 => ?_)
  refine go_alen k299_68 (ka_24 q26) (fun r25 => ?_)
  refine go_istore k299_69 rfl (loc2 := [some (sR v0), u1, some (sI v2), some (sI 0), some (sR (g v0 1)), some (sI (sz (g v0 1))), u6, u7]) rfl ?_
  refine go_int k299_71 0 rfl ?_
  refine go_istore k299_72 rfl (loc2 := [some (sR v0), u1, some (sI v2), some (sI 0), some (sR (g v0 1)), some (sI (sz (g v0 1))), some (sI 0), u7]) rfl ?_
  exact tlT_killGroup_74 hd hK0 h2 r24 r25 fu 0 (inR_b (Or.inl rfl)) 0 (inR_b (Or.inl rfl)) g hg u1 w1 u7 w7
theorem tbT_killGroup_12 {Φ : ev_P} {d : Nat} (hd : 5 ≤ d) {v0 v1 v2 v3 v4 : Int} (hK0 : kd v0 = 5) (h1 : InR v1) (h2 : InR v2) (h3 : RfR v3) (h4 : InR v4) {X12 : Int → gH → Option (Int × gH)} (HX12 : ∀ (v5 : Int) (h5 : InR v5) (g : gH) (hg : HR g) (u6 : Option ev_V) (w6 : nwo u6) (u7 : Option ev_V) (w7 : nwo u7), Go Φ pr_P fN 1 (X12 v5 g) d pr_m299 12 [some (sR v0), some (sI v1), some (sI v2), some (sR v3), some (sI v4), some (sI v5), u6, u7] [] g 0 0) : ∀ (v5 : Int) (h5 : InR v5) (g : gH) (hg : HR g) (u6 : Option ev_V) (w6 : nwo u6) (u7 : Option ev_V) (w7 : nwo u7), Go Φ pr_P fN 1 (bT_killGroup_12 v0 v1 v2 v3 v4 X12 v5 g) d pr_m299 12 [some (sR v0), some (sI v1), some (sI v2), some (sR v3), some (sI v4), some (sI v5), u6, u7] [] g 0 0 := by
  intro v5 h5 g hg u6 w6 u7 w7
  unfold bT_killGroup_12
  refine go_iload k299_12 rfl ?_
  refine go_iload k299_14 rfl ?_
  refine go_cmlt k299_16 h5 h4 (fun c4 => ?_) (fun c5 => ?_)
  · refine go_aload k299_19 rfl ?_
    refine go_iload k299_20 rfl ?_
    refine go_ck (fun q7 => ?_)
    refine go_pald k299_22 hg q7 (fun r6 => ?_)
    refine go_astore k299_23 rfl (loc2 := [some (sR v0), some (sI v1), some (sI v2), some (sR v3), some (sI v4), some (sI v5), some (sR (g v3 v5)), u7]) rfl ?_
    refine go_aload k299_25 rfl ?_
    refine go_aload k299_27 rfl ?_
    refine go_ck (fun q8 => ?_)
    refine go_callP3 k299_29 rfl rfl rfl ⟨by decide, _, rfl, q8⟩ ⟨Nat.zero_le _, Nat.zero_le _⟩ (by omega) (tfP_isMortal (by omega) hg q8 ) (fun y9 r10 => ?_)
    refine go_ifeq k299_32 (inR_b r10) (fun c13 => ?_) (fun c14 => ?_)
    · refine go_int k299_48 0 rfl ?_
      refine go_putB (bI := 13) k299_49 hg q8 (by decide) rfl rfl (Or.inl rfl) (fun g15 e16 => ?_)
      refine go_iinc k299_52 rfl rfl 1 rfl (loc2 := [some (sR v0), some (sI v1), some (sI v2), some (sR v3), some (sI v4), some (sI (w32 (v5 + 1))), some (sR (g v3 v5)), u7]) rfl ?_
      refine go_goto k299_55 ?_
      exact HX12 (w32 (v5 + 1)) (inR_w32 _) g15 e16 (some (sR (g v3 v5))) rfl u7 w7
    · refine go_aload k299_35 rfl ?_
      refine go_getI (bI := 5) k299_37 hg q8 (by decide) rfl rfl (fun r17 => ?_)
      refine go_iload k299_40 rfl ?_
      refine go_cmeq k299_41 r17 h1 (fun c18 => ?_) (fun c19 => ?_)
      · refine go_int k299_44 1 rfl ?_
        refine go_goto k299_45 ?_
        refine go_putB (bI := 13) k299_49 hg q8 (by decide) rfl rfl (Or.inr rfl) (fun g20 e21 => ?_)
        refine go_iinc k299_52 rfl rfl 1 rfl (loc2 := [some (sR v0), some (sI v1), some (sI v2), some (sR v3), some (sI v4), some (sI (w32 (v5 + 1))), some (sR (g v3 v5)), u7]) rfl ?_
        refine go_goto k299_55 ?_
        exact HX12 (w32 (v5 + 1)) (inR_w32 _) g20 e21 (some (sR (g v3 v5))) rfl u7 w7
      · refine go_int k299_48 0 rfl ?_
        refine go_putB (bI := 13) k299_49 hg q8 (by decide) rfl rfl (Or.inl rfl) (fun g22 e23 => ?_)
        refine go_iinc k299_52 rfl rfl 1 rfl (loc2 := [some (sR v0), some (sI v1), some (sI v2), some (sR v3), some (sI v4), some (sI (w32 (v5 + 1))), some (sR (g v3 v5)), u7]) rfl ?_
        refine go_goto k299_55 ?_
        exact HX12 (w32 (v5 + 1)) (inR_w32 _) g22 e23 (some (sR (g v3 v5))) rfl u7 w7
  · exact tjT_killGroup_58 hd hg hK0 h2 (some (sI v1)) rfl (some (sR v3)) rfl (some (sI v4)) rfl (some (sI v5)) rfl u6 w6 u7 w7
theorem tlT_killGroup_12 {Φ : ev_P} {d : Nat} (hd : 5 ≤ d) {v0 v1 v2 v3 v4 : Int} (hK0 : kd v0 = 5) (h1 : InR v1) (h2 : InR v2) (h3 : RfR v3) (h4 : InR v4) : ∀ n : Nat, ∀ (v5 : Int) (h5 : InR v5) (g : gH) (hg : HR g) (u6 : Option ev_V) (w6 : nwo u6) (u7 : Option ev_V) (w7 : nwo u7), Go Φ pr_P fN 1 (lT_killGroup_12 v0 v1 v2 v3 v4 n v5 g) d pr_m299 12 [some (sR v0), some (sI v1), some (sI v2), some (sR v3), some (sI v4), some (sI v5), u6, u7] [] g 0 0 := by
  intro n
  induction n with
  | zero => intros; exact go_none
  | succ n ih => exact tbT_killGroup_12 hd hK0 h1 h2 h3 h4 ih
theorem tfT_killGroup {Φ : ev_P} {d : Nat} (hd : 5 ≤ d) {g : gH} (hg : HR g) {v0 v1 v2 : Int} (hK0 : kd v0 = 5) (h1 : InR v1) (h2 : InR v2) : Go Φ pr_P fN 1 (fT_killGroup g v0 v1 v2) d (pr_P 299) 0 (ev_loc (pr_P 299).1 [(sR v0), (sI v1), (sI v2)]) [] g 0 0 := by
  show Go Φ pr_P fN 1 (fT_killGroup g v0 v1 v2) d pr_m299 0 [some (sR v0), some (sI v1), some (sI v2), none, none, none, none, none] [] g 0 0
  unfold fT_killGroup
  refine go_aload k299_0 rfl ?_
  refine go_getR (bI := 1) k299_1 hg hK0 (by decide) rfl rfl (fun r1 => ?_)
  refine go_astore k299_4 rfl (loc2 := [some (sR v0), some (sI v1), some (sI v2), some (sR (g v0 1)), none, none, none, none]) rfl ?_
  refine go_aload k299_5 rfl ?_
  refine go_ck (fun q3 => ?_)
  refine go_alen k299_6 (ka_24 q3) (fun r2 => ?_)
  refine go_istore k299_7 rfl (loc2 := [some (sR v0), some (sI v1), some (sI v2), some (sR (g v0 1)), some (sI (sz (g v0 1))), none, none, none]) rfl ?_
  refine go_int k299_9 0 rfl ?_
  refine go_istore k299_10 rfl (loc2 := [some (sR v0), some (sI v1), some (sI v2), some (sR (g v0 1)), some (sI (sz (g v0 1))), some (sI 0), none, none]) rfl ?_
  exact tlT_killGroup_12 hd hK0 h1 h2 r1 r2 fu 0 (inR_b (Or.inl rfl)) g hg none rfl none rfl
theorem tfC_kill {Φ : ev_P} {d : Nat} (hd : 6 ≤ d) {g : gH} (hg : HR g) {v0 v1 v2 : Int} (hK0 : kd v0 = 6) (h1 : InR v1) (h2 : InR v2) : Go Φ pr_P fT 1 (fC_kill g v0 v1 v2) d (pr_P 19) 0 (ev_loc (pr_P 19).1 [(sR v0), (sI v1), (sI v2)]) [] g 0 0 := by
  show Go Φ pr_P fT 1 (fC_kill g v0 v1 v2) d pr_m19 0 [some (sR v0), some (sI v1), some (sI v2)] [] g 0 0
  unfold fC_kill
  refine go_iload k19_0 rfl ?_
  refine go_iload k19_1 rfl ?_
  refine go_callQ0 k19_2 rfl rfl rfl trivial ⟨by decide, by decide⟩ (by omega) (tfC_checkKill (by omega) hg  h1 h2) (fun y1 => ?_) (fun e5 E6 => ge_prop rfl ⟨by decide, by decide⟩ e5 rfl)
  refine go_aload k19_5 rfl ?_
  refine go_getR (bI := 3) k19_6 hg hK0 (by decide) rfl rfl (fun r7 => ?_)
  refine go_aload k19_9 rfl ?_
  refine go_getR (bI := 0) k19_10 hg hK0 (by decide) rfl rfl (fun r8 => ?_)
  refine go_ck (fun q9 => ?_)
  refine go_callN0 k19_13 rfl rfl rfl ⟨by decide, _, rfl, q9⟩ ⟨by decide, by decide⟩ (by omega) (tfH_push (by omega) hg q9  r8) (fun y10 g12 e13 => ?_)
  refine go_aload k19_16 rfl ?_
  refine go_getR (bI := 0) k19_17 e13 hK0 (by decide) rfl rfl (fun r14 => ?_)
  refine go_iload k19_20 rfl ?_
  refine go_iload k19_21 rfl ?_
  refine go_ck (fun q15 => ?_)
  refine go_callN1 k19_22 rfl rfl rfl ⟨by decide, _, rfl, q15⟩ ⟨by decide, by decide⟩ (by omega) (tfT_killGroup (by omega) e13 q15  h1 h2) (fun y16 g18 r17 e19 => ?_)
  exact go_iret k19_25 e19 r17 ⟨by decide, by decide⟩ rfl
theorem tfW_kill {Φ : ev_P} {d : Nat} (hd : 7 ≤ d) {g : gH} (hg : HR g) {v0 v1 v2 v3 : Int} (h0 : RfR v0) (h1 : InR v1) (h2 : InR v2) (h3 : RfR v3) : Go Φ pr_P fN 1 (fW_kill g v0 v1 v2 v3) d (pr_P 315) 0 (ev_loc (pr_P 315).1 [(sR v0), (sI v1), (sI v2), (sR v3)]) [] g 0 0 := by
  show Go Φ pr_P fN 1 (fW_kill g v0 v1 v2 v3) d pr_m315 0 [some (sR v0), some (sI v1), some (sI v2), some (sR v3), none] [] g 0 0
  unfold fW_kill
  refine go_aload k315_0 rfl ?_
  refine go_int k315_1 0 rfl ?_
  refine go_aload k315_2 rfl ?_
  refine go_iload k315_3 rfl ?_
  refine go_iload k315_4 rfl ?_
  refine go_ck (fun q1 => ?_)
  refine go_callT1 k315_5 rfl rfl rfl ⟨by decide, _, rfl, q1⟩ ⟨by decide, by decide⟩ (by omega) (tfC_kill (by omega) hg q1  h1 h2) (fun y2 g4 r3 e5 => ?_) (fun E7 g4 e6 => ?_)
  · refine go_i2l k315_8 r3 ?_
    refine go_ck (fun q8 => ?_)
    refine go_last k315_9 e5 q8 (inL_R r3) (fun g9 e10 => ?_)
    refine go_goto k315_10 ?_
    refine go_int k315_17 0 rfl ?_
    exact go_iret k315_18 e10 (inR_b (Or.inl rfl)) ⟨by decide, by decide⟩ rfl
  · refine ge_ite (fun hE9 => ?_) (fun _ => ?_)
    · subst hE9
      refine ge_catch rfl k315_13 rfl (loc2 := [some (sR v0), some (sI v1), some (sI v2), some (sR v3), none]) rfl ?_
      refine go_int k315_15 1 rfl ?_
      exact go_iret k315_16 e6 (inR_b (Or.inr rfl)) ⟨by decide, by decide⟩ rfl
    exact ge_none
theorem tbT_zombieBehind_16 {Φ : ev_P} {d : Nat} (hd : 1 ≤ d) {g : gH} (hg : HR g) {v1 v2 v4 v5 : Int} (h1 : RfR v1) (h2 : InR v2) (h4 : RfR v4) (h5 : InR v5) {X16 : Int → Int → Option Int} (HX16 : ∀ (v3 : Int) (h3 : RfR v3) (v6 : Int) (h6 : InR v6) (u0 : Option ev_V) (w0 : nwo u0) (u7 : Option ev_V) (w7 : nwo u7), Go Φ pr_P (fP g) 2 (X16 v3 v6) d pr_m281 16 [u0, some (sR v1), some (sI v2), some (sR v3), some (sR v4), some (sI v5), some (sI v6), u7] [] g 0 0) : ∀ (v3 : Int) (h3 : RfR v3) (v6 : Int) (h6 : InR v6) (u0 : Option ev_V) (w0 : nwo u0) (u7 : Option ev_V) (w7 : nwo u7), Go Φ pr_P (fP g) 2 (bT_zombieBehind_16 g v1 v2 v4 v5 X16 v3 v6) d pr_m281 16 [u0, some (sR v1), some (sI v2), some (sR v3), some (sR v4), some (sI v5), some (sI v6), u7] [] g 0 0 := by
  intro v3 h3 v6 h6 u0 w0 u7 w7
  unfold bT_zombieBehind_16
  refine go_iload k281_16 rfl ?_
  refine go_iload k281_18 rfl ?_
  refine go_cmlt k281_20 h6 h5 (fun c4 => ?_) (fun c5 => ?_)
  · refine go_aload k281_23 rfl ?_
    refine go_iload k281_25 rfl ?_
    refine go_ck (fun q7 => ?_)
    refine go_pald k281_27 hg q7 (fun r6 => ?_)
    refine go_astore k281_28 rfl (loc2 := [u0, some (sR v1), some (sI v2), some (sR v3), some (sR v4), some (sI v5), some (sI v6), some (sR (g v4 v6))]) rfl ?_
    refine go_aload k281_30 rfl ?_
    refine go_aload k281_32 rfl ?_
    refine go_ck (fun q8 => ?_)
    refine go_callP3 k281_33 rfl rfl rfl ⟨by decide, _, rfl, q8⟩ ⟨Nat.zero_le _, Nat.zero_le _⟩ (by omega) (tfP_isZombieOf (by omega) hg q8  h1) (fun y9 r10 => ?_)
    refine go_ifeq k281_36 (inR_b r10) (fun c13 => ?_) (fun c14 => ?_)
    · refine go_iinc k281_67 rfl rfl 1 rfl (loc2 := [u0, some (sR v1), some (sI v2), some (sR v3), some (sR v4), some (sI v5), some (sI (w32 (v6 + 1))), some (sR (g v4 v6))]) rfl ?_
      refine go_goto k281_70 ?_
      exact HX16 v3 h3 (w32 (v6 + 1)) (inR_w32 _) u0 w0 (some (sR (g v4 v6))) rfl
    · refine go_aload k281_39 rfl ?_
      refine go_getI (bI := 10) k281_41 hg q8 (by decide) rfl rfl (fun r15 => ?_)
      refine go_iload k281_44 rfl ?_
      refine go_cmgt k281_45 r15 h2 (fun c16 => ?_) (fun c17 => ?_)
      · refine go_aload k281_48 rfl ?_
        refine go_isnull k281_49  (fun c18 => ?_) (fun c19 => ?_)
        · refine go_aload k281_64 rfl ?_
          refine go_astore k281_66 rfl (loc2 := [u0, some (sR v1), some (sI v2), some (sR (g v4 v6)), some (sR v4), some (sI v5), some (sI v6), some (sR (g v4 v6))]) rfl ?_
          refine go_iinc k281_67 rfl rfl 1 rfl (loc2 := [u0, some (sR v1), some (sI v2), some (sR (g v4 v6)), some (sR v4), some (sI v5), some (sI (w32 (v6 + 1))), some (sR (g v4 v6))]) rfl ?_
          refine go_goto k281_70 ?_
          exact HX16 (g v4 v6) r6 (w32 (v6 + 1)) (inR_w32 _) u0 w0 (some (sR (g v4 v6))) rfl
        · refine go_aload k281_52 rfl ?_
          refine go_getI (bI := 10) k281_54 hg q8 (by decide) rfl rfl (fun r20 => ?_)
          refine go_aload k281_57 rfl ?_
          refine go_ck (fun q21 => ?_)
          refine go_getI (bI := 10) k281_58 hg q21 (by decide) rfl rfl (fun r22 => ?_)
          refine go_cmlt k281_61 r20 r22 (fun c23 => ?_) (fun c24 => ?_)
          · refine go_aload k281_64 rfl ?_
            refine go_astore k281_66 rfl (loc2 := [u0, some (sR v1), some (sI v2), some (sR (g v4 v6)), some (sR v4), some (sI v5), some (sI v6), some (sR (g v4 v6))]) rfl ?_
            refine go_iinc k281_67 rfl rfl 1 rfl (loc2 := [u0, some (sR v1), some (sI v2), some (sR (g v4 v6)), some (sR v4), some (sI v5), some (sI (w32 (v6 + 1))), some (sR (g v4 v6))]) rfl ?_
            refine go_goto k281_70 ?_
            exact HX16 (g v4 v6) r6 (w32 (v6 + 1)) (inR_w32 _) u0 w0 (some (sR (g v4 v6))) rfl
          · refine go_iinc k281_67 rfl rfl 1 rfl (loc2 := [u0, some (sR v1), some (sI v2), some (sR v3), some (sR v4), some (sI v5), some (sI (w32 (v6 + 1))), some (sR (g v4 v6))]) rfl ?_
            refine go_goto k281_70 ?_
            exact HX16 v3 h3 (w32 (v6 + 1)) (inR_w32 _) u0 w0 (some (sR (g v4 v6))) rfl
      · refine go_iinc k281_67 rfl rfl 1 rfl (loc2 := [u0, some (sR v1), some (sI v2), some (sR v3), some (sR v4), some (sI v5), some (sI (w32 (v6 + 1))), some (sR (g v4 v6))]) rfl ?_
        refine go_goto k281_70 ?_
        exact HX16 v3 h3 (w32 (v6 + 1)) (inR_w32 _) u0 w0 (some (sR (g v4 v6))) rfl
  · refine go_aload k281_73 rfl ?_
    exact go_aret k281_74 hg h3 ⟨Nat.zero_le _, Nat.zero_le _⟩ rfl
theorem tlT_zombieBehind_16 {Φ : ev_P} {d : Nat} (hd : 1 ≤ d) {g : gH} (hg : HR g) {v1 v2 v4 v5 : Int} (h1 : RfR v1) (h2 : InR v2) (h4 : RfR v4) (h5 : InR v5) : ∀ n : Nat, ∀ (v3 : Int) (h3 : RfR v3) (v6 : Int) (h6 : InR v6) (u0 : Option ev_V) (w0 : nwo u0) (u7 : Option ev_V) (w7 : nwo u7), Go Φ pr_P (fP g) 2 (lT_zombieBehind_16 g v1 v2 v4 v5 n v3 v6) d pr_m281 16 [u0, some (sR v1), some (sI v2), some (sR v3), some (sR v4), some (sI v5), some (sI v6), u7] [] g 0 0 := by
  intro n
  induction n with
  | zero => intros; exact go_none
  | succ n ih => exact tbT_zombieBehind_16 hd hg h1 h2 h4 h5 ih
theorem tfT_zombieBehind {Φ : ev_P} {d : Nat} (hd : 1 ≤ d) {g : gH} (hg : HR g) {v0 v1 v2 : Int} (hK0 : kd v0 = 5) (h1 : RfR v1) (h2 : InR v2) : Go Φ pr_P (fP g) 2 (fT_zombieBehind g v0 v1 v2) d (pr_P 281) 0 (ev_loc (pr_P 281).1 [(sR v0), (sR v1), (sI v2)]) [] g 0 0 := by
  show Go Φ pr_P (fP g) 2 (fT_zombieBehind g v0 v1 v2) d pr_m281 0 [some (sR v0), some (sR v1), some (sI v2), none, none, none, none, none] [] g 0 0
  unfold fT_zombieBehind
  refine go_null k281_0 ?_
  refine go_astore k281_1 rfl (loc2 := [some (sR v0), some (sR v1), some (sI v2), some (sR (-1)), none, none, none, none]) rfl ?_
  refine go_aload k281_2 rfl ?_
  refine go_getR (bI := 1) k281_3 hg hK0 (by decide) rfl rfl (fun r1 => ?_)
  refine go_astore k281_6 rfl (loc2 := [some (sR v0), some (sR v1), some (sI v2), some (sR (-1)), some (sR (g v0 1)), none, none, none]) rfl ?_
  refine go_aload k281_8 rfl ?_
  refine go_ck (fun q3 => ?_)
  refine go_alen k281_10 (ka_24 q3) (fun r2 => ?_)
  refine go_istore k281_11 rfl (loc2 := [some (sR v0), some (sR v1), some (sI v2), some (sR (-1)), some (sR (g v0 1)), some (sI (sz (g v0 1))), none, none]) rfl ?_
  refine go_int k281_13 0 rfl ?_
  refine go_istore k281_14 rfl (loc2 := [some (sR v0), some (sR v1), some (sI v2), some (sR (-1)), some (sR (g v0 1)), some (sI (sz (g v0 1))), some (sI 0), none]) rfl ?_
  exact tlT_zombieBehind_16 hd hg h1 h2 r1 r2 fu (-1) rfR_null 0 (inR_b (Or.inl rfl)) (some (sR v0)) rfl none rfl
theorem tfC_read {Φ : ev_P} {d : Nat} (hd : 3 ≤ d) {g : gH} (hg : HR g) {v0 v1 : Int} (hK0 : kd v0 = 6) (h1 : InR v1) : Go Φ pr_P fT 1 (fC_read g v0 v1) d (pr_P 20) 0 (ev_loc (pr_P 20).1 [(sR v0), (sI v1)]) [] g 0 0 := by
  show Go Φ pr_P fT 1 (fC_read g v0 v1) d pr_m20 0 [some (sR v0), some (sI v1), none, none] [] g 0 0
  unfold fC_read
  refine go_aload k20_0 rfl ?_
  refine go_iload k20_1 rfl ?_
  refine go_callQ2 k20_2 rfl rfl rfl ⟨by decide, _, rfl, hK0⟩ ⟨by decide, by decide⟩ (by omega) (tfC_named (by omega) hg hK0  h1) (fun y1 r2 => ?_) (fun e5 E6 => ge_prop rfl ⟨by decide, by decide⟩ e5 rfl)
  refine go_astore k20_5 rfl (loc2 := [some (sR v0), some (sI v1), some (sR y1), none]) rfl ?_
  refine go_aload k20_6 rfl ?_
  refine go_ck (fun q7 => ?_)
  refine go_callP3 k20_7 rfl rfl rfl ⟨by decide, _, rfl, q7⟩ ⟨by decide, by decide⟩ (by omega) (tfP_isRunning (by omega) hg q7 ) (fun y8 r9 => ?_)
  refine go_callQ0 k20_10 rfl rfl rfl trivial ⟨by decide, by decide⟩ (by omega) (tfC_checkState (by omega) hg  r9) (fun y12 => ?_) (fun e16 E17 => ge_prop rfl ⟨by decide, by decide⟩ e16 rfl)
  refine go_aload k20_13 rfl ?_
  refine go_getR (bI := 0) k20_14 hg hK0 (by decide) rfl rfl (fun r18 => ?_)
  refine go_aload k20_17 rfl ?_
  refine go_int k20_18 (-1) rfl ?_
  refine go_ck (fun q19 => ?_)
  refine go_callP2 k20_19 rfl rfl rfl ⟨by decide, _, rfl, q19⟩ ⟨by decide, by decide⟩ (by omega) (tfT_zombieBehind (by omega) hg q19  r2 (inR_of (by decide))) (fun y20 r21 => ?_)
  refine go_astore k20_22 rfl (loc2 := [some (sR v0), some (sI v1), some (sR y1), some (sR y20)]) rfl ?_
  refine go_aload k20_23 rfl ?_
  refine go_isnull k20_24  (fun c24 => ?_) (fun c25 => ?_)
  · exact go_throw k20_27 hg ⟨by decide, by decide⟩ rfl rfl
  · refine go_aload k20_38 rfl ?_
    refine go_getR (bI := 3) k20_39 hg hK0 (by decide) rfl rfl (fun r26 => ?_)
    refine go_aload k20_42 rfl ?_
    refine go_getR (bI := 0) k20_43 hg hK0 (by decide) rfl rfl (fun r27 => ?_)
    refine go_ck (fun q28 => ?_)
    refine go_callN0 k20_46 rfl rfl rfl ⟨by decide, _, rfl, q28⟩ ⟨by decide, by decide⟩ (by omega) (tfH_push (by omega) hg q28  r27) (fun y29 g31 e32 => ?_)
    refine go_aload k20_49 rfl ?_
    refine go_int k20_50 2 rfl ?_
    refine go_ck (fun q33 => ?_)
    refine go_putI (bI := 1) k20_51 e32 q33 (by decide) rfl rfl (inR_of (by decide)) (fun g34 e35 => ?_)
    refine go_int k20_54 1000 rfl ?_
    refine go_aload k20_57 rfl ?_
    refine go_getI (bI := 0) k20_58 e35 q33 (by decide) rfl rfl (fun r36 => ?_)
    refine go_ibin k20_61 ?_
    refine go_aload k20_62 rfl ?_
    refine go_getI (bI := 9) k20_63 e35 q33 (by decide) rfl rfl (fun r37 => ?_)
    refine go_iadd k20_66 ?_
    exact go_iret k20_67 e35 (inR_w32 _) ⟨by decide, by decide⟩ rfl
theorem tfW_read {Φ : ev_P} {d : Nat} (hd : 4 ≤ d) {g : gH} (hg : HR g) {v0 v1 v2 : Int} (h0 : RfR v0) (h1 : InR v1) (h2 : RfR v2) : Go Φ pr_P fN 1 (fW_read g v0 v1 v2) d (pr_P 316) 0 (ev_loc (pr_P 316).1 [(sR v0), (sI v1), (sR v2)]) [] g 0 0 := by
  show Go Φ pr_P fN 1 (fW_read g v0 v1 v2) d pr_m316 0 [some (sR v0), some (sI v1), some (sR v2), none] [] g 0 0
  unfold fW_read
  refine go_aload k316_0 rfl ?_
  refine go_int k316_1 0 rfl ?_
  refine go_aload k316_2 rfl ?_
  refine go_iload k316_3 rfl ?_
  refine go_ck (fun q1 => ?_)
  refine go_callT1 k316_4 rfl rfl rfl ⟨by decide, _, rfl, q1⟩ ⟨by decide, by decide⟩ (by omega) (tfC_read (by omega) hg q1  h1) (fun y2 g4 r3 e5 => ?_) (fun E7 g4 e6 => ?_)
  · refine go_i2l k316_7 r3 ?_
    refine go_ck (fun q8 => ?_)
    refine go_last k316_8 e5 q8 (inL_R r3) (fun g9 e10 => ?_)
    refine go_goto k316_9 ?_
    refine go_int k316_21 0 rfl ?_
    exact go_iret k316_22 e10 (inR_b (Or.inl rfl)) ⟨by decide, by decide⟩ rfl
  · refine ge_ite (fun hE9 => ?_) (fun _ => ?_)
    · subst hE9
      refine ge_catch rfl k316_12 rfl (loc2 := [some (sR v0), some (sI v1), some (sR v2), none]) rfl ?_
      refine go_int k316_13 1 rfl ?_
      exact go_iret k316_14 e6 (inR_b (Or.inr rfl)) ⟨by decide, by decide⟩ rfl
    refine ge_ite (fun hE9 => ?_) (fun _ => ?_)
    · subst hE9
      refine ge_catch rfl k316_15 rfl (loc2 := [some (sR v0), some (sI v1), some (sR v2), none]) rfl ?_
      refine go_int k316_16 2 rfl ?_
      exact go_iret k316_17 e6 (inR_of (by decide)) ⟨by decide, by decide⟩ rfl
    refine ge_ite (fun hE9 => ?_) (fun _ => ?_)
    · subst hE9
      refine ge_catch rfl k316_18 rfl (loc2 := [some (sR v0), some (sI v1), some (sR v2), none]) rfl ?_
      refine go_int k316_19 3 rfl ?_
      exact go_iret k316_20 e6 (inR_of (by decide)) ⟨by decide, by decide⟩ rfl
    exact ge_none
theorem tbT_loseGroup_16 {Φ : ev_P} {d : Nat} (hd : 4 ≤ d) {v0 v1 v2 v4 v5 : Int} (hK0 : kd v0 = 5) (h1 : RfR v1) (h2 : InR v2) (h4 : RfR v4) (h5 : InR v5) {X16 : Int → Int → gH → Option (Int × gH)} (HX16 : ∀ (v3 : Int) (h3 : InR v3) (v6 : Int) (h6 : InR v6) (g : gH) (hg : HR g) (u7 : Option ev_V) (w7 : nwo u7), Go Φ pr_P fN 1 (X16 v3 v6 g) d pr_m300 16 [some (sR v0), some (sR v1), some (sI v2), some (sI v3), some (sR v4), some (sI v5), some (sI v6), u7] [] g 0 0) : ∀ (v3 : Int) (h3 : InR v3) (v6 : Int) (h6 : InR v6) (g : gH) (hg : HR g) (u7 : Option ev_V) (w7 : nwo u7), Go Φ pr_P fN 1 (bT_loseGroup_16 v0 v1 v2 v4 v5 X16 v3 v6 g) d pr_m300 16 [some (sR v0), some (sR v1), some (sI v2), some (sI v3), some (sR v4), some (sI v5), some (sI v6), u7] [] g 0 0 := by
  intro v3 h3 v6 h6 g hg u7 w7
  unfold bT_loseGroup_16
  refine go_iload k300_16 rfl ?_
  refine go_iload k300_18 rfl ?_
  refine go_cmlt k300_20 h6 h5 (fun c4 => ?_) (fun c5 => ?_)
  · refine go_aload k300_23 rfl ?_
    refine go_iload k300_25 rfl ?_
    refine go_ck (fun q7 => ?_)
    refine go_pald k300_27 hg q7 (fun r6 => ?_)
    refine go_astore k300_28 rfl (loc2 := [some (sR v0), some (sR v1), some (sI v2), some (sI v3), some (sR v4), some (sI v5), some (sI v6), some (sR (g v4 v6))]) rfl ?_
    refine go_aload k300_30 rfl ?_
    refine go_aload k300_32 rfl ?_
    refine go_ck (fun q8 => ?_)
    refine go_callP3 k300_33 rfl rfl rfl ⟨by decide, _, rfl, q8⟩ ⟨Nat.zero_le _, Nat.zero_le _⟩ (by omega) (tfP_isRunningChildOf (by omega) hg q8  h1) (fun y9 r10 => ?_)
    refine go_ifeq k300_36 (inR_b r10) (fun c13 => ?_) (fun c14 => ?_)
    · refine go_iinc k300_63 rfl rfl 1 rfl (loc2 := [some (sR v0), some (sR v1), some (sI v2), some (sI v3), some (sR v4), some (sI v5), some (sI (w32 (v6 + 1))), some (sR (g v4 v6))]) rfl ?_
      refine go_goto k300_66 ?_
      exact HX16 v3 h3 (w32 (v6 + 1)) (inR_w32 _) g hg (some (sR (g v4 v6))) rfl
    · refine go_aload k300_39 rfl ?_
      refine go_getI (bI := 5) k300_41 hg q8 (by decide) rfl rfl (fun r15 => ?_)
      refine go_iload k300_44 rfl ?_
      refine go_cmeq k300_45 r15 h2 (fun c16 => ?_) (fun c17 => ?_)
      · refine go_aload k300_48 rfl ?_
        refine go_aload k300_49 rfl ?_
        refine go_aload k300_51 rfl ?_
        refine go_aload k300_52 rfl ?_
        refine go_callP2 k300_54 rfl rfl rfl ⟨by decide, _, rfl, hK0⟩ ⟨Nat.zero_le _, Nat.zero_le _⟩ (by omega) (tfT_adopterOf (by omega) hg hK0  r6) (fun y18 r19 => ?_)
        refine go_callN0 k300_57 rfl rfl rfl ⟨by decide, _, rfl, hK0⟩ ⟨Nat.zero_le _, Nat.zero_le _⟩ (by omega) (tfT_adopt (by omega) hg hK0  r6 r19) (fun y22 g24 e25 => ?_)
        refine go_iinc k300_60 rfl rfl 1 rfl (loc2 := [some (sR v0), some (sR v1), some (sI v2), some (sI (w32 (v3 + 1))), some (sR v4), some (sI v5), some (sI v6), some (sR (g v4 v6))]) rfl ?_
        refine go_iinc k300_63 rfl rfl 1 rfl (loc2 := [some (sR v0), some (sR v1), some (sI v2), some (sI (w32 (v3 + 1))), some (sR v4), some (sI v5), some (sI (w32 (v6 + 1))), some (sR (g v4 v6))]) rfl ?_
        refine go_goto k300_66 ?_
        exact HX16 (w32 (v3 + 1)) (inR_w32 _) (w32 (v6 + 1)) (inR_w32 _) g24 e25 (some (sR (g v4 v6))) rfl
      · refine go_iinc k300_63 rfl rfl 1 rfl (loc2 := [some (sR v0), some (sR v1), some (sI v2), some (sI v3), some (sR v4), some (sI v5), some (sI (w32 (v6 + 1))), some (sR (g v4 v6))]) rfl ?_
        refine go_goto k300_66 ?_
        exact HX16 v3 h3 (w32 (v6 + 1)) (inR_w32 _) g hg (some (sR (g v4 v6))) rfl
  · refine go_iload k300_69 rfl ?_
    exact go_iret k300_70 hg h3 ⟨Nat.zero_le _, Nat.zero_le _⟩ rfl
theorem tlT_loseGroup_16 {Φ : ev_P} {d : Nat} (hd : 4 ≤ d) {v0 v1 v2 v4 v5 : Int} (hK0 : kd v0 = 5) (h1 : RfR v1) (h2 : InR v2) (h4 : RfR v4) (h5 : InR v5) : ∀ n : Nat, ∀ (v3 : Int) (h3 : InR v3) (v6 : Int) (h6 : InR v6) (g : gH) (hg : HR g) (u7 : Option ev_V) (w7 : nwo u7), Go Φ pr_P fN 1 (lT_loseGroup_16 v0 v1 v2 v4 v5 n v3 v6 g) d pr_m300 16 [some (sR v0), some (sR v1), some (sI v2), some (sI v3), some (sR v4), some (sI v5), some (sI v6), u7] [] g 0 0 := by
  intro n
  induction n with
  | zero => intros; exact go_none
  | succ n ih => exact tbT_loseGroup_16 hd hK0 h1 h2 h4 h5 ih
theorem tfT_loseGroup {Φ : ev_P} {d : Nat} (hd : 4 ≤ d) {g : gH} (hg : HR g) {v0 v1 v2 : Int} (hK0 : kd v0 = 5) (h1 : RfR v1) (h2 : InR v2) : Go Φ pr_P fN 1 (fT_loseGroup g v0 v1 v2) d (pr_P 300) 0 (ev_loc (pr_P 300).1 [(sR v0), (sR v1), (sI v2)]) [] g 0 0 := by
  show Go Φ pr_P fN 1 (fT_loseGroup g v0 v1 v2) d pr_m300 0 [some (sR v0), some (sR v1), some (sI v2), none, none, none, none, none] [] g 0 0
  unfold fT_loseGroup
  refine go_int k300_0 0 rfl ?_
  refine go_istore k300_1 rfl (loc2 := [some (sR v0), some (sR v1), some (sI v2), some (sI 0), none, none, none, none]) rfl ?_
  refine go_aload k300_2 rfl ?_
  refine go_getR (bI := 1) k300_3 hg hK0 (by decide) rfl rfl (fun r1 => ?_)
  refine go_astore k300_6 rfl (loc2 := [some (sR v0), some (sR v1), some (sI v2), some (sI 0), some (sR (g v0 1)), none, none, none]) rfl ?_
  refine go_aload k300_8 rfl ?_
  refine go_ck (fun q3 => ?_)
  refine go_alen k300_10 (ka_24 q3) (fun r2 => ?_)
  refine go_istore k300_11 rfl (loc2 := [some (sR v0), some (sR v1), some (sI v2), some (sI 0), some (sR (g v0 1)), some (sI (sz (g v0 1))), none, none]) rfl ?_
  refine go_int k300_13 0 rfl ?_
  refine go_istore k300_14 rfl (loc2 := [some (sR v0), some (sR v1), some (sI v2), some (sI 0), some (sR (g v0 1)), some (sI (sz (g v0 1))), some (sI 0), none]) rfl ?_
  exact tlT_loseGroup_16 hd hK0 h1 h2 r1 r2 fu 0 (inR_b (Or.inl rfl)) 0 (inR_b (Or.inl rfl)) g hg none rfl
theorem tfC_refuse {Φ : ev_P} {d : Nat} (hd : 5 ≤ d) {g : gH} (hg : HR g) {v0 v1 v2 : Int} (hK0 : kd v0 = 6) (h1 : InR v1) (h2 : InR v2) : Go Φ pr_P fT 1 (fC_refuse g v0 v1 v2) d (pr_P 21) 0 (ev_loc (pr_P 21).1 [(sR v0), (sI v1), (sI v2)]) [] g 0 0 := by
  show Go Φ pr_P fT 1 (fC_refuse g v0 v1 v2) d pr_m21 0 [some (sR v0), some (sI v1), some (sI v2), none] [] g 0 0
  unfold fC_refuse
  refine go_aload k21_0 rfl ?_
  refine go_iload k21_1 rfl ?_
  refine go_callQ2 k21_2 rfl rfl rfl ⟨by decide, _, rfl, hK0⟩ ⟨by decide, by decide⟩ (by omega) (tfC_named (by omega) hg hK0  h1) (fun y1 r2 => ?_) (fun e5 E6 => ge_prop rfl ⟨by decide, by decide⟩ e5 rfl)
  refine go_astore k21_5 rfl (loc2 := [some (sR v0), some (sI v1), some (sI v2), some (sR y1)]) rfl ?_
  refine go_iload k21_6 rfl ?_
  refine go_int k21_7 9 rfl ?_
  refine go_callQ0 k21_9 rfl rfl rfl trivial ⟨by decide, by decide⟩ (by omega) (tfC_checkRange (by omega) hg  h2 (inR_of (by decide))) (fun y7 => ?_) (fun e11 E12 => ge_prop rfl ⟨by decide, by decide⟩ e11 rfl)
  refine go_aload k21_12 rfl ?_
  refine go_ck (fun q13 => ?_)
  refine go_callP3 k21_13 rfl rfl rfl ⟨by decide, _, rfl, q13⟩ ⟨by decide, by decide⟩ (by omega) (tfP_isMortal (by omega) hg q13 ) (fun y14 r15 => ?_)
  refine go_callQ0 k21_16 rfl rfl rfl trivial ⟨by decide, by decide⟩ (by omega) (tfC_checkState (by omega) hg  r15) (fun y18 => ?_) (fun e22 E23 => ge_prop rfl ⟨by decide, by decide⟩ e22 rfl)
  refine go_aload k21_19 rfl ?_
  refine go_getR (bI := 3) k21_20 hg hK0 (by decide) rfl rfl (fun r24 => ?_)
  refine go_aload k21_23 rfl ?_
  refine go_getR (bI := 0) k21_24 hg hK0 (by decide) rfl rfl (fun r25 => ?_)
  refine go_ck (fun q26 => ?_)
  refine go_callN0 k21_27 rfl rfl rfl ⟨by decide, _, rfl, q26⟩ ⟨by decide, by decide⟩ (by omega) (tfH_push (by omega) hg q26  r25) (fun y27 g29 e30 => ?_)
  refine go_aload k21_30 rfl ?_
  refine go_dupR k21_31 ?_
  refine go_getI (bI := 8) k21_32 e30 q13 (by decide) rfl rfl (fun r31 => ?_)
  refine go_int k21_35 1 rfl ?_
  refine go_iload k21_36 rfl ?_
  refine go_ibin k21_37 ?_
  refine go_ibin k21_38 ?_
  refine go_putI (bI := 8) k21_39 e30 q13 (by decide) rfl rfl (inR_opI _ _ _) (fun g32 e33 => ?_)
  refine go_aload k21_42 rfl ?_
  refine go_getR (bI := 0) k21_43 e33 hK0 (by decide) rfl rfl (fun r34 => ?_)
  refine go_aload k21_46 rfl ?_
  refine go_iload k21_47 rfl ?_
  refine go_ck (fun q35 => ?_)
  refine go_callN1 k21_48 rfl rfl rfl ⟨by decide, _, rfl, q35⟩ ⟨by decide, by decide⟩ (by omega) (tfT_loseGroup (by omega) e33 q35  r2 h2) (fun y36 g38 r37 e39 => ?_)
  exact go_iret k21_51 e39 r37 ⟨by decide, by decide⟩ rfl
