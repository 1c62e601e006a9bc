/-! ===== the evaluator comes to what the functions tell (own work, by program: wip/p2/dec.py) ===== -/
theorem tfC_rootShare {Φ : ev_P} {d : Nat} (hd : 0 ≤ d) {g : gH} (hg : HR g) {v0 : Int} (hK0 : kd v0 = 6) : Go Φ pr_P (fP g) 4 (fC_rootShare g v0) d (pr_P 42) 0 (ev_loc (pr_P 42).1 [(sR v0)]) [] g 0 0 := by
  show Go Φ pr_P (fP g) 4 (fC_rootShare g v0) d pr_m42 0 [some (sR v0)] [] g 0 0
  unfold fC_rootShare
  refine go_aload k42_0 rfl ?_
  refine go_getR (bI := 0) k42_1 hg hK0 (by decide) rfl rfl (fun r1 => ?_)
  refine go_ck (fun q2 => ?_)
  refine go_getI (bI := 7) k42_4 hg q2 (by decide) rfl rfl (fun r3 => ?_)
  refine go_ifeq k42_7 r3 (fun c4 => ?_) (fun c5 => ?_)
  · refine go_fconst k42_10 0 rfl ?_
    refine go_goto k42_11 ?_
    exact go_fret k42_31 hg ⟨Nat.zero_le _, Nat.zero_le _⟩ rfl
  · refine go_aload k42_14 rfl ?_
    refine go_getR (bI := 0) k42_15 hg hK0 (by decide) rfl rfl (fun r6 => ?_)
    refine go_getI (bI := 8) k42_18 hg q2 (by decide) rfl rfl (fun r7 => ?_)
    refine go_i2f k42_21 ?_
    refine go_aload k42_22 rfl ?_
    refine go_getR (bI := 0) k42_23 hg hK0 (by decide) rfl rfl (fun r8 => ?_)
    refine go_getI (bI := 7) k42_26 hg q2 (by decide) rfl rfl (fun r9 => ?_)
    refine go_i2f k42_29 ?_
    refine go_ck (fun q10 => ?_)
    refine go_fdiv k42_30 q10 rfl ⟨Nat.zero_le _, Nat.zero_le _⟩ ?_
    exact go_fret k42_31 hg ⟨Nat.zero_le _, Nat.zero_le _⟩ rfl
theorem tbC_mostAdopted_19 {Φ : ev_P} {d : Nat} (hd : 1 ≤ d) {g : gH} (hg : HR g) {v3 v4 : Int} (h3 : RfR v3) (h4 : InR v4) {X19 : Int → Int → Int → Option Int} (HX19 : ∀ (v1 : Int) (h1 : InR v1) (v2 : Int) (h2 : InR v2) (v5 : Int) (h5 : InR v5) (u0 : Option ev_V) (w0 : nwo u0) (u6 : Option ev_V) (w6 : nwo u6), Go Φ pr_P (fP g) 1 (X19 v1 v2 v5) d pr_m48 19 [u0, some (sI v1), some (sI v2), some (sR v3), some (sI v4), some (sI v5), u6] [] g 0 0) : ∀ (v1 : Int) (h1 : InR v1) (v2 : Int) (h2 : InR v2) (v5 : Int) (h5 : InR v5) (u0 : Option ev_V) (w0 : nwo u0) (u6 : Option ev_V) (w6 : nwo u6), Go Φ pr_P (fP g) 1 (bC_mostAdopted_19 g v3 v4 X19 v1 v2 v5) d pr_m48 19 [u0, some (sI v1), some (sI v2), some (sR v3), some (sI v4), some (sI v5), u6] [] g 0 0 := by
  intro v1 h1 v2 h2 v5 h5 u0 w0 u6 w6
  unfold bC_mostAdopted_19
  refine go_iload k48_19 rfl ?_
  refine go_iload k48_21 rfl ?_
  refine go_cmlt k48_23 h5 h4 (fun c6 => ?_) (fun c7 => ?_)
  · refine go_aload k48_26 rfl ?_
    refine go_iload k48_27 rfl ?_
    refine go_ck (fun q9 => ?_)
    refine go_pald k48_29 hg q9 (fun r8 => ?_)
    refine go_astore k48_30 rfl (loc2 := [u0, some (sI v1), some (sI v2), some (sR v3), some (sI v4), some (sI v5), some (sR (g v3 v5))]) rfl ?_
    refine go_aload k48_32 rfl ?_
    refine go_ck (fun q10 => ?_)
    refine go_callP3 k48_34 rfl rfl rfl ⟨by decide, _, rfl, q10⟩ ⟨Nat.zero_le _, Nat.zero_le _⟩ (by omega) (tfP_isRunning (by omega) hg q10 ) (fun y11 r12 => ?_)
    refine go_ifeq k48_37 (inR_b r12) (fun c15 => ?_) (fun c16 => ?_)
    · refine go_iinc k48_61 rfl rfl 1 rfl (loc2 := [u0, some (sI v1), some (sI v2), some (sR v3), some (sI v4), some (sI (w32 (v5 + 1))), some (sR (g v3 v5))]) rfl ?_
      refine go_goto k48_64 ?_
      exact HX19 v1 h1 v2 h2 (w32 (v5 + 1)) (inR_w32 _) u0 w0 (some (sR (g v3 v5))) rfl
    · refine go_aload k48_40 rfl ?_
      refine go_getI (bI := 11) k48_42 hg q10 (by decide) rfl rfl (fun r17 => ?_)
      refine go_iload k48_45 rfl ?_
      refine go_cmgt k48_46 r17 h2 (fun c18 => ?_) (fun c19 => ?_)
      · refine go_aload k48_49 rfl ?_
        refine go_getI (bI := 0) k48_51 hg q10 (by decide) rfl rfl (fun r20 => ?_)
        refine go_istore k48_54 w0 (loc2 := [u0, some (sI (g (g v3 v5) 0)), some (sI v2), some (sR v3), some (sI v4), some (sI v5), some (sR (g v3 v5))]) rfl ?_
        refine go_aload k48_55 rfl ?_
        refine go_getI (bI := 11) k48_57 hg q10 (by decide) rfl rfl (fun r21 => ?_)
        refine go_istore k48_60 rfl (loc2 := [u0, some (sI (g (g v3 v5) 0)), some (sI (g (g v3 v5) 11)), some (sR v3), some (sI v4), some (sI v5), some (sR (g v3 v5))]) rfl ?_
        refine go_iinc k48_61 rfl rfl 1 rfl (loc2 := [u0, some (sI (g (g v3 v5) 0)), some (sI (g (g v3 v5) 11)), some (sR v3), some (sI v4), some (sI (w32 (v5 + 1))), some (sR (g v3 v5))]) rfl ?_
        refine go_goto k48_64 ?_
        exact HX19 (g (g v3 v5) 0) r20 (g (g v3 v5) 11) r21 (w32 (v5 + 1)) (inR_w32 _) u0 w0 (some (sR (g v3 v5))) rfl
      · refine go_iinc k48_61 rfl rfl 1 rfl (loc2 := [u0, some (sI v1), some (sI v2), some (sR v3), some (sI v4), some (sI (w32 (v5 + 1))), some (sR (g v3 v5))]) rfl ?_
        refine go_goto k48_64 ?_
        exact HX19 v1 h1 v2 h2 (w32 (v5 + 1)) (inR_w32 _) u0 w0 (some (sR (g v3 v5))) rfl
  · refine go_iload k48_67 rfl ?_
    exact go_iret k48_68 hg h1 ⟨Nat.zero_le _, Nat.zero_le _⟩ rfl
theorem tlC_mostAdopted_19 {Φ : ev_P} {d : Nat} (hd : 1 ≤ d) {g : gH} (hg : HR g) {v3 v4 : Int} (h3 : RfR v3) (h4 : InR v4) : ∀ n : Nat, ∀ (v1 : Int) (h1 : InR v1) (v2 : Int) (h2 : InR v2) (v5 : Int) (h5 : InR v5) (u0 : Option ev_V) (w0 : nwo u0) (u6 : Option ev_V) (w6 : nwo u6), Go Φ pr_P (fP g) 1 (lC_mostAdopted_19 g v3 v4 n v1 v2 v5) d pr_m48 19 [u0, some (sI v1), some (sI v2), some (sR v3), some (sI v4), some (sI v5), u6] [] g 0 0 := by
  intro n
  induction n with
  | zero => intros; exact go_none
  | succ n ih => exact tbC_mostAdopted_19 hd hg h3 h4 ih
theorem tfC_mostAdopted {Φ : ev_P} {d : Nat} (hd : 1 ≤ d) {g : gH} (hg : HR g) {v0 : Int} (hK0 : kd v0 = 6) : Go Φ pr_P (fP g) 1 (fC_mostAdopted g v0) d (pr_P 48) 0 (ev_loc (pr_P 48).1 [(sR v0)]) [] g 0 0 := by
  show Go Φ pr_P (fP g) 1 (fC_mostAdopted g v0) d pr_m48 0 [some (sR v0), none, none, none, none, none, none] [] g 0 0
  unfold fC_mostAdopted
  refine go_int k48_0 (-1) rfl ?_
  refine go_istore k48_1 rfl (loc2 := [some (sR v0), some (sI (-1)), none, none, none, none, none]) rfl ?_
  refine go_int k48_2 0 rfl ?_
  refine go_istore k48_3 rfl (loc2 := [some (sR v0), some (sI (-1)), some (sI 0), none, none, none, none]) rfl ?_
  refine go_aload k48_4 rfl ?_
  refine go_getR (bI := 0) k48_5 hg hK0 (by decide) rfl rfl (fun r1 => ?_)
  refine go_ck (fun q2 => ?_)
  refine go_getR (bI := 1) k48_8 hg q2 (by decide) rfl rfl (fun r3 => ?_)
  refine go_astore k48_11 rfl (loc2 := [some (sR v0), some (sI (-1)), some (sI 0), some (sR (g (g v0 0) 1)), none, none, none]) rfl ?_
  refine go_aload k48_12 rfl ?_
  refine go_ck (fun q5 => ?_)
  refine go_alen k48_13 (ka_24 q5) (fun r4 => ?_)
  refine go_istore k48_14 rfl (loc2 := [some (sR v0), some (sI (-1)), some (sI 0), some (sR (g (g v0 0) 1)), some (sI (sz (g (g v0 0) 1))), none, none]) rfl ?_
  refine go_int k48_16 0 rfl ?_
  refine go_istore k48_17 rfl (loc2 := [some (sR v0), some (sI (-1)), some (sI 0), some (sR (g (g v0 0) 1)), some (sI (sz (g (g v0 0) 1))), some (sI 0), none]) rfl ?_
  exact tlC_mostAdopted_19 hd hg r3 r4 fu (-1) (inR_of (by decide)) 0 (inR_b (Or.inl rfl)) 0 (inR_b (Or.inl rfl)) (some (sR v0)) rfl none rfl
theorem tbT_countInState_14 {Φ : ev_P} {d : Nat} (hd : 0 ≤ d) {g : gH} (hg : HR g) {v1 v3 v4 : Int} (h1 : InR v1) (h3 : RfR v3) (h4 : InR v4) {X14 : Int → Int → Option Int} (HX14 : ∀ (v2 : Int) (h2 : InR v2) (v5 : Int) (h5 : InR v5) (u0 : Option ev_V) (w0 : nwo u0) (u6 : Option ev_V) (w6 : nwo u6), Go Φ pr_P (fP g) 1 (X14 v2 v5) d pr_m275 14 [u0, some (sI v1), some (sI v2), some (sR v3), some (sI v4), some (sI v5), u6] [] g 0 0) : ∀ (v2 : Int) (h2 : InR v2) (v5 : Int) (h5 : InR v5) (u0 : Option ev_V) (w0 : nwo u0) (u6 : Option ev_V) (w6 : nwo u6), Go Φ pr_P (fP g) 1 (bT_countInState_14 g v1 v3 v4 X14 v2 v5) d pr_m275 14 [u0, some (sI v1), some (sI v2), some (sR v3), some (sI v4), some (sI v5), u6] [] g 0 0 := by
  intro v2 h2 v5 h5 u0 w0 u6 w6
  unfold bT_countInState_14
  refine go_iload k275_14 rfl ?_
  refine go_iload k275_16 rfl ?_
  refine go_cmlt k275_18 h5 h4 (fun c4 => ?_) (fun c5 => ?_)
  · refine go_aload k275_21 rfl ?_
    refine go_iload k275_22 rfl ?_
    refine go_ck (fun q7 => ?_)
    refine go_pald k275_24 hg q7 (fun r6 => ?_)
    refine go_astore k275_25 rfl (loc2 := [u0, some (sI v1), some (sI v2), some (sR v3), some (sI v4), some (sI v5), some (sR (g v3 v5))]) rfl ?_
    refine go_aload k275_27 rfl ?_
    refine go_ck (fun q8 => ?_)
    refine go_getI (bI := 1) k275_29 hg q8 (by decide) rfl rfl (fun r9 => ?_)
    refine go_iload k275_32 rfl ?_
    refine go_cmeq k275_33 r9 h1 (fun c10 => ?_) (fun c11 => ?_)
    · refine go_iinc k275_36 rfl rfl 1 rfl (loc2 := [u0, some (sI v1), some (sI (w32 (v2 + 1))), some (sR v3), some (sI v4), some (sI v5), some (sR (g v3 v5))]) rfl ?_
      refine go_iinc k275_39 rfl rfl 1 rfl (loc2 := [u0, some (sI v1), some (sI (w32 (v2 + 1))), some (sR v3), some (sI v4), some (sI (w32 (v5 + 1))), some (sR (g v3 v5))]) rfl ?_
      refine go_goto k275_42 ?_
      exact HX14 (w32 (v2 + 1)) (inR_w32 _) (w32 (v5 + 1)) (inR_w32 _) u0 w0 (some (sR (g v3 v5))) rfl
    · refine go_iinc k275_39 rfl rfl 1 rfl (loc2 := [u0, some (sI v1), some (sI v2), some (sR v3), some (sI v4), some (sI (w32 (v5 + 1))), some (sR (g v3 v5))]) rfl ?_
      refine go_goto k275_42 ?_
      exact HX14 v2 h2 (w32 (v5 + 1)) (inR_w32 _) u0 w0 (some (sR (g v3 v5))) rfl
  · refine go_iload k275_45 rfl ?_
    exact go_iret k275_46 hg h2 ⟨Nat.zero_le _, Nat.zero_le _⟩ rfl
theorem tlT_countInState_14 {Φ : ev_P} {d : Nat} (hd : 0 ≤ d) {g : gH} (hg : HR g) {v1 v3 v4 : Int} (h1 : InR v1) (h3 : RfR v3) (h4 : InR v4) : ∀ n : Nat, ∀ (v2 : Int) (h2 : InR v2) (v5 : Int) (h5 : InR v5) (u0 : Option ev_V) (w0 : nwo u0) (u6 : Option ev_V) (w6 : nwo u6), Go Φ pr_P (fP g) 1 (lT_countInState_14 g v1 v3 v4 n v2 v5) d pr_m275 14 [u0, some (sI v1), some (sI v2), some (sR v3), some (sI v4), some (sI v5), u6] [] g 0 0 := by
  intro n
  induction n with
  | zero => intros; exact go_none
  | succ n ih => exact tbT_countInState_14 hd hg h1 h3 h4 ih
theorem tfT_countInState {Φ : ev_P} {d : Nat} (hd : 0 ≤ d) {g : gH} (hg : HR g) {v0 v1 : Int} (hK0 : kd v0 = 5) (h1 : InR v1) : Go Φ pr_P (fP g) 1 (fT_countInState g v0 v1) d (pr_P 275) 0 (ev_loc (pr_P 275).1 [(sR v0), (sI v1)]) [] g 0 0 := by
  show Go Φ pr_P (fP g) 1 (fT_countInState g v0 v1) d pr_m275 0 [some (sR v0), some (sI v1), none, none, none, none, none] [] g 0 0
  unfold fT_countInState
  refine go_int k275_0 0 rfl ?_
  refine go_istore k275_1 rfl (loc2 := [some (sR v0), some (sI v1), some (sI 0), none, none, none, none]) rfl ?_
  refine go_aload k275_2 rfl ?_
  refine go_getR (bI := 1) k275_3 hg hK0 (by decide) rfl rfl (fun r1 => ?_)
  refine go_astore k275_6 rfl (loc2 := [some (sR v0), some (sI v1), some (sI 0), some (sR (g v0 1)), none, none, none]) rfl ?_
  refine go_aload k275_7 rfl ?_
  refine go_ck (fun q3 => ?_)
  refine go_alen k275_8 (ka_24 q3) (fun r2 => ?_)
  refine go_istore k275_9 rfl (loc2 := [some (sR v0), some (sI v1), some (sI 0), some (sR (g v0 1)), some (sI (sz (g v0 1))), none, none]) rfl ?_
  refine go_int k275_11 0 rfl ?_
  refine go_istore k275_12 rfl (loc2 := [some (sR v0), some (sI v1), some (sI 0), some (sR (g v0 1)), some (sI (sz (g v0 1))), some (sI 0), none]) rfl ?_
  exact tlT_countInState_14 hd hg h1 r1 r2 fu 0 (inR_b (Or.inl rfl)) 0 (inR_b (Or.inl rfl)) (some (sR v0)) rfl none rfl
theorem tfC_readShare {Φ : ev_P} {d : Nat} (hd : 1 ≤ d) {g : gH} (hg : HR g) {v0 : Int} (hK0 : kd v0 = 6) : Go Φ pr_P (fP g) 5 (fC_readShare g v0) d (pr_P 52) 0 (ev_loc (pr_P 52).1 [(sR v0)]) [] g 0 0 := by
  show Go Φ pr_P (fP g) 5 (fC_readShare g v0) d pr_m52 0 [some (sR v0)] [] g 0 0
  unfold fC_readShare
  refine go_aload k52_0 rfl ?_
  refine go_getR (bI := 0) k52_1 hg hK0 (by decide) rfl rfl (fun r1 => ?_)
  refine go_ck (fun q2 => ?_)
  refine go_getI (bI := 6) k52_4 hg q2 (by decide) rfl rfl (fun r3 => ?_)
  refine go_ifeq k52_7 r3 (fun c4 => ?_) (fun c5 => ?_)
  · refine go_dconst k52_10 0 rfl ?_
    refine go_goto k52_11 ?_
    exact go_dret k52_32 hg ⟨Nat.zero_le _, Nat.zero_le _⟩ rfl
  · refine go_aload k52_14 rfl ?_
    refine go_getR (bI := 0) k52_15 hg hK0 (by decide) rfl rfl (fun r6 => ?_)
    refine go_int k52_18 2 rfl ?_
    refine go_callP1 k52_19 rfl rfl rfl ⟨by decide, _, rfl, q2⟩ ⟨Nat.zero_le _, Nat.zero_le _⟩ (by omega) (tfT_countInState (by omega) hg q2  (inR_of (by decide))) (fun y7 r8 => ?_)
    refine go_i2d k52_22 ?_
    refine go_aload k52_23 rfl ?_
    refine go_getR (bI := 0) k52_24 hg hK0 (by decide) rfl rfl (fun r11 => ?_)
    refine go_getI (bI := 6) k52_27 hg q2 (by decide) rfl rfl (fun r12 => ?_)
    refine go_i2d k52_30 ?_
    refine go_ck (fun q13 => ?_)
    refine go_ddiv k52_31 q13 rfl ⟨Nat.zero_le _, Nat.zero_le _⟩ ?_
    exact go_dret k52_32 hg ⟨Nat.zero_le _, Nat.zero_le _⟩ rfl
theorem tfC_outputByte {Φ : ev_P} {d : Nat} (hd : 0 ≤ d) {g : gH} (hg : HR g) {v0 v1 : Int} (hK0 : kd v0 = 6) (h1 : InR v1) : Go Φ pr_P (fP g) 1 (fC_outputByte g v0 v1) d (pr_P 61) 0 (ev_loc (pr_P 61).1 [(sR v0), (sI v1)]) [] g 0 0 := by
  show Go Φ pr_P (fP g) 1 (fC_outputByte g v0 v1) d pr_m61 0 [some (sR v0), some (sI v1)] [] g 0 0
  unfold fC_outputByte
  refine go_iload k61_0 rfl ?_
  refine go_iflt k61_1 h1 (fun c1 => ?_) (fun c2 => ?_)
  · refine go_int k61_22 (-1) rfl ?_
    refine go_goto k61_23 ?_
    exact go_iret k61_35 hg (inR_of (by decide)) ⟨Nat.zero_le _, Nat.zero_le _⟩ rfl
  · refine go_iload k61_4 rfl ?_
    refine go_aload k61_5 rfl ?_
    refine go_getR (bI := 5) k61_6 hg hK0 (by decide) rfl rfl (fun r3 => ?_)
    refine go_ck (fun q4 => ?_)
    refine go_getI (bI := 1) k61_9 hg q4 (by decide) rfl rfl (fun r5 => ?_)
    refine go_cmlt k61_12 h1 r5 (fun c6 => ?_) (fun c7 => ?_)
    · refine go_iload k61_15 rfl ?_
      refine go_int k61_16 300 rfl ?_
      refine go_cmlt k61_19 h1 (inR_of (by decide)) (fun c8 => ?_) (fun c9 => ?_)
      · refine go_aload k61_26 rfl ?_
        refine go_getR (bI := 5) k61_27 hg hK0 (by decide) rfl rfl (fun r10 => ?_)
        refine go_getR (bI := 0) k61_30 hg q4 (by decide) rfl rfl (fun r11 => ?_)
        refine go_iload k61_33 rfl ?_
        refine go_ck (fun q13 => ?_)
        refine go_bald k61_34 hg q13 (fun r12 => ?_)
        exact go_iret k61_35 hg r12 ⟨Nat.zero_le _, Nat.zero_le _⟩ rfl
      · refine go_int k61_22 (-1) rfl ?_
        refine go_goto k61_23 ?_
        exact go_iret k61_35 hg (inR_of (by decide)) ⟨Nat.zero_le _, Nat.zero_le _⟩ rfl
    · refine go_int k61_22 (-1) rfl ?_
      refine go_goto k61_23 ?_
      exact go_iret k61_35 hg (inR_of (by decide)) ⟨Nat.zero_le _, Nat.zero_le _⟩ rfl
theorem tjH_pop_31 {Φ : ev_P} {d : Nat} (hd : 2 ≤ d) {g : gH} (hg : HR g) {v0 v1 : Int} (hK0 : kd v0 = 0) (h1 : RfR v1) : Go Φ pr_P fN 3 (jH_pop_31 g v0 v1 ) d pr_m220 31 [some (sR v0), some (sR v1)] [] g 0 0 := by
  unfold jH_pop_31
  refine go_aload k220_31 rfl ?_
  refine go_dupR k220_32 ?_
  refine go_getI (bI := 2) k220_33 hg hK0 (by decide) rfl rfl (fun r12 => ?_)
  refine go_int k220_36 1 rfl ?_
  refine go_isub k220_37 ?_
  refine go_putI (bI := 2) k220_38 hg hK0 (by decide) rfl rfl (inR_w32 _) (fun g13 e14 => ?_)
  refine go_aload k220_41 rfl ?_
  refine go_dupR k220_42 ?_
  refine go_getI (bI := 1) k220_43 e14 hK0 (by decide) rfl rfl (fun r15 => ?_)
  refine go_int k220_46 1 rfl ?_
  refine go_isub k220_47 ?_
  refine go_putI (bI := 1) k220_48 e14 hK0 (by decide) rfl rfl (inR_w32 _) (fun g16 e17 => ?_)
  refine go_aload k220_51 rfl ?_
  refine go_aload k220_52 rfl ?_
  refine go_getR (bI := 0) k220_53 e17 hK0 (by decide) rfl rfl (fun r18 => ?_)
  refine go_aload k220_56 rfl ?_
  refine go_getI (bI := 2) k220_57 e17 hK0 (by decide) rfl rfl (fun r19 => ?_)
  refine go_ck (fun q21 => ?_)
  refine go_tald k220_60 e17 q21 (fun r20 => ?_)
  refine go_ck (fun q22 => ?_)
  refine go_callN0 k220_61 rfl rfl rfl ⟨by decide, _, rfl, q22⟩ ⟨Nat.zero_le _, Nat.zero_le _⟩ (by omega) (tfT_take (by omega) e17 q22  r20) (fun y23 g25 e26 => ?_)
  refine go_int k220_64 1 rfl ?_
  exact go_bret k220_65 e26 (Or.inr rfl) ⟨Nat.zero_le _, Nat.zero_le _⟩ rfl
theorem tjH_pop_25 {Φ : ev_P} {d : Nat} (hd : 2 ≤ d) {g : gH} (hg : HR g) {v0 v1 : Int} (hK0 : kd v0 = 0) (h1 : RfR v1) : Go Φ pr_P fN 3 (jH_pop_25 g v0 v1 ) d pr_m220 25 [some (sR v0), some (sR v1)] [] g 0 0 := by
  unfold jH_pop_25
  refine go_aload k220_25 rfl ?_
  refine go_int k220_26 10 rfl ?_
  refine go_putI (bI := 2) k220_28 hg hK0 (by decide) rfl rfl (inR_of (by decide)) (fun g10 e11 => ?_)
  exact tjH_pop_31 hd e11 hK0 h1
theorem tfH_pop {Φ : ev_P} {d : Nat} (hd : 2 ≤ d) {g : gH} (hg : HR g) {v0 v1 : Int} (hK0 : kd v0 = 0) (h1 : RfR v1) : Go Φ pr_P fN 3 (fH_pop g v0 v1) d (pr_P 220) 0 (ev_loc (pr_P 220).1 [(sR v0), (sR v1)]) [] g 0 0 := by
  show Go Φ pr_P fN 3 (fH_pop g v0 v1) d pr_m220 0 [some (sR v0), some (sR v1)] [] g 0 0
  unfold fH_pop
  refine go_aload k220_0 rfl ?_
  refine go_getI (bI := 1) k220_1 hg hK0 (by decide) rfl rfl (fun r1 => ?_)
  refine go_ifeq k220_4 r1 (fun c2 => ?_) (fun c3 => ?_)
  · refine go_int k220_7 0 rfl ?_
    exact go_bret k220_8 hg (Or.inl rfl) ⟨Nat.zero_le _, Nat.zero_le _⟩ rfl
  · refine go_aload k220_9 rfl ?_
    refine go_getI (bI := 2) k220_10 hg hK0 (by decide) rfl rfl (fun r4 => ?_)
    refine go_ifgt k220_13 r4 (fun c5 => ?_) (fun c6 => ?_)
    · refine go_aload k220_16 rfl ?_
      refine go_getI (bI := 2) k220_17 hg hK0 (by decide) rfl rfl (fun r7 => ?_)
      refine go_int k220_20 10 rfl ?_
      refine go_cmgt k220_22 r7 (inR_of (by decide)) (fun c8 => ?_) (fun c9 => ?_)
      · exact tjH_pop_25 hd hg hK0 h1
      · exact tjH_pop_31 hd hg hK0 h1
    · exact tjH_pop_25 hd hg hK0 h1
theorem tfC_undo {Φ : ev_P} {d : Nat} (hd : 3 ≤ d) {g : gH} (hg : HR g) {v0 : Int} (hK0 : kd v0 = 6) : Go Φ pr_P fN 1 (fC_undo g v0) d (pr_P 62) 0 (ev_loc (pr_P 62).1 [(sR v0)]) [] g 0 0 := by
  show Go Φ pr_P fN 1 (fC_undo g v0) d pr_m62 0 [some (sR v0)] [] g 0 0
  unfold fC_undo
  refine go_aload k62_0 rfl ?_
  refine go_getR (bI := 3) k62_1 hg hK0 (by decide) rfl rfl (fun r1 => ?_)
  refine go_aload k62_4 rfl ?_
  refine go_getR (bI := 0) k62_5 hg hK0 (by decide) rfl rfl (fun r2 => ?_)
  refine go_ck (fun q3 => ?_)
  refine go_callN3 k62_8 rfl rfl rfl ⟨by decide, _, rfl, q3⟩ ⟨Nat.zero_le _, Nat.zero_le _⟩ (by omega) (tfH_pop (by omega) hg q3  r2) (fun y4 g6 r5 e7 => ?_)
  refine go_ifeq k62_11 (inR_b r5) (fun c8 => ?_) (fun c9 => ?_)
  · refine go_int k62_24 (-1) rfl ?_
    exact go_iret k62_25 e7 (inR_of (by decide)) ⟨Nat.zero_le _, Nat.zero_le _⟩ rfl
  · refine go_aload k62_14 rfl ?_
    refine go_getR (bI := 3) k62_15 e7 hK0 (by decide) rfl rfl (fun r10 => ?_)
    refine go_ck (fun q11 => ?_)
    refine go_getI (bI := 1) k62_18 e7 q11 (by decide) rfl rfl (fun r12 => ?_)
    refine go_goto k62_21 ?_
    exact go_iret k62_25 e7 r12 ⟨Nat.zero_le _, Nat.zero_le _⟩ rfl
theorem tfC_saveState {Φ : ev_P} {d : Nat} (hd : 2 ≤ d) {g : gH} (hg : HR g) {v0 : Int} (hK0 : kd v0 = 6) : Go Φ pr_P fN 1 (fC_saveState g v0) d (pr_P 63) 0 (ev_loc (pr_P 63).1 [(sR v0)]) [] g 0 0 := by
  show Go Φ pr_P fN 1 (fC_saveState g v0) d pr_m63 0 [some (sR v0)] [] g 0 0
  unfold fC_saveState
  refine go_aload k63_0 rfl ?_
  refine go_getR (bI := 2) k63_1 hg hK0 (by decide) rfl rfl (fun r1 => ?_)
  refine go_aload k63_4 rfl ?_
  refine go_getR (bI := 0) k63_5 hg hK0 (by decide) rfl rfl (fun r2 => ?_)
  refine go_ck (fun q3 => ?_)
  refine go_callN0 k63_8 rfl rfl rfl ⟨by decide, _, rfl, q3⟩ ⟨Nat.zero_le _, Nat.zero_le _⟩ (by omega) (tfT_take (by omega) hg q3  r2) (fun y4 g6 e7 => ?_)
  refine go_aload k63_11 rfl ?_
  refine go_int k63_12 1 rfl ?_
  refine go_putB (bI := 6) k63_13 e7 hK0 (by decide) rfl rfl (Or.inr rfl) (fun g8 e9 => ?_)
  refine go_aload k63_16 rfl ?_
  refine go_getR (bI := 0) k63_17 e9 hK0 (by decide) rfl rfl (fun r10 => ?_)
  refine go_int k63_20 0 rfl ?_
  refine go_ck (fun q11 => ?_)
  refine go_callP1 k63_21 rfl rfl rfl ⟨by decide, _, rfl, q11⟩ ⟨Nat.zero_le _, Nat.zero_le _⟩ (by omega) (tfT_countInState (by omega) e9 q11  (inR_b (Or.inl rfl))) (fun y12 r13 => ?_)
  exact go_iret k63_24 e9 r13 ⟨Nat.zero_le _, Nat.zero_le _⟩ rfl
theorem tfM_thrown {Φ : ev_P} {d : Nat} (hd : 0 ≤ d) {g : gH} (hg : HR g) {v0 : Int} (hK0 : kd v0 = 7) : Go Φ pr_P (fP g) 1 (fM_thrown g v0) d (pr_P 74) 0 (ev_loc (pr_P 74).1 [(sR v0)]) [] g 0 0 := by
  show Go Φ pr_P (fP g) 1 (fM_thrown g v0) d pr_m74 0 [some (sR v0)] [] g 0 0
  unfold fM_thrown
  refine go_aload k74_0 rfl ?_
  refine go_getI (bI := 8) k74_1 hg hK0 (by decide) rfl rfl (fun r1 => ?_)
  exact go_iret k74_4 hg r1 ⟨Nat.zero_le _, Nat.zero_le _⟩ rfl
theorem tbM_appendWord_3 {Φ : ev_P} {d : Nat} (hd : 0 ≤ d) {v0 v1 : Int} (hK0 : kd v0 = 7) (h1 : InR v1) {X3 : Int → gH → Option (Int × gH)} (HX3 : ∀ (v2 : Int) (h2 : InR v2) (g : gH) (hg : HR g), Go Φ pr_P fN 0 (X3 v2 g) d pr_m106 3 [some (sR v0), some (sI v1), some (sI v2)] [] g 0 0) : ∀ (v2 : Int) (h2 : InR v2) (g : gH) (hg : HR g), Go Φ pr_P fN 0 (bM_appendWord_3 v0 v1 X3 v2 g) d pr_m106 3 [some (sR v0), some (sI v1), some (sI v2)] [] g 0 0 := by
  intro v2 h2 g hg
  unfold bM_appendWord_3
  refine go_iload k106_3 rfl ?_
  refine go_iflt k106_4 h2 (fun c1 => ?_) (fun c2 => ?_)
  · exact go_vret k106_39 hg ⟨Nat.zero_le _, Nat.zero_le _⟩ rfl
  · refine go_aload k106_7 rfl ?_
    refine go_getR (bI := 9) k106_8 hg hK0 (by decide) rfl rfl (fun r3 => ?_)
    refine go_aload k106_11 rfl ?_
    refine go_getI (bI := 10) k106_12 hg hK0 (by decide) rfl rfl (fun r4 => ?_)
    refine go_iload k106_15 rfl ?_
    refine go_iload k106_16 rfl ?_
    refine go_ibin k106_17 ?_
    refine go_int k106_18 255 rfl ?_
    refine go_ibin k106_21 ?_
    refine go_ck (fun q5 => ?_)
    refine go_iast k106_22 hg q5 (inR_opI _ _ _) (fun g6 e7 => ?_)
    refine go_aload k106_23 rfl ?_
    refine go_dupR k106_24 ?_
    refine go_getI (bI := 10) k106_25 e7 hK0 (by decide) rfl rfl (fun r8 => ?_)
    refine go_int k106_28 1 rfl ?_
    refine go_iadd k106_29 ?_
    refine go_putI (bI := 10) k106_30 e7 hK0 (by decide) rfl rfl (inR_w32 _) (fun g9 e10 => ?_)
    refine go_iinc k106_33 rfl rfl (-8) rfl (loc2 := [some (sR v0), some (sI v1), some (sI (w32 (v2 + (-8))))]) rfl ?_
    refine go_goto k106_36 ?_
    exact HX3 (w32 (v2 + (-8))) (inR_w32 _) g9 e10
theorem tlM_appendWord_3 {Φ : ev_P} {d : Nat} (hd : 0 ≤ d) {v0 v1 : Int} (hK0 : kd v0 = 7) (h1 : InR v1) : ∀ n : Nat, ∀ (v2 : Int) (h2 : InR v2) (g : gH) (hg : HR g), Go Φ pr_P fN 0 (lM_appendWord_3 v0 v1 n v2 g) d pr_m106 3 [some (sR v0), some (sI v1), some (sI v2)] [] g 0 0 := by
  intro n
  induction n with
  | zero => intros; exact go_none
  | succ n ih => exact tbM_appendWord_3 hd hK0 h1 ih
theorem tfM_appendWord {Φ : ev_P} {d : Nat} (hd : 0 ≤ d) {g : gH} (hg : HR g) {v0 v1 : Int} (hK0 : kd v0 = 7) (h1 : InR v1) : Go Φ pr_P fN 0 (fM_appendWord g v0 v1) d (pr_P 106) 0 (ev_loc (pr_P 106).1 [(sR v0), (sI v1)]) [] g 0 0 := by
  show Go Φ pr_P fN 0 (fM_appendWord g v0 v1) d pr_m106 0 [some (sR v0), some (sI v1), none] [] g 0 0
  unfold fM_appendWord
  refine go_int k106_0 24 rfl ?_
  refine go_istore k106_2 rfl (loc2 := [some (sR v0), some (sI v1), some (sI 24)]) rfl ?_
  exact tlM_appendWord_3 hd hK0 h1 fu 24 (inR_of (by decide)) g hg
theorem tfM_appendInput {Φ : ev_P} {d : Nat} (hd : 1 ≤ d) {g : gH} (hg : HR g) {v0 v1 v2 v3 v4 v5 : Int} (hK0 : kd v0 = 7) (h1 : InR v1) (h2 : InR v2) (h3 : InR v3) (h4 : InR v4) (h5 : InR v5) : Go Φ pr_P fN 1 (fM_appendInput g v0 v1 v2 v3 v4 v5) d (pr_P 107) 0 (ev_loc (pr_P 107).1 [(sR v0), (sI v1), (sI v2), (sI v3), (sI v4), (sI v5)]) [] g 0 0 := by
  show Go Φ pr_P fN 1 (fM_appendInput g v0 v1 v2 v3 v4 v5) d pr_m107 0 [some (sR v0), some (sI v1), some (sI v2), some (sI v3), some (sI v4), some (sI v5)] [] g 0 0
  unfold fM_appendInput
  refine go_aload k107_0 rfl ?_
  refine go_int k107_1 0 rfl ?_
  refine go_putI (bI := 8) k107_2 hg hK0 (by decide) rfl rfl (inR_b (Or.inl rfl)) (fun g1 e2 => ?_)
  refine go_aload k107_5 rfl ?_
  refine go_getI (bI := 10) k107_6 e2 hK0 (by decide) rfl rfl (fun r3 => ?_)
  refine go_int k107_9 20 rfl ?_
  refine go_iadd k107_11 ?_
  refine go_int k107_12 500 rfl ?_
  refine go_cmgt k107_15 (inR_w32 _) (inR_of (by decide)) (fun c4 => ?_) (fun c5 => ?_)
  · refine go_int k107_18 (-1) rfl ?_
    exact go_iret k107_19 e2 (inR_of (by decide)) ⟨Nat.zero_le _, Nat.zero_le _⟩ rfl
  · refine go_aload k107_20 rfl ?_
    refine go_iload k107_21 rfl ?_
    refine go_callN0 k107_22 rfl rfl rfl ⟨by decide, _, rfl, hK0⟩ ⟨Nat.zero_le _, Nat.zero_le _⟩ (by omega) (tfM_appendWord (by omega) e2 hK0  h1) (fun y6 g8 e9 => ?_)
    refine go_aload k107_25 rfl ?_
    refine go_iload k107_26 rfl ?_
    refine go_callN0 k107_27 rfl rfl rfl ⟨by decide, _, rfl, hK0⟩ ⟨Nat.zero_le _, Nat.zero_le _⟩ (by omega) (tfM_appendWord (by omega) e9 hK0  h2) (fun y10 g12 e13 => ?_)
    refine go_aload k107_30 rfl ?_
    refine go_iload k107_31 rfl ?_
    refine go_callN0 k107_32 rfl rfl rfl ⟨by decide, _, rfl, hK0⟩ ⟨Nat.zero_le _, Nat.zero_le _⟩ (by omega) (tfM_appendWord (by omega) e13 hK0  h3) (fun y14 g16 e17 => ?_)
    refine go_aload k107_35 rfl ?_
    refine go_iload k107_36 rfl ?_
    refine go_callN0 k107_38 rfl rfl rfl ⟨by decide, _, rfl, hK0⟩ ⟨Nat.zero_le _, Nat.zero_le _⟩ (by omega) (tfM_appendWord (by omega) e17 hK0  h4) (fun y18 g20 e21 => ?_)
    refine go_aload k107_41 rfl ?_
    refine go_iload k107_42 rfl ?_
    refine go_callN0 k107_44 rfl rfl rfl ⟨by decide, _, rfl, hK0⟩ ⟨Nat.zero_le _, Nat.zero_le _⟩ (by omega) (tfM_appendWord (by omega) e21 hK0  h5) (fun y22 g24 e25 => ?_)
    refine go_aload k107_47 rfl ?_
    refine go_getI (bI := 10) k107_48 e25 hK0 (by decide) rfl rfl (fun r26 => ?_)
    exact go_iret k107_51 e25 r26 ⟨Nat.zero_le _, Nat.zero_le _⟩ rfl
theorem tfM_inRange {Φ : ev_P} {d : Nat} (hd : 0 ≤ d) {g : gH} (hg : HR g) {v0 v1 v2 : Int} (h0 : InR v0) (h1 : InR v1) (h2 : InR v2) : Go Φ pr_P (fP g) 3 (fM_inRange g v0 v1 v2) d (pr_P 75) 0 (ev_loc (pr_P 75).1 [(sI v0), (sI v1), (sI v2)]) [] g 0 0 := by
  show Go Φ pr_P (fP g) 3 (fM_inRange g v0 v1 v2) d pr_m75 0 [some (sI v0), some (sI v1), some (sI v2)] [] g 0 0
  unfold fM_inRange
  refine go_iload k75_0 rfl ?_
  refine go_iload k75_1 rfl ?_
  refine go_cmlt k75_2 h0 h1 (fun c1 => ?_) (fun c2 => ?_)
  · refine go_int k75_14 0 rfl ?_
    exact go_bret k75_15 hg (Or.inl rfl) ⟨Nat.zero_le _, Nat.zero_le _⟩ rfl
  · refine go_iload k75_5 rfl ?_
    refine go_iload k75_6 rfl ?_
    refine go_cmgt k75_7 h0 h2 (fun c3 => ?_) (fun c4 => ?_)
    · refine go_int k75_14 0 rfl ?_
      exact go_bret k75_15 hg (Or.inl rfl) ⟨Nat.zero_le _, Nat.zero_le _⟩ rfl
    · refine go_int k75_10 1 rfl ?_
      refine go_goto k75_11 ?_
      exact go_bret k75_15 hg (Or.inr rfl) ⟨Nat.zero_le _, Nat.zero_le _⟩ rfl
theorem tfM_truncateInput {Φ : ev_P} {d : Nat} (hd : 1 ≤ d) {g : gH} (hg : HR g) {v0 v1 : Int} (hK0 : kd v0 = 7) (h1 : InR v1) : Go Φ pr_P fN 3 (fM_truncateInput g v0 v1) d (pr_P 108) 0 (ev_loc (pr_P 108).1 [(sR v0), (sI v1)]) [] g 0 0 := by
  show Go Φ pr_P fN 3 (fM_truncateInput g v0 v1) d pr_m108 0 [some (sR v0), some (sI v1)] [] g 0 0
  unfold fM_truncateInput
  refine go_aload k108_0 rfl ?_
  refine go_int k108_1 0 rfl ?_
  refine go_putI (bI := 8) k108_2 hg hK0 (by decide) rfl rfl (inR_b (Or.inl rfl)) (fun g1 e2 => ?_)
  refine go_iload k108_5 rfl ?_
  refine go_int k108_6 0 rfl ?_
  refine go_aload k108_7 rfl ?_
  refine go_getI (bI := 10) k108_8 e2 hK0 (by decide) rfl rfl (fun r3 => ?_)
  refine go_callP3 k108_11 rfl rfl rfl trivial ⟨Nat.zero_le _, Nat.zero_le _⟩ (by omega) (tfM_inRange (by omega) e2  h1 (inR_b (Or.inl rfl)) r3) (fun y4 r5 => ?_)
  refine go_ifeq k108_14 (inR_b r5) (fun c8 => ?_) (fun c9 => ?_)
  · refine go_int k108_17 0 rfl ?_
    exact go_bret k108_18 e2 (Or.inl rfl) ⟨Nat.zero_le _, Nat.zero_le _⟩ rfl
  · refine go_aload k108_19 rfl ?_
    refine go_iload k108_20 rfl ?_
    refine go_putI (bI := 10) k108_21 e2 hK0 (by decide) rfl rfl h1 (fun g10 e11 => ?_)
    refine go_int k108_24 1 rfl ?_
    exact go_bret k108_25 e11 (Or.inr rfl) ⟨Nat.zero_le _, Nat.zero_le _⟩ rfl
theorem tbM_copies_3 {Φ : ev_P} {d : Nat} (hd : 0 ≤ d) {v0 v1 v2 v3 v4 : Int} (h0 : RfR v0) (h1 : InR v1) (h2 : RfR v2) (h3 : InR v3) (h4 : InR v4) {X3 : Int → gH → Option (Int × gH)} (HX3 : ∀ (v5 : Int) (h5 : InR v5) (g : gH) (hg : HR g), Go Φ pr_P fN 0 (X3 v5 g) d pr_m77 3 [some (sR v0), some (sI v1), some (sR v2), some (sI v3), some (sI v4), some (sI v5)] [] g 0 0) : ∀ (v5 : Int) (h5 : InR v5) (g : gH) (hg : HR g), Go Φ pr_P fN 0 (bM_copies_3 v0 v1 v2 v3 v4 X3 v5 g) d pr_m77 3 [some (sR v0), some (sI v1), some (sR v2), some (sI v3), some (sI v4), some (sI v5)] [] g 0 0 := by
  intro v5 h5 g hg
  unfold bM_copies_3
  refine go_iload k77_3 rfl ?_
  refine go_iload k77_5 rfl ?_
  refine go_cmlt k77_7 h5 h4 (fun c1 => ?_) (fun c2 => ?_)
  · refine go_aload k77_10 rfl ?_
    refine go_iload k77_11 rfl ?_
    refine go_iload k77_12 rfl ?_
    refine go_iadd k77_14 ?_
    refine go_aload k77_15 rfl ?_
    refine go_iload k77_16 rfl ?_
    refine go_iload k77_17 rfl ?_
    refine go_iadd k77_19 ?_
    refine go_ck (fun q4 => ?_)
    refine go_iald k77_20 hg q4 (fun r3 => ?_)
    refine go_ck (fun q5 => ?_)
    refine go_iast k77_21 hg q5 r3 (fun g6 e7 => ?_)
    refine go_iinc k77_22 rfl rfl 1 rfl (loc2 := [some (sR v0), some (sI v1), some (sR v2), some (sI v3), some (sI v4), some (sI (w32 (v5 + 1)))]) rfl ?_
    refine go_goto k77_25 ?_
    exact HX3 (w32 (v5 + 1)) (inR_w32 _) g6 e7
  · exact go_vret k77_28 hg ⟨Nat.zero_le _, Nat.zero_le _⟩ rfl
theorem tlM_copies_3 {Φ : ev_P} {d : Nat} (hd : 0 ≤ d) {v0 v1 v2 v3 v4 : Int} (h0 : RfR v0) (h1 : InR v1) (h2 : RfR v2) (h3 : InR v3) (h4 : InR v4) : ∀ n : Nat, ∀ (v5 : Int) (h5 : InR v5) (g : gH) (hg : HR g), Go Φ pr_P fN 0 (lM_copies_3 v0 v1 v2 v3 v4 n v5 g) d pr_m77 3 [some (sR v0), some (sI v1), some (sR v2), some (sI v3), some (sI v4), some (sI v5)] [] g 0 0 := by
  intro n
  induction n with
  | zero => intros; exact go_none
  | succ n ih => exact tbM_copies_3 hd h0 h1 h2 h3 h4 ih
theorem tfM_copies {Φ : ev_P} {d : Nat} (hd : 0 ≤ d) {g : gH} (hg : HR g) {v0 v1 v2 v3 v4 : Int} (h0 : RfR v0) (h1 : InR v1) (h2 : RfR v2) (h3 : InR v3) (h4 : InR v4) : Go Φ pr_P fN 0 (fM_copies g v0 v1 v2 v3 v4) d (pr_P 77) 0 (ev_loc (pr_P 77).1 [(sR v0), (sI v1), (sR v2), (sI v3), (sI v4)]) [] g 0 0 := by
  show Go Φ pr_P fN 0 (fM_copies g v0 v1 v2 v3 v4) d pr_m77 0 [some (sR v0), some (sI v1), some (sR v2), some (sI v3), some (sI v4), none] [] g 0 0
  unfold fM_copies
  refine go_int k77_0 0 rfl ?_
  refine go_istore k77_1 rfl (loc2 := [some (sR v0), some (sI v1), some (sR v2), some (sI v3), some (sI v4), some (sI 0)]) rfl ?_
  exact tlM_copies_3 hd h0 h1 h2 h3 h4 fu 0 (inR_b (Or.inl rfl)) g hg
theorem tjM_comes_161 {Φ : ev_P} {d : Nat} (hd : 0 ≤ d) {g : gH} (hg : HR g) {v0 v5 : Int} (hK0 : kd v0 = 7) (h5 : InR v5) (u1 : Option ev_V) (w1 : nwo u1) (u2 : Option ev_V) (w2 : nwo u2) (u3 : Option ev_V) (w3 : nwo u3) (u4 : Option ev_V) (w4 : nwo u4) (u6 : Option ev_V) (w6 : nwo u6) : Go Φ pr_P fN 1 (jM_comes_161 g v0 v5 ) d pr_m79 161 [some (sR v0), u1, u2, u3, u4, some (sI v5), u6] [] g 0 0 := by
  unfold jM_comes_161
  refine go_aload k79_161 rfl ?_
  refine go_getR (bI := 0) k79_162 hg hK0 (by decide) rfl rfl (fun r50 => ?_)
  refine go_int k79_165 0 rfl ?_
  refine go_dup2 k79_166 ?_
  refine go_ck (fun q52 => ?_)
  refine go_iald k79_167 hg q52 (fun r51 => ?_)
  refine go_int k79_168 1 rfl ?_
  refine go_iadd k79_169 ?_
  refine go_ck (fun q53 => ?_)
  refine go_iast k79_170 hg q53 (inR_w32 _) (fun g54 e55 => ?_)
  refine go_iload k79_171 rfl ?_
  exact go_iret k79_173 e55 h5 ⟨Nat.zero_le _, Nat.zero_le _⟩ rfl
theorem tbM_comes_130 {Φ : ev_P} {d : Nat} (hd : 0 ≤ d) {v0 v5 : Int} (hK0 : kd v0 = 7) (h5 : InR v5) {X130 : Int → gH → Option (Int × gH)} (HX130 : ∀ (v6 : Int) (h6 : InR v6) (g : gH) (hg : HR g) (u1 : Option ev_V) (w1 : nwo u1) (u2 : Option ev_V) (w2 : nwo u2) (u3 : Option ev_V) (w3 : nwo u3) (u4 : Option ev_V) (w4 : nwo u4), Go Φ pr_P fN 1 (X130 v6 g) d pr_m79 130 [some (sR v0), u1, u2, u3, u4, some (sI v5), some (sI v6)] [] g 0 0) : ∀ (v6 : Int) (h6 : InR v6) (g : gH) (hg : HR g) (u1 : Option ev_V) (w1 : nwo u1) (u2 : Option ev_V) (w2 : nwo u2) (u3 : Option ev_V) (w3 : nwo u3) (u4 : Option ev_V) (w4 : nwo u4), Go Φ pr_P fN 1 (bM_comes_130 v0 v5 X130 v6 g) d pr_m79 130 [some (sR v0), u1, u2, u3, u4, some (sI v5), some (sI v6)] [] g 0 0 := by
  intro v6 h6 g hg u1 w1 u2 w2 u3 w3 u4 w4
  unfold bM_comes_130
  refine go_iload k79_130 rfl ?_
  refine go_int k79_132 8 rfl ?_
  refine go_cmlt k79_134 h6 (inR_of (by decide)) (fun c44 => ?_) (fun c45 => ?_)
  · refine go_aload k79_137 rfl ?_
    refine go_getR (bI := 0) k79_138 hg hK0 (by decide) rfl rfl (fun r46 => ?_)
    refine go_int k79_141 460 rfl ?_
    refine go_int k79_144 8 rfl ?_
    refine go_iload k79_146 rfl ?_
    refine go_ibin k79_148 ?_
    refine go_iadd k79_149 ?_
    refine go_iload k79_150 rfl ?_
    refine go_iadd k79_152 ?_
    refine go_int k79_153 (-1) rfl ?_
    refine go_ck (fun q47 => ?_)
    refine go_iast k79_154 hg q47 (inR_of (by decide)) (fun g48 e49 => ?_)
    refine go_iinc k79_155 rfl rfl 1 rfl (loc2 := [some (sR v0), u1, u2, u3, u4, some (sI v5), some (sI (w32 (v6 + 1)))]) rfl ?_
    refine go_goto k79_158 ?_
    exact HX130 (w32 (v6 + 1)) (inR_w32 _) g48 e49 u1 w1 u2 w2 u3 w3 u4 w4
  · exact tjM_comes_161 hd hg hK0 h5 u1 w1 u2 w2 u3 w3 u4 w4 (some (sI v6)) rfl
theorem tlM_comes_130 {Φ : ev_P} {d : Nat} (hd : 0 ≤ d) {v0 v5 : Int} (hK0 : kd v0 = 7) (h5 : InR v5) : ∀ n : Nat, ∀ (v6 : Int) (h6 : InR v6) (g : gH) (hg : HR g) (u1 : Option ev_V) (w1 : nwo u1) (u2 : Option ev_V) (w2 : nwo u2) (u3 : Option ev_V) (w3 : nwo u3) (u4 : Option ev_V) (w4 : nwo u4), Go Φ pr_P fN 1 (lM_comes_130 v0 v5 n v6 g) d pr_m79 130 [some (sR v0), u1, u2, u3, u4, some (sI v5), some (sI v6)] [] g 0 0 := by
  intro n
  induction n with
  | zero => intros; exact go_none
  | succ n ih => exact tbM_comes_130 hd hK0 h5 ih
theorem tfM_comes {Φ : ev_P} {d : Nat} (hd : 0 ≤ d) {g : gH} (hg : HR g) {v0 v1 v2 v3 v4 : Int} (hK0 : kd v0 = 7) (h1 : InR v1) (h2 : InR v2) (h3 : InR v3) (h4 : InR v4) : Go Φ pr_P fN 1 (fM_comes g v0 v1 v2 v3 v4) d (pr_P 79) 0 (ev_loc (pr_P 79).1 [(sR v0), (sI v1), (sI v2), (sI v3), (sI v4)]) [] g 0 0 := by
  show Go Φ pr_P fN 1 (fM_comes g v0 v1 v2 v3 v4) d pr_m79 0 [some (sR v0), some (sI v1), some (sI v2), some (sI v3), some (sI v4), none, none] [] g 0 0
  unfold fM_comes
  refine go_aload k79_0 rfl ?_
  refine go_getR (bI := 0) k79_1 hg hK0 (by decide) rfl rfl (fun r1 => ?_)
  refine go_int k79_4 0 rfl ?_
  refine go_ck (fun q3 => ?_)
  refine go_iald k79_5 hg q3 (fun r2 => ?_)
  refine go_istore k79_6 rfl (loc2 := [some (sR v0), some (sI v1), some (sI v2), some (sI v3), some (sI v4), some (sI (g (g v0 0) 0)), none]) rfl ?_
  refine go_aload k79_8 rfl ?_
  refine go_getR (bI := 0) k79_9 hg hK0 (by decide) rfl rfl (fun r4 => ?_)
  refine go_int k79_12 60 rfl ?_
  refine go_iload k79_14 rfl ?_
  refine go_iadd k79_16 ?_
  refine go_iload k79_17 rfl ?_
  refine go_ck (fun q5 => ?_)
  refine go_iast k79_18 hg q5 h1 (fun g6 e7 => ?_)
  refine go_aload k79_19 rfl ?_
  refine go_getR (bI := 0) k79_20 e7 hK0 (by decide) rfl rfl (fun r8 => ?_)
  refine go_int k79_23 100 rfl ?_
  refine go_iload k79_25 rfl ?_
  refine go_iadd k79_27 ?_
  refine go_iload k79_28 rfl ?_
  refine go_ck (fun q9 => ?_)
  refine go_iast k79_29 e7 q9 h2 (fun g10 e11 => ?_)
  refine go_aload k79_30 rfl ?_
  refine go_getR (bI := 0) k79_31 e11 hK0 (by decide) rfl rfl (fun r12 => ?_)
  refine go_int k79_34 140 rfl ?_
  refine go_iload k79_37 rfl ?_
  refine go_iadd k79_39 ?_
  refine go_int k79_40 0 rfl ?_
  refine go_ck (fun q13 => ?_)
  refine go_iast k79_41 e11 q13 (inR_b (Or.inl rfl)) (fun g14 e15 => ?_)
  refine go_aload k79_42 rfl ?_
  refine go_getR (bI := 0) k79_43 e15 hK0 (by decide) rfl rfl (fun r16 => ?_)
  refine go_int k79_46 180 rfl ?_
  refine go_iload k79_49 rfl ?_
  refine go_iadd k79_51 ?_
  refine go_iload k79_52 rfl ?_
  refine go_ck (fun q17 => ?_)
  refine go_iast k79_53 e15 q17 h3 (fun g18 e19 => ?_)
  refine go_aload k79_54 rfl ?_
  refine go_getR (bI := 0) k79_55 e19 hK0 (by decide) rfl rfl (fun r20 => ?_)
  refine go_int k79_58 220 rfl ?_
  refine go_iload k79_61 rfl ?_
  refine go_iadd k79_63 ?_
  refine go_iload k79_64 rfl ?_
  refine go_ck (fun q21 => ?_)
  refine go_iast k79_66 e19 q21 h4 (fun g22 e23 => ?_)
  refine go_aload k79_67 rfl ?_
  refine go_getR (bI := 0) k79_68 e23 hK0 (by decide) rfl rfl (fun r24 => ?_)
  refine go_int k79_71 260 rfl ?_
  refine go_iload k79_74 rfl ?_
  refine go_iadd k79_76 ?_
  refine go_int k79_77 (-1) rfl ?_
  refine go_ck (fun q25 => ?_)
  refine go_iast k79_78 e23 q25 (inR_of (by decide)) (fun g26 e27 => ?_)
  refine go_aload k79_79 rfl ?_
  refine go_getR (bI := 0) k79_80 e27 hK0 (by decide) rfl rfl (fun r28 => ?_)
  refine go_int k79_83 300 rfl ?_
  refine go_iload k79_86 rfl ?_
  refine go_iadd k79_88 ?_
  refine go_int k79_89 (-1) rfl ?_
  refine go_ck (fun q29 => ?_)
  refine go_iast k79_90 e27 q29 (inR_of (by decide)) (fun g30 e31 => ?_)
  refine go_aload k79_91 rfl ?_
  refine go_getR (bI := 0) k79_92 e31 hK0 (by decide) rfl rfl (fun r32 => ?_)
  refine go_int k79_95 340 rfl ?_
  refine go_iload k79_98 rfl ?_
  refine go_iadd k79_100 ?_
  refine go_int k79_101 0 rfl ?_
  refine go_ck (fun q33 => ?_)
  refine go_iast k79_102 e31 q33 (inR_b (Or.inl rfl)) (fun g34 e35 => ?_)
  refine go_aload k79_103 rfl ?_
  refine go_getR (bI := 0) k79_104 e35 hK0 (by decide) rfl rfl (fun r36 => ?_)
  refine go_int k79_107 380 rfl ?_
  refine go_iload k79_110 rfl ?_
  refine go_iadd k79_112 ?_
  refine go_int k79_113 0 rfl ?_
  refine go_ck (fun q37 => ?_)
  refine go_iast k79_114 e35 q37 (inR_b (Or.inl rfl)) (fun g38 e39 => ?_)
  refine go_aload k79_115 rfl ?_
  refine go_getR (bI := 0) k79_116 e39 hK0 (by decide) rfl rfl (fun r40 => ?_)
  refine go_int k79_119 420 rfl ?_
  refine go_iload k79_122 rfl ?_
  refine go_iadd k79_124 ?_
  refine go_int k79_125 (-1) rfl ?_
  refine go_ck (fun q41 => ?_)
  refine go_iast k79_126 e39 q41 (inR_of (by decide)) (fun g42 e43 => ?_)
  refine go_int k79_127 0 rfl ?_
  refine go_istore k79_128 rfl (loc2 := [some (sR v0), some (sI v1), some (sI v2), some (sI v3), some (sI v4), some (sI (g (g v0 0) 0)), some (sI 0)]) rfl ?_
  exact tlM_comes_130 hd hK0 r2 fu 0 (inR_b (Or.inl rfl)) g42 e43 (some (sI v1)) rfl (some (sI v2)) rfl (some (sI v3)) rfl (some (sI v4)) rfl
theorem tjM_clear_52 {Φ : ev_P} {d : Nat} (hd : 1 ≤ d) {g : gH} (hg : HR g) {v0 : Int} (hK0 : kd v0 = 7) (u1 : Option ev_V) (w1 : nwo u1) : Go Φ pr_P fN 0 (jM_clear_52 g v0 ) d pr_m78 52 [some (sR v0), u1] [] g 0 0 := by
  unfold jM_clear_52
  refine go_aload k78_52 rfl ?_
  refine go_getR (bI := 0) k78_53 hg hK0 (by decide) rfl rfl (fun r17 => ?_)
  refine go_int k78_56 59 rfl ?_
  refine go_int k78_58 20 rfl ?_
  refine go_ck (fun q18 => ?_)
  refine go_iast k78_60 hg q18 (inR_of (by decide)) (fun g19 e20 => ?_)
  refine go_aload k78_61 rfl ?_
  refine go_int k78_62 (-1) rfl ?_
  refine go_int k78_63 9 rfl ?_
  refine go_int k78_65 0 rfl ?_
  refine go_int k78_66 0 rfl ?_
  refine go_callN1 k78_67 rfl rfl rfl ⟨by decide, _, rfl, hK0⟩ ⟨Nat.zero_le _, Nat.zero_le _⟩ (by omega) (tfM_comes (by omega) e20 hK0  (inR_of (by decide)) (inR_of (by decide)) (inR_b (Or.inl rfl)) (inR_b (Or.inl rfl))) (fun y21 g23 r22 e24 => ?_)
  refine go_popI k78_70 ?_
  exact go_vret k78_71 e24 ⟨Nat.zero_le _, Nat.zero_le _⟩ rfl
theorem tbM_clear_31 {Φ : ev_P} {d : Nat} (hd : 1 ≤ d) {v0 : Int} (hK0 : kd v0 = 7) {X31 : Int → gH → Option (Int × gH)} (HX31 : ∀ (v1 : Int) (h1 : InR v1) (g : gH) (hg : HR g), Go Φ pr_P fN 0 (X31 v1 g) d pr_m78 31 [some (sR v0), some (sI v1)] [] g 0 0) : ∀ (v1 : Int) (h1 : InR v1) (g : gH) (hg : HR g), Go Φ pr_P fN 0 (bM_clear_31 v0 X31 v1 g) d pr_m78 31 [some (sR v0), some (sI v1)] [] g 0 0 := by
  intro v1 h1 g hg
  unfold bM_clear_31
  refine go_iload k78_31 rfl ?_
  refine go_int k78_32 3 rfl ?_
  refine go_cmlt k78_33 h1 (inR_of (by decide)) (fun c11 => ?_) (fun c12 => ?_)
  · refine go_aload k78_36 rfl ?_
    refine go_getR (bI := 0) k78_37 hg hK0 (by decide) rfl rfl (fun r13 => ?_)
    refine go_int k78_40 6 rfl ?_
    refine go_iload k78_42 rfl ?_
    refine go_iadd k78_43 ?_
    refine go_iload k78_44 rfl ?_
    refine go_ck (fun q14 => ?_)
    refine go_iast k78_45 hg q14 h1 (fun g15 e16 => ?_)
    refine go_iinc k78_46 rfl rfl 1 rfl (loc2 := [some (sR v0), some (sI (w32 (v1 + 1)))]) rfl ?_
    refine go_goto k78_49 ?_
    exact HX31 (w32 (v1 + 1)) (inR_w32 _) g15 e16
  · exact tjM_clear_52 hd hg hK0 (some (sI v1)) rfl
theorem tlM_clear_31 {Φ : ev_P} {d : Nat} (hd : 1 ≤ d) {v0 : Int} (hK0 : kd v0 = 7) : ∀ n : Nat, ∀ (v1 : Int) (h1 : InR v1) (g : gH) (hg : HR g), Go Φ pr_P fN 0 (lM_clear_31 v0 n v1 g) d pr_m78 31 [some (sR v0), some (sI v1)] [] g 0 0 := by
  intro n
  induction n with
  | zero => intros; exact go_none
  | succ n ih => exact tbM_clear_31 hd hK0 ih
theorem tjM_clear_22 {Φ : ev_P} {d : Nat} (hd : 1 ≤ d) {g : gH} (hg : HR g) {v0 : Int} (hK0 : kd v0 = 7) (u1 : Option ev_V) (w1 : nwo u1) : Go Φ pr_P fN 0 (jM_clear_22 g v0 ) d pr_m78 22 [some (sR v0), u1] [] g 0 0 := by
  unfold jM_clear_22
  refine go_aload k78_22 rfl ?_
  refine go_getR (bI := 0) k78_23 hg hK0 (by decide) rfl rfl (fun r7 => ?_)
  refine go_int k78_26 5 rfl ?_
  refine go_int k78_27 3 rfl ?_
  refine go_ck (fun q8 => ?_)
  refine go_iast k78_28 hg q8 (inR_of (by decide)) (fun g9 e10 => ?_)
  refine go_int k78_29 0 rfl ?_
  refine go_istore k78_30 rfl (loc2 := [some (sR v0), some (sI 0)]) rfl ?_
  exact tlM_clear_31 hd hK0 fu 0 (inR_b (Or.inl rfl)) g9 e10
theorem tbM_clear_2 {Φ : ev_P} {d : Nat} (hd : 1 ≤ d) {v0 : Int} (hK0 : kd v0 = 7) {X2 : Int → gH → Option (Int × gH)} (HX2 : ∀ (v1 : Int) (h1 : InR v1) (g : gH) (hg : HR g), Go Φ pr_P fN 0 (X2 v1 g) d pr_m78 2 [some (sR v0), some (sI v1)] [] g 0 0) : ∀ (v1 : Int) (h1 : InR v1) (g : gH) (hg : HR g), Go Φ pr_P fN 0 (bM_clear_2 v0 X2 v1 g) d pr_m78 2 [some (sR v0), some (sI v1)] [] g 0 0 := by
  intro v1 h1 g hg
  unfold bM_clear_2
  refine go_iload k78_2 rfl ?_
  refine go_int k78_3 780 rfl ?_
  refine go_cmlt k78_6 h1 (inR_of (by decide)) (fun c1 => ?_) (fun c2 => ?_)
  · refine go_aload k78_9 rfl ?_
    refine go_getR (bI := 0) k78_10 hg hK0 (by decide) rfl rfl (fun r3 => ?_)
    refine go_iload k78_13 rfl ?_
    refine go_int k78_14 0 rfl ?_
    refine go_ck (fun q4 => ?_)
    refine go_iast k78_15 hg q4 (inR_b (Or.inl rfl)) (fun g5 e6 => ?_)
    refine go_iinc k78_16 rfl rfl 1 rfl (loc2 := [some (sR v0), some (sI (w32 (v1 + 1)))]) rfl ?_
    refine go_goto k78_19 ?_
    exact HX2 (w32 (v1 + 1)) (inR_w32 _) g5 e6
  · exact tjM_clear_22 hd hg hK0 (some (sI v1)) rfl
theorem tlM_clear_2 {Φ : ev_P} {d : Nat} (hd : 1 ≤ d) {v0 : Int} (hK0 : kd v0 = 7) : ∀ n : Nat, ∀ (v1 : Int) (h1 : InR v1) (g : gH) (hg : HR g), Go Φ pr_P fN 0 (lM_clear_2 v0 n v1 g) d pr_m78 2 [some (sR v0), some (sI v1)] [] g 0 0 := by
  intro n
  induction n with
  | zero => intros; exact go_none
  | succ n ih => exact tbM_clear_2 hd hK0 ih
theorem tfM_clear {Φ : ev_P} {d : Nat} (hd : 1 ≤ d) {g : gH} (hg : HR g) {v0 : Int} (hK0 : kd v0 = 7) : Go Φ pr_P fN 0 (fM_clear g v0) d (pr_P 78) 0 (ev_loc (pr_P 78).1 [(sR v0)]) [] g 0 0 := by
  show Go Φ pr_P fN 0 (fM_clear g v0) d pr_m78 0 [some (sR v0), none] [] g 0 0
  unfold fM_clear
  refine go_int k78_0 0 rfl ?_
  refine go_istore k78_1 rfl (loc2 := [some (sR v0), some (sI 0)]) rfl ?_
  exact tlM_clear_2 hd hK0 fu 0 (inR_b (Or.inl rfl)) g hg
theorem tfM_byteAt {Φ : ev_P} {d : Nat} (hd : 0 ≤ d) {g : gH} (hg : HR g) {v0 v1 : Int} (hK0 : kd v0 = 7) (h1 : InR v1) : Go Φ pr_P (fP g) 1 (fM_byteAt g v0 v1) d (pr_P 109) 0 (ev_loc (pr_P 109).1 [(sR v0), (sI v1)]) [] g 0 0 := by
  show Go Φ pr_P (fP g) 1 (fM_byteAt g v0 v1) d pr_m109 0 [some (sR v0), some (sI v1)] [] g 0 0
  unfold fM_byteAt
  refine go_iload k109_0 rfl ?_
  refine go_aload k109_1 rfl ?_
  refine go_getI (bI := 10) k109_2 hg hK0 (by decide) rfl rfl (fun r1 => ?_)
  refine go_cmlt k109_5 h1 r1 (fun c2 => ?_) (fun c3 => ?_)
  · refine go_aload k109_8 rfl ?_
    refine go_getR (bI := 9) k109_9 hg hK0 (by decide) rfl rfl (fun r4 => ?_)
    refine go_iload k109_12 rfl ?_
    refine go_ck (fun q6 => ?_)
    refine go_iald k109_13 hg q6 (fun r5 => ?_)
    refine go_goto k109_14 ?_
    exact go_iret k109_18 hg r5 ⟨Nat.zero_le _, Nat.zero_le _⟩ rfl
  · refine go_int k109_17 (-1) rfl ?_
    exact go_iret k109_18 hg (inR_of (by decide)) ⟨Nat.zero_le _, Nat.zero_le _⟩ rfl
theorem tbM_advanceToken_137 {Φ : ev_P} {d : Nat} (hd : 1 ≤ d) {v0 : Int} (hK0 : kd v0 = 7) {X137 : gH → Option (Int × gH)} (HX137 : ∀ (g : gH) (hg : HR g) (u1 : Option ev_V) (w1 : nwo u1), Go Φ pr_P fN 0 (X137 g) d pr_m110 137 [some (sR v0), u1] [] g 0 0) : ∀ (g : gH) (hg : HR g) (u1 : Option ev_V) (w1 : nwo u1), Go Φ pr_P fN 0 (bM_advanceToken_137 v0 X137 g) d pr_m110 137 [some (sR v0), u1] [] g 0 0 := by
  intro g hg u1 w1
  unfold bM_advanceToken_137
  refine go_aload k110_137 rfl ?_
  refine go_aload k110_138 rfl ?_
  refine go_getI (bI := 15) k110_139 hg hK0 (by decide) rfl rfl (fun r63 => ?_)
  refine go_callP1 k110_142 rfl rfl rfl ⟨by decide, _, rfl, hK0⟩ ⟨Nat.zero_le _, Nat.zero_le _⟩ (by omega) (tfM_byteAt (by omega) hg hK0  r63) (fun y64 r65 => ?_)
  refine go_int k110_145 48 rfl ?_
  refine go_int k110_147 57 rfl ?_
  refine go_callP3 k110_149 rfl rfl rfl trivial ⟨Nat.zero_le _, Nat.zero_le _⟩ (by omega) (tfM_inRange (by omega) hg  r65 (inR_of (by decide)) (inR_of (by decide))) (fun y68 r69 => ?_)
  refine go_ifeq k110_152 (inR_b r69) (fun c72 => ?_) (fun c73 => ?_)
  · exact go_vret k110_229 hg ⟨Nat.zero_le _, Nat.zero_le _⟩ rfl
  · refine go_aload k110_155 rfl ?_
    refine go_getI (bI := 15) k110_156 hg hK0 (by decide) rfl rfl (fun r74 => ?_)
    refine go_aload k110_159 rfl ?_
    refine go_getI (bI := 16) k110_160 hg hK0 (by decide) rfl rfl (fun r75 => ?_)
    refine go_isub k110_163 ?_
    refine go_int k110_164 2 rfl ?_
    refine go_cmlt k110_165 (inR_w32 _) (inR_of (by decide)) (fun c76 => ?_) (fun c77 => ?_)
    · refine go_aload k110_168 rfl ?_
      refine go_int k110_169 10 rfl ?_
      refine go_aload k110_171 rfl ?_
      refine go_getI (bI := 17) k110_172 hg hK0 (by decide) rfl rfl (fun r78 => ?_)
      refine go_ibin k110_175 ?_
      refine go_aload k110_176 rfl ?_
      refine go_aload k110_177 rfl ?_
      refine go_getI (bI := 15) k110_178 hg hK0 (by decide) rfl rfl (fun r79 => ?_)
      refine go_callP1 k110_181 rfl rfl rfl ⟨by decide, _, rfl, hK0⟩ ⟨Nat.zero_le _, Nat.zero_le _⟩ (by omega) (tfM_byteAt (by omega) hg hK0  r79) (fun y80 r81 => ?_)
      refine go_iadd k110_184 ?_
      refine go_int k110_185 48 rfl ?_
      refine go_isub k110_187 ?_
      refine go_putI (bI := 17) k110_188 hg hK0 (by decide) rfl rfl (inR_w32 _) (fun g84 e85 => ?_)
      refine go_aload k110_191 rfl ?_
      refine go_dupR k110_192 ?_
      refine go_getI (bI := 15) k110_193 e85 hK0 (by decide) rfl rfl (fun r86 => ?_)
      refine go_int k110_196 1 rfl ?_
      refine go_iadd k110_197 ?_
      refine go_putI (bI := 15) k110_198 e85 hK0 (by decide) rfl rfl (inR_w32 _) (fun g87 e88 => ?_)
      refine go_goto k110_201 ?_
      exact HX137 g87 e88 u1 w1
    · refine go_aload k110_191 rfl ?_
      refine go_dupR k110_192 ?_
      refine go_getI (bI := 15) k110_193 hg hK0 (by decide) rfl rfl (fun r89 => ?_)
      refine go_int k110_196 1 rfl ?_
      refine go_iadd k110_197 ?_
      refine go_putI (bI := 15) k110_198 hg hK0 (by decide) rfl rfl (inR_w32 _) (fun g90 e91 => ?_)
      refine go_goto k110_201 ?_
      exact HX137 g90 e91 u1 w1
theorem tlM_advanceToken_137 {Φ : ev_P} {d : Nat} (hd : 1 ≤ d) {v0 : Int} (hK0 : kd v0 = 7) : ∀ n : Nat, ∀ (g : gH) (hg : HR g) (u1 : Option ev_V) (w1 : nwo u1), Go Φ pr_P fN 0 (lM_advanceToken_137 v0 n g) d pr_m110 137 [some (sR v0), u1] [] g 0 0 := by
  intro n
  induction n with
  | zero => intros; exact go_none
  | succ n ih => exact tbM_advanceToken_137 hd hK0 ih
theorem tbM_advanceToken_90 {Φ : ev_P} {d : Nat} (hd : 1 ≤ d) {v0 : Int} (hK0 : kd v0 = 7) {X90 : gH → Option (Int × gH)} (HX90 : ∀ (g : gH) (hg : HR g) (u1 : Option ev_V) (w1 : nwo u1), Go Φ pr_P fN 0 (X90 g) d pr_m110 90 [some (sR v0), u1] [] g 0 0) : ∀ (g : gH) (hg : HR g) (u1 : Option ev_V) (w1 : nwo u1), Go Φ pr_P fN 0 (bM_advanceToken_90 v0 X90 g) d pr_m110 90 [some (sR v0), u1] [] g 0 0 := by
  intro g hg u1 w1
  unfold bM_advanceToken_90
  refine go_aload k110_90 rfl ?_
  refine go_aload k110_91 rfl ?_
  refine go_getI (bI := 15) k110_92 hg hK0 (by decide) rfl rfl (fun r92 => ?_)
  refine go_callP1 k110_95 rfl rfl rfl ⟨by decide, _, rfl, hK0⟩ ⟨Nat.zero_le _, Nat.zero_le _⟩ (by omega) (tfM_byteAt (by omega) hg hK0  r92) (fun y93 r94 => ?_)
  refine go_int k110_98 97 rfl ?_
  refine go_int k110_100 122 rfl ?_
  refine go_callP3 k110_102 rfl rfl rfl trivial ⟨Nat.zero_le _, Nat.zero_le _⟩ (by omega) (tfM_inRange (by omega) hg  r94 (inR_of (by decide)) (inR_of (by decide))) (fun y97 r98 => ?_)
  refine go_ifeq k110_105 (inR_b r98) (fun c101 => ?_) (fun c102 => ?_)
  · exact go_vret k110_229 hg ⟨Nat.zero_le _, Nat.zero_le _⟩ rfl
  · refine go_aload k110_108 rfl ?_
    refine go_dupR k110_109 ?_
    refine go_getI (bI := 15) k110_110 hg hK0 (by decide) rfl rfl (fun r103 => ?_)
    refine go_int k110_113 1 rfl ?_
    refine go_iadd k110_114 ?_
    refine go_putI (bI := 15) k110_115 hg hK0 (by decide) rfl rfl (inR_w32 _) (fun g104 e105 => ?_)
    refine go_goto k110_118 ?_
    exact HX90 g104 e105 u1 w1
theorem tlM_advanceToken_90 {Φ : ev_P} {d : Nat} (hd : 1 ≤ d) {v0 : Int} (hK0 : kd v0 = 7) : ∀ n : Nat, ∀ (g : gH) (hg : HR g) (u1 : Option ev_V) (w1 : nwo u1), Go Φ pr_P fN 0 (lM_advanceToken_90 v0 n g) d pr_m110 90 [some (sR v0), u1] [] g 0 0 := by
  intro n
  induction n with
  | zero => intros; exact go_none
  | succ n ih => exact tbM_advanceToken_90 hd hK0 ih
theorem tjM_advanceToken_39 {Φ : ev_P} {d : Nat} (hd : 1 ≤ d) {g : gH} (hg : HR g) {v0 : Int} (hK0 : kd v0 = 7) (u1 : Option ev_V) (w1 : nwo u1) : Go Φ pr_P fN 0 (jM_advanceToken_39 g v0 ) d pr_m110 39 [some (sR v0), u1] [] g 0 0 := by
  unfold jM_advanceToken_39
  refine go_aload k110_39 rfl ?_
  refine go_aload k110_40 rfl ?_
  refine go_getI (bI := 15) k110_41 hg hK0 (by decide) rfl rfl (fun r21 => ?_)
  refine go_putI (bI := 16) k110_44 hg hK0 (by decide) rfl rfl r21 (fun g22 e23 => ?_)
  refine go_aload k110_47 rfl ?_
  refine go_aload k110_48 rfl ?_
  refine go_getI (bI := 15) k110_49 e23 hK0 (by decide) rfl rfl (fun r24 => ?_)
  refine go_callP1 k110_52 rfl rfl rfl ⟨by decide, _, rfl, hK0⟩ ⟨Nat.zero_le _, Nat.zero_le _⟩ (by omega) (tfM_byteAt (by omega) e23 hK0  r24) (fun y25 r26 => ?_)
  refine go_istore k110_55 rfl (loc2 := [some (sR v0), some (sI y25)]) rfl ?_
  refine go_aload k110_56 rfl ?_
  refine go_int k110_57 0 rfl ?_
  refine go_putI (bI := 17) k110_58 e23 hK0 (by decide) rfl rfl (inR_b (Or.inl rfl)) (fun g29 e30 => ?_)
  refine go_iload k110_61 rfl ?_
  refine go_int k110_62 (-1) rfl ?_
  refine go_cmeq k110_63 r26 (inR_of (by decide)) (fun c31 => ?_) (fun c32 => ?_)
  · refine go_aload k110_66 rfl ?_
    refine go_int k110_67 0 rfl ?_
    refine go_putI (bI := 18) k110_68 e30 hK0 (by decide) rfl rfl (inR_b (Or.inl rfl)) (fun g33 e34 => ?_)
    refine go_goto k110_71 ?_
    exact go_vret k110_229 e34 ⟨Nat.zero_le _, Nat.zero_le _⟩ rfl
  · refine go_iload k110_74 rfl ?_
    refine go_int k110_75 97 rfl ?_
    refine go_int k110_77 122 rfl ?_
    refine go_callP3 k110_79 rfl rfl rfl trivial ⟨Nat.zero_le _, Nat.zero_le _⟩ (by omega) (tfM_inRange (by omega) e30  r26 (inR_of (by decide)) (inR_of (by decide))) (fun y35 r36 => ?_)
    refine go_ifeq k110_82 (inR_b r36) (fun c39 => ?_) (fun c40 => ?_)
    · refine go_iload k110_121 rfl ?_
      refine go_int k110_122 48 rfl ?_
      refine go_int k110_124 57 rfl ?_
      refine go_callP3 k110_126 rfl rfl rfl trivial ⟨Nat.zero_le _, Nat.zero_le _⟩ (by omega) (tfM_inRange (by omega) e30  r26 (inR_of (by decide)) (inR_of (by decide))) (fun y41 r42 => ?_)
      refine go_ifeq k110_129 (inR_b r42) (fun c45 => ?_) (fun c46 => ?_)
      · refine go_aload k110_204 rfl ?_
        refine go_iload k110_205 rfl ?_
        refine go_int k110_206 59 rfl ?_
        refine go_cmeq k110_208 r26 (inR_of (by decide)) (fun c47 => ?_) (fun c48 => ?_)
        · refine go_int k110_211 3 rfl ?_
          refine go_goto k110_212 ?_
          refine go_putI (bI := 18) k110_216 e30 hK0 (by decide) rfl rfl (inR_of (by decide)) (fun g49 e50 => ?_)
          refine go_aload k110_219 rfl ?_
          refine go_dupR k110_220 ?_
          refine go_getI (bI := 15) k110_221 e50 hK0 (by decide) rfl rfl (fun r51 => ?_)
          refine go_int k110_224 1 rfl ?_
          refine go_iadd k110_225 ?_
          refine go_putI (bI := 15) k110_226 e50 hK0 (by decide) rfl rfl (inR_w32 _) (fun g52 e53 => ?_)
          exact go_vret k110_229 e53 ⟨Nat.zero_le _, Nat.zero_le _⟩ rfl
        · refine go_int k110_215 4 rfl ?_
          refine go_putI (bI := 18) k110_216 e30 hK0 (by decide) rfl rfl (inR_of (by decide)) (fun g54 e55 => ?_)
          refine go_aload k110_219 rfl ?_
          refine go_dupR k110_220 ?_
          refine go_getI (bI := 15) k110_221 e55 hK0 (by decide) rfl rfl (fun r56 => ?_)
          refine go_int k110_224 1 rfl ?_
          refine go_iadd k110_225 ?_
          refine go_putI (bI := 15) k110_226 e55 hK0 (by decide) rfl rfl (inR_w32 _) (fun g57 e58 => ?_)
          exact go_vret k110_229 e58 ⟨Nat.zero_le _, Nat.zero_le _⟩ rfl
      · refine go_aload k110_132 rfl ?_
        refine go_int k110_133 2 rfl ?_
        refine go_putI (bI := 18) k110_134 e30 hK0 (by decide) rfl rfl (inR_of (by decide)) (fun g59 e60 => ?_)
        exact tlM_advanceToken_137 hd hK0 fu g59 e60 (some (sI y25)) rfl
    · refine go_aload k110_85 rfl ?_
      refine go_int k110_86 1 rfl ?_
      refine go_putI (bI := 18) k110_87 e30 hK0 (by decide) rfl rfl (inR_b (Or.inr rfl)) (fun g61 e62 => ?_)
      exact tlM_advanceToken_90 hd hK0 fu g61 e62 (some (sI y25)) rfl
theorem tbM_advanceToken_0 {Φ : ev_P} {d : Nat} (hd : 1 ≤ d) {v0 : Int} (hK0 : kd v0 = 7) {X0 : gH → Option (Int × gH)} (HX0 : ∀ (g : gH) (hg : HR g) (u1 : Option ev_V) (w1 : nwo u1), Go Φ pr_P fN 0 (X0 g) d pr_m110 0 [some (sR v0), u1] [] g 0 0) : ∀ (g : gH) (hg : HR g) (u1 : Option ev_V) (w1 : nwo u1), Go Φ pr_P fN 0 (bM_advanceToken_0 v0 X0 g) d pr_m110 0 [some (sR v0), u1] [] g 0 0 := by
  intro g hg u1 w1
  unfold bM_advanceToken_0
  refine go_aload k110_0 rfl ?_
  refine go_aload k110_1 rfl ?_
  refine go_getI (bI := 15) k110_2 hg hK0 (by decide) rfl rfl (fun r1 => ?_)
  refine go_callP1 k110_5 rfl rfl rfl ⟨by decide, _, rfl, hK0⟩ ⟨Nat.zero_le _, Nat.zero_le _⟩ (by omega) (tfM_byteAt (by omega) hg hK0  r1) (fun y2 r3 => ?_)
  refine go_int k110_8 32 rfl ?_
  refine go_cmeq k110_10 r3 (inR_of (by decide)) (fun c6 => ?_) (fun c7 => ?_)
  · refine go_aload k110_26 rfl ?_
    refine go_dupR k110_27 ?_
    refine go_getI (bI := 15) k110_28 hg hK0 (by decide) rfl rfl (fun r8 => ?_)
    refine go_int k110_31 1 rfl ?_
    refine go_iadd k110_32 ?_
    refine go_putI (bI := 15) k110_33 hg hK0 (by decide) rfl rfl (inR_w32 _) (fun g9 e10 => ?_)
    refine go_goto k110_36 ?_
    exact HX0 g9 e10 u1 w1
  · refine go_aload k110_13 rfl ?_
    refine go_aload k110_14 rfl ?_
    refine go_getI (bI := 15) k110_15 hg hK0 (by decide) rfl rfl (fun r11 => ?_)
    refine go_callP1 k110_18 rfl rfl rfl ⟨by decide, _, rfl, hK0⟩ ⟨Nat.zero_le _, Nat.zero_le _⟩ (by omega) (tfM_byteAt (by omega) hg hK0  r11) (fun y12 r13 => ?_)
    refine go_int k110_21 10 rfl ?_
    refine go_cmeq k110_23 r13 (inR_of (by decide)) (fun c16 => ?_) (fun c17 => ?_)
    · refine go_aload k110_26 rfl ?_
      refine go_dupR k110_27 ?_
      refine go_getI (bI := 15) k110_28 hg hK0 (by decide) rfl rfl (fun r18 => ?_)
      refine go_int k110_31 1 rfl ?_
      refine go_iadd k110_32 ?_
      refine go_putI (bI := 15) k110_33 hg hK0 (by decide) rfl rfl (inR_w32 _) (fun g19 e20 => ?_)
      refine go_goto k110_36 ?_
      exact HX0 g19 e20 u1 w1
    · exact tjM_advanceToken_39 hd hg hK0 u1 w1
theorem tlM_advanceToken_0 {Φ : ev_P} {d : Nat} (hd : 1 ≤ d) {v0 : Int} (hK0 : kd v0 = 7) : ∀ n : Nat, ∀ (g : gH) (hg : HR g) (u1 : Option ev_V) (w1 : nwo u1), Go Φ pr_P fN 0 (lM_advanceToken_0 v0 n g) d pr_m110 0 [some (sR v0), u1] [] g 0 0 := by
  intro n
  induction n with
  | zero => intros; exact go_none
  | succ n ih => exact tbM_advanceToken_0 hd hK0 ih
theorem tfM_advanceToken {Φ : ev_P} {d : Nat} (hd : 1 ≤ d) {g : gH} (hg : HR g) {v0 : Int} (hK0 : kd v0 = 7) : Go Φ pr_P fN 0 (fM_advanceToken g v0) d (pr_P 110) 0 (ev_loc (pr_P 110).1 [(sR v0)]) [] g 0 0 := by
  show Go Φ pr_P fN 0 (fM_advanceToken g v0) d pr_m110 0 [some (sR v0), none] [] g 0 0
  unfold fM_advanceToken
  exact tlM_advanceToken_0 hd hK0 fu g hg none rfl
theorem tfM_failsAt {Φ : ev_P} {d : Nat} (hd : 0 ≤ d) {g : gH} (hg : HR g) {v0 v1 : Int} (hK0 : kd v0 = 7) (h1 : InR v1) : Go Φ pr_P fN 3 (fM_failsAt g v0 v1) d (pr_P 112) 0 (ev_loc (pr_P 112).1 [(sR v0), (sI v1)]) [] g 0 0 := by
  show Go Φ pr_P fN 3 (fM_failsAt g v0 v1) d pr_m112 0 [some (sR v0), some (sI v1)] [] g 0 0
  unfold fM_failsAt
  refine go_aload k112_0 rfl ?_
  refine go_getI (bI := 13) k112_1 hg hK0 (by decide) rfl rfl (fun r1 => ?_)
  refine go_ifeq k112_4 r1 (fun c2 => ?_) (fun c3 => ?_)
  · refine go_aload k112_7 rfl ?_
    refine go_iload k112_8 rfl ?_
    refine go_putI (bI := 13) k112_9 hg hK0 (by decide) rfl rfl h1 (fun g4 e5 => ?_)
    refine go_aload k112_12 rfl ?_
    refine go_aload k112_13 rfl ?_
    refine go_getI (bI := 16) k112_14 e5 hK0 (by decide) rfl rfl (fun r6 => ?_)
    refine go_putI (bI := 14) k112_17 e5 hK0 (by decide) rfl rfl r6 (fun g7 e8 => ?_)
    refine go_int k112_20 0 rfl ?_
    exact go_bret k112_21 e8 (Or.inl rfl) ⟨Nat.zero_le _, Nat.zero_le _⟩ rfl
  · refine go_int k112_20 0 rfl ?_
    exact go_bret k112_21 hg (Or.inl rfl) ⟨Nat.zero_le _, Nat.zero_le _⟩ rfl
theorem tfM_tokenLength {Φ : ev_P} {d : Nat} (hd : 0 ≤ d) {g : gH} (hg : HR g) {v0 : Int} (hK0 : kd v0 = 7) : Go Φ pr_P (fP g) 1 (fM_tokenLength g v0) d (pr_P 111) 0 (ev_loc (pr_P 111).1 [(sR v0)]) [] g 0 0 := by
  show Go Φ pr_P (fP g) 1 (fM_tokenLength g v0) d pr_m111 0 [some (sR v0)] [] g 0 0
  unfold fM_tokenLength
  refine go_aload k111_0 rfl ?_
  refine go_getI (bI := 15) k111_1 hg hK0 (by decide) rfl rfl (fun r1 => ?_)
  refine go_aload k111_4 rfl ?_
  refine go_getI (bI := 16) k111_5 hg hK0 (by decide) rfl rfl (fun r2 => ?_)
  refine go_isub k111_8 ?_
  exact go_iret k111_9 hg (inR_w32 _) ⟨Nat.zero_le _, Nat.zero_le _⟩ rfl
theorem tbM_isWord_23 {Φ : ev_P} {d : Nat} (hd : 1 ≤ d) {g : gH} (hg : HR g) {v0 v1 : Int} (hK0 : kd v0 = 7) {X23 : Int → Option Int} (HX23 : ∀ (v2 : Int) (h2 : InR v2), Go Φ pr_P (fP g) 3 (X23 v2) d pr_m113 23 [some (sR v0), some (sR v1), some (sI v2)] [] g 0 0) : ∀ (v2 : Int) (h2 : InR v2), Go Φ pr_P (fP g) 3 (bM_isWord_23 g v0 v1 X23 v2) d pr_m113 23 [some (sR v0), some (sR v1), some (sI v2)] [] g 0 0 := by
  intro v2 h2
  unfold bM_isWord_23
  refine go_iload k113_23 rfl ?_
  refine go_aload k113_24 rfl ?_
  refine go_ck (fun q11 => ?_)
  refine go_slen k113_25 q11 rfl ⟨Nat.zero_le _, Nat.zero_le _⟩ ?_
  refine go_cmlt k113_28 h2 (inR_gtl _) (fun c12 => ?_) (fun c13 => ?_)
  · refine go_aload k113_31 rfl ?_
    refine go_getR (bI := 9) k113_32 hg hK0 (by decide) rfl rfl (fun r14 => ?_)
    refine go_aload k113_35 rfl ?_
    refine go_getI (bI := 16) k113_36 hg hK0 (by decide) rfl rfl (fun r15 => ?_)
    refine go_iload k113_39 rfl ?_
    refine go_iadd k113_40 ?_
    refine go_ck (fun q17 => ?_)
    refine go_iald k113_41 hg q17 (fun r16 => ?_)
    refine go_aload k113_42 rfl ?_
    refine go_iload k113_43 rfl ?_
    refine go_ck (fun q18 => ?_)
    refine go_chat k113_44 q18 rfl ⟨Nat.zero_le _, Nat.zero_le _⟩ ?_
    refine go_cmeq k113_47 r16 (inR_gch _ _) (fun c19 => ?_) (fun c20 => ?_)
    · refine go_iinc k113_52 rfl rfl 1 rfl (loc2 := [some (sR v0), some (sR v1), some (sI (w32 (v2 + 1)))]) rfl ?_
      refine go_goto k113_55 ?_
      exact HX23 (w32 (v2 + 1)) (inR_w32 _)
    · refine go_int k113_50 0 rfl ?_
      exact go_bret k113_51 hg (Or.inl rfl) ⟨Nat.zero_le _, Nat.zero_le _⟩ rfl
  · refine go_int k113_58 1 rfl ?_
    exact go_bret k113_59 hg (Or.inr rfl) ⟨Nat.zero_le _, Nat.zero_le _⟩ rfl
theorem tlM_isWord_23 {Φ : ev_P} {d : Nat} (hd : 1 ≤ d) {g : gH} (hg : HR g) {v0 v1 : Int} (hK0 : kd v0 = 7) : ∀ n : Nat, ∀ (v2 : Int) (h2 : InR v2), Go Φ pr_P (fP g) 3 (lM_isWord_23 g v0 v1 n v2) d pr_m113 23 [some (sR v0), some (sR v1), some (sI v2)] [] g 0 0 := by
  intro n
  induction n with
  | zero => intros; exact go_none
  | succ n ih => exact tbM_isWord_23 hd hg hK0 ih
theorem tfM_isWord {Φ : ev_P} {d : Nat} (hd : 1 ≤ d) {g : gH} (hg : HR g) {v0 v1 : Int} (hK0 : kd v0 = 7) : Go Φ pr_P (fP g) 3 (fM_isWord g v0 v1) d (pr_P 113) 0 (ev_loc (pr_P 113).1 [(sR v0), (sR v1)]) [] g 0 0 := by
  show Go Φ pr_P (fP g) 3 (fM_isWord g v0 v1) d pr_m113 0 [some (sR v0), some (sR v1), none] [] g 0 0
  unfold fM_isWord
  refine go_aload k113_0 rfl ?_
  refine go_getI (bI := 18) k113_1 hg hK0 (by decide) rfl rfl (fun r1 => ?_)
  refine go_int k113_4 1 rfl ?_
  refine go_cmeq k113_5 r1 (inR_b (Or.inr rfl)) (fun c2 => ?_) (fun c3 => ?_)
  · refine go_aload k113_8 rfl ?_
    refine go_callP1 k113_9 rfl rfl rfl ⟨by decide, _, rfl, hK0⟩ ⟨Nat.zero_le _, Nat.zero_le _⟩ (by omega) (tfM_tokenLength (by omega) hg hK0 ) (fun y4 r5 => ?_)
    refine go_aload k113_12 rfl ?_
    refine go_ck (fun q8 => ?_)
    refine go_slen k113_13 q8 rfl ⟨Nat.zero_le _, Nat.zero_le _⟩ ?_
    refine go_cmeq k113_16 r5 (inR_gtl _) (fun c9 => ?_) (fun c10 => ?_)
    · refine go_int k113_21 0 rfl ?_
      refine go_istore k113_22 rfl (loc2 := [some (sR v0), some (sR v1), some (sI 0)]) rfl ?_
      exact tlM_isWord_23 hd hg hK0 fu 0 (inR_b (Or.inl rfl))
    · refine go_int k113_19 0 rfl ?_
      exact go_bret k113_20 hg (Or.inl rfl) ⟨Nat.zero_le _, Nat.zero_le _⟩ rfl
  · refine go_int k113_19 0 rfl ?_
    exact go_bret k113_20 hg (Or.inl rfl) ⟨Nat.zero_le _, Nat.zero_le _⟩ rfl
theorem tfM_isNumber {Φ : ev_P} {d : Nat} (hd : 1 ≤ d) {g : gH} (hg : HR g) {v0 v1 v2 : Int} (hK0 : kd v0 = 7) (h1 : InR v1) (h2 : InR v2) : Go Φ pr_P fN 3 (fM_isNumber g v0 v1 v2) d (pr_P 114) 0 (ev_loc (pr_P 114).1 [(sR v0), (sI v1), (sI v2)]) [] g 0 0 := by
  show Go Φ pr_P fN 3 (fM_isNumber g v0 v1 v2) d pr_m114 0 [some (sR v0), some (sI v1), some (sI v2)] [] g 0 0
  unfold fM_isNumber
  refine go_aload k114_0 rfl ?_
  refine go_getI (bI := 18) k114_1 hg hK0 (by decide) rfl rfl (fun r1 => ?_)
  refine go_int k114_4 2 rfl ?_
  refine go_cmeq k114_5 r1 (inR_of (by decide)) (fun c2 => ?_) (fun c3 => ?_)
  · refine go_aload k114_8 rfl ?_
    refine go_callP1 k114_9 rfl rfl rfl ⟨by decide, _, rfl, hK0⟩ ⟨Nat.zero_le _, Nat.zero_le _⟩ (by omega) (tfM_tokenLength (by omega) hg hK0 ) (fun y4 r5 => ?_)
    refine go_int k114_12 2 rfl ?_
    refine go_cmgt k114_13 r5 (inR_of (by decide)) (fun c8 => ?_) (fun c9 => ?_)
    · refine go_aload k114_16 rfl ?_
      refine go_int k114_17 1 rfl ?_
      refine go_callN3 k114_18 rfl rfl rfl ⟨by decide, _, rfl, hK0⟩ ⟨Nat.zero_le _, Nat.zero_le _⟩ (by omega) (tfM_failsAt (by omega) hg hK0  (inR_b (Or.inr rfl))) (fun y10 g12 r11 e13 => ?_)
      exact go_bret k114_21 e13 r11 ⟨Nat.zero_le _, Nat.zero_le _⟩ rfl
    · refine go_aload k114_22 rfl ?_
      refine go_getI (bI := 17) k114_23 hg hK0 (by decide) rfl rfl (fun r14 => ?_)
      refine go_iload k114_26 rfl ?_
      refine go_iload k114_27 rfl ?_
      refine go_callP3 k114_28 rfl rfl rfl trivial ⟨Nat.zero_le _, Nat.zero_le _⟩ (by omega) (tfM_inRange (by omega) hg  r14 h1 h2) (fun y15 r16 => ?_)
      refine go_ifeq k114_31 (inR_b r16) (fun c19 => ?_) (fun c20 => ?_)
      · refine go_aload k114_34 rfl ?_
        refine go_int k114_35 2 rfl ?_
        refine go_callN3 k114_36 rfl rfl rfl ⟨by decide, _, rfl, hK0⟩ ⟨Nat.zero_le _, Nat.zero_le _⟩ (by omega) (tfM_failsAt (by omega) hg hK0  (inR_of (by decide))) (fun y21 g23 r22 e24 => ?_)
        refine go_ifeq k114_39 (inR_b r22) (fun c25 => ?_) (fun c26 => ?_)
        · refine go_int k114_46 0 rfl ?_
          exact go_bret k114_47 e24 (Or.inl rfl) ⟨Nat.zero_le _, Nat.zero_le _⟩ rfl
        · refine go_int k114_42 1 rfl ?_
          refine go_goto k114_43 ?_
          exact go_bret k114_47 e24 (Or.inr rfl) ⟨Nat.zero_le _, Nat.zero_le _⟩ rfl
      · refine go_int k114_42 1 rfl ?_
        refine go_goto k114_43 ?_
        exact go_bret k114_47 hg (Or.inr rfl) ⟨Nat.zero_le _, Nat.zero_le _⟩ rfl
  · refine go_aload k114_16 rfl ?_
    refine go_int k114_17 1 rfl ?_
    refine go_callN3 k114_18 rfl rfl rfl ⟨by decide, _, rfl, hK0⟩ ⟨Nat.zero_le _, Nat.zero_le _⟩ (by omega) (tfM_failsAt (by omega) hg hK0  (inR_b (Or.inr rfl))) (fun y27 g29 r28 e30 => ?_)
    exact go_bret k114_21 e30 r28 ⟨Nat.zero_le _, Nat.zero_le _⟩ rfl
theorem tfM_takes {Φ : ev_P} {d : Nat} (hd : 2 ≤ d) {g : gH} (hg : HR g) {v0 v1 v2 v3 : Int} (hK0 : kd v0 = 7) (h1 : InR v1) (h2 : InR v2) (h3 : InR v3) : Go Φ pr_P fN 3 (fM_takes g v0 v1 v2 v3) d (pr_P 115) 0 (ev_loc (pr_P 115).1 [(sR v0), (sI v1), (sI v2), (sI v3)]) [] g 0 0 := by
  show Go Φ pr_P fN 3 (fM_takes g v0 v1 v2 v3) d pr_m115 0 [some (sR v0), some (sI v1), some (sI v2), some (sI v3)] [] g 0 0
  unfold fM_takes
  refine go_aload k115_0 rfl ?_
  refine go_iload k115_1 rfl ?_
  refine go_iload k115_2 rfl ?_
  refine go_callN3 k115_3 rfl rfl rfl ⟨by decide, _, rfl, hK0⟩ ⟨Nat.zero_le _, Nat.zero_le _⟩ (by omega) (tfM_isNumber (by omega) hg hK0  h2 h3) (fun y1 g3 r2 e4 => ?_)
  refine go_ifeq k115_6 (inR_b r2) (fun c5 => ?_) (fun c6 => ?_)
  · refine go_int k115_9 0 rfl ?_
    exact go_bret k115_10 e4 (Or.inl rfl) ⟨Nat.zero_le _, Nat.zero_le _⟩ rfl
  · refine go_aload k115_11 rfl ?_
    refine go_getR (bI := 20) k115_12 e4 hK0 (by decide) rfl rfl (fun r7 => ?_)
    refine go_iload k115_15 rfl ?_
    refine go_aload k115_16 rfl ?_
    refine go_getI (bI := 17) k115_17 e4 hK0 (by decide) rfl rfl (fun r8 => ?_)
    refine go_ck (fun q9 => ?_)
    refine go_iast k115_20 e4 q9 r8 (fun g10 e11 => ?_)
    refine go_aload k115_21 rfl ?_
    refine go_callN0 k115_22 rfl rfl rfl ⟨by decide, _, rfl, hK0⟩ ⟨Nat.zero_le _, Nat.zero_le _⟩ (by omega) (tfM_advanceToken (by omega) e11 hK0 ) (fun y12 g14 e15 => ?_)
    refine go_int k115_25 1 rfl ?_
    exact go_bret k115_26 e15 (Or.inr rfl) ⟨Nat.zero_le _, Nat.zero_le _⟩ rfl
theorem tfM_startsOnce {Φ : ev_P} {d : Nat} (hd : 2 ≤ d) {g : gH} (hg : HR g) {v0 v1 : Int} (hK0 : kd v0 = 7) (h1 : InR v1) : Go Φ pr_P fN 3 (fM_startsOnce g v0 v1) d (pr_P 116) 0 (ev_loc (pr_P 116).1 [(sR v0), (sI v1)]) [] g 0 0 := by
  show Go Φ pr_P fN 3 (fM_startsOnce g v0 v1) d pr_m116 0 [some (sR v0), some (sI v1)] [] g 0 0
  unfold fM_startsOnce
  refine go_aload k116_0 rfl ?_
  refine go_getI (bI := 19) k116_1 hg hK0 (by decide) rfl rfl (fun r1 => ?_)
  refine go_iload k116_4 rfl ?_
  refine go_ibin k116_5 ?_
  refine go_ifeq k116_6 (inR_opI _ _ _) (fun c2 => ?_) (fun c3 => ?_)
  · refine go_aload k116_15 rfl ?_
    refine go_dupR k116_16 ?_
    refine go_getI (bI := 19) k116_17 hg hK0 (by decide) rfl rfl (fun r4 => ?_)
    refine go_iload k116_20 rfl ?_
    refine go_ibin k116_21 ?_
    refine go_putI (bI := 19) k116_22 hg hK0 (by decide) rfl rfl (inR_opI _ _ _) (fun g5 e6 => ?_)
    refine go_aload k116_25 rfl ?_
    refine go_callN0 k116_26 rfl rfl rfl ⟨by decide, _, rfl, hK0⟩ ⟨Nat.zero_le _, Nat.zero_le _⟩ (by omega) (tfM_advanceToken (by omega) e6 hK0 ) (fun y7 g9 e10 => ?_)
    refine go_int k116_29 1 rfl ?_
    exact go_bret k116_30 e10 (Or.inr rfl) ⟨Nat.zero_le _, Nat.zero_le _⟩ rfl
  · refine go_aload k116_9 rfl ?_
    refine go_int k116_10 3 rfl ?_
    refine go_callN3 k116_11 rfl rfl rfl ⟨by decide, _, rfl, hK0⟩ ⟨Nat.zero_le _, Nat.zero_le _⟩ (by omega) (tfM_failsAt (by omega) hg hK0  (inR_of (by decide))) (fun y11 g13 r12 e14 => ?_)
    exact go_bret k116_14 e14 r12 ⟨Nat.zero_le _, Nat.zero_le _⟩ rfl
theorem tfM_readDeep {Φ : ev_P} {d : Nat} (hd : 3 ≤ d) {g : gH} (hg : HR g) {v0 : Int} (hK0 : kd v0 = 7) : Go Φ pr_P fN 3 (fM_readDeep g v0) d (pr_P 118) 0 (ev_loc (pr_P 118).1 [(sR v0)]) [] g 0 0 := by
  show Go Φ pr_P fN 3 (fM_readDeep g v0) d pr_m118 0 [some (sR v0)] [] g 0 0
  unfold fM_readDeep
  refine go_aload k118_0 rfl ?_
  refine go_int k118_1 2 rfl ?_
  refine go_callN3 k118_2 rfl rfl rfl ⟨by decide, _, rfl, hK0⟩ ⟨Nat.zero_le _, Nat.zero_le _⟩ (by omega) (tfM_startsOnce (by omega) hg hK0  (inR_of (by decide))) (fun y1 g3 r2 e4 => ?_)
  refine go_ifeq k118_5 (inR_b r2) (fun c5 => ?_) (fun c6 => ?_)
  · refine go_int k118_19 0 rfl ?_
    exact go_bret k118_20 e4 (Or.inl rfl) ⟨Nat.zero_le _, Nat.zero_le _⟩ rfl
  · refine go_aload k118_8 rfl ?_
    refine go_int k118_9 0 rfl ?_
    refine go_int k118_10 1 rfl ?_
    refine go_int k118_11 20 rfl ?_
    refine go_callN3 k118_13 rfl rfl rfl ⟨by decide, _, rfl, hK0⟩ ⟨Nat.zero_le _, Nat.zero_le _⟩ (by omega) (tfM_takes (by omega) e4 hK0  (inR_b (Or.inl rfl)) (inR_b (Or.inr rfl)) (inR_of (by decide))) (fun y7 g9 r8 e10 => ?_)
    refine go_ifeq k118_16 (inR_b r8) (fun c11 => ?_) (fun c12 => ?_)
    · refine go_int k118_19 0 rfl ?_
      exact go_bret k118_20 e10 (Or.inl rfl) ⟨Nat.zero_le _, Nat.zero_le _⟩ rfl
    · refine go_aload k118_21 rfl ?_
      refine go_getR (bI := 0) k118_22 e10 hK0 (by decide) rfl rfl (fun r13 => ?_)
      refine go_int k118_25 59 rfl ?_
      refine go_aload k118_27 rfl ?_
      refine go_getR (bI := 20) k118_28 e10 hK0 (by decide) rfl rfl (fun r14 => ?_)
      refine go_int k118_31 0 rfl ?_
      refine go_ck (fun q16 => ?_)
      refine go_iald k118_32 e10 q16 (fun r15 => ?_)
      refine go_ck (fun q17 => ?_)
      refine go_iast k118_33 e10 q17 r15 (fun g18 e19 => ?_)
      refine go_int k118_34 1 rfl ?_
      exact go_bret k118_35 e19 (Or.inr rfl) ⟨Nat.zero_le _, Nat.zero_le _⟩ rfl
theorem tfM_readRoot {Φ : ev_P} {d : Nat} (hd : 3 ≤ d) {g : gH} (hg : HR g) {v0 : Int} (hK0 : kd v0 = 7) : Go Φ pr_P fN 3 (fM_readRoot g v0) d (pr_P 119) 0 (ev_loc (pr_P 119).1 [(sR v0)]) [] g 0 0 := by
  show Go Φ pr_P fN 3 (fM_readRoot g v0) d pr_m119 0 [some (sR v0)] [] g 0 0
  unfold fM_readRoot
  refine go_aload k119_0 rfl ?_
  refine go_int k119_1 4 rfl ?_
  refine go_callN3 k119_2 rfl rfl rfl ⟨by decide, _, rfl, hK0⟩ ⟨Nat.zero_le _, Nat.zero_le _⟩ (by omega) (tfM_startsOnce (by omega) hg hK0  (inR_of (by decide))) (fun y1 g3 r2 e4 => ?_)
  refine go_ifeq k119_5 (inR_b r2) (fun c5 => ?_) (fun c6 => ?_)
  · refine go_int k119_30 0 rfl ?_
    exact go_bret k119_31 e4 (Or.inl rfl) ⟨Nat.zero_le _, Nat.zero_le _⟩ rfl
  · refine go_aload k119_8 rfl ?_
    refine go_int k119_9 0 rfl ?_
    refine go_int k119_10 0 rfl ?_
    refine go_int k119_11 9 rfl ?_
    refine go_callN3 k119_13 rfl rfl rfl ⟨by decide, _, rfl, hK0⟩ ⟨Nat.zero_le _, Nat.zero_le _⟩ (by omega) (tfM_takes (by omega) e4 hK0  (inR_b (Or.inl rfl)) (inR_b (Or.inl rfl)) (inR_of (by decide))) (fun y7 g9 r8 e10 => ?_)
    refine go_ifeq k119_16 (inR_b r8) (fun c11 => ?_) (fun c12 => ?_)
    · refine go_int k119_30 0 rfl ?_
      exact go_bret k119_31 e10 (Or.inl rfl) ⟨Nat.zero_le _, Nat.zero_le _⟩ rfl
    · refine go_aload k119_19 rfl ?_
      refine go_int k119_20 1 rfl ?_
      refine go_int k119_21 0 rfl ?_
      refine go_int k119_22 9 rfl ?_
      refine go_callN3 k119_24 rfl rfl rfl ⟨by decide, _, rfl, hK0⟩ ⟨Nat.zero_le _, Nat.zero_le _⟩ (by omega) (tfM_takes (by omega) e10 hK0  (inR_b (Or.inr rfl)) (inR_b (Or.inl rfl)) (inR_of (by decide))) (fun y13 g15 r14 e16 => ?_)
      refine go_ifeq k119_27 (inR_b r14) (fun c17 => ?_) (fun c18 => ?_)
      · refine go_int k119_30 0 rfl ?_
        exact go_bret k119_31 e16 (Or.inl rfl) ⟨Nat.zero_le _, Nat.zero_le _⟩ rfl
      · refine go_aload k119_32 rfl ?_
        refine go_getR (bI := 0) k119_33 e16 hK0 (by decide) rfl rfl (fun r19 => ?_)
        refine go_int k119_36 100 rfl ?_
        refine go_aload k119_38 rfl ?_
        refine go_getR (bI := 20) k119_39 e16 hK0 (by decide) rfl rfl (fun r20 => ?_)
        refine go_int k119_42 0 rfl ?_
        refine go_ck (fun q22 => ?_)
        refine go_iald k119_43 e16 q22 (fun r21 => ?_)
        refine go_ck (fun q23 => ?_)
        refine go_iast k119_44 e16 q23 r21 (fun g24 e25 => ?_)
        refine go_aload k119_45 rfl ?_
        refine go_getR (bI := 0) k119_46 e25 hK0 (by decide) rfl rfl (fun r26 => ?_)
        refine go_int k119_49 220 rfl ?_
        refine go_aload k119_52 rfl ?_
        refine go_getR (bI := 20) k119_53 e25 hK0 (by decide) rfl rfl (fun r27 => ?_)
        refine go_int k119_56 1 rfl ?_
        refine go_ck (fun q29 => ?_)
        refine go_iald k119_57 e25 q29 (fun r28 => ?_)
        refine go_ck (fun q30 => ?_)
        refine go_iast k119_58 e25 q30 r28 (fun g31 e32 => ?_)
        refine go_int k119_59 1 rfl ?_
        exact go_bret k119_60 e32 (Or.inr rfl) ⟨Nat.zero_le _, Nat.zero_le _⟩ rfl
theorem tfM_readWill {Φ : ev_P} {d : Nat} (hd : 3 ≤ d) {g : gH} (hg : HR g) {v0 : Int} (hK0 : kd v0 = 7) : Go Φ pr_P fN 3 (fM_readWill g v0) d (pr_P 120) 0 (ev_loc (pr_P 120).1 [(sR v0)]) [] g 0 0 := by
  show Go Φ pr_P fN 3 (fM_readWill g v0) d pr_m120 0 [some (sR v0)] [] g 0 0
  unfold fM_readWill
  refine go_aload k120_0 rfl ?_
  refine go_callN0 k120_1 rfl rfl rfl ⟨by decide, _, rfl, hK0⟩ ⟨Nat.zero_le _, Nat.zero_le _⟩ (by omega) (tfM_advanceToken (by omega) hg hK0 ) (fun y1 g3 e4 => ?_)
  refine go_aload k120_4 rfl ?_
  refine go_int k120_5 0 rfl ?_
  refine go_int k120_6 1 rfl ?_
  refine go_aload k120_7 rfl ?_
  refine go_getR (bI := 0) k120_8 e4 hK0 (by decide) rfl rfl (fun r5 => ?_)
  refine go_int k120_11 0 rfl ?_
  refine go_ck (fun q7 => ?_)
  refine go_iald k120_12 e4 q7 (fun r6 => ?_)
  refine go_int k120_13 1 rfl ?_
  refine go_isub k120_14 ?_
  refine go_callN3 k120_15 rfl rfl rfl ⟨by decide, _, rfl, hK0⟩ ⟨Nat.zero_le _, Nat.zero_le _⟩ (by omega) (tfM_takes (by omega) e4 hK0  (inR_b (Or.inl rfl)) (inR_b (Or.inr rfl)) (inR_w32 _)) (fun y8 g10 r9 e11 => ?_)
  refine go_ifeq k120_18 (inR_b r9) (fun c12 => ?_) (fun c13 => ?_)
  · refine go_int k120_31 0 rfl ?_
    exact go_bret k120_32 e11 (Or.inl rfl) ⟨Nat.zero_le _, Nat.zero_le _⟩ rfl
  · refine go_aload k120_21 rfl ?_
    refine go_int k120_22 0 rfl ?_
    refine go_int k120_23 7 rfl ?_
    refine go_callN3 k120_25 rfl rfl rfl ⟨by decide, _, rfl, hK0⟩ ⟨Nat.zero_le _, Nat.zero_le _⟩ (by omega) (tfM_isNumber (by omega) e11 hK0  (inR_b (Or.inl rfl)) (inR_of (by decide))) (fun y14 g16 r15 e17 => ?_)
    refine go_ifeq k120_28 (inR_b r15) (fun c18 => ?_) (fun c19 => ?_)
    · refine go_int k120_31 0 rfl ?_
      exact go_bret k120_32 e17 (Or.inl rfl) ⟨Nat.zero_le _, Nat.zero_le _⟩ rfl
    · refine go_aload k120_33 rfl ?_
      refine go_getR (bI := 0) k120_34 e17 hK0 (by decide) rfl rfl (fun r20 => ?_)
      refine go_int k120_37 460 rfl ?_
      refine go_int k120_40 8 rfl ?_
      refine go_aload k120_42 rfl ?_
      refine go_getR (bI := 20) k120_43 e17 hK0 (by decide) rfl rfl (fun r21 => ?_)
      refine go_int k120_46 0 rfl ?_
      refine go_ck (fun q23 => ?_)
      refine go_iald k120_47 e17 q23 (fun r22 => ?_)
      refine go_ibin k120_48 ?_
      refine go_iadd k120_49 ?_
      refine go_aload k120_50 rfl ?_
      refine go_getI (bI := 17) k120_51 e17 hK0 (by decide) rfl rfl (fun r24 => ?_)
      refine go_iadd k120_54 ?_
      refine go_ck (fun q26 => ?_)
      refine go_iald k120_55 e17 q26 (fun r25 => ?_)
      refine go_int k120_56 (-1) rfl ?_
      refine go_cmeq k120_57 r25 (inR_of (by decide)) (fun c27 => ?_) (fun c28 => ?_)
      · refine go_aload k120_66 rfl ?_
        refine go_int k120_67 1 rfl ?_
        refine go_int k120_68 0 rfl ?_
        refine go_int k120_69 7 rfl ?_
        refine go_callN3 k120_71 rfl rfl rfl ⟨by decide, _, rfl, hK0⟩ ⟨Nat.zero_le _, Nat.zero_le _⟩ (by omega) (tfM_takes (by omega) e17 hK0  (inR_b (Or.inr rfl)) (inR_b (Or.inl rfl)) (inR_of (by decide))) (fun y29 g31 r30 e32 => ?_)
        refine go_ifeq k120_74 (inR_b r30) (fun c33 => ?_) (fun c34 => ?_)
        · refine go_int k120_93 0 rfl ?_
          exact go_bret k120_94 e32 (Or.inl rfl) ⟨Nat.zero_le _, Nat.zero_le _⟩ rfl
        · refine go_aload k120_77 rfl ?_
          refine go_int k120_78 0 rfl ?_
          refine go_aload k120_79 rfl ?_
          refine go_getR (bI := 0) k120_80 e32 hK0 (by decide) rfl rfl (fun r35 => ?_)
          refine go_int k120_83 0 rfl ?_
          refine go_ck (fun q37 => ?_)
          refine go_iald k120_84 e32 q37 (fun r36 => ?_)
          refine go_int k120_85 1 rfl ?_
          refine go_isub k120_86 ?_
          refine go_callN3 k120_87 rfl rfl rfl ⟨by decide, _, rfl, hK0⟩ ⟨Nat.zero_le _, Nat.zero_le _⟩ (by omega) (tfM_isNumber (by omega) e32 hK0  (inR_b (Or.inl rfl)) (inR_w32 _)) (fun y38 g40 r39 e41 => ?_)
          refine go_ifeq k120_90 (inR_b r39) (fun c42 => ?_) (fun c43 => ?_)
          · refine go_int k120_93 0 rfl ?_
            exact go_bret k120_94 e41 (Or.inl rfl) ⟨Nat.zero_le _, Nat.zero_le _⟩ rfl
          · refine go_aload k120_95 rfl ?_
            refine go_getI (bI := 17) k120_96 e41 hK0 (by decide) rfl rfl (fun r44 => ?_)
            refine go_aload k120_99 rfl ?_
            refine go_getR (bI := 20) k120_100 e41 hK0 (by decide) rfl rfl (fun r45 => ?_)
            refine go_int k120_103 0 rfl ?_
            refine go_ck (fun q47 => ?_)
            refine go_iald k120_104 e41 q47 (fun r46 => ?_)
            refine go_cmeq k120_105 r44 r46 (fun c48 => ?_) (fun c49 => ?_)
            · refine go_aload k120_108 rfl ?_
              refine go_int k120_109 2 rfl ?_
              refine go_callN3 k120_110 rfl rfl rfl ⟨by decide, _, rfl, hK0⟩ ⟨Nat.zero_le _, Nat.zero_le _⟩ (by omega) (tfM_failsAt (by omega) e41 hK0  (inR_of (by decide))) (fun y50 g52 r51 e53 => ?_)
              exact go_bret k120_113 e53 r51 ⟨Nat.zero_le _, Nat.zero_le _⟩ rfl
            · refine go_aload k120_114 rfl ?_
              refine go_int k120_115 2 rfl ?_
              refine go_int k120_116 0 rfl ?_
              refine go_aload k120_117 rfl ?_
              refine go_getR (bI := 0) k120_118 e41 hK0 (by decide) rfl rfl (fun r54 => ?_)
              refine go_int k120_121 0 rfl ?_
              refine go_ck (fun q56 => ?_)
              refine go_iald k120_122 e41 q56 (fun r55 => ?_)
              refine go_int k120_123 1 rfl ?_
              refine go_isub k120_124 ?_
              refine go_callN3 k120_125 rfl rfl rfl ⟨by decide, _, rfl, hK0⟩ ⟨Nat.zero_le _, Nat.zero_le _⟩ (by omega) (tfM_takes (by omega) e41 hK0  (inR_of (by decide)) (inR_b (Or.inl rfl)) (inR_w32 _)) (fun y57 g59 r58 e60 => ?_)
              refine go_ifeq k120_128 (inR_b r58) (fun c61 => ?_) (fun c62 => ?_)
              · refine go_int k120_131 0 rfl ?_
                exact go_bret k120_132 e60 (Or.inl rfl) ⟨Nat.zero_le _, Nat.zero_le _⟩ rfl
              · refine go_aload k120_133 rfl ?_
                refine go_getR (bI := 0) k120_134 e60 hK0 (by decide) rfl rfl (fun r63 => ?_)
                refine go_int k120_137 460 rfl ?_
                refine go_int k120_140 8 rfl ?_
                refine go_aload k120_142 rfl ?_
                refine go_getR (bI := 20) k120_143 e60 hK0 (by decide) rfl rfl (fun r64 => ?_)
                refine go_int k120_146 0 rfl ?_
                refine go_ck (fun q66 => ?_)
                refine go_iald k120_147 e60 q66 (fun r65 => ?_)
                refine go_ibin k120_148 ?_
                refine go_iadd k120_149 ?_
                refine go_aload k120_150 rfl ?_
                refine go_getR (bI := 20) k120_151 e60 hK0 (by decide) rfl rfl (fun r67 => ?_)
                refine go_int k120_154 1 rfl ?_
                refine go_ck (fun q69 => ?_)
                refine go_iald k120_155 e60 q69 (fun r68 => ?_)
                refine go_iadd k120_156 ?_
                refine go_aload k120_157 rfl ?_
                refine go_getR (bI := 20) k120_158 e60 hK0 (by decide) rfl rfl (fun r70 => ?_)
                refine go_int k120_161 2 rfl ?_
                refine go_ck (fun q72 => ?_)
                refine go_iald k120_162 e60 q72 (fun r71 => ?_)
                refine go_ck (fun q73 => ?_)
                refine go_iast k120_163 e60 q73 r71 (fun g74 e75 => ?_)
                refine go_int k120_164 1 rfl ?_
                exact go_bret k120_165 e75 (Or.inr rfl) ⟨Nat.zero_le _, Nat.zero_le _⟩ rfl
      · refine go_aload k120_60 rfl ?_
        refine go_int k120_61 3 rfl ?_
        refine go_callN3 k120_62 rfl rfl rfl ⟨by decide, _, rfl, hK0⟩ ⟨Nat.zero_le _, Nat.zero_le _⟩ (by omega) (tfM_failsAt (by omega) e17 hK0  (inR_of (by decide))) (fun y76 g78 r77 e79 => ?_)
        exact go_bret k120_65 e79 r77 ⟨Nat.zero_le _, Nat.zero_le _⟩ rfl
theorem tfM_ruleHere {Φ : ev_P} {d : Nat} (hd : 2 ≤ d) {g : gH} (hg : HR g) {v0 : Int} (hK0 : kd v0 = 7) : Go Φ pr_P (fP g) 1 (fM_ruleHere g v0) d (pr_P 117) 0 (ev_loc (pr_P 117).1 [(sR v0)]) [] g 0 0 := by
  show Go Φ pr_P (fP g) 1 (fM_ruleHere g v0) d pr_m117 0 [some (sR v0)] [] g 0 0
  unfold fM_ruleHere
  refine go_aload k117_0 rfl ?_
  refine go_ldcs k117_1 (by decide) (x := 2000021) rfl ?_
  refine go_callP3 k117_3 rfl rfl rfl ⟨by decide, _, rfl, hK0⟩ ⟨Nat.zero_le _, Nat.zero_le _⟩ (by omega) (tfM_isWord (by omega) hg hK0 ) (fun y1 r2 => ?_)
  refine go_ifeq k117_6 (inR_b r2) (fun c5 => ?_) (fun c6 => ?_)
  · refine go_aload k117_11 rfl ?_
    refine go_ldcs k117_12 (by decide) (x := 2000022) rfl ?_
    refine go_callP3 k117_14 rfl rfl rfl ⟨by decide, _, rfl, hK0⟩ ⟨Nat.zero_le _, Nat.zero_le _⟩ (by omega) (tfM_isWord (by omega) hg hK0 ) (fun y7 r8 => ?_)
    refine go_ifeq k117_17 (inR_b r8) (fun c11 => ?_) (fun c12 => ?_)
    · refine go_aload k117_22 rfl ?_
      refine go_ldcs k117_23 (by decide) (x := 2000023) rfl ?_
      refine go_callP3 k117_25 rfl rfl rfl ⟨by decide, _, rfl, hK0⟩ ⟨Nat.zero_le _, Nat.zero_le _⟩ (by omega) (tfM_isWord (by omega) hg hK0 ) (fun y13 r14 => ?_)
      refine go_ifeq k117_28 (inR_b r14) (fun c17 => ?_) (fun c18 => ?_)
      · refine go_aload k117_33 rfl ?_
        refine go_ldcs k117_34 (by decide) (x := 2000024) rfl ?_
        refine go_callP3 k117_36 rfl rfl rfl ⟨by decide, _, rfl, hK0⟩ ⟨Nat.zero_le _, Nat.zero_le _⟩ (by omega) (tfM_isWord (by omega) hg hK0 ) (fun y19 r20 => ?_)
        refine go_ifeq k117_39 (inR_b r20) (fun c23 => ?_) (fun c24 => ?_)
        · refine go_aload k117_44 rfl ?_
          refine go_ldcs k117_45 (by decide) (x := 2000025) rfl ?_
          refine go_callP3 k117_47 rfl rfl rfl ⟨by decide, _, rfl, hK0⟩ ⟨Nat.zero_le _, Nat.zero_le _⟩ (by omega) (tfM_isWord (by omega) hg hK0 ) (fun y25 r26 => ?_)
          refine go_ifeq k117_50 (inR_b r26) (fun c29 => ?_) (fun c30 => ?_)
          · refine go_int k117_57 (-1) rfl ?_
            exact go_iret k117_58 hg (inR_of (by decide)) ⟨Nat.zero_le _, Nat.zero_le _⟩ rfl
          · refine go_int k117_53 4 rfl ?_
            refine go_goto k117_54 ?_
            exact go_iret k117_58 hg (inR_of (by decide)) ⟨Nat.zero_le _, Nat.zero_le _⟩ rfl
        · refine go_int k117_42 3 rfl ?_
          exact go_iret k117_43 hg (inR_of (by decide)) ⟨Nat.zero_le _, Nat.zero_le _⟩ rfl
      · refine go_int k117_31 2 rfl ?_
        exact go_iret k117_32 hg (inR_of (by decide)) ⟨Nat.zero_le _, Nat.zero_le _⟩ rfl
    · refine go_int k117_20 1 rfl ?_
      exact go_iret k117_21 hg (inR_b (Or.inr rfl)) ⟨Nat.zero_le _, Nat.zero_le _⟩ rfl
  · refine go_int k117_9 0 rfl ?_
    exact go_iret k117_10 hg (inR_b (Or.inl rfl)) ⟨Nat.zero_le _, Nat.zero_le _⟩ rfl
theorem tbM_readOrder_19 {Φ : ev_P} {d : Nat} (hd : 3 ≤ d) {v0 : Int} (hK0 : kd v0 = 7) {X19 : Int → gH → Option (Int × gH)} (HX19 : ∀ (v1 : Int) (h1 : InR v1) (g : gH) (hg : HR g) (u2 : Option ev_V) (w2 : nwo u2), Go Φ pr_P fN 3 (X19 v1 g) d pr_m121 19 [some (sR v0), some (sI v1), u2] [] g 0 0) : ∀ (v1 : Int) (h1 : InR v1) (g : gH) (hg : HR g) (u2 : Option ev_V) (w2 : nwo u2), Go Φ pr_P fN 3 (bM_readOrder_19 v0 X19 v1 g) d pr_m121 19 [some (sR v0), some (sI v1), u2] [] g 0 0 := by
  intro v1 h1 g hg u2 w2
  unfold bM_readOrder_19
  refine go_aload k121_19 rfl ?_
  refine go_getI (bI := 18) k121_20 hg hK0 (by decide) rfl rfl (fun r11 => ?_)
  refine go_int k121_23 1 rfl ?_
  refine go_cmeq k121_24 r11 (inR_b (Or.inr rfl)) (fun c12 => ?_) (fun c13 => ?_)
  · refine go_aload k121_27 rfl ?_
    refine go_callP1 k121_28 rfl rfl rfl ⟨by decide, _, rfl, hK0⟩ ⟨Nat.zero_le _, Nat.zero_le _⟩ (by omega) (tfM_ruleHere (by omega) hg hK0 ) (fun y14 r15 => ?_)
    refine go_istore k121_31 rfl (loc2 := [some (sR v0), some (sI v1), some (sI y14)]) rfl ?_
    refine go_iload k121_32 rfl ?_
    refine go_int k121_33 (-1) rfl ?_
    refine go_cmeq k121_34 r15 (inR_of (by decide)) (fun c18 => ?_) (fun c19 => ?_)
    · refine go_aload k121_37 rfl ?_
      refine go_int k121_38 1 rfl ?_
      refine go_callN3 k121_39 rfl rfl rfl ⟨by decide, _, rfl, hK0⟩ ⟨Nat.zero_le _, Nat.zero_le _⟩ (by omega) (tfM_failsAt (by omega) hg hK0  (inR_b (Or.inr rfl))) (fun y20 g22 r21 e23 => ?_)
      exact go_bret k121_42 e23 r21 ⟨Nat.zero_le _, Nat.zero_le _⟩ rfl
    · refine go_iload k121_43 rfl ?_
      refine go_iload k121_44 rfl ?_
      refine go_ibin k121_45 ?_
      refine go_int k121_46 1 rfl ?_
      refine go_ibin k121_47 ?_
      refine go_int k121_48 1 rfl ?_
      refine go_cmeq k121_49 (inR_opI _ _ _) (inR_b (Or.inr rfl)) (fun c24 => ?_) (fun c25 => ?_)
      · refine go_aload k121_52 rfl ?_
        refine go_int k121_53 3 rfl ?_
        refine go_callN3 k121_54 rfl rfl rfl ⟨by decide, _, rfl, hK0⟩ ⟨Nat.zero_le _, Nat.zero_le _⟩ (by omega) (tfM_failsAt (by omega) hg hK0  (inR_of (by decide))) (fun y26 g28 r27 e29 => ?_)
        exact go_bret k121_57 e29 r27 ⟨Nat.zero_le _, Nat.zero_le _⟩ rfl
      · refine go_iload k121_58 rfl ?_
        refine go_int k121_59 1 rfl ?_
        refine go_iload k121_60 rfl ?_
        refine go_ibin k121_61 ?_
        refine go_ibin k121_62 ?_
        refine go_istore k121_63 rfl (loc2 := [some (sR v0), some (sI (opI 2 v1 (opI 4 1 y14))), some (sI y14)]) rfl ?_
        refine go_aload k121_64 rfl ?_
        refine go_getR (bI := 0) k121_65 hg hK0 (by decide) rfl rfl (fun r30 => ?_)
        refine go_int k121_68 6 rfl ?_
        refine go_aload k121_70 rfl ?_
        refine go_getR (bI := 0) k121_71 hg hK0 (by decide) rfl rfl (fun r31 => ?_)
        refine go_int k121_74 5 rfl ?_
        refine go_ck (fun q33 => ?_)
        refine go_iald k121_75 hg q33 (fun r32 => ?_)
        refine go_iadd k121_76 ?_
        refine go_iload k121_77 rfl ?_
        refine go_ck (fun q34 => ?_)
        refine go_iast k121_78 hg q34 r15 (fun g35 e36 => ?_)
        refine go_aload k121_79 rfl ?_
        refine go_getR (bI := 0) k121_80 e36 hK0 (by decide) rfl rfl (fun r37 => ?_)
        refine go_int k121_83 5 rfl ?_
        refine go_dup2 k121_84 ?_
        refine go_ck (fun q39 => ?_)
        refine go_iald k121_85 e36 q39 (fun r38 => ?_)
        refine go_int k121_86 1 rfl ?_
        refine go_iadd k121_87 ?_
        refine go_ck (fun q40 => ?_)
        refine go_iast k121_88 e36 q40 (inR_w32 _) (fun g41 e42 => ?_)
        refine go_aload k121_89 rfl ?_
        refine go_callN0 k121_90 rfl rfl rfl ⟨by decide, _, rfl, hK0⟩ ⟨Nat.zero_le _, Nat.zero_le _⟩ (by omega) (tfM_advanceToken (by omega) e42 hK0 ) (fun y43 g45 e46 => ?_)
        refine go_goto k121_93 ?_
        exact HX19 (opI 2 v1 (opI 4 1 y14)) (inR_opI _ _ _) g45 e46 (some (sI y14)) rfl
  · refine go_int k121_96 1 rfl ?_
    exact go_bret k121_97 hg (Or.inr rfl) ⟨Nat.zero_le _, Nat.zero_le _⟩ rfl
theorem tlM_readOrder_19 {Φ : ev_P} {d : Nat} (hd : 3 ≤ d) {v0 : Int} (hK0 : kd v0 = 7) : ∀ n : Nat, ∀ (v1 : Int) (h1 : InR v1) (g : gH) (hg : HR g) (u2 : Option ev_V) (w2 : nwo u2), Go Φ pr_P fN 3 (lM_readOrder_19 v0 n v1 g) d pr_m121 19 [some (sR v0), some (sI v1), u2] [] g 0 0 := by
  intro n
  induction n with
  | zero => intros; exact go_none
  | succ n ih => exact tbM_readOrder_19 hd hK0 ih
theorem tfM_readOrder {Φ : ev_P} {d : Nat} (hd : 3 ≤ d) {g : gH} (hg : HR g) {v0 : Int} (hK0 : kd v0 = 7) : Go Φ pr_P fN 3 (fM_readOrder g v0) d (pr_P 121) 0 (ev_loc (pr_P 121).1 [(sR v0)]) [] g 0 0 := by
  show Go Φ pr_P fN 3 (fM_readOrder g v0) d pr_m121 0 [some (sR v0), none, none] [] g 0 0
  unfold fM_readOrder
  refine go_aload k121_0 rfl ?_
  refine go_int k121_1 1 rfl ?_
  refine go_callN3 k121_2 rfl rfl rfl ⟨by decide, _, rfl, hK0⟩ ⟨Nat.zero_le _, Nat.zero_le _⟩ (by omega) (tfM_startsOnce (by omega) hg hK0  (inR_b (Or.inr rfl))) (fun y1 g3 r2 e4 => ?_)
  refine go_ifeq k121_5 (inR_b r2) (fun c5 => ?_) (fun c6 => ?_)
  · refine go_int k121_8 0 rfl ?_
    exact go_bret k121_9 e4 (Or.inl rfl) ⟨Nat.zero_le _, Nat.zero_le _⟩ rfl
  · refine go_aload k121_10 rfl ?_
    refine go_getR (bI := 0) k121_11 e4 hK0 (by decide) rfl rfl (fun r7 => ?_)
    refine go_int k121_14 5 rfl ?_
    refine go_int k121_15 0 rfl ?_
    refine go_ck (fun q8 => ?_)
    refine go_iast k121_16 e4 q8 (inR_b (Or.inl rfl)) (fun g9 e10 => ?_)
    refine go_int k121_17 0 rfl ?_
    refine go_istore k121_18 rfl (loc2 := [some (sR v0), some (sI 0), none]) rfl ?_
    exact tlM_readOrder_19 hd hK0 fu 0 (inR_b (Or.inl rfl)) g9 e10 none rfl
theorem tfM_runs {Φ : ev_P} {d : Nat} (hd : 0 ≤ d) {g : gH} (hg : HR g) {v0 v1 : Int} (hK0 : kd v0 = 7) (h1 : InR v1) : Go Φ pr_P (fP g) 3 (fM_runs g v0 v1) d (pr_P 83) 0 (ev_loc (pr_P 83).1 [(sR v0), (sI v1)]) [] g 0 0 := by
  show Go Φ pr_P (fP g) 3 (fM_runs g v0 v1) d pr_m83 0 [some (sR v0), some (sI v1)] [] g 0 0
  unfold fM_runs
  refine go_aload k83_0 rfl ?_
  refine go_getR (bI := 0) k83_1 hg hK0 (by decide) rfl rfl (fun r1 => ?_)
  refine go_int k83_4 140 rfl ?_
  refine go_iload k83_7 rfl ?_
  refine go_iadd k83_8 ?_
  refine go_ck (fun q3 => ?_)
  refine go_iald k83_9 hg q3 (fun r2 => ?_)
  refine go_ifeq k83_10 r2 (fun c4 => ?_) (fun c5 => ?_)
  · refine go_int k83_13 1 rfl ?_
    refine go_goto k83_14 ?_
    exact go_bret k83_18 hg (Or.inr rfl) ⟨Nat.zero_le _, Nat.zero_le _⟩ rfl
  · refine go_int k83_17 0 rfl ?_
    exact go_bret k83_18 hg (Or.inl rfl) ⟨Nat.zero_le _, Nat.zero_le _⟩ rfl
theorem tfM_isChild {Φ : ev_P} {d : Nat} (hd : 0 ≤ d) {g : gH} (hg : HR g) {v0 v1 v2 v3 : Int} (hK0 : kd v0 = 7) (h1 : InR v1) (h2 : InR v2) (h3 : InR v3) : Go Φ pr_P (fP g) 3 (fM_isChild g v0 v1 v2 v3) d (pr_P 84) 0 (ev_loc (pr_P 84).1 [(sR v0), (sI v1), (sI v2), (sI v3)]) [] g 0 0 := by
  show Go Φ pr_P (fP g) 3 (fM_isChild g v0 v1 v2 v3) d pr_m84 0 [some (sR v0), some (sI v1), some (sI v2), some (sI v3)] [] g 0 0
  unfold fM_isChild
  refine go_aload k84_0 rfl ?_
  refine go_getR (bI := 0) k84_1 hg hK0 (by decide) rfl rfl (fun r1 => ?_)
  refine go_int k84_4 140 rfl ?_
  refine go_iload k84_7 rfl ?_
  refine go_iadd k84_8 ?_
  refine go_ck (fun q3 => ?_)
  refine go_iald k84_9 hg q3 (fun r2 => ?_)
  refine go_iload k84_10 rfl ?_
  refine go_cmeq k84_11 r2 h3 (fun c4 => ?_) (fun c5 => ?_)
  · refine go_aload k84_14 rfl ?_
    refine go_getR (bI := 0) k84_15 hg hK0 (by decide) rfl rfl (fun r6 => ?_)
    refine go_int k84_18 60 rfl ?_
    refine go_iload k84_20 rfl ?_
    refine go_iadd k84_21 ?_
    refine go_ck (fun q8 => ?_)
    refine go_iald k84_22 hg q8 (fun r7 => ?_)
    refine go_iload k84_23 rfl ?_
    refine go_cmeq k84_24 r7 h2 (fun c9 => ?_) (fun c10 => ?_)
    · refine go_iload k84_27 rfl ?_
      refine go_ifeq k84_28 h1 (fun c11 => ?_) (fun c12 => ?_)
      · refine go_int k84_35 0 rfl ?_
        exact go_bret k84_36 hg (Or.inl rfl) ⟨Nat.zero_le _, Nat.zero_le _⟩ rfl
      · refine go_int k84_31 1 rfl ?_
        refine go_goto k84_32 ?_
        exact go_bret k84_36 hg (Or.inr rfl) ⟨Nat.zero_le _, Nat.zero_le _⟩ rfl
    · refine go_int k84_35 0 rfl ?_
      exact go_bret k84_36 hg (Or.inl rfl) ⟨Nat.zero_le _, Nat.zero_le _⟩ rfl
  · refine go_int k84_35 0 rfl ?_
    exact go_bret k84_36 hg (Or.inl rfl) ⟨Nat.zero_le _, Nat.zero_le _⟩ rfl
theorem tbM_childrenOf_5 {Φ : ev_P} {d : Nat} (hd : 1 ≤ d) {g : gH} (hg : HR g) {v0 v1 v2 : Int} (hK0 : kd v0 = 7) (h1 : InR v1) (h2 : InR v2) {X5 : Int → Int → Option Int} (HX5 : ∀ (v3 : Int) (h3 : InR v3) (v4 : Int) (h4 : InR v4), Go Φ pr_P (fP g) 1 (X5 v3 v4) d pr_m85 5 [some (sR v0), some (sI v1), some (sI v2), some (sI v3), some (sI v4)] [] g 0 0) : ∀ (v3 : Int) (h3 : InR v3) (v4 : Int) (h4 : InR v4), Go Φ pr_P (fP g) 1 (bM_childrenOf_5 g v0 v1 v2 X5 v3 v4) d pr_m85 5 [some (sR v0), some (sI v1), some (sI v2), some (sI v3), some (sI v4)] [] g 0 0 := by
  intro v3 h3 v4 h4
  unfold bM_childrenOf_5
  refine go_iload k85_5 rfl ?_
  refine go_aload k85_7 rfl ?_
  refine go_getR (bI := 0) k85_8 hg hK0 (by decide) rfl rfl (fun r1 => ?_)
  refine go_int k85_11 0 rfl ?_
  refine go_ck (fun q3 => ?_)
  refine go_iald k85_12 hg q3 (fun r2 => ?_)
  refine go_cmlt k85_13 h4 r2 (fun c4 => ?_) (fun c5 => ?_)
  · refine go_iload k85_16 rfl ?_
    refine go_aload k85_17 rfl ?_
    refine go_iload k85_18 rfl ?_
    refine go_iload k85_20 rfl ?_
    refine go_iload k85_21 rfl ?_
    refine go_callP3 k85_22 rfl rfl rfl ⟨by decide, _, rfl, hK0⟩ ⟨Nat.zero_le _, Nat.zero_le _⟩ (by omega) (tfM_isChild (by omega) hg hK0  h4 h1 h2) (fun y6 r7 => ?_)
    refine go_ifeq k85_25 (inR_b r7) (fun c10 => ?_) (fun c11 => ?_)
    · refine go_int k85_32 0 rfl ?_
      refine go_iadd k85_33 ?_
      refine go_istore k85_34 rfl (loc2 := [some (sR v0), some (sI v1), some (sI v2), some (sI (w32 (v3 + 0))), some (sI v4)]) rfl ?_
      refine go_iinc k85_35 rfl rfl 1 rfl (loc2 := [some (sR v0), some (sI v1), some (sI v2), some (sI (w32 (v3 + 0))), some (sI (w32 (v4 + 1)))]) rfl ?_
      refine go_goto k85_38 ?_
      exact HX5 (w32 (v3 + 0)) (inR_w32 _) (w32 (v4 + 1)) (inR_w32 _)
    · refine go_int k85_28 1 rfl ?_
      refine go_goto k85_29 ?_
      refine go_iadd k85_33 ?_
      refine go_istore k85_34 rfl (loc2 := [some (sR v0), some (sI v1), some (sI v2), some (sI (w32 (v3 + 1))), some (sI v4)]) rfl ?_
      refine go_iinc k85_35 rfl rfl 1 rfl (loc2 := [some (sR v0), some (sI v1), some (sI v2), some (sI (w32 (v3 + 1))), some (sI (w32 (v4 + 1)))]) rfl ?_
      refine go_goto k85_38 ?_
      exact HX5 (w32 (v3 + 1)) (inR_w32 _) (w32 (v4 + 1)) (inR_w32 _)
  · refine go_iload k85_41 rfl ?_
    exact go_iret k85_42 hg h3 ⟨Nat.zero_le _, Nat.zero_le _⟩ rfl
theorem tlM_childrenOf_5 {Φ : ev_P} {d : Nat} (hd : 1 ≤ d) {g : gH} (hg : HR g) {v0 v1 v2 : Int} (hK0 : kd v0 = 7) (h1 : InR v1) (h2 : InR v2) : ∀ n : Nat, ∀ (v3 : Int) (h3 : InR v3) (v4 : Int) (h4 : InR v4), Go Φ pr_P (fP g) 1 (lM_childrenOf_5 g v0 v1 v2 n v3 v4) d pr_m85 5 [some (sR v0), some (sI v1), some (sI v2), some (sI v3), some (sI v4)] [] g 0 0 := by
  intro n
  induction n with
  | zero => intros; exact go_none
  | succ n ih => exact tbM_childrenOf_5 hd hg hK0 h1 h2 ih
theorem tfM_childrenOf {Φ : ev_P} {d : Nat} (hd : 1 ≤ d) {g : gH} (hg : HR g) {v0 v1 v2 : Int} (hK0 : kd v0 = 7) (h1 : InR v1) (h2 : InR v2) : Go Φ pr_P (fP g) 1 (fM_childrenOf g v0 v1 v2) d (pr_P 85) 0 (ev_loc (pr_P 85).1 [(sR v0), (sI v1), (sI v2)]) [] g 0 0 := by
  show Go Φ pr_P (fP g) 1 (fM_childrenOf g v0 v1 v2) d pr_m85 0 [some (sR v0), some (sI v1), some (sI v2), none, none] [] g 0 0
  unfold fM_childrenOf
  refine go_int k85_0 0 rfl ?_
  refine go_istore k85_1 rfl (loc2 := [some (sR v0), some (sI v1), some (sI v2), some (sI 0), none]) rfl ?_
  refine go_int k85_2 0 rfl ?_
  refine go_istore k85_3 rfl (loc2 := [some (sR v0), some (sI v1), some (sI v2), some (sI 0), some (sI 0)]) rfl ?_
  exact tlM_childrenOf_5 hd hg hK0 h1 h2 fu 0 (inR_b (Or.inl rfl)) 0 (inR_b (Or.inl rfl))
theorem tfM_roomOf {Φ : ev_P} {d : Nat} (hd : 2 ≤ d) {g : gH} (hg : HR g) {v0 v1 : Int} (hK0 : kd v0 = 7) (h1 : InR v1) : Go Φ pr_P (fP g) 1 (fM_roomOf g v0 v1) d (pr_P 86) 0 (ev_loc (pr_P 86).1 [(sR v0), (sI v1)]) [] g 0 0 := by
  show Go Φ pr_P (fP g) 1 (fM_roomOf g v0 v1) d pr_m86 0 [some (sR v0), some (sI v1)] [] g 0 0
  unfold fM_roomOf
  refine go_aload k86_0 rfl ?_
  refine go_iload k86_1 rfl ?_
  refine go_callP3 k86_2 rfl rfl rfl ⟨by decide, _, rfl, hK0⟩ ⟨Nat.zero_le _, Nat.zero_le _⟩ (by omega) (tfM_runs (by omega) hg hK0  h1) (fun y1 r2 => ?_)
  refine go_ifeq k86_5 (inR_b r2) (fun c5 => ?_) (fun c6 => ?_)
  · refine go_int k86_31 0 rfl ?_
    exact go_iret k86_32 hg (inR_b (Or.inl rfl)) ⟨Nat.zero_le _, Nat.zero_le _⟩ rfl
  · refine go_int k86_8 0 rfl ?_
    refine go_aload k86_9 rfl ?_
    refine go_getR (bI := 0) k86_10 hg hK0 (by decide) rfl rfl (fun r7 => ?_)
    refine go_int k86_13 100 rfl ?_
    refine go_iload k86_15 rfl ?_
    refine go_iadd k86_16 ?_
    refine go_ck (fun q9 => ?_)
    refine go_iald k86_17 hg q9 (fun r8 => ?_)
    refine go_aload k86_18 rfl ?_
    refine go_iload k86_19 rfl ?_
    refine go_int k86_20 0 rfl ?_
    refine go_callP1 k86_21 rfl rfl rfl ⟨by decide, _, rfl, hK0⟩ ⟨Nat.zero_le _, Nat.zero_le _⟩ (by omega) (tfM_childrenOf (by omega) hg hK0  h1 (inR_b (Or.inl rfl))) (fun y10 r11 => ?_)
    refine go_isub k86_24 ?_
    refine go_max k86_25 (inR_b (Or.inl rfl)) (inR_w32 _) rfl ⟨Nat.zero_le _, Nat.zero_le _⟩ ?_
    refine go_goto k86_28 ?_
    exact go_iret k86_32 hg (inR_gmax (inR_b (Or.inl rfl)) (inR_w32 _)) ⟨Nat.zero_le _, Nat.zero_le _⟩ rfl
theorem tfM_readProcess {Φ : ev_P} {d : Nat} (hd : 3 ≤ d) {g : gH} (hg : HR g) {v0 : Int} (hK0 : kd v0 = 7) : Go Φ pr_P fN 3 (fM_readProcess g v0) d (pr_P 122) 0 (ev_loc (pr_P 122).1 [(sR v0)]) [] g 0 0 := by
  show Go Φ pr_P fN 3 (fM_readProcess g v0) d pr_m122 0 [some (sR v0)] [] g 0 0
  unfold fM_readProcess
  refine go_aload k122_0 rfl ?_
  refine go_getR (bI := 0) k122_1 hg hK0 (by decide) rfl rfl (fun r1 => ?_)
  refine go_int k122_4 0 rfl ?_
  refine go_ck (fun q3 => ?_)
  refine go_iald k122_5 hg q3 (fun r2 => ?_)
  refine go_int k122_6 24 rfl ?_
  refine go_cmgt k122_8 r2 (inR_of (by decide)) (fun c4 => ?_) (fun c5 => ?_)
  · refine go_aload k122_11 rfl ?_
    refine go_int k122_12 4 rfl ?_
    refine go_callN3 k122_13 rfl rfl rfl ⟨by decide, _, rfl, hK0⟩ ⟨Nat.zero_le _, Nat.zero_le _⟩ (by omega) (tfM_failsAt (by omega) hg hK0  (inR_of (by decide))) (fun y6 g8 r7 e9 => ?_)
    exact go_bret k122_16 e9 r7 ⟨Nat.zero_le _, Nat.zero_le _⟩ rfl
  · refine go_aload k122_17 rfl ?_
    refine go_callN0 k122_18 rfl rfl rfl ⟨by decide, _, rfl, hK0⟩ ⟨Nat.zero_le _, Nat.zero_le _⟩ (by omega) (tfM_advanceToken (by omega) hg hK0 ) (fun y10 g12 e13 => ?_)
    refine go_aload k122_21 rfl ?_
    refine go_int k122_22 0 rfl ?_
    refine go_aload k122_23 rfl ?_
    refine go_getR (bI := 0) k122_24 e13 hK0 (by decide) rfl rfl (fun r14 => ?_)
    refine go_int k122_27 0 rfl ?_
    refine go_ck (fun q16 => ?_)
    refine go_iald k122_28 e13 q16 (fun r15 => ?_)
    refine go_int k122_29 1 rfl ?_
    refine go_isub k122_30 ?_
    refine go_callN3 k122_31 rfl rfl rfl ⟨by decide, _, rfl, hK0⟩ ⟨Nat.zero_le _, Nat.zero_le _⟩ (by omega) (tfM_isNumber (by omega) e13 hK0  (inR_b (Or.inl rfl)) (inR_w32 _)) (fun y17 g19 r18 e20 => ?_)
    refine go_ifeq k122_34 (inR_b r18) (fun c21 => ?_) (fun c22 => ?_)
    · refine go_int k122_37 0 rfl ?_
      exact go_bret k122_38 e20 (Or.inl rfl) ⟨Nat.zero_le _, Nat.zero_le _⟩ rfl
    · refine go_aload k122_39 rfl ?_
      refine go_aload k122_40 rfl ?_
      refine go_getI (bI := 17) k122_41 e20 hK0 (by decide) rfl rfl (fun r23 => ?_)
      refine go_callP1 k122_44 rfl rfl rfl ⟨by decide, _, rfl, hK0⟩ ⟨Nat.zero_le _, Nat.zero_le _⟩ (by omega) (tfM_roomOf (by omega) e20 hK0  r23) (fun y24 r25 => ?_)
      refine go_ifeq k122_47 r25 (fun c28 => ?_) (fun c29 => ?_)
      · refine go_aload k122_50 rfl ?_
        refine go_int k122_51 2 rfl ?_
        refine go_callN3 k122_52 rfl rfl rfl ⟨by decide, _, rfl, hK0⟩ ⟨Nat.zero_le _, Nat.zero_le _⟩ (by omega) (tfM_failsAt (by omega) e20 hK0  (inR_of (by decide))) (fun y30 g32 r31 e33 => ?_)
        exact go_bret k122_55 e33 r31 ⟨Nat.zero_le _, Nat.zero_le _⟩ rfl
      · refine go_aload k122_56 rfl ?_
        refine go_int k122_57 0 rfl ?_
        refine go_int k122_58 0 rfl ?_
        refine go_aload k122_59 rfl ?_
        refine go_getR (bI := 0) k122_60 e20 hK0 (by decide) rfl rfl (fun r34 => ?_)
        refine go_int k122_63 0 rfl ?_
        refine go_ck (fun q36 => ?_)
        refine go_iald k122_64 e20 q36 (fun r35 => ?_)
        refine go_int k122_65 1 rfl ?_
        refine go_isub k122_66 ?_
        refine go_callN3 k122_67 rfl rfl rfl ⟨by decide, _, rfl, hK0⟩ ⟨Nat.zero_le _, Nat.zero_le _⟩ (by omega) (tfM_takes (by omega) e20 hK0  (inR_b (Or.inl rfl)) (inR_b (Or.inl rfl)) (inR_w32 _)) (fun y37 g39 r38 e40 => ?_)
        refine go_ifeq k122_70 (inR_b r38) (fun c41 => ?_) (fun c42 => ?_)
        · refine go_int k122_106 0 rfl ?_
          exact go_bret k122_107 e40 (Or.inl rfl) ⟨Nat.zero_le _, Nat.zero_le _⟩ rfl
        · refine go_aload k122_73 rfl ?_
          refine go_int k122_74 1 rfl ?_
          refine go_int k122_75 0 rfl ?_
          refine go_int k122_76 9 rfl ?_
          refine go_callN3 k122_78 rfl rfl rfl ⟨by decide, _, rfl, hK0⟩ ⟨Nat.zero_le _, Nat.zero_le _⟩ (by omega) (tfM_takes (by omega) e40 hK0  (inR_b (Or.inr rfl)) (inR_b (Or.inl rfl)) (inR_of (by decide))) (fun y43 g45 r44 e46 => ?_)
          refine go_ifeq k122_81 (inR_b r44) (fun c47 => ?_) (fun c48 => ?_)
          · refine go_int k122_106 0 rfl ?_
            exact go_bret k122_107 e46 (Or.inl rfl) ⟨Nat.zero_le _, Nat.zero_le _⟩ rfl
          · refine go_aload k122_84 rfl ?_
            refine go_int k122_85 2 rfl ?_
            refine go_int k122_86 0 rfl ?_
            refine go_int k122_87 9 rfl ?_
            refine go_callN3 k122_89 rfl rfl rfl ⟨by decide, _, rfl, hK0⟩ ⟨Nat.zero_le _, Nat.zero_le _⟩ (by omega) (tfM_takes (by omega) e46 hK0  (inR_of (by decide)) (inR_b (Or.inl rfl)) (inR_of (by decide))) (fun y49 g51 r50 e52 => ?_)
            refine go_ifeq k122_92 (inR_b r50) (fun c53 => ?_) (fun c54 => ?_)
            · refine go_int k122_106 0 rfl ?_
              exact go_bret k122_107 e52 (Or.inl rfl) ⟨Nat.zero_le _, Nat.zero_le _⟩ rfl
            · refine go_aload k122_95 rfl ?_
              refine go_int k122_96 3 rfl ?_
              refine go_int k122_97 0 rfl ?_
              refine go_int k122_98 9 rfl ?_
              refine go_callN3 k122_100 rfl rfl rfl ⟨by decide, _, rfl, hK0⟩ ⟨Nat.zero_le _, Nat.zero_le _⟩ (by omega) (tfM_takes (by omega) e52 hK0  (inR_of (by decide)) (inR_b (Or.inl rfl)) (inR_of (by decide))) (fun y55 g57 r56 e58 => ?_)
              refine go_ifeq k122_103 (inR_b r56) (fun c59 => ?_) (fun c60 => ?_)
              · refine go_int k122_106 0 rfl ?_
                exact go_bret k122_107 e58 (Or.inl rfl) ⟨Nat.zero_le _, Nat.zero_le _⟩ rfl
              · refine go_aload k122_108 rfl ?_
                refine go_aload k122_109 rfl ?_
                refine go_getR (bI := 20) k122_110 e58 hK0 (by decide) rfl rfl (fun r61 => ?_)
                refine go_int k122_113 0 rfl ?_
                refine go_ck (fun q63 => ?_)
                refine go_iald k122_114 e58 q63 (fun r62 => ?_)
                refine go_aload k122_115 rfl ?_
                refine go_getR (bI := 20) k122_116 e58 hK0 (by decide) rfl rfl (fun r64 => ?_)
                refine go_int k122_119 1 rfl ?_
                refine go_ck (fun q66 => ?_)
                refine go_iald k122_120 e58 q66 (fun r65 => ?_)
                refine go_aload k122_121 rfl ?_
                refine go_getR (bI := 20) k122_122 e58 hK0 (by decide) rfl rfl (fun r67 => ?_)
                refine go_int k122_125 2 rfl ?_
                refine go_ck (fun q69 => ?_)
                refine go_iald k122_126 e58 q69 (fun r68 => ?_)
                refine go_aload k122_127 rfl ?_
                refine go_getR (bI := 20) k122_128 e58 hK0 (by decide) rfl rfl (fun r70 => ?_)
                refine go_int k122_131 3 rfl ?_
                refine go_ck (fun q72 => ?_)
                refine go_iald k122_132 e58 q72 (fun r71 => ?_)
                refine go_callN1 k122_133 rfl rfl rfl ⟨by decide, _, rfl, hK0⟩ ⟨Nat.zero_le _, Nat.zero_le _⟩ (by omega) (tfM_comes (by omega) e58 hK0  r62 r65 r68 r71) (fun y73 g75 r74 e76 => ?_)
                refine go_popI k122_136 ?_
                refine go_int k122_137 1 rfl ?_
                exact go_bret k122_138 e76 (Or.inr rfl) ⟨Nat.zero_le _, Nat.zero_le _⟩ rfl
theorem tfM_readHeir {Φ : ev_P} {d : Nat} (hd : 3 ≤ d) {g : gH} (hg : HR g) {v0 : Int} (hK0 : kd v0 = 7) : Go Φ pr_P fN 3 (fM_readHeir g v0) d (pr_P 123) 0 (ev_loc (pr_P 123).1 [(sR v0)]) [] g 0 0 := by
  show Go Φ pr_P fN 3 (fM_readHeir g v0) d pr_m123 0 [some (sR v0)] [] g 0 0
  unfold fM_readHeir
  refine go_aload k123_0 rfl ?_
  refine go_callN0 k123_1 rfl rfl rfl ⟨by decide, _, rfl, hK0⟩ ⟨Nat.zero_le _, Nat.zero_le _⟩ (by omega) (tfM_advanceToken (by omega) hg hK0 ) (fun y1 g3 e4 => ?_)
  refine go_aload k123_4 rfl ?_
  refine go_int k123_5 1 rfl ?_
  refine go_aload k123_6 rfl ?_
  refine go_getR (bI := 0) k123_7 e4 hK0 (by decide) rfl rfl (fun r5 => ?_)
  refine go_int k123_10 0 rfl ?_
  refine go_ck (fun q7 => ?_)
  refine go_iald k123_11 e4 q7 (fun r6 => ?_)
  refine go_int k123_12 1 rfl ?_
  refine go_isub k123_13 ?_
  refine go_callN3 k123_14 rfl rfl rfl ⟨by decide, _, rfl, hK0⟩ ⟨Nat.zero_le _, Nat.zero_le _⟩ (by omega) (tfM_isNumber (by omega) e4 hK0  (inR_b (Or.inr rfl)) (inR_w32 _)) (fun y8 g10 r9 e11 => ?_)
  refine go_ifeq k123_17 (inR_b r9) (fun c12 => ?_) (fun c13 => ?_)
  · refine go_int k123_20 0 rfl ?_
    exact go_bret k123_21 e11 (Or.inl rfl) ⟨Nat.zero_le _, Nat.zero_le _⟩ rfl
  · refine go_aload k123_22 rfl ?_
    refine go_getR (bI := 0) k123_23 e11 hK0 (by decide) rfl rfl (fun r14 => ?_)
    refine go_int k123_26 260 rfl ?_
    refine go_aload k123_29 rfl ?_
    refine go_getI (bI := 17) k123_30 e11 hK0 (by decide) rfl rfl (fun r15 => ?_)
    refine go_iadd k123_33 ?_
    refine go_ck (fun q17 => ?_)
    refine go_iald k123_34 e11 q17 (fun r16 => ?_)
    refine go_int k123_35 (-1) rfl ?_
    refine go_cmeq k123_36 r16 (inR_of (by decide)) (fun c18 => ?_) (fun c19 => ?_)
    · refine go_aload k123_45 rfl ?_
      refine go_int k123_46 0 rfl ?_
      refine go_int k123_47 1 rfl ?_
      refine go_aload k123_48 rfl ?_
      refine go_getR (bI := 0) k123_49 e11 hK0 (by decide) rfl rfl (fun r20 => ?_)
      refine go_int k123_52 0 rfl ?_
      refine go_ck (fun q22 => ?_)
      refine go_iald k123_53 e11 q22 (fun r21 => ?_)
      refine go_int k123_54 1 rfl ?_
      refine go_isub k123_55 ?_
      refine go_callN3 k123_56 rfl rfl rfl ⟨by decide, _, rfl, hK0⟩ ⟨Nat.zero_le _, Nat.zero_le _⟩ (by omega) (tfM_takes (by omega) e11 hK0  (inR_b (Or.inl rfl)) (inR_b (Or.inr rfl)) (inR_w32 _)) (fun y23 g25 r24 e26 => ?_)
      refine go_ifeq k123_59 (inR_b r24) (fun c27 => ?_) (fun c28 => ?_)
      · refine go_int k123_62 0 rfl ?_
        exact go_bret k123_63 e26 (Or.inl rfl) ⟨Nat.zero_le _, Nat.zero_le _⟩ rfl
      · refine go_aload k123_64 rfl ?_
        refine go_int k123_65 0 rfl ?_
        refine go_aload k123_66 rfl ?_
        refine go_getR (bI := 0) k123_67 e26 hK0 (by decide) rfl rfl (fun r29 => ?_)
        refine go_int k123_70 0 rfl ?_
        refine go_ck (fun q31 => ?_)
        refine go_iald k123_71 e26 q31 (fun r30 => ?_)
        refine go_int k123_72 1 rfl ?_
        refine go_isub k123_73 ?_
        refine go_callN3 k123_74 rfl rfl rfl ⟨by decide, _, rfl, hK0⟩ ⟨Nat.zero_le _, Nat.zero_le _⟩ (by omega) (tfM_isNumber (by omega) e26 hK0  (inR_b (Or.inl rfl)) (inR_w32 _)) (fun y32 g34 r33 e35 => ?_)
        refine go_ifeq k123_77 (inR_b r33) (fun c36 => ?_) (fun c37 => ?_)
        · refine go_int k123_80 0 rfl ?_
          exact go_bret k123_81 e35 (Or.inl rfl) ⟨Nat.zero_le _, Nat.zero_le _⟩ rfl
        · refine go_aload k123_82 rfl ?_
          refine go_getI (bI := 17) k123_83 e35 hK0 (by decide) rfl rfl (fun r38 => ?_)
          refine go_aload k123_86 rfl ?_
          refine go_getR (bI := 20) k123_87 e35 hK0 (by decide) rfl rfl (fun r39 => ?_)
          refine go_int k123_90 0 rfl ?_
          refine go_ck (fun q41 => ?_)
          refine go_iald k123_91 e35 q41 (fun r40 => ?_)
          refine go_cmeq k123_92 r38 r40 (fun c42 => ?_) (fun c43 => ?_)
          · refine go_aload k123_95 rfl ?_
            refine go_int k123_96 2 rfl ?_
            refine go_callN3 k123_97 rfl rfl rfl ⟨by decide, _, rfl, hK0⟩ ⟨Nat.zero_le _, Nat.zero_le _⟩ (by omega) (tfM_failsAt (by omega) e35 hK0  (inR_of (by decide))) (fun y44 g46 r45 e47 => ?_)
            exact go_bret k123_100 e47 r45 ⟨Nat.zero_le _, Nat.zero_le _⟩ rfl
          · refine go_aload k123_101 rfl ?_
            refine go_int k123_102 1 rfl ?_
            refine go_int k123_103 0 rfl ?_
            refine go_aload k123_104 rfl ?_
            refine go_getR (bI := 0) k123_105 e35 hK0 (by decide) rfl rfl (fun r48 => ?_)
            refine go_int k123_108 0 rfl ?_
            refine go_ck (fun q50 => ?_)
            refine go_iald k123_109 e35 q50 (fun r49 => ?_)
            refine go_int k123_110 1 rfl ?_
            refine go_isub k123_111 ?_
            refine go_callN3 k123_112 rfl rfl rfl ⟨by decide, _, rfl, hK0⟩ ⟨Nat.zero_le _, Nat.zero_le _⟩ (by omega) (tfM_takes (by omega) e35 hK0  (inR_b (Or.inr rfl)) (inR_b (Or.inl rfl)) (inR_w32 _)) (fun y51 g53 r52 e54 => ?_)
            refine go_ifeq k123_115 (inR_b r52) (fun c55 => ?_) (fun c56 => ?_)
            · refine go_int k123_118 0 rfl ?_
              exact go_bret k123_119 e54 (Or.inl rfl) ⟨Nat.zero_le _, Nat.zero_le _⟩ rfl
            · refine go_aload k123_120 rfl ?_
              refine go_getR (bI := 0) k123_121 e54 hK0 (by decide) rfl rfl (fun r57 => ?_)
              refine go_int k123_124 260 rfl ?_
              refine go_aload k123_127 rfl ?_
              refine go_getR (bI := 20) k123_128 e54 hK0 (by decide) rfl rfl (fun r58 => ?_)
              refine go_int k123_131 0 rfl ?_
              refine go_ck (fun q60 => ?_)
              refine go_iald k123_132 e54 q60 (fun r59 => ?_)
              refine go_iadd k123_133 ?_
              refine go_aload k123_134 rfl ?_
              refine go_getR (bI := 20) k123_135 e54 hK0 (by decide) rfl rfl (fun r61 => ?_)
              refine go_int k123_138 1 rfl ?_
              refine go_ck (fun q63 => ?_)
              refine go_iald k123_139 e54 q63 (fun r62 => ?_)
              refine go_ck (fun q64 => ?_)
              refine go_iast k123_140 e54 q64 r62 (fun g65 e66 => ?_)
              refine go_int k123_141 1 rfl ?_
              exact go_bret k123_142 e66 (Or.inr rfl) ⟨Nat.zero_le _, Nat.zero_le _⟩ rfl
    · refine go_aload k123_39 rfl ?_
      refine go_int k123_40 3 rfl ?_
      refine go_callN3 k123_41 rfl rfl rfl ⟨by decide, _, rfl, hK0⟩ ⟨Nat.zero_le _, Nat.zero_le _⟩ (by omega) (tfM_failsAt (by omega) e11 hK0  (inR_of (by decide))) (fun y67 g69 r68 e70 => ?_)
      exact go_bret k123_44 e70 r68 ⟨Nat.zero_le _, Nat.zero_le _⟩ rfl
theorem tfM_readDuty {Φ : ev_P} {d : Nat} (hd : 3 ≤ d) {g : gH} (hg : HR g) {v0 : Int} (hK0 : kd v0 = 7) : Go Φ pr_P fN 3 (fM_readDuty g v0) d (pr_P 124) 0 (ev_loc (pr_P 124).1 [(sR v0)]) [] g 0 0 := by
  show Go Φ pr_P fN 3 (fM_readDuty g v0) d pr_m124 0 [some (sR v0)] [] g 0 0
  unfold fM_readDuty
  refine go_aload k124_0 rfl ?_
  refine go_callN0 k124_1 rfl rfl rfl ⟨by decide, _, rfl, hK0⟩ ⟨Nat.zero_le _, Nat.zero_le _⟩ (by omega) (tfM_advanceToken (by omega) hg hK0 ) (fun y1 g3 e4 => ?_)
  refine go_aload k124_4 rfl ?_
  refine go_int k124_5 0 rfl ?_
  refine go_int k124_6 0 rfl ?_
  refine go_int k124_7 7 rfl ?_
  refine go_callN3 k124_9 rfl rfl rfl ⟨by decide, _, rfl, hK0⟩ ⟨Nat.zero_le _, Nat.zero_le _⟩ (by omega) (tfM_takes (by omega) e4 hK0  (inR_b (Or.inl rfl)) (inR_b (Or.inl rfl)) (inR_of (by decide))) (fun y5 g7 r6 e8 => ?_)
  refine go_ifeq k124_12 (inR_b r6) (fun c9 => ?_) (fun c10 => ?_)
  · refine go_int k124_32 0 rfl ?_
    exact go_bret k124_33 e8 (Or.inl rfl) ⟨Nat.zero_le _, Nat.zero_le _⟩ rfl
  · refine go_aload k124_15 rfl ?_
    refine go_int k124_16 1 rfl ?_
    refine go_int k124_17 0 rfl ?_
    refine go_aload k124_18 rfl ?_
    refine go_getR (bI := 0) k124_19 e8 hK0 (by decide) rfl rfl (fun r11 => ?_)
    refine go_int k124_22 0 rfl ?_
    refine go_ck (fun q13 => ?_)
    refine go_iald k124_23 e8 q13 (fun r12 => ?_)
    refine go_int k124_24 1 rfl ?_
    refine go_isub k124_25 ?_
    refine go_callN3 k124_26 rfl rfl rfl ⟨by decide, _, rfl, hK0⟩ ⟨Nat.zero_le _, Nat.zero_le _⟩ (by omega) (tfM_takes (by omega) e8 hK0  (inR_b (Or.inr rfl)) (inR_b (Or.inl rfl)) (inR_w32 _)) (fun y14 g16 r15 e17 => ?_)
    refine go_ifeq k124_29 (inR_b r15) (fun c18 => ?_) (fun c19 => ?_)
    · refine go_int k124_32 0 rfl ?_
      exact go_bret k124_33 e17 (Or.inl rfl) ⟨Nat.zero_le _, Nat.zero_le _⟩ rfl
    · refine go_aload k124_34 rfl ?_
      refine go_getR (bI := 0) k124_35 e17 hK0 (by decide) rfl rfl (fun r20 => ?_)
      refine go_int k124_38 11 rfl ?_
      refine go_aload k124_40 rfl ?_
      refine go_getR (bI := 20) k124_41 e17 hK0 (by decide) rfl rfl (fun r21 => ?_)
      refine go_int k124_44 0 rfl ?_
      refine go_ck (fun q23 => ?_)
      refine go_iald k124_45 e17 q23 (fun r22 => ?_)
      refine go_iadd k124_46 ?_
      refine go_aload k124_47 rfl ?_
      refine go_getR (bI := 20) k124_48 e17 hK0 (by decide) rfl rfl (fun r24 => ?_)
      refine go_int k124_51 1 rfl ?_
      refine go_ck (fun q26 => ?_)
      refine go_iald k124_52 e17 q26 (fun r25 => ?_)
      refine go_ck (fun q27 => ?_)
      refine go_iast k124_53 e17 q27 r25 (fun g28 e29 => ?_)
      refine go_int k124_54 1 rfl ?_
      exact go_bret k124_55 e29 (Or.inr rfl) ⟨Nat.zero_le _, Nat.zero_le _⟩ rfl
theorem tfM_refusesGroup {Φ : ev_P} {d : Nat} (hd : 0 ≤ d) {g : gH} (hg : HR g) {v0 v1 v2 : Int} (hK0 : kd v0 = 7) (h1 : InR v1) (h2 : InR v2) : Go Φ pr_P (fP g) 3 (fM_refusesGroup g v0 v1 v2) d (pr_P 87) 0 (ev_loc (pr_P 87).1 [(sR v0), (sI v1), (sI v2)]) [] g 0 0 := by
  show Go Φ pr_P (fP g) 3 (fM_refusesGroup g v0 v1 v2) d pr_m87 0 [some (sR v0), some (sI v1), some (sI v2)] [] g 0 0
  unfold fM_refusesGroup
  refine go_aload k87_0 rfl ?_
  refine go_getR (bI := 0) k87_1 hg hK0 (by decide) rfl rfl (fun r1 => ?_)
  refine go_int k87_4 340 rfl ?_
  refine go_iload k87_7 rfl ?_
  refine go_iadd k87_8 ?_
  refine go_ck (fun q3 => ?_)
  refine go_iald k87_9 hg q3 (fun r2 => ?_)
  refine go_iload k87_10 rfl ?_
  refine go_ibin k87_11 ?_
  refine go_int k87_12 1 rfl ?_
  refine go_ibin k87_13 ?_
  refine go_int k87_14 1 rfl ?_
  refine go_cmeq k87_15 (inR_opI _ _ _) (inR_b (Or.inr rfl)) (fun c4 => ?_) (fun c5 => ?_)
  · refine go_int k87_18 1 rfl ?_
    refine go_goto k87_19 ?_
    exact go_bret k87_23 hg (Or.inr rfl) ⟨Nat.zero_le _, Nat.zero_le _⟩ rfl
  · refine go_int k87_22 0 rfl ?_
    exact go_bret k87_23 hg (Or.inl rfl) ⟨Nat.zero_le _, Nat.zero_le _⟩ rfl
theorem tfM_readRefusal {Φ : ev_P} {d : Nat} (hd : 3 ≤ d) {g : gH} (hg : HR g) {v0 : Int} (hK0 : kd v0 = 7) : Go Φ pr_P fN 3 (fM_readRefusal g v0) d (pr_P 125) 0 (ev_loc (pr_P 125).1 [(sR v0)]) [] g 0 0 := by
  show Go Φ pr_P fN 3 (fM_readRefusal g v0) d pr_m125 0 [some (sR v0)] [] g 0 0
  unfold fM_readRefusal
  refine go_aload k125_0 rfl ?_
  refine go_callN0 k125_1 rfl rfl rfl ⟨by decide, _, rfl, hK0⟩ ⟨Nat.zero_le _, Nat.zero_le _⟩ (by omega) (tfM_advanceToken (by omega) hg hK0 ) (fun y1 g3 e4 => ?_)
  refine go_aload k125_4 rfl ?_
  refine go_int k125_5 0 rfl ?_
  refine go_int k125_6 1 rfl ?_
  refine go_aload k125_7 rfl ?_
  refine go_getR (bI := 0) k125_8 e4 hK0 (by decide) rfl rfl (fun r5 => ?_)
  refine go_int k125_11 0 rfl ?_
  refine go_ck (fun q7 => ?_)
  refine go_iald k125_12 e4 q7 (fun r6 => ?_)
  refine go_int k125_13 1 rfl ?_
  refine go_isub k125_14 ?_
  refine go_callN3 k125_15 rfl rfl rfl ⟨by decide, _, rfl, hK0⟩ ⟨Nat.zero_le _, Nat.zero_le _⟩ (by omega) (tfM_takes (by omega) e4 hK0  (inR_b (Or.inl rfl)) (inR_b (Or.inr rfl)) (inR_w32 _)) (fun y8 g10 r9 e11 => ?_)
  refine go_ifeq k125_18 (inR_b r9) (fun c12 => ?_) (fun c13 => ?_)
  · refine go_int k125_31 0 rfl ?_
    exact go_bret k125_32 e11 (Or.inl rfl) ⟨Nat.zero_le _, Nat.zero_le _⟩ rfl
  · refine go_aload k125_21 rfl ?_
    refine go_int k125_22 0 rfl ?_
    refine go_int k125_23 9 rfl ?_
    refine go_callN3 k125_25 rfl rfl rfl ⟨by decide, _, rfl, hK0⟩ ⟨Nat.zero_le _, Nat.zero_le _⟩ (by omega) (tfM_isNumber (by omega) e11 hK0  (inR_b (Or.inl rfl)) (inR_of (by decide))) (fun y14 g16 r15 e17 => ?_)
    refine go_ifeq k125_28 (inR_b r15) (fun c18 => ?_) (fun c19 => ?_)
    · refine go_int k125_31 0 rfl ?_
      exact go_bret k125_32 e17 (Or.inl rfl) ⟨Nat.zero_le _, Nat.zero_le _⟩ rfl
    · refine go_aload k125_33 rfl ?_
      refine go_aload k125_34 rfl ?_
      refine go_getR (bI := 20) k125_35 e17 hK0 (by decide) rfl rfl (fun r20 => ?_)
      refine go_int k125_38 0 rfl ?_
      refine go_ck (fun q22 => ?_)
      refine go_iald k125_39 e17 q22 (fun r21 => ?_)
      refine go_aload k125_40 rfl ?_
      refine go_getI (bI := 17) k125_41 e17 hK0 (by decide) rfl rfl (fun r23 => ?_)
      refine go_callP3 k125_44 rfl rfl rfl ⟨by decide, _, rfl, hK0⟩ ⟨Nat.zero_le _, Nat.zero_le _⟩ (by omega) (tfM_refusesGroup (by omega) e17 hK0  r21 r23) (fun y24 r25 => ?_)
      refine go_ifeq k125_47 (inR_b r25) (fun c28 => ?_) (fun c29 => ?_)
      · refine go_aload k125_56 rfl ?_
        refine go_int k125_57 1 rfl ?_
        refine go_int k125_58 0 rfl ?_
        refine go_int k125_59 9 rfl ?_
        refine go_callN3 k125_61 rfl rfl rfl ⟨by decide, _, rfl, hK0⟩ ⟨Nat.zero_le _, Nat.zero_le _⟩ (by omega) (tfM_takes (by omega) e17 hK0  (inR_b (Or.inr rfl)) (inR_b (Or.inl rfl)) (inR_of (by decide))) (fun y30 g32 r31 e33 => ?_)
        refine go_ifeq k125_64 (inR_b r31) (fun c34 => ?_) (fun c35 => ?_)
        · refine go_int k125_67 0 rfl ?_
          exact go_bret k125_68 e33 (Or.inl rfl) ⟨Nat.zero_le _, Nat.zero_le _⟩ rfl
        · refine go_aload k125_69 rfl ?_
          refine go_getR (bI := 0) k125_70 e33 hK0 (by decide) rfl rfl (fun r36 => ?_)
          refine go_int k125_73 340 rfl ?_
          refine go_aload k125_76 rfl ?_
          refine go_getR (bI := 20) k125_77 e33 hK0 (by decide) rfl rfl (fun r37 => ?_)
          refine go_int k125_80 0 rfl ?_
          refine go_ck (fun q39 => ?_)
          refine go_iald k125_81 e33 q39 (fun r38 => ?_)
          refine go_iadd k125_82 ?_
          refine go_dup2 k125_83 ?_
          refine go_ck (fun q41 => ?_)
          refine go_iald k125_84 e33 q41 (fun r40 => ?_)
          refine go_int k125_85 1 rfl ?_
          refine go_aload k125_86 rfl ?_
          refine go_getR (bI := 20) k125_87 e33 hK0 (by decide) rfl rfl (fun r42 => ?_)
          refine go_int k125_90 1 rfl ?_
          refine go_ck (fun q44 => ?_)
          refine go_iald k125_91 e33 q44 (fun r43 => ?_)
          refine go_ibin k125_92 ?_
          refine go_ibin k125_93 ?_
          refine go_ck (fun q45 => ?_)
          refine go_iast k125_94 e33 q45 (inR_opI _ _ _) (fun g46 e47 => ?_)
          refine go_int k125_95 1 rfl ?_
          exact go_bret k125_96 e47 (Or.inr rfl) ⟨Nat.zero_le _, Nat.zero_le _⟩ rfl
      · refine go_aload k125_50 rfl ?_
        refine go_int k125_51 3 rfl ?_
        refine go_callN3 k125_52 rfl rfl rfl ⟨by decide, _, rfl, hK0⟩ ⟨Nat.zero_le _, Nat.zero_le _⟩ (by omega) (tfM_failsAt (by omega) e17 hK0  (inR_of (by decide))) (fun y48 g50 r49 e51 => ?_)
        exact go_bret k125_55 e51 r49 ⟨Nat.zero_le _, Nat.zero_le _⟩ rfl
theorem tfM_readStatement {Φ : ev_P} {d : Nat} (hd : 4 ≤ d) {g : gH} (hg : HR g) {v0 : Int} (hK0 : kd v0 = 7) : Go Φ pr_P fN 3 (fM_readStatement g v0) d (pr_P 126) 0 (ev_loc (pr_P 126).1 [(sR v0)]) [] g 0 0 := by
  show Go Φ pr_P fN 3 (fM_readStatement g v0) d pr_m126 0 [some (sR v0)] [] g 0 0
  unfold fM_readStatement
  refine go_aload k126_0 rfl ?_
  refine go_ldcs k126_1 (by decide) (x := 2000013) rfl ?_
  refine go_callP3 k126_3 rfl rfl rfl ⟨by decide, _, rfl, hK0⟩ ⟨Nat.zero_le _, Nat.zero_le _⟩ (by omega) (tfM_isWord (by omega) hg hK0 ) (fun y1 r2 => ?_)
  refine go_ifeq k126_6 (inR_b r2) (fun c5 => ?_) (fun c6 => ?_)
  · refine go_aload k126_14 rfl ?_
    refine go_ldcs k126_15 (by decide) (x := 2000014) rfl ?_
    refine go_callP3 k126_17 rfl rfl rfl ⟨by decide, _, rfl, hK0⟩ ⟨Nat.zero_le _, Nat.zero_le _⟩ (by omega) (tfM_isWord (by omega) hg hK0 ) (fun y7 r8 => ?_)
    refine go_ifeq k126_20 (inR_b r8) (fun c11 => ?_) (fun c12 => ?_)
    · refine go_aload k126_28 rfl ?_
      refine go_ldcs k126_29 (by decide) (x := 2000015) rfl ?_
      refine go_callP3 k126_31 rfl rfl rfl ⟨by decide, _, rfl, hK0⟩ ⟨Nat.zero_le _, Nat.zero_le _⟩ (by omega) (tfM_isWord (by omega) hg hK0 ) (fun y13 r14 => ?_)
      refine go_ifeq k126_34 (inR_b r14) (fun c17 => ?_) (fun c18 => ?_)
      · refine go_aload k126_42 rfl ?_
        refine go_ldcs k126_43 (by decide) (x := 2000020) rfl ?_
        refine go_callP3 k126_45 rfl rfl rfl ⟨by decide, _, rfl, hK0⟩ ⟨Nat.zero_le _, Nat.zero_le _⟩ (by omega) (tfM_isWord (by omega) hg hK0 ) (fun y19 r20 => ?_)
        refine go_ifeq k126_48 (inR_b r20) (fun c23 => ?_) (fun c24 => ?_)
        · refine go_aload k126_56 rfl ?_
          refine go_ldcs k126_57 (by decide) (x := 2000016) rfl ?_
          refine go_callP3 k126_59 rfl rfl rfl ⟨by decide, _, rfl, hK0⟩ ⟨Nat.zero_le _, Nat.zero_le _⟩ (by omega) (tfM_isWord (by omega) hg hK0 ) (fun y25 r26 => ?_)
          refine go_ifeq k126_62 (inR_b r26) (fun c29 => ?_) (fun c30 => ?_)
          · refine go_aload k126_70 rfl ?_
            refine go_ldcs k126_71 (by decide) (x := 2000017) rfl ?_
            refine go_callP3 k126_73 rfl rfl rfl ⟨by decide, _, rfl, hK0⟩ ⟨Nat.zero_le _, Nat.zero_le _⟩ (by omega) (tfM_isWord (by omega) hg hK0 ) (fun y31 r32 => ?_)
            refine go_ifeq k126_76 (inR_b r32) (fun c35 => ?_) (fun c36 => ?_)
            · refine go_aload k126_84 rfl ?_
              refine go_ldcs k126_85 (by decide) (x := 2000018) rfl ?_
              refine go_callP3 k126_87 rfl rfl rfl ⟨by decide, _, rfl, hK0⟩ ⟨Nat.zero_le _, Nat.zero_le _⟩ (by omega) (tfM_isWord (by omega) hg hK0 ) (fun y37 r38 => ?_)
              refine go_ifeq k126_90 (inR_b r38) (fun c41 => ?_) (fun c42 => ?_)
              · refine go_aload k126_98 rfl ?_
                refine go_ldcs k126_99 (by decide) (x := 2000019) rfl ?_
                refine go_callP3 k126_101 rfl rfl rfl ⟨by decide, _, rfl, hK0⟩ ⟨Nat.zero_le _, Nat.zero_le _⟩ (by omega) (tfM_isWord (by omega) hg hK0 ) (fun y43 r44 => ?_)
                refine go_ifeq k126_104 (inR_b r44) (fun c47 => ?_) (fun c48 => ?_)
                · refine go_aload k126_114 rfl ?_
                  refine go_int k126_115 1 rfl ?_
                  refine go_callN3 k126_116 rfl rfl rfl ⟨by decide, _, rfl, hK0⟩ ⟨Nat.zero_le _, Nat.zero_le _⟩ (by omega) (tfM_failsAt (by omega) hg hK0  (inR_b (Or.inr rfl))) (fun y49 g51 r50 e52 => ?_)
                  exact go_bret k126_119 e52 r50 ⟨Nat.zero_le _, Nat.zero_le _⟩ rfl
                · refine go_aload k126_107 rfl ?_
                  refine go_callN3 k126_108 rfl rfl rfl ⟨by decide, _, rfl, hK0⟩ ⟨Nat.zero_le _, Nat.zero_le _⟩ (by omega) (tfM_readRefusal (by omega) hg hK0 ) (fun y53 g55 r54 e56 => ?_)
                  refine go_goto k126_111 ?_
                  exact go_bret k126_119 e56 r54 ⟨Nat.zero_le _, Nat.zero_le _⟩ rfl
              · refine go_aload k126_93 rfl ?_
                refine go_callN3 k126_94 rfl rfl rfl ⟨by decide, _, rfl, hK0⟩ ⟨Nat.zero_le _, Nat.zero_le _⟩ (by omega) (tfM_readDuty (by omega) hg hK0 ) (fun y57 g59 r58 e60 => ?_)
                exact go_bret k126_97 e60 r58 ⟨Nat.zero_le _, Nat.zero_le _⟩ rfl
            · refine go_aload k126_79 rfl ?_
              refine go_callN3 k126_80 rfl rfl rfl ⟨by decide, _, rfl, hK0⟩ ⟨Nat.zero_le _, Nat.zero_le _⟩ (by omega) (tfM_readHeir (by omega) hg hK0 ) (fun y61 g63 r62 e64 => ?_)
              exact go_bret k126_83 e64 r62 ⟨Nat.zero_le _, Nat.zero_le _⟩ rfl
          · refine go_aload k126_65 rfl ?_
            refine go_callN3 k126_66 rfl rfl rfl ⟨by decide, _, rfl, hK0⟩ ⟨Nat.zero_le _, Nat.zero_le _⟩ (by omega) (tfM_readProcess (by omega) hg hK0 ) (fun y65 g67 r66 e68 => ?_)
            exact go_bret k126_69 e68 r66 ⟨Nat.zero_le _, Nat.zero_le _⟩ rfl
        · refine go_aload k126_51 rfl ?_
          refine go_callN3 k126_52 rfl rfl rfl ⟨by decide, _, rfl, hK0⟩ ⟨Nat.zero_le _, Nat.zero_le _⟩ (by omega) (tfM_readWill (by omega) hg hK0 ) (fun y69 g71 r70 e72 => ?_)
          exact go_bret k126_55 e72 r70 ⟨Nat.zero_le _, Nat.zero_le _⟩ rfl
      · refine go_aload k126_37 rfl ?_
        refine go_callN3 k126_38 rfl rfl rfl ⟨by decide, _, rfl, hK0⟩ ⟨Nat.zero_le _, Nat.zero_le _⟩ (by omega) (tfM_readRoot (by omega) hg hK0 ) (fun y73 g75 r74 e76 => ?_)
        exact go_bret k126_41 e76 r74 ⟨Nat.zero_le _, Nat.zero_le _⟩ rfl
    · refine go_aload k126_23 rfl ?_
      refine go_callN3 k126_24 rfl rfl rfl ⟨by decide, _, rfl, hK0⟩ ⟨Nat.zero_le _, Nat.zero_le _⟩ (by omega) (tfM_readDeep (by omega) hg hK0 ) (fun y77 g79 r78 e80 => ?_)
      exact go_bret k126_27 e80 r78 ⟨Nat.zero_le _, Nat.zero_le _⟩ rfl
  · refine go_aload k126_9 rfl ?_
    refine go_callN3 k126_10 rfl rfl rfl ⟨by decide, _, rfl, hK0⟩ ⟨Nat.zero_le _, Nat.zero_le _⟩ (by omega) (tfM_readOrder (by omega) hg hK0 ) (fun y81 g83 r82 e84 => ?_)
    exact go_bret k126_13 e84 r82 ⟨Nat.zero_le _, Nat.zero_le _⟩ rfl
theorem tbM_readText_0 {Φ : ev_P} {d : Nat} (hd : 5 ≤ d) {v0 : Int} (hK0 : kd v0 = 7) {X0 : gH → Option (Int × gH)} (HX0 : ∀ (g : gH) (hg : HR g), Go Φ pr_P fN 3 (X0 g) d pr_m127 0 [some (sR v0)] [] g 0 0) : ∀ (g : gH) (hg : HR g), Go Φ pr_P fN 3 (bM_readText_0 v0 X0 g) d pr_m127 0 [some (sR v0)] [] g 0 0 := by
  intro g hg
  unfold bM_readText_0
  refine go_aload k127_0 rfl ?_
  refine go_getI (bI := 18) k127_1 hg hK0 (by decide) rfl rfl (fun r1 => ?_)
  refine go_ifeq k127_4 r1 (fun c2 => ?_) (fun c3 => ?_)
  · refine go_int k127_37 1 rfl ?_
    exact go_bret k127_38 hg (Or.inr rfl) ⟨Nat.zero_le _, Nat.zero_le _⟩ rfl
  · refine go_aload k127_7 rfl ?_
    refine go_callN3 k127_8 rfl rfl rfl ⟨by decide, _, rfl, hK0⟩ ⟨Nat.zero_le _, Nat.zero_le _⟩ (by omega) (tfM_readStatement (by omega) hg hK0 ) (fun y4 g6 r5 e7 => ?_)
    refine go_ifeq k127_11 (inR_b r5) (fun c8 => ?_) (fun c9 => ?_)
    · refine go_int k127_14 0 rfl ?_
      exact go_bret k127_15 e7 (Or.inl rfl) ⟨Nat.zero_le _, Nat.zero_le _⟩ rfl
    · refine go_aload k127_16 rfl ?_
      refine go_getI (bI := 18) k127_17 e7 hK0 (by decide) rfl rfl (fun r10 => ?_)
      refine go_int k127_20 3 rfl ?_
      refine go_cmeq k127_21 r10 (inR_of (by decide)) (fun c11 => ?_) (fun c12 => ?_)
      · refine go_aload k127_30 rfl ?_
        refine go_callN0 k127_31 rfl rfl rfl ⟨by decide, _, rfl, hK0⟩ ⟨Nat.zero_le _, Nat.zero_le _⟩ (by omega) (tfM_advanceToken (by omega) e7 hK0 ) (fun y13 g15 e16 => ?_)
        refine go_goto k127_34 ?_
        exact HX0 g15 e16
      · refine go_aload k127_24 rfl ?_
        refine go_int k127_25 1 rfl ?_
        refine go_callN3 k127_26 rfl rfl rfl ⟨by decide, _, rfl, hK0⟩ ⟨Nat.zero_le _, Nat.zero_le _⟩ (by omega) (tfM_failsAt (by omega) e7 hK0  (inR_b (Or.inr rfl))) (fun y17 g19 r18 e20 => ?_)
        exact go_bret k127_29 e20 r18 ⟨Nat.zero_le _, Nat.zero_le _⟩ rfl
theorem tlM_readText_0 {Φ : ev_P} {d : Nat} (hd : 5 ≤ d) {v0 : Int} (hK0 : kd v0 = 7) : ∀ n : Nat, ∀ (g : gH) (hg : HR g), Go Φ pr_P fN 3 (lM_readText_0 v0 n g) d pr_m127 0 [some (sR v0)] [] g 0 0 := by
  intro n
  induction n with
  | zero => intros; exact go_none
  | succ n ih => exact tbM_readText_0 hd hK0 ih
theorem tfM_readText {Φ : ev_P} {d : Nat} (hd : 5 ≤ d) {g : gH} (hg : HR g) {v0 : Int} (hK0 : kd v0 = 7) : Go Φ pr_P fN 3 (fM_readText g v0) d (pr_P 127) 0 (ev_loc (pr_P 127).1 [(sR v0)]) [] g 0 0 := by
  show Go Φ pr_P fN 3 (fM_readText g v0) d pr_m127 0 [some (sR v0)] [] g 0 0
  unfold fM_readText
  exact tlM_readText_0 hd hK0 fu g hg
theorem tfM_loadTree {Φ : ev_P} {d : Nat} (hd : 6 ≤ d) {g : gH} (hg : HR g) {v0 : Int} (hK0 : kd v0 = 7) : Go Φ pr_P fN 1 (fM_loadTree g v0) d (pr_P 128) 0 (ev_loc (pr_P 128).1 [(sR v0)]) [] g 0 0 := by
  show Go Φ pr_P fN 1 (fM_loadTree g v0) d pr_m128 0 [some (sR v0), none] [] g 0 0
  unfold fM_loadTree
  refine go_aload k128_0 rfl ?_
  refine go_int k128_1 0 rfl ?_
  refine go_putI (bI := 8) k128_2 hg hK0 (by decide) rfl rfl (inR_b (Or.inl rfl)) (fun g1 e2 => ?_)
  refine go_aload k128_5 rfl ?_
  refine go_getR (bI := 0) k128_6 e2 hK0 (by decide) rfl rfl (fun r3 => ?_)
  refine go_int k128_9 0 rfl ?_
  refine go_aload k128_10 rfl ?_
  refine go_getR (bI := 1) k128_11 e2 hK0 (by decide) rfl rfl (fun r4 => ?_)
  refine go_int k128_14 0 rfl ?_
  refine go_int k128_15 780 rfl ?_
  refine go_callN0 k128_18 rfl rfl rfl trivial ⟨Nat.zero_le _, Nat.zero_le _⟩ (by omega) (tfM_copies (by omega) e2  r3 (inR_b (Or.inl rfl)) r4 (inR_b (Or.inl rfl)) (inR_of (by decide))) (fun y5 g7 e8 => ?_)
  refine go_aload k128_21 rfl ?_
  refine go_callN0 k128_22 rfl rfl rfl ⟨by decide, _, rfl, hK0⟩ ⟨Nat.zero_le _, Nat.zero_le _⟩ (by omega) (tfM_clear (by omega) e8 hK0 ) (fun y9 g11 e12 => ?_)
  refine go_aload k128_25 rfl ?_
  refine go_int k128_26 0 rfl ?_
  refine go_putI (bI := 13) k128_27 e12 hK0 (by decide) rfl rfl (inR_b (Or.inl rfl)) (fun g13 e14 => ?_)
  refine go_aload k128_30 rfl ?_
  refine go_int k128_31 (-1) rfl ?_
  refine go_putI (bI := 14) k128_32 e14 hK0 (by decide) rfl rfl (inR_of (by decide)) (fun g15 e16 => ?_)
  refine go_aload k128_35 rfl ?_
  refine go_int k128_36 0 rfl ?_
  refine go_putI (bI := 15) k128_37 e16 hK0 (by decide) rfl rfl (inR_b (Or.inl rfl)) (fun g17 e18 => ?_)
  refine go_aload k128_40 rfl ?_
  refine go_int k128_41 0 rfl ?_
  refine go_putI (bI := 19) k128_42 e18 hK0 (by decide) rfl rfl (inR_b (Or.inl rfl)) (fun g19 e20 => ?_)
  refine go_aload k128_45 rfl ?_
  refine go_callN0 k128_46 rfl rfl rfl ⟨by decide, _, rfl, hK0⟩ ⟨Nat.zero_le _, Nat.zero_le _⟩ (by omega) (tfM_advanceToken (by omega) e20 hK0 ) (fun y21 g23 e24 => ?_)
  refine go_aload k128_49 rfl ?_
  refine go_callN3 k128_50 rfl rfl rfl ⟨by decide, _, rfl, hK0⟩ ⟨Nat.zero_le _, Nat.zero_le _⟩ (by omega) (tfM_readText (by omega) e24 hK0 ) (fun y25 g27 r26 e28 => ?_)
  refine go_istore k128_53 rfl (loc2 := [some (sR v0), some (sI y25)]) rfl ?_
  refine go_aload k128_54 rfl ?_
  refine go_int k128_55 0 rfl ?_
  refine go_putI (bI := 10) k128_56 e28 hK0 (by decide) rfl rfl (inR_b (Or.inl rfl)) (fun g29 e30 => ?_)
  refine go_aload k128_59 rfl ?_
  refine go_aload k128_60 rfl ?_
  refine go_getI (bI := 13) k128_61 e30 hK0 (by decide) rfl rfl (fun r31 => ?_)
  refine go_putI (bI := 11) k128_64 e30 hK0 (by decide) rfl rfl r31 (fun g32 e33 => ?_)
  refine go_aload k128_67 rfl ?_
  refine go_aload k128_68 rfl ?_
  refine go_getI (bI := 14) k128_69 e33 hK0 (by decide) rfl rfl (fun r34 => ?_)
  refine go_putI (bI := 12) k128_72 e33 hK0 (by decide) rfl rfl r34 (fun g35 e36 => ?_)
  refine go_iload k128_75 rfl ?_
  refine go_ifeq k128_76 (inR_b r26) (fun c37 => ?_) (fun c38 => ?_)
  · refine go_aload k128_79 rfl ?_
    refine go_getR (bI := 1) k128_80 e36 hK0 (by decide) rfl rfl (fun r39 => ?_)
    refine go_int k128_83 0 rfl ?_
    refine go_aload k128_84 rfl ?_
    refine go_getR (bI := 0) k128_85 e36 hK0 (by decide) rfl rfl (fun r40 => ?_)
    refine go_int k128_88 0 rfl ?_
    refine go_int k128_89 780 rfl ?_
    refine go_callN0 k128_92 rfl rfl rfl trivial ⟨Nat.zero_le _, Nat.zero_le _⟩ (by omega) (tfM_copies (by omega) e36  r39 (inR_b (Or.inl rfl)) r40 (inR_b (Or.inl rfl)) (inR_of (by decide))) (fun y41 g43 e44 => ?_)
    refine go_int k128_95 (-1) rfl ?_
    exact go_iret k128_96 e44 (inR_of (by decide)) ⟨Nat.zero_le _, Nat.zero_le _⟩ rfl
  · refine go_aload k128_97 rfl ?_
    refine go_int k128_98 0 rfl ?_
    refine go_putI (bI := 6) k128_99 e36 hK0 (by decide) rfl rfl (inR_b (Or.inl rfl)) (fun g45 e46 => ?_)
    refine go_aload k128_102 rfl ?_
    refine go_int k128_103 0 rfl ?_
    refine go_putB (bI := 7) k128_104 e46 hK0 (by decide) rfl rfl (Or.inl rfl) (fun g47 e48 => ?_)
    refine go_aload k128_107 rfl ?_
    refine go_getR (bI := 0) k128_108 e48 hK0 (by decide) rfl rfl (fun r49 => ?_)
    refine go_int k128_111 0 rfl ?_
    refine go_ck (fun q51 => ?_)
    refine go_iald k128_112 e48 q51 (fun r50 => ?_)
    exact go_iret k128_113 e48 r50 ⟨Nat.zero_le _, Nat.zero_le _⟩ rfl
theorem tfM_errorCode {Φ : ev_P} {d : Nat} (hd : 0 ≤ d) {g : gH} (hg : HR g) {v0 : Int} (hK0 : kd v0 = 7) : Go Φ pr_P fN 1 (fM_errorCode g v0) d (pr_P 129) 0 (ev_loc (pr_P 129).1 [(sR v0)]) [] g 0 0 := by
  show Go Φ pr_P fN 1 (fM_errorCode g v0) d pr_m129 0 [some (sR v0)] [] g 0 0
  unfold fM_errorCode
  refine go_aload k129_0 rfl ?_
  refine go_int k129_1 0 rfl ?_
  refine go_putI (bI := 8) k129_2 hg hK0 (by decide) rfl rfl (inR_b (Or.inl rfl)) (fun g1 e2 => ?_)
  refine go_aload k129_5 rfl ?_
  refine go_getI (bI := 11) k129_6 e2 hK0 (by decide) rfl rfl (fun r3 => ?_)
  exact go_iret k129_9 e2 r3 ⟨Nat.zero_le _, Nat.zero_le _⟩ rfl
theorem tfM_errorOffset {Φ : ev_P} {d : Nat} (hd : 0 ≤ d) {g : gH} (hg : HR g) {v0 : Int} (hK0 : kd v0 = 7) : Go Φ pr_P fN 1 (fM_errorOffset g v0) d (pr_P 130) 0 (ev_loc (pr_P 130).1 [(sR v0)]) [] g 0 0 := by
  show Go Φ pr_P fN 1 (fM_errorOffset g v0) d pr_m130 0 [some (sR v0)] [] g 0 0
  unfold fM_errorOffset
  refine go_aload k130_0 rfl ?_
  refine go_int k130_1 0 rfl ?_
  refine go_putI (bI := 8) k130_2 hg hK0 (by decide) rfl rfl (inR_b (Or.inl rfl)) (fun g1 e2 => ?_)
  refine go_aload k130_5 rfl ?_
  refine go_getI (bI := 12) k130_6 e2 hK0 (by decide) rfl rfl (fun r3 => ?_)
  exact go_iret k130_9 e2 r3 ⟨Nat.zero_le _, Nat.zero_le _⟩ rfl
theorem tfM_fails {Φ : ev_P} {d : Nat} (hd : 0 ≤ d) {g : gH} (hg : HR g) {v0 v1 v2 : Int} (hK0 : kd v0 = 7) (h1 : B01 v1) (h2 : InR v2) : Go Φ pr_P fN 3 (fM_fails g v0 v1 v2) d (pr_P 76) 0 (ev_loc (pr_P 76).1 [(sR v0), (sI v1), (sI v2)]) [] g 0 0 := by
  show Go Φ pr_P fN 3 (fM_fails g v0 v1 v2) d pr_m76 0 [some (sR v0), some (sI v1), some (sI v2)] [] g 0 0
  unfold fM_fails
  refine go_iload k76_0 rfl ?_
  refine go_ifeq k76_1 (inR_b h1) (fun c1 => ?_) (fun c2 => ?_)
  · refine go_iload k76_9 rfl ?_
    exact go_bret k76_10 hg h1 ⟨Nat.zero_le _, Nat.zero_le _⟩ rfl
  · refine go_aload k76_4 rfl ?_
    refine go_iload k76_5 rfl ?_
    refine go_putI (bI := 8) k76_6 hg hK0 (by decide) rfl rfl h2 (fun g3 e4 => ?_)
    refine go_iload k76_9 rfl ?_
    exact go_bret k76_10 e4 h1 ⟨Nat.zero_le _, Nat.zero_le _⟩ rfl
theorem tbM_inState_4 {Φ : ev_P} {d : Nat} (hd : 0 ≤ d) {g : gH} (hg : HR g) {v0 v1 : Int} (hK0 : kd v0 = 7) (h1 : InR v1) {X4 : Int → Int → Option Int} (HX4 : ∀ (v2 : Int) (h2 : InR v2) (v3 : Int) (h3 : InR v3), Go Φ pr_P (fP g) 1 (X4 v2 v3) d pr_m131 4 [some (sR v0), some (sI v1), some (sI v2), some (sI v3)] [] g 0 0) : ∀ (v2 : Int) (h2 : InR v2) (v3 : Int) (h3 : InR v3), Go Φ pr_P (fP g) 1 (bM_inState_4 g v0 v1 X4 v2 v3) d pr_m131 4 [some (sR v0), some (sI v1), some (sI v2), some (sI v3)] [] g 0 0 := by
  intro v2 h2 v3 h3
  unfold bM_inState_4
  refine go_iload k131_4 rfl ?_
  refine go_aload k131_5 rfl ?_
  refine go_getR (bI := 0) k131_6 hg hK0 (by decide) rfl rfl (fun r1 => ?_)
  refine go_int k131_9 0 rfl ?_
  refine go_ck (fun q3 => ?_)
  refine go_iald k131_10 hg q3 (fun r2 => ?_)
  refine go_cmlt k131_11 h3 r2 (fun c4 => ?_) (fun c5 => ?_)
  · refine go_iload k131_14 rfl ?_
    refine go_aload k131_15 rfl ?_
    refine go_getR (bI := 0) k131_16 hg hK0 (by decide) rfl rfl (fun r6 => ?_)
    refine go_int k131_19 140 rfl ?_
    refine go_iload k131_22 rfl ?_
    refine go_iadd k131_23 ?_
    refine go_ck (fun q8 => ?_)
    refine go_iald k131_24 hg q8 (fun r7 => ?_)
    refine go_iload k131_25 rfl ?_
    refine go_cmeq k131_26 r7 h1 (fun c9 => ?_) (fun c10 => ?_)
    · refine go_int k131_29 1 rfl ?_
      refine go_goto k131_30 ?_
      refine go_iadd k131_34 ?_
      refine go_istore k131_35 rfl (loc2 := [some (sR v0), some (sI v1), some (sI (w32 (v2 + 1))), some (sI v3)]) rfl ?_
      refine go_iinc k131_36 rfl rfl 1 rfl (loc2 := [some (sR v0), some (sI v1), some (sI (w32 (v2 + 1))), some (sI (w32 (v3 + 1)))]) rfl ?_
      refine go_goto k131_39 ?_
      exact HX4 (w32 (v2 + 1)) (inR_w32 _) (w32 (v3 + 1)) (inR_w32 _)
    · refine go_int k131_33 0 rfl ?_
      refine go_iadd k131_34 ?_
      refine go_istore k131_35 rfl (loc2 := [some (sR v0), some (sI v1), some (sI (w32 (v2 + 0))), some (sI v3)]) rfl ?_
      refine go_iinc k131_36 rfl rfl 1 rfl (loc2 := [some (sR v0), some (sI v1), some (sI (w32 (v2 + 0))), some (sI (w32 (v3 + 1)))]) rfl ?_
      refine go_goto k131_39 ?_
      exact HX4 (w32 (v2 + 0)) (inR_w32 _) (w32 (v3 + 1)) (inR_w32 _)
  · refine go_iload k131_42 rfl ?_
    exact go_iret k131_43 hg h2 ⟨Nat.zero_le _, Nat.zero_le _⟩ rfl
theorem tlM_inState_4 {Φ : ev_P} {d : Nat} (hd : 0 ≤ d) {g : gH} (hg : HR g) {v0 v1 : Int} (hK0 : kd v0 = 7) (h1 : InR v1) : ∀ n : Nat, ∀ (v2 : Int) (h2 : InR v2) (v3 : Int) (h3 : InR v3), Go Φ pr_P (fP g) 1 (lM_inState_4 g v0 v1 n v2 v3) d pr_m131 4 [some (sR v0), some (sI v1), some (sI v2), some (sI v3)] [] g 0 0 := by
  intro n
  induction n with
  | zero => intros; exact go_none
  | succ n ih => exact tbM_inState_4 hd hg hK0 h1 ih
theorem tfM_inState {Φ : ev_P} {d : Nat} (hd : 0 ≤ d) {g : gH} (hg : HR g) {v0 v1 : Int} (hK0 : kd v0 = 7) (h1 : InR v1) : Go Φ pr_P (fP g) 1 (fM_inState g v0 v1) d (pr_P 131) 0 (ev_loc (pr_P 131).1 [(sR v0), (sI v1)]) [] g 0 0 := by
  show Go Φ pr_P (fP g) 1 (fM_inState g v0 v1) d pr_m131 0 [some (sR v0), some (sI v1), none, none] [] g 0 0
  unfold fM_inState
  refine go_int k131_0 0 rfl ?_
  refine go_istore k131_1 rfl (loc2 := [some (sR v0), some (sI v1), some (sI 0), none]) rfl ?_
  refine go_int k131_2 0 rfl ?_
  refine go_istore k131_3 rfl (loc2 := [some (sR v0), some (sI v1), some (sI 0), some (sI 0)]) rfl ?_
  exact tlM_inState_4 hd hg hK0 h1 fu 0 (inR_b (Or.inl rfl)) 0 (inR_b (Or.inl rfl))
theorem tbM_dutiesOf_4 {Φ : ev_P} {d : Nat} (hd : 0 ≤ d) {g : gH} (hg : HR g) {v0 v1 : Int} (hK0 : kd v0 = 7) (h1 : InR v1) {X4 : Int → Int → Option Int} (HX4 : ∀ (v2 : Int) (h2 : InR v2) (v3 : Int) (h3 : InR v3), Go Φ pr_P (fP g) 1 (X4 v2 v3) d pr_m132 4 [some (sR v0), some (sI v1), some (sI v2), some (sI v3)] [] g 0 0) : ∀ (v2 : Int) (h2 : InR v2) (v3 : Int) (h3 : InR v3), Go Φ pr_P (fP g) 1 (bM_dutiesOf_4 g v0 v1 X4 v2 v3) d pr_m132 4 [some (sR v0), some (sI v1), some (sI v2), some (sI v3)] [] g 0 0 := by
  intro v2 h2 v3 h3
  unfold bM_dutiesOf_4
  refine go_iload k132_4 rfl ?_
  refine go_int k132_5 8 rfl ?_
  refine go_cmlt k132_7 h3 (inR_of (by decide)) (fun c1 => ?_) (fun c2 => ?_)
  · refine go_iload k132_10 rfl ?_
    refine go_aload k132_11 rfl ?_
    refine go_getR (bI := 0) k132_12 hg hK0 (by decide) rfl rfl (fun r3 => ?_)
    refine go_int k132_15 11 rfl ?_
    refine go_iload k132_17 rfl ?_
    refine go_iadd k132_18 ?_
    refine go_ck (fun q5 => ?_)
    refine go_iald k132_19 hg q5 (fun r4 => ?_)
    refine go_iload k132_20 rfl ?_
    refine go_cmeq k132_21 r4 h1 (fun c6 => ?_) (fun c7 => ?_)
    · refine go_int k132_24 1 rfl ?_
      refine go_iload k132_25 rfl ?_
      refine go_ibin k132_26 ?_
      refine go_goto k132_27 ?_
      refine go_ibin k132_31 ?_
      refine go_istore k132_32 rfl (loc2 := [some (sR v0), some (sI v1), some (sI (opI 2 v2 (opI 4 1 v3))), some (sI v3)]) rfl ?_
      refine go_iinc k132_33 rfl rfl 1 rfl (loc2 := [some (sR v0), some (sI v1), some (sI (opI 2 v2 (opI 4 1 v3))), some (sI (w32 (v3 + 1)))]) rfl ?_
      refine go_goto k132_36 ?_
      exact HX4 (opI 2 v2 (opI 4 1 v3)) (inR_opI _ _ _) (w32 (v3 + 1)) (inR_w32 _)
    · refine go_int k132_30 0 rfl ?_
      refine go_ibin k132_31 ?_
      refine go_istore k132_32 rfl (loc2 := [some (sR v0), some (sI v1), some (sI (opI 2 v2 0)), some (sI v3)]) rfl ?_
      refine go_iinc k132_33 rfl rfl 1 rfl (loc2 := [some (sR v0), some (sI v1), some (sI (opI 2 v2 0)), some (sI (w32 (v3 + 1)))]) rfl ?_
      refine go_goto k132_36 ?_
      exact HX4 (opI 2 v2 0) (inR_opI _ _ _) (w32 (v3 + 1)) (inR_w32 _)
  · refine go_iload k132_39 rfl ?_
    exact go_iret k132_40 hg h2 ⟨Nat.zero_le _, Nat.zero_le _⟩ rfl
theorem tlM_dutiesOf_4 {Φ : ev_P} {d : Nat} (hd : 0 ≤ d) {g : gH} (hg : HR g) {v0 v1 : Int} (hK0 : kd v0 = 7) (h1 : InR v1) : ∀ n : Nat, ∀ (v2 : Int) (h2 : InR v2) (v3 : Int) (h3 : InR v3), Go Φ pr_P (fP g) 1 (lM_dutiesOf_4 g v0 v1 n v2 v3) d pr_m132 4 [some (sR v0), some (sI v1), some (sI v2), some (sI v3)] [] g 0 0 := by
  intro n
  induction n with
  | zero => intros; exact go_none
  | succ n ih => exact tbM_dutiesOf_4 hd hg hK0 h1 ih
theorem tfM_dutiesOf {Φ : ev_P} {d : Nat} (hd : 0 ≤ d) {g : gH} (hg : HR g) {v0 v1 : Int} (hK0 : kd v0 = 7) (h1 : InR v1) : Go Φ pr_P (fP g) 1 (fM_dutiesOf g v0 v1) d (pr_P 132) 0 (ev_loc (pr_P 132).1 [(sR v0), (sI v1)]) [] g 0 0 := by
  show Go Φ pr_P (fP g) 1 (fM_dutiesOf g v0 v1) d pr_m132 0 [some (sR v0), some (sI v1), none, none] [] g 0 0
  unfold fM_dutiesOf
  refine go_int k132_0 0 rfl ?_
  refine go_istore k132_1 rfl (loc2 := [some (sR v0), some (sI v1), some (sI 0), none]) rfl ?_
  refine go_int k132_2 0 rfl ?_
  refine go_istore k132_3 rfl (loc2 := [some (sR v0), some (sI v1), some (sI 0), some (sI 0)]) rfl ?_
  exact tlM_dutiesOf_4 hd hg hK0 h1 fu 0 (inR_b (Or.inl rfl)) 0 (inR_b (Or.inl rfl))
theorem tfJ_bitCount {Φ : ev_P} {d : Nat} (hd : 0 ≤ d) {g : gH} (hg : HR g) {v0 : Int} (h0 : InR v0) : Go Φ pr_P (fP g) 1 (fJ_bitCount g v0) d (pr_P 353) 0 (ev_loc (pr_P 353).1 [(sI v0)]) [] g 0 0 := by
  show Go Φ pr_P (fP g) 1 (fJ_bitCount g v0) d pr_m353 0 [some (sI v0)] [] g 0 0
  unfold fJ_bitCount
  refine go_iload k353_0 rfl ?_
  refine go_iload k353_1 rfl ?_
  refine go_int k353_2 1 rfl ?_
  refine go_ibin k353_3 ?_
  refine go_int k353_4 1431655765 rfl ?_
  refine go_ibin k353_7 ?_
  refine go_isub k353_8 ?_
  refine go_istore k353_9 rfl (loc2 := [some (sI (w32 (v0 - (opI 1 (opI 6 v0 1) 1431655765))))]) rfl ?_
  refine go_iload k353_10 rfl ?_
  refine go_int k353_11 858993459 rfl ?_
  refine go_ibin k353_14 ?_
  refine go_iload k353_15 rfl ?_
  refine go_int k353_16 2 rfl ?_
  refine go_ibin k353_17 ?_
  refine go_int k353_18 858993459 rfl ?_
  refine go_ibin k353_21 ?_
  refine go_iadd k353_22 ?_
  refine go_istore k353_23 rfl (loc2 := [some (sI (w32 ((opI 1 (w32 (v0 - (opI 1 (opI 6 v0 1) 1431655765))) 858993459) + (opI 1 (opI 6 (w32 (v0 - (opI 1 (opI 6 v0 1) 1431655765))) 2) 858993459))))]) rfl ?_
  refine go_iload k353_24 rfl ?_
  refine go_iload k353_25 rfl ?_
  refine go_int k353_26 4 rfl ?_
  refine go_ibin k353_27 ?_
  refine go_iadd k353_28 ?_
  refine go_int k353_29 252645135 rfl ?_
  refine go_ibin k353_32 ?_
  refine go_istore k353_33 rfl (loc2 := [some (sI (opI 1 (w32 ((w32 ((opI 1 (w32 (v0 - (opI 1 (opI 6 v0 1) 1431655765))) 858993459) + (opI 1 (opI 6 (w32 (v0 - (opI 1 (opI 6 v0 1) 1431655765))) 2) 858993459))) + (opI 6 (w32 ((opI 1 (w32 (v0 - (opI 1 (opI 6 v0 1) 1431655765))) 858993459) + (opI 1 (opI 6 (w32 (v0 - (opI 1 (opI 6 v0 1) 1431655765))) 2) 858993459))) 4))) 252645135))]) rfl ?_
  refine go_iload k353_34 rfl ?_
  refine go_iload k353_35 rfl ?_
  refine go_int k353_36 8 rfl ?_
  refine go_ibin k353_38 ?_
  refine go_iadd k353_39 ?_
  refine go_istore k353_40 rfl (loc2 := [some (sI (w32 ((opI 1 (w32 ((w32 ((opI 1 (w32 (v0 - (opI 1 (opI 6 v0 1) 1431655765))) 858993459) + (opI 1 (opI 6 (w32 (v0 - (opI 1 (opI 6 v0 1) 1431655765))) 2) 858993459))) + (opI 6 (w32 ((opI 1 (w32 (v0 - (opI 1 (opI 6 v0 1) 1431655765))) 858993459) + (opI 1 (opI 6 (w32 (v0 - (opI 1 (opI 6 v0 1) 1431655765))) 2) 858993459))) 4))) 252645135) + (opI 6 (opI 1 (w32 ((w32 ((opI 1 (w32 (v0 - (opI 1 (opI 6 v0 1) 1431655765))) 858993459) + (opI 1 (opI 6 (w32 (v0 - (opI 1 (opI 6 v0 1) 1431655765))) 2) 858993459))) + (opI 6 (w32 ((opI 1 (w32 (v0 - (opI 1 (opI 6 v0 1) 1431655765))) 858993459) + (opI 1 (opI 6 (w32 (v0 - (opI 1 (opI 6 v0 1) 1431655765))) 2) 858993459))) 4))) 252645135) 8))))]) rfl ?_
  refine go_iload k353_41 rfl ?_
  refine go_iload k353_42 rfl ?_
  refine go_int k353_43 16 rfl ?_
  refine go_ibin k353_45 ?_
  refine go_iadd k353_46 ?_
  refine go_istore k353_47 rfl (loc2 := [some (sI (w32 ((w32 ((opI 1 (w32 ((w32 ((opI 1 (w32 (v0 - (opI 1 (opI 6 v0 1) 1431655765))) 858993459) + (opI 1 (opI 6 (w32 (v0 - (opI 1 (opI 6 v0 1) 1431655765))) 2) 858993459))) + (opI 6 (w32 ((opI 1 (w32 (v0 - (opI 1 (opI 6 v0 1) 1431655765))) 858993459) + (opI 1 (opI 6 (w32 (v0 - (opI 1 (opI 6 v0 1) 1431655765))) 2) 858993459))) 4))) 252645135) + (opI 6 (opI 1 (w32 ((w32 ((opI 1 (w32 (v0 - (opI 1 (opI 6 v0 1) 1431655765))) 858993459) + (opI 1 (opI 6 (w32 (v0 - (opI 1 (opI 6 v0 1) 1431655765))) 2) 858993459))) + (opI 6 (w32 ((opI 1 (w32 (v0 - (opI 1 (opI 6 v0 1) 1431655765))) 858993459) + (opI 1 (opI 6 (w32 (v0 - (opI 1 (opI 6 v0 1) 1431655765))) 2) 858993459))) 4))) 252645135) 8))) + (opI 6 (w32 ((opI 1 (w32 ((w32 ((opI 1 (w32 (v0 - (opI 1 (opI 6 v0 1) 1431655765))) 858993459) + (opI 1 (opI 6 (w32 (v0 - (opI 1 (opI 6 v0 1) 1431655765))) 2) 858993459))) + (opI 6 (w32 ((opI 1 (w32 (v0 - (opI 1 (opI 6 v0 1) 1431655765))) 858993459) + (opI 1 (opI 6 (w32 (v0 - (opI 1 (opI 6 v0 1) 1431655765))) 2) 858993459))) 4))) 252645135) + (opI 6 (opI 1 (w32 ((w32 ((opI 1 (w32 (v0 - (opI 1 (opI 6 v0 1) 1431655765))) 858993459) + (opI 1 (opI 6 (w32 (v0 - (opI 1 (opI 6 v0 1) 1431655765))) 2) 858993459))) + (opI 6 (w32 ((opI 1 (w32 (v0 - (opI 1 (opI 6 v0 1) 1431655765))) 858993459) + (opI 1 (opI 6 (w32 (v0 - (opI 1 (opI 6 v0 1) 1431655765))) 2) 858993459))) 4))) 252645135) 8))) 16))))]) rfl ?_
  refine go_iload k353_48 rfl ?_
  refine go_int k353_49 63 rfl ?_
  refine go_ibin k353_51 ?_
  exact go_iret k353_52 hg (inR_opI _ _ _) ⟨Nat.zero_le _, Nat.zero_le _⟩ rfl
theorem tjM_count_21 {Φ : ev_P} {d : Nat} (hd : 1 ≤ d) {g : gH} (hg : HR g) {v0 v1 : Int} (hK0 : kd v0 = 7) (h1 : InR v1) {s0 s1 : Int} (z0 : RfR s0) (z1 : B01 s1) : Go Φ pr_P fN 1 (jM_count_21 g v0 v1 s0 s1 ) d pr_m134 21 [some (sR v0), some (sI v1)] [(sI s1), (sR s0)] g 0 0 := by
  unfold jM_count_21
  refine go_int k134_21 1 rfl ?_
  refine go_ck (fun q9 => ?_)
  refine go_callN3 k134_22 rfl rfl rfl ⟨by decide, _, rfl, q9⟩ ⟨Nat.zero_le _, Nat.zero_le _⟩ (by omega) (tfM_fails (by omega) hg q9  z1 (inR_b (Or.inr rfl))) (fun y10 g12 r11 e13 => ?_)
  refine go_ifeq k134_25 (inR_b r11) (fun c14 => ?_) (fun c15 => ?_)
  · refine go_iload k134_30 rfl ?_
    refine go_ite (fun c16 => ?_) (fun c17 => ?_)
    · refine go_swh (lo := 0) (hi := 10) (i := 0) k134_31 rfl rfl (by omega) (by omega) rfl ?_
      refine go_aload k134_88 rfl ?_
      refine go_getR (bI := 0) k134_89 e13 hK0 (by decide) rfl rfl (fun r18 => ?_)
      refine go_int k134_92 0 rfl ?_
      refine go_ck (fun q20 => ?_)
      refine go_iald k134_93 e13 q20 (fun r19 => ?_)
      exact go_iret k134_94 e13 r19 ⟨Nat.zero_le _, Nat.zero_le _⟩ rfl
    refine go_ite (fun c21 => ?_) (fun c22 => ?_)
    · refine go_swh (lo := 0) (hi := 10) (i := 1) k134_31 rfl rfl (by omega) (by omega) rfl ?_
      refine go_aload k134_95 rfl ?_
      refine go_iload k134_96 rfl ?_
      refine go_int k134_97 1 rfl ?_
      refine go_isub k134_98 ?_
      refine go_callP1 k134_99 rfl rfl rfl ⟨by decide, _, rfl, hK0⟩ ⟨Nat.zero_le _, Nat.zero_le _⟩ (by omega) (tfM_inState (by omega) e13 hK0  (inR_w32 _)) (fun y23 r24 => ?_)
      exact go_iret k134_102 e13 r24 ⟨Nat.zero_le _, Nat.zero_le _⟩ rfl
    refine go_ite (fun c27 => ?_) (fun c28 => ?_)
    · refine go_swh (lo := 0) (hi := 10) (i := 2) k134_31 rfl rfl (by omega) (by omega) rfl ?_
      refine go_aload k134_95 rfl ?_
      refine go_iload k134_96 rfl ?_
      refine go_int k134_97 1 rfl ?_
      refine go_isub k134_98 ?_
      refine go_callP1 k134_99 rfl rfl rfl ⟨by decide, _, rfl, hK0⟩ ⟨Nat.zero_le _, Nat.zero_le _⟩ (by omega) (tfM_inState (by omega) e13 hK0  (inR_w32 _)) (fun y29 r30 => ?_)
      exact go_iret k134_102 e13 r30 ⟨Nat.zero_le _, Nat.zero_le _⟩ rfl
    refine go_ite (fun c33 => ?_) (fun c34 => ?_)
    · refine go_swh (lo := 0) (hi := 10) (i := 3) k134_31 rfl rfl (by omega) (by omega) rfl ?_
      refine go_aload k134_95 rfl ?_
      refine go_iload k134_96 rfl ?_
      refine go_int k134_97 1 rfl ?_
      refine go_isub k134_98 ?_
      refine go_callP1 k134_99 rfl rfl rfl ⟨by decide, _, rfl, hK0⟩ ⟨Nat.zero_le _, Nat.zero_le _⟩ (by omega) (tfM_inState (by omega) e13 hK0  (inR_w32 _)) (fun y35 r36 => ?_)
      exact go_iret k134_102 e13 r36 ⟨Nat.zero_le _, Nat.zero_le _⟩ rfl
    refine go_ite (fun c39 => ?_) (fun c40 => ?_)
    · refine go_swh (lo := 0) (hi := 10) (i := 4) k134_31 rfl rfl (by omega) (by omega) rfl ?_
      refine go_aload k134_125 rfl ?_
      refine go_getR (bI := 0) k134_126 e13 hK0 (by decide) rfl rfl (fun r41 => ?_)
      refine go_int k134_129 1 rfl ?_
      refine go_iload k134_130 rfl ?_
      refine go_iadd k134_131 ?_
      refine go_int k134_132 4 rfl ?_
      refine go_isub k134_133 ?_
      refine go_ck (fun q43 => ?_)
      refine go_iald k134_134 e13 q43 (fun r42 => ?_)
      exact go_iret k134_135 e13 r42 ⟨Nat.zero_le _, Nat.zero_le _⟩ rfl
    refine go_ite (fun c44 => ?_) (fun c45 => ?_)
    · refine go_swh (lo := 0) (hi := 10) (i := 5) k134_31 rfl rfl (by omega) (by omega) rfl ?_
      refine go_aload k134_125 rfl ?_
      refine go_getR (bI := 0) k134_126 e13 hK0 (by decide) rfl rfl (fun r46 => ?_)
      refine go_int k134_129 1 rfl ?_
      refine go_iload k134_130 rfl ?_
      refine go_iadd k134_131 ?_
      refine go_int k134_132 4 rfl ?_
      refine go_isub k134_133 ?_
      refine go_ck (fun q48 => ?_)
      refine go_iald k134_134 e13 q48 (fun r47 => ?_)
      exact go_iret k134_135 e13 r47 ⟨Nat.zero_le _, Nat.zero_le _⟩ rfl
    refine go_ite (fun c49 => ?_) (fun c50 => ?_)
    · refine go_swh (lo := 0) (hi := 10) (i := 6) k134_31 rfl rfl (by omega) (by omega) rfl ?_
      refine go_aload k134_125 rfl ?_
      refine go_getR (bI := 0) k134_126 e13 hK0 (by decide) rfl rfl (fun r51 => ?_)
      refine go_int k134_129 1 rfl ?_
      refine go_iload k134_130 rfl ?_
      refine go_iadd k134_131 ?_
      refine go_int k134_132 4 rfl ?_
      refine go_isub k134_133 ?_
      refine go_ck (fun q53 => ?_)
      refine go_iald k134_134 e13 q53 (fun r52 => ?_)
      exact go_iret k134_135 e13 r52 ⟨Nat.zero_le _, Nat.zero_le _⟩ rfl
    refine go_ite (fun c54 => ?_) (fun c55 => ?_)
    · refine go_swh (lo := 0) (hi := 10) (i := 7) k134_31 rfl rfl (by omega) (by omega) rfl ?_
      refine go_aload k134_125 rfl ?_
      refine go_getR (bI := 0) k134_126 e13 hK0 (by decide) rfl rfl (fun r56 => ?_)
      refine go_int k134_129 1 rfl ?_
      refine go_iload k134_130 rfl ?_
      refine go_iadd k134_131 ?_
      refine go_int k134_132 4 rfl ?_
      refine go_isub k134_133 ?_
      refine go_ck (fun q58 => ?_)
      refine go_iald k134_134 e13 q58 (fun r57 => ?_)
      exact go_iret k134_135 e13 r57 ⟨Nat.zero_le _, Nat.zero_le _⟩ rfl
    refine go_ite (fun c59 => ?_) (fun c60 => ?_)
    · refine go_swh (lo := 0) (hi := 10) (i := 8) k134_31 rfl rfl (by omega) (by omega) rfl ?_
      refine go_aload k134_103 rfl ?_
      refine go_int k134_104 0 rfl ?_
      refine go_callP1 k134_105 rfl rfl rfl ⟨by decide, _, rfl, hK0⟩ ⟨Nat.zero_le _, Nat.zero_le _⟩ (by omega) (tfM_dutiesOf (by omega) e13 hK0  (inR_b (Or.inl rfl))) (fun y61 r62 => ?_)
      refine go_callP1 k134_108 rfl rfl rfl trivial ⟨Nat.zero_le _, Nat.zero_le _⟩ (by omega) (tfJ_bitCount (by omega) e13  r62) (fun y65 r66 => ?_)
      exact go_iret k134_111 e13 r66 ⟨Nat.zero_le _, Nat.zero_le _⟩ rfl
    refine go_ite (fun c69 => ?_) (fun c70 => ?_)
    · refine go_swh (lo := 0) (hi := 10) (i := 9) k134_31 rfl rfl (by omega) (by omega) rfl ?_
      refine go_aload k134_112 rfl ?_
      refine go_getI (bI := 6) k134_113 e13 hK0 (by decide) rfl rfl (fun r71 => ?_)
      exact go_iret k134_116 e13 r71 ⟨Nat.zero_le _, Nat.zero_le _⟩ rfl
    refine go_ite (fun c72 => ?_) (fun c73 => ?_)
    · refine go_swh (lo := 0) (hi := 10) (i := 10) k134_31 rfl rfl (by omega) (by omega) rfl ?_
      refine go_aload k134_117 rfl ?_
      refine go_getR (bI := 0) k134_118 e13 hK0 (by decide) rfl rfl (fun r74 => ?_)
      refine go_int k134_121 59 rfl ?_
      refine go_ck (fun q76 => ?_)
      refine go_iald k134_123 e13 q76 (fun r75 => ?_)
      exact go_iret k134_124 e13 r75 ⟨Nat.zero_le _, Nat.zero_le _⟩ rfl
    refine go_swd (lo := 0) (hi := 10) k134_31 rfl rfl h1 (by omega) (by omega) ?_
    refine go_aload k134_125 rfl ?_
    refine go_getR (bI := 0) k134_126 e13 hK0 (by decide) rfl rfl (fun r77 => ?_)
    refine go_int k134_129 1 rfl ?_
    refine go_iload k134_130 rfl ?_
    refine go_iadd k134_131 ?_
    refine go_int k134_132 4 rfl ?_
    refine go_isub k134_133 ?_
    refine go_ck (fun q79 => ?_)
    refine go_iald k134_134 e13 q79 (fun r78 => ?_)
    exact go_iret k134_135 e13 r78 ⟨Nat.zero_le _, Nat.zero_le _⟩ rfl
  · refine go_int k134_28 0 rfl ?_
    exact go_iret k134_29 e13 (inR_b (Or.inl rfl)) ⟨Nat.zero_le _, Nat.zero_le _⟩ rfl
theorem tfM_count {Φ : ev_P} {d : Nat} (hd : 1 ≤ d) {g : gH} (hg : HR g) {v0 v1 : Int} (hK0 : kd v0 = 7) (h1 : InR v1) : Go Φ pr_P fN 1 (fM_count g v0 v1) d (pr_P 134) 0 (ev_loc (pr_P 134).1 [(sR v0), (sI v1)]) [] g 0 0 := by
  show Go Φ pr_P fN 1 (fM_count g v0 v1) d pr_m134 0 [some (sR v0), some (sI v1)] [] g 0 0
  unfold fM_count
  refine go_aload k134_0 rfl ?_
  refine go_int k134_1 0 rfl ?_
  refine go_putI (bI := 8) k134_2 hg hK0 (by decide) rfl rfl (inR_b (Or.inl rfl)) (fun g1 e2 => ?_)
  refine go_aload k134_5 rfl ?_
  refine go_iload k134_6 rfl ?_
  refine go_int k134_7 0 rfl ?_
  refine go_int k134_8 10 rfl ?_
  refine go_callP3 k134_10 rfl rfl rfl trivial ⟨Nat.zero_le _, Nat.zero_le _⟩ (by omega) (tfM_inRange (by omega) e2  h1 (inR_b (Or.inl rfl)) (inR_of (by decide))) (fun y3 r4 => ?_)
  refine go_ifeq k134_13 (inR_b r4) (fun c7 => ?_) (fun c8 => ?_)
  · refine go_int k134_16 1 rfl ?_
    refine go_goto k134_17 ?_
    exact tjM_count_21 hd e2 hK0 h1 (rfR_kd hK0 (by decide)) (Or.inr rfl)
  · refine go_int k134_20 0 rfl ?_
    exact tjM_count_21 hd e2 hK0 h1 (rfR_kd hK0 (by decide)) (Or.inl rfl)
