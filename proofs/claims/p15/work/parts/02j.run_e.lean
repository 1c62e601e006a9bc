/-! ===== the evaluator comes to what the functions tell (own work, by program: wip/p2/dec.py) ===== -/
theorem tjM_notExiting_26 {Φ : ev_P} {d : Nat} (hd : 2 ≤ d) {g : gH} (hg : HR g) {v2 : Int} (h2 : InR v2) {s0 s1 : Int} (z0 : RfR s0) (z1 : B01 s1) (u0 : Option ev_V) (w0 : nwo u0) (u1 : Option ev_V) (w1 : nwo u1) : Go Φ pr_P fN 3 (jM_notExiting_26 g v2 s0 s1 ) d pr_m137 26 [u0, u1, some (sI v2)] [(sI s1), (sR s0)] g 0 0 := by
  unfold jM_notExiting_26
  refine go_iload kk137_0.2.1.2.1 rfl ?_
  refine go_ck (fun q15 => ?_)
  refine go_callN3 kk137_0.2.1.2.2 rfl rfl rfl ⟨by decide, _, rfl, q15⟩ ⟨Nat.zero_le _, Nat.zero_le _⟩ (by omega) (tfM_fails (by omega) hg q15  z1 h2) (fun y16 g18 r17 e19 => ?_)
  refine go_ifeq kk137_0.2.2.1.1.1 (inR_b r17) (fun c20 => ?_) (fun c21 => ?_)
  · refine go_int kk137_0.2.2.2.1 0 rfl ?_
    exact go_bret kk137_0.2.2.2.2 e19 (Or.inl rfl) ⟨Nat.zero_le _, Nat.zero_le _⟩ rfl
  · refine go_int kk137_0.2.2.1.1.2 1 rfl ?_
    refine go_goto kk137_0.2.2.1.2 ?_
    exact go_bret kk137_0.2.2.2.2 e19 (Or.inr rfl) ⟨Nat.zero_le _, Nat.zero_le _⟩ rfl
theorem tjM_notExiting_21 {Φ : ev_P} {d : Nat} (hd : 2 ≤ d) {g : gH} (hg : HR g) {v2 : Int} (h2 : InR v2) {s0 : Int} (z0 : RfR s0) (u0 : Option ev_V) (w0 : nwo u0) (u1 : Option ev_V) (w1 : nwo u1) : Go Φ pr_P fN 3 (jM_notExiting_21 g v2 s0 ) d pr_m137 21 [u0, u1, some (sI v2)] [(sR s0)] g 0 0 := by
  unfold jM_notExiting_21
  refine go_int kk137_0.2.1.1.1.1 1 rfl ?_
  refine go_goto kk137_0.2.1.1.1.2 ?_
  exact tjM_notExiting_26 hd hg h2 z0 (Or.inr rfl) u0 w0 u1 w1
theorem tfM_notExiting {Φ : ev_P} {d : Nat} (hd : 2 ≤ d) {g : gH} (hg : HR g) {v0 v1 v2 : Int} (hK0 : kd v0 = 7) (h1 : InR v1) (h2 : InR v2) : Go Φ pr_P fN 3 (fM_notExiting g v0 v1 v2) d (pr_P 137) 0 (ev_loc (pr_P 137).1 [(sR v0), (sI v1), (sI v2)]) [] g 0 0 := by
  show Go Φ pr_P fN 3 (fM_notExiting g v0 v1 v2) d pr_m137 0 [some (sR v0), some (sI v1), some (sI v2)] [] g 0 0
  unfold fM_notExiting
  refine go_aload kk137_0.1.1.1.1.1 rfl ?_
  refine go_iload kk137_0.1.1.1.1.2 rfl ?_
  refine go_callN3 kk137_0.1.1.1.2 rfl rfl rfl ⟨by decide, _, rfl, hK0⟩ ⟨Nat.zero_le _, Nat.zero_le _⟩ (by omega) (tfM_noProcess (by omega) hg hK0  h1) (fun y1 g3 r2 e4 => ?_)
  refine go_ifeq kk137_0.1.1.2.1.1 (inR_b r2) (fun c5 => ?_) (fun c6 => ?_)
  · refine go_aload kk137_0.1.1.2.1.2 rfl ?_
    refine go_iload kk137_0.1.1.2.2 rfl ?_
    refine go_ifeq kk137_0.1.2.1.1.1 h1 (fun c7 => ?_) (fun c8 => ?_)
    · exact tjM_notExiting_21 hd e4 h2 (rfR_kd hK0 (by decide)) (some (sR v0)) rfl (some (sI v1)) rfl
    · refine go_aload kk137_0.1.2.1.1.2 rfl ?_
      refine go_iload kk137_0.1.2.1.2 rfl ?_
      refine go_callP3 kk137_0.1.2.2.1 rfl rfl rfl ⟨by decide, _, rfl, hK0⟩ ⟨Nat.zero_le _, Nat.zero_le _⟩ (by omega) (tfM_runs (by omega) e4 hK0  h1) (fun y9 r10 => ?_)
      refine go_ifeq kk137_0.1.2.2.2 (inR_b r10) (fun c13 => ?_) (fun c14 => ?_)
      · exact tjM_notExiting_21 hd e4 h2 (rfR_kd hK0 (by decide)) (some (sR v0)) rfl (some (sI v1)) rfl
      · refine go_int kk137_0.2.1.1.2 0 rfl ?_
        exact tjM_notExiting_26 hd e4 h2 (rfR_kd hK0 (by decide)) (Or.inl rfl) (some (sR v0)) rfl (some (sI v1)) rfl
  · refine go_int kk137_0.2.2.1.1.2 1 rfl ?_
    refine go_goto kk137_0.2.2.1.2 ?_
    exact go_bret kk137_0.2.2.2.2 e4 (Or.inr rfl) ⟨Nat.zero_le _, Nat.zero_le _⟩ rfl
theorem tbM_relieve_26 {Φ : ev_P} {d : Nat} (hd : 7 ≤ d) {v0 v1 : Int} (hK0 : kd v0 = 7) (h1 : InR v1) {X26 : Int → Int → gH → Option (Int × gH)} (HX26 : ∀ (v2 : Int) (h2 : InR v2) (v3 : Int) (h3 : InR v3) (g : gH) (hg : HR g), Go Φ pr_P fN 1 (X26 v2 v3 g) d pr_m176 26 [some (sR v0), some (sI v1), some (sI v2), some (sI v3)] [] g 0 0) : ∀ (v2 : Int) (h2 : InR v2) (v3 : Int) (h3 : InR v3) (g : gH) (hg : HR g), Go Φ pr_P fN 1 (bM_relieve_26 v0 v1 X26 v2 v3 g) d pr_m176 26 [some (sR v0), some (sI v1), some (sI v2), some (sI v3)] [] g 0 0 := by
  intro v2 h2 v3 h3 g hg
  unfold bM_relieve_26
  refine go_iload kk176_0.1.2.1.2.2 rfl ?_
  refine go_ifgt kk176_0.1.2.2.1.1.1 h3 (fun c14 => ?_) (fun c15 => ?_)
  · refine go_aload kk176_0.1.2.2.1.1.2 rfl ?_
    refine go_iload kk176_0.1.2.2.1.2 rfl ?_
    refine go_iload kk176_0.1.2.2.2.1.1 rfl ?_
    refine go_int kk176_0.1.2.2.2.1.2 0 rfl ?_
    refine go_callP3 kk176_0.1.2.2.2.2 rfl rfl rfl ⟨by decide, _, rfl, hK0⟩ ⟨Nat.zero_le _, Nat.zero_le _⟩ (by omega) (tfM_isChild (by omega) hg hK0  h3 h1 (inR_b (Or.inl rfl))) (fun y16 r17 => ?_)
    refine go_ifeq kk176_0.2.1.1.1.1.1 (inR_b r17) (fun c20 => ?_) (fun c21 => ?_)
    · refine go_iinc kk176_0.2.2.2.1.2 rfl rfl (-1) rfl (loc2 := [some (sR v0), some (sI v1), some (sI v2), some (sI (w32 (v3 + (-1))))]) rfl ?_
      refine go_goto kk176_0.2.2.2.2.1.1 ?_
      exact HX26 v2 h2 (w32 (v3 + (-1))) (inR_w32 _) g hg
    · refine go_aload kk176_0.2.1.1.1.1.2 rfl ?_
      refine go_iload kk176_0.2.1.1.1.2.1 rfl ?_
      refine go_int kk176_0.2.1.1.1.2.2 0 rfl ?_
      refine go_callP1 kk176_0.2.1.1.2.1.1 rfl rfl rfl ⟨by decide, _, rfl, hK0⟩ ⟨Nat.zero_le _, Nat.zero_le _⟩ (by omega) (tfM_childrenOf (by omega) hg hK0  h1 (inR_b (Or.inl rfl))) (fun y22 r23 => ?_)
      refine go_aload kk176_0.2.1.1.2.1.2 rfl ?_
      refine go_getR (bI := 0) kk176_0.2.1.1.2.2 hg hK0 (by decide) rfl rfl (fun r26 => ?_)
      refine go_int kk176_0.2.1.2.1.1.1 100 rfl ?_
      refine go_iload kk176_0.2.1.2.1.1.2 rfl ?_
      refine go_iadd kk176_0.2.1.2.1.2 ?_
      refine go_ck (fun q28 => ?_)
      refine go_iald kk176_0.2.1.2.2.1.1 hg q28 (fun r27 => ?_)
      refine go_cmgt kk176_0.2.1.2.2.1.2 r23 r27 (fun c29 => ?_) (fun c30 => ?_)
      · refine go_aload kk176_0.2.2.1.1.1.1 rfl ?_
        refine go_aload kk176_0.2.2.1.1.1.2 rfl ?_
        refine go_iload kk176_0.2.2.1.1.2 rfl ?_
        refine go_iload kk176_0.2.2.1.2.1.1 rfl ?_
        refine go_callP1 kk176_0.2.2.1.2.1.2 rfl rfl rfl ⟨by decide, _, rfl, hK0⟩ ⟨Nat.zero_le _, Nat.zero_le _⟩ (by omega) (tfM_adopterOf (by omega) hg hK0  h3 h1) (fun y31 r32 => ?_)
        refine go_iload kk176_0.2.2.1.2.2 rfl ?_
        refine go_callN0 kk176_0.2.2.2.1.1.1 rfl rfl rfl ⟨by decide, _, rfl, hK0⟩ ⟨Nat.zero_le _, Nat.zero_le _⟩ (by omega) (tfM_adopts (by omega) hg hK0  r32 h3) (fun y35 g37 e38 => ?_)
        refine go_iinc kk176_0.2.2.2.1.1.2 rfl rfl 1 rfl (loc2 := [some (sR v0), some (sI v1), some (sI (w32 (v2 + 1))), some (sI v3)]) rfl ?_
        refine go_iinc kk176_0.2.2.2.1.2 rfl rfl (-1) rfl (loc2 := [some (sR v0), some (sI v1), some (sI (w32 (v2 + 1))), some (sI (w32 (v3 + (-1))))]) rfl ?_
        refine go_goto kk176_0.2.2.2.2.1.1 ?_
        exact HX26 (w32 (v2 + 1)) (inR_w32 _) (w32 (v3 + (-1))) (inR_w32 _) g37 e38
      · refine go_goto kk176_0.2.1.2.2.2 ?_
        refine go_iinc kk176_0.2.2.2.1.2 rfl rfl (-1) rfl (loc2 := [some (sR v0), some (sI v1), some (sI v2), some (sI (w32 (v3 + (-1))))]) rfl ?_
        refine go_goto kk176_0.2.2.2.2.1.1 ?_
        exact HX26 v2 h2 (w32 (v3 + (-1))) (inR_w32 _) g hg
  · refine go_iload kk176_0.2.2.2.2.1.2 rfl ?_
    exact go_iret kk176_0.2.2.2.2.2 hg h2 ⟨Nat.zero_le _, Nat.zero_le _⟩ rfl
theorem tlM_relieve_26 {Φ : ev_P} {d : Nat} (hd : 7 ≤ d) {v0 v1 : Int} (hK0 : kd v0 = 7) (h1 : InR v1) : ∀ n : Nat, ∀ (v2 : Int) (h2 : InR v2) (v3 : Int) (h3 : InR v3) (g : gH) (hg : HR g), Go Φ pr_P fN 1 (lM_relieve_26 v0 v1 n v2 v3 g) d pr_m176 26 [some (sR v0), some (sI v1), some (sI v2), some (sI v3)] [] g 0 0 := by
  intro n
  induction n with
  | zero => intros; exact go_none
  | succ n ih => exact tbM_relieve_26 hd hK0 h1 ih
theorem tfM_relieve {Φ : ev_P} {d : Nat} (hd : 7 ≤ d) {g : gH} (hg : HR g) {v0 v1 : Int} (hK0 : kd v0 = 7) (h1 : InR v1) : Go Φ pr_P fN 1 (fM_relieve g v0 v1) d (pr_P 176) 0 (ev_loc (pr_P 176).1 [(sR v0), (sI v1)]) [] g 0 0 := by
  show Go Φ pr_P fN 1 (fM_relieve g v0 v1) d pr_m176 0 [some (sR v0), some (sI v1), none, none] [] g 0 0
  unfold fM_relieve
  refine go_aload kk176_0.1.1.1.1.1.1 rfl ?_
  refine go_iload kk176_0.1.1.1.1.1.2 rfl ?_
  refine go_int kk176_0.1.1.1.1.2.1 2 rfl ?_
  refine go_callN3 kk176_0.1.1.1.1.2.2 rfl rfl rfl ⟨by decide, _, rfl, hK0⟩ ⟨Nat.zero_le _, Nat.zero_le _⟩ (by omega) (tfM_notExiting (by omega) hg hK0  h1 (inR_of (by decide))) (fun y1 g3 r2 e4 => ?_)
  refine go_ifeq kk176_0.1.1.1.2.1.1 (inR_b r2) (fun c5 => ?_) (fun c6 => ?_)
  · refine go_aload kk176_0.1.1.2.1.1.1 rfl ?_
    refine go_callN0 kk176_0.1.1.2.1.1.2 rfl rfl rfl ⟨by decide, _, rfl, hK0⟩ ⟨Nat.zero_le _, Nat.zero_le _⟩ (by omega) (tfM_remembers (by omega) e4 hK0 ) (fun y7 g9 e10 => ?_)
    refine go_int kk176_0.1.1.2.1.2 0 rfl ?_
    refine go_istore kk176_0.1.1.2.2.1.1 rfl (loc2 := [some (sR v0), some (sI v1), some (sI 0), none]) rfl ?_
    refine go_aload kk176_0.1.1.2.2.1.2 rfl ?_
    refine go_getR (bI := 0) kk176_0.1.1.2.2.2 e10 hK0 (by decide) rfl rfl (fun r11 => ?_)
    refine go_int kk176_0.1.2.1.1.1.1 0 rfl ?_
    refine go_ck (fun q13 => ?_)
    refine go_iald kk176_0.1.2.1.1.1.2 e10 q13 (fun r12 => ?_)
    refine go_int kk176_0.1.2.1.1.2 1 rfl ?_
    refine go_isub kk176_0.1.2.1.2.1.1 ?_
    refine go_istore kk176_0.1.2.1.2.1.2 rfl (loc2 := [some (sR v0), some (sI v1), some (sI 0), some (sI (w32 ((g9 (g9 v0 0) 0) - 1)))]) rfl ?_
    exact tlM_relieve_26 hd hK0 h1 fu 0 (inR_b (Or.inl rfl)) (w32 ((g9 (g9 v0 0) 0) - 1)) (inR_w32 _) g9 e10
  · refine go_int kk176_0.1.1.1.2.1.2 0 rfl ?_
    exact go_iret kk176_0.1.1.1.2.2 e4 (inR_b (Or.inl rfl)) ⟨Nat.zero_le _, Nat.zero_le _⟩ rfl
theorem tfM_adopter {Φ : ev_P} {d : Nat} (hd : 7 ≤ d) {g : gH} (hg : HR g) {v0 v1 : Int} (hK0 : kd v0 = 7) (h1 : InR v1) : Go Φ pr_P fN 1 (fM_adopter g v0 v1) d (pr_P 177) 0 (ev_loc (pr_P 177).1 [(sR v0), (sI v1)]) [] g 0 0 := by
  show Go Φ pr_P fN 1 (fM_adopter g v0 v1) d pr_m177 0 [some (sR v0), some (sI v1)] [] g 0 0
  unfold fM_adopter
  refine go_aload kk177_0.1.1.1.1.1 rfl ?_
  refine go_iload kk177_0.1.1.1.1.2 rfl ?_
  refine go_int kk177_0.1.1.1.2 2 rfl ?_
  refine go_callN3 kk177_0.1.1.2.1 rfl rfl rfl ⟨by decide, _, rfl, hK0⟩ ⟨Nat.zero_le _, Nat.zero_le _⟩ (by omega) (tfM_notExiting (by omega) hg hK0  h1 (inR_of (by decide))) (fun y1 g3 r2 e4 => ?_)
  refine go_ifeq kk177_0.1.1.2.2 (inR_b r2) (fun c5 => ?_) (fun c6 => ?_)
  · refine go_aload kk177_0.1.2.2.1 rfl ?_
    refine go_iload kk177_0.1.2.2.2 rfl ?_
    refine go_aload kk177_0.2.1.1.1 rfl ?_
    refine go_getR (bI := 0) kk177_0.2.1.1.2 e4 hK0 (by decide) rfl rfl (fun r7 => ?_)
    refine go_int kk177_0.2.1.2.1 60 rfl ?_
    refine go_iload kk177_0.2.1.2.2 rfl ?_
    refine go_iadd kk177_0.2.2.1.1 ?_
    refine go_ck (fun q9 => ?_)
    refine go_iald kk177_0.2.2.1.2 e4 q9 (fun r8 => ?_)
    refine go_callP1 kk177_0.2.2.2.1 rfl rfl rfl ⟨by decide, _, rfl, hK0⟩ ⟨Nat.zero_le _, Nat.zero_le _⟩ (by omega) (tfM_adopterOf (by omega) e4 hK0  h1 r8) (fun y10 r11 => ?_)
    exact go_iret kk177_0.2.2.2.2 e4 r11 ⟨Nat.zero_le _, Nat.zero_le _⟩ rfl
  · refine go_int kk177_0.1.2.1.1 0 rfl ?_
    refine go_goto kk177_0.1.2.1.2 ?_
    exact go_iret kk177_0.2.2.2.2 e4 (inR_b (Or.inl rfl)) ⟨Nat.zero_le _, Nat.zero_le _⟩ rfl
theorem tbM_adopters_15 {Φ : ev_P} {d : Nat} (hd : 4 ≤ d) {g : gH} (hg : HR g) {v0 v1 : Int} (hK0 : kd v0 = 7) (h1 : InR v1) {X15 : Int → Int → Option (Int × gH)} (HX15 : ∀ (v2 : Int) (h2 : InR v2) (v3 : Int) (h3 : InR v3), Go Φ pr_P fN 1 (X15 v2 v3) d pr_m178 15 [some (sR v0), some (sI v1), some (sI v2), some (sI v3)] [] g 0 0) : ∀ (v2 : Int) (h2 : InR v2) (v3 : Int) (h3 : InR v3), Go Φ pr_P fN 1 (bM_adopters_15 g v0 v1 X15 v2 v3) d pr_m178 15 [some (sR v0), some (sI v1), some (sI v2), some (sI v3)] [] g 0 0 := by
  intro v2 h2 v3 h3
  unfold bM_adopters_15
  refine go_iload kk178_0.1.2.1.2.2 rfl ?_
  refine go_aload kk178_0.1.2.2.1.1 rfl ?_
  refine go_getR (bI := 0) kk178_0.1.2.2.1.2 hg hK0 (by decide) rfl rfl (fun r7 => ?_)
  refine go_int kk178_0.1.2.2.2.1 0 rfl ?_
  refine go_ck (fun q9 => ?_)
  refine go_iald kk178_0.1.2.2.2.2 hg q9 (fun r8 => ?_)
  refine go_cmlt kk178_0.2.1.1.1.1 h3 r8 (fun c10 => ?_) (fun c11 => ?_)
  · refine go_iload kk178_0.2.1.1.1.2 rfl ?_
    refine go_aload kk178_0.2.1.1.2.1 rfl ?_
    refine go_iload kk178_0.2.1.1.2.2 rfl ?_
    refine go_iload kk178_0.2.1.2.1.1 rfl ?_
    refine go_callP3 kk178_0.2.1.2.1.2 rfl rfl rfl ⟨by decide, _, rfl, hK0⟩ ⟨Nat.zero_le _, Nat.zero_le _⟩ (by omega) (tfM_canAdopt (by omega) hg hK0  h3 h1) (fun y12 r13 => ?_)
    refine go_ifeq kk178_0.2.1.2.2.1 (inR_b r13) (fun c16 => ?_) (fun c17 => ?_)
    · refine go_int kk178_0.2.2.1.1.2 0 rfl ?_
      refine go_iadd kk178_0.2.2.1.2.1 ?_
      refine go_istore kk178_0.2.2.1.2.2 rfl (loc2 := [some (sR v0), some (sI v1), some (sI (w32 (v2 + 0))), some (sI v3)]) rfl ?_
      refine go_iinc kk178_0.2.2.2.1.1 rfl rfl 1 rfl (loc2 := [some (sR v0), some (sI v1), some (sI (w32 (v2 + 0))), some (sI (w32 (v3 + 1)))]) rfl ?_
      refine go_goto kk178_0.2.2.2.1.2 ?_
      exact HX15 (w32 (v2 + 0)) (inR_w32 _) (w32 (v3 + 1)) (inR_w32 _)
    · refine go_int kk178_0.2.1.2.2.2 1 rfl ?_
      refine go_goto kk178_0.2.2.1.1.1 ?_
      refine go_iadd kk178_0.2.2.1.2.1 ?_
      refine go_istore kk178_0.2.2.1.2.2 rfl (loc2 := [some (sR v0), some (sI v1), some (sI (w32 (v2 + 1))), some (sI v3)]) rfl ?_
      refine go_iinc kk178_0.2.2.2.1.1 rfl rfl 1 rfl (loc2 := [some (sR v0), some (sI v1), some (sI (w32 (v2 + 1))), some (sI (w32 (v3 + 1)))]) rfl ?_
      refine go_goto kk178_0.2.2.2.1.2 ?_
      exact HX15 (w32 (v2 + 1)) (inR_w32 _) (w32 (v3 + 1)) (inR_w32 _)
  · refine go_iload kk178_0.2.2.2.2.1 rfl ?_
    exact go_iret kk178_0.2.2.2.2.2 hg h2 ⟨Nat.zero_le _, Nat.zero_le _⟩ rfl
theorem tlM_adopters_15 {Φ : ev_P} {d : Nat} (hd : 4 ≤ d) {g : gH} (hg : HR g) {v0 v1 : Int} (hK0 : kd v0 = 7) (h1 : InR v1) : ∀ n : Nat, ∀ (v2 : Int) (h2 : InR v2) (v3 : Int) (h3 : InR v3), Go Φ pr_P fN 1 (lM_adopters_15 g v0 v1 n v2 v3) d pr_m178 15 [some (sR v0), some (sI v1), some (sI v2), some (sI v3)] [] g 0 0 := by
  intro n
  induction n with
  | zero => intros; exact go_none
  | succ n ih => exact tbM_adopters_15 hd hg hK0 h1 ih
theorem tfM_adopters {Φ : ev_P} {d : Nat} (hd : 4 ≤ d) {g : gH} (hg : HR g) {v0 v1 : Int} (hK0 : kd v0 = 7) (h1 : InR v1) : Go Φ pr_P fN 1 (fM_adopters g v0 v1) d (pr_P 178) 0 (ev_loc (pr_P 178).1 [(sR v0), (sI v1)]) [] g 0 0 := by
  show Go Φ pr_P fN 1 (fM_adopters g v0 v1) d pr_m178 0 [some (sR v0), some (sI v1), none, none] [] g 0 0
  unfold fM_adopters
  refine go_aload kk178_0.1.1.1.1.1 rfl ?_
  refine go_iload kk178_0.1.1.1.1.2 rfl ?_
  refine go_int kk178_0.1.1.1.2.1 2 rfl ?_
  refine go_callN3 kk178_0.1.1.1.2.2 rfl rfl rfl ⟨by decide, _, rfl, hK0⟩ ⟨Nat.zero_le _, Nat.zero_le _⟩ (by omega) (tfM_notExiting (by omega) hg hK0  h1 (inR_of (by decide))) (fun y1 g3 r2 e4 => ?_)
  refine go_ifeq kk178_0.1.1.2.1.1 (inR_b r2) (fun c5 => ?_) (fun c6 => ?_)
  · refine go_int kk178_0.1.1.2.2.2 0 rfl ?_
    refine go_istore kk178_0.1.2.1.1.1 rfl (loc2 := [some (sR v0), some (sI v1), some (sI 0), none]) rfl ?_
    refine go_int kk178_0.1.2.1.1.2 1 rfl ?_
    refine go_istore kk178_0.1.2.1.2.1 rfl (loc2 := [some (sR v0), some (sI v1), some (sI 0), some (sI 1)]) rfl ?_
    exact tlM_adopters_15 hd e4 hK0 h1 fu 0 (inR_b (Or.inl rfl)) 1 (inR_b (Or.inr rfl))
  · refine go_int kk178_0.1.1.2.1.2 0 rfl ?_
    exact go_iret kk178_0.1.1.2.2.1 e4 (inR_b (Or.inl rfl)) ⟨Nat.zero_le _, Nat.zero_le _⟩ rfl
theorem tfM_heirNow {Φ : ev_P} {d : Nat} (hd : 3 ≤ d) {g : gH} (hg : HR g) {v0 v1 : Int} (hK0 : kd v0 = 7) (h1 : InR v1) : Go Φ pr_P fN 1 (fM_heirNow g v0 v1) d (pr_P 179) 0 (ev_loc (pr_P 179).1 [(sR v0), (sI v1)]) [] g 0 0 := by
  show Go Φ pr_P fN 1 (fM_heirNow g v0 v1) d pr_m179 0 [some (sR v0), some (sI v1)] [] g 0 0
  unfold fM_heirNow
  refine go_aload kk179_0.1.1.1.1 rfl ?_
  refine go_iload kk179_0.1.1.1.2 rfl ?_
  refine go_int kk179_0.1.1.2 2 rfl ?_
  refine go_callN3 kk179_0.1.2.1.1 rfl rfl rfl ⟨by decide, _, rfl, hK0⟩ ⟨Nat.zero_le _, Nat.zero_le _⟩ (by omega) (tfM_notExiting (by omega) hg hK0  h1 (inR_of (by decide))) (fun y1 g3 r2 e4 => ?_)
  refine go_ifeq kk179_0.1.2.1.2 (inR_b r2) (fun c5 => ?_) (fun c6 => ?_)
  · refine go_aload kk179_0.2.1.1.2 rfl ?_
    refine go_iload kk179_0.2.1.2 rfl ?_
    refine go_callP1 kk179_0.2.2.1 rfl rfl rfl ⟨by decide, _, rfl, hK0⟩ ⟨Nat.zero_le _, Nat.zero_le _⟩ (by omega) (tfM_inheritor (by omega) e4 hK0  h1) (fun y7 r8 => ?_)
    exact go_iret kk179_0.2.2.2 e4 r8 ⟨Nat.zero_le _, Nat.zero_le _⟩ rfl
  · refine go_int kk179_0.1.2.2 0 rfl ?_
    refine go_goto kk179_0.2.1.1.1 ?_
    exact go_iret kk179_0.2.2.2 e4 (inR_b (Or.inl rfl)) ⟨Nat.zero_le _, Nat.zero_le _⟩ rfl
theorem tfM_begins {Φ : ev_P} {d : Nat} (hd : 1 ≤ d) {g : gH} (hg : HR g) {v0 : Int} (hK0 : kd v0 = 7) : Go Φ pr_P fN 0 (fM_begins g v0) d (pr_P 81) 0 (ev_loc (pr_P 81).1 [(sR v0)]) [] g 0 0 := by
  show Go Φ pr_P fN 0 (fM_begins g v0) d pr_m81 0 [some (sR v0)] [] g 0 0
  unfold fM_begins
  refine go_aload kk81_0.1.1.1.1 rfl ?_
  refine go_getR (bI := 0) kk81_0.1.1.1.2 hg hK0 (by decide) rfl rfl (fun r1 => ?_)
  refine go_int kk81_0.1.1.2 0 rfl ?_
  refine go_aload kk81_0.1.2.1 rfl ?_
  refine go_getR (bI := 2) kk81_0.1.2.2 hg hK0 (by decide) rfl rfl (fun r2 => ?_)
  refine go_int kk81_0.2.1.1 0 rfl ?_
  refine go_int kk81_0.2.1.2 780 rfl ?_
  refine go_callN0 kk81_0.2.2.1 rfl rfl rfl trivial ⟨Nat.zero_le _, Nat.zero_le _⟩ (by omega) (tfM_copies (by omega) hg  r1 (inR_b (Or.inl rfl)) r2 (inR_b (Or.inl rfl)) (inR_of (by decide))) (fun y3 g5 e6 => ?_)
  exact go_vret kk81_0.2.2.2 e6 ⟨Nat.zero_le _, Nat.zero_le _⟩ rfl
theorem tfM_ends {Φ : ev_P} {d : Nat} (hd : 1 ≤ d) {g : gH} (hg : HR g) {v0 : Int} (hK0 : kd v0 = 7) : Go Φ pr_P fN 0 (fM_ends g v0) d (pr_P 82) 0 (ev_loc (pr_P 82).1 [(sR v0)]) [] g 0 0 := by
  show Go Φ pr_P fN 0 (fM_ends g v0) d pr_m82 0 [some (sR v0)] [] g 0 0
  unfold fM_ends
  refine go_aload kk82_0.1.1.1.1 rfl ?_
  refine go_getR (bI := 2) kk82_0.1.1.1.2 hg hK0 (by decide) rfl rfl (fun r1 => ?_)
  refine go_int kk82_0.1.1.2 0 rfl ?_
  refine go_aload kk82_0.1.2.1 rfl ?_
  refine go_getR (bI := 0) kk82_0.1.2.2 hg hK0 (by decide) rfl rfl (fun r2 => ?_)
  refine go_int kk82_0.2.1.1 0 rfl ?_
  refine go_int kk82_0.2.1.2 780 rfl ?_
  refine go_callN0 kk82_0.2.2.1 rfl rfl rfl trivial ⟨Nat.zero_le _, Nat.zero_le _⟩ (by omega) (tfM_copies (by omega) hg  r1 (inR_b (Or.inl rfl)) r2 (inR_b (Or.inl rfl)) (inR_of (by decide))) (fun y3 g5 e6 => ?_)
  exact go_vret kk82_0.2.2.2 e6 ⟨Nat.zero_le _, Nat.zero_le _⟩ rfl
theorem tfM_fallsBy {Φ : ev_P} {d : Nat} (hd : 8 ≤ d) {g : gH} (hg : HR g) {v0 v1 v2 : Int} (hK0 : kd v0 = 7) (h1 : InR v1) (h2 : InR v2) : Go Φ pr_P fN 1 (fM_fallsBy g v0 v1 v2) d (pr_P 180) 0 (ev_loc (pr_P 180).1 [(sR v0), (sI v1), (sI v2)]) [] g 0 0 := by
  show Go Φ pr_P fN 1 (fM_fallsBy g v0 v1 v2) d pr_m180 0 [some (sR v0), some (sI v1), some (sI v2), none] [] g 0 0
  unfold fM_fallsBy
  refine go_aload kk180_0.1.1.1.1 rfl ?_
  refine go_callN0 kk180_0.1.1.1.2 rfl rfl rfl ⟨by decide, _, rfl, hK0⟩ ⟨Nat.zero_le _, Nat.zero_le _⟩ (by omega) (tfM_begins (by omega) hg hK0 ) (fun y1 g3 e4 => ?_)
  refine go_aload kk180_0.1.1.2 rfl ?_
  refine go_iload kk180_0.1.2.1.1 rfl ?_
  refine go_iload kk180_0.1.2.1.2 rfl ?_
  refine go_callN1 kk180_0.1.2.2 rfl rfl rfl ⟨by decide, _, rfl, hK0⟩ ⟨Nat.zero_le _, Nat.zero_le _⟩ (by omega) (tfM_exits (by omega) e4 hK0  h1 h2) (fun y5 g7 r6 e8 => ?_)
  refine go_istore kk180_0.2.1.1.1 rfl (loc2 := [some (sR v0), some (sI v1), some (sI v2), some (sI y5)]) rfl ?_
  refine go_aload kk180_0.2.1.1.2 rfl ?_
  refine go_callN0 kk180_0.2.1.2 rfl rfl rfl ⟨by decide, _, rfl, hK0⟩ ⟨Nat.zero_le _, Nat.zero_le _⟩ (by omega) (tfM_ends (by omega) e8 hK0 ) (fun y9 g11 e12 => ?_)
  refine go_iload kk180_0.2.2.1 rfl ?_
  exact go_iret kk180_0.2.2.2 e12 r6 ⟨Nat.zero_le _, Nat.zero_le _⟩ rfl
theorem tfM_wouldFall {Φ : ev_P} {d : Nat} (hd : 9 ≤ d) {g : gH} (hg : HR g) {v0 v1 v2 : Int} (hK0 : kd v0 = 7) (h1 : InR v1) (h2 : InR v2) : Go Φ pr_P fN 1 (fM_wouldFall g v0 v1 v2) d (pr_P 181) 0 (ev_loc (pr_P 181).1 [(sR v0), (sI v1), (sI v2)]) [] g 0 0 := by
  show Go Φ pr_P fN 1 (fM_wouldFall g v0 v1 v2) d pr_m181 0 [some (sR v0), some (sI v1), some (sI v2)] [] g 0 0
  unfold fM_wouldFall
  refine go_aload kk181_0.1.1.1.1 rfl ?_
  refine go_iload kk181_0.1.1.1.2 rfl ?_
  refine go_iload kk181_0.1.1.2 rfl ?_
  refine go_callN3 kk181_0.1.2.1.1 rfl rfl rfl ⟨by decide, _, rfl, hK0⟩ ⟨Nat.zero_le _, Nat.zero_le _⟩ (by omega) (tfM_noExit (by omega) hg hK0  h1 h2) (fun y1 g3 r2 e4 => ?_)
  refine go_ifeq kk181_0.1.2.1.2 (inR_b r2) (fun c5 => ?_) (fun c6 => ?_)
  · refine go_aload kk181_0.2.1.1.2 rfl ?_
    refine go_iload kk181_0.2.1.2 rfl ?_
    refine go_iload kk181_0.2.2.1.1 rfl ?_
    refine go_callN1 kk181_0.2.2.1.2 rfl rfl rfl ⟨by decide, _, rfl, hK0⟩ ⟨Nat.zero_le _, Nat.zero_le _⟩ (by omega) (tfM_fallsBy (by omega) e4 hK0  h1 h2) (fun y7 g9 r8 e10 => ?_)
    exact go_iret kk181_0.2.2.2 e10 r8 ⟨Nat.zero_le _, Nat.zero_le _⟩ rfl
  · refine go_int kk181_0.1.2.2 0 rfl ?_
    refine go_goto kk181_0.2.1.1.1 ?_
    exact go_iret kk181_0.2.2.2 e4 (inR_b (Or.inl rfl)) ⟨Nat.zero_le _, Nat.zero_le _⟩ rfl
theorem tfM_wouldStand {Φ : ev_P} {d : Nat} (hd : 8 ≤ d) {g : gH} (hg : HR g) {v0 v1 v2 : Int} (hK0 : kd v0 = 7) (h1 : InR v1) (h2 : InR v2) : Go Φ pr_P fN 1 (fM_wouldStand g v0 v1 v2) d (pr_P 182) 0 (ev_loc (pr_P 182).1 [(sR v0), (sI v1), (sI v2)]) [] g 0 0 := by
  show Go Φ pr_P fN 1 (fM_wouldStand g v0 v1 v2) d pr_m182 0 [some (sR v0), some (sI v1), some (sI v2), none, none] [] g 0 0
  unfold fM_wouldStand
  refine go_aload kk182_0.1.1.1.1.1 rfl ?_
  refine go_iload kk182_0.1.1.1.1.2 rfl ?_
  refine go_iload kk182_0.1.1.1.2.1 rfl ?_
  refine go_callN3 kk182_0.1.1.1.2.2 rfl rfl rfl ⟨by decide, _, rfl, hK0⟩ ⟨Nat.zero_le _, Nat.zero_le _⟩ (by omega) (tfM_noExit (by omega) hg hK0  h1 h2) (fun y1 g3 r2 e4 => ?_)
  refine go_ifeq kk182_0.1.1.2.1.1 (inR_b r2) (fun c5 => ?_) (fun c6 => ?_)
  · refine go_aload kk182_0.1.2.1.1.1 rfl ?_
    refine go_callN0 kk182_0.1.2.1.1.2 rfl rfl rfl ⟨by decide, _, rfl, hK0⟩ ⟨Nat.zero_le _, Nat.zero_le _⟩ (by omega) (tfM_begins (by omega) e4 hK0 ) (fun y7 g9 e10 => ?_)
    refine go_aload kk182_0.1.2.1.2 rfl ?_
    refine go_iload kk182_0.1.2.2.1.1 rfl ?_
    refine go_iload kk182_0.1.2.2.1.2 rfl ?_
    refine go_callN1 kk182_0.1.2.2.2 rfl rfl rfl ⟨by decide, _, rfl, hK0⟩ ⟨Nat.zero_le _, Nat.zero_le _⟩ (by omega) (tfM_exits (by omega) e10 hK0  h1 h2) (fun y11 g13 r12 e14 => ?_)
    refine go_istore kk182_0.2.1.1.1.1 rfl (loc2 := [some (sR v0), some (sI v1), some (sI v2), some (sI y11), none]) rfl ?_
    refine go_iload kk182_0.2.1.1.1.2 rfl ?_
    refine go_iflt kk182_0.2.1.1.2 r12 (fun c15 => ?_) (fun c16 => ?_)
    · refine go_int kk182_0.2.1.2.1.1 (-1) rfl ?_
      refine go_goto kk182_0.2.1.2.1.2 ?_
      refine go_istore kk182_0.2.2.1.1.2 rfl (loc2 := [some (sR v0), some (sI v1), some (sI v2), some (sI y11), some (sI (-1))]) rfl ?_
      refine go_aload kk182_0.2.2.1.2 rfl ?_
      refine go_callN0 kk182_0.2.2.2.1.1 rfl rfl rfl ⟨by decide, _, rfl, hK0⟩ ⟨Nat.zero_le _, Nat.zero_le _⟩ (by omega) (tfM_ends (by omega) e14 hK0 ) (fun y17 g19 e20 => ?_)
      refine go_iload kk182_0.2.2.2.1.2 rfl ?_
      exact go_iret kk182_0.2.2.2.2 e20 (inR_of (by decide)) ⟨Nat.zero_le _, Nat.zero_le _⟩ rfl
    · refine go_aload kk182_0.2.1.2.2 rfl ?_
      refine go_callP1 kk182_0.2.2.1.1.1 rfl rfl rfl ⟨by decide, _, rfl, hK0⟩ ⟨Nat.zero_le _, Nat.zero_le _⟩ (by omega) (tfM_highest (by omega) e14 hK0 ) (fun y21 r22 => ?_)
      refine go_istore kk182_0.2.2.1.1.2 rfl (loc2 := [some (sR v0), some (sI v1), some (sI v2), some (sI y11), some (sI y21)]) rfl ?_
      refine go_aload kk182_0.2.2.1.2 rfl ?_
      refine go_callN0 kk182_0.2.2.2.1.1 rfl rfl rfl ⟨by decide, _, rfl, hK0⟩ ⟨Nat.zero_le _, Nat.zero_le _⟩ (by omega) (tfM_ends (by omega) e14 hK0 ) (fun y25 g27 e28 => ?_)
      refine go_iload kk182_0.2.2.2.1.2 rfl ?_
      exact go_iret kk182_0.2.2.2.2 e28 r22 ⟨Nat.zero_le _, Nat.zero_le _⟩ rfl
  · refine go_int kk182_0.1.1.2.1.2 0 rfl ?_
    exact go_iret kk182_0.1.1.2.2 e4 (inR_b (Or.inl rfl)) ⟨Nat.zero_le _, Nat.zero_le _⟩ rfl
theorem tfM_wouldHave {Φ : ev_P} {d : Nat} (hd : 8 ≤ d) {g : gH} (hg : HR g) {v0 v1 v2 v3 : Int} (hK0 : kd v0 = 7) (h1 : InR v1) (h2 : InR v2) (h3 : InR v3) : Go Φ pr_P fN 1 (fM_wouldHave g v0 v1 v2 v3) d (pr_P 183) 0 (ev_loc (pr_P 183).1 [(sR v0), (sI v1), (sI v2), (sI v3)]) [] g 0 0 := by
  show Go Φ pr_P fN 1 (fM_wouldHave g v0 v1 v2 v3) d pr_m183 0 [some (sR v0), some (sI v1), some (sI v2), some (sI v3), none, none] [] g 0 0
  unfold fM_wouldHave
  refine go_aload kk183_0.1.1.1.1.1.1 rfl ?_
  refine go_iload kk183_0.1.1.1.1.1.2 rfl ?_
  refine go_callN3 kk183_0.1.1.1.1.2 rfl rfl rfl ⟨by decide, _, rfl, hK0⟩ ⟨Nat.zero_le _, Nat.zero_le _⟩ (by omega) (tfM_noProcess (by omega) hg hK0  h1) (fun y1 g3 r2 e4 => ?_)
  refine go_ifeq kk183_0.1.1.1.2.1 (inR_b r2) (fun c5 => ?_) (fun c6 => ?_)
  · refine go_aload kk183_0.1.1.1.2.2 rfl ?_
    refine go_iload kk183_0.1.1.2.1.1 rfl ?_
    refine go_iload kk183_0.1.1.2.1.2 rfl ?_
    refine go_callN3 kk183_0.1.1.2.2.1 rfl rfl rfl ⟨by decide, _, rfl, hK0⟩ ⟨Nat.zero_le _, Nat.zero_le _⟩ (by omega) (tfM_noExit (by omega) e4 hK0  h2 h3) (fun y7 g9 r8 e10 => ?_)
    refine go_ifeq kk183_0.1.1.2.2.2 (inR_b r8) (fun c11 => ?_) (fun c12 => ?_)
    · refine go_aload kk183_0.1.2.1.2.1 rfl ?_
      refine go_callN0 kk183_0.1.2.1.2.2 rfl rfl rfl ⟨by decide, _, rfl, hK0⟩ ⟨Nat.zero_le _, Nat.zero_le _⟩ (by omega) (tfM_begins (by omega) e10 hK0 ) (fun y13 g15 e16 => ?_)
      refine go_aload kk183_0.1.2.2.1.1 rfl ?_
      refine go_iload kk183_0.1.2.2.1.2 rfl ?_
      refine go_iload kk183_0.1.2.2.2.1 rfl ?_
      refine go_callN1 kk183_0.1.2.2.2.2 rfl rfl rfl ⟨by decide, _, rfl, hK0⟩ ⟨Nat.zero_le _, Nat.zero_le _⟩ (by omega) (tfM_exits (by omega) e16 hK0  h2 h3) (fun y17 g19 r18 e20 => ?_)
      refine go_istore kk183_0.2.1.1.1.1 rfl (loc2 := [some (sR v0), some (sI v1), some (sI v2), some (sI v3), some (sI y17), none]) rfl ?_
      refine go_iload kk183_0.2.1.1.1.2 rfl ?_
      refine go_iflt kk183_0.2.1.1.2.1 r18 (fun c21 => ?_) (fun c22 => ?_)
      · refine go_int kk183_0.2.1.1.2.2 (-1) rfl ?_
        refine go_goto kk183_0.2.1.2.1.1 ?_
        refine go_istore kk183_0.2.2.1.2.2 rfl (loc2 := [some (sR v0), some (sI v1), some (sI v2), some (sI v3), some (sI y17), some (sI (-1))]) rfl ?_
        refine go_aload kk183_0.2.2.2.1.1 rfl ?_
        refine go_callN0 kk183_0.2.2.2.1.2 rfl rfl rfl ⟨by decide, _, rfl, hK0⟩ ⟨Nat.zero_le _, Nat.zero_le _⟩ (by omega) (tfM_ends (by omega) e20 hK0 ) (fun y23 g25 e26 => ?_)
        refine go_iload kk183_0.2.2.2.2.1 rfl ?_
        exact go_iret kk183_0.2.2.2.2.2 e26 (inR_of (by decide)) ⟨Nat.zero_le _, Nat.zero_le _⟩ rfl
      · refine go_aload kk183_0.2.1.2.1.2 rfl ?_
        refine go_getR (bI := 0) kk183_0.2.1.2.2.1 e20 hK0 (by decide) rfl rfl (fun r27 => ?_)
        refine go_int kk183_0.2.1.2.2.2 60 rfl ?_
        refine go_iload kk183_0.2.2.1.1.1 rfl ?_
        refine go_iadd kk183_0.2.2.1.1.2 ?_
        refine go_ck (fun q29 => ?_)
        refine go_iald kk183_0.2.2.1.2.1 e20 q29 (fun r28 => ?_)
        refine go_istore kk183_0.2.2.1.2.2 rfl (loc2 := [some (sR v0), some (sI v1), some (sI v2), some (sI v3), some (sI y17), some (sI (g19 (g19 v0 0) (w32 (60 + v1))))]) rfl ?_
        refine go_aload kk183_0.2.2.2.1.1 rfl ?_
        refine go_callN0 kk183_0.2.2.2.1.2 rfl rfl rfl ⟨by decide, _, rfl, hK0⟩ ⟨Nat.zero_le _, Nat.zero_le _⟩ (by omega) (tfM_ends (by omega) e20 hK0 ) (fun y30 g32 e33 => ?_)
        refine go_iload kk183_0.2.2.2.2.1 rfl ?_
        exact go_iret kk183_0.2.2.2.2.2 e33 r28 ⟨Nat.zero_le _, Nat.zero_le _⟩ rfl
    · refine go_int kk183_0.1.2.1.1.1 0 rfl ?_
      exact go_iret kk183_0.1.2.1.1.2 e10 (inR_b (Or.inl rfl)) ⟨Nat.zero_le _, Nat.zero_le _⟩ rfl
  · refine go_int kk183_0.1.2.1.1.1 0 rfl ?_
    exact go_iret kk183_0.1.2.1.1.2 e4 (inR_b (Or.inl rfl)) ⟨Nat.zero_le _, Nat.zero_le _⟩ rfl
theorem tfM_wouldHold {Φ : ev_P} {d : Nat} (hd : 8 ≤ d) {g : gH} (hg : HR g) {v0 v1 v2 v3 : Int} (hK0 : kd v0 = 7) (h1 : InR v1) (h2 : InR v2) (h3 : InR v3) : Go Φ pr_P fN 1 (fM_wouldHold g v0 v1 v2 v3) d (pr_P 184) 0 (ev_loc (pr_P 184).1 [(sR v0), (sI v1), (sI v2), (sI v3)]) [] g 0 0 := by
  show Go Φ pr_P fN 1 (fM_wouldHold g v0 v1 v2 v3) d pr_m184 0 [some (sR v0), some (sI v1), some (sI v2), some (sI v3), none, none] [] g 0 0
  unfold fM_wouldHold
  refine go_aload kk184_0.1.1.1.1.1.1 rfl ?_
  refine go_iload kk184_0.1.1.1.1.1.2 rfl ?_
  refine go_callN3 kk184_0.1.1.1.1.2 rfl rfl rfl ⟨by decide, _, rfl, hK0⟩ ⟨Nat.zero_le _, Nat.zero_le _⟩ (by omega) (tfM_noProcess (by omega) hg hK0  h2) (fun y1 g3 r2 e4 => ?_)
  refine go_ifeq kk184_0.1.1.1.2.1 (inR_b r2) (fun c5 => ?_) (fun c6 => ?_)
  · refine go_aload kk184_0.1.1.1.2.2 rfl ?_
    refine go_iload kk184_0.1.1.2.1.1.1 rfl ?_
    refine go_int kk184_0.1.1.2.1.1.2 2 rfl ?_
    refine go_callN3 kk184_0.1.1.2.1.2 rfl rfl rfl ⟨by decide, _, rfl, hK0⟩ ⟨Nat.zero_le _, Nat.zero_le _⟩ (by omega) (tfM_noDuty (by omega) e4 hK0  h1 (inR_of (by decide))) (fun y7 g9 r8 e10 => ?_)
    refine go_ifeq kk184_0.1.1.2.2.1 (inR_b r8) (fun c11 => ?_) (fun c12 => ?_)
    · refine go_aload kk184_0.1.1.2.2.2 rfl ?_
      refine go_iload kk184_0.1.2.1.1.1.1 rfl ?_
      refine go_iload kk184_0.1.2.1.1.1.2 rfl ?_
      refine go_callN3 kk184_0.1.2.1.1.2 rfl rfl rfl ⟨by decide, _, rfl, hK0⟩ ⟨Nat.zero_le _, Nat.zero_le _⟩ (by omega) (tfM_noExit (by omega) e10 hK0  h2 h3) (fun y13 g15 r14 e16 => ?_)
      refine go_ifeq kk184_0.1.2.1.2.1 (inR_b r14) (fun c17 => ?_) (fun c18 => ?_)
      · refine go_aload kk184_0.1.2.2.1.2 rfl ?_
        refine go_callN0 kk184_0.1.2.2.2.1 rfl rfl rfl ⟨by decide, _, rfl, hK0⟩ ⟨Nat.zero_le _, Nat.zero_le _⟩ (by omega) (tfM_begins (by omega) e16 hK0 ) (fun y19 g21 e22 => ?_)
        refine go_aload kk184_0.1.2.2.2.2 rfl ?_
        refine go_iload kk184_0.2.1.1.1.1.1 rfl ?_
        refine go_iload kk184_0.2.1.1.1.1.2 rfl ?_
        refine go_callN1 kk184_0.2.1.1.1.2 rfl rfl rfl ⟨by decide, _, rfl, hK0⟩ ⟨Nat.zero_le _, Nat.zero_le _⟩ (by omega) (tfM_exits (by omega) e22 hK0  h2 h3) (fun y23 g25 r24 e26 => ?_)
        refine go_istore kk184_0.2.1.1.2.1 rfl (loc2 := [some (sR v0), some (sI v1), some (sI v2), some (sI v3), some (sI y23), none]) rfl ?_
        refine go_iload kk184_0.2.1.1.2.2 rfl ?_
        refine go_iflt kk184_0.2.1.2.1.1.1 r24 (fun c27 => ?_) (fun c28 => ?_)
        · refine go_int kk184_0.2.1.2.1.1.2 (-1) rfl ?_
          refine go_goto kk184_0.2.1.2.1.2 ?_
          refine go_istore kk184_0.2.2.1.2.2 rfl (loc2 := [some (sR v0), some (sI v1), some (sI v2), some (sI v3), some (sI y23), some (sI (-1))]) rfl ?_
          refine go_aload kk184_0.2.2.2.1.1 rfl ?_
          refine go_callN0 kk184_0.2.2.2.1.2 rfl rfl rfl ⟨by decide, _, rfl, hK0⟩ ⟨Nat.zero_le _, Nat.zero_le _⟩ (by omega) (tfM_ends (by omega) e26 hK0 ) (fun y29 g31 e32 => ?_)
          refine go_iload kk184_0.2.2.2.2.1 rfl ?_
          exact go_iret kk184_0.2.2.2.2.2 e32 (inR_of (by decide)) ⟨Nat.zero_le _, Nat.zero_le _⟩ rfl
        · refine go_aload kk184_0.2.1.2.2.1 rfl ?_
          refine go_getR (bI := 0) kk184_0.2.1.2.2.2 e26 hK0 (by decide) rfl rfl (fun r33 => ?_)
          refine go_int kk184_0.2.2.1.1.1.1 11 rfl ?_
          refine go_iload kk184_0.2.2.1.1.1.2 rfl ?_
          refine go_iadd kk184_0.2.2.1.1.2 ?_
          refine go_ck (fun q35 => ?_)
          refine go_iald kk184_0.2.2.1.2.1 e26 q35 (fun r34 => ?_)
          refine go_istore kk184_0.2.2.1.2.2 rfl (loc2 := [some (sR v0), some (sI v1), some (sI v2), some (sI v3), some (sI y23), some (sI (g25 (g25 v0 0) (w32 (11 + v1))))]) rfl ?_
          refine go_aload kk184_0.2.2.2.1.1 rfl ?_
          refine go_callN0 kk184_0.2.2.2.1.2 rfl rfl rfl ⟨by decide, _, rfl, hK0⟩ ⟨Nat.zero_le _, Nat.zero_le _⟩ (by omega) (tfM_ends (by omega) e26 hK0 ) (fun y36 g38 e39 => ?_)
          refine go_iload kk184_0.2.2.2.2.1 rfl ?_
          exact go_iret kk184_0.2.2.2.2.2 e39 r34 ⟨Nat.zero_le _, Nat.zero_le _⟩ rfl
      · refine go_int kk184_0.1.2.1.2.2 0 rfl ?_
        exact go_iret kk184_0.1.2.2.1.1 e16 (inR_b (Or.inl rfl)) ⟨Nat.zero_le _, Nat.zero_le _⟩ rfl
    · refine go_int kk184_0.1.2.1.2.2 0 rfl ?_
      exact go_iret kk184_0.1.2.2.1.1 e10 (inR_b (Or.inl rfl)) ⟨Nat.zero_le _, Nat.zero_le _⟩ rfl
  · refine go_int kk184_0.1.2.1.2.2 0 rfl ?_
    exact go_iret kk184_0.1.2.2.1.1 e4 (inR_b (Or.inl rfl)) ⟨Nat.zero_le _, Nat.zero_le _⟩ rfl
theorem tfM_wouldFallBy {Φ : ev_P} {d : Nat} (hd : 9 ≤ d) {g : gH} (hg : HR g) {v0 v1 v2 : Int} (hK0 : kd v0 = 7) (h1 : InR v1) (h2 : InR v2) : Go Φ pr_P fN 1 (fM_wouldFallBy g v0 v1 v2) d (pr_P 185) 0 (ev_loc (pr_P 185).1 [(sR v0), (sI v1), (sI v2)]) [] g 0 0 := by
  show Go Φ pr_P fN 1 (fM_wouldFallBy g v0 v1 v2) d pr_m185 0 [some (sR v0), some (sI v1), some (sI v2), none, none, none] [] g 0 0
  unfold fM_wouldFallBy
  refine go_aload kk185_0.1.1.1.1.1.1 rfl ?_
  refine go_iload kk185_0.1.1.1.1.1.2 rfl ?_
  refine go_iload kk185_0.1.1.1.1.2 rfl ?_
  refine go_callN3 kk185_0.1.1.1.2.1 rfl rfl rfl ⟨by decide, _, rfl, hK0⟩ ⟨Nat.zero_le _, Nat.zero_le _⟩ (by omega) (tfM_noKill (by omega) hg hK0  h1 h2) (fun y1 g3 r2 e4 => ?_)
  refine go_ifeq kk185_0.1.1.1.2.2 (inR_b r2) (fun c5 => ?_) (fun c6 => ?_)
  · refine go_aload kk185_0.1.1.2.2.1 rfl ?_
    refine go_getR (bI := 0) kk185_0.1.1.2.2.2 e4 hK0 (by decide) rfl rfl (fun r7 => ?_)
    refine go_int kk185_0.1.2.1.1.1 3 rfl ?_
    refine go_ck (fun q9 => ?_)
    refine go_iald kk185_0.1.2.1.1.2 e4 q9 (fun r8 => ?_)
    refine go_istore kk185_0.1.2.1.2.1 rfl (loc2 := [some (sR v0), some (sI v1), some (sI v2), some (sI (g3 (g3 v0 0) 3)), none, none]) rfl ?_
    refine go_aload kk185_0.1.2.1.2.2 rfl ?_
    refine go_callN0 kk185_0.1.2.2.1.1 rfl rfl rfl ⟨by decide, _, rfl, hK0⟩ ⟨Nat.zero_le _, Nat.zero_le _⟩ (by omega) (tfM_begins (by omega) e4 hK0 ) (fun y10 g12 e13 => ?_)
    refine go_aload kk185_0.1.2.2.1.2 rfl ?_
    refine go_iload kk185_0.1.2.2.2.1 rfl ?_
    refine go_iload kk185_0.1.2.2.2.2 rfl ?_
    refine go_callN1 kk185_0.2.1.1.1.1.1 rfl rfl rfl ⟨by decide, _, rfl, hK0⟩ ⟨Nat.zero_le _, Nat.zero_le _⟩ (by omega) (tfM_kills (by omega) e13 hK0  h1 h2) (fun y14 g16 r15 e17 => ?_)
    refine go_istore kk185_0.2.1.1.1.1.2 rfl (loc2 := [some (sR v0), some (sI v1), some (sI v2), some (sI (g3 (g3 v0 0) 3)), some (sI y14), none]) rfl ?_
    refine go_iload kk185_0.2.1.1.1.2 rfl ?_
    refine go_iflt kk185_0.2.1.1.2.1 r15 (fun c18 => ?_) (fun c19 => ?_)
    · refine go_int kk185_0.2.1.1.2.2 (-1) rfl ?_
      refine go_goto kk185_0.2.1.2.1.1 ?_
      refine go_istore kk185_0.2.2.1.2.2 rfl (loc2 := [some (sR v0), some (sI v1), some (sI v2), some (sI (g3 (g3 v0 0) 3)), some (sI y14), some (sI (-1))]) rfl ?_
      refine go_aload kk185_0.2.2.2.1.1 rfl ?_
      refine go_callN0 kk185_0.2.2.2.1.2 rfl rfl rfl ⟨by decide, _, rfl, hK0⟩ ⟨Nat.zero_le _, Nat.zero_le _⟩ (by omega) (tfM_ends (by omega) e17 hK0 ) (fun y20 g22 e23 => ?_)
      refine go_iload kk185_0.2.2.2.2.1 rfl ?_
      exact go_iret kk185_0.2.2.2.2.2 e23 (inR_of (by decide)) ⟨Nat.zero_le _, Nat.zero_le _⟩ rfl
    · refine go_aload kk185_0.2.1.2.1.2 rfl ?_
      refine go_getR (bI := 0) kk185_0.2.1.2.2.1 e17 hK0 (by decide) rfl rfl (fun r24 => ?_)
      refine go_int kk185_0.2.1.2.2.2 3 rfl ?_
      refine go_ck (fun q26 => ?_)
      refine go_iald kk185_0.2.2.1.1.1 e17 q26 (fun r25 => ?_)
      refine go_iload kk185_0.2.2.1.1.2 rfl ?_
      refine go_isub kk185_0.2.2.1.2.1 ?_
      refine go_istore kk185_0.2.2.1.2.2 rfl (loc2 := [some (sR v0), some (sI v1), some (sI v2), some (sI (g3 (g3 v0 0) 3)), some (sI y14), some (sI (w32 ((g16 (g16 v0 0) 3) - (g3 (g3 v0 0) 3))))]) rfl ?_
      refine go_aload kk185_0.2.2.2.1.1 rfl ?_
      refine go_callN0 kk185_0.2.2.2.1.2 rfl rfl rfl ⟨by decide, _, rfl, hK0⟩ ⟨Nat.zero_le _, Nat.zero_le _⟩ (by omega) (tfM_ends (by omega) e17 hK0 ) (fun y27 g29 e30 => ?_)
      refine go_iload kk185_0.2.2.2.2.1 rfl ?_
      exact go_iret kk185_0.2.2.2.2.2 e30 (inR_w32 _) ⟨Nat.zero_le _, Nat.zero_le _⟩ rfl
  · refine go_int kk185_0.1.1.2.1.1 0 rfl ?_
    exact go_iret kk185_0.1.1.2.1.2 e4 (inR_b (Or.inl rfl)) ⟨Nat.zero_le _, Nat.zero_le _⟩ rfl
theorem tfM_wouldRun {Φ : ev_P} {d : Nat} (hd : 9 ≤ d) {g : gH} (hg : HR g) {v0 v1 v2 : Int} (hK0 : kd v0 = 7) (h1 : InR v1) (h2 : InR v2) : Go Φ pr_P fN 1 (fM_wouldRun g v0 v1 v2) d (pr_P 186) 0 (ev_loc (pr_P 186).1 [(sR v0), (sI v1), (sI v2)]) [] g 0 0 := by
  show Go Φ pr_P fN 1 (fM_wouldRun g v0 v1 v2) d pr_m186 0 [some (sR v0), some (sI v1), some (sI v2), none, none] [] g 0 0
  unfold fM_wouldRun
  refine go_aload kk186_0.1.1.1.1.1 rfl ?_
  refine go_iload kk186_0.1.1.1.1.2 rfl ?_
  refine go_iload kk186_0.1.1.1.2.1 rfl ?_
  refine go_callN3 kk186_0.1.1.1.2.2 rfl rfl rfl ⟨by decide, _, rfl, hK0⟩ ⟨Nat.zero_le _, Nat.zero_le _⟩ (by omega) (tfM_noKill (by omega) hg hK0  h1 h2) (fun y1 g3 r2 e4 => ?_)
  refine go_ifeq kk186_0.1.1.2.1.1 (inR_b r2) (fun c5 => ?_) (fun c6 => ?_)
  · refine go_aload kk186_0.1.2.1.1.1 rfl ?_
    refine go_callN0 kk186_0.1.2.1.1.2 rfl rfl rfl ⟨by decide, _, rfl, hK0⟩ ⟨Nat.zero_le _, Nat.zero_le _⟩ (by omega) (tfM_begins (by omega) e4 hK0 ) (fun y7 g9 e10 => ?_)
    refine go_aload kk186_0.1.2.1.2 rfl ?_
    refine go_iload kk186_0.1.2.2.1.1 rfl ?_
    refine go_iload kk186_0.1.2.2.1.2 rfl ?_
    refine go_callN1 kk186_0.1.2.2.2 rfl rfl rfl ⟨by decide, _, rfl, hK0⟩ ⟨Nat.zero_le _, Nat.zero_le _⟩ (by omega) (tfM_kills (by omega) e10 hK0  h1 h2) (fun y11 g13 r12 e14 => ?_)
    refine go_istore kk186_0.2.1.1.1.1 rfl (loc2 := [some (sR v0), some (sI v1), some (sI v2), some (sI y11), none]) rfl ?_
    refine go_iload kk186_0.2.1.1.1.2 rfl ?_
    refine go_iflt kk186_0.2.1.1.2 r12 (fun c15 => ?_) (fun c16 => ?_)
    · refine go_int kk186_0.2.1.2.1.1 (-1) rfl ?_
      refine go_goto kk186_0.2.1.2.1.2 ?_
      refine go_istore kk186_0.2.2.1.1.2 rfl (loc2 := [some (sR v0), some (sI v1), some (sI v2), some (sI y11), some (sI (-1))]) rfl ?_
      refine go_aload kk186_0.2.2.1.2 rfl ?_
      refine go_callN0 kk186_0.2.2.2.1.1 rfl rfl rfl ⟨by decide, _, rfl, hK0⟩ ⟨Nat.zero_le _, Nat.zero_le _⟩ (by omega) (tfM_ends (by omega) e14 hK0 ) (fun y17 g19 e20 => ?_)
      refine go_iload kk186_0.2.2.2.1.2 rfl ?_
      exact go_iret kk186_0.2.2.2.2 e20 (inR_of (by decide)) ⟨Nat.zero_le _, Nat.zero_le _⟩ rfl
    · refine go_aload kk186_0.2.1.2.2 rfl ?_
      refine go_callP1 kk186_0.2.2.1.1.1 rfl rfl rfl ⟨by decide, _, rfl, hK0⟩ ⟨Nat.zero_le _, Nat.zero_le _⟩ (by omega) (tfM_runningMany (by omega) e14 hK0 ) (fun y21 r22 => ?_)
      refine go_istore kk186_0.2.2.1.1.2 rfl (loc2 := [some (sR v0), some (sI v1), some (sI v2), some (sI y11), some (sI y21)]) rfl ?_
      refine go_aload kk186_0.2.2.1.2 rfl ?_
      refine go_callN0 kk186_0.2.2.2.1.1 rfl rfl rfl ⟨by decide, _, rfl, hK0⟩ ⟨Nat.zero_le _, Nat.zero_le _⟩ (by omega) (tfM_ends (by omega) e14 hK0 ) (fun y25 g27 e28 => ?_)
      refine go_iload kk186_0.2.2.2.1.2 rfl ?_
      exact go_iret kk186_0.2.2.2.2 e28 r22 ⟨Nat.zero_le _, Nat.zero_le _⟩ rfl
  · refine go_int kk186_0.1.1.2.1.2 0 rfl ?_
    exact go_iret kk186_0.1.1.2.2 e4 (inR_b (Or.inl rfl)) ⟨Nat.zero_le _, Nat.zero_le _⟩ rfl
theorem tjM_weakest_69 {Φ : ev_P} {d : Nat} (hd : 9 ≤ d) {X38 : Int → Int → Int → gH → Option (Int × gH)} {g : gH} (hg : HR g) {v0 v1 v2 v3 v4 : Int} (hK0 : kd v0 = 7) (h1 : InR v1) (h2 : InR v2) (h3 : InR v3) (h4 : InR v4) {s0 : Int} (z0 : InR s0) (HX38 : ∀ (v2 : Int) (h2 : InR v2) (v3 : Int) (h3 : InR v3) (v4 : Int) (h4 : InR v4) (g : gH) (hg : HR g) (u5 : Option ev_V) (w5 : nwo u5), Go Φ pr_P fN 1 (X38 v2 v3 v4 g) d pr_m187 38 [some (sR v0), some (sI v1), some (sI v2), some (sI v3), some (sI v4), u5] [] g 0 0) (u5 : Option ev_V) (w5 : nwo u5) : Go Φ pr_P fN 1 (jM_weakest_69 X38 g v0 v1 v2 v3 v4 s0 ) d pr_m187 69 [some (sR v0), some (sI v1), some (sI v2), some (sI v3), some (sI v4), u5] [(sI s0)] g 0 0 := by
  unfold jM_weakest_69
  refine go_istore kk187_0.2.1.2.2.2 rfl (loc2 := [some (sR v0), some (sI v1), some (sI v2), some (sI v3), some (sI v4), some (sI s0)]) rfl ?_
  refine go_iload kk187_0.2.2.1.1.1.1 rfl ?_
  refine go_iload kk187_0.2.2.1.1.1.2 rfl ?_
  refine go_cmgt kk187_0.2.2.1.1.2.1 z0 h3 (fun c31 => ?_) (fun c32 => ?_)
  · refine go_iload kk187_0.2.2.1.1.2.2 rfl ?_
    refine go_istore kk187_0.2.2.1.2.1.1 rfl (loc2 := [some (sR v0), some (sI v1), some (sI v4), some (sI v3), some (sI v4), some (sI s0)]) rfl ?_
    refine go_iload kk187_0.2.2.1.2.1.2 rfl ?_
    refine go_iload kk187_0.2.2.1.2.2 rfl ?_
    refine go_max kk187_0.2.2.2.1.1.1 h3 z0 rfl ⟨Nat.zero_le _, Nat.zero_le _⟩ ?_
    refine go_istore kk187_0.2.2.2.1.1.2 rfl (loc2 := [some (sR v0), some (sI v1), some (sI v4), some (sI (gmax v3 s0)), some (sI v4), some (sI s0)]) rfl ?_
    refine go_iinc kk187_0.2.2.2.1.2 rfl rfl 1 rfl (loc2 := [some (sR v0), some (sI v1), some (sI v4), some (sI (gmax v3 s0)), some (sI (w32 (v4 + 1))), some (sI s0)]) rfl ?_
    refine go_goto kk187_0.2.2.2.2.1.1 ?_
    exact HX38 v4 h4 (gmax v3 s0) (inR_gmax h3 z0) (w32 (v4 + 1)) (inR_w32 _) g hg (some (sI s0)) rfl
  · refine go_iload kk187_0.2.2.1.2.1.2 rfl ?_
    refine go_iload kk187_0.2.2.1.2.2 rfl ?_
    refine go_max kk187_0.2.2.2.1.1.1 h3 z0 rfl ⟨Nat.zero_le _, Nat.zero_le _⟩ ?_
    refine go_istore kk187_0.2.2.2.1.1.2 rfl (loc2 := [some (sR v0), some (sI v1), some (sI v2), some (sI (gmax v3 s0)), some (sI v4), some (sI s0)]) rfl ?_
    refine go_iinc kk187_0.2.2.2.1.2 rfl rfl 1 rfl (loc2 := [some (sR v0), some (sI v1), some (sI v2), some (sI (gmax v3 s0)), some (sI (w32 (v4 + 1))), some (sI s0)]) rfl ?_
    refine go_goto kk187_0.2.2.2.2.1.1 ?_
    exact HX38 v2 h2 (gmax v3 s0) (inR_gmax h3 z0) (w32 (v4 + 1)) (inR_w32 _) g hg (some (sI s0)) rfl
theorem tbM_weakest_38 {Φ : ev_P} {d : Nat} (hd : 9 ≤ d) {v0 v1 : Int} (hK0 : kd v0 = 7) (h1 : InR v1) {X38 : Int → Int → Int → gH → Option (Int × gH)} (HX38 : ∀ (v2 : Int) (h2 : InR v2) (v3 : Int) (h3 : InR v3) (v4 : Int) (h4 : InR v4) (g : gH) (hg : HR g) (u5 : Option ev_V) (w5 : nwo u5), Go Φ pr_P fN 1 (X38 v2 v3 v4 g) d pr_m187 38 [some (sR v0), some (sI v1), some (sI v2), some (sI v3), some (sI v4), u5] [] g 0 0) : ∀ (v2 : Int) (h2 : InR v2) (v3 : Int) (h3 : InR v3) (v4 : Int) (h4 : InR v4) (g : gH) (hg : HR g) (u5 : Option ev_V) (w5 : nwo u5), Go Φ pr_P fN 1 (bM_weakest_38 v0 v1 X38 v2 v3 v4 g) d pr_m187 38 [some (sR v0), some (sI v1), some (sI v2), some (sI v3), some (sI v4), u5] [] g 0 0 := by
  intro v2 h2 v3 h3 v4 h4 g hg u5 w5
  unfold bM_weakest_38
  refine go_iload kk187_0.1.2.2.1.2 rfl ?_
  refine go_aload kk187_0.1.2.2.2.1.1 rfl ?_
  refine go_getR (bI := 0) kk187_0.1.2.2.2.1.2 hg hK0 (by decide) rfl rfl (fun r16 => ?_)
  refine go_int kk187_0.1.2.2.2.2 0 rfl ?_
  refine go_ck (fun q18 => ?_)
  refine go_iald kk187_0.2.1.1.1.1.1 hg q18 (fun r17 => ?_)
  refine go_cmlt kk187_0.2.1.1.1.1.2 h4 r17 (fun c19 => ?_) (fun c20 => ?_)
  · refine go_aload kk187_0.2.1.1.1.2.1 rfl ?_
    refine go_iload kk187_0.2.1.1.1.2.2 rfl ?_
    refine go_callP3 kk187_0.2.1.1.2.1.1 rfl rfl rfl ⟨by decide, _, rfl, hK0⟩ ⟨Nat.zero_le _, Nat.zero_le _⟩ (by omega) (tfM_runs (by omega) hg hK0  h4) (fun y21 r22 => ?_)
    refine go_ifeq kk187_0.2.1.1.2.1.2 (inR_b r22) (fun c25 => ?_) (fun c26 => ?_)
    · refine go_int kk187_0.2.1.2.2.1.2 (-1) rfl ?_
      exact tjM_weakest_69 hd hg hK0 h1 h2 h3 h4 (inR_of (by decide)) HX38 u5 w5
    · refine go_aload kk187_0.2.1.1.2.2 rfl ?_
      refine go_iload kk187_0.2.1.2.1.1.1 rfl ?_
      refine go_iload kk187_0.2.1.2.1.1.2 rfl ?_
      refine go_callN1 kk187_0.2.1.2.1.2 rfl rfl rfl ⟨by decide, _, rfl, hK0⟩ ⟨Nat.zero_le _, Nat.zero_le _⟩ (by omega) (tfM_fallsBy (by omega) hg hK0  h4 h1) (fun y27 g29 r28 e30 => ?_)
      refine go_goto kk187_0.2.1.2.2.1.1 ?_
      exact tjM_weakest_69 hd e30 hK0 h1 h2 h3 h4 r28 HX38 u5 w5
  · refine go_iload kk187_0.2.2.2.2.1.2 rfl ?_
    exact go_iret kk187_0.2.2.2.2.2 hg h2 ⟨Nat.zero_le _, Nat.zero_le _⟩ rfl
theorem tlM_weakest_38 {Φ : ev_P} {d : Nat} (hd : 9 ≤ d) {v0 v1 : Int} (hK0 : kd v0 = 7) (h1 : InR v1) : ∀ n : Nat, ∀ (v2 : Int) (h2 : InR v2) (v3 : Int) (h3 : InR v3) (v4 : Int) (h4 : InR v4) (g : gH) (hg : HR g) (u5 : Option ev_V) (w5 : nwo u5), Go Φ pr_P fN 1 (lM_weakest_38 v0 v1 n v2 v3 v4 g) d pr_m187 38 [some (sR v0), some (sI v1), some (sI v2), some (sI v3), some (sI v4), u5] [] g 0 0 := by
  intro n
  induction n with
  | zero => intros; exact go_none
  | succ n ih => exact tbM_weakest_38 hd hK0 h1 ih
theorem tjM_weakest_22 {Φ : ev_P} {d : Nat} (hd : 9 ≤ d) {g : gH} (hg : HR g) {v0 v1 : Int} (hK0 : kd v0 = 7) (h1 : InR v1) {s0 s1 : Int} (z0 : RfR s0) (z1 : B01 s1) (u2 : Option ev_V) (w2 : nwo u2) (u3 : Option ev_V) (w3 : nwo u3) (u4 : Option ev_V) (w4 : nwo u4) (u5 : Option ev_V) (w5 : nwo u5) : Go Φ pr_P fN 1 (jM_weakest_22 g v0 v1 s0 s1 ) d pr_m187 22 [some (sR v0), some (sI v1), u2, u3, u4, u5] [(sI s1), (sR s0)] g 0 0 := by
  unfold jM_weakest_22
  refine go_int kk187_0.1.1.2.2.1.2 1 rfl ?_
  refine go_ck (fun q9 => ?_)
  refine go_callN3 kk187_0.1.1.2.2.2 rfl rfl rfl ⟨by decide, _, rfl, q9⟩ ⟨Nat.zero_le _, Nat.zero_le _⟩ (by omega) (tfM_fails (by omega) hg q9  z1 (inR_b (Or.inr rfl))) (fun y10 g12 r11 e13 => ?_)
  refine go_ifeq kk187_0.1.2.1.1.1.1 (inR_b r11) (fun c14 => ?_) (fun c15 => ?_)
  · refine go_int kk187_0.1.2.1.1.2.2 (-1) rfl ?_
    refine go_istore kk187_0.1.2.1.2.1.1 rfl (loc2 := [some (sR v0), some (sI v1), some (sI (-1)), u3, u4, u5]) rfl ?_
    refine go_int kk187_0.1.2.1.2.1.2 (-1) rfl ?_
    refine go_istore kk187_0.1.2.1.2.2 rfl (loc2 := [some (sR v0), some (sI v1), some (sI (-1)), some (sI (-1)), u4, u5]) rfl ?_
    refine go_int kk187_0.1.2.2.1.1.1 1 rfl ?_
    refine go_istore kk187_0.1.2.2.1.1.2 rfl (loc2 := [some (sR v0), some (sI v1), some (sI (-1)), some (sI (-1)), some (sI 1), u5]) rfl ?_
    exact tlM_weakest_38 hd hK0 h1 fu (-1) (inR_of (by decide)) (-1) (inR_of (by decide)) 1 (inR_b (Or.inr rfl)) g12 e13 u5 w5
  · refine go_int kk187_0.1.2.1.1.1.2 0 rfl ?_
    exact go_iret kk187_0.1.2.1.1.2.1 e13 (inR_b (Or.inl rfl)) ⟨Nat.zero_le _, Nat.zero_le _⟩ rfl
theorem tfM_weakest {Φ : ev_P} {d : Nat} (hd : 9 ≤ d) {g : gH} (hg : HR g) {v0 v1 : Int} (hK0 : kd v0 = 7) (h1 : InR v1) : Go Φ pr_P fN 1 (fM_weakest g v0 v1) d (pr_P 187) 0 (ev_loc (pr_P 187).1 [(sR v0), (sI v1)]) [] g 0 0 := by
  show Go Φ pr_P fN 1 (fM_weakest g v0 v1) d pr_m187 0 [some (sR v0), some (sI v1), none, none, none, none] [] g 0 0
  unfold fM_weakest
  refine go_aload kk187_0.1.1.1.1.1.1 rfl ?_
  refine go_int kk187_0.1.1.1.1.1.2 0 rfl ?_
  refine go_putI (bI := 8) kk187_0.1.1.1.1.2.1 hg hK0 (by decide) rfl rfl (inR_b (Or.inl rfl)) (fun g1 e2 => ?_)
  refine go_aload kk187_0.1.1.1.1.2.2 rfl ?_
  refine go_iload kk187_0.1.1.1.2.1.1 rfl ?_
  refine go_int kk187_0.1.1.1.2.1.2 0 rfl ?_
  refine go_int kk187_0.1.1.1.2.2 255 rfl ?_
  refine go_callP3 kk187_0.1.1.2.1.1.1 rfl rfl rfl trivial ⟨Nat.zero_le _, Nat.zero_le _⟩ (by omega) (tfM_inRange (by omega) e2  h1 (inR_b (Or.inl rfl)) (inR_of (by decide))) (fun y3 r4 => ?_)
  refine go_ifeq kk187_0.1.1.2.1.1.2 (inR_b r4) (fun c7 => ?_) (fun c8 => ?_)
  · refine go_int kk187_0.1.1.2.1.2.1 1 rfl ?_
    refine go_goto kk187_0.1.1.2.1.2.2 ?_
    exact tjM_weakest_22 hd e2 hK0 h1 (rfR_kd hK0 (by decide)) (Or.inr rfl) none rfl none rfl none rfl none rfl
  · refine go_int kk187_0.1.1.2.2.1.1 0 rfl ?_
    exact tjM_weakest_22 hd e2 hK0 h1 (rfR_kd hK0 (by decide)) (Or.inl rfl) none rfl none rfl none rfl none rfl
theorem tfM_betterCode {Φ : ev_P} {d : Nat} (hd : 9 ≤ d) {g : gH} (hg : HR g) {v0 v1 : Int} (hK0 : kd v0 = 7) (h1 : InR v1) : Go Φ pr_P fN 1 (fM_betterCode g v0 v1) d (pr_P 188) 0 (ev_loc (pr_P 188).1 [(sR v0), (sI v1)]) [] g 0 0 := by
  show Go Φ pr_P fN 1 (fM_betterCode g v0 v1) d pr_m188 0 [some (sR v0), some (sI v1)] [] g 0 0
  unfold fM_betterCode
  refine go_aload kk188_0.1.1.1.1.1 rfl ?_
  refine go_iload kk188_0.1.1.1.1.2 rfl ?_
  refine go_int kk188_0.1.1.1.2 2 rfl ?_
  refine go_callN3 kk188_0.1.1.2.1 rfl rfl rfl ⟨by decide, _, rfl, hK0⟩ ⟨Nat.zero_le _, Nat.zero_le _⟩ (by omega) (tfM_notExiting (by omega) hg hK0  h1 (inR_of (by decide))) (fun y1 g3 r2 e4 => ?_)
  refine go_ifeq kk188_0.1.1.2.2 (inR_b r2) (fun c5 => ?_) (fun c6 => ?_)
  · refine go_aload kk188_0.1.2.1.2 rfl ?_
    refine go_iload kk188_0.1.2.2.1 rfl ?_
    refine go_int kk188_0.1.2.2.2 1 rfl ?_
    refine go_callN1 kk188_0.2.1.1.1.1 rfl rfl rfl ⟨by decide, _, rfl, hK0⟩ ⟨Nat.zero_le _, Nat.zero_le _⟩ (by omega) (tfM_fallsBy (by omega) e4 hK0  h1 (inR_b (Or.inr rfl))) (fun y7 g9 r8 e10 => ?_)
    refine go_aload kk188_0.2.1.1.1.2 rfl ?_
    refine go_iload kk188_0.2.1.1.2 rfl ?_
    refine go_int kk188_0.2.1.2.1 0 rfl ?_
    refine go_callN1 kk188_0.2.1.2.2 rfl rfl rfl ⟨by decide, _, rfl, hK0⟩ ⟨Nat.zero_le _, Nat.zero_le _⟩ (by omega) (tfM_fallsBy (by omega) e10 hK0  h1 (inR_b (Or.inl rfl))) (fun y11 g13 r12 e14 => ?_)
    refine go_cmlt kk188_0.2.2.1.1.1 r8 r12 (fun c15 => ?_) (fun c16 => ?_)
    · refine go_int kk188_0.2.2.1.1.2 1 rfl ?_
      refine go_goto kk188_0.2.2.1.2 ?_
      exact go_iret kk188_0.2.2.2.2 e14 (inR_b (Or.inr rfl)) ⟨Nat.zero_le _, Nat.zero_le _⟩ rfl
    · refine go_int kk188_0.2.2.2.1 0 rfl ?_
      exact go_iret kk188_0.2.2.2.2 e14 (inR_b (Or.inl rfl)) ⟨Nat.zero_le _, Nat.zero_le _⟩ rfl
  · refine go_int kk188_0.1.2.1.1.1 0 rfl ?_
    refine go_goto kk188_0.1.2.1.1.2 ?_
    exact go_iret kk188_0.2.2.2.2 e4 (inR_b (Or.inl rfl)) ⟨Nat.zero_le _, Nat.zero_le _⟩ rfl
theorem tbM_dutyLife_22 {Φ : ev_P} {d : Nat} (hd : 8 ≤ d) {v0 v1 : Int} (hK0 : kd v0 = 7) (h1 : InR v1) {X22 : Int → gH → Option (Int × gH)} (HX22 : ∀ (v2 : Int) (h2 : InR v2) (g : gH) (hg : HR g) (u3 : Option ev_V) (w3 : nwo u3), Go Φ pr_P fN 1 (X22 v2 g) d pr_m189 22 [some (sR v0), some (sI v1), some (sI v2), u3] [] g 0 0) : ∀ (v2 : Int) (h2 : InR v2) (g : gH) (hg : HR g) (u3 : Option ev_V) (w3 : nwo u3), Go Φ pr_P fN 1 (bM_dutyLife_22 v0 v1 X22 v2 g) d pr_m189 22 [some (sR v0), some (sI v1), some (sI v2), u3] [] g 0 0 := by
  intro v2 h2 g hg u3 w3
  unfold bM_dutyLife_22
  refine go_aload kk189_0.1.2.1.2.1.1 rfl ?_
  refine go_getR (bI := 0) kk189_0.1.2.1.2.1.2 hg hK0 (by decide) rfl rfl (fun r13 => ?_)
  refine go_int kk189_0.1.2.1.2.2 11 rfl ?_
  refine go_iload kk189_0.1.2.2.1.1.1 rfl ?_
  refine go_iadd kk189_0.1.2.2.1.1.2 ?_
  refine go_ck (fun q15 => ?_)
  refine go_iald kk189_0.1.2.2.1.2 hg q15 (fun r14 => ?_)
  refine go_ifeq kk189_0.1.2.2.2.1 r14 (fun c16 => ?_) (fun c17 => ?_)
  · refine go_aload kk189_0.2.2.2.1.1.2 rfl ?_
    refine go_callN0 kk189_0.2.2.2.1.2 rfl rfl rfl ⟨by decide, _, rfl, hK0⟩ ⟨Nat.zero_le _, Nat.zero_le _⟩ (by omega) (tfM_ends (by omega) hg hK0 ) (fun y18 g20 e21 => ?_)
    refine go_iload kk189_0.2.2.2.2.1 rfl ?_
    exact go_iret kk189_0.2.2.2.2.2 e21 h2 ⟨Nat.zero_le _, Nat.zero_le _⟩ rfl
  · refine go_aload kk189_0.1.2.2.2.2 rfl ?_
    refine go_aload kk189_0.2.1.1.1.1.1 rfl ?_
    refine go_getR (bI := 0) kk189_0.2.1.1.1.1.2 hg hK0 (by decide) rfl rfl (fun r22 => ?_)
    refine go_int kk189_0.2.1.1.1.2 11 rfl ?_
    refine go_iload kk189_0.2.1.1.2.1.1 rfl ?_
    refine go_iadd kk189_0.2.1.1.2.1.2 ?_
    refine go_ck (fun q24 => ?_)
    refine go_iald kk189_0.2.1.1.2.2 hg q24 (fun r23 => ?_)
    refine go_int kk189_0.2.1.2.1.1.1 0 rfl ?_
    refine go_callN1 kk189_0.2.1.2.1.1.2 rfl rfl rfl ⟨by decide, _, rfl, hK0⟩ ⟨Nat.zero_le _, Nat.zero_le _⟩ (by omega) (tfM_exits (by omega) hg hK0  r23 (inR_b (Or.inl rfl))) (fun y25 g27 r26 e28 => ?_)
    refine go_istore kk189_0.2.1.2.1.2 rfl (loc2 := [some (sR v0), some (sI v1), some (sI v2), some (sI y25)]) rfl ?_
    refine go_iload kk189_0.2.1.2.2.1 rfl ?_
    refine go_iload kk189_0.2.1.2.2.2 rfl ?_
    refine go_iflt kk189_0.2.2.1.1.1.1 r26 (fun c29 => ?_) (fun c30 => ?_)
    · refine go_int kk189_0.2.2.1.1.1.2 0 rfl ?_
      refine go_goto kk189_0.2.2.1.1.2 ?_
      refine go_iadd kk189_0.2.2.1.2.1.2 ?_
      refine go_istore kk189_0.2.2.1.2.2 rfl (loc2 := [some (sR v0), some (sI v1), some (sI (w32 (v2 + 0))), some (sI y25)]) rfl ?_
      refine go_goto kk189_0.2.2.2.1.1.1 ?_
      exact HX22 (w32 (v2 + 0)) (inR_w32 _) g27 e28 (some (sI y25)) rfl
    · refine go_int kk189_0.2.2.1.2.1.1 1 rfl ?_
      refine go_iadd kk189_0.2.2.1.2.1.2 ?_
      refine go_istore kk189_0.2.2.1.2.2 rfl (loc2 := [some (sR v0), some (sI v1), some (sI (w32 (v2 + 1))), some (sI y25)]) rfl ?_
      refine go_goto kk189_0.2.2.2.1.1.1 ?_
      exact HX22 (w32 (v2 + 1)) (inR_w32 _) g27 e28 (some (sI y25)) rfl
theorem tlM_dutyLife_22 {Φ : ev_P} {d : Nat} (hd : 8 ≤ d) {v0 v1 : Int} (hK0 : kd v0 = 7) (h1 : InR v1) : ∀ n : Nat, ∀ (v2 : Int) (h2 : InR v2) (g : gH) (hg : HR g) (u3 : Option ev_V) (w3 : nwo u3), Go Φ pr_P fN 1 (lM_dutyLife_22 v0 v1 n v2 g) d pr_m189 22 [some (sR v0), some (sI v1), some (sI v2), u3] [] g 0 0 := by
  intro n
  induction n with
  | zero => intros; exact go_none
  | succ n ih => exact tbM_dutyLife_22 hd hK0 h1 ih
theorem tfM_dutyLife {Φ : ev_P} {d : Nat} (hd : 8 ≤ d) {g : gH} (hg : HR g) {v0 v1 : Int} (hK0 : kd v0 = 7) (h1 : InR v1) : Go Φ pr_P fN 1 (fM_dutyLife g v0 v1) d (pr_P 189) 0 (ev_loc (pr_P 189).1 [(sR v0), (sI v1)]) [] g 0 0 := by
  show Go Φ pr_P fN 1 (fM_dutyLife g v0 v1) d pr_m189 0 [some (sR v0), some (sI v1), none, none] [] g 0 0
  unfold fM_dutyLife
  refine go_aload kk189_0.1.1.1.1.1.1 rfl ?_
  refine go_int kk189_0.1.1.1.1.1.2 0 rfl ?_
  refine go_putI (bI := 8) kk189_0.1.1.1.1.2 hg hK0 (by decide) rfl rfl (inR_b (Or.inl rfl)) (fun g1 e2 => ?_)
  refine go_aload kk189_0.1.1.1.2.1.1 rfl ?_
  refine go_iload kk189_0.1.1.1.2.1.2 rfl ?_
  refine go_int kk189_0.1.1.1.2.2 1 rfl ?_
  refine go_callN3 kk189_0.1.1.2.1.1.1 rfl rfl rfl ⟨by decide, _, rfl, hK0⟩ ⟨Nat.zero_le _, Nat.zero_le _⟩ (by omega) (tfM_noDuty (by omega) e2 hK0  h1 (inR_b (Or.inr rfl))) (fun y3 g5 r4 e6 => ?_)
  refine go_ifeq kk189_0.1.1.2.1.1.2 (inR_b r4) (fun c7 => ?_) (fun c8 => ?_)
  · refine go_aload kk189_0.1.1.2.2.2 rfl ?_
    refine go_callN0 kk189_0.1.2.1.1.1.1 rfl rfl rfl ⟨by decide, _, rfl, hK0⟩ ⟨Nat.zero_le _, Nat.zero_le _⟩ (by omega) (tfM_begins (by omega) e6 hK0 ) (fun y9 g11 e12 => ?_)
    refine go_int kk189_0.1.2.1.1.1.2 0 rfl ?_
    refine go_istore kk189_0.1.2.1.1.2 rfl (loc2 := [some (sR v0), some (sI v1), some (sI 0), none]) rfl ?_
    exact tlM_dutyLife_22 hd hK0 h1 fu 0 (inR_b (Or.inl rfl)) g11 e12 none rfl
  · refine go_int kk189_0.1.1.2.1.2 0 rfl ?_
    exact go_iret kk189_0.1.1.2.2.1 e6 (inR_b (Or.inl rfl)) ⟨Nat.zero_le _, Nat.zero_le _⟩ rfl
theorem tbM_roomiest_31 {Φ : ev_P} {d : Nat} (hd : 3 ≤ d) {g : gH} (hg : HR g) {v0 v1 : Int} (hK0 : kd v0 = 7) (h1 : InR v1) {X31 : Int → Int → Option (Int × gH)} (HX31 : ∀ (v2 : Int) (h2 : InR v2) (v3 : Int) (h3 : InR v3), Go Φ pr_P fN 1 (X31 v2 v3) d pr_m190 31 [some (sR v0), some (sI v1), some (sI v2), some (sI v3)] [] g 0 0) : ∀ (v2 : Int) (h2 : InR v2) (v3 : Int) (h3 : InR v3), Go Φ pr_P fN 1 (bM_roomiest_31 g v0 v1 X31 v2 v3) d pr_m190 31 [some (sR v0), some (sI v1), some (sI v2), some (sI v3)] [] g 0 0 := by
  intro v2 h2 v3 h3
  unfold bM_roomiest_31
  refine go_iload kk190_0.1.2.1.2.2 rfl ?_
  refine go_aload kk190_0.1.2.2.1.1.1 rfl ?_
  refine go_getR (bI := 0) kk190_0.1.2.2.1.1.2 hg hK0 (by decide) rfl rfl (fun r16 => ?_)
  refine go_int kk190_0.1.2.2.1.2 0 rfl ?_
  refine go_ck (fun q18 => ?_)
  refine go_iald kk190_0.1.2.2.2.1.1 hg q18 (fun r17 => ?_)
  refine go_cmlt kk190_0.1.2.2.2.1.2 h3 r17 (fun c19 => ?_) (fun c20 => ?_)
  · refine go_aload kk190_0.1.2.2.2.2 rfl ?_
    refine go_iload kk190_0.2.1.1.1.1.1 rfl ?_
    refine go_callP1 kk190_0.2.1.1.1.1.2 rfl rfl rfl ⟨by decide, _, rfl, hK0⟩ ⟨Nat.zero_le _, Nat.zero_le _⟩ (by omega) (tfM_roomOf (by omega) hg hK0  h3) (fun y21 r22 => ?_)
    refine go_ifeq kk190_0.2.1.1.1.2.1 r22 (fun c25 => ?_) (fun c26 => ?_)
    · refine go_iinc kk190_0.2.2.2.1.2 rfl rfl 1 rfl (loc2 := [some (sR v0), some (sI v1), some (sI v2), some (sI (w32 (v3 + 1)))]) rfl ?_
      refine go_goto kk190_0.2.2.2.2.1.1 ?_
      exact HX31 v2 h2 (w32 (v3 + 1)) (inR_w32 _)
    · refine go_aload kk190_0.2.1.1.1.2.2 rfl ?_
      refine go_iload kk190_0.2.1.1.2.1.1 rfl ?_
      refine go_iload kk190_0.2.1.1.2.1.2 rfl ?_
      refine go_callP3 kk190_0.2.1.1.2.2 rfl rfl rfl ⟨by decide, _, rfl, hK0⟩ ⟨Nat.zero_le _, Nat.zero_le _⟩ (by omega) (tfM_refusesGroup (by omega) hg hK0  h3 h1) (fun y27 r28 => ?_)
      refine go_ifeq kk190_0.2.1.2.1.1.1 (inR_b r28) (fun c31 => ?_) (fun c32 => ?_)
      · refine go_iload kk190_0.2.1.2.1.2 rfl ?_
        refine go_int kk190_0.2.1.2.2.1.1 (-1) rfl ?_
        refine go_cmeq kk190_0.2.1.2.2.1.2 h2 (inR_of (by decide)) (fun c33 => ?_) (fun c34 => ?_)
        · refine go_iload kk190_0.2.2.2.1.1.1 rfl ?_
          refine go_istore kk190_0.2.2.2.1.1.2 rfl (loc2 := [some (sR v0), some (sI v1), some (sI v3), some (sI v3)]) rfl ?_
          refine go_iinc kk190_0.2.2.2.1.2 rfl rfl 1 rfl (loc2 := [some (sR v0), some (sI v1), some (sI v3), some (sI (w32 (v3 + 1)))]) rfl ?_
          refine go_goto kk190_0.2.2.2.2.1.1 ?_
          exact HX31 v3 h3 (w32 (v3 + 1)) (inR_w32 _)
        · refine go_aload kk190_0.2.1.2.2.2 rfl ?_
          refine go_iload kk190_0.2.2.1.1.1.1 rfl ?_
          refine go_callP1 kk190_0.2.2.1.1.1.2 rfl rfl rfl ⟨by decide, _, rfl, hK0⟩ ⟨Nat.zero_le _, Nat.zero_le _⟩ (by omega) (tfM_roomOf (by omega) hg hK0  h3) (fun y35 r36 => ?_)
          refine go_aload kk190_0.2.2.1.1.2 rfl ?_
          refine go_iload kk190_0.2.2.1.2.1.1 rfl ?_
          refine go_callP1 kk190_0.2.2.1.2.1.2 rfl rfl rfl ⟨by decide, _, rfl, hK0⟩ ⟨Nat.zero_le _, Nat.zero_le _⟩ (by omega) (tfM_roomOf (by omega) hg hK0  h2) (fun y39 r40 => ?_)
          refine go_cmgt kk190_0.2.2.1.2.2 r36 r40 (fun c43 => ?_) (fun c44 => ?_)
          · refine go_iload kk190_0.2.2.2.1.1.1 rfl ?_
            refine go_istore kk190_0.2.2.2.1.1.2 rfl (loc2 := [some (sR v0), some (sI v1), some (sI v3), some (sI v3)]) rfl ?_
            refine go_iinc kk190_0.2.2.2.1.2 rfl rfl 1 rfl (loc2 := [some (sR v0), some (sI v1), some (sI v3), some (sI (w32 (v3 + 1)))]) rfl ?_
            refine go_goto kk190_0.2.2.2.2.1.1 ?_
            exact HX31 v3 h3 (w32 (v3 + 1)) (inR_w32 _)
          · refine go_iinc kk190_0.2.2.2.1.2 rfl rfl 1 rfl (loc2 := [some (sR v0), some (sI v1), some (sI v2), some (sI (w32 (v3 + 1)))]) rfl ?_
            refine go_goto kk190_0.2.2.2.2.1.1 ?_
            exact HX31 v2 h2 (w32 (v3 + 1)) (inR_w32 _)
      · refine go_goto kk190_0.2.1.2.1.1.2 ?_
        refine go_iinc kk190_0.2.2.2.1.2 rfl rfl 1 rfl (loc2 := [some (sR v0), some (sI v1), some (sI v2), some (sI (w32 (v3 + 1)))]) rfl ?_
        refine go_goto kk190_0.2.2.2.2.1.1 ?_
        exact HX31 v2 h2 (w32 (v3 + 1)) (inR_w32 _)
  · refine go_iload kk190_0.2.2.2.2.1.2 rfl ?_
    exact go_iret kk190_0.2.2.2.2.2 hg h2 ⟨Nat.zero_le _, Nat.zero_le _⟩ rfl
theorem tlM_roomiest_31 {Φ : ev_P} {d : Nat} (hd : 3 ≤ d) {g : gH} (hg : HR g) {v0 v1 : Int} (hK0 : kd v0 = 7) (h1 : InR v1) : ∀ n : Nat, ∀ (v2 : Int) (h2 : InR v2) (v3 : Int) (h3 : InR v3), Go Φ pr_P fN 1 (lM_roomiest_31 g v0 v1 n v2 v3) d pr_m190 31 [some (sR v0), some (sI v1), some (sI v2), some (sI v3)] [] g 0 0 := by
  intro n
  induction n with
  | zero => intros; exact go_none
  | succ n ih => exact tbM_roomiest_31 hd hg hK0 h1 ih
theorem tjM_roomiest_18 {Φ : ev_P} {d : Nat} (hd : 3 ≤ d) {g : gH} (hg : HR g) {v0 v1 : Int} (hK0 : kd v0 = 7) (h1 : InR v1) {s0 s1 : Int} (z0 : RfR s0) (z1 : B01 s1) (u2 : Option ev_V) (w2 : nwo u2) (u3 : Option ev_V) (w3 : nwo u3) : Go Φ pr_P fN 1 (jM_roomiest_18 g v0 v1 s0 s1 ) d pr_m190 18 [some (sR v0), some (sI v1), u2, u3] [(sI s1), (sR s0)] g 0 0 := by
  unfold jM_roomiest_18
  refine go_int kk190_0.1.1.2.2.1.1 1 rfl ?_
  refine go_ck (fun q9 => ?_)
  refine go_callN3 kk190_0.1.1.2.2.1.2 rfl rfl rfl ⟨by decide, _, rfl, q9⟩ ⟨Nat.zero_le _, Nat.zero_le _⟩ (by omega) (tfM_fails (by omega) hg q9  z1 (inR_b (Or.inr rfl))) (fun y10 g12 r11 e13 => ?_)
  refine go_ifeq kk190_0.1.1.2.2.2 (inR_b r11) (fun c14 => ?_) (fun c15 => ?_)
  · refine go_int kk190_0.1.2.1.1.2.1 (-1) rfl ?_
    refine go_istore kk190_0.1.2.1.1.2.2 rfl (loc2 := [some (sR v0), some (sI v1), some (sI (-1)), u3]) rfl ?_
    refine go_int kk190_0.1.2.1.2.1.1 1 rfl ?_
    refine go_istore kk190_0.1.2.1.2.1.2 rfl (loc2 := [some (sR v0), some (sI v1), some (sI (-1)), some (sI 1)]) rfl ?_
    exact tlM_roomiest_31 hd e13 hK0 h1 fu (-1) (inR_of (by decide)) 1 (inR_b (Or.inr rfl))
  · refine go_int kk190_0.1.2.1.1.1.1 0 rfl ?_
    exact go_iret kk190_0.1.2.1.1.1.2 e13 (inR_b (Or.inl rfl)) ⟨Nat.zero_le _, Nat.zero_le _⟩ rfl
theorem tfM_roomiest {Φ : ev_P} {d : Nat} (hd : 3 ≤ d) {g : gH} (hg : HR g) {v0 v1 : Int} (hK0 : kd v0 = 7) (h1 : InR v1) : Go Φ pr_P fN 1 (fM_roomiest g v0 v1) d (pr_P 190) 0 (ev_loc (pr_P 190).1 [(sR v0), (sI v1)]) [] g 0 0 := by
  show Go Φ pr_P fN 1 (fM_roomiest g v0 v1) d pr_m190 0 [some (sR v0), some (sI v1), none, none] [] g 0 0
  unfold fM_roomiest
  refine go_aload kk190_0.1.1.1.1.1.1 rfl ?_
  refine go_int kk190_0.1.1.1.1.1.2 0 rfl ?_
  refine go_putI (bI := 8) kk190_0.1.1.1.1.2.1 hg hK0 (by decide) rfl rfl (inR_b (Or.inl rfl)) (fun g1 e2 => ?_)
  refine go_aload kk190_0.1.1.1.1.2.2 rfl ?_
  refine go_iload kk190_0.1.1.1.2.1.1 rfl ?_
  refine go_callP3 kk190_0.1.1.1.2.1.2 rfl rfl rfl trivial ⟨Nat.zero_le _, Nat.zero_le _⟩ (by omega) (tfM_isSmall (by omega) e2  h1) (fun y3 r4 => ?_)
  refine go_ifeq kk190_0.1.1.1.2.2 (inR_b r4) (fun c7 => ?_) (fun c8 => ?_)
  · refine go_int kk190_0.1.1.2.1.1.1 1 rfl ?_
    refine go_goto kk190_0.1.1.2.1.1.2 ?_
    exact tjM_roomiest_18 hd e2 hK0 h1 (rfR_kd hK0 (by decide)) (Or.inr rfl) none rfl none rfl
  · refine go_int kk190_0.1.1.2.1.2 0 rfl ?_
    exact tjM_roomiest_18 hd e2 hK0 h1 (rfR_kd hK0 (by decide)) (Or.inl rfl) none rfl none rfl
theorem tbM_allRoom_9 {Φ : ev_P} {d : Nat} (hd : 3 ≤ d) {g : gH} (hg : HR g) {v0 : Int} (hK0 : kd v0 = 7) {X9 : Int → Int → Option (Int × gH)} (HX9 : ∀ (v1 : Int) (h1 : InR v1) (v2 : Int) (h2 : InR v2), Go Φ pr_P fN 1 (X9 v1 v2) d pr_m191 9 [some (sR v0), some (sI v1), some (sI v2)] [] g 0 0) : ∀ (v1 : Int) (h1 : InR v1) (v2 : Int) (h2 : InR v2), Go Φ pr_P fN 1 (bM_allRoom_9 g v0 X9 v1 v2) d pr_m191 9 [some (sR v0), some (sI v1), some (sI v2)] [] g 0 0 := by
  intro v1 h1 v2 h2
  unfold bM_allRoom_9
  refine go_iload kk191_0.1.2.1.1.2 rfl ?_
  refine go_aload kk191_0.1.2.1.2 rfl ?_
  refine go_getR (bI := 0) kk191_0.1.2.2.1.1 hg hK0 (by decide) rfl rfl (fun r3 => ?_)
  refine go_int kk191_0.1.2.2.1.2 0 rfl ?_
  refine go_ck (fun q5 => ?_)
  refine go_iald kk191_0.1.2.2.2 hg q5 (fun r4 => ?_)
  refine go_cmlt kk191_0.2.1.1.1.1 h2 r4 (fun c6 => ?_) (fun c7 => ?_)
  · refine go_iload kk191_0.2.1.1.1.2 rfl ?_
    refine go_aload kk191_0.2.1.1.2 rfl ?_
    refine go_iload kk191_0.2.1.2.1.1 rfl ?_
    refine go_callP1 kk191_0.2.1.2.1.2 rfl rfl rfl ⟨by decide, _, rfl, hK0⟩ ⟨Nat.zero_le _, Nat.zero_le _⟩ (by omega) (tfM_roomOf (by omega) hg hK0  h2) (fun y8 r9 => ?_)
    refine go_iadd kk191_0.2.1.2.2 ?_
    refine go_istore kk191_0.2.2.1.1.1 rfl (loc2 := [some (sR v0), some (sI (w32 (v1 + y8))), some (sI v2)]) rfl ?_
    refine go_iinc kk191_0.2.2.1.1.2 rfl rfl 1 rfl (loc2 := [some (sR v0), some (sI (w32 (v1 + y8))), some (sI (w32 (v2 + 1)))]) rfl ?_
    refine go_goto kk191_0.2.2.1.2 ?_
    exact HX9 (w32 (v1 + y8)) (inR_w32 _) (w32 (v2 + 1)) (inR_w32 _)
  · refine go_iload kk191_0.2.2.2.1 rfl ?_
    exact go_iret kk191_0.2.2.2.2 hg h1 ⟨Nat.zero_le _, Nat.zero_le _⟩ rfl
theorem tlM_allRoom_9 {Φ : ev_P} {d : Nat} (hd : 3 ≤ d) {g : gH} (hg : HR g) {v0 : Int} (hK0 : kd v0 = 7) : ∀ n : Nat, ∀ (v1 : Int) (h1 : InR v1) (v2 : Int) (h2 : InR v2), Go Φ pr_P fN 1 (lM_allRoom_9 g v0 n v1 v2) d pr_m191 9 [some (sR v0), some (sI v1), some (sI v2)] [] g 0 0 := by
  intro n
  induction n with
  | zero => intros; exact go_none
  | succ n ih => exact tbM_allRoom_9 hd hg hK0 ih
theorem tfM_allRoom {Φ : ev_P} {d : Nat} (hd : 3 ≤ d) {g : gH} (hg : HR g) {v0 : Int} (hK0 : kd v0 = 7) : Go Φ pr_P fN 1 (fM_allRoom g v0) d (pr_P 191) 0 (ev_loc (pr_P 191).1 [(sR v0)]) [] g 0 0 := by
  show Go Φ pr_P fN 1 (fM_allRoom g v0) d pr_m191 0 [some (sR v0), none, none] [] g 0 0
  unfold fM_allRoom
  refine go_aload kk191_0.1.1.1.1.1 rfl ?_
  refine go_int kk191_0.1.1.1.1.2 0 rfl ?_
  refine go_putI (bI := 8) kk191_0.1.1.1.2 hg hK0 (by decide) rfl rfl (inR_b (Or.inl rfl)) (fun g1 e2 => ?_)
  refine go_int kk191_0.1.1.2.1.1 0 rfl ?_
  refine go_istore kk191_0.1.1.2.1.2 rfl (loc2 := [some (sR v0), some (sI 0), none]) rfl ?_
  refine go_int kk191_0.1.1.2.2 0 rfl ?_
  refine go_istore kk191_0.1.2.1.1.1 rfl (loc2 := [some (sR v0), some (sI 0), some (sI 0)]) rfl ?_
  exact tlM_allRoom_9 hd e2 hK0 fu 0 (inR_b (Or.inl rfl)) 0 (inR_b (Or.inl rfl))
theorem tbM_overfull_9 {Φ : ev_P} {d : Nat} (hd : 2 ≤ d) {g : gH} (hg : HR g) {v0 : Int} (hK0 : kd v0 = 7) {X9 : Int → Int → Option (Int × gH)} (HX9 : ∀ (v1 : Int) (h1 : InR v1) (v2 : Int) (h2 : InR v2), Go Φ pr_P fN 1 (X9 v1 v2) d pr_m192 9 [some (sR v0), some (sI v1), some (sI v2)] [] g 0 0) : ∀ (v1 : Int) (h1 : InR v1) (v2 : Int) (h2 : InR v2), Go Φ pr_P fN 1 (bM_overfull_9 g v0 X9 v1 v2) d pr_m192 9 [some (sR v0), some (sI v1), some (sI v2)] [] g 0 0 := by
  intro v1 h1 v2 h2
  unfold bM_overfull_9
  refine go_iload kk192_0.1.1.2.1.2 rfl ?_
  refine go_aload kk192_0.1.1.2.2.1 rfl ?_
  refine go_getR (bI := 0) kk192_0.1.1.2.2.2 hg hK0 (by decide) rfl rfl (fun r3 => ?_)
  refine go_int kk192_0.1.2.1.1.1.1 0 rfl ?_
  refine go_ck (fun q5 => ?_)
  refine go_iald kk192_0.1.2.1.1.1.2 hg q5 (fun r4 => ?_)
  refine go_cmlt kk192_0.1.2.1.1.2 h2 r4 (fun c6 => ?_) (fun c7 => ?_)
  · refine go_iload kk192_0.1.2.1.2.1 rfl ?_
    refine go_aload kk192_0.1.2.1.2.2 rfl ?_
    refine go_iload kk192_0.1.2.2.1.1 rfl ?_
    refine go_callP3 kk192_0.1.2.2.1.2 rfl rfl rfl ⟨by decide, _, rfl, hK0⟩ ⟨Nat.zero_le _, Nat.zero_le _⟩ (by omega) (tfM_runs (by omega) hg hK0  h2) (fun y8 r9 => ?_)
    refine go_ifeq kk192_0.1.2.2.2.1 (inR_b r9) (fun c12 => ?_) (fun c13 => ?_)
    · refine go_int kk192_0.2.2.1.1.2 0 rfl ?_
      refine go_iadd kk192_0.2.2.1.2.1 ?_
      refine go_istore kk192_0.2.2.1.2.2 rfl (loc2 := [some (sR v0), some (sI (w32 (v1 + 0))), some (sI v2)]) rfl ?_
      refine go_iinc kk192_0.2.2.2.1.1 rfl rfl 1 rfl (loc2 := [some (sR v0), some (sI (w32 (v1 + 0))), some (sI (w32 (v2 + 1)))]) rfl ?_
      refine go_goto kk192_0.2.2.2.1.2 ?_
      exact HX9 (w32 (v1 + 0)) (inR_w32 _) (w32 (v2 + 1)) (inR_w32 _)
    · refine go_aload kk192_0.1.2.2.2.2 rfl ?_
      refine go_iload kk192_0.2.1.1.1.1.1 rfl ?_
      refine go_int kk192_0.2.1.1.1.1.2 0 rfl ?_
      refine go_callP1 kk192_0.2.1.1.1.2 rfl rfl rfl ⟨by decide, _, rfl, hK0⟩ ⟨Nat.zero_le _, Nat.zero_le _⟩ (by omega) (tfM_childrenOf (by omega) hg hK0  h2 (inR_b (Or.inl rfl))) (fun y14 r15 => ?_)
      refine go_aload kk192_0.2.1.1.2.1 rfl ?_
      refine go_getR (bI := 0) kk192_0.2.1.1.2.2 hg hK0 (by decide) rfl rfl (fun r18 => ?_)
      refine go_int kk192_0.2.1.2.1.1.1 100 rfl ?_
      refine go_iload kk192_0.2.1.2.1.1.2 rfl ?_
      refine go_iadd kk192_0.2.1.2.1.2 ?_
      refine go_ck (fun q20 => ?_)
      refine go_iald kk192_0.2.1.2.2.1 hg q20 (fun r19 => ?_)
      refine go_cmgt kk192_0.2.1.2.2.2 r15 r19 (fun c21 => ?_) (fun c22 => ?_)
      · refine go_int kk192_0.2.2.1.1.1.1 1 rfl ?_
        refine go_goto kk192_0.2.2.1.1.1.2 ?_
        refine go_iadd kk192_0.2.2.1.2.1 ?_
        refine go_istore kk192_0.2.2.1.2.2 rfl (loc2 := [some (sR v0), some (sI (w32 (v1 + 1))), some (sI v2)]) rfl ?_
        refine go_iinc kk192_0.2.2.2.1.1 rfl rfl 1 rfl (loc2 := [some (sR v0), some (sI (w32 (v1 + 1))), some (sI (w32 (v2 + 1)))]) rfl ?_
        refine go_goto kk192_0.2.2.2.1.2 ?_
        exact HX9 (w32 (v1 + 1)) (inR_w32 _) (w32 (v2 + 1)) (inR_w32 _)
      · refine go_int kk192_0.2.2.1.1.2 0 rfl ?_
        refine go_iadd kk192_0.2.2.1.2.1 ?_
        refine go_istore kk192_0.2.2.1.2.2 rfl (loc2 := [some (sR v0), some (sI (w32 (v1 + 0))), some (sI v2)]) rfl ?_
        refine go_iinc kk192_0.2.2.2.1.1 rfl rfl 1 rfl (loc2 := [some (sR v0), some (sI (w32 (v1 + 0))), some (sI (w32 (v2 + 1)))]) rfl ?_
        refine go_goto kk192_0.2.2.2.1.2 ?_
        exact HX9 (w32 (v1 + 0)) (inR_w32 _) (w32 (v2 + 1)) (inR_w32 _)
  · refine go_iload kk192_0.2.2.2.2.1 rfl ?_
    exact go_iret kk192_0.2.2.2.2.2 hg h1 ⟨Nat.zero_le _, Nat.zero_le _⟩ rfl
theorem tlM_overfull_9 {Φ : ev_P} {d : Nat} (hd : 2 ≤ d) {g : gH} (hg : HR g) {v0 : Int} (hK0 : kd v0 = 7) : ∀ n : Nat, ∀ (v1 : Int) (h1 : InR v1) (v2 : Int) (h2 : InR v2), Go Φ pr_P fN 1 (lM_overfull_9 g v0 n v1 v2) d pr_m192 9 [some (sR v0), some (sI v1), some (sI v2)] [] g 0 0 := by
  intro n
  induction n with
  | zero => intros; exact go_none
  | succ n ih => exact tbM_overfull_9 hd hg hK0 ih
theorem tfM_overfull {Φ : ev_P} {d : Nat} (hd : 2 ≤ d) {g : gH} (hg : HR g) {v0 : Int} (hK0 : kd v0 = 7) : Go Φ pr_P fN 1 (fM_overfull g v0) d (pr_P 192) 0 (ev_loc (pr_P 192).1 [(sR v0)]) [] g 0 0 := by
  show Go Φ pr_P fN 1 (fM_overfull g v0) d pr_m192 0 [some (sR v0), none, none] [] g 0 0
  unfold fM_overfull
  refine go_aload kk192_0.1.1.1.1.1.1 rfl ?_
  refine go_int kk192_0.1.1.1.1.1.2 0 rfl ?_
  refine go_putI (bI := 8) kk192_0.1.1.1.1.2 hg hK0 (by decide) rfl rfl (inR_b (Or.inl rfl)) (fun g1 e2 => ?_)
  refine go_int kk192_0.1.1.1.2.1 0 rfl ?_
  refine go_istore kk192_0.1.1.1.2.2 rfl (loc2 := [some (sR v0), some (sI 0), none]) rfl ?_
  refine go_int kk192_0.1.1.2.1.1.1 0 rfl ?_
  refine go_istore kk192_0.1.1.2.1.1.2 rfl (loc2 := [some (sR v0), some (sI 0), some (sI 0)]) rfl ?_
  exact tlM_overfull_9 hd e2 hK0 fu 0 (inR_b (Or.inl rfl)) 0 (inR_b (Or.inl rfl))
theorem tbM_ofGroup_31 {Φ : ev_P} {d : Nat} (hd : 2 ≤ d) {g : gH} (hg : HR g) {v0 v1 : Int} (hK0 : kd v0 = 7) (h1 : InR v1) {X31 : Int → Int → Option (Int × gH)} (HX31 : ∀ (v2 : Int) (h2 : InR v2) (v3 : Int) (h3 : InR v3), Go Φ pr_P fN 1 (X31 v2 v3) d pr_m193 31 [some (sR v0), some (sI v1), some (sI v2), some (sI v3)] [] g 0 0) : ∀ (v2 : Int) (h2 : InR v2) (v3 : Int) (h3 : InR v3), Go Φ pr_P fN 1 (bM_ofGroup_31 g v0 v1 X31 v2 v3) d pr_m193 31 [some (sR v0), some (sI v1), some (sI v2), some (sI v3)] [] g 0 0 := by
  intro v2 h2 v3 h3
  unfold bM_ofGroup_31
  refine go_iload kk193_0.1.2.2.1.1.2 rfl ?_
  refine go_aload kk193_0.1.2.2.1.2 rfl ?_
  refine go_getR (bI := 0) kk193_0.1.2.2.2.1.1 hg hK0 (by decide) rfl rfl (fun r16 => ?_)
  refine go_int kk193_0.1.2.2.2.1.2 0 rfl ?_
  refine go_ck (fun q18 => ?_)
  refine go_iald kk193_0.1.2.2.2.2 hg q18 (fun r17 => ?_)
  refine go_cmlt kk193_0.2.1.1.1.1.1 h3 r17 (fun c19 => ?_) (fun c20 => ?_)
  · refine go_iload kk193_0.2.1.1.1.1.2 rfl ?_
    refine go_aload kk193_0.2.1.1.1.2 rfl ?_
    refine go_iload kk193_0.2.1.1.2.1.1 rfl ?_
    refine go_callP3 kk193_0.2.1.1.2.1.2 rfl rfl rfl ⟨by decide, _, rfl, hK0⟩ ⟨Nat.zero_le _, Nat.zero_le _⟩ (by omega) (tfM_runs (by omega) hg hK0  h3) (fun y21 r22 => ?_)
    refine go_ifeq kk193_0.2.1.1.2.2 (inR_b r22) (fun c25 => ?_) (fun c26 => ?_)
    · refine go_int kk193_0.2.2.1.2.1.2 0 rfl ?_
      refine go_iadd kk193_0.2.2.1.2.2 ?_
      refine go_istore kk193_0.2.2.2.1.1.1 rfl (loc2 := [some (sR v0), some (sI v1), some (sI (w32 (v2 + 0))), some (sI v3)]) rfl ?_
      refine go_iinc kk193_0.2.2.2.1.1.2 rfl rfl 1 rfl (loc2 := [some (sR v0), some (sI v1), some (sI (w32 (v2 + 0))), some (sI (w32 (v3 + 1)))]) rfl ?_
      refine go_goto kk193_0.2.2.2.1.2 ?_
      exact HX31 (w32 (v2 + 0)) (inR_w32 _) (w32 (v3 + 1)) (inR_w32 _)
    · refine go_aload kk193_0.2.1.2.1.1.1 rfl ?_
      refine go_getR (bI := 0) kk193_0.2.1.2.1.1.2 hg hK0 (by decide) rfl rfl (fun r27 => ?_)
      refine go_int kk193_0.2.1.2.1.2 180 rfl ?_
      refine go_iload kk193_0.2.1.2.2.1.1 rfl ?_
      refine go_iadd kk193_0.2.1.2.2.1.2 ?_
      refine go_ck (fun q29 => ?_)
      refine go_iald kk193_0.2.1.2.2.2 hg q29 (fun r28 => ?_)
      refine go_iload kk193_0.2.2.1.1.1.1 rfl ?_
      refine go_cmeq kk193_0.2.2.1.1.1.2 r28 h1 (fun c30 => ?_) (fun c31 => ?_)
      · refine go_int kk193_0.2.2.1.1.2 1 rfl ?_
        refine go_goto kk193_0.2.2.1.2.1.1 ?_
        refine go_iadd kk193_0.2.2.1.2.2 ?_
        refine go_istore kk193_0.2.2.2.1.1.1 rfl (loc2 := [some (sR v0), some (sI v1), some (sI (w32 (v2 + 1))), some (sI v3)]) rfl ?_
        refine go_iinc kk193_0.2.2.2.1.1.2 rfl rfl 1 rfl (loc2 := [some (sR v0), some (sI v1), some (sI (w32 (v2 + 1))), some (sI (w32 (v3 + 1)))]) rfl ?_
        refine go_goto kk193_0.2.2.2.1.2 ?_
        exact HX31 (w32 (v2 + 1)) (inR_w32 _) (w32 (v3 + 1)) (inR_w32 _)
      · refine go_int kk193_0.2.2.1.2.1.2 0 rfl ?_
        refine go_iadd kk193_0.2.2.1.2.2 ?_
        refine go_istore kk193_0.2.2.2.1.1.1 rfl (loc2 := [some (sR v0), some (sI v1), some (sI (w32 (v2 + 0))), some (sI v3)]) rfl ?_
        refine go_iinc kk193_0.2.2.2.1.1.2 rfl rfl 1 rfl (loc2 := [some (sR v0), some (sI v1), some (sI (w32 (v2 + 0))), some (sI (w32 (v3 + 1)))]) rfl ?_
        refine go_goto kk193_0.2.2.2.1.2 ?_
        exact HX31 (w32 (v2 + 0)) (inR_w32 _) (w32 (v3 + 1)) (inR_w32 _)
  · refine go_iload kk193_0.2.2.2.2.1 rfl ?_
    exact go_iret kk193_0.2.2.2.2.2 hg h2 ⟨Nat.zero_le _, Nat.zero_le _⟩ rfl
theorem tlM_ofGroup_31 {Φ : ev_P} {d : Nat} (hd : 2 ≤ d) {g : gH} (hg : HR g) {v0 v1 : Int} (hK0 : kd v0 = 7) (h1 : InR v1) : ∀ n : Nat, ∀ (v2 : Int) (h2 : InR v2) (v3 : Int) (h3 : InR v3), Go Φ pr_P fN 1 (lM_ofGroup_31 g v0 v1 n v2 v3) d pr_m193 31 [some (sR v0), some (sI v1), some (sI v2), some (sI v3)] [] g 0 0 := by
  intro n
  induction n with
  | zero => intros; exact go_none
  | succ n ih => exact tbM_ofGroup_31 hd hg hK0 h1 ih
theorem tjM_ofGroup_18 {Φ : ev_P} {d : Nat} (hd : 2 ≤ d) {g : gH} (hg : HR g) {v0 v1 : Int} (hK0 : kd v0 = 7) (h1 : InR v1) {s0 s1 : Int} (z0 : RfR s0) (z1 : B01 s1) (u2 : Option ev_V) (w2 : nwo u2) (u3 : Option ev_V) (w3 : nwo u3) : Go Φ pr_P fN 1 (jM_ofGroup_18 g v0 v1 s0 s1 ) d pr_m193 18 [some (sR v0), some (sI v1), u2, u3] [(sI s1), (sR s0)] g 0 0 := by
  unfold jM_ofGroup_18
  refine go_int kk193_0.1.1.2.2.1.2 1 rfl ?_
  refine go_ck (fun q9 => ?_)
  refine go_callN3 kk193_0.1.1.2.2.2 rfl rfl rfl ⟨by decide, _, rfl, q9⟩ ⟨Nat.zero_le _, Nat.zero_le _⟩ (by omega) (tfM_fails (by omega) hg q9  z1 (inR_b (Or.inr rfl))) (fun y10 g12 r11 e13 => ?_)
  refine go_ifeq kk193_0.1.2.1.1.1.1 (inR_b r11) (fun c14 => ?_) (fun c15 => ?_)
  · refine go_int kk193_0.1.2.1.2.1.1 0 rfl ?_
    refine go_istore kk193_0.1.2.1.2.1.2 rfl (loc2 := [some (sR v0), some (sI v1), some (sI 0), u3]) rfl ?_
    refine go_int kk193_0.1.2.1.2.2 0 rfl ?_
    refine go_istore kk193_0.1.2.2.1.1.1 rfl (loc2 := [some (sR v0), some (sI v1), some (sI 0), some (sI 0)]) rfl ?_
    exact tlM_ofGroup_31 hd e13 hK0 h1 fu 0 (inR_b (Or.inl rfl)) 0 (inR_b (Or.inl rfl))
  · refine go_int kk193_0.1.2.1.1.1.2 0 rfl ?_
    exact go_iret kk193_0.1.2.1.1.2 e13 (inR_b (Or.inl rfl)) ⟨Nat.zero_le _, Nat.zero_le _⟩ rfl
theorem tfM_ofGroup {Φ : ev_P} {d : Nat} (hd : 2 ≤ d) {g : gH} (hg : HR g) {v0 v1 : Int} (hK0 : kd v0 = 7) (h1 : InR v1) : Go Φ pr_P fN 1 (fM_ofGroup g v0 v1) d (pr_P 193) 0 (ev_loc (pr_P 193).1 [(sR v0), (sI v1)]) [] g 0 0 := by
  show Go Φ pr_P fN 1 (fM_ofGroup g v0 v1) d pr_m193 0 [some (sR v0), some (sI v1), none, none] [] g 0 0
  unfold fM_ofGroup
  refine go_aload kk193_0.1.1.1.1.1.1 rfl ?_
  refine go_int kk193_0.1.1.1.1.1.2 0 rfl ?_
  refine go_putI (bI := 8) kk193_0.1.1.1.1.2 hg hK0 (by decide) rfl rfl (inR_b (Or.inl rfl)) (fun g1 e2 => ?_)
  refine go_aload kk193_0.1.1.1.2.1.1 rfl ?_
  refine go_iload kk193_0.1.1.1.2.1.2 rfl ?_
  refine go_callP3 kk193_0.1.1.1.2.2 rfl rfl rfl trivial ⟨Nat.zero_le _, Nat.zero_le _⟩ (by omega) (tfM_isSmall (by omega) e2  h1) (fun y3 r4 => ?_)
  refine go_ifeq kk193_0.1.1.2.1.1.1 (inR_b r4) (fun c7 => ?_) (fun c8 => ?_)
  · refine go_int kk193_0.1.1.2.1.1.2 1 rfl ?_
    refine go_goto kk193_0.1.1.2.1.2 ?_
    exact tjM_ofGroup_18 hd e2 hK0 h1 (rfR_kd hK0 (by decide)) (Or.inr rfl) none rfl none rfl
  · refine go_int kk193_0.1.1.2.2.1.1 0 rfl ?_
    exact tjM_ofGroup_18 hd e2 hK0 h1 (rfR_kd hK0 (by decide)) (Or.inl rfl) none rfl none rfl
theorem tfM_nextTestament {Φ : ev_P} {d : Nat} (hd : 2 ≤ d) {g : gH} (hg : HR g) {v0 v1 : Int} (hK0 : kd v0 = 7) (h1 : InR v1) : Go Φ pr_P fN 1 (fM_nextTestament g v0 v1) d (pr_P 194) 0 (ev_loc (pr_P 194).1 [(sR v0), (sI v1)]) [] g 0 0 := by
  show Go Φ pr_P fN 1 (fM_nextTestament g v0 v1) d pr_m194 0 [some (sR v0), some (sI v1)] [] g 0 0
  unfold fM_nextTestament
  refine go_aload kk194_0.1.1.1.1 rfl ?_
  refine go_iload kk194_0.1.1.1.2 rfl ?_
  refine go_callN3 kk194_0.1.1.2 rfl rfl rfl ⟨by decide, _, rfl, hK0⟩ ⟨Nat.zero_le _, Nat.zero_le _⟩ (by omega) (tfM_noProcess (by omega) hg hK0  h1) (fun y1 g3 r2 e4 => ?_)
  refine go_ifeq kk194_0.1.2.1 (inR_b r2) (fun c5 => ?_) (fun c6 => ?_)
  · refine go_aload kk194_0.2.1.1.2 rfl ?_
    refine go_iload kk194_0.2.1.2 rfl ?_
    refine go_callP1 kk194_0.2.2.1 rfl rfl rfl ⟨by decide, _, rfl, hK0⟩ ⟨Nat.zero_le _, Nat.zero_le _⟩ (by omega) (tfM_firstZombie (by omega) e4 hK0  h1) (fun y7 r8 => ?_)
    exact go_iret kk194_0.2.2.2 e4 r8 ⟨Nat.zero_le _, Nat.zero_le _⟩ rfl
  · refine go_int kk194_0.1.2.2 0 rfl ?_
    refine go_goto kk194_0.2.1.1.1 ?_
    exact go_iret kk194_0.2.2.2 e4 (inR_b (Or.inl rfl)) ⟨Nat.zero_le _, Nat.zero_le _⟩ rfl
theorem tjM_exited_27 {Φ : ev_P} {d : Nat} (hd : 1 ≤ d) {g : gH} (hg : HR g) {v0 v1 : Int} (hK0 : kd v0 = 7) (h1 : InR v1) {s0 s1 : Int} (z0 : RfR s0) (z1 : B01 s1) : Go Φ pr_P fN 1 (jM_exited_27 g v0 v1 s0 s1 ) d pr_m195 27 [some (sR v0), some (sI v1)] [(sI s1), (sR s0)] g 0 0 := by
  unfold jM_exited_27
  refine go_int kk195_0.2.1.1.2.1 1 rfl ?_
  refine go_ck (fun q12 => ?_)
  refine go_callN3 kk195_0.2.1.1.2.2 rfl rfl rfl ⟨by decide, _, rfl, q12⟩ ⟨Nat.zero_le _, Nat.zero_le _⟩ (by omega) (tfM_fails (by omega) hg q12  z1 (inR_b (Or.inr rfl))) (fun y13 g15 r14 e16 => ?_)
  refine go_ifeq kk195_0.2.1.2.1.1 (inR_b r14) (fun c17 => ?_) (fun c18 => ?_)
  · refine go_aload kk195_0.2.2.1.1.1 rfl ?_
    refine go_getR (bI := 0) kk195_0.2.2.1.1.2 e16 hK0 (by decide) rfl rfl (fun r19 => ?_)
    refine go_int kk195_0.2.2.1.2.1 19 rfl ?_
    refine go_iload kk195_0.2.2.1.2.2 rfl ?_
    refine go_iadd kk195_0.2.2.2.1.1 ?_
    refine go_ck (fun q21 => ?_)
    refine go_iald kk195_0.2.2.2.1.2 e16 q21 (fun r20 => ?_)
    exact go_iret kk195_0.2.2.2.2 e16 r20 ⟨Nat.zero_le _, Nat.zero_le _⟩ rfl
  · refine go_int kk195_0.2.1.2.1.2 0 rfl ?_
    refine go_goto kk195_0.2.1.2.2 ?_
    exact go_iret kk195_0.2.2.2.2 e16 (inR_b (Or.inl rfl)) ⟨Nat.zero_le _, Nat.zero_le _⟩ rfl
theorem tfM_exited {Φ : ev_P} {d : Nat} (hd : 1 ≤ d) {g : gH} (hg : HR g) {v0 v1 : Int} (hK0 : kd v0 = 7) (h1 : InR v1) : Go Φ pr_P fN 1 (fM_exited g v0 v1) d (pr_P 195) 0 (ev_loc (pr_P 195).1 [(sR v0), (sI v1)]) [] g 0 0 := by
  show Go Φ pr_P fN 1 (fM_exited g v0 v1) d pr_m195 0 [some (sR v0), some (sI v1)] [] g 0 0
  unfold fM_exited
  refine go_aload kk195_0.1.1.1.1.1 rfl ?_
  refine go_int kk195_0.1.1.1.1.2 0 rfl ?_
  refine go_putI (bI := 8) kk195_0.1.1.1.2.1 hg hK0 (by decide) rfl rfl (inR_b (Or.inl rfl)) (fun g1 e2 => ?_)
  refine go_aload kk195_0.1.1.1.2.2 rfl ?_
  refine go_iload kk195_0.1.1.2.1.1 rfl ?_
  refine go_int kk195_0.1.1.2.1.2 0 rfl ?_
  refine go_aload kk195_0.1.1.2.2.1 rfl ?_
  refine go_getR (bI := 0) kk195_0.1.1.2.2.2 e2 hK0 (by decide) rfl rfl (fun r3 => ?_)
  refine go_int kk195_0.1.2.1.1.1 1 rfl ?_
  refine go_ck (fun q5 => ?_)
  refine go_iald kk195_0.1.2.1.1.2 e2 q5 (fun r4 => ?_)
  refine go_int kk195_0.1.2.1.2.1 1 rfl ?_
  refine go_isub kk195_0.1.2.1.2.2 ?_
  refine go_callP3 kk195_0.1.2.2.1.1 rfl rfl rfl trivial ⟨Nat.zero_le _, Nat.zero_le _⟩ (by omega) (tfM_inRange (by omega) e2  h1 (inR_b (Or.inl rfl)) (inR_w32 _)) (fun y6 r7 => ?_)
  refine go_ifeq kk195_0.1.2.2.1.2 (inR_b r7) (fun c10 => ?_) (fun c11 => ?_)
  · refine go_int kk195_0.1.2.2.2 1 rfl ?_
    refine go_goto kk195_0.2.1.1.1.1 ?_
    exact tjM_exited_27 hd e2 hK0 h1 (rfR_kd hK0 (by decide)) (Or.inr rfl)
  · refine go_int kk195_0.2.1.1.1.2 0 rfl ?_
    exact tjM_exited_27 hd e2 hK0 h1 (rfR_kd hK0 (by decide)) (Or.inl rfl)
theorem tjM_meanDepth_45 {Φ : ev_P} {d : Nat} (hd : 2 ≤ d) {g : gH} (hg : HR g) {v0 v1 : Int} (hK0 : kd v0 = 7) (h1 : InR v1) (u2 : Option ev_V) (w2 : nwo u2) : Go Φ pr_P fN 5 (jM_meanDepth_45 g v0 v1 ) d pr_m196 45 [some (sR v0), some (sI v1), u2] [] g 0 0 := by
  unfold jM_meanDepth_45
  refine go_iload kk196_0.2.2.1.1.2 rfl ?_
  refine go_i2d kk196_0.2.2.1.2.1 ?_
  refine go_aload kk196_0.2.2.1.2.2 rfl ?_
  refine go_callP1 kk196_0.2.2.2.1.1 rfl rfl rfl ⟨by decide, _, rfl, hK0⟩ ⟨Nat.zero_le _, Nat.zero_le _⟩ (by omega) (tfM_runningMany (by omega) hg hK0 ) (fun y18 r19 => ?_)
  refine go_i2d kk196_0.2.2.2.1.2 ?_
  refine go_ck (fun q22 => ?_)
  refine go_ddiv kk196_0.2.2.2.2.1 q22 rfl ⟨Nat.zero_le _, Nat.zero_le _⟩ ?_
  exact go_dret kk196_0.2.2.2.2.2 hg ⟨Nat.zero_le _, Nat.zero_le _⟩ rfl
theorem tbM_meanDepth_9 {Φ : ev_P} {d : Nat} (hd : 2 ≤ d) {g : gH} (hg : HR g) {v0 : Int} (hK0 : kd v0 = 7) {X9 : Int → Int → Option (Int × gH)} (HX9 : ∀ (v1 : Int) (h1 : InR v1) (v2 : Int) (h2 : InR v2), Go Φ pr_P fN 5 (X9 v1 v2) d pr_m196 9 [some (sR v0), some (sI v1), some (sI v2)] [] g 0 0) : ∀ (v1 : Int) (h1 : InR v1) (v2 : Int) (h2 : InR v2), Go Φ pr_P fN 5 (bM_meanDepth_9 g v0 X9 v1 v2) d pr_m196 9 [some (sR v0), some (sI v1), some (sI v2)] [] g 0 0 := by
  intro v1 h1 v2 h2
  unfold bM_meanDepth_9
  refine go_iload kk196_0.1.1.2.2.1 rfl ?_
  refine go_aload kk196_0.1.1.2.2.2 rfl ?_
  refine go_getR (bI := 0) kk196_0.1.2.1.1.1 hg hK0 (by decide) rfl rfl (fun r3 => ?_)
  refine go_int kk196_0.1.2.1.1.2 0 rfl ?_
  refine go_ck (fun q5 => ?_)
  refine go_iald kk196_0.1.2.1.2.1 hg q5 (fun r4 => ?_)
  refine go_cmlt kk196_0.1.2.1.2.2 h2 r4 (fun c6 => ?_) (fun c7 => ?_)
  · refine go_iload kk196_0.1.2.2.1.1 rfl ?_
    refine go_aload kk196_0.1.2.2.1.2 rfl ?_
    refine go_iload kk196_0.1.2.2.2.1 rfl ?_
    refine go_callP3 kk196_0.1.2.2.2.2 rfl rfl rfl ⟨by decide, _, rfl, hK0⟩ ⟨Nat.zero_le _, Nat.zero_le _⟩ (by omega) (tfM_runs (by omega) hg hK0  h2) (fun y8 r9 => ?_)
    refine go_ifeq kk196_0.2.1.1.1.1.1 (inR_b r9) (fun c12 => ?_) (fun c13 => ?_)
    · refine go_int kk196_0.2.1.2.1.1 0 rfl ?_
      refine go_iadd kk196_0.2.1.2.1.2 ?_
      refine go_istore kk196_0.2.1.2.2.1 rfl (loc2 := [some (sR v0), some (sI (w32 (v1 + 0))), some (sI v2)]) rfl ?_
      refine go_iinc kk196_0.2.1.2.2.2 rfl rfl 1 rfl (loc2 := [some (sR v0), some (sI (w32 (v1 + 0))), some (sI (w32 (v2 + 1)))]) rfl ?_
      refine go_goto kk196_0.2.2.1.1.1 ?_
      exact HX9 (w32 (v1 + 0)) (inR_w32 _) (w32 (v2 + 1)) (inR_w32 _)
    · refine go_aload kk196_0.2.1.1.1.1.2 rfl ?_
      refine go_iload kk196_0.2.1.1.1.2 rfl ?_
      refine go_callP1 kk196_0.2.1.1.2.1 rfl rfl rfl ⟨by decide, _, rfl, hK0⟩ ⟨Nat.zero_le _, Nat.zero_le _⟩ (by omega) (tfM_deep (by omega) hg hK0  h2) (fun y14 r15 => ?_)
      refine go_goto kk196_0.2.1.1.2.2 ?_
      refine go_iadd kk196_0.2.1.2.1.2 ?_
      refine go_istore kk196_0.2.1.2.2.1 rfl (loc2 := [some (sR v0), some (sI (w32 (v1 + y14))), some (sI v2)]) rfl ?_
      refine go_iinc kk196_0.2.1.2.2.2 rfl rfl 1 rfl (loc2 := [some (sR v0), some (sI (w32 (v1 + y14))), some (sI (w32 (v2 + 1)))]) rfl ?_
      refine go_goto kk196_0.2.2.1.1.1 ?_
      exact HX9 (w32 (v1 + y14)) (inR_w32 _) (w32 (v2 + 1)) (inR_w32 _)
  · exact tjM_meanDepth_45 hd hg hK0 h1 (some (sI v2)) rfl
theorem tlM_meanDepth_9 {Φ : ev_P} {d : Nat} (hd : 2 ≤ d) {g : gH} (hg : HR g) {v0 : Int} (hK0 : kd v0 = 7) : ∀ n : Nat, ∀ (v1 : Int) (h1 : InR v1) (v2 : Int) (h2 : InR v2), Go Φ pr_P fN 5 (lM_meanDepth_9 g v0 n v1 v2) d pr_m196 9 [some (sR v0), some (sI v1), some (sI v2)] [] g 0 0 := by
  intro n
  induction n with
  | zero => intros; exact go_none
  | succ n ih => exact tbM_meanDepth_9 hd hg hK0 ih
theorem tfM_meanDepth {Φ : ev_P} {d : Nat} (hd : 2 ≤ d) {g : gH} (hg : HR g) {v0 : Int} (hK0 : kd v0 = 7) : Go Φ pr_P fN 5 (fM_meanDepth g v0) d (pr_P 196) 0 (ev_loc (pr_P 196).1 [(sR v0)]) [] g 0 0 := by
  show Go Φ pr_P fN 5 (fM_meanDepth g v0) d pr_m196 0 [some (sR v0), none, none] [] g 0 0
  unfold fM_meanDepth
  refine go_aload kk196_0.1.1.1.1.1.1 rfl ?_
  refine go_int kk196_0.1.1.1.1.1.2 0 rfl ?_
  refine go_putI (bI := 8) kk196_0.1.1.1.1.2 hg hK0 (by decide) rfl rfl (inR_b (Or.inl rfl)) (fun g1 e2 => ?_)
  refine go_int kk196_0.1.1.1.2.1 0 rfl ?_
  refine go_istore kk196_0.1.1.1.2.2 rfl (loc2 := [some (sR v0), some (sI 0), none]) rfl ?_
  refine go_int kk196_0.1.1.2.1.1 0 rfl ?_
  refine go_istore kk196_0.1.1.2.1.2 rfl (loc2 := [some (sR v0), some (sI 0), some (sI 0)]) rfl ?_
  exact tlM_meanDepth_9 hd e2 hK0 fu 0 (inR_b (Or.inl rfl)) 0 (inR_b (Or.inl rfl))
theorem tfM_rootShare {Φ : ev_P} {d : Nat} (hd : 0 ≤ d) {g : gH} (hg : HR g) {v0 : Int} (hK0 : kd v0 = 7) : Go Φ pr_P fN 4 (fM_rootShare g v0) d (pr_P 197) 0 (ev_loc (pr_P 197).1 [(sR v0)]) [] g 0 0 := by
  show Go Φ pr_P fN 4 (fM_rootShare g v0) d pr_m197 0 [some (sR v0)] [] g 0 0
  unfold fM_rootShare
  refine go_aload kk197_0.1.1.1.1.1 rfl ?_
  refine go_int kk197_0.1.1.1.1.2 0 rfl ?_
  refine go_putI (bI := 8) kk197_0.1.1.1.2 hg hK0 (by decide) rfl rfl (inR_b (Or.inl rfl)) (fun g1 e2 => ?_)
  refine go_aload kk197_0.1.1.2.1.1 rfl ?_
  refine go_getR (bI := 0) kk197_0.1.1.2.1.2 e2 hK0 (by decide) rfl rfl (fun r3 => ?_)
  refine go_int kk197_0.1.1.2.2 2 rfl ?_
  refine go_ck (fun q5 => ?_)
  refine go_iald kk197_0.1.2.1.1.1 e2 q5 (fun r4 => ?_)
  refine go_ifeq kk197_0.1.2.1.1.2 r4 (fun c6 => ?_) (fun c7 => ?_)
  · refine go_fconst kk197_0.1.2.1.2 0 rfl ?_
    refine go_goto kk197_0.1.2.2.1 ?_
    exact go_fret kk197_0.2.2.2.2 e2 ⟨Nat.zero_le _, Nat.zero_le _⟩ rfl
  · refine go_aload kk197_0.1.2.2.2 rfl ?_
    refine go_getR (bI := 0) kk197_0.2.1.1.1.1 e2 hK0 (by decide) rfl rfl (fun r8 => ?_)
    refine go_int kk197_0.2.1.1.1.2 3 rfl ?_
    refine go_ck (fun q10 => ?_)
    refine go_iald kk197_0.2.1.1.2 e2 q10 (fun r9 => ?_)
    refine go_i2f kk197_0.2.1.2.1.1 ?_
    refine go_aload kk197_0.2.1.2.1.2 rfl ?_
    refine go_getR (bI := 0) kk197_0.2.1.2.2 e2 hK0 (by decide) rfl rfl (fun r11 => ?_)
    refine go_int kk197_0.2.2.1.1.1 2 rfl ?_
    refine go_ck (fun q13 => ?_)
    refine go_iald kk197_0.2.2.1.1.2 e2 q13 (fun r12 => ?_)
    refine go_i2f kk197_0.2.2.1.2 ?_
    refine go_ck (fun q14 => ?_)
    refine go_fdiv kk197_0.2.2.2.1 q14 rfl ⟨Nat.zero_le _, Nat.zero_le _⟩ ?_
    exact go_fret kk197_0.2.2.2.2 e2 ⟨Nat.zero_le _, Nat.zero_le _⟩ rfl
theorem tfM_readShare {Φ : ev_P} {d : Nat} (hd : 1 ≤ d) {g : gH} (hg : HR g) {v0 : Int} (hK0 : kd v0 = 7) : Go Φ pr_P fN 5 (fM_readShare g v0) d (pr_P 198) 0 (ev_loc (pr_P 198).1 [(sR v0)]) [] g 0 0 := by
  show Go Φ pr_P fN 5 (fM_readShare g v0) d pr_m198 0 [some (sR v0)] [] g 0 0
  unfold fM_readShare
  refine go_aload kk198_0.1.1.1.1.1 rfl ?_
  refine go_int kk198_0.1.1.1.1.2 0 rfl ?_
  refine go_putI (bI := 8) kk198_0.1.1.1.2 hg hK0 (by decide) rfl rfl (inR_b (Or.inl rfl)) (fun g1 e2 => ?_)
  refine go_aload kk198_0.1.1.2.1.1 rfl ?_
  refine go_getR (bI := 0) kk198_0.1.1.2.1.2 e2 hK0 (by decide) rfl rfl (fun r3 => ?_)
  refine go_int kk198_0.1.1.2.2 1 rfl ?_
  refine go_ck (fun q5 => ?_)
  refine go_iald kk198_0.1.2.1.1.1 e2 q5 (fun r4 => ?_)
  refine go_ifeq kk198_0.1.2.1.1.2 r4 (fun c6 => ?_) (fun c7 => ?_)
  · refine go_dconst kk198_0.1.2.1.2 0 rfl ?_
    refine go_goto kk198_0.1.2.2.1 ?_
    exact go_dret kk198_0.2.2.2.2 e2 ⟨Nat.zero_le _, Nat.zero_le _⟩ rfl
  · refine go_aload kk198_0.1.2.2.2 rfl ?_
    refine go_int kk198_0.2.1.1.1.1 2 rfl ?_
    refine go_callP1 kk198_0.2.1.1.1.2 rfl rfl rfl ⟨by decide, _, rfl, hK0⟩ ⟨Nat.zero_le _, Nat.zero_le _⟩ (by omega) (tfM_inState (by omega) e2 hK0  (inR_of (by decide))) (fun y8 r9 => ?_)
    refine go_i2d kk198_0.2.1.1.2 ?_
    refine go_aload kk198_0.2.1.2.1 rfl ?_
    refine go_getR (bI := 0) kk198_0.2.1.2.2 e2 hK0 (by decide) rfl rfl (fun r12 => ?_)
    refine go_int kk198_0.2.2.1.1.1 1 rfl ?_
    refine go_ck (fun q14 => ?_)
    refine go_iald kk198_0.2.2.1.1.2 e2 q14 (fun r13 => ?_)
    refine go_i2d kk198_0.2.2.1.2 ?_
    refine go_ck (fun q15 => ?_)
    refine go_ddiv kk198_0.2.2.2.1 q15 rfl ⟨Nat.zero_le _, Nat.zero_le _⟩ ?_
    exact go_dret kk198_0.2.2.2.2 e2 ⟨Nat.zero_le _, Nat.zero_le _⟩ rfl
theorem tbM_testamentsBelow_22 {Φ : ev_P} {d : Nat} (hd : 2 ≤ d) {g : gH} (hg : HR g) {v0 v1 : Int} (hK0 : kd v0 = 7) (h1 : InR v1) {X22 : Int → Int → Option (Int × gH)} (HX22 : ∀ (v2 : Int) (h2 : InR v2) (v3 : Int) (h3 : InR v3), Go Φ pr_P fN 1 (X22 v2 v3) d pr_m199 22 [some (sR v0), some (sI v1), some (sI v2), some (sI v3)] [] g 0 0) : ∀ (v2 : Int) (h2 : InR v2) (v3 : Int) (h3 : InR v3), Go Φ pr_P fN 1 (bM_testamentsBelow_22 g v0 v1 X22 v2 v3) d pr_m199 22 [some (sR v0), some (sI v1), some (sI v2), some (sI v3)] [] g 0 0 := by
  intro v2 h2 v3 h3
  unfold bM_testamentsBelow_22
  refine go_iload kk199_0.1.2.1.2.1.1 rfl ?_
  refine go_aload kk199_0.1.2.1.2.1.2 rfl ?_
  refine go_getR (bI := 0) kk199_0.1.2.1.2.2 hg hK0 (by decide) rfl rfl (fun r13 => ?_)
  refine go_int kk199_0.1.2.2.1.1.1 0 rfl ?_
  refine go_ck (fun q15 => ?_)
  refine go_iald kk199_0.1.2.2.1.1.2 hg q15 (fun r14 => ?_)
  refine go_cmlt kk199_0.1.2.2.1.2 h3 r14 (fun c16 => ?_) (fun c17 => ?_)
  · refine go_iload kk199_0.1.2.2.2.1 rfl ?_
    refine go_aload kk199_0.1.2.2.2.2 rfl ?_
    refine go_getR (bI := 0) kk199_0.2.1.1.1.1.1 hg hK0 (by decide) rfl rfl (fun r18 => ?_)
    refine go_int kk199_0.2.1.1.1.1.2 140 rfl ?_
    refine go_iload kk199_0.2.1.1.1.2 rfl ?_
    refine go_iadd kk199_0.2.1.1.2.1.1 ?_
    refine go_ck (fun q20 => ?_)
    refine go_iald kk199_0.2.1.1.2.1.2 hg q20 (fun r19 => ?_)
    refine go_int kk199_0.2.1.1.2.2 1 rfl ?_
    refine go_cmeq kk199_0.2.1.2.1.1.1 r19 (inR_b (Or.inr rfl)) (fun c21 => ?_) (fun c22 => ?_)
    · refine go_aload kk199_0.2.1.2.1.1.2 rfl ?_
      refine go_iload kk199_0.2.1.2.1.2 rfl ?_
      refine go_iload kk199_0.2.1.2.2.1 rfl ?_
      refine go_callP3 kk199_0.2.1.2.2.2 rfl rfl rfl ⟨by decide, _, rfl, hK0⟩ ⟨Nat.zero_le _, Nat.zero_le _⟩ (by omega) (tfM_isOver (by omega) hg hK0  h1 h3) (fun y23 r24 => ?_)
      refine go_ifeq kk199_0.2.2.1.1.1.1 (inR_b r24) (fun c27 => ?_) (fun c28 => ?_)
      · refine go_int kk199_0.2.2.1.2.1 0 rfl ?_
        refine go_iadd kk199_0.2.2.1.2.2 ?_
        refine go_istore kk199_0.2.2.2.1.1.1 rfl (loc2 := [some (sR v0), some (sI v1), some (sI (w32 (v2 + 0))), some (sI v3)]) rfl ?_
        refine go_iinc kk199_0.2.2.2.1.1.2 rfl rfl 1 rfl (loc2 := [some (sR v0), some (sI v1), some (sI (w32 (v2 + 0))), some (sI (w32 (v3 + 1)))]) rfl ?_
        refine go_goto kk199_0.2.2.2.1.2 ?_
        exact HX22 (w32 (v2 + 0)) (inR_w32 _) (w32 (v3 + 1)) (inR_w32 _)
      · refine go_int kk199_0.2.2.1.1.1.2 1 rfl ?_
        refine go_goto kk199_0.2.2.1.1.2 ?_
        refine go_iadd kk199_0.2.2.1.2.2 ?_
        refine go_istore kk199_0.2.2.2.1.1.1 rfl (loc2 := [some (sR v0), some (sI v1), some (sI (w32 (v2 + 1))), some (sI v3)]) rfl ?_
        refine go_iinc kk199_0.2.2.2.1.1.2 rfl rfl 1 rfl (loc2 := [some (sR v0), some (sI v1), some (sI (w32 (v2 + 1))), some (sI (w32 (v3 + 1)))]) rfl ?_
        refine go_goto kk199_0.2.2.2.1.2 ?_
        exact HX22 (w32 (v2 + 1)) (inR_w32 _) (w32 (v3 + 1)) (inR_w32 _)
    · refine go_int kk199_0.2.2.1.2.1 0 rfl ?_
      refine go_iadd kk199_0.2.2.1.2.2 ?_
      refine go_istore kk199_0.2.2.2.1.1.1 rfl (loc2 := [some (sR v0), some (sI v1), some (sI (w32 (v2 + 0))), some (sI v3)]) rfl ?_
      refine go_iinc kk199_0.2.2.2.1.1.2 rfl rfl 1 rfl (loc2 := [some (sR v0), some (sI v1), some (sI (w32 (v2 + 0))), some (sI (w32 (v3 + 1)))]) rfl ?_
      refine go_goto kk199_0.2.2.2.1.2 ?_
      exact HX22 (w32 (v2 + 0)) (inR_w32 _) (w32 (v3 + 1)) (inR_w32 _)
  · refine go_iload kk199_0.2.2.2.2.1 rfl ?_
    exact go_iret kk199_0.2.2.2.2.2 hg h2 ⟨Nat.zero_le _, Nat.zero_le _⟩ rfl
theorem tlM_testamentsBelow_22 {Φ : ev_P} {d : Nat} (hd : 2 ≤ d) {g : gH} (hg : HR g) {v0 v1 : Int} (hK0 : kd v0 = 7) (h1 : InR v1) : ∀ n : Nat, ∀ (v2 : Int) (h2 : InR v2) (v3 : Int) (h3 : InR v3), Go Φ pr_P fN 1 (lM_testamentsBelow_22 g v0 v1 n v2 v3) d pr_m199 22 [some (sR v0), some (sI v1), some (sI v2), some (sI v3)] [] g 0 0 := by
  intro n
  induction n with
  | zero => intros; exact go_none
  | succ n ih => exact tbM_testamentsBelow_22 hd hg hK0 h1 ih
theorem tfM_testamentsBelow {Φ : ev_P} {d : Nat} (hd : 2 ≤ d) {g : gH} (hg : HR g) {v0 v1 : Int} (hK0 : kd v0 = 7) (h1 : InR v1) : Go Φ pr_P fN 1 (fM_testamentsBelow g v0 v1) d (pr_P 199) 0 (ev_loc (pr_P 199).1 [(sR v0), (sI v1)]) [] g 0 0 := by
  show Go Φ pr_P fN 1 (fM_testamentsBelow g v0 v1) d pr_m199 0 [some (sR v0), some (sI v1), none, none] [] g 0 0
  unfold fM_testamentsBelow
  refine go_aload kk199_0.1.1.1.1.1.1 rfl ?_
  refine go_iload kk199_0.1.1.1.1.1.2 rfl ?_
  refine go_callN3 kk199_0.1.1.1.1.2 rfl rfl rfl ⟨by decide, _, rfl, hK0⟩ ⟨Nat.zero_le _, Nat.zero_le _⟩ (by omega) (tfM_noProcess (by omega) hg hK0  h1) (fun y1 g3 r2 e4 => ?_)
  refine go_ifeq kk199_0.1.1.1.2.1.1 (inR_b r2) (fun c5 => ?_) (fun c6 => ?_)
  · refine go_aload kk199_0.1.1.1.2.1.2 rfl ?_
    refine go_iload kk199_0.1.1.1.2.2 rfl ?_
    refine go_callP3 kk199_0.1.1.2.1.1.1 rfl rfl rfl ⟨by decide, _, rfl, hK0⟩ ⟨Nat.zero_le _, Nat.zero_le _⟩ (by omega) (tfM_runs (by omega) e4 hK0  h1) (fun y7 r8 => ?_)
    refine go_ifeq kk199_0.1.1.2.1.1.2 (inR_b r8) (fun c11 => ?_) (fun c12 => ?_)
    · refine go_int kk199_0.1.1.2.1.2 0 rfl ?_
      exact go_iret kk199_0.1.1.2.2.1 e4 (inR_b (Or.inl rfl)) ⟨Nat.zero_le _, Nat.zero_le _⟩ rfl
    · refine go_int kk199_0.1.1.2.2.2 0 rfl ?_
      refine go_istore kk199_0.1.2.1.1.1.1 rfl (loc2 := [some (sR v0), some (sI v1), some (sI 0), none]) rfl ?_
      refine go_int kk199_0.1.2.1.1.1.2 1 rfl ?_
      refine go_istore kk199_0.1.2.1.1.2 rfl (loc2 := [some (sR v0), some (sI v1), some (sI 0), some (sI 1)]) rfl ?_
      exact tlM_testamentsBelow_22 hd e4 hK0 h1 fu 0 (inR_b (Or.inl rfl)) 1 (inR_b (Or.inr rfl))
  · refine go_int kk199_0.1.1.2.1.2 0 rfl ?_
    exact go_iret kk199_0.1.1.2.2.1 e4 (inR_b (Or.inl rfl)) ⟨Nat.zero_le _, Nat.zero_le _⟩ rfl
theorem tbM_roomBelow_22 {Φ : ev_P} {d : Nat} (hd : 3 ≤ d) {g : gH} (hg : HR g) {v0 v1 : Int} (hK0 : kd v0 = 7) (h1 : InR v1) {X22 : Int → Int → Option (Int × gH)} (HX22 : ∀ (v2 : Int) (h2 : InR v2) (v3 : Int) (h3 : InR v3), Go Φ pr_P fN 1 (X22 v2 v3) d pr_m200 22 [some (sR v0), some (sI v1), some (sI v2), some (sI v3)] [] g 0 0) : ∀ (v2 : Int) (h2 : InR v2) (v3 : Int) (h3 : InR v3), Go Φ pr_P fN 1 (bM_roomBelow_22 g v0 v1 X22 v2 v3) d pr_m200 22 [some (sR v0), some (sI v1), some (sI v2), some (sI v3)] [] g 0 0 := by
  intro v2 h2 v3 h3
  unfold bM_roomBelow_22
  refine go_iload kk200_0.1.2.1.2.1 rfl ?_
  refine go_aload kk200_0.1.2.1.2.2 rfl ?_
  refine go_getR (bI := 0) kk200_0.1.2.2.1.1.1 hg hK0 (by decide) rfl rfl (fun r13 => ?_)
  refine go_int kk200_0.1.2.2.1.1.2 0 rfl ?_
  refine go_ck (fun q15 => ?_)
  refine go_iald kk200_0.1.2.2.1.2 hg q15 (fun r14 => ?_)
  refine go_cmlt kk200_0.1.2.2.2.1 h3 r14 (fun c16 => ?_) (fun c17 => ?_)
  · refine go_iload kk200_0.1.2.2.2.2 rfl ?_
    refine go_aload kk200_0.2.1.1.1.1.1 rfl ?_
    refine go_iload kk200_0.2.1.1.1.1.2 rfl ?_
    refine go_callP3 kk200_0.2.1.1.1.2 rfl rfl rfl ⟨by decide, _, rfl, hK0⟩ ⟨Nat.zero_le _, Nat.zero_le _⟩ (by omega) (tfM_runs (by omega) hg hK0  h3) (fun y18 r19 => ?_)
    refine go_ifeq kk200_0.2.1.1.2.1 (inR_b r19) (fun c22 => ?_) (fun c23 => ?_)
    · refine go_int kk200_0.2.2.1.2.1 0 rfl ?_
      refine go_iadd kk200_0.2.2.1.2.2 ?_
      refine go_istore kk200_0.2.2.2.1.1.1 rfl (loc2 := [some (sR v0), some (sI v1), some (sI (w32 (v2 + 0))), some (sI v3)]) rfl ?_
      refine go_iinc kk200_0.2.2.2.1.1.2 rfl rfl 1 rfl (loc2 := [some (sR v0), some (sI v1), some (sI (w32 (v2 + 0))), some (sI (w32 (v3 + 1)))]) rfl ?_
      refine go_goto kk200_0.2.2.2.1.2 ?_
      exact HX22 (w32 (v2 + 0)) (inR_w32 _) (w32 (v3 + 1)) (inR_w32 _)
    · refine go_aload kk200_0.2.1.1.2.2 rfl ?_
      refine go_iload kk200_0.2.1.2.1.1.1 rfl ?_
      refine go_iload kk200_0.2.1.2.1.1.2 rfl ?_
      refine go_callP3 kk200_0.2.1.2.1.2 rfl rfl rfl ⟨by decide, _, rfl, hK0⟩ ⟨Nat.zero_le _, Nat.zero_le _⟩ (by omega) (tfM_isOver (by omega) hg hK0  h1 h3) (fun y24 r25 => ?_)
      refine go_ifeq kk200_0.2.1.2.2.1 (inR_b r25) (fun c28 => ?_) (fun c29 => ?_)
      · refine go_int kk200_0.2.2.1.2.1 0 rfl ?_
        refine go_iadd kk200_0.2.2.1.2.2 ?_
        refine go_istore kk200_0.2.2.2.1.1.1 rfl (loc2 := [some (sR v0), some (sI v1), some (sI (w32 (v2 + 0))), some (sI v3)]) rfl ?_
        refine go_iinc kk200_0.2.2.2.1.1.2 rfl rfl 1 rfl (loc2 := [some (sR v0), some (sI v1), some (sI (w32 (v2 + 0))), some (sI (w32 (v3 + 1)))]) rfl ?_
        refine go_goto kk200_0.2.2.2.1.2 ?_
        exact HX22 (w32 (v2 + 0)) (inR_w32 _) (w32 (v3 + 1)) (inR_w32 _)
      · refine go_aload kk200_0.2.1.2.2.2 rfl ?_
        refine go_iload kk200_0.2.2.1.1.1.1 rfl ?_
        refine go_callP1 kk200_0.2.2.1.1.1.2 rfl rfl rfl ⟨by decide, _, rfl, hK0⟩ ⟨Nat.zero_le _, Nat.zero_le _⟩ (by omega) (tfM_roomOf (by omega) hg hK0  h3) (fun y30 r31 => ?_)
        refine go_goto kk200_0.2.2.1.1.2 ?_
        refine go_iadd kk200_0.2.2.1.2.2 ?_
        refine go_istore kk200_0.2.2.2.1.1.1 rfl (loc2 := [some (sR v0), some (sI v1), some (sI (w32 (v2 + y30))), some (sI v3)]) rfl ?_
        refine go_iinc kk200_0.2.2.2.1.1.2 rfl rfl 1 rfl (loc2 := [some (sR v0), some (sI v1), some (sI (w32 (v2 + y30))), some (sI (w32 (v3 + 1)))]) rfl ?_
        refine go_goto kk200_0.2.2.2.1.2 ?_
        exact HX22 (w32 (v2 + y30)) (inR_w32 _) (w32 (v3 + 1)) (inR_w32 _)
  · refine go_iload kk200_0.2.2.2.2.1 rfl ?_
    exact go_iret kk200_0.2.2.2.2.2 hg h2 ⟨Nat.zero_le _, Nat.zero_le _⟩ rfl
theorem tlM_roomBelow_22 {Φ : ev_P} {d : Nat} (hd : 3 ≤ d) {g : gH} (hg : HR g) {v0 v1 : Int} (hK0 : kd v0 = 7) (h1 : InR v1) : ∀ n : Nat, ∀ (v2 : Int) (h2 : InR v2) (v3 : Int) (h3 : InR v3), Go Φ pr_P fN 1 (lM_roomBelow_22 g v0 v1 n v2 v3) d pr_m200 22 [some (sR v0), some (sI v1), some (sI v2), some (sI v3)] [] g 0 0 := by
  intro n
  induction n with
  | zero => intros; exact go_none
  | succ n ih => exact tbM_roomBelow_22 hd hg hK0 h1 ih
theorem tfM_roomBelow {Φ : ev_P} {d : Nat} (hd : 3 ≤ d) {g : gH} (hg : HR g) {v0 v1 : Int} (hK0 : kd v0 = 7) (h1 : InR v1) : Go Φ pr_P fN 1 (fM_roomBelow g v0 v1) d (pr_P 200) 0 (ev_loc (pr_P 200).1 [(sR v0), (sI v1)]) [] g 0 0 := by
  show Go Φ pr_P fN 1 (fM_roomBelow g v0 v1) d pr_m200 0 [some (sR v0), some (sI v1), none, none] [] g 0 0
  unfold fM_roomBelow
  refine go_aload kk200_0.1.1.1.1.1.1 rfl ?_
  refine go_iload kk200_0.1.1.1.1.1.2 rfl ?_
  refine go_callN3 kk200_0.1.1.1.1.2 rfl rfl rfl ⟨by decide, _, rfl, hK0⟩ ⟨Nat.zero_le _, Nat.zero_le _⟩ (by omega) (tfM_noProcess (by omega) hg hK0  h1) (fun y1 g3 r2 e4 => ?_)
  refine go_ifeq kk200_0.1.1.1.2.1.1 (inR_b r2) (fun c5 => ?_) (fun c6 => ?_)
  · refine go_aload kk200_0.1.1.1.2.1.2 rfl ?_
    refine go_iload kk200_0.1.1.1.2.2 rfl ?_
    refine go_callP3 kk200_0.1.1.2.1.1.1 rfl rfl rfl ⟨by decide, _, rfl, hK0⟩ ⟨Nat.zero_le _, Nat.zero_le _⟩ (by omega) (tfM_runs (by omega) e4 hK0  h1) (fun y7 r8 => ?_)
    refine go_ifeq kk200_0.1.1.2.1.1.2 (inR_b r8) (fun c11 => ?_) (fun c12 => ?_)
    · refine go_int kk200_0.1.1.2.1.2 0 rfl ?_
      exact go_iret kk200_0.1.1.2.2.1 e4 (inR_b (Or.inl rfl)) ⟨Nat.zero_le _, Nat.zero_le _⟩ rfl
    · refine go_int kk200_0.1.1.2.2.2 0 rfl ?_
      refine go_istore kk200_0.1.2.1.1.1.1 rfl (loc2 := [some (sR v0), some (sI v1), some (sI 0), none]) rfl ?_
      refine go_int kk200_0.1.2.1.1.1.2 1 rfl ?_
      refine go_istore kk200_0.1.2.1.1.2 rfl (loc2 := [some (sR v0), some (sI v1), some (sI 0), some (sI 1)]) rfl ?_
      exact tlM_roomBelow_22 hd e4 hK0 h1 fu 0 (inR_b (Or.inl rfl)) 1 (inR_b (Or.inr rfl))
  · refine go_int kk200_0.1.1.2.1.2 0 rfl ?_
    exact go_iret kk200_0.1.1.2.2.1 e4 (inR_b (Or.inl rfl)) ⟨Nat.zero_le _, Nat.zero_le _⟩ rfl
theorem tjM_mostAdopted_56 {Φ : ev_P} {d : Nat} (hd : 1 ≤ d) {X9 : Int → Int → Option (Int × gH)} {g : gH} (hg : HR g) {v0 v1 v2 : Int} (hK0 : kd v0 = 7) (h1 : InR v1) (h2 : InR v2) {s0 s1 : Int} (z0 : InR s0) (z1 : InR s1) (HX9 : ∀ (v1 : Int) (h1 : InR v1) (v2 : Int) (h2 : InR v2), Go Φ pr_P fN 1 (X9 v1 v2) d pr_m201 9 [some (sR v0), some (sI v1), some (sI v2)] [] g 0 0) : Go Φ pr_P fN 1 (jM_mostAdopted_56 X9 g v0 v1 v2 s0 s1 ) d pr_m201 56 [some (sR v0), some (sI v1), some (sI v2)] [(sI s1), (sI s0)] g 0 0 := by
  unfold jM_mostAdopted_56
  refine go_cmgt kk201_0.2.2.1.2.1 z0 z1 (fun c22 => ?_) (fun c23 => ?_)
  · refine go_iload kk201_0.2.2.1.2.2 rfl ?_
    refine go_istore kk201_0.2.2.2.1.1.1 rfl (loc2 := [some (sR v0), some (sI v2), some (sI v2)]) rfl ?_
    refine go_iinc kk201_0.2.2.2.1.1.2 rfl rfl 1 rfl (loc2 := [some (sR v0), some (sI v2), some (sI (w32 (v2 + 1)))]) rfl ?_
    refine go_goto kk201_0.2.2.2.1.2 ?_
    exact HX9 v2 h2 (w32 (v2 + 1)) (inR_w32 _)
  · refine go_iinc kk201_0.2.2.2.1.1.2 rfl rfl 1 rfl (loc2 := [some (sR v0), some (sI v1), some (sI (w32 (v2 + 1)))]) rfl ?_
    refine go_goto kk201_0.2.2.2.1.2 ?_
    exact HX9 v1 h1 (w32 (v2 + 1)) (inR_w32 _)
theorem tbM_mostAdopted_9 {Φ : ev_P} {d : Nat} (hd : 1 ≤ d) {g : gH} (hg : HR g) {v0 : Int} (hK0 : kd v0 = 7) {X9 : Int → Int → Option (Int × gH)} (HX9 : ∀ (v1 : Int) (h1 : InR v1) (v2 : Int) (h2 : InR v2), Go Φ pr_P fN 1 (X9 v1 v2) d pr_m201 9 [some (sR v0), some (sI v1), some (sI v2)] [] g 0 0) : ∀ (v1 : Int) (h1 : InR v1) (v2 : Int) (h2 : InR v2), Go Φ pr_P fN 1 (bM_mostAdopted_9 g v0 X9 v1 v2) d pr_m201 9 [some (sR v0), some (sI v1), some (sI v2)] [] g 0 0 := by
  intro v1 h1 v2 h2
  unfold bM_mostAdopted_9
  refine go_iload kk201_0.1.1.2.1.1.2 rfl ?_
  refine go_aload kk201_0.1.1.2.1.2 rfl ?_
  refine go_getR (bI := 0) kk201_0.1.1.2.2.1 hg hK0 (by decide) rfl rfl (fun r3 => ?_)
  refine go_int kk201_0.1.1.2.2.2 0 rfl ?_
  refine go_ck (fun q5 => ?_)
  refine go_iald kk201_0.1.2.1.1.1.1 hg q5 (fun r4 => ?_)
  refine go_cmlt kk201_0.1.2.1.1.1.2 h2 r4 (fun c6 => ?_) (fun c7 => ?_)
  · refine go_aload kk201_0.1.2.1.1.2 rfl ?_
    refine go_iload kk201_0.1.2.1.2.1 rfl ?_
    refine go_callP3 kk201_0.1.2.1.2.2 rfl rfl rfl ⟨by decide, _, rfl, hK0⟩ ⟨Nat.zero_le _, Nat.zero_le _⟩ (by omega) (tfM_runs (by omega) hg hK0  h2) (fun y8 r9 => ?_)
    refine go_ifeq kk201_0.1.2.2.1.1.1 (inR_b r9) (fun c12 => ?_) (fun c13 => ?_)
    · refine go_iinc kk201_0.2.2.2.1.1.2 rfl rfl 1 rfl (loc2 := [some (sR v0), some (sI v1), some (sI (w32 (v2 + 1)))]) rfl ?_
      refine go_goto kk201_0.2.2.2.1.2 ?_
      exact HX9 v1 h1 (w32 (v2 + 1)) (inR_w32 _)
    · refine go_aload kk201_0.1.2.2.1.1.2 rfl ?_
      refine go_getR (bI := 0) kk201_0.1.2.2.1.2 hg hK0 (by decide) rfl rfl (fun r14 => ?_)
      refine go_int kk201_0.1.2.2.2.1 380 rfl ?_
      refine go_iload kk201_0.1.2.2.2.2 rfl ?_
      refine go_iadd kk201_0.2.1.1.1.1.1 ?_
      refine go_ck (fun q16 => ?_)
      refine go_iald kk201_0.2.1.1.1.1.2 hg q16 (fun r15 => ?_)
      refine go_iload kk201_0.2.1.1.1.2 rfl ?_
      refine go_int kk201_0.2.1.1.2.1 (-1) rfl ?_
      refine go_cmeq kk201_0.2.1.1.2.2 h1 (inR_of (by decide)) (fun c17 => ?_) (fun c18 => ?_)
      · refine go_int kk201_0.2.1.2.1.1.1 0 rfl ?_
        refine go_goto kk201_0.2.1.2.1.1.2 ?_
        exact tjM_mostAdopted_56 hd hg hK0 h1 h2 r15 (inR_b (Or.inl rfl)) HX9
      · refine go_aload kk201_0.2.1.2.1.2 rfl ?_
        refine go_getR (bI := 0) kk201_0.2.1.2.2.1 hg hK0 (by decide) rfl rfl (fun r19 => ?_)
        refine go_int kk201_0.2.1.2.2.2 380 rfl ?_
        refine go_iload kk201_0.2.2.1.1.1.1 rfl ?_
        refine go_iadd kk201_0.2.2.1.1.1.2 ?_
        refine go_ck (fun q21 => ?_)
        refine go_iald kk201_0.2.2.1.1.2 hg q21 (fun r20 => ?_)
        exact tjM_mostAdopted_56 hd hg hK0 h1 h2 r15 r20 HX9
  · refine go_iload kk201_0.2.2.2.2.1 rfl ?_
    exact go_iret kk201_0.2.2.2.2.2 hg h1 ⟨Nat.zero_le _, Nat.zero_le _⟩ rfl
theorem tlM_mostAdopted_9 {Φ : ev_P} {d : Nat} (hd : 1 ≤ d) {g : gH} (hg : HR g) {v0 : Int} (hK0 : kd v0 = 7) : ∀ n : Nat, ∀ (v1 : Int) (h1 : InR v1) (v2 : Int) (h2 : InR v2), Go Φ pr_P fN 1 (lM_mostAdopted_9 g v0 n v1 v2) d pr_m201 9 [some (sR v0), some (sI v1), some (sI v2)] [] g 0 0 := by
  intro n
  induction n with
  | zero => intros; exact go_none
  | succ n ih => exact tbM_mostAdopted_9 hd hg hK0 ih
theorem tfM_mostAdopted {Φ : ev_P} {d : Nat} (hd : 1 ≤ d) {g : gH} (hg : HR g) {v0 : Int} (hK0 : kd v0 = 7) : Go Φ pr_P fN 1 (fM_mostAdopted g v0) d (pr_P 201) 0 (ev_loc (pr_P 201).1 [(sR v0)]) [] g 0 0 := by
  show Go Φ pr_P fN 1 (fM_mostAdopted g v0) d pr_m201 0 [some (sR v0), none, none] [] g 0 0
  unfold fM_mostAdopted
  refine go_aload kk201_0.1.1.1.1.1.1 rfl ?_
  refine go_int kk201_0.1.1.1.1.1.2 0 rfl ?_
  refine go_putI (bI := 8) kk201_0.1.1.1.1.2 hg hK0 (by decide) rfl rfl (inR_b (Or.inl rfl)) (fun g1 e2 => ?_)
  refine go_int kk201_0.1.1.1.2.1.1 (-1) rfl ?_
  refine go_istore kk201_0.1.1.1.2.1.2 rfl (loc2 := [some (sR v0), some (sI (-1)), none]) rfl ?_
  refine go_int kk201_0.1.1.1.2.2 1 rfl ?_
  refine go_istore kk201_0.1.1.2.1.1.1 rfl (loc2 := [some (sR v0), some (sI (-1)), some (sI 1)]) rfl ?_
  exact tlM_mostAdopted_9 hd e2 hK0 fu (-1) (inR_of (by decide)) 1 (inR_b (Or.inr rfl))
theorem tbM_heaviest_14 {Φ : ev_P} {d : Nat} (hd : 2 ≤ d) {g : gH} (hg : HR g) {v0 v1 : Int} (hK0 : kd v0 = 7) (h1 : InR v1) {X14 : Int → Int → Option (Int × gH)} (HX14 : ∀ (v2 : Int) (h2 : InR v2) (v3 : Int) (h3 : InR v3), Go Φ pr_P fN 1 (X14 v2 v3) d pr_m202 14 [some (sR v0), some (sI v1), some (sI v2), some (sI v3)] [] g 0 0) : ∀ (v2 : Int) (h2 : InR v2) (v3 : Int) (h3 : InR v3), Go Φ pr_P fN 1 (bM_heaviest_14 g v0 v1 X14 v2 v3) d pr_m202 14 [some (sR v0), some (sI v1), some (sI v2), some (sI v3)] [] g 0 0 := by
  intro v2 h2 v3 h3
  unfold bM_heaviest_14
  refine go_iload kk202_0.1.2.1.1.1.1 rfl ?_
  refine go_aload kk202_0.1.2.1.1.1.2 rfl ?_
  refine go_getR (bI := 0) kk202_0.1.2.1.1.2 hg hK0 (by decide) rfl rfl (fun r7 => ?_)
  refine go_int kk202_0.1.2.1.2.1 0 rfl ?_
  refine go_ck (fun q9 => ?_)
  refine go_iald kk202_0.1.2.1.2.2 hg q9 (fun r8 => ?_)
  refine go_cmlt kk202_0.1.2.2.1.1 h3 r8 (fun c10 => ?_) (fun c11 => ?_)
  · refine go_aload kk202_0.1.2.2.1.2 rfl ?_
    refine go_iload kk202_0.1.2.2.2.1 rfl ?_
    refine go_iload kk202_0.1.2.2.2.2 rfl ?_
    refine go_int kk202_0.2.1.1.1.1.1 0 rfl ?_
    refine go_callP3 kk202_0.2.1.1.1.1.2 rfl rfl rfl ⟨by decide, _, rfl, hK0⟩ ⟨Nat.zero_le _, Nat.zero_le _⟩ (by omega) (tfM_isChild (by omega) hg hK0  h3 h1 (inR_b (Or.inl rfl))) (fun y12 r13 => ?_)
    refine go_ifeq kk202_0.2.1.1.1.2 (inR_b r13) (fun c16 => ?_) (fun c17 => ?_)
    · refine go_iinc kk202_0.2.2.2.1.1 rfl rfl 1 rfl (loc2 := [some (sR v0), some (sI v1), some (sI v2), some (sI (w32 (v3 + 1)))]) rfl ?_
      refine go_goto kk202_0.2.2.2.1.2 ?_
      exact HX14 v2 h2 (w32 (v3 + 1)) (inR_w32 _)
    · refine go_iload kk202_0.2.1.1.2.1 rfl ?_
      refine go_int kk202_0.2.1.1.2.2 (-1) rfl ?_
      refine go_cmeq kk202_0.2.1.2.1.1.1 h2 (inR_of (by decide)) (fun c18 => ?_) (fun c19 => ?_)
      · refine go_iload kk202_0.2.2.1.2.1 rfl ?_
        refine go_istore kk202_0.2.2.1.2.2 rfl (loc2 := [some (sR v0), some (sI v1), some (sI v3), some (sI v3)]) rfl ?_
        refine go_iinc kk202_0.2.2.2.1.1 rfl rfl 1 rfl (loc2 := [some (sR v0), some (sI v1), some (sI v3), some (sI (w32 (v3 + 1)))]) rfl ?_
        refine go_goto kk202_0.2.2.2.1.2 ?_
        exact HX14 v3 h3 (w32 (v3 + 1)) (inR_w32 _)
      · refine go_aload kk202_0.2.1.2.1.1.2 rfl ?_
        refine go_iload kk202_0.2.1.2.1.2 rfl ?_
        refine go_callP1 kk202_0.2.1.2.2.1 rfl rfl rfl ⟨by decide, _, rfl, hK0⟩ ⟨Nat.zero_le _, Nat.zero_le _⟩ (by omega) (tfM_belowOf (by omega) hg hK0  h3) (fun y20 r21 => ?_)
        refine go_aload kk202_0.2.1.2.2.2 rfl ?_
        refine go_iload kk202_0.2.2.1.1.1.1 rfl ?_
        refine go_callP1 kk202_0.2.2.1.1.1.2 rfl rfl rfl ⟨by decide, _, rfl, hK0⟩ ⟨Nat.zero_le _, Nat.zero_le _⟩ (by omega) (tfM_belowOf (by omega) hg hK0  h2) (fun y24 r25 => ?_)
        refine go_cmgt kk202_0.2.2.1.1.2 r21 r25 (fun c28 => ?_) (fun c29 => ?_)
        · refine go_iload kk202_0.2.2.1.2.1 rfl ?_
          refine go_istore kk202_0.2.2.1.2.2 rfl (loc2 := [some (sR v0), some (sI v1), some (sI v3), some (sI v3)]) rfl ?_
          refine go_iinc kk202_0.2.2.2.1.1 rfl rfl 1 rfl (loc2 := [some (sR v0), some (sI v1), some (sI v3), some (sI (w32 (v3 + 1)))]) rfl ?_
          refine go_goto kk202_0.2.2.2.1.2 ?_
          exact HX14 v3 h3 (w32 (v3 + 1)) (inR_w32 _)
        · refine go_iinc kk202_0.2.2.2.1.1 rfl rfl 1 rfl (loc2 := [some (sR v0), some (sI v1), some (sI v2), some (sI (w32 (v3 + 1)))]) rfl ?_
          refine go_goto kk202_0.2.2.2.1.2 ?_
          exact HX14 v2 h2 (w32 (v3 + 1)) (inR_w32 _)
  · refine go_iload kk202_0.2.2.2.2.1 rfl ?_
    exact go_iret kk202_0.2.2.2.2.2 hg h2 ⟨Nat.zero_le _, Nat.zero_le _⟩ rfl
theorem tlM_heaviest_14 {Φ : ev_P} {d : Nat} (hd : 2 ≤ d) {g : gH} (hg : HR g) {v0 v1 : Int} (hK0 : kd v0 = 7) (h1 : InR v1) : ∀ n : Nat, ∀ (v2 : Int) (h2 : InR v2) (v3 : Int) (h3 : InR v3), Go Φ pr_P fN 1 (lM_heaviest_14 g v0 v1 n v2 v3) d pr_m202 14 [some (sR v0), some (sI v1), some (sI v2), some (sI v3)] [] g 0 0 := by
  intro n
  induction n with
  | zero => intros; exact go_none
  | succ n ih => exact tbM_heaviest_14 hd hg hK0 h1 ih
theorem tfM_heaviest {Φ : ev_P} {d : Nat} (hd : 2 ≤ d) {g : gH} (hg : HR g) {v0 v1 : Int} (hK0 : kd v0 = 7) (h1 : InR v1) : Go Φ pr_P fN 1 (fM_heaviest g v0 v1) d (pr_P 202) 0 (ev_loc (pr_P 202).1 [(sR v0), (sI v1)]) [] g 0 0 := by
  show Go Φ pr_P fN 1 (fM_heaviest g v0 v1) d pr_m202 0 [some (sR v0), some (sI v1), none, none] [] g 0 0
  unfold fM_heaviest
  refine go_aload kk202_0.1.1.1.1.1.1 rfl ?_
  refine go_iload kk202_0.1.1.1.1.1.2 rfl ?_
  refine go_callN3 kk202_0.1.1.1.1.2 rfl rfl rfl ⟨by decide, _, rfl, hK0⟩ ⟨Nat.zero_le _, Nat.zero_le _⟩ (by omega) (tfM_noProcess (by omega) hg hK0  h1) (fun y1 g3 r2 e4 => ?_)
  refine go_ifeq kk202_0.1.1.1.2.1 (inR_b r2) (fun c5 => ?_) (fun c6 => ?_)
  · refine go_int kk202_0.1.1.2.1.1.2 (-1) rfl ?_
    refine go_istore kk202_0.1.1.2.1.2 rfl (loc2 := [some (sR v0), some (sI v1), some (sI (-1)), none]) rfl ?_
    refine go_int kk202_0.1.1.2.2.1 1 rfl ?_
    refine go_istore kk202_0.1.1.2.2.2 rfl (loc2 := [some (sR v0), some (sI v1), some (sI (-1)), some (sI 1)]) rfl ?_
    exact tlM_heaviest_14 hd e4 hK0 h1 fu (-1) (inR_of (by decide)) 1 (inR_b (Or.inr rfl))
  · refine go_int kk202_0.1.1.1.2.2 0 rfl ?_
    exact go_iret kk202_0.1.1.2.1.1.1 e4 (inR_b (Or.inl rfl)) ⟨Nat.zero_le _, Nat.zero_le _⟩ rfl
theorem tbM_groupsBelow_22 {Φ : ev_P} {d : Nat} (hd : 2 ≤ d) {g : gH} (hg : HR g) {v0 v1 : Int} (hK0 : kd v0 = 7) (h1 : InR v1) {X22 : Int → Int → Option (Int × gH)} (HX22 : ∀ (v2 : Int) (h2 : InR v2) (v3 : Int) (h3 : InR v3), Go Φ pr_P fN 1 (X22 v2 v3) d pr_m203 22 [some (sR v0), some (sI v1), some (sI v2), some (sI v3)] [] g 0 0) : ∀ (v2 : Int) (h2 : InR v2) (v3 : Int) (h3 : InR v3), Go Φ pr_P fN 1 (bM_groupsBelow_22 g v0 v1 X22 v2 v3) d pr_m203 22 [some (sR v0), some (sI v1), some (sI v2), some (sI v3)] [] g 0 0 := by
  intro v2 h2 v3 h3
  unfold bM_groupsBelow_22
  refine go_iload kk203_0.1.2.1.1.2 rfl ?_
  refine go_aload kk203_0.1.2.1.2.1.1 rfl ?_
  refine go_getR (bI := 0) kk203_0.1.2.1.2.1.2 hg hK0 (by decide) rfl rfl (fun r13 => ?_)
  refine go_int kk203_0.1.2.1.2.2 0 rfl ?_
  refine go_ck (fun q15 => ?_)
  refine go_iald kk203_0.1.2.2.1.1.1 hg q15 (fun r14 => ?_)
  refine go_cmlt kk203_0.1.2.2.1.1.2 h3 r14 (fun c16 => ?_) (fun c17 => ?_)
  · refine go_iload kk203_0.1.2.2.1.2 rfl ?_
    refine go_aload kk203_0.1.2.2.2.1 rfl ?_
    refine go_iload kk203_0.1.2.2.2.2 rfl ?_
    refine go_callP3 kk203_0.2.1.1.1.1.1 rfl rfl rfl ⟨by decide, _, rfl, hK0⟩ ⟨Nat.zero_le _, Nat.zero_le _⟩ (by omega) (tfM_runs (by omega) hg hK0  h3) (fun y18 r19 => ?_)
    refine go_ifeq kk203_0.2.1.1.1.1.2 (inR_b r19) (fun c22 => ?_) (fun c23 => ?_)
    · refine go_int kk203_0.2.2.1.2.1.2 0 rfl ?_
      refine go_ibin kk203_0.2.2.1.2.2 ?_
      refine go_istore kk203_0.2.2.2.1.1.1 rfl (loc2 := [some (sR v0), some (sI v1), some (sI (opI 2 v2 0)), some (sI v3)]) rfl ?_
      refine go_iinc kk203_0.2.2.2.1.1.2 rfl rfl 1 rfl (loc2 := [some (sR v0), some (sI v1), some (sI (opI 2 v2 0)), some (sI (w32 (v3 + 1)))]) rfl ?_
      refine go_goto kk203_0.2.2.2.1.2 ?_
      exact HX22 (opI 2 v2 0) (inR_opI _ _ _) (w32 (v3 + 1)) (inR_w32 _)
    · refine go_aload kk203_0.2.1.1.1.2 rfl ?_
      refine go_iload kk203_0.2.1.1.2.1.1 rfl ?_
      refine go_iload kk203_0.2.1.1.2.1.2 rfl ?_
      refine go_callP3 kk203_0.2.1.1.2.2 rfl rfl rfl ⟨by decide, _, rfl, hK0⟩ ⟨Nat.zero_le _, Nat.zero_le _⟩ (by omega) (tfM_isOver (by omega) hg hK0  h1 h3) (fun y24 r25 => ?_)
      refine go_ifeq kk203_0.2.1.2.1.1.1 (inR_b r25) (fun c28 => ?_) (fun c29 => ?_)
      · refine go_int kk203_0.2.2.1.2.1.2 0 rfl ?_
        refine go_ibin kk203_0.2.2.1.2.2 ?_
        refine go_istore kk203_0.2.2.2.1.1.1 rfl (loc2 := [some (sR v0), some (sI v1), some (sI (opI 2 v2 0)), some (sI v3)]) rfl ?_
        refine go_iinc kk203_0.2.2.2.1.1.2 rfl rfl 1 rfl (loc2 := [some (sR v0), some (sI v1), some (sI (opI 2 v2 0)), some (sI (w32 (v3 + 1)))]) rfl ?_
        refine go_goto kk203_0.2.2.2.1.2 ?_
        exact HX22 (opI 2 v2 0) (inR_opI _ _ _) (w32 (v3 + 1)) (inR_w32 _)
      · refine go_int kk203_0.2.1.2.1.1.2 1 rfl ?_
        refine go_aload kk203_0.2.1.2.1.2 rfl ?_
        refine go_getR (bI := 0) kk203_0.2.1.2.2.1.1 hg hK0 (by decide) rfl rfl (fun r30 => ?_)
        refine go_int kk203_0.2.1.2.2.1.2 180 rfl ?_
        refine go_iload kk203_0.2.1.2.2.2 rfl ?_
        refine go_iadd kk203_0.2.2.1.1.1.1 ?_
        refine go_ck (fun q32 => ?_)
        refine go_iald kk203_0.2.2.1.1.1.2 hg q32 (fun r31 => ?_)
        refine go_ibin kk203_0.2.2.1.1.2 ?_
        refine go_goto kk203_0.2.2.1.2.1.1 ?_
        refine go_ibin kk203_0.2.2.1.2.2 ?_
        refine go_istore kk203_0.2.2.2.1.1.1 rfl (loc2 := [some (sR v0), some (sI v1), some (sI (opI 2 v2 (opI 4 1 (g (g v0 0) (w32 (180 + v3)))))), some (sI v3)]) rfl ?_
        refine go_iinc kk203_0.2.2.2.1.1.2 rfl rfl 1 rfl (loc2 := [some (sR v0), some (sI v1), some (sI (opI 2 v2 (opI 4 1 (g (g v0 0) (w32 (180 + v3)))))), some (sI (w32 (v3 + 1)))]) rfl ?_
        refine go_goto kk203_0.2.2.2.1.2 ?_
        exact HX22 (opI 2 v2 (opI 4 1 (g (g v0 0) (w32 (180 + v3))))) (inR_opI _ _ _) (w32 (v3 + 1)) (inR_w32 _)
  · refine go_iload kk203_0.2.2.2.2.1 rfl ?_
    exact go_iret kk203_0.2.2.2.2.2 hg h2 ⟨Nat.zero_le _, Nat.zero_le _⟩ rfl
theorem tlM_groupsBelow_22 {Φ : ev_P} {d : Nat} (hd : 2 ≤ d) {g : gH} (hg : HR g) {v0 v1 : Int} (hK0 : kd v0 = 7) (h1 : InR v1) : ∀ n : Nat, ∀ (v2 : Int) (h2 : InR v2) (v3 : Int) (h3 : InR v3), Go Φ pr_P fN 1 (lM_groupsBelow_22 g v0 v1 n v2 v3) d pr_m203 22 [some (sR v0), some (sI v1), some (sI v2), some (sI v3)] [] g 0 0 := by
  intro n
  induction n with
  | zero => intros; exact go_none
  | succ n ih => exact tbM_groupsBelow_22 hd hg hK0 h1 ih
theorem tfM_groupsBelow {Φ : ev_P} {d : Nat} (hd : 2 ≤ d) {g : gH} (hg : HR g) {v0 v1 : Int} (hK0 : kd v0 = 7) (h1 : InR v1) : Go Φ pr_P fN 1 (fM_groupsBelow g v0 v1) d (pr_P 203) 0 (ev_loc (pr_P 203).1 [(sR v0), (sI v1)]) [] g 0 0 := by
  show Go Φ pr_P fN 1 (fM_groupsBelow g v0 v1) d pr_m203 0 [some (sR v0), some (sI v1), none, none] [] g 0 0
  unfold fM_groupsBelow
  refine go_aload kk203_0.1.1.1.1.1.1 rfl ?_
  refine go_iload kk203_0.1.1.1.1.1.2 rfl ?_
  refine go_callN3 kk203_0.1.1.1.1.2 rfl rfl rfl ⟨by decide, _, rfl, hK0⟩ ⟨Nat.zero_le _, Nat.zero_le _⟩ (by omega) (tfM_noProcess (by omega) hg hK0  h1) (fun y1 g3 r2 e4 => ?_)
  refine go_ifeq kk203_0.1.1.1.2.1.1 (inR_b r2) (fun c5 => ?_) (fun c6 => ?_)
  · refine go_aload kk203_0.1.1.1.2.1.2 rfl ?_
    refine go_iload kk203_0.1.1.1.2.2 rfl ?_
    refine go_callP3 kk203_0.1.1.2.1.1.1 rfl rfl rfl ⟨by decide, _, rfl, hK0⟩ ⟨Nat.zero_le _, Nat.zero_le _⟩ (by omega) (tfM_runs (by omega) e4 hK0  h1) (fun y7 r8 => ?_)
    refine go_ifeq kk203_0.1.1.2.1.1.2 (inR_b r8) (fun c11 => ?_) (fun c12 => ?_)
    · refine go_int kk203_0.1.1.2.1.2 0 rfl ?_
      exact go_iret kk203_0.1.1.2.2.1.1 e4 (inR_b (Or.inl rfl)) ⟨Nat.zero_le _, Nat.zero_le _⟩ rfl
    · refine go_int kk203_0.1.1.2.2.1.2 0 rfl ?_
      refine go_istore kk203_0.1.1.2.2.2 rfl (loc2 := [some (sR v0), some (sI v1), some (sI 0), none]) rfl ?_
      refine go_int kk203_0.1.2.1.1.1.1 1 rfl ?_
      refine go_istore kk203_0.1.2.1.1.1.2 rfl (loc2 := [some (sR v0), some (sI v1), some (sI 0), some (sI 1)]) rfl ?_
      exact tlM_groupsBelow_22 hd e4 hK0 h1 fu 0 (inR_b (Or.inl rfl)) 1 (inR_b (Or.inr rfl))
  · refine go_int kk203_0.1.1.2.1.2 0 rfl ?_
    exact go_iret kk203_0.1.1.2.2.1.1 e4 (inR_b (Or.inl rfl)) ⟨Nat.zero_le _, Nat.zero_le _⟩ rfl
theorem tbM_strangers_14 {Φ : ev_P} {d : Nat} (hd : 2 ≤ d) {g : gH} (hg : HR g) {v0 v1 : Int} (hK0 : kd v0 = 7) (h1 : InR v1) {X14 : Int → Int → Option (Int × gH)} (HX14 : ∀ (v2 : Int) (h2 : InR v2) (v3 : Int) (h3 : InR v3), Go Φ pr_P fN 1 (X14 v2 v3) d pr_m204 14 [some (sR v0), some (sI v1), some (sI v2), some (sI v3)] [] g 0 0) : ∀ (v2 : Int) (h2 : InR v2) (v3 : Int) (h3 : InR v3), Go Φ pr_P fN 1 (bM_strangers_14 g v0 v1 X14 v2 v3) d pr_m204 14 [some (sR v0), some (sI v1), some (sI v2), some (sI v3)] [] g 0 0 := by
  intro v2 h2 v3 h3
  unfold bM_strangers_14
  refine go_iload kk204_0.1.1.2.2.1.2 rfl ?_
  refine go_aload kk204_0.1.1.2.2.2 rfl ?_
  refine go_getR (bI := 0) kk204_0.1.2.1.1.1.1 hg hK0 (by decide) rfl rfl (fun r7 => ?_)
  refine go_int kk204_0.1.2.1.1.1.2 0 rfl ?_
  refine go_ck (fun q9 => ?_)
  refine go_iald kk204_0.1.2.1.1.2 hg q9 (fun r8 => ?_)
  refine go_cmlt kk204_0.1.2.1.2.1.1 h3 r8 (fun c10 => ?_) (fun c11 => ?_)
  · refine go_iload kk204_0.1.2.1.2.1.2 rfl ?_
    refine go_aload kk204_0.1.2.1.2.2 rfl ?_
    refine go_iload kk204_0.1.2.2.1.1.1 rfl ?_
    refine go_iload kk204_0.1.2.2.1.1.2 rfl ?_
    refine go_int kk204_0.1.2.2.1.2 0 rfl ?_
    refine go_callP3 kk204_0.1.2.2.2.1 rfl rfl rfl ⟨by decide, _, rfl, hK0⟩ ⟨Nat.zero_le _, Nat.zero_le _⟩ (by omega) (tfM_isChild (by omega) hg hK0  h3 h1 (inR_b (Or.inl rfl))) (fun y12 r13 => ?_)
    refine go_ifeq kk204_0.1.2.2.2.2 (inR_b r13) (fun c16 => ?_) (fun c17 => ?_)
    · refine go_int kk204_0.2.2.1.2.1.2 0 rfl ?_
      refine go_iadd kk204_0.2.2.1.2.2 ?_
      refine go_istore kk204_0.2.2.2.1.1.1 rfl (loc2 := [some (sR v0), some (sI v1), some (sI (w32 (v2 + 0))), some (sI v3)]) rfl ?_
      refine go_iinc kk204_0.2.2.2.1.1.2 rfl rfl 1 rfl (loc2 := [some (sR v0), some (sI v1), some (sI (w32 (v2 + 0))), some (sI (w32 (v3 + 1)))]) rfl ?_
      refine go_goto kk204_0.2.2.2.1.2 ?_
      exact HX14 (w32 (v2 + 0)) (inR_w32 _) (w32 (v3 + 1)) (inR_w32 _)
    · refine go_aload kk204_0.2.1.1.1.1.1 rfl ?_
      refine go_getR (bI := 0) kk204_0.2.1.1.1.1.2 hg hK0 (by decide) rfl rfl (fun r18 => ?_)
      refine go_int kk204_0.2.1.1.1.2 180 rfl ?_
      refine go_iload kk204_0.2.1.1.2.1.1 rfl ?_
      refine go_iadd kk204_0.2.1.1.2.1.2 ?_
      refine go_ck (fun q20 => ?_)
      refine go_iald kk204_0.2.1.1.2.2 hg q20 (fun r19 => ?_)
      refine go_aload kk204_0.2.1.2.1.1.1 rfl ?_
      refine go_getR (bI := 0) kk204_0.2.1.2.1.1.2 hg hK0 (by decide) rfl rfl (fun r21 => ?_)
      refine go_int kk204_0.2.1.2.1.2 180 rfl ?_
      refine go_iload kk204_0.2.1.2.2.1 rfl ?_
      refine go_iadd kk204_0.2.1.2.2.2 ?_
      refine go_ck (fun q23 => ?_)
      refine go_iald kk204_0.2.2.1.1.1.1 hg q23 (fun r22 => ?_)
      refine go_cmeq kk204_0.2.2.1.1.1.2 r19 r22 (fun c24 => ?_) (fun c25 => ?_)
      · refine go_int kk204_0.2.2.1.2.1.2 0 rfl ?_
        refine go_iadd kk204_0.2.2.1.2.2 ?_
        refine go_istore kk204_0.2.2.2.1.1.1 rfl (loc2 := [some (sR v0), some (sI v1), some (sI (w32 (v2 + 0))), some (sI v3)]) rfl ?_
        refine go_iinc kk204_0.2.2.2.1.1.2 rfl rfl 1 rfl (loc2 := [some (sR v0), some (sI v1), some (sI (w32 (v2 + 0))), some (sI (w32 (v3 + 1)))]) rfl ?_
        refine go_goto kk204_0.2.2.2.1.2 ?_
        exact HX14 (w32 (v2 + 0)) (inR_w32 _) (w32 (v3 + 1)) (inR_w32 _)
      · refine go_int kk204_0.2.2.1.1.2 1 rfl ?_
        refine go_goto kk204_0.2.2.1.2.1.1 ?_
        refine go_iadd kk204_0.2.2.1.2.2 ?_
        refine go_istore kk204_0.2.2.2.1.1.1 rfl (loc2 := [some (sR v0), some (sI v1), some (sI (w32 (v2 + 1))), some (sI v3)]) rfl ?_
        refine go_iinc kk204_0.2.2.2.1.1.2 rfl rfl 1 rfl (loc2 := [some (sR v0), some (sI v1), some (sI (w32 (v2 + 1))), some (sI (w32 (v3 + 1)))]) rfl ?_
        refine go_goto kk204_0.2.2.2.1.2 ?_
        exact HX14 (w32 (v2 + 1)) (inR_w32 _) (w32 (v3 + 1)) (inR_w32 _)
  · refine go_iload kk204_0.2.2.2.2.1 rfl ?_
    exact go_iret kk204_0.2.2.2.2.2 hg h2 ⟨Nat.zero_le _, Nat.zero_le _⟩ rfl
theorem tlM_strangers_14 {Φ : ev_P} {d : Nat} (hd : 2 ≤ d) {g : gH} (hg : HR g) {v0 v1 : Int} (hK0 : kd v0 = 7) (h1 : InR v1) : ∀ n : Nat, ∀ (v2 : Int) (h2 : InR v2) (v3 : Int) (h3 : InR v3), Go Φ pr_P fN 1 (lM_strangers_14 g v0 v1 n v2 v3) d pr_m204 14 [some (sR v0), some (sI v1), some (sI v2), some (sI v3)] [] g 0 0 := by
  intro n
  induction n with
  | zero => intros; exact go_none
  | succ n ih => exact tbM_strangers_14 hd hg hK0 h1 ih
theorem tfM_strangers {Φ : ev_P} {d : Nat} (hd : 2 ≤ d) {g : gH} (hg : HR g) {v0 v1 : Int} (hK0 : kd v0 = 7) (h1 : InR v1) : Go Φ pr_P fN 1 (fM_strangers g v0 v1) d (pr_P 204) 0 (ev_loc (pr_P 204).1 [(sR v0), (sI v1)]) [] g 0 0 := by
  show Go Φ pr_P fN 1 (fM_strangers g v0 v1) d pr_m204 0 [some (sR v0), some (sI v1), none, none] [] g 0 0
  unfold fM_strangers
  refine go_aload kk204_0.1.1.1.1.1.1 rfl ?_
  refine go_iload kk204_0.1.1.1.1.1.2 rfl ?_
  refine go_callN3 kk204_0.1.1.1.1.2 rfl rfl rfl ⟨by decide, _, rfl, hK0⟩ ⟨Nat.zero_le _, Nat.zero_le _⟩ (by omega) (tfM_noProcess (by omega) hg hK0  h1) (fun y1 g3 r2 e4 => ?_)
  refine go_ifeq kk204_0.1.1.1.2.1.1 (inR_b r2) (fun c5 => ?_) (fun c6 => ?_)
  · refine go_int kk204_0.1.1.2.1.1.1 0 rfl ?_
    refine go_istore kk204_0.1.1.2.1.1.2 rfl (loc2 := [some (sR v0), some (sI v1), some (sI 0), none]) rfl ?_
    refine go_int kk204_0.1.1.2.1.2 1 rfl ?_
    refine go_istore kk204_0.1.1.2.2.1.1 rfl (loc2 := [some (sR v0), some (sI v1), some (sI 0), some (sI 1)]) rfl ?_
    exact tlM_strangers_14 hd e4 hK0 h1 fu 0 (inR_b (Or.inl rfl)) 1 (inR_b (Or.inr rfl))
  · refine go_int kk204_0.1.1.1.2.1.2 0 rfl ?_
    exact go_iret kk204_0.1.1.1.2.2 e4 (inR_b (Or.inl rfl)) ⟨Nat.zero_le _, Nat.zero_le _⟩ rfl
theorem tfM_write {Φ : ev_P} {d : Nat} (hd : 0 ≤ d) {g : gH} (hg : HR g) {v0 v1 : Int} (hK0 : kd v0 = 7) (h1 : InR v1) : Go Φ pr_P fN 0 (fM_write g v0 v1) d (pr_P 205) 0 (ev_loc (pr_P 205).1 [(sR v0), (sI v1)]) [] g 0 0 := by
  show Go Φ pr_P fN 0 (fM_write g v0 v1) d pr_m205 0 [some (sR v0), some (sI v1)] [] g 0 0
  unfold fM_write
  refine go_aload kk205_0.1.1.1.1 rfl ?_
  refine go_getR (bI := 22) kk205_0.1.1.1.2 hg hK0 (by decide) rfl rfl (fun r1 => ?_)
  refine go_aload kk205_0.1.1.2.1 rfl ?_
  refine go_getI (bI := 23) kk205_0.1.1.2.2 hg hK0 (by decide) rfl rfl (fun r2 => ?_)
  refine go_iload kk205_0.1.2.1.1 rfl ?_
  refine go_ck (fun q3 => ?_)
  refine go_iast kk205_0.1.2.1.2 hg q3 h1 (fun g4 e5 => ?_)
  refine go_aload kk205_0.1.2.2 rfl ?_
  refine go_dupR kk205_0.2.1.1.1 ?_
  refine go_getI (bI := 23) kk205_0.2.1.1.2 e5 hK0 (by decide) rfl rfl (fun r6 => ?_)
  refine go_int kk205_0.2.1.2 1 rfl ?_
  refine go_iadd kk205_0.2.2.1.1 ?_
  refine go_putI (bI := 23) kk205_0.2.2.1.2 e5 hK0 (by decide) rfl rfl (inR_w32 _) (fun g7 e8 => ?_)
  exact go_vret kk205_0.2.2.2 e8 ⟨Nat.zero_le _, Nat.zero_le _⟩ rfl
theorem tbM_writeNumber_18 {Φ : ev_P} {d : Nat} (hd : 1 ≤ d) {v0 v1 : Int} (hK0 : kd v0 = 7) (h1 : InR v1) {X18 : Int → gH → Option (Int × gH)} (HX18 : ∀ (v2 : Int) (h2 : InR v2) (g : gH) (hg : HR g), Go Φ pr_P fN 0 (X18 v2 g) d pr_m207 18 [some (sR v0), some (sI v1), some (sI v2)] [] g 0 0) : ∀ (v2 : Int) (h2 : InR v2) (g : gH) (hg : HR g), Go Φ pr_P fN 0 (bM_writeNumber_18 v0 v1 X18 v2 g) d pr_m207 18 [some (sR v0), some (sI v1), some (sI v2)] [] g 0 0 := by
  intro v2 h2 g hg
  unfold bM_writeNumber_18
  refine go_iload kk207_0.1.2.2.1.1 rfl ?_
  refine go_ifgt kk207_0.1.2.2.1.2 h2 (fun c4 => ?_) (fun c5 => ?_)
  · refine go_aload kk207_0.1.2.2.2 rfl ?_
    refine go_int kk207_0.2.1.1.1.1 48 rfl ?_
    refine go_iload kk207_0.2.1.1.1.2 rfl ?_
    refine go_iload kk207_0.2.1.1.2.1 rfl ?_
    refine go_ck (fun q6 => ?_)
    refine go_div kk207_0.2.1.1.2.2 q6 ?_
    refine go_int kk207_0.2.1.2.1.1 10 rfl ?_
    refine go_ck (fun q7 => ?_)
    refine go_rem kk207_0.2.1.2.1.2 q7 ?_
    refine go_iadd kk207_0.2.1.2.2 ?_
    refine go_callN0 kk207_0.2.2.1.1.1 rfl rfl rfl ⟨by decide, _, rfl, hK0⟩ ⟨Nat.zero_le _, Nat.zero_le _⟩ (by omega) (tfM_write (by omega) hg hK0  (inR_w32 _)) (fun y8 g10 e11 => ?_)
    refine go_iload kk207_0.2.2.1.1.2 rfl ?_
    refine go_int kk207_0.2.2.1.2.1 10 rfl ?_
    refine go_ck (fun q12 => ?_)
    refine go_div kk207_0.2.2.1.2.2 q12 ?_
    refine go_istore kk207_0.2.2.2.1.1 rfl (loc2 := [some (sR v0), some (sI v1), some (sI (v2 / 10))]) rfl ?_
    refine go_goto kk207_0.2.2.2.1.2 ?_
    exact HX18 (v2 / 10) (inR_div q12) g10 e11
  · exact go_vret kk207_0.2.2.2.2 hg ⟨Nat.zero_le _, Nat.zero_le _⟩ rfl
theorem tlM_writeNumber_18 {Φ : ev_P} {d : Nat} (hd : 1 ≤ d) {v0 v1 : Int} (hK0 : kd v0 = 7) (h1 : InR v1) : ∀ n : Nat, ∀ (v2 : Int) (h2 : InR v2) (g : gH) (hg : HR g), Go Φ pr_P fN 0 (lM_writeNumber_18 v0 v1 n v2 g) d pr_m207 18 [some (sR v0), some (sI v1), some (sI v2)] [] g 0 0 := by
  intro n
  induction n with
  | zero => intros; exact go_none
  | succ n ih => exact tbM_writeNumber_18 hd hK0 h1 ih
theorem tbM_writeNumber_2 {Φ : ev_P} {d : Nat} (hd : 1 ≤ d) {g : gH} (hg : HR g) {v0 v1 : Int} (hK0 : kd v0 = 7) (h1 : InR v1) {X2 : Int → Option (Int × gH)} (HX2 : ∀ (v2 : Int) (h2 : InR v2), Go Φ pr_P fN 0 (X2 v2) d pr_m207 2 [some (sR v0), some (sI v1), some (sI v2)] [] g 0 0) : ∀ (v2 : Int) (h2 : InR v2), Go Φ pr_P fN 0 (bM_writeNumber_2 g v0 v1 X2 v2) d pr_m207 2 [some (sR v0), some (sI v1), some (sI v2)] [] g 0 0 := by
  intro v2 h2
  unfold bM_writeNumber_2
  refine go_iload kk207_0.1.1.1.2.1 rfl ?_
  refine go_iload kk207_0.1.1.1.2.2 rfl ?_
  refine go_ck (fun q1 => ?_)
  refine go_div kk207_0.1.1.2.1.1 q1 ?_
  refine go_int kk207_0.1.1.2.1.2 9 rfl ?_
  refine go_cmgt kk207_0.1.1.2.2.1 (inR_div q1) (inR_of (by decide)) (fun c2 => ?_) (fun c3 => ?_)
  · refine go_iload kk207_0.1.1.2.2.2 rfl ?_
    refine go_int kk207_0.1.2.1.1.1 10 rfl ?_
    refine go_ibin kk207_0.1.2.1.1.2 ?_
    refine go_istore kk207_0.1.2.1.2.1 rfl (loc2 := [some (sR v0), some (sI v1), some (sI (opI 0 v2 10))]) rfl ?_
    refine go_goto kk207_0.1.2.1.2.2 ?_
    exact HX2 (opI 0 v2 10) (inR_opI _ _ _)
  · exact tlM_writeNumber_18 hd hK0 h1 fu v2 h2 g hg
theorem tlM_writeNumber_2 {Φ : ev_P} {d : Nat} (hd : 1 ≤ d) {g : gH} (hg : HR g) {v0 v1 : Int} (hK0 : kd v0 = 7) (h1 : InR v1) : ∀ n : Nat, ∀ (v2 : Int) (h2 : InR v2), Go Φ pr_P fN 0 (lM_writeNumber_2 g v0 v1 n v2) d pr_m207 2 [some (sR v0), some (sI v1), some (sI v2)] [] g 0 0 := by
  intro n
  induction n with
  | zero => intros; exact go_none
  | succ n ih => exact tbM_writeNumber_2 hd hg hK0 h1 ih
theorem tfM_writeNumber {Φ : ev_P} {d : Nat} (hd : 1 ≤ d) {g : gH} (hg : HR g) {v0 v1 : Int} (hK0 : kd v0 = 7) (h1 : InR v1) : Go Φ pr_P fN 0 (fM_writeNumber g v0 v1) d (pr_P 207) 0 (ev_loc (pr_P 207).1 [(sR v0), (sI v1)]) [] g 0 0 := by
  show Go Φ pr_P fN 0 (fM_writeNumber g v0 v1) d pr_m207 0 [some (sR v0), some (sI v1), none] [] g 0 0
  unfold fM_writeNumber
  refine go_int kk207_0.1.1.1.1.1 1 rfl ?_
  refine go_istore kk207_0.1.1.1.1.2 rfl (loc2 := [some (sR v0), some (sI v1), some (sI 1)]) rfl ?_
  exact tlM_writeNumber_2 hd hg hK0 h1 fu 1 (inR_b (Or.inr rfl))
theorem tbM_onPath_2 {Φ : ev_P} {d : Nat} (hd : 1 ≤ d) {g : gH} (hg : HR g) {v0 v2 : Int} (hK0 : kd v0 = 7) (h2 : InR v2) {X2 : Int → Option Int} (HX2 : ∀ (v3 : Int) (h3 : InR v3) (u1 : Option ev_V) (w1 : nwo u1), Go Φ pr_P (fP g) 1 (X2 v3) d pr_m206 2 [some (sR v0), u1, some (sI v2), some (sI v3)] [] g 0 0) : ∀ (v3 : Int) (h3 : InR v3) (u1 : Option ev_V) (w1 : nwo u1), Go Φ pr_P (fP g) 1 (bM_onPath_2 g v0 v2 X2 v3) d pr_m206 2 [some (sR v0), u1, some (sI v2), some (sI v3)] [] g 0 0 := by
  intro v3 h3 u1 w1
  unfold bM_onPath_2
  refine go_aload kk206_0.1.1.1.2 rfl ?_
  refine go_iload kk206_0.1.1.2.1 rfl ?_
  refine go_callP1 kk206_0.1.1.2.2 rfl rfl rfl ⟨by decide, _, rfl, hK0⟩ ⟨Nat.zero_le _, Nat.zero_le _⟩ (by omega) (tfM_deep (by omega) hg hK0  h3) (fun y1 r2 => ?_)
  refine go_iload kk206_0.1.2.1.1 rfl ?_
  refine go_cmgt kk206_0.1.2.1.2 r2 h2 (fun c5 => ?_) (fun c6 => ?_)
  · refine go_aload kk206_0.1.2.2.1 rfl ?_
    refine go_getR (bI := 0) kk206_0.1.2.2.2 hg hK0 (by decide) rfl rfl (fun r7 => ?_)
    refine go_int kk206_0.2.1.1.1 60 rfl ?_
    refine go_iload kk206_0.2.1.1.2 rfl ?_
    refine go_iadd kk206_0.2.1.2.1 ?_
    refine go_ck (fun q9 => ?_)
    refine go_iald kk206_0.2.1.2.2 hg q9 (fun r8 => ?_)
    refine go_istore kk206_0.2.2.1.1 rfl (loc2 := [some (sR v0), u1, some (sI v2), some (sI (g (g v0 0) (w32 (60 + v3))))]) rfl ?_
    refine go_goto kk206_0.2.2.1.2 ?_
    exact HX2 (g (g v0 0) (w32 (60 + v3))) r8 u1 w1
  · refine go_iload kk206_0.2.2.2.1 rfl ?_
    exact go_iret kk206_0.2.2.2.2 hg h3 ⟨Nat.zero_le _, Nat.zero_le _⟩ rfl
theorem tlM_onPath_2 {Φ : ev_P} {d : Nat} (hd : 1 ≤ d) {g : gH} (hg : HR g) {v0 v2 : Int} (hK0 : kd v0 = 7) (h2 : InR v2) : ∀ n : Nat, ∀ (v3 : Int) (h3 : InR v3) (u1 : Option ev_V) (w1 : nwo u1), Go Φ pr_P (fP g) 1 (lM_onPath_2 g v0 v2 n v3) d pr_m206 2 [some (sR v0), u1, some (sI v2), some (sI v3)] [] g 0 0 := by
  intro n
  induction n with
  | zero => intros; exact go_none
  | succ n ih => exact tbM_onPath_2 hd hg hK0 h2 ih
theorem tfM_onPath {Φ : ev_P} {d : Nat} (hd : 1 ≤ d) {g : gH} (hg : HR g) {v0 v1 v2 : Int} (hK0 : kd v0 = 7) (h1 : InR v1) (h2 : InR v2) : Go Φ pr_P (fP g) 1 (fM_onPath g v0 v1 v2) d (pr_P 206) 0 (ev_loc (pr_P 206).1 [(sR v0), (sI v1), (sI v2)]) [] g 0 0 := by
  show Go Φ pr_P (fP g) 1 (fM_onPath g v0 v1 v2) d pr_m206 0 [some (sR v0), some (sI v1), some (sI v2), none] [] g 0 0
  unfold fM_onPath
  refine go_iload kk206_0.1.1.1.1.1 rfl ?_
  refine go_istore kk206_0.1.1.1.1.2 rfl (loc2 := [some (sR v0), some (sI v1), some (sI v2), some (sI v1)]) rfl ?_
  exact tlM_onPath_2 hd hg hK0 h2 fu v1 h1 (some (sI v1)) rfl
theorem tfM_writeBetween {Φ : ev_P} {d : Nat} (hd : 1 ≤ d) {g : gH} (hg : HR g) {v0 v1 : Int} (hK0 : kd v0 = 7) (h1 : InR v1) : Go Φ pr_P fN 0 (fM_writeBetween g v0 v1) d (pr_P 208) 0 (ev_loc (pr_P 208).1 [(sR v0), (sI v1)]) [] g 0 0 := by
  show Go Φ pr_P fN 0 (fM_writeBetween g v0 v1) d pr_m208 0 [some (sR v0), some (sI v1)] [] g 0 0
  unfold fM_writeBetween
  refine go_aload kk208_0.1.1.1 rfl ?_
  refine go_getI (bI := 23) kk208_0.1.1.2 hg hK0 (by decide) rfl rfl (fun r1 => ?_)
  refine go_ifgt kk208_0.1.2.1 r1 (fun c2 => ?_) (fun c3 => ?_)
  · refine go_aload kk208_0.1.2.2 rfl ?_
    refine go_iload kk208_0.2.1.1 rfl ?_
    refine go_callN0 kk208_0.2.1.2 rfl rfl rfl ⟨by decide, _, rfl, hK0⟩ ⟨Nat.zero_le _, Nat.zero_le _⟩ (by omega) (tfM_write (by omega) hg hK0  h1) (fun y4 g6 e7 => ?_)
    exact go_vret kk208_0.2.2 e7 ⟨Nat.zero_le _, Nat.zero_le _⟩ rfl
  · exact go_vret kk208_0.2.2 hg ⟨Nat.zero_le _, Nat.zero_le _⟩ rfl
theorem tbM_writePath_2 {Φ : ev_P} {d : Nat} (hd : 2 ≤ d) {v0 v1 : Int} (hK0 : kd v0 = 7) (h1 : InR v1) {X2 : Int → gH → Option (Int × gH)} (HX2 : ∀ (v2 : Int) (h2 : InR v2) (g : gH) (hg : HR g), Go Φ pr_P fN 0 (X2 v2 g) d pr_m209 2 [some (sR v0), some (sI v1), some (sI v2)] [] g 0 0) : ∀ (v2 : Int) (h2 : InR v2) (g : gH) (hg : HR g), Go Φ pr_P fN 0 (bM_writePath_2 v0 v1 X2 v2 g) d pr_m209 2 [some (sR v0), some (sI v1), some (sI v2)] [] g 0 0 := by
  intro v2 h2 g hg
  unfold bM_writePath_2
  refine go_iload kk209_0.1.1.1.2 rfl ?_
  refine go_aload kk209_0.1.1.2.1 rfl ?_
  refine go_iload kk209_0.1.1.2.2 rfl ?_
  refine go_callP1 kk209_0.1.2.1.1.1 rfl rfl rfl ⟨by decide, _, rfl, hK0⟩ ⟨Nat.zero_le _, Nat.zero_le _⟩ (by omega) (tfM_deep (by omega) hg hK0  h1) (fun y1 r2 => ?_)
  refine go_cmgt kk209_0.1.2.1.1.2 h2 r2 (fun c5 => ?_) (fun c6 => ?_)
  · exact go_vret kk209_0.2.2.2.2 hg ⟨Nat.zero_le _, Nat.zero_le _⟩ rfl
  · refine go_aload kk209_0.1.2.1.2 rfl ?_
    refine go_int kk209_0.1.2.2.1 47 rfl ?_
    refine go_callN0 kk209_0.1.2.2.2 rfl rfl rfl ⟨by decide, _, rfl, hK0⟩ ⟨Nat.zero_le _, Nat.zero_le _⟩ (by omega) (tfM_writeBetween (by omega) hg hK0  (inR_of (by decide))) (fun y7 g9 e10 => ?_)
    refine go_aload kk209_0.2.1.1.1.1 rfl ?_
    refine go_aload kk209_0.2.1.1.1.2 rfl ?_
    refine go_iload kk209_0.2.1.1.2 rfl ?_
    refine go_iload kk209_0.2.1.2.1 rfl ?_
    refine go_callP1 kk209_0.2.1.2.2 rfl rfl rfl ⟨by decide, _, rfl, hK0⟩ ⟨Nat.zero_le _, Nat.zero_le _⟩ (by omega) (tfM_onPath (by omega) e10 hK0  h1 h2) (fun y11 r12 => ?_)
    refine go_callN0 kk209_0.2.2.1.1 rfl rfl rfl ⟨by decide, _, rfl, hK0⟩ ⟨Nat.zero_le _, Nat.zero_le _⟩ (by omega) (tfM_writeNumber (by omega) e10 hK0  r12) (fun y15 g17 e18 => ?_)
    refine go_iinc kk209_0.2.2.1.2 rfl rfl 1 rfl (loc2 := [some (sR v0), some (sI v1), some (sI (w32 (v2 + 1)))]) rfl ?_
    refine go_goto kk209_0.2.2.2.1 ?_
    exact HX2 (w32 (v2 + 1)) (inR_w32 _) g17 e18
theorem tlM_writePath_2 {Φ : ev_P} {d : Nat} (hd : 2 ≤ d) {v0 v1 : Int} (hK0 : kd v0 = 7) (h1 : InR v1) : ∀ n : Nat, ∀ (v2 : Int) (h2 : InR v2) (g : gH) (hg : HR g), Go Φ pr_P fN 0 (lM_writePath_2 v0 v1 n v2 g) d pr_m209 2 [some (sR v0), some (sI v1), some (sI v2)] [] g 0 0 := by
  intro n
  induction n with
  | zero => intros; exact go_none
  | succ n ih => exact tbM_writePath_2 hd hK0 h1 ih
theorem tfM_writePath {Φ : ev_P} {d : Nat} (hd : 2 ≤ d) {g : gH} (hg : HR g) {v0 v1 : Int} (hK0 : kd v0 = 7) (h1 : InR v1) : Go Φ pr_P fN 0 (fM_writePath g v0 v1) d (pr_P 209) 0 (ev_loc (pr_P 209).1 [(sR v0), (sI v1)]) [] g 0 0 := by
  show Go Φ pr_P fN 0 (fM_writePath g v0 v1) d pr_m209 0 [some (sR v0), some (sI v1), none] [] g 0 0
  unfold fM_writePath
  refine go_int kk209_0.1.1.1.1.1 0 rfl ?_
  refine go_istore kk209_0.1.1.1.1.2 rfl (loc2 := [some (sR v0), some (sI v1), some (sI 0)]) rfl ?_
  exact tlM_writePath_2 hd hK0 h1 fu 0 (inR_b (Or.inl rfl)) g hg
theorem tbM_writeChildren_7 {Φ : ev_P} {d : Nat} (hd : 2 ≤ d) {v0 v1 : Int} (hK0 : kd v0 = 7) (h1 : InR v1) {X7 : Int → gH → Option (Int × gH)} (HX7 : ∀ (v2 : Int) (h2 : InR v2) (g : gH) (hg : HR g), Go Φ pr_P fN 0 (X7 v2 g) d pr_m210 7 [some (sR v0), some (sI v1), some (sI v2)] [] g 0 0) : ∀ (v2 : Int) (h2 : InR v2) (g : gH) (hg : HR g), Go Φ pr_P fN 0 (bM_writeChildren_7 v0 v1 X7 v2 g) d pr_m210 7 [some (sR v0), some (sI v1), some (sI v2)] [] g 0 0 := by
  intro v2 h2 g hg
  unfold bM_writeChildren_7
  refine go_iload kk210_0.1.1.2.2 rfl ?_
  refine go_int kk210_0.1.2.1.1.1 (-1) rfl ?_
  refine go_cmeq kk210_0.1.2.1.1.2 h2 (inR_of (by decide)) (fun c5 => ?_) (fun c6 => ?_)
  · exact go_vret kk210_0.2.2.2.2 hg ⟨Nat.zero_le _, Nat.zero_le _⟩ rfl
  · refine go_aload kk210_0.1.2.1.2 rfl ?_
    refine go_int kk210_0.1.2.2.1.1 44 rfl ?_
    refine go_callN0 kk210_0.1.2.2.1.2 rfl rfl rfl ⟨by decide, _, rfl, hK0⟩ ⟨Nat.zero_le _, Nat.zero_le _⟩ (by omega) (tfM_writeBetween (by omega) hg hK0  (inR_of (by decide))) (fun y7 g9 e10 => ?_)
    refine go_aload kk210_0.1.2.2.2 rfl ?_
    refine go_iload kk210_0.2.1.1.1.1 rfl ?_
    refine go_callN0 kk210_0.2.1.1.1.2 rfl rfl rfl ⟨by decide, _, rfl, hK0⟩ ⟨Nat.zero_le _, Nat.zero_le _⟩ (by omega) (tfM_writeNumber (by omega) e10 hK0  h2) (fun y11 g13 e14 => ?_)
    refine go_aload kk210_0.2.1.1.2 rfl ?_
    refine go_iload kk210_0.2.1.2.1.1 rfl ?_
    refine go_iload kk210_0.2.1.2.1.2 rfl ?_
    refine go_int kk210_0.2.1.2.2 1 rfl ?_
    refine go_iadd kk210_0.2.2.1.1.1 ?_
    refine go_callP1 kk210_0.2.2.1.1.2 rfl rfl rfl ⟨by decide, _, rfl, hK0⟩ ⟨Nat.zero_le _, Nat.zero_le _⟩ (by omega) (tfM_nextChild (by omega) e14 hK0  h1 (inR_w32 _)) (fun y15 r16 => ?_)
    refine go_istore kk210_0.2.2.1.2 rfl (loc2 := [some (sR v0), some (sI v1), some (sI y15)]) rfl ?_
    refine go_goto kk210_0.2.2.2.1 ?_
    exact HX7 y15 r16 g13 e14
theorem tlM_writeChildren_7 {Φ : ev_P} {d : Nat} (hd : 2 ≤ d) {v0 v1 : Int} (hK0 : kd v0 = 7) (h1 : InR v1) : ∀ n : Nat, ∀ (v2 : Int) (h2 : InR v2) (g : gH) (hg : HR g), Go Φ pr_P fN 0 (lM_writeChildren_7 v0 v1 n v2 g) d pr_m210 7 [some (sR v0), some (sI v1), some (sI v2)] [] g 0 0 := by
  intro n
  induction n with
  | zero => intros; exact go_none
  | succ n ih => exact tbM_writeChildren_7 hd hK0 h1 ih
theorem tfM_writeChildren {Φ : ev_P} {d : Nat} (hd : 2 ≤ d) {g : gH} (hg : HR g) {v0 v1 : Int} (hK0 : kd v0 = 7) (h1 : InR v1) : Go Φ pr_P fN 0 (fM_writeChildren g v0 v1) d (pr_P 210) 0 (ev_loc (pr_P 210).1 [(sR v0), (sI v1)]) [] g 0 0 := by
  show Go Φ pr_P fN 0 (fM_writeChildren g v0 v1) d pr_m210 0 [some (sR v0), some (sI v1), none] [] g 0 0
  unfold fM_writeChildren
  refine go_aload kk210_0.1.1.1.1.1 rfl ?_
  refine go_iload kk210_0.1.1.1.1.2 rfl ?_
  refine go_int kk210_0.1.1.1.2 0 rfl ?_
  refine go_callP1 kk210_0.1.1.2.1.1 rfl rfl rfl ⟨by decide, _, rfl, hK0⟩ ⟨Nat.zero_le _, Nat.zero_le _⟩ (by omega) (tfM_nextChild (by omega) hg hK0  h1 (inR_b (Or.inl rfl))) (fun y1 r2 => ?_)
  refine go_istore kk210_0.1.1.2.1.2 rfl (loc2 := [some (sR v0), some (sI v1), some (sI y1)]) rfl ?_
  exact tlM_writeChildren_7 hd hK0 h1 fu y1 r2 g hg
theorem tjM_writeTree_42 {Φ : ev_P} {d : Nat} (hd : 3 ≤ d) {R : gH → Int → Int → Option (Int × gH)} (HR0 : ∀ (g : gH) (hg : HR g) (v0 : Int) (v1 : Int) (hK0 : kd v0 = 7) (h1 : InR v1), Go Φ pr_P fN 0 (R g v0 v1) (d - 1) (pr_P 211) 0 (ev_loc (pr_P 211).1 [(sR v0), (sI v1)]) [] g 0 0) {X26 : Int → gH → Option (Int × gH)} {g : gH} (hg : HR g) {v0 v1 v2 v3 : Int} (hK0 : kd v0 = 7) (h1 : InR v1) (h2 : InR v2) (h3 : InR v3) (HX26 : ∀ (v3 : Int) (h3 : InR v3) (g : gH) (hg : HR g), Go Φ pr_P fN 0 (X26 v3 g) d pr_m211 26 [some (sR v0), some (sI v1), some (sI v2), some (sI v3)] [] g 0 0) : Go Φ pr_P fN 0 (jM_writeTree_42 R X26 g v0 v1 v2 v3 ) d pr_m211 42 [some (sR v0), some (sI v1), some (sI v2), some (sI v3)] [] g 0 0 := by
  unfold jM_writeTree_42
  refine go_aload kk211_0.2.1.2.1.1.1 rfl ?_
  refine go_iload kk211_0.2.1.2.1.1.2 rfl ?_
  refine go_callN0 kk211_0.2.1.2.1.2 rfl rfl rfl ⟨by decide, _, rfl, hK0⟩ ⟨Nat.zero_le _, Nat.zero_le _⟩ (by omega) (HR0 g hg v0 v3 hK0  h3) (fun y27 g29 e30 => ?_)
  refine go_aload kk211_0.2.1.2.2.1 rfl ?_
  refine go_iload kk211_0.2.1.2.2.2 rfl ?_
  refine go_iload kk211_0.2.2.1.1.1.1 rfl ?_
  refine go_int kk211_0.2.2.1.1.1.2 1 rfl ?_
  refine go_iadd kk211_0.2.2.1.1.2 ?_
  refine go_callP1 kk211_0.2.2.1.2.1 rfl rfl rfl ⟨by decide, _, rfl, hK0⟩ ⟨Nat.zero_le _, Nat.zero_le _⟩ (by omega) (tfM_nextChild (by omega) e30 hK0  h1 (inR_w32 _)) (fun y31 r32 => ?_)
  refine go_istore kk211_0.2.2.1.2.2 rfl (loc2 := [some (sR v0), some (sI v1), some (sI v2), some (sI y31)]) rfl ?_
  refine go_goto kk211_0.2.2.2.1.1.1 ?_
  exact HX26 y31 r32 g29 e30
theorem tbM_writeTree_26 {Φ : ev_P} {d : Nat} (hd : 3 ≤ d) {R : gH → Int → Int → Option (Int × gH)} (HR0 : ∀ (g : gH) (hg : HR g) (v0 : Int) (v1 : Int) (hK0 : kd v0 = 7) (h1 : InR v1), Go Φ pr_P fN 0 (R g v0 v1) (d - 1) (pr_P 211) 0 (ev_loc (pr_P 211).1 [(sR v0), (sI v1)]) [] g 0 0) {v0 v1 v2 : Int} (hK0 : kd v0 = 7) (h1 : InR v1) (h2 : InR v2) {X26 : Int → gH → Option (Int × gH)} (HX26 : ∀ (v3 : Int) (h3 : InR v3) (g : gH) (hg : HR g), Go Φ pr_P fN 0 (X26 v3 g) d pr_m211 26 [some (sR v0), some (sI v1), some (sI v2), some (sI v3)] [] g 0 0) : ∀ (v3 : Int) (h3 : InR v3) (g : gH) (hg : HR g), Go Φ pr_P fN 0 (bM_writeTree_26 R v0 v1 v2 X26 v3 g) d pr_m211 26 [some (sR v0), some (sI v1), some (sI v2), some (sI v3)] [] g 0 0 := by
  intro v3 h3 g hg
  unfold bM_writeTree_26
  refine go_iload kk211_0.1.2.2.1.1.2 rfl ?_
  refine go_int kk211_0.1.2.2.1.2 (-1) rfl ?_
  refine go_cmeq kk211_0.1.2.2.2.1 h3 (inR_of (by decide)) (fun c15 => ?_) (fun c16 => ?_)
  · refine go_aload kk211_0.2.2.2.1.1.2 rfl ?_
    refine go_int kk211_0.2.2.2.1.2 41 rfl ?_
    refine go_callN0 kk211_0.2.2.2.2.1 rfl rfl rfl ⟨by decide, _, rfl, hK0⟩ ⟨Nat.zero_le _, Nat.zero_le _⟩ (by omega) (tfM_write (by omega) hg hK0  (inR_of (by decide))) (fun y17 g19 e20 => ?_)
    exact go_vret kk211_0.2.2.2.2.2 e20 ⟨Nat.zero_le _, Nat.zero_le _⟩ rfl
  · refine go_iload kk211_0.1.2.2.2.2 rfl ?_
    refine go_iload kk211_0.2.1.1.1.1.1 rfl ?_
    refine go_cmeq kk211_0.2.1.1.1.1.2 h3 h2 (fun c21 => ?_) (fun c22 => ?_)
    · exact tjM_writeTree_42 hd HR0 hg hK0 h1 h2 h3 HX26
    · refine go_aload kk211_0.2.1.1.1.2 rfl ?_
      refine go_int kk211_0.2.1.1.2.1 32 rfl ?_
      refine go_callN0 kk211_0.2.1.1.2.2 rfl rfl rfl ⟨by decide, _, rfl, hK0⟩ ⟨Nat.zero_le _, Nat.zero_le _⟩ (by omega) (tfM_write (by omega) hg hK0  (inR_of (by decide))) (fun y23 g25 e26 => ?_)
      exact tjM_writeTree_42 hd HR0 e26 hK0 h1 h2 h3 HX26
theorem tlM_writeTree_26 {Φ : ev_P} {d : Nat} (hd : 3 ≤ d) {R : gH → Int → Int → Option (Int × gH)} (HR0 : ∀ (g : gH) (hg : HR g) (v0 : Int) (v1 : Int) (hK0 : kd v0 = 7) (h1 : InR v1), Go Φ pr_P fN 0 (R g v0 v1) (d - 1) (pr_P 211) 0 (ev_loc (pr_P 211).1 [(sR v0), (sI v1)]) [] g 0 0) {v0 v1 v2 : Int} (hK0 : kd v0 = 7) (h1 : InR v1) (h2 : InR v2) : ∀ n : Nat, ∀ (v3 : Int) (h3 : InR v3) (g : gH) (hg : HR g), Go Φ pr_P fN 0 (lM_writeTree_26 R v0 v1 v2 n v3 g) d pr_m211 26 [some (sR v0), some (sI v1), some (sI v2), some (sI v3)] [] g 0 0 := by
  intro n
  induction n with
  | zero => intros; exact go_none
  | succ n ih => exact tbM_writeTree_26 hd HR0 hK0 h1 h2 ih
theorem tfbM_writeTree {Φ : ev_P} {d : Nat} (hd : 3 ≤ d) {R : gH → Int → Int → Option (Int × gH)} (HR0 : ∀ (g : gH) (hg : HR g) (v0 : Int) (v1 : Int) (hK0 : kd v0 = 7) (h1 : InR v1), Go Φ pr_P fN 0 (R g v0 v1) (d - 1) (pr_P 211) 0 (ev_loc (pr_P 211).1 [(sR v0), (sI v1)]) [] g 0 0) {g : gH} (hg : HR g) {v0 v1 : Int} (hK0 : kd v0 = 7) (h1 : InR v1) : Go Φ pr_P fN 0 (fbM_writeTree R g v0 v1) d (pr_P 211) 0 (ev_loc (pr_P 211).1 [(sR v0), (sI v1)]) [] g 0 0 := by
  show Go Φ pr_P fN 0 (fbM_writeTree R g v0 v1) d pr_m211 0 [some (sR v0), some (sI v1), none, none] [] g 0 0
  unfold fbM_writeTree
  refine go_aload kk211_0.1.1.1.1.1.1 rfl ?_
  refine go_iload kk211_0.1.1.1.1.1.2 rfl ?_
  refine go_callN0 kk211_0.1.1.1.1.2 rfl rfl rfl ⟨by decide, _, rfl, hK0⟩ ⟨Nat.zero_le _, Nat.zero_le _⟩ (by omega) (tfM_writeNumber (by omega) hg hK0  h1) (fun y1 g3 e4 => ?_)
  refine go_aload kk211_0.1.1.1.2.1.1 rfl ?_
  refine go_iload kk211_0.1.1.1.2.1.2 rfl ?_
  refine go_int kk211_0.1.1.1.2.2 0 rfl ?_
  refine go_callP1 kk211_0.1.1.2.1.1.1 rfl rfl rfl ⟨by decide, _, rfl, hK0⟩ ⟨Nat.zero_le _, Nat.zero_le _⟩ (by omega) (tfM_nextChild (by omega) e4 hK0  h1 (inR_b (Or.inl rfl))) (fun y5 r6 => ?_)
  refine go_istore kk211_0.1.1.2.1.1.2 rfl (loc2 := [some (sR v0), some (sI v1), some (sI y5), none]) rfl ?_
  refine go_iload kk211_0.1.1.2.1.2 rfl ?_
  refine go_int kk211_0.1.1.2.2.1 (-1) rfl ?_
  refine go_cmeq kk211_0.1.1.2.2.2 r6 (inR_of (by decide)) (fun c9 => ?_) (fun c10 => ?_)
  · exact go_vret kk211_0.1.2.1.1.1.1 e4 ⟨Nat.zero_le _, Nat.zero_le _⟩ rfl
  · refine go_aload kk211_0.1.2.1.1.1.2 rfl ?_
    refine go_int kk211_0.1.2.1.1.2 40 rfl ?_
    refine go_callN0 kk211_0.1.2.1.2.1 rfl rfl rfl ⟨by decide, _, rfl, hK0⟩ ⟨Nat.zero_le _, Nat.zero_le _⟩ (by omega) (tfM_write (by omega) e4 hK0  (inR_of (by decide))) (fun y11 g13 e14 => ?_)
    refine go_iload kk211_0.1.2.1.2.2 rfl ?_
    refine go_istore kk211_0.1.2.2.1.1.1 rfl (loc2 := [some (sR v0), some (sI v1), some (sI y5), some (sI y5)]) rfl ?_
    exact tlM_writeTree_26 hd HR0 hK0 h1 r6 fu y5 r6 g13 e14
theorem tfnM_writeTree {Φ : ev_P} : ∀ (n d : Nat) (hd : n + 3 ≤ d), ∀ (g : gH) (hg : HR g) (v0 : Int) (v1 : Int) (hK0 : kd v0 = 7) (h1 : InR v1), Go Φ pr_P fN 0 (fM_writeTree n g v0 v1) d (pr_P 211) 0 (ev_loc (pr_P 211).1 [(sR v0), (sI v1)]) [] g 0 0 := by
  intro n
  induction n with
  | zero => intros; exact go_none
  | succ n ih =>
    intro d hd g hg v0 v1 hK0 h1
    exact tfbM_writeTree (by omega) (fun g hg v0 v1 hK0 h1 => ih (d - 1) (by omega) g hg v0 v1 hK0 h1) hg hK0 h1
theorem tfM_writeTree {Φ : ev_P} {d : Nat} (hd : 63 ≤ d) {g : gH} (hg : HR g) {v0 v1 : Int} (hK0 : kd v0 = 7) (h1 : InR v1) : Go Φ pr_P fN 0 (fM_writeTree fr g v0 v1) d (pr_P 211) 0 (ev_loc (pr_P 211).1 [(sR v0), (sI v1)]) [] g 0 0 := tfnM_writeTree fr d (by unfold fr; omega) g hg v0 v1 hK0 h1
theorem tbM_writeZombies_2 {Φ : ev_P} {d : Nat} (hd : 2 ≤ d) {v0 v1 : Int} (hK0 : kd v0 = 7) (h1 : InR v1) {X2 : Int → gH → Option (Int × gH)} (HX2 : ∀ (v2 : Int) (h2 : InR v2) (g : gH) (hg : HR g) (u3 : Option ev_V) (w3 : nwo u3), Go Φ pr_P fN 0 (X2 v2 g) d pr_m212 2 [some (sR v0), some (sI v1), some (sI v2), u3] [] g 0 0) : ∀ (v2 : Int) (h2 : InR v2) (g : gH) (hg : HR g) (u3 : Option ev_V) (w3 : nwo u3), Go Φ pr_P fN 0 (bM_writeZombies_2 v0 v1 X2 v2 g) d pr_m212 2 [some (sR v0), some (sI v1), some (sI v2), u3] [] g 0 0 := by
  intro v2 h2 g hg u3 w3
  unfold bM_writeZombies_2
  refine go_iload kk212_0.1.1.1.1.2 rfl ?_
  refine go_aload kk212_0.1.1.1.2.1.1 rfl ?_
  refine go_getR (bI := 0) kk212_0.1.1.1.2.1.2 hg hK0 (by decide) rfl rfl (fun r1 => ?_)
  refine go_int kk212_0.1.1.1.2.2 1 rfl ?_
  refine go_ck (fun q3 => ?_)
  refine go_iald kk212_0.1.1.2.1.1.1 hg q3 (fun r2 => ?_)
  refine go_cmlt kk212_0.1.1.2.1.1.2 h2 r2 (fun c4 => ?_) (fun c5 => ?_)
  · refine go_aload kk212_0.1.1.2.1.2 rfl ?_
    refine go_getR (bI := 0) kk212_0.1.1.2.2.1 hg hK0 (by decide) rfl rfl (fun r6 => ?_)
    refine go_int kk212_0.1.1.2.2.2 19 rfl ?_
    refine go_iload kk212_0.1.2.1.1.1.1 rfl ?_
    refine go_iadd kk212_0.1.2.1.1.1.2 ?_
    refine go_ck (fun q8 => ?_)
    refine go_iald kk212_0.1.2.1.1.2 hg q8 (fun r7 => ?_)
    refine go_istore kk212_0.1.2.1.2.1 rfl (loc2 := [some (sR v0), some (sI v1), some (sI v2), some (sI (g (g v0 0) (w32 (19 + v2))))]) rfl ?_
    refine go_aload kk212_0.1.2.1.2.2 rfl ?_
    refine go_iload kk212_0.1.2.2.1.1.1 rfl ?_
    refine go_iload kk212_0.1.2.2.1.1.2 rfl ?_
    refine go_int kk212_0.1.2.2.1.2 1 rfl ?_
    refine go_callP3 kk212_0.1.2.2.2.1 rfl rfl rfl ⟨by decide, _, rfl, hK0⟩ ⟨Nat.zero_le _, Nat.zero_le _⟩ (by omega) (tfM_isChild (by omega) hg hK0  r7 h1 (inR_b (Or.inr rfl))) (fun y9 r10 => ?_)
    refine go_ifeq kk212_0.1.2.2.2.2 (inR_b r10) (fun c13 => ?_) (fun c14 => ?_)
    · refine go_goto kk212_0.2.1.1.1.1.1 ?_
      refine go_iinc kk212_0.2.2.2.1.2 rfl rfl 1 rfl (loc2 := [some (sR v0), some (sI v1), some (sI (w32 (v2 + 1))), some (sI (g (g v0 0) (w32 (19 + v2))))]) rfl ?_
      refine go_goto kk212_0.2.2.2.2.1 ?_
      exact HX2 (w32 (v2 + 1)) (inR_w32 _) g hg (some (sI (g (g v0 0) (w32 (19 + v2))))) rfl
    · refine go_aload kk212_0.2.1.1.1.1.2 rfl ?_
      refine go_int kk212_0.2.1.1.1.2 44 rfl ?_
      refine go_callN0 kk212_0.2.1.1.2.1.1 rfl rfl rfl ⟨by decide, _, rfl, hK0⟩ ⟨Nat.zero_le _, Nat.zero_le _⟩ (by omega) (tfM_writeBetween (by omega) hg hK0  (inR_of (by decide))) (fun y15 g17 e18 => ?_)
      refine go_aload kk212_0.2.1.1.2.1.2 rfl ?_
      refine go_iload kk212_0.2.1.1.2.2 rfl ?_
      refine go_callN0 kk212_0.2.1.2.1.1.1 rfl rfl rfl ⟨by decide, _, rfl, hK0⟩ ⟨Nat.zero_le _, Nat.zero_le _⟩ (by omega) (tfM_writeNumber (by omega) e18 hK0  r7) (fun y19 g21 e22 => ?_)
      refine go_aload kk212_0.2.1.2.1.1.2 rfl ?_
      refine go_int kk212_0.2.1.2.1.2 58 rfl ?_
      refine go_callN0 kk212_0.2.1.2.2.1 rfl rfl rfl ⟨by decide, _, rfl, hK0⟩ ⟨Nat.zero_le _, Nat.zero_le _⟩ (by omega) (tfM_write (by omega) e22 hK0  (inR_of (by decide))) (fun y23 g25 e26 => ?_)
      refine go_aload kk212_0.2.1.2.2.2 rfl ?_
      refine go_aload kk212_0.2.2.1.1.1.1 rfl ?_
      refine go_getR (bI := 0) kk212_0.2.2.1.1.1.2 e26 hK0 (by decide) rfl rfl (fun r27 => ?_)
      refine go_int kk212_0.2.2.1.1.2 300 rfl ?_
      refine go_iload kk212_0.2.2.1.2.1 rfl ?_
      refine go_iadd kk212_0.2.2.1.2.2 ?_
      refine go_ck (fun q29 => ?_)
      refine go_iald kk212_0.2.2.2.1.1.1 e26 q29 (fun r28 => ?_)
      refine go_callN0 kk212_0.2.2.2.1.1.2 rfl rfl rfl ⟨by decide, _, rfl, hK0⟩ ⟨Nat.zero_le _, Nat.zero_le _⟩ (by omega) (tfM_writeNumber (by omega) e26 hK0  r28) (fun y30 g32 e33 => ?_)
      refine go_iinc kk212_0.2.2.2.1.2 rfl rfl 1 rfl (loc2 := [some (sR v0), some (sI v1), some (sI (w32 (v2 + 1))), some (sI (g (g v0 0) (w32 (19 + v2))))]) rfl ?_
      refine go_goto kk212_0.2.2.2.2.1 ?_
      exact HX2 (w32 (v2 + 1)) (inR_w32 _) g32 e33 (some (sI (g (g v0 0) (w32 (19 + v2))))) rfl
  · exact go_vret kk212_0.2.2.2.2.2 hg ⟨Nat.zero_le _, Nat.zero_le _⟩ rfl
theorem tlM_writeZombies_2 {Φ : ev_P} {d : Nat} (hd : 2 ≤ d) {v0 v1 : Int} (hK0 : kd v0 = 7) (h1 : InR v1) : ∀ n : Nat, ∀ (v2 : Int) (h2 : InR v2) (g : gH) (hg : HR g) (u3 : Option ev_V) (w3 : nwo u3), Go Φ pr_P fN 0 (lM_writeZombies_2 v0 v1 n v2 g) d pr_m212 2 [some (sR v0), some (sI v1), some (sI v2), u3] [] g 0 0 := by
  intro n
  induction n with
  | zero => intros; exact go_none
  | succ n ih => exact tbM_writeZombies_2 hd hK0 h1 ih
theorem tfM_writeZombies {Φ : ev_P} {d : Nat} (hd : 2 ≤ d) {g : gH} (hg : HR g) {v0 v1 : Int} (hK0 : kd v0 = 7) (h1 : InR v1) : Go Φ pr_P fN 0 (fM_writeZombies g v0 v1) d (pr_P 212) 0 (ev_loc (pr_P 212).1 [(sR v0), (sI v1)]) [] g 0 0 := by
  show Go Φ pr_P fN 0 (fM_writeZombies g v0 v1) d pr_m212 0 [some (sR v0), some (sI v1), none, none] [] g 0 0
  unfold fM_writeZombies
  refine go_int kk212_0.1.1.1.1.1.1 0 rfl ?_
  refine go_istore kk212_0.1.1.1.1.1.2 rfl (loc2 := [some (sR v0), some (sI v1), some (sI 0), none]) rfl ?_
  exact tlM_writeZombies_2 hd hK0 h1 fu 0 (inR_b (Or.inl rfl)) g hg none rfl
theorem tjM_print_126 {Φ : ev_P} {d : Nat} (hd : 64 ≤ d) {g : gH} (hg : HR g) {v0 : Int} (hK0 : kd v0 = 7) (u1 : Option ev_V) (w1 : nwo u1) (u2 : Option ev_V) (w2 : nwo u2) (u3 : Option ev_V) (w3 : nwo u3) : Go Φ pr_P fN 1 (jM_print_126 g v0 ) d pr_m213 126 [some (sR v0), u1, u2, u3] [] g 0 0 := by
  unfold jM_print_126
  refine go_aload kk213_1.2.2.1.1.1.2 rfl ?_
  refine go_getI (bI := 23) kk213_1.2.2.1.1.2 hg hK0 (by decide) rfl rfl (fun r69 => ?_)
  refine go_ifeq kk213_1.2.2.1.2.1 r69 (fun c70 => ?_) (fun c71 => ?_)
  · refine go_aload kk213_1.2.2.1.2.2 rfl ?_
    refine go_int kk213_1.2.2.2.1.1.1 45 rfl ?_
    refine go_callN0 kk213_1.2.2.2.1.1.2 rfl rfl rfl ⟨by decide, _, rfl, hK0⟩ ⟨Nat.zero_le _, Nat.zero_le _⟩ (by omega) (tfM_write (by omega) hg hK0  (inR_of (by decide))) (fun y72 g74 e75 => ?_)
    refine go_aload kk213_1.2.2.2.1.2 rfl ?_
    refine go_getI (bI := 23) kk213_1.2.2.2.2.1 e75 hK0 (by decide) rfl rfl (fun r76 => ?_)
    exact go_iret kk213_1.2.2.2.2.2 e75 r76 ⟨Nat.zero_le _, Nat.zero_le _⟩ rfl
  · refine go_aload kk213_1.2.2.2.1.2 rfl ?_
    refine go_getI (bI := 23) kk213_1.2.2.2.2.1 hg hK0 (by decide) rfl rfl (fun r77 => ?_)
    exact go_iret kk213_1.2.2.2.2.2 hg r77 ⟨Nat.zero_le _, Nat.zero_le _⟩ rfl
theorem tjM_print_116 {Φ : ev_P} {d : Nat} (hd : 64 ≤ d) {g : gH} (hg : HR g) {v0 v1 v2 : Int} (hK0 : kd v0 = 7) (h1 : InR v1) (h2 : InR v2) (u3 : Option ev_V) (w3 : nwo u3) : Go Φ pr_P fN 1 (jM_print_116 g v0 v1 v2 ) d pr_m213 116 [some (sR v0), some (sI v1), some (sI v2), u3] [] g 0 0 := by
  unfold jM_print_116
  refine go_iload kk213_1.2.1.2.1.1.1 rfl ?_
  refine go_int kk213_1.2.1.2.1.1.2 4 rfl ?_
  refine go_cmeq kk213_1.2.1.2.1.2 h2 (inR_of (by decide)) (fun c63 => ?_) (fun c64 => ?_)
  · refine go_aload kk213_1.2.1.2.2.1 rfl ?_
    refine go_iload kk213_1.2.1.2.2.2 rfl ?_
    refine go_callN0 kk213_1.2.2.1.1.1.1 rfl rfl rfl ⟨by decide, _, rfl, hK0⟩ ⟨Nat.zero_le _, Nat.zero_le _⟩ (by omega) (tfM_writeZombies (by omega) hg hK0  h1) (fun y65 g67 e68 => ?_)
    exact tjM_print_126 hd e68 hK0 (some (sI v1)) rfl (some (sI v2)) rfl u3 w3
  · exact tjM_print_126 hd hg hK0 (some (sI v1)) rfl (some (sI v2)) rfl u3 w3
theorem tbM_print_81 {Φ : ev_P} {d : Nat} (hd : 64 ≤ d) {v0 v1 v2 : Int} (hK0 : kd v0 = 7) (h1 : InR v1) (h2 : InR v2) {X81 : Int → gH → Option (Int × gH)} (HX81 : ∀ (v3 : Int) (h3 : InR v3) (g : gH) (hg : HR g), Go Φ pr_P fN 1 (X81 v3 g) d pr_m213 81 [some (sR v0), some (sI v1), some (sI v2), some (sI v3)] [] g 0 0) : ∀ (v3 : Int) (h3 : InR v3) (g : gH) (hg : HR g), Go Φ pr_P fN 1 (bM_print_81 v0 v1 v2 X81 v3 g) d pr_m213 81 [some (sR v0), some (sI v1), some (sI v2), some (sI v3)] [] g 0 0 := by
  intro v3 h3 g hg
  unfold bM_print_81
  refine go_iload kk213_1.1.1.2.1.1.2 rfl ?_
  refine go_int kk213_1.1.1.2.1.2 8 rfl ?_
  refine go_cmlt kk213_1.1.1.2.2.1 h3 (inR_of (by decide)) (fun c50 => ?_) (fun c51 => ?_)
  · refine go_iload kk213_1.1.1.2.2.2 rfl ?_
    refine go_int kk213_1.1.2.1.1.1.1 3 rfl ?_
    refine go_cmeq kk213_1.1.2.1.1.1.2 h2 (inR_of (by decide)) (fun c52 => ?_) (fun c53 => ?_)
    · refine go_aload kk213_1.1.2.1.1.2 rfl ?_
      refine go_getR (bI := 0) kk213_1.1.2.1.2.1 hg hK0 (by decide) rfl rfl (fun r54 => ?_)
      refine go_int kk213_1.1.2.1.2.2 11 rfl ?_
      refine go_iload kk213_1.1.2.2.1.1.1 rfl ?_
      refine go_iadd kk213_1.1.2.2.1.1.2 ?_
      refine go_ck (fun q56 => ?_)
      refine go_iald kk213_1.1.2.2.1.2 hg q56 (fun r55 => ?_)
      refine go_iload kk213_1.1.2.2.2.1 rfl ?_
      refine go_cmeq kk213_1.1.2.2.2.2 r55 h1 (fun c57 => ?_) (fun c58 => ?_)
      · refine go_aload kk213_1.2.1.1.1.1.1 rfl ?_
        refine go_iload kk213_1.2.1.1.1.1.2 rfl ?_
        refine go_callN0 kk213_1.2.1.1.1.2 rfl rfl rfl ⟨by decide, _, rfl, hK0⟩ ⟨Nat.zero_le _, Nat.zero_le _⟩ (by omega) (tfM_writeNumber (by omega) hg hK0  h3) (fun y59 g61 e62 => ?_)
        refine go_iinc kk213_1.2.1.1.2.1 rfl rfl 1 rfl (loc2 := [some (sR v0), some (sI v1), some (sI v2), some (sI (w32 (v3 + 1)))]) rfl ?_
        refine go_goto kk213_1.2.1.1.2.2 ?_
        exact HX81 (w32 (v3 + 1)) (inR_w32 _) g61 e62
      · refine go_iinc kk213_1.2.1.1.2.1 rfl rfl 1 rfl (loc2 := [some (sR v0), some (sI v1), some (sI v2), some (sI (w32 (v3 + 1)))]) rfl ?_
        refine go_goto kk213_1.2.1.1.2.2 ?_
        exact HX81 (w32 (v3 + 1)) (inR_w32 _) g hg
    · exact tjM_print_116 hd hg hK0 h1 h2 (some (sI v3)) rfl
  · exact tjM_print_116 hd hg hK0 h1 h2 (some (sI v3)) rfl
theorem tlM_print_81 {Φ : ev_P} {d : Nat} (hd : 64 ≤ d) {v0 v1 v2 : Int} (hK0 : kd v0 = 7) (h1 : InR v1) (h2 : InR v2) : ∀ n : Nat, ∀ (v3 : Int) (h3 : InR v3) (g : gH) (hg : HR g), Go Φ pr_P fN 1 (lM_print_81 v0 v1 v2 n v3 g) d pr_m213 81 [some (sR v0), some (sI v1), some (sI v2), some (sI v3)] [] g 0 0 := by
  intro n
  induction n with
  | zero => intros; exact go_none
  | succ n ih => exact tbM_print_81 hd hK0 h1 h2 ih
theorem tjM_print_69 {Φ : ev_P} {d : Nat} (hd : 64 ≤ d) {g : gH} (hg : HR g) {v0 v1 v2 : Int} (hK0 : kd v0 = 7) (h1 : InR v1) (h2 : InR v2) (u3 : Option ev_V) (w3 : nwo u3) : Go Φ pr_P fN 1 (jM_print_69 g v0 v1 v2 ) d pr_m213 69 [some (sR v0), some (sI v1), some (sI v2), u3] [] g 0 0 := by
  unfold jM_print_69
  refine go_iload kk213_0.2.2.2.2.2 rfl ?_
  refine go_int kk213_1.1.1.1.1.1.1 2 rfl ?_
  refine go_cmeq kk213_1.1.1.1.1.1.2 h2 (inR_of (by decide)) (fun c44 => ?_) (fun c45 => ?_)
  · refine go_aload kk213_1.1.1.1.1.2 rfl ?_
    refine go_iload kk213_1.1.1.1.2.1.1 rfl ?_
    refine go_callN0 kk213_1.1.1.1.2.1.2 rfl rfl rfl ⟨by decide, _, rfl, hK0⟩ ⟨Nat.zero_le _, Nat.zero_le _⟩ (by omega) (tfM_writeTree (by omega) hg hK0  h1) (fun y46 g48 e49 => ?_)
    refine go_int kk213_1.1.1.1.2.2 0 rfl ?_
    refine go_istore kk213_1.1.1.2.1.1.1 rfl (loc2 := [some (sR v0), some (sI v1), some (sI v2), some (sI 0)]) rfl ?_
    exact tlM_print_81 hd hK0 h1 h2 fu 0 (inR_b (Or.inl rfl)) g48 e49
  · refine go_int kk213_1.1.1.1.2.2 0 rfl ?_
    refine go_istore kk213_1.1.1.2.1.1.1 rfl (loc2 := [some (sR v0), some (sI v1), some (sI v2), some (sI 0)]) rfl ?_
    exact tlM_print_81 hd hK0 h1 h2 fu 0 (inR_b (Or.inl rfl)) g hg
theorem tjM_print_59 {Φ : ev_P} {d : Nat} (hd : 64 ≤ d) {g : gH} (hg : HR g) {v0 v1 v2 : Int} (hK0 : kd v0 = 7) (h1 : InR v1) (h2 : InR v2) (u3 : Option ev_V) (w3 : nwo u3) : Go Φ pr_P fN 1 (jM_print_59 g v0 v1 v2 ) d pr_m213 59 [some (sR v0), some (sI v1), some (sI v2), u3] [] g 0 0 := by
  unfold jM_print_59
  refine go_iload kk213_0.2.2.1.2.1 rfl ?_
  refine go_int kk213_0.2.2.1.2.2 1 rfl ?_
  refine go_cmeq kk213_0.2.2.2.1.1.1 h2 (inR_b (Or.inr rfl)) (fun c38 => ?_) (fun c39 => ?_)
  · refine go_aload kk213_0.2.2.2.1.1.2 rfl ?_
    refine go_iload kk213_0.2.2.2.1.2 rfl ?_
    refine go_callN0 kk213_0.2.2.2.2.1 rfl rfl rfl ⟨by decide, _, rfl, hK0⟩ ⟨Nat.zero_le _, Nat.zero_le _⟩ (by omega) (tfM_writeChildren (by omega) hg hK0  h1) (fun y40 g42 e43 => ?_)
    exact tjM_print_69 hd e43 hK0 h1 h2 u3 w3
  · exact tjM_print_69 hd hg hK0 h1 h2 u3 w3
theorem tjM_print_23 {Φ : ev_P} {d : Nat} (hd : 64 ≤ d) {g : gH} (hg : HR g) {v0 v1 v2 : Int} (hK0 : kd v0 = 7) (h1 : InR v1) (h2 : InR v2) {s0 s1 : Int} (z0 : RfR s0) (z1 : B01 s1) (u3 : Option ev_V) (w3 : nwo u3) : Go Φ pr_P fN 1 (jM_print_23 g v0 v1 v2 s0 s1 ) d pr_m213 23 [some (sR v0), some (sI v1), some (sI v2), u3] [(sI s1), (sR s0)] g 0 0 := by
  unfold jM_print_23
  refine go_int kk213_0.1.2.1.2.1 2 rfl ?_
  refine go_ck (fun q13 => ?_)
  refine go_callN3 kk213_0.1.2.1.2.2 rfl rfl rfl ⟨by decide, _, rfl, q13⟩ ⟨Nat.zero_le _, Nat.zero_le _⟩ (by omega) (tfM_fails (by omega) hg q13  z1 (inR_of (by decide))) (fun y14 g16 r15 e17 => ?_)
  refine go_ifeq kk213_0.1.2.2.1.1.1 (inR_b r15) (fun c18 => ?_) (fun c19 => ?_)
  · refine go_aload kk213_0.1.2.2.1.1.2 rfl ?_
    refine go_aload kk213_0.1.2.2.1.2 rfl ?_
    refine go_iload kk213_0.1.2.2.2.1 rfl ?_
    refine go_callP3 kk213_0.1.2.2.2.2 rfl rfl rfl ⟨by decide, _, rfl, hK0⟩ ⟨Nat.zero_le _, Nat.zero_le _⟩ (by omega) (tfM_isGone (by omega) e17 hK0  h1) (fun y20 r21 => ?_)
    refine go_int kk213_0.2.1.1.1.1.1 3 rfl ?_
    refine go_callN3 kk213_0.2.1.1.1.1.2 rfl rfl rfl ⟨by decide, _, rfl, hK0⟩ ⟨Nat.zero_le _, Nat.zero_le _⟩ (by omega) (tfM_fails (by omega) e17 hK0  r21 (inR_of (by decide))) (fun y24 g26 r25 e27 => ?_)
    refine go_ifeq kk213_0.2.1.1.1.2 (inR_b r25) (fun c28 => ?_) (fun c29 => ?_)
    · refine go_aload kk213_0.2.1.2.1.1.1 rfl ?_
      refine go_int kk213_0.2.1.2.1.1.2 0 rfl ?_
      refine go_putI (bI := 23) kk213_0.2.1.2.1.2 e27 hK0 (by decide) rfl rfl (inR_b (Or.inl rfl)) (fun g30 e31 => ?_)
      refine go_iload kk213_0.2.1.2.2.1 rfl ?_
      refine go_ifeq kk213_0.2.1.2.2.2 h2 (fun c32 => ?_) (fun c33 => ?_)
      · refine go_aload kk213_0.2.2.1.1.1.1 rfl ?_
        refine go_iload kk213_0.2.2.1.1.1.2 rfl ?_
        refine go_callN0 kk213_0.2.2.1.1.2 rfl rfl rfl ⟨by decide, _, rfl, hK0⟩ ⟨Nat.zero_le _, Nat.zero_le _⟩ (by omega) (tfM_writePath (by omega) e31 hK0  h1) (fun y34 g36 e37 => ?_)
        exact tjM_print_59 hd e37 hK0 h1 h2 u3 w3
      · exact tjM_print_59 hd e31 hK0 h1 h2 u3 w3
    · refine go_int kk213_0.2.1.1.2.1 0 rfl ?_
      exact go_iret kk213_0.2.1.1.2.2 e27 (inR_b (Or.inl rfl)) ⟨Nat.zero_le _, Nat.zero_le _⟩ rfl
  · refine go_int kk213_0.2.1.1.2.1 0 rfl ?_
    exact go_iret kk213_0.2.1.1.2.2 e17 (inR_b (Or.inl rfl)) ⟨Nat.zero_le _, Nat.zero_le _⟩ rfl
theorem tfM_print {Φ : ev_P} {d : Nat} (hd : 64 ≤ d) {g : gH} (hg : HR g) {v0 v1 v2 : Int} (hK0 : kd v0 = 7) (h1 : InR v1) (h2 : InR v2) : Go Φ pr_P fN 1 (fM_print g v0 v1 v2) d (pr_P 213) 0 (ev_loc (pr_P 213).1 [(sR v0), (sI v1), (sI v2)]) [] g 0 0 := by
  show Go Φ pr_P fN 1 (fM_print g v0 v1 v2) d pr_m213 0 [some (sR v0), some (sI v1), some (sI v2), none] [] g 0 0
  unfold fM_print
  refine go_aload kk213_0.1.1.1.1.1.1 rfl ?_
  refine go_iload kk213_0.1.1.1.1.1.2 rfl ?_
  refine go_callN3 kk213_0.1.1.1.1.2 rfl rfl rfl ⟨by decide, _, rfl, hK0⟩ ⟨Nat.zero_le _, Nat.zero_le _⟩ (by omega) (tfM_noProcess (by omega) hg hK0  h1) (fun y1 g3 r2 e4 => ?_)
  refine go_ifeq kk213_0.1.1.1.2.1 (inR_b r2) (fun c5 => ?_) (fun c6 => ?_)
  · refine go_aload kk213_0.1.1.1.2.2 rfl ?_
    refine go_iload kk213_0.1.1.2.1.1.1 rfl ?_
    refine go_int kk213_0.1.1.2.1.1.2 0 rfl ?_
    refine go_int kk213_0.1.1.2.1.2 4 rfl ?_
    refine go_callP3 kk213_0.1.1.2.2.1 rfl rfl rfl trivial ⟨Nat.zero_le _, Nat.zero_le _⟩ (by omega) (tfM_inRange (by omega) e4  h2 (inR_b (Or.inl rfl)) (inR_of (by decide))) (fun y7 r8 => ?_)
    refine go_ifeq kk213_0.1.1.2.2.2 (inR_b r8) (fun c11 => ?_) (fun c12 => ?_)
    · refine go_int kk213_0.1.2.1.1.1.1 1 rfl ?_
      refine go_goto kk213_0.1.2.1.1.1.2 ?_
      exact tjM_print_23 hd e4 hK0 h1 h2 (rfR_kd hK0 (by decide)) (Or.inr rfl) none rfl
    · refine go_int kk213_0.1.2.1.1.2 0 rfl ?_
      exact tjM_print_23 hd e4 hK0 h1 h2 (rfR_kd hK0 (by decide)) (Or.inl rfl) none rfl
  · refine go_int kk213_0.2.1.1.2.1 0 rfl ?_
    exact go_iret kk213_0.2.1.1.2.2 e4 (inR_b (Or.inl rfl)) ⟨Nat.zero_le _, Nat.zero_le _⟩ rfl
