/-! ===== the evaluator comes to what the functions tell (own work, by program: wip/p2/dec.py) ===== -/
theorem tjM_notExiting_26 {Φ : ev_P} {d : Nat} (hd : 2 ≤ d) {g : gH} (hg : HR g) {v2 : Int} (h2 : InR v2) {s0 s1 : Int} (z0 : RfR s0) (z1 : B01 s1) (u0 : Option ev_V) (w0 : nwo u0) (u1 : Option ev_V) (w1 : nwo u1) : Go Φ pr_P fN 3 (jM_notExiting_26 g v2 s0 s1 ) d pr_m137 26 [u0, u1, some (sI v2)] [(sI s1), (sR s0)] g 0 0 := by
  unfold jM_notExiting_26
  refine go_iload kk137_0.2.1.2.1 rfl ?_
  refine go_ck (fun q15 => ?_)
  refine go_callN3 kk137_0.2.1.2.2 rfl rfl rfl ⟨by decide, _, rfl, q15⟩ ⟨Nat.zero_le _, Nat.zero_le _⟩ (by omega) (tfM_fails (by omega) hg q15  z1 h2) (fun y16 g18 r17 e19 => ?_)
  refine go_ifeq kk137_0.2.2.1.1.1 (inR_b r17) (fun c20 => ?_) (fun c21 => ?_)
  · refine go_int kk137_0.2.2.2.1 0 rfl ?_
    exact go_bret kk137_0.2.2.2.2 e19 (Or.inl rfl) ⟨Nat.zero_le _, Nat.zero_le _⟩ rfl
  · refine go_int kk137_0.2.2.1.1.2 1 rfl ?_
    refine go_goto kk137_0.2.2.1.2 ?_
    exact go_bret kk137_0.2.2.2.2 e19 (Or.inr rfl) ⟨Nat.zero_le _, Nat.zero_le _⟩ rfl
theorem tjM_notExiting_21 {Φ : ev_P} {d : Nat} (hd : 2 ≤ d) {g : gH} (hg : HR g) {v2 : Int} (h2 : InR v2) {s0 : Int} (z0 : RfR s0) (u0 : Option ev_V) (w0 : nwo u0) (u1 : Option ev_V) (w1 : nwo u1) : Go Φ pr_P fN 3 (jM_notExiting_21 g v2 s0 ) d pr_m137 21 [u0, u1, some (sI v2)] [(sR s0)] g 0 0 := by
  unfold jM_notExiting_21
  refine go_int kk137_0.2.1.1.1.1 1 rfl ?_
  refine go_goto kk137_0.2.1.1.1.2 ?_
  exact tjM_notExiting_26 hd hg h2 z0 (Or.inr rfl) u0 w0 u1 w1
theorem tfM_notExiting {Φ : ev_P} {d : Nat} (hd : 2 ≤ d) {g : gH} (hg : HR g) {v0 v1 v2 : Int} (hK0 : kd v0 = 7) (h1 : InR v1) (h2 : InR v2) : Go Φ pr_P fN 3 (fM_notExiting g v0 v1 v2) d (pr_P 137) 0 (ev_loc (pr_P 137).1 [(sR v0), (sI v1), (sI v2)]) [] g 0 0 := by
  show Go Φ pr_P fN 3 (fM_notExiting g v0 v1 v2) d pr_m137 0 [some (sR v0), some (sI v1), some (sI v2)] [] g 0 0
  unfold fM_notExiting
  refine go_aload kk137_0.1.1.1.1.1 rfl ?_
  refine go_iload kk137_0.1.1.1.1.2 rfl ?_
  refine go_callN3 kk137_0.1.1.1.2 rfl rfl rfl ⟨by decide, _, rfl, hK0⟩ ⟨Nat.zero_le _, Nat.zero_le _⟩ (by omega) (tfM_noProcess (by omega) hg hK0  h1) (fun y1 g3 r2 e4 => ?_)
  refine go_ifeq kk137_0.1.1.2.1.1 (inR_b r2) (fun c5 => ?_) (fun c6 => ?_)
  · refine go_aload kk137_0.1.1.2.1.2 rfl ?_
    refine go_iload kk137_0.1.1.2.2 rfl ?_
    refine go_ifeq kk137_0.1.2.1.1.1 h1 (fun c7 => ?_) (fun c8 => ?_)
    · exact tjM_notExiting_21 hd e4 h2 (rfR_kd hK0 (by decide)) (some (sR v0)) rfl (some (sI v1)) rfl
    · refine go_aload kk137_0.1.2.1.1.2 rfl ?_
      refine go_iload kk137_0.1.2.1.2 rfl ?_
      refine go_callP3 kk137_0.1.2.2.1 rfl rfl rfl ⟨by decide, _, rfl, hK0⟩ ⟨Nat.zero_le _, Nat.zero_le _⟩ (by omega) (tfM_runs (by omega) e4 hK0  h1) (fun y9 r10 => ?_)
      refine go_ifeq kk137_0.1.2.2.2 (inR_b r10) (fun c13 => ?_) (fun c14 => ?_)
      · exact tjM_notExiting_21 hd e4 h2 (rfR_kd hK0 (by decide)) (some (sR v0)) rfl (some (sI v1)) rfl
      · refine go_int kk137_0.2.1.1.2 0 rfl ?_
        exact tjM_notExiting_26 hd e4 h2 (rfR_kd hK0 (by decide)) (Or.inl rfl) (some (sR v0)) rfl (some (sI v1)) rfl
  · refine go_int kk137_0.2.2.1.1.2 1 rfl ?_
    refine go_goto kk137_0.2.2.1.2 ?_
    exact go_bret kk137_0.2.2.2.2 e4 (Or.inr rfl) ⟨Nat.zero_le _, Nat.zero_le _⟩ rfl
theorem tbM_relieve_26 {Φ : ev_P} {d : Nat} (hd : 7 ≤ d) {v0 v1 : Int} (hK0 : kd v0 = 7) (h1 : InR v1) {X26 : Int → Int → gH → Option (Int × gH)} (HX26 : ∀ (v2 : Int) (h2 : InR v2) (v3 : Int) (h3 : InR v3) (g : gH) (hg : HR g), Go Φ pr_P fN 1 (X26 v2 v3 g) d pr_m176 26 [some (sR v0), some (sI v1), some (sI v2), some (sI v3)] [] g 0 0) : ∀ (v2 : Int) (h2 : InR v2) (v3 : Int) (h3 : InR v3) (g : gH) (hg : HR g), Go Φ pr_P fN 1 (bM_relieve_26 v0 v1 X26 v2 v3 g) d pr_m176 26 [some (sR v0), some (sI v1), some (sI v2), some (sI v3)] [] g 0 0 := by
  intro v2 h2 v3 h3 g hg
  unfold bM_relieve_26
  refine go_iload kk176_0.1.2.1.2.2 rfl ?_
  refine go_ifgt kk176_0.1.2.2.1.1.1 h3 (fun c14 => ?_) (fun c15 => ?_)
  · refine go_aload kk176_0.1.2.2.1.1.2 rfl ?_
    refine go_iload kk176_0.1.2.2.1.2 rfl ?_
    refine go_iload kk176_0.1.2.2.2.1.1 rfl ?_
    refine go_int kk176_0.1.2.2.2.1.2 0 rfl ?_
    refine go_callP3 kk176_0.1.2.2.2.2 rfl rfl rfl ⟨by decide, _, rfl, hK0⟩ ⟨Nat.zero_le _, Nat.zero_le _⟩ (by omega) (tfM_isChild (by omega) hg hK0  h3 h1 (inR_b (Or.inl rfl))) (fun y16 r17 => ?_)
    refine go_ifeq kk176_0.2.1.1.1.1.1 (inR_b r17) (fun c20 => ?_) (fun c21 => ?_)
    · refine go_iinc kk176_0.2.2.2.1.2 rfl rfl (-1) rfl (loc2 := [some (sR v0), some (sI v1), some (sI v2), some (sI (w32 (v3 + (-1))))]) rfl ?_
      refine go_goto kk176_0.2.2.2.2.1.1 ?_
      exact HX26 v2 h2 (w32 (v3 + (-1))) (inR_w32 _) g hg
    · refine go_aload kk176_0.2.1.1.1.1.2 rfl ?_
      refine go_iload kk176_0.2.1.1.1.2.1 rfl ?_
      refine go_int kk176_0.2.1.1.1.2.2 0 rfl ?_
      refine go_callP1 kk176_0.2.1.1.2.1.1 rfl rfl rfl ⟨by decide, _, rfl, hK0⟩ ⟨Nat.zero_le _, Nat.zero_le _⟩ (by omega) (tfM_childrenOf (by omega) hg hK0  h1 (inR_b (Or.inl rfl))) (fun y22 r23 => ?_)
      refine go_aload kk176_0.2.1.1.2.1.2 rfl ?_
      refine go_getR (bI := 0) kk176_0.2.1.1.2.2 hg hK0 (by decide) rfl rfl (fun r26 => ?_)
      refine go_int kk176_0.2.1.2.1.1.1 100 rfl ?_
      refine go_iload kk176_0.2.1.2.1.1.2 rfl ?_
      refine go_iadd kk176_0.2.1.2.1.2 ?_
      refine go_ck (fun q28 => ?_)
      refine go_iald kk176_0.2.1.2.2.1.1 hg q28 (fun r27 => ?_)
      refine go_cmgt kk176_0.2.1.2.2.1.2 r23 r27 (fun c29 => ?_) (fun c30 => ?_)
      · refine go_aload kk176_0.2.2.1.1.1.1 rfl ?_
        refine go_aload kk176_0.2.2.1.1.1.2 rfl ?_
        refine go_iload kk176_0.2.2.1.1.2 rfl ?_
        refine go_iload kk176_0.2.2.1.2.1.1 rfl ?_
        refine go_callP1 kk176_0.2.2.1.2.1.2 rfl rfl rfl ⟨by decide, _, rfl, hK0⟩ ⟨Nat.zero_le _, Nat.zero_le _⟩ (by omega) (tfM_adopterOf (by omega) hg hK0  h3 h1) (fun y31 r32 => ?_)
        refine go_iload kk176_0.2.2.1.2.2 rfl ?_
        refine go_callN0 kk176_0.2.2.2.1.1.1 rfl rfl rfl ⟨by decide, _, rfl, hK0⟩ ⟨Nat.zero_le _, Nat.zero_le _⟩ (by omega) (tfM_adopts (by omega) hg hK0  r32 h3) (fun y35 g37 e38 => ?_)
        refine go_iinc kk176_0.2.2.2.1.1.2 rfl rfl 1 rfl (loc2 := [some (sR v0), some (sI v1), some (sI (w32 (v2 + 1))), some (sI v3)]) rfl ?_
        refine go_iinc kk176_0.2.2.2.1.2 rfl rfl (-1) rfl (loc2 := [some (sR v0), some (sI v1), some (sI (w32 (v2 + 1))), some (sI (w32 (v3 + (-1))))]) rfl ?_
        refine go_goto kk176_0.2.2.2.2.1.1 ?_
        exact HX26 (w32 (v2 + 1)) (inR_w32 _) (w32 (v3 + (-1))) (inR_w32 _) g37 e38
      · refine go_goto kk176_0.2.1.2.2.2 ?_
        refine go_iinc kk176_0.2.2.2.1.2 rfl rfl (-1) rfl (loc2 := [some (sR v0), some (sI v1), some (sI v2), some (sI (w32 (v3 + (-1))))]) rfl ?_
        refine go_goto kk176_0.2.2.2.2.1.1 ?_
        exact HX26 v2 h2 (w32 (v3 + (-1))) (inR_w32 _) g hg
  · refine go_iload kk176_0.2.2.2.2.1.2 rfl ?_
    exact go_iret kk176_0.2.2.2.2.2 hg h2 ⟨Nat.zero_le _, Nat.zero_le _⟩ rfl
theorem tlM_relieve_26 {Φ : ev_P} {d : Nat} (hd : 7 ≤ d) {v0 v1 : Int} (hK0 : kd v0 = 7) (h1 : InR v1) : ∀ n : Nat, ∀ (v2 : Int) (h2 : InR v2) (v3 : Int) (h3 : InR v3) (g : gH) (hg : HR g), Go Φ pr_P fN 1 (lM_relieve_26 v0 v1 n v2 v3 g) d pr_m176 26 [some (sR v0), some (sI v1), some (sI v2), some (sI v3)] [] g 0 0 := by
  intro n
  induction n with
  | zero => intros; exact go_none
  | succ n ih => exact tbM_relieve_26 hd hK0 h1 ih
theorem tfM_relieve {Φ : ev_P} {d : Nat} (hd : 7 ≤ d) {g : gH} (hg : HR g) {v0 v1 : Int} (hK0 : kd v0 = 7) (h1 : InR v1) : Go Φ pr_P fN 1 (fM_relieve g v0 v1) d (pr_P 176) 0 (ev_loc (pr_P 176).1 [(sR v0), (sI v1)]) [] g 0 0 := by
  show Go Φ pr_P fN 1 (fM_relieve g v0 v1) d pr_m176 0 [some (sR v0), some (sI v1), none, none] [] g 0 0
  unfold fM_relieve
  refine go_aload kk176_0.1.1.1.1.1.1 rfl ?_
  refine go_iload kk176_0.1.1.1.1.1.2 rfl ?_
  refine go_int kk176_0.1.1.1.1.2.1 2 rfl ?_
  refine go_callN3 kk176_0.1.1.1.1.2.2 rfl rfl rfl ⟨by decide, _, rfl, hK0⟩ ⟨Nat.zero_le _, Nat.zero_le _⟩ (by omega) (tfM_notExiting (by omega) hg hK0  h1 (inR_of (by decide))) (fun y1 g3 r2 e4 => ?_)
  refine go_ifeq kk176_0.1.1.1.2.1.1 (inR_b r2) (fun c5 => ?_) (fun c6 => ?_)
  · refine go_aload kk176_0.1.1.2.1.1.1 rfl ?_
    refine go_callN0 kk176_0.1.1.2.1.1.2 rfl rfl rfl ⟨by decide, _, rfl, hK0⟩ ⟨Nat.zero_le _, Nat.zero_le _⟩ (by omega) (tfM_remembers (by omega) e4 hK0 ) (fun y7 g9 e10 => ?_)
    refine go_int kk176_0.1.1.2.1.2 0 rfl ?_
    refine go_istore kk176_0.1.1.2.2.1.1 rfl (loc2 := [some (sR v0), some (sI v1), some (sI 0), none]) rfl ?_
    refine go_aload kk176_0.1.1.2.2.1.2 rfl ?_
    refine go_getR (bI := 0) kk176_0.1.1.2.2.2 e10 hK0 (by decide) rfl rfl (fun r11 => ?_)
    refine go_int kk176_0.1.2.1.1.1.1 0 rfl ?_
    refine go_ck (fun q13 => ?_)
    refine go_iald kk176_0.1.2.1.1.1.2 e10 q13 (fun r12 => ?_)
    refine go_int kk176_0.1.2.1.1.2 1 rfl ?_
    refine go_isub kk176_0.1.2.1.2.1.1 ?_
    refine go_istore kk176_0.1.2.1.2.1.2 rfl (loc2 := [some (sR v0), some (sI v1), some (sI 0), some (sI (w32 ((g9 (g9 v0 0) 0) - 1)))]) rfl ?_
    exact tlM_relieve_26 hd hK0 h1 fu 0 (inR_b (Or.inl rfl)) (w32 ((g9 (g9 v0 0) 0) - 1)) (inR_w32 _) g9 e10
  · refine go_int kk176_0.1.1.1.2.1.2 0 rfl ?_
    exact go_iret kk176_0.1.1.1.2.2 e4 (inR_b (Or.inl rfl)) ⟨Nat.zero_le _, Nat.zero_le _⟩ rfl
theorem tfM_adopter {Φ : ev_P} {d : Nat} (hd : 7 ≤ d) {g : gH} (hg : HR g) {v0 v1 : Int} (hK0 : kd v0 = 7) (h1 : InR v1) : Go Φ pr_P fN 1 (fM_adopter g v0 v1) d (pr_P 177) 0 (ev_loc (pr_P 177).1 [(sR v0), (sI v1)]) [] g 0 0 := by
  show Go Φ pr_P fN 1 (fM_adopter g v0 v1) d pr_m177 0 [some (sR v0), some (sI v1)] [] g 0 0
  unfold fM_adopter
  refine go_aload kk177_0.1.1.1.1.1 rfl ?_
  refine go_iload kk177_0.1.1.1.1.2 rfl ?_
  refine go_int kk177_0.1.1.1.2 2 rfl ?_
  refine go_callN3 kk177_0.1.1.2.1 rfl rfl rfl ⟨by decide, _, rfl, hK0⟩ ⟨Nat.zero_le _, Nat.zero_le _⟩ (by omega) (tfM_notExiting (by omega) hg hK0  h1 (inR_of (by decide))) (fun y1 g3 r2 e4 => ?_)
  refine go_ifeq kk177_0.1.1.2.2 (inR_b r2) (fun c5 => ?_) (fun c6 => ?_)
  · refine go_aload kk177_0.1.2.2.1 rfl ?_
    refine go_iload kk177_0.1.2.2.2 rfl ?_
    refine go_aload kk177_0.2.1.1.1 rfl ?_
    refine go_getR (bI := 0) kk177_0.2.1.1.2 e4 hK0 (by decide) rfl rfl (fun r7 => ?_)
    refine go_int kk177_0.2.1.2.1 60 rfl ?_
    refine go_iload kk177_0.2.1.2.2 rfl ?_
    refine go_iadd kk177_0.2.2.1.1 ?_
    refine go_ck (fun q9 => ?_)
    refine go_iald kk177_0.2.2.1.2 e4 q9 (fun r8 => ?_)
    refine go_callP1 kk177_0.2.2.2.1 rfl rfl rfl ⟨by decide, _, rfl, hK0⟩ ⟨Nat.zero_le _, Nat.zero_le _⟩ (by omega) (tfM_adopterOf (by omega) e4 hK0  h1 r8) (fun y10 r11 => ?_)
    exact go_iret kk177_0.2.2.2.2 e4 r11 ⟨Nat.zero_le _, Nat.zero_le _⟩ rfl
  · refine go_int kk177_0.1.2.1.1 0 rfl ?_
    refine go_goto kk177_0.1.2.1.2 ?_
    exact go_iret kk177_0.2.2.2.2 e4 (inR_b (Or.inl rfl)) ⟨Nat.zero_le _, Nat.zero_le _⟩ rfl
theorem tbM_adopters_15 {Φ : ev_P} {d : Nat} (hd : 4 ≤ d) {g : gH} (hg : HR g) {v0 v1 : Int} (hK0 : kd v0 = 7) (h1 : InR v1) {X15 : Int → Int → Option (Int × gH)} (HX15 : ∀ (v2 : Int) (h2 : InR v2) (v3 : Int) (h3 : InR v3), Go Φ pr_P fN 1 (X15 v2 v3) d pr_m178 15 [some (sR v0), some (sI v1), some (sI v2), some (sI v3)] [] g 0 0) : ∀ (v2 : Int) (h2 : InR v2) (v3 : Int) (h3 : InR v3), Go Φ pr_P fN 1 (bM_adopters_15 g v0 v1 X15 v2 v3) d pr_m178 15 [some (sR v0), some (sI v1), some (sI v2), some (sI v3)] [] g 0 0 := by
  intro v2 h2 v3 h3
  unfold bM_adopters_15
  refine go_iload kk178_0.1.2.1.2.2 rfl ?_
  refine go_aload kk178_0.1.2.2.1.1 rfl ?_
  refine go_getR (bI := 0) kk178_0.1.2.2.1.2 hg hK0 (by decide) rfl rfl (fun r7 => ?_)
  refine go_int kk178_0.1.2.2.2.1 0 rfl ?_
  refine go_ck (fun q9 => ?_)
  refine go_iald kk178_0.1.2.2.2.2 hg q9 (fun r8 => ?_)
  refine go_cmlt kk178_0.2.1.1.1.1 h3 r8 (fun c10 => ?_) (fun c11 => ?_)
  · refine go_iload kk178_0.2.1.1.1.2 rfl ?_
    refine go_aload kk178_0.2.1.1.2.1 rfl ?_
    refine go_iload kk178_0.2.1.1.2.2 rfl ?_
    refine go_iload kk178_0.2.1.2.1.1 rfl ?_
    refine go_callP3 kk178_0.2.1.2.1.2 rfl rfl rfl ⟨by decide, _, rfl, hK0⟩ ⟨Nat.zero_le _, Nat.zero_le _⟩ (by omega) (tfM_canAdopt (by omega) hg hK0  h3 h1) (fun y12 r13 => ?_)
    refine go_ifeq kk178_0.2.1.2.2.1 (inR_b r13) (fun c16 => ?_) (fun c17 => ?_)
    · refine go_int kk178_0.2.2.1.1.2 0 rfl ?_
      refine go_iadd kk178_0.2.2.1.2.1 ?_
      refine go_istore kk178_0.2.2.1.2.2 rfl (loc2 := [some (sR v0), some (sI v1), some (sI (w32 (v2 + 0))), some (sI v3)]) rfl ?_
      refine go_iinc kk178_0.2.2.2.1.1 rfl rfl 1 rfl (loc2 := [some (sR v0), some (sI v1), some (sI (w32 (v2 + 0))), some (sI (w32 (v3 + 1)))]) rfl ?_
      refine go_goto kk178_0.2.2.2.1.2 ?_
      exact HX15 (w32 (v2 + 0)) (inR_w32 _) (w32 (v3 + 1)) (inR_w32 _)
    · refine go_int kk178_0.2.1.2.2.2 1 rfl ?_
      refine go_goto kk178_0.2.2.1.1.1 ?_
      refine go_iadd kk178_0.2.2.1.2.1 ?_
      refine go_istore kk178_0.2.2.1.2.2 rfl (loc2 := [some (sR v0), some (sI v1), some (sI (w32 (v2 + 1))), some (sI v3)]) rfl ?_
      refine go_iinc kk178_0.2.2.2.1.1 rfl rfl 1 rfl (loc2 := [some (sR v0), some (sI v1), some (sI (w32 (v2 + 1))), some (sI (w32 (v3 + 1)))]) rfl ?_
      refine go_goto kk178_0.2.2.2.1.2 ?_
      exact HX15 (w32 (v2 + 1)) (inR_w32 _) (w32 (v3 + 1)) (inR_w32 _)
  · refine go_iload kk178_0.2.2.2.2.1 rfl ?_
    exact go_iret kk178_0.2.2.2.2.2 hg h2 ⟨Nat.zero_le _, Nat.zero_le _⟩ rfl
theorem tlM_adopters_15 {Φ : ev_P} {d : Nat} (hd : 4 ≤ d) {g : gH} (hg : HR g) {v0 v1 : Int} (hK0 : kd v0 = 7) (h1 : InR v1) : ∀ n : Nat, ∀ (v2 : Int) (h2 : InR v2) (v3 : Int) (h3 : InR v3), Go Φ pr_P fN 1 (lM_adopters_15 g v0 v1 n v2 v3) d pr_m178 15 [some (sR v0), some (sI v1), some (sI v2), some (sI v3)] [] g 0 0 := by
  intro n
  induction n with
  | zero => intros; exact go_none
  | succ n ih => exact tbM_adopters_15 hd hg hK0 h1 ih
theorem tfM_adopters {Φ : ev_P} {d : Nat} (hd : 4 ≤ d) {g : gH} (hg : HR g) {v0 v1 : Int} (hK0 : kd v0 = 7) (h1 : InR v1) : Go Φ pr_P fN 1 (fM_adopters g v0 v1) d (pr_P 178) 0 (ev_loc (pr_P 178).1 [(sR v0), (sI v1)]) [] g 0 0 := by
  show Go Φ pr_P fN 1 (fM_adopters g v0 v1) d pr_m178 0 [some (sR v0), some (sI v1), none, none] [] g 0 0
  unfold fM_adopters
  refine go_aload kk178_0.1.1.1.1.1 rfl ?_
  refine go_iload kk178_0.1.1.1.1.2 rfl ?_
  refine go_int kk178_0.1.1.1.2.1 2 rfl ?_
  refine go_callN3 kk178_0.1.1.1.2.2 rfl rfl rfl ⟨by decide, _, rfl, hK0⟩ ⟨Nat.zero_le _, Nat.zero_le _⟩ (by omega) (tfM_notExiting (by omega) hg hK0  h1 (inR_of (by decide))) (fun y1 g3 r2 e4 => ?_)
  refine go_ifeq kk178_0.1.1.2.1.1 (inR_b r2) (fun c5 => ?_) (fun c6 => ?_)
  · refine go_int kk178_0.1.1.2.2.2 0 rfl ?_
    refine go_istore kk178_0.1.2.1.1.1 rfl (loc2 := [some (sR v0), some (sI v1), some (sI 0), none]) rfl ?_
    refine go_int kk178_0.1.2.1.1.2 1 rfl ?_
    refine go_istore kk178_0.1.2.1.2.1 rfl (loc2 := [some (sR v0), some (sI v1), some (sI 0), some (sI 1)]) rfl ?_
    exact tlM_adopters_15 hd e4 hK0 h1 fu 0 (inR_b (Or.inl rfl)) 1 (inR_b (Or.inr rfl))
  · refine go_int kk178_0.1.1.2.1.2 0 rfl ?_
    exact go_iret kk178_0.1.1.2.2.1 e4 (inR_b (Or.inl rfl)) ⟨Nat.zero_le _, Nat.zero_le _⟩ rfl
theorem tfM_heirNow {Φ : ev_P} {d : Nat} (hd : 3 ≤ d) {g : gH} (hg : HR g) {v0 v1 : Int} (hK0 : kd v0 = 7) (h1 : InR v1) : Go Φ pr_P fN 1 (fM_heirNow g v0 v1) d (pr_P 179) 0 (ev_loc (pr_P 179).1 [(sR v0), (sI v1)]) [] g 0 0 := by
  show Go Φ pr_P fN 1 (fM_heirNow g v0 v1) d pr_m179 0 [some (sR v0), some (sI v1)] [] g 0 0
  unfold fM_heirNow
  refine go_aload kk179_0.1.1.1.1 rfl ?_
  refine go_iload kk179_0.1.1.1.2 rfl ?_
  refine go_int kk179_0.1.1.2 2 rfl ?_
  refine go_callN3 kk179_0.1.2.1.1 rfl rfl rfl ⟨by decide, _, rfl, hK0⟩ ⟨Nat.zero_le _, Nat.zero_le _⟩ (by omega) (tfM_notExiting (by omega) hg hK0  h1 (inR_of (by decide))) (fun y1 g3 r2 e4 => ?_)
  refine go_ifeq kk179_0.1.2.1.2 (inR_b r2) (fun c5 => ?_) (fun c6 => ?_)
  · refine go_aload kk179_0.2.1.1.2 rfl ?_
    refine go_iload kk179_0.2.1.2 rfl ?_
    refine go_callP1 kk179_0.2.2.1 rfl rfl rfl ⟨by decide, _, rfl, hK0⟩ ⟨Nat.zero_le _, Nat.zero_le _⟩ (by omega) (tfM_inheritor (by omega) e4 hK0  h1) (fun y7 r8 => ?_)
    exact go_iret kk179_0.2.2.2 e4 r8 ⟨Nat.zero_le _, Nat.zero_le _⟩ rfl
  · refine go_int kk179_0.1.2.2 0 rfl ?_
    refine go_goto kk179_0.2.1.1.1 ?_
    exact go_iret kk179_0.2.2.2 e4 (inR_b (Or.inl rfl)) ⟨Nat.zero_le _, Nat.zero_le _⟩ rfl
theorem tfM_begins {Φ : ev_P} {d : Nat} (hd : 1 ≤ d) {g : gH} (hg : HR g) {v0 : Int} (hK0 : kd v0 = 7) : Go Φ pr_P fN 0 (fM_begins g v0) d (pr_P 81) 0 (ev_loc (pr_P 81).1 [(sR v0)]) [] g 0 0 := by
  show Go Φ pr_P fN 0 (fM_begins g v0) d pr_m81 0 [some (sR v0)] [] g 0 0
  unfold fM_begins
  refine go_aload kk81_0.1.1.1.1 rfl ?_
  refine go_getR (bI := 0) kk81_0.1.1.1.2 hg hK0 (by decide) rfl rfl (fun r1 => ?_)
  refine go_int kk81_0.1.1.2 0 rfl ?_
  refine go_aload kk81_0.1.2.1 rfl ?_
  refine go_getR (bI := 2) kk81_0.1.2.2 hg hK0 (by decide) rfl rfl (fun r2 => ?_)
  refine go_int kk81_0.2.1.1 0 rfl ?_
  refine go_int kk81_0.2.1.2 780 rfl ?_
  refine go_callN0 kk81_0.2.2.1 rfl rfl rfl trivial ⟨Nat.zero_le _, Nat.zero_le _⟩ (by omega) (tfM_copies (by omega) hg  r1 (inR_b (Or.inl rfl)) r2 (inR_b (Or.inl rfl)) (inR_of (by decide))) (fun y3 g5 e6 => ?_)
  exact go_vret kk81_0.2.2.2 e6 ⟨Nat.zero_le _, Nat.zero_le _⟩ rfl
theorem tfM_ends {Φ : ev_P} {d : Nat} (hd : 1 ≤ d) {g : gH} (hg : HR g) {v0 : Int} (hK0 : kd v0 = 7) : Go Φ pr_P fN 0 (fM_ends g v0) d (pr_P 82) 0 (ev_loc (pr_P 82).1 [(sR v0)]) [] g 0 0 := by
  show Go Φ pr_P fN 0 (fM_ends g v0) d pr_m82 0 [some (sR v0)] [] g 0 0
  unfold fM_ends
  refine go_aload kk82_0.1.1.1.1 rfl ?_
  refine go_getR (bI := 2) kk82_0.1.1.1.2 hg hK0 (by decide) rfl rfl (fun r1 => ?_)
  refine go_int kk82_0.1.1.2 0 rfl ?_
  refine go_aload kk82_0.1.2.1 rfl ?_
  refine go_getR (bI := 0) kk82_0.1.2.2 hg hK0 (by decide) rfl rfl (fun r2 => ?_)
  refine go_int kk82_0.2.1.1 0 rfl ?_
  refine go_int kk82_0.2.1.2 780 rfl ?_
  refine go_callN0 kk82_0.2.2.1 rfl rfl rfl trivial ⟨Nat.zero_le _, Nat.zero_le _⟩ (by omega) (tfM_copies (by omega) hg  r1 (inR_b (Or.inl rfl)) r2 (inR_b (Or.inl rfl)) (inR_of (by decide))) (fun y3 g5 e6 => ?_)
  exact go_vret kk82_0.2.2.2 e6 ⟨Nat.zero_le _, Nat.zero_le _⟩ rfl
theorem tfM_fallsBy {Φ : ev_P} {d : Nat} (hd : 8 ≤ d) {g : gH} (hg : HR g) {v0 v1 v2 : Int} (hK0 : kd v0 = 7) (h1 : InR v1) (h2 : InR v2) : Go Φ pr_P fN 1 (fM_fallsBy g v0 v1 v2) d (pr_P 180) 0 (ev_loc (pr_P 180).1 [(sR v0), (sI v1), (sI v2)]) [] g 0 0 := by
  show Go Φ pr_P fN 1 (fM_fallsBy g v0 v1 v2) d pr_m180 0 [some (sR v0), some (sI v1), some (sI v2), none] [] g 0 0
  unfold fM_fallsBy
  refine go_aload kk180_0.1.1.1.1 rfl ?_
  refine go_callN0 kk180_0.1.1.1.2 rfl rfl rfl ⟨by decide, _, rfl, hK0⟩ ⟨Nat.zero_le _, Nat.zero_le _⟩ (by omega) (tfM_begins (by omega) hg hK0 ) (fun y1 g3 e4 => ?_)
  refine go_aload kk180_0.1.1.2 rfl ?_
  refine go_iload kk180_0.1.2.1.1 rfl ?_
  refine go_iload kk180_0.1.2.1.2 rfl ?_
  refine go_callN1 kk180_0.1.2.2 rfl rfl rfl ⟨by decide, _, rfl, hK0⟩ ⟨Nat.zero_le _, Nat.zero_le _⟩ (by omega) (tfM_exits (by omega) e4 hK0  h1 h2) (fun y5 g7 r6 e8 => ?_)
  refine go_istore kk180_0.2.1.1.1 rfl (loc2 := [some (sR v0), some (sI v1), some (sI v2), some (sI y5)]) rfl ?_
  refine go_aload kk180_0.2.1.1.2 rfl ?_
  refine go_callN0 kk180_0.2.1.2 rfl rfl rfl ⟨by decide, _, rfl, hK0⟩ ⟨Nat.zero_le _, Nat.zero_le _⟩ (by omega) (tfM_ends (by omega) e8 hK0 ) (fun y9 g11 e12 => ?_)
  refine go_iload kk180_0.2.2.1 rfl ?_
  exact go_iret kk180_0.2.2.2 e12 r6 ⟨Nat.zero_le _, Nat.zero_le _⟩ rfl
theorem tfM_wouldFall {Φ : ev_P} {d : Nat} (hd : 9 ≤ d) {g : gH} (hg : HR g) {v0 v1 v2 : Int} (hK0 : kd v0 = 7) (h1 : InR v1) (h2 : InR v2) : Go Φ pr_P fN 1 (fM_wouldFall g v0 v1 v2) d (pr_P 181) 0 (ev_loc (pr_P 181).1 [(sR v0), (sI v1), (sI v2)]) [] g 0 0 := by
  show Go Φ pr_P fN 1 (fM_wouldFall g v0 v1 v2) d pr_m181 0 [some (sR v0), some (sI v1), some (sI v2)] [] g 0 0
  unfold fM_wouldFall
  refine go_aload kk181_0.1.1.1.1 rfl ?_
  refine go_iload kk181_0.1.1.1.2 rfl ?_
  refine go_iload kk181_0.1.1.2 rfl ?_
  refine go_callN3 kk181_0.1.2.1.1 rfl rfl rfl ⟨by decide, _, rfl, hK0⟩ ⟨Nat.zero_le _, Nat.zero_le _⟩ (by omega) (tfM_noExit (by omega) hg hK0  h1 h2) (fun y1 g3 r2 e4 => ?_)
  refine go_ifeq kk181_0.1.2.1.2 (inR_b r2) (fun c5 => ?_) (fun c6 => ?_)
  · refine go_aload kk181_0.2.1.1.2 rfl ?_
    refine go_iload kk181_0.2.1.2 rfl ?_
    refine go_iload kk181_0.2.2.1.1 rfl ?_
    refine go_callN1 kk181_0.2.2.1.2 rfl rfl rfl ⟨by decide, _, rfl, hK0⟩ ⟨Nat.zero_le _, Nat.zero_le _⟩ (by omega) (tfM_fallsBy (by omega) e4 hK0  h1 h2) (fun y7 g9 r8 e10 => ?_)
    exact go_iret kk181_0.2.2.2 e10 r8 ⟨Nat.zero_le _, Nat.zero_le _⟩ rfl
  · refine go_int kk181_0.1.2.2 0 rfl ?_
    refine go_goto kk181_0.2.1.1.1 ?_
    exact go_iret kk181_0.2.2.2 e4 (inR_b (Or.inl rfl)) ⟨Nat.zero_le _, Nat.zero_le _⟩ rfl
theorem tfM_wouldStand {Φ : ev_P} {d : Nat} (hd : 8 ≤ d) {g : gH} (hg : HR g) {v0 v1 v2 : Int} (hK0 : kd v0 = 7) (h1 : InR v1) (h2 : InR v2) : Go Φ pr_P fN 1 (fM_wouldStand g v0 v1 v2) d (pr_P 182) 0 (ev_loc (pr_P 182).1 [(sR v0), (sI v1), (sI v2)]) [] g 0 0 := by
  show Go Φ pr_P fN 1 (fM_wouldStand g v0 v1 v2) d pr_m182 0 [some (sR v0), some (sI v1), some (sI v2), none, none] [] g 0 0
  unfold fM_wouldStand
  refine go_aload kk182_0.1.1.1.1.1 rfl ?_
  refine go_iload kk182_0.1.1.1.1.2 rfl ?_
  refine go_iload kk182_0.1.1.1.2.1 rfl ?_
  refine go_callN3 kk182_0.1.1.1.2.2 rfl rfl rfl ⟨by decide, _, rfl, hK0⟩ ⟨Nat.zero_le _, Nat.zero_le _⟩ (by omega) (tfM_noExit (by omega) hg hK0  h1 h2) (fun y1 g3 r2 e4 => ?_)
  refine go_ifeq kk182_0.1.1.2.1.1 (inR_b r2) (fun c5 => ?_) (fun c6 => ?_)
  · refine go_aload kk182_0.1.2.1.1.1 rfl ?_
    refine go_callN0 kk182_0.1.2.1.1.2 rfl rfl rfl ⟨by decide, _, rfl, hK0⟩ ⟨Nat.zero_le _, Nat.zero_le _⟩ (by omega) (tfM_begins (by omega) e4 hK0 ) (fun y7 g9 e10 => ?_)
    refine go_aload kk182_0.1.2.1.2 rfl ?_
    refine go_iload kk182_0.1.2.2.1.1 rfl ?_
    refine go_iload kk182_0.1.2.2.1.2 rfl ?_
    refine go_callN1 kk182_0.1.2.2.2 rfl rfl rfl ⟨by decide, _, rfl, hK0⟩ ⟨Nat.zero_le _, Nat.zero_le _⟩ (by omega) (tfM_exits (by omega) e10 hK0  h1 h2) (fun y11 g13 r12 e14 => ?_)
    refine go_istore kk182_0.2.1.1.1.1 rfl (loc2 := [some (sR v0), some (sI v1), some (sI v2), some (sI y11), none]) rfl ?_
    refine go_iload kk182_0.2.1.1.1.2 rfl ?_
    refine go_iflt kk182_0.2.1.1.2 r12 (fun c15 => ?_) (fun c16 => ?_)
    · refine go_int kk182_0.2.1.2.1.1 (-1) rfl ?_
      refine go_goto kk182_0.2.1.2.1.2 ?_
      refine go_istore kk182_0.2.2.1.1.2 rfl (loc2 := [some (sR v0), some (sI v1), some (sI v2), some (sI y11), some (sI (-1))]) rfl ?_
      refine go_aload kk182_0.2.2.1.2 rfl ?_
      refine go_callN0 kk182_0.2.2.2.1.1 rfl rfl rfl ⟨by decide, _, rfl, hK0⟩ ⟨Nat.zero_le _, Nat.zero_le _⟩ (by omega) (tfM_ends (by omega) e14 hK0 ) (fun y17 g19 e20 => ?_)
      refine go_iload kk182_0.2.2.2.1.2 rfl ?_
      exact go_iret kk182_0.2.2.2.2 e20 (inR_of (by decide)) ⟨Nat.zero_le _, Nat.zero_le _⟩ rfl
    · refine go_aload kk182_0.2.1.2.2 rfl ?_
      refine go_callP1 kk182_0.2.2.1.1.1 rfl rfl rfl ⟨by decide, _, rfl, hK0⟩ ⟨Nat.zero_le _, Nat.zero_le _⟩ (by omega) (tfM_highest (by omega) e14 hK0 ) (fun y21 r22 => ?_)
      refine go_istore kk182_0.2.2.1.1.2 rfl (loc2 := [some (sR v0), some (sI v1), some (sI v2), some (sI y11), some (sI y21)]) rfl ?_
      refine go_aload kk182_0.2.2.1.2 rfl ?_
      refine go_callN0 kk182_0.2.2.2.1.1 rfl rfl rfl ⟨by decide, _, rfl, hK0⟩ ⟨Nat.zero_le _, Nat.zero_le _⟩ (by omega) (tfM_ends (by omega) e14 hK0 ) (fun y25 g27 e28 => ?_)
      refine go_iload kk182_0.2.2.2.1.2 rfl ?_
      exact go_iret kk182_0.2.2.2.2 e28 r22 ⟨Nat.zero_le _, Nat.zero_le _⟩ rfl
  · refine go_int kk182_0.1.1.2.1.2 0 rfl ?_
    exact go_iret kk182_0.1.1.2.2 e4 (inR_b (Or.inl rfl)) ⟨Nat.zero_le _, Nat.zero_le _⟩ rfl
theorem tfM_wouldHave {Φ : ev_P} {d : Nat} (hd : 8 ≤ d) {g : gH} (hg : HR g) {v0 v1 v2 v3 : Int} (hK0 : kd v0 = 7) (h1 : InR v1) (h2 : InR v2) (h3 : InR v3) : Go Φ pr_P fN 1 (fM_wouldHave g v0 v1 v2 v3) d (pr_P 183) 0 (ev_loc (pr_P 183).1 [(sR v0), (sI v1), (sI v2), (sI v3)]) [] g 0 0 := by
  show Go Φ pr_P fN 1 (fM_wouldHave g v0 v1 v2 v3) d pr_m183 0 [some (sR v0), some (sI v1), some (sI v2), some (sI v3), none, none] [] g 0 0
  unfold fM_wouldHave
  refine go_aload kk183_0.1.1.1.1.1.1 rfl ?_
  refine go_iload kk183_0.1.1.1.1.1.2 rfl ?_
  refine go_callN3 kk183_0.1.1.1.1.2 rfl rfl rfl ⟨by decide, _, rfl, hK0⟩ ⟨Nat.zero_le _, Nat.zero_le _⟩ (by omega) (tfM_noProcess (by omega) hg hK0  h1) (fun y1 g3 r2 e4 => ?_)
  refine go_ifeq kk183_0.1.1.1.2.1 (inR_b r2) (fun c5 => ?_) (fun c6 => ?_)
  · refine go_aload kk183_0.1.1.1.2.2 rfl ?_
    refine go_iload kk183_0.1.1.2.1.1 rfl ?_
    refine go_iload kk183_0.1.1.2.1.2 rfl ?_
    refine go_callN3 kk183_0.1.1.2.2.1 rfl rfl rfl ⟨by decide, _, rfl, hK0⟩ ⟨Nat.zero_le _, Nat.zero_le _⟩ (by omega) (tfM_noExit (by omega) e4 hK0  h2 h3) (fun y7 g9 r8 e10 => ?_)
    refine go_ifeq kk183_0.1.1.2.2.2 (inR_b r8) (fun c11 => ?_) (fun c12 => ?_)
    · refine go_aload kk183_0.1.2.1.2.1 rfl ?_
      refine go_callN0 kk183_0.1.2.1.2.2 rfl rfl rfl ⟨by decide, _, rfl, hK0⟩ ⟨Nat.zero_le _, Nat.zero_le _⟩ (by omega) (tfM_begins (by omega) e10 hK0 ) (fun y13 g15 e16 => ?_)
      refine go_aload kk183_0.1.2.2.1.1 rfl ?_
      refine go_iload kk183_0.1.2.2.1.2 rfl ?_
      refine go_iload kk183_0.1.2.2.2.1 rfl ?_
      refine go_callN1 kk183_0.1.2.2.2.2 rfl rfl rfl ⟨by decide, _, rfl, hK0⟩ ⟨Nat.zero_le _, Nat.zero_le _⟩ (by omega) (tfM_exits (by omega) e16 hK0  h2 h3) (fun y17 g19 r18 e20 => ?_)
      refine go_istore kk183_0.2.1.1.1.1 rfl (loc2 := [some (sR v0), some (sI v1), some (sI v2), some (sI v3), some (sI y17), none]) rfl ?_
      refine go_iload kk183_0.2.1.1.1.2 rfl ?_
      refine go_iflt kk183_0.2.1.1.2.1 r18 (fun c21 => ?_) (fun c22 => ?_)
      · refine go_int kk183_0.2.1.1.2.2 (-1) rfl ?_
        refine go_goto kk183_0.2.1.2.1.1 ?_
        refine go_istore kk183_0.2.2.1.2.2 rfl (loc2 := [some (sR v0), some (sI v1), some (sI v2), some (sI v3), some (sI y17), some (sI (-1))]) rfl ?_
        refine go_aload kk183_0.2.2.2.1.1 rfl ?_
        refine go_callN0 kk183_0.2.2.2.1.2 rfl rfl rfl ⟨by decide, _, rfl, hK0⟩ ⟨Nat.zero_le _, Nat.zero_le _⟩ (by omega) (tfM_ends (by omega) e20 hK0 ) (fun y23 g25 e26 => ?_)
        refine go_iload kk183_0.2.2.2.2.1 rfl ?_
        exact go_iret kk183_0.2.2.2.2.2 e26 (inR_of (by decide)) ⟨Nat.zero_le _, Nat.zero_le _⟩ rfl
      · refine go_aload kk183_0.2.1.2.1.2 rfl ?_
        refine go_getR (bI := 0) kk183_0.2.1.2.2.1 e20 hK0 (by decide) rfl rfl (fun r27 => ?_)
        refine go_int kk183_0.2.1.2.2.2 60 rfl ?_
        refine go_iload kk183_0.2.2.1.1.1 rfl ?_
        refine go_iadd kk183_0.2.2.1.1.2 ?_
        refine go_ck (fun q29 => ?_)
        refine go_iald kk183_0.2.2.1.2.1 e20 q29 (fun r28 => ?_)
        refine go_istore kk183_0.2.2.1.2.2 rfl (loc2 := [some (sR v0), some (sI v1), some (sI v2), some (sI v3), some (sI y17), some (sI (g19 (g19 v0 0) (w32 (60 + v1))))]) rfl ?_
        refine go_aload kk183_0.2.2.2.1.1 rfl ?_
        refine go_callN0 kk183_0.2.2.2.1.2 rfl rfl rfl ⟨by decide, _, rfl, hK0⟩ ⟨Nat.zero_le _, Nat.zero_le _⟩ (by omega) (tfM_ends (by omega) e20 hK0 ) (fun y30 g32 e33 => ?_)
        refine go_iload kk183_0.2.2.2.2.1 rfl ?_
        exact go_iret kk183_0.2.2.2.2.2 e33 r28 ⟨Nat.zero_le _, Nat.zero_le _⟩ rfl
    · refine go_int kk183_0.1.2.1.1.1 0 rfl ?_
      exact go_iret kk183_0.1.2.1.1.2 e10 (inR_b (Or.inl rfl)) ⟨Nat.zero_le _, Nat.zero_le _⟩ rfl
  · refine go_int kk183_0.1.2.1.1.1 0 rfl ?_
    exact go_iret kk183_0.1.2.1.1.2 e4 (inR_b (Or.inl rfl)) ⟨Nat.zero_le _, Nat.zero_le _⟩ rfl
theorem tfM_wouldHold {Φ : ev_P} {d : Nat} (hd : 8 ≤ d) {g : gH} (hg : HR g) {v0 v1 v2 v3 : Int} (hK0 : kd v0 = 7) (h1 : InR v1) (h2 : InR v2) (h3 : InR v3) : Go Φ pr_P fN 1 (fM_wouldHold g v0 v1 v2 v3) d (pr_P 184) 0 (ev_loc (pr_P 184).1 [(sR v0), (sI v1), (sI v2), (sI v3)]) [] g 0 0 := by
  show Go Φ pr_P fN 1 (fM_wouldHold g v0 v1 v2 v3) d pr_m184 0 [some (sR v0), some (sI v1), some (sI v2), some (sI v3), none, none] [] g 0 0
  unfold fM_wouldHold
  refine go_aload kk184_0.1.1.1.1.1.1 rfl ?_
  refine go_iload kk184_0.1.1.1.1.1.2 rfl ?_
  refine go_callN3 kk184_0.1.1.1.1.2 rfl rfl rfl ⟨by decide, _, rfl, hK0⟩ ⟨Nat.zero_le _, Nat.zero_le _⟩ (by omega) (tfM_noProcess (by omega) hg hK0  h2) (fun y1 g3 r2 e4 => ?_)
  refine go_ifeq kk184_0.1.1.1.2.1 (inR_b r2) (fun c5 => ?_) (fun c6 => ?_)
  · refine go_aload kk184_0.1.1.1.2.2 rfl ?_
    refine go_iload kk184_0.1.1.2.1.1.1 rfl ?_
    refine go_int kk184_0.1.1.2.1.1.2 2 rfl ?_
    refine go_callN3 kk184_0.1.1.2.1.2 rfl rfl rfl ⟨by decide, _, rfl, hK0⟩ ⟨Nat.zero_le _, Nat.zero_le _⟩ (by omega) (tfM_noDuty (by omega) e4 hK0  h1 (inR_of (by decide))) (fun y7 g9 r8 e10 => ?_)
    refine go_ifeq kk184_0.1.1.2.2.1 (inR_b r8) (fun c11 => ?_) (fun c12 => ?_)
    · refine go_aload kk184_0.1.1.2.2.2 rfl ?_
      refine go_iload kk184_0.1.2.1.1.1.1 rfl ?_
      refine go_iload kk184_0.1.2.1.1.1.2 rfl ?_
      refine go_callN3 kk184_0.1.2.1.1.2 rfl rfl rfl ⟨by decide, _, rfl, hK0⟩ ⟨Nat.zero_le _, Nat.zero_le _⟩ (by omega) (tfM_noExit (by omega) e10 hK0  h2 h3) (fun y13 g15 r14 e16 => ?_)
      refine go_ifeq kk184_0.1.2.1.2.1 (inR_b r14) (fun c17 => ?_) (fun c18 => ?_)
      · refine go_aload kk184_0.1.2.2.1.2 rfl ?_
        refine go_callN0 kk184_0.1.2.2.2.1 rfl rfl rfl ⟨by decide, _, rfl, hK0⟩ ⟨Nat.zero_le _, Nat.zero_le _⟩ (by omega) (tfM_begins (by omega) e16 hK0 ) (fun y19 g21 e22 => ?_)
        refine go_aload kk184_0.1.2.2.2.2 rfl ?_
        refine go_iload kk184_0.2.1.1.1.1.1 rfl ?_
        refine go_iload kk184_0.2.1.1.1.1.2 rfl ?_
        refine go_callN1 kk184_0.2.1.1.1.2 rfl rfl rfl ⟨by decide, _, rfl, hK0⟩ ⟨Nat.zero_le _, Nat.zero_le _⟩ (by omega) (tfM_exits (by omega) e22 hK0  h2 h3) (fun y23 g25 r24 e26 => ?_)
        refine go_istore kk184_0.2.1.1.2.1 rfl (loc2 := [some (sR v0), some (sI v1), some (sI v2), some (sI v3), some (sI y23), none]) rfl ?_
        refine go_iload kk184_0.2.1.1.2.2 rfl ?_
        refine go_iflt kk184_0.2.1.2.1.1.1 r24 (fun c27 => ?_) (fun c28 => ?_)
        · refine go_int kk184_0.2.1.2.1.1.2 (-1) rfl ?_
          refine go_goto kk184_0.2.1.2.1.2 ?_
          refine go_istore kk184_0.2.2.1.2.2 rfl (loc2 := [some (sR v0), some (sI v1), some (sI v2), some (sI v3), some (sI y23), some (sI (-1))]) rfl ?_
          refine go_aload kk184_0.2.2.2.1.1 rfl ?_
          refine go_callN0 kk184_0.2.2.2.1.2 rfl rfl rfl ⟨by decide, _, rfl, hK0⟩ ⟨Nat.zero_le _, Nat.zero_le _⟩ (by omega) (tfM_ends (by omega) e26 hK0 ) (fun y29 g31 e32 => ?_)
          refine go_iload kk184_0.2.2.2.2.1 rfl ?_
          exact go_iret kk184_0.2.2.2.2.2 e32 (inR_of (by decide)) ⟨Nat.zero_le _, Nat.zero_le _⟩ rfl
        · refine go_aload kk184_0.2.1.2.2.1 rfl ?_
          refine go_getR (bI := 0) kk184_0.2.1.2.2.2 e26 hK0 (by decide) rfl rfl (fun r33 => ?_)
          refine go_int kk184_0.2.2.1.1.1.1 11 rfl ?_
          refine go_iload kk184_0.2.2.1.1.1.2 rfl ?_
          refine go_iadd kk184_0.2.2.1.1.2 ?_
          refine go_ck (fun q35 => ?_)
          refine go_iald kk184_0.2.2.1.2.1 e26 q35 (fun r34 => ?_)
          refine go_istore kk184_0.2.2.1.2.2 rfl (loc2 := [some (sR v0), some (sI v1), some (sI v2), some (sI v3), some (sI y23), some (sI (g25 (g25 v0 0) (w32 (11 + v1))))]) rfl ?_
          refine go_aload kk184_0.2.2.2.1.1 rfl ?_
          refine go_callN0 kk184_0.2.2.2.1.2 rfl rfl rfl ⟨by decide, _, rfl, hK0⟩ ⟨Nat.zero_le _, Nat.zero_le _⟩ (by omega) (tfM_ends (by omega) e26 hK0 ) (fun y36 g38 e39 => ?_)
          refine go_iload kk184_0.2.2.2.2.1 rfl ?_
          exact go_iret kk184_0.2.2.2.2.2 e39 r34 ⟨Nat.zero_le _, Nat.zero_le _⟩ rfl
      · refine go_int kk184_0.1.2.1.2.2 0 rfl ?_
        exact go_iret kk184_0.1.2.2.1.1 e16 (inR_b (Or.inl rfl)) ⟨Nat.zero_le _, Nat.zero_le _⟩ rfl
    · refine go_int kk184_0.1.2.1.2.2 0 rfl ?_
      exact go_iret kk184_0.1.2.2.1.1 e10 (inR_b (Or.inl rfl)) ⟨Nat.zero_le _, Nat.zero_le _⟩ rfl
  · refine go_int kk184_0.1.2.1.2.2 0 rfl ?_
    exact go_iret kk184_0.1.2.2.1.1 e4 (inR_b (Or.inl rfl)) ⟨Nat.zero_le _, Nat.zero_le _⟩ rfl
theorem tfM_wouldFallBy {Φ : ev_P} {d : Nat} (hd : 9 ≤ d) {g : gH} (hg : HR g) {v0 v1 v2 : Int} (hK0 : kd v0 = 7) (h1 : InR v1) (h2 : InR v2) : Go Φ pr_P fN 1 (fM_wouldFallBy g v0 v1 v2) d (pr_P 185) 0 (ev_loc (pr_P 185).1 [(sR v0), (sI v1), (sI v2)]) [] g 0 0 := by
  show Go Φ pr_P fN 1 (fM_wouldFallBy g v0 v1 v2) d pr_m185 0 [some (sR v0), some (sI v1), some (sI v2), none, none, none] [] g 0 0
  unfold fM_wouldFallBy
  refine go_aload kk185_0.1.1.1.1.1.1 rfl ?_
  refine go_iload kk185_0.1.1.1.1.1.2 rfl ?_
  refine go_iload kk185_0.1.1.1.1.2 rfl ?_
  refine go_callN3 kk185_0.1.1.1.2.1 rfl rfl rfl ⟨by decide, _, rfl, hK0⟩ ⟨Nat.zero_le _, Nat.zero_le _⟩ (by omega) (tfM_noKill (by omega) hg hK0  h1 h2) (fun y1 g3 r2 e4 => ?_)
  refine go_ifeq kk185_0.1.1.1.2.2 (inR_b r2) (fun c5 => ?_) (fun c6 => ?_)
  · refine go_aload kk185_0.1.1.2.2.1 rfl ?_
    refine go_getR (bI := 0) kk185_0.1.1.2.2.2 e4 hK0 (by decide) rfl rfl (fun r7 => ?_)
    refine go_int kk185_0.1.2.1.1.1 3 rfl ?_
    refine go_ck (fun q9 => ?_)
    refine go_iald kk185_0.1.2.1.1.2 e4 q9 (fun r8 => ?_)
    refine go_istore kk185_0.1.2.1.2.1 rfl (loc2 := [some (sR v0), some (sI v1), some (sI v2), some (sI (g3 (g3 v0 0) 3)), none, none]) rfl ?_
    refine go_aload kk185_0.1.2.1.2.2 rfl ?_
    refine go_callN0 kk185_0.1.2.2.1.1 rfl rfl rfl ⟨by decide, _, rfl, hK0⟩ ⟨Nat.zero_le _, Nat.zero_le _⟩ (by omega) (tfM_begins (by omega) e4 hK0 ) (fun y10 g12 e13 => ?_)
    refine go_aload kk185_0.1.2.2.1.2 rfl ?_
    refine go_iload kk185_0.1.2.2.2.1 rfl ?_
    refine go_iload kk185_0.1.2.2.2.2 rfl ?_
    refine go_callN1 kk185_0.2.1.1.1.1.1 rfl rfl rfl ⟨by decide, _, rfl, hK0⟩ ⟨Nat.zero_le _, Nat.zero_le _⟩ (by omega) (tfM_kills (by omega) e13 hK0  h1 h2) (fun y14 g16 r15 e17 => ?_)
    refine go_istore kk185_0.2.1.1.1.1.2 rfl (loc2 := [some (sR v0), some (sI v1), some (sI v2), some (sI (g3 (g3 v0 0) 3)), some (sI y14), none]) rfl ?_
    refine go_iload kk185_0.2.1.1.1.2 rfl ?_
    refine go_iflt kk185_0.2.1.1.2.1 r15 (fun c18 => ?_) (fun c19 => ?_)
    · refine go_int kk185_0.2.1.1.2.2 (-1) rfl ?_
      refine go_goto kk185_0.2.1.2.1.1 ?_
      refine go_istore kk185_0.2.2.1.2.2 rfl (loc2 := [some (sR v0), some (sI v1), some (sI v2), some (sI (g3 (g3 v0 0) 3)), some (sI y14), some (sI (-1))]) rfl ?_
      refine go_aload kk185_0.2.2.2.1.1 rfl ?_
      refine go_callN0 kk185_0.2.2.2.1.2 rfl rfl rfl ⟨by decide, _, rfl, hK0⟩ ⟨Nat.zero_le _, Nat.zero_le _⟩ (by omega) (tfM_ends (by omega) e17 hK0 ) (fun y20 g22 e23 => ?_)
      refine go_iload kk185_0.2.2.2.2.1 rfl ?_
      exact go_iret kk185_0.2.2.2.2.2 e23 (inR_of (by decide)) ⟨Nat.zero_le _, Nat.zero_le _⟩ rfl
    · refine go_aload kk185_0.2.1.2.1.2 rfl ?_
      refine go_getR (bI := 0) kk185_0.2.1.2.2.1 e17 hK0 (by decide) rfl rfl (fun r24 => ?_)
      refine go_int kk185_0.2.1.2.2.2 3 rfl ?_
      refine go_ck (fun q26 => ?_)
      refine go_iald kk185_0.2.2.1.1.1 e17 q26 (fun r25 => ?_)
      refine go_iload kk185_0.2.2.1.1.2 rfl ?_
      refine go_isub kk185_0.2.2.1.2.1 ?_
      refine go_istore kk185_0.2.2.1.2.2 rfl (loc2 := [some (sR v0), some (sI v1), some (sI v2), some (sI (g3 (g3 v0 0) 3)), some (sI y14), some (sI (w32 ((g16 (g16 v0 0) 3) - (g3 (g3 v0 0) 3))))]) rfl ?_
      refine go_aload kk185_0.2.2.2.1.1 rfl ?_
      refine go_callN0 kk185_0.2.2.2.1.2 rfl rfl rfl ⟨by decide, _, rfl, hK0⟩ ⟨Nat.zero_le _, Nat.zero_le _⟩ (by omega) (tfM_ends (by omega) e17 hK0 ) (fun y27 g29 e30 => ?_)
      refine go_iload kk185_0.2.2.2.2.1 rfl ?_
      exact go_iret kk185_0.2.2.2.2.2 e30 (inR_w32 _) ⟨Nat.zero_le _, Nat.zero_le _⟩ rfl
  · refine go_int kk185_0.1.1.2.1.1 0 rfl ?_
    exact go_iret kk185_0.1.1.2.1.2 e4 (inR_b (Or.inl rfl)) ⟨Nat.zero_le _, Nat.zero_le _⟩ rfl
theorem tfM_wouldRun {Φ : ev_P} {d : Nat} (hd : 9 ≤ d) {g : gH} (hg : HR g) {v0 v1 v2 : Int} (hK0 : kd v0 = 7) (h1 : InR v1) (h2 : InR v2) : Go Φ pr_P fN 1 (fM_wouldRun g v0 v1 v2) d (pr_P 186) 0 (ev_loc (pr_P 186).1 [(sR v0), (sI v1), (sI v2)]) [] g 0 0 := by
  show Go Φ pr_P fN 1 (fM_wouldRun g v0 v1 v2) d pr_m186 0 [some (sR v0), some (sI v1), some (sI v2), none, none] [] g 0 0
  unfold fM_wouldRun
  refine go_aload kk186_0.1.1.1.1.1 rfl ?_
  refine go_iload kk186_0.1.1.1.1.2 rfl ?_
  refine go_iload kk186_0.1.1.1.2.1 rfl ?_
  refine go_callN3 kk186_0.1.1.1.2.2 rfl rfl rfl ⟨by decide, _, rfl, hK0⟩ ⟨Nat.zero_le _, Nat.zero_le _⟩ (by omega) (tfM_noKill (by omega) hg hK0  h1 h2) (fun y1 g3 r2 e4 => ?_)
  refine go_ifeq kk186_0.1.1.2.1.1 (inR_b r2) (fun c5 => ?_) (fun c6 => ?_)
  · refine go_aload kk186_0.1.2.1.1.1 rfl ?_
    refine go_callN0 kk186_0.1.2.1.1.2 rfl rfl rfl ⟨by decide, _, rfl, hK0⟩ ⟨Nat.zero_le _, Nat.zero_le _⟩ (by omega) (tfM_begins (by omega) e4 hK0 ) (fun y7 g9 e10 => ?_)
    refine go_aload kk186_0.1.2.1.2 rfl ?_
    refine go_iload kk186_0.1.2.2.1.1 rfl ?_
    refine go_iload kk186_0.1.2.2.1.2 rfl ?_
    refine go_callN1 kk186_0.1.2.2.2 rfl rfl rfl ⟨by decide, _, rfl, hK0⟩ ⟨Nat.zero_le _, Nat.zero_le _⟩ (by omega) (tfM_kills (by omega) e10 hK0  h1 h2) (fun y11 g13 r12 e14 => ?_)
    refine go_istore kk186_0.2.1.1.1.1 rfl (loc2 := [some (sR v0), some (sI v1), some (sI v2), some (sI y11), none]) rfl ?_
    refine go_iload kk186_0.2.1.1.1.2 rfl ?_
    refine go_iflt kk186_0.2.1.1.2 r12 (fun c15 => ?_) (fun c16 => ?_)
    · refine go_int kk186_0.2.1.2.1.1 (-1) rfl ?_
      refine go_goto kk186_0.2.1.2.1.2 ?_
      refine go_istore kk186_0.2.2.1.1.2 rfl (loc2 := [some (sR v0), some (sI v1), some (sI v2), some (sI y11), some (sI (-1))]) rfl ?_
      refine go_aload kk186_0.2.2.1.2 rfl ?_
      refine go_callN0 kk186_0.2.2.2.1.1 rfl rfl rfl ⟨by decide, _, rfl, hK0⟩ ⟨Nat.zero_le _, Nat.zero_le _⟩ (by omega) (tfM_ends (by omega) e14 hK0 ) (fun y17 g19 e20 => ?_)
      refine go_iload kk186_0.2.2.2.1.2 rfl ?_
      exact go_iret kk186_0.2.2.2.2 e20 (inR_of (by decide)) ⟨Nat.zero_le _, Nat.zero_le _⟩ rfl
    · refine go_aload kk186_0.2.1.2.2 rfl ?_
      refine go_callP1 kk186_0.2.2.1.1.1 rfl rfl rfl ⟨by decide, _, rfl, hK0⟩ ⟨Nat.zero_le _, Nat.zero_le _⟩ (by omega) (tfM_runningMany (by omega) e14 hK0 ) (fun y21 r22 => ?_)
      refine go_istore kk186_0.2.2.1.1.2 rfl (loc2 := [some (sR v0), some (sI v1), some (sI v2), some (sI y11), some (sI y21)]) rfl ?_
      refine go_aload kk186_0.2.2.1.2 rfl ?_
      refine go_callN0 kk186_0.2.2.2.1.1 rfl rfl rfl ⟨by decide, _, rfl, hK0⟩ ⟨Nat.zero_le _, Nat.zero_le _⟩ (by omega) (tfM_ends (by omega) e14 hK0 ) (fun y25 g27 e28 => ?_)
      refine go_iload kk186_0.2.2.2.1.2 rfl ?_
      exact go_iret kk186_0.2.2.2.2 e28 r22 ⟨Nat.zero_le _, Nat.zero_le _⟩ rfl
  · refine go_int kk186_0.1.1.2.1.2 0 rfl ?_
    exact go_iret kk186_0.1.1.2.2 e4 (inR_b (Or.inl rfl)) ⟨Nat.zero_le _, Nat.zero_le _⟩ rfl
theorem tjM_weakest_69 {Φ : ev_P} {d : Nat} (hd : 9 ≤ d) {X38 : Int → Int → Int → gH → Option (Int × gH)} {g : gH} (hg : HR g) {v0 v1 v2 v3 v4 : Int} (hK0 : kd v0 = 7) (h1 : InR v1) (h2 : InR v2) (h3 : InR v3) (h4 : InR v4) {s0 : Int} (z0 : InR s0) (HX38 : ∀ (v2 : Int) (h2 : InR v2) (v3 : Int) (h3 : InR v3) (v4 : Int) (h4 : InR v4) (g : gH) (hg : HR g) (u5 : Option ev_V) (w5 : nwo u5), Go Φ pr_P fN 1 (X38 v2 v3 v4 g) d pr_m187 38 [some (sR v0), some (sI v1), some (sI v2), some (sI v3), some (sI v4), u5] [] g 0 0) (u5 : Option ev_V) (w5 : nwo u5) : Go Φ pr_P fN 1 (jM_weakest_69 X38 g v0 v1 v2 v3 v4 s0 ) d pr_m187 69 [some (sR v0), some (sI v1), some (sI v2), some (sI v3), some (sI v4), u5] [(sI s0)] g 0 0 := by
  unfold jM_weakest_69
  refine go_istore kk187_0.2.1.2.2.2 rfl (loc2 := [some (sR v0), some (sI v1), some (sI v2), some (sI v3), some (sI v4), some (sI s0)]) rfl ?_
  refine go_iload kk187_0.2.2.1.1.1.1 rfl ?_
  refine go_iload kk187_0.2.2.1.1.1.2 rfl ?_
  refine go_cmgt kk187_0.2.2.1.1.2.1 z0 h3 (fun c31 => ?_) (fun c32 => ?_)
  · refine go_iload kk187_0.2.2.1.1.2.2 rfl ?_
    refine go_istore kk187_0.2.2.1.2.1.1 rfl (loc2 := [some (sR v0), some (sI v1), some (sI v4), some (sI v3), some (sI v4), some (sI s0)]) rfl ?_
    refine go_iload kk187_0.2.2.1.2.1.2 rfl ?_
    refine go_iload kk187_0.2.2.1.2.2 rfl ?_
    refine go_max kk187_0.2.2.2.1.1.1 h3 z0 rfl ⟨Nat.zero_le _, Nat.zero_le _⟩ ?_
    refine go_istore kk187_0.2.2.2.1.1.2 rfl (loc2 := [some (sR v0), some (sI v1), some (sI v4), some (sI (gmax v3 s0)), some (sI v4), some (sI s0)]) rfl ?_
    refine go_iinc kk187_0.2.2.2.1.2 rfl rfl 1 rfl (loc2 := [some (sR v0), some (sI v1), some (sI v4), some (sI (gmax v3 s0)), some (sI (w32 (v4 + 1))), some (sI s0)]) rfl ?_
    refine go_goto kk187_0.2.2.2.2.1.1 ?_
    exact HX38 v4 h4 (gmax v3 s0) (inR_gmax h3 z0) (w32 (v4 + 1)) (inR_w32 _) g hg (some (sI s0)) rfl
  · refine go_iload kk187_0.2.2.1.2.1.2 rfl ?_
    refine go_iload kk187_0.2.2.1.2.2 rfl ?_
    refine go_max kk187_0.2.2.2.1.1.1 h3 z0 rfl ⟨Nat.zero_le _, Nat.zero_le _⟩ ?_
    refine go_istore kk187_0.2.2.2.1.1.2 rfl (loc2 := [some (sR v0), some (sI v1), some (sI v2), some (sI (gmax v3 s0)), some (sI v4), some (sI s0)]) rfl ?_
    refine go_iinc kk187_0.2.2.2.1.2 rfl rfl 1 rfl (loc2 := [some (sR v0), some (sI v1), some (sI v2), some (sI (gmax v3 s0)), some (sI (w32 (v4 + 1))), some (sI s0)]) rfl ?_
    refine go_goto kk187_0.2.2.2.2.1.1 ?_
    exact HX38 v2 h2 (gmax v3 s0) (inR_gmax h3 z0) (w32 (v4 + 1)) (inR_w32 _) g hg (some (sI s0)) rfl
theorem tbM_weakest_38 {Φ : ev_P} {d : Nat} (hd : 9 ≤ d) {v0 v1 : Int} (hK0 : kd v0 = 7) (h1 : InR v1) {X38 : Int → Int → Int → gH → Option (Int × gH)} (HX38 : ∀ (v2 : Int) (h2 : InR v2) (v3 : Int) (h3 : InR v3) (v4 : Int) (h4 : InR v4) (g : gH) (hg : HR g) (u5 : Option ev_V) (w5 : nwo u5), Go Φ pr_P fN 1 (X38 v2 v3 v4 g) d pr_m187 38 [some (sR v0), some (sI v1), some (sI v2), some (sI v3), some (sI v4), u5] [] g 0 0) : ∀ (v2 : Int) (h2 : InR v2) (v3 : Int) (h3 : InR v3) (v4 : Int) (h4 : InR v4) (g : gH) (hg : HR g) (u5 : Option ev_V) (w5 : nwo u5), Go Φ pr_P fN 1 (bM_weakest_38 v0 v1 X38 v2 v3 v4 g) d pr_m187 38 [some (sR v0), some (sI v1), some (sI v2), some (sI v3), some (sI v4), u5] [] g 0 0 := by
  intro v2 h2 v3 h3 v4 h4 g hg u5 w5
  unfold bM_weakest_38
  refine go_iload kk187_0.1.2.2.1.2 rfl ?_
  refine go_aload kk187_0.1.2.2.2.1.1 rfl ?_
  refine go_getR (bI := 0) kk187_0.1.2.2.2.1.2 hg hK0 (by decide) rfl rfl (fun r16 => ?_)
  refine go_int kk187_0.1.2.2.2.2 0 rfl ?_
  refine go_ck (fun q18 => ?_)
  refine go_iald kk187_0.2.1.1.1.1.1 hg q18 (fun r17 => ?_)
  refine go_cmlt kk187_0.2.1.1.1.1.2 h4 r17 (fun c19 => ?_) (fun c20 => ?_)
  · refine go_aload kk187_0.2.1.1.1.2.1 rfl ?_
    refine go_iload kk187_0.2.1.1.1.2.2 rfl ?_
    refine go_callP3 kk187_0.2.1.1.2.1.1 rfl rfl rfl ⟨by decide, _, rfl, hK0⟩ ⟨Nat.zero_le _, Nat.zero_le _⟩ (by omega) (tfM_runs (by omega) hg hK0  h4) (fun y21 r22 => ?_)
    refine go_ifeq kk187_0.2.1.1.2.1.2 (inR_b r22) (fun c25 => ?_) (fun c26 => ?_)
    · refine go_int kk187_0.2.1.2.2.1.2 (-1) rfl ?_
      exact tjM_weakest_69 hd hg hK0 h1 h2 h3 h4 (inR_of (by decide)) HX38 u5 w5
    · refine go_aload kk187_0.2.1.1.2.2 rfl ?_
      refine go_iload kk187_0.2.1.2.1.1.1 rfl ?_
      refine go_iload kk187_0.2.1.2.1.1.2 rfl ?_
      refine go_callN1 kk187_0.2.1.2.1.2 rfl rfl rfl ⟨by decide, _, rfl, hK0⟩ ⟨Nat.zero_le _, Nat.zero_le _⟩ (by omega) (tfM_fallsBy (by omega) hg hK0  h4 h1) (fun y27 g29 r28 e30 => ?_)
      refine go_goto kk187_0.2.1.2.2.1.1 ?_
      exact tjM_weakest_69 hd e30 hK0 h1 h2 h3 h4 r28 HX38 u5 w5
  · refine go_iload kk187_0.2.2.2.2.1.2 rfl ?_
    exact go_iret kk187_0.2.2.2.2.2 hg h2 ⟨Nat.zero_le _, Nat.zero_le _⟩ rfl
theorem tlM_weakest_38 {Φ : ev_P} {d : Nat} (hd : 9 ≤ d) {v0 v1 : Int} (hK0 : kd v0 = 7) (h1 : InR v1) : ∀ n : Nat, ∀ (v2 : Int) (h2 : InR v2) (v3 : Int) (h3 : InR v3) (v4 : Int) (h4 : InR v4) (g : gH) (hg : HR g) (u5 : Option ev_V) (w5 : nwo u5), Go Φ pr_P fN 1 (lM_weakest_38 v0 v1 n v2 v3 v4 g) d pr_m187 38 [some (sR v0), some (sI v1), some (sI v2), some (sI v3), some (sI v4), u5] [] g 0 0 := by
  intro n
  induction n with
  | zero => intros; exact go_none
  | succ n ih => exact tbM_weakest_38 hd hK0 h1 ih
theorem tjM_weakest_22 {Φ : ev_P} {d : Nat} (hd : 9 ≤ d) {g : gH} (hg : HR g) {v0 v1 : Int} (hK0 : kd v0 = 7) (h1 : InR v1) {s0 s1 : Int} (z0 : RfR s0) (z1 : B01 s1) (u2 : Option ev_V) (w2 : nwo u2) (u3 : Option ev_V) (w3 : nwo u3) (u4 : Option ev_V) (w4 : nwo u4) (u5 : Option ev_V) (w5 : nwo u5) : Go Φ pr_P fN 1 (jM_weakest_22 g v0 v1 s0 s1 ) d pr_m187 22 [some (sR v0), some (sI v1), u2, u3, u4, u5] [(sI s1), (sR s0)] g 0 0 := by
  unfold jM_weakest_22
  refine go_int kk187_0.1.1.2.2.1.2 1 rfl ?_
  refine go_ck (fun q9 => ?_)
  refine go_callN3 kk187_0.1.1.2.2.2 rfl rfl rfl ⟨by decide, _, rfl, q9⟩ ⟨Nat.zero_le _, Nat.zero_le _⟩ (by omega) (tfM_fails (by omega) hg q9  z1 (inR_b (Or.inr rfl))) (fun y10 g12 r11 e13 => ?_)
  refine go_ifeq kk187_0.1.2.1.1.1.1 (inR_b r11) (fun c14 => ?_) (fun c15 => ?_)
  · refine go_int kk187_0.1.2.1.1.2.2 (-1) rfl ?_
    refine go_istore kk187_0.1.2.1.2.1.1 rfl (loc2 := [some (sR v0), some (sI v1), some (sI (-1)), u3, u4, u5]) rfl ?_
    refine go_int kk187_0.1.2.1.2.1.2 (-1) rfl ?_
    refine go_istore kk187_0.1.2.1.2.2 rfl (loc2 := [some (sR v0), some (sI v1), some (sI (-1)), some (sI (-1)), u4, u5]) rfl ?_
    refine go_int kk187_0.1.2.2.1.1.1 1 rfl ?_
    refine go_istore kk187_0.1.2.2.1.1.2 rfl (loc2 := [some (sR v0), some (sI v1), some (sI (-1)), some (sI (-1)), some (sI 1), u5]) rfl ?_
    exact tlM_weakest_38 hd hK0 h1 fu (-1) (inR_of (by decide)) (-1) (inR_of (by decide)) 1 (inR_b (Or.inr rfl)) g12 e13 u5 w5
  · refine go_int kk187_0.1.2.1.1.1.2 0 rfl ?_
    exact go_iret kk187_0.1.2.1.1.2.1 e13 (inR_b (Or.inl rfl)) ⟨Nat.zero_le _, Nat.zero_le _⟩ rfl
theorem tfM_weakest {Φ : ev_P} {d : Nat} (hd : 9 ≤ d) {g : gH} (hg : HR g) {v0 v1 : Int} (hK0 : kd v0 = 7) (h1 : InR v1) : Go Φ pr_P fN 1 (fM_weakest g v0 v1) d (pr_P 187) 0 (ev_loc (pr_P 187).1 [(sR v0), (sI v1)]) [] g 0 0 := by
  show Go Φ pr_P fN 1 (fM_weakest g v0 v1) d pr_m187 0 [some (sR v0), some (sI v1), none, none, none, none] [] g 0 0
  unfold fM_weakest
  refine go_aload kk187_0.1.1.1.1.1.1 rfl ?_
  refine go_int kk187_0.1.1.1.1.1.2 0 rfl ?_
  refine go_putI (bI := 8) kk187_0.1.1.1.1.2.1 hg hK0 (by decide) rfl rfl (inR_b (Or.inl rfl)) (fun g1 e2 => ?_)
  refine go_aload kk187_0.1.1.1.1.2.2 rfl ?_
  refine go_iload kk187_0.1.1.1.2.1.1 rfl ?_
  refine go_int kk187_0.1.1.1.2.1.2 0 rfl ?_
  refine go_int kk187_0.1.1.1.2.2 255 rfl ?_
  refine go_callP3 kk187_0.1.1.2.1.1.1 rfl rfl rfl trivial ⟨Nat.zero_le _, Nat.zero_le _⟩ (by omega) (tfM_inRange (by omega) e2  h1 (inR_b (Or.inl rfl)) (inR_of (by decide))) (fun y3 r4 => ?_)
  refine go_ifeq kk187_0.1.1.2.1.1.2 (inR_b r4) (fun c7 => ?_) (fun c8 => ?_)
  · refine go_int kk187_0.1.1.2.1.2.1 1 rfl ?_
    refine go_goto kk187_0.1.1.2.1.2.2 ?_
    exact tjM_weakest_22 hd e2 hK0 h1 (rfR_kd hK0 (by decide)) (Or.inr rfl) none rfl none rfl none rfl none rfl
  · refine go_int kk187_0.1.1.2.2.1.1 0 rfl ?_
    exact tjM_weakest_22 hd e2 hK0 h1 (rfR_kd hK0 (by decide)) (Or.inl rfl) none rfl none rfl none rfl none rfl
theorem tfM_betterCode {Φ : ev_P} {d : Nat} (hd : 9 ≤ d) {g : gH} (hg : HR g) {v0 v1 : Int} (hK0 : kd v0 = 7) (h1 : InR v1) : Go Φ pr_P fN 1 (fM_betterCode g v0 v1) d (pr_P 188) 0 (ev_loc (pr_P 188).1 [(sR v0), (sI v1)]) [] g 0 0 := by
  show Go Φ pr_P fN 1 (fM_betterCode g v0 v1) d pr_m188 0 [some (sR v0), some (sI v1)] [] g 0 0
  unfold fM_betterCode
  refine go_aload kk188_0.1.1.1.1.1 rfl ?_
  refine go_iload kk188_0.1.1.1.1.2 rfl ?_
  refine go_int kk188_0.1.1.1.2 2 rfl ?_
  refine go_callN3 kk188_0.1.1.2.1 rfl rfl rfl ⟨by decide, _, rfl, hK0⟩ ⟨Nat.zero_le _, Nat.zero_le _⟩ (by omega) (tfM_notExiting (by omega) hg hK0  h1 (inR_of (by decide))) (fun y1 g3 r2 e4 => ?_)
  refine go_ifeq kk188_0.1.1.2.2 (inR_b r2) (fun c5 => ?_) (fun c6 => ?_)
  · refine go_aload kk188_0.1.2.1.2 rfl ?_
    refine go_iload kk188_0.1.2.2.1 rfl ?_
    refine go_int kk188_0.1.2.2.2 1 rfl ?_
    refine go_callN1 kk188_0.2.1.1.1.1 rfl rfl rfl ⟨by decide, _, rfl, hK0⟩ ⟨Nat.zero_le _, Nat.zero_le _⟩ (by omega) (tfM_fallsBy (by omega) e4 hK0  h1 (inR_b (Or.inr rfl))) (fun y7 g9 r8 e10 => ?_)
    refine go_aload kk188_0.2.1.1.1.2 rfl ?_
    refine go_iload kk188_0.2.1.1.2 rfl ?_
    refine go_int kk188_0.2.1.2.1 0 rfl ?_
    refine go_callN1 kk188_0.2.1.2.2 rfl rfl rfl ⟨by decide, _, rfl, hK0⟩ ⟨Nat.zero_le _, Nat.zero_le _⟩ (by omega) (tfM_fallsBy (by omega) e10 hK0  h1 (inR_b (Or.inl rfl))) (fun y11 g13 r12 e14 => ?_)
    refine go_cmlt kk188_0.2.2.1.1.1 r8 r12 (fun c15 => ?_) (fun c16 => ?_)
    · refine go_int kk188_0.2.2.1.1.2 1 rfl ?_
      refine go_goto kk188_0.2.2.1.2 ?_
      exact go_iret kk188_0.2.2.2.2 e14 (inR_b (Or.inr rfl)) ⟨Nat.zero_le _, Nat.zero_le _⟩ rfl
    · refine go_int kk188_0.2.2.2.1 0 rfl ?_
      exact go_iret kk188_0.2.2.2.2 e14 (inR_b (Or.inl rfl)) ⟨Nat.zero_le _, Nat.zero_le _⟩ rfl
  · refine go_int kk188_0.1.2.1.1.1 0 rfl ?_
    refine go_goto kk188_0.1.2.1.1.2 ?_
    exact go_iret kk188_0.2.2.2.2 e4 (inR_b (Or.inl rfl)) ⟨Nat.zero_le _, Nat.zero_le _⟩ rfl
theorem tbM_dutyLife_22 {Φ : ev_P} {d : Nat} (hd : 8 ≤ d) {v0 v1 : Int} (hK0 : kd v0 = 7) (h1 : InR v1) {X22 : Int → gH → Option (Int × gH)} (HX22 : ∀ (v2 : Int) (h2 : InR v2) (g : gH) (hg : HR g) (u3 : Option ev_V) (w3 : nwo u3), Go Φ pr_P fN 1 (X22 v2 g) d pr_m189 22 [some (sR v0), some (sI v1), some (sI v2), u3] [] g 0 0) : ∀ (v2 : Int) (h2 : InR v2) (g : gH) (hg : HR g) (u3 : Option ev_V) (w3 : nwo u3), Go Φ pr_P fN 1 (bM_dutyLife_22 v0 v1 X22 v2 g) d pr_m189 22 [some (sR v0), some (sI v1), some (sI v2), u3] [] g 0 0 := by
  intro v2 h2 g hg u3 w3
  unfold bM_dutyLife_22
  refine go_aload kk189_0.1.2.1.2.1.1 rfl ?_
  refine go_getR (bI := 0) kk189_0.1.2.1.2.1.2 hg hK0 (by decide) rfl rfl (fun r13 => ?_)
  refine go_int kk189_0.1.2.1.2.2 11 rfl ?_
  refine go_iload kk189_0.1.2.2.1.1.1 rfl ?_
  refine go_iadd kk189_0.1.2.2.1.1.2 ?_
  refine go_ck (fun q15 => ?_)
  refine go_iald kk189_0.1.2.2.1.2 hg q15 (fun r14 => ?_)
  refine go_ifeq kk189_0.1.2.2.2.1 r14 (fun c16 => ?_) (fun c17 => ?_)
  · refine go_aload kk189_0.2.2.2.1.1.2 rfl ?_
    refine go_callN0 kk189_0.2.2.2.1.2 rfl rfl rfl ⟨by decide, _, rfl, hK0⟩ ⟨Nat.zero_le _, Nat.zero_le _⟩ (by omega) (tfM_ends (by omega) hg hK0 ) (fun y18 g20 e21 => ?_)
    refine go_iload kk189_0.2.2.2.2.1 rfl ?_
    exact go_iret kk189_0.2.2.2.2.2 e21 h2 ⟨Nat.zero_le _, Nat.zero_le _⟩ rfl
  · refine go_aload kk189_0.1.2.2.2.2 rfl ?_
    refine go_aload kk189_0.2.1.1.1.1.1 rfl ?_
    refine go_getR (bI := 0) kk189_0.2.1.1.1.1.2 hg hK0 (by decide) rfl rfl (fun r22 => ?_)
    refine go_int kk189_0.2.1.1.1.2 11 rfl ?_
    refine go_iload kk189_0.2.1.1.2.1.1 rfl ?_
    refine go_iadd kk189_0.2.1.1.2.1.2 ?_
    refine go_ck (fun q24 => ?_)
    refine go_iald kk189_0.2.1.1.2.2 hg q24 (fun r23 => ?_)
    refine go_int kk189_0.2.1.2.1.1.1 0 rfl ?_
    refine go_callN1 kk189_0.2.1.2.1.1.2 rfl rfl rfl ⟨by decide, _, rfl, hK0⟩ ⟨Nat.zero_le _, Nat.zero_le _⟩ (by omega) (tfM_exits (by omega) hg hK0  r23 (inR_b (Or.inl rfl))) (fun y25 g27 r26 e28 => ?_)
    refine go_istore kk189_0.2.1.2.1.2 rfl (loc2 := [some (sR v0), some (sI v1), some (sI v2), some (sI y25)]) rfl ?_
    refine go_iload kk189_0.2.1.2.2.1 rfl ?_
    refine go_iload kk189_0.2.1.2.2.2 rfl ?_
    refine go_iflt kk189_0.2.2.1.1.1.1 r26 (fun c29 => ?_) (fun c30 => ?_)
    · refine go_int kk189_0.2.2.1.1.1.2 0 rfl ?_
      refine go_goto kk189_0.2.2.1.1.2 ?_
      refine go_iadd kk189_0.2.2.1.2.1.2 ?_
      refine go_istore kk189_0.2.2.1.2.2 rfl (loc2 := [some (sR v0), some (sI v1), some (sI (w32 (v2 + 0))), some (sI y25)]) rfl ?_
      refine go_goto kk189_0.2.2.2.1.1.1 ?_
      exact HX22 (w32 (v2 + 0)) (inR_w32 _) g27 e28 (some (sI y25)) rfl
    · refine go_int kk189_0.2.2.1.2.1.1 1 rfl ?_
      refine go_iadd kk189_0.2.2.1.2.1.2 ?_
      refine go_istore kk189_0.2.2.1.2.2 rfl (loc2 := [some (sR v0), some (sI v1), some (sI (w32 (v2 + 1))), some (sI y25)]) rfl ?_
      refine go_goto kk189_0.2.2.2.1.1.1 ?_
      exact HX22 (w32 (v2 + 1)) (inR_w32 _) g27 e28 (some (sI y25)) rfl
theorem tlM_dutyLife_22 {Φ : ev_P} {d : Nat} (hd : 8 ≤ d) {v0 v1 : Int} (hK0 : kd v0 = 7) (h1 : InR v1) : ∀ n : Nat, ∀ (v2 : Int) (h2 : InR v2) (g : gH) (hg : HR g) (u3 : Option ev_V) (w3 : nwo u3), Go Φ pr_P fN 1 (lM_dutyLife_22 v0 v1 n v2 g) d pr_m189 22 [some (sR v0), some (sI v1), some (sI v2), u3] [] g 0 0 := by
  intro n
  induction n with
  | zero => intros; exact go_none
  | succ n ih => exact tbM_dutyLife_22 hd hK0 h1 ih
theorem tfM_dutyLife {Φ : ev_P} {d : Nat} (hd : 8 ≤ d) {g : gH} (hg : HR g) {v0 v1 : Int} (hK0 : kd v0 = 7) (h1 : InR v1) : Go Φ pr_P fN 1 (fM_dutyLife g v0 v1) d (pr_P 189) 0 (ev_loc (pr_P 189).1 [(sR v0), (sI v1)]) [] g 0 0 := by
  show Go Φ pr_P fN 1 (fM_dutyLife g v0 v1) d pr_m189 0 [some (sR v0), some (sI v1), none, none] [] g 0 0
  unfold fM_dutyLife
  refine go_aload kk189_0.1.1.1.1.1.1 rfl ?_
  refine go_int kk189_0.1.1.1.1.1.2 0 rfl ?_
  refine go_putI (bI := 8) kk189_0.1.1.1.1.2 hg hK0 (by decide) rfl rfl (inR_b (Or.inl rfl)) (fun g1 e2 => ?_)
  refine go_aload kk189_0.1.1.1.2.1.1 rfl ?_
  refine go_iload kk189_0.1.1.1.2.1.2 rfl ?_
  refine go_int kk189_0.1.1.1.2.2 1 rfl ?_
  refine go_callN3 kk189_0.1.1.2.1.1.1 rfl rfl rfl ⟨by decide, _, rfl, hK0⟩ ⟨Nat.zero_le _, Nat.zero_le _⟩ (by omega) (tfM_noDuty (by omega) e2 hK0  h1 (inR_b (Or.inr rfl))) (fun y3 g5 r4 e6 => ?_)
  refine go_ifeq kk189_0.1.1.2.1.1.2 (inR_b r4) (fun c7 => ?_) (fun c8 => ?_)
  · refine go_aload kk189_0.1.1.2.2.2 rfl ?_
    refine go_callN0 kk189_0.1.2.1.1.1.1 rfl rfl rfl ⟨by decide, _, rfl, hK0⟩ ⟨Nat.zero_le _, Nat.zero_le _⟩ (by omega) (tfM_begins (by omega) e6 hK0 ) (fun y9 g11 e12 => ?_)
    refine go_int kk189_0.1.2.1.1.1.2 0 rfl ?_
    refine go_istore kk189_0.1.2.1.1.2 rfl (loc2 := [some (sR v0), some (sI v1), some (sI 0), none]) rfl ?_
    exact tlM_dutyLife_22 hd hK0 h1 fu 0 (inR_b (Or.inl rfl)) g11 e12 none rfl
  · refine go_int kk189_0.1.1.2.1.2 0 rfl ?_
    exact go_iret kk189_0.1.1.2.2.1 e6 (inR_b (Or.inl rfl)) ⟨Nat.zero_le _, Nat.zero_le _⟩ rfl
theorem tbM_roomiest_31 {Φ : ev_P} {d : Nat} (hd : 3 ≤ d) {g : gH} (hg : HR g) {v0 v1 : Int} (hK0 : kd v0 = 7) (h1 : InR v1) {X31 : Int → Int → Option (Int × gH)} (HX31 : ∀ (v2 : Int) (h2 : InR v2) (v3 : Int) (h3 : InR v3), Go Φ pr_P fN 1 (X31 v2 v3) d pr_m190 31 [some (sR v0), some (sI v1), some (sI v2), some (sI v3)] [] g 0 0) : ∀ (v2 : Int) (h2 : InR v2) (v3 : Int) (h3 : InR v3), Go Φ pr_P fN 1 (bM_roomiest_31 g v0 v1 X31 v2 v3) d pr_m190 31 [some (sR v0), some (sI v1), some (sI v2), some (sI v3)] [] g 0 0 := by
  intro v2 h2 v3 h3
  unfold bM_roomiest_31
  refine go_iload kk190_0.1.2.1.2.2 rfl ?_
  refine go_aload kk190_0.1.2.2.1.1.1 rfl ?_
  refine go_getR (bI := 0) kk190_0.1.2.2.1.1.2 hg hK0 (by decide) rfl rfl (fun r16 => ?_)
  refine go_int kk190_0.1.2.2.1.2 0 rfl ?_
  refine go_ck (fun q18 => ?_)
  refine go_iald kk190_0.1.2.2.2.1.1 hg q18 (fun r17 => ?_)
  refine go_cmlt kk190_0.1.2.2.2.1.2 h3 r17 (fun c19 => ?_) (fun c20 => ?_)
  · refine go_aload kk190_0.1.2.2.2.2 rfl ?_
    refine go_iload kk190_0.2.1.1.1.1.1 rfl ?_
    refine go_callP1 kk190_0.2.1.1.1.1.2 rfl rfl rfl ⟨by decide, _, rfl, hK0⟩ ⟨Nat.zero_le _, Nat.zero_le _⟩ (by omega) (tfM_roomOf (by omega) hg hK0  h3) (fun y21 r22 => ?_)
    refine go_ifeq kk190_0.2.1.1.1.2.1 r22 (fun c25 => ?_) (fun c26 => ?_)
    · refine go_iinc kk190_0.2.2.2.1.2 rfl rfl 1 rfl (loc2 := [some (sR v0), some (sI v1), some (sI v2), some (sI (w32 (v3 + 1)))]) rfl ?_
      refine go_goto kk190_0.2.2.2.2.1.1 ?_
      exact HX31 v2 h2 (w32 (v3 + 1)) (inR_w32 _)
    · refine go_aload kk190_0.2.1.1.1.2.2 rfl ?_
      refine go_iload kk190_0.2.1.1.2.1.1 rfl ?_
      refine go_iload kk190_0.2.1.1.2.1.2 rfl ?_
      refine go_callP3 kk190_0.2.1.1.2.2 rfl rfl rfl ⟨by decide, _, rfl, hK0⟩ ⟨Nat.zero_le _, Nat.zero_le _⟩ (by omega) (tfM_refusesGroup (by omega) hg hK0  h3 h1) (fun y27 r28 => ?_)
      refine go_ifeq kk190_0.2.1.2.1.1.1 (inR_b r28) (fun c31 => ?_) (fun c32 => ?_)
      · refine go_iload kk190_0.2.1.2.1.2 rfl ?_
        refine go_int kk190_0.2.1.2.2.1.1 (-1) rfl ?_
        refine go_cmeq kk190_0.2.1.2.2.1.2 h2 (inR_of (by decide)) (fun c33 => ?_) (fun c34 => ?_)
        · refine go_iload kk190_0.2.2.2.1.1.1 rfl ?_
          refine go_istore kk190_0.2.2.2.1.1.2 rfl (loc2 := [some (sR v0), some (sI v1), some (sI v3), some (sI v3)]) rfl ?_
          refine go_iinc kk190_0.2.2.2.1.2 rfl rfl 1 rfl (loc2 := [some (sR v0), some (sI v1), some (sI v3), some (sI (w32 (v3 + 1)))]) rfl ?_
          refine go_goto kk190_0.2.2.2.2.1.1 ?_
          exact HX31 v3 h3 (w32 (v3 + 1)) (inR_w32 _)
        · refine go_aload kk190_0.2.1.2.2.2 rfl ?_
          refine go_iload kk190_0.2.2.1.1.1.1 rfl ?_
          refine go_callP1 kk190_0.2.2.1.1.1.2 rfl rfl rfl ⟨by decide, _, rfl, hK0⟩ ⟨Nat.zero_le _, Nat.zero_le _⟩ (by omega) (tfM_roomOf (by omega) hg hK0  h3) (fun y35 r36 => ?_)
          refine go_aload kk190_0.2.2.1.1.2 rfl ?_
          refine go_iload kk190_0.2.2.1.2.1.1 rfl ?_
          refine go_callP1 kk190_0.2.2.1.2.1.2 rfl rfl rfl ⟨by decide, _, rfl, hK0⟩ ⟨Nat.zero_le _, Nat.zero_le _⟩ (by omega) (tfM_roomOf (by omega) hg hK0  h2) (fun y39 r40 => ?_)
          refine go_cmgt kk190_0.2.2.1.2.2 r36 r40 (fun c43 => ?_) (fun c44 => ?_)
          · refine go_iload kk190_0.2.2.2.1.1.1 rfl ?_
            refine go_istore kk190_0.2.2.2.1.1.2 rfl (loc2 := [some (sR v0), some (sI v1), some (sI v3), some (sI v3)]) rfl ?_
            refine go_iinc kk190_0.2.2.2.1.2 rfl rfl 1 rfl (loc2 := [some (sR v0), some (sI v1), some (sI v3), some (sI (w32 (v3 + 1)))]) rfl ?_
            refine go_goto kk190_0.2.2.2.2.1.1 ?_
            exact HX31 v3 h3 (w32 (v3 + 1)) (inR_w32 _)
          · refine go_iinc kk190_0.2.2.2.1.2 rfl rfl 1 rfl (loc2 := [some (sR v0), some (sI v1), some (sI v2), some (sI (w32 (v3 + 1)))]) rfl ?_
            refine go_goto kk190_0.2.2.2.2.1.1 ?_
            exact HX31 v2 h2 (w32 (v3 + 1)) (inR_w32 _)
      · refine go_goto kk190_0.2.1.2.1.1.2 ?_
        refine go_iinc kk190_0.2.2.2.1.2 rfl rfl 1 rfl (loc2 := [some (sR v0), some (sI v1), some (sI v2), some (sI (w32 (v3 + 1)))]) rfl ?_
        refine go_goto kk190_0.2.2.2.2.1.1 ?_
        exact HX31 v2 h2 (w32 (v3 + 1)) (inR_w32 _)
  · refine go_iload kk190_0.2.2.2.2.1.2 rfl ?_
    exact go_iret kk190_0.2.2.2.2.2 hg h2 ⟨Nat.zero_le _, Nat.zero_le _⟩ rfl
theorem tlM_roomiest_31 {Φ : ev_P} {d : Nat} (hd : 3 ≤ d) {g : gH} (hg : HR g) {v0 v1 : Int} (hK0 : kd v0 = 7) (h1 : InR v1) : ∀ n : Nat, ∀ (v2 : Int) (h2 : InR v2) (v3 : Int) (h3 : InR v3), Go Φ pr_P fN 1 (lM_roomiest_31 g v0 v1 n v2 v3) d pr_m190 31 [some (sR v0), some (sI v1), some (sI v2), some (sI v3)] [] g 0 0 := by
  intro n
  induction n with
  | zero => intros; exact go_none
  | succ n ih => exact tbM_roomiest_31 hd hg hK0 h1 ih
theorem tjM_roomiest_18 {Φ : ev_P} {d : Nat} (hd : 3 ≤ d) {g : gH} (hg : HR g) {v0 v1 : Int} (hK0 : kd v0 = 7) (h1 : InR v1) {s0 s1 : Int} (z0 : RfR s0) (z1 : B01 s1) (u2 : Option ev_V) (w2 : nwo u2) (u3 : Option ev_V) (w3 : nwo u3) : Go Φ pr_P fN 1 (jM_roomiest_18 g v0 v1 s0 s1 ) d pr_m190 18 [some (sR v0), some (sI v1), u2, u3] [(sI s1), (sR s0)] g 0 0 := by
  unfold jM_roomiest_18
  refine go_int kk190_0.1.1.2.2.1.1 1 rfl ?_
  refine go_ck (fun q9 => ?_)
  refine go_callN3 kk190_0.1.1.2.2.1.2 rfl rfl rfl ⟨by decide, _, rfl, q9⟩ ⟨Nat.zero_le _, Nat.zero_le _⟩ (by omega) (tfM_fails (by omega) hg q9  z1 (inR_b (Or.inr rfl))) (fun y10 g12 r11 e13 => ?_)
  refine go_ifeq kk190_0.1.1.2.2.2 (inR_b r11) (fun c14 => ?_) (fun c15 => ?_)
  · refine go_int kk190_0.1.2.1.1.2.1 (-1) rfl ?_
    refine go_istore kk190_0.1.2.1.1.2.2 rfl (loc2 := [some (sR v0), some (sI v1), some (sI (-1)), u3]) rfl ?_
    refine go_int kk190_0.1.2.1.2.1.1 1 rfl ?_
    refine go_istore kk190_0.1.2.1.2.1.2 rfl (loc2 := [some (sR v0), some (sI v1), some (sI (-1)), some (sI 1)]) rfl ?_
    exact tlM_roomiest_31 hd e13 hK0 h1 fu (-1) (inR_of (by decide)) 1 (inR_b (Or.inr rfl))
  · refine go_int kk190_0.1.2.1.1.1.1 0 rfl ?_
    exact go_iret kk190_0.1.2.1.1.1.2 e13 (inR_b (Or.inl rfl)) ⟨Nat.zero_le _, Nat.zero_le _⟩ rfl
theorem tfM_roomiest {Φ : ev_P} {d : Nat} (hd : 3 ≤ d) {g : gH} (hg : HR g) {v0 v1 : Int} (hK0 : kd v0 = 7) (h1 : InR v1) : Go Φ pr_P fN 1 (fM_roomiest g v0 v1) d (pr_P 190) 0 (ev_loc (pr_P 190).1 [(sR v0), (sI v1)]) [] g 0 0 := by
  show Go Φ pr_P fN 1 (fM_roomiest g v0 v1) d pr_m190 0 [some (sR v0), some (sI v1), none, none] [] g 0 0
  unfold fM_roomiest
  refine go_aload kk190_0.1.1.1.1.1.1 rfl ?_
  refine go_int kk190_0.1.1.1.1.1.2 0 rfl ?_
  refine go_putI (bI := 8) kk190_0.1.1.1.1.2.1 hg hK0 (by decide) rfl rfl (inR_b (Or.inl rfl)) (fun g1 e2 => ?_)
  refine go_aload kk190_0.1.1.1.1.2.2 rfl ?_
  refine go_iload kk190_0.1.1.1.2.1.1 rfl ?_
  refine go_callP3 kk190_0.1.1.1.2.1.2 rfl rfl rfl trivial ⟨Nat.zero_le _, Nat.zero_le _⟩ (by omega) (tfM_isSmall (by omega) e2  h1) (fun y3 r4 => ?_)
  refine go_ifeq kk190_0.1.1.1.2.2 (inR_b r4) (fun c7 => ?_) (fun c8 => ?_)
  · refine go_int kk190_0.1.1.2.1.1.1 1 rfl ?_
    refine go_goto kk190_0.1.1.2.1.1.2 ?_
    exact tjM_roomiest_18 hd e2 hK0 h1 (rfR_kd hK0 (by decide)) (Or.inr rfl) none rfl none rfl
  · refine go_int kk190_0.1.1.2.1.2 0 rfl ?_
    exact tjM_roomiest_18 hd e2 hK0 h1 (rfR_kd hK0 (by decide)) (Or.inl rfl) none rfl none rfl
theorem tbM_allRoom_9 {Φ : ev_P} {d : Nat} (hd : 3 ≤ d) {g : gH} (hg : HR g) {v0 : Int} (hK0 : kd v0 = 7) {X9 : Int → Int → Option (Int × gH)} (HX9 : ∀ (v1 : Int) (h1 : InR v1) (v2 : Int) (h2 : InR v2), Go Φ pr_P fN 1 (X9 v1 v2) d pr_m191 9 [some (sR v0), some (sI v1), some (sI v2)] [] g 0 0) : ∀ (v1 : Int) (h1 : InR v1) (v2 : Int) (h2 : InR v2), Go Φ pr_P fN 1 (bM_allRoom_9 g v0 X9 v1 v2) d pr_m191 9 [some (sR v0), some (sI v1), some (sI v2)] [] g 0 0 := by
  intro v1 h1 v2 h2
  unfold bM_allRoom_9
  refine go_iload kk191_0.1.2.1.1.2 rfl ?_
  refine go_aload kk191_0.1.2.1.2 rfl ?_
  refine go_getR (bI := 0) kk191_0.1.2.2.1.1 hg hK0 (by decide) rfl rfl (fun r3 => ?_)
  refine go_int kk191_0.1.2.2.1.2 0 rfl ?_
  refine go_ck (fun q5 => ?_)
  refine go_iald kk191_0.1.2.2.2 hg q5 (fun r4 => ?_)
  refine go_cmlt kk191_0.2.1.1.1.1 h2 r4 (fun c6 => ?_) (fun c7 => ?_)
  · refine go_iload kk191_0.2.1.1.1.2 rfl ?_
    refine go_aload kk191_0.2.1.1.2 rfl ?_
    refine go_iload kk191_0.2.1.2.1.1 rfl ?_
    refine go_callP1 kk191_0.2.1.2.1.2 rfl rfl rfl ⟨by decide, _, rfl, hK0⟩ ⟨Nat.zero_le _, Nat.zero_le _⟩ (by omega) (tfM_roomOf (by omega) hg hK0  h2) (fun y8 r9 => ?_)
    refine go_iadd kk191_0.2.1.2.2 ?_
    refine go_istore kk191_0.2.2.1.1.1 rfl (loc2 := [some (sR v0), some (sI (w32 (v1 + y8))), some (sI v2)]) rfl ?_
    refine go_iinc kk191_0.2.2.1.1.2 rfl rfl 1 rfl (loc2 := [some (sR v0), some (sI (w32 (v1 + y8))), some (sI (w32 (v2 + 1)))]) rfl ?_
    refine go_goto kk191_0.2.2.1.2 ?_
    exact HX9 (w32 (v1 + y8)) (inR_w32 _) (w32 (v2 + 1)) (inR_w32 _)
  · refine go_iload kk191_0.2.2.2.1 rfl ?_
    exact go_iret kk191_0.2.2.2.2 hg h1 ⟨Nat.zero_le _, Nat.zero_le _⟩ rfl
theorem tlM_allRoom_9 {Φ : ev_P} {d : Nat} (hd : 3 ≤ d) {g : gH} (hg : HR g) {v0 : Int} (hK0 : kd v0 = 7) : ∀ n : Nat, ∀ (v1 : Int) (h1 : InR v1) (v2 : Int) (h2 : InR v2), Go Φ pr_P fN 1 (lM_allRoom_9 g v0 n v1 v2) d pr_m191 9 [some (sR v0), some (sI v1), some (sI v2)] [] g 0 0 := by
  intro n
  induction n with
  | zero => intros; exact go_none
  | succ n ih => exact tbM_allRoom_9 hd hg hK0 ih
theorem tfM_allRoom {Φ : ev_P} {d : Nat} (hd : 3 ≤ d) {g : gH} (hg : HR g) {v0 : Int} (hK0 : kd v0 = 7) : Go Φ pr_P fN 1 (fM_allRoom g v0) d (pr_P 191) 0 (ev_loc (pr_P 191).1 [(sR v0)]) [] g 0 0 := by
  show Go Φ pr_P fN 1 (fM_allRoom g v0) d pr_m191 0 [some (sR v0), none, none] [] g 0 0
  unfold fM_allRoom
  refine go_aload kk191_0.1.1.1.1.1 rfl ?_
  refine go_int kk191_0.1.1.1.1.2 0 rfl ?_
  refine go_putI (bI := 8) kk191_0.1.1.1.2 hg hK0 (by decide) rfl rfl (inR_b (Or.inl rfl)) (fun g1 e2 => ?_)
  refine go_int kk191_0.1.1.2.1.1 0 rfl ?_
  refine go_istore kk191_0.1.1.2.1.2 rfl (loc2 := [some (sR v0), some (sI 0), none]) rfl ?_
  refine go_int kk191_0.1.1.2.2 0 rfl ?_
  refine go_istore kk191_0.1.2.1.1.1 rfl (loc2 := [some (sR v0), some (sI 0), some (sI 0)]) rfl ?_
  exact tlM_allRoom_9 hd e2 hK0 fu 0 (inR_b (Or.inl rfl)) 0 (inR_b (Or.inl rfl))
theorem tbM_overfull_9 {Φ : ev_P} {d : Nat} (hd : 2 ≤ d) {g : gH} (hg : HR g) {v0 : Int} (hK0 : kd v0 = 7) {X9 : Int → Int → Option (Int × gH)} (HX9 : ∀ (v1 : Int) (h1 : InR v1) (v2 : Int) (h2 : InR v2), Go Φ pr_P fN 1 (X9 v1 v2) d pr_m192 9 [some (sR v0), some (sI v1), some (sI v2)] [] g 0 0) : ∀ (v1 : Int) (h1 : InR v1) (v2 : Int) (h2 : InR v2), Go Φ pr_P fN 1 (bM_overfull_9 g v0 X9 v1 v2) d pr_m192 9 [some (sR v0), some (sI v1), some (sI v2)] [] g 0 0 := by
  intro v1 h1 v2 h2
  unfold bM_overfull_9
  refine go_iload kk192_0.1.1.2.1.2 rfl ?_
  refine go_aload kk192_0.1.1.2.2.1 rfl ?_
  refine go_getR (bI := 0) kk192_0.1.1.2.2.2 hg hK0 (by decide) rfl rfl (fun r3 => ?_)
  refine go_int kk192_0.1.2.1.1.1.1 0 rfl ?_
  refine go_ck (fun q5 => ?_)
  refine go_iald kk192_0.1.2.1.1.1.2 hg q5 (fun r4 => ?_)
  refine go_cmlt kk192_0.1.2.1.1.2 h2 r4 (fun c6 => ?_) (fun c7 => ?_)
  · refine go_iload kk192_0.1.2.1.2.1 rfl ?_
    refine go_aload kk192_0.1.2.1.2.2 rfl ?_
    refine go_iload kk192_0.1.2.2.1.1 rfl ?_
    refine go_callP3 kk192_0.1.2.2.1.2 rfl rfl rfl ⟨by decide, _, rfl, hK0⟩ ⟨Nat.zero_le _, Nat.zero_le _⟩ (by omega) (tfM_runs (by omega) hg hK0  h2) (fun y8 r9 => ?_)
    refine go_ifeq kk192_0.1.2.2.2.1 (inR_b r9) (fun c12 => ?_) (fun c13 => ?_)
    · refine go_int kk192_0.2.2.1.1.2 0 rfl ?_
      refine go_iadd kk192_0.2.2.1.2.1 ?_
      refine go_istore kk192_0.2.2.1.2.2 rfl (loc2 := [some (sR v0), some (sI (w32 (v1 + 0))), some (sI v2)]) rfl ?_
      refine go_iinc kk192_0.2.2.2.1.1 rfl rfl 1 rfl (loc2 := [some (sR v0), some (sI (w32 (v1 + 0))), some (sI (w32 (v2 + 1)))]) rfl ?_
      refine go_goto kk192_0.2.2.2.1.2 ?_
      exact HX9 (w32 (v1 + 0)) (inR_w32 _) (w32 (v2 + 1)) (inR_w32 _)
    · refine go_aload kk192_0.1.2.2.2.2 rfl ?_
      refine go_iload kk192_0.2.1.1.1.1.1 rfl ?_
      refine go_int kk192_0.2.1.1.1.1.2 0 rfl ?_
      refine go_callP1 kk192_0.2.1.1.1.2 rfl rfl rfl ⟨by decide, _, rfl, hK0⟩ ⟨Nat.zero_le _, Nat.zero_le _⟩ (by omega) (tfM_childrenOf (by omega) hg hK0  h2 (inR_b (Or.inl rfl))) (fun y14 r15 => ?_)
      refine go_aload kk192_0.2.1.1.2.1 rfl ?_
      refine go_getR (bI := 0) kk192_0.2.1.1.2.2 hg hK0 (by decide) rfl rfl (fun r18 => ?_)
      refine go_int kk192_0.2.1.2.1.1.1 100 rfl ?_
      refine go_iload kk192_0.2.1.2.1.1.2 rfl ?_
      refine go_iadd kk192_0.2.1.2.1.2 ?_
      refine go_ck (fun q20 => ?_)
      refine go_iald kk192_0.2.1.2.2.1 hg q20 (fun r19 => ?_)
      refine go_cmgt kk192_0.2.1.2.2.2 r15 r19 (fun c21 => ?_) (fun c22 => ?_)
      · refine go_int kk192_0.2.2.1.1.1.1 1 rfl ?_
        refine go_goto kk192_0.2.2.1.1.1.2 ?_
        refine go_iadd kk192_0.2.2.1.2.1 ?_
        refine go_istore kk192_0.2.2.1.2.2 rfl (loc2 := [some (sR v0), some (sI (w32 (v1 + 1))), some (sI v2)]) rfl ?_
        refine go_iinc kk192_0.2.2.2.1.1 rfl rfl 1 rfl (loc2 := [some (sR v0), some (sI (w32 (v1 + 1))), some (sI (w32 (v2 + 1)))]) rfl ?_
        refine go_goto kk192_0.2.2.2.1.2 ?_
        exact HX9 (w32 (v1 + 1)) (inR_w32 _) (w32 (v2 + 1)) (inR_w32 _)
      · refine go_int kk192_0.2.2.1.1.2 0 rfl ?_
        refine go_iadd kk192_0.2.2.1.2.1 ?_
        refine go_istore kk192_0.2.2.1.2.2 rfl (loc2 := [some (sR v0), some (sI (w32 (v1 + 0))), some (sI v2)]) rfl ?_
        refine go_iinc kk192_0.2.2.2.1.1 rfl rfl 1 rfl (loc2 := [some (sR v0), some (sI (w32 (v1 + 0))), some (sI (w32 (v2 + 1)))]) rfl ?_
        refine go_goto kk192_0.2.2.2.1.2 ?_
        exact HX9 (w32 (v1 + 0)) (inR_w32 _) (w32 (v2 + 1)) (inR_w32 _)
  · refine go_iload kk192_0.2.2.2.2.1 rfl ?_
    exact go_iret kk192_0.2.2.2.2.2 hg h1 ⟨Nat.zero_le _, Nat.zero_le _⟩ rfl
theorem tlM_overfull_9 {Φ : ev_P} {d : Nat} (hd : 2 ≤ d) {g : gH} (hg : HR g) {v0 : Int} (hK0 : kd v0 = 7) : ∀ n : Nat, ∀ (v1 : Int) (h1 : InR v1) (v2 : Int) (h2 : InR v2), Go Φ pr_P fN 1 (lM_overfull_9 g v0 n v1 v2) d pr_m192 9 [some (sR v0), some (sI v1), some (sI v2)] [] g 0 0 := by
  intro n
  induction n with
  | zero => intros; exact go_none
  | succ n ih => exact tbM_overfull_9 hd hg hK0 ih
theorem tfM_overfull {Φ : ev_P} {d : Nat} (hd : 2 ≤ d) {g : gH} (hg : HR g) {v0 : Int} (hK0 : kd v0 = 7) : Go Φ pr_P fN 1 (fM_overfull g v0) d (pr_P 192) 0 (ev_loc (pr_P 192).1 [(sR v0)]) [] g 0 0 := by
  show Go Φ pr_P fN 1 (fM_overfull g v0) d pr_m192 0 [some (sR v0), none, none] [] g 0 0
  unfold fM_overfull
  refine go_aload kk192_0.1.1.1.1.1.1 rfl ?_
  refine go_int kk192_0.1.1.1.1.1.2 0 rfl ?_
  refine go_putI (bI := 8) kk192_0.1.1.1.1.2 hg hK0 (by decide) rfl rfl (inR_b (Or.inl rfl)) (fun g1 e2 => ?_)
  refine go_int kk192_0.1.1.1.2.1 0 rfl ?_
  refine go_istore kk192_0.1.1.1.2.2 rfl (loc2 := [some (sR v0), some (sI 0), none]) rfl ?_
  refine go_int kk192_0.1.1.2.1.1.1 0 rfl ?_
  refine go_istore kk192_0.1.1.2.1.1.2 rfl (loc2 := [some (sR v0), some (sI 0), some (sI 0)]) rfl ?_
  exact tlM_overfull_9 hd e2 hK0 fu 0 (inR_b (Or.inl rfl)) 0 (inR_b (Or.inl rfl))
theorem tbM_ofGroup_31 {Φ : ev_P} {d : Nat} (hd : 2 ≤ d) {g : gH} (hg : HR g) {v0 v1 : Int} (hK0 : kd v0 = 7) (h1 : InR v1) {X31 : Int → Int → Option (Int × gH)} (HX31 : ∀ (v2 : Int) (h2 : InR v2) (v3 : Int) (h3 : InR v3), Go Φ pr_P fN 1 (X31 v2 v3) d pr_m193 31 [some (sR v0), some (sI v1), some (sI v2), some (sI v3)] [] g 0 0) : ∀ (v2 : Int) (h2 : InR v2) (v3 : Int) (h3 : InR v3), Go Φ pr_P fN 1 (bM_ofGroup_31 g v0 v1 X31 v2 v3) d pr_m193 31 [some (sR v0), some (sI v1), some (sI v2), some (sI v3)] [] g 0 0 := by
  intro v2 h2 v3 h3
  unfold bM_ofGroup_31
  refine go_iload kk193_0.1.2.2.1.1.2 rfl ?_
  refine go_aload kk193_0.1.2.2.1.2 rfl ?_
  refine go_getR (bI := 0) kk193_0.1.2.2.2.1.1 hg hK0 (by decide) rfl rfl (fun r16 => ?_)
  refine go_int kk193_0.1.2.2.2.1.2 0 rfl ?_
  refine go_ck (fun q18 => ?_)
  refine go_iald kk193_0.1.2.2.2.2 hg q18 (fun r17 => ?_)
  refine go_cmlt kk193_0.2.1.1.1.1.1 h3 r17 (fun c19 => ?_) (fun c20 => ?_)
  · refine go_iload kk193_0.2.1.1.1.1.2 rfl ?_
    refine go_aload kk193_0.2.1.1.1.2 rfl ?_
    refine go_iload kk193_0.2.1.1.2.1.1 rfl ?_
    refine go_callP3 kk193_0.2.1.1.2.1.2 rfl rfl rfl ⟨by decide, _, rfl, hK0⟩ ⟨Nat.zero_le _, Nat.zero_le _⟩ (by omega) (tfM_runs (by omega) hg hK0  h3) (fun y21 r22 => ?_)
    refine go_ifeq kk193_0.2.1.1.2.2 (inR_b r22) (fun c25 => ?_) (fun c26 => ?_)
    · refine go_int kk193_0.2.2.1.2.1.2 0 rfl ?_
      refine go_iadd kk193_0.2.2.1.2.2 ?_
      refine go_istore kk193_0.2.2.2.1.1.1 rfl (loc2 := [some (sR v0), some (sI v1), some (sI (w32 (v2 + 0))), some (sI v3)]) rfl ?_
      refine go_iinc kk193_0.2.2.2.1.1.2 rfl rfl 1 rfl (loc2 := [some (sR v0), some (sI v1), some (sI (w32 (v2 + 0))), some (sI (w32 (v3 + 1)))]) rfl ?_
      refine go_goto kk193_0.2.2.2.1.2 ?_
      exact HX31 (w32 (v2 + 0)) (inR_w32 _) (w32 (v3 + 1)) (inR_w32 _)
    · refine go_aload kk193_0.2.1.2.1.1.1 rfl ?_
      refine go_getR (bI := 0) kk193_0.2.1.2.1.1.2 hg hK0 (by decide) rfl rfl (fun r27 => ?_)
      refine go_int kk193_0.2.1.2.1.2 180 rfl ?_
      refine go_iload kk193_0.2.1.2.2.1.1 rfl ?_
      refine go_iadd kk193_0.2.1.2.2.1.2 ?_
      refine go_ck (fun q29 => ?_)
      refine go_iald kk193_0.2.1.2.2.2 hg q29 (fun r28 => ?_)
      refine go_iload kk193_0.2.2.1.1.1.1 rfl ?_
      refine go_cmeq kk193_0.2.2.1.1.1.2 r28 h1 (fun c30 => ?_) (fun c31 => ?_)
      · refine go_int kk193_0.2.2.1.1.2 1 rfl ?_
        refine go_goto kk193_0.2.2.1.2.1.1 ?_
        refine go_iadd kk193_0.2.2.1.2.2 ?_
        refine go_istore kk193_0.2.2.2.1.1.1 rfl (loc2 := [some (sR v0), some (sI v1), some (sI (w32 (v2 + 1))), some (sI v3)]) rfl ?_
        refine go_iinc kk193_0.2.2.2.1.1.2 rfl rfl 1 rfl (loc2 := [some (sR v0), some (sI v1), some (sI (w32 (v2 + 1))), some (sI (w32 (v3 + 1)))]) rfl ?_
        refine go_goto kk193_0.2.2.2.1.2 ?_
        exact HX31 (w32 (v2 + 1)) (inR_w32 _) (w32 (v3 + 1)) (inR_w32 _)
      · refine go_int kk193_0.2.2.1.2.1.2 0 rfl ?_
        refine go_iadd kk193_0.2.2.1.2.2 ?_
        refine go_istore kk193_0.2.2.2.1.1.1 rfl (loc2 := [some (sR v0), some (sI v1), some (sI (w32 (v2 + 0))), some (sI v3)]) rfl ?_
        refine go_iinc kk193_0.2.2.2.1.1.2 rfl rfl 1 rfl (loc2 := [some (sR v0), some (sI v1), some (sI (w32 (v2 + 0))), some (sI (w32 (v3 + 1)))]) rfl ?_
        refine go_goto kk193_0.2.2.2.1.2 ?_
        exact HX31 (w32 (v2 + 0)) (inR_w32 _) (w32 (v3 + 1)) (inR_w32 _)
  · refine go_iload kk193_0.2.2.2.2.1 rfl ?_
    exact go_iret kk193_0.2.2.2.2.2 hg h2 ⟨Nat.zero_le _, Nat.zero_le _⟩ rfl
theorem tlM_ofGroup_31 {Φ : ev_P} {d : Nat} (hd : 2 ≤ d) {g : gH} (hg : HR g) {v0 v1 : Int} (hK0 : kd v0 = 7) (h1 : InR v1) : ∀ n : Nat, ∀ (v2 : Int) (h2 : InR v2) (v3 : Int) (h3 : InR v3), Go Φ pr_P fN 1 (lM_ofGroup_31 g v0 v1 n v2 v3) d pr_m193 31 [some (sR v0), some (sI v1), some (sI v2), some (sI v3)] [] g 0 0 := by
  intro n
  induction n with
  | zero => intros; exact go_none
  | succ n ih => exact tbM_ofGroup_31 hd hg hK0 h1 ih
theorem tjM_ofGroup_18 {Φ : ev_P} {d : Nat} (hd : 2 ≤ d) {g : gH} (hg : HR g) {v0 v1 : Int} (hK0 : kd v0 = 7) (h1 : InR v1) {s0 s1 : Int} (z0 : RfR s0) (z1 : B01 s1) (u2 : Option ev_V) (w2 : nwo u2) (u3 : Option ev_V) (w3 : nwo u3) : Go Φ pr_P fN 1 (jM_ofGroup_18 g v0 v1 s0 s1 ) d pr_m193 18 [some (sR v0), some (sI v1), u2, u3] [(sI s1), (sR s0)] g 0 0 := by
  unfold jM_ofGroup_18
  refine go_int kk193_0.1.1.2.2.1.2 1 rfl ?_
  refine go_ck (fun q9 => ?_)
  refine go_callN3 kk193_0.1.1.2.2.2 rfl rfl rfl ⟨by decide, _, rfl, q9⟩ ⟨Nat.zero_le _, Nat.zero_le _⟩ (by omega) (tfM_fails (by omega) hg q9  z1 (inR_b (Or.inr rfl))) (fun y10 g12 r11 e13 => ?_)
  refine go_ifeq kk193_0.1.2.1.1.1.1 (inR_b r11) (fun c14 => ?_) (fun c15 => ?_)
  · refine go_int kk193_0.1.2.1.2.1.1 0 rfl ?_
    refine go_istore kk193_0.1.2.1.2.1.2 rfl (loc2 := [some (sR v0), some (sI v1), some (sI 0), u3]) rfl ?_
    refine go_int kk193_0.1.2.1.2.2 0 rfl ?_
    refine go_istore kk193_0.1.2.2.1.1.1 rfl (loc2 := [some (sR v0), some (sI v1), some (sI 0), some (sI 0)]) rfl ?_
    exact tlM_ofGroup_31 hd e13 hK0 h1 fu 0 (inR_b (Or.inl rfl)) 0 (inR_b (Or.inl rfl))
  · refine go_int kk193_0.1.2.1.1.1.2 0 rfl ?_
    exact go_iret kk193_0.1.2.1.1.2 e13 (inR_b (Or.inl rfl)) ⟨Nat.zero_le _, Nat.zero_le _⟩ rfl
theorem tfM_ofGroup {Φ : ev_P} {d : Nat} (hd : 2 ≤ d) {g : gH} (hg : HR g) {v0 v1 : Int} (hK0 : kd v0 = 7) (h1 : InR v1) : Go Φ pr_P fN 1 (fM_ofGroup g v0 v1) d (pr_P 193) 0 (ev_loc (pr_P 193).1 [(sR v0), (sI v1)]) [] g 0 0 := by
  show Go Φ pr_P fN 1 (fM_ofGroup g v0 v1) d pr_m193 0 [some (sR v0), some (sI v1), none, none] [] g 0 0
  unfold fM_ofGroup
  refine go_aload kk193_0.1.1.1.1.1.1 rfl ?_
  refine go_int kk193_0.1.1.1.1.1.2 0 rfl ?_
  refine go_putI (bI := 8) kk193_0.1.1.1.1.2 hg hK0 (by decide) rfl rfl (inR_b (Or.inl rfl)) (fun g1 e2 => ?_)
  refine go_aload kk193_0.1.1.1.2.1.1 rfl ?_
  refine go_iload kk193_0.1.1.1.2.1.2 rfl ?_
  refine go_callP3 kk193_0.1.1.1.2.2 rfl rfl rfl trivial ⟨Nat.zero_le _, Nat.zero_le _⟩ (by omega) (tfM_isSmall (by omega) e2  h1) (fun y3 r4 => ?_)
  refine go_ifeq kk193_0.1.1.2.1.1.1 (inR_b r4) (fun c7 => ?_) (fun c8 => ?_)
  · refine go_int kk193_0.1.1.2.1.1.2 1 rfl ?_
    refine go_goto kk193_0.1.1.2.1.2 ?_
    exact tjM_ofGroup_18 hd e2 hK0 h1 (rfR_kd hK0 (by decide)) (Or.inr rfl) none rfl none rfl
  · refine go_int kk193_0.1.1.2.2.1.1 0 rfl ?_
    exact tjM_ofGroup_18 hd e2 hK0 h1 (rfR_kd hK0 (by decide)) (Or.inl rfl) none rfl none rfl
theorem tfM_nextTestament {Φ : ev_P} {d : Nat} (hd : 2 ≤ d) {g : gH} (hg : HR g) {v0 v1 : Int} (hK0 : kd v0 = 7) (h1 : InR v1) : Go Φ pr_P fN 1 (fM_nextTestament g v0 v1) d (pr_P 194) 0 (ev_loc (pr_P 194).1 [(sR v0), (sI v1)]) [] g 0 0 := by
  show Go Φ pr_P fN 1 (fM_nextTestament g v0 v1) d pr_m194 0 [some (sR v0), some (sI v1)] [] g 0 0
  unfold fM_nextTestament
  refine go_aload kk194_0.1.1.1.1 rfl ?_
  refine go_iload kk194_0.1.1.1.2 rfl ?_
  refine go_callN3 kk194_0.1.1.2 rfl rfl rfl ⟨by decide, _, rfl, hK0⟩ ⟨Nat.zero_le _, Nat.zero_le _⟩ (by omega) (tfM_noProcess (by omega) hg hK0  h1) (fun y1 g3 r2 e4 => ?_)
  refine go_ifeq kk194_0.1.2.1 (inR_b r2) (fun c5 => ?_) (fun c6 => ?_)
  · refine go_aload kk194_0.2.1.1.2 rfl ?_
    refine go_iload kk194_0.2.1.2 rfl ?_
    refine go_callP1 kk194_0.2.2.1 rfl rfl rfl ⟨by decide, _, rfl, hK0⟩ ⟨Nat.zero_le _, Nat.zero_le _⟩ (by omega) (tfM_firstZombie (by omega) e4 hK0  h1) (fun y7 r8 => ?_)
    exact go_iret kk194_0.2.2.2 e4 r8 ⟨Nat.zero_le _, Nat.zero_le _⟩ rfl
  · refine go_int kk194_0.1.2.2 0 rfl ?_
    refine go_goto kk194_0.2.1.1.1 ?_
    exact go_iret kk194_0.2.2.2 e4 (inR_b (Or.inl rfl)) ⟨Nat.zero_le _, Nat.zero_le _⟩ rfl
theorem tjM_exited_27 {Φ : ev_P} {d : Nat} (hd : 1 ≤ d) {g : gH} (hg : HR g) {v0 v1 : Int} (hK0 : kd v0 = 7) (h1 : InR v1) {s0 s1 : Int} (z0 : RfR s0) (z1 : B01 s1) : Go Φ pr_P fN 1 (jM_exited_27 g v0 v1 s0 s1 ) d pr_m195 27 [some (sR v0), some (sI v1)] [(sI s1), (sR s0)] g 0 0 := by
  unfold jM_exited_27
  refine go_int kk195_0.2.1.1.2.1 1 rfl ?_
  refine go_ck (fun q12 => ?_)
  refine go_callN3 kk195_0.2.1.1.2.2 rfl rfl rfl ⟨by decide, _, rfl, q12⟩ ⟨Nat.zero_le _, Nat.zero_le _⟩ (by omega) (tfM_fails (by omega) hg q12  z1 (inR_b (Or.inr rfl))) (fun y13 g15 r14 e16 => ?_)
  refine go_ifeq kk195_0.2.1.2.1.1 (inR_b r14) (fun c17 => ?_) (fun c18 => ?_)
  · refine go_aload kk195_0.2.2.1.1.1 rfl ?_
    refine go_getR (bI := 0) kk195_0.2.2.1.1.2 e16 hK0 (by decide) rfl rfl (fun r19 => ?_)
    refine go_int kk195_0.2.2.1.2.1 19 rfl ?_
    refine go_iload kk195_0.2.2.1.2.2 rfl ?_
    refine go_iadd kk195_0.2.2.2.1.1 ?_
    refine go_ck (fun q21 => ?_)
    refine go_iald kk195_0.2.2.2.1.2 e16 q21 (fun r20 => ?_)
    exact go_iret kk195_0.2.2.2.2 e16 r20 ⟨Nat.zero_le _, Nat.zero_le _⟩ rfl
  · refine go_int kk195_0.2.1.2.1.2 0 rfl ?_
    refine go_goto kk195_0.2.1.2.2 ?_
    exact go_iret kk195_0.2.2.2.2 e16 (inR_b (Or.inl rfl)) ⟨Nat.zero_le _, Nat.zero_le _⟩ rfl
theorem tfM_exited {Φ : ev_P} {d : Nat} (hd : 1 ≤ d) {g : gH} (hg : HR g) {v0 v1 : Int} (hK0 : kd v0 = 7) (h1 : InR v1) : Go Φ pr_P fN 1 (fM_exited g v0 v1) d (pr_P 195) 0 (ev_loc (pr_P 195).1 [(sR v0), (sI v1)]) [] g 0 0 := by
  show Go Φ pr_P fN 1 (fM_exited g v0 v1) d pr_m195 0 [some (sR v0), some (sI v1)] [] g 0 0
  unfold fM_exited
  refine go_aload kk195_0.1.1.1.1.1 rfl ?_
  refine go_int kk195_0.1.1.1.1.2 0 rfl ?_
  refine go_putI (bI := 8) kk195_0.1.1.1.2.1 hg hK0 (by decide) rfl rfl (inR_b (Or.inl rfl)) (fun g1 e2 => ?_)
  refine go_aload kk195_0.1.1.1.2.2 rfl ?_
  refine go_iload kk195_0.1.1.2.1.1 rfl ?_
  refine go_int kk195_0.1.1.2.1.2 0 rfl ?_
  refine go_aload kk195_0.1.1.2.2.1 rfl ?_
  refine go_getR (bI := 0) kk195_0.1.1.2.2.2 e2 hK0 (by decide) rfl rfl (fun r3 => ?_)
  refine go_int kk195_0.1.2.1.1.1 1 rfl ?_
  refine go_ck (fun q5 => ?_)
  refine go_iald kk195_0.1.2.1.1.2 e2 q5 (fun r4 => ?_)
  refine go_int kk195_0.1.2.1.2.1 1 rfl ?_
  refine go_isub kk195_0.1.2.1.2.2 ?_
  refine go_callP3 kk195_0.1.2.2.1.1 rfl rfl rfl trivial ⟨Nat.zero_le _, Nat.zero_le _⟩ (by omega) (tfM_inRange (by omega) e2  h1 (inR_b (Or.inl rfl)) (inR_w32 _)) (fun y6 r7 => ?_)
  refine go_ifeq kk195_0.1.2.2.1.2 (inR_b r7) (fun c10 => ?_) (fun c11 => ?_)
  · refine go_int kk195_0.1.2.2.2 1 rfl ?_
    refine go_goto kk195_0.2.1.1.1.1 ?_
    exact tjM_exited_27 hd e2 hK0 h1 (rfR_kd hK0 (by decide)) (Or.inr rfl)
  · refine go_int kk195_0.2.1.1.1.2 0 rfl ?_
    exact tjM_exited_27 hd e2 hK0 h1 (rfR_kd hK0 (by decide)) (Or.inl rfl)
theorem tjM_meanDepth_45 {Φ : ev_P} {d : Nat} (hd : 2 ≤ d) {g : gH} (hg : HR g) {v0 v1 : Int} (hK0 : kd v0 = 7) (h1 : InR v1) (u2 : Option ev_V) (w2 : nwo u2) : Go Φ pr_P fN 5 (jM_meanDepth_45 g v0 v1 ) d pr_m196 45 [some (sR v0), some (sI v1), u2] [] g 0 0 := by
  unfold jM_meanDepth_45
  refine go_iload kk196_0.2.2.1.1.2 rfl ?_
  refine go_i2d kk196_0.2.2.1.2.1 ?_
  refine go_aload kk196_0.2.2.1.2.2 rfl ?_
  refine go_callP1 kk196_0.2.2.2.1.1 rfl rfl rfl ⟨by decide, _, rfl, hK0⟩ ⟨Nat.zero_le _, Nat.zero_le _⟩ (by omega) (tfM_runningMany (by omega) hg hK0 ) (fun y18 r19 => ?_)
  refine go_i2d kk196_0.2.2.2.1.2 ?_
  refine go_ck (fun q22 => ?_)
  refine go_ddiv kk196_0.2.2.2.2.1 q22 rfl ⟨Nat.zero_le _, Nat.zero_le _⟩ ?_
  exact go_dret kk196_0.2.2.2.2.2 hg ⟨Nat.zero_le _, Nat.zero_le _⟩ rfl
theorem tbM_meanDepth_9 {Φ : ev_P} {d : Nat} (hd : 2 ≤ d) {g : gH} (hg : HR g) {v0 : Int} (hK0 : kd v0 = 7) {X9 : Int → Int → Option (Int × gH)} (HX9 : ∀ (v1 : Int) (h1 : InR v1) (v2 : Int) (h2 : InR v2), Go Φ pr_P fN 5 (X9 v1 v2) d pr_m196 9 [some (sR v0), some (sI v1), some (sI v2)] [] g 0 0) : ∀ (v1 : Int) (h1 : InR v1) (v2 : Int) (h2 : InR v2), Go Φ pr_P fN 5 (bM_meanDepth_9 g v0 X9 v1 v2) d pr_m196 9 [some (sR v0), some (sI v1), some (sI v2)] [] g 0 0 := by
  intro v1 h1 v2 h2
  unfold bM_meanDepth_9
  refine go_iload kk196_0.1.1.2.2.1 rfl ?_
  refine go_aload kk196_0.1.1.2.2.2 rfl ?_
  refine go_getR (bI := 0) kk196_0.1.2.1.1.1 hg hK0 (by decide) rfl rfl (fun r3 => ?_)
  refine go_int kk196_0.1.2.1.1.2 0 rfl ?_
  refine go_ck (fun q5 => ?_)
  refine go_iald kk196_0.1.2.1.2.1 hg q5 (fun r4 => ?_)
  refine go_cmlt kk196_0.1.2.1.2.2 h2 r4 (fun c6 => ?_) (fun c7 => ?_)
  · refine go_iload kk196_0.1.2.2.1.1 rfl ?_
    refine go_aload kk196_0.1.2.2.1.2 rfl ?_
    refine go_iload kk196_0.1.2.2.2.1 rfl ?_
    refine go_callP3 kk196_0.1.2.2.2.2 rfl rfl rfl ⟨by decide, _, rfl, hK0⟩ ⟨Nat.zero_le _, Nat.zero_le _⟩ (by omega) (tfM_runs (by omega) hg hK0  h2) (fun y8 r9 => ?_)
    refine go_ifeq kk196_0.2.1.1.1.1.1 (inR_b r9) (fun c12 => ?_) (fun c13 => ?_)
    · refine go_int kk196_0.2.1.2.1.1 0 rfl ?_
      refine go_iadd kk196_0.2.1.2.1.2 ?_
      refine go_istore kk196_0.2.1.2.2.1 rfl (loc2 := [some (sR v0), some (sI (w32 (v1 + 0))), some (sI v2)]) rfl ?_
      refine go_iinc kk196_0.2.1.2.2.2 rfl rfl 1 rfl (loc2 := [some (sR v0), some (sI (w32 (v1 + 0))), some (sI (w32 (v2 + 1)))]) rfl ?_
      refine go_goto kk196_0.2.2.1.1.1 ?_
      exact HX9 (w32 (v1 + 0)) (inR_w32 _) (w32 (v2 + 1)) (inR_w32 _)
    · refine go_aload kk196_0.2.1.1.1.1.2 rfl ?_
      refine go_iload kk196_0.2.1.1.1.2 rfl ?_
      refine go_callP1 kk196_0.2.1.1.2.1 rfl rfl rfl ⟨by decide, _, rfl, hK0⟩ ⟨Nat.zero_le _, Nat.zero_le _⟩ (by omega) (tfM_deep (by omega) hg hK0  h2) (fun y14 r15 => ?_)
      refine go_goto kk196_0.2.1.1.2.2 ?_
      refine go_iadd kk196_0.2.1.2.1.2 ?_
      refine go_istore kk196_0.2.1.2.2.1 rfl (loc2 := [some (sR v0), some (sI (w32 (v1 + y14))), some (sI v2)]) rfl ?_
      refine go_iinc kk196_0.2.1.2.2.2 rfl rfl 1 rfl (loc2 := [some (sR v0), some (sI (w32 (v1 + y14))), some (sI (w32 (v2 + 1)))]) rfl ?_
      refine go_goto kk196_0.2.2.1.1.1 ?_
      exact HX9 (w32 (v1 + y14)) (inR_w32 _) (w32 (v2 + 1)) (inR_w32 _)
  · exact tjM_meanDepth_45 hd hg hK0 h1 (some (sI v2)) rfl
theorem tlM_meanDepth_9 {Φ : ev_P} {d : Nat} (hd : 2 ≤ d) {g : gH} (hg : HR g) {v0 : Int} (hK0 : kd v0 = 7) : ∀ n : Nat, ∀ (v1 : Int) (h1 : InR v1) (v2 : Int) (h2 : InR v2), Go Φ pr_P fN 5 (lM_meanDepth_9 g v0 n v1 v2) d pr_m196 9 [some (sR v0), some (sI v1), some (sI v2)] [] g 0 0 := by
  intro n
  induction n with
  | zero => intros; exact go_none
  | succ n ih => exact tbM_meanDepth_9 hd hg hK0 ih
theorem tfM_meanDepth {Φ : ev_P} {d : Nat} (hd : 2 ≤ d) {g : gH} (hg : HR g) {v0 : Int} (hK0 : kd v0 = 7) : Go Φ pr_P fN 5 (fM_meanDepth g v0) d (pr_P 196) 0 (ev_loc (pr_P 196).1 [(sR v0)]) [] g 0 0 := by
  show Go Φ pr_P fN 5 (fM_meanDepth g v0) d pr_m196 0 [some (sR v0), none, none] [] g 0 0
  unfold fM_meanDepth
  refine go_aload kk196_0.1.1.1.1.1.1 rfl ?_
  refine go_int kk196_0.1.1.1.1.1.2 0 rfl ?_
  refine go_putI (bI := 8) kk196_0.1.1.1.1.2 hg hK0 (by decide) rfl rfl (inR_b (Or.inl rfl)) (fun g1 e2 => ?_)
  refine go_int kk196_0.1.1.1.2.1 0 rfl ?_
  refine go_istore kk196_0.1.1.1.2.2 rfl (loc2 := [some (sR v0), some (sI 0), none]) rfl ?_
  refine go_int kk196_0.1.1.2.1.1 0 rfl ?_
  refine go_istore kk196_0.1.1.2.1.2 rfl (loc2 := [some (sR v0), some (sI 0), some (sI 0)]) rfl ?_
  exact tlM_meanDepth_9 hd e2 hK0 fu 0 (inR_b (Or.inl rfl)) 0 (inR_b (Or.inl rfl))
theorem tfM_rootShare {Φ : ev_P} {d : Nat} (hd : 0 ≤ d) {g : gH} (hg : HR g) {v0 : Int} (hK0 : kd v0 = 7) : Go Φ pr_P fN 4 (fM_rootShare g v0) d (pr_P 197) 0 (ev_loc (pr_P 197).1 [(sR v0)]) [] g 0 0 := by
  show Go Φ pr_P fN 4 (fM_rootShare g v0) d pr_m197 0 [some (sR v0)] [] g 0 0
  unfold fM_rootShare
  refine go_aload kk197_0.1.1.1.1.1 rfl ?_
  refine go_int kk197_0.1.1.1.1.2 0 rfl ?_
  refine go_putI (bI := 8) kk197_0.1.1.1.2 hg hK0 (by decide) rfl rfl (inR_b (Or.inl rfl)) (fun g1 e2 => ?_)
  refine go_aload kk197_0.1.1.2.1.1 rfl ?_
  refine go_getR (bI := 0) kk197_0.1.1.2.1.2 e2 hK0 (by decide) rfl rfl (fun r3 => ?_)
  refine go_int kk197_0.1.1.2.2 2 rfl ?_
  refine go_ck (fun q5 => ?_)
  refine go_iald kk197_0.1.2.1.1.1 e2 q5 (fun r4 => ?_)
  refine go_ifeq kk197_0.1.2.1.1.2 r4 (fun c6 => ?_) (fun c7 => ?_)
  · refine go_fconst kk197_0.1.2.1.2 0 rfl ?_
    refine go_goto kk197_0.1.2.2.1 ?_
    exact go_fret kk197_0.2.2.2.2 e2 ⟨Nat.zero_le _, Nat.zero_le _⟩ rfl
  · refine go_aload kk197_0.1.2.2.2 rfl ?_
    refine go_getR (bI := 0) kk197_0.2.1.1.1.1 e2 hK0 (by decide) rfl rfl (fun r8 => ?_)
    refine go_int kk197_0.2.1.1.1.2 3 rfl ?_
    refine go_ck (fun q10 => ?_)
    refine go_iald kk197_0.2.1.1.2 e2 q10 (fun r9 => ?_)
    refine go_i2f kk197_0.2.1.2.1.1 ?_
    refine go_aload kk197_0.2.1.2.1.2 rfl ?_
    refine go_getR (bI := 0) kk197_0.2.1.2.2 e2 hK0 (by decide) rfl rfl (fun r11 => ?_)
    refine go_int kk197_0.2.2.1.1.1 2 rfl ?_
    refine go_ck (fun q13 => ?_)
    refine go_iald kk197_0.2.2.1.1.2 e2 q13 (fun r12 => ?_)
    refine go_i2f kk197_0.2.2.1.2 ?_
    refine go_ck (fun q14 => ?_)
    refine go_fdiv kk197_0.2.2.2.1 q14 rfl ⟨Nat.zero_le _, Nat.zero_le _⟩ ?_
    exact go_fret kk197_0.2.2.2.2 e2 ⟨Nat.zero_le _, Nat.zero_le _⟩ rfl
theorem tfM_readShare {Φ : ev_P} {d : Nat} (hd : 1 ≤ d) {g : gH} (hg : HR g) {v0 : Int} (hK0 : kd v0 = 7) : Go Φ pr_P fN 5 (fM_readShare g v0) d (pr_P 198) 0 (ev_loc (pr_P 198).1 [(sR v0)]) [] g 0 0 := by
  show Go Φ pr_P fN 5 (fM_readShare g v0) d pr_m198 0 [some (sR v0)] [] g 0 0
  unfold fM_readShare
  refine go_aload kk198_0.1.1.1.1.1 rfl ?_
  refine go_int kk198_0.1.1.1.1.2 0 rfl ?_
  refine go_putI (bI := 8) kk198_0.1.1.1.2 hg hK0 (by decide) rfl rfl (inR_b (Or.inl rfl)) (fun g1 e2 => ?_)
  refine go_aload kk198_0.1.1.2.1.1 rfl ?_
  refine go_getR (bI := 0) kk198_0.1.1.2.1.2 e2 hK0 (by decide) rfl rfl (fun r3 => ?_)
  refine go_int kk198_0.1.1.2.2 1 rfl ?_
  refine go_ck (fun q5 => ?_)
  refine go_iald kk198_0.1.2.1.1.1 e2 q5 (fun r4 => ?_)
  refine go_ifeq kk198_0.1.2.1.1.2 r4 (fun c6 => ?_) (fun c7 => ?_)
  · refine go_dconst kk198_0.1.2.1.2 0 rfl ?_
    refine go_goto kk198_0.1.2.2.1 ?_
    exact go_dret kk198_0.2.2.2.2 e2 ⟨Nat.zero_le _, Nat.zero_le _⟩ rfl
  · refine go_aload kk198_0.1.2.2.2 rfl ?_
    refine go_int kk198_0.2.1.1.1.1 2 rfl ?_
    refine go_callP1 kk198_0.2.1.1.1.2 rfl rfl rfl ⟨by decide, _, rfl, hK0⟩ ⟨Nat.zero_le _, Nat.zero_le _⟩ (by omega) (tfM_inState (by omega) e2 hK0  (inR_of (by decide))) (fun y8 r9 => ?_)
    refine go_i2d kk198_0.2.1.1.2 ?_
    refine go_aload kk198_0.2.1.2.1 rfl ?_
    refine go_getR (bI := 0) kk198_0.2.1.2.2 e2 hK0 (by decide) rfl rfl (fun r12 => ?_)
    refine go_int kk198_0.2.2.1.1.1 1 rfl ?_
    refine go_ck (fun q14 => ?_)
    refine go_iald kk198_0.2.2.1.1.2 e2 q14 (fun r13 => ?_)
    refine go_i2d kk198_0.2.2.1.2 ?_
    refine go_ck (fun q15 => ?_)
    refine go_ddiv kk198_0.2.2.2.1 q15 rfl ⟨Nat.zero_le _, Nat.zero_le _⟩ ?_
    exact go_dret kk198_0.2.2.2.2 e2 ⟨Nat.zero_le _, Nat.zero_le _⟩ rfl
theorem tbM_testamentsBelow_22 {Φ : ev_P} {d : Nat} (hd : 2 ≤ d) {g : gH} (hg : HR g) {v0 v1 : Int} (hK0 : kd v0 = 7) (h1 : InR v1) {X22 : Int → Int → Option (Int × gH)} (HX22 : ∀ (v2 : Int) (h2 : InR v2) (v3 : Int) (h3 : InR v3), Go Φ pr_P fN 1 (X22 v2 v3) d pr_m199 22 [some (sR v0), some (sI v1), some (sI v2), some (sI v3)] [] g 0 0) : ∀ (v2 : Int) (h2 : InR v2) (v3 : Int) (h3 : InR v3), Go Φ pr_P fN 1 (bM_testamentsBelow_22 g v0 v1 X22 v2 v3) d pr_m199 22 [some (sR v0), some (sI v1), some (sI v2), some (sI v3)] [] g 0 0 := by
  intro v2 h2 v3 h3
  unfold bM_testamentsBelow_22
  refine go_iload kk199_0.1.2.1.2.1.1 rfl ?_
  refine go_aload kk199_0.1.2.1.2.1.2 rfl ?_
  refine go_getR (bI := 0) kk199_0.1.2.1.2.2 hg hK0 (by decide) rfl rfl (fun r13 => ?_)
  refine go_int kk199_0.1.2.2.1.1.1 0 rfl ?_
  refine go_ck (fun q15 => ?_)
  refine go_iald kk199_0.1.2.2.1.1.2 hg q15 (fun r14 => ?_)
  refine go_cmlt kk199_0.1.2.2.1.2 h3 r14 (fun c16 => ?_) (fun c17 => ?_)
  · refine go_iload kk199_0.1.2.2.2.1 rfl ?_
    refine go_aload kk199_0.1.2.2.2.2 rfl ?_
    refine go_getR (bI := 0) kk199_0.2.1.1.1.1.1 hg hK0 (by decide) rfl rfl (fun r18 => ?_)
    refine go_int kk199_0.2.1.1.1.1.2 140 rfl ?_
    refine go_iload kk199_0.2.1.1.1.2 rfl ?_
    refine go_iadd kk199_0.2.1.1.2.1.1 ?_
    refine go_ck (fun q20 => ?_)
    refine go_iald kk199_0.2.1.1.2.1.2 hg q20 (fun r19 => ?_)
    refine go_int kk199_0.2.1.1.2.2 1 rfl ?_
    refine go_cmeq kk199_0.2.1.2.1.1.1 r19 (inR_b (Or.inr rfl)) (fun c21 => ?_) (fun c22 => ?_)
    · refine go_aload kk199_0.2.1.2.1.1.2 rfl ?_
      refine go_iload kk199_0.2.1.2.1.2 rfl ?_
      refine go_iload kk199_0.2.1.2.2.1 rfl ?_
      refine go_callP3 kk199_0.2.1.2.2.2 rfl rfl rfl ⟨by decide, _, rfl, hK0⟩ ⟨Nat.zero_le _, Nat.zero_le _⟩ (by omega) (tfM_isOver (by omega) hg hK0  h1 h3) (fun y23 r24 => ?_)
      refine go_ifeq kk199_0.2.2.1.1.1.1 (inR_b r24) (fun c27 => ?_) (fun c28 => ?_)
      · refine go_int kk199_0.2.2.1.2.1 0 rfl ?_
        refine go_iadd kk199_0.2.2.1.2.2 ?_
        refine go_istore kk199_0.2.2.2.1.1.1 rfl (loc2 := [some (sR v0), some (sI v1), some (sI (w32 (v2 + 0))), some (sI v3)]) rfl ?_
        refine go_iinc kk199_0.2.2.2.1.1.2 rfl rfl 1 rfl (loc2 := [some (sR v0), some (sI v1), some (sI (w32 (v2 + 0))), some (sI (w32 (v3 + 1)))]) rfl ?_
        refine go_goto kk199_0.2.2.2.1.2 ?_
        exact HX22 (w32 (v2 + 0)) (inR_w32 _) (w32 (v3 + 1)) (inR_w32 _)
      · refine go_int kk199_0.2.2.1.1.1.2 1 rfl ?_
        refine go_goto kk199_0.2.2.1.1.2 ?_
        refine go_iadd kk199_0.2.2.1.2.2 ?_
        refine go_istore kk199_0.2.2.2.1.1.1 rfl (loc2 := [some (sR v0), some (sI v1), some (sI (w32 (v2 + 1))), some (sI v3)]) rfl ?_
        refine go_iinc kk199_0.2.2.2.1.1.2 rfl rfl 1 rfl (loc2 := [some (sR v0), some (sI v1), some (sI (w32 (v2 + 1))), some (sI (w32 (v3 + 1)))]) rfl ?_
        refine go_goto kk199_0.2.2.2.1.2 ?_
        exact HX22 (w32 (v2 + 1)) (inR_w32 _) (w32 (v3 + 1)) (inR_w32 _)
    · refine go_int kk199_0.2.2.1.2.1 0 rfl ?_
      refine go_iadd kk199_0.2.2.1.2.2 ?_
      refine go_istore kk199_0.2.2.2.1.1.1 rfl (loc2 := [some (sR v0), some (sI v1), some (sI (w32 (v2 + 0))), some (sI v3)]) rfl ?_
      refine go_iinc kk199_0.2.2.2.1.1.2 rfl rfl 1 rfl (loc2 := [some (sR v0), some (sI v1), some (sI (w32 (v2 + 0))), some (sI (w32 (v3 + 1)))]) rfl ?_
      refine go_goto kk199_0.2.2.2.1.2 ?_
      exact HX22 (w32 (v2 + 0)) (inR_w32 _) (w32 (v3 + 1)) (inR_w32 _)
  · refine go_iload kk199_0.2.2.2.2.1 rfl ?_
    exact go_iret kk199_0.2.2.2.2.2 hg h2 ⟨Nat.zero_le _, Nat.zero_le _⟩ rfl
theorem tlM_testamentsBelow_22 {Φ : ev_P} {d : Nat} (hd : 2 ≤ d) {g : gH} (hg : HR g) {v0 v1 : Int} (hK0 : kd v0 = 7) (h1 : InR v1) : ∀ n : Nat, ∀ (v2 : Int) (h2 : InR v2) (v3 : Int) (h3 : InR v3), Go Φ pr_P fN 1 (lM_testamentsBelow_22 g v0 v1 n v2 v3) d pr_m199 22 [some (sR v0), some (sI v1), some (sI v2), some (sI v3)] [] g 0 0 := by
  intro n
  induction n with
  | zero => intros; exact go_none
  | succ n ih => exact tbM_testamentsBelow_22 hd hg hK0 h1 ih
theorem tfM_testamentsBelow {Φ : ev_P} {d : Nat} (hd : 2 ≤ d) {g : gH} (hg : HR g) {v0 v1 : Int} (hK0 : kd v0 = 7) (h1 : InR v1) : Go Φ pr_P fN 1 (fM_testamentsBelow g v0 v1) d (pr_P 199) 0 (ev_loc (pr_P 199).1 [(sR v0), (sI v1)]) [] g 0 0 := by
  show Go Φ pr_P fN 1 (fM_testamentsBelow g v0 v1) d pr_m199 0 [some (sR v0), some (sI v1), none, none] [] g 0 0
  unfold fM_testamentsBelow
  refine go_aload kk199_0.1.1.1.1.1.1 rfl ?_
  refine go_iload kk199_0.1.1.1.1.1.2 rfl ?_
  refine go_callN3 kk199_0.1.1.1.1.2 rfl rfl rfl ⟨by decide, _, rfl, hK0⟩ ⟨Nat.zero_le _, Nat.zero_le _⟩ (by omega) (tfM_noProcess (by omega) hg hK0  h1) (fun y1 g3 r2 e4 => ?_)
  refine go_ifeq kk199_0.1.1.1.2.1.1 (inR_b r2) (fun c5 => ?_) (fun c6 => ?_)
  · refine go_aload kk199_0.1.1.1.2.1.2 rfl ?_
    refine go_iload kk199_0.1.1.1.2.2 rfl ?_
    refine go_callP3 kk199_0.1.1.2.1.1.1 rfl rfl rfl ⟨by decide, _, rfl, hK0⟩ ⟨Nat.zero_le _, Nat.zero_le _⟩ (by omega) (tfM_runs (by omega) e4 hK0  h1) (fun y7 r8 => ?_)
    refine go_ifeq kk199_0.1.1.2.1.1.2 (inR_b r8) (fun c11 => ?_) (fun c12 => ?_)
    · refine go_int kk199_0.1.1.2.1.2 0 rfl ?_
      exact go_iret kk199_0.1.1.2.2.1 e4 (inR_b (Or.inl rfl)) ⟨Nat.zero_le _, Nat.zero_le _⟩ rfl
    · refine go_int kk199_0.1.1.2.2.2 0 rfl ?_
      refine go_istore kk199_0.1.2.1.1.1.1 rfl (loc2 := [some (sR v0), some (sI v1), some (sI 0), none]) rfl ?_
      refine go_int kk199_0.1.2.1.1.1.2 1 rfl ?_
      refine go_istore kk199_0.1.2.1.1.2 rfl (loc2 := [some (sR v0), some (sI v1), some (sI 0), some (sI 1)]) rfl ?_
      exact tlM_testamentsBelow_22 hd e4 hK0 h1 fu 0 (inR_b (Or.inl rfl)) 1 (inR_b (Or.inr rfl))
  · refine go_int kk199_0.1.1.2.1.2 0 rfl ?_
    exact go_iret kk199_0.1.1.2.2.1 e4 (inR_b (Or.inl rfl)) ⟨Nat.zero_le _, Nat.zero_le _⟩ rfl
theorem tbM_roomBelow_22 {Φ : ev_P} {d : Nat} (hd : 3 ≤ d) {g : gH} (hg : HR g) {v0 v1 : Int} (hK0 : kd v0 = 7) (h1 : InR v1) {X22 : Int → Int → Option (Int × gH)} (HX22 : ∀ (v2 : Int) (h2 : InR v2) (v3 : Int) (h3 : InR v3), Go Φ pr_P fN 1 (X22 v2 v3) d pr_m200 22 [some (sR v0), some (sI v1), some (sI v2), some (sI v3)] [] g 0 0) : ∀ (v2 : Int) (h2 : InR v2) (v3 : Int) (h3 : InR v3), Go Φ pr_P fN 1 (bM_roomBelow_22 g v0 v1 X22 v2 v3) d pr_m200 22 [some (sR v0), some (sI v1), some (sI v2), some (sI v3)] [] g 0 0 := by
  intro v2 h2 v3 h3
  unfold bM_roomBelow_22
  refine go_iload kk200_0.1.2.1.2.1 rfl ?_
  refine go_aload kk200_0.1.2.1.2.2 rfl ?_
  refine go_getR (bI := 0) kk200_0.1.2.2.1.1.1 hg hK0 (by decide) rfl rfl (fun r13 => ?_)
  refine go_int kk200_0.1.2.2.1.1.2 0 rfl ?_
  refine go_ck (fun q15 => ?_)
  refine go_iald kk200_0.1.2.2.1.2 hg q15 (fun r14 => ?_)
  refine go_cmlt kk200_0.1.2.2.2.1 h3 r14 (fun c16 => ?_) (fun c17 => ?_)
  · refine go_iload kk200_0.1.2.2.2.2 rfl ?_
    refine go_aload kk200_0.2.1.1.1.1.1 rfl ?_
    refine go_iload kk200_0.2.1.1.1.1.2 rfl ?_
    refine go_callP3 kk200_0.2.1.1.1.2 rfl rfl rfl ⟨by decide, _, rfl, hK0⟩ ⟨Nat.zero_le _, Nat.zero_le _⟩ (by omega) (tfM_runs (by omega) hg hK0  h3) (fun y18 r19 => ?_)
    refine go_ifeq kk200_0.2.1.1.2.1 (inR_b r19) (fun c22 => ?_) (fun c23 => ?_)
    · refine go_int kk200_0.2.2.1.2.1 0 rfl ?_
      refine go_iadd kk200_0.2.2.1.2.2 ?_
      refine go_istore kk200_0.2.2.2.1.1.1 rfl (loc2 := [some (sR v0), some (sI v1), some (sI (w32 (v2 + 0))), some (sI v3)]) rfl ?_
      refine go_iinc kk200_0.2.2.2.1.1.2 rfl rfl 1 rfl (loc2 := [some (sR v0), some (sI v1), some (sI (w32 (v2 + 0))), some (sI (w32 (v3 + 1)))]) rfl ?_
      refine go_goto kk200_0.2.2.2.1.2 ?_
      exact HX22 (w32 (v2 + 0)) (inR_w32 _) (w32 (v3 + 1)) (inR_w32 _)
    · refine go_aload kk200_0.2.1.1.2.2 rfl ?_
      refine go_iload kk200_0.2.1.2.1.1.1 rfl ?_
      refine go_iload kk200_0.2.1.2.1.1.2 rfl ?_
      refine go_callP3 kk200_0.2.1.2.1.2 rfl rfl rfl ⟨by decide, _, rfl, hK0⟩ ⟨Nat.zero_le _, Nat.zero_le _⟩ (by omega) (tfM_isOver (by omega) hg hK0  h1 h3) (fun y24 r25 => ?_)
      refine go_ifeq kk200_0.2.1.2.2.1 (inR_b r25) (fun c28 => ?_) (fun c29 => ?_)
      · refine go_int kk200_0.2.2.1.2.1 0 rfl ?_
        refine go_iadd kk200_0.2.2.1.2.2 ?_
        refine go_istore kk200_0.2.2.2.1.1.1 rfl (loc2 := [some (sR v0), some (sI v1), some (sI (w32 (v2 + 0))), some (sI v3)]) rfl ?_
        refine go_iinc kk200_0.2.2.2.1.1.2 rfl rfl 1 rfl (loc2 := [some (sR v0), some (sI v1), some (sI (w32 (v2 + 0))), some (sI (w32 (v3 + 1)))]) rfl ?_
        refine go_goto kk200_0.2.2.2.1.2 ?_
        exact HX22 (w32 (v2 + 0)) (inR_w32 _) (w32 (v3 + 1)) (inR_w32 _)
      · refine go_aload kk200_0.2.1.2.2.2 rfl ?_
        refine go_iload kk200_0.2.2.1.1.1.1 rfl ?_
        refine go_callP1 kk200_0.2.2.1.1.1.2 rfl rfl rfl ⟨by decide, _, rfl, hK0⟩ ⟨Nat.zero_le _, Nat.zero_le _⟩ (by omega) (tfM_roomOf (by omega) hg hK0  h3) (fun y30 r31 => ?_)
        refine go_goto kk200_0.2.2.1.1.2 ?_
        refine go_iadd kk200_0.2.2.1.2.2 ?_
        refine go_istore kk200_0.2.2.2.1.1.1 rfl (loc2 := [some (sR v0), some (sI v1), some (sI (w32 (v2 + y30))), some (sI v3)]) rfl ?_
        refine go_iinc kk200_0.2.2.2.1.1.2 rfl rfl 1 rfl (loc2 := [some (sR v0), some (sI v1), some (sI (w32 (v2 + y30))), some (sI (w32 (v3 + 1)))]) rfl ?_
        refine go_goto kk200_0.2.2.2.1.2 ?_
        exact HX22 (w32 (v2 + y30)) (inR_w32 _) (w32 (v3 + 1)) (inR_w32 _)
  · refine go_iload kk200_0.2.2.2.2.1 rfl ?_
    exact go_iret kk200_0.2.2.2.2.2 hg h2 ⟨Nat.zero_le _, Nat.zero_le _⟩ rfl
theorem tlM_roomBelow_22 {Φ : ev_P} {d : Nat} (hd : 3 ≤ d) {g : gH} (hg : HR g) {v0 v1 : Int} (hK0 : kd v0 = 7) (h1 : InR v1) : ∀ n : Nat, ∀ (v2 : Int) (h2 : InR v2) (v3 : Int) (h3 : InR v3), Go Φ pr_P fN 1 (lM_roomBelow_22 g v0 v1 n v2 v3) d pr_m200 22 [some (sR v0), some (sI v1), some (sI v2), some (sI v3)] [] g 0 0 := by
  intro n
  induction n with
  | zero => intros; exact go_none
  | succ n ih => exact tbM_roomBelow_22 hd hg hK0 h1 ih
theorem tfM_roomBelow {Φ : ev_P} {d : Nat} (hd : 3 ≤ d) {g : gH} (hg : HR g) {v0 v1 : Int} (hK0 : kd v0 = 7) (h1 : InR v1) : Go Φ pr_P fN 1 (fM_roomBelow g v0 v1) d (pr_P 200) 0 (ev_loc (pr_P 200).1 [(sR v0), (sI v1)]) [] g 0 0 := by
  show Go Φ pr_P fN 1 (fM_roomBelow g v0 v1) d pr_m200 0 [some (sR v0), some (sI v1), none, none] [] g 0 0
  unfold fM_roomBelow
  refine go_aload kk200_0.1.1.1.1.1.1 rfl ?_
  refine go_iload kk200_0.1.1.1.1.1.2 rfl ?_
  refine go_callN3 kk200_0.1.1.1.1.2 rfl rfl rfl ⟨by decide, _, rfl, hK0⟩ ⟨Nat.zero_le _, Nat.zero_le _⟩ (by omega) (tfM_noProcess (by omega) hg hK0  h1) (fun y1 g3 r2 e4 => ?_)
  refine go_ifeq kk200_0.1.1.1.2.1.1 (inR_b r2) (fun c5 => ?_) (fun c6 => ?_)
  · refine go_aload kk200_0.1.1.1.2.1.2 rfl ?_
    refine go_iload kk200_0.1.1.1.2.2 rfl ?_
    refine go_callP3 kk200_0.1.1.2.1.1.1 rfl rfl rfl ⟨by decide, _, rfl, hK0⟩ ⟨Nat.zero_le _, Nat.zero_le _⟩ (by omega) (tfM_runs (by omega) e4 hK0  h1) (fun y7 r8 => ?_)
    refine go_ifeq kk200_0.1.1.2.1.1.2 (inR_b r8) (fun c11 => ?_) (fun c12 => ?_)
    · refine go_int kk200_0.1.1.2.1.2 0 rfl ?_
      exact go_iret kk200_0.1.1.2.2.1 e4 (inR_b (Or.inl rfl)) ⟨Nat.zero_le _, Nat.zero_le _⟩ rfl
    · refine go_int kk200_0.1.1.2.2.2 0 rfl ?_
      refine go_istore kk200_0.1.2.1.1.1.1 rfl (loc2 := [some (sR v0), some (sI v1), some (sI 0), none]) rfl ?_
      refine go_int kk200_0.1.2.1.1.1.2 1 rfl ?_
      refine go_istore kk200_0.1.2.1.1.2 rfl (loc2 := [some (sR v0), some (sI v1), some (sI 0), some (sI 1)]) rfl ?_
      exact tlM_roomBelow_22 hd e4 hK0 h1 fu 0 (inR_b (Or.inl rfl)) 1 (inR_b (Or.inr rfl))
  · refine go_int kk200_0.1.1.2.1.2 0 rfl ?_
    exact go_iret kk200_0.1.1.2.2.1 e4 (inR_b (Or.inl rfl)) ⟨Nat.zero_le _, Nat.zero_le _⟩ rfl
theorem tjM_mostAdopted_56 {Φ : ev_P} {d : Nat} (hd : 1 ≤ d) {X9 : Int → Int → Option (Int × gH)} {g : gH} (hg : HR g) {v0 v1 v2 : Int} (hK0 : kd v0 = 7) (h1 : InR v1) (h2 : InR v2) {s0 s1 : Int} (z0 : InR s0) (z1 : InR s1) (HX9 : ∀ (v1 : Int) (h1 : InR v1) (v2 : Int) (h2 : InR v2), Go Φ pr_P fN 1 (X9 v1 v2) d pr_m201 9 [some (sR v0), some (sI v1), some (sI v2)] [] g 0 0) : Go Φ pr_P fN 1 (jM_mostAdopted_56 X9 g v0 v1 v2 s0 s1 ) d pr_m201 56 [some (sR v0), some (sI v1), some (sI v2)] [(sI s1), (sI s0)] g 0 0 := by
  unfold jM_mostAdopted_56
  refine go_cmgt kk201_0.2.2.1.2.1 z0 z1 (fun c22 => ?_) (fun c23 => ?_)
  · refine go_iload kk201_0.2.2.1.2.2 rfl ?_
    refine go_istore kk201_0.2.2.2.1.1.1 rfl (loc2 := [some (sR v0), some (sI v2), some (sI v2)]) rfl ?_
    refine go_iinc kk201_0.2.2.2.1.1.2 rfl rfl 1 rfl (loc2 := [some (sR v0), some (sI v2), some (sI (w32 (v2 + 1)))]) rfl ?_
    refine go_goto kk201_0.2.2.2.1.2 ?_
    exact HX9 v2 h2 (w32 (v2 + 1)) (inR_w32 _)
  · refine go_iinc kk201_0.2.2.2.1.1.2 rfl rfl 1 rfl (loc2 := [some (sR v0), some (sI v1), some (sI (w32 (v2 + 1)))]) rfl ?_
    refine go_goto kk201_0.2.2.2.1.2 ?_
    exact HX9 v1 h1 (w32 (v2 + 1)) (inR_w32 _)
theorem tbM_mostAdopted_9 {Φ : ev_P} {d : Nat} (hd : 1 ≤ d) {g : gH} (hg : HR g) {v0 : Int} (hK0 : kd v0 = 7) {X9 : Int → Int → Option (Int × gH)} (HX9 : ∀ (v1 : Int) (h1 : InR v1) (v2 : Int) (h2 : InR v2), Go Φ pr_P fN 1 (X9 v1 v2) d pr_m201 9 [some (sR v0), some (sI v1), some (sI v2)] [] g 0 0) : ∀ (v1 : Int) (h1 : InR v1) (v2 : Int) (h2 : InR v2), Go Φ pr_P fN 1 (bM_mostAdopted_9 g v0 X9 v1 v2) d pr_m201 9 [some (sR v0), some (sI v1), some (sI v2)] [] g 0 0 := by
  intro v1 h1 v2 h2
  unfold bM_mostAdopted_9
  refine go_iload kk201_0.1.1.2.1.1.2 rfl ?_
  refine go_aload kk201_0.1.1.2.1.2 rfl ?_
  refine go_getR (bI := 0) kk201_0.1.1.2.2.1 hg hK0 (by decide) rfl rfl (fun r3 => ?_)
  refine go_int kk201_0.1.1.2.2.2 0 rfl ?_
  refine go_ck (fun q5 => ?_)
  refine go_iald kk201_0.1.2.1.1.1.1 hg q5 (fun r4 => ?_)
  refine go_cmlt kk201_0.1.2.1.1.1.2 h2 r4 (fun c6 => ?_) (fun c7 => ?_)
  · refine go_aload kk201_0.1.2.1.1.2 rfl ?_
    refine go_iload kk201_0.1.2.1.2.1 rfl ?_
    refine go_callP3 kk201_0.1.2.1.2.2 rfl rfl rfl ⟨by decide, _, rfl, hK0⟩ ⟨Nat.zero_le _, Nat.zero_le _⟩ (by omega) (tfM_runs (by omega) hg hK0  h2) (fun y8 r9 => ?_)
    refine go_ifeq kk201_0.1.2.2.1.1.1 (inR_b r9) (fun c12 => ?_) (fun c13 => ?_)
    · refine go_iinc kk201_0.2.2.2.1.1.2 rfl rfl 1 rfl (loc2 := [some (sR v0), some (sI v1), some (sI (w32 (v2 + 1)))]) rfl ?_
      refine go_goto kk201_0.2.2.2.1.2 ?_
      exact HX9 v1 h1 (w32 (v2 + 1)) (inR_w32 _)
    · refine go_aload kk201_0.1.2.2.1.1.2 rfl ?_
      refine go_getR (bI := 0) kk201_0.1.2.2.1.2 hg hK0 (by decide) rfl rfl (fun r14 => ?_)
      refine go_int kk201_0.1.2.2.2.1 380 rfl ?_
      refine go_iload kk201_0.1.2.2.2.2 rfl ?_
      refine go_iadd kk201_0.2.1.1.1.1.1 ?_
      refine go_ck (fun q16 => ?_)
      refine go_iald kk201_0.2.1.1.1.1.2 hg q16 (fun r15 => ?_)
      refine go_iload kk201_0.2.1.1.1.2 rfl ?_
      refine go_int kk201_0.2.1.1.2.1 (-1) rfl ?_
      refine go_cmeq kk201_0.2.1.1.2.2 h1 (inR_of (by decide)) (fun c17 => ?_) (fun c18 => ?_)
      · refine go_int kk201_0.2.1.2.1.1.1 0 rfl ?_
        refine go_goto kk201_0.2.1.2.1.1.2 ?_
        exact tjM_mostAdopted_56 hd hg hK0 h1 h2 r15 (inR_b (Or.inl rfl)) HX9
      · refine go_aload kk201_0.2.1.2.1.2 rfl ?_
        refine go_getR (bI := 0) kk201_0.2.1.2.2.1 hg hK0 (by decide) rfl rfl (fun r19 => ?_)
        refine go_int kk201_0.2.1.2.2.2 380 rfl ?_
        refine go_iload kk201_0.2.2.1.1.1.1 rfl ?_
        refine go_iadd kk201_0.2.2.1.1.1.2 ?_
        refine go_ck (fun q21 => ?_)
        refine go_iald kk201_0.2.2.1.1.2 hg q21 (fun r20 => ?_)
        exact tjM_mostAdopted_56 hd hg hK0 h1 h2 r15 r20 HX9
  · refine go_iload kk201_0.2.2.2.2.1 rfl ?_
    exact go_iret kk201_0.2.2.2.2.2 hg h1 ⟨Nat.zero_le _, Nat.zero_le _⟩ rfl
theorem tlM_mostAdopted_9 {Φ : ev_P} {d : Nat} (hd : 1 ≤ d) {g : gH} (hg : HR g) {v0 : Int} (hK0 : kd v0 = 7) : ∀ n : Nat, ∀ (v1 : Int) (h1 : InR v1) (v2 : Int) (h2 : InR v2), Go Φ pr_P fN 1 (lM_mostAdopted_9 g v0 n v1 v2) d pr_m201 9 [some (sR v0), some (sI v1), some (sI v2)] [] g 0 0 := by
  intro n
  induction n with
  | zero => intros; exact go_none
  | succ n ih => exact tbM_mostAdopted_9 hd hg hK0 ih
theorem tfM_mostAdopted {Φ : ev_P} {d : Nat} (hd : 1 ≤ d) {g : gH} (hg : HR g) {v0 : Int} (hK0 : kd v0 = 7) : Go Φ pr_P fN 1 (fM_mostAdopted g v0) d (pr_P 201) 0 (ev_loc (pr_P 201).1 [(sR v0)]) [] g 0 0 := by
  show Go Φ pr_P fN 1 (fM_mostAdopted g v0) d pr_m201 0 [some (sR v0), none, none] [] g 0 0
  unfold fM_mostAdopted
  refine go_aload kk201_0.1.1.1.1.1.1 rfl ?_
  refine go_int kk201_0.1.1.1.1.1.2 0 rfl ?_
  refine go_putI (bI := 8) kk201_0.1.1.1.1.2 hg hK0 (by decide) rfl rfl (inR_b (Or.inl rfl)) (fun g1 e2 => ?_)
  refine go_int kk201_0.1.1.1.2.1.1 (-1) rfl ?_
  refine go_istore kk201_0.1.1.1.2.1.2 rfl (loc2 := [some (sR v0), some (sI (-1)), none]) rfl ?_
  refine go_int kk201_0.1.1.1.2.2 1 rfl ?_
  refine go_istore kk201_0.1.1.2.1.1.1 rfl (loc2 := [some (sR v0), some (sI (-1)), some (sI 1)]) rfl ?_
  exact tlM_mostAdopted_9 hd e2 hK0 fu (-1) (inR_of (by decide)) 1 (inR_b (Or.inr rfl))
theorem tbM_heaviest_14 {Φ : ev_P} {d : Nat} (hd : 2 ≤ d) {g : gH} (hg : HR g) {v0 v1 : Int} (hK0 : kd v0 = 7) (h1 : InR v1) {X14 : Int → Int → Option (Int × gH)} (HX14 : ∀ (v2 : Int) (h2 : InR v2) (v3 : Int) (h3 : InR v3), Go Φ pr_P fN 1 (X14 v2 v3) d pr_m202 14 [some (sR v0), some (sI v1), some (sI v2), some (sI v3)] [] g 0 0) : ∀ (v2 : Int) (h2 : InR v2) (v3 : Int) (h3 : InR v3), Go Φ pr_P fN 1 (bM_heaviest_14 g v0 v1 X14 v2 v3) d pr_m202 14 [some (sR v0), some (sI v1), some (sI v2), some (sI v3)] [] g 0 0 := by
  intro v2 h2 v3 h3
  unfold bM_heaviest_14
  refine go_iload kk202_0.1.2.1.1.1.1 rfl ?_
  refine go_aload kk202_0.1.2.1.1.1.2 rfl ?_
  refine go_getR (bI := 0) kk202_0.1.2.1.1.2 hg hK0 (by decide) rfl rfl (fun r7 => ?_)
  refine go_int kk202_0.1.2.1.2.1 0 rfl ?_
  refine go_ck (fun q9 => ?_)
  refine go_iald kk202_0.1.2.1.2.2 hg q9 (fun r8 => ?_)
  refine go_cmlt kk202_0.1.2.2.1.1 h3 r8 (fun c10 => ?_) (fun c11 => ?_)
  · refine go_aload kk202_0.1.2.2.1.2 rfl ?_
    refine go_iload kk202_0.1.2.2.2.1 rfl ?_
    refine go_iload kk202_0.1.2.2.2.2 rfl ?_
    refine go_int kk202_0.2.1.1.1.1.1 0 rfl ?_
    refine go_callP3 kk202_0.2.1.1.1.1.2 rfl rfl rfl ⟨by decide, _, rfl, hK0⟩ ⟨Nat.zero_le _, Nat.zero_le _⟩ (by omega) (tfM_isChild (by omega) hg hK0  h3 h1 (inR_b (Or.inl rfl))) (fun y12 r13 => ?_)
    refine go_ifeq kk202_0.2.1.1.1.2 (inR_b r13) (fun c16 => ?_) (fun c17 => ?_)
    · refine go_iinc kk202_0.2.2.2.1.1 rfl rfl 1 rfl (loc2 := [some (sR v0), some (sI v1), some (sI v2), some (sI (w32 (v3 + 1)))]) rfl ?_
      refine go_goto kk202_0.2.2.2.1.2 ?_
      exact HX14 v2 h2 (w32 (v3 + 1)) (inR_w32 _)
    · refine go_iload kk202_0.2.1.1.2.1 rfl ?_
      refine go_int kk202_0.2.1.1.2.2 (-1) rfl ?_
      refine go_cmeq kk202_0.2.1.2.1.1.1 h2 (inR_of (by decide)) (fun c18 => ?_) (fun c19 => ?_)
      · refine go_iload kk202_0.2.2.1.2.1 rfl ?_
        refine go_istore kk202_0.2.2.1.2.2 rfl (loc2 := [some (sR v0), some (sI v1), some (sI v3), some (sI v3)]) rfl ?_
        refine go_iinc kk202_0.2.2.2.1.1 rfl rfl 1 rfl (loc2 := [some (sR v0), some (sI v1), some (sI v3), some (sI (w32 (v3 + 1)))]) rfl ?_
        refine go_goto kk202_0.2.2.2.1.2 ?_
        exact HX14 v3 h3 (w32 (v3 + 1)) (inR_w32 _)
      · refine go_aload kk202_0.2.1.2.1.1.2 rfl ?_
        refine go_iload kk202_0.2.1.2.1.2 rfl ?_
        refine go_callP1 kk202_0.2.1.2.2.1 rfl rfl rfl ⟨by decide, _, rfl, hK0⟩ ⟨Nat.zero_le _, Nat.zero_le _⟩ (by omega) (tfM_belowOf (by omega) hg hK0  h3) (fun y20 r21 => ?_)
        refine go_aload kk202_0.2.1.2.2.2 rfl ?_
        refine go_iload kk202_0.2.2.1.1.1.1 rfl ?_
        refine go_callP1 kk202_0.2.2.1.1.1.2 rfl rfl rfl ⟨by decide, _, rfl, hK0⟩ ⟨Nat.zero_le _, Nat.zero_le _⟩ (by omega) (tfM_belowOf (by omega) hg hK0  h2) (fun y24 r25 => ?_)
        refine go_cmgt kk202_0.2.2.1.1.2 r21 r25 (fun c28 => ?_) (fun c29 => ?_)
        · refine go_iload kk202_0.2.2.1.2.1 rfl ?_
          refine go_istore kk202_0.2.2.1.2.2 rfl (loc2 := [some (sR v0), some (sI v1), some (sI v3), some (sI v3)]) rfl ?_
          refine go_iinc kk202_0.2.2.2.1.1 rfl rfl 1 rfl (loc2 := [some (sR v0), some (sI v1), some (sI v3), some (sI (w32 (v3 + 1)))]) rfl ?_
          refine go_goto kk202_0.2.2.2.1.2 ?_
          exact HX14 v3 h3 (w32 (v3 + 1)) (inR_w32 _)
        · refine go_iinc kk202_0.2.2.2.1.1 rfl rfl 1 rfl (loc2 := [some (sR v0), some (sI v1), some (sI v2), some (sI (w32 (v3 + 1)))]) rfl ?_
          refine go_goto kk202_0.2.2.2.1.2 ?_
          exact HX14 v2 h2 (w32 (v3 + 1)) (inR_w32 _)
  · refine go_iload kk202_0.2.2.2.2.1 rfl ?_
    exact go_iret kk202_0.2.2.2.2.2 hg h2 ⟨Nat.zero_le _, Nat.zero_le _⟩ rfl
theorem tlM_heaviest_14 {Φ : ev_P} {d : Nat} (hd : 2 ≤ d) {g : gH} (hg : HR g) {v0 v1 : Int} (hK0 : kd v0 = 7) (h1 : InR v1) : ∀ n : Nat, ∀ (v2 : Int) (h2 : InR v2) (v3 : Int) (h3 : InR v3), Go Φ pr_P fN 1 (lM_heaviest_14 g v0 v1 n v2 v3) d pr_m202 14 [some (sR v0), some (sI v1), some (sI v2), some (sI v3)] [] g 0 0 := by
  intro n
  induction n with
  | zero => intros; exact go_none
  | succ n ih => exact tbM_heaviest_14 hd hg hK0 h1 ih
theorem tfM_heaviest {Φ : ev_P} {d : Nat} (hd : 2 ≤ d) {g : gH} (hg : HR g) {v0 v1 : Int} (hK0 : kd v0 = 7) (h1 : InR v1) : Go Φ pr_P fN 1 (fM_heaviest g v0 v1) d (pr_P 202) 0 (ev_loc (pr_P 202).1 [(sR v0), (sI v1)]) [] g 0 0 := by
  show Go Φ pr_P fN 1 (fM_heaviest g v0 v1) d pr_m202 0 [some (sR v0), some (sI v1), none, none] [] g 0 0
  unfold fM_heaviest
  refine go_aload kk202_0.1.1.1.1.1.1 rfl ?_
  refine go_iload kk202_0.1.1.1.1.1.2 rfl ?_
  refine go_callN3 kk202_0.1.1.1.1.2 rfl rfl rfl ⟨by decide, _, rfl, hK0⟩ ⟨Nat.zero_le _, Nat.zero_le _⟩ (by omega) (tfM_noProcess (by omega) hg hK0  h1) (fun y1 g3 r2 e4 => ?_)
  refine go_ifeq kk202_0.1.1.1.2.1 (inR_b r2) (fun c5 => ?_) (fun c6 => ?_)
  · refine go_int kk202_0.1.1.2.1.1.2 (-1) rfl ?_
    refine go_istore kk202_0.1.1.2.1.2 rfl (loc2 := [some (sR v0), some (sI v1), some (sI (-1)), none]) rfl ?_
    refine go_int kk202_0.1.1.2.2.1 1 rfl ?_
    refine go_istore kk202_0.1.1.2.2.2 rfl (loc2 := [some (sR v0), some (sI v1), some (sI (-1)), some (sI 1)]) rfl ?_
    exact tlM_heaviest_14 hd e4 hK0 h1 fu (-1) (inR_of (by decide)) 1 (inR_b (Or.inr rfl))
  · refine go_int kk202_0.1.1.1.2.2 0 rfl ?_
    exact go_iret kk202_0.1.1.2.1.1.1 e4 (inR_b (Or.inl rfl)) ⟨Nat.zero_le _, Nat.zero_le _⟩ rfl
theorem tbM_groupsBelow_22 {Φ : ev_P} {d : Nat} (hd : 2 ≤ d) {g : gH} (hg : HR g) {v0 v1 : Int} (hK0 : kd v0 = 7) (h1 : InR v1) {X22 : Int → Int → Option (Int × gH)} (HX22 : ∀ (v2 : Int) (h2 : InR v2) (v3 : Int) (h3 : InR v3), Go Φ pr_P fN 1 (X22 v2 v3) d pr_m203 22 [some (sR v0), some (sI v1), some (sI v2), some (sI v3)] [] g 0 0) : ∀ (v2 : Int) (h2 : InR v2) (v3 : Int) (h3 : InR v3), Go Φ pr_P fN 1 (bM_groupsBelow_22 g v0 v1 X22 v2 v3) d pr_m203 22 [some (sR v0), some (sI v1), some (sI v2), some (sI v3)] [] g 0 0 := by
  intro v2 h2 v3 h3
  unfold bM_groupsBelow_22
  refine go_iload kk203_0.1.2.1.1.2 rfl ?_
  refine go_aload kk203_0.1.2.1.2.1.1 rfl ?_
  refine go_getR (bI := 0) kk203_0.1.2.1.2.1.2 hg hK0 (by decide) rfl rfl (fun r13 => ?_)
  refine go_int kk203_0.1.2.1.2.2 0 rfl ?_
  refine go_ck (fun q15 => ?_)
  refine go_iald kk203_0.1.2.2.1.1.1 hg q15 (fun r14 => ?_)
  refine go_cmlt kk203_0.1.2.2.1.1.2 h3 r14 (fun c16 => ?_) (fun c17 => ?_)
  · refine go_iload kk203_0.1.2.2.1.2 rfl ?_
    refine go_aload kk203_0.1.2.2.2.1 rfl ?_
    refine go_iload kk203_0.1.2.2.2.2 rfl ?_
    refine go_callP3 kk203_0.2.1.1.1.1.1 rfl rfl rfl ⟨by decide, _, rfl, hK0⟩ ⟨Nat.zero_le _, Nat.zero_le _⟩ (by omega) (tfM_runs (by omega) hg hK0  h3) (fun y18 r19 => ?_)
    refine go_ifeq kk203_0.2.1.1.1.1.2 (inR_b r19) (fun c22 => ?_) (fun c23 => ?_)
    · refine go_int kk203_0.2.2.1.2.1.2 0 rfl ?_
      refine go_ibin kk203_0.2.2.1.2.2 ?_
      refine go_istore kk203_0.2.2.2.1.1.1 rfl (loc2 := [some (sR v0), some (sI v1), some (sI (opI 2 v2 0)), some (sI v3)]) rfl ?_
      refine go_iinc kk203_0.2.2.2.1.1.2 rfl rfl 1 rfl (loc2 := [some (sR v0), some (sI v1), some (sI (opI 2 v2 0)), some (sI (w32 (v3 + 1)))]) rfl ?_
      refine go_goto kk203_0.2.2.2.1.2 ?_
      exact HX22 (opI 2 v2 0) (inR_opI _ _ _) (w32 (v3 + 1)) (inR_w32 _)
    · refine go_aload kk203_0.2.1.1.1.2 rfl ?_
      refine go_iload kk203_0.2.1.1.2.1.1 rfl ?_
      refine go_iload kk203_0.2.1.1.2.1.2 rfl ?_
      refine go_callP3 kk203_0.2.1.1.2.2 rfl rfl rfl ⟨by decide, _, rfl, hK0⟩ ⟨Nat.zero_le _, Nat.zero_le _⟩ (by omega) (tfM_isOver (by omega) hg hK0  h1 h3) (fun y24 r25 => ?_)
      refine go_ifeq kk203_0.2.1.2.1.1.1 (inR_b r25) (fun c28 => ?_) (fun c29 => ?_)
      · refine go_int kk203_0.2.2.1.2.1.2 0 rfl ?_
        refine go_ibin kk203_0.2.2.1.2.2 ?_
        refine go_istore kk203_0.2.2.2.1.1.1 rfl (loc2 := [some (sR v0), some (sI v1), some (sI (opI 2 v2 0)), some (sI v3)]) rfl ?_
        refine go_iinc kk203_0.2.2.2.1.1.2 rfl rfl 1 rfl (loc2 := [some (sR v0), some (sI v1), some (sI (opI 2 v2 0)), some (sI (w32 (v3 + 1)))]) rfl ?_
        refine go_goto kk203_0.2.2.2.1.2 ?_
        exact HX22 (opI 2 v2 0) (inR_opI _ _ _) (w32 (v3 + 1)) (inR_w32 _)
      · refine go_int kk203_0.2.1.2.1.1.2 1 rfl ?_
        refine go_aload kk203_0.2.1.2.1.2 rfl ?_
        refine go_getR (bI := 0) kk203_0.2.1.2.2.1.1 hg hK0 (by decide) rfl rfl (fun r30 => ?_)
        refine go_int kk203_0.2.1.2.2.1.2 180 rfl ?_
        refine go_iload kk203_0.2.1.2.2.2 rfl ?_
        refine go_iadd kk203_0.2.2.1.1.1.1 ?_
        refine go_ck (fun q32 => ?_)
        refine go_iald kk203_0.2.2.1.1.1.2 hg q32 (fun r31 => ?_)
        refine go_ibin kk203_0.2.2.1.1.2 ?_
        refine go_goto kk203_0.2.2.1.2.1.1 ?_
        refine go_ibin kk203_0.2.2.1.2.2 ?_
        refine go_istore kk203_0.2.2.2.1.1.1 rfl (loc2 := [some (sR v0), some (sI v1), some (sI (opI 2 v2 (opI 4 1 (g (g v0 0) (w32 (180 + v3)))))), some (sI v3)]) rfl ?_
        refine go_iinc kk203_0.2.2.2.1.1.2 rfl rfl 1 rfl (loc2 := [some (sR v0), some (sI v1), some (sI (opI 2 v2 (opI 4 1 (g (g v0 0) (w32 (180 + v3)))))), some (sI (w32 (v3 + 1)))]) rfl ?_
        refine go_goto kk203_0.2.2.2.1.2 ?_
        exact HX22 (opI 2 v2 (opI 4 1 (g (g v0 0) (w32 (180 + v3))))) (inR_opI _ _ _) (w32 (v3 + 1)) (inR_w32 _)
  · refine go_iload kk203_0.2.2.2.2.1 rfl ?_
    exact go_iret kk203_0.2.2.2.2.2 hg h2 ⟨Nat.zero_le _, Nat.zero_le _⟩ rfl
theorem tlM_groupsBelow_22 {Φ : ev_P} {d : Nat} (hd : 2 ≤ d) {g : gH} (hg : HR g) {v0 v1 : Int} (hK0 : kd v0 = 7) (h1 : InR v1) : ∀ n : Nat, ∀ (v2 : Int) (h2 : InR v2) (v3 : Int) (h3 : InR v3), Go Φ pr_P fN 1 (lM_groupsBelow_22 g v0 v1 n v2 v3) d pr_m203 22 [some (sR v0), some (sI v1), some (sI v2), some (sI v3)] [] g 0 0 := by
  intro n
  induction n with
  | zero => intros; exact go_none
  | succ n ih => exact tbM_groupsBelow_22 hd hg hK0 h1 ih
theorem tfM_groupsBelow {Φ : ev_P} {d : Nat} (hd : 2 ≤ d) {g : gH} (hg : HR g) {v0 v1 : Int} (hK0 : kd v0 = 7) (h1 : InR v1) : Go Φ pr_P fN 1 (fM_groupsBelow g v0 v1) d (pr_P 203) 0 (ev_loc (pr_P 203).1 [(sR v0), (sI v1)]) [] g 0 0 := by
  show Go Φ pr_P fN 1 (fM_groupsBelow g v0 v1) d pr_m203 0 [some (sR v0), some (sI v1), none, none] [] g 0 0
  unfold fM_groupsBelow
  refine go_aload kk203_0.1.1.1.1.1.1 rfl ?_
  refine go_iload kk203_0.1.1.1.1.1.2 rfl ?_
  refine go_callN3 kk203_0.1.1.1.1.2 rfl rfl rfl ⟨by decide, _, rfl, hK0⟩ ⟨Nat.zero_le _, Nat.zero_le _⟩ (by omega) (tfM_noProcess (by omega) hg hK0  h1) (fun y1 g3 r2 e4 => ?_)
  refine go_ifeq kk203_0.1.1.1.2.1.1 (inR_b r2) (fun c5 => ?_) (fun c6 => ?_)
  · refine go_aload kk203_0.1.1.1.2.1.2 rfl ?_
    refine go_iload kk203_0.1.1.1.2.2 rfl ?_
    refine go_callP3 kk203_0.1.1.2.1.1.1 rfl rfl rfl ⟨by decide, _, rfl, hK0⟩ ⟨Nat.zero_le _, Nat.zero_le _⟩ (by omega) (tfM_runs (by omega) e4 hK0  h1) (fun y7 r8 => ?_)
    refine go_ifeq kk203_0.1.1.2.1.1.2 (inR_b r8) (fun c11 => ?_) (fun c12 => ?_)
    · refine go_int kk203_0.1.1.2.1.2 0 rfl ?_
      exact go_iret kk203_0.1.1.2.2.1.1 e4 (inR_b (Or.inl rfl)) ⟨Nat.zero_le _, Nat.zero_le _⟩ rfl
    · refine go_int kk203_0.1.1.2.2.1.2 0 rfl ?_
      refine go_istore kk203_0.1.1.2.2.2 rfl (loc2 := [some (sR v0), some (sI v1), some (sI 0), none]) rfl ?_
      refine go_int kk203_0.1.2.1.1.1.1 1 rfl ?_
      refine go_istore kk203_0.1.2.1.1.1.2 rfl (loc2 := [some (sR v0), some (sI v1), some (sI 0), some (sI 1)]) rfl ?_
      exact tlM_groupsBelow_22 hd e4 hK0 h1 fu 0 (inR_b (Or.inl rfl)) 1 (inR_b (Or.inr rfl))
  · refine go_int kk203_0.1.1.2.1.2 0 rfl ?_
    exact go_iret kk203_0.1.1.2.2.1.1 e4 (inR_b (Or.inl rfl)) ⟨Nat.zero_le _, Nat.zero_le _⟩ rfl
theorem tbM_strangers_14 {Φ : ev_P} {d : Nat} (hd : 2 ≤ d) {g : gH} (hg : HR g) {v0 v1 : Int} (hK0 : kd v0 = 7) (h1 : InR v1) {X14 : Int → Int → Option (Int × gH)} (HX14 : ∀ (v2 : Int) (h2 : InR v2) (v3 : Int) (h3 : InR v3), Go Φ pr_P fN 1 (X14 v2 v3) d pr_m204 14 [some (sR v0), some (sI v1), some (sI v2), some (sI v3)] [] g 0 0) : ∀ (v2 : Int) (h2 : InR v2) (v3 : Int) (h3 : InR v3), Go Φ pr_P fN 1 (bM_strangers_14 g v0 v1 X14 v2 v3) d pr_m204 14 [some (sR v0), some (sI v1), some (sI v2), some (sI v3)] [] g 0 0 := by
  intro v2 h2 v3 h3
  unfold bM_strangers_14
  refine go_iload kk204_0.1.1.2.2.1.2 rfl ?_
  refine go_aload kk204_0.1.1.2.2.2 rfl ?_
  refine go_getR (bI := 0) kk204_0.1.2.1.1.1.1 hg hK0 (by decide) rfl rfl (fun r7 => ?_)
  refine go_int kk204_0.1.2.1.1.1.2 0 rfl ?_
  refine go_ck (fun q9 => ?_)
  refine go_iald kk204_0.1.2.1.1.2 hg q9 (fun r8 => ?_)
  refine go_cmlt kk204_0.1.2.1.2.1.1 h3 r8 (fun c10 => ?_) (fun c11 => ?_)
  · refine go_iload kk204_0.1.2.1.2.1.2 rfl ?_
    refine go_aload kk204_0.1.2.1.2.2 rfl ?_
    refine go_iload kk204_0.1.2.2.1.1.1 rfl ?_
    refine go_iload kk204_0.1.2.2.1.1.2 rfl ?_
    refine go_int kk204_0.1.2.2.1.2 0 rfl ?_
    refine go_callP3 kk204_0.1.2.2.2.1 rfl rfl rfl ⟨by decide, _, rfl, hK0⟩ ⟨Nat.zero_le _, Nat.zero_le _⟩ (by omega) (tfM_isChild (by omega) hg hK0  h3 h1 (inR_b (Or.inl rfl))) (fun y12 r13 => ?_)
    refine go_ifeq kk204_0.1.2.2.2.2 (inR_b r13) (fun c16 => ?_) (fun c17 => ?_)
    · refine go_int kk204_0.2.2.1.2.1.2 0 rfl ?_
      refine go_iadd kk204_0.2.2.1.2.2 ?_
      refine go_istore kk204_0.2.2.2.1.1.1 rfl (loc2 := [some (sR v0), some (sI v1), some (sI (w32 (v2 + 0))), some (sI v3)]) rfl ?_
      refine go_iinc kk204_0.2.2.2.1.1.2 rfl rfl 1 rfl (loc2 := [some (sR v0), some (sI v1), some (sI (w32 (v2 + 0))), some (sI (w32 (v3 + 1)))]) rfl ?_
      refine go_goto kk204_0.2.2.2.1.2 ?_
      exact HX14 (w32 (v2 + 0)) (inR_w32 _) (w32 (v3 + 1)) (inR_w32 _)
    · refine go_aload kk204_0.2.1.1.1.1.1 rfl ?_
      refine go_getR (bI := 0) kk204_0.2.1.1.1.1.2 hg hK0 (by decide) rfl rfl (fun r18 => ?_)
      refine go_int kk204_0.2.1.1.1.2 180 rfl ?_
      refine go_iload kk204_0.2.1.1.2.1.1 rfl ?_
      refine go_iadd kk204_0.2.1.1.2.1.2 ?_
      refine go_ck (fun q20 => ?_)
      refine go_iald kk204_0.2.1.1.2.2 hg q20 (fun r19 => ?_)
      refine go_aload kk204_0.2.1.2.1.1.1 rfl ?_
      refine go_getR (bI := 0) kk204_0.2.1.2.1.1.2 hg hK0 (by decide) rfl rfl (fun r21 => ?_)
      refine go_int kk204_0.2.1.2.1.2 180 rfl ?_
      refine go_iload kk204_0.2.1.2.2.1 rfl ?_
      refine go_iadd kk204_0.2.1.2.2.2 ?_
      refine go_ck (fun q23 => ?_)
      refine go_iald kk204_0.2.2.1.1.1.1 hg q23 (fun r22 => ?_)
      refine go_cmeq kk204_0.2.2.1.1.1.2 r19 r22 (fun c24 => ?_) (fun c25 => ?_)
      · refine go_int kk204_0.2.2.1.2.1.2 0 rfl ?_
        refine go_iadd kk204_0.2.2.1.2.2 ?_
        refine go_istore kk204_0.2.2.2.1.1.1 rfl (loc2 := [some (sR v0), some (sI v1), some (sI (w32 (v2 + 0))), some (sI v3)]) rfl ?_
        refine go_iinc kk204_0.2.2.2.1.1.2 rfl rfl 1 rfl (loc2 := [some (sR v0), some (sI v1), some (sI (w32 (v2 + 0))), some (sI (w32 (v3 + 1)))]) rfl ?_
        refine go_goto kk204_0.2.2.2.1.2 ?_
        exact HX14 (w32 (v2 + 0)) (inR_w32 _) (w32 (v3 + 1)) (inR_w32 _)
      · refine go_int kk204_0.2.2.1.1.2 1 rfl ?_
        refine go_goto kk204_0.2.2.1.2.1.1 ?_
        refine go_iadd kk204_0.2.2.1.2.2 ?_
        refine go_istore kk204_0.2.2.2.1.1.1 rfl (loc2 := [some (sR v0), some (sI v1), some (sI (w32 (v2 + 1))), some (sI v3)]) rfl ?_
        refine go_iinc kk204_0.2.2.2.1.1.2 rfl rfl 1 rfl (loc2 := [some (sR v0), some (sI v1), some (sI (w32 (v2 + 1))), some (sI (w32 (v3 + 1)))]) rfl ?_
        refine go_goto kk204_0.2.2.2.1.2 ?_
        exact HX14 (w32 (v2 + 1)) (inR_w32 _) (w32 (v3 + 1)) (inR_w32 _)
  · refine go_iload kk204_0.2.2.2.2.1 rfl ?_
    exact go_iret kk204_0.2.2.2.2.2 hg h2 ⟨Nat.zero_le _, Nat.zero_le _⟩ rfl
theorem tlM_strangers_14 {Φ : ev_P} {d : Nat} (hd : 2 ≤ d) {g : gH} (hg : HR g) {v0 v1 : Int} (hK0 : kd v0 = 7) (h1 : InR v1) : ∀ n : Nat, ∀ (v2 : Int) (h2 : InR v2) (v3 : Int) (h3 : InR v3), Go Φ pr_P fN 1 (lM_strangers_14 g v0 v1 n v2 v3) d pr_m204 14 [some (sR v0), some (sI v1), some (sI v2), some (sI v3)] [] g 0 0 := by
  intro n
  induction n with
  | zero => intros; exact go_none
  | succ n ih => exact tbM_strangers_14 hd hg hK0 h1 ih
theorem tfM_strangers {Φ : ev_P} {d : Nat} (hd : 2 ≤ d) {g : gH} (hg : HR g) {v0 v1 : Int} (hK0 : kd v0 = 7) (h1 : InR v1) : Go Φ pr_P fN 1 (fM_strangers g v0 v1) d (pr_P 204) 0 (ev_loc (pr_P 204).1 [(sR v0), (sI v1)]) [] g 0 0 := by
  show Go Φ pr_P fN 1 (fM_strangers g v0 v1) d pr_m204 0 [some (sR v0), some (sI v1), none, none] [] g 0 0
  unfold fM_strangers
  refine go_aload kk204_0.1.1.1.1.1.1 rfl ?_
  refine go_iload kk204_0.1.1.1.1.1.2 rfl ?_
  refine go_callN3 kk204_0.1.1.1.1.2 rfl rfl rfl ⟨by decide, _, rfl, hK0⟩ ⟨Nat.zero_le _, Nat.zero_le _⟩ (by omega) (tfM_noProcess (by omega) hg hK0  h1) (fun y1 g3 r2 e4 => ?_)
  refine go_ifeq kk204_0.1.1.1.2.1.1 (inR_b r2) (fun c5 => ?_) (fun c6 => ?_)
  · refine go_int kk204_0.1.1.2.1.1.1 0 rfl ?_
    refine go_istore kk204_0.1.1.2.1.1.2 rfl (loc2 := [some (sR v0), some (sI v1), some (sI 0), none]) rfl ?_
    refine go_int kk204_0.1.1.2.1.2 1 rfl ?_
    refine go_istore kk204_0.1.1.2.2.1.1 rfl (loc2 := [some (sR v0), some (sI v1), some (sI 0), some (sI 1)]) rfl ?_
    exact tlM_strangers_14 hd e4 hK0 h1 fu 0 (inR_b (Or.inl rfl)) 1 (inR_b (Or.inr rfl))
  · refine go_int kk204_0.1.1.1.2.1.2 0 rfl ?_
    exact go_iret kk204_0.1.1.1.2.2 e4 (inR_b (Or.inl rfl)) ⟨Nat.zero_le _, Nat.zero_le _⟩ rfl
theorem tfM_write {Φ : ev_P} {d : Nat} (hd : 0 ≤ d) {g : gH} (hg : HR g) {v0 v1 : Int} (hK0 : kd v0 = 7) (h1 : InR v1) : Go Φ pr_P fN 0 (fM_write g v0 v1) d (pr_P 205) 0 (ev_loc (pr_P 205).1 [(sR v0), (sI v1)]) [] g 0 0 := by
  show Go Φ pr_P fN 0 (fM_write g v0 v1) d pr_m205 0 [some (sR v0), some (sI v1)] [] g 0 0
  unfold fM_write
  refine go_aload kk205_0.1.1.1.1 rfl ?_
  refine go_getR (bI := 22) kk205_0.1.1.1.2 hg hK0 (by decide) rfl rfl (fun r1 => ?_)
  refine go_aload kk205_0.1.1.2.1 rfl ?_
  refine go_getI (bI := 23) kk205_0.1.1.2.2 hg hK0 (by decide) rfl rfl (fun r2 => ?_)
  refine go_iload kk205_0.1.2.1.1 rfl ?_
  refine go_ck (fun q3 => ?_)
  refine go_iast kk205_0.1.2.1.2 hg q3 h1 (fun g4 e5 => ?_)
  refine go_aload kk205_0.1.2.2 rfl ?_
  refine go_dupR kk205_0.2.1.1.1 ?_
  refine go_getI (bI := 23) kk205_0.2.1.1.2 e5 hK0 (by decide) rfl rfl (fun r6 => ?_)
  refine go_int kk205_0.2.1.2 1 rfl ?_
  refine go_iadd kk205_0.2.2.1.1 ?_
  refine go_putI (bI := 23) kk205_0.2.2.1.2 e5 hK0 (by decide) rfl rfl (inR_w32 _) (fun g7 e8 => ?_)
  exact go_vret kk205_0.2.2.2 e8 ⟨Nat.zero_le _, Nat.zero_le _⟩ rfl
theorem tbM_writeNumber_18 {Φ : ev_P} {d : Nat} (hd : 1 ≤ d) {v0 v1 : Int} (hK0 : kd v0 = 7) (h1 : InR v1) {X18 : Int → gH → Option (Int × gH)} (HX18 : ∀ (v2 : Int) (h2 : InR v2) (g : gH) (hg : HR g), Go Φ pr_P fN 0 (X18 v2 g) d pr_m207 18 [some (sR v0), some (sI v1), some (sI v2)] [] g 0 0) : ∀ (v2 : Int) (h2 : InR v2) (g : gH) (hg : HR g), Go Φ pr_P fN 0 (bM_writeNumber_18 v0 v1 X18 v2 g) d pr_m207 18 [some (sR v0), some (sI v1), some (sI v2)] [] g 0 0 := by
  intro v2 h2 g hg
  unfold bM_writeNumber_18
  refine go_iload kk207_0.1.2.2.1.1 rfl ?_
  refine go_ifgt kk207_0.1.2.2.1.2 h2 (fun c4 => ?_) (fun c5 => ?_)
  · refine go_aload kk207_0.1.2.2.2 rfl ?_
    refine go_int kk207_0.2.1.1.1.1 48 rfl ?_
    refine go_iload kk207_0.2.1.1.1.2 rfl ?_
    refine go_iload kk207_0.2.1.1.2.1 rfl ?_
    refine go_ck (fun q6 => ?_)
    refine go_div kk207_0.2.1.1.2.2 q6 ?_
    refine go_int kk207_0.2.1.2.1.1 10 rfl ?_
    refine go_ck (fun q7 => ?_)
    refine go_rem kk207_0.2.1.2.1.2 q7 ?_
    refine go_iadd kk207_0.2.1.2.2 ?_
    refine go_callN0 kk207_0.2.2.1.1.1 rfl rfl rfl ⟨by decide, _, rfl, hK0⟩ ⟨Nat.zero_le _, Nat.zero_le _⟩ (by omega) (tfM_write (by omega) hg hK0  (inR_w32 _)) (fun y8 g10 e11 => ?_)
    refine go_iload kk207_0.2.2.1.1.2 rfl ?_
    refine go_int kk207_0.2.2.1.2.1 10 rfl ?_
    refine go_ck (fun q12 => ?_)
    refine go_div kk207_0.2.2.1.2.2 q12 ?_
    refine go_istore kk207_0.2.2.2.1.1 rfl (loc2 := [some (sR v0), some (sI v1), some (sI (v2 / 10))]) rfl ?_
    refine go_goto kk207_0.2.2.2.1.2 ?_
    exact HX18 (v2 / 10) (inR_div q12) g10 e11
  · exact go_vret kk207_0.2.2.2.2 hg ⟨Nat.zero_le _, Nat.zero_le _⟩ rfl
theorem tlM_writeNumber_18 {Φ : ev_P} {d : Nat} (hd : 1 ≤ d) {v0 v1 : Int} (hK0 : kd v0 = 7) (h1 : InR v1) : ∀ n : Nat, ∀ (v2 : Int) (h2 : InR v2) (g : gH) (hg : HR g), Go Φ pr_P fN 0 (lM_writeNumber_18 v0 v1 n v2 g) d pr_m207 18 [some (sR v0), some (sI v1), some (sI v2)] [] g 0 0 := by
  intro n
  induction n with
  | zero => intros; exact go_none
  | succ n ih => exact tbM_writeNumber_18 hd hK0 h1 ih
theorem tbM_writeNumber_2 {Φ : ev_P} {d : Nat} (hd : 1 ≤ d) {g : gH} (hg : HR g) {v0 v1 : Int} (hK0 : kd v0 = 7) (h1 : InR v1) {X2 : Int → Option (Int × gH)} (HX2 : ∀ (v2 : Int) (h2 : InR v2), Go Φ pr_P fN 0 (X2 v2) d pr_m207 2 [some (sR v0), some (sI v1), some (sI v2)] [] g 0 0) : ∀ (v2 : Int) (h2 : InR v2), Go Φ pr_P fN 0 (bM_writeNumber_2 g v0 v1 X2 v2) d pr_m207 2 [some (sR v0), some (sI v1), some (sI v2)] [] g 0 0 := by
  intro v2 h2
  unfold bM_writeNumber_2
  refine go_iload kk207_0.1.1.1.2.1 rfl ?_
  refine go_iload kk207_0.1.1.1.2.2 rfl ?_
  refine go_ck (fun q1 => ?_)
  refine go_div kk207_0.1.1.2.1.1 q1 ?_
  refine go_int kk207_0.1.1.2.1.2 9 rfl ?_
  refine go_cmgt kk207_0.1.1.2.2.1 (inR_div q1) (inR_of (by decide)) (fun c2 => ?_) (fun c3 => ?_)
  · refine go_iload kk207_0.1.1.2.2.2 rfl ?_
    refine go_int kk207_0.1.2.1.1.1 10 rfl ?_
    refine go_ibin kk207_0.1.2.1.1.2 ?_
    refine go_istore kk207_0.1.2.1.2.1 rfl (loc2 := [some (sR v0), some (sI v1), some (sI (opI 0 v2 10))]) rfl ?_
    refine go_goto kk207_0.1.2.1.2.2 ?_
    exact HX2 (opI 0 v2 10) (inR_opI _ _ _)
  · exact tlM_writeNumber_18 hd hK0 h1 fu v2 h2 g hg
theorem tlM_writeNumber_2 {Φ : ev_P} {d : Nat} (hd : 1 ≤ d) {g : gH} (hg : HR g) {v0 v1 : Int} (hK0 : kd v0 = 7) (h1 : InR v1) : ∀ n : Nat, ∀ (v2 : Int) (h2 : InR v2), Go Φ pr_P fN 0 (lM_writeNumber_2 g v0 v1 n v2) d pr_m207 2 [some (sR v0), some (sI v1), some (sI v2)] [] g 0 0 := by
  intro n
  induction n with
  | zero => intros; exact go_none
  | succ n ih => exact tbM_writeNumber_2 hd hg hK0 h1 ih
theorem tfM_writeNumber {Φ : ev_P} {d : Nat} (hd : 1 ≤ d) {g : gH} (hg : HR g) {v0 v1 : Int} (hK0 : kd v0 = 7) (h1 : InR v1) : Go Φ pr_P fN 0 (fM_writeNumber g v0 v1) d (pr_P 207) 0 (ev_loc (pr_P 207).1 [(sR v0), (sI v1)]) [] g 0 0 := by
  show Go Φ pr_P fN 0 (fM_writeNumber g v0 v1) d pr_m207 0 [some (sR v0), some (sI v1), none] [] g 0 0
  unfold fM_writeNumber
  refine go_int kk207_0.1.1.1.1.1 1 rfl ?_
  refine go_istore kk207_0.1.1.1.1.2 rfl (loc2 := [some (sR v0), some (sI v1), some (sI 1)]) rfl ?_
  exact tlM_writeNumber_2 hd hg hK0 h1 fu 1 (inR_b (Or.inr rfl))
theorem tbM_onPath_2 {Φ : ev_P} {d : Nat} (hd : 1 ≤ d) {g : gH} (hg : HR g) {v0 v2 : Int} (hK0 : kd v0 = 7) (h2 : InR v2) {X2 : Int → Option Int} (HX2 : ∀ (v3 : Int) (h3 : InR v3) (u1 : Option ev_V) (w1 : nwo u1), Go Φ pr_P (fP g) 1 (X2 v3) d pr_m206 2 [some (sR v0), u1, some (sI v2), some (sI v3)] [] g 0 0) : ∀ (v3 : Int) (h3 : InR v3) (u1 : Option ev_V) (w1 : nwo u1), Go Φ pr_P (fP g) 1 (bM_onPath_2 g v0 v2 X2 v3) d pr_m206 2 [some (sR v0), u1, some (sI v2), some (sI v3)] [] g 0 0 := by
  intro v3 h3 u1 w1
  unfold bM_onPath_2
  refine go_aload kk206_0.1.1.1.2 rfl ?_
  refine go_iload kk206_0.1.1.2.1 rfl ?_
  refine go_callP1 kk206_0.1.1.2.2 rfl rfl rfl ⟨by decide, _, rfl, hK0⟩ ⟨Nat.zero_le _, Nat.zero_le _⟩ (by omega) (tfM_deep (by omega) hg hK0  h3) (fun y1 r2 => ?_)
  refine go_iload kk206_0.1.2.1.1 rfl ?_
  refine go_cmgt kk206_0.1.2.1.2 r2 h2 (fun c5 => ?_) (fun c6 => ?_)
  · refine go_aload kk206_0.1.2.2.1 rfl ?_
    refine go_getR (bI := 0) kk206_0.1.2.2.2 hg hK0 (by decide) rfl rfl (fun r7 => ?_)
    refine go_int kk206_0.2.1.1.1 60 rfl ?_
    refine go_iload kk206_0.2.1.1.2 rfl ?_
    refine go_iadd kk206_0.2.1.2.1 ?_
    refine go_ck (fun q9 => ?_)
    refine go_iald kk206_0.2.1.2.2 hg q9 (fun r8 => ?_)
    refine go_istore kk206_0.2.2.1.1 rfl (loc2 := [some (sR v0), u1, some (sI v2), some (sI (g (g v0 0) (w32 (60 + v3))))]) rfl ?_
    refine go_goto kk206_0.2.2.1.2 ?_
    exact HX2 (g (g v0 0) (w32 (60 + v3))) r8 u1 w1
  · refine go_iload kk206_0.2.2.2.1 rfl ?_
    exact go_iret kk206_0.2.2.2.2 hg h3 ⟨Nat.zero_le _, Nat.zero_le _⟩ rfl
theorem tlM_onPath_2 {Φ : ev_P} {d : Nat} (hd : 1 ≤ d) {g : gH} (hg : HR g) {v0 v2 : Int} (hK0 : kd v0 = 7) (h2 : InR v2) : ∀ n : Nat, ∀ (v3 : Int) (h3 : InR v3) (u1 : Option ev_V) (w1 : nwo u1), Go Φ pr_P (fP g) 1 (lM_onPath_2 g v0 v2 n v3) d pr_m206 2 [some (sR v0), u1, some (sI v2), some (sI v3)] [] g 0 0 := by
  intro n
  induction n with
  | zero => intros; exact go_none
  | succ n ih => exact tbM_onPath_2 hd hg hK0 h2 ih
theorem tfM_onPath {Φ : ev_P} {d : Nat} (hd : 1 ≤ d) {g : gH} (hg : HR g) {v0 v1 v2 : Int} (hK0 : kd v0 = 7) (h1 : InR v1) (h2 : InR v2) : Go Φ pr_P (fP g) 1 (fM_onPath g v0 v1 v2) d (pr_P 206) 0 (ev_loc (pr_P 206).1 [(sR v0), (sI v1), (sI v2)]) [] g 0 0 := by
  show Go Φ pr_P (fP g) 1 (fM_onPath g v0 v1 v2) d pr_m206 0 [some (sR v0), some (sI v1), some (sI v2), none] [] g 0 0
  unfold fM_onPath
  refine go_iload kk206_0.1.1.1.1.1 rfl ?_
  refine go_istore kk206_0.1.1.1.1.2 rfl (loc2 := [some (sR v0), some (sI v1), some (sI v2), some (sI v1)]) rfl ?_
  exact tlM_onPath_2 hd hg hK0 h2 fu v1 h1 (some (sI v1)) rfl
theorem tfM_writeBetween {Φ : ev_P} {d : Nat} (hd : 1 ≤ d) {g : gH} (hg : HR g) {v0 v1 : Int} (hK0 : kd v0 = 7) (h1 : InR v1) : Go Φ pr_P fN 0 (fM_writeBetween g v0 v1) d (pr_P 208) 0 (ev_loc (pr_P 208).1 [(sR v0), (sI v1)]) [] g 0 0 := by
  show Go Φ pr_P fN 0 (fM_writeBetween g v0 v1) d pr_m208 0 [some (sR v0), some (sI v1)] [] g 0 0
  unfold fM_writeBetween
  refine go_aload kk208_0.1.1.1 rfl ?_
  refine go_getI (bI := 23) kk208_0.1.1.2 hg hK0 (by decide) rfl rfl (fun r1 => ?_)
  refine go_ifgt kk208_0.1.2.1 r1 (fun c2 => ?_) (fun c3 => ?_)
  · refine go_aload kk208_0.1.2.2 rfl ?_
    refine go_iload kk208_0.2.1.1 rfl ?_
    refine go_callN0 kk208_0.2.1.2 rfl rfl rfl ⟨by decide, _, rfl, hK0⟩ ⟨Nat.zero_le _, Nat.zero_le _⟩ (by omega) (tfM_write (by omega) hg hK0  h1) (fun y4 g6 e7 => ?_)
    exact go_vret kk208_0.2.2 e7 ⟨Nat.zero_le _, Nat.zero_le _⟩ rfl
  · exact go_vret kk208_0.2.2 hg ⟨Nat.zero_le _, Nat.zero_le _⟩ rfl
theorem tbM_writePath_2 {Φ : ev_P} {d : Nat} (hd : 2 ≤ d) {v0 v1 : Int} (hK0 : kd v0 = 7) (h1 : InR v1) {X2 : Int → gH → Option (Int × gH)} (HX2 : ∀ (v2 : Int) (h2 : InR v2) (g : gH) (hg : HR g), Go Φ pr_P fN 0 (X2 v2 g) d pr_m209 2 [some (sR v0), some (sI v1), some (sI v2)] [] g 0 0) : ∀ (v2 : Int) (h2 : InR v2) (g : gH) (hg : HR g), Go Φ pr_P fN 0 (bM_writePath_2 v0 v1 X2 v2 g) d pr_m209 2 [some (sR v0), some (sI v1), some (sI v2)] [] g 0 0 := by
  intro v2 h2 g hg
  unfold bM_writePath_2
  refine go_iload kk209_0.1.1.1.2 rfl ?_
  refine go_aload kk209_0.1.1.2.1 rfl ?_
  refine go_iload kk209_0.1.1.2.2 rfl ?_
  refine go_callP1 kk209_0.1.2.1.1.1 rfl rfl rfl ⟨by decide, _, rfl, hK0⟩ ⟨Nat.zero_le _, Nat.zero_le _⟩ (by omega) (tfM_deep (by omega) hg hK0  h1) (fun y1 r2 => ?_)
  refine go_cmgt kk209_0.1.2.1.1.2 h2 r2 (fun c5 => ?_) (fun c6 => ?_)
  · exact go_vret kk209_0.2.2.2.2 hg ⟨Nat.zero_le _, Nat.zero_le _⟩ rfl
  · refine go_aload kk209_0.1.2.1.2 rfl ?_
    refine go_int kk209_0.1.2.2.1 47 rfl ?_
    refine go_callN0 kk209_0.1.2.2.2 rfl rfl rfl ⟨by decide, _, rfl, hK0⟩ ⟨Nat.zero_le _, Nat.zero_le _⟩ (by omega) (tfM_writeBetween (by omega) hg hK0  (inR_of (by decide))) (fun y7 g9 e10 => ?_)
    refine go_aload kk209_0.2.1.1.1.1 rfl ?_
    refine go_aload kk209_0.2.1.1.1.2 rfl ?_
    refine go_iload kk209_0.2.1.1.2 rfl ?_
    refine go_iload kk209_0.2.1.2.1 rfl ?_
    refine go_callP1 kk209_0.2.1.2.2 rfl rfl rfl ⟨by decide, _, rfl, hK0⟩ ⟨Nat.zero_le _, Nat.zero_le _⟩ (by omega) (tfM_onPath (by omega) e10 hK0  h1 h2) (fun y11 r12 => ?_)
    refine go_callN0 kk209_0.2.2.1.1 rfl rfl rfl ⟨by decide, _, rfl, hK0⟩ ⟨Nat.zero_le _, Nat.zero_le _⟩ (by omega) (tfM_writeNumber (by omega) e10 hK0  r12) (fun y15 g17 e18 => ?_)
    refine go_iinc kk209_0.2.2.1.2 rfl rfl 1 rfl (loc2 := [some (sR v0), some (sI v1), some (sI (w32 (v2 + 1)))]) rfl ?_
    refine go_goto kk209_0.2.2.2.1 ?_
    exact HX2 (w32 (v2 + 1)) (inR_w32 _) g17 e18
theorem tlM_writePath_2 {Φ : ev_P} {d : Nat} (hd : 2 ≤ d) {v0 v1 : Int} (hK0 : kd v0 = 7) (h1 : InR v1) : ∀ n : Nat, ∀ (v2 : Int) (h2 : InR v2) (g : gH) (hg : HR g), Go Φ pr_P fN 0 (lM_writePath_2 v0 v1 n v2 g) d pr_m209 2 [some (sR v0), some (sI v1), some (sI v2)] [] g 0 0 := by
  intro n
  induction n with
  | zero => intros; exact go_none
  | succ n ih => exact tbM_writePath_2 hd hK0 h1 ih
theorem tfM_writePath {Φ : ev_P} {d : Nat} (hd : 2 ≤ d) {g : gH} (hg : HR g) {v0 v1 : Int} (hK0 : kd v0 = 7) (h1 : InR v1) : Go Φ pr_P fN 0 (fM_writePath g v0 v1) d (pr_P 209) 0 (ev_loc (pr_P 209).1 [(sR v0), (sI v1)]) [] g 0 0 := by
  show Go Φ pr_P fN 0 (fM_writePath g v0 v1) d pr_m209 0 [some (sR v0), some (sI v1), none] [] g 0 0
  unfold fM_writePath
  refine go_int kk209_0.1.1.1.1.1 0 rfl ?_
  refine go_istore kk209_0.1.1.1.1.2 rfl (loc2 := [some (sR v0), some (sI v1), some (sI 0)]) rfl ?_
  exact tlM_writePath_2 hd hK0 h1 fu 0 (inR_b (Or.inl rfl)) g hg
theorem tbM_writeChildren_7 {Φ : ev_P} {d : Nat} (hd : 2 ≤ d) {v0 v1 : Int} (hK0 : kd v0 = 7) (h1 : InR v1) {X7 : Int → gH → Option (Int × gH)} (HX7 : ∀ (v2 : Int) (h2 : InR v2) (g : gH) (hg : HR g), Go Φ pr_P fN 0 (X7 v2 g) d pr_m210 7 [some (sR v0), some (sI v1), some (sI v2)] [] g 0 0) : ∀ (v2 : Int) (h2 : InR v2) (g : gH) (hg : HR g), Go Φ pr_P fN 0 (bM_writeChildren_7 v0 v1 X7 v2 g) d pr_m210 7 [some (sR v0), some (sI v1), some (sI v2)] [] g 0 0 := by
  intro v2 h2 g hg
  unfold bM_writeChildren_7
  refine go_iload kk210_0.1.1.2.2 rfl ?_
  refine go_int kk210_0.1.2.1.1.1 (-1) rfl ?_
  refine go_cmeq kk210_0.1.2.1.1.2 h2 (inR_of (by decide)) (fun c5 => ?_) (fun c6 => ?_)
  · exact go_vret kk210_0.2.2.2.2 hg ⟨Nat.zero_le _, Nat.zero_le _⟩ rfl
  · refine go_aload kk210_0.1.2.1.2 rfl ?_
    refine go_int kk210_0.1.2.2.1.1 44 rfl ?_
    refine go_callN0 kk210_0.1.2.2.1.2 rfl rfl rfl ⟨by decide, _, rfl, hK0⟩ ⟨Nat.zero_le _, Nat.zero_le _⟩ (by omega) (tfM_writeBetween (by omega) hg hK0  (inR_of (by decide))) (fun y7 g9 e10 => ?_)
    refine go_aload kk210_0.1.2.2.2 rfl ?_
    refine go_iload kk210_0.2.1.1.1.1 rfl ?_
    refine go_callN0 kk210_0.2.1.1.1.2 rfl rfl rfl ⟨by decide, _, rfl, hK0⟩ ⟨Nat.zero_le _, Nat.zero_le _⟩ (by omega) (tfM_writeNumber (by omega) e10 hK0  h2) (fun y11 g13 e14 => ?_)
    refine go_aload kk210_0.2.1.1.2 rfl ?_
    refine go_iload kk210_0.2.1.2.1.1 rfl ?_
    refine go_iload kk210_0.2.1.2.1.2 rfl ?_
    refine go_int kk210_0.2.1.2.2 1 rfl ?_
    refine go_iadd kk210_0.2.2.1.1.1 ?_
    refine go_callP1 kk210_0.2.2.1.1.2 rfl rfl rfl ⟨by decide, _, rfl, hK0⟩ ⟨Nat.zero_le _, Nat.zero_le _⟩ (by omega) (tfM_nextChild (by omega) e14 hK0  h1 (inR_w32 _)) (fun y15 r16 => ?_)
    refine go_istore kk210_0.2.2.1.2 rfl (loc2 := [some (sR v0), some (sI v1), some (sI y15)]) rfl ?_
    refine go_goto kk210_0.2.2.2.1 ?_
    exact HX7 y15 r16 g13 e14
theorem tlM_writeChildren_7 {Φ : ev_P} {d : Nat} (hd : 2 ≤ d) {v0 v1 : Int} (hK0 : kd v0 = 7) (h1 : InR v1) : ∀ n : Nat, ∀ (v2 : Int) (h2 : InR v2) (g : gH) (hg : HR g), Go Φ pr_P fN 0 (lM_writeChildren_7 v0 v1 n v2 g) d pr_m210 7 [some (sR v0), some (sI v1), some (sI v2)] [] g 0 0 := by
  intro n
  induction n with
  | zero => intros; exact go_none
  | succ n ih => exact tbM_writeChildren_7 hd hK0 h1 ih
theorem tfM_writeChildren {Φ : ev_P} {d : Nat} (hd : 2 ≤ d) {g : gH} (hg : HR g) {v0 v1 : Int} (hK0 : kd v0 = 7) (h1 : InR v1) : Go Φ pr_P fN 0 (fM_writeChildren g v0 v1) d (pr_P 210) 0 (ev_loc (pr_P 210).1 [(sR v0), (sI v1)]) [] g 0 0 := by
  show Go Φ pr_P fN 0 (fM_writeChildren g v0 v1) d pr_m210 0 [some (sR v0), some (sI v1), none] [] g 0 0
  unfold fM_writeChildren
  refine go_aload kk210_0.1.1.1.1.1 rfl ?_
  refine go_iload kk210_0.1.1.1.1.2 rfl ?_
  refine go_int kk210_0.1.1.1.2 0 rfl ?_
  refine go_callP1 kk210_0.1.1.2.1.1 rfl rfl rfl ⟨by decide, _, rfl, hK0⟩ ⟨Nat.zero_le _, Nat.zero_le _⟩ (by omega) (tfM_nextChild (by omega) hg hK0  h1 (inR_b (Or.inl rfl))) (fun y1 r2 => ?_)
  refine go_istore kk210_0.1.1.2.1.2 rfl (loc2 := [some (sR v0), some (sI v1), some (sI y1)]) rfl ?_
  exact tlM_writeChildren_7 hd hK0 h1 fu y1 r2 g hg
theorem tjM_writeTree_42 {Φ : ev_P} {d : Nat} (hd : 3 ≤ d) {R : gH → Int → Int → Option (Int × gH)} (HR0 : ∀ (g : gH) (hg : HR g) (v0 : Int) (v1 : Int) (hK0 : kd v0 = 7) (h1 : InR v1), Go Φ pr_P fN 0 (R g v0 v1) (d - 1) (pr_P 211) 0 (ev_loc (pr_P 211).1 [(sR v0), (sI v1)]) [] g 0 0) {X26 : Int → gH → Option (Int × gH)} {g : gH} (hg : HR g) {v0 v1 v2 v3 : Int} (hK0 : kd v0 = 7) (h1 : InR v1) (h2 : InR v2) (h3 : InR v3) (HX26 : ∀ (v3 : Int) (h3 : InR v3) (g : gH) (hg : HR g), Go Φ pr_P fN 0 (X26 v3 g) d pr_m211 26 [some (sR v0), some (sI v1), some (sI v2), some (sI v3)] [] g 0 0) : Go Φ pr_P fN 0 (jM_writeTree_42 R X26 g v0 v1 v2 v3 ) d pr_m211 42 [some (sR v0), some (sI v1), some (sI v2), some (sI v3)] [] g 0 0 := by
  unfold jM_writeTree_42
  refine go_aload kk211_0.2.1.2.1.1.1 rfl ?_
  refine go_iload kk211_0.2.1.2.1.1.2 rfl ?_
  refine go_callN0 kk211_0.2.1.2.1.2 rfl rfl rfl ⟨by decide, _, rfl, hK0⟩ ⟨Nat.zero_le _, Nat.zero_le _⟩ (by omega) (HR0 g hg v0 v3 hK0  h3) (fun y27 g29 e30 => ?_)
  refine go_aload kk211_0.2.1.2.2.1 rfl ?_
  refine go_iload kk211_0.2.1.2.2.2 rfl ?_
  refine go_iload kk211_0.2.2.1.1.1.1 rfl ?_
  refine go_int kk211_0.2.2.1.1.1.2 1 rfl ?_
  refine go_iadd kk211_0.2.2.1.1.2 ?_
  refine go_callP1 kk211_0.2.2.1.2.1 rfl rfl rfl ⟨by decide, _, rfl, hK0⟩ ⟨Nat.zero_le _, Nat.zero_le _⟩ (by omega) (tfM_nextChild (by omega) e30 hK0  h1 (inR_w32 _)) (fun y31 r32 => ?_)
  refine go_istore kk211_0.2.2.1.2.2 rfl (loc2 := [some (sR v0), some (sI v1), some (sI v2), some (sI y31)]) rfl ?_
  refine go_goto kk211_0.2.2.2.1.1.1 ?_
  exact HX26 y31 r32 g29 e30
theorem tbM_writeTree_26 {Φ : ev_P} {d : Nat} (hd : 3 ≤ d) {R : gH → Int → Int → Option (Int × gH)} (HR0 : ∀ (g : gH) (hg : HR g) (v0 : Int) (v1 : Int) (hK0 : kd v0 = 7) (h1 : InR v1), Go Φ pr_P fN 0 (R g v0 v1) (d - 1) (pr_P 211) 0 (ev_loc (pr_P 211).1 [(sR v0), (sI v1)]) [] g 0 0) {v0 v1 v2 : Int} (hK0 : kd v0 = 7) (h1 : InR v1) (h2 : InR v2) {X26 : Int → gH → Option (Int × gH)} (HX26 : ∀ (v3 : Int) (h3 : InR v3) (g : gH) (hg : HR g), Go Φ pr_P fN 0 (X26 v3 g) d pr_m211 26 [some (sR v0), some (sI v1), some (sI v2), some (sI v3)] [] g 0 0) : ∀ (v3 : Int) (h3 : InR v3) (g : gH) (hg : HR g), Go Φ pr_P fN 0 (bM_writeTree_26 R v0 v1 v2 X26 v3 g) d pr_m211 26 [some (sR v0), some (sI v1), some (sI v2), some (sI v3)] [] g 0 0 := by
  intro v3 h3 g hg
  unfold bM_writeTree_26
  refine go_iload kk211_0.1.2.2.1.1.2 rfl ?_
  refine go_int kk211_0.1.2.2.1.2 (-1) rfl ?_
  refine go_cmeq kk211_0.1.2.2.2.1 h3 (inR_of (by decide)) (fun c15 => ?_) (fun c16 => ?_)
  · refine go_aload kk211_0.2.2.2.1.1.2 rfl ?_
    refine go_int kk211_0.2.2.2.1.2 41 rfl ?_
    refine go_callN0 kk211_0.2.2.2.2.1 rfl rfl rfl ⟨by decide, _, rfl, hK0⟩ ⟨Nat.zero_le _, Nat.zero_le _⟩ (by omega) (tfM_write (by omega) hg hK0  (inR_of (by decide))) (fun y17 g19 e20 => ?_)
    exact go_vret kk211_0.2.2.2.2.2 e20 ⟨Nat.zero_le _, Nat.zero_le _⟩ rfl
  · refine go_iload kk211_0.1.2.2.2.2 rfl ?_
    refine go_iload kk211_0.2.1.1.1.1.1 rfl ?_
    refine go_cmeq kk211_0.2.1.1.1.1.2 h3 h2 (fun c21 => ?_) (fun c22 => ?_)
    · exact tjM_writeTree_42 hd HR0 hg hK0 h1 h2 h3 HX26
    · refine go_aload kk211_0.2.1.1.1.2 rfl ?_
      refine go_int kk211_0.2.1.1.2.1 32 rfl ?_
      refine go_callN0 kk211_0.2.1.1.2.2 rfl rfl rfl ⟨by decide, _, rfl, hK0⟩ ⟨Nat.zero_le _, Nat.zero_le _⟩ (by omega) (tfM_write (by omega) hg hK0  (inR_of (by decide))) (fun y23 g25 e26 => ?_)
      exact tjM_writeTree_42 hd HR0 e26 hK0 h1 h2 h3 HX26
theorem tlM_writeTree_26 {Φ : ev_P} {d : Nat} (hd : 3 ≤ d) {R : gH → Int → Int → Option (Int × gH)} (HR0 : ∀ (g : gH) (hg : HR g) (v0 : Int) (v1 : Int) (hK0 : kd v0 = 7) (h1 : InR v1), Go Φ pr_P fN 0 (R g v0 v1) (d - 1) (pr_P 211) 0 (ev_loc (pr_P 211).1 [(sR v0), (sI v1)]) [] g 0 0) {v0 v1 v2 : Int} (hK0 : kd v0 = 7) (h1 : InR v1) (h2 : InR v2) : ∀ n : Nat, ∀ (v3 : Int) (h3 : InR v3) (g : gH) (hg : HR g), Go Φ pr_P fN 0 (lM_writeTree_26 R v0 v1 v2 n v3 g) d pr_m211 26 [some (sR v0), some (sI v1), some (sI v2), some (sI v3)] [] g 0 0 := by
  intro n
  induction n with
  | zero => intros; exact go_none
  | succ n ih => exact tbM_writeTree_26 hd HR0 hK0 h1 h2 ih
theorem tfbM_writeTree {Φ : ev_P} {d : Nat} (hd : 3 ≤ d) {R : gH → Int → Int → Option (Int × gH)} (HR0 : ∀ (g : gH) (hg : HR g) (v0 : Int) (v1 : Int) (hK0 : kd v0 = 7) (h1 : InR v1), Go Φ pr_P fN 0 (R g v0 v1) (d - 1) (pr_P 211) 0 (ev_loc (pr_P 211).1 [(sR v0), (sI v1)]) [] g 0 0) {g : gH} (hg : HR g) {v0 v1 : Int} (hK0 : kd v0 = 7) (h1 : InR v1) : Go Φ pr_P fN 0 (fbM_writeTree R g v0 v1) d (pr_P 211) 0 (ev_loc (pr_P 211).1 [(sR v0), (sI v1)]) [] g 0 0 := by
  show Go Φ pr_P fN 0 (fbM_writeTree R g v0 v1) d pr_m211 0 [some (sR v0), some (sI v1), none, none] [] g 0 0
  unfold fbM_writeTree
  refine go_aload kk211_0.1.1.1.1.1.1 rfl ?_
  refine go_iload kk211_0.1.1.1.1.1.2 rfl ?_
  refine go_callN0 kk211_0.1.1.1.1.2 rfl rfl rfl ⟨by decide, _, rfl, hK0⟩ ⟨Nat.zero_le _, Nat.zero_le _⟩ (by omega) (tfM_writeNumber (by omega) hg hK0  h1) (fun y1 g3 e4 => ?_)
  refine go_aload kk211_0.1.1.1.2.1.1 rfl ?_
  refine go_iload kk211_0.1.1.1.2.1.2 rfl ?_
  refine go_int kk211_0.1.1.1.2.2 0 rfl ?_
  refine go_callP1 kk211_0.1.1.2.1.1.1 rfl rfl rfl ⟨by decide, _, rfl, hK0⟩ ⟨Nat.zero_le _, Nat.zero_le _⟩ (by omega) (tfM_nextChild (by omega) e4 hK0  h1 (inR_b (Or.inl rfl))) (fun y5 r6 => ?_)
  refine go_istore kk211_0.1.1.2.1.1.2 rfl (loc2 := [some (sR v0), some (sI v1), some (sI y5), none]) rfl ?_
  refine go_iload kk211_0.1.1.2.1.2 rfl ?_
  refine go_int kk211_0.1.1.2.2.1 (-1) rfl ?_
  refine go_cmeq kk211_0.1.1.2.2.2 r6 (inR_of (by decide)) (fun c9 => ?_) (fun c10 => ?_)
  · exact go_vret kk211_0.1.2.1.1.1.1 e4 ⟨Nat.zero_le _, Nat.zero_le _⟩ rfl
  · refine go_aload kk211_0.1.2.1.1.1.2 rfl ?_
    refine go_int kk211_0.1.2.1.1.2 40 rfl ?_
    refine go_callN0 kk211_0.1.2.1.2.1 rfl rfl rfl ⟨by decide, _, rfl, hK0⟩ ⟨Nat.zero_le _, Nat.zero_le _⟩ (by omega) (tfM_write (by omega) e4 hK0  (inR_of (by decide))) (fun y11 g13 e14 => ?_)
    refine go_iload kk211_0.1.2.1.2.2 rfl ?_
    refine go_istore kk211_0.1.2.2.1.1.1 rfl (loc2 := [some (sR v0), some (sI v1), some (sI y5), some (sI y5)]) rfl ?_
    exact tlM_writeTree_26 hd HR0 hK0 h1 r6 fu y5 r6 g13 e14
theorem tfnM_writeTree {Φ : ev_P} : ∀ (n d : Nat) (hd : n + 3 ≤ d), ∀ (g : gH) (hg : HR g) (v0 : Int) (v1 : Int) (hK0 : kd v0 = 7) (h1 : InR v1), Go Φ pr_P fN 0 (fM_writeTree n g v0 v1) d (pr_P 211) 0 (ev_loc (pr_P 211).1 [(sR v0), (sI v1)]) [] g 0 0 := by
  intro n
  induction n with
  | zero => intros; exact go_none
  | succ n ih =>
    intro d hd g hg v0 v1 hK0 h1
    exact tfbM_writeTree (by omega) (fun g hg v0 v1 hK0 h1 => ih (d - 1) (by omega) g hg v0 v1 hK0 h1) hg hK0 h1
theorem tfM_writeTree {Φ : ev_P} {d : Nat} (hd : 63 ≤ d) {g : gH} (hg : HR g) {v0 v1 : Int} (hK0 : kd v0 = 7) (h1 : InR v1) : Go Φ pr_P fN 0 (fM_writeTree fr g v0 v1) d (pr_P 211) 0 (ev_loc (pr_P 211).1 [(sR v0), (sI v1)]) [] g 0 0 := tfnM_writeTree fr d (by unfold fr; omega) g hg v0 v1 hK0 h1
theorem tbM_writeZombies_2 {Φ : ev_P} {d : Nat} (hd : 2 ≤ d) {v0 v1 : Int} (hK0 : kd v0 = 7) (h1 : InR v1) {X2 : Int → gH → Option (Int × gH)} (HX2 : ∀ (v2 : Int) (h2 : InR v2) (g : gH) (hg : HR g) (u3 : Option ev_V) (w3 : nwo u3), Go Φ pr_P fN 0 (X2 v2 g) d pr_m212 2 [some (sR v0), some (sI v1), some (sI v2), u3] [] g 0 0) : ∀ (v2 : Int) (h2 : InR v2) (g : gH) (hg : HR g) (u3 : Option ev_V) (w3 : nwo u3), Go Φ pr_P fN 0 (bM_writeZombies_2 v0 v1 X2 v2 g) d pr_m212 2 [some (sR v0), some (sI v1), some (sI v2), u3] [] g 0 0 := by
  intro v2 h2 g hg u3 w3
  unfold bM_writeZombies_2
  refine go_iload kk212_0.1.1.1.1.2 rfl ?_
  refine go_aload kk212_0.1.1.1.2.1.1 rfl ?_
  refine go_getR (bI := 0) kk212_0.1.1.1.2.1.2 hg hK0 (by decide) rfl rfl (fun r1 => ?_)
  refine go_int kk212_0.1.1.1.2.2 1 rfl ?_
  refine go_ck (fun q3 => ?_)
  refine go_iald kk212_0.1.1.2.1.1.1 hg q3 (fun r2 => ?_)
  refine go_cmlt kk212_0.1.1.2.1.1.2 h2 r2 (fun c4 => ?_) (fun c5 => ?_)
  · refine go_aload kk212_0.1.1.2.1.2 rfl ?_
    refine go_getR (bI := 0) kk212_0.1.1.2.2.1 hg hK0 (by decide) rfl rfl (fun r6 => ?_)
    refine go_int kk212_0.1.1.2.2.2 19 rfl ?_
    refine go_iload kk212_0.1.2.1.1.1.1 rfl ?_
    refine go_iadd kk212_0.1.2.1.1.1.2 ?_
    refine go_ck (fun q8 => ?_)
    refine go_iald kk212_0.1.2.1.1.2 hg q8 (fun r7 => ?_)
    refine go_istore kk212_0.1.2.1.2.1 rfl (loc2 := [some (sR v0), some (sI v1), some (sI v2), some (sI (g (g v0 0) (w32 (19 + v2))))]) rfl ?_
    refine go_aload kk212_0.1.2.1.2.2 rfl ?_
    refine go_iload kk212_0.1.2.2.1.1.1 rfl ?_
    refine go_iload kk212_0.1.2.2.1.1.2 rfl ?_
    refine go_int kk212_0.1.2.2.1.2 1 rfl ?_
    refine go_callP3 kk212_0.1.2.2.2.1 rfl rfl rfl ⟨by decide, _, rfl, hK0⟩ ⟨Nat.zero_le _, Nat.zero_le _⟩ (by omega) (tfM_isChild (by omega) hg hK0  r7 h1 (inR_b (Or.inr rfl))) (fun y9 r10 => ?_)
    refine go_ifeq kk212_0.1.2.2.2.2 (inR_b r10) (fun c13 => ?_) (fun c14 => ?_)
    · refine go_goto kk212_0.2.1.1.1.1.1 ?_
      refine go_iinc kk212_0.2.2.2.1.2 rfl rfl 1 rfl (loc2 := [some (sR v0), some (sI v1), some (sI (w32 (v2 + 1))), some (sI (g (g v0 0) (w32 (19 + v2))))]) rfl ?_
      refine go_goto kk212_0.2.2.2.2.1 ?_
      exact HX2 (w32 (v2 + 1)) (inR_w32 _) g hg (some (sI (g (g v0 0) (w32 (19 + v2))))) rfl
    · refine go_aload kk212_0.2.1.1.1.1.2 rfl ?_
      refine go_int kk212_0.2.1.1.1.2 44 rfl ?_
      refine go_callN0 kk212_0.2.1.1.2.1.1 rfl rfl rfl ⟨by decide, _, rfl, hK0⟩ ⟨Nat.zero_le _, Nat.zero_le _⟩ (by omega) (tfM_writeBetween (by omega) hg hK0  (inR_of (by decide))) (fun y15 g17 e18 => ?_)
      refine go_aload kk212_0.2.1.1.2.1.2 rfl ?_
      refine go_iload kk212_0.2.1.1.2.2 rfl ?_
      refine go_callN0 kk212_0.2.1.2.1.1.1 rfl rfl rfl ⟨by decide, _, rfl, hK0⟩ ⟨Nat.zero_le _, Nat.zero_le _⟩ (by omega) (tfM_writeNumber (by omega) e18 hK0  r7) (fun y19 g21 e22 => ?_)
      refine go_aload kk212_0.2.1.2.1.1.2 rfl ?_
      refine go_int kk212_0.2.1.2.1.2 58 rfl ?_
      refine go_callN0 kk212_0.2.1.2.2.1 rfl rfl rfl ⟨by decide, _, rfl, hK0⟩ ⟨Nat.zero_le _, Nat.zero_le _⟩ (by omega) (tfM_write (by omega) e22 hK0  (inR_of (by decide))) (fun y23 g25 e26 => ?_)
      refine go_aload kk212_0.2.1.2.2.2 rfl ?_
      refine go_aload kk212_0.2.2.1.1.1.1 rfl ?_
      refine go_getR (bI := 0) kk212_0.2.2.1.1.1.2 e26 hK0 (by decide) rfl rfl (fun r27 => ?_)
      refine go_int kk212_0.2.2.1.1.2 300 rfl ?_
      refine go_iload kk212_0.2.2.1.2.1 rfl ?_
      refine go_iadd kk212_0.2.2.1.2.2 ?_
      refine go_ck (fun q29 => ?_)
      refine go_iald kk212_0.2.2.2.1.1.1 e26 q29 (fun r28 => ?_)
      refine go_callN0 kk212_0.2.2.2.1.1.2 rfl rfl rfl ⟨by decide, _, rfl, hK0⟩ ⟨Nat.zero_le _, Nat.zero_le _⟩ (by omega) (tfM_writeNumber (by omega) e26 hK0  r28) (fun y30 g32 e33 => ?_)
      refine go_iinc kk212_0.2.2.2.1.2 rfl rfl 1 rfl (loc2 := [some (sR v0), some (sI v1), some (sI (w32 (v2 + 1))), some (sI (g (g v0 0) (w32 (19 + v2))))]) rfl ?_
      refine go_goto kk212_0.2.2.2.2.1 ?_
      exact HX2 (w32 (v2 + 1)) (inR_w32 _) g32 e33 (some (sI (g (g v0 0) (w32 (19 + v2))))) rfl
  · exact go_vret kk212_0.2.2.2.2.2 hg ⟨Nat.zero_le _, Nat.zero_le _⟩ rfl
theorem tlM_writeZombies_2 {Φ : ev_P} {d : Nat} (hd : 2 ≤ d) {v0 v1 : Int} (hK0 : kd v0 = 7) (h1 : InR v1) : ∀ n : Nat, ∀ (v2 : Int) (h2 : InR v2) (g : gH) (hg : HR g) (u3 : Option ev_V) (w3 : nwo u3), Go Φ pr_P fN 0 (lM_writeZombies_2 v0 v1 n v2 g) d pr_m212 2 [some (sR v0), some (sI v1), some (sI v2), u3] [] g 0 0 := by
  intro n
  induction n with
  | zero => intros; exact go_none
  | succ n ih => exact tbM_writeZombies_2 hd hK0 h1 ih
theorem tfM_writeZombies {Φ : ev_P} {d : Nat} (hd : 2 ≤ d) {g : gH} (hg : HR g) {v0 v1 : Int} (hK0 : kd v0 = 7) (h1 : InR v1) : Go Φ pr_P fN 0 (fM_writeZombies g v0 v1) d (pr_P 212) 0 (ev_loc (pr_P 212).1 [(sR v0), (sI v1)]) [] g 0 0 := by
  show Go Φ pr_P fN 0 (fM_writeZombies g v0 v1) d pr_m212 0 [some (sR v0), some (sI v1), none, none] [] g 0 0
  unfold fM_writeZombies
  refine go_int kk212_0.1.1.1.1.1.1 0 rfl ?_
  refine go_istore kk212_0.1.1.1.1.1.2 rfl (loc2 := [some (sR v0), some (sI v1), some (sI 0), none]) rfl ?_
  exact tlM_writeZombies_2 hd hK0 h1 fu 0 (inR_b (Or.inl rfl)) g hg none rfl
theorem tjM_print_126 {Φ : ev_P} {d : Nat} (hd : 64 ≤ d) {g : gH} (hg : HR g) {v0 : Int} (hK0 : kd v0 = 7) (u1 : Option ev_V) (w1 : nwo u1) (u2 : Option ev_V) (w2 : nwo u2) (u3 : Option ev_V) (w3 : nwo u3) : Go Φ pr_P fN 1 (jM_print_126 g v0 ) d pr_m213 126 [some (sR v0), u1, u2, u3] [] g 0 0 := by
  unfold jM_print_126
  refine go_aload kk213_1.2.2.1.1.1.2 rfl ?_
  refine go_getI (bI := 23) kk213_1.2.2.1.1.2 hg hK0 (by decide) rfl rfl (fun r69 => ?_)
  refine go_ifeq kk213_1.2.2.1.2.1 r69 (fun c70 => ?_) (fun c71 => ?_)
  · refine go_aload kk213_1.2.2.1.2.2 rfl ?_
    refine go_int kk213_1.2.2.2.1.1.1 45 rfl ?_
    refine go_callN0 kk213_1.2.2.2.1.1.2 rfl rfl rfl ⟨by decide, _, rfl, hK0⟩ ⟨Nat.zero_le _, Nat.zero_le _⟩ (by omega) (tfM_write (by omega) hg hK0  (inR_of (by decide))) (fun y72 g74 e75 => ?_)
    refine go_aload kk213_1.2.2.2.1.2 rfl ?_
    refine go_getI (bI := 23) kk213_1.2.2.2.2.1 e75 hK0 (by decide) rfl rfl (fun r76 => ?_)
    exact go_iret kk213_1.2.2.2.2.2 e75 r76 ⟨Nat.zero_le _, Nat.zero_le _⟩ rfl
  · refine go_aload kk213_1.2.2.2.1.2 rfl ?_
    refine go_getI (bI := 23) kk213_1.2.2.2.2.1 hg hK0 (by decide) rfl rfl (fun r77 => ?_)
    exact go_iret kk213_1.2.2.2.2.2 hg r77 ⟨Nat.zero_le _, Nat.zero_le _⟩ rfl
theorem tjM_print_116 {Φ : ev_P} {d : Nat} (hd : 64 ≤ d) {g : gH} (hg : HR g) {v0 v1 v2 : Int} (hK0 : kd v0 = 7) (h1 : InR v1) (h2 : InR v2) (u3 : Option ev_V) (w3 : nwo u3) : Go Φ pr_P fN 1 (jM_print_116 g v0 v1 v2 ) d pr_m213 116 [some (sR v0), some (sI v1), some (sI v2), u3] [] g 0 0 := by
  unfold jM_print_116
  refine go_iload kk213_1.2.1.2.1.1.1 rfl ?_
  refine go_int kk213_1.2.1.2.1.1.2 4 rfl ?_
  refine go_cmeq kk213_1.2.1.2.1.2 h2 (inR_of (by decide)) (fun c63 => ?_) (fun c64 => ?_)
  · refine go_aload kk213_1.2.1.2.2.1 rfl ?_
    refine go_iload kk213_1.2.1.2.2.2 rfl ?_
    refine go_callN0 kk213_1.2.2.1.1.1.1 rfl rfl rfl ⟨by decide, _, rfl, hK0⟩ ⟨Nat.zero_le _, Nat.zero_le _⟩ (by omega) (tfM_writeZombies (by omega) hg hK0  h1) (fun y65 g67 e68 => ?_)
    exact tjM_print_126 hd e68 hK0 (some (sI v1)) rfl (some (sI v2)) rfl u3 w3
  · exact tjM_print_126 hd hg hK0 (some (sI v1)) rfl (some (sI v2)) rfl u3 w3
theorem tbM_print_81 {Φ : ev_P} {d : Nat} (hd : 64 ≤ d) {v0 v1 v2 : Int} (hK0 : kd v0 = 7) (h1 : InR v1) (h2 : InR v2) {X81 : Int → gH → Option (Int × gH)} (HX81 : ∀ (v3 : Int) (h3 : InR v3) (g : gH) (hg : HR g), Go Φ pr_P fN 1 (X81 v3 g) d pr_m213 81 [some (sR v0), some (sI v1), some (sI v2), some (sI v3)] [] g 0 0) : ∀ (v3 : Int) (h3 : InR v3) (g : gH) (hg : HR g), Go Φ pr_P fN 1 (bM_print_81 v0 v1 v2 X81 v3 g) d pr_m213 81 [some (sR v0), some (sI v1), some (sI v2), some (sI v3)] [] g 0 0 := by
  intro v3 h3 g hg
  unfold bM_print_81
  refine go_iload kk213_1.1.1.2.1.1.2 rfl ?_
  refine go_int kk213_1.1.1.2.1.2 8 rfl ?_
  refine go_cmlt kk213_1.1.1.2.2.1 h3 (inR_of (by decide)) (fun c50 => ?_) (fun c51 => ?_)
  · refine go_iload kk213_1.1.1.2.2.2 rfl ?_
    refine go_int kk213_1.1.2.1.1.1.1 3 rfl ?_
    refine go_cmeq kk213_1.1.2.1.1.1.2 h2 (inR_of (by decide)) (fun c52 => ?_) (fun c53 => ?_)
    · refine go_aload kk213_1.1.2.1.1.2 rfl ?_
      refine go_getR (bI := 0) kk213_1.1.2.1.2.1 hg hK0 (by decide) rfl rfl (fun r54 => ?_)
      refine go_int kk213_1.1.2.1.2.2 11 rfl ?_
      refine go_iload kk213_1.1.2.2.1.1.1 rfl ?_
      refine go_iadd kk213_1.1.2.2.1.1.2 ?_
      refine go_ck (fun q56 => ?_)
      refine go_iald kk213_1.1.2.2.1.2 hg q56 (fun r55 => ?_)
      refine go_iload kk213_1.1.2.2.2.1 rfl ?_
      refine go_cmeq kk213_1.1.2.2.2.2 r55 h1 (fun c57 => ?_) (fun c58 => ?_)
      · refine go_aload kk213_1.2.1.1.1.1.1 rfl ?_
        refine go_iload kk213_1.2.1.1.1.1.2 rfl ?_
        refine go_callN0 kk213_1.2.1.1.1.2 rfl rfl rfl ⟨by decide, _, rfl, hK0⟩ ⟨Nat.zero_le _, Nat.zero_le _⟩ (by omega) (tfM_writeNumber (by omega) hg hK0  h3) (fun y59 g61 e62 => ?_)
        refine go_iinc kk213_1.2.1.1.2.1 rfl rfl 1 rfl (loc2 := [some (sR v0), some (sI v1), some (sI v2), some (sI (w32 (v3 + 1)))]) rfl ?_
        refine go_goto kk213_1.2.1.1.2.2 ?_
        exact HX81 (w32 (v3 + 1)) (inR_w32 _) g61 e62
      · refine go_iinc kk213_1.2.1.1.2.1 rfl rfl 1 rfl (loc2 := [some (sR v0), some (sI v1), some (sI v2), some (sI (w32 (v3 + 1)))]) rfl ?_
        refine go_goto kk213_1.2.1.1.2.2 ?_
        exact HX81 (w32 (v3 + 1)) (inR_w32 _) g hg
    · exact tjM_print_116 hd hg hK0 h1 h2 (some (sI v3)) rfl
  · exact tjM_print_116 hd hg hK0 h1 h2 (some (sI v3)) rfl
theorem tlM_print_81 {Φ : ev_P} {d : Nat} (hd : 64 ≤ d) {v0 v1 v2 : Int} (hK0 : kd v0 = 7) (h1 : InR v1) (h2 : InR v2) : ∀ n : Nat, ∀ (v3 : Int) (h3 : InR v3) (g : gH) (hg : HR g), Go Φ pr_P fN 1 (lM_print_81 v0 v1 v2 n v3 g) d pr_m213 81 [some (sR v0), some (sI v1), some (sI v2), some (sI v3)] [] g 0 0 := by
  intro n
  induction n with
  | zero => intros; exact go_none
  | succ n ih => exact tbM_print_81 hd hK0 h1 h2 ih
theorem tjM_print_69 {Φ : ev_P} {d : Nat} (hd : 64 ≤ d) {g : gH} (hg : HR g) {v0 v1 v2 : Int} (hK0 : kd v0 = 7) (h1 : InR v1) (h2 : InR v2) (u3 : Option ev_V) (w3 : nwo u3) : Go Φ pr_P fN 1 (jM_print_69 g v0 v1 v2 ) d pr_m213 69 [some (sR v0), some (sI v1), some (sI v2), u3] [] g 0 0 := by
  unfold jM_print_69
  refine go_iload kk213_0.2.2.2.2.2 rfl ?_
  refine go_int kk213_1.1.1.1.1.1.1 2 rfl ?_
  refine go_cmeq kk213_1.1.1.1.1.1.2 h2 (inR_of (by decide)) (fun c44 => ?_) (fun c45 => ?_)
  · refine go_aload kk213_1.1.1.1.1.2 rfl ?_
    refine go_iload kk213_1.1.1.1.2.1.1 rfl ?_
    refine go_callN0 kk213_1.1.1.1.2.1.2 rfl rfl rfl ⟨by decide, _, rfl, hK0⟩ ⟨Nat.zero_le _, Nat.zero_le _⟩ (by omega) (tfM_writeTree (by omega) hg hK0  h1) (fun y46 g48 e49 => ?_)
    refine go_int kk213_1.1.1.1.2.2 0 rfl ?_
    refine go_istore kk213_1.1.1.2.1.1.1 rfl (loc2 := [some (sR v0), some (sI v1), some (sI v2), some (sI 0)]) rfl ?_
    exact tlM_print_81 hd hK0 h1 h2 fu 0 (inR_b (Or.inl rfl)) g48 e49
  · refine go_int kk213_1.1.1.1.2.2 0 rfl ?_
    refine go_istore kk213_1.1.1.2.1.1.1 rfl (loc2 := [some (sR v0), some (sI v1), some (sI v2), some (sI 0)]) rfl ?_
    exact tlM_print_81 hd hK0 h1 h2 fu 0 (inR_b (Or.inl rfl)) g hg
theorem tjM_print_59 {Φ : ev_P} {d : Nat} (hd : 64 ≤ d) {g : gH} (hg : HR g) {v0 v1 v2 : Int} (hK0 : kd v0 = 7) (h1 : InR v1) (h2 : InR v2) (u3 : Option ev_V) (w3 : nwo u3) : Go Φ pr_P fN 1 (jM_print_59 g v0 v1 v2 ) d pr_m213 59 [some (sR v0), some (sI v1), some (sI v2), u3] [] g 0 0 := by
  unfold jM_print_59
  refine go_iload kk213_0.2.2.1.2.1 rfl ?_
  refine go_int kk213_0.2.2.1.2.2 1 rfl ?_
  refine go_cmeq kk213_0.2.2.2.1.1.1 h2 (inR_b (Or.inr rfl)) (fun c38 => ?_) (fun c39 => ?_)
  · refine go_aload kk213_0.2.2.2.1.1.2 rfl ?_
    refine go_iload kk213_0.2.2.2.1.2 rfl ?_
    refine go_callN0 kk213_0.2.2.2.2.1 rfl rfl rfl ⟨by decide, _, rfl, hK0⟩ ⟨Nat.zero_le _, Nat.zero_le _⟩ (by omega) (tfM_writeChildren (by omega) hg hK0  h1) (fun y40 g42 e43 => ?_)
    exact tjM_print_69 hd e43 hK0 h1 h2 u3 w3
  · exact tjM_print_69 hd hg hK0 h1 h2 u3 w3
theorem tjM_print_23 {Φ : ev_P} {d : Nat} (hd : 64 ≤ d) {g : gH} (hg : HR g) {v0 v1 v2 : Int} (hK0 : kd v0 = 7) (h1 : InR v1) (h2 : InR v2) {s0 s1 : Int} (z0 : RfR s0) (z1 : B01 s1) (u3 : Option ev_V) (w3 : nwo u3) : Go Φ pr_P fN 1 (jM_print_23 g v0 v1 v2 s0 s1 ) d pr_m213 23 [some (sR v0), some (sI v1), some (sI v2), u3] [(sI s1), (sR s0)] g 0 0 := by
  unfold jM_print_23
  refine go_int kk213_0.1.2.1.2.1 2 rfl ?_
  refine go_ck (fun q13 => ?_)
  refine go_callN3 kk213_0.1.2.1.2.2 rfl rfl rfl ⟨by decide, _, rfl, q13⟩ ⟨Nat.zero_le _, Nat.zero_le _⟩ (by omega) (tfM_fails (by omega) hg q13  z1 (inR_of (by decide))) (fun y14 g16 r15 e17 => ?_)
  refine go_ifeq kk213_0.1.2.2.1.1.1 (inR_b r15) (fun c18 => ?_) (fun c19 => ?_)
  · refine go_aload kk213_0.1.2.2.1.1.2 rfl ?_
    refine go_aload kk213_0.1.2.2.1.2 rfl ?_
    refine go_iload kk213_0.1.2.2.2.1 rfl ?_
    refine go_callP3 kk213_0.1.2.2.2.2 rfl rfl rfl ⟨by decide, _, rfl, hK0⟩ ⟨Nat.zero_le _, Nat.zero_le _⟩ (by omega) (tfM_isGone (by omega) e17 hK0  h1) (fun y20 r21 => ?_)
    refine go_int kk213_0.2.1.1.1.1.1 3 rfl ?_
    refine go_callN3 kk213_0.2.1.1.1.1.2 rfl rfl rfl ⟨by decide, _, rfl, hK0⟩ ⟨Nat.zero_le _, Nat.zero_le _⟩ (by omega) (tfM_fails (by omega) e17 hK0  r21 (inR_of (by decide))) (fun y24 g26 r25 e27 => ?_)
    refine go_ifeq kk213_0.2.1.1.1.2 (inR_b r25) (fun c28 => ?_) (fun c29 => ?_)
    · refine go_aload kk213_0.2.1.2.1.1.1 rfl ?_
      refine go_int kk213_0.2.1.2.1.1.2 0 rfl ?_
      refine go_putI (bI := 23) kk213_0.2.1.2.1.2 e27 hK0 (by decide) rfl rfl (inR_b (Or.inl rfl)) (fun g30 e31 => ?_)
      refine go_iload kk213_0.2.1.2.2.1 rfl ?_
      refine go_ifeq kk213_0.2.1.2.2.2 h2 (fun c32 => ?_) (fun c33 => ?_)
      · refine go_aload kk213_0.2.2.1.1.1.1 rfl ?_
        refine go_iload kk213_0.2.2.1.1.1.2 rfl ?_
        refine go_callN0 kk213_0.2.2.1.1.2 rfl rfl rfl ⟨by decide, _, rfl, hK0⟩ ⟨Nat.zero_le _, Nat.zero_le _⟩ (by omega) (tfM_writePath (by omega) e31 hK0  h1) (fun y34 g36 e37 => ?_)
        exact tjM_print_59 hd e37 hK0 h1 h2 u3 w3
      · exact tjM_print_59 hd e31 hK0 h1 h2 u3 w3
    · refine go_int kk213_0.2.1.1.2.1 0 rfl ?_
      exact go_iret kk213_0.2.1.1.2.2 e27 (inR_b (Or.inl rfl)) ⟨Nat.zero_le _, Nat.zero_le _⟩ rfl
  · refine go_int kk213_0.2.1.1.2.1 0 rfl ?_
    exact go_iret kk213_0.2.1.1.2.2 e17 (inR_b (Or.inl rfl)) ⟨Nat.zero_le _, Nat.zero_le _⟩ rfl
theorem tfM_print {Φ : ev_P} {d : Nat} (hd : 64 ≤ d) {g : gH} (hg : HR g) {v0 v1 v2 : Int} (hK0 : kd v0 = 7) (h1 : InR v1) (h2 : InR v2) : Go Φ pr_P fN 1 (fM_print g v0 v1 v2) d (pr_P 213) 0 (ev_loc (pr_P 213).1 [(sR v0), (sI v1), (sI v2)]) [] g 0 0 := by
  show Go Φ pr_P fN 1 (fM_print g v0 v1 v2) d pr_m213 0 [some (sR v0), some (sI v1), some (sI v2), none] [] g 0 0
  unfold fM_print
  refine go_aload kk213_0.1.1.1.1.1.1 rfl ?_
  refine go_iload kk213_0.1.1.1.1.1.2 rfl ?_
  refine go_callN3 kk213_0.1.1.1.1.2 rfl rfl rfl ⟨by decide, _, rfl, hK0⟩ ⟨Nat.zero_le _, Nat.zero_le _⟩ (by omega) (tfM_noProcess (by omega) hg hK0  h1) (fun y1 g3 r2 e4 => ?_)
  refine go_ifeq kk213_0.1.1.1.2.1 (inR_b r2) (fun c5 => ?_) (fun c6 => ?_)
  · refine go_aload kk213_0.1.1.1.2.2 rfl ?_
    refine go_iload kk213_0.1.1.2.1.1.1 rfl ?_
    refine go_int kk213_0.1.1.2.1.1.2 0 rfl ?_
    refine go_int kk213_0.1.1.2.1.2 4 rfl ?_
    refine go_callP3 kk213_0.1.1.2.2.1 rfl rfl rfl trivial ⟨Nat.zero_le _, Nat.zero_le _⟩ (by omega) (tfM_inRange (by omega) e4  h2 (inR_b (Or.inl rfl)) (inR_of (by decide))) (fun y7 r8 => ?_)
    refine go_ifeq kk213_0.1.1.2.2.2 (inR_b r8) (fun c11 => ?_) (fun c12 => ?_)
    · refine go_int kk213_0.1.2.1.1.1.1 1 rfl ?_
      refine go_goto kk213_0.1.2.1.1.1.2 ?_
      exact tjM_print_23 hd e4 hK0 h1 h2 (rfR_kd hK0 (by decide)) (Or.inr rfl) none rfl
    · refine go_int kk213_0.1.2.1.1.2 0 rfl ?_
      exact tjM_print_23 hd e4 hK0 h1 h2 (rfR_kd hK0 (by decide)) (Or.inl rfl) none rfl
  · refine go_int kk213_0.2.1.1.2.1 0 rfl ?_
    exact go_iret kk213_0.2.1.1.2.2 e4 (inR_b (Or.inl rfl)) ⟨Nat.zero_le _, Nat.zero_le _⟩ rfl
/-! ===== the evaluator comes to what the functions tell (own work, by program: wip/p2/dec.py) ===== -/
theorem tfM_outputByte {Φ : ev_P} {d : Nat} (hd : 1 ≤ d) {g : gH} (hg : HR g) {v0 v1 : Int} (hK0 : kd v0 = 7) (h1 : InR v1) : Go Φ pr_P fN 1 (fM_outputByte g v0 v1) d (pr_P 214) 0 (ev_loc (pr_P 214).1 [(sR v0), (sI v1)]) [] g 0 0 := by
  show Go Φ pr_P fN 1 (fM_outputByte g v0 v1) d pr_m214 0 [some (sR v0), some (sI v1)] [] g 0 0
  unfold fM_outputByte
  refine go_aload kk214_0.1.1.1.1.1 rfl ?_
  refine go_int kk214_0.1.1.1.1.2 0 rfl ?_
  refine go_putI (bI := 8) kk214_0.1.1.1.2 hg hK0 (by decide) rfl rfl (inR_b (Or.inl rfl)) (fun g1 e2 => ?_)
  refine go_iload kk214_0.1.1.2.1 rfl ?_
  refine go_int kk214_0.1.1.2.2 0 rfl ?_
  refine go_aload kk214_0.1.2.1.1 rfl ?_
  refine go_getI (bI := 23) kk214_0.1.2.1.2 e2 hK0 (by decide) rfl rfl (fun r3 => ?_)
  refine go_int kk214_0.1.2.2.1 1 rfl ?_
  refine go_isub kk214_0.1.2.2.2 ?_
  refine go_callP3 kk214_0.2.1.1.1.1 rfl rfl rfl trivial ⟨Nat.zero_le _, Nat.zero_le _⟩ (by omega) (tfM_inRange (by omega) e2  h1 (inR_b (Or.inl rfl)) (inR_w32 _)) (fun y4 r5 => ?_)
  refine go_ifeq kk214_0.2.1.1.1.2 (inR_b r5) (fun c8 => ?_) (fun c9 => ?_)
  · refine go_int kk214_0.2.2.2.1 (-1) rfl ?_
    exact go_iret kk214_0.2.2.2.2 e2 (inR_of (by decide)) ⟨Nat.zero_le _, Nat.zero_le _⟩ rfl
  · refine go_aload kk214_0.2.1.1.2 rfl ?_
    refine go_getR (bI := 22) kk214_0.2.1.2.1 e2 hK0 (by decide) rfl rfl (fun r10 => ?_)
    refine go_iload kk214_0.2.1.2.2 rfl ?_
    refine go_ck (fun q12 => ?_)
    refine go_iald kk214_0.2.2.1.1 e2 q12 (fun r11 => ?_)
    refine go_goto kk214_0.2.2.1.2 ?_
    exact go_iret kk214_0.2.2.2.2 e2 r11 ⟨Nat.zero_le _, Nat.zero_le _⟩ rfl
theorem tfM_undo {Φ : ev_P} {d : Nat} (hd : 1 ≤ d) {g : gH} (hg : HR g) {v0 : Int} (hK0 : kd v0 = 7) : Go Φ pr_P fN 1 (fM_undo g v0) d (pr_P 215) 0 (ev_loc (pr_P 215).1 [(sR v0)]) [] g 0 0 := by
  show Go Φ pr_P fN 1 (fM_undo g v0) d pr_m215 0 [some (sR v0)] [] g 0 0
  unfold fM_undo
  refine go_aload kk215_0.1.1.1.1.1 rfl ?_
  refine go_int kk215_0.1.1.1.1.2 0 rfl ?_
  refine go_putI (bI := 8) kk215_0.1.1.1.2.1 hg hK0 (by decide) rfl rfl (inR_b (Or.inl rfl)) (fun g1 e2 => ?_)
  refine go_aload kk215_0.1.1.1.2.2 rfl ?_
  refine go_getI (bI := 6) kk215_0.1.1.2.1.1 e2 hK0 (by decide) rfl rfl (fun r3 => ?_)
  refine go_ifeq kk215_0.1.1.2.1.2 r3 (fun c4 => ?_) (fun c5 => ?_)
  · refine go_int kk215_0.1.1.2.2 (-1) rfl ?_
    exact go_iret kk215_0.1.2.1.1.1 e2 (inR_of (by decide)) ⟨Nat.zero_le _, Nat.zero_le _⟩ rfl
  · refine go_aload kk215_0.1.2.1.1.2 rfl ?_
    refine go_dupR kk215_0.1.2.1.2.1 ?_
    refine go_getI (bI := 6) kk215_0.1.2.1.2.2 e2 hK0 (by decide) rfl rfl (fun r6 => ?_)
    refine go_int kk215_0.1.2.2.1.1 1 rfl ?_
    refine go_isub kk215_0.1.2.2.1.2 ?_
    refine go_putI (bI := 6) kk215_0.1.2.2.2 e2 hK0 (by decide) rfl rfl (inR_w32 _) (fun g7 e8 => ?_)
    refine go_aload kk215_0.2.1.1.1.1 rfl ?_
    refine go_getR (bI := 4) kk215_0.2.1.1.1.2 e8 hK0 (by decide) rfl rfl (fun r9 => ?_)
    refine go_int kk215_0.2.1.1.2.1 780 rfl ?_
    refine go_aload kk215_0.2.1.1.2.2 rfl ?_
    refine go_getI (bI := 6) kk215_0.2.1.2.1.1 e8 hK0 (by decide) rfl rfl (fun r10 => ?_)
    refine go_ibin kk215_0.2.1.2.1.2 ?_
    refine go_aload kk215_0.2.1.2.2 rfl ?_
    refine go_getR (bI := 0) kk215_0.2.2.1.1.1 e8 hK0 (by decide) rfl rfl (fun r11 => ?_)
    refine go_int kk215_0.2.2.1.1.2 0 rfl ?_
    refine go_int kk215_0.2.2.1.2.1 780 rfl ?_
    refine go_callN0 kk215_0.2.2.1.2.2 rfl rfl rfl trivial ⟨Nat.zero_le _, Nat.zero_le _⟩ (by omega) (tfM_copies (by omega) e8  r9 (inR_opI _ _ _) r11 (inR_b (Or.inl rfl)) (inR_of (by decide))) (fun y12 g14 e15 => ?_)
    refine go_aload kk215_0.2.2.2.1.1 rfl ?_
    refine go_getI (bI := 6) kk215_0.2.2.2.1.2 e15 hK0 (by decide) rfl rfl (fun r16 => ?_)
    exact go_iret kk215_0.2.2.2.2 e15 r16 ⟨Nat.zero_le _, Nat.zero_le _⟩ rfl
theorem tfM_saveState {Φ : ev_P} {d : Nat} (hd : 2 ≤ d) {g : gH} (hg : HR g) {v0 : Int} (hK0 : kd v0 = 7) : Go Φ pr_P fN 1 (fM_saveState g v0) d (pr_P 216) 0 (ev_loc (pr_P 216).1 [(sR v0)]) [] g 0 0 := by
  show Go Φ pr_P fN 1 (fM_saveState g v0) d pr_m216 0 [some (sR v0)] [] g 0 0
  unfold fM_saveState
  refine go_aload kk216_0.1.1.1.1.1 rfl ?_
  refine go_int kk216_0.1.1.1.1.2 0 rfl ?_
  refine go_putI (bI := 8) kk216_0.1.1.1.2 hg hK0 (by decide) rfl rfl (inR_b (Or.inl rfl)) (fun g1 e2 => ?_)
  refine go_aload kk216_0.1.1.2.1 rfl ?_
  refine go_getR (bI := 0) kk216_0.1.1.2.2 e2 hK0 (by decide) rfl rfl (fun r3 => ?_)
  refine go_int kk216_0.1.2.1.1 0 rfl ?_
  refine go_aload kk216_0.1.2.1.2 rfl ?_
  refine go_getR (bI := 3) kk216_0.1.2.2.1 e2 hK0 (by decide) rfl rfl (fun r4 => ?_)
  refine go_int kk216_0.1.2.2.2 0 rfl ?_
  refine go_int kk216_0.2.1.1.1 780 rfl ?_
  refine go_callN0 kk216_0.2.1.1.2 rfl rfl rfl trivial ⟨Nat.zero_le _, Nat.zero_le _⟩ (by omega) (tfM_copies (by omega) e2  r3 (inR_b (Or.inl rfl)) r4 (inR_b (Or.inl rfl)) (inR_of (by decide))) (fun y5 g7 e8 => ?_)
  refine go_aload kk216_0.2.1.2.1 rfl ?_
  refine go_int kk216_0.2.1.2.2 1 rfl ?_
  refine go_putB (bI := 7) kk216_0.2.2.1.1 e8 hK0 (by decide) rfl rfl (Or.inr rfl) (fun g9 e10 => ?_)
  refine go_aload kk216_0.2.2.1.2 rfl ?_
  refine go_callP1 kk216_0.2.2.2.1 rfl rfl rfl ⟨by decide, _, rfl, hK0⟩ ⟨Nat.zero_le _, Nat.zero_le _⟩ (by omega) (tfM_runningMany (by omega) e10 hK0 ) (fun y11 r12 => ?_)
  exact go_iret kk216_0.2.2.2.2 e10 r12 ⟨Nat.zero_le _, Nat.zero_le _⟩ rfl
theorem tjM_restoreState_18 {Φ : ev_P} {d : Nat} (hd : 2 ≤ d) {g : gH} (hg : HR g) {v0 : Int} (hK0 : kd v0 = 7) {s0 s1 : Int} (z0 : RfR s0) (z1 : B01 s1) : Go Φ pr_P fN 1 (jM_restoreState_18 g v0 s0 s1 ) d pr_m217 18 [some (sR v0)] [(sI s1), (sR s0)] g 0 0 := by
  unfold jM_restoreState_18
  refine go_int kk217_0.1.2.1.2.1 1 rfl ?_
  refine go_ck (fun q6 => ?_)
  refine go_callN3 kk217_0.1.2.1.2.2 rfl rfl rfl ⟨by decide, _, rfl, q6⟩ ⟨Nat.zero_le _, Nat.zero_le _⟩ (by omega) (tfM_fails (by omega) hg q6  z1 (inR_b (Or.inr rfl))) (fun y7 g9 r8 e10 => ?_)
  refine go_ifeq kk217_0.1.2.2.1.1 (inR_b r8) (fun c11 => ?_) (fun c12 => ?_)
  · refine go_aload kk217_0.2.1.1.1.1 rfl ?_
    refine go_getR (bI := 3) kk217_0.2.1.1.1.2 e10 hK0 (by decide) rfl rfl (fun r13 => ?_)
    refine go_int kk217_0.2.1.1.2.1 0 rfl ?_
    refine go_aload kk217_0.2.1.1.2.2 rfl ?_
    refine go_getR (bI := 0) kk217_0.2.1.2.1.1 e10 hK0 (by decide) rfl rfl (fun r14 => ?_)
    refine go_int kk217_0.2.1.2.1.2 0 rfl ?_
    refine go_int kk217_0.2.1.2.2 780 rfl ?_
    refine go_callN0 kk217_0.2.2.1.1.1 rfl rfl rfl trivial ⟨Nat.zero_le _, Nat.zero_le _⟩ (by omega) (tfM_copies (by omega) e10  r13 (inR_b (Or.inl rfl)) r14 (inR_b (Or.inl rfl)) (inR_of (by decide))) (fun y15 g17 e18 => ?_)
    refine go_aload kk217_0.2.2.1.1.2 rfl ?_
    refine go_int kk217_0.2.2.1.2.1 0 rfl ?_
    refine go_putI (bI := 6) kk217_0.2.2.1.2.2 e18 hK0 (by decide) rfl rfl (inR_b (Or.inl rfl)) (fun g19 e20 => ?_)
    refine go_aload kk217_0.2.2.2.1.1 rfl ?_
    refine go_callP1 kk217_0.2.2.2.1.2 rfl rfl rfl ⟨by decide, _, rfl, hK0⟩ ⟨Nat.zero_le _, Nat.zero_le _⟩ (by omega) (tfM_runningMany (by omega) e20 hK0 ) (fun y21 r22 => ?_)
    exact go_iret kk217_0.2.2.2.2 e20 r22 ⟨Nat.zero_le _, Nat.zero_le _⟩ rfl
  · refine go_int kk217_0.1.2.2.1.2 0 rfl ?_
    exact go_iret kk217_0.1.2.2.2 e10 (inR_b (Or.inl rfl)) ⟨Nat.zero_le _, Nat.zero_le _⟩ rfl
theorem tfM_restoreState {Φ : ev_P} {d : Nat} (hd : 2 ≤ d) {g : gH} (hg : HR g) {v0 : Int} (hK0 : kd v0 = 7) : Go Φ pr_P fN 1 (fM_restoreState g v0) d (pr_P 217) 0 (ev_loc (pr_P 217).1 [(sR v0)]) [] g 0 0 := by
  show Go Φ pr_P fN 1 (fM_restoreState g v0) d pr_m217 0 [some (sR v0)] [] g 0 0
  unfold fM_restoreState
  refine go_aload kk217_0.1.1.1.1.1 rfl ?_
  refine go_int kk217_0.1.1.1.1.2 0 rfl ?_
  refine go_putI (bI := 8) kk217_0.1.1.1.2.1 hg hK0 (by decide) rfl rfl (inR_b (Or.inl rfl)) (fun g1 e2 => ?_)
  refine go_aload kk217_0.1.1.1.2.2 rfl ?_
  refine go_aload kk217_0.1.1.2.1.1 rfl ?_
  refine go_getB (bI := 7) kk217_0.1.1.2.1.2 e2 hK0 (by decide) rfl rfl (fun r3 => ?_)
  refine go_ifeq kk217_0.1.1.2.2.1 (inR_b r3) (fun c4 => ?_) (fun c5 => ?_)
  · refine go_int kk217_0.1.1.2.2.2 1 rfl ?_
    refine go_goto kk217_0.1.2.1.1.1 ?_
    exact tjM_restoreState_18 hd e2 hK0 (rfR_kd hK0 (by decide)) (Or.inr rfl)
  · refine go_int kk217_0.1.2.1.1.2 0 rfl ?_
    exact tjM_restoreState_18 hd e2 hK0 (rfR_kd hK0 (by decide)) (Or.inl rfl)
theorem tbT_dutiesOf_4 {Φ : ev_P} {d : Nat} (hd : 0 ≤ d) {g : gH} (hg : HR g) {v0 v1 : Int} (hK0 : kd v0 = 5) (h1 : RfR v1) {X4 : Int → Int → Option Int} (HX4 : ∀ (v2 : Int) (h2 : InR v2) (v3 : Int) (h3 : InR v3), Go Φ pr_P (fP g) 1 (X4 v2 v3) d pr_m285 4 [some (sR v0), some (sR v1), some (sI v2), some (sI v3)] [] g 0 0) : ∀ (v2 : Int) (h2 : InR v2) (v3 : Int) (h3 : InR v3), Go Φ pr_P (fP g) 1 (bT_dutiesOf_4 g v0 v1 X4 v2 v3) d pr_m285 4 [some (sR v0), some (sR v1), some (sI v2), some (sI v3)] [] g 0 0 := by
  intro v2 h2 v3 h3
  unfold bT_dutiesOf_4
  refine go_iload kk285_0.1.1.2.1.2 rfl ?_
  refine go_int kk285_0.1.1.2.2 8 rfl ?_
  refine go_cmlt kk285_0.1.2.1.1.1 h3 (inR_of (by decide)) (fun c1 => ?_) (fun c2 => ?_)
  · refine go_aload kk285_0.1.2.1.1.2 rfl ?_
    refine go_getR (bI := 2) kk285_0.1.2.1.2 hg hK0 (by decide) rfl rfl (fun r3 => ?_)
    refine go_iload kk285_0.1.2.2.1.1 rfl ?_
    refine go_ck (fun q5 => ?_)
    refine go_iald kk285_0.1.2.2.1.2 hg q5 (fun r4 => ?_)
    refine go_aload kk285_0.1.2.2.2 rfl ?_
    refine go_ck (fun q6 => ?_)
    refine go_getI (bI := 0) kk285_0.2.1.1.1.1 hg q6 (by decide) rfl rfl (fun r7 => ?_)
    refine go_cmeq kk285_0.2.1.1.1.2 r4 r7 (fun c8 => ?_) (fun c9 => ?_)
    · refine go_iload kk285_0.2.1.1.2 rfl ?_
      refine go_int kk285_0.2.1.2.1.1 1 rfl ?_
      refine go_iload kk285_0.2.1.2.1.2 rfl ?_
      refine go_ibin kk285_0.2.1.2.2 ?_
      refine go_ibin kk285_0.2.2.1.1.1 ?_
      refine go_istore kk285_0.2.2.1.1.2 rfl (loc2 := [some (sR v0), some (sR v1), some (sI (opI 2 v2 (opI 4 1 v3))), some (sI v3)]) rfl ?_
      refine go_iinc kk285_0.2.2.1.2 rfl rfl 1 rfl (loc2 := [some (sR v0), some (sR v1), some (sI (opI 2 v2 (opI 4 1 v3))), some (sI (w32 (v3 + 1)))]) rfl ?_
      refine go_goto kk285_0.2.2.2.1.1 ?_
      exact HX4 (opI 2 v2 (opI 4 1 v3)) (inR_opI _ _ _) (w32 (v3 + 1)) (inR_w32 _)
    · refine go_iinc kk285_0.2.2.1.2 rfl rfl 1 rfl (loc2 := [some (sR v0), some (sR v1), some (sI v2), some (sI (w32 (v3 + 1)))]) rfl ?_
      refine go_goto kk285_0.2.2.2.1.1 ?_
      exact HX4 v2 h2 (w32 (v3 + 1)) (inR_w32 _)
  · refine go_iload kk285_0.2.2.2.1.2 rfl ?_
    exact go_iret kk285_0.2.2.2.2 hg h2 ⟨Nat.zero_le _, Nat.zero_le _⟩ rfl
theorem tlT_dutiesOf_4 {Φ : ev_P} {d : Nat} (hd : 0 ≤ d) {g : gH} (hg : HR g) {v0 v1 : Int} (hK0 : kd v0 = 5) (h1 : RfR v1) : ∀ n : Nat, ∀ (v2 : Int) (h2 : InR v2) (v3 : Int) (h3 : InR v3), Go Φ pr_P (fP g) 1 (lT_dutiesOf_4 g v0 v1 n v2 v3) d pr_m285 4 [some (sR v0), some (sR v1), some (sI v2), some (sI v3)] [] g 0 0 := by
  intro n
  induction n with
  | zero => intros; exact go_none
  | succ n ih => exact tbT_dutiesOf_4 hd hg hK0 h1 ih
theorem tfT_dutiesOf {Φ : ev_P} {d : Nat} (hd : 0 ≤ d) {g : gH} (hg : HR g) {v0 v1 : Int} (hK0 : kd v0 = 5) (h1 : RfR v1) : Go Φ pr_P (fP g) 1 (fT_dutiesOf g v0 v1) d (pr_P 285) 0 (ev_loc (pr_P 285).1 [(sR v0), (sR v1)]) [] g 0 0 := by
  show Go Φ pr_P (fP g) 1 (fT_dutiesOf g v0 v1) d pr_m285 0 [some (sR v0), some (sR v1), none, none] [] g 0 0
  unfold fT_dutiesOf
  refine go_int kk285_0.1.1.1.1.1 0 rfl ?_
  refine go_istore kk285_0.1.1.1.1.2 rfl (loc2 := [some (sR v0), some (sR v1), some (sI 0), none]) rfl ?_
  refine go_int kk285_0.1.1.1.2 0 rfl ?_
  refine go_istore kk285_0.1.1.2.1.1 rfl (loc2 := [some (sR v0), some (sR v1), some (sI 0), some (sI 0)]) rfl ?_
  exact tlT_dutiesOf_4 hd hg hK0 h1 fu 0 (inR_b (Or.inl rfl)) 0 (inR_b (Or.inl rfl))
theorem tfC_count {Φ : ev_P} {d : Nat} (hd : 1 ≤ d) {g : gH} (hg : HR g) {v0 v1 : Int} (hK0 : kd v0 = 6) (h1 : InR v1) : Go Φ pr_P (fQ g) 1 (fC_count g v0 v1) d (pr_P 6) 0 (ev_loc (pr_P 6).1 [(sR v0), (sI v1)]) [] g 0 0 := by
  show Go Φ pr_P (fQ g) 1 (fC_count g v0 v1) d pr_m6 0 [some (sR v0), some (sI v1)] [] g 0 0
  unfold fC_count
  refine go_iload kk6_0.1.1.1.1.1.1 rfl ?_
  refine go_ite (fun c1 => ?_) (fun c2 => ?_)
  · refine go_swh (lo := 0) (hi := 10) (i := 0) kk6_0.1.1.1.1.1.2 rfl rfl (by omega) (by omega) rfl ?_
    refine go_aload kk6_0.1.1.1.1.2.1 rfl ?_
    refine go_getR (bI := 0) kk6_0.1.1.1.1.2.2 hg hK0 (by decide) rfl rfl (fun r3 => ?_)
    refine go_ck (fun q4 => ?_)
    refine go_getI (bI := 5) kk6_0.1.1.1.2.1.1 hg q4 (by decide) rfl rfl (fun r5 => ?_)
    exact go_iret kk6_0.1.1.1.2.1.2 hg r5 ⟨Nat.zero_le _, Nat.zero_le _⟩ rfl
  refine go_ite (fun c6 => ?_) (fun c7 => ?_)
  · refine go_swh (lo := 0) (hi := 10) (i := 1) kk6_0.1.1.1.1.1.2 rfl rfl (by omega) (by omega) rfl ?_
    refine go_aload kk6_0.1.1.1.2.2 rfl ?_
    refine go_getR (bI := 0) kk6_0.1.1.2.1.1.1 hg hK0 (by decide) rfl rfl (fun r8 => ?_)
    refine go_int kk6_0.1.1.2.1.1.2 0 rfl ?_
    refine go_ck (fun q9 => ?_)
    refine go_callP1 kk6_0.1.1.2.1.2.1 rfl rfl rfl ⟨by decide, _, rfl, q9⟩ ⟨Nat.zero_le _, Nat.zero_le _⟩ (by omega) (tfT_countInState (by omega) hg q9  (inR_b (Or.inl rfl))) (fun y10 r11 => ?_)
    exact go_iret kk6_0.1.1.2.1.2.2 hg r11 ⟨Nat.zero_le _, Nat.zero_le _⟩ rfl
  refine go_ite (fun c14 => ?_) (fun c15 => ?_)
  · refine go_swh (lo := 0) (hi := 10) (i := 2) kk6_0.1.1.1.1.1.2 rfl rfl (by omega) (by omega) rfl ?_
    refine go_aload kk6_0.1.1.2.2.1.1 rfl ?_
    refine go_getR (bI := 0) kk6_0.1.1.2.2.1.2 hg hK0 (by decide) rfl rfl (fun r16 => ?_)
    refine go_int kk6_0.1.1.2.2.2 1 rfl ?_
    refine go_ck (fun q17 => ?_)
    refine go_callP1 kk6_0.1.2.1.1.1.1 rfl rfl rfl ⟨by decide, _, rfl, q17⟩ ⟨Nat.zero_le _, Nat.zero_le _⟩ (by omega) (tfT_countInState (by omega) hg q17  (inR_b (Or.inr rfl))) (fun y18 r19 => ?_)
    exact go_iret kk6_0.1.2.1.1.1.2 hg r19 ⟨Nat.zero_le _, Nat.zero_le _⟩ rfl
  refine go_ite (fun c22 => ?_) (fun c23 => ?_)
  · refine go_swh (lo := 0) (hi := 10) (i := 3) kk6_0.1.1.1.1.1.2 rfl rfl (by omega) (by omega) rfl ?_
    refine go_aload kk6_0.1.2.1.1.2.1 rfl ?_
    refine go_getR (bI := 0) kk6_0.1.2.1.1.2.2 hg hK0 (by decide) rfl rfl (fun r24 => ?_)
    refine go_int kk6_0.1.2.1.2.1.1 2 rfl ?_
    refine go_ck (fun q25 => ?_)
    refine go_callP1 kk6_0.1.2.1.2.1.2 rfl rfl rfl ⟨by decide, _, rfl, q25⟩ ⟨Nat.zero_le _, Nat.zero_le _⟩ (by omega) (tfT_countInState (by omega) hg q25  (inR_of (by decide))) (fun y26 r27 => ?_)
    exact go_iret kk6_0.1.2.1.2.2 hg r27 ⟨Nat.zero_le _, Nat.zero_le _⟩ rfl
  refine go_ite (fun c30 => ?_) (fun c31 => ?_)
  · refine go_swh (lo := 0) (hi := 10) (i := 4) kk6_0.1.1.1.1.1.2 rfl rfl (by omega) (by omega) rfl ?_
    refine go_aload kk6_0.1.2.2.1.1.1 rfl ?_
    refine go_getR (bI := 0) kk6_0.1.2.2.1.1.2 hg hK0 (by decide) rfl rfl (fun r32 => ?_)
    refine go_ck (fun q33 => ?_)
    refine go_getI (bI := 6) kk6_0.1.2.2.1.2 hg q33 (by decide) rfl rfl (fun r34 => ?_)
    exact go_iret kk6_0.1.2.2.2.1.1 hg r34 ⟨Nat.zero_le _, Nat.zero_le _⟩ rfl
  refine go_ite (fun c35 => ?_) (fun c36 => ?_)
  · refine go_swh (lo := 0) (hi := 10) (i := 5) kk6_0.1.1.1.1.1.2 rfl rfl (by omega) (by omega) rfl ?_
    refine go_aload kk6_0.1.2.2.2.1.2 rfl ?_
    refine go_getR (bI := 0) kk6_0.1.2.2.2.2 hg hK0 (by decide) rfl rfl (fun r37 => ?_)
    refine go_ck (fun q38 => ?_)
    refine go_getI (bI := 7) kk6_0.2.1.1.1.1.1 hg q38 (by decide) rfl rfl (fun r39 => ?_)
    exact go_iret kk6_0.2.1.1.1.1.2 hg r39 ⟨Nat.zero_le _, Nat.zero_le _⟩ rfl
  refine go_ite (fun c40 => ?_) (fun c41 => ?_)
  · refine go_swh (lo := 0) (hi := 10) (i := 6) kk6_0.1.1.1.1.1.2 rfl rfl (by omega) (by omega) rfl ?_
    refine go_aload kk6_0.2.1.1.1.2.1 rfl ?_
    refine go_getR (bI := 0) kk6_0.2.1.1.1.2.2 hg hK0 (by decide) rfl rfl (fun r42 => ?_)
    refine go_ck (fun q43 => ?_)
    refine go_getI (bI := 8) kk6_0.2.1.1.2.1.1 hg q43 (by decide) rfl rfl (fun r44 => ?_)
    exact go_iret kk6_0.2.1.1.2.1.2 hg r44 ⟨Nat.zero_le _, Nat.zero_le _⟩ rfl
  refine go_ite (fun c45 => ?_) (fun c46 => ?_)
  · refine go_swh (lo := 0) (hi := 10) (i := 7) kk6_0.1.1.1.1.1.2 rfl rfl (by omega) (by omega) rfl ?_
    refine go_aload kk6_0.2.1.1.2.2 rfl ?_
    refine go_getR (bI := 0) kk6_0.2.1.2.1.1.1 hg hK0 (by decide) rfl rfl (fun r47 => ?_)
    refine go_ck (fun q48 => ?_)
    refine go_getI (bI := 9) kk6_0.2.1.2.1.1.2 hg q48 (by decide) rfl rfl (fun r49 => ?_)
    exact go_iret kk6_0.2.1.2.1.2.1 hg r49 ⟨Nat.zero_le _, Nat.zero_le _⟩ rfl
  refine go_ite (fun c50 => ?_) (fun c51 => ?_)
  · refine go_swh (lo := 0) (hi := 10) (i := 8) kk6_0.1.1.1.1.1.2 rfl rfl (by omega) (by omega) rfl ?_
    refine go_aload kk6_0.2.1.2.1.2.2 rfl ?_
    refine go_getR (bI := 0) kk6_0.2.1.2.2.1.1 hg hK0 (by decide) rfl rfl (fun r52 => ?_)
    refine go_aload kk6_0.2.1.2.2.1.2 rfl ?_
    refine go_getR (bI := 0) kk6_0.2.1.2.2.2 hg hK0 (by decide) rfl rfl (fun r53 => ?_)
    refine go_ck (fun q54 => ?_)
    refine go_getR (bI := 0) kk6_0.2.2.1.1.1.1 hg q54 (by decide) rfl rfl (fun r55 => ?_)
    refine go_callP1 kk6_0.2.2.1.1.1.2 rfl rfl rfl ⟨by decide, _, rfl, q54⟩ ⟨Nat.zero_le _, Nat.zero_le _⟩ (by omega) (tfT_dutiesOf (by omega) hg q54  r55) (fun y56 r57 => ?_)
    refine go_callP1 kk6_0.2.2.1.1.2.1 rfl rfl rfl trivial ⟨Nat.zero_le _, Nat.zero_le _⟩ (by omega) (tfJ_bitCount (by omega) hg  r57) (fun y60 r61 => ?_)
    exact go_iret kk6_0.2.2.1.1.2.2 hg r61 ⟨Nat.zero_le _, Nat.zero_le _⟩ rfl
  refine go_ite (fun c64 => ?_) (fun c65 => ?_)
  · refine go_swh (lo := 0) (hi := 10) (i := 9) kk6_0.1.1.1.1.1.2 rfl rfl (by omega) (by omega) rfl ?_
    refine go_aload kk6_0.2.2.1.2.1.1 rfl ?_
    refine go_getR (bI := 3) kk6_0.2.2.1.2.1.2 hg hK0 (by decide) rfl rfl (fun r66 => ?_)
    refine go_ck (fun q67 => ?_)
    refine go_getI (bI := 1) kk6_0.2.2.1.2.2 hg q67 (by decide) rfl rfl (fun r68 => ?_)
    exact go_iret kk6_0.2.2.2.1.1.1 hg r68 ⟨Nat.zero_le _, Nat.zero_le _⟩ rfl
  refine go_ite (fun c69 => ?_) (fun c70 => ?_)
  · refine go_swh (lo := 0) (hi := 10) (i := 10) kk6_0.1.1.1.1.1.2 rfl rfl (by omega) (by omega) rfl ?_
    refine go_aload kk6_0.2.2.2.1.1.2 rfl ?_
    refine go_getR (bI := 0) kk6_0.2.2.2.1.2 hg hK0 (by decide) rfl rfl (fun r71 => ?_)
    refine go_ck (fun q72 => ?_)
    refine go_getI (bI := 4) kk6_0.2.2.2.2.1.1 hg q72 (by decide) rfl rfl (fun r73 => ?_)
    exact go_iret kk6_0.2.2.2.2.1.2 hg r73 ⟨Nat.zero_le _, Nat.zero_le _⟩ rfl
  refine go_swd (lo := 0) (hi := 10) kk6_0.1.1.1.1.1.2 rfl rfl h1 (by omega) (by omega) ?_
  exact go_throw kk6_0.2.2.2.2.2 hg ⟨by decide, by decide⟩ rfl rfl
theorem tfW_count {Φ : ev_P} {d : Nat} (hd : 2 ≤ d) {g : gH} (hg : HR g) {v0 v1 v2 : Int} (h0 : RfR v0) (h1 : InR v1) (h2 : RfR v2) : Go Φ pr_P fN 1 (fW_count g v0 v1 v2) d (pr_P 305) 0 (ev_loc (pr_P 305).1 [(sR v0), (sI v1), (sR v2)]) [] g 0 0 := by
  show Go Φ pr_P fN 1 (fW_count g v0 v1 v2) d pr_m305 0 [some (sR v0), some (sI v1), some (sR v2), none] [] g 0 0
  unfold fW_count
  refine go_aload kk305_0.1.1.1.1 rfl ?_
  refine go_int kk305_0.1.1.1.2 0 rfl ?_
  refine go_aload kk305_0.1.1.2.1 rfl ?_
  refine go_iload kk305_0.1.1.2.2 rfl ?_
  refine go_ck (fun q1 => ?_)
  refine go_callQ1 kk305_0.1.2.1.1 rfl rfl rfl ⟨by decide, _, rfl, q1⟩ ⟨by decide, by decide⟩ (by omega) (tfC_count (by omega) hg q1  h1) (fun y2 r3 => ?_) (fun e6 E7 => ?_)
  · refine go_i2l kk305_0.1.2.1.2 r3 ?_
    refine go_ck (fun q8 => ?_)
    refine go_last kk305_0.1.2.2 hg q8 (inL_R r3) (fun g9 e10 => ?_)
    refine go_goto kk305_0.2.1.1.1 ?_
    refine go_int kk305_0.2.2.1.2 0 rfl ?_
    exact go_iret kk305_0.2.2.2 e10 (inR_b (Or.inl rfl)) ⟨by decide, by decide⟩ rfl
  · refine ge_ite (fun hE9 => ?_) (fun _ => ?_)
    · subst hE9
      refine ge_catch rfl kk305_0.2.1.1.2 rfl (loc2 := [some (sR v0), some (sI v1), some (sR v2), none]) rfl ?_
      refine go_int kk305_0.2.1.2 1 rfl ?_
      exact go_iret kk305_0.2.2.1.1 e6 (inR_b (Or.inr rfl)) ⟨by decide, by decide⟩ rfl
    exact ge_none
theorem tfC_named {Φ : ev_P} {d : Nat} (hd : 1 ≤ d) {g : gH} (hg : HR g) {v0 v1 : Int} (hK0 : kd v0 = 6) (h1 : InR v1) : Go Φ pr_P (fQ g) 2 (fC_named g v0 v1) d (pr_P 65) 0 (ev_loc (pr_P 65).1 [(sR v0), (sI v1)]) [] g 0 0 := by
  show Go Φ pr_P (fQ g) 2 (fC_named g v0 v1) d pr_m65 0 [some (sR v0), some (sI v1), none] [] g 0 0
  unfold fC_named
  refine go_aload kk65_0.1.1.1.1 rfl ?_
  refine go_getR (bI := 0) kk65_0.1.1.1.2 hg hK0 (by decide) rfl rfl (fun r1 => ?_)
  refine go_iload kk65_0.1.1.2 rfl ?_
  refine go_ck (fun q2 => ?_)
  refine go_callP2 kk65_0.1.2.1 rfl rfl rfl ⟨by decide, _, rfl, q2⟩ ⟨Nat.zero_le _, Nat.zero_le _⟩ (by omega) (tfT_at (by omega) hg q2  h1) (fun y3 r4 => ?_)
  refine go_astore kk65_0.1.2.2 rfl (loc2 := [some (sR v0), some (sI v1), some (sR y3)]) rfl ?_
  refine go_aload kk65_0.2.1.1.1 rfl ?_
  refine go_isnull kk65_0.2.1.1.2  (fun c7 => ?_) (fun c8 => ?_)
  · exact go_throw kk65_0.2.1.2 hg ⟨by decide, by decide⟩ rfl rfl
  · refine go_aload kk65_0.2.2.1 rfl ?_
    exact go_aret kk65_0.2.2.2 hg r4 ⟨Nat.zero_le _, Nat.zero_le _⟩ rfl
theorem tfC_numberOf {Φ : ev_P} {d : Nat} (hd : 0 ≤ d) {g : gH} (hg : HR g) {v0 : Int} (h0 : RfR v0) : Go Φ pr_P (fP g) 1 (fC_numberOf g v0) d (pr_P 68) 0 (ev_loc (pr_P 68).1 [(sR v0)]) [] g 0 0 := by
  show Go Φ pr_P (fP g) 1 (fC_numberOf g v0) d pr_m68 0 [some (sR v0)] [] g 0 0
  unfold fC_numberOf
  refine go_aload kk68_0.1.1.1 rfl ?_
  refine go_isnull kk68_0.1.1.2  (fun c1 => ?_) (fun c2 => ?_)
  · refine go_int kk68_0.1.2.1 (-1) rfl ?_
    refine go_goto kk68_0.1.2.2 ?_
    exact go_iret kk68_0.2.2 hg (inR_of (by decide)) ⟨Nat.zero_le _, Nat.zero_le _⟩ rfl
  · refine go_aload kk68_0.2.1.1 rfl ?_
    refine go_ck (fun q3 => ?_)
    refine go_getI (bI := 0) kk68_0.2.1.2 hg q3 (by decide) rfl rfl (fun r4 => ?_)
    exact go_iret kk68_0.2.2 hg r4 ⟨Nat.zero_le _, Nat.zero_le _⟩ rfl
theorem tbP_willMask_4 {Φ : ev_P} {d : Nat} (hd : 1 ≤ d) {g : gH} (hg : HR g) {v0 : Int} (hK0 : kd v0 = 3) {X4 : Int → Int → Option Int} (HX4 : ∀ (v1 : Int) (h1 : InR v1) (v2 : Int) (h2 : InR v2), Go Φ pr_P (fP g) 1 (X4 v1 v2) d pr_m248 4 [some (sR v0), some (sI v1), some (sI v2)] [] g 0 0) : ∀ (v1 : Int) (h1 : InR v1) (v2 : Int) (h2 : InR v2), Go Φ pr_P (fP g) 1 (bP_willMask_4 g v0 X4 v1 v2) d pr_m248 4 [some (sR v0), some (sI v1), some (sI v2)] [] g 0 0 := by
  intro v1 h1 v2 h2
  unfold bP_willMask_4
  refine go_iload kk248_0.1.1.2.1.2 rfl ?_
  refine go_int kk248_0.1.1.2.2 8 rfl ?_
  refine go_cmlt kk248_0.1.2.1.1.1 h2 (inR_of (by decide)) (fun c1 => ?_) (fun c2 => ?_)
  · refine go_aload kk248_0.1.2.1.1.2 rfl ?_
    refine go_iload kk248_0.1.2.1.2 rfl ?_
    refine go_callP1 kk248_0.1.2.2.1 rfl rfl rfl ⟨by decide, _, rfl, hK0⟩ ⟨Nat.zero_le _, Nat.zero_le _⟩ (by omega) (tfP_willFor (by omega) hg hK0  h2) (fun y3 r4 => ?_)
    refine go_int kk248_0.1.2.2.2 (-1) rfl ?_
    refine go_cmeq kk248_0.2.1.1.1.1 r4 (inR_of (by decide)) (fun c7 => ?_) (fun c8 => ?_)
    · refine go_iinc kk248_0.2.2.1.1.2 rfl rfl 1 rfl (loc2 := [some (sR v0), some (sI v1), some (sI (w32 (v2 + 1)))]) rfl ?_
      refine go_goto kk248_0.2.2.1.2 ?_
      exact HX4 v1 h1 (w32 (v2 + 1)) (inR_w32 _)
    · refine go_iload kk248_0.2.1.1.1.2 rfl ?_
      refine go_int kk248_0.2.1.1.2 1 rfl ?_
      refine go_iload kk248_0.2.1.2.1.1 rfl ?_
      refine go_ibin kk248_0.2.1.2.1.2 ?_
      refine go_ibin kk248_0.2.1.2.2 ?_
      refine go_istore kk248_0.2.2.1.1.1 rfl (loc2 := [some (sR v0), some (sI (opI 2 v1 (opI 4 1 v2))), some (sI v2)]) rfl ?_
      refine go_iinc kk248_0.2.2.1.1.2 rfl rfl 1 rfl (loc2 := [some (sR v0), some (sI (opI 2 v1 (opI 4 1 v2))), some (sI (w32 (v2 + 1)))]) rfl ?_
      refine go_goto kk248_0.2.2.1.2 ?_
      exact HX4 (opI 2 v1 (opI 4 1 v2)) (inR_opI _ _ _) (w32 (v2 + 1)) (inR_w32 _)
  · refine go_iload kk248_0.2.2.2.1 rfl ?_
    exact go_iret kk248_0.2.2.2.2 hg h1 ⟨Nat.zero_le _, Nat.zero_le _⟩ rfl
theorem tlP_willMask_4 {Φ : ev_P} {d : Nat} (hd : 1 ≤ d) {g : gH} (hg : HR g) {v0 : Int} (hK0 : kd v0 = 3) : ∀ n : Nat, ∀ (v1 : Int) (h1 : InR v1) (v2 : Int) (h2 : InR v2), Go Φ pr_P (fP g) 1 (lP_willMask_4 g v0 n v1 v2) d pr_m248 4 [some (sR v0), some (sI v1), some (sI v2)] [] g 0 0 := by
  intro n
  induction n with
  | zero => intros; exact go_none
  | succ n ih => exact tbP_willMask_4 hd hg hK0 ih
theorem tfP_willMask {Φ : ev_P} {d : Nat} (hd : 1 ≤ d) {g : gH} (hg : HR g) {v0 : Int} (hK0 : kd v0 = 3) : Go Φ pr_P (fP g) 1 (fP_willMask g v0) d (pr_P 248) 0 (ev_loc (pr_P 248).1 [(sR v0)]) [] g 0 0 := by
  show Go Φ pr_P (fP g) 1 (fP_willMask g v0) d pr_m248 0 [some (sR v0), none, none] [] g 0 0
  unfold fP_willMask
  refine go_int kk248_0.1.1.1.1.1 0 rfl ?_
  refine go_istore kk248_0.1.1.1.1.2 rfl (loc2 := [some (sR v0), some (sI 0), none]) rfl ?_
  refine go_int kk248_0.1.1.1.2 0 rfl ?_
  refine go_istore kk248_0.1.1.2.1.1 rfl (loc2 := [some (sR v0), some (sI 0), some (sI 0)]) rfl ?_
  exact tlP_willMask_4 hd hg hK0 fu 0 (inR_b (Or.inl rfl)) 0 (inR_b (Or.inl rfl))
theorem tfP_isZombieOf {Φ : ev_P} {d : Nat} (hd : 0 ≤ d) {g : gH} (hg : HR g) {v0 v1 : Int} (hK0 : kd v0 = 3) (h1 : RfR v1) : Go Φ pr_P (fP g) 3 (fP_isZombieOf g v0 v1) d (pr_P 239) 0 (ev_loc (pr_P 239).1 [(sR v0), (sR v1)]) [] g 0 0 := by
  show Go Φ pr_P (fP g) 3 (fP_isZombieOf g v0 v1) d pr_m239 0 [some (sR v0), some (sR v1)] [] g 0 0
  unfold fP_isZombieOf
  refine go_aload kk239_0.1.1.1.1 rfl ?_
  refine go_getI (bI := 1) kk239_0.1.1.1.2 hg hK0 (by decide) rfl rfl (fun r1 => ?_)
  refine go_int kk239_0.1.1.2 1 rfl ?_
  refine go_cmeq kk239_0.1.2.1.1 r1 (inR_b (Or.inr rfl)) (fun c2 => ?_) (fun c3 => ?_)
  · refine go_aload kk239_0.1.2.1.2 rfl ?_
    refine go_getR (bI := 2) kk239_0.1.2.2 hg hK0 (by decide) rfl rfl (fun r4 => ?_)
    refine go_aload kk239_0.2.1.1.1 rfl ?_
    refine go_acmp kk239_0.2.1.1.2 r4 h1 (fun c5 => ?_) (fun c6 => ?_)
    · refine go_int kk239_0.2.1.2 1 rfl ?_
      refine go_goto kk239_0.2.2.1.1 ?_
      exact go_bret kk239_0.2.2.2 hg (Or.inr rfl) ⟨Nat.zero_le _, Nat.zero_le _⟩ rfl
    · refine go_int kk239_0.2.2.1.2 0 rfl ?_
      exact go_bret kk239_0.2.2.2 hg (Or.inl rfl) ⟨Nat.zero_le _, Nat.zero_le _⟩ rfl
  · refine go_int kk239_0.2.2.1.2 0 rfl ?_
    exact go_bret kk239_0.2.2.2 hg (Or.inl rfl) ⟨Nat.zero_le _, Nat.zero_le _⟩ rfl
theorem tbT_countZombiesOf_14 {Φ : ev_P} {d : Nat} (hd : 1 ≤ d) {g : gH} (hg : HR g) {v1 v3 v4 : Int} (h1 : RfR v1) (h3 : RfR v3) (h4 : InR v4) {X14 : Int → Int → Option Int} (HX14 : ∀ (v2 : Int) (h2 : InR v2) (v5 : Int) (h5 : InR v5) (u0 : Option ev_V) (w0 : nwo u0) (u6 : Option ev_V) (w6 : nwo u6), Go Φ pr_P (fP g) 1 (X14 v2 v5) d pr_m277 14 [u0, some (sR v1), some (sI v2), some (sR v3), some (sI v4), some (sI v5), u6] [] g 0 0) : ∀ (v2 : Int) (h2 : InR v2) (v5 : Int) (h5 : InR v5) (u0 : Option ev_V) (w0 : nwo u0) (u6 : Option ev_V) (w6 : nwo u6), Go Φ pr_P (fP g) 1 (bT_countZombiesOf_14 g v1 v3 v4 X14 v2 v5) d pr_m277 14 [u0, some (sR v1), some (sI v2), some (sR v3), some (sI v4), some (sI v5), u6] [] g 0 0 := by
  intro v2 h2 v5 h5 u0 w0 u6 w6
  unfold bT_countZombiesOf_14
  refine go_iload kk277_0.1.2.2.1.1 rfl ?_
  refine go_iload kk277_0.1.2.2.1.2 rfl ?_
  refine go_cmlt kk277_0.1.2.2.2 h5 h4 (fun c4 => ?_) (fun c5 => ?_)
  · refine go_aload kk277_0.2.1.1.1.1 rfl ?_
    refine go_iload kk277_0.2.1.1.1.2 rfl ?_
    refine go_ck (fun q7 => ?_)
    refine go_pald kk277_0.2.1.1.2.1 hg q7 (fun r6 => ?_)
    refine go_astore kk277_0.2.1.1.2.2 rfl (loc2 := [u0, some (sR v1), some (sI v2), some (sR v3), some (sI v4), some (sI v5), some (sR (g v3 v5))]) rfl ?_
    refine go_aload kk277_0.2.1.2.1.1 rfl ?_
    refine go_aload kk277_0.2.1.2.1.2 rfl ?_
    refine go_ck (fun q8 => ?_)
    refine go_callP3 kk277_0.2.1.2.2 rfl rfl rfl ⟨by decide, _, rfl, q8⟩ ⟨Nat.zero_le _, Nat.zero_le _⟩ (by omega) (tfP_isZombieOf (by omega) hg q8  h1) (fun y9 r10 => ?_)
    refine go_ifeq kk277_0.2.2.1.1.1 (inR_b r10) (fun c13 => ?_) (fun c14 => ?_)
    · refine go_iinc kk277_0.2.2.1.2 rfl rfl 1 rfl (loc2 := [u0, some (sR v1), some (sI v2), some (sR v3), some (sI v4), some (sI (w32 (v5 + 1))), some (sR (g v3 v5))]) rfl ?_
      refine go_goto kk277_0.2.2.2.1.1 ?_
      exact HX14 v2 h2 (w32 (v5 + 1)) (inR_w32 _) u0 w0 (some (sR (g v3 v5))) rfl
    · refine go_iinc kk277_0.2.2.1.1.2 rfl rfl 1 rfl (loc2 := [u0, some (sR v1), some (sI (w32 (v2 + 1))), some (sR v3), some (sI v4), some (sI v5), some (sR (g v3 v5))]) rfl ?_
      refine go_iinc kk277_0.2.2.1.2 rfl rfl 1 rfl (loc2 := [u0, some (sR v1), some (sI (w32 (v2 + 1))), some (sR v3), some (sI v4), some (sI (w32 (v5 + 1))), some (sR (g v3 v5))]) rfl ?_
      refine go_goto kk277_0.2.2.2.1.1 ?_
      exact HX14 (w32 (v2 + 1)) (inR_w32 _) (w32 (v5 + 1)) (inR_w32 _) u0 w0 (some (sR (g v3 v5))) rfl
  · refine go_iload kk277_0.2.2.2.1.2 rfl ?_
    exact go_iret kk277_0.2.2.2.2 hg h2 ⟨Nat.zero_le _, Nat.zero_le _⟩ rfl
theorem tlT_countZombiesOf_14 {Φ : ev_P} {d : Nat} (hd : 1 ≤ d) {g : gH} (hg : HR g) {v1 v3 v4 : Int} (h1 : RfR v1) (h3 : RfR v3) (h4 : InR v4) : ∀ n : Nat, ∀ (v2 : Int) (h2 : InR v2) (v5 : Int) (h5 : InR v5) (u0 : Option ev_V) (w0 : nwo u0) (u6 : Option ev_V) (w6 : nwo u6), Go Φ pr_P (fP g) 1 (lT_countZombiesOf_14 g v1 v3 v4 n v2 v5) d pr_m277 14 [u0, some (sR v1), some (sI v2), some (sR v3), some (sI v4), some (sI v5), u6] [] g 0 0 := by
  intro n
  induction n with
  | zero => intros; exact go_none
  | succ n ih => exact tbT_countZombiesOf_14 hd hg h1 h3 h4 ih
theorem tfT_countZombiesOf {Φ : ev_P} {d : Nat} (hd : 1 ≤ d) {g : gH} (hg : HR g) {v0 v1 : Int} (hK0 : kd v0 = 5) (h1 : RfR v1) : Go Φ pr_P (fP g) 1 (fT_countZombiesOf g v0 v1) d (pr_P 277) 0 (ev_loc (pr_P 277).1 [(sR v0), (sR v1)]) [] g 0 0 := by
  show Go Φ pr_P (fP g) 1 (fT_countZombiesOf g v0 v1) d pr_m277 0 [some (sR v0), some (sR v1), none, none, none, none, none] [] g 0 0
  unfold fT_countZombiesOf
  refine go_int kk277_0.1.1.1.1.1 0 rfl ?_
  refine go_istore kk277_0.1.1.1.1.2 rfl (loc2 := [some (sR v0), some (sR v1), some (sI 0), none, none, none, none]) rfl ?_
  refine go_aload kk277_0.1.1.1.2.1 rfl ?_
  refine go_getR (bI := 1) kk277_0.1.1.1.2.2 hg hK0 (by decide) rfl rfl (fun r1 => ?_)
  refine go_astore kk277_0.1.1.2.1.1 rfl (loc2 := [some (sR v0), some (sR v1), some (sI 0), some (sR (g v0 1)), none, none, none]) rfl ?_
  refine go_aload kk277_0.1.1.2.1.2 rfl ?_
  refine go_ck (fun q3 => ?_)
  refine go_alen kk277_0.1.1.2.2 (ka_24 q3) (fun r2 => ?_)
  refine go_istore kk277_0.1.2.1.1.1 rfl (loc2 := [some (sR v0), some (sR v1), some (sI 0), some (sR (g v0 1)), some (sI (sz (g v0 1))), none, none]) rfl ?_
  refine go_int kk277_0.1.2.1.1.2 0 rfl ?_
  refine go_istore kk277_0.1.2.1.2 rfl (loc2 := [some (sR v0), some (sR v1), some (sI 0), some (sR (g v0 1)), some (sI (sz (g v0 1))), some (sI 0), none]) rfl ?_
  exact tlT_countZombiesOf_14 hd hg h1 r1 r2 fu 0 (inR_b (Or.inl rfl)) 0 (inR_b (Or.inl rfl)) (some (sR v0)) rfl none rfl
theorem tfC_process {Φ : ev_P} {d : Nat} (hd : 2 ≤ d) {g : gH} (hg : HR g) {v0 v1 v2 : Int} (hK0 : kd v0 = 6) (h1 : InR v1) (h2 : InR v2) : Go Φ pr_P (fQ g) 1 (fC_process g v0 v1 v2) d (pr_P 7) 0 (ev_loc (pr_P 7).1 [(sR v0), (sI v1), (sI v2)]) [] g 0 0 := by
  show Go Φ pr_P (fQ g) 1 (fC_process g v0 v1 v2) d pr_m7 0 [some (sR v0), some (sI v1), some (sI v2), none] [] g 0 0
  unfold fC_process
  refine go_aload kk7_0.1.1.1.1.1.1 rfl ?_
  refine go_iload kk7_0.1.1.1.1.1.2 rfl ?_
  refine go_callQ2 kk7_0.1.1.1.1.2.1 rfl rfl rfl ⟨by decide, _, rfl, hK0⟩ ⟨by decide, by decide⟩ (by omega) (tfC_named (by omega) hg hK0  h1) (fun y1 r2 => ?_) (fun e5 E6 => ge_prop rfl ⟨by decide, by decide⟩ e5 rfl)
  refine go_astore kk7_0.1.1.1.1.2.2 rfl (loc2 := [some (sR v0), some (sI v1), some (sI v2), some (sR y1)]) rfl ?_
  refine go_iload kk7_0.1.1.1.2.1.1 rfl ?_
  refine go_ite (fun c7 => ?_) (fun c8 => ?_)
  · refine go_swh (lo := 0) (hi := 14) (i := 0) kk7_0.1.1.1.2.1.2 rfl rfl (by omega) (by omega) rfl ?_
    refine go_aload kk7_0.1.1.1.2.2.1 rfl ?_
    refine go_ck (fun q9 => ?_)
    refine go_getR (bI := 2) kk7_0.1.1.1.2.2.2 hg q9 (by decide) rfl rfl (fun r10 => ?_)
    refine go_callP1 kk7_0.1.1.2.1.1.1 rfl rfl rfl trivial ⟨by decide, by decide⟩ (by omega) (tfC_numberOf (by omega) hg  r10) (fun y11 r12 => ?_)
    exact go_iret kk7_0.1.1.2.1.1.2 hg r12 ⟨by decide, by decide⟩ rfl
  refine go_ite (fun c15 => ?_) (fun c16 => ?_)
  · refine go_swh (lo := 0) (hi := 14) (i := 1) kk7_0.1.1.1.2.1.2 rfl rfl (by omega) (by omega) rfl ?_
    refine go_aload kk7_0.1.1.2.1.2.1 rfl ?_
    refine go_ck (fun q17 => ?_)
    refine go_getI (bI := 4) kk7_0.1.1.2.1.2.2 hg q17 (by decide) rfl rfl (fun r18 => ?_)
    exact go_iret kk7_0.1.1.2.2.1.1 hg r18 ⟨by decide, by decide⟩ rfl
  refine go_ite (fun c19 => ?_) (fun c20 => ?_)
  · refine go_swh (lo := 0) (hi := 14) (i := 2) kk7_0.1.1.1.2.1.2 rfl rfl (by omega) (by omega) rfl ?_
    refine go_aload kk7_0.1.1.2.2.1.2 rfl ?_
    refine go_ck (fun q21 => ?_)
    refine go_callP1 kk7_0.1.1.2.2.2 rfl rfl rfl ⟨by decide, _, rfl, q21⟩ ⟨by decide, by decide⟩ (by omega) (tfP_room (by omega) hg q21 ) (fun y22 r23 => ?_)
    exact go_iret kk7_0.1.2.1.1.1.1 hg r23 ⟨by decide, by decide⟩ rfl
  refine go_ite (fun c26 => ?_) (fun c27 => ?_)
  · refine go_swh (lo := 0) (hi := 14) (i := 3) kk7_0.1.1.1.2.1.2 rfl rfl (by omega) (by omega) rfl ?_
    refine go_aload kk7_0.1.2.1.1.1.2 rfl ?_
    refine go_ck (fun q28 => ?_)
    refine go_getI (bI := 3) kk7_0.1.2.1.1.2.1 hg q28 (by decide) rfl rfl (fun r29 => ?_)
    exact go_iret kk7_0.1.2.1.1.2.2 hg r29 ⟨by decide, by decide⟩ rfl
  refine go_ite (fun c30 => ?_) (fun c31 => ?_)
  · refine go_swh (lo := 0) (hi := 14) (i := 4) kk7_0.1.1.1.2.1.2 rfl rfl (by omega) (by omega) rfl ?_
    refine go_aload kk7_0.1.2.1.2.1.1 rfl ?_
    refine go_getR (bI := 0) kk7_0.1.2.1.2.1.2 hg hK0 (by decide) rfl rfl (fun r32 => ?_)
    refine go_aload kk7_0.1.2.1.2.2 rfl ?_
    refine go_ck (fun q33 => ?_)
    refine go_callP1 kk7_0.1.2.2.1.1.1 rfl rfl rfl ⟨by decide, _, rfl, q33⟩ ⟨by decide, by decide⟩ (by omega) (tfT_countZombiesOf (by omega) hg q33  r2) (fun y34 r35 => ?_)
    exact go_iret kk7_0.1.2.2.1.1.2 hg r35 ⟨by decide, by decide⟩ rfl
  refine go_ite (fun c38 => ?_) (fun c39 => ?_)
  · refine go_swh (lo := 0) (hi := 14) (i := 5) kk7_0.1.1.1.2.1.2 rfl rfl (by omega) (by omega) rfl ?_
    refine go_aload kk7_0.1.2.2.1.2.1 rfl ?_
    refine go_ck (fun q40 => ?_)
    refine go_getI (bI := 1) kk7_0.1.2.2.1.2.2 hg q40 (by decide) rfl rfl (fun r41 => ?_)
    exact go_iret kk7_0.1.2.2.2.1.1 hg r41 ⟨by decide, by decide⟩ rfl
  refine go_ite (fun c42 => ?_) (fun c43 => ?_)
  · refine go_swh (lo := 0) (hi := 14) (i := 6) kk7_0.1.1.1.2.1.2 rfl rfl (by omega) (by omega) rfl ?_
    refine go_aload kk7_0.1.2.2.2.1.2 rfl ?_
    refine go_ck (fun q44 => ?_)
    refine go_getI (bI := 5) kk7_0.1.2.2.2.2 hg q44 (by decide) rfl rfl (fun r45 => ?_)
    exact go_iret kk7_0.2.1.1.1.1.1 hg r45 ⟨by decide, by decide⟩ rfl
  refine go_ite (fun c46 => ?_) (fun c47 => ?_)
  · refine go_swh (lo := 0) (hi := 14) (i := 7) kk7_0.1.1.1.2.1.2 rfl rfl (by omega) (by omega) rfl ?_
    refine go_aload kk7_0.2.1.1.1.1.2 rfl ?_
    refine go_ck (fun q48 => ?_)
    refine go_getI (bI := 6) kk7_0.2.1.1.1.2.1 hg q48 (by decide) rfl rfl (fun r49 => ?_)
    exact go_iret kk7_0.2.1.1.1.2.2 hg r49 ⟨by decide, by decide⟩ rfl
  refine go_ite (fun c50 => ?_) (fun c51 => ?_)
  · refine go_swh (lo := 0) (hi := 14) (i := 8) kk7_0.1.1.1.2.1.2 rfl rfl (by omega) (by omega) rfl ?_
    refine go_aload kk7_0.2.1.1.2.1.1 rfl ?_
    refine go_ck (fun q52 => ?_)
    refine go_getI (bI := 7) kk7_0.2.1.1.2.1.2 hg q52 (by decide) rfl rfl (fun r53 => ?_)
    exact go_iret kk7_0.2.1.1.2.2 hg r53 ⟨by decide, by decide⟩ rfl
  refine go_ite (fun c54 => ?_) (fun c55 => ?_)
  · refine go_swh (lo := 0) (hi := 14) (i := 9) kk7_0.1.1.1.2.1.2 rfl rfl (by omega) (by omega) rfl ?_
    refine go_aload kk7_0.2.1.2.1.1.1 rfl ?_
    refine go_getR (bI := 0) kk7_0.2.1.2.1.1.2 hg hK0 (by decide) rfl rfl (fun r56 => ?_)
    refine go_aload kk7_0.2.1.2.1.2.1 rfl ?_
    refine go_ck (fun q57 => ?_)
    refine go_callP1 kk7_0.2.1.2.1.2.2 rfl rfl rfl ⟨by decide, _, rfl, q57⟩ ⟨by decide, by decide⟩ (by omega) (tfT_dutiesOf (by omega) hg q57  r2) (fun y58 r59 => ?_)
    exact go_iret kk7_0.2.1.2.2.1.1 hg r59 ⟨by decide, by decide⟩ rfl
  refine go_ite (fun c62 => ?_) (fun c63 => ?_)
  · refine go_swh (lo := 0) (hi := 14) (i := 10) kk7_0.1.1.1.2.1.2 rfl rfl (by omega) (by omega) rfl ?_
    refine go_aload kk7_0.2.1.2.2.1.2 rfl ?_
    refine go_ck (fun q64 => ?_)
    refine go_getI (bI := 9) kk7_0.2.1.2.2.2 hg q64 (by decide) rfl rfl (fun r65 => ?_)
    exact go_iret kk7_0.2.2.1.1.1.1 hg r65 ⟨by decide, by decide⟩ rfl
  refine go_ite (fun c66 => ?_) (fun c67 => ?_)
  · refine go_swh (lo := 0) (hi := 14) (i := 11) kk7_0.1.1.1.2.1.2 rfl rfl (by omega) (by omega) rfl ?_
    refine go_aload kk7_0.2.2.1.1.1.2 rfl ?_
    refine go_ck (fun q68 => ?_)
    refine go_getI (bI := 8) kk7_0.2.2.1.1.2.1 hg q68 (by decide) rfl rfl (fun r69 => ?_)
    exact go_iret kk7_0.2.2.1.1.2.2 hg r69 ⟨by decide, by decide⟩ rfl
  refine go_ite (fun c70 => ?_) (fun c71 => ?_)
  · refine go_swh (lo := 0) (hi := 14) (i := 12) kk7_0.1.1.1.2.1.2 rfl rfl (by omega) (by omega) rfl ?_
    refine go_aload kk7_0.2.2.1.2.1.1 rfl ?_
    refine go_ck (fun q72 => ?_)
    refine go_getI (bI := 11) kk7_0.2.2.1.2.1.2 hg q72 (by decide) rfl rfl (fun r73 => ?_)
    exact go_iret kk7_0.2.2.1.2.2 hg r73 ⟨by decide, by decide⟩ rfl
  refine go_ite (fun c74 => ?_) (fun c75 => ?_)
  · refine go_swh (lo := 0) (hi := 14) (i := 13) kk7_0.1.1.1.2.1.2 rfl rfl (by omega) (by omega) rfl ?_
    refine go_aload kk7_0.2.2.2.1.1.1 rfl ?_
    refine go_ck (fun q76 => ?_)
    refine go_getI (bI := 12) kk7_0.2.2.2.1.1.2 hg q76 (by decide) rfl rfl (fun r77 => ?_)
    exact go_iret kk7_0.2.2.2.1.2.1 hg r77 ⟨by decide, by decide⟩ rfl
  refine go_ite (fun c78 => ?_) (fun c79 => ?_)
  · refine go_swh (lo := 0) (hi := 14) (i := 14) kk7_0.1.1.1.2.1.2 rfl rfl (by omega) (by omega) rfl ?_
    refine go_aload kk7_0.2.2.2.1.2.2 rfl ?_
    refine go_ck (fun q80 => ?_)
    refine go_callP1 kk7_0.2.2.2.2.1.1 rfl rfl rfl ⟨by decide, _, rfl, q80⟩ ⟨by decide, by decide⟩ (by omega) (tfP_willMask (by omega) hg q80 ) (fun y81 r82 => ?_)
    exact go_iret kk7_0.2.2.2.2.1.2 hg r82 ⟨by decide, by decide⟩ rfl
  refine go_swd (lo := 0) (hi := 14) kk7_0.1.1.1.2.1.2 rfl rfl h2 (by omega) (by omega) ?_
  exact go_throw kk7_0.2.2.2.2.2 hg ⟨by decide, by decide⟩ rfl rfl
theorem tfW_process {Φ : ev_P} {d : Nat} (hd : 3 ≤ d) {g : gH} (hg : HR g) {v0 v1 v2 v3 : Int} (h0 : RfR v0) (h1 : InR v1) (h2 : InR v2) (h3 : RfR v3) : Go Φ pr_P fN 1 (fW_process g v0 v1 v2 v3) d (pr_P 306) 0 (ev_loc (pr_P 306).1 [(sR v0), (sI v1), (sI v2), (sR v3)]) [] g 0 0 := by
  show Go Φ pr_P fN 1 (fW_process g v0 v1 v2 v3) d pr_m306 0 [some (sR v0), some (sI v1), some (sI v2), some (sR v3), none] [] g 0 0
  unfold fW_process
  refine go_aload kk306_0.1.1.1.1.1 rfl ?_
  refine go_int kk306_0.1.1.1.1.2 0 rfl ?_
  refine go_aload kk306_0.1.1.1.2 rfl ?_
  refine go_iload kk306_0.1.1.2.1 rfl ?_
  refine go_iload kk306_0.1.1.2.2 rfl ?_
  refine go_ck (fun q1 => ?_)
  refine go_callQ1 kk306_0.1.2.1.1 rfl rfl rfl ⟨by decide, _, rfl, q1⟩ ⟨by decide, by decide⟩ (by omega) (tfC_process (by omega) hg q1  h1 h2) (fun y2 r3 => ?_) (fun e6 E7 => ?_)
  · refine go_i2l kk306_0.1.2.1.2 r3 ?_
    refine go_ck (fun q8 => ?_)
    refine go_last kk306_0.1.2.2.1 hg q8 (inL_R r3) (fun g9 e10 => ?_)
    refine go_goto kk306_0.1.2.2.2 ?_
    refine go_int kk306_0.2.2.2.1 0 rfl ?_
    exact go_iret kk306_0.2.2.2.2 e10 (inR_b (Or.inl rfl)) ⟨by decide, by decide⟩ rfl
  · refine ge_ite (fun hE9 => ?_) (fun _ => ?_)
    · subst hE9
      refine ge_catch rfl kk306_0.2.1.1.1 rfl (loc2 := [some (sR v0), some (sI v1), some (sI v2), some (sR v3), none]) rfl ?_
      refine go_int kk306_0.2.1.1.2 1 rfl ?_
      exact go_iret kk306_0.2.1.2.1 e6 (inR_b (Or.inr rfl)) ⟨by decide, by decide⟩ rfl
    refine ge_ite (fun hE9 => ?_) (fun _ => ?_)
    · subst hE9
      refine ge_catch rfl kk306_0.2.1.2.2 rfl (loc2 := [some (sR v0), some (sI v1), some (sI v2), some (sR v3), none]) rfl ?_
      refine go_int kk306_0.2.2.1.1 2 rfl ?_
      exact go_iret kk306_0.2.2.1.2 e6 (inR_of (by decide)) ⟨by decide, by decide⟩ rfl
    exact ge_none
theorem tfC_checkRange {Φ : ev_P} {d : Nat} (hd : 0 ≤ d) {g : gH} (hg : HR g) {v0 v1 : Int} (h0 : InR v0) (h1 : InR v1) : Go Φ pr_P (fQ g) 0 (fC_checkRange g v0 v1) d (pr_P 66) 0 (ev_loc (pr_P 66).1 [(sI v0), (sI v1)]) [] g 0 0 := by
  show Go Φ pr_P (fQ g) 0 (fC_checkRange g v0 v1) d pr_m66 0 [some (sI v0), some (sI v1)] [] g 0 0
  unfold fC_checkRange
  refine go_iload kk66_0.1.1.1 rfl ?_
  refine go_iflt kk66_0.1.1.2 h0 (fun c1 => ?_) (fun c2 => ?_)
  · exact go_throw kk66_0.2.1.2 hg ⟨by decide, by decide⟩ rfl rfl
  · refine go_iload kk66_0.1.2.1 rfl ?_
    refine go_iload kk66_0.1.2.2 rfl ?_
    refine go_cmgt kk66_0.2.1.1 h0 h1 (fun c3 => ?_) (fun c4 => ?_)
    · exact go_throw kk66_0.2.1.2 hg ⟨by decide, by decide⟩ rfl rfl
    · exact go_vret kk66_0.2.2 hg ⟨Nat.zero_le _, Nat.zero_le _⟩ rfl
theorem tjT_holderOf_24 {Φ : ev_P} {d : Nat} (hd : 1 ≤ d) {g : gH} (hg : HR g) {v0 : Int} (hK0 : kd v0 = 5) {s0 : Int} (z0 : RfR s0) (u1 : Option ev_V) (w1 : nwo u1) (u2 : Option ev_V) (w2 : nwo u2) : Go Φ pr_P (fP g) 2 (jT_holderOf_24 g v0 s0 ) d pr_m283 24 [some (sR v0), u1, u2] [(sR s0)] g 0 0 := by
  unfold jT_holderOf_24
  refine go_astore kk283_0.2.1.1.2 w1 (loc2 := [some (sR v0), u1, some (sR s0)]) rfl ?_
  refine go_aload kk283_0.2.1.2.1 rfl ?_
  refine go_isnull kk283_0.2.1.2.2  (fun c12 => ?_) (fun c13 => ?_)
  · refine go_aload kk283_0.2.2.1.1.1 rfl ?_
    refine go_getR (bI := 0) kk283_0.2.2.1.1.2 hg hK0 (by decide) rfl rfl (fun r14 => ?_)
    refine go_goto kk283_0.2.2.1.2 ?_
    exact go_aret kk283_0.2.2.2.2 hg r14 ⟨Nat.zero_le _, Nat.zero_le _⟩ rfl
  · refine go_aload kk283_0.2.2.2.1 rfl ?_
    exact go_aret kk283_0.2.2.2.2 hg z0 ⟨Nat.zero_le _, Nat.zero_le _⟩ rfl
theorem tjT_holderOf_10 {Φ : ev_P} {d : Nat} (hd : 1 ≤ d) {g : gH} (hg : HR g) {v0 : Int} (hK0 : kd v0 = 5) (u1 : Option ev_V) (w1 : nwo u1) (u2 : Option ev_V) (w2 : nwo u2) : Go Φ pr_P (fP g) 2 (jT_holderOf_10 g v0 ) d pr_m283 10 [some (sR v0), u1, u2] [] g 0 0 := by
  unfold jT_holderOf_10
  refine go_null kk283_0.1.1.2.2 ?_
  refine go_goto kk283_0.1.2.1.1.1 ?_
  exact tjT_holderOf_24 hd hg hK0 rfR_null u1 w1 u2 w2
theorem tfT_holderOf {Φ : ev_P} {d : Nat} (hd : 1 ≤ d) {g : gH} (hg : HR g) {v0 v1 : Int} (hK0 : kd v0 = 5) (h1 : InR v1) : Go Φ pr_P (fP g) 2 (fT_holderOf g v0 v1) d (pr_P 283) 0 (ev_loc (pr_P 283).1 [(sR v0), (sI v1)]) [] g 0 0 := by
  show Go Φ pr_P (fP g) 2 (fT_holderOf g v0 v1) d pr_m283 0 [some (sR v0), some (sI v1), none] [] g 0 0
  unfold fT_holderOf
  refine go_iload kk283_0.1.1.1.1.1 rfl ?_
  refine go_iflt kk283_0.1.1.1.1.2 h1 (fun c1 => ?_) (fun c2 => ?_)
  · exact tjT_holderOf_10 hd hg hK0 (some (sI v1)) rfl none rfl
  · refine go_iload kk283_0.1.1.1.2 rfl ?_
    refine go_int kk283_0.1.1.2.1.1 8 rfl ?_
    refine go_cmlt kk283_0.1.1.2.1.2 h1 (inR_of (by decide)) (fun c3 => ?_) (fun c4 => ?_)
    · refine go_aload kk283_0.1.2.1.1.2 rfl ?_
      refine go_aload kk283_0.1.2.1.2 rfl ?_
      refine go_getR (bI := 2) kk283_0.1.2.2.1 hg hK0 (by decide) rfl rfl (fun r5 => ?_)
      refine go_iload kk283_0.1.2.2.2 rfl ?_
      refine go_ck (fun q7 => ?_)
      refine go_iald kk283_0.2.1.1.1.1 hg q7 (fun r6 => ?_)
      refine go_callP2 kk283_0.2.1.1.1.2 rfl rfl rfl ⟨by decide, _, rfl, hK0⟩ ⟨Nat.zero_le _, Nat.zero_le _⟩ (by omega) (tfT_at (by omega) hg hK0  r6) (fun y8 r9 => ?_)
      exact tjT_holderOf_24 hd hg hK0 r9 (some (sI v1)) rfl none rfl
    · exact tjT_holderOf_10 hd hg hK0 (some (sI v1)) rfl none rfl
theorem tfC_holder {Φ : ev_P} {d : Nat} (hd : 2 ≤ d) {g : gH} (hg : HR g) {v0 v1 : Int} (hK0 : kd v0 = 6) (h1 : InR v1) : Go Φ pr_P (fQ g) 1 (fC_holder g v0 v1) d (pr_P 8) 0 (ev_loc (pr_P 8).1 [(sR v0), (sI v1)]) [] g 0 0 := by
  show Go Φ pr_P (fQ g) 1 (fC_holder g v0 v1) d pr_m8 0 [some (sR v0), some (sI v1)] [] g 0 0
  unfold fC_holder
  refine go_iload kk8_0.1.1.1.1 rfl ?_
  refine go_int kk8_0.1.1.1.2 7 rfl ?_
  refine go_callQ0 kk8_0.1.1.2 rfl rfl rfl trivial ⟨by decide, by decide⟩ (by omega) (tfC_checkRange (by omega) hg  h1 (inR_of (by decide))) (fun y1 => ?_) (fun e5 E6 => ge_prop rfl ⟨by decide, by decide⟩ e5 rfl)
  refine go_aload kk8_0.1.2.1 rfl ?_
  refine go_getR (bI := 0) kk8_0.1.2.2 hg hK0 (by decide) rfl rfl (fun r7 => ?_)
  refine go_iload kk8_0.2.1.1 rfl ?_
  refine go_ck (fun q8 => ?_)
  refine go_callP2 kk8_0.2.1.2 rfl rfl rfl ⟨by decide, _, rfl, q8⟩ ⟨by decide, by decide⟩ (by omega) (tfT_holderOf (by omega) hg q8  h1) (fun y9 r10 => ?_)
  refine go_ck (fun q13 => ?_)
  refine go_getI (bI := 0) kk8_0.2.2.1 hg q13 (by decide) rfl rfl (fun r14 => ?_)
  exact go_iret kk8_0.2.2.2 hg r14 ⟨by decide, by decide⟩ rfl
theorem tfW_holder {Φ : ev_P} {d : Nat} (hd : 3 ≤ d) {g : gH} (hg : HR g) {v0 v1 v2 : Int} (h0 : RfR v0) (h1 : InR v1) (h2 : RfR v2) : Go Φ pr_P fN 1 (fW_holder g v0 v1 v2) d (pr_P 307) 0 (ev_loc (pr_P 307).1 [(sR v0), (sI v1), (sR v2)]) [] g 0 0 := by
  show Go Φ pr_P fN 1 (fW_holder g v0 v1 v2) d pr_m307 0 [some (sR v0), some (sI v1), some (sR v2), none] [] g 0 0
  unfold fW_holder
  refine go_aload kk307_0.1.1.1.1 rfl ?_
  refine go_int kk307_0.1.1.1.2 0 rfl ?_
  refine go_aload kk307_0.1.1.2.1 rfl ?_
  refine go_iload kk307_0.1.1.2.2 rfl ?_
  refine go_ck (fun q1 => ?_)
  refine go_callQ1 kk307_0.1.2.1.1 rfl rfl rfl ⟨by decide, _, rfl, q1⟩ ⟨by decide, by decide⟩ (by omega) (tfC_holder (by omega) hg q1  h1) (fun y2 r3 => ?_) (fun e6 E7 => ?_)
  · refine go_i2l kk307_0.1.2.1.2 r3 ?_
    refine go_ck (fun q8 => ?_)
    refine go_last kk307_0.1.2.2 hg q8 (inL_R r3) (fun g9 e10 => ?_)
    refine go_goto kk307_0.2.1.1.1 ?_
    refine go_int kk307_0.2.2.1.2 0 rfl ?_
    exact go_iret kk307_0.2.2.2 e10 (inR_b (Or.inl rfl)) ⟨by decide, by decide⟩ rfl
  · refine ge_ite (fun hE9 => ?_) (fun _ => ?_)
    · subst hE9
      refine ge_catch rfl kk307_0.2.1.1.2 rfl (loc2 := [some (sR v0), some (sI v1), some (sR v2), none]) rfl ?_
      refine go_int kk307_0.2.1.2 1 rfl ?_
      exact go_iret kk307_0.2.2.1.1 e6 (inR_b (Or.inr rfl)) ⟨by decide, by decide⟩ rfl
    exact ge_none
theorem tfC_checkState {Φ : ev_P} {d : Nat} (hd : 0 ≤ d) {g : gH} (hg : HR g) {v0 : Int} (h0 : B01 v0) : Go Φ pr_P (fQ g) 0 (fC_checkState g v0) d (pr_P 67) 0 (ev_loc (pr_P 67).1 [(sI v0)]) [] g 0 0 := by
  show Go Φ pr_P (fQ g) 0 (fC_checkState g v0) d pr_m67 0 [some (sI v0)] [] g 0 0
  unfold fC_checkState
  refine go_iload kk67_0.1.1 rfl ?_
  refine go_ifeq kk67_0.1.2 (inR_b h0) (fun c1 => ?_) (fun c2 => ?_)
  · exact go_throw kk67_0.2.1 hg ⟨by decide, by decide⟩ rfl rfl
  · exact go_vret kk67_0.2.2 hg ⟨Nat.zero_le _, Nat.zero_le _⟩ rfl
theorem tfC_depth {Φ : ev_P} {d : Nat} (hd : 2 ≤ d) {g : gH} (hg : HR g) {v0 v1 : Int} (hK0 : kd v0 = 6) (h1 : InR v1) : Go Φ pr_P (fQ g) 1 (fC_depth g v0 v1) d (pr_P 10) 0 (ev_loc (pr_P 10).1 [(sR v0), (sI v1)]) [] g 0 0 := by
  show Go Φ pr_P (fQ g) 1 (fC_depth g v0 v1) d pr_m10 0 [some (sR v0), some (sI v1), none] [] g 0 0
  unfold fC_depth
  refine go_aload kk10_0.1.1.1.1 rfl ?_
  refine go_iload kk10_0.1.1.1.2 rfl ?_
  refine go_callQ2 kk10_0.1.1.2.1 rfl rfl rfl ⟨by decide, _, rfl, hK0⟩ ⟨by decide, by decide⟩ (by omega) (tfC_named (by omega) hg hK0  h1) (fun y1 r2 => ?_) (fun e5 E6 => ge_prop rfl ⟨by decide, by decide⟩ e5 rfl)
  refine go_astore kk10_0.1.1.2.2 rfl (loc2 := [some (sR v0), some (sI v1), some (sR y1)]) rfl ?_
  refine go_aload kk10_0.1.2.1.1 rfl ?_
  refine go_ck (fun q7 => ?_)
  refine go_getI (bI := 1) kk10_0.1.2.1.2 hg q7 (by decide) rfl rfl (fun r8 => ?_)
  refine go_int kk10_0.1.2.2.1 2 rfl ?_
  refine go_cmeq kk10_0.1.2.2.2 r8 (inR_of (by decide)) (fun c9 => ?_) (fun c10 => ?_)
  · refine go_int kk10_0.2.1.2.1 0 rfl ?_
    refine go_callQ0 kk10_0.2.1.2.2 rfl rfl rfl trivial ⟨by decide, by decide⟩ (by omega) (tfC_checkState (by omega) hg  (Or.inl rfl)) (fun y11 => ?_) (fun e15 E16 => ge_prop rfl ⟨by decide, by decide⟩ e15 rfl)
    refine go_aload kk10_0.2.2.1.1 rfl ?_
    refine go_callP1 kk10_0.2.2.1.2 rfl rfl rfl ⟨by decide, _, rfl, q7⟩ ⟨by decide, by decide⟩ (by omega) (tfP_countAbove (by omega) hg q7 ) (fun y17 r18 => ?_)
    exact go_iret kk10_0.2.2.2 hg r18 ⟨by decide, by decide⟩ rfl
  · refine go_int kk10_0.2.1.1.1 1 rfl ?_
    refine go_goto kk10_0.2.1.1.2 ?_
    refine go_callQ0 kk10_0.2.1.2.2 rfl rfl rfl trivial ⟨by decide, by decide⟩ (by omega) (tfC_checkState (by omega) hg  (Or.inr rfl)) (fun y21 => ?_) (fun e25 E26 => ge_prop rfl ⟨by decide, by decide⟩ e25 rfl)
    refine go_aload kk10_0.2.2.1.1 rfl ?_
    refine go_callP1 kk10_0.2.2.1.2 rfl rfl rfl ⟨by decide, _, rfl, q7⟩ ⟨by decide, by decide⟩ (by omega) (tfP_countAbove (by omega) hg q7 ) (fun y27 r28 => ?_)
    exact go_iret kk10_0.2.2.2 hg r28 ⟨by decide, by decide⟩ rfl
theorem tfW_depth {Φ : ev_P} {d : Nat} (hd : 3 ≤ d) {g : gH} (hg : HR g) {v0 v1 v2 : Int} (h0 : RfR v0) (h1 : InR v1) (h2 : RfR v2) : Go Φ pr_P fN 1 (fW_depth g v0 v1 v2) d (pr_P 308) 0 (ev_loc (pr_P 308).1 [(sR v0), (sI v1), (sR v2)]) [] g 0 0 := by
  show Go Φ pr_P fN 1 (fW_depth g v0 v1 v2) d pr_m308 0 [some (sR v0), some (sI v1), some (sR v2), none] [] g 0 0
  unfold fW_depth
  refine go_aload kk308_0.1.1.1.1 rfl ?_
  refine go_int kk308_0.1.1.1.2 0 rfl ?_
  refine go_aload kk308_0.1.1.2.1 rfl ?_
  refine go_iload kk308_0.1.1.2.2 rfl ?_
  refine go_ck (fun q1 => ?_)
  refine go_callQ1 kk308_0.1.2.1.1 rfl rfl rfl ⟨by decide, _, rfl, q1⟩ ⟨by decide, by decide⟩ (by omega) (tfC_depth (by omega) hg q1  h1) (fun y2 r3 => ?_) (fun e6 E7 => ?_)
  · refine go_i2l kk308_0.1.2.1.2 r3 ?_
    refine go_ck (fun q8 => ?_)
    refine go_last kk308_0.1.2.2.1 hg q8 (inL_R r3) (fun g9 e10 => ?_)
    refine go_goto kk308_0.1.2.2.2 ?_
    refine go_int kk308_0.2.2.2.1 0 rfl ?_
    exact go_iret kk308_0.2.2.2.2 e10 (inR_b (Or.inl rfl)) ⟨by decide, by decide⟩ rfl
  · refine ge_ite (fun hE9 => ?_) (fun _ => ?_)
    · subst hE9
      refine ge_catch rfl kk308_0.2.1.1.1 rfl (loc2 := [some (sR v0), some (sI v1), some (sR v2), none]) rfl ?_
      refine go_int kk308_0.2.1.1.2 1 rfl ?_
      exact go_iret kk308_0.2.1.2.1 e6 (inR_b (Or.inr rfl)) ⟨by decide, by decide⟩ rfl
    refine ge_ite (fun hE9 => ?_) (fun _ => ?_)
    · subst hE9
      refine ge_catch rfl kk308_0.2.1.2.2 rfl (loc2 := [some (sR v0), some (sI v1), some (sR v2), none]) rfl ?_
      refine go_int kk308_0.2.2.1.1 2 rfl ?_
      exact go_iret kk308_0.2.2.1.2 e6 (inR_of (by decide)) ⟨by decide, by decide⟩ rfl
    exact ge_none
theorem tbP_isOver_5 {Φ : ev_P} {d : Nat} (hd : 0 ≤ d) {g : gH} (hg : HR g) {v0 : Int} (hK0 : kd v0 = 3) {X5 : Int → Option Int} (HX5 : ∀ (v2 : Int) (h2 : RfR v2) (u1 : Option ev_V) (w1 : nwo u1), Go Φ pr_P (fP g) 3 (X5 v2) d pr_m244 5 [some (sR v0), u1, some (sR v2)] [] g 0 0) : ∀ (v2 : Int) (h2 : RfR v2) (u1 : Option ev_V) (w1 : nwo u1), Go Φ pr_P (fP g) 3 (bP_isOver_5 g v0 X5 v2) d pr_m244 5 [some (sR v0), u1, some (sR v2)] [] g 0 0 := by
  intro v2 h2 u1 w1
  unfold bP_isOver_5
  refine go_aload kk244_0.1.1.2.2 rfl ?_
  refine go_isnull kk244_0.1.2.1.1  (fun c3 => ?_) (fun c4 => ?_)
  · refine go_int kk244_0.2.2.2.1 0 rfl ?_
    exact go_bret kk244_0.2.2.2.2 hg (Or.inl rfl) ⟨Nat.zero_le _, Nat.zero_le _⟩ rfl
  · refine go_aload kk244_0.1.2.1.2 rfl ?_
    refine go_aload kk244_0.1.2.2.1 rfl ?_
    refine go_acmp kk244_0.1.2.2.2 h2 (rfR_kd hK0 (by decide)) (fun c5 => ?_) (fun c6 => ?_)
    · refine go_int kk244_0.2.1.1.1 1 rfl ?_
      exact go_bret kk244_0.2.1.1.2 hg (Or.inr rfl) ⟨Nat.zero_le _, Nat.zero_le _⟩ rfl
    · refine go_aload kk244_0.2.1.2.1 rfl ?_
      refine go_ck (fun q7 => ?_)
      refine go_getR (bI := 2) kk244_0.2.1.2.2 hg q7 (by decide) rfl rfl (fun r8 => ?_)
      refine go_astore kk244_0.2.2.1.1 w1 (loc2 := [some (sR v0), u1, some (sR (g v2 2))]) rfl ?_
      refine go_goto kk244_0.2.2.1.2 ?_
      exact HX5 (g v2 2) r8 u1 w1
theorem tlP_isOver_5 {Φ : ev_P} {d : Nat} (hd : 0 ≤ d) {g : gH} (hg : HR g) {v0 : Int} (hK0 : kd v0 = 3) : ∀ n : Nat, ∀ (v2 : Int) (h2 : RfR v2) (u1 : Option ev_V) (w1 : nwo u1), Go Φ pr_P (fP g) 3 (lP_isOver_5 g v0 n v2) d pr_m244 5 [some (sR v0), u1, some (sR v2)] [] g 0 0 := by
  intro n
  induction n with
  | zero => intros; exact go_none
  | succ n ih => exact tbP_isOver_5 hd hg hK0 ih
theorem tfP_isOver {Φ : ev_P} {d : Nat} (hd : 0 ≤ d) {g : gH} (hg : HR g) {v0 v1 : Int} (hK0 : kd v0 = 3) (h1 : RfR v1) : Go Φ pr_P (fP g) 3 (fP_isOver g v0 v1) d (pr_P 244) 0 (ev_loc (pr_P 244).1 [(sR v0), (sR v1)]) [] g 0 0 := by
  show Go Φ pr_P (fP g) 3 (fP_isOver g v0 v1) d pr_m244 0 [some (sR v0), some (sR v1), none] [] g 0 0
  unfold fP_isOver
  refine go_aload kk244_0.1.1.1.1 rfl ?_
  refine go_ck (fun q1 => ?_)
  refine go_getR (bI := 2) kk244_0.1.1.1.2 hg q1 (by decide) rfl rfl (fun r2 => ?_)
  refine go_astore kk244_0.1.1.2.1 rfl (loc2 := [some (sR v0), some (sR v1), some (sR (g v1 2))]) rfl ?_
  exact tlP_isOver_5 hd hg hK0 fu (g v1 2) r2 (some (sR v1)) rfl
theorem tfC_isAbove {Φ : ev_P} {d : Nat} (hd : 2 ≤ d) {g : gH} (hg : HR g) {v0 v1 v2 : Int} (hK0 : kd v0 = 6) (h1 : InR v1) (h2 : InR v2) : Go Φ pr_P (fQ g) 3 (fC_isAbove g v0 v1 v2) d (pr_P 11) 0 (ev_loc (pr_P 11).1 [(sR v0), (sI v1), (sI v2)]) [] g 0 0 := by
  show Go Φ pr_P (fQ g) 3 (fC_isAbove g v0 v1 v2) d pr_m11 0 [some (sR v0), some (sI v1), some (sI v2), none, none] [] g 0 0
  unfold fC_isAbove
  refine go_aload kk11_0.1.1.1.1.1 rfl ?_
  refine go_iload kk11_0.1.1.1.1.2 rfl ?_
  refine go_callQ2 kk11_0.1.1.1.2 rfl rfl rfl ⟨by decide, _, rfl, hK0⟩ ⟨by decide, by decide⟩ (by omega) (tfC_named (by omega) hg hK0  h1) (fun y1 r2 => ?_) (fun e5 E6 => ge_prop rfl ⟨by decide, by decide⟩ e5 rfl)
  refine go_astore kk11_0.1.1.2.1.1 rfl (loc2 := [some (sR v0), some (sI v1), some (sI v2), some (sR y1), none]) rfl ?_
  refine go_aload kk11_0.1.1.2.1.2 rfl ?_
  refine go_iload kk11_0.1.1.2.2 rfl ?_
  refine go_callQ2 kk11_0.1.2.1.1.1 rfl rfl rfl ⟨by decide, _, rfl, hK0⟩ ⟨by decide, by decide⟩ (by omega) (tfC_named (by omega) hg hK0  h2) (fun y7 r8 => ?_) (fun e11 E12 => ge_prop rfl ⟨by decide, by decide⟩ e11 rfl)
  refine go_astore kk11_0.1.2.1.1.2 rfl (loc2 := [some (sR v0), some (sI v1), some (sI v2), some (sR y1), some (sR y7)]) rfl ?_
  refine go_aload kk11_0.1.2.1.2 rfl ?_
  refine go_ck (fun q13 => ?_)
  refine go_getI (bI := 1) kk11_0.1.2.2.1.1 hg q13 (by decide) rfl rfl (fun r14 => ?_)
  refine go_int kk11_0.1.2.2.1.2 2 rfl ?_
  refine go_cmeq kk11_0.1.2.2.2 r14 (inR_of (by decide)) (fun c15 => ?_) (fun c16 => ?_)
  · refine go_int kk11_0.2.2.2.1.2 0 rfl ?_
    exact go_bret kk11_0.2.2.2.2 hg (Or.inl rfl) ⟨by decide, by decide⟩ rfl
  · refine go_aload kk11_0.2.1.1.1.1 rfl ?_
    refine go_ck (fun q17 => ?_)
    refine go_getI (bI := 1) kk11_0.2.1.1.1.2 hg q17 (by decide) rfl rfl (fun r18 => ?_)
    refine go_int kk11_0.2.1.1.2 2 rfl ?_
    refine go_cmeq kk11_0.2.1.2.1.1 r18 (inR_of (by decide)) (fun c19 => ?_) (fun c20 => ?_)
    · refine go_int kk11_0.2.2.2.1.2 0 rfl ?_
      exact go_bret kk11_0.2.2.2.2 hg (Or.inl rfl) ⟨by decide, by decide⟩ rfl
    · refine go_aload kk11_0.2.1.2.1.2 rfl ?_
      refine go_aload kk11_0.2.1.2.2 rfl ?_
      refine go_callP3 kk11_0.2.2.1.1.1 rfl rfl rfl ⟨by decide, _, rfl, q13⟩ ⟨by decide, by decide⟩ (by omega) (tfP_isOver (by omega) hg q13  r8) (fun y21 r22 => ?_)
      refine go_ifeq kk11_0.2.2.1.1.2 (inR_b r22) (fun c25 => ?_) (fun c26 => ?_)
      · refine go_int kk11_0.2.2.2.1.2 0 rfl ?_
        exact go_bret kk11_0.2.2.2.2 hg (Or.inl rfl) ⟨by decide, by decide⟩ rfl
      · refine go_int kk11_0.2.2.1.2 1 rfl ?_
        refine go_goto kk11_0.2.2.2.1.1 ?_
        exact go_bret kk11_0.2.2.2.2 hg (Or.inr rfl) ⟨by decide, by decide⟩ rfl
theorem tfW_isAbove {Φ : ev_P} {d : Nat} (hd : 3 ≤ d) {g : gH} (hg : HR g) {v0 v1 v2 v3 : Int} (h0 : RfR v0) (h1 : InR v1) (h2 : InR v2) (h3 : RfR v3) : Go Φ pr_P fN 1 (fW_isAbove g v0 v1 v2 v3) d (pr_P 309) 0 (ev_loc (pr_P 309).1 [(sR v0), (sI v1), (sI v2), (sR v3)]) [] g 0 0 := by
  show Go Φ pr_P fN 1 (fW_isAbove g v0 v1 v2 v3) d pr_m309 0 [some (sR v0), some (sI v1), some (sI v2), some (sR v3), none] [] g 0 0
  unfold fW_isAbove
  refine go_aload kk309_0.1.1.1.1.1 rfl ?_
  refine go_int kk309_0.1.1.1.1.2 0 rfl ?_
  refine go_aload kk309_0.1.1.1.2 rfl ?_
  refine go_iload kk309_0.1.1.2.1 rfl ?_
  refine go_iload kk309_0.1.1.2.2 rfl ?_
  refine go_ck (fun q1 => ?_)
  refine go_callQ3 kk309_0.1.2.1.1 rfl rfl rfl ⟨by decide, _, rfl, q1⟩ ⟨by decide, by decide⟩ (by omega) (tfC_isAbove (by omega) hg q1  h1 h2) (fun y2 r3 => ?_) (fun e6 E7 => ?_)
  · refine go_ifeq kk309_0.1.2.1.2 (inR_b r3) (fun c8 => ?_) (fun c9 => ?_)
    · refine go_lconst kk309_0.2.1.1.1 0 rfl ?_
      refine go_ck (fun q10 => ?_)
      refine go_last kk309_0.2.1.1.2 hg q10 (inL_of (by decide)) (fun g11 e12 => ?_)
      refine go_goto kk309_0.2.1.2.1 ?_
      refine go_int kk309_0.2.2.2.1 0 rfl ?_
      exact go_iret kk309_0.2.2.2.2 e12 (inR_b (Or.inl rfl)) ⟨by decide, by decide⟩ rfl
    · refine go_lconst kk309_0.1.2.2.1 1 rfl ?_
      refine go_goto kk309_0.1.2.2.2 ?_
      refine go_ck (fun q13 => ?_)
      refine go_last kk309_0.2.1.1.2 hg q13 (inL_of (by decide)) (fun g14 e15 => ?_)
      refine go_goto kk309_0.2.1.2.1 ?_
      refine go_int kk309_0.2.2.2.1 0 rfl ?_
      exact go_iret kk309_0.2.2.2.2 e15 (inR_b (Or.inl rfl)) ⟨by decide, by decide⟩ rfl
  · refine ge_ite (fun hE9 => ?_) (fun _ => ?_)
    · subst hE9
      refine ge_catch rfl kk309_0.2.1.2.2 rfl (loc2 := [some (sR v0), some (sI v1), some (sI v2), some (sR v3), none]) rfl ?_
      refine go_int kk309_0.2.2.1.1 1 rfl ?_
      exact go_iret kk309_0.2.2.1.2 e6 (inR_b (Or.inr rfl)) ⟨by decide, by decide⟩ rfl
    exact ge_none
theorem tbT_lowestOver_2 {Φ : ev_P} {d : Nat} (hd : 1 ≤ d) {g : gH} (hg : HR g) {v0 v2 : Int} (hK0 : kd v0 = 5) (h2 : RfR v2) {X2 : Int → Option Int} (HX2 : ∀ (v3 : Int) (h3 : RfR v3) (u1 : Option ev_V) (w1 : nwo u1), Go Φ pr_P (fP g) 2 (X2 v3) d pr_m279 2 [some (sR v0), u1, some (sR v2), some (sR v3)] [] g 0 0) : ∀ (v3 : Int) (h3 : RfR v3) (u1 : Option ev_V) (w1 : nwo u1), Go Φ pr_P (fP g) 2 (bT_lowestOver_2 g v0 v2 X2 v3) d pr_m279 2 [some (sR v0), u1, some (sR v2), some (sR v3)] [] g 0 0 := by
  intro v3 h3 u1 w1
  unfold bT_lowestOver_2
  refine go_aload kk279_0.1.1.1.2 rfl ?_
  refine go_isnull kk279_0.1.1.2.1  (fun c1 => ?_) (fun c2 => ?_)
  · refine go_aload kk279_0.2.2.1.2 rfl ?_
    refine go_getR (bI := 0) kk279_0.2.2.2.1 hg hK0 (by decide) rfl rfl (fun r3 => ?_)
    exact go_aret kk279_0.2.2.2.2 hg r3 ⟨Nat.zero_le _, Nat.zero_le _⟩ rfl
  · refine go_aload kk279_0.1.1.2.2 rfl ?_
    refine go_aload kk279_0.1.2.1.1.1 rfl ?_
    refine go_acmp kk279_0.1.2.1.1.2 h3 h2 (fun c4 => ?_) (fun c5 => ?_)
    · refine go_aload kk279_0.2.1.1.1.2 rfl ?_
      exact go_aret kk279_0.2.1.1.2 hg h3 ⟨Nat.zero_le _, Nat.zero_le _⟩ rfl
    · refine go_aload kk279_0.1.2.1.2 rfl ?_
      refine go_aload kk279_0.1.2.2.1 rfl ?_
      refine go_ck (fun q6 => ?_)
      refine go_callP3 kk279_0.1.2.2.2 rfl rfl rfl ⟨by decide, _, rfl, q6⟩ ⟨Nat.zero_le _, Nat.zero_le _⟩ (by omega) (tfP_isOver (by omega) hg q6  h2) (fun y7 r8 => ?_)
      refine go_ifeq kk279_0.2.1.1.1.1 (inR_b r8) (fun c11 => ?_) (fun c12 => ?_)
      · refine go_aload kk279_0.2.1.2.1 rfl ?_
        refine go_getR (bI := 2) kk279_0.2.1.2.2 hg q6 (by decide) rfl rfl (fun r13 => ?_)
        refine go_astore kk279_0.2.2.1.1.1 rfl (loc2 := [some (sR v0), u1, some (sR v2), some (sR (g v3 2))]) rfl ?_
        refine go_goto kk279_0.2.2.1.1.2 ?_
        exact HX2 (g v3 2) r13 u1 w1
      · refine go_aload kk279_0.2.1.1.1.2 rfl ?_
        exact go_aret kk279_0.2.1.1.2 hg h3 ⟨Nat.zero_le _, Nat.zero_le _⟩ rfl
theorem tlT_lowestOver_2 {Φ : ev_P} {d : Nat} (hd : 1 ≤ d) {g : gH} (hg : HR g) {v0 v2 : Int} (hK0 : kd v0 = 5) (h2 : RfR v2) : ∀ n : Nat, ∀ (v3 : Int) (h3 : RfR v3) (u1 : Option ev_V) (w1 : nwo u1), Go Φ pr_P (fP g) 2 (lT_lowestOver_2 g v0 v2 n v3) d pr_m279 2 [some (sR v0), u1, some (sR v2), some (sR v3)] [] g 0 0 := by
  intro n
  induction n with
  | zero => intros; exact go_none
  | succ n ih => exact tbT_lowestOver_2 hd hg hK0 h2 ih
theorem tfT_lowestOver {Φ : ev_P} {d : Nat} (hd : 1 ≤ d) {g : gH} (hg : HR g) {v0 v1 v2 : Int} (hK0 : kd v0 = 5) (h1 : RfR v1) (h2 : RfR v2) : Go Φ pr_P (fP g) 2 (fT_lowestOver g v0 v1 v2) d (pr_P 279) 0 (ev_loc (pr_P 279).1 [(sR v0), (sR v1), (sR v2)]) [] g 0 0 := by
  show Go Φ pr_P (fP g) 2 (fT_lowestOver g v0 v1 v2) d pr_m279 0 [some (sR v0), some (sR v1), some (sR v2), none] [] g 0 0
  unfold fT_lowestOver
  refine go_aload kk279_0.1.1.1.1.1 rfl ?_
  refine go_astore kk279_0.1.1.1.1.2 rfl (loc2 := [some (sR v0), some (sR v1), some (sR v2), some (sR v1)]) rfl ?_
  exact tlT_lowestOver_2 hd hg hK0 h2 fu v1 h1 (some (sR v1)) rfl
theorem tfC_meet {Φ : ev_P} {d : Nat} (hd : 2 ≤ d) {g : gH} (hg : HR g) {v0 v1 v2 : Int} (hK0 : kd v0 = 6) (h1 : InR v1) (h2 : InR v2) : Go Φ pr_P (fQ g) 1 (fC_meet g v0 v1 v2) d (pr_P 12) 0 (ev_loc (pr_P 12).1 [(sR v0), (sI v1), (sI v2)]) [] g 0 0 := by
  show Go Φ pr_P (fQ g) 1 (fC_meet g v0 v1 v2) d pr_m12 0 [some (sR v0), some (sI v1), some (sI v2), none, none] [] g 0 0
  unfold fC_meet
  refine go_aload kk12_0.1.1.1.1.1 rfl ?_
  refine go_iload kk12_0.1.1.1.1.2 rfl ?_
  refine go_callQ2 kk12_0.1.1.1.2.1 rfl rfl rfl ⟨by decide, _, rfl, hK0⟩ ⟨by decide, by decide⟩ (by omega) (tfC_named (by omega) hg hK0  h1) (fun y1 r2 => ?_) (fun e5 E6 => ge_prop rfl ⟨by decide, by decide⟩ e5 rfl)
  refine go_astore kk12_0.1.1.1.2.2 rfl (loc2 := [some (sR v0), some (sI v1), some (sI v2), some (sR y1), none]) rfl ?_
  refine go_aload kk12_0.1.1.2.1.1 rfl ?_
  refine go_iload kk12_0.1.1.2.1.2 rfl ?_
  refine go_callQ2 kk12_0.1.1.2.2 rfl rfl rfl ⟨by decide, _, rfl, hK0⟩ ⟨by decide, by decide⟩ (by omega) (tfC_named (by omega) hg hK0  h2) (fun y7 r8 => ?_) (fun e11 E12 => ge_prop rfl ⟨by decide, by decide⟩ e11 rfl)
  refine go_astore kk12_0.1.2.1.1.1 rfl (loc2 := [some (sR v0), some (sI v1), some (sI v2), some (sR y1), some (sR y7)]) rfl ?_
  refine go_aload kk12_0.1.2.1.1.2 rfl ?_
  refine go_ck (fun q13 => ?_)
  refine go_getI (bI := 1) kk12_0.1.2.1.2.1 hg q13 (by decide) rfl rfl (fun r14 => ?_)
  refine go_int kk12_0.1.2.1.2.2 2 rfl ?_
  refine go_cmeq kk12_0.1.2.2.1.1 r14 (inR_of (by decide)) (fun c15 => ?_) (fun c16 => ?_)
  · refine go_int kk12_0.2.1.2.1.1 0 rfl ?_
    refine go_callQ0 kk12_0.2.1.2.1.2 rfl rfl rfl trivial ⟨by decide, by decide⟩ (by omega) (tfC_checkState (by omega) hg  (Or.inl rfl)) (fun y17 => ?_) (fun e21 E22 => ge_prop rfl ⟨by decide, by decide⟩ e21 rfl)
    refine go_aload kk12_0.2.1.2.2 rfl ?_
    refine go_getR (bI := 0) kk12_0.2.2.1.1.1 hg hK0 (by decide) rfl rfl (fun r23 => ?_)
    refine go_aload kk12_0.2.2.1.1.2 rfl ?_
    refine go_aload kk12_0.2.2.1.2 rfl ?_
    refine go_ck (fun q24 => ?_)
    refine go_callP2 kk12_0.2.2.2.1.1 rfl rfl rfl ⟨by decide, _, rfl, q24⟩ ⟨by decide, by decide⟩ (by omega) (tfT_lowestOver (by omega) hg q24  r2 r8) (fun y25 r26 => ?_)
    refine go_ck (fun q29 => ?_)
    refine go_getI (bI := 0) kk12_0.2.2.2.1.2 hg q29 (by decide) rfl rfl (fun r30 => ?_)
    exact go_iret kk12_0.2.2.2.2 hg r30 ⟨by decide, by decide⟩ rfl
  · refine go_aload kk12_0.1.2.2.1.2 rfl ?_
    refine go_ck (fun q31 => ?_)
    refine go_getI (bI := 1) kk12_0.1.2.2.2 hg q31 (by decide) rfl rfl (fun r32 => ?_)
    refine go_int kk12_0.2.1.1.1.1 2 rfl ?_
    refine go_cmeq kk12_0.2.1.1.1.2 r32 (inR_of (by decide)) (fun c33 => ?_) (fun c34 => ?_)
    · refine go_int kk12_0.2.1.2.1.1 0 rfl ?_
      refine go_callQ0 kk12_0.2.1.2.1.2 rfl rfl rfl trivial ⟨by decide, by decide⟩ (by omega) (tfC_checkState (by omega) hg  (Or.inl rfl)) (fun y35 => ?_) (fun e39 E40 => ge_prop rfl ⟨by decide, by decide⟩ e39 rfl)
      refine go_aload kk12_0.2.1.2.2 rfl ?_
      refine go_getR (bI := 0) kk12_0.2.2.1.1.1 hg hK0 (by decide) rfl rfl (fun r41 => ?_)
      refine go_aload kk12_0.2.2.1.1.2 rfl ?_
      refine go_aload kk12_0.2.2.1.2 rfl ?_
      refine go_ck (fun q42 => ?_)
      refine go_callP2 kk12_0.2.2.2.1.1 rfl rfl rfl ⟨by decide, _, rfl, q42⟩ ⟨by decide, by decide⟩ (by omega) (tfT_lowestOver (by omega) hg q42  r2 r8) (fun y43 r44 => ?_)
      refine go_ck (fun q47 => ?_)
      refine go_getI (bI := 0) kk12_0.2.2.2.1.2 hg q47 (by decide) rfl rfl (fun r48 => ?_)
      exact go_iret kk12_0.2.2.2.2 hg r48 ⟨by decide, by decide⟩ rfl
    · refine go_int kk12_0.2.1.1.2.1 1 rfl ?_
      refine go_goto kk12_0.2.1.1.2.2 ?_
      refine go_callQ0 kk12_0.2.1.2.1.2 rfl rfl rfl trivial ⟨by decide, by decide⟩ (by omega) (tfC_checkState (by omega) hg  (Or.inr rfl)) (fun y49 => ?_) (fun e53 E54 => ge_prop rfl ⟨by decide, by decide⟩ e53 rfl)
      refine go_aload kk12_0.2.1.2.2 rfl ?_
      refine go_getR (bI := 0) kk12_0.2.2.1.1.1 hg hK0 (by decide) rfl rfl (fun r55 => ?_)
      refine go_aload kk12_0.2.2.1.1.2 rfl ?_
      refine go_aload kk12_0.2.2.1.2 rfl ?_
      refine go_ck (fun q56 => ?_)
      refine go_callP2 kk12_0.2.2.2.1.1 rfl rfl rfl ⟨by decide, _, rfl, q56⟩ ⟨by decide, by decide⟩ (by omega) (tfT_lowestOver (by omega) hg q56  r2 r8) (fun y57 r58 => ?_)
      refine go_ck (fun q61 => ?_)
      refine go_getI (bI := 0) kk12_0.2.2.2.1.2 hg q61 (by decide) rfl rfl (fun r62 => ?_)
      exact go_iret kk12_0.2.2.2.2 hg r62 ⟨by decide, by decide⟩ rfl
theorem tfW_meet {Φ : ev_P} {d : Nat} (hd : 3 ≤ d) {g : gH} (hg : HR g) {v0 v1 v2 v3 : Int} (h0 : RfR v0) (h1 : InR v1) (h2 : InR v2) (h3 : RfR v3) : Go Φ pr_P fN 1 (fW_meet g v0 v1 v2 v3) d (pr_P 310) 0 (ev_loc (pr_P 310).1 [(sR v0), (sI v1), (sI v2), (sR v3)]) [] g 0 0 := by
  show Go Φ pr_P fN 1 (fW_meet g v0 v1 v2 v3) d pr_m310 0 [some (sR v0), some (sI v1), some (sI v2), some (sR v3), none] [] g 0 0
  unfold fW_meet
  refine go_aload kk310_0.1.1.1.1.1 rfl ?_
  refine go_int kk310_0.1.1.1.1.2 0 rfl ?_
  refine go_aload kk310_0.1.1.1.2 rfl ?_
  refine go_iload kk310_0.1.1.2.1 rfl ?_
  refine go_iload kk310_0.1.1.2.2 rfl ?_
  refine go_ck (fun q1 => ?_)
  refine go_callQ1 kk310_0.1.2.1.1 rfl rfl rfl ⟨by decide, _, rfl, q1⟩ ⟨by decide, by decide⟩ (by omega) (tfC_meet (by omega) hg q1  h1 h2) (fun y2 r3 => ?_) (fun e6 E7 => ?_)
  · refine go_i2l kk310_0.1.2.1.2 r3 ?_
    refine go_ck (fun q8 => ?_)
    refine go_last kk310_0.1.2.2.1 hg q8 (inL_R r3) (fun g9 e10 => ?_)
    refine go_goto kk310_0.1.2.2.2 ?_
    refine go_int kk310_0.2.2.2.1 0 rfl ?_
    exact go_iret kk310_0.2.2.2.2 e10 (inR_b (Or.inl rfl)) ⟨by decide, by decide⟩ rfl
  · refine ge_ite (fun hE9 => ?_) (fun _ => ?_)
    · subst hE9
      refine ge_catch rfl kk310_0.2.1.1.1 rfl (loc2 := [some (sR v0), some (sI v1), some (sI v2), some (sR v3), none]) rfl ?_
      refine go_int kk310_0.2.1.1.2 1 rfl ?_
      exact go_iret kk310_0.2.1.2.1 e6 (inR_b (Or.inr rfl)) ⟨by decide, by decide⟩ rfl
    refine ge_ite (fun hE9 => ?_) (fun _ => ?_)
    · subst hE9
      refine ge_catch rfl kk310_0.2.1.2.2 rfl (loc2 := [some (sR v0), some (sI v1), some (sI v2), some (sR v3), none]) rfl ?_
      refine go_int kk310_0.2.2.1.1 2 rfl ?_
      exact go_iret kk310_0.2.2.1.2 e6 (inR_of (by decide)) ⟨by decide, by decide⟩ rfl
    exact ge_none
theorem tbT_countBelow_16 {Φ : ev_P} {d : Nat} (hd : 1 ≤ d) {g : gH} (hg : HR g) {v1 v2 v4 v5 : Int} (h1 : RfR v1) (h2 : InR v2) (h4 : RfR v4) (h5 : InR v5) {X16 : Int → Int → Option Int} (HX16 : ∀ (v3 : Int) (h3 : InR v3) (v6 : Int) (h6 : InR v6) (u0 : Option ev_V) (w0 : nwo u0) (u7 : Option ev_V) (w7 : nwo u7), Go Φ pr_P (fP g) 1 (X16 v3 v6) d pr_m276 16 [u0, some (sR v1), some (sI v2), some (sI v3), some (sR v4), some (sI v5), some (sI v6), u7] [] g 0 0) : ∀ (v3 : Int) (h3 : InR v3) (v6 : Int) (h6 : InR v6) (u0 : Option ev_V) (w0 : nwo u0) (u7 : Option ev_V) (w7 : nwo u7), Go Φ pr_P (fP g) 1 (bT_countBelow_16 g v1 v2 v4 v5 X16 v3 v6) d pr_m276 16 [u0, some (sR v1), some (sI v2), some (sI v3), some (sR v4), some (sI v5), some (sI v6), u7] [] g 0 0 := by
  intro v3 h3 v6 h6 u0 w0 u7 w7
  unfold bT_countBelow_16
  refine go_iload kk276_0.1.2.1.2.1 rfl ?_
  refine go_iload kk276_0.1.2.1.2.2 rfl ?_
  refine go_cmlt kk276_0.1.2.2.1.1 h6 h5 (fun c4 => ?_) (fun c5 => ?_)
  · refine go_aload kk276_0.1.2.2.1.2 rfl ?_
    refine go_iload kk276_0.1.2.2.2 rfl ?_
    refine go_ck (fun q7 => ?_)
    refine go_pald kk276_0.2.1.1.1.1 hg q7 (fun r6 => ?_)
    refine go_astore kk276_0.2.1.1.1.2 rfl (loc2 := [u0, some (sR v1), some (sI v2), some (sI v3), some (sR v4), some (sI v5), some (sI v6), some (sR (g v4 v6))]) rfl ?_
    refine go_aload kk276_0.2.1.1.2.1 rfl ?_
    refine go_ck (fun q8 => ?_)
    refine go_getI (bI := 1) kk276_0.2.1.1.2.2 hg q8 (by decide) rfl rfl (fun r9 => ?_)
    refine go_iload kk276_0.2.1.2.1.1 rfl ?_
    refine go_cmeq kk276_0.2.1.2.1.2 r9 h2 (fun c10 => ?_) (fun c11 => ?_)
    · refine go_aload kk276_0.2.1.2.2.1 rfl ?_
      refine go_aload kk276_0.2.1.2.2.2 rfl ?_
      refine go_ck (fun q12 => ?_)
      refine go_callP3 kk276_0.2.2.1.1.1 rfl rfl rfl ⟨by decide, _, rfl, q12⟩ ⟨Nat.zero_le _, Nat.zero_le _⟩ (by omega) (tfP_isOver (by omega) hg q12  r6) (fun y13 r14 => ?_)
      refine go_ifeq kk276_0.2.2.1.1.2 (inR_b r14) (fun c17 => ?_) (fun c18 => ?_)
      · refine go_iinc kk276_0.2.2.1.2.2 rfl rfl 1 rfl (loc2 := [u0, some (sR v1), some (sI v2), some (sI v3), some (sR v4), some (sI v5), some (sI (w32 (v6 + 1))), some (sR (g v4 v6))]) rfl ?_
        refine go_goto kk276_0.2.2.2.1.1 ?_
        exact HX16 v3 h3 (w32 (v6 + 1)) (inR_w32 _) u0 w0 (some (sR (g v4 v6))) rfl
      · refine go_iinc kk276_0.2.2.1.2.1 rfl rfl 1 rfl (loc2 := [u0, some (sR v1), some (sI v2), some (sI (w32 (v3 + 1))), some (sR v4), some (sI v5), some (sI v6), some (sR (g v4 v6))]) rfl ?_
        refine go_iinc kk276_0.2.2.1.2.2 rfl rfl 1 rfl (loc2 := [u0, some (sR v1), some (sI v2), some (sI (w32 (v3 + 1))), some (sR v4), some (sI v5), some (sI (w32 (v6 + 1))), some (sR (g v4 v6))]) rfl ?_
        refine go_goto kk276_0.2.2.2.1.1 ?_
        exact HX16 (w32 (v3 + 1)) (inR_w32 _) (w32 (v6 + 1)) (inR_w32 _) u0 w0 (some (sR (g v4 v6))) rfl
    · refine go_iinc kk276_0.2.2.1.2.2 rfl rfl 1 rfl (loc2 := [u0, some (sR v1), some (sI v2), some (sI v3), some (sR v4), some (sI v5), some (sI (w32 (v6 + 1))), some (sR (g v4 v6))]) rfl ?_
      refine go_goto kk276_0.2.2.2.1.1 ?_
      exact HX16 v3 h3 (w32 (v6 + 1)) (inR_w32 _) u0 w0 (some (sR (g v4 v6))) rfl
  · refine go_iload kk276_0.2.2.2.1.2 rfl ?_
    exact go_iret kk276_0.2.2.2.2 hg h3 ⟨Nat.zero_le _, Nat.zero_le _⟩ rfl
theorem tlT_countBelow_16 {Φ : ev_P} {d : Nat} (hd : 1 ≤ d) {g : gH} (hg : HR g) {v1 v2 v4 v5 : Int} (h1 : RfR v1) (h2 : InR v2) (h4 : RfR v4) (h5 : InR v5) : ∀ n : Nat, ∀ (v3 : Int) (h3 : InR v3) (v6 : Int) (h6 : InR v6) (u0 : Option ev_V) (w0 : nwo u0) (u7 : Option ev_V) (w7 : nwo u7), Go Φ pr_P (fP g) 1 (lT_countBelow_16 g v1 v2 v4 v5 n v3 v6) d pr_m276 16 [u0, some (sR v1), some (sI v2), some (sI v3), some (sR v4), some (sI v5), some (sI v6), u7] [] g 0 0 := by
  intro n
  induction n with
  | zero => intros; exact go_none
  | succ n ih => exact tbT_countBelow_16 hd hg h1 h2 h4 h5 ih
theorem tfT_countBelow {Φ : ev_P} {d : Nat} (hd : 1 ≤ d) {g : gH} (hg : HR g) {v0 v1 v2 : Int} (hK0 : kd v0 = 5) (h1 : RfR v1) (h2 : InR v2) : Go Φ pr_P (fP g) 1 (fT_countBelow g v0 v1 v2) d (pr_P 276) 0 (ev_loc (pr_P 276).1 [(sR v0), (sR v1), (sI v2)]) [] g 0 0 := by
  show Go Φ pr_P (fP g) 1 (fT_countBelow g v0 v1 v2) d pr_m276 0 [some (sR v0), some (sR v1), some (sI v2), none, none, none, none, none] [] g 0 0
  unfold fT_countBelow
  refine go_int kk276_0.1.1.1.1.1 0 rfl ?_
  refine go_istore kk276_0.1.1.1.1.2 rfl (loc2 := [some (sR v0), some (sR v1), some (sI v2), some (sI 0), none, none, none, none]) rfl ?_
  refine go_aload kk276_0.1.1.1.2.1 rfl ?_
  refine go_getR (bI := 1) kk276_0.1.1.1.2.2 hg hK0 (by decide) rfl rfl (fun r1 => ?_)
  refine go_astore kk276_0.1.1.2.1.1 rfl (loc2 := [some (sR v0), some (sR v1), some (sI v2), some (sI 0), some (sR (g v0 1)), none, none, none]) rfl ?_
  refine go_aload kk276_0.1.1.2.1.2 rfl ?_
  refine go_ck (fun q3 => ?_)
  refine go_alen kk276_0.1.1.2.2.1 (ka_24 q3) (fun r2 => ?_)
  refine go_istore kk276_0.1.1.2.2.2 rfl (loc2 := [some (sR v0), some (sR v1), some (sI v2), some (sI 0), some (sR (g v0 1)), some (sI (sz (g v0 1))), none, none]) rfl ?_
  refine go_int kk276_0.1.2.1.1.1 0 rfl ?_
  refine go_istore kk276_0.1.2.1.1.2 rfl (loc2 := [some (sR v0), some (sR v1), some (sI v2), some (sI 0), some (sR (g v0 1)), some (sI (sz (g v0 1))), some (sI 0), none]) rfl ?_
  exact tlT_countBelow_16 hd hg h1 h2 r1 r2 fu 0 (inR_b (Or.inl rfl)) 0 (inR_b (Or.inl rfl)) (some (sR v0)) rfl none rfl
theorem tfC_below {Φ : ev_P} {d : Nat} (hd : 2 ≤ d) {g : gH} (hg : HR g) {v0 v1 : Int} (hK0 : kd v0 = 6) (h1 : InR v1) : Go Φ pr_P (fQ g) 1 (fC_below g v0 v1) d (pr_P 13) 0 (ev_loc (pr_P 13).1 [(sR v0), (sI v1)]) [] g 0 0 := by
  show Go Φ pr_P (fQ g) 1 (fC_below g v0 v1) d pr_m13 0 [some (sR v0), some (sI v1)] [] g 0 0
  unfold fC_below
  refine go_aload kk13_0.1.1.1 rfl ?_
  refine go_getR (bI := 0) kk13_0.1.1.2 hg hK0 (by decide) rfl rfl (fun r1 => ?_)
  refine go_aload kk13_0.1.2.1 rfl ?_
  refine go_iload kk13_0.1.2.2 rfl ?_
  refine go_callQ2 kk13_0.2.1.1 rfl rfl rfl ⟨by decide, _, rfl, hK0⟩ ⟨by decide, by decide⟩ (by omega) (tfC_named (by omega) hg hK0  h1) (fun y2 r3 => ?_) (fun e6 E7 => ge_prop rfl ⟨by decide, by decide⟩ e6 rfl)
  refine go_int kk13_0.2.1.2 0 rfl ?_
  refine go_ck (fun q8 => ?_)
  refine go_callP1 kk13_0.2.2.1 rfl rfl rfl ⟨by decide, _, rfl, q8⟩ ⟨by decide, by decide⟩ (by omega) (tfT_countBelow (by omega) hg q8  r3 (inR_b (Or.inl rfl))) (fun y9 r10 => ?_)
  exact go_iret kk13_0.2.2.2 hg r10 ⟨by decide, by decide⟩ rfl
theorem tfW_below {Φ : ev_P} {d : Nat} (hd : 3 ≤ d) {g : gH} (hg : HR g) {v0 v1 v2 : Int} (h0 : RfR v0) (h1 : InR v1) (h2 : RfR v2) : Go Φ pr_P fN 1 (fW_below g v0 v1 v2) d (pr_P 311) 0 (ev_loc (pr_P 311).1 [(sR v0), (sI v1), (sR v2)]) [] g 0 0 := by
  show Go Φ pr_P fN 1 (fW_below g v0 v1 v2) d pr_m311 0 [some (sR v0), some (sI v1), some (sR v2), none] [] g 0 0
  unfold fW_below
  refine go_aload kk311_0.1.1.1.1 rfl ?_
  refine go_int kk311_0.1.1.1.2 0 rfl ?_
  refine go_aload kk311_0.1.1.2.1 rfl ?_
  refine go_iload kk311_0.1.1.2.2 rfl ?_
  refine go_ck (fun q1 => ?_)
  refine go_callQ1 kk311_0.1.2.1.1 rfl rfl rfl ⟨by decide, _, rfl, q1⟩ ⟨by decide, by decide⟩ (by omega) (tfC_below (by omega) hg q1  h1) (fun y2 r3 => ?_) (fun e6 E7 => ?_)
  · refine go_i2l kk311_0.1.2.1.2 r3 ?_
    refine go_ck (fun q8 => ?_)
    refine go_last kk311_0.1.2.2 hg q8 (inL_R r3) (fun g9 e10 => ?_)
    refine go_goto kk311_0.2.1.1.1 ?_
    refine go_int kk311_0.2.2.1.2 0 rfl ?_
    exact go_iret kk311_0.2.2.2 e10 (inR_b (Or.inl rfl)) ⟨by decide, by decide⟩ rfl
  · refine ge_ite (fun hE9 => ?_) (fun _ => ?_)
    · subst hE9
      refine ge_catch rfl kk311_0.2.1.1.2 rfl (loc2 := [some (sR v0), some (sI v1), some (sR v2), none]) rfl ?_
      refine go_int kk311_0.2.1.2 1 rfl ?_
      exact go_iret kk311_0.2.2.1.1 e6 (inR_b (Or.inr rfl)) ⟨by decide, by decide⟩ rfl
    exact ge_none
theorem tfP_isRunningChildOf {Φ : ev_P} {d : Nat} (hd : 0 ≤ d) {g : gH} (hg : HR g) {v0 v1 : Int} (hK0 : kd v0 = 3) (h1 : RfR v1) : Go Φ pr_P (fP g) 3 (fP_isRunningChildOf g v0 v1) d (pr_P 238) 0 (ev_loc (pr_P 238).1 [(sR v0), (sR v1)]) [] g 0 0 := by
  show Go Φ pr_P (fP g) 3 (fP_isRunningChildOf g v0 v1) d pr_m238 0 [some (sR v0), some (sR v1)] [] g 0 0
  unfold fP_isRunningChildOf
  refine go_aload kk238_0.1.1.1.1 rfl ?_
  refine go_getI (bI := 1) kk238_0.1.1.1.2 hg hK0 (by decide) rfl rfl (fun r1 => ?_)
  refine go_ifeq kk238_0.1.1.2 r1 (fun c2 => ?_) (fun c3 => ?_)
  · refine go_aload kk238_0.1.2.1.1 rfl ?_
    refine go_getR (bI := 2) kk238_0.1.2.1.2 hg hK0 (by decide) rfl rfl (fun r4 => ?_)
    refine go_aload kk238_0.1.2.2 rfl ?_
    refine go_acmp kk238_0.2.1.1.1 r4 h1 (fun c5 => ?_) (fun c6 => ?_)
    · refine go_int kk238_0.2.1.1.2 1 rfl ?_
      refine go_goto kk238_0.2.1.2 ?_
      exact go_bret kk238_0.2.2.2 hg (Or.inr rfl) ⟨Nat.zero_le _, Nat.zero_le _⟩ rfl
    · refine go_int kk238_0.2.2.1 0 rfl ?_
      exact go_bret kk238_0.2.2.2 hg (Or.inl rfl) ⟨Nat.zero_le _, Nat.zero_le _⟩ rfl
  · refine go_int kk238_0.2.2.1 0 rfl ?_
    exact go_bret kk238_0.2.2.2 hg (Or.inl rfl) ⟨Nat.zero_le _, Nat.zero_le _⟩ rfl
theorem tbT_childBehind_12 {Φ : ev_P} {d : Nat} (hd : 1 ≤ d) {g : gH} (hg : HR g) {v1 v2 v3 v4 : Int} (h1 : RfR v1) (h2 : InR v2) (h3 : RfR v3) (h4 : InR v4) {X12 : Int → Option Int} (HX12 : ∀ (v5 : Int) (h5 : InR v5) (u0 : Option ev_V) (w0 : nwo u0) (u6 : Option ev_V) (w6 : nwo u6), Go Φ pr_P (fP g) 2 (X12 v5) d pr_m280 12 [u0, some (sR v1), some (sI v2), some (sR v3), some (sI v4), some (sI v5), u6] [] g 0 0) : ∀ (v5 : Int) (h5 : InR v5) (u0 : Option ev_V) (w0 : nwo u0) (u6 : Option ev_V) (w6 : nwo u6), Go Φ pr_P (fP g) 2 (bT_childBehind_12 g v1 v2 v3 v4 X12 v5) d pr_m280 12 [u0, some (sR v1), some (sI v2), some (sR v3), some (sI v4), some (sI v5), u6] [] g 0 0 := by
  intro v5 h5 u0 w0 u6 w6
  unfold bT_childBehind_12
  refine go_iload kk280_0.1.2.1.1.1 rfl ?_
  refine go_iload kk280_0.1.2.1.1.2 rfl ?_
  refine go_cmlt kk280_0.1.2.1.2.1 h5 h4 (fun c4 => ?_) (fun c5 => ?_)
  · refine go_aload kk280_0.1.2.1.2.2 rfl ?_
    refine go_iload kk280_0.1.2.2.1.1 rfl ?_
    refine go_ck (fun q7 => ?_)
    refine go_pald kk280_0.1.2.2.1.2 hg q7 (fun r6 => ?_)
    refine go_astore kk280_0.1.2.2.2 rfl (loc2 := [u0, some (sR v1), some (sI v2), some (sR v3), some (sI v4), some (sI v5), some (sR (g v3 v5))]) rfl ?_
    refine go_aload kk280_0.2.1.1.1.1 rfl ?_
    refine go_ck (fun q8 => ?_)
    refine go_getI (bI := 0) kk280_0.2.1.1.1.2 hg q8 (by decide) rfl rfl (fun r9 => ?_)
    refine go_iload kk280_0.2.1.1.2.1 rfl ?_
    refine go_cmgt kk280_0.2.1.1.2.2 r9 h2 (fun c10 => ?_) (fun c11 => ?_)
    · refine go_aload kk280_0.2.1.2.1.1 rfl ?_
      refine go_aload kk280_0.2.1.2.1.2 rfl ?_
      refine go_callP3 kk280_0.2.1.2.2 rfl rfl rfl ⟨by decide, _, rfl, q8⟩ ⟨Nat.zero_le _, Nat.zero_le _⟩ (by omega) (tfP_isRunningChildOf (by omega) hg q8  h1) (fun y12 r13 => ?_)
      refine go_ifeq kk280_0.2.2.1.1.1 (inR_b r13) (fun c16 => ?_) (fun c17 => ?_)
      · refine go_iinc kk280_0.2.2.1.2.2 rfl rfl 1 rfl (loc2 := [u0, some (sR v1), some (sI v2), some (sR v3), some (sI v4), some (sI (w32 (v5 + 1))), some (sR (g v3 v5))]) rfl ?_
        refine go_goto kk280_0.2.2.2.1.1 ?_
        exact HX12 (w32 (v5 + 1)) (inR_w32 _) u0 w0 (some (sR (g v3 v5))) rfl
      · refine go_aload kk280_0.2.2.1.1.2 rfl ?_
        exact go_aret kk280_0.2.2.1.2.1 hg r6 ⟨Nat.zero_le _, Nat.zero_le _⟩ rfl
    · refine go_iinc kk280_0.2.2.1.2.2 rfl rfl 1 rfl (loc2 := [u0, some (sR v1), some (sI v2), some (sR v3), some (sI v4), some (sI (w32 (v5 + 1))), some (sR (g v3 v5))]) rfl ?_
      refine go_goto kk280_0.2.2.2.1.1 ?_
      exact HX12 (w32 (v5 + 1)) (inR_w32 _) u0 w0 (some (sR (g v3 v5))) rfl
  · refine go_null kk280_0.2.2.2.1.2 ?_
    exact go_aret kk280_0.2.2.2.2 hg rfR_null ⟨Nat.zero_le _, Nat.zero_le _⟩ rfl
theorem tlT_childBehind_12 {Φ : ev_P} {d : Nat} (hd : 1 ≤ d) {g : gH} (hg : HR g) {v1 v2 v3 v4 : Int} (h1 : RfR v1) (h2 : InR v2) (h3 : RfR v3) (h4 : InR v4) : ∀ n : Nat, ∀ (v5 : Int) (h5 : InR v5) (u0 : Option ev_V) (w0 : nwo u0) (u6 : Option ev_V) (w6 : nwo u6), Go Φ pr_P (fP g) 2 (lT_childBehind_12 g v1 v2 v3 v4 n v5) d pr_m280 12 [u0, some (sR v1), some (sI v2), some (sR v3), some (sI v4), some (sI v5), u6] [] g 0 0 := by
  intro n
  induction n with
  | zero => intros; exact go_none
  | succ n ih => exact tbT_childBehind_12 hd hg h1 h2 h3 h4 ih
theorem tfT_childBehind {Φ : ev_P} {d : Nat} (hd : 1 ≤ d) {g : gH} (hg : HR g) {v0 v1 v2 : Int} (hK0 : kd v0 = 5) (h1 : RfR v1) (h2 : InR v2) : Go Φ pr_P (fP g) 2 (fT_childBehind g v0 v1 v2) d (pr_P 280) 0 (ev_loc (pr_P 280).1 [(sR v0), (sR v1), (sI v2)]) [] g 0 0 := by
  show Go Φ pr_P (fP g) 2 (fT_childBehind g v0 v1 v2) d pr_m280 0 [some (sR v0), some (sR v1), some (sI v2), none, none, none, none] [] g 0 0
  unfold fT_childBehind
  refine go_aload kk280_0.1.1.1.1.1 rfl ?_
  refine go_getR (bI := 1) kk280_0.1.1.1.1.2 hg hK0 (by decide) rfl rfl (fun r1 => ?_)
  refine go_astore kk280_0.1.1.1.2.1 rfl (loc2 := [some (sR v0), some (sR v1), some (sI v2), some (sR (g v0 1)), none, none, none]) rfl ?_
  refine go_aload kk280_0.1.1.1.2.2 rfl ?_
  refine go_ck (fun q3 => ?_)
  refine go_alen kk280_0.1.1.2.1.1 (ka_24 q3) (fun r2 => ?_)
  refine go_istore kk280_0.1.1.2.1.2 rfl (loc2 := [some (sR v0), some (sR v1), some (sI v2), some (sR (g v0 1)), some (sI (sz (g v0 1))), none, none]) rfl ?_
  refine go_int kk280_0.1.1.2.2.1 0 rfl ?_
  refine go_istore kk280_0.1.1.2.2.2 rfl (loc2 := [some (sR v0), some (sR v1), some (sI v2), some (sR (g v0 1)), some (sI (sz (g v0 1))), some (sI 0), none]) rfl ?_
  exact tlT_childBehind_12 hd hg h1 h2 r1 r2 fu 0 (inR_b (Or.inl rfl)) (some (sR v0)) rfl none rfl
theorem tbT_nextOfWalk_9 {Φ : ev_P} {d : Nat} (hd : 2 ≤ d) {g : gH} (hg : HR g) {v0 : Int} (hK0 : kd v0 = 5) {X9 : Int → Int → Option Int} (HX9 : ∀ (v2 : Int) (h2 : RfR v2) (v3 : Int) (h3 : RfR v3) (u1 : Option ev_V) (w1 : nwo u1), Go Φ pr_P (fP g) 2 (X9 v2 v3) d pr_m282 9 [some (sR v0), u1, some (sR v2), some (sR v3)] [] g 0 0) : ∀ (v2 : Int) (h2 : RfR v2) (v3 : Int) (h3 : RfR v3) (u1 : Option ev_V) (w1 : nwo u1), Go Φ pr_P (fP g) 2 (bT_nextOfWalk_9 g v0 X9 v2 v3) d pr_m282 9 [some (sR v0), u1, some (sR v2), some (sR v3)] [] g 0 0 := by
  intro v2 h2 v3 h3 u1 w1
  unfold bT_nextOfWalk_9
  refine go_aload kk282_0.1.2.1.1.1 rfl ?_
  refine go_isnull kk282_0.1.2.1.1.2  (fun c5 => ?_) (fun c6 => ?_)
  · refine go_aload kk282_0.1.2.1.2 rfl ?_
    refine go_ck (fun q7 => ?_)
    refine go_getR (bI := 2) kk282_0.1.2.2.1.1 hg q7 (by decide) rfl rfl (fun r8 => ?_)
    refine go_isnull kk282_0.1.2.2.1.2  (fun c9 => ?_) (fun c10 => ?_)
    · refine go_aload kk282_0.2.2.2.1.2 rfl ?_
      exact go_aret kk282_0.2.2.2.2 hg h2 ⟨Nat.zero_le _, Nat.zero_le _⟩ rfl
    · refine go_aload kk282_0.1.2.2.2 rfl ?_
      refine go_aload kk282_0.2.1.1.1.1 rfl ?_
      refine go_getR (bI := 2) kk282_0.2.1.1.1.2 hg q7 (by decide) rfl rfl (fun r11 => ?_)
      refine go_aload kk282_0.2.1.1.2 rfl ?_
      refine go_getI (bI := 0) kk282_0.2.1.2.1.1 hg q7 (by decide) rfl rfl (fun r12 => ?_)
      refine go_callP2 kk282_0.2.1.2.1.2 rfl rfl rfl ⟨by decide, _, rfl, hK0⟩ ⟨Nat.zero_le _, Nat.zero_le _⟩ (by omega) (tfT_childBehind (by omega) hg hK0  r11 r12) (fun y13 r14 => ?_)
      refine go_astore kk282_0.2.1.2.2 w1 (loc2 := [some (sR v0), u1, some (sR y13), some (sR v3)]) rfl ?_
      refine go_aload kk282_0.2.2.1.1.1 rfl ?_
      refine go_getR (bI := 2) kk282_0.2.2.1.1.2 hg q7 (by decide) rfl rfl (fun r17 => ?_)
      refine go_astore kk282_0.2.2.1.2 rfl (loc2 := [some (sR v0), u1, some (sR y13), some (sR (g v3 2))]) rfl ?_
      refine go_goto kk282_0.2.2.2.1.1 ?_
      exact HX9 y13 r14 (g v3 2) r17 u1 w1
  · refine go_aload kk282_0.2.2.2.1.2 rfl ?_
    exact go_aret kk282_0.2.2.2.2 hg h2 ⟨Nat.zero_le _, Nat.zero_le _⟩ rfl
theorem tlT_nextOfWalk_9 {Φ : ev_P} {d : Nat} (hd : 2 ≤ d) {g : gH} (hg : HR g) {v0 : Int} (hK0 : kd v0 = 5) : ∀ n : Nat, ∀ (v2 : Int) (h2 : RfR v2) (v3 : Int) (h3 : RfR v3) (u1 : Option ev_V) (w1 : nwo u1), Go Φ pr_P (fP g) 2 (lT_nextOfWalk_9 g v0 n v2 v3) d pr_m282 9 [some (sR v0), u1, some (sR v2), some (sR v3)] [] g 0 0 := by
  intro n
  induction n with
  | zero => intros; exact go_none
  | succ n ih => exact tbT_nextOfWalk_9 hd hg hK0 ih
theorem tfT_nextOfWalk {Φ : ev_P} {d : Nat} (hd : 2 ≤ d) {g : gH} (hg : HR g) {v0 v1 : Int} (hK0 : kd v0 = 5) (h1 : RfR v1) : Go Φ pr_P (fP g) 2 (fT_nextOfWalk g v0 v1) d (pr_P 282) 0 (ev_loc (pr_P 282).1 [(sR v0), (sR v1)]) [] g 0 0 := by
  show Go Φ pr_P (fP g) 2 (fT_nextOfWalk g v0 v1) d pr_m282 0 [some (sR v0), some (sR v1), none, none] [] g 0 0
  unfold fT_nextOfWalk
  refine go_aload kk282_0.1.1.1.1.1 rfl ?_
  refine go_aload kk282_0.1.1.1.1.2 rfl ?_
  refine go_int kk282_0.1.1.1.2.1 (-1) rfl ?_
  refine go_callP2 kk282_0.1.1.1.2.2 rfl rfl rfl ⟨by decide, _, rfl, hK0⟩ ⟨Nat.zero_le _, Nat.zero_le _⟩ (by omega) (tfT_childBehind (by omega) hg hK0  h1 (inR_of (by decide))) (fun y1 r2 => ?_)
  refine go_astore kk282_0.1.1.2.1.1 rfl (loc2 := [some (sR v0), some (sR v1), some (sR y1), none]) rfl ?_
  refine go_aload kk282_0.1.1.2.1.2 rfl ?_
  refine go_astore kk282_0.1.1.2.2 rfl (loc2 := [some (sR v0), some (sR v1), some (sR y1), some (sR v1)]) rfl ?_
  exact tlT_nextOfWalk_9 hd hg hK0 fu y1 r2 v1 h1 (some (sR v1)) rfl
theorem tjC_walked_48 {Φ : ev_P} {d : Nat} (hd : 3 ≤ d) {g : gH} (hg : HR g) {v2 : Int} (h2 : RfR v2) (u0 : Option ev_V) (w0 : nwo u0) (u1 : Option ev_V) (w1 : nwo u1) (u3 : Option ev_V) (w3 : nwo u3) : Go Φ pr_P (fQ g) 1 (jC_walked_48 g v2 ) d pr_m14 48 [u0, u1, some (sR v2), u3] [] g 0 0 := by
  unfold jC_walked_48
  refine go_aload kk14_0.2.2.1.1.2 rfl ?_
  refine go_isnull kk14_0.2.2.1.2.1  (fun c18 => ?_) (fun c19 => ?_)
  · exact go_throw kk14_0.2.2.1.2.2 hg ⟨by decide, by decide⟩ rfl rfl
  · refine go_aload kk14_0.2.2.2.1.1 rfl ?_
    refine go_ck (fun q20 => ?_)
    refine go_getI (bI := 0) kk14_0.2.2.2.1.2 hg q20 (by decide) rfl rfl (fun r21 => ?_)
    exact go_iret kk14_0.2.2.2.2 hg r21 ⟨Nat.zero_le _, Nat.zero_le _⟩ rfl
theorem tbC_walked_24 {Φ : ev_P} {d : Nat} (hd : 3 ≤ d) {g : gH} (hg : HR g) {v0 v1 : Int} (hK0 : kd v0 = 6) (h1 : InR v1) {X24 : Int → Int → Option (Nat × Int)} (HX24 : ∀ (v2 : Int) (h2 : RfR v2) (v3 : Int) (h3 : InR v3), Go Φ pr_P (fQ g) 1 (X24 v2 v3) d pr_m14 24 [some (sR v0), some (sI v1), some (sR v2), some (sI v3)] [] g 0 0) : ∀ (v2 : Int) (h2 : RfR v2) (v3 : Int) (h3 : InR v3), Go Φ pr_P (fQ g) 1 (bC_walked_24 g v0 v1 X24 v2 v3) d pr_m14 24 [some (sR v0), some (sI v1), some (sR v2), some (sI v3)] [] g 0 0 := by
  intro v2 h2 v3 h3
  unfold bC_walked_24
  refine go_iload kk14_0.1.2.2.1.2 rfl ?_
  refine go_iload kk14_0.1.2.2.2.1 rfl ?_
  refine go_cmlt kk14_0.1.2.2.2.2 h3 h1 (fun c8 => ?_) (fun c9 => ?_)
  · refine go_aload kk14_0.2.1.1.1.1 rfl ?_
    refine go_isnull kk14_0.2.1.1.1.2  (fun c10 => ?_) (fun c11 => ?_)
    · exact tjC_walked_48 hd hg h2 (some (sR v0)) rfl (some (sI v1)) rfl (some (sI v3)) rfl
    · refine go_aload kk14_0.2.1.1.2.1 rfl ?_
      refine go_getR (bI := 0) kk14_0.2.1.1.2.2 hg hK0 (by decide) rfl rfl (fun r12 => ?_)
      refine go_aload kk14_0.2.1.2.1.1 rfl ?_
      refine go_ck (fun q13 => ?_)
      refine go_callP2 kk14_0.2.1.2.1.2 rfl rfl rfl ⟨by decide, _, rfl, q13⟩ ⟨Nat.zero_le _, Nat.zero_le _⟩ (by omega) (tfT_nextOfWalk (by omega) hg q13  h2) (fun y14 r15 => ?_)
      refine go_astore kk14_0.2.1.2.2.1 rfl (loc2 := [some (sR v0), some (sI v1), some (sR y14), some (sI v3)]) rfl ?_
      refine go_iinc kk14_0.2.1.2.2.2 rfl rfl 1 rfl (loc2 := [some (sR v0), some (sI v1), some (sR y14), some (sI (w32 (v3 + 1)))]) rfl ?_
      refine go_goto kk14_0.2.2.1.1.1 ?_
      exact HX24 y14 r15 (w32 (v3 + 1)) (inR_w32 _)
  · exact tjC_walked_48 hd hg h2 (some (sR v0)) rfl (some (sI v1)) rfl (some (sI v3)) rfl
theorem tlC_walked_24 {Φ : ev_P} {d : Nat} (hd : 3 ≤ d) {g : gH} (hg : HR g) {v0 v1 : Int} (hK0 : kd v0 = 6) (h1 : InR v1) : ∀ n : Nat, ∀ (v2 : Int) (h2 : RfR v2) (v3 : Int) (h3 : InR v3), Go Φ pr_P (fQ g) 1 (lC_walked_24 g v0 v1 n v2 v3) d pr_m14 24 [some (sR v0), some (sI v1), some (sR v2), some (sI v3)] [] g 0 0 := by
  intro n
  induction n with
  | zero => intros; exact go_none
  | succ n ih => exact tbC_walked_24 hd hg hK0 h1 ih
theorem tfC_walked {Φ : ev_P} {d : Nat} (hd : 3 ≤ d) {g : gH} (hg : HR g) {v0 v1 : Int} (hK0 : kd v0 = 6) (h1 : InR v1) : Go Φ pr_P (fQ g) 1 (fC_walked g v0 v1) d (pr_P 14) 0 (ev_loc (pr_P 14).1 [(sR v0), (sI v1)]) [] g 0 0 := by
  show Go Φ pr_P (fQ g) 1 (fC_walked g v0 v1) d pr_m14 0 [some (sR v0), some (sI v1), none, none] [] g 0 0
  unfold fC_walked
  refine go_iload kk14_0.1.1.1.1.1 rfl ?_
  refine go_iflt kk14_0.1.1.1.1.2 h1 (fun c1 => ?_) (fun c2 => ?_)
  · refine go_null kk14_0.1.1.2.1.2 ?_
    refine go_goto kk14_0.1.1.2.2.1 ?_
    refine go_astore kk14_0.1.2.1.2.1 rfl (loc2 := [some (sR v0), some (sI v1), some (sR (-1)), none]) rfl ?_
    refine go_int kk14_0.1.2.1.2.2 0 rfl ?_
    refine go_istore kk14_0.1.2.2.1.1 rfl (loc2 := [some (sR v0), some (sI v1), some (sR (-1)), some (sI 0)]) rfl ?_
    exact tlC_walked_24 hd hg hK0 h1 fu (-1) rfR_null 0 (inR_b (Or.inl rfl))
  · refine go_iload kk14_0.1.1.1.2.1 rfl ?_
    refine go_int kk14_0.1.1.1.2.2 40 rfl ?_
    refine go_cmlt kk14_0.1.1.2.1.1 h1 (inR_of (by decide)) (fun c3 => ?_) (fun c4 => ?_)
    · refine go_aload kk14_0.1.1.2.2.2 rfl ?_
      refine go_getR (bI := 0) kk14_0.1.2.1.1.1 hg hK0 (by decide) rfl rfl (fun r5 => ?_)
      refine go_ck (fun q6 => ?_)
      refine go_getR (bI := 0) kk14_0.1.2.1.1.2 hg q6 (by decide) rfl rfl (fun r7 => ?_)
      refine go_astore kk14_0.1.2.1.2.1 rfl (loc2 := [some (sR v0), some (sI v1), some (sR (g (g v0 0) 0)), none]) rfl ?_
      refine go_int kk14_0.1.2.1.2.2 0 rfl ?_
      refine go_istore kk14_0.1.2.2.1.1 rfl (loc2 := [some (sR v0), some (sI v1), some (sR (g (g v0 0) 0)), some (sI 0)]) rfl ?_
      exact tlC_walked_24 hd hg hK0 h1 fu (g (g v0 0) 0) r7 0 (inR_b (Or.inl rfl))
    · refine go_null kk14_0.1.1.2.1.2 ?_
      refine go_goto kk14_0.1.1.2.2.1 ?_
      refine go_astore kk14_0.1.2.1.2.1 rfl (loc2 := [some (sR v0), some (sI v1), some (sR (-1)), none]) rfl ?_
      refine go_int kk14_0.1.2.1.2.2 0 rfl ?_
      refine go_istore kk14_0.1.2.2.1.1 rfl (loc2 := [some (sR v0), some (sI v1), some (sR (-1)), some (sI 0)]) rfl ?_
      exact tlC_walked_24 hd hg hK0 h1 fu (-1) rfR_null 0 (inR_b (Or.inl rfl))
theorem tfW_walked {Φ : ev_P} {d : Nat} (hd : 4 ≤ d) {g : gH} (hg : HR g) {v0 v1 v2 : Int} (h0 : RfR v0) (h1 : InR v1) (h2 : RfR v2) : Go Φ pr_P fN 1 (fW_walked g v0 v1 v2) d (pr_P 312) 0 (ev_loc (pr_P 312).1 [(sR v0), (sI v1), (sR v2)]) [] g 0 0 := by
  show Go Φ pr_P fN 1 (fW_walked g v0 v1 v2) d pr_m312 0 [some (sR v0), some (sI v1), some (sR v2), none] [] g 0 0
  unfold fW_walked
  refine go_aload kk312_0.1.1.1.1 rfl ?_
  refine go_int kk312_0.1.1.1.2 0 rfl ?_
  refine go_aload kk312_0.1.1.2.1 rfl ?_
  refine go_iload kk312_0.1.1.2.2 rfl ?_
  refine go_ck (fun q1 => ?_)
  refine go_callQ1 kk312_0.1.2.1.1 rfl rfl rfl ⟨by decide, _, rfl, q1⟩ ⟨by decide, by decide⟩ (by omega) (tfC_walked (by omega) hg q1  h1) (fun y2 r3 => ?_) (fun e6 E7 => ?_)
  · refine go_i2l kk312_0.1.2.1.2 r3 ?_
    refine go_ck (fun q8 => ?_)
    refine go_last kk312_0.1.2.2 hg q8 (inL_R r3) (fun g9 e10 => ?_)
    refine go_goto kk312_0.2.1.1.1 ?_
    refine go_int kk312_0.2.2.1.2 0 rfl ?_
    exact go_iret kk312_0.2.2.2 e10 (inR_b (Or.inl rfl)) ⟨by decide, by decide⟩ rfl
  · refine ge_ite (fun hE9 => ?_) (fun _ => ?_)
    · subst hE9
      refine ge_catch rfl kk312_0.2.1.1.2 rfl (loc2 := [some (sR v0), some (sI v1), some (sR v2), none]) rfl ?_
      refine go_int kk312_0.2.1.2 1 rfl ?_
      exact go_iret kk312_0.2.2.1.1 e6 (inR_b (Or.inr rfl)) ⟨by decide, by decide⟩ rfl
    exact ge_none
theorem tjH_push_21 {Φ : ev_P} {d : Nat} (hd : 2 ≤ d) {g : gH} (hg : HR g) {v0 v1 : Int} (hK0 : kd v0 = 0) (h1 : RfR v1) : Go Φ pr_P fN 0 (jH_push_21 g v0 v1 ) d pr_m219 21 [some (sR v0), some (sR v1)] [] g 0 0 := by
  unfold jH_push_21
  refine go_aload kk219_0.1.2.1.1.2 rfl ?_
  refine go_getR (bI := 0) kk219_0.1.2.1.2.1 hg hK0 (by decide) rfl rfl (fun r9 => ?_)
  refine go_aload kk219_0.1.2.1.2.2 rfl ?_
  refine go_getI (bI := 2) kk219_0.1.2.2.1.1 hg hK0 (by decide) rfl rfl (fun r10 => ?_)
  refine go_ck (fun q12 => ?_)
  refine go_tald kk219_0.1.2.2.1.2 hg q12 (fun r11 => ?_)
  refine go_aload kk219_0.1.2.2.2.1 rfl ?_
  refine go_ck (fun q13 => ?_)
  refine go_callN0 kk219_0.1.2.2.2.2 rfl rfl rfl ⟨by decide, _, rfl, q13⟩ ⟨Nat.zero_le _, Nat.zero_le _⟩ (by omega) (tfT_take (by omega) hg q13  h1) (fun y14 g16 e17 => ?_)
  refine go_aload kk219_0.2.1.1.1.1.1 rfl ?_
  refine go_dupR kk219_0.2.1.1.1.1.2 ?_
  refine go_getI (bI := 2) kk219_0.2.1.1.1.2 e17 hK0 (by decide) rfl rfl (fun r18 => ?_)
  refine go_int kk219_0.2.1.1.2.1 1 rfl ?_
  refine go_iadd kk219_0.2.1.1.2.2 ?_
  refine go_putI (bI := 2) kk219_0.2.1.2.1.1 e17 hK0 (by decide) rfl rfl (inR_w32 _) (fun g19 e20 => ?_)
  refine go_aload kk219_0.2.1.2.1.2 rfl ?_
  refine go_getI (bI := 1) kk219_0.2.1.2.2.1 e20 hK0 (by decide) rfl rfl (fun r21 => ?_)
  refine go_int kk219_0.2.1.2.2.2 10 rfl ?_
  refine go_cmlt kk219_0.2.2.1.1.1 r21 (inR_of (by decide)) (fun c22 => ?_) (fun c23 => ?_)
  · refine go_aload kk219_0.2.2.1.1.2 rfl ?_
    refine go_dupR kk219_0.2.2.1.2.1 ?_
    refine go_getI (bI := 1) kk219_0.2.2.1.2.2 e20 hK0 (by decide) rfl rfl (fun r24 => ?_)
    refine go_int kk219_0.2.2.2.1.1 1 rfl ?_
    refine go_iadd kk219_0.2.2.2.1.2 ?_
    refine go_putI (bI := 1) kk219_0.2.2.2.2.1 e20 hK0 (by decide) rfl rfl (inR_w32 _) (fun g25 e26 => ?_)
    exact go_vret kk219_0.2.2.2.2.2 e26 ⟨Nat.zero_le _, Nat.zero_le _⟩ rfl
  · exact go_vret kk219_0.2.2.2.2.2 e20 ⟨Nat.zero_le _, Nat.zero_le _⟩ rfl
theorem tjH_push_16 {Φ : ev_P} {d : Nat} (hd : 2 ≤ d) {g : gH} (hg : HR g) {v0 v1 : Int} (hK0 : kd v0 = 0) (h1 : RfR v1) : Go Φ pr_P fN 0 (jH_push_16 g v0 v1 ) d pr_m219 16 [some (sR v0), some (sR v1)] [] g 0 0 := by
  unfold jH_push_16
  refine go_aload kk219_0.1.1.2.2.1 rfl ?_
  refine go_int kk219_0.1.1.2.2.2 0 rfl ?_
  refine go_putI (bI := 2) kk219_0.1.2.1.1.1 hg hK0 (by decide) rfl rfl (inR_b (Or.inl rfl)) (fun g7 e8 => ?_)
  exact tjH_push_21 hd e8 hK0 h1
theorem tfH_push {Φ : ev_P} {d : Nat} (hd : 2 ≤ d) {g : gH} (hg : HR g) {v0 v1 : Int} (hK0 : kd v0 = 0) (h1 : RfR v1) : Go Φ pr_P fN 0 (fH_push g v0 v1) d (pr_P 219) 0 (ev_loc (pr_P 219).1 [(sR v0), (sR v1)]) [] g 0 0 := by
  show Go Φ pr_P fN 0 (fH_push g v0 v1) d pr_m219 0 [some (sR v0), some (sR v1)] [] g 0 0
  unfold fH_push
  refine go_aload kk219_0.1.1.1.1.1.1 rfl ?_
  refine go_getI (bI := 2) kk219_0.1.1.1.1.1.2 hg hK0 (by decide) rfl rfl (fun r1 => ?_)
  refine go_iflt kk219_0.1.1.1.1.2 r1 (fun c2 => ?_) (fun c3 => ?_)
  · exact tjH_push_16 hd hg hK0 h1
  · refine go_aload kk219_0.1.1.1.2.1 rfl ?_
    refine go_getI (bI := 2) kk219_0.1.1.1.2.2 hg hK0 (by decide) rfl rfl (fun r4 => ?_)
    refine go_int kk219_0.1.1.2.1.1 10 rfl ?_
    refine go_cmlt kk219_0.1.1.2.1.2 r4 (inR_of (by decide)) (fun c5 => ?_) (fun c6 => ?_)
    · exact tjH_push_21 hd hg hK0 h1
    · exact tjH_push_16 hd hg hK0 h1
theorem tjC_spawn_51 {Φ : ev_P} {d : Nat} (hd : 3 ≤ d) {g : gH} (hg : HR g) {v0 v2 v3 v4 v5 : Int} (hK0 : kd v0 = 6) (h2 : InR v2) (h3 : InR v3) (h4 : InR v4) (h5 : RfR v5) {s0 : Int} (z0 : B01 s0) (u1 : Option ev_V) (w1 : nwo u1) : Go Φ pr_P fT 1 (jC_spawn_51 g v0 v2 v3 v4 v5 s0 ) d pr_m17 51 [some (sR v0), u1, some (sI v2), some (sI v3), some (sI v4), some (sR v5)] [(sI s0)] g 4 24 := by
  unfold jC_spawn_51
  refine go_callQ0 kk17_0.2.1.1.2.2 rfl rfl rfl trivial ⟨by decide, by decide⟩ (by omega) (tfC_checkState (by omega) hg  z0) (fun y37 => ?_) (fun e41 E42 => ge_prop rfl ⟨by decide, by decide⟩ e41 rfl)
  refine go_aload kk17_0.2.1.2.1.1.1 rfl ?_
  refine go_getR (bI := 3) kk17_0.2.1.2.1.1.2 hg hK0 (by decide) rfl rfl (fun r43 => ?_)
  refine go_aload kk17_0.2.1.2.1.2 rfl ?_
  refine go_getR (bI := 0) kk17_0.2.1.2.2.1 hg hK0 (by decide) rfl rfl (fun r44 => ?_)
  refine go_ck (fun q45 => ?_)
  refine go_callN0 kk17_0.2.1.2.2.2 rfl rfl rfl ⟨by decide, _, rfl, q45⟩ ⟨by decide, by decide⟩ (by omega) (tfH_push (by omega) hg q45  r44) (fun y46 g48 e49 => ?_)
  refine go_aload kk17_0.2.2.1.1.1.1 rfl ?_
  refine go_getR (bI := 0) kk17_0.2.2.1.1.1.2 e49 hK0 (by decide) rfl rfl (fun r50 => ?_)
  refine go_aload kk17_0.2.2.1.1.2 rfl ?_
  refine go_iload kk17_0.2.2.1.2.1 rfl ?_
  refine go_iload kk17_0.2.2.1.2.2 rfl ?_
  refine go_iload kk17_0.2.2.2.1.1 rfl ?_
  refine go_ck (fun q51 => ?_)
  refine go_callN2 kk17_0.2.2.2.1.2 rfl rfl rfl ⟨by decide, _, rfl, q51⟩ ⟨by decide, by decide⟩ (by omega) (tfT_arrive (by omega) e49 q51  h5 h2 h3 h4) (fun y52 g54 r53 e55 => ?_)
  refine go_callP1 kk17_0.2.2.2.2.1 rfl rfl rfl trivial ⟨by decide, by decide⟩ (by omega) (tfC_numberOf (by omega) e55  r53) (fun y56 r57 => ?_)
  exact go_iret kk17_0.2.2.2.2.2 e55 r57 ⟨by decide, by decide⟩ rfl
theorem tjC_spawn_50 {Φ : ev_P} {d : Nat} (hd : 3 ≤ d) {g : gH} (hg : HR g) {v0 v2 v3 v4 v5 : Int} (hK0 : kd v0 = 6) (h2 : InR v2) (h3 : InR v3) (h4 : InR v4) (h5 : RfR v5) (u1 : Option ev_V) (w1 : nwo u1) : Go Φ pr_P fT 1 (jC_spawn_50 g v0 v2 v3 v4 v5 ) d pr_m17 50 [some (sR v0), u1, some (sI v2), some (sI v3), some (sI v4), some (sR v5)] [] g 4 24 := by
  unfold jC_spawn_50
  refine go_int kk17_0.2.1.1.2.1 0 rfl ?_
  exact tjC_spawn_51 hd hg hK0 h2 h3 h4 h5 (Or.inl rfl) u1 w1
theorem tfC_spawn {Φ : ev_P} {d : Nat} (hd : 3 ≤ d) {g : gH} (hg : HR g) {v0 v1 v2 v3 v4 : Int} (hK0 : kd v0 = 6) (h1 : InR v1) (h2 : InR v2) (h3 : InR v3) (h4 : InR v4) : Go Φ pr_P fT 1 (fC_spawn g v0 v1 v2 v3 v4) d (pr_P 17) 0 (ev_loc (pr_P 17).1 [(sR v0), (sI v1), (sI v2), (sI v3), (sI v4)]) [] g 0 0 := by
  show Go Φ pr_P fT 1 (fC_spawn g v0 v1 v2 v3 v4) d pr_m17 0 [some (sR v0), some (sI v1), some (sI v2), some (sI v3), some (sI v4), none] [] g 0 0
  unfold fC_spawn
  refine go_aload kk17_0.1.1.1.1.1.1 rfl ?_
  refine go_iload kk17_0.1.1.1.1.1.2 rfl ?_
  refine go_callQ2 kk17_0.1.1.1.1.2 rfl rfl rfl ⟨by decide, _, rfl, hK0⟩ ⟨by decide, by decide⟩ (by omega) (tfC_named (by omega) hg hK0  h1) (fun y1 r2 => ?_) (fun e5 E6 => ge_prop rfl ⟨by decide, by decide⟩ e5 rfl)
  refine go_astore kk17_0.1.1.1.2.1 rfl (loc2 := [some (sR v0), some (sI v1), some (sI v2), some (sI v3), some (sI v4), some (sR y1)]) rfl ?_
  refine go_iload kk17_0.1.1.1.2.2 rfl ?_
  refine go_int kk17_0.1.1.2.1.1.1 9 rfl ?_
  refine go_callQ0 kk17_0.1.1.2.1.1.2 rfl rfl rfl trivial ⟨by decide, by decide⟩ (by omega) (tfC_checkRange (by omega) hg  h2 (inR_of (by decide))) (fun y7 => ?_) (fun e11 E12 => ge_prop rfl ⟨by decide, by decide⟩ e11 rfl)
  refine go_iload kk17_0.1.1.2.1.2 rfl ?_
  refine go_int kk17_0.1.1.2.2.1 9 rfl ?_
  refine go_callQ0 kk17_0.1.1.2.2.2 rfl rfl rfl trivial ⟨by decide, by decide⟩ (by omega) (tfC_checkRange (by omega) hg  h3 (inR_of (by decide))) (fun y13 => ?_) (fun e17 E18 => ge_prop rfl ⟨by decide, by decide⟩ e17 rfl)
  refine go_iload kk17_0.1.2.1.1.1.1 rfl ?_
  refine go_int kk17_0.1.2.1.1.1.2 9 rfl ?_
  refine go_callQ0 kk17_0.1.2.1.1.2 rfl rfl rfl trivial ⟨by decide, by decide⟩ (by omega) (tfC_checkRange (by omega) hg  h4 (inR_of (by decide))) (fun y19 => ?_) (fun e23 E24 => ge_prop rfl ⟨by decide, by decide⟩ e23 rfl)
  refine go_aload kk17_0.1.2.1.2.1 rfl ?_
  refine go_ck (fun q25 => ?_)
  refine go_callP1 kk17_0.1.2.1.2.2 rfl rfl rfl ⟨by decide, _, rfl, q25⟩ ⟨by decide, by decide⟩ (by omega) (tfP_room (by omega) hg q25 ) (fun y26 r27 => ?_)
  refine go_ifgt kk17_0.1.2.2.1.1.1 r27 (fun c30 => ?_) (fun c31 => ?_)
  · refine go_aload kk17_0.1.2.2.1.1.2 rfl ?_
    refine go_getR (bI := 0) kk17_0.1.2.2.1.2 hg hK0 (by decide) rfl rfl (fun r32 => ?_)
    refine go_ck (fun q33 => ?_)
    refine go_getI (bI := 5) kk17_0.1.2.2.2.1 hg q33 (by decide) rfl rfl (fun r34 => ?_)
    refine go_int kk17_0.1.2.2.2.2 40 rfl ?_
    refine go_cmlt kk17_0.2.1.1.1.1.1 r34 (inR_of (by decide)) (fun c35 => ?_) (fun c36 => ?_)
    · refine go_int kk17_0.2.1.1.1.1.2 1 rfl ?_
      refine go_goto kk17_0.2.1.1.1.2 ?_
      exact tjC_spawn_51 hd hg hK0 h2 h3 h4 r2 (Or.inr rfl) (some (sI v1)) rfl
    · exact tjC_spawn_50 hd hg hK0 h2 h3 h4 r2 (some (sI v1)) rfl
  · exact tjC_spawn_50 hd hg hK0 h2 h3 h4 r2 (some (sI v1)) rfl
theorem tfW_spawn {Φ : ev_P} {d : Nat} (hd : 4 ≤ d) {g : gH} (hg : HR g) {v0 v1 v2 v3 v4 v5 : Int} (h0 : RfR v0) (h1 : InR v1) (h2 : InR v2) (h3 : InR v3) (h4 : InR v4) (h5 : RfR v5) : Go Φ pr_P fN 1 (fW_spawn g v0 v1 v2 v3 v4 v5) d (pr_P 313) 0 (ev_loc (pr_P 313).1 [(sR v0), (sI v1), (sI v2), (sI v3), (sI v4), (sR v5)]) [] g 0 0 := by
  show Go Φ pr_P fN 1 (fW_spawn g v0 v1 v2 v3 v4 v5) d pr_m313 0 [some (sR v0), some (sI v1), some (sI v2), some (sI v3), some (sI v4), some (sR v5), none] [] g 0 0
  unfold fW_spawn
  refine go_aload kk313_0.1.1.1.1.1 rfl ?_
  refine go_int kk313_0.1.1.1.1.2 0 rfl ?_
  refine go_aload kk313_0.1.1.1.2 rfl ?_
  refine go_iload kk313_0.1.1.2.1.1 rfl ?_
  refine go_iload kk313_0.1.1.2.1.2 rfl ?_
  refine go_iload kk313_0.1.1.2.2 rfl ?_
  refine go_iload kk313_0.1.2.1.1.1 rfl ?_
  refine go_ck (fun q1 => ?_)
  refine go_callT1 kk313_0.1.2.1.1.2 rfl rfl rfl ⟨by decide, _, rfl, q1⟩ ⟨by decide, by decide⟩ (by omega) (tfC_spawn (by omega) hg q1  h1 h2 h3 h4) (fun y2 g4 r3 e5 => ?_) (fun E7 g4 e6 => ?_)
  · refine go_i2l kk313_0.1.2.1.2 r3 ?_
    refine go_ck (fun q8 => ?_)
    refine go_last kk313_0.1.2.2.1 e5 q8 (inL_R r3) (fun g9 e10 => ?_)
    refine go_goto kk313_0.1.2.2.2 ?_
    refine go_int kk313_0.2.2.2.1 0 rfl ?_
    exact go_iret kk313_0.2.2.2.2 e10 (inR_b (Or.inl rfl)) ⟨by decide, by decide⟩ rfl
  · refine ge_ite (fun hE9 => ?_) (fun _ => ?_)
    · subst hE9
      refine ge_catch rfl kk313_0.2.1.1.1.1 rfl (loc2 := [some (sR v0), some (sI v1), some (sI v2), some (sI v3), some (sI v4), some (sR v5), none]) rfl ?_
      refine go_int kk313_0.2.1.1.1.2 1 rfl ?_
      exact go_iret kk313_0.2.1.1.2 e6 (inR_b (Or.inr rfl)) ⟨by decide, by decide⟩ rfl
    refine ge_ite (fun hE9 => ?_) (fun _ => ?_)
    · subst hE9
      refine ge_catch rfl kk313_0.2.1.2.1.1 rfl (loc2 := [some (sR v0), some (sI v1), some (sI v2), some (sI v3), some (sI v4), some (sR v5), none]) rfl ?_
      refine go_int kk313_0.2.1.2.1.2 2 rfl ?_
      exact go_iret kk313_0.2.1.2.2 e6 (inR_of (by decide)) ⟨by decide, by decide⟩ rfl
    refine ge_ite (fun hE9 => ?_) (fun _ => ?_)
    · subst hE9
      refine ge_catch rfl kk313_0.2.2.1.1.1 rfl (loc2 := [some (sR v0), some (sI v1), some (sI v2), some (sI v3), some (sI v4), some (sR v5), none]) rfl ?_
      refine go_int kk313_0.2.2.1.1.2 3 rfl ?_
      exact go_iret kk313_0.2.2.1.2 e6 (inR_of (by decide)) ⟨by decide, by decide⟩ rfl
    exact ge_none
theorem tfP_isMortal {Φ : ev_P} {d : Nat} (hd : 0 ≤ d) {g : gH} (hg : HR g) {v0 : Int} (hK0 : kd v0 = 3) : Go Φ pr_P (fP g) 3 (fP_isMortal g v0) d (pr_P 236) 0 (ev_loc (pr_P 236).1 [(sR v0)]) [] g 0 0 := by
  show Go Φ pr_P (fP g) 3 (fP_isMortal g v0) d pr_m236 0 [some (sR v0)] [] g 0 0
  unfold fP_isMortal
  refine go_aload kk236_0.1.1.1.1 rfl ?_
  refine go_getI (bI := 1) kk236_0.1.1.1.2 hg hK0 (by decide) rfl rfl (fun r1 => ?_)
  refine go_ifeq kk236_0.1.1.2 r1 (fun c2 => ?_) (fun c3 => ?_)
  · refine go_aload kk236_0.1.2.1 rfl ?_
    refine go_getR (bI := 2) kk236_0.1.2.2 hg hK0 (by decide) rfl rfl (fun r4 => ?_)
    refine go_isnull kk236_0.2.1.1.1  (fun c5 => ?_) (fun c6 => ?_)
    · refine go_int kk236_0.2.2.1 0 rfl ?_
      exact go_bret kk236_0.2.2.2 hg (Or.inl rfl) ⟨Nat.zero_le _, Nat.zero_le _⟩ rfl
    · refine go_int kk236_0.2.1.1.2 1 rfl ?_
      refine go_goto kk236_0.2.1.2 ?_
      exact go_bret kk236_0.2.2.2 hg (Or.inr rfl) ⟨Nat.zero_le _, Nat.zero_le _⟩ rfl
  · refine go_int kk236_0.2.2.1 0 rfl ?_
    exact go_bret kk236_0.2.2.2 hg (Or.inl rfl) ⟨Nat.zero_le _, Nat.zero_le _⟩ rfl
theorem tfC_namedForExit {Φ : ev_P} {d : Nat} (hd : 2 ≤ d) {g : gH} (hg : HR g) {v0 v1 v2 : Int} (hK0 : kd v0 = 6) (h1 : InR v1) (h2 : InR v2) : Go Φ pr_P (fQ g) 2 (fC_namedForExit g v0 v1 v2) d (pr_P 69) 0 (ev_loc (pr_P 69).1 [(sR v0), (sI v1), (sI v2)]) [] g 0 0 := by
  show Go Φ pr_P (fQ g) 2 (fC_namedForExit g v0 v1 v2) d pr_m69 0 [some (sR v0), some (sI v1), some (sI v2), none] [] g 0 0
  unfold fC_namedForExit
  refine go_aload kk69_0.1.1.1.1 rfl ?_
  refine go_iload kk69_0.1.1.1.2 rfl ?_
  refine go_callQ2 kk69_0.1.1.2 rfl rfl rfl ⟨by decide, _, rfl, hK0⟩ ⟨by decide, by decide⟩ (by omega) (tfC_named (by omega) hg hK0  h1) (fun y1 r2 => ?_) (fun e5 E6 => ge_prop rfl ⟨by decide, by decide⟩ e5 rfl)
  refine go_astore kk69_0.1.2.1.1 rfl (loc2 := [some (sR v0), some (sI v1), some (sI v2), some (sR y1)]) rfl ?_
  refine go_iload kk69_0.1.2.1.2 rfl ?_
  refine go_int kk69_0.1.2.2 255 rfl ?_
  refine go_callQ0 kk69_0.2.1.1.1 rfl rfl rfl trivial ⟨by decide, by decide⟩ (by omega) (tfC_checkRange (by omega) hg  h2 (inR_of (by decide))) (fun y7 => ?_) (fun e11 E12 => ge_prop rfl ⟨by decide, by decide⟩ e11 rfl)
  refine go_aload kk69_0.2.1.1.2 rfl ?_
  refine go_ck (fun q13 => ?_)
  refine go_callP3 kk69_0.2.1.2 rfl rfl rfl ⟨by decide, _, rfl, q13⟩ ⟨by decide, by decide⟩ (by omega) (tfP_isMortal (by omega) hg q13 ) (fun y14 r15 => ?_)
  refine go_callQ0 kk69_0.2.2.1.1 rfl rfl rfl trivial ⟨by decide, by decide⟩ (by omega) (tfC_checkState (by omega) hg  r15) (fun y18 => ?_) (fun e22 E23 => ge_prop rfl ⟨by decide, by decide⟩ e22 rfl)
  refine go_aload kk69_0.2.2.1.2 rfl ?_
  exact go_aret kk69_0.2.2.2 hg r2 ⟨by decide, by decide⟩ rfl
theorem tfT_replace {Φ : ev_P} {d : Nat} (hd : 2 ≤ d) {g : gH} (hg : HR g) {v0 v1 v2 : Int} (hK0 : kd v0 = 5) (h1 : RfR v1) (h2 : RfR v2) : Go Φ pr_P fN 2 (fT_replace g v0 v1 v2) d (pr_P 288) 0 (ev_loc (pr_P 288).1 [(sR v0), (sR v1), (sR v2)]) [] g 0 0 := by
  show Go Φ pr_P fN 2 (fT_replace g v0 v1 v2) d pr_m288 0 [some (sR v0), some (sR v1), some (sR v2), none] [] g 0 0
  unfold fT_replace
  refine go_aload kk288_0.1.1.1.1.1.1 rfl ?_
  refine go_ck (fun q1 => ?_)
  refine go_getB (bI := 13) kk288_0.1.1.1.1.1.2 hg q1 (by decide) rfl rfl (fun r2 => ?_)
  refine go_ifeq kk288_0.1.1.1.1.2 (inR_b r2) (fun c3 => ?_) (fun c4 => ?_)
  · refine go_aload kk288_0.1.1.1.2.1 rfl ?_
    refine go_getI (bI := 6) kk288_0.1.1.1.2.2 hg q1 (by decide) rfl rfl (fun r5 => ?_)
    refine go_ifgt kk288_0.1.1.2.1.1.1 r5 (fun c6 => ?_) (fun c7 => ?_)
    · refine go_aload kk288_0.1.1.2.2.1 rfl ?_
      refine go_aload kk288_0.1.1.2.2.2 rfl ?_
      refine go_aload kk288_0.1.2.1.1.1.1 rfl ?_
      refine go_ck (fun q8 => ?_)
      refine go_getI (bI := 4) kk288_0.1.2.1.1.1.2 hg q8 (by decide) rfl rfl (fun r9 => ?_)
      refine go_aload kk288_0.1.2.1.1.2 rfl ?_
      refine go_getI (bI := 5) kk288_0.1.2.1.2.1 hg q8 (by decide) rfl rfl (fun r10 => ?_)
      refine go_aload kk288_0.1.2.1.2.2 rfl ?_
      refine go_getI (bI := 6) kk288_0.1.2.2.1.1 hg q8 (by decide) rfl rfl (fun r11 => ?_)
      refine go_callN2 kk288_0.1.2.2.1.2 rfl rfl rfl ⟨by decide, _, rfl, hK0⟩ ⟨Nat.zero_le _, Nat.zero_le _⟩ (by omega) (tfT_arrive (by omega) hg hK0  h2 r9 r10 r11) (fun y12 g14 r13 e15 => ?_)
      refine go_astore kk288_0.1.2.2.2.1 rfl (loc2 := [some (sR v0), some (sR v1), some (sR v2), some (sR y12)]) rfl ?_
      refine go_aload kk288_0.1.2.2.2.2 rfl ?_
      refine go_isnull kk288_0.2.1.1.1.1.1  (fun c16 => ?_) (fun c17 => ?_)
      · refine go_aload kk288_0.2.2.2.2.1 rfl ?_
        exact go_aret kk288_0.2.2.2.2.2 e15 r13 ⟨Nat.zero_le _, Nat.zero_le _⟩ rfl
      · refine go_aload kk288_0.2.1.1.1.1.2 rfl ?_
        refine go_dupR kk288_0.2.1.1.1.2 ?_
        refine go_getI (bI := 6) kk288_0.2.1.1.2.1 e15 q1 (by decide) rfl rfl (fun r18 => ?_)
        refine go_int kk288_0.2.1.1.2.2 1 rfl ?_
        refine go_isub kk288_0.2.1.2.1.1.1 ?_
        refine go_putI (bI := 6) kk288_0.2.1.2.1.1.2 e15 q1 (by decide) rfl rfl (inR_w32 _) (fun g19 e20 => ?_)
        refine go_aload kk288_0.2.1.2.1.2 rfl ?_
        refine go_aload kk288_0.2.1.2.2.1 rfl ?_
        refine go_ck (fun q21 => ?_)
        refine go_getI (bI := 0) kk288_0.2.1.2.2.2 e20 q21 (by decide) rfl rfl (fun r22 => ?_)
        refine go_putI (bI := 12) kk288_0.2.2.1.1.1.1 e20 q8 (by decide) rfl rfl r22 (fun g23 e24 => ?_)
        refine go_aload kk288_0.2.2.1.1.1.2 rfl ?_
        refine go_dupR kk288_0.2.2.1.1.2 ?_
        refine go_getI (bI := 9) kk288_0.2.2.1.2.1 e24 hK0 (by decide) rfl rfl (fun r25 => ?_)
        refine go_int kk288_0.2.2.1.2.2 1 rfl ?_
        refine go_iadd kk288_0.2.2.2.1.1 ?_
        refine go_putI (bI := 9) kk288_0.2.2.2.1.2 e24 hK0 (by decide) rfl rfl (inR_w32 _) (fun g26 e27 => ?_)
        refine go_aload kk288_0.2.2.2.2.1 rfl ?_
        exact go_aret kk288_0.2.2.2.2.2 e27 r13 ⟨Nat.zero_le _, Nat.zero_le _⟩ rfl
    · refine go_null kk288_0.1.1.2.1.1.2 ?_
      exact go_aret kk288_0.1.1.2.1.2 hg rfR_null ⟨Nat.zero_le _, Nat.zero_le _⟩ rfl
  · refine go_null kk288_0.1.1.2.1.1.2 ?_
    exact go_aret kk288_0.1.1.2.1.2 hg rfR_null ⟨Nat.zero_le _, Nat.zero_le _⟩ rfl
theorem tfP_canInherit {Φ : ev_P} {d : Nat} (hd : 0 ≤ d) {g : gH} (hg : HR g) {v0 : Int} (hK0 : kd v0 = 3) : Go Φ pr_P (fP g) 3 (fP_canInherit g v0) d (pr_P 240) 0 (ev_loc (pr_P 240).1 [(sR v0)]) [] g 0 0 := by
  show Go Φ pr_P (fP g) 3 (fP_canInherit g v0) d pr_m240 0 [some (sR v0)] [] g 0 0
  unfold fP_canInherit
  refine go_aload kk240_0.1.1.1.1 rfl ?_
  refine go_getI (bI := 1) kk240_0.1.1.1.2 hg hK0 (by decide) rfl rfl (fun r1 => ?_)
  refine go_ifeq kk240_0.1.1.2 r1 (fun c2 => ?_) (fun c3 => ?_)
  · refine go_aload kk240_0.1.2.1 rfl ?_
    refine go_getB (bI := 13) kk240_0.1.2.2 hg hK0 (by decide) rfl rfl (fun r4 => ?_)
    refine go_ifeq kk240_0.2.1.1.1 (inR_b r4) (fun c5 => ?_) (fun c6 => ?_)
    · refine go_int kk240_0.2.1.1.2 1 rfl ?_
      refine go_goto kk240_0.2.1.2 ?_
      exact go_bret kk240_0.2.2.2 hg (Or.inr rfl) ⟨Nat.zero_le _, Nat.zero_le _⟩ rfl
    · refine go_int kk240_0.2.2.1 0 rfl ?_
      exact go_bret kk240_0.2.2.2 hg (Or.inl rfl) ⟨Nat.zero_le _, Nat.zero_le _⟩ rfl
  · refine go_int kk240_0.2.2.1 0 rfl ?_
    exact go_bret kk240_0.2.2.2 hg (Or.inl rfl) ⟨Nat.zero_le _, Nat.zero_le _⟩ rfl
theorem tjT_heirOf_73 {Φ : ev_P} {d : Nat} (hd : 1 ≤ d) {g : gH} (hg : HR g) {v0 v1 : Int} (hK0 : kd v0 = 5) (h1 : RfR v1) (u2 : Option ev_V) (w2 : nwo u2) (u3 : Option ev_V) (w3 : nwo u3) (u4 : Option ev_V) (w4 : nwo u4) (u5 : Option ev_V) (w5 : nwo u5) (u6 : Option ev_V) (w6 : nwo u6) : Go Φ pr_P (fP g) 2 (jT_heirOf_73 g v0 v1 ) d pr_m291 73 [some (sR v0), some (sR v1), u2, u3, u4, u5, u6] [] g 0 0 := by
  unfold jT_heirOf_73
  refine go_aload kk291_0.2.2.1.1.2 rfl ?_
  refine go_ck (fun q39 => ?_)
  refine go_getR (bI := 2) kk291_0.2.2.1.2.1.1 hg q39 (by decide) rfl rfl (fun r40 => ?_)
  refine go_isnull kk291_0.2.2.1.2.1.2  (fun c41 => ?_) (fun c42 => ?_)
  · refine go_aload kk291_0.2.2.1.2.2 rfl ?_
    refine go_getR (bI := 0) kk291_0.2.2.2.1.1.1 hg hK0 (by decide) rfl rfl (fun r43 => ?_)
    refine go_goto kk291_0.2.2.2.1.1.2 ?_
    exact go_aret kk291_0.2.2.2.2.2 hg r43 ⟨Nat.zero_le _, Nat.zero_le _⟩ rfl
  · refine go_aload kk291_0.2.2.2.1.2 rfl ?_
    refine go_getR (bI := 2) kk291_0.2.2.2.2.1 hg q39 (by decide) rfl rfl (fun r44 => ?_)
    exact go_aret kk291_0.2.2.2.2.2 hg r44 ⟨Nat.zero_le _, Nat.zero_le _⟩ rfl
theorem tbT_heirOf_34 {Φ : ev_P} {d : Nat} (hd : 1 ≤ d) {g : gH} (hg : HR g) {v0 v1 v3 v4 : Int} (hK0 : kd v0 = 5) (h1 : RfR v1) (h3 : RfR v3) (h4 : InR v4) {X34 : Int → Option Int} (HX34 : ∀ (v5 : Int) (h5 : InR v5) (u2 : Option ev_V) (w2 : nwo u2) (u6 : Option ev_V) (w6 : nwo u6), Go Φ pr_P (fP g) 2 (X34 v5) d pr_m291 34 [some (sR v0), some (sR v1), u2, some (sR v3), some (sI v4), some (sI v5), u6] [] g 0 0) : ∀ (v5 : Int) (h5 : InR v5) (u2 : Option ev_V) (w2 : nwo u2) (u6 : Option ev_V) (w6 : nwo u6), Go Φ pr_P (fP g) 2 (bT_heirOf_34 g v0 v1 v3 v4 X34 v5) d pr_m291 34 [some (sR v0), some (sR v1), u2, some (sR v3), some (sI v4), some (sI v5), u6] [] g 0 0 := by
  intro v5 h5 u2 w2 u6 w6
  unfold bT_heirOf_34
  refine go_iload kk291_0.1.2.2.1.2 rfl ?_
  refine go_iload kk291_0.1.2.2.2.1.1 rfl ?_
  refine go_cmlt kk291_0.1.2.2.2.1.2 h5 h4 (fun c22 => ?_) (fun c23 => ?_)
  · refine go_aload kk291_0.1.2.2.2.2 rfl ?_
    refine go_iload kk291_0.2.1.1.1.1.1 rfl ?_
    refine go_ck (fun q25 => ?_)
    refine go_pald kk291_0.2.1.1.1.1.2 hg q25 (fun r24 => ?_)
    refine go_astore kk291_0.2.1.1.1.2 rfl (loc2 := [some (sR v0), some (sR v1), u2, some (sR v3), some (sI v4), some (sI v5), some (sR (g v3 v5))]) rfl ?_
    refine go_aload kk291_0.2.1.1.2.1.1 rfl ?_
    refine go_aload kk291_0.2.1.1.2.1.2 rfl ?_
    refine go_ck (fun q26 => ?_)
    refine go_callP3 kk291_0.2.1.1.2.2 rfl rfl rfl ⟨by decide, _, rfl, q26⟩ ⟨Nat.zero_le _, Nat.zero_le _⟩ (by omega) (tfP_isRunningChildOf (by omega) hg q26  h1) (fun y27 r28 => ?_)
    refine go_ifeq kk291_0.2.1.2.1.1.1 (inR_b r28) (fun c31 => ?_) (fun c32 => ?_)
    · refine go_iinc kk291_0.2.2.1.1.1.1 rfl rfl 1 rfl (loc2 := [some (sR v0), some (sR v1), u2, some (sR v3), some (sI v4), some (sI (w32 (v5 + 1))), some (sR (g v3 v5))]) rfl ?_
      refine go_goto kk291_0.2.2.1.1.1.2 ?_
      exact HX34 (w32 (v5 + 1)) (inR_w32 _) u2 w2 (some (sR (g v3 v5))) rfl
    · refine go_aload kk291_0.2.1.2.1.1.2 rfl ?_
      refine go_callP3 kk291_0.2.1.2.1.2 rfl rfl rfl ⟨by decide, _, rfl, q26⟩ ⟨Nat.zero_le _, Nat.zero_le _⟩ (by omega) (tfP_canInherit (by omega) hg q26 ) (fun y33 r34 => ?_)
      refine go_ifeq kk291_0.2.1.2.2.1.1 (inR_b r34) (fun c37 => ?_) (fun c38 => ?_)
      · refine go_iinc kk291_0.2.2.1.1.1.1 rfl rfl 1 rfl (loc2 := [some (sR v0), some (sR v1), u2, some (sR v3), some (sI v4), some (sI (w32 (v5 + 1))), some (sR (g v3 v5))]) rfl ?_
        refine go_goto kk291_0.2.2.1.1.1.2 ?_
        exact HX34 (w32 (v5 + 1)) (inR_w32 _) u2 w2 (some (sR (g v3 v5))) rfl
      · refine go_aload kk291_0.2.1.2.2.1.2 rfl ?_
        exact go_aret kk291_0.2.1.2.2.2 hg r24 ⟨Nat.zero_le _, Nat.zero_le _⟩ rfl
  · exact tjT_heirOf_73 hd hg hK0 h1 u2 w2 (some (sR v3)) rfl (some (sI v4)) rfl (some (sI v5)) rfl u6 w6
theorem tlT_heirOf_34 {Φ : ev_P} {d : Nat} (hd : 1 ≤ d) {g : gH} (hg : HR g) {v0 v1 v3 v4 : Int} (hK0 : kd v0 = 5) (h1 : RfR v1) (h3 : RfR v3) (h4 : InR v4) : ∀ n : Nat, ∀ (v5 : Int) (h5 : InR v5) (u2 : Option ev_V) (w2 : nwo u2) (u6 : Option ev_V) (w6 : nwo u6), Go Φ pr_P (fP g) 2 (lT_heirOf_34 g v0 v1 v3 v4 n v5) d pr_m291 34 [some (sR v0), some (sR v1), u2, some (sR v3), some (sI v4), some (sI v5), u6] [] g 0 0 := by
  intro n
  induction n with
  | zero => intros; exact go_none
  | succ n ih => exact tbT_heirOf_34 hd hg hK0 h1 h3 h4 ih
theorem tfT_heirOf {Φ : ev_P} {d : Nat} (hd : 1 ≤ d) {g : gH} (hg : HR g) {v0 v1 : Int} (hK0 : kd v0 = 5) (h1 : RfR v1) : Go Φ pr_P (fP g) 2 (fT_heirOf g v0 v1) d (pr_P 291) 0 (ev_loc (pr_P 291).1 [(sR v0), (sR v1)]) [] g 0 0 := by
  show Go Φ pr_P (fP g) 2 (fT_heirOf g v0 v1) d pr_m291 0 [some (sR v0), some (sR v1), none, none, none, none, none] [] g 0 0
  unfold fT_heirOf
  refine go_aload kk291_0.1.1.1.1.1.1 rfl ?_
  refine go_aload kk291_0.1.1.1.1.1.2 rfl ?_
  refine go_ck (fun q1 => ?_)
  refine go_getI (bI := 7) kk291_0.1.1.1.1.2 hg q1 (by decide) rfl rfl (fun r2 => ?_)
  refine go_callP2 kk291_0.1.1.1.2.1.1 rfl rfl rfl ⟨by decide, _, rfl, hK0⟩ ⟨Nat.zero_le _, Nat.zero_le _⟩ (by omega) (tfT_at (by omega) hg hK0  r2) (fun y3 r4 => ?_)
  refine go_astore kk291_0.1.1.1.2.1.2 rfl (loc2 := [some (sR v0), some (sR v1), some (sR y3), none, none, none, none]) rfl ?_
  refine go_aload kk291_0.1.1.1.2.2 rfl ?_
  refine go_isnull kk291_0.1.1.2.1.1.1  (fun c7 => ?_) (fun c8 => ?_)
  · refine go_aload kk291_0.1.2.1.1.1.1 rfl ?_
    refine go_getR (bI := 1) kk291_0.1.2.1.1.1.2 hg hK0 (by decide) rfl rfl (fun r9 => ?_)
    refine go_astore kk291_0.1.2.1.1.2 rfl (loc2 := [some (sR v0), some (sR v1), some (sR y3), some (sR (g v0 1)), none, none, none]) rfl ?_
    refine go_aload kk291_0.1.2.1.2.1.1 rfl ?_
    refine go_ck (fun q11 => ?_)
    refine go_alen kk291_0.1.2.1.2.1.2 (ka_24 q11) (fun r10 => ?_)
    refine go_istore kk291_0.1.2.1.2.2 rfl (loc2 := [some (sR v0), some (sR v1), some (sR y3), some (sR (g v0 1)), some (sI (sz (g v0 1))), none, none]) rfl ?_
    refine go_int kk291_0.1.2.2.1.1.1 0 rfl ?_
    refine go_istore kk291_0.1.2.2.1.1.2 rfl (loc2 := [some (sR v0), some (sR v1), some (sR y3), some (sR (g v0 1)), some (sI (sz (g v0 1))), some (sI 0), none]) rfl ?_
    exact tlT_heirOf_34 hd hg hK0 h1 r9 r10 fu 0 (inR_b (Or.inl rfl)) (some (sR y3)) rfl none rfl
  · refine go_aload kk291_0.1.1.2.1.1.2 rfl ?_
    refine go_ck (fun q12 => ?_)
    refine go_callP3 kk291_0.1.1.2.1.2 rfl rfl rfl ⟨by decide, _, rfl, q12⟩ ⟨Nat.zero_le _, Nat.zero_le _⟩ (by omega) (tfP_canInherit (by omega) hg q12 ) (fun y13 r14 => ?_)
    refine go_ifeq kk291_0.1.1.2.2.1.1 (inR_b r14) (fun c17 => ?_) (fun c18 => ?_)
    · refine go_aload kk291_0.1.2.1.1.1.1 rfl ?_
      refine go_getR (bI := 1) kk291_0.1.2.1.1.1.2 hg hK0 (by decide) rfl rfl (fun r19 => ?_)
      refine go_astore kk291_0.1.2.1.1.2 rfl (loc2 := [some (sR v0), some (sR v1), some (sR y3), some (sR (g v0 1)), none, none, none]) rfl ?_
      refine go_aload kk291_0.1.2.1.2.1.1 rfl ?_
      refine go_ck (fun q21 => ?_)
      refine go_alen kk291_0.1.2.1.2.1.2 (ka_24 q21) (fun r20 => ?_)
      refine go_istore kk291_0.1.2.1.2.2 rfl (loc2 := [some (sR v0), some (sR v1), some (sR y3), some (sR (g v0 1)), some (sI (sz (g v0 1))), none, none]) rfl ?_
      refine go_int kk291_0.1.2.2.1.1.1 0 rfl ?_
      refine go_istore kk291_0.1.2.2.1.1.2 rfl (loc2 := [some (sR v0), some (sR v1), some (sR y3), some (sR (g v0 1)), some (sI (sz (g v0 1))), some (sI 0), none]) rfl ?_
      exact tlT_heirOf_34 hd hg hK0 h1 r19 r20 fu 0 (inR_b (Or.inl rfl)) (some (sR y3)) rfl none rfl
    · refine go_aload kk291_0.1.1.2.2.1.2 rfl ?_
      exact go_aret kk291_0.1.1.2.2.2 hg r4 ⟨Nat.zero_le _, Nat.zero_le _⟩ rfl
theorem tfT_inheritorOf {Φ : ev_P} {d : Nat} (hd : 2 ≤ d) {g : gH} (hg : HR g) {v0 v1 v2 : Int} (hK0 : kd v0 = 5) (h1 : RfR v1) (h2 : InR v2) : Go Φ pr_P (fP g) 2 (fT_inheritorOf g v0 v1 v2) d (pr_P 290) 0 (ev_loc (pr_P 290).1 [(sR v0), (sR v1), (sI v2)]) [] g 0 0 := by
  show Go Φ pr_P (fP g) 2 (fT_inheritorOf g v0 v1 v2) d pr_m290 0 [some (sR v0), some (sR v1), some (sI v2), none] [] g 0 0
  unfold fT_inheritorOf
  refine go_aload kk290_0.1.1.1.1.1 rfl ?_
  refine go_aload kk290_0.1.1.1.1.2 rfl ?_
  refine go_iload kk290_0.1.1.1.2 rfl ?_
  refine go_ck (fun q1 => ?_)
  refine go_callP1 kk290_0.1.1.2.1 rfl rfl rfl ⟨by decide, _, rfl, q1⟩ ⟨Nat.zero_le _, Nat.zero_le _⟩ (by omega) (tfP_willFor (by omega) hg q1  h2) (fun y2 r3 => ?_)
  refine go_callP2 kk290_0.1.1.2.2 rfl rfl rfl ⟨by decide, _, rfl, hK0⟩ ⟨Nat.zero_le _, Nat.zero_le _⟩ (by omega) (tfT_at (by omega) hg hK0  r3) (fun y6 r7 => ?_)
  refine go_astore kk290_0.1.2.1.1 rfl (loc2 := [some (sR v0), some (sR v1), some (sI v2), some (sR y6)]) rfl ?_
  refine go_aload kk290_0.1.2.1.2 rfl ?_
  refine go_isnull kk290_0.1.2.2.1  (fun c10 => ?_) (fun c11 => ?_)
  · refine go_aload kk290_0.2.2.1.1 rfl ?_
    refine go_aload kk290_0.2.2.1.2 rfl ?_
    refine go_callP2 kk290_0.2.2.2.1 rfl rfl rfl ⟨by decide, _, rfl, hK0⟩ ⟨Nat.zero_le _, Nat.zero_le _⟩ (by omega) (tfT_heirOf (by omega) hg hK0  h1) (fun y12 r13 => ?_)
    exact go_aret kk290_0.2.2.2.2 hg r13 ⟨Nat.zero_le _, Nat.zero_le _⟩ rfl
  · refine go_aload kk290_0.1.2.2.2 rfl ?_
    refine go_ck (fun q16 => ?_)
    refine go_callP3 kk290_0.2.1.1.1 rfl rfl rfl ⟨by decide, _, rfl, q16⟩ ⟨Nat.zero_le _, Nat.zero_le _⟩ (by omega) (tfP_canInherit (by omega) hg q16 ) (fun y17 r18 => ?_)
    refine go_ifeq kk290_0.2.1.1.2 (inR_b r18) (fun c21 => ?_) (fun c22 => ?_)
    · refine go_aload kk290_0.2.2.1.1 rfl ?_
      refine go_aload kk290_0.2.2.1.2 rfl ?_
      refine go_callP2 kk290_0.2.2.2.1 rfl rfl rfl ⟨by decide, _, rfl, hK0⟩ ⟨Nat.zero_le _, Nat.zero_le _⟩ (by omega) (tfT_heirOf (by omega) hg hK0  h1) (fun y23 r24 => ?_)
      exact go_aret kk290_0.2.2.2.2 hg r24 ⟨Nat.zero_le _, Nat.zero_le _⟩ rfl
    · refine go_aload kk290_0.2.1.2.1 rfl ?_
      refine go_goto kk290_0.2.1.2.2 ?_
      exact go_aret kk290_0.2.2.2.2 hg r7 ⟨Nat.zero_le _, Nat.zero_le _⟩ rfl
theorem tbT_passDuties_2 {Φ : ev_P} {d : Nat} (hd : 3 ≤ d) {v0 v1 v2 : Int} (hK0 : kd v0 = 5) (h1 : RfR v1) (h2 : RfR v2) {X2 : Int → gH → Option (Int × gH)} (HX2 : ∀ (v3 : Int) (h3 : InR v3) (g : gH) (hg : HR g) (u4 : Option ev_V) (w4 : nwo u4), Go Φ pr_P fN 0 (X2 v3 g) d pr_m289 2 [some (sR v0), some (sR v1), some (sR v2), some (sI v3), u4] [] g 0 0) : ∀ (v3 : Int) (h3 : InR v3) (g : gH) (hg : HR g) (u4 : Option ev_V) (w4 : nwo u4), Go Φ pr_P fN 0 (bT_passDuties_2 v0 v1 v2 X2 v3 g) d pr_m289 2 [some (sR v0), some (sR v1), some (sR v2), some (sI v3), u4] [] g 0 0 := by
  intro v3 h3 g hg u4 w4
  unfold bT_passDuties_2
  refine go_iload kk289_0.1.1.1.2.1 rfl ?_
  refine go_int kk289_0.1.1.1.2.2 8 rfl ?_
  refine go_cmlt kk289_0.1.1.2.1.1 h3 (inR_of (by decide)) (fun c1 => ?_) (fun c2 => ?_)
  · refine go_aload kk289_0.1.1.2.1.2 rfl ?_
    refine go_getR (bI := 2) kk289_0.1.1.2.2.1 hg hK0 (by decide) rfl rfl (fun r3 => ?_)
    refine go_iload kk289_0.1.1.2.2.2 rfl ?_
    refine go_ck (fun q5 => ?_)
    refine go_iald kk289_0.1.2.1.1.1 hg q5 (fun r4 => ?_)
    refine go_aload kk289_0.1.2.1.1.2 rfl ?_
    refine go_ck (fun q6 => ?_)
    refine go_getI (bI := 0) kk289_0.1.2.1.2.1 hg q6 (by decide) rfl rfl (fun r7 => ?_)
    refine go_cmeq kk289_0.1.2.1.2.2 r4 r7 (fun c8 => ?_) (fun c9 => ?_)
    · refine go_aload kk289_0.1.2.2.1.1 rfl ?_
      refine go_isnull kk289_0.1.2.2.1.2  (fun c10 => ?_) (fun c11 => ?_)
      · refine go_aload kk289_0.2.1.1.1.2 rfl ?_
        refine go_aload kk289_0.2.1.1.2.1 rfl ?_
        refine go_iload kk289_0.2.1.1.2.2 rfl ?_
        refine go_callP2 kk289_0.2.1.2.1.1 rfl rfl rfl ⟨by decide, _, rfl, hK0⟩ ⟨Nat.zero_le _, Nat.zero_le _⟩ (by omega) (tfT_inheritorOf (by omega) hg hK0  h1 h3) (fun y12 r13 => ?_)
        refine go_astore kk289_0.2.1.2.1.2 rfl (loc2 := [some (sR v0), some (sR v1), some (sR v2), some (sI v3), some (sR y12)]) rfl ?_
        refine go_aload kk289_0.2.1.2.2.1 rfl ?_
        refine go_getR (bI := 2) kk289_0.2.1.2.2.2 hg hK0 (by decide) rfl rfl (fun r16 => ?_)
        refine go_iload kk289_0.2.2.1.1.1 rfl ?_
        refine go_aload kk289_0.2.2.1.1.2 rfl ?_
        refine go_ck (fun q17 => ?_)
        refine go_getI (bI := 0) kk289_0.2.2.1.2.1 hg q17 (by decide) rfl rfl (fun r18 => ?_)
        refine go_ck (fun q19 => ?_)
        refine go_iast kk289_0.2.2.1.2.2 hg q19 r18 (fun g20 e21 => ?_)
        refine go_iinc kk289_0.2.2.2.1.1 rfl rfl 1 rfl (loc2 := [some (sR v0), some (sR v1), some (sR v2), some (sI (w32 (v3 + 1))), some (sR y12)]) rfl ?_
        refine go_goto kk289_0.2.2.2.1.2 ?_
        exact HX2 (w32 (v3 + 1)) (inR_w32 _) g20 e21 (some (sR y12)) rfl
      · refine go_aload kk289_0.1.2.2.2 rfl ?_
        refine go_goto kk289_0.2.1.1.1.1 ?_
        refine go_astore kk289_0.2.1.2.1.2 rfl (loc2 := [some (sR v0), some (sR v1), some (sR v2), some (sI v3), some (sR v2)]) rfl ?_
        refine go_aload kk289_0.2.1.2.2.1 rfl ?_
        refine go_getR (bI := 2) kk289_0.2.1.2.2.2 hg hK0 (by decide) rfl rfl (fun r22 => ?_)
        refine go_iload kk289_0.2.2.1.1.1 rfl ?_
        refine go_aload kk289_0.2.2.1.1.2 rfl ?_
        refine go_ck (fun q23 => ?_)
        refine go_getI (bI := 0) kk289_0.2.2.1.2.1 hg q23 (by decide) rfl rfl (fun r24 => ?_)
        refine go_ck (fun q25 => ?_)
        refine go_iast kk289_0.2.2.1.2.2 hg q25 r24 (fun g26 e27 => ?_)
        refine go_iinc kk289_0.2.2.2.1.1 rfl rfl 1 rfl (loc2 := [some (sR v0), some (sR v1), some (sR v2), some (sI (w32 (v3 + 1))), some (sR v2)]) rfl ?_
        refine go_goto kk289_0.2.2.2.1.2 ?_
        exact HX2 (w32 (v3 + 1)) (inR_w32 _) g26 e27 (some (sR v2)) rfl
    · refine go_iinc kk289_0.2.2.2.1.1 rfl rfl 1 rfl (loc2 := [some (sR v0), some (sR v1), some (sR v2), some (sI (w32 (v3 + 1))), u4]) rfl ?_
      refine go_goto kk289_0.2.2.2.1.2 ?_
      exact HX2 (w32 (v3 + 1)) (inR_w32 _) g hg u4 w4
  · exact go_vret kk289_0.2.2.2.2 hg ⟨Nat.zero_le _, Nat.zero_le _⟩ rfl
theorem tlT_passDuties_2 {Φ : ev_P} {d : Nat} (hd : 3 ≤ d) {v0 v1 v2 : Int} (hK0 : kd v0 = 5) (h1 : RfR v1) (h2 : RfR v2) : ∀ n : Nat, ∀ (v3 : Int) (h3 : InR v3) (g : gH) (hg : HR g) (u4 : Option ev_V) (w4 : nwo u4), Go Φ pr_P fN 0 (lT_passDuties_2 v0 v1 v2 n v3 g) d pr_m289 2 [some (sR v0), some (sR v1), some (sR v2), some (sI v3), u4] [] g 0 0 := by
  intro n
  induction n with
  | zero => intros; exact go_none
  | succ n ih => exact tbT_passDuties_2 hd hK0 h1 h2 ih
theorem tfT_passDuties {Φ : ev_P} {d : Nat} (hd : 3 ≤ d) {g : gH} (hg : HR g) {v0 v1 v2 : Int} (hK0 : kd v0 = 5) (h1 : RfR v1) (h2 : RfR v2) : Go Φ pr_P fN 0 (fT_passDuties g v0 v1 v2) d (pr_P 289) 0 (ev_loc (pr_P 289).1 [(sR v0), (sR v1), (sR v2)]) [] g 0 0 := by
  show Go Φ pr_P fN 0 (fT_passDuties g v0 v1 v2) d pr_m289 0 [some (sR v0), some (sR v1), some (sR v2), none, none] [] g 0 0
  unfold fT_passDuties
  refine go_int kk289_0.1.1.1.1.1 0 rfl ?_
  refine go_istore kk289_0.1.1.1.1.2 rfl (loc2 := [some (sR v0), some (sR v1), some (sR v2), some (sI 0), none]) rfl ?_
  exact tlT_passDuties_2 hd hK0 h1 h2 fu 0 (inR_b (Or.inl rfl)) g hg none rfl
theorem tfT_adopt {Φ : ev_P} {d : Nat} (hd : 1 ≤ d) {g : gH} (hg : HR g) {v0 v1 v2 : Int} (hK0 : kd v0 = 5) (h1 : RfR v1) (h2 : RfR v2) : Go Φ pr_P fN 0 (fT_adopt g v0 v1 v2) d (pr_P 292) 0 (ev_loc (pr_P 292).1 [(sR v0), (sR v1), (sR v2)]) [] g 0 0 := by
  show Go Φ pr_P fN 0 (fT_adopt g v0 v1 v2) d pr_m292 0 [some (sR v0), some (sR v1), some (sR v2)] [] g 0 0
  unfold fT_adopt
  refine go_aload kk292_0.1.1.1.1.1 rfl ?_
  refine go_aload kk292_0.1.1.1.1.2 rfl ?_
  refine go_ck (fun q1 => ?_)
  refine go_callN0 kk292_0.1.1.1.2.1 rfl rfl rfl ⟨by decide, _, rfl, q1⟩ ⟨Nat.zero_le _, Nat.zero_le _⟩ (by omega) (tfP_putUnder (by omega) hg q1  h2) (fun y2 g4 e5 => ?_)
  refine go_aload kk292_0.1.1.1.2.2 rfl ?_
  refine go_dupR kk292_0.1.1.2.1.1 ?_
  refine go_getI (bI := 11) kk292_0.1.1.2.1.2 e5 q1 (by decide) rfl rfl (fun r6 => ?_)
  refine go_int kk292_0.1.1.2.2 1 rfl ?_
  refine go_iadd kk292_0.1.2.1.1.1 ?_
  refine go_putI (bI := 11) kk292_0.1.2.1.1.2 e5 q1 (by decide) rfl rfl (inR_w32 _) (fun g7 e8 => ?_)
  refine go_aload kk292_0.1.2.1.2 rfl ?_
  refine go_dupR kk292_0.1.2.2.1.1 ?_
  refine go_getI (bI := 7) kk292_0.1.2.2.1.2 e8 hK0 (by decide) rfl rfl (fun r9 => ?_)
  refine go_int kk292_0.1.2.2.2 1 rfl ?_
  refine go_iadd kk292_0.2.1.1.1.1 ?_
  refine go_putI (bI := 7) kk292_0.2.1.1.1.2 e8 hK0 (by decide) rfl rfl (inR_w32 _) (fun g10 e11 => ?_)
  refine go_aload kk292_0.2.1.1.2.1 rfl ?_
  refine go_aload kk292_0.2.1.1.2.2 rfl ?_
  refine go_getR (bI := 0) kk292_0.2.1.2.1.1 e11 hK0 (by decide) rfl rfl (fun r12 => ?_)
  refine go_acmp kk292_0.2.1.2.1.2 h2 r12 (fun c13 => ?_) (fun c14 => ?_)
  · refine go_aload kk292_0.2.1.2.2 rfl ?_
    refine go_dupR kk292_0.2.2.1.1.1 ?_
    refine go_getI (bI := 8) kk292_0.2.2.1.1.2 e11 hK0 (by decide) rfl rfl (fun r15 => ?_)
    refine go_int kk292_0.2.2.1.2 1 rfl ?_
    refine go_iadd kk292_0.2.2.2.1.1 ?_
    refine go_putI (bI := 8) kk292_0.2.2.2.1.2 e11 hK0 (by decide) rfl rfl (inR_w32 _) (fun g16 e17 => ?_)
    exact go_vret kk292_0.2.2.2.2 e17 ⟨Nat.zero_le _, Nat.zero_le _⟩ rfl
  · exact go_vret kk292_0.2.2.2.2 e11 ⟨Nat.zero_le _, Nat.zero_le _⟩ rfl
theorem tfT_canAdopt {Φ : ev_P} {d : Nat} (hd : 1 ≤ d) {g : gH} (hg : HR g) {v0 v1 v2 : Int} (hK0 : kd v0 = 5) (h1 : RfR v1) (h2 : RfR v2) : Go Φ pr_P (fP g) 3 (fT_canAdopt g v0 v1 v2) d (pr_P 298) 0 (ev_loc (pr_P 298).1 [(sR v0), (sR v1), (sR v2)]) [] g 0 0 := by
  show Go Φ pr_P (fP g) 3 (fT_canAdopt g v0 v1 v2) d pr_m298 0 [some (sR v0), some (sR v1), some (sR v2)] [] g 0 0
  unfold fT_canAdopt
  refine go_aload kk298_0.1.1.1.1.1 rfl ?_
  refine go_ck (fun q1 => ?_)
  refine go_callP3 kk298_0.1.1.1.1.2 rfl rfl rfl ⟨by decide, _, rfl, q1⟩ ⟨Nat.zero_le _, Nat.zero_le _⟩ (by omega) (tfP_isMortal (by omega) hg q1 ) (fun y2 r3 => ?_)
  refine go_ifeq kk298_0.1.1.1.2.1 (inR_b r3) (fun c6 => ?_) (fun c7 => ?_)
  · refine go_int kk298_0.2.1.1.1.2 0 rfl ?_
    exact go_bret kk298_0.2.1.1.2.1 hg (Or.inl rfl) ⟨Nat.zero_le _, Nat.zero_le _⟩ rfl
  · refine go_aload kk298_0.1.1.1.2.2 rfl ?_
    refine go_getB (bI := 13) kk298_0.1.1.2.1.1 hg q1 (by decide) rfl rfl (fun r8 => ?_)
    refine go_ifeq kk298_0.1.1.2.1.2 (inR_b r8) (fun c9 => ?_) (fun c10 => ?_)
    · refine go_aload kk298_0.1.1.2.2.1 rfl ?_
      refine go_aload kk298_0.1.1.2.2.2 rfl ?_
      refine go_acmp kk298_0.1.2.1.1.1 h1 h2 (fun c11 => ?_) (fun c12 => ?_)
      · refine go_int kk298_0.2.1.1.1.2 0 rfl ?_
        exact go_bret kk298_0.2.1.1.2.1 hg (Or.inl rfl) ⟨Nat.zero_le _, Nat.zero_le _⟩ rfl
      · refine go_aload kk298_0.1.2.1.1.2 rfl ?_
        refine go_aload kk298_0.1.2.1.2.1 rfl ?_
        refine go_ck (fun q13 => ?_)
        refine go_getI (bI := 5) kk298_0.1.2.1.2.2 hg q13 (by decide) rfl rfl (fun r14 => ?_)
        refine go_callP3 kk298_0.1.2.2.1.1 rfl rfl rfl ⟨by decide, _, rfl, q1⟩ ⟨Nat.zero_le _, Nat.zero_le _⟩ (by omega) (tfP_refuses (by omega) hg q1  r14) (fun y15 r16 => ?_)
        refine go_ifeq kk298_0.1.2.2.1.2 (inR_b r16) (fun c19 => ?_) (fun c20 => ?_)
        · refine go_aload kk298_0.1.2.2.2.1 rfl ?_
          refine go_callP1 kk298_0.1.2.2.2.2 rfl rfl rfl ⟨by decide, _, rfl, q1⟩ ⟨Nat.zero_le _, Nat.zero_le _⟩ (by omega) (tfP_room (by omega) hg q1 ) (fun y21 r22 => ?_)
          refine go_ifeq kk298_0.2.1.1.1.1 r22 (fun c25 => ?_) (fun c26 => ?_)
          · refine go_int kk298_0.2.1.1.1.2 0 rfl ?_
            exact go_bret kk298_0.2.1.1.2.1 hg (Or.inl rfl) ⟨Nat.zero_le _, Nat.zero_le _⟩ rfl
          · refine go_aload kk298_0.2.1.1.2.2 rfl ?_
            refine go_callP1 kk298_0.2.1.2.1.1 rfl rfl rfl ⟨by decide, _, rfl, q1⟩ ⟨Nat.zero_le _, Nat.zero_le _⟩ (by omega) (tfP_countAbove (by omega) hg q1 ) (fun y27 r28 => ?_)
            refine go_aload kk298_0.2.1.2.1.2 rfl ?_
            refine go_getI (bI := 4) kk298_0.2.1.2.2.1 hg hK0 (by decide) rfl rfl (fun r31 => ?_)
            refine go_cmlt kk298_0.2.1.2.2.2 r28 r31 (fun c32 => ?_) (fun c33 => ?_)
            · refine go_aload kk298_0.2.2.1.1.1 rfl ?_
              refine go_aload kk298_0.2.2.1.1.2 rfl ?_
              refine go_callP3 kk298_0.2.2.1.2.1 rfl rfl rfl ⟨by decide, _, rfl, q13⟩ ⟨Nat.zero_le _, Nat.zero_le _⟩ (by omega) (tfP_isOver (by omega) hg q13  h1) (fun y34 r35 => ?_)
              refine go_ifeq kk298_0.2.2.1.2.2 (inR_b r35) (fun c38 => ?_) (fun c39 => ?_)
              · refine go_int kk298_0.2.2.2.1.1 1 rfl ?_
                refine go_goto kk298_0.2.2.2.1.2 ?_
                exact go_bret kk298_0.2.2.2.2.2 hg (Or.inr rfl) ⟨Nat.zero_le _, Nat.zero_le _⟩ rfl
              · refine go_int kk298_0.2.2.2.2.1 0 rfl ?_
                exact go_bret kk298_0.2.2.2.2.2 hg (Or.inl rfl) ⟨Nat.zero_le _, Nat.zero_le _⟩ rfl
            · refine go_int kk298_0.2.2.2.2.1 0 rfl ?_
              exact go_bret kk298_0.2.2.2.2.2 hg (Or.inl rfl) ⟨Nat.zero_le _, Nat.zero_le _⟩ rfl
        · refine go_int kk298_0.2.1.1.1.2 0 rfl ?_
          exact go_bret kk298_0.2.1.1.2.1 hg (Or.inl rfl) ⟨Nat.zero_le _, Nat.zero_le _⟩ rfl
    · refine go_int kk298_0.2.1.1.1.2 0 rfl ?_
      exact go_bret kk298_0.2.1.1.2.1 hg (Or.inl rfl) ⟨Nat.zero_le _, Nat.zero_le _⟩ rfl
theorem tbT_nearest_5 {Φ : ev_P} {d : Nat} (hd : 2 ≤ d) {g : gH} (hg : HR g) {v0 v1 : Int} (hK0 : kd v0 = 5) (h1 : RfR v1) {X5 : Int → Option Int} (HX5 : ∀ (v3 : Int) (h3 : RfR v3) (u2 : Option ev_V) (w2 : nwo u2), Go Φ pr_P (fP g) 2 (X5 v3) d pr_m294 5 [some (sR v0), some (sR v1), u2, some (sR v3)] [] g 0 0) : ∀ (v3 : Int) (h3 : RfR v3) (u2 : Option ev_V) (w2 : nwo u2), Go Φ pr_P (fP g) 2 (bT_nearest_5 g v0 v1 X5 v3) d pr_m294 5 [some (sR v0), some (sR v1), u2, some (sR v3)] [] g 0 0 := by
  intro v3 h3 u2 w2
  unfold bT_nearest_5
  refine go_aload kk294_0.1.1.2.1 rfl ?_
  refine go_isnull kk294_0.1.1.2.2  (fun c3 => ?_) (fun c4 => ?_)
  · refine go_null kk294_0.2.2.2.1 ?_
    exact go_aret kk294_0.2.2.2.2 hg rfR_null ⟨Nat.zero_le _, Nat.zero_le _⟩ rfl
  · refine go_aload kk294_0.1.2.1.1 rfl ?_
    refine go_aload kk294_0.1.2.1.2 rfl ?_
    refine go_aload kk294_0.1.2.2.1 rfl ?_
    refine go_callP3 kk294_0.1.2.2.2 rfl rfl rfl ⟨by decide, _, rfl, hK0⟩ ⟨Nat.zero_le _, Nat.zero_le _⟩ (by omega) (tfT_canAdopt (by omega) hg hK0  h3 h1) (fun y5 r6 => ?_)
    refine go_ifeq kk294_0.2.1.1.1.1 (inR_b r6) (fun c9 => ?_) (fun c10 => ?_)
    · refine go_aload kk294_0.2.1.2.1 rfl ?_
      refine go_ck (fun q11 => ?_)
      refine go_getR (bI := 2) kk294_0.2.1.2.2 hg q11 (by decide) rfl rfl (fun r12 => ?_)
      refine go_astore kk294_0.2.2.1.1 w2 (loc2 := [some (sR v0), some (sR v1), u2, some (sR (g v3 2))]) rfl ?_
      refine go_goto kk294_0.2.2.1.2 ?_
      exact HX5 (g v3 2) r12 u2 w2
    · refine go_aload kk294_0.2.1.1.1.2 rfl ?_
      exact go_aret kk294_0.2.1.1.2 hg h3 ⟨Nat.zero_le _, Nat.zero_le _⟩ rfl
theorem tlT_nearest_5 {Φ : ev_P} {d : Nat} (hd : 2 ≤ d) {g : gH} (hg : HR g) {v0 v1 : Int} (hK0 : kd v0 = 5) (h1 : RfR v1) : ∀ n : Nat, ∀ (v3 : Int) (h3 : RfR v3) (u2 : Option ev_V) (w2 : nwo u2), Go Φ pr_P (fP g) 2 (lT_nearest_5 g v0 v1 n v3) d pr_m294 5 [some (sR v0), some (sR v1), u2, some (sR v3)] [] g 0 0 := by
  intro n
  induction n with
  | zero => intros; exact go_none
  | succ n ih => exact tbT_nearest_5 hd hg hK0 h1 ih
theorem tfT_nearest {Φ : ev_P} {d : Nat} (hd : 2 ≤ d) {g : gH} (hg : HR g) {v0 v1 v2 : Int} (hK0 : kd v0 = 5) (h1 : RfR v1) (h2 : RfR v2) : Go Φ pr_P (fP g) 2 (fT_nearest g v0 v1 v2) d (pr_P 294) 0 (ev_loc (pr_P 294).1 [(sR v0), (sR v1), (sR v2)]) [] g 0 0 := by
  show Go Φ pr_P (fP g) 2 (fT_nearest g v0 v1 v2) d pr_m294 0 [some (sR v0), some (sR v1), some (sR v2), none] [] g 0 0
  unfold fT_nearest
  refine go_aload kk294_0.1.1.1.1.1 rfl ?_
  refine go_ck (fun q1 => ?_)
  refine go_getR (bI := 2) kk294_0.1.1.1.1.2 hg q1 (by decide) rfl rfl (fun r2 => ?_)
  refine go_astore kk294_0.1.1.1.2 rfl (loc2 := [some (sR v0), some (sR v1), some (sR v2), some (sR (g v2 2))]) rfl ?_
  exact tlT_nearest_5 hd hg hK0 h1 fu (g v2 2) r2 (some (sR v2)) rfl
theorem tjT_roomiestFor_83 {Φ : ev_P} {d : Nat} (hd : 2 ≤ d) {X17 : Int → Int → Option Int} {g : gH} (hg : HR g) {v0 v1 v2 v3 v4 v5 v6 v7 v8 v9 : Int} (hK0 : kd v0 = 5) (h1 : RfR v1) (h2 : RfR v2) (h3 : B01 v3) (h4 : RfR v4) (h5 : RfR v5) (h6 : InR v6) (h7 : InR v7) (h8 : RfR v8) (h9 : B01 v9) {s0 : Int} (z0 : B01 s0) (HX17 : ∀ (v4 : Int) (h4 : RfR v4) (v7 : Int) (h7 : InR v7) (u8 : Option ev_V) (w8 : nwo u8) (u9 : Option ev_V) (w9 : nwo u9) (u10 : Option ev_V) (w10 : nwo u10), Go Φ pr_P (fP g) 2 (X17 v4 v7) d pr_m295 17 [some (sR v0), some (sR v1), some (sR v2), some (sI v3), some (sR v4), some (sR v5), some (sI v6), some (sI v7), u8, u9, u10] [] g 0 0) (u10 : Option ev_V) (w10 : nwo u10) : Go Φ pr_P (fP g) 2 (jT_roomiestFor_83 X17 g v0 v1 v2 v3 v4 v5 v6 v7 v8 v9 s0 ) d pr_m295 83 [some (sR v0), some (sR v1), some (sR v2), some (sI v3), some (sR v4), some (sR v5), some (sI v6), some (sI v7), some (sR v8), some (sI v9), u10] [(sI s0)] g 0 0 := by
  unfold jT_roomiestFor_83
  refine go_istore kk295_0.2.1.2.2.1.2 rfl (loc2 := [some (sR v0), some (sR v1), some (sR v2), some (sI v3), some (sR v4), some (sR v5), some (sI v6), some (sI v7), some (sR v8), some (sI v9), some (sI s0)]) rfl ?_
  refine go_iload kk295_0.2.1.2.2.2 rfl ?_
  refine go_ifeq kk295_0.2.2.1.1.1.1 (inR_b h9) (fun c32 => ?_) (fun c33 => ?_)
  · refine go_iinc kk295_0.2.2.2.1.2.2 rfl rfl 1 rfl (loc2 := [some (sR v0), some (sR v1), some (sR v2), some (sI v3), some (sR v4), some (sR v5), some (sI v6), some (sI (w32 (v7 + 1))), some (sR v8), some (sI v9), some (sI s0)]) rfl ?_
    refine go_goto kk295_0.2.2.2.2.1.1 ?_
    exact HX17 v4 h4 (w32 (v7 + 1)) (inR_w32 _) (some (sR v8)) rfl (some (sI v9)) rfl (some (sI s0)) rfl
  · refine go_iload kk295_0.2.2.1.1.1.2 rfl ?_
    refine go_ifeq kk295_0.2.2.1.1.2.1 (inR_b z0) (fun c34 => ?_) (fun c35 => ?_)
    · refine go_iinc kk295_0.2.2.2.1.2.2 rfl rfl 1 rfl (loc2 := [some (sR v0), some (sR v1), some (sR v2), some (sI v3), some (sR v4), some (sR v5), some (sI v6), some (sI (w32 (v7 + 1))), some (sR v8), some (sI v9), some (sI s0)]) rfl ?_
      refine go_goto kk295_0.2.2.2.2.1.1 ?_
      exact HX17 v4 h4 (w32 (v7 + 1)) (inR_w32 _) (some (sR v8)) rfl (some (sI v9)) rfl (some (sI s0)) rfl
    · refine go_aload kk295_0.2.2.1.1.2.2 rfl ?_
      refine go_aload kk295_0.2.2.1.2.1.1 rfl ?_
      refine go_aload kk295_0.2.2.1.2.1.2 rfl ?_
      refine go_callP3 kk295_0.2.2.1.2.2 rfl rfl rfl ⟨by decide, _, rfl, hK0⟩ ⟨Nat.zero_le _, Nat.zero_le _⟩ (by omega) (tfT_canAdopt (by omega) hg hK0  h8 h1) (fun y36 r37 => ?_)
      refine go_ifeq kk295_0.2.2.2.1.1.1 (inR_b r37) (fun c40 => ?_) (fun c41 => ?_)
      · refine go_iinc kk295_0.2.2.2.1.2.2 rfl rfl 1 rfl (loc2 := [some (sR v0), some (sR v1), some (sR v2), some (sI v3), some (sR v4), some (sR v5), some (sI v6), some (sI (w32 (v7 + 1))), some (sR v8), some (sI v9), some (sI s0)]) rfl ?_
        refine go_goto kk295_0.2.2.2.2.1.1 ?_
        exact HX17 v4 h4 (w32 (v7 + 1)) (inR_w32 _) (some (sR v8)) rfl (some (sI v9)) rfl (some (sI s0)) rfl
      · refine go_aload kk295_0.2.2.2.1.1.2 rfl ?_
        refine go_astore kk295_0.2.2.2.1.2.1 rfl (loc2 := [some (sR v0), some (sR v1), some (sR v2), some (sI v3), some (sR v8), some (sR v5), some (sI v6), some (sI v7), some (sR v8), some (sI v9), some (sI s0)]) rfl ?_
        refine go_iinc kk295_0.2.2.2.1.2.2 rfl rfl 1 rfl (loc2 := [some (sR v0), some (sR v1), some (sR v2), some (sI v3), some (sR v8), some (sR v5), some (sI v6), some (sI (w32 (v7 + 1))), some (sR v8), some (sI v9), some (sI s0)]) rfl ?_
        refine go_goto kk295_0.2.2.2.2.1.1 ?_
        exact HX17 v8 h8 (w32 (v7 + 1)) (inR_w32 _) (some (sR v8)) rfl (some (sI v9)) rfl (some (sI s0)) rfl
theorem tjT_roomiestFor_78 {Φ : ev_P} {d : Nat} (hd : 2 ≤ d) {X17 : Int → Int → Option Int} {g : gH} (hg : HR g) {v0 v1 v2 v3 v4 v5 v6 v7 v8 v9 : Int} (hK0 : kd v0 = 5) (h1 : RfR v1) (h2 : RfR v2) (h3 : B01 v3) (h4 : RfR v4) (h5 : RfR v5) (h6 : InR v6) (h7 : InR v7) (h8 : RfR v8) (h9 : B01 v9) (HX17 : ∀ (v4 : Int) (h4 : RfR v4) (v7 : Int) (h7 : InR v7) (u8 : Option ev_V) (w8 : nwo u8) (u9 : Option ev_V) (w9 : nwo u9) (u10 : Option ev_V) (w10 : nwo u10), Go Φ pr_P (fP g) 2 (X17 v4 v7) d pr_m295 17 [some (sR v0), some (sR v1), some (sR v2), some (sI v3), some (sR v4), some (sR v5), some (sI v6), some (sI v7), u8, u9, u10] [] g 0 0) (u10 : Option ev_V) (w10 : nwo u10) : Go Φ pr_P (fP g) 2 (jT_roomiestFor_78 X17 g v0 v1 v2 v3 v4 v5 v6 v7 v8 v9 ) d pr_m295 78 [some (sR v0), some (sR v1), some (sR v2), some (sI v3), some (sR v4), some (sR v5), some (sI v6), some (sI v7), some (sR v8), some (sI v9), u10] [] g 0 0 := by
  unfold jT_roomiestFor_78
  refine go_int kk295_0.2.1.2.1.2.1 1 rfl ?_
  refine go_goto kk295_0.2.1.2.1.2.2 ?_
  exact tjT_roomiestFor_83 hd hg hK0 h1 h2 h3 h4 h5 h6 h7 h8 h9 (Or.inr rfl) HX17 u10 w10
theorem tjT_roomiestFor_58 {Φ : ev_P} {d : Nat} (hd : 2 ≤ d) {X17 : Int → Int → Option Int} {g : gH} (hg : HR g) {v0 v1 v2 v3 v4 v5 v6 v7 v8 : Int} (hK0 : kd v0 = 5) (h1 : RfR v1) (h2 : RfR v2) (h3 : B01 v3) (h4 : RfR v4) (h5 : RfR v5) (h6 : InR v6) (h7 : InR v7) (h8 : RfR v8) {s0 : Int} (z0 : B01 s0) (HX17 : ∀ (v4 : Int) (h4 : RfR v4) (v7 : Int) (h7 : InR v7) (u8 : Option ev_V) (w8 : nwo u8) (u9 : Option ev_V) (w9 : nwo u9) (u10 : Option ev_V) (w10 : nwo u10), Go Φ pr_P (fP g) 2 (X17 v4 v7) d pr_m295 17 [some (sR v0), some (sR v1), some (sR v2), some (sI v3), some (sR v4), some (sR v5), some (sI v6), some (sI v7), u8, u9, u10] [] g 0 0) (u9 : Option ev_V) (w9 : nwo u9) (u10 : Option ev_V) (w10 : nwo u10) : Go Φ pr_P (fP g) 2 (jT_roomiestFor_58 X17 g v0 v1 v2 v3 v4 v5 v6 v7 v8 s0 ) d pr_m295 58 [some (sR v0), some (sR v1), some (sR v2), some (sI v3), some (sR v4), some (sR v5), some (sI v6), some (sI v7), some (sR v8), u9, u10] [(sI s0)] g 0 0 := by
  unfold jT_roomiestFor_58
  refine go_istore kk295_0.2.1.1.1.1.2 rfl (loc2 := [some (sR v0), some (sR v1), some (sR v2), some (sI v3), some (sR v4), some (sR v5), some (sI v6), some (sI v7), some (sR v8), some (sI s0), u10]) rfl ?_
  refine go_aload kk295_0.2.1.1.1.2.1 rfl ?_
  refine go_isnull kk295_0.2.1.1.1.2.2  (fun c18 => ?_) (fun c19 => ?_)
  · exact tjT_roomiestFor_78 hd hg hK0 h1 h2 h3 h4 h5 h6 h7 h8 z0 HX17 u10 w10
  · refine go_aload kk295_0.2.1.1.2.1.1 rfl ?_
    refine go_ck (fun q20 => ?_)
    refine go_callP1 kk295_0.2.1.1.2.1.2 rfl rfl rfl ⟨by decide, _, rfl, q20⟩ ⟨Nat.zero_le _, Nat.zero_le _⟩ (by omega) (tfP_room (by omega) hg q20 ) (fun y21 r22 => ?_)
    refine go_aload kk295_0.2.1.1.2.2 rfl ?_
    refine go_ck (fun q25 => ?_)
    refine go_callP1 kk295_0.2.1.2.1.1.1 rfl rfl rfl ⟨by decide, _, rfl, q25⟩ ⟨Nat.zero_le _, Nat.zero_le _⟩ (by omega) (tfP_room (by omega) hg q25 ) (fun y26 r27 => ?_)
    refine go_cmgt kk295_0.2.1.2.1.1.2 r22 r27 (fun c30 => ?_) (fun c31 => ?_)
    · exact tjT_roomiestFor_78 hd hg hK0 h1 h2 h3 h4 h5 h6 h7 h8 z0 HX17 u10 w10
    · refine go_int kk295_0.2.1.2.2.1.1 0 rfl ?_
      exact tjT_roomiestFor_83 hd hg hK0 h1 h2 h3 h4 h5 h6 h7 h8 z0 (Or.inl rfl) HX17 u10 w10
theorem tjT_roomiestFor_57 {Φ : ev_P} {d : Nat} (hd : 2 ≤ d) {X17 : Int → Int → Option Int} {g : gH} (hg : HR g) {v0 v1 v2 v3 v4 v5 v6 v7 v8 : Int} (hK0 : kd v0 = 5) (h1 : RfR v1) (h2 : RfR v2) (h3 : B01 v3) (h4 : RfR v4) (h5 : RfR v5) (h6 : InR v6) (h7 : InR v7) (h8 : RfR v8) (HX17 : ∀ (v4 : Int) (h4 : RfR v4) (v7 : Int) (h7 : InR v7) (u8 : Option ev_V) (w8 : nwo u8) (u9 : Option ev_V) (w9 : nwo u9) (u10 : Option ev_V) (w10 : nwo u10), Go Φ pr_P (fP g) 2 (X17 v4 v7) d pr_m295 17 [some (sR v0), some (sR v1), some (sR v2), some (sI v3), some (sR v4), some (sR v5), some (sI v6), some (sI v7), u8, u9, u10] [] g 0 0) (u9 : Option ev_V) (w9 : nwo u9) (u10 : Option ev_V) (w10 : nwo u10) : Go Φ pr_P (fP g) 2 (jT_roomiestFor_57 X17 g v0 v1 v2 v3 v4 v5 v6 v7 v8 ) d pr_m295 57 [some (sR v0), some (sR v1), some (sR v2), some (sI v3), some (sR v4), some (sR v5), some (sI v6), some (sI v7), some (sR v8), u9, u10] [] g 0 0 := by
  unfold jT_roomiestFor_57
  refine go_int kk295_0.2.1.1.1.1.1 0 rfl ?_
  exact tjT_roomiestFor_58 hd hg hK0 h1 h2 h3 h4 h5 h6 h7 h8 (Or.inl rfl) HX17 u9 w9 u10 w10
theorem tjT_roomiestFor_53 {Φ : ev_P} {d : Nat} (hd : 2 ≤ d) {X17 : Int → Int → Option Int} {g : gH} (hg : HR g) {v0 v1 v2 v3 v4 v5 v6 v7 v8 : Int} (hK0 : kd v0 = 5) (h1 : RfR v1) (h2 : RfR v2) (h3 : B01 v3) (h4 : RfR v4) (h5 : RfR v5) (h6 : InR v6) (h7 : InR v7) (h8 : RfR v8) (HX17 : ∀ (v4 : Int) (h4 : RfR v4) (v7 : Int) (h7 : InR v7) (u8 : Option ev_V) (w8 : nwo u8) (u9 : Option ev_V) (w9 : nwo u9) (u10 : Option ev_V) (w10 : nwo u10), Go Φ pr_P (fP g) 2 (X17 v4 v7) d pr_m295 17 [some (sR v0), some (sR v1), some (sR v2), some (sI v3), some (sR v4), some (sR v5), some (sI v6), some (sI v7), u8, u9, u10] [] g 0 0) (u9 : Option ev_V) (w9 : nwo u9) (u10 : Option ev_V) (w10 : nwo u10) : Go Φ pr_P (fP g) 2 (jT_roomiestFor_53 X17 g v0 v1 v2 v3 v4 v5 v6 v7 v8 ) d pr_m295 53 [some (sR v0), some (sR v1), some (sR v2), some (sI v3), some (sR v4), some (sR v5), some (sI v6), some (sI v7), some (sR v8), u9, u10] [] g 0 0 := by
  unfold jT_roomiestFor_53
  refine go_int kk295_0.1.2.2.2.1.2 1 rfl ?_
  refine go_goto kk295_0.1.2.2.2.2 ?_
  exact tjT_roomiestFor_58 hd hg hK0 h1 h2 h3 h4 h5 h6 h7 h8 (Or.inr rfl) HX17 u9 w9 u10 w10
theorem tbT_roomiestFor_17 {Φ : ev_P} {d : Nat} (hd : 2 ≤ d) {g : gH} (hg : HR g) {v0 v1 v2 v3 v5 v6 : Int} (hK0 : kd v0 = 5) (h1 : RfR v1) (h2 : RfR v2) (h3 : B01 v3) (h5 : RfR v5) (h6 : InR v6) {X17 : Int → Int → Option Int} (HX17 : ∀ (v4 : Int) (h4 : RfR v4) (v7 : Int) (h7 : InR v7) (u8 : Option ev_V) (w8 : nwo u8) (u9 : Option ev_V) (w9 : nwo u9) (u10 : Option ev_V) (w10 : nwo u10), Go Φ pr_P (fP g) 2 (X17 v4 v7) d pr_m295 17 [some (sR v0), some (sR v1), some (sR v2), some (sI v3), some (sR v4), some (sR v5), some (sI v6), some (sI v7), u8, u9, u10] [] g 0 0) : ∀ (v4 : Int) (h4 : RfR v4) (v7 : Int) (h7 : InR v7) (u8 : Option ev_V) (w8 : nwo u8) (u9 : Option ev_V) (w9 : nwo u9) (u10 : Option ev_V) (w10 : nwo u10), Go Φ pr_P (fP g) 2 (bT_roomiestFor_17 g v0 v1 v2 v3 v5 v6 X17 v4 v7) d pr_m295 17 [some (sR v0), some (sR v1), some (sR v2), some (sI v3), some (sR v4), some (sR v5), some (sI v6), some (sI v7), u8, u9, u10] [] g 0 0 := by
  intro v4 h4 v7 h7 u8 w8 u9 w9 u10 w10
  unfold bT_roomiestFor_17
  refine go_iload kk295_0.1.1.2.1.2.1 rfl ?_
  refine go_iload kk295_0.1.1.2.1.2.2 rfl ?_
  refine go_cmlt kk295_0.1.1.2.2.1.1 h7 h6 (fun c4 => ?_) (fun c5 => ?_)
  · refine go_aload kk295_0.1.1.2.2.1.2 rfl ?_
    refine go_iload kk295_0.1.1.2.2.2 rfl ?_
    refine go_ck (fun q7 => ?_)
    refine go_pald kk295_0.1.2.1.1.1.1 hg q7 (fun r6 => ?_)
    refine go_astore kk295_0.1.2.1.1.1.2 rfl (loc2 := [some (sR v0), some (sR v1), some (sR v2), some (sI v3), some (sR v4), some (sR v5), some (sI v6), some (sI v7), some (sR (g v5 v7)), u9, u10]) rfl ?_
    refine go_aload kk295_0.1.2.1.1.2.1 rfl ?_
    refine go_aload kk295_0.1.2.1.1.2.2 rfl ?_
    refine go_acmp kk295_0.1.2.1.2.1.1 r6 h2 (fun c8 => ?_) (fun c9 => ?_)
    · exact tjT_roomiestFor_57 hd hg hK0 h1 h2 h3 h4 h5 h6 h7 r6 HX17 u9 w9 u10 w10
    · refine go_iload kk295_0.1.2.1.2.1.2 rfl ?_
      refine go_ifeq kk295_0.1.2.1.2.2 (inR_b h3) (fun c10 => ?_) (fun c11 => ?_)
      · exact tjT_roomiestFor_53 hd hg hK0 h1 h2 h3 h4 h5 h6 h7 r6 HX17 u9 w9 u10 w10
      · refine go_aload kk295_0.1.2.2.1.1.1 rfl ?_
        refine go_ck (fun q12 => ?_)
        refine go_getI (bI := 5) kk295_0.1.2.2.1.1.2 hg q12 (by decide) rfl rfl (fun r13 => ?_)
        refine go_aload kk295_0.1.2.2.1.2.1 rfl ?_
        refine go_ck (fun q14 => ?_)
        refine go_getI (bI := 5) kk295_0.1.2.2.1.2.2 hg q14 (by decide) rfl rfl (fun r15 => ?_)
        refine go_cmeq kk295_0.1.2.2.2.1.1 r13 r15 (fun c16 => ?_) (fun c17 => ?_)
        · exact tjT_roomiestFor_53 hd hg hK0 h1 h2 h3 h4 h5 h6 h7 r6 HX17 u9 w9 u10 w10
        · exact tjT_roomiestFor_57 hd hg hK0 h1 h2 h3 h4 h5 h6 h7 r6 HX17 u9 w9 u10 w10
  · refine go_aload kk295_0.2.2.2.2.1.2 rfl ?_
    exact go_aret kk295_0.2.2.2.2.2 hg h4 ⟨Nat.zero_le _, Nat.zero_le _⟩ rfl
theorem tlT_roomiestFor_17 {Φ : ev_P} {d : Nat} (hd : 2 ≤ d) {g : gH} (hg : HR g) {v0 v1 v2 v3 v5 v6 : Int} (hK0 : kd v0 = 5) (h1 : RfR v1) (h2 : RfR v2) (h3 : B01 v3) (h5 : RfR v5) (h6 : InR v6) : ∀ n : Nat, ∀ (v4 : Int) (h4 : RfR v4) (v7 : Int) (h7 : InR v7) (u8 : Option ev_V) (w8 : nwo u8) (u9 : Option ev_V) (w9 : nwo u9) (u10 : Option ev_V) (w10 : nwo u10), Go Φ pr_P (fP g) 2 (lT_roomiestFor_17 g v0 v1 v2 v3 v5 v6 n v4 v7) d pr_m295 17 [some (sR v0), some (sR v1), some (sR v2), some (sI v3), some (sR v4), some (sR v5), some (sI v6), some (sI v7), u8, u9, u10] [] g 0 0 := by
  intro n
  induction n with
  | zero => intros; exact go_none
  | succ n ih => exact tbT_roomiestFor_17 hd hg hK0 h1 h2 h3 h5 h6 ih
theorem tfT_roomiestFor {Φ : ev_P} {d : Nat} (hd : 2 ≤ d) {g : gH} (hg : HR g) {v0 v1 v2 v3 : Int} (hK0 : kd v0 = 5) (h1 : RfR v1) (h2 : RfR v2) (h3 : B01 v3) : Go Φ pr_P (fP g) 2 (fT_roomiestFor g v0 v1 v2 v3) d (pr_P 295) 0 (ev_loc (pr_P 295).1 [(sR v0), (sR v1), (sR v2), (sI v3)]) [] g 0 0 := by
  show Go Φ pr_P (fP g) 2 (fT_roomiestFor g v0 v1 v2 v3) d pr_m295 0 [some (sR v0), some (sR v1), some (sR v2), some (sI v3), none, none, none, none, none, none, none] [] g 0 0
  unfold fT_roomiestFor
  refine go_null kk295_0.1.1.1.1.1.1 ?_
  refine go_astore kk295_0.1.1.1.1.1.2 rfl (loc2 := [some (sR v0), some (sR v1), some (sR v2), some (sI v3), some (sR (-1)), none, none, none, none, none, none]) rfl ?_
  refine go_aload kk295_0.1.1.1.1.2.1 rfl ?_
  refine go_getR (bI := 1) kk295_0.1.1.1.1.2.2 hg hK0 (by decide) rfl rfl (fun r1 => ?_)
  refine go_astore kk295_0.1.1.1.2.1.1 rfl (loc2 := [some (sR v0), some (sR v1), some (sR v2), some (sI v3), some (sR (-1)), some (sR (g v0 1)), none, none, none, none, none]) rfl ?_
  refine go_aload kk295_0.1.1.1.2.1.2 rfl ?_
  refine go_ck (fun q3 => ?_)
  refine go_alen kk295_0.1.1.1.2.2.1 (ka_24 q3) (fun r2 => ?_)
  refine go_istore kk295_0.1.1.1.2.2.2 rfl (loc2 := [some (sR v0), some (sR v1), some (sR v2), some (sI v3), some (sR (-1)), some (sR (g v0 1)), some (sI (sz (g v0 1))), none, none, none, none]) rfl ?_
  refine go_int kk295_0.1.1.2.1.1.1 0 rfl ?_
  refine go_istore kk295_0.1.1.2.1.1.2 rfl (loc2 := [some (sR v0), some (sR v1), some (sR v2), some (sI v3), some (sR (-1)), some (sR (g v0 1)), some (sI (sz (g v0 1))), some (sI 0), none, none, none]) rfl ?_
  exact tlT_roomiestFor_17 hd hg hK0 h1 h2 h3 r1 r2 fu (-1) rfR_null 0 (inR_b (Or.inl rfl)) none rfl none rfl none rfl
theorem tbT_firstKin_19 {Φ : ev_P} {d : Nat} (hd : 2 ≤ d) {g : gH} (hg : HR g) {v0 v1 v2 v3 v4 v5 : Int} (hK0 : kd v0 = 5) (h1 : RfR v1) (h2 : RfR v2) (h3 : RfR v3) (h4 : RfR v4) (h5 : InR v5) {X19 : Int → Option Int} (HX19 : ∀ (v6 : Int) (h6 : InR v6) (u7 : Option ev_V) (w7 : nwo u7), Go Φ pr_P (fP g) 2 (X19 v6) d pr_m296 19 [some (sR v0), some (sR v1), some (sR v2), some (sR v3), some (sR v4), some (sI v5), some (sI v6), u7] [] g 0 0) : ∀ (v6 : Int) (h6 : InR v6) (u7 : Option ev_V) (w7 : nwo u7), Go Φ pr_P (fP g) 2 (bT_firstKin_19 g v0 v1 v2 v3 v4 v5 X19 v6) d pr_m296 19 [some (sR v0), some (sR v1), some (sR v2), some (sR v3), some (sR v4), some (sI v5), some (sI v6), u7] [] g 0 0 := by
  intro v6 h6 u7 w7
  unfold bT_firstKin_19
  refine go_iload kk296_0.1.2.1.1.1.2 rfl ?_
  refine go_iload kk296_0.1.2.1.1.2 rfl ?_
  refine go_cmlt kk296_0.1.2.1.2.1 h6 h5 (fun c6 => ?_) (fun c7 => ?_)
  · refine go_aload kk296_0.1.2.1.2.2 rfl ?_
    refine go_iload kk296_0.1.2.2.1.1 rfl ?_
    refine go_ck (fun q9 => ?_)
    refine go_pald kk296_0.1.2.2.1.2 hg q9 (fun r8 => ?_)
    refine go_astore kk296_0.1.2.2.2.1 rfl (loc2 := [some (sR v0), some (sR v1), some (sR v2), some (sR v3), some (sR v4), some (sI v5), some (sI v6), some (sR (g v4 v6))]) rfl ?_
    refine go_aload kk296_0.1.2.2.2.2 rfl ?_
    refine go_isnull kk296_0.2.1.1.1.1.1  (fun c10 => ?_) (fun c11 => ?_)
    · refine go_iinc kk296_0.2.2.2.1.1 rfl rfl 1 rfl (loc2 := [some (sR v0), some (sR v1), some (sR v2), some (sR v3), some (sR v4), some (sI v5), some (sI (w32 (v6 + 1))), some (sR (g v4 v6))]) rfl ?_
      refine go_goto kk296_0.2.2.2.1.2 ?_
      exact HX19 (w32 (v6 + 1)) (inR_w32 _) (some (sR (g v4 v6))) rfl
    · refine go_aload kk296_0.2.1.1.1.1.2 rfl ?_
      refine go_aload kk296_0.2.1.1.1.2 rfl ?_
      refine go_acmp kk296_0.2.1.1.2.1 r8 h2 (fun c12 => ?_) (fun c13 => ?_)
      · refine go_iinc kk296_0.2.2.2.1.1 rfl rfl 1 rfl (loc2 := [some (sR v0), some (sR v1), some (sR v2), some (sR v3), some (sR v4), some (sI v5), some (sI (w32 (v6 + 1))), some (sR (g v4 v6))]) rfl ?_
        refine go_goto kk296_0.2.2.2.1.2 ?_
        exact HX19 (w32 (v6 + 1)) (inR_w32 _) (some (sR (g v4 v6))) rfl
      · refine go_aload kk296_0.2.1.1.2.2 rfl ?_
        refine go_aload kk296_0.2.1.2.1.1.1 rfl ?_
        refine go_ck (fun q14 => ?_)
        refine go_callP3 kk296_0.2.1.2.1.1.2 rfl rfl rfl ⟨by decide, _, rfl, q14⟩ ⟨Nat.zero_le _, Nat.zero_le _⟩ (by omega) (tfP_isRunningChildOf (by omega) hg q14  h3) (fun y15 r16 => ?_)
        refine go_ifeq kk296_0.2.1.2.1.2 (inR_b r16) (fun c19 => ?_) (fun c20 => ?_)
        · refine go_iinc kk296_0.2.2.2.1.1 rfl rfl 1 rfl (loc2 := [some (sR v0), some (sR v1), some (sR v2), some (sR v3), some (sR v4), some (sI v5), some (sI (w32 (v6 + 1))), some (sR (g v4 v6))]) rfl ?_
          refine go_goto kk296_0.2.2.2.1.2 ?_
          exact HX19 (w32 (v6 + 1)) (inR_w32 _) (some (sR (g v4 v6))) rfl
        · refine go_aload kk296_0.2.1.2.2.1 rfl ?_
          refine go_aload kk296_0.2.1.2.2.2 rfl ?_
          refine go_aload kk296_0.2.2.1.1.1.1 rfl ?_
          refine go_callP3 kk296_0.2.2.1.1.1.2 rfl rfl rfl ⟨by decide, _, rfl, hK0⟩ ⟨Nat.zero_le _, Nat.zero_le _⟩ (by omega) (tfT_canAdopt (by omega) hg hK0  r8 h1) (fun y21 r22 => ?_)
          refine go_ifeq kk296_0.2.2.1.1.2 (inR_b r22) (fun c25 => ?_) (fun c26 => ?_)
          · refine go_iinc kk296_0.2.2.2.1.1 rfl rfl 1 rfl (loc2 := [some (sR v0), some (sR v1), some (sR v2), some (sR v3), some (sR v4), some (sI v5), some (sI (w32 (v6 + 1))), some (sR (g v4 v6))]) rfl ?_
            refine go_goto kk296_0.2.2.2.1.2 ?_
            exact HX19 (w32 (v6 + 1)) (inR_w32 _) (some (sR (g v4 v6))) rfl
          · refine go_aload kk296_0.2.2.1.2.1 rfl ?_
            exact go_aret kk296_0.2.2.1.2.2 hg r8 ⟨Nat.zero_le _, Nat.zero_le _⟩ rfl
  · refine go_null kk296_0.2.2.2.2.1 ?_
    exact go_aret kk296_0.2.2.2.2.2 hg rfR_null ⟨Nat.zero_le _, Nat.zero_le _⟩ rfl
theorem tlT_firstKin_19 {Φ : ev_P} {d : Nat} (hd : 2 ≤ d) {g : gH} (hg : HR g) {v0 v1 v2 v3 v4 v5 : Int} (hK0 : kd v0 = 5) (h1 : RfR v1) (h2 : RfR v2) (h3 : RfR v3) (h4 : RfR v4) (h5 : InR v5) : ∀ n : Nat, ∀ (v6 : Int) (h6 : InR v6) (u7 : Option ev_V) (w7 : nwo u7), Go Φ pr_P (fP g) 2 (lT_firstKin_19 g v0 v1 v2 v3 v4 v5 n v6) d pr_m296 19 [some (sR v0), some (sR v1), some (sR v2), some (sR v3), some (sR v4), some (sI v5), some (sI v6), u7] [] g 0 0 := by
  intro n
  induction n with
  | zero => intros; exact go_none
  | succ n ih => exact tbT_firstKin_19 hd hg hK0 h1 h2 h3 h4 h5 ih
theorem tfT_firstKin {Φ : ev_P} {d : Nat} (hd : 2 ≤ d) {g : gH} (hg : HR g) {v0 v1 v2 : Int} (hK0 : kd v0 = 5) (h1 : RfR v1) (h2 : RfR v2) : Go Φ pr_P (fP g) 2 (fT_firstKin g v0 v1 v2) d (pr_P 296) 0 (ev_loc (pr_P 296).1 [(sR v0), (sR v1), (sR v2)]) [] g 0 0 := by
  show Go Φ pr_P (fP g) 2 (fT_firstKin g v0 v1 v2) d pr_m296 0 [some (sR v0), some (sR v1), some (sR v2), none, none, none, none, none] [] g 0 0
  unfold fT_firstKin
  refine go_aload kk296_0.1.1.1.1.1.1 rfl ?_
  refine go_ck (fun q1 => ?_)
  refine go_getR (bI := 2) kk296_0.1.1.1.1.1.2 hg q1 (by decide) rfl rfl (fun r2 => ?_)
  refine go_astore kk296_0.1.1.1.1.2 rfl (loc2 := [some (sR v0), some (sR v1), some (sR v2), some (sR (g v2 2)), none, none, none, none]) rfl ?_
  refine go_aload kk296_0.1.1.1.2.1 rfl ?_
  refine go_getR (bI := 1) kk296_0.1.1.1.2.2 hg hK0 (by decide) rfl rfl (fun r3 => ?_)
  refine go_astore kk296_0.1.1.2.1.1.1 rfl (loc2 := [some (sR v0), some (sR v1), some (sR v2), some (sR (g v2 2)), some (sR (g v0 1)), none, none, none]) rfl ?_
  refine go_aload kk296_0.1.1.2.1.1.2 rfl ?_
  refine go_ck (fun q5 => ?_)
  refine go_alen kk296_0.1.1.2.1.2 (ka_24 q5) (fun r4 => ?_)
  refine go_istore kk296_0.1.1.2.2.1 rfl (loc2 := [some (sR v0), some (sR v1), some (sR v2), some (sR (g v2 2)), some (sR (g v0 1)), some (sI (sz (g v0 1))), none, none]) rfl ?_
  refine go_int kk296_0.1.1.2.2.2 0 rfl ?_
  refine go_istore kk296_0.1.2.1.1.1.1 rfl (loc2 := [some (sR v0), some (sR v1), some (sR v2), some (sR (g v2 2)), some (sR (g v0 1)), some (sI (sz (g v0 1))), some (sI 0), none]) rfl ?_
  exact tlT_firstKin_19 hd hg hK0 h1 h2 r2 r3 r4 fu 0 (inR_b (Or.inl rfl)) none rfl
/-! ===== the evaluator comes to what the functions tell (own work, by program: wip/p2/dec.py) ===== -/
theorem tbT_oldest_12 {Φ : ev_P} {d : Nat} (hd : 2 ≤ d) {g : gH} (hg : HR g) {v0 v1 v2 v3 v4 : Int} (hK0 : kd v0 = 5) (h1 : RfR v1) (h2 : RfR v2) (h3 : RfR v3) (h4 : InR v4) {X12 : Int → Option Int} (HX12 : ∀ (v5 : Int) (h5 : InR v5) (u6 : Option ev_V) (w6 : nwo u6), Go Φ pr_P (fP g) 2 (X12 v5) d pr_m297 12 [some (sR v0), some (sR v1), some (sR v2), some (sR v3), some (sI v4), some (sI v5), u6] [] g 0 0) : ∀ (v5 : Int) (h5 : InR v5) (u6 : Option ev_V) (w6 : nwo u6), Go Φ pr_P (fP g) 2 (bT_oldest_12 g v0 v1 v2 v3 v4 X12 v5) d pr_m297 12 [some (sR v0), some (sR v1), some (sR v2), some (sR v3), some (sI v4), some (sI v5), u6] [] g 0 0 := by
  intro v5 h5 u6 w6
  unfold bT_oldest_12
  refine go_iload kk297_0.1.2.1.1.1 rfl ?_
  refine go_iload kk297_0.1.2.1.1.2 rfl ?_
  refine go_cmlt kk297_0.1.2.1.2.1 h5 h4 (fun c4 => ?_) (fun c5 => ?_)
  · refine go_aload kk297_0.1.2.1.2.2 rfl ?_
    refine go_iload kk297_0.1.2.2.1.1 rfl ?_
    refine go_ck (fun q7 => ?_)
    refine go_pald kk297_0.1.2.2.1.2 hg q7 (fun r6 => ?_)
    refine go_astore kk297_0.1.2.2.2 rfl (loc2 := [some (sR v0), some (sR v1), some (sR v2), some (sR v3), some (sI v4), some (sI v5), some (sR (g v3 v5))]) rfl ?_
    refine go_aload kk297_0.2.1.1.1.1 rfl ?_
    refine go_aload kk297_0.2.1.1.1.2 rfl ?_
    refine go_acmp kk297_0.2.1.1.2.1 r6 h2 (fun c8 => ?_) (fun c9 => ?_)
    · refine go_iinc kk297_0.2.2.1.2.2 rfl rfl 1 rfl (loc2 := [some (sR v0), some (sR v1), some (sR v2), some (sR v3), some (sI v4), some (sI (w32 (v5 + 1))), some (sR (g v3 v5))]) rfl ?_
      refine go_goto kk297_0.2.2.2.1.1 ?_
      exact HX12 (w32 (v5 + 1)) (inR_w32 _) (some (sR (g v3 v5))) rfl
    · refine go_aload kk297_0.2.1.1.2.2 rfl ?_
      refine go_aload kk297_0.2.1.2.1.1 rfl ?_
      refine go_aload kk297_0.2.1.2.1.2 rfl ?_
      refine go_callP3 kk297_0.2.1.2.2 rfl rfl rfl ⟨by decide, _, rfl, hK0⟩ ⟨Nat.zero_le _, Nat.zero_le _⟩ (by omega) (tfT_canAdopt (by omega) hg hK0  r6 h1) (fun y10 r11 => ?_)
      refine go_ifeq kk297_0.2.2.1.1.1 (inR_b r11) (fun c14 => ?_) (fun c15 => ?_)
      · refine go_iinc kk297_0.2.2.1.2.2 rfl rfl 1 rfl (loc2 := [some (sR v0), some (sR v1), some (sR v2), some (sR v3), some (sI v4), some (sI (w32 (v5 + 1))), some (sR (g v3 v5))]) rfl ?_
        refine go_goto kk297_0.2.2.2.1.1 ?_
        exact HX12 (w32 (v5 + 1)) (inR_w32 _) (some (sR (g v3 v5))) rfl
      · refine go_aload kk297_0.2.2.1.1.2 rfl ?_
        exact go_aret kk297_0.2.2.1.2.1 hg r6 ⟨Nat.zero_le _, Nat.zero_le _⟩ rfl
  · refine go_null kk297_0.2.2.2.1.2 ?_
    exact go_aret kk297_0.2.2.2.2 hg rfR_null ⟨Nat.zero_le _, Nat.zero_le _⟩ rfl
theorem tlT_oldest_12 {Φ : ev_P} {d : Nat} (hd : 2 ≤ d) {g : gH} (hg : HR g) {v0 v1 v2 v3 v4 : Int} (hK0 : kd v0 = 5) (h1 : RfR v1) (h2 : RfR v2) (h3 : RfR v3) (h4 : InR v4) : ∀ n : Nat, ∀ (v5 : Int) (h5 : InR v5) (u6 : Option ev_V) (w6 : nwo u6), Go Φ pr_P (fP g) 2 (lT_oldest_12 g v0 v1 v2 v3 v4 n v5) d pr_m297 12 [some (sR v0), some (sR v1), some (sR v2), some (sR v3), some (sI v4), some (sI v5), u6] [] g 0 0 := by
  intro n
  induction n with
  | zero => intros; exact go_none
  | succ n ih => exact tbT_oldest_12 hd hg hK0 h1 h2 h3 h4 ih
theorem tfT_oldest {Φ : ev_P} {d : Nat} (hd : 2 ≤ d) {g : gH} (hg : HR g) {v0 v1 v2 : Int} (hK0 : kd v0 = 5) (h1 : RfR v1) (h2 : RfR v2) : Go Φ pr_P (fP g) 2 (fT_oldest g v0 v1 v2) d (pr_P 297) 0 (ev_loc (pr_P 297).1 [(sR v0), (sR v1), (sR v2)]) [] g 0 0 := by
  show Go Φ pr_P (fP g) 2 (fT_oldest g v0 v1 v2) d pr_m297 0 [some (sR v0), some (sR v1), some (sR v2), none, none, none, none] [] g 0 0
  unfold fT_oldest
  refine go_aload kk297_0.1.1.1.1.1 rfl ?_
  refine go_getR (bI := 1) kk297_0.1.1.1.1.2 hg hK0 (by decide) rfl rfl (fun r1 => ?_)
  refine go_astore kk297_0.1.1.1.2.1 rfl (loc2 := [some (sR v0), some (sR v1), some (sR v2), some (sR (g v0 1)), none, none, none]) rfl ?_
  refine go_aload kk297_0.1.1.1.2.2 rfl ?_
  refine go_ck (fun q3 => ?_)
  refine go_alen kk297_0.1.1.2.1.1 (ka_24 q3) (fun r2 => ?_)
  refine go_istore kk297_0.1.1.2.1.2 rfl (loc2 := [some (sR v0), some (sR v1), some (sR v2), some (sR (g v0 1)), some (sI (sz (g v0 1))), none, none]) rfl ?_
  refine go_int kk297_0.1.1.2.2.1 0 rfl ?_
  refine go_istore kk297_0.1.1.2.2.2 rfl (loc2 := [some (sR v0), some (sR v1), some (sR v2), some (sR (g v0 1)), some (sI (sz (g v0 1))), some (sI 0), none]) rfl ?_
  exact tlT_oldest_12 hd hg hK0 h1 h2 r1 r2 fu 0 (inR_b (Or.inl rfl)) none rfl
theorem tjT_adopterOf_130 {Φ : ev_P} {d : Nat} (hd : 3 ≤ d) {g : gH} (hg : HR g) {v0 v3 : Int} (hK0 : kd v0 = 5) (h3 : RfR v3) (u1 : Option ev_V) (w1 : nwo u1) (u2 : Option ev_V) (w2 : nwo u2) (u4 : Option ev_V) (w4 : nwo u4) : Go Φ pr_P (fP g) 2 (jT_adopterOf_130 g v0 v3 ) d pr_m293 130 [some (sR v0), u1, u2, some (sR v3), u4] [] g 0 0 := by
  unfold jT_adopterOf_130
  refine go_aload kk293_0.2.2.2.1.1.1 rfl ?_
  refine go_isnull kk293_0.2.2.2.1.1.2  (fun c43 => ?_) (fun c44 => ?_)
  · refine go_aload kk293_0.2.2.2.1.2.1 rfl ?_
    refine go_getR (bI := 0) kk293_0.2.2.2.1.2.2 hg hK0 (by decide) rfl rfl (fun r45 => ?_)
    refine go_goto kk293_0.2.2.2.2.1.1 ?_
    exact go_aret kk293_0.2.2.2.2.2 hg r45 ⟨Nat.zero_le _, Nat.zero_le _⟩ rfl
  · refine go_aload kk293_0.2.2.2.2.1.2 rfl ?_
    exact go_aret kk293_0.2.2.2.2.2 hg h3 ⟨Nat.zero_le _, Nat.zero_le _⟩ rfl
theorem tbT_adopterOf_19 {Φ : ev_P} {d : Nat} (hd : 3 ≤ d) {g : gH} (hg : HR g) {v0 v1 v2 : Int} (hK0 : kd v0 = 5) (h1 : RfR v1) (h2 : RfR v2) {X19 : Int → Int → Option Int} (HX19 : ∀ (v3 : Int) (h3 : RfR v3) (v4 : Int) (h4 : InR v4), Go Φ pr_P (fP g) 2 (X19 v3 v4) d pr_m293 19 [some (sR v0), some (sR v1), some (sR v2), some (sR v3), some (sI v4)] [] g 0 0) : ∀ (v3 : Int) (h3 : RfR v3) (v4 : Int) (h4 : InR v4), Go Φ pr_P (fP g) 2 (bT_adopterOf_19 g v0 v1 v2 X19 v3 v4) d pr_m293 19 [some (sR v0), some (sR v1), some (sR v2), some (sR v3), some (sI v4)] [] g 0 0 := by
  intro v3 h3 v4 h4
  unfold bT_adopterOf_19
  refine go_iload kk293_0.1.1.2.2.1.1 rfl ?_
  refine go_int kk293_0.1.1.2.2.1.2 5 rfl ?_
  refine go_cmlt kk293_0.1.1.2.2.2.1 h4 (inR_of (by decide)) (fun c6 => ?_) (fun c7 => ?_)
  · refine go_aload kk293_0.1.1.2.2.2.2 rfl ?_
    refine go_isnull kk293_0.1.2.1.1.1.1  (fun c8 => ?_) (fun c9 => ?_)
    · refine go_aload kk293_0.1.2.1.1.1.2 rfl ?_
      refine go_getR (bI := 3) kk293_0.1.2.1.1.2.1 hg hK0 (by decide) rfl rfl (fun r10 => ?_)
      refine go_iload kk293_0.1.2.1.1.2.2 rfl ?_
      refine go_ck (fun q12 => ?_)
      refine go_iald kk293_0.1.2.1.2.1.1 hg q12 (fun r11 => ?_)
      refine go_ite (fun c13 => ?_) (fun c14 => ?_)
      · refine go_swh (lo := 0) (hi := 4) (i := 0) kk293_0.1.2.1.2.1.2 rfl rfl (by omega) (by omega) rfl ?_
        refine go_aload kk293_0.1.2.1.2.2.1 rfl ?_
        refine go_aload kk293_0.1.2.1.2.2.2 rfl ?_
        refine go_aload kk293_0.1.2.2.1.1.1 rfl ?_
        refine go_callP2 kk293_0.1.2.2.1.1.2 rfl rfl rfl ⟨by decide, _, rfl, hK0⟩ ⟨Nat.zero_le _, Nat.zero_le _⟩ (by omega) (tfT_nearest (by omega) hg hK0  h1 h2) (fun y15 r16 => ?_)
        refine go_astore kk293_0.1.2.2.1.2.1 rfl (loc2 := [some (sR v0), some (sR v1), some (sR v2), some (sR y15), some (sI v4)]) rfl ?_
        refine go_goto kk293_0.1.2.2.1.2.2 ?_
        refine go_iinc kk293_0.2.2.1.2.2.1 rfl rfl 1 rfl (loc2 := [some (sR v0), some (sR v1), some (sR v2), some (sR y15), some (sI (w32 (v4 + 1)))]) rfl ?_
        refine go_goto kk293_0.2.2.1.2.2.2 ?_
        exact HX19 y15 r16 (w32 (v4 + 1)) (inR_w32 _)
      refine go_ite (fun c19 => ?_) (fun c20 => ?_)
      · refine go_swh (lo := 0) (hi := 4) (i := 1) kk293_0.1.2.1.2.1.2 rfl rfl (by omega) (by omega) rfl ?_
        refine go_aload kk293_0.1.2.2.2.1.1 rfl ?_
        refine go_aload kk293_0.1.2.2.2.1.2 rfl ?_
        refine go_aload kk293_0.1.2.2.2.2.1 rfl ?_
        refine go_int kk293_0.1.2.2.2.2.2 1 rfl ?_
        refine go_callP2 kk293_0.2.1.1.1.1.1 rfl rfl rfl ⟨by decide, _, rfl, hK0⟩ ⟨Nat.zero_le _, Nat.zero_le _⟩ (by omega) (tfT_roomiestFor (by omega) hg hK0  h1 h2 (Or.inr rfl)) (fun y21 r22 => ?_)
        refine go_astore kk293_0.2.1.1.1.1.2 rfl (loc2 := [some (sR v0), some (sR v1), some (sR v2), some (sR y21), some (sI v4)]) rfl ?_
        refine go_goto kk293_0.2.1.1.1.2.1 ?_
        refine go_iinc kk293_0.2.2.1.2.2.1 rfl rfl 1 rfl (loc2 := [some (sR v0), some (sR v1), some (sR v2), some (sR y21), some (sI (w32 (v4 + 1)))]) rfl ?_
        refine go_goto kk293_0.2.2.1.2.2.2 ?_
        exact HX19 y21 r22 (w32 (v4 + 1)) (inR_w32 _)
      refine go_ite (fun c25 => ?_) (fun c26 => ?_)
      · refine go_swh (lo := 0) (hi := 4) (i := 2) kk293_0.1.2.1.2.1.2 rfl rfl (by omega) (by omega) rfl ?_
        refine go_aload kk293_0.2.1.1.1.2.2 rfl ?_
        refine go_aload kk293_0.2.1.1.2.1.1 rfl ?_
        refine go_aload kk293_0.2.1.1.2.1.2 rfl ?_
        refine go_int kk293_0.2.1.1.2.2.1 0 rfl ?_
        refine go_callP2 kk293_0.2.1.1.2.2.2 rfl rfl rfl ⟨by decide, _, rfl, hK0⟩ ⟨Nat.zero_le _, Nat.zero_le _⟩ (by omega) (tfT_roomiestFor (by omega) hg hK0  h1 h2 (Or.inl rfl)) (fun y27 r28 => ?_)
        refine go_astore kk293_0.2.1.2.1.1.1 rfl (loc2 := [some (sR v0), some (sR v1), some (sR v2), some (sR y27), some (sI v4)]) rfl ?_
        refine go_goto kk293_0.2.1.2.1.1.2 ?_
        refine go_iinc kk293_0.2.2.1.2.2.1 rfl rfl 1 rfl (loc2 := [some (sR v0), some (sR v1), some (sR v2), some (sR y27), some (sI (w32 (v4 + 1)))]) rfl ?_
        refine go_goto kk293_0.2.2.1.2.2.2 ?_
        exact HX19 y27 r28 (w32 (v4 + 1)) (inR_w32 _)
      refine go_ite (fun c31 => ?_) (fun c32 => ?_)
      · refine go_swh (lo := 0) (hi := 4) (i := 3) kk293_0.1.2.1.2.1.2 rfl rfl (by omega) (by omega) rfl ?_
        refine go_aload kk293_0.2.1.2.1.2.1 rfl ?_
        refine go_aload kk293_0.2.1.2.1.2.2 rfl ?_
        refine go_aload kk293_0.2.1.2.2.1.1 rfl ?_
        refine go_callP2 kk293_0.2.1.2.2.1.2 rfl rfl rfl ⟨by decide, _, rfl, hK0⟩ ⟨Nat.zero_le _, Nat.zero_le _⟩ (by omega) (tfT_firstKin (by omega) hg hK0  h1 h2) (fun y33 r34 => ?_)
        refine go_astore kk293_0.2.1.2.2.2.1 rfl (loc2 := [some (sR v0), some (sR v1), some (sR v2), some (sR y33), some (sI v4)]) rfl ?_
        refine go_goto kk293_0.2.1.2.2.2.2 ?_
        refine go_iinc kk293_0.2.2.1.2.2.1 rfl rfl 1 rfl (loc2 := [some (sR v0), some (sR v1), some (sR v2), some (sR y33), some (sI (w32 (v4 + 1)))]) rfl ?_
        refine go_goto kk293_0.2.2.1.2.2.2 ?_
        exact HX19 y33 r34 (w32 (v4 + 1)) (inR_w32 _)
      refine go_ite (fun c37 => ?_) (fun c38 => ?_)
      · refine go_swh (lo := 0) (hi := 4) (i := 4) kk293_0.1.2.1.2.1.2 rfl rfl (by omega) (by omega) rfl ?_
        refine go_aload kk293_0.2.2.1.1.1.1 rfl ?_
        refine go_aload kk293_0.2.2.1.1.1.2 rfl ?_
        refine go_aload kk293_0.2.2.1.1.2.1 rfl ?_
        refine go_callP2 kk293_0.2.2.1.1.2.2 rfl rfl rfl ⟨by decide, _, rfl, hK0⟩ ⟨Nat.zero_le _, Nat.zero_le _⟩ (by omega) (tfT_oldest (by omega) hg hK0  h1 h2) (fun y39 r40 => ?_)
        refine go_astore kk293_0.2.2.1.2.1.1 rfl (loc2 := [some (sR v0), some (sR v1), some (sR v2), some (sR y39), some (sI v4)]) rfl ?_
        refine go_goto kk293_0.2.2.1.2.1.2 ?_
        refine go_iinc kk293_0.2.2.1.2.2.1 rfl rfl 1 rfl (loc2 := [some (sR v0), some (sR v1), some (sR v2), some (sR y39), some (sI (w32 (v4 + 1)))]) rfl ?_
        refine go_goto kk293_0.2.2.1.2.2.2 ?_
        exact HX19 y39 r40 (w32 (v4 + 1)) (inR_w32 _)
      refine go_swd (lo := 0) (hi := 4) kk293_0.1.2.1.2.1.2 rfl rfl r11 (by omega) (by omega) ?_
      refine go_iinc kk293_0.2.2.1.2.2.1 rfl rfl 1 rfl (loc2 := [some (sR v0), some (sR v1), some (sR v2), some (sR v3), some (sI (w32 (v4 + 1)))]) rfl ?_
      refine go_goto kk293_0.2.2.1.2.2.2 ?_
      exact HX19 v3 h3 (w32 (v4 + 1)) (inR_w32 _)
    · exact tjT_adopterOf_130 hd hg hK0 h3 (some (sR v1)) rfl (some (sR v2)) rfl (some (sI v4)) rfl
  · exact tjT_adopterOf_130 hd hg hK0 h3 (some (sR v1)) rfl (some (sR v2)) rfl (some (sI v4)) rfl
theorem tlT_adopterOf_19 {Φ : ev_P} {d : Nat} (hd : 3 ≤ d) {g : gH} (hg : HR g) {v0 v1 v2 : Int} (hK0 : kd v0 = 5) (h1 : RfR v1) (h2 : RfR v2) : ∀ n : Nat, ∀ (v3 : Int) (h3 : RfR v3) (v4 : Int) (h4 : InR v4), Go Φ pr_P (fP g) 2 (lT_adopterOf_19 g v0 v1 v2 n v3 v4) d pr_m293 19 [some (sR v0), some (sR v1), some (sR v2), some (sR v3), some (sI v4)] [] g 0 0 := by
  intro n
  induction n with
  | zero => intros; exact go_none
  | succ n ih => exact tbT_adopterOf_19 hd hg hK0 h1 h2 ih
theorem tfT_adopterOf {Φ : ev_P} {d : Nat} (hd : 3 ≤ d) {g : gH} (hg : HR g) {v0 v1 : Int} (hK0 : kd v0 = 5) (h1 : RfR v1) : Go Φ pr_P (fP g) 2 (fT_adopterOf g v0 v1) d (pr_P 293) 0 (ev_loc (pr_P 293).1 [(sR v0), (sR v1)]) [] g 0 0 := by
  show Go Φ pr_P (fP g) 2 (fT_adopterOf g v0 v1) d pr_m293 0 [some (sR v0), some (sR v1), none, none, none] [] g 0 0
  unfold fT_adopterOf
  refine go_aload kk293_0.1.1.1.1.1.1 rfl ?_
  refine go_ck (fun q1 => ?_)
  refine go_getR (bI := 2) kk293_0.1.1.1.1.1.2 hg q1 (by decide) rfl rfl (fun r2 => ?_)
  refine go_astore kk293_0.1.1.1.1.2.1 rfl (loc2 := [some (sR v0), some (sR v1), some (sR (g v1 2)), none, none]) rfl ?_
  refine go_aload kk293_0.1.1.1.1.2.2 rfl ?_
  refine go_isnull kk293_0.1.1.1.2.1.1  (fun c3 => ?_) (fun c4 => ?_)
  · refine go_aload kk293_0.1.1.1.2.1.2 rfl ?_
    refine go_getR (bI := 0) kk293_0.1.1.1.2.2.1 hg hK0 (by decide) rfl rfl (fun r5 => ?_)
    exact go_aret kk293_0.1.1.1.2.2.2 hg r5 ⟨Nat.zero_le _, Nat.zero_le _⟩ rfl
  · refine go_null kk293_0.1.1.2.1.1.1 ?_
    refine go_astore kk293_0.1.1.2.1.1.2 rfl (loc2 := [some (sR v0), some (sR v1), some (sR (g v1 2)), some (sR (-1)), none]) rfl ?_
    refine go_int kk293_0.1.1.2.1.2.1 0 rfl ?_
    refine go_istore kk293_0.1.1.2.1.2.2 rfl (loc2 := [some (sR v0), some (sR v1), some (sR (g v1 2)), some (sR (-1)), some (sI 0)]) rfl ?_
    exact tlT_adopterOf_19 hd hg hK0 h1 r2 fu (-1) rfR_null 0 (inR_b (Or.inl rfl))
theorem tbT_readZombiesOf_14 {Φ : ev_P} {d : Nat} (hd : 1 ≤ d) {v1 v3 v4 : Int} (h1 : RfR v1) (h3 : RfR v3) (h4 : InR v4) {X14 : Int → Int → gH → Option (Int × gH)} (HX14 : ∀ (v2 : Int) (h2 : InR v2) (v5 : Int) (h5 : InR v5) (g : gH) (hg : HR g) (u0 : Option ev_V) (w0 : nwo u0) (u6 : Option ev_V) (w6 : nwo u6), Go Φ pr_P fN 1 (X14 v2 v5 g) d pr_m302 14 [u0, some (sR v1), some (sI v2), some (sR v3), some (sI v4), some (sI v5), u6] [] g 0 0) : ∀ (v2 : Int) (h2 : InR v2) (v5 : Int) (h5 : InR v5) (g : gH) (hg : HR g) (u0 : Option ev_V) (w0 : nwo u0) (u6 : Option ev_V) (w6 : nwo u6), Go Φ pr_P fN 1 (bT_readZombiesOf_14 v1 v3 v4 X14 v2 v5 g) d pr_m302 14 [u0, some (sR v1), some (sI v2), some (sR v3), some (sI v4), some (sI v5), u6] [] g 0 0 := by
  intro v2 h2 v5 h5 g hg u0 w0 u6 w6
  unfold bT_readZombiesOf_14
  refine go_iload kk302_0.1.2.1.1.2 rfl ?_
  refine go_iload kk302_0.1.2.1.2.1 rfl ?_
  refine go_cmlt kk302_0.1.2.1.2.2 h5 h4 (fun c4 => ?_) (fun c5 => ?_)
  · refine go_aload kk302_0.1.2.2.1.1 rfl ?_
    refine go_iload kk302_0.1.2.2.1.2 rfl ?_
    refine go_ck (fun q7 => ?_)
    refine go_pald kk302_0.1.2.2.2.1 hg q7 (fun r6 => ?_)
    refine go_astore kk302_0.1.2.2.2.2 rfl (loc2 := [u0, some (sR v1), some (sI v2), some (sR v3), some (sI v4), some (sI v5), some (sR (g v3 v5))]) rfl ?_
    refine go_aload kk302_0.2.1.1.1.1 rfl ?_
    refine go_aload kk302_0.2.1.1.1.2 rfl ?_
    refine go_ck (fun q8 => ?_)
    refine go_callP3 kk302_0.2.1.1.2.1 rfl rfl rfl ⟨by decide, _, rfl, q8⟩ ⟨Nat.zero_le _, Nat.zero_le _⟩ (by omega) (tfP_isZombieOf (by omega) hg q8  h1) (fun y9 r10 => ?_)
    refine go_ifeq kk302_0.2.1.1.2.2 (inR_b r10) (fun c13 => ?_) (fun c14 => ?_)
    · refine go_iinc kk302_0.2.2.2.1.1 rfl rfl 1 rfl (loc2 := [u0, some (sR v1), some (sI v2), some (sR v3), some (sI v4), some (sI (w32 (v5 + 1))), some (sR (g v3 v5))]) rfl ?_
      refine go_goto kk302_0.2.2.2.1.2 ?_
      exact HX14 v2 h2 (w32 (v5 + 1)) (inR_w32 _) g hg u0 w0 (some (sR (g v3 v5))) rfl
    · refine go_aload kk302_0.2.1.2.1.1 rfl ?_
      refine go_int kk302_0.2.1.2.1.2 2 rfl ?_
      refine go_putI (bI := 1) kk302_0.2.1.2.2.1 hg q8 (by decide) rfl rfl (inR_of (by decide)) (fun g15 e16 => ?_)
      refine go_iload kk302_0.2.1.2.2.2 rfl ?_
      refine go_aload kk302_0.2.2.1.1.1 rfl ?_
      refine go_getI (bI := 9) kk302_0.2.2.1.1.2 e16 q8 (by decide) rfl rfl (fun r17 => ?_)
      refine go_iadd kk302_0.2.2.1.2.1 ?_
      refine go_istore kk302_0.2.2.1.2.2 rfl (loc2 := [u0, some (sR v1), some (sI (w32 (v2 + (g15 (g v3 v5) 9)))), some (sR v3), some (sI v4), some (sI v5), some (sR (g v3 v5))]) rfl ?_
      refine go_iinc kk302_0.2.2.2.1.1 rfl rfl 1 rfl (loc2 := [u0, some (sR v1), some (sI (w32 (v2 + (g15 (g v3 v5) 9)))), some (sR v3), some (sI v4), some (sI (w32 (v5 + 1))), some (sR (g v3 v5))]) rfl ?_
      refine go_goto kk302_0.2.2.2.1.2 ?_
      exact HX14 (w32 (v2 + (g15 (g v3 v5) 9))) (inR_w32 _) (w32 (v5 + 1)) (inR_w32 _) g15 e16 u0 w0 (some (sR (g v3 v5))) rfl
  · refine go_iload kk302_0.2.2.2.2.1 rfl ?_
    exact go_iret kk302_0.2.2.2.2.2 hg h2 ⟨Nat.zero_le _, Nat.zero_le _⟩ rfl
theorem tlT_readZombiesOf_14 {Φ : ev_P} {d : Nat} (hd : 1 ≤ d) {v1 v3 v4 : Int} (h1 : RfR v1) (h3 : RfR v3) (h4 : InR v4) : ∀ n : Nat, ∀ (v2 : Int) (h2 : InR v2) (v5 : Int) (h5 : InR v5) (g : gH) (hg : HR g) (u0 : Option ev_V) (w0 : nwo u0) (u6 : Option ev_V) (w6 : nwo u6), Go Φ pr_P fN 1 (lT_readZombiesOf_14 v1 v3 v4 n v2 v5 g) d pr_m302 14 [u0, some (sR v1), some (sI v2), some (sR v3), some (sI v4), some (sI v5), u6] [] g 0 0 := by
  intro n
  induction n with
  | zero => intros; exact go_none
  | succ n ih => exact tbT_readZombiesOf_14 hd h1 h3 h4 ih
theorem tfT_readZombiesOf {Φ : ev_P} {d : Nat} (hd : 1 ≤ d) {g : gH} (hg : HR g) {v0 v1 : Int} (hK0 : kd v0 = 5) (h1 : RfR v1) : Go Φ pr_P fN 1 (fT_readZombiesOf g v0 v1) d (pr_P 302) 0 (ev_loc (pr_P 302).1 [(sR v0), (sR v1)]) [] g 0 0 := by
  show Go Φ pr_P fN 1 (fT_readZombiesOf g v0 v1) d pr_m302 0 [some (sR v0), some (sR v1), none, none, none, none, none] [] g 0 0
  unfold fT_readZombiesOf
  refine go_int kk302_0.1.1.1.1.1.1 0 rfl ?_
  refine go_istore kk302_0.1.1.1.1.1.2 rfl (loc2 := [some (sR v0), some (sR v1), some (sI 0), none, none, none, none]) rfl ?_
  refine go_aload kk302_0.1.1.1.1.2 rfl ?_
  refine go_getR (bI := 1) kk302_0.1.1.1.2.1 hg hK0 (by decide) rfl rfl (fun r1 => ?_)
  refine go_astore kk302_0.1.1.1.2.2 rfl (loc2 := [some (sR v0), some (sR v1), some (sI 0), some (sR (g v0 1)), none, none, none]) rfl ?_
  refine go_aload kk302_0.1.1.2.1.1 rfl ?_
  refine go_ck (fun q3 => ?_)
  refine go_alen kk302_0.1.1.2.1.2 (ka_24 q3) (fun r2 => ?_)
  refine go_istore kk302_0.1.1.2.2.1 rfl (loc2 := [some (sR v0), some (sR v1), some (sI 0), some (sR (g v0 1)), some (sI (sz (g v0 1))), none, none]) rfl ?_
  refine go_int kk302_0.1.1.2.2.2 0 rfl ?_
  refine go_istore kk302_0.1.2.1.1.1 rfl (loc2 := [some (sR v0), some (sR v1), some (sI 0), some (sR (g v0 1)), some (sI (sz (g v0 1))), some (sI 0), none]) rfl ?_
  exact tlT_readZombiesOf_14 hd h1 r1 r2 fu 0 (inR_b (Or.inl rfl)) 0 (inR_b (Or.inl rfl)) g hg (some (sR v0)) rfl none rfl
theorem tjT_letExit_133 {Φ : ev_P} {d : Nat} (hd : 4 ≤ d) {X92 : Int → gH → Option (Int × gH)} {g : gH} (hg : HR g) {v0 v1 v3 v4 v5 v6 v7 v8 v9 : Int} (hK0 : kd v0 = 5) (h1 : RfR v1) (h3 : RfR v3) (h4 : InR v4) (h5 : RfR v5) (h6 : RfR v6) (h7 : InR v7) (h8 : InR v8) (h9 : RfR v9) {s0 : Int} (z0 : B01 s0) (HX92 : ∀ (v8 : Int) (h8 : InR v8) (g : gH) (hg : HR g) (u2 : Option ev_V) (w2 : nwo u2) (u9 : Option ev_V) (w9 : nwo u9) (u10 : Option ev_V) (w10 : nwo u10), Go Φ pr_P fN 1 (X92 v8 g) d pr_m287 92 [some (sR v0), some (sR v1), u2, some (sR v3), some (sI v4), some (sR v5), some (sR v6), some (sI v7), some (sI v8), u9, u10] [] g 0 0) (u2 : Option ev_V) (w2 : nwo u2) (u10 : Option ev_V) (w10 : nwo u10) : Go Φ pr_P fN 1 (jT_letExit_133 X92 g v0 v1 v3 v4 v5 v6 v7 v8 v9 s0 ) d pr_m287 133 [some (sR v0), some (sR v1), u2, some (sR v3), some (sI v4), some (sR v5), some (sR v6), some (sI v7), some (sI v8), some (sR v9), u10] [(sI s0)] g 0 0 := by
  unfold jT_letExit_133
  refine go_istore kk287_1.1.1.2.1.2.2 rfl (loc2 := [some (sR v0), some (sR v1), u2, some (sR v3), some (sI v4), some (sR v5), some (sR v6), some (sI v7), some (sI v8), some (sR v9), some (sI s0)]) rfl ?_
  refine go_aload kk287_1.1.1.2.2.1.1 rfl ?_
  refine go_aload kk287_1.1.1.2.2.1.2 rfl ?_
  refine go_iload kk287_1.1.1.2.2.2.1 rfl ?_
  refine go_ifeq kk287_1.1.1.2.2.2.2 (inR_b z0) (fun c53 => ?_) (fun c54 => ?_)
  · refine go_aload kk287_1.1.2.1.1.2.1 rfl ?_
    refine go_aload kk287_1.1.2.1.1.2.2 rfl ?_
    refine go_callP2 kk287_1.1.2.1.2.1.1 rfl rfl rfl ⟨by decide, _, rfl, hK0⟩ ⟨Nat.zero_le _, Nat.zero_le _⟩ (by omega) (tfT_adopterOf (by omega) hg hK0  h9) (fun y55 r56 => ?_)
    refine go_callN0 kk287_1.1.2.1.2.1.2 rfl rfl rfl ⟨by decide, _, rfl, hK0⟩ ⟨Nat.zero_le _, Nat.zero_le _⟩ (by omega) (tfT_adopt (by omega) hg hK0  h9 r56) (fun y59 g61 e62 => ?_)
    refine go_iinc kk287_1.1.2.1.2.2.1 rfl rfl 1 rfl (loc2 := [some (sR v0), some (sR v1), u2, some (sR v3), some (sI v4), some (sR v5), some (sR v6), some (sI v7), some (sI (w32 (v8 + 1))), some (sR v9), some (sI s0)]) rfl ?_
    refine go_goto kk287_1.1.2.1.2.2.2 ?_
    exact HX92 (w32 (v8 + 1)) (inR_w32 _) g61 e62 u2 w2 (some (sR v9)) rfl (some (sI s0)) rfl
  · refine go_aload kk287_1.1.2.1.1.1.1 rfl ?_
    refine go_goto kk287_1.1.2.1.1.1.2 ?_
    refine go_callN0 kk287_1.1.2.1.2.1.2 rfl rfl rfl ⟨by decide, _, rfl, hK0⟩ ⟨Nat.zero_le _, Nat.zero_le _⟩ (by omega) (tfT_adopt (by omega) hg hK0  h9 h5) (fun y63 g65 e66 => ?_)
    refine go_iinc kk287_1.1.2.1.2.2.1 rfl rfl 1 rfl (loc2 := [some (sR v0), some (sR v1), u2, some (sR v3), some (sI v4), some (sR v5), some (sR v6), some (sI v7), some (sI (w32 (v8 + 1))), some (sR v9), some (sI s0)]) rfl ?_
    refine go_goto kk287_1.1.2.1.2.2.2 ?_
    exact HX92 (w32 (v8 + 1)) (inR_w32 _) g65 e66 u2 w2 (some (sR v9)) rfl (some (sI s0)) rfl
theorem tjT_letExit_132 {Φ : ev_P} {d : Nat} (hd : 4 ≤ d) {X92 : Int → gH → Option (Int × gH)} {g : gH} (hg : HR g) {v0 v1 v3 v4 v5 v6 v7 v8 v9 : Int} (hK0 : kd v0 = 5) (h1 : RfR v1) (h3 : RfR v3) (h4 : InR v4) (h5 : RfR v5) (h6 : RfR v6) (h7 : InR v7) (h8 : InR v8) (h9 : RfR v9) (HX92 : ∀ (v8 : Int) (h8 : InR v8) (g : gH) (hg : HR g) (u2 : Option ev_V) (w2 : nwo u2) (u9 : Option ev_V) (w9 : nwo u9) (u10 : Option ev_V) (w10 : nwo u10), Go Φ pr_P fN 1 (X92 v8 g) d pr_m287 92 [some (sR v0), some (sR v1), u2, some (sR v3), some (sI v4), some (sR v5), some (sR v6), some (sI v7), some (sI v8), u9, u10] [] g 0 0) (u2 : Option ev_V) (w2 : nwo u2) (u10 : Option ev_V) (w10 : nwo u10) : Go Φ pr_P fN 1 (jT_letExit_132 X92 g v0 v1 v3 v4 v5 v6 v7 v8 v9 ) d pr_m287 132 [some (sR v0), some (sR v1), u2, some (sR v3), some (sI v4), some (sR v5), some (sR v6), some (sI v7), some (sI v8), some (sR v9), u10] [] g 0 0 := by
  unfold jT_letExit_132
  refine go_int kk287_1.1.1.2.1.2.1 0 rfl ?_
  exact tjT_letExit_133 hd hg hK0 h1 h3 h4 h5 h6 h7 h8 h9 (Or.inl rfl) HX92 u2 w2 u10 w10
theorem tjT_letExit_212 {Φ : ev_P} {d : Nat} (hd : 4 ≤ d) {g : gH} (hg : HR g) {v0 v3 v4 : Int} (hK0 : kd v0 = 5) (h3 : RfR v3) (h4 : InR v4) (u1 : Option ev_V) (w1 : nwo u1) (u2 : Option ev_V) (w2 : nwo u2) (u5 : Option ev_V) (w5 : nwo u5) (u6 : Option ev_V) (w6 : nwo u6) (u7 : Option ev_V) (w7 : nwo u7) (u8 : Option ev_V) (w8 : nwo u8) (u9 : Option ev_V) (w9 : nwo u9) (u10 : Option ev_V) (w10 : nwo u10) : Go Φ pr_P fN 1 (jT_letExit_212 g v0 v3 v4 ) d pr_m287 212 [some (sR v0), u1, u2, some (sR v3), some (sI v4), u5, u6, u7, u8, u9, u10] [] g 0 0 := by
  unfold jT_letExit_212
  refine go_aload kk287_1.2.2.1.1.1.2 rfl ?_
  refine go_aload kk287_1.2.2.1.1.2.1 rfl ?_
  refine go_getR (bI := 0) kk287_1.2.2.1.1.2.2 hg hK0 (by decide) rfl rfl (fun r83 => ?_)
  refine go_acmp kk287_1.2.2.1.2.1.1 h3 r83 (fun c84 => ?_) (fun c85 => ?_)
  · refine go_aload kk287_1.2.2.1.2.1.2 rfl ?_
    refine go_aload kk287_1.2.2.1.2.2.1 rfl ?_
    refine go_getR (bI := 0) kk287_1.2.2.1.2.2.2 hg hK0 (by decide) rfl rfl (fun r86 => ?_)
    refine go_callN1 kk287_1.2.2.2.1.1.1 rfl rfl rfl ⟨by decide, _, rfl, hK0⟩ ⟨Nat.zero_le _, Nat.zero_le _⟩ (by omega) (tfT_readZombiesOf (by omega) hg hK0  r86) (fun y87 g89 r88 e90 => ?_)
    refine go_popI kk287_1.2.2.2.1.1.2 ?_
    refine go_aload kk287_1.2.2.2.1.2.1 rfl ?_
    refine go_getI (bI := 8) kk287_1.2.2.2.1.2.2 e90 hK0 (by decide) rfl rfl (fun r91 => ?_)
    refine go_iload kk287_1.2.2.2.2.1.1 rfl ?_
    refine go_isub kk287_1.2.2.2.2.1.2 ?_
    exact go_iret kk287_1.2.2.2.2.2 e90 (inR_w32 _) ⟨Nat.zero_le _, Nat.zero_le _⟩ rfl
  · refine go_aload kk287_1.2.2.2.1.2.1 rfl ?_
    refine go_getI (bI := 8) kk287_1.2.2.2.1.2.2 hg hK0 (by decide) rfl rfl (fun r92 => ?_)
    refine go_iload kk287_1.2.2.2.2.1.1 rfl ?_
    refine go_isub kk287_1.2.2.2.2.1.2 ?_
    exact go_iret kk287_1.2.2.2.2.2 hg (inR_w32 _) ⟨Nat.zero_le _, Nat.zero_le _⟩ rfl
theorem tbT_letExit_177 {Φ : ev_P} {d : Nat} (hd : 4 ≤ d) {v0 v1 v3 v4 v6 v7 : Int} (hK0 : kd v0 = 5) (h1 : RfR v1) (h3 : RfR v3) (h4 : InR v4) (h6 : RfR v6) (h7 : InR v7) {X177 : Int → gH → Option (Int × gH)} (HX177 : ∀ (v8 : Int) (h8 : InR v8) (g : gH) (hg : HR g) (u2 : Option ev_V) (w2 : nwo u2) (u5 : Option ev_V) (w5 : nwo u5) (u9 : Option ev_V) (w9 : nwo u9) (u10 : Option ev_V) (w10 : nwo u10), Go Φ pr_P fN 1 (X177 v8 g) d pr_m287 177 [some (sR v0), some (sR v1), u2, some (sR v3), some (sI v4), u5, some (sR v6), some (sI v7), some (sI v8), u9, u10] [] g 0 0) : ∀ (v8 : Int) (h8 : InR v8) (g : gH) (hg : HR g) (u2 : Option ev_V) (w2 : nwo u2) (u5 : Option ev_V) (w5 : nwo u5) (u9 : Option ev_V) (w9 : nwo u9) (u10 : Option ev_V) (w10 : nwo u10), Go Φ pr_P fN 1 (bT_letExit_177 v0 v1 v3 v4 v6 v7 X177 v8 g) d pr_m287 177 [some (sR v0), some (sR v1), u2, some (sR v3), some (sI v4), u5, some (sR v6), some (sI v7), some (sI v8), u9, u10] [] g 0 0 := by
  intro v8 h8 g hg u2 w2 u5 w5 u9 w9 u10 w10
  unfold bT_letExit_177
  refine go_iload kk287_1.2.1.1.1.1.2 rfl ?_
  refine go_iload kk287_1.2.1.1.1.2.1 rfl ?_
  refine go_cmlt kk287_1.2.1.1.1.2.2 h8 h7 (fun c70 => ?_) (fun c71 => ?_)
  · refine go_aload kk287_1.2.1.1.2.1.1 rfl ?_
    refine go_iload kk287_1.2.1.1.2.1.2 rfl ?_
    refine go_ck (fun q73 => ?_)
    refine go_pald kk287_1.2.1.1.2.2.1 hg q73 (fun r72 => ?_)
    refine go_astore kk287_1.2.1.1.2.2.2 rfl (loc2 := [some (sR v0), some (sR v1), u2, some (sR v3), some (sI v4), u5, some (sR v6), some (sI v7), some (sI v8), some (sR (g v6 v8)), u10]) rfl ?_
    refine go_aload kk287_1.2.1.2.1.1.1 rfl ?_
    refine go_aload kk287_1.2.1.2.1.1.2 rfl ?_
    refine go_ck (fun q74 => ?_)
    refine go_callP3 kk287_1.2.1.2.1.2.1 rfl rfl rfl ⟨by decide, _, rfl, q74⟩ ⟨Nat.zero_le _, Nat.zero_le _⟩ (by omega) (tfP_isZombieOf (by omega) hg q74  h1) (fun y75 r76 => ?_)
    refine go_ifeq kk287_1.2.1.2.1.2.2 (inR_b r76) (fun c79 => ?_) (fun c80 => ?_)
    · refine go_iinc kk287_1.2.1.2.2.2.2 rfl rfl 1 rfl (loc2 := [some (sR v0), some (sR v1), u2, some (sR v3), some (sI v4), u5, some (sR v6), some (sI v7), some (sI (w32 (v8 + 1))), some (sR (g v6 v8)), u10]) rfl ?_
      refine go_goto kk287_1.2.2.1.1.1.1 ?_
      exact HX177 (w32 (v8 + 1)) (inR_w32 _) g hg u2 w2 u5 w5 (some (sR (g v6 v8))) rfl u10 w10
    · refine go_aload kk287_1.2.1.2.2.1.1 rfl ?_
      refine go_aload kk287_1.2.1.2.2.1.2 rfl ?_
      refine go_putR (bI := 2) kk287_1.2.1.2.2.2.1 hg q74 (by decide) rfl rfl h3 (fun g81 e82 => ?_)
      refine go_iinc kk287_1.2.1.2.2.2.2 rfl rfl 1 rfl (loc2 := [some (sR v0), some (sR v1), u2, some (sR v3), some (sI v4), u5, some (sR v6), some (sI v7), some (sI (w32 (v8 + 1))), some (sR (g v6 v8)), u10]) rfl ?_
      refine go_goto kk287_1.2.2.1.1.1.1 ?_
      exact HX177 (w32 (v8 + 1)) (inR_w32 _) g81 e82 u2 w2 u5 w5 (some (sR (g v6 v8))) rfl u10 w10
  · exact tjT_letExit_212 hd hg hK0 h3 h4 (some (sR v1)) rfl u2 w2 u5 w5 (some (sR v6)) rfl (some (sI v7)) rfl (some (sI v8)) rfl u9 w9 u10 w10
theorem tlT_letExit_177 {Φ : ev_P} {d : Nat} (hd : 4 ≤ d) {v0 v1 v3 v4 v6 v7 : Int} (hK0 : kd v0 = 5) (h1 : RfR v1) (h3 : RfR v3) (h4 : InR v4) (h6 : RfR v6) (h7 : InR v7) : ∀ n : Nat, ∀ (v8 : Int) (h8 : InR v8) (g : gH) (hg : HR g) (u2 : Option ev_V) (w2 : nwo u2) (u5 : Option ev_V) (w5 : nwo u5) (u9 : Option ev_V) (w9 : nwo u9) (u10 : Option ev_V) (w10 : nwo u10), Go Φ pr_P fN 1 (lT_letExit_177 v0 v1 v3 v4 v6 v7 n v8 g) d pr_m287 177 [some (sR v0), some (sR v1), u2, some (sR v3), some (sI v4), u5, some (sR v6), some (sI v7), some (sI v8), u9, u10] [] g 0 0 := by
  intro n
  induction n with
  | zero => intros; exact go_none
  | succ n ih => exact tbT_letExit_177 hd hK0 h1 h3 h4 h6 h7 ih
theorem tjT_letExit_163 {Φ : ev_P} {d : Nat} (hd : 4 ≤ d) {g : gH} (hg : HR g) {v0 v1 v3 v4 : Int} (hK0 : kd v0 = 5) (h1 : RfR v1) (h3 : RfR v3) (h4 : InR v4) (u2 : Option ev_V) (w2 : nwo u2) (u5 : Option ev_V) (w5 : nwo u5) (u6 : Option ev_V) (w6 : nwo u6) (u7 : Option ev_V) (w7 : nwo u7) (u8 : Option ev_V) (w8 : nwo u8) (u9 : Option ev_V) (w9 : nwo u9) (u10 : Option ev_V) (w10 : nwo u10) : Go Φ pr_P fN 1 (jT_letExit_163 g v0 v1 v3 v4 ) d pr_m287 163 [some (sR v0), some (sR v1), u2, some (sR v3), some (sI v4), u5, u6, u7, u8, u9, u10] [] g 0 0 := by
  unfold jT_letExit_163
  refine go_aload kk287_1.1.2.2.1.1.1 rfl ?_
  refine go_getR (bI := 1) kk287_1.1.2.2.1.1.2 hg hK0 (by decide) rfl rfl (fun r67 => ?_)
  refine go_astore kk287_1.1.2.2.1.2.1 w5 (loc2 := [some (sR v0), some (sR v1), u2, some (sR v3), some (sI v4), u5, some (sR (g v0 1)), u7, u8, u9, u10]) rfl ?_
  refine go_aload kk287_1.1.2.2.1.2.2 rfl ?_
  refine go_ck (fun q69 => ?_)
  refine go_alen kk287_1.1.2.2.2.1.1 (ka_24 q69) (fun r68 => ?_)
  refine go_istore kk287_1.1.2.2.2.1.2 rfl (loc2 := [some (sR v0), some (sR v1), u2, some (sR v3), some (sI v4), u5, some (sR (g v0 1)), some (sI (sz (g v0 1))), u8, u9, u10]) rfl ?_
  refine go_int kk287_1.1.2.2.2.2 0 rfl ?_
  refine go_istore kk287_1.2.1.1.1.1.1 rfl (loc2 := [some (sR v0), some (sR v1), u2, some (sR v3), some (sI v4), u5, some (sR (g v0 1)), some (sI (sz (g v0 1))), some (sI 0), u9, u10]) rfl ?_
  exact tlT_letExit_177 hd hK0 h1 h3 h4 r67 r68 fu 0 (inR_b (Or.inl rfl)) g hg u2 w2 u5 w5 u9 w9 u10 w10
theorem tbT_letExit_92 {Φ : ev_P} {d : Nat} (hd : 4 ≤ d) {v0 v1 v3 v4 v5 v6 v7 : Int} (hK0 : kd v0 = 5) (h1 : RfR v1) (h3 : RfR v3) (h4 : InR v4) (h5 : RfR v5) (h6 : RfR v6) (h7 : InR v7) {X92 : Int → gH → Option (Int × gH)} (HX92 : ∀ (v8 : Int) (h8 : InR v8) (g : gH) (hg : HR g) (u2 : Option ev_V) (w2 : nwo u2) (u9 : Option ev_V) (w9 : nwo u9) (u10 : Option ev_V) (w10 : nwo u10), Go Φ pr_P fN 1 (X92 v8 g) d pr_m287 92 [some (sR v0), some (sR v1), u2, some (sR v3), some (sI v4), some (sR v5), some (sR v6), some (sI v7), some (sI v8), u9, u10] [] g 0 0) : ∀ (v8 : Int) (h8 : InR v8) (g : gH) (hg : HR g) (u2 : Option ev_V) (w2 : nwo u2) (u9 : Option ev_V) (w9 : nwo u9) (u10 : Option ev_V) (w10 : nwo u10), Go Φ pr_P fN 1 (bT_letExit_92 v0 v1 v3 v4 v5 v6 v7 X92 v8 g) d pr_m287 92 [some (sR v0), some (sR v1), u2, some (sR v3), some (sI v4), some (sR v5), some (sR v6), some (sI v7), some (sI v8), u9, u10] [] g 0 0 := by
  intro v8 h8 g hg u2 w2 u9 w9 u10 w10
  unfold bT_letExit_92
  refine go_iload kk287_0.2.2.1.2.2.2 rfl ?_
  refine go_iload kk287_0.2.2.2.1.1.1 rfl ?_
  refine go_cmlt kk287_0.2.2.2.1.1.2 h8 h7 (fun c33 => ?_) (fun c34 => ?_)
  · refine go_aload kk287_0.2.2.2.1.2.1 rfl ?_
    refine go_iload kk287_0.2.2.2.1.2.2 rfl ?_
    refine go_ck (fun q36 => ?_)
    refine go_pald kk287_0.2.2.2.2.1.1 hg q36 (fun r35 => ?_)
    refine go_astore kk287_0.2.2.2.2.1.2 rfl (loc2 := [some (sR v0), some (sR v1), u2, some (sR v3), some (sI v4), some (sR v5), some (sR v6), some (sI v7), some (sI v8), some (sR (g v6 v8)), u10]) rfl ?_
    refine go_aload kk287_0.2.2.2.2.2 rfl ?_
    refine go_aload kk287_1.1.1.1.1.1.1 rfl ?_
    refine go_ck (fun q37 => ?_)
    refine go_callP3 kk287_1.1.1.1.1.1.2 rfl rfl rfl ⟨by decide, _, rfl, q37⟩ ⟨Nat.zero_le _, Nat.zero_le _⟩ (by omega) (tfP_isRunningChildOf (by omega) hg q37  h1) (fun y38 r39 => ?_)
    refine go_ifeq kk287_1.1.1.1.1.2.1 (inR_b r39) (fun c42 => ?_) (fun c43 => ?_)
    · refine go_iinc kk287_1.1.2.1.2.2.1 rfl rfl 1 rfl (loc2 := [some (sR v0), some (sR v1), u2, some (sR v3), some (sI v4), some (sR v5), some (sR v6), some (sI v7), some (sI (w32 (v8 + 1))), some (sR (g v6 v8)), u10]) rfl ?_
      refine go_goto kk287_1.1.2.1.2.2.2 ?_
      exact HX92 (w32 (v8 + 1)) (inR_w32 _) g hg u2 w2 (some (sR (g v6 v8))) rfl u10 w10
    · refine go_aload kk287_1.1.1.1.1.2.2 rfl ?_
      refine go_isnull kk287_1.1.1.1.2.1.1  (fun c44 => ?_) (fun c45 => ?_)
      · exact tjT_letExit_132 hd hg hK0 h1 h3 h4 h5 h6 h7 h8 r35 HX92 u2 w2 u10 w10
      · refine go_aload kk287_1.1.1.1.2.1.2 rfl ?_
        refine go_ck (fun q46 => ?_)
        refine go_callP1 kk287_1.1.1.1.2.2.1 rfl rfl rfl ⟨by decide, _, rfl, q46⟩ ⟨Nat.zero_le _, Nat.zero_le _⟩ (by omega) (tfP_room (by omega) hg q46 ) (fun y47 r48 => ?_)
        refine go_ifgt kk287_1.1.1.1.2.2.2 r48 (fun c51 => ?_) (fun c52 => ?_)
        · refine go_int kk287_1.1.1.2.1.1.1 1 rfl ?_
          refine go_goto kk287_1.1.1.2.1.1.2 ?_
          exact tjT_letExit_133 hd hg hK0 h1 h3 h4 h5 h6 h7 h8 r35 (Or.inr rfl) HX92 u2 w2 u10 w10
        · exact tjT_letExit_132 hd hg hK0 h1 h3 h4 h5 h6 h7 h8 r35 HX92 u2 w2 u10 w10
  · exact tjT_letExit_163 hd hg hK0 h1 h3 h4 u2 w2 (some (sR v5)) rfl (some (sR v6)) rfl (some (sI v7)) rfl (some (sI v8)) rfl u9 w9 u10 w10
theorem tlT_letExit_92 {Φ : ev_P} {d : Nat} (hd : 4 ≤ d) {v0 v1 v3 v4 v5 v6 v7 : Int} (hK0 : kd v0 = 5) (h1 : RfR v1) (h3 : RfR v3) (h4 : InR v4) (h5 : RfR v5) (h6 : RfR v6) (h7 : InR v7) : ∀ n : Nat, ∀ (v8 : Int) (h8 : InR v8) (g : gH) (hg : HR g) (u2 : Option ev_V) (w2 : nwo u2) (u9 : Option ev_V) (w9 : nwo u9) (u10 : Option ev_V) (w10 : nwo u10), Go Φ pr_P fN 1 (lT_letExit_92 v0 v1 v3 v4 v5 v6 v7 n v8 g) d pr_m287 92 [some (sR v0), some (sR v1), u2, some (sR v3), some (sI v4), some (sR v5), some (sR v6), some (sI v7), some (sI v8), u9, u10] [] g 0 0 := by
  intro n
  induction n with
  | zero => intros; exact go_none
  | succ n ih => exact tbT_letExit_92 hd hK0 h1 h3 h4 h5 h6 h7 ih
theorem tjT_letExit_69 {Φ : ev_P} {d : Nat} (hd : 4 ≤ d) {g : gH} (hg : HR g) {v0 v1 v3 v4 : Int} (hK0 : kd v0 = 5) (h1 : RfR v1) (h3 : RfR v3) (h4 : InR v4) {s0 : Int} (z0 : RfR s0) (u2 : Option ev_V) (w2 : nwo u2) (u5 : Option ev_V) (w5 : nwo u5) (u6 : Option ev_V) (w6 : nwo u6) (u7 : Option ev_V) (w7 : nwo u7) (u8 : Option ev_V) (w8 : nwo u8) (u9 : Option ev_V) (w9 : nwo u9) (u10 : Option ev_V) (w10 : nwo u10) : Go Φ pr_P fN 1 (jT_letExit_69 g v0 v1 v3 v4 s0 ) d pr_m287 69 [some (sR v0), some (sR v1), u2, some (sR v3), some (sI v4), u5, u6, u7, u8, u9, u10] [(sR s0)] g 0 0 := by
  unfold jT_letExit_69
  refine go_astore kk287_0.2.1.2.1.1.2 rfl (loc2 := [some (sR v0), some (sR v1), u2, some (sR v3), some (sI v4), some (sR s0), u6, u7, u8, u9, u10]) rfl ?_
  refine go_aload kk287_0.2.1.2.1.2.1 rfl ?_
  refine go_aload kk287_0.2.1.2.1.2.2 rfl ?_
  refine go_aload kk287_0.2.1.2.2.1.1 rfl ?_
  refine go_callN0 kk287_0.2.1.2.2.1.2 rfl rfl rfl ⟨by decide, _, rfl, hK0⟩ ⟨Nat.zero_le _, Nat.zero_le _⟩ (by omega) (tfT_passDuties (by omega) hg hK0  h1 z0) (fun y26 g28 e29 => ?_)
  refine go_aload kk287_0.2.1.2.2.2 rfl ?_
  refine go_getR (bI := 1) kk287_0.2.2.1.1.1.1 e29 hK0 (by decide) rfl rfl (fun r30 => ?_)
  refine go_astore kk287_0.2.2.1.1.1.2 rfl (loc2 := [some (sR v0), some (sR v1), u2, some (sR v3), some (sI v4), some (sR s0), some (sR (g28 v0 1)), u7, u8, u9, u10]) rfl ?_
  refine go_aload kk287_0.2.2.1.1.2.1 rfl ?_
  refine go_ck (fun q32 => ?_)
  refine go_alen kk287_0.2.2.1.1.2.2 (ka_24 q32) (fun r31 => ?_)
  refine go_istore kk287_0.2.2.1.2.1.1 rfl (loc2 := [some (sR v0), some (sR v1), u2, some (sR v3), some (sI v4), some (sR s0), some (sR (g28 v0 1)), some (sI (sz (g28 v0 1))), u8, u9, u10]) rfl ?_
  refine go_int kk287_0.2.2.1.2.1.2 0 rfl ?_
  refine go_istore kk287_0.2.2.1.2.2.1 rfl (loc2 := [some (sR v0), some (sR v1), u2, some (sR v3), some (sI v4), some (sR s0), some (sR (g28 v0 1)), some (sI (sz (g28 v0 1))), some (sI 0), u9, u10]) rfl ?_
  exact tlT_letExit_92 hd hK0 h1 h3 h4 z0 r30 r31 fu 0 (inR_b (Or.inl rfl)) g28 e29 u2 w2 u9 w9 u10 w10
theorem tfT_letExit {Φ : ev_P} {d : Nat} (hd : 4 ≤ d) {g : gH} (hg : HR g) {v0 v1 v2 : Int} (hK0 : kd v0 = 5) (h1 : RfR v1) (h2 : InR v2) : Go Φ pr_P fN 1 (fT_letExit g v0 v1 v2) d (pr_P 287) 0 (ev_loc (pr_P 287).1 [(sR v0), (sR v1), (sI v2)]) [] g 0 0 := by
  show Go Φ pr_P fN 1 (fT_letExit g v0 v1 v2) d pr_m287 0 [some (sR v0), some (sR v1), some (sI v2), none, none, none, none, none, none, none, none] [] g 0 0
  unfold fT_letExit
  refine go_aload kk287_0.1.1.1.1.1.1 rfl ?_
  refine go_ck (fun q1 => ?_)
  refine go_getR (bI := 2) kk287_0.1.1.1.1.1.2 hg q1 (by decide) rfl rfl (fun r2 => ?_)
  refine go_astore kk287_0.1.1.1.1.2.1 rfl (loc2 := [some (sR v0), some (sR v1), some (sI v2), some (sR (g v1 2)), none, none, none, none, none, none, none]) rfl ?_
  refine go_aload kk287_0.1.1.1.1.2.2 rfl ?_
  refine go_isnull kk287_0.1.1.1.2.1.1  (fun c3 => ?_) (fun c4 => ?_)
  · refine go_int kk287_0.1.1.1.2.1.2 0 rfl ?_
    exact go_iret kk287_0.1.1.1.2.2.1 hg (inR_b (Or.inl rfl)) ⟨Nat.zero_le _, Nat.zero_le _⟩ rfl
  · refine go_aload kk287_0.1.1.1.2.2.2 rfl ?_
    refine go_getI (bI := 8) kk287_0.1.1.2.1.1.1 hg hK0 (by decide) rfl rfl (fun r5 => ?_)
    refine go_istore kk287_0.1.1.2.1.1.2 rfl (loc2 := [some (sR v0), some (sR v1), some (sI v2), some (sR (g v1 2)), some (sI (g v0 8)), none, none, none, none, none, none]) rfl ?_
    refine go_aload kk287_0.1.1.2.1.2.1 rfl ?_
    refine go_int kk287_0.1.1.2.1.2.2 1 rfl ?_
    refine go_putI (bI := 1) kk287_0.1.1.2.2.1.1 hg q1 (by decide) rfl rfl (inR_b (Or.inr rfl)) (fun g6 e7 => ?_)
    refine go_aload kk287_0.1.1.2.2.1.2 rfl ?_
    refine go_iload kk287_0.1.1.2.2.2.1 rfl ?_
    refine go_putI (bI := 9) kk287_0.1.1.2.2.2.2 e7 q1 (by decide) rfl rfl h2 (fun g8 e9 => ?_)
    refine go_aload kk287_0.1.2.1.1.1.1 rfl ?_
    refine go_aload kk287_0.1.2.1.1.1.2 rfl ?_
    refine go_getI (bI := 6) kk287_0.1.2.1.1.2.1 e9 hK0 (by decide) rfl rfl (fun r10 => ?_)
    refine go_putI (bI := 10) kk287_0.1.2.1.1.2.2 e9 q1 (by decide) rfl rfl r10 (fun g11 e12 => ?_)
    refine go_aload kk287_0.1.2.1.2.1.1 rfl ?_
    refine go_dupR kk287_0.1.2.1.2.1.2 ?_
    refine go_getI (bI := 6) kk287_0.1.2.1.2.2.1 e12 hK0 (by decide) rfl rfl (fun r13 => ?_)
    refine go_int kk287_0.1.2.1.2.2.2 1 rfl ?_
    refine go_iadd kk287_0.1.2.2.1.1.1 ?_
    refine go_putI (bI := 6) kk287_0.1.2.2.1.1.2 e12 hK0 (by decide) rfl rfl (inR_w32 _) (fun g14 e15 => ?_)
    refine go_aload kk287_0.1.2.2.1.2.1 rfl ?_
    refine go_dupR kk287_0.1.2.2.1.2.2 ?_
    refine go_ck (fun q16 => ?_)
    refine go_getI (bI := 3) kk287_0.1.2.2.2.1.1 e15 q16 (by decide) rfl rfl (fun r17 => ?_)
    refine go_int kk287_0.1.2.2.2.1.2 1 rfl ?_
    refine go_isub kk287_0.1.2.2.2.2 ?_
    refine go_putI (bI := 3) kk287_0.2.1.1.1.1.1 e15 q16 (by decide) rfl rfl (inR_w32 _) (fun g18 e19 => ?_)
    refine go_iload kk287_0.2.1.1.1.1.2 rfl ?_
    refine go_ifeq kk287_0.2.1.1.1.2.1 h2 (fun c20 => ?_) (fun c21 => ?_)
    · refine go_null kk287_0.2.1.1.1.2.2 ?_
      refine go_goto kk287_0.2.1.1.2.1.1 ?_
      exact tjT_letExit_69 hd e19 hK0 h1 r2 r5 rfR_null (some (sI v2)) rfl none rfl none rfl none rfl none rfl none rfl none rfl
    · refine go_aload kk287_0.2.1.1.2.1.2 rfl ?_
      refine go_aload kk287_0.2.1.1.2.2.1 rfl ?_
      refine go_aload kk287_0.2.1.1.2.2.2 rfl ?_
      refine go_callN2 kk287_0.2.1.2.1.1.1 rfl rfl rfl ⟨by decide, _, rfl, hK0⟩ ⟨Nat.zero_le _, Nat.zero_le _⟩ (by omega) (tfT_replace (by omega) e19 hK0  h1 r2) (fun y22 g24 r23 e25 => ?_)
      exact tjT_letExit_69 hd e25 hK0 h1 r2 r5 r23 (some (sI v2)) rfl none rfl none rfl none rfl none rfl none rfl none rfl
theorem tfC_exit {Φ : ev_P} {d : Nat} (hd : 5 ≤ d) {g : gH} (hg : HR g) {v0 v1 v2 : Int} (hK0 : kd v0 = 6) (h1 : InR v1) (h2 : InR v2) : Go Φ pr_P fT 1 (fC_exit g v0 v1 v2) d (pr_P 18) 0 (ev_loc (pr_P 18).1 [(sR v0), (sI v1), (sI v2)]) [] g 0 0 := by
  show Go Φ pr_P fT 1 (fC_exit g v0 v1 v2) d pr_m18 0 [some (sR v0), some (sI v1), some (sI v2), none] [] g 0 0
  unfold fC_exit
  refine go_aload kk18_0.1.1.1.1 rfl ?_
  refine go_iload kk18_0.1.1.1.2 rfl ?_
  refine go_iload kk18_0.1.1.2.1 rfl ?_
  refine go_callQ2 kk18_0.1.1.2.2 rfl rfl rfl ⟨by decide, _, rfl, hK0⟩ ⟨by decide, by decide⟩ (by omega) (tfC_namedForExit (by omega) hg hK0  h1 h2) (fun y1 r2 => ?_) (fun e5 E6 => ge_prop rfl ⟨by decide, by decide⟩ e5 rfl)
  refine go_astore kk18_0.1.2.1.1 rfl (loc2 := [some (sR v0), some (sI v1), some (sI v2), some (sR y1)]) rfl ?_
  refine go_aload kk18_0.1.2.1.2 rfl ?_
  refine go_getR (bI := 3) kk18_0.1.2.2.1 hg hK0 (by decide) rfl rfl (fun r7 => ?_)
  refine go_aload kk18_0.1.2.2.2 rfl ?_
  refine go_getR (bI := 0) kk18_0.2.1.1.1 hg hK0 (by decide) rfl rfl (fun r8 => ?_)
  refine go_ck (fun q9 => ?_)
  refine go_callN0 kk18_0.2.1.1.2 rfl rfl rfl ⟨by decide, _, rfl, q9⟩ ⟨by decide, by decide⟩ (by omega) (tfH_push (by omega) hg q9  r8) (fun y10 g12 e13 => ?_)
  refine go_aload kk18_0.2.1.2.1 rfl ?_
  refine go_getR (bI := 0) kk18_0.2.1.2.2 e13 hK0 (by decide) rfl rfl (fun r14 => ?_)
  refine go_aload kk18_0.2.2.1.1 rfl ?_
  refine go_iload kk18_0.2.2.1.2 rfl ?_
  refine go_ck (fun q15 => ?_)
  refine go_callN1 kk18_0.2.2.2.1 rfl rfl rfl ⟨by decide, _, rfl, q15⟩ ⟨by decide, by decide⟩ (by omega) (tfT_letExit (by omega) e13 q15  r2 h2) (fun y16 g18 r17 e19 => ?_)
  exact go_iret kk18_0.2.2.2.2 e19 r17 ⟨by decide, by decide⟩ rfl
theorem tfW_exit {Φ : ev_P} {d : Nat} (hd : 6 ≤ d) {g : gH} (hg : HR g) {v0 v1 v2 v3 : Int} (h0 : RfR v0) (h1 : InR v1) (h2 : InR v2) (h3 : RfR v3) : Go Φ pr_P fN 1 (fW_exit g v0 v1 v2 v3) d (pr_P 314) 0 (ev_loc (pr_P 314).1 [(sR v0), (sI v1), (sI v2), (sR v3)]) [] g 0 0 := by
  show Go Φ pr_P fN 1 (fW_exit g v0 v1 v2 v3) d pr_m314 0 [some (sR v0), some (sI v1), some (sI v2), some (sR v3), none] [] g 0 0
  unfold fW_exit
  refine go_aload kk314_0.1.1.1.1.1 rfl ?_
  refine go_int kk314_0.1.1.1.1.2 0 rfl ?_
  refine go_aload kk314_0.1.1.1.2 rfl ?_
  refine go_iload kk314_0.1.1.2.1 rfl ?_
  refine go_iload kk314_0.1.1.2.2 rfl ?_
  refine go_ck (fun q1 => ?_)
  refine go_callT1 kk314_0.1.2.1.1.1 rfl rfl rfl ⟨by decide, _, rfl, q1⟩ ⟨by decide, by decide⟩ (by omega) (tfC_exit (by omega) hg q1  h1 h2) (fun y2 g4 r3 e5 => ?_) (fun E7 g4 e6 => ?_)
  · refine go_i2l kk314_0.1.2.1.1.2 r3 ?_
    refine go_ck (fun q8 => ?_)
    refine go_last kk314_0.1.2.1.2 e5 q8 (inL_R r3) (fun g9 e10 => ?_)
    refine go_goto kk314_0.1.2.2.1 ?_
    refine go_int kk314_0.2.2.2.1 0 rfl ?_
    exact go_iret kk314_0.2.2.2.2 e10 (inR_b (Or.inl rfl)) ⟨by decide, by decide⟩ rfl
  · refine ge_ite (fun hE9 => ?_) (fun _ => ?_)
    · subst hE9
      refine ge_catch rfl kk314_0.1.2.2.2 rfl (loc2 := [some (sR v0), some (sI v1), some (sI v2), some (sR v3), none]) rfl ?_
      refine go_int kk314_0.2.1.1.1.1 1 rfl ?_
      exact go_iret kk314_0.2.1.1.1.2 e6 (inR_b (Or.inr rfl)) ⟨by decide, by decide⟩ rfl
    refine ge_ite (fun hE9 => ?_) (fun _ => ?_)
    · subst hE9
      refine ge_catch rfl kk314_0.2.1.1.2 rfl (loc2 := [some (sR v0), some (sI v1), some (sI v2), some (sR v3), none]) rfl ?_
      refine go_int kk314_0.2.1.2.1 2 rfl ?_
      exact go_iret kk314_0.2.1.2.2 e6 (inR_of (by decide)) ⟨by decide, by decide⟩ rfl
    refine ge_ite (fun hE9 => ?_) (fun _ => ?_)
    · subst hE9
      refine ge_catch rfl kk314_0.2.2.1.1.1 rfl (loc2 := [some (sR v0), some (sI v1), some (sI v2), some (sR v3), none]) rfl ?_
      refine go_int kk314_0.2.2.1.1.2 3 rfl ?_
      exact go_iret kk314_0.2.2.1.2 e6 (inR_of (by decide)) ⟨by decide, by decide⟩ rfl
    exact ge_none
theorem tfC_checkKill {Φ : ev_P} {d : Nat} (hd : 1 ≤ d) {g : gH} (hg : HR g) {v0 v1 : Int} (h0 : InR v0) (h1 : InR v1) : Go Φ pr_P (fQ g) 0 (fC_checkKill g v0 v1) d (pr_P 70) 0 (ev_loc (pr_P 70).1 [(sI v0), (sI v1)]) [] g 0 0 := by
  show Go Φ pr_P (fQ g) 0 (fC_checkKill g v0 v1) d pr_m70 0 [some (sI v0), some (sI v1)] [] g 0 0
  unfold fC_checkKill
  refine go_iload kk70_0.1.1.1 rfl ?_
  refine go_int kk70_0.1.1.2 9 rfl ?_
  refine go_callQ0 kk70_0.1.2.1 rfl rfl rfl trivial ⟨by decide, by decide⟩ (by omega) (tfC_checkRange (by omega) hg  h0 (inR_of (by decide))) (fun y1 => ?_) (fun e5 E6 => ge_prop rfl ⟨by decide, by decide⟩ e5 rfl)
  refine go_iload kk70_0.1.2.2 rfl ?_
  refine go_int kk70_0.2.1.1 255 rfl ?_
  refine go_callQ0 kk70_0.2.1.2 rfl rfl rfl trivial ⟨by decide, by decide⟩ (by omega) (tfC_checkRange (by omega) hg  h1 (inR_of (by decide))) (fun y7 => ?_) (fun e11 E12 => ge_prop rfl ⟨by decide, by decide⟩ e11 rfl)
  exact go_vret kk70_0.2.2 hg ⟨by decide, by decide⟩ rfl
theorem tbT_killGroup_127 {Φ : ev_P} {d : Nat} (hd : 5 ≤ d) {v3 v4 v5 : Int} (h3 : InR v3) (h4 : RfR v4) (h5 : InR v5) {X127 : Int → gH → Option (Int × gH)} (HX127 : ∀ (v6 : Int) (h6 : InR v6) (g : gH) (hg : HR g) (u0 : Option ev_V) (w0 : nwo u0) (u1 : Option ev_V) (w1 : nwo u1) (u2 : Option ev_V) (w2 : nwo u2) (u7 : Option ev_V) (w7 : nwo u7), Go Φ pr_P fN 1 (X127 v6 g) d pr_m299 127 [u0, u1, u2, some (sI v3), some (sR v4), some (sI v5), some (sI v6), u7] [] g 0 0) : ∀ (v6 : Int) (h6 : InR v6) (g : gH) (hg : HR g) (u0 : Option ev_V) (w0 : nwo u0) (u1 : Option ev_V) (w1 : nwo u1) (u2 : Option ev_V) (w2 : nwo u2) (u7 : Option ev_V) (w7 : nwo u7), Go Φ pr_P fN 1 (bT_killGroup_127 v3 v4 v5 X127 v6 g) d pr_m299 127 [u0, u1, u2, some (sI v3), some (sR v4), some (sI v5), some (sI v6), u7] [] g 0 0 := by
  intro v6 h6 g hg u0 w0 u1 w1 u2 w2 u7 w7
  unfold bT_killGroup_127
  refine go_iload kk299_1.2.1.2.1.1.2 rfl ?_
  refine go_iload kk299_1.2.1.2.1.2 rfl ?_
  refine go_cmlt kk299_1.2.1.2.2.1 h6 h5 (fun c42 => ?_) (fun c43 => ?_)
  · refine go_aload kk299_1.2.1.2.2.2 rfl ?_
    refine go_iload kk299_1.2.2.1.1.1.1 rfl ?_
    refine go_ck (fun q45 => ?_)
    refine go_pald kk299_1.2.2.1.1.1.2 hg q45 (fun r44 => ?_)
    refine go_astore kk299_1.2.2.1.1.2 rfl (loc2 := [u0, u1, u2, some (sI v3), some (sR v4), some (sI v5), some (sI v6), some (sR (g v4 v6))]) rfl ?_
    refine go_aload kk299_1.2.2.1.2.1 rfl ?_
    refine go_int kk299_1.2.2.1.2.2 0 rfl ?_
    refine go_ck (fun q46 => ?_)
    refine go_putB (bI := 13) kk299_1.2.2.2.1.1.1 hg q46 (by decide) rfl rfl (Or.inl rfl) (fun g47 e48 => ?_)
    refine go_iinc kk299_1.2.2.2.1.1.2 rfl rfl 1 rfl (loc2 := [u0, u1, u2, some (sI v3), some (sR v4), some (sI v5), some (sI (w32 (v6 + 1))), some (sR (g v4 v6))]) rfl ?_
    refine go_goto kk299_1.2.2.2.1.2 ?_
    exact HX127 (w32 (v6 + 1)) (inR_w32 _) g47 e48 u0 w0 u1 w1 u2 w2 (some (sR (g v4 v6))) rfl
  · refine go_iload kk299_1.2.2.2.2.1 rfl ?_
    exact go_iret kk299_1.2.2.2.2.2 hg h3 ⟨Nat.zero_le _, Nat.zero_le _⟩ rfl
theorem tlT_killGroup_127 {Φ : ev_P} {d : Nat} (hd : 5 ≤ d) {v3 v4 v5 : Int} (h3 : InR v3) (h4 : RfR v4) (h5 : InR v5) : ∀ n : Nat, ∀ (v6 : Int) (h6 : InR v6) (g : gH) (hg : HR g) (u0 : Option ev_V) (w0 : nwo u0) (u1 : Option ev_V) (w1 : nwo u1) (u2 : Option ev_V) (w2 : nwo u2) (u7 : Option ev_V) (w7 : nwo u7), Go Φ pr_P fN 1 (lT_killGroup_127 v3 v4 v5 n v6 g) d pr_m299 127 [u0, u1, u2, some (sI v3), some (sR v4), some (sI v5), some (sI v6), u7] [] g 0 0 := by
  intro n
  induction n with
  | zero => intros; exact go_none
  | succ n ih => exact tbT_killGroup_127 hd h3 h4 h5 ih
theorem tjT_killGroup_113 {Φ : ev_P} {d : Nat} (hd : 5 ≤ d) {g : gH} (hg : HR g) {v0 v3 : Int} (hK0 : kd v0 = 5) (h3 : InR v3) (u1 : Option ev_V) (w1 : nwo u1) (u2 : Option ev_V) (w2 : nwo u2) (u4 : Option ev_V) (w4 : nwo u4) (u5 : Option ev_V) (w5 : nwo u5) (u6 : Option ev_V) (w6 : nwo u6) (u7 : Option ev_V) (w7 : nwo u7) : Go Φ pr_P fN 1 (jT_killGroup_113 g v0 v3 ) d pr_m299 113 [some (sR v0), u1, u2, some (sI v3), u4, u5, u6, u7] [] g 0 0 := by
  unfold jT_killGroup_113
  refine go_aload kk299_1.1.2.2.2.1 rfl ?_
  refine go_getR (bI := 1) kk299_1.1.2.2.2.2 hg hK0 (by decide) rfl rfl (fun r39 => ?_)
  refine go_astore kk299_1.2.1.1.1.1.1 rfl (loc2 := [some (sR v0), u1, u2, some (sI v3), some (sR (g v0 1)), u5, u6, u7]) rfl ?_
  refine go_aload kk299_1.2.1.1.1.1.2 rfl ?_
  refine go_ck (fun q41 => ?_)
  refine go_alen kk299_1.2.1.1.1.2 (ka_24 q41) (fun r40 => ?_)
  refine go_istore kk299_1.2.1.1.2.1 rfl (loc2 := [some (sR v0), u1, u2, some (sI v3), some (sR (g v0 1)), some (sI (sz (g v0 1))), u6, u7]) rfl ?_
  refine go_int kk299_1.2.1.1.2.2 0 rfl ?_
  refine go_istore kk299_1.2.1.2.1.1.1 rfl (loc2 := [some (sR v0), u1, u2, some (sI v3), some (sR (g v0 1)), some (sI (sz (g v0 1))), some (sI 0), u7]) rfl ?_
  exact tlT_killGroup_127 hd h3 r39 r40 fu 0 (inR_b (Or.inl rfl)) g hg (some (sR v0)) rfl u1 w1 u2 w2 u7 w7
theorem tbT_killGroup_74 {Φ : ev_P} {d : Nat} (hd : 5 ≤ d) {v0 v2 v4 v5 : Int} (hK0 : kd v0 = 5) (h2 : InR v2) (h4 : RfR v4) (h5 : InR v5) {X74 : Int → Int → gH → Option (Int × gH)} (HX74 : ∀ (v3 : Int) (h3 : InR v3) (v6 : Int) (h6 : InR v6) (g : gH) (hg : HR g) (u1 : Option ev_V) (w1 : nwo u1) (u7 : Option ev_V) (w7 : nwo u7), Go Φ pr_P fN 1 (X74 v3 v6 g) d pr_m299 74 [some (sR v0), u1, some (sI v2), some (sI v3), some (sR v4), some (sI v5), some (sI v6), u7] [] g 0 0) : ∀ (v3 : Int) (h3 : InR v3) (v6 : Int) (h6 : InR v6) (g : gH) (hg : HR g) (u1 : Option ev_V) (w1 : nwo u1) (u7 : Option ev_V) (w7 : nwo u7), Go Φ pr_P fN 1 (bT_killGroup_74 v0 v2 v4 v5 X74 v3 v6 g) d pr_m299 74 [some (sR v0), u1, some (sI v2), some (sI v3), some (sR v4), some (sI v5), some (sI v6), u7] [] g 0 0 := by
  intro v3 h3 v6 h6 g hg u1 w1 u7 w7
  unfold bT_killGroup_74
  refine go_iload kk299_1.1.1.1.1.1.1 rfl ?_
  refine go_iload kk299_1.1.1.1.1.1.2 rfl ?_
  refine go_cmlt kk299_1.1.1.1.1.2 h6 h5 (fun c27 => ?_) (fun c28 => ?_)
  · refine go_aload kk299_1.1.1.1.2.1 rfl ?_
    refine go_iload kk299_1.1.1.1.2.2 rfl ?_
    refine go_ck (fun q30 => ?_)
    refine go_pald kk299_1.1.1.2.1.1.1 hg q30 (fun r29 => ?_)
    refine go_astore kk299_1.1.1.2.1.1.2 rfl (loc2 := [some (sR v0), u1, some (sI v2), some (sI v3), some (sR v4), some (sI v5), some (sI v6), some (sR (g v4 v6))]) rfl ?_
    refine go_aload kk299_1.1.1.2.1.2 rfl ?_
    refine go_ck (fun q31 => ?_)
    refine go_getB (bI := 13) kk299_1.1.1.2.2.1 hg q31 (by decide) rfl rfl (fun r32 => ?_)
    refine go_ifeq kk299_1.1.1.2.2.2 (inR_b r32) (fun c33 => ?_) (fun c34 => ?_)
    · refine go_iinc kk299_1.1.2.2.1.1.2 rfl rfl 1 rfl (loc2 := [some (sR v0), u1, some (sI v2), some (sI v3), some (sR v4), some (sI v5), some (sI (w32 (v6 + 1))), some (sR (g v4 v6))]) rfl ?_
      refine go_goto kk299_1.1.2.2.1.2 ?_
      exact HX74 v3 h3 (w32 (v6 + 1)) (inR_w32 _) g hg u1 w1 (some (sR (g v4 v6))) rfl
    · refine go_aload kk299_1.1.2.1.1.1.1 rfl ?_
      refine go_aload kk299_1.1.2.1.1.1.2 rfl ?_
      refine go_iload kk299_1.1.2.1.1.2 rfl ?_
      refine go_callN1 kk299_1.1.2.1.2.1 rfl rfl rfl ⟨by decide, _, rfl, hK0⟩ ⟨Nat.zero_le _, Nat.zero_le _⟩ (by omega) (tfT_letExit (by omega) hg hK0  r29 h2) (fun y35 g37 r36 e38 => ?_)
      refine go_popI kk299_1.1.2.1.2.2 ?_
      refine go_iinc kk299_1.1.2.2.1.1.1 rfl rfl 1 rfl (loc2 := [some (sR v0), u1, some (sI v2), some (sI (w32 (v3 + 1))), some (sR v4), some (sI v5), some (sI v6), some (sR (g v4 v6))]) rfl ?_
      refine go_iinc kk299_1.1.2.2.1.1.2 rfl rfl 1 rfl (loc2 := [some (sR v0), u1, some (sI v2), some (sI (w32 (v3 + 1))), some (sR v4), some (sI v5), some (sI (w32 (v6 + 1))), some (sR (g v4 v6))]) rfl ?_
      refine go_goto kk299_1.1.2.2.1.2 ?_
      exact HX74 (w32 (v3 + 1)) (inR_w32 _) (w32 (v6 + 1)) (inR_w32 _) g37 e38 u1 w1 (some (sR (g v4 v6))) rfl
  · exact tjT_killGroup_113 hd hg hK0 h3 u1 w1 (some (sI v2)) rfl (some (sR v4)) rfl (some (sI v5)) rfl (some (sI v6)) rfl u7 w7
theorem tlT_killGroup_74 {Φ : ev_P} {d : Nat} (hd : 5 ≤ d) {v0 v2 v4 v5 : Int} (hK0 : kd v0 = 5) (h2 : InR v2) (h4 : RfR v4) (h5 : InR v5) : ∀ n : Nat, ∀ (v3 : Int) (h3 : InR v3) (v6 : Int) (h6 : InR v6) (g : gH) (hg : HR g) (u1 : Option ev_V) (w1 : nwo u1) (u7 : Option ev_V) (w7 : nwo u7), Go Φ pr_P fN 1 (lT_killGroup_74 v0 v2 v4 v5 n v3 v6 g) d pr_m299 74 [some (sR v0), u1, some (sI v2), some (sI v3), some (sR v4), some (sI v5), some (sI v6), u7] [] g 0 0 := by
  intro n
  induction n with
  | zero => intros; exact go_none
  | succ n ih => exact tbT_killGroup_74 hd hK0 h2 h4 h5 ih
theorem tjT_killGroup_58 {Φ : ev_P} {d : Nat} (hd : 5 ≤ d) {g : gH} (hg : HR g) {v0 v2 : Int} (hK0 : kd v0 = 5) (h2 : InR v2) (u1 : Option ev_V) (w1 : nwo u1) (u3 : Option ev_V) (w3 : nwo u3) (u4 : Option ev_V) (w4 : nwo u4) (u5 : Option ev_V) (w5 : nwo u5) (u6 : Option ev_V) (w6 : nwo u6) (u7 : Option ev_V) (w7 : nwo u7) : Go Φ pr_P fN 1 (jT_killGroup_58 g v0 v2 ) d pr_m299 58 [some (sR v0), u1, some (sI v2), u3, u4, u5, u6, u7] [] g 0 0 := by
  unfold jT_killGroup_58
  refine go_int kk299_0.2.1.2.2.2 0 rfl ?_
  refine go_istore kk299_0.2.2.1.1.1.1 rfl (loc2 := [some (sR v0), u1, some (sI v2), some (sI 0), u4, u5, u6, u7]) rfl ?_
  refine go_aload kk299_0.2.2.1.1.1.2 rfl ?_
  refine go_getR (bI := 1) kk299_0.2.2.1.1.2 hg hK0 (by decide) rfl rfl (fun r24 => ?_)
  refine go_astore kk299_0.2.2.1.2.1 rfl (loc2 := [some (sR v0), u1, some (sI v2), some (sI 0), some (sR (g v0 1)), u5, u6, u7]) rfl ?_
  refine go_aload kk299_0.2.2.1.2.2 rfl ?_
  refine go_ck (fun q26 => ?_)
  refine go_alen kk299_0.2.2.2.1.1 (ka_24 q26) (fun r25 => ?_)
  refine go_istore kk299_0.2.2.2.1.2 rfl (loc2 := [some (sR v0), u1, some (sI v2), some (sI 0), some (sR (g v0 1)), some (sI (sz (g v0 1))), u6, u7]) rfl ?_
  refine go_int kk299_0.2.2.2.2.1 0 rfl ?_
  refine go_istore kk299_0.2.2.2.2.2 rfl (loc2 := [some (sR v0), u1, some (sI v2), some (sI 0), some (sR (g v0 1)), some (sI (sz (g v0 1))), some (sI 0), u7]) rfl ?_
  exact tlT_killGroup_74 hd hK0 h2 r24 r25 fu 0 (inR_b (Or.inl rfl)) 0 (inR_b (Or.inl rfl)) g hg u1 w1 u7 w7
theorem tbT_killGroup_12 {Φ : ev_P} {d : Nat} (hd : 5 ≤ d) {v0 v1 v2 v3 v4 : Int} (hK0 : kd v0 = 5) (h1 : InR v1) (h2 : InR v2) (h3 : RfR v3) (h4 : InR v4) {X12 : Int → gH → Option (Int × gH)} (HX12 : ∀ (v5 : Int) (h5 : InR v5) (g : gH) (hg : HR g) (u6 : Option ev_V) (w6 : nwo u6) (u7 : Option ev_V) (w7 : nwo u7), Go Φ pr_P fN 1 (X12 v5 g) d pr_m299 12 [some (sR v0), some (sI v1), some (sI v2), some (sR v3), some (sI v4), some (sI v5), u6, u7] [] g 0 0) : ∀ (v5 : Int) (h5 : InR v5) (g : gH) (hg : HR g) (u6 : Option ev_V) (w6 : nwo u6) (u7 : Option ev_V) (w7 : nwo u7), Go Φ pr_P fN 1 (bT_killGroup_12 v0 v1 v2 v3 v4 X12 v5 g) d pr_m299 12 [some (sR v0), some (sI v1), some (sI v2), some (sR v3), some (sI v4), some (sI v5), u6, u7] [] g 0 0 := by
  intro v5 h5 g hg u6 w6 u7 w7
  unfold bT_killGroup_12
  refine go_iload kk299_0.1.1.2.2.1 rfl ?_
  refine go_iload kk299_0.1.1.2.2.2 rfl ?_
  refine go_cmlt kk299_0.1.2.1.1.1.1 h5 h4 (fun c4 => ?_) (fun c5 => ?_)
  · refine go_aload kk299_0.1.2.1.1.1.2 rfl ?_
    refine go_iload kk299_0.1.2.1.1.2 rfl ?_
    refine go_ck (fun q7 => ?_)
    refine go_pald kk299_0.1.2.1.2.1 hg q7 (fun r6 => ?_)
    refine go_astore kk299_0.1.2.1.2.2 rfl (loc2 := [some (sR v0), some (sI v1), some (sI v2), some (sR v3), some (sI v4), some (sI v5), some (sR (g v3 v5)), u7]) rfl ?_
    refine go_aload kk299_0.1.2.2.1.1.1 rfl ?_
    refine go_aload kk299_0.1.2.2.1.1.2 rfl ?_
    refine go_ck (fun q8 => ?_)
    refine go_callP3 kk299_0.1.2.2.1.2 rfl rfl rfl ⟨by decide, _, rfl, q8⟩ ⟨Nat.zero_le _, Nat.zero_le _⟩ (by omega) (tfP_isMortal (by omega) hg q8 ) (fun y9 r10 => ?_)
    refine go_ifeq kk299_0.1.2.2.2.1 (inR_b r10) (fun c13 => ?_) (fun c14 => ?_)
    · refine go_int kk299_0.2.1.2.1.1.1 0 rfl ?_
      refine go_putB (bI := 13) kk299_0.2.1.2.1.1.2 hg q8 (by decide) rfl rfl (Or.inl rfl) (fun g15 e16 => ?_)
      refine go_iinc kk299_0.2.1.2.1.2 rfl rfl 1 rfl (loc2 := [some (sR v0), some (sI v1), some (sI v2), some (sR v3), some (sI v4), some (sI (w32 (v5 + 1))), some (sR (g v3 v5)), u7]) rfl ?_
      refine go_goto kk299_0.2.1.2.2.1 ?_
      exact HX12 (w32 (v5 + 1)) (inR_w32 _) g15 e16 (some (sR (g v3 v5))) rfl u7 w7
    · refine go_aload kk299_0.1.2.2.2.2 rfl ?_
      refine go_getI (bI := 5) kk299_0.2.1.1.1.1.1 hg q8 (by decide) rfl rfl (fun r17 => ?_)
      refine go_iload kk299_0.2.1.1.1.1.2 rfl ?_
      refine go_cmeq kk299_0.2.1.1.1.2 r17 h1 (fun c18 => ?_) (fun c19 => ?_)
      · refine go_int kk299_0.2.1.1.2.1 1 rfl ?_
        refine go_goto kk299_0.2.1.1.2.2 ?_
        refine go_putB (bI := 13) kk299_0.2.1.2.1.1.2 hg q8 (by decide) rfl rfl (Or.inr rfl) (fun g20 e21 => ?_)
        refine go_iinc kk299_0.2.1.2.1.2 rfl rfl 1 rfl (loc2 := [some (sR v0), some (sI v1), some (sI v2), some (sR v3), some (sI v4), some (sI (w32 (v5 + 1))), some (sR (g v3 v5)), u7]) rfl ?_
        refine go_goto kk299_0.2.1.2.2.1 ?_
        exact HX12 (w32 (v5 + 1)) (inR_w32 _) g20 e21 (some (sR (g v3 v5))) rfl u7 w7
      · refine go_int kk299_0.2.1.2.1.1.1 0 rfl ?_
        refine go_putB (bI := 13) kk299_0.2.1.2.1.1.2 hg q8 (by decide) rfl rfl (Or.inl rfl) (fun g22 e23 => ?_)
        refine go_iinc kk299_0.2.1.2.1.2 rfl rfl 1 rfl (loc2 := [some (sR v0), some (sI v1), some (sI v2), some (sR v3), some (sI v4), some (sI (w32 (v5 + 1))), some (sR (g v3 v5)), u7]) rfl ?_
        refine go_goto kk299_0.2.1.2.2.1 ?_
        exact HX12 (w32 (v5 + 1)) (inR_w32 _) g22 e23 (some (sR (g v3 v5))) rfl u7 w7
  · exact tjT_killGroup_58 hd hg hK0 h2 (some (sI v1)) rfl (some (sR v3)) rfl (some (sI v4)) rfl (some (sI v5)) rfl u6 w6 u7 w7
theorem tlT_killGroup_12 {Φ : ev_P} {d : Nat} (hd : 5 ≤ d) {v0 v1 v2 v3 v4 : Int} (hK0 : kd v0 = 5) (h1 : InR v1) (h2 : InR v2) (h3 : RfR v3) (h4 : InR v4) : ∀ n : Nat, ∀ (v5 : Int) (h5 : InR v5) (g : gH) (hg : HR g) (u6 : Option ev_V) (w6 : nwo u6) (u7 : Option ev_V) (w7 : nwo u7), Go Φ pr_P fN 1 (lT_killGroup_12 v0 v1 v2 v3 v4 n v5 g) d pr_m299 12 [some (sR v0), some (sI v1), some (sI v2), some (sR v3), some (sI v4), some (sI v5), u6, u7] [] g 0 0 := by
  intro n
  induction n with
  | zero => intros; exact go_none
  | succ n ih => exact tbT_killGroup_12 hd hK0 h1 h2 h3 h4 ih
theorem tfT_killGroup {Φ : ev_P} {d : Nat} (hd : 5 ≤ d) {g : gH} (hg : HR g) {v0 v1 v2 : Int} (hK0 : kd v0 = 5) (h1 : InR v1) (h2 : InR v2) : Go Φ pr_P fN 1 (fT_killGroup g v0 v1 v2) d (pr_P 299) 0 (ev_loc (pr_P 299).1 [(sR v0), (sI v1), (sI v2)]) [] g 0 0 := by
  show Go Φ pr_P fN 1 (fT_killGroup g v0 v1 v2) d pr_m299 0 [some (sR v0), some (sI v1), some (sI v2), none, none, none, none, none] [] g 0 0
  unfold fT_killGroup
  refine go_aload kk299_0.1.1.1.1.1.1 rfl ?_
  refine go_getR (bI := 1) kk299_0.1.1.1.1.1.2 hg hK0 (by decide) rfl rfl (fun r1 => ?_)
  refine go_astore kk299_0.1.1.1.1.2 rfl (loc2 := [some (sR v0), some (sI v1), some (sI v2), some (sR (g v0 1)), none, none, none, none]) rfl ?_
  refine go_aload kk299_0.1.1.1.2.1 rfl ?_
  refine go_ck (fun q3 => ?_)
  refine go_alen kk299_0.1.1.1.2.2 (ka_24 q3) (fun r2 => ?_)
  refine go_istore kk299_0.1.1.2.1.1.1 rfl (loc2 := [some (sR v0), some (sI v1), some (sI v2), some (sR (g v0 1)), some (sI (sz (g v0 1))), none, none, none]) rfl ?_
  refine go_int kk299_0.1.1.2.1.1.2 0 rfl ?_
  refine go_istore kk299_0.1.1.2.1.2 rfl (loc2 := [some (sR v0), some (sI v1), some (sI v2), some (sR (g v0 1)), some (sI (sz (g v0 1))), some (sI 0), none, none]) rfl ?_
  exact tlT_killGroup_12 hd hK0 h1 h2 r1 r2 fu 0 (inR_b (Or.inl rfl)) g hg none rfl none rfl
theorem tfC_kill {Φ : ev_P} {d : Nat} (hd : 6 ≤ d) {g : gH} (hg : HR g) {v0 v1 v2 : Int} (hK0 : kd v0 = 6) (h1 : InR v1) (h2 : InR v2) : Go Φ pr_P fT 1 (fC_kill g v0 v1 v2) d (pr_P 19) 0 (ev_loc (pr_P 19).1 [(sR v0), (sI v1), (sI v2)]) [] g 0 0 := by
  show Go Φ pr_P fT 1 (fC_kill g v0 v1 v2) d pr_m19 0 [some (sR v0), some (sI v1), some (sI v2)] [] g 0 0
  unfold fC_kill
  refine go_iload kk19_0.1.1.1.1 rfl ?_
  refine go_iload kk19_0.1.1.1.2 rfl ?_
  refine go_callQ0 kk19_0.1.1.2.1 rfl rfl rfl trivial ⟨by decide, by decide⟩ (by omega) (tfC_checkKill (by omega) hg  h1 h2) (fun y1 => ?_) (fun e5 E6 => ge_prop rfl ⟨by decide, by decide⟩ e5 rfl)
  refine go_aload kk19_0.1.1.2.2 rfl ?_
  refine go_getR (bI := 3) kk19_0.1.2.1.1 hg hK0 (by decide) rfl rfl (fun r7 => ?_)
  refine go_aload kk19_0.1.2.1.2 rfl ?_
  refine go_getR (bI := 0) kk19_0.1.2.2 hg hK0 (by decide) rfl rfl (fun r8 => ?_)
  refine go_ck (fun q9 => ?_)
  refine go_callN0 kk19_0.2.1.1.1 rfl rfl rfl ⟨by decide, _, rfl, q9⟩ ⟨by decide, by decide⟩ (by omega) (tfH_push (by omega) hg q9  r8) (fun y10 g12 e13 => ?_)
  refine go_aload kk19_0.2.1.1.2 rfl ?_
  refine go_getR (bI := 0) kk19_0.2.1.2.1 e13 hK0 (by decide) rfl rfl (fun r14 => ?_)
  refine go_iload kk19_0.2.1.2.2 rfl ?_
  refine go_iload kk19_0.2.2.1.1 rfl ?_
  refine go_ck (fun q15 => ?_)
  refine go_callN1 kk19_0.2.2.1.2 rfl rfl rfl ⟨by decide, _, rfl, q15⟩ ⟨by decide, by decide⟩ (by omega) (tfT_killGroup (by omega) e13 q15  h1 h2) (fun y16 g18 r17 e19 => ?_)
  exact go_iret kk19_0.2.2.2 e19 r17 ⟨by decide, by decide⟩ rfl
theorem tfW_kill {Φ : ev_P} {d : Nat} (hd : 7 ≤ d) {g : gH} (hg : HR g) {v0 v1 v2 v3 : Int} (h0 : RfR v0) (h1 : InR v1) (h2 : InR v2) (h3 : RfR v3) : Go Φ pr_P fN 1 (fW_kill g v0 v1 v2 v3) d (pr_P 315) 0 (ev_loc (pr_P 315).1 [(sR v0), (sI v1), (sI v2), (sR v3)]) [] g 0 0 := by
  show Go Φ pr_P fN 1 (fW_kill g v0 v1 v2 v3) d pr_m315 0 [some (sR v0), some (sI v1), some (sI v2), some (sR v3), none] [] g 0 0
  unfold fW_kill
  refine go_aload kk315_0.1.1.1.1 rfl ?_
  refine go_int kk315_0.1.1.1.2 0 rfl ?_
  refine go_aload kk315_0.1.1.2.1 rfl ?_
  refine go_iload kk315_0.1.1.2.2 rfl ?_
  refine go_iload kk315_0.1.2.1.1 rfl ?_
  refine go_ck (fun q1 => ?_)
  refine go_callT1 kk315_0.1.2.1.2 rfl rfl rfl ⟨by decide, _, rfl, q1⟩ ⟨by decide, by decide⟩ (by omega) (tfC_kill (by omega) hg q1  h1 h2) (fun y2 g4 r3 e5 => ?_) (fun E7 g4 e6 => ?_)
  · refine go_i2l kk315_0.1.2.2 r3 ?_
    refine go_ck (fun q8 => ?_)
    refine go_last kk315_0.2.1.1.1 e5 q8 (inL_R r3) (fun g9 e10 => ?_)
    refine go_goto kk315_0.2.1.1.2 ?_
    refine go_int kk315_0.2.2.1.2 0 rfl ?_
    exact go_iret kk315_0.2.2.2 e10 (inR_b (Or.inl rfl)) ⟨by decide, by decide⟩ rfl
  · refine ge_ite (fun hE9 => ?_) (fun _ => ?_)
    · subst hE9
      refine ge_catch rfl kk315_0.2.1.2.1 rfl (loc2 := [some (sR v0), some (sI v1), some (sI v2), some (sR v3), none]) rfl ?_
      refine go_int kk315_0.2.1.2.2 1 rfl ?_
      exact go_iret kk315_0.2.2.1.1 e6 (inR_b (Or.inr rfl)) ⟨by decide, by decide⟩ rfl
    exact ge_none
theorem tbT_zombieBehind_16 {Φ : ev_P} {d : Nat} (hd : 1 ≤ d) {g : gH} (hg : HR g) {v1 v2 v4 v5 : Int} (h1 : RfR v1) (h2 : InR v2) (h4 : RfR v4) (h5 : InR v5) {X16 : Int → Int → Option Int} (HX16 : ∀ (v3 : Int) (h3 : RfR v3) (v6 : Int) (h6 : InR v6) (u0 : Option ev_V) (w0 : nwo u0) (u7 : Option ev_V) (w7 : nwo u7), Go Φ pr_P (fP g) 2 (X16 v3 v6) d pr_m281 16 [u0, some (sR v1), some (sI v2), some (sR v3), some (sR v4), some (sI v5), some (sI v6), u7] [] g 0 0) : ∀ (v3 : Int) (h3 : RfR v3) (v6 : Int) (h6 : InR v6) (u0 : Option ev_V) (w0 : nwo u0) (u7 : Option ev_V) (w7 : nwo u7), Go Φ pr_P (fP g) 2 (bT_zombieBehind_16 g v1 v2 v4 v5 X16 v3 v6) d pr_m281 16 [u0, some (sR v1), some (sI v2), some (sR v3), some (sR v4), some (sI v5), some (sI v6), u7] [] g 0 0 := by
  intro v3 h3 v6 h6 u0 w0 u7 w7
  unfold bT_zombieBehind_16
  refine go_iload kk281_0.1.2.1.1.1.1 rfl ?_
  refine go_iload kk281_0.1.2.1.1.1.2 rfl ?_
  refine go_cmlt kk281_0.1.2.1.1.2 h6 h5 (fun c4 => ?_) (fun c5 => ?_)
  · refine go_aload kk281_0.1.2.1.2.1 rfl ?_
    refine go_iload kk281_0.1.2.1.2.2 rfl ?_
    refine go_ck (fun q7 => ?_)
    refine go_pald kk281_0.1.2.2.1.1 hg q7 (fun r6 => ?_)
    refine go_astore kk281_0.1.2.2.1.2 rfl (loc2 := [u0, some (sR v1), some (sI v2), some (sR v3), some (sR v4), some (sI v5), some (sI v6), some (sR (g v4 v6))]) rfl ?_
    refine go_aload kk281_0.1.2.2.2.1 rfl ?_
    refine go_aload kk281_0.1.2.2.2.2 rfl ?_
    refine go_ck (fun q8 => ?_)
    refine go_callP3 kk281_0.2.1.1.1.1.1 rfl rfl rfl ⟨by decide, _, rfl, q8⟩ ⟨Nat.zero_le _, Nat.zero_le _⟩ (by omega) (tfP_isZombieOf (by omega) hg q8  h1) (fun y9 r10 => ?_)
    refine go_ifeq kk281_0.2.1.1.1.1.2 (inR_b r10) (fun c13 => ?_) (fun c14 => ?_)
    · refine go_iinc kk281_0.2.2.2.1.1 rfl rfl 1 rfl (loc2 := [u0, some (sR v1), some (sI v2), some (sR v3), some (sR v4), some (sI v5), some (sI (w32 (v6 + 1))), some (sR (g v4 v6))]) rfl ?_
      refine go_goto kk281_0.2.2.2.1.2 ?_
      exact HX16 v3 h3 (w32 (v6 + 1)) (inR_w32 _) u0 w0 (some (sR (g v4 v6))) rfl
    · refine go_aload kk281_0.2.1.1.1.2 rfl ?_
      refine go_getI (bI := 10) kk281_0.2.1.1.2.1 hg q8 (by decide) rfl rfl (fun r15 => ?_)
      refine go_iload kk281_0.2.1.1.2.2 rfl ?_
      refine go_cmgt kk281_0.2.1.2.1.1.1 r15 h2 (fun c16 => ?_) (fun c17 => ?_)
      · refine go_aload kk281_0.2.1.2.1.1.2 rfl ?_
        refine go_isnull kk281_0.2.1.2.1.2  (fun c18 => ?_) (fun c19 => ?_)
        · refine go_aload kk281_0.2.2.1.2.1 rfl ?_
          refine go_astore kk281_0.2.2.1.2.2 rfl (loc2 := [u0, some (sR v1), some (sI v2), some (sR (g v4 v6)), some (sR v4), some (sI v5), some (sI v6), some (sR (g v4 v6))]) rfl ?_
          refine go_iinc kk281_0.2.2.2.1.1 rfl rfl 1 rfl (loc2 := [u0, some (sR v1), some (sI v2), some (sR (g v4 v6)), some (sR v4), some (sI v5), some (sI (w32 (v6 + 1))), some (sR (g v4 v6))]) rfl ?_
          refine go_goto kk281_0.2.2.2.1.2 ?_
          exact HX16 (g v4 v6) r6 (w32 (v6 + 1)) (inR_w32 _) u0 w0 (some (sR (g v4 v6))) rfl
        · refine go_aload kk281_0.2.1.2.2.1 rfl ?_
          refine go_getI (bI := 10) kk281_0.2.1.2.2.2 hg q8 (by decide) rfl rfl (fun r20 => ?_)
          refine go_aload kk281_0.2.2.1.1.1.1 rfl ?_
          refine go_ck (fun q21 => ?_)
          refine go_getI (bI := 10) kk281_0.2.2.1.1.1.2 hg q21 (by decide) rfl rfl (fun r22 => ?_)
          refine go_cmlt kk281_0.2.2.1.1.2 r20 r22 (fun c23 => ?_) (fun c24 => ?_)
          · refine go_aload kk281_0.2.2.1.2.1 rfl ?_
            refine go_astore kk281_0.2.2.1.2.2 rfl (loc2 := [u0, some (sR v1), some (sI v2), some (sR (g v4 v6)), some (sR v4), some (sI v5), some (sI v6), some (sR (g v4 v6))]) rfl ?_
            refine go_iinc kk281_0.2.2.2.1.1 rfl rfl 1 rfl (loc2 := [u0, some (sR v1), some (sI v2), some (sR (g v4 v6)), some (sR v4), some (sI v5), some (sI (w32 (v6 + 1))), some (sR (g v4 v6))]) rfl ?_
            refine go_goto kk281_0.2.2.2.1.2 ?_
            exact HX16 (g v4 v6) r6 (w32 (v6 + 1)) (inR_w32 _) u0 w0 (some (sR (g v4 v6))) rfl
          · refine go_iinc kk281_0.2.2.2.1.1 rfl rfl 1 rfl (loc2 := [u0, some (sR v1), some (sI v2), some (sR v3), some (sR v4), some (sI v5), some (sI (w32 (v6 + 1))), some (sR (g v4 v6))]) rfl ?_
            refine go_goto kk281_0.2.2.2.1.2 ?_
            exact HX16 v3 h3 (w32 (v6 + 1)) (inR_w32 _) u0 w0 (some (sR (g v4 v6))) rfl
      · refine go_iinc kk281_0.2.2.2.1.1 rfl rfl 1 rfl (loc2 := [u0, some (sR v1), some (sI v2), some (sR v3), some (sR v4), some (sI v5), some (sI (w32 (v6 + 1))), some (sR (g v4 v6))]) rfl ?_
        refine go_goto kk281_0.2.2.2.1.2 ?_
        exact HX16 v3 h3 (w32 (v6 + 1)) (inR_w32 _) u0 w0 (some (sR (g v4 v6))) rfl
  · refine go_aload kk281_0.2.2.2.2.1 rfl ?_
    exact go_aret kk281_0.2.2.2.2.2 hg h3 ⟨Nat.zero_le _, Nat.zero_le _⟩ rfl
theorem tlT_zombieBehind_16 {Φ : ev_P} {d : Nat} (hd : 1 ≤ d) {g : gH} (hg : HR g) {v1 v2 v4 v5 : Int} (h1 : RfR v1) (h2 : InR v2) (h4 : RfR v4) (h5 : InR v5) : ∀ n : Nat, ∀ (v3 : Int) (h3 : RfR v3) (v6 : Int) (h6 : InR v6) (u0 : Option ev_V) (w0 : nwo u0) (u7 : Option ev_V) (w7 : nwo u7), Go Φ pr_P (fP g) 2 (lT_zombieBehind_16 g v1 v2 v4 v5 n v3 v6) d pr_m281 16 [u0, some (sR v1), some (sI v2), some (sR v3), some (sR v4), some (sI v5), some (sI v6), u7] [] g 0 0 := by
  intro n
  induction n with
  | zero => intros; exact go_none
  | succ n ih => exact tbT_zombieBehind_16 hd hg h1 h2 h4 h5 ih
theorem tfT_zombieBehind {Φ : ev_P} {d : Nat} (hd : 1 ≤ d) {g : gH} (hg : HR g) {v0 v1 v2 : Int} (hK0 : kd v0 = 5) (h1 : RfR v1) (h2 : InR v2) : Go Φ pr_P (fP g) 2 (fT_zombieBehind g v0 v1 v2) d (pr_P 281) 0 (ev_loc (pr_P 281).1 [(sR v0), (sR v1), (sI v2)]) [] g 0 0 := by
  show Go Φ pr_P (fP g) 2 (fT_zombieBehind g v0 v1 v2) d pr_m281 0 [some (sR v0), some (sR v1), some (sI v2), none, none, none, none, none] [] g 0 0
  unfold fT_zombieBehind
  refine go_null kk281_0.1.1.1.1.1.1 ?_
  refine go_astore kk281_0.1.1.1.1.1.2 rfl (loc2 := [some (sR v0), some (sR v1), some (sI v2), some (sR (-1)), none, none, none, none]) rfl ?_
  refine go_aload kk281_0.1.1.1.1.2 rfl ?_
  refine go_getR (bI := 1) kk281_0.1.1.1.2.1 hg hK0 (by decide) rfl rfl (fun r1 => ?_)
  refine go_astore kk281_0.1.1.1.2.2 rfl (loc2 := [some (sR v0), some (sR v1), some (sI v2), some (sR (-1)), some (sR (g v0 1)), none, none, none]) rfl ?_
  refine go_aload kk281_0.1.1.2.1.1.1 rfl ?_
  refine go_ck (fun q3 => ?_)
  refine go_alen kk281_0.1.1.2.1.1.2 (ka_24 q3) (fun r2 => ?_)
  refine go_istore kk281_0.1.1.2.1.2 rfl (loc2 := [some (sR v0), some (sR v1), some (sI v2), some (sR (-1)), some (sR (g v0 1)), some (sI (sz (g v0 1))), none, none]) rfl ?_
  refine go_int kk281_0.1.1.2.2.1 0 rfl ?_
  refine go_istore kk281_0.1.1.2.2.2 rfl (loc2 := [some (sR v0), some (sR v1), some (sI v2), some (sR (-1)), some (sR (g v0 1)), some (sI (sz (g v0 1))), some (sI 0), none]) rfl ?_
  exact tlT_zombieBehind_16 hd hg h1 h2 r1 r2 fu (-1) rfR_null 0 (inR_b (Or.inl rfl)) (some (sR v0)) rfl none rfl
theorem tfC_read {Φ : ev_P} {d : Nat} (hd : 3 ≤ d) {g : gH} (hg : HR g) {v0 v1 : Int} (hK0 : kd v0 = 6) (h1 : InR v1) : Go Φ pr_P fT 1 (fC_read g v0 v1) d (pr_P 20) 0 (ev_loc (pr_P 20).1 [(sR v0), (sI v1)]) [] g 0 0 := by
  show Go Φ pr_P fT 1 (fC_read g v0 v1) d pr_m20 0 [some (sR v0), some (sI v1), none, none] [] g 0 0
  unfold fC_read
  refine go_aload kk20_0.1.1.1.1.1 rfl ?_
  refine go_iload kk20_0.1.1.1.1.2 rfl ?_
  refine go_callQ2 kk20_0.1.1.1.2.1 rfl rfl rfl ⟨by decide, _, rfl, hK0⟩ ⟨by decide, by decide⟩ (by omega) (tfC_named (by omega) hg hK0  h1) (fun y1 r2 => ?_) (fun e5 E6 => ge_prop rfl ⟨by decide, by decide⟩ e5 rfl)
  refine go_astore kk20_0.1.1.1.2.2 rfl (loc2 := [some (sR v0), some (sI v1), some (sR y1), none]) rfl ?_
  refine go_aload kk20_0.1.1.2.1.1 rfl ?_
  refine go_ck (fun q7 => ?_)
  refine go_callP3 kk20_0.1.1.2.1.2 rfl rfl rfl ⟨by decide, _, rfl, q7⟩ ⟨by decide, by decide⟩ (by omega) (tfP_isRunning (by omega) hg q7 ) (fun y8 r9 => ?_)
  refine go_callQ0 kk20_0.1.1.2.2.1 rfl rfl rfl trivial ⟨by decide, by decide⟩ (by omega) (tfC_checkState (by omega) hg  r9) (fun y12 => ?_) (fun e16 E17 => ge_prop rfl ⟨by decide, by decide⟩ e16 rfl)
  refine go_aload kk20_0.1.1.2.2.2 rfl ?_
  refine go_getR (bI := 0) kk20_0.1.2.1.1.1 hg hK0 (by decide) rfl rfl (fun r18 => ?_)
  refine go_aload kk20_0.1.2.1.1.2 rfl ?_
  refine go_int kk20_0.1.2.1.2.1 (-1) rfl ?_
  refine go_ck (fun q19 => ?_)
  refine go_callP2 kk20_0.1.2.1.2.2 rfl rfl rfl ⟨by decide, _, rfl, q19⟩ ⟨by decide, by decide⟩ (by omega) (tfT_zombieBehind (by omega) hg q19  r2 (inR_of (by decide))) (fun y20 r21 => ?_)
  refine go_astore kk20_0.1.2.2.1.1 rfl (loc2 := [some (sR v0), some (sI v1), some (sR y1), some (sR y20)]) rfl ?_
  refine go_aload kk20_0.1.2.2.1.2 rfl ?_
  refine go_isnull kk20_0.1.2.2.2.1  (fun c24 => ?_) (fun c25 => ?_)
  · exact go_throw kk20_0.1.2.2.2.2 hg ⟨by decide, by decide⟩ rfl rfl
  · refine go_aload kk20_0.2.1.1.1.1 rfl ?_
    refine go_getR (bI := 3) kk20_0.2.1.1.1.2 hg hK0 (by decide) rfl rfl (fun r26 => ?_)
    refine go_aload kk20_0.2.1.1.2.1 rfl ?_
    refine go_getR (bI := 0) kk20_0.2.1.1.2.2 hg hK0 (by decide) rfl rfl (fun r27 => ?_)
    refine go_ck (fun q28 => ?_)
    refine go_callN0 kk20_0.2.1.2.1.1 rfl rfl rfl ⟨by decide, _, rfl, q28⟩ ⟨by decide, by decide⟩ (by omega) (tfH_push (by omega) hg q28  r27) (fun y29 g31 e32 => ?_)
    refine go_aload kk20_0.2.1.2.1.2 rfl ?_
    refine go_int kk20_0.2.1.2.2.1 2 rfl ?_
    refine go_ck (fun q33 => ?_)
    refine go_putI (bI := 1) kk20_0.2.1.2.2.2 e32 q33 (by decide) rfl rfl (inR_of (by decide)) (fun g34 e35 => ?_)
    refine go_int kk20_0.2.2.1.1.1 1000 rfl ?_
    refine go_aload kk20_0.2.2.1.1.2 rfl ?_
    refine go_getI (bI := 0) kk20_0.2.2.1.2.1 e35 q33 (by decide) rfl rfl (fun r36 => ?_)
    refine go_ibin kk20_0.2.2.1.2.2 ?_
    refine go_aload kk20_0.2.2.2.1.1 rfl ?_
    refine go_getI (bI := 9) kk20_0.2.2.2.1.2 e35 q33 (by decide) rfl rfl (fun r37 => ?_)
    refine go_iadd kk20_0.2.2.2.2.1 ?_
    exact go_iret kk20_0.2.2.2.2.2 e35 (inR_w32 _) ⟨by decide, by decide⟩ rfl
theorem tfW_read {Φ : ev_P} {d : Nat} (hd : 4 ≤ d) {g : gH} (hg : HR g) {v0 v1 v2 : Int} (h0 : RfR v0) (h1 : InR v1) (h2 : RfR v2) : Go Φ pr_P fN 1 (fW_read g v0 v1 v2) d (pr_P 316) 0 (ev_loc (pr_P 316).1 [(sR v0), (sI v1), (sR v2)]) [] g 0 0 := by
  show Go Φ pr_P fN 1 (fW_read g v0 v1 v2) d pr_m316 0 [some (sR v0), some (sI v1), some (sR v2), none] [] g 0 0
  unfold fW_read
  refine go_aload kk316_0.1.1.1.1.1 rfl ?_
  refine go_int kk316_0.1.1.1.1.2 0 rfl ?_
  refine go_aload kk316_0.1.1.1.2 rfl ?_
  refine go_iload kk316_0.1.1.2.1 rfl ?_
  refine go_ck (fun q1 => ?_)
  refine go_callT1 kk316_0.1.1.2.2 rfl rfl rfl ⟨by decide, _, rfl, q1⟩ ⟨by decide, by decide⟩ (by omega) (tfC_read (by omega) hg q1  h1) (fun y2 g4 r3 e5 => ?_) (fun E7 g4 e6 => ?_)
  · refine go_i2l kk316_0.1.2.1.1.1 r3 ?_
    refine go_ck (fun q8 => ?_)
    refine go_last kk316_0.1.2.1.1.2 e5 q8 (inL_R r3) (fun g9 e10 => ?_)
    refine go_goto kk316_0.1.2.1.2 ?_
    refine go_int kk316_0.2.2.2.1 0 rfl ?_
    exact go_iret kk316_0.2.2.2.2 e10 (inR_b (Or.inl rfl)) ⟨by decide, by decide⟩ rfl
  · refine ge_ite (fun hE9 => ?_) (fun _ => ?_)
    · subst hE9
      refine ge_catch rfl kk316_0.1.2.2.1 rfl (loc2 := [some (sR v0), some (sI v1), some (sR v2), none]) rfl ?_
      refine go_int kk316_0.1.2.2.2 1 rfl ?_
      exact go_iret kk316_0.2.1.1.1.1 e6 (inR_b (Or.inr rfl)) ⟨by decide, by decide⟩ rfl
    refine ge_ite (fun hE9 => ?_) (fun _ => ?_)
    · subst hE9
      refine ge_catch rfl kk316_0.2.1.1.1.2 rfl (loc2 := [some (sR v0), some (sI v1), some (sR v2), none]) rfl ?_
      refine go_int kk316_0.2.1.1.2 2 rfl ?_
      exact go_iret kk316_0.2.1.2.1 e6 (inR_of (by decide)) ⟨by decide, by decide⟩ rfl
    refine ge_ite (fun hE9 => ?_) (fun _ => ?_)
    · subst hE9
      refine ge_catch rfl kk316_0.2.1.2.2 rfl (loc2 := [some (sR v0), some (sI v1), some (sR v2), none]) rfl ?_
      refine go_int kk316_0.2.2.1.1 3 rfl ?_
      exact go_iret kk316_0.2.2.1.2 e6 (inR_of (by decide)) ⟨by decide, by decide⟩ rfl
    exact ge_none
theorem tbT_loseGroup_16 {Φ : ev_P} {d : Nat} (hd : 4 ≤ d) {v0 v1 v2 v4 v5 : Int} (hK0 : kd v0 = 5) (h1 : RfR v1) (h2 : InR v2) (h4 : RfR v4) (h5 : InR v5) {X16 : Int → Int → gH → Option (Int × gH)} (HX16 : ∀ (v3 : Int) (h3 : InR v3) (v6 : Int) (h6 : InR v6) (g : gH) (hg : HR g) (u7 : Option ev_V) (w7 : nwo u7), Go Φ pr_P fN 1 (X16 v3 v6 g) d pr_m300 16 [some (sR v0), some (sR v1), some (sI v2), some (sI v3), some (sR v4), some (sI v5), some (sI v6), u7] [] g 0 0) : ∀ (v3 : Int) (h3 : InR v3) (v6 : Int) (h6 : InR v6) (g : gH) (hg : HR g) (u7 : Option ev_V) (w7 : nwo u7), Go Φ pr_P fN 1 (bT_loseGroup_16 v0 v1 v2 v4 v5 X16 v3 v6 g) d pr_m300 16 [some (sR v0), some (sR v1), some (sI v2), some (sI v3), some (sR v4), some (sI v5), some (sI v6), u7] [] g 0 0 := by
  intro v3 h3 v6 h6 g hg u7 w7
  unfold bT_loseGroup_16
  refine go_iload kk300_0.1.2.1.1.1.2 rfl ?_
  refine go_iload kk300_0.1.2.1.1.2 rfl ?_
  refine go_cmlt kk300_0.1.2.1.2.1 h6 h5 (fun c4 => ?_) (fun c5 => ?_)
  · refine go_aload kk300_0.1.2.1.2.2 rfl ?_
    refine go_iload kk300_0.1.2.2.1.1 rfl ?_
    refine go_ck (fun q7 => ?_)
    refine go_pald kk300_0.1.2.2.1.2 hg q7 (fun r6 => ?_)
    refine go_astore kk300_0.1.2.2.2.1 rfl (loc2 := [some (sR v0), some (sR v1), some (sI v2), some (sI v3), some (sR v4), some (sI v5), some (sI v6), some (sR (g v4 v6))]) rfl ?_
    refine go_aload kk300_0.1.2.2.2.2 rfl ?_
    refine go_aload kk300_0.2.1.1.1.1.1 rfl ?_
    refine go_ck (fun q8 => ?_)
    refine go_callP3 kk300_0.2.1.1.1.1.2 rfl rfl rfl ⟨by decide, _, rfl, q8⟩ ⟨Nat.zero_le _, Nat.zero_le _⟩ (by omega) (tfP_isRunningChildOf (by omega) hg q8  h1) (fun y9 r10 => ?_)
    refine go_ifeq kk300_0.2.1.1.1.2 (inR_b r10) (fun c13 => ?_) (fun c14 => ?_)
    · refine go_iinc kk300_0.2.2.2.1.1 rfl rfl 1 rfl (loc2 := [some (sR v0), some (sR v1), some (sI v2), some (sI v3), some (sR v4), some (sI v5), some (sI (w32 (v6 + 1))), some (sR (g v4 v6))]) rfl ?_
      refine go_goto kk300_0.2.2.2.1.2 ?_
      exact HX16 v3 h3 (w32 (v6 + 1)) (inR_w32 _) g hg (some (sR (g v4 v6))) rfl
    · refine go_aload kk300_0.2.1.1.2.1 rfl ?_
      refine go_getI (bI := 5) kk300_0.2.1.1.2.2 hg q8 (by decide) rfl rfl (fun r15 => ?_)
      refine go_iload kk300_0.2.1.2.1.1 rfl ?_
      refine go_cmeq kk300_0.2.1.2.1.2 r15 h2 (fun c16 => ?_) (fun c17 => ?_)
      · refine go_aload kk300_0.2.1.2.2.1 rfl ?_
        refine go_aload kk300_0.2.1.2.2.2 rfl ?_
        refine go_aload kk300_0.2.2.1.1.1.1 rfl ?_
        refine go_aload kk300_0.2.2.1.1.1.2 rfl ?_
        refine go_callP2 kk300_0.2.2.1.1.2 rfl rfl rfl ⟨by decide, _, rfl, hK0⟩ ⟨Nat.zero_le _, Nat.zero_le _⟩ (by omega) (tfT_adopterOf (by omega) hg hK0  r6) (fun y18 r19 => ?_)
        refine go_callN0 kk300_0.2.2.1.2.1 rfl rfl rfl ⟨by decide, _, rfl, hK0⟩ ⟨Nat.zero_le _, Nat.zero_le _⟩ (by omega) (tfT_adopt (by omega) hg hK0  r6 r19) (fun y22 g24 e25 => ?_)
        refine go_iinc kk300_0.2.2.1.2.2 rfl rfl 1 rfl (loc2 := [some (sR v0), some (sR v1), some (sI v2), some (sI (w32 (v3 + 1))), some (sR v4), some (sI v5), some (sI v6), some (sR (g v4 v6))]) rfl ?_
        refine go_iinc kk300_0.2.2.2.1.1 rfl rfl 1 rfl (loc2 := [some (sR v0), some (sR v1), some (sI v2), some (sI (w32 (v3 + 1))), some (sR v4), some (sI v5), some (sI (w32 (v6 + 1))), some (sR (g v4 v6))]) rfl ?_
        refine go_goto kk300_0.2.2.2.1.2 ?_
        exact HX16 (w32 (v3 + 1)) (inR_w32 _) (w32 (v6 + 1)) (inR_w32 _) g24 e25 (some (sR (g v4 v6))) rfl
      · refine go_iinc kk300_0.2.2.2.1.1 rfl rfl 1 rfl (loc2 := [some (sR v0), some (sR v1), some (sI v2), some (sI v3), some (sR v4), some (sI v5), some (sI (w32 (v6 + 1))), some (sR (g v4 v6))]) rfl ?_
        refine go_goto kk300_0.2.2.2.1.2 ?_
        exact HX16 v3 h3 (w32 (v6 + 1)) (inR_w32 _) g hg (some (sR (g v4 v6))) rfl
  · refine go_iload kk300_0.2.2.2.2.1 rfl ?_
    exact go_iret kk300_0.2.2.2.2.2 hg h3 ⟨Nat.zero_le _, Nat.zero_le _⟩ rfl
theorem tlT_loseGroup_16 {Φ : ev_P} {d : Nat} (hd : 4 ≤ d) {v0 v1 v2 v4 v5 : Int} (hK0 : kd v0 = 5) (h1 : RfR v1) (h2 : InR v2) (h4 : RfR v4) (h5 : InR v5) : ∀ n : Nat, ∀ (v3 : Int) (h3 : InR v3) (v6 : Int) (h6 : InR v6) (g : gH) (hg : HR g) (u7 : Option ev_V) (w7 : nwo u7), Go Φ pr_P fN 1 (lT_loseGroup_16 v0 v1 v2 v4 v5 n v3 v6 g) d pr_m300 16 [some (sR v0), some (sR v1), some (sI v2), some (sI v3), some (sR v4), some (sI v5), some (sI v6), u7] [] g 0 0 := by
  intro n
  induction n with
  | zero => intros; exact go_none
  | succ n ih => exact tbT_loseGroup_16 hd hK0 h1 h2 h4 h5 ih
theorem tfT_loseGroup {Φ : ev_P} {d : Nat} (hd : 4 ≤ d) {g : gH} (hg : HR g) {v0 v1 v2 : Int} (hK0 : kd v0 = 5) (h1 : RfR v1) (h2 : InR v2) : Go Φ pr_P fN 1 (fT_loseGroup g v0 v1 v2) d (pr_P 300) 0 (ev_loc (pr_P 300).1 [(sR v0), (sR v1), (sI v2)]) [] g 0 0 := by
  show Go Φ pr_P fN 1 (fT_loseGroup g v0 v1 v2) d pr_m300 0 [some (sR v0), some (sR v1), some (sI v2), none, none, none, none, none] [] g 0 0
  unfold fT_loseGroup
  refine go_int kk300_0.1.1.1.1.1.1 0 rfl ?_
  refine go_istore kk300_0.1.1.1.1.1.2 rfl (loc2 := [some (sR v0), some (sR v1), some (sI v2), some (sI 0), none, none, none, none]) rfl ?_
  refine go_aload kk300_0.1.1.1.1.2 rfl ?_
  refine go_getR (bI := 1) kk300_0.1.1.1.2.1 hg hK0 (by decide) rfl rfl (fun r1 => ?_)
  refine go_astore kk300_0.1.1.1.2.2 rfl (loc2 := [some (sR v0), some (sR v1), some (sI v2), some (sI 0), some (sR (g v0 1)), none, none, none]) rfl ?_
  refine go_aload kk300_0.1.1.2.1.1 rfl ?_
  refine go_ck (fun q3 => ?_)
  refine go_alen kk300_0.1.1.2.1.2 (ka_24 q3) (fun r2 => ?_)
  refine go_istore kk300_0.1.1.2.2.1 rfl (loc2 := [some (sR v0), some (sR v1), some (sI v2), some (sI 0), some (sR (g v0 1)), some (sI (sz (g v0 1))), none, none]) rfl ?_
  refine go_int kk300_0.1.1.2.2.2 0 rfl ?_
  refine go_istore kk300_0.1.2.1.1.1.1 rfl (loc2 := [some (sR v0), some (sR v1), some (sI v2), some (sI 0), some (sR (g v0 1)), some (sI (sz (g v0 1))), some (sI 0), none]) rfl ?_
  exact tlT_loseGroup_16 hd hK0 h1 h2 r1 r2 fu 0 (inR_b (Or.inl rfl)) 0 (inR_b (Or.inl rfl)) g hg none rfl
theorem tfC_refuse {Φ : ev_P} {d : Nat} (hd : 5 ≤ d) {g : gH} (hg : HR g) {v0 v1 v2 : Int} (hK0 : kd v0 = 6) (h1 : InR v1) (h2 : InR v2) : Go Φ pr_P fT 1 (fC_refuse g v0 v1 v2) d (pr_P 21) 0 (ev_loc (pr_P 21).1 [(sR v0), (sI v1), (sI v2)]) [] g 0 0 := by
  show Go Φ pr_P fT 1 (fC_refuse g v0 v1 v2) d pr_m21 0 [some (sR v0), some (sI v1), some (sI v2), none] [] g 0 0
  unfold fC_refuse
  refine go_aload kk21_0.1.1.1.1.1 rfl ?_
  refine go_iload kk21_0.1.1.1.1.2 rfl ?_
  refine go_callQ2 kk21_0.1.1.1.2.1 rfl rfl rfl ⟨by decide, _, rfl, hK0⟩ ⟨by decide, by decide⟩ (by omega) (tfC_named (by omega) hg hK0  h1) (fun y1 r2 => ?_) (fun e5 E6 => ge_prop rfl ⟨by decide, by decide⟩ e5 rfl)
  refine go_astore kk21_0.1.1.1.2.2 rfl (loc2 := [some (sR v0), some (sI v1), some (sI v2), some (sR y1)]) rfl ?_
  refine go_iload kk21_0.1.1.2.1.1 rfl ?_
  refine go_int kk21_0.1.1.2.1.2 9 rfl ?_
  refine go_callQ0 kk21_0.1.1.2.2.1 rfl rfl rfl trivial ⟨by decide, by decide⟩ (by omega) (tfC_checkRange (by omega) hg  h2 (inR_of (by decide))) (fun y7 => ?_) (fun e11 E12 => ge_prop rfl ⟨by decide, by decide⟩ e11 rfl)
  refine go_aload kk21_0.1.1.2.2.2 rfl ?_
  refine go_ck (fun q13 => ?_)
  refine go_callP3 kk21_0.1.2.1.1.1 rfl rfl rfl ⟨by decide, _, rfl, q13⟩ ⟨by decide, by decide⟩ (by omega) (tfP_isMortal (by omega) hg q13 ) (fun y14 r15 => ?_)
  refine go_callQ0 kk21_0.1.2.1.1.2 rfl rfl rfl trivial ⟨by decide, by decide⟩ (by omega) (tfC_checkState (by omega) hg  r15) (fun y18 => ?_) (fun e22 E23 => ge_prop rfl ⟨by decide, by decide⟩ e22 rfl)
  refine go_aload kk21_0.1.2.1.2.1 rfl ?_
  refine go_getR (bI := 3) kk21_0.1.2.1.2.2 hg hK0 (by decide) rfl rfl (fun r24 => ?_)
  refine go_aload kk21_0.1.2.2.1.1 rfl ?_
  refine go_getR (bI := 0) kk21_0.1.2.2.1.2 hg hK0 (by decide) rfl rfl (fun r25 => ?_)
  refine go_ck (fun q26 => ?_)
  refine go_callN0 kk21_0.1.2.2.2 rfl rfl rfl ⟨by decide, _, rfl, q26⟩ ⟨by decide, by decide⟩ (by omega) (tfH_push (by omega) hg q26  r25) (fun y27 g29 e30 => ?_)
  refine go_aload kk21_0.2.1.1.1.1 rfl ?_
  refine go_dupR kk21_0.2.1.1.1.2 ?_
  refine go_getI (bI := 8) kk21_0.2.1.1.2.1 e30 q13 (by decide) rfl rfl (fun r31 => ?_)
  refine go_int kk21_0.2.1.1.2.2 1 rfl ?_
  refine go_iload kk21_0.2.1.2.1.1 rfl ?_
  refine go_ibin kk21_0.2.1.2.1.2 ?_
  refine go_ibin kk21_0.2.1.2.2 ?_
  refine go_putI (bI := 8) kk21_0.2.2.1.1.1 e30 q13 (by decide) rfl rfl (inR_opI _ _ _) (fun g32 e33 => ?_)
  refine go_aload kk21_0.2.2.1.1.2 rfl ?_
  refine go_getR (bI := 0) kk21_0.2.2.1.2.1 e33 hK0 (by decide) rfl rfl (fun r34 => ?_)
  refine go_aload kk21_0.2.2.1.2.2 rfl ?_
  refine go_iload kk21_0.2.2.2.1.1 rfl ?_
  refine go_ck (fun q35 => ?_)
  refine go_callN1 kk21_0.2.2.2.1.2 rfl rfl rfl ⟨by decide, _, rfl, q35⟩ ⟨by decide, by decide⟩ (by omega) (tfT_loseGroup (by omega) e33 q35  r2 h2) (fun y36 g38 r37 e39 => ?_)
  exact go_iret kk21_0.2.2.2.2 e39 r37 ⟨by decide, by decide⟩ rfl
theorem tfW_refuse {Φ : ev_P} {d : Nat} (hd : 6 ≤ d) {g : gH} (hg : HR g) {v0 v1 v2 v3 : Int} (h0 : RfR v0) (h1 : InR v1) (h2 : InR v2) (h3 : RfR v3) : Go Φ pr_P fN 1 (fW_refuse g v0 v1 v2 v3) d (pr_P 317) 0 (ev_loc (pr_P 317).1 [(sR v0), (sI v1), (sI v2), (sR v3)]) [] g 0 0 := by
  show Go Φ pr_P fN 1 (fW_refuse g v0 v1 v2 v3) d pr_m317 0 [some (sR v0), some (sI v1), some (sI v2), some (sR v3), none] [] g 0 0
  unfold fW_refuse
  refine go_aload kk317_0.1.1.1.1.1 rfl ?_
  refine go_int kk317_0.1.1.1.1.2 0 rfl ?_
  refine go_aload kk317_0.1.1.1.2 rfl ?_
  refine go_iload kk317_0.1.1.2.1 rfl ?_
  refine go_iload kk317_0.1.1.2.2 rfl ?_
  refine go_ck (fun q1 => ?_)
  refine go_callT1 kk317_0.1.2.1.1.1 rfl rfl rfl ⟨by decide, _, rfl, q1⟩ ⟨by decide, by decide⟩ (by omega) (tfC_refuse (by omega) hg q1  h1 h2) (fun y2 g4 r3 e5 => ?_) (fun E7 g4 e6 => ?_)
  · refine go_i2l kk317_0.1.2.1.1.2 r3 ?_
    refine go_ck (fun q8 => ?_)
    refine go_last kk317_0.1.2.1.2 e5 q8 (inL_R r3) (fun g9 e10 => ?_)
    refine go_goto kk317_0.1.2.2.1 ?_
    refine go_int kk317_0.2.2.2.1 0 rfl ?_
    exact go_iret kk317_0.2.2.2.2 e10 (inR_b (Or.inl rfl)) ⟨by decide, by decide⟩ rfl
  · refine ge_ite (fun hE9 => ?_) (fun _ => ?_)
    · subst hE9
      refine ge_catch rfl kk317_0.1.2.2.2 rfl (loc2 := [some (sR v0), some (sI v1), some (sI v2), some (sR v3), none]) rfl ?_
      refine go_int kk317_0.2.1.1.1.1 1 rfl ?_
      exact go_iret kk317_0.2.1.1.1.2 e6 (inR_b (Or.inr rfl)) ⟨by decide, by decide⟩ rfl
    refine ge_ite (fun hE9 => ?_) (fun _ => ?_)
    · subst hE9
      refine ge_catch rfl kk317_0.2.1.1.2 rfl (loc2 := [some (sR v0), some (sI v1), some (sI v2), some (sR v3), none]) rfl ?_
      refine go_int kk317_0.2.1.2.1 2 rfl ?_
      exact go_iret kk317_0.2.1.2.2 e6 (inR_of (by decide)) ⟨by decide, by decide⟩ rfl
    refine ge_ite (fun hE9 => ?_) (fun _ => ?_)
    · subst hE9
      refine ge_catch rfl kk317_0.2.2.1.1.1 rfl (loc2 := [some (sR v0), some (sI v1), some (sI v2), some (sR v3), none]) rfl ?_
      refine go_int kk317_0.2.2.1.1.2 3 rfl ?_
      exact go_iret kk317_0.2.2.1.2 e6 (inR_of (by decide)) ⟨by decide, by decide⟩ rfl
    exact ge_none
theorem tfC_accept {Φ : ev_P} {d : Nat} (hd : 3 ≤ d) {g : gH} (hg : HR g) {v0 v1 v2 : Int} (hK0 : kd v0 = 6) (h1 : InR v1) (h2 : InR v2) : Go Φ pr_P fT 3 (fC_accept g v0 v1 v2) d (pr_P 22) 0 (ev_loc (pr_P 22).1 [(sR v0), (sI v1), (sI v2)]) [] g 0 0 := by
  show Go Φ pr_P fT 3 (fC_accept g v0 v1 v2) d pr_m22 0 [some (sR v0), some (sI v1), some (sI v2), none, none] [] g 0 0
  unfold fC_accept
  refine go_aload kk22_0.1.1.1.1.1 rfl ?_
  refine go_iload kk22_0.1.1.1.1.2 rfl ?_
  refine go_callQ2 kk22_0.1.1.1.2.1 rfl rfl rfl ⟨by decide, _, rfl, hK0⟩ ⟨by decide, by decide⟩ (by omega) (tfC_named (by omega) hg hK0  h1) (fun y1 r2 => ?_) (fun e5 E6 => ge_prop rfl ⟨by decide, by decide⟩ e5 rfl)
  refine go_astore kk22_0.1.1.1.2.2 rfl (loc2 := [some (sR v0), some (sI v1), some (sI v2), some (sR y1), none]) rfl ?_
  refine go_iload kk22_0.1.1.2.1.1 rfl ?_
  refine go_int kk22_0.1.1.2.1.2 9 rfl ?_
  refine go_callQ0 kk22_0.1.1.2.2.1 rfl rfl rfl trivial ⟨by decide, by decide⟩ (by omega) (tfC_checkRange (by omega) hg  h2 (inR_of (by decide))) (fun y7 => ?_) (fun e11 E12 => ge_prop rfl ⟨by decide, by decide⟩ e11 rfl)
  refine go_aload kk22_0.1.1.2.2.2 rfl ?_
  refine go_ck (fun q13 => ?_)
  refine go_callP3 kk22_0.1.2.1.1.1 rfl rfl rfl ⟨by decide, _, rfl, q13⟩ ⟨by decide, by decide⟩ (by omega) (tfP_isRunning (by omega) hg q13 ) (fun y14 r15 => ?_)
  refine go_callQ0 kk22_0.1.2.1.1.2 rfl rfl rfl trivial ⟨by decide, by decide⟩ (by omega) (tfC_checkState (by omega) hg  r15) (fun y18 => ?_) (fun e22 E23 => ge_prop rfl ⟨by decide, by decide⟩ e22 rfl)
  refine go_aload kk22_0.1.2.1.2.1 rfl ?_
  refine go_getR (bI := 3) kk22_0.1.2.1.2.2 hg hK0 (by decide) rfl rfl (fun r24 => ?_)
  refine go_aload kk22_0.1.2.2.1.1 rfl ?_
  refine go_getR (bI := 0) kk22_0.1.2.2.1.2 hg hK0 (by decide) rfl rfl (fun r25 => ?_)
  refine go_ck (fun q26 => ?_)
  refine go_callN0 kk22_0.1.2.2.2.1 rfl rfl rfl ⟨by decide, _, rfl, q26⟩ ⟨by decide, by decide⟩ (by omega) (tfH_push (by omega) hg q26  r25) (fun y27 g29 e30 => ?_)
  refine go_aload kk22_0.1.2.2.2.2 rfl ?_
  refine go_iload kk22_0.2.1.1.1.1 rfl ?_
  refine go_callP3 kk22_0.2.1.1.1.2 rfl rfl rfl ⟨by decide, _, rfl, q13⟩ ⟨by decide, by decide⟩ (by omega) (tfP_refuses (by omega) e30 q13  h2) (fun y31 r32 => ?_)
  refine go_istore kk22_0.2.1.1.2.1 rfl (loc2 := [some (sR v0), some (sI v1), some (sI v2), some (sR y1), some (sI y31)]) rfl ?_
  refine go_aload kk22_0.2.1.1.2.2 rfl ?_
  refine go_dupR kk22_0.2.1.2.1.1 ?_
  refine go_getI (bI := 8) kk22_0.2.1.2.1.2 e30 q13 (by decide) rfl rfl (fun r35 => ?_)
  refine go_int kk22_0.2.1.2.2.1 1 rfl ?_
  refine go_iload kk22_0.2.1.2.2.2 rfl ?_
  refine go_ibin kk22_0.2.2.1.1.1 ?_
  refine go_int kk22_0.2.2.1.1.2 (-1) rfl ?_
  refine go_ibin kk22_0.2.2.1.2.1 ?_
  refine go_ibin kk22_0.2.2.1.2.2 ?_
  refine go_putI (bI := 8) kk22_0.2.2.2.1.1 e30 q13 (by decide) rfl rfl (inR_opI _ _ _) (fun g36 e37 => ?_)
  refine go_iload kk22_0.2.2.2.1.2 rfl ?_
  exact go_bret kk22_0.2.2.2.2 e37 r32 ⟨by decide, by decide⟩ rfl
theorem tfW_accept {Φ : ev_P} {d : Nat} (hd : 4 ≤ d) {g : gH} (hg : HR g) {v0 v1 v2 v3 : Int} (h0 : RfR v0) (h1 : InR v1) (h2 : InR v2) (h3 : RfR v3) : Go Φ pr_P fN 1 (fW_accept g v0 v1 v2 v3) d (pr_P 318) 0 (ev_loc (pr_P 318).1 [(sR v0), (sI v1), (sI v2), (sR v3)]) [] g 0 0 := by
  show Go Φ pr_P fN 1 (fW_accept g v0 v1 v2 v3) d pr_m318 0 [some (sR v0), some (sI v1), some (sI v2), some (sR v3), none] [] g 0 0
  unfold fW_accept
  refine go_aload kk318_0.1.1.1.1.1 rfl ?_
  refine go_int kk318_0.1.1.1.1.2 0 rfl ?_
  refine go_aload kk318_0.1.1.1.2 rfl ?_
  refine go_iload kk318_0.1.1.2.1.1 rfl ?_
  refine go_iload kk318_0.1.1.2.1.2 rfl ?_
  refine go_ck (fun q1 => ?_)
  refine go_callT3 kk318_0.1.1.2.2 rfl rfl rfl ⟨by decide, _, rfl, q1⟩ ⟨by decide, by decide⟩ (by omega) (tfC_accept (by omega) hg q1  h1 h2) (fun y2 g4 r3 e5 => ?_) (fun E7 g4 e6 => ?_)
  · refine go_ifeq kk318_0.1.2.1.1.1 (inR_b r3) (fun c8 => ?_) (fun c9 => ?_)
    · refine go_lconst kk318_0.1.2.2.1.1 0 rfl ?_
      refine go_ck (fun q10 => ?_)
      refine go_last kk318_0.1.2.2.1.2 e5 q10 (inL_of (by decide)) (fun g11 e12 => ?_)
      refine go_goto kk318_0.1.2.2.2 ?_
      refine go_int kk318_0.2.2.2.1 0 rfl ?_
      exact go_iret kk318_0.2.2.2.2 e12 (inR_b (Or.inl rfl)) ⟨by decide, by decide⟩ rfl
    · refine go_lconst kk318_0.1.2.1.1.2 1 rfl ?_
      refine go_goto kk318_0.1.2.1.2 ?_
      refine go_ck (fun q13 => ?_)
      refine go_last kk318_0.1.2.2.1.2 e5 q13 (inL_of (by decide)) (fun g14 e15 => ?_)
      refine go_goto kk318_0.1.2.2.2 ?_
      refine go_int kk318_0.2.2.2.1 0 rfl ?_
      exact go_iret kk318_0.2.2.2.2 e15 (inR_b (Or.inl rfl)) ⟨by decide, by decide⟩ rfl
  · refine ge_ite (fun hE9 => ?_) (fun _ => ?_)
    · subst hE9
      refine ge_catch rfl kk318_0.2.1.1.1.1 rfl (loc2 := [some (sR v0), some (sI v1), some (sI v2), some (sR v3), none]) rfl ?_
      refine go_int kk318_0.2.1.1.1.2 1 rfl ?_
      exact go_iret kk318_0.2.1.1.2 e6 (inR_b (Or.inr rfl)) ⟨by decide, by decide⟩ rfl
    refine ge_ite (fun hE9 => ?_) (fun _ => ?_)
    · subst hE9
      refine ge_catch rfl kk318_0.2.1.2.1.1 rfl (loc2 := [some (sR v0), some (sI v1), some (sI v2), some (sR v3), none]) rfl ?_
      refine go_int kk318_0.2.1.2.1.2 2 rfl ?_
      exact go_iret kk318_0.2.1.2.2 e6 (inR_of (by decide)) ⟨by decide, by decide⟩ rfl
    refine ge_ite (fun hE9 => ?_) (fun _ => ?_)
    · subst hE9
      refine ge_catch rfl kk318_0.2.2.1.1.1 rfl (loc2 := [some (sR v0), some (sI v1), some (sI v2), some (sR v3), none]) rfl ?_
      refine go_int kk318_0.2.2.1.1.2 3 rfl ?_
      exact go_iret kk318_0.2.2.1.2 e6 (inR_of (by decide)) ⟨by decide, by decide⟩ rfl
    exact ge_none
theorem tjC_move_60 {Φ : ev_P} {d : Nat} (hd : 3 ≤ d) {g : gH} (hg : HR g) {v0 v3 v4 : Int} (hK0 : kd v0 = 6) (h3 : RfR v3) (h4 : RfR v4) {s0 : Int} (z0 : B01 s0) (u1 : Option ev_V) (w1 : nwo u1) (u2 : Option ev_V) (w2 : nwo u2) (u5 : Option ev_V) (w5 : nwo u5) : Go Φ pr_P fT 1 (jC_move_60 g v0 v3 v4 s0 ) d pr_m23 60 [some (sR v0), u1, u2, some (sR v3), some (sR v4), u5] [(sI s0)] g 2 12 := by
  unfold jC_move_60
  refine go_callQ0 kk23_0.2.1.2.1.1.2 rfl rfl rfl trivial ⟨by decide, by decide⟩ (by omega) (tfC_checkState (by omega) hg  z0) (fun y42 => ?_) (fun e46 E47 => ge_prop rfl ⟨by decide, by decide⟩ e46 rfl)
  refine go_aload kk23_0.2.1.2.1.2 rfl ?_
  refine go_getR (bI := 3) kk23_0.2.1.2.2.1 hg hK0 (by decide) rfl rfl (fun r48 => ?_)
  refine go_aload kk23_0.2.1.2.2.2 rfl ?_
  refine go_getR (bI := 0) kk23_0.2.2.1.1.1.1 hg hK0 (by decide) rfl rfl (fun r49 => ?_)
  refine go_ck (fun q50 => ?_)
  refine go_callN0 kk23_0.2.2.1.1.1.2 rfl rfl rfl ⟨by decide, _, rfl, q50⟩ ⟨by decide, by decide⟩ (by omega) (tfH_push (by omega) hg q50  r49) (fun y51 g53 e54 => ?_)
  refine go_aload kk23_0.2.2.1.1.2 rfl ?_
  refine go_ck (fun q55 => ?_)
  refine go_getR (bI := 2) kk23_0.2.2.1.2.1.1 e54 q55 (by decide) rfl rfl (fun r56 => ?_)
  refine go_callP1 kk23_0.2.2.1.2.1.2 rfl rfl rfl trivial ⟨by decide, by decide⟩ (by omega) (tfC_numberOf (by omega) e54  r56) (fun y57 r58 => ?_)
  refine go_istore kk23_0.2.2.1.2.2 rfl (loc2 := [some (sR v0), u1, u2, some (sR v3), some (sR v4), some (sI y57)]) rfl ?_
  refine go_aload kk23_0.2.2.2.1.1.1 rfl ?_
  refine go_aload kk23_0.2.2.2.1.1.2 rfl ?_
  refine go_callN0 kk23_0.2.2.2.1.2 rfl rfl rfl ⟨by decide, _, rfl, q55⟩ ⟨by decide, by decide⟩ (by omega) (tfP_putUnder (by omega) e54 q55  h4) (fun y61 g63 e64 => ?_)
  refine go_iload kk23_0.2.2.2.2.1 rfl ?_
  exact go_iret kk23_0.2.2.2.2.2 e64 r58 ⟨by decide, by decide⟩ rfl
theorem tjC_move_59 {Φ : ev_P} {d : Nat} (hd : 3 ≤ d) {g : gH} (hg : HR g) {v0 v3 v4 : Int} (hK0 : kd v0 = 6) (h3 : RfR v3) (h4 : RfR v4) (u1 : Option ev_V) (w1 : nwo u1) (u2 : Option ev_V) (w2 : nwo u2) (u5 : Option ev_V) (w5 : nwo u5) : Go Φ pr_P fT 1 (jC_move_59 g v0 v3 v4 ) d pr_m23 59 [some (sR v0), u1, u2, some (sR v3), some (sR v4), u5] [] g 2 12 := by
  unfold jC_move_59
  refine go_int kk23_0.2.1.2.1.1.1 0 rfl ?_
  exact tjC_move_60 hd hg hK0 h3 h4 (Or.inl rfl) u1 w1 u2 w2 u5 w5
theorem tfC_move {Φ : ev_P} {d : Nat} (hd : 3 ≤ d) {g : gH} (hg : HR g) {v0 v1 v2 : Int} (hK0 : kd v0 = 6) (h1 : InR v1) (h2 : InR v2) : Go Φ pr_P fT 1 (fC_move g v0 v1 v2) d (pr_P 23) 0 (ev_loc (pr_P 23).1 [(sR v0), (sI v1), (sI v2)]) [] g 0 0 := by
  show Go Φ pr_P fT 1 (fC_move g v0 v1 v2) d pr_m23 0 [some (sR v0), some (sI v1), some (sI v2), none, none, none] [] g 0 0
  unfold fC_move
  refine go_aload kk23_0.1.1.1.1.1.1 rfl ?_
  refine go_iload kk23_0.1.1.1.1.1.2 rfl ?_
  refine go_callQ2 kk23_0.1.1.1.1.2 rfl rfl rfl ⟨by decide, _, rfl, hK0⟩ ⟨by decide, by decide⟩ (by omega) (tfC_named (by omega) hg hK0  h1) (fun y1 r2 => ?_) (fun e5 E6 => ge_prop rfl ⟨by decide, by decide⟩ e5 rfl)
  refine go_astore kk23_0.1.1.1.2.1.1 rfl (loc2 := [some (sR v0), some (sI v1), some (sI v2), some (sR y1), none, none]) rfl ?_
  refine go_aload kk23_0.1.1.1.2.1.2 rfl ?_
  refine go_iload kk23_0.1.1.1.2.2 rfl ?_
  refine go_callQ2 kk23_0.1.1.2.1.1.1 rfl rfl rfl ⟨by decide, _, rfl, hK0⟩ ⟨by decide, by decide⟩ (by omega) (tfC_named (by omega) hg hK0  h2) (fun y7 r8 => ?_) (fun e11 E12 => ge_prop rfl ⟨by decide, by decide⟩ e11 rfl)
  refine go_astore kk23_0.1.1.2.1.1.2 rfl (loc2 := [some (sR v0), some (sI v1), some (sI v2), some (sR y1), some (sR y7), none]) rfl ?_
  refine go_aload kk23_0.1.1.2.1.2 rfl ?_
  refine go_ck (fun q13 => ?_)
  refine go_callP3 kk23_0.1.1.2.2.1 rfl rfl rfl ⟨by decide, _, rfl, q13⟩ ⟨by decide, by decide⟩ (by omega) (tfP_isMortal (by omega) hg q13 ) (fun y14 r15 => ?_)
  refine go_ifeq kk23_0.1.1.2.2.2 (inR_b r15) (fun c18 => ?_) (fun c19 => ?_)
  · exact tjC_move_59 hd hg hK0 r2 r8 (some (sI v1)) rfl (some (sI v2)) rfl none rfl
  · refine go_aload kk23_0.1.2.1.1.1.1 rfl ?_
    refine go_ck (fun q20 => ?_)
    refine go_callP1 kk23_0.1.2.1.1.1.2 rfl rfl rfl ⟨by decide, _, rfl, q20⟩ ⟨by decide, by decide⟩ (by omega) (tfP_room (by omega) hg q20 ) (fun y21 r22 => ?_)
    refine go_ifgt kk23_0.1.2.1.1.2 r22 (fun c25 => ?_) (fun c26 => ?_)
    · refine go_aload kk23_0.1.2.1.2.1.1 rfl ?_
      refine go_aload kk23_0.1.2.1.2.1.2 rfl ?_
      refine go_acmp kk23_0.1.2.1.2.2 r8 r2 (fun c27 => ?_) (fun c28 => ?_)
      · exact tjC_move_59 hd hg hK0 r2 r8 (some (sI v1)) rfl (some (sI v2)) rfl none rfl
      · refine go_aload kk23_0.1.2.2.1.1.1 rfl ?_
        refine go_aload kk23_0.1.2.2.1.1.2 rfl ?_
        refine go_callP3 kk23_0.1.2.2.1.2 rfl rfl rfl ⟨by decide, _, rfl, q13⟩ ⟨by decide, by decide⟩ (by omega) (tfP_isOver (by omega) hg q13  r8) (fun y29 r30 => ?_)
        refine go_ifeq kk23_0.1.2.2.2.1 (inR_b r30) (fun c33 => ?_) (fun c34 => ?_)
        · refine go_aload kk23_0.1.2.2.2.2 rfl ?_
          refine go_aload kk23_0.2.1.1.1.1.1 rfl ?_
          refine go_getI (bI := 5) kk23_0.2.1.1.1.1.2 hg q13 (by decide) rfl rfl (fun r35 => ?_)
          refine go_callP3 kk23_0.2.1.1.1.2 rfl rfl rfl ⟨by decide, _, rfl, q20⟩ ⟨by decide, by decide⟩ (by omega) (tfP_refuses (by omega) hg q20  r35) (fun y36 r37 => ?_)
          refine go_ifeq kk23_0.2.1.1.2.1.1 (inR_b r37) (fun c40 => ?_) (fun c41 => ?_)
          · refine go_int kk23_0.2.1.1.2.1.2 1 rfl ?_
            refine go_goto kk23_0.2.1.1.2.2 ?_
            exact tjC_move_60 hd hg hK0 r2 r8 (Or.inr rfl) (some (sI v1)) rfl (some (sI v2)) rfl none rfl
          · exact tjC_move_59 hd hg hK0 r2 r8 (some (sI v1)) rfl (some (sI v2)) rfl none rfl
        · exact tjC_move_59 hd hg hK0 r2 r8 (some (sI v1)) rfl (some (sI v2)) rfl none rfl
    · exact tjC_move_59 hd hg hK0 r2 r8 (some (sI v1)) rfl (some (sI v2)) rfl none rfl
theorem tfW_move {Φ : ev_P} {d : Nat} (hd : 4 ≤ d) {g : gH} (hg : HR g) {v0 v1 v2 v3 : Int} (h0 : RfR v0) (h1 : InR v1) (h2 : InR v2) (h3 : RfR v3) : Go Φ pr_P fN 1 (fW_move g v0 v1 v2 v3) d (pr_P 319) 0 (ev_loc (pr_P 319).1 [(sR v0), (sI v1), (sI v2), (sR v3)]) [] g 0 0 := by
  show Go Φ pr_P fN 1 (fW_move g v0 v1 v2 v3) d pr_m319 0 [some (sR v0), some (sI v1), some (sI v2), some (sR v3), none] [] g 0 0
  unfold fW_move
  refine go_aload kk319_0.1.1.1.1.1 rfl ?_
  refine go_int kk319_0.1.1.1.1.2 0 rfl ?_
  refine go_aload kk319_0.1.1.1.2 rfl ?_
  refine go_iload kk319_0.1.1.2.1 rfl ?_
  refine go_iload kk319_0.1.1.2.2 rfl ?_
  refine go_ck (fun q1 => ?_)
  refine go_callT1 kk319_0.1.2.1.1 rfl rfl rfl ⟨by decide, _, rfl, q1⟩ ⟨by decide, by decide⟩ (by omega) (tfC_move (by omega) hg q1  h1 h2) (fun y2 g4 r3 e5 => ?_) (fun E7 g4 e6 => ?_)
  · refine go_i2l kk319_0.1.2.1.2 r3 ?_
    refine go_ck (fun q8 => ?_)
    refine go_last kk319_0.1.2.2.1 e5 q8 (inL_R r3) (fun g9 e10 => ?_)
    refine go_goto kk319_0.1.2.2.2 ?_
    refine go_int kk319_0.2.2.2.1 0 rfl ?_
    exact go_iret kk319_0.2.2.2.2 e10 (inR_b (Or.inl rfl)) ⟨by decide, by decide⟩ rfl
  · refine ge_ite (fun hE9 => ?_) (fun _ => ?_)
    · subst hE9
      refine ge_catch rfl kk319_0.2.1.1.1 rfl (loc2 := [some (sR v0), some (sI v1), some (sI v2), some (sR v3), none]) rfl ?_
      refine go_int kk319_0.2.1.1.2 1 rfl ?_
      exact go_iret kk319_0.2.1.2.1 e6 (inR_b (Or.inr rfl)) ⟨by decide, by decide⟩ rfl
    refine ge_ite (fun hE9 => ?_) (fun _ => ?_)
    · subst hE9
      refine ge_catch rfl kk319_0.2.1.2.2 rfl (loc2 := [some (sR v0), some (sI v1), some (sI v2), some (sR v3), none]) rfl ?_
      refine go_int kk319_0.2.2.1.1 2 rfl ?_
      exact go_iret kk319_0.2.2.1.2 e6 (inR_of (by decide)) ⟨by decide, by decide⟩ rfl
    exact ge_none
theorem tfC_setCapacity {Φ : ev_P} {d : Nat} (hd : 3 ≤ d) {g : gH} (hg : HR g) {v0 v1 v2 : Int} (hK0 : kd v0 = 6) (h1 : InR v1) (h2 : InR v2) : Go Φ pr_P fT 1 (fC_setCapacity g v0 v1 v2) d (pr_P 24) 0 (ev_loc (pr_P 24).1 [(sR v0), (sI v1), (sI v2)]) [] g 0 0 := by
  show Go Φ pr_P fT 1 (fC_setCapacity g v0 v1 v2) d pr_m24 0 [some (sR v0), some (sI v1), some (sI v2), none, none] [] g 0 0
  unfold fC_setCapacity
  refine go_aload kk24_0.1.1.1.1.1 rfl ?_
  refine go_iload kk24_0.1.1.1.1.2 rfl ?_
  refine go_callQ2 kk24_0.1.1.1.2 rfl rfl rfl ⟨by decide, _, rfl, hK0⟩ ⟨by decide, by decide⟩ (by omega) (tfC_named (by omega) hg hK0  h1) (fun y1 r2 => ?_) (fun e5 E6 => ge_prop rfl ⟨by decide, by decide⟩ e5 rfl)
  refine go_astore kk24_0.1.1.2.1.1 rfl (loc2 := [some (sR v0), some (sI v1), some (sI v2), some (sR y1), none]) rfl ?_
  refine go_iload kk24_0.1.1.2.1.2 rfl ?_
  refine go_int kk24_0.1.1.2.2 9 rfl ?_
  refine go_callQ0 kk24_0.1.2.1.1.1 rfl rfl rfl trivial ⟨by decide, by decide⟩ (by omega) (tfC_checkRange (by omega) hg  h2 (inR_of (by decide))) (fun y7 => ?_) (fun e11 E12 => ge_prop rfl ⟨by decide, by decide⟩ e11 rfl)
  refine go_aload kk24_0.1.2.1.1.2 rfl ?_
  refine go_ck (fun q13 => ?_)
  refine go_callP3 kk24_0.1.2.1.2 rfl rfl rfl ⟨by decide, _, rfl, q13⟩ ⟨by decide, by decide⟩ (by omega) (tfP_isRunning (by omega) hg q13 ) (fun y14 r15 => ?_)
  refine go_callQ0 kk24_0.1.2.2.1.1 rfl rfl rfl trivial ⟨by decide, by decide⟩ (by omega) (tfC_checkState (by omega) hg  r15) (fun y18 => ?_) (fun e22 E23 => ge_prop rfl ⟨by decide, by decide⟩ e22 rfl)
  refine go_aload kk24_0.1.2.2.1.2 rfl ?_
  refine go_getR (bI := 3) kk24_0.1.2.2.2 hg hK0 (by decide) rfl rfl (fun r24 => ?_)
  refine go_aload kk24_0.2.1.1.1.1 rfl ?_
  refine go_getR (bI := 0) kk24_0.2.1.1.1.2 hg hK0 (by decide) rfl rfl (fun r25 => ?_)
  refine go_ck (fun q26 => ?_)
  refine go_callN0 kk24_0.2.1.1.2 rfl rfl rfl ⟨by decide, _, rfl, q26⟩ ⟨by decide, by decide⟩ (by omega) (tfH_push (by omega) hg q26  r25) (fun y27 g29 e30 => ?_)
  refine go_aload kk24_0.2.1.2.1.1 rfl ?_
  refine go_getI (bI := 4) kk24_0.2.1.2.1.2 e30 q13 (by decide) rfl rfl (fun r31 => ?_)
  refine go_istore kk24_0.2.1.2.2 rfl (loc2 := [some (sR v0), some (sI v1), some (sI v2), some (sR y1), some (sI (g29 y1 4))]) rfl ?_
  refine go_aload kk24_0.2.2.1.1.1 rfl ?_
  refine go_iload kk24_0.2.2.1.1.2 rfl ?_
  refine go_putI (bI := 4) kk24_0.2.2.1.2 e30 q13 (by decide) rfl rfl h2 (fun g32 e33 => ?_)
  refine go_iload kk24_0.2.2.2.1 rfl ?_
  exact go_iret kk24_0.2.2.2.2 e33 r31 ⟨by decide, by decide⟩ rfl
theorem tfW_setCapacity {Φ : ev_P} {d : Nat} (hd : 4 ≤ d) {g : gH} (hg : HR g) {v0 v1 v2 v3 : Int} (h0 : RfR v0) (h1 : InR v1) (h2 : InR v2) (h3 : RfR v3) : Go Φ pr_P fN 1 (fW_setCapacity g v0 v1 v2 v3) d (pr_P 320) 0 (ev_loc (pr_P 320).1 [(sR v0), (sI v1), (sI v2), (sR v3)]) [] g 0 0 := by
  show Go Φ pr_P fN 1 (fW_setCapacity g v0 v1 v2 v3) d pr_m320 0 [some (sR v0), some (sI v1), some (sI v2), some (sR v3), none] [] g 0 0
  unfold fW_setCapacity
  refine go_aload kk320_0.1.1.1.1.1 rfl ?_
  refine go_int kk320_0.1.1.1.1.2 0 rfl ?_
  refine go_aload kk320_0.1.1.1.2 rfl ?_
  refine go_iload kk320_0.1.1.2.1 rfl ?_
  refine go_iload kk320_0.1.1.2.2 rfl ?_
  refine go_ck (fun q1 => ?_)
  refine go_callT1 kk320_0.1.2.1.1.1 rfl rfl rfl ⟨by decide, _, rfl, q1⟩ ⟨by decide, by decide⟩ (by omega) (tfC_setCapacity (by omega) hg q1  h1 h2) (fun y2 g4 r3 e5 => ?_) (fun E7 g4 e6 => ?_)
  · refine go_i2l kk320_0.1.2.1.1.2 r3 ?_
    refine go_ck (fun q8 => ?_)
    refine go_last kk320_0.1.2.1.2 e5 q8 (inL_R r3) (fun g9 e10 => ?_)
    refine go_goto kk320_0.1.2.2.1 ?_
    refine go_int kk320_0.2.2.2.1 0 rfl ?_
    exact go_iret kk320_0.2.2.2.2 e10 (inR_b (Or.inl rfl)) ⟨by decide, by decide⟩ rfl
  · refine ge_ite (fun hE9 => ?_) (fun _ => ?_)
    · subst hE9
      refine ge_catch rfl kk320_0.1.2.2.2 rfl (loc2 := [some (sR v0), some (sI v1), some (sI v2), some (sR v3), none]) rfl ?_
      refine go_int kk320_0.2.1.1.1.1 1 rfl ?_
      exact go_iret kk320_0.2.1.1.1.2 e6 (inR_b (Or.inr rfl)) ⟨by decide, by decide⟩ rfl
    refine ge_ite (fun hE9 => ?_) (fun _ => ?_)
    · subst hE9
      refine ge_catch rfl kk320_0.2.1.1.2 rfl (loc2 := [some (sR v0), some (sI v1), some (sI v2), some (sR v3), none]) rfl ?_
      refine go_int kk320_0.2.1.2.1 2 rfl ?_
      exact go_iret kk320_0.2.1.2.2 e6 (inR_of (by decide)) ⟨by decide, by decide⟩ rfl
    refine ge_ite (fun hE9 => ?_) (fun _ => ?_)
    · subst hE9
      refine ge_catch rfl kk320_0.2.2.1.1.1 rfl (loc2 := [some (sR v0), some (sI v1), some (sI v2), some (sR v3), none]) rfl ?_
      refine go_int kk320_0.2.2.1.1.2 3 rfl ?_
      exact go_iret kk320_0.2.2.1.2 e6 (inR_of (by decide)) ⟨by decide, by decide⟩ rfl
    exact ge_none
theorem tfC_setBudget {Φ : ev_P} {d : Nat} (hd : 3 ≤ d) {g : gH} (hg : HR g) {v0 v1 v2 : Int} (hK0 : kd v0 = 6) (h1 : InR v1) (h2 : InR v2) : Go Φ pr_P fT 1 (fC_setBudget g v0 v1 v2) d (pr_P 25) 0 (ev_loc (pr_P 25).1 [(sR v0), (sI v1), (sI v2)]) [] g 0 0 := by
  show Go Φ pr_P fT 1 (fC_setBudget g v0 v1 v2) d pr_m25 0 [some (sR v0), some (sI v1), some (sI v2), none, none] [] g 0 0
  unfold fC_setBudget
  refine go_aload kk25_0.1.1.1.1.1 rfl ?_
  refine go_iload kk25_0.1.1.1.1.2 rfl ?_
  refine go_callQ2 kk25_0.1.1.1.2 rfl rfl rfl ⟨by decide, _, rfl, hK0⟩ ⟨by decide, by decide⟩ (by omega) (tfC_named (by omega) hg hK0  h1) (fun y1 r2 => ?_) (fun e5 E6 => ge_prop rfl ⟨by decide, by decide⟩ e5 rfl)
  refine go_astore kk25_0.1.1.2.1.1 rfl (loc2 := [some (sR v0), some (sI v1), some (sI v2), some (sR y1), none]) rfl ?_
  refine go_iload kk25_0.1.1.2.1.2 rfl ?_
  refine go_int kk25_0.1.1.2.2 9 rfl ?_
  refine go_callQ0 kk25_0.1.2.1.1.1 rfl rfl rfl trivial ⟨by decide, by decide⟩ (by omega) (tfC_checkRange (by omega) hg  h2 (inR_of (by decide))) (fun y7 => ?_) (fun e11 E12 => ge_prop rfl ⟨by decide, by decide⟩ e11 rfl)
  refine go_aload kk25_0.1.2.1.1.2 rfl ?_
  refine go_ck (fun q13 => ?_)
  refine go_callP3 kk25_0.1.2.1.2 rfl rfl rfl ⟨by decide, _, rfl, q13⟩ ⟨by decide, by decide⟩ (by omega) (tfP_isRunning (by omega) hg q13 ) (fun y14 r15 => ?_)
  refine go_callQ0 kk25_0.1.2.2.1.1 rfl rfl rfl trivial ⟨by decide, by decide⟩ (by omega) (tfC_checkState (by omega) hg  r15) (fun y18 => ?_) (fun e22 E23 => ge_prop rfl ⟨by decide, by decide⟩ e22 rfl)
  refine go_aload kk25_0.1.2.2.1.2 rfl ?_
  refine go_getR (bI := 3) kk25_0.1.2.2.2 hg hK0 (by decide) rfl rfl (fun r24 => ?_)
  refine go_aload kk25_0.2.1.1.1.1 rfl ?_
  refine go_getR (bI := 0) kk25_0.2.1.1.1.2 hg hK0 (by decide) rfl rfl (fun r25 => ?_)
  refine go_ck (fun q26 => ?_)
  refine go_callN0 kk25_0.2.1.1.2 rfl rfl rfl ⟨by decide, _, rfl, q26⟩ ⟨by decide, by decide⟩ (by omega) (tfH_push (by omega) hg q26  r25) (fun y27 g29 e30 => ?_)
  refine go_aload kk25_0.2.1.2.1.1 rfl ?_
  refine go_getI (bI := 6) kk25_0.2.1.2.1.2 e30 q13 (by decide) rfl rfl (fun r31 => ?_)
  refine go_istore kk25_0.2.1.2.2 rfl (loc2 := [some (sR v0), some (sI v1), some (sI v2), some (sR y1), some (sI (g29 y1 6))]) rfl ?_
  refine go_aload kk25_0.2.2.1.1.1 rfl ?_
  refine go_iload kk25_0.2.2.1.1.2 rfl ?_
  refine go_putI (bI := 6) kk25_0.2.2.1.2 e30 q13 (by decide) rfl rfl h2 (fun g32 e33 => ?_)
  refine go_iload kk25_0.2.2.2.1 rfl ?_
  exact go_iret kk25_0.2.2.2.2 e33 r31 ⟨by decide, by decide⟩ rfl
theorem tfW_setBudget {Φ : ev_P} {d : Nat} (hd : 4 ≤ d) {g : gH} (hg : HR g) {v0 v1 v2 v3 : Int} (h0 : RfR v0) (h1 : InR v1) (h2 : InR v2) (h3 : RfR v3) : Go Φ pr_P fN 1 (fW_setBudget g v0 v1 v2 v3) d (pr_P 321) 0 (ev_loc (pr_P 321).1 [(sR v0), (sI v1), (sI v2), (sR v3)]) [] g 0 0 := by
  show Go Φ pr_P fN 1 (fW_setBudget g v0 v1 v2 v3) d pr_m321 0 [some (sR v0), some (sI v1), some (sI v2), some (sR v3), none] [] g 0 0
  unfold fW_setBudget
  refine go_aload kk321_0.1.1.1.1.1 rfl ?_
  refine go_int kk321_0.1.1.1.1.2 0 rfl ?_
  refine go_aload kk321_0.1.1.1.2 rfl ?_
  refine go_iload kk321_0.1.1.2.1 rfl ?_
  refine go_iload kk321_0.1.1.2.2 rfl ?_
  refine go_ck (fun q1 => ?_)
  refine go_callT1 kk321_0.1.2.1.1.1 rfl rfl rfl ⟨by decide, _, rfl, q1⟩ ⟨by decide, by decide⟩ (by omega) (tfC_setBudget (by omega) hg q1  h1 h2) (fun y2 g4 r3 e5 => ?_) (fun E7 g4 e6 => ?_)
  · refine go_i2l kk321_0.1.2.1.1.2 r3 ?_
    refine go_ck (fun q8 => ?_)
    refine go_last kk321_0.1.2.1.2 e5 q8 (inL_R r3) (fun g9 e10 => ?_)
    refine go_goto kk321_0.1.2.2.1 ?_
    refine go_int kk321_0.2.2.2.1 0 rfl ?_
    exact go_iret kk321_0.2.2.2.2 e10 (inR_b (Or.inl rfl)) ⟨by decide, by decide⟩ rfl
  · refine ge_ite (fun hE9 => ?_) (fun _ => ?_)
    · subst hE9
      refine ge_catch rfl kk321_0.1.2.2.2 rfl (loc2 := [some (sR v0), some (sI v1), some (sI v2), some (sR v3), none]) rfl ?_
      refine go_int kk321_0.2.1.1.1.1 1 rfl ?_
      exact go_iret kk321_0.2.1.1.1.2 e6 (inR_b (Or.inr rfl)) ⟨by decide, by decide⟩ rfl
    refine ge_ite (fun hE9 => ?_) (fun _ => ?_)
    · subst hE9
      refine ge_catch rfl kk321_0.2.1.1.2 rfl (loc2 := [some (sR v0), some (sI v1), some (sI v2), some (sR v3), none]) rfl ?_
      refine go_int kk321_0.2.1.2.1 2 rfl ?_
      exact go_iret kk321_0.2.1.2.2 e6 (inR_of (by decide)) ⟨by decide, by decide⟩ rfl
    refine ge_ite (fun hE9 => ?_) (fun _ => ?_)
    · subst hE9
      refine ge_catch rfl kk321_0.2.2.1.1.1 rfl (loc2 := [some (sR v0), some (sI v1), some (sI v2), some (sR v3), none]) rfl ?_
      refine go_int kk321_0.2.2.1.1.2 3 rfl ?_
      exact go_iret kk321_0.2.2.1.2 e6 (inR_of (by decide)) ⟨by decide, by decide⟩ rfl
    exact ge_none
theorem tfC_setHeir {Φ : ev_P} {d : Nat} (hd : 3 ≤ d) {g : gH} (hg : HR g) {v0 v1 v2 : Int} (hK0 : kd v0 = 6) (h1 : InR v1) (h2 : InR v2) : Go Φ pr_P fT 1 (fC_setHeir g v0 v1 v2) d (pr_P 26) 0 (ev_loc (pr_P 26).1 [(sR v0), (sI v1), (sI v2)]) [] g 0 0 := by
  show Go Φ pr_P fT 1 (fC_setHeir g v0 v1 v2) d pr_m26 0 [some (sR v0), some (sI v1), some (sI v2), none, none] [] g 0 0
  unfold fC_setHeir
  refine go_aload kk26_0.1.1.1.1.1 rfl ?_
  refine go_iload kk26_0.1.1.1.1.2 rfl ?_
  refine go_callQ2 kk26_0.1.1.1.2.1 rfl rfl rfl ⟨by decide, _, rfl, hK0⟩ ⟨by decide, by decide⟩ (by omega) (tfC_named (by omega) hg hK0  h1) (fun y1 r2 => ?_) (fun e5 E6 => ge_prop rfl ⟨by decide, by decide⟩ e5 rfl)
  refine go_astore kk26_0.1.1.1.2.2 rfl (loc2 := [some (sR v0), some (sI v1), some (sI v2), some (sR y1), none]) rfl ?_
  refine go_iload kk26_0.1.1.2.1.1 rfl ?_
  refine go_int kk26_0.1.1.2.1.2 (-1) rfl ?_
  refine go_cmeq kk26_0.1.1.2.2.1 h2 (inR_of (by decide)) (fun c7 => ?_) (fun c8 => ?_)
  · refine go_aload kk26_0.1.2.2.1.2 rfl ?_
    refine go_ck (fun q9 => ?_)
    refine go_callP3 kk26_0.1.2.2.2 rfl rfl rfl ⟨by decide, _, rfl, q9⟩ ⟨by decide, by decide⟩ (by omega) (tfP_isMortal (by omega) hg q9 ) (fun y10 r11 => ?_)
    refine go_callQ0 kk26_0.2.1.1.1.1 rfl rfl rfl trivial ⟨by decide, by decide⟩ (by omega) (tfC_checkState (by omega) hg  r11) (fun y14 => ?_) (fun e18 E19 => ge_prop rfl ⟨by decide, by decide⟩ e18 rfl)
    refine go_aload kk26_0.2.1.1.1.2 rfl ?_
    refine go_getR (bI := 3) kk26_0.2.1.1.2.1 hg hK0 (by decide) rfl rfl (fun r20 => ?_)
    refine go_aload kk26_0.2.1.1.2.2 rfl ?_
    refine go_getR (bI := 0) kk26_0.2.1.2.1.1 hg hK0 (by decide) rfl rfl (fun r21 => ?_)
    refine go_ck (fun q22 => ?_)
    refine go_callN0 kk26_0.2.1.2.1.2 rfl rfl rfl ⟨by decide, _, rfl, q22⟩ ⟨by decide, by decide⟩ (by omega) (tfH_push (by omega) hg q22  r21) (fun y23 g25 e26 => ?_)
    refine go_aload kk26_0.2.1.2.2 rfl ?_
    refine go_getI (bI := 7) kk26_0.2.2.1.1.1 e26 q9 (by decide) rfl rfl (fun r27 => ?_)
    refine go_istore kk26_0.2.2.1.1.2 rfl (loc2 := [some (sR v0), some (sI v1), some (sI v2), some (sR y1), some (sI (g25 y1 7))]) rfl ?_
    refine go_aload kk26_0.2.2.1.2.1 rfl ?_
    refine go_iload kk26_0.2.2.1.2.2 rfl ?_
    refine go_putI (bI := 7) kk26_0.2.2.2.1.1 e26 q9 (by decide) rfl rfl h2 (fun g28 e29 => ?_)
    refine go_iload kk26_0.2.2.2.1.2 rfl ?_
    exact go_iret kk26_0.2.2.2.2 e29 r27 ⟨by decide, by decide⟩ rfl
  · refine go_aload kk26_0.1.1.2.2.2 rfl ?_
    refine go_iload kk26_0.1.2.1.1.1 rfl ?_
    refine go_callQ2 kk26_0.1.2.1.1.2 rfl rfl rfl ⟨by decide, _, rfl, hK0⟩ ⟨by decide, by decide⟩ (by omega) (tfC_named (by omega) hg hK0  h2) (fun y30 r31 => ?_) (fun e34 E35 => ge_prop rfl ⟨by decide, by decide⟩ e34 rfl)
    refine go_aload kk26_0.1.2.1.2.1 rfl ?_
    refine go_acmp kk26_0.1.2.1.2.2 r31 r2 (fun c36 => ?_) (fun c37 => ?_)
    · exact go_throw kk26_0.1.2.2.1.1 hg ⟨by decide, by decide⟩ rfl rfl
    · refine go_aload kk26_0.1.2.2.1.2 rfl ?_
      refine go_ck (fun q38 => ?_)
      refine go_callP3 kk26_0.1.2.2.2 rfl rfl rfl ⟨by decide, _, rfl, q38⟩ ⟨by decide, by decide⟩ (by omega) (tfP_isMortal (by omega) hg q38 ) (fun y39 r40 => ?_)
      refine go_callQ0 kk26_0.2.1.1.1.1 rfl rfl rfl trivial ⟨by decide, by decide⟩ (by omega) (tfC_checkState (by omega) hg  r40) (fun y43 => ?_) (fun e47 E48 => ge_prop rfl ⟨by decide, by decide⟩ e47 rfl)
      refine go_aload kk26_0.2.1.1.1.2 rfl ?_
      refine go_getR (bI := 3) kk26_0.2.1.1.2.1 hg hK0 (by decide) rfl rfl (fun r49 => ?_)
      refine go_aload kk26_0.2.1.1.2.2 rfl ?_
      refine go_getR (bI := 0) kk26_0.2.1.2.1.1 hg hK0 (by decide) rfl rfl (fun r50 => ?_)
      refine go_ck (fun q51 => ?_)
      refine go_callN0 kk26_0.2.1.2.1.2 rfl rfl rfl ⟨by decide, _, rfl, q51⟩ ⟨by decide, by decide⟩ (by omega) (tfH_push (by omega) hg q51  r50) (fun y52 g54 e55 => ?_)
      refine go_aload kk26_0.2.1.2.2 rfl ?_
      refine go_getI (bI := 7) kk26_0.2.2.1.1.1 e55 q38 (by decide) rfl rfl (fun r56 => ?_)
      refine go_istore kk26_0.2.2.1.1.2 rfl (loc2 := [some (sR v0), some (sI v1), some (sI v2), some (sR y1), some (sI (g54 y1 7))]) rfl ?_
      refine go_aload kk26_0.2.2.1.2.1 rfl ?_
      refine go_iload kk26_0.2.2.1.2.2 rfl ?_
      refine go_putI (bI := 7) kk26_0.2.2.2.1.1 e55 q38 (by decide) rfl rfl h2 (fun g57 e58 => ?_)
      refine go_iload kk26_0.2.2.2.1.2 rfl ?_
      exact go_iret kk26_0.2.2.2.2 e58 r56 ⟨by decide, by decide⟩ rfl
theorem tfW_setHeir {Φ : ev_P} {d : Nat} (hd : 4 ≤ d) {g : gH} (hg : HR g) {v0 v1 v2 v3 : Int} (h0 : RfR v0) (h1 : InR v1) (h2 : InR v2) (h3 : RfR v3) : Go Φ pr_P fN 1 (fW_setHeir g v0 v1 v2 v3) d (pr_P 322) 0 (ev_loc (pr_P 322).1 [(sR v0), (sI v1), (sI v2), (sR v3)]) [] g 0 0 := by
  show Go Φ pr_P fN 1 (fW_setHeir g v0 v1 v2 v3) d pr_m322 0 [some (sR v0), some (sI v1), some (sI v2), some (sR v3), none] [] g 0 0
  unfold fW_setHeir
  refine go_aload kk322_0.1.1.1.1.1 rfl ?_
  refine go_int kk322_0.1.1.1.1.2 0 rfl ?_
  refine go_aload kk322_0.1.1.1.2 rfl ?_
  refine go_iload kk322_0.1.1.2.1 rfl ?_
  refine go_iload kk322_0.1.1.2.2 rfl ?_
  refine go_ck (fun q1 => ?_)
  refine go_callT1 kk322_0.1.2.1.1.1 rfl rfl rfl ⟨by decide, _, rfl, q1⟩ ⟨by decide, by decide⟩ (by omega) (tfC_setHeir (by omega) hg q1  h1 h2) (fun y2 g4 r3 e5 => ?_) (fun E7 g4 e6 => ?_)
  · refine go_i2l kk322_0.1.2.1.1.2 r3 ?_
    refine go_ck (fun q8 => ?_)
    refine go_last kk322_0.1.2.1.2 e5 q8 (inL_R r3) (fun g9 e10 => ?_)
    refine go_goto kk322_0.1.2.2.1 ?_
    refine go_int kk322_0.2.2.2.1 0 rfl ?_
    exact go_iret kk322_0.2.2.2.2 e10 (inR_b (Or.inl rfl)) ⟨by decide, by decide⟩ rfl
  · refine ge_ite (fun hE9 => ?_) (fun _ => ?_)
    · subst hE9
      refine ge_catch rfl kk322_0.1.2.2.2 rfl (loc2 := [some (sR v0), some (sI v1), some (sI v2), some (sR v3), none]) rfl ?_
      refine go_int kk322_0.2.1.1.1.1 1 rfl ?_
      exact go_iret kk322_0.2.1.1.1.2 e6 (inR_b (Or.inr rfl)) ⟨by decide, by decide⟩ rfl
    refine ge_ite (fun hE9 => ?_) (fun _ => ?_)
    · subst hE9
      refine ge_catch rfl kk322_0.2.1.1.2 rfl (loc2 := [some (sR v0), some (sI v1), some (sI v2), some (sR v3), none]) rfl ?_
      refine go_int kk322_0.2.1.2.1 2 rfl ?_
      exact go_iret kk322_0.2.1.2.2 e6 (inR_of (by decide)) ⟨by decide, by decide⟩ rfl
    refine ge_ite (fun hE9 => ?_) (fun _ => ?_)
    · subst hE9
      refine ge_catch rfl kk322_0.2.2.1.1.1 rfl (loc2 := [some (sR v0), some (sI v1), some (sI v2), some (sR v3), none]) rfl ?_
      refine go_int kk322_0.2.2.1.1.2 3 rfl ?_
      exact go_iret kk322_0.2.2.1.2 e6 (inR_of (by decide)) ⟨by decide, by decide⟩ rfl
    exact ge_none
theorem tfC_give {Φ : ev_P} {d : Nat} (hd : 3 ≤ d) {g : gH} (hg : HR g) {v0 v1 v2 : Int} (hK0 : kd v0 = 6) (h1 : InR v1) (h2 : InR v2) : Go Φ pr_P fT 1 (fC_give g v0 v1 v2) d (pr_P 27) 0 (ev_loc (pr_P 27).1 [(sR v0), (sI v1), (sI v2)]) [] g 0 0 := by
  show Go Φ pr_P fT 1 (fC_give g v0 v1 v2) d pr_m27 0 [some (sR v0), some (sI v1), some (sI v2), none, none] [] g 0 0
  unfold fC_give
  refine go_iload kk27_0.1.1.1.1.1 rfl ?_
  refine go_int kk27_0.1.1.1.1.2 7 rfl ?_
  refine go_callQ0 kk27_0.1.1.1.2.1 rfl rfl rfl trivial ⟨by decide, by decide⟩ (by omega) (tfC_checkRange (by omega) hg  h1 (inR_of (by decide))) (fun y1 => ?_) (fun e5 E6 => ge_prop rfl ⟨by decide, by decide⟩ e5 rfl)
  refine go_aload kk27_0.1.1.1.2.2 rfl ?_
  refine go_iload kk27_0.1.1.2.1.1 rfl ?_
  refine go_callQ2 kk27_0.1.1.2.1.2 rfl rfl rfl ⟨by decide, _, rfl, hK0⟩ ⟨by decide, by decide⟩ (by omega) (tfC_named (by omega) hg hK0  h2) (fun y7 r8 => ?_) (fun e11 E12 => ge_prop rfl ⟨by decide, by decide⟩ e11 rfl)
  refine go_astore kk27_0.1.1.2.2 rfl (loc2 := [some (sR v0), some (sI v1), some (sI v2), some (sR y7), none]) rfl ?_
  refine go_aload kk27_0.1.2.1.1.1 rfl ?_
  refine go_ck (fun q13 => ?_)
  refine go_callP3 kk27_0.1.2.1.1.2 rfl rfl rfl ⟨by decide, _, rfl, q13⟩ ⟨by decide, by decide⟩ (by omega) (tfP_isRunning (by omega) hg q13 ) (fun y14 r15 => ?_)
  refine go_callQ0 kk27_0.1.2.1.2.1 rfl rfl rfl trivial ⟨by decide, by decide⟩ (by omega) (tfC_checkState (by omega) hg  r15) (fun y18 => ?_) (fun e22 E23 => ge_prop rfl ⟨by decide, by decide⟩ e22 rfl)
  refine go_aload kk27_0.1.2.1.2.2 rfl ?_
  refine go_getR (bI := 3) kk27_0.1.2.2.1.1 hg hK0 (by decide) rfl rfl (fun r24 => ?_)
  refine go_aload kk27_0.1.2.2.1.2 rfl ?_
  refine go_getR (bI := 0) kk27_0.1.2.2.2 hg hK0 (by decide) rfl rfl (fun r25 => ?_)
  refine go_ck (fun q26 => ?_)
  refine go_callN0 kk27_0.2.1.1.1.1 rfl rfl rfl ⟨by decide, _, rfl, q26⟩ ⟨by decide, by decide⟩ (by omega) (tfH_push (by omega) hg q26  r25) (fun y27 g29 e30 => ?_)
  refine go_aload kk27_0.2.1.1.1.2 rfl ?_
  refine go_getR (bI := 0) kk27_0.2.1.1.2.1 e30 hK0 (by decide) rfl rfl (fun r31 => ?_)
  refine go_iload kk27_0.2.1.1.2.2 rfl ?_
  refine go_ck (fun q32 => ?_)
  refine go_callP2 kk27_0.2.1.2.1.1 rfl rfl rfl ⟨by decide, _, rfl, q32⟩ ⟨by decide, by decide⟩ (by omega) (tfT_holderOf (by omega) e30 q32  h1) (fun y33 r34 => ?_)
  refine go_ck (fun q37 => ?_)
  refine go_getI (bI := 0) kk27_0.2.1.2.1.2 e30 q37 (by decide) rfl rfl (fun r38 => ?_)
  refine go_istore kk27_0.2.1.2.2 rfl (loc2 := [some (sR v0), some (sI v1), some (sI v2), some (sR y7), some (sI (g29 y33 0))]) rfl ?_
  refine go_aload kk27_0.2.2.1.1.1 rfl ?_
  refine go_getR (bI := 0) kk27_0.2.2.1.1.2 e30 hK0 (by decide) rfl rfl (fun r39 => ?_)
  refine go_iload kk27_0.2.2.1.2.1 rfl ?_
  refine go_aload kk27_0.2.2.1.2.2 rfl ?_
  refine go_callN0 kk27_0.2.2.2.1.1 rfl rfl rfl ⟨by decide, _, rfl, q32⟩ ⟨by decide, by decide⟩ (by omega) (tfT_giveDuty (by omega) e30 q32  h1 r8) (fun y40 g42 e43 => ?_)
  refine go_iload kk27_0.2.2.2.1.2 rfl ?_
  exact go_iret kk27_0.2.2.2.2 e43 r38 ⟨by decide, by decide⟩ rfl
theorem tfW_give {Φ : ev_P} {d : Nat} (hd : 4 ≤ d) {g : gH} (hg : HR g) {v0 v1 v2 v3 : Int} (h0 : RfR v0) (h1 : InR v1) (h2 : InR v2) (h3 : RfR v3) : Go Φ pr_P fN 1 (fW_give g v0 v1 v2 v3) d (pr_P 323) 0 (ev_loc (pr_P 323).1 [(sR v0), (sI v1), (sI v2), (sR v3)]) [] g 0 0 := by
  show Go Φ pr_P fN 1 (fW_give g v0 v1 v2 v3) d pr_m323 0 [some (sR v0), some (sI v1), some (sI v2), some (sR v3), none] [] g 0 0
  unfold fW_give
  refine go_aload kk323_0.1.1.1.1.1 rfl ?_
  refine go_int kk323_0.1.1.1.1.2 0 rfl ?_
  refine go_aload kk323_0.1.1.1.2 rfl ?_
  refine go_iload kk323_0.1.1.2.1 rfl ?_
  refine go_iload kk323_0.1.1.2.2 rfl ?_
  refine go_ck (fun q1 => ?_)
  refine go_callT1 kk323_0.1.2.1.1.1 rfl rfl rfl ⟨by decide, _, rfl, q1⟩ ⟨by decide, by decide⟩ (by omega) (tfC_give (by omega) hg q1  h1 h2) (fun y2 g4 r3 e5 => ?_) (fun E7 g4 e6 => ?_)
  · refine go_i2l kk323_0.1.2.1.1.2 r3 ?_
    refine go_ck (fun q8 => ?_)
    refine go_last kk323_0.1.2.1.2 e5 q8 (inL_R r3) (fun g9 e10 => ?_)
    refine go_goto kk323_0.1.2.2.1 ?_
    refine go_int kk323_0.2.2.2.1 0 rfl ?_
    exact go_iret kk323_0.2.2.2.2 e10 (inR_b (Or.inl rfl)) ⟨by decide, by decide⟩ rfl
  · refine ge_ite (fun hE9 => ?_) (fun _ => ?_)
    · subst hE9
      refine ge_catch rfl kk323_0.1.2.2.2 rfl (loc2 := [some (sR v0), some (sI v1), some (sI v2), some (sR v3), none]) rfl ?_
      refine go_int kk323_0.2.1.1.1.1 1 rfl ?_
      exact go_iret kk323_0.2.1.1.1.2 e6 (inR_b (Or.inr rfl)) ⟨by decide, by decide⟩ rfl
    refine ge_ite (fun hE9 => ?_) (fun _ => ?_)
    · subst hE9
      refine ge_catch rfl kk323_0.2.1.1.2 rfl (loc2 := [some (sR v0), some (sI v1), some (sI v2), some (sR v3), none]) rfl ?_
      refine go_int kk323_0.2.1.2.1 2 rfl ?_
      exact go_iret kk323_0.2.1.2.2 e6 (inR_of (by decide)) ⟨by decide, by decide⟩ rfl
    refine ge_ite (fun hE9 => ?_) (fun _ => ?_)
    · subst hE9
      refine ge_catch rfl kk323_0.2.2.1.1.1 rfl (loc2 := [some (sR v0), some (sI v1), some (sI v2), some (sR v3), none]) rfl ?_
      refine go_int kk323_0.2.2.1.1.2 3 rfl ?_
      exact go_iret kk323_0.2.2.1.2 e6 (inR_of (by decide)) ⟨by decide, by decide⟩ rfl
    exact ge_none
theorem tfC_adopter {Φ : ev_P} {d : Nat} (hd : 4 ≤ d) {g : gH} (hg : HR g) {v0 v1 : Int} (hK0 : kd v0 = 6) (h1 : InR v1) : Go Φ pr_P (fQ g) 1 (fC_adopter g v0 v1) d (pr_P 28) 0 (ev_loc (pr_P 28).1 [(sR v0), (sI v1)]) [] g 0 0 := by
  show Go Φ pr_P (fQ g) 1 (fC_adopter g v0 v1) d pr_m28 0 [some (sR v0), some (sI v1), none] [] g 0 0
  unfold fC_adopter
  refine go_aload kk28_0.1.1.1.1 rfl ?_
  refine go_iload kk28_0.1.1.1.2 rfl ?_
  refine go_callQ2 kk28_0.1.1.2.1 rfl rfl rfl ⟨by decide, _, rfl, hK0⟩ ⟨by decide, by decide⟩ (by omega) (tfC_named (by omega) hg hK0  h1) (fun y1 r2 => ?_) (fun e5 E6 => ge_prop rfl ⟨by decide, by decide⟩ e5 rfl)
  refine go_astore kk28_0.1.1.2.2 rfl (loc2 := [some (sR v0), some (sI v1), some (sR y1)]) rfl ?_
  refine go_aload kk28_0.1.2.1.1 rfl ?_
  refine go_ck (fun q7 => ?_)
  refine go_callP3 kk28_0.1.2.1.2 rfl rfl rfl ⟨by decide, _, rfl, q7⟩ ⟨by decide, by decide⟩ (by omega) (tfP_isMortal (by omega) hg q7 ) (fun y8 r9 => ?_)
  refine go_callQ0 kk28_0.1.2.2 rfl rfl rfl trivial ⟨by decide, by decide⟩ (by omega) (tfC_checkState (by omega) hg  r9) (fun y12 => ?_) (fun e16 E17 => ge_prop rfl ⟨by decide, by decide⟩ e16 rfl)
  refine go_aload kk28_0.2.1.1.1 rfl ?_
  refine go_getR (bI := 0) kk28_0.2.1.1.2 hg hK0 (by decide) rfl rfl (fun r18 => ?_)
  refine go_aload kk28_0.2.1.2 rfl ?_
  refine go_ck (fun q19 => ?_)
  refine go_callP2 kk28_0.2.2.1.1 rfl rfl rfl ⟨by decide, _, rfl, q19⟩ ⟨by decide, by decide⟩ (by omega) (tfT_adopterOf (by omega) hg q19  r2) (fun y20 r21 => ?_)
  refine go_ck (fun q24 => ?_)
  refine go_getI (bI := 0) kk28_0.2.2.1.2 hg q24 (by decide) rfl rfl (fun r25 => ?_)
  exact go_iret kk28_0.2.2.2 hg r25 ⟨by decide, by decide⟩ rfl
theorem tfW_adopter {Φ : ev_P} {d : Nat} (hd : 5 ≤ d) {g : gH} (hg : HR g) {v0 v1 v2 : Int} (h0 : RfR v0) (h1 : InR v1) (h2 : RfR v2) : Go Φ pr_P fN 1 (fW_adopter g v0 v1 v2) d (pr_P 324) 0 (ev_loc (pr_P 324).1 [(sR v0), (sI v1), (sR v2)]) [] g 0 0 := by
  show Go Φ pr_P fN 1 (fW_adopter g v0 v1 v2) d pr_m324 0 [some (sR v0), some (sI v1), some (sR v2), none] [] g 0 0
  unfold fW_adopter
  refine go_aload kk324_0.1.1.1.1 rfl ?_
  refine go_int kk324_0.1.1.1.2 0 rfl ?_
  refine go_aload kk324_0.1.1.2.1 rfl ?_
  refine go_iload kk324_0.1.1.2.2 rfl ?_
  refine go_ck (fun q1 => ?_)
  refine go_callQ1 kk324_0.1.2.1.1 rfl rfl rfl ⟨by decide, _, rfl, q1⟩ ⟨by decide, by decide⟩ (by omega) (tfC_adopter (by omega) hg q1  h1) (fun y2 r3 => ?_) (fun e6 E7 => ?_)
  · refine go_i2l kk324_0.1.2.1.2 r3 ?_
    refine go_ck (fun q8 => ?_)
    refine go_last kk324_0.1.2.2.1 hg q8 (inL_R r3) (fun g9 e10 => ?_)
    refine go_goto kk324_0.1.2.2.2 ?_
    refine go_int kk324_0.2.2.2.1 0 rfl ?_
    exact go_iret kk324_0.2.2.2.2 e10 (inR_b (Or.inl rfl)) ⟨by decide, by decide⟩ rfl
  · refine ge_ite (fun hE9 => ?_) (fun _ => ?_)
    · subst hE9
      refine ge_catch rfl kk324_0.2.1.1.1 rfl (loc2 := [some (sR v0), some (sI v1), some (sR v2), none]) rfl ?_
      refine go_int kk324_0.2.1.1.2 1 rfl ?_
      exact go_iret kk324_0.2.1.2.1 e6 (inR_b (Or.inr rfl)) ⟨by decide, by decide⟩ rfl
    refine ge_ite (fun hE9 => ?_) (fun _ => ?_)
    · subst hE9
      refine ge_catch rfl kk324_0.2.1.2.2 rfl (loc2 := [some (sR v0), some (sI v1), some (sR v2), none]) rfl ?_
      refine go_int kk324_0.2.2.1.1 2 rfl ?_
      exact go_iret kk324_0.2.2.1.2 e6 (inR_of (by decide)) ⟨by decide, by decide⟩ rfl
    exact ge_none
theorem tfC_heirNow {Φ : ev_P} {d : Nat} (hd : 2 ≤ d) {g : gH} (hg : HR g) {v0 v1 : Int} (hK0 : kd v0 = 6) (h1 : InR v1) : Go Φ pr_P (fQ g) 1 (fC_heirNow g v0 v1) d (pr_P 29) 0 (ev_loc (pr_P 29).1 [(sR v0), (sI v1)]) [] g 0 0 := by
  show Go Φ pr_P (fQ g) 1 (fC_heirNow g v0 v1) d pr_m29 0 [some (sR v0), some (sI v1), none] [] g 0 0
  unfold fC_heirNow
  refine go_aload kk29_0.1.1.1.1 rfl ?_
  refine go_iload kk29_0.1.1.1.2 rfl ?_
  refine go_callQ2 kk29_0.1.1.2.1 rfl rfl rfl ⟨by decide, _, rfl, hK0⟩ ⟨by decide, by decide⟩ (by omega) (tfC_named (by omega) hg hK0  h1) (fun y1 r2 => ?_) (fun e5 E6 => ge_prop rfl ⟨by decide, by decide⟩ e5 rfl)
  refine go_astore kk29_0.1.1.2.2 rfl (loc2 := [some (sR v0), some (sI v1), some (sR y1)]) rfl ?_
  refine go_aload kk29_0.1.2.1.1 rfl ?_
  refine go_ck (fun q7 => ?_)
  refine go_callP3 kk29_0.1.2.1.2 rfl rfl rfl ⟨by decide, _, rfl, q7⟩ ⟨by decide, by decide⟩ (by omega) (tfP_isMortal (by omega) hg q7 ) (fun y8 r9 => ?_)
  refine go_callQ0 kk29_0.1.2.2 rfl rfl rfl trivial ⟨by decide, by decide⟩ (by omega) (tfC_checkState (by omega) hg  r9) (fun y12 => ?_) (fun e16 E17 => ge_prop rfl ⟨by decide, by decide⟩ e16 rfl)
  refine go_aload kk29_0.2.1.1.1 rfl ?_
  refine go_getR (bI := 0) kk29_0.2.1.1.2 hg hK0 (by decide) rfl rfl (fun r18 => ?_)
  refine go_aload kk29_0.2.1.2 rfl ?_
  refine go_ck (fun q19 => ?_)
  refine go_callP2 kk29_0.2.2.1.1 rfl rfl rfl ⟨by decide, _, rfl, q19⟩ ⟨by decide, by decide⟩ (by omega) (tfT_heirOf (by omega) hg q19  r2) (fun y20 r21 => ?_)
  refine go_ck (fun q24 => ?_)
  refine go_getI (bI := 0) kk29_0.2.2.1.2 hg q24 (by decide) rfl rfl (fun r25 => ?_)
  exact go_iret kk29_0.2.2.2 hg r25 ⟨by decide, by decide⟩ rfl
theorem tfW_heirNow {Φ : ev_P} {d : Nat} (hd : 3 ≤ d) {g : gH} (hg : HR g) {v0 v1 v2 : Int} (h0 : RfR v0) (h1 : InR v1) (h2 : RfR v2) : Go Φ pr_P fN 1 (fW_heirNow g v0 v1 v2) d (pr_P 325) 0 (ev_loc (pr_P 325).1 [(sR v0), (sI v1), (sR v2)]) [] g 0 0 := by
  show Go Φ pr_P fN 1 (fW_heirNow g v0 v1 v2) d pr_m325 0 [some (sR v0), some (sI v1), some (sR v2), none] [] g 0 0
  unfold fW_heirNow
  refine go_aload kk325_0.1.1.1.1 rfl ?_
  refine go_int kk325_0.1.1.1.2 0 rfl ?_
  refine go_aload kk325_0.1.1.2.1 rfl ?_
  refine go_iload kk325_0.1.1.2.2 rfl ?_
  refine go_ck (fun q1 => ?_)
  refine go_callQ1 kk325_0.1.2.1.1 rfl rfl rfl ⟨by decide, _, rfl, q1⟩ ⟨by decide, by decide⟩ (by omega) (tfC_heirNow (by omega) hg q1  h1) (fun y2 r3 => ?_) (fun e6 E7 => ?_)
  · refine go_i2l kk325_0.1.2.1.2 r3 ?_
    refine go_ck (fun q8 => ?_)
    refine go_last kk325_0.1.2.2.1 hg q8 (inL_R r3) (fun g9 e10 => ?_)
    refine go_goto kk325_0.1.2.2.2 ?_
    refine go_int kk325_0.2.2.2.1 0 rfl ?_
    exact go_iret kk325_0.2.2.2.2 e10 (inR_b (Or.inl rfl)) ⟨by decide, by decide⟩ rfl
  · refine ge_ite (fun hE9 => ?_) (fun _ => ?_)
    · subst hE9
      refine ge_catch rfl kk325_0.2.1.1.1 rfl (loc2 := [some (sR v0), some (sI v1), some (sR v2), none]) rfl ?_
      refine go_int kk325_0.2.1.1.2 1 rfl ?_
      exact go_iret kk325_0.2.1.2.1 e6 (inR_b (Or.inr rfl)) ⟨by decide, by decide⟩ rfl
    refine ge_ite (fun hE9 => ?_) (fun _ => ?_)
    · subst hE9
      refine ge_catch rfl kk325_0.2.1.2.2 rfl (loc2 := [some (sR v0), some (sI v1), some (sR v2), none]) rfl ?_
      refine go_int kk325_0.2.2.1.1 2 rfl ?_
      exact go_iret kk325_0.2.2.1.2 e6 (inR_of (by decide)) ⟨by decide, by decide⟩ rfl
    exact ge_none
theorem tfC_exitOfCopy {Φ : ev_P} {d : Nat} (hd : 5 ≤ d) {g : gH} (hg : HR g) {v0 v1 v2 : Int} (hK0 : kd v0 = 6) (h1 : InR v1) (h2 : InR v2) : Go Φ pr_P fN 1 (fC_exitOfCopy g v0 v1 v2) d (pr_P 71) 0 (ev_loc (pr_P 71).1 [(sR v0), (sI v1), (sI v2)]) [] g 0 0 := by
  show Go Φ pr_P fN 1 (fC_exitOfCopy g v0 v1 v2) d pr_m71 0 [some (sR v0), some (sI v1), some (sI v2), none] [] g 0 0
  unfold fC_exitOfCopy
  refine go_aload kk71_0.1.1.1.1.1 rfl ?_
  refine go_getR (bI := 1) kk71_0.1.1.1.1.2 hg hK0 (by decide) rfl rfl (fun r1 => ?_)
  refine go_aload kk71_0.1.1.1.2 rfl ?_
  refine go_getR (bI := 0) kk71_0.1.1.2.1 hg hK0 (by decide) rfl rfl (fun r2 => ?_)
  refine go_ck (fun q3 => ?_)
  refine go_callN0 kk71_0.1.1.2.2 rfl rfl rfl ⟨by decide, _, rfl, q3⟩ ⟨Nat.zero_le _, Nat.zero_le _⟩ (by omega) (tfT_take (by omega) hg q3  r2) (fun y4 g6 e7 => ?_)
  refine go_aload kk71_0.1.2.1.1.1 rfl ?_
  refine go_getR (bI := 1) kk71_0.1.2.1.1.2 e7 hK0 (by decide) rfl rfl (fun r8 => ?_)
  refine go_iload kk71_0.1.2.1.2 rfl ?_
  refine go_ck (fun q9 => ?_)
  refine go_callP2 kk71_0.1.2.2.1 rfl rfl rfl ⟨by decide, _, rfl, q9⟩ ⟨Nat.zero_le _, Nat.zero_le _⟩ (by omega) (tfT_at (by omega) e7 q9  h1) (fun y10 r11 => ?_)
  refine go_astore kk71_0.1.2.2.2 rfl (loc2 := [some (sR v0), some (sI v1), some (sI v2), some (sR y10)]) rfl ?_
  refine go_aload kk71_0.2.1.1.1.1 rfl ?_
  refine go_isnull kk71_0.2.1.1.1.2  (fun c14 => ?_) (fun c15 => ?_)
  · refine go_int kk71_0.2.1.1.2 0 rfl ?_
    refine go_goto kk71_0.2.1.2.1 ?_
    exact go_iret kk71_0.2.2.2.2 e7 (inR_b (Or.inl rfl)) ⟨Nat.zero_le _, Nat.zero_le _⟩ rfl
  · refine go_aload kk71_0.2.1.2.2 rfl ?_
    refine go_getR (bI := 1) kk71_0.2.2.1.1.1 e7 hK0 (by decide) rfl rfl (fun r16 => ?_)
    refine go_aload kk71_0.2.2.1.1.2 rfl ?_
    refine go_iload kk71_0.2.2.1.2 rfl ?_
    refine go_callN1 kk71_0.2.2.2.1 rfl rfl rfl ⟨by decide, _, rfl, q9⟩ ⟨Nat.zero_le _, Nat.zero_le _⟩ (by omega) (tfT_letExit (by omega) e7 q9  r11 h2) (fun y17 g19 r18 e20 => ?_)
    exact go_iret kk71_0.2.2.2.2 e20 r18 ⟨Nat.zero_le _, Nat.zero_le _⟩ rfl
theorem tfC_wouldFall {Φ : ev_P} {d : Nat} (hd : 6 ≤ d) {g : gH} (hg : HR g) {v0 v1 v2 : Int} (hK0 : kd v0 = 6) (h1 : InR v1) (h2 : InR v2) : Go Φ pr_P fT 1 (fC_wouldFall g v0 v1 v2) d (pr_P 30) 0 (ev_loc (pr_P 30).1 [(sR v0), (sI v1), (sI v2)]) [] g 0 0 := by
  show Go Φ pr_P fT 1 (fC_wouldFall g v0 v1 v2) d pr_m30 0 [some (sR v0), some (sI v1), some (sI v2)] [] g 0 0
  unfold fC_wouldFall
  refine go_aload kk30_0.1.1.1.1 rfl ?_
  refine go_iload kk30_0.1.1.1.2 rfl ?_
  refine go_iload kk30_0.1.1.2 rfl ?_
  refine go_callQ2 kk30_0.1.2.1 rfl rfl rfl ⟨by decide, _, rfl, hK0⟩ ⟨by decide, by decide⟩ (by omega) (tfC_namedForExit (by omega) hg hK0  h1 h2) (fun y1 r2 => ?_) (fun e5 E6 => ge_prop rfl ⟨by decide, by decide⟩ e5 rfl)
  refine go_popR kk30_0.1.2.2 ?_
  refine go_aload kk30_0.2.1.1.1 rfl ?_
  refine go_iload kk30_0.2.1.1.2 rfl ?_
  refine go_iload kk30_0.2.1.2 rfl ?_
  refine go_callN1 kk30_0.2.2.1 rfl rfl rfl ⟨by decide, _, rfl, hK0⟩ ⟨by decide, by decide⟩ (by omega) (tfC_exitOfCopy (by omega) hg hK0  h1 h2) (fun y7 g9 r8 e10 => ?_)
  exact go_iret kk30_0.2.2.2 e10 r8 ⟨by decide, by decide⟩ rfl
theorem tfW_wouldFall {Φ : ev_P} {d : Nat} (hd : 7 ≤ d) {g : gH} (hg : HR g) {v0 v1 v2 v3 : Int} (h0 : RfR v0) (h1 : InR v1) (h2 : InR v2) (h3 : RfR v3) : Go Φ pr_P fN 1 (fW_wouldFall g v0 v1 v2 v3) d (pr_P 326) 0 (ev_loc (pr_P 326).1 [(sR v0), (sI v1), (sI v2), (sR v3)]) [] g 0 0 := by
  show Go Φ pr_P fN 1 (fW_wouldFall g v0 v1 v2 v3) d pr_m326 0 [some (sR v0), some (sI v1), some (sI v2), some (sR v3), none] [] g 0 0
  unfold fW_wouldFall
  refine go_aload kk326_0.1.1.1.1.1 rfl ?_
  refine go_int kk326_0.1.1.1.1.2 0 rfl ?_
  refine go_aload kk326_0.1.1.1.2 rfl ?_
  refine go_iload kk326_0.1.1.2.1 rfl ?_
  refine go_iload kk326_0.1.1.2.2 rfl ?_
  refine go_ck (fun q1 => ?_)
  refine go_callT1 kk326_0.1.2.1.1.1 rfl rfl rfl ⟨by decide, _, rfl, q1⟩ ⟨by decide, by decide⟩ (by omega) (tfC_wouldFall (by omega) hg q1  h1 h2) (fun y2 g4 r3 e5 => ?_) (fun E7 g4 e6 => ?_)
  · refine go_i2l kk326_0.1.2.1.1.2 r3 ?_
    refine go_ck (fun q8 => ?_)
    refine go_last kk326_0.1.2.1.2 e5 q8 (inL_R r3) (fun g9 e10 => ?_)
    refine go_goto kk326_0.1.2.2.1 ?_
    refine go_int kk326_0.2.2.2.1 0 rfl ?_
    exact go_iret kk326_0.2.2.2.2 e10 (inR_b (Or.inl rfl)) ⟨by decide, by decide⟩ rfl
  · refine ge_ite (fun hE9 => ?_) (fun _ => ?_)
    · subst hE9
      refine ge_catch rfl kk326_0.1.2.2.2 rfl (loc2 := [some (sR v0), some (sI v1), some (sI v2), some (sR v3), none]) rfl ?_
      refine go_int kk326_0.2.1.1.1.1 1 rfl ?_
      exact go_iret kk326_0.2.1.1.1.2 e6 (inR_b (Or.inr rfl)) ⟨by decide, by decide⟩ rfl
    refine ge_ite (fun hE9 => ?_) (fun _ => ?_)
    · subst hE9
      refine ge_catch rfl kk326_0.2.1.1.2 rfl (loc2 := [some (sR v0), some (sI v1), some (sI v2), some (sR v3), none]) rfl ?_
      refine go_int kk326_0.2.1.2.1 2 rfl ?_
      exact go_iret kk326_0.2.1.2.2 e6 (inR_of (by decide)) ⟨by decide, by decide⟩ rfl
    refine ge_ite (fun hE9 => ?_) (fun _ => ?_)
    · subst hE9
      refine ge_catch rfl kk326_0.2.2.1.1.1 rfl (loc2 := [some (sR v0), some (sI v1), some (sI v2), some (sR v3), none]) rfl ?_
      refine go_int kk326_0.2.2.1.1.2 3 rfl ?_
      exact go_iret kk326_0.2.2.1.2 e6 (inR_of (by decide)) ⟨by decide, by decide⟩ rfl
    exact ge_none
theorem tfC_wouldStand {Φ : ev_P} {d : Nat} (hd : 6 ≤ d) {g : gH} (hg : HR g) {v0 v1 v2 : Int} (hK0 : kd v0 = 6) (h1 : InR v1) (h2 : InR v2) : Go Φ pr_P fT 1 (fC_wouldStand g v0 v1 v2) d (pr_P 31) 0 (ev_loc (pr_P 31).1 [(sR v0), (sI v1), (sI v2)]) [] g 0 0 := by
  show Go Φ pr_P fT 1 (fC_wouldStand g v0 v1 v2) d pr_m31 0 [some (sR v0), some (sI v1), some (sI v2)] [] g 0 0
  unfold fC_wouldStand
  refine go_aload kk31_0.1.1.1.1 rfl ?_
  refine go_iload kk31_0.1.1.1.2 rfl ?_
  refine go_iload kk31_0.1.1.2.1 rfl ?_
  refine go_callQ2 kk31_0.1.1.2.2 rfl rfl rfl ⟨by decide, _, rfl, hK0⟩ ⟨by decide, by decide⟩ (by omega) (tfC_namedForExit (by omega) hg hK0  h1 h2) (fun y1 r2 => ?_) (fun e5 E6 => ge_prop rfl ⟨by decide, by decide⟩ e5 rfl)
  refine go_popR kk31_0.1.2.1.1 ?_
  refine go_aload kk31_0.1.2.1.2 rfl ?_
  refine go_iload kk31_0.1.2.2 rfl ?_
  refine go_iload kk31_0.2.1.1.1 rfl ?_
  refine go_callN1 kk31_0.2.1.1.2 rfl rfl rfl ⟨by decide, _, rfl, hK0⟩ ⟨by decide, by decide⟩ (by omega) (tfC_exitOfCopy (by omega) hg hK0  h1 h2) (fun y7 g9 r8 e10 => ?_)
  refine go_popI kk31_0.2.1.2.1 ?_
  refine go_aload kk31_0.2.1.2.2 rfl ?_
  refine go_getR (bI := 1) kk31_0.2.2.1.1 e10 hK0 (by decide) rfl rfl (fun r11 => ?_)
  refine go_ck (fun q12 => ?_)
  refine go_callP1 kk31_0.2.2.1.2 rfl rfl rfl ⟨by decide, _, rfl, q12⟩ ⟨by decide, by decide⟩ (by omega) (tfT_greatestDepth (by omega) e10 q12 ) (fun y13 r14 => ?_)
  exact go_iret kk31_0.2.2.2 e10 r14 ⟨by decide, by decide⟩ rfl
theorem tfW_wouldStand {Φ : ev_P} {d : Nat} (hd : 7 ≤ d) {g : gH} (hg : HR g) {v0 v1 v2 v3 : Int} (h0 : RfR v0) (h1 : InR v1) (h2 : InR v2) (h3 : RfR v3) : Go Φ pr_P fN 1 (fW_wouldStand g v0 v1 v2 v3) d (pr_P 327) 0 (ev_loc (pr_P 327).1 [(sR v0), (sI v1), (sI v2), (sR v3)]) [] g 0 0 := by
  show Go Φ pr_P fN 1 (fW_wouldStand g v0 v1 v2 v3) d pr_m327 0 [some (sR v0), some (sI v1), some (sI v2), some (sR v3), none] [] g 0 0
  unfold fW_wouldStand
  refine go_aload kk327_0.1.1.1.1.1 rfl ?_
  refine go_int kk327_0.1.1.1.1.2 0 rfl ?_
  refine go_aload kk327_0.1.1.1.2 rfl ?_
  refine go_iload kk327_0.1.1.2.1 rfl ?_
  refine go_iload kk327_0.1.1.2.2 rfl ?_
  refine go_ck (fun q1 => ?_)
  refine go_callT1 kk327_0.1.2.1.1.1 rfl rfl rfl ⟨by decide, _, rfl, q1⟩ ⟨by decide, by decide⟩ (by omega) (tfC_wouldStand (by omega) hg q1  h1 h2) (fun y2 g4 r3 e5 => ?_) (fun E7 g4 e6 => ?_)
  · refine go_i2l kk327_0.1.2.1.1.2 r3 ?_
    refine go_ck (fun q8 => ?_)
    refine go_last kk327_0.1.2.1.2 e5 q8 (inL_R r3) (fun g9 e10 => ?_)
    refine go_goto kk327_0.1.2.2.1 ?_
    refine go_int kk327_0.2.2.2.1 0 rfl ?_
    exact go_iret kk327_0.2.2.2.2 e10 (inR_b (Or.inl rfl)) ⟨by decide, by decide⟩ rfl
  · refine ge_ite (fun hE9 => ?_) (fun _ => ?_)
    · subst hE9
      refine ge_catch rfl kk327_0.1.2.2.2 rfl (loc2 := [some (sR v0), some (sI v1), some (sI v2), some (sR v3), none]) rfl ?_
      refine go_int kk327_0.2.1.1.1.1 1 rfl ?_
      exact go_iret kk327_0.2.1.1.1.2 e6 (inR_b (Or.inr rfl)) ⟨by decide, by decide⟩ rfl
    refine ge_ite (fun hE9 => ?_) (fun _ => ?_)
    · subst hE9
      refine ge_catch rfl kk327_0.2.1.1.2 rfl (loc2 := [some (sR v0), some (sI v1), some (sI v2), some (sR v3), none]) rfl ?_
      refine go_int kk327_0.2.1.2.1 2 rfl ?_
      exact go_iret kk327_0.2.1.2.2 e6 (inR_of (by decide)) ⟨by decide, by decide⟩ rfl
    refine ge_ite (fun hE9 => ?_) (fun _ => ?_)
    · subst hE9
      refine ge_catch rfl kk327_0.2.2.1.1.1 rfl (loc2 := [some (sR v0), some (sI v1), some (sI v2), some (sR v3), none]) rfl ?_
      refine go_int kk327_0.2.2.1.1.2 3 rfl ?_
      exact go_iret kk327_0.2.2.1.2 e6 (inR_of (by decide)) ⟨by decide, by decide⟩ rfl
    exact ge_none
theorem tfC_wouldHave {Φ : ev_P} {d : Nat} (hd : 6 ≤ d) {g : gH} (hg : HR g) {v0 v1 v2 v3 : Int} (hK0 : kd v0 = 6) (h1 : InR v1) (h2 : InR v2) (h3 : InR v3) : Go Φ pr_P fT 1 (fC_wouldHave g v0 v1 v2 v3) d (pr_P 32) 0 (ev_loc (pr_P 32).1 [(sR v0), (sI v1), (sI v2), (sI v3)]) [] g 0 0 := by
  show Go Φ pr_P fT 1 (fC_wouldHave g v0 v1 v2 v3) d pr_m32 0 [some (sR v0), some (sI v1), some (sI v2), some (sI v3), none] [] g 0 0
  unfold fC_wouldHave
  refine go_aload kk32_0.1.1.1.1.1 rfl ?_
  refine go_iload kk32_0.1.1.1.1.2 rfl ?_
  refine go_callQ2 kk32_0.1.1.1.2.1 rfl rfl rfl ⟨by decide, _, rfl, hK0⟩ ⟨by decide, by decide⟩ (by omega) (tfC_named (by omega) hg hK0  h1) (fun y1 r2 => ?_) (fun e5 E6 => ge_prop rfl ⟨by decide, by decide⟩ e5 rfl)
  refine go_popR kk32_0.1.1.1.2.2 ?_
  refine go_aload kk32_0.1.1.2.1.1 rfl ?_
  refine go_iload kk32_0.1.1.2.1.2 rfl ?_
  refine go_iload kk32_0.1.1.2.2 rfl ?_
  refine go_callQ2 kk32_0.1.2.1.1.1 rfl rfl rfl ⟨by decide, _, rfl, hK0⟩ ⟨by decide, by decide⟩ (by omega) (tfC_namedForExit (by omega) hg hK0  h2 h3) (fun y7 r8 => ?_) (fun e11 E12 => ge_prop rfl ⟨by decide, by decide⟩ e11 rfl)
  refine go_popR kk32_0.1.2.1.1.2 ?_
  refine go_aload kk32_0.1.2.1.2.1 rfl ?_
  refine go_iload kk32_0.1.2.1.2.2 rfl ?_
  refine go_iload kk32_0.1.2.2.1.1 rfl ?_
  refine go_callN1 kk32_0.1.2.2.1.2 rfl rfl rfl ⟨by decide, _, rfl, hK0⟩ ⟨by decide, by decide⟩ (by omega) (tfC_exitOfCopy (by omega) hg hK0  h2 h3) (fun y13 g15 r14 e16 => ?_)
  refine go_popI kk32_0.1.2.2.2 ?_
  refine go_aload kk32_0.2.1.1.1.1 rfl ?_
  refine go_getR (bI := 1) kk32_0.2.1.1.1.2 e16 hK0 (by decide) rfl rfl (fun r17 => ?_)
  refine go_iload kk32_0.2.1.1.2.1 rfl ?_
  refine go_ck (fun q18 => ?_)
  refine go_callP2 kk32_0.2.1.1.2.2 rfl rfl rfl ⟨by decide, _, rfl, q18⟩ ⟨by decide, by decide⟩ (by omega) (tfT_at (by omega) e16 q18  h1) (fun y19 r20 => ?_)
  refine go_astore kk32_0.2.1.2.1.1 rfl (loc2 := [some (sR v0), some (sI v1), some (sI v2), some (sI v3), some (sR y19)]) rfl ?_
  refine go_aload kk32_0.2.1.2.1.2 rfl ?_
  refine go_isnull kk32_0.2.1.2.2  (fun c23 => ?_) (fun c24 => ?_)
  · refine go_int kk32_0.2.2.1.1.1 (-1) rfl ?_
    refine go_goto kk32_0.2.2.1.1.2 ?_
    exact go_iret kk32_0.2.2.2.2 e16 (inR_of (by decide)) ⟨by decide, by decide⟩ rfl
  · refine go_aload kk32_0.2.2.1.2 rfl ?_
    refine go_ck (fun q25 => ?_)
    refine go_getR (bI := 2) kk32_0.2.2.2.1.1 e16 q25 (by decide) rfl rfl (fun r26 => ?_)
    refine go_callP1 kk32_0.2.2.2.1.2 rfl rfl rfl trivial ⟨by decide, by decide⟩ (by omega) (tfC_numberOf (by omega) e16  r26) (fun y27 r28 => ?_)
    exact go_iret kk32_0.2.2.2.2 e16 r28 ⟨by decide, by decide⟩ rfl
theorem tfW_wouldHave {Φ : ev_P} {d : Nat} (hd : 7 ≤ d) {g : gH} (hg : HR g) {v0 v1 v2 v3 v4 : Int} (h0 : RfR v0) (h1 : InR v1) (h2 : InR v2) (h3 : InR v3) (h4 : RfR v4) : Go Φ pr_P fN 1 (fW_wouldHave g v0 v1 v2 v3 v4) d (pr_P 328) 0 (ev_loc (pr_P 328).1 [(sR v0), (sI v1), (sI v2), (sI v3), (sR v4)]) [] g 0 0 := by
  show Go Φ pr_P fN 1 (fW_wouldHave g v0 v1 v2 v3 v4) d pr_m328 0 [some (sR v0), some (sI v1), some (sI v2), some (sI v3), some (sR v4), none] [] g 0 0
  unfold fW_wouldHave
  refine go_aload kk328_0.1.1.1.1.1 rfl ?_
  refine go_int kk328_0.1.1.1.1.2 0 rfl ?_
  refine go_aload kk328_0.1.1.1.2 rfl ?_
  refine go_iload kk328_0.1.1.2.1.1 rfl ?_
  refine go_iload kk328_0.1.1.2.1.2 rfl ?_
  refine go_iload kk328_0.1.1.2.2 rfl ?_
  refine go_ck (fun q1 => ?_)
  refine go_callT1 kk328_0.1.2.1.1.1 rfl rfl rfl ⟨by decide, _, rfl, q1⟩ ⟨by decide, by decide⟩ (by omega) (tfC_wouldHave (by omega) hg q1  h1 h2 h3) (fun y2 g4 r3 e5 => ?_) (fun E7 g4 e6 => ?_)
  · refine go_i2l kk328_0.1.2.1.1.2 r3 ?_
    refine go_ck (fun q8 => ?_)
    refine go_last kk328_0.1.2.1.2 e5 q8 (inL_R r3) (fun g9 e10 => ?_)
    refine go_goto kk328_0.1.2.2.1 ?_
    refine go_int kk328_0.2.2.2.1 0 rfl ?_
    exact go_iret kk328_0.2.2.2.2 e10 (inR_b (Or.inl rfl)) ⟨by decide, by decide⟩ rfl
  · refine ge_ite (fun hE9 => ?_) (fun _ => ?_)
    · subst hE9
      refine ge_catch rfl kk328_0.1.2.2.2 rfl (loc2 := [some (sR v0), some (sI v1), some (sI v2), some (sI v3), some (sR v4), none]) rfl ?_
      refine go_int kk328_0.2.1.1.1.1 1 rfl ?_
      exact go_iret kk328_0.2.1.1.1.2 e6 (inR_b (Or.inr rfl)) ⟨by decide, by decide⟩ rfl
    refine ge_ite (fun hE9 => ?_) (fun _ => ?_)
    · subst hE9
      refine ge_catch rfl kk328_0.2.1.1.2 rfl (loc2 := [some (sR v0), some (sI v1), some (sI v2), some (sI v3), some (sR v4), none]) rfl ?_
      refine go_int kk328_0.2.1.2.1 2 rfl ?_
      exact go_iret kk328_0.2.1.2.2 e6 (inR_of (by decide)) ⟨by decide, by decide⟩ rfl
    refine ge_ite (fun hE9 => ?_) (fun _ => ?_)
    · subst hE9
      refine ge_catch rfl kk328_0.2.2.1.1.1 rfl (loc2 := [some (sR v0), some (sI v1), some (sI v2), some (sI v3), some (sR v4), none]) rfl ?_
      refine go_int kk328_0.2.2.1.1.2 3 rfl ?_
      exact go_iret kk328_0.2.2.1.2 e6 (inR_of (by decide)) ⟨by decide, by decide⟩ rfl
    exact ge_none
theorem tfC_wouldFallBy {Φ : ev_P} {d : Nat} (hd : 6 ≤ d) {g : gH} (hg : HR g) {v0 v1 v2 : Int} (hK0 : kd v0 = 6) (h1 : InR v1) (h2 : InR v2) : Go Φ pr_P fT 1 (fC_wouldFallBy g v0 v1 v2) d (pr_P 33) 0 (ev_loc (pr_P 33).1 [(sR v0), (sI v1), (sI v2)]) [] g 0 0 := by
  show Go Φ pr_P fT 1 (fC_wouldFallBy g v0 v1 v2) d pr_m33 0 [some (sR v0), some (sI v1), some (sI v2)] [] g 0 0
  unfold fC_wouldFallBy
  refine go_iload kk33_0.1.1.1.1.1 rfl ?_
  refine go_iload kk33_0.1.1.1.1.2 rfl ?_
  refine go_callQ0 kk33_0.1.1.1.2 rfl rfl rfl trivial ⟨by decide, by decide⟩ (by omega) (tfC_checkKill (by omega) hg  h1 h2) (fun y1 => ?_) (fun e5 E6 => ge_prop rfl ⟨by decide, by decide⟩ e5 rfl)
  refine go_aload kk33_0.1.1.2.1.1 rfl ?_
  refine go_getR (bI := 1) kk33_0.1.1.2.1.2 hg hK0 (by decide) rfl rfl (fun r7 => ?_)
  refine go_aload kk33_0.1.1.2.2 rfl ?_
  refine go_getR (bI := 0) kk33_0.1.2.1.1.1 hg hK0 (by decide) rfl rfl (fun r8 => ?_)
  refine go_ck (fun q9 => ?_)
  refine go_callN0 kk33_0.1.2.1.1.2 rfl rfl rfl ⟨by decide, _, rfl, q9⟩ ⟨by decide, by decide⟩ (by omega) (tfT_take (by omega) hg q9  r8) (fun y10 g12 e13 => ?_)
  refine go_aload kk33_0.1.2.1.2 rfl ?_
  refine go_getR (bI := 1) kk33_0.1.2.2.1 e13 hK0 (by decide) rfl rfl (fun r14 => ?_)
  refine go_iload kk33_0.1.2.2.2 rfl ?_
  refine go_iload kk33_0.2.1.1.1.1 rfl ?_
  refine go_ck (fun q15 => ?_)
  refine go_callN1 kk33_0.2.1.1.1.2 rfl rfl rfl ⟨by decide, _, rfl, q15⟩ ⟨by decide, by decide⟩ (by omega) (tfT_killGroup (by omega) e13 q15  h1 h2) (fun y16 g18 r17 e19 => ?_)
  refine go_popI kk33_0.2.1.1.2 ?_
  refine go_aload kk33_0.2.1.2.1.1 rfl ?_
  refine go_getR (bI := 1) kk33_0.2.1.2.1.2 e19 hK0 (by decide) rfl rfl (fun r20 => ?_)
  refine go_ck (fun q21 => ?_)
  refine go_getI (bI := 8) kk33_0.2.1.2.2 e19 q21 (by decide) rfl rfl (fun r22 => ?_)
  refine go_aload kk33_0.2.2.1.1.1 rfl ?_
  refine go_getR (bI := 0) kk33_0.2.2.1.1.2 e19 hK0 (by decide) rfl rfl (fun r23 => ?_)
  refine go_ck (fun q24 => ?_)
  refine go_getI (bI := 8) kk33_0.2.2.1.2 e19 q24 (by decide) rfl rfl (fun r25 => ?_)
  refine go_isub kk33_0.2.2.2.1 ?_
  exact go_iret kk33_0.2.2.2.2 e19 (inR_w32 _) ⟨by decide, by decide⟩ rfl
theorem tfW_wouldFallBy {Φ : ev_P} {d : Nat} (hd : 7 ≤ d) {g : gH} (hg : HR g) {v0 v1 v2 v3 : Int} (h0 : RfR v0) (h1 : InR v1) (h2 : InR v2) (h3 : RfR v3) : Go Φ pr_P fN 1 (fW_wouldFallBy g v0 v1 v2 v3) d (pr_P 329) 0 (ev_loc (pr_P 329).1 [(sR v0), (sI v1), (sI v2), (sR v3)]) [] g 0 0 := by
  show Go Φ pr_P fN 1 (fW_wouldFallBy g v0 v1 v2 v3) d pr_m329 0 [some (sR v0), some (sI v1), some (sI v2), some (sR v3), none] [] g 0 0
  unfold fW_wouldFallBy
  refine go_aload kk329_0.1.1.1.1 rfl ?_
  refine go_int kk329_0.1.1.1.2 0 rfl ?_
  refine go_aload kk329_0.1.1.2.1 rfl ?_
  refine go_iload kk329_0.1.1.2.2 rfl ?_
  refine go_iload kk329_0.1.2.1.1 rfl ?_
  refine go_ck (fun q1 => ?_)
  refine go_callT1 kk329_0.1.2.1.2 rfl rfl rfl ⟨by decide, _, rfl, q1⟩ ⟨by decide, by decide⟩ (by omega) (tfC_wouldFallBy (by omega) hg q1  h1 h2) (fun y2 g4 r3 e5 => ?_) (fun E7 g4 e6 => ?_)
  · refine go_i2l kk329_0.1.2.2 r3 ?_
    refine go_ck (fun q8 => ?_)
    refine go_last kk329_0.2.1.1.1 e5 q8 (inL_R r3) (fun g9 e10 => ?_)
    refine go_goto kk329_0.2.1.1.2 ?_
    refine go_int kk329_0.2.2.1.2 0 rfl ?_
    exact go_iret kk329_0.2.2.2 e10 (inR_b (Or.inl rfl)) ⟨by decide, by decide⟩ rfl
  · refine ge_ite (fun hE9 => ?_) (fun _ => ?_)
    · subst hE9
      refine ge_catch rfl kk329_0.2.1.2.1 rfl (loc2 := [some (sR v0), some (sI v1), some (sI v2), some (sR v3), none]) rfl ?_
      refine go_int kk329_0.2.1.2.2 1 rfl ?_
      exact go_iret kk329_0.2.2.1.1 e6 (inR_b (Or.inr rfl)) ⟨by decide, by decide⟩ rfl
    exact ge_none
theorem tjC_weakest_64 {Φ : ev_P} {d : Nat} (hd : 6 ≤ d) {X28 : Int → Int → Int → gH → Option (Nat × (Int × gH))} {g : gH} (hg : HR g) {v0 v1 v2 v3 v4 v5 v6 v7 : Int} (hK0 : kd v0 = 6) (h1 : InR v1) (h2 : InR v2) (h3 : InR v3) (h4 : RfR v4) (h5 : InR v5) (h6 : InR v6) (h7 : RfR v7) {s0 : Int} (z0 : InR s0) (HX28 : ∀ (v2 : Int) (h2 : InR v2) (v3 : Int) (h3 : InR v3) (v6 : Int) (h6 : InR v6) (g : gH) (hg : HR g) (u7 : Option ev_V) (w7 : nwo u7) (u8 : Option ev_V) (w8 : nwo u8), Go Φ pr_P fT 1 (X28 v2 v3 v6 g) d pr_m34 28 [some (sR v0), some (sI v1), some (sI v2), some (sI v3), some (sR v4), some (sI v5), some (sI v6), u7, u8] [] g 1 6) (u8 : Option ev_V) (w8 : nwo u8) : Go Φ pr_P fT 1 (jC_weakest_64 X28 g v0 v1 v2 v3 v4 v5 v6 v7 s0 ) d pr_m34 64 [some (sR v0), some (sI v1), some (sI v2), some (sI v3), some (sR v4), some (sI v5), some (sI v6), some (sR v7), u8] [(sI s0)] g 1 6 := by
  unfold jC_weakest_64
  refine go_istore kk34_0.2.1.2.2.1.2 rfl (loc2 := [some (sR v0), some (sI v1), some (sI v2), some (sI v3), some (sR v4), some (sI v5), some (sI v6), some (sR v7), some (sI s0)]) rfl ?_
  refine go_iload kk34_0.2.1.2.2.2 rfl ?_
  refine go_iload kk34_0.2.2.1.1.1.1 rfl ?_
  refine go_cmgt kk34_0.2.2.1.1.1.2 z0 h3 (fun c28 => ?_) (fun c29 => ?_)
  · refine go_aload kk34_0.2.2.1.1.2 rfl ?_
    refine go_ck (fun q30 => ?_)
    refine go_getI (bI := 0) kk34_0.2.2.1.2.1.1 hg q30 (by decide) rfl rfl (fun r31 => ?_)
    refine go_istore kk34_0.2.2.1.2.1.2 rfl (loc2 := [some (sR v0), some (sI v1), some (sI (g v7 0)), some (sI v3), some (sR v4), some (sI v5), some (sI v6), some (sR v7), some (sI s0)]) rfl ?_
    refine go_iload kk34_0.2.2.1.2.2 rfl ?_
    refine go_istore kk34_0.2.2.2.1.1.1 rfl (loc2 := [some (sR v0), some (sI v1), some (sI (g v7 0)), some (sI s0), some (sR v4), some (sI v5), some (sI v6), some (sR v7), some (sI s0)]) rfl ?_
    refine go_iinc kk34_0.2.2.2.1.1.2 rfl rfl 1 rfl (loc2 := [some (sR v0), some (sI v1), some (sI (g v7 0)), some (sI s0), some (sR v4), some (sI v5), some (sI (w32 (v6 + 1))), some (sR v7), some (sI s0)]) rfl ?_
    refine go_goto kk34_0.2.2.2.1.2 ?_
    exact HX28 (g v7 0) r31 s0 z0 (w32 (v6 + 1)) (inR_w32 _) g hg (some (sR v7)) rfl (some (sI s0)) rfl
  · refine go_iinc kk34_0.2.2.2.1.1.2 rfl rfl 1 rfl (loc2 := [some (sR v0), some (sI v1), some (sI v2), some (sI v3), some (sR v4), some (sI v5), some (sI (w32 (v6 + 1))), some (sR v7), some (sI s0)]) rfl ?_
    refine go_goto kk34_0.2.2.2.1.2 ?_
    exact HX28 v2 h2 v3 h3 (w32 (v6 + 1)) (inR_w32 _) g hg (some (sR v7)) rfl (some (sI s0)) rfl
theorem tbC_weakest_28 {Φ : ev_P} {d : Nat} (hd : 6 ≤ d) {v0 v1 v4 v5 : Int} (hK0 : kd v0 = 6) (h1 : InR v1) (h4 : RfR v4) (h5 : InR v5) {X28 : Int → Int → Int → gH → Option (Nat × (Int × gH))} (HX28 : ∀ (v2 : Int) (h2 : InR v2) (v3 : Int) (h3 : InR v3) (v6 : Int) (h6 : InR v6) (g : gH) (hg : HR g) (u7 : Option ev_V) (w7 : nwo u7) (u8 : Option ev_V) (w8 : nwo u8), Go Φ pr_P fT 1 (X28 v2 v3 v6 g) d pr_m34 28 [some (sR v0), some (sI v1), some (sI v2), some (sI v3), some (sR v4), some (sI v5), some (sI v6), u7, u8] [] g 1 6) : ∀ (v2 : Int) (h2 : InR v2) (v3 : Int) (h3 : InR v3) (v6 : Int) (h6 : InR v6) (g : gH) (hg : HR g) (u7 : Option ev_V) (w7 : nwo u7) (u8 : Option ev_V) (w8 : nwo u8), Go Φ pr_P fT 1 (bC_weakest_28 v0 v1 v4 v5 X28 v2 v3 v6 g) d pr_m34 28 [some (sR v0), some (sI v1), some (sI v2), some (sI v3), some (sR v4), some (sI v5), some (sI v6), u7, u8] [] g 1 6 := by
  intro v2 h2 v3 h3 v6 h6 g hg u7 w7 u8 w8
  unfold bC_weakest_28
  refine go_iload kk34_0.1.2.1.2.1.2 rfl ?_
  refine go_iload kk34_0.1.2.1.2.2 rfl ?_
  refine go_cmlt kk34_0.1.2.2.1.1.1 h6 h5 (fun c12 => ?_) (fun c13 => ?_)
  · refine go_aload kk34_0.1.2.2.1.1.2 rfl ?_
    refine go_iload kk34_0.1.2.2.1.2 rfl ?_
    refine go_ck (fun q15 => ?_)
    refine go_pald kk34_0.1.2.2.2.1 hg q15 (fun r14 => ?_)
    refine go_astore kk34_0.1.2.2.2.2 rfl (loc2 := [some (sR v0), some (sI v1), some (sI v2), some (sI v3), some (sR v4), some (sI v5), some (sI v6), some (sR (g v4 v6)), u8]) rfl ?_
    refine go_aload kk34_0.2.1.1.1.1.1 rfl ?_
    refine go_ck (fun q16 => ?_)
    refine go_callP3 kk34_0.2.1.1.1.1.2 rfl rfl rfl ⟨by decide, _, rfl, q16⟩ ⟨by decide, by decide⟩ (by omega) (tfP_isMortal (by omega) hg q16 ) (fun y17 r18 => ?_)
    refine go_ifeq kk34_0.2.1.1.1.2 (inR_b r18) (fun c21 => ?_) (fun c22 => ?_)
    · refine go_int kk34_0.2.1.2.2.1.1 (-1) rfl ?_
      exact tjC_weakest_64 hd hg hK0 h1 h2 h3 h4 h5 h6 r14 (inR_of (by decide)) HX28 u8 w8
    · refine go_aload kk34_0.2.1.1.2.1.1 rfl ?_
      refine go_aload kk34_0.2.1.1.2.1.2 rfl ?_
      refine go_getI (bI := 0) kk34_0.2.1.1.2.2 hg q16 (by decide) rfl rfl (fun r23 => ?_)
      refine go_iload kk34_0.2.1.2.1.1.1 rfl ?_
      refine go_callN1 kk34_0.2.1.2.1.1.2 rfl rfl rfl ⟨by decide, _, rfl, hK0⟩ ⟨by decide, by decide⟩ (by omega) (tfC_exitOfCopy (by omega) hg hK0  r23 h1) (fun y24 g26 r25 e27 => ?_)
      refine go_goto kk34_0.2.1.2.1.2 ?_
      exact tjC_weakest_64 hd e27 hK0 h1 h2 h3 h4 h5 h6 r14 r25 HX28 u8 w8
  · refine go_iload kk34_0.2.2.2.2.1 rfl ?_
    exact go_iret kk34_0.2.2.2.2.2 hg h2 ⟨by decide, by decide⟩ rfl
theorem tlC_weakest_28 {Φ : ev_P} {d : Nat} (hd : 6 ≤ d) {v0 v1 v4 v5 : Int} (hK0 : kd v0 = 6) (h1 : InR v1) (h4 : RfR v4) (h5 : InR v5) : ∀ n : Nat, ∀ (v2 : Int) (h2 : InR v2) (v3 : Int) (h3 : InR v3) (v6 : Int) (h6 : InR v6) (g : gH) (hg : HR g) (u7 : Option ev_V) (w7 : nwo u7) (u8 : Option ev_V) (w8 : nwo u8), Go Φ pr_P fT 1 (lC_weakest_28 v0 v1 v4 v5 n v2 v3 v6 g) d pr_m34 28 [some (sR v0), some (sI v1), some (sI v2), some (sI v3), some (sR v4), some (sI v5), some (sI v6), u7, u8] [] g 1 6 := by
  intro n
  induction n with
  | zero => intros; exact go_none
  | succ n ih => exact tbC_weakest_28 hd hK0 h1 h4 h5 ih
theorem tfC_weakest {Φ : ev_P} {d : Nat} (hd : 6 ≤ d) {g : gH} (hg : HR g) {v0 v1 : Int} (hK0 : kd v0 = 6) (h1 : InR v1) : Go Φ pr_P fT 1 (fC_weakest g v0 v1) d (pr_P 34) 0 (ev_loc (pr_P 34).1 [(sR v0), (sI v1)]) [] g 0 0 := by
  show Go Φ pr_P fT 1 (fC_weakest g v0 v1) d pr_m34 0 [some (sR v0), some (sI v1), none, none, none, none, none, none, none] [] g 0 0
  unfold fC_weakest
  refine go_iload kk34_0.1.1.1.1.1.1 rfl ?_
  refine go_int kk34_0.1.1.1.1.1.2 255 rfl ?_
  refine go_callQ0 kk34_0.1.1.1.1.2 rfl rfl rfl trivial ⟨by decide, by decide⟩ (by omega) (tfC_checkRange (by omega) hg  h1 (inR_of (by decide))) (fun y1 => ?_) (fun e5 E6 => ge_prop rfl ⟨by decide, by decide⟩ e5 rfl)
  refine go_int kk34_0.1.1.1.2.1.1 (-1) rfl ?_
  refine go_istore kk34_0.1.1.1.2.1.2 rfl (loc2 := [some (sR v0), some (sI v1), some (sI (-1)), none, none, none, none, none, none]) rfl ?_
  refine go_int kk34_0.1.1.1.2.2 (-1) rfl ?_
  refine go_istore kk34_0.1.1.2.1.1.1 rfl (loc2 := [some (sR v0), some (sI v1), some (sI (-1)), some (sI (-1)), none, none, none, none, none]) rfl ?_
  refine go_aload kk34_0.1.1.2.1.1.2 rfl ?_
  refine go_getR (bI := 0) kk34_0.1.1.2.1.2 hg hK0 (by decide) rfl rfl (fun r7 => ?_)
  refine go_ck (fun q8 => ?_)
  refine go_getR (bI := 1) kk34_0.1.1.2.2.1.1 hg q8 (by decide) rfl rfl (fun r9 => ?_)
  refine go_astore kk34_0.1.1.2.2.1.2 rfl (loc2 := [some (sR v0), some (sI v1), some (sI (-1)), some (sI (-1)), some (sR (g (g v0 0) 1)), none, none, none, none]) rfl ?_
  refine go_aload kk34_0.1.1.2.2.2 rfl ?_
  refine go_ck (fun q11 => ?_)
  refine go_alen kk34_0.1.2.1.1.1.1 (ka_24 q11) (fun r10 => ?_)
  refine go_istore kk34_0.1.2.1.1.1.2 rfl (loc2 := [some (sR v0), some (sI v1), some (sI (-1)), some (sI (-1)), some (sR (g (g v0 0) 1)), some (sI (sz (g (g v0 0) 1))), none, none, none]) rfl ?_
  refine go_int kk34_0.1.2.1.1.2 0 rfl ?_
  refine go_istore kk34_0.1.2.1.2.1.1 rfl (loc2 := [some (sR v0), some (sI v1), some (sI (-1)), some (sI (-1)), some (sR (g (g v0 0) 1)), some (sI (sz (g (g v0 0) 1))), some (sI 0), none, none]) rfl ?_
  exact tlC_weakest_28 hd hK0 h1 r9 r10 fu (-1) (inR_of (by decide)) (-1) (inR_of (by decide)) 0 (inR_b (Or.inl rfl)) g hg none rfl none rfl
/-! ===== the evaluator comes to what the functions tell (own work, by program: wip/p2/dec.py) ===== -/
theorem tfW_weakest {Φ : ev_P} {d : Nat} (hd : 7 ≤ d) {g : gH} (hg : HR g) {v0 v1 v2 : Int} (h0 : RfR v0) (h1 : InR v1) (h2 : RfR v2) : Go Φ pr_P fN 1 (fW_weakest g v0 v1 v2) d (pr_P 330) 0 (ev_loc (pr_P 330).1 [(sR v0), (sI v1), (sR v2)]) [] g 0 0 := by
  show Go Φ pr_P fN 1 (fW_weakest g v0 v1 v2) d pr_m330 0 [some (sR v0), some (sI v1), some (sR v2), none] [] g 0 0
  unfold fW_weakest
  refine go_aload kk330_0.1.1.1.1 rfl ?_
  refine go_int kk330_0.1.1.1.2 0 rfl ?_
  refine go_aload kk330_0.1.1.2.1 rfl ?_
  refine go_iload kk330_0.1.1.2.2 rfl ?_
  refine go_ck (fun q1 => ?_)
  refine go_callT1 kk330_0.1.2.1.1 rfl rfl rfl ⟨by decide, _, rfl, q1⟩ ⟨by decide, by decide⟩ (by omega) (tfC_weakest (by omega) hg q1  h1) (fun y2 g4 r3 e5 => ?_) (fun E7 g4 e6 => ?_)
  · refine go_i2l kk330_0.1.2.1.2 r3 ?_
    refine go_ck (fun q8 => ?_)
    refine go_last kk330_0.1.2.2 e5 q8 (inL_R r3) (fun g9 e10 => ?_)
    refine go_goto kk330_0.2.1.1.1 ?_
    refine go_int kk330_0.2.2.1.2 0 rfl ?_
    exact go_iret kk330_0.2.2.2 e10 (inR_b (Or.inl rfl)) ⟨by decide, by decide⟩ rfl
  · refine ge_ite (fun hE9 => ?_) (fun _ => ?_)
    · subst hE9
      refine ge_catch rfl kk330_0.2.1.1.2 rfl (loc2 := [some (sR v0), some (sI v1), some (sR v2), none]) rfl ?_
      refine go_int kk330_0.2.1.2 1 rfl ?_
      exact go_iret kk330_0.2.2.1.1 e6 (inR_b (Or.inr rfl)) ⟨by decide, by decide⟩ rfl
    exact ge_none
theorem tbC_roomiest_27 {Φ : ev_P} {d : Nat} (hd : 1 ≤ d) {g : gH} (hg : HR g) {v1 v4 v5 : Int} (h1 : InR v1) (h4 : RfR v4) (h5 : InR v5) {X27 : Int → Int → Int → Option (Nat × Int)} (HX27 : ∀ (v2 : Int) (h2 : InR v2) (v3 : Int) (h3 : InR v3) (v6 : Int) (h6 : InR v6) (u0 : Option ev_V) (w0 : nwo u0) (u7 : Option ev_V) (w7 : nwo u7), Go Φ pr_P (fQ g) 1 (X27 v2 v3 v6) d pr_m35 27 [u0, some (sI v1), some (sI v2), some (sI v3), some (sR v4), some (sI v5), some (sI v6), u7] [] g 1 6) : ∀ (v2 : Int) (h2 : InR v2) (v3 : Int) (h3 : InR v3) (v6 : Int) (h6 : InR v6) (u0 : Option ev_V) (w0 : nwo u0) (u7 : Option ev_V) (w7 : nwo u7), Go Φ pr_P (fQ g) 1 (bC_roomiest_27 g v1 v4 v5 X27 v2 v3 v6) d pr_m35 27 [u0, some (sI v1), some (sI v2), some (sI v3), some (sR v4), some (sI v5), some (sI v6), u7] [] g 1 6 := by
  intro v2 h2 v3 h3 v6 h6 u0 w0 u7 w7
  unfold bC_roomiest_27
  refine go_iload kk35_0.1.2.1.2.2 rfl ?_
  refine go_iload kk35_0.1.2.2.1.1.1 rfl ?_
  refine go_cmlt kk35_0.1.2.2.1.1.2 h6 h5 (fun c12 => ?_) (fun c13 => ?_)
  · refine go_aload kk35_0.1.2.2.1.2 rfl ?_
    refine go_iload kk35_0.1.2.2.2.1 rfl ?_
    refine go_ck (fun q15 => ?_)
    refine go_pald kk35_0.1.2.2.2.2 hg q15 (fun r14 => ?_)
    refine go_astore kk35_0.2.1.1.1.1.1 rfl (loc2 := [u0, some (sI v1), some (sI v2), some (sI v3), some (sR v4), some (sI v5), some (sI v6), some (sR (g v4 v6))]) rfl ?_
    refine go_aload kk35_0.2.1.1.1.1.2 rfl ?_
    refine go_ck (fun q16 => ?_)
    refine go_callP3 kk35_0.2.1.1.1.2 rfl rfl rfl ⟨by decide, _, rfl, q16⟩ ⟨by decide, by decide⟩ (by omega) (tfP_isMortal (by omega) hg q16 ) (fun y17 r18 => ?_)
    refine go_ifeq kk35_0.2.1.1.2.1.1 (inR_b r18) (fun c21 => ?_) (fun c22 => ?_)
    · refine go_iinc kk35_0.2.2.2.1.1.2 rfl rfl 1 rfl (loc2 := [u0, some (sI v1), some (sI v2), some (sI v3), some (sR v4), some (sI v5), some (sI (w32 (v6 + 1))), some (sR (g v4 v6))]) rfl ?_
      refine go_goto kk35_0.2.2.2.1.2 ?_
      exact HX27 v2 h2 v3 h3 (w32 (v6 + 1)) (inR_w32 _) u0 w0 (some (sR (g v4 v6))) rfl
    · refine go_aload kk35_0.2.1.1.2.1.2 rfl ?_
      refine go_iload kk35_0.2.1.1.2.2 rfl ?_
      refine go_callP3 kk35_0.2.1.2.1.1.1 rfl rfl rfl ⟨by decide, _, rfl, q16⟩ ⟨by decide, by decide⟩ (by omega) (tfP_refuses (by omega) hg q16  h1) (fun y23 r24 => ?_)
      refine go_ifeq kk35_0.2.1.2.1.1.2 (inR_b r24) (fun c27 => ?_) (fun c28 => ?_)
      · refine go_aload kk35_0.2.1.2.1.2 rfl ?_
        refine go_callP1 kk35_0.2.1.2.2.1 rfl rfl rfl ⟨by decide, _, rfl, q16⟩ ⟨by decide, by decide⟩ (by omega) (tfP_room (by omega) hg q16 ) (fun y29 r30 => ?_)
        refine go_iload kk35_0.2.1.2.2.2 rfl ?_
        refine go_cmgt kk35_0.2.2.1.1.1.1 r30 h3 (fun c33 => ?_) (fun c34 => ?_)
        · refine go_aload kk35_0.2.2.1.1.1.2 rfl ?_
          refine go_getI (bI := 0) kk35_0.2.2.1.1.2 hg q16 (by decide) rfl rfl (fun r35 => ?_)
          refine go_istore kk35_0.2.2.1.2.1.1 rfl (loc2 := [u0, some (sI v1), some (sI (g (g v4 v6) 0)), some (sI v3), some (sR v4), some (sI v5), some (sI v6), some (sR (g v4 v6))]) rfl ?_
          refine go_aload kk35_0.2.2.1.2.1.2 rfl ?_
          refine go_callP1 kk35_0.2.2.1.2.2 rfl rfl rfl ⟨by decide, _, rfl, q16⟩ ⟨by decide, by decide⟩ (by omega) (tfP_room (by omega) hg q16 ) (fun y36 r37 => ?_)
          refine go_istore kk35_0.2.2.2.1.1.1 rfl (loc2 := [u0, some (sI v1), some (sI (g (g v4 v6) 0)), some (sI y36), some (sR v4), some (sI v5), some (sI v6), some (sR (g v4 v6))]) rfl ?_
          refine go_iinc kk35_0.2.2.2.1.1.2 rfl rfl 1 rfl (loc2 := [u0, some (sI v1), some (sI (g (g v4 v6) 0)), some (sI y36), some (sR v4), some (sI v5), some (sI (w32 (v6 + 1))), some (sR (g v4 v6))]) rfl ?_
          refine go_goto kk35_0.2.2.2.1.2 ?_
          exact HX27 (g (g v4 v6) 0) r35 y36 r37 (w32 (v6 + 1)) (inR_w32 _) u0 w0 (some (sR (g v4 v6))) rfl
        · refine go_iinc kk35_0.2.2.2.1.1.2 rfl rfl 1 rfl (loc2 := [u0, some (sI v1), some (sI v2), some (sI v3), some (sR v4), some (sI v5), some (sI (w32 (v6 + 1))), some (sR (g v4 v6))]) rfl ?_
          refine go_goto kk35_0.2.2.2.1.2 ?_
          exact HX27 v2 h2 v3 h3 (w32 (v6 + 1)) (inR_w32 _) u0 w0 (some (sR (g v4 v6))) rfl
      · refine go_iinc kk35_0.2.2.2.1.1.2 rfl rfl 1 rfl (loc2 := [u0, some (sI v1), some (sI v2), some (sI v3), some (sR v4), some (sI v5), some (sI (w32 (v6 + 1))), some (sR (g v4 v6))]) rfl ?_
        refine go_goto kk35_0.2.2.2.1.2 ?_
        exact HX27 v2 h2 v3 h3 (w32 (v6 + 1)) (inR_w32 _) u0 w0 (some (sR (g v4 v6))) rfl
  · refine go_iload kk35_0.2.2.2.2.1 rfl ?_
    exact go_iret kk35_0.2.2.2.2.2 hg h2 ⟨by decide, by decide⟩ rfl
theorem tlC_roomiest_27 {Φ : ev_P} {d : Nat} (hd : 1 ≤ d) {g : gH} (hg : HR g) {v1 v4 v5 : Int} (h1 : InR v1) (h4 : RfR v4) (h5 : InR v5) : ∀ n : Nat, ∀ (v2 : Int) (h2 : InR v2) (v3 : Int) (h3 : InR v3) (v6 : Int) (h6 : InR v6) (u0 : Option ev_V) (w0 : nwo u0) (u7 : Option ev_V) (w7 : nwo u7), Go Φ pr_P (fQ g) 1 (lC_roomiest_27 g v1 v4 v5 n v2 v3 v6) d pr_m35 27 [u0, some (sI v1), some (sI v2), some (sI v3), some (sR v4), some (sI v5), some (sI v6), u7] [] g 1 6 := by
  intro n
  induction n with
  | zero => intros; exact go_none
  | succ n ih => exact tbC_roomiest_27 hd hg h1 h4 h5 ih
theorem tfC_roomiest {Φ : ev_P} {d : Nat} (hd : 1 ≤ d) {g : gH} (hg : HR g) {v0 v1 : Int} (hK0 : kd v0 = 6) (h1 : InR v1) : Go Φ pr_P (fQ g) 1 (fC_roomiest g v0 v1) d (pr_P 35) 0 (ev_loc (pr_P 35).1 [(sR v0), (sI v1)]) [] g 0 0 := by
  show Go Φ pr_P (fQ g) 1 (fC_roomiest g v0 v1) d pr_m35 0 [some (sR v0), some (sI v1), none, none, none, none, none, none] [] g 0 0
  unfold fC_roomiest
  refine go_iload kk35_0.1.1.1.1.1.1 rfl ?_
  refine go_int kk35_0.1.1.1.1.1.2 9 rfl ?_
  refine go_callQ0 kk35_0.1.1.1.1.2 rfl rfl rfl trivial ⟨by decide, by decide⟩ (by omega) (tfC_checkRange (by omega) hg  h1 (inR_of (by decide))) (fun y1 => ?_) (fun e5 E6 => ge_prop rfl ⟨by decide, by decide⟩ e5 rfl)
  refine go_int kk35_0.1.1.1.2.1.1 (-1) rfl ?_
  refine go_istore kk35_0.1.1.1.2.1.2 rfl (loc2 := [some (sR v0), some (sI v1), some (sI (-1)), none, none, none, none, none]) rfl ?_
  refine go_int kk35_0.1.1.1.2.2 0 rfl ?_
  refine go_istore kk35_0.1.1.2.1.1.1 rfl (loc2 := [some (sR v0), some (sI v1), some (sI (-1)), some (sI 0), none, none, none, none]) rfl ?_
  refine go_aload kk35_0.1.1.2.1.1.2 rfl ?_
  refine go_getR (bI := 0) kk35_0.1.1.2.1.2 hg hK0 (by decide) rfl rfl (fun r7 => ?_)
  refine go_ck (fun q8 => ?_)
  refine go_getR (bI := 1) kk35_0.1.1.2.2.1 hg q8 (by decide) rfl rfl (fun r9 => ?_)
  refine go_astore kk35_0.1.1.2.2.2 rfl (loc2 := [some (sR v0), some (sI v1), some (sI (-1)), some (sI 0), some (sR (g (g v0 0) 1)), none, none, none]) rfl ?_
  refine go_aload kk35_0.1.2.1.1.1.1 rfl ?_
  refine go_ck (fun q11 => ?_)
  refine go_alen kk35_0.1.2.1.1.1.2 (ka_24 q11) (fun r10 => ?_)
  refine go_istore kk35_0.1.2.1.1.2 rfl (loc2 := [some (sR v0), some (sI v1), some (sI (-1)), some (sI 0), some (sR (g (g v0 0) 1)), some (sI (sz (g (g v0 0) 1))), none, none]) rfl ?_
  refine go_int kk35_0.1.2.1.2.1.1 0 rfl ?_
  refine go_istore kk35_0.1.2.1.2.1.2 rfl (loc2 := [some (sR v0), some (sI v1), some (sI (-1)), some (sI 0), some (sR (g (g v0 0) 1)), some (sI (sz (g (g v0 0) 1))), some (sI 0), none]) rfl ?_
  exact tlC_roomiest_27 hd hg h1 r9 r10 fu (-1) (inR_of (by decide)) 0 (inR_b (Or.inl rfl)) 0 (inR_b (Or.inl rfl)) (some (sR v0)) rfl none rfl
theorem tfW_roomiest {Φ : ev_P} {d : Nat} (hd : 2 ≤ d) {g : gH} (hg : HR g) {v0 v1 v2 : Int} (h0 : RfR v0) (h1 : InR v1) (h2 : RfR v2) : Go Φ pr_P fN 1 (fW_roomiest g v0 v1 v2) d (pr_P 331) 0 (ev_loc (pr_P 331).1 [(sR v0), (sI v1), (sR v2)]) [] g 0 0 := by
  show Go Φ pr_P fN 1 (fW_roomiest g v0 v1 v2) d pr_m331 0 [some (sR v0), some (sI v1), some (sR v2), none] [] g 0 0
  unfold fW_roomiest
  refine go_aload kk331_0.1.1.1.1 rfl ?_
  refine go_int kk331_0.1.1.1.2 0 rfl ?_
  refine go_aload kk331_0.1.1.2.1 rfl ?_
  refine go_iload kk331_0.1.1.2.2 rfl ?_
  refine go_ck (fun q1 => ?_)
  refine go_callQ1 kk331_0.1.2.1.1 rfl rfl rfl ⟨by decide, _, rfl, q1⟩ ⟨by decide, by decide⟩ (by omega) (tfC_roomiest (by omega) hg q1  h1) (fun y2 r3 => ?_) (fun e6 E7 => ?_)
  · refine go_i2l kk331_0.1.2.1.2 r3 ?_
    refine go_ck (fun q8 => ?_)
    refine go_last kk331_0.1.2.2 hg q8 (inL_R r3) (fun g9 e10 => ?_)
    refine go_goto kk331_0.2.1.1.1 ?_
    refine go_int kk331_0.2.2.1.2 0 rfl ?_
    exact go_iret kk331_0.2.2.2 e10 (inR_b (Or.inl rfl)) ⟨by decide, by decide⟩ rfl
  · refine ge_ite (fun hE9 => ?_) (fun _ => ?_)
    · subst hE9
      refine ge_catch rfl kk331_0.2.1.1.2 rfl (loc2 := [some (sR v0), some (sI v1), some (sR v2), none]) rfl ?_
      refine go_int kk331_0.2.1.2 1 rfl ?_
      exact go_iret kk331_0.2.2.1.1 e6 (inR_b (Or.inr rfl)) ⟨by decide, by decide⟩ rfl
    exact ge_none
theorem tbC_ofGroup_23 {Φ : ev_P} {d : Nat} (hd : 1 ≤ d) {g : gH} (hg : HR g) {v1 v3 v4 : Int} (h1 : InR v1) (h3 : RfR v3) (h4 : InR v4) {X23 : Int → Int → Option (Nat × Int)} (HX23 : ∀ (v2 : Int) (h2 : InR v2) (v5 : Int) (h5 : InR v5) (u0 : Option ev_V) (w0 : nwo u0) (u6 : Option ev_V) (w6 : nwo u6), Go Φ pr_P (fQ g) 1 (X23 v2 v5) d pr_m38 23 [u0, some (sI v1), some (sI v2), some (sR v3), some (sI v4), some (sI v5), u6] [] g 1 6) : ∀ (v2 : Int) (h2 : InR v2) (v5 : Int) (h5 : InR v5) (u0 : Option ev_V) (w0 : nwo u0) (u6 : Option ev_V) (w6 : nwo u6), Go Φ pr_P (fQ g) 1 (bC_ofGroup_23 g v1 v3 v4 X23 v2 v5) d pr_m38 23 [u0, some (sI v1), some (sI v2), some (sR v3), some (sI v4), some (sI v5), u6] [] g 1 6 := by
  intro v2 h2 v5 h5 u0 w0 u6 w6
  unfold bC_ofGroup_23
  refine go_iload kk38_0.1.2.2.1.2 rfl ?_
  refine go_iload kk38_0.1.2.2.2.1 rfl ?_
  refine go_cmlt kk38_0.1.2.2.2.2 h5 h4 (fun c12 => ?_) (fun c13 => ?_)
  · refine go_aload kk38_0.2.1.1.1.1 rfl ?_
    refine go_iload kk38_0.2.1.1.1.2 rfl ?_
    refine go_ck (fun q15 => ?_)
    refine go_pald kk38_0.2.1.1.2.1 hg q15 (fun r14 => ?_)
    refine go_astore kk38_0.2.1.1.2.2 rfl (loc2 := [u0, some (sI v1), some (sI v2), some (sR v3), some (sI v4), some (sI v5), some (sR (g v3 v5))]) rfl ?_
    refine go_aload kk38_0.2.1.2.1.1 rfl ?_
    refine go_ck (fun q16 => ?_)
    refine go_callP3 kk38_0.2.1.2.1.2 rfl rfl rfl ⟨by decide, _, rfl, q16⟩ ⟨by decide, by decide⟩ (by omega) (tfP_isRunning (by omega) hg q16 ) (fun y17 r18 => ?_)
    refine go_ifeq kk38_0.2.1.2.2.1 (inR_b r18) (fun c21 => ?_) (fun c22 => ?_)
    · refine go_iinc kk38_0.2.2.2.1.1 rfl rfl 1 rfl (loc2 := [u0, some (sI v1), some (sI v2), some (sR v3), some (sI v4), some (sI (w32 (v5 + 1))), some (sR (g v3 v5))]) rfl ?_
      refine go_goto kk38_0.2.2.2.1.2 ?_
      exact HX23 v2 h2 (w32 (v5 + 1)) (inR_w32 _) u0 w0 (some (sR (g v3 v5))) rfl
    · refine go_aload kk38_0.2.1.2.2.2 rfl ?_
      refine go_getI (bI := 5) kk38_0.2.2.1.1.1 hg q16 (by decide) rfl rfl (fun r23 => ?_)
      refine go_iload kk38_0.2.2.1.1.2 rfl ?_
      refine go_cmeq kk38_0.2.2.1.2.1 r23 h1 (fun c24 => ?_) (fun c25 => ?_)
      · refine go_iinc kk38_0.2.2.1.2.2 rfl rfl 1 rfl (loc2 := [u0, some (sI v1), some (sI (w32 (v2 + 1))), some (sR v3), some (sI v4), some (sI v5), some (sR (g v3 v5))]) rfl ?_
        refine go_iinc kk38_0.2.2.2.1.1 rfl rfl 1 rfl (loc2 := [u0, some (sI v1), some (sI (w32 (v2 + 1))), some (sR v3), some (sI v4), some (sI (w32 (v5 + 1))), some (sR (g v3 v5))]) rfl ?_
        refine go_goto kk38_0.2.2.2.1.2 ?_
        exact HX23 (w32 (v2 + 1)) (inR_w32 _) (w32 (v5 + 1)) (inR_w32 _) u0 w0 (some (sR (g v3 v5))) rfl
      · refine go_iinc kk38_0.2.2.2.1.1 rfl rfl 1 rfl (loc2 := [u0, some (sI v1), some (sI v2), some (sR v3), some (sI v4), some (sI (w32 (v5 + 1))), some (sR (g v3 v5))]) rfl ?_
        refine go_goto kk38_0.2.2.2.1.2 ?_
        exact HX23 v2 h2 (w32 (v5 + 1)) (inR_w32 _) u0 w0 (some (sR (g v3 v5))) rfl
  · refine go_iload kk38_0.2.2.2.2.1 rfl ?_
    exact go_iret kk38_0.2.2.2.2.2 hg h2 ⟨by decide, by decide⟩ rfl
theorem tlC_ofGroup_23 {Φ : ev_P} {d : Nat} (hd : 1 ≤ d) {g : gH} (hg : HR g) {v1 v3 v4 : Int} (h1 : InR v1) (h3 : RfR v3) (h4 : InR v4) : ∀ n : Nat, ∀ (v2 : Int) (h2 : InR v2) (v5 : Int) (h5 : InR v5) (u0 : Option ev_V) (w0 : nwo u0) (u6 : Option ev_V) (w6 : nwo u6), Go Φ pr_P (fQ g) 1 (lC_ofGroup_23 g v1 v3 v4 n v2 v5) d pr_m38 23 [u0, some (sI v1), some (sI v2), some (sR v3), some (sI v4), some (sI v5), u6] [] g 1 6 := by
  intro n
  induction n with
  | zero => intros; exact go_none
  | succ n ih => exact tbC_ofGroup_23 hd hg h1 h3 h4 ih
theorem tfC_ofGroup {Φ : ev_P} {d : Nat} (hd : 1 ≤ d) {g : gH} (hg : HR g) {v0 v1 : Int} (hK0 : kd v0 = 6) (h1 : InR v1) : Go Φ pr_P (fQ g) 1 (fC_ofGroup g v0 v1) d (pr_P 38) 0 (ev_loc (pr_P 38).1 [(sR v0), (sI v1)]) [] g 0 0 := by
  show Go Φ pr_P (fQ g) 1 (fC_ofGroup g v0 v1) d pr_m38 0 [some (sR v0), some (sI v1), none, none, none, none, none] [] g 0 0
  unfold fC_ofGroup
  refine go_iload kk38_0.1.1.1.1.1.1 rfl ?_
  refine go_int kk38_0.1.1.1.1.1.2 9 rfl ?_
  refine go_callQ0 kk38_0.1.1.1.1.2 rfl rfl rfl trivial ⟨by decide, by decide⟩ (by omega) (tfC_checkRange (by omega) hg  h1 (inR_of (by decide))) (fun y1 => ?_) (fun e5 E6 => ge_prop rfl ⟨by decide, by decide⟩ e5 rfl)
  refine go_int kk38_0.1.1.1.2.1 0 rfl ?_
  refine go_istore kk38_0.1.1.1.2.2 rfl (loc2 := [some (sR v0), some (sI v1), some (sI 0), none, none, none, none]) rfl ?_
  refine go_aload kk38_0.1.1.2.1.1 rfl ?_
  refine go_getR (bI := 0) kk38_0.1.1.2.1.2 hg hK0 (by decide) rfl rfl (fun r7 => ?_)
  refine go_ck (fun q8 => ?_)
  refine go_getR (bI := 1) kk38_0.1.1.2.2.1 hg q8 (by decide) rfl rfl (fun r9 => ?_)
  refine go_astore kk38_0.1.1.2.2.2 rfl (loc2 := [some (sR v0), some (sI v1), some (sI 0), some (sR (g (g v0 0) 1)), none, none, none]) rfl ?_
  refine go_aload kk38_0.1.2.1.1.1 rfl ?_
  refine go_ck (fun q11 => ?_)
  refine go_alen kk38_0.1.2.1.1.2 (ka_24 q11) (fun r10 => ?_)
  refine go_istore kk38_0.1.2.1.2.1 rfl (loc2 := [some (sR v0), some (sI v1), some (sI 0), some (sR (g (g v0 0) 1)), some (sI (sz (g (g v0 0) 1))), none, none]) rfl ?_
  refine go_int kk38_0.1.2.1.2.2 0 rfl ?_
  refine go_istore kk38_0.1.2.2.1.1 rfl (loc2 := [some (sR v0), some (sI v1), some (sI 0), some (sR (g (g v0 0) 1)), some (sI (sz (g (g v0 0) 1))), some (sI 0), none]) rfl ?_
  exact tlC_ofGroup_23 hd hg h1 r9 r10 fu 0 (inR_b (Or.inl rfl)) 0 (inR_b (Or.inl rfl)) (some (sR v0)) rfl none rfl
theorem tfW_ofGroup {Φ : ev_P} {d : Nat} (hd : 2 ≤ d) {g : gH} (hg : HR g) {v0 v1 v2 : Int} (h0 : RfR v0) (h1 : InR v1) (h2 : RfR v2) : Go Φ pr_P fN 1 (fW_ofGroup g v0 v1 v2) d (pr_P 332) 0 (ev_loc (pr_P 332).1 [(sR v0), (sI v1), (sR v2)]) [] g 0 0 := by
  show Go Φ pr_P fN 1 (fW_ofGroup g v0 v1 v2) d pr_m332 0 [some (sR v0), some (sI v1), some (sR v2), none] [] g 0 0
  unfold fW_ofGroup
  refine go_aload kk332_0.1.1.1.1 rfl ?_
  refine go_int kk332_0.1.1.1.2 0 rfl ?_
  refine go_aload kk332_0.1.1.2.1 rfl ?_
  refine go_iload kk332_0.1.1.2.2 rfl ?_
  refine go_ck (fun q1 => ?_)
  refine go_callQ1 kk332_0.1.2.1.1 rfl rfl rfl ⟨by decide, _, rfl, q1⟩ ⟨by decide, by decide⟩ (by omega) (tfC_ofGroup (by omega) hg q1  h1) (fun y2 r3 => ?_) (fun e6 E7 => ?_)
  · refine go_i2l kk332_0.1.2.1.2 r3 ?_
    refine go_ck (fun q8 => ?_)
    refine go_last kk332_0.1.2.2 hg q8 (inL_R r3) (fun g9 e10 => ?_)
    refine go_goto kk332_0.2.1.1.1 ?_
    refine go_int kk332_0.2.2.1.2 0 rfl ?_
    exact go_iret kk332_0.2.2.2 e10 (inR_b (Or.inl rfl)) ⟨by decide, by decide⟩ rfl
  · refine ge_ite (fun hE9 => ?_) (fun _ => ?_)
    · subst hE9
      refine ge_catch rfl kk332_0.2.1.1.2 rfl (loc2 := [some (sR v0), some (sI v1), some (sR v2), none]) rfl ?_
      refine go_int kk332_0.2.1.2 1 rfl ?_
      exact go_iret kk332_0.2.2.1.1 e6 (inR_b (Or.inr rfl)) ⟨by decide, by decide⟩ rfl
    exact ge_none
theorem tfC_nextTestament {Φ : ev_P} {d : Nat} (hd : 2 ≤ d) {g : gH} (hg : HR g) {v0 v1 : Int} (hK0 : kd v0 = 6) (h1 : InR v1) : Go Φ pr_P (fQ g) 1 (fC_nextTestament g v0 v1) d (pr_P 39) 0 (ev_loc (pr_P 39).1 [(sR v0), (sI v1)]) [] g 0 0 := by
  show Go Φ pr_P (fQ g) 1 (fC_nextTestament g v0 v1) d pr_m39 0 [some (sR v0), some (sI v1)] [] g 0 0
  unfold fC_nextTestament
  refine go_aload kk39_0.1.1.1.1 rfl ?_
  refine go_getR (bI := 0) kk39_0.1.1.1.2 hg hK0 (by decide) rfl rfl (fun r1 => ?_)
  refine go_aload kk39_0.1.1.2 rfl ?_
  refine go_iload kk39_0.1.2.1 rfl ?_
  refine go_callQ2 kk39_0.1.2.2 rfl rfl rfl ⟨by decide, _, rfl, hK0⟩ ⟨by decide, by decide⟩ (by omega) (tfC_named (by omega) hg hK0  h1) (fun y2 r3 => ?_) (fun e6 E7 => ge_prop rfl ⟨by decide, by decide⟩ e6 rfl)
  refine go_int kk39_0.2.1.1 (-1) rfl ?_
  refine go_ck (fun q8 => ?_)
  refine go_callP2 kk39_0.2.1.2 rfl rfl rfl ⟨by decide, _, rfl, q8⟩ ⟨by decide, by decide⟩ (by omega) (tfT_zombieBehind (by omega) hg q8  r3 (inR_of (by decide))) (fun y9 r10 => ?_)
  refine go_callP1 kk39_0.2.2.1 rfl rfl rfl trivial ⟨by decide, by decide⟩ (by omega) (tfC_numberOf (by omega) hg  r10) (fun y13 r14 => ?_)
  exact go_iret kk39_0.2.2.2 hg r14 ⟨by decide, by decide⟩ rfl
theorem tfW_nextTestament {Φ : ev_P} {d : Nat} (hd : 3 ≤ d) {g : gH} (hg : HR g) {v0 v1 v2 : Int} (h0 : RfR v0) (h1 : InR v1) (h2 : RfR v2) : Go Φ pr_P fN 1 (fW_nextTestament g v0 v1 v2) d (pr_P 333) 0 (ev_loc (pr_P 333).1 [(sR v0), (sI v1), (sR v2)]) [] g 0 0 := by
  show Go Φ pr_P fN 1 (fW_nextTestament g v0 v1 v2) d pr_m333 0 [some (sR v0), some (sI v1), some (sR v2), none] [] g 0 0
  unfold fW_nextTestament
  refine go_aload kk333_0.1.1.1.1 rfl ?_
  refine go_int kk333_0.1.1.1.2 0 rfl ?_
  refine go_aload kk333_0.1.1.2.1 rfl ?_
  refine go_iload kk333_0.1.1.2.2 rfl ?_
  refine go_ck (fun q1 => ?_)
  refine go_callQ1 kk333_0.1.2.1.1 rfl rfl rfl ⟨by decide, _, rfl, q1⟩ ⟨by decide, by decide⟩ (by omega) (tfC_nextTestament (by omega) hg q1  h1) (fun y2 r3 => ?_) (fun e6 E7 => ?_)
  · refine go_i2l kk333_0.1.2.1.2 r3 ?_
    refine go_ck (fun q8 => ?_)
    refine go_last kk333_0.1.2.2 hg q8 (inL_R r3) (fun g9 e10 => ?_)
    refine go_goto kk333_0.2.1.1.1 ?_
    refine go_int kk333_0.2.2.1.2 0 rfl ?_
    exact go_iret kk333_0.2.2.2 e10 (inR_b (Or.inl rfl)) ⟨by decide, by decide⟩ rfl
  · refine ge_ite (fun hE9 => ?_) (fun _ => ?_)
    · subst hE9
      refine ge_catch rfl kk333_0.2.1.1.2 rfl (loc2 := [some (sR v0), some (sI v1), some (sR v2), none]) rfl ?_
      refine go_int kk333_0.2.1.2 1 rfl ?_
      exact go_iret kk333_0.2.2.1.1 e6 (inR_b (Or.inr rfl)) ⟨by decide, by decide⟩ rfl
    exact ge_none
theorem tfP_hasExited {Φ : ev_P} {d : Nat} (hd : 0 ≤ d) {g : gH} (hg : HR g) {v0 : Int} (hK0 : kd v0 = 3) : Go Φ pr_P (fP g) 3 (fP_hasExited g v0) d (pr_P 237) 0 (ev_loc (pr_P 237).1 [(sR v0)]) [] g 0 0 := by
  show Go Φ pr_P (fP g) 3 (fP_hasExited g v0) d pr_m237 0 [some (sR v0)] [] g 0 0
  unfold fP_hasExited
  refine go_aload kk237_0.1.1.1.1 rfl ?_
  refine go_getI (bI := 1) kk237_0.1.1.1.2 hg hK0 (by decide) rfl rfl (fun r1 => ?_)
  refine go_int kk237_0.1.1.2 1 rfl ?_
  refine go_cmeq kk237_0.1.2.1.1 r1 (inR_b (Or.inr rfl)) (fun c2 => ?_) (fun c3 => ?_)
  · refine go_int kk237_0.2.1.2 1 rfl ?_
    refine go_goto kk237_0.2.2.1.1 ?_
    exact go_bret kk237_0.2.2.2 hg (Or.inr rfl) ⟨Nat.zero_le _, Nat.zero_le _⟩ rfl
  · refine go_aload kk237_0.1.2.1.2 rfl ?_
    refine go_getI (bI := 1) kk237_0.1.2.2 hg hK0 (by decide) rfl rfl (fun r4 => ?_)
    refine go_int kk237_0.2.1.1.1 2 rfl ?_
    refine go_cmeq kk237_0.2.1.1.2 r4 (inR_of (by decide)) (fun c5 => ?_) (fun c6 => ?_)
    · refine go_int kk237_0.2.1.2 1 rfl ?_
      refine go_goto kk237_0.2.2.1.1 ?_
      exact go_bret kk237_0.2.2.2 hg (Or.inr rfl) ⟨Nat.zero_le _, Nat.zero_le _⟩ rfl
    · refine go_int kk237_0.2.2.1.2 0 rfl ?_
      exact go_bret kk237_0.2.2.2 hg (Or.inl rfl) ⟨Nat.zero_le _, Nat.zero_le _⟩ rfl
theorem tjC_exited_56 {Φ : ev_P} {d : Nat} (hd : 1 ≤ d) {g : gH} (hg : HR g) {v2 : Int} (h2 : RfR v2) (u0 : Option ev_V) (w0 : nwo u0) (u1 : Option ev_V) (w1 : nwo u1) (u3 : Option ev_V) (w3 : nwo u3) (u4 : Option ev_V) (w4 : nwo u4) (u5 : Option ev_V) (w5 : nwo u5) (u6 : Option ev_V) (w6 : nwo u6) : Go Φ pr_P (fQ g) 1 (jC_exited_56 g v2 ) d pr_m40 56 [u0, u1, some (sR v2), u3, u4, u5, u6] [] g 0 0 := by
  unfold jC_exited_56
  refine go_aload kk40_0.2.2.1.2.1 rfl ?_
  refine go_isnull kk40_0.2.2.1.2.2  (fun c20 => ?_) (fun c21 => ?_)
  · exact go_throw kk40_0.2.2.2.1.1 hg ⟨by decide, by decide⟩ rfl rfl
  · refine go_aload kk40_0.2.2.2.1.2 rfl ?_
    refine go_ck (fun q22 => ?_)
    refine go_getI (bI := 0) kk40_0.2.2.2.2.1 hg q22 (by decide) rfl rfl (fun r23 => ?_)
    exact go_iret kk40_0.2.2.2.2.2 hg r23 ⟨Nat.zero_le _, Nat.zero_le _⟩ rfl
theorem tbC_exited_17 {Φ : ev_P} {d : Nat} (hd : 1 ≤ d) {g : gH} (hg : HR g) {v1 v3 v4 : Int} (h1 : InR v1) (h3 : RfR v3) (h4 : InR v4) {X17 : Int → Int → Option (Nat × Int)} (HX17 : ∀ (v2 : Int) (h2 : RfR v2) (v5 : Int) (h5 : InR v5) (u0 : Option ev_V) (w0 : nwo u0) (u6 : Option ev_V) (w6 : nwo u6), Go Φ pr_P (fQ g) 1 (X17 v2 v5) d pr_m40 17 [u0, some (sI v1), some (sR v2), some (sR v3), some (sI v4), some (sI v5), u6] [] g 0 0) : ∀ (v2 : Int) (h2 : RfR v2) (v5 : Int) (h5 : InR v5) (u0 : Option ev_V) (w0 : nwo u0) (u6 : Option ev_V) (w6 : nwo u6), Go Φ pr_P (fQ g) 1 (bC_exited_17 g v1 v3 v4 X17 v2 v5) d pr_m40 17 [u0, some (sI v1), some (sR v2), some (sR v3), some (sI v4), some (sI v5), u6] [] g 0 0 := by
  intro v2 h2 v5 h5 u0 w0 u6 w6
  unfold bC_exited_17
  refine go_iload kk40_0.1.2.1.1.2 rfl ?_
  refine go_iload kk40_0.1.2.1.2.1 rfl ?_
  refine go_cmlt kk40_0.1.2.1.2.2 h5 h4 (fun c6 => ?_) (fun c7 => ?_)
  · refine go_aload kk40_0.1.2.2.1.1 rfl ?_
    refine go_iload kk40_0.1.2.2.1.2 rfl ?_
    refine go_ck (fun q9 => ?_)
    refine go_pald kk40_0.1.2.2.2.1 hg q9 (fun r8 => ?_)
    refine go_astore kk40_0.1.2.2.2.2 rfl (loc2 := [u0, some (sI v1), some (sR v2), some (sR v3), some (sI v4), some (sI v5), some (sR (g v3 v5))]) rfl ?_
    refine go_aload kk40_0.2.1.1.1.1.1 rfl ?_
    refine go_ck (fun q10 => ?_)
    refine go_callP3 kk40_0.2.1.1.1.1.2 rfl rfl rfl ⟨by decide, _, rfl, q10⟩ ⟨Nat.zero_le _, Nat.zero_le _⟩ (by omega) (tfP_hasExited (by omega) hg q10 ) (fun y11 r12 => ?_)
    refine go_ifeq kk40_0.2.1.1.1.2 (inR_b r12) (fun c15 => ?_) (fun c16 => ?_)
    · refine go_iinc kk40_0.2.2.1.1.1 rfl rfl 1 rfl (loc2 := [u0, some (sI v1), some (sR v2), some (sR v3), some (sI v4), some (sI (w32 (v5 + 1))), some (sR (g v3 v5))]) rfl ?_
      refine go_goto kk40_0.2.2.1.1.2 ?_
      exact HX17 v2 h2 (w32 (v5 + 1)) (inR_w32 _) u0 w0 (some (sR (g v3 v5))) rfl
    · refine go_aload kk40_0.2.1.1.2.1 rfl ?_
      refine go_getI (bI := 10) kk40_0.2.1.1.2.2 hg q10 (by decide) rfl rfl (fun r17 => ?_)
      refine go_iload kk40_0.2.1.2.1.1 rfl ?_
      refine go_cmeq kk40_0.2.1.2.1.2 r17 h1 (fun c18 => ?_) (fun c19 => ?_)
      · refine go_aload kk40_0.2.1.2.2.1 rfl ?_
        refine go_astore kk40_0.2.1.2.2.2 rfl (loc2 := [u0, some (sI v1), some (sR (g v3 v5)), some (sR v3), some (sI v4), some (sI v5), some (sR (g v3 v5))]) rfl ?_
        refine go_iinc kk40_0.2.2.1.1.1 rfl rfl 1 rfl (loc2 := [u0, some (sI v1), some (sR (g v3 v5)), some (sR v3), some (sI v4), some (sI (w32 (v5 + 1))), some (sR (g v3 v5))]) rfl ?_
        refine go_goto kk40_0.2.2.1.1.2 ?_
        exact HX17 (g v3 v5) r8 (w32 (v5 + 1)) (inR_w32 _) u0 w0 (some (sR (g v3 v5))) rfl
      · refine go_iinc kk40_0.2.2.1.1.1 rfl rfl 1 rfl (loc2 := [u0, some (sI v1), some (sR v2), some (sR v3), some (sI v4), some (sI (w32 (v5 + 1))), some (sR (g v3 v5))]) rfl ?_
        refine go_goto kk40_0.2.2.1.1.2 ?_
        exact HX17 v2 h2 (w32 (v5 + 1)) (inR_w32 _) u0 w0 (some (sR (g v3 v5))) rfl
  · exact tjC_exited_56 hd hg h2 u0 w0 (some (sI v1)) rfl (some (sR v3)) rfl (some (sI v4)) rfl (some (sI v5)) rfl u6 w6
theorem tlC_exited_17 {Φ : ev_P} {d : Nat} (hd : 1 ≤ d) {g : gH} (hg : HR g) {v1 v3 v4 : Int} (h1 : InR v1) (h3 : RfR v3) (h4 : InR v4) : ∀ n : Nat, ∀ (v2 : Int) (h2 : RfR v2) (v5 : Int) (h5 : InR v5) (u0 : Option ev_V) (w0 : nwo u0) (u6 : Option ev_V) (w6 : nwo u6), Go Φ pr_P (fQ g) 1 (lC_exited_17 g v1 v3 v4 n v2 v5) d pr_m40 17 [u0, some (sI v1), some (sR v2), some (sR v3), some (sI v4), some (sI v5), u6] [] g 0 0 := by
  intro n
  induction n with
  | zero => intros; exact go_none
  | succ n ih => exact tbC_exited_17 hd hg h1 h3 h4 ih
theorem tfC_exited {Φ : ev_P} {d : Nat} (hd : 1 ≤ d) {g : gH} (hg : HR g) {v0 v1 : Int} (hK0 : kd v0 = 6) (h1 : InR v1) : Go Φ pr_P (fQ g) 1 (fC_exited g v0 v1) d (pr_P 40) 0 (ev_loc (pr_P 40).1 [(sR v0), (sI v1)]) [] g 0 0 := by
  show Go Φ pr_P (fQ g) 1 (fC_exited g v0 v1) d pr_m40 0 [some (sR v0), some (sI v1), none, none, none, none, none] [] g 0 0
  unfold fC_exited
  refine go_null kk40_0.1.1.1.1.1.1 ?_
  refine go_astore kk40_0.1.1.1.1.1.2 rfl (loc2 := [some (sR v0), some (sI v1), some (sR (-1)), none, none, none, none]) rfl ?_
  refine go_aload kk40_0.1.1.1.1.2 rfl ?_
  refine go_getR (bI := 0) kk40_0.1.1.1.2.1 hg hK0 (by decide) rfl rfl (fun r1 => ?_)
  refine go_ck (fun q2 => ?_)
  refine go_getR (bI := 1) kk40_0.1.1.1.2.2 hg q2 (by decide) rfl rfl (fun r3 => ?_)
  refine go_astore kk40_0.1.1.2.1.1 rfl (loc2 := [some (sR v0), some (sI v1), some (sR (-1)), some (sR (g (g v0 0) 1)), none, none, none]) rfl ?_
  refine go_aload kk40_0.1.1.2.1.2 rfl ?_
  refine go_ck (fun q5 => ?_)
  refine go_alen kk40_0.1.1.2.2.1 (ka_24 q5) (fun r4 => ?_)
  refine go_istore kk40_0.1.1.2.2.2 rfl (loc2 := [some (sR v0), some (sI v1), some (sR (-1)), some (sR (g (g v0 0) 1)), some (sI (sz (g (g v0 0) 1))), none, none]) rfl ?_
  refine go_int kk40_0.1.2.1.1.1.1 0 rfl ?_
  refine go_istore kk40_0.1.2.1.1.1.2 rfl (loc2 := [some (sR v0), some (sI v1), some (sR (-1)), some (sR (g (g v0 0) 1)), some (sI (sz (g (g v0 0) 1))), some (sI 0), none]) rfl ?_
  exact tlC_exited_17 hd hg h1 r3 r4 fu (-1) rfR_null 0 (inR_b (Or.inl rfl)) (some (sR v0)) rfl none rfl
theorem tfW_exited {Φ : ev_P} {d : Nat} (hd : 2 ≤ d) {g : gH} (hg : HR g) {v0 v1 v2 : Int} (h0 : RfR v0) (h1 : InR v1) (h2 : RfR v2) : Go Φ pr_P fN 1 (fW_exited g v0 v1 v2) d (pr_P 334) 0 (ev_loc (pr_P 334).1 [(sR v0), (sI v1), (sR v2)]) [] g 0 0 := by
  show Go Φ pr_P fN 1 (fW_exited g v0 v1 v2) d pr_m334 0 [some (sR v0), some (sI v1), some (sR v2), none] [] g 0 0
  unfold fW_exited
  refine go_aload kk334_0.1.1.1.1 rfl ?_
  refine go_int kk334_0.1.1.1.2 0 rfl ?_
  refine go_aload kk334_0.1.1.2.1 rfl ?_
  refine go_iload kk334_0.1.1.2.2 rfl ?_
  refine go_ck (fun q1 => ?_)
  refine go_callQ1 kk334_0.1.2.1.1 rfl rfl rfl ⟨by decide, _, rfl, q1⟩ ⟨by decide, by decide⟩ (by omega) (tfC_exited (by omega) hg q1  h1) (fun y2 r3 => ?_) (fun e6 E7 => ?_)
  · refine go_i2l kk334_0.1.2.1.2 r3 ?_
    refine go_ck (fun q8 => ?_)
    refine go_last kk334_0.1.2.2 hg q8 (inL_R r3) (fun g9 e10 => ?_)
    refine go_goto kk334_0.2.1.1.1 ?_
    refine go_int kk334_0.2.2.1.2 0 rfl ?_
    exact go_iret kk334_0.2.2.2 e10 (inR_b (Or.inl rfl)) ⟨by decide, by decide⟩ rfl
  · refine ge_ite (fun hE9 => ?_) (fun _ => ?_)
    · subst hE9
      refine ge_catch rfl kk334_0.2.1.1.2 rfl (loc2 := [some (sR v0), some (sI v1), some (sR v2), none]) rfl ?_
      refine go_int kk334_0.2.1.2 1 rfl ?_
      exact go_iret kk334_0.2.2.1.1 e6 (inR_b (Or.inr rfl)) ⟨by decide, by decide⟩ rfl
    exact ge_none
theorem tbT_deepestBelow_14 {Φ : ev_P} {d : Nat} (hd : 1 ≤ d) {g : gH} (hg : HR g) {v1 v3 v4 : Int} (h1 : RfR v1) (h3 : RfR v3) (h4 : InR v4) {X14 : Int → Int → Option Int} (HX14 : ∀ (v2 : Int) (h2 : RfR v2) (v5 : Int) (h5 : InR v5) (u0 : Option ev_V) (w0 : nwo u0) (u6 : Option ev_V) (w6 : nwo u6), Go Φ pr_P (fP g) 2 (X14 v2 v5) d pr_m304 14 [u0, some (sR v1), some (sR v2), some (sR v3), some (sI v4), some (sI v5), u6] [] g 0 0) : ∀ (v2 : Int) (h2 : RfR v2) (v5 : Int) (h5 : InR v5) (u0 : Option ev_V) (w0 : nwo u0) (u6 : Option ev_V) (w6 : nwo u6), Go Φ pr_P (fP g) 2 (bT_deepestBelow_14 g v1 v3 v4 X14 v2 v5) d pr_m304 14 [u0, some (sR v1), some (sR v2), some (sR v3), some (sI v4), some (sI v5), u6] [] g 0 0 := by
  intro v2 h2 v5 h5 u0 w0 u6 w6
  unfold bT_deepestBelow_14
  refine go_iload kk304_0.1.2.1.1.1.1 rfl ?_
  refine go_iload kk304_0.1.2.1.1.1.2 rfl ?_
  refine go_cmlt kk304_0.1.2.1.1.2 h5 h4 (fun c4 => ?_) (fun c5 => ?_)
  · refine go_aload kk304_0.1.2.1.2.1 rfl ?_
    refine go_iload kk304_0.1.2.1.2.2 rfl ?_
    refine go_ck (fun q7 => ?_)
    refine go_pald kk304_0.1.2.2.1.1 hg q7 (fun r6 => ?_)
    refine go_astore kk304_0.1.2.2.1.2 rfl (loc2 := [u0, some (sR v1), some (sR v2), some (sR v3), some (sI v4), some (sI v5), some (sR (g v3 v5))]) rfl ?_
    refine go_aload kk304_0.1.2.2.2.1 rfl ?_
    refine go_ck (fun q8 => ?_)
    refine go_callP3 kk304_0.1.2.2.2.2 rfl rfl rfl ⟨by decide, _, rfl, q8⟩ ⟨Nat.zero_le _, Nat.zero_le _⟩ (by omega) (tfP_isRunning (by omega) hg q8 ) (fun y9 r10 => ?_)
    refine go_ifeq kk304_0.2.1.1.1.1.1 (inR_b r10) (fun c13 => ?_) (fun c14 => ?_)
    · refine go_iinc kk304_0.2.2.2.1.1 rfl rfl 1 rfl (loc2 := [u0, some (sR v1), some (sR v2), some (sR v3), some (sI v4), some (sI (w32 (v5 + 1))), some (sR (g v3 v5))]) rfl ?_
      refine go_goto kk304_0.2.2.2.1.2 ?_
      exact HX14 v2 h2 (w32 (v5 + 1)) (inR_w32 _) u0 w0 (some (sR (g v3 v5))) rfl
    · refine go_aload kk304_0.2.1.1.1.1.2 rfl ?_
      refine go_aload kk304_0.2.1.1.1.2 rfl ?_
      refine go_ck (fun q15 => ?_)
      refine go_callP3 kk304_0.2.1.1.2.1 rfl rfl rfl ⟨by decide, _, rfl, q15⟩ ⟨Nat.zero_le _, Nat.zero_le _⟩ (by omega) (tfP_isOver (by omega) hg q15  r6) (fun y16 r17 => ?_)
      refine go_ifeq kk304_0.2.1.1.2.2 (inR_b r17) (fun c20 => ?_) (fun c21 => ?_)
      · refine go_iinc kk304_0.2.2.2.1.1 rfl rfl 1 rfl (loc2 := [u0, some (sR v1), some (sR v2), some (sR v3), some (sI v4), some (sI (w32 (v5 + 1))), some (sR (g v3 v5))]) rfl ?_
        refine go_goto kk304_0.2.2.2.1.2 ?_
        exact HX14 v2 h2 (w32 (v5 + 1)) (inR_w32 _) u0 w0 (some (sR (g v3 v5))) rfl
      · refine go_aload kk304_0.2.1.2.1.1 rfl ?_
        refine go_isnull kk304_0.2.1.2.1.2  (fun c22 => ?_) (fun c23 => ?_)
        · refine go_aload kk304_0.2.2.1.2.1 rfl ?_
          refine go_astore kk304_0.2.2.1.2.2 rfl (loc2 := [u0, some (sR v1), some (sR (g v3 v5)), some (sR v3), some (sI v4), some (sI v5), some (sR (g v3 v5))]) rfl ?_
          refine go_iinc kk304_0.2.2.2.1.1 rfl rfl 1 rfl (loc2 := [u0, some (sR v1), some (sR (g v3 v5)), some (sR v3), some (sI v4), some (sI (w32 (v5 + 1))), some (sR (g v3 v5))]) rfl ?_
          refine go_goto kk304_0.2.2.2.1.2 ?_
          exact HX14 (g v3 v5) r6 (w32 (v5 + 1)) (inR_w32 _) u0 w0 (some (sR (g v3 v5))) rfl
        · refine go_aload kk304_0.2.1.2.2.1 rfl ?_
          refine go_callP1 kk304_0.2.1.2.2.2 rfl rfl rfl ⟨by decide, _, rfl, q8⟩ ⟨Nat.zero_le _, Nat.zero_le _⟩ (by omega) (tfP_countAbove (by omega) hg q8 ) (fun y24 r25 => ?_)
          refine go_aload kk304_0.2.2.1.1.1.1 rfl ?_
          refine go_ck (fun q28 => ?_)
          refine go_callP1 kk304_0.2.2.1.1.1.2 rfl rfl rfl ⟨by decide, _, rfl, q28⟩ ⟨Nat.zero_le _, Nat.zero_le _⟩ (by omega) (tfP_countAbove (by omega) hg q28 ) (fun y29 r30 => ?_)
          refine go_cmlt kk304_0.2.2.1.1.2 r25 r30 (fun c33 => ?_) (fun c34 => ?_)
          · refine go_iinc kk304_0.2.2.2.1.1 rfl rfl 1 rfl (loc2 := [u0, some (sR v1), some (sR v2), some (sR v3), some (sI v4), some (sI (w32 (v5 + 1))), some (sR (g v3 v5))]) rfl ?_
            refine go_goto kk304_0.2.2.2.1.2 ?_
            exact HX14 v2 h2 (w32 (v5 + 1)) (inR_w32 _) u0 w0 (some (sR (g v3 v5))) rfl
          · refine go_aload kk304_0.2.2.1.2.1 rfl ?_
            refine go_astore kk304_0.2.2.1.2.2 rfl (loc2 := [u0, some (sR v1), some (sR (g v3 v5)), some (sR v3), some (sI v4), some (sI v5), some (sR (g v3 v5))]) rfl ?_
            refine go_iinc kk304_0.2.2.2.1.1 rfl rfl 1 rfl (loc2 := [u0, some (sR v1), some (sR (g v3 v5)), some (sR v3), some (sI v4), some (sI (w32 (v5 + 1))), some (sR (g v3 v5))]) rfl ?_
            refine go_goto kk304_0.2.2.2.1.2 ?_
            exact HX14 (g v3 v5) r6 (w32 (v5 + 1)) (inR_w32 _) u0 w0 (some (sR (g v3 v5))) rfl
  · refine go_aload kk304_0.2.2.2.2.1 rfl ?_
    exact go_aret kk304_0.2.2.2.2.2 hg h2 ⟨Nat.zero_le _, Nat.zero_le _⟩ rfl
theorem tlT_deepestBelow_14 {Φ : ev_P} {d : Nat} (hd : 1 ≤ d) {g : gH} (hg : HR g) {v1 v3 v4 : Int} (h1 : RfR v1) (h3 : RfR v3) (h4 : InR v4) : ∀ n : Nat, ∀ (v2 : Int) (h2 : RfR v2) (v5 : Int) (h5 : InR v5) (u0 : Option ev_V) (w0 : nwo u0) (u6 : Option ev_V) (w6 : nwo u6), Go Φ pr_P (fP g) 2 (lT_deepestBelow_14 g v1 v3 v4 n v2 v5) d pr_m304 14 [u0, some (sR v1), some (sR v2), some (sR v3), some (sI v4), some (sI v5), u6] [] g 0 0 := by
  intro n
  induction n with
  | zero => intros; exact go_none
  | succ n ih => exact tbT_deepestBelow_14 hd hg h1 h3 h4 ih
theorem tfT_deepestBelow {Φ : ev_P} {d : Nat} (hd : 1 ≤ d) {g : gH} (hg : HR g) {v0 v1 : Int} (hK0 : kd v0 = 5) (h1 : RfR v1) : Go Φ pr_P (fP g) 2 (fT_deepestBelow g v0 v1) d (pr_P 304) 0 (ev_loc (pr_P 304).1 [(sR v0), (sR v1)]) [] g 0 0 := by
  show Go Φ pr_P (fP g) 2 (fT_deepestBelow g v0 v1) d pr_m304 0 [some (sR v0), some (sR v1), none, none, none, none, none] [] g 0 0
  unfold fT_deepestBelow
  refine go_null kk304_0.1.1.1.1.1.1 ?_
  refine go_astore kk304_0.1.1.1.1.1.2 rfl (loc2 := [some (sR v0), some (sR v1), some (sR (-1)), none, none, none, none]) rfl ?_
  refine go_aload kk304_0.1.1.1.1.2 rfl ?_
  refine go_getR (bI := 1) kk304_0.1.1.1.2.1 hg hK0 (by decide) rfl rfl (fun r1 => ?_)
  refine go_astore kk304_0.1.1.1.2.2 rfl (loc2 := [some (sR v0), some (sR v1), some (sR (-1)), some (sR (g v0 1)), none, none, none]) rfl ?_
  refine go_aload kk304_0.1.1.2.1.1.1 rfl ?_
  refine go_ck (fun q3 => ?_)
  refine go_alen kk304_0.1.1.2.1.1.2 (ka_24 q3) (fun r2 => ?_)
  refine go_istore kk304_0.1.1.2.1.2 rfl (loc2 := [some (sR v0), some (sR v1), some (sR (-1)), some (sR (g v0 1)), some (sI (sz (g v0 1))), none, none]) rfl ?_
  refine go_int kk304_0.1.1.2.2.1 0 rfl ?_
  refine go_istore kk304_0.1.1.2.2.2 rfl (loc2 := [some (sR v0), some (sR v1), some (sR (-1)), some (sR (g v0 1)), some (sI (sz (g v0 1))), some (sI 0), none]) rfl ?_
  exact tlT_deepestBelow_14 hd hg h1 r1 r2 fu (-1) rfR_null 0 (inR_b (Or.inl rfl)) (some (sR v0)) rfl none rfl
theorem tbT_pruneBelow_9 {Φ : ev_P} {d : Nat} (hd : 5 ≤ d) {v0 v1 v2 : Int} (hK0 : kd v0 = 5) (h1 : RfR v1) (h2 : InR v2) {X9 : Int → Int → gH → Option (Int × gH)} (HX9 : ∀ (v3 : Int) (h3 : InR v3) (v4 : Int) (h4 : RfR v4) (g : gH) (hg : HR g), Go Φ pr_P fN 1 (X9 v3 v4 g) d pr_m303 9 [some (sR v0), some (sR v1), some (sI v2), some (sI v3), some (sR v4)] [] g 0 0) : ∀ (v3 : Int) (h3 : InR v3) (v4 : Int) (h4 : RfR v4) (g : gH) (hg : HR g), Go Φ pr_P fN 1 (bT_pruneBelow_9 v0 v1 v2 X9 v3 v4 g) d pr_m303 9 [some (sR v0), some (sR v1), some (sI v2), some (sI v3), some (sR v4)] [] g 0 0 := by
  intro v3 h3 v4 h4 g hg
  unfold bT_pruneBelow_9
  refine go_aload kk303_0.1.2.1.1.1 rfl ?_
  refine go_isnull kk303_0.1.2.1.1.2  (fun c5 => ?_) (fun c6 => ?_)
  · refine go_iload kk303_0.2.2.2.1.2 rfl ?_
    exact go_iret kk303_0.2.2.2.2 hg h3 ⟨Nat.zero_le _, Nat.zero_le _⟩ rfl
  · refine go_iload kk303_0.1.2.1.2 rfl ?_
    refine go_int kk303_0.1.2.2.1.1 40 rfl ?_
    refine go_cmlt kk303_0.1.2.2.1.2 h3 (inR_of (by decide)) (fun c7 => ?_) (fun c8 => ?_)
    · refine go_aload kk303_0.1.2.2.2 rfl ?_
      refine go_aload kk303_0.2.1.1.1.1 rfl ?_
      refine go_iload kk303_0.2.1.1.1.2 rfl ?_
      refine go_callN1 kk303_0.2.1.1.2 rfl rfl rfl ⟨by decide, _, rfl, hK0⟩ ⟨Nat.zero_le _, Nat.zero_le _⟩ (by omega) (tfT_letExit (by omega) hg hK0  h4 h2) (fun y9 g11 r10 e12 => ?_)
      refine go_popI kk303_0.2.1.2.1.1 ?_
      refine go_iinc kk303_0.2.1.2.1.2 rfl rfl 1 rfl (loc2 := [some (sR v0), some (sR v1), some (sI v2), some (sI (w32 (v3 + 1))), some (sR v4)]) rfl ?_
      refine go_aload kk303_0.2.1.2.2 rfl ?_
      refine go_aload kk303_0.2.2.1.1.1 rfl ?_
      refine go_callP2 kk303_0.2.2.1.1.2 rfl rfl rfl ⟨by decide, _, rfl, hK0⟩ ⟨Nat.zero_le _, Nat.zero_le _⟩ (by omega) (tfT_deepestBelow (by omega) e12 hK0  h1) (fun y13 r14 => ?_)
      refine go_astore kk303_0.2.2.1.2 rfl (loc2 := [some (sR v0), some (sR v1), some (sI v2), some (sI (w32 (v3 + 1))), some (sR y13)]) rfl ?_
      refine go_goto kk303_0.2.2.2.1.1 ?_
      exact HX9 (w32 (v3 + 1)) (inR_w32 _) y13 r14 g11 e12
    · refine go_iload kk303_0.2.2.2.1.2 rfl ?_
      exact go_iret kk303_0.2.2.2.2 hg h3 ⟨Nat.zero_le _, Nat.zero_le _⟩ rfl
theorem tlT_pruneBelow_9 {Φ : ev_P} {d : Nat} (hd : 5 ≤ d) {v0 v1 v2 : Int} (hK0 : kd v0 = 5) (h1 : RfR v1) (h2 : InR v2) : ∀ n : Nat, ∀ (v3 : Int) (h3 : InR v3) (v4 : Int) (h4 : RfR v4) (g : gH) (hg : HR g), Go Φ pr_P fN 1 (lT_pruneBelow_9 v0 v1 v2 n v3 v4 g) d pr_m303 9 [some (sR v0), some (sR v1), some (sI v2), some (sI v3), some (sR v4)] [] g 0 0 := by
  intro n
  induction n with
  | zero => intros; exact go_none
  | succ n ih => exact tbT_pruneBelow_9 hd hK0 h1 h2 ih
theorem tfT_pruneBelow {Φ : ev_P} {d : Nat} (hd : 5 ≤ d) {g : gH} (hg : HR g) {v0 v1 v2 : Int} (hK0 : kd v0 = 5) (h1 : RfR v1) (h2 : InR v2) : Go Φ pr_P fN 1 (fT_pruneBelow g v0 v1 v2) d (pr_P 303) 0 (ev_loc (pr_P 303).1 [(sR v0), (sR v1), (sI v2)]) [] g 0 0 := by
  show Go Φ pr_P fN 1 (fT_pruneBelow g v0 v1 v2) d pr_m303 0 [some (sR v0), some (sR v1), some (sI v2), none, none] [] g 0 0
  unfold fT_pruneBelow
  refine go_int kk303_0.1.1.1.1.1 0 rfl ?_
  refine go_istore kk303_0.1.1.1.1.2 rfl (loc2 := [some (sR v0), some (sR v1), some (sI v2), some (sI 0), none]) rfl ?_
  refine go_aload kk303_0.1.1.1.2 rfl ?_
  refine go_aload kk303_0.1.1.2.1.1 rfl ?_
  refine go_callP2 kk303_0.1.1.2.1.2 rfl rfl rfl ⟨by decide, _, rfl, hK0⟩ ⟨Nat.zero_le _, Nat.zero_le _⟩ (by omega) (tfT_deepestBelow (by omega) hg hK0  h1) (fun y1 r2 => ?_)
  refine go_astore kk303_0.1.1.2.2 rfl (loc2 := [some (sR v0), some (sR v1), some (sI v2), some (sI 0), some (sR y1)]) rfl ?_
  exact tlT_pruneBelow_9 hd hK0 h1 h2 fu 0 (inR_b (Or.inl rfl)) y1 r2 g hg
theorem tfC_prune {Φ : ev_P} {d : Nat} (hd : 6 ≤ d) {g : gH} (hg : HR g) {v0 v1 v2 : Int} (hK0 : kd v0 = 6) (h1 : InR v1) (h2 : InR v2) : Go Φ pr_P fT 1 (fC_prune g v0 v1 v2) d (pr_P 43) 0 (ev_loc (pr_P 43).1 [(sR v0), (sI v1), (sI v2)]) [] g 0 0 := by
  show Go Φ pr_P fT 1 (fC_prune g v0 v1 v2) d pr_m43 0 [some (sR v0), some (sI v1), some (sI v2), none] [] g 0 0
  unfold fC_prune
  refine go_aload kk43_0.1.1.1.1.1 rfl ?_
  refine go_iload kk43_0.1.1.1.1.2 rfl ?_
  refine go_callQ2 kk43_0.1.1.1.2 rfl rfl rfl ⟨by decide, _, rfl, hK0⟩ ⟨by decide, by decide⟩ (by omega) (tfC_named (by omega) hg hK0  h1) (fun y1 r2 => ?_) (fun e5 E6 => ge_prop rfl ⟨by decide, by decide⟩ e5 rfl)
  refine go_astore kk43_0.1.1.2.1.1 rfl (loc2 := [some (sR v0), some (sI v1), some (sI v2), some (sR y1)]) rfl ?_
  refine go_iload kk43_0.1.1.2.1.2 rfl ?_
  refine go_int kk43_0.1.1.2.2 255 rfl ?_
  refine go_callQ0 kk43_0.1.2.1.1.1 rfl rfl rfl trivial ⟨by decide, by decide⟩ (by omega) (tfC_checkRange (by omega) hg  h2 (inR_of (by decide))) (fun y7 => ?_) (fun e11 E12 => ge_prop rfl ⟨by decide, by decide⟩ e11 rfl)
  refine go_aload kk43_0.1.2.1.1.2 rfl ?_
  refine go_ck (fun q13 => ?_)
  refine go_callP3 kk43_0.1.2.1.2 rfl rfl rfl ⟨by decide, _, rfl, q13⟩ ⟨by decide, by decide⟩ (by omega) (tfP_isRunning (by omega) hg q13 ) (fun y14 r15 => ?_)
  refine go_callQ0 kk43_0.1.2.2.1 rfl rfl rfl trivial ⟨by decide, by decide⟩ (by omega) (tfC_checkState (by omega) hg  r15) (fun y18 => ?_) (fun e22 E23 => ge_prop rfl ⟨by decide, by decide⟩ e22 rfl)
  refine go_aload kk43_0.1.2.2.2 rfl ?_
  refine go_getR (bI := 3) kk43_0.2.1.1.1.1 hg hK0 (by decide) rfl rfl (fun r24 => ?_)
  refine go_aload kk43_0.2.1.1.1.2 rfl ?_
  refine go_getR (bI := 0) kk43_0.2.1.1.2 hg hK0 (by decide) rfl rfl (fun r25 => ?_)
  refine go_ck (fun q26 => ?_)
  refine go_callN0 kk43_0.2.1.2.1 rfl rfl rfl ⟨by decide, _, rfl, q26⟩ ⟨by decide, by decide⟩ (by omega) (tfH_push (by omega) hg q26  r25) (fun y27 g29 e30 => ?_)
  refine go_aload kk43_0.2.1.2.2 rfl ?_
  refine go_getR (bI := 0) kk43_0.2.2.1.1.1 e30 hK0 (by decide) rfl rfl (fun r31 => ?_)
  refine go_aload kk43_0.2.2.1.1.2 rfl ?_
  refine go_iload kk43_0.2.2.1.2 rfl ?_
  refine go_ck (fun q32 => ?_)
  refine go_callN1 kk43_0.2.2.2.1 rfl rfl rfl ⟨by decide, _, rfl, q32⟩ ⟨by decide, by decide⟩ (by omega) (tfT_pruneBelow (by omega) e30 q32  r2 h2) (fun y33 g35 r34 e36 => ?_)
  exact go_iret kk43_0.2.2.2.2 e36 r34 ⟨by decide, by decide⟩ rfl
theorem tfW_prune {Φ : ev_P} {d : Nat} (hd : 7 ≤ d) {g : gH} (hg : HR g) {v0 v1 v2 v3 : Int} (h0 : RfR v0) (h1 : InR v1) (h2 : InR v2) (h3 : RfR v3) : Go Φ pr_P fN 1 (fW_prune g v0 v1 v2 v3) d (pr_P 335) 0 (ev_loc (pr_P 335).1 [(sR v0), (sI v1), (sI v2), (sR v3)]) [] g 0 0 := by
  show Go Φ pr_P fN 1 (fW_prune g v0 v1 v2 v3) d pr_m335 0 [some (sR v0), some (sI v1), some (sI v2), some (sR v3), none] [] g 0 0
  unfold fW_prune
  refine go_aload kk335_0.1.1.1.1.1 rfl ?_
  refine go_int kk335_0.1.1.1.1.2 0 rfl ?_
  refine go_aload kk335_0.1.1.1.2 rfl ?_
  refine go_iload kk335_0.1.1.2.1 rfl ?_
  refine go_iload kk335_0.1.1.2.2 rfl ?_
  refine go_ck (fun q1 => ?_)
  refine go_callT1 kk335_0.1.2.1.1.1 rfl rfl rfl ⟨by decide, _, rfl, q1⟩ ⟨by decide, by decide⟩ (by omega) (tfC_prune (by omega) hg q1  h1 h2) (fun y2 g4 r3 e5 => ?_) (fun E7 g4 e6 => ?_)
  · refine go_i2l kk335_0.1.2.1.1.2 r3 ?_
    refine go_ck (fun q8 => ?_)
    refine go_last kk335_0.1.2.1.2 e5 q8 (inL_R r3) (fun g9 e10 => ?_)
    refine go_goto kk335_0.1.2.2.1 ?_
    refine go_int kk335_0.2.2.2.1 0 rfl ?_
    exact go_iret kk335_0.2.2.2.2 e10 (inR_b (Or.inl rfl)) ⟨by decide, by decide⟩ rfl
  · refine ge_ite (fun hE9 => ?_) (fun _ => ?_)
    · subst hE9
      refine ge_catch rfl kk335_0.1.2.2.2 rfl (loc2 := [some (sR v0), some (sI v1), some (sI v2), some (sR v3), none]) rfl ?_
      refine go_int kk335_0.2.1.1.1.1 1 rfl ?_
      exact go_iret kk335_0.2.1.1.1.2 e6 (inR_b (Or.inr rfl)) ⟨by decide, by decide⟩ rfl
    refine ge_ite (fun hE9 => ?_) (fun _ => ?_)
    · subst hE9
      refine ge_catch rfl kk335_0.2.1.1.2 rfl (loc2 := [some (sR v0), some (sI v1), some (sI v2), some (sR v3), none]) rfl ?_
      refine go_int kk335_0.2.1.2.1 2 rfl ?_
      exact go_iret kk335_0.2.1.2.2 e6 (inR_of (by decide)) ⟨by decide, by decide⟩ rfl
    refine ge_ite (fun hE9 => ?_) (fun _ => ?_)
    · subst hE9
      refine ge_catch rfl kk335_0.2.2.1.1.1 rfl (loc2 := [some (sR v0), some (sI v1), some (sI v2), some (sR v3), none]) rfl ?_
      refine go_int kk335_0.2.2.1.1.2 3 rfl ?_
      exact go_iret kk335_0.2.2.1.2 e6 (inR_of (by decide)) ⟨by decide, by decide⟩ rfl
    exact ge_none
theorem tjC_exchange_88 {Φ : ev_P} {d : Nat} (hd : 3 ≤ d) {g : gH} (hg : HR g) {v0 v3 v4 : Int} (hK0 : kd v0 = 6) (h3 : RfR v3) (h4 : RfR v4) {s0 : Int} (z0 : B01 s0) (u1 : Option ev_V) (w1 : nwo u1) (u2 : Option ev_V) (w2 : nwo u2) (u5 : Option ev_V) (w5 : nwo u5) (u6 : Option ev_V) (w6 : nwo u6) (u7 : Option ev_V) (w7 : nwo u7) : Go Φ pr_P fT 1 (jC_exchange_88 g v0 v3 v4 s0 ) d pr_m44 88 [some (sR v0), u1, u2, some (sR v3), some (sR v4), u5, u6, u7] [(sI s0)] g 3 18 := by
  unfold jC_exchange_88
  refine go_istore kk44_1.1.1.2.1.1.2 rfl (loc2 := [some (sR v0), u1, u2, some (sR v3), some (sR v4), some (sI s0), u6, u7]) rfl ?_
  refine go_int kk44_1.1.1.2.1.2 2 rfl ?_
  refine go_aload kk44_1.1.1.2.2.1 rfl ?_
  refine go_getR (bI := 0) kk44_1.1.1.2.2.2 hg hK0 (by decide) rfl rfl (fun r66 => ?_)
  refine go_aload kk44_1.1.2.1.1.1.1 rfl ?_
  refine go_int kk44_1.1.2.1.1.1.2 0 rfl ?_
  refine go_ck (fun q67 => ?_)
  refine go_callP1 kk44_1.1.2.1.1.2 rfl rfl rfl ⟨by decide, _, rfl, q67⟩ ⟨by decide, by decide⟩ (by omega) (tfT_countBelow (by omega) hg q67  h3 (inR_b (Or.inl rfl))) (fun y68 r69 => ?_)
  refine go_iadd kk44_1.1.2.1.2.1 ?_
  refine go_aload kk44_1.1.2.1.2.2 rfl ?_
  refine go_getR (bI := 0) kk44_1.1.2.2.1.1 hg hK0 (by decide) rfl rfl (fun r72 => ?_)
  refine go_aload kk44_1.1.2.2.1.2 rfl ?_
  refine go_int kk44_1.1.2.2.2.1 0 rfl ?_
  refine go_callP1 kk44_1.1.2.2.2.2 rfl rfl rfl ⟨by decide, _, rfl, q67⟩ ⟨by decide, by decide⟩ (by omega) (tfT_countBelow (by omega) hg q67  h4 (inR_b (Or.inl rfl))) (fun y73 r74 => ?_)
  refine go_iadd kk44_1.2.1.1.1.1.1 ?_
  refine go_istore kk44_1.2.1.1.1.1.2 rfl (loc2 := [some (sR v0), u1, u2, some (sR v3), some (sR v4), some (sI s0), some (sI (w32 ((w32 (2 + y68)) + y73))), u7]) rfl ?_
  refine go_aload kk44_1.2.1.1.1.2 rfl ?_
  refine go_ck (fun q77 => ?_)
  refine go_getR (bI := 2) kk44_1.2.1.1.2.1 hg q77 (by decide) rfl rfl (fun r78 => ?_)
  refine go_astore kk44_1.2.1.1.2.2 rfl (loc2 := [some (sR v0), u1, u2, some (sR v3), some (sR v4), some (sI s0), some (sI (w32 ((w32 (2 + y68)) + y73))), some (sR (g v3 2))]) rfl ?_
  refine go_aload kk44_1.2.1.2.1.1 rfl ?_
  refine go_aload kk44_1.2.1.2.1.2 rfl ?_
  refine go_ck (fun q79 => ?_)
  refine go_getR (bI := 2) kk44_1.2.1.2.2.1 hg q79 (by decide) rfl rfl (fun r80 => ?_)
  refine go_callN0 kk44_1.2.1.2.2.2 rfl rfl rfl ⟨by decide, _, rfl, q77⟩ ⟨by decide, by decide⟩ (by omega) (tfP_putUnder (by omega) hg q77  r80) (fun y81 g83 e84 => ?_)
  refine go_aload kk44_1.2.2.1.1.1.1 rfl ?_
  refine go_aload kk44_1.2.2.1.1.1.2 rfl ?_
  refine go_callN0 kk44_1.2.2.1.1.2 rfl rfl rfl ⟨by decide, _, rfl, q79⟩ ⟨by decide, by decide⟩ (by omega) (tfP_putUnder (by omega) e84 q79  r78) (fun y85 g87 e88 => ?_)
  refine go_iload kk44_1.2.2.1.2.1 rfl ?_
  refine go_ifeq kk44_1.2.2.1.2.2 (inR_b z0) (fun c89 => ?_) (fun c90 => ?_)
  · refine go_iload kk44_1.2.2.2.2.1 rfl ?_
    exact go_iret kk44_1.2.2.2.2.2 e88 (inR_w32 _) ⟨by decide, by decide⟩ rfl
  · refine go_int kk44_1.2.2.2.1.1 0 rfl ?_
    refine go_goto kk44_1.2.2.2.1.2 ?_
    exact go_iret kk44_1.2.2.2.2.2 e88 (inR_b (Or.inl rfl)) ⟨by decide, by decide⟩ rfl
theorem tjC_exchange_57 {Φ : ev_P} {d : Nat} (hd : 3 ≤ d) {g : gH} (hg : HR g) {v0 v3 v4 : Int} (hK0 : kd v0 = 6) (h3 : RfR v3) (h4 : RfR v4) {s0 : Int} (z0 : B01 s0) (u1 : Option ev_V) (w1 : nwo u1) (u2 : Option ev_V) (w2 : nwo u2) (u5 : Option ev_V) (w5 : nwo u5) (u6 : Option ev_V) (w6 : nwo u6) (u7 : Option ev_V) (w7 : nwo u7) : Go Φ pr_P fT 1 (jC_exchange_57 g v0 v3 v4 s0 ) d pr_m44 57 [some (sR v0), u1, u2, some (sR v3), some (sR v4), u5, u6, u7] [(sI s0)] g 2 12 := by
  unfold jC_exchange_57
  refine go_callQ0 kk44_0.2.2.1.1.1.2 rfl rfl rfl trivial ⟨by decide, by decide⟩ (by omega) (tfC_checkState (by omega) hg  z0) (fun y41 => ?_) (fun e45 E46 => ge_prop rfl ⟨by decide, by decide⟩ e45 rfl)
  refine go_aload kk44_0.2.2.1.1.2 rfl ?_
  refine go_getR (bI := 3) kk44_0.2.2.1.2.1 hg hK0 (by decide) rfl rfl (fun r47 => ?_)
  refine go_aload kk44_0.2.2.1.2.2 rfl ?_
  refine go_getR (bI := 0) kk44_0.2.2.2.1.1 hg hK0 (by decide) rfl rfl (fun r48 => ?_)
  refine go_ck (fun q49 => ?_)
  refine go_callN0 kk44_0.2.2.2.1.2 rfl rfl rfl ⟨by decide, _, rfl, q49⟩ ⟨by decide, by decide⟩ (by omega) (tfH_push (by omega) hg q49  r48) (fun y50 g52 e53 => ?_)
  refine go_aload kk44_0.2.2.2.2.1 rfl ?_
  refine go_ck (fun q54 => ?_)
  refine go_callP1 kk44_0.2.2.2.2.2 rfl rfl rfl ⟨by decide, _, rfl, q54⟩ ⟨by decide, by decide⟩ (by omega) (tfP_countAbove (by omega) e53 q54 ) (fun y55 r56 => ?_)
  refine go_aload kk44_1.1.1.1.1.1.1 rfl ?_
  refine go_ck (fun q59 => ?_)
  refine go_callP1 kk44_1.1.1.1.1.1.2 rfl rfl rfl ⟨by decide, _, rfl, q59⟩ ⟨by decide, by decide⟩ (by omega) (tfP_countAbove (by omega) e53 q59 ) (fun y60 r61 => ?_)
  refine go_cmeq kk44_1.1.1.1.1.2 r56 r61 (fun c64 => ?_) (fun c65 => ?_)
  · refine go_int kk44_1.1.1.1.2.1 1 rfl ?_
    refine go_goto kk44_1.1.1.1.2.2 ?_
    exact tjC_exchange_88 hd e53 hK0 h3 h4 (Or.inr rfl) u1 w1 u2 w2 u5 w5 u6 w6 u7 w7
  · refine go_int kk44_1.1.1.2.1.1.1 0 rfl ?_
    exact tjC_exchange_88 hd e53 hK0 h3 h4 (Or.inl rfl) u1 w1 u2 w2 u5 w5 u6 w6 u7 w7
theorem tjC_exchange_56 {Φ : ev_P} {d : Nat} (hd : 3 ≤ d) {g : gH} (hg : HR g) {v0 v3 v4 : Int} (hK0 : kd v0 = 6) (h3 : RfR v3) (h4 : RfR v4) (u1 : Option ev_V) (w1 : nwo u1) (u2 : Option ev_V) (w2 : nwo u2) (u5 : Option ev_V) (w5 : nwo u5) (u6 : Option ev_V) (w6 : nwo u6) (u7 : Option ev_V) (w7 : nwo u7) : Go Φ pr_P fT 1 (jC_exchange_56 g v0 v3 v4 ) d pr_m44 56 [some (sR v0), u1, u2, some (sR v3), some (sR v4), u5, u6, u7] [] g 2 12 := by
  unfold jC_exchange_56
  refine go_int kk44_0.2.2.1.1.1.1 0 rfl ?_
  exact tjC_exchange_57 hd hg hK0 h3 h4 (Or.inl rfl) u1 w1 u2 w2 u5 w5 u6 w6 u7 w7
theorem tfC_exchange {Φ : ev_P} {d : Nat} (hd : 3 ≤ d) {g : gH} (hg : HR g) {v0 v1 v2 : Int} (hK0 : kd v0 = 6) (h1 : InR v1) (h2 : InR v2) : Go Φ pr_P fT 1 (fC_exchange g v0 v1 v2) d (pr_P 44) 0 (ev_loc (pr_P 44).1 [(sR v0), (sI v1), (sI v2)]) [] g 0 0 := by
  show Go Φ pr_P fT 1 (fC_exchange g v0 v1 v2) d pr_m44 0 [some (sR v0), some (sI v1), some (sI v2), none, none, none, none, none] [] g 0 0
  unfold fC_exchange
  refine go_aload kk44_0.1.1.1.1.1.1 rfl ?_
  refine go_iload kk44_0.1.1.1.1.1.2 rfl ?_
  refine go_callQ2 kk44_0.1.1.1.1.2 rfl rfl rfl ⟨by decide, _, rfl, hK0⟩ ⟨by decide, by decide⟩ (by omega) (tfC_named (by omega) hg hK0  h1) (fun y1 r2 => ?_) (fun e5 E6 => ge_prop rfl ⟨by decide, by decide⟩ e5 rfl)
  refine go_astore kk44_0.1.1.1.2.1 rfl (loc2 := [some (sR v0), some (sI v1), some (sI v2), some (sR y1), none, none, none, none]) rfl ?_
  refine go_aload kk44_0.1.1.1.2.2 rfl ?_
  refine go_iload kk44_0.1.1.2.1.1 rfl ?_
  refine go_callQ2 kk44_0.1.1.2.1.2 rfl rfl rfl ⟨by decide, _, rfl, hK0⟩ ⟨by decide, by decide⟩ (by omega) (tfC_named (by omega) hg hK0  h2) (fun y7 r8 => ?_) (fun e11 E12 => ge_prop rfl ⟨by decide, by decide⟩ e11 rfl)
  refine go_astore kk44_0.1.1.2.2.1 rfl (loc2 := [some (sR v0), some (sI v1), some (sI v2), some (sR y1), some (sR y7), none, none, none]) rfl ?_
  refine go_aload kk44_0.1.1.2.2.2 rfl ?_
  refine go_ck (fun q13 => ?_)
  refine go_callP3 kk44_0.1.2.1.1.1.1 rfl rfl rfl ⟨by decide, _, rfl, q13⟩ ⟨by decide, by decide⟩ (by omega) (tfP_isMortal (by omega) hg q13 ) (fun y14 r15 => ?_)
  refine go_ifeq kk44_0.1.2.1.1.1.2 (inR_b r15) (fun c18 => ?_) (fun c19 => ?_)
  · exact tjC_exchange_56 hd hg hK0 r2 r8 (some (sI v1)) rfl (some (sI v2)) rfl none rfl none rfl none rfl
  · refine go_aload kk44_0.1.2.1.1.2 rfl ?_
    refine go_ck (fun q20 => ?_)
    refine go_callP3 kk44_0.1.2.1.2.1 rfl rfl rfl ⟨by decide, _, rfl, q20⟩ ⟨by decide, by decide⟩ (by omega) (tfP_isMortal (by omega) hg q20 ) (fun y21 r22 => ?_)
    refine go_ifeq kk44_0.1.2.1.2.2 (inR_b r22) (fun c25 => ?_) (fun c26 => ?_)
    · exact tjC_exchange_56 hd hg hK0 r2 r8 (some (sI v1)) rfl (some (sI v2)) rfl none rfl none rfl none rfl
    · refine go_aload kk44_0.1.2.2.1.1 rfl ?_
      refine go_aload kk44_0.1.2.2.1.2 rfl ?_
      refine go_acmp kk44_0.1.2.2.2.1 r2 r8 (fun c27 => ?_) (fun c28 => ?_)
      · exact tjC_exchange_56 hd hg hK0 r2 r8 (some (sI v1)) rfl (some (sI v2)) rfl none rfl none rfl none rfl
      · refine go_aload kk44_0.1.2.2.2.2 rfl ?_
        refine go_aload kk44_0.2.1.1.1.1.1 rfl ?_
        refine go_callP3 kk44_0.2.1.1.1.1.2 rfl rfl rfl ⟨by decide, _, rfl, q13⟩ ⟨by decide, by decide⟩ (by omega) (tfP_isOver (by omega) hg q13  r8) (fun y29 r30 => ?_)
        refine go_ifeq kk44_0.2.1.1.1.2 (inR_b r30) (fun c33 => ?_) (fun c34 => ?_)
        · refine go_aload kk44_0.2.1.1.2.1 rfl ?_
          refine go_aload kk44_0.2.1.1.2.2 rfl ?_
          refine go_callP3 kk44_0.2.1.2.1.1 rfl rfl rfl ⟨by decide, _, rfl, q20⟩ ⟨by decide, by decide⟩ (by omega) (tfP_isOver (by omega) hg q20  r2) (fun y35 r36 => ?_)
          refine go_ifeq kk44_0.2.1.2.1.2 (inR_b r36) (fun c39 => ?_) (fun c40 => ?_)
          · refine go_int kk44_0.2.1.2.2.1 1 rfl ?_
            refine go_goto kk44_0.2.1.2.2.2 ?_
            exact tjC_exchange_57 hd hg hK0 r2 r8 (Or.inr rfl) (some (sI v1)) rfl (some (sI v2)) rfl none rfl none rfl none rfl
          · exact tjC_exchange_56 hd hg hK0 r2 r8 (some (sI v1)) rfl (some (sI v2)) rfl none rfl none rfl none rfl
        · exact tjC_exchange_56 hd hg hK0 r2 r8 (some (sI v1)) rfl (some (sI v2)) rfl none rfl none rfl none rfl
theorem tfW_exchange {Φ : ev_P} {d : Nat} (hd : 4 ≤ d) {g : gH} (hg : HR g) {v0 v1 v2 v3 : Int} (h0 : RfR v0) (h1 : InR v1) (h2 : InR v2) (h3 : RfR v3) : Go Φ pr_P fN 1 (fW_exchange g v0 v1 v2 v3) d (pr_P 336) 0 (ev_loc (pr_P 336).1 [(sR v0), (sI v1), (sI v2), (sR v3)]) [] g 0 0 := by
  show Go Φ pr_P fN 1 (fW_exchange g v0 v1 v2 v3) d pr_m336 0 [some (sR v0), some (sI v1), some (sI v2), some (sR v3), none] [] g 0 0
  unfold fW_exchange
  refine go_aload kk336_0.1.1.1.1.1 rfl ?_
  refine go_int kk336_0.1.1.1.1.2 0 rfl ?_
  refine go_aload kk336_0.1.1.1.2 rfl ?_
  refine go_iload kk336_0.1.1.2.1 rfl ?_
  refine go_iload kk336_0.1.1.2.2 rfl ?_
  refine go_ck (fun q1 => ?_)
  refine go_callT1 kk336_0.1.2.1.1 rfl rfl rfl ⟨by decide, _, rfl, q1⟩ ⟨by decide, by decide⟩ (by omega) (tfC_exchange (by omega) hg q1  h1 h2) (fun y2 g4 r3 e5 => ?_) (fun E7 g4 e6 => ?_)
  · refine go_i2l kk336_0.1.2.1.2 r3 ?_
    refine go_ck (fun q8 => ?_)
    refine go_last kk336_0.1.2.2.1 e5 q8 (inL_R r3) (fun g9 e10 => ?_)
    refine go_goto kk336_0.1.2.2.2 ?_
    refine go_int kk336_0.2.2.2.1 0 rfl ?_
    exact go_iret kk336_0.2.2.2.2 e10 (inR_b (Or.inl rfl)) ⟨by decide, by decide⟩ rfl
  · refine ge_ite (fun hE9 => ?_) (fun _ => ?_)
    · subst hE9
      refine ge_catch rfl kk336_0.2.1.1.1 rfl (loc2 := [some (sR v0), some (sI v1), some (sI v2), some (sR v3), none]) rfl ?_
      refine go_int kk336_0.2.1.1.2 1 rfl ?_
      exact go_iret kk336_0.2.1.2.1 e6 (inR_b (Or.inr rfl)) ⟨by decide, by decide⟩ rfl
    refine ge_ite (fun hE9 => ?_) (fun _ => ?_)
    · subst hE9
      refine ge_catch rfl kk336_0.2.1.2.2 rfl (loc2 := [some (sR v0), some (sI v1), some (sI v2), some (sR v3), none]) rfl ?_
      refine go_int kk336_0.2.2.1.1 2 rfl ?_
      exact go_iret kk336_0.2.2.1.2 e6 (inR_of (by decide)) ⟨by decide, by decide⟩ rfl
    exact ge_none
theorem tfC_readAll {Φ : ev_P} {d : Nat} (hd : 3 ≤ d) {g : gH} (hg : HR g) {v0 v1 : Int} (hK0 : kd v0 = 6) (h1 : InR v1) : Go Φ pr_P fT 1 (fC_readAll g v0 v1) d (pr_P 45) 0 (ev_loc (pr_P 45).1 [(sR v0), (sI v1)]) [] g 0 0 := by
  show Go Φ pr_P fT 1 (fC_readAll g v0 v1) d pr_m45 0 [some (sR v0), some (sI v1), none] [] g 0 0
  unfold fC_readAll
  refine go_aload kk45_0.1.1.1.1.1 rfl ?_
  refine go_iload kk45_0.1.1.1.1.2 rfl ?_
  refine go_callQ2 kk45_0.1.1.1.2 rfl rfl rfl ⟨by decide, _, rfl, hK0⟩ ⟨by decide, by decide⟩ (by omega) (tfC_named (by omega) hg hK0  h1) (fun y1 r2 => ?_) (fun e5 E6 => ge_prop rfl ⟨by decide, by decide⟩ e5 rfl)
  refine go_astore kk45_0.1.1.2.1 rfl (loc2 := [some (sR v0), some (sI v1), some (sR y1)]) rfl ?_
  refine go_aload kk45_0.1.1.2.2 rfl ?_
  refine go_ck (fun q7 => ?_)
  refine go_callP3 kk45_0.1.2.1.1 rfl rfl rfl ⟨by decide, _, rfl, q7⟩ ⟨by decide, by decide⟩ (by omega) (tfP_isRunning (by omega) hg q7 ) (fun y8 r9 => ?_)
  refine go_callQ0 kk45_0.1.2.1.2 rfl rfl rfl trivial ⟨by decide, by decide⟩ (by omega) (tfC_checkState (by omega) hg  r9) (fun y12 => ?_) (fun e16 E17 => ge_prop rfl ⟨by decide, by decide⟩ e16 rfl)
  refine go_aload kk45_0.1.2.2.1 rfl ?_
  refine go_getR (bI := 3) kk45_0.1.2.2.2 hg hK0 (by decide) rfl rfl (fun r18 => ?_)
  refine go_aload kk45_0.2.1.1.1 rfl ?_
  refine go_getR (bI := 0) kk45_0.2.1.1.2 hg hK0 (by decide) rfl rfl (fun r19 => ?_)
  refine go_ck (fun q20 => ?_)
  refine go_callN0 kk45_0.2.1.2.1 rfl rfl rfl ⟨by decide, _, rfl, q20⟩ ⟨by decide, by decide⟩ (by omega) (tfH_push (by omega) hg q20  r19) (fun y21 g23 e24 => ?_)
  refine go_aload kk45_0.2.1.2.2 rfl ?_
  refine go_getR (bI := 0) kk45_0.2.2.1.1 e24 hK0 (by decide) rfl rfl (fun r25 => ?_)
  refine go_aload kk45_0.2.2.1.2 rfl ?_
  refine go_ck (fun q26 => ?_)
  refine go_callN1 kk45_0.2.2.2.1 rfl rfl rfl ⟨by decide, _, rfl, q26⟩ ⟨by decide, by decide⟩ (by omega) (tfT_readZombiesOf (by omega) e24 q26  r2) (fun y27 g29 r28 e30 => ?_)
  exact go_iret kk45_0.2.2.2.2 e30 r28 ⟨by decide, by decide⟩ rfl
theorem tfW_readAll {Φ : ev_P} {d : Nat} (hd : 4 ≤ d) {g : gH} (hg : HR g) {v0 v1 v2 : Int} (h0 : RfR v0) (h1 : InR v1) (h2 : RfR v2) : Go Φ pr_P fN 1 (fW_readAll g v0 v1 v2) d (pr_P 337) 0 (ev_loc (pr_P 337).1 [(sR v0), (sI v1), (sR v2)]) [] g 0 0 := by
  show Go Φ pr_P fN 1 (fW_readAll g v0 v1 v2) d pr_m337 0 [some (sR v0), some (sI v1), some (sR v2), none] [] g 0 0
  unfold fW_readAll
  refine go_aload kk337_0.1.1.1.1 rfl ?_
  refine go_int kk337_0.1.1.1.2 0 rfl ?_
  refine go_aload kk337_0.1.1.2.1 rfl ?_
  refine go_iload kk337_0.1.1.2.2 rfl ?_
  refine go_ck (fun q1 => ?_)
  refine go_callT1 kk337_0.1.2.1.1 rfl rfl rfl ⟨by decide, _, rfl, q1⟩ ⟨by decide, by decide⟩ (by omega) (tfC_readAll (by omega) hg q1  h1) (fun y2 g4 r3 e5 => ?_) (fun E7 g4 e6 => ?_)
  · refine go_i2l kk337_0.1.2.1.2 r3 ?_
    refine go_ck (fun q8 => ?_)
    refine go_last kk337_0.1.2.2.1 e5 q8 (inL_R r3) (fun g9 e10 => ?_)
    refine go_goto kk337_0.1.2.2.2 ?_
    refine go_int kk337_0.2.2.2.1 0 rfl ?_
    exact go_iret kk337_0.2.2.2.2 e10 (inR_b (Or.inl rfl)) ⟨by decide, by decide⟩ rfl
  · refine ge_ite (fun hE9 => ?_) (fun _ => ?_)
    · subst hE9
      refine ge_catch rfl kk337_0.2.1.1.1 rfl (loc2 := [some (sR v0), some (sI v1), some (sR v2), none]) rfl ?_
      refine go_int kk337_0.2.1.1.2 1 rfl ?_
      exact go_iret kk337_0.2.1.2.1 e6 (inR_b (Or.inr rfl)) ⟨by decide, by decide⟩ rfl
    refine ge_ite (fun hE9 => ?_) (fun _ => ?_)
    · subst hE9
      refine ge_catch rfl kk337_0.2.1.2.2 rfl (loc2 := [some (sR v0), some (sI v1), some (sR v2), none]) rfl ?_
      refine go_int kk337_0.2.2.1.1 2 rfl ?_
      exact go_iret kk337_0.2.2.1.2 e6 (inR_of (by decide)) ⟨by decide, by decide⟩ rfl
    exact ge_none
theorem tfC_testamentsBelow {Φ : ev_P} {d : Nat} (hd : 2 ≤ d) {g : gH} (hg : HR g) {v0 v1 : Int} (hK0 : kd v0 = 6) (h1 : InR v1) : Go Φ pr_P (fQ g) 1 (fC_testamentsBelow g v0 v1) d (pr_P 46) 0 (ev_loc (pr_P 46).1 [(sR v0), (sI v1)]) [] g 0 0 := by
  show Go Φ pr_P (fQ g) 1 (fC_testamentsBelow g v0 v1) d pr_m46 0 [some (sR v0), some (sI v1)] [] g 0 0
  unfold fC_testamentsBelow
  refine go_aload kk46_0.1.1.1 rfl ?_
  refine go_getR (bI := 0) kk46_0.1.1.2 hg hK0 (by decide) rfl rfl (fun r1 => ?_)
  refine go_aload kk46_0.1.2.1 rfl ?_
  refine go_iload kk46_0.1.2.2 rfl ?_
  refine go_callQ2 kk46_0.2.1.1 rfl rfl rfl ⟨by decide, _, rfl, hK0⟩ ⟨by decide, by decide⟩ (by omega) (tfC_named (by omega) hg hK0  h1) (fun y2 r3 => ?_) (fun e6 E7 => ge_prop rfl ⟨by decide, by decide⟩ e6 rfl)
  refine go_int kk46_0.2.1.2 1 rfl ?_
  refine go_ck (fun q8 => ?_)
  refine go_callP1 kk46_0.2.2.1 rfl rfl rfl ⟨by decide, _, rfl, q8⟩ ⟨by decide, by decide⟩ (by omega) (tfT_countBelow (by omega) hg q8  r3 (inR_b (Or.inr rfl))) (fun y9 r10 => ?_)
  exact go_iret kk46_0.2.2.2 hg r10 ⟨by decide, by decide⟩ rfl
theorem tfW_testamentsBelow {Φ : ev_P} {d : Nat} (hd : 3 ≤ d) {g : gH} (hg : HR g) {v0 v1 v2 : Int} (h0 : RfR v0) (h1 : InR v1) (h2 : RfR v2) : Go Φ pr_P fN 1 (fW_testamentsBelow g v0 v1 v2) d (pr_P 338) 0 (ev_loc (pr_P 338).1 [(sR v0), (sI v1), (sR v2)]) [] g 0 0 := by
  show Go Φ pr_P fN 1 (fW_testamentsBelow g v0 v1 v2) d pr_m338 0 [some (sR v0), some (sI v1), some (sR v2), none] [] g 0 0
  unfold fW_testamentsBelow
  refine go_aload kk338_0.1.1.1.1 rfl ?_
  refine go_int kk338_0.1.1.1.2 0 rfl ?_
  refine go_aload kk338_0.1.1.2.1 rfl ?_
  refine go_iload kk338_0.1.1.2.2 rfl ?_
  refine go_ck (fun q1 => ?_)
  refine go_callQ1 kk338_0.1.2.1.1 rfl rfl rfl ⟨by decide, _, rfl, q1⟩ ⟨by decide, by decide⟩ (by omega) (tfC_testamentsBelow (by omega) hg q1  h1) (fun y2 r3 => ?_) (fun e6 E7 => ?_)
  · refine go_i2l kk338_0.1.2.1.2 r3 ?_
    refine go_ck (fun q8 => ?_)
    refine go_last kk338_0.1.2.2 hg q8 (inL_R r3) (fun g9 e10 => ?_)
    refine go_goto kk338_0.2.1.1.1 ?_
    refine go_int kk338_0.2.2.1.2 0 rfl ?_
    exact go_iret kk338_0.2.2.2 e10 (inR_b (Or.inl rfl)) ⟨by decide, by decide⟩ rfl
  · refine ge_ite (fun hE9 => ?_) (fun _ => ?_)
    · subst hE9
      refine ge_catch rfl kk338_0.2.1.1.2 rfl (loc2 := [some (sR v0), some (sI v1), some (sR v2), none]) rfl ?_
      refine go_int kk338_0.2.1.2 1 rfl ?_
      exact go_iret kk338_0.2.2.1.1 e6 (inR_b (Or.inr rfl)) ⟨by decide, by decide⟩ rfl
    exact ge_none
theorem tbC_roomBelow_25 {Φ : ev_P} {d : Nat} (hd : 2 ≤ d) {g : gH} (hg : HR g) {v2 v4 v5 : Int} (h2 : RfR v2) (h4 : RfR v4) (h5 : InR v5) {X25 : Int → Int → Option (Nat × Int)} (HX25 : ∀ (v3 : Int) (h3 : InR v3) (v6 : Int) (h6 : InR v6) (u0 : Option ev_V) (w0 : nwo u0) (u1 : Option ev_V) (w1 : nwo u1) (u7 : Option ev_V) (w7 : nwo u7), Go Φ pr_P (fQ g) 1 (X25 v3 v6) d pr_m47 25 [u0, u1, some (sR v2), some (sI v3), some (sR v4), some (sI v5), some (sI v6), u7] [] g 1 6) : ∀ (v3 : Int) (h3 : InR v3) (v6 : Int) (h6 : InR v6) (u0 : Option ev_V) (w0 : nwo u0) (u1 : Option ev_V) (w1 : nwo u1) (u7 : Option ev_V) (w7 : nwo u7), Go Φ pr_P (fQ g) 1 (bC_roomBelow_25 g v2 v4 v5 X25 v3 v6) d pr_m47 25 [u0, u1, some (sR v2), some (sI v3), some (sR v4), some (sI v5), some (sI v6), u7] [] g 1 6 := by
  intro v3 h3 v6 h6 u0 w0 u1 w1 u7 w7
  unfold bC_roomBelow_25
  refine go_iload kk47_0.1.2.2.1.1 rfl ?_
  refine go_iload kk47_0.1.2.2.1.2 rfl ?_
  refine go_cmlt kk47_0.1.2.2.2.1 h6 h5 (fun c12 => ?_) (fun c13 => ?_)
  · refine go_aload kk47_0.1.2.2.2.2 rfl ?_
    refine go_iload kk47_0.2.1.1.1.1.1 rfl ?_
    refine go_ck (fun q15 => ?_)
    refine go_pald kk47_0.2.1.1.1.1.2 hg q15 (fun r14 => ?_)
    refine go_astore kk47_0.2.1.1.1.2 rfl (loc2 := [u0, u1, some (sR v2), some (sI v3), some (sR v4), some (sI v5), some (sI v6), some (sR (g v4 v6))]) rfl ?_
    refine go_aload kk47_0.2.1.1.2.1 rfl ?_
    refine go_ck (fun q16 => ?_)
    refine go_callP3 kk47_0.2.1.1.2.2 rfl rfl rfl ⟨by decide, _, rfl, q16⟩ ⟨by decide, by decide⟩ (by omega) (tfP_isRunning (by omega) hg q16 ) (fun y17 r18 => ?_)
    refine go_ifeq kk47_0.2.1.2.1.1.1 (inR_b r18) (fun c21 => ?_) (fun c22 => ?_)
    · refine go_iinc kk47_0.2.2.2.1.1 rfl rfl 1 rfl (loc2 := [u0, u1, some (sR v2), some (sI v3), some (sR v4), some (sI v5), some (sI (w32 (v6 + 1))), some (sR (g v4 v6))]) rfl ?_
      refine go_goto kk47_0.2.2.2.1.2 ?_
      exact HX25 v3 h3 (w32 (v6 + 1)) (inR_w32 _) u0 w0 u1 w1 (some (sR (g v4 v6))) rfl
    · refine go_aload kk47_0.2.1.2.1.1.2 rfl ?_
      refine go_aload kk47_0.2.1.2.1.2 rfl ?_
      refine go_ck (fun q23 => ?_)
      refine go_callP3 kk47_0.2.1.2.2.1 rfl rfl rfl ⟨by decide, _, rfl, q23⟩ ⟨by decide, by decide⟩ (by omega) (tfP_isOver (by omega) hg q23  r14) (fun y24 r25 => ?_)
      refine go_ifeq kk47_0.2.1.2.2.2 (inR_b r25) (fun c28 => ?_) (fun c29 => ?_)
      · refine go_iinc kk47_0.2.2.2.1.1 rfl rfl 1 rfl (loc2 := [u0, u1, some (sR v2), some (sI v3), some (sR v4), some (sI v5), some (sI (w32 (v6 + 1))), some (sR (g v4 v6))]) rfl ?_
        refine go_goto kk47_0.2.2.2.1.2 ?_
        exact HX25 v3 h3 (w32 (v6 + 1)) (inR_w32 _) u0 w0 u1 w1 (some (sR (g v4 v6))) rfl
      · refine go_iload kk47_0.2.2.1.1.1.1 rfl ?_
        refine go_aload kk47_0.2.2.1.1.1.2 rfl ?_
        refine go_callP1 kk47_0.2.2.1.1.2 rfl rfl rfl ⟨by decide, _, rfl, q16⟩ ⟨by decide, by decide⟩ (by omega) (tfP_room (by omega) hg q16 ) (fun y30 r31 => ?_)
        refine go_iadd kk47_0.2.2.1.2.1 ?_
        refine go_istore kk47_0.2.2.1.2.2 rfl (loc2 := [u0, u1, some (sR v2), some (sI (w32 (v3 + y30))), some (sR v4), some (sI v5), some (sI v6), some (sR (g v4 v6))]) rfl ?_
        refine go_iinc kk47_0.2.2.2.1.1 rfl rfl 1 rfl (loc2 := [u0, u1, some (sR v2), some (sI (w32 (v3 + y30))), some (sR v4), some (sI v5), some (sI (w32 (v6 + 1))), some (sR (g v4 v6))]) rfl ?_
        refine go_goto kk47_0.2.2.2.1.2 ?_
        exact HX25 (w32 (v3 + y30)) (inR_w32 _) (w32 (v6 + 1)) (inR_w32 _) u0 w0 u1 w1 (some (sR (g v4 v6))) rfl
  · refine go_iload kk47_0.2.2.2.2.1 rfl ?_
    exact go_iret kk47_0.2.2.2.2.2 hg h3 ⟨by decide, by decide⟩ rfl
theorem tlC_roomBelow_25 {Φ : ev_P} {d : Nat} (hd : 2 ≤ d) {g : gH} (hg : HR g) {v2 v4 v5 : Int} (h2 : RfR v2) (h4 : RfR v4) (h5 : InR v5) : ∀ n : Nat, ∀ (v3 : Int) (h3 : InR v3) (v6 : Int) (h6 : InR v6) (u0 : Option ev_V) (w0 : nwo u0) (u1 : Option ev_V) (w1 : nwo u1) (u7 : Option ev_V) (w7 : nwo u7), Go Φ pr_P (fQ g) 1 (lC_roomBelow_25 g v2 v4 v5 n v3 v6) d pr_m47 25 [u0, u1, some (sR v2), some (sI v3), some (sR v4), some (sI v5), some (sI v6), u7] [] g 1 6 := by
  intro n
  induction n with
  | zero => intros; exact go_none
  | succ n ih => exact tbC_roomBelow_25 hd hg h2 h4 h5 ih
theorem tfC_roomBelow {Φ : ev_P} {d : Nat} (hd : 2 ≤ d) {g : gH} (hg : HR g) {v0 v1 : Int} (hK0 : kd v0 = 6) (h1 : InR v1) : Go Φ pr_P (fQ g) 1 (fC_roomBelow g v0 v1) d (pr_P 47) 0 (ev_loc (pr_P 47).1 [(sR v0), (sI v1)]) [] g 0 0 := by
  show Go Φ pr_P (fQ g) 1 (fC_roomBelow g v0 v1) d pr_m47 0 [some (sR v0), some (sI v1), none, none, none, none, none, none] [] g 0 0
  unfold fC_roomBelow
  refine go_aload kk47_0.1.1.1.1.1.1 rfl ?_
  refine go_iload kk47_0.1.1.1.1.1.2 rfl ?_
  refine go_callQ2 kk47_0.1.1.1.1.2 rfl rfl rfl ⟨by decide, _, rfl, hK0⟩ ⟨by decide, by decide⟩ (by omega) (tfC_named (by omega) hg hK0  h1) (fun y1 r2 => ?_) (fun e5 E6 => ge_prop rfl ⟨by decide, by decide⟩ e5 rfl)
  refine go_astore kk47_0.1.1.1.2.1 rfl (loc2 := [some (sR v0), some (sI v1), some (sR y1), none, none, none, none, none]) rfl ?_
  refine go_int kk47_0.1.1.1.2.2 0 rfl ?_
  refine go_istore kk47_0.1.1.2.1.1.1 rfl (loc2 := [some (sR v0), some (sI v1), some (sR y1), some (sI 0), none, none, none, none]) rfl ?_
  refine go_aload kk47_0.1.1.2.1.1.2 rfl ?_
  refine go_getR (bI := 0) kk47_0.1.1.2.1.2 hg hK0 (by decide) rfl rfl (fun r7 => ?_)
  refine go_ck (fun q8 => ?_)
  refine go_getR (bI := 1) kk47_0.1.1.2.2.1 hg q8 (by decide) rfl rfl (fun r9 => ?_)
  refine go_astore kk47_0.1.1.2.2.2 rfl (loc2 := [some (sR v0), some (sI v1), some (sR y1), some (sI 0), some (sR (g (g v0 0) 1)), none, none, none]) rfl ?_
  refine go_aload kk47_0.1.2.1.1.1.1 rfl ?_
  refine go_ck (fun q11 => ?_)
  refine go_alen kk47_0.1.2.1.1.1.2 (ka_24 q11) (fun r10 => ?_)
  refine go_istore kk47_0.1.2.1.1.2 rfl (loc2 := [some (sR v0), some (sI v1), some (sR y1), some (sI 0), some (sR (g (g v0 0) 1)), some (sI (sz (g (g v0 0) 1))), none, none]) rfl ?_
  refine go_int kk47_0.1.2.1.2.1 0 rfl ?_
  refine go_istore kk47_0.1.2.1.2.2 rfl (loc2 := [some (sR v0), some (sI v1), some (sR y1), some (sI 0), some (sR (g (g v0 0) 1)), some (sI (sz (g (g v0 0) 1))), some (sI 0), none]) rfl ?_
  exact tlC_roomBelow_25 hd hg r2 r9 r10 fu 0 (inR_b (Or.inl rfl)) 0 (inR_b (Or.inl rfl)) (some (sR v0)) rfl (some (sI v1)) rfl none rfl
theorem tfW_roomBelow {Φ : ev_P} {d : Nat} (hd : 3 ≤ d) {g : gH} (hg : HR g) {v0 v1 v2 : Int} (h0 : RfR v0) (h1 : InR v1) (h2 : RfR v2) : Go Φ pr_P fN 1 (fW_roomBelow g v0 v1 v2) d (pr_P 339) 0 (ev_loc (pr_P 339).1 [(sR v0), (sI v1), (sR v2)]) [] g 0 0 := by
  show Go Φ pr_P fN 1 (fW_roomBelow g v0 v1 v2) d pr_m339 0 [some (sR v0), some (sI v1), some (sR v2), none] [] g 0 0
  unfold fW_roomBelow
  refine go_aload kk339_0.1.1.1.1 rfl ?_
  refine go_int kk339_0.1.1.1.2 0 rfl ?_
  refine go_aload kk339_0.1.1.2.1 rfl ?_
  refine go_iload kk339_0.1.1.2.2 rfl ?_
  refine go_ck (fun q1 => ?_)
  refine go_callQ1 kk339_0.1.2.1.1 rfl rfl rfl ⟨by decide, _, rfl, q1⟩ ⟨by decide, by decide⟩ (by omega) (tfC_roomBelow (by omega) hg q1  h1) (fun y2 r3 => ?_) (fun e6 E7 => ?_)
  · refine go_i2l kk339_0.1.2.1.2 r3 ?_
    refine go_ck (fun q8 => ?_)
    refine go_last kk339_0.1.2.2 hg q8 (inL_R r3) (fun g9 e10 => ?_)
    refine go_goto kk339_0.2.1.1.1 ?_
    refine go_int kk339_0.2.2.1.2 0 rfl ?_
    exact go_iret kk339_0.2.2.2 e10 (inR_b (Or.inl rfl)) ⟨by decide, by decide⟩ rfl
  · refine ge_ite (fun hE9 => ?_) (fun _ => ?_)
    · subst hE9
      refine ge_catch rfl kk339_0.2.1.1.2 rfl (loc2 := [some (sR v0), some (sI v1), some (sR v2), none]) rfl ?_
      refine go_int kk339_0.2.1.2 1 rfl ?_
      exact go_iret kk339_0.2.2.1.1 e6 (inR_b (Or.inr rfl)) ⟨by decide, by decide⟩ rfl
    exact ge_none
theorem tbC_adopters_32 {Φ : ev_P} {d : Nat} (hd : 2 ≤ d) {g : gH} (hg : HR g) {v0 v2 v4 v5 : Int} (hK0 : kd v0 = 6) (h2 : RfR v2) (h4 : RfR v4) (h5 : InR v5) {X32 : Int → Int → Option (Nat × Int)} (HX32 : ∀ (v3 : Int) (h3 : InR v3) (v6 : Int) (h6 : InR v6) (u1 : Option ev_V) (w1 : nwo u1) (u7 : Option ev_V) (w7 : nwo u7), Go Φ pr_P (fQ g) 1 (X32 v3 v6) d pr_m49 32 [some (sR v0), u1, some (sR v2), some (sI v3), some (sR v4), some (sI v5), some (sI v6), u7] [] g 2 12) : ∀ (v3 : Int) (h3 : InR v3) (v6 : Int) (h6 : InR v6) (u1 : Option ev_V) (w1 : nwo u1) (u7 : Option ev_V) (w7 : nwo u7), Go Φ pr_P (fQ g) 1 (bC_adopters_32 g v0 v2 v4 v5 X32 v3 v6) d pr_m49 32 [some (sR v0), u1, some (sR v2), some (sI v3), some (sR v4), some (sI v5), some (sI v6), u7] [] g 2 12 := by
  intro v3 h3 v6 h6 u1 w1 u7 w7
  unfold bC_adopters_32
  refine go_iload kk49_0.2.1.1.1.1.1 rfl ?_
  refine go_iload kk49_0.2.1.1.1.1.2 rfl ?_
  refine go_cmlt kk49_0.2.1.1.1.2 h6 h5 (fun c23 => ?_) (fun c24 => ?_)
  · refine go_aload kk49_0.2.1.1.2.1 rfl ?_
    refine go_iload kk49_0.2.1.1.2.2 rfl ?_
    refine go_ck (fun q26 => ?_)
    refine go_pald kk49_0.2.1.2.1.1 hg q26 (fun r25 => ?_)
    refine go_astore kk49_0.2.1.2.1.2 rfl (loc2 := [some (sR v0), u1, some (sR v2), some (sI v3), some (sR v4), some (sI v5), some (sI v6), some (sR (g v4 v6))]) rfl ?_
    refine go_aload kk49_0.2.1.2.2.1 rfl ?_
    refine go_getR (bI := 0) kk49_0.2.1.2.2.2 hg hK0 (by decide) rfl rfl (fun r27 => ?_)
    refine go_aload kk49_0.2.2.1.1.1.1 rfl ?_
    refine go_aload kk49_0.2.2.1.1.1.2 rfl ?_
    refine go_ck (fun q28 => ?_)
    refine go_callP3 kk49_0.2.2.1.1.2 rfl rfl rfl ⟨by decide, _, rfl, q28⟩ ⟨by decide, by decide⟩ (by omega) (tfT_canAdopt (by omega) hg q28  r25 h2) (fun y29 r30 => ?_)
    refine go_ifeq kk49_0.2.2.1.2.1 (inR_b r30) (fun c33 => ?_) (fun c34 => ?_)
    · refine go_iinc kk49_0.2.2.2.1.1 rfl rfl 1 rfl (loc2 := [some (sR v0), u1, some (sR v2), some (sI v3), some (sR v4), some (sI v5), some (sI (w32 (v6 + 1))), some (sR (g v4 v6))]) rfl ?_
      refine go_goto kk49_0.2.2.2.1.2 ?_
      exact HX32 v3 h3 (w32 (v6 + 1)) (inR_w32 _) u1 w1 (some (sR (g v4 v6))) rfl
    · refine go_iinc kk49_0.2.2.1.2.2 rfl rfl 1 rfl (loc2 := [some (sR v0), u1, some (sR v2), some (sI (w32 (v3 + 1))), some (sR v4), some (sI v5), some (sI v6), some (sR (g v4 v6))]) rfl ?_
      refine go_iinc kk49_0.2.2.2.1.1 rfl rfl 1 rfl (loc2 := [some (sR v0), u1, some (sR v2), some (sI (w32 (v3 + 1))), some (sR v4), some (sI v5), some (sI (w32 (v6 + 1))), some (sR (g v4 v6))]) rfl ?_
      refine go_goto kk49_0.2.2.2.1.2 ?_
      exact HX32 (w32 (v3 + 1)) (inR_w32 _) (w32 (v6 + 1)) (inR_w32 _) u1 w1 (some (sR (g v4 v6))) rfl
  · refine go_iload kk49_0.2.2.2.2.1 rfl ?_
    exact go_iret kk49_0.2.2.2.2.2 hg h3 ⟨by decide, by decide⟩ rfl
theorem tlC_adopters_32 {Φ : ev_P} {d : Nat} (hd : 2 ≤ d) {g : gH} (hg : HR g) {v0 v2 v4 v5 : Int} (hK0 : kd v0 = 6) (h2 : RfR v2) (h4 : RfR v4) (h5 : InR v5) : ∀ n : Nat, ∀ (v3 : Int) (h3 : InR v3) (v6 : Int) (h6 : InR v6) (u1 : Option ev_V) (w1 : nwo u1) (u7 : Option ev_V) (w7 : nwo u7), Go Φ pr_P (fQ g) 1 (lC_adopters_32 g v0 v2 v4 v5 n v3 v6) d pr_m49 32 [some (sR v0), u1, some (sR v2), some (sI v3), some (sR v4), some (sI v5), some (sI v6), u7] [] g 2 12 := by
  intro n
  induction n with
  | zero => intros; exact go_none
  | succ n ih => exact tbC_adopters_32 hd hg hK0 h2 h4 h5 ih
theorem tfC_adopters {Φ : ev_P} {d : Nat} (hd : 2 ≤ d) {g : gH} (hg : HR g) {v0 v1 : Int} (hK0 : kd v0 = 6) (h1 : InR v1) : Go Φ pr_P (fQ g) 1 (fC_adopters g v0 v1) d (pr_P 49) 0 (ev_loc (pr_P 49).1 [(sR v0), (sI v1)]) [] g 0 0 := by
  show Go Φ pr_P (fQ g) 1 (fC_adopters g v0 v1) d pr_m49 0 [some (sR v0), some (sI v1), none, none, none, none, none, none] [] g 0 0
  unfold fC_adopters
  refine go_aload kk49_0.1.1.1.1.1.1 rfl ?_
  refine go_iload kk49_0.1.1.1.1.1.2 rfl ?_
  refine go_callQ2 kk49_0.1.1.1.1.2 rfl rfl rfl ⟨by decide, _, rfl, hK0⟩ ⟨by decide, by decide⟩ (by omega) (tfC_named (by omega) hg hK0  h1) (fun y1 r2 => ?_) (fun e5 E6 => ge_prop rfl ⟨by decide, by decide⟩ e5 rfl)
  refine go_astore kk49_0.1.1.1.2.1 rfl (loc2 := [some (sR v0), some (sI v1), some (sR y1), none, none, none, none, none]) rfl ?_
  refine go_aload kk49_0.1.1.1.2.2 rfl ?_
  refine go_ck (fun q7 => ?_)
  refine go_callP3 kk49_0.1.1.2.1.1 rfl rfl rfl ⟨by decide, _, rfl, q7⟩ ⟨by decide, by decide⟩ (by omega) (tfP_isMortal (by omega) hg q7 ) (fun y8 r9 => ?_)
  refine go_callQ0 kk49_0.1.1.2.1.2 rfl rfl rfl trivial ⟨by decide, by decide⟩ (by omega) (tfC_checkState (by omega) hg  r9) (fun y12 => ?_) (fun e16 E17 => ge_prop rfl ⟨by decide, by decide⟩ e16 rfl)
  refine go_int kk49_0.1.1.2.2.1 0 rfl ?_
  refine go_istore kk49_0.1.1.2.2.2 rfl (loc2 := [some (sR v0), some (sI v1), some (sR y1), some (sI 0), none, none, none, none]) rfl ?_
  refine go_aload kk49_0.1.2.1.1.1.1 rfl ?_
  refine go_getR (bI := 0) kk49_0.1.2.1.1.1.2 hg hK0 (by decide) rfl rfl (fun r18 => ?_)
  refine go_ck (fun q19 => ?_)
  refine go_getR (bI := 1) kk49_0.1.2.1.1.2 hg q19 (by decide) rfl rfl (fun r20 => ?_)
  refine go_astore kk49_0.1.2.1.2.1 rfl (loc2 := [some (sR v0), some (sI v1), some (sR y1), some (sI 0), some (sR (g (g v0 0) 1)), none, none, none]) rfl ?_
  refine go_aload kk49_0.1.2.1.2.2 rfl ?_
  refine go_ck (fun q22 => ?_)
  refine go_alen kk49_0.1.2.2.1.1 (ka_24 q22) (fun r21 => ?_)
  refine go_istore kk49_0.1.2.2.1.2 rfl (loc2 := [some (sR v0), some (sI v1), some (sR y1), some (sI 0), some (sR (g (g v0 0) 1)), some (sI (sz (g (g v0 0) 1))), none, none]) rfl ?_
  refine go_int kk49_0.1.2.2.2.1 0 rfl ?_
  refine go_istore kk49_0.1.2.2.2.2 rfl (loc2 := [some (sR v0), some (sI v1), some (sR y1), some (sI 0), some (sR (g (g v0 0) 1)), some (sI (sz (g (g v0 0) 1))), some (sI 0), none]) rfl ?_
  exact tlC_adopters_32 hd hg hK0 r2 r20 r21 fu 0 (inR_b (Or.inl rfl)) 0 (inR_b (Or.inl rfl)) (some (sI v1)) rfl none rfl
theorem tfW_adopters {Φ : ev_P} {d : Nat} (hd : 3 ≤ d) {g : gH} (hg : HR g) {v0 v1 v2 : Int} (h0 : RfR v0) (h1 : InR v1) (h2 : RfR v2) : Go Φ pr_P fN 1 (fW_adopters g v0 v1 v2) d (pr_P 340) 0 (ev_loc (pr_P 340).1 [(sR v0), (sI v1), (sR v2)]) [] g 0 0 := by
  show Go Φ pr_P fN 1 (fW_adopters g v0 v1 v2) d pr_m340 0 [some (sR v0), some (sI v1), some (sR v2), none] [] g 0 0
  unfold fW_adopters
  refine go_aload kk340_0.1.1.1.1 rfl ?_
  refine go_int kk340_0.1.1.1.2 0 rfl ?_
  refine go_aload kk340_0.1.1.2.1 rfl ?_
  refine go_iload kk340_0.1.1.2.2 rfl ?_
  refine go_ck (fun q1 => ?_)
  refine go_callQ1 kk340_0.1.2.1.1 rfl rfl rfl ⟨by decide, _, rfl, q1⟩ ⟨by decide, by decide⟩ (by omega) (tfC_adopters (by omega) hg q1  h1) (fun y2 r3 => ?_) (fun e6 E7 => ?_)
  · refine go_i2l kk340_0.1.2.1.2 r3 ?_
    refine go_ck (fun q8 => ?_)
    refine go_last kk340_0.1.2.2.1 hg q8 (inL_R r3) (fun g9 e10 => ?_)
    refine go_goto kk340_0.1.2.2.2 ?_
    refine go_int kk340_0.2.2.2.1 0 rfl ?_
    exact go_iret kk340_0.2.2.2.2 e10 (inR_b (Or.inl rfl)) ⟨by decide, by decide⟩ rfl
  · refine ge_ite (fun hE9 => ?_) (fun _ => ?_)
    · subst hE9
      refine ge_catch rfl kk340_0.2.1.1.1 rfl (loc2 := [some (sR v0), some (sI v1), some (sR v2), none]) rfl ?_
      refine go_int kk340_0.2.1.1.2 1 rfl ?_
      exact go_iret kk340_0.2.1.2.1 e6 (inR_b (Or.inr rfl)) ⟨by decide, by decide⟩ rfl
    refine ge_ite (fun hE9 => ?_) (fun _ => ?_)
    · subst hE9
      refine ge_catch rfl kk340_0.2.1.2.2 rfl (loc2 := [some (sR v0), some (sI v1), some (sR v2), none]) rfl ?_
      refine go_int kk340_0.2.2.1.1 2 rfl ?_
      exact go_iret kk340_0.2.2.1.2 e6 (inR_of (by decide)) ⟨by decide, by decide⟩ rfl
    exact ge_none
theorem tfC_betterCode {Φ : ev_P} {d : Nat} (hd : 6 ≤ d) {g : gH} (hg : HR g) {v0 v1 : Int} (hK0 : kd v0 = 6) (h1 : InR v1) : Go Φ pr_P fT 1 (fC_betterCode g v0 v1) d (pr_P 50) 0 (ev_loc (pr_P 50).1 [(sR v0), (sI v1)]) [] g 0 0 := by
  show Go Φ pr_P fT 1 (fC_betterCode g v0 v1) d pr_m50 0 [some (sR v0), some (sI v1)] [] g 0 0
  unfold fC_betterCode
  refine go_aload kk50_0.1.1.1.1.1 rfl ?_
  refine go_iload kk50_0.1.1.1.1.2 rfl ?_
  refine go_callQ2 kk50_0.1.1.1.2 rfl rfl rfl ⟨by decide, _, rfl, hK0⟩ ⟨by decide, by decide⟩ (by omega) (tfC_named (by omega) hg hK0  h1) (fun y1 r2 => ?_) (fun e5 E6 => ge_prop rfl ⟨by decide, by decide⟩ e5 rfl)
  refine go_ck (fun q7 => ?_)
  refine go_callP3 kk50_0.1.1.2.1 rfl rfl rfl ⟨by decide, _, rfl, q7⟩ ⟨by decide, by decide⟩ (by omega) (tfP_isMortal (by omega) hg q7 ) (fun y8 r9 => ?_)
  refine go_callQ0 kk50_0.1.1.2.2 rfl rfl rfl trivial ⟨by decide, by decide⟩ (by omega) (tfC_checkState (by omega) hg  r9) (fun y12 => ?_) (fun e16 E17 => ge_prop rfl ⟨by decide, by decide⟩ e16 rfl)
  refine go_aload kk50_0.1.2.1.1 rfl ?_
  refine go_iload kk50_0.1.2.1.2 rfl ?_
  refine go_int kk50_0.1.2.2.1 1 rfl ?_
  refine go_callN1 kk50_0.1.2.2.2 rfl rfl rfl ⟨by decide, _, rfl, hK0⟩ ⟨by decide, by decide⟩ (by omega) (tfC_exitOfCopy (by omega) hg hK0  h1 (inR_b (Or.inr rfl))) (fun y18 g20 r19 e21 => ?_)
  refine go_aload kk50_0.2.1.1.1.1 rfl ?_
  refine go_iload kk50_0.2.1.1.1.2 rfl ?_
  refine go_int kk50_0.2.1.1.2 0 rfl ?_
  refine go_callN1 kk50_0.2.1.2.1 rfl rfl rfl ⟨by decide, _, rfl, hK0⟩ ⟨by decide, by decide⟩ (by omega) (tfC_exitOfCopy (by omega) e21 hK0  h1 (inR_b (Or.inl rfl))) (fun y22 g24 r23 e25 => ?_)
  refine go_cmlt kk50_0.2.1.2.2 r19 r23 (fun c26 => ?_) (fun c27 => ?_)
  · refine go_int kk50_0.2.2.1.1 1 rfl ?_
    refine go_goto kk50_0.2.2.1.2 ?_
    exact go_iret kk50_0.2.2.2.2 e25 (inR_b (Or.inr rfl)) ⟨by decide, by decide⟩ rfl
  · refine go_int kk50_0.2.2.2.1 0 rfl ?_
    exact go_iret kk50_0.2.2.2.2 e25 (inR_b (Or.inl rfl)) ⟨by decide, by decide⟩ rfl
theorem tfW_betterCode {Φ : ev_P} {d : Nat} (hd : 7 ≤ d) {g : gH} (hg : HR g) {v0 v1 v2 : Int} (h0 : RfR v0) (h1 : InR v1) (h2 : RfR v2) : Go Φ pr_P fN 1 (fW_betterCode g v0 v1 v2) d (pr_P 341) 0 (ev_loc (pr_P 341).1 [(sR v0), (sI v1), (sR v2)]) [] g 0 0 := by
  show Go Φ pr_P fN 1 (fW_betterCode g v0 v1 v2) d pr_m341 0 [some (sR v0), some (sI v1), some (sR v2), none] [] g 0 0
  unfold fW_betterCode
  refine go_aload kk341_0.1.1.1.1 rfl ?_
  refine go_int kk341_0.1.1.1.2 0 rfl ?_
  refine go_aload kk341_0.1.1.2.1 rfl ?_
  refine go_iload kk341_0.1.1.2.2 rfl ?_
  refine go_ck (fun q1 => ?_)
  refine go_callT1 kk341_0.1.2.1.1 rfl rfl rfl ⟨by decide, _, rfl, q1⟩ ⟨by decide, by decide⟩ (by omega) (tfC_betterCode (by omega) hg q1  h1) (fun y2 g4 r3 e5 => ?_) (fun E7 g4 e6 => ?_)
  · refine go_i2l kk341_0.1.2.1.2 r3 ?_
    refine go_ck (fun q8 => ?_)
    refine go_last kk341_0.1.2.2.1 e5 q8 (inL_R r3) (fun g9 e10 => ?_)
    refine go_goto kk341_0.1.2.2.2 ?_
    refine go_int kk341_0.2.2.2.1 0 rfl ?_
    exact go_iret kk341_0.2.2.2.2 e10 (inR_b (Or.inl rfl)) ⟨by decide, by decide⟩ rfl
  · refine ge_ite (fun hE9 => ?_) (fun _ => ?_)
    · subst hE9
      refine ge_catch rfl kk341_0.2.1.1.1 rfl (loc2 := [some (sR v0), some (sI v1), some (sR v2), none]) rfl ?_
      refine go_int kk341_0.2.1.1.2 1 rfl ?_
      exact go_iret kk341_0.2.1.2.1 e6 (inR_b (Or.inr rfl)) ⟨by decide, by decide⟩ rfl
    refine ge_ite (fun hE9 => ?_) (fun _ => ?_)
    · subst hE9
      refine ge_catch rfl kk341_0.2.1.2.2 rfl (loc2 := [some (sR v0), some (sI v1), some (sR v2), none]) rfl ?_
      refine go_int kk341_0.2.2.1.1 2 rfl ?_
      exact go_iret kk341_0.2.2.1.2 e6 (inR_of (by decide)) ⟨by decide, by decide⟩ rfl
    exact ge_none
theorem tfC_wouldRun {Φ : ev_P} {d : Nat} (hd : 6 ≤ d) {g : gH} (hg : HR g) {v0 v1 v2 : Int} (hK0 : kd v0 = 6) (h1 : InR v1) (h2 : InR v2) : Go Φ pr_P fT 1 (fC_wouldRun g v0 v1 v2) d (pr_P 51) 0 (ev_loc (pr_P 51).1 [(sR v0), (sI v1), (sI v2)]) [] g 0 0 := by
  show Go Φ pr_P fT 1 (fC_wouldRun g v0 v1 v2) d pr_m51 0 [some (sR v0), some (sI v1), some (sI v2)] [] g 0 0
  unfold fC_wouldRun
  refine go_iload kk51_0.1.1.1.1.1 rfl ?_
  refine go_iload kk51_0.1.1.1.1.2 rfl ?_
  refine go_callQ0 kk51_0.1.1.1.2 rfl rfl rfl trivial ⟨by decide, by decide⟩ (by omega) (tfC_checkKill (by omega) hg  h1 h2) (fun y1 => ?_) (fun e5 E6 => ge_prop rfl ⟨by decide, by decide⟩ e5 rfl)
  refine go_aload kk51_0.1.1.2.1 rfl ?_
  refine go_getR (bI := 1) kk51_0.1.1.2.2 hg hK0 (by decide) rfl rfl (fun r7 => ?_)
  refine go_aload kk51_0.1.2.1.1.1 rfl ?_
  refine go_getR (bI := 0) kk51_0.1.2.1.1.2 hg hK0 (by decide) rfl rfl (fun r8 => ?_)
  refine go_ck (fun q9 => ?_)
  refine go_callN0 kk51_0.1.2.1.2 rfl rfl rfl ⟨by decide, _, rfl, q9⟩ ⟨by decide, by decide⟩ (by omega) (tfT_take (by omega) hg q9  r8) (fun y10 g12 e13 => ?_)
  refine go_aload kk51_0.1.2.2.1 rfl ?_
  refine go_getR (bI := 1) kk51_0.1.2.2.2 e13 hK0 (by decide) rfl rfl (fun r14 => ?_)
  refine go_iload kk51_0.2.1.1.1.1 rfl ?_
  refine go_iload kk51_0.2.1.1.1.2 rfl ?_
  refine go_ck (fun q15 => ?_)
  refine go_callN1 kk51_0.2.1.1.2 rfl rfl rfl ⟨by decide, _, rfl, q15⟩ ⟨by decide, by decide⟩ (by omega) (tfT_killGroup (by omega) e13 q15  h1 h2) (fun y16 g18 r17 e19 => ?_)
  refine go_popI kk51_0.2.1.2.1 ?_
  refine go_aload kk51_0.2.1.2.2 rfl ?_
  refine go_getR (bI := 1) kk51_0.2.2.1.1 e19 hK0 (by decide) rfl rfl (fun r20 => ?_)
  refine go_int kk51_0.2.2.1.2 0 rfl ?_
  refine go_ck (fun q21 => ?_)
  refine go_callP1 kk51_0.2.2.2.1 rfl rfl rfl ⟨by decide, _, rfl, q21⟩ ⟨by decide, by decide⟩ (by omega) (tfT_countInState (by omega) e19 q21  (inR_b (Or.inl rfl))) (fun y22 r23 => ?_)
  exact go_iret kk51_0.2.2.2.2 e19 r23 ⟨by decide, by decide⟩ rfl
theorem tfW_wouldRun {Φ : ev_P} {d : Nat} (hd : 7 ≤ d) {g : gH} (hg : HR g) {v0 v1 v2 v3 : Int} (h0 : RfR v0) (h1 : InR v1) (h2 : InR v2) (h3 : RfR v3) : Go Φ pr_P fN 1 (fW_wouldRun g v0 v1 v2 v3) d (pr_P 342) 0 (ev_loc (pr_P 342).1 [(sR v0), (sI v1), (sI v2), (sR v3)]) [] g 0 0 := by
  show Go Φ pr_P fN 1 (fW_wouldRun g v0 v1 v2 v3) d pr_m342 0 [some (sR v0), some (sI v1), some (sI v2), some (sR v3), none] [] g 0 0
  unfold fW_wouldRun
  refine go_aload kk342_0.1.1.1.1 rfl ?_
  refine go_int kk342_0.1.1.1.2 0 rfl ?_
  refine go_aload kk342_0.1.1.2.1 rfl ?_
  refine go_iload kk342_0.1.1.2.2 rfl ?_
  refine go_iload kk342_0.1.2.1.1 rfl ?_
  refine go_ck (fun q1 => ?_)
  refine go_callT1 kk342_0.1.2.1.2 rfl rfl rfl ⟨by decide, _, rfl, q1⟩ ⟨by decide, by decide⟩ (by omega) (tfC_wouldRun (by omega) hg q1  h1 h2) (fun y2 g4 r3 e5 => ?_) (fun E7 g4 e6 => ?_)
  · refine go_i2l kk342_0.1.2.2 r3 ?_
    refine go_ck (fun q8 => ?_)
    refine go_last kk342_0.2.1.1.1 e5 q8 (inL_R r3) (fun g9 e10 => ?_)
    refine go_goto kk342_0.2.1.1.2 ?_
    refine go_int kk342_0.2.2.1.2 0 rfl ?_
    exact go_iret kk342_0.2.2.2 e10 (inR_b (Or.inl rfl)) ⟨by decide, by decide⟩ rfl
  · refine ge_ite (fun hE9 => ?_) (fun _ => ?_)
    · subst hE9
      refine ge_catch rfl kk342_0.2.1.2.1 rfl (loc2 := [some (sR v0), some (sI v1), some (sI v2), some (sR v3), none]) rfl ?_
      refine go_int kk342_0.2.1.2.2 1 rfl ?_
      exact go_iret kk342_0.2.2.1.1 e6 (inR_b (Or.inr rfl)) ⟨by decide, by decide⟩ rfl
    exact ge_none
theorem tjC_apart_35 {Φ : ev_P} {d : Nat} (hd : 2 ≤ d) {g : gH} (hg : HR g) {v0 v3 v4 : Int} (hK0 : kd v0 = 6) (h3 : RfR v3) (h4 : RfR v4) {s0 : Int} (z0 : B01 s0) (u1 : Option ev_V) (w1 : nwo u1) (u2 : Option ev_V) (w2 : nwo u2) : Go Φ pr_P (fQ g) 1 (jC_apart_35 g v0 v3 v4 s0 ) d pr_m53 35 [some (sR v0), u1, u2, some (sR v3), some (sR v4)] [(sI s0)] g 2 12 := by
  unfold jC_apart_35
  refine go_callQ0 kk53_0.2.1.1.1.1.2 rfl rfl rfl trivial ⟨by decide, by decide⟩ (by omega) (tfC_checkState (by omega) hg  z0) (fun y21 => ?_) (fun e25 E26 => ge_prop rfl ⟨by decide, by decide⟩ e25 rfl)
  refine go_aload kk53_0.2.1.1.1.2 rfl ?_
  refine go_ck (fun q27 => ?_)
  refine go_callP1 kk53_0.2.1.1.2.1 rfl rfl rfl ⟨by decide, _, rfl, q27⟩ ⟨by decide, by decide⟩ (by omega) (tfP_countAbove (by omega) hg q27 ) (fun y28 r29 => ?_)
  refine go_aload kk53_0.2.1.1.2.2 rfl ?_
  refine go_ck (fun q32 => ?_)
  refine go_callP1 kk53_0.2.1.2.1.1 rfl rfl rfl ⟨by decide, _, rfl, q32⟩ ⟨by decide, by decide⟩ (by omega) (tfP_countAbove (by omega) hg q32 ) (fun y33 r34 => ?_)
  refine go_iadd kk53_0.2.1.2.1.2 ?_
  refine go_int kk53_0.2.1.2.2.1 2 rfl ?_
  refine go_aload kk53_0.2.1.2.2.2 rfl ?_
  refine go_getR (bI := 0) kk53_0.2.2.1.1.1 hg hK0 (by decide) rfl rfl (fun r37 => ?_)
  refine go_aload kk53_0.2.2.1.1.2 rfl ?_
  refine go_aload kk53_0.2.2.1.2.1 rfl ?_
  refine go_ck (fun q38 => ?_)
  refine go_callP2 kk53_0.2.2.1.2.2 rfl rfl rfl ⟨by decide, _, rfl, q38⟩ ⟨by decide, by decide⟩ (by omega) (tfT_lowestOver (by omega) hg q38  h3 h4) (fun y39 r40 => ?_)
  refine go_ck (fun q43 => ?_)
  refine go_callP1 kk53_0.2.2.2.1.1 rfl rfl rfl ⟨by decide, _, rfl, q43⟩ ⟨by decide, by decide⟩ (by omega) (tfP_countAbove (by omega) hg q43 ) (fun y44 r45 => ?_)
  refine go_ibin kk53_0.2.2.2.1.2 ?_
  refine go_isub kk53_0.2.2.2.2.1 ?_
  exact go_iret kk53_0.2.2.2.2.2 hg (inR_w32 _) ⟨by decide, by decide⟩ rfl
theorem tjC_apart_34 {Φ : ev_P} {d : Nat} (hd : 2 ≤ d) {g : gH} (hg : HR g) {v0 v3 v4 : Int} (hK0 : kd v0 = 6) (h3 : RfR v3) (h4 : RfR v4) (u1 : Option ev_V) (w1 : nwo u1) (u2 : Option ev_V) (w2 : nwo u2) : Go Φ pr_P (fQ g) 1 (jC_apart_34 g v0 v3 v4 ) d pr_m53 34 [some (sR v0), u1, u2, some (sR v3), some (sR v4)] [] g 2 12 := by
  unfold jC_apart_34
  refine go_int kk53_0.2.1.1.1.1.1 0 rfl ?_
  exact tjC_apart_35 hd hg hK0 h3 h4 (Or.inl rfl) u1 w1 u2 w2
theorem tfC_apart {Φ : ev_P} {d : Nat} (hd : 2 ≤ d) {g : gH} (hg : HR g) {v0 v1 v2 : Int} (hK0 : kd v0 = 6) (h1 : InR v1) (h2 : InR v2) : Go Φ pr_P (fQ g) 1 (fC_apart g v0 v1 v2) d (pr_P 53) 0 (ev_loc (pr_P 53).1 [(sR v0), (sI v1), (sI v2)]) [] g 0 0 := by
  show Go Φ pr_P (fQ g) 1 (fC_apart g v0 v1 v2) d pr_m53 0 [some (sR v0), some (sI v1), some (sI v2), none, none] [] g 0 0
  unfold fC_apart
  refine go_aload kk53_0.1.1.1.1.1.1 rfl ?_
  refine go_iload kk53_0.1.1.1.1.1.2 rfl ?_
  refine go_callQ2 kk53_0.1.1.1.1.2 rfl rfl rfl ⟨by decide, _, rfl, hK0⟩ ⟨by decide, by decide⟩ (by omega) (tfC_named (by omega) hg hK0  h1) (fun y1 r2 => ?_) (fun e5 E6 => ge_prop rfl ⟨by decide, by decide⟩ e5 rfl)
  refine go_astore kk53_0.1.1.1.2.1 rfl (loc2 := [some (sR v0), some (sI v1), some (sI v2), some (sR y1), none]) rfl ?_
  refine go_aload kk53_0.1.1.1.2.2 rfl ?_
  refine go_iload kk53_0.1.1.2.1.1 rfl ?_
  refine go_callQ2 kk53_0.1.1.2.1.2 rfl rfl rfl ⟨by decide, _, rfl, hK0⟩ ⟨by decide, by decide⟩ (by omega) (tfC_named (by omega) hg hK0  h2) (fun y7 r8 => ?_) (fun e11 E12 => ge_prop rfl ⟨by decide, by decide⟩ e11 rfl)
  refine go_astore kk53_0.1.1.2.2.1 rfl (loc2 := [some (sR v0), some (sI v1), some (sI v2), some (sR y1), some (sR y7)]) rfl ?_
  refine go_aload kk53_0.1.1.2.2.2 rfl ?_
  refine go_ck (fun q13 => ?_)
  refine go_getI (bI := 1) kk53_0.1.2.1.1.1.1 hg q13 (by decide) rfl rfl (fun r14 => ?_)
  refine go_int kk53_0.1.2.1.1.1.2 2 rfl ?_
  refine go_cmeq kk53_0.1.2.1.1.2 r14 (inR_of (by decide)) (fun c15 => ?_) (fun c16 => ?_)
  · exact tjC_apart_34 hd hg hK0 r2 r8 (some (sI v1)) rfl (some (sI v2)) rfl
  · refine go_aload kk53_0.1.2.1.2.1 rfl ?_
    refine go_ck (fun q17 => ?_)
    refine go_getI (bI := 1) kk53_0.1.2.1.2.2 hg q17 (by decide) rfl rfl (fun r18 => ?_)
    refine go_int kk53_0.1.2.2.1.1 2 rfl ?_
    refine go_cmeq kk53_0.1.2.2.1.2 r18 (inR_of (by decide)) (fun c19 => ?_) (fun c20 => ?_)
    · exact tjC_apart_34 hd hg hK0 r2 r8 (some (sI v1)) rfl (some (sI v2)) rfl
    · refine go_int kk53_0.1.2.2.2.1 1 rfl ?_
      refine go_goto kk53_0.1.2.2.2.2 ?_
      exact tjC_apart_35 hd hg hK0 r2 r8 (Or.inr rfl) (some (sI v1)) rfl (some (sI v2)) rfl
theorem tfW_apart {Φ : ev_P} {d : Nat} (hd : 3 ≤ d) {g : gH} (hg : HR g) {v0 v1 v2 v3 : Int} (h0 : RfR v0) (h1 : InR v1) (h2 : InR v2) (h3 : RfR v3) : Go Φ pr_P fN 1 (fW_apart g v0 v1 v2 v3) d (pr_P 343) 0 (ev_loc (pr_P 343).1 [(sR v0), (sI v1), (sI v2), (sR v3)]) [] g 0 0 := by
  show Go Φ pr_P fN 1 (fW_apart g v0 v1 v2 v3) d pr_m343 0 [some (sR v0), some (sI v1), some (sI v2), some (sR v3), none] [] g 0 0
  unfold fW_apart
  refine go_aload kk343_0.1.1.1.1.1 rfl ?_
  refine go_int kk343_0.1.1.1.1.2 0 rfl ?_
  refine go_aload kk343_0.1.1.1.2 rfl ?_
  refine go_iload kk343_0.1.1.2.1 rfl ?_
  refine go_iload kk343_0.1.1.2.2 rfl ?_
  refine go_ck (fun q1 => ?_)
  refine go_callQ1 kk343_0.1.2.1.1 rfl rfl rfl ⟨by decide, _, rfl, q1⟩ ⟨by decide, by decide⟩ (by omega) (tfC_apart (by omega) hg q1  h1 h2) (fun y2 r3 => ?_) (fun e6 E7 => ?_)
  · refine go_i2l kk343_0.1.2.1.2 r3 ?_
    refine go_ck (fun q8 => ?_)
    refine go_last kk343_0.1.2.2.1 hg q8 (inL_R r3) (fun g9 e10 => ?_)
    refine go_goto kk343_0.1.2.2.2 ?_
    refine go_int kk343_0.2.2.2.1 0 rfl ?_
    exact go_iret kk343_0.2.2.2.2 e10 (inR_b (Or.inl rfl)) ⟨by decide, by decide⟩ rfl
  · refine ge_ite (fun hE9 => ?_) (fun _ => ?_)
    · subst hE9
      refine ge_catch rfl kk343_0.2.1.1.1 rfl (loc2 := [some (sR v0), some (sI v1), some (sI v2), some (sR v3), none]) rfl ?_
      refine go_int kk343_0.2.1.1.2 1 rfl ?_
      exact go_iret kk343_0.2.1.2.1 e6 (inR_b (Or.inr rfl)) ⟨by decide, by decide⟩ rfl
    refine ge_ite (fun hE9 => ?_) (fun _ => ?_)
    · subst hE9
      refine ge_catch rfl kk343_0.2.1.2.2 rfl (loc2 := [some (sR v0), some (sI v1), some (sI v2), some (sR v3), none]) rfl ?_
      refine go_int kk343_0.2.2.1.1 2 rfl ?_
      exact go_iret kk343_0.2.2.1.2 e6 (inR_of (by decide)) ⟨by decide, by decide⟩ rfl
    exact ge_none
theorem tbT_loseSurplus_5 {Φ : ev_P} {d : Nat} (hd : 4 ≤ d) {v0 v1 : Int} (hK0 : kd v0 = 5) (h1 : RfR v1) {X5 : Int → Int → gH → Option (Int × gH)} (HX5 : ∀ (v2 : Int) (h2 : InR v2) (v3 : Int) (h3 : InR v3) (g : gH) (hg : HR g), Go Φ pr_P fN 1 (X5 v2 v3 g) d pr_m301 5 [some (sR v0), some (sR v1), some (sI v2), some (sI v3)] [] g 0 0) : ∀ (v2 : Int) (h2 : InR v2) (v3 : Int) (h3 : InR v3) (g : gH) (hg : HR g), Go Φ pr_P fN 1 (bT_loseSurplus_5 v0 v1 X5 v2 v3 g) d pr_m301 5 [some (sR v0), some (sR v1), some (sI v2), some (sI v3)] [] g 0 0 := by
  intro v2 h2 v3 h3 g hg
  unfold bT_loseSurplus_5
  refine go_iload kk301_0.1.1.1.2.2 rfl ?_
  refine go_iflt kk301_0.1.1.2.1.1 h3 (fun c1 => ?_) (fun c2 => ?_)
  · refine go_iload kk301_0.2.2.2.2.1 rfl ?_
    exact go_iret kk301_0.2.2.2.2.2 hg h2 ⟨Nat.zero_le _, Nat.zero_le _⟩ rfl
  · refine go_aload kk301_0.1.1.2.1.2 rfl ?_
    refine go_ck (fun q3 => ?_)
    refine go_getI (bI := 3) kk301_0.1.1.2.2.1 hg q3 (by decide) rfl rfl (fun r4 => ?_)
    refine go_aload kk301_0.1.1.2.2.2 rfl ?_
    refine go_getI (bI := 4) kk301_0.1.2.1.1.1.1 hg q3 (by decide) rfl rfl (fun r5 => ?_)
    refine go_cmgt kk301_0.1.2.1.1.1.2 r4 r5 (fun c6 => ?_) (fun c7 => ?_)
    · refine go_aload kk301_0.1.2.1.1.2 rfl ?_
      refine go_getR (bI := 1) kk301_0.1.2.1.2.1 hg hK0 (by decide) rfl rfl (fun r8 => ?_)
      refine go_iload kk301_0.1.2.1.2.2 rfl ?_
      refine go_ck (fun q10 => ?_)
      refine go_pald kk301_0.1.2.2.1.1 hg q10 (fun r9 => ?_)
      refine go_aload kk301_0.1.2.2.1.2 rfl ?_
      refine go_ck (fun q11 => ?_)
      refine go_callP3 kk301_0.1.2.2.2.1 rfl rfl rfl ⟨by decide, _, rfl, q11⟩ ⟨Nat.zero_le _, Nat.zero_le _⟩ (by omega) (tfP_isRunningChildOf (by omega) hg q11  h1) (fun y12 r13 => ?_)
      refine go_ifeq kk301_0.1.2.2.2.2 (inR_b r13) (fun c16 => ?_) (fun c17 => ?_)
      · refine go_iinc kk301_0.2.2.2.1.1 rfl rfl (-1) rfl (loc2 := [some (sR v0), some (sR v1), some (sI v2), some (sI (w32 (v3 + (-1))))]) rfl ?_
        refine go_goto kk301_0.2.2.2.1.2 ?_
        exact HX5 v2 h2 (w32 (v3 + (-1))) (inR_w32 _) g hg
      · refine go_aload kk301_0.2.1.1.1.1.1 rfl ?_
        refine go_aload kk301_0.2.1.1.1.1.2 rfl ?_
        refine go_getR (bI := 1) kk301_0.2.1.1.1.2 hg hK0 (by decide) rfl rfl (fun r18 => ?_)
        refine go_iload kk301_0.2.1.1.2.1 rfl ?_
        refine go_ck (fun q20 => ?_)
        refine go_pald kk301_0.2.1.1.2.2 hg q20 (fun r19 => ?_)
        refine go_aload kk301_0.2.1.2.1.1 rfl ?_
        refine go_aload kk301_0.2.1.2.1.2 rfl ?_
        refine go_getR (bI := 1) kk301_0.2.1.2.2.1 hg hK0 (by decide) rfl rfl (fun r21 => ?_)
        refine go_iload kk301_0.2.1.2.2.2 rfl ?_
        refine go_ck (fun q23 => ?_)
        refine go_pald kk301_0.2.2.1.1.1 hg q23 (fun r22 => ?_)
        refine go_callP2 kk301_0.2.2.1.1.2 rfl rfl rfl ⟨by decide, _, rfl, hK0⟩ ⟨Nat.zero_le _, Nat.zero_le _⟩ (by omega) (tfT_adopterOf (by omega) hg hK0  r22) (fun y24 r25 => ?_)
        refine go_callN0 kk301_0.2.2.1.2.1 rfl rfl rfl ⟨by decide, _, rfl, hK0⟩ ⟨Nat.zero_le _, Nat.zero_le _⟩ (by omega) (tfT_adopt (by omega) hg hK0  r19 r25) (fun y28 g30 e31 => ?_)
        refine go_iinc kk301_0.2.2.1.2.2 rfl rfl 1 rfl (loc2 := [some (sR v0), some (sR v1), some (sI (w32 (v2 + 1))), some (sI v3)]) rfl ?_
        refine go_iinc kk301_0.2.2.2.1.1 rfl rfl (-1) rfl (loc2 := [some (sR v0), some (sR v1), some (sI (w32 (v2 + 1))), some (sI (w32 (v3 + (-1))))]) rfl ?_
        refine go_goto kk301_0.2.2.2.1.2 ?_
        exact HX5 (w32 (v2 + 1)) (inR_w32 _) (w32 (v3 + (-1))) (inR_w32 _) g30 e31
    · refine go_iinc kk301_0.2.2.2.1.1 rfl rfl (-1) rfl (loc2 := [some (sR v0), some (sR v1), some (sI v2), some (sI (w32 (v3 + (-1))))]) rfl ?_
      refine go_goto kk301_0.2.2.2.1.2 ?_
      exact HX5 v2 h2 (w32 (v3 + (-1))) (inR_w32 _) g hg
theorem tlT_loseSurplus_5 {Φ : ev_P} {d : Nat} (hd : 4 ≤ d) {v0 v1 : Int} (hK0 : kd v0 = 5) (h1 : RfR v1) : ∀ n : Nat, ∀ (v2 : Int) (h2 : InR v2) (v3 : Int) (h3 : InR v3) (g : gH) (hg : HR g), Go Φ pr_P fN 1 (lT_loseSurplus_5 v0 v1 n v2 v3 g) d pr_m301 5 [some (sR v0), some (sR v1), some (sI v2), some (sI v3)] [] g 0 0 := by
  intro n
  induction n with
  | zero => intros; exact go_none
  | succ n ih => exact tbT_loseSurplus_5 hd hK0 h1 ih
theorem tfT_loseSurplus {Φ : ev_P} {d : Nat} (hd : 4 ≤ d) {g : gH} (hg : HR g) {v0 v1 : Int} (hK0 : kd v0 = 5) (h1 : RfR v1) : Go Φ pr_P fN 1 (fT_loseSurplus g v0 v1) d (pr_P 301) 0 (ev_loc (pr_P 301).1 [(sR v0), (sR v1)]) [] g 0 0 := by
  show Go Φ pr_P fN 1 (fT_loseSurplus g v0 v1) d pr_m301 0 [some (sR v0), some (sR v1), none, none] [] g 0 0
  unfold fT_loseSurplus
  refine go_int kk301_0.1.1.1.1.1.1 0 rfl ?_
  refine go_istore kk301_0.1.1.1.1.1.2 rfl (loc2 := [some (sR v0), some (sR v1), some (sI 0), none]) rfl ?_
  refine go_int kk301_0.1.1.1.1.2 39 rfl ?_
  refine go_istore kk301_0.1.1.1.2.1 rfl (loc2 := [some (sR v0), some (sR v1), some (sI 0), some (sI 39)]) rfl ?_
  exact tlT_loseSurplus_5 hd hK0 h1 fu 0 (inR_b (Or.inl rfl)) 39 (inR_of (by decide)) g hg
theorem tfC_relieve {Φ : ev_P} {d : Nat} (hd : 5 ≤ d) {g : gH} (hg : HR g) {v0 v1 : Int} (hK0 : kd v0 = 6) (h1 : InR v1) : Go Φ pr_P fT 1 (fC_relieve g v0 v1) d (pr_P 54) 0 (ev_loc (pr_P 54).1 [(sR v0), (sI v1)]) [] g 0 0 := by
  show Go Φ pr_P fT 1 (fC_relieve g v0 v1) d pr_m54 0 [some (sR v0), some (sI v1), none] [] g 0 0
  unfold fC_relieve
  refine go_aload kk54_0.1.1.1.1.1 rfl ?_
  refine go_iload kk54_0.1.1.1.1.2 rfl ?_
  refine go_callQ2 kk54_0.1.1.1.2 rfl rfl rfl ⟨by decide, _, rfl, hK0⟩ ⟨by decide, by decide⟩ (by omega) (tfC_named (by omega) hg hK0  h1) (fun y1 r2 => ?_) (fun e5 E6 => ge_prop rfl ⟨by decide, by decide⟩ e5 rfl)
  refine go_astore kk54_0.1.1.2.1 rfl (loc2 := [some (sR v0), some (sI v1), some (sR y1)]) rfl ?_
  refine go_aload kk54_0.1.1.2.2 rfl ?_
  refine go_ck (fun q7 => ?_)
  refine go_callP3 kk54_0.1.2.1.1 rfl rfl rfl ⟨by decide, _, rfl, q7⟩ ⟨by decide, by decide⟩ (by omega) (tfP_isMortal (by omega) hg q7 ) (fun y8 r9 => ?_)
  refine go_callQ0 kk54_0.1.2.1.2 rfl rfl rfl trivial ⟨by decide, by decide⟩ (by omega) (tfC_checkState (by omega) hg  r9) (fun y12 => ?_) (fun e16 E17 => ge_prop rfl ⟨by decide, by decide⟩ e16 rfl)
  refine go_aload kk54_0.1.2.2.1 rfl ?_
  refine go_getR (bI := 3) kk54_0.1.2.2.2 hg hK0 (by decide) rfl rfl (fun r18 => ?_)
  refine go_aload kk54_0.2.1.1.1 rfl ?_
  refine go_getR (bI := 0) kk54_0.2.1.1.2 hg hK0 (by decide) rfl rfl (fun r19 => ?_)
  refine go_ck (fun q20 => ?_)
  refine go_callN0 kk54_0.2.1.2.1 rfl rfl rfl ⟨by decide, _, rfl, q20⟩ ⟨by decide, by decide⟩ (by omega) (tfH_push (by omega) hg q20  r19) (fun y21 g23 e24 => ?_)
  refine go_aload kk54_0.2.1.2.2 rfl ?_
  refine go_getR (bI := 0) kk54_0.2.2.1.1 e24 hK0 (by decide) rfl rfl (fun r25 => ?_)
  refine go_aload kk54_0.2.2.1.2 rfl ?_
  refine go_ck (fun q26 => ?_)
  refine go_callN1 kk54_0.2.2.2.1 rfl rfl rfl ⟨by decide, _, rfl, q26⟩ ⟨by decide, by decide⟩ (by omega) (tfT_loseSurplus (by omega) e24 q26  r2) (fun y27 g29 r28 e30 => ?_)
  exact go_iret kk54_0.2.2.2.2 e30 r28 ⟨by decide, by decide⟩ rfl
theorem tfW_relieve {Φ : ev_P} {d : Nat} (hd : 6 ≤ d) {g : gH} (hg : HR g) {v0 v1 v2 : Int} (h0 : RfR v0) (h1 : InR v1) (h2 : RfR v2) : Go Φ pr_P fN 1 (fW_relieve g v0 v1 v2) d (pr_P 344) 0 (ev_loc (pr_P 344).1 [(sR v0), (sI v1), (sR v2)]) [] g 0 0 := by
  show Go Φ pr_P fN 1 (fW_relieve g v0 v1 v2) d pr_m344 0 [some (sR v0), some (sI v1), some (sR v2), none] [] g 0 0
  unfold fW_relieve
  refine go_aload kk344_0.1.1.1.1 rfl ?_
  refine go_int kk344_0.1.1.1.2 0 rfl ?_
  refine go_aload kk344_0.1.1.2.1 rfl ?_
  refine go_iload kk344_0.1.1.2.2 rfl ?_
  refine go_ck (fun q1 => ?_)
  refine go_callT1 kk344_0.1.2.1.1 rfl rfl rfl ⟨by decide, _, rfl, q1⟩ ⟨by decide, by decide⟩ (by omega) (tfC_relieve (by omega) hg q1  h1) (fun y2 g4 r3 e5 => ?_) (fun E7 g4 e6 => ?_)
  · refine go_i2l kk344_0.1.2.1.2 r3 ?_
    refine go_ck (fun q8 => ?_)
    refine go_last kk344_0.1.2.2.1 e5 q8 (inL_R r3) (fun g9 e10 => ?_)
    refine go_goto kk344_0.1.2.2.2 ?_
    refine go_int kk344_0.2.2.2.1 0 rfl ?_
    exact go_iret kk344_0.2.2.2.2 e10 (inR_b (Or.inl rfl)) ⟨by decide, by decide⟩ rfl
  · refine ge_ite (fun hE9 => ?_) (fun _ => ?_)
    · subst hE9
      refine ge_catch rfl kk344_0.2.1.1.1 rfl (loc2 := [some (sR v0), some (sI v1), some (sR v2), none]) rfl ?_
      refine go_int kk344_0.2.1.1.2 1 rfl ?_
      exact go_iret kk344_0.2.1.2.1 e6 (inR_b (Or.inr rfl)) ⟨by decide, by decide⟩ rfl
    refine ge_ite (fun hE9 => ?_) (fun _ => ?_)
    · subst hE9
      refine ge_catch rfl kk344_0.2.1.2.2 rfl (loc2 := [some (sR v0), some (sI v1), some (sR v2), none]) rfl ?_
      refine go_int kk344_0.2.2.1.1 2 rfl ?_
      exact go_iret kk344_0.2.2.1.2 e6 (inR_of (by decide)) ⟨by decide, by decide⟩ rfl
    exact ge_none
theorem tfC_wouldHold {Φ : ev_P} {d : Nat} (hd : 6 ≤ d) {g : gH} (hg : HR g) {v0 v1 v2 v3 : Int} (hK0 : kd v0 = 6) (h1 : InR v1) (h2 : InR v2) (h3 : InR v3) : Go Φ pr_P fT 1 (fC_wouldHold g v0 v1 v2 v3) d (pr_P 55) 0 (ev_loc (pr_P 55).1 [(sR v0), (sI v1), (sI v2), (sI v3)]) [] g 0 0 := by
  show Go Φ pr_P fT 1 (fC_wouldHold g v0 v1 v2 v3) d pr_m55 0 [some (sR v0), some (sI v1), some (sI v2), some (sI v3)] [] g 0 0
  unfold fC_wouldHold
  refine go_aload kk55_0.1.1.1.1.1 rfl ?_
  refine go_iload kk55_0.1.1.1.1.2 rfl ?_
  refine go_callQ2 kk55_0.1.1.1.2 rfl rfl rfl ⟨by decide, _, rfl, hK0⟩ ⟨by decide, by decide⟩ (by omega) (tfC_named (by omega) hg hK0  h2) (fun y1 r2 => ?_) (fun e5 E6 => ge_prop rfl ⟨by decide, by decide⟩ e5 rfl)
  refine go_popR kk55_0.1.1.2.1.1 ?_
  refine go_iload kk55_0.1.1.2.1.2 rfl ?_
  refine go_int kk55_0.1.1.2.2 7 rfl ?_
  refine go_callQ0 kk55_0.1.2.1.1.1 rfl rfl rfl trivial ⟨by decide, by decide⟩ (by omega) (tfC_checkRange (by omega) hg  h1 (inR_of (by decide))) (fun y7 => ?_) (fun e11 E12 => ge_prop rfl ⟨by decide, by decide⟩ e11 rfl)
  refine go_aload kk55_0.1.2.1.1.2 rfl ?_
  refine go_iload kk55_0.1.2.1.2 rfl ?_
  refine go_iload kk55_0.1.2.2.1.1 rfl ?_
  refine go_callQ2 kk55_0.1.2.2.1.2 rfl rfl rfl ⟨by decide, _, rfl, hK0⟩ ⟨by decide, by decide⟩ (by omega) (tfC_namedForExit (by omega) hg hK0  h2 h3) (fun y13 r14 => ?_) (fun e17 E18 => ge_prop rfl ⟨by decide, by decide⟩ e17 rfl)
  refine go_popR kk55_0.1.2.2.2 ?_
  refine go_aload kk55_0.2.1.1.1.1 rfl ?_
  refine go_iload kk55_0.2.1.1.1.2 rfl ?_
  refine go_iload kk55_0.2.1.1.2 rfl ?_
  refine go_callN1 kk55_0.2.1.2.1.1 rfl rfl rfl ⟨by decide, _, rfl, hK0⟩ ⟨by decide, by decide⟩ (by omega) (tfC_exitOfCopy (by omega) hg hK0  h2 h3) (fun y19 g21 r20 e22 => ?_)
  refine go_popI kk55_0.2.1.2.1.2 ?_
  refine go_aload kk55_0.2.1.2.2 rfl ?_
  refine go_getR (bI := 1) kk55_0.2.2.1.1.1 e22 hK0 (by decide) rfl rfl (fun r23 => ?_)
  refine go_iload kk55_0.2.2.1.1.2 rfl ?_
  refine go_ck (fun q24 => ?_)
  refine go_callP2 kk55_0.2.2.1.2 rfl rfl rfl ⟨by decide, _, rfl, q24⟩ ⟨by decide, by decide⟩ (by omega) (tfT_holderOf (by omega) e22 q24  h1) (fun y25 r26 => ?_)
  refine go_ck (fun q29 => ?_)
  refine go_getI (bI := 0) kk55_0.2.2.2.1 e22 q29 (by decide) rfl rfl (fun r30 => ?_)
  exact go_iret kk55_0.2.2.2.2 e22 r30 ⟨by decide, by decide⟩ rfl
theorem tfW_wouldHold {Φ : ev_P} {d : Nat} (hd : 7 ≤ d) {g : gH} (hg : HR g) {v0 v1 v2 v3 v4 : Int} (h0 : RfR v0) (h1 : InR v1) (h2 : InR v2) (h3 : InR v3) (h4 : RfR v4) : Go Φ pr_P fN 1 (fW_wouldHold g v0 v1 v2 v3 v4) d (pr_P 345) 0 (ev_loc (pr_P 345).1 [(sR v0), (sI v1), (sI v2), (sI v3), (sR v4)]) [] g 0 0 := by
  show Go Φ pr_P fN 1 (fW_wouldHold g v0 v1 v2 v3 v4) d pr_m345 0 [some (sR v0), some (sI v1), some (sI v2), some (sI v3), some (sR v4), none] [] g 0 0
  unfold fW_wouldHold
  refine go_aload kk345_0.1.1.1.1.1 rfl ?_
  refine go_int kk345_0.1.1.1.1.2 0 rfl ?_
  refine go_aload kk345_0.1.1.1.2 rfl ?_
  refine go_iload kk345_0.1.1.2.1.1 rfl ?_
  refine go_iload kk345_0.1.1.2.1.2 rfl ?_
  refine go_iload kk345_0.1.1.2.2 rfl ?_
  refine go_ck (fun q1 => ?_)
  refine go_callT1 kk345_0.1.2.1.1.1 rfl rfl rfl ⟨by decide, _, rfl, q1⟩ ⟨by decide, by decide⟩ (by omega) (tfC_wouldHold (by omega) hg q1  h1 h2 h3) (fun y2 g4 r3 e5 => ?_) (fun E7 g4 e6 => ?_)
  · refine go_i2l kk345_0.1.2.1.1.2 r3 ?_
    refine go_ck (fun q8 => ?_)
    refine go_last kk345_0.1.2.1.2 e5 q8 (inL_R r3) (fun g9 e10 => ?_)
    refine go_goto kk345_0.1.2.2.1 ?_
    refine go_int kk345_0.2.2.2.1 0 rfl ?_
    exact go_iret kk345_0.2.2.2.2 e10 (inR_b (Or.inl rfl)) ⟨by decide, by decide⟩ rfl
  · refine ge_ite (fun hE9 => ?_) (fun _ => ?_)
    · subst hE9
      refine ge_catch rfl kk345_0.1.2.2.2 rfl (loc2 := [some (sR v0), some (sI v1), some (sI v2), some (sI v3), some (sR v4), none]) rfl ?_
      refine go_int kk345_0.2.1.1.1.1 1 rfl ?_
      exact go_iret kk345_0.2.1.1.1.2 e6 (inR_b (Or.inr rfl)) ⟨by decide, by decide⟩ rfl
    refine ge_ite (fun hE9 => ?_) (fun _ => ?_)
    · subst hE9
      refine ge_catch rfl kk345_0.2.1.1.2 rfl (loc2 := [some (sR v0), some (sI v1), some (sI v2), some (sI v3), some (sR v4), none]) rfl ?_
      refine go_int kk345_0.2.1.2.1 2 rfl ?_
      exact go_iret kk345_0.2.1.2.2 e6 (inR_of (by decide)) ⟨by decide, by decide⟩ rfl
    refine ge_ite (fun hE9 => ?_) (fun _ => ?_)
    · subst hE9
      refine ge_catch rfl kk345_0.2.2.1.1.1 rfl (loc2 := [some (sR v0), some (sI v1), some (sI v2), some (sI v3), some (sR v4), none]) rfl ?_
      refine go_int kk345_0.2.2.1.1.2 3 rfl ?_
      exact go_iret kk345_0.2.2.1.2 e6 (inR_of (by decide)) ⟨by decide, by decide⟩ rfl
    exact ge_none
theorem tbC_dutyLife_19 {Φ : ev_P} {d : Nat} (hd : 5 ≤ d) {v0 v1 : Int} (hK0 : kd v0 = 6) (h1 : InR v1) {X19 : Int → gH → Option (Nat × (Int × gH))} (HX19 : ∀ (v2 : Int) (h2 : InR v2) (g : gH) (hg : HR g), Go Φ pr_P fT 1 (X19 v2 g) d pr_m56 19 [some (sR v0), some (sI v1), some (sI v2)] [] g 1 6) : ∀ (v2 : Int) (h2 : InR v2) (g : gH) (hg : HR g), Go Φ pr_P fT 1 (bC_dutyLife_19 v0 v1 X19 v2 g) d pr_m56 19 [some (sR v0), some (sI v1), some (sI v2)] [] g 1 6 := by
  intro v2 h2 g hg
  unfold bC_dutyLife_19
  refine go_iload kk56_0.1.2.1.1.2 rfl ?_
  refine go_int kk56_0.1.2.1.2.1 40 rfl ?_
  refine go_cmlt kk56_0.1.2.1.2.2 h2 (inR_of (by decide)) (fun c14 => ?_) (fun c15 => ?_)
  · refine go_aload kk56_0.1.2.2.1.1 rfl ?_
    refine go_getR (bI := 1) kk56_0.1.2.2.1.2 hg hK0 (by decide) rfl rfl (fun r16 => ?_)
    refine go_iload kk56_0.1.2.2.2.1 rfl ?_
    refine go_ck (fun q17 => ?_)
    refine go_callP2 kk56_0.1.2.2.2.2 rfl rfl rfl ⟨by decide, _, rfl, q17⟩ ⟨by decide, by decide⟩ (by omega) (tfT_holderOf (by omega) hg q17  h1) (fun y18 r19 => ?_)
    refine go_aload kk56_0.2.1.1.1.1.1 rfl ?_
    refine go_getR (bI := 1) kk56_0.2.1.1.1.1.2 hg hK0 (by decide) rfl rfl (fun r22 => ?_)
    refine go_getR (bI := 0) kk56_0.2.1.1.1.2 hg q17 (by decide) rfl rfl (fun r23 => ?_)
    refine go_acmp kk56_0.2.1.1.2.1 r19 r23 (fun c24 => ?_) (fun c25 => ?_)
    · refine go_iload kk56_0.2.2.2.2.1 rfl ?_
      exact go_iret kk56_0.2.2.2.2.2 hg h2 ⟨by decide, by decide⟩ rfl
    · refine go_aload kk56_0.2.1.1.2.2 rfl ?_
      refine go_getR (bI := 1) kk56_0.2.1.2.1.1 hg hK0 (by decide) rfl rfl (fun r26 => ?_)
      refine go_aload kk56_0.2.1.2.1.2 rfl ?_
      refine go_getR (bI := 1) kk56_0.2.1.2.2.1 hg hK0 (by decide) rfl rfl (fun r27 => ?_)
      refine go_iload kk56_0.2.1.2.2.2 rfl ?_
      refine go_callP2 kk56_0.2.2.1.1.1 rfl rfl rfl ⟨by decide, _, rfl, q17⟩ ⟨by decide, by decide⟩ (by omega) (tfT_holderOf (by omega) hg q17  h1) (fun y28 r29 => ?_)
      refine go_int kk56_0.2.2.1.1.2 0 rfl ?_
      refine go_callN1 kk56_0.2.2.1.2.1 rfl rfl rfl ⟨by decide, _, rfl, q17⟩ ⟨by decide, by decide⟩ (by omega) (tfT_letExit (by omega) hg q17  r29 (inR_b (Or.inl rfl))) (fun y32 g34 r33 e35 => ?_)
      refine go_popI kk56_0.2.2.1.2.2 ?_
      refine go_iinc kk56_0.2.2.2.1.1 rfl rfl 1 rfl (loc2 := [some (sR v0), some (sI v1), some (sI (w32 (v2 + 1)))]) rfl ?_
      refine go_goto kk56_0.2.2.2.1.2 ?_
      exact HX19 (w32 (v2 + 1)) (inR_w32 _) g34 e35
  · refine go_iload kk56_0.2.2.2.2.1 rfl ?_
    exact go_iret kk56_0.2.2.2.2.2 hg h2 ⟨by decide, by decide⟩ rfl
theorem tlC_dutyLife_19 {Φ : ev_P} {d : Nat} (hd : 5 ≤ d) {v0 v1 : Int} (hK0 : kd v0 = 6) (h1 : InR v1) : ∀ n : Nat, ∀ (v2 : Int) (h2 : InR v2) (g : gH) (hg : HR g), Go Φ pr_P fT 1 (lC_dutyLife_19 v0 v1 n v2 g) d pr_m56 19 [some (sR v0), some (sI v1), some (sI v2)] [] g 1 6 := by
  intro n
  induction n with
  | zero => intros; exact go_none
  | succ n ih => exact tbC_dutyLife_19 hd hK0 h1 ih
theorem tfC_dutyLife {Φ : ev_P} {d : Nat} (hd : 5 ≤ d) {g : gH} (hg : HR g) {v0 v1 : Int} (hK0 : kd v0 = 6) (h1 : InR v1) : Go Φ pr_P fT 1 (fC_dutyLife g v0 v1) d (pr_P 56) 0 (ev_loc (pr_P 56).1 [(sR v0), (sI v1)]) [] g 0 0 := by
  show Go Φ pr_P fT 1 (fC_dutyLife g v0 v1) d pr_m56 0 [some (sR v0), some (sI v1), none] [] g 0 0
  unfold fC_dutyLife
  refine go_iload kk56_0.1.1.1.1.1.1 rfl ?_
  refine go_int kk56_0.1.1.1.1.1.2 7 rfl ?_
  refine go_callQ0 kk56_0.1.1.1.1.2 rfl rfl rfl trivial ⟨by decide, by decide⟩ (by omega) (tfC_checkRange (by omega) hg  h1 (inR_of (by decide))) (fun y1 => ?_) (fun e5 E6 => ge_prop rfl ⟨by decide, by decide⟩ e5 rfl)
  refine go_aload kk56_0.1.1.1.2.1 rfl ?_
  refine go_getR (bI := 1) kk56_0.1.1.1.2.2 hg hK0 (by decide) rfl rfl (fun r7 => ?_)
  refine go_aload kk56_0.1.1.2.1.1 rfl ?_
  refine go_getR (bI := 0) kk56_0.1.1.2.1.2 hg hK0 (by decide) rfl rfl (fun r8 => ?_)
  refine go_ck (fun q9 => ?_)
  refine go_callN0 kk56_0.1.1.2.2.1 rfl rfl rfl ⟨by decide, _, rfl, q9⟩ ⟨by decide, by decide⟩ (by omega) (tfT_take (by omega) hg q9  r8) (fun y10 g12 e13 => ?_)
  refine go_int kk56_0.1.1.2.2.2 0 rfl ?_
  refine go_istore kk56_0.1.2.1.1.1 rfl (loc2 := [some (sR v0), some (sI v1), some (sI 0)]) rfl ?_
  exact tlC_dutyLife_19 hd hK0 h1 fu 0 (inR_b (Or.inl rfl)) g12 e13
theorem tfW_dutyLife {Φ : ev_P} {d : Nat} (hd : 6 ≤ d) {g : gH} (hg : HR g) {v0 v1 v2 : Int} (h0 : RfR v0) (h1 : InR v1) (h2 : RfR v2) : Go Φ pr_P fN 1 (fW_dutyLife g v0 v1 v2) d (pr_P 346) 0 (ev_loc (pr_P 346).1 [(sR v0), (sI v1), (sR v2)]) [] g 0 0 := by
  show Go Φ pr_P fN 1 (fW_dutyLife g v0 v1 v2) d pr_m346 0 [some (sR v0), some (sI v1), some (sR v2), none] [] g 0 0
  unfold fW_dutyLife
  refine go_aload kk346_0.1.1.1.1 rfl ?_
  refine go_int kk346_0.1.1.1.2 0 rfl ?_
  refine go_aload kk346_0.1.1.2.1 rfl ?_
  refine go_iload kk346_0.1.1.2.2 rfl ?_
  refine go_ck (fun q1 => ?_)
  refine go_callT1 kk346_0.1.2.1.1 rfl rfl rfl ⟨by decide, _, rfl, q1⟩ ⟨by decide, by decide⟩ (by omega) (tfC_dutyLife (by omega) hg q1  h1) (fun y2 g4 r3 e5 => ?_) (fun E7 g4 e6 => ?_)
  · refine go_i2l kk346_0.1.2.1.2 r3 ?_
    refine go_ck (fun q8 => ?_)
    refine go_last kk346_0.1.2.2 e5 q8 (inL_R r3) (fun g9 e10 => ?_)
    refine go_goto kk346_0.2.1.1.1 ?_
    refine go_int kk346_0.2.2.1.2 0 rfl ?_
    exact go_iret kk346_0.2.2.2 e10 (inR_b (Or.inl rfl)) ⟨by decide, by decide⟩ rfl
  · refine ge_ite (fun hE9 => ?_) (fun _ => ?_)
    · subst hE9
      refine ge_catch rfl kk346_0.2.1.1.2 rfl (loc2 := [some (sR v0), some (sI v1), some (sR v2), none]) rfl ?_
      refine go_int kk346_0.2.1.2 1 rfl ?_
      exact go_iret kk346_0.2.2.1.1 e6 (inR_b (Or.inr rfl)) ⟨by decide, by decide⟩ rfl
    exact ge_none
theorem tjC_heaviest_65 {Φ : ev_P} {d : Nat} (hd : 2 ≤ d) {X28 : Int → Int → Int → Option (Nat × Int)} {g : gH} (hg : HR g) {v0 v2 v3 v4 v5 v6 v7 v8 : Int} (hK0 : kd v0 = 6) (h2 : RfR v2) (h3 : InR v3) (h4 : InR v4) (h5 : RfR v5) (h6 : InR v6) (h7 : InR v7) (h8 : RfR v8) {s0 : Int} (z0 : InR s0) (HX28 : ∀ (v3 : Int) (h3 : InR v3) (v4 : Int) (h4 : InR v4) (v7 : Int) (h7 : InR v7) (u1 : Option ev_V) (w1 : nwo u1) (u8 : Option ev_V) (w8 : nwo u8) (u9 : Option ev_V) (w9 : nwo u9), Go Φ pr_P (fQ g) 1 (X28 v3 v4 v7) d pr_m57 28 [some (sR v0), u1, some (sR v2), some (sI v3), some (sI v4), some (sR v5), some (sI v6), some (sI v7), u8, u9] [] g 1 6) (u1 : Option ev_V) (w1 : nwo u1) (u9 : Option ev_V) (w9 : nwo u9) : Go Φ pr_P (fQ g) 1 (jC_heaviest_65 X28 g v0 v2 v3 v4 v5 v6 v7 v8 s0 ) d pr_m57 65 [some (sR v0), u1, some (sR v2), some (sI v3), some (sI v4), some (sR v5), some (sI v6), some (sI v7), some (sR v8), u9] [(sI s0)] g 1 6 := by
  unfold jC_heaviest_65
  refine go_istore kk57_0.2.1.2.2.2 rfl (loc2 := [some (sR v0), u1, some (sR v2), some (sI v3), some (sI v4), some (sR v5), some (sI v6), some (sI v7), some (sR v8), some (sI s0)]) rfl ?_
  refine go_iload kk57_0.2.2.1.1.1.1 rfl ?_
  refine go_iload kk57_0.2.2.1.1.1.2 rfl ?_
  refine go_cmgt kk57_0.2.2.1.1.2 z0 h4 (fun c29 => ?_) (fun c30 => ?_)
  · refine go_aload kk57_0.2.2.1.2.1.1 rfl ?_
    refine go_ck (fun q31 => ?_)
    refine go_getI (bI := 0) kk57_0.2.2.1.2.1.2 hg q31 (by decide) rfl rfl (fun r32 => ?_)
    refine go_istore kk57_0.2.2.1.2.2 rfl (loc2 := [some (sR v0), u1, some (sR v2), some (sI (g v8 0)), some (sI v4), some (sR v5), some (sI v6), some (sI v7), some (sR v8), some (sI s0)]) rfl ?_
    refine go_iload kk57_0.2.2.2.1.1.1 rfl ?_
    refine go_istore kk57_0.2.2.2.1.1.2 rfl (loc2 := [some (sR v0), u1, some (sR v2), some (sI (g v8 0)), some (sI s0), some (sR v5), some (sI v6), some (sI v7), some (sR v8), some (sI s0)]) rfl ?_
    refine go_iinc kk57_0.2.2.2.1.2 rfl rfl 1 rfl (loc2 := [some (sR v0), u1, some (sR v2), some (sI (g v8 0)), some (sI s0), some (sR v5), some (sI v6), some (sI (w32 (v7 + 1))), some (sR v8), some (sI s0)]) rfl ?_
    refine go_goto kk57_0.2.2.2.2.1.1 ?_
    exact HX28 (g v8 0) r32 s0 z0 (w32 (v7 + 1)) (inR_w32 _) u1 w1 (some (sR v8)) rfl (some (sI s0)) rfl
  · refine go_iinc kk57_0.2.2.2.1.2 rfl rfl 1 rfl (loc2 := [some (sR v0), u1, some (sR v2), some (sI v3), some (sI v4), some (sR v5), some (sI v6), some (sI (w32 (v7 + 1))), some (sR v8), some (sI s0)]) rfl ?_
    refine go_goto kk57_0.2.2.2.2.1.1 ?_
    exact HX28 v3 h3 v4 h4 (w32 (v7 + 1)) (inR_w32 _) u1 w1 (some (sR v8)) rfl (some (sI s0)) rfl
theorem tbC_heaviest_28 {Φ : ev_P} {d : Nat} (hd : 2 ≤ d) {g : gH} (hg : HR g) {v0 v2 v5 v6 : Int} (hK0 : kd v0 = 6) (h2 : RfR v2) (h5 : RfR v5) (h6 : InR v6) {X28 : Int → Int → Int → Option (Nat × Int)} (HX28 : ∀ (v3 : Int) (h3 : InR v3) (v4 : Int) (h4 : InR v4) (v7 : Int) (h7 : InR v7) (u1 : Option ev_V) (w1 : nwo u1) (u8 : Option ev_V) (w8 : nwo u8) (u9 : Option ev_V) (w9 : nwo u9), Go Φ pr_P (fQ g) 1 (X28 v3 v4 v7) d pr_m57 28 [some (sR v0), u1, some (sR v2), some (sI v3), some (sI v4), some (sR v5), some (sI v6), some (sI v7), u8, u9] [] g 1 6) : ∀ (v3 : Int) (h3 : InR v3) (v4 : Int) (h4 : InR v4) (v7 : Int) (h7 : InR v7) (u1 : Option ev_V) (w1 : nwo u1) (u8 : Option ev_V) (w8 : nwo u8) (u9 : Option ev_V) (w9 : nwo u9), Go Φ pr_P (fQ g) 1 (bC_heaviest_28 g v0 v2 v5 v6 X28 v3 v4 v7) d pr_m57 28 [some (sR v0), u1, some (sR v2), some (sI v3), some (sI v4), some (sR v5), some (sI v6), some (sI v7), u8, u9] [] g 1 6 := by
  intro v3 h3 v4 h4 v7 h7 u1 w1 u8 w8 u9 w9
  unfold bC_heaviest_28
  refine go_iload kk57_0.1.2.1.2.2 rfl ?_
  refine go_iload kk57_0.1.2.2.1.1.1 rfl ?_
  refine go_cmlt kk57_0.1.2.2.1.1.2 h7 h6 (fun c12 => ?_) (fun c13 => ?_)
  · refine go_aload kk57_0.1.2.2.1.2 rfl ?_
    refine go_iload kk57_0.1.2.2.2.1.1 rfl ?_
    refine go_ck (fun q15 => ?_)
    refine go_pald kk57_0.1.2.2.2.1.2 hg q15 (fun r14 => ?_)
    refine go_astore kk57_0.1.2.2.2.2 rfl (loc2 := [some (sR v0), u1, some (sR v2), some (sI v3), some (sI v4), some (sR v5), some (sI v6), some (sI v7), some (sR (g v5 v7)), u9]) rfl ?_
    refine go_aload kk57_0.2.1.1.1.1.1 rfl ?_
    refine go_aload kk57_0.2.1.1.1.1.2 rfl ?_
    refine go_ck (fun q16 => ?_)
    refine go_callP3 kk57_0.2.1.1.1.2 rfl rfl rfl ⟨by decide, _, rfl, q16⟩ ⟨by decide, by decide⟩ (by omega) (tfP_isRunningChildOf (by omega) hg q16  h2) (fun y17 r18 => ?_)
    refine go_ifeq kk57_0.2.1.1.2.1.1 (inR_b r18) (fun c21 => ?_) (fun c22 => ?_)
    · refine go_int kk57_0.2.1.2.2.1.2 (-1) rfl ?_
      exact tjC_heaviest_65 hd hg hK0 h2 h3 h4 h5 h6 h7 r14 (inR_of (by decide)) HX28 u1 w1 u9 w9
    · refine go_aload kk57_0.2.1.1.2.1.2 rfl ?_
      refine go_getR (bI := 0) kk57_0.2.1.1.2.2 hg hK0 (by decide) rfl rfl (fun r23 => ?_)
      refine go_aload kk57_0.2.1.2.1.1.1 rfl ?_
      refine go_int kk57_0.2.1.2.1.1.2 0 rfl ?_
      refine go_ck (fun q24 => ?_)
      refine go_callP1 kk57_0.2.1.2.1.2 rfl rfl rfl ⟨by decide, _, rfl, q24⟩ ⟨by decide, by decide⟩ (by omega) (tfT_countBelow (by omega) hg q24  r14 (inR_b (Or.inl rfl))) (fun y25 r26 => ?_)
      refine go_goto kk57_0.2.1.2.2.1.1 ?_
      exact tjC_heaviest_65 hd hg hK0 h2 h3 h4 h5 h6 h7 r14 r26 HX28 u1 w1 u9 w9
  · refine go_iload kk57_0.2.2.2.2.1.2 rfl ?_
    exact go_iret kk57_0.2.2.2.2.2 hg h3 ⟨by decide, by decide⟩ rfl
theorem tlC_heaviest_28 {Φ : ev_P} {d : Nat} (hd : 2 ≤ d) {g : gH} (hg : HR g) {v0 v2 v5 v6 : Int} (hK0 : kd v0 = 6) (h2 : RfR v2) (h5 : RfR v5) (h6 : InR v6) : ∀ n : Nat, ∀ (v3 : Int) (h3 : InR v3) (v4 : Int) (h4 : InR v4) (v7 : Int) (h7 : InR v7) (u1 : Option ev_V) (w1 : nwo u1) (u8 : Option ev_V) (w8 : nwo u8) (u9 : Option ev_V) (w9 : nwo u9), Go Φ pr_P (fQ g) 1 (lC_heaviest_28 g v0 v2 v5 v6 n v3 v4 v7) d pr_m57 28 [some (sR v0), u1, some (sR v2), some (sI v3), some (sI v4), some (sR v5), some (sI v6), some (sI v7), u8, u9] [] g 1 6 := by
  intro n
  induction n with
  | zero => intros; exact go_none
  | succ n ih => exact tbC_heaviest_28 hd hg hK0 h2 h5 h6 ih
theorem tfC_heaviest {Φ : ev_P} {d : Nat} (hd : 2 ≤ d) {g : gH} (hg : HR g) {v0 v1 : Int} (hK0 : kd v0 = 6) (h1 : InR v1) : Go Φ pr_P (fQ g) 1 (fC_heaviest g v0 v1) d (pr_P 57) 0 (ev_loc (pr_P 57).1 [(sR v0), (sI v1)]) [] g 0 0 := by
  show Go Φ pr_P (fQ g) 1 (fC_heaviest g v0 v1) d pr_m57 0 [some (sR v0), some (sI v1), none, none, none, none, none, none, none, none] [] g 0 0
  unfold fC_heaviest
  refine go_aload kk57_0.1.1.1.1.1.1 rfl ?_
  refine go_iload kk57_0.1.1.1.1.1.2 rfl ?_
  refine go_callQ2 kk57_0.1.1.1.1.2 rfl rfl rfl ⟨by decide, _, rfl, hK0⟩ ⟨by decide, by decide⟩ (by omega) (tfC_named (by omega) hg hK0  h1) (fun y1 r2 => ?_) (fun e5 E6 => ge_prop rfl ⟨by decide, by decide⟩ e5 rfl)
  refine go_astore kk57_0.1.1.1.2.1.1 rfl (loc2 := [some (sR v0), some (sI v1), some (sR y1), none, none, none, none, none, none, none]) rfl ?_
  refine go_int kk57_0.1.1.1.2.1.2 (-1) rfl ?_
  refine go_istore kk57_0.1.1.1.2.2 rfl (loc2 := [some (sR v0), some (sI v1), some (sR y1), some (sI (-1)), none, none, none, none, none, none]) rfl ?_
  refine go_int kk57_0.1.1.2.1.1.1 (-1) rfl ?_
  refine go_istore kk57_0.1.1.2.1.1.2 rfl (loc2 := [some (sR v0), some (sI v1), some (sR y1), some (sI (-1)), some (sI (-1)), none, none, none, none, none]) rfl ?_
  refine go_aload kk57_0.1.1.2.1.2 rfl ?_
  refine go_getR (bI := 0) kk57_0.1.1.2.2.1.1 hg hK0 (by decide) rfl rfl (fun r7 => ?_)
  refine go_ck (fun q8 => ?_)
  refine go_getR (bI := 1) kk57_0.1.1.2.2.1.2 hg q8 (by decide) rfl rfl (fun r9 => ?_)
  refine go_astore kk57_0.1.1.2.2.2 rfl (loc2 := [some (sR v0), some (sI v1), some (sR y1), some (sI (-1)), some (sI (-1)), some (sR (g (g v0 0) 1)), none, none, none, none]) rfl ?_
  refine go_aload kk57_0.1.2.1.1.1.1 rfl ?_
  refine go_ck (fun q11 => ?_)
  refine go_alen kk57_0.1.2.1.1.1.2 (ka_24 q11) (fun r10 => ?_)
  refine go_istore kk57_0.1.2.1.1.2 rfl (loc2 := [some (sR v0), some (sI v1), some (sR y1), some (sI (-1)), some (sI (-1)), some (sR (g (g v0 0) 1)), some (sI (sz (g (g v0 0) 1))), none, none, none]) rfl ?_
  refine go_int kk57_0.1.2.1.2.1.1 0 rfl ?_
  refine go_istore kk57_0.1.2.1.2.1.2 rfl (loc2 := [some (sR v0), some (sI v1), some (sR y1), some (sI (-1)), some (sI (-1)), some (sR (g (g v0 0) 1)), some (sI (sz (g (g v0 0) 1))), some (sI 0), none, none]) rfl ?_
  exact tlC_heaviest_28 hd hg hK0 r2 r9 r10 fu (-1) (inR_of (by decide)) (-1) (inR_of (by decide)) 0 (inR_b (Or.inl rfl)) (some (sI v1)) rfl none rfl none rfl
theorem tfW_heaviest {Φ : ev_P} {d : Nat} (hd : 3 ≤ d) {g : gH} (hg : HR g) {v0 v1 v2 : Int} (h0 : RfR v0) (h1 : InR v1) (h2 : RfR v2) : Go Φ pr_P fN 1 (fW_heaviest g v0 v1 v2) d (pr_P 347) 0 (ev_loc (pr_P 347).1 [(sR v0), (sI v1), (sR v2)]) [] g 0 0 := by
  show Go Φ pr_P fN 1 (fW_heaviest g v0 v1 v2) d pr_m347 0 [some (sR v0), some (sI v1), some (sR v2), none] [] g 0 0
  unfold fW_heaviest
  refine go_aload kk347_0.1.1.1.1 rfl ?_
  refine go_int kk347_0.1.1.1.2 0 rfl ?_
  refine go_aload kk347_0.1.1.2.1 rfl ?_
  refine go_iload kk347_0.1.1.2.2 rfl ?_
  refine go_ck (fun q1 => ?_)
  refine go_callQ1 kk347_0.1.2.1.1 rfl rfl rfl ⟨by decide, _, rfl, q1⟩ ⟨by decide, by decide⟩ (by omega) (tfC_heaviest (by omega) hg q1  h1) (fun y2 r3 => ?_) (fun e6 E7 => ?_)
  · refine go_i2l kk347_0.1.2.1.2 r3 ?_
    refine go_ck (fun q8 => ?_)
    refine go_last kk347_0.1.2.2 hg q8 (inL_R r3) (fun g9 e10 => ?_)
    refine go_goto kk347_0.2.1.1.1 ?_
    refine go_int kk347_0.2.2.1.2 0 rfl ?_
    exact go_iret kk347_0.2.2.2 e10 (inR_b (Or.inl rfl)) ⟨by decide, by decide⟩ rfl
  · refine ge_ite (fun hE9 => ?_) (fun _ => ?_)
    · subst hE9
      refine ge_catch rfl kk347_0.2.1.1.2 rfl (loc2 := [some (sR v0), some (sI v1), some (sR v2), none]) rfl ?_
      refine go_int kk347_0.2.1.2 1 rfl ?_
      exact go_iret kk347_0.2.2.1.1 e6 (inR_b (Or.inr rfl)) ⟨by decide, by decide⟩ rfl
    exact ge_none
theorem tbC_groupsBelow_25 {Φ : ev_P} {d : Nat} (hd : 2 ≤ d) {g : gH} (hg : HR g) {v2 v4 v5 : Int} (h2 : RfR v2) (h4 : RfR v4) (h5 : InR v5) {X25 : Int → Int → Option (Nat × Int)} (HX25 : ∀ (v3 : Int) (h3 : InR v3) (v6 : Int) (h6 : InR v6) (u0 : Option ev_V) (w0 : nwo u0) (u1 : Option ev_V) (w1 : nwo u1) (u7 : Option ev_V) (w7 : nwo u7), Go Φ pr_P (fQ g) 1 (X25 v3 v6) d pr_m58 25 [u0, u1, some (sR v2), some (sI v3), some (sR v4), some (sI v5), some (sI v6), u7] [] g 1 6) : ∀ (v3 : Int) (h3 : InR v3) (v6 : Int) (h6 : InR v6) (u0 : Option ev_V) (w0 : nwo u0) (u1 : Option ev_V) (w1 : nwo u1) (u7 : Option ev_V) (w7 : nwo u7), Go Φ pr_P (fQ g) 1 (bC_groupsBelow_25 g v2 v4 v5 X25 v3 v6) d pr_m58 25 [u0, u1, some (sR v2), some (sI v3), some (sR v4), some (sI v5), some (sI v6), u7] [] g 1 6 := by
  intro v3 h3 v6 h6 u0 w0 u1 w1 u7 w7
  unfold bC_groupsBelow_25
  refine go_iload kk58_0.1.2.2.1.1.1 rfl ?_
  refine go_iload kk58_0.1.2.2.1.1.2 rfl ?_
  refine go_cmlt kk58_0.1.2.2.1.2 h6 h5 (fun c12 => ?_) (fun c13 => ?_)
  · refine go_aload kk58_0.1.2.2.2.1 rfl ?_
    refine go_iload kk58_0.1.2.2.2.2 rfl ?_
    refine go_ck (fun q15 => ?_)
    refine go_pald kk58_0.2.1.1.1.1.1 hg q15 (fun r14 => ?_)
    refine go_astore kk58_0.2.1.1.1.1.2 rfl (loc2 := [u0, u1, some (sR v2), some (sI v3), some (sR v4), some (sI v5), some (sI v6), some (sR (g v4 v6))]) rfl ?_
    refine go_aload kk58_0.2.1.1.1.2 rfl ?_
    refine go_ck (fun q16 => ?_)
    refine go_callP3 kk58_0.2.1.1.2.1 rfl rfl rfl ⟨by decide, _, rfl, q16⟩ ⟨by decide, by decide⟩ (by omega) (tfP_isRunning (by omega) hg q16 ) (fun y17 r18 => ?_)
    refine go_ifeq kk58_0.2.1.1.2.2 (inR_b r18) (fun c21 => ?_) (fun c22 => ?_)
    · refine go_iinc kk58_0.2.2.2.1.1.2 rfl rfl 1 rfl (loc2 := [u0, u1, some (sR v2), some (sI v3), some (sR v4), some (sI v5), some (sI (w32 (v6 + 1))), some (sR (g v4 v6))]) rfl ?_
      refine go_goto kk58_0.2.2.2.1.2 ?_
      exact HX25 v3 h3 (w32 (v6 + 1)) (inR_w32 _) u0 w0 u1 w1 (some (sR (g v4 v6))) rfl
    · refine go_aload kk58_0.2.1.2.1.1.1 rfl ?_
      refine go_aload kk58_0.2.1.2.1.1.2 rfl ?_
      refine go_ck (fun q23 => ?_)
      refine go_callP3 kk58_0.2.1.2.1.2 rfl rfl rfl ⟨by decide, _, rfl, q23⟩ ⟨by decide, by decide⟩ (by omega) (tfP_isOver (by omega) hg q23  r14) (fun y24 r25 => ?_)
      refine go_ifeq kk58_0.2.1.2.2.1 (inR_b r25) (fun c28 => ?_) (fun c29 => ?_)
      · refine go_iinc kk58_0.2.2.2.1.1.2 rfl rfl 1 rfl (loc2 := [u0, u1, some (sR v2), some (sI v3), some (sR v4), some (sI v5), some (sI (w32 (v6 + 1))), some (sR (g v4 v6))]) rfl ?_
        refine go_goto kk58_0.2.2.2.1.2 ?_
        exact HX25 v3 h3 (w32 (v6 + 1)) (inR_w32 _) u0 w0 u1 w1 (some (sR (g v4 v6))) rfl
      · refine go_iload kk58_0.2.1.2.2.2 rfl ?_
        refine go_int kk58_0.2.2.1.1.1.1 1 rfl ?_
        refine go_aload kk58_0.2.2.1.1.1.2 rfl ?_
        refine go_getI (bI := 5) kk58_0.2.2.1.1.2 hg q16 (by decide) rfl rfl (fun r30 => ?_)
        refine go_ibin kk58_0.2.2.1.2.1 ?_
        refine go_ibin kk58_0.2.2.1.2.2 ?_
        refine go_istore kk58_0.2.2.2.1.1.1 rfl (loc2 := [u0, u1, some (sR v2), some (sI (opI 2 v3 (opI 4 1 (g (g v4 v6) 5)))), some (sR v4), some (sI v5), some (sI v6), some (sR (g v4 v6))]) rfl ?_
        refine go_iinc kk58_0.2.2.2.1.1.2 rfl rfl 1 rfl (loc2 := [u0, u1, some (sR v2), some (sI (opI 2 v3 (opI 4 1 (g (g v4 v6) 5)))), some (sR v4), some (sI v5), some (sI (w32 (v6 + 1))), some (sR (g v4 v6))]) rfl ?_
        refine go_goto kk58_0.2.2.2.1.2 ?_
        exact HX25 (opI 2 v3 (opI 4 1 (g (g v4 v6) 5))) (inR_opI _ _ _) (w32 (v6 + 1)) (inR_w32 _) u0 w0 u1 w1 (some (sR (g v4 v6))) rfl
  · refine go_iload kk58_0.2.2.2.2.1 rfl ?_
    exact go_iret kk58_0.2.2.2.2.2 hg h3 ⟨by decide, by decide⟩ rfl
theorem tlC_groupsBelow_25 {Φ : ev_P} {d : Nat} (hd : 2 ≤ d) {g : gH} (hg : HR g) {v2 v4 v5 : Int} (h2 : RfR v2) (h4 : RfR v4) (h5 : InR v5) : ∀ n : Nat, ∀ (v3 : Int) (h3 : InR v3) (v6 : Int) (h6 : InR v6) (u0 : Option ev_V) (w0 : nwo u0) (u1 : Option ev_V) (w1 : nwo u1) (u7 : Option ev_V) (w7 : nwo u7), Go Φ pr_P (fQ g) 1 (lC_groupsBelow_25 g v2 v4 v5 n v3 v6) d pr_m58 25 [u0, u1, some (sR v2), some (sI v3), some (sR v4), some (sI v5), some (sI v6), u7] [] g 1 6 := by
  intro n
  induction n with
  | zero => intros; exact go_none
  | succ n ih => exact tbC_groupsBelow_25 hd hg h2 h4 h5 ih
theorem tfC_groupsBelow {Φ : ev_P} {d : Nat} (hd : 2 ≤ d) {g : gH} (hg : HR g) {v0 v1 : Int} (hK0 : kd v0 = 6) (h1 : InR v1) : Go Φ pr_P (fQ g) 1 (fC_groupsBelow g v0 v1) d (pr_P 58) 0 (ev_loc (pr_P 58).1 [(sR v0), (sI v1)]) [] g 0 0 := by
  show Go Φ pr_P (fQ g) 1 (fC_groupsBelow g v0 v1) d pr_m58 0 [some (sR v0), some (sI v1), none, none, none, none, none, none] [] g 0 0
  unfold fC_groupsBelow
  refine go_aload kk58_0.1.1.1.1.1.1 rfl ?_
  refine go_iload kk58_0.1.1.1.1.1.2 rfl ?_
  refine go_callQ2 kk58_0.1.1.1.1.2 rfl rfl rfl ⟨by decide, _, rfl, hK0⟩ ⟨by decide, by decide⟩ (by omega) (tfC_named (by omega) hg hK0  h1) (fun y1 r2 => ?_) (fun e5 E6 => ge_prop rfl ⟨by decide, by decide⟩ e5 rfl)
  refine go_astore kk58_0.1.1.1.2.1 rfl (loc2 := [some (sR v0), some (sI v1), some (sR y1), none, none, none, none, none]) rfl ?_
  refine go_int kk58_0.1.1.1.2.2 0 rfl ?_
  refine go_istore kk58_0.1.1.2.1.1.1 rfl (loc2 := [some (sR v0), some (sI v1), some (sR y1), some (sI 0), none, none, none, none]) rfl ?_
  refine go_aload kk58_0.1.1.2.1.1.2 rfl ?_
  refine go_getR (bI := 0) kk58_0.1.1.2.1.2 hg hK0 (by decide) rfl rfl (fun r7 => ?_)
  refine go_ck (fun q8 => ?_)
  refine go_getR (bI := 1) kk58_0.1.1.2.2.1 hg q8 (by decide) rfl rfl (fun r9 => ?_)
  refine go_astore kk58_0.1.1.2.2.2 rfl (loc2 := [some (sR v0), some (sI v1), some (sR y1), some (sI 0), some (sR (g (g v0 0) 1)), none, none, none]) rfl ?_
  refine go_aload kk58_0.1.2.1.1.1.1 rfl ?_
  refine go_ck (fun q11 => ?_)
  refine go_alen kk58_0.1.2.1.1.1.2 (ka_24 q11) (fun r10 => ?_)
  refine go_istore kk58_0.1.2.1.1.2 rfl (loc2 := [some (sR v0), some (sI v1), some (sR y1), some (sI 0), some (sR (g (g v0 0) 1)), some (sI (sz (g (g v0 0) 1))), none, none]) rfl ?_
  refine go_int kk58_0.1.2.1.2.1 0 rfl ?_
  refine go_istore kk58_0.1.2.1.2.2 rfl (loc2 := [some (sR v0), some (sI v1), some (sR y1), some (sI 0), some (sR (g (g v0 0) 1)), some (sI (sz (g (g v0 0) 1))), some (sI 0), none]) rfl ?_
  exact tlC_groupsBelow_25 hd hg r2 r9 r10 fu 0 (inR_b (Or.inl rfl)) 0 (inR_b (Or.inl rfl)) (some (sR v0)) rfl (some (sI v1)) rfl none rfl
theorem tfW_groupsBelow {Φ : ev_P} {d : Nat} (hd : 3 ≤ d) {g : gH} (hg : HR g) {v0 v1 v2 : Int} (h0 : RfR v0) (h1 : InR v1) (h2 : RfR v2) : Go Φ pr_P fN 1 (fW_groupsBelow g v0 v1 v2) d (pr_P 348) 0 (ev_loc (pr_P 348).1 [(sR v0), (sI v1), (sR v2)]) [] g 0 0 := by
  show Go Φ pr_P fN 1 (fW_groupsBelow g v0 v1 v2) d pr_m348 0 [some (sR v0), some (sI v1), some (sR v2), none] [] g 0 0
  unfold fW_groupsBelow
  refine go_aload kk348_0.1.1.1.1 rfl ?_
  refine go_int kk348_0.1.1.1.2 0 rfl ?_
  refine go_aload kk348_0.1.1.2.1 rfl ?_
  refine go_iload kk348_0.1.1.2.2 rfl ?_
  refine go_ck (fun q1 => ?_)
  refine go_callQ1 kk348_0.1.2.1.1 rfl rfl rfl ⟨by decide, _, rfl, q1⟩ ⟨by decide, by decide⟩ (by omega) (tfC_groupsBelow (by omega) hg q1  h1) (fun y2 r3 => ?_) (fun e6 E7 => ?_)
  · refine go_i2l kk348_0.1.2.1.2 r3 ?_
    refine go_ck (fun q8 => ?_)
    refine go_last kk348_0.1.2.2 hg q8 (inL_R r3) (fun g9 e10 => ?_)
    refine go_goto kk348_0.2.1.1.1 ?_
    refine go_int kk348_0.2.2.1.2 0 rfl ?_
    exact go_iret kk348_0.2.2.2 e10 (inR_b (Or.inl rfl)) ⟨by decide, by decide⟩ rfl
  · refine ge_ite (fun hE9 => ?_) (fun _ => ?_)
    · subst hE9
      refine ge_catch rfl kk348_0.2.1.1.2 rfl (loc2 := [some (sR v0), some (sI v1), some (sR v2), none]) rfl ?_
      refine go_int kk348_0.2.1.2 1 rfl ?_
      exact go_iret kk348_0.2.2.1.1 e6 (inR_b (Or.inr rfl)) ⟨by decide, by decide⟩ rfl
    exact ge_none
theorem tbC_strangers_25 {Φ : ev_P} {d : Nat} (hd : 2 ≤ d) {g : gH} (hg : HR g) {v2 v4 v5 : Int} (h2 : RfR v2) (h4 : RfR v4) (h5 : InR v5) {X25 : Int → Int → Option (Nat × Int)} (HX25 : ∀ (v3 : Int) (h3 : InR v3) (v6 : Int) (h6 : InR v6) (u0 : Option ev_V) (w0 : nwo u0) (u1 : Option ev_V) (w1 : nwo u1) (u7 : Option ev_V) (w7 : nwo u7), Go Φ pr_P (fQ g) 1 (X25 v3 v6) d pr_m59 25 [u0, u1, some (sR v2), some (sI v3), some (sR v4), some (sI v5), some (sI v6), u7] [] g 1 6) : ∀ (v3 : Int) (h3 : InR v3) (v6 : Int) (h6 : InR v6) (u0 : Option ev_V) (w0 : nwo u0) (u1 : Option ev_V) (w1 : nwo u1) (u7 : Option ev_V) (w7 : nwo u7), Go Φ pr_P (fQ g) 1 (bC_strangers_25 g v2 v4 v5 X25 v3 v6) d pr_m59 25 [u0, u1, some (sR v2), some (sI v3), some (sR v4), some (sI v5), some (sI v6), u7] [] g 1 6 := by
  intro v3 h3 v6 h6 u0 w0 u1 w1 u7 w7
  unfold bC_strangers_25
  refine go_iload kk59_0.1.2.2.1.2 rfl ?_
  refine go_iload kk59_0.1.2.2.2.1 rfl ?_
  refine go_cmlt kk59_0.1.2.2.2.2 h6 h5 (fun c12 => ?_) (fun c13 => ?_)
  · refine go_aload kk59_0.2.1.1.1.1.1 rfl ?_
    refine go_iload kk59_0.2.1.1.1.1.2 rfl ?_
    refine go_ck (fun q15 => ?_)
    refine go_pald kk59_0.2.1.1.1.2 hg q15 (fun r14 => ?_)
    refine go_astore kk59_0.2.1.1.2.1 rfl (loc2 := [u0, u1, some (sR v2), some (sI v3), some (sR v4), some (sI v5), some (sI v6), some (sR (g v4 v6))]) rfl ?_
    refine go_aload kk59_0.2.1.1.2.2 rfl ?_
    refine go_aload kk59_0.2.1.2.1.1 rfl ?_
    refine go_ck (fun q16 => ?_)
    refine go_callP3 kk59_0.2.1.2.1.2 rfl rfl rfl ⟨by decide, _, rfl, q16⟩ ⟨by decide, by decide⟩ (by omega) (tfP_isRunningChildOf (by omega) hg q16  h2) (fun y17 r18 => ?_)
    refine go_ifeq kk59_0.2.1.2.2.1 (inR_b r18) (fun c21 => ?_) (fun c22 => ?_)
    · refine go_iinc kk59_0.2.2.2.1.1 rfl rfl 1 rfl (loc2 := [u0, u1, some (sR v2), some (sI v3), some (sR v4), some (sI v5), some (sI (w32 (v6 + 1))), some (sR (g v4 v6))]) rfl ?_
      refine go_goto kk59_0.2.2.2.1.2 ?_
      exact HX25 v3 h3 (w32 (v6 + 1)) (inR_w32 _) u0 w0 u1 w1 (some (sR (g v4 v6))) rfl
    · refine go_aload kk59_0.2.1.2.2.2 rfl ?_
      refine go_getI (bI := 5) kk59_0.2.2.1.1.1.1 hg q16 (by decide) rfl rfl (fun r23 => ?_)
      refine go_aload kk59_0.2.2.1.1.1.2 rfl ?_
      refine go_ck (fun q24 => ?_)
      refine go_getI (bI := 5) kk59_0.2.2.1.1.2 hg q24 (by decide) rfl rfl (fun r25 => ?_)
      refine go_cmeq kk59_0.2.2.1.2.1 r23 r25 (fun c26 => ?_) (fun c27 => ?_)
      · refine go_iinc kk59_0.2.2.2.1.1 rfl rfl 1 rfl (loc2 := [u0, u1, some (sR v2), some (sI v3), some (sR v4), some (sI v5), some (sI (w32 (v6 + 1))), some (sR (g v4 v6))]) rfl ?_
        refine go_goto kk59_0.2.2.2.1.2 ?_
        exact HX25 v3 h3 (w32 (v6 + 1)) (inR_w32 _) u0 w0 u1 w1 (some (sR (g v4 v6))) rfl
      · refine go_iinc kk59_0.2.2.1.2.2 rfl rfl 1 rfl (loc2 := [u0, u1, some (sR v2), some (sI (w32 (v3 + 1))), some (sR v4), some (sI v5), some (sI v6), some (sR (g v4 v6))]) rfl ?_
        refine go_iinc kk59_0.2.2.2.1.1 rfl rfl 1 rfl (loc2 := [u0, u1, some (sR v2), some (sI (w32 (v3 + 1))), some (sR v4), some (sI v5), some (sI (w32 (v6 + 1))), some (sR (g v4 v6))]) rfl ?_
        refine go_goto kk59_0.2.2.2.1.2 ?_
        exact HX25 (w32 (v3 + 1)) (inR_w32 _) (w32 (v6 + 1)) (inR_w32 _) u0 w0 u1 w1 (some (sR (g v4 v6))) rfl
  · refine go_iload kk59_0.2.2.2.2.1 rfl ?_
    exact go_iret kk59_0.2.2.2.2.2 hg h3 ⟨by decide, by decide⟩ rfl
theorem tlC_strangers_25 {Φ : ev_P} {d : Nat} (hd : 2 ≤ d) {g : gH} (hg : HR g) {v2 v4 v5 : Int} (h2 : RfR v2) (h4 : RfR v4) (h5 : InR v5) : ∀ n : Nat, ∀ (v3 : Int) (h3 : InR v3) (v6 : Int) (h6 : InR v6) (u0 : Option ev_V) (w0 : nwo u0) (u1 : Option ev_V) (w1 : nwo u1) (u7 : Option ev_V) (w7 : nwo u7), Go Φ pr_P (fQ g) 1 (lC_strangers_25 g v2 v4 v5 n v3 v6) d pr_m59 25 [u0, u1, some (sR v2), some (sI v3), some (sR v4), some (sI v5), some (sI v6), u7] [] g 1 6 := by
  intro n
  induction n with
  | zero => intros; exact go_none
  | succ n ih => exact tbC_strangers_25 hd hg h2 h4 h5 ih
theorem tfC_strangers {Φ : ev_P} {d : Nat} (hd : 2 ≤ d) {g : gH} (hg : HR g) {v0 v1 : Int} (hK0 : kd v0 = 6) (h1 : InR v1) : Go Φ pr_P (fQ g) 1 (fC_strangers g v0 v1) d (pr_P 59) 0 (ev_loc (pr_P 59).1 [(sR v0), (sI v1)]) [] g 0 0 := by
  show Go Φ pr_P (fQ g) 1 (fC_strangers g v0 v1) d pr_m59 0 [some (sR v0), some (sI v1), none, none, none, none, none, none] [] g 0 0
  unfold fC_strangers
  refine go_aload kk59_0.1.1.1.1.1.1 rfl ?_
  refine go_iload kk59_0.1.1.1.1.1.2 rfl ?_
  refine go_callQ2 kk59_0.1.1.1.1.2 rfl rfl rfl ⟨by decide, _, rfl, hK0⟩ ⟨by decide, by decide⟩ (by omega) (tfC_named (by omega) hg hK0  h1) (fun y1 r2 => ?_) (fun e5 E6 => ge_prop rfl ⟨by decide, by decide⟩ e5 rfl)
  refine go_astore kk59_0.1.1.1.2.1 rfl (loc2 := [some (sR v0), some (sI v1), some (sR y1), none, none, none, none, none]) rfl ?_
  refine go_int kk59_0.1.1.1.2.2 0 rfl ?_
  refine go_istore kk59_0.1.1.2.1.1 rfl (loc2 := [some (sR v0), some (sI v1), some (sR y1), some (sI 0), none, none, none, none]) rfl ?_
  refine go_aload kk59_0.1.1.2.1.2 rfl ?_
  refine go_getR (bI := 0) kk59_0.1.1.2.2.1 hg hK0 (by decide) rfl rfl (fun r7 => ?_)
  refine go_ck (fun q8 => ?_)
  refine go_getR (bI := 1) kk59_0.1.1.2.2.2 hg q8 (by decide) rfl rfl (fun r9 => ?_)
  refine go_astore kk59_0.1.2.1.1.1.1 rfl (loc2 := [some (sR v0), some (sI v1), some (sR y1), some (sI 0), some (sR (g (g v0 0) 1)), none, none, none]) rfl ?_
  refine go_aload kk59_0.1.2.1.1.1.2 rfl ?_
  refine go_ck (fun q11 => ?_)
  refine go_alen kk59_0.1.2.1.1.2 (ka_24 q11) (fun r10 => ?_)
  refine go_istore kk59_0.1.2.1.2.1 rfl (loc2 := [some (sR v0), some (sI v1), some (sR y1), some (sI 0), some (sR (g (g v0 0) 1)), some (sI (sz (g (g v0 0) 1))), none, none]) rfl ?_
  refine go_int kk59_0.1.2.1.2.2 0 rfl ?_
  refine go_istore kk59_0.1.2.2.1.1 rfl (loc2 := [some (sR v0), some (sI v1), some (sR y1), some (sI 0), some (sR (g (g v0 0) 1)), some (sI (sz (g (g v0 0) 1))), some (sI 0), none]) rfl ?_
  exact tlC_strangers_25 hd hg r2 r9 r10 fu 0 (inR_b (Or.inl rfl)) 0 (inR_b (Or.inl rfl)) (some (sR v0)) rfl (some (sI v1)) rfl none rfl
theorem tfW_strangers {Φ : ev_P} {d : Nat} (hd : 3 ≤ d) {g : gH} (hg : HR g) {v0 v1 v2 : Int} (h0 : RfR v0) (h1 : InR v1) (h2 : RfR v2) : Go Φ pr_P fN 1 (fW_strangers g v0 v1 v2) d (pr_P 349) 0 (ev_loc (pr_P 349).1 [(sR v0), (sI v1), (sR v2)]) [] g 0 0 := by
  show Go Φ pr_P fN 1 (fW_strangers g v0 v1 v2) d pr_m349 0 [some (sR v0), some (sI v1), some (sR v2), none] [] g 0 0
  unfold fW_strangers
  refine go_aload kk349_0.1.1.1.1 rfl ?_
  refine go_int kk349_0.1.1.1.2 0 rfl ?_
  refine go_aload kk349_0.1.1.2.1 rfl ?_
  refine go_iload kk349_0.1.1.2.2 rfl ?_
  refine go_ck (fun q1 => ?_)
  refine go_callQ1 kk349_0.1.2.1.1 rfl rfl rfl ⟨by decide, _, rfl, q1⟩ ⟨by decide, by decide⟩ (by omega) (tfC_strangers (by omega) hg q1  h1) (fun y2 r3 => ?_) (fun e6 E7 => ?_)
  · refine go_i2l kk349_0.1.2.1.2 r3 ?_
    refine go_ck (fun q8 => ?_)
    refine go_last kk349_0.1.2.2 hg q8 (inL_R r3) (fun g9 e10 => ?_)
    refine go_goto kk349_0.2.1.1.1 ?_
    refine go_int kk349_0.2.2.1.2 0 rfl ?_
    exact go_iret kk349_0.2.2.2 e10 (inR_b (Or.inl rfl)) ⟨by decide, by decide⟩ rfl
  · refine ge_ite (fun hE9 => ?_) (fun _ => ?_)
    · subst hE9
      refine ge_catch rfl kk349_0.2.1.1.2 rfl (loc2 := [some (sR v0), some (sI v1), some (sR v2), none]) rfl ?_
      refine go_int kk349_0.2.1.2 1 rfl ?_
      exact go_iret kk349_0.2.2.1.1 e6 (inR_b (Or.inr rfl)) ⟨by decide, by decide⟩ rfl
    exact ge_none
theorem tfO_putSign {Φ : ev_P} {d : Nat} (hd : 0 ≤ d) {g : gH} (hg : HR g) {v0 v1 : Int} (hK0 : kd v0 = 2) (h1 : InR v1) : Go Φ pr_P fN 0 (fO_putSign g v0 v1) d (pr_P 225) 0 (ev_loc (pr_P 225).1 [(sR v0), (sI v1)]) [] g 0 0 := by
  show Go Φ pr_P fN 0 (fO_putSign g v0 v1) d pr_m225 0 [some (sR v0), some (sI v1)] [] g 0 0
  unfold fO_putSign
  refine go_aload kk225_0.1.1.1.1.1 rfl ?_
  refine go_getI (bI := 1) kk225_0.1.1.1.1.2 hg hK0 (by decide) rfl rfl (fun r1 => ?_)
  refine go_iflt kk225_0.1.1.1.2 r1 (fun c2 => ?_) (fun c3 => ?_)
  · exact go_vret kk225_0.2.2.2.2 hg ⟨Nat.zero_le _, Nat.zero_le _⟩ rfl
  · refine go_aload kk225_0.1.1.2.1.1 rfl ?_
    refine go_getI (bI := 1) kk225_0.1.1.2.1.2 hg hK0 (by decide) rfl rfl (fun r4 => ?_)
    refine go_int kk225_0.1.1.2.2 300 rfl ?_
    refine go_cmlt kk225_0.1.2.1.1.1 r4 (inR_of (by decide)) (fun c5 => ?_) (fun c6 => ?_)
    · refine go_aload kk225_0.1.2.1.1.2 rfl ?_
      refine go_getR (bI := 0) kk225_0.1.2.1.2 hg hK0 (by decide) rfl rfl (fun r7 => ?_)
      refine go_aload kk225_0.1.2.2.1 rfl ?_
      refine go_getI (bI := 1) kk225_0.1.2.2.2 hg hK0 (by decide) rfl rfl (fun r8 => ?_)
      refine go_iload kk225_0.2.1.1.1.1 rfl ?_
      refine go_i2b kk225_0.2.1.1.1.2 ?_
      refine go_ck (fun q9 => ?_)
      refine go_bast kk225_0.2.1.1.2 hg q9 (fun g10 e11 => ?_)
      refine go_aload kk225_0.2.1.2.1 rfl ?_
      refine go_dupR kk225_0.2.1.2.2 ?_
      refine go_getI (bI := 1) kk225_0.2.2.1.1.1 e11 hK0 (by decide) rfl rfl (fun r12 => ?_)
      refine go_int kk225_0.2.2.1.1.2 1 rfl ?_
      refine go_iadd kk225_0.2.2.1.2 ?_
      refine go_putI (bI := 1) kk225_0.2.2.2.1 e11 hK0 (by decide) rfl rfl (inR_w32 _) (fun g13 e14 => ?_)
      exact go_vret kk225_0.2.2.2.2 e14 ⟨Nat.zero_le _, Nat.zero_le _⟩ rfl
    · exact go_vret kk225_0.2.2.2.2 hg ⟨Nat.zero_le _, Nat.zero_le _⟩ rfl
theorem tjO_putNumber_18 {Φ : ev_P} {d : Nat} (hd : 1 ≤ d) {g : gH} (hg : HR g) {v0 v1 : Int} (hK0 : kd v0 = 2) (h1 : InR v1) : Go Φ pr_P fN 0 (jO_putNumber_18 g v0 v1 ) d pr_m226 18 [some (sR v0), some (sI v1)] [] g 0 0 := by
  unfold jO_putNumber_18
  refine go_iload kk226_0.1.2.1.2.1 rfl ?_
  refine go_int kk226_0.1.2.1.2.2 10 rfl ?_
  refine go_cmlt kk226_0.1.2.2.1.1 h1 (inR_of (by decide)) (fun c8 => ?_) (fun c9 => ?_)
  · refine go_aload kk226_0.2.1.2.2.2 rfl ?_
    refine go_int kk226_0.2.2.1.1.1 48 rfl ?_
    refine go_iload kk226_0.2.2.1.1.2 rfl ?_
    refine go_int kk226_0.2.2.1.2.1 10 rfl ?_
    refine go_ck (fun q10 => ?_)
    refine go_rem kk226_0.2.2.1.2.2 q10 ?_
    refine go_iadd kk226_0.2.2.2.1.1 ?_
    refine go_i2c kk226_0.2.2.2.1.2 ?_
    refine go_callN0 kk226_0.2.2.2.2.1 rfl rfl rfl ⟨by decide, _, rfl, hK0⟩ ⟨Nat.zero_le _, Nat.zero_le _⟩ (by omega) (tfO_putSign (by omega) hg hK0  (inR_i2c _)) (fun y11 g13 e14 => ?_)
    exact go_vret kk226_0.2.2.2.2.2 e14 ⟨Nat.zero_le _, Nat.zero_le _⟩ rfl
  · refine go_aload kk226_0.1.2.2.1.2 rfl ?_
    refine go_int kk226_0.1.2.2.2.1 48 rfl ?_
    refine go_iload kk226_0.1.2.2.2.2 rfl ?_
    refine go_int kk226_0.2.1.1.1.1 10 rfl ?_
    refine go_ck (fun q15 => ?_)
    refine go_div kk226_0.2.1.1.1.2 q15 ?_
    refine go_int kk226_0.2.1.1.2.1 10 rfl ?_
    refine go_ck (fun q16 => ?_)
    refine go_rem kk226_0.2.1.1.2.2 q16 ?_
    refine go_iadd kk226_0.2.1.2.1.1 ?_
    refine go_i2c kk226_0.2.1.2.1.2 ?_
    refine go_callN0 kk226_0.2.1.2.2.1 rfl rfl rfl ⟨by decide, _, rfl, hK0⟩ ⟨Nat.zero_le _, Nat.zero_le _⟩ (by omega) (tfO_putSign (by omega) hg hK0  (inR_i2c _)) (fun y17 g19 e20 => ?_)
    refine go_aload kk226_0.2.1.2.2.2 rfl ?_
    refine go_int kk226_0.2.2.1.1.1 48 rfl ?_
    refine go_iload kk226_0.2.2.1.1.2 rfl ?_
    refine go_int kk226_0.2.2.1.2.1 10 rfl ?_
    refine go_ck (fun q21 => ?_)
    refine go_rem kk226_0.2.2.1.2.2 q21 ?_
    refine go_iadd kk226_0.2.2.2.1.1 ?_
    refine go_i2c kk226_0.2.2.2.1.2 ?_
    refine go_callN0 kk226_0.2.2.2.2.1 rfl rfl rfl ⟨by decide, _, rfl, hK0⟩ ⟨Nat.zero_le _, Nat.zero_le _⟩ (by omega) (tfO_putSign (by omega) e20 hK0  (inR_i2c _)) (fun y22 g24 e25 => ?_)
    exact go_vret kk226_0.2.2.2.2.2 e25 ⟨Nat.zero_le _, Nat.zero_le _⟩ rfl
theorem tfO_putNumber {Φ : ev_P} {d : Nat} (hd : 1 ≤ d) {g : gH} (hg : HR g) {v0 v1 : Int} (hK0 : kd v0 = 2) (h1 : InR v1) : Go Φ pr_P fN 0 (fO_putNumber g v0 v1) d (pr_P 226) 0 (ev_loc (pr_P 226).1 [(sR v0), (sI v1)]) [] g 0 0 := by
  show Go Φ pr_P fN 0 (fO_putNumber g v0 v1) d pr_m226 0 [some (sR v0), some (sI v1)] [] g 0 0
  unfold fO_putNumber
  refine go_iload kk226_0.1.1.1.1.1.1 rfl ?_
  refine go_int kk226_0.1.1.1.1.1.2 100 rfl ?_
  refine go_cmlt kk226_0.1.1.1.1.2 h1 (inR_of (by decide)) (fun c1 => ?_) (fun c2 => ?_)
  · exact tjO_putNumber_18 hd hg hK0 h1
  · refine go_aload kk226_0.1.1.1.2.1 rfl ?_
    refine go_int kk226_0.1.1.1.2.2 48 rfl ?_
    refine go_iload kk226_0.1.1.2.1.1 rfl ?_
    refine go_int kk226_0.1.1.2.1.2 100 rfl ?_
    refine go_ck (fun q3 => ?_)
    refine go_div kk226_0.1.1.2.2.1 q3 ?_
    refine go_iadd kk226_0.1.1.2.2.2 ?_
    refine go_i2c kk226_0.1.2.1.1.1 ?_
    refine go_callN0 kk226_0.1.2.1.1.2 rfl rfl rfl ⟨by decide, _, rfl, hK0⟩ ⟨Nat.zero_le _, Nat.zero_le _⟩ (by omega) (tfO_putSign (by omega) hg hK0  (inR_i2c _)) (fun y4 g6 e7 => ?_)
    exact tjO_putNumber_18 hd e7 hK0 h1
theorem tbC_putBranch_40 {Φ : ev_P} {d : Nat} (hd : 3 ≤ d) {R : gH → Int → Int → Int → Int → Option (Int × gH)} (HR0 : ∀ (g : gH) (hg : HR g) (v0 : Int) (v1 : Int) (v2 : Int) (v3 : Int) (h0 : RfR v0) (h1 : RfR v1) (h2 : RfR v2) (h3 : InR v3), Go Φ pr_P fN 0 (R g v0 v1 v2 v3) (d - 1) (pr_P 72) 0 (ev_loc (pr_P 72).1 [(sR v0), (sR v1), (sR v2), (sI v3)]) [] g 0 0) {v0 v1 v2 v3 v5 v6 : Int} (h0 : RfR v0) (h1 : RfR v1) (h2 : RfR v2) (h3 : InR v3) (h5 : RfR v5) (h6 : InR v6) {X40 : Int → Int → gH → Option (Int × gH)} (HX40 : ∀ (v4 : Int) (h4 : InR v4) (v7 : Int) (h7 : InR v7) (g : gH) (hg : HR g) (u8 : Option ev_V) (w8 : nwo u8), Go Φ pr_P fN 0 (X40 v4 v7 g) d pr_m72 40 [some (sR v0), some (sR v1), some (sR v2), some (sI v3), some (sI v4), some (sR v5), some (sI v6), some (sI v7), u8] [] g 0 0) : ∀ (v4 : Int) (h4 : InR v4) (v7 : Int) (h7 : InR v7) (g : gH) (hg : HR g) (u8 : Option ev_V) (w8 : nwo u8), Go Φ pr_P fN 0 (bC_putBranch_40 R v0 v1 v2 v3 v5 v6 X40 v4 v7 g) d pr_m72 40 [some (sR v0), some (sR v1), some (sR v2), some (sI v3), some (sI v4), some (sR v5), some (sI v6), some (sI v7), u8] [] g 0 0 := by
  intro v4 h4 v7 h7 g hg u8 w8
  unfold bC_putBranch_40
  refine go_iload kk72_0.1.2.2.1.2 rfl ?_
  refine go_iload kk72_0.1.2.2.2.1.1 rfl ?_
  refine go_cmlt kk72_0.1.2.2.2.1.2 h7 h6 (fun c17 => ?_) (fun c18 => ?_)
  · refine go_aload kk72_0.1.2.2.2.2 rfl ?_
    refine go_iload kk72_0.2.1.1.1.1.1 rfl ?_
    refine go_ck (fun q20 => ?_)
    refine go_pald kk72_0.2.1.1.1.1.2 hg q20 (fun r19 => ?_)
    refine go_astore kk72_0.2.1.1.1.2.1 rfl (loc2 := [some (sR v0), some (sR v1), some (sR v2), some (sI v3), some (sI v4), some (sR v5), some (sI v6), some (sI v7), some (sR (g v5 v7))]) rfl ?_
    refine go_aload kk72_0.2.1.1.1.2.2 rfl ?_
    refine go_aload kk72_0.2.1.1.2.1.1 rfl ?_
    refine go_ck (fun q21 => ?_)
    refine go_callP3 kk72_0.2.1.1.2.1.2 rfl rfl rfl ⟨by decide, _, rfl, q21⟩ ⟨Nat.zero_le _, Nat.zero_le _⟩ (by omega) (tfP_isRunningChildOf (by omega) hg q21  h2) (fun y22 r23 => ?_)
    refine go_ifeq kk72_0.2.1.1.2.2 (inR_b r23) (fun c26 => ?_) (fun c27 => ?_)
    · refine go_iinc kk72_0.2.2.2.1.1.1 rfl rfl 1 rfl (loc2 := [some (sR v0), some (sR v1), some (sR v2), some (sI v3), some (sI v4), some (sR v5), some (sI v6), some (sI (w32 (v7 + 1))), some (sR (g v5 v7))]) rfl ?_
      refine go_goto kk72_0.2.2.2.1.1.2 ?_
      exact HX40 v4 h4 (w32 (v7 + 1)) (inR_w32 _) g hg (some (sR (g v5 v7))) rfl
    · refine go_aload kk72_0.2.1.2.1.1.1 rfl ?_
      refine go_iload kk72_0.2.1.2.1.1.2 rfl ?_
      refine go_ck (fun q28 => ?_)
      refine go_callN0 kk72_0.2.1.2.1.2 rfl rfl rfl ⟨by decide, _, rfl, q28⟩ ⟨Nat.zero_le _, Nat.zero_le _⟩ (by omega) (tfO_putSign (by omega) hg q28  h4) (fun y29 g31 e32 => ?_)
      refine go_aload kk72_0.2.1.2.2.1.1 rfl ?_
      refine go_aload kk72_0.2.1.2.2.1.2 rfl ?_
      refine go_aload kk72_0.2.1.2.2.2 rfl ?_
      refine go_iload kk72_0.2.2.1.1.1.1 rfl ?_
      refine go_int kk72_0.2.2.1.1.1.2 1 rfl ?_
      refine go_iadd kk72_0.2.2.1.1.2 ?_
      refine go_callN0 kk72_0.2.2.1.2.1.1 rfl rfl rfl trivial ⟨Nat.zero_le _, Nat.zero_le _⟩ (by omega) (HR0 g31 e32 v0 v1 (g v5 v7) (w32 (v3 + 1))  h0 h1 r19 (inR_w32 _)) (fun y33 g35 e36 => ?_)
      refine go_int kk72_0.2.2.1.2.1.2 32 rfl ?_
      refine go_istore kk72_0.2.2.1.2.2 rfl (loc2 := [some (sR v0), some (sR v1), some (sR v2), some (sI v3), some (sI 32), some (sR v5), some (sI v6), some (sI v7), some (sR (g v5 v7))]) rfl ?_
      refine go_iinc kk72_0.2.2.2.1.1.1 rfl rfl 1 rfl (loc2 := [some (sR v0), some (sR v1), some (sR v2), some (sI v3), some (sI 32), some (sR v5), some (sI v6), some (sI (w32 (v7 + 1))), some (sR (g v5 v7))]) rfl ?_
      refine go_goto kk72_0.2.2.2.1.1.2 ?_
      exact HX40 32 (inR_of (by decide)) (w32 (v7 + 1)) (inR_w32 _) g35 e36 (some (sR (g v5 v7))) rfl
  · refine go_aload kk72_0.2.2.2.1.2 rfl ?_
    refine go_int kk72_0.2.2.2.2.1.1 41 rfl ?_
    refine go_ck (fun q37 => ?_)
    refine go_callN0 kk72_0.2.2.2.2.1.2 rfl rfl rfl ⟨by decide, _, rfl, q37⟩ ⟨Nat.zero_le _, Nat.zero_le _⟩ (by omega) (tfO_putSign (by omega) hg q37  (inR_of (by decide))) (fun y38 g40 e41 => ?_)
    exact go_vret kk72_0.2.2.2.2.2 e41 ⟨Nat.zero_le _, Nat.zero_le _⟩ rfl
theorem tlC_putBranch_40 {Φ : ev_P} {d : Nat} (hd : 3 ≤ d) {R : gH → Int → Int → Int → Int → Option (Int × gH)} (HR0 : ∀ (g : gH) (hg : HR g) (v0 : Int) (v1 : Int) (v2 : Int) (v3 : Int) (h0 : RfR v0) (h1 : RfR v1) (h2 : RfR v2) (h3 : InR v3), Go Φ pr_P fN 0 (R g v0 v1 v2 v3) (d - 1) (pr_P 72) 0 (ev_loc (pr_P 72).1 [(sR v0), (sR v1), (sR v2), (sI v3)]) [] g 0 0) {v0 v1 v2 v3 v5 v6 : Int} (h0 : RfR v0) (h1 : RfR v1) (h2 : RfR v2) (h3 : InR v3) (h5 : RfR v5) (h6 : InR v6) : ∀ n : Nat, ∀ (v4 : Int) (h4 : InR v4) (v7 : Int) (h7 : InR v7) (g : gH) (hg : HR g) (u8 : Option ev_V) (w8 : nwo u8), Go Φ pr_P fN 0 (lC_putBranch_40 R v0 v1 v2 v3 v5 v6 n v4 v7 g) d pr_m72 40 [some (sR v0), some (sR v1), some (sR v2), some (sI v3), some (sI v4), some (sR v5), some (sI v6), some (sI v7), u8] [] g 0 0 := by
  intro n
  induction n with
  | zero => intros; exact go_none
  | succ n ih => exact tbC_putBranch_40 hd HR0 h0 h1 h2 h3 h5 h6 ih
theorem tfbC_putBranch {Φ : ev_P} {d : Nat} (hd : 3 ≤ d) {R : gH → Int → Int → Int → Int → Option (Int × gH)} (HR0 : ∀ (g : gH) (hg : HR g) (v0 : Int) (v1 : Int) (v2 : Int) (v3 : Int) (h0 : RfR v0) (h1 : RfR v1) (h2 : RfR v2) (h3 : InR v3), Go Φ pr_P fN 0 (R g v0 v1 v2 v3) (d - 1) (pr_P 72) 0 (ev_loc (pr_P 72).1 [(sR v0), (sR v1), (sR v2), (sI v3)]) [] g 0 0) {g : gH} (hg : HR g) {v0 v1 v2 v3 : Int} (h0 : RfR v0) (h1 : RfR v1) (h2 : RfR v2) (h3 : InR v3) : Go Φ pr_P fN 0 (fbC_putBranch R g v0 v1 v2 v3) d (pr_P 72) 0 (ev_loc (pr_P 72).1 [(sR v0), (sR v1), (sR v2), (sI v3)]) [] g 0 0 := by
  show Go Φ pr_P fN 0 (fbC_putBranch R g v0 v1 v2 v3) d pr_m72 0 [some (sR v0), some (sR v1), some (sR v2), some (sI v3), none, none, none, none, none] [] g 0 0
  unfold fbC_putBranch
  refine go_aload kk72_0.1.1.1.1.1.1 rfl ?_
  refine go_aload kk72_0.1.1.1.1.1.2 rfl ?_
  refine go_ck (fun q1 => ?_)
  refine go_getI (bI := 0) kk72_0.1.1.1.1.2.1 hg q1 (by decide) rfl rfl (fun r2 => ?_)
  refine go_ck (fun q3 => ?_)
  refine go_callN0 kk72_0.1.1.1.1.2.2 rfl rfl rfl ⟨by decide, _, rfl, q3⟩ ⟨Nat.zero_le _, Nat.zero_le _⟩ (by omega) (tfO_putNumber (by omega) hg q3  r2) (fun y4 g6 e7 => ?_)
  refine go_aload kk72_0.1.1.1.2.1.1 rfl ?_
  refine go_getI (bI := 3) kk72_0.1.1.1.2.1.2 e7 q1 (by decide) rfl rfl (fun r8 => ?_)
  refine go_ifeq kk72_0.1.1.1.2.2 r8 (fun c9 => ?_) (fun c10 => ?_)
  · exact go_vret kk72_0.1.1.2.2.1.1 e7 ⟨Nat.zero_le _, Nat.zero_le _⟩ rfl
  · refine go_iload kk72_0.1.1.2.1.1.1 rfl ?_
    refine go_int kk72_0.1.1.2.1.1.2 40 rfl ?_
    refine go_cmlt kk72_0.1.1.2.1.2 h3 (inR_of (by decide)) (fun c11 => ?_) (fun c12 => ?_)
    · refine go_int kk72_0.1.1.2.2.1.2 40 rfl ?_
      refine go_istore kk72_0.1.1.2.2.2 rfl (loc2 := [some (sR v0), some (sR v1), some (sR v2), some (sI v3), some (sI 40), none, none, none, none]) rfl ?_
      refine go_aload kk72_0.1.2.1.1.1.1 rfl ?_
      refine go_ck (fun q13 => ?_)
      refine go_getR (bI := 1) kk72_0.1.2.1.1.1.2 e7 q13 (by decide) rfl rfl (fun r14 => ?_)
      refine go_astore kk72_0.1.2.1.1.2 rfl (loc2 := [some (sR v0), some (sR v1), some (sR v2), some (sI v3), some (sI 40), some (sR (g6 v1 1)), none, none, none]) rfl ?_
      refine go_aload kk72_0.1.2.1.2.1.1 rfl ?_
      refine go_ck (fun q16 => ?_)
      refine go_alen kk72_0.1.2.1.2.1.2 (ka_24 q16) (fun r15 => ?_)
      refine go_istore kk72_0.1.2.1.2.2 rfl (loc2 := [some (sR v0), some (sR v1), some (sR v2), some (sI v3), some (sI 40), some (sR (g6 v1 1)), some (sI (sz (g6 v1 1))), none, none]) rfl ?_
      refine go_int kk72_0.1.2.2.1.1.1 0 rfl ?_
      refine go_istore kk72_0.1.2.2.1.1.2 rfl (loc2 := [some (sR v0), some (sR v1), some (sR v2), some (sI v3), some (sI 40), some (sR (g6 v1 1)), some (sI (sz (g6 v1 1))), some (sI 0), none]) rfl ?_
      exact tlC_putBranch_40 hd HR0 h0 h1 h2 h3 r14 r15 fu 40 (inR_of (by decide)) 0 (inR_b (Or.inl rfl)) g6 e7 none rfl
    · exact go_vret kk72_0.1.1.2.2.1.1 e7 ⟨Nat.zero_le _, Nat.zero_le _⟩ rfl
theorem tfnC_putBranch {Φ : ev_P} : ∀ (n d : Nat) (hd : n + 3 ≤ d), ∀ (g : gH) (hg : HR g) (v0 : Int) (v1 : Int) (v2 : Int) (v3 : Int) (h0 : RfR v0) (h1 : RfR v1) (h2 : RfR v2) (h3 : InR v3), Go Φ pr_P fN 0 (fC_putBranch n g v0 v1 v2 v3) d (pr_P 72) 0 (ev_loc (pr_P 72).1 [(sR v0), (sR v1), (sR v2), (sI v3)]) [] g 0 0 := by
  intro n
  induction n with
  | zero => intros; exact go_none
  | succ n ih =>
    intro d hd g hg v0 v1 v2 v3 h0 h1 h2 h3
    exact tfbC_putBranch (by omega) (fun g hg v0 v1 v2 v3 h0 h1 h2 h3 => ih (d - 1) (by omega) g hg v0 v1 v2 v3 h0 h1 h2 h3) hg h0 h1 h2 h3
theorem tfC_putBranch {Φ : ev_P} {d : Nat} (hd : 63 ≤ d) {g : gH} (hg : HR g) {v0 v1 v2 v3 : Int} (h0 : RfR v0) (h1 : RfR v1) (h2 : RfR v2) (h3 : InR v3) : Go Φ pr_P fN 0 (fC_putBranch fr g v0 v1 v2 v3) d (pr_P 72) 0 (ev_loc (pr_P 72).1 [(sR v0), (sR v1), (sR v2), (sI v3)]) [] g 0 0 := tfnC_putBranch fr d (by unfold fr; omega) g hg v0 v1 v2 v3 h0 h1 h2 h3
theorem tjO_putPath_38 {Φ : ev_P} {d : Nat} (hd : 2 ≤ d) {X5 : Int → gH → Option (Int × gH)} {g : gH} (hg : HR g) {v0 v1 v2 v3 : Int} (hK0 : kd v0 = 2) (h1 : RfR v1) (h2 : InR v2) (h3 : RfR v3) (HX5 : ∀ (v2 : Int) (h2 : InR v2) (g : gH) (hg : HR g) (u3 : Option ev_V) (w3 : nwo u3) (u4 : Option ev_V) (w4 : nwo u4), Go Φ pr_P fN 0 (X5 v2 g) d pr_m227 5 [some (sR v0), some (sR v1), some (sI v2), u3, u4] [] g 0 0) (u4 : Option ev_V) (w4 : nwo u4) : Go Φ pr_P fN 0 (jO_putPath_38 X5 g v0 v1 v2 v3 ) d pr_m227 38 [some (sR v0), some (sR v1), some (sI v2), some (sR v3), u4] [] g 0 0 := by
  unfold jO_putPath_38
  refine go_aload kk227_0.2.1.1.2.1 rfl ?_
  refine go_aload kk227_0.2.1.1.2.2 rfl ?_
  refine go_ck (fun q21 => ?_)
  refine go_getI (bI := 0) kk227_0.2.1.2.1.1 hg q21 (by decide) rfl rfl (fun r22 => ?_)
  refine go_callN0 kk227_0.2.1.2.1.2 rfl rfl rfl ⟨by decide, _, rfl, hK0⟩ ⟨Nat.zero_le _, Nat.zero_le _⟩ (by omega) (tfO_putNumber (by omega) hg hK0  r22) (fun y23 g25 e26 => ?_)
  refine go_aload kk227_0.2.1.2.2.1 rfl ?_
  refine go_int kk227_0.2.1.2.2.2 47 rfl ?_
  refine go_callN0 kk227_0.2.2.1.1.1 rfl rfl rfl ⟨by decide, _, rfl, hK0⟩ ⟨Nat.zero_le _, Nat.zero_le _⟩ (by omega) (tfO_putSign (by omega) e26 hK0  (inR_of (by decide))) (fun y27 g29 e30 => ?_)
  refine go_iinc kk227_0.2.2.1.1.2 rfl rfl (-1) rfl (loc2 := [some (sR v0), some (sR v1), some (sI (w32 (v2 + (-1)))), some (sR v3), u4]) rfl ?_
  refine go_goto kk227_0.2.2.1.2.1 ?_
  exact HX5 (w32 (v2 + (-1))) (inR_w32 _) g29 e30 (some (sR v3)) rfl u4 w4
theorem tbO_putPath_14 {Φ : ev_P} {d : Nat} (hd : 2 ≤ d) {X5 : Int → gH → Option (Int × gH)} {g : gH} (hg : HR g) {v0 v1 v2 : Int} (hK0 : kd v0 = 2) (h1 : RfR v1) (h2 : InR v2) (HX5 : ∀ (v2 : Int) (h2 : InR v2) (g : gH) (hg : HR g) (u3 : Option ev_V) (w3 : nwo u3) (u4 : Option ev_V) (w4 : nwo u4), Go Φ pr_P fN 0 (X5 v2 g) d pr_m227 5 [some (sR v0), some (sR v1), some (sI v2), u3, u4] [] g 0 0) {X14 : Int → Int → Option (Int × gH)} (HX14 : ∀ (v3 : Int) (h3 : RfR v3) (v4 : Int) (h4 : InR v4), Go Φ pr_P fN 0 (X14 v3 v4) d pr_m227 14 [some (sR v0), some (sR v1), some (sI v2), some (sR v3), some (sI v4)] [] g 0 0) : ∀ (v3 : Int) (h3 : RfR v3) (v4 : Int) (h4 : InR v4), Go Φ pr_P fN 0 (bO_putPath_14 X5 g v0 v1 v2 X14 v3 v4) d pr_m227 14 [some (sR v0), some (sR v1), some (sI v2), some (sR v3), some (sI v4)] [] g 0 0 := by
  intro v3 h3 v4 h4
  unfold bO_putPath_14
  refine go_iload kk227_0.1.2.1.1.1 rfl ?_
  refine go_iload kk227_0.1.2.1.1.2 rfl ?_
  refine go_cmlt kk227_0.1.2.1.2.1 h4 h2 (fun c14 => ?_) (fun c15 => ?_)
  · refine go_aload kk227_0.1.2.1.2.2 rfl ?_
    refine go_ck (fun q16 => ?_)
    refine go_getR (bI := 2) kk227_0.1.2.2.1.1 hg q16 (by decide) rfl rfl (fun r17 => ?_)
    refine go_isnull kk227_0.1.2.2.1.2  (fun c18 => ?_) (fun c19 => ?_)
    · exact tjO_putPath_38 hd hg hK0 h1 h2 h3 HX5 (some (sI v4)) rfl
    · refine go_aload kk227_0.1.2.2.2.1 rfl ?_
      refine go_getR (bI := 2) kk227_0.1.2.2.2.2 hg q16 (by decide) rfl rfl (fun r20 => ?_)
      refine go_astore kk227_0.2.1.1.1.1.1 rfl (loc2 := [some (sR v0), some (sR v1), some (sI v2), some (sR (g v3 2)), some (sI v4)]) rfl ?_
      refine go_iinc kk227_0.2.1.1.1.1.2 rfl rfl 1 rfl (loc2 := [some (sR v0), some (sR v1), some (sI v2), some (sR (g v3 2)), some (sI (w32 (v4 + 1)))]) rfl ?_
      refine go_goto kk227_0.2.1.1.1.2 ?_
      exact HX14 (g v3 2) r20 (w32 (v4 + 1)) (inR_w32 _)
  · exact tjO_putPath_38 hd hg hK0 h1 h2 h3 HX5 (some (sI v4)) rfl
theorem tlO_putPath_14 {Φ : ev_P} {d : Nat} (hd : 2 ≤ d) {X5 : Int → gH → Option (Int × gH)} {g : gH} (hg : HR g) {v0 v1 v2 : Int} (hK0 : kd v0 = 2) (h1 : RfR v1) (h2 : InR v2) (HX5 : ∀ (v2 : Int) (h2 : InR v2) (g : gH) (hg : HR g) (u3 : Option ev_V) (w3 : nwo u3) (u4 : Option ev_V) (w4 : nwo u4), Go Φ pr_P fN 0 (X5 v2 g) d pr_m227 5 [some (sR v0), some (sR v1), some (sI v2), u3, u4] [] g 0 0) : ∀ n : Nat, ∀ (v3 : Int) (h3 : RfR v3) (v4 : Int) (h4 : InR v4), Go Φ pr_P fN 0 (lO_putPath_14 X5 g v0 v1 v2 n v3 v4) d pr_m227 14 [some (sR v0), some (sR v1), some (sI v2), some (sR v3), some (sI v4)] [] g 0 0 := by
  intro n
  induction n with
  | zero => intros; exact go_none
  | succ n ih => exact tbO_putPath_14 hd hg hK0 h1 h2 HX5 ih
theorem tbO_putPath_5 {Φ : ev_P} {d : Nat} (hd : 2 ≤ d) {v0 v1 : Int} (hK0 : kd v0 = 2) (h1 : RfR v1) {X5 : Int → gH → Option (Int × gH)} (HX5 : ∀ (v2 : Int) (h2 : InR v2) (g : gH) (hg : HR g) (u3 : Option ev_V) (w3 : nwo u3) (u4 : Option ev_V) (w4 : nwo u4), Go Φ pr_P fN 0 (X5 v2 g) d pr_m227 5 [some (sR v0), some (sR v1), some (sI v2), u3, u4] [] g 0 0) : ∀ (v2 : Int) (h2 : InR v2) (g : gH) (hg : HR g) (u3 : Option ev_V) (w3 : nwo u3) (u4 : Option ev_V) (w4 : nwo u4), Go Φ pr_P fN 0 (bO_putPath_5 v0 v1 X5 v2 g) d pr_m227 5 [some (sR v0), some (sR v1), some (sI v2), u3, u4] [] g 0 0 := by
  intro v2 h2 g hg u3 w3 u4 w4
  unfold bO_putPath_5
  refine go_iload kk227_0.1.1.1.2.1 rfl ?_
  refine go_ifgt kk227_0.1.1.1.2.2 h2 (fun c6 => ?_) (fun c7 => ?_)
  · refine go_aload kk227_0.1.1.2.1.1 rfl ?_
    refine go_astore kk227_0.1.1.2.1.2 rfl (loc2 := [some (sR v0), some (sR v1), some (sI v2), some (sR v1), u4]) rfl ?_
    refine go_int kk227_0.1.1.2.2.1 0 rfl ?_
    refine go_istore kk227_0.1.1.2.2.2 rfl (loc2 := [some (sR v0), some (sR v1), some (sI v2), some (sR v1), some (sI 0)]) rfl ?_
    exact tlO_putPath_14 hd hg hK0 h1 h2 HX5 fu v1 h1 0 (inR_b (Or.inl rfl))
  · refine go_aload kk227_0.2.2.1.2.2 rfl ?_
    refine go_aload kk227_0.2.2.2.1.1 rfl ?_
    refine go_ck (fun q8 => ?_)
    refine go_getI (bI := 0) kk227_0.2.2.2.1.2 hg q8 (by decide) rfl rfl (fun r9 => ?_)
    refine go_callN0 kk227_0.2.2.2.2.1 rfl rfl rfl ⟨by decide, _, rfl, hK0⟩ ⟨Nat.zero_le _, Nat.zero_le _⟩ (by omega) (tfO_putNumber (by omega) hg hK0  r9) (fun y10 g12 e13 => ?_)
    exact go_vret kk227_0.2.2.2.2.2 e13 ⟨Nat.zero_le _, Nat.zero_le _⟩ rfl
theorem tlO_putPath_5 {Φ : ev_P} {d : Nat} (hd : 2 ≤ d) {v0 v1 : Int} (hK0 : kd v0 = 2) (h1 : RfR v1) : ∀ n : Nat, ∀ (v2 : Int) (h2 : InR v2) (g : gH) (hg : HR g) (u3 : Option ev_V) (w3 : nwo u3) (u4 : Option ev_V) (w4 : nwo u4), Go Φ pr_P fN 0 (lO_putPath_5 v0 v1 n v2 g) d pr_m227 5 [some (sR v0), some (sR v1), some (sI v2), u3, u4] [] g 0 0 := by
  intro n
  induction n with
  | zero => intros; exact go_none
  | succ n ih => exact tbO_putPath_5 hd hK0 h1 ih
theorem tfO_putPath {Φ : ev_P} {d : Nat} (hd : 2 ≤ d) {g : gH} (hg : HR g) {v0 v1 : Int} (hK0 : kd v0 = 2) (h1 : RfR v1) : Go Φ pr_P fN 0 (fO_putPath g v0 v1) d (pr_P 227) 0 (ev_loc (pr_P 227).1 [(sR v0), (sR v1)]) [] g 0 0 := by
  show Go Φ pr_P fN 0 (fO_putPath g v0 v1) d pr_m227 0 [some (sR v0), some (sR v1), none, none, none] [] g 0 0
  unfold fO_putPath
  refine go_aload kk227_0.1.1.1.1.1.1 rfl ?_
  refine go_ck (fun q1 => ?_)
  refine go_callP1 kk227_0.1.1.1.1.1.2 rfl rfl rfl ⟨by decide, _, rfl, q1⟩ ⟨Nat.zero_le _, Nat.zero_le _⟩ (by omega) (tfP_countAbove (by omega) hg q1 ) (fun y2 r3 => ?_)
  refine go_istore kk227_0.1.1.1.1.2 rfl (loc2 := [some (sR v0), some (sR v1), some (sI y2), none, none]) rfl ?_
  exact tlO_putPath_5 hd hK0 h1 fu y2 r3 g hg none rfl none rfl
/-! ===== the evaluator comes to what the functions tell (own work, by program: wip/p2/dec.py) ===== -/
theorem tfO_putComma {Φ : ev_P} {d : Nat} (hd : 1 ≤ d) {g : gH} (hg : HR g) {v0 : Int} (hK0 : kd v0 = 2) : Go Φ pr_P fN 0 (fO_putComma g v0) d (pr_P 231) 0 (ev_loc (pr_P 231).1 [(sR v0)]) [] g 0 0 := by
  show Go Φ pr_P fN 0 (fO_putComma g v0) d pr_m231 0 [some (sR v0)] [] g 0 0
  unfold fO_putComma
  refine go_aload kk231_0.1.1.1 rfl ?_
  refine go_getI (bI := 1) kk231_0.1.1.2 hg hK0 (by decide) rfl rfl (fun r1 => ?_)
  refine go_ifgt kk231_0.1.2.1 r1 (fun c2 => ?_) (fun c3 => ?_)
  · refine go_aload kk231_0.1.2.2 rfl ?_
    refine go_int kk231_0.2.1.1 44 rfl ?_
    refine go_callN0 kk231_0.2.1.2 rfl rfl rfl ⟨by decide, _, rfl, hK0⟩ ⟨Nat.zero_le _, Nat.zero_le _⟩ (by omega) (tfO_putSign (by omega) hg hK0  (inR_of (by decide))) (fun y4 g6 e7 => ?_)
    exact go_vret kk231_0.2.2 e7 ⟨Nat.zero_le _, Nat.zero_le _⟩ rfl
  · exact go_vret kk231_0.2.2 hg ⟨Nat.zero_le _, Nat.zero_le _⟩ rfl
theorem tbO_putChildren_12 {Φ : ev_P} {d : Nat} (hd : 2 ≤ d) {v0 v2 v3 v4 : Int} (hK0 : kd v0 = 2) (h2 : RfR v2) (h3 : RfR v3) (h4 : InR v4) {X12 : Int → gH → Option (Int × gH)} (HX12 : ∀ (v5 : Int) (h5 : InR v5) (g : gH) (hg : HR g) (u1 : Option ev_V) (w1 : nwo u1) (u6 : Option ev_V) (w6 : nwo u6), Go Φ pr_P fN 0 (X12 v5 g) d pr_m228 12 [some (sR v0), u1, some (sR v2), some (sR v3), some (sI v4), some (sI v5), u6] [] g 0 0) : ∀ (v5 : Int) (h5 : InR v5) (g : gH) (hg : HR g) (u1 : Option ev_V) (w1 : nwo u1) (u6 : Option ev_V) (w6 : nwo u6), Go Φ pr_P fN 0 (bO_putChildren_12 v0 v2 v3 v4 X12 v5 g) d pr_m228 12 [some (sR v0), u1, some (sR v2), some (sR v3), some (sI v4), some (sI v5), u6] [] g 0 0 := by
  intro v5 h5 g hg u1 w1 u6 w6
  unfold bO_putChildren_12
  refine go_iload kk228_0.1.2.1.1.2 rfl ?_
  refine go_iload kk228_0.1.2.1.2.1 rfl ?_
  refine go_cmlt kk228_0.1.2.1.2.2 h5 h4 (fun c5 => ?_) (fun c6 => ?_)
  · refine go_aload kk228_0.1.2.2.1.1 rfl ?_
    refine go_iload kk228_0.1.2.2.1.2 rfl ?_
    refine go_ck (fun q8 => ?_)
    refine go_pald kk228_0.1.2.2.2 hg q8 (fun r7 => ?_)
    refine go_astore kk228_0.2.1.1.1.1 rfl (loc2 := [some (sR v0), u1, some (sR v2), some (sR v3), some (sI v4), some (sI v5), some (sR (g v3 v5))]) rfl ?_
    refine go_aload kk228_0.2.1.1.1.2 rfl ?_
    refine go_aload kk228_0.2.1.1.2.1 rfl ?_
    refine go_ck (fun q9 => ?_)
    refine go_callP3 kk228_0.2.1.1.2.2 rfl rfl rfl ⟨by decide, _, rfl, q9⟩ ⟨Nat.zero_le _, Nat.zero_le _⟩ (by omega) (tfP_isRunningChildOf (by omega) hg q9  h2) (fun y10 r11 => ?_)
    refine go_ifeq kk228_0.2.1.2.1.1 (inR_b r11) (fun c14 => ?_) (fun c15 => ?_)
    · refine go_iinc kk228_0.2.2.2.1.1 rfl rfl 1 rfl (loc2 := [some (sR v0), u1, some (sR v2), some (sR v3), some (sI v4), some (sI (w32 (v5 + 1))), some (sR (g v3 v5))]) rfl ?_
      refine go_goto kk228_0.2.2.2.1.2 ?_
      exact HX12 (w32 (v5 + 1)) (inR_w32 _) g hg u1 w1 (some (sR (g v3 v5))) rfl
    · refine go_aload kk228_0.2.1.2.1.2 rfl ?_
      refine go_callN0 kk228_0.2.1.2.2 rfl rfl rfl ⟨by decide, _, rfl, hK0⟩ ⟨Nat.zero_le _, Nat.zero_le _⟩ (by omega) (tfO_putComma (by omega) hg hK0 ) (fun y16 g18 e19 => ?_)
      refine go_aload kk228_0.2.2.1.1.1 rfl ?_
      refine go_aload kk228_0.2.2.1.1.2 rfl ?_
      refine go_getI (bI := 0) kk228_0.2.2.1.2.1 e19 q9 (by decide) rfl rfl (fun r20 => ?_)
      refine go_callN0 kk228_0.2.2.1.2.2 rfl rfl rfl ⟨by decide, _, rfl, hK0⟩ ⟨Nat.zero_le _, Nat.zero_le _⟩ (by omega) (tfO_putNumber (by omega) e19 hK0  r20) (fun y21 g23 e24 => ?_)
      refine go_iinc kk228_0.2.2.2.1.1 rfl rfl 1 rfl (loc2 := [some (sR v0), u1, some (sR v2), some (sR v3), some (sI v4), some (sI (w32 (v5 + 1))), some (sR (g v3 v5))]) rfl ?_
      refine go_goto kk228_0.2.2.2.1.2 ?_
      exact HX12 (w32 (v5 + 1)) (inR_w32 _) g23 e24 u1 w1 (some (sR (g v3 v5))) rfl
  · exact go_vret kk228_0.2.2.2.2 hg ⟨Nat.zero_le _, Nat.zero_le _⟩ rfl
theorem tlO_putChildren_12 {Φ : ev_P} {d : Nat} (hd : 2 ≤ d) {v0 v2 v3 v4 : Int} (hK0 : kd v0 = 2) (h2 : RfR v2) (h3 : RfR v3) (h4 : InR v4) : ∀ n : Nat, ∀ (v5 : Int) (h5 : InR v5) (g : gH) (hg : HR g) (u1 : Option ev_V) (w1 : nwo u1) (u6 : Option ev_V) (w6 : nwo u6), Go Φ pr_P fN 0 (lO_putChildren_12 v0 v2 v3 v4 n v5 g) d pr_m228 12 [some (sR v0), u1, some (sR v2), some (sR v3), some (sI v4), some (sI v5), u6] [] g 0 0 := by
  intro n
  induction n with
  | zero => intros; exact go_none
  | succ n ih => exact tbO_putChildren_12 hd hK0 h2 h3 h4 ih
theorem tfO_putChildren {Φ : ev_P} {d : Nat} (hd : 2 ≤ d) {g : gH} (hg : HR g) {v0 v1 v2 : Int} (hK0 : kd v0 = 2) (h1 : RfR v1) (h2 : RfR v2) : Go Φ pr_P fN 0 (fO_putChildren g v0 v1 v2) d (pr_P 228) 0 (ev_loc (pr_P 228).1 [(sR v0), (sR v1), (sR v2)]) [] g 0 0 := by
  show Go Φ pr_P fN 0 (fO_putChildren g v0 v1 v2) d pr_m228 0 [some (sR v0), some (sR v1), some (sR v2), none, none, none, none] [] g 0 0
  unfold fO_putChildren
  refine go_aload kk228_0.1.1.1.1.1 rfl ?_
  refine go_ck (fun q1 => ?_)
  refine go_getR (bI := 1) kk228_0.1.1.1.1.2 hg q1 (by decide) rfl rfl (fun r2 => ?_)
  refine go_astore kk228_0.1.1.1.2.1 rfl (loc2 := [some (sR v0), some (sR v1), some (sR v2), some (sR (g v1 1)), none, none, none]) rfl ?_
  refine go_aload kk228_0.1.1.1.2.2 rfl ?_
  refine go_ck (fun q4 => ?_)
  refine go_alen kk228_0.1.1.2.1.1 (ka_24 q4) (fun r3 => ?_)
  refine go_istore kk228_0.1.1.2.1.2 rfl (loc2 := [some (sR v0), some (sR v1), some (sR v2), some (sR (g v1 1)), some (sI (sz (g v1 1))), none, none]) rfl ?_
  refine go_int kk228_0.1.1.2.2 0 rfl ?_
  refine go_istore kk228_0.1.2.1.1.1 rfl (loc2 := [some (sR v0), some (sR v1), some (sR v2), some (sR (g v1 1)), some (sI (sz (g v1 1))), some (sI 0), none]) rfl ?_
  exact tlO_putChildren_12 hd hK0 h2 r2 r3 fu 0 (inR_b (Or.inl rfl)) g hg (some (sR v1)) rfl none rfl
theorem tbO_putDuties_9 {Φ : ev_P} {d : Nat} (hd : 2 ≤ d) {v0 v3 : Int} (hK0 : kd v0 = 2) (h3 : InR v3) {X9 : Int → gH → Option (Int × gH)} (HX9 : ∀ (v4 : Int) (h4 : InR v4) (g : gH) (hg : HR g) (u1 : Option ev_V) (w1 : nwo u1) (u2 : Option ev_V) (w2 : nwo u2), Go Φ pr_P fN 0 (X9 v4 g) d pr_m229 9 [some (sR v0), u1, u2, some (sI v3), some (sI v4)] [] g 0 0) : ∀ (v4 : Int) (h4 : InR v4) (g : gH) (hg : HR g) (u1 : Option ev_V) (w1 : nwo u1) (u2 : Option ev_V) (w2 : nwo u2), Go Φ pr_P fN 0 (bO_putDuties_9 v0 v3 X9 v4 g) d pr_m229 9 [some (sR v0), u1, u2, some (sI v3), some (sI v4)] [] g 0 0 := by
  intro v4 h4 g hg u1 w1 u2 w2
  unfold bO_putDuties_9
  refine go_iload kk229_0.1.2.1.1.1 rfl ?_
  refine go_int kk229_0.1.2.1.1.2 8 rfl ?_
  refine go_cmlt kk229_0.1.2.1.2 h4 (inR_of (by decide)) (fun c6 => ?_) (fun c7 => ?_)
  · refine go_iload kk229_0.1.2.2.1 rfl ?_
    refine go_iload kk229_0.1.2.2.2 rfl ?_
    refine go_ibin kk229_0.2.1.1.1.1 ?_
    refine go_int kk229_0.2.1.1.1.2 1 rfl ?_
    refine go_ibin kk229_0.2.1.1.2 ?_
    refine go_ifeq kk229_0.2.1.2.1 (inR_opI _ _ _) (fun c8 => ?_) (fun c9 => ?_)
    · refine go_iinc kk229_0.2.2.1.2 rfl rfl 1 rfl (loc2 := [some (sR v0), u1, u2, some (sI v3), some (sI (w32 (v4 + 1)))]) rfl ?_
      refine go_goto kk229_0.2.2.2.1 ?_
      exact HX9 (w32 (v4 + 1)) (inR_w32 _) g hg u1 w1 u2 w2
    · refine go_aload kk229_0.2.1.2.2 rfl ?_
      refine go_iload kk229_0.2.2.1.1.1 rfl ?_
      refine go_callN0 kk229_0.2.2.1.1.2 rfl rfl rfl ⟨by decide, _, rfl, hK0⟩ ⟨Nat.zero_le _, Nat.zero_le _⟩ (by omega) (tfO_putNumber (by omega) hg hK0  h4) (fun y10 g12 e13 => ?_)
      refine go_iinc kk229_0.2.2.1.2 rfl rfl 1 rfl (loc2 := [some (sR v0), u1, u2, some (sI v3), some (sI (w32 (v4 + 1)))]) rfl ?_
      refine go_goto kk229_0.2.2.2.1 ?_
      exact HX9 (w32 (v4 + 1)) (inR_w32 _) g12 e13 u1 w1 u2 w2
  · exact go_vret kk229_0.2.2.2.2 hg ⟨Nat.zero_le _, Nat.zero_le _⟩ rfl
theorem tlO_putDuties_9 {Φ : ev_P} {d : Nat} (hd : 2 ≤ d) {v0 v3 : Int} (hK0 : kd v0 = 2) (h3 : InR v3) : ∀ n : Nat, ∀ (v4 : Int) (h4 : InR v4) (g : gH) (hg : HR g) (u1 : Option ev_V) (w1 : nwo u1) (u2 : Option ev_V) (w2 : nwo u2), Go Φ pr_P fN 0 (lO_putDuties_9 v0 v3 n v4 g) d pr_m229 9 [some (sR v0), u1, u2, some (sI v3), some (sI v4)] [] g 0 0 := by
  intro n
  induction n with
  | zero => intros; exact go_none
  | succ n ih => exact tbO_putDuties_9 hd hK0 h3 ih
theorem tfO_putDuties {Φ : ev_P} {d : Nat} (hd : 2 ≤ d) {g : gH} (hg : HR g) {v0 v1 v2 : Int} (hK0 : kd v0 = 2) (h1 : RfR v1) (h2 : RfR v2) : Go Φ pr_P fN 0 (fO_putDuties g v0 v1 v2) d (pr_P 229) 0 (ev_loc (pr_P 229).1 [(sR v0), (sR v1), (sR v2)]) [] g 0 0 := by
  show Go Φ pr_P fN 0 (fO_putDuties g v0 v1 v2) d pr_m229 0 [some (sR v0), some (sR v1), some (sR v2), none, none] [] g 0 0
  unfold fO_putDuties
  refine go_aload kk229_0.1.1.1.1.1 rfl ?_
  refine go_aload kk229_0.1.1.1.1.2 rfl ?_
  refine go_ck (fun q1 => ?_)
  refine go_callP1 kk229_0.1.1.1.2 rfl rfl rfl ⟨by decide, _, rfl, q1⟩ ⟨Nat.zero_le _, Nat.zero_le _⟩ (by omega) (tfT_dutiesOf (by omega) hg q1  h2) (fun y2 r3 => ?_)
  refine go_istore kk229_0.1.1.2.1.1 rfl (loc2 := [some (sR v0), some (sR v1), some (sR v2), some (sI y2), none]) rfl ?_
  refine go_int kk229_0.1.1.2.1.2 0 rfl ?_
  refine go_istore kk229_0.1.1.2.2 rfl (loc2 := [some (sR v0), some (sR v1), some (sR v2), some (sI y2), some (sI 0)]) rfl ?_
  exact tlO_putDuties_9 hd hK0 r3 fu 0 (inR_b (Or.inl rfl)) g hg (some (sR v1)) rfl (some (sR v2)) rfl
theorem tbO_putZombies_10 {Φ : ev_P} {d : Nat} (hd : 2 ≤ d) {v0 v1 v2 : Int} (hK0 : kd v0 = 2) (h1 : RfR v1) (h2 : RfR v2) {X10 : Int → Int → gH → Option (Int × gH)} (HX10 : ∀ (v3 : Int) (h3 : RfR v3) (v4 : Int) (h4 : InR v4) (g : gH) (hg : HR g), Go Φ pr_P fN 0 (X10 v3 v4 g) d pr_m230 10 [some (sR v0), some (sR v1), some (sR v2), some (sR v3), some (sI v4)] [] g 0 0) : ∀ (v3 : Int) (h3 : RfR v3) (v4 : Int) (h4 : InR v4) (g : gH) (hg : HR g), Go Φ pr_P fN 0 (bO_putZombies_10 v0 v1 v2 X10 v3 v4 g) d pr_m230 10 [some (sR v0), some (sR v1), some (sR v2), some (sR v3), some (sI v4)] [] g 0 0 := by
  intro v3 h3 v4 h4 g hg
  unfold bO_putZombies_10
  refine go_iload kk230_0.1.1.2.2.1 rfl ?_
  refine go_int kk230_0.1.1.2.2.2 40 rfl ?_
  refine go_cmlt kk230_0.1.2.1.1.1 h4 (inR_of (by decide)) (fun c6 => ?_) (fun c7 => ?_)
  · refine go_aload kk230_0.1.2.1.1.2 rfl ?_
    refine go_isnull kk230_0.1.2.1.2.1  (fun c8 => ?_) (fun c9 => ?_)
    · exact go_vret kk230_0.2.2.2.2.2 hg ⟨Nat.zero_le _, Nat.zero_le _⟩ rfl
    · refine go_aload kk230_0.1.2.1.2.2 rfl ?_
      refine go_callN0 kk230_0.1.2.2.1.1 rfl rfl rfl ⟨by decide, _, rfl, hK0⟩ ⟨Nat.zero_le _, Nat.zero_le _⟩ (by omega) (tfO_putComma (by omega) hg hK0 ) (fun y10 g12 e13 => ?_)
      refine go_aload kk230_0.1.2.2.1.2 rfl ?_
      refine go_aload kk230_0.1.2.2.2.1 rfl ?_
      refine go_ck (fun q14 => ?_)
      refine go_getI (bI := 0) kk230_0.1.2.2.2.2 e13 q14 (by decide) rfl rfl (fun r15 => ?_)
      refine go_callN0 kk230_0.2.1.1.1.1.1 rfl rfl rfl ⟨by decide, _, rfl, hK0⟩ ⟨Nat.zero_le _, Nat.zero_le _⟩ (by omega) (tfO_putNumber (by omega) e13 hK0  r15) (fun y16 g18 e19 => ?_)
      refine go_aload kk230_0.2.1.1.1.1.2 rfl ?_
      refine go_int kk230_0.2.1.1.1.2 58 rfl ?_
      refine go_callN0 kk230_0.2.1.1.2.1 rfl rfl rfl ⟨by decide, _, rfl, hK0⟩ ⟨Nat.zero_le _, Nat.zero_le _⟩ (by omega) (tfO_putSign (by omega) e19 hK0  (inR_of (by decide))) (fun y20 g22 e23 => ?_)
      refine go_aload kk230_0.2.1.1.2.2 rfl ?_
      refine go_aload kk230_0.2.1.2.1.1 rfl ?_
      refine go_getI (bI := 9) kk230_0.2.1.2.1.2 e23 q14 (by decide) rfl rfl (fun r24 => ?_)
      refine go_callN0 kk230_0.2.1.2.2.1 rfl rfl rfl ⟨by decide, _, rfl, hK0⟩ ⟨Nat.zero_le _, Nat.zero_le _⟩ (by omega) (tfO_putNumber (by omega) e23 hK0  r24) (fun y25 g27 e28 => ?_)
      refine go_aload kk230_0.2.1.2.2.2 rfl ?_
      refine go_aload kk230_0.2.2.1.1.1 rfl ?_
      refine go_aload kk230_0.2.2.1.1.2 rfl ?_
      refine go_getI (bI := 10) kk230_0.2.2.1.2.1 e28 q14 (by decide) rfl rfl (fun r29 => ?_)
      refine go_ck (fun q30 => ?_)
      refine go_callP2 kk230_0.2.2.1.2.2 rfl rfl rfl ⟨by decide, _, rfl, q30⟩ ⟨Nat.zero_le _, Nat.zero_le _⟩ (by omega) (tfT_zombieBehind (by omega) e28 q30  h2 r29) (fun y31 r32 => ?_)
      refine go_astore kk230_0.2.2.2.1.1 rfl (loc2 := [some (sR v0), some (sR v1), some (sR v2), some (sR y31), some (sI v4)]) rfl ?_
      refine go_iinc kk230_0.2.2.2.1.2 rfl rfl 1 rfl (loc2 := [some (sR v0), some (sR v1), some (sR v2), some (sR y31), some (sI (w32 (v4 + 1)))]) rfl ?_
      refine go_goto kk230_0.2.2.2.2.1 ?_
      exact HX10 y31 r32 (w32 (v4 + 1)) (inR_w32 _) g27 e28
  · exact go_vret kk230_0.2.2.2.2.2 hg ⟨Nat.zero_le _, Nat.zero_le _⟩ rfl
theorem tlO_putZombies_10 {Φ : ev_P} {d : Nat} (hd : 2 ≤ d) {v0 v1 v2 : Int} (hK0 : kd v0 = 2) (h1 : RfR v1) (h2 : RfR v2) : ∀ n : Nat, ∀ (v3 : Int) (h3 : RfR v3) (v4 : Int) (h4 : InR v4) (g : gH) (hg : HR g), Go Φ pr_P fN 0 (lO_putZombies_10 v0 v1 v2 n v3 v4 g) d pr_m230 10 [some (sR v0), some (sR v1), some (sR v2), some (sR v3), some (sI v4)] [] g 0 0 := by
  intro n
  induction n with
  | zero => intros; exact go_none
  | succ n ih => exact tbO_putZombies_10 hd hK0 h1 h2 ih
theorem tfO_putZombies {Φ : ev_P} {d : Nat} (hd : 2 ≤ d) {g : gH} (hg : HR g) {v0 v1 v2 : Int} (hK0 : kd v0 = 2) (h1 : RfR v1) (h2 : RfR v2) : Go Φ pr_P fN 0 (fO_putZombies g v0 v1 v2) d (pr_P 230) 0 (ev_loc (pr_P 230).1 [(sR v0), (sR v1), (sR v2)]) [] g 0 0 := by
  show Go Φ pr_P fN 0 (fO_putZombies g v0 v1 v2) d pr_m230 0 [some (sR v0), some (sR v1), some (sR v2), none, none] [] g 0 0
  unfold fO_putZombies
  refine go_aload kk230_0.1.1.1.1.1.1 rfl ?_
  refine go_aload kk230_0.1.1.1.1.1.2 rfl ?_
  refine go_int kk230_0.1.1.1.1.2 (-1) rfl ?_
  refine go_ck (fun q1 => ?_)
  refine go_callP2 kk230_0.1.1.1.2.1 rfl rfl rfl ⟨by decide, _, rfl, q1⟩ ⟨Nat.zero_le _, Nat.zero_le _⟩ (by omega) (tfT_zombieBehind (by omega) hg q1  h2 (inR_of (by decide))) (fun y2 r3 => ?_)
  refine go_astore kk230_0.1.1.1.2.2 rfl (loc2 := [some (sR v0), some (sR v1), some (sR v2), some (sR y2), none]) rfl ?_
  refine go_int kk230_0.1.1.2.1.1 0 rfl ?_
  refine go_istore kk230_0.1.1.2.1.2 rfl (loc2 := [some (sR v0), some (sR v1), some (sR v2), some (sR y2), some (sI 0)]) rfl ?_
  exact tlO_putZombies_10 hd hK0 h1 h2 fu y2 r3 0 (inR_b (Or.inl rfl)) g hg
theorem tjC_print_137 {Φ : ev_P} {d : Nat} (hd : 64 ≤ d) {g : gH} (hg : HR g) {v0 : Int} (hK0 : kd v0 = 6) (u1 : Option ev_V) (w1 : nwo u1) (u2 : Option ev_V) (w2 : nwo u2) (u3 : Option ev_V) (w3 : nwo u3) : Go Φ pr_P fT 1 (jC_print_137 g v0 ) d pr_m60 137 [some (sR v0), u1, u2, u3] [] g 3 18 := by
  unfold jC_print_137
  refine go_aload kk60_1.2.1.2.1.1 rfl ?_
  refine go_getR (bI := 5) kk60_1.2.1.2.1.2 hg hK0 (by decide) rfl rfl (fun r68 => ?_)
  refine go_ck (fun q69 => ?_)
  refine go_getI (bI := 1) kk60_1.2.1.2.2.1 hg q69 (by decide) rfl rfl (fun r70 => ?_)
  refine go_ifeq kk60_1.2.1.2.2.2 r70 (fun c71 => ?_) (fun c72 => ?_)
  · refine go_aload kk60_1.2.2.1.1.1 rfl ?_
    refine go_getR (bI := 5) kk60_1.2.2.1.1.2 hg hK0 (by decide) rfl rfl (fun r73 => ?_)
    refine go_int kk60_1.2.2.1.2.1 45 rfl ?_
    refine go_callN0 kk60_1.2.2.1.2.2 rfl rfl rfl ⟨by decide, _, rfl, q69⟩ ⟨by decide, by decide⟩ (by omega) (tfO_putSign (by omega) hg q69  (inR_of (by decide))) (fun y74 g76 e77 => ?_)
    refine go_aload kk60_1.2.2.2.1.1 rfl ?_
    refine go_getR (bI := 5) kk60_1.2.2.2.1.2 e77 hK0 (by decide) rfl rfl (fun r78 => ?_)
    refine go_ck (fun q79 => ?_)
    refine go_getI (bI := 1) kk60_1.2.2.2.2.1 e77 q79 (by decide) rfl rfl (fun r80 => ?_)
    exact go_iret kk60_1.2.2.2.2.2 e77 r80 ⟨by decide, by decide⟩ rfl
  · refine go_aload kk60_1.2.2.2.1.1 rfl ?_
    refine go_getR (bI := 5) kk60_1.2.2.2.1.2 hg hK0 (by decide) rfl rfl (fun r81 => ?_)
    refine go_getI (bI := 1) kk60_1.2.2.2.2.1 hg q69 (by decide) rfl rfl (fun r82 => ?_)
    exact go_iret kk60_1.2.2.2.2.2 hg r82 ⟨by decide, by decide⟩ rfl
theorem tjC_print_24 {Φ : ev_P} {d : Nat} (hd : 64 ≤ d) {g : gH} (hg : HR g) {v0 v2 v3 : Int} (hK0 : kd v0 = 6) (h2 : InR v2) (h3 : RfR v3) {s0 : Int} (z0 : B01 s0) (u1 : Option ev_V) (w1 : nwo u1) : Go Φ pr_P fT 1 (jC_print_24 g v0 v2 v3 s0 ) d pr_m60 24 [some (sR v0), u1, some (sI v2), some (sR v3)] [(sI s0)] g 2 12 := by
  unfold jC_print_24
  refine go_callQ0 kk60_0.1.2.2.1.2 rfl rfl rfl trivial ⟨by decide, by decide⟩ (by omega) (tfC_checkState (by omega) hg  z0) (fun y17 => ?_) (fun e21 E22 => ge_prop rfl ⟨by decide, by decide⟩ e21 rfl)
  refine go_aload kk60_0.1.2.2.2.1 rfl ?_
  refine go_getR (bI := 5) kk60_0.1.2.2.2.2 hg hK0 (by decide) rfl rfl (fun r23 => ?_)
  refine go_int kk60_0.2.1.1.1.1 0 rfl ?_
  refine go_ck (fun q24 => ?_)
  refine go_putI (bI := 1) kk60_0.2.1.1.1.2 hg q24 (by decide) rfl rfl (inR_b (Or.inl rfl)) (fun g25 e26 => ?_)
  refine go_iload kk60_0.2.1.1.2.1 rfl ?_
  refine go_ite (fun c27 => ?_) (fun c28 => ?_)
  · refine go_swh (lo := 0) (hi := 3) (i := 0) kk60_0.2.1.1.2.2 rfl rfl (by omega) (by omega) rfl ?_
    refine go_aload kk60_0.2.1.2.1.1 rfl ?_
    refine go_getR (bI := 5) kk60_0.2.1.2.1.2 e26 hK0 (by decide) rfl rfl (fun r29 => ?_)
    refine go_aload kk60_0.2.1.2.2.1 rfl ?_
    refine go_ck (fun q30 => ?_)
    refine go_callN0 kk60_0.2.1.2.2.2 rfl rfl rfl ⟨by decide, _, rfl, q30⟩ ⟨by decide, by decide⟩ (by omega) (tfO_putPath (by omega) e26 q30  h3) (fun y31 g33 e34 => ?_)
    refine go_goto kk60_0.2.2.1.1.1 ?_
    exact tjC_print_137 hd e34 hK0 u1 w1 (some (sI v2)) rfl (some (sR v3)) rfl
  refine go_ite (fun c35 => ?_) (fun c36 => ?_)
  · refine go_swh (lo := 0) (hi := 3) (i := 1) kk60_0.2.1.1.2.2 rfl rfl (by omega) (by omega) rfl ?_
    refine go_aload kk60_0.2.2.1.1.2 rfl ?_
    refine go_getR (bI := 5) kk60_0.2.2.1.2.1 e26 hK0 (by decide) rfl rfl (fun r37 => ?_)
    refine go_aload kk60_0.2.2.1.2.2 rfl ?_
    refine go_getR (bI := 0) kk60_0.2.2.2.1.1 e26 hK0 (by decide) rfl rfl (fun r38 => ?_)
    refine go_aload kk60_0.2.2.2.1.2 rfl ?_
    refine go_ck (fun q39 => ?_)
    refine go_callN0 kk60_0.2.2.2.2.1 rfl rfl rfl ⟨by decide, _, rfl, q39⟩ ⟨by decide, by decide⟩ (by omega) (tfO_putChildren (by omega) e26 q39  r38 h3) (fun y40 g42 e43 => ?_)
    refine go_goto kk60_0.2.2.2.2.2 ?_
    exact tjC_print_137 hd e43 hK0 u1 w1 (some (sI v2)) rfl (some (sR v3)) rfl
  refine go_ite (fun c44 => ?_) (fun c45 => ?_)
  · refine go_swh (lo := 0) (hi := 3) (i := 2) kk60_0.2.1.1.2.2 rfl rfl (by omega) (by omega) rfl ?_
    refine go_aload kk60_1.1.1.1.1.1.1 rfl ?_
    refine go_getR (bI := 5) kk60_1.1.1.1.1.1.2 e26 hK0 (by decide) rfl rfl (fun r46 => ?_)
    refine go_aload kk60_1.1.1.1.1.2 rfl ?_
    refine go_getR (bI := 0) kk60_1.1.1.1.2.1 e26 hK0 (by decide) rfl rfl (fun r47 => ?_)
    refine go_aload kk60_1.1.1.1.2.2 rfl ?_
    refine go_int kk60_1.1.1.2.1.1 0 rfl ?_
    refine go_callN0 kk60_1.1.1.2.1.2 rfl rfl rfl trivial ⟨by decide, by decide⟩ (by omega) (tfC_putBranch (by omega) e26  r46 r47 h3 (inR_b (Or.inl rfl))) (fun y48 g50 e51 => ?_)
    refine go_goto kk60_1.1.1.2.2.1 ?_
    exact tjC_print_137 hd e51 hK0 u1 w1 (some (sI v2)) rfl (some (sR v3)) rfl
  refine go_ite (fun c52 => ?_) (fun c53 => ?_)
  · refine go_swh (lo := 0) (hi := 3) (i := 3) kk60_0.2.1.1.2.2 rfl rfl (by omega) (by omega) rfl ?_
    refine go_aload kk60_1.1.1.2.2.2 rfl ?_
    refine go_getR (bI := 5) kk60_1.1.2.1.1.1 e26 hK0 (by decide) rfl rfl (fun r54 => ?_)
    refine go_aload kk60_1.1.2.1.1.2 rfl ?_
    refine go_getR (bI := 0) kk60_1.1.2.1.2.1 e26 hK0 (by decide) rfl rfl (fun r55 => ?_)
    refine go_aload kk60_1.1.2.1.2.2 rfl ?_
    refine go_ck (fun q56 => ?_)
    refine go_callN0 kk60_1.1.2.2.1.1 rfl rfl rfl ⟨by decide, _, rfl, q56⟩ ⟨by decide, by decide⟩ (by omega) (tfO_putDuties (by omega) e26 q56  r55 h3) (fun y57 g59 e60 => ?_)
    refine go_goto kk60_1.1.2.2.1.2 ?_
    exact tjC_print_137 hd e60 hK0 u1 w1 (some (sI v2)) rfl (some (sR v3)) rfl
  refine go_swd (lo := 0) (hi := 3) kk60_0.2.1.1.2.2 rfl rfl h2 (by omega) (by omega) ?_
  refine go_aload kk60_1.1.2.2.2.1 rfl ?_
  refine go_getR (bI := 5) kk60_1.1.2.2.2.2 e26 hK0 (by decide) rfl rfl (fun r61 => ?_)
  refine go_aload kk60_1.2.1.1.1.1 rfl ?_
  refine go_getR (bI := 0) kk60_1.2.1.1.1.2 e26 hK0 (by decide) rfl rfl (fun r62 => ?_)
  refine go_aload kk60_1.2.1.1.2.1 rfl ?_
  refine go_ck (fun q63 => ?_)
  refine go_callN0 kk60_1.2.1.1.2.2 rfl rfl rfl ⟨by decide, _, rfl, q63⟩ ⟨by decide, by decide⟩ (by omega) (tfO_putZombies (by omega) e26 q63  r62 h3) (fun y64 g66 e67 => ?_)
  exact tjC_print_137 hd e67 hK0 u1 w1 (some (sI v2)) rfl (some (sR v3)) rfl
theorem tfC_print {Φ : ev_P} {d : Nat} (hd : 64 ≤ d) {g : gH} (hg : HR g) {v0 v1 v2 : Int} (hK0 : kd v0 = 6) (h1 : InR v1) (h2 : InR v2) : Go Φ pr_P fT 1 (fC_print g v0 v1 v2) d (pr_P 60) 0 (ev_loc (pr_P 60).1 [(sR v0), (sI v1), (sI v2)]) [] g 0 0 := by
  show Go Φ pr_P fT 1 (fC_print g v0 v1 v2) d pr_m60 0 [some (sR v0), some (sI v1), some (sI v2), none] [] g 0 0
  unfold fC_print
  refine go_aload kk60_0.1.1.1.1.1.1 rfl ?_
  refine go_iload kk60_0.1.1.1.1.1.2 rfl ?_
  refine go_callQ2 kk60_0.1.1.1.1.2 rfl rfl rfl ⟨by decide, _, rfl, hK0⟩ ⟨by decide, by decide⟩ (by omega) (tfC_named (by omega) hg hK0  h1) (fun y1 r2 => ?_) (fun e5 E6 => ge_prop rfl ⟨by decide, by decide⟩ e5 rfl)
  refine go_astore kk60_0.1.1.1.2.1 rfl (loc2 := [some (sR v0), some (sI v1), some (sI v2), some (sR y1)]) rfl ?_
  refine go_iload kk60_0.1.1.1.2.2 rfl ?_
  refine go_int kk60_0.1.1.2.1.1 4 rfl ?_
  refine go_callQ0 kk60_0.1.1.2.1.2 rfl rfl rfl trivial ⟨by decide, by decide⟩ (by omega) (tfC_checkRange (by omega) hg  h2 (inR_of (by decide))) (fun y7 => ?_) (fun e11 E12 => ge_prop rfl ⟨by decide, by decide⟩ e11 rfl)
  refine go_aload kk60_0.1.1.2.2.1 rfl ?_
  refine go_ck (fun q13 => ?_)
  refine go_getI (bI := 1) kk60_0.1.1.2.2.2 hg q13 (by decide) rfl rfl (fun r14 => ?_)
  refine go_int kk60_0.1.2.1.1.1 2 rfl ?_
  refine go_cmeq kk60_0.1.2.1.1.2 r14 (inR_of (by decide)) (fun c15 => ?_) (fun c16 => ?_)
  · refine go_int kk60_0.1.2.2.1.1 0 rfl ?_
    exact tjC_print_24 hd hg hK0 h2 r2 (Or.inl rfl) (some (sI v1)) rfl
  · refine go_int kk60_0.1.2.1.2.1 1 rfl ?_
    refine go_goto kk60_0.1.2.1.2.2 ?_
    exact tjC_print_24 hd hg hK0 h2 r2 (Or.inr rfl) (some (sI v1)) rfl
theorem tfW_print {Φ : ev_P} {d : Nat} (hd : 65 ≤ d) {g : gH} (hg : HR g) {v0 v1 v2 v3 : Int} (h0 : RfR v0) (h1 : InR v1) (h2 : InR v2) (h3 : RfR v3) : Go Φ pr_P fN 1 (fW_print g v0 v1 v2 v3) d (pr_P 350) 0 (ev_loc (pr_P 350).1 [(sR v0), (sI v1), (sI v2), (sR v3)]) [] g 0 0 := by
  show Go Φ pr_P fN 1 (fW_print g v0 v1 v2 v3) d pr_m350 0 [some (sR v0), some (sI v1), some (sI v2), some (sR v3), none] [] g 0 0
  unfold fW_print
  refine go_aload kk350_0.1.1.1.1.1 rfl ?_
  refine go_int kk350_0.1.1.1.1.2 0 rfl ?_
  refine go_aload kk350_0.1.1.1.2 rfl ?_
  refine go_iload kk350_0.1.1.2.1 rfl ?_
  refine go_iload kk350_0.1.1.2.2 rfl ?_
  refine go_ck (fun q1 => ?_)
  refine go_callT1 kk350_0.1.2.1.1.1 rfl rfl rfl ⟨by decide, _, rfl, q1⟩ ⟨by decide, by decide⟩ (by omega) (tfC_print (by omega) hg q1  h1 h2) (fun y2 g4 r3 e5 => ?_) (fun E7 g4 e6 => ?_)
  · refine go_i2l kk350_0.1.2.1.1.2 r3 ?_
    refine go_ck (fun q8 => ?_)
    refine go_last kk350_0.1.2.1.2 e5 q8 (inL_R r3) (fun g9 e10 => ?_)
    refine go_goto kk350_0.1.2.2.1 ?_
    refine go_int kk350_0.2.2.2.1 0 rfl ?_
    exact go_iret kk350_0.2.2.2.2 e10 (inR_b (Or.inl rfl)) ⟨by decide, by decide⟩ rfl
  · refine ge_ite (fun hE9 => ?_) (fun _ => ?_)
    · subst hE9
      refine ge_catch rfl kk350_0.1.2.2.2 rfl (loc2 := [some (sR v0), some (sI v1), some (sI v2), some (sR v3), none]) rfl ?_
      refine go_int kk350_0.2.1.1.1.1 1 rfl ?_
      exact go_iret kk350_0.2.1.1.1.2 e6 (inR_b (Or.inr rfl)) ⟨by decide, by decide⟩ rfl
    refine ge_ite (fun hE9 => ?_) (fun _ => ?_)
    · subst hE9
      refine ge_catch rfl kk350_0.2.1.1.2 rfl (loc2 := [some (sR v0), some (sI v1), some (sI v2), some (sR v3), none]) rfl ?_
      refine go_int kk350_0.2.1.2.1 2 rfl ?_
      exact go_iret kk350_0.2.1.2.2 e6 (inR_of (by decide)) ⟨by decide, by decide⟩ rfl
    refine ge_ite (fun hE9 => ?_) (fun _ => ?_)
    · subst hE9
      refine ge_catch rfl kk350_0.2.2.1.1.1 rfl (loc2 := [some (sR v0), some (sI v1), some (sI v2), some (sR v3), none]) rfl ?_
      refine go_int kk350_0.2.2.1.1.2 3 rfl ?_
      exact go_iret kk350_0.2.2.1.2 e6 (inR_of (by decide)) ⟨by decide, by decide⟩ rfl
    exact ge_none
theorem tfC_restoreState {Φ : ev_P} {d : Nat} (hd : 2 ≤ d) {g : gH} (hg : HR g) {v0 : Int} (hK0 : kd v0 = 6) : Go Φ pr_P fT 1 (fC_restoreState g v0) d (pr_P 64) 0 (ev_loc (pr_P 64).1 [(sR v0)]) [] g 0 0 := by
  show Go Φ pr_P fT 1 (fC_restoreState g v0) d pr_m64 0 [some (sR v0)] [] g 0 0
  unfold fC_restoreState
  refine go_aload kk64_0.1.1.1.1.1 rfl ?_
  refine go_getB (bI := 6) kk64_0.1.1.1.1.2 hg hK0 (by decide) rfl rfl (fun r1 => ?_)
  refine go_callQ0 kk64_0.1.1.1.2 rfl rfl rfl trivial ⟨by decide, by decide⟩ (by omega) (tfC_checkState (by omega) hg  r1) (fun y2 => ?_) (fun e6 E7 => ge_prop rfl ⟨by decide, by decide⟩ e6 rfl)
  refine go_aload kk64_0.1.1.2.1 rfl ?_
  refine go_getR (bI := 0) kk64_0.1.1.2.2 hg hK0 (by decide) rfl rfl (fun r8 => ?_)
  refine go_aload kk64_0.1.2.1.1 rfl ?_
  refine go_getR (bI := 2) kk64_0.1.2.1.2 hg hK0 (by decide) rfl rfl (fun r9 => ?_)
  refine go_ck (fun q10 => ?_)
  refine go_callN0 kk64_0.1.2.2.1 rfl rfl rfl ⟨by decide, _, rfl, q10⟩ ⟨by decide, by decide⟩ (by omega) (tfT_take (by omega) hg q10  r9) (fun y11 g13 e14 => ?_)
  refine go_aload kk64_0.1.2.2.2 rfl ?_
  refine go_getR (bI := 3) kk64_0.2.1.1.1 e14 hK0 (by decide) rfl rfl (fun r15 => ?_)
  refine go_int kk64_0.2.1.1.2 0 rfl ?_
  refine go_ck (fun q16 => ?_)
  refine go_putI (bI := 1) kk64_0.2.1.2.1 e14 q16 (by decide) rfl rfl (inR_b (Or.inl rfl)) (fun g17 e18 => ?_)
  refine go_aload kk64_0.2.1.2.2 rfl ?_
  refine go_getR (bI := 0) kk64_0.2.2.1.1 e18 hK0 (by decide) rfl rfl (fun r19 => ?_)
  refine go_int kk64_0.2.2.1.2 0 rfl ?_
  refine go_ck (fun q20 => ?_)
  refine go_callP1 kk64_0.2.2.2.1 rfl rfl rfl ⟨by decide, _, rfl, q20⟩ ⟨by decide, by decide⟩ (by omega) (tfT_countInState (by omega) e18 q20  (inR_b (Or.inl rfl))) (fun y21 r22 => ?_)
  exact go_iret kk64_0.2.2.2.2 e18 r22 ⟨by decide, by decide⟩ rfl
theorem tfW_restoreState {Φ : ev_P} {d : Nat} (hd : 3 ≤ d) {g : gH} (hg : HR g) {v0 v1 : Int} (h0 : RfR v0) (h1 : RfR v1) : Go Φ pr_P fN 1 (fW_restoreState g v0 v1) d (pr_P 351) 0 (ev_loc (pr_P 351).1 [(sR v0), (sR v1)]) [] g 0 0 := by
  show Go Φ pr_P fN 1 (fW_restoreState g v0 v1) d pr_m351 0 [some (sR v0), some (sR v1), none] [] g 0 0
  unfold fW_restoreState
  refine go_aload kk351_0.1.1.1.1 rfl ?_
  refine go_int kk351_0.1.1.1.2 0 rfl ?_
  refine go_aload kk351_0.1.1.2 rfl ?_
  refine go_ck (fun q1 => ?_)
  refine go_callT1 kk351_0.1.2.1.1 rfl rfl rfl ⟨by decide, _, rfl, q1⟩ ⟨by decide, by decide⟩ (by omega) (tfC_restoreState (by omega) hg q1 ) (fun y2 g4 r3 e5 => ?_) (fun E7 g4 e6 => ?_)
  · refine go_i2l kk351_0.1.2.1.2 r3 ?_
    refine go_ck (fun q8 => ?_)
    refine go_last kk351_0.1.2.2 e5 q8 (inL_R r3) (fun g9 e10 => ?_)
    refine go_goto kk351_0.2.1.1.1 ?_
    refine go_int kk351_0.2.2.1.2 0 rfl ?_
    exact go_iret kk351_0.2.2.2 e10 (inR_b (Or.inl rfl)) ⟨by decide, by decide⟩ rfl
  · refine ge_ite (fun hE9 => ?_) (fun _ => ?_)
    · subst hE9
      refine ge_catch rfl kk351_0.2.1.1.2 rfl (loc2 := [some (sR v0), some (sR v1), none]) rfl ?_
      refine go_int kk351_0.2.1.2 1 rfl ?_
      exact go_iret kk351_0.2.2.1.1 e6 (inR_b (Or.inr rfl)) ⟨by decide, by decide⟩ rfl
    exact ge_none
