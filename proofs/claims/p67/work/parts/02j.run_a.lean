/-! ===== the evaluator comes to what the functions tell (own work, by program: wip/p67/gen/dec.py) ===== -/
theorem tbI_append_3 {Φ : ev_P} {d : Nat} (hd : 0 ≤ d) {v0 v1 : Int} (hK0 : kd v0 = 1) (h1 : InR v1) {X3 : Int → gH → Option (Int × gH)} (HX3 : ∀ (v2 : Int) (h2 : InR v2) (g : gH) (hg : HR g), Go Φ pr_P fN 0 (X3 v2 g) d pr_m31 3 [some (sR v0), some (sI v1), some (sI v2)] [] g 0 0) : ∀ (v2 : Int) (h2 : InR v2) (g : gH) (hg : HR g), Go Φ pr_P fN 0 (bI_append_3 v0 v1 X3 v2 g) d pr_m31 3 [some (sR v0), some (sI v1), some (sI v2)] [] g 0 0 := by
  intro v2 h2 g hg
  unfold bI_append_3
  refine go_iload kk31_0.1.1.1.2.1 rfl ?_
  refine go_iflt kk31_0.1.1.1.2.2 h2 (fun c1 => ?_) (fun c2 => ?_)
  · exact go_vret kk31_0.2.2.2.2 hg ⟨Nat.zero_le _, Nat.zero_le _⟩ rfl
  · refine go_aload kk31_0.1.1.2.1.1 rfl ?_
    refine go_getI (bI := 1) kk31_0.1.1.2.1.2 hg hK0 (by decide) rfl rfl (fun r3 => ?_)
    refine go_iflt kk31_0.1.1.2.2.1 r3 (fun c4 => ?_) (fun c5 => ?_)
    · refine go_iinc kk31_0.2.2.2.1.1 rfl rfl (-8) rfl (loc2 := [some (sR v0), some (sI v1), some (sI (w32 (v2 + (-8))))]) rfl ?_
      refine go_goto kk31_0.2.2.2.1.2 ?_
      exact HX3 (w32 (v2 + (-8))) (inR_w32 _) g hg
    · refine go_aload kk31_0.1.1.2.2.2 rfl ?_
      refine go_getI (bI := 1) kk31_0.1.2.1.1.1 hg hK0 (by decide) rfl rfl (fun r6 => ?_)
      refine go_int kk31_0.1.2.1.1.2 500 rfl ?_
      refine go_cmlt kk31_0.1.2.1.2.1 r6 (inR_of (by decide)) (fun c7 => ?_) (fun c8 => ?_)
      · refine go_aload kk31_0.1.2.1.2.2 rfl ?_
        refine go_getR (bI := 0) kk31_0.1.2.2.1.1 hg hK0 (by decide) rfl rfl (fun r9 => ?_)
        refine go_aload kk31_0.1.2.2.1.2 rfl ?_
        refine go_getI (bI := 1) kk31_0.1.2.2.2 hg hK0 (by decide) rfl rfl (fun r10 => ?_)
        refine go_iload kk31_0.2.1.1.1.1 rfl ?_
        refine go_iload kk31_0.2.1.1.1.2 rfl ?_
        refine go_ibin kk31_0.2.1.1.2.1 ?_
        refine go_i2b kk31_0.2.1.1.2.2 ?_
        refine go_ck (fun q11 => ?_)
        refine go_bast kk31_0.2.1.2.1.1 hg q11 r9 (fun g12 e13 => ?_)
        refine go_aload kk31_0.2.1.2.1.2 rfl ?_
        refine go_dupR kk31_0.2.1.2.2 ?_
        refine go_getI (bI := 1) kk31_0.2.2.1.1.1 e13 hK0 (by decide) rfl rfl (fun r14 => ?_)
        refine go_int kk31_0.2.2.1.1.2 1 rfl ?_
        refine go_iadd kk31_0.2.2.1.2.1 ?_
        refine go_putI (bI := 1) kk31_0.2.2.1.2.2 e13 hK0 (by decide) rfl rfl (inR_w32 _) (fun g15 e16 => ?_)
        refine go_iinc kk31_0.2.2.2.1.1 rfl rfl (-8) rfl (loc2 := [some (sR v0), some (sI v1), some (sI (w32 (v2 + (-8))))]) rfl ?_
        refine go_goto kk31_0.2.2.2.1.2 ?_
        exact HX3 (w32 (v2 + (-8))) (inR_w32 _) g15 e16
      · refine go_iinc kk31_0.2.2.2.1.1 rfl rfl (-8) rfl (loc2 := [some (sR v0), some (sI v1), some (sI (w32 (v2 + (-8))))]) rfl ?_
        refine go_goto kk31_0.2.2.2.1.2 ?_
        exact HX3 (w32 (v2 + (-8))) (inR_w32 _) g hg
theorem tlI_append_3 {Φ : ev_P} {d : Nat} (hd : 0 ≤ d) {v0 v1 : Int} (hK0 : kd v0 = 1) (h1 : InR v1) : ∀ n : Nat, ∀ (v2 : Int) (h2 : InR v2) (g : gH) (hg : HR g), Go Φ pr_P fN 0 (lI_append_3 v0 v1 n v2 g) d pr_m31 3 [some (sR v0), some (sI v1), some (sI v2)] [] g 0 0 := by
  intro n
  induction n with
  | zero => intros; exact go_none
  | succ n ih => exact tbI_append_3 hd hK0 h1 ih
theorem tfI_append {Φ : ev_P} {d : Nat} (hd : 0 ≤ d) {g : gH} (hg : HR g) {v0 v1 : Int} (hK0 : kd v0 = 1) (h1 : InR v1) : Go Φ pr_P fN 0 (fI_append g v0 v1) d (pr_P 31) 0 (ev_loc (pr_P 31).1 [(sR v0), (sI v1)]) [] g 0 0 := by
  show Go Φ pr_P fN 0 (fI_append g v0 v1) d pr_m31 0 [some (sR v0), some (sI v1), none] [] g 0 0
  unfold fI_append
  refine go_int kk31_0.1.1.1.1.1 24 rfl ?_
  refine go_istore kk31_0.1.1.1.1.2 rfl (loc2 := [some (sR v0), some (sI v1), some (sI 24)]) rfl ?_
  exact tlI_append_3 hd hK0 h1 fu 24 (inR_of (by decide)) g hg
theorem tfC_appendInput {Φ : ev_P} {d : Nat} (hd : 1 ≤ d) {g : gH} (hg : HR g) {v0 v1 v2 v3 v4 v5 : Int} (hK0 : kd v0 = 6) (h1 : InR v1) (h2 : InR v2) (h3 : InR v3) (h4 : InR v4) (h5 : InR v5) : Go Φ pr_P fN 1 (fC_appendInput g v0 v1 v2 v3 v4 v5) d (pr_P 1) 0 (ev_loc (pr_P 1).1 [(sR v0), (sI v1), (sI v2), (sI v3), (sI v4), (sI v5)]) [] g 0 0 := by
  show Go Φ pr_P fN 1 (fC_appendInput g v0 v1 v2 v3 v4 v5) d pr_m1 0 [some (sR v0), some (sI v1), some (sI v2), some (sI v3), some (sI v4), some (sI v5), none] [] g 0 0
  unfold fC_appendInput
  refine go_aload kk1_0.1.1.1.1.1 rfl ?_
  refine go_getR (bI := 4) kk1_0.1.1.1.1.2 hg hK0 (by decide) rfl rfl (fun r1 => ?_)
  refine go_ck (fun q2 => ?_)
  refine go_getR (bI := 0) kk1_0.1.1.1.2.1 hg q2 (by decide) rfl rfl (fun r3 => ?_)
  refine go_astore kk1_0.1.1.1.2.2 rfl (loc2 := [some (sR v0), some (sI v1), some (sI v2), some (sI v3), some (sI v4), some (sI v5), some (sR (g (g v0 4) 0))]) rfl ?_
  refine go_aload kk1_0.1.1.2.1.1 rfl ?_
  refine go_ck (fun q4 => ?_)
  refine go_getI (bI := 1) kk1_0.1.1.2.1.2 hg q4 (by decide) rfl rfl (fun r5 => ?_)
  refine go_int kk1_0.1.1.2.2.1 20 rfl ?_
  refine go_iadd kk1_0.1.1.2.2.2 ?_
  refine go_int kk1_0.1.2.1.1.1 500 rfl ?_
  refine go_cmgt kk1_0.1.2.1.1.2 (inR_w32 _) (inR_of (by decide)) (fun c6 => ?_) (fun c7 => ?_)
  · refine go_int kk1_0.1.2.1.2.1 (-1) rfl ?_
    exact go_iret kk1_0.1.2.1.2.2 hg (inR_of (by decide)) ⟨Nat.zero_le _, Nat.zero_le _⟩ rfl
  · refine go_aload kk1_0.1.2.2.1.1 rfl ?_
    refine go_iload kk1_0.1.2.2.1.2 rfl ?_
    refine go_callN0 kk1_0.1.2.2.2 rfl rfl rfl ⟨by decide, _, rfl, q4⟩ ⟨Nat.zero_le _, Nat.zero_le _⟩ (by omega) (tfI_append (by omega) hg q4  h1) (fun y8 g10 e11 => ?_)
    refine go_aload kk1_0.2.1.1.1.1 rfl ?_
    refine go_iload kk1_0.2.1.1.1.2 rfl ?_
    refine go_callN0 kk1_0.2.1.1.2.1 rfl rfl rfl ⟨by decide, _, rfl, q4⟩ ⟨Nat.zero_le _, Nat.zero_le _⟩ (by omega) (tfI_append (by omega) e11 q4  h2) (fun y12 g14 e15 => ?_)
    refine go_aload kk1_0.2.1.1.2.2 rfl ?_
    refine go_iload kk1_0.2.1.2.1.1 rfl ?_
    refine go_callN0 kk1_0.2.1.2.1.2 rfl rfl rfl ⟨by decide, _, rfl, q4⟩ ⟨Nat.zero_le _, Nat.zero_le _⟩ (by omega) (tfI_append (by omega) e15 q4  h3) (fun y16 g18 e19 => ?_)
    refine go_aload kk1_0.2.1.2.2.1 rfl ?_
    refine go_iload kk1_0.2.1.2.2.2 rfl ?_
    refine go_callN0 kk1_0.2.2.1.1.1 rfl rfl rfl ⟨by decide, _, rfl, q4⟩ ⟨Nat.zero_le _, Nat.zero_le _⟩ (by omega) (tfI_append (by omega) e19 q4  h4) (fun y20 g22 e23 => ?_)
    refine go_aload kk1_0.2.2.1.1.2 rfl ?_
    refine go_iload kk1_0.2.2.1.2.1 rfl ?_
    refine go_callN0 kk1_0.2.2.1.2.2 rfl rfl rfl ⟨by decide, _, rfl, q4⟩ ⟨Nat.zero_le _, Nat.zero_le _⟩ (by omega) (tfI_append (by omega) e23 q4  h5) (fun y24 g26 e27 => ?_)
    refine go_aload kk1_0.2.2.2.1.1 rfl ?_
    refine go_getI (bI := 1) kk1_0.2.2.2.1.2 e27 q4 (by decide) rfl rfl (fun r28 => ?_)
    exact go_iret kk1_0.2.2.2.2 e27 r28 ⟨Nat.zero_le _, Nat.zero_le _⟩ rfl
theorem tfC_truncateInput {Φ : ev_P} {d : Nat} (hd : 0 ≤ d) {g : gH} (hg : HR g) {v0 v1 : Int} (hK0 : kd v0 = 6) (h1 : InR v1) : Go Φ pr_P fN 3 (fC_truncateInput g v0 v1) d (pr_P 2) 0 (ev_loc (pr_P 2).1 [(sR v0), (sI v1)]) [] g 0 0 := by
  show Go Φ pr_P fN 3 (fC_truncateInput g v0 v1) d pr_m2 0 [some (sR v0), some (sI v1)] [] g 0 0
  unfold fC_truncateInput
  refine go_iload kk2_0.1.1.1.1.1 rfl ?_
  refine go_iflt kk2_0.1.1.1.1.2 h1 (fun c1 => ?_) (fun c2 => ?_)
  · refine go_int kk2_0.1.2.2.2 0 rfl ?_
    exact go_bret kk2_0.2.1.1.1 hg (Or.inl rfl) ⟨Nat.zero_le _, Nat.zero_le _⟩ rfl
  · refine go_iload kk2_0.1.1.1.2 rfl ?_
    refine go_aload kk2_0.1.1.2.1 rfl ?_
    refine go_getR (bI := 4) kk2_0.1.1.2.2 hg hK0 (by decide) rfl rfl (fun r3 => ?_)
    refine go_ck (fun q4 => ?_)
    refine go_getR (bI := 0) kk2_0.1.2.1.1 hg q4 (by decide) rfl rfl (fun r5 => ?_)
    refine go_ck (fun q6 => ?_)
    refine go_getI (bI := 1) kk2_0.1.2.1.2 hg q6 (by decide) rfl rfl (fun r7 => ?_)
    refine go_cmgt kk2_0.1.2.2.1 h1 r7 (fun c8 => ?_) (fun c9 => ?_)
    · refine go_int kk2_0.1.2.2.2 0 rfl ?_
      exact go_bret kk2_0.2.1.1.1 hg (Or.inl rfl) ⟨Nat.zero_le _, Nat.zero_le _⟩ rfl
    · refine go_aload kk2_0.2.1.1.2 rfl ?_
      refine go_getR (bI := 4) kk2_0.2.1.2.1 hg hK0 (by decide) rfl rfl (fun r10 => ?_)
      refine go_getR (bI := 0) kk2_0.2.1.2.2 hg q4 (by decide) rfl rfl (fun r11 => ?_)
      refine go_iload kk2_0.2.2.1.1 rfl ?_
      refine go_putI (bI := 1) kk2_0.2.2.1.2 hg q6 (by decide) rfl rfl h1 (fun g12 e13 => ?_)
      refine go_int kk2_0.2.2.2.1 1 rfl ?_
      exact go_bret kk2_0.2.2.2.2 e13 (Or.inr rfl) ⟨Nat.zero_le _, Nat.zero_le _⟩ rfl
theorem tfP_become {Φ : ev_P} {d : Nat} (hd : 0 ≤ d) {g : gH} (hg : HR g) {v0 v1 v2 v3 v4 : Int} (hK0 : kd v0 = 3) (h1 : InR v1) (h2 : InR v2) (h3 : InR v3) (h4 : InR v4) : Go Φ pr_P fN 0 (fP_become g v0 v1 v2 v3 v4) d (pr_P 35) 0 (ev_loc (pr_P 35).1 [(sR v0), (sI v1), (sI v2), (sI v3), (sI v4)]) [] g 0 0 := by
  show Go Φ pr_P fN 0 (fP_become g v0 v1 v2 v3 v4) d pr_m35 0 [some (sR v0), some (sI v1), some (sI v2), some (sI v3), some (sI v4)] [] g 0 0
  unfold fP_become
  refine go_aload kk35_0.1.1.1.1.1.1 rfl ?_
  refine go_iload kk35_0.1.1.1.1.1.2 rfl ?_
  refine go_putI (bI := 1) kk35_0.1.1.1.1.2 hg hK0 (by decide) rfl rfl h1 (fun g1 e2 => ?_)
  refine go_aload kk35_0.1.1.1.2.1.1 rfl ?_
  refine go_null kk35_0.1.1.1.2.1.2 ?_
  refine go_putR (bI := 2) kk35_0.1.1.1.2.2 e2 hK0 (by decide) rfl rfl rfR_null (fun g3 e4 => ?_)
  refine go_aload kk35_0.1.1.2.1.1.1 rfl ?_
  refine go_int kk35_0.1.1.2.1.1.2 0 rfl ?_
  refine go_putI (bI := 3) kk35_0.1.1.2.1.2 e4 hK0 (by decide) rfl rfl (inR_b (Or.inl rfl)) (fun g5 e6 => ?_)
  refine go_aload kk35_0.1.1.2.2.1 rfl ?_
  refine go_iload kk35_0.1.1.2.2.2 rfl ?_
  refine go_putI (bI := 4) kk35_0.1.2.1.1.1.1 e6 hK0 (by decide) rfl rfl h2 (fun g7 e8 => ?_)
  refine go_aload kk35_0.1.2.1.1.1.2 rfl ?_
  refine go_iload kk35_0.1.2.1.1.2 rfl ?_
  refine go_putI (bI := 5) kk35_0.1.2.1.2.1.1 e8 hK0 (by decide) rfl rfl h3 (fun g9 e10 => ?_)
  refine go_aload kk35_0.1.2.1.2.1.2 rfl ?_
  refine go_iload kk35_0.1.2.1.2.2 rfl ?_
  refine go_putI (bI := 6) kk35_0.1.2.2.1.1.1 e10 hK0 (by decide) rfl rfl h4 (fun g11 e12 => ?_)
  refine go_aload kk35_0.1.2.2.1.1.2 rfl ?_
  refine go_int kk35_0.1.2.2.1.2 (-1) rfl ?_
  refine go_putI (bI := 7) kk35_0.1.2.2.2.1 e12 hK0 (by decide) rfl rfl (inR_of (by decide)) (fun g13 e14 => ?_)
  refine go_aload kk35_0.1.2.2.2.2 rfl ?_
  refine go_int kk35_0.2.1.1.1.1.1 0 rfl ?_
  refine go_putI (bI := 8) kk35_0.2.1.1.1.1.2 e14 hK0 (by decide) rfl rfl (inR_b (Or.inl rfl)) (fun g15 e16 => ?_)
  refine go_aload kk35_0.2.1.1.1.2 rfl ?_
  refine go_int kk35_0.2.1.1.2.1.1 (-1) rfl ?_
  refine go_putI (bI := 9) kk35_0.2.1.1.2.1.2 e16 hK0 (by decide) rfl rfl (inR_of (by decide)) (fun g17 e18 => ?_)
  refine go_aload kk35_0.2.1.1.2.2 rfl ?_
  refine go_int kk35_0.2.1.2.1.1.1 (-1) rfl ?_
  refine go_putI (bI := 10) kk35_0.2.1.2.1.1.2 e18 hK0 (by decide) rfl rfl (inR_of (by decide)) (fun g19 e20 => ?_)
  refine go_aload kk35_0.2.1.2.1.2 rfl ?_
  refine go_int kk35_0.2.1.2.2.1 0 rfl ?_
  refine go_putI (bI := 11) kk35_0.2.1.2.2.2 e20 hK0 (by decide) rfl rfl (inR_b (Or.inl rfl)) (fun g21 e22 => ?_)
  refine go_aload kk35_0.2.2.1.1.1.1 rfl ?_
  refine go_int kk35_0.2.2.1.1.1.2 (-1) rfl ?_
  refine go_putI (bI := 12) kk35_0.2.2.1.1.2 e22 hK0 (by decide) rfl rfl (inR_of (by decide)) (fun g23 e24 => ?_)
  refine go_aload kk35_0.2.2.1.2.1 rfl ?_
  refine go_int kk35_0.2.2.1.2.2 0 rfl ?_
  refine go_putB (bI := 13) kk35_0.2.2.2.1.1.1 e24 hK0 (by decide) rfl rfl (Or.inl rfl) (fun g25 e26 => ?_)
  refine go_aload kk35_0.2.2.2.1.1.2 rfl ?_
  refine go_lconst kk35_0.2.2.2.1.2 0 rfl ?_
  refine go_putL (bI := 14) kk35_0.2.2.2.2.1 e26 hK0 (by decide) rfl rfl (inL_of (by decide)) (fun g27 e28 => ?_)
  exact go_vret kk35_0.2.2.2.2.2 e28 ⟨Nat.zero_le _, Nat.zero_le _⟩ rfl
theorem tbT_clearRules_2 {Φ : ev_P} {d : Nat} (hd : 0 ≤ d) {v0 : Int} (hK0 : kd v0 = 5) {X2 : Int → gH → Option (Int × gH)} (HX2 : ∀ (v1 : Int) (h1 : InR v1) (g : gH) (hg : HR g), Go Φ pr_P fN 0 (X2 v1 g) d pr_m73 2 [some (sR v0), some (sI v1)] [] g 0 0) : ∀ (v1 : Int) (h1 : InR v1) (g : gH) (hg : HR g), Go Φ pr_P fN 0 (bT_clearRules_2 v0 X2 v1 g) d pr_m73 2 [some (sR v0), some (sI v1)] [] g 0 0 := by
  intro v1 h1 g hg
  unfold bT_clearRules_2
  refine go_iload kk73_0.1.1.2.1 rfl ?_
  refine go_int kk73_0.1.1.2.2 5 rfl ?_
  refine go_cmlt kk73_0.1.2.1.1 h1 (inR_of (by decide)) (fun c1 => ?_) (fun c2 => ?_)
  · refine go_aload kk73_0.1.2.1.2 rfl ?_
    refine go_getR (bI := 3) kk73_0.1.2.2 hg hK0 (by decide) rfl rfl (fun r3 => ?_)
    refine go_iload kk73_0.2.1.1.1 rfl ?_
    refine go_int kk73_0.2.1.1.2 (-1) rfl ?_
    refine go_ck (fun q4 => ?_)
    refine go_iast kk73_0.2.1.2 hg q4 r3 (inR_of (by decide)) (fun g5 e6 => ?_)
    refine go_iinc kk73_0.2.2.1.1 rfl rfl 1 rfl (loc2 := [some (sR v0), some (sI (w32 (v1 + 1)))]) rfl ?_
    refine go_goto kk73_0.2.2.1.2 ?_
    exact HX2 (w32 (v1 + 1)) (inR_w32 _) g5 e6
  · exact go_vret kk73_0.2.2.2 hg ⟨Nat.zero_le _, Nat.zero_le _⟩ rfl
theorem tlT_clearRules_2 {Φ : ev_P} {d : Nat} (hd : 0 ≤ d) {v0 : Int} (hK0 : kd v0 = 5) : ∀ n : Nat, ∀ (v1 : Int) (h1 : InR v1) (g : gH) (hg : HR g), Go Φ pr_P fN 0 (lT_clearRules_2 v0 n v1 g) d pr_m73 2 [some (sR v0), some (sI v1)] [] g 0 0 := by
  intro n
  induction n with
  | zero => intros; exact go_none
  | succ n ih => exact tbT_clearRules_2 hd hK0 ih
theorem tfT_clearRules {Φ : ev_P} {d : Nat} (hd : 0 ≤ d) {g : gH} (hg : HR g) {v0 : Int} (hK0 : kd v0 = 5) : Go Φ pr_P fN 0 (fT_clearRules g v0) d (pr_P 73) 0 (ev_loc (pr_P 73).1 [(sR v0)]) [] g 0 0 := by
  show Go Φ pr_P fN 0 (fT_clearRules g v0) d pr_m73 0 [some (sR v0), none] [] g 0 0
  unfold fT_clearRules
  refine go_int kk73_0.1.1.1.1 0 rfl ?_
  refine go_istore kk73_0.1.1.1.2 rfl (loc2 := [some (sR v0), some (sI 0)]) rfl ?_
  exact tlT_clearRules_2 hd hK0 fu 0 (inR_b (Or.inl rfl)) g hg
theorem tjT_reset_68 {Φ : ev_P} {d : Nat} (hd : 1 ≤ d) {g : gH} (hg : HR g) {v0 : Int} (hK0 : kd v0 = 5) (u1 : Option ev_V) (w1 : nwo u1) (u2 : Option ev_V) (w2 : nwo u2) (u3 : Option ev_V) (w3 : nwo u3) (u4 : Option ev_V) (w4 : nwo u4) : Go Φ pr_P fN 0 (jT_reset_68 g v0 ) d pr_m71 68 [some (sR v0), u1, u2, u3, u4] [] g 0 0 := by
  unfold jT_reset_68
  refine go_aload kk71_1.1.1.1.2.1 rfl ?_
  refine go_callN0 kk71_1.1.1.1.2.2 rfl rfl rfl ⟨by decide, _, rfl, hK0⟩ ⟨Nat.zero_le _, Nat.zero_le _⟩ (by omega) (tfT_clearRules (by omega) hg hK0 ) (fun y25 g27 e28 => ?_)
  refine go_aload kk71_1.1.1.2.1.1.1 rfl ?_
  refine go_getR (bI := 3) kk71_1.1.1.2.1.1.2 e28 hK0 (by decide) rfl rfl (fun r29 => ?_)
  refine go_int kk71_1.1.1.2.1.2 0 rfl ?_
  refine go_int kk71_1.1.1.2.2.1 0 rfl ?_
  refine go_ck (fun q30 => ?_)
  refine go_iast kk71_1.1.1.2.2.2 e28 q30 r29 (inR_b (Or.inl rfl)) (fun g31 e32 => ?_)
  refine go_aload kk71_1.1.2.1.1.1.1 rfl ?_
  refine go_getR (bI := 3) kk71_1.1.2.1.1.1.2 e32 hK0 (by decide) rfl rfl (fun r33 => ?_)
  refine go_int kk71_1.1.2.1.1.2 1 rfl ?_
  refine go_int kk71_1.1.2.1.2.1 1 rfl ?_
  refine go_ck (fun q34 => ?_)
  refine go_iast kk71_1.1.2.1.2.2 e32 q34 r33 (inR_b (Or.inr rfl)) (fun g35 e36 => ?_)
  refine go_aload kk71_1.1.2.2.1.1.1 rfl ?_
  refine go_getR (bI := 3) kk71_1.1.2.2.1.1.2 e36 hK0 (by decide) rfl rfl (fun r37 => ?_)
  refine go_int kk71_1.1.2.2.1.2 2 rfl ?_
  refine go_int kk71_1.1.2.2.2.1 2 rfl ?_
  refine go_ck (fun q38 => ?_)
  refine go_iast kk71_1.1.2.2.2.2 e36 q38 r37 (inR_of (by decide)) (fun g39 e40 => ?_)
  refine go_aload kk71_1.2.1.1.1.1.1 rfl ?_
  refine go_int kk71_1.2.1.1.1.1.2 20 rfl ?_
  refine go_putI (bI := 4) kk71_1.2.1.1.1.2 e40 hK0 (by decide) rfl rfl (inR_of (by decide)) (fun g41 e42 => ?_)
  refine go_aload kk71_1.2.1.1.2.1 rfl ?_
  refine go_int kk71_1.2.1.1.2.2 1 rfl ?_
  refine go_putI (bI := 5) kk71_1.2.1.2.1.1.1 e42 hK0 (by decide) rfl rfl (inR_b (Or.inr rfl)) (fun g43 e44 => ?_)
  refine go_aload kk71_1.2.1.2.1.1.2 rfl ?_
  refine go_int kk71_1.2.1.2.1.2 0 rfl ?_
  refine go_putI (bI := 6) kk71_1.2.1.2.2.1 e44 hK0 (by decide) rfl rfl (inR_b (Or.inl rfl)) (fun g45 e46 => ?_)
  refine go_aload kk71_1.2.1.2.2.2 rfl ?_
  refine go_int kk71_1.2.2.1.1.1.1 0 rfl ?_
  refine go_putI (bI := 7) kk71_1.2.2.1.1.1.2 e46 hK0 (by decide) rfl rfl (inR_b (Or.inl rfl)) (fun g47 e48 => ?_)
  refine go_aload kk71_1.2.2.1.1.2 rfl ?_
  refine go_int kk71_1.2.2.1.2.1 0 rfl ?_
  refine go_putI (bI := 8) kk71_1.2.2.1.2.2 e48 hK0 (by decide) rfl rfl (inR_b (Or.inl rfl)) (fun g49 e50 => ?_)
  refine go_aload kk71_1.2.2.2.1.1 rfl ?_
  refine go_int kk71_1.2.2.2.1.2 0 rfl ?_
  refine go_putI (bI := 9) kk71_1.2.2.2.2.1 e50 hK0 (by decide) rfl rfl (inR_b (Or.inl rfl)) (fun g51 e52 => ?_)
  exact go_vret kk71_1.2.2.2.2.2 e52 ⟨Nat.zero_le _, Nat.zero_le _⟩ rfl
theorem tbT_reset_49 {Φ : ev_P} {d : Nat} (hd : 1 ≤ d) {v0 : Int} (hK0 : kd v0 = 5) {X49 : Int → gH → Option (Int × gH)} (HX49 : ∀ (v1 : Int) (h1 : InR v1) (g : gH) (hg : HR g) (u2 : Option ev_V) (w2 : nwo u2) (u3 : Option ev_V) (w3 : nwo u3) (u4 : Option ev_V) (w4 : nwo u4), Go Φ pr_P fN 0 (X49 v1 g) d pr_m71 49 [some (sR v0), some (sI v1), u2, u3, u4] [] g 0 0) : ∀ (v1 : Int) (h1 : InR v1) (g : gH) (hg : HR g) (u2 : Option ev_V) (w2 : nwo u2) (u3 : Option ev_V) (w3 : nwo u3) (u4 : Option ev_V) (w4 : nwo u4), Go Φ pr_P fN 0 (bT_reset_49 v0 X49 v1 g) d pr_m71 49 [some (sR v0), some (sI v1), u2, u3, u4] [] g 0 0 := by
  intro v1 h1 g hg u2 w2 u3 w3 u4 w4
  unfold bT_reset_49
  refine go_iload kk71_0.2.2.1.1.2 rfl ?_
  refine go_int kk71_0.2.2.1.2.1 8 rfl ?_
  refine go_cmlt kk71_0.2.2.1.2.2 h1 (inR_of (by decide)) (fun c19 => ?_) (fun c20 => ?_)
  · refine go_aload kk71_0.2.2.2.1.1 rfl ?_
    refine go_getR (bI := 2) kk71_0.2.2.2.1.2 hg hK0 (by decide) rfl rfl (fun r21 => ?_)
    refine go_iload kk71_0.2.2.2.2.1 rfl ?_
    refine go_int kk71_0.2.2.2.2.2 0 rfl ?_
    refine go_ck (fun q22 => ?_)
    refine go_iast kk71_1.1.1.1.1.1.1 hg q22 r21 (inR_b (Or.inl rfl)) (fun g23 e24 => ?_)
    refine go_iinc kk71_1.1.1.1.1.1.2 rfl rfl 1 rfl (loc2 := [some (sR v0), some (sI (w32 (v1 + 1))), u2, u3, u4]) rfl ?_
    refine go_goto kk71_1.1.1.1.1.2 ?_
    exact HX49 (w32 (v1 + 1)) (inR_w32 _) g23 e24 u2 w2 u3 w3 u4 w4
  · exact tjT_reset_68 hd hg hK0 (some (sI v1)) rfl u2 w2 u3 w3 u4 w4
theorem tlT_reset_49 {Φ : ev_P} {d : Nat} (hd : 1 ≤ d) {v0 : Int} (hK0 : kd v0 = 5) : ∀ n : Nat, ∀ (v1 : Int) (h1 : InR v1) (g : gH) (hg : HR g) (u2 : Option ev_V) (w2 : nwo u2) (u3 : Option ev_V) (w3 : nwo u3) (u4 : Option ev_V) (w4 : nwo u4), Go Φ pr_P fN 0 (lT_reset_49 v0 n v1 g) d pr_m71 49 [some (sR v0), some (sI v1), u2, u3, u4] [] g 0 0 := by
  intro n
  induction n with
  | zero => intros; exact go_none
  | succ n ih => exact tbT_reset_49 hd hK0 ih
theorem tjT_reset_35 {Φ : ev_P} {d : Nat} (hd : 1 ≤ d) {g : gH} (hg : HR g) {v0 : Int} (hK0 : kd v0 = 5) (u1 : Option ev_V) (w1 : nwo u1) (u2 : Option ev_V) (w2 : nwo u2) (u3 : Option ev_V) (w3 : nwo u3) (u4 : Option ev_V) (w4 : nwo u4) : Go Φ pr_P fN 0 (jT_reset_35 g v0 ) d pr_m71 35 [some (sR v0), u1, u2, u3, u4] [] g 0 0 := by
  unfold jT_reset_35
  refine go_aload kk71_0.2.1.1.2.1 rfl ?_
  refine go_getR (bI := 0) kk71_0.2.1.1.2.2 hg hK0 (by decide) rfl rfl (fun r13 => ?_)
  refine go_int kk71_0.2.1.2.1.1.1 0 rfl ?_
  refine go_int kk71_0.2.1.2.1.1.2 9 rfl ?_
  refine go_int kk71_0.2.1.2.1.2 0 rfl ?_
  refine go_int kk71_0.2.1.2.2.1 0 rfl ?_
  refine go_ck (fun q14 => ?_)
  refine go_callN0 kk71_0.2.1.2.2.2 rfl rfl rfl ⟨by decide, _, rfl, q14⟩ ⟨Nat.zero_le _, Nat.zero_le _⟩ (by omega) (tfP_become (by omega) hg q14  (inR_b (Or.inl rfl)) (inR_of (by decide)) (inR_b (Or.inl rfl)) (inR_b (Or.inl rfl))) (fun y15 g17 e18 => ?_)
  refine go_int kk71_0.2.2.1.1.1.1 0 rfl ?_
  refine go_istore kk71_0.2.2.1.1.1.2 rfl (loc2 := [some (sR v0), some (sI 0), u2, u3, u4]) rfl ?_
  exact tlT_reset_49 hd hK0 fu 0 (inR_b (Or.inl rfl)) g17 e18 u2 w2 u3 w3 u4 w4
theorem tbT_reset_10 {Φ : ev_P} {d : Nat} (hd : 1 ≤ d) {v0 v1 v2 : Int} (hK0 : kd v0 = 5) (h1 : RfR v1) (h2 : InR v2) {X10 : Int → gH → Option (Int × gH)} (HX10 : ∀ (v3 : Int) (h3 : InR v3) (g : gH) (hg : HR g) (u4 : Option ev_V) (w4 : nwo u4), Go Φ pr_P fN 0 (X10 v3 g) d pr_m71 10 [some (sR v0), some (sR v1), some (sI v2), some (sI v3), u4] [] g 0 0) : ∀ (v3 : Int) (h3 : InR v3) (g : gH) (hg : HR g) (u4 : Option ev_V) (w4 : nwo u4), Go Φ pr_P fN 0 (bT_reset_10 v0 v1 v2 X10 v3 g) d pr_m71 10 [some (sR v0), some (sR v1), some (sI v2), some (sI v3), u4] [] g 0 0 := by
  intro v3 h3 g hg u4 w4
  unfold bT_reset_10
  refine go_iload kk71_0.1.1.2.2.1 rfl ?_
  refine go_iload kk71_0.1.1.2.2.2 rfl ?_
  refine go_cmlt kk71_0.1.2.1.1.1.1 h3 h2 (fun c4 => ?_) (fun c5 => ?_)
  · refine go_aload kk71_0.1.2.1.1.1.2 rfl ?_
    refine go_iload kk71_0.1.2.1.1.2 rfl ?_
    refine go_ck (fun q7 => ?_)
    refine go_pald kk71_0.1.2.1.2.1 hg q7 (fun r6 => ?_)
    refine go_astore kk71_0.1.2.1.2.2 rfl (loc2 := [some (sR v0), some (sR v1), some (sI v2), some (sI v3), some (sR (g v1 v3))]) rfl ?_
    refine go_aload kk71_0.1.2.2.1.1.1 rfl ?_
    refine go_int kk71_0.1.2.2.1.1.2 3 rfl ?_
    refine go_int kk71_0.1.2.2.1.2 0 rfl ?_
    refine go_int kk71_0.1.2.2.2.1 0 rfl ?_
    refine go_int kk71_0.1.2.2.2.2 0 rfl ?_
    refine go_ck (fun q8 => ?_)
    refine go_callN0 kk71_0.2.1.1.1.1.1 rfl rfl rfl ⟨by decide, _, rfl, q8⟩ ⟨Nat.zero_le _, Nat.zero_le _⟩ (by omega) (tfP_become (by omega) hg q8  (inR_of (by decide)) (inR_b (Or.inl rfl)) (inR_b (Or.inl rfl)) (inR_b (Or.inl rfl))) (fun y9 g11 e12 => ?_)
    refine go_iinc kk71_0.2.1.1.1.1.2 rfl rfl 1 rfl (loc2 := [some (sR v0), some (sR v1), some (sI v2), some (sI (w32 (v3 + 1))), some (sR (g v1 v3))]) rfl ?_
    refine go_goto kk71_0.2.1.1.1.2 ?_
    exact HX10 (w32 (v3 + 1)) (inR_w32 _) g11 e12 (some (sR (g v1 v3))) rfl
  · exact tjT_reset_35 hd hg hK0 (some (sR v1)) rfl (some (sI v2)) rfl (some (sI v3)) rfl u4 w4
theorem tlT_reset_10 {Φ : ev_P} {d : Nat} (hd : 1 ≤ d) {v0 v1 v2 : Int} (hK0 : kd v0 = 5) (h1 : RfR v1) (h2 : InR v2) : ∀ n : Nat, ∀ (v3 : Int) (h3 : InR v3) (g : gH) (hg : HR g) (u4 : Option ev_V) (w4 : nwo u4), Go Φ pr_P fN 0 (lT_reset_10 v0 v1 v2 n v3 g) d pr_m71 10 [some (sR v0), some (sR v1), some (sI v2), some (sI v3), u4] [] g 0 0 := by
  intro n
  induction n with
  | zero => intros; exact go_none
  | succ n ih => exact tbT_reset_10 hd hK0 h1 h2 ih
theorem tfT_reset {Φ : ev_P} {d : Nat} (hd : 1 ≤ d) {g : gH} (hg : HR g) {v0 : Int} (hK0 : kd v0 = 5) : Go Φ pr_P fN 0 (fT_reset g v0) d (pr_P 71) 0 (ev_loc (pr_P 71).1 [(sR v0)]) [] g 0 0 := by
  show Go Φ pr_P fN 0 (fT_reset g v0) d pr_m71 0 [some (sR v0), none, none, none, none] [] g 0 0
  unfold fT_reset
  refine go_aload kk71_0.1.1.1.1.1.1 rfl ?_
  refine go_getR (bI := 1) kk71_0.1.1.1.1.1.2 hg hK0 (by decide) rfl rfl (fun r1 => ?_)
  refine go_astore kk71_0.1.1.1.1.2 rfl (loc2 := [some (sR v0), some (sR (g v0 1)), none, none, none]) rfl ?_
  refine go_aload kk71_0.1.1.1.2.1 rfl ?_
  refine go_ck (fun q3 => ?_)
  refine go_alen kk71_0.1.1.1.2.2 (ka_24 q3) r1 (fun r2 => ?_)
  refine go_istore kk71_0.1.1.2.1.1.1 rfl (loc2 := [some (sR v0), some (sR (g v0 1)), some (sI (sz (g v0 1))), none, none]) rfl ?_
  refine go_int kk71_0.1.1.2.1.1.2 0 rfl ?_
  refine go_istore kk71_0.1.1.2.1.2 rfl (loc2 := [some (sR v0), some (sR (g v0 1)), some (sI (sz (g v0 1))), some (sI 0), none]) rfl ?_
  exact tlT_reset_10 hd hK0 r1 r2 fu 0 (inR_b (Or.inl rfl)) g hg none rfl
theorem tfS_begin {Φ : ev_P} {d : Nat} (hd : 2 ≤ d) {g : gH} (hg : HR g) {v0 : Int} (hK0 : kd v0 = 4) : Go Φ pr_P fN 0 (fS_begin g v0) d (pr_P 51) 0 (ev_loc (pr_P 51).1 [(sR v0)]) [] g 0 0 := by
  show Go Φ pr_P fN 0 (fS_begin g v0) d pr_m51 0 [some (sR v0)] [] g 0 0
  unfold fS_begin
  refine go_aload kk51_0.1.1.1.1.1 rfl ?_
  refine go_getR (bI := 1) kk51_0.1.1.1.1.2 hg hK0 (by decide) rfl rfl (fun r1 => ?_)
  refine go_ck (fun q2 => ?_)
  refine go_callN0 kk51_0.1.1.1.2 rfl rfl rfl ⟨by decide, _, rfl, q2⟩ ⟨Nat.zero_le _, Nat.zero_le _⟩ (by omega) (tfT_reset (by omega) hg q2 ) (fun y3 g5 e6 => ?_)
  refine go_aload kk51_0.1.1.2.1.1 rfl ?_
  refine go_int kk51_0.1.1.2.1.2 0 rfl ?_
  refine go_putI (bI := 2) kk51_0.1.1.2.2 e6 hK0 (by decide) rfl rfl (inR_b (Or.inl rfl)) (fun g7 e8 => ?_)
  refine go_aload kk51_0.1.2.1.1.1 rfl ?_
  refine go_int kk51_0.1.2.1.1.2 (-1) rfl ?_
  refine go_putI (bI := 3) kk51_0.1.2.1.2 e8 hK0 (by decide) rfl rfl (inR_of (by decide)) (fun g9 e10 => ?_)
  refine go_aload kk51_0.1.2.2.1 rfl ?_
  refine go_int kk51_0.1.2.2.2 0 rfl ?_
  refine go_putB (bI := 8) kk51_0.2.1.1.1.1 e10 hK0 (by decide) rfl rfl (Or.inl rfl) (fun g11 e12 => ?_)
  refine go_aload kk51_0.2.1.1.1.2 rfl ?_
  refine go_int kk51_0.2.1.1.2 0 rfl ?_
  refine go_putB (bI := 9) kk51_0.2.1.2.1.1 e12 hK0 (by decide) rfl rfl (Or.inl rfl) (fun g13 e14 => ?_)
  refine go_aload kk51_0.2.1.2.1.2 rfl ?_
  refine go_int kk51_0.2.1.2.2 0 rfl ?_
  refine go_putB (bI := 10) kk51_0.2.2.1.1.1 e14 hK0 (by decide) rfl rfl (Or.inl rfl) (fun g15 e16 => ?_)
  refine go_aload kk51_0.2.2.1.1.2 rfl ?_
  refine go_int kk51_0.2.2.1.2 0 rfl ?_
  refine go_putI (bI := 6) kk51_0.2.2.2.1 e16 hK0 (by decide) rfl rfl (inR_b (Or.inl rfl)) (fun g17 e18 => ?_)
  exact go_vret kk51_0.2.2.2.2 e18 ⟨Nat.zero_le _, Nat.zero_le _⟩ rfl
theorem tfI_at {Φ : ev_P} {d : Nat} (hd : 0 ≤ d) {g : gH} (hg : HR g) {v0 v1 : Int} (hK0 : kd v0 = 1) (h1 : InR v1) : Go Φ pr_P (fP g) 1 (fI_at g v0 v1) d (pr_P 32) 0 (ev_loc (pr_P 32).1 [(sR v0), (sI v1)]) [] g 0 0 := by
  show Go Φ pr_P (fP g) 1 (fI_at g v0 v1) d pr_m32 0 [some (sR v0), some (sI v1)] [] g 0 0
  unfold fI_at
  refine go_iload kk32_0.1.1.1.1 rfl ?_
  refine go_iflt kk32_0.1.1.1.2 h1 (fun c1 => ?_) (fun c2 => ?_)
  · refine go_int kk32_0.2.1.1.2 0 rfl ?_
    refine go_goto kk32_0.2.1.2.1 ?_
    exact go_iret kk32_0.2.2.2.2 hg (inR_b (Or.inl rfl)) ⟨Nat.zero_le _, Nat.zero_le _⟩ rfl
  · refine go_iload kk32_0.1.1.2.1 rfl ?_
    refine go_aload kk32_0.1.1.2.2 rfl ?_
    refine go_getI (bI := 1) kk32_0.1.2.1.1 hg hK0 (by decide) rfl rfl (fun r3 => ?_)
    refine go_cmlt kk32_0.1.2.1.2 h1 r3 (fun c4 => ?_) (fun c5 => ?_)
    · refine go_iload kk32_0.1.2.2.1 rfl ?_
      refine go_int kk32_0.1.2.2.2 500 rfl ?_
      refine go_cmlt kk32_0.2.1.1.1 h1 (inR_of (by decide)) (fun c6 => ?_) (fun c7 => ?_)
      · refine go_aload kk32_0.2.1.2.2 rfl ?_
        refine go_getR (bI := 0) kk32_0.2.2.1.1 hg hK0 (by decide) rfl rfl (fun r8 => ?_)
        refine go_iload kk32_0.2.2.1.2 rfl ?_
        refine go_ck (fun q10 => ?_)
        refine go_bald kk32_0.2.2.2.1 hg q10 r8 (fun r9 => ?_)
        exact go_iret kk32_0.2.2.2.2 hg r9 ⟨Nat.zero_le _, Nat.zero_le _⟩ rfl
      · refine go_int kk32_0.2.1.1.2 0 rfl ?_
        refine go_goto kk32_0.2.1.2.1 ?_
        exact go_iret kk32_0.2.2.2.2 hg (inR_b (Or.inl rfl)) ⟨Nat.zero_le _, Nat.zero_le _⟩ rfl
    · refine go_int kk32_0.2.1.1.2 0 rfl ?_
      refine go_goto kk32_0.2.1.2.1 ?_
      exact go_iret kk32_0.2.2.2.2 hg (inR_b (Or.inl rfl)) ⟨Nat.zero_le _, Nat.zero_le _⟩ rfl
theorem tbS_isWord_24 {Φ : ev_P} {d : Nat} (hd : 1 ≤ d) {g : gH} (hg : HR g) {v0 v1 : Int} (hK0 : kd v0 = 4) {X24 : Int → Int → Option Int} (HX24 : ∀ (v2 : Int) (h2 : B01 v2) (v3 : Int) (h3 : InR v3), Go Φ pr_P (fP g) 3 (X24 v2 v3) d pr_m69 24 [some (sR v0), some (sR v1), some (sI v2), some (sI v3)] [] g 0 0) : ∀ (v2 : Int) (h2 : B01 v2) (v3 : Int) (h3 : InR v3), Go Φ pr_P (fP g) 3 (bS_isWord_24 g v0 v1 X24 v2 v3) d pr_m69 24 [some (sR v0), some (sR v1), some (sI v2), some (sI v3)] [] g 0 0 := by
  intro v2 h2 v3 h3
  unfold bS_isWord_24
  refine go_iload kk69_0.1.2.1.2.2 rfl ?_
  refine go_ifeq kk69_0.1.2.2.1.1.1 (inR_b h2) (fun c6 => ?_) (fun c7 => ?_)
  · refine go_iload kk69_0.2.2.2.2.1 rfl ?_
    exact go_bret kk69_0.2.2.2.2.2 hg h2 ⟨Nat.zero_le _, Nat.zero_le _⟩ rfl
  · refine go_iload kk69_0.1.2.2.1.1.2 rfl ?_
    refine go_aload kk69_0.1.2.2.1.2 rfl ?_
    refine go_ck (fun q8 => ?_)
    refine go_slen kk69_0.1.2.2.2.1 q8 rfl ⟨Nat.zero_le _, Nat.zero_le _⟩ ?_
    refine go_cmlt kk69_0.1.2.2.2.2 h3 (inR_gtl _) (fun c9 => ?_) (fun c10 => ?_)
    · refine go_aload kk69_0.2.1.1.1.1.1 rfl ?_
      refine go_getR (bI := 0) kk69_0.2.1.1.1.1.2 hg hK0 (by decide) rfl rfl (fun r11 => ?_)
      refine go_aload kk69_0.2.1.1.1.2 rfl ?_
      refine go_getI (bI := 5) kk69_0.2.1.1.2.1 hg hK0 (by decide) rfl rfl (fun r12 => ?_)
      refine go_iload kk69_0.2.1.1.2.2 rfl ?_
      refine go_iadd kk69_0.2.1.2.1.1.1 ?_
      refine go_ck (fun q13 => ?_)
      refine go_callP1 kk69_0.2.1.2.1.1.2 rfl rfl rfl ⟨by decide, _, rfl, q13⟩ ⟨Nat.zero_le _, Nat.zero_le _⟩ (by omega) (tfI_at (by omega) hg q13  (inR_w32 _)) (fun y14 r15 => ?_)
      refine go_aload kk69_0.2.1.2.1.2 rfl ?_
      refine go_iload kk69_0.2.1.2.2.1 rfl ?_
      refine go_ck (fun q18 => ?_)
      refine go_chat kk69_0.2.1.2.2.2 q18 rfl ⟨Nat.zero_le _, Nat.zero_le _⟩ ?_
      refine go_cmeq kk69_0.2.2.1.1.1.1 r15 (inR_gch _ _) (fun c19 => ?_) (fun c20 => ?_)
      · refine go_int kk69_0.2.2.1.1.1.2 1 rfl ?_
        refine go_goto kk69_0.2.2.1.1.2 ?_
        refine go_istore kk69_0.2.2.1.2.2 rfl (loc2 := [some (sR v0), some (sR v1), some (sI 1), some (sI v3)]) rfl ?_
        refine go_iinc kk69_0.2.2.2.1.1 rfl rfl 1 rfl (loc2 := [some (sR v0), some (sR v1), some (sI 1), some (sI (w32 (v3 + 1)))]) rfl ?_
        refine go_goto kk69_0.2.2.2.1.2 ?_
        exact HX24 1 (Or.inr rfl) (w32 (v3 + 1)) (inR_w32 _)
      · refine go_int kk69_0.2.2.1.2.1 0 rfl ?_
        refine go_istore kk69_0.2.2.1.2.2 rfl (loc2 := [some (sR v0), some (sR v1), some (sI 0), some (sI v3)]) rfl ?_
        refine go_iinc kk69_0.2.2.2.1.1 rfl rfl 1 rfl (loc2 := [some (sR v0), some (sR v1), some (sI 0), some (sI (w32 (v3 + 1)))]) rfl ?_
        refine go_goto kk69_0.2.2.2.1.2 ?_
        exact HX24 0 (Or.inl rfl) (w32 (v3 + 1)) (inR_w32 _)
    · refine go_iload kk69_0.2.2.2.2.1 rfl ?_
      exact go_bret kk69_0.2.2.2.2.2 hg h2 ⟨Nat.zero_le _, Nat.zero_le _⟩ rfl
theorem tlS_isWord_24 {Φ : ev_P} {d : Nat} (hd : 1 ≤ d) {g : gH} (hg : HR g) {v0 v1 : Int} (hK0 : kd v0 = 4) : ∀ n : Nat, ∀ (v2 : Int) (h2 : B01 v2) (v3 : Int) (h3 : InR v3), Go Φ pr_P (fP g) 3 (lS_isWord_24 g v0 v1 n v2 v3) d pr_m69 24 [some (sR v0), some (sR v1), some (sI v2), some (sI v3)] [] g 0 0 := by
  intro n
  induction n with
  | zero => intros; exact go_none
  | succ n ih => exact tbS_isWord_24 hd hg hK0 ih
theorem tfS_isWord {Φ : ev_P} {d : Nat} (hd : 1 ≤ d) {g : gH} (hg : HR g) {v0 v1 : Int} (hK0 : kd v0 = 4) : Go Φ pr_P (fP g) 3 (fS_isWord g v0 v1) d (pr_P 69) 0 (ev_loc (pr_P 69).1 [(sR v0), (sR v1)]) [] g 0 0 := by
  show Go Φ pr_P (fP g) 3 (fS_isWord g v0 v1) d pr_m69 0 [some (sR v0), some (sR v1), none, none] [] g 0 0
  unfold fS_isWord
  refine go_aload kk69_0.1.1.1.1.1.1 rfl ?_
  refine go_getI (bI := 6) kk69_0.1.1.1.1.1.2 hg hK0 (by decide) rfl rfl (fun r1 => ?_)
  refine go_aload kk69_0.1.1.1.1.2 rfl ?_
  refine go_getI (bI := 5) kk69_0.1.1.1.2.1 hg hK0 (by decide) rfl rfl (fun r2 => ?_)
  refine go_isub kk69_0.1.1.1.2.2 ?_
  refine go_aload kk69_0.1.1.2.1.1.1 rfl ?_
  refine go_ck (fun q3 => ?_)
  refine go_slen kk69_0.1.1.2.1.1.2 q3 rfl ⟨Nat.zero_le _, Nat.zero_le _⟩ ?_
  refine go_cmeq kk69_0.1.1.2.1.2 (inR_w32 _) (inR_gtl _) (fun c4 => ?_) (fun c5 => ?_)
  · refine go_int kk69_0.1.1.2.2.1 1 rfl ?_
    refine go_goto kk69_0.1.1.2.2.2 ?_
    refine go_istore kk69_0.1.2.1.1.1.2 rfl (loc2 := [some (sR v0), some (sR v1), some (sI 1), none]) rfl ?_
    refine go_int kk69_0.1.2.1.1.2 0 rfl ?_
    refine go_istore kk69_0.1.2.1.2.1 rfl (loc2 := [some (sR v0), some (sR v1), some (sI 1), some (sI 0)]) rfl ?_
    exact tlS_isWord_24 hd hg hK0 fu 1 (Or.inr rfl) 0 (inR_b (Or.inl rfl))
  · refine go_int kk69_0.1.2.1.1.1.1 0 rfl ?_
    refine go_istore kk69_0.1.2.1.1.1.2 rfl (loc2 := [some (sR v0), some (sR v1), some (sI 0), none]) rfl ?_
    refine go_int kk69_0.1.2.1.1.2 0 rfl ?_
    refine go_istore kk69_0.1.2.1.2.1 rfl (loc2 := [some (sR v0), some (sR v1), some (sI 0), some (sI 0)]) rfl ?_
    exact tlS_isWord_24 hd hg hK0 fu 0 (Or.inl rfl) 0 (inR_b (Or.inl rfl))
theorem tfS_ruleOfWord {Φ : ev_P} {d : Nat} (hd : 2 ≤ d) {g : gH} (hg : HR g) {v0 : Int} (hK0 : kd v0 = 4) : Go Φ pr_P (fP g) 1 (fS_ruleOfWord g v0) d (pr_P 54) 0 (ev_loc (pr_P 54).1 [(sR v0)]) [] g 0 0 := by
  show Go Φ pr_P (fP g) 1 (fS_ruleOfWord g v0) d pr_m54 0 [some (sR v0)] [] g 0 0
  unfold fS_ruleOfWord
  refine go_aload kk54_0.1.1.1.1.1 rfl ?_
  refine go_ldcs kk54_0.1.1.1.1.2 (by decide) (x := 2000008) rfl ?_
  refine go_callP3 kk54_0.1.1.1.2.1 rfl rfl rfl ⟨by decide, _, rfl, hK0⟩ ⟨Nat.zero_le _, Nat.zero_le _⟩ (by omega) (tfS_isWord (by omega) hg hK0 ) (fun y1 r2 => ?_)
  refine go_ifeq kk54_0.1.1.1.2.2 (inR_b r2) (fun c5 => ?_) (fun c6 => ?_)
  · refine go_aload kk54_0.1.1.2.2.1 rfl ?_
    refine go_ldcs kk54_0.1.1.2.2.2 (by decide) (x := 2000009) rfl ?_
    refine go_callP3 kk54_0.1.2.1.1.1 rfl rfl rfl ⟨by decide, _, rfl, hK0⟩ ⟨Nat.zero_le _, Nat.zero_le _⟩ (by omega) (tfS_isWord (by omega) hg hK0 ) (fun y7 r8 => ?_)
    refine go_ifeq kk54_0.1.2.1.1.2 (inR_b r8) (fun c11 => ?_) (fun c12 => ?_)
    · refine go_aload kk54_0.1.2.2.1.1 rfl ?_
      refine go_ldcs kk54_0.1.2.2.1.2 (by decide) (x := 2000010) rfl ?_
      refine go_callP3 kk54_0.1.2.2.2.1 rfl rfl rfl ⟨by decide, _, rfl, hK0⟩ ⟨Nat.zero_le _, Nat.zero_le _⟩ (by omega) (tfS_isWord (by omega) hg hK0 ) (fun y13 r14 => ?_)
      refine go_ifeq kk54_0.1.2.2.2.2 (inR_b r14) (fun c17 => ?_) (fun c18 => ?_)
      · refine go_aload kk54_0.2.1.1.2.1 rfl ?_
        refine go_ldcs kk54_0.2.1.1.2.2 (by decide) (x := 2000011) rfl ?_
        refine go_callP3 kk54_0.2.1.2.1.1 rfl rfl rfl ⟨by decide, _, rfl, hK0⟩ ⟨Nat.zero_le _, Nat.zero_le _⟩ (by omega) (tfS_isWord (by omega) hg hK0 ) (fun y19 r20 => ?_)
        refine go_ifeq kk54_0.2.1.2.1.2 (inR_b r20) (fun c23 => ?_) (fun c24 => ?_)
        · refine go_aload kk54_0.2.2.1.1.1 rfl ?_
          refine go_ldcs kk54_0.2.2.1.1.2 (by decide) (x := 2000012) rfl ?_
          refine go_callP3 kk54_0.2.2.1.2.1 rfl rfl rfl ⟨by decide, _, rfl, hK0⟩ ⟨Nat.zero_le _, Nat.zero_le _⟩ (by omega) (tfS_isWord (by omega) hg hK0 ) (fun y25 r26 => ?_)
          refine go_ifeq kk54_0.2.2.1.2.2 (inR_b r26) (fun c29 => ?_) (fun c30 => ?_)
          · refine go_int kk54_0.2.2.2.2.1 (-1) rfl ?_
            exact go_iret kk54_0.2.2.2.2.2 hg (inR_of (by decide)) ⟨Nat.zero_le _, Nat.zero_le _⟩ rfl
          · refine go_int kk54_0.2.2.2.1.1 4 rfl ?_
            refine go_goto kk54_0.2.2.2.1.2 ?_
            exact go_iret kk54_0.2.2.2.2.2 hg (inR_of (by decide)) ⟨Nat.zero_le _, Nat.zero_le _⟩ rfl
        · refine go_int kk54_0.2.1.2.2.1 3 rfl ?_
          exact go_iret kk54_0.2.1.2.2.2 hg (inR_of (by decide)) ⟨Nat.zero_le _, Nat.zero_le _⟩ rfl
      · refine go_int kk54_0.2.1.1.1.1 2 rfl ?_
        exact go_iret kk54_0.2.1.1.1.2 hg (inR_of (by decide)) ⟨Nat.zero_le _, Nat.zero_le _⟩ rfl
    · refine go_int kk54_0.1.2.1.2.1 1 rfl ?_
      exact go_iret kk54_0.1.2.1.2.2 hg (inR_b (Or.inr rfl)) ⟨Nat.zero_le _, Nat.zero_le _⟩ rfl
  · refine go_int kk54_0.1.1.2.1.1 0 rfl ?_
    exact go_iret kk54_0.1.1.2.1.2 hg (inR_b (Or.inl rfl)) ⟨Nat.zero_le _, Nat.zero_le _⟩ rfl
theorem tfS_fail {Φ : ev_P} {d : Nat} (hd : 0 ≤ d) {g : gH} (hg : HR g) {v0 v1 : Int} (hK0 : kd v0 = 4) (h1 : InR v1) : Go Φ pr_P fN 3 (fS_fail g v0 v1) d (pr_P 65) 0 (ev_loc (pr_P 65).1 [(sR v0), (sI v1)]) [] g 0 0 := by
  show Go Φ pr_P fN 3 (fS_fail g v0 v1) d pr_m65 0 [some (sR v0), some (sI v1)] [] g 0 0
  unfold fS_fail
  refine go_aload kk65_0.1.1.1.1 rfl ?_
  refine go_iload kk65_0.1.1.1.2 rfl ?_
  refine go_putI (bI := 2) kk65_0.1.1.2 hg hK0 (by decide) rfl rfl h1 (fun g1 e2 => ?_)
  refine go_aload kk65_0.1.2.1 rfl ?_
  refine go_aload kk65_0.1.2.2 rfl ?_
  refine go_getI (bI := 5) kk65_0.2.1.1 e2 hK0 (by decide) rfl rfl (fun r3 => ?_)
  refine go_putI (bI := 3) kk65_0.2.1.2 e2 hK0 (by decide) rfl rfl r3 (fun g4 e5 => ?_)
  refine go_int kk65_0.2.2.1 0 rfl ?_
  exact go_bret kk65_0.2.2.2 e5 (Or.inl rfl) ⟨Nat.zero_le _, Nat.zero_le _⟩ rfl
theorem tfS_isBlank {Φ : ev_P} {d : Nat} (hd : 0 ≤ d) {g : gH} (hg : HR g) {v0 : Int} (h0 : InR v0) : Go Φ pr_P (fP g) 3 (fS_isBlank g v0) d (pr_P 67) 0 (ev_loc (pr_P 67).1 [(sI v0)]) [] g 0 0 := by
  show Go Φ pr_P (fP g) 3 (fS_isBlank g v0) d pr_m67 0 [some (sI v0)] [] g 0 0
  unfold fS_isBlank
  refine go_iload kk67_0.1.1.1.1 rfl ?_
  refine go_int kk67_0.1.1.1.2 32 rfl ?_
  refine go_cmeq kk67_0.1.1.2 h0 (inR_of (by decide)) (fun c1 => ?_) (fun c2 => ?_)
  · refine go_int kk67_0.2.1.1.2 1 rfl ?_
    refine go_goto kk67_0.2.1.2 ?_
    exact go_bret kk67_0.2.2.2 hg (Or.inr rfl) ⟨Nat.zero_le _, Nat.zero_le _⟩ rfl
  · refine go_iload kk67_0.1.2.1 rfl ?_
    refine go_int kk67_0.1.2.2 10 rfl ?_
    refine go_cmeq kk67_0.2.1.1.1 h0 (inR_of (by decide)) (fun c3 => ?_) (fun c4 => ?_)
    · refine go_int kk67_0.2.1.1.2 1 rfl ?_
      refine go_goto kk67_0.2.1.2 ?_
      exact go_bret kk67_0.2.2.2 hg (Or.inr rfl) ⟨Nat.zero_le _, Nat.zero_le _⟩ rfl
    · refine go_int kk67_0.2.2.1 0 rfl ?_
      exact go_bret kk67_0.2.2.2 hg (Or.inl rfl) ⟨Nat.zero_le _, Nat.zero_le _⟩ rfl
theorem tjS_kindOf_28 {Φ : ev_P} {d : Nat} (hd : 0 ≤ d) {g : gH} (hg : HR g) {v0 : Int} (h0 : InR v0) : Go Φ pr_P (fP g) 1 (jS_kindOf_28 g v0 ) d pr_m68 28 [some (sI v0)] [] g 0 0 := by
  unfold jS_kindOf_28
  refine go_iload kk68_0.2.1.2.1.2 rfl ?_
  refine go_int kk68_0.2.1.2.2 59 rfl ?_
  refine go_cmeq kk68_0.2.2.1.1.1 h0 (inR_of (by decide)) (fun c9 => ?_) (fun c10 => ?_)
  · refine go_int kk68_0.2.2.1.1.2 3 rfl ?_
    refine go_goto kk68_0.2.2.1.2 ?_
    exact go_iret kk68_0.2.2.2.2 hg (inR_of (by decide)) ⟨Nat.zero_le _, Nat.zero_le _⟩ rfl
  · refine go_int kk68_0.2.2.2.1 4 rfl ?_
    exact go_iret kk68_0.2.2.2.2 hg (inR_of (by decide)) ⟨Nat.zero_le _, Nat.zero_le _⟩ rfl
theorem tjS_kindOf_14 {Φ : ev_P} {d : Nat} (hd : 0 ≤ d) {g : gH} (hg : HR g) {v0 : Int} (h0 : InR v0) : Go Φ pr_P (fP g) 1 (jS_kindOf_14 g v0 ) d pr_m68 14 [some (sI v0)] [] g 0 0 := by
  unfold jS_kindOf_14
  refine go_iload kk68_0.1.2.1.2 rfl ?_
  refine go_int kk68_0.1.2.2.1.1 48 rfl ?_
  refine go_cmlt kk68_0.1.2.2.1.2 h0 (inR_of (by decide)) (fun c5 => ?_) (fun c6 => ?_)
  · exact tjS_kindOf_28 hd hg h0
  · refine go_iload kk68_0.1.2.2.2 rfl ?_
    refine go_int kk68_0.2.1.1.1.1 57 rfl ?_
    refine go_cmgt kk68_0.2.1.1.1.2 h0 (inR_of (by decide)) (fun c7 => ?_) (fun c8 => ?_)
    · exact tjS_kindOf_28 hd hg h0
    · refine go_int kk68_0.2.1.1.2 2 rfl ?_
      exact go_iret kk68_0.2.1.2.1.1 hg (inR_of (by decide)) ⟨Nat.zero_le _, Nat.zero_le _⟩ rfl
theorem tfS_kindOf {Φ : ev_P} {d : Nat} (hd : 0 ≤ d) {g : gH} (hg : HR g) {v0 : Int} (h0 : InR v0) : Go Φ pr_P (fP g) 1 (fS_kindOf g v0) d (pr_P 68) 0 (ev_loc (pr_P 68).1 [(sI v0)]) [] g 0 0 := by
  show Go Φ pr_P (fP g) 1 (fS_kindOf g v0) d pr_m68 0 [some (sI v0)] [] g 0 0
  unfold fS_kindOf
  refine go_iload kk68_0.1.1.1.1.1 rfl ?_
  refine go_int kk68_0.1.1.1.1.2 97 rfl ?_
  refine go_cmlt kk68_0.1.1.1.2 h0 (inR_of (by decide)) (fun c1 => ?_) (fun c2 => ?_)
  · exact tjS_kindOf_14 hd hg h0
  · refine go_iload kk68_0.1.1.2.1.1 rfl ?_
    refine go_int kk68_0.1.1.2.1.2 122 rfl ?_
    refine go_cmgt kk68_0.1.1.2.2 h0 (inR_of (by decide)) (fun c3 => ?_) (fun c4 => ?_)
    · exact tjS_kindOf_14 hd hg h0
    · refine go_int kk68_0.1.2.1.1.1 1 rfl ?_
      exact go_iret kk68_0.1.2.1.1.2 hg (inR_b (Or.inr rfl)) ⟨Nat.zero_le _, Nat.zero_le _⟩ rfl
theorem tjS_advance_215 {Φ : ev_P} {d : Nat} (hd : 1 ≤ d) {g : gH} (hg : HR g) {v0 : Int} (hK0 : kd v0 = 4) : Go Φ pr_P fN 0 (jS_advance_215 g v0 ) d pr_m66 215 [some (sR v0)] [] g 0 0 := by
  unfold jS_advance_215
  refine go_aload kk66_1.2.2.1.1.1.1 rfl ?_
  refine go_getI (bI := 4) kk66_1.2.2.1.1.1.2 hg hK0 (by decide) rfl rfl (fun r105 => ?_)
  refine go_int kk66_1.2.2.1.1.2.1 2 rfl ?_
  refine go_cmeq kk66_1.2.2.1.1.2.2 r105 (inR_of (by decide)) (fun c106 => ?_) (fun c107 => ?_)
  · refine go_aload kk66_1.2.2.1.2.1.1 rfl ?_
    refine go_getI (bI := 6) kk66_1.2.2.1.2.1.2 hg hK0 (by decide) rfl rfl (fun r108 => ?_)
    refine go_aload kk66_1.2.2.1.2.2.1 rfl ?_
    refine go_getI (bI := 5) kk66_1.2.2.1.2.2.2 hg hK0 (by decide) rfl rfl (fun r109 => ?_)
    refine go_isub kk66_1.2.2.2.1.1.1 ?_
    refine go_int kk66_1.2.2.2.1.1.2 2 rfl ?_
    refine go_cmgt kk66_1.2.2.2.1.2.1 (inR_w32 _) (inR_of (by decide)) (fun c110 => ?_) (fun c111 => ?_)
    · refine go_aload kk66_1.2.2.2.1.2.2 rfl ?_
      refine go_int kk66_1.2.2.2.2.1.1 4 rfl ?_
      refine go_putI (bI := 4) kk66_1.2.2.2.2.1.2 hg hK0 (by decide) rfl rfl (inR_of (by decide)) (fun g112 e113 => ?_)
      exact go_vret kk66_1.2.2.2.2.2 e113 ⟨Nat.zero_le _, Nat.zero_le _⟩ rfl
    · exact go_vret kk66_1.2.2.2.2.2 hg ⟨Nat.zero_le _, Nat.zero_le _⟩ rfl
  · exact go_vret kk66_1.2.2.2.2.2 hg ⟨Nat.zero_le _, Nat.zero_le _⟩ rfl
theorem tjS_advance_141 {Φ : ev_P} {d : Nat} (hd : 1 ≤ d) {X125 : gH → Option (Int × gH)} {g : gH} (hg : HR g) {v0 : Int} (hK0 : kd v0 = 4) (HX125 : ∀ (g : gH) (hg : HR g), Go Φ pr_P fN 0 (X125 g) d pr_m66 125 [some (sR v0)] [] g 0 0) : Go Φ pr_P fN 0 (jS_advance_141 X125 g v0 ) d pr_m66 141 [some (sR v0)] [] g 0 0 := by
  unfold jS_advance_141
  refine go_aload kk66_1.1.1.2.1.1.2 rfl ?_
  refine go_getI (bI := 6) kk66_1.1.1.2.1.2.1 hg hK0 (by decide) rfl rfl (fun r74 => ?_)
  refine go_aload kk66_1.1.1.2.1.2.2 rfl ?_
  refine go_getR (bI := 0) kk66_1.1.1.2.2.1.1 hg hK0 (by decide) rfl rfl (fun r75 => ?_)
  refine go_ck (fun q76 => ?_)
  refine go_getI (bI := 1) kk66_1.1.1.2.2.1.2 hg q76 (by decide) rfl rfl (fun r77 => ?_)
  refine go_cmlt kk66_1.1.1.2.2.2 r74 r77 (fun c78 => ?_) (fun c79 => ?_)
  · refine go_aload kk66_1.1.2.1.1.1.1 rfl ?_
    refine go_getR (bI := 0) kk66_1.1.2.1.1.1.2 hg hK0 (by decide) rfl rfl (fun r80 => ?_)
    refine go_aload kk66_1.1.2.1.1.2.1 rfl ?_
    refine go_getI (bI := 6) kk66_1.1.2.1.1.2.2 hg hK0 (by decide) rfl rfl (fun r81 => ?_)
    refine go_callP1 kk66_1.1.2.1.2.1.1 rfl rfl rfl ⟨by decide, _, rfl, q76⟩ ⟨Nat.zero_le _, Nat.zero_le _⟩ (by omega) (tfI_at (by omega) hg q76  r81) (fun y82 r83 => ?_)
    refine go_callP1 kk66_1.1.2.1.2.1.2 rfl rfl rfl trivial ⟨Nat.zero_le _, Nat.zero_le _⟩ (by omega) (tfS_kindOf (by omega) hg  r83) (fun y86 r87 => ?_)
    refine go_aload kk66_1.1.2.1.2.2.1 rfl ?_
    refine go_getI (bI := 4) kk66_1.1.2.1.2.2.2 hg hK0 (by decide) rfl rfl (fun r90 => ?_)
    refine go_cmeq kk66_1.1.2.2.1.1.1 r87 r90 (fun c91 => ?_) (fun c92 => ?_)
    · refine go_aload kk66_1.1.2.2.1.1.2 rfl ?_
      refine go_int kk66_1.1.2.2.1.2.1 10 rfl ?_
      refine go_aload kk66_1.1.2.2.1.2.2 rfl ?_
      refine go_getI (bI := 7) kk66_1.1.2.2.2.1.1 hg hK0 (by decide) rfl rfl (fun r93 => ?_)
      refine go_ibin kk66_1.1.2.2.2.1.2 ?_
      refine go_aload kk66_1.1.2.2.2.2 rfl ?_
      refine go_getR (bI := 0) kk66_1.2.1.1.1.1.1 hg hK0 (by decide) rfl rfl (fun r94 => ?_)
      refine go_aload kk66_1.2.1.1.1.1.2 rfl ?_
      refine go_getI (bI := 6) kk66_1.2.1.1.1.2.1 hg hK0 (by decide) rfl rfl (fun r95 => ?_)
      refine go_callP1 kk66_1.2.1.1.1.2.2 rfl rfl rfl ⟨by decide, _, rfl, q76⟩ ⟨Nat.zero_le _, Nat.zero_le _⟩ (by omega) (tfI_at (by omega) hg q76  r95) (fun y96 r97 => ?_)
      refine go_iadd kk66_1.2.1.1.2.1.1 ?_
      refine go_int kk66_1.2.1.1.2.1.2 48 rfl ?_
      refine go_isub kk66_1.2.1.1.2.2.1 ?_
      refine go_putI (bI := 7) kk66_1.2.1.1.2.2.2 hg hK0 (by decide) rfl rfl (inR_w32 _) (fun g100 e101 => ?_)
      refine go_aload kk66_1.2.1.2.1.1.1 rfl ?_
      refine go_dupR kk66_1.2.1.2.1.1.2 ?_
      refine go_getI (bI := 6) kk66_1.2.1.2.1.2.1 e101 hK0 (by decide) rfl rfl (fun r102 => ?_)
      refine go_int kk66_1.2.1.2.1.2.2 1 rfl ?_
      refine go_iadd kk66_1.2.1.2.2.1.1 ?_
      refine go_putI (bI := 6) kk66_1.2.1.2.2.1.2 e101 hK0 (by decide) rfl rfl (inR_w32 _) (fun g103 e104 => ?_)
      refine go_goto kk66_1.2.1.2.2.2 ?_
      exact HX125 g103 e104
    · exact tjS_advance_215 hd hg hK0
  · exact tjS_advance_215 hd hg hK0
theorem tbS_advance_125 {Φ : ev_P} {d : Nat} (hd : 1 ≤ d) {v0 : Int} (hK0 : kd v0 = 4) {X125 : gH → Option (Int × gH)} (HX125 : ∀ (g : gH) (hg : HR g), Go Φ pr_P fN 0 (X125 g) d pr_m66 125 [some (sR v0)] [] g 0 0) : ∀ (g : gH) (hg : HR g), Go Φ pr_P fN 0 (bS_advance_125 v0 X125 g) d pr_m66 125 [some (sR v0)] [] g 0 0 := by
  intro g hg
  unfold bS_advance_125
  refine go_aload kk66_1.1.1.1.1.1.2 rfl ?_
  refine go_getI (bI := 4) kk66_1.1.1.1.1.2.1 hg hK0 (by decide) rfl rfl (fun r68 => ?_)
  refine go_int kk66_1.1.1.1.1.2.2 1 rfl ?_
  refine go_cmeq kk66_1.1.1.1.2.1.1 r68 (inR_b (Or.inr rfl)) (fun c69 => ?_) (fun c70 => ?_)
  · exact tjS_advance_141 hd hg hK0 HX125
  · refine go_aload kk66_1.1.1.1.2.1.2 rfl ?_
    refine go_getI (bI := 4) kk66_1.1.1.1.2.2.1 hg hK0 (by decide) rfl rfl (fun r71 => ?_)
    refine go_int kk66_1.1.1.1.2.2.2 2 rfl ?_
    refine go_cmeq kk66_1.1.1.2.1.1.1 r71 (inR_of (by decide)) (fun c72 => ?_) (fun c73 => ?_)
    · exact tjS_advance_141 hd hg hK0 HX125
    · exact tjS_advance_215 hd hg hK0
theorem tlS_advance_125 {Φ : ev_P} {d : Nat} (hd : 1 ≤ d) {v0 : Int} (hK0 : kd v0 = 4) : ∀ n : Nat, ∀ (g : gH) (hg : HR g), Go Φ pr_P fN 0 (lS_advance_125 v0 n g) d pr_m66 125 [some (sR v0)] [] g 0 0 := by
  intro n
  induction n with
  | zero => intros; exact go_none
  | succ n ih => exact tbS_advance_125 hd hK0 ih
theorem tjS_advance_52 {Φ : ev_P} {d : Nat} (hd : 1 ≤ d) {g : gH} (hg : HR g) {v0 : Int} (hK0 : kd v0 = 4) : Go Φ pr_P fN 0 (jS_advance_52 g v0 ) d pr_m66 52 [some (sR v0)] [] g 0 0 := by
  unfold jS_advance_52
  refine go_aload kk66_0.1.2.2.1.1.2 rfl ?_
  refine go_aload kk66_0.1.2.2.1.2.1 rfl ?_
  refine go_getI (bI := 5) kk66_0.1.2.2.1.2.2 hg hK0 (by decide) rfl rfl (fun r25 => ?_)
  refine go_putI (bI := 6) kk66_0.1.2.2.2.1.1 hg hK0 (by decide) rfl rfl r25 (fun g26 e27 => ?_)
  refine go_aload kk66_0.1.2.2.2.1.2 rfl ?_
  refine go_int kk66_0.1.2.2.2.2 0 rfl ?_
  refine go_putI (bI := 4) kk66_0.2.1.1.1.1.1 e27 hK0 (by decide) rfl rfl (inR_b (Or.inl rfl)) (fun g28 e29 => ?_)
  refine go_aload kk66_0.2.1.1.1.1.2 rfl ?_
  refine go_getI (bI := 5) kk66_0.2.1.1.1.2.1 e29 hK0 (by decide) rfl rfl (fun r30 => ?_)
  refine go_aload kk66_0.2.1.1.1.2.2 rfl ?_
  refine go_getR (bI := 0) kk66_0.2.1.1.2.1.1 e29 hK0 (by decide) rfl rfl (fun r31 => ?_)
  refine go_ck (fun q32 => ?_)
  refine go_getI (bI := 1) kk66_0.2.1.1.2.1.2 e29 q32 (by decide) rfl rfl (fun r33 => ?_)
  refine go_cmlt kk66_0.2.1.1.2.2.1 r30 r33 (fun c34 => ?_) (fun c35 => ?_)
  · refine go_aload kk66_0.2.1.1.2.2.2 rfl ?_
    refine go_aload kk66_0.2.1.2.1.1.1 rfl ?_
    refine go_getR (bI := 0) kk66_0.2.1.2.1.1.2 e29 hK0 (by decide) rfl rfl (fun r36 => ?_)
    refine go_aload kk66_0.2.1.2.1.2.1 rfl ?_
    refine go_getI (bI := 5) kk66_0.2.1.2.1.2.2 e29 hK0 (by decide) rfl rfl (fun r37 => ?_)
    refine go_callP1 kk66_0.2.1.2.2.1.1 rfl rfl rfl ⟨by decide, _, rfl, q32⟩ ⟨Nat.zero_le _, Nat.zero_le _⟩ (by omega) (tfI_at (by omega) e29 q32  r37) (fun y38 r39 => ?_)
    refine go_callP1 kk66_0.2.1.2.2.1.2 rfl rfl rfl trivial ⟨Nat.zero_le _, Nat.zero_le _⟩ (by omega) (tfS_kindOf (by omega) e29  r39) (fun y42 r43 => ?_)
    refine go_putI (bI := 4) kk66_0.2.1.2.2.2 e29 hK0 (by decide) rfl rfl r43 (fun g46 e47 => ?_)
    refine go_aload kk66_0.2.2.1.1.1.1 rfl ?_
    refine go_dupR kk66_0.2.2.1.1.1.2 ?_
    refine go_getI (bI := 6) kk66_0.2.2.1.1.2.1 e47 hK0 (by decide) rfl rfl (fun r48 => ?_)
    refine go_int kk66_0.2.2.1.1.2.2 1 rfl ?_
    refine go_iadd kk66_0.2.2.1.2.1.1 ?_
    refine go_putI (bI := 6) kk66_0.2.2.1.2.1.2 e47 hK0 (by decide) rfl rfl (inR_w32 _) (fun g49 e50 => ?_)
    refine go_aload kk66_0.2.2.1.2.2 rfl ?_
    refine go_aload kk66_0.2.2.2.1.1.1 rfl ?_
    refine go_getR (bI := 0) kk66_0.2.2.2.1.1.2 e50 hK0 (by decide) rfl rfl (fun r51 => ?_)
    refine go_aload kk66_0.2.2.2.1.2.1 rfl ?_
    refine go_getI (bI := 5) kk66_0.2.2.2.1.2.2 e50 hK0 (by decide) rfl rfl (fun r52 => ?_)
    refine go_ck (fun q53 => ?_)
    refine go_callP1 kk66_0.2.2.2.2.1.1 rfl rfl rfl ⟨by decide, _, rfl, q53⟩ ⟨Nat.zero_le _, Nat.zero_le _⟩ (by omega) (tfI_at (by omega) e50 q53  r52) (fun y54 r55 => ?_)
    refine go_int kk66_0.2.2.2.2.1.2 48 rfl ?_
    refine go_isub kk66_0.2.2.2.2.2 ?_
    refine go_putI (bI := 7) kk66_1.1.1.1.1.1.1 e50 hK0 (by decide) rfl rfl (inR_w32 _) (fun g58 e59 => ?_)
    exact tlS_advance_125 hd hK0 fu g58 e59
  · refine go_aload kk66_0.2.2.1.2.2 rfl ?_
    refine go_aload kk66_0.2.2.2.1.1.1 rfl ?_
    refine go_getR (bI := 0) kk66_0.2.2.2.1.1.2 e29 hK0 (by decide) rfl rfl (fun r60 => ?_)
    refine go_aload kk66_0.2.2.2.1.2.1 rfl ?_
    refine go_getI (bI := 5) kk66_0.2.2.2.1.2.2 e29 hK0 (by decide) rfl rfl (fun r61 => ?_)
    refine go_callP1 kk66_0.2.2.2.2.1.1 rfl rfl rfl ⟨by decide, _, rfl, q32⟩ ⟨Nat.zero_le _, Nat.zero_le _⟩ (by omega) (tfI_at (by omega) e29 q32  r61) (fun y62 r63 => ?_)
    refine go_int kk66_0.2.2.2.2.1.2 48 rfl ?_
    refine go_isub kk66_0.2.2.2.2.2 ?_
    refine go_putI (bI := 7) kk66_1.1.1.1.1.1.1 e29 hK0 (by decide) rfl rfl (inR_w32 _) (fun g66 e67 => ?_)
    exact tlS_advance_125 hd hK0 fu g66 e67
theorem tbS_advance_8 {Φ : ev_P} {d : Nat} (hd : 1 ≤ d) {v0 : Int} (hK0 : kd v0 = 4) {X8 : gH → Option (Int × gH)} (HX8 : ∀ (g : gH) (hg : HR g), Go Φ pr_P fN 0 (X8 g) d pr_m66 8 [some (sR v0)] [] g 0 0) : ∀ (g : gH) (hg : HR g), Go Φ pr_P fN 0 (bS_advance_8 v0 X8 g) d pr_m66 8 [some (sR v0)] [] g 0 0 := by
  intro g hg
  unfold bS_advance_8
  refine go_aload kk66_0.1.1.1.2.1.1 rfl ?_
  refine go_getI (bI := 5) kk66_0.1.1.1.2.1.2 hg hK0 (by decide) rfl rfl (fun r4 => ?_)
  refine go_aload kk66_0.1.1.1.2.2.1 rfl ?_
  refine go_getR (bI := 0) kk66_0.1.1.1.2.2.2 hg hK0 (by decide) rfl rfl (fun r5 => ?_)
  refine go_ck (fun q6 => ?_)
  refine go_getI (bI := 1) kk66_0.1.1.2.1.1.1 hg q6 (by decide) rfl rfl (fun r7 => ?_)
  refine go_cmlt kk66_0.1.1.2.1.1.2 r4 r7 (fun c8 => ?_) (fun c9 => ?_)
  · refine go_aload kk66_0.1.1.2.1.2.1 rfl ?_
    refine go_getR (bI := 0) kk66_0.1.1.2.1.2.2 hg hK0 (by decide) rfl rfl (fun r10 => ?_)
    refine go_aload kk66_0.1.1.2.2.1.1 rfl ?_
    refine go_getI (bI := 5) kk66_0.1.1.2.2.1.2 hg hK0 (by decide) rfl rfl (fun r11 => ?_)
    refine go_callP1 kk66_0.1.1.2.2.2 rfl rfl rfl ⟨by decide, _, rfl, q6⟩ ⟨Nat.zero_le _, Nat.zero_le _⟩ (by omega) (tfI_at (by omega) hg q6  r11) (fun y12 r13 => ?_)
    refine go_callP3 kk66_0.1.2.1.1.1.1 rfl rfl rfl trivial ⟨Nat.zero_le _, Nat.zero_le _⟩ (by omega) (tfS_isBlank (by omega) hg  r13) (fun y16 r17 => ?_)
    refine go_ifeq kk66_0.1.2.1.1.1.2 (inR_b r17) (fun c20 => ?_) (fun c21 => ?_)
    · exact tjS_advance_52 hd hg hK0
    · refine go_aload kk66_0.1.2.1.1.2.1 rfl ?_
      refine go_dupR kk66_0.1.2.1.1.2.2 ?_
      refine go_getI (bI := 5) kk66_0.1.2.1.2.1.1 hg hK0 (by decide) rfl rfl (fun r22 => ?_)
      refine go_int kk66_0.1.2.1.2.1.2 1 rfl ?_
      refine go_iadd kk66_0.1.2.1.2.2.1 ?_
      refine go_putI (bI := 5) kk66_0.1.2.1.2.2.2 hg hK0 (by decide) rfl rfl (inR_w32 _) (fun g23 e24 => ?_)
      refine go_goto kk66_0.1.2.2.1.1.1 ?_
      exact HX8 g23 e24
  · exact tjS_advance_52 hd hg hK0
theorem tlS_advance_8 {Φ : ev_P} {d : Nat} (hd : 1 ≤ d) {v0 : Int} (hK0 : kd v0 = 4) : ∀ n : Nat, ∀ (g : gH) (hg : HR g), Go Φ pr_P fN 0 (lS_advance_8 v0 n g) d pr_m66 8 [some (sR v0)] [] g 0 0 := by
  intro n
  induction n with
  | zero => intros; exact go_none
  | succ n ih => exact tbS_advance_8 hd hK0 ih
theorem tfS_advance {Φ : ev_P} {d : Nat} (hd : 1 ≤ d) {g : gH} (hg : HR g) {v0 : Int} (hK0 : kd v0 = 4) : Go Φ pr_P fN 0 (fS_advance g v0) d (pr_P 66) 0 (ev_loc (pr_P 66).1 [(sR v0)]) [] g 0 0 := by
  show Go Φ pr_P fN 0 (fS_advance g v0) d pr_m66 0 [some (sR v0)] [] g 0 0
  unfold fS_advance
  refine go_aload kk66_0.1.1.1.1.1.1 rfl ?_
  refine go_aload kk66_0.1.1.1.1.1.2 rfl ?_
  refine go_getI (bI := 6) kk66_0.1.1.1.1.2.1 hg hK0 (by decide) rfl rfl (fun r1 => ?_)
  refine go_putI (bI := 5) kk66_0.1.1.1.1.2.2 hg hK0 (by decide) rfl rfl r1 (fun g2 e3 => ?_)
  exact tlS_advance_8 hd hK0 fu g2 e3
theorem tbT_hasRule_11 {Φ : ev_P} {d : Nat} (hd : 0 ≤ d) {g : gH} (hg : HR g) {v1 v2 v3 : Int} (h1 : InR v1) (h2 : RfR v2) (h3 : InR v3) {X11 : Int → Option Int} (HX11 : ∀ (v4 : Int) (h4 : InR v4) (u0 : Option ev_V) (w0 : nwo u0) (u5 : Option ev_V) (w5 : nwo u5), Go Φ pr_P (fP g) 3 (X11 v4) d pr_m72 11 [u0, some (sI v1), some (sR v2), some (sI v3), some (sI v4), u5] [] g 0 0) : ∀ (v4 : Int) (h4 : InR v4) (u0 : Option ev_V) (w0 : nwo u0) (u5 : Option ev_V) (w5 : nwo u5), Go Φ pr_P (fP g) 3 (bT_hasRule_11 g v1 v2 v3 X11 v4) d pr_m72 11 [u0, some (sI v1), some (sR v2), some (sI v3), some (sI v4), u5] [] g 0 0 := by
  intro v4 h4 u0 w0 u5 w5
  unfold bT_hasRule_11
  refine go_iload kk72_0.1.2.1.2 rfl ?_
  refine go_iload kk72_0.1.2.2.1.1 rfl ?_
  refine go_cmlt kk72_0.1.2.2.1.2 h4 h3 (fun c4 => ?_) (fun c5 => ?_)
  · refine go_aload kk72_0.1.2.2.2 rfl ?_
    refine go_iload kk72_0.2.1.1.1.1 rfl ?_
    refine go_ck (fun q7 => ?_)
    refine go_iald kk72_0.2.1.1.1.2 hg q7 h2 (fun r6 => ?_)
    refine go_istore kk72_0.2.1.1.2 rfl (loc2 := [u0, some (sI v1), some (sR v2), some (sI v3), some (sI v4), some (sI (g v2 v4))]) rfl ?_
    refine go_iload kk72_0.2.1.2.1.1 rfl ?_
    refine go_iload kk72_0.2.1.2.1.2 rfl ?_
    refine go_cmeq kk72_0.2.1.2.2 r6 h1 (fun c8 => ?_) (fun c9 => ?_)
    · refine go_int kk72_0.2.2.1.1.1 1 rfl ?_
      exact go_bret kk72_0.2.2.1.1.2 hg (Or.inr rfl) ⟨Nat.zero_le _, Nat.zero_le _⟩ rfl
    · refine go_iinc kk72_0.2.2.1.2 rfl rfl 1 rfl (loc2 := [u0, some (sI v1), some (sR v2), some (sI v3), some (sI (w32 (v4 + 1))), some (sI (g v2 v4))]) rfl ?_
      refine go_goto kk72_0.2.2.2.1.1 ?_
      exact HX11 (w32 (v4 + 1)) (inR_w32 _) u0 w0 (some (sI (g v2 v4))) rfl
  · refine go_int kk72_0.2.2.2.1.2 0 rfl ?_
    exact go_bret kk72_0.2.2.2.2 hg (Or.inl rfl) ⟨Nat.zero_le _, Nat.zero_le _⟩ rfl
theorem tlT_hasRule_11 {Φ : ev_P} {d : Nat} (hd : 0 ≤ d) {g : gH} (hg : HR g) {v1 v2 v3 : Int} (h1 : InR v1) (h2 : RfR v2) (h3 : InR v3) : ∀ n : Nat, ∀ (v4 : Int) (h4 : InR v4) (u0 : Option ev_V) (w0 : nwo u0) (u5 : Option ev_V) (w5 : nwo u5), Go Φ pr_P (fP g) 3 (lT_hasRule_11 g v1 v2 v3 n v4) d pr_m72 11 [u0, some (sI v1), some (sR v2), some (sI v3), some (sI v4), u5] [] g 0 0 := by
  intro n
  induction n with
  | zero => intros; exact go_none
  | succ n ih => exact tbT_hasRule_11 hd hg h1 h2 h3 ih
theorem tfT_hasRule {Φ : ev_P} {d : Nat} (hd : 0 ≤ d) {g : gH} (hg : HR g) {v0 v1 : Int} (hK0 : kd v0 = 5) (h1 : InR v1) : Go Φ pr_P (fP g) 3 (fT_hasRule g v0 v1) d (pr_P 72) 0 (ev_loc (pr_P 72).1 [(sR v0), (sI v1)]) [] g 0 0 := by
  show Go Φ pr_P (fP g) 3 (fT_hasRule g v0 v1) d pr_m72 0 [some (sR v0), some (sI v1), none, none, none, none] [] g 0 0
  unfold fT_hasRule
  refine go_aload kk72_0.1.1.1.1.1 rfl ?_
  refine go_getR (bI := 3) kk72_0.1.1.1.1.2 hg hK0 (by decide) rfl rfl (fun r1 => ?_)
  refine go_astore kk72_0.1.1.1.2 rfl (loc2 := [some (sR v0), some (sI v1), some (sR (g v0 3)), none, none, none]) rfl ?_
  refine go_aload kk72_0.1.1.2.1.1 rfl ?_
  refine go_ck (fun q3 => ?_)
  refine go_alen kk72_0.1.1.2.1.2 (ka_20 q3) r1 (fun r2 => ?_)
  refine go_istore kk72_0.1.1.2.2 rfl (loc2 := [some (sR v0), some (sI v1), some (sR (g v0 3)), some (sI (sz (g v0 3))), none, none]) rfl ?_
  refine go_int kk72_0.1.2.1.1.1 0 rfl ?_
  refine go_istore kk72_0.1.2.1.1.2 rfl (loc2 := [some (sR v0), some (sI v1), some (sR (g v0 3)), some (sI (sz (g v0 3))), some (sI 0), none]) rfl ?_
  exact tlT_hasRule_11 hd hg h1 r1 r2 fu 0 (inR_b (Or.inl rfl)) (some (sR v0)) rfl none rfl
theorem tjS_takeOrder_119 {Φ : ev_P} {d : Nat} (hd : 3 ≤ d) {g : gH} (hg : HR g) {s0 s1 : Int} (z0 : RfR s0) (z1 : InR s1) (u0 : Option ev_V) (w0 : nwo u0) (u1 : Option ev_V) (w1 : nwo u1) (u2 : Option ev_V) (w2 : nwo u2) : Go Φ pr_P fN 3 (jS_takeOrder_119 g s0 s1 ) d pr_m53 119 [u0, u1, u2] [(sI s1), (sR s0)] g 0 0 := by
  unfold jS_takeOrder_119
  refine go_ck (fun q65 => ?_)
  refine go_callN3 kk53_1.2.2.1.2.1 rfl rfl rfl ⟨by decide, _, rfl, q65⟩ ⟨Nat.zero_le _, Nat.zero_le _⟩ (by omega) (tfS_fail (by omega) hg q65  z1) (fun y66 g68 r67 e69 => ?_)
  refine go_ifeq kk53_1.2.2.1.2.2 (inR_b r67) (fun c70 => ?_) (fun c71 => ?_)
  · refine go_int kk53_1.2.2.2.2.1 0 rfl ?_
    exact go_bret kk53_1.2.2.2.2.2 e69 (Or.inl rfl) ⟨Nat.zero_le _, Nat.zero_le _⟩ rfl
  · refine go_int kk53_1.2.2.2.1.1 1 rfl ?_
    refine go_goto kk53_1.2.2.2.1.2 ?_
    exact go_bret kk53_1.2.2.2.2.2 e69 (Or.inr rfl) ⟨Nat.zero_le _, Nat.zero_le _⟩ rfl
theorem tjS_takeOrder_97 {Φ : ev_P} {d : Nat} (hd : 3 ≤ d) {g : gH} (hg : HR g) {v0 : Int} (hK0 : kd v0 = 4) (u1 : Option ev_V) (w1 : nwo u1) (u2 : Option ev_V) (w2 : nwo u2) : Go Φ pr_P fN 3 (jS_takeOrder_97 g v0 ) d pr_m53 97 [some (sR v0), u1, u2] [] g 0 0 := by
  unfold jS_takeOrder_97
  refine go_aload kk53_1.2.1.1.1.1.1 rfl ?_
  refine go_getI (bI := 4) kk53_1.2.1.1.1.1.2 hg hK0 (by decide) rfl rfl (fun r56 => ?_)
  refine go_int kk53_1.2.1.1.1.2 3 rfl ?_
  refine go_cmeq kk53_1.2.1.1.2.1 r56 (inR_of (by decide)) (fun c57 => ?_) (fun c58 => ?_)
  · refine go_int kk53_1.2.2.2.1.1 1 rfl ?_
    refine go_goto kk53_1.2.2.2.1.2 ?_
    exact go_bret kk53_1.2.2.2.2.2 hg (Or.inr rfl) ⟨Nat.zero_le _, Nat.zero_le _⟩ rfl
  · refine go_aload kk53_1.2.1.1.2.2 rfl ?_
    refine go_aload kk53_1.2.1.2.1.1 rfl ?_
    refine go_callP1 kk53_1.2.1.2.1.2 rfl rfl rfl ⟨by decide, _, rfl, hK0⟩ ⟨Nat.zero_le _, Nat.zero_le _⟩ (by omega) (tfS_ruleOfWord (by omega) hg hK0 ) (fun y59 r60 => ?_)
    refine go_int kk53_1.2.1.2.2.1 (-1) rfl ?_
    refine go_cmeq kk53_1.2.1.2.2.2 r60 (inR_of (by decide)) (fun c63 => ?_) (fun c64 => ?_)
    · refine go_int kk53_1.2.2.1.1.1.1 1 rfl ?_
      refine go_goto kk53_1.2.2.1.1.1.2 ?_
      exact tjS_takeOrder_119 hd hg (rfR_kd hK0 (by decide)) (inR_b (Or.inr rfl)) (some (sR v0)) rfl u1 w1 u2 w2
    · refine go_int kk53_1.2.2.1.1.2 3 rfl ?_
      exact tjS_takeOrder_119 hd hg (rfR_kd hK0 (by decide)) (inR_of (by decide)) (some (sR v0)) rfl u1 w1 u2 w2
theorem tbS_takeOrder_31 {Φ : ev_P} {d : Nat} (hd : 3 ≤ d) {v0 : Int} (hK0 : kd v0 = 4) {X31 : Int → gH → Option (Int × gH)} (HX31 : ∀ (v1 : Int) (h1 : InR v1) (g : gH) (hg : HR g) (u2 : Option ev_V) (w2 : nwo u2), Go Φ pr_P fN 3 (X31 v1 g) d pr_m53 31 [some (sR v0), some (sI v1), u2] [] g 0 0) : ∀ (v1 : Int) (h1 : InR v1) (g : gH) (hg : HR g) (u2 : Option ev_V) (w2 : nwo u2), Go Φ pr_P fN 3 (bS_takeOrder_31 v0 X31 v1 g) d pr_m53 31 [some (sR v0), some (sI v1), u2] [] g 0 0 := by
  intro v1 h1 g hg u2 w2
  unfold bS_takeOrder_31
  refine go_iload kk53_0.1.2.2.2.2 rfl ?_
  refine go_int kk53_0.2.1.1.1.1.1 5 rfl ?_
  refine go_cmlt kk53_0.2.1.1.1.1.2 h1 (inR_of (by decide)) (fun c20 => ?_) (fun c21 => ?_)
  · refine go_aload kk53_0.2.1.1.1.2 rfl ?_
    refine go_getI (bI := 4) kk53_0.2.1.1.2.1 hg hK0 (by decide) rfl rfl (fun r22 => ?_)
    refine go_int kk53_0.2.1.1.2.2 1 rfl ?_
    refine go_cmeq kk53_0.2.1.2.1.1 r22 (inR_b (Or.inr rfl)) (fun c23 => ?_) (fun c24 => ?_)
    · refine go_aload kk53_0.2.1.2.1.2 rfl ?_
      refine go_callP1 kk53_0.2.1.2.2.1 rfl rfl rfl ⟨by decide, _, rfl, hK0⟩ ⟨Nat.zero_le _, Nat.zero_le _⟩ (by omega) (tfS_ruleOfWord (by omega) hg hK0 ) (fun y25 r26 => ?_)
      refine go_istore kk53_0.2.1.2.2.2 rfl (loc2 := [some (sR v0), some (sI v1), some (sI y25)]) rfl ?_
      refine go_iload kk53_0.2.2.1.1.1 rfl ?_
      refine go_int kk53_0.2.2.1.1.2 (-1) rfl ?_
      refine go_cmeq kk53_0.2.2.1.2.1 r26 (inR_of (by decide)) (fun c29 => ?_) (fun c30 => ?_)
      · refine go_aload kk53_0.2.2.1.2.2 rfl ?_
        refine go_int kk53_0.2.2.2.1.1 1 rfl ?_
        refine go_callN3 kk53_0.2.2.2.1.2 rfl rfl rfl ⟨by decide, _, rfl, hK0⟩ ⟨Nat.zero_le _, Nat.zero_le _⟩ (by omega) (tfS_fail (by omega) hg hK0  (inR_b (Or.inr rfl))) (fun y31 g33 r32 e34 => ?_)
        exact go_bret kk53_0.2.2.2.2.1 e34 r32 ⟨Nat.zero_le _, Nat.zero_le _⟩ rfl
      · refine go_aload kk53_0.2.2.2.2.2 rfl ?_
        refine go_getR (bI := 1) kk53_1.1.1.1.1.1.1 hg hK0 (by decide) rfl rfl (fun r35 => ?_)
        refine go_iload kk53_1.1.1.1.1.1.2 rfl ?_
        refine go_ck (fun q36 => ?_)
        refine go_callP3 kk53_1.1.1.1.1.2 rfl rfl rfl ⟨by decide, _, rfl, q36⟩ ⟨Nat.zero_le _, Nat.zero_le _⟩ (by omega) (tfT_hasRule (by omega) hg q36  r26) (fun y37 r38 => ?_)
        refine go_ifeq kk53_1.1.1.1.2.1 (inR_b r38) (fun c41 => ?_) (fun c42 => ?_)
        · refine go_aload kk53_1.1.1.2.2.2 rfl ?_
          refine go_getR (bI := 1) kk53_1.1.2.1.1.1.1 hg hK0 (by decide) rfl rfl (fun r43 => ?_)
          refine go_getR (bI := 3) kk53_1.1.2.1.1.1.2 hg q36 (by decide) rfl rfl (fun r44 => ?_)
          refine go_iload kk53_1.1.2.1.1.2 rfl ?_
          refine go_iload kk53_1.1.2.1.2.1 rfl ?_
          refine go_ck (fun q45 => ?_)
          refine go_iast kk53_1.1.2.1.2.2 hg q45 r44 r26 (fun g46 e47 => ?_)
          refine go_aload kk53_1.1.2.2.1.1 rfl ?_
          refine go_callN0 kk53_1.1.2.2.1.2 rfl rfl rfl ⟨by decide, _, rfl, hK0⟩ ⟨Nat.zero_le _, Nat.zero_le _⟩ (by omega) (tfS_advance (by omega) e47 hK0 ) (fun y48 g50 e51 => ?_)
          refine go_iinc kk53_1.1.2.2.2.1 rfl rfl 1 rfl (loc2 := [some (sR v0), some (sI (w32 (v1 + 1))), some (sI y25)]) rfl ?_
          refine go_goto kk53_1.1.2.2.2.2 ?_
          exact HX31 (w32 (v1 + 1)) (inR_w32 _) g50 e51 (some (sI y25)) rfl
        · refine go_aload kk53_1.1.1.1.2.2 rfl ?_
          refine go_int kk53_1.1.1.2.1.1 3 rfl ?_
          refine go_callN3 kk53_1.1.1.2.1.2 rfl rfl rfl ⟨by decide, _, rfl, hK0⟩ ⟨Nat.zero_le _, Nat.zero_le _⟩ (by omega) (tfS_fail (by omega) hg hK0  (inR_of (by decide))) (fun y52 g54 r53 e55 => ?_)
          exact go_bret kk53_1.1.1.2.2.1 e55 r53 ⟨Nat.zero_le _, Nat.zero_le _⟩ rfl
    · exact tjS_takeOrder_97 hd hg hK0 (some (sI v1)) rfl u2 w2
  · exact tjS_takeOrder_97 hd hg hK0 (some (sI v1)) rfl u2 w2
theorem tlS_takeOrder_31 {Φ : ev_P} {d : Nat} (hd : 3 ≤ d) {v0 : Int} (hK0 : kd v0 = 4) : ∀ n : Nat, ∀ (v1 : Int) (h1 : InR v1) (g : gH) (hg : HR g) (u2 : Option ev_V) (w2 : nwo u2), Go Φ pr_P fN 3 (lS_takeOrder_31 v0 n v1 g) d pr_m53 31 [some (sR v0), some (sI v1), u2] [] g 0 0 := by
  intro n
  induction n with
  | zero => intros; exact go_none
  | succ n ih => exact tbS_takeOrder_31 hd hK0 ih
theorem tfS_takeOrder {Φ : ev_P} {d : Nat} (hd : 3 ≤ d) {g : gH} (hg : HR g) {v0 : Int} (hK0 : kd v0 = 4) : Go Φ pr_P fN 3 (fS_takeOrder g v0) d (pr_P 53) 0 (ev_loc (pr_P 53).1 [(sR v0)]) [] g 0 0 := by
  show Go Φ pr_P fN 3 (fS_takeOrder g v0) d pr_m53 0 [some (sR v0), none, none] [] g 0 0
  unfold fS_takeOrder
  refine go_aload kk53_0.1.1.1.1.1.1 rfl ?_
  refine go_getB (bI := 8) kk53_0.1.1.1.1.1.2 hg hK0 (by decide) rfl rfl (fun r1 => ?_)
  refine go_ifeq kk53_0.1.1.1.1.2 (inR_b r1) (fun c2 => ?_) (fun c3 => ?_)
  · refine go_aload kk53_0.1.1.2.2.1 rfl ?_
    refine go_int kk53_0.1.1.2.2.2 1 rfl ?_
    refine go_putB (bI := 8) kk53_0.1.2.1.1.1.1 hg hK0 (by decide) rfl rfl (Or.inr rfl) (fun g4 e5 => ?_)
    refine go_aload kk53_0.1.2.1.1.1.2 rfl ?_
    refine go_getR (bI := 1) kk53_0.1.2.1.1.2 e5 hK0 (by decide) rfl rfl (fun r6 => ?_)
    refine go_ck (fun q7 => ?_)
    refine go_callN0 kk53_0.1.2.1.2.1 rfl rfl rfl ⟨by decide, _, rfl, q7⟩ ⟨Nat.zero_le _, Nat.zero_le _⟩ (by omega) (tfT_clearRules (by omega) e5 q7 ) (fun y8 g10 e11 => ?_)
    refine go_aload kk53_0.1.2.1.2.2 rfl ?_
    refine go_callN0 kk53_0.1.2.2.1.1 rfl rfl rfl ⟨by decide, _, rfl, hK0⟩ ⟨Nat.zero_le _, Nat.zero_le _⟩ (by omega) (tfS_advance (by omega) e11 hK0 ) (fun y12 g14 e15 => ?_)
    refine go_int kk53_0.1.2.2.1.2 0 rfl ?_
    refine go_istore kk53_0.1.2.2.2.1 rfl (loc2 := [some (sR v0), some (sI 0), none]) rfl ?_
    exact tlS_takeOrder_31 hd hK0 fu 0 (inR_b (Or.inl rfl)) g14 e15 none rfl
  · refine go_aload kk53_0.1.1.1.2.1 rfl ?_
    refine go_int kk53_0.1.1.1.2.2 3 rfl ?_
    refine go_callN3 kk53_0.1.1.2.1.1 rfl rfl rfl ⟨by decide, _, rfl, hK0⟩ ⟨Nat.zero_le _, Nat.zero_le _⟩ (by omega) (tfS_fail (by omega) hg hK0  (inR_of (by decide))) (fun y16 g18 r17 e19 => ?_)
    exact go_bret kk53_0.1.1.2.1.2 e19 r17 ⟨Nat.zero_le _, Nat.zero_le _⟩ rfl
theorem tjS_takeNumber_34 {Φ : ev_P} {d : Nat} (hd : 2 ≤ d) {g : gH} (hg : HR g) {v0 : Int} (hK0 : kd v0 = 4) (u1 : Option ev_V) (w1 : nwo u1) (u2 : Option ev_V) (w2 : nwo u2) : Go Φ pr_P fN 3 (jS_takeNumber_34 g v0 ) d pr_m63 34 [some (sR v0), u1, u2] [] g 0 0 := by
  unfold jS_takeNumber_34
  refine go_aload kk63_0.2.1.2.1.2 rfl ?_
  refine go_int kk63_0.2.1.2.2 2 rfl ?_
  refine go_callN3 kk63_0.2.2.1.1.1 rfl rfl rfl ⟨by decide, _, rfl, hK0⟩ ⟨Nat.zero_le _, Nat.zero_le _⟩ (by omega) (tfS_fail (by omega) hg hK0  (inR_of (by decide))) (fun y18 g20 r19 e21 => ?_)
  refine go_ifeq kk63_0.2.2.1.1.2 (inR_b r19) (fun c22 => ?_) (fun c23 => ?_)
  · refine go_int kk63_0.2.2.2.1.2 0 rfl ?_
    exact go_bret kk63_0.2.2.2.2 e21 (Or.inl rfl) ⟨Nat.zero_le _, Nat.zero_le _⟩ rfl
  · refine go_int kk63_0.2.2.1.2 1 rfl ?_
    refine go_goto kk63_0.2.2.2.1.1 ?_
    exact go_bret kk63_0.2.2.2.2 e21 (Or.inr rfl) ⟨Nat.zero_le _, Nat.zero_le _⟩ rfl
theorem tfS_takeNumber {Φ : ev_P} {d : Nat} (hd : 2 ≤ d) {g : gH} (hg : HR g) {v0 v1 v2 : Int} (hK0 : kd v0 = 4) (h1 : InR v1) (h2 : InR v2) : Go Φ pr_P fN 3 (fS_takeNumber g v0 v1 v2) d (pr_P 63) 0 (ev_loc (pr_P 63).1 [(sR v0), (sI v1), (sI v2)]) [] g 0 0 := by
  show Go Φ pr_P fN 3 (fS_takeNumber g v0 v1 v2) d pr_m63 0 [some (sR v0), some (sI v1), some (sI v2)] [] g 0 0
  unfold fS_takeNumber
  refine go_aload kk63_0.1.1.1.1.1 rfl ?_
  refine go_callN0 kk63_0.1.1.1.1.2 rfl rfl rfl ⟨by decide, _, rfl, hK0⟩ ⟨Nat.zero_le _, Nat.zero_le _⟩ (by omega) (tfS_advance (by omega) hg hK0 ) (fun y1 g3 e4 => ?_)
  refine go_aload kk63_0.1.1.1.2.1 rfl ?_
  refine go_getI (bI := 4) kk63_0.1.1.1.2.2 e4 hK0 (by decide) rfl rfl (fun r5 => ?_)
  refine go_int kk63_0.1.1.2.1.1 2 rfl ?_
  refine go_cmeq kk63_0.1.1.2.1.2 r5 (inR_of (by decide)) (fun c6 => ?_) (fun c7 => ?_)
  · refine go_aload kk63_0.1.2.2.1.1 rfl ?_
    refine go_getI (bI := 7) kk63_0.1.2.2.1.2 e4 hK0 (by decide) rfl rfl (fun r8 => ?_)
    refine go_iload kk63_0.1.2.2.2 rfl ?_
    refine go_cmlt kk63_0.2.1.1.1.1 r8 h1 (fun c9 => ?_) (fun c10 => ?_)
    · exact tjS_takeNumber_34 hd e4 hK0 (some (sI v1)) rfl (some (sI v2)) rfl
    · refine go_aload kk63_0.2.1.1.1.2 rfl ?_
      refine go_getI (bI := 7) kk63_0.2.1.1.2.1 e4 hK0 (by decide) rfl rfl (fun r11 => ?_)
      refine go_iload kk63_0.2.1.1.2.2 rfl ?_
      refine go_cmgt kk63_0.2.1.2.1.1 r11 h2 (fun c12 => ?_) (fun c13 => ?_)
      · exact tjS_takeNumber_34 hd e4 hK0 (some (sI v1)) rfl (some (sI v2)) rfl
      · refine go_int kk63_0.2.2.1.2 1 rfl ?_
        refine go_goto kk63_0.2.2.2.1.1 ?_
        exact go_bret kk63_0.2.2.2.2 e4 (Or.inr rfl) ⟨Nat.zero_le _, Nat.zero_le _⟩ rfl
  · refine go_aload kk63_0.1.1.2.2 rfl ?_
    refine go_int kk63_0.1.2.1.1.1 1 rfl ?_
    refine go_callN3 kk63_0.1.2.1.1.2 rfl rfl rfl ⟨by decide, _, rfl, hK0⟩ ⟨Nat.zero_le _, Nat.zero_le _⟩ (by omega) (tfS_fail (by omega) e4 hK0  (inR_b (Or.inr rfl))) (fun y14 g16 r15 e17 => ?_)
    exact go_bret kk63_0.1.2.1.2 e17 r15 ⟨Nat.zero_le _, Nat.zero_le _⟩ rfl
theorem tfS_takeSemicolon {Φ : ev_P} {d : Nat} (hd : 2 ≤ d) {g : gH} (hg : HR g) {v0 : Int} (hK0 : kd v0 = 4) : Go Φ pr_P fN 3 (fS_takeSemicolon g v0) d (pr_P 64) 0 (ev_loc (pr_P 64).1 [(sR v0)]) [] g 0 0 := by
  show Go Φ pr_P fN 3 (fS_takeSemicolon g v0) d pr_m64 0 [some (sR v0)] [] g 0 0
  unfold fS_takeSemicolon
  refine go_aload kk64_0.1.1.1.1 rfl ?_
  refine go_callN0 kk64_0.1.1.1.2 rfl rfl rfl ⟨by decide, _, rfl, hK0⟩ ⟨Nat.zero_le _, Nat.zero_le _⟩ (by omega) (tfS_advance (by omega) hg hK0 ) (fun y1 g3 e4 => ?_)
  refine go_aload kk64_0.1.1.2.1 rfl ?_
  refine go_getI (bI := 4) kk64_0.1.1.2.2 e4 hK0 (by decide) rfl rfl (fun r5 => ?_)
  refine go_int kk64_0.1.2.1.1 3 rfl ?_
  refine go_cmeq kk64_0.1.2.1.2 r5 (inR_of (by decide)) (fun c6 => ?_) (fun c7 => ?_)
  · refine go_int kk64_0.2.1.2.2 1 rfl ?_
    refine go_goto kk64_0.2.2.1.1 ?_
    exact go_bret kk64_0.2.2.2 e4 (Or.inr rfl) ⟨Nat.zero_le _, Nat.zero_le _⟩ rfl
  · refine go_aload kk64_0.1.2.2 rfl ?_
    refine go_int kk64_0.2.1.1.1 1 rfl ?_
    refine go_callN3 kk64_0.2.1.1.2 rfl rfl rfl ⟨by decide, _, rfl, hK0⟩ ⟨Nat.zero_le _, Nat.zero_le _⟩ (by omega) (tfS_fail (by omega) e4 hK0  (inR_b (Or.inr rfl))) (fun y8 g10 r9 e11 => ?_)
    refine go_ifeq kk64_0.2.1.2.1 (inR_b r9) (fun c12 => ?_) (fun c13 => ?_)
    · refine go_int kk64_0.2.2.1.2 0 rfl ?_
      exact go_bret kk64_0.2.2.2 e11 (Or.inl rfl) ⟨Nat.zero_le _, Nat.zero_le _⟩ rfl
    · refine go_int kk64_0.2.1.2.2 1 rfl ?_
      refine go_goto kk64_0.2.2.1.1 ?_
      exact go_bret kk64_0.2.2.2 e11 (Or.inr rfl) ⟨Nat.zero_le _, Nat.zero_le _⟩ rfl
theorem tfS_takeDeep {Φ : ev_P} {d : Nat} (hd : 3 ≤ d) {g : gH} (hg : HR g) {v0 : Int} (hK0 : kd v0 = 4) : Go Φ pr_P fN 3 (fS_takeDeep g v0) d (pr_P 55) 0 (ev_loc (pr_P 55).1 [(sR v0)]) [] g 0 0 := by
  show Go Φ pr_P fN 3 (fS_takeDeep g v0) d pr_m55 0 [some (sR v0)] [] g 0 0
  unfold fS_takeDeep
  refine go_aload kk55_0.1.1.1.1.1 rfl ?_
  refine go_getB (bI := 9) kk55_0.1.1.1.1.2 hg hK0 (by decide) rfl rfl (fun r1 => ?_)
  refine go_ifeq kk55_0.1.1.1.2.1 (inR_b r1) (fun c2 => ?_) (fun c3 => ?_)
  · refine go_aload kk55_0.1.2.1.1.1 rfl ?_
    refine go_int kk55_0.1.2.1.1.2 1 rfl ?_
    refine go_putB (bI := 9) kk55_0.1.2.1.2 hg hK0 (by decide) rfl rfl (Or.inr rfl) (fun g4 e5 => ?_)
    refine go_aload kk55_0.1.2.2.1.1 rfl ?_
    refine go_int kk55_0.1.2.2.1.2 1 rfl ?_
    refine go_int kk55_0.1.2.2.2 20 rfl ?_
    refine go_callN3 kk55_0.2.1.1.1.1 rfl rfl rfl ⟨by decide, _, rfl, hK0⟩ ⟨Nat.zero_le _, Nat.zero_le _⟩ (by omega) (tfS_takeNumber (by omega) e5 hK0  (inR_b (Or.inr rfl)) (inR_of (by decide))) (fun y6 g8 r7 e9 => ?_)
    refine go_ifeq kk55_0.2.1.1.1.2 (inR_b r7) (fun c10 => ?_) (fun c11 => ?_)
    · refine go_int kk55_0.2.1.1.2 0 rfl ?_
      exact go_bret kk55_0.2.1.2.1.1 e9 (Or.inl rfl) ⟨Nat.zero_le _, Nat.zero_le _⟩ rfl
    · refine go_aload kk55_0.2.1.2.1.2 rfl ?_
      refine go_getR (bI := 1) kk55_0.2.1.2.2 e9 hK0 (by decide) rfl rfl (fun r12 => ?_)
      refine go_aload kk55_0.2.2.1.1.1 rfl ?_
      refine go_getI (bI := 7) kk55_0.2.2.1.1.2 e9 hK0 (by decide) rfl rfl (fun r13 => ?_)
      refine go_ck (fun q14 => ?_)
      refine go_putI (bI := 4) kk55_0.2.2.1.2 e9 q14 (by decide) rfl rfl r13 (fun g15 e16 => ?_)
      refine go_aload kk55_0.2.2.2.1.1 rfl ?_
      refine go_callN3 kk55_0.2.2.2.1.2 rfl rfl rfl ⟨by decide, _, rfl, hK0⟩ ⟨Nat.zero_le _, Nat.zero_le _⟩ (by omega) (tfS_takeSemicolon (by omega) e16 hK0 ) (fun y17 g19 r18 e20 => ?_)
      exact go_bret kk55_0.2.2.2.2 e20 r18 ⟨Nat.zero_le _, Nat.zero_le _⟩ rfl
  · refine go_aload kk55_0.1.1.1.2.2 rfl ?_
    refine go_int kk55_0.1.1.2.1.1 3 rfl ?_
    refine go_callN3 kk55_0.1.1.2.1.2 rfl rfl rfl ⟨by decide, _, rfl, hK0⟩ ⟨Nat.zero_le _, Nat.zero_le _⟩ (by omega) (tfS_fail (by omega) hg hK0  (inR_of (by decide))) (fun y21 g23 r22 e24 => ?_)
    exact go_bret kk55_0.1.1.2.2 e24 r22 ⟨Nat.zero_le _, Nat.zero_le _⟩ rfl
theorem tfS_takeRoot {Φ : ev_P} {d : Nat} (hd : 3 ≤ d) {g : gH} (hg : HR g) {v0 : Int} (hK0 : kd v0 = 4) : Go Φ pr_P fN 3 (fS_takeRoot g v0) d (pr_P 56) 0 (ev_loc (pr_P 56).1 [(sR v0)]) [] g 0 0 := by
  show Go Φ pr_P fN 3 (fS_takeRoot g v0) d pr_m56 0 [some (sR v0)] [] g 0 0
  unfold fS_takeRoot
  refine go_aload kk56_0.1.1.1.1.1.1 rfl ?_
  refine go_getB (bI := 10) kk56_0.1.1.1.1.1.2 hg hK0 (by decide) rfl rfl (fun r1 => ?_)
  refine go_ifeq kk56_0.1.1.1.1.2 (inR_b r1) (fun c2 => ?_) (fun c3 => ?_)
  · refine go_aload kk56_0.1.1.2.1.2 rfl ?_
    refine go_int kk56_0.1.1.2.2.1 1 rfl ?_
    refine go_putB (bI := 10) kk56_0.1.1.2.2.2 hg hK0 (by decide) rfl rfl (Or.inr rfl) (fun g4 e5 => ?_)
    refine go_aload kk56_0.1.2.1.1.1.1 rfl ?_
    refine go_int kk56_0.1.2.1.1.1.2 0 rfl ?_
    refine go_int kk56_0.1.2.1.1.2 9 rfl ?_
    refine go_callN3 kk56_0.1.2.1.2.1 rfl rfl rfl ⟨by decide, _, rfl, hK0⟩ ⟨Nat.zero_le _, Nat.zero_le _⟩ (by omega) (tfS_takeNumber (by omega) e5 hK0  (inR_b (Or.inl rfl)) (inR_of (by decide))) (fun y6 g8 r7 e9 => ?_)
    refine go_ifeq kk56_0.1.2.1.2.2 (inR_b r7) (fun c10 => ?_) (fun c11 => ?_)
    · refine go_int kk56_0.1.2.2.1.1.1 0 rfl ?_
      exact go_bret kk56_0.1.2.2.1.1.2 e9 (Or.inl rfl) ⟨Nat.zero_le _, Nat.zero_le _⟩ rfl
    · refine go_aload kk56_0.1.2.2.1.2 rfl ?_
      refine go_getR (bI := 1) kk56_0.1.2.2.2.1 e9 hK0 (by decide) rfl rfl (fun r12 => ?_)
      refine go_ck (fun q13 => ?_)
      refine go_getR (bI := 0) kk56_0.1.2.2.2.2 e9 q13 (by decide) rfl rfl (fun r14 => ?_)
      refine go_aload kk56_0.2.1.1.1.1.1 rfl ?_
      refine go_getI (bI := 7) kk56_0.2.1.1.1.1.2 e9 hK0 (by decide) rfl rfl (fun r15 => ?_)
      refine go_ck (fun q16 => ?_)
      refine go_putI (bI := 4) kk56_0.2.1.1.1.2 e9 q16 (by decide) rfl rfl r15 (fun g17 e18 => ?_)
      refine go_aload kk56_0.2.1.1.2.1 rfl ?_
      refine go_int kk56_0.2.1.1.2.2 0 rfl ?_
      refine go_int kk56_0.2.1.2.1.1.1 9 rfl ?_
      refine go_callN3 kk56_0.2.1.2.1.1.2 rfl rfl rfl ⟨by decide, _, rfl, hK0⟩ ⟨Nat.zero_le _, Nat.zero_le _⟩ (by omega) (tfS_takeNumber (by omega) e18 hK0  (inR_b (Or.inl rfl)) (inR_of (by decide))) (fun y19 g21 r20 e22 => ?_)
      refine go_ifeq kk56_0.2.1.2.1.2 (inR_b r20) (fun c23 => ?_) (fun c24 => ?_)
      · refine go_int kk56_0.2.1.2.2.1 0 rfl ?_
        exact go_bret kk56_0.2.1.2.2.2 e22 (Or.inl rfl) ⟨Nat.zero_le _, Nat.zero_le _⟩ rfl
      · refine go_aload kk56_0.2.2.1.1.1.1 rfl ?_
        refine go_getR (bI := 1) kk56_0.2.2.1.1.1.2 e22 hK0 (by decide) rfl rfl (fun r25 => ?_)
        refine go_ck (fun q26 => ?_)
        refine go_getR (bI := 0) kk56_0.2.2.1.1.2 e22 q26 (by decide) rfl rfl (fun r27 => ?_)
        refine go_aload kk56_0.2.2.1.2.1 rfl ?_
        refine go_getI (bI := 7) kk56_0.2.2.1.2.2 e22 hK0 (by decide) rfl rfl (fun r28 => ?_)
        refine go_ck (fun q29 => ?_)
        refine go_putI (bI := 6) kk56_0.2.2.2.1.1 e22 q29 (by decide) rfl rfl r28 (fun g30 e31 => ?_)
        refine go_aload kk56_0.2.2.2.1.2 rfl ?_
        refine go_callN3 kk56_0.2.2.2.2.1 rfl rfl rfl ⟨by decide, _, rfl, hK0⟩ ⟨Nat.zero_le _, Nat.zero_le _⟩ (by omega) (tfS_takeSemicolon (by omega) e31 hK0 ) (fun y32 g34 r33 e35 => ?_)
        exact go_bret kk56_0.2.2.2.2.2 e35 r33 ⟨Nat.zero_le _, Nat.zero_le _⟩ rfl
  · refine go_aload kk56_0.1.1.1.2.1 rfl ?_
    refine go_int kk56_0.1.1.1.2.2 3 rfl ?_
    refine go_callN3 kk56_0.1.1.2.1.1.1 rfl rfl rfl ⟨by decide, _, rfl, hK0⟩ ⟨Nat.zero_le _, Nat.zero_le _⟩ (by omega) (tfS_fail (by omega) hg hK0  (inR_of (by decide))) (fun y36 g38 r37 e39 => ?_)
    exact go_bret kk56_0.1.1.2.1.1.2 e39 r37 ⟨Nat.zero_le _, Nat.zero_le _⟩ rfl
theorem tfP_room {Φ : ev_P} {d : Nat} (hd : 0 ≤ d) {g : gH} (hg : HR g) {v0 : Int} (hK0 : kd v0 = 3) : Go Φ pr_P (fP g) 1 (fP_room g v0) d (pr_P 43) 0 (ev_loc (pr_P 43).1 [(sR v0)]) [] g 0 0 := by
  show Go Φ pr_P (fP g) 1 (fP_room g v0) d pr_m43 0 [some (sR v0)] [] g 0 0
  unfold fP_room
  refine go_aload kk43_0.1.1.1.1 rfl ?_
  refine go_getI (bI := 1) kk43_0.1.1.1.2 hg hK0 (by decide) rfl rfl (fun r1 => ?_)
  refine go_ifeq kk43_0.1.1.2.1 r1 (fun c2 => ?_) (fun c3 => ?_)
  · refine go_aload kk43_0.1.1.2.2 rfl ?_
    refine go_getI (bI := 4) kk43_0.1.2.1.1 hg hK0 (by decide) rfl rfl (fun r4 => ?_)
    refine go_aload kk43_0.1.2.1.2 rfl ?_
    refine go_getI (bI := 3) kk43_0.1.2.2.1 hg hK0 (by decide) rfl rfl (fun r5 => ?_)
    refine go_cmgt kk43_0.1.2.2.2 r4 r5 (fun c6 => ?_) (fun c7 => ?_)
    · refine go_aload kk43_0.2.1.1.1 rfl ?_
      refine go_getI (bI := 4) kk43_0.2.1.1.2 hg hK0 (by decide) rfl rfl (fun r8 => ?_)
      refine go_aload kk43_0.2.1.2.1 rfl ?_
      refine go_getI (bI := 3) kk43_0.2.1.2.2 hg hK0 (by decide) rfl rfl (fun r9 => ?_)
      refine go_isub kk43_0.2.2.1.1 ?_
      refine go_goto kk43_0.2.2.1.2 ?_
      exact go_iret kk43_0.2.2.2.2 hg (inR_w32 _) ⟨Nat.zero_le _, Nat.zero_le _⟩ rfl
    · refine go_int kk43_0.2.2.2.1 0 rfl ?_
      exact go_iret kk43_0.2.2.2.2 hg (inR_b (Or.inl rfl)) ⟨Nat.zero_le _, Nat.zero_le _⟩ rfl
  · refine go_int kk43_0.2.2.2.1 0 rfl ?_
    exact go_iret kk43_0.2.2.2.2 hg (inR_b (Or.inl rfl)) ⟨Nat.zero_le _, Nat.zero_le _⟩ rfl
theorem tfT_at {Φ : ev_P} {d : Nat} (hd : 0 ≤ d) {g : gH} (hg : HR g) {v0 v1 : Int} (hK0 : kd v0 = 5) (h1 : InR v1) : Go Φ pr_P (fP g) 2 (fT_at g v0 v1) d (pr_P 75) 0 (ev_loc (pr_P 75).1 [(sR v0), (sI v1)]) [] g 0 0 := by
  show Go Φ pr_P (fP g) 2 (fT_at g v0 v1) d pr_m75 0 [some (sR v0), some (sI v1)] [] g 0 0
  unfold fT_at
  refine go_iload kk75_0.1.1.1.1 rfl ?_
  refine go_iflt kk75_0.1.1.1.2 h1 (fun c1 => ?_) (fun c2 => ?_)
  · refine go_null kk75_0.2.1.1.2 ?_
    refine go_goto kk75_0.2.1.2.1 ?_
    exact go_aret kk75_0.2.2.2.2 hg rfR_null ⟨Nat.zero_le _, Nat.zero_le _⟩ rfl
  · refine go_iload kk75_0.1.1.2.1 rfl ?_
    refine go_aload kk75_0.1.1.2.2 rfl ?_
    refine go_getI (bI := 5) kk75_0.1.2.1.1 hg hK0 (by decide) rfl rfl (fun r3 => ?_)
    refine go_cmlt kk75_0.1.2.1.2 h1 r3 (fun c4 => ?_) (fun c5 => ?_)
    · refine go_iload kk75_0.1.2.2.1 rfl ?_
      refine go_int kk75_0.1.2.2.2 40 rfl ?_
      refine go_cmlt kk75_0.2.1.1.1 h1 (inR_of (by decide)) (fun c6 => ?_) (fun c7 => ?_)
      · refine go_aload kk75_0.2.1.2.2 rfl ?_
        refine go_getR (bI := 1) kk75_0.2.2.1.1 hg hK0 (by decide) rfl rfl (fun r8 => ?_)
        refine go_iload kk75_0.2.2.1.2 rfl ?_
        refine go_ck (fun q10 => ?_)
        refine go_pald kk75_0.2.2.2.1 hg q10 (fun r9 => ?_)
        exact go_aret kk75_0.2.2.2.2 hg r9 ⟨Nat.zero_le _, Nat.zero_le _⟩ rfl
      · refine go_null kk75_0.2.1.1.2 ?_
        refine go_goto kk75_0.2.1.2.1 ?_
        exact go_aret kk75_0.2.2.2.2 hg rfR_null ⟨Nat.zero_le _, Nat.zero_le _⟩ rfl
    · refine go_null kk75_0.2.1.1.2 ?_
      refine go_goto kk75_0.2.1.2.1 ?_
      exact go_aret kk75_0.2.2.2.2 hg rfR_null ⟨Nat.zero_le _, Nat.zero_le _⟩ rfl
theorem tfS_takeNamed {Φ : ev_P} {d : Nat} (hd : 3 ≤ d) {g : gH} (hg : HR g) {v0 v1 : Int} (hK0 : kd v0 = 4) (h1 : InR v1) : Go Φ pr_P fN 2 (fS_takeNamed g v0 v1) d (pr_P 62) 0 (ev_loc (pr_P 62).1 [(sR v0), (sI v1)]) [] g 0 0 := by
  show Go Φ pr_P fN 2 (fS_takeNamed g v0 v1) d pr_m62 0 [some (sR v0), some (sI v1)] [] g 0 0
  unfold fS_takeNamed
  refine go_aload kk62_0.1.1.1.1.1 rfl ?_
  refine go_iload kk62_0.1.1.1.1.2 rfl ?_
  refine go_aload kk62_0.1.1.1.2 rfl ?_
  refine go_getR (bI := 1) kk62_0.1.1.2.1 hg hK0 (by decide) rfl rfl (fun r1 => ?_)
  refine go_ck (fun q2 => ?_)
  refine go_getI (bI := 5) kk62_0.1.1.2.2 hg q2 (by decide) rfl rfl (fun r3 => ?_)
  refine go_int kk62_0.1.2.1.1 1 rfl ?_
  refine go_isub kk62_0.1.2.1.2 ?_
  refine go_callN3 kk62_0.1.2.2.1 rfl rfl rfl ⟨by decide, _, rfl, hK0⟩ ⟨Nat.zero_le _, Nat.zero_le _⟩ (by omega) (tfS_takeNumber (by omega) hg hK0  h1 (inR_w32 _)) (fun y4 g6 r5 e7 => ?_)
  refine go_ifeq kk62_0.1.2.2.2 (inR_b r5) (fun c8 => ?_) (fun c9 => ?_)
  · refine go_null kk62_0.2.2.2.1 ?_
    exact go_aret kk62_0.2.2.2.2 e7 rfR_null ⟨Nat.zero_le _, Nat.zero_le _⟩ rfl
  · refine go_aload kk62_0.2.1.1.1 rfl ?_
    refine go_getR (bI := 1) kk62_0.2.1.1.2 e7 hK0 (by decide) rfl rfl (fun r10 => ?_)
    refine go_aload kk62_0.2.1.2.1 rfl ?_
    refine go_getI (bI := 7) kk62_0.2.1.2.2 e7 hK0 (by decide) rfl rfl (fun r11 => ?_)
    refine go_ck (fun q12 => ?_)
    refine go_callP2 kk62_0.2.2.1.1 rfl rfl rfl ⟨by decide, _, rfl, q12⟩ ⟨Nat.zero_le _, Nat.zero_le _⟩ (by omega) (tfT_at (by omega) e7 q12  r11) (fun y13 r14 => ?_)
    refine go_goto kk62_0.2.2.1.2 ?_
    exact go_aret kk62_0.2.2.2.2 e7 r14 ⟨Nat.zero_le _, Nat.zero_le _⟩ rfl
theorem tfP_putUnder {Φ : ev_P} {d : Nat} (hd : 0 ≤ d) {g : gH} (hg : HR g) {v0 v1 : Int} (hK0 : kd v0 = 3) (h1 : RfR v1) : Go Φ pr_P fN 0 (fP_putUnder g v0 v1) d (pr_P 46) 0 (ev_loc (pr_P 46).1 [(sR v0), (sR v1)]) [] g 0 0 := by
  show Go Φ pr_P fN 0 (fP_putUnder g v0 v1) d pr_m46 0 [some (sR v0), some (sR v1)] [] g 0 0
  unfold fP_putUnder
  refine go_aload kk46_0.1.1.1.1.1 rfl ?_
  refine go_getR (bI := 2) kk46_0.1.1.1.1.2 hg hK0 (by decide) rfl rfl (fun r1 => ?_)
  refine go_isnull kk46_0.1.1.1.2  (fun c2 => ?_) (fun c3 => ?_)
  · refine go_aload kk46_0.2.1.1.1.1 rfl ?_
    refine go_aload kk46_0.2.1.1.1.2 rfl ?_
    refine go_putR (bI := 2) kk46_0.2.1.1.2 hg hK0 (by decide) rfl rfl h1 (fun g4 e5 => ?_)
    refine go_aload kk46_0.2.1.2.1 rfl ?_
    refine go_dupR kk46_0.2.1.2.2 ?_
    refine go_ck (fun q6 => ?_)
    refine go_getI (bI := 3) kk46_0.2.2.1.1.1 e5 q6 (by decide) rfl rfl (fun r7 => ?_)
    refine go_int kk46_0.2.2.1.1.2 1 rfl ?_
    refine go_iadd kk46_0.2.2.1.2 ?_
    refine go_putI (bI := 3) kk46_0.2.2.2.1 e5 q6 (by decide) rfl rfl (inR_w32 _) (fun g8 e9 => ?_)
    exact go_vret kk46_0.2.2.2.2 e9 ⟨Nat.zero_le _, Nat.zero_le _⟩ rfl
  · refine go_aload kk46_0.1.1.2.1 rfl ?_
    refine go_getR (bI := 2) kk46_0.1.1.2.2 hg hK0 (by decide) rfl rfl (fun r10 => ?_)
    refine go_dupR kk46_0.1.2.1.1.1 ?_
    refine go_ck (fun q11 => ?_)
    refine go_getI (bI := 3) kk46_0.1.2.1.1.2 hg q11 (by decide) rfl rfl (fun r12 => ?_)
    refine go_int kk46_0.1.2.1.2 1 rfl ?_
    refine go_isub kk46_0.1.2.2.1 ?_
    refine go_putI (bI := 3) kk46_0.1.2.2.2 hg q11 (by decide) rfl rfl (inR_w32 _) (fun g13 e14 => ?_)
    refine go_aload kk46_0.2.1.1.1.1 rfl ?_
    refine go_aload kk46_0.2.1.1.1.2 rfl ?_
    refine go_putR (bI := 2) kk46_0.2.1.1.2 e14 hK0 (by decide) rfl rfl h1 (fun g15 e16 => ?_)
    refine go_aload kk46_0.2.1.2.1 rfl ?_
    refine go_dupR kk46_0.2.1.2.2 ?_
    refine go_ck (fun q17 => ?_)
    refine go_getI (bI := 3) kk46_0.2.2.1.1.1 e16 q17 (by decide) rfl rfl (fun r18 => ?_)
    refine go_int kk46_0.2.2.1.1.2 1 rfl ?_
    refine go_iadd kk46_0.2.2.1.2 ?_
    refine go_putI (bI := 3) kk46_0.2.2.2.1 e16 q17 (by decide) rfl rfl (inR_w32 _) (fun g19 e20 => ?_)
    exact go_vret kk46_0.2.2.2.2 e20 ⟨Nat.zero_le _, Nat.zero_le _⟩ rfl
theorem tfT_arrive {Φ : ev_P} {d : Nat} (hd : 1 ≤ d) {g : gH} (hg : HR g) {v0 v1 v2 v3 v4 : Int} (hK0 : kd v0 = 5) (h1 : RfR v1) (h2 : InR v2) (h3 : InR v3) (h4 : InR v4) : Go Φ pr_P fN 2 (fT_arrive g v0 v1 v2 v3 v4) d (pr_P 81) 0 (ev_loc (pr_P 81).1 [(sR v0), (sR v1), (sI v2), (sI v3), (sI v4)]) [] g 0 0 := by
  show Go Φ pr_P fN 2 (fT_arrive g v0 v1 v2 v3 v4) d pr_m81 0 [some (sR v0), some (sR v1), some (sI v2), some (sI v3), some (sI v4), none] [] g 0 0
  unfold fT_arrive
  refine go_aload kk81_0.1.1.1.1.1 rfl ?_
  refine go_getI (bI := 5) kk81_0.1.1.1.1.2 hg hK0 (by decide) rfl rfl (fun r1 => ?_)
  refine go_iflt kk81_0.1.1.1.2.1 r1 (fun c2 => ?_) (fun c3 => ?_)
  · refine go_null kk81_0.1.1.2.2.2 ?_
    exact go_aret kk81_0.1.2.1.1.1 hg rfR_null ⟨Nat.zero_le _, Nat.zero_le _⟩ rfl
  · refine go_aload kk81_0.1.1.1.2.2 rfl ?_
    refine go_getI (bI := 5) kk81_0.1.1.2.1.1 hg hK0 (by decide) rfl rfl (fun r4 => ?_)
    refine go_int kk81_0.1.1.2.1.2 40 rfl ?_
    refine go_cmlt kk81_0.1.1.2.2.1 r4 (inR_of (by decide)) (fun c5 => ?_) (fun c6 => ?_)
    · refine go_aload kk81_0.1.2.1.1.2 rfl ?_
      refine go_getR (bI := 1) kk81_0.1.2.1.2.1 hg hK0 (by decide) rfl rfl (fun r7 => ?_)
      refine go_aload kk81_0.1.2.1.2.2 rfl ?_
      refine go_getI (bI := 5) kk81_0.1.2.2.1.1 hg hK0 (by decide) rfl rfl (fun r8 => ?_)
      refine go_ck (fun q10 => ?_)
      refine go_pald kk81_0.1.2.2.1.2 hg q10 (fun r9 => ?_)
      refine go_astore kk81_0.1.2.2.2.1 rfl (loc2 := [some (sR v0), some (sR v1), some (sI v2), some (sI v3), some (sI v4), some (sR (g (g v0 1) (g v0 5)))]) rfl ?_
      refine go_aload kk81_0.1.2.2.2.2 rfl ?_
      refine go_dupR kk81_0.2.1.1.1.1 ?_
      refine go_getI (bI := 5) kk81_0.2.1.1.1.2 hg hK0 (by decide) rfl rfl (fun r11 => ?_)
      refine go_int kk81_0.2.1.1.2.1 1 rfl ?_
      refine go_iadd kk81_0.2.1.1.2.2 ?_
      refine go_putI (bI := 5) kk81_0.2.1.2.1.1 hg hK0 (by decide) rfl rfl (inR_w32 _) (fun g12 e13 => ?_)
      refine go_aload kk81_0.2.1.2.1.2 rfl ?_
      refine go_int kk81_0.2.1.2.2.1 0 rfl ?_
      refine go_iload kk81_0.2.1.2.2.2 rfl ?_
      refine go_iload kk81_0.2.2.1.1.1 rfl ?_
      refine go_iload kk81_0.2.2.1.1.2 rfl ?_
      refine go_ck (fun q14 => ?_)
      refine go_callN0 kk81_0.2.2.1.2.1 rfl rfl rfl ⟨by decide, _, rfl, q14⟩ ⟨Nat.zero_le _, Nat.zero_le _⟩ (by omega) (tfP_become (by omega) e13 q14  (inR_b (Or.inl rfl)) h2 h3 h4) (fun y15 g17 e18 => ?_)
      refine go_aload kk81_0.2.2.1.2.2 rfl ?_
      refine go_aload kk81_0.2.2.2.1.1 rfl ?_
      refine go_callN0 kk81_0.2.2.2.1.2 rfl rfl rfl ⟨by decide, _, rfl, q14⟩ ⟨Nat.zero_le _, Nat.zero_le _⟩ (by omega) (tfP_putUnder (by omega) e18 q14  h1) (fun y19 g21 e22 => ?_)
      refine go_aload kk81_0.2.2.2.2.1 rfl ?_
      exact go_aret kk81_0.2.2.2.2.2 e22 r9 ⟨Nat.zero_le _, Nat.zero_le _⟩ rfl
    · refine go_null kk81_0.1.1.2.2.2 ?_
      exact go_aret kk81_0.1.2.1.1.1 hg rfR_null ⟨Nat.zero_le _, Nat.zero_le _⟩ rfl
theorem tfS_takeProcess {Φ : ev_P} {d : Nat} (hd : 4 ≤ d) {g : gH} (hg : HR g) {v0 : Int} (hK0 : kd v0 = 4) : Go Φ pr_P fN 3 (fS_takeProcess g v0) d (pr_P 57) 0 (ev_loc (pr_P 57).1 [(sR v0)]) [] g 0 0 := by
  show Go Φ pr_P fN 3 (fS_takeProcess g v0) d pr_m57 0 [some (sR v0), none, none, none] [] g 0 0
  unfold fS_takeProcess
  refine go_aload kk57_0.1.1.1.1.1.1 rfl ?_
  refine go_getR (bI := 1) kk57_0.1.1.1.1.1.2 hg hK0 (by decide) rfl rfl (fun r1 => ?_)
  refine go_ck (fun q2 => ?_)
  refine go_getI (bI := 5) kk57_0.1.1.1.1.2.1 hg q2 (by decide) rfl rfl (fun r3 => ?_)
  refine go_int kk57_0.1.1.1.1.2.2 24 rfl ?_
  refine go_cmgt kk57_0.1.1.1.2.1.1 r3 (inR_of (by decide)) (fun c4 => ?_) (fun c5 => ?_)
  · refine go_aload kk57_0.1.1.1.2.1.2 rfl ?_
    refine go_int kk57_0.1.1.1.2.2.1 4 rfl ?_
    refine go_callN3 kk57_0.1.1.1.2.2.2 rfl rfl rfl ⟨by decide, _, rfl, hK0⟩ ⟨Nat.zero_le _, Nat.zero_le _⟩ (by omega) (tfS_fail (by omega) hg hK0  (inR_of (by decide))) (fun y6 g8 r7 e9 => ?_)
    exact go_bret kk57_0.1.1.2.1.1.1 e9 r7 ⟨Nat.zero_le _, Nat.zero_le _⟩ rfl
  · refine go_aload kk57_0.1.1.2.1.1.2 rfl ?_
    refine go_int kk57_0.1.1.2.1.2.1 0 rfl ?_
    refine go_callN2 kk57_0.1.1.2.1.2.2 rfl rfl rfl ⟨by decide, _, rfl, hK0⟩ ⟨Nat.zero_le _, Nat.zero_le _⟩ (by omega) (tfS_takeNamed (by omega) hg hK0  (inR_b (Or.inl rfl))) (fun y10 g12 r11 e13 => ?_)
    refine go_astore kk57_0.1.1.2.2.1.1 rfl (loc2 := [some (sR v0), some (sR y10), none, none]) rfl ?_
    refine go_aload kk57_0.1.1.2.2.1.2 rfl ?_
    refine go_isnull kk57_0.1.1.2.2.2.1  (fun c14 => ?_) (fun c15 => ?_)
    · refine go_int kk57_0.1.1.2.2.2.2 0 rfl ?_
      exact go_bret kk57_0.1.2.1.1.1.1 e13 (Or.inl rfl) ⟨Nat.zero_le _, Nat.zero_le _⟩ rfl
    · refine go_aload kk57_0.1.2.1.1.1.2 rfl ?_
      refine go_ck (fun q16 => ?_)
      refine go_callP1 kk57_0.1.2.1.1.2.1 rfl rfl rfl ⟨by decide, _, rfl, q16⟩ ⟨Nat.zero_le _, Nat.zero_le _⟩ (by omega) (tfP_room (by omega) e13 q16 ) (fun y17 r18 => ?_)
      refine go_ifeq kk57_0.1.2.1.1.2.2 r18 (fun c21 => ?_) (fun c22 => ?_)
      · refine go_aload kk57_0.1.2.1.2.1.1 rfl ?_
        refine go_int kk57_0.1.2.1.2.1.2 2 rfl ?_
        refine go_callN3 kk57_0.1.2.1.2.2.1 rfl rfl rfl ⟨by decide, _, rfl, hK0⟩ ⟨Nat.zero_le _, Nat.zero_le _⟩ (by omega) (tfS_fail (by omega) e13 hK0  (inR_of (by decide))) (fun y23 g25 r24 e26 => ?_)
        exact go_bret kk57_0.1.2.1.2.2.2 e26 r24 ⟨Nat.zero_le _, Nat.zero_le _⟩ rfl
      · refine go_aload kk57_0.1.2.2.1.1.1 rfl ?_
        refine go_int kk57_0.1.2.2.1.1.2 0 rfl ?_
        refine go_int kk57_0.1.2.2.1.2.1 9 rfl ?_
        refine go_callN3 kk57_0.1.2.2.1.2.2 rfl rfl rfl ⟨by decide, _, rfl, hK0⟩ ⟨Nat.zero_le _, Nat.zero_le _⟩ (by omega) (tfS_takeNumber (by omega) e13 hK0  (inR_b (Or.inl rfl)) (inR_of (by decide))) (fun y27 g29 r28 e30 => ?_)
        refine go_ifeq kk57_0.1.2.2.2.1.1 (inR_b r28) (fun c31 => ?_) (fun c32 => ?_)
        · refine go_int kk57_0.1.2.2.2.1.2 0 rfl ?_
          exact go_bret kk57_0.1.2.2.2.2.1 e30 (Or.inl rfl) ⟨Nat.zero_le _, Nat.zero_le _⟩ rfl
        · refine go_aload kk57_0.1.2.2.2.2.2 rfl ?_
          refine go_getI (bI := 7) kk57_0.2.1.1.1.1.1 e30 hK0 (by decide) rfl rfl (fun r33 => ?_)
          refine go_istore kk57_0.2.1.1.1.1.2 rfl (loc2 := [some (sR v0), some (sR y10), some (sI (g29 v0 7)), none]) rfl ?_
          refine go_aload kk57_0.2.1.1.1.2.1 rfl ?_
          refine go_int kk57_0.2.1.1.1.2.2 0 rfl ?_
          refine go_int kk57_0.2.1.1.2.1.1 9 rfl ?_
          refine go_callN3 kk57_0.2.1.1.2.1.2 rfl rfl rfl ⟨by decide, _, rfl, hK0⟩ ⟨Nat.zero_le _, Nat.zero_le _⟩ (by omega) (tfS_takeNumber (by omega) e30 hK0  (inR_b (Or.inl rfl)) (inR_of (by decide))) (fun y34 g36 r35 e37 => ?_)
          refine go_ifeq kk57_0.2.1.1.2.2.1 (inR_b r35) (fun c38 => ?_) (fun c39 => ?_)
          · refine go_int kk57_0.2.1.1.2.2.2 0 rfl ?_
            exact go_bret kk57_0.2.1.2.1.1.1 e37 (Or.inl rfl) ⟨Nat.zero_le _, Nat.zero_le _⟩ rfl
          · refine go_aload kk57_0.2.1.2.1.1.2 rfl ?_
            refine go_getI (bI := 7) kk57_0.2.1.2.1.2.1 e37 hK0 (by decide) rfl rfl (fun r40 => ?_)
            refine go_istore kk57_0.2.1.2.1.2.2 rfl (loc2 := [some (sR v0), some (sR y10), some (sI (g29 v0 7)), some (sI (g36 v0 7))]) rfl ?_
            refine go_aload kk57_0.2.1.2.2.1.1 rfl ?_
            refine go_int kk57_0.2.1.2.2.1.2 0 rfl ?_
            refine go_int kk57_0.2.1.2.2.2.1 9 rfl ?_
            refine go_callN3 kk57_0.2.1.2.2.2.2 rfl rfl rfl ⟨by decide, _, rfl, hK0⟩ ⟨Nat.zero_le _, Nat.zero_le _⟩ (by omega) (tfS_takeNumber (by omega) e37 hK0  (inR_b (Or.inl rfl)) (inR_of (by decide))) (fun y41 g43 r42 e44 => ?_)
            refine go_ifeq kk57_0.2.2.1.1.1.1 (inR_b r42) (fun c45 => ?_) (fun c46 => ?_)
            · refine go_int kk57_0.2.2.1.1.1.2 0 rfl ?_
              exact go_bret kk57_0.2.2.1.1.2.1 e44 (Or.inl rfl) ⟨Nat.zero_le _, Nat.zero_le _⟩ rfl
            · refine go_aload kk57_0.2.2.1.1.2.2 rfl ?_
              refine go_getR (bI := 1) kk57_0.2.2.1.2.1.1 e44 hK0 (by decide) rfl rfl (fun r47 => ?_)
              refine go_aload kk57_0.2.2.1.2.1.2 rfl ?_
              refine go_iload kk57_0.2.2.1.2.2.1 rfl ?_
              refine go_iload kk57_0.2.2.1.2.2.2 rfl ?_
              refine go_aload kk57_0.2.2.2.1.1.1 rfl ?_
              refine go_getI (bI := 7) kk57_0.2.2.2.1.1.2 e44 hK0 (by decide) rfl rfl (fun r48 => ?_)
              refine go_ck (fun q49 => ?_)
              refine go_callN2 kk57_0.2.2.2.1.2.1 rfl rfl rfl ⟨by decide, _, rfl, q49⟩ ⟨Nat.zero_le _, Nat.zero_le _⟩ (by omega) (tfT_arrive (by omega) e44 q49  r11 r33 r40 r48) (fun y50 g52 r51 e53 => ?_)
              refine go_popR kk57_0.2.2.2.1.2.2 ?_
              refine go_aload kk57_0.2.2.2.2.1.1 rfl ?_
              refine go_callN3 kk57_0.2.2.2.2.1.2 rfl rfl rfl ⟨by decide, _, rfl, hK0⟩ ⟨Nat.zero_le _, Nat.zero_le _⟩ (by omega) (tfS_takeSemicolon (by omega) e53 hK0 ) (fun y54 g56 r55 e57 => ?_)
              exact go_bret kk57_0.2.2.2.2.2 e57 r55 ⟨Nat.zero_le _, Nat.zero_le _⟩ rfl
theorem tfS_takeHeir {Φ : ev_P} {d : Nat} (hd : 4 ≤ d) {g : gH} (hg : HR g) {v0 : Int} (hK0 : kd v0 = 4) : Go Φ pr_P fN 3 (fS_takeHeir g v0) d (pr_P 58) 0 (ev_loc (pr_P 58).1 [(sR v0)]) [] g 0 0 := by
  show Go Φ pr_P fN 3 (fS_takeHeir g v0) d pr_m58 0 [some (sR v0), none, none] [] g 0 0
  unfold fS_takeHeir
  refine go_aload kk58_0.1.1.1.1.1.1 rfl ?_
  refine go_int kk58_0.1.1.1.1.1.2 1 rfl ?_
  refine go_callN2 kk58_0.1.1.1.1.2 rfl rfl rfl ⟨by decide, _, rfl, hK0⟩ ⟨Nat.zero_le _, Nat.zero_le _⟩ (by omega) (tfS_takeNamed (by omega) hg hK0  (inR_b (Or.inr rfl))) (fun y1 g3 r2 e4 => ?_)
  refine go_astore kk58_0.1.1.1.2.1 rfl (loc2 := [some (sR v0), some (sR y1), none]) rfl ?_
  refine go_aload kk58_0.1.1.1.2.2 rfl ?_
  refine go_isnull kk58_0.1.1.2.1.1.1  (fun c5 => ?_) (fun c6 => ?_)
  · refine go_int kk58_0.1.1.2.1.1.2 0 rfl ?_
    exact go_bret kk58_0.1.1.2.1.2 e4 (Or.inl rfl) ⟨Nat.zero_le _, Nat.zero_le _⟩ rfl
  · refine go_aload kk58_0.1.1.2.2.1 rfl ?_
    refine go_ck (fun q7 => ?_)
    refine go_getI (bI := 7) kk58_0.1.1.2.2.2 e4 q7 (by decide) rfl rfl (fun r8 => ?_)
    refine go_int kk58_0.1.2.1.1.1.1 (-1) rfl ?_
    refine go_cmeq kk58_0.1.2.1.1.1.2 r8 (inR_of (by decide)) (fun c9 => ?_) (fun c10 => ?_)
    · refine go_aload kk58_0.1.2.2.1.2 rfl ?_
      refine go_int kk58_0.1.2.2.2.1 0 rfl ?_
      refine go_callN2 kk58_0.1.2.2.2.2 rfl rfl rfl ⟨by decide, _, rfl, hK0⟩ ⟨Nat.zero_le _, Nat.zero_le _⟩ (by omega) (tfS_takeNamed (by omega) e4 hK0  (inR_b (Or.inl rfl))) (fun y11 g13 r12 e14 => ?_)
      refine go_astore kk58_0.2.1.1.1.1.1 rfl (loc2 := [some (sR v0), some (sR y1), some (sR y11)]) rfl ?_
      refine go_aload kk58_0.2.1.1.1.1.2 rfl ?_
      refine go_isnull kk58_0.2.1.1.1.2  (fun c15 => ?_) (fun c16 => ?_)
      · refine go_int kk58_0.2.1.1.2.1 0 rfl ?_
        exact go_bret kk58_0.2.1.1.2.2 e14 (Or.inl rfl) ⟨Nat.zero_le _, Nat.zero_le _⟩ rfl
      · refine go_aload kk58_0.2.1.2.1.1.1 rfl ?_
        refine go_aload kk58_0.2.1.2.1.1.2 rfl ?_
        refine go_acmp kk58_0.2.1.2.1.2 r12 r2 (fun c17 => ?_) (fun c18 => ?_)
        · refine go_aload kk58_0.2.1.2.2.1 rfl ?_
          refine go_int kk58_0.2.1.2.2.2 2 rfl ?_
          refine go_callN3 kk58_0.2.2.1.1.1.1 rfl rfl rfl ⟨by decide, _, rfl, hK0⟩ ⟨Nat.zero_le _, Nat.zero_le _⟩ (by omega) (tfS_fail (by omega) e14 hK0  (inR_of (by decide))) (fun y19 g21 r20 e22 => ?_)
          exact go_bret kk58_0.2.2.1.1.1.2 e22 r20 ⟨Nat.zero_le _, Nat.zero_le _⟩ rfl
        · refine go_aload kk58_0.2.2.1.1.2 rfl ?_
          refine go_aload kk58_0.2.2.1.2.1 rfl ?_
          refine go_ck (fun q23 => ?_)
          refine go_getI (bI := 0) kk58_0.2.2.1.2.2 e14 q23 (by decide) rfl rfl (fun r24 => ?_)
          refine go_putI (bI := 7) kk58_0.2.2.2.1.1 e14 q7 (by decide) rfl rfl r24 (fun g25 e26 => ?_)
          refine go_aload kk58_0.2.2.2.1.2 rfl ?_
          refine go_callN3 kk58_0.2.2.2.2.1 rfl rfl rfl ⟨by decide, _, rfl, hK0⟩ ⟨Nat.zero_le _, Nat.zero_le _⟩ (by omega) (tfS_takeSemicolon (by omega) e26 hK0 ) (fun y27 g29 r28 e30 => ?_)
          exact go_bret kk58_0.2.2.2.2.2 e30 r28 ⟨Nat.zero_le _, Nat.zero_le _⟩ rfl
    · refine go_aload kk58_0.1.2.1.1.2 rfl ?_
      refine go_int kk58_0.1.2.1.2.1 3 rfl ?_
      refine go_callN3 kk58_0.1.2.1.2.2 rfl rfl rfl ⟨by decide, _, rfl, hK0⟩ ⟨Nat.zero_le _, Nat.zero_le _⟩ (by omega) (tfS_fail (by omega) e4 hK0  (inR_of (by decide))) (fun y31 g33 r32 e34 => ?_)
      exact go_bret kk58_0.1.2.2.1.1 e34 r32 ⟨Nat.zero_le _, Nat.zero_le _⟩ rfl
theorem tfT_giveDuty {Φ : ev_P} {d : Nat} (hd : 0 ≤ d) {g : gH} (hg : HR g) {v0 v1 v2 : Int} (hK0 : kd v0 = 5) (h1 : InR v1) (h2 : RfR v2) : Go Φ pr_P fN 0 (fT_giveDuty g v0 v1 v2) d (pr_P 79) 0 (ev_loc (pr_P 79).1 [(sR v0), (sI v1), (sR v2)]) [] g 0 0 := by
  show Go Φ pr_P fN 0 (fT_giveDuty g v0 v1 v2) d pr_m79 0 [some (sR v0), some (sI v1), some (sR v2)] [] g 0 0
  unfold fT_giveDuty
  refine go_iload kk79_0.1.1.1.1 rfl ?_
  refine go_iflt kk79_0.1.1.1.2 h1 (fun c1 => ?_) (fun c2 => ?_)
  · exact go_vret kk79_0.2.2.2 hg ⟨Nat.zero_le _, Nat.zero_le _⟩ rfl
  · refine go_iload kk79_0.1.1.2 rfl ?_
    refine go_int kk79_0.1.2.1.1 8 rfl ?_
    refine go_cmlt kk79_0.1.2.1.2 h1 (inR_of (by decide)) (fun c3 => ?_) (fun c4 => ?_)
    · refine go_aload kk79_0.1.2.2 rfl ?_
      refine go_getR (bI := 2) kk79_0.2.1.1.1 hg hK0 (by decide) rfl rfl (fun r5 => ?_)
      refine go_iload kk79_0.2.1.1.2 rfl ?_
      refine go_aload kk79_0.2.1.2 rfl ?_
      refine go_ck (fun q6 => ?_)
      refine go_getI (bI := 0) kk79_0.2.2.1.1 hg q6 (by decide) rfl rfl (fun r7 => ?_)
      refine go_ck (fun q8 => ?_)
      refine go_iast kk79_0.2.2.1.2 hg q8 r5 r7 (fun g9 e10 => ?_)
      exact go_vret kk79_0.2.2.2 e10 ⟨Nat.zero_le _, Nat.zero_le _⟩ rfl
    · exact go_vret kk79_0.2.2.2 hg ⟨Nat.zero_le _, Nat.zero_le _⟩ rfl
theorem tfS_takeDuty {Φ : ev_P} {d : Nat} (hd : 4 ≤ d) {g : gH} (hg : HR g) {v0 : Int} (hK0 : kd v0 = 4) : Go Φ pr_P fN 3 (fS_takeDuty g v0) d (pr_P 59) 0 (ev_loc (pr_P 59).1 [(sR v0)]) [] g 0 0 := by
  show Go Φ pr_P fN 3 (fS_takeDuty g v0) d pr_m59 0 [some (sR v0), none, none] [] g 0 0
  unfold fS_takeDuty
  refine go_aload kk59_0.1.1.1.1.1 rfl ?_
  refine go_int kk59_0.1.1.1.1.2 0 rfl ?_
  refine go_int kk59_0.1.1.1.2.1 7 rfl ?_
  refine go_callN3 kk59_0.1.1.1.2.2 rfl rfl rfl ⟨by decide, _, rfl, hK0⟩ ⟨Nat.zero_le _, Nat.zero_le _⟩ (by omega) (tfS_takeNumber (by omega) hg hK0  (inR_b (Or.inl rfl)) (inR_of (by decide))) (fun y1 g3 r2 e4 => ?_)
  refine go_ifeq kk59_0.1.1.2.1.1 (inR_b r2) (fun c5 => ?_) (fun c6 => ?_)
  · refine go_int kk59_0.1.1.2.1.2 0 rfl ?_
    exact go_bret kk59_0.1.1.2.2 e4 (Or.inl rfl) ⟨Nat.zero_le _, Nat.zero_le _⟩ rfl
  · refine go_aload kk59_0.1.2.1.1.1 rfl ?_
    refine go_getI (bI := 7) kk59_0.1.2.1.1.2 e4 hK0 (by decide) rfl rfl (fun r7 => ?_)
    refine go_istore kk59_0.1.2.1.2 rfl (loc2 := [some (sR v0), some (sI (g3 v0 7)), none]) rfl ?_
    refine go_aload kk59_0.1.2.2.1.1 rfl ?_
    refine go_int kk59_0.1.2.2.1.2 0 rfl ?_
    refine go_callN2 kk59_0.1.2.2.2 rfl rfl rfl ⟨by decide, _, rfl, hK0⟩ ⟨Nat.zero_le _, Nat.zero_le _⟩ (by omega) (tfS_takeNamed (by omega) e4 hK0  (inR_b (Or.inl rfl))) (fun y8 g10 r9 e11 => ?_)
    refine go_astore kk59_0.2.1.1.1.1 rfl (loc2 := [some (sR v0), some (sI (g3 v0 7)), some (sR y8)]) rfl ?_
    refine go_aload kk59_0.2.1.1.1.2 rfl ?_
    refine go_isnull kk59_0.2.1.1.2.1  (fun c12 => ?_) (fun c13 => ?_)
    · refine go_int kk59_0.2.1.1.2.2 0 rfl ?_
      exact go_bret kk59_0.2.1.2.1.1 e11 (Or.inl rfl) ⟨Nat.zero_le _, Nat.zero_le _⟩ rfl
    · refine go_aload kk59_0.2.1.2.1.2 rfl ?_
      refine go_getR (bI := 1) kk59_0.2.1.2.2 e11 hK0 (by decide) rfl rfl (fun r14 => ?_)
      refine go_iload kk59_0.2.2.1.1.1 rfl ?_
      refine go_aload kk59_0.2.2.1.1.2 rfl ?_
      refine go_ck (fun q15 => ?_)
      refine go_callN0 kk59_0.2.2.1.2 rfl rfl rfl ⟨by decide, _, rfl, q15⟩ ⟨Nat.zero_le _, Nat.zero_le _⟩ (by omega) (tfT_giveDuty (by omega) e11 q15  r7 r9) (fun y16 g18 e19 => ?_)
      refine go_aload kk59_0.2.2.2.1.1 rfl ?_
      refine go_callN3 kk59_0.2.2.2.1.2 rfl rfl rfl ⟨by decide, _, rfl, hK0⟩ ⟨Nat.zero_le _, Nat.zero_le _⟩ (by omega) (tfS_takeSemicolon (by omega) e19 hK0 ) (fun y20 g22 r21 e23 => ?_)
      exact go_bret kk59_0.2.2.2.2 e23 r21 ⟨Nat.zero_le _, Nat.zero_le _⟩ rfl
theorem tfP_refuses {Φ : ev_P} {d : Nat} (hd : 0 ≤ d) {g : gH} (hg : HR g) {v0 v1 : Int} (hK0 : kd v0 = 3) (h1 : InR v1) : Go Φ pr_P (fP g) 3 (fP_refuses g v0 v1) d (pr_P 42) 0 (ev_loc (pr_P 42).1 [(sR v0), (sI v1)]) [] g 0 0 := by
  show Go Φ pr_P (fP g) 3 (fP_refuses g v0 v1) d pr_m42 0 [some (sR v0), some (sI v1)] [] g 0 0
  unfold fP_refuses
  refine go_aload kk42_0.1.1.1.1 rfl ?_
  refine go_getI (bI := 8) kk42_0.1.1.1.2 hg hK0 (by decide) rfl rfl (fun r1 => ?_)
  refine go_iload kk42_0.1.1.2 rfl ?_
  refine go_ibin kk42_0.1.2.1.1 ?_
  refine go_int kk42_0.1.2.1.2 1 rfl ?_
  refine go_ibin kk42_0.1.2.2 ?_
  refine go_ifeq kk42_0.2.1.1.1 (inR_opI _ _ _) (fun c2 => ?_) (fun c3 => ?_)
  · refine go_int kk42_0.2.2.1 0 rfl ?_
    exact go_bret kk42_0.2.2.2 hg (Or.inl rfl) ⟨Nat.zero_le _, Nat.zero_le _⟩ rfl
  · refine go_int kk42_0.2.1.1.2 1 rfl ?_
    refine go_goto kk42_0.2.1.2 ?_
    exact go_bret kk42_0.2.2.2 hg (Or.inr rfl) ⟨Nat.zero_le _, Nat.zero_le _⟩ rfl
theorem tfS_takeRefusal {Φ : ev_P} {d : Nat} (hd : 4 ≤ d) {g : gH} (hg : HR g) {v0 : Int} (hK0 : kd v0 = 4) : Go Φ pr_P fN 3 (fS_takeRefusal g v0) d (pr_P 60) 0 (ev_loc (pr_P 60).1 [(sR v0)]) [] g 0 0 := by
  show Go Φ pr_P fN 3 (fS_takeRefusal g v0) d pr_m60 0 [some (sR v0), none] [] g 0 0
  unfold fS_takeRefusal
  refine go_aload kk60_0.1.1.1.1.1.1 rfl ?_
  refine go_int kk60_0.1.1.1.1.1.2 1 rfl ?_
  refine go_callN2 kk60_0.1.1.1.1.2 rfl rfl rfl ⟨by decide, _, rfl, hK0⟩ ⟨Nat.zero_le _, Nat.zero_le _⟩ (by omega) (tfS_takeNamed (by omega) hg hK0  (inR_b (Or.inr rfl))) (fun y1 g3 r2 e4 => ?_)
  refine go_astore kk60_0.1.1.1.2.1 rfl (loc2 := [some (sR v0), some (sR y1)]) rfl ?_
  refine go_aload kk60_0.1.1.1.2.2 rfl ?_
  refine go_isnull kk60_0.1.1.2.1.1  (fun c5 => ?_) (fun c6 => ?_)
  · refine go_int kk60_0.1.2.1.2.1 0 rfl ?_
    exact go_bret kk60_0.1.2.1.2.2 e4 (Or.inl rfl) ⟨Nat.zero_le _, Nat.zero_le _⟩ rfl
  · refine go_aload kk60_0.1.1.2.1.2 rfl ?_
    refine go_int kk60_0.1.1.2.2.1 0 rfl ?_
    refine go_int kk60_0.1.1.2.2.2 9 rfl ?_
    refine go_callN3 kk60_0.1.2.1.1.1 rfl rfl rfl ⟨by decide, _, rfl, hK0⟩ ⟨Nat.zero_le _, Nat.zero_le _⟩ (by omega) (tfS_takeNumber (by omega) e4 hK0  (inR_b (Or.inl rfl)) (inR_of (by decide))) (fun y7 g9 r8 e10 => ?_)
    refine go_ifeq kk60_0.1.2.1.1.2 (inR_b r8) (fun c11 => ?_) (fun c12 => ?_)
    · refine go_int kk60_0.1.2.1.2.1 0 rfl ?_
      exact go_bret kk60_0.1.2.1.2.2 e10 (Or.inl rfl) ⟨Nat.zero_le _, Nat.zero_le _⟩ rfl
    · refine go_aload kk60_0.1.2.2.1.1 rfl ?_
      refine go_aload kk60_0.1.2.2.1.2 rfl ?_
      refine go_getI (bI := 7) kk60_0.1.2.2.2.1 e10 hK0 (by decide) rfl rfl (fun r13 => ?_)
      refine go_ck (fun q14 => ?_)
      refine go_callP3 kk60_0.1.2.2.2.2 rfl rfl rfl ⟨by decide, _, rfl, q14⟩ ⟨Nat.zero_le _, Nat.zero_le _⟩ (by omega) (tfP_refuses (by omega) e10 q14  r13) (fun y15 r16 => ?_)
      refine go_ifeq kk60_0.2.1.1.1.1.1 (inR_b r16) (fun c19 => ?_) (fun c20 => ?_)
      · refine go_aload kk60_0.2.1.2.1.1 rfl ?_
        refine go_dupR kk60_0.2.1.2.1.2 ?_
        refine go_getI (bI := 8) kk60_0.2.1.2.2.1 e10 q14 (by decide) rfl rfl (fun r21 => ?_)
        refine go_int kk60_0.2.1.2.2.2 1 rfl ?_
        refine go_aload kk60_0.2.2.1.1.1 rfl ?_
        refine go_getI (bI := 7) kk60_0.2.2.1.1.2 e10 hK0 (by decide) rfl rfl (fun r22 => ?_)
        refine go_ibin kk60_0.2.2.1.2.1 ?_
        refine go_ibin kk60_0.2.2.1.2.2 ?_
        refine go_putI (bI := 8) kk60_0.2.2.2.1.1 e10 q14 (by decide) rfl rfl (inR_opI _ _ _) (fun g23 e24 => ?_)
        refine go_aload kk60_0.2.2.2.1.2 rfl ?_
        refine go_callN3 kk60_0.2.2.2.2.1 rfl rfl rfl ⟨by decide, _, rfl, hK0⟩ ⟨Nat.zero_le _, Nat.zero_le _⟩ (by omega) (tfS_takeSemicolon (by omega) e24 hK0 ) (fun y25 g27 r26 e28 => ?_)
        exact go_bret kk60_0.2.2.2.2.2 e28 r26 ⟨Nat.zero_le _, Nat.zero_le _⟩ rfl
      · refine go_aload kk60_0.2.1.1.1.1.2 rfl ?_
        refine go_int kk60_0.2.1.1.1.2 3 rfl ?_
        refine go_callN3 kk60_0.2.1.1.2.1 rfl rfl rfl ⟨by decide, _, rfl, hK0⟩ ⟨Nat.zero_le _, Nat.zero_le _⟩ (by omega) (tfS_fail (by omega) e10 hK0  (inR_of (by decide))) (fun y29 g31 r30 e32 => ?_)
        exact go_bret kk60_0.2.1.1.2.2 e32 r30 ⟨Nat.zero_le _, Nat.zero_le _⟩ rfl
theorem tfP_willFor {Φ : ev_P} {d : Nat} (hd : 0 ≤ d) {g : gH} (hg : HR g) {v0 v1 : Int} (hK0 : kd v0 = 3) (h1 : InR v1) : Go Φ pr_P (fP g) 1 (fP_willFor g v0 v1) d (pr_P 47) 0 (ev_loc (pr_P 47).1 [(sR v0), (sI v1)]) [] g 0 0 := by
  show Go Φ pr_P (fP g) 1 (fP_willFor g v0 v1) d pr_m47 0 [some (sR v0), some (sI v1)] [] g 0 0
  unfold fP_willFor
  refine go_aload kk47_0.1.1.1.1 rfl ?_
  refine go_getL (bI := 14) kk47_0.1.1.1.2 hg hK0 (by decide) rfl rfl (fun r1 => ?_)
  refine go_int kk47_0.1.1.2 8 rfl ?_
  refine go_iload kk47_0.1.2.1.1 rfl ?_
  refine go_ibin kk47_0.1.2.1.2 ?_
  refine go_lshr kk47_0.1.2.2 rfl ⟨Nat.zero_le _, Nat.zero_le _⟩ ?_
  refine go_lconst kk47_0.2.1.1.1 255 rfl ?_
  refine go_land kk47_0.2.1.1.2 rfl ⟨Nat.zero_le _, Nat.zero_le _⟩ ?_
  refine go_l2i kk47_0.2.1.2 ?_
  refine go_int kk47_0.2.2.1.1 1 rfl ?_
  refine go_isub kk47_0.2.2.1.2 ?_
  exact go_iret kk47_0.2.2.2 hg (inR_w32 _) ⟨Nat.zero_le _, Nat.zero_le _⟩ rfl
theorem tfP_addWill {Φ : ev_P} {d : Nat} (hd : 0 ≤ d) {g : gH} (hg : HR g) {v0 v1 v2 : Int} (hK0 : kd v0 = 3) (h1 : InR v1) (h2 : InR v2) : Go Φ pr_P fN 0 (fP_addWill g v0 v1 v2) d (pr_P 48) 0 (ev_loc (pr_P 48).1 [(sR v0), (sI v1), (sI v2)]) [] g 0 0 := by
  show Go Φ pr_P fN 0 (fP_addWill g v0 v1 v2) d pr_m48 0 [some (sR v0), some (sI v1), some (sI v2)] [] g 0 0
  unfold fP_addWill
  refine go_aload kk48_0.1.1.1.1 rfl ?_
  refine go_dupR kk48_0.1.1.1.2 ?_
  refine go_getL (bI := 14) kk48_0.1.1.2.1 hg hK0 (by decide) rfl rfl (fun r1 => ?_)
  refine go_iload kk48_0.1.1.2.2 rfl ?_
  refine go_int kk48_0.1.2.1.1 1 rfl ?_
  refine go_iadd kk48_0.1.2.1.2 ?_
  refine go_i2l kk48_0.1.2.2 (inR_w32 _) ?_
  refine go_int kk48_0.2.1.1.1 8 rfl ?_
  refine go_iload kk48_0.2.1.1.2 rfl ?_
  refine go_ibin kk48_0.2.1.2.1 ?_
  refine go_lshl kk48_0.2.1.2.2 rfl ⟨Nat.zero_le _, Nat.zero_le _⟩ ?_
  refine go_lor kk48_0.2.2.1.1 rfl ⟨Nat.zero_le _, Nat.zero_le _⟩ ?_
  refine go_putL (bI := 14) kk48_0.2.2.1.2 hg hK0 (by decide) rfl rfl (inL_opL _ _ _) (fun g2 e3 => ?_)
  exact go_vret kk48_0.2.2.2 e3 ⟨Nat.zero_le _, Nat.zero_le _⟩ rfl
theorem tfS_takeWill {Φ : ev_P} {d : Nat} (hd : 4 ≤ d) {g : gH} (hg : HR g) {v0 : Int} (hK0 : kd v0 = 4) : Go Φ pr_P fN 3 (fS_takeWill g v0) d (pr_P 61) 0 (ev_loc (pr_P 61).1 [(sR v0)]) [] g 0 0 := by
  show Go Φ pr_P fN 3 (fS_takeWill g v0) d pr_m61 0 [some (sR v0), none, none, none] [] g 0 0
  unfold fS_takeWill
  refine go_aload kk61_0.1.1.1.1.1.1 rfl ?_
  refine go_int kk61_0.1.1.1.1.1.2 1 rfl ?_
  refine go_callN2 kk61_0.1.1.1.1.2 rfl rfl rfl ⟨by decide, _, rfl, hK0⟩ ⟨Nat.zero_le _, Nat.zero_le _⟩ (by omega) (tfS_takeNamed (by omega) hg hK0  (inR_b (Or.inr rfl))) (fun y1 g3 r2 e4 => ?_)
  refine go_astore kk61_0.1.1.1.2.1.1 rfl (loc2 := [some (sR v0), some (sR y1), none, none]) rfl ?_
  refine go_aload kk61_0.1.1.1.2.1.2 rfl ?_
  refine go_isnull kk61_0.1.1.1.2.2  (fun c5 => ?_) (fun c6 => ?_)
  · refine go_int kk61_0.1.1.2.2.2 0 rfl ?_
    exact go_bret kk61_0.1.2.1.1.1.1 e4 (Or.inl rfl) ⟨Nat.zero_le _, Nat.zero_le _⟩ rfl
  · refine go_aload kk61_0.1.1.2.1.1.1 rfl ?_
    refine go_int kk61_0.1.1.2.1.1.2 0 rfl ?_
    refine go_int kk61_0.1.1.2.1.2 7 rfl ?_
    refine go_callN3 kk61_0.1.1.2.2.1.1 rfl rfl rfl ⟨by decide, _, rfl, hK0⟩ ⟨Nat.zero_le _, Nat.zero_le _⟩ (by omega) (tfS_takeNumber (by omega) e4 hK0  (inR_b (Or.inl rfl)) (inR_of (by decide))) (fun y7 g9 r8 e10 => ?_)
    refine go_ifeq kk61_0.1.1.2.2.1.2 (inR_b r8) (fun c11 => ?_) (fun c12 => ?_)
    · refine go_int kk61_0.1.1.2.2.2 0 rfl ?_
      exact go_bret kk61_0.1.2.1.1.1.1 e10 (Or.inl rfl) ⟨Nat.zero_le _, Nat.zero_le _⟩ rfl
    · refine go_aload kk61_0.1.2.1.1.1.2 rfl ?_
      refine go_getI (bI := 7) kk61_0.1.2.1.1.2 e10 hK0 (by decide) rfl rfl (fun r13 => ?_)
      refine go_istore kk61_0.1.2.1.2.1.1 rfl (loc2 := [some (sR v0), some (sR y1), some (sI (g9 v0 7)), none]) rfl ?_
      refine go_aload kk61_0.1.2.1.2.1.2 rfl ?_
      refine go_iload kk61_0.1.2.1.2.2 rfl ?_
      refine go_ck (fun q14 => ?_)
      refine go_callP1 kk61_0.1.2.2.1.1.1 rfl rfl rfl ⟨by decide, _, rfl, q14⟩ ⟨Nat.zero_le _, Nat.zero_le _⟩ (by omega) (tfP_willFor (by omega) e10 q14  r13) (fun y15 r16 => ?_)
      refine go_int kk61_0.1.2.2.1.1.2 (-1) rfl ?_
      refine go_cmeq kk61_0.1.2.2.1.2 r16 (inR_of (by decide)) (fun c19 => ?_) (fun c20 => ?_)
      · refine go_aload kk61_0.2.1.1.1.1.2 rfl ?_
        refine go_int kk61_0.2.1.1.1.2 0 rfl ?_
        refine go_callN2 kk61_0.2.1.1.2.1.1 rfl rfl rfl ⟨by decide, _, rfl, hK0⟩ ⟨Nat.zero_le _, Nat.zero_le _⟩ (by omega) (tfS_takeNamed (by omega) e10 hK0  (inR_b (Or.inl rfl))) (fun y21 g23 r22 e24 => ?_)
        refine go_astore kk61_0.2.1.1.2.1.2 rfl (loc2 := [some (sR v0), some (sR y1), some (sI (g9 v0 7)), some (sR y21)]) rfl ?_
        refine go_aload kk61_0.2.1.1.2.2 rfl ?_
        refine go_isnull kk61_0.2.1.2.1.1.1  (fun c25 => ?_) (fun c26 => ?_)
        · refine go_int kk61_0.2.1.2.1.1.2 0 rfl ?_
          exact go_bret kk61_0.2.1.2.1.2 e24 (Or.inl rfl) ⟨Nat.zero_le _, Nat.zero_le _⟩ rfl
        · refine go_aload kk61_0.2.1.2.2.1.1 rfl ?_
          refine go_aload kk61_0.2.1.2.2.1.2 rfl ?_
          refine go_acmp kk61_0.2.1.2.2.2 r22 r2 (fun c27 => ?_) (fun c28 => ?_)
          · refine go_aload kk61_0.2.2.1.1.1.1 rfl ?_
            refine go_int kk61_0.2.2.1.1.1.2 2 rfl ?_
            refine go_callN3 kk61_0.2.2.1.1.2 rfl rfl rfl ⟨by decide, _, rfl, hK0⟩ ⟨Nat.zero_le _, Nat.zero_le _⟩ (by omega) (tfS_fail (by omega) e24 hK0  (inR_of (by decide))) (fun y29 g31 r30 e32 => ?_)
            exact go_bret kk61_0.2.2.1.2.1.1 e32 r30 ⟨Nat.zero_le _, Nat.zero_le _⟩ rfl
          · refine go_aload kk61_0.2.2.1.2.1.2 rfl ?_
            refine go_iload kk61_0.2.2.1.2.2 rfl ?_
            refine go_aload kk61_0.2.2.2.1.1.1 rfl ?_
            refine go_ck (fun q33 => ?_)
            refine go_getI (bI := 0) kk61_0.2.2.2.1.1.2 e24 q33 (by decide) rfl rfl (fun r34 => ?_)
            refine go_callN0 kk61_0.2.2.2.1.2 rfl rfl rfl ⟨by decide, _, rfl, q14⟩ ⟨Nat.zero_le _, Nat.zero_le _⟩ (by omega) (tfP_addWill (by omega) e24 q14  r13 r34) (fun y35 g37 e38 => ?_)
            refine go_aload kk61_0.2.2.2.2.1.1 rfl ?_
            refine go_callN3 kk61_0.2.2.2.2.1.2 rfl rfl rfl ⟨by decide, _, rfl, hK0⟩ ⟨Nat.zero_le _, Nat.zero_le _⟩ (by omega) (tfS_takeSemicolon (by omega) e38 hK0 ) (fun y39 g41 r40 e42 => ?_)
            exact go_bret kk61_0.2.2.2.2.2 e42 r40 ⟨Nat.zero_le _, Nat.zero_le _⟩ rfl
      · refine go_aload kk61_0.1.2.2.2.1.1 rfl ?_
        refine go_int kk61_0.1.2.2.2.1.2 3 rfl ?_
        refine go_callN3 kk61_0.1.2.2.2.2 rfl rfl rfl ⟨by decide, _, rfl, hK0⟩ ⟨Nat.zero_le _, Nat.zero_le _⟩ (by omega) (tfS_fail (by omega) e10 hK0  (inR_of (by decide))) (fun y43 g45 r44 e46 => ?_)
        exact go_bret kk61_0.2.1.1.1.1.1 e46 r44 ⟨Nat.zero_le _, Nat.zero_le _⟩ rfl
theorem tfS_takeStatement {Φ : ev_P} {d : Nat} (hd : 5 ≤ d) {g : gH} (hg : HR g) {v0 : Int} (hK0 : kd v0 = 4) : Go Φ pr_P fN 3 (fS_takeStatement g v0) d (pr_P 52) 0 (ev_loc (pr_P 52).1 [(sR v0)]) [] g 0 0 := by
  show Go Φ pr_P fN 3 (fS_takeStatement g v0) d pr_m52 0 [some (sR v0)] [] g 0 0
  unfold fS_takeStatement
  refine go_aload kk52_0.1.1.1.1.1.1 rfl ?_
  refine go_callN0 kk52_0.1.1.1.1.1.2 rfl rfl rfl ⟨by decide, _, rfl, hK0⟩ ⟨Nat.zero_le _, Nat.zero_le _⟩ (by omega) (tfS_advance (by omega) hg hK0 ) (fun y1 g3 e4 => ?_)
  refine go_aload kk52_0.1.1.1.1.2 rfl ?_
  refine go_getI (bI := 4) kk52_0.1.1.1.2.1 e4 hK0 (by decide) rfl rfl (fun r5 => ?_)
  refine go_ifeq kk52_0.1.1.1.2.2 r5 (fun c6 => ?_) (fun c7 => ?_)
  · refine go_int kk52_0.1.1.2.1.1 0 rfl ?_
    exact go_bret kk52_0.1.1.2.1.2 e4 (Or.inl rfl) ⟨Nat.zero_le _, Nat.zero_le _⟩ rfl
  · refine go_aload kk52_0.1.1.2.2.1 rfl ?_
    refine go_ldcs kk52_0.1.1.2.2.2 (by decide) (x := 2000000) rfl ?_
    refine go_callP3 kk52_0.1.2.1.1.1 rfl rfl rfl ⟨by decide, _, rfl, hK0⟩ ⟨Nat.zero_le _, Nat.zero_le _⟩ (by omega) (tfS_isWord (by omega) e4 hK0 ) (fun y8 r9 => ?_)
    refine go_ifeq kk52_0.1.2.1.1.2 (inR_b r9) (fun c12 => ?_) (fun c13 => ?_)
    · refine go_aload kk52_0.1.2.2.1.2 rfl ?_
      refine go_ldcs kk52_0.1.2.2.2.1 (by decide) (x := 2000001) rfl ?_
      refine go_callP3 kk52_0.1.2.2.2.2 rfl rfl rfl ⟨by decide, _, rfl, hK0⟩ ⟨Nat.zero_le _, Nat.zero_le _⟩ (by omega) (tfS_isWord (by omega) e4 hK0 ) (fun y14 r15 => ?_)
      refine go_ifeq kk52_0.2.1.1.1.1 (inR_b r15) (fun c18 => ?_) (fun c19 => ?_)
      · refine go_aload kk52_0.2.1.2.1.1 rfl ?_
        refine go_ldcs kk52_0.2.1.2.1.2 (by decide) (x := 2000002) rfl ?_
        refine go_callP3 kk52_0.2.1.2.2.1 rfl rfl rfl ⟨by decide, _, rfl, hK0⟩ ⟨Nat.zero_le _, Nat.zero_le _⟩ (by omega) (tfS_isWord (by omega) e4 hK0 ) (fun y20 r21 => ?_)
        refine go_ifeq kk52_0.2.1.2.2.2 (inR_b r21) (fun c24 => ?_) (fun c25 => ?_)
        · refine go_aload kk52_0.2.2.1.2.2 rfl ?_
          refine go_ldcs kk52_0.2.2.2.1.1 (by decide) (x := 2000003) rfl ?_
          refine go_callP3 kk52_0.2.2.2.1.2 rfl rfl rfl ⟨by decide, _, rfl, hK0⟩ ⟨Nat.zero_le _, Nat.zero_le _⟩ (by omega) (tfS_isWord (by omega) e4 hK0 ) (fun y26 r27 => ?_)
          refine go_ifeq kk52_0.2.2.2.2.1 (inR_b r27) (fun c30 => ?_) (fun c31 => ?_)
          · refine go_aload kk52_1.1.1.1.1.2 rfl ?_
            refine go_ldcs kk52_1.1.1.1.2.1 (by decide) (x := 2000004) rfl ?_
            refine go_callP3 kk52_1.1.1.1.2.2 rfl rfl rfl ⟨by decide, _, rfl, hK0⟩ ⟨Nat.zero_le _, Nat.zero_le _⟩ (by omega) (tfS_isWord (by omega) e4 hK0 ) (fun y32 r33 => ?_)
            refine go_ifeq kk52_1.1.1.2.1.1 (inR_b r33) (fun c36 => ?_) (fun c37 => ?_)
            · refine go_aload kk52_1.1.2.1.1.1 rfl ?_
              refine go_ldcs kk52_1.1.2.1.1.2 (by decide) (x := 2000005) rfl ?_
              refine go_callP3 kk52_1.1.2.1.2.1 rfl rfl rfl ⟨by decide, _, rfl, hK0⟩ ⟨Nat.zero_le _, Nat.zero_le _⟩ (by omega) (tfS_isWord (by omega) e4 hK0 ) (fun y38 r39 => ?_)
              refine go_ifeq kk52_1.1.2.1.2.2 (inR_b r39) (fun c42 => ?_) (fun c43 => ?_)
              · refine go_aload kk52_1.1.2.2.2.2 rfl ?_
                refine go_ldcs kk52_1.2.1.1.1.1.1 (by decide) (x := 2000006) rfl ?_
                refine go_callP3 kk52_1.2.1.1.1.1.2 rfl rfl rfl ⟨by decide, _, rfl, hK0⟩ ⟨Nat.zero_le _, Nat.zero_le _⟩ (by omega) (tfS_isWord (by omega) e4 hK0 ) (fun y44 r45 => ?_)
                refine go_ifeq kk52_1.2.1.1.1.2 (inR_b r45) (fun c48 => ?_) (fun c49 => ?_)
                · refine go_aload kk52_1.2.1.2.1.2 rfl ?_
                  refine go_ldcs kk52_1.2.1.2.2.1 (by decide) (x := 2000007) rfl ?_
                  refine go_callP3 kk52_1.2.1.2.2.2 rfl rfl rfl ⟨by decide, _, rfl, hK0⟩ ⟨Nat.zero_le _, Nat.zero_le _⟩ (by omega) (tfS_isWord (by omega) e4 hK0 ) (fun y50 r51 => ?_)
                  refine go_ifeq kk52_1.2.2.1.1.1 (inR_b r51) (fun c54 => ?_) (fun c55 => ?_)
                  · refine go_aload kk52_1.2.2.2.1.1 rfl ?_
                    refine go_int kk52_1.2.2.2.1.2 1 rfl ?_
                    refine go_callN3 kk52_1.2.2.2.2.1 rfl rfl rfl ⟨by decide, _, rfl, hK0⟩ ⟨Nat.zero_le _, Nat.zero_le _⟩ (by omega) (tfS_fail (by omega) e4 hK0  (inR_b (Or.inr rfl))) (fun y56 g58 r57 e59 => ?_)
                    exact go_bret kk52_1.2.2.2.2.2 e59 r57 ⟨Nat.zero_le _, Nat.zero_le _⟩ rfl
                  · refine go_aload kk52_1.2.2.1.1.2 rfl ?_
                    refine go_callN3 kk52_1.2.2.1.2.1 rfl rfl rfl ⟨by decide, _, rfl, hK0⟩ ⟨Nat.zero_le _, Nat.zero_le _⟩ (by omega) (tfS_takeWill (by omega) e4 hK0 ) (fun y60 g62 r61 e63 => ?_)
                    refine go_goto kk52_1.2.2.1.2.2 ?_
                    exact go_bret kk52_1.2.2.2.2.2 e63 r61 ⟨Nat.zero_le _, Nat.zero_le _⟩ rfl
                · refine go_aload kk52_1.2.1.1.2.1 rfl ?_
                  refine go_callN3 kk52_1.2.1.1.2.2 rfl rfl rfl ⟨by decide, _, rfl, hK0⟩ ⟨Nat.zero_le _, Nat.zero_le _⟩ (by omega) (tfS_takeRefusal (by omega) e4 hK0 ) (fun y64 g66 r65 e67 => ?_)
                  exact go_bret kk52_1.2.1.2.1.1 e67 r65 ⟨Nat.zero_le _, Nat.zero_le _⟩ rfl
              · refine go_aload kk52_1.1.2.2.1.1 rfl ?_
                refine go_callN3 kk52_1.1.2.2.1.2 rfl rfl rfl ⟨by decide, _, rfl, hK0⟩ ⟨Nat.zero_le _, Nat.zero_le _⟩ (by omega) (tfS_takeDuty (by omega) e4 hK0 ) (fun y68 g70 r69 e71 => ?_)
                exact go_bret kk52_1.1.2.2.2.1 e71 r69 ⟨Nat.zero_le _, Nat.zero_le _⟩ rfl
            · refine go_aload kk52_1.1.1.2.1.2 rfl ?_
              refine go_callN3 kk52_1.1.1.2.2.1 rfl rfl rfl ⟨by decide, _, rfl, hK0⟩ ⟨Nat.zero_le _, Nat.zero_le _⟩ (by omega) (tfS_takeHeir (by omega) e4 hK0 ) (fun y72 g74 r73 e75 => ?_)
              exact go_bret kk52_1.1.1.2.2.2 e75 r73 ⟨Nat.zero_le _, Nat.zero_le _⟩ rfl
          · refine go_aload kk52_0.2.2.2.2.2 rfl ?_
            refine go_callN3 kk52_1.1.1.1.1.1.1 rfl rfl rfl ⟨by decide, _, rfl, hK0⟩ ⟨Nat.zero_le _, Nat.zero_le _⟩ (by omega) (tfS_takeProcess (by omega) e4 hK0 ) (fun y76 g78 r77 e79 => ?_)
            exact go_bret kk52_1.1.1.1.1.1.2 e79 r77 ⟨Nat.zero_le _, Nat.zero_le _⟩ rfl
        · refine go_aload kk52_0.2.2.1.1.1 rfl ?_
          refine go_callN3 kk52_0.2.2.1.1.2 rfl rfl rfl ⟨by decide, _, rfl, hK0⟩ ⟨Nat.zero_le _, Nat.zero_le _⟩ (by omega) (tfS_takeRoot (by omega) e4 hK0 ) (fun y80 g82 r81 e83 => ?_)
          exact go_bret kk52_0.2.2.1.2.1 e83 r81 ⟨Nat.zero_le _, Nat.zero_le _⟩ rfl
      · refine go_aload kk52_0.2.1.1.1.2 rfl ?_
        refine go_callN3 kk52_0.2.1.1.2.1 rfl rfl rfl ⟨by decide, _, rfl, hK0⟩ ⟨Nat.zero_le _, Nat.zero_le _⟩ (by omega) (tfS_takeDeep (by omega) e4 hK0 ) (fun y84 g86 r85 e87 => ?_)
        exact go_bret kk52_0.2.1.1.2.2 e87 r85 ⟨Nat.zero_le _, Nat.zero_le _⟩ rfl
    · refine go_aload kk52_0.1.2.1.2.1 rfl ?_
      refine go_callN3 kk52_0.1.2.1.2.2 rfl rfl rfl ⟨by decide, _, rfl, hK0⟩ ⟨Nat.zero_le _, Nat.zero_le _⟩ (by omega) (tfS_takeOrder (by omega) e4 hK0 ) (fun y88 g90 r89 e91 => ?_)
      exact go_bret kk52_0.1.2.2.1.1 e91 r89 ⟨Nat.zero_le _, Nat.zero_le _⟩ rfl
theorem tfP_take {Φ : ev_P} {d : Nat} (hd : 0 ≤ d) {g : gH} (hg : HR g) {v0 v1 : Int} (hK0 : kd v0 = 3) (h1 : RfR v1) : Go Φ pr_P fN 0 (fP_take g v0 v1) d (pr_P 36) 0 (ev_loc (pr_P 36).1 [(sR v0), (sR v1)]) [] g 0 0 := by
  show Go Φ pr_P fN 0 (fP_take g v0 v1) d pr_m36 0 [some (sR v0), some (sR v1)] [] g 0 0
  unfold fP_take
  refine go_aload kk36_0.1.1.1.1.1.1 rfl ?_
  refine go_aload kk36_0.1.1.1.1.1.2 rfl ?_
  refine go_ck (fun q1 => ?_)
  refine go_getI (bI := 1) kk36_0.1.1.1.1.2.1 hg q1 (by decide) rfl rfl (fun r2 => ?_)
  refine go_putI (bI := 1) kk36_0.1.1.1.1.2.2 hg hK0 (by decide) rfl rfl r2 (fun g3 e4 => ?_)
  refine go_aload kk36_0.1.1.1.2.1.1 rfl ?_
  refine go_aload kk36_0.1.1.1.2.1.2 rfl ?_
  refine go_getI (bI := 3) kk36_0.1.1.1.2.2 e4 q1 (by decide) rfl rfl (fun r5 => ?_)
  refine go_putI (bI := 3) kk36_0.1.1.2.1.1.1 e4 hK0 (by decide) rfl rfl r5 (fun g6 e7 => ?_)
  refine go_aload kk36_0.1.1.2.1.1.2 rfl ?_
  refine go_aload kk36_0.1.1.2.1.2.1 rfl ?_
  refine go_getI (bI := 4) kk36_0.1.1.2.1.2.2 e7 q1 (by decide) rfl rfl (fun r8 => ?_)
  refine go_putI (bI := 4) kk36_0.1.1.2.2.1.1 e7 hK0 (by decide) rfl rfl r8 (fun g9 e10 => ?_)
  refine go_aload kk36_0.1.1.2.2.1.2 rfl ?_
  refine go_aload kk36_0.1.1.2.2.2 rfl ?_
  refine go_getI (bI := 5) kk36_0.1.2.1.1.1.1 e10 q1 (by decide) rfl rfl (fun r11 => ?_)
  refine go_putI (bI := 5) kk36_0.1.2.1.1.1.2 e10 hK0 (by decide) rfl rfl r11 (fun g12 e13 => ?_)
  refine go_aload kk36_0.1.2.1.1.2.1 rfl ?_
  refine go_aload kk36_0.1.2.1.1.2.2 rfl ?_
  refine go_getI (bI := 6) kk36_0.1.2.1.2.1.1 e13 q1 (by decide) rfl rfl (fun r14 => ?_)
  refine go_putI (bI := 6) kk36_0.1.2.1.2.1.2 e13 hK0 (by decide) rfl rfl r14 (fun g15 e16 => ?_)
  refine go_aload kk36_0.1.2.1.2.2 rfl ?_
  refine go_aload kk36_0.1.2.2.1.1.1 rfl ?_
  refine go_getI (bI := 7) kk36_0.1.2.2.1.1.2 e16 q1 (by decide) rfl rfl (fun r17 => ?_)
  refine go_putI (bI := 7) kk36_0.1.2.2.1.2 e16 hK0 (by decide) rfl rfl r17 (fun g18 e19 => ?_)
  refine go_aload kk36_0.1.2.2.2.1.1 rfl ?_
  refine go_aload kk36_0.1.2.2.2.1.2 rfl ?_
  refine go_getI (bI := 8) kk36_0.1.2.2.2.2 e19 q1 (by decide) rfl rfl (fun r20 => ?_)
  refine go_putI (bI := 8) kk36_0.2.1.1.1.1.1 e19 hK0 (by decide) rfl rfl r20 (fun g21 e22 => ?_)
  refine go_aload kk36_0.2.1.1.1.1.2 rfl ?_
  refine go_aload kk36_0.2.1.1.1.2.1 rfl ?_
  refine go_getI (bI := 9) kk36_0.2.1.1.1.2.2 e22 q1 (by decide) rfl rfl (fun r23 => ?_)
  refine go_putI (bI := 9) kk36_0.2.1.1.2.1.1 e22 hK0 (by decide) rfl rfl r23 (fun g24 e25 => ?_)
  refine go_aload kk36_0.2.1.1.2.1.2 rfl ?_
  refine go_aload kk36_0.2.1.1.2.2 rfl ?_
  refine go_getI (bI := 10) kk36_0.2.1.2.1.1.1 e25 q1 (by decide) rfl rfl (fun r26 => ?_)
  refine go_putI (bI := 10) kk36_0.2.1.2.1.1.2 e25 hK0 (by decide) rfl rfl r26 (fun g27 e28 => ?_)
  refine go_aload kk36_0.2.1.2.1.2 rfl ?_
  refine go_aload kk36_0.2.1.2.2.1.1 rfl ?_
  refine go_getI (bI := 11) kk36_0.2.1.2.2.1.2 e28 q1 (by decide) rfl rfl (fun r29 => ?_)
  refine go_putI (bI := 11) kk36_0.2.1.2.2.2 e28 hK0 (by decide) rfl rfl r29 (fun g30 e31 => ?_)
  refine go_aload kk36_0.2.2.1.1.1.1 rfl ?_
  refine go_aload kk36_0.2.2.1.1.1.2 rfl ?_
  refine go_getI (bI := 12) kk36_0.2.2.1.1.2.1 e31 q1 (by decide) rfl rfl (fun r32 => ?_)
  refine go_putI (bI := 12) kk36_0.2.2.1.1.2.2 e31 hK0 (by decide) rfl rfl r32 (fun g33 e34 => ?_)
  refine go_aload kk36_0.2.2.1.2.1.1 rfl ?_
  refine go_aload kk36_0.2.2.1.2.1.2 rfl ?_
  refine go_getB (bI := 13) kk36_0.2.2.1.2.2 e34 q1 (by decide) rfl rfl (fun r35 => ?_)
  refine go_putB (bI := 13) kk36_0.2.2.2.1.1.1 e34 hK0 (by decide) rfl rfl r35 (fun g36 e37 => ?_)
  refine go_aload kk36_0.2.2.2.1.1.2 rfl ?_
  refine go_aload kk36_0.2.2.2.1.2 rfl ?_
  refine go_getL (bI := 14) kk36_0.2.2.2.2.1.1 e37 q1 (by decide) rfl rfl (fun r38 => ?_)
  refine go_putL (bI := 14) kk36_0.2.2.2.2.1.2 e37 hK0 (by decide) rfl rfl r38 (fun g39 e40 => ?_)
  exact go_vret kk36_0.2.2.2.2.2 e40 ⟨Nat.zero_le _, Nat.zero_le _⟩ rfl
theorem tjT_take_70 {Φ : ev_P} {d : Nat} (hd : 1 ≤ d) {g : gH} (hg : HR g) {v0 v1 : Int} (hK0 : kd v0 = 5) (h1 : RfR v1) (u2 : Option ev_V) (w2 : nwo u2) (u3 : Option ev_V) (w3 : nwo u3) : Go Φ pr_P fN 0 (jT_take_70 g v0 v1 ) d pr_m74 70 [some (sR v0), some (sR v1), u2, u3] [] g 0 0 := by
  unfold jT_take_70
  refine go_aload kk74_1.1.1.1.1.1.1 rfl ?_
  refine go_ck (fun q39 => ?_)
  refine go_getR (bI := 2) kk74_1.1.1.1.1.1.2 hg q39 (by decide) rfl rfl (fun r40 => ?_)
  refine go_int kk74_1.1.1.1.1.2 0 rfl ?_
  refine go_aload kk74_1.1.1.1.2.1 rfl ?_
  refine go_getR (bI := 2) kk74_1.1.1.1.2.2 hg hK0 (by decide) rfl rfl (fun r41 => ?_)
  refine go_int kk74_1.1.1.2.1.1.1 0 rfl ?_
  refine go_int kk74_1.1.1.2.1.1.2 8 rfl ?_
  refine go_ck (fun q42 => ?_)
  refine go_copy kk74_1.1.1.2.1.2 hg q42.1 r40 r41 q42.2 rfl (fun g43 e44 => ?_)
  refine go_aload kk74_1.1.1.2.2.1 rfl ?_
  refine go_getR (bI := 3) kk74_1.1.1.2.2.2 e44 q39 (by decide) rfl rfl (fun r45 => ?_)
  refine go_int kk74_1.1.2.1.1.1.1 0 rfl ?_
  refine go_aload kk74_1.1.2.1.1.1.2 rfl ?_
  refine go_getR (bI := 3) kk74_1.1.2.1.1.2 e44 hK0 (by decide) rfl rfl (fun r46 => ?_)
  refine go_int kk74_1.1.2.1.2.1 0 rfl ?_
  refine go_int kk74_1.1.2.1.2.2 5 rfl ?_
  refine go_ck (fun q47 => ?_)
  refine go_copy kk74_1.1.2.2.1.1 e44 q47.1 r45 r46 q47.2 rfl (fun g48 e49 => ?_)
  refine go_aload kk74_1.1.2.2.1.2 rfl ?_
  refine go_aload kk74_1.1.2.2.2.1 rfl ?_
  refine go_getI (bI := 4) kk74_1.1.2.2.2.2 e49 q39 (by decide) rfl rfl (fun r50 => ?_)
  refine go_putI (bI := 4) kk74_1.2.1.1.1.1.1 e49 hK0 (by decide) rfl rfl r50 (fun g51 e52 => ?_)
  refine go_aload kk74_1.2.1.1.1.1.2 rfl ?_
  refine go_aload kk74_1.2.1.1.1.2 rfl ?_
  refine go_getI (bI := 6) kk74_1.2.1.1.2.1 e52 q39 (by decide) rfl rfl (fun r53 => ?_)
  refine go_putI (bI := 6) kk74_1.2.1.1.2.2 e52 hK0 (by decide) rfl rfl r53 (fun g54 e55 => ?_)
  refine go_aload kk74_1.2.1.2.1.1 rfl ?_
  refine go_aload kk74_1.2.1.2.1.2 rfl ?_
  refine go_getI (bI := 7) kk74_1.2.1.2.2.1 e55 q39 (by decide) rfl rfl (fun r56 => ?_)
  refine go_putI (bI := 7) kk74_1.2.1.2.2.2 e55 hK0 (by decide) rfl rfl r56 (fun g57 e58 => ?_)
  refine go_aload kk74_1.2.2.1.1.1.1 rfl ?_
  refine go_aload kk74_1.2.2.1.1.1.2 rfl ?_
  refine go_getI (bI := 8) kk74_1.2.2.1.1.2 e58 q39 (by decide) rfl rfl (fun r59 => ?_)
  refine go_putI (bI := 8) kk74_1.2.2.1.2.1 e58 hK0 (by decide) rfl rfl r59 (fun g60 e61 => ?_)
  refine go_aload kk74_1.2.2.1.2.2 rfl ?_
  refine go_aload kk74_1.2.2.2.1.1 rfl ?_
  refine go_getI (bI := 9) kk74_1.2.2.2.1.2 e61 q39 (by decide) rfl rfl (fun r62 => ?_)
  refine go_putI (bI := 9) kk74_1.2.2.2.2.1 e61 hK0 (by decide) rfl rfl r62 (fun g63 e64 => ?_)
  exact go_vret kk74_1.2.2.2.2.2 e64 ⟨Nat.zero_le _, Nat.zero_le _⟩ rfl
theorem tbT_take_10 {Φ : ev_P} {d : Nat} (hd : 1 ≤ d) {v0 v1 : Int} (hK0 : kd v0 = 5) (h1 : RfR v1) {X10 : Int → gH → Option (Int × gH)} (HX10 : ∀ (v2 : Int) (h2 : InR v2) (g : gH) (hg : HR g) (u3 : Option ev_V) (w3 : nwo u3), Go Φ pr_P fN 0 (X10 v2 g) d pr_m74 10 [some (sR v0), some (sR v1), some (sI v2), u3] [] g 0 0) : ∀ (v2 : Int) (h2 : InR v2) (g : gH) (hg : HR g) (u3 : Option ev_V) (w3 : nwo u3), Go Φ pr_P fN 0 (bT_take_10 v0 v1 X10 v2 g) d pr_m74 10 [some (sR v0), some (sR v1), some (sI v2), u3] [] g 0 0 := by
  intro v2 h2 g hg u3 w3
  unfold bT_take_10
  refine go_iload kk74_0.1.1.2.1.1.2 rfl ?_
  refine go_int kk74_0.1.1.2.1.2 40 rfl ?_
  refine go_cmlt kk74_0.1.1.2.2.1 h2 (inR_of (by decide)) (fun c5 => ?_) (fun c6 => ?_)
  · refine go_aload kk74_0.1.1.2.2.2 rfl ?_
    refine go_ck (fun q7 => ?_)
    refine go_getR (bI := 1) kk74_0.1.2.1.1.1.1 hg q7 (by decide) rfl rfl (fun r8 => ?_)
    refine go_iload kk74_0.1.2.1.1.1.2 rfl ?_
    refine go_ck (fun q10 => ?_)
    refine go_pald kk74_0.1.2.1.1.2 hg q10 (fun r9 => ?_)
    refine go_astore kk74_0.1.2.1.2.1 rfl (loc2 := [some (sR v0), some (sR v1), some (sI v2), some (sR (g (g v1 1) v2))]) rfl ?_
    refine go_aload kk74_0.1.2.1.2.2 rfl ?_
    refine go_getR (bI := 1) kk74_0.1.2.2.1.1 hg hK0 (by decide) rfl rfl (fun r11 => ?_)
    refine go_iload kk74_0.1.2.2.1.2 rfl ?_
    refine go_ck (fun q13 => ?_)
    refine go_pald kk74_0.1.2.2.2.1 hg q13 (fun r12 => ?_)
    refine go_aload kk74_0.1.2.2.2.2 rfl ?_
    refine go_ck (fun q14 => ?_)
    refine go_callN0 kk74_0.2.1.1.1.1.1 rfl rfl rfl ⟨by decide, _, rfl, q14⟩ ⟨Nat.zero_le _, Nat.zero_le _⟩ (by omega) (tfP_take (by omega) hg q14  r9) (fun y15 g17 e18 => ?_)
    refine go_aload kk74_0.2.1.1.1.1.2 rfl ?_
    refine go_getR (bI := 1) kk74_0.2.1.1.1.2 e18 hK0 (by decide) rfl rfl (fun r19 => ?_)
    refine go_iload kk74_0.2.1.1.2.1 rfl ?_
    refine go_ck (fun q21 => ?_)
    refine go_pald kk74_0.2.1.1.2.2 e18 q21 (fun r20 => ?_)
    refine go_aload kk74_0.2.1.2.1.1 rfl ?_
    refine go_ck (fun q22 => ?_)
    refine go_getR (bI := 2) kk74_0.2.1.2.1.2 e18 q22 (by decide) rfl rfl (fun r23 => ?_)
    refine go_isnull kk74_0.2.1.2.2.1  (fun c24 => ?_) (fun c25 => ?_)
    · refine go_null kk74_0.2.1.2.2.2 ?_
      refine go_goto kk74_0.2.2.1.1.1.1 ?_
      refine go_ck (fun q26 => ?_)
      refine go_putR (bI := 2) kk74_0.2.2.2.1.2 e18 q26 (by decide) rfl rfl rfR_null (fun g27 e28 => ?_)
      refine go_iinc kk74_0.2.2.2.2.1 rfl rfl 1 rfl (loc2 := [some (sR v0), some (sR v1), some (sI (w32 (v2 + 1))), some (sR (g (g v1 1) v2))]) rfl ?_
      refine go_goto kk74_0.2.2.2.2.2 ?_
      exact HX10 (w32 (v2 + 1)) (inR_w32 _) g27 e28 (some (sR (g (g v1 1) v2))) rfl
    · refine go_aload kk74_0.2.2.1.1.1.2 rfl ?_
      refine go_aload kk74_0.2.2.1.1.2 rfl ?_
      refine go_getR (bI := 2) kk74_0.2.2.1.2.1 e18 q22 (by decide) rfl rfl (fun r29 => ?_)
      refine go_ck (fun q30 => ?_)
      refine go_getI (bI := 0) kk74_0.2.2.1.2.2 e18 q30 (by decide) rfl rfl (fun r31 => ?_)
      refine go_callP2 kk74_0.2.2.2.1.1 rfl rfl rfl ⟨by decide, _, rfl, hK0⟩ ⟨Nat.zero_le _, Nat.zero_le _⟩ (by omega) (tfT_at (by omega) e18 hK0  r31) (fun y32 r33 => ?_)
      refine go_ck (fun q36 => ?_)
      refine go_putR (bI := 2) kk74_0.2.2.2.1.2 e18 q36 (by decide) rfl rfl r33 (fun g37 e38 => ?_)
      refine go_iinc kk74_0.2.2.2.2.1 rfl rfl 1 rfl (loc2 := [some (sR v0), some (sR v1), some (sI (w32 (v2 + 1))), some (sR (g (g v1 1) v2))]) rfl ?_
      refine go_goto kk74_0.2.2.2.2.2 ?_
      exact HX10 (w32 (v2 + 1)) (inR_w32 _) g37 e38 (some (sR (g (g v1 1) v2))) rfl
  · exact tjT_take_70 hd hg hK0 h1 (some (sI v2)) rfl u3 w3
theorem tlT_take_10 {Φ : ev_P} {d : Nat} (hd : 1 ≤ d) {v0 v1 : Int} (hK0 : kd v0 = 5) (h1 : RfR v1) : ∀ n : Nat, ∀ (v2 : Int) (h2 : InR v2) (g : gH) (hg : HR g) (u3 : Option ev_V) (w3 : nwo u3), Go Φ pr_P fN 0 (lT_take_10 v0 v1 n v2 g) d pr_m74 10 [some (sR v0), some (sR v1), some (sI v2), u3] [] g 0 0 := by
  intro n
  induction n with
  | zero => intros; exact go_none
  | succ n ih => exact tbT_take_10 hd hK0 h1 ih
theorem tfT_take {Φ : ev_P} {d : Nat} (hd : 1 ≤ d) {g : gH} (hg : HR g) {v0 v1 : Int} (hK0 : kd v0 = 5) (h1 : RfR v1) : Go Φ pr_P fN 0 (fT_take g v0 v1) d (pr_P 74) 0 (ev_loc (pr_P 74).1 [(sR v0), (sR v1)]) [] g 0 0 := by
  show Go Φ pr_P fN 0 (fT_take g v0 v1) d pr_m74 0 [some (sR v0), some (sR v1), none, none] [] g 0 0
  unfold fT_take
  refine go_aload kk74_0.1.1.1.1.1.1 rfl ?_
  refine go_aload kk74_0.1.1.1.1.1.2 rfl ?_
  refine go_ck (fun q1 => ?_)
  refine go_getI (bI := 5) kk74_0.1.1.1.1.2 hg q1 (by decide) rfl rfl (fun r2 => ?_)
  refine go_putI (bI := 5) kk74_0.1.1.1.2.1 hg hK0 (by decide) rfl rfl r2 (fun g3 e4 => ?_)
  refine go_int kk74_0.1.1.1.2.2 0 rfl ?_
  refine go_istore kk74_0.1.1.2.1.1.1 rfl (loc2 := [some (sR v0), some (sR v1), some (sI 0), none]) rfl ?_
  exact tlT_take_10 hd hK0 h1 fu 0 (inR_b (Or.inl rfl)) g3 e4 none rfl
theorem tjC_loadTree_36 {Φ : ev_P} {d : Nat} (hd : 6 ≤ d) {g : gH} (hg : HR g) {v0 : Int} (hK0 : kd v0 = 6) (u1 : Option ev_V) (w1 : nwo u1) (u2 : Option ev_V) (w2 : nwo u2) : Go Φ pr_P fN 1 (jC_loadTree_36 g v0 ) d pr_m3 36 [some (sR v0), u1, u2] [] g 0 0 := by
  unfold jC_loadTree_36
  refine go_aload kk3_0.1.2.1.2.2 rfl ?_
  refine go_getR (bI := 4) kk3_0.1.2.2.1.1.1 hg hK0 (by decide) rfl rfl (fun r17 => ?_)
  refine go_ck (fun q18 => ?_)
  refine go_getR (bI := 0) kk3_0.1.2.2.1.1.2 hg q18 (by decide) rfl rfl (fun r19 => ?_)
  refine go_int kk3_0.1.2.2.1.2 0 rfl ?_
  refine go_ck (fun q20 => ?_)
  refine go_putI (bI := 1) kk3_0.1.2.2.2.1.1 hg q20 (by decide) rfl rfl (inR_b (Or.inl rfl)) (fun g21 e22 => ?_)
  refine go_aload kk3_0.1.2.2.2.1.2 rfl ?_
  refine go_getR (bI := 4) kk3_0.1.2.2.2.2 e22 hK0 (by decide) rfl rfl (fun r23 => ?_)
  refine go_ck (fun q24 => ?_)
  refine go_getI (bI := 2) kk3_0.2.1.1.1.1.1 e22 q24 (by decide) rfl rfl (fun r25 => ?_)
  refine go_ifeq kk3_0.2.1.1.1.1.2 r25 (fun c26 => ?_) (fun c27 => ?_)
  · refine go_aload kk3_0.2.1.1.2.1.1 rfl ?_
    refine go_getR (bI := 0) kk3_0.2.1.1.2.1.2 e22 hK0 (by decide) rfl rfl (fun r28 => ?_)
    refine go_aload kk3_0.2.1.1.2.2 rfl ?_
    refine go_getR (bI := 4) kk3_0.2.1.2.1.1.1 e22 hK0 (by decide) rfl rfl (fun r29 => ?_)
    refine go_getR (bI := 1) kk3_0.2.1.2.1.1.2 e22 q24 (by decide) rfl rfl (fun r30 => ?_)
    refine go_ck (fun q31 => ?_)
    refine go_callN0 kk3_0.2.1.2.1.2 rfl rfl rfl ⟨by decide, _, rfl, q31⟩ ⟨Nat.zero_le _, Nat.zero_le _⟩ (by omega) (tfT_take (by omega) e22 q31  r30) (fun y32 g34 e35 => ?_)
    refine go_aload kk3_0.2.1.2.2.1.1 rfl ?_
    refine go_getR (bI := 3) kk3_0.2.1.2.2.1.2 e35 hK0 (by decide) rfl rfl (fun r36 => ?_)
    refine go_int kk3_0.2.1.2.2.2 0 rfl ?_
    refine go_ck (fun q37 => ?_)
    refine go_putI (bI := 1) kk3_0.2.2.1.1.1.1 e35 q37 (by decide) rfl rfl (inR_b (Or.inl rfl)) (fun g38 e39 => ?_)
    refine go_aload kk3_0.2.2.1.1.1.2 rfl ?_
    refine go_int kk3_0.2.2.1.1.2 0 rfl ?_
    refine go_putB (bI := 6) kk3_0.2.2.1.2.1.1 e39 hK0 (by decide) rfl rfl (Or.inl rfl) (fun g40 e41 => ?_)
    refine go_aload kk3_0.2.2.1.2.1.2 rfl ?_
    refine go_getR (bI := 5) kk3_0.2.2.1.2.2 e41 hK0 (by decide) rfl rfl (fun r42 => ?_)
    refine go_int kk3_0.2.2.2.1.1.1 0 rfl ?_
    refine go_ck (fun q43 => ?_)
    refine go_putI (bI := 1) kk3_0.2.2.2.1.1.2 e41 q43 (by decide) rfl rfl (inR_b (Or.inl rfl)) (fun g44 e45 => ?_)
    refine go_aload kk3_0.2.2.2.1.2 rfl ?_
    refine go_getR (bI := 0) kk3_0.2.2.2.2.1.1 e45 hK0 (by decide) rfl rfl (fun r46 => ?_)
    refine go_ck (fun q47 => ?_)
    refine go_getI (bI := 5) kk3_0.2.2.2.2.1.2 e45 q47 (by decide) rfl rfl (fun r48 => ?_)
    exact go_iret kk3_0.2.2.2.2.2 e45 r48 ⟨Nat.zero_le _, Nat.zero_le _⟩ rfl
  · refine go_int kk3_0.2.1.1.1.2.1 (-1) rfl ?_
    exact go_iret kk3_0.2.1.1.1.2.2 e22 (inR_of (by decide)) ⟨Nat.zero_le _, Nat.zero_le _⟩ rfl
theorem tbC_loadTree_11 {Φ : ev_P} {d : Nat} (hd : 6 ≤ d) {v0 : Int} (hK0 : kd v0 = 6) {X11 : Int → Int → gH → Option (Int × gH)} (HX11 : ∀ (v1 : Int) (h1 : B01 v1) (v2 : Int) (h2 : InR v2) (g : gH) (hg : HR g), Go Φ pr_P fN 1 (X11 v1 v2 g) d pr_m3 11 [some (sR v0), some (sI v1), some (sI v2)] [] g 0 0) : ∀ (v1 : Int) (h1 : B01 v1) (v2 : Int) (h2 : InR v2) (g : gH) (hg : HR g), Go Φ pr_P fN 1 (bC_loadTree_11 v0 X11 v1 v2 g) d pr_m3 11 [some (sR v0), some (sI v1), some (sI v2)] [] g 0 0 := by
  intro v1 h1 v2 h2 g hg
  unfold bC_loadTree_11
  refine go_iload kk3_0.1.1.2.1.1.1 rfl ?_
  refine go_int kk3_0.1.1.2.1.1.2 500 rfl ?_
  refine go_cmlt kk3_0.1.1.2.1.2 h2 (inR_of (by decide)) (fun c7 => ?_) (fun c8 => ?_)
  · refine go_iload kk3_0.1.1.2.2.1.1 rfl ?_
    refine go_ifeq kk3_0.1.1.2.2.1.2 (inR_b h1) (fun c9 => ?_) (fun c10 => ?_)
    · exact tjC_loadTree_36 hd hg hK0 (some (sI v1)) rfl (some (sI v2)) rfl
    · refine go_aload kk3_0.1.1.2.2.2 rfl ?_
      refine go_getR (bI := 4) kk3_0.1.2.1.1.1.1 hg hK0 (by decide) rfl rfl (fun r11 => ?_)
      refine go_ck (fun q12 => ?_)
      refine go_callN3 kk3_0.1.2.1.1.1.2 rfl rfl rfl ⟨by decide, _, rfl, q12⟩ ⟨Nat.zero_le _, Nat.zero_le _⟩ (by omega) (tfS_takeStatement (by omega) hg q12 ) (fun y13 g15 r14 e16 => ?_)
      refine go_istore kk3_0.1.2.1.1.2 rfl (loc2 := [some (sR v0), some (sI y13), some (sI v2)]) rfl ?_
      refine go_iinc kk3_0.1.2.1.2.1.1 rfl rfl 1 rfl (loc2 := [some (sR v0), some (sI y13), some (sI (w32 (v2 + 1)))]) rfl ?_
      refine go_goto kk3_0.1.2.1.2.1.2 ?_
      exact HX11 y13 r14 (w32 (v2 + 1)) (inR_w32 _) g15 e16
  · exact tjC_loadTree_36 hd hg hK0 (some (sI v1)) rfl (some (sI v2)) rfl
theorem tlC_loadTree_11 {Φ : ev_P} {d : Nat} (hd : 6 ≤ d) {v0 : Int} (hK0 : kd v0 = 6) : ∀ n : Nat, ∀ (v1 : Int) (h1 : B01 v1) (v2 : Int) (h2 : InR v2) (g : gH) (hg : HR g), Go Φ pr_P fN 1 (lC_loadTree_11 v0 n v1 v2 g) d pr_m3 11 [some (sR v0), some (sI v1), some (sI v2)] [] g 0 0 := by
  intro n
  induction n with
  | zero => intros; exact go_none
  | succ n ih => exact tbC_loadTree_11 hd hK0 ih
theorem tfC_loadTree {Φ : ev_P} {d : Nat} (hd : 6 ≤ d) {g : gH} (hg : HR g) {v0 : Int} (hK0 : kd v0 = 6) : Go Φ pr_P fN 1 (fC_loadTree g v0) d (pr_P 3) 0 (ev_loc (pr_P 3).1 [(sR v0)]) [] g 0 0 := by
  show Go Φ pr_P fN 1 (fC_loadTree g v0) d pr_m3 0 [some (sR v0), none, none] [] g 0 0
  unfold fC_loadTree
  refine go_aload kk3_0.1.1.1.1.1.1 rfl ?_
  refine go_getR (bI := 4) kk3_0.1.1.1.1.1.2 hg hK0 (by decide) rfl rfl (fun r1 => ?_)
  refine go_ck (fun q2 => ?_)
  refine go_callN0 kk3_0.1.1.1.1.2.1 rfl rfl rfl ⟨by decide, _, rfl, q2⟩ ⟨Nat.zero_le _, Nat.zero_le _⟩ (by omega) (tfS_begin (by omega) hg q2 ) (fun y3 g5 e6 => ?_)
  refine go_int kk3_0.1.1.1.1.2.2 1 rfl ?_
  refine go_istore kk3_0.1.1.1.2.1.1 rfl (loc2 := [some (sR v0), some (sI 1), none]) rfl ?_
  refine go_int kk3_0.1.1.1.2.1.2 0 rfl ?_
  refine go_istore kk3_0.1.1.1.2.2 rfl (loc2 := [some (sR v0), some (sI 1), some (sI 0)]) rfl ?_
  exact tlC_loadTree_11 hd hK0 fu 1 (Or.inr rfl) 0 (inR_b (Or.inl rfl)) g5 e6
theorem tbT_countInState_14 {Φ : ev_P} {d : Nat} (hd : 0 ≤ d) {g : gH} (hg : HR g) {v1 v3 v4 : Int} (h1 : InR v1) (h3 : RfR v3) (h4 : InR v4) {X14 : Int → Int → Option Int} (HX14 : ∀ (v2 : Int) (h2 : InR v2) (v5 : Int) (h5 : InR v5) (u0 : Option ev_V) (w0 : nwo u0) (u6 : Option ev_V) (w6 : nwo u6), Go Φ pr_P (fP g) 1 (X14 v2 v5) d pr_m76 14 [u0, some (sI v1), some (sI v2), some (sR v3), some (sI v4), some (sI v5), u6] [] g 0 0) : ∀ (v2 : Int) (h2 : InR v2) (v5 : Int) (h5 : InR v5) (u0 : Option ev_V) (w0 : nwo u0) (u6 : Option ev_V) (w6 : nwo u6), Go Φ pr_P (fP g) 1 (bT_countInState_14 g v1 v3 v4 X14 v2 v5) d pr_m76 14 [u0, some (sI v1), some (sI v2), some (sR v3), some (sI v4), some (sI v5), u6] [] g 0 0 := by
  intro v2 h2 v5 h5 u0 w0 u6 w6
  unfold bT_countInState_14
  refine go_iload kk76_0.1.2.2.1.1 rfl ?_
  refine go_iload kk76_0.1.2.2.1.2 rfl ?_
  refine go_cmlt kk76_0.1.2.2.2 h5 h4 (fun c4 => ?_) (fun c5 => ?_)
  · refine go_aload kk76_0.2.1.1.1.1 rfl ?_
    refine go_iload kk76_0.2.1.1.1.2 rfl ?_
    refine go_ck (fun q7 => ?_)
    refine go_pald kk76_0.2.1.1.2.1 hg q7 (fun r6 => ?_)
    refine go_astore kk76_0.2.1.1.2.2 rfl (loc2 := [u0, some (sI v1), some (sI v2), some (sR v3), some (sI v4), some (sI v5), some (sR (g v3 v5))]) rfl ?_
    refine go_aload kk76_0.2.1.2.1.1 rfl ?_
    refine go_ck (fun q8 => ?_)
    refine go_getI (bI := 1) kk76_0.2.1.2.1.2 hg q8 (by decide) rfl rfl (fun r9 => ?_)
    refine go_iload kk76_0.2.1.2.2 rfl ?_
    refine go_cmeq kk76_0.2.2.1.1.1 r9 h1 (fun c10 => ?_) (fun c11 => ?_)
    · refine go_iinc kk76_0.2.2.1.1.2 rfl rfl 1 rfl (loc2 := [u0, some (sI v1), some (sI (w32 (v2 + 1))), some (sR v3), some (sI v4), some (sI v5), some (sR (g v3 v5))]) rfl ?_
      refine go_iinc kk76_0.2.2.1.2 rfl rfl 1 rfl (loc2 := [u0, some (sI v1), some (sI (w32 (v2 + 1))), some (sR v3), some (sI v4), some (sI (w32 (v5 + 1))), some (sR (g v3 v5))]) rfl ?_
      refine go_goto kk76_0.2.2.2.1.1 ?_
      exact HX14 (w32 (v2 + 1)) (inR_w32 _) (w32 (v5 + 1)) (inR_w32 _) u0 w0 (some (sR (g v3 v5))) rfl
    · refine go_iinc kk76_0.2.2.1.2 rfl rfl 1 rfl (loc2 := [u0, some (sI v1), some (sI v2), some (sR v3), some (sI v4), some (sI (w32 (v5 + 1))), some (sR (g v3 v5))]) rfl ?_
      refine go_goto kk76_0.2.2.2.1.1 ?_
      exact HX14 v2 h2 (w32 (v5 + 1)) (inR_w32 _) u0 w0 (some (sR (g v3 v5))) rfl
  · refine go_iload kk76_0.2.2.2.1.2 rfl ?_
    exact go_iret kk76_0.2.2.2.2 hg h2 ⟨Nat.zero_le _, Nat.zero_le _⟩ rfl
theorem tlT_countInState_14 {Φ : ev_P} {d : Nat} (hd : 0 ≤ d) {g : gH} (hg : HR g) {v1 v3 v4 : Int} (h1 : InR v1) (h3 : RfR v3) (h4 : InR v4) : ∀ n : Nat, ∀ (v2 : Int) (h2 : InR v2) (v5 : Int) (h5 : InR v5) (u0 : Option ev_V) (w0 : nwo u0) (u6 : Option ev_V) (w6 : nwo u6), Go Φ pr_P (fP g) 1 (lT_countInState_14 g v1 v3 v4 n v2 v5) d pr_m76 14 [u0, some (sI v1), some (sI v2), some (sR v3), some (sI v4), some (sI v5), u6] [] g 0 0 := by
  intro n
  induction n with
  | zero => intros; exact go_none
  | succ n ih => exact tbT_countInState_14 hd hg h1 h3 h4 ih
theorem tfT_countInState {Φ : ev_P} {d : Nat} (hd : 0 ≤ d) {g : gH} (hg : HR g) {v0 v1 : Int} (hK0 : kd v0 = 5) (h1 : InR v1) : Go Φ pr_P (fP g) 1 (fT_countInState g v0 v1) d (pr_P 76) 0 (ev_loc (pr_P 76).1 [(sR v0), (sI v1)]) [] g 0 0 := by
  show Go Φ pr_P (fP g) 1 (fT_countInState g v0 v1) d pr_m76 0 [some (sR v0), some (sI v1), none, none, none, none, none] [] g 0 0
  unfold fT_countInState
  refine go_int kk76_0.1.1.1.1.1 0 rfl ?_
  refine go_istore kk76_0.1.1.1.1.2 rfl (loc2 := [some (sR v0), some (sI v1), some (sI 0), none, none, none, none]) rfl ?_
  refine go_aload kk76_0.1.1.1.2.1 rfl ?_
  refine go_getR (bI := 1) kk76_0.1.1.1.2.2 hg hK0 (by decide) rfl rfl (fun r1 => ?_)
  refine go_astore kk76_0.1.1.2.1.1 rfl (loc2 := [some (sR v0), some (sI v1), some (sI 0), some (sR (g v0 1)), none, none, none]) rfl ?_
  refine go_aload kk76_0.1.1.2.1.2 rfl ?_
  refine go_ck (fun q3 => ?_)
  refine go_alen kk76_0.1.1.2.2 (ka_24 q3) r1 (fun r2 => ?_)
  refine go_istore kk76_0.1.2.1.1.1 rfl (loc2 := [some (sR v0), some (sI v1), some (sI 0), some (sR (g v0 1)), some (sI (sz (g v0 1))), none, none]) rfl ?_
  refine go_int kk76_0.1.2.1.1.2 0 rfl ?_
  refine go_istore kk76_0.1.2.1.2 rfl (loc2 := [some (sR v0), some (sI v1), some (sI 0), some (sR (g v0 1)), some (sI (sz (g v0 1))), some (sI 0), none]) rfl ?_
  exact tlT_countInState_14 hd hg h1 r1 r2 fu 0 (inR_b (Or.inl rfl)) 0 (inR_b (Or.inl rfl)) (some (sR v0)) rfl none rfl
theorem tbT_dutiesOf_4 {Φ : ev_P} {d : Nat} (hd : 0 ≤ d) {g : gH} (hg : HR g) {v0 v1 : Int} (hK0 : kd v0 = 5) (h1 : RfR v1) {X4 : Int → Int → Option Int} (HX4 : ∀ (v2 : Int) (h2 : InR v2) (v3 : Int) (h3 : InR v3), Go Φ pr_P (fP g) 1 (X4 v2 v3) d pr_m80 4 [some (sR v0), some (sR v1), some (sI v2), some (sI v3)] [] g 0 0) : ∀ (v2 : Int) (h2 : InR v2) (v3 : Int) (h3 : InR v3), Go Φ pr_P (fP g) 1 (bT_dutiesOf_4 g v0 v1 X4 v2 v3) d pr_m80 4 [some (sR v0), some (sR v1), some (sI v2), some (sI v3)] [] g 0 0 := by
  intro v2 h2 v3 h3
  unfold bT_dutiesOf_4
  refine go_iload kk80_0.1.1.2.1.2 rfl ?_
  refine go_int kk80_0.1.1.2.2 8 rfl ?_
  refine go_cmlt kk80_0.1.2.1.1.1 h3 (inR_of (by decide)) (fun c1 => ?_) (fun c2 => ?_)
  · refine go_aload kk80_0.1.2.1.1.2 rfl ?_
    refine go_getR (bI := 2) kk80_0.1.2.1.2 hg hK0 (by decide) rfl rfl (fun r3 => ?_)
    refine go_iload kk80_0.1.2.2.1.1 rfl ?_
    refine go_ck (fun q5 => ?_)
    refine go_iald kk80_0.1.2.2.1.2 hg q5 r3 (fun r4 => ?_)
    refine go_aload kk80_0.1.2.2.2 rfl ?_
    refine go_ck (fun q6 => ?_)
    refine go_getI (bI := 0) kk80_0.2.1.1.1.1 hg q6 (by decide) rfl rfl (fun r7 => ?_)
    refine go_cmeq kk80_0.2.1.1.1.2 r4 r7 (fun c8 => ?_) (fun c9 => ?_)
    · refine go_iload kk80_0.2.1.1.2 rfl ?_
      refine go_int kk80_0.2.1.2.1.1 1 rfl ?_
      refine go_iload kk80_0.2.1.2.1.2 rfl ?_
      refine go_ibin kk80_0.2.1.2.2 ?_
      refine go_ibin kk80_0.2.2.1.1.1 ?_
      refine go_istore kk80_0.2.2.1.1.2 rfl (loc2 := [some (sR v0), some (sR v1), some (sI (opI 2 v2 (opI 4 1 v3))), some (sI v3)]) rfl ?_
      refine go_iinc kk80_0.2.2.1.2 rfl rfl 1 rfl (loc2 := [some (sR v0), some (sR v1), some (sI (opI 2 v2 (opI 4 1 v3))), some (sI (w32 (v3 + 1)))]) rfl ?_
      refine go_goto kk80_0.2.2.2.1.1 ?_
      exact HX4 (opI 2 v2 (opI 4 1 v3)) (inR_opI _ _ _) (w32 (v3 + 1)) (inR_w32 _)
    · refine go_iinc kk80_0.2.2.1.2 rfl rfl 1 rfl (loc2 := [some (sR v0), some (sR v1), some (sI v2), some (sI (w32 (v3 + 1)))]) rfl ?_
      refine go_goto kk80_0.2.2.2.1.1 ?_
      exact HX4 v2 h2 (w32 (v3 + 1)) (inR_w32 _)
  · refine go_iload kk80_0.2.2.2.1.2 rfl ?_
    exact go_iret kk80_0.2.2.2.2 hg h2 ⟨Nat.zero_le _, Nat.zero_le _⟩ rfl
theorem tlT_dutiesOf_4 {Φ : ev_P} {d : Nat} (hd : 0 ≤ d) {g : gH} (hg : HR g) {v0 v1 : Int} (hK0 : kd v0 = 5) (h1 : RfR v1) : ∀ n : Nat, ∀ (v2 : Int) (h2 : InR v2) (v3 : Int) (h3 : InR v3), Go Φ pr_P (fP g) 1 (lT_dutiesOf_4 g v0 v1 n v2 v3) d pr_m80 4 [some (sR v0), some (sR v1), some (sI v2), some (sI v3)] [] g 0 0 := by
  intro n
  induction n with
  | zero => intros; exact go_none
  | succ n ih => exact tbT_dutiesOf_4 hd hg hK0 h1 ih
theorem tfT_dutiesOf {Φ : ev_P} {d : Nat} (hd : 0 ≤ d) {g : gH} (hg : HR g) {v0 v1 : Int} (hK0 : kd v0 = 5) (h1 : RfR v1) : Go Φ pr_P (fP g) 1 (fT_dutiesOf g v0 v1) d (pr_P 80) 0 (ev_loc (pr_P 80).1 [(sR v0), (sR v1)]) [] g 0 0 := by
  show Go Φ pr_P (fP g) 1 (fT_dutiesOf g v0 v1) d pr_m80 0 [some (sR v0), some (sR v1), none, none] [] g 0 0
  unfold fT_dutiesOf
  refine go_int kk80_0.1.1.1.1.1 0 rfl ?_
  refine go_istore kk80_0.1.1.1.1.2 rfl (loc2 := [some (sR v0), some (sR v1), some (sI 0), none]) rfl ?_
  refine go_int kk80_0.1.1.1.2 0 rfl ?_
  refine go_istore kk80_0.1.1.2.1.1 rfl (loc2 := [some (sR v0), some (sR v1), some (sI 0), some (sI 0)]) rfl ?_
  exact tlT_dutiesOf_4 hd hg hK0 h1 fu 0 (inR_b (Or.inl rfl)) 0 (inR_b (Or.inl rfl))
theorem tfJ_bitCount {Φ : ev_P} {d : Nat} (hd : 0 ≤ d) {g : gH} (hg : HR g) {v0 : Int} (h0 : InR v0) : Go Φ pr_P (fP g) 1 (fJ_bitCount g v0) d (pr_P 117) 0 (ev_loc (pr_P 117).1 [(sI v0)]) [] g 0 0 := by
  show Go Φ pr_P (fP g) 1 (fJ_bitCount g v0) d pr_m117 0 [some (sI v0)] [] g 0 0
  unfold fJ_bitCount
  refine go_iload kk117_0.1.1.1.1.1.1 rfl ?_
  refine go_iload kk117_0.1.1.1.1.1.2 rfl ?_
  refine go_int kk117_0.1.1.1.1.2 1 rfl ?_
  refine go_ibin kk117_0.1.1.1.2.1.1 ?_
  refine go_int kk117_0.1.1.1.2.1.2 1431655765 rfl ?_
  refine go_ibin kk117_0.1.1.1.2.2 ?_
  refine go_isub kk117_0.1.1.2.1.1.1 ?_
  refine go_istore kk117_0.1.1.2.1.1.2 rfl (loc2 := [some (sI (w32 (v0 - (opI 1 (opI 6 v0 1) 1431655765))))]) rfl ?_
  refine go_iload kk117_0.1.1.2.1.2 rfl ?_
  refine go_int kk117_0.1.1.2.2.1 858993459 rfl ?_
  refine go_ibin kk117_0.1.1.2.2.2 ?_
  refine go_iload kk117_0.1.2.1.1.1.1 rfl ?_
  refine go_int kk117_0.1.2.1.1.1.2 2 rfl ?_
  refine go_ibin kk117_0.1.2.1.1.2 ?_
  refine go_int kk117_0.1.2.1.2.1 858993459 rfl ?_
  refine go_ibin kk117_0.1.2.1.2.2 ?_
  refine go_iadd kk117_0.1.2.2.1.1.1 ?_
  refine go_istore kk117_0.1.2.2.1.1.2 rfl (loc2 := [some (sI (w32 ((opI 1 (w32 (v0 - (opI 1 (opI 6 v0 1) 1431655765))) 858993459) + (opI 1 (opI 6 (w32 (v0 - (opI 1 (opI 6 v0 1) 1431655765))) 2) 858993459))))]) rfl ?_
  refine go_iload kk117_0.1.2.2.1.2 rfl ?_
  refine go_iload kk117_0.1.2.2.2.1 rfl ?_
  refine go_int kk117_0.1.2.2.2.2 4 rfl ?_
  refine go_ibin kk117_0.2.1.1.1.1.1 ?_
  refine go_iadd kk117_0.2.1.1.1.1.2 ?_
  refine go_int kk117_0.2.1.1.1.2 252645135 rfl ?_
  refine go_ibin kk117_0.2.1.1.2.1.1 ?_
  refine go_istore kk117_0.2.1.1.2.1.2 rfl (loc2 := [some (sI (opI 1 (w32 ((w32 ((opI 1 (w32 (v0 - (opI 1 (opI 6 v0 1) 1431655765))) 858993459) + (opI 1 (opI 6 (w32 (v0 - (opI 1 (opI 6 v0 1) 1431655765))) 2) 858993459))) + (opI 6 (w32 ((opI 1 (w32 (v0 - (opI 1 (opI 6 v0 1) 1431655765))) 858993459) + (opI 1 (opI 6 (w32 (v0 - (opI 1 (opI 6 v0 1) 1431655765))) 2) 858993459))) 4))) 252645135))]) rfl ?_
  refine go_iload kk117_0.2.1.1.2.2 rfl ?_
  refine go_iload kk117_0.2.1.2.1.1.1 rfl ?_
  refine go_int kk117_0.2.1.2.1.1.2 8 rfl ?_
  refine go_ibin kk117_0.2.1.2.1.2 ?_
  refine go_iadd kk117_0.2.1.2.2.1 ?_
  refine go_istore kk117_0.2.1.2.2.2 rfl (loc2 := [some (sI (w32 ((opI 1 (w32 ((w32 ((opI 1 (w32 (v0 - (opI 1 (opI 6 v0 1) 1431655765))) 858993459) + (opI 1 (opI 6 (w32 (v0 - (opI 1 (opI 6 v0 1) 1431655765))) 2) 858993459))) + (opI 6 (w32 ((opI 1 (w32 (v0 - (opI 1 (opI 6 v0 1) 1431655765))) 858993459) + (opI 1 (opI 6 (w32 (v0 - (opI 1 (opI 6 v0 1) 1431655765))) 2) 858993459))) 4))) 252645135) + (opI 6 (opI 1 (w32 ((w32 ((opI 1 (w32 (v0 - (opI 1 (opI 6 v0 1) 1431655765))) 858993459) + (opI 1 (opI 6 (w32 (v0 - (opI 1 (opI 6 v0 1) 1431655765))) 2) 858993459))) + (opI 6 (w32 ((opI 1 (w32 (v0 - (opI 1 (opI 6 v0 1) 1431655765))) 858993459) + (opI 1 (opI 6 (w32 (v0 - (opI 1 (opI 6 v0 1) 1431655765))) 2) 858993459))) 4))) 252645135) 8))))]) rfl ?_
  refine go_iload kk117_0.2.2.1.1.1.1 rfl ?_
  refine go_iload kk117_0.2.2.1.1.1.2 rfl ?_
  refine go_int kk117_0.2.2.1.1.2 16 rfl ?_
  refine go_ibin kk117_0.2.2.1.2.1 ?_
  refine go_iadd kk117_0.2.2.1.2.2 ?_
  refine go_istore kk117_0.2.2.2.1.1.1 rfl (loc2 := [some (sI (w32 ((w32 ((opI 1 (w32 ((w32 ((opI 1 (w32 (v0 - (opI 1 (opI 6 v0 1) 1431655765))) 858993459) + (opI 1 (opI 6 (w32 (v0 - (opI 1 (opI 6 v0 1) 1431655765))) 2) 858993459))) + (opI 6 (w32 ((opI 1 (w32 (v0 - (opI 1 (opI 6 v0 1) 1431655765))) 858993459) + (opI 1 (opI 6 (w32 (v0 - (opI 1 (opI 6 v0 1) 1431655765))) 2) 858993459))) 4))) 252645135) + (opI 6 (opI 1 (w32 ((w32 ((opI 1 (w32 (v0 - (opI 1 (opI 6 v0 1) 1431655765))) 858993459) + (opI 1 (opI 6 (w32 (v0 - (opI 1 (opI 6 v0 1) 1431655765))) 2) 858993459))) + (opI 6 (w32 ((opI 1 (w32 (v0 - (opI 1 (opI 6 v0 1) 1431655765))) 858993459) + (opI 1 (opI 6 (w32 (v0 - (opI 1 (opI 6 v0 1) 1431655765))) 2) 858993459))) 4))) 252645135) 8))) + (opI 6 (w32 ((opI 1 (w32 ((w32 ((opI 1 (w32 (v0 - (opI 1 (opI 6 v0 1) 1431655765))) 858993459) + (opI 1 (opI 6 (w32 (v0 - (opI 1 (opI 6 v0 1) 1431655765))) 2) 858993459))) + (opI 6 (w32 ((opI 1 (w32 (v0 - (opI 1 (opI 6 v0 1) 1431655765))) 858993459) + (opI 1 (opI 6 (w32 (v0 - (opI 1 (opI 6 v0 1) 1431655765))) 2) 858993459))) 4))) 252645135) + (opI 6 (opI 1 (w32 ((w32 ((opI 1 (w32 (v0 - (opI 1 (opI 6 v0 1) 1431655765))) 858993459) + (opI 1 (opI 6 (w32 (v0 - (opI 1 (opI 6 v0 1) 1431655765))) 2) 858993459))) + (opI 6 (w32 ((opI 1 (w32 (v0 - (opI 1 (opI 6 v0 1) 1431655765))) 858993459) + (opI 1 (opI 6 (w32 (v0 - (opI 1 (opI 6 v0 1) 1431655765))) 2) 858993459))) 4))) 252645135) 8))) 16))))]) rfl ?_
  refine go_iload kk117_0.2.2.2.1.1.2 rfl ?_
  refine go_int kk117_0.2.2.2.1.2 63 rfl ?_
  refine go_ibin kk117_0.2.2.2.2.1 ?_
  exact go_iret kk117_0.2.2.2.2.2 hg (inR_opI _ _ _) ⟨Nat.zero_le _, Nat.zero_le _⟩ rfl
theorem tfC_count {Φ : ev_P} {d : Nat} (hd : 1 ≤ d) {g : gH} (hg : HR g) {v0 v1 : Int} (hK0 : kd v0 = 6) (h1 : InR v1) : Go Φ pr_P (fQ g) 1 (fC_count g v0 v1) d (pr_P 4) 0 (ev_loc (pr_P 4).1 [(sR v0), (sI v1)]) [] g 0 0 := by
  show Go Φ pr_P (fQ g) 1 (fC_count g v0 v1) d pr_m4 0 [some (sR v0), some (sI v1)] [] g 0 0
  unfold fC_count
  refine go_iload kk4_0.1.1.1.1.1.1 rfl ?_
  refine go_ite (fun c1 => ?_) (fun c2 => ?_)
  · refine go_swh (lo := 0) (hi := 10) (i := 0) kk4_0.1.1.1.1.1.2 rfl rfl (by omega) (by omega) rfl ?_
    refine go_aload kk4_0.1.1.1.1.2.1 rfl ?_
    refine go_getR (bI := 0) kk4_0.1.1.1.1.2.2 hg hK0 (by decide) rfl rfl (fun r3 => ?_)
    refine go_ck (fun q4 => ?_)
    refine go_getI (bI := 5) kk4_0.1.1.1.2.1.1 hg q4 (by decide) rfl rfl (fun r5 => ?_)
    exact go_iret kk4_0.1.1.1.2.1.2 hg r5 ⟨Nat.zero_le _, Nat.zero_le _⟩ rfl
  refine go_ite (fun c6 => ?_) (fun c7 => ?_)
  · refine go_swh (lo := 0) (hi := 10) (i := 1) kk4_0.1.1.1.1.1.2 rfl rfl (by omega) (by omega) rfl ?_
    refine go_aload kk4_0.1.1.1.2.2 rfl ?_
    refine go_getR (bI := 0) kk4_0.1.1.2.1.1.1 hg hK0 (by decide) rfl rfl (fun r8 => ?_)
    refine go_int kk4_0.1.1.2.1.1.2 0 rfl ?_
    refine go_ck (fun q9 => ?_)
    refine go_callP1 kk4_0.1.1.2.1.2.1 rfl rfl rfl ⟨by decide, _, rfl, q9⟩ ⟨Nat.zero_le _, Nat.zero_le _⟩ (by omega) (tfT_countInState (by omega) hg q9  (inR_b (Or.inl rfl))) (fun y10 r11 => ?_)
    exact go_iret kk4_0.1.1.2.1.2.2 hg r11 ⟨Nat.zero_le _, Nat.zero_le _⟩ rfl
  refine go_ite (fun c14 => ?_) (fun c15 => ?_)
  · refine go_swh (lo := 0) (hi := 10) (i := 2) kk4_0.1.1.1.1.1.2 rfl rfl (by omega) (by omega) rfl ?_
    refine go_aload kk4_0.1.1.2.2.1.1 rfl ?_
    refine go_getR (bI := 0) kk4_0.1.1.2.2.1.2 hg hK0 (by decide) rfl rfl (fun r16 => ?_)
    refine go_int kk4_0.1.1.2.2.2 1 rfl ?_
    refine go_ck (fun q17 => ?_)
    refine go_callP1 kk4_0.1.2.1.1.1.1 rfl rfl rfl ⟨by decide, _, rfl, q17⟩ ⟨Nat.zero_le _, Nat.zero_le _⟩ (by omega) (tfT_countInState (by omega) hg q17  (inR_b (Or.inr rfl))) (fun y18 r19 => ?_)
    exact go_iret kk4_0.1.2.1.1.1.2 hg r19 ⟨Nat.zero_le _, Nat.zero_le _⟩ rfl
  refine go_ite (fun c22 => ?_) (fun c23 => ?_)
  · refine go_swh (lo := 0) (hi := 10) (i := 3) kk4_0.1.1.1.1.1.2 rfl rfl (by omega) (by omega) rfl ?_
    refine go_aload kk4_0.1.2.1.1.2.1 rfl ?_
    refine go_getR (bI := 0) kk4_0.1.2.1.1.2.2 hg hK0 (by decide) rfl rfl (fun r24 => ?_)
    refine go_int kk4_0.1.2.1.2.1.1 2 rfl ?_
    refine go_ck (fun q25 => ?_)
    refine go_callP1 kk4_0.1.2.1.2.1.2 rfl rfl rfl ⟨by decide, _, rfl, q25⟩ ⟨Nat.zero_le _, Nat.zero_le _⟩ (by omega) (tfT_countInState (by omega) hg q25  (inR_of (by decide))) (fun y26 r27 => ?_)
    exact go_iret kk4_0.1.2.1.2.2 hg r27 ⟨Nat.zero_le _, Nat.zero_le _⟩ rfl
  refine go_ite (fun c30 => ?_) (fun c31 => ?_)
  · refine go_swh (lo := 0) (hi := 10) (i := 4) kk4_0.1.1.1.1.1.2 rfl rfl (by omega) (by omega) rfl ?_
    refine go_aload kk4_0.1.2.2.1.1.1 rfl ?_
    refine go_getR (bI := 0) kk4_0.1.2.2.1.1.2 hg hK0 (by decide) rfl rfl (fun r32 => ?_)
    refine go_ck (fun q33 => ?_)
    refine go_getI (bI := 6) kk4_0.1.2.2.1.2 hg q33 (by decide) rfl rfl (fun r34 => ?_)
    exact go_iret kk4_0.1.2.2.2.1.1 hg r34 ⟨Nat.zero_le _, Nat.zero_le _⟩ rfl
  refine go_ite (fun c35 => ?_) (fun c36 => ?_)
  · refine go_swh (lo := 0) (hi := 10) (i := 5) kk4_0.1.1.1.1.1.2 rfl rfl (by omega) (by omega) rfl ?_
    refine go_aload kk4_0.1.2.2.2.1.2 rfl ?_
    refine go_getR (bI := 0) kk4_0.1.2.2.2.2 hg hK0 (by decide) rfl rfl (fun r37 => ?_)
    refine go_ck (fun q38 => ?_)
    refine go_getI (bI := 7) kk4_0.2.1.1.1.1.1 hg q38 (by decide) rfl rfl (fun r39 => ?_)
    exact go_iret kk4_0.2.1.1.1.1.2 hg r39 ⟨Nat.zero_le _, Nat.zero_le _⟩ rfl
  refine go_ite (fun c40 => ?_) (fun c41 => ?_)
  · refine go_swh (lo := 0) (hi := 10) (i := 6) kk4_0.1.1.1.1.1.2 rfl rfl (by omega) (by omega) rfl ?_
    refine go_aload kk4_0.2.1.1.1.2.1 rfl ?_
    refine go_getR (bI := 0) kk4_0.2.1.1.1.2.2 hg hK0 (by decide) rfl rfl (fun r42 => ?_)
    refine go_ck (fun q43 => ?_)
    refine go_getI (bI := 8) kk4_0.2.1.1.2.1.1 hg q43 (by decide) rfl rfl (fun r44 => ?_)
    exact go_iret kk4_0.2.1.1.2.1.2 hg r44 ⟨Nat.zero_le _, Nat.zero_le _⟩ rfl
  refine go_ite (fun c45 => ?_) (fun c46 => ?_)
  · refine go_swh (lo := 0) (hi := 10) (i := 7) kk4_0.1.1.1.1.1.2 rfl rfl (by omega) (by omega) rfl ?_
    refine go_aload kk4_0.2.1.1.2.2 rfl ?_
    refine go_getR (bI := 0) kk4_0.2.1.2.1.1.1 hg hK0 (by decide) rfl rfl (fun r47 => ?_)
    refine go_ck (fun q48 => ?_)
    refine go_getI (bI := 9) kk4_0.2.1.2.1.1.2 hg q48 (by decide) rfl rfl (fun r49 => ?_)
    exact go_iret kk4_0.2.1.2.1.2.1 hg r49 ⟨Nat.zero_le _, Nat.zero_le _⟩ rfl
  refine go_ite (fun c50 => ?_) (fun c51 => ?_)
  · refine go_swh (lo := 0) (hi := 10) (i := 8) kk4_0.1.1.1.1.1.2 rfl rfl (by omega) (by omega) rfl ?_
    refine go_aload kk4_0.2.1.2.1.2.2 rfl ?_
    refine go_getR (bI := 0) kk4_0.2.1.2.2.1.1 hg hK0 (by decide) rfl rfl (fun r52 => ?_)
    refine go_aload kk4_0.2.1.2.2.1.2 rfl ?_
    refine go_getR (bI := 0) kk4_0.2.1.2.2.2 hg hK0 (by decide) rfl rfl (fun r53 => ?_)
    refine go_ck (fun q54 => ?_)
    refine go_getR (bI := 0) kk4_0.2.2.1.1.1.1 hg q54 (by decide) rfl rfl (fun r55 => ?_)
    refine go_callP1 kk4_0.2.2.1.1.1.2 rfl rfl rfl ⟨by decide, _, rfl, q54⟩ ⟨Nat.zero_le _, Nat.zero_le _⟩ (by omega) (tfT_dutiesOf (by omega) hg q54  r55) (fun y56 r57 => ?_)
    refine go_callP1 kk4_0.2.2.1.1.2.1 rfl rfl rfl trivial ⟨Nat.zero_le _, Nat.zero_le _⟩ (by omega) (tfJ_bitCount (by omega) hg  r57) (fun y60 r61 => ?_)
    exact go_iret kk4_0.2.2.1.1.2.2 hg r61 ⟨Nat.zero_le _, Nat.zero_le _⟩ rfl
  refine go_ite (fun c64 => ?_) (fun c65 => ?_)
  · refine go_swh (lo := 0) (hi := 10) (i := 9) kk4_0.1.1.1.1.1.2 rfl rfl (by omega) (by omega) rfl ?_
    refine go_aload kk4_0.2.2.1.2.1.1 rfl ?_
    refine go_getR (bI := 3) kk4_0.2.2.1.2.1.2 hg hK0 (by decide) rfl rfl (fun r66 => ?_)
    refine go_ck (fun q67 => ?_)
    refine go_getI (bI := 1) kk4_0.2.2.1.2.2 hg q67 (by decide) rfl rfl (fun r68 => ?_)
    exact go_iret kk4_0.2.2.2.1.1.1 hg r68 ⟨Nat.zero_le _, Nat.zero_le _⟩ rfl
  refine go_ite (fun c69 => ?_) (fun c70 => ?_)
  · refine go_swh (lo := 0) (hi := 10) (i := 10) kk4_0.1.1.1.1.1.2 rfl rfl (by omega) (by omega) rfl ?_
    refine go_aload kk4_0.2.2.2.1.1.2 rfl ?_
    refine go_getR (bI := 0) kk4_0.2.2.2.1.2 hg hK0 (by decide) rfl rfl (fun r71 => ?_)
    refine go_ck (fun q72 => ?_)
    refine go_getI (bI := 4) kk4_0.2.2.2.2.1.1 hg q72 (by decide) rfl rfl (fun r73 => ?_)
    exact go_iret kk4_0.2.2.2.2.1.2 hg r73 ⟨Nat.zero_le _, Nat.zero_le _⟩ rfl
  refine go_swd (lo := 0) (hi := 10) kk4_0.1.1.1.1.1.2 rfl rfl h1 (by omega) (by omega) ?_
  exact go_thr (Nat.succ_ne_zero _)
