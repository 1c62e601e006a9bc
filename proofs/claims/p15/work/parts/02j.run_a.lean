/-! ===== the evaluator comes to what the functions tell (own work, by program: wip/p2/dec.py) ===== -/
theorem tbI_append_3 {Φ : ev_P} {d : Nat} (hd : 0 ≤ d) {v0 v1 : Int} (hK0 : kd v0 = 1) (h1 : InR v1) {X3 : Int → gH → Option (Int × gH)} (HX3 : ∀ (v2 : Int) (h2 : InR v2) (g : gH) (hg : HR g), Go Φ pr_P fN 0 (X3 v2 g) d pr_m222 3 [some (sR v0), some (sI v1), some (sI v2)] [] g 0 0) : ∀ (v2 : Int) (h2 : InR v2) (g : gH) (hg : HR g), Go Φ pr_P fN 0 (bI_append_3 v0 v1 X3 v2 g) d pr_m222 3 [some (sR v0), some (sI v1), some (sI v2)] [] g 0 0 := by
  intro v2 h2 g hg
  unfold bI_append_3
  refine go_iload kk222_0.1.1.1.2.1 rfl ?_
  refine go_iflt kk222_0.1.1.1.2.2 h2 (fun c1 => ?_) (fun c2 => ?_)
  · exact go_vret kk222_0.2.2.2.2 hg ⟨Nat.zero_le _, Nat.zero_le _⟩ rfl
  · refine go_aload kk222_0.1.1.2.1.1 rfl ?_
    refine go_getI (bI := 1) kk222_0.1.1.2.1.2 hg hK0 (by decide) rfl rfl (fun r3 => ?_)
    refine go_iflt kk222_0.1.1.2.2.1 r3 (fun c4 => ?_) (fun c5 => ?_)
    · refine go_iinc kk222_0.2.2.2.1.1 rfl rfl (-8) rfl (loc2 := [some (sR v0), some (sI v1), some (sI (w32 (v2 + (-8))))]) rfl ?_
      refine go_goto kk222_0.2.2.2.1.2 ?_
      exact HX3 (w32 (v2 + (-8))) (inR_w32 _) g hg
    · refine go_aload kk222_0.1.1.2.2.2 rfl ?_
      refine go_getI (bI := 1) kk222_0.1.2.1.1.1 hg hK0 (by decide) rfl rfl (fun r6 => ?_)
      refine go_int kk222_0.1.2.1.1.2 500 rfl ?_
      refine go_cmlt kk222_0.1.2.1.2.1 r6 (inR_of (by decide)) (fun c7 => ?_) (fun c8 => ?_)
      · refine go_aload kk222_0.1.2.1.2.2 rfl ?_
        refine go_getR (bI := 0) kk222_0.1.2.2.1.1 hg hK0 (by decide) rfl rfl (fun r9 => ?_)
        refine go_aload kk222_0.1.2.2.1.2 rfl ?_
        refine go_getI (bI := 1) kk222_0.1.2.2.2 hg hK0 (by decide) rfl rfl (fun r10 => ?_)
        refine go_iload kk222_0.2.1.1.1.1 rfl ?_
        refine go_iload kk222_0.2.1.1.1.2 rfl ?_
        refine go_ibin kk222_0.2.1.1.2.1 ?_
        refine go_i2b kk222_0.2.1.1.2.2 ?_
        refine go_ck (fun q11 => ?_)
        refine go_bast kk222_0.2.1.2.1.1 hg q11 (fun g12 e13 => ?_)
        refine go_aload kk222_0.2.1.2.1.2 rfl ?_
        refine go_dupR kk222_0.2.1.2.2 ?_
        refine go_getI (bI := 1) kk222_0.2.2.1.1.1 e13 hK0 (by decide) rfl rfl (fun r14 => ?_)
        refine go_int kk222_0.2.2.1.1.2 1 rfl ?_
        refine go_iadd kk222_0.2.2.1.2.1 ?_
        refine go_putI (bI := 1) kk222_0.2.2.1.2.2 e13 hK0 (by decide) rfl rfl (inR_w32 _) (fun g15 e16 => ?_)
        refine go_iinc kk222_0.2.2.2.1.1 rfl rfl (-8) rfl (loc2 := [some (sR v0), some (sI v1), some (sI (w32 (v2 + (-8))))]) rfl ?_
        refine go_goto kk222_0.2.2.2.1.2 ?_
        exact HX3 (w32 (v2 + (-8))) (inR_w32 _) g15 e16
      · refine go_iinc kk222_0.2.2.2.1.1 rfl rfl (-8) rfl (loc2 := [some (sR v0), some (sI v1), some (sI (w32 (v2 + (-8))))]) rfl ?_
        refine go_goto kk222_0.2.2.2.1.2 ?_
        exact HX3 (w32 (v2 + (-8))) (inR_w32 _) g hg
theorem tlI_append_3 {Φ : ev_P} {d : Nat} (hd : 0 ≤ d) {v0 v1 : Int} (hK0 : kd v0 = 1) (h1 : InR v1) : ∀ n : Nat, ∀ (v2 : Int) (h2 : InR v2) (g : gH) (hg : HR g), Go Φ pr_P fN 0 (lI_append_3 v0 v1 n v2 g) d pr_m222 3 [some (sR v0), some (sI v1), some (sI v2)] [] g 0 0 := by
  intro n
  induction n with
  | zero => intros; exact go_none
  | succ n ih => exact tbI_append_3 hd hK0 h1 ih
theorem tfI_append {Φ : ev_P} {d : Nat} (hd : 0 ≤ d) {g : gH} (hg : HR g) {v0 v1 : Int} (hK0 : kd v0 = 1) (h1 : InR v1) : Go Φ pr_P fN 0 (fI_append g v0 v1) d (pr_P 222) 0 (ev_loc (pr_P 222).1 [(sR v0), (sI v1)]) [] g 0 0 := by
  show Go Φ pr_P fN 0 (fI_append g v0 v1) d pr_m222 0 [some (sR v0), some (sI v1), none] [] g 0 0
  unfold fI_append
  refine go_int kk222_0.1.1.1.1.1 24 rfl ?_
  refine go_istore kk222_0.1.1.1.1.2 rfl (loc2 := [some (sR v0), some (sI v1), some (sI 24)]) rfl ?_
  exact tlI_append_3 hd hK0 h1 fu 24 (inR_of (by decide)) g hg
theorem tfC_appendInput {Φ : ev_P} {d : Nat} (hd : 1 ≤ d) {g : gH} (hg : HR g) {v0 v1 v2 v3 v4 v5 : Int} (hK0 : kd v0 = 6) (h1 : InR v1) (h2 : InR v2) (h3 : InR v3) (h4 : InR v4) (h5 : InR v5) : Go Φ pr_P fN 1 (fC_appendInput g v0 v1 v2 v3 v4 v5) d (pr_P 1) 0 (ev_loc (pr_P 1).1 [(sR v0), (sI v1), (sI v2), (sI v3), (sI v4), (sI v5)]) [] g 0 0 := by
  show Go Φ pr_P fN 1 (fC_appendInput g v0 v1 v2 v3 v4 v5) d pr_m1 0 [some (sR v0), some (sI v1), some (sI v2), some (sI v3), some (sI v4), some (sI v5), none] [] g 0 0
  unfold fC_appendInput
  refine go_aload kk1_0.1.1.1.1.1 rfl ?_
  refine go_getR (bI := 4) kk1_0.1.1.1.1.2 hg hK0 (by decide) rfl rfl (fun r1 => ?_)
  refine go_ck (fun q2 => ?_)
  refine go_getR (bI := 0) kk1_0.1.1.1.2.1 hg q2 (by decide) rfl rfl (fun r3 => ?_)
  refine go_astore kk1_0.1.1.1.2.2 rfl (loc2 := [some (sR v0), some (sI v1), some (sI v2), some (sI v3), some (sI v4), some (sI v5), some (sR (g (g v0 4) 0))]) rfl ?_
  refine go_aload kk1_0.1.1.2.1.1 rfl ?_
  refine go_ck (fun q4 => ?_)
  refine go_getI (bI := 1) kk1_0.1.1.2.1.2 hg q4 (by decide) rfl rfl (fun r5 => ?_)
  refine go_int kk1_0.1.1.2.2.1 20 rfl ?_
  refine go_iadd kk1_0.1.1.2.2.2 ?_
  refine go_int kk1_0.1.2.1.1.1 500 rfl ?_
  refine go_cmgt kk1_0.1.2.1.1.2 (inR_w32 _) (inR_of (by decide)) (fun c6 => ?_) (fun c7 => ?_)
  · refine go_int kk1_0.1.2.1.2.1 (-1) rfl ?_
    exact go_iret kk1_0.1.2.1.2.2 hg (inR_of (by decide)) ⟨Nat.zero_le _, Nat.zero_le _⟩ rfl
  · refine go_aload kk1_0.1.2.2.1.1 rfl ?_
    refine go_iload kk1_0.1.2.2.1.2 rfl ?_
    refine go_callN0 kk1_0.1.2.2.2 rfl rfl rfl ⟨by decide, _, rfl, q4⟩ ⟨Nat.zero_le _, Nat.zero_le _⟩ (by omega) (tfI_append (by omega) hg q4  h1) (fun y8 g10 e11 => ?_)
    refine go_aload kk1_0.2.1.1.1.1 rfl ?_
    refine go_iload kk1_0.2.1.1.1.2 rfl ?_
    refine go_callN0 kk1_0.2.1.1.2.1 rfl rfl rfl ⟨by decide, _, rfl, q4⟩ ⟨Nat.zero_le _, Nat.zero_le _⟩ (by omega) (tfI_append (by omega) e11 q4  h2) (fun y12 g14 e15 => ?_)
    refine go_aload kk1_0.2.1.1.2.2 rfl ?_
    refine go_iload kk1_0.2.1.2.1.1 rfl ?_
    refine go_callN0 kk1_0.2.1.2.1.2 rfl rfl rfl ⟨by decide, _, rfl, q4⟩ ⟨Nat.zero_le _, Nat.zero_le _⟩ (by omega) (tfI_append (by omega) e15 q4  h3) (fun y16 g18 e19 => ?_)
    refine go_aload kk1_0.2.1.2.2.1 rfl ?_
    refine go_iload kk1_0.2.1.2.2.2 rfl ?_
    refine go_callN0 kk1_0.2.2.1.1.1 rfl rfl rfl ⟨by decide, _, rfl, q4⟩ ⟨Nat.zero_le _, Nat.zero_le _⟩ (by omega) (tfI_append (by omega) e19 q4  h4) (fun y20 g22 e23 => ?_)
    refine go_aload kk1_0.2.2.1.1.2 rfl ?_
    refine go_iload kk1_0.2.2.1.2.1 rfl ?_
    refine go_callN0 kk1_0.2.2.1.2.2 rfl rfl rfl ⟨by decide, _, rfl, q4⟩ ⟨Nat.zero_le _, Nat.zero_le _⟩ (by omega) (tfI_append (by omega) e23 q4  h5) (fun y24 g26 e27 => ?_)
    refine go_aload kk1_0.2.2.2.1.1 rfl ?_
    refine go_getI (bI := 1) kk1_0.2.2.2.1.2 e27 q4 (by decide) rfl rfl (fun r28 => ?_)
    exact go_iret kk1_0.2.2.2.2 e27 r28 ⟨Nat.zero_le _, Nat.zero_le _⟩ rfl
theorem tfC_truncateInput {Φ : ev_P} {d : Nat} (hd : 0 ≤ d) {g : gH} (hg : HR g) {v0 v1 : Int} (hK0 : kd v0 = 6) (h1 : InR v1) : Go Φ pr_P fN 3 (fC_truncateInput g v0 v1) d (pr_P 2) 0 (ev_loc (pr_P 2).1 [(sR v0), (sI v1)]) [] g 0 0 := by
  show Go Φ pr_P fN 3 (fC_truncateInput g v0 v1) d pr_m2 0 [some (sR v0), some (sI v1)] [] g 0 0
  unfold fC_truncateInput
  refine go_iload kk2_0.1.1.1.1.1 rfl ?_
  refine go_iflt kk2_0.1.1.1.1.2 h1 (fun c1 => ?_) (fun c2 => ?_)
  · refine go_int kk2_0.1.2.2.2 0 rfl ?_
    exact go_bret kk2_0.2.1.1.1 hg (Or.inl rfl) ⟨Nat.zero_le _, Nat.zero_le _⟩ rfl
  · refine go_iload kk2_0.1.1.1.2 rfl ?_
    refine go_aload kk2_0.1.1.2.1 rfl ?_
    refine go_getR (bI := 4) kk2_0.1.1.2.2 hg hK0 (by decide) rfl rfl (fun r3 => ?_)
    refine go_ck (fun q4 => ?_)
    refine go_getR (bI := 0) kk2_0.1.2.1.1 hg q4 (by decide) rfl rfl (fun r5 => ?_)
    refine go_ck (fun q6 => ?_)
    refine go_getI (bI := 1) kk2_0.1.2.1.2 hg q6 (by decide) rfl rfl (fun r7 => ?_)
    refine go_cmgt kk2_0.1.2.2.1 h1 r7 (fun c8 => ?_) (fun c9 => ?_)
    · refine go_int kk2_0.1.2.2.2 0 rfl ?_
      exact go_bret kk2_0.2.1.1.1 hg (Or.inl rfl) ⟨Nat.zero_le _, Nat.zero_le _⟩ rfl
    · refine go_aload kk2_0.2.1.1.2 rfl ?_
      refine go_getR (bI := 4) kk2_0.2.1.2.1 hg hK0 (by decide) rfl rfl (fun r10 => ?_)
      refine go_getR (bI := 0) kk2_0.2.1.2.2 hg q4 (by decide) rfl rfl (fun r11 => ?_)
      refine go_iload kk2_0.2.2.1.1 rfl ?_
      refine go_putI (bI := 1) kk2_0.2.2.1.2 hg q6 (by decide) rfl rfl h1 (fun g12 e13 => ?_)
      refine go_int kk2_0.2.2.2.1 1 rfl ?_
      exact go_bret kk2_0.2.2.2.2 e13 (Or.inr rfl) ⟨Nat.zero_le _, Nat.zero_le _⟩ rfl
theorem tfP_become {Φ : ev_P} {d : Nat} (hd : 0 ≤ d) {g : gH} (hg : HR g) {v0 v1 v2 v3 v4 : Int} (hK0 : kd v0 = 3) (h1 : InR v1) (h2 : InR v2) (h3 : InR v3) (h4 : InR v4) : Go Φ pr_P fN 0 (fP_become g v0 v1 v2 v3 v4) d (pr_P 233) 0 (ev_loc (pr_P 233).1 [(sR v0), (sI v1), (sI v2), (sI v3), (sI v4)]) [] g 0 0 := by
  show Go Φ pr_P fN 0 (fP_become g v0 v1 v2 v3 v4) d pr_m233 0 [some (sR v0), some (sI v1), some (sI v2), some (sI v3), some (sI v4)] [] g 0 0
  unfold fP_become
  refine go_aload kk233_0.1.1.1.1.1.1 rfl ?_
  refine go_iload kk233_0.1.1.1.1.1.2 rfl ?_
  refine go_putI (bI := 1) kk233_0.1.1.1.1.2 hg hK0 (by decide) rfl rfl h1 (fun g1 e2 => ?_)
  refine go_aload kk233_0.1.1.1.2.1.1 rfl ?_
  refine go_null kk233_0.1.1.1.2.1.2 ?_
  refine go_putR (bI := 2) kk233_0.1.1.1.2.2 e2 hK0 (by decide) rfl rfl rfR_null (fun g3 e4 => ?_)
  refine go_aload kk233_0.1.1.2.1.1.1 rfl ?_
  refine go_int kk233_0.1.1.2.1.1.2 0 rfl ?_
  refine go_putI (bI := 3) kk233_0.1.1.2.1.2 e4 hK0 (by decide) rfl rfl (inR_b (Or.inl rfl)) (fun g5 e6 => ?_)
  refine go_aload kk233_0.1.1.2.2.1 rfl ?_
  refine go_iload kk233_0.1.1.2.2.2 rfl ?_
  refine go_putI (bI := 4) kk233_0.1.2.1.1.1.1 e6 hK0 (by decide) rfl rfl h2 (fun g7 e8 => ?_)
  refine go_aload kk233_0.1.2.1.1.1.2 rfl ?_
  refine go_iload kk233_0.1.2.1.1.2 rfl ?_
  refine go_putI (bI := 5) kk233_0.1.2.1.2.1.1 e8 hK0 (by decide) rfl rfl h3 (fun g9 e10 => ?_)
  refine go_aload kk233_0.1.2.1.2.1.2 rfl ?_
  refine go_iload kk233_0.1.2.1.2.2 rfl ?_
  refine go_putI (bI := 6) kk233_0.1.2.2.1.1.1 e10 hK0 (by decide) rfl rfl h4 (fun g11 e12 => ?_)
  refine go_aload kk233_0.1.2.2.1.1.2 rfl ?_
  refine go_int kk233_0.1.2.2.1.2 (-1) rfl ?_
  refine go_putI (bI := 7) kk233_0.1.2.2.2.1 e12 hK0 (by decide) rfl rfl (inR_of (by decide)) (fun g13 e14 => ?_)
  refine go_aload kk233_0.1.2.2.2.2 rfl ?_
  refine go_int kk233_0.2.1.1.1.1.1 0 rfl ?_
  refine go_putI (bI := 8) kk233_0.2.1.1.1.1.2 e14 hK0 (by decide) rfl rfl (inR_b (Or.inl rfl)) (fun g15 e16 => ?_)
  refine go_aload kk233_0.2.1.1.1.2 rfl ?_
  refine go_int kk233_0.2.1.1.2.1.1 (-1) rfl ?_
  refine go_putI (bI := 9) kk233_0.2.1.1.2.1.2 e16 hK0 (by decide) rfl rfl (inR_of (by decide)) (fun g17 e18 => ?_)
  refine go_aload kk233_0.2.1.1.2.2 rfl ?_
  refine go_int kk233_0.2.1.2.1.1.1 (-1) rfl ?_
  refine go_putI (bI := 10) kk233_0.2.1.2.1.1.2 e18 hK0 (by decide) rfl rfl (inR_of (by decide)) (fun g19 e20 => ?_)
  refine go_aload kk233_0.2.1.2.1.2 rfl ?_
  refine go_int kk233_0.2.1.2.2.1 0 rfl ?_
  refine go_putI (bI := 11) kk233_0.2.1.2.2.2 e20 hK0 (by decide) rfl rfl (inR_b (Or.inl rfl)) (fun g21 e22 => ?_)
  refine go_aload kk233_0.2.2.1.1.1.1 rfl ?_
  refine go_int kk233_0.2.2.1.1.1.2 (-1) rfl ?_
  refine go_putI (bI := 12) kk233_0.2.2.1.1.2 e22 hK0 (by decide) rfl rfl (inR_of (by decide)) (fun g23 e24 => ?_)
  refine go_aload kk233_0.2.2.1.2.1 rfl ?_
  refine go_int kk233_0.2.2.1.2.2 0 rfl ?_
  refine go_putB (bI := 13) kk233_0.2.2.2.1.1.1 e24 hK0 (by decide) rfl rfl (Or.inl rfl) (fun g25 e26 => ?_)
  refine go_aload kk233_0.2.2.2.1.1.2 rfl ?_
  refine go_lconst kk233_0.2.2.2.1.2 0 rfl ?_
  refine go_putL (bI := 14) kk233_0.2.2.2.2.1 e26 hK0 (by decide) rfl rfl (inL_of (by decide)) (fun g27 e28 => ?_)
  exact go_vret kk233_0.2.2.2.2.2 e28 ⟨Nat.zero_le _, Nat.zero_le _⟩ rfl
theorem tbT_clearRules_2 {Φ : ev_P} {d : Nat} (hd : 0 ≤ d) {v0 : Int} (hK0 : kd v0 = 5) {X2 : Int → gH → Option (Int × gH)} (HX2 : ∀ (v1 : Int) (h1 : InR v1) (g : gH) (hg : HR g), Go Φ pr_P fN 0 (X2 v1 g) d pr_m272 2 [some (sR v0), some (sI v1)] [] g 0 0) : ∀ (v1 : Int) (h1 : InR v1) (g : gH) (hg : HR g), Go Φ pr_P fN 0 (bT_clearRules_2 v0 X2 v1 g) d pr_m272 2 [some (sR v0), some (sI v1)] [] g 0 0 := by
  intro v1 h1 g hg
  unfold bT_clearRules_2
  refine go_iload kk272_0.1.1.2.1 rfl ?_
  refine go_int kk272_0.1.1.2.2 5 rfl ?_
  refine go_cmlt kk272_0.1.2.1.1 h1 (inR_of (by decide)) (fun c1 => ?_) (fun c2 => ?_)
  · refine go_aload kk272_0.1.2.1.2 rfl ?_
    refine go_getR (bI := 3) kk272_0.1.2.2 hg hK0 (by decide) rfl rfl (fun r3 => ?_)
    refine go_iload kk272_0.2.1.1.1 rfl ?_
    refine go_int kk272_0.2.1.1.2 (-1) rfl ?_
    refine go_ck (fun q4 => ?_)
    refine go_iast kk272_0.2.1.2 hg q4 (inR_of (by decide)) (fun g5 e6 => ?_)
    refine go_iinc kk272_0.2.2.1.1 rfl rfl 1 rfl (loc2 := [some (sR v0), some (sI (w32 (v1 + 1)))]) rfl ?_
    refine go_goto kk272_0.2.2.1.2 ?_
    exact HX2 (w32 (v1 + 1)) (inR_w32 _) g5 e6
  · exact go_vret kk272_0.2.2.2 hg ⟨Nat.zero_le _, Nat.zero_le _⟩ rfl
theorem tlT_clearRules_2 {Φ : ev_P} {d : Nat} (hd : 0 ≤ d) {v0 : Int} (hK0 : kd v0 = 5) : ∀ n : Nat, ∀ (v1 : Int) (h1 : InR v1) (g : gH) (hg : HR g), Go Φ pr_P fN 0 (lT_clearRules_2 v0 n v1 g) d pr_m272 2 [some (sR v0), some (sI v1)] [] g 0 0 := by
  intro n
  induction n with
  | zero => intros; exact go_none
  | succ n ih => exact tbT_clearRules_2 hd hK0 ih
theorem tfT_clearRules {Φ : ev_P} {d : Nat} (hd : 0 ≤ d) {g : gH} (hg : HR g) {v0 : Int} (hK0 : kd v0 = 5) : Go Φ pr_P fN 0 (fT_clearRules g v0) d (pr_P 272) 0 (ev_loc (pr_P 272).1 [(sR v0)]) [] g 0 0 := by
  show Go Φ pr_P fN 0 (fT_clearRules g v0) d pr_m272 0 [some (sR v0), none] [] g 0 0
  unfold fT_clearRules
  refine go_int kk272_0.1.1.1.1 0 rfl ?_
  refine go_istore kk272_0.1.1.1.2 rfl (loc2 := [some (sR v0), some (sI 0)]) rfl ?_
  exact tlT_clearRules_2 hd hK0 fu 0 (inR_b (Or.inl rfl)) g hg
theorem tjT_reset_68 {Φ : ev_P} {d : Nat} (hd : 1 ≤ d) {g : gH} (hg : HR g) {v0 : Int} (hK0 : kd v0 = 5) (u1 : Option ev_V) (w1 : nwo u1) (u2 : Option ev_V) (w2 : nwo u2) (u3 : Option ev_V) (w3 : nwo u3) (u4 : Option ev_V) (w4 : nwo u4) : Go Φ pr_P fN 0 (jT_reset_68 g v0 ) d pr_m270 68 [some (sR v0), u1, u2, u3, u4] [] g 0 0 := by
  unfold jT_reset_68
  refine go_aload kk270_1.1.1.1.2.1 rfl ?_
  refine go_callN0 kk270_1.1.1.1.2.2 rfl rfl rfl ⟨by decide, _, rfl, hK0⟩ ⟨Nat.zero_le _, Nat.zero_le _⟩ (by omega) (tfT_clearRules (by omega) hg hK0 ) (fun y25 g27 e28 => ?_)
  refine go_aload kk270_1.1.1.2.1.1.1 rfl ?_
  refine go_getR (bI := 3) kk270_1.1.1.2.1.1.2 e28 hK0 (by decide) rfl rfl (fun r29 => ?_)
  refine go_int kk270_1.1.1.2.1.2 0 rfl ?_
  refine go_int kk270_1.1.1.2.2.1 0 rfl ?_
  refine go_ck (fun q30 => ?_)
  refine go_iast kk270_1.1.1.2.2.2 e28 q30 (inR_b (Or.inl rfl)) (fun g31 e32 => ?_)
  refine go_aload kk270_1.1.2.1.1.1.1 rfl ?_
  refine go_getR (bI := 3) kk270_1.1.2.1.1.1.2 e32 hK0 (by decide) rfl rfl (fun r33 => ?_)
  refine go_int kk270_1.1.2.1.1.2 1 rfl ?_
  refine go_int kk270_1.1.2.1.2.1 1 rfl ?_
  refine go_ck (fun q34 => ?_)
  refine go_iast kk270_1.1.2.1.2.2 e32 q34 (inR_b (Or.inr rfl)) (fun g35 e36 => ?_)
  refine go_aload kk270_1.1.2.2.1.1.1 rfl ?_
  refine go_getR (bI := 3) kk270_1.1.2.2.1.1.2 e36 hK0 (by decide) rfl rfl (fun r37 => ?_)
  refine go_int kk270_1.1.2.2.1.2 2 rfl ?_
  refine go_int kk270_1.1.2.2.2.1 2 rfl ?_
  refine go_ck (fun q38 => ?_)
  refine go_iast kk270_1.1.2.2.2.2 e36 q38 (inR_of (by decide)) (fun g39 e40 => ?_)
  refine go_aload kk270_1.2.1.1.1.1.1 rfl ?_
  refine go_int kk270_1.2.1.1.1.1.2 20 rfl ?_
  refine go_putI (bI := 4) kk270_1.2.1.1.1.2 e40 hK0 (by decide) rfl rfl (inR_of (by decide)) (fun g41 e42 => ?_)
  refine go_aload kk270_1.2.1.1.2.1 rfl ?_
  refine go_int kk270_1.2.1.1.2.2 1 rfl ?_
  refine go_putI (bI := 5) kk270_1.2.1.2.1.1.1 e42 hK0 (by decide) rfl rfl (inR_b (Or.inr rfl)) (fun g43 e44 => ?_)
  refine go_aload kk270_1.2.1.2.1.1.2 rfl ?_
  refine go_int kk270_1.2.1.2.1.2 0 rfl ?_
  refine go_putI (bI := 6) kk270_1.2.1.2.2.1 e44 hK0 (by decide) rfl rfl (inR_b (Or.inl rfl)) (fun g45 e46 => ?_)
  refine go_aload kk270_1.2.1.2.2.2 rfl ?_
  refine go_int kk270_1.2.2.1.1.1.1 0 rfl ?_
  refine go_putI (bI := 7) kk270_1.2.2.1.1.1.2 e46 hK0 (by decide) rfl rfl (inR_b (Or.inl rfl)) (fun g47 e48 => ?_)
  refine go_aload kk270_1.2.2.1.1.2 rfl ?_
  refine go_int kk270_1.2.2.1.2.1 0 rfl ?_
  refine go_putI (bI := 8) kk270_1.2.2.1.2.2 e48 hK0 (by decide) rfl rfl (inR_b (Or.inl rfl)) (fun g49 e50 => ?_)
  refine go_aload kk270_1.2.2.2.1.1 rfl ?_
  refine go_int kk270_1.2.2.2.1.2 0 rfl ?_
  refine go_putI (bI := 9) kk270_1.2.2.2.2.1 e50 hK0 (by decide) rfl rfl (inR_b (Or.inl rfl)) (fun g51 e52 => ?_)
  exact go_vret kk270_1.2.2.2.2.2 e52 ⟨Nat.zero_le _, Nat.zero_le _⟩ rfl
theorem tbT_reset_49 {Φ : ev_P} {d : Nat} (hd : 1 ≤ d) {v0 : Int} (hK0 : kd v0 = 5) {X49 : Int → gH → Option (Int × gH)} (HX49 : ∀ (v1 : Int) (h1 : InR v1) (g : gH) (hg : HR g) (u2 : Option ev_V) (w2 : nwo u2) (u3 : Option ev_V) (w3 : nwo u3) (u4 : Option ev_V) (w4 : nwo u4), Go Φ pr_P fN 0 (X49 v1 g) d pr_m270 49 [some (sR v0), some (sI v1), u2, u3, u4] [] g 0 0) : ∀ (v1 : Int) (h1 : InR v1) (g : gH) (hg : HR g) (u2 : Option ev_V) (w2 : nwo u2) (u3 : Option ev_V) (w3 : nwo u3) (u4 : Option ev_V) (w4 : nwo u4), Go Φ pr_P fN 0 (bT_reset_49 v0 X49 v1 g) d pr_m270 49 [some (sR v0), some (sI v1), u2, u3, u4] [] g 0 0 := by
  intro v1 h1 g hg u2 w2 u3 w3 u4 w4
  unfold bT_reset_49
  refine go_iload kk270_0.2.2.1.1.2 rfl ?_
  refine go_int kk270_0.2.2.1.2.1 8 rfl ?_
  refine go_cmlt kk270_0.2.2.1.2.2 h1 (inR_of (by decide)) (fun c19 => ?_) (fun c20 => ?_)
  · refine go_aload kk270_0.2.2.2.1.1 rfl ?_
    refine go_getR (bI := 2) kk270_0.2.2.2.1.2 hg hK0 (by decide) rfl rfl (fun r21 => ?_)
    refine go_iload kk270_0.2.2.2.2.1 rfl ?_
    refine go_int kk270_0.2.2.2.2.2 0 rfl ?_
    refine go_ck (fun q22 => ?_)
    refine go_iast kk270_1.1.1.1.1.1.1 hg q22 (inR_b (Or.inl rfl)) (fun g23 e24 => ?_)
    refine go_iinc kk270_1.1.1.1.1.1.2 rfl rfl 1 rfl (loc2 := [some (sR v0), some (sI (w32 (v1 + 1))), u2, u3, u4]) rfl ?_
    refine go_goto kk270_1.1.1.1.1.2 ?_
    exact HX49 (w32 (v1 + 1)) (inR_w32 _) g23 e24 u2 w2 u3 w3 u4 w4
  · exact tjT_reset_68 hd hg hK0 (some (sI v1)) rfl u2 w2 u3 w3 u4 w4
theorem tlT_reset_49 {Φ : ev_P} {d : Nat} (hd : 1 ≤ d) {v0 : Int} (hK0 : kd v0 = 5) : ∀ n : Nat, ∀ (v1 : Int) (h1 : InR v1) (g : gH) (hg : HR g) (u2 : Option ev_V) (w2 : nwo u2) (u3 : Option ev_V) (w3 : nwo u3) (u4 : Option ev_V) (w4 : nwo u4), Go Φ pr_P fN 0 (lT_reset_49 v0 n v1 g) d pr_m270 49 [some (sR v0), some (sI v1), u2, u3, u4] [] g 0 0 := by
  intro n
  induction n with
  | zero => intros; exact go_none
  | succ n ih => exact tbT_reset_49 hd hK0 ih
theorem tjT_reset_35 {Φ : ev_P} {d : Nat} (hd : 1 ≤ d) {g : gH} (hg : HR g) {v0 : Int} (hK0 : kd v0 = 5) (u1 : Option ev_V) (w1 : nwo u1) (u2 : Option ev_V) (w2 : nwo u2) (u3 : Option ev_V) (w3 : nwo u3) (u4 : Option ev_V) (w4 : nwo u4) : Go Φ pr_P fN 0 (jT_reset_35 g v0 ) d pr_m270 35 [some (sR v0), u1, u2, u3, u4] [] g 0 0 := by
  unfold jT_reset_35
  refine go_aload kk270_0.2.1.1.2.1 rfl ?_
  refine go_getR (bI := 0) kk270_0.2.1.1.2.2 hg hK0 (by decide) rfl rfl (fun r13 => ?_)
  refine go_int kk270_0.2.1.2.1.1.1 0 rfl ?_
  refine go_int kk270_0.2.1.2.1.1.2 9 rfl ?_
  refine go_int kk270_0.2.1.2.1.2 0 rfl ?_
  refine go_int kk270_0.2.1.2.2.1 0 rfl ?_
  refine go_ck (fun q14 => ?_)
  refine go_callN0 kk270_0.2.1.2.2.2 rfl rfl rfl ⟨by decide, _, rfl, q14⟩ ⟨Nat.zero_le _, Nat.zero_le _⟩ (by omega) (tfP_become (by omega) hg q14  (inR_b (Or.inl rfl)) (inR_of (by decide)) (inR_b (Or.inl rfl)) (inR_b (Or.inl rfl))) (fun y15 g17 e18 => ?_)
  refine go_int kk270_0.2.2.1.1.1.1 0 rfl ?_
  refine go_istore kk270_0.2.2.1.1.1.2 rfl (loc2 := [some (sR v0), some (sI 0), u2, u3, u4]) rfl ?_
  exact tlT_reset_49 hd hK0 fu 0 (inR_b (Or.inl rfl)) g17 e18 u2 w2 u3 w3 u4 w4
theorem tbT_reset_10 {Φ : ev_P} {d : Nat} (hd : 1 ≤ d) {v0 v1 v2 : Int} (hK0 : kd v0 = 5) (h1 : RfR v1) (h2 : InR v2) {X10 : Int → gH → Option (Int × gH)} (HX10 : ∀ (v3 : Int) (h3 : InR v3) (g : gH) (hg : HR g) (u4 : Option ev_V) (w4 : nwo u4), Go Φ pr_P fN 0 (X10 v3 g) d pr_m270 10 [some (sR v0), some (sR v1), some (sI v2), some (sI v3), u4] [] g 0 0) : ∀ (v3 : Int) (h3 : InR v3) (g : gH) (hg : HR g) (u4 : Option ev_V) (w4 : nwo u4), Go Φ pr_P fN 0 (bT_reset_10 v0 v1 v2 X10 v3 g) d pr_m270 10 [some (sR v0), some (sR v1), some (sI v2), some (sI v3), u4] [] g 0 0 := by
  intro v3 h3 g hg u4 w4
  unfold bT_reset_10
  refine go_iload kk270_0.1.1.2.2.1 rfl ?_
  refine go_iload kk270_0.1.1.2.2.2 rfl ?_
  refine go_cmlt kk270_0.1.2.1.1.1.1 h3 h2 (fun c4 => ?_) (fun c5 => ?_)
  · refine go_aload kk270_0.1.2.1.1.1.2 rfl ?_
    refine go_iload kk270_0.1.2.1.1.2 rfl ?_
    refine go_ck (fun q7 => ?_)
    refine go_pald kk270_0.1.2.1.2.1 hg q7 (fun r6 => ?_)
    refine go_astore kk270_0.1.2.1.2.2 rfl (loc2 := [some (sR v0), some (sR v1), some (sI v2), some (sI v3), some (sR (g v1 v3))]) rfl ?_
    refine go_aload kk270_0.1.2.2.1.1.1 rfl ?_
    refine go_int kk270_0.1.2.2.1.1.2 3 rfl ?_
    refine go_int kk270_0.1.2.2.1.2 0 rfl ?_
    refine go_int kk270_0.1.2.2.2.1 0 rfl ?_
    refine go_int kk270_0.1.2.2.2.2 0 rfl ?_
    refine go_ck (fun q8 => ?_)
    refine go_callN0 kk270_0.2.1.1.1.1.1 rfl rfl rfl ⟨by decide, _, rfl, q8⟩ ⟨Nat.zero_le _, Nat.zero_le _⟩ (by omega) (tfP_become (by omega) hg q8  (inR_of (by decide)) (inR_b (Or.inl rfl)) (inR_b (Or.inl rfl)) (inR_b (Or.inl rfl))) (fun y9 g11 e12 => ?_)
    refine go_iinc kk270_0.2.1.1.1.1.2 rfl rfl 1 rfl (loc2 := [some (sR v0), some (sR v1), some (sI v2), some (sI (w32 (v3 + 1))), some (sR (g v1 v3))]) rfl ?_
    refine go_goto kk270_0.2.1.1.1.2 ?_
    exact HX10 (w32 (v3 + 1)) (inR_w32 _) g11 e12 (some (sR (g v1 v3))) rfl
  · exact tjT_reset_35 hd hg hK0 (some (sR v1)) rfl (some (sI v2)) rfl (some (sI v3)) rfl u4 w4
theorem tlT_reset_10 {Φ : ev_P} {d : Nat} (hd : 1 ≤ d) {v0 v1 v2 : Int} (hK0 : kd v0 = 5) (h1 : RfR v1) (h2 : InR v2) : ∀ n : Nat, ∀ (v3 : Int) (h3 : InR v3) (g : gH) (hg : HR g) (u4 : Option ev_V) (w4 : nwo u4), Go Φ pr_P fN 0 (lT_reset_10 v0 v1 v2 n v3 g) d pr_m270 10 [some (sR v0), some (sR v1), some (sI v2), some (sI v3), u4] [] g 0 0 := by
  intro n
  induction n with
  | zero => intros; exact go_none
  | succ n ih => exact tbT_reset_10 hd hK0 h1 h2 ih
theorem tfT_reset {Φ : ev_P} {d : Nat} (hd : 1 ≤ d) {g : gH} (hg : HR g) {v0 : Int} (hK0 : kd v0 = 5) : Go Φ pr_P fN 0 (fT_reset g v0) d (pr_P 270) 0 (ev_loc (pr_P 270).1 [(sR v0)]) [] g 0 0 := by
  show Go Φ pr_P fN 0 (fT_reset g v0) d pr_m270 0 [some (sR v0), none, none, none, none] [] g 0 0
  unfold fT_reset
  refine go_aload kk270_0.1.1.1.1.1.1 rfl ?_
  refine go_getR (bI := 1) kk270_0.1.1.1.1.1.2 hg hK0 (by decide) rfl rfl (fun r1 => ?_)
  refine go_astore kk270_0.1.1.1.1.2 rfl (loc2 := [some (sR v0), some (sR (g v0 1)), none, none, none]) rfl ?_
  refine go_aload kk270_0.1.1.1.2.1 rfl ?_
  refine go_ck (fun q3 => ?_)
  refine go_alen kk270_0.1.1.1.2.2 (ka_24 q3) (fun r2 => ?_)
  refine go_istore kk270_0.1.1.2.1.1.1 rfl (loc2 := [some (sR v0), some (sR (g v0 1)), some (sI (sz (g v0 1))), none, none]) rfl ?_
  refine go_int kk270_0.1.1.2.1.1.2 0 rfl ?_
  refine go_istore kk270_0.1.1.2.1.2 rfl (loc2 := [some (sR v0), some (sR (g v0 1)), some (sI (sz (g v0 1))), some (sI 0), none]) rfl ?_
  exact tlT_reset_10 hd hK0 r1 r2 fu 0 (inR_b (Or.inl rfl)) g hg none rfl
theorem tfS_begin {Φ : ev_P} {d : Nat} (hd : 2 ≤ d) {g : gH} (hg : HR g) {v0 : Int} (hK0 : kd v0 = 4) : Go Φ pr_P fN 0 (fS_begin g v0) d (pr_P 250) 0 (ev_loc (pr_P 250).1 [(sR v0)]) [] g 0 0 := by
  show Go Φ pr_P fN 0 (fS_begin g v0) d pr_m250 0 [some (sR v0)] [] g 0 0
  unfold fS_begin
  refine go_aload kk250_0.1.1.1.1.1 rfl ?_
  refine go_getR (bI := 1) kk250_0.1.1.1.1.2 hg hK0 (by decide) rfl rfl (fun r1 => ?_)
  refine go_ck (fun q2 => ?_)
  refine go_callN0 kk250_0.1.1.1.2 rfl rfl rfl ⟨by decide, _, rfl, q2⟩ ⟨Nat.zero_le _, Nat.zero_le _⟩ (by omega) (tfT_reset (by omega) hg q2 ) (fun y3 g5 e6 => ?_)
  refine go_aload kk250_0.1.1.2.1.1 rfl ?_
  refine go_int kk250_0.1.1.2.1.2 0 rfl ?_
  refine go_putI (bI := 2) kk250_0.1.1.2.2 e6 hK0 (by decide) rfl rfl (inR_b (Or.inl rfl)) (fun g7 e8 => ?_)
  refine go_aload kk250_0.1.2.1.1.1 rfl ?_
  refine go_int kk250_0.1.2.1.1.2 (-1) rfl ?_
  refine go_putI (bI := 3) kk250_0.1.2.1.2 e8 hK0 (by decide) rfl rfl (inR_of (by decide)) (fun g9 e10 => ?_)
  refine go_aload kk250_0.1.2.2.1 rfl ?_
  refine go_int kk250_0.1.2.2.2 0 rfl ?_
  refine go_putB (bI := 8) kk250_0.2.1.1.1.1 e10 hK0 (by decide) rfl rfl (Or.inl rfl) (fun g11 e12 => ?_)
  refine go_aload kk250_0.2.1.1.1.2 rfl ?_
  refine go_int kk250_0.2.1.1.2 0 rfl ?_
  refine go_putB (bI := 9) kk250_0.2.1.2.1.1 e12 hK0 (by decide) rfl rfl (Or.inl rfl) (fun g13 e14 => ?_)
  refine go_aload kk250_0.2.1.2.1.2 rfl ?_
  refine go_int kk250_0.2.1.2.2 0 rfl ?_
  refine go_putB (bI := 10) kk250_0.2.2.1.1.1 e14 hK0 (by decide) rfl rfl (Or.inl rfl) (fun g15 e16 => ?_)
  refine go_aload kk250_0.2.2.1.1.2 rfl ?_
  refine go_int kk250_0.2.2.1.2 0 rfl ?_
  refine go_putI (bI := 6) kk250_0.2.2.2.1 e16 hK0 (by decide) rfl rfl (inR_b (Or.inl rfl)) (fun g17 e18 => ?_)
  exact go_vret kk250_0.2.2.2.2 e18 ⟨Nat.zero_le _, Nat.zero_le _⟩ rfl
theorem tfI_at {Φ : ev_P} {d : Nat} (hd : 0 ≤ d) {g : gH} (hg : HR g) {v0 v1 : Int} (hK0 : kd v0 = 1) (h1 : InR v1) : Go Φ pr_P (fP g) 1 (fI_at g v0 v1) d (pr_P 223) 0 (ev_loc (pr_P 223).1 [(sR v0), (sI v1)]) [] g 0 0 := by
  show Go Φ pr_P (fP g) 1 (fI_at g v0 v1) d pr_m223 0 [some (sR v0), some (sI v1)] [] g 0 0
  unfold fI_at
  refine go_iload kk223_0.1.1.1.1 rfl ?_
  refine go_iflt kk223_0.1.1.1.2 h1 (fun c1 => ?_) (fun c2 => ?_)
  · refine go_int kk223_0.2.1.1.2 0 rfl ?_
    refine go_goto kk223_0.2.1.2.1 ?_
    exact go_iret kk223_0.2.2.2.2 hg (inR_b (Or.inl rfl)) ⟨Nat.zero_le _, Nat.zero_le _⟩ rfl
  · refine go_iload kk223_0.1.1.2.1 rfl ?_
    refine go_aload kk223_0.1.1.2.2 rfl ?_
    refine go_getI (bI := 1) kk223_0.1.2.1.1 hg hK0 (by decide) rfl rfl (fun r3 => ?_)
    refine go_cmlt kk223_0.1.2.1.2 h1 r3 (fun c4 => ?_) (fun c5 => ?_)
    · refine go_iload kk223_0.1.2.2.1 rfl ?_
      refine go_int kk223_0.1.2.2.2 500 rfl ?_
      refine go_cmlt kk223_0.2.1.1.1 h1 (inR_of (by decide)) (fun c6 => ?_) (fun c7 => ?_)
      · refine go_aload kk223_0.2.1.2.2 rfl ?_
        refine go_getR (bI := 0) kk223_0.2.2.1.1 hg hK0 (by decide) rfl rfl (fun r8 => ?_)
        refine go_iload kk223_0.2.2.1.2 rfl ?_
        refine go_ck (fun q10 => ?_)
        refine go_bald kk223_0.2.2.2.1 hg q10 (fun r9 => ?_)
        exact go_iret kk223_0.2.2.2.2 hg r9 ⟨Nat.zero_le _, Nat.zero_le _⟩ rfl
      · refine go_int kk223_0.2.1.1.2 0 rfl ?_
        refine go_goto kk223_0.2.1.2.1 ?_
        exact go_iret kk223_0.2.2.2.2 hg (inR_b (Or.inl rfl)) ⟨Nat.zero_le _, Nat.zero_le _⟩ rfl
    · refine go_int kk223_0.2.1.1.2 0 rfl ?_
      refine go_goto kk223_0.2.1.2.1 ?_
      exact go_iret kk223_0.2.2.2.2 hg (inR_b (Or.inl rfl)) ⟨Nat.zero_le _, Nat.zero_le _⟩ rfl
theorem tbS_isWord_24 {Φ : ev_P} {d : Nat} (hd : 1 ≤ d) {g : gH} (hg : HR g) {v0 v1 : Int} (hK0 : kd v0 = 4) {X24 : Int → Int → Option Int} (HX24 : ∀ (v2 : Int) (h2 : B01 v2) (v3 : Int) (h3 : InR v3), Go Φ pr_P (fP g) 3 (X24 v2 v3) d pr_m268 24 [some (sR v0), some (sR v1), some (sI v2), some (sI v3)] [] g 0 0) : ∀ (v2 : Int) (h2 : B01 v2) (v3 : Int) (h3 : InR v3), Go Φ pr_P (fP g) 3 (bS_isWord_24 g v0 v1 X24 v2 v3) d pr_m268 24 [some (sR v0), some (sR v1), some (sI v2), some (sI v3)] [] g 0 0 := by
  intro v2 h2 v3 h3
  unfold bS_isWord_24
  refine go_iload kk268_0.1.2.1.2.2 rfl ?_
  refine go_ifeq kk268_0.1.2.2.1.1.1 (inR_b h2) (fun c6 => ?_) (fun c7 => ?_)
  · refine go_iload kk268_0.2.2.2.2.1 rfl ?_
    exact go_bret kk268_0.2.2.2.2.2 hg h2 ⟨Nat.zero_le _, Nat.zero_le _⟩ rfl
  · refine go_iload kk268_0.1.2.2.1.1.2 rfl ?_
    refine go_aload kk268_0.1.2.2.1.2 rfl ?_
    refine go_ck (fun q8 => ?_)
    refine go_slen kk268_0.1.2.2.2.1 q8 rfl ⟨Nat.zero_le _, Nat.zero_le _⟩ ?_
    refine go_cmlt kk268_0.1.2.2.2.2 h3 (inR_gtl _) (fun c9 => ?_) (fun c10 => ?_)
    · refine go_aload kk268_0.2.1.1.1.1.1 rfl ?_
      refine go_getR (bI := 0) kk268_0.2.1.1.1.1.2 hg hK0 (by decide) rfl rfl (fun r11 => ?_)
      refine go_aload kk268_0.2.1.1.1.2 rfl ?_
      refine go_getI (bI := 5) kk268_0.2.1.1.2.1 hg hK0 (by decide) rfl rfl (fun r12 => ?_)
      refine go_iload kk268_0.2.1.1.2.2 rfl ?_
      refine go_iadd kk268_0.2.1.2.1.1.1 ?_
      refine go_ck (fun q13 => ?_)
      refine go_callP1 kk268_0.2.1.2.1.1.2 rfl rfl rfl ⟨by decide, _, rfl, q13⟩ ⟨Nat.zero_le _, Nat.zero_le _⟩ (by omega) (tfI_at (by omega) hg q13  (inR_w32 _)) (fun y14 r15 => ?_)
      refine go_aload kk268_0.2.1.2.1.2 rfl ?_
      refine go_iload kk268_0.2.1.2.2.1 rfl ?_
      refine go_ck (fun q18 => ?_)
      refine go_chat kk268_0.2.1.2.2.2 q18 rfl ⟨Nat.zero_le _, Nat.zero_le _⟩ ?_
      refine go_cmeq kk268_0.2.2.1.1.1.1 r15 (inR_gch _ _) (fun c19 => ?_) (fun c20 => ?_)
      · refine go_int kk268_0.2.2.1.1.1.2 1 rfl ?_
        refine go_goto kk268_0.2.2.1.1.2 ?_
        refine go_istore kk268_0.2.2.1.2.2 rfl (loc2 := [some (sR v0), some (sR v1), some (sI 1), some (sI v3)]) rfl ?_
        refine go_iinc kk268_0.2.2.2.1.1 rfl rfl 1 rfl (loc2 := [some (sR v0), some (sR v1), some (sI 1), some (sI (w32 (v3 + 1)))]) rfl ?_
        refine go_goto kk268_0.2.2.2.1.2 ?_
        exact HX24 1 (Or.inr rfl) (w32 (v3 + 1)) (inR_w32 _)
      · refine go_int kk268_0.2.2.1.2.1 0 rfl ?_
        refine go_istore kk268_0.2.2.1.2.2 rfl (loc2 := [some (sR v0), some (sR v1), some (sI 0), some (sI v3)]) rfl ?_
        refine go_iinc kk268_0.2.2.2.1.1 rfl rfl 1 rfl (loc2 := [some (sR v0), some (sR v1), some (sI 0), some (sI (w32 (v3 + 1)))]) rfl ?_
        refine go_goto kk268_0.2.2.2.1.2 ?_
        exact HX24 0 (Or.inl rfl) (w32 (v3 + 1)) (inR_w32 _)
    · refine go_iload kk268_0.2.2.2.2.1 rfl ?_
      exact go_bret kk268_0.2.2.2.2.2 hg h2 ⟨Nat.zero_le _, Nat.zero_le _⟩ rfl
theorem tlS_isWord_24 {Φ : ev_P} {d : Nat} (hd : 1 ≤ d) {g : gH} (hg : HR g) {v0 v1 : Int} (hK0 : kd v0 = 4) : ∀ n : Nat, ∀ (v2 : Int) (h2 : B01 v2) (v3 : Int) (h3 : InR v3), Go Φ pr_P (fP g) 3 (lS_isWord_24 g v0 v1 n v2 v3) d pr_m268 24 [some (sR v0), some (sR v1), some (sI v2), some (sI v3)] [] g 0 0 := by
  intro n
  induction n with
  | zero => intros; exact go_none
  | succ n ih => exact tbS_isWord_24 hd hg hK0 ih
theorem tfS_isWord {Φ : ev_P} {d : Nat} (hd : 1 ≤ d) {g : gH} (hg : HR g) {v0 v1 : Int} (hK0 : kd v0 = 4) : Go Φ pr_P (fP g) 3 (fS_isWord g v0 v1) d (pr_P 268) 0 (ev_loc (pr_P 268).1 [(sR v0), (sR v1)]) [] g 0 0 := by
  show Go Φ pr_P (fP g) 3 (fS_isWord g v0 v1) d pr_m268 0 [some (sR v0), some (sR v1), none, none] [] g 0 0
  unfold fS_isWord
  refine go_aload kk268_0.1.1.1.1.1.1 rfl ?_
  refine go_getI (bI := 6) kk268_0.1.1.1.1.1.2 hg hK0 (by decide) rfl rfl (fun r1 => ?_)
  refine go_aload kk268_0.1.1.1.1.2 rfl ?_
  refine go_getI (bI := 5) kk268_0.1.1.1.2.1 hg hK0 (by decide) rfl rfl (fun r2 => ?_)
  refine go_isub kk268_0.1.1.1.2.2 ?_
  refine go_aload kk268_0.1.1.2.1.1.1 rfl ?_
  refine go_ck (fun q3 => ?_)
  refine go_slen kk268_0.1.1.2.1.1.2 q3 rfl ⟨Nat.zero_le _, Nat.zero_le _⟩ ?_
  refine go_cmeq kk268_0.1.1.2.1.2 (inR_w32 _) (inR_gtl _) (fun c4 => ?_) (fun c5 => ?_)
  · refine go_int kk268_0.1.1.2.2.1 1 rfl ?_
    refine go_goto kk268_0.1.1.2.2.2 ?_
    refine go_istore kk268_0.1.2.1.1.1.2 rfl (loc2 := [some (sR v0), some (sR v1), some (sI 1), none]) rfl ?_
    refine go_int kk268_0.1.2.1.1.2 0 rfl ?_
    refine go_istore kk268_0.1.2.1.2.1 rfl (loc2 := [some (sR v0), some (sR v1), some (sI 1), some (sI 0)]) rfl ?_
    exact tlS_isWord_24 hd hg hK0 fu 1 (Or.inr rfl) 0 (inR_b (Or.inl rfl))
  · refine go_int kk268_0.1.2.1.1.1.1 0 rfl ?_
    refine go_istore kk268_0.1.2.1.1.1.2 rfl (loc2 := [some (sR v0), some (sR v1), some (sI 0), none]) rfl ?_
    refine go_int kk268_0.1.2.1.1.2 0 rfl ?_
    refine go_istore kk268_0.1.2.1.2.1 rfl (loc2 := [some (sR v0), some (sR v1), some (sI 0), some (sI 0)]) rfl ?_
    exact tlS_isWord_24 hd hg hK0 fu 0 (Or.inl rfl) 0 (inR_b (Or.inl rfl))
theorem tfS_ruleOfWord {Φ : ev_P} {d : Nat} (hd : 2 ≤ d) {g : gH} (hg : HR g) {v0 : Int} (hK0 : kd v0 = 4) : Go Φ pr_P (fP g) 1 (fS_ruleOfWord g v0) d (pr_P 253) 0 (ev_loc (pr_P 253).1 [(sR v0)]) [] g 0 0 := by
  show Go Φ pr_P (fP g) 1 (fS_ruleOfWord g v0) d pr_m253 0 [some (sR v0)] [] g 0 0
  unfold fS_ruleOfWord
  refine go_aload kk253_0.1.1.1.1.1 rfl ?_
  refine go_ldcs kk253_0.1.1.1.1.2 (by decide) (x := 2000008) rfl ?_
  refine go_callP3 kk253_0.1.1.1.2.1 rfl rfl rfl ⟨by decide, _, rfl, hK0⟩ ⟨Nat.zero_le _, Nat.zero_le _⟩ (by omega) (tfS_isWord (by omega) hg hK0 ) (fun y1 r2 => ?_)
  refine go_ifeq kk253_0.1.1.1.2.2 (inR_b r2) (fun c5 => ?_) (fun c6 => ?_)
  · refine go_aload kk253_0.1.1.2.2.1 rfl ?_
    refine go_ldcs kk253_0.1.1.2.2.2 (by decide) (x := 2000009) rfl ?_
    refine go_callP3 kk253_0.1.2.1.1.1 rfl rfl rfl ⟨by decide, _, rfl, hK0⟩ ⟨Nat.zero_le _, Nat.zero_le _⟩ (by omega) (tfS_isWord (by omega) hg hK0 ) (fun y7 r8 => ?_)
    refine go_ifeq kk253_0.1.2.1.1.2 (inR_b r8) (fun c11 => ?_) (fun c12 => ?_)
    · refine go_aload kk253_0.1.2.2.1.1 rfl ?_
      refine go_ldcs kk253_0.1.2.2.1.2 (by decide) (x := 2000010) rfl ?_
      refine go_callP3 kk253_0.1.2.2.2.1 rfl rfl rfl ⟨by decide, _, rfl, hK0⟩ ⟨Nat.zero_le _, Nat.zero_le _⟩ (by omega) (tfS_isWord (by omega) hg hK0 ) (fun y13 r14 => ?_)
      refine go_ifeq kk253_0.1.2.2.2.2 (inR_b r14) (fun c17 => ?_) (fun c18 => ?_)
      · refine go_aload kk253_0.2.1.1.2.1 rfl ?_
        refine go_ldcs kk253_0.2.1.1.2.2 (by decide) (x := 2000011) rfl ?_
        refine go_callP3 kk253_0.2.1.2.1.1 rfl rfl rfl ⟨by decide, _, rfl, hK0⟩ ⟨Nat.zero_le _, Nat.zero_le _⟩ (by omega) (tfS_isWord (by omega) hg hK0 ) (fun y19 r20 => ?_)
        refine go_ifeq kk253_0.2.1.2.1.2 (inR_b r20) (fun c23 => ?_) (fun c24 => ?_)
        · refine go_aload kk253_0.2.2.1.1.1 rfl ?_
          refine go_ldcs kk253_0.2.2.1.1.2 (by decide) (x := 2000012) rfl ?_
          refine go_callP3 kk253_0.2.2.1.2.1 rfl rfl rfl ⟨by decide, _, rfl, hK0⟩ ⟨Nat.zero_le _, Nat.zero_le _⟩ (by omega) (tfS_isWord (by omega) hg hK0 ) (fun y25 r26 => ?_)
          refine go_ifeq kk253_0.2.2.1.2.2 (inR_b r26) (fun c29 => ?_) (fun c30 => ?_)
          · refine go_int kk253_0.2.2.2.2.1 (-1) rfl ?_
            exact go_iret kk253_0.2.2.2.2.2 hg (inR_of (by decide)) ⟨Nat.zero_le _, Nat.zero_le _⟩ rfl
          · refine go_int kk253_0.2.2.2.1.1 4 rfl ?_
            refine go_goto kk253_0.2.2.2.1.2 ?_
            exact go_iret kk253_0.2.2.2.2.2 hg (inR_of (by decide)) ⟨Nat.zero_le _, Nat.zero_le _⟩ rfl
        · refine go_int kk253_0.2.1.2.2.1 3 rfl ?_
          exact go_iret kk253_0.2.1.2.2.2 hg (inR_of (by decide)) ⟨Nat.zero_le _, Nat.zero_le _⟩ rfl
      · refine go_int kk253_0.2.1.1.1.1 2 rfl ?_
        exact go_iret kk253_0.2.1.1.1.2 hg (inR_of (by decide)) ⟨Nat.zero_le _, Nat.zero_le _⟩ rfl
    · refine go_int kk253_0.1.2.1.2.1 1 rfl ?_
      exact go_iret kk253_0.1.2.1.2.2 hg (inR_b (Or.inr rfl)) ⟨Nat.zero_le _, Nat.zero_le _⟩ rfl
  · refine go_int kk253_0.1.1.2.1.1 0 rfl ?_
    exact go_iret kk253_0.1.1.2.1.2 hg (inR_b (Or.inl rfl)) ⟨Nat.zero_le _, Nat.zero_le _⟩ rfl
theorem tfS_fail {Φ : ev_P} {d : Nat} (hd : 0 ≤ d) {g : gH} (hg : HR g) {v0 v1 : Int} (hK0 : kd v0 = 4) (h1 : InR v1) : Go Φ pr_P fN 3 (fS_fail g v0 v1) d (pr_P 264) 0 (ev_loc (pr_P 264).1 [(sR v0), (sI v1)]) [] g 0 0 := by
  show Go Φ pr_P fN 3 (fS_fail g v0 v1) d pr_m264 0 [some (sR v0), some (sI v1)] [] g 0 0
  unfold fS_fail
  refine go_aload kk264_0.1.1.1.1 rfl ?_
  refine go_iload kk264_0.1.1.1.2 rfl ?_
  refine go_putI (bI := 2) kk264_0.1.1.2 hg hK0 (by decide) rfl rfl h1 (fun g1 e2 => ?_)
  refine go_aload kk264_0.1.2.1 rfl ?_
  refine go_aload kk264_0.1.2.2 rfl ?_
  refine go_getI (bI := 5) kk264_0.2.1.1 e2 hK0 (by decide) rfl rfl (fun r3 => ?_)
  refine go_putI (bI := 3) kk264_0.2.1.2 e2 hK0 (by decide) rfl rfl r3 (fun g4 e5 => ?_)
  refine go_int kk264_0.2.2.1 0 rfl ?_
  exact go_bret kk264_0.2.2.2 e5 (Or.inl rfl) ⟨Nat.zero_le _, Nat.zero_le _⟩ rfl
theorem tfS_isBlank {Φ : ev_P} {d : Nat} (hd : 0 ≤ d) {g : gH} (hg : HR g) {v0 : Int} (h0 : InR v0) : Go Φ pr_P (fP g) 3 (fS_isBlank g v0) d (pr_P 266) 0 (ev_loc (pr_P 266).1 [(sI v0)]) [] g 0 0 := by
  show Go Φ pr_P (fP g) 3 (fS_isBlank g v0) d pr_m266 0 [some (sI v0)] [] g 0 0
  unfold fS_isBlank
  refine go_iload kk266_0.1.1.1.1 rfl ?_
  refine go_int kk266_0.1.1.1.2 32 rfl ?_
  refine go_cmeq kk266_0.1.1.2 h0 (inR_of (by decide)) (fun c1 => ?_) (fun c2 => ?_)
  · refine go_int kk266_0.2.1.1.2 1 rfl ?_
    refine go_goto kk266_0.2.1.2 ?_
    exact go_bret kk266_0.2.2.2 hg (Or.inr rfl) ⟨Nat.zero_le _, Nat.zero_le _⟩ rfl
  · refine go_iload kk266_0.1.2.1 rfl ?_
    refine go_int kk266_0.1.2.2 10 rfl ?_
    refine go_cmeq kk266_0.2.1.1.1 h0 (inR_of (by decide)) (fun c3 => ?_) (fun c4 => ?_)
    · refine go_int kk266_0.2.1.1.2 1 rfl ?_
      refine go_goto kk266_0.2.1.2 ?_
      exact go_bret kk266_0.2.2.2 hg (Or.inr rfl) ⟨Nat.zero_le _, Nat.zero_le _⟩ rfl
    · refine go_int kk266_0.2.2.1 0 rfl ?_
      exact go_bret kk266_0.2.2.2 hg (Or.inl rfl) ⟨Nat.zero_le _, Nat.zero_le _⟩ rfl
theorem tjS_kindOf_28 {Φ : ev_P} {d : Nat} (hd : 0 ≤ d) {g : gH} (hg : HR g) {v0 : Int} (h0 : InR v0) : Go Φ pr_P (fP g) 1 (jS_kindOf_28 g v0 ) d pr_m267 28 [some (sI v0)] [] g 0 0 := by
  unfold jS_kindOf_28
  refine go_iload kk267_0.2.1.2.1.2 rfl ?_
  refine go_int kk267_0.2.1.2.2 59 rfl ?_
  refine go_cmeq kk267_0.2.2.1.1.1 h0 (inR_of (by decide)) (fun c9 => ?_) (fun c10 => ?_)
  · refine go_int kk267_0.2.2.1.1.2 3 rfl ?_
    refine go_goto kk267_0.2.2.1.2 ?_
    exact go_iret kk267_0.2.2.2.2 hg (inR_of (by decide)) ⟨Nat.zero_le _, Nat.zero_le _⟩ rfl
  · refine go_int kk267_0.2.2.2.1 4 rfl ?_
    exact go_iret kk267_0.2.2.2.2 hg (inR_of (by decide)) ⟨Nat.zero_le _, Nat.zero_le _⟩ rfl
theorem tjS_kindOf_14 {Φ : ev_P} {d : Nat} (hd : 0 ≤ d) {g : gH} (hg : HR g) {v0 : Int} (h0 : InR v0) : Go Φ pr_P (fP g) 1 (jS_kindOf_14 g v0 ) d pr_m267 14 [some (sI v0)] [] g 0 0 := by
  unfold jS_kindOf_14
  refine go_iload kk267_0.1.2.1.2 rfl ?_
  refine go_int kk267_0.1.2.2.1.1 48 rfl ?_
  refine go_cmlt kk267_0.1.2.2.1.2 h0 (inR_of (by decide)) (fun c5 => ?_) (fun c6 => ?_)
  · exact tjS_kindOf_28 hd hg h0
  · refine go_iload kk267_0.1.2.2.2 rfl ?_
    refine go_int kk267_0.2.1.1.1.1 57 rfl ?_
    refine go_cmgt kk267_0.2.1.1.1.2 h0 (inR_of (by decide)) (fun c7 => ?_) (fun c8 => ?_)
    · exact tjS_kindOf_28 hd hg h0
    · refine go_int kk267_0.2.1.1.2 2 rfl ?_
      exact go_iret kk267_0.2.1.2.1.1 hg (inR_of (by decide)) ⟨Nat.zero_le _, Nat.zero_le _⟩ rfl
theorem tfS_kindOf {Φ : ev_P} {d : Nat} (hd : 0 ≤ d) {g : gH} (hg : HR g) {v0 : Int} (h0 : InR v0) : Go Φ pr_P (fP g) 1 (fS_kindOf g v0) d (pr_P 267) 0 (ev_loc (pr_P 267).1 [(sI v0)]) [] g 0 0 := by
  show Go Φ pr_P (fP g) 1 (fS_kindOf g v0) d pr_m267 0 [some (sI v0)] [] g 0 0
  unfold fS_kindOf
  refine go_iload kk267_0.1.1.1.1.1 rfl ?_
  refine go_int kk267_0.1.1.1.1.2 97 rfl ?_
  refine go_cmlt kk267_0.1.1.1.2 h0 (inR_of (by decide)) (fun c1 => ?_) (fun c2 => ?_)
  · exact tjS_kindOf_14 hd hg h0
  · refine go_iload kk267_0.1.1.2.1.1 rfl ?_
    refine go_int kk267_0.1.1.2.1.2 122 rfl ?_
    refine go_cmgt kk267_0.1.1.2.2 h0 (inR_of (by decide)) (fun c3 => ?_) (fun c4 => ?_)
    · exact tjS_kindOf_14 hd hg h0
    · refine go_int kk267_0.1.2.1.1.1 1 rfl ?_
      exact go_iret kk267_0.1.2.1.1.2 hg (inR_b (Or.inr rfl)) ⟨Nat.zero_le _, Nat.zero_le _⟩ rfl
theorem tjS_advance_215 {Φ : ev_P} {d : Nat} (hd : 1 ≤ d) {g : gH} (hg : HR g) {v0 : Int} (hK0 : kd v0 = 4) : Go Φ pr_P fN 0 (jS_advance_215 g v0 ) d pr_m265 215 [some (sR v0)] [] g 0 0 := by
  unfold jS_advance_215
  refine go_aload kk265_1.2.2.1.1.1.1 rfl ?_
  refine go_getI (bI := 4) kk265_1.2.2.1.1.1.2 hg hK0 (by decide) rfl rfl (fun r105 => ?_)
  refine go_int kk265_1.2.2.1.1.2.1 2 rfl ?_
  refine go_cmeq kk265_1.2.2.1.1.2.2 r105 (inR_of (by decide)) (fun c106 => ?_) (fun c107 => ?_)
  · refine go_aload kk265_1.2.2.1.2.1.1 rfl ?_
    refine go_getI (bI := 6) kk265_1.2.2.1.2.1.2 hg hK0 (by decide) rfl rfl (fun r108 => ?_)
    refine go_aload kk265_1.2.2.1.2.2.1 rfl ?_
    refine go_getI (bI := 5) kk265_1.2.2.1.2.2.2 hg hK0 (by decide) rfl rfl (fun r109 => ?_)
    refine go_isub kk265_1.2.2.2.1.1.1 ?_
    refine go_int kk265_1.2.2.2.1.1.2 2 rfl ?_
    refine go_cmgt kk265_1.2.2.2.1.2.1 (inR_w32 _) (inR_of (by decide)) (fun c110 => ?_) (fun c111 => ?_)
    · refine go_aload kk265_1.2.2.2.1.2.2 rfl ?_
      refine go_int kk265_1.2.2.2.2.1.1 4 rfl ?_
      refine go_putI (bI := 4) kk265_1.2.2.2.2.1.2 hg hK0 (by decide) rfl rfl (inR_of (by decide)) (fun g112 e113 => ?_)
      exact go_vret kk265_1.2.2.2.2.2 e113 ⟨Nat.zero_le _, Nat.zero_le _⟩ rfl
    · exact go_vret kk265_1.2.2.2.2.2 hg ⟨Nat.zero_le _, Nat.zero_le _⟩ rfl
  · exact go_vret kk265_1.2.2.2.2.2 hg ⟨Nat.zero_le _, Nat.zero_le _⟩ rfl
theorem tjS_advance_141 {Φ : ev_P} {d : Nat} (hd : 1 ≤ d) {X125 : gH → Option (Int × gH)} {g : gH} (hg : HR g) {v0 : Int} (hK0 : kd v0 = 4) (HX125 : ∀ (g : gH) (hg : HR g), Go Φ pr_P fN 0 (X125 g) d pr_m265 125 [some (sR v0)] [] g 0 0) : Go Φ pr_P fN 0 (jS_advance_141 X125 g v0 ) d pr_m265 141 [some (sR v0)] [] g 0 0 := by
  unfold jS_advance_141
  refine go_aload kk265_1.1.1.2.1.1.2 rfl ?_
  refine go_getI (bI := 6) kk265_1.1.1.2.1.2.1 hg hK0 (by decide) rfl rfl (fun r74 => ?_)
  refine go_aload kk265_1.1.1.2.1.2.2 rfl ?_
  refine go_getR (bI := 0) kk265_1.1.1.2.2.1.1 hg hK0 (by decide) rfl rfl (fun r75 => ?_)
  refine go_ck (fun q76 => ?_)
  refine go_getI (bI := 1) kk265_1.1.1.2.2.1.2 hg q76 (by decide) rfl rfl (fun r77 => ?_)
  refine go_cmlt kk265_1.1.1.2.2.2 r74 r77 (fun c78 => ?_) (fun c79 => ?_)
  · refine go_aload kk265_1.1.2.1.1.1.1 rfl ?_
    refine go_getR (bI := 0) kk265_1.1.2.1.1.1.2 hg hK0 (by decide) rfl rfl (fun r80 => ?_)
    refine go_aload kk265_1.1.2.1.1.2.1 rfl ?_
    refine go_getI (bI := 6) kk265_1.1.2.1.1.2.2 hg hK0 (by decide) rfl rfl (fun r81 => ?_)
    refine go_callP1 kk265_1.1.2.1.2.1.1 rfl rfl rfl ⟨by decide, _, rfl, q76⟩ ⟨Nat.zero_le _, Nat.zero_le _⟩ (by omega) (tfI_at (by omega) hg q76  r81) (fun y82 r83 => ?_)
    refine go_callP1 kk265_1.1.2.1.2.1.2 rfl rfl rfl trivial ⟨Nat.zero_le _, Nat.zero_le _⟩ (by omega) (tfS_kindOf (by omega) hg  r83) (fun y86 r87 => ?_)
    refine go_aload kk265_1.1.2.1.2.2.1 rfl ?_
    refine go_getI (bI := 4) kk265_1.1.2.1.2.2.2 hg hK0 (by decide) rfl rfl (fun r90 => ?_)
    refine go_cmeq kk265_1.1.2.2.1.1.1 r87 r90 (fun c91 => ?_) (fun c92 => ?_)
    · refine go_aload kk265_1.1.2.2.1.1.2 rfl ?_
      refine go_int kk265_1.1.2.2.1.2.1 10 rfl ?_
      refine go_aload kk265_1.1.2.2.1.2.2 rfl ?_
      refine go_getI (bI := 7) kk265_1.1.2.2.2.1.1 hg hK0 (by decide) rfl rfl (fun r93 => ?_)
      refine go_ibin kk265_1.1.2.2.2.1.2 ?_
      refine go_aload kk265_1.1.2.2.2.2 rfl ?_
      refine go_getR (bI := 0) kk265_1.2.1.1.1.1.1 hg hK0 (by decide) rfl rfl (fun r94 => ?_)
      refine go_aload kk265_1.2.1.1.1.1.2 rfl ?_
      refine go_getI (bI := 6) kk265_1.2.1.1.1.2.1 hg hK0 (by decide) rfl rfl (fun r95 => ?_)
      refine go_callP1 kk265_1.2.1.1.1.2.2 rfl rfl rfl ⟨by decide, _, rfl, q76⟩ ⟨Nat.zero_le _, Nat.zero_le _⟩ (by omega) (tfI_at (by omega) hg q76  r95) (fun y96 r97 => ?_)
      refine go_iadd kk265_1.2.1.1.2.1.1 ?_
      refine go_int kk265_1.2.1.1.2.1.2 48 rfl ?_
      refine go_isub kk265_1.2.1.1.2.2.1 ?_
      refine go_putI (bI := 7) kk265_1.2.1.1.2.2.2 hg hK0 (by decide) rfl rfl (inR_w32 _) (fun g100 e101 => ?_)
      refine go_aload kk265_1.2.1.2.1.1.1 rfl ?_
      refine go_dupR kk265_1.2.1.2.1.1.2 ?_
      refine go_getI (bI := 6) kk265_1.2.1.2.1.2.1 e101 hK0 (by decide) rfl rfl (fun r102 => ?_)
      refine go_int kk265_1.2.1.2.1.2.2 1 rfl ?_
      refine go_iadd kk265_1.2.1.2.2.1.1 ?_
      refine go_putI (bI := 6) kk265_1.2.1.2.2.1.2 e101 hK0 (by decide) rfl rfl (inR_w32 _) (fun g103 e104 => ?_)
      refine go_goto kk265_1.2.1.2.2.2 ?_
      exact HX125 g103 e104
    · exact tjS_advance_215 hd hg hK0
  · exact tjS_advance_215 hd hg hK0
theorem tbS_advance_125 {Φ : ev_P} {d : Nat} (hd : 1 ≤ d) {v0 : Int} (hK0 : kd v0 = 4) {X125 : gH → Option (Int × gH)} (HX125 : ∀ (g : gH) (hg : HR g), Go Φ pr_P fN 0 (X125 g) d pr_m265 125 [some (sR v0)] [] g 0 0) : ∀ (g : gH) (hg : HR g), Go Φ pr_P fN 0 (bS_advance_125 v0 X125 g) d pr_m265 125 [some (sR v0)] [] g 0 0 := by
  intro g hg
  unfold bS_advance_125
  refine go_aload kk265_1.1.1.1.1.1.2 rfl ?_
  refine go_getI (bI := 4) kk265_1.1.1.1.1.2.1 hg hK0 (by decide) rfl rfl (fun r68 => ?_)
  refine go_int kk265_1.1.1.1.1.2.2 1 rfl ?_
  refine go_cmeq kk265_1.1.1.1.2.1.1 r68 (inR_b (Or.inr rfl)) (fun c69 => ?_) (fun c70 => ?_)
  · exact tjS_advance_141 hd hg hK0 HX125
  · refine go_aload kk265_1.1.1.1.2.1.2 rfl ?_
    refine go_getI (bI := 4) kk265_1.1.1.1.2.2.1 hg hK0 (by decide) rfl rfl (fun r71 => ?_)
    refine go_int kk265_1.1.1.1.2.2.2 2 rfl ?_
    refine go_cmeq kk265_1.1.1.2.1.1.1 r71 (inR_of (by decide)) (fun c72 => ?_) (fun c73 => ?_)
    · exact tjS_advance_141 hd hg hK0 HX125
    · exact tjS_advance_215 hd hg hK0
theorem tlS_advance_125 {Φ : ev_P} {d : Nat} (hd : 1 ≤ d) {v0 : Int} (hK0 : kd v0 = 4) : ∀ n : Nat, ∀ (g : gH) (hg : HR g), Go Φ pr_P fN 0 (lS_advance_125 v0 n g) d pr_m265 125 [some (sR v0)] [] g 0 0 := by
  intro n
  induction n with
  | zero => intros; exact go_none
  | succ n ih => exact tbS_advance_125 hd hK0 ih
theorem tjS_advance_52 {Φ : ev_P} {d : Nat} (hd : 1 ≤ d) {g : gH} (hg : HR g) {v0 : Int} (hK0 : kd v0 = 4) : Go Φ pr_P fN 0 (jS_advance_52 g v0 ) d pr_m265 52 [some (sR v0)] [] g 0 0 := by
  unfold jS_advance_52
  refine go_aload kk265_0.1.2.2.1.1.2 rfl ?_
  refine go_aload kk265_0.1.2.2.1.2.1 rfl ?_
  refine go_getI (bI := 5) kk265_0.1.2.2.1.2.2 hg hK0 (by decide) rfl rfl (fun r25 => ?_)
  refine go_putI (bI := 6) kk265_0.1.2.2.2.1.1 hg hK0 (by decide) rfl rfl r25 (fun g26 e27 => ?_)
  refine go_aload kk265_0.1.2.2.2.1.2 rfl ?_
  refine go_int kk265_0.1.2.2.2.2 0 rfl ?_
  refine go_putI (bI := 4) kk265_0.2.1.1.1.1.1 e27 hK0 (by decide) rfl rfl (inR_b (Or.inl rfl)) (fun g28 e29 => ?_)
  refine go_aload kk265_0.2.1.1.1.1.2 rfl ?_
  refine go_getI (bI := 5) kk265_0.2.1.1.1.2.1 e29 hK0 (by decide) rfl rfl (fun r30 => ?_)
  refine go_aload kk265_0.2.1.1.1.2.2 rfl ?_
  refine go_getR (bI := 0) kk265_0.2.1.1.2.1.1 e29 hK0 (by decide) rfl rfl (fun r31 => ?_)
  refine go_ck (fun q32 => ?_)
  refine go_getI (bI := 1) kk265_0.2.1.1.2.1.2 e29 q32 (by decide) rfl rfl (fun r33 => ?_)
  refine go_cmlt kk265_0.2.1.1.2.2.1 r30 r33 (fun c34 => ?_) (fun c35 => ?_)
  · refine go_aload kk265_0.2.1.1.2.2.2 rfl ?_
    refine go_aload kk265_0.2.1.2.1.1.1 rfl ?_
    refine go_getR (bI := 0) kk265_0.2.1.2.1.1.2 e29 hK0 (by decide) rfl rfl (fun r36 => ?_)
    refine go_aload kk265_0.2.1.2.1.2.1 rfl ?_
    refine go_getI (bI := 5) kk265_0.2.1.2.1.2.2 e29 hK0 (by decide) rfl rfl (fun r37 => ?_)
    refine go_callP1 kk265_0.2.1.2.2.1.1 rfl rfl rfl ⟨by decide, _, rfl, q32⟩ ⟨Nat.zero_le _, Nat.zero_le _⟩ (by omega) (tfI_at (by omega) e29 q32  r37) (fun y38 r39 => ?_)
    refine go_callP1 kk265_0.2.1.2.2.1.2 rfl rfl rfl trivial ⟨Nat.zero_le _, Nat.zero_le _⟩ (by omega) (tfS_kindOf (by omega) e29  r39) (fun y42 r43 => ?_)
    refine go_putI (bI := 4) kk265_0.2.1.2.2.2 e29 hK0 (by decide) rfl rfl r43 (fun g46 e47 => ?_)
    refine go_aload kk265_0.2.2.1.1.1.1 rfl ?_
    refine go_dupR kk265_0.2.2.1.1.1.2 ?_
    refine go_getI (bI := 6) kk265_0.2.2.1.1.2.1 e47 hK0 (by decide) rfl rfl (fun r48 => ?_)
    refine go_int kk265_0.2.2.1.1.2.2 1 rfl ?_
    refine go_iadd kk265_0.2.2.1.2.1.1 ?_
    refine go_putI (bI := 6) kk265_0.2.2.1.2.1.2 e47 hK0 (by decide) rfl rfl (inR_w32 _) (fun g49 e50 => ?_)
    refine go_aload kk265_0.2.2.1.2.2 rfl ?_
    refine go_aload kk265_0.2.2.2.1.1.1 rfl ?_
    refine go_getR (bI := 0) kk265_0.2.2.2.1.1.2 e50 hK0 (by decide) rfl rfl (fun r51 => ?_)
    refine go_aload kk265_0.2.2.2.1.2.1 rfl ?_
    refine go_getI (bI := 5) kk265_0.2.2.2.1.2.2 e50 hK0 (by decide) rfl rfl (fun r52 => ?_)
    refine go_ck (fun q53 => ?_)
    refine go_callP1 kk265_0.2.2.2.2.1.1 rfl rfl rfl ⟨by decide, _, rfl, q53⟩ ⟨Nat.zero_le _, Nat.zero_le _⟩ (by omega) (tfI_at (by omega) e50 q53  r52) (fun y54 r55 => ?_)
    refine go_int kk265_0.2.2.2.2.1.2 48 rfl ?_
    refine go_isub kk265_0.2.2.2.2.2 ?_
    refine go_putI (bI := 7) kk265_1.1.1.1.1.1.1 e50 hK0 (by decide) rfl rfl (inR_w32 _) (fun g58 e59 => ?_)
    exact tlS_advance_125 hd hK0 fu g58 e59
  · refine go_aload kk265_0.2.2.1.2.2 rfl ?_
    refine go_aload kk265_0.2.2.2.1.1.1 rfl ?_
    refine go_getR (bI := 0) kk265_0.2.2.2.1.1.2 e29 hK0 (by decide) rfl rfl (fun r60 => ?_)
    refine go_aload kk265_0.2.2.2.1.2.1 rfl ?_
    refine go_getI (bI := 5) kk265_0.2.2.2.1.2.2 e29 hK0 (by decide) rfl rfl (fun r61 => ?_)
    refine go_callP1 kk265_0.2.2.2.2.1.1 rfl rfl rfl ⟨by decide, _, rfl, q32⟩ ⟨Nat.zero_le _, Nat.zero_le _⟩ (by omega) (tfI_at (by omega) e29 q32  r61) (fun y62 r63 => ?_)
    refine go_int kk265_0.2.2.2.2.1.2 48 rfl ?_
    refine go_isub kk265_0.2.2.2.2.2 ?_
    refine go_putI (bI := 7) kk265_1.1.1.1.1.1.1 e29 hK0 (by decide) rfl rfl (inR_w32 _) (fun g66 e67 => ?_)
    exact tlS_advance_125 hd hK0 fu g66 e67
theorem tbS_advance_8 {Φ : ev_P} {d : Nat} (hd : 1 ≤ d) {v0 : Int} (hK0 : kd v0 = 4) {X8 : gH → Option (Int × gH)} (HX8 : ∀ (g : gH) (hg : HR g), Go Φ pr_P fN 0 (X8 g) d pr_m265 8 [some (sR v0)] [] g 0 0) : ∀ (g : gH) (hg : HR g), Go Φ pr_P fN 0 (bS_advance_8 v0 X8 g) d pr_m265 8 [some (sR v0)] [] g 0 0 := by
  intro g hg
  unfold bS_advance_8
  refine go_aload kk265_0.1.1.1.2.1.1 rfl ?_
  refine go_getI (bI := 5) kk265_0.1.1.1.2.1.2 hg hK0 (by decide) rfl rfl (fun r4 => ?_)
  refine go_aload kk265_0.1.1.1.2.2.1 rfl ?_
  refine go_getR (bI := 0) kk265_0.1.1.1.2.2.2 hg hK0 (by decide) rfl rfl (fun r5 => ?_)
  refine go_ck (fun q6 => ?_)
  refine go_getI (bI := 1) kk265_0.1.1.2.1.1.1 hg q6 (by decide) rfl rfl (fun r7 => ?_)
  refine go_cmlt kk265_0.1.1.2.1.1.2 r4 r7 (fun c8 => ?_) (fun c9 => ?_)
  · refine go_aload kk265_0.1.1.2.1.2.1 rfl ?_
    refine go_getR (bI := 0) kk265_0.1.1.2.1.2.2 hg hK0 (by decide) rfl rfl (fun r10 => ?_)
    refine go_aload kk265_0.1.1.2.2.1.1 rfl ?_
    refine go_getI (bI := 5) kk265_0.1.1.2.2.1.2 hg hK0 (by decide) rfl rfl (fun r11 => ?_)
    refine go_callP1 kk265_0.1.1.2.2.2 rfl rfl rfl ⟨by decide, _, rfl, q6⟩ ⟨Nat.zero_le _, Nat.zero_le _⟩ (by omega) (tfI_at (by omega) hg q6  r11) (fun y12 r13 => ?_)
    refine go_callP3 kk265_0.1.2.1.1.1.1 rfl rfl rfl trivial ⟨Nat.zero_le _, Nat.zero_le _⟩ (by omega) (tfS_isBlank (by omega) hg  r13) (fun y16 r17 => ?_)
    refine go_ifeq kk265_0.1.2.1.1.1.2 (inR_b r17) (fun c20 => ?_) (fun c21 => ?_)
    · exact tjS_advance_52 hd hg hK0
    · refine go_aload kk265_0.1.2.1.1.2.1 rfl ?_
      refine go_dupR kk265_0.1.2.1.1.2.2 ?_
      refine go_getI (bI := 5) kk265_0.1.2.1.2.1.1 hg hK0 (by decide) rfl rfl (fun r22 => ?_)
      refine go_int kk265_0.1.2.1.2.1.2 1 rfl ?_
      refine go_iadd kk265_0.1.2.1.2.2.1 ?_
      refine go_putI (bI := 5) kk265_0.1.2.1.2.2.2 hg hK0 (by decide) rfl rfl (inR_w32 _) (fun g23 e24 => ?_)
      refine go_goto kk265_0.1.2.2.1.1.1 ?_
      exact HX8 g23 e24
  · exact tjS_advance_52 hd hg hK0
theorem tlS_advance_8 {Φ : ev_P} {d : Nat} (hd : 1 ≤ d) {v0 : Int} (hK0 : kd v0 = 4) : ∀ n : Nat, ∀ (g : gH) (hg : HR g), Go Φ pr_P fN 0 (lS_advance_8 v0 n g) d pr_m265 8 [some (sR v0)] [] g 0 0 := by
  intro n
  induction n with
  | zero => intros; exact go_none
  | succ n ih => exact tbS_advance_8 hd hK0 ih
theorem tfS_advance {Φ : ev_P} {d : Nat} (hd : 1 ≤ d) {g : gH} (hg : HR g) {v0 : Int} (hK0 : kd v0 = 4) : Go Φ pr_P fN 0 (fS_advance g v0) d (pr_P 265) 0 (ev_loc (pr_P 265).1 [(sR v0)]) [] g 0 0 := by
  show Go Φ pr_P fN 0 (fS_advance g v0) d pr_m265 0 [some (sR v0)] [] g 0 0
  unfold fS_advance
  refine go_aload kk265_0.1.1.1.1.1.1 rfl ?_
  refine go_aload kk265_0.1.1.1.1.1.2 rfl ?_
  refine go_getI (bI := 6) kk265_0.1.1.1.1.2.1 hg hK0 (by decide) rfl rfl (fun r1 => ?_)
  refine go_putI (bI := 5) kk265_0.1.1.1.1.2.2 hg hK0 (by decide) rfl rfl r1 (fun g2 e3 => ?_)
  exact tlS_advance_8 hd hK0 fu g2 e3
theorem tbT_hasRule_11 {Φ : ev_P} {d : Nat} (hd : 0 ≤ d) {g : gH} (hg : HR g) {v1 v2 v3 : Int} (h1 : InR v1) (h2 : RfR v2) (h3 : InR v3) {X11 : Int → Option Int} (HX11 : ∀ (v4 : Int) (h4 : InR v4) (u0 : Option ev_V) (w0 : nwo u0) (u5 : Option ev_V) (w5 : nwo u5), Go Φ pr_P (fP g) 3 (X11 v4) d pr_m271 11 [u0, some (sI v1), some (sR v2), some (sI v3), some (sI v4), u5] [] g 0 0) : ∀ (v4 : Int) (h4 : InR v4) (u0 : Option ev_V) (w0 : nwo u0) (u5 : Option ev_V) (w5 : nwo u5), Go Φ pr_P (fP g) 3 (bT_hasRule_11 g v1 v2 v3 X11 v4) d pr_m271 11 [u0, some (sI v1), some (sR v2), some (sI v3), some (sI v4), u5] [] g 0 0 := by
  intro v4 h4 u0 w0 u5 w5
  unfold bT_hasRule_11
  refine go_iload kk271_0.1.2.1.2 rfl ?_
  refine go_iload kk271_0.1.2.2.1.1 rfl ?_
  refine go_cmlt kk271_0.1.2.2.1.2 h4 h3 (fun c4 => ?_) (fun c5 => ?_)
  · refine go_aload kk271_0.1.2.2.2 rfl ?_
    refine go_iload kk271_0.2.1.1.1.1 rfl ?_
    refine go_ck (fun q7 => ?_)
    refine go_iald kk271_0.2.1.1.1.2 hg q7 (fun r6 => ?_)
    refine go_istore kk271_0.2.1.1.2 rfl (loc2 := [u0, some (sI v1), some (sR v2), some (sI v3), some (sI v4), some (sI (g v2 v4))]) rfl ?_
    refine go_iload kk271_0.2.1.2.1.1 rfl ?_
    refine go_iload kk271_0.2.1.2.1.2 rfl ?_
    refine go_cmeq kk271_0.2.1.2.2 r6 h1 (fun c8 => ?_) (fun c9 => ?_)
    · refine go_int kk271_0.2.2.1.1.1 1 rfl ?_
      exact go_bret kk271_0.2.2.1.1.2 hg (Or.inr rfl) ⟨Nat.zero_le _, Nat.zero_le _⟩ rfl
    · refine go_iinc kk271_0.2.2.1.2 rfl rfl 1 rfl (loc2 := [u0, some (sI v1), some (sR v2), some (sI v3), some (sI (w32 (v4 + 1))), some (sI (g v2 v4))]) rfl ?_
      refine go_goto kk271_0.2.2.2.1.1 ?_
      exact HX11 (w32 (v4 + 1)) (inR_w32 _) u0 w0 (some (sI (g v2 v4))) rfl
  · refine go_int kk271_0.2.2.2.1.2 0 rfl ?_
    exact go_bret kk271_0.2.2.2.2 hg (Or.inl rfl) ⟨Nat.zero_le _, Nat.zero_le _⟩ rfl
theorem tlT_hasRule_11 {Φ : ev_P} {d : Nat} (hd : 0 ≤ d) {g : gH} (hg : HR g) {v1 v2 v3 : Int} (h1 : InR v1) (h2 : RfR v2) (h3 : InR v3) : ∀ n : Nat, ∀ (v4 : Int) (h4 : InR v4) (u0 : Option ev_V) (w0 : nwo u0) (u5 : Option ev_V) (w5 : nwo u5), Go Φ pr_P (fP g) 3 (lT_hasRule_11 g v1 v2 v3 n v4) d pr_m271 11 [u0, some (sI v1), some (sR v2), some (sI v3), some (sI v4), u5] [] g 0 0 := by
  intro n
  induction n with
  | zero => intros; exact go_none
  | succ n ih => exact tbT_hasRule_11 hd hg h1 h2 h3 ih
theorem tfT_hasRule {Φ : ev_P} {d : Nat} (hd : 0 ≤ d) {g : gH} (hg : HR g) {v0 v1 : Int} (hK0 : kd v0 = 5) (h1 : InR v1) : Go Φ pr_P (fP g) 3 (fT_hasRule g v0 v1) d (pr_P 271) 0 (ev_loc (pr_P 271).1 [(sR v0), (sI v1)]) [] g 0 0 := by
  show Go Φ pr_P (fP g) 3 (fT_hasRule g v0 v1) d pr_m271 0 [some (sR v0), some (sI v1), none, none, none, none] [] g 0 0
  unfold fT_hasRule
  refine go_aload kk271_0.1.1.1.1.1 rfl ?_
  refine go_getR (bI := 3) kk271_0.1.1.1.1.2 hg hK0 (by decide) rfl rfl (fun r1 => ?_)
  refine go_astore kk271_0.1.1.1.2 rfl (loc2 := [some (sR v0), some (sI v1), some (sR (g v0 3)), none, none, none]) rfl ?_
  refine go_aload kk271_0.1.1.2.1.1 rfl ?_
  refine go_ck (fun q3 => ?_)
  refine go_alen kk271_0.1.1.2.1.2 (ka_20 q3) (fun r2 => ?_)
  refine go_istore kk271_0.1.1.2.2 rfl (loc2 := [some (sR v0), some (sI v1), some (sR (g v0 3)), some (sI (sz (g v0 3))), none, none]) rfl ?_
  refine go_int kk271_0.1.2.1.1.1 0 rfl ?_
  refine go_istore kk271_0.1.2.1.1.2 rfl (loc2 := [some (sR v0), some (sI v1), some (sR (g v0 3)), some (sI (sz (g v0 3))), some (sI 0), none]) rfl ?_
  exact tlT_hasRule_11 hd hg h1 r1 r2 fu 0 (inR_b (Or.inl rfl)) (some (sR v0)) rfl none rfl
theorem tjS_takeOrder_119 {Φ : ev_P} {d : Nat} (hd : 3 ≤ d) {g : gH} (hg : HR g) {s0 s1 : Int} (z0 : RfR s0) (z1 : InR s1) (u0 : Option ev_V) (w0 : nwo u0) (u1 : Option ev_V) (w1 : nwo u1) (u2 : Option ev_V) (w2 : nwo u2) : Go Φ pr_P fN 3 (jS_takeOrder_119 g s0 s1 ) d pr_m252 119 [u0, u1, u2] [(sI s1), (sR s0)] g 0 0 := by
  unfold jS_takeOrder_119
  refine go_ck (fun q65 => ?_)
  refine go_callN3 kk252_1.2.2.1.2.1 rfl rfl rfl ⟨by decide, _, rfl, q65⟩ ⟨Nat.zero_le _, Nat.zero_le _⟩ (by omega) (tfS_fail (by omega) hg q65  z1) (fun y66 g68 r67 e69 => ?_)
  refine go_ifeq kk252_1.2.2.1.2.2 (inR_b r67) (fun c70 => ?_) (fun c71 => ?_)
  · refine go_int kk252_1.2.2.2.2.1 0 rfl ?_
    exact go_bret kk252_1.2.2.2.2.2 e69 (Or.inl rfl) ⟨Nat.zero_le _, Nat.zero_le _⟩ rfl
  · refine go_int kk252_1.2.2.2.1.1 1 rfl ?_
    refine go_goto kk252_1.2.2.2.1.2 ?_
    exact go_bret kk252_1.2.2.2.2.2 e69 (Or.inr rfl) ⟨Nat.zero_le _, Nat.zero_le _⟩ rfl
theorem tjS_takeOrder_97 {Φ : ev_P} {d : Nat} (hd : 3 ≤ d) {g : gH} (hg : HR g) {v0 : Int} (hK0 : kd v0 = 4) (u1 : Option ev_V) (w1 : nwo u1) (u2 : Option ev_V) (w2 : nwo u2) : Go Φ pr_P fN 3 (jS_takeOrder_97 g v0 ) d pr_m252 97 [some (sR v0), u1, u2] [] g 0 0 := by
  unfold jS_takeOrder_97
  refine go_aload kk252_1.2.1.1.1.1.1 rfl ?_
  refine go_getI (bI := 4) kk252_1.2.1.1.1.1.2 hg hK0 (by decide) rfl rfl (fun r56 => ?_)
  refine go_int kk252_1.2.1.1.1.2 3 rfl ?_
  refine go_cmeq kk252_1.2.1.1.2.1 r56 (inR_of (by decide)) (fun c57 => ?_) (fun c58 => ?_)
  · refine go_int kk252_1.2.2.2.1.1 1 rfl ?_
    refine go_goto kk252_1.2.2.2.1.2 ?_
    exact go_bret kk252_1.2.2.2.2.2 hg (Or.inr rfl) ⟨Nat.zero_le _, Nat.zero_le _⟩ rfl
  · refine go_aload kk252_1.2.1.1.2.2 rfl ?_
    refine go_aload kk252_1.2.1.2.1.1 rfl ?_
    refine go_callP1 kk252_1.2.1.2.1.2 rfl rfl rfl ⟨by decide, _, rfl, hK0⟩ ⟨Nat.zero_le _, Nat.zero_le _⟩ (by omega) (tfS_ruleOfWord (by omega) hg hK0 ) (fun y59 r60 => ?_)
    refine go_int kk252_1.2.1.2.2.1 (-1) rfl ?_
    refine go_cmeq kk252_1.2.1.2.2.2 r60 (inR_of (by decide)) (fun c63 => ?_) (fun c64 => ?_)
    · refine go_int kk252_1.2.2.1.1.1.1 1 rfl ?_
      refine go_goto kk252_1.2.2.1.1.1.2 ?_
      exact tjS_takeOrder_119 hd hg (rfR_kd hK0 (by decide)) (inR_b (Or.inr rfl)) (some (sR v0)) rfl u1 w1 u2 w2
    · refine go_int kk252_1.2.2.1.1.2 3 rfl ?_
      exact tjS_takeOrder_119 hd hg (rfR_kd hK0 (by decide)) (inR_of (by decide)) (some (sR v0)) rfl u1 w1 u2 w2
theorem tbS_takeOrder_31 {Φ : ev_P} {d : Nat} (hd : 3 ≤ d) {v0 : Int} (hK0 : kd v0 = 4) {X31 : Int → gH → Option (Int × gH)} (HX31 : ∀ (v1 : Int) (h1 : InR v1) (g : gH) (hg : HR g) (u2 : Option ev_V) (w2 : nwo u2), Go Φ pr_P fN 3 (X31 v1 g) d pr_m252 31 [some (sR v0), some (sI v1), u2] [] g 0 0) : ∀ (v1 : Int) (h1 : InR v1) (g : gH) (hg : HR g) (u2 : Option ev_V) (w2 : nwo u2), Go Φ pr_P fN 3 (bS_takeOrder_31 v0 X31 v1 g) d pr_m252 31 [some (sR v0), some (sI v1), u2] [] g 0 0 := by
  intro v1 h1 g hg u2 w2
  unfold bS_takeOrder_31
  refine go_iload kk252_0.1.2.2.2.2 rfl ?_
  refine go_int kk252_0.2.1.1.1.1.1 5 rfl ?_
  refine go_cmlt kk252_0.2.1.1.1.1.2 h1 (inR_of (by decide)) (fun c20 => ?_) (fun c21 => ?_)
  · refine go_aload kk252_0.2.1.1.1.2 rfl ?_
    refine go_getI (bI := 4) kk252_0.2.1.1.2.1 hg hK0 (by decide) rfl rfl (fun r22 => ?_)
    refine go_int kk252_0.2.1.1.2.2 1 rfl ?_
    refine go_cmeq kk252_0.2.1.2.1.1 r22 (inR_b (Or.inr rfl)) (fun c23 => ?_) (fun c24 => ?_)
    · refine go_aload kk252_0.2.1.2.1.2 rfl ?_
      refine go_callP1 kk252_0.2.1.2.2.1 rfl rfl rfl ⟨by decide, _, rfl, hK0⟩ ⟨Nat.zero_le _, Nat.zero_le _⟩ (by omega) (tfS_ruleOfWord (by omega) hg hK0 ) (fun y25 r26 => ?_)
      refine go_istore kk252_0.2.1.2.2.2 rfl (loc2 := [some (sR v0), some (sI v1), some (sI y25)]) rfl ?_
      refine go_iload kk252_0.2.2.1.1.1 rfl ?_
      refine go_int kk252_0.2.2.1.1.2 (-1) rfl ?_
      refine go_cmeq kk252_0.2.2.1.2.1 r26 (inR_of (by decide)) (fun c29 => ?_) (fun c30 => ?_)
      · refine go_aload kk252_0.2.2.1.2.2 rfl ?_
        refine go_int kk252_0.2.2.2.1.1 1 rfl ?_
        refine go_callN3 kk252_0.2.2.2.1.2 rfl rfl rfl ⟨by decide, _, rfl, hK0⟩ ⟨Nat.zero_le _, Nat.zero_le _⟩ (by omega) (tfS_fail (by omega) hg hK0  (inR_b (Or.inr rfl))) (fun y31 g33 r32 e34 => ?_)
        exact go_bret kk252_0.2.2.2.2.1 e34 r32 ⟨Nat.zero_le _, Nat.zero_le _⟩ rfl
      · refine go_aload kk252_0.2.2.2.2.2 rfl ?_
        refine go_getR (bI := 1) kk252_1.1.1.1.1.1.1 hg hK0 (by decide) rfl rfl (fun r35 => ?_)
        refine go_iload kk252_1.1.1.1.1.1.2 rfl ?_
        refine go_ck (fun q36 => ?_)
        refine go_callP3 kk252_1.1.1.1.1.2 rfl rfl rfl ⟨by decide, _, rfl, q36⟩ ⟨Nat.zero_le _, Nat.zero_le _⟩ (by omega) (tfT_hasRule (by omega) hg q36  r26) (fun y37 r38 => ?_)
        refine go_ifeq kk252_1.1.1.1.2.1 (inR_b r38) (fun c41 => ?_) (fun c42 => ?_)
        · refine go_aload kk252_1.1.1.2.2.2 rfl ?_
          refine go_getR (bI := 1) kk252_1.1.2.1.1.1.1 hg hK0 (by decide) rfl rfl (fun r43 => ?_)
          refine go_getR (bI := 3) kk252_1.1.2.1.1.1.2 hg q36 (by decide) rfl rfl (fun r44 => ?_)
          refine go_iload kk252_1.1.2.1.1.2 rfl ?_
          refine go_iload kk252_1.1.2.1.2.1 rfl ?_
          refine go_ck (fun q45 => ?_)
          refine go_iast kk252_1.1.2.1.2.2 hg q45 r26 (fun g46 e47 => ?_)
          refine go_aload kk252_1.1.2.2.1.1 rfl ?_
          refine go_callN0 kk252_1.1.2.2.1.2 rfl rfl rfl ⟨by decide, _, rfl, hK0⟩ ⟨Nat.zero_le _, Nat.zero_le _⟩ (by omega) (tfS_advance (by omega) e47 hK0 ) (fun y48 g50 e51 => ?_)
          refine go_iinc kk252_1.1.2.2.2.1 rfl rfl 1 rfl (loc2 := [some (sR v0), some (sI (w32 (v1 + 1))), some (sI y25)]) rfl ?_
          refine go_goto kk252_1.1.2.2.2.2 ?_
          exact HX31 (w32 (v1 + 1)) (inR_w32 _) g50 e51 (some (sI y25)) rfl
        · refine go_aload kk252_1.1.1.1.2.2 rfl ?_
          refine go_int kk252_1.1.1.2.1.1 3 rfl ?_
          refine go_callN3 kk252_1.1.1.2.1.2 rfl rfl rfl ⟨by decide, _, rfl, hK0⟩ ⟨Nat.zero_le _, Nat.zero_le _⟩ (by omega) (tfS_fail (by omega) hg hK0  (inR_of (by decide))) (fun y52 g54 r53 e55 => ?_)
          exact go_bret kk252_1.1.1.2.2.1 e55 r53 ⟨Nat.zero_le _, Nat.zero_le _⟩ rfl
    · exact tjS_takeOrder_97 hd hg hK0 (some (sI v1)) rfl u2 w2
  · exact tjS_takeOrder_97 hd hg hK0 (some (sI v1)) rfl u2 w2
theorem tlS_takeOrder_31 {Φ : ev_P} {d : Nat} (hd : 3 ≤ d) {v0 : Int} (hK0 : kd v0 = 4) : ∀ n : Nat, ∀ (v1 : Int) (h1 : InR v1) (g : gH) (hg : HR g) (u2 : Option ev_V) (w2 : nwo u2), Go Φ pr_P fN 3 (lS_takeOrder_31 v0 n v1 g) d pr_m252 31 [some (sR v0), some (sI v1), u2] [] g 0 0 := by
  intro n
  induction n with
  | zero => intros; exact go_none
  | succ n ih => exact tbS_takeOrder_31 hd hK0 ih
theorem tfS_takeOrder {Φ : ev_P} {d : Nat} (hd : 3 ≤ d) {g : gH} (hg : HR g) {v0 : Int} (hK0 : kd v0 = 4) : Go Φ pr_P fN 3 (fS_takeOrder g v0) d (pr_P 252) 0 (ev_loc (pr_P 252).1 [(sR v0)]) [] g 0 0 := by
  show Go Φ pr_P fN 3 (fS_takeOrder g v0) d pr_m252 0 [some (sR v0), none, none] [] g 0 0
  unfold fS_takeOrder
  refine go_aload kk252_0.1.1.1.1.1.1 rfl ?_
  refine go_getB (bI := 8) kk252_0.1.1.1.1.1.2 hg hK0 (by decide) rfl rfl (fun r1 => ?_)
  refine go_ifeq kk252_0.1.1.1.1.2 (inR_b r1) (fun c2 => ?_) (fun c3 => ?_)
  · refine go_aload kk252_0.1.1.2.2.1 rfl ?_
    refine go_int kk252_0.1.1.2.2.2 1 rfl ?_
    refine go_putB (bI := 8) kk252_0.1.2.1.1.1.1 hg hK0 (by decide) rfl rfl (Or.inr rfl) (fun g4 e5 => ?_)
    refine go_aload kk252_0.1.2.1.1.1.2 rfl ?_
    refine go_getR (bI := 1) kk252_0.1.2.1.1.2 e5 hK0 (by decide) rfl rfl (fun r6 => ?_)
    refine go_ck (fun q7 => ?_)
    refine go_callN0 kk252_0.1.2.1.2.1 rfl rfl rfl ⟨by decide, _, rfl, q7⟩ ⟨Nat.zero_le _, Nat.zero_le _⟩ (by omega) (tfT_clearRules (by omega) e5 q7 ) (fun y8 g10 e11 => ?_)
    refine go_aload kk252_0.1.2.1.2.2 rfl ?_
    refine go_callN0 kk252_0.1.2.2.1.1 rfl rfl rfl ⟨by decide, _, rfl, hK0⟩ ⟨Nat.zero_le _, Nat.zero_le _⟩ (by omega) (tfS_advance (by omega) e11 hK0 ) (fun y12 g14 e15 => ?_)
    refine go_int kk252_0.1.2.2.1.2 0 rfl ?_
    refine go_istore kk252_0.1.2.2.2.1 rfl (loc2 := [some (sR v0), some (sI 0), none]) rfl ?_
    exact tlS_takeOrder_31 hd hK0 fu 0 (inR_b (Or.inl rfl)) g14 e15 none rfl
  · refine go_aload kk252_0.1.1.1.2.1 rfl ?_
    refine go_int kk252_0.1.1.1.2.2 3 rfl ?_
    refine go_callN3 kk252_0.1.1.2.1.1 rfl rfl rfl ⟨by decide, _, rfl, hK0⟩ ⟨Nat.zero_le _, Nat.zero_le _⟩ (by omega) (tfS_fail (by omega) hg hK0  (inR_of (by decide))) (fun y16 g18 r17 e19 => ?_)
    exact go_bret kk252_0.1.1.2.1.2 e19 r17 ⟨Nat.zero_le _, Nat.zero_le _⟩ rfl
theorem tjS_takeNumber_34 {Φ : ev_P} {d : Nat} (hd : 2 ≤ d) {g : gH} (hg : HR g) {v0 : Int} (hK0 : kd v0 = 4) (u1 : Option ev_V) (w1 : nwo u1) (u2 : Option ev_V) (w2 : nwo u2) : Go Φ pr_P fN 3 (jS_takeNumber_34 g v0 ) d pr_m262 34 [some (sR v0), u1, u2] [] g 0 0 := by
  unfold jS_takeNumber_34
  refine go_aload kk262_0.2.1.2.1.2 rfl ?_
  refine go_int kk262_0.2.1.2.2 2 rfl ?_
  refine go_callN3 kk262_0.2.2.1.1.1 rfl rfl rfl ⟨by decide, _, rfl, hK0⟩ ⟨Nat.zero_le _, Nat.zero_le _⟩ (by omega) (tfS_fail (by omega) hg hK0  (inR_of (by decide))) (fun y18 g20 r19 e21 => ?_)
  refine go_ifeq kk262_0.2.2.1.1.2 (inR_b r19) (fun c22 => ?_) (fun c23 => ?_)
  · refine go_int kk262_0.2.2.2.1.2 0 rfl ?_
    exact go_bret kk262_0.2.2.2.2 e21 (Or.inl rfl) ⟨Nat.zero_le _, Nat.zero_le _⟩ rfl
  · refine go_int kk262_0.2.2.1.2 1 rfl ?_
    refine go_goto kk262_0.2.2.2.1.1 ?_
    exact go_bret kk262_0.2.2.2.2 e21 (Or.inr rfl) ⟨Nat.zero_le _, Nat.zero_le _⟩ rfl
theorem tfS_takeNumber {Φ : ev_P} {d : Nat} (hd : 2 ≤ d) {g : gH} (hg : HR g) {v0 v1 v2 : Int} (hK0 : kd v0 = 4) (h1 : InR v1) (h2 : InR v2) : Go Φ pr_P fN 3 (fS_takeNumber g v0 v1 v2) d (pr_P 262) 0 (ev_loc (pr_P 262).1 [(sR v0), (sI v1), (sI v2)]) [] g 0 0 := by
  show Go Φ pr_P fN 3 (fS_takeNumber g v0 v1 v2) d pr_m262 0 [some (sR v0), some (sI v1), some (sI v2)] [] g 0 0
  unfold fS_takeNumber
  refine go_aload kk262_0.1.1.1.1.1 rfl ?_
  refine go_callN0 kk262_0.1.1.1.1.2 rfl rfl rfl ⟨by decide, _, rfl, hK0⟩ ⟨Nat.zero_le _, Nat.zero_le _⟩ (by omega) (tfS_advance (by omega) hg hK0 ) (fun y1 g3 e4 => ?_)
  refine go_aload kk262_0.1.1.1.2.1 rfl ?_
  refine go_getI (bI := 4) kk262_0.1.1.1.2.2 e4 hK0 (by decide) rfl rfl (fun r5 => ?_)
  refine go_int kk262_0.1.1.2.1.1 2 rfl ?_
  refine go_cmeq kk262_0.1.1.2.1.2 r5 (inR_of (by decide)) (fun c6 => ?_) (fun c7 => ?_)
  · refine go_aload kk262_0.1.2.2.1.1 rfl ?_
    refine go_getI (bI := 7) kk262_0.1.2.2.1.2 e4 hK0 (by decide) rfl rfl (fun r8 => ?_)
    refine go_iload kk262_0.1.2.2.2 rfl ?_
    refine go_cmlt kk262_0.2.1.1.1.1 r8 h1 (fun c9 => ?_) (fun c10 => ?_)
    · exact tjS_takeNumber_34 hd e4 hK0 (some (sI v1)) rfl (some (sI v2)) rfl
    · refine go_aload kk262_0.2.1.1.1.2 rfl ?_
      refine go_getI (bI := 7) kk262_0.2.1.1.2.1 e4 hK0 (by decide) rfl rfl (fun r11 => ?_)
      refine go_iload kk262_0.2.1.1.2.2 rfl ?_
      refine go_cmgt kk262_0.2.1.2.1.1 r11 h2 (fun c12 => ?_) (fun c13 => ?_)
      · exact tjS_takeNumber_34 hd e4 hK0 (some (sI v1)) rfl (some (sI v2)) rfl
      · refine go_int kk262_0.2.2.1.2 1 rfl ?_
        refine go_goto kk262_0.2.2.2.1.1 ?_
        exact go_bret kk262_0.2.2.2.2 e4 (Or.inr rfl) ⟨Nat.zero_le _, Nat.zero_le _⟩ rfl
  · refine go_aload kk262_0.1.1.2.2 rfl ?_
    refine go_int kk262_0.1.2.1.1.1 1 rfl ?_
    refine go_callN3 kk262_0.1.2.1.1.2 rfl rfl rfl ⟨by decide, _, rfl, hK0⟩ ⟨Nat.zero_le _, Nat.zero_le _⟩ (by omega) (tfS_fail (by omega) e4 hK0  (inR_b (Or.inr rfl))) (fun y14 g16 r15 e17 => ?_)
    exact go_bret kk262_0.1.2.1.2 e17 r15 ⟨Nat.zero_le _, Nat.zero_le _⟩ rfl
theorem tfS_takeSemicolon {Φ : ev_P} {d : Nat} (hd : 2 ≤ d) {g : gH} (hg : HR g) {v0 : Int} (hK0 : kd v0 = 4) : Go Φ pr_P fN 3 (fS_takeSemicolon g v0) d (pr_P 263) 0 (ev_loc (pr_P 263).1 [(sR v0)]) [] g 0 0 := by
  show Go Φ pr_P fN 3 (fS_takeSemicolon g v0) d pr_m263 0 [some (sR v0)] [] g 0 0
  unfold fS_takeSemicolon
  refine go_aload kk263_0.1.1.1.1 rfl ?_
  refine go_callN0 kk263_0.1.1.1.2 rfl rfl rfl ⟨by decide, _, rfl, hK0⟩ ⟨Nat.zero_le _, Nat.zero_le _⟩ (by omega) (tfS_advance (by omega) hg hK0 ) (fun y1 g3 e4 => ?_)
  refine go_aload kk263_0.1.1.2.1 rfl ?_
  refine go_getI (bI := 4) kk263_0.1.1.2.2 e4 hK0 (by decide) rfl rfl (fun r5 => ?_)
  refine go_int kk263_0.1.2.1.1 3 rfl ?_
  refine go_cmeq kk263_0.1.2.1.2 r5 (inR_of (by decide)) (fun c6 => ?_) (fun c7 => ?_)
  · refine go_int kk263_0.2.1.2.2 1 rfl ?_
    refine go_goto kk263_0.2.2.1.1 ?_
    exact go_bret kk263_0.2.2.2 e4 (Or.inr rfl) ⟨Nat.zero_le _, Nat.zero_le _⟩ rfl
  · refine go_aload kk263_0.1.2.2 rfl ?_
    refine go_int kk263_0.2.1.1.1 1 rfl ?_
    refine go_callN3 kk263_0.2.1.1.2 rfl rfl rfl ⟨by decide, _, rfl, hK0⟩ ⟨Nat.zero_le _, Nat.zero_le _⟩ (by omega) (tfS_fail (by omega) e4 hK0  (inR_b (Or.inr rfl))) (fun y8 g10 r9 e11 => ?_)
    refine go_ifeq kk263_0.2.1.2.1 (inR_b r9) (fun c12 => ?_) (fun c13 => ?_)
    · refine go_int kk263_0.2.2.1.2 0 rfl ?_
      exact go_bret kk263_0.2.2.2 e11 (Or.inl rfl) ⟨Nat.zero_le _, Nat.zero_le _⟩ rfl
    · refine go_int kk263_0.2.1.2.2 1 rfl ?_
      refine go_goto kk263_0.2.2.1.1 ?_
      exact go_bret kk263_0.2.2.2 e11 (Or.inr rfl) ⟨Nat.zero_le _, Nat.zero_le _⟩ rfl
theorem tfS_takeDeep {Φ : ev_P} {d : Nat} (hd : 3 ≤ d) {g : gH} (hg : HR g) {v0 : Int} (hK0 : kd v0 = 4) : Go Φ pr_P fN 3 (fS_takeDeep g v0) d (pr_P 254) 0 (ev_loc (pr_P 254).1 [(sR v0)]) [] g 0 0 := by
  show Go Φ pr_P fN 3 (fS_takeDeep g v0) d pr_m254 0 [some (sR v0)] [] g 0 0
  unfold fS_takeDeep
  refine go_aload kk254_0.1.1.1.1.1 rfl ?_
  refine go_getB (bI := 9) kk254_0.1.1.1.1.2 hg hK0 (by decide) rfl rfl (fun r1 => ?_)
  refine go_ifeq kk254_0.1.1.1.2.1 (inR_b r1) (fun c2 => ?_) (fun c3 => ?_)
  · refine go_aload kk254_0.1.2.1.1.1 rfl ?_
    refine go_int kk254_0.1.2.1.1.2 1 rfl ?_
    refine go_putB (bI := 9) kk254_0.1.2.1.2 hg hK0 (by decide) rfl rfl (Or.inr rfl) (fun g4 e5 => ?_)
    refine go_aload kk254_0.1.2.2.1.1 rfl ?_
    refine go_int kk254_0.1.2.2.1.2 1 rfl ?_
    refine go_int kk254_0.1.2.2.2 20 rfl ?_
    refine go_callN3 kk254_0.2.1.1.1.1 rfl rfl rfl ⟨by decide, _, rfl, hK0⟩ ⟨Nat.zero_le _, Nat.zero_le _⟩ (by omega) (tfS_takeNumber (by omega) e5 hK0  (inR_b (Or.inr rfl)) (inR_of (by decide))) (fun y6 g8 r7 e9 => ?_)
    refine go_ifeq kk254_0.2.1.1.1.2 (inR_b r7) (fun c10 => ?_) (fun c11 => ?_)
    · refine go_int kk254_0.2.1.1.2 0 rfl ?_
      exact go_bret kk254_0.2.1.2.1.1 e9 (Or.inl rfl) ⟨Nat.zero_le _, Nat.zero_le _⟩ rfl
    · refine go_aload kk254_0.2.1.2.1.2 rfl ?_
      refine go_getR (bI := 1) kk254_0.2.1.2.2 e9 hK0 (by decide) rfl rfl (fun r12 => ?_)
      refine go_aload kk254_0.2.2.1.1.1 rfl ?_
      refine go_getI (bI := 7) kk254_0.2.2.1.1.2 e9 hK0 (by decide) rfl rfl (fun r13 => ?_)
      refine go_ck (fun q14 => ?_)
      refine go_putI (bI := 4) kk254_0.2.2.1.2 e9 q14 (by decide) rfl rfl r13 (fun g15 e16 => ?_)
      refine go_aload kk254_0.2.2.2.1.1 rfl ?_
      refine go_callN3 kk254_0.2.2.2.1.2 rfl rfl rfl ⟨by decide, _, rfl, hK0⟩ ⟨Nat.zero_le _, Nat.zero_le _⟩ (by omega) (tfS_takeSemicolon (by omega) e16 hK0 ) (fun y17 g19 r18 e20 => ?_)
      exact go_bret kk254_0.2.2.2.2 e20 r18 ⟨Nat.zero_le _, Nat.zero_le _⟩ rfl
  · refine go_aload kk254_0.1.1.1.2.2 rfl ?_
    refine go_int kk254_0.1.1.2.1.1 3 rfl ?_
    refine go_callN3 kk254_0.1.1.2.1.2 rfl rfl rfl ⟨by decide, _, rfl, hK0⟩ ⟨Nat.zero_le _, Nat.zero_le _⟩ (by omega) (tfS_fail (by omega) hg hK0  (inR_of (by decide))) (fun y21 g23 r22 e24 => ?_)
    exact go_bret kk254_0.1.1.2.2 e24 r22 ⟨Nat.zero_le _, Nat.zero_le _⟩ rfl
theorem tfS_takeRoot {Φ : ev_P} {d : Nat} (hd : 3 ≤ d) {g : gH} (hg : HR g) {v0 : Int} (hK0 : kd v0 = 4) : Go Φ pr_P fN 3 (fS_takeRoot g v0) d (pr_P 255) 0 (ev_loc (pr_P 255).1 [(sR v0)]) [] g 0 0 := by
  show Go Φ pr_P fN 3 (fS_takeRoot g v0) d pr_m255 0 [some (sR v0)] [] g 0 0
  unfold fS_takeRoot
  refine go_aload kk255_0.1.1.1.1.1.1 rfl ?_
  refine go_getB (bI := 10) kk255_0.1.1.1.1.1.2 hg hK0 (by decide) rfl rfl (fun r1 => ?_)
  refine go_ifeq kk255_0.1.1.1.1.2 (inR_b r1) (fun c2 => ?_) (fun c3 => ?_)
  · refine go_aload kk255_0.1.1.2.1.2 rfl ?_
    refine go_int kk255_0.1.1.2.2.1 1 rfl ?_
    refine go_putB (bI := 10) kk255_0.1.1.2.2.2 hg hK0 (by decide) rfl rfl (Or.inr rfl) (fun g4 e5 => ?_)
    refine go_aload kk255_0.1.2.1.1.1.1 rfl ?_
    refine go_int kk255_0.1.2.1.1.1.2 0 rfl ?_
    refine go_int kk255_0.1.2.1.1.2 9 rfl ?_
    refine go_callN3 kk255_0.1.2.1.2.1 rfl rfl rfl ⟨by decide, _, rfl, hK0⟩ ⟨Nat.zero_le _, Nat.zero_le _⟩ (by omega) (tfS_takeNumber (by omega) e5 hK0  (inR_b (Or.inl rfl)) (inR_of (by decide))) (fun y6 g8 r7 e9 => ?_)
    refine go_ifeq kk255_0.1.2.1.2.2 (inR_b r7) (fun c10 => ?_) (fun c11 => ?_)
    · refine go_int kk255_0.1.2.2.1.1.1 0 rfl ?_
      exact go_bret kk255_0.1.2.2.1.1.2 e9 (Or.inl rfl) ⟨Nat.zero_le _, Nat.zero_le _⟩ rfl
    · refine go_aload kk255_0.1.2.2.1.2 rfl ?_
      refine go_getR (bI := 1) kk255_0.1.2.2.2.1 e9 hK0 (by decide) rfl rfl (fun r12 => ?_)
      refine go_ck (fun q13 => ?_)
      refine go_getR (bI := 0) kk255_0.1.2.2.2.2 e9 q13 (by decide) rfl rfl (fun r14 => ?_)
      refine go_aload kk255_0.2.1.1.1.1.1 rfl ?_
      refine go_getI (bI := 7) kk255_0.2.1.1.1.1.2 e9 hK0 (by decide) rfl rfl (fun r15 => ?_)
      refine go_ck (fun q16 => ?_)
      refine go_putI (bI := 4) kk255_0.2.1.1.1.2 e9 q16 (by decide) rfl rfl r15 (fun g17 e18 => ?_)
      refine go_aload kk255_0.2.1.1.2.1 rfl ?_
      refine go_int kk255_0.2.1.1.2.2 0 rfl ?_
      refine go_int kk255_0.2.1.2.1.1.1 9 rfl ?_
      refine go_callN3 kk255_0.2.1.2.1.1.2 rfl rfl rfl ⟨by decide, _, rfl, hK0⟩ ⟨Nat.zero_le _, Nat.zero_le _⟩ (by omega) (tfS_takeNumber (by omega) e18 hK0  (inR_b (Or.inl rfl)) (inR_of (by decide))) (fun y19 g21 r20 e22 => ?_)
      refine go_ifeq kk255_0.2.1.2.1.2 (inR_b r20) (fun c23 => ?_) (fun c24 => ?_)
      · refine go_int kk255_0.2.1.2.2.1 0 rfl ?_
        exact go_bret kk255_0.2.1.2.2.2 e22 (Or.inl rfl) ⟨Nat.zero_le _, Nat.zero_le _⟩ rfl
      · refine go_aload kk255_0.2.2.1.1.1.1 rfl ?_
        refine go_getR (bI := 1) kk255_0.2.2.1.1.1.2 e22 hK0 (by decide) rfl rfl (fun r25 => ?_)
        refine go_ck (fun q26 => ?_)
        refine go_getR (bI := 0) kk255_0.2.2.1.1.2 e22 q26 (by decide) rfl rfl (fun r27 => ?_)
        refine go_aload kk255_0.2.2.1.2.1 rfl ?_
        refine go_getI (bI := 7) kk255_0.2.2.1.2.2 e22 hK0 (by decide) rfl rfl (fun r28 => ?_)
        refine go_ck (fun q29 => ?_)
        refine go_putI (bI := 6) kk255_0.2.2.2.1.1 e22 q29 (by decide) rfl rfl r28 (fun g30 e31 => ?_)
        refine go_aload kk255_0.2.2.2.1.2 rfl ?_
        refine go_callN3 kk255_0.2.2.2.2.1 rfl rfl rfl ⟨by decide, _, rfl, hK0⟩ ⟨Nat.zero_le _, Nat.zero_le _⟩ (by omega) (tfS_takeSemicolon (by omega) e31 hK0 ) (fun y32 g34 r33 e35 => ?_)
        exact go_bret kk255_0.2.2.2.2.2 e35 r33 ⟨Nat.zero_le _, Nat.zero_le _⟩ rfl
  · refine go_aload kk255_0.1.1.1.2.1 rfl ?_
    refine go_int kk255_0.1.1.1.2.2 3 rfl ?_
    refine go_callN3 kk255_0.1.1.2.1.1.1 rfl rfl rfl ⟨by decide, _, rfl, hK0⟩ ⟨Nat.zero_le _, Nat.zero_le _⟩ (by omega) (tfS_fail (by omega) hg hK0  (inR_of (by decide))) (fun y36 g38 r37 e39 => ?_)
    exact go_bret kk255_0.1.1.2.1.1.2 e39 r37 ⟨Nat.zero_le _, Nat.zero_le _⟩ rfl
theorem tfP_room {Φ : ev_P} {d : Nat} (hd : 0 ≤ d) {g : gH} (hg : HR g) {v0 : Int} (hK0 : kd v0 = 3) : Go Φ pr_P (fP g) 1 (fP_room g v0) d (pr_P 242) 0 (ev_loc (pr_P 242).1 [(sR v0)]) [] g 0 0 := by
  show Go Φ pr_P (fP g) 1 (fP_room g v0) d pr_m242 0 [some (sR v0)] [] g 0 0
  unfold fP_room
  refine go_aload kk242_0.1.1.1.1 rfl ?_
  refine go_getI (bI := 1) kk242_0.1.1.1.2 hg hK0 (by decide) rfl rfl (fun r1 => ?_)
  refine go_ifeq kk242_0.1.1.2.1 r1 (fun c2 => ?_) (fun c3 => ?_)
  · refine go_aload kk242_0.1.1.2.2 rfl ?_
    refine go_getI (bI := 4) kk242_0.1.2.1.1 hg hK0 (by decide) rfl rfl (fun r4 => ?_)
    refine go_aload kk242_0.1.2.1.2 rfl ?_
    refine go_getI (bI := 3) kk242_0.1.2.2.1 hg hK0 (by decide) rfl rfl (fun r5 => ?_)
    refine go_cmgt kk242_0.1.2.2.2 r4 r5 (fun c6 => ?_) (fun c7 => ?_)
    · refine go_aload kk242_0.2.1.1.1 rfl ?_
      refine go_getI (bI := 4) kk242_0.2.1.1.2 hg hK0 (by decide) rfl rfl (fun r8 => ?_)
      refine go_aload kk242_0.2.1.2.1 rfl ?_
      refine go_getI (bI := 3) kk242_0.2.1.2.2 hg hK0 (by decide) rfl rfl (fun r9 => ?_)
      refine go_isub kk242_0.2.2.1.1 ?_
      refine go_goto kk242_0.2.2.1.2 ?_
      exact go_iret kk242_0.2.2.2.2 hg (inR_w32 _) ⟨Nat.zero_le _, Nat.zero_le _⟩ rfl
    · refine go_int kk242_0.2.2.2.1 0 rfl ?_
      exact go_iret kk242_0.2.2.2.2 hg (inR_b (Or.inl rfl)) ⟨Nat.zero_le _, Nat.zero_le _⟩ rfl
  · refine go_int kk242_0.2.2.2.1 0 rfl ?_
    exact go_iret kk242_0.2.2.2.2 hg (inR_b (Or.inl rfl)) ⟨Nat.zero_le _, Nat.zero_le _⟩ rfl
theorem tfT_at {Φ : ev_P} {d : Nat} (hd : 0 ≤ d) {g : gH} (hg : HR g) {v0 v1 : Int} (hK0 : kd v0 = 5) (h1 : InR v1) : Go Φ pr_P (fP g) 2 (fT_at g v0 v1) d (pr_P 274) 0 (ev_loc (pr_P 274).1 [(sR v0), (sI v1)]) [] g 0 0 := by
  show Go Φ pr_P (fP g) 2 (fT_at g v0 v1) d pr_m274 0 [some (sR v0), some (sI v1)] [] g 0 0
  unfold fT_at
  refine go_iload kk274_0.1.1.1.1 rfl ?_
  refine go_iflt kk274_0.1.1.1.2 h1 (fun c1 => ?_) (fun c2 => ?_)
  · refine go_null kk274_0.2.1.1.2 ?_
    refine go_goto kk274_0.2.1.2.1 ?_
    exact go_aret kk274_0.2.2.2.2 hg rfR_null ⟨Nat.zero_le _, Nat.zero_le _⟩ rfl
  · refine go_iload kk274_0.1.1.2.1 rfl ?_
    refine go_aload kk274_0.1.1.2.2 rfl ?_
    refine go_getI (bI := 5) kk274_0.1.2.1.1 hg hK0 (by decide) rfl rfl (fun r3 => ?_)
    refine go_cmlt kk274_0.1.2.1.2 h1 r3 (fun c4 => ?_) (fun c5 => ?_)
    · refine go_iload kk274_0.1.2.2.1 rfl ?_
      refine go_int kk274_0.1.2.2.2 40 rfl ?_
      refine go_cmlt kk274_0.2.1.1.1 h1 (inR_of (by decide)) (fun c6 => ?_) (fun c7 => ?_)
      · refine go_aload kk274_0.2.1.2.2 rfl ?_
        refine go_getR (bI := 1) kk274_0.2.2.1.1 hg hK0 (by decide) rfl rfl (fun r8 => ?_)
        refine go_iload kk274_0.2.2.1.2 rfl ?_
        refine go_ck (fun q10 => ?_)
        refine go_pald kk274_0.2.2.2.1 hg q10 (fun r9 => ?_)
        exact go_aret kk274_0.2.2.2.2 hg r9 ⟨Nat.zero_le _, Nat.zero_le _⟩ rfl
      · refine go_null kk274_0.2.1.1.2 ?_
        refine go_goto kk274_0.2.1.2.1 ?_
        exact go_aret kk274_0.2.2.2.2 hg rfR_null ⟨Nat.zero_le _, Nat.zero_le _⟩ rfl
    · refine go_null kk274_0.2.1.1.2 ?_
      refine go_goto kk274_0.2.1.2.1 ?_
      exact go_aret kk274_0.2.2.2.2 hg rfR_null ⟨Nat.zero_le _, Nat.zero_le _⟩ rfl
theorem tfS_takeNamed {Φ : ev_P} {d : Nat} (hd : 3 ≤ d) {g : gH} (hg : HR g) {v0 v1 : Int} (hK0 : kd v0 = 4) (h1 : InR v1) : Go Φ pr_P fN 2 (fS_takeNamed g v0 v1) d (pr_P 261) 0 (ev_loc (pr_P 261).1 [(sR v0), (sI v1)]) [] g 0 0 := by
  show Go Φ pr_P fN 2 (fS_takeNamed g v0 v1) d pr_m261 0 [some (sR v0), some (sI v1)] [] g 0 0
  unfold fS_takeNamed
  refine go_aload kk261_0.1.1.1.1.1 rfl ?_
  refine go_iload kk261_0.1.1.1.1.2 rfl ?_
  refine go_aload kk261_0.1.1.1.2 rfl ?_
  refine go_getR (bI := 1) kk261_0.1.1.2.1 hg hK0 (by decide) rfl rfl (fun r1 => ?_)
  refine go_ck (fun q2 => ?_)
  refine go_getI (bI := 5) kk261_0.1.1.2.2 hg q2 (by decide) rfl rfl (fun r3 => ?_)
  refine go_int kk261_0.1.2.1.1 1 rfl ?_
  refine go_isub kk261_0.1.2.1.2 ?_
  refine go_callN3 kk261_0.1.2.2.1 rfl rfl rfl ⟨by decide, _, rfl, hK0⟩ ⟨Nat.zero_le _, Nat.zero_le _⟩ (by omega) (tfS_takeNumber (by omega) hg hK0  h1 (inR_w32 _)) (fun y4 g6 r5 e7 => ?_)
  refine go_ifeq kk261_0.1.2.2.2 (inR_b r5) (fun c8 => ?_) (fun c9 => ?_)
  · refine go_null kk261_0.2.2.2.1 ?_
    exact go_aret kk261_0.2.2.2.2 e7 rfR_null ⟨Nat.zero_le _, Nat.zero_le _⟩ rfl
  · refine go_aload kk261_0.2.1.1.1 rfl ?_
    refine go_getR (bI := 1) kk261_0.2.1.1.2 e7 hK0 (by decide) rfl rfl (fun r10 => ?_)
    refine go_aload kk261_0.2.1.2.1 rfl ?_
    refine go_getI (bI := 7) kk261_0.2.1.2.2 e7 hK0 (by decide) rfl rfl (fun r11 => ?_)
    refine go_ck (fun q12 => ?_)
    refine go_callP2 kk261_0.2.2.1.1 rfl rfl rfl ⟨by decide, _, rfl, q12⟩ ⟨Nat.zero_le _, Nat.zero_le _⟩ (by omega) (tfT_at (by omega) e7 q12  r11) (fun y13 r14 => ?_)
    refine go_goto kk261_0.2.2.1.2 ?_
    exact go_aret kk261_0.2.2.2.2 e7 r14 ⟨Nat.zero_le _, Nat.zero_le _⟩ rfl
theorem tfP_putUnder {Φ : ev_P} {d : Nat} (hd : 0 ≤ d) {g : gH} (hg : HR g) {v0 v1 : Int} (hK0 : kd v0 = 3) (h1 : RfR v1) : Go Φ pr_P fN 0 (fP_putUnder g v0 v1) d (pr_P 245) 0 (ev_loc (pr_P 245).1 [(sR v0), (sR v1)]) [] g 0 0 := by
  show Go Φ pr_P fN 0 (fP_putUnder g v0 v1) d pr_m245 0 [some (sR v0), some (sR v1)] [] g 0 0
  unfold fP_putUnder
  refine go_aload kk245_0.1.1.1.1.1 rfl ?_
  refine go_getR (bI := 2) kk245_0.1.1.1.1.2 hg hK0 (by decide) rfl rfl (fun r1 => ?_)
  refine go_isnull kk245_0.1.1.1.2  (fun c2 => ?_) (fun c3 => ?_)
  · refine go_aload kk245_0.2.1.1.1.1 rfl ?_
    refine go_aload kk245_0.2.1.1.1.2 rfl ?_
    refine go_putR (bI := 2) kk245_0.2.1.1.2 hg hK0 (by decide) rfl rfl h1 (fun g4 e5 => ?_)
    refine go_aload kk245_0.2.1.2.1 rfl ?_
    refine go_dupR kk245_0.2.1.2.2 ?_
    refine go_ck (fun q6 => ?_)
    refine go_getI (bI := 3) kk245_0.2.2.1.1.1 e5 q6 (by decide) rfl rfl (fun r7 => ?_)
    refine go_int kk245_0.2.2.1.1.2 1 rfl ?_
    refine go_iadd kk245_0.2.2.1.2 ?_
    refine go_putI (bI := 3) kk245_0.2.2.2.1 e5 q6 (by decide) rfl rfl (inR_w32 _) (fun g8 e9 => ?_)
    exact go_vret kk245_0.2.2.2.2 e9 ⟨Nat.zero_le _, Nat.zero_le _⟩ rfl
  · refine go_aload kk245_0.1.1.2.1 rfl ?_
    refine go_getR (bI := 2) kk245_0.1.1.2.2 hg hK0 (by decide) rfl rfl (fun r10 => ?_)
    refine go_dupR kk245_0.1.2.1.1.1 ?_
    refine go_ck (fun q11 => ?_)
    refine go_getI (bI := 3) kk245_0.1.2.1.1.2 hg q11 (by decide) rfl rfl (fun r12 => ?_)
    refine go_int kk245_0.1.2.1.2 1 rfl ?_
    refine go_isub kk245_0.1.2.2.1 ?_
    refine go_putI (bI := 3) kk245_0.1.2.2.2 hg q11 (by decide) rfl rfl (inR_w32 _) (fun g13 e14 => ?_)
    refine go_aload kk245_0.2.1.1.1.1 rfl ?_
    refine go_aload kk245_0.2.1.1.1.2 rfl ?_
    refine go_putR (bI := 2) kk245_0.2.1.1.2 e14 hK0 (by decide) rfl rfl h1 (fun g15 e16 => ?_)
    refine go_aload kk245_0.2.1.2.1 rfl ?_
    refine go_dupR kk245_0.2.1.2.2 ?_
    refine go_ck (fun q17 => ?_)
    refine go_getI (bI := 3) kk245_0.2.2.1.1.1 e16 q17 (by decide) rfl rfl (fun r18 => ?_)
    refine go_int kk245_0.2.2.1.1.2 1 rfl ?_
    refine go_iadd kk245_0.2.2.1.2 ?_
    refine go_putI (bI := 3) kk245_0.2.2.2.1 e16 q17 (by decide) rfl rfl (inR_w32 _) (fun g19 e20 => ?_)
    exact go_vret kk245_0.2.2.2.2 e20 ⟨Nat.zero_le _, Nat.zero_le _⟩ rfl
theorem tfT_arrive {Φ : ev_P} {d : Nat} (hd : 1 ≤ d) {g : gH} (hg : HR g) {v0 v1 v2 v3 v4 : Int} (hK0 : kd v0 = 5) (h1 : RfR v1) (h2 : InR v2) (h3 : InR v3) (h4 : InR v4) : Go Φ pr_P fN 2 (fT_arrive g v0 v1 v2 v3 v4) d (pr_P 286) 0 (ev_loc (pr_P 286).1 [(sR v0), (sR v1), (sI v2), (sI v3), (sI v4)]) [] g 0 0 := by
  show Go Φ pr_P fN 2 (fT_arrive g v0 v1 v2 v3 v4) d pr_m286 0 [some (sR v0), some (sR v1), some (sI v2), some (sI v3), some (sI v4), none] [] g 0 0
  unfold fT_arrive
  refine go_aload kk286_0.1.1.1.1.1 rfl ?_
  refine go_getI (bI := 5) kk286_0.1.1.1.1.2 hg hK0 (by decide) rfl rfl (fun r1 => ?_)
  refine go_iflt kk286_0.1.1.1.2.1 r1 (fun c2 => ?_) (fun c3 => ?_)
  · refine go_null kk286_0.1.1.2.2.2 ?_
    exact go_aret kk286_0.1.2.1.1.1 hg rfR_null ⟨Nat.zero_le _, Nat.zero_le _⟩ rfl
  · refine go_aload kk286_0.1.1.1.2.2 rfl ?_
    refine go_getI (bI := 5) kk286_0.1.1.2.1.1 hg hK0 (by decide) rfl rfl (fun r4 => ?_)
    refine go_int kk286_0.1.1.2.1.2 40 rfl ?_
    refine go_cmlt kk286_0.1.1.2.2.1 r4 (inR_of (by decide)) (fun c5 => ?_) (fun c6 => ?_)
    · refine go_aload kk286_0.1.2.1.1.2 rfl ?_
      refine go_getR (bI := 1) kk286_0.1.2.1.2.1 hg hK0 (by decide) rfl rfl (fun r7 => ?_)
      refine go_aload kk286_0.1.2.1.2.2 rfl ?_
      refine go_getI (bI := 5) kk286_0.1.2.2.1.1 hg hK0 (by decide) rfl rfl (fun r8 => ?_)
      refine go_ck (fun q10 => ?_)
      refine go_pald kk286_0.1.2.2.1.2 hg q10 (fun r9 => ?_)
      refine go_astore kk286_0.1.2.2.2.1 rfl (loc2 := [some (sR v0), some (sR v1), some (sI v2), some (sI v3), some (sI v4), some (sR (g (g v0 1) (g v0 5)))]) rfl ?_
      refine go_aload kk286_0.1.2.2.2.2 rfl ?_
      refine go_dupR kk286_0.2.1.1.1.1 ?_
      refine go_getI (bI := 5) kk286_0.2.1.1.1.2 hg hK0 (by decide) rfl rfl (fun r11 => ?_)
      refine go_int kk286_0.2.1.1.2.1 1 rfl ?_
      refine go_iadd kk286_0.2.1.1.2.2 ?_
      refine go_putI (bI := 5) kk286_0.2.1.2.1.1 hg hK0 (by decide) rfl rfl (inR_w32 _) (fun g12 e13 => ?_)
      refine go_aload kk286_0.2.1.2.1.2 rfl ?_
      refine go_int kk286_0.2.1.2.2.1 0 rfl ?_
      refine go_iload kk286_0.2.1.2.2.2 rfl ?_
      refine go_iload kk286_0.2.2.1.1.1 rfl ?_
      refine go_iload kk286_0.2.2.1.1.2 rfl ?_
      refine go_ck (fun q14 => ?_)
      refine go_callN0 kk286_0.2.2.1.2.1 rfl rfl rfl ⟨by decide, _, rfl, q14⟩ ⟨Nat.zero_le _, Nat.zero_le _⟩ (by omega) (tfP_become (by omega) e13 q14  (inR_b (Or.inl rfl)) h2 h3 h4) (fun y15 g17 e18 => ?_)
      refine go_aload kk286_0.2.2.1.2.2 rfl ?_
      refine go_aload kk286_0.2.2.2.1.1 rfl ?_
      refine go_callN0 kk286_0.2.2.2.1.2 rfl rfl rfl ⟨by decide, _, rfl, q14⟩ ⟨Nat.zero_le _, Nat.zero_le _⟩ (by omega) (tfP_putUnder (by omega) e18 q14  h1) (fun y19 g21 e22 => ?_)
      refine go_aload kk286_0.2.2.2.2.1 rfl ?_
      exact go_aret kk286_0.2.2.2.2.2 e22 r9 ⟨Nat.zero_le _, Nat.zero_le _⟩ rfl
    · refine go_null kk286_0.1.1.2.2.2 ?_
      exact go_aret kk286_0.1.2.1.1.1 hg rfR_null ⟨Nat.zero_le _, Nat.zero_le _⟩ rfl
theorem tfS_takeProcess {Φ : ev_P} {d : Nat} (hd : 4 ≤ d) {g : gH} (hg : HR g) {v0 : Int} (hK0 : kd v0 = 4) : Go Φ pr_P fN 3 (fS_takeProcess g v0) d (pr_P 256) 0 (ev_loc (pr_P 256).1 [(sR v0)]) [] g 0 0 := by
  show Go Φ pr_P fN 3 (fS_takeProcess g v0) d pr_m256 0 [some (sR v0), none, none, none] [] g 0 0
  unfold fS_takeProcess
  refine go_aload kk256_0.1.1.1.1.1.1 rfl ?_
  refine go_getR (bI := 1) kk256_0.1.1.1.1.1.2 hg hK0 (by decide) rfl rfl (fun r1 => ?_)
  refine go_ck (fun q2 => ?_)
  refine go_getI (bI := 5) kk256_0.1.1.1.1.2.1 hg q2 (by decide) rfl rfl (fun r3 => ?_)
  refine go_int kk256_0.1.1.1.1.2.2 24 rfl ?_
  refine go_cmgt kk256_0.1.1.1.2.1.1 r3 (inR_of (by decide)) (fun c4 => ?_) (fun c5 => ?_)
  · refine go_aload kk256_0.1.1.1.2.1.2 rfl ?_
    refine go_int kk256_0.1.1.1.2.2.1 4 rfl ?_
    refine go_callN3 kk256_0.1.1.1.2.2.2 rfl rfl rfl ⟨by decide, _, rfl, hK0⟩ ⟨Nat.zero_le _, Nat.zero_le _⟩ (by omega) (tfS_fail (by omega) hg hK0  (inR_of (by decide))) (fun y6 g8 r7 e9 => ?_)
    exact go_bret kk256_0.1.1.2.1.1.1 e9 r7 ⟨Nat.zero_le _, Nat.zero_le _⟩ rfl
  · refine go_aload kk256_0.1.1.2.1.1.2 rfl ?_
    refine go_int kk256_0.1.1.2.1.2.1 0 rfl ?_
    refine go_callN2 kk256_0.1.1.2.1.2.2 rfl rfl rfl ⟨by decide, _, rfl, hK0⟩ ⟨Nat.zero_le _, Nat.zero_le _⟩ (by omega) (tfS_takeNamed (by omega) hg hK0  (inR_b (Or.inl rfl))) (fun y10 g12 r11 e13 => ?_)
    refine go_astore kk256_0.1.1.2.2.1.1 rfl (loc2 := [some (sR v0), some (sR y10), none, none]) rfl ?_
    refine go_aload kk256_0.1.1.2.2.1.2 rfl ?_
    refine go_isnull kk256_0.1.1.2.2.2.1  (fun c14 => ?_) (fun c15 => ?_)
    · refine go_int kk256_0.1.1.2.2.2.2 0 rfl ?_
      exact go_bret kk256_0.1.2.1.1.1.1 e13 (Or.inl rfl) ⟨Nat.zero_le _, Nat.zero_le _⟩ rfl
    · refine go_aload kk256_0.1.2.1.1.1.2 rfl ?_
      refine go_ck (fun q16 => ?_)
      refine go_callP1 kk256_0.1.2.1.1.2.1 rfl rfl rfl ⟨by decide, _, rfl, q16⟩ ⟨Nat.zero_le _, Nat.zero_le _⟩ (by omega) (tfP_room (by omega) e13 q16 ) (fun y17 r18 => ?_)
      refine go_ifeq kk256_0.1.2.1.1.2.2 r18 (fun c21 => ?_) (fun c22 => ?_)
      · refine go_aload kk256_0.1.2.1.2.1.1 rfl ?_
        refine go_int kk256_0.1.2.1.2.1.2 2 rfl ?_
        refine go_callN3 kk256_0.1.2.1.2.2.1 rfl rfl rfl ⟨by decide, _, rfl, hK0⟩ ⟨Nat.zero_le _, Nat.zero_le _⟩ (by omega) (tfS_fail (by omega) e13 hK0  (inR_of (by decide))) (fun y23 g25 r24 e26 => ?_)
        exact go_bret kk256_0.1.2.1.2.2.2 e26 r24 ⟨Nat.zero_le _, Nat.zero_le _⟩ rfl
      · refine go_aload kk256_0.1.2.2.1.1.1 rfl ?_
        refine go_int kk256_0.1.2.2.1.1.2 0 rfl ?_
        refine go_int kk256_0.1.2.2.1.2.1 9 rfl ?_
        refine go_callN3 kk256_0.1.2.2.1.2.2 rfl rfl rfl ⟨by decide, _, rfl, hK0⟩ ⟨Nat.zero_le _, Nat.zero_le _⟩ (by omega) (tfS_takeNumber (by omega) e13 hK0  (inR_b (Or.inl rfl)) (inR_of (by decide))) (fun y27 g29 r28 e30 => ?_)
        refine go_ifeq kk256_0.1.2.2.2.1.1 (inR_b r28) (fun c31 => ?_) (fun c32 => ?_)
        · refine go_int kk256_0.1.2.2.2.1.2 0 rfl ?_
          exact go_bret kk256_0.1.2.2.2.2.1 e30 (Or.inl rfl) ⟨Nat.zero_le _, Nat.zero_le _⟩ rfl
        · refine go_aload kk256_0.1.2.2.2.2.2 rfl ?_
          refine go_getI (bI := 7) kk256_0.2.1.1.1.1.1 e30 hK0 (by decide) rfl rfl (fun r33 => ?_)
          refine go_istore kk256_0.2.1.1.1.1.2 rfl (loc2 := [some (sR v0), some (sR y10), some (sI (g29 v0 7)), none]) rfl ?_
          refine go_aload kk256_0.2.1.1.1.2.1 rfl ?_
          refine go_int kk256_0.2.1.1.1.2.2 0 rfl ?_
          refine go_int kk256_0.2.1.1.2.1.1 9 rfl ?_
          refine go_callN3 kk256_0.2.1.1.2.1.2 rfl rfl rfl ⟨by decide, _, rfl, hK0⟩ ⟨Nat.zero_le _, Nat.zero_le _⟩ (by omega) (tfS_takeNumber (by omega) e30 hK0  (inR_b (Or.inl rfl)) (inR_of (by decide))) (fun y34 g36 r35 e37 => ?_)
          refine go_ifeq kk256_0.2.1.1.2.2.1 (inR_b r35) (fun c38 => ?_) (fun c39 => ?_)
          · refine go_int kk256_0.2.1.1.2.2.2 0 rfl ?_
            exact go_bret kk256_0.2.1.2.1.1.1 e37 (Or.inl rfl) ⟨Nat.zero_le _, Nat.zero_le _⟩ rfl
          · refine go_aload kk256_0.2.1.2.1.1.2 rfl ?_
            refine go_getI (bI := 7) kk256_0.2.1.2.1.2.1 e37 hK0 (by decide) rfl rfl (fun r40 => ?_)
            refine go_istore kk256_0.2.1.2.1.2.2 rfl (loc2 := [some (sR v0), some (sR y10), some (sI (g29 v0 7)), some (sI (g36 v0 7))]) rfl ?_
            refine go_aload kk256_0.2.1.2.2.1.1 rfl ?_
            refine go_int kk256_0.2.1.2.2.1.2 0 rfl ?_
            refine go_int kk256_0.2.1.2.2.2.1 9 rfl ?_
            refine go_callN3 kk256_0.2.1.2.2.2.2 rfl rfl rfl ⟨by decide, _, rfl, hK0⟩ ⟨Nat.zero_le _, Nat.zero_le _⟩ (by omega) (tfS_takeNumber (by omega) e37 hK0  (inR_b (Or.inl rfl)) (inR_of (by decide))) (fun y41 g43 r42 e44 => ?_)
            refine go_ifeq kk256_0.2.2.1.1.1.1 (inR_b r42) (fun c45 => ?_) (fun c46 => ?_)
            · refine go_int kk256_0.2.2.1.1.1.2 0 rfl ?_
              exact go_bret kk256_0.2.2.1.1.2.1 e44 (Or.inl rfl) ⟨Nat.zero_le _, Nat.zero_le _⟩ rfl
            · refine go_aload kk256_0.2.2.1.1.2.2 rfl ?_
              refine go_getR (bI := 1) kk256_0.2.2.1.2.1.1 e44 hK0 (by decide) rfl rfl (fun r47 => ?_)
              refine go_aload kk256_0.2.2.1.2.1.2 rfl ?_
              refine go_iload kk256_0.2.2.1.2.2.1 rfl ?_
              refine go_iload kk256_0.2.2.1.2.2.2 rfl ?_
              refine go_aload kk256_0.2.2.2.1.1.1 rfl ?_
              refine go_getI (bI := 7) kk256_0.2.2.2.1.1.2 e44 hK0 (by decide) rfl rfl (fun r48 => ?_)
              refine go_ck (fun q49 => ?_)
              refine go_callN2 kk256_0.2.2.2.1.2.1 rfl rfl rfl ⟨by decide, _, rfl, q49⟩ ⟨Nat.zero_le _, Nat.zero_le _⟩ (by omega) (tfT_arrive (by omega) e44 q49  r11 r33 r40 r48) (fun y50 g52 r51 e53 => ?_)
              refine go_popR kk256_0.2.2.2.1.2.2 ?_
              refine go_aload kk256_0.2.2.2.2.1.1 rfl ?_
              refine go_callN3 kk256_0.2.2.2.2.1.2 rfl rfl rfl ⟨by decide, _, rfl, hK0⟩ ⟨Nat.zero_le _, Nat.zero_le _⟩ (by omega) (tfS_takeSemicolon (by omega) e53 hK0 ) (fun y54 g56 r55 e57 => ?_)
              exact go_bret kk256_0.2.2.2.2.2 e57 r55 ⟨Nat.zero_le _, Nat.zero_le _⟩ rfl
theorem tfS_takeHeir {Φ : ev_P} {d : Nat} (hd : 4 ≤ d) {g : gH} (hg : HR g) {v0 : Int} (hK0 : kd v0 = 4) : Go Φ pr_P fN 3 (fS_takeHeir g v0) d (pr_P 257) 0 (ev_loc (pr_P 257).1 [(sR v0)]) [] g 0 0 := by
  show Go Φ pr_P fN 3 (fS_takeHeir g v0) d pr_m257 0 [some (sR v0), none, none] [] g 0 0
  unfold fS_takeHeir
  refine go_aload kk257_0.1.1.1.1.1.1 rfl ?_
  refine go_int kk257_0.1.1.1.1.1.2 1 rfl ?_
  refine go_callN2 kk257_0.1.1.1.1.2 rfl rfl rfl ⟨by decide, _, rfl, hK0⟩ ⟨Nat.zero_le _, Nat.zero_le _⟩ (by omega) (tfS_takeNamed (by omega) hg hK0  (inR_b (Or.inr rfl))) (fun y1 g3 r2 e4 => ?_)
  refine go_astore kk257_0.1.1.1.2.1 rfl (loc2 := [some (sR v0), some (sR y1), none]) rfl ?_
  refine go_aload kk257_0.1.1.1.2.2 rfl ?_
  refine go_isnull kk257_0.1.1.2.1.1.1  (fun c5 => ?_) (fun c6 => ?_)
  · refine go_int kk257_0.1.1.2.1.1.2 0 rfl ?_
    exact go_bret kk257_0.1.1.2.1.2 e4 (Or.inl rfl) ⟨Nat.zero_le _, Nat.zero_le _⟩ rfl
  · refine go_aload kk257_0.1.1.2.2.1 rfl ?_
    refine go_ck (fun q7 => ?_)
    refine go_getI (bI := 7) kk257_0.1.1.2.2.2 e4 q7 (by decide) rfl rfl (fun r8 => ?_)
    refine go_int kk257_0.1.2.1.1.1.1 (-1) rfl ?_
    refine go_cmeq kk257_0.1.2.1.1.1.2 r8 (inR_of (by decide)) (fun c9 => ?_) (fun c10 => ?_)
    · refine go_aload kk257_0.1.2.2.1.2 rfl ?_
      refine go_int kk257_0.1.2.2.2.1 0 rfl ?_
      refine go_callN2 kk257_0.1.2.2.2.2 rfl rfl rfl ⟨by decide, _, rfl, hK0⟩ ⟨Nat.zero_le _, Nat.zero_le _⟩ (by omega) (tfS_takeNamed (by omega) e4 hK0  (inR_b (Or.inl rfl))) (fun y11 g13 r12 e14 => ?_)
      refine go_astore kk257_0.2.1.1.1.1.1 rfl (loc2 := [some (sR v0), some (sR y1), some (sR y11)]) rfl ?_
      refine go_aload kk257_0.2.1.1.1.1.2 rfl ?_
      refine go_isnull kk257_0.2.1.1.1.2  (fun c15 => ?_) (fun c16 => ?_)
      · refine go_int kk257_0.2.1.1.2.1 0 rfl ?_
        exact go_bret kk257_0.2.1.1.2.2 e14 (Or.inl rfl) ⟨Nat.zero_le _, Nat.zero_le _⟩ rfl
      · refine go_aload kk257_0.2.1.2.1.1.1 rfl ?_
        refine go_aload kk257_0.2.1.2.1.1.2 rfl ?_
        refine go_acmp kk257_0.2.1.2.1.2 r12 r2 (fun c17 => ?_) (fun c18 => ?_)
        · refine go_aload kk257_0.2.1.2.2.1 rfl ?_
          refine go_int kk257_0.2.1.2.2.2 2 rfl ?_
          refine go_callN3 kk257_0.2.2.1.1.1.1 rfl rfl rfl ⟨by decide, _, rfl, hK0⟩ ⟨Nat.zero_le _, Nat.zero_le _⟩ (by omega) (tfS_fail (by omega) e14 hK0  (inR_of (by decide))) (fun y19 g21 r20 e22 => ?_)
          exact go_bret kk257_0.2.2.1.1.1.2 e22 r20 ⟨Nat.zero_le _, Nat.zero_le _⟩ rfl
        · refine go_aload kk257_0.2.2.1.1.2 rfl ?_
          refine go_aload kk257_0.2.2.1.2.1 rfl ?_
          refine go_ck (fun q23 => ?_)
          refine go_getI (bI := 0) kk257_0.2.2.1.2.2 e14 q23 (by decide) rfl rfl (fun r24 => ?_)
          refine go_putI (bI := 7) kk257_0.2.2.2.1.1 e14 q7 (by decide) rfl rfl r24 (fun g25 e26 => ?_)
          refine go_aload kk257_0.2.2.2.1.2 rfl ?_
          refine go_callN3 kk257_0.2.2.2.2.1 rfl rfl rfl ⟨by decide, _, rfl, hK0⟩ ⟨Nat.zero_le _, Nat.zero_le _⟩ (by omega) (tfS_takeSemicolon (by omega) e26 hK0 ) (fun y27 g29 r28 e30 => ?_)
          exact go_bret kk257_0.2.2.2.2.2 e30 r28 ⟨Nat.zero_le _, Nat.zero_le _⟩ rfl
    · refine go_aload kk257_0.1.2.1.1.2 rfl ?_
      refine go_int kk257_0.1.2.1.2.1 3 rfl ?_
      refine go_callN3 kk257_0.1.2.1.2.2 rfl rfl rfl ⟨by decide, _, rfl, hK0⟩ ⟨Nat.zero_le _, Nat.zero_le _⟩ (by omega) (tfS_fail (by omega) e4 hK0  (inR_of (by decide))) (fun y31 g33 r32 e34 => ?_)
      exact go_bret kk257_0.1.2.2.1.1 e34 r32 ⟨Nat.zero_le _, Nat.zero_le _⟩ rfl
theorem tfT_giveDuty {Φ : ev_P} {d : Nat} (hd : 0 ≤ d) {g : gH} (hg : HR g) {v0 v1 v2 : Int} (hK0 : kd v0 = 5) (h1 : InR v1) (h2 : RfR v2) : Go Φ pr_P fN 0 (fT_giveDuty g v0 v1 v2) d (pr_P 284) 0 (ev_loc (pr_P 284).1 [(sR v0), (sI v1), (sR v2)]) [] g 0 0 := by
  show Go Φ pr_P fN 0 (fT_giveDuty g v0 v1 v2) d pr_m284 0 [some (sR v0), some (sI v1), some (sR v2)] [] g 0 0
  unfold fT_giveDuty
  refine go_iload kk284_0.1.1.1.1 rfl ?_
  refine go_iflt kk284_0.1.1.1.2 h1 (fun c1 => ?_) (fun c2 => ?_)
  · exact go_vret kk284_0.2.2.2 hg ⟨Nat.zero_le _, Nat.zero_le _⟩ rfl
  · refine go_iload kk284_0.1.1.2 rfl ?_
    refine go_int kk284_0.1.2.1.1 8 rfl ?_
    refine go_cmlt kk284_0.1.2.1.2 h1 (inR_of (by decide)) (fun c3 => ?_) (fun c4 => ?_)
    · refine go_aload kk284_0.1.2.2 rfl ?_
      refine go_getR (bI := 2) kk284_0.2.1.1.1 hg hK0 (by decide) rfl rfl (fun r5 => ?_)
      refine go_iload kk284_0.2.1.1.2 rfl ?_
      refine go_aload kk284_0.2.1.2 rfl ?_
      refine go_ck (fun q6 => ?_)
      refine go_getI (bI := 0) kk284_0.2.2.1.1 hg q6 (by decide) rfl rfl (fun r7 => ?_)
      refine go_ck (fun q8 => ?_)
      refine go_iast kk284_0.2.2.1.2 hg q8 r7 (fun g9 e10 => ?_)
      exact go_vret kk284_0.2.2.2 e10 ⟨Nat.zero_le _, Nat.zero_le _⟩ rfl
    · exact go_vret kk284_0.2.2.2 hg ⟨Nat.zero_le _, Nat.zero_le _⟩ rfl
theorem tfS_takeDuty {Φ : ev_P} {d : Nat} (hd : 4 ≤ d) {g : gH} (hg : HR g) {v0 : Int} (hK0 : kd v0 = 4) : Go Φ pr_P fN 3 (fS_takeDuty g v0) d (pr_P 258) 0 (ev_loc (pr_P 258).1 [(sR v0)]) [] g 0 0 := by
  show Go Φ pr_P fN 3 (fS_takeDuty g v0) d pr_m258 0 [some (sR v0), none, none] [] g 0 0
  unfold fS_takeDuty
  refine go_aload kk258_0.1.1.1.1.1 rfl ?_
  refine go_int kk258_0.1.1.1.1.2 0 rfl ?_
  refine go_int kk258_0.1.1.1.2.1 7 rfl ?_
  refine go_callN3 kk258_0.1.1.1.2.2 rfl rfl rfl ⟨by decide, _, rfl, hK0⟩ ⟨Nat.zero_le _, Nat.zero_le _⟩ (by omega) (tfS_takeNumber (by omega) hg hK0  (inR_b (Or.inl rfl)) (inR_of (by decide))) (fun y1 g3 r2 e4 => ?_)
  refine go_ifeq kk258_0.1.1.2.1.1 (inR_b r2) (fun c5 => ?_) (fun c6 => ?_)
  · refine go_int kk258_0.1.1.2.1.2 0 rfl ?_
    exact go_bret kk258_0.1.1.2.2 e4 (Or.inl rfl) ⟨Nat.zero_le _, Nat.zero_le _⟩ rfl
  · refine go_aload kk258_0.1.2.1.1.1 rfl ?_
    refine go_getI (bI := 7) kk258_0.1.2.1.1.2 e4 hK0 (by decide) rfl rfl (fun r7 => ?_)
    refine go_istore kk258_0.1.2.1.2 rfl (loc2 := [some (sR v0), some (sI (g3 v0 7)), none]) rfl ?_
    refine go_aload kk258_0.1.2.2.1.1 rfl ?_
    refine go_int kk258_0.1.2.2.1.2 0 rfl ?_
    refine go_callN2 kk258_0.1.2.2.2 rfl rfl rfl ⟨by decide, _, rfl, hK0⟩ ⟨Nat.zero_le _, Nat.zero_le _⟩ (by omega) (tfS_takeNamed (by omega) e4 hK0  (inR_b (Or.inl rfl))) (fun y8 g10 r9 e11 => ?_)
    refine go_astore kk258_0.2.1.1.1.1 rfl (loc2 := [some (sR v0), some (sI (g3 v0 7)), some (sR y8)]) rfl ?_
    refine go_aload kk258_0.2.1.1.1.2 rfl ?_
    refine go_isnull kk258_0.2.1.1.2.1  (fun c12 => ?_) (fun c13 => ?_)
    · refine go_int kk258_0.2.1.1.2.2 0 rfl ?_
      exact go_bret kk258_0.2.1.2.1.1 e11 (Or.inl rfl) ⟨Nat.zero_le _, Nat.zero_le _⟩ rfl
    · refine go_aload kk258_0.2.1.2.1.2 rfl ?_
      refine go_getR (bI := 1) kk258_0.2.1.2.2 e11 hK0 (by decide) rfl rfl (fun r14 => ?_)
      refine go_iload kk258_0.2.2.1.1.1 rfl ?_
      refine go_aload kk258_0.2.2.1.1.2 rfl ?_
      refine go_ck (fun q15 => ?_)
      refine go_callN0 kk258_0.2.2.1.2 rfl rfl rfl ⟨by decide, _, rfl, q15⟩ ⟨Nat.zero_le _, Nat.zero_le _⟩ (by omega) (tfT_giveDuty (by omega) e11 q15  r7 r9) (fun y16 g18 e19 => ?_)
      refine go_aload kk258_0.2.2.2.1.1 rfl ?_
      refine go_callN3 kk258_0.2.2.2.1.2 rfl rfl rfl ⟨by decide, _, rfl, hK0⟩ ⟨Nat.zero_le _, Nat.zero_le _⟩ (by omega) (tfS_takeSemicolon (by omega) e19 hK0 ) (fun y20 g22 r21 e23 => ?_)
      exact go_bret kk258_0.2.2.2.2 e23 r21 ⟨Nat.zero_le _, Nat.zero_le _⟩ rfl
theorem tfP_refuses {Φ : ev_P} {d : Nat} (hd : 0 ≤ d) {g : gH} (hg : HR g) {v0 v1 : Int} (hK0 : kd v0 = 3) (h1 : InR v1) : Go Φ pr_P (fP g) 3 (fP_refuses g v0 v1) d (pr_P 241) 0 (ev_loc (pr_P 241).1 [(sR v0), (sI v1)]) [] g 0 0 := by
  show Go Φ pr_P (fP g) 3 (fP_refuses g v0 v1) d pr_m241 0 [some (sR v0), some (sI v1)] [] g 0 0
  unfold fP_refuses
  refine go_aload kk241_0.1.1.1.1 rfl ?_
  refine go_getI (bI := 8) kk241_0.1.1.1.2 hg hK0 (by decide) rfl rfl (fun r1 => ?_)
  refine go_iload kk241_0.1.1.2 rfl ?_
  refine go_ibin kk241_0.1.2.1.1 ?_
  refine go_int kk241_0.1.2.1.2 1 rfl ?_
  refine go_ibin kk241_0.1.2.2 ?_
  refine go_ifeq kk241_0.2.1.1.1 (inR_opI _ _ _) (fun c2 => ?_) (fun c3 => ?_)
  · refine go_int kk241_0.2.2.1 0 rfl ?_
    exact go_bret kk241_0.2.2.2 hg (Or.inl rfl) ⟨Nat.zero_le _, Nat.zero_le _⟩ rfl
  · refine go_int kk241_0.2.1.1.2 1 rfl ?_
    refine go_goto kk241_0.2.1.2 ?_
    exact go_bret kk241_0.2.2.2 hg (Or.inr rfl) ⟨Nat.zero_le _, Nat.zero_le _⟩ rfl
theorem tfS_takeRefusal {Φ : ev_P} {d : Nat} (hd : 4 ≤ d) {g : gH} (hg : HR g) {v0 : Int} (hK0 : kd v0 = 4) : Go Φ pr_P fN 3 (fS_takeRefusal g v0) d (pr_P 259) 0 (ev_loc (pr_P 259).1 [(sR v0)]) [] g 0 0 := by
  show Go Φ pr_P fN 3 (fS_takeRefusal g v0) d pr_m259 0 [some (sR v0), none] [] g 0 0
  unfold fS_takeRefusal
  refine go_aload kk259_0.1.1.1.1.1.1 rfl ?_
  refine go_int kk259_0.1.1.1.1.1.2 1 rfl ?_
  refine go_callN2 kk259_0.1.1.1.1.2 rfl rfl rfl ⟨by decide, _, rfl, hK0⟩ ⟨Nat.zero_le _, Nat.zero_le _⟩ (by omega) (tfS_takeNamed (by omega) hg hK0  (inR_b (Or.inr rfl))) (fun y1 g3 r2 e4 => ?_)
  refine go_astore kk259_0.1.1.1.2.1 rfl (loc2 := [some (sR v0), some (sR y1)]) rfl ?_
  refine go_aload kk259_0.1.1.1.2.2 rfl ?_
  refine go_isnull kk259_0.1.1.2.1.1  (fun c5 => ?_) (fun c6 => ?_)
  · refine go_int kk259_0.1.2.1.2.1 0 rfl ?_
    exact go_bret kk259_0.1.2.1.2.2 e4 (Or.inl rfl) ⟨Nat.zero_le _, Nat.zero_le _⟩ rfl
  · refine go_aload kk259_0.1.1.2.1.2 rfl ?_
    refine go_int kk259_0.1.1.2.2.1 0 rfl ?_
    refine go_int kk259_0.1.1.2.2.2 9 rfl ?_
    refine go_callN3 kk259_0.1.2.1.1.1 rfl rfl rfl ⟨by decide, _, rfl, hK0⟩ ⟨Nat.zero_le _, Nat.zero_le _⟩ (by omega) (tfS_takeNumber (by omega) e4 hK0  (inR_b (Or.inl rfl)) (inR_of (by decide))) (fun y7 g9 r8 e10 => ?_)
    refine go_ifeq kk259_0.1.2.1.1.2 (inR_b r8) (fun c11 => ?_) (fun c12 => ?_)
    · refine go_int kk259_0.1.2.1.2.1 0 rfl ?_
      exact go_bret kk259_0.1.2.1.2.2 e10 (Or.inl rfl) ⟨Nat.zero_le _, Nat.zero_le _⟩ rfl
    · refine go_aload kk259_0.1.2.2.1.1 rfl ?_
      refine go_aload kk259_0.1.2.2.1.2 rfl ?_
      refine go_getI (bI := 7) kk259_0.1.2.2.2.1 e10 hK0 (by decide) rfl rfl (fun r13 => ?_)
      refine go_ck (fun q14 => ?_)
      refine go_callP3 kk259_0.1.2.2.2.2 rfl rfl rfl ⟨by decide, _, rfl, q14⟩ ⟨Nat.zero_le _, Nat.zero_le _⟩ (by omega) (tfP_refuses (by omega) e10 q14  r13) (fun y15 r16 => ?_)
      refine go_ifeq kk259_0.2.1.1.1.1.1 (inR_b r16) (fun c19 => ?_) (fun c20 => ?_)
      · refine go_aload kk259_0.2.1.2.1.1 rfl ?_
        refine go_dupR kk259_0.2.1.2.1.2 ?_
        refine go_getI (bI := 8) kk259_0.2.1.2.2.1 e10 q14 (by decide) rfl rfl (fun r21 => ?_)
        refine go_int kk259_0.2.1.2.2.2 1 rfl ?_
        refine go_aload kk259_0.2.2.1.1.1 rfl ?_
        refine go_getI (bI := 7) kk259_0.2.2.1.1.2 e10 hK0 (by decide) rfl rfl (fun r22 => ?_)
        refine go_ibin kk259_0.2.2.1.2.1 ?_
        refine go_ibin kk259_0.2.2.1.2.2 ?_
        refine go_putI (bI := 8) kk259_0.2.2.2.1.1 e10 q14 (by decide) rfl rfl (inR_opI _ _ _) (fun g23 e24 => ?_)
        refine go_aload kk259_0.2.2.2.1.2 rfl ?_
        refine go_callN3 kk259_0.2.2.2.2.1 rfl rfl rfl ⟨by decide, _, rfl, hK0⟩ ⟨Nat.zero_le _, Nat.zero_le _⟩ (by omega) (tfS_takeSemicolon (by omega) e24 hK0 ) (fun y25 g27 r26 e28 => ?_)
        exact go_bret kk259_0.2.2.2.2.2 e28 r26 ⟨Nat.zero_le _, Nat.zero_le _⟩ rfl
      · refine go_aload kk259_0.2.1.1.1.1.2 rfl ?_
        refine go_int kk259_0.2.1.1.1.2 3 rfl ?_
        refine go_callN3 kk259_0.2.1.1.2.1 rfl rfl rfl ⟨by decide, _, rfl, hK0⟩ ⟨Nat.zero_le _, Nat.zero_le _⟩ (by omega) (tfS_fail (by omega) e10 hK0  (inR_of (by decide))) (fun y29 g31 r30 e32 => ?_)
        exact go_bret kk259_0.2.1.1.2.2 e32 r30 ⟨Nat.zero_le _, Nat.zero_le _⟩ rfl
theorem tfP_willFor {Φ : ev_P} {d : Nat} (hd : 0 ≤ d) {g : gH} (hg : HR g) {v0 v1 : Int} (hK0 : kd v0 = 3) (h1 : InR v1) : Go Φ pr_P (fP g) 1 (fP_willFor g v0 v1) d (pr_P 246) 0 (ev_loc (pr_P 246).1 [(sR v0), (sI v1)]) [] g 0 0 := by
  show Go Φ pr_P (fP g) 1 (fP_willFor g v0 v1) d pr_m246 0 [some (sR v0), some (sI v1)] [] g 0 0
  unfold fP_willFor
  refine go_aload kk246_0.1.1.1.1 rfl ?_
  refine go_getL (bI := 14) kk246_0.1.1.1.2 hg hK0 (by decide) rfl rfl (fun r1 => ?_)
  refine go_int kk246_0.1.1.2 8 rfl ?_
  refine go_iload kk246_0.1.2.1.1 rfl ?_
  refine go_ibin kk246_0.1.2.1.2 ?_
  refine go_lshr kk246_0.1.2.2 rfl ⟨Nat.zero_le _, Nat.zero_le _⟩ ?_
  refine go_lconst kk246_0.2.1.1.1 255 rfl ?_
  refine go_land kk246_0.2.1.1.2 rfl ⟨Nat.zero_le _, Nat.zero_le _⟩ ?_
  refine go_l2i kk246_0.2.1.2 ?_
  refine go_int kk246_0.2.2.1.1 1 rfl ?_
  refine go_isub kk246_0.2.2.1.2 ?_
  exact go_iret kk246_0.2.2.2 hg (inR_w32 _) ⟨Nat.zero_le _, Nat.zero_le _⟩ rfl
theorem tfP_addWill {Φ : ev_P} {d : Nat} (hd : 0 ≤ d) {g : gH} (hg : HR g) {v0 v1 v2 : Int} (hK0 : kd v0 = 3) (h1 : InR v1) (h2 : InR v2) : Go Φ pr_P fN 0 (fP_addWill g v0 v1 v2) d (pr_P 247) 0 (ev_loc (pr_P 247).1 [(sR v0), (sI v1), (sI v2)]) [] g 0 0 := by
  show Go Φ pr_P fN 0 (fP_addWill g v0 v1 v2) d pr_m247 0 [some (sR v0), some (sI v1), some (sI v2)] [] g 0 0
  unfold fP_addWill
  refine go_aload kk247_0.1.1.1.1 rfl ?_
  refine go_dupR kk247_0.1.1.1.2 ?_
  refine go_getL (bI := 14) kk247_0.1.1.2.1 hg hK0 (by decide) rfl rfl (fun r1 => ?_)
  refine go_iload kk247_0.1.1.2.2 rfl ?_
  refine go_int kk247_0.1.2.1.1 1 rfl ?_
  refine go_iadd kk247_0.1.2.1.2 ?_
  refine go_i2l kk247_0.1.2.2 (inR_w32 _) ?_
  refine go_int kk247_0.2.1.1.1 8 rfl ?_
  refine go_iload kk247_0.2.1.1.2 rfl ?_
  refine go_ibin kk247_0.2.1.2.1 ?_
  refine go_lshl kk247_0.2.1.2.2 rfl ⟨Nat.zero_le _, Nat.zero_le _⟩ ?_
  refine go_lor kk247_0.2.2.1.1 rfl ⟨Nat.zero_le _, Nat.zero_le _⟩ ?_
  refine go_putL (bI := 14) kk247_0.2.2.1.2 hg hK0 (by decide) rfl rfl (inL_opL _ _ _) (fun g2 e3 => ?_)
  exact go_vret kk247_0.2.2.2 e3 ⟨Nat.zero_le _, Nat.zero_le _⟩ rfl
theorem tfS_takeWill {Φ : ev_P} {d : Nat} (hd : 4 ≤ d) {g : gH} (hg : HR g) {v0 : Int} (hK0 : kd v0 = 4) : Go Φ pr_P fN 3 (fS_takeWill g v0) d (pr_P 260) 0 (ev_loc (pr_P 260).1 [(sR v0)]) [] g 0 0 := by
  show Go Φ pr_P fN 3 (fS_takeWill g v0) d pr_m260 0 [some (sR v0), none, none, none] [] g 0 0
  unfold fS_takeWill
  refine go_aload kk260_0.1.1.1.1.1.1 rfl ?_
  refine go_int kk260_0.1.1.1.1.1.2 1 rfl ?_
  refine go_callN2 kk260_0.1.1.1.1.2 rfl rfl rfl ⟨by decide, _, rfl, hK0⟩ ⟨Nat.zero_le _, Nat.zero_le _⟩ (by omega) (tfS_takeNamed (by omega) hg hK0  (inR_b (Or.inr rfl))) (fun y1 g3 r2 e4 => ?_)
  refine go_astore kk260_0.1.1.1.2.1.1 rfl (loc2 := [some (sR v0), some (sR y1), none, none]) rfl ?_
  refine go_aload kk260_0.1.1.1.2.1.2 rfl ?_
  refine go_isnull kk260_0.1.1.1.2.2  (fun c5 => ?_) (fun c6 => ?_)
  · refine go_int kk260_0.1.1.2.2.2 0 rfl ?_
    exact go_bret kk260_0.1.2.1.1.1.1 e4 (Or.inl rfl) ⟨Nat.zero_le _, Nat.zero_le _⟩ rfl
  · refine go_aload kk260_0.1.1.2.1.1.1 rfl ?_
    refine go_int kk260_0.1.1.2.1.1.2 0 rfl ?_
    refine go_int kk260_0.1.1.2.1.2 7 rfl ?_
    refine go_callN3 kk260_0.1.1.2.2.1.1 rfl rfl rfl ⟨by decide, _, rfl, hK0⟩ ⟨Nat.zero_le _, Nat.zero_le _⟩ (by omega) (tfS_takeNumber (by omega) e4 hK0  (inR_b (Or.inl rfl)) (inR_of (by decide))) (fun y7 g9 r8 e10 => ?_)
    refine go_ifeq kk260_0.1.1.2.2.1.2 (inR_b r8) (fun c11 => ?_) (fun c12 => ?_)
    · refine go_int kk260_0.1.1.2.2.2 0 rfl ?_
      exact go_bret kk260_0.1.2.1.1.1.1 e10 (Or.inl rfl) ⟨Nat.zero_le _, Nat.zero_le _⟩ rfl
    · refine go_aload kk260_0.1.2.1.1.1.2 rfl ?_
      refine go_getI (bI := 7) kk260_0.1.2.1.1.2 e10 hK0 (by decide) rfl rfl (fun r13 => ?_)
      refine go_istore kk260_0.1.2.1.2.1.1 rfl (loc2 := [some (sR v0), some (sR y1), some (sI (g9 v0 7)), none]) rfl ?_
      refine go_aload kk260_0.1.2.1.2.1.2 rfl ?_
      refine go_iload kk260_0.1.2.1.2.2 rfl ?_
      refine go_ck (fun q14 => ?_)
      refine go_callP1 kk260_0.1.2.2.1.1.1 rfl rfl rfl ⟨by decide, _, rfl, q14⟩ ⟨Nat.zero_le _, Nat.zero_le _⟩ (by omega) (tfP_willFor (by omega) e10 q14  r13) (fun y15 r16 => ?_)
      refine go_int kk260_0.1.2.2.1.1.2 (-1) rfl ?_
      refine go_cmeq kk260_0.1.2.2.1.2 r16 (inR_of (by decide)) (fun c19 => ?_) (fun c20 => ?_)
      · refine go_aload kk260_0.2.1.1.1.1.2 rfl ?_
        refine go_int kk260_0.2.1.1.1.2 0 rfl ?_
        refine go_callN2 kk260_0.2.1.1.2.1.1 rfl rfl rfl ⟨by decide, _, rfl, hK0⟩ ⟨Nat.zero_le _, Nat.zero_le _⟩ (by omega) (tfS_takeNamed (by omega) e10 hK0  (inR_b (Or.inl rfl))) (fun y21 g23 r22 e24 => ?_)
        refine go_astore kk260_0.2.1.1.2.1.2 rfl (loc2 := [some (sR v0), some (sR y1), some (sI (g9 v0 7)), some (sR y21)]) rfl ?_
        refine go_aload kk260_0.2.1.1.2.2 rfl ?_
        refine go_isnull kk260_0.2.1.2.1.1.1  (fun c25 => ?_) (fun c26 => ?_)
        · refine go_int kk260_0.2.1.2.1.1.2 0 rfl ?_
          exact go_bret kk260_0.2.1.2.1.2 e24 (Or.inl rfl) ⟨Nat.zero_le _, Nat.zero_le _⟩ rfl
        · refine go_aload kk260_0.2.1.2.2.1.1 rfl ?_
          refine go_aload kk260_0.2.1.2.2.1.2 rfl ?_
          refine go_acmp kk260_0.2.1.2.2.2 r22 r2 (fun c27 => ?_) (fun c28 => ?_)
          · refine go_aload kk260_0.2.2.1.1.1.1 rfl ?_
            refine go_int kk260_0.2.2.1.1.1.2 2 rfl ?_
            refine go_callN3 kk260_0.2.2.1.1.2 rfl rfl rfl ⟨by decide, _, rfl, hK0⟩ ⟨Nat.zero_le _, Nat.zero_le _⟩ (by omega) (tfS_fail (by omega) e24 hK0  (inR_of (by decide))) (fun y29 g31 r30 e32 => ?_)
            exact go_bret kk260_0.2.2.1.2.1.1 e32 r30 ⟨Nat.zero_le _, Nat.zero_le _⟩ rfl
          · refine go_aload kk260_0.2.2.1.2.1.2 rfl ?_
            refine go_iload kk260_0.2.2.1.2.2 rfl ?_
            refine go_aload kk260_0.2.2.2.1.1.1 rfl ?_
            refine go_ck (fun q33 => ?_)
            refine go_getI (bI := 0) kk260_0.2.2.2.1.1.2 e24 q33 (by decide) rfl rfl (fun r34 => ?_)
            refine go_callN0 kk260_0.2.2.2.1.2 rfl rfl rfl ⟨by decide, _, rfl, q14⟩ ⟨Nat.zero_le _, Nat.zero_le _⟩ (by omega) (tfP_addWill (by omega) e24 q14  r13 r34) (fun y35 g37 e38 => ?_)
            refine go_aload kk260_0.2.2.2.2.1.1 rfl ?_
            refine go_callN3 kk260_0.2.2.2.2.1.2 rfl rfl rfl ⟨by decide, _, rfl, hK0⟩ ⟨Nat.zero_le _, Nat.zero_le _⟩ (by omega) (tfS_takeSemicolon (by omega) e38 hK0 ) (fun y39 g41 r40 e42 => ?_)
            exact go_bret kk260_0.2.2.2.2.2 e42 r40 ⟨Nat.zero_le _, Nat.zero_le _⟩ rfl
      · refine go_aload kk260_0.1.2.2.2.1.1 rfl ?_
        refine go_int kk260_0.1.2.2.2.1.2 3 rfl ?_
        refine go_callN3 kk260_0.1.2.2.2.2 rfl rfl rfl ⟨by decide, _, rfl, hK0⟩ ⟨Nat.zero_le _, Nat.zero_le _⟩ (by omega) (tfS_fail (by omega) e10 hK0  (inR_of (by decide))) (fun y43 g45 r44 e46 => ?_)
        exact go_bret kk260_0.2.1.1.1.1.1 e46 r44 ⟨Nat.zero_le _, Nat.zero_le _⟩ rfl
theorem tfS_takeStatement {Φ : ev_P} {d : Nat} (hd : 5 ≤ d) {g : gH} (hg : HR g) {v0 : Int} (hK0 : kd v0 = 4) : Go Φ pr_P fN 3 (fS_takeStatement g v0) d (pr_P 251) 0 (ev_loc (pr_P 251).1 [(sR v0)]) [] g 0 0 := by
  show Go Φ pr_P fN 3 (fS_takeStatement g v0) d pr_m251 0 [some (sR v0)] [] g 0 0
  unfold fS_takeStatement
  refine go_aload kk251_0.1.1.1.1.1.1 rfl ?_
  refine go_callN0 kk251_0.1.1.1.1.1.2 rfl rfl rfl ⟨by decide, _, rfl, hK0⟩ ⟨Nat.zero_le _, Nat.zero_le _⟩ (by omega) (tfS_advance (by omega) hg hK0 ) (fun y1 g3 e4 => ?_)
  refine go_aload kk251_0.1.1.1.1.2 rfl ?_
  refine go_getI (bI := 4) kk251_0.1.1.1.2.1 e4 hK0 (by decide) rfl rfl (fun r5 => ?_)
  refine go_ifeq kk251_0.1.1.1.2.2 r5 (fun c6 => ?_) (fun c7 => ?_)
  · refine go_int kk251_0.1.1.2.1.1 0 rfl ?_
    exact go_bret kk251_0.1.1.2.1.2 e4 (Or.inl rfl) ⟨Nat.zero_le _, Nat.zero_le _⟩ rfl
  · refine go_aload kk251_0.1.1.2.2.1 rfl ?_
    refine go_ldcs kk251_0.1.1.2.2.2 (by decide) (x := 2000000) rfl ?_
    refine go_callP3 kk251_0.1.2.1.1.1 rfl rfl rfl ⟨by decide, _, rfl, hK0⟩ ⟨Nat.zero_le _, Nat.zero_le _⟩ (by omega) (tfS_isWord (by omega) e4 hK0 ) (fun y8 r9 => ?_)
    refine go_ifeq kk251_0.1.2.1.1.2 (inR_b r9) (fun c12 => ?_) (fun c13 => ?_)
    · refine go_aload kk251_0.1.2.2.1.2 rfl ?_
      refine go_ldcs kk251_0.1.2.2.2.1 (by decide) (x := 2000001) rfl ?_
      refine go_callP3 kk251_0.1.2.2.2.2 rfl rfl rfl ⟨by decide, _, rfl, hK0⟩ ⟨Nat.zero_le _, Nat.zero_le _⟩ (by omega) (tfS_isWord (by omega) e4 hK0 ) (fun y14 r15 => ?_)
      refine go_ifeq kk251_0.2.1.1.1.1 (inR_b r15) (fun c18 => ?_) (fun c19 => ?_)
      · refine go_aload kk251_0.2.1.2.1.1 rfl ?_
        refine go_ldcs kk251_0.2.1.2.1.2 (by decide) (x := 2000002) rfl ?_
        refine go_callP3 kk251_0.2.1.2.2.1 rfl rfl rfl ⟨by decide, _, rfl, hK0⟩ ⟨Nat.zero_le _, Nat.zero_le _⟩ (by omega) (tfS_isWord (by omega) e4 hK0 ) (fun y20 r21 => ?_)
        refine go_ifeq kk251_0.2.1.2.2.2 (inR_b r21) (fun c24 => ?_) (fun c25 => ?_)
        · refine go_aload kk251_0.2.2.1.2.2 rfl ?_
          refine go_ldcs kk251_0.2.2.2.1.1 (by decide) (x := 2000003) rfl ?_
          refine go_callP3 kk251_0.2.2.2.1.2 rfl rfl rfl ⟨by decide, _, rfl, hK0⟩ ⟨Nat.zero_le _, Nat.zero_le _⟩ (by omega) (tfS_isWord (by omega) e4 hK0 ) (fun y26 r27 => ?_)
          refine go_ifeq kk251_0.2.2.2.2.1 (inR_b r27) (fun c30 => ?_) (fun c31 => ?_)
          · refine go_aload kk251_1.1.1.1.1.2 rfl ?_
            refine go_ldcs kk251_1.1.1.1.2.1 (by decide) (x := 2000004) rfl ?_
            refine go_callP3 kk251_1.1.1.1.2.2 rfl rfl rfl ⟨by decide, _, rfl, hK0⟩ ⟨Nat.zero_le _, Nat.zero_le _⟩ (by omega) (tfS_isWord (by omega) e4 hK0 ) (fun y32 r33 => ?_)
            refine go_ifeq kk251_1.1.1.2.1.1 (inR_b r33) (fun c36 => ?_) (fun c37 => ?_)
            · refine go_aload kk251_1.1.2.1.1.1 rfl ?_
              refine go_ldcs kk251_1.1.2.1.1.2 (by decide) (x := 2000005) rfl ?_
              refine go_callP3 kk251_1.1.2.1.2.1 rfl rfl rfl ⟨by decide, _, rfl, hK0⟩ ⟨Nat.zero_le _, Nat.zero_le _⟩ (by omega) (tfS_isWord (by omega) e4 hK0 ) (fun y38 r39 => ?_)
              refine go_ifeq kk251_1.1.2.1.2.2 (inR_b r39) (fun c42 => ?_) (fun c43 => ?_)
              · refine go_aload kk251_1.1.2.2.2.2 rfl ?_
                refine go_ldcs kk251_1.2.1.1.1.1.1 (by decide) (x := 2000006) rfl ?_
                refine go_callP3 kk251_1.2.1.1.1.1.2 rfl rfl rfl ⟨by decide, _, rfl, hK0⟩ ⟨Nat.zero_le _, Nat.zero_le _⟩ (by omega) (tfS_isWord (by omega) e4 hK0 ) (fun y44 r45 => ?_)
                refine go_ifeq kk251_1.2.1.1.1.2 (inR_b r45) (fun c48 => ?_) (fun c49 => ?_)
                · refine go_aload kk251_1.2.1.2.1.2 rfl ?_
                  refine go_ldcs kk251_1.2.1.2.2.1 (by decide) (x := 2000007) rfl ?_
                  refine go_callP3 kk251_1.2.1.2.2.2 rfl rfl rfl ⟨by decide, _, rfl, hK0⟩ ⟨Nat.zero_le _, Nat.zero_le _⟩ (by omega) (tfS_isWord (by omega) e4 hK0 ) (fun y50 r51 => ?_)
                  refine go_ifeq kk251_1.2.2.1.1.1 (inR_b r51) (fun c54 => ?_) (fun c55 => ?_)
                  · refine go_aload kk251_1.2.2.2.1.1 rfl ?_
                    refine go_int kk251_1.2.2.2.1.2 1 rfl ?_
                    refine go_callN3 kk251_1.2.2.2.2.1 rfl rfl rfl ⟨by decide, _, rfl, hK0⟩ ⟨Nat.zero_le _, Nat.zero_le _⟩ (by omega) (tfS_fail (by omega) e4 hK0  (inR_b (Or.inr rfl))) (fun y56 g58 r57 e59 => ?_)
                    exact go_bret kk251_1.2.2.2.2.2 e59 r57 ⟨Nat.zero_le _, Nat.zero_le _⟩ rfl
                  · refine go_aload kk251_1.2.2.1.1.2 rfl ?_
                    refine go_callN3 kk251_1.2.2.1.2.1 rfl rfl rfl ⟨by decide, _, rfl, hK0⟩ ⟨Nat.zero_le _, Nat.zero_le _⟩ (by omega) (tfS_takeWill (by omega) e4 hK0 ) (fun y60 g62 r61 e63 => ?_)
                    refine go_goto kk251_1.2.2.1.2.2 ?_
                    exact go_bret kk251_1.2.2.2.2.2 e63 r61 ⟨Nat.zero_le _, Nat.zero_le _⟩ rfl
                · refine go_aload kk251_1.2.1.1.2.1 rfl ?_
                  refine go_callN3 kk251_1.2.1.1.2.2 rfl rfl rfl ⟨by decide, _, rfl, hK0⟩ ⟨Nat.zero_le _, Nat.zero_le _⟩ (by omega) (tfS_takeRefusal (by omega) e4 hK0 ) (fun y64 g66 r65 e67 => ?_)
                  exact go_bret kk251_1.2.1.2.1.1 e67 r65 ⟨Nat.zero_le _, Nat.zero_le _⟩ rfl
              · refine go_aload kk251_1.1.2.2.1.1 rfl ?_
                refine go_callN3 kk251_1.1.2.2.1.2 rfl rfl rfl ⟨by decide, _, rfl, hK0⟩ ⟨Nat.zero_le _, Nat.zero_le _⟩ (by omega) (tfS_takeDuty (by omega) e4 hK0 ) (fun y68 g70 r69 e71 => ?_)
                exact go_bret kk251_1.1.2.2.2.1 e71 r69 ⟨Nat.zero_le _, Nat.zero_le _⟩ rfl
            · refine go_aload kk251_1.1.1.2.1.2 rfl ?_
              refine go_callN3 kk251_1.1.1.2.2.1 rfl rfl rfl ⟨by decide, _, rfl, hK0⟩ ⟨Nat.zero_le _, Nat.zero_le _⟩ (by omega) (tfS_takeHeir (by omega) e4 hK0 ) (fun y72 g74 r73 e75 => ?_)
              exact go_bret kk251_1.1.1.2.2.2 e75 r73 ⟨Nat.zero_le _, Nat.zero_le _⟩ rfl
          · refine go_aload kk251_0.2.2.2.2.2 rfl ?_
            refine go_callN3 kk251_1.1.1.1.1.1.1 rfl rfl rfl ⟨by decide, _, rfl, hK0⟩ ⟨Nat.zero_le _, Nat.zero_le _⟩ (by omega) (tfS_takeProcess (by omega) e4 hK0 ) (fun y76 g78 r77 e79 => ?_)
            exact go_bret kk251_1.1.1.1.1.1.2 e79 r77 ⟨Nat.zero_le _, Nat.zero_le _⟩ rfl
        · refine go_aload kk251_0.2.2.1.1.1 rfl ?_
          refine go_callN3 kk251_0.2.2.1.1.2 rfl rfl rfl ⟨by decide, _, rfl, hK0⟩ ⟨Nat.zero_le _, Nat.zero_le _⟩ (by omega) (tfS_takeRoot (by omega) e4 hK0 ) (fun y80 g82 r81 e83 => ?_)
          exact go_bret kk251_0.2.2.1.2.1 e83 r81 ⟨Nat.zero_le _, Nat.zero_le _⟩ rfl
      · refine go_aload kk251_0.2.1.1.1.2 rfl ?_
        refine go_callN3 kk251_0.2.1.1.2.1 rfl rfl rfl ⟨by decide, _, rfl, hK0⟩ ⟨Nat.zero_le _, Nat.zero_le _⟩ (by omega) (tfS_takeDeep (by omega) e4 hK0 ) (fun y84 g86 r85 e87 => ?_)
        exact go_bret kk251_0.2.1.1.2.2 e87 r85 ⟨Nat.zero_le _, Nat.zero_le _⟩ rfl
    · refine go_aload kk251_0.1.2.1.2.1 rfl ?_
      refine go_callN3 kk251_0.1.2.1.2.2 rfl rfl rfl ⟨by decide, _, rfl, hK0⟩ ⟨Nat.zero_le _, Nat.zero_le _⟩ (by omega) (tfS_takeOrder (by omega) e4 hK0 ) (fun y88 g90 r89 e91 => ?_)
      exact go_bret kk251_0.1.2.2.1.1 e91 r89 ⟨Nat.zero_le _, Nat.zero_le _⟩ rfl
theorem tfP_take {Φ : ev_P} {d : Nat} (hd : 0 ≤ d) {g : gH} (hg : HR g) {v0 v1 : Int} (hK0 : kd v0 = 3) (h1 : RfR v1) : Go Φ pr_P fN 0 (fP_take g v0 v1) d (pr_P 234) 0 (ev_loc (pr_P 234).1 [(sR v0), (sR v1)]) [] g 0 0 := by
  show Go Φ pr_P fN 0 (fP_take g v0 v1) d pr_m234 0 [some (sR v0), some (sR v1)] [] g 0 0
  unfold fP_take
  refine go_aload kk234_0.1.1.1.1.1.1 rfl ?_
  refine go_aload kk234_0.1.1.1.1.1.2 rfl ?_
  refine go_ck (fun q1 => ?_)
  refine go_getI (bI := 1) kk234_0.1.1.1.1.2.1 hg q1 (by decide) rfl rfl (fun r2 => ?_)
  refine go_putI (bI := 1) kk234_0.1.1.1.1.2.2 hg hK0 (by decide) rfl rfl r2 (fun g3 e4 => ?_)
  refine go_aload kk234_0.1.1.1.2.1.1 rfl ?_
  refine go_aload kk234_0.1.1.1.2.1.2 rfl ?_
  refine go_getI (bI := 3) kk234_0.1.1.1.2.2 e4 q1 (by decide) rfl rfl (fun r5 => ?_)
  refine go_putI (bI := 3) kk234_0.1.1.2.1.1.1 e4 hK0 (by decide) rfl rfl r5 (fun g6 e7 => ?_)
  refine go_aload kk234_0.1.1.2.1.1.2 rfl ?_
  refine go_aload kk234_0.1.1.2.1.2.1 rfl ?_
  refine go_getI (bI := 4) kk234_0.1.1.2.1.2.2 e7 q1 (by decide) rfl rfl (fun r8 => ?_)
  refine go_putI (bI := 4) kk234_0.1.1.2.2.1.1 e7 hK0 (by decide) rfl rfl r8 (fun g9 e10 => ?_)
  refine go_aload kk234_0.1.1.2.2.1.2 rfl ?_
  refine go_aload kk234_0.1.1.2.2.2 rfl ?_
  refine go_getI (bI := 5) kk234_0.1.2.1.1.1.1 e10 q1 (by decide) rfl rfl (fun r11 => ?_)
  refine go_putI (bI := 5) kk234_0.1.2.1.1.1.2 e10 hK0 (by decide) rfl rfl r11 (fun g12 e13 => ?_)
  refine go_aload kk234_0.1.2.1.1.2.1 rfl ?_
  refine go_aload kk234_0.1.2.1.1.2.2 rfl ?_
  refine go_getI (bI := 6) kk234_0.1.2.1.2.1.1 e13 q1 (by decide) rfl rfl (fun r14 => ?_)
  refine go_putI (bI := 6) kk234_0.1.2.1.2.1.2 e13 hK0 (by decide) rfl rfl r14 (fun g15 e16 => ?_)
  refine go_aload kk234_0.1.2.1.2.2 rfl ?_
  refine go_aload kk234_0.1.2.2.1.1.1 rfl ?_
  refine go_getI (bI := 7) kk234_0.1.2.2.1.1.2 e16 q1 (by decide) rfl rfl (fun r17 => ?_)
  refine go_putI (bI := 7) kk234_0.1.2.2.1.2 e16 hK0 (by decide) rfl rfl r17 (fun g18 e19 => ?_)
  refine go_aload kk234_0.1.2.2.2.1.1 rfl ?_
  refine go_aload kk234_0.1.2.2.2.1.2 rfl ?_
  refine go_getI (bI := 8) kk234_0.1.2.2.2.2 e19 q1 (by decide) rfl rfl (fun r20 => ?_)
  refine go_putI (bI := 8) kk234_0.2.1.1.1.1.1 e19 hK0 (by decide) rfl rfl r20 (fun g21 e22 => ?_)
  refine go_aload kk234_0.2.1.1.1.1.2 rfl ?_
  refine go_aload kk234_0.2.1.1.1.2.1 rfl ?_
  refine go_getI (bI := 9) kk234_0.2.1.1.1.2.2 e22 q1 (by decide) rfl rfl (fun r23 => ?_)
  refine go_putI (bI := 9) kk234_0.2.1.1.2.1.1 e22 hK0 (by decide) rfl rfl r23 (fun g24 e25 => ?_)
  refine go_aload kk234_0.2.1.1.2.1.2 rfl ?_
  refine go_aload kk234_0.2.1.1.2.2 rfl ?_
  refine go_getI (bI := 10) kk234_0.2.1.2.1.1.1 e25 q1 (by decide) rfl rfl (fun r26 => ?_)
  refine go_putI (bI := 10) kk234_0.2.1.2.1.1.2 e25 hK0 (by decide) rfl rfl r26 (fun g27 e28 => ?_)
  refine go_aload kk234_0.2.1.2.1.2 rfl ?_
  refine go_aload kk234_0.2.1.2.2.1.1 rfl ?_
  refine go_getI (bI := 11) kk234_0.2.1.2.2.1.2 e28 q1 (by decide) rfl rfl (fun r29 => ?_)
  refine go_putI (bI := 11) kk234_0.2.1.2.2.2 e28 hK0 (by decide) rfl rfl r29 (fun g30 e31 => ?_)
  refine go_aload kk234_0.2.2.1.1.1.1 rfl ?_
  refine go_aload kk234_0.2.2.1.1.1.2 rfl ?_
  refine go_getI (bI := 12) kk234_0.2.2.1.1.2.1 e31 q1 (by decide) rfl rfl (fun r32 => ?_)
  refine go_putI (bI := 12) kk234_0.2.2.1.1.2.2 e31 hK0 (by decide) rfl rfl r32 (fun g33 e34 => ?_)
  refine go_aload kk234_0.2.2.1.2.1.1 rfl ?_
  refine go_aload kk234_0.2.2.1.2.1.2 rfl ?_
  refine go_getB (bI := 13) kk234_0.2.2.1.2.2 e34 q1 (by decide) rfl rfl (fun r35 => ?_)
  refine go_putB (bI := 13) kk234_0.2.2.2.1.1.1 e34 hK0 (by decide) rfl rfl r35 (fun g36 e37 => ?_)
  refine go_aload kk234_0.2.2.2.1.1.2 rfl ?_
  refine go_aload kk234_0.2.2.2.1.2 rfl ?_
  refine go_getL (bI := 14) kk234_0.2.2.2.2.1.1 e37 q1 (by decide) rfl rfl (fun r38 => ?_)
  refine go_putL (bI := 14) kk234_0.2.2.2.2.1.2 e37 hK0 (by decide) rfl rfl r38 (fun g39 e40 => ?_)
  exact go_vret kk234_0.2.2.2.2.2 e40 ⟨Nat.zero_le _, Nat.zero_le _⟩ rfl
theorem tjT_take_70 {Φ : ev_P} {d : Nat} (hd : 1 ≤ d) {g : gH} (hg : HR g) {v0 v1 : Int} (hK0 : kd v0 = 5) (h1 : RfR v1) (u2 : Option ev_V) (w2 : nwo u2) (u3 : Option ev_V) (w3 : nwo u3) : Go Φ pr_P fN 0 (jT_take_70 g v0 v1 ) d pr_m273 70 [some (sR v0), some (sR v1), u2, u3] [] g 0 0 := by
  unfold jT_take_70
  refine go_aload kk273_1.1.1.1.1.1.1 rfl ?_
  refine go_ck (fun q39 => ?_)
  refine go_getR (bI := 2) kk273_1.1.1.1.1.1.2 hg q39 (by decide) rfl rfl (fun r40 => ?_)
  refine go_int kk273_1.1.1.1.1.2 0 rfl ?_
  refine go_aload kk273_1.1.1.1.2.1 rfl ?_
  refine go_getR (bI := 2) kk273_1.1.1.1.2.2 hg hK0 (by decide) rfl rfl (fun r41 => ?_)
  refine go_int kk273_1.1.1.2.1.1.1 0 rfl ?_
  refine go_int kk273_1.1.1.2.1.1.2 8 rfl ?_
  refine go_ck (fun q42 => ?_)
  refine go_copy kk273_1.1.1.2.1.2 hg q42.1 q42.2 rfl (fun g43 e44 => ?_)
  refine go_aload kk273_1.1.1.2.2.1 rfl ?_
  refine go_getR (bI := 3) kk273_1.1.1.2.2.2 e44 q39 (by decide) rfl rfl (fun r45 => ?_)
  refine go_int kk273_1.1.2.1.1.1.1 0 rfl ?_
  refine go_aload kk273_1.1.2.1.1.1.2 rfl ?_
  refine go_getR (bI := 3) kk273_1.1.2.1.1.2 e44 hK0 (by decide) rfl rfl (fun r46 => ?_)
  refine go_int kk273_1.1.2.1.2.1 0 rfl ?_
  refine go_int kk273_1.1.2.1.2.2 5 rfl ?_
  refine go_ck (fun q47 => ?_)
  refine go_copy kk273_1.1.2.2.1.1 e44 q47.1 q47.2 rfl (fun g48 e49 => ?_)
  refine go_aload kk273_1.1.2.2.1.2 rfl ?_
  refine go_aload kk273_1.1.2.2.2.1 rfl ?_
  refine go_getI (bI := 4) kk273_1.1.2.2.2.2 e49 q39 (by decide) rfl rfl (fun r50 => ?_)
  refine go_putI (bI := 4) kk273_1.2.1.1.1.1.1 e49 hK0 (by decide) rfl rfl r50 (fun g51 e52 => ?_)
  refine go_aload kk273_1.2.1.1.1.1.2 rfl ?_
  refine go_aload kk273_1.2.1.1.1.2 rfl ?_
  refine go_getI (bI := 6) kk273_1.2.1.1.2.1 e52 q39 (by decide) rfl rfl (fun r53 => ?_)
  refine go_putI (bI := 6) kk273_1.2.1.1.2.2 e52 hK0 (by decide) rfl rfl r53 (fun g54 e55 => ?_)
  refine go_aload kk273_1.2.1.2.1.1 rfl ?_
  refine go_aload kk273_1.2.1.2.1.2 rfl ?_
  refine go_getI (bI := 7) kk273_1.2.1.2.2.1 e55 q39 (by decide) rfl rfl (fun r56 => ?_)
  refine go_putI (bI := 7) kk273_1.2.1.2.2.2 e55 hK0 (by decide) rfl rfl r56 (fun g57 e58 => ?_)
  refine go_aload kk273_1.2.2.1.1.1.1 rfl ?_
  refine go_aload kk273_1.2.2.1.1.1.2 rfl ?_
  refine go_getI (bI := 8) kk273_1.2.2.1.1.2 e58 q39 (by decide) rfl rfl (fun r59 => ?_)
  refine go_putI (bI := 8) kk273_1.2.2.1.2.1 e58 hK0 (by decide) rfl rfl r59 (fun g60 e61 => ?_)
  refine go_aload kk273_1.2.2.1.2.2 rfl ?_
  refine go_aload kk273_1.2.2.2.1.1 rfl ?_
  refine go_getI (bI := 9) kk273_1.2.2.2.1.2 e61 q39 (by decide) rfl rfl (fun r62 => ?_)
  refine go_putI (bI := 9) kk273_1.2.2.2.2.1 e61 hK0 (by decide) rfl rfl r62 (fun g63 e64 => ?_)
  exact go_vret kk273_1.2.2.2.2.2 e64 ⟨Nat.zero_le _, Nat.zero_le _⟩ rfl
theorem tbT_take_10 {Φ : ev_P} {d : Nat} (hd : 1 ≤ d) {v0 v1 : Int} (hK0 : kd v0 = 5) (h1 : RfR v1) {X10 : Int → gH → Option (Int × gH)} (HX10 : ∀ (v2 : Int) (h2 : InR v2) (g : gH) (hg : HR g) (u3 : Option ev_V) (w3 : nwo u3), Go Φ pr_P fN 0 (X10 v2 g) d pr_m273 10 [some (sR v0), some (sR v1), some (sI v2), u3] [] g 0 0) : ∀ (v2 : Int) (h2 : InR v2) (g : gH) (hg : HR g) (u3 : Option ev_V) (w3 : nwo u3), Go Φ pr_P fN 0 (bT_take_10 v0 v1 X10 v2 g) d pr_m273 10 [some (sR v0), some (sR v1), some (sI v2), u3] [] g 0 0 := by
  intro v2 h2 g hg u3 w3
  unfold bT_take_10
  refine go_iload kk273_0.1.1.2.1.1.2 rfl ?_
  refine go_int kk273_0.1.1.2.1.2 40 rfl ?_
  refine go_cmlt kk273_0.1.1.2.2.1 h2 (inR_of (by decide)) (fun c5 => ?_) (fun c6 => ?_)
  · refine go_aload kk273_0.1.1.2.2.2 rfl ?_
    refine go_ck (fun q7 => ?_)
    refine go_getR (bI := 1) kk273_0.1.2.1.1.1.1 hg q7 (by decide) rfl rfl (fun r8 => ?_)
    refine go_iload kk273_0.1.2.1.1.1.2 rfl ?_
    refine go_ck (fun q10 => ?_)
    refine go_pald kk273_0.1.2.1.1.2 hg q10 (fun r9 => ?_)
    refine go_astore kk273_0.1.2.1.2.1 rfl (loc2 := [some (sR v0), some (sR v1), some (sI v2), some (sR (g (g v1 1) v2))]) rfl ?_
    refine go_aload kk273_0.1.2.1.2.2 rfl ?_
    refine go_getR (bI := 1) kk273_0.1.2.2.1.1 hg hK0 (by decide) rfl rfl (fun r11 => ?_)
    refine go_iload kk273_0.1.2.2.1.2 rfl ?_
    refine go_ck (fun q13 => ?_)
    refine go_pald kk273_0.1.2.2.2.1 hg q13 (fun r12 => ?_)
    refine go_aload kk273_0.1.2.2.2.2 rfl ?_
    refine go_ck (fun q14 => ?_)
    refine go_callN0 kk273_0.2.1.1.1.1.1 rfl rfl rfl ⟨by decide, _, rfl, q14⟩ ⟨Nat.zero_le _, Nat.zero_le _⟩ (by omega) (tfP_take (by omega) hg q14  r9) (fun y15 g17 e18 => ?_)
    refine go_aload kk273_0.2.1.1.1.1.2 rfl ?_
    refine go_getR (bI := 1) kk273_0.2.1.1.1.2 e18 hK0 (by decide) rfl rfl (fun r19 => ?_)
    refine go_iload kk273_0.2.1.1.2.1 rfl ?_
    refine go_ck (fun q21 => ?_)
    refine go_pald kk273_0.2.1.1.2.2 e18 q21 (fun r20 => ?_)
    refine go_aload kk273_0.2.1.2.1.1 rfl ?_
    refine go_ck (fun q22 => ?_)
    refine go_getR (bI := 2) kk273_0.2.1.2.1.2 e18 q22 (by decide) rfl rfl (fun r23 => ?_)
    refine go_isnull kk273_0.2.1.2.2.1  (fun c24 => ?_) (fun c25 => ?_)
    · refine go_null kk273_0.2.1.2.2.2 ?_
      refine go_goto kk273_0.2.2.1.1.1.1 ?_
      refine go_ck (fun q26 => ?_)
      refine go_putR (bI := 2) kk273_0.2.2.2.1.2 e18 q26 (by decide) rfl rfl rfR_null (fun g27 e28 => ?_)
      refine go_iinc kk273_0.2.2.2.2.1 rfl rfl 1 rfl (loc2 := [some (sR v0), some (sR v1), some (sI (w32 (v2 + 1))), some (sR (g (g v1 1) v2))]) rfl ?_
      refine go_goto kk273_0.2.2.2.2.2 ?_
      exact HX10 (w32 (v2 + 1)) (inR_w32 _) g27 e28 (some (sR (g (g v1 1) v2))) rfl
    · refine go_aload kk273_0.2.2.1.1.1.2 rfl ?_
      refine go_aload kk273_0.2.2.1.1.2 rfl ?_
      refine go_getR (bI := 2) kk273_0.2.2.1.2.1 e18 q22 (by decide) rfl rfl (fun r29 => ?_)
      refine go_ck (fun q30 => ?_)
      refine go_getI (bI := 0) kk273_0.2.2.1.2.2 e18 q30 (by decide) rfl rfl (fun r31 => ?_)
      refine go_callP2 kk273_0.2.2.2.1.1 rfl rfl rfl ⟨by decide, _, rfl, hK0⟩ ⟨Nat.zero_le _, Nat.zero_le _⟩ (by omega) (tfT_at (by omega) e18 hK0  r31) (fun y32 r33 => ?_)
      refine go_ck (fun q36 => ?_)
      refine go_putR (bI := 2) kk273_0.2.2.2.1.2 e18 q36 (by decide) rfl rfl r33 (fun g37 e38 => ?_)
      refine go_iinc kk273_0.2.2.2.2.1 rfl rfl 1 rfl (loc2 := [some (sR v0), some (sR v1), some (sI (w32 (v2 + 1))), some (sR (g (g v1 1) v2))]) rfl ?_
      refine go_goto kk273_0.2.2.2.2.2 ?_
      exact HX10 (w32 (v2 + 1)) (inR_w32 _) g37 e38 (some (sR (g (g v1 1) v2))) rfl
  · exact tjT_take_70 hd hg hK0 h1 (some (sI v2)) rfl u3 w3
theorem tlT_take_10 {Φ : ev_P} {d : Nat} (hd : 1 ≤ d) {v0 v1 : Int} (hK0 : kd v0 = 5) (h1 : RfR v1) : ∀ n : Nat, ∀ (v2 : Int) (h2 : InR v2) (g : gH) (hg : HR g) (u3 : Option ev_V) (w3 : nwo u3), Go Φ pr_P fN 0 (lT_take_10 v0 v1 n v2 g) d pr_m273 10 [some (sR v0), some (sR v1), some (sI v2), u3] [] g 0 0 := by
  intro n
  induction n with
  | zero => intros; exact go_none
  | succ n ih => exact tbT_take_10 hd hK0 h1 ih
theorem tfT_take {Φ : ev_P} {d : Nat} (hd : 1 ≤ d) {g : gH} (hg : HR g) {v0 v1 : Int} (hK0 : kd v0 = 5) (h1 : RfR v1) : Go Φ pr_P fN 0 (fT_take g v0 v1) d (pr_P 273) 0 (ev_loc (pr_P 273).1 [(sR v0), (sR v1)]) [] g 0 0 := by
  show Go Φ pr_P fN 0 (fT_take g v0 v1) d pr_m273 0 [some (sR v0), some (sR v1), none, none] [] g 0 0
  unfold fT_take
  refine go_aload kk273_0.1.1.1.1.1.1 rfl ?_
  refine go_aload kk273_0.1.1.1.1.1.2 rfl ?_
  refine go_ck (fun q1 => ?_)
  refine go_getI (bI := 5) kk273_0.1.1.1.1.2 hg q1 (by decide) rfl rfl (fun r2 => ?_)
  refine go_putI (bI := 5) kk273_0.1.1.1.2.1 hg hK0 (by decide) rfl rfl r2 (fun g3 e4 => ?_)
  refine go_int kk273_0.1.1.1.2.2 0 rfl ?_
  refine go_istore kk273_0.1.1.2.1.1.1 rfl (loc2 := [some (sR v0), some (sR v1), some (sI 0), none]) rfl ?_
  exact tlT_take_10 hd hK0 h1 fu 0 (inR_b (Or.inl rfl)) g3 e4 none rfl
theorem tjC_loadTree_36 {Φ : ev_P} {d : Nat} (hd : 6 ≤ d) {g : gH} (hg : HR g) {v0 : Int} (hK0 : kd v0 = 6) (u1 : Option ev_V) (w1 : nwo u1) (u2 : Option ev_V) (w2 : nwo u2) : Go Φ pr_P fN 1 (jC_loadTree_36 g v0 ) d pr_m3 36 [some (sR v0), u1, u2] [] g 0 0 := by
  unfold jC_loadTree_36
  refine go_aload kk3_0.1.2.1.2.2 rfl ?_
  refine go_getR (bI := 4) kk3_0.1.2.2.1.1.1 hg hK0 (by decide) rfl rfl (fun r17 => ?_)
  refine go_ck (fun q18 => ?_)
  refine go_getR (bI := 0) kk3_0.1.2.2.1.1.2 hg q18 (by decide) rfl rfl (fun r19 => ?_)
  refine go_int kk3_0.1.2.2.1.2 0 rfl ?_
  refine go_ck (fun q20 => ?_)
  refine go_putI (bI := 1) kk3_0.1.2.2.2.1.1 hg q20 (by decide) rfl rfl (inR_b (Or.inl rfl)) (fun g21 e22 => ?_)
  refine go_aload kk3_0.1.2.2.2.1.2 rfl ?_
  refine go_getR (bI := 4) kk3_0.1.2.2.2.2 e22 hK0 (by decide) rfl rfl (fun r23 => ?_)
  refine go_ck (fun q24 => ?_)
  refine go_getI (bI := 2) kk3_0.2.1.1.1.1.1 e22 q24 (by decide) rfl rfl (fun r25 => ?_)
  refine go_ifeq kk3_0.2.1.1.1.1.2 r25 (fun c26 => ?_) (fun c27 => ?_)
  · refine go_aload kk3_0.2.1.1.2.1.1 rfl ?_
    refine go_getR (bI := 0) kk3_0.2.1.1.2.1.2 e22 hK0 (by decide) rfl rfl (fun r28 => ?_)
    refine go_aload kk3_0.2.1.1.2.2 rfl ?_
    refine go_getR (bI := 4) kk3_0.2.1.2.1.1.1 e22 hK0 (by decide) rfl rfl (fun r29 => ?_)
    refine go_getR (bI := 1) kk3_0.2.1.2.1.1.2 e22 q24 (by decide) rfl rfl (fun r30 => ?_)
    refine go_ck (fun q31 => ?_)
    refine go_callN0 kk3_0.2.1.2.1.2 rfl rfl rfl ⟨by decide, _, rfl, q31⟩ ⟨Nat.zero_le _, Nat.zero_le _⟩ (by omega) (tfT_take (by omega) e22 q31  r30) (fun y32 g34 e35 => ?_)
    refine go_aload kk3_0.2.1.2.2.1.1 rfl ?_
    refine go_getR (bI := 3) kk3_0.2.1.2.2.1.2 e35 hK0 (by decide) rfl rfl (fun r36 => ?_)
    refine go_int kk3_0.2.1.2.2.2 0 rfl ?_
    refine go_ck (fun q37 => ?_)
    refine go_putI (bI := 1) kk3_0.2.2.1.1.1.1 e35 q37 (by decide) rfl rfl (inR_b (Or.inl rfl)) (fun g38 e39 => ?_)
    refine go_aload kk3_0.2.2.1.1.1.2 rfl ?_
    refine go_int kk3_0.2.2.1.1.2 0 rfl ?_
    refine go_putB (bI := 6) kk3_0.2.2.1.2.1.1 e39 hK0 (by decide) rfl rfl (Or.inl rfl) (fun g40 e41 => ?_)
    refine go_aload kk3_0.2.2.1.2.1.2 rfl ?_
    refine go_getR (bI := 5) kk3_0.2.2.1.2.2 e41 hK0 (by decide) rfl rfl (fun r42 => ?_)
    refine go_int kk3_0.2.2.2.1.1.1 0 rfl ?_
    refine go_ck (fun q43 => ?_)
    refine go_putI (bI := 1) kk3_0.2.2.2.1.1.2 e41 q43 (by decide) rfl rfl (inR_b (Or.inl rfl)) (fun g44 e45 => ?_)
    refine go_aload kk3_0.2.2.2.1.2 rfl ?_
    refine go_getR (bI := 0) kk3_0.2.2.2.2.1.1 e45 hK0 (by decide) rfl rfl (fun r46 => ?_)
    refine go_ck (fun q47 => ?_)
    refine go_getI (bI := 5) kk3_0.2.2.2.2.1.2 e45 q47 (by decide) rfl rfl (fun r48 => ?_)
    exact go_iret kk3_0.2.2.2.2.2 e45 r48 ⟨Nat.zero_le _, Nat.zero_le _⟩ rfl
  · refine go_int kk3_0.2.1.1.1.2.1 (-1) rfl ?_
    exact go_iret kk3_0.2.1.1.1.2.2 e22 (inR_of (by decide)) ⟨Nat.zero_le _, Nat.zero_le _⟩ rfl
theorem tbC_loadTree_11 {Φ : ev_P} {d : Nat} (hd : 6 ≤ d) {v0 : Int} (hK0 : kd v0 = 6) {X11 : Int → Int → gH → Option (Int × gH)} (HX11 : ∀ (v1 : Int) (h1 : B01 v1) (v2 : Int) (h2 : InR v2) (g : gH) (hg : HR g), Go Φ pr_P fN 1 (X11 v1 v2 g) d pr_m3 11 [some (sR v0), some (sI v1), some (sI v2)] [] g 0 0) : ∀ (v1 : Int) (h1 : B01 v1) (v2 : Int) (h2 : InR v2) (g : gH) (hg : HR g), Go Φ pr_P fN 1 (bC_loadTree_11 v0 X11 v1 v2 g) d pr_m3 11 [some (sR v0), some (sI v1), some (sI v2)] [] g 0 0 := by
  intro v1 h1 v2 h2 g hg
  unfold bC_loadTree_11
  refine go_iload kk3_0.1.1.2.1.1.1 rfl ?_
  refine go_int kk3_0.1.1.2.1.1.2 500 rfl ?_
  refine go_cmlt kk3_0.1.1.2.1.2 h2 (inR_of (by decide)) (fun c7 => ?_) (fun c8 => ?_)
  · refine go_iload kk3_0.1.1.2.2.1.1 rfl ?_
    refine go_ifeq kk3_0.1.1.2.2.1.2 (inR_b h1) (fun c9 => ?_) (fun c10 => ?_)
    · exact tjC_loadTree_36 hd hg hK0 (some (sI v1)) rfl (some (sI v2)) rfl
    · refine go_aload kk3_0.1.1.2.2.2 rfl ?_
      refine go_getR (bI := 4) kk3_0.1.2.1.1.1.1 hg hK0 (by decide) rfl rfl (fun r11 => ?_)
      refine go_ck (fun q12 => ?_)
      refine go_callN3 kk3_0.1.2.1.1.1.2 rfl rfl rfl ⟨by decide, _, rfl, q12⟩ ⟨Nat.zero_le _, Nat.zero_le _⟩ (by omega) (tfS_takeStatement (by omega) hg q12 ) (fun y13 g15 r14 e16 => ?_)
      refine go_istore kk3_0.1.2.1.1.2 rfl (loc2 := [some (sR v0), some (sI y13), some (sI v2)]) rfl ?_
      refine go_iinc kk3_0.1.2.1.2.1.1 rfl rfl 1 rfl (loc2 := [some (sR v0), some (sI y13), some (sI (w32 (v2 + 1)))]) rfl ?_
      refine go_goto kk3_0.1.2.1.2.1.2 ?_
      exact HX11 y13 r14 (w32 (v2 + 1)) (inR_w32 _) g15 e16
  · exact tjC_loadTree_36 hd hg hK0 (some (sI v1)) rfl (some (sI v2)) rfl
theorem tlC_loadTree_11 {Φ : ev_P} {d : Nat} (hd : 6 ≤ d) {v0 : Int} (hK0 : kd v0 = 6) : ∀ n : Nat, ∀ (v1 : Int) (h1 : B01 v1) (v2 : Int) (h2 : InR v2) (g : gH) (hg : HR g), Go Φ pr_P fN 1 (lC_loadTree_11 v0 n v1 v2 g) d pr_m3 11 [some (sR v0), some (sI v1), some (sI v2)] [] g 0 0 := by
  intro n
  induction n with
  | zero => intros; exact go_none
  | succ n ih => exact tbC_loadTree_11 hd hK0 ih
theorem tfC_loadTree {Φ : ev_P} {d : Nat} (hd : 6 ≤ d) {g : gH} (hg : HR g) {v0 : Int} (hK0 : kd v0 = 6) : Go Φ pr_P fN 1 (fC_loadTree g v0) d (pr_P 3) 0 (ev_loc (pr_P 3).1 [(sR v0)]) [] g 0 0 := by
  show Go Φ pr_P fN 1 (fC_loadTree g v0) d pr_m3 0 [some (sR v0), none, none] [] g 0 0
  unfold fC_loadTree
  refine go_aload kk3_0.1.1.1.1.1.1 rfl ?_
  refine go_getR (bI := 4) kk3_0.1.1.1.1.1.2 hg hK0 (by decide) rfl rfl (fun r1 => ?_)
  refine go_ck (fun q2 => ?_)
  refine go_callN0 kk3_0.1.1.1.1.2.1 rfl rfl rfl ⟨by decide, _, rfl, q2⟩ ⟨Nat.zero_le _, Nat.zero_le _⟩ (by omega) (tfS_begin (by omega) hg q2 ) (fun y3 g5 e6 => ?_)
  refine go_int kk3_0.1.1.1.1.2.2 1 rfl ?_
  refine go_istore kk3_0.1.1.1.2.1.1 rfl (loc2 := [some (sR v0), some (sI 1), none]) rfl ?_
  refine go_int kk3_0.1.1.1.2.1.2 0 rfl ?_
  refine go_istore kk3_0.1.1.1.2.2 rfl (loc2 := [some (sR v0), some (sI 1), some (sI 0)]) rfl ?_
  exact tlC_loadTree_11 hd hK0 fu 1 (Or.inr rfl) 0 (inR_b (Or.inl rfl)) g5 e6
theorem tfC_errorCode {Φ : ev_P} {d : Nat} (hd : 0 ≤ d) {g : gH} (hg : HR g) {v0 : Int} (hK0 : kd v0 = 6) : Go Φ pr_P (fP g) 1 (fC_errorCode g v0) d (pr_P 4) 0 (ev_loc (pr_P 4).1 [(sR v0)]) [] g 0 0 := by
  show Go Φ pr_P (fP g) 1 (fC_errorCode g v0) d pr_m4 0 [some (sR v0)] [] g 0 0
  unfold fC_errorCode
  refine go_aload kk4_0.1.1 rfl ?_
  refine go_getR (bI := 4) kk4_0.1.2 hg hK0 (by decide) rfl rfl (fun r1 => ?_)
  refine go_ck (fun q2 => ?_)
  refine go_getI (bI := 2) kk4_0.2.1 hg q2 (by decide) rfl rfl (fun r3 => ?_)
  exact go_iret kk4_0.2.2 hg r3 ⟨Nat.zero_le _, Nat.zero_le _⟩ rfl
theorem tfC_errorOffset {Φ : ev_P} {d : Nat} (hd : 0 ≤ d) {g : gH} (hg : HR g) {v0 : Int} (hK0 : kd v0 = 6) : Go Φ pr_P (fP g) 1 (fC_errorOffset g v0) d (pr_P 5) 0 (ev_loc (pr_P 5).1 [(sR v0)]) [] g 0 0 := by
  show Go Φ pr_P (fP g) 1 (fC_errorOffset g v0) d pr_m5 0 [some (sR v0)] [] g 0 0
  unfold fC_errorOffset
  refine go_aload kk5_0.1.1 rfl ?_
  refine go_getR (bI := 4) kk5_0.1.2 hg hK0 (by decide) rfl rfl (fun r1 => ?_)
  refine go_ck (fun q2 => ?_)
  refine go_getI (bI := 3) kk5_0.2.1 hg q2 (by decide) rfl rfl (fun r3 => ?_)
  exact go_iret kk5_0.2.2 hg r3 ⟨Nat.zero_le _, Nat.zero_le _⟩ rfl
theorem tfC_rule {Φ : ev_P} {d : Nat} (hd : 0 ≤ d) {g : gH} (hg : HR g) {v0 v1 : Int} (hK0 : kd v0 = 6) (h1 : InR v1) : Go Φ pr_P (fP g) 1 (fC_rule g v0 v1) d (pr_P 9) 0 (ev_loc (pr_P 9).1 [(sR v0), (sI v1)]) [] g 0 0 := by
  show Go Φ pr_P (fP g) 1 (fC_rule g v0 v1) d pr_m9 0 [some (sR v0), some (sI v1)] [] g 0 0
  unfold fC_rule
  refine go_iload kk9_0.1.1.1.1 rfl ?_
  refine go_iflt kk9_0.1.1.1.2 h1 (fun c1 => ?_) (fun c2 => ?_)
  · refine go_int kk9_0.1.2.1.2 (-1) rfl ?_
    refine go_goto kk9_0.1.2.2 ?_
    exact go_iret kk9_0.2.2.2 hg (inR_of (by decide)) ⟨Nat.zero_le _, Nat.zero_le _⟩ rfl
  · refine go_iload kk9_0.1.1.2.1 rfl ?_
    refine go_int kk9_0.1.1.2.2 5 rfl ?_
    refine go_cmlt kk9_0.1.2.1.1 h1 (inR_of (by decide)) (fun c3 => ?_) (fun c4 => ?_)
    · refine go_aload kk9_0.2.1.1.1 rfl ?_
      refine go_getR (bI := 0) kk9_0.2.1.1.2 hg hK0 (by decide) rfl rfl (fun r5 => ?_)
      refine go_ck (fun q6 => ?_)
      refine go_getR (bI := 3) kk9_0.2.1.2 hg q6 (by decide) rfl rfl (fun r7 => ?_)
      refine go_iload kk9_0.2.2.1.1 rfl ?_
      refine go_ck (fun q9 => ?_)
      refine go_iald kk9_0.2.2.1.2 hg q9 (fun r8 => ?_)
      exact go_iret kk9_0.2.2.2 hg r8 ⟨Nat.zero_le _, Nat.zero_le _⟩ rfl
    · refine go_int kk9_0.1.2.1.2 (-1) rfl ?_
      refine go_goto kk9_0.1.2.2 ?_
      exact go_iret kk9_0.2.2.2 hg (inR_of (by decide)) ⟨Nat.zero_le _, Nat.zero_le _⟩ rfl
theorem tfP_isRunning {Φ : ev_P} {d : Nat} (hd : 0 ≤ d) {g : gH} (hg : HR g) {v0 : Int} (hK0 : kd v0 = 3) : Go Φ pr_P (fP g) 3 (fP_isRunning g v0) d (pr_P 235) 0 (ev_loc (pr_P 235).1 [(sR v0)]) [] g 0 0 := by
  show Go Φ pr_P (fP g) 3 (fP_isRunning g v0) d pr_m235 0 [some (sR v0)] [] g 0 0
  unfold fP_isRunning
  refine go_aload kk235_0.1.1.1 rfl ?_
  refine go_getI (bI := 1) kk235_0.1.1.2 hg hK0 (by decide) rfl rfl (fun r1 => ?_)
  refine go_ifeq kk235_0.1.2.1 r1 (fun c2 => ?_) (fun c3 => ?_)
  · refine go_int kk235_0.1.2.2 1 rfl ?_
    refine go_goto kk235_0.2.1.1 ?_
    exact go_bret kk235_0.2.2 hg (Or.inr rfl) ⟨Nat.zero_le _, Nat.zero_le _⟩ rfl
  · refine go_int kk235_0.2.1.2 0 rfl ?_
    exact go_bret kk235_0.2.2 hg (Or.inl rfl) ⟨Nat.zero_le _, Nat.zero_le _⟩ rfl
theorem tbP_countAbove_7 {Φ : ev_P} {d : Nat} (hd : 0 ≤ d) {g : gH} (hg : HR g) {X7 : Int → Int → Option Int} (HX7 : ∀ (v1 : Int) (h1 : InR v1) (v2 : Int) (h2 : RfR v2) (u0 : Option ev_V) (w0 : nwo u0), Go Φ pr_P (fP g) 1 (X7 v1 v2) d pr_m243 7 [u0, some (sI v1), some (sR v2)] [] g 0 0) : ∀ (v1 : Int) (h1 : InR v1) (v2 : Int) (h2 : RfR v2) (u0 : Option ev_V) (w0 : nwo u0), Go Φ pr_P (fP g) 1 (bP_countAbove_7 g X7 v1 v2) d pr_m243 7 [u0, some (sI v1), some (sR v2)] [] g 0 0 := by
  intro v1 h1 v2 h2 u0 w0
  unfold bP_countAbove_7
  refine go_aload kk243_0.1.2.1.2 rfl ?_
  refine go_isnull kk243_0.1.2.2  (fun c2 => ?_) (fun c3 => ?_)
  · refine go_iload kk243_0.2.2.1.2 rfl ?_
    exact go_iret kk243_0.2.2.2 hg h1 ⟨Nat.zero_le _, Nat.zero_le _⟩ rfl
  · refine go_iinc kk243_0.2.1.1.1 rfl w0 1 rfl (loc2 := [u0, some (sI (w32 (v1 + 1))), some (sR v2)]) rfl ?_
    refine go_aload kk243_0.2.1.1.2 rfl ?_
    refine go_ck (fun q4 => ?_)
    refine go_getR (bI := 2) kk243_0.2.1.2.1 hg q4 (by decide) rfl rfl (fun r5 => ?_)
    refine go_astore kk243_0.2.1.2.2 rfl (loc2 := [u0, some (sI (w32 (v1 + 1))), some (sR (g v2 2))]) rfl ?_
    refine go_goto kk243_0.2.2.1.1 ?_
    exact HX7 (w32 (v1 + 1)) (inR_w32 _) (g v2 2) r5 u0 w0
theorem tlP_countAbove_7 {Φ : ev_P} {d : Nat} (hd : 0 ≤ d) {g : gH} (hg : HR g) : ∀ n : Nat, ∀ (v1 : Int) (h1 : InR v1) (v2 : Int) (h2 : RfR v2) (u0 : Option ev_V) (w0 : nwo u0), Go Φ pr_P (fP g) 1 (lP_countAbove_7 g n v1 v2) d pr_m243 7 [u0, some (sI v1), some (sR v2)] [] g 0 0 := by
  intro n
  induction n with
  | zero => intros; exact go_none
  | succ n ih => exact tbP_countAbove_7 hd hg ih
theorem tfP_countAbove {Φ : ev_P} {d : Nat} (hd : 0 ≤ d) {g : gH} (hg : HR g) {v0 : Int} (hK0 : kd v0 = 3) : Go Φ pr_P (fP g) 1 (fP_countAbove g v0) d (pr_P 243) 0 (ev_loc (pr_P 243).1 [(sR v0)]) [] g 0 0 := by
  show Go Φ pr_P (fP g) 1 (fP_countAbove g v0) d pr_m243 0 [some (sR v0), none, none] [] g 0 0
  unfold fP_countAbove
  refine go_int kk243_0.1.1.1.1 0 rfl ?_
  refine go_istore kk243_0.1.1.1.2 rfl (loc2 := [some (sR v0), some (sI 0), none]) rfl ?_
  refine go_aload kk243_0.1.1.2.1 rfl ?_
  refine go_getR (bI := 2) kk243_0.1.1.2.2 hg hK0 (by decide) rfl rfl (fun r1 => ?_)
  refine go_astore kk243_0.1.2.1.1 rfl (loc2 := [some (sR v0), some (sI 0), some (sR (g v0 2))]) rfl ?_
  exact tlP_countAbove_7 hd hg fu 0 (inR_b (Or.inl rfl)) (g v0 2) r1 (some (sR v0)) rfl
theorem tbC_atDepth_17 {Φ : ev_P} {d : Nat} (hd : 1 ≤ d) {g : gH} (hg : HR g) {v1 v3 v4 : Int} (h1 : InR v1) (h3 : RfR v3) (h4 : InR v4) {X17 : Int → Int → Option Int} (HX17 : ∀ (v2 : Int) (h2 : InR v2) (v5 : Int) (h5 : InR v5) (u0 : Option ev_V) (w0 : nwo u0) (u6 : Option ev_V) (w6 : nwo u6), Go Φ pr_P (fP g) 1 (X17 v2 v5) d pr_m15 17 [u0, some (sI v1), some (sI v2), some (sR v3), some (sI v4), some (sI v5), u6] [] g 0 0) : ∀ (v2 : Int) (h2 : InR v2) (v5 : Int) (h5 : InR v5) (u0 : Option ev_V) (w0 : nwo u0) (u6 : Option ev_V) (w6 : nwo u6), Go Φ pr_P (fP g) 1 (bC_atDepth_17 g v1 v3 v4 X17 v2 v5) d pr_m15 17 [u0, some (sI v1), some (sI v2), some (sR v3), some (sI v4), some (sI v5), u6] [] g 0 0 := by
  intro v2 h2 v5 h5 u0 w0 u6 w6
  unfold bC_atDepth_17
  refine go_iload kk15_0.1.2.1.2.2 rfl ?_
  refine go_iload kk15_0.1.2.2.1.1 rfl ?_
  refine go_cmlt kk15_0.1.2.2.1.2 h5 h4 (fun c6 => ?_) (fun c7 => ?_)
  · refine go_aload kk15_0.1.2.2.2 rfl ?_
    refine go_iload kk15_0.2.1.1.1.1 rfl ?_
    refine go_ck (fun q9 => ?_)
    refine go_pald kk15_0.2.1.1.1.2 hg q9 (fun r8 => ?_)
    refine go_astore kk15_0.2.1.1.2.1 rfl (loc2 := [u0, some (sI v1), some (sI v2), some (sR v3), some (sI v4), some (sI v5), some (sR (g v3 v5))]) rfl ?_
    refine go_aload kk15_0.2.1.1.2.2 rfl ?_
    refine go_ck (fun q10 => ?_)
    refine go_callP3 kk15_0.2.1.2.1.1 rfl rfl rfl ⟨by decide, _, rfl, q10⟩ ⟨Nat.zero_le _, Nat.zero_le _⟩ (by omega) (tfP_isRunning (by omega) hg q10 ) (fun y11 r12 => ?_)
    refine go_ifeq kk15_0.2.1.2.1.2 (inR_b r12) (fun c15 => ?_) (fun c16 => ?_)
    · refine go_iinc kk15_0.2.2.1.2.2 rfl rfl 1 rfl (loc2 := [u0, some (sI v1), some (sI v2), some (sR v3), some (sI v4), some (sI (w32 (v5 + 1))), some (sR (g v3 v5))]) rfl ?_
      refine go_goto kk15_0.2.2.2.1.1 ?_
      exact HX17 v2 h2 (w32 (v5 + 1)) (inR_w32 _) u0 w0 (some (sR (g v3 v5))) rfl
    · refine go_aload kk15_0.2.1.2.2.1 rfl ?_
      refine go_callP1 kk15_0.2.1.2.2.2 rfl rfl rfl ⟨by decide, _, rfl, q10⟩ ⟨Nat.zero_le _, Nat.zero_le _⟩ (by omega) (tfP_countAbove (by omega) hg q10 ) (fun y17 r18 => ?_)
      refine go_iload kk15_0.2.2.1.1.1 rfl ?_
      refine go_cmeq kk15_0.2.2.1.1.2 r18 h1 (fun c21 => ?_) (fun c22 => ?_)
      · refine go_iinc kk15_0.2.2.1.2.1 rfl rfl 1 rfl (loc2 := [u0, some (sI v1), some (sI (w32 (v2 + 1))), some (sR v3), some (sI v4), some (sI v5), some (sR (g v3 v5))]) rfl ?_
        refine go_iinc kk15_0.2.2.1.2.2 rfl rfl 1 rfl (loc2 := [u0, some (sI v1), some (sI (w32 (v2 + 1))), some (sR v3), some (sI v4), some (sI (w32 (v5 + 1))), some (sR (g v3 v5))]) rfl ?_
        refine go_goto kk15_0.2.2.2.1.1 ?_
        exact HX17 (w32 (v2 + 1)) (inR_w32 _) (w32 (v5 + 1)) (inR_w32 _) u0 w0 (some (sR (g v3 v5))) rfl
      · refine go_iinc kk15_0.2.2.1.2.2 rfl rfl 1 rfl (loc2 := [u0, some (sI v1), some (sI v2), some (sR v3), some (sI v4), some (sI (w32 (v5 + 1))), some (sR (g v3 v5))]) rfl ?_
        refine go_goto kk15_0.2.2.2.1.1 ?_
        exact HX17 v2 h2 (w32 (v5 + 1)) (inR_w32 _) u0 w0 (some (sR (g v3 v5))) rfl
  · refine go_iload kk15_0.2.2.2.1.2 rfl ?_
    exact go_iret kk15_0.2.2.2.2 hg h2 ⟨Nat.zero_le _, Nat.zero_le _⟩ rfl
theorem tlC_atDepth_17 {Φ : ev_P} {d : Nat} (hd : 1 ≤ d) {g : gH} (hg : HR g) {v1 v3 v4 : Int} (h1 : InR v1) (h3 : RfR v3) (h4 : InR v4) : ∀ n : Nat, ∀ (v2 : Int) (h2 : InR v2) (v5 : Int) (h5 : InR v5) (u0 : Option ev_V) (w0 : nwo u0) (u6 : Option ev_V) (w6 : nwo u6), Go Φ pr_P (fP g) 1 (lC_atDepth_17 g v1 v3 v4 n v2 v5) d pr_m15 17 [u0, some (sI v1), some (sI v2), some (sR v3), some (sI v4), some (sI v5), u6] [] g 0 0 := by
  intro n
  induction n with
  | zero => intros; exact go_none
  | succ n ih => exact tbC_atDepth_17 hd hg h1 h3 h4 ih
theorem tfC_atDepth {Φ : ev_P} {d : Nat} (hd : 1 ≤ d) {g : gH} (hg : HR g) {v0 v1 : Int} (hK0 : kd v0 = 6) (h1 : InR v1) : Go Φ pr_P (fP g) 1 (fC_atDepth g v0 v1) d (pr_P 15) 0 (ev_loc (pr_P 15).1 [(sR v0), (sI v1)]) [] g 0 0 := by
  show Go Φ pr_P (fP g) 1 (fC_atDepth g v0 v1) d pr_m15 0 [some (sR v0), some (sI v1), none, none, none, none, none] [] g 0 0
  unfold fC_atDepth
  refine go_int kk15_0.1.1.1.1.1 0 rfl ?_
  refine go_istore kk15_0.1.1.1.1.2 rfl (loc2 := [some (sR v0), some (sI v1), some (sI 0), none, none, none, none]) rfl ?_
  refine go_aload kk15_0.1.1.1.2.1 rfl ?_
  refine go_getR (bI := 0) kk15_0.1.1.1.2.2 hg hK0 (by decide) rfl rfl (fun r1 => ?_)
  refine go_ck (fun q2 => ?_)
  refine go_getR (bI := 1) kk15_0.1.1.2.1.1 hg q2 (by decide) rfl rfl (fun r3 => ?_)
  refine go_astore kk15_0.1.1.2.1.2 rfl (loc2 := [some (sR v0), some (sI v1), some (sI 0), some (sR (g (g v0 0) 1)), none, none, none]) rfl ?_
  refine go_aload kk15_0.1.1.2.2.1 rfl ?_
  refine go_ck (fun q5 => ?_)
  refine go_alen kk15_0.1.1.2.2.2 (ka_24 q5) (fun r4 => ?_)
  refine go_istore kk15_0.1.2.1.1.1 rfl (loc2 := [some (sR v0), some (sI v1), some (sI 0), some (sR (g (g v0 0) 1)), some (sI (sz (g (g v0 0) 1))), none, none]) rfl ?_
  refine go_int kk15_0.1.2.1.1.2 0 rfl ?_
  refine go_istore kk15_0.1.2.1.2.1 rfl (loc2 := [some (sR v0), some (sI v1), some (sI 0), some (sR (g (g v0 0) 1)), some (sI (sz (g (g v0 0) 1))), some (sI 0), none]) rfl ?_
  exact tlC_atDepth_17 hd hg h1 r3 r4 fu 0 (inR_b (Or.inl rfl)) 0 (inR_b (Or.inl rfl)) (some (sR v0)) rfl none rfl
theorem tbT_greatestDepth_13 {Φ : ev_P} {d : Nat} (hd : 1 ≤ d) {g : gH} (hg : HR g) {v2 v3 : Int} (h2 : RfR v2) (h3 : InR v3) {X13 : Int → Int → Option Int} (HX13 : ∀ (v1 : Int) (h1 : InR v1) (v4 : Int) (h4 : InR v4) (u0 : Option ev_V) (w0 : nwo u0) (u5 : Option ev_V) (w5 : nwo u5), Go Φ pr_P (fP g) 1 (X13 v1 v4) d pr_m278 13 [u0, some (sI v1), some (sR v2), some (sI v3), some (sI v4), u5] [] g 0 0) : ∀ (v1 : Int) (h1 : InR v1) (v4 : Int) (h4 : InR v4) (u0 : Option ev_V) (w0 : nwo u0) (u5 : Option ev_V) (w5 : nwo u5), Go Φ pr_P (fP g) 1 (bT_greatestDepth_13 g v2 v3 X13 v1 v4) d pr_m278 13 [u0, some (sI v1), some (sR v2), some (sI v3), some (sI v4), u5] [] g 0 0 := by
  intro v1 h1 v4 h4 u0 w0 u5 w5
  unfold bT_greatestDepth_13
  refine go_iload kk278_0.1.2.1.2.1 rfl ?_
  refine go_iload kk278_0.1.2.1.2.2 rfl ?_
  refine go_cmlt kk278_0.1.2.2.1.1 h4 h3 (fun c4 => ?_) (fun c5 => ?_)
  · refine go_aload kk278_0.1.2.2.1.2 rfl ?_
    refine go_iload kk278_0.1.2.2.2.1 rfl ?_
    refine go_ck (fun q7 => ?_)
    refine go_pald kk278_0.1.2.2.2.2 hg q7 (fun r6 => ?_)
    refine go_astore kk278_0.2.1.1.1.1 rfl (loc2 := [u0, some (sI v1), some (sR v2), some (sI v3), some (sI v4), some (sR (g v2 v4))]) rfl ?_
    refine go_aload kk278_0.2.1.1.1.2 rfl ?_
    refine go_ck (fun q8 => ?_)
    refine go_callP3 kk278_0.2.1.1.2.1 rfl rfl rfl ⟨by decide, _, rfl, q8⟩ ⟨Nat.zero_le _, Nat.zero_le _⟩ (by omega) (tfP_isRunning (by omega) hg q8 ) (fun y9 r10 => ?_)
    refine go_ifeq kk278_0.2.1.1.2.2 (inR_b r10) (fun c13 => ?_) (fun c14 => ?_)
    · refine go_iinc kk278_0.2.2.1.2.2 rfl rfl 1 rfl (loc2 := [u0, some (sI v1), some (sR v2), some (sI v3), some (sI (w32 (v4 + 1))), some (sR (g v2 v4))]) rfl ?_
      refine go_goto kk278_0.2.2.2.1.1 ?_
      exact HX13 v1 h1 (w32 (v4 + 1)) (inR_w32 _) u0 w0 (some (sR (g v2 v4))) rfl
    · refine go_aload kk278_0.2.1.2.1.1 rfl ?_
      refine go_callP1 kk278_0.2.1.2.1.2 rfl rfl rfl ⟨by decide, _, rfl, q8⟩ ⟨Nat.zero_le _, Nat.zero_le _⟩ (by omega) (tfP_countAbove (by omega) hg q8 ) (fun y15 r16 => ?_)
      refine go_iload kk278_0.2.1.2.2.1 rfl ?_
      refine go_cmgt kk278_0.2.1.2.2.2 r16 h1 (fun c19 => ?_) (fun c20 => ?_)
      · refine go_aload kk278_0.2.2.1.1.1 rfl ?_
        refine go_callP1 kk278_0.2.2.1.1.2 rfl rfl rfl ⟨by decide, _, rfl, q8⟩ ⟨Nat.zero_le _, Nat.zero_le _⟩ (by omega) (tfP_countAbove (by omega) hg q8 ) (fun y21 r22 => ?_)
        refine go_istore kk278_0.2.2.1.2.1 w0 (loc2 := [u0, some (sI y21), some (sR v2), some (sI v3), some (sI v4), some (sR (g v2 v4))]) rfl ?_
        refine go_iinc kk278_0.2.2.1.2.2 rfl rfl 1 rfl (loc2 := [u0, some (sI y21), some (sR v2), some (sI v3), some (sI (w32 (v4 + 1))), some (sR (g v2 v4))]) rfl ?_
        refine go_goto kk278_0.2.2.2.1.1 ?_
        exact HX13 y21 r22 (w32 (v4 + 1)) (inR_w32 _) u0 w0 (some (sR (g v2 v4))) rfl
      · refine go_iinc kk278_0.2.2.1.2.2 rfl rfl 1 rfl (loc2 := [u0, some (sI v1), some (sR v2), some (sI v3), some (sI (w32 (v4 + 1))), some (sR (g v2 v4))]) rfl ?_
        refine go_goto kk278_0.2.2.2.1.1 ?_
        exact HX13 v1 h1 (w32 (v4 + 1)) (inR_w32 _) u0 w0 (some (sR (g v2 v4))) rfl
  · refine go_iload kk278_0.2.2.2.1.2 rfl ?_
    exact go_iret kk278_0.2.2.2.2 hg h1 ⟨Nat.zero_le _, Nat.zero_le _⟩ rfl
theorem tlT_greatestDepth_13 {Φ : ev_P} {d : Nat} (hd : 1 ≤ d) {g : gH} (hg : HR g) {v2 v3 : Int} (h2 : RfR v2) (h3 : InR v3) : ∀ n : Nat, ∀ (v1 : Int) (h1 : InR v1) (v4 : Int) (h4 : InR v4) (u0 : Option ev_V) (w0 : nwo u0) (u5 : Option ev_V) (w5 : nwo u5), Go Φ pr_P (fP g) 1 (lT_greatestDepth_13 g v2 v3 n v1 v4) d pr_m278 13 [u0, some (sI v1), some (sR v2), some (sI v3), some (sI v4), u5] [] g 0 0 := by
  intro n
  induction n with
  | zero => intros; exact go_none
  | succ n ih => exact tbT_greatestDepth_13 hd hg h2 h3 ih
theorem tfT_greatestDepth {Φ : ev_P} {d : Nat} (hd : 1 ≤ d) {g : gH} (hg : HR g) {v0 : Int} (hK0 : kd v0 = 5) : Go Φ pr_P (fP g) 1 (fT_greatestDepth g v0) d (pr_P 278) 0 (ev_loc (pr_P 278).1 [(sR v0)]) [] g 0 0 := by
  show Go Φ pr_P (fP g) 1 (fT_greatestDepth g v0) d pr_m278 0 [some (sR v0), none, none, none, none, none] [] g 0 0
  unfold fT_greatestDepth
  refine go_int kk278_0.1.1.1.1.1 0 rfl ?_
  refine go_istore kk278_0.1.1.1.1.2 rfl (loc2 := [some (sR v0), some (sI 0), none, none, none, none]) rfl ?_
  refine go_aload kk278_0.1.1.1.2.1 rfl ?_
  refine go_getR (bI := 1) kk278_0.1.1.1.2.2 hg hK0 (by decide) rfl rfl (fun r1 => ?_)
  refine go_astore kk278_0.1.1.2.1.1 rfl (loc2 := [some (sR v0), some (sI 0), some (sR (g v0 1)), none, none, none]) rfl ?_
  refine go_aload kk278_0.1.1.2.1.2 rfl ?_
  refine go_ck (fun q3 => ?_)
  refine go_alen kk278_0.1.1.2.2.1 (ka_24 q3) (fun r2 => ?_)
  refine go_istore kk278_0.1.1.2.2.2 rfl (loc2 := [some (sR v0), some (sI 0), some (sR (g v0 1)), some (sI (sz (g v0 1))), none, none]) rfl ?_
  refine go_int kk278_0.1.2.1.1.1 0 rfl ?_
  refine go_istore kk278_0.1.2.1.1.2 rfl (loc2 := [some (sR v0), some (sI 0), some (sR (g v0 1)), some (sI (sz (g v0 1))), some (sI 0), none]) rfl ?_
  exact tlT_greatestDepth_13 hd hg r1 r2 fu 0 (inR_b (Or.inl rfl)) 0 (inR_b (Or.inl rfl)) (some (sR v0)) rfl none rfl
