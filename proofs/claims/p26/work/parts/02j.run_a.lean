/-! ===== the evaluator comes to what the functions tell (own work, by program: wip/p2/dec.py) ===== -/
theorem tbI_append_3 {Φ : ev_P} {d : Nat} (hd : 0 ≤ d) {v0 v1 : Int} (hK0 : kd v0 = 1) (h1 : InR v1) {X3 : Int → gH → Option (Int × gH)} (HX3 : ∀ (v2 : Int) (h2 : InR v2) (g : gH) (hg : HR g), Go Φ pr_P fN 0 (X3 v2 g) d pr_m222 3 [some (sR v0), some (sI v1), some (sI v2)] [] g 0 0) : ∀ (v2 : Int) (h2 : InR v2) (g : gH) (hg : HR g), Go Φ pr_P fN 0 (bI_append_3 v0 v1 X3 v2 g) d pr_m222 3 [some (sR v0), some (sI v1), some (sI v2)] [] g 0 0 := by
  intro v2 h2 g hg
  unfold bI_append_3
  refine go_iload kk222_0.1.1.1.2.1 rfl ?_
  refine go_iflt kk222_0.1.1.1.2.2 h2 (fun c1 => ?_) (fun c2 => ?_)
  · exact go_vret kk222_0.2.2.2.2 hg ⟨Nat.zero_le _, Nat.zero_le _⟩ rfl
  · refine go_aload kk222_0.1.1.2.1.1 rfl ?_
    refine go_getI (bI := 1) kk222_0.1.1.2.1.2 hg hK0 (by decide) rfl rfl (fun r3 => ?_)
    refine go_iflt kk222_0.1.1.2.2.1 r3 (fun c4 => ?_) (fun c5 => ?_)
    · refine go_iinc kk222_0.2.2.2.1.1 rfl rfl (-8) rfl (loc2 := [some (sR v0), some (sI v1), some (sI (w32 (v2 + (-8))))]) rfl ?_
      refine go_goto kk222_0.2.2.2.1.2 ?_
      exact HX3 (w32 (v2 + (-8))) (inR_w32 _) g hg
    · refine go_aload kk222_0.1.1.2.2.2 rfl ?_
      refine go_getI (bI := 1) kk222_0.1.2.1.1.1 hg hK0 (by decide) rfl rfl (fun r6 => ?_)
      refine go_int kk222_0.1.2.1.1.2 500 rfl ?_
      refine go_cmlt kk222_0.1.2.1.2.1 r6 (inR_of (by decide)) (fun c7 => ?_) (fun c8 => ?_)
      · refine go_aload kk222_0.1.2.1.2.2 rfl ?_
        refine go_getR (bI := 0) kk222_0.1.2.2.1.1 hg hK0 (by decide) rfl rfl (fun r9 => ?_)
        refine go_aload kk222_0.1.2.2.1.2 rfl ?_
        refine go_getI (bI := 1) kk222_0.1.2.2.2 hg hK0 (by decide) rfl rfl (fun r10 => ?_)
        refine go_iload kk222_0.2.1.1.1.1 rfl ?_
        refine go_iload kk222_0.2.1.1.1.2 rfl ?_
        refine go_ibin kk222_0.2.1.1.2.1 ?_
        refine go_i2b kk222_0.2.1.1.2.2 ?_
        refine go_ck (fun q11 => ?_)
        refine go_bast kk222_0.2.1.2.1.1 hg q11 (fun g12 e13 => ?_)
        refine go_aload kk222_0.2.1.2.1.2 rfl ?_
        refine go_dupR kk222_0.2.1.2.2 ?_
        refine go_getI (bI := 1) kk222_0.2.2.1.1.1 e13 hK0 (by decide) rfl rfl (fun r14 => ?_)
        refine go_int kk222_0.2.2.1.1.2 1 rfl ?_
        refine go_iadd kk222_0.2.2.1.2.1 ?_
        refine go_putI (bI := 1) kk222_0.2.2.1.2.2 e13 hK0 (by decide) rfl rfl (inR_w32 _) (fun g15 e16 => ?_)
        refine go_iinc kk222_0.2.2.2.1.1 rfl rfl (-8) rfl (loc2 := [some (sR v0), some (sI v1), some (sI (w32 (v2 + (-8))))]) rfl ?_
        refine go_goto kk222_0.2.2.2.1.2 ?_
        exact HX3 (w32 (v2 + (-8))) (inR_w32 _) g15 e16
      · refine go_iinc kk222_0.2.2.2.1.1 rfl rfl (-8) rfl (loc2 := [some (sR v0), some (sI v1), some (sI (w32 (v2 + (-8))))]) rfl ?_
        refine go_goto kk222_0.2.2.2.1.2 ?_
        exact HX3 (w32 (v2 + (-8))) (inR_w32 _) g hg
theorem tlI_append_3 {Φ : ev_P} {d : Nat} (hd : 0 ≤ d) {v0 v1 : Int} (hK0 : kd v0 = 1) (h1 : InR v1) : ∀ n : Nat, ∀ (v2 : Int) (h2 : InR v2) (g : gH) (hg : HR g), Go Φ pr_P fN 0 (lI_append_3 v0 v1 n v2 g) d pr_m222 3 [some (sR v0), some (sI v1), some (sI v2)] [] g 0 0 := by
  intro n
  induction n with
  | zero => intros; exact go_none
  | succ n ih => exact tbI_append_3 hd hK0 h1 ih
theorem tfI_append {Φ : ev_P} {d : Nat} (hd : 0 ≤ d) {g : gH} (hg : HR g) {v0 v1 : Int} (hK0 : kd v0 = 1) (h1 : InR v1) : Go Φ pr_P fN 0 (fI_append g v0 v1) d (pr_P 222) 0 (ev_loc (pr_P 222).1 [(sR v0), (sI v1)]) [] g 0 0 := by
  show Go Φ pr_P fN 0 (fI_append g v0 v1) d pr_m222 0 [some (sR v0), some (sI v1), none] [] g 0 0
  unfold fI_append
  refine go_int kk222_0.1.1.1.1.1 24 rfl ?_
  refine go_istore kk222_0.1.1.1.1.2 rfl (loc2 := [some (sR v0), some (sI v1), some (sI 24)]) rfl ?_
  exact tlI_append_3 hd hK0 h1 fu 24 (inR_of (by decide)) g hg
theorem tfC_appendInput {Φ : ev_P} {d : Nat} (hd : 1 ≤ d) {g : gH} (hg : HR g) {v0 v1 v2 v3 v4 v5 : Int} (hK0 : kd v0 = 6) (h1 : InR v1) (h2 : InR v2) (h3 : InR v3) (h4 : InR v4) (h5 : InR v5) : Go Φ pr_P fN 1 (fC_appendInput g v0 v1 v2 v3 v4 v5) d (pr_P 1) 0 (ev_loc (pr_P 1).1 [(sR v0), (sI v1), (sI v2), (sI v3), (sI v4), (sI v5)]) [] g 0 0 := by
  show Go Φ pr_P fN 1 (fC_appendInput g v0 v1 v2 v3 v4 v5) d pr_m1 0 [some (sR v0), some (sI v1), some (sI v2), some (sI v3), some (sI v4), some (sI v5), none] [] g 0 0
  unfold fC_appendInput
  refine go_aload kk1_0.1.1.1.1.1 rfl ?_
  refine go_getR (bI := 4) kk1_0.1.1.1.1.2 hg hK0 (by decide) rfl rfl (fun r1 => ?_)
  refine go_ck (fun q2 => ?_)
  refine go_getR (bI := 0) kk1_0.1.1.1.2.1 hg q2 (by decide) rfl rfl (fun r3 => ?_)
  refine go_astore kk1_0.1.1.1.2.2 rfl (loc2 := [some (sR v0), some (sI v1), some (sI v2), some (sI v3), some (sI v4), some (sI v5), some (sR (g (g v0 4) 0))]) rfl ?_
  refine go_aload kk1_0.1.1.2.1.1 rfl ?_
  refine go_ck (fun q4 => ?_)
  refine go_getI (bI := 1) kk1_0.1.1.2.1.2 hg q4 (by decide) rfl rfl (fun r5 => ?_)
  refine go_int kk1_0.1.1.2.2.1 20 rfl ?_
  refine go_iadd kk1_0.1.1.2.2.2 ?_
  refine go_int kk1_0.1.2.1.1.1 500 rfl ?_
  refine go_cmgt kk1_0.1.2.1.1.2 (inR_w32 _) (inR_of (by decide)) (fun c6 => ?_) (fun c7 => ?_)
  · refine go_int kk1_0.1.2.1.2.1 (-1) rfl ?_
    exact go_iret kk1_0.1.2.1.2.2 hg (inR_of (by decide)) ⟨Nat.zero_le _, Nat.zero_le _⟩ rfl
  · refine go_aload kk1_0.1.2.2.1.1 rfl ?_
    refine go_iload kk1_0.1.2.2.1.2 rfl ?_
    refine go_callN0 kk1_0.1.2.2.2 rfl rfl rfl ⟨by decide, _, rfl, q4⟩ ⟨Nat.zero_le _, Nat.zero_le _⟩ (by omega) (tfI_append (by omega) hg q4  h1) (fun y8 g10 e11 => ?_)
    refine go_aload kk1_0.2.1.1.1.1 rfl ?_
    refine go_iload kk1_0.2.1.1.1.2 rfl ?_
    refine go_callN0 kk1_0.2.1.1.2.1 rfl rfl rfl ⟨by decide, _, rfl, q4⟩ ⟨Nat.zero_le _, Nat.zero_le _⟩ (by omega) (tfI_append (by omega) e11 q4  h2) (fun y12 g14 e15 => ?_)
    refine go_aload kk1_0.2.1.1.2.2 rfl ?_
    refine go_iload kk1_0.2.1.2.1.1 rfl ?_
    refine go_callN0 kk1_0.2.1.2.1.2 rfl rfl rfl ⟨by decide, _, rfl, q4⟩ ⟨Nat.zero_le _, Nat.zero_le _⟩ (by omega) (tfI_append (by omega) e15 q4  h3) (fun y16 g18 e19 => ?_)
    refine go_aload kk1_0.2.1.2.2.1 rfl ?_
    refine go_iload kk1_0.2.1.2.2.2 rfl ?_
    refine go_callN0 kk1_0.2.2.1.1.1 rfl rfl rfl ⟨by decide, _, rfl, q4⟩ ⟨Nat.zero_le _, Nat.zero_le _⟩ (by omega) (tfI_append (by omega) e19 q4  h4) (fun y20 g22 e23 => ?_)
    refine go_aload kk1_0.2.2.1.1.2 rfl ?_
    refine go_iload kk1_0.2.2.1.2.1 rfl ?_
    refine go_callN0 kk1_0.2.2.1.2.2 rfl rfl rfl ⟨by decide, _, rfl, q4⟩ ⟨Nat.zero_le _, Nat.zero_le _⟩ (by omega) (tfI_append (by omega) e23 q4  h5) (fun y24 g26 e27 => ?_)
    refine go_aload kk1_0.2.2.2.1.1 rfl ?_
    refine go_getI (bI := 1) kk1_0.2.2.2.1.2 e27 q4 (by decide) rfl rfl (fun r28 => ?_)
    exact go_iret kk1_0.2.2.2.2 e27 r28 ⟨Nat.zero_le _, Nat.zero_le _⟩ rfl
theorem tfC_truncateInput {Φ : ev_P} {d : Nat} (hd : 0 ≤ d) {g : gH} (hg : HR g) {v0 v1 : Int} (hK0 : kd v0 = 6) (h1 : InR v1) : Go Φ pr_P fN 3 (fC_truncateInput g v0 v1) d (pr_P 2) 0 (ev_loc (pr_P 2).1 [(sR v0), (sI v1)]) [] g 0 0 := by
  show Go Φ pr_P fN 3 (fC_truncateInput g v0 v1) d pr_m2 0 [some (sR v0), some (sI v1)] [] g 0 0
  unfold fC_truncateInput
  refine go_iload kk2_0.1.1.1.1.1 rfl ?_
  refine go_iflt kk2_0.1.1.1.1.2 h1 (fun c1 => ?_) (fun c2 => ?_)
  · refine go_int kk2_0.1.2.2.2 0 rfl ?_
    exact go_bret kk2_0.2.1.1.1 hg (Or.inl rfl) ⟨Nat.zero_le _, Nat.zero_le _⟩ rfl
  · refine go_iload kk2_0.1.1.1.2 rfl ?_
    refine go_aload kk2_0.1.1.2.1 rfl ?_
    refine go_getR (bI := 4) kk2_0.1.1.2.2 hg hK0 (by decide) rfl rfl (fun r3 => ?_)
    refine go_ck (fun q4 => ?_)
    refine go_getR (bI := 0) kk2_0.1.2.1.1 hg q4 (by decide) rfl rfl (fun r5 => ?_)
    refine go_ck (fun q6 => ?_)
    refine go_getI (bI := 1) kk2_0.1.2.1.2 hg q6 (by decide) rfl rfl (fun r7 => ?_)
    refine go_cmgt kk2_0.1.2.2.1 h1 r7 (fun c8 => ?_) (fun c9 => ?_)
    · refine go_int kk2_0.1.2.2.2 0 rfl ?_
      exact go_bret kk2_0.2.1.1.1 hg (Or.inl rfl) ⟨Nat.zero_le _, Nat.zero_le _⟩ rfl
    · refine go_aload kk2_0.2.1.1.2 rfl ?_
      refine go_getR (bI := 4) kk2_0.2.1.2.1 hg hK0 (by decide) rfl rfl (fun r10 => ?_)
      refine go_getR (bI := 0) kk2_0.2.1.2.2 hg q4 (by decide) rfl rfl (fun r11 => ?_)
      refine go_iload kk2_0.2.2.1.1 rfl ?_
      refine go_putI (bI := 1) kk2_0.2.2.1.2 hg q6 (by decide) rfl rfl h1 (fun g12 e13 => ?_)
      refine go_int kk2_0.2.2.2.1 1 rfl ?_
      exact go_bret kk2_0.2.2.2.2 e13 (Or.inr rfl) ⟨Nat.zero_le _, Nat.zero_le _⟩ rfl
theorem tfP_become {Φ : ev_P} {d : Nat} (hd : 0 ≤ d) {g : gH} (hg : HR g) {v0 v1 v2 v3 v4 : Int} (hK0 : kd v0 = 3) (h1 : InR v1) (h2 : InR v2) (h3 : InR v3) (h4 : InR v4) : Go Φ pr_P fN 0 (fP_become g v0 v1 v2 v3 v4) d (pr_P 233) 0 (ev_loc (pr_P 233).1 [(sR v0), (sI v1), (sI v2), (sI v3), (sI v4)]) [] g 0 0 := by
  show Go Φ pr_P fN 0 (fP_become g v0 v1 v2 v3 v4) d pr_m233 0 [some (sR v0), some (sI v1), some (sI v2), some (sI v3), some (sI v4)] [] g 0 0
  unfold fP_become
  refine go_aload kk233_0.1.1.1.1.1.1 rfl ?_
  refine go_iload kk233_0.1.1.1.1.1.2 rfl ?_
  refine go_putI (bI := 1) kk233_0.1.1.1.1.2 hg hK0 (by decide) rfl rfl h1 (fun g1 e2 => ?_)
  refine go_aload kk233_0.1.1.1.2.1.1 rfl ?_
  refine go_null kk233_0.1.1.1.2.1.2 ?_
  refine go_putR (bI := 2) kk233_0.1.1.1.2.2 e2 hK0 (by decide) rfl rfl rfR_null (fun g3 e4 => ?_)
  refine go_aload kk233_0.1.1.2.1.1.1 rfl ?_
  refine go_int kk233_0.1.1.2.1.1.2 0 rfl ?_
  refine go_putI (bI := 3) kk233_0.1.1.2.1.2 e4 hK0 (by decide) rfl rfl (inR_b (Or.inl rfl)) (fun g5 e6 => ?_)
  refine go_aload kk233_0.1.1.2.2.1 rfl ?_
  refine go_iload kk233_0.1.1.2.2.2 rfl ?_
  refine go_putI (bI := 4) kk233_0.1.2.1.1.1.1 e6 hK0 (by decide) rfl rfl h2 (fun g7 e8 => ?_)
  refine go_aload kk233_0.1.2.1.1.1.2 rfl ?_
  refine go_iload kk233_0.1.2.1.1.2 rfl ?_
  refine go_putI (bI := 5) kk233_0.1.2.1.2.1.1 e8 hK0 (by decide) rfl rfl h3 (fun g9 e10 => ?_)
  refine go_aload kk233_0.1.2.1.2.1.2 rfl ?_
  refine go_iload kk233_0.1.2.1.2.2 rfl ?_
  refine go_putI (bI := 6) kk233_0.1.2.2.1.1.1 e10 hK0 (by decide) rfl rfl h4 (fun g11 e12 => ?_)
  refine go_aload kk233_0.1.2.2.1.1.2 rfl ?_
  refine go_int kk233_0.1.2.2.1.2 (-1) rfl ?_
  refine go_putI (bI := 7) kk233_0.1.2.2.2.1 e12 hK0 (by decide) rfl rfl (inR_of (by decide)) (fun g13 e14 => ?_)
  refine go_aload kk233_0.1.2.2.2.2 rfl ?_
  refine go_int kk233_0.2.1.1.1.1.1 0 rfl ?_
  refine go_putI (bI := 8) kk233_0.2.1.1.1.1.2 e14 hK0 (by decide) rfl rfl (inR_b (Or.inl rfl)) (fun g15 e16 => ?_)
  refine go_aload kk233_0.2.1.1.1.2 rfl ?_
  refine go_int kk233_0.2.1.1.2.1.1 (-1) rfl ?_
  refine go_putI (bI := 9) kk233_0.2.1.1.2.1.2 e16 hK0 (by decide) rfl rfl (inR_of (by decide)) (fun g17 e18 => ?_)
  refine go_aload kk233_0.2.1.1.2.2 rfl ?_
  refine go_int kk233_0.2.1.2.1.1.1 (-1) rfl ?_
  refine go_putI (bI := 10) kk233_0.2.1.2.1.1.2 e18 hK0 (by decide) rfl rfl (inR_of (by decide)) (fun g19 e20 => ?_)
  refine go_aload kk233_0.2.1.2.1.2 rfl ?_
  refine go_int kk233_0.2.1.2.2.1 0 rfl ?_
  refine go_putI (bI := 11) kk233_0.2.1.2.2.2 e20 hK0 (by decide) rfl rfl (inR_b (Or.inl rfl)) (fun g21 e22 => ?_)
  refine go_aload kk233_0.2.2.1.1.1.1 rfl ?_
  refine go_int kk233_0.2.2.1.1.1.2 (-1) rfl ?_
  refine go_putI (bI := 12) kk233_0.2.2.1.1.2 e22 hK0 (by decide) rfl rfl (inR_of (by decide)) (fun g23 e24 => ?_)
  refine go_aload kk233_0.2.2.1.2.1 rfl ?_
  refine go_int kk233_0.2.2.1.2.2 0 rfl ?_
  refine go_putB (bI := 13) kk233_0.2.2.2.1.1.1 e24 hK0 (by decide) rfl rfl (Or.inl rfl) (fun g25 e26 => ?_)
  refine go_aload kk233_0.2.2.2.1.1.2 rfl ?_
  refine go_lconst kk233_0.2.2.2.1.2 0 rfl ?_
  refine go_putL (bI := 14) kk233_0.2.2.2.2.1 e26 hK0 (by decide) rfl rfl (inL_of (by decide)) (fun g27 e28 => ?_)
  exact go_vret kk233_0.2.2.2.2.2 e28 ⟨Nat.zero_le _, Nat.zero_le _⟩ rfl
theorem tbT_clearRules_2 {Φ : ev_P} {d : Nat} (hd : 0 ≤ d) {v0 : Int} (hK0 : kd v0 = 5) {X2 : Int → gH → Option (Int × gH)} (HX2 : ∀ (v1 : Int) (h1 : InR v1) (g : gH) (hg : HR g), Go Φ pr_P fN 0 (X2 v1 g) d pr_m272 2 [some (sR v0), some (sI v1)] [] g 0 0) : ∀ (v1 : Int) (h1 : InR v1) (g : gH) (hg : HR g), Go Φ pr_P fN 0 (bT_clearRules_2 v0 X2 v1 g) d pr_m272 2 [some (sR v0), some (sI v1)] [] g 0 0 := by
  intro v1 h1 g hg
  unfold bT_clearRules_2
  refine go_iload kk272_0.1.1.2.1 rfl ?_
  refine go_int kk272_0.1.1.2.2 5 rfl ?_
  refine go_cmlt kk272_0.1.2.1.1 h1 (inR_of (by decide)) (fun c1 => ?_) (fun c2 => ?_)
  · refine go_aload kk272_0.1.2.1.2 rfl ?_
    refine go_getR (bI := 3) kk272_0.1.2.2 hg hK0 (by decide) rfl rfl (fun r3 => ?_)
    refine go_iload kk272_0.2.1.1.1 rfl ?_
    refine go_int kk272_0.2.1.1.2 (-1) rfl ?_
    refine go_ck (fun q4 => ?_)
    refine go_iast kk272_0.2.1.2 hg q4 (inR_of (by decide)) (fun g5 e6 => ?_)
    refine go_iinc kk272_0.2.2.1.1 rfl rfl 1 rfl (loc2 := [some (sR v0), some (sI (w32 (v1 + 1)))]) rfl ?_
    refine go_goto kk272_0.2.2.1.2 ?_
    exact HX2 (w32 (v1 + 1)) (inR_w32 _) g5 e6
  · exact go_vret kk272_0.2.2.2 hg ⟨Nat.zero_le _, Nat.zero_le _⟩ rfl
theorem tlT_clearRules_2 {Φ : ev_P} {d : Nat} (hd : 0 ≤ d) {v0 : Int} (hK0 : kd v0 = 5) : ∀ n : Nat, ∀ (v1 : Int) (h1 : InR v1) (g : gH) (hg : HR g), Go Φ pr_P fN 0 (lT_clearRules_2 v0 n v1 g) d pr_m272 2 [some (sR v0), some (sI v1)] [] g 0 0 := by
  intro n
  induction n with
  | zero => intros; exact go_none
  | succ n ih => exact tbT_clearRules_2 hd hK0 ih
theorem tfT_clearRules {Φ : ev_P} {d : Nat} (hd : 0 ≤ d) {g : gH} (hg : HR g) {v0 : Int} (hK0 : kd v0 = 5) : Go Φ pr_P fN 0 (fT_clearRules g v0) d (pr_P 272) 0 (ev_loc (pr_P 272).1 [(sR v0)]) [] g 0 0 := by
  show Go Φ pr_P fN 0 (fT_clearRules g v0) d pr_m272 0 [some (sR v0), none] [] g 0 0
  unfold fT_clearRules
  refine go_int kk272_0.1.1.1.1 0 rfl ?_
  refine go_istore kk272_0.1.1.1.2 rfl (loc2 := [some (sR v0), some (sI 0)]) rfl ?_
  exact tlT_clearRules_2 hd hK0 fu 0 (inR_b (Or.inl rfl)) g hg
theorem tjT_reset_68 {Φ : ev_P} {d : Nat} (hd : 1 ≤ d) {g : gH} (hg : HR g) {v0 : Int} (hK0 : kd v0 = 5) (u1 : Option ev_V) (w1 : nwo u1) (u2 : Option ev_V) (w2 : nwo u2) (u3 : Option ev_V) (w3 : nwo u3) (u4 : Option ev_V) (w4 : nwo u4) : Go Φ pr_P fN 0 (jT_reset_68 g v0 ) d pr_m270 68 [some (sR v0), u1, u2, u3, u4] [] g 0 0 := by
  unfold jT_reset_68
  refine go_aload kk270_1.1.1.1.2.1 rfl ?_
  refine go_callN0 kk270_1.1.1.1.2.2 rfl rfl rfl ⟨by decide, _, rfl, hK0⟩ ⟨Nat.zero_le _, Nat.zero_le _⟩ (by omega) (tfT_clearRules (by omega) hg hK0 ) (fun y25 g27 e28 => ?_)
  refine go_aload kk270_1.1.1.2.1.1.1 rfl ?_
  refine go_getR (bI := 3) kk270_1.1.1.2.1.1.2 e28 hK0 (by decide) rfl rfl (fun r29 => ?_)
  refine go_int kk270_1.1.1.2.1.2 0 rfl ?_
  refine go_int kk270_1.1.1.2.2.1 0 rfl ?_
  refine go_ck (fun q30 => ?_)
  refine go_iast kk270_1.1.1.2.2.2 e28 q30 (inR_b (Or.inl rfl)) (fun g31 e32 => ?_)
  refine go_aload kk270_1.1.2.1.1.1.1 rfl ?_
  refine go_getR (bI := 3) kk270_1.1.2.1.1.1.2 e32 hK0 (by decide) rfl rfl (fun r33 => ?_)
  refine go_int kk270_1.1.2.1.1.2 1 rfl ?_
  refine go_int kk270_1.1.2.1.2.1 1 rfl ?_
  refine go_ck (fun q34 => ?_)
  refine go_iast kk270_1.1.2.1.2.2 e32 q34 (inR_b (Or.inr rfl)) (fun g35 e36 => ?_)
  refine go_aload kk270_1.1.2.2.1.1.1 rfl ?_
  refine go_getR (bI := 3) kk270_1.1.2.2.1.1.2 e36 hK0 (by decide) rfl rfl (fun r37 => ?_)
  refine go_int kk270_1.1.2.2.1.2 2 rfl ?_
  refine go_int kk270_1.1.2.2.2.1 2 rfl ?_
  refine go_ck (fun q38 => ?_)
  refine go_iast kk270_1.1.2.2.2.2 e36 q38 (inR_of (by decide)) (fun g39 e40 => ?_)
  refine go_aload kk270_1.2.1.1.1.1.1 rfl ?_
  refine go_int kk270_1.2.1.1.1.1.2 20 rfl ?_
  refine go_putI (bI := 4) kk270_1.2.1.1.1.2 e40 hK0 (by decide) rfl rfl (inR_of (by decide)) (fun g41 e42 => ?_)
  refine go_aload kk270_1.2.1.1.2.1 rfl ?_
  refine go_int kk270_1.2.1.1.2.2 1 rfl ?_
  refine go_putI (bI := 5) kk270_1.2.1.2.1.1.1 e42 hK0 (by decide) rfl rfl (inR_b (Or.inr rfl)) (fun g43 e44 => ?_)
  refine go_aload kk270_1.2.1.2.1.1.2 rfl ?_
  refine go_int kk270_1.2.1.2.1.2 0 rfl ?_
  refine go_putI (bI := 6) kk270_1.2.1.2.2.1 e44 hK0 (by decide) rfl rfl (inR_b (Or.inl rfl)) (fun g45 e46 => ?_)
  refine go_aload kk270_1.2.1.2.2.2 rfl ?_
  refine go_int kk270_1.2.2.1.1.1.1 0 rfl ?_
  refine go_putI (bI := 7) kk270_1.2.2.1.1.1.2 e46 hK0 (by decide) rfl rfl (inR_b (Or.inl rfl)) (fun g47 e48 => ?_)
  refine go_aload kk270_1.2.2.1.1.2 rfl ?_
  refine go_int kk270_1.2.2.1.2.1 0 rfl ?_
  refine go_putI (bI := 8) kk270_1.2.2.1.2.2 e48 hK0 (by decide) rfl rfl (inR_b (Or.inl rfl)) (fun g49 e50 => ?_)
  refine go_aload kk270_1.2.2.2.1.1 rfl ?_
  refine go_int kk270_1.2.2.2.1.2 0 rfl ?_
  refine go_putI (bI := 9) kk270_1.2.2.2.2.1 e50 hK0 (by decide) rfl rfl (inR_b (Or.inl rfl)) (fun g51 e52 => ?_)
  exact go_vret kk270_1.2.2.2.2.2 e52 ⟨Nat.zero_le _, Nat.zero_le _⟩ rfl
theorem tbT_reset_49 {Φ : ev_P} {d : Nat} (hd : 1 ≤ d) {v0 : Int} (hK0 : kd v0 = 5) {X49 : Int → gH → Option (Int × gH)} (HX49 : ∀ (v1 : Int) (h1 : InR v1) (g : gH) (hg : HR g) (u2 : Option ev_V) (w2 : nwo u2) (u3 : Option ev_V) (w3 : nwo u3) (u4 : Option ev_V) (w4 : nwo u4), Go Φ pr_P fN 0 (X49 v1 g) d pr_m270 49 [some (sR v0), some (sI v1), u2, u3, u4] [] g 0 0) : ∀ (v1 : Int) (h1 : InR v1) (g : gH) (hg : HR g) (u2 : Option ev_V) (w2 : nwo u2) (u3 : Option ev_V) (w3 : nwo u3) (u4 : Option ev_V) (w4 : nwo u4), Go Φ pr_P fN 0 (bT_reset_49 v0 X49 v1 g) d pr_m270 49 [some (sR v0), some (sI v1), u2, u3, u4] [] g 0 0 := by
  intro v1 h1 g hg u2 w2 u3 w3 u4 w4
  unfold bT_reset_49
  refine go_iload kk270_0.2.2.1.1.2 rfl ?_
  refine go_int kk270_0.2.2.1.2.1 8 rfl ?_
  refine go_cmlt kk270_0.2.2.1.2.2 h1 (inR_of (by decide)) (fun c19 => ?_) (fun c20 => ?_)
  · refine go_aload kk270_0.2.2.2.1.1 rfl ?_
    refine go_getR (bI := 2) kk270_0.2.2.2.1.2 hg hK0 (by decide) rfl rfl (fun r21 => ?_)
    refine go_iload kk270_0.2.2.2.2.1 rfl ?_
    refine go_int kk270_0.2.2.2.2.2 0 rfl ?_
    refine go_ck (fun q22 => ?_)
    refine go_iast kk270_1.1.1.1.1.1.1 hg q22 (inR_b (Or.inl rfl)) (fun g23 e24 => ?_)
    refine go_iinc kk270_1.1.1.1.1.1.2 rfl rfl 1 rfl (loc2 := [some (sR v0), some (sI (w32 (v1 + 1))), u2, u3, u4]) rfl ?_
    refine go_goto kk270_1.1.1.1.1.2 ?_
    exact HX49 (w32 (v1 + 1)) (inR_w32 _) g23 e24 u2 w2 u3 w3 u4 w4
  · exact tjT_reset_68 hd hg hK0 (some (sI v1)) rfl u2 w2 u3 w3 u4 w4
theorem tlT_reset_49 {Φ : ev_P} {d : Nat} (hd : 1 ≤ d) {v0 : Int} (hK0 : kd v0 = 5) : ∀ n : Nat, ∀ (v1 : Int) (h1 : InR v1) (g : gH) (hg : HR g) (u2 : Option ev_V) (w2 : nwo u2) (u3 : Option ev_V) (w3 : nwo u3) (u4 : Option ev_V) (w4 : nwo u4), Go Φ pr_P fN 0 (lT_reset_49 v0 n v1 g) d pr_m270 49 [some (sR v0), some (sI v1), u2, u3, u4] [] g 0 0 := by
  intro n
  induction n with
  | zero => intros; exact go_none
  | succ n ih => exact tbT_reset_49 hd hK0 ih
theorem tjT_reset_35 {Φ : ev_P} {d : Nat} (hd : 1 ≤ d) {g : gH} (hg : HR g) {v0 : Int} (hK0 : kd v0 = 5) (u1 : Option ev_V) (w1 : nwo u1) (u2 : Option ev_V) (w2 : nwo u2) (u3 : Option ev_V) (w3 : nwo u3) (u4 : Option ev_V) (w4 : nwo u4) : Go Φ pr_P fN 0 (jT_reset_35 g v0 ) d pr_m270 35 [some (sR v0), u1, u2, u3, u4] [] g 0 0 := by
  unfold jT_reset_35
  refine go_aload kk270_0.2.1.1.2.1 rfl ?_
  refine go_getR (bI := 0) kk270_0.2.1.1.2.2 hg hK0 (by decide) rfl rfl (fun r13 => ?_)
  refine go_int kk270_0.2.1.2.1.1.1 0 rfl ?_
  refine go_int kk270_0.2.1.2.1.1.2 9 rfl ?_
  refine go_int kk270_0.2.1.2.1.2 0 rfl ?_
  refine go_int kk270_0.2.1.2.2.1 0 rfl ?_
  refine go_ck (fun q14 => ?_)
  refine go_callN0 kk270_0.2.1.2.2.2 rfl rfl rfl ⟨by decide, _, rfl, q14⟩ ⟨Nat.zero_le _, Nat.zero_le _⟩ (by omega) (tfP_become (by omega) hg q14  (inR_b (Or.inl rfl)) (inR_of (by decide)) (inR_b (Or.inl rfl)) (inR_b (Or.inl rfl))) (fun y15 g17 e18 => ?_)
  refine go_int kk270_0.2.2.1.1.1.1 0 rfl ?_
  refine go_istore kk270_0.2.2.1.1.1.2 rfl (loc2 := [some (sR v0), some (sI 0), u2, u3, u4]) rfl ?_
  exact tlT_reset_49 hd hK0 fu 0 (inR_b (Or.inl rfl)) g17 e18 u2 w2 u3 w3 u4 w4
theorem tbT_reset_10 {Φ : ev_P} {d : Nat} (hd : 1 ≤ d) {v0 v1 v2 : Int} (hK0 : kd v0 = 5) (h1 : RfR v1) (h2 : InR v2) {X10 : Int → gH → Option (Int × gH)} (HX10 : ∀ (v3 : Int) (h3 : InR v3) (g : gH) (hg : HR g) (u4 : Option ev_V) (w4 : nwo u4), Go Φ pr_P fN 0 (X10 v3 g) d pr_m270 10 [some (sR v0), some (sR v1), some (sI v2), some (sI v3), u4] [] g 0 0) : ∀ (v3 : Int) (h3 : InR v3) (g : gH) (hg : HR g) (u4 : Option ev_V) (w4 : nwo u4), Go Φ pr_P fN 0 (bT_reset_10 v0 v1 v2 X10 v3 g) d pr_m270 10 [some (sR v0), some (sR v1), some (sI v2), some (sI v3), u4] [] g 0 0 := by
  intro v3 h3 g hg u4 w4
  unfold bT_reset_10
  refine go_iload kk270_0.1.1.2.2.1 rfl ?_
  refine go_iload kk270_0.1.1.2.2.2 rfl ?_
  refine go_cmlt kk270_0.1.2.1.1.1.1 h3 h2 (fun c4 => ?_) (fun c5 => ?_)
  · refine go_aload kk270_0.1.2.1.1.1.2 rfl ?_
    refine go_iload kk270_0.1.2.1.1.2 rfl ?_
    refine go_ck (fun q7 => ?_)
    refine go_pald kk270_0.1.2.1.2.1 hg q7 (fun r6 => ?_)
    refine go_astore kk270_0.1.2.1.2.2 rfl (loc2 := [some (sR v0), some (sR v1), some (sI v2), some (sI v3), some (sR (g v1 v3))]) rfl ?_
    refine go_aload kk270_0.1.2.2.1.1.1 rfl ?_
    refine go_int kk270_0.1.2.2.1.1.2 3 rfl ?_
    refine go_int kk270_0.1.2.2.1.2 0 rfl ?_
    refine go_int kk270_0.1.2.2.2.1 0 rfl ?_
    refine go_int kk270_0.1.2.2.2.2 0 rfl ?_
    refine go_ck (fun q8 => ?_)
    refine go_callN0 kk270_0.2.1.1.1.1.1 rfl rfl rfl ⟨by decide, _, rfl, q8⟩ ⟨Nat.zero_le _, Nat.zero_le _⟩ (by omega) (tfP_become (by omega) hg q8  (inR_of (by decide)) (inR_b (Or.inl rfl)) (inR_b (Or.inl rfl)) (inR_b (Or.inl rfl))) (fun y9 g11 e12 => ?_)
    refine go_iinc kk270_0.2.1.1.1.1.2 rfl rfl 1 rfl (loc2 := [some (sR v0), some (sR v1), some (sI v2), some (sI (w32 (v3 + 1))), some (sR (g v1 v3))]) rfl ?_
    refine go_goto kk270_0.2.1.1.1.2 ?_
    exact HX10 (w32 (v3 + 1)) (inR_w32 _) g11 e12 (some (sR (g v1 v3))) rfl
  · exact tjT_reset_35 hd hg hK0 (some (sR v1)) rfl (some (sI v2)) rfl (some (sI v3)) rfl u4 w4
theorem tlT_reset_10 {Φ : ev_P} {d : Nat} (hd : 1 ≤ d) {v0 v1 v2 : Int} (hK0 : kd v0 = 5) (h1 : RfR v1) (h2 : InR v2) : ∀ n : Nat, ∀ (v3 : Int) (h3 : InR v3) (g : gH) (hg : HR g) (u4 : Option ev_V) (w4 : nwo u4), Go Φ pr_P fN 0 (lT_reset_10 v0 v1 v2 n v3 g) d pr_m270 10 [some (sR v0), some (sR v1), some (sI v2), some (sI v3), u4] [] g 0 0 := by
  intro n
  induction n with
  | zero => intros; exact go_none
  | succ n ih => exact tbT_reset_10 hd hK0 h1 h2 ih
theorem tfT_reset {Φ : ev_P} {d : Nat} (hd : 1 ≤ d) {g : gH} (hg : HR g) {v0 : Int} (hK0 : kd v0 = 5) : Go Φ pr_P fN 0 (fT_reset g v0) d (pr_P 270) 0 (ev_loc (pr_P 270).1 [(sR v0)]) [] g 0 0 := by
  show Go Φ pr_P fN 0 (fT_reset g v0) d pr_m270 0 [some (sR v0), none, none, none, none] [] g 0 0
  unfold fT_reset
  refine go_aload kk270_0.1.1.1.1.1.1 rfl ?_
  refine go_getR (bI := 1) kk270_0.1.1.1.1.1.2 hg hK0 (by decide) rfl rfl (fun r1 => ?_)
  refine go_astore kk270_0.1.1.1.1.2 rfl (loc2 := [some (sR v0), some (sR (g v0 1)), none, none, none]) rfl ?_
  refine go_aload kk270_0.1.1.1.2.1 rfl ?_
  refine go_ck (fun q3 => ?_)
  refine go_alen kk270_0.1.1.1.2.2 (ka_24 q3) (fun r2 => ?_)
  refine go_istore kk270_0.1.1.2.1.1.1 rfl (loc2 := [some (sR v0), some (sR (g v0 1)), some (sI (sz (g v0 1))), none, none]) rfl ?_
  refine go_int kk270_0.1.1.2.1.1.2 0 rfl ?_
  refine go_istore kk270_0.1.1.2.1.2 rfl (loc2 := [some (sR v0), some (sR (g v0 1)), some (sI (sz (g v0 1))), some (sI 0), none]) rfl ?_
  exact tlT_reset_10 hd hK0 r1 r2 fu 0 (inR_b (Or.inl rfl)) g hg none rfl
theorem tfS_begin {Φ : ev_P} {d : Nat} (hd : 2 ≤ d) {g : gH} (hg : HR g) {v0 : Int} (hK0 : kd v0 = 4) : Go Φ pr_P fN 0 (fS_begin g v0) d (pr_P 250) 0 (ev_loc (pr_P 250).1 [(sR v0)]) [] g 0 0 := by
  show Go Φ pr_P fN 0 (fS_begin g v0) d pr_m250 0 [some (sR v0)] [] g 0 0
  unfold fS_begin
  refine go_aload kk250_0.1.1.1.1.1 rfl ?_
  refine go_getR (bI := 1) kk250_0.1.1.1.1.2 hg hK0 (by decide) rfl rfl (fun r1 => ?_)
  refine go_ck (fun q2 => ?_)
  refine go_callN0 kk250_0.1.1.1.2 rfl rfl rfl ⟨by decide, _, rfl, q2⟩ ⟨Nat.zero_le _, Nat.zero_le _⟩ (by omega) (tfT_reset (by omega) hg q2 ) (fun y3 g5 e6 => ?_)
  refine go_aload kk250_0.1.1.2.1.1 rfl ?_
  refine go_int kk250_0.1.1.2.1.2 0 rfl ?_
  refine go_putI (bI := 2) kk250_0.1.1.2.2 e6 hK0 (by decide) rfl rfl (inR_b (Or.inl rfl)) (fun g7 e8 => ?_)
  refine go_aload kk250_0.1.2.1.1.1 rfl ?_
  refine go_int kk250_0.1.2.1.1.2 (-1) rfl ?_
  refine go_putI (bI := 3) kk250_0.1.2.1.2 e8 hK0 (by decide) rfl rfl (inR_of (by decide)) (fun g9 e10 => ?_)
  refine go_aload kk250_0.1.2.2.1 rfl ?_
  refine go_int kk250_0.1.2.2.2 0 rfl ?_
  refine go_putB (bI := 8) kk250_0.2.1.1.1.1 e10 hK0 (by decide) rfl rfl (Or.inl rfl) (fun g11 e12 => ?_)
  refine go_aload kk250_0.2.1.1.1.2 rfl ?_
  refine go_int kk250_0.2.1.1.2 0 rfl ?_
  refine go_putB (bI := 9) kk250_0.2.1.2.1.1 e12 hK0 (by decide) rfl rfl (Or.inl rfl) (fun g13 e14 => ?_)
  refine go_aload kk250_0.2.1.2.1.2 rfl ?_
  refine go_int kk250_0.2.1.2.2 0 rfl ?_
  refine go_putB (bI := 10) kk250_0.2.2.1.1.1 e14 hK0 (by decide) rfl rfl (Or.inl rfl) (fun g15 e16 => ?_)
  refine go_aload kk250_0.2.2.1.1.2 rfl ?_
  refine go_int kk250_0.2.2.1.2 0 rfl ?_
  refine go_putI (bI := 6) kk250_0.2.2.2.1 e16 hK0 (by decide) rfl rfl (inR_b (Or.inl rfl)) (fun g17 e18 => ?_)
  exact go_vret kk250_0.2.2.2.2 e18 ⟨Nat.zero_le _, Nat.zero_le _⟩ rfl
theorem tfI_at {Φ : ev_P} {d : Nat} (hd : 0 ≤ d) {g : gH} (hg : HR g) {v0 v1 : Int} (hK0 : kd v0 = 1) (h1 : InR v1) : Go Φ pr_P (fP g) 1 (fI_at g v0 v1) d (pr_P 223) 0 (ev_loc (pr_P 223).1 [(sR v0), (sI v1)]) [] g 0 0 := by
  show Go Φ pr_P (fP g) 1 (fI_at g v0 v1) d pr_m223 0 [some (sR v0), some (sI v1)] [] g 0 0
  unfold fI_at
  refine go_iload kk223_0.1.1.1.1 rfl ?_
  refine go_iflt kk223_0.1.1.1.2 h1 (fun c1 => ?_) (fun c2 => ?_)
  · refine go_int kk223_0.2.1.1.2 0 rfl ?_
    refine go_goto kk223_0.2.1.2.1 ?_
    exact go_iret kk223_0.2.2.2.2 hg (inR_b (Or.inl rfl)) ⟨Nat.zero_le _, Nat.zero_le _⟩ rfl
  · refine go_iload kk223_0.1.1.2.1 rfl ?_
    refine go_aload kk223_0.1.1.2.2 rfl ?_
    refine go_getI (bI := 1) kk223_0.1.2.1.1 hg hK0 (by decide) rfl rfl (fun r3 => ?_)
    refine go_cmlt kk223_0.1.2.1.2 h1 r3 (fun c4 => ?_) (fun c5 => ?_)
    · refine go_iload kk223_0.1.2.2.1 rfl ?_
      refine go_int kk223_0.1.2.2.2 500 rfl ?_
      refine go_cmlt kk223_0.2.1.1.1 h1 (inR_of (by decide)) (fun c6 => ?_) (fun c7 => ?_)
      · refine go_aload kk223_0.2.1.2.2 rfl ?_
        refine go_getR (bI := 0) kk223_0.2.2.1.1 hg hK0 (by decide) rfl rfl (fun r8 => ?_)
        refine go_iload kk223_0.2.2.1.2 rfl ?_
        refine go_ck (fun q10 => ?_)
        refine go_bald kk223_0.2.2.2.1 hg q10 (fun r9 => ?_)
        exact go_iret kk223_0.2.2.2.2 hg r9 ⟨Nat.zero_le _, Nat.zero_le _⟩ rfl
      · refine go_int kk223_0.2.1.1.2 0 rfl ?_
        refine go_goto kk223_0.2.1.2.1 ?_
        exact go_iret kk223_0.2.2.2.2 hg (inR_b (Or.inl rfl)) ⟨Nat.zero_le _, Nat.zero_le _⟩ rfl
    · refine go_int kk223_0.2.1.1.2 0 rfl ?_
      refine go_goto kk223_0.2.1.2.1 ?_
      exact go_iret kk223_0.2.2.2.2 hg (inR_b (Or.inl rfl)) ⟨Nat.zero_le _, Nat.zero_le _⟩ rfl
theorem tbS_isWord_24 {Φ : ev_P} {d : Nat} (hd : 1 ≤ d) {g : gH} (hg : HR g) {v0 v1 : Int} (hK0 : kd v0 = 4) {X24 : Int → Int → Option Int} (HX24 : ∀ (v2 : Int) (h2 : B01 v2) (v3 : Int) (h3 : InR v3), Go Φ pr_P (fP g) 3 (X24 v2 v3) d pr_m268 24 [some (sR v0), some (sR v1), some (sI v2), some (sI v3)] [] g 0 0) : ∀ (v2 : Int) (h2 : B01 v2) (v3 : Int) (h3 : InR v3), Go Φ pr_P (fP g) 3 (bS_isWord_24 g v0 v1 X24 v2 v3) d pr_m268 24 [some (sR v0), some (sR v1), some (sI v2), some (sI v3)] [] g 0 0 := by
  intro v2 h2 v3 h3
  unfold bS_isWord_24
  refine go_iload kk268_0.1.2.1.2.2 rfl ?_
  refine go_ifeq kk268_0.1.2.2.1.1.1 (inR_b h2) (fun c6 => ?_) (fun c7 => ?_)
  · refine go_iload kk268_0.2.2.2.2.1 rfl ?_
    exact go_bret kk268_0.2.2.2.2.2 hg h2 ⟨Nat.zero_le _, Nat.zero_le _⟩ rfl
  · refine go_iload kk268_0.1.2.2.1.1.2 rfl ?_
    refine go_aload kk268_0.1.2.2.1.2 rfl ?_
    refine go_ck (fun q8 => ?_)
    refine go_slen kk268_0.1.2.2.2.1 q8 rfl ⟨Nat.zero_le _, Nat.zero_le _⟩ ?_
    refine go_cmlt kk268_0.1.2.2.2.2 h3 (inR_gtl _) (fun c9 => ?_) (fun c10 => ?_)
    · refine go_aload kk268_0.2.1.1.1.1.1 rfl ?_
      refine go_getR (bI := 0) kk268_0.2.1.1.1.1.2 hg hK0 (by decide) rfl rfl (fun r11 => ?_)
      refine go_aload kk268_0.2.1.1.1.2 rfl ?_
      refine go_getI (bI := 5) kk268_0.2.1.1.2.1 hg hK0 (by decide) rfl rfl (fun r12 => ?_)
      refine go_iload kk268_0.2.1.1.2.2 rfl ?_
      refine go_iadd kk268_0.2.1.2.1.1.1 ?_
      refine go_ck (fun q13 => ?_)
      refine go_callP1 kk268_0.2.1.2.1.1.2 rfl rfl rfl ⟨by decide, _, rfl, q13⟩ ⟨Nat.zero_le _, Nat.zero_le _⟩ (by omega) (tfI_at (by omega) hg q13  (inR_w32 _)) (fun y14 r15 => ?_)
      refine go_aload kk268_0.2.1.2.1.2 rfl ?_
      refine go_iload kk268_0.2.1.2.2.1 rfl ?_
      refine go_ck (fun q18 => ?_)
      refine go_chat kk268_0.2.1.2.2.2 q18 rfl ⟨Nat.zero_le _, Nat.zero_le _⟩ ?_
      refine go_cmeq kk268_0.2.2.1.1.1.1 r15 (inR_gch _ _) (fun c19 => ?_) (fun c20 => ?_)
      · refine go_int kk268_0.2.2.1.1.1.2 1 rfl ?_
        refine go_goto kk268_0.2.2.1.1.2 ?_
        refine go_istore kk268_0.2.2.1.2.2 rfl (loc2 := [some (sR v0), some (sR v1), some (sI 1), some (sI v3)]) rfl ?_
        refine go_iinc kk268_0.2.2.2.1.1 rfl rfl 1 rfl (loc2 := [some (sR v0), some (sR v1), some (sI 1), some (sI (w32 (v3 + 1)))]) rfl ?_
        refine go_goto kk268_0.2.2.2.1.2 ?_
        exact HX24 1 (Or.inr rfl) (w32 (v3 + 1)) (inR_w32 _)
      · refine go_int kk268_0.2.2.1.2.1 0 rfl ?_
        refine go_istore kk268_0.2.2.1.2.2 rfl (loc2 := [some (sR v0), some (sR v1), some (sI 0), some (sI v3)]) rfl ?_
        refine go_iinc kk268_0.2.2.2.1.1 rfl rfl 1 rfl (loc2 := [some (sR v0), some (sR v1), some (sI 0), some (sI (w32 (v3 + 1)))]) rfl ?_
        refine go_goto kk268_0.2.2.2.1.2 ?_
        exact HX24 0 (Or.inl rfl) (w32 (v3 + 1)) (inR_w32 _)
    · refine go_iload kk268_0.2.2.2.2.1 rfl ?_
      exact go_bret kk268_0.2.2.2.2.2 hg h2 ⟨Nat.zero_le _, Nat.zero_le _⟩ rfl
theorem tlS_isWord_24 {Φ : ev_P} {d : Nat} (hd : 1 ≤ d) {g : gH} (hg : HR g) {v0 v1 : Int} (hK0 : kd v0 = 4) : ∀ n : Nat, ∀ (v2 : Int) (h2 : B01 v2) (v3 : Int) (h3 : InR v3), Go Φ pr_P (fP g) 3 (lS_isWord_24 g v0 v1 n v2 v3) d pr_m268 24 [some (sR v0), some (sR v1), some (sI v2), some (sI v3)] [] g 0 0 := by
  intro n
  induction n with
  | zero => intros; exact go_none
  | succ n ih => exact tbS_isWord_24 hd hg hK0 ih
theorem tfS_isWord {Φ : ev_P} {d : Nat} (hd : 1 ≤ d) {g : gH} (hg : HR g) {v0 v1 : Int} (hK0 : kd v0 = 4) : Go Φ pr_P (fP g) 3 (fS_isWord g v0 v1) d (pr_P 268) 0 (ev_loc (pr_P 268).1 [(sR v0), (sR v1)]) [] g 0 0 := by
  show Go Φ pr_P (fP g) 3 (fS_isWord g v0 v1) d pr_m268 0 [some (sR v0), some (sR v1), none, none] [] g 0 0
  unfold fS_isWord
  refine go_aload kk268_0.1.1.1.1.1.1 rfl ?_
  refine go_getI (bI := 6) kk268_0.1.1.1.1.1.2 hg hK0 (by decide) rfl rfl (fun r1 => ?_)
  refine go_aload kk268_0.1.1.1.1.2 rfl ?_
  refine go_getI (bI := 5) kk268_0.1.1.1.2.1 hg hK0 (by decide) rfl rfl (fun r2 => ?_)
  refine go_isub kk268_0.1.1.1.2.2 ?_
  refine go_aload kk268_0.1.1.2.1.1.1 rfl ?_
  refine go_ck (fun q3 => ?_)
  refine go_slen kk268_0.1.1.2.1.1.2 q3 rfl ⟨Nat.zero_le _, Nat.zero_le _⟩ ?_
  refine go_cmeq kk268_0.1.1.2.1.2 (inR_w32 _) (inR_gtl _) (fun c4 => ?_) (fun c5 => ?_)
  · refine go_int kk268_0.1.1.2.2.1 1 rfl ?_
    refine go_goto kk268_0.1.1.2.2.2 ?_
    refine go_istore kk268_0.1.2.1.1.1.2 rfl (loc2 := [some (sR v0), some (sR v1), some (sI 1), none]) rfl ?_
    refine go_int kk268_0.1.2.1.1.2 0 rfl ?_
    refine go_istore kk268_0.1.2.1.2.1 rfl (loc2 := [some (sR v0), some (sR v1), some (sI 1), some (sI 0)]) rfl ?_
    exact tlS_isWord_24 hd hg hK0 fu 1 (Or.inr rfl) 0 (inR_b (Or.inl rfl))
  · refine go_int kk268_0.1.2.1.1.1.1 0 rfl ?_
    refine go_istore kk268_0.1.2.1.1.1.2 rfl (loc2 := [some (sR v0), some (sR v1), some (sI 0), none]) rfl ?_
    refine go_int kk268_0.1.2.1.1.2 0 rfl ?_
    refine go_istore kk268_0.1.2.1.2.1 rfl (loc2 := [some (sR v0), some (sR v1), some (sI 0), some (sI 0)]) rfl ?_
    exact tlS_isWord_24 hd hg hK0 fu 0 (Or.inl rfl) 0 (inR_b (Or.inl rfl))
theorem tfS_ruleOfWord {Φ : ev_P} {d : Nat} (hd : 2 ≤ d) {g : gH} (hg : HR g) {v0 : Int} (hK0 : kd v0 = 4) : Go Φ pr_P (fP g) 1 (fS_ruleOfWord g v0) d (pr_P 253) 0 (ev_loc (pr_P 253).1 [(sR v0)]) [] g 0 0 := by
  show Go Φ pr_P (fP g) 1 (fS_ruleOfWord g v0) d pr_m253 0 [some (sR v0)] [] g 0 0
  unfold fS_ruleOfWord
  refine go_aload kk253_0.1.1.1.1.1 rfl ?_
  refine go_ldcs kk253_0.1.1.1.1.2 (by decide) (x := 2000008) rfl ?_
  refine go_callP3 kk253_0.1.1.1.2.1 rfl rfl rfl ⟨by decide, _, rfl, hK0⟩ ⟨Nat.zero_le _, Nat.zero_le _⟩ (by omega) (tfS_isWord (by omega) hg hK0 ) (fun y1 r2 => ?_)
  refine go_ifeq kk253_0.1.1.1.2.2 (inR_b r2) (fun c5 => ?_) (fun c6 => ?_)
  · refine go_aload kk253_0.1.1.2.2.1 rfl ?_
    refine go_ldcs kk253_0.1.1.2.2.2 (by decide) (x := 2000009) rfl ?_
    refine go_callP3 kk253_0.1.2.1.1.1 rfl rfl rfl ⟨by decide, _, rfl, hK0⟩ ⟨Nat.zero_le _, Nat.zero_le _⟩ (by omega) (tfS_isWord (by omega) hg hK0 ) (fun y7 r8 => ?_)
    refine go_ifeq kk253_0.1.2.1.1.2 (inR_b r8) (fun c11 => ?_) (fun c12 => ?_)
    · refine go_aload kk253_0.1.2.2.1.1 rfl ?_
      refine go_ldcs kk253_0.1.2.2.1.2 (by decide) (x := 2000010) rfl ?_
      refine go_callP3 kk253_0.1.2.2.2.1 rfl rfl rfl ⟨by decide, _, rfl, hK0⟩ ⟨Nat.zero_le _, Nat.zero_le _⟩ (by omega) (tfS_isWord (by omega) hg hK0 ) (fun y13 r14 => ?_)
      refine go_ifeq kk253_0.1.2.2.2.2 (inR_b r14) (fun c17 => ?_) (fun c18 => ?_)
      · refine go_aload kk253_0.2.1.1.2.1 rfl ?_
        refine go_ldcs kk253_0.2.1.1.2.2 (by decide) (x := 2000011) rfl ?_
        refine go_callP3 kk253_0.2.1.2.1.1 rfl rfl rfl ⟨by decide, _, rfl, hK0⟩ ⟨Nat.zero_le _, Nat.zero_le _⟩ (by omega) (tfS_isWord (by omega) hg hK0 ) (fun y19 r20 => ?_)
        refine go_ifeq kk253_0.2.1.2.1.2 (inR_b r20) (fun c23 => ?_) (fun c24 => ?_)
        · refine go_aload kk253_0.2.2.1.1.1 rfl ?_
          refine go_ldcs kk253_0.2.2.1.1.2 (by decide) (x := 2000012) rfl ?_
          refine go_callP3 kk253_0.2.2.1.2.1 rfl rfl rfl ⟨by decide, _, rfl, hK0⟩ ⟨Nat.zero_le _, Nat.zero_le _⟩ (by omega) (tfS_isWord (by omega) hg hK0 ) (fun y25 r26 => ?_)
          refine go_ifeq kk253_0.2.2.1.2.2 (inR_b r26) (fun c29 => ?_) (fun c30 => ?_)
          · refine go_int kk253_0.2.2.2.2.1 (-1) rfl ?_
            exact go_iret kk253_0.2.2.2.2.2 hg (inR_of (by decide)) ⟨Nat.zero_le _, Nat.zero_le _⟩ rfl
          · refine go_int kk253_0.2.2.2.1.1 4 rfl ?_
            refine go_goto kk253_0.2.2.2.1.2 ?_
            exact go_iret kk253_0.2.2.2.2.2 hg (inR_of (by decide)) ⟨Nat.zero_le _, Nat.zero_le _⟩ rfl
        · refine go_int kk253_0.2.1.2.2.1 3 rfl ?_
          exact go_iret kk253_0.2.1.2.2.2 hg (inR_of (by decide)) ⟨Nat.zero_le _, Nat.zero_le _⟩ rfl
      · refine go_int kk253_0.2.1.1.1.1 2 rfl ?_
        exact go_iret kk253_0.2.1.1.1.2 hg (inR_of (by decide)) ⟨Nat.zero_le _, Nat.zero_le _⟩ rfl
    · refine go_int kk253_0.1.2.1.2.1 1 rfl ?_
      exact go_iret kk253_0.1.2.1.2.2 hg (inR_b (Or.inr rfl)) ⟨Nat.zero_le _, Nat.zero_le _⟩ rfl
  · refine go_int kk253_0.1.1.2.1.1 0 rfl ?_
    exact go_iret kk253_0.1.1.2.1.2 hg (inR_b (Or.inl rfl)) ⟨Nat.zero_le _, Nat.zero_le _⟩ rfl
theorem tfS_fail {Φ : ev_P} {d : Nat} (hd : 0 ≤ d) {g : gH} (hg : HR g) {v0 v1 : Int} (hK0 : kd v0 = 4) (h1 : InR v1) : Go Φ pr_P fN 3 (fS_fail g v0 v1) d (pr_P 264) 0 (ev_loc (pr_P 264).1 [(sR v0), (sI v1)]) [] g 0 0 := by
  show Go Φ pr_P fN 3 (fS_fail g v0 v1) d pr_m264 0 [some (sR v0), some (sI v1)] [] g 0 0
  unfold fS_fail
  refine go_aload kk264_0.1.1.1.1 rfl ?_
  refine go_iload kk264_0.1.1.1.2 rfl ?_
  refine go_putI (bI := 2) kk264_0.1.1.2 hg hK0 (by decide) rfl rfl h1 (fun g1 e2 => ?_)
  refine go_aload kk264_0.1.2.1 rfl ?_
  refine go_aload kk264_0.1.2.2 rfl ?_
  refine go_getI (bI := 5) kk264_0.2.1.1 e2 hK0 (by decide) rfl rfl (fun r3 => ?_)
  refine go_putI (bI := 3) kk264_0.2.1.2 e2 hK0 (by decide) rfl rfl r3 (fun g4 e5 => ?_)
  refine go_int kk264_0.2.2.1 0 rfl ?_
  exact go_bret kk264_0.2.2.2 e5 (Or.inl rfl) ⟨Nat.zero_le _, Nat.zero_le _⟩ rfl
theorem tfS_isBlank {Φ : ev_P} {d : Nat} (hd : 0 ≤ d) {g : gH} (hg : HR g) {v0 : Int} (h0 : InR v0) : Go Φ pr_P (fP g) 3 (fS_isBlank g v0) d (pr_P 266) 0 (ev_loc (pr_P 266).1 [(sI v0)]) [] g 0 0 := by
  show Go Φ pr_P (fP g) 3 (fS_isBlank g v0) d pr_m266 0 [some (sI v0)] [] g 0 0
  unfold fS_isBlank
  refine go_iload kk266_0.1.1.1.1 rfl ?_
  refine go_int kk266_0.1.1.1.2 32 rfl ?_
  refine go_cmeq kk266_0.1.1.2 h0 (inR_of (by decide)) (fun c1 => ?_) (fun c2 => ?_)
  · refine go_int kk266_0.2.1.1.2 1 rfl ?_
    refine go_goto kk266_0.2.1.2 ?_
    exact go_bret kk266_0.2.2.2 hg (Or.inr rfl) ⟨Nat.zero_le _, Nat.zero_le _⟩ rfl
  · refine go_iload kk266_0.1.2.1 rfl ?_
    refine go_int kk266_0.1.2.2 10 rfl ?_
    refine go_cmeq kk266_0.2.1.1.1 h0 (inR_of (by decide)) (fun c3 => ?_) (fun c4 => ?_)
    · refine go_int kk266_0.2.1.1.2 1 rfl ?_
      refine go_goto kk266_0.2.1.2 ?_
      exact go_bret kk266_0.2.2.2 hg (Or.inr rfl) ⟨Nat.zero_le _, Nat.zero_le _⟩ rfl
    · refine go_int kk266_0.2.2.1 0 rfl ?_
      exact go_bret kk266_0.2.2.2 hg (Or.inl rfl) ⟨Nat.zero_le _, Nat.zero_le _⟩ rfl
theorem tjS_kindOf_28 {Φ : ev_P} {d : Nat} (hd : 0 ≤ d) {g : gH} (hg : HR g) {v0 : Int} (h0 : InR v0) : Go Φ pr_P (fP g) 1 (jS_kindOf_28 g v0 ) d pr_m267 28 [some (sI v0)] [] g 0 0 := by
  unfold jS_kindOf_28
  refine go_iload kk267_0.2.1.2.1.2 rfl ?_
  refine go_int kk267_0.2.1.2.2 59 rfl ?_
  refine go_cmeq kk267_0.2.2.1.1.1 h0 (inR_of (by decide)) (fun c9 => ?_) (fun c10 => ?_)
  · refine go_int kk267_0.2.2.1.1.2 3 rfl ?_
    refine go_goto kk267_0.2.2.1.2 ?_
    exact go_iret kk267_0.2.2.2.2 hg (inR_of (by decide)) ⟨Nat.zero_le _, Nat.zero_le _⟩ rfl
  · refine go_int kk267_0.2.2.2.1 4 rfl ?_
    exact go_iret kk267_0.2.2.2.2 hg (inR_of (by decide)) ⟨Nat.zero_le _, Nat.zero_le _⟩ rfl
theorem tjS_kindOf_14 {Φ : ev_P} {d : Nat} (hd : 0 ≤ d) {g : gH} (hg : HR g) {v0 : Int} (h0 : InR v0) : Go Φ pr_P (fP g) 1 (jS_kindOf_14 g v0 ) d pr_m267 14 [some (sI v0)] [] g 0 0 := by
  unfold jS_kindOf_14
  refine go_iload kk267_0.1.2.1.2 rfl ?_
  refine go_int kk267_0.1.2.2.1.1 48 rfl ?_
  refine go_cmlt kk267_0.1.2.2.1.2 h0 (inR_of (by decide)) (fun c5 => ?_) (fun c6 => ?_)
  · exact tjS_kindOf_28 hd hg h0
  · refine go_iload kk267_0.1.2.2.2 rfl ?_
    refine go_int kk267_0.2.1.1.1.1 57 rfl ?_
    refine go_cmgt kk267_0.2.1.1.1.2 h0 (inR_of (by decide)) (fun c7 => ?_) (fun c8 => ?_)
    · exact tjS_kindOf_28 hd hg h0
    · refine go_int kk267_0.2.1.1.2 2 rfl ?_
      exact go_iret kk267_0.2.1.2.1.1 hg (inR_of (by decide)) ⟨Nat.zero_le _, Nat.zero_le _⟩ rfl
theorem tfS_kindOf {Φ : ev_P} {d : Nat} (hd : 0 ≤ d) {g : gH} (hg : HR g) {v0 : Int} (h0 : InR v0) : Go Φ pr_P (fP g) 1 (fS_kindOf g v0) d (pr_P 267) 0 (ev_loc (pr_P 267).1 [(sI v0)]) [] g 0 0 := by
  show Go Φ pr_P (fP g) 1 (fS_kindOf g v0) d pr_m267 0 [some (sI v0)] [] g 0 0
  unfold fS_kindOf
  refine go_iload kk267_0.1.1.1.1.1 rfl ?_
  refine go_int kk267_0.1.1.1.1.2 97 rfl ?_
  refine go_cmlt kk267_0.1.1.1.2 h0 (inR_of (by decide)) (fun c1 => ?_) (fun c2 => ?_)
  · exact tjS_kindOf_14 hd hg h0
  · refine go_iload kk267_0.1.1.2.1.1 rfl ?_
    refine go_int kk267_0.1.1.2.1.2 122 rfl ?_
    refine go_cmgt kk267_0.1.1.2.2 h0 (inR_of (by decide)) (fun c3 => ?_) (fun c4 => ?_)
    · exact tjS_kindOf_14 hd hg h0
    · refine go_int kk267_0.1.2.1.1.1 1 rfl ?_
      exact go_iret kk267_0.1.2.1.1.2 hg (inR_b (Or.inr rfl)) ⟨Nat.zero_le _, Nat.zero_le _⟩ rfl
theorem tjS_advance_215 {Φ : ev_P} {d : Nat} (hd : 1 ≤ d) {g : gH} (hg : HR g) {v0 : Int} (hK0 : kd v0 = 4) : Go Φ pr_P fN 0 (jS_advance_215 g v0 ) d pr_m265 215 [some (sR v0)] [] g 0 0 := by
  unfold jS_advance_215
  refine go_aload kk265_1.2.2.1.1.1.1 rfl ?_
  refine go_getI (bI := 4) kk265_1.2.2.1.1.1.2 hg hK0 (by decide) rfl rfl (fun r105 => ?_)
  refine go_int kk265_1.2.2.1.1.2.1 2 rfl ?_
  refine go_cmeq kk265_1.2.2.1.1.2.2 r105 (inR_of (by decide)) (fun c106 => ?_) (fun c107 => ?_)
  · refine go_aload kk265_1.2.2.1.2.1.1 rfl ?_
    refine go_getI (bI := 6) kk265_1.2.2.1.2.1.2 hg hK0 (by decide) rfl rfl (fun r108 => ?_)
    refine go_aload kk265_1.2.2.1.2.2.1 rfl ?_
    refine go_getI (bI := 5) kk265_1.2.2.1.2.2.2 hg hK0 (by decide) rfl rfl (fun r109 => ?_)
    refine go_isub kk265_1.2.2.2.1.1.1 ?_
    refine go_int kk265_1.2.2.2.1.1.2 2 rfl ?_
    refine go_cmgt kk265_1.2.2.2.1.2.1 (inR_w32 _) (inR_of (by decide)) (fun c110 => ?_) (fun c111 => ?_)
    · refine go_aload kk265_1.2.2.2.1.2.2 rfl ?_
      refine go_int kk265_1.2.2.2.2.1.1 4 rfl ?_
      refine go_putI (bI := 4) kk265_1.2.2.2.2.1.2 hg hK0 (by decide) rfl rfl (inR_of (by decide)) (fun g112 e113 => ?_)
      exact go_vret kk265_1.2.2.2.2.2 e113 ⟨Nat.zero_le _, Nat.zero_le _⟩ rfl
    · exact go_vret kk265_1.2.2.2.2.2 hg ⟨Nat.zero_le _, Nat.zero_le _⟩ rfl
  · exact go_vret kk265_1.2.2.2.2.2 hg ⟨Nat.zero_le _, Nat.zero_le _⟩ rfl
theorem tjS_advance_141 {Φ : ev_P} {d : Nat} (hd : 1 ≤ d) {X125 : gH → Option (Int × gH)} {g : gH} (hg : HR g) {v0 : Int} (hK0 : kd v0 = 4) (HX125 : ∀ (g : gH) (hg : HR g), Go Φ pr_P fN 0 (X125 g) d pr_m265 125 [some (sR v0)] [] g 0 0) : Go Φ pr_P fN 0 (jS_advance_141 X125 g v0 ) d pr_m265 141 [some (sR v0)] [] g 0 0 := by
  unfold jS_advance_141
  refine go_aload kk265_1.1.1.2.1.1.2 rfl ?_
  refine go_getI (bI := 6) kk265_1.1.1.2.1.2.1 hg hK0 (by decide) rfl rfl (fun r74 => ?_)
  refine go_aload kk265_1.1.1.2.1.2.2 rfl ?_
  refine go_getR (bI := 0) kk265_1.1.1.2.2.1.1 hg hK0 (by decide) rfl rfl (fun r75 => ?_)
  refine go_ck (fun q76 => ?_)
  refine go_getI (bI := 1) kk265_1.1.1.2.2.1.2 hg q76 (by decide) rfl rfl (fun r77 => ?_)
  refine go_cmlt kk265_1.1.1.2.2.2 r74 r77 (fun c78 => ?_) (fun c79 => ?_)
  · refine go_aload kk265_1.1.2.1.1.1.1 rfl ?_
    refine go_getR (bI := 0) kk265_1.1.2.1.1.1.2 hg hK0 (by decide) rfl rfl (fun r80 => ?_)
    refine go_aload kk265_1.1.2.1.1.2.1 rfl ?_
    refine go_getI (bI := 6) kk265_1.1.2.1.1.2.2 hg hK0 (by decide) rfl rfl (fun r81 => ?_)
    refine go_callP1 kk265_1.1.2.1.2.1.1 rfl rfl rfl ⟨by decide, _, rfl, q76⟩ ⟨Nat.zero_le _, Nat.zero_le _⟩ (by omega) (tfI_at (by omega) hg q76  r81) (fun y82 r83 => ?_)
    refine go_callP1 kk265_1.1.2.1.2.1.2 rfl rfl rfl trivial ⟨Nat.zero_le _, Nat.zero_le _⟩ (by omega) (tfS_kindOf (by omega) hg  r83) (fun y86 r87 => ?_)
    refine go_aload kk265_1.1.2.1.2.2.1 rfl ?_
    refine go_getI (bI := 4) kk265_1.1.2.1.2.2.2 hg hK0 (by decide) rfl rfl (fun r90 => ?_)
    refine go_cmeq kk265_1.1.2.2.1.1.1 r87 r90 (fun c91 => ?_) (fun c92 => ?_)
    · refine go_aload kk265_1.1.2.2.1.1.2 rfl ?_
      refine go_int kk265_1.1.2.2.1.2.1 10 rfl ?_
      refine go_aload kk265_1.1.2.2.1.2.2 rfl ?_
      refine go_getI (bI := 7) kk265_1.1.2.2.2.1.1 hg hK0 (by decide) rfl rfl (fun r93 => ?_)
      refine go_ibin kk265_1.1.2.2.2.1.2 ?_
      refine go_aload kk265_1.1.2.2.2.2 rfl ?_
      refine go_getR (bI := 0) kk265_1.2.1.1.1.1.1 hg hK0 (by decide) rfl rfl (fun r94 => ?_)
      refine go_aload kk265_1.2.1.1.1.1.2 rfl ?_
      refine go_getI (bI := 6) kk265_1.2.1.1.1.2.1 hg hK0 (by decide) rfl rfl (fun r95 => ?_)
      refine go_callP1 kk265_1.2.1.1.1.2.2 rfl rfl rfl ⟨by decide, _, rfl, q76⟩ ⟨Nat.zero_le _, Nat.zero_le _⟩ (by omega) (tfI_at (by omega) hg q76  r95) (fun y96 r97 => ?_)
      refine go_iadd kk265_1.2.1.1.2.1.1 ?_
      refine go_int kk265_1.2.1.1.2.1.2 48 rfl ?_
      refine go_isub kk265_1.2.1.1.2.2.1 ?_
      refine go_putI (bI := 7) kk265_1.2.1.1.2.2.2 hg hK0 (by decide) rfl rfl (inR_w32 _) (fun g100 e101 => ?_)
      refine go_aload kk265_1.2.1.2.1.1.1 rfl ?_
      refine go_dupR kk265_1.2.1.2.1.1.2 ?_
      refine go_getI (bI := 6) kk265_1.2.1.2.1.2.1 e101 hK0 (by decide) rfl rfl (fun r102 => ?_)
      refine go_int kk265_1.2.1.2.1.2.2 1 rfl ?_
      refine go_iadd kk265_1.2.1.2.2.1.1 ?_
      refine go_putI (bI := 6) kk265_1.2.1.2.2.1.2 e101 hK0 (by decide) rfl rfl (inR_w32 _) (fun g103 e104 => ?_)
      refine go_goto kk265_1.2.1.2.2.2 ?_
      exact HX125 g103 e104
    · exact tjS_advance_215 hd hg hK0
  · exact tjS_advance_215 hd hg hK0
theorem tbS_advance_125 {Φ : ev_P} {d : Nat} (hd : 1 ≤ d) {v0 : Int} (hK0 : kd v0 = 4) {X125 : gH → Option (Int × gH)} (HX125 : ∀ (g : gH) (hg : HR g), Go Φ pr_P fN 0 (X125 g) d pr_m265 125 [some (sR v0)] [] g 0 0) : ∀ (g : gH) (hg : HR g), Go Φ pr_P fN 0 (bS_advance_125 v0 X125 g) d pr_m265 125 [some (sR v0)] [] g 0 0 := by
  intro g hg
  unfold bS_advance_125
  refine go_aload kk265_1.1.1.1.1.1.2 rfl ?_
  refine go_getI (bI := 4) kk265_1.1.1.1.1.2.1 hg hK0 (by decide) rfl rfl (fun r68 => ?_)
  refine go_int kk265_1.1.1.1.1.2.2 1 rfl ?_
  refine go_cmeq kk265_1.1.1.1.2.1.1 r68 (inR_b (Or.inr rfl)) (fun c69 => ?_) (fun c70 => ?_)
  · exact tjS_advance_141 hd hg hK0 HX125
  · refine go_aload kk265_1.1.1.1.2.1.2 rfl ?_
    refine go_getI (bI := 4) kk265_1.1.1.1.2.2.1 hg hK0 (by decide) rfl rfl (fun r71 => ?_)
    refine go_int kk265_1.1.1.1.2.2.2 2 rfl ?_
    refine go_cmeq kk265_1.1.1.2.1.1.1 r71 (inR_of (by decide)) (fun c72 => ?_) (fun c73 => ?_)
    · exact tjS_advance_141 hd hg hK0 HX125
    · exact tjS_advance_215 hd hg hK0
theorem tlS_advance_125 {Φ : ev_P} {d : Nat} (hd : 1 ≤ d) {v0 : Int} (hK0 : kd v0 = 4) : ∀ n : Nat, ∀ (g : gH) (hg : HR g), Go Φ pr_P fN 0 (lS_advance_125 v0 n g) d pr_m265 125 [some (sR v0)] [] g 0 0 := by
  intro n
  induction n with
  | zero => intros; exact go_none
  | succ n ih => exact tbS_advance_125 hd hK0 ih
theorem tjS_advance_52 {Φ : ev_P} {d : Nat} (hd : 1 ≤ d) {g : gH} (hg : HR g) {v0 : Int} (hK0 : kd v0 = 4) : Go Φ pr_P fN 0 (jS_advance_52 g v0 ) d pr_m265 52 [some (sR v0)] [] g 0 0 := by
  unfold jS_advance_52
  refine go_aload kk265_0.1.2.2.1.1.2 rfl ?_
  refine go_aload kk265_0.1.2.2.1.2.1 rfl ?_
  refine go_getI (bI := 5) kk265_0.1.2.2.1.2.2 hg hK0 (by decide) rfl rfl (fun r25 => ?_)
  refine go_putI (bI := 6) kk265_0.1.2.2.2.1.1 hg hK0 (by decide) rfl rfl r25 (fun g26 e27 => ?_)
  refine go_aload kk265_0.1.2.2.2.1.2 rfl ?_
  refine go_int kk265_0.1.2.2.2.2 0 rfl ?_
  refine go_putI (bI := 4) kk265_0.2.1.1.1.1.1 e27 hK0 (by decide) rfl rfl (inR_b (Or.inl rfl)) (fun g28 e29 => ?_)
  refine go_aload kk265_0.2.1.1.1.1.2 rfl ?_
  refine go_getI (bI := 5) kk265_0.2.1.1.1.2.1 e29 hK0 (by decide) rfl rfl (fun r30 => ?_)
  refine go_aload kk265_0.2.1.1.1.2.2 rfl ?_
  refine go_getR (bI := 0) kk265_0.2.1.1.2.1.1 e29 hK0 (by decide) rfl rfl (fun r31 => ?_)
  refine go_ck (fun q32 => ?_)
  refine go_getI (bI := 1) kk265_0.2.1.1.2.1.2 e29 q32 (by decide) rfl rfl (fun r33 => ?_)
  refine go_cmlt kk265_0.2.1.1.2.2.1 r30 r33 (fun c34 => ?_) (fun c35 => ?_)
  · refine go_aload kk265_0.2.1.1.2.2.2 rfl ?_
    refine go_aload kk265_0.2.1.2.1.1.1 rfl ?_
    refine go_getR (bI := 0) kk265_0.2.1.2.1.1.2 e29 hK0 (by decide) rfl rfl (fun r36 => ?_)
    refine go_aload kk265_0.2.1.2.1.2.1 rfl ?_
    refine go_getI (bI := 5) kk265_0.2.1.2.1.2.2 e29 hK0 (by decide) rfl rfl (fun r37 => ?_)
    refine go_callP1 kk265_0.2.1.2.2.1.1 rfl rfl rfl ⟨by decide, _, rfl, q32⟩ ⟨Nat.zero_le _, Nat.zero_le _⟩ (by omega) (tfI_at (by omega) e29 q32  r37) (fun y38 r39 => ?_)
    refine go_callP1 kk265_0.2.1.2.2.1.2 rfl rfl rfl trivial ⟨Nat.zero_le _, Nat.zero_le _⟩ (by omega) (tfS_kindOf (by omega) e29  r39) (fun y42 r43 => ?_)
    refine go_putI (bI := 4) kk265_0.2.1.2.2.2 e29 hK0 (by decide) rfl rfl r43 (fun g46 e47 => ?_)
    refine go_aload kk265_0.2.2.1.1.1.1 rfl ?_
    refine go_dupR kk265_0.2.2.1.1.1.2 ?_
    refine go_getI (bI := 6) kk265_0.2.2.1.1.2.1 e47 hK0 (by decide) rfl rfl (fun r48 => ?_)
    refine go_int kk265_0.2.2.1.1.2.2 1 rfl ?_
    refine go_iadd kk265_0.2.2.1.2.1.1 ?_
    refine go_putI (bI := 6) kk265_0.2.2.1.2.1.2 e47 hK0 (by decide) rfl rfl (inR_w32 _) (fun g49 e50 => ?_)
    refine go_aload kk265_0.2.2.1.2.2 rfl ?_
    refine go_aload kk265_0.2.2.2.1.1.1 rfl ?_
    refine go_getR (bI := 0) kk265_0.2.2.2.1.1.2 e50 hK0 (by decide) rfl rfl (fun r51 => ?_)
    refine go_aload kk265_0.2.2.2.1.2.1 rfl ?_
    refine go_getI (bI := 5) kk265_0.2.2.2.1.2.2 e50 hK0 (by decide) rfl rfl (fun r52 => ?_)
    refine go_ck (fun q53 => ?_)
    refine go_callP1 kk265_0.2.2.2.2.1.1 rfl rfl rfl ⟨by decide, _, rfl, q53⟩ ⟨Nat.zero_le _, Nat.zero_le _⟩ (by omega) (tfI_at (by omega) e50 q53  r52) (fun y54 r55 => ?_)
    refine go_int kk265_0.2.2.2.2.1.2 48 rfl ?_
    refine go_isub kk265_0.2.2.2.2.2 ?_
    refine go_putI (bI := 7) kk265_1.1.1.1.1.1.1 e50 hK0 (by decide) rfl rfl (inR_w32 _) (fun g58 e59 => ?_)
    exact tlS_advance_125 hd hK0 fu g58 e59
  · refine go_aload kk265_0.2.2.1.2.2 rfl ?_
    refine go_aload kk265_0.2.2.2.1.1.1 rfl ?_
    refine go_getR (bI := 0) kk265_0.2.2.2.1.1.2 e29 hK0 (by decide) rfl rfl (fun r60 => ?_)
    refine go_aload kk265_0.2.2.2.1.2.1 rfl ?_
    refine go_getI (bI := 5) kk265_0.2.2.2.1.2.2 e29 hK0 (by decide) rfl rfl (fun r61 => ?_)
    refine go_callP1 kk265_0.2.2.2.2.1.1 rfl rfl rfl ⟨by decide, _, rfl, q32⟩ ⟨Nat.zero_le _, Nat.zero_le _⟩ (by omega) (tfI_at (by omega) e29 q32  r61) (fun y62 r63 => ?_)
    refine go_int kk265_0.2.2.2.2.1.2 48 rfl ?_
    refine go_isub kk265_0.2.2.2.2.2 ?_
    refine go_putI (bI := 7) kk265_1.1.1.1.1.1.1 e29 hK0 (by decide) rfl rfl (inR_w32 _) (fun g66 e67 => ?_)
    exact tlS_advance_125 hd hK0 fu g66 e67
theorem tbS_advance_8 {Φ : ev_P} {d : Nat} (hd : 1 ≤ d) {v0 : Int} (hK0 : kd v0 = 4) {X8 : gH → Option (Int × gH)} (HX8 : ∀ (g : gH) (hg : HR g), Go Φ pr_P fN 0 (X8 g) d pr_m265 8 [some (sR v0)] [] g 0 0) : ∀ (g : gH) (hg : HR g), Go Φ pr_P fN 0 (bS_advance_8 v0 X8 g) d pr_m265 8 [some (sR v0)] [] g 0 0 := by
  intro g hg
  unfold bS_advance_8
  refine go_aload kk265_0.1.1.1.2.1.1 rfl ?_
  refine go_getI (bI := 5) kk265_0.1.1.1.2.1.2 hg hK0 (by decide) rfl rfl (fun r4 => ?_)
  refine go_aload kk265_0.1.1.1.2.2.1 rfl ?_
  refine go_getR (bI := 0) kk265_0.1.1.1.2.2.2 hg hK0 (by decide) rfl rfl (fun r5 => ?_)
  refine go_ck (fun q6 => ?_)
  refine go_getI (bI := 1) kk265_0.1.1.2.1.1.1 hg q6 (by decide) rfl rfl (fun r7 => ?_)
  refine go_cmlt kk265_0.1.1.2.1.1.2 r4 r7 (fun c8 => ?_) (fun c9 => ?_)
  · refine go_aload kk265_0.1.1.2.1.2.1 rfl ?_
    refine go_getR (bI := 0) kk265_0.1.1.2.1.2.2 hg hK0 (by decide) rfl rfl (fun r10 => ?_)
    refine go_aload kk265_0.1.1.2.2.1.1 rfl ?_
    refine go_getI (bI := 5) kk265_0.1.1.2.2.1.2 hg hK0 (by decide) rfl rfl (fun r11 => ?_)
    refine go_callP1 kk265_0.1.1.2.2.2 rfl rfl rfl ⟨by decide, _, rfl, q6⟩ ⟨Nat.zero_le _, Nat.zero_le _⟩ (by omega) (tfI_at (by omega) hg q6  r11) (fun y12 r13 => ?_)
    refine go_callP3 kk265_0.1.2.1.1.1.1 rfl rfl rfl trivial ⟨Nat.zero_le _, Nat.zero_le _⟩ (by omega) (tfS_isBlank (by omega) hg  r13) (fun y16 r17 => ?_)
    refine go_ifeq kk265_0.1.2.1.1.1.2 (inR_b r17) (fun c20 => ?_) (fun c21 => ?_)
    · exact tjS_advance_52 hd hg hK0
    · refine go_aload kk265_0.1.2.1.1.2.1 rfl ?_
      refine go_dupR kk265_0.1.2.1.1.2.2 ?_
      refine go_getI (bI := 5) kk265_0.1.2.1.2.1.1 hg hK0 (by decide) rfl rfl (fun r22 => ?_)
      refine go_int kk265_0.1.2.1.2.1.2 1 rfl ?_
      refine go_iadd kk265_0.1.2.1.2.2.1 ?_
      refine go_putI (bI := 5) kk265_0.1.2.1.2.2.2 hg hK0 (by decide) rfl rfl (inR_w32 _) (fun g23 e24 => ?_)
      refine go_goto kk265_0.1.2.2.1.1.1 ?_
      exact HX8 g23 e24
  · exact tjS_advance_52 hd hg hK0
theorem tlS_advance_8 {Φ : ev_P} {d : Nat} (hd : 1 ≤ d) {v0 : Int} (hK0 : kd v0 = 4) : ∀ n : Nat, ∀ (g : gH) (hg : HR g), Go Φ pr_P fN 0 (lS_advance_8 v0 n g) d pr_m265 8 [some (sR v0)] [] g 0 0 := by
  intro n
  induction n with
  | zero => intros; exact go_none
  | succ n ih => exact tbS_advance_8 hd hK0 ih
theorem tfS_advance {Φ : ev_P} {d : Nat} (hd : 1 ≤ d) {g : gH} (hg : HR g) {v0 : Int} (hK0 : kd v0 = 4) : Go Φ pr_P fN 0 (fS_advance g v0) d (pr_P 265) 0 (ev_loc (pr_P 265).1 [(sR v0)]) [] g 0 0 := by
  show Go Φ pr_P fN 0 (fS_advance g v0) d pr_m265 0 [some (sR v0)] [] g 0 0
  unfold fS_advance
  refine go_aload kk265_0.1.1.1.1.1.1 rfl ?_
  refine go_aload kk265_0.1.1.1.1.1.2 rfl ?_
  refine go_getI (bI := 6) kk265_0.1.1.1.1.2.1 hg hK0 (by decide) rfl rfl (fun r1 => ?_)
  refine go_putI (bI := 5) kk265_0.1.1.1.1.2.2 hg hK0 (by decide) rfl rfl r1 (fun g2 e3 => ?_)
  exact tlS_advance_8 hd hK0 fu g2 e3
theorem tbT_hasRule_11 {Φ : ev_P} {d : Nat} (hd : 0 ≤ d) {g : gH} (hg : HR g) {v1 v2 v3 : Int} (h1 : InR v1) (h2 : RfR v2) (h3 : InR v3) {X11 : Int → Option Int} (HX11 : ∀ (v4 : Int) (h4 : InR v4) (u0 : Option ev_V) (w0 : nwo u0) (u5 : Option ev_V) (w5 : nwo u5), Go Φ pr_P (fP g) 3 (X11 v4) d pr_m271 11 [u0, some (sI v1), some (sR v2), some (sI v3), some (sI v4), u5] [] g 0 0) : ∀ (v4 : Int) (h4 : InR v4) (u0 : Option ev_V) (w0 : nwo u0) (u5 : Option ev_V) (w5 : nwo u5), Go Φ pr_P (fP g) 3 (bT_hasRule_11 g v1 v2 v3 X11 v4) d pr_m271 11 [u0, some (sI v1), some (sR v2), some (sI v3), some (sI v4), u5] [] g 0 0 := by
  intro v4 h4 u0 w0 u5 w5
  unfold bT_hasRule_11
  refine go_iload kk271_0.1.2.1.2 rfl ?_
  refine go_iload kk271_0.1.2.2.1.1 rfl ?_
  refine go_cmlt kk271_0.1.2.2.1.2 h4 h3 (fun c4 => ?_) (fun c5 => ?_)
  · refine go_aload kk271_0.1.2.2.2 rfl ?_
    refine go_iload kk271_0.2.1.1.1.1 rfl ?_
    refine go_ck (fun q7 => ?_)
    refine go_iald kk271_0.2.1.1.1.2 hg q7 (fun r6 => ?_)
    refine go_istore kk271_0.2.1.1.2 rfl (loc2 := [u0, some (sI v1), some (sR v2), some (sI v3), some (sI v4), some (sI (g v2 v4))]) rfl ?_
    refine go_iload kk271_0.2.1.2.1.1 rfl ?_
    refine go_iload kk271_0.2.1.2.1.2 rfl ?_
    refine go_cmeq kk271_0.2.1.2.2 r6 h1 (fun c8 => ?_) (fun c9 => ?_)
    · refine go_int kk271_0.2.2.1.1.1 1 rfl ?_
      exact go_bret kk271_0.2.2.1.1.2 hg (Or.inr rfl) ⟨Nat.zero_le _, Nat.zero_le _⟩ rfl
    · refine go_iinc kk271_0.2.2.1.2 rfl rfl 1 rfl (loc2 := [u0, some (sI v1), some (sR v2), some (sI v3), some (sI (w32 (v4 + 1))), some (sI (g v2 v4))]) rfl ?_
      refine go_goto kk271_0.2.2.2.1.1 ?_
      exact HX11 (w32 (v4 + 1)) (inR_w32 _) u0 w0 (some (sI (g v2 v4))) rfl
  · refine go_int kk271_0.2.2.2.1.2 0 rfl ?_
    exact go_bret kk271_0.2.2.2.2 hg (Or.inl rfl) ⟨Nat.zero_le _, Nat.zero_le _⟩ rfl
theorem tlT_hasRule_11 {Φ : ev_P} {d : Nat} (hd : 0 ≤ d) {g : gH} (hg : HR g) {v1 v2 v3 : Int} (h1 : InR v1) (h2 : RfR v2) (h3 : InR v3) : ∀ n : Nat, ∀ (v4 : Int) (h4 : InR v4) (u0 : Option ev_V) (w0 : nwo u0) (u5 : Option ev_V) (w5 : nwo u5), Go Φ pr_P (fP g) 3 (lT_hasRule_11 g v1 v2 v3 n v4) d pr_m271 11 [u0, some (sI v1), some (sR v2), some (sI v3), some (sI v4), u5] [] g 0 0 := by
  intro n
  induction n with
  | zero => intros; exact go_none
  | succ n ih => exact tbT_hasRule_11 hd hg h1 h2 h3 ih
theorem tfT_hasRule {Φ : ev_P} {d : Nat} (hd : 0 ≤ d) {g : gH} (hg : HR g) {v0 v1 : Int} (hK0 : kd v0 = 5) (h1 : InR v1) : Go Φ pr_P (fP g) 3 (fT_hasRule g v0 v1) d (pr_P 271) 0 (ev_loc (pr_P 271).1 [(sR v0), (sI v1)]) [] g 0 0 := by
  show Go Φ pr_P (fP g) 3 (fT_hasRule g v0 v1) d pr_m271 0 [some (sR v0), some (sI v1), none, none, none, none] [] g 0 0
  unfold fT_hasRule
  refine go_aload kk271_0.1.1.1.1.1 rfl ?_
  refine go_getR (bI := 3) kk271_0.1.1.1.1.2 hg hK0 (by decide) rfl rfl (fun r1 => ?_)
  refine go_astore kk271_0.1.1.1.2 rfl (loc2 := [some (sR v0), some (sI v1), some (sR (g v0 3)), none, none, none]) rfl ?_
  refine go_aload kk271_0.1.1.2.1.1 rfl ?_
  refine go_ck (fun q3 => ?_)
  refine go_alen kk271_0.1.1.2.1.2 (ka_20 q3) (fun r2 => ?_)
  refine go_istore kk271_0.1.1.2.2 rfl (loc2 := [some (sR v0), some (sI v1), some (sR (g v0 3)), some (sI (sz (g v0 3))), none, none]) rfl ?_
  refine go_int kk271_0.1.2.1.1.1 0 rfl ?_
  refine go_istore kk271_0.1.2.1.1.2 rfl (loc2 := [some (sR v0), some (sI v1), some (sR (g v0 3)), some (sI (sz (g v0 3))), some (sI 0), none]) rfl ?_
  exact tlT_hasRule_11 hd hg h1 r1 r2 fu 0 (inR_b (Or.inl rfl)) (some (sR v0)) rfl none rfl
theorem tjS_takeOrder_119 {Φ : ev_P} {d : Nat} (hd : 3 ≤ d) {g : gH} (hg : HR g) {s0 s1 : Int} (z0 : RfR s0) (z1 : InR s1) (u0 : Option ev_V) (w0 : nwo u0) (u1 : Option ev_V) (w1 : nwo u1) (u2 : Option ev_V) (w2 : nwo u2) : Go Φ pr_P fN 3 (jS_takeOrder_119 g s0 s1 ) d pr_m252 119 [u0, u1, u2] [(sI s1), (sR s0)] g 0 0 := by
  unfold jS_takeOrder_119
  refine go_ck (fun q65 => ?_)
  refine go_callN3 kk252_1.2.2.1.2.1 rfl rfl rfl ⟨by decide, _, rfl, q65⟩ ⟨Nat.zero_le _, Nat.zero_le _⟩ (by omega) (tfS_fail (by omega) hg q65  z1) (fun y66 g68 r67 e69 => ?_)
  refine go_ifeq kk252_1.2.2.1.2.2 (inR_b r67) (fun c70 => ?_) (fun c71 => ?_)
  · refine go_int kk252_1.2.2.2.2.1 0 rfl ?_
    exact go_bret kk252_1.2.2.2.2.2 e69 (Or.inl rfl) ⟨Nat.zero_le _, Nat.zero_le _⟩ rfl
  · refine go_int kk252_1.2.2.2.1.1 1 rfl ?_
    refine go_goto kk252_1.2.2.2.1.2 ?_
    exact go_bret kk252_1.2.2.2.2.2 e69 (Or.inr rfl) ⟨Nat.zero_le _, Nat.zero_le _⟩ rfl
theorem tjS_takeOrder_97 {Φ : ev_P} {d : Nat} (hd : 3 ≤ d) {g : gH} (hg : HR g) {v0 : Int} (hK0 : kd v0 = 4) (u1 : Option ev_V) (w1 : nwo u1) (u2 : Option ev_V) (w2 : nwo u2) : Go Φ pr_P fN 3 (jS_takeOrder_97 g v0 ) d pr_m252 97 [some (sR v0), u1, u2] [] g 0 0 := by
  unfold jS_takeOrder_97
  refine go_aload kk252_1.2.1.1.1.1.1 rfl ?_
  refine go_getI (bI := 4) kk252_1.2.1.1.1.1.2 hg hK0 (by decide) rfl rfl (fun r56 => ?_)
  refine go_int kk252_1.2.1.1.1.2 3 rfl ?_
  refine go_cmeq kk252_1.2.1.1.2.1 r56 (inR_of (by decide)) (fun c57 => ?_) (fun c58 => ?_)
  · refine go_int kk252_1.2.2.2.1.1 1 rfl ?_
    refine go_goto kk252_1.2.2.2.1.2 ?_
    exact go_bret kk252_1.2.2.2.2.2 hg (Or.inr rfl) ⟨Nat.zero_le _, Nat.zero_le _⟩ rfl
  · refine go_aload kk252_1.2.1.1.2.2 rfl ?_
    refine go_aload kk252_1.2.1.2.1.1 rfl ?_
    refine go_callP1 kk252_1.2.1.2.1.2 rfl rfl rfl ⟨by decide, _, rfl, hK0⟩ ⟨Nat.zero_le _, Nat.zero_le _⟩ (by omega) (tfS_ruleOfWord (by omega) hg hK0 ) (fun y59 r60 => ?_)
    refine go_int kk252_1.2.1.2.2.1 (-1) rfl ?_
    refine go_cmeq kk252_1.2.1.2.2.2 r60 (inR_of (by decide)) (fun c63 => ?_) (fun c64 => ?_)
    · refine go_int kk252_1.2.2.1.1.1.1 1 rfl ?_
      refine go_goto kk252_1.2.2.1.1.1.2 ?_
      exact tjS_takeOrder_119 hd hg (rfR_kd hK0 (by decide)) (inR_b (Or.inr rfl)) (some (sR v0)) rfl u1 w1 u2 w2
    · refine go_int kk252_1.2.2.1.1.2 3 rfl ?_
      exact tjS_takeOrder_119 hd hg (rfR_kd hK0 (by decide)) (inR_of (by decide)) (some (sR v0)) rfl u1 w1 u2 w2
theorem tbS_takeOrder_31 {Φ : ev_P} {d : Nat} (hd : 3 ≤ d) {v0 : Int} (hK0 : kd v0 = 4) {X31 : Int → gH → Option (Int × gH)} (HX31 : ∀ (v1 : Int) (h1 : InR v1) (g : gH) (hg : HR g) (u2 : Option ev_V) (w2 : nwo u2), Go Φ pr_P fN 3 (X31 v1 g) d pr_m252 31 [some (sR v0), some (sI v1), u2] [] g 0 0) : ∀ (v1 : Int) (h1 : InR v1) (g : gH) (hg : HR g) (u2 : Option ev_V) (w2 : nwo u2), Go Φ pr_P fN 3 (bS_takeOrder_31 v0 X31 v1 g) d pr_m252 31 [some (sR v0), some (sI v1), u2] [] g 0 0 := by
  intro v1 h1 g hg u2 w2
  unfold bS_takeOrder_31
  refine go_iload kk252_0.1.2.2.2.2 rfl ?_
  refine go_int kk252_0.2.1.1.1.1.1 5 rfl ?_
  refine go_cmlt kk252_0.2.1.1.1.1.2 h1 (inR_of (by decide)) (fun c20 => ?_) (fun c21 => ?_)
  · refine go_aload kk252_0.2.1.1.1.2 rfl ?_
    refine go_getI (bI := 4) kk252_0.2.1.1.2.1 hg hK0 (by decide) rfl rfl (fun r22 => ?_)
    refine go_int kk252_0.2.1.1.2.2 1 rfl ?_
    refine go_cmeq kk252_0.2.1.2.1.1 r22 (inR_b (Or.inr rfl)) (fun c23 => ?_) (fun c24 => ?_)
    · refine go_aload kk252_0.2.1.2.1.2 rfl ?_
      refine go_callP1 kk252_0.2.1.2.2.1 rfl rfl rfl ⟨by decide, _, rfl, hK0⟩ ⟨Nat.zero_le _, Nat.zero_le _⟩ (by omega) (tfS_ruleOfWord (by omega) hg hK0 ) (fun y25 r26 => ?_)
      refine go_istore kk252_0.2.1.2.2.2 rfl (loc2 := [some (sR v0), some (sI v1), some (sI y25)]) rfl ?_
      refine go_iload kk252_0.2.2.1.1.1 rfl ?_
      refine go_int kk252_0.2.2.1.1.2 (-1) rfl ?_
      refine go_cmeq kk252_0.2.2.1.2.1 r26 (inR_of (by decide)) (fun c29 => ?_) (fun c30 => ?_)
      · refine go_aload kk252_0.2.2.1.2.2 rfl ?_
        refine go_int kk252_0.2.2.2.1.1 1 rfl ?_
        refine go_callN3 kk252_0.2.2.2.1.2 rfl rfl rfl ⟨by decide, _, rfl, hK0⟩ ⟨Nat.zero_le _, Nat.zero_le _⟩ (by omega) (tfS_fail (by omega) hg hK0  (inR_b (Or.inr rfl))) (fun y31 g33 r32 e34 => ?_)
        exact go_bret kk252_0.2.2.2.2.1 e34 r32 ⟨Nat.zero_le _, Nat.zero_le _⟩ rfl
      · refine go_aload kk252_0.2.2.2.2.2 rfl ?_
        refine go_getR (bI := 1) kk252_1.1.1.1.1.1.1 hg hK0 (by decide) rfl rfl (fun r35 => ?_)
        refine go_iload kk252_1.1.1.1.1.1.2 rfl ?_
        refine go_ck (fun q36 => ?_)
        refine go_callP3 kk252_1.1.1.1.1.2 rfl rfl rfl ⟨by decide, _, rfl, q36⟩ ⟨Nat.zero_le _, Nat.zero_le _⟩ (by omega) (tfT_hasRule (by omega) hg q36  r26) (fun y37 r38 => ?_)
        refine go_ifeq kk252_1.1.1.1.2.1 (inR_b r38) (fun c41 => ?_) (fun c42 => ?_)
        · refine go_aload kk252_1.1.1.2.2.2 rfl ?_
          refine go_getR (bI := 1) kk252_1.1.2.1.1.1.1 hg hK0 (by decide) rfl rfl (fun r43 => ?_)
          refine go_getR (bI := 3) kk252_1.1.2.1.1.1.2 hg q36 (by decide) rfl rfl (fun r44 => ?_)
          refine go_iload kk252_1.1.2.1.1.2 rfl ?_
          refine go_iload kk252_1.1.2.1.2.1 rfl ?_
          refine go_ck (fun q45 => ?_)
          refine go_iast kk252_1.1.2.1.2.2 hg q45 r26 (fun g46 e47 => ?_)
          refine go_aload kk252_1.1.2.2.1.1 rfl ?_
          refine go_callN0 kk252_1.1.2.2.1.2 rfl rfl rfl ⟨by decide, _, rfl, hK0⟩ ⟨Nat.zero_le _, Nat.zero_le _⟩ (by omega) (tfS_advance (by omega) e47 hK0 ) (fun y48 g50 e51 => ?_)
          refine go_iinc kk252_1.1.2.2.2.1 rfl rfl 1 rfl (loc2 := [some (sR v0), some (sI (w32 (v1 + 1))), some (sI y25)]) rfl ?_
          refine go_goto kk252_1.1.2.2.2.2 ?_
          exact HX31 (w32 (v1 + 1)) (inR_w32 _) g50 e51 (some (sI y25)) rfl
        · refine go_aload kk252_1.1.1.1.2.2 rfl ?_
          refine go_int kk252_1.1.1.2.1.1 3 rfl ?_
          refine go_callN3 kk252_1.1.1.2.1.2 rfl rfl rfl ⟨by decide, _, rfl, hK0⟩ ⟨Nat.zero_le _, Nat.zero_le _⟩ (by omega) (tfS_fail (by omega) hg hK0  (inR_of (by decide))) (fun y52 g54 r53 e55 => ?_)
          exact go_bret kk252_1.1.1.2.2.1 e55 r53 ⟨Nat.zero_le _, Nat.zero_le _⟩ rfl
    · exact tjS_takeOrder_97 hd hg hK0 (some (sI v1)) rfl u2 w2
  · exact tjS_takeOrder_97 hd hg hK0 (some (sI v1)) rfl u2 w2
theorem tlS_takeOrder_31 {Φ : ev_P} {d : Nat} (hd : 3 ≤ d) {v0 : Int} (hK0 : kd v0 = 4) : ∀ n : Nat, ∀ (v1 : Int) (h1 : InR v1) (g : gH) (hg : HR g) (u2 : Option ev_V) (w2 : nwo u2), Go Φ pr_P fN 3 (lS_takeOrder_31 v0 n v1 g) d pr_m252 31 [some (sR v0), some (sI v1), u2] [] g 0 0 := by
  intro n
  induction n with
  | zero => intros; exact go_none
  | succ n ih => exact tbS_takeOrder_31 hd hK0 ih
theorem tfS_takeOrder {Φ : ev_P} {d : Nat} (hd : 3 ≤ d) {g : gH} (hg : HR g) {v0 : Int} (hK0 : kd v0 = 4) : Go Φ pr_P fN 3 (fS_takeOrder g v0) d (pr_P 252) 0 (ev_loc (pr_P 252).1 [(sR v0)]) [] g 0 0 := by
  show Go Φ pr_P fN 3 (fS_takeOrder g v0) d pr_m252 0 [some (sR v0), none, none] [] g 0 0
  unfold fS_takeOrder
  refine go_aload kk252_0.1.1.1.1.1.1 rfl ?_
  refine go_getB (bI := 8) kk252_0.1.1.1.1.1.2 hg hK0 (by decide) rfl rfl (fun r1 => ?_)
  refine go_ifeq kk252_0.1.1.1.1.2 (inR_b r1) (fun c2 => ?_) (fun c3 => ?_)
  · refine go_aload kk252_0.1.1.2.2.1 rfl ?_
    refine go_int kk252_0.1.1.2.2.2 1 rfl ?_
    refine go_putB (bI := 8) kk252_0.1.2.1.1.1.1 hg hK0 (by decide) rfl rfl (Or.inr rfl) (fun g4 e5 => ?_)
    refine go_aload kk252_0.1.2.1.1.1.2 rfl ?_
    refine go_getR (bI := 1) kk252_0.1.2.1.1.2 e5 hK0 (by decide) rfl rfl (fun r6 => ?_)
    refine go_ck (fun q7 => ?_)
    refine go_callN0 kk252_0.1.2.1.2.1 rfl rfl rfl ⟨by decide, _, rfl, q7⟩ ⟨Nat.zero_le _, Nat.zero_le _⟩ (by omega) (tfT_clearRules (by omega) e5 q7 ) (fun y8 g10 e11 => ?_)
    refine go_aload kk252_0.1.2.1.2.2 rfl ?_
    refine go_callN0 kk252_0.1.2.2.1.1 rfl rfl rfl ⟨by decide, _, rfl, hK0⟩ ⟨Nat.zero_le _, Nat.zero_le _⟩ (by omega) (tfS_advance (by omega) e11 hK0 ) (fun y12 g14 e15 => ?_)
    refine go_int kk252_0.1.2.2.1.2 0 rfl ?_
    refine go_istore kk252_0.1.2.2.2.1 rfl (loc2 := [some (sR v0), some (sI 0), none]) rfl ?_
    exact tlS_takeOrder_31 hd hK0 fu 0 (inR_b (Or.inl rfl)) g14 e15 none rfl
  · refine go_aload kk252_0.1.1.1.2.1 rfl ?_
    refine go_int kk252_0.1.1.1.2.2 3 rfl ?_
    refine go_callN3 kk252_0.1.1.2.1.1 rfl rfl rfl ⟨by decide, _, rfl, hK0⟩ ⟨Nat.zero_le _, Nat.zero_le _⟩ (by omega) (tfS_fail (by omega) hg hK0  (inR_of (by decide))) (fun y16 g18 r17 e19 => ?_)
    exact go_bret kk252_0.1.1.2.1.2 e19 r17 ⟨Nat.zero_le _, Nat.zero_le _⟩ rfl
theorem tjS_takeNumber_34 {Φ : ev_P} {d : Nat} (hd : 2 ≤ d) {g : gH} (hg : HR g) {v0 : Int} (hK0 : kd v0 = 4) (u1 : Option ev_V) (w1 : nwo u1) (u2 : Option ev_V) (w2 : nwo u2) : Go Φ pr_P fN 3 (jS_takeNumber_34 g v0 ) d pr_m262 34 [some (sR v0), u1, u2] [] g 0 0 := by
  unfold jS_takeNumber_34
  refine go_aload kk262_0.2.1.2.1.2 rfl ?_
  refine go_int kk262_0.2.1.2.2 2 rfl ?_
  refine go_callN3 kk262_0.2.2.1.1.1 rfl rfl rfl ⟨by decide, _, rfl, hK0⟩ ⟨Nat.zero_le _, Nat.zero_le _⟩ (by omega) (tfS_fail (by omega) hg hK0  (inR_of (by decide))) (fun y18 g20 r19 e21 => ?_)
  refine go_ifeq kk262_0.2.2.1.1.2 (inR_b r19) (fun c22 => ?_) (fun c23 => ?_)
  · refine go_int kk262_0.2.2.2.1.2 0 rfl ?_
    exact go_bret kk262_0.2.2.2.2 e21 (Or.inl rfl) ⟨Nat.zero_le _, Nat.zero_le _⟩ rfl
  · refine go_int kk262_0.2.2.1.2 1 rfl ?_
    refine go_goto kk262_0.2.2.2.1.1 ?_
    exact go_bret kk262_0.2.2.2.2 e21 (Or.inr rfl) ⟨Nat.zero_le _, Nat.zero_le _⟩ rfl
theorem tfS_takeNumber {Φ : ev_P} {d : Nat} (hd : 2 ≤ d) {g : gH} (hg : HR g) {v0 v1 v2 : Int} (hK0 : kd v0 = 4) (h1 : InR v1) (h2 : InR v2) : Go Φ pr_P fN 3 (fS_takeNumber g v0 v1 v2) d (pr_P 262) 0 (ev_loc (pr_P 262).1 [(sR v0), (sI v1), (sI v2)]) [] g 0 0 := by
  show Go Φ pr_P fN 3 (fS_takeNumber g v0 v1 v2) d pr_m262 0 [some (sR v0), some (sI v1), some (sI v2)] [] g 0 0
  unfold fS_takeNumber
  refine go_aload kk262_0.1.1.1.1.1 rfl ?_
  refine go_callN0 kk262_0.1.1.1.1.2 rfl rfl rfl ⟨by decide, _, rfl, hK0⟩ ⟨Nat.zero_le _, Nat.zero_le _⟩ (by omega) (tfS_advance (by omega) hg hK0 ) (fun y1 g3 e4 => ?_)
  refine go_aload kk262_0.1.1.1.2.1 rfl ?_
  refine go_getI (bI := 4) kk262_0.1.1.1.2.2 e4 hK0 (by decide) rfl rfl (fun r5 => ?_)
  refine go_int kk262_0.1.1.2.1.1 2 rfl ?_
  refine go_cmeq kk262_0.1.1.2.1.2 r5 (inR_of (by decide)) (fun c6 => ?_) (fun c7 => ?_)
  · refine go_aload kk262_0.1.2.2.1.1 rfl ?_
    refine go_getI (bI := 7) kk262_0.1.2.2.1.2 e4 hK0 (by decide) rfl rfl (fun r8 => ?_)
    refine go_iload kk262_0.1.2.2.2 rfl ?_
    refine go_cmlt kk262_0.2.1.1.1.1 r8 h1 (fun c9 => ?_) (fun c10 => ?_)
    · exact tjS_takeNumber_34 hd e4 hK0 (some (sI v1)) rfl (some (sI v2)) rfl
    · refine go_aload kk262_0.2.1.1.1.2 rfl ?_
      refine go_getI (bI := 7) kk262_0.2.1.1.2.1 e4 hK0 (by decide) rfl rfl (fun r11 => ?_)
      refine go_iload kk262_0.2.1.1.2.2 rfl ?_
      refine go_cmgt kk262_0.2.1.2.1.1 r11 h2 (fun c12 => ?_) (fun c13 => ?_)
      · exact tjS_takeNumber_34 hd e4 hK0 (some (sI v1)) rfl (some (sI v2)) rfl
      · refine go_int kk262_0.2.2.1.2 1 rfl ?_
        refine go_goto kk262_0.2.2.2.1.1 ?_
        exact go_bret kk262_0.2.2.2.2 e4 (Or.inr rfl) ⟨Nat.zero_le _, Nat.zero_le _⟩ rfl
  · refine go_aload kk262_0.1.1.2.2 rfl ?_
    refine go_int kk262_0.1.2.1.1.1 1 rfl ?_
    refine go_callN3 kk262_0.1.2.1.1.2 rfl rfl rfl ⟨by decide, _, rfl, hK0⟩ ⟨Nat.zero_le _, Nat.zero_le _⟩ (by omega) (tfS_fail (by omega) e4 hK0  (inR_b (Or.inr rfl))) (fun y14 g16 r15 e17 => ?_)
    exact go_bret kk262_0.1.2.1.2 e17 r15 ⟨Nat.zero_le _, Nat.zero_le _⟩ rfl
theorem tfS_takeSemicolon {Φ : ev_P} {d : Nat} (hd : 2 ≤ d) {g : gH} (hg : HR g) {v0 : Int} (hK0 : kd v0 = 4) : Go Φ pr_P fN 3 (fS_takeSemicolon g v0) d (pr_P 263) 0 (ev_loc (pr_P 263).1 [(sR v0)]) [] g 0 0 := by
  show Go Φ pr_P fN 3 (fS_takeSemicolon g v0) d pr_m263 0 [some (sR v0)] [] g 0 0
  unfold fS_takeSemicolon
  refine go_aload kk263_0.1.1.1.1 rfl ?_
  refine go_callN0 kk263_0.1.1.1.2 rfl rfl rfl ⟨by decide, _, rfl, hK0⟩ ⟨Nat.zero_le _, Nat.zero_le _⟩ (by omega) (tfS_advance (by omega) hg hK0 ) (fun y1 g3 e4 => ?_)
  refine go_aload kk263_0.1.1.2.1 rfl ?_
  refine go_getI (bI := 4) kk263_0.1.1.2.2 e4 hK0 (by decide) rfl rfl (fun r5 => ?_)
  refine go_int kk263_0.1.2.1.1 3 rfl ?_
  refine go_cmeq kk263_0.1.2.1.2 r5 (inR_of (by decide)) (fun c6 => ?_) (fun c7 => ?_)
  · refine go_int kk263_0.2.1.2.2 1 rfl ?_
    refine go_goto kk263_0.2.2.1.1 ?_
    exact go_bret kk263_0.2.2.2 e4 (Or.inr rfl) ⟨Nat.zero_le _, Nat.zero_le _⟩ rfl
  · refine go_aload kk263_0.1.2.2 rfl ?_
    refine go_int kk263_0.2.1.1.1 1 rfl ?_
    refine go_callN3 kk263_0.2.1.1.2 rfl rfl rfl ⟨by decide, _, rfl, hK0⟩ ⟨Nat.zero_le _, Nat.zero_le _⟩ (by omega) (tfS_fail (by omega) e4 hK0  (inR_b (Or.inr rfl))) (fun y8 g10 r9 e11 => ?_)
    refine go_ifeq kk263_0.2.1.2.1 (inR_b r9) (fun c12 => ?_) (fun c13 => ?_)
    · refine go_int kk263_0.2.2.1.2 0 rfl ?_
      exact go_bret kk263_0.2.2.2 e11 (Or.inl rfl) ⟨Nat.zero_le _, Nat.zero_le _⟩ rfl
    · refine go_int kk263_0.2.1.2.2 1 rfl ?_
      refine go_goto kk263_0.2.2.1.1 ?_
      exact go_bret kk263_0.2.2.2 e11 (Or.inr rfl) ⟨Nat.zero_le _, Nat.zero_le _⟩ rfl
theorem tfS_takeDeep {Φ : ev_P} {d : Nat} (hd : 3 ≤ d) {g : gH} (hg : HR g) {v0 : Int} (hK0 : kd v0 = 4) : Go Φ pr_P fN 3 (fS_takeDeep g v0) d (pr_P 254) 0 (ev_loc (pr_P 254).1 [(sR v0)]) [] g 0 0 := by
  show Go Φ pr_P fN 3 (fS_takeDeep g v0) d pr_m254 0 [some (sR v0)] [] g 0 0
  unfold fS_takeDeep
  refine go_aload kk254_0.1.1.1.1.1 rfl ?_
  refine go_getB (bI := 9) kk254_0.1.1.1.1.2 hg hK0 (by decide) rfl rfl (fun r1 => ?_)
  refine go_ifeq kk254_0.1.1.1.2.1 (inR_b r1) (fun c2 => ?_) (fun c3 => ?_)
  · refine go_aload kk254_0.1.2.1.1.1 rfl ?_
    refine go_int kk254_0.1.2.1.1.2 1 rfl ?_
    refine go_putB (bI := 9) kk254_0.1.2.1.2 hg hK0 (by decide) rfl rfl (Or.inr rfl) (fun g4 e5 => ?_)
    refine go_aload kk254_0.1.2.2.1.1 rfl ?_
    refine go_int kk254_0.1.2.2.1.2 1 rfl ?_
    refine go_int kk254_0.1.2.2.2 20 rfl ?_
    refine go_callN3 kk254_0.2.1.1.1.1 rfl rfl rfl ⟨by decide, _, rfl, hK0⟩ ⟨Nat.zero_le _, Nat.zero_le _⟩ (by omega) (tfS_takeNumber (by omega) e5 hK0  (inR_b (Or.inr rfl)) (inR_of (by decide))) (fun y6 g8 r7 e9 => ?_)
    refine go_ifeq kk254_0.2.1.1.1.2 (inR_b r7) (fun c10 => ?_) (fun c11 => ?_)
    · refine go_int kk254_0.2.1.1.2 0 rfl ?_
      exact go_bret kk254_0.2.1.2.1.1 e9 (Or.inl rfl) ⟨Nat.zero_le _, Nat.zero_le _⟩ rfl
    · refine go_aload kk254_0.2.1.2.1.2 rfl ?_
      refine go_getR (bI := 1) kk254_0.2.1.2.2 e9 hK0 (by decide) rfl rfl (fun r12 => ?_)
      refine go_aload kk254_0.2.2.1.1.1 rfl ?_
      refine go_getI (bI := 7) kk254_0.2.2.1.1.2 e9 hK0 (by decide) rfl rfl (fun r13 => ?_)
      refine go_ck (fun q14 => ?_)
      refine go_putI (bI := 4) kk254_0.2.2.1.2 e9 q14 (by decide) rfl rfl r13 (fun g15 e16 => ?_)
      refine go_aload kk254_0.2.2.2.1.1 rfl ?_
      refine go_callN3 kk254_0.2.2.2.1.2 rfl rfl rfl ⟨by decide, _, rfl, hK0⟩ ⟨Nat.zero_le _, Nat.zero_le _⟩ (by omega) (tfS_takeSemicolon (by omega) e16 hK0 ) (fun y17 g19 r18 e20 => ?_)
      exact go_bret kk254_0.2.2.2.2 e20 r18 ⟨Nat.zero_le _, Nat.zero_le _⟩ rfl
  · refine go_aload kk254_0.1.1.1.2.2 rfl ?_
    refine go_int kk254_0.1.1.2.1.1 3 rfl ?_
    refine go_callN3 kk254_0.1.1.2.1.2 rfl rfl rfl ⟨by decide, _, rfl, hK0⟩ ⟨Nat.zero_le _, Nat.zero_le _⟩ (by omega) (tfS_fail (by omega) hg hK0  (inR_of (by decide))) (fun y21 g23 r22 e24 => ?_)
    exact go_bret kk254_0.1.1.2.2 e24 r22 ⟨Nat.zero_le _, Nat.zero_le _⟩ rfl
theorem tfS_takeRoot {Φ : ev_P} {d : Nat} (hd : 3 ≤ d) {g : gH} (hg : HR g) {v0 : Int} (hK0 : kd v0 = 4) : Go Φ pr_P fN 3 (fS_takeRoot g v0) d (pr_P 255) 0 (ev_loc (pr_P 255).1 [(sR v0)]) [] g 0 0 := by
  show Go Φ pr_P fN 3 (fS_takeRoot g v0) d pr_m255 0 [some (sR v0)] [] g 0 0
  unfold fS_takeRoot
  refine go_aload kk255_0.1.1.1.1.1.1 rfl ?_
  refine go_getB (bI := 10) kk255_0.1.1.1.1.1.2 hg hK0 (by decide) rfl rfl (fun r1 => ?_)
  refine go_ifeq kk255_0.1.1.1.1.2 (inR_b r1) (fun c2 => ?_) (fun c3 => ?_)
  · refine go_aload kk255_0.1.1.2.1.2 rfl ?_
    refine go_int kk255_0.1.1.2.2.1 1 rfl ?_
    refine go_putB (bI := 10) kk255_0.1.1.2.2.2 hg hK0 (by decide) rfl rfl (Or.inr rfl) (fun g4 e5 => ?_)
    refine go_aload kk255_0.1.2.1.1.1.1 rfl ?_
    refine go_int kk255_0.1.2.1.1.1.2 0 rfl ?_
    refine go_int kk255_0.1.2.1.1.2 9 rfl ?_
    refine go_callN3 kk255_0.1.2.1.2.1 rfl rfl rfl ⟨by decide, _, rfl, hK0⟩ ⟨Nat.zero_le _, Nat.zero_le _⟩ (by omega) (tfS_takeNumber (by omega) e5 hK0  (inR_b (Or.inl rfl)) (inR_of (by decide))) (fun y6 g8 r7 e9 => ?_)
    refine go_ifeq kk255_0.1.2.1.2.2 (inR_b r7) (fun c10 => ?_) (fun c11 => ?_)
    · refine go_int kk255_0.1.2.2.1.1.1 0 rfl ?_
      exact go_bret kk255_0.1.2.2.1.1.2 e9 (Or.inl rfl) ⟨Nat.zero_le _, Nat.zero_le _⟩ rfl
    · refine go_aload kk255_0.1.2.2.1.2 rfl ?_
      refine go_getR (bI := 1) kk255_0.1.2.2.2.1 e9 hK0 (by decide) rfl rfl (fun r12 => ?_)
      refine go_ck (fun q13 => ?_)
      refine go_getR (bI := 0) kk255_0.1.2.2.2.2 e9 q13 (by decide) rfl rfl (fun r14 => ?_)
      refine go_aload kk255_0.2.1.1.1.1.1 rfl ?_
      refine go_getI (bI := 7) kk255_0.2.1.1.1.1.2 e9 hK0 (by decide) rfl rfl (fun r15 => ?_)
      refine go_ck (fun q16 => ?_)
      refine go_putI (bI := 4) kk255_0.2.1.1.1.2 e9 q16 (by decide) rfl rfl r15 (fun g17 e18 => ?_)
      refine go_aload kk255_0.2.1.1.2.1 rfl ?_
      refine go_int kk255_0.2.1.1.2.2 0 rfl ?_
      refine go_int kk255_0.2.1.2.1.1.1 9 rfl ?_
      refine go_callN3 kk255_0.2.1.2.1.1.2 rfl rfl rfl ⟨by decide, _, rfl, hK0⟩ ⟨Nat.zero_le _, Nat.zero_le _⟩ (by omega) (tfS_takeNumber (by omega) e18 hK0  (inR_b (Or.inl rfl)) (inR_of (by decide))) (fun y19 g21 r20 e22 => ?_)
      refine go_ifeq kk255_0.2.1.2.1.2 (inR_b r20) (fun c23 => ?_) (fun c24 => ?_)
      · refine go_int kk255_0.2.1.2.2.1 0 rfl ?_
        exact go_bret kk255_0.2.1.2.2.2 e22 (Or.inl rfl) ⟨Nat.zero_le _, Nat.zero_le _⟩ rfl
      · refine go_aload kk255_0.2.2.1.1.1.1 rfl ?_
        refine go_getR (bI := 1) kk255_0.2.2.1.1.1.2 e22 hK0 (by decide) rfl rfl (fun r25 => ?_)
        refine go_ck (fun q26 => ?_)
        refine go_getR (bI := 0) kk255_0.2.2.1.1.2 e22 q26 (by decide) rfl rfl (fun r27 => ?_)
        refine go_aload kk255_0.2.2.1.2.1 rfl ?_
        refine go_getI (bI := 7) kk255_0.2.2.1.2.2 e22 hK0 (by decide) rfl rfl (fun r28 => ?_)
        refine go_ck (fun q29 => ?_)
        refine go_putI (bI := 6) kk255_0.2.2.2.1.1 e22 q29 (by decide) rfl rfl r28 (fun g30 e31 => ?_)
        refine go_aload kk255_0.2.2.2.1.2 rfl ?_
        refine go_callN3 kk255_0.2.2.2.2.1 rfl rfl rfl ⟨by decide, _, rfl, hK0⟩ ⟨Nat.zero_le _, Nat.zero_le _⟩ (by omega) (tfS_takeSemicolon (by omega) e31 hK0 ) (fun y32 g34 r33 e35 => ?_)
        exact go_bret kk255_0.2.2.2.2.2 e35 r33 ⟨Nat.zero_le _, Nat.zero_le _⟩ rfl
  · refine go_aload kk255_0.1.1.1.2.1 rfl ?_
    refine go_int kk255_0.1.1.1.2.2 3 rfl ?_
    refine go_callN3 kk255_0.1.1.2.1.1.1 rfl rfl rfl ⟨by decide, _, rfl, hK0⟩ ⟨Nat.zero_le _, Nat.zero_le _⟩ (by omega) (tfS_fail (by omega) hg hK0  (inR_of (by decide))) (fun y36 g38 r37 e39 => ?_)
    exact go_bret kk255_0.1.1.2.1.1.2 e39 r37 ⟨Nat.zero_le _, Nat.zero_le _⟩ rfl
theorem tfP_room {Φ : ev_P} {d : Nat} (hd : 0 ≤ d) {g : gH} (hg : HR g) {v0 : Int} (hK0 : kd v0 = 3) : Go Φ pr_P (fP g) 1 (fP_room g v0) d (pr_P 242) 0 (ev_loc (pr_P 242).1 [(sR v0)]) [] g 0 0 := by
  show Go Φ pr_P (fP g) 1 (fP_room g v0) d pr_m242 0 [some (sR v0)] [] g 0 0
  unfold fP_room
  refine go_aload kk242_0.1.1.1.1 rfl ?_
  refine go_getI (bI := 1) kk242_0.1.1.1.2 hg hK0 (by decide) rfl rfl (fun r1 => ?_)
  refine go_ifeq kk242_0.1.1.2.1 r1 (fun c2 => ?_) (fun c3 => ?_)
  · refine go_aload kk242_0.1.1.2.2 rfl ?_
    refine go_getI (bI := 4) kk242_0.1.2.1.1 hg hK0 (by decide) rfl rfl (fun r4 => ?_)
    refine go_aload kk242_0.1.2.1.2 rfl ?_
    refine go_getI (bI := 3) kk242_0.1.2.2.1 hg hK0 (by decide) rfl rfl (fun r5 => ?_)
    refine go_cmgt kk242_0.1.2.2.2 r4 r5 (fun c6 => ?_) (fun c7 => ?_)
    · refine go_aload kk242_0.2.1.1.1 rfl ?_
      refine go_getI (bI := 4) kk242_0.2.1.1.2 hg hK0 (by decide) rfl rfl (fun r8 => ?_)
      refine go_aload kk242_0.2.1.2.1 rfl ?_
      refine go_getI (bI := 3) kk242_0.2.1.2.2 hg hK0 (by decide) rfl rfl (fun r9 => ?_)
      refine go_isub kk242_0.2.2.1.1 ?_
      refine go_goto kk242_0.2.2.1.2 ?_
      exact go_iret kk242_0.2.2.2.2 hg (inR_w32 _) ⟨Nat.zero_le _, Nat.zero_le _⟩ rfl
    · refine go_int kk242_0.2.2.2.1 0 rfl ?_
      exact go_iret kk242_0.2.2.2.2 hg (inR_b (Or.inl rfl)) ⟨Nat.zero_le _, Nat.zero_le _⟩ rfl
  · refine go_int kk242_0.2.2.2.1 0 rfl ?_
    exact go_iret kk242_0.2.2.2.2 hg (inR_b (Or.inl rfl)) ⟨Nat.zero_le _, Nat.zero_le _⟩ rfl
theorem tfT_at {Φ : ev_P} {d : Nat} (hd : 0 ≤ d) {g : gH} (hg : HR g) {v0 v1 : Int} (hK0 : kd v0 = 5) (h1 : InR v1) : Go Φ pr_P (fP g) 2 (fT_at g v0 v1) d (pr_P 274) 0 (ev_loc (pr_P 274).1 [(sR v0), (sI v1)]) [] g 0 0 := by
  show Go Φ pr_P (fP g) 2 (fT_at g v0 v1) d pr_m274 0 [some (sR v0), some (sI v1)] [] g 0 0
  unfold fT_at
  refine go_iload kk274_0.1.1.1.1 rfl ?_
  refine go_iflt kk274_0.1.1.1.2 h1 (fun c1 => ?_) (fun c2 => ?_)
  · refine go_null kk274_0.2.1.1.2 ?_
    refine go_goto kk274_0.2.1.2.1 ?_
    exact go_aret kk274_0.2.2.2.2 hg rfR_null ⟨Nat.zero_le _, Nat.zero_le _⟩ rfl
  · refine go_iload kk274_0.1.1.2.1 rfl ?_
    refine go_aload kk274_0.1.1.2.2 rfl ?_
    refine go_getI (bI := 5) kk274_0.1.2.1.1 hg hK0 (by decide) rfl rfl (fun r3 => ?_)
    refine go_cmlt kk274_0.1.2.1.2 h1 r3 (fun c4 => ?_) (fun c5 => ?_)
    · refine go_iload kk274_0.1.2.2.1 rfl ?_
      refine go_int kk274_0.1.2.2.2 40 rfl ?_
      refine go_cmlt kk274_0.2.1.1.1 h1 (inR_of (by decide)) (fun c6 => ?_) (fun c7 => ?_)
      · refine go_aload kk274_0.2.1.2.2 rfl ?_
        refine go_getR (bI := 1) kk274_0.2.2.1.1 hg hK0 (by decide) rfl rfl (fun r8 => ?_)
        refine go_iload kk274_0.2.2.1.2 rfl ?_
        refine go_ck (fun q10 => ?_)
        refine go_pald kk274_0.2.2.2.1 hg q10 (fun r9 => ?_)
        exact go_aret kk274_0.2.2.2.2 hg r9 ⟨Nat.zero_le _, Nat.zero_le _⟩ rfl
      · refine go_null kk274_0.2.1.1.2 ?_
        refine go_goto kk274_0.2.1.2.1 ?_
        exact go_aret kk274_0.2.2.2.2 hg rfR_null ⟨Nat.zero_le _, Nat.zero_le _⟩ rfl
    · refine go_null kk274_0.2.1.1.2 ?_
      refine go_goto kk274_0.2.1.2.1 ?_
      exact go_aret kk274_0.2.2.2.2 hg rfR_null ⟨Nat.zero_le _, Nat.zero_le _⟩ rfl
theorem tfS_takeNamed {Φ : ev_P} {d : Nat} (hd : 3 ≤ d) {g : gH} (hg : HR g) {v0 v1 : Int} (hK0 : kd v0 = 4) (h1 : InR v1) : Go Φ pr_P fN 2 (fS_takeNamed g v0 v1) d (pr_P 261) 0 (ev_loc (pr_P 261).1 [(sR v0), (sI v1)]) [] g 0 0 := by
  show Go Φ pr_P fN 2 (fS_takeNamed g v0 v1) d pr_m261 0 [some (sR v0), some (sI v1)] [] g 0 0
  unfold fS_takeNamed
  refine go_aload kk261_0.1.1.1.1.1 rfl ?_
  refine go_iload kk261_0.1.1.1.1.2 rfl ?_
  refine go_aload kk261_0.1.1.1.2 rfl ?_
  refine go_getR (bI := 1) kk261_0.1.1.2.1 hg hK0 (by decide) rfl rfl (fun r1 => ?_)
  refine go_ck (fun q2 => ?_)
  refine go_getI (bI := 5) kk261_0.1.1.2.2 hg q2 (by decide) rfl rfl (fun r3 => ?_)
  refine go_int kk261_0.1.2.1.1 1 rfl ?_
  refine go_isub kk261_0.1.2.1.2 ?_
  refine go_callN3 kk261_0.1.2.2.1 rfl rfl rfl ⟨by decide, _, rfl, hK0⟩ ⟨Nat.zero_le _, Nat.zero_le _⟩ (by omega) (tfS_takeNumber (by omega) hg hK0  h1 (inR_w32 _)) (fun y4 g6 r5 e7 => ?_)
  refine go_ifeq kk261_0.1.2.2.2 (inR_b r5) (fun c8 => ?_) (fun c9 => ?_)
  · refine go_null kk261_0.2.2.2.1 ?_
    exact go_aret kk261_0.2.2.2.2 e7 rfR_null ⟨Nat.zero_le _, Nat.zero_le _⟩ rfl
  · refine go_aload kk261_0.2.1.1.1 rfl ?_
    refine go_getR (bI := 1) kk261_0.2.1.1.2 e7 hK0 (by decide) rfl rfl (fun r10 => ?_)
    refine go_aload kk261_0.2.1.2.1 rfl ?_
    refine go_getI (bI := 7) kk261_0.2.1.2.2 e7 hK0 (by decide) rfl rfl (fun r11 => ?_)
    refine go_ck (fun q12 => ?_)
    refine go_callP2 kk261_0.2.2.1.1 rfl rfl rfl ⟨by decide, _, rfl, q12⟩ ⟨Nat.zero_le _, Nat.zero_le _⟩ (by omega) (tfT_at (by omega) e7 q12  r11) (fun y13 r14 => ?_)
    refine go_goto kk261_0.2.2.1.2 ?_
    exact go_aret kk261_0.2.2.2.2 e7 r14 ⟨Nat.zero_le _, Nat.zero_le _⟩ rfl
theorem tfP_putUnder {Φ : ev_P} {d : Nat} (hd : 0 ≤ d) {g : gH} (hg : HR g) {v0 v1 : Int} (hK0 : kd v0 = 3) (h1 : RfR v1) : Go Φ pr_P fN 0 (fP_putUnder g v0 v1) d (pr_P 245) 0 (ev_loc (pr_P 245).1 [(sR v0), (sR v1)]) [] g 0 0 := by
  show Go Φ pr_P fN 0 (fP_putUnder g v0 v1) d pr_m245 0 [some (sR v0), some (sR v1)] [] g 0 0
  unfold fP_putUnder
  refine go_aload kk245_0.1.1.1.1.1 rfl ?_
  refine go_getR (bI := 2) kk245_0.1.1.1.1.2 hg hK0 (by decide) rfl rfl (fun r1 => ?_)
  refine go_isnull kk245_0.1.1.1.2  (fun c2 => ?_) (fun c3 => ?_)
  · refine go_aload kk245_0.2.1.1.1.1 rfl ?_
    refine go_aload kk245_0.2.1.1.1.2 rfl ?_
    refine go_putR (bI := 2) kk245_0.2.1.1.2 hg hK0 (by decide) rfl rfl h1 (fun g4 e5 => ?_)
    refine go_aload kk245_0.2.1.2.1 rfl ?_
    refine go_dupR kk245_0.2.1.2.2 ?_
    refine go_ck (fun q6 => ?_)
    refine go_getI (bI := 3) kk245_0.2.2.1.1.1 e5 q6 (by decide) rfl rfl (fun r7 => ?_)
    refine go_int kk245_0.2.2.1.1.2 1 rfl ?_
    refine go_iadd kk245_0.2.2.1.2 ?_
    refine go_putI (bI := 3) kk245_0.2.2.2.1 e5 q6 (by decide) rfl rfl (inR_w32 _) (fun g8 e9 => ?_)
    exact go_vret kk245_0.2.2.2.2 e9 ⟨Nat.zero_le _, Nat.zero_le _⟩ rfl
  · refine go_aload kk245_0.1.1.2.1 rfl ?_
    refine go_getR (bI := 2) kk245_0.1.1.2.2 hg hK0 (by decide) rfl rfl (fun r10 => ?_)
    refine go_dupR kk245_0.1.2.1.1.1 ?_
    refine go_ck (fun q11 => ?_)
    refine go_getI (bI := 3) kk245_0.1.2.1.1.2 hg q11 (by decide) rfl rfl (fun r12 => ?_)
    refine go_int kk245_0.1.2.1.2 1 rfl ?_
    refine go_isub kk245_0.1.2.2.1 ?_
    refine go_putI (bI := 3) kk245_0.1.2.2.2 hg q11 (by decide) rfl rfl (inR_w32 _) (fun g13 e14 => ?_)
    refine go_aload kk245_0.2.1.1.1.1 rfl ?_
    refine go_aload kk245_0.2.1.1.1.2 rfl ?_
    refine go_putR (bI := 2) kk245_0.2.1.1.2 e14 hK0 (by decide) rfl rfl h1 (fun g15 e16 => ?_)
    refine go_aload kk245_0.2.1.2.1 rfl ?_
    refine go_dupR kk245_0.2.1.2.2 ?_
    refine go_ck (fun q17 => ?_)
    refine go_getI (bI := 3) kk245_0.2.2.1.1.1 e16 q17 (by decide) rfl rfl (fun r18 => ?_)
    refine go_int kk245_0.2.2.1.1.2 1 rfl ?_
    refine go_iadd kk245_0.2.2.1.2 ?_
    refine go_putI (bI := 3) kk245_0.2.2.2.1 e16 q17 (by decide) rfl rfl (inR_w32 _) (fun g19 e20 => ?_)
    exact go_vret kk245_0.2.2.2.2 e20 ⟨Nat.zero_le _, Nat.zero_le _⟩ rfl
theorem tfT_arrive {Φ : ev_P} {d : Nat} (hd : 1 ≤ d) {g : gH} (hg : HR g) {v0 v1 v2 v3 v4 : Int} (hK0 : kd v0 = 5) (h1 : RfR v1) (h2 : InR v2) (h3 : InR v3) (h4 : InR v4) : Go Φ pr_P fN 2 (fT_arrive g v0 v1 v2 v3 v4) d (pr_P 286) 0 (ev_loc (pr_P 286).1 [(sR v0), (sR v1), (sI v2), (sI v3), (sI v4)]) [] g 0 0 := by
  show Go Φ pr_P fN 2 (fT_arrive g v0 v1 v2 v3 v4) d pr_m286 0 [some (sR v0), some (sR v1), some (sI v2), some (sI v3), some (sI v4), none] [] g 0 0
  unfold fT_arrive
  refine go_aload kk286_0.1.1.1.1.1 rfl ?_
  refine go_getI (bI := 5) kk286_0.1.1.1.1.2 hg hK0 (by decide) rfl rfl (fun r1 => ?_)
  refine go_iflt kk286_0.1.1.1.2.1 r1 (fun c2 => ?_) (fun c3 => ?_)
  · refine go_null kk286_0.1.1.2.2.2 ?_
    exact go_aret kk286_0.1.2.1.1.1 hg rfR_null ⟨Nat.zero_le _, Nat.zero_le _⟩ rfl
  · refine go_aload kk286_0.1.1.1.2.2 rfl ?_
    refine go_getI (bI := 5) kk286_0.1.1.2.1.1 hg hK0 (by decide) rfl rfl (fun r4 => ?_)
    refine go_int kk286_0.1.1.2.1.2 40 rfl ?_
    refine go_cmlt kk286_0.1.1.2.2.1 r4 (inR_of (by decide)) (fun c5 => ?_) (fun c6 => ?_)
    · refine go_aload kk286_0.1.2.1.1.2 rfl ?_
      refine go_getR (bI := 1) kk286_0.1.2.1.2.1 hg hK0 (by decide) rfl rfl (fun r7 => ?_)
      refine go_aload kk286_0.1.2.1.2.2 rfl ?_
      refine go_getI (bI := 5) kk286_0.1.2.2.1.1 hg hK0 (by decide) rfl rfl (fun r8 => ?_)
      refine go_ck (fun q10 => ?_)
      refine go_pald kk286_0.1.2.2.1.2 hg q10 (fun r9 => ?_)
      refine go_astore kk286_0.1.2.2.2.1 rfl (loc2 := [some (sR v0), some (sR v1), some (sI v2), some (sI v3), some (sI v4), some (sR (g (g v0 1) (g v0 5)))]) rfl ?_
      refine go_aload kk286_0.1.2.2.2.2 rfl ?_
      refine go_dupR kk286_0.2.1.1.1.1 ?_
      refine go_getI (bI := 5) kk286_0.2.1.1.1.2 hg hK0 (by decide) rfl rfl (fun r11 => ?_)
      refine go_int kk286_0.2.1.1.2.1 1 rfl ?_
      refine go_iadd kk286_0.2.1.1.2.2 ?_
      refine go_putI (bI := 5) kk286_0.2.1.2.1.1 hg hK0 (by decide) rfl rfl (inR_w32 _) (fun g12 e13 => ?_)
      refine go_aload kk286_0.2.1.2.1.2 rfl ?_
      refine go_int kk286_0.2.1.2.2.1 0 rfl ?_
      refine go_iload kk286_0.2.1.2.2.2 rfl ?_
      refine go_iload kk286_0.2.2.1.1.1 rfl ?_
      refine go_iload kk286_0.2.2.1.1.2 rfl ?_
      refine go_ck (fun q14 => ?_)
      refine go_callN0 kk286_0.2.2.1.2.1 rfl rfl rfl ⟨by decide, _, rfl, q14⟩ ⟨Nat.zero_le _, Nat.zero_le _⟩ (by omega) (tfP_become (by omega) e13 q14  (inR_b (Or.inl rfl)) h2 h3 h4) (fun y15 g17 e18 => ?_)
      refine go_aload kk286_0.2.2.1.2.2 rfl ?_
      refine go_aload kk286_0.2.2.2.1.1 rfl ?_
      refine go_callN0 kk286_0.2.2.2.1.2 rfl rfl rfl ⟨by decide, _, rfl, q14⟩ ⟨Nat.zero_le _, Nat.zero_le _⟩ (by omega) (tfP_putUnder (by omega) e18 q14  h1) (fun y19 g21 e22 => ?_)
      refine go_aload kk286_0.2.2.2.2.1 rfl ?_
      exact go_aret kk286_0.2.2.2.2.2 e22 r9 ⟨Nat.zero_le _, Nat.zero_le _⟩ rfl
    · refine go_null kk286_0.1.1.2.2.2 ?_
      exact go_aret kk286_0.1.2.1.1.1 hg rfR_null ⟨Nat.zero_le _, Nat.zero_le _⟩ rfl
theorem tfS_takeProcess {Φ : ev_P} {d : Nat} (hd : 4 ≤ d) {g : gH} (hg : HR g) {v0 : Int} (hK0 : kd v0 = 4) : Go Φ pr_P fN 3 (fS_takeProcess g v0) d (pr_P 256) 0 (ev_loc (pr_P 256).1 [(sR v0)]) [] g 0 0 := by
  show Go Φ pr_P fN 3 (fS_takeProcess g v0) d pr_m256 0 [some (sR v0), none, none, none] [] g 0 0
  unfold fS_takeProcess
  refine go_aload kk256_0.1.1.1.1.1.1 rfl ?_
  refine go_getR (bI := 1) kk256_0.1.1.1.1.1.2 hg hK0 (by decide) rfl rfl (fun r1 => ?_)
  refine go_ck (fun q2 => ?_)
  refine go_getI (bI := 5) kk256_0.1.1.1.1.2.1 hg q2 (by decide) rfl rfl (fun r3 => ?_)
  refine go_int kk256_0.1.1.1.1.2.2 24 rfl ?_
  refine go_cmgt kk256_0.1.1.1.2.1.1 r3 (inR_of (by decide)) (fun c4 => ?_) (fun c5 => ?_)
  · refine go_aload kk256_0.1.1.1.2.1.2 rfl ?_
    refine go_int kk256_0.1.1.1.2.2.1 4 rfl ?_
    refine go_callN3 kk256_0.1.1.1.2.2.2 rfl rfl rfl ⟨by decide, _, rfl, hK0⟩ ⟨Nat.zero_le _, Nat.zero_le _⟩ (by omega) (tfS_fail (by omega) hg hK0  (inR_of (by decide))) (fun y6 g8 r7 e9 => ?_)
    exact go_bret kk256_0.1.1.2.1.1.1 e9 r7 ⟨Nat.zero_le _, Nat.zero_le _⟩ rfl
  · refine go_aload kk256_0.1.1.2.1.1.2 rfl ?_
    refine go_int kk256_0.1.1.2.1.2.1 0 rfl ?_
    refine go_callN2 kk256_0.1.1.2.1.2.2 rfl rfl rfl ⟨by decide, _, rfl, hK0⟩ ⟨Nat.zero_le _, Nat.zero_le _⟩ (by omega) (tfS_takeNamed (by omega) hg hK0  (inR_b (Or.inl rfl))) (fun y10 g12 r11 e13 => ?_)
    refine go_astore kk256_0.1.1.2.2.1.1 rfl (loc2 := [some (sR v0), some (sR y10), none, none]) rfl ?_
    refine go_aload kk256_0.1.1.2.2.1.2 rfl ?_
    refine go_isnull kk256_0.1.1.2.2.2.1  (fun c14 => ?_) (fun c15 => ?_)
    · refine go_int kk256_0.1.1.2.2.2.2 0 rfl ?_
      exact go_bret kk256_0.1.2.1.1.1.1 e13 (Or.inl rfl) ⟨Nat.zero_le _, Nat.zero_le _⟩ rfl
    · refine go_aload kk256_0.1.2.1.1.1.2 rfl ?_
      refine go_ck (fun q16 => ?_)
      refine go_callP1 kk256_0.1.2.1.1.2.1 rfl rfl rfl ⟨by decide, _, rfl, q16⟩ ⟨Nat.zero_le _, Nat.zero_le _⟩ (by omega) (tfP_room (by omega) e13 q16 ) (fun y17 r18 => ?_)
      refine go_ifeq kk256_0.1.2.1.1.2.2 r18 (fun c21 => ?_) (fun c22 => ?_)
      · refine go_aload kk256_0.1.2.1.2.1.1 rfl ?_
        refine go_int kk256_0.1.2.1.2.1.2 2 rfl ?_
        refine go_callN3 kk256_0.1.2.1.2.2.1 rfl rfl rfl ⟨by decide, _, rfl, hK0⟩ ⟨Nat.zero_le _, Nat.zero_le _⟩ (by omega) (tfS_fail (by omega) e13 hK0  (inR_of (by decide))) (fun y23 g25 r24 e26 => ?_)
        exact go_bret kk256_0.1.2.1.2.2.2 e26 r24 ⟨Nat.zero_le _, Nat.zero_le _⟩ rfl
      · refine go_aload kk256_0.1.2.2.1.1.1 rfl ?_
        refine go_int kk256_0.1.2.2.1.1.2 0 rfl ?_
        refine go_int kk256_0.1.2.2.1.2.1 9 rfl ?_
        refine go_callN3 kk256_0.1.2.2.1.2.2 rfl rfl rfl ⟨by decide, _, rfl, hK0⟩ ⟨Nat.zero_le _, Nat.zero_le _⟩ (by omega) (tfS_takeNumber (by omega) e13 hK0  (inR_b (Or.inl rfl)) (inR_of (by decide))) (fun y27 g29 r28 e30 => ?_)
        refine go_ifeq kk256_0.1.2.2.2.1.1 (inR_b r28) (fun c31 => ?_) (fun c32 => ?_)
        · refine go_int kk256_0.1.2.2.2.1.2 0 rfl ?_
          exact go_bret kk256_0.1.2.2.2.2.1 e30 (Or.inl rfl) ⟨Nat.zero_le _, Nat.zero_le _⟩ rfl
        · refine go_aload kk256_0.1.2.2.2.2.2 rfl ?_
          refine go_getI (bI := 7) kk256_0.2.1.1.1.1.1 e30 hK0 (by decide) rfl rfl (fun r33 => ?_)
          refine go_istore kk256_0.2.1.1.1.1.2 rfl (loc2 := [some (sR v0), some (sR y10), some (sI (g29 v0 7)), none]) rfl ?_
          refine go_aload kk256_0.2.1.1.1.2.1 rfl ?_
          refine go_int kk256_0.2.1.1.1.2.2 0 rfl ?_
          refine go_int kk256_0.2.1.1.2.1.1 9 rfl ?_
          refine go_callN3 kk256_0.2.1.1.2.1.2 rfl rfl rfl ⟨by decide, _, rfl, hK0⟩ ⟨Nat.zero_le _, Nat.zero_le _⟩ (by omega) (tfS_takeNumber (by omega) e30 hK0  (inR_b (Or.inl rfl)) (inR_of (by decide))) (fun y34 g36 r35 e37 => ?_)
          refine go_ifeq kk256_0.2.1.1.2.2.1 (inR_b r35) (fun c38 => ?_) (fun c39 => ?_)
          · refine go_int kk256_0.2.1.1.2.2.2 0 rfl ?_
            exact go_bret kk256_0.2.1.2.1.1.1 e37 (Or.inl rfl) ⟨Nat.zero_le _, Nat.zero_le _⟩ rfl
          · refine go_aload kk256_0.2.1.2.1.1.2 rfl ?_
            refine go_getI (bI := 7) kk256_0.2.1.2.1.2.1 e37 hK0 (by decide) rfl rfl (fun r40 => ?_)
            refine go_istore kk256_0.2.1.2.1.2.2 rfl (loc2 := [some (sR v0), some (sR y10), some (sI (g29 v0 7)), some (sI (g36 v0 7))]) rfl ?_
            refine go_aload kk256_0.2.1.2.2.1.1 rfl ?_
            refine go_int kk256_0.2.1.2.2.1.2 0 rfl ?_
            refine go_int kk256_0.2.1.2.2.2.1 9 rfl ?_
            refine go_callN3 kk256_0.2.1.2.2.2.2 rfl rfl rfl ⟨by decide, _, rfl, hK0⟩ ⟨Nat.zero_le _, Nat.zero_le _⟩ (by omega) (tfS_takeNumber (by omega) e37 hK0  (inR_b (Or.inl rfl)) (inR_of (by decide))) (fun y41 g43 r42 e44 => ?_)
            refine go_ifeq kk256_0.2.2.1.1.1.1 (inR_b r42) (fun c45 => ?_) (fun c46 => ?_)
            · refine go_int kk256_0.2.2.1.1.1.2 0 rfl ?_
              exact go_bret kk256_0.2.2.1.1.2.1 e44 (Or.inl rfl) ⟨Nat.zero_le _, Nat.zero_le _⟩ rfl
            · refine go_aload kk256_0.2.2.1.1.2.2 rfl ?_
              refine go_getR (bI := 1) kk256_0.2.2.1.2.1.1 e44 hK0 (by decide) rfl rfl (fun r47 => ?_)
              refine go_aload kk256_0.2.2.1.2.1.2 rfl ?_
              refine go_iload kk256_0.2.2.1.2.2.1 rfl ?_
              refine go_iload kk256_0.2.2.1.2.2.2 rfl ?_
              refine go_aload kk256_0.2.2.2.1.1.1 rfl ?_
              refine go_getI (bI := 7) kk256_0.2.2.2.1.1.2 e44 hK0 (by decide) rfl rfl (fun r48 => ?_)
              refine go_ck (fun q49 => ?_)
              refine go_callN2 kk256_0.2.2.2.1.2.1 rfl rfl rfl ⟨by decide, _, rfl, q49⟩ ⟨Nat.zero_le _, Nat.zero_le _⟩ (by omega) (tfT_arrive (by omega) e44 q49  r11 r33 r40 r48) (fun y50 g52 r51 e53 => ?_)
              refine go_popR kk256_0.2.2.2.1.2.2 ?_
              refine go_aload kk256_0.2.2.2.2.1.1 rfl ?_
              refine go_callN3 kk256_0.2.2.2.2.1.2 rfl rfl rfl ⟨by decide, _, rfl, hK0⟩ ⟨Nat.zero_le _, Nat.zero_le _⟩ (by omega) (tfS_takeSemicolon (by omega) e53 hK0 ) (fun y54 g56 r55 e57 => ?_)
              exact go_bret kk256_0.2.2.2.2.2 e57 r55 ⟨Nat.zero_le _, Nat.zero_le _⟩ rfl
theorem tfS_takeHeir {Φ : ev_P} {d : Nat} (hd : 4 ≤ d) {g : gH} (hg : HR g) {v0 : Int} (hK0 : kd v0 = 4) : Go Φ pr_P fN 3 (fS_takeHeir g v0) d (pr_P 257) 0 (ev_loc (pr_P 257).1 [(sR v0)]) [] g 0 0 := by
  show Go Φ pr_P fN 3 (fS_takeHeir g v0) d pr_m257 0 [some (sR v0), none, none] [] g 0 0
  unfold fS_takeHeir
  refine go_aload kk257_0.1.1.1.1.1.1 rfl ?_
  refine go_int kk257_0.1.1.1.1.1.2 1 rfl ?_
  refine go_callN2 kk257_0.1.1.1.1.2 rfl rfl rfl ⟨by decide, _, rfl, hK0⟩ ⟨Nat.zero_le _, Nat.zero_le _⟩ (by omega) (tfS_takeNamed (by omega) hg hK0  (inR_b (Or.inr rfl))) (fun y1 g3 r2 e4 => ?_)
  refine go_astore kk257_0.1.1.1.2.1 rfl (loc2 := [some (sR v0), some (sR y1), none]) rfl ?_
  refine go_aload kk257_0.1.1.1.2.2 rfl ?_
  refine go_isnull kk257_0.1.1.2.1.1.1  (fun c5 => ?_) (fun c6 => ?_)
  · refine go_int kk257_0.1.1.2.1.1.2 0 rfl ?_
    exact go_bret kk257_0.1.1.2.1.2 e4 (Or.inl rfl) ⟨Nat.zero_le _, Nat.zero_le _⟩ rfl
  · refine go_aload kk257_0.1.1.2.2.1 rfl ?_
    refine go_ck (fun q7 => ?_)
    refine go_getI (bI := 7) kk257_0.1.1.2.2.2 e4 q7 (by decide) rfl rfl (fun r8 => ?_)
    refine go_int kk257_0.1.2.1.1.1.1 (-1) rfl ?_
    refine go_cmeq kk257_0.1.2.1.1.1.2 r8 (inR_of (by decide)) (fun c9 => ?_) (fun c10 => ?_)
    · refine go_aload kk257_0.1.2.2.1.2 rfl ?_
      refine go_int kk257_0.1.2.2.2.1 0 rfl ?_
      refine go_callN2 kk257_0.1.2.2.2.2 rfl rfl rfl ⟨by decide, _, rfl, hK0⟩ ⟨Nat.zero_le _, Nat.zero_le _⟩ (by omega) (tfS_takeNamed (by omega) e4 hK0  (inR_b (Or.inl rfl))) (fun y11 g13 r12 e14 => ?_)
      refine go_astore kk257_0.2.1.1.1.1.1 rfl (loc2 := [some (sR v0), some (sR y1), some (sR y11)]) rfl ?_
      refine go_aload kk257_0.2.1.1.1.1.2 rfl ?_
      refine go_isnull kk257_0.2.1.1.1.2  (fun c15 => ?_) (fun c16 => ?_)
      · refine go_int kk257_0.2.1.1.2.1 0 rfl ?_
        exact go_bret kk257_0.2.1.1.2.2 e14 (Or.inl rfl) ⟨Nat.zero_le _, Nat.zero_le _⟩ rfl
      · refine go_aload kk257_0.2.1.2.1.1.1 rfl ?_
        refine go_aload kk257_0.2.1.2.1.1.2 rfl ?_
        refine go_acmp kk257_0.2.1.2.1.2 r12 r2 (fun c17 => ?_) (fun c18 => ?_)
        · refine go_aload kk257_0.2.1.2.2.1 rfl ?_
          refine go_int kk257_0.2.1.2.2.2 2 rfl ?_
          refine go_callN3 kk257_0.2.2.1.1.1.1 rfl rfl rfl ⟨by decide, _, rfl, hK0⟩ ⟨Nat.zero_le _, Nat.zero_le _⟩ (by omega) (tfS_fail (by omega) e14 hK0  (inR_of (by decide))) (fun y19 g21 r20 e22 => ?_)
          exact go_bret kk257_0.2.2.1.1.1.2 e22 r20 ⟨Nat.zero_le _, Nat.zero_le _⟩ rfl
        · refine go_aload kk257_0.2.2.1.1.2 rfl ?_
          refine go_aload kk257_0.2.2.1.2.1 rfl ?_
          refine go_ck (fun q23 => ?_)
          refine go_getI (bI := 0) kk257_0.2.2.1.2.2 e14 q23 (by decide) rfl rfl (fun r24 => ?_)
          refine go_putI (bI := 7) kk257_0.2.2.2.1.1 e14 q7 (by decide) rfl rfl r24 (fun g25 e26 => ?_)
          refine go_aload kk257_0.2.2.2.1.2 rfl ?_
          refine go_callN3 kk257_0.2.2.2.2.1 rfl rfl rfl ⟨by decide, _, rfl, hK0⟩ ⟨Nat.zero_le _, Nat.zero_le _⟩ (by omega) (tfS_takeSemicolon (by omega) e26 hK0 ) (fun y27 g29 r28 e30 => ?_)
          exact go_bret kk257_0.2.2.2.2.2 e30 r28 ⟨Nat.zero_le _, Nat.zero_le _⟩ rfl
    · refine go_aload kk257_0.1.2.1.1.2 rfl ?_
      refine go_int kk257_0.1.2.1.2.1 3 rfl ?_
      refine go_callN3 kk257_0.1.2.1.2.2 rfl rfl rfl ⟨by decide, _, rfl, hK0⟩ ⟨Nat.zero_le _, Nat.zero_le _⟩ (by omega) (tfS_fail (by omega) e4 hK0  (inR_of (by decide))) (fun y31 g33 r32 e34 => ?_)
      exact go_bret kk257_0.1.2.2.1.1 e34 r32 ⟨Nat.zero_le _, Nat.zero_le _⟩ rfl
theorem tfT_giveDuty {Φ : ev_P} {d : Nat} (hd : 0 ≤ d) {g : gH} (hg : HR g) {v0 v1 v2 : Int} (hK0 : kd v0 = 5) (h1 : InR v1) (h2 : RfR v2) : Go Φ pr_P fN 0 (fT_giveDuty g v0 v1 v2) d (pr_P 284) 0 (ev_loc (pr_P 284).1 [(sR v0), (sI v1), (sR v2)]) [] g 0 0 := by
  show Go Φ pr_P fN 0 (fT_giveDuty g v0 v1 v2) d pr_m284 0 [some (sR v0), some (sI v1), some (sR v2)] [] g 0 0
  unfold fT_giveDuty
  refine go_iload kk284_0.1.1.1.1 rfl ?_
  refine go_iflt kk284_0.1.1.1.2 h1 (fun c1 => ?_) (fun c2 => ?_)
  · exact go_vret kk284_0.2.2.2 hg ⟨Nat.zero_le _, Nat.zero_le _⟩ rfl
  · refine go_iload kk284_0.1.1.2 rfl ?_
    refine go_int kk284_0.1.2.1.1 8 rfl ?_
    refine go_cmlt kk284_0.1.2.1.2 h1 (inR_of (by decide)) (fun c3 => ?_) (fun c4 => ?_)
    · refine go_aload kk284_0.1.2.2 rfl ?_
      refine go_getR (bI := 2) kk284_0.2.1.1.1 hg hK0 (by decide) rfl rfl (fun r5 => ?_)
      refine go_iload kk284_0.2.1.1.2 rfl ?_
      refine go_aload kk284_0.2.1.2 rfl ?_
      refine go_ck (fun q6 => ?_)
      refine go_getI (bI := 0) kk284_0.2.2.1.1 hg q6 (by decide) rfl rfl (fun r7 => ?_)
      refine go_ck (fun q8 => ?_)
      refine go_iast kk284_0.2.2.1.2 hg q8 r7 (fun g9 e10 => ?_)
      exact go_vret kk284_0.2.2.2 e10 ⟨Nat.zero_le _, Nat.zero_le _⟩ rfl
    · exact go_vret kk284_0.2.2.2 hg ⟨Nat.zero_le _, Nat.zero_le _⟩ rfl
theorem tfS_takeDuty {Φ : ev_P} {d : Nat} (hd : 4 ≤ d) {g : gH} (hg : HR g) {v0 : Int} (hK0 : kd v0 = 4) : Go Φ pr_P fN 3 (fS_takeDuty g v0) d (pr_P 258) 0 (ev_loc (pr_P 258).1 [(sR v0)]) [] g 0 0 := by
  show Go Φ pr_P fN 3 (fS_takeDuty g v0) d pr_m258 0 [some (sR v0), none, none] [] g 0 0
  unfold fS_takeDuty
  refine go_aload kk258_0.1.1.1.1.1 rfl ?_
  refine go_int kk258_0.1.1.1.1.2 0 rfl ?_
  refine go_int kk258_0.1.1.1.2.1 7 rfl ?_
  refine go_callN3 kk258_0.1.1.1.2.2 rfl rfl rfl ⟨by decide, _, rfl, hK0⟩ ⟨Nat.zero_le _, Nat.zero_le _⟩ (by omega) (tfS_takeNumber (by omega) hg hK0  (inR_b (Or.inl rfl)) (inR_of (by decide))) (fun y1 g3 r2 e4 => ?_)
  refine go_ifeq kk258_0.1.1.2.1.1 (inR_b r2) (fun c5 => ?_) (fun c6 => ?_)
  · refine go_int kk258_0.1.1.2.1.2 0 rfl ?_
    exact go_bret kk258_0.1.1.2.2 e4 (Or.inl rfl) ⟨Nat.zero_le _, Nat.zero_le _⟩ rfl
  · refine go_aload kk258_0.1.2.1.1.1 rfl ?_
    refine go_getI (bI := 7) kk258_0.1.2.1.1.2 e4 hK0 (by decide) rfl rfl (fun r7 => ?_)
    refine go_istore kk258_0.1.2.1.2 rfl (loc2 := [some (sR v0), some (sI (g3 v0 7)), none]) rfl ?_
    refine go_aload kk258_0.1.2.2.1.1 rfl ?_
    refine go_int kk258_0.1.2.2.1.2 0 rfl ?_
    refine go_callN2 kk258_0.1.2.2.2 rfl rfl rfl ⟨by decide, _, rfl, hK0⟩ ⟨Nat.zero_le _, Nat.zero_le _⟩ (by omega) (tfS_takeNamed (by omega) e4 hK0  (inR_b (Or.inl rfl))) (fun y8 g10 r9 e11 => ?_)
    refine go_astore kk258_0.2.1.1.1.1 rfl (loc2 := [some (sR v0), some (sI (g3 v0 7)), some (sR y8)]) rfl ?_
    refine go_aload kk258_0.2.1.1.1.2 rfl ?_
    refine go_isnull kk258_0.2.1.1.2.1  (fun c12 => ?_) (fun c13 => ?_)
    · refine go_int kk258_0.2.1.1.2.2 0 rfl ?_
      exact go_bret kk258_0.2.1.2.1.1 e11 (Or.inl rfl) ⟨Nat.zero_le _, Nat.zero_le _⟩ rfl
    · refine go_aload kk258_0.2.1.2.1.2 rfl ?_
      refine go_getR (bI := 1) kk258_0.2.1.2.2 e11 hK0 (by decide) rfl rfl (fun r14 => ?_)
      refine go_iload kk258_0.2.2.1.1.1 rfl ?_
      refine go_aload kk258_0.2.2.1.1.2 rfl ?_
      refine go_ck (fun q15 => ?_)
      refine go_callN0 kk258_0.2.2.1.2 rfl rfl rfl ⟨by decide, _, rfl, q15⟩ ⟨Nat.zero_le _, Nat.zero_le _⟩ (by omega) (tfT_giveDuty (by omega) e11 q15  r7 r9) (fun y16 g18 e19 => ?_)
      refine go_aload kk258_0.2.2.2.1.1 rfl ?_
      refine go_callN3 kk258_0.2.2.2.1.2 rfl rfl rfl ⟨by decide, _, rfl, hK0⟩ ⟨Nat.zero_le _, Nat.zero_le _⟩ (by omega) (tfS_takeSemicolon (by omega) e19 hK0 ) (fun y20 g22 r21 e23 => ?_)
      exact go_bret kk258_0.2.2.2.2 e23 r21 ⟨Nat.zero_le _, Nat.zero_le _⟩ rfl
theorem tfP_refuses {Φ : ev_P} {d : Nat} (hd : 0 ≤ d) {g : gH} (hg : HR g) {v0 v1 : Int} (hK0 : kd v0 = 3) (h1 : InR v1) : Go Φ pr_P (fP g) 3 (fP_refuses g v0 v1) d (pr_P 241) 0 (ev_loc (pr_P 241).1 [(sR v0), (sI v1)]) [] g 0 0 := by
  show Go Φ pr_P (fP g) 3 (fP_refuses g v0 v1) d pr_m241 0 [some (sR v0), some (sI v1)] [] g 0 0
  unfold fP_refuses
  refine go_aload kk241_0.1.1.1.1 rfl ?_
  refine go_getI (bI := 8) kk241_0.1.1.1.2 hg hK0 (by decide) rfl rfl (fun r1 => ?_)
  refine go_iload kk241_0.1.1.2 rfl ?_
  refine go_ibin kk241_0.1.2.1.1 ?_
  refine go_int kk241_0.1.2.1.2 1 rfl ?_
  refine go_ibin kk241_0.1.2.2 ?_
  refine go_ifeq kk241_0.2.1.1.1 (inR_opI _ _ _) (fun c2 => ?_) (fun c3 => ?_)
  · refine go_int kk241_0.2.2.1 0 rfl ?_
    exact go_bret kk241_0.2.2.2 hg (Or.inl rfl) ⟨Nat.zero_le _, Nat.zero_le _⟩ rfl
  · refine go_int kk241_0.2.1.1.2 1 rfl ?_
    refine go_goto kk241_0.2.1.2 ?_
    exact go_bret kk241_0.2.2.2 hg (Or.inr rfl) ⟨Nat.zero_le _, Nat.zero_le _⟩ rfl
theorem tfS_takeRefusal {Φ : ev_P} {d : Nat} (hd : 4 ≤ d) {g : gH} (hg : HR g) {v0 : Int} (hK0 : kd v0 = 4) : Go Φ pr_P fN 3 (fS_takeRefusal g v0) d (pr_P 259) 0 (ev_loc (pr_P 259).1 [(sR v0)]) [] g 0 0 := by
  show Go Φ pr_P fN 3 (fS_takeRefusal g v0) d pr_m259 0 [some (sR v0), none] [] g 0 0
  unfold fS_takeRefusal
  refine go_aload kk259_0.1.1.1.1.1.1 rfl ?_
  refine go_int kk259_0.1.1.1.1.1.2 1 rfl ?_
  refine go_callN2 kk259_0.1.1.1.1.2 rfl rfl rfl ⟨by decide, _, rfl, hK0⟩ ⟨Nat.zero_le _, Nat.zero_le _⟩ (by omega) (tfS_takeNamed (by omega) hg hK0  (inR_b (Or.inr rfl))) (fun y1 g3 r2 e4 => ?_)
  refine go_astore kk259_0.1.1.1.2.1 rfl (loc2 := [some (sR v0), some (sR y1)]) rfl ?_
  refine go_aload kk259_0.1.1.1.2.2 rfl ?_
  refine go_isnull kk259_0.1.1.2.1.1  (fun c5 => ?_) (fun c6 => ?_)
  · refine go_int kk259_0.1.2.1.2.1 0 rfl ?_
    exact go_bret kk259_0.1.2.1.2.2 e4 (Or.inl rfl) ⟨Nat.zero_le _, Nat.zero_le _⟩ rfl
  · refine go_aload kk259_0.1.1.2.1.2 rfl ?_
    refine go_int kk259_0.1.1.2.2.1 0 rfl ?_
    refine go_int kk259_0.1.1.2.2.2 9 rfl ?_
    refine go_callN3 kk259_0.1.2.1.1.1 rfl rfl rfl ⟨by decide, _, rfl, hK0⟩ ⟨Nat.zero_le _, Nat.zero_le _⟩ (by omega) (tfS_takeNumber (by omega) e4 hK0  (inR_b (Or.inl rfl)) (inR_of (by decide))) (fun y7 g9 r8 e10 => ?_)
    refine go_ifeq kk259_0.1.2.1.1.2 (inR_b r8) (fun c11 => ?_) (fun c12 => ?_)
    · refine go_int kk259_0.1.2.1.2.1 0 rfl ?_
      exact go_bret kk259_0.1.2.1.2.2 e10 (Or.inl rfl) ⟨Nat.zero_le _, Nat.zero_le _⟩ rfl
    · refine go_aload kk259_0.1.2.2.1.1 rfl ?_
      refine go_aload kk259_0.1.2.2.1.2 rfl ?_
      refine go_getI (bI := 7) kk259_0.1.2.2.2.1 e10 hK0 (by decide) rfl rfl (fun r13 => ?_)
      refine go_ck (fun q14 => ?_)
      refine go_callP3 kk259_0.1.2.2.2.2 rfl rfl rfl ⟨by decide, _, rfl, q14⟩ ⟨Nat.zero_le _, Nat.zero_le _⟩ (by omega) (tfP_refuses (by omega) e10 q14  r13) (fun y15 r16 => ?_)
      refine go_ifeq kk259_0.2.1.1.1.1.1 (inR_b r16) (fun c19 => ?_) (fun c20 => ?_)
      · refine go_aload kk259_0.2.1.2.1.1 rfl ?_
        refine go_dupR kk259_0.2.1.2.1.2 ?_
        refine go_getI (bI := 8) kk259_0.2.1.2.2.1 e10 q14 (by decide) rfl rfl (fun r21 => ?_)
        refine go_int kk259_0.2.1.2.2.2 1 rfl ?_
        refine go_aload kk259_0.2.2.1.1.1 rfl ?_
        refine go_getI (bI := 7) kk259_0.2.2.1.1.2 e10 hK0 (by decide) rfl rfl (fun r22 => ?_)
        refine go_ibin kk259_0.2.2.1.2.1 ?_
        refine go_ibin kk259_0.2.2.1.2.2 ?_
        refine go_putI (bI := 8) kk259_0.2.2.2.1.1 e10 q14 (by decide) rfl rfl (inR_opI _ _ _) (fun g23 e24 => ?_)
        refine go_aload kk259_0.2.2.2.1.2 rfl ?_
        refine go_callN3 kk259_0.2.2.2.2.1 rfl rfl rfl ⟨by decide, _, rfl, hK0⟩ ⟨Nat.zero_le _, Nat.zero_le _⟩ (by omega) (tfS_takeSemicolon (by omega) e24 hK0 ) (fun y25 g27 r26 e28 => ?_)
        exact go_bret kk259_0.2.2.2.2.2 e28 r26 ⟨Nat.zero_le _, Nat.zero_le _⟩ rfl
      · refine go_aload kk259_0.2.1.1.1.1.2 rfl ?_
        refine go_int kk259_0.2.1.1.1.2 3 rfl ?_
        refine go_callN3 kk259_0.2.1.1.2.1 rfl rfl rfl ⟨by decide, _, rfl, hK0⟩ ⟨Nat.zero_le _, Nat.zero_le _⟩ (by omega) (tfS_fail (by omega) e10 hK0  (inR_of (by decide))) (fun y29 g31 r30 e32 => ?_)
        exact go_bret kk259_0.2.1.1.2.2 e32 r30 ⟨Nat.zero_le _, Nat.zero_le _⟩ rfl
theorem tfP_willFor {Φ : ev_P} {d : Nat} (hd : 0 ≤ d) {g : gH} (hg : HR g) {v0 v1 : Int} (hK0 : kd v0 = 3) (h1 : InR v1) : Go Φ pr_P (fP g) 1 (fP_willFor g v0 v1) d (pr_P 246) 0 (ev_loc (pr_P 246).1 [(sR v0), (sI v1)]) [] g 0 0 := by
  show Go Φ pr_P (fP g) 1 (fP_willFor g v0 v1) d pr_m246 0 [some (sR v0), some (sI v1)] [] g 0 0
  unfold fP_willFor
  refine go_aload kk246_0.1.1.1.1 rfl ?_
  refine go_getL (bI := 14) kk246_0.1.1.1.2 hg hK0 (by decide) rfl rfl (fun r1 => ?_)
  refine go_int kk246_0.1.1.2 8 rfl ?_
  refine go_iload kk246_0.1.2.1.1 rfl ?_
  refine go_ibin kk246_0.1.2.1.2 ?_
  refine go_lshr kk246_0.1.2.2 rfl ⟨Nat.zero_le _, Nat.zero_le _⟩ ?_
  refine go_lconst kk246_0.2.1.1.1 255 rfl ?_
  refine go_land kk246_0.2.1.1.2 rfl ⟨Nat.zero_le _, Nat.zero_le _⟩ ?_
  refine go_l2i kk246_0.2.1.2 ?_
  refine go_int kk246_0.2.2.1.1 1 rfl ?_
  refine go_isub kk246_0.2.2.1.2 ?_
  exact go_iret kk246_0.2.2.2 hg (inR_w32 _) ⟨Nat.zero_le _, Nat.zero_le _⟩ rfl
theorem tfP_addWill {Φ : ev_P} {d : Nat} (hd : 0 ≤ d) {g : gH} (hg : HR g) {v0 v1 v2 : Int} (hK0 : kd v0 = 3) (h1 : InR v1) (h2 : InR v2) : Go Φ pr_P fN 0 (fP_addWill g v0 v1 v2) d (pr_P 247) 0 (ev_loc (pr_P 247).1 [(sR v0), (sI v1), (sI v2)]) [] g 0 0 := by
  show Go Φ pr_P fN 0 (fP_addWill g v0 v1 v2) d pr_m247 0 [some (sR v0), some (sI v1), some (sI v2)] [] g 0 0
  unfold fP_addWill
  refine go_aload kk247_0.1.1.1.1 rfl ?_
  refine go_dupR kk247_0.1.1.1.2 ?_
  refine go_getL (bI := 14) kk247_0.1.1.2.1 hg hK0 (by decide) rfl rfl (fun r1 => ?_)
  refine go_iload kk247_0.1.1.2.2 rfl ?_
  refine go_int kk247_0.1.2.1.1 1 rfl ?_
  refine go_iadd kk247_0.1.2.1.2 ?_
  refine go_i2l kk247_0.1.2.2 (inR_w32 _) ?_
  refine go_int kk247_0.2.1.1.1 8 rfl ?_
  refine go_iload kk247_0.2.1.1.2 rfl ?_
  refine go_ibin kk247_0.2.1.2.1 ?_
  refine go_lshl kk247_0.2.1.2.2 rfl ⟨Nat.zero_le _, Nat.zero_le _⟩ ?_
  refine go_lor kk247_0.2.2.1.1 rfl ⟨Nat.zero_le _, Nat.zero_le _⟩ ?_
  refine go_putL (bI := 14) kk247_0.2.2.1.2 hg hK0 (by decide) rfl rfl (inL_opL _ _ _) (fun g2 e3 => ?_)
  exact go_vret kk247_0.2.2.2 e3 ⟨Nat.zero_le _, Nat.zero_le _⟩ rfl
theorem tfS_takeWill {Φ : ev_P} {d : Nat} (hd : 4 ≤ d) {g : gH} (hg : HR g) {v0 : Int} (hK0 : kd v0 = 4) : Go Φ pr_P fN 3 (fS_takeWill g v0) d (pr_P 260) 0 (ev_loc (pr_P 260).1 [(sR v0)]) [] g 0 0 := by
  show Go Φ pr_P fN 3 (fS_takeWill g v0) d pr_m260 0 [some (sR v0), none, none, none] [] g 0 0
  unfold fS_takeWill
  refine go_aload kk260_0.1.1.1.1.1.1 rfl ?_
  refine go_int kk260_0.1.1.1.1.1.2 1 rfl ?_
  refine go_callN2 kk260_0.1.1.1.1.2 rfl rfl rfl ⟨by decide, _, rfl, hK0⟩ ⟨Nat.zero_le _, Nat.zero_le _⟩ (by omega) (tfS_takeNamed (by omega) hg hK0  (inR_b (Or.inr rfl))) (fun y1 g3 r2 e4 => ?_)
  refine go_astore kk260_0.1.1.1.2.1.1 rfl (loc2 := [some (sR v0), some (sR y1), none, none]) rfl ?_
  refine go_aload kk260_0.1.1.1.2.1.2 rfl ?_
  refine go_isnull kk260_0.1.1.1.2.2  (fun c5 => ?_) (fun c6 => ?_)
  · refine go_int kk260_0.1.1.2.2.2 0 rfl ?_
    exact go_bret kk260_0.1.2.1.1.1.1 e4 (Or.inl rfl) ⟨Nat.zero_le _, Nat.zero_le _⟩ rfl
  · refine go_aload kk260_0.1.1.2.1.1.1 rfl ?_
    refine go_int kk260_0.1.1.2.1.1.2 0 rfl ?_
    refine go_int kk260_0.1.1.2.1.2 7 rfl ?_
    refine go_callN3 kk260_0.1.1.2.2.1.1 rfl rfl rfl ⟨by decide, _, rfl, hK0⟩ ⟨Nat.zero_le _, Nat.zero_le _⟩ (by omega) (tfS_takeNumber (by omega) e4 hK0  (inR_b (Or.inl rfl)) (inR_of (by decide))) (fun y7 g9 r8 e10 => ?_)
    refine go_ifeq kk260_0.1.1.2.2.1.2 (inR_b r8) (fun c11 => ?_) (fun c12 => ?_)
    · refine go_int kk260_0.1.1.2.2.2 0 rfl ?_
      exact go_bret kk260_0.1.2.1.1.1.1 e10 (Or.inl rfl) ⟨Nat.zero_le _, Nat.zero_le _⟩ rfl
    · refine go_aload kk260_0.1.2.1.1.1.2 rfl ?_
      refine go_getI (bI := 7) kk260_0.1.2.1.1.2 e10 hK0 (by decide) rfl rfl (fun r13 => ?_)
      refine go_istore kk260_0.1.2.1.2.1.1 rfl (loc2 := [some (sR v0), some (sR y1), some (sI (g9 v0 7)), none]) rfl ?_
      refine go_aload kk260_0.1.2.1.2.1.2 rfl ?_
      refine go_iload kk260_0.1.2.1.2.2 rfl ?_
      refine go_ck (fun q14 => ?_)
      refine go_callP1 kk260_0.1.2.2.1.1.1 rfl rfl rfl ⟨by decide, _, rfl, q14⟩ ⟨Nat.zero_le _, Nat.zero_le _⟩ (by omega) (tfP_willFor (by omega) e10 q14  r13) (fun y15 r16 => ?_)
      refine go_int kk260_0.1.2.2.1.1.2 (-1) rfl ?_
      refine go_cmeq kk260_0.1.2.2.1.2 r16 (inR_of (by decide)) (fun c19 => ?_) (fun c20 => ?_)
      · refine go_aload kk260_0.2.1.1.1.1.2 rfl ?_
        refine go_int kk260_0.2.1.1.1.2 0 rfl ?_
        refine go_callN2 kk260_0.2.1.1.2.1.1 rfl rfl rfl ⟨by decide, _, rfl, hK0⟩ ⟨Nat.zero_le _, Nat.zero_le _⟩ (by omega) (tfS_takeNamed (by omega) e10 hK0  (inR_b (Or.inl rfl))) (fun y21 g23 r22 e24 => ?_)
        refine go_astore kk260_0.2.1.1.2.1.2 rfl (loc2 := [some (sR v0), some (sR y1), some (sI (g9 v0 7)), some (sR y21)]) rfl ?_
        refine go_aload kk260_0.2.1.1.2.2 rfl ?_
        refine go_isnull kk260_0.2.1.2.1.1.1  (fun c25 => ?_) (fun c26 => ?_)
        · refine go_int kk260_0.2.1.2.1.1.2 0 rfl ?_
          exact go_bret kk260_0.2.1.2.1.2 e24 (Or.inl rfl) ⟨Nat.zero_le _, Nat.zero_le _⟩ rfl
        · refine go_aload kk260_0.2.1.2.2.1.1 rfl ?_
          refine go_aload kk260_0.2.1.2.2.1.2 rfl ?_
          refine go_acmp kk260_0.2.1.2.2.2 r22 r2 (fun c27 => ?_) (fun c28 => ?_)
          · refine go_aload kk260_0.2.2.1.1.1.1 rfl ?_
            refine go_int kk260_0.2.2.1.1.1.2 2 rfl ?_
            refine go_callN3 kk260_0.2.2.1.1.2 rfl rfl rfl ⟨by decide, _, rfl, hK0⟩ ⟨Nat.zero_le _, Nat.zero_le _⟩ (by omega) (tfS_fail (by omega) e24 hK0  (inR_of (by decide))) (fun y29 g31 r30 e32 => ?_)
            exact go_bret kk260_0.2.2.1.2.1.1 e32 r30 ⟨Nat.zero_le _, Nat.zero_le _⟩ rfl
          · refine go_aload kk260_0.2.2.1.2.1.2 rfl ?_
            refine go_iload kk260_0.2.2.1.2.2 rfl ?_
            refine go_aload kk260_0.2.2.2.1.1.1 rfl ?_
            refine go_ck (fun q33 => ?_)
            refine go_getI (bI := 0) kk260_0.2.2.2.1.1.2 e24 q33 (by decide) rfl rfl (fun r34 => ?_)
            refine go_callN0 kk260_0.2.2.2.1.2 rfl rfl rfl ⟨by decide, _, rfl, q14⟩ ⟨Nat.zero_le _, Nat.zero_le _⟩ (by omega) (tfP_addWill (by omega) e24 q14  r13 r34) (fun y35 g37 e38 => ?_)
            refine go_aload kk260_0.2.2.2.2.1.1 rfl ?_
            refine go_callN3 kk260_0.2.2.2.2.1.2 rfl rfl rfl ⟨by decide, _, rfl, hK0⟩ ⟨Nat.zero_le _, Nat.zero_le _⟩ (by omega) (tfS_takeSemicolon (by omega) e38 hK0 ) (fun y39 g41 r40 e42 => ?_)
            exact go_bret kk260_0.2.2.2.2.2 e42 r40 ⟨Nat.zero_le _, Nat.zero_le _⟩ rfl
      · refine go_aload kk260_0.1.2.2.2.1.1 rfl ?_
        refine go_int kk260_0.1.2.2.2.1.2 3 rfl ?_
        refine go_callN3 kk260_0.1.2.2.2.2 rfl rfl rfl ⟨by decide, _, rfl, hK0⟩ ⟨Nat.zero_le _, Nat.zero_le _⟩ (by omega) (tfS_fail (by omega) e10 hK0  (inR_of (by decide))) (fun y43 g45 r44 e46 => ?_)
        exact go_bret kk260_0.2.1.1.1.1.1 e46 r44 ⟨Nat.zero_le _, Nat.zero_le _⟩ rfl
theorem tfS_takeStatement {Φ : ev_P} {d : Nat} (hd : 5 ≤ d) {g : gH} (hg : HR g) {v0 : Int} (hK0 : kd v0 = 4) : Go Φ pr_P fN 3 (fS_takeStatement g v0) d (pr_P 251) 0 (ev_loc (pr_P 251).1 [(sR v0)]) [] g 0 0 := by
  show Go Φ pr_P fN 3 (fS_takeStatement g v0) d pr_m251 0 [some (sR v0)] [] g 0 0
  unfold fS_takeStatement
  refine go_aload kk251_0.1.1.1.1.1.1 rfl ?_
  refine go_callN0 kk251_0.1.1.1.1.1.2 rfl rfl rfl ⟨by decide, _, rfl, hK0⟩ ⟨Nat.zero_le _, Nat.zero_le _⟩ (by omega) (tfS_advance (by omega) hg hK0 ) (fun y1 g3 e4 => ?_)
  refine go_aload kk251_0.1.1.1.1.2 rfl ?_
  refine go_getI (bI := 4) kk251_0.1.1.1.2.1 e4 hK0 (by decide) rfl rfl (fun r5 => ?_)
  refine go_ifeq kk251_0.1.1.1.2.2 r5 (fun c6 => ?_) (fun c7 => ?_)
  · refine go_int kk251_0.1.1.2.1.1 0 rfl ?_
    exact go_bret kk251_0.1.1.2.1.2 e4 (Or.inl rfl) ⟨Nat.zero_le _, Nat.zero_le _⟩ rfl
  · refine go_aload kk251_0.1.1.2.2.1 rfl ?_
    refine go_ldcs kk251_0.1.1.2.2.2 (by decide) (x := 2000000) rfl ?_
    refine go_callP3 kk251_0.1.2.1.1.1 rfl rfl rfl ⟨by decide, _, rfl, hK0⟩ ⟨Nat.zero_le _, Nat.zero_le _⟩ (by omega) (tfS_isWord (by omega) e4 hK0 ) (fun y8 r9 => ?_)
    refine go_ifeq kk251_0.1.2.1.1.2 (inR_b r9) (fun c12 => ?_) (fun c13 => ?_)
    · refine go_aload kk251_0.1.2.2.1.2 rfl ?_
      refine go_ldcs kk251_0.1.2.2.2.1 (by decide) (x := 2000001) rfl ?_
      refine go_callP3 kk251_0.1.2.2.2.2 rfl rfl rfl ⟨by decide, _, rfl, hK0⟩ ⟨Nat.zero_le _, Nat.zero_le _⟩ (by omega) (tfS_isWord (by omega) e4 hK0 ) (fun y14 r15 => ?_)
      refine go_ifeq kk251_0.2.1.1.1.1 (inR_b r15) (fun c18 => ?_) (fun c19 => ?_)
      · refine go_aload kk251_0.2.1.2.1.1 rfl ?_
        refine go_ldcs kk251_0.2.1.2.1.2 (by decide) (x := 2000002) rfl ?_
        refine go_callP3 kk251_0.2.1.2.2.1 rfl rfl rfl ⟨by decide, _, rfl, hK0⟩ ⟨Nat.zero_le _, Nat.zero_le _⟩ (by omega) (tfS_isWord (by omega) e4 hK0 ) (fun y20 r21 => ?_)
        refine go_ifeq kk251_0.2.1.2.2.2 (inR_b r21) (fun c24 => ?_) (fun c25 => ?_)
        · refine go_aload kk251_0.2.2.1.2.2 rfl ?_
          refine go_ldcs kk251_0.2.2.2.1.1 (by decide) (x := 2000003) rfl ?_
          refine go_callP3 kk251_0.2.2.2.1.2 rfl rfl rfl ⟨by decide, _, rfl, hK0⟩ ⟨Nat.zero_le _, Nat.zero_le _⟩ (by omega) (tfS_isWord (by omega) e4 hK0 ) (fun y26 r27 => ?_)
          refine go_ifeq kk251_0.2.2.2.2.1 (inR_b r27) (fun c30 => ?_) (fun c31 => ?_)
          · refine go_aload kk251_1.1.1.1.1.2 rfl ?_
            refine go_ldcs kk251_1.1.1.1.2.1 (by decide) (x := 2000004) rfl ?_
            refine go_callP3 kk251_1.1.1.1.2.2 rfl rfl rfl ⟨by decide, _, rfl, hK0⟩ ⟨Nat.zero_le _, Nat.zero_le _⟩ (by omega) (tfS_isWord (by omega) e4 hK0 ) (fun y32 r33 => ?_)
            refine go_ifeq kk251_1.1.1.2.1.1 (inR_b r33) (fun c36 => ?_) (fun c37 => ?_)
            · refine go_aload kk251_1.1.2.1.1.1 rfl ?_
              refine go_ldcs kk251_1.1.2.1.1.2 (by decide) (x := 2000005) rfl ?_
              refine go_callP3 kk251_1.1.2.1.2.1 rfl rfl rfl ⟨by decide, _, rfl, hK0⟩ ⟨Nat.zero_le _, Nat.zero_le _⟩ (by omega) (tfS_isWord (by omega) e4 hK0 ) (fun y38 r39 => ?_)
              refine go_ifeq kk251_1.1.2.1.2.2 (inR_b r39) (fun c42 => ?_) (fun c43 => ?_)
              · refine go_aload kk251_1.1.2.2.2.2 rfl ?_
                refine go_ldcs kk251_1.2.1.1.1.1.1 (by decide) (x := 2000006) rfl ?_
                refine go_callP3 kk251_1.2.1.1.1.1.2 rfl rfl rfl ⟨by decide, _, rfl, hK0⟩ ⟨Nat.zero_le _, Nat.zero_le _⟩ (by omega) (tfS_isWord (by omega) e4 hK0 ) (fun y44 r45 => ?_)
                refine go_ifeq kk251_1.2.1.1.1.2 (inR_b r45) (fun c48 => ?_) (fun c49 => ?_)
                · refine go_aload kk251_1.2.1.2.1.2 rfl ?_
                  refine go_ldcs kk251_1.2.1.2.2.1 (by decide) (x := 2000007) rfl ?_
                  refine go_callP3 kk251_1.2.1.2.2.2 rfl rfl rfl ⟨by decide, _, rfl, hK0⟩ ⟨Nat.zero_le _, Nat.zero_le _⟩ (by omega) (tfS_isWord (by omega) e4 hK0 ) (fun y50 r51 => ?_)
                  refine go_ifeq kk251_1.2.2.1.1.1 (inR_b r51) (fun c54 => ?_) (fun c55 => ?_)
                  · refine go_aload kk251_1.2.2.2.1.1 rfl ?_
                    refine go_int kk251_1.2.2.2.1.2 1 rfl ?_
                    refine go_callN3 kk251_1.2.2.2.2.1 rfl rfl rfl ⟨by decide, _, rfl, hK0⟩ ⟨Nat.zero_le _, Nat.zero_le _⟩ (by omega) (tfS_fail (by omega) e4 hK0  (inR_b (Or.inr rfl))) (fun y56 g58 r57 e59 => ?_)
                    exact go_bret kk251_1.2.2.2.2.2 e59 r57 ⟨Nat.zero_le _, Nat.zero_le _⟩ rfl
                  · refine go_aload kk251_1.2.2.1.1.2 rfl ?_
                    refine go_callN3 kk251_1.2.2.1.2.1 rfl rfl rfl ⟨by decide, _, rfl, hK0⟩ ⟨Nat.zero_le _, Nat.zero_le _⟩ (by omega) (tfS_takeWill (by omega) e4 hK0 ) (fun y60 g62 r61 e63 => ?_)
                    refine go_goto kk251_1.2.2.1.2.2 ?_
                    exact go_bret kk251_1.2.2.2.2.2 e63 r61 ⟨Nat.zero_le _, Nat.zero_le _⟩ rfl
                · refine go_aload kk251_1.2.1.1.2.1 rfl ?_
                  refine go_callN3 kk251_1.2.1.1.2.2 rfl rfl rfl ⟨by decide, _, rfl, hK0⟩ ⟨Nat.zero_le _, Nat.zero_le _⟩ (by omega) (tfS_takeRefusal (by omega) e4 hK0 ) (fun y64 g66 r65 e67 => ?_)
                  exact go_bret kk251_1.2.1.2.1.1 e67 r65 ⟨Nat.zero_le _, Nat.zero_le _⟩ rfl
              · refine go_aload kk251_1.1.2.2.1.1 rfl ?_
                refine go_callN3 kk251_1.1.2.2.1.2 rfl rfl rfl ⟨by decide, _, rfl, hK0⟩ ⟨Nat.zero_le _, Nat.zero_le _⟩ (by omega) (tfS_takeDuty (by omega) e4 hK0 ) (fun y68 g70 r69 e71 => ?_)
                exact go_bret kk251_1.1.2.2.2.1 e71 r69 ⟨Nat.zero_le _, Nat.zero_le _⟩ rfl
            · refine go_aload kk251_1.1.1.2.1.2 rfl ?_
              refine go_callN3 kk251_1.1.1.2.2.1 rfl rfl rfl ⟨by decide, _, rfl, hK0⟩ ⟨Nat.zero_le _, Nat.zero_le _⟩ (by omega) (tfS_takeHeir (by omega) e4 hK0 ) (fun y72 g74 r73 e75 => ?_)
              exact go_bret kk251_1.1.1.2.2.2 e75 r73 ⟨Nat.zero_le _, Nat.zero_le _⟩ rfl
          · refine go_aload kk251_0.2.2.2.2.2 rfl ?_
            refine go_callN3 kk251_1.1.1.1.1.1.1 rfl rfl rfl ⟨by decide, _, rfl, hK0⟩ ⟨Nat.zero_le _, Nat.zero_le _⟩ (by omega) (tfS_takeProcess (by omega) e4 hK0 ) (fun y76 g78 r77 e79 => ?_)
            exact go_bret kk251_1.1.1.1.1.1.2 e79 r77 ⟨Nat.zero_le _, Nat.zero_le _⟩ rfl
        · refine go_aload kk251_0.2.2.1.1.1 rfl ?_
          refine go_callN3 kk251_0.2.2.1.1.2 rfl rfl rfl ⟨by decide, _, rfl, hK0⟩ ⟨Nat.zero_le _, Nat.zero_le _⟩ (by omega) (tfS_takeRoot (by omega) e4 hK0 ) (fun y80 g82 r81 e83 => ?_)
          exact go_bret kk251_0.2.2.1.2.1 e83 r81 ⟨Nat.zero_le _, Nat.zero_le _⟩ rfl
      · refine go_aload kk251_0.2.1.1.1.2 rfl ?_
        refine go_callN3 kk251_0.2.1.1.2.1 rfl rfl rfl ⟨by decide, _, rfl, hK0⟩ ⟨Nat.zero_le _, Nat.zero_le _⟩ (by omega) (tfS_takeDeep (by omega) e4 hK0 ) (fun y84 g86 r85 e87 => ?_)
        exact go_bret kk251_0.2.1.1.2.2 e87 r85 ⟨Nat.zero_le _, Nat.zero_le _⟩ rfl
    · refine go_aload kk251_0.1.2.1.2.1 rfl ?_
      refine go_callN3 kk251_0.1.2.1.2.2 rfl rfl rfl ⟨by decide, _, rfl, hK0⟩ ⟨Nat.zero_le _, Nat.zero_le _⟩ (by omega) (tfS_takeOrder (by omega) e4 hK0 ) (fun y88 g90 r89 e91 => ?_)
      exact go_bret kk251_0.1.2.2.1.1 e91 r89 ⟨Nat.zero_le _, Nat.zero_le _⟩ rfl
theorem tfP_take {Φ : ev_P} {d : Nat} (hd : 0 ≤ d) {g : gH} (hg : HR g) {v0 v1 : Int} (hK0 : kd v0 = 3) (h1 : RfR v1) : Go Φ pr_P fN 0 (fP_take g v0 v1) d (pr_P 234) 0 (ev_loc (pr_P 234).1 [(sR v0), (sR v1)]) [] g 0 0 := by
  show Go Φ pr_P fN 0 (fP_take g v0 v1) d pr_m234 0 [some (sR v0), some (sR v1)] [] g 0 0
  unfold fP_take
  refine go_aload kk234_0.1.1.1.1.1.1 rfl ?_
  refine go_aload kk234_0.1.1.1.1.1.2 rfl ?_
  refine go_ck (fun q1 => ?_)
  refine go_getI (bI := 1) kk234_0.1.1.1.1.2.1 hg q1 (by decide) rfl rfl (fun r2 => ?_)
  refine go_putI (bI := 1) kk234_0.1.1.1.1.2.2 hg hK0 (by decide) rfl rfl r2 (fun g3 e4 => ?_)
  refine go_aload kk234_0.1.1.1.2.1.1 rfl ?_
  refine go_aload kk234_0.1.1.1.2.1.2 rfl ?_
  refine go_getI (bI := 3) kk234_0.1.1.1.2.2 e4 q1 (by decide) rfl rfl (fun r5 => ?_)
  refine go_putI (bI := 3) kk234_0.1.1.2.1.1.1 e4 hK0 (by decide) rfl rfl r5 (fun g6 e7 => ?_)
  refine go_aload kk234_0.1.1.2.1.1.2 rfl ?_
  refine go_aload kk234_0.1.1.2.1.2.1 rfl ?_
  refine go_getI (bI := 4) kk234_0.1.1.2.1.2.2 e7 q1 (by decide) rfl rfl (fun r8 => ?_)
  refine go_putI (bI := 4) kk234_0.1.1.2.2.1.1 e7 hK0 (by decide) rfl rfl r8 (fun g9 e10 => ?_)
  refine go_aload kk234_0.1.1.2.2.1.2 rfl ?_
  refine go_aload kk234_0.1.1.2.2.2 rfl ?_
  refine go_getI (bI := 5) kk234_0.1.2.1.1.1.1 e10 q1 (by decide) rfl rfl (fun r11 => ?_)
  refine go_putI (bI := 5) kk234_0.1.2.1.1.1.2 e10 hK0 (by decide) rfl rfl r11 (fun g12 e13 => ?_)
  refine go_aload kk234_0.1.2.1.1.2.1 rfl ?_
  refine go_aload kk234_0.1.2.1.1.2.2 rfl ?_
  refine go_getI (bI := 6) kk234_0.1.2.1.2.1.1 e13 q1 (by decide) rfl rfl (fun r14 => ?_)
  refine go_putI (bI := 6) kk234_0.1.2.1.2.1.2 e13 hK0 (by decide) rfl rfl r14 (fun g15 e16 => ?_)
  refine go_aload kk234_0.1.2.1.2.2 rfl ?_
  refine go_aload kk234_0.1.2.2.1.1.1 rfl ?_
  refine go_getI (bI := 7) kk234_0.1.2.2.1.1.2 e16 q1 (by decide) rfl rfl (fun r17 => ?_)
  refine go_putI (bI := 7) kk234_0.1.2.2.1.2 e16 hK0 (by decide) rfl rfl r17 (fun g18 e19 => ?_)
  refine go_aload kk234_0.1.2.2.2.1.1 rfl ?_
  refine go_aload kk234_0.1.2.2.2.1.2 rfl ?_
  refine go_getI (bI := 8) kk234_0.1.2.2.2.2 e19 q1 (by decide) rfl rfl (fun r20 => ?_)
  refine go_putI (bI := 8) kk234_0.2.1.1.1.1.1 e19 hK0 (by decide) rfl rfl r20 (fun g21 e22 => ?_)
  refine go_aload kk234_0.2.1.1.1.1.2 rfl ?_
  refine go_aload kk234_0.2.1.1.1.2.1 rfl ?_
  refine go_getI (bI := 9) kk234_0.2.1.1.1.2.2 e22 q1 (by decide) rfl rfl (fun r23 => ?_)
  refine go_putI (bI := 9) kk234_0.2.1.1.2.1.1 e22 hK0 (by decide) rfl rfl r23 (fun g24 e25 => ?_)
  refine go_aload kk234_0.2.1.1.2.1.2 rfl ?_
  refine go_aload kk234_0.2.1.1.2.2 rfl ?_
  refine go_getI (bI := 10) kk234_0.2.1.2.1.1.1 e25 q1 (by decide) rfl rfl (fun r26 => ?_)
  refine go_putI (bI := 10) kk234_0.2.1.2.1.1.2 e25 hK0 (by decide) rfl rfl r26 (fun g27 e28 => ?_)
  refine go_aload kk234_0.2.1.2.1.2 rfl ?_
  refine go_aload kk234_0.2.1.2.2.1.1 rfl ?_
  refine go_getI (bI := 11) kk234_0.2.1.2.2.1.2 e28 q1 (by decide) rfl rfl (fun r29 => ?_)
  refine go_putI (bI := 11) kk234_0.2.1.2.2.2 e28 hK0 (by decide) rfl rfl r29 (fun g30 e31 => ?_)
  refine go_aload kk234_0.2.2.1.1.1.1 rfl ?_
  refine go_aload kk234_0.2.2.1.1.1.2 rfl ?_
  refine go_getI (bI := 12) kk234_0.2.2.1.1.2.1 e31 q1 (by decide) rfl rfl (fun r32 => ?_)
  refine go_putI (bI := 12) kk234_0.2.2.1.1.2.2 e31 hK0 (by decide) rfl rfl r32 (fun g33 e34 => ?_)
  refine go_aload kk234_0.2.2.1.2.1.1 rfl ?_
  refine go_aload kk234_0.2.2.1.2.1.2 rfl ?_
  refine go_getB (bI := 13) kk234_0.2.2.1.2.2 e34 q1 (by decide) rfl rfl (fun r35 => ?_)
  refine go_putB (bI := 13) kk234_0.2.2.2.1.1.1 e34 hK0 (by decide) rfl rfl r35 (fun g36 e37 => ?_)
  refine go_aload kk234_0.2.2.2.1.1.2 rfl ?_
  refine go_aload kk234_0.2.2.2.1.2 rfl ?_
  refine go_getL (bI := 14) kk234_0.2.2.2.2.1.1 e37 q1 (by decide) rfl rfl (fun r38 => ?_)
  refine go_putL (bI := 14) kk234_0.2.2.2.2.1.2 e37 hK0 (by decide) rfl rfl r38 (fun g39 e40 => ?_)
  exact go_vret kk234_0.2.2.2.2.2 e40 ⟨Nat.zero_le _, Nat.zero_le _⟩ rfl
theorem tjT_take_70 {Φ : ev_P} {d : Nat} (hd : 1 ≤ d) {g : gH} (hg : HR g) {v0 v1 : Int} (hK0 : kd v0 = 5) (h1 : RfR v1) (u2 : Option ev_V) (w2 : nwo u2) (u3 : Option ev_V) (w3 : nwo u3) : Go Φ pr_P fN 0 (jT_take_70 g v0 v1 ) d pr_m273 70 [some (sR v0), some (sR v1), u2, u3] [] g 0 0 := by
  unfold jT_take_70
  refine go_aload kk273_1.1.1.1.1.1.1 rfl ?_
  refine go_ck (fun q39 => ?_)
  refine go_getR (bI := 2) kk273_1.1.1.1.1.1.2 hg q39 (by decide) rfl rfl (fun r40 => ?_)
  refine go_int kk273_1.1.1.1.1.2 0 rfl ?_
  refine go_aload kk273_1.1.1.1.2.1 rfl ?_
  refine go_getR (bI := 2) kk273_1.1.1.1.2.2 hg hK0 (by decide) rfl rfl (fun r41 => ?_)
  refine go_int kk273_1.1.1.2.1.1.1 0 rfl ?_
  refine go_int kk273_1.1.1.2.1.1.2 8 rfl ?_
  refine go_ck (fun q42 => ?_)
  refine go_copy kk273_1.1.1.2.1.2 hg q42.1 q42.2 rfl (fun g43 e44 => ?_)
  refine go_aload kk273_1.1.1.2.2.1 rfl ?_
  refine go_getR (bI := 3) kk273_1.1.1.2.2.2 e44 q39 (by decide) rfl rfl (fun r45 => ?_)
  refine go_int kk273_1.1.2.1.1.1.1 0 rfl ?_
  refine go_aload kk273_1.1.2.1.1.1.2 rfl ?_
  refine go_getR (bI := 3) kk273_1.1.2.1.1.2 e44 hK0 (by decide) rfl rfl (fun r46 => ?_)
  refine go_int kk273_1.1.2.1.2.1 0 rfl ?_
  refine go_int kk273_1.1.2.1.2.2 5 rfl ?_
  refine go_ck (fun q47 => ?_)
  refine go_copy kk273_1.1.2.2.1.1 e44 q47.1 q47.2 rfl (fun g48 e49 => ?_)
  refine go_aload kk273_1.1.2.2.1.2 rfl ?_
  refine go_aload kk273_1.1.2.2.2.1 rfl ?_
  refine go_getI (bI := 4) kk273_1.1.2.2.2.2 e49 q39 (by decide) rfl rfl (fun r50 => ?_)
  refine go_putI (bI := 4) kk273_1.2.1.1.1.1.1 e49 hK0 (by decide) rfl rfl r50 (fun g51 e52 => ?_)
  refine go_aload kk273_1.2.1.1.1.1.2 rfl ?_
  refine go_aload kk273_1.2.1.1.1.2 rfl ?_
  refine go_getI (bI := 6) kk273_1.2.1.1.2.1 e52 q39 (by decide) rfl rfl (fun r53 => ?_)
  refine go_putI (bI := 6) kk273_1.2.1.1.2.2 e52 hK0 (by decide) rfl rfl r53 (fun g54 e55 => ?_)
  refine go_aload kk273_1.2.1.2.1.1 rfl ?_
  refine go_aload kk273_1.2.1.2.1.2 rfl ?_
  refine go_getI (bI := 7) kk273_1.2.1.2.2.1 e55 q39 (by decide) rfl rfl (fun r56 => ?_)
  refine go_putI (bI := 7) kk273_1.2.1.2.2.2 e55 hK0 (by decide) rfl rfl r56 (fun g57 e58 => ?_)
  refine go_aload kk273_1.2.2.1.1.1.1 rfl ?_
  refine go_aload kk273_1.2.2.1.1.1.2 rfl ?_
  refine go_getI (bI := 8) kk273_1.2.2.1.1.2 e58 q39 (by decide) rfl rfl (fun r59 => ?_)
  refine go_putI (bI := 8) kk273_1.2.2.1.2.1 e58 hK0 (by decide) rfl rfl r59 (fun g60 e61 => ?_)
  refine go_aload kk273_1.2.2.1.2.2 rfl ?_
  refine go_aload kk273_1.2.2.2.1.1 rfl ?_
  refine go_getI (bI := 9) kk273_1.2.2.2.1.2 e61 q39 (by decide) rfl rfl (fun r62 => ?_)
  refine go_putI (bI := 9) kk273_1.2.2.2.2.1 e61 hK0 (by decide) rfl rfl r62 (fun g63 e64 => ?_)
  exact go_vret kk273_1.2.2.2.2.2 e64 ⟨Nat.zero_le _, Nat.zero_le _⟩ rfl
theorem tbT_take_10 {Φ : ev_P} {d : Nat} (hd : 1 ≤ d) {v0 v1 : Int} (hK0 : kd v0 = 5) (h1 : RfR v1) {X10 : Int → gH → Option (Int × gH)} (HX10 : ∀ (v2 : Int) (h2 : InR v2) (g : gH) (hg : HR g) (u3 : Option ev_V) (w3 : nwo u3), Go Φ pr_P fN 0 (X10 v2 g) d pr_m273 10 [some (sR v0), some (sR v1), some (sI v2), u3] [] g 0 0) : ∀ (v2 : Int) (h2 : InR v2) (g : gH) (hg : HR g) (u3 : Option ev_V) (w3 : nwo u3), Go Φ pr_P fN 0 (bT_take_10 v0 v1 X10 v2 g) d pr_m273 10 [some (sR v0), some (sR v1), some (sI v2), u3] [] g 0 0 := by
  intro v2 h2 g hg u3 w3
  unfold bT_take_10
  refine go_iload kk273_0.1.1.2.1.1.2 rfl ?_
  refine go_int kk273_0.1.1.2.1.2 40 rfl ?_
  refine go_cmlt kk273_0.1.1.2.2.1 h2 (inR_of (by decide)) (fun c5 => ?_) (fun c6 => ?_)
  · refine go_aload kk273_0.1.1.2.2.2 rfl ?_
    refine go_ck (fun q7 => ?_)
    refine go_getR (bI := 1) kk273_0.1.2.1.1.1.1 hg q7 (by decide) rfl rfl (fun r8 => ?_)
    refine go_iload kk273_0.1.2.1.1.1.2 rfl ?_
    refine go_ck (fun q10 => ?_)
    refine go_pald kk273_0.1.2.1.1.2 hg q10 (fun r9 => ?_)
    refine go_astore kk273_0.1.2.1.2.1 rfl (loc2 := [some (sR v0), some (sR v1), some (sI v2), some (sR (g (g v1 1) v2))]) rfl ?_
    refine go_aload kk273_0.1.2.1.2.2 rfl ?_
    refine go_getR (bI := 1) kk273_0.1.2.2.1.1 hg hK0 (by decide) rfl rfl (fun r11 => ?_)
    refine go_iload kk273_0.1.2.2.1.2 rfl ?_
    refine go_ck (fun q13 => ?_)
    refine go_pald kk273_0.1.2.2.2.1 hg q13 (fun r12 => ?_)
    refine go_aload kk273_0.1.2.2.2.2 rfl ?_
    refine go_ck (fun q14 => ?_)
    refine go_callN0 kk273_0.2.1.1.1.1.1 rfl rfl rfl ⟨by decide, _, rfl, q14⟩ ⟨Nat.zero_le _, Nat.zero_le _⟩ (by omega) (tfP_take (by omega) hg q14  r9) (fun y15 g17 e18 => ?_)
    refine go_aload kk273_0.2.1.1.1.1.2 rfl ?_
    refine go_getR (bI := 1) kk273_0.2.1.1.1.2 e18 hK0 (by decide) rfl rfl (fun r19 => ?_)
    refine go_iload kk273_0.2.1.1.2.1 rfl ?_
    refine go_ck (fun q21 => ?_)
    refine go_pald kk273_0.2.1.1.2.2 e18 q21 (fun r20 => ?_)
    refine go_aload kk273_0.2.1.2.1.1 rfl ?_
    refine go_ck (fun q22 => ?_)
    refine go_getR (bI := 2) kk273_0.2.1.2.1.2 e18 q22 (by decide) rfl rfl (fun r23 => ?_)
    refine go_isnull kk273_0.2.1.2.2.1  (fun c24 => ?_) (fun c25 => ?_)
    · refine go_null kk273_0.2.1.2.2.2 ?_
      refine go_goto kk273_0.2.2.1.1.1.1 ?_
      refine go_ck (fun q26 => ?_)
      refine go_putR (bI := 2) kk273_0.2.2.2.1.2 e18 q26 (by decide) rfl rfl rfR_null (fun g27 e28 => ?_)
      refine go_iinc kk273_0.2.2.2.2.1 rfl rfl 1 rfl (loc2 := [some (sR v0), some (sR v1), some (sI (w32 (v2 + 1))), some (sR (g (g v1 1) v2))]) rfl ?_
      refine go_goto kk273_0.2.2.2.2.2 ?_
      exact HX10 (w32 (v2 + 1)) (inR_w32 _) g27 e28 (some (sR (g (g v1 1) v2))) rfl
    · refine go_aload kk273_0.2.2.1.1.1.2 rfl ?_
      refine go_aload kk273_0.2.2.1.1.2 rfl ?_
      refine go_getR (bI := 2) kk273_0.2.2.1.2.1 e18 q22 (by decide) rfl rfl (fun r29 => ?_)
      refine go_ck (fun q30 => ?_)
      refine go_getI (bI := 0) kk273_0.2.2.1.2.2 e18 q30 (by decide) rfl rfl (fun r31 => ?_)
      refine go_callP2 kk273_0.2.2.2.1.1 rfl rfl rfl ⟨by decide, _, rfl, hK0⟩ ⟨Nat.zero_le _, Nat.zero_le _⟩ (by omega) (tfT_at (by omega) e18 hK0  r31) (fun y32 r33 => ?_)
      refine go_ck (fun q36 => ?_)
      refine go_putR (bI := 2) kk273_0.2.2.2.1.2 e18 q36 (by decide) rfl rfl r33 (fun g37 e38 => ?_)
      refine go_iinc kk273_0.2.2.2.2.1 rfl rfl 1 rfl (loc2 := [some (sR v0), some (sR v1), some (sI (w32 (v2 + 1))), some (sR (g (g v1 1) v2))]) rfl ?_
      refine go_goto kk273_0.2.2.2.2.2 ?_
      exact HX10 (w32 (v2 + 1)) (inR_w32 _) g37 e38 (some (sR (g (g v1 1) v2))) rfl
  · exact tjT_take_70 hd hg hK0 h1 (some (sI v2)) rfl u3 w3
theorem tlT_take_10 {Φ : ev_P} {d : Nat} (hd : 1 ≤ d) {v0 v1 : Int} (hK0 : kd v0 = 5) (h1 : RfR v1) : ∀ n : Nat, ∀ (v2 : Int) (h2 : InR v2) (g : gH) (hg : HR g) (u3 : Option ev_V) (w3 : nwo u3), Go Φ pr_P fN 0 (lT_take_10 v0 v1 n v2 g) d pr_m273 10 [some (sR v0), some (sR v1), some (sI v2), u3] [] g 0 0 := by
  intro n
  induction n with
  | zero => intros; exact go_none
  | succ n ih => exact tbT_take_10 hd hK0 h1 ih
theorem tfT_take {Φ : ev_P} {d : Nat} (hd : 1 ≤ d) {g : gH} (hg : HR g) {v0 v1 : Int} (hK0 : kd v0 = 5) (h1 : RfR v1) : Go Φ pr_P fN 0 (fT_take g v0 v1) d (pr_P 273) 0 (ev_loc (pr_P 273).1 [(sR v0), (sR v1)]) [] g 0 0 := by
  show Go Φ pr_P fN 0 (fT_take g v0 v1) d pr_m273 0 [some (sR v0), some (sR v1), none, none] [] g 0 0
  unfold fT_take
  refine go_aload kk273_0.1.1.1.1.1.1 rfl ?_
  refine go_aload kk273_0.1.1.1.1.1.2 rfl ?_
  refine go_ck (fun q1 => ?_)
  refine go_getI (bI := 5) kk273_0.1.1.1.1.2 hg q1 (by decide) rfl rfl (fun r2 => ?_)
  refine go_putI (bI := 5) kk273_0.1.1.1.2.1 hg hK0 (by decide) rfl rfl r2 (fun g3 e4 => ?_)
  refine go_int kk273_0.1.1.1.2.2 0 rfl ?_
  refine go_istore kk273_0.1.1.2.1.1.1 rfl (loc2 := [some (sR v0), some (sR v1), some (sI 0), none]) rfl ?_
  exact tlT_take_10 hd hK0 h1 fu 0 (inR_b (Or.inl rfl)) g3 e4 none rfl
theorem tjC_loadTree_36 {Φ : ev_P} {d : Nat} (hd : 6 ≤ d) {g : gH} (hg : HR g) {v0 : Int} (hK0 : kd v0 = 6) (u1 : Option ev_V) (w1 : nwo u1) (u2 : Option ev_V) (w2 : nwo u2) : Go Φ pr_P fN 1 (jC_loadTree_36 g v0 ) d pr_m3 36 [some (sR v0), u1, u2] [] g 0 0 := by
  unfold jC_loadTree_36
  refine go_aload kk3_0.1.2.1.2.2 rfl ?_
  refine go_getR (bI := 4) kk3_0.1.2.2.1.1.1 hg hK0 (by decide) rfl rfl (fun r17 => ?_)
  refine go_ck (fun q18 => ?_)
  refine go_getR (bI := 0) kk3_0.1.2.2.1.1.2 hg q18 (by decide) rfl rfl (fun r19 => ?_)
  refine go_int kk3_0.1.2.2.1.2 0 rfl ?_
  refine go_ck (fun q20 => ?_)
  refine go_putI (bI := 1) kk3_0.1.2.2.2.1.1 hg q20 (by decide) rfl rfl (inR_b (Or.inl rfl)) (fun g21 e22 => ?_)
  refine go_aload kk3_0.1.2.2.2.1.2 rfl ?_
  refine go_getR (bI := 4) kk3_0.1.2.2.2.2 e22 hK0 (by decide) rfl rfl (fun r23 => ?_)
  refine go_ck (fun q24 => ?_)
  refine go_getI (bI := 2) kk3_0.2.1.1.1.1.1 e22 q24 (by decide) rfl rfl (fun r25 => ?_)
  refine go_ifeq kk3_0.2.1.1.1.1.2 r25 (fun c26 => ?_) (fun c27 => ?_)
  · refine go_aload kk3_0.2.1.1.2.1.1 rfl ?_
    refine go_getR (bI := 0) kk3_0.2.1.1.2.1.2 e22 hK0 (by decide) rfl rfl (fun r28 => ?_)
    refine go_aload kk3_0.2.1.1.2.2 rfl ?_
    refine go_getR (bI := 4) kk3_0.2.1.2.1.1.1 e22 hK0 (by decide) rfl rfl (fun r29 => ?_)
    refine go_getR (bI := 1) kk3_0.2.1.2.1.1.2 e22 q24 (by decide) rfl rfl (fun r30 => ?_)
    refine go_ck (fun q31 => ?_)
    refine go_callN0 kk3_0.2.1.2.1.2 rfl rfl rfl ⟨by decide, _, rfl, q31⟩ ⟨Nat.zero_le _, Nat.zero_le _⟩ (by omega) (tfT_take (by omega) e22 q31  r30) (fun y32 g34 e35 => ?_)
    refine go_aload kk3_0.2.1.2.2.1.1 rfl ?_
    refine go_getR (bI := 3) kk3_0.2.1.2.2.1.2 e35 hK0 (by decide) rfl rfl (fun r36 => ?_)
    refine go_int kk3_0.2.1.2.2.2 0 rfl ?_
    refine go_ck (fun q37 => ?_)
    refine go_putI (bI := 1) kk3_0.2.2.1.1.1.1 e35 q37 (by decide) rfl rfl (inR_b (Or.inl rfl)) (fun g38 e39 => ?_)
    refine go_aload kk3_0.2.2.1.1.1.2 rfl ?_
    refine go_int kk3_0.2.2.1.1.2 0 rfl ?_
    refine go_putB (bI := 6) kk3_0.2.2.1.2.1.1 e39 hK0 (by decide) rfl rfl (Or.inl rfl) (fun g40 e41 => ?_)
    refine go_aload kk3_0.2.2.1.2.1.2 rfl ?_
    refine go_getR (bI := 5) kk3_0.2.2.1.2.2 e41 hK0 (by decide) rfl rfl (fun r42 => ?_)
    refine go_int kk3_0.2.2.2.1.1.1 0 rfl ?_
    refine go_ck (fun q43 => ?_)
    refine go_putI (bI := 1) kk3_0.2.2.2.1.1.2 e41 q43 (by decide) rfl rfl (inR_b (Or.inl rfl)) (fun g44 e45 => ?_)
    refine go_aload kk3_0.2.2.2.1.2 rfl ?_
    refine go_getR (bI := 0) kk3_0.2.2.2.2.1.1 e45 hK0 (by decide) rfl rfl (fun r46 => ?_)
    refine go_ck (fun q47 => ?_)
    refine go_getI (bI := 5) kk3_0.2.2.2.2.1.2 e45 q47 (by decide) rfl rfl (fun r48 => ?_)
    exact go_iret kk3_0.2.2.2.2.2 e45 r48 ⟨Nat.zero_le _, Nat.zero_le _⟩ rfl
  · refine go_int kk3_0.2.1.1.1.2.1 (-1) rfl ?_
    exact go_iret kk3_0.2.1.1.1.2.2 e22 (inR_of (by decide)) ⟨Nat.zero_le _, Nat.zero_le _⟩ rfl
theorem tbC_loadTree_11 {Φ : ev_P} {d : Nat} (hd : 6 ≤ d) {v0 : Int} (hK0 : kd v0 = 6) {X11 : Int → Int → gH → Option (Int × gH)} (HX11 : ∀ (v1 : Int) (h1 : B01 v1) (v2 : Int) (h2 : InR v2) (g : gH) (hg : HR g), Go Φ pr_P fN 1 (X11 v1 v2 g) d pr_m3 11 [some (sR v0), some (sI v1), some (sI v2)] [] g 0 0) : ∀ (v1 : Int) (h1 : B01 v1) (v2 : Int) (h2 : InR v2) (g : gH) (hg : HR g), Go Φ pr_P fN 1 (bC_loadTree_11 v0 X11 v1 v2 g) d pr_m3 11 [some (sR v0), some (sI v1), some (sI v2)] [] g 0 0 := by
  intro v1 h1 v2 h2 g hg
  unfold bC_loadTree_11
  refine go_iload kk3_0.1.1.2.1.1.1 rfl ?_
  refine go_int kk3_0.1.1.2.1.1.2 500 rfl ?_
  refine go_cmlt kk3_0.1.1.2.1.2 h2 (inR_of (by decide)) (fun c7 => ?_) (fun c8 => ?_)
  · refine go_iload kk3_0.1.1.2.2.1.1 rfl ?_
    refine go_ifeq kk3_0.1.1.2.2.1.2 (inR_b h1) (fun c9 => ?_) (fun c10 => ?_)
    · exact tjC_loadTree_36 hd hg hK0 (some (sI v1)) rfl (some (sI v2)) rfl
    · refine go_aload kk3_0.1.1.2.2.2 rfl ?_
      refine go_getR (bI := 4) kk3_0.1.2.1.1.1.1 hg hK0 (by decide) rfl rfl (fun r11 => ?_)
      refine go_ck (fun q12 => ?_)
      refine go_callN3 kk3_0.1.2.1.1.1.2 rfl rfl rfl ⟨by decide, _, rfl, q12⟩ ⟨Nat.zero_le _, Nat.zero_le _⟩ (by omega) (tfS_takeStatement (by omega) hg q12 ) (fun y13 g15 r14 e16 => ?_)
      refine go_istore kk3_0.1.2.1.1.2 rfl (loc2 := [some (sR v0), some (sI y13), some (sI v2)]) rfl ?_
      refine go_iinc kk3_0.1.2.1.2.1.1 rfl rfl 1 rfl (loc2 := [some (sR v0), some (sI y13), some (sI (w32 (v2 + 1)))]) rfl ?_
      refine go_goto kk3_0.1.2.1.2.1.2 ?_
      exact HX11 y13 r14 (w32 (v2 + 1)) (inR_w32 _) g15 e16
  · exact tjC_loadTree_36 hd hg hK0 (some (sI v1)) rfl (some (sI v2)) rfl
theorem tlC_loadTree_11 {Φ : ev_P} {d : Nat} (hd : 6 ≤ d) {v0 : Int} (hK0 : kd v0 = 6) : ∀ n : Nat, ∀ (v1 : Int) (h1 : B01 v1) (v2 : Int) (h2 : InR v2) (g : gH) (hg : HR g), Go Φ pr_P fN 1 (lC_loadTree_11 v0 n v1 v2 g) d pr_m3 11 [some (sR v0), some (sI v1), some (sI v2)] [] g 0 0 := by
  intro n
  induction n with
  | zero => intros; exact go_none
  | succ n ih => exact tbC_loadTree_11 hd hK0 ih
theorem tfC_loadTree {Φ : ev_P} {d : Nat} (hd : 6 ≤ d) {g : gH} (hg : HR g) {v0 : Int} (hK0 : kd v0 = 6) : Go Φ pr_P fN 1 (fC_loadTree g v0) d (pr_P 3) 0 (ev_loc (pr_P 3).1 [(sR v0)]) [] g 0 0 := by
  show Go Φ pr_P fN 1 (fC_loadTree g v0) d pr_m3 0 [some (sR v0), none, none] [] g 0 0
  unfold fC_loadTree
  refine go_aload kk3_0.1.1.1.1.1.1 rfl ?_
  refine go_getR (bI := 4) kk3_0.1.1.1.1.1.2 hg hK0 (by decide) rfl rfl (fun r1 => ?_)
  refine go_ck (fun q2 => ?_)
  refine go_callN0 kk3_0.1.1.1.1.2.1 rfl rfl rfl ⟨by decide, _, rfl, q2⟩ ⟨Nat.zero_le _, Nat.zero_le _⟩ (by omega) (tfS_begin (by omega) hg q2 ) (fun y3 g5 e6 => ?_)
  refine go_int kk3_0.1.1.1.1.2.2 1 rfl ?_
  refine go_istore kk3_0.1.1.1.2.1.1 rfl (loc2 := [some (sR v0), some (sI 1), none]) rfl ?_
  refine go_int kk3_0.1.1.1.2.1.2 0 rfl ?_
  refine go_istore kk3_0.1.1.1.2.2 rfl (loc2 := [some (sR v0), some (sI 1), some (sI 0)]) rfl ?_
  exact tlC_loadTree_11 hd hK0 fu 1 (Or.inr rfl) 0 (inR_b (Or.inl rfl)) g5 e6
theorem tfC_errorCode {Φ : ev_P} {d : Nat} (hd : 0 ≤ d) {g : gH} (hg : HR g) {v0 : Int} (hK0 : kd v0 = 6) : Go Φ pr_P (fP g) 1 (fC_errorCode g v0) d (pr_P 4) 0 (ev_loc (pr_P 4).1 [(sR v0)]) [] g 0 0 := by
  show Go Φ pr_P (fP g) 1 (fC_errorCode g v0) d pr_m4 0 [some (sR v0)] [] g 0 0
  unfold fC_errorCode
  refine go_aload kk4_0.1.1 rfl ?_
  refine go_getR (bI := 4) kk4_0.1.2 hg hK0 (by decide) rfl rfl (fun r1 => ?_)
  refine go_ck (fun q2 => ?_)
  refine go_getI (bI := 2) kk4_0.2.1 hg q2 (by decide) rfl rfl (fun r3 => ?_)
  exact go_iret kk4_0.2.2 hg r3 ⟨Nat.zero_le _, Nat.zero_le _⟩ rfl
theorem tfC_errorOffset {Φ : ev_P} {d : Nat} (hd : 0 ≤ d) {g : gH} (hg : HR g) {v0 : Int} (hK0 : kd v0 = 6) : Go Φ pr_P (fP g) 1 (fC_errorOffset g v0) d (pr_P 5) 0 (ev_loc (pr_P 5).1 [(sR v0)]) [] g 0 0 := by
  show Go Φ pr_P (fP g) 1 (fC_errorOffset g v0) d pr_m5 0 [some (sR v0)] [] g 0 0
  unfold fC_errorOffset
  refine go_aload kk5_0.1.1 rfl ?_
  refine go_getR (bI := 4) kk5_0.1.2 hg hK0 (by decide) rfl rfl (fun r1 => ?_)
  refine go_ck (fun q2 => ?_)
  refine go_getI (bI := 3) kk5_0.2.1 hg q2 (by decide) rfl rfl (fun r3 => ?_)
  exact go_iret kk5_0.2.2 hg r3 ⟨Nat.zero_le _, Nat.zero_le _⟩ rfl
theorem tfC_rule {Φ : ev_P} {d : Nat} (hd : 0 ≤ d) {g : gH} (hg : HR g) {v0 v1 : Int} (hK0 : kd v0 = 6) (h1 : InR v1) : Go Φ pr_P (fP g) 1 (fC_rule g v0 v1) d (pr_P 9) 0 (ev_loc (pr_P 9).1 [(sR v0), (sI v1)]) [] g 0 0 := by
  show Go Φ pr_P (fP g) 1 (fC_rule g v0 v1) d pr_m9 0 [some (sR v0), some (sI v1)] [] g 0 0
  unfold fC_rule
  refine go_iload kk9_0.1.1.1.1 rfl ?_
  refine go_iflt kk9_0.1.1.1.2 h1 (fun c1 => ?_) (fun c2 => ?_)
  · refine go_int kk9_0.1.2.1.2 (-1) rfl ?_
    refine go_goto kk9_0.1.2.2 ?_
    exact go_iret kk9_0.2.2.2 hg (inR_of (by decide)) ⟨Nat.zero_le _, Nat.zero_le _⟩ rfl
  · refine go_iload kk9_0.1.1.2.1 rfl ?_
    refine go_int kk9_0.1.1.2.2 5 rfl ?_
    refine go_cmlt kk9_0.1.2.1.1 h1 (inR_of (by decide)) (fun c3 => ?_) (fun c4 => ?_)
    · refine go_aload kk9_0.2.1.1.1 rfl ?_
      refine go_getR (bI := 0) kk9_0.2.1.1.2 hg hK0 (by decide) rfl rfl (fun r5 => ?_)
      refine go_ck (fun q6 => ?_)
      refine go_getR (bI := 3) kk9_0.2.1.2 hg q6 (by decide) rfl rfl (fun r7 => ?_)
      refine go_iload kk9_0.2.2.1.1 rfl ?_
      refine go_ck (fun q9 => ?_)
      refine go_iald kk9_0.2.2.1.2 hg q9 (fun r8 => ?_)
      exact go_iret kk9_0.2.2.2 hg r8 ⟨Nat.zero_le _, Nat.zero_le _⟩ rfl
    · refine go_int kk9_0.1.2.1.2 (-1) rfl ?_
      refine go_goto kk9_0.1.2.2 ?_
      exact go_iret kk9_0.2.2.2 hg (inR_of (by decide)) ⟨Nat.zero_le _, Nat.zero_le _⟩ rfl
theorem tfP_isRunning {Φ : ev_P} {d : Nat} (hd : 0 ≤ d) {g : gH} (hg : HR g) {v0 : Int} (hK0 : kd v0 = 3) : Go Φ pr_P (fP g) 3 (fP_isRunning g v0) d (pr_P 235) 0 (ev_loc (pr_P 235).1 [(sR v0)]) [] g 0 0 := by
  show Go Φ pr_P (fP g) 3 (fP_isRunning g v0) d pr_m235 0 [some (sR v0)] [] g 0 0
  unfold fP_isRunning
  refine go_aload kk235_0.1.1.1 rfl ?_
  refine go_getI (bI := 1) kk235_0.1.1.2 hg hK0 (by decide) rfl rfl (fun r1 => ?_)
  refine go_ifeq kk235_0.1.2.1 r1 (fun c2 => ?_) (fun c3 => ?_)
  · refine go_int kk235_0.1.2.2 1 rfl ?_
    refine go_goto kk235_0.2.1.1 ?_
    exact go_bret kk235_0.2.2 hg (Or.inr rfl) ⟨Nat.zero_le _, Nat.zero_le _⟩ rfl
  · refine go_int kk235_0.2.1.2 0 rfl ?_
    exact go_bret kk235_0.2.2 hg (Or.inl rfl) ⟨Nat.zero_le _, Nat.zero_le _⟩ rfl
theorem tbP_countAbove_7 {Φ : ev_P} {d : Nat} (hd : 0 ≤ d) {g : gH} (hg : HR g) {X7 : Int → Int → Option Int} (HX7 : ∀ (v1 : Int) (h1 : InR v1) (v2 : Int) (h2 : RfR v2) (u0 : Option ev_V) (w0 : nwo u0), Go Φ pr_P (fP g) 1 (X7 v1 v2) d pr_m243 7 [u0, some (sI v1), some (sR v2)] [] g 0 0) : ∀ (v1 : Int) (h1 : InR v1) (v2 : Int) (h2 : RfR v2) (u0 : Option ev_V) (w0 : nwo u0), Go Φ pr_P (fP g) 1 (bP_countAbove_7 g X7 v1 v2) d pr_m243 7 [u0, some (sI v1), some (sR v2)] [] g 0 0 := by
  intro v1 h1 v2 h2 u0 w0
  unfold bP_countAbove_7
  refine go_aload kk243_0.1.2.1.2 rfl ?_
  refine go_isnull kk243_0.1.2.2  (fun c2 => ?_) (fun c3 => ?_)
  · refine go_iload kk243_0.2.2.1.2 rfl ?_
    exact go_iret kk243_0.2.2.2 hg h1 ⟨Nat.zero_le _, Nat.zero_le _⟩ rfl
  · refine go_iinc kk243_0.2.1.1.1 rfl w0 1 rfl (loc2 := [u0, some (sI (w32 (v1 + 1))), some (sR v2)]) rfl ?_
    refine go_aload kk243_0.2.1.1.2 rfl ?_
    refine go_ck (fun q4 => ?_)
    refine go_getR (bI := 2) kk243_0.2.1.2.1 hg q4 (by decide) rfl rfl (fun r5 => ?_)
    refine go_astore kk243_0.2.1.2.2 rfl (loc2 := [u0, some (sI (w32 (v1 + 1))), some (sR (g v2 2))]) rfl ?_
    refine go_goto kk243_0.2.2.1.1 ?_
    exact HX7 (w32 (v1 + 1)) (inR_w32 _) (g v2 2) r5 u0 w0
theorem tlP_countAbove_7 {Φ : ev_P} {d : Nat} (hd : 0 ≤ d) {g : gH} (hg : HR g) : ∀ n : Nat, ∀ (v1 : Int) (h1 : InR v1) (v2 : Int) (h2 : RfR v2) (u0 : Option ev_V) (w0 : nwo u0), Go Φ pr_P (fP g) 1 (lP_countAbove_7 g n v1 v2) d pr_m243 7 [u0, some (sI v1), some (sR v2)] [] g 0 0 := by
  intro n
  induction n with
  | zero => intros; exact go_none
  | succ n ih => exact tbP_countAbove_7 hd hg ih
theorem tfP_countAbove {Φ : ev_P} {d : Nat} (hd : 0 ≤ d) {g : gH} (hg : HR g) {v0 : Int} (hK0 : kd v0 = 3) : Go Φ pr_P (fP g) 1 (fP_countAbove g v0) d (pr_P 243) 0 (ev_loc (pr_P 243).1 [(sR v0)]) [] g 0 0 := by
  show Go Φ pr_P (fP g) 1 (fP_countAbove g v0) d pr_m243 0 [some (sR v0), none, none] [] g 0 0
  unfold fP_countAbove
  refine go_int kk243_0.1.1.1.1 0 rfl ?_
  refine go_istore kk243_0.1.1.1.2 rfl (loc2 := [some (sR v0), some (sI 0), none]) rfl ?_
  refine go_aload kk243_0.1.1.2.1 rfl ?_
  refine go_getR (bI := 2) kk243_0.1.1.2.2 hg hK0 (by decide) rfl rfl (fun r1 => ?_)
  refine go_astore kk243_0.1.2.1.1 rfl (loc2 := [some (sR v0), some (sI 0), some (sR (g v0 2))]) rfl ?_
  exact tlP_countAbove_7 hd hg fu 0 (inR_b (Or.inl rfl)) (g v0 2) r1 (some (sR v0)) rfl
theorem tbC_atDepth_17 {Φ : ev_P} {d : Nat} (hd : 1 ≤ d) {g : gH} (hg : HR g) {v1 v3 v4 : Int} (h1 : InR v1) (h3 : RfR v3) (h4 : InR v4) {X17 : Int → Int → Option Int} (HX17 : ∀ (v2 : Int) (h2 : InR v2) (v5 : Int) (h5 : InR v5) (u0 : Option ev_V) (w0 : nwo u0) (u6 : Option ev_V) (w6 : nwo u6), Go Φ pr_P (fP g) 1 (X17 v2 v5) d pr_m15 17 [u0, some (sI v1), some (sI v2), some (sR v3), some (sI v4), some (sI v5), u6] [] g 0 0) : ∀ (v2 : Int) (h2 : InR v2) (v5 : Int) (h5 : InR v5) (u0 : Option ev_V) (w0 : nwo u0) (u6 : Option ev_V) (w6 : nwo u6), Go Φ pr_P (fP g) 1 (bC_atDepth_17 g v1 v3 v4 X17 v2 v5) d pr_m15 17 [u0, some (sI v1), some (sI v2), some (sR v3), some (sI v4), some (sI v5), u6] [] g 0 0 := by
  intro v2 h2 v5 h5 u0 w0 u6 w6
  unfold bC_atDepth_17
  refine go_iload kk15_0.1.2.1.2.2 rfl ?_
  refine go_iload kk15_0.1.2.2.1.1 rfl ?_
  refine go_cmlt kk15_0.1.2.2.1.2 h5 h4 (fun c6 => ?_) (fun c7 => ?_)
  · refine go_aload kk15_0.1.2.2.2 rfl ?_
    refine go_iload kk15_0.2.1.1.1.1 rfl ?_
    refine go_ck (fun q9 => ?_)
    refine go_pald kk15_0.2.1.1.1.2 hg q9 (fun r8 => ?_)
    refine go_astore kk15_0.2.1.1.2.1 rfl (loc2 := [u0, some (sI v1), some (sI v2), some (sR v3), some (sI v4), some (sI v5), some (sR (g v3 v5))]) rfl ?_
    refine go_aload kk15_0.2.1.1.2.2 rfl ?_
    refine go_ck (fun q10 => ?_)
    refine go_callP3 kk15_0.2.1.2.1.1 rfl rfl rfl ⟨by decide, _, rfl, q10⟩ ⟨Nat.zero_le _, Nat.zero_le _⟩ (by omega) (tfP_isRunning (by omega) hg q10 ) (fun y11 r12 => ?_)
    refine go_ifeq kk15_0.2.1.2.1.2 (inR_b r12) (fun c15 => ?_) (fun c16 => ?_)
    · refine go_iinc kk15_0.2.2.1.2.2 rfl rfl 1 rfl (loc2 := [u0, some (sI v1), some (sI v2), some (sR v3), some (sI v4), some (sI (w32 (v5 + 1))), some (sR (g v3 v5))]) rfl ?_
      refine go_goto kk15_0.2.2.2.1.1 ?_
      exact HX17 v2 h2 (w32 (v5 + 1)) (inR_w32 _) u0 w0 (some (sR (g v3 v5))) rfl
    · refine go_aload kk15_0.2.1.2.2.1 rfl ?_
      refine go_callP1 kk15_0.2.1.2.2.2 rfl rfl rfl ⟨by decide, _, rfl, q10⟩ ⟨Nat.zero_le _, Nat.zero_le _⟩ (by omega) (tfP_countAbove (by omega) hg q10 ) (fun y17 r18 => ?_)
      refine go_iload kk15_0.2.2.1.1.1 rfl ?_
      refine go_cmeq kk15_0.2.2.1.1.2 r18 h1 (fun c21 => ?_) (fun c22 => ?_)
      · refine go_iinc kk15_0.2.2.1.2.1 rfl rfl 1 rfl (loc2 := [u0, some (sI v1), some (sI (w32 (v2 + 1))), some (sR v3), some (sI v4), some (sI v5), some (sR (g v3 v5))]) rfl ?_
        refine go_iinc kk15_0.2.2.1.2.2 rfl rfl 1 rfl (loc2 := [u0, some (sI v1), some (sI (w32 (v2 + 1))), some (sR v3), some (sI v4), some (sI (w32 (v5 + 1))), some (sR (g v3 v5))]) rfl ?_
        refine go_goto kk15_0.2.2.2.1.1 ?_
        exact HX17 (w32 (v2 + 1)) (inR_w32 _) (w32 (v5 + 1)) (inR_w32 _) u0 w0 (some (sR (g v3 v5))) rfl
      · refine go_iinc kk15_0.2.2.1.2.2 rfl rfl 1 rfl (loc2 := [u0, some (sI v1), some (sI v2), some (sR v3), some (sI v4), some (sI (w32 (v5 + 1))), some (sR (g v3 v5))]) rfl ?_
        refine go_goto kk15_0.2.2.2.1.1 ?_
        exact HX17 v2 h2 (w32 (v5 + 1)) (inR_w32 _) u0 w0 (some (sR (g v3 v5))) rfl
  · refine go_iload kk15_0.2.2.2.1.2 rfl ?_
    exact go_iret kk15_0.2.2.2.2 hg h2 ⟨Nat.zero_le _, Nat.zero_le _⟩ rfl
theorem tlC_atDepth_17 {Φ : ev_P} {d : Nat} (hd : 1 ≤ d) {g : gH} (hg : HR g) {v1 v3 v4 : Int} (h1 : InR v1) (h3 : RfR v3) (h4 : InR v4) : ∀ n : Nat, ∀ (v2 : Int) (h2 : InR v2) (v5 : Int) (h5 : InR v5) (u0 : Option ev_V) (w0 : nwo u0) (u6 : Option ev_V) (w6 : nwo u6), Go Φ pr_P (fP g) 1 (lC_atDepth_17 g v1 v3 v4 n v2 v5) d pr_m15 17 [u0, some (sI v1), some (sI v2), some (sR v3), some (sI v4), some (sI v5), u6] [] g 0 0 := by
  intro n
  induction n with
  | zero => intros; exact go_none
  | succ n ih => exact tbC_atDepth_17 hd hg h1 h3 h4 ih
theorem tfC_atDepth {Φ : ev_P} {d : Nat} (hd : 1 ≤ d) {g : gH} (hg : HR g) {v0 v1 : Int} (hK0 : kd v0 = 6) (h1 : InR v1) : Go Φ pr_P (fP g) 1 (fC_atDepth g v0 v1) d (pr_P 15) 0 (ev_loc (pr_P 15).1 [(sR v0), (sI v1)]) [] g 0 0 := by
  show Go Φ pr_P (fP g) 1 (fC_atDepth g v0 v1) d pr_m15 0 [some (sR v0), some (sI v1), none, none, none, none, none] [] g 0 0
  unfold fC_atDepth
  refine go_int kk15_0.1.1.1.1.1 0 rfl ?_
  refine go_istore kk15_0.1.1.1.1.2 rfl (loc2 := [some (sR v0), some (sI v1), some (sI 0), none, none, none, none]) rfl ?_
  refine go_aload kk15_0.1.1.1.2.1 rfl ?_
  refine go_getR (bI := 0) kk15_0.1.1.1.2.2 hg hK0 (by decide) rfl rfl (fun r1 => ?_)
  refine go_ck (fun q2 => ?_)
  refine go_getR (bI := 1) kk15_0.1.1.2.1.1 hg q2 (by decide) rfl rfl (fun r3 => ?_)
  refine go_astore kk15_0.1.1.2.1.2 rfl (loc2 := [some (sR v0), some (sI v1), some (sI 0), some (sR (g (g v0 0) 1)), none, none, none]) rfl ?_
  refine go_aload kk15_0.1.1.2.2.1 rfl ?_
  refine go_ck (fun q5 => ?_)
  refine go_alen kk15_0.1.1.2.2.2 (ka_24 q5) (fun r4 => ?_)
  refine go_istore kk15_0.1.2.1.1.1 rfl (loc2 := [some (sR v0), some (sI v1), some (sI 0), some (sR (g (g v0 0) 1)), some (sI (sz (g (g v0 0) 1))), none, none]) rfl ?_
  refine go_int kk15_0.1.2.1.1.2 0 rfl ?_
  refine go_istore kk15_0.1.2.1.2.1 rfl (loc2 := [some (sR v0), some (sI v1), some (sI 0), some (sR (g (g v0 0) 1)), some (sI (sz (g (g v0 0) 1))), some (sI 0), none]) rfl ?_
  exact tlC_atDepth_17 hd hg h1 r3 r4 fu 0 (inR_b (Or.inl rfl)) 0 (inR_b (Or.inl rfl)) (some (sR v0)) rfl none rfl
theorem tbT_greatestDepth_13 {Φ : ev_P} {d : Nat} (hd : 1 ≤ d) {g : gH} (hg : HR g) {v2 v3 : Int} (h2 : RfR v2) (h3 : InR v3) {X13 : Int → Int → Option Int} (HX13 : ∀ (v1 : Int) (h1 : InR v1) (v4 : Int) (h4 : InR v4) (u0 : Option ev_V) (w0 : nwo u0) (u5 : Option ev_V) (w5 : nwo u5), Go Φ pr_P (fP g) 1 (X13 v1 v4) d pr_m278 13 [u0, some (sI v1), some (sR v2), some (sI v3), some (sI v4), u5] [] g 0 0) : ∀ (v1 : Int) (h1 : InR v1) (v4 : Int) (h4 : InR v4) (u0 : Option ev_V) (w0 : nwo u0) (u5 : Option ev_V) (w5 : nwo u5), Go Φ pr_P (fP g) 1 (bT_greatestDepth_13 g v2 v3 X13 v1 v4) d pr_m278 13 [u0, some (sI v1), some (sR v2), some (sI v3), some (sI v4), u5] [] g 0 0 := by
  intro v1 h1 v4 h4 u0 w0 u5 w5
  unfold bT_greatestDepth_13
  refine go_iload kk278_0.1.2.1.2.1 rfl ?_
  refine go_iload kk278_0.1.2.1.2.2 rfl ?_
  refine go_cmlt kk278_0.1.2.2.1.1 h4 h3 (fun c4 => ?_) (fun c5 => ?_)
  · refine go_aload kk278_0.1.2.2.1.2 rfl ?_
    refine go_iload kk278_0.1.2.2.2.1 rfl ?_
    refine go_ck (fun q7 => ?_)
    refine go_pald kk278_0.1.2.2.2.2 hg q7 (fun r6 => ?_)
    refine go_astore kk278_0.2.1.1.1.1 rfl (loc2 := [u0, some (sI v1), some (sR v2), some (sI v3), some (sI v4), some (sR (g v2 v4))]) rfl ?_
    refine go_aload kk278_0.2.1.1.1.2 rfl ?_
    refine go_ck (fun q8 => ?_)
    refine go_callP3 kk278_0.2.1.1.2.1 rfl rfl rfl ⟨by decide, _, rfl, q8⟩ ⟨Nat.zero_le _, Nat.zero_le _⟩ (by omega) (tfP_isRunning (by omega) hg q8 ) (fun y9 r10 => ?_)
    refine go_ifeq kk278_0.2.1.1.2.2 (inR_b r10) (fun c13 => ?_) (fun c14 => ?_)
    · refine go_iinc kk278_0.2.2.1.2.2 rfl rfl 1 rfl (loc2 := [u0, some (sI v1), some (sR v2), some (sI v3), some (sI (w32 (v4 + 1))), some (sR (g v2 v4))]) rfl ?_
      refine go_goto kk278_0.2.2.2.1.1 ?_
      exact HX13 v1 h1 (w32 (v4 + 1)) (inR_w32 _) u0 w0 (some (sR (g v2 v4))) rfl
    · refine go_aload kk278_0.2.1.2.1.1 rfl ?_
      refine go_callP1 kk278_0.2.1.2.1.2 rfl rfl rfl ⟨by decide, _, rfl, q8⟩ ⟨Nat.zero_le _, Nat.zero_le _⟩ (by omega) (tfP_countAbove (by omega) hg q8 ) (fun y15 r16 => ?_)
      refine go_iload kk278_0.2.1.2.2.1 rfl ?_
      refine go_cmgt kk278_0.2.1.2.2.2 r16 h1 (fun c19 => ?_) (fun c20 => ?_)
      · refine go_aload kk278_0.2.2.1.1.1 rfl ?_
        refine go_callP1 kk278_0.2.2.1.1.2 rfl rfl rfl ⟨by decide, _, rfl, q8⟩ ⟨Nat.zero_le _, Nat.zero_le _⟩ (by omega) (tfP_countAbove (by omega) hg q8 ) (fun y21 r22 => ?_)
        refine go_istore kk278_0.2.2.1.2.1 w0 (loc2 := [u0, some (sI y21), some (sR v2), some (sI v3), some (sI v4), some (sR (g v2 v4))]) rfl ?_
        refine go_iinc kk278_0.2.2.1.2.2 rfl rfl 1 rfl (loc2 := [u0, some (sI y21), some (sR v2), some (sI v3), some (sI (w32 (v4 + 1))), some (sR (g v2 v4))]) rfl ?_
        refine go_goto kk278_0.2.2.2.1.1 ?_
        exact HX13 y21 r22 (w32 (v4 + 1)) (inR_w32 _) u0 w0 (some (sR (g v2 v4))) rfl
      · refine go_iinc kk278_0.2.2.1.2.2 rfl rfl 1 rfl (loc2 := [u0, some (sI v1), some (sR v2), some (sI v3), some (sI (w32 (v4 + 1))), some (sR (g v2 v4))]) rfl ?_
        refine go_goto kk278_0.2.2.2.1.1 ?_
        exact HX13 v1 h1 (w32 (v4 + 1)) (inR_w32 _) u0 w0 (some (sR (g v2 v4))) rfl
  · refine go_iload kk278_0.2.2.2.1.2 rfl ?_
    exact go_iret kk278_0.2.2.2.2 hg h1 ⟨Nat.zero_le _, Nat.zero_le _⟩ rfl
theorem tlT_greatestDepth_13 {Φ : ev_P} {d : Nat} (hd : 1 ≤ d) {g : gH} (hg : HR g) {v2 v3 : Int} (h2 : RfR v2) (h3 : InR v3) : ∀ n : Nat, ∀ (v1 : Int) (h1 : InR v1) (v4 : Int) (h4 : InR v4) (u0 : Option ev_V) (w0 : nwo u0) (u5 : Option ev_V) (w5 : nwo u5), Go Φ pr_P (fP g) 1 (lT_greatestDepth_13 g v2 v3 n v1 v4) d pr_m278 13 [u0, some (sI v1), some (sR v2), some (sI v3), some (sI v4), u5] [] g 0 0 := by
  intro n
  induction n with
  | zero => intros; exact go_none
  | succ n ih => exact tbT_greatestDepth_13 hd hg h2 h3 ih
theorem tfT_greatestDepth {Φ : ev_P} {d : Nat} (hd : 1 ≤ d) {g : gH} (hg : HR g) {v0 : Int} (hK0 : kd v0 = 5) : Go Φ pr_P (fP g) 1 (fT_greatestDepth g v0) d (pr_P 278) 0 (ev_loc (pr_P 278).1 [(sR v0)]) [] g 0 0 := by
  show Go Φ pr_P (fP g) 1 (fT_greatestDepth g v0) d pr_m278 0 [some (sR v0), none, none, none, none, none] [] g 0 0
  unfold fT_greatestDepth
  refine go_int kk278_0.1.1.1.1.1 0 rfl ?_
  refine go_istore kk278_0.1.1.1.1.2 rfl (loc2 := [some (sR v0), some (sI 0), none, none, none, none]) rfl ?_
  refine go_aload kk278_0.1.1.1.2.1 rfl ?_
  refine go_getR (bI := 1) kk278_0.1.1.1.2.2 hg hK0 (by decide) rfl rfl (fun r1 => ?_)
  refine go_astore kk278_0.1.1.2.1.1 rfl (loc2 := [some (sR v0), some (sI 0), some (sR (g v0 1)), none, none, none]) rfl ?_
  refine go_aload kk278_0.1.1.2.1.2 rfl ?_
  refine go_ck (fun q3 => ?_)
  refine go_alen kk278_0.1.1.2.2.1 (ka_24 q3) (fun r2 => ?_)
  refine go_istore kk278_0.1.1.2.2.2 rfl (loc2 := [some (sR v0), some (sI 0), some (sR (g v0 1)), some (sI (sz (g v0 1))), none, none]) rfl ?_
  refine go_int kk278_0.1.2.1.1.1 0 rfl ?_
  refine go_istore kk278_0.1.2.1.1.2 rfl (loc2 := [some (sR v0), some (sI 0), some (sR (g v0 1)), some (sI (sz (g v0 1))), some (sI 0), none]) rfl ?_
  exact tlT_greatestDepth_13 hd hg r1 r2 fu 0 (inR_b (Or.inl rfl)) 0 (inR_b (Or.inl rfl)) (some (sR v0)) rfl none rfl
/-! ===== the evaluator comes to what the functions tell (own work, by program: wip/p2/dec.py) ===== -/
theorem tfC_height {Φ : ev_P} {d : Nat} (hd : 2 ≤ d) {g : gH} (hg : HR g) {v0 : Int} (hK0 : kd v0 = 6) : Go Φ pr_P (fP g) 1 (fC_height g v0) d (pr_P 16) 0 (ev_loc (pr_P 16).1 [(sR v0)]) [] g 0 0 := by
  show Go Φ pr_P (fP g) 1 (fC_height g v0) d pr_m16 0 [some (sR v0)] [] g 0 0
  unfold fC_height
  refine go_aload kk16_0.1.1 rfl ?_
  refine go_getR (bI := 0) kk16_0.1.2 hg hK0 (by decide) rfl rfl (fun r1 => ?_)
  refine go_ck (fun q2 => ?_)
  refine go_callP1 kk16_0.2.1 rfl rfl rfl ⟨by decide, _, rfl, q2⟩ ⟨Nat.zero_le _, Nat.zero_le _⟩ (by omega) (tfT_greatestDepth (by omega) hg q2 ) (fun y3 r4 => ?_)
  exact go_iret kk16_0.2.2 hg r4 ⟨Nat.zero_le _, Nat.zero_le _⟩ rfl
theorem tbC_allRoom_16 {Φ : ev_P} {d : Nat} (hd : 1 ≤ d) {g : gH} (hg : HR g) {v2 v3 : Int} (h2 : RfR v2) (h3 : InR v3) {X16 : Int → Int → Option Int} (HX16 : ∀ (v1 : Int) (h1 : InR v1) (v4 : Int) (h4 : InR v4) (u0 : Option ev_V) (w0 : nwo u0) (u5 : Option ev_V) (w5 : nwo u5), Go Φ pr_P (fP g) 1 (X16 v1 v4) d pr_m36 16 [u0, some (sI v1), some (sR v2), some (sI v3), some (sI v4), u5] [] g 0 0) : ∀ (v1 : Int) (h1 : InR v1) (v4 : Int) (h4 : InR v4) (u0 : Option ev_V) (w0 : nwo u0) (u5 : Option ev_V) (w5 : nwo u5), Go Φ pr_P (fP g) 1 (bC_allRoom_16 g v2 v3 X16 v1 v4) d pr_m36 16 [u0, some (sI v1), some (sR v2), some (sI v3), some (sI v4), u5] [] g 0 0 := by
  intro v1 h1 v4 h4 u0 w0 u5 w5
  unfold bC_allRoom_16
  refine go_iload kk36_0.1.2.2.1.1 rfl ?_
  refine go_iload kk36_0.1.2.2.1.2 rfl ?_
  refine go_cmlt kk36_0.1.2.2.2 h4 h3 (fun c6 => ?_) (fun c7 => ?_)
  · refine go_aload kk36_0.2.1.1.1.1 rfl ?_
    refine go_iload kk36_0.2.1.1.1.2 rfl ?_
    refine go_ck (fun q9 => ?_)
    refine go_pald kk36_0.2.1.1.2.1 hg q9 (fun r8 => ?_)
    refine go_astore kk36_0.2.1.1.2.2 rfl (loc2 := [u0, some (sI v1), some (sR v2), some (sI v3), some (sI v4), some (sR (g v2 v4))]) rfl ?_
    refine go_iload kk36_0.2.1.2.1.1 rfl ?_
    refine go_aload kk36_0.2.1.2.1.2 rfl ?_
    refine go_ck (fun q10 => ?_)
    refine go_callP1 kk36_0.2.1.2.2 rfl rfl rfl ⟨by decide, _, rfl, q10⟩ ⟨Nat.zero_le _, Nat.zero_le _⟩ (by omega) (tfP_room (by omega) hg q10 ) (fun y11 r12 => ?_)
    refine go_iadd kk36_0.2.2.1.1.1 ?_
    refine go_istore kk36_0.2.2.1.1.2 w0 (loc2 := [u0, some (sI (w32 (v1 + y11))), some (sR v2), some (sI v3), some (sI v4), some (sR (g v2 v4))]) rfl ?_
    refine go_iinc kk36_0.2.2.1.2 rfl rfl 1 rfl (loc2 := [u0, some (sI (w32 (v1 + y11))), some (sR v2), some (sI v3), some (sI (w32 (v4 + 1))), some (sR (g v2 v4))]) rfl ?_
    refine go_goto kk36_0.2.2.2.1.1 ?_
    exact HX16 (w32 (v1 + y11)) (inR_w32 _) (w32 (v4 + 1)) (inR_w32 _) u0 w0 (some (sR (g v2 v4))) rfl
  · refine go_iload kk36_0.2.2.2.1.2 rfl ?_
    exact go_iret kk36_0.2.2.2.2 hg h1 ⟨Nat.zero_le _, Nat.zero_le _⟩ rfl
theorem tlC_allRoom_16 {Φ : ev_P} {d : Nat} (hd : 1 ≤ d) {g : gH} (hg : HR g) {v2 v3 : Int} (h2 : RfR v2) (h3 : InR v3) : ∀ n : Nat, ∀ (v1 : Int) (h1 : InR v1) (v4 : Int) (h4 : InR v4) (u0 : Option ev_V) (w0 : nwo u0) (u5 : Option ev_V) (w5 : nwo u5), Go Φ pr_P (fP g) 1 (lC_allRoom_16 g v2 v3 n v1 v4) d pr_m36 16 [u0, some (sI v1), some (sR v2), some (sI v3), some (sI v4), u5] [] g 0 0 := by
  intro n
  induction n with
  | zero => intros; exact go_none
  | succ n ih => exact tbC_allRoom_16 hd hg h2 h3 ih
theorem tfC_allRoom {Φ : ev_P} {d : Nat} (hd : 1 ≤ d) {g : gH} (hg : HR g) {v0 : Int} (hK0 : kd v0 = 6) : Go Φ pr_P (fP g) 1 (fC_allRoom g v0) d (pr_P 36) 0 (ev_loc (pr_P 36).1 [(sR v0)]) [] g 0 0 := by
  show Go Φ pr_P (fP g) 1 (fC_allRoom g v0) d pr_m36 0 [some (sR v0), none, none, none, none, none] [] g 0 0
  unfold fC_allRoom
  refine go_int kk36_0.1.1.1.1.1 0 rfl ?_
  refine go_istore kk36_0.1.1.1.1.2 rfl (loc2 := [some (sR v0), some (sI 0), none, none, none, none]) rfl ?_
  refine go_aload kk36_0.1.1.1.2.1 rfl ?_
  refine go_getR (bI := 0) kk36_0.1.1.1.2.2 hg hK0 (by decide) rfl rfl (fun r1 => ?_)
  refine go_ck (fun q2 => ?_)
  refine go_getR (bI := 1) kk36_0.1.1.2.1.1 hg q2 (by decide) rfl rfl (fun r3 => ?_)
  refine go_astore kk36_0.1.1.2.1.2 rfl (loc2 := [some (sR v0), some (sI 0), some (sR (g (g v0 0) 1)), none, none, none]) rfl ?_
  refine go_aload kk36_0.1.1.2.2 rfl ?_
  refine go_ck (fun q5 => ?_)
  refine go_alen kk36_0.1.2.1.1.1 (ka_24 q5) (fun r4 => ?_)
  refine go_istore kk36_0.1.2.1.1.2 rfl (loc2 := [some (sR v0), some (sI 0), some (sR (g (g v0 0) 1)), some (sI (sz (g (g v0 0) 1))), none, none]) rfl ?_
  refine go_int kk36_0.1.2.1.2.1 0 rfl ?_
  refine go_istore kk36_0.1.2.1.2.2 rfl (loc2 := [some (sR v0), some (sI 0), some (sR (g (g v0 0) 1)), some (sI (sz (g (g v0 0) 1))), some (sI 0), none]) rfl ?_
  exact tlC_allRoom_16 hd hg r3 r4 fu 0 (inR_b (Or.inl rfl)) 0 (inR_b (Or.inl rfl)) (some (sR v0)) rfl none rfl
theorem tbC_overfull_16 {Φ : ev_P} {d : Nat} (hd : 1 ≤ d) {g : gH} (hg : HR g) {v2 v3 : Int} (h2 : RfR v2) (h3 : InR v3) {X16 : Int → Int → Option Int} (HX16 : ∀ (v1 : Int) (h1 : InR v1) (v4 : Int) (h4 : InR v4) (u0 : Option ev_V) (w0 : nwo u0) (u5 : Option ev_V) (w5 : nwo u5), Go Φ pr_P (fP g) 1 (X16 v1 v4) d pr_m37 16 [u0, some (sI v1), some (sR v2), some (sI v3), some (sI v4), u5] [] g 0 0) : ∀ (v1 : Int) (h1 : InR v1) (v4 : Int) (h4 : InR v4) (u0 : Option ev_V) (w0 : nwo u0) (u5 : Option ev_V) (w5 : nwo u5), Go Φ pr_P (fP g) 1 (bC_overfull_16 g v2 v3 X16 v1 v4) d pr_m37 16 [u0, some (sI v1), some (sR v2), some (sI v3), some (sI v4), u5] [] g 0 0 := by
  intro v1 h1 v4 h4 u0 w0 u5 w5
  unfold bC_overfull_16
  refine go_iload kk37_0.1.2.1.2.2 rfl ?_
  refine go_iload kk37_0.1.2.2.1.1 rfl ?_
  refine go_cmlt kk37_0.1.2.2.1.2 h4 h3 (fun c6 => ?_) (fun c7 => ?_)
  · refine go_aload kk37_0.1.2.2.2.1 rfl ?_
    refine go_iload kk37_0.1.2.2.2.2 rfl ?_
    refine go_ck (fun q9 => ?_)
    refine go_pald kk37_0.2.1.1.1.1 hg q9 (fun r8 => ?_)
    refine go_astore kk37_0.2.1.1.1.2 rfl (loc2 := [u0, some (sI v1), some (sR v2), some (sI v3), some (sI v4), some (sR (g v2 v4))]) rfl ?_
    refine go_aload kk37_0.2.1.1.2.1 rfl ?_
    refine go_ck (fun q10 => ?_)
    refine go_callP3 kk37_0.2.1.1.2.2 rfl rfl rfl ⟨by decide, _, rfl, q10⟩ ⟨Nat.zero_le _, Nat.zero_le _⟩ (by omega) (tfP_isRunning (by omega) hg q10 ) (fun y11 r12 => ?_)
    refine go_ifeq kk37_0.2.1.2.1.1 (inR_b r12) (fun c15 => ?_) (fun c16 => ?_)
    · refine go_iinc kk37_0.2.2.1.2.2 rfl rfl 1 rfl (loc2 := [u0, some (sI v1), some (sR v2), some (sI v3), some (sI (w32 (v4 + 1))), some (sR (g v2 v4))]) rfl ?_
      refine go_goto kk37_0.2.2.2.1.1 ?_
      exact HX16 v1 h1 (w32 (v4 + 1)) (inR_w32 _) u0 w0 (some (sR (g v2 v4))) rfl
    · refine go_aload kk37_0.2.1.2.1.2 rfl ?_
      refine go_getI (bI := 3) kk37_0.2.1.2.2.1 hg q10 (by decide) rfl rfl (fun r17 => ?_)
      refine go_aload kk37_0.2.1.2.2.2 rfl ?_
      refine go_getI (bI := 4) kk37_0.2.2.1.1.1 hg q10 (by decide) rfl rfl (fun r18 => ?_)
      refine go_cmgt kk37_0.2.2.1.1.2 r17 r18 (fun c19 => ?_) (fun c20 => ?_)
      · refine go_iinc kk37_0.2.2.1.2.1 rfl w0 1 rfl (loc2 := [u0, some (sI (w32 (v1 + 1))), some (sR v2), some (sI v3), some (sI v4), some (sR (g v2 v4))]) rfl ?_
        refine go_iinc kk37_0.2.2.1.2.2 rfl rfl 1 rfl (loc2 := [u0, some (sI (w32 (v1 + 1))), some (sR v2), some (sI v3), some (sI (w32 (v4 + 1))), some (sR (g v2 v4))]) rfl ?_
        refine go_goto kk37_0.2.2.2.1.1 ?_
        exact HX16 (w32 (v1 + 1)) (inR_w32 _) (w32 (v4 + 1)) (inR_w32 _) u0 w0 (some (sR (g v2 v4))) rfl
      · refine go_iinc kk37_0.2.2.1.2.2 rfl rfl 1 rfl (loc2 := [u0, some (sI v1), some (sR v2), some (sI v3), some (sI (w32 (v4 + 1))), some (sR (g v2 v4))]) rfl ?_
        refine go_goto kk37_0.2.2.2.1.1 ?_
        exact HX16 v1 h1 (w32 (v4 + 1)) (inR_w32 _) u0 w0 (some (sR (g v2 v4))) rfl
  · refine go_iload kk37_0.2.2.2.1.2 rfl ?_
    exact go_iret kk37_0.2.2.2.2 hg h1 ⟨Nat.zero_le _, Nat.zero_le _⟩ rfl
theorem tlC_overfull_16 {Φ : ev_P} {d : Nat} (hd : 1 ≤ d) {g : gH} (hg : HR g) {v2 v3 : Int} (h2 : RfR v2) (h3 : InR v3) : ∀ n : Nat, ∀ (v1 : Int) (h1 : InR v1) (v4 : Int) (h4 : InR v4) (u0 : Option ev_V) (w0 : nwo u0) (u5 : Option ev_V) (w5 : nwo u5), Go Φ pr_P (fP g) 1 (lC_overfull_16 g v2 v3 n v1 v4) d pr_m37 16 [u0, some (sI v1), some (sR v2), some (sI v3), some (sI v4), u5] [] g 0 0 := by
  intro n
  induction n with
  | zero => intros; exact go_none
  | succ n ih => exact tbC_overfull_16 hd hg h2 h3 ih
theorem tfC_overfull {Φ : ev_P} {d : Nat} (hd : 1 ≤ d) {g : gH} (hg : HR g) {v0 : Int} (hK0 : kd v0 = 6) : Go Φ pr_P (fP g) 1 (fC_overfull g v0) d (pr_P 37) 0 (ev_loc (pr_P 37).1 [(sR v0)]) [] g 0 0 := by
  show Go Φ pr_P (fP g) 1 (fC_overfull g v0) d pr_m37 0 [some (sR v0), none, none, none, none, none] [] g 0 0
  unfold fC_overfull
  refine go_int kk37_0.1.1.1.1.1 0 rfl ?_
  refine go_istore kk37_0.1.1.1.1.2 rfl (loc2 := [some (sR v0), some (sI 0), none, none, none, none]) rfl ?_
  refine go_aload kk37_0.1.1.1.2.1 rfl ?_
  refine go_getR (bI := 0) kk37_0.1.1.1.2.2 hg hK0 (by decide) rfl rfl (fun r1 => ?_)
  refine go_ck (fun q2 => ?_)
  refine go_getR (bI := 1) kk37_0.1.1.2.1.1 hg q2 (by decide) rfl rfl (fun r3 => ?_)
  refine go_astore kk37_0.1.1.2.1.2 rfl (loc2 := [some (sR v0), some (sI 0), some (sR (g (g v0 0) 1)), none, none, none]) rfl ?_
  refine go_aload kk37_0.1.1.2.2.1 rfl ?_
  refine go_ck (fun q5 => ?_)
  refine go_alen kk37_0.1.1.2.2.2 (ka_24 q5) (fun r4 => ?_)
  refine go_istore kk37_0.1.2.1.1.1 rfl (loc2 := [some (sR v0), some (sI 0), some (sR (g (g v0 0) 1)), some (sI (sz (g (g v0 0) 1))), none, none]) rfl ?_
  refine go_int kk37_0.1.2.1.1.2 0 rfl ?_
  refine go_istore kk37_0.1.2.1.2.1 rfl (loc2 := [some (sR v0), some (sI 0), some (sR (g (g v0 0) 1)), some (sI (sz (g (g v0 0) 1))), some (sI 0), none]) rfl ?_
  exact tlC_overfull_16 hd hg r3 r4 fu 0 (inR_b (Or.inl rfl)) 0 (inR_b (Or.inl rfl)) (some (sR v0)) rfl none rfl
theorem tjC_meanDepth_57 {Φ : ev_P} {d : Nat} (hd : 1 ≤ d) {g : gH} (hg : HR g) {v1 v2 : Int} (h1 : InR v1) (h2 : InR v2) (u0 : Option ev_V) (w0 : nwo u0) (u3 : Option ev_V) (w3 : nwo u3) (u4 : Option ev_V) (w4 : nwo u4) (u5 : Option ev_V) (w5 : nwo u5) (u6 : Option ev_V) (w6 : nwo u6) : Go Φ pr_P (fP g) 5 (jC_meanDepth_57 g v1 v2 ) d pr_m41 57 [u0, some (sI v1), some (sI v2), u3, u4, u5, u6] [] g 0 0 := by
  unfold jC_meanDepth_57
  refine go_iload kk41_0.2.2.1.1.1.1 rfl ?_
  refine go_ifeq kk41_0.2.2.1.1.1.2 h2 (fun c21 => ?_) (fun c22 => ?_)
  · refine go_dconst kk41_0.2.2.1.1.2 0 rfl ?_
    refine go_goto kk41_0.2.2.1.2.1 ?_
    exact go_dret kk41_0.2.2.2.2.2 hg ⟨Nat.zero_le _, Nat.zero_le _⟩ rfl
  · refine go_iload kk41_0.2.2.1.2.2 rfl ?_
    refine go_i2d kk41_0.2.2.2.1.1.1 ?_
    refine go_iload kk41_0.2.2.2.1.1.2 rfl ?_
    refine go_i2d kk41_0.2.2.2.1.2 ?_
    refine go_ck (fun q23 => ?_)
    refine go_ddiv kk41_0.2.2.2.2.1 q23 rfl ⟨Nat.zero_le _, Nat.zero_le _⟩ ?_
    exact go_dret kk41_0.2.2.2.2.2 hg ⟨Nat.zero_le _, Nat.zero_le _⟩ rfl
theorem tbC_meanDepth_19 {Φ : ev_P} {d : Nat} (hd : 1 ≤ d) {g : gH} (hg : HR g) {v3 v4 : Int} (h3 : RfR v3) (h4 : InR v4) {X19 : Int → Int → Int → Option Int} (HX19 : ∀ (v1 : Int) (h1 : InR v1) (v2 : Int) (h2 : InR v2) (v5 : Int) (h5 : InR v5) (u0 : Option ev_V) (w0 : nwo u0) (u6 : Option ev_V) (w6 : nwo u6), Go Φ pr_P (fP g) 5 (X19 v1 v2 v5) d pr_m41 19 [u0, some (sI v1), some (sI v2), some (sR v3), some (sI v4), some (sI v5), u6] [] g 0 0) : ∀ (v1 : Int) (h1 : InR v1) (v2 : Int) (h2 : InR v2) (v5 : Int) (h5 : InR v5) (u0 : Option ev_V) (w0 : nwo u0) (u6 : Option ev_V) (w6 : nwo u6), Go Φ pr_P (fP g) 5 (bC_meanDepth_19 g v3 v4 X19 v1 v2 v5) d pr_m41 19 [u0, some (sI v1), some (sI v2), some (sR v3), some (sI v4), some (sI v5), u6] [] g 0 0 := by
  intro v1 h1 v2 h2 v5 h5 u0 w0 u6 w6
  unfold bC_meanDepth_19
  refine go_iload kk41_0.1.2.1.1.2 rfl ?_
  refine go_iload kk41_0.1.2.1.2.1 rfl ?_
  refine go_cmlt kk41_0.1.2.1.2.2 h5 h4 (fun c6 => ?_) (fun c7 => ?_)
  · refine go_aload kk41_0.1.2.2.1.1.1 rfl ?_
    refine go_iload kk41_0.1.2.2.1.1.2 rfl ?_
    refine go_ck (fun q9 => ?_)
    refine go_pald kk41_0.1.2.2.1.2 hg q9 (fun r8 => ?_)
    refine go_astore kk41_0.1.2.2.2.1 rfl (loc2 := [u0, some (sI v1), some (sI v2), some (sR v3), some (sI v4), some (sI v5), some (sR (g v3 v5))]) rfl ?_
    refine go_aload kk41_0.1.2.2.2.2 rfl ?_
    refine go_ck (fun q10 => ?_)
    refine go_callP3 kk41_0.2.1.1.1.1.1 rfl rfl rfl ⟨by decide, _, rfl, q10⟩ ⟨Nat.zero_le _, Nat.zero_le _⟩ (by omega) (tfP_isRunning (by omega) hg q10 ) (fun y11 r12 => ?_)
    refine go_ifeq kk41_0.2.1.1.1.1.2 (inR_b r12) (fun c15 => ?_) (fun c16 => ?_)
    · refine go_iinc kk41_0.2.1.2.2.1 rfl rfl 1 rfl (loc2 := [u0, some (sI v1), some (sI v2), some (sR v3), some (sI v4), some (sI (w32 (v5 + 1))), some (sR (g v3 v5))]) rfl ?_
      refine go_goto kk41_0.2.1.2.2.2 ?_
      exact HX19 v1 h1 v2 h2 (w32 (v5 + 1)) (inR_w32 _) u0 w0 (some (sR (g v3 v5))) rfl
    · refine go_iload kk41_0.2.1.1.1.2 rfl ?_
      refine go_aload kk41_0.2.1.1.2.1 rfl ?_
      refine go_callP1 kk41_0.2.1.1.2.2 rfl rfl rfl ⟨by decide, _, rfl, q10⟩ ⟨Nat.zero_le _, Nat.zero_le _⟩ (by omega) (tfP_countAbove (by omega) hg q10 ) (fun y17 r18 => ?_)
      refine go_iadd kk41_0.2.1.2.1.1.1 ?_
      refine go_istore kk41_0.2.1.2.1.1.2 w0 (loc2 := [u0, some (sI (w32 (v1 + y17))), some (sI v2), some (sR v3), some (sI v4), some (sI v5), some (sR (g v3 v5))]) rfl ?_
      refine go_iinc kk41_0.2.1.2.1.2 rfl rfl 1 rfl (loc2 := [u0, some (sI (w32 (v1 + y17))), some (sI (w32 (v2 + 1))), some (sR v3), some (sI v4), some (sI v5), some (sR (g v3 v5))]) rfl ?_
      refine go_iinc kk41_0.2.1.2.2.1 rfl rfl 1 rfl (loc2 := [u0, some (sI (w32 (v1 + y17))), some (sI (w32 (v2 + 1))), some (sR v3), some (sI v4), some (sI (w32 (v5 + 1))), some (sR (g v3 v5))]) rfl ?_
      refine go_goto kk41_0.2.1.2.2.2 ?_
      exact HX19 (w32 (v1 + y17)) (inR_w32 _) (w32 (v2 + 1)) (inR_w32 _) (w32 (v5 + 1)) (inR_w32 _) u0 w0 (some (sR (g v3 v5))) rfl
  · exact tjC_meanDepth_57 hd hg h1 h2 u0 w0 (some (sR v3)) rfl (some (sI v4)) rfl (some (sI v5)) rfl u6 w6
theorem tlC_meanDepth_19 {Φ : ev_P} {d : Nat} (hd : 1 ≤ d) {g : gH} (hg : HR g) {v3 v4 : Int} (h3 : RfR v3) (h4 : InR v4) : ∀ n : Nat, ∀ (v1 : Int) (h1 : InR v1) (v2 : Int) (h2 : InR v2) (v5 : Int) (h5 : InR v5) (u0 : Option ev_V) (w0 : nwo u0) (u6 : Option ev_V) (w6 : nwo u6), Go Φ pr_P (fP g) 5 (lC_meanDepth_19 g v3 v4 n v1 v2 v5) d pr_m41 19 [u0, some (sI v1), some (sI v2), some (sR v3), some (sI v4), some (sI v5), u6] [] g 0 0 := by
  intro n
  induction n with
  | zero => intros; exact go_none
  | succ n ih => exact tbC_meanDepth_19 hd hg h3 h4 ih
theorem tfC_meanDepth {Φ : ev_P} {d : Nat} (hd : 1 ≤ d) {g : gH} (hg : HR g) {v0 : Int} (hK0 : kd v0 = 6) : Go Φ pr_P (fP g) 5 (fC_meanDepth g v0) d (pr_P 41) 0 (ev_loc (pr_P 41).1 [(sR v0)]) [] g 0 0 := by
  show Go Φ pr_P (fP g) 5 (fC_meanDepth g v0) d pr_m41 0 [some (sR v0), none, none, none, none, none, none] [] g 0 0
  unfold fC_meanDepth
  refine go_int kk41_0.1.1.1.1.1.1 0 rfl ?_
  refine go_istore kk41_0.1.1.1.1.1.2 rfl (loc2 := [some (sR v0), some (sI 0), none, none, none, none, none]) rfl ?_
  refine go_int kk41_0.1.1.1.1.2 0 rfl ?_
  refine go_istore kk41_0.1.1.1.2.1.1 rfl (loc2 := [some (sR v0), some (sI 0), some (sI 0), none, none, none, none]) rfl ?_
  refine go_aload kk41_0.1.1.1.2.1.2 rfl ?_
  refine go_getR (bI := 0) kk41_0.1.1.1.2.2 hg hK0 (by decide) rfl rfl (fun r1 => ?_)
  refine go_ck (fun q2 => ?_)
  refine go_getR (bI := 1) kk41_0.1.1.2.1.1.1 hg q2 (by decide) rfl rfl (fun r3 => ?_)
  refine go_astore kk41_0.1.1.2.1.1.2 rfl (loc2 := [some (sR v0), some (sI 0), some (sI 0), some (sR (g (g v0 0) 1)), none, none, none]) rfl ?_
  refine go_aload kk41_0.1.1.2.1.2 rfl ?_
  refine go_ck (fun q5 => ?_)
  refine go_alen kk41_0.1.1.2.2.1 (ka_24 q5) (fun r4 => ?_)
  refine go_istore kk41_0.1.1.2.2.2 rfl (loc2 := [some (sR v0), some (sI 0), some (sI 0), some (sR (g (g v0 0) 1)), some (sI (sz (g (g v0 0) 1))), none, none]) rfl ?_
  refine go_int kk41_0.1.2.1.1.1.1 0 rfl ?_
  refine go_istore kk41_0.1.2.1.1.1.2 rfl (loc2 := [some (sR v0), some (sI 0), some (sI 0), some (sR (g (g v0 0) 1)), some (sI (sz (g (g v0 0) 1))), some (sI 0), none]) rfl ?_
  exact tlC_meanDepth_19 hd hg r3 r4 fu 0 (inR_b (Or.inl rfl)) 0 (inR_b (Or.inl rfl)) 0 (inR_b (Or.inl rfl)) (some (sR v0)) rfl none rfl
theorem tfC_rootShare {Φ : ev_P} {d : Nat} (hd : 0 ≤ d) {g : gH} (hg : HR g) {v0 : Int} (hK0 : kd v0 = 6) : Go Φ pr_P (fP g) 4 (fC_rootShare g v0) d (pr_P 42) 0 (ev_loc (pr_P 42).1 [(sR v0)]) [] g 0 0 := by
  show Go Φ pr_P (fP g) 4 (fC_rootShare g v0) d pr_m42 0 [some (sR v0)] [] g 0 0
  unfold fC_rootShare
  refine go_aload kk42_0.1.1.1.1 rfl ?_
  refine go_getR (bI := 0) kk42_0.1.1.1.2 hg hK0 (by decide) rfl rfl (fun r1 => ?_)
  refine go_ck (fun q2 => ?_)
  refine go_getI (bI := 7) kk42_0.1.1.2.1 hg q2 (by decide) rfl rfl (fun r3 => ?_)
  refine go_ifeq kk42_0.1.1.2.2 r3 (fun c4 => ?_) (fun c5 => ?_)
  · refine go_fconst kk42_0.1.2.1.1 0 rfl ?_
    refine go_goto kk42_0.1.2.1.2 ?_
    exact go_fret kk42_0.2.2.2.2 hg ⟨Nat.zero_le _, Nat.zero_le _⟩ rfl
  · refine go_aload kk42_0.1.2.2.1 rfl ?_
    refine go_getR (bI := 0) kk42_0.1.2.2.2 hg hK0 (by decide) rfl rfl (fun r6 => ?_)
    refine go_getI (bI := 8) kk42_0.2.1.1.1 hg q2 (by decide) rfl rfl (fun r7 => ?_)
    refine go_i2f kk42_0.2.1.1.2 ?_
    refine go_aload kk42_0.2.1.2.1 rfl ?_
    refine go_getR (bI := 0) kk42_0.2.1.2.2 hg hK0 (by decide) rfl rfl (fun r8 => ?_)
    refine go_getI (bI := 7) kk42_0.2.2.1.1 hg q2 (by decide) rfl rfl (fun r9 => ?_)
    refine go_i2f kk42_0.2.2.1.2 ?_
    refine go_ck (fun q10 => ?_)
    refine go_fdiv kk42_0.2.2.2.1 q10 rfl ⟨Nat.zero_le _, Nat.zero_le _⟩ ?_
    exact go_fret kk42_0.2.2.2.2 hg ⟨Nat.zero_le _, Nat.zero_le _⟩ rfl
theorem tbC_mostAdopted_19 {Φ : ev_P} {d : Nat} (hd : 1 ≤ d) {g : gH} (hg : HR g) {v3 v4 : Int} (h3 : RfR v3) (h4 : InR v4) {X19 : Int → Int → Int → Option Int} (HX19 : ∀ (v1 : Int) (h1 : InR v1) (v2 : Int) (h2 : InR v2) (v5 : Int) (h5 : InR v5) (u0 : Option ev_V) (w0 : nwo u0) (u6 : Option ev_V) (w6 : nwo u6), Go Φ pr_P (fP g) 1 (X19 v1 v2 v5) d pr_m48 19 [u0, some (sI v1), some (sI v2), some (sR v3), some (sI v4), some (sI v5), u6] [] g 0 0) : ∀ (v1 : Int) (h1 : InR v1) (v2 : Int) (h2 : InR v2) (v5 : Int) (h5 : InR v5) (u0 : Option ev_V) (w0 : nwo u0) (u6 : Option ev_V) (w6 : nwo u6), Go Φ pr_P (fP g) 1 (bC_mostAdopted_19 g v3 v4 X19 v1 v2 v5) d pr_m48 19 [u0, some (sI v1), some (sI v2), some (sR v3), some (sI v4), some (sI v5), u6] [] g 0 0 := by
  intro v1 h1 v2 h2 v5 h5 u0 w0 u6 w6
  unfold bC_mostAdopted_19
  refine go_iload kk48_0.1.2.1.2.1 rfl ?_
  refine go_iload kk48_0.1.2.1.2.2 rfl ?_
  refine go_cmlt kk48_0.1.2.2.1.1 h5 h4 (fun c6 => ?_) (fun c7 => ?_)
  · refine go_aload kk48_0.1.2.2.1.2 rfl ?_
    refine go_iload kk48_0.1.2.2.2.1 rfl ?_
    refine go_ck (fun q9 => ?_)
    refine go_pald kk48_0.1.2.2.2.2 hg q9 (fun r8 => ?_)
    refine go_astore kk48_0.2.1.1.1.1.1 rfl (loc2 := [u0, some (sI v1), some (sI v2), some (sR v3), some (sI v4), some (sI v5), some (sR (g v3 v5))]) rfl ?_
    refine go_aload kk48_0.2.1.1.1.1.2 rfl ?_
    refine go_ck (fun q10 => ?_)
    refine go_callP3 kk48_0.2.1.1.1.2 rfl rfl rfl ⟨by decide, _, rfl, q10⟩ ⟨Nat.zero_le _, Nat.zero_le _⟩ (by omega) (tfP_isRunning (by omega) hg q10 ) (fun y11 r12 => ?_)
    refine go_ifeq kk48_0.2.1.1.2.1 (inR_b r12) (fun c15 => ?_) (fun c16 => ?_)
    · refine go_iinc kk48_0.2.2.2.1.1 rfl rfl 1 rfl (loc2 := [u0, some (sI v1), some (sI v2), some (sR v3), some (sI v4), some (sI (w32 (v5 + 1))), some (sR (g v3 v5))]) rfl ?_
      refine go_goto kk48_0.2.2.2.1.2 ?_
      exact HX19 v1 h1 v2 h2 (w32 (v5 + 1)) (inR_w32 _) u0 w0 (some (sR (g v3 v5))) rfl
    · refine go_aload kk48_0.2.1.1.2.2 rfl ?_
      refine go_getI (bI := 11) kk48_0.2.1.2.1.1 hg q10 (by decide) rfl rfl (fun r17 => ?_)
      refine go_iload kk48_0.2.1.2.1.2 rfl ?_
      refine go_cmgt kk48_0.2.1.2.2.1 r17 h2 (fun c18 => ?_) (fun c19 => ?_)
      · refine go_aload kk48_0.2.1.2.2.2 rfl ?_
        refine go_getI (bI := 0) kk48_0.2.2.1.1.1.1 hg q10 (by decide) rfl rfl (fun r20 => ?_)
        refine go_istore kk48_0.2.2.1.1.1.2 w0 (loc2 := [u0, some (sI (g (g v3 v5) 0)), some (sI v2), some (sR v3), some (sI v4), some (sI v5), some (sR (g v3 v5))]) rfl ?_
        refine go_aload kk48_0.2.2.1.1.2 rfl ?_
        refine go_getI (bI := 11) kk48_0.2.2.1.2.1 hg q10 (by decide) rfl rfl (fun r21 => ?_)
        refine go_istore kk48_0.2.2.1.2.2 rfl (loc2 := [u0, some (sI (g (g v3 v5) 0)), some (sI (g (g v3 v5) 11)), some (sR v3), some (sI v4), some (sI v5), some (sR (g v3 v5))]) rfl ?_
        refine go_iinc kk48_0.2.2.2.1.1 rfl rfl 1 rfl (loc2 := [u0, some (sI (g (g v3 v5) 0)), some (sI (g (g v3 v5) 11)), some (sR v3), some (sI v4), some (sI (w32 (v5 + 1))), some (sR (g v3 v5))]) rfl ?_
        refine go_goto kk48_0.2.2.2.1.2 ?_
        exact HX19 (g (g v3 v5) 0) r20 (g (g v3 v5) 11) r21 (w32 (v5 + 1)) (inR_w32 _) u0 w0 (some (sR (g v3 v5))) rfl
      · refine go_iinc kk48_0.2.2.2.1.1 rfl rfl 1 rfl (loc2 := [u0, some (sI v1), some (sI v2), some (sR v3), some (sI v4), some (sI (w32 (v5 + 1))), some (sR (g v3 v5))]) rfl ?_
        refine go_goto kk48_0.2.2.2.1.2 ?_
        exact HX19 v1 h1 v2 h2 (w32 (v5 + 1)) (inR_w32 _) u0 w0 (some (sR (g v3 v5))) rfl
  · refine go_iload kk48_0.2.2.2.2.1 rfl ?_
    exact go_iret kk48_0.2.2.2.2.2 hg h1 ⟨Nat.zero_le _, Nat.zero_le _⟩ rfl
theorem tlC_mostAdopted_19 {Φ : ev_P} {d : Nat} (hd : 1 ≤ d) {g : gH} (hg : HR g) {v3 v4 : Int} (h3 : RfR v3) (h4 : InR v4) : ∀ n : Nat, ∀ (v1 : Int) (h1 : InR v1) (v2 : Int) (h2 : InR v2) (v5 : Int) (h5 : InR v5) (u0 : Option ev_V) (w0 : nwo u0) (u6 : Option ev_V) (w6 : nwo u6), Go Φ pr_P (fP g) 1 (lC_mostAdopted_19 g v3 v4 n v1 v2 v5) d pr_m48 19 [u0, some (sI v1), some (sI v2), some (sR v3), some (sI v4), some (sI v5), u6] [] g 0 0 := by
  intro n
  induction n with
  | zero => intros; exact go_none
  | succ n ih => exact tbC_mostAdopted_19 hd hg h3 h4 ih
theorem tfC_mostAdopted {Φ : ev_P} {d : Nat} (hd : 1 ≤ d) {g : gH} (hg : HR g) {v0 : Int} (hK0 : kd v0 = 6) : Go Φ pr_P (fP g) 1 (fC_mostAdopted g v0) d (pr_P 48) 0 (ev_loc (pr_P 48).1 [(sR v0)]) [] g 0 0 := by
  show Go Φ pr_P (fP g) 1 (fC_mostAdopted g v0) d pr_m48 0 [some (sR v0), none, none, none, none, none, none] [] g 0 0
  unfold fC_mostAdopted
  refine go_int kk48_0.1.1.1.1.1.1 (-1) rfl ?_
  refine go_istore kk48_0.1.1.1.1.1.2 rfl (loc2 := [some (sR v0), some (sI (-1)), none, none, none, none, none]) rfl ?_
  refine go_int kk48_0.1.1.1.1.2 0 rfl ?_
  refine go_istore kk48_0.1.1.1.2.1 rfl (loc2 := [some (sR v0), some (sI (-1)), some (sI 0), none, none, none, none]) rfl ?_
  refine go_aload kk48_0.1.1.1.2.2 rfl ?_
  refine go_getR (bI := 0) kk48_0.1.1.2.1.1.1 hg hK0 (by decide) rfl rfl (fun r1 => ?_)
  refine go_ck (fun q2 => ?_)
  refine go_getR (bI := 1) kk48_0.1.1.2.1.1.2 hg q2 (by decide) rfl rfl (fun r3 => ?_)
  refine go_astore kk48_0.1.1.2.1.2 rfl (loc2 := [some (sR v0), some (sI (-1)), some (sI 0), some (sR (g (g v0 0) 1)), none, none, none]) rfl ?_
  refine go_aload kk48_0.1.1.2.2.1 rfl ?_
  refine go_ck (fun q5 => ?_)
  refine go_alen kk48_0.1.1.2.2.2 (ka_24 q5) (fun r4 => ?_)
  refine go_istore kk48_0.1.2.1.1.1.1 rfl (loc2 := [some (sR v0), some (sI (-1)), some (sI 0), some (sR (g (g v0 0) 1)), some (sI (sz (g (g v0 0) 1))), none, none]) rfl ?_
  refine go_int kk48_0.1.2.1.1.1.2 0 rfl ?_
  refine go_istore kk48_0.1.2.1.1.2 rfl (loc2 := [some (sR v0), some (sI (-1)), some (sI 0), some (sR (g (g v0 0) 1)), some (sI (sz (g (g v0 0) 1))), some (sI 0), none]) rfl ?_
  exact tlC_mostAdopted_19 hd hg r3 r4 fu (-1) (inR_of (by decide)) 0 (inR_b (Or.inl rfl)) 0 (inR_b (Or.inl rfl)) (some (sR v0)) rfl none rfl
theorem tbT_countInState_14 {Φ : ev_P} {d : Nat} (hd : 0 ≤ d) {g : gH} (hg : HR g) {v1 v3 v4 : Int} (h1 : InR v1) (h3 : RfR v3) (h4 : InR v4) {X14 : Int → Int → Option Int} (HX14 : ∀ (v2 : Int) (h2 : InR v2) (v5 : Int) (h5 : InR v5) (u0 : Option ev_V) (w0 : nwo u0) (u6 : Option ev_V) (w6 : nwo u6), Go Φ pr_P (fP g) 1 (X14 v2 v5) d pr_m275 14 [u0, some (sI v1), some (sI v2), some (sR v3), some (sI v4), some (sI v5), u6] [] g 0 0) : ∀ (v2 : Int) (h2 : InR v2) (v5 : Int) (h5 : InR v5) (u0 : Option ev_V) (w0 : nwo u0) (u6 : Option ev_V) (w6 : nwo u6), Go Φ pr_P (fP g) 1 (bT_countInState_14 g v1 v3 v4 X14 v2 v5) d pr_m275 14 [u0, some (sI v1), some (sI v2), some (sR v3), some (sI v4), some (sI v5), u6] [] g 0 0 := by
  intro v2 h2 v5 h5 u0 w0 u6 w6
  unfold bT_countInState_14
  refine go_iload kk275_0.1.2.2.1.1 rfl ?_
  refine go_iload kk275_0.1.2.2.1.2 rfl ?_
  refine go_cmlt kk275_0.1.2.2.2 h5 h4 (fun c4 => ?_) (fun c5 => ?_)
  · refine go_aload kk275_0.2.1.1.1.1 rfl ?_
    refine go_iload kk275_0.2.1.1.1.2 rfl ?_
    refine go_ck (fun q7 => ?_)
    refine go_pald kk275_0.2.1.1.2.1 hg q7 (fun r6 => ?_)
    refine go_astore kk275_0.2.1.1.2.2 rfl (loc2 := [u0, some (sI v1), some (sI v2), some (sR v3), some (sI v4), some (sI v5), some (sR (g v3 v5))]) rfl ?_
    refine go_aload kk275_0.2.1.2.1.1 rfl ?_
    refine go_ck (fun q8 => ?_)
    refine go_getI (bI := 1) kk275_0.2.1.2.1.2 hg q8 (by decide) rfl rfl (fun r9 => ?_)
    refine go_iload kk275_0.2.1.2.2 rfl ?_
    refine go_cmeq kk275_0.2.2.1.1.1 r9 h1 (fun c10 => ?_) (fun c11 => ?_)
    · refine go_iinc kk275_0.2.2.1.1.2 rfl rfl 1 rfl (loc2 := [u0, some (sI v1), some (sI (w32 (v2 + 1))), some (sR v3), some (sI v4), some (sI v5), some (sR (g v3 v5))]) rfl ?_
      refine go_iinc kk275_0.2.2.1.2 rfl rfl 1 rfl (loc2 := [u0, some (sI v1), some (sI (w32 (v2 + 1))), some (sR v3), some (sI v4), some (sI (w32 (v5 + 1))), some (sR (g v3 v5))]) rfl ?_
      refine go_goto kk275_0.2.2.2.1.1 ?_
      exact HX14 (w32 (v2 + 1)) (inR_w32 _) (w32 (v5 + 1)) (inR_w32 _) u0 w0 (some (sR (g v3 v5))) rfl
    · refine go_iinc kk275_0.2.2.1.2 rfl rfl 1 rfl (loc2 := [u0, some (sI v1), some (sI v2), some (sR v3), some (sI v4), some (sI (w32 (v5 + 1))), some (sR (g v3 v5))]) rfl ?_
      refine go_goto kk275_0.2.2.2.1.1 ?_
      exact HX14 v2 h2 (w32 (v5 + 1)) (inR_w32 _) u0 w0 (some (sR (g v3 v5))) rfl
  · refine go_iload kk275_0.2.2.2.1.2 rfl ?_
    exact go_iret kk275_0.2.2.2.2 hg h2 ⟨Nat.zero_le _, Nat.zero_le _⟩ rfl
theorem tlT_countInState_14 {Φ : ev_P} {d : Nat} (hd : 0 ≤ d) {g : gH} (hg : HR g) {v1 v3 v4 : Int} (h1 : InR v1) (h3 : RfR v3) (h4 : InR v4) : ∀ n : Nat, ∀ (v2 : Int) (h2 : InR v2) (v5 : Int) (h5 : InR v5) (u0 : Option ev_V) (w0 : nwo u0) (u6 : Option ev_V) (w6 : nwo u6), Go Φ pr_P (fP g) 1 (lT_countInState_14 g v1 v3 v4 n v2 v5) d pr_m275 14 [u0, some (sI v1), some (sI v2), some (sR v3), some (sI v4), some (sI v5), u6] [] g 0 0 := by
  intro n
  induction n with
  | zero => intros; exact go_none
  | succ n ih => exact tbT_countInState_14 hd hg h1 h3 h4 ih
theorem tfT_countInState {Φ : ev_P} {d : Nat} (hd : 0 ≤ d) {g : gH} (hg : HR g) {v0 v1 : Int} (hK0 : kd v0 = 5) (h1 : InR v1) : Go Φ pr_P (fP g) 1 (fT_countInState g v0 v1) d (pr_P 275) 0 (ev_loc (pr_P 275).1 [(sR v0), (sI v1)]) [] g 0 0 := by
  show Go Φ pr_P (fP g) 1 (fT_countInState g v0 v1) d pr_m275 0 [some (sR v0), some (sI v1), none, none, none, none, none] [] g 0 0
  unfold fT_countInState
  refine go_int kk275_0.1.1.1.1.1 0 rfl ?_
  refine go_istore kk275_0.1.1.1.1.2 rfl (loc2 := [some (sR v0), some (sI v1), some (sI 0), none, none, none, none]) rfl ?_
  refine go_aload kk275_0.1.1.1.2.1 rfl ?_
  refine go_getR (bI := 1) kk275_0.1.1.1.2.2 hg hK0 (by decide) rfl rfl (fun r1 => ?_)
  refine go_astore kk275_0.1.1.2.1.1 rfl (loc2 := [some (sR v0), some (sI v1), some (sI 0), some (sR (g v0 1)), none, none, none]) rfl ?_
  refine go_aload kk275_0.1.1.2.1.2 rfl ?_
  refine go_ck (fun q3 => ?_)
  refine go_alen kk275_0.1.1.2.2 (ka_24 q3) (fun r2 => ?_)
  refine go_istore kk275_0.1.2.1.1.1 rfl (loc2 := [some (sR v0), some (sI v1), some (sI 0), some (sR (g v0 1)), some (sI (sz (g v0 1))), none, none]) rfl ?_
  refine go_int kk275_0.1.2.1.1.2 0 rfl ?_
  refine go_istore kk275_0.1.2.1.2 rfl (loc2 := [some (sR v0), some (sI v1), some (sI 0), some (sR (g v0 1)), some (sI (sz (g v0 1))), some (sI 0), none]) rfl ?_
  exact tlT_countInState_14 hd hg h1 r1 r2 fu 0 (inR_b (Or.inl rfl)) 0 (inR_b (Or.inl rfl)) (some (sR v0)) rfl none rfl
theorem tfC_readShare {Φ : ev_P} {d : Nat} (hd : 1 ≤ d) {g : gH} (hg : HR g) {v0 : Int} (hK0 : kd v0 = 6) : Go Φ pr_P (fP g) 5 (fC_readShare g v0) d (pr_P 52) 0 (ev_loc (pr_P 52).1 [(sR v0)]) [] g 0 0 := by
  show Go Φ pr_P (fP g) 5 (fC_readShare g v0) d pr_m52 0 [some (sR v0)] [] g 0 0
  unfold fC_readShare
  refine go_aload kk52_0.1.1.1.1.1 rfl ?_
  refine go_getR (bI := 0) kk52_0.1.1.1.1.2 hg hK0 (by decide) rfl rfl (fun r1 => ?_)
  refine go_ck (fun q2 => ?_)
  refine go_getI (bI := 6) kk52_0.1.1.1.2 hg q2 (by decide) rfl rfl (fun r3 => ?_)
  refine go_ifeq kk52_0.1.1.2.1 r3 (fun c4 => ?_) (fun c5 => ?_)
  · refine go_dconst kk52_0.1.1.2.2 0 rfl ?_
    refine go_goto kk52_0.1.2.1.1 ?_
    exact go_dret kk52_0.2.2.2.2 hg ⟨Nat.zero_le _, Nat.zero_le _⟩ rfl
  · refine go_aload kk52_0.1.2.1.2 rfl ?_
    refine go_getR (bI := 0) kk52_0.1.2.2.1 hg hK0 (by decide) rfl rfl (fun r6 => ?_)
    refine go_int kk52_0.1.2.2.2 2 rfl ?_
    refine go_callP1 kk52_0.2.1.1.1 rfl rfl rfl ⟨by decide, _, rfl, q2⟩ ⟨Nat.zero_le _, Nat.zero_le _⟩ (by omega) (tfT_countInState (by omega) hg q2  (inR_of (by decide))) (fun y7 r8 => ?_)
    refine go_i2d kk52_0.2.1.1.2 ?_
    refine go_aload kk52_0.2.1.2.1 rfl ?_
    refine go_getR (bI := 0) kk52_0.2.1.2.2 hg hK0 (by decide) rfl rfl (fun r11 => ?_)
    refine go_getI (bI := 6) kk52_0.2.2.1.1 hg q2 (by decide) rfl rfl (fun r12 => ?_)
    refine go_i2d kk52_0.2.2.1.2 ?_
    refine go_ck (fun q13 => ?_)
    refine go_ddiv kk52_0.2.2.2.1 q13 rfl ⟨Nat.zero_le _, Nat.zero_le _⟩ ?_
    exact go_dret kk52_0.2.2.2.2 hg ⟨Nat.zero_le _, Nat.zero_le _⟩ rfl
theorem tfC_outputByte {Φ : ev_P} {d : Nat} (hd : 0 ≤ d) {g : gH} (hg : HR g) {v0 v1 : Int} (hK0 : kd v0 = 6) (h1 : InR v1) : Go Φ pr_P (fP g) 1 (fC_outputByte g v0 v1) d (pr_P 61) 0 (ev_loc (pr_P 61).1 [(sR v0), (sI v1)]) [] g 0 0 := by
  show Go Φ pr_P (fP g) 1 (fC_outputByte g v0 v1) d pr_m61 0 [some (sR v0), some (sI v1)] [] g 0 0
  unfold fC_outputByte
  refine go_iload kk61_0.1.1.1.1.1 rfl ?_
  refine go_iflt kk61_0.1.1.1.1.2 h1 (fun c1 => ?_) (fun c2 => ?_)
  · refine go_int kk61_0.2.1.1.1.2 (-1) rfl ?_
    refine go_goto kk61_0.2.1.1.2 ?_
    exact go_iret kk61_0.2.2.2.2 hg (inR_of (by decide)) ⟨Nat.zero_le _, Nat.zero_le _⟩ rfl
  · refine go_iload kk61_0.1.1.1.2 rfl ?_
    refine go_aload kk61_0.1.1.2.1 rfl ?_
    refine go_getR (bI := 5) kk61_0.1.1.2.2 hg hK0 (by decide) rfl rfl (fun r3 => ?_)
    refine go_ck (fun q4 => ?_)
    refine go_getI (bI := 1) kk61_0.1.2.1.1 hg q4 (by decide) rfl rfl (fun r5 => ?_)
    refine go_cmlt kk61_0.1.2.1.2 h1 r5 (fun c6 => ?_) (fun c7 => ?_)
    · refine go_iload kk61_0.1.2.2.1 rfl ?_
      refine go_int kk61_0.1.2.2.2 300 rfl ?_
      refine go_cmlt kk61_0.2.1.1.1.1 h1 (inR_of (by decide)) (fun c8 => ?_) (fun c9 => ?_)
      · refine go_aload kk61_0.2.1.2.1 rfl ?_
        refine go_getR (bI := 5) kk61_0.2.1.2.2 hg hK0 (by decide) rfl rfl (fun r10 => ?_)
        refine go_getR (bI := 0) kk61_0.2.2.1.1 hg q4 (by decide) rfl rfl (fun r11 => ?_)
        refine go_iload kk61_0.2.2.1.2 rfl ?_
        refine go_ck (fun q13 => ?_)
        refine go_bald kk61_0.2.2.2.1 hg q13 (fun r12 => ?_)
        exact go_iret kk61_0.2.2.2.2 hg r12 ⟨Nat.zero_le _, Nat.zero_le _⟩ rfl
      · refine go_int kk61_0.2.1.1.1.2 (-1) rfl ?_
        refine go_goto kk61_0.2.1.1.2 ?_
        exact go_iret kk61_0.2.2.2.2 hg (inR_of (by decide)) ⟨Nat.zero_le _, Nat.zero_le _⟩ rfl
    · refine go_int kk61_0.2.1.1.1.2 (-1) rfl ?_
      refine go_goto kk61_0.2.1.1.2 ?_
      exact go_iret kk61_0.2.2.2.2 hg (inR_of (by decide)) ⟨Nat.zero_le _, Nat.zero_le _⟩ rfl
theorem tjH_pop_31 {Φ : ev_P} {d : Nat} (hd : 2 ≤ d) {g : gH} (hg : HR g) {v0 v1 : Int} (hK0 : kd v0 = 0) (h1 : RfR v1) : Go Φ pr_P fN 3 (jH_pop_31 g v0 v1 ) d pr_m220 31 [some (sR v0), some (sR v1)] [] g 0 0 := by
  unfold jH_pop_31
  refine go_aload kk220_0.1.2.2.1.2 rfl ?_
  refine go_dupR kk220_0.1.2.2.2.1 ?_
  refine go_getI (bI := 2) kk220_0.1.2.2.2.2 hg hK0 (by decide) rfl rfl (fun r12 => ?_)
  refine go_int kk220_0.2.1.1.1.1.1 1 rfl ?_
  refine go_isub kk220_0.2.1.1.1.1.2 ?_
  refine go_putI (bI := 2) kk220_0.2.1.1.1.2 hg hK0 (by decide) rfl rfl (inR_w32 _) (fun g13 e14 => ?_)
  refine go_aload kk220_0.2.1.1.2.1 rfl ?_
  refine go_dupR kk220_0.2.1.1.2.2 ?_
  refine go_getI (bI := 1) kk220_0.2.1.2.1.1 e14 hK0 (by decide) rfl rfl (fun r15 => ?_)
  refine go_int kk220_0.2.1.2.1.2 1 rfl ?_
  refine go_isub kk220_0.2.1.2.2.1 ?_
  refine go_putI (bI := 1) kk220_0.2.1.2.2.2 e14 hK0 (by decide) rfl rfl (inR_w32 _) (fun g16 e17 => ?_)
  refine go_aload kk220_0.2.2.1.1.1.1 rfl ?_
  refine go_aload kk220_0.2.2.1.1.1.2 rfl ?_
  refine go_getR (bI := 0) kk220_0.2.2.1.1.2 e17 hK0 (by decide) rfl rfl (fun r18 => ?_)
  refine go_aload kk220_0.2.2.1.2.1 rfl ?_
  refine go_getI (bI := 2) kk220_0.2.2.1.2.2 e17 hK0 (by decide) rfl rfl (fun r19 => ?_)
  refine go_ck (fun q21 => ?_)
  refine go_tald kk220_0.2.2.2.1.1 e17 q21 (fun r20 => ?_)
  refine go_ck (fun q22 => ?_)
  refine go_callN0 kk220_0.2.2.2.1.2 rfl rfl rfl ⟨by decide, _, rfl, q22⟩ ⟨Nat.zero_le _, Nat.zero_le _⟩ (by omega) (tfT_take (by omega) e17 q22  r20) (fun y23 g25 e26 => ?_)
  refine go_int kk220_0.2.2.2.2.1 1 rfl ?_
  exact go_bret kk220_0.2.2.2.2.2 e26 (Or.inr rfl) ⟨Nat.zero_le _, Nat.zero_le _⟩ rfl
theorem tjH_pop_25 {Φ : ev_P} {d : Nat} (hd : 2 ≤ d) {g : gH} (hg : HR g) {v0 v1 : Int} (hK0 : kd v0 = 0) (h1 : RfR v1) : Go Φ pr_P fN 3 (jH_pop_25 g v0 v1 ) d pr_m220 25 [some (sR v0), some (sR v1)] [] g 0 0 := by
  unfold jH_pop_25
  refine go_aload kk220_0.1.2.1.2.1 rfl ?_
  refine go_int kk220_0.1.2.1.2.2 10 rfl ?_
  refine go_putI (bI := 2) kk220_0.1.2.2.1.1 hg hK0 (by decide) rfl rfl (inR_of (by decide)) (fun g10 e11 => ?_)
  exact tjH_pop_31 hd e11 hK0 h1
theorem tfH_pop {Φ : ev_P} {d : Nat} (hd : 2 ≤ d) {g : gH} (hg : HR g) {v0 v1 : Int} (hK0 : kd v0 = 0) (h1 : RfR v1) : Go Φ pr_P fN 3 (fH_pop g v0 v1) d (pr_P 220) 0 (ev_loc (pr_P 220).1 [(sR v0), (sR v1)]) [] g 0 0 := by
  show Go Φ pr_P fN 3 (fH_pop g v0 v1) d pr_m220 0 [some (sR v0), some (sR v1)] [] g 0 0
  unfold fH_pop
  refine go_aload kk220_0.1.1.1.1.1.1 rfl ?_
  refine go_getI (bI := 1) kk220_0.1.1.1.1.1.2 hg hK0 (by decide) rfl rfl (fun r1 => ?_)
  refine go_ifeq kk220_0.1.1.1.1.2 r1 (fun c2 => ?_) (fun c3 => ?_)
  · refine go_int kk220_0.1.1.1.2.1 0 rfl ?_
    exact go_bret kk220_0.1.1.1.2.2 hg (Or.inl rfl) ⟨Nat.zero_le _, Nat.zero_le _⟩ rfl
  · refine go_aload kk220_0.1.1.2.1.1 rfl ?_
    refine go_getI (bI := 2) kk220_0.1.1.2.1.2 hg hK0 (by decide) rfl rfl (fun r4 => ?_)
    refine go_ifgt kk220_0.1.1.2.2.1 r4 (fun c5 => ?_) (fun c6 => ?_)
    · refine go_aload kk220_0.1.1.2.2.2 rfl ?_
      refine go_getI (bI := 2) kk220_0.1.2.1.1.1.1 hg hK0 (by decide) rfl rfl (fun r7 => ?_)
      refine go_int kk220_0.1.2.1.1.1.2 10 rfl ?_
      refine go_cmgt kk220_0.1.2.1.1.2 r7 (inR_of (by decide)) (fun c8 => ?_) (fun c9 => ?_)
      · exact tjH_pop_25 hd hg hK0 h1
      · exact tjH_pop_31 hd hg hK0 h1
    · exact tjH_pop_25 hd hg hK0 h1
theorem tfC_undo {Φ : ev_P} {d : Nat} (hd : 3 ≤ d) {g : gH} (hg : HR g) {v0 : Int} (hK0 : kd v0 = 6) : Go Φ pr_P fN 1 (fC_undo g v0) d (pr_P 62) 0 (ev_loc (pr_P 62).1 [(sR v0)]) [] g 0 0 := by
  show Go Φ pr_P fN 1 (fC_undo g v0) d pr_m62 0 [some (sR v0)] [] g 0 0
  unfold fC_undo
  refine go_aload kk62_0.1.1.1.1 rfl ?_
  refine go_getR (bI := 3) kk62_0.1.1.1.2 hg hK0 (by decide) rfl rfl (fun r1 => ?_)
  refine go_aload kk62_0.1.1.2 rfl ?_
  refine go_getR (bI := 0) kk62_0.1.2.1.1 hg hK0 (by decide) rfl rfl (fun r2 => ?_)
  refine go_ck (fun q3 => ?_)
  refine go_callN3 kk62_0.1.2.1.2 rfl rfl rfl ⟨by decide, _, rfl, q3⟩ ⟨Nat.zero_le _, Nat.zero_le _⟩ (by omega) (tfH_pop (by omega) hg q3  r2) (fun y4 g6 r5 e7 => ?_)
  refine go_ifeq kk62_0.1.2.2 (inR_b r5) (fun c8 => ?_) (fun c9 => ?_)
  · refine go_int kk62_0.2.2.1.2 (-1) rfl ?_
    exact go_iret kk62_0.2.2.2 e7 (inR_of (by decide)) ⟨Nat.zero_le _, Nat.zero_le _⟩ rfl
  · refine go_aload kk62_0.2.1.1.1 rfl ?_
    refine go_getR (bI := 3) kk62_0.2.1.1.2 e7 hK0 (by decide) rfl rfl (fun r10 => ?_)
    refine go_ck (fun q11 => ?_)
    refine go_getI (bI := 1) kk62_0.2.1.2 e7 q11 (by decide) rfl rfl (fun r12 => ?_)
    refine go_goto kk62_0.2.2.1.1 ?_
    exact go_iret kk62_0.2.2.2 e7 r12 ⟨Nat.zero_le _, Nat.zero_le _⟩ rfl
theorem tfC_saveState {Φ : ev_P} {d : Nat} (hd : 2 ≤ d) {g : gH} (hg : HR g) {v0 : Int} (hK0 : kd v0 = 6) : Go Φ pr_P fN 1 (fC_saveState g v0) d (pr_P 63) 0 (ev_loc (pr_P 63).1 [(sR v0)]) [] g 0 0 := by
  show Go Φ pr_P fN 1 (fC_saveState g v0) d pr_m63 0 [some (sR v0)] [] g 0 0
  unfold fC_saveState
  refine go_aload kk63_0.1.1.1.1 rfl ?_
  refine go_getR (bI := 2) kk63_0.1.1.1.2 hg hK0 (by decide) rfl rfl (fun r1 => ?_)
  refine go_aload kk63_0.1.1.2.1 rfl ?_
  refine go_getR (bI := 0) kk63_0.1.1.2.2 hg hK0 (by decide) rfl rfl (fun r2 => ?_)
  refine go_ck (fun q3 => ?_)
  refine go_callN0 kk63_0.1.2.1.1 rfl rfl rfl ⟨by decide, _, rfl, q3⟩ ⟨Nat.zero_le _, Nat.zero_le _⟩ (by omega) (tfT_take (by omega) hg q3  r2) (fun y4 g6 e7 => ?_)
  refine go_aload kk63_0.1.2.1.2 rfl ?_
  refine go_int kk63_0.1.2.2 1 rfl ?_
  refine go_putB (bI := 6) kk63_0.2.1.1.1 e7 hK0 (by decide) rfl rfl (Or.inr rfl) (fun g8 e9 => ?_)
  refine go_aload kk63_0.2.1.1.2 rfl ?_
  refine go_getR (bI := 0) kk63_0.2.1.2 e9 hK0 (by decide) rfl rfl (fun r10 => ?_)
  refine go_int kk63_0.2.2.1.1 0 rfl ?_
  refine go_ck (fun q11 => ?_)
  refine go_callP1 kk63_0.2.2.1.2 rfl rfl rfl ⟨by decide, _, rfl, q11⟩ ⟨Nat.zero_le _, Nat.zero_le _⟩ (by omega) (tfT_countInState (by omega) e9 q11  (inR_b (Or.inl rfl))) (fun y12 r13 => ?_)
  exact go_iret kk63_0.2.2.2 e9 r13 ⟨Nat.zero_le _, Nat.zero_le _⟩ rfl
theorem tfM_thrown {Φ : ev_P} {d : Nat} (hd : 0 ≤ d) {g : gH} (hg : HR g) {v0 : Int} (hK0 : kd v0 = 7) : Go Φ pr_P (fP g) 1 (fM_thrown g v0) d (pr_P 74) 0 (ev_loc (pr_P 74).1 [(sR v0)]) [] g 0 0 := by
  show Go Φ pr_P (fP g) 1 (fM_thrown g v0) d pr_m74 0 [some (sR v0)] [] g 0 0
  unfold fM_thrown
  refine go_aload kk74_0.1.1 rfl ?_
  refine go_getI (bI := 8) kk74_0.1.2 hg hK0 (by decide) rfl rfl (fun r1 => ?_)
  exact go_iret kk74_0.2 hg r1 ⟨Nat.zero_le _, Nat.zero_le _⟩ rfl
theorem tbM_appendWord_3 {Φ : ev_P} {d : Nat} (hd : 0 ≤ d) {v0 v1 : Int} (hK0 : kd v0 = 7) (h1 : InR v1) {X3 : Int → gH → Option (Int × gH)} (HX3 : ∀ (v2 : Int) (h2 : InR v2) (g : gH) (hg : HR g), Go Φ pr_P fN 0 (X3 v2 g) d pr_m106 3 [some (sR v0), some (sI v1), some (sI v2)] [] g 0 0) : ∀ (v2 : Int) (h2 : InR v2) (g : gH) (hg : HR g), Go Φ pr_P fN 0 (bM_appendWord_3 v0 v1 X3 v2 g) d pr_m106 3 [some (sR v0), some (sI v1), some (sI v2)] [] g 0 0 := by
  intro v2 h2 g hg
  unfold bM_appendWord_3
  refine go_iload kk106_0.1.1.1.2 rfl ?_
  refine go_iflt kk106_0.1.1.2.1.1 h2 (fun c1 => ?_) (fun c2 => ?_)
  · exact go_vret kk106_0.2.2.2.2 hg ⟨Nat.zero_le _, Nat.zero_le _⟩ rfl
  · refine go_aload kk106_0.1.1.2.1.2 rfl ?_
    refine go_getR (bI := 9) kk106_0.1.1.2.2 hg hK0 (by decide) rfl rfl (fun r3 => ?_)
    refine go_aload kk106_0.1.2.1.1.1 rfl ?_
    refine go_getI (bI := 10) kk106_0.1.2.1.1.2 hg hK0 (by decide) rfl rfl (fun r4 => ?_)
    refine go_iload kk106_0.1.2.1.2 rfl ?_
    refine go_iload kk106_0.1.2.2.1.1 rfl ?_
    refine go_ibin kk106_0.1.2.2.1.2 ?_
    refine go_int kk106_0.1.2.2.2 255 rfl ?_
    refine go_ibin kk106_0.2.1.1.1.1 ?_
    refine go_ck (fun q5 => ?_)
    refine go_iast kk106_0.2.1.1.1.2 hg q5 (inR_opI _ _ _) (fun g6 e7 => ?_)
    refine go_aload kk106_0.2.1.1.2 rfl ?_
    refine go_dupR kk106_0.2.1.2.1.1 ?_
    refine go_getI (bI := 10) kk106_0.2.1.2.1.2 e7 hK0 (by decide) rfl rfl (fun r8 => ?_)
    refine go_int kk106_0.2.1.2.2 1 rfl ?_
    refine go_iadd kk106_0.2.2.1.1.1 ?_
    refine go_putI (bI := 10) kk106_0.2.2.1.1.2 e7 hK0 (by decide) rfl rfl (inR_w32 _) (fun g9 e10 => ?_)
    refine go_iinc kk106_0.2.2.1.2 rfl rfl (-8) rfl (loc2 := [some (sR v0), some (sI v1), some (sI (w32 (v2 + (-8))))]) rfl ?_
    refine go_goto kk106_0.2.2.2.1 ?_
    exact HX3 (w32 (v2 + (-8))) (inR_w32 _) g9 e10
theorem tlM_appendWord_3 {Φ : ev_P} {d : Nat} (hd : 0 ≤ d) {v0 v1 : Int} (hK0 : kd v0 = 7) (h1 : InR v1) : ∀ n : Nat, ∀ (v2 : Int) (h2 : InR v2) (g : gH) (hg : HR g), Go Φ pr_P fN 0 (lM_appendWord_3 v0 v1 n v2 g) d pr_m106 3 [some (sR v0), some (sI v1), some (sI v2)] [] g 0 0 := by
  intro n
  induction n with
  | zero => intros; exact go_none
  | succ n ih => exact tbM_appendWord_3 hd hK0 h1 ih
theorem tfM_appendWord {Φ : ev_P} {d : Nat} (hd : 0 ≤ d) {g : gH} (hg : HR g) {v0 v1 : Int} (hK0 : kd v0 = 7) (h1 : InR v1) : Go Φ pr_P fN 0 (fM_appendWord g v0 v1) d (pr_P 106) 0 (ev_loc (pr_P 106).1 [(sR v0), (sI v1)]) [] g 0 0 := by
  show Go Φ pr_P fN 0 (fM_appendWord g v0 v1) d pr_m106 0 [some (sR v0), some (sI v1), none] [] g 0 0
  unfold fM_appendWord
  refine go_int kk106_0.1.1.1.1.1 24 rfl ?_
  refine go_istore kk106_0.1.1.1.1.2 rfl (loc2 := [some (sR v0), some (sI v1), some (sI 24)]) rfl ?_
  exact tlM_appendWord_3 hd hK0 h1 fu 24 (inR_of (by decide)) g hg
theorem tfM_appendInput {Φ : ev_P} {d : Nat} (hd : 1 ≤ d) {g : gH} (hg : HR g) {v0 v1 v2 v3 v4 v5 : Int} (hK0 : kd v0 = 7) (h1 : InR v1) (h2 : InR v2) (h3 : InR v3) (h4 : InR v4) (h5 : InR v5) : Go Φ pr_P fN 1 (fM_appendInput g v0 v1 v2 v3 v4 v5) d (pr_P 107) 0 (ev_loc (pr_P 107).1 [(sR v0), (sI v1), (sI v2), (sI v3), (sI v4), (sI v5)]) [] g 0 0 := by
  show Go Φ pr_P fN 1 (fM_appendInput g v0 v1 v2 v3 v4 v5) d pr_m107 0 [some (sR v0), some (sI v1), some (sI v2), some (sI v3), some (sI v4), some (sI v5)] [] g 0 0
  unfold fM_appendInput
  refine go_aload kk107_0.1.1.1.1.1 rfl ?_
  refine go_int kk107_0.1.1.1.1.2 0 rfl ?_
  refine go_putI (bI := 8) kk107_0.1.1.1.2.1 hg hK0 (by decide) rfl rfl (inR_b (Or.inl rfl)) (fun g1 e2 => ?_)
  refine go_aload kk107_0.1.1.1.2.2 rfl ?_
  refine go_getI (bI := 10) kk107_0.1.1.2.1.1 e2 hK0 (by decide) rfl rfl (fun r3 => ?_)
  refine go_int kk107_0.1.1.2.1.2 20 rfl ?_
  refine go_iadd kk107_0.1.1.2.2.1 ?_
  refine go_int kk107_0.1.1.2.2.2 500 rfl ?_
  refine go_cmgt kk107_0.1.2.1.1.1 (inR_w32 _) (inR_of (by decide)) (fun c4 => ?_) (fun c5 => ?_)
  · refine go_int kk107_0.1.2.1.1.2 (-1) rfl ?_
    exact go_iret kk107_0.1.2.1.2.1 e2 (inR_of (by decide)) ⟨Nat.zero_le _, Nat.zero_le _⟩ rfl
  · refine go_aload kk107_0.1.2.1.2.2 rfl ?_
    refine go_iload kk107_0.1.2.2.1.1 rfl ?_
    refine go_callN0 kk107_0.1.2.2.1.2 rfl rfl rfl ⟨by decide, _, rfl, hK0⟩ ⟨Nat.zero_le _, Nat.zero_le _⟩ (by omega) (tfM_appendWord (by omega) e2 hK0  h1) (fun y6 g8 e9 => ?_)
    refine go_aload kk107_0.1.2.2.2 rfl ?_
    refine go_iload kk107_0.2.1.1.1.1 rfl ?_
    refine go_callN0 kk107_0.2.1.1.1.2 rfl rfl rfl ⟨by decide, _, rfl, hK0⟩ ⟨Nat.zero_le _, Nat.zero_le _⟩ (by omega) (tfM_appendWord (by omega) e9 hK0  h2) (fun y10 g12 e13 => ?_)
    refine go_aload kk107_0.2.1.1.2.1 rfl ?_
    refine go_iload kk107_0.2.1.1.2.2 rfl ?_
    refine go_callN0 kk107_0.2.1.2.1.1 rfl rfl rfl ⟨by decide, _, rfl, hK0⟩ ⟨Nat.zero_le _, Nat.zero_le _⟩ (by omega) (tfM_appendWord (by omega) e13 hK0  h3) (fun y14 g16 e17 => ?_)
    refine go_aload kk107_0.2.1.2.1.2 rfl ?_
    refine go_iload kk107_0.2.1.2.2 rfl ?_
    refine go_callN0 kk107_0.2.2.1.1.1 rfl rfl rfl ⟨by decide, _, rfl, hK0⟩ ⟨Nat.zero_le _, Nat.zero_le _⟩ (by omega) (tfM_appendWord (by omega) e17 hK0  h4) (fun y18 g20 e21 => ?_)
    refine go_aload kk107_0.2.2.1.1.2 rfl ?_
    refine go_iload kk107_0.2.2.1.2.1 rfl ?_
    refine go_callN0 kk107_0.2.2.1.2.2 rfl rfl rfl ⟨by decide, _, rfl, hK0⟩ ⟨Nat.zero_le _, Nat.zero_le _⟩ (by omega) (tfM_appendWord (by omega) e21 hK0  h5) (fun y22 g24 e25 => ?_)
    refine go_aload kk107_0.2.2.2.1.1 rfl ?_
    refine go_getI (bI := 10) kk107_0.2.2.2.1.2 e25 hK0 (by decide) rfl rfl (fun r26 => ?_)
    exact go_iret kk107_0.2.2.2.2 e25 r26 ⟨Nat.zero_le _, Nat.zero_le _⟩ rfl
theorem tfM_inRange {Φ : ev_P} {d : Nat} (hd : 0 ≤ d) {g : gH} (hg : HR g) {v0 v1 v2 : Int} (h0 : InR v0) (h1 : InR v1) (h2 : InR v2) : Go Φ pr_P (fP g) 3 (fM_inRange g v0 v1 v2) d (pr_P 75) 0 (ev_loc (pr_P 75).1 [(sI v0), (sI v1), (sI v2)]) [] g 0 0 := by
  show Go Φ pr_P (fP g) 3 (fM_inRange g v0 v1 v2) d pr_m75 0 [some (sI v0), some (sI v1), some (sI v2)] [] g 0 0
  unfold fM_inRange
  refine go_iload kk75_0.1.1.1.1 rfl ?_
  refine go_iload kk75_0.1.1.1.2 rfl ?_
  refine go_cmlt kk75_0.1.1.2 h0 h1 (fun c1 => ?_) (fun c2 => ?_)
  · refine go_int kk75_0.2.2.1 0 rfl ?_
    exact go_bret kk75_0.2.2.2 hg (Or.inl rfl) ⟨Nat.zero_le _, Nat.zero_le _⟩ rfl
  · refine go_iload kk75_0.1.2.1 rfl ?_
    refine go_iload kk75_0.1.2.2 rfl ?_
    refine go_cmgt kk75_0.2.1.1.1 h0 h2 (fun c3 => ?_) (fun c4 => ?_)
    · refine go_int kk75_0.2.2.1 0 rfl ?_
      exact go_bret kk75_0.2.2.2 hg (Or.inl rfl) ⟨Nat.zero_le _, Nat.zero_le _⟩ rfl
    · refine go_int kk75_0.2.1.1.2 1 rfl ?_
      refine go_goto kk75_0.2.1.2 ?_
      exact go_bret kk75_0.2.2.2 hg (Or.inr rfl) ⟨Nat.zero_le _, Nat.zero_le _⟩ rfl
theorem tfM_truncateInput {Φ : ev_P} {d : Nat} (hd : 1 ≤ d) {g : gH} (hg : HR g) {v0 v1 : Int} (hK0 : kd v0 = 7) (h1 : InR v1) : Go Φ pr_P fN 3 (fM_truncateInput g v0 v1) d (pr_P 108) 0 (ev_loc (pr_P 108).1 [(sR v0), (sI v1)]) [] g 0 0 := by
  show Go Φ pr_P fN 3 (fM_truncateInput g v0 v1) d pr_m108 0 [some (sR v0), some (sI v1)] [] g 0 0
  unfold fM_truncateInput
  refine go_aload kk108_0.1.1.1.1 rfl ?_
  refine go_int kk108_0.1.1.1.2 0 rfl ?_
  refine go_putI (bI := 8) kk108_0.1.1.2.1 hg hK0 (by decide) rfl rfl (inR_b (Or.inl rfl)) (fun g1 e2 => ?_)
  refine go_iload kk108_0.1.1.2.2 rfl ?_
  refine go_int kk108_0.1.2.1.1 0 rfl ?_
  refine go_aload kk108_0.1.2.1.2 rfl ?_
  refine go_getI (bI := 10) kk108_0.1.2.2.1 e2 hK0 (by decide) rfl rfl (fun r3 => ?_)
  refine go_callP3 kk108_0.1.2.2.2 rfl rfl rfl trivial ⟨Nat.zero_le _, Nat.zero_le _⟩ (by omega) (tfM_inRange (by omega) e2  h1 (inR_b (Or.inl rfl)) r3) (fun y4 r5 => ?_)
  refine go_ifeq kk108_0.2.1.1.1 (inR_b r5) (fun c8 => ?_) (fun c9 => ?_)
  · refine go_int kk108_0.2.1.1.2 0 rfl ?_
    exact go_bret kk108_0.2.1.2.1 e2 (Or.inl rfl) ⟨Nat.zero_le _, Nat.zero_le _⟩ rfl
  · refine go_aload kk108_0.2.1.2.2 rfl ?_
    refine go_iload kk108_0.2.2.1.1 rfl ?_
    refine go_putI (bI := 10) kk108_0.2.2.1.2 e2 hK0 (by decide) rfl rfl h1 (fun g10 e11 => ?_)
    refine go_int kk108_0.2.2.2.1 1 rfl ?_
    exact go_bret kk108_0.2.2.2.2 e11 (Or.inr rfl) ⟨Nat.zero_le _, Nat.zero_le _⟩ rfl
theorem tbM_copies_3 {Φ : ev_P} {d : Nat} (hd : 0 ≤ d) {v0 v1 v2 v3 v4 : Int} (h0 : RfR v0) (h1 : InR v1) (h2 : RfR v2) (h3 : InR v3) (h4 : InR v4) {X3 : Int → gH → Option (Int × gH)} (HX3 : ∀ (v5 : Int) (h5 : InR v5) (g : gH) (hg : HR g), Go Φ pr_P fN 0 (X3 v5 g) d pr_m77 3 [some (sR v0), some (sI v1), some (sR v2), some (sI v3), some (sI v4), some (sI v5)] [] g 0 0) : ∀ (v5 : Int) (h5 : InR v5) (g : gH) (hg : HR g), Go Φ pr_P fN 0 (bM_copies_3 v0 v1 v2 v3 v4 X3 v5 g) d pr_m77 3 [some (sR v0), some (sI v1), some (sR v2), some (sI v3), some (sI v4), some (sI v5)] [] g 0 0 := by
  intro v5 h5 g hg
  unfold bM_copies_3
  refine go_iload kk77_0.1.1.1.2 rfl ?_
  refine go_iload kk77_0.1.1.2.1 rfl ?_
  refine go_cmlt kk77_0.1.1.2.2 h5 h4 (fun c1 => ?_) (fun c2 => ?_)
  · refine go_aload kk77_0.1.2.1.1 rfl ?_
    refine go_iload kk77_0.1.2.1.2 rfl ?_
    refine go_iload kk77_0.1.2.2.1 rfl ?_
    refine go_iadd kk77_0.1.2.2.2 ?_
    refine go_aload kk77_0.2.1.1.1.1 rfl ?_
    refine go_iload kk77_0.2.1.1.1.2 rfl ?_
    refine go_iload kk77_0.2.1.1.2 rfl ?_
    refine go_iadd kk77_0.2.1.2.1 ?_
    refine go_ck (fun q4 => ?_)
    refine go_iald kk77_0.2.1.2.2 hg q4 (fun r3 => ?_)
    refine go_ck (fun q5 => ?_)
    refine go_iast kk77_0.2.2.1.1 hg q5 r3 (fun g6 e7 => ?_)
    refine go_iinc kk77_0.2.2.1.2 rfl rfl 1 rfl (loc2 := [some (sR v0), some (sI v1), some (sR v2), some (sI v3), some (sI v4), some (sI (w32 (v5 + 1)))]) rfl ?_
    refine go_goto kk77_0.2.2.2.1 ?_
    exact HX3 (w32 (v5 + 1)) (inR_w32 _) g6 e7
  · exact go_vret kk77_0.2.2.2.2 hg ⟨Nat.zero_le _, Nat.zero_le _⟩ rfl
theorem tlM_copies_3 {Φ : ev_P} {d : Nat} (hd : 0 ≤ d) {v0 v1 v2 v3 v4 : Int} (h0 : RfR v0) (h1 : InR v1) (h2 : RfR v2) (h3 : InR v3) (h4 : InR v4) : ∀ n : Nat, ∀ (v5 : Int) (h5 : InR v5) (g : gH) (hg : HR g), Go Φ pr_P fN 0 (lM_copies_3 v0 v1 v2 v3 v4 n v5 g) d pr_m77 3 [some (sR v0), some (sI v1), some (sR v2), some (sI v3), some (sI v4), some (sI v5)] [] g 0 0 := by
  intro n
  induction n with
  | zero => intros; exact go_none
  | succ n ih => exact tbM_copies_3 hd h0 h1 h2 h3 h4 ih
theorem tfM_copies {Φ : ev_P} {d : Nat} (hd : 0 ≤ d) {g : gH} (hg : HR g) {v0 v1 v2 v3 v4 : Int} (h0 : RfR v0) (h1 : InR v1) (h2 : RfR v2) (h3 : InR v3) (h4 : InR v4) : Go Φ pr_P fN 0 (fM_copies g v0 v1 v2 v3 v4) d (pr_P 77) 0 (ev_loc (pr_P 77).1 [(sR v0), (sI v1), (sR v2), (sI v3), (sI v4)]) [] g 0 0 := by
  show Go Φ pr_P fN 0 (fM_copies g v0 v1 v2 v3 v4) d pr_m77 0 [some (sR v0), some (sI v1), some (sR v2), some (sI v3), some (sI v4), none] [] g 0 0
  unfold fM_copies
  refine go_int kk77_0.1.1.1.1.1 0 rfl ?_
  refine go_istore kk77_0.1.1.1.1.2 rfl (loc2 := [some (sR v0), some (sI v1), some (sR v2), some (sI v3), some (sI v4), some (sI 0)]) rfl ?_
  exact tlM_copies_3 hd h0 h1 h2 h3 h4 fu 0 (inR_b (Or.inl rfl)) g hg
theorem tjM_comes_161 {Φ : ev_P} {d : Nat} (hd : 0 ≤ d) {g : gH} (hg : HR g) {v0 v5 : Int} (hK0 : kd v0 = 7) (h5 : InR v5) (u1 : Option ev_V) (w1 : nwo u1) (u2 : Option ev_V) (w2 : nwo u2) (u3 : Option ev_V) (w3 : nwo u3) (u4 : Option ev_V) (w4 : nwo u4) (u6 : Option ev_V) (w6 : nwo u6) : Go Φ pr_P fN 1 (jM_comes_161 g v0 v5 ) d pr_m79 161 [some (sR v0), u1, u2, u3, u4, some (sI v5), u6] [] g 0 0 := by
  unfold jM_comes_161
  refine go_aload kk79_1.2.2.1.1.2.2 rfl ?_
  refine go_getR (bI := 0) kk79_1.2.2.1.2.1.1 hg hK0 (by decide) rfl rfl (fun r50 => ?_)
  refine go_int kk79_1.2.2.1.2.1.2 0 rfl ?_
  refine go_dup2 kk79_1.2.2.1.2.2 ?_
  refine go_ck (fun q52 => ?_)
  refine go_iald kk79_1.2.2.2.1.1.1 hg q52 (fun r51 => ?_)
  refine go_int kk79_1.2.2.2.1.1.2 1 rfl ?_
  refine go_iadd kk79_1.2.2.2.1.2 ?_
  refine go_ck (fun q53 => ?_)
  refine go_iast kk79_1.2.2.2.2.1.1 hg q53 (inR_w32 _) (fun g54 e55 => ?_)
  refine go_iload kk79_1.2.2.2.2.1.2 rfl ?_
  exact go_iret kk79_1.2.2.2.2.2 e55 h5 ⟨Nat.zero_le _, Nat.zero_le _⟩ rfl
theorem tbM_comes_130 {Φ : ev_P} {d : Nat} (hd : 0 ≤ d) {v0 v5 : Int} (hK0 : kd v0 = 7) (h5 : InR v5) {X130 : Int → gH → Option (Int × gH)} (HX130 : ∀ (v6 : Int) (h6 : InR v6) (g : gH) (hg : HR g) (u1 : Option ev_V) (w1 : nwo u1) (u2 : Option ev_V) (w2 : nwo u2) (u3 : Option ev_V) (w3 : nwo u3) (u4 : Option ev_V) (w4 : nwo u4), Go Φ pr_P fN 1 (X130 v6 g) d pr_m79 130 [some (sR v0), u1, u2, u3, u4, some (sI v5), some (sI v6)] [] g 0 0) : ∀ (v6 : Int) (h6 : InR v6) (g : gH) (hg : HR g) (u1 : Option ev_V) (w1 : nwo u1) (u2 : Option ev_V) (w2 : nwo u2) (u3 : Option ev_V) (w3 : nwo u3) (u4 : Option ev_V) (w4 : nwo u4), Go Φ pr_P fN 1 (bM_comes_130 v0 v5 X130 v6 g) d pr_m79 130 [some (sR v0), u1, u2, u3, u4, some (sI v5), some (sI v6)] [] g 0 0 := by
  intro v6 h6 g hg u1 w1 u2 w2 u3 w3 u4 w4
  unfold bM_comes_130
  refine go_iload kk79_1.2.1.1.1.1.1 rfl ?_
  refine go_int kk79_1.2.1.1.1.1.2 8 rfl ?_
  refine go_cmlt kk79_1.2.1.1.1.2.1 h6 (inR_of (by decide)) (fun c44 => ?_) (fun c45 => ?_)
  · refine go_aload kk79_1.2.1.1.1.2.2 rfl ?_
    refine go_getR (bI := 0) kk79_1.2.1.1.2.1.1 hg hK0 (by decide) rfl rfl (fun r46 => ?_)
    refine go_int kk79_1.2.1.1.2.1.2 460 rfl ?_
    refine go_int kk79_1.2.1.1.2.2 8 rfl ?_
    refine go_iload kk79_1.2.1.2.1.1.1 rfl ?_
    refine go_ibin kk79_1.2.1.2.1.1.2 ?_
    refine go_iadd kk79_1.2.1.2.1.2 ?_
    refine go_iload kk79_1.2.1.2.2.1.1 rfl ?_
    refine go_iadd kk79_1.2.1.2.2.1.2 ?_
    refine go_int kk79_1.2.1.2.2.2 (-1) rfl ?_
    refine go_ck (fun q47 => ?_)
    refine go_iast kk79_1.2.2.1.1.1.1 hg q47 (inR_of (by decide)) (fun g48 e49 => ?_)
    refine go_iinc kk79_1.2.2.1.1.1.2 rfl rfl 1 rfl (loc2 := [some (sR v0), u1, u2, u3, u4, some (sI v5), some (sI (w32 (v6 + 1)))]) rfl ?_
    refine go_goto kk79_1.2.2.1.1.2.1 ?_
    exact HX130 (w32 (v6 + 1)) (inR_w32 _) g48 e49 u1 w1 u2 w2 u3 w3 u4 w4
  · exact tjM_comes_161 hd hg hK0 h5 u1 w1 u2 w2 u3 w3 u4 w4 (some (sI v6)) rfl
theorem tlM_comes_130 {Φ : ev_P} {d : Nat} (hd : 0 ≤ d) {v0 v5 : Int} (hK0 : kd v0 = 7) (h5 : InR v5) : ∀ n : Nat, ∀ (v6 : Int) (h6 : InR v6) (g : gH) (hg : HR g) (u1 : Option ev_V) (w1 : nwo u1) (u2 : Option ev_V) (w2 : nwo u2) (u3 : Option ev_V) (w3 : nwo u3) (u4 : Option ev_V) (w4 : nwo u4), Go Φ pr_P fN 1 (lM_comes_130 v0 v5 n v6 g) d pr_m79 130 [some (sR v0), u1, u2, u3, u4, some (sI v5), some (sI v6)] [] g 0 0 := by
  intro n
  induction n with
  | zero => intros; exact go_none
  | succ n ih => exact tbM_comes_130 hd hK0 h5 ih
theorem tfM_comes {Φ : ev_P} {d : Nat} (hd : 0 ≤ d) {g : gH} (hg : HR g) {v0 v1 v2 v3 v4 : Int} (hK0 : kd v0 = 7) (h1 : InR v1) (h2 : InR v2) (h3 : InR v3) (h4 : InR v4) : Go Φ pr_P fN 1 (fM_comes g v0 v1 v2 v3 v4) d (pr_P 79) 0 (ev_loc (pr_P 79).1 [(sR v0), (sI v1), (sI v2), (sI v3), (sI v4)]) [] g 0 0 := by
  show Go Φ pr_P fN 1 (fM_comes g v0 v1 v2 v3 v4) d pr_m79 0 [some (sR v0), some (sI v1), some (sI v2), some (sI v3), some (sI v4), none, none] [] g 0 0
  unfold fM_comes
  refine go_aload kk79_0.1.1.1.1.1.1 rfl ?_
  refine go_getR (bI := 0) kk79_0.1.1.1.1.1.2 hg hK0 (by decide) rfl rfl (fun r1 => ?_)
  refine go_int kk79_0.1.1.1.1.2.1 0 rfl ?_
  refine go_ck (fun q3 => ?_)
  refine go_iald kk79_0.1.1.1.1.2.2 hg q3 (fun r2 => ?_)
  refine go_istore kk79_0.1.1.1.2.1.1 rfl (loc2 := [some (sR v0), some (sI v1), some (sI v2), some (sI v3), some (sI v4), some (sI (g (g v0 0) 0)), none]) rfl ?_
  refine go_aload kk79_0.1.1.1.2.1.2 rfl ?_
  refine go_getR (bI := 0) kk79_0.1.1.1.2.2 hg hK0 (by decide) rfl rfl (fun r4 => ?_)
  refine go_int kk79_0.1.1.2.1.1.1 60 rfl ?_
  refine go_iload kk79_0.1.1.2.1.1.2 rfl ?_
  refine go_iadd kk79_0.1.1.2.1.2 ?_
  refine go_iload kk79_0.1.1.2.2.1.1 rfl ?_
  refine go_ck (fun q5 => ?_)
  refine go_iast kk79_0.1.1.2.2.1.2 hg q5 h1 (fun g6 e7 => ?_)
  refine go_aload kk79_0.1.1.2.2.2 rfl ?_
  refine go_getR (bI := 0) kk79_0.1.2.1.1.1.1 e7 hK0 (by decide) rfl rfl (fun r8 => ?_)
  refine go_int kk79_0.1.2.1.1.1.2 100 rfl ?_
  refine go_iload kk79_0.1.2.1.1.2.1 rfl ?_
  refine go_iadd kk79_0.1.2.1.1.2.2 ?_
  refine go_iload kk79_0.1.2.1.2.1.1 rfl ?_
  refine go_ck (fun q9 => ?_)
  refine go_iast kk79_0.1.2.1.2.1.2 e7 q9 h2 (fun g10 e11 => ?_)
  refine go_aload kk79_0.1.2.1.2.2 rfl ?_
  refine go_getR (bI := 0) kk79_0.1.2.2.1.1.1 e11 hK0 (by decide) rfl rfl (fun r12 => ?_)
  refine go_int kk79_0.1.2.2.1.1.2 140 rfl ?_
  refine go_iload kk79_0.1.2.2.1.2 rfl ?_
  refine go_iadd kk79_0.1.2.2.2.1.1 ?_
  refine go_int kk79_0.1.2.2.2.1.2 0 rfl ?_
  refine go_ck (fun q13 => ?_)
  refine go_iast kk79_0.1.2.2.2.2 e11 q13 (inR_b (Or.inl rfl)) (fun g14 e15 => ?_)
  refine go_aload kk79_0.2.1.1.1.1.1 rfl ?_
  refine go_getR (bI := 0) kk79_0.2.1.1.1.1.2 e15 hK0 (by decide) rfl rfl (fun r16 => ?_)
  refine go_int kk79_0.2.1.1.1.2.1 180 rfl ?_
  refine go_iload kk79_0.2.1.1.1.2.2 rfl ?_
  refine go_iadd kk79_0.2.1.1.2.1.1 ?_
  refine go_iload kk79_0.2.1.1.2.1.2 rfl ?_
  refine go_ck (fun q17 => ?_)
  refine go_iast kk79_0.2.1.1.2.2 e15 q17 h3 (fun g18 e19 => ?_)
  refine go_aload kk79_0.2.1.2.1.1.1 rfl ?_
  refine go_getR (bI := 0) kk79_0.2.1.2.1.1.2 e19 hK0 (by decide) rfl rfl (fun r20 => ?_)
  refine go_int kk79_0.2.1.2.1.2 220 rfl ?_
  refine go_iload kk79_0.2.1.2.2.1.1 rfl ?_
  refine go_iadd kk79_0.2.1.2.2.1.2 ?_
  refine go_iload kk79_0.2.1.2.2.2 rfl ?_
  refine go_ck (fun q21 => ?_)
  refine go_iast kk79_0.2.2.1.1.1.1 e19 q21 h4 (fun g22 e23 => ?_)
  refine go_aload kk79_0.2.2.1.1.1.2 rfl ?_
  refine go_getR (bI := 0) kk79_0.2.2.1.1.2 e23 hK0 (by decide) rfl rfl (fun r24 => ?_)
  refine go_int kk79_0.2.2.1.2.1.1 260 rfl ?_
  refine go_iload kk79_0.2.2.1.2.1.2 rfl ?_
  refine go_iadd kk79_0.2.2.1.2.2 ?_
  refine go_int kk79_0.2.2.2.1.1.1 (-1) rfl ?_
  refine go_ck (fun q25 => ?_)
  refine go_iast kk79_0.2.2.2.1.1.2 e23 q25 (inR_of (by decide)) (fun g26 e27 => ?_)
  refine go_aload kk79_0.2.2.2.1.2 rfl ?_
  refine go_getR (bI := 0) kk79_0.2.2.2.2.1.1 e27 hK0 (by decide) rfl rfl (fun r28 => ?_)
  refine go_int kk79_0.2.2.2.2.1.2 300 rfl ?_
  refine go_iload kk79_0.2.2.2.2.2 rfl ?_
  refine go_iadd kk79_1.1.1.1.1.1.1 ?_
  refine go_int kk79_1.1.1.1.1.1.2 (-1) rfl ?_
  refine go_ck (fun q29 => ?_)
  refine go_iast kk79_1.1.1.1.1.2.1 e27 q29 (inR_of (by decide)) (fun g30 e31 => ?_)
  refine go_aload kk79_1.1.1.1.1.2.2 rfl ?_
  refine go_getR (bI := 0) kk79_1.1.1.1.2.1.1 e31 hK0 (by decide) rfl rfl (fun r32 => ?_)
  refine go_int kk79_1.1.1.1.2.1.2 340 rfl ?_
  refine go_iload kk79_1.1.1.1.2.2 rfl ?_
  refine go_iadd kk79_1.1.1.2.1.1.1 ?_
  refine go_int kk79_1.1.1.2.1.1.2 0 rfl ?_
  refine go_ck (fun q33 => ?_)
  refine go_iast kk79_1.1.1.2.1.2 e31 q33 (inR_b (Or.inl rfl)) (fun g34 e35 => ?_)
  refine go_aload kk79_1.1.1.2.2.1.1 rfl ?_
  refine go_getR (bI := 0) kk79_1.1.1.2.2.1.2 e35 hK0 (by decide) rfl rfl (fun r36 => ?_)
  refine go_int kk79_1.1.1.2.2.2 380 rfl ?_
  refine go_iload kk79_1.1.2.1.1.1.1 rfl ?_
  refine go_iadd kk79_1.1.2.1.1.1.2 ?_
  refine go_int kk79_1.1.2.1.1.2.1 0 rfl ?_
  refine go_ck (fun q37 => ?_)
  refine go_iast kk79_1.1.2.1.1.2.2 e35 q37 (inR_b (Or.inl rfl)) (fun g38 e39 => ?_)
  refine go_aload kk79_1.1.2.1.2.1.1 rfl ?_
  refine go_getR (bI := 0) kk79_1.1.2.1.2.1.2 e39 hK0 (by decide) rfl rfl (fun r40 => ?_)
  refine go_int kk79_1.1.2.1.2.2 420 rfl ?_
  refine go_iload kk79_1.1.2.2.1.1.1 rfl ?_
  refine go_iadd kk79_1.1.2.2.1.1.2 ?_
  refine go_int kk79_1.1.2.2.1.2 (-1) rfl ?_
  refine go_ck (fun q41 => ?_)
  refine go_iast kk79_1.1.2.2.2.1.1 e39 q41 (inR_of (by decide)) (fun g42 e43 => ?_)
  refine go_int kk79_1.1.2.2.2.1.2 0 rfl ?_
  refine go_istore kk79_1.1.2.2.2.2 rfl (loc2 := [some (sR v0), some (sI v1), some (sI v2), some (sI v3), some (sI v4), some (sI (g (g v0 0) 0)), some (sI 0)]) rfl ?_
  exact tlM_comes_130 hd hK0 r2 fu 0 (inR_b (Or.inl rfl)) g42 e43 (some (sI v1)) rfl (some (sI v2)) rfl (some (sI v3)) rfl (some (sI v4)) rfl
theorem tjM_clear_52 {Φ : ev_P} {d : Nat} (hd : 1 ≤ d) {g : gH} (hg : HR g) {v0 : Int} (hK0 : kd v0 = 7) (u1 : Option ev_V) (w1 : nwo u1) : Go Φ pr_P fN 0 (jM_clear_52 g v0 ) d pr_m78 52 [some (sR v0), u1] [] g 0 0 := by
  unfold jM_clear_52
  refine go_aload kk78_0.2.1.2.2.1 rfl ?_
  refine go_getR (bI := 0) kk78_0.2.1.2.2.2 hg hK0 (by decide) rfl rfl (fun r17 => ?_)
  refine go_int kk78_0.2.2.1.1.1.1 59 rfl ?_
  refine go_int kk78_0.2.2.1.1.1.2 20 rfl ?_
  refine go_ck (fun q18 => ?_)
  refine go_iast kk78_0.2.2.1.1.2 hg q18 (inR_of (by decide)) (fun g19 e20 => ?_)
  refine go_aload kk78_0.2.2.1.2.1.1 rfl ?_
  refine go_int kk78_0.2.2.1.2.1.2 (-1) rfl ?_
  refine go_int kk78_0.2.2.1.2.2 9 rfl ?_
  refine go_int kk78_0.2.2.2.1.1.1 0 rfl ?_
  refine go_int kk78_0.2.2.2.1.1.2 0 rfl ?_
  refine go_callN1 kk78_0.2.2.2.1.2 rfl rfl rfl ⟨by decide, _, rfl, hK0⟩ ⟨Nat.zero_le _, Nat.zero_le _⟩ (by omega) (tfM_comes (by omega) e20 hK0  (inR_of (by decide)) (inR_of (by decide)) (inR_b (Or.inl rfl)) (inR_b (Or.inl rfl))) (fun y21 g23 r22 e24 => ?_)
  refine go_popI kk78_0.2.2.2.2.1 ?_
  exact go_vret kk78_0.2.2.2.2.2 e24 ⟨Nat.zero_le _, Nat.zero_le _⟩ rfl
theorem tbM_clear_31 {Φ : ev_P} {d : Nat} (hd : 1 ≤ d) {v0 : Int} (hK0 : kd v0 = 7) {X31 : Int → gH → Option (Int × gH)} (HX31 : ∀ (v1 : Int) (h1 : InR v1) (g : gH) (hg : HR g), Go Φ pr_P fN 0 (X31 v1 g) d pr_m78 31 [some (sR v0), some (sI v1)] [] g 0 0) : ∀ (v1 : Int) (h1 : InR v1) (g : gH) (hg : HR g), Go Φ pr_P fN 0 (bM_clear_31 v0 X31 v1 g) d pr_m78 31 [some (sR v0), some (sI v1)] [] g 0 0 := by
  intro v1 h1 g hg
  unfold bM_clear_31
  refine go_iload kk78_0.1.2.2.1.2 rfl ?_
  refine go_int kk78_0.1.2.2.2.1 3 rfl ?_
  refine go_cmlt kk78_0.1.2.2.2.2 h1 (inR_of (by decide)) (fun c11 => ?_) (fun c12 => ?_)
  · refine go_aload kk78_0.2.1.1.1.1.1 rfl ?_
    refine go_getR (bI := 0) kk78_0.2.1.1.1.1.2 hg hK0 (by decide) rfl rfl (fun r13 => ?_)
    refine go_int kk78_0.2.1.1.1.2 6 rfl ?_
    refine go_iload kk78_0.2.1.1.2.1.1 rfl ?_
    refine go_iadd kk78_0.2.1.1.2.1.2 ?_
    refine go_iload kk78_0.2.1.1.2.2 rfl ?_
    refine go_ck (fun q14 => ?_)
    refine go_iast kk78_0.2.1.2.1.1.1 hg q14 h1 (fun g15 e16 => ?_)
    refine go_iinc kk78_0.2.1.2.1.1.2 rfl rfl 1 rfl (loc2 := [some (sR v0), some (sI (w32 (v1 + 1)))]) rfl ?_
    refine go_goto kk78_0.2.1.2.1.2 ?_
    exact HX31 (w32 (v1 + 1)) (inR_w32 _) g15 e16
  · exact tjM_clear_52 hd hg hK0 (some (sI v1)) rfl
theorem tlM_clear_31 {Φ : ev_P} {d : Nat} (hd : 1 ≤ d) {v0 : Int} (hK0 : kd v0 = 7) : ∀ n : Nat, ∀ (v1 : Int) (h1 : InR v1) (g : gH) (hg : HR g), Go Φ pr_P fN 0 (lM_clear_31 v0 n v1 g) d pr_m78 31 [some (sR v0), some (sI v1)] [] g 0 0 := by
  intro n
  induction n with
  | zero => intros; exact go_none
  | succ n ih => exact tbM_clear_31 hd hK0 ih
theorem tjM_clear_22 {Φ : ev_P} {d : Nat} (hd : 1 ≤ d) {g : gH} (hg : HR g) {v0 : Int} (hK0 : kd v0 = 7) (u1 : Option ev_V) (w1 : nwo u1) : Go Φ pr_P fN 0 (jM_clear_22 g v0 ) d pr_m78 22 [some (sR v0), u1] [] g 0 0 := by
  unfold jM_clear_22
  refine go_aload kk78_0.1.2.1.1.1.2 rfl ?_
  refine go_getR (bI := 0) kk78_0.1.2.1.1.2 hg hK0 (by decide) rfl rfl (fun r7 => ?_)
  refine go_int kk78_0.1.2.1.2.1.1 5 rfl ?_
  refine go_int kk78_0.1.2.1.2.1.2 3 rfl ?_
  refine go_ck (fun q8 => ?_)
  refine go_iast kk78_0.1.2.1.2.2 hg q8 (inR_of (by decide)) (fun g9 e10 => ?_)
  refine go_int kk78_0.1.2.2.1.1.1 0 rfl ?_
  refine go_istore kk78_0.1.2.2.1.1.2 rfl (loc2 := [some (sR v0), some (sI 0)]) rfl ?_
  exact tlM_clear_31 hd hK0 fu 0 (inR_b (Or.inl rfl)) g9 e10
theorem tbM_clear_2 {Φ : ev_P} {d : Nat} (hd : 1 ≤ d) {v0 : Int} (hK0 : kd v0 = 7) {X2 : Int → gH → Option (Int × gH)} (HX2 : ∀ (v1 : Int) (h1 : InR v1) (g : gH) (hg : HR g), Go Φ pr_P fN 0 (X2 v1 g) d pr_m78 2 [some (sR v0), some (sI v1)] [] g 0 0) : ∀ (v1 : Int) (h1 : InR v1) (g : gH) (hg : HR g), Go Φ pr_P fN 0 (bM_clear_2 v0 X2 v1 g) d pr_m78 2 [some (sR v0), some (sI v1)] [] g 0 0 := by
  intro v1 h1 g hg
  unfold bM_clear_2
  refine go_iload kk78_0.1.1.1.1.2 rfl ?_
  refine go_int kk78_0.1.1.1.2.1.1 780 rfl ?_
  refine go_cmlt kk78_0.1.1.1.2.1.2 h1 (inR_of (by decide)) (fun c1 => ?_) (fun c2 => ?_)
  · refine go_aload kk78_0.1.1.1.2.2 rfl ?_
    refine go_getR (bI := 0) kk78_0.1.1.2.1.1.1 hg hK0 (by decide) rfl rfl (fun r3 => ?_)
    refine go_iload kk78_0.1.1.2.1.1.2 rfl ?_
    refine go_int kk78_0.1.1.2.1.2 0 rfl ?_
    refine go_ck (fun q4 => ?_)
    refine go_iast kk78_0.1.1.2.2.1 hg q4 (inR_b (Or.inl rfl)) (fun g5 e6 => ?_)
    refine go_iinc kk78_0.1.1.2.2.2 rfl rfl 1 rfl (loc2 := [some (sR v0), some (sI (w32 (v1 + 1)))]) rfl ?_
    refine go_goto kk78_0.1.2.1.1.1.1 ?_
    exact HX2 (w32 (v1 + 1)) (inR_w32 _) g5 e6
  · exact tjM_clear_22 hd hg hK0 (some (sI v1)) rfl
theorem tlM_clear_2 {Φ : ev_P} {d : Nat} (hd : 1 ≤ d) {v0 : Int} (hK0 : kd v0 = 7) : ∀ n : Nat, ∀ (v1 : Int) (h1 : InR v1) (g : gH) (hg : HR g), Go Φ pr_P fN 0 (lM_clear_2 v0 n v1 g) d pr_m78 2 [some (sR v0), some (sI v1)] [] g 0 0 := by
  intro n
  induction n with
  | zero => intros; exact go_none
  | succ n ih => exact tbM_clear_2 hd hK0 ih
theorem tfM_clear {Φ : ev_P} {d : Nat} (hd : 1 ≤ d) {g : gH} (hg : HR g) {v0 : Int} (hK0 : kd v0 = 7) : Go Φ pr_P fN 0 (fM_clear g v0) d (pr_P 78) 0 (ev_loc (pr_P 78).1 [(sR v0)]) [] g 0 0 := by
  show Go Φ pr_P fN 0 (fM_clear g v0) d pr_m78 0 [some (sR v0), none] [] g 0 0
  unfold fM_clear
  refine go_int kk78_0.1.1.1.1.1.1 0 rfl ?_
  refine go_istore kk78_0.1.1.1.1.1.2 rfl (loc2 := [some (sR v0), some (sI 0)]) rfl ?_
  exact tlM_clear_2 hd hK0 fu 0 (inR_b (Or.inl rfl)) g hg
theorem tfM_byteAt {Φ : ev_P} {d : Nat} (hd : 0 ≤ d) {g : gH} (hg : HR g) {v0 v1 : Int} (hK0 : kd v0 = 7) (h1 : InR v1) : Go Φ pr_P (fP g) 1 (fM_byteAt g v0 v1) d (pr_P 109) 0 (ev_loc (pr_P 109).1 [(sR v0), (sI v1)]) [] g 0 0 := by
  show Go Φ pr_P (fP g) 1 (fM_byteAt g v0 v1) d pr_m109 0 [some (sR v0), some (sI v1)] [] g 0 0
  unfold fM_byteAt
  refine go_iload kk109_0.1.1.1.1 rfl ?_
  refine go_aload kk109_0.1.1.1.2 rfl ?_
  refine go_getI (bI := 10) kk109_0.1.1.2 hg hK0 (by decide) rfl rfl (fun r1 => ?_)
  refine go_cmlt kk109_0.1.2.1.1 h1 r1 (fun c2 => ?_) (fun c3 => ?_)
  · refine go_aload kk109_0.1.2.1.2 rfl ?_
    refine go_getR (bI := 9) kk109_0.1.2.2 hg hK0 (by decide) rfl rfl (fun r4 => ?_)
    refine go_iload kk109_0.2.1.1.1 rfl ?_
    refine go_ck (fun q6 => ?_)
    refine go_iald kk109_0.2.1.1.2 hg q6 (fun r5 => ?_)
    refine go_goto kk109_0.2.1.2 ?_
    exact go_iret kk109_0.2.2.2 hg r5 ⟨Nat.zero_le _, Nat.zero_le _⟩ rfl
  · refine go_int kk109_0.2.2.1 (-1) rfl ?_
    exact go_iret kk109_0.2.2.2 hg (inR_of (by decide)) ⟨Nat.zero_le _, Nat.zero_le _⟩ rfl
theorem tbM_advanceToken_137 {Φ : ev_P} {d : Nat} (hd : 1 ≤ d) {v0 : Int} (hK0 : kd v0 = 7) {X137 : gH → Option (Int × gH)} (HX137 : ∀ (g : gH) (hg : HR g) (u1 : Option ev_V) (w1 : nwo u1), Go Φ pr_P fN 0 (X137 g) d pr_m110 137 [some (sR v0), u1] [] g 0 0) : ∀ (g : gH) (hg : HR g) (u1 : Option ev_V) (w1 : nwo u1), Go Φ pr_P fN 0 (bM_advanceToken_137 v0 X137 g) d pr_m110 137 [some (sR v0), u1] [] g 0 0 := by
  intro g hg u1 w1
  unfold bM_advanceToken_137
  refine go_aload kk110_1.1.1.2.1.2.1 rfl ?_
  refine go_aload kk110_1.1.1.2.1.2.2 rfl ?_
  refine go_getI (bI := 15) kk110_1.1.1.2.2.1.1 hg hK0 (by decide) rfl rfl (fun r63 => ?_)
  refine go_callP1 kk110_1.1.1.2.2.1.2 rfl rfl rfl ⟨by decide, _, rfl, hK0⟩ ⟨Nat.zero_le _, Nat.zero_le _⟩ (by omega) (tfM_byteAt (by omega) hg hK0  r63) (fun y64 r65 => ?_)
  refine go_int kk110_1.1.1.2.2.2 48 rfl ?_
  refine go_int kk110_1.1.2.1.1.1.1 57 rfl ?_
  refine go_callP3 kk110_1.1.2.1.1.1.2 rfl rfl rfl trivial ⟨Nat.zero_le _, Nat.zero_le _⟩ (by omega) (tfM_inRange (by omega) hg  r65 (inR_of (by decide)) (inR_of (by decide))) (fun y68 r69 => ?_)
  refine go_ifeq kk110_1.1.2.1.1.2.1 (inR_b r69) (fun c72 => ?_) (fun c73 => ?_)
  · exact go_vret kk110_1.2.2.2.2.2 hg ⟨Nat.zero_le _, Nat.zero_le _⟩ rfl
  · refine go_aload kk110_1.1.2.1.1.2.2 rfl ?_
    refine go_getI (bI := 15) kk110_1.1.2.1.2.1.1 hg hK0 (by decide) rfl rfl (fun r74 => ?_)
    refine go_aload kk110_1.1.2.1.2.1.2 rfl ?_
    refine go_getI (bI := 16) kk110_1.1.2.1.2.2.1 hg hK0 (by decide) rfl rfl (fun r75 => ?_)
    refine go_isub kk110_1.1.2.1.2.2.2 ?_
    refine go_int kk110_1.1.2.2.1.1.1 2 rfl ?_
    refine go_cmlt kk110_1.1.2.2.1.1.2 (inR_w32 _) (inR_of (by decide)) (fun c76 => ?_) (fun c77 => ?_)
    · refine go_aload kk110_1.1.2.2.1.2.1 rfl ?_
      refine go_int kk110_1.1.2.2.1.2.2 10 rfl ?_
      refine go_aload kk110_1.1.2.2.2.1.1 rfl ?_
      refine go_getI (bI := 17) kk110_1.1.2.2.2.1.2 hg hK0 (by decide) rfl rfl (fun r78 => ?_)
      refine go_ibin kk110_1.1.2.2.2.2 ?_
      refine go_aload kk110_1.2.1.1.1.1.1 rfl ?_
      refine go_aload kk110_1.2.1.1.1.1.2 rfl ?_
      refine go_getI (bI := 15) kk110_1.2.1.1.1.2.1 hg hK0 (by decide) rfl rfl (fun r79 => ?_)
      refine go_callP1 kk110_1.2.1.1.1.2.2 rfl rfl rfl ⟨by decide, _, rfl, hK0⟩ ⟨Nat.zero_le _, Nat.zero_le _⟩ (by omega) (tfM_byteAt (by omega) hg hK0  r79) (fun y80 r81 => ?_)
      refine go_iadd kk110_1.2.1.1.2.1.1 ?_
      refine go_int kk110_1.2.1.1.2.1.2 48 rfl ?_
      refine go_isub kk110_1.2.1.1.2.2.1 ?_
      refine go_putI (bI := 17) kk110_1.2.1.1.2.2.2 hg hK0 (by decide) rfl rfl (inR_w32 _) (fun g84 e85 => ?_)
      refine go_aload kk110_1.2.1.2.1.1.1 rfl ?_
      refine go_dupR kk110_1.2.1.2.1.1.2 ?_
      refine go_getI (bI := 15) kk110_1.2.1.2.1.2.1 e85 hK0 (by decide) rfl rfl (fun r86 => ?_)
      refine go_int kk110_1.2.1.2.1.2.2 1 rfl ?_
      refine go_iadd kk110_1.2.1.2.2.1.1 ?_
      refine go_putI (bI := 15) kk110_1.2.1.2.2.1.2 e85 hK0 (by decide) rfl rfl (inR_w32 _) (fun g87 e88 => ?_)
      refine go_goto kk110_1.2.1.2.2.2 ?_
      exact HX137 g87 e88 u1 w1
    · refine go_aload kk110_1.2.1.2.1.1.1 rfl ?_
      refine go_dupR kk110_1.2.1.2.1.1.2 ?_
      refine go_getI (bI := 15) kk110_1.2.1.2.1.2.1 hg hK0 (by decide) rfl rfl (fun r89 => ?_)
      refine go_int kk110_1.2.1.2.1.2.2 1 rfl ?_
      refine go_iadd kk110_1.2.1.2.2.1.1 ?_
      refine go_putI (bI := 15) kk110_1.2.1.2.2.1.2 hg hK0 (by decide) rfl rfl (inR_w32 _) (fun g90 e91 => ?_)
      refine go_goto kk110_1.2.1.2.2.2 ?_
      exact HX137 g90 e91 u1 w1
theorem tlM_advanceToken_137 {Φ : ev_P} {d : Nat} (hd : 1 ≤ d) {v0 : Int} (hK0 : kd v0 = 7) : ∀ n : Nat, ∀ (g : gH) (hg : HR g) (u1 : Option ev_V) (w1 : nwo u1), Go Φ pr_P fN 0 (lM_advanceToken_137 v0 n g) d pr_m110 137 [some (sR v0), u1] [] g 0 0 := by
  intro n
  induction n with
  | zero => intros; exact go_none
  | succ n ih => exact tbM_advanceToken_137 hd hK0 ih
theorem tbM_advanceToken_90 {Φ : ev_P} {d : Nat} (hd : 1 ≤ d) {v0 : Int} (hK0 : kd v0 = 7) {X90 : gH → Option (Int × gH)} (HX90 : ∀ (g : gH) (hg : HR g) (u1 : Option ev_V) (w1 : nwo u1), Go Φ pr_P fN 0 (X90 g) d pr_m110 90 [some (sR v0), u1] [] g 0 0) : ∀ (g : gH) (hg : HR g) (u1 : Option ev_V) (w1 : nwo u1), Go Φ pr_P fN 0 (bM_advanceToken_90 v0 X90 g) d pr_m110 90 [some (sR v0), u1] [] g 0 0 := by
  intro g hg u1 w1
  unfold bM_advanceToken_90
  refine go_aload kk110_0.2.2.1.1.1.2 rfl ?_
  refine go_aload kk110_0.2.2.1.1.2.1 rfl ?_
  refine go_getI (bI := 15) kk110_0.2.2.1.1.2.2 hg hK0 (by decide) rfl rfl (fun r92 => ?_)
  refine go_callP1 kk110_0.2.2.1.2.1.1 rfl rfl rfl ⟨by decide, _, rfl, hK0⟩ ⟨Nat.zero_le _, Nat.zero_le _⟩ (by omega) (tfM_byteAt (by omega) hg hK0  r92) (fun y93 r94 => ?_)
  refine go_int kk110_0.2.2.1.2.1.2 97 rfl ?_
  refine go_int kk110_0.2.2.1.2.2 122 rfl ?_
  refine go_callP3 kk110_0.2.2.2.1.1.1 rfl rfl rfl trivial ⟨Nat.zero_le _, Nat.zero_le _⟩ (by omega) (tfM_inRange (by omega) hg  r94 (inR_of (by decide)) (inR_of (by decide))) (fun y97 r98 => ?_)
  refine go_ifeq kk110_0.2.2.2.1.1.2 (inR_b r98) (fun c101 => ?_) (fun c102 => ?_)
  · exact go_vret kk110_1.2.2.2.2.2 hg ⟨Nat.zero_le _, Nat.zero_le _⟩ rfl
  · refine go_aload kk110_0.2.2.2.1.2.1 rfl ?_
    refine go_dupR kk110_0.2.2.2.1.2.2 ?_
    refine go_getI (bI := 15) kk110_0.2.2.2.2.1.1 hg hK0 (by decide) rfl rfl (fun r103 => ?_)
    refine go_int kk110_0.2.2.2.2.1.2 1 rfl ?_
    refine go_iadd kk110_0.2.2.2.2.2 ?_
    refine go_putI (bI := 15) kk110_1.1.1.1.1.1.1 hg hK0 (by decide) rfl rfl (inR_w32 _) (fun g104 e105 => ?_)
    refine go_goto kk110_1.1.1.1.1.1.2 ?_
    exact HX90 g104 e105 u1 w1
theorem tlM_advanceToken_90 {Φ : ev_P} {d : Nat} (hd : 1 ≤ d) {v0 : Int} (hK0 : kd v0 = 7) : ∀ n : Nat, ∀ (g : gH) (hg : HR g) (u1 : Option ev_V) (w1 : nwo u1), Go Φ pr_P fN 0 (lM_advanceToken_90 v0 n g) d pr_m110 90 [some (sR v0), u1] [] g 0 0 := by
  intro n
  induction n with
  | zero => intros; exact go_none
  | succ n ih => exact tbM_advanceToken_90 hd hK0 ih
theorem tjM_advanceToken_39 {Φ : ev_P} {d : Nat} (hd : 1 ≤ d) {g : gH} (hg : HR g) {v0 : Int} (hK0 : kd v0 = 7) (u1 : Option ev_V) (w1 : nwo u1) : Go Φ pr_P fN 0 (jM_advanceToken_39 g v0 ) d pr_m110 39 [some (sR v0), u1] [] g 0 0 := by
  unfold jM_advanceToken_39
  refine go_aload kk110_0.1.2.1.2.1.1 rfl ?_
  refine go_aload kk110_0.1.2.1.2.1.2 rfl ?_
  refine go_getI (bI := 15) kk110_0.1.2.1.2.2.1 hg hK0 (by decide) rfl rfl (fun r21 => ?_)
  refine go_putI (bI := 16) kk110_0.1.2.1.2.2.2 hg hK0 (by decide) rfl rfl r21 (fun g22 e23 => ?_)
  refine go_aload kk110_0.1.2.2.1.1.1 rfl ?_
  refine go_aload kk110_0.1.2.2.1.1.2 rfl ?_
  refine go_getI (bI := 15) kk110_0.1.2.2.1.2.1 e23 hK0 (by decide) rfl rfl (fun r24 => ?_)
  refine go_callP1 kk110_0.1.2.2.1.2.2 rfl rfl rfl ⟨by decide, _, rfl, hK0⟩ ⟨Nat.zero_le _, Nat.zero_le _⟩ (by omega) (tfM_byteAt (by omega) e23 hK0  r24) (fun y25 r26 => ?_)
  refine go_istore kk110_0.1.2.2.2.1.1 rfl (loc2 := [some (sR v0), some (sI y25)]) rfl ?_
  refine go_aload kk110_0.1.2.2.2.1.2 rfl ?_
  refine go_int kk110_0.1.2.2.2.2 0 rfl ?_
  refine go_putI (bI := 17) kk110_0.2.1.1.1.1.1 e23 hK0 (by decide) rfl rfl (inR_b (Or.inl rfl)) (fun g29 e30 => ?_)
  refine go_iload kk110_0.2.1.1.1.1.2 rfl ?_
  refine go_int kk110_0.2.1.1.1.2.1 (-1) rfl ?_
  refine go_cmeq kk110_0.2.1.1.1.2.2 r26 (inR_of (by decide)) (fun c31 => ?_) (fun c32 => ?_)
  · refine go_aload kk110_0.2.1.1.2.1.1 rfl ?_
    refine go_int kk110_0.2.1.1.2.1.2 0 rfl ?_
    refine go_putI (bI := 18) kk110_0.2.1.1.2.2.1 e30 hK0 (by decide) rfl rfl (inR_b (Or.inl rfl)) (fun g33 e34 => ?_)
    refine go_goto kk110_0.2.1.1.2.2.2 ?_
    exact go_vret kk110_1.2.2.2.2.2 e34 ⟨Nat.zero_le _, Nat.zero_le _⟩ rfl
  · refine go_iload kk110_0.2.1.2.1.1.1 rfl ?_
    refine go_int kk110_0.2.1.2.1.1.2 97 rfl ?_
    refine go_int kk110_0.2.1.2.1.2.1 122 rfl ?_
    refine go_callP3 kk110_0.2.1.2.1.2.2 rfl rfl rfl trivial ⟨Nat.zero_le _, Nat.zero_le _⟩ (by omega) (tfM_inRange (by omega) e30  r26 (inR_of (by decide)) (inR_of (by decide))) (fun y35 r36 => ?_)
    refine go_ifeq kk110_0.2.1.2.2.1.1 (inR_b r36) (fun c39 => ?_) (fun c40 => ?_)
    · refine go_iload kk110_1.1.1.1.1.2.1 rfl ?_
      refine go_int kk110_1.1.1.1.1.2.2 48 rfl ?_
      refine go_int kk110_1.1.1.1.2.1.1 57 rfl ?_
      refine go_callP3 kk110_1.1.1.1.2.1.2 rfl rfl rfl trivial ⟨Nat.zero_le _, Nat.zero_le _⟩ (by omega) (tfM_inRange (by omega) e30  r26 (inR_of (by decide)) (inR_of (by decide))) (fun y41 r42 => ?_)
      refine go_ifeq kk110_1.1.1.1.2.2.1 (inR_b r42) (fun c45 => ?_) (fun c46 => ?_)
      · refine go_aload kk110_1.2.2.1.1.1.1 rfl ?_
        refine go_iload kk110_1.2.2.1.1.1.2 rfl ?_
        refine go_int kk110_1.2.2.1.1.2.1 59 rfl ?_
        refine go_cmeq kk110_1.2.2.1.1.2.2 r26 (inR_of (by decide)) (fun c47 => ?_) (fun c48 => ?_)
        · refine go_int kk110_1.2.2.1.2.1.1 3 rfl ?_
          refine go_goto kk110_1.2.2.1.2.1.2 ?_
          refine go_putI (bI := 18) kk110_1.2.2.1.2.2.2 e30 hK0 (by decide) rfl rfl (inR_of (by decide)) (fun g49 e50 => ?_)
          refine go_aload kk110_1.2.2.2.1.1.1 rfl ?_
          refine go_dupR kk110_1.2.2.2.1.1.2 ?_
          refine go_getI (bI := 15) kk110_1.2.2.2.1.2.1 e50 hK0 (by decide) rfl rfl (fun r51 => ?_)
          refine go_int kk110_1.2.2.2.1.2.2 1 rfl ?_
          refine go_iadd kk110_1.2.2.2.2.1.1 ?_
          refine go_putI (bI := 15) kk110_1.2.2.2.2.1.2 e50 hK0 (by decide) rfl rfl (inR_w32 _) (fun g52 e53 => ?_)
          exact go_vret kk110_1.2.2.2.2.2 e53 ⟨Nat.zero_le _, Nat.zero_le _⟩ rfl
        · refine go_int kk110_1.2.2.1.2.2.1 4 rfl ?_
          refine go_putI (bI := 18) kk110_1.2.2.1.2.2.2 e30 hK0 (by decide) rfl rfl (inR_of (by decide)) (fun g54 e55 => ?_)
          refine go_aload kk110_1.2.2.2.1.1.1 rfl ?_
          refine go_dupR kk110_1.2.2.2.1.1.2 ?_
          refine go_getI (bI := 15) kk110_1.2.2.2.1.2.1 e55 hK0 (by decide) rfl rfl (fun r56 => ?_)
          refine go_int kk110_1.2.2.2.1.2.2 1 rfl ?_
          refine go_iadd kk110_1.2.2.2.2.1.1 ?_
          refine go_putI (bI := 15) kk110_1.2.2.2.2.1.2 e55 hK0 (by decide) rfl rfl (inR_w32 _) (fun g57 e58 => ?_)
          exact go_vret kk110_1.2.2.2.2.2 e58 ⟨Nat.zero_le _, Nat.zero_le _⟩ rfl
      · refine go_aload kk110_1.1.1.1.2.2.2 rfl ?_
        refine go_int kk110_1.1.1.2.1.1.1 2 rfl ?_
        refine go_putI (bI := 18) kk110_1.1.1.2.1.1.2 e30 hK0 (by decide) rfl rfl (inR_of (by decide)) (fun g59 e60 => ?_)
        exact tlM_advanceToken_137 hd hK0 fu g59 e60 (some (sI y25)) rfl
    · refine go_aload kk110_0.2.1.2.2.1.2 rfl ?_
      refine go_int kk110_0.2.1.2.2.2 1 rfl ?_
      refine go_putI (bI := 18) kk110_0.2.2.1.1.1.1 e30 hK0 (by decide) rfl rfl (inR_b (Or.inr rfl)) (fun g61 e62 => ?_)
      exact tlM_advanceToken_90 hd hK0 fu g61 e62 (some (sI y25)) rfl
theorem tbM_advanceToken_0 {Φ : ev_P} {d : Nat} (hd : 1 ≤ d) {v0 : Int} (hK0 : kd v0 = 7) {X0 : gH → Option (Int × gH)} (HX0 : ∀ (g : gH) (hg : HR g) (u1 : Option ev_V) (w1 : nwo u1), Go Φ pr_P fN 0 (X0 g) d pr_m110 0 [some (sR v0), u1] [] g 0 0) : ∀ (g : gH) (hg : HR g) (u1 : Option ev_V) (w1 : nwo u1), Go Φ pr_P fN 0 (bM_advanceToken_0 v0 X0 g) d pr_m110 0 [some (sR v0), u1] [] g 0 0 := by
  intro g hg u1 w1
  unfold bM_advanceToken_0
  refine go_aload kk110_0.1.1.1.1.1.1 rfl ?_
  refine go_aload kk110_0.1.1.1.1.1.2 rfl ?_
  refine go_getI (bI := 15) kk110_0.1.1.1.1.2.1 hg hK0 (by decide) rfl rfl (fun r1 => ?_)
  refine go_callP1 kk110_0.1.1.1.1.2.2 rfl rfl rfl ⟨by decide, _, rfl, hK0⟩ ⟨Nat.zero_le _, Nat.zero_le _⟩ (by omega) (tfM_byteAt (by omega) hg hK0  r1) (fun y2 r3 => ?_)
  refine go_int kk110_0.1.1.1.2.1.1 32 rfl ?_
  refine go_cmeq kk110_0.1.1.1.2.1.2 r3 (inR_of (by decide)) (fun c6 => ?_) (fun c7 => ?_)
  · refine go_aload kk110_0.1.1.2.2.1.1 rfl ?_
    refine go_dupR kk110_0.1.1.2.2.1.2 ?_
    refine go_getI (bI := 15) kk110_0.1.1.2.2.2 hg hK0 (by decide) rfl rfl (fun r8 => ?_)
    refine go_int kk110_0.1.2.1.1.1.1 1 rfl ?_
    refine go_iadd kk110_0.1.2.1.1.1.2 ?_
    refine go_putI (bI := 15) kk110_0.1.2.1.1.2.1 hg hK0 (by decide) rfl rfl (inR_w32 _) (fun g9 e10 => ?_)
    refine go_goto kk110_0.1.2.1.1.2.2 ?_
    exact HX0 g9 e10 u1 w1
  · refine go_aload kk110_0.1.1.1.2.2.1 rfl ?_
    refine go_aload kk110_0.1.1.1.2.2.2 rfl ?_
    refine go_getI (bI := 15) kk110_0.1.1.2.1.1.1 hg hK0 (by decide) rfl rfl (fun r11 => ?_)
    refine go_callP1 kk110_0.1.1.2.1.1.2 rfl rfl rfl ⟨by decide, _, rfl, hK0⟩ ⟨Nat.zero_le _, Nat.zero_le _⟩ (by omega) (tfM_byteAt (by omega) hg hK0  r11) (fun y12 r13 => ?_)
    refine go_int kk110_0.1.1.2.1.2.1 10 rfl ?_
    refine go_cmeq kk110_0.1.1.2.1.2.2 r13 (inR_of (by decide)) (fun c16 => ?_) (fun c17 => ?_)
    · refine go_aload kk110_0.1.1.2.2.1.1 rfl ?_
      refine go_dupR kk110_0.1.1.2.2.1.2 ?_
      refine go_getI (bI := 15) kk110_0.1.1.2.2.2 hg hK0 (by decide) rfl rfl (fun r18 => ?_)
      refine go_int kk110_0.1.2.1.1.1.1 1 rfl ?_
      refine go_iadd kk110_0.1.2.1.1.1.2 ?_
      refine go_putI (bI := 15) kk110_0.1.2.1.1.2.1 hg hK0 (by decide) rfl rfl (inR_w32 _) (fun g19 e20 => ?_)
      refine go_goto kk110_0.1.2.1.1.2.2 ?_
      exact HX0 g19 e20 u1 w1
    · exact tjM_advanceToken_39 hd hg hK0 u1 w1
theorem tlM_advanceToken_0 {Φ : ev_P} {d : Nat} (hd : 1 ≤ d) {v0 : Int} (hK0 : kd v0 = 7) : ∀ n : Nat, ∀ (g : gH) (hg : HR g) (u1 : Option ev_V) (w1 : nwo u1), Go Φ pr_P fN 0 (lM_advanceToken_0 v0 n g) d pr_m110 0 [some (sR v0), u1] [] g 0 0 := by
  intro n
  induction n with
  | zero => intros; exact go_none
  | succ n ih => exact tbM_advanceToken_0 hd hK0 ih
theorem tfM_advanceToken {Φ : ev_P} {d : Nat} (hd : 1 ≤ d) {g : gH} (hg : HR g) {v0 : Int} (hK0 : kd v0 = 7) : Go Φ pr_P fN 0 (fM_advanceToken g v0) d (pr_P 110) 0 (ev_loc (pr_P 110).1 [(sR v0)]) [] g 0 0 := by
  show Go Φ pr_P fN 0 (fM_advanceToken g v0) d pr_m110 0 [some (sR v0), none] [] g 0 0
  unfold fM_advanceToken
  exact tlM_advanceToken_0 hd hK0 fu g hg none rfl
theorem tfM_failsAt {Φ : ev_P} {d : Nat} (hd : 0 ≤ d) {g : gH} (hg : HR g) {v0 v1 : Int} (hK0 : kd v0 = 7) (h1 : InR v1) : Go Φ pr_P fN 3 (fM_failsAt g v0 v1) d (pr_P 112) 0 (ev_loc (pr_P 112).1 [(sR v0), (sI v1)]) [] g 0 0 := by
  show Go Φ pr_P fN 3 (fM_failsAt g v0 v1) d pr_m112 0 [some (sR v0), some (sI v1)] [] g 0 0
  unfold fM_failsAt
  refine go_aload kk112_0.1.1.1.1 rfl ?_
  refine go_getI (bI := 13) kk112_0.1.1.1.2 hg hK0 (by decide) rfl rfl (fun r1 => ?_)
  refine go_ifeq kk112_0.1.1.2 r1 (fun c2 => ?_) (fun c3 => ?_)
  · refine go_aload kk112_0.1.2.1.1 rfl ?_
    refine go_iload kk112_0.1.2.1.2 rfl ?_
    refine go_putI (bI := 13) kk112_0.1.2.2 hg hK0 (by decide) rfl rfl h1 (fun g4 e5 => ?_)
    refine go_aload kk112_0.2.1.1.1 rfl ?_
    refine go_aload kk112_0.2.1.1.2 rfl ?_
    refine go_getI (bI := 16) kk112_0.2.1.2 e5 hK0 (by decide) rfl rfl (fun r6 => ?_)
    refine go_putI (bI := 14) kk112_0.2.2.1.1 e5 hK0 (by decide) rfl rfl r6 (fun g7 e8 => ?_)
    refine go_int kk112_0.2.2.1.2 0 rfl ?_
    exact go_bret kk112_0.2.2.2 e8 (Or.inl rfl) ⟨Nat.zero_le _, Nat.zero_le _⟩ rfl
  · refine go_int kk112_0.2.2.1.2 0 rfl ?_
    exact go_bret kk112_0.2.2.2 hg (Or.inl rfl) ⟨Nat.zero_le _, Nat.zero_le _⟩ rfl
theorem tfM_tokenLength {Φ : ev_P} {d : Nat} (hd : 0 ≤ d) {g : gH} (hg : HR g) {v0 : Int} (hK0 : kd v0 = 7) : Go Φ pr_P (fP g) 1 (fM_tokenLength g v0) d (pr_P 111) 0 (ev_loc (pr_P 111).1 [(sR v0)]) [] g 0 0 := by
  show Go Φ pr_P (fP g) 1 (fM_tokenLength g v0) d pr_m111 0 [some (sR v0)] [] g 0 0
  unfold fM_tokenLength
  refine go_aload kk111_0.1.1.1 rfl ?_
  refine go_getI (bI := 15) kk111_0.1.1.2 hg hK0 (by decide) rfl rfl (fun r1 => ?_)
  refine go_aload kk111_0.1.2 rfl ?_
  refine go_getI (bI := 16) kk111_0.2.1.1 hg hK0 (by decide) rfl rfl (fun r2 => ?_)
  refine go_isub kk111_0.2.1.2 ?_
  exact go_iret kk111_0.2.2 hg (inR_w32 _) ⟨Nat.zero_le _, Nat.zero_le _⟩ rfl
theorem tbM_isWord_23 {Φ : ev_P} {d : Nat} (hd : 1 ≤ d) {g : gH} (hg : HR g) {v0 v1 : Int} (hK0 : kd v0 = 7) {X23 : Int → Option Int} (HX23 : ∀ (v2 : Int) (h2 : InR v2), Go Φ pr_P (fP g) 3 (X23 v2) d pr_m113 23 [some (sR v0), some (sR v1), some (sI v2)] [] g 0 0) : ∀ (v2 : Int) (h2 : InR v2), Go Φ pr_P (fP g) 3 (bM_isWord_23 g v0 v1 X23 v2) d pr_m113 23 [some (sR v0), some (sR v1), some (sI v2)] [] g 0 0 := by
  intro v2 h2
  unfold bM_isWord_23
  refine go_iload kk113_0.1.2.2.1.1 rfl ?_
  refine go_aload kk113_0.1.2.2.1.2 rfl ?_
  refine go_ck (fun q11 => ?_)
  refine go_slen kk113_0.1.2.2.2.1 q11 rfl ⟨Nat.zero_le _, Nat.zero_le _⟩ ?_
  refine go_cmlt kk113_0.1.2.2.2.2 h2 (inR_gtl _) (fun c12 => ?_) (fun c13 => ?_)
  · refine go_aload kk113_0.2.1.1.1.1.1 rfl ?_
    refine go_getR (bI := 9) kk113_0.2.1.1.1.1.2 hg hK0 (by decide) rfl rfl (fun r14 => ?_)
    refine go_aload kk113_0.2.1.1.1.2 rfl ?_
    refine go_getI (bI := 16) kk113_0.2.1.1.2.1 hg hK0 (by decide) rfl rfl (fun r15 => ?_)
    refine go_iload kk113_0.2.1.1.2.2 rfl ?_
    refine go_iadd kk113_0.2.1.2.1.1 ?_
    refine go_ck (fun q17 => ?_)
    refine go_iald kk113_0.2.1.2.1.2 hg q17 (fun r16 => ?_)
    refine go_aload kk113_0.2.1.2.2.1 rfl ?_
    refine go_iload kk113_0.2.1.2.2.2 rfl ?_
    refine go_ck (fun q18 => ?_)
    refine go_chat kk113_0.2.2.1.1.1 q18 rfl ⟨Nat.zero_le _, Nat.zero_le _⟩ ?_
    refine go_cmeq kk113_0.2.2.1.1.2 r16 (inR_gch _ _) (fun c19 => ?_) (fun c20 => ?_)
    · refine go_iinc kk113_0.2.2.2.1.1 rfl rfl 1 rfl (loc2 := [some (sR v0), some (sR v1), some (sI (w32 (v2 + 1)))]) rfl ?_
      refine go_goto kk113_0.2.2.2.1.2 ?_
      exact HX23 (w32 (v2 + 1)) (inR_w32 _)
    · refine go_int kk113_0.2.2.1.2.1 0 rfl ?_
      exact go_bret kk113_0.2.2.1.2.2 hg (Or.inl rfl) ⟨Nat.zero_le _, Nat.zero_le _⟩ rfl
  · refine go_int kk113_0.2.2.2.2.1 1 rfl ?_
    exact go_bret kk113_0.2.2.2.2.2 hg (Or.inr rfl) ⟨Nat.zero_le _, Nat.zero_le _⟩ rfl
theorem tlM_isWord_23 {Φ : ev_P} {d : Nat} (hd : 1 ≤ d) {g : gH} (hg : HR g) {v0 v1 : Int} (hK0 : kd v0 = 7) : ∀ n : Nat, ∀ (v2 : Int) (h2 : InR v2), Go Φ pr_P (fP g) 3 (lM_isWord_23 g v0 v1 n v2) d pr_m113 23 [some (sR v0), some (sR v1), some (sI v2)] [] g 0 0 := by
  intro n
  induction n with
  | zero => intros; exact go_none
  | succ n ih => exact tbM_isWord_23 hd hg hK0 ih
theorem tfM_isWord {Φ : ev_P} {d : Nat} (hd : 1 ≤ d) {g : gH} (hg : HR g) {v0 v1 : Int} (hK0 : kd v0 = 7) : Go Φ pr_P (fP g) 3 (fM_isWord g v0 v1) d (pr_P 113) 0 (ev_loc (pr_P 113).1 [(sR v0), (sR v1)]) [] g 0 0 := by
  show Go Φ pr_P (fP g) 3 (fM_isWord g v0 v1) d pr_m113 0 [some (sR v0), some (sR v1), none] [] g 0 0
  unfold fM_isWord
  refine go_aload kk113_0.1.1.1.1.1.1 rfl ?_
  refine go_getI (bI := 18) kk113_0.1.1.1.1.1.2 hg hK0 (by decide) rfl rfl (fun r1 => ?_)
  refine go_int kk113_0.1.1.1.1.2 1 rfl ?_
  refine go_cmeq kk113_0.1.1.1.2.1 r1 (inR_b (Or.inr rfl)) (fun c2 => ?_) (fun c3 => ?_)
  · refine go_aload kk113_0.1.1.1.2.2 rfl ?_
    refine go_callP1 kk113_0.1.1.2.1.1 rfl rfl rfl ⟨by decide, _, rfl, hK0⟩ ⟨Nat.zero_le _, Nat.zero_le _⟩ (by omega) (tfM_tokenLength (by omega) hg hK0 ) (fun y4 r5 => ?_)
    refine go_aload kk113_0.1.1.2.1.2 rfl ?_
    refine go_ck (fun q8 => ?_)
    refine go_slen kk113_0.1.1.2.2.1 q8 rfl ⟨Nat.zero_le _, Nat.zero_le _⟩ ?_
    refine go_cmeq kk113_0.1.1.2.2.2 r5 (inR_gtl _) (fun c9 => ?_) (fun c10 => ?_)
    · refine go_int kk113_0.1.2.1.2.1 0 rfl ?_
      refine go_istore kk113_0.1.2.1.2.2 rfl (loc2 := [some (sR v0), some (sR v1), some (sI 0)]) rfl ?_
      exact tlM_isWord_23 hd hg hK0 fu 0 (inR_b (Or.inl rfl))
    · refine go_int kk113_0.1.2.1.1.1 0 rfl ?_
      exact go_bret kk113_0.1.2.1.1.2 hg (Or.inl rfl) ⟨Nat.zero_le _, Nat.zero_le _⟩ rfl
  · refine go_int kk113_0.1.2.1.1.1 0 rfl ?_
    exact go_bret kk113_0.1.2.1.1.2 hg (Or.inl rfl) ⟨Nat.zero_le _, Nat.zero_le _⟩ rfl
theorem tfM_isNumber {Φ : ev_P} {d : Nat} (hd : 1 ≤ d) {g : gH} (hg : HR g) {v0 v1 v2 : Int} (hK0 : kd v0 = 7) (h1 : InR v1) (h2 : InR v2) : Go Φ pr_P fN 3 (fM_isNumber g v0 v1 v2) d (pr_P 114) 0 (ev_loc (pr_P 114).1 [(sR v0), (sI v1), (sI v2)]) [] g 0 0 := by
  show Go Φ pr_P fN 3 (fM_isNumber g v0 v1 v2) d pr_m114 0 [some (sR v0), some (sI v1), some (sI v2)] [] g 0 0
  unfold fM_isNumber
  refine go_aload kk114_0.1.1.1.1.1 rfl ?_
  refine go_getI (bI := 18) kk114_0.1.1.1.1.2 hg hK0 (by decide) rfl rfl (fun r1 => ?_)
  refine go_int kk114_0.1.1.1.2.1 2 rfl ?_
  refine go_cmeq kk114_0.1.1.1.2.2 r1 (inR_of (by decide)) (fun c2 => ?_) (fun c3 => ?_)
  · refine go_aload kk114_0.1.1.2.1.1 rfl ?_
    refine go_callP1 kk114_0.1.1.2.1.2 rfl rfl rfl ⟨by decide, _, rfl, hK0⟩ ⟨Nat.zero_le _, Nat.zero_le _⟩ (by omega) (tfM_tokenLength (by omega) hg hK0 ) (fun y4 r5 => ?_)
    refine go_int kk114_0.1.1.2.2 2 rfl ?_
    refine go_cmgt kk114_0.1.2.1.1.1 r5 (inR_of (by decide)) (fun c8 => ?_) (fun c9 => ?_)
    · refine go_aload kk114_0.1.2.1.1.2 rfl ?_
      refine go_int kk114_0.1.2.1.2 1 rfl ?_
      refine go_callN3 kk114_0.1.2.2.1.1 rfl rfl rfl ⟨by decide, _, rfl, hK0⟩ ⟨Nat.zero_le _, Nat.zero_le _⟩ (by omega) (tfM_failsAt (by omega) hg hK0  (inR_b (Or.inr rfl))) (fun y10 g12 r11 e13 => ?_)
      exact go_bret kk114_0.1.2.2.1.2 e13 r11 ⟨Nat.zero_le _, Nat.zero_le _⟩ rfl
    · refine go_aload kk114_0.1.2.2.2 rfl ?_
      refine go_getI (bI := 17) kk114_0.2.1.1.1.1 hg hK0 (by decide) rfl rfl (fun r14 => ?_)
      refine go_iload kk114_0.2.1.1.1.2 rfl ?_
      refine go_iload kk114_0.2.1.1.2.1 rfl ?_
      refine go_callP3 kk114_0.2.1.1.2.2 rfl rfl rfl trivial ⟨Nat.zero_le _, Nat.zero_le _⟩ (by omega) (tfM_inRange (by omega) hg  r14 h1 h2) (fun y15 r16 => ?_)
      refine go_ifeq kk114_0.2.1.2.1.1 (inR_b r16) (fun c19 => ?_) (fun c20 => ?_)
      · refine go_aload kk114_0.2.1.2.1.2 rfl ?_
        refine go_int kk114_0.2.1.2.2 2 rfl ?_
        refine go_callN3 kk114_0.2.2.1.1.1 rfl rfl rfl ⟨by decide, _, rfl, hK0⟩ ⟨Nat.zero_le _, Nat.zero_le _⟩ (by omega) (tfM_failsAt (by omega) hg hK0  (inR_of (by decide))) (fun y21 g23 r22 e24 => ?_)
        refine go_ifeq kk114_0.2.2.1.1.2 (inR_b r22) (fun c25 => ?_) (fun c26 => ?_)
        · refine go_int kk114_0.2.2.2.1.2 0 rfl ?_
          exact go_bret kk114_0.2.2.2.2 e24 (Or.inl rfl) ⟨Nat.zero_le _, Nat.zero_le _⟩ rfl
        · refine go_int kk114_0.2.2.1.2 1 rfl ?_
          refine go_goto kk114_0.2.2.2.1.1 ?_
          exact go_bret kk114_0.2.2.2.2 e24 (Or.inr rfl) ⟨Nat.zero_le _, Nat.zero_le _⟩ rfl
      · refine go_int kk114_0.2.2.1.2 1 rfl ?_
        refine go_goto kk114_0.2.2.2.1.1 ?_
        exact go_bret kk114_0.2.2.2.2 hg (Or.inr rfl) ⟨Nat.zero_le _, Nat.zero_le _⟩ rfl
  · refine go_aload kk114_0.1.2.1.1.2 rfl ?_
    refine go_int kk114_0.1.2.1.2 1 rfl ?_
    refine go_callN3 kk114_0.1.2.2.1.1 rfl rfl rfl ⟨by decide, _, rfl, hK0⟩ ⟨Nat.zero_le _, Nat.zero_le _⟩ (by omega) (tfM_failsAt (by omega) hg hK0  (inR_b (Or.inr rfl))) (fun y27 g29 r28 e30 => ?_)
    exact go_bret kk114_0.1.2.2.1.2 e30 r28 ⟨Nat.zero_le _, Nat.zero_le _⟩ rfl
theorem tfM_takes {Φ : ev_P} {d : Nat} (hd : 2 ≤ d) {g : gH} (hg : HR g) {v0 v1 v2 v3 : Int} (hK0 : kd v0 = 7) (h1 : InR v1) (h2 : InR v2) (h3 : InR v3) : Go Φ pr_P fN 3 (fM_takes g v0 v1 v2 v3) d (pr_P 115) 0 (ev_loc (pr_P 115).1 [(sR v0), (sI v1), (sI v2), (sI v3)]) [] g 0 0 := by
  show Go Φ pr_P fN 3 (fM_takes g v0 v1 v2 v3) d pr_m115 0 [some (sR v0), some (sI v1), some (sI v2), some (sI v3)] [] g 0 0
  unfold fM_takes
  refine go_aload kk115_0.1.1.1.1.1 rfl ?_
  refine go_iload kk115_0.1.1.1.1.2 rfl ?_
  refine go_iload kk115_0.1.1.1.2 rfl ?_
  refine go_callN3 kk115_0.1.1.2.1 rfl rfl rfl ⟨by decide, _, rfl, hK0⟩ ⟨Nat.zero_le _, Nat.zero_le _⟩ (by omega) (tfM_isNumber (by omega) hg hK0  h2 h3) (fun y1 g3 r2 e4 => ?_)
  refine go_ifeq kk115_0.1.1.2.2 (inR_b r2) (fun c5 => ?_) (fun c6 => ?_)
  · refine go_int kk115_0.1.2.1.1 0 rfl ?_
    exact go_bret kk115_0.1.2.1.2 e4 (Or.inl rfl) ⟨Nat.zero_le _, Nat.zero_le _⟩ rfl
  · refine go_aload kk115_0.1.2.2.1 rfl ?_
    refine go_getR (bI := 20) kk115_0.1.2.2.2 e4 hK0 (by decide) rfl rfl (fun r7 => ?_)
    refine go_iload kk115_0.2.1.1.1 rfl ?_
    refine go_aload kk115_0.2.1.1.2 rfl ?_
    refine go_getI (bI := 17) kk115_0.2.1.2.1 e4 hK0 (by decide) rfl rfl (fun r8 => ?_)
    refine go_ck (fun q9 => ?_)
    refine go_iast kk115_0.2.1.2.2 e4 q9 r8 (fun g10 e11 => ?_)
    refine go_aload kk115_0.2.2.1.1 rfl ?_
    refine go_callN0 kk115_0.2.2.1.2 rfl rfl rfl ⟨by decide, _, rfl, hK0⟩ ⟨Nat.zero_le _, Nat.zero_le _⟩ (by omega) (tfM_advanceToken (by omega) e11 hK0 ) (fun y12 g14 e15 => ?_)
    refine go_int kk115_0.2.2.2.1 1 rfl ?_
    exact go_bret kk115_0.2.2.2.2 e15 (Or.inr rfl) ⟨Nat.zero_le _, Nat.zero_le _⟩ rfl
theorem tfM_startsOnce {Φ : ev_P} {d : Nat} (hd : 2 ≤ d) {g : gH} (hg : HR g) {v0 v1 : Int} (hK0 : kd v0 = 7) (h1 : InR v1) : Go Φ pr_P fN 3 (fM_startsOnce g v0 v1) d (pr_P 116) 0 (ev_loc (pr_P 116).1 [(sR v0), (sI v1)]) [] g 0 0 := by
  show Go Φ pr_P fN 3 (fM_startsOnce g v0 v1) d pr_m116 0 [some (sR v0), some (sI v1)] [] g 0 0
  unfold fM_startsOnce
  refine go_aload kk116_0.1.1.1.1.1 rfl ?_
  refine go_getI (bI := 19) kk116_0.1.1.1.1.2 hg hK0 (by decide) rfl rfl (fun r1 => ?_)
  refine go_iload kk116_0.1.1.1.2 rfl ?_
  refine go_ibin kk116_0.1.1.2.1 ?_
  refine go_ifeq kk116_0.1.1.2.2 (inR_opI _ _ _) (fun c2 => ?_) (fun c3 => ?_)
  · refine go_aload kk116_0.1.2.2.2 rfl ?_
    refine go_dupR kk116_0.2.1.1.1.1 ?_
    refine go_getI (bI := 19) kk116_0.2.1.1.1.2 hg hK0 (by decide) rfl rfl (fun r4 => ?_)
    refine go_iload kk116_0.2.1.1.2 rfl ?_
    refine go_ibin kk116_0.2.1.2.1 ?_
    refine go_putI (bI := 19) kk116_0.2.1.2.2 hg hK0 (by decide) rfl rfl (inR_opI _ _ _) (fun g5 e6 => ?_)
    refine go_aload kk116_0.2.2.1.1 rfl ?_
    refine go_callN0 kk116_0.2.2.1.2 rfl rfl rfl ⟨by decide, _, rfl, hK0⟩ ⟨Nat.zero_le _, Nat.zero_le _⟩ (by omega) (tfM_advanceToken (by omega) e6 hK0 ) (fun y7 g9 e10 => ?_)
    refine go_int kk116_0.2.2.2.1 1 rfl ?_
    exact go_bret kk116_0.2.2.2.2 e10 (Or.inr rfl) ⟨Nat.zero_le _, Nat.zero_le _⟩ rfl
  · refine go_aload kk116_0.1.2.1.1.1 rfl ?_
    refine go_int kk116_0.1.2.1.1.2 3 rfl ?_
    refine go_callN3 kk116_0.1.2.1.2 rfl rfl rfl ⟨by decide, _, rfl, hK0⟩ ⟨Nat.zero_le _, Nat.zero_le _⟩ (by omega) (tfM_failsAt (by omega) hg hK0  (inR_of (by decide))) (fun y11 g13 r12 e14 => ?_)
    exact go_bret kk116_0.1.2.2.1 e14 r12 ⟨Nat.zero_le _, Nat.zero_le _⟩ rfl
theorem tfM_readDeep {Φ : ev_P} {d : Nat} (hd : 3 ≤ d) {g : gH} (hg : HR g) {v0 : Int} (hK0 : kd v0 = 7) : Go Φ pr_P fN 3 (fM_readDeep g v0) d (pr_P 118) 0 (ev_loc (pr_P 118).1 [(sR v0)]) [] g 0 0 := by
  show Go Φ pr_P fN 3 (fM_readDeep g v0) d pr_m118 0 [some (sR v0)] [] g 0 0
  unfold fM_readDeep
  refine go_aload kk118_0.1.1.1.1.1 rfl ?_
  refine go_int kk118_0.1.1.1.1.2 2 rfl ?_
  refine go_callN3 kk118_0.1.1.1.2 rfl rfl rfl ⟨by decide, _, rfl, hK0⟩ ⟨Nat.zero_le _, Nat.zero_le _⟩ (by omega) (tfM_startsOnce (by omega) hg hK0  (inR_of (by decide))) (fun y1 g3 r2 e4 => ?_)
  refine go_ifeq kk118_0.1.1.2.1.1 (inR_b r2) (fun c5 => ?_) (fun c6 => ?_)
  · refine go_int kk118_0.1.2.2.2 0 rfl ?_
    exact go_bret kk118_0.2.1.1.1.1 e4 (Or.inl rfl) ⟨Nat.zero_le _, Nat.zero_le _⟩ rfl
  · refine go_aload kk118_0.1.1.2.1.2 rfl ?_
    refine go_int kk118_0.1.1.2.2 0 rfl ?_
    refine go_int kk118_0.1.2.1.1.1 1 rfl ?_
    refine go_int kk118_0.1.2.1.1.2 20 rfl ?_
    refine go_callN3 kk118_0.1.2.1.2 rfl rfl rfl ⟨by decide, _, rfl, hK0⟩ ⟨Nat.zero_le _, Nat.zero_le _⟩ (by omega) (tfM_takes (by omega) e4 hK0  (inR_b (Or.inl rfl)) (inR_b (Or.inr rfl)) (inR_of (by decide))) (fun y7 g9 r8 e10 => ?_)
    refine go_ifeq kk118_0.1.2.2.1 (inR_b r8) (fun c11 => ?_) (fun c12 => ?_)
    · refine go_int kk118_0.1.2.2.2 0 rfl ?_
      exact go_bret kk118_0.2.1.1.1.1 e10 (Or.inl rfl) ⟨Nat.zero_le _, Nat.zero_le _⟩ rfl
    · refine go_aload kk118_0.2.1.1.1.2 rfl ?_
      refine go_getR (bI := 0) kk118_0.2.1.1.2 e10 hK0 (by decide) rfl rfl (fun r13 => ?_)
      refine go_int kk118_0.2.1.2.1.1 59 rfl ?_
      refine go_aload kk118_0.2.1.2.1.2 rfl ?_
      refine go_getR (bI := 20) kk118_0.2.1.2.2 e10 hK0 (by decide) rfl rfl (fun r14 => ?_)
      refine go_int kk118_0.2.2.1.1.1 0 rfl ?_
      refine go_ck (fun q16 => ?_)
      refine go_iald kk118_0.2.2.1.1.2 e10 q16 (fun r15 => ?_)
      refine go_ck (fun q17 => ?_)
      refine go_iast kk118_0.2.2.1.2 e10 q17 r15 (fun g18 e19 => ?_)
      refine go_int kk118_0.2.2.2.1 1 rfl ?_
      exact go_bret kk118_0.2.2.2.2 e19 (Or.inr rfl) ⟨Nat.zero_le _, Nat.zero_le _⟩ rfl
theorem tfM_readRoot {Φ : ev_P} {d : Nat} (hd : 3 ≤ d) {g : gH} (hg : HR g) {v0 : Int} (hK0 : kd v0 = 7) : Go Φ pr_P fN 3 (fM_readRoot g v0) d (pr_P 119) 0 (ev_loc (pr_P 119).1 [(sR v0)]) [] g 0 0 := by
  show Go Φ pr_P fN 3 (fM_readRoot g v0) d pr_m119 0 [some (sR v0)] [] g 0 0
  unfold fM_readRoot
  refine go_aload kk119_0.1.1.1.1.1.1 rfl ?_
  refine go_int kk119_0.1.1.1.1.1.2 4 rfl ?_
  refine go_callN3 kk119_0.1.1.1.1.2 rfl rfl rfl ⟨by decide, _, rfl, hK0⟩ ⟨Nat.zero_le _, Nat.zero_le _⟩ (by omega) (tfM_startsOnce (by omega) hg hK0  (inR_of (by decide))) (fun y1 g3 r2 e4 => ?_)
  refine go_ifeq kk119_0.1.1.1.2.1 (inR_b r2) (fun c5 => ?_) (fun c6 => ?_)
  · refine go_int kk119_0.1.2.2.2.1 0 rfl ?_
    exact go_bret kk119_0.1.2.2.2.2 e4 (Or.inl rfl) ⟨Nat.zero_le _, Nat.zero_le _⟩ rfl
  · refine go_aload kk119_0.1.1.1.2.2 rfl ?_
    refine go_int kk119_0.1.1.2.1.1 0 rfl ?_
    refine go_int kk119_0.1.1.2.1.2 0 rfl ?_
    refine go_int kk119_0.1.1.2.2.1 9 rfl ?_
    refine go_callN3 kk119_0.1.1.2.2.2 rfl rfl rfl ⟨by decide, _, rfl, hK0⟩ ⟨Nat.zero_le _, Nat.zero_le _⟩ (by omega) (tfM_takes (by omega) e4 hK0  (inR_b (Or.inl rfl)) (inR_b (Or.inl rfl)) (inR_of (by decide))) (fun y7 g9 r8 e10 => ?_)
    refine go_ifeq kk119_0.1.2.1.1.1.1 (inR_b r8) (fun c11 => ?_) (fun c12 => ?_)
    · refine go_int kk119_0.1.2.2.2.1 0 rfl ?_
      exact go_bret kk119_0.1.2.2.2.2 e10 (Or.inl rfl) ⟨Nat.zero_le _, Nat.zero_le _⟩ rfl
    · refine go_aload kk119_0.1.2.1.1.1.2 rfl ?_
      refine go_int kk119_0.1.2.1.1.2 1 rfl ?_
      refine go_int kk119_0.1.2.1.2.1 0 rfl ?_
      refine go_int kk119_0.1.2.1.2.2 9 rfl ?_
      refine go_callN3 kk119_0.1.2.2.1.1 rfl rfl rfl ⟨by decide, _, rfl, hK0⟩ ⟨Nat.zero_le _, Nat.zero_le _⟩ (by omega) (tfM_takes (by omega) e10 hK0  (inR_b (Or.inr rfl)) (inR_b (Or.inl rfl)) (inR_of (by decide))) (fun y13 g15 r14 e16 => ?_)
      refine go_ifeq kk119_0.1.2.2.1.2 (inR_b r14) (fun c17 => ?_) (fun c18 => ?_)
      · refine go_int kk119_0.1.2.2.2.1 0 rfl ?_
        exact go_bret kk119_0.1.2.2.2.2 e16 (Or.inl rfl) ⟨Nat.zero_le _, Nat.zero_le _⟩ rfl
      · refine go_aload kk119_0.2.1.1.1.1.1 rfl ?_
        refine go_getR (bI := 0) kk119_0.2.1.1.1.1.2 e16 hK0 (by decide) rfl rfl (fun r19 => ?_)
        refine go_int kk119_0.2.1.1.1.2 100 rfl ?_
        refine go_aload kk119_0.2.1.1.2.1 rfl ?_
        refine go_getR (bI := 20) kk119_0.2.1.1.2.2 e16 hK0 (by decide) rfl rfl (fun r20 => ?_)
        refine go_int kk119_0.2.1.2.1.1 0 rfl ?_
        refine go_ck (fun q22 => ?_)
        refine go_iald kk119_0.2.1.2.1.2 e16 q22 (fun r21 => ?_)
        refine go_ck (fun q23 => ?_)
        refine go_iast kk119_0.2.1.2.2.1 e16 q23 r21 (fun g24 e25 => ?_)
        refine go_aload kk119_0.2.1.2.2.2 rfl ?_
        refine go_getR (bI := 0) kk119_0.2.2.1.1.1.1 e25 hK0 (by decide) rfl rfl (fun r26 => ?_)
        refine go_int kk119_0.2.2.1.1.1.2 220 rfl ?_
        refine go_aload kk119_0.2.2.1.1.2 rfl ?_
        refine go_getR (bI := 20) kk119_0.2.2.1.2.1 e25 hK0 (by decide) rfl rfl (fun r27 => ?_)
        refine go_int kk119_0.2.2.1.2.2 1 rfl ?_
        refine go_ck (fun q29 => ?_)
        refine go_iald kk119_0.2.2.2.1.1 e25 q29 (fun r28 => ?_)
        refine go_ck (fun q30 => ?_)
        refine go_iast kk119_0.2.2.2.1.2 e25 q30 r28 (fun g31 e32 => ?_)
        refine go_int kk119_0.2.2.2.2.1 1 rfl ?_
        exact go_bret kk119_0.2.2.2.2.2 e32 (Or.inr rfl) ⟨Nat.zero_le _, Nat.zero_le _⟩ rfl
theorem tfM_readWill {Φ : ev_P} {d : Nat} (hd : 3 ≤ d) {g : gH} (hg : HR g) {v0 : Int} (hK0 : kd v0 = 7) : Go Φ pr_P fN 3 (fM_readWill g v0) d (pr_P 120) 0 (ev_loc (pr_P 120).1 [(sR v0)]) [] g 0 0 := by
  show Go Φ pr_P fN 3 (fM_readWill g v0) d pr_m120 0 [some (sR v0)] [] g 0 0
  unfold fM_readWill
  refine go_aload kk120_0.1.1.1.1.1.1 rfl ?_
  refine go_callN0 kk120_0.1.1.1.1.1.2 rfl rfl rfl ⟨by decide, _, rfl, hK0⟩ ⟨Nat.zero_le _, Nat.zero_le _⟩ (by omega) (tfM_advanceToken (by omega) hg hK0 ) (fun y1 g3 e4 => ?_)
  refine go_aload kk120_0.1.1.1.1.2.1 rfl ?_
  refine go_int kk120_0.1.1.1.1.2.2 0 rfl ?_
  refine go_int kk120_0.1.1.1.2.1.1 1 rfl ?_
  refine go_aload kk120_0.1.1.1.2.1.2 rfl ?_
  refine go_getR (bI := 0) kk120_0.1.1.1.2.2 e4 hK0 (by decide) rfl rfl (fun r5 => ?_)
  refine go_int kk120_0.1.1.2.1.1.1 0 rfl ?_
  refine go_ck (fun q7 => ?_)
  refine go_iald kk120_0.1.1.2.1.1.2 e4 q7 (fun r6 => ?_)
  refine go_int kk120_0.1.1.2.1.2 1 rfl ?_
  refine go_isub kk120_0.1.1.2.2.1.1 ?_
  refine go_callN3 kk120_0.1.1.2.2.1.2 rfl rfl rfl ⟨by decide, _, rfl, hK0⟩ ⟨Nat.zero_le _, Nat.zero_le _⟩ (by omega) (tfM_takes (by omega) e4 hK0  (inR_b (Or.inl rfl)) (inR_b (Or.inr rfl)) (inR_w32 _)) (fun y8 g10 r9 e11 => ?_)
  refine go_ifeq kk120_0.1.1.2.2.2 (inR_b r9) (fun c12 => ?_) (fun c13 => ?_)
  · refine go_int kk120_0.1.2.1.2.1.2 0 rfl ?_
    exact go_bret kk120_0.1.2.1.2.2 e11 (Or.inl rfl) ⟨Nat.zero_le _, Nat.zero_le _⟩ rfl
  · refine go_aload kk120_0.1.2.1.1.1.1 rfl ?_
    refine go_int kk120_0.1.2.1.1.1.2 0 rfl ?_
    refine go_int kk120_0.1.2.1.1.2.1 7 rfl ?_
    refine go_callN3 kk120_0.1.2.1.1.2.2 rfl rfl rfl ⟨by decide, _, rfl, hK0⟩ ⟨Nat.zero_le _, Nat.zero_le _⟩ (by omega) (tfM_isNumber (by omega) e11 hK0  (inR_b (Or.inl rfl)) (inR_of (by decide))) (fun y14 g16 r15 e17 => ?_)
    refine go_ifeq kk120_0.1.2.1.2.1.1 (inR_b r15) (fun c18 => ?_) (fun c19 => ?_)
    · refine go_int kk120_0.1.2.1.2.1.2 0 rfl ?_
      exact go_bret kk120_0.1.2.1.2.2 e17 (Or.inl rfl) ⟨Nat.zero_le _, Nat.zero_le _⟩ rfl
    · refine go_aload kk120_0.1.2.2.1.1.1 rfl ?_
      refine go_getR (bI := 0) kk120_0.1.2.2.1.1.2 e17 hK0 (by decide) rfl rfl (fun r20 => ?_)
      refine go_int kk120_0.1.2.2.1.2 460 rfl ?_
      refine go_int kk120_0.1.2.2.2.1.1 8 rfl ?_
      refine go_aload kk120_0.1.2.2.2.1.2 rfl ?_
      refine go_getR (bI := 20) kk120_0.1.2.2.2.2 e17 hK0 (by decide) rfl rfl (fun r21 => ?_)
      refine go_int kk120_0.2.1.1.1.1.1 0 rfl ?_
      refine go_ck (fun q23 => ?_)
      refine go_iald kk120_0.2.1.1.1.1.2 e17 q23 (fun r22 => ?_)
      refine go_ibin kk120_0.2.1.1.1.2.1 ?_
      refine go_iadd kk120_0.2.1.1.1.2.2 ?_
      refine go_aload kk120_0.2.1.1.2.1.1 rfl ?_
      refine go_getI (bI := 17) kk120_0.2.1.1.2.1.2 e17 hK0 (by decide) rfl rfl (fun r24 => ?_)
      refine go_iadd kk120_0.2.1.1.2.2 ?_
      refine go_ck (fun q26 => ?_)
      refine go_iald kk120_0.2.1.2.1.1.1 e17 q26 (fun r25 => ?_)
      refine go_int kk120_0.2.1.2.1.1.2 (-1) rfl ?_
      refine go_cmeq kk120_0.2.1.2.1.2 r25 (inR_of (by decide)) (fun c27 => ?_) (fun c28 => ?_)
      · refine go_aload kk120_0.2.2.1.1.1.2 rfl ?_
        refine go_int kk120_0.2.2.1.1.2.1 1 rfl ?_
        refine go_int kk120_0.2.2.1.1.2.2 0 rfl ?_
        refine go_int kk120_0.2.2.1.2.1.1 7 rfl ?_
        refine go_callN3 kk120_0.2.2.1.2.1.2 rfl rfl rfl ⟨by decide, _, rfl, hK0⟩ ⟨Nat.zero_le _, Nat.zero_le _⟩ (by omega) (tfM_takes (by omega) e17 hK0  (inR_b (Or.inr rfl)) (inR_b (Or.inl rfl)) (inR_of (by decide))) (fun y29 g31 r30 e32 => ?_)
        refine go_ifeq kk120_0.2.2.1.2.2 (inR_b r30) (fun c33 => ?_) (fun c34 => ?_)
        · refine go_int kk120_1.1.1.1.2.1.1 0 rfl ?_
          exact go_bret kk120_1.1.1.1.2.1.2 e32 (Or.inl rfl) ⟨Nat.zero_le _, Nat.zero_le _⟩ rfl
        · refine go_aload kk120_0.2.2.2.1.1.1 rfl ?_
          refine go_int kk120_0.2.2.2.1.1.2 0 rfl ?_
          refine go_aload kk120_0.2.2.2.1.2 rfl ?_
          refine go_getR (bI := 0) kk120_0.2.2.2.2.1.1 e32 hK0 (by decide) rfl rfl (fun r35 => ?_)
          refine go_int kk120_0.2.2.2.2.1.2 0 rfl ?_
          refine go_ck (fun q37 => ?_)
          refine go_iald kk120_0.2.2.2.2.2 e32 q37 (fun r36 => ?_)
          refine go_int kk120_1.1.1.1.1.1.1 1 rfl ?_
          refine go_isub kk120_1.1.1.1.1.1.2 ?_
          refine go_callN3 kk120_1.1.1.1.1.2.1 rfl rfl rfl ⟨by decide, _, rfl, hK0⟩ ⟨Nat.zero_le _, Nat.zero_le _⟩ (by omega) (tfM_isNumber (by omega) e32 hK0  (inR_b (Or.inl rfl)) (inR_w32 _)) (fun y38 g40 r39 e41 => ?_)
          refine go_ifeq kk120_1.1.1.1.1.2.2 (inR_b r39) (fun c42 => ?_) (fun c43 => ?_)
          · refine go_int kk120_1.1.1.1.2.1.1 0 rfl ?_
            exact go_bret kk120_1.1.1.1.2.1.2 e41 (Or.inl rfl) ⟨Nat.zero_le _, Nat.zero_le _⟩ rfl
          · refine go_aload kk120_1.1.1.1.2.2 rfl ?_
            refine go_getI (bI := 17) kk120_1.1.1.2.1.1.1 e41 hK0 (by decide) rfl rfl (fun r44 => ?_)
            refine go_aload kk120_1.1.1.2.1.1.2 rfl ?_
            refine go_getR (bI := 20) kk120_1.1.1.2.1.2 e41 hK0 (by decide) rfl rfl (fun r45 => ?_)
            refine go_int kk120_1.1.1.2.2.1.1 0 rfl ?_
            refine go_ck (fun q47 => ?_)
            refine go_iald kk120_1.1.1.2.2.1.2 e41 q47 (fun r46 => ?_)
            refine go_cmeq kk120_1.1.1.2.2.2 r44 r46 (fun c48 => ?_) (fun c49 => ?_)
            · refine go_aload kk120_1.1.2.1.1.1.1 rfl ?_
              refine go_int kk120_1.1.2.1.1.1.2 2 rfl ?_
              refine go_callN3 kk120_1.1.2.1.1.2.1 rfl rfl rfl ⟨by decide, _, rfl, hK0⟩ ⟨Nat.zero_le _, Nat.zero_le _⟩ (by omega) (tfM_failsAt (by omega) e41 hK0  (inR_of (by decide))) (fun y50 g52 r51 e53 => ?_)
              exact go_bret kk120_1.1.2.1.1.2.2 e53 r51 ⟨Nat.zero_le _, Nat.zero_le _⟩ rfl
            · refine go_aload kk120_1.1.2.1.2.1.1 rfl ?_
              refine go_int kk120_1.1.2.1.2.1.2 2 rfl ?_
              refine go_int kk120_1.1.2.1.2.2 0 rfl ?_
              refine go_aload kk120_1.1.2.2.1.1.1 rfl ?_
              refine go_getR (bI := 0) kk120_1.1.2.2.1.1.2 e41 hK0 (by decide) rfl rfl (fun r54 => ?_)
              refine go_int kk120_1.1.2.2.1.2 0 rfl ?_
              refine go_ck (fun q56 => ?_)
              refine go_iald kk120_1.1.2.2.2.1.1 e41 q56 (fun r55 => ?_)
              refine go_int kk120_1.1.2.2.2.1.2 1 rfl ?_
              refine go_isub kk120_1.1.2.2.2.2 ?_
              refine go_callN3 kk120_1.2.1.1.1.1.1 rfl rfl rfl ⟨by decide, _, rfl, hK0⟩ ⟨Nat.zero_le _, Nat.zero_le _⟩ (by omega) (tfM_takes (by omega) e41 hK0  (inR_of (by decide)) (inR_b (Or.inl rfl)) (inR_w32 _)) (fun y57 g59 r58 e60 => ?_)
              refine go_ifeq kk120_1.2.1.1.1.1.2 (inR_b r58) (fun c61 => ?_) (fun c62 => ?_)
              · refine go_int kk120_1.2.1.1.1.2.1 0 rfl ?_
                exact go_bret kk120_1.2.1.1.1.2.2 e60 (Or.inl rfl) ⟨Nat.zero_le _, Nat.zero_le _⟩ rfl
              · refine go_aload kk120_1.2.1.1.2.1.1 rfl ?_
                refine go_getR (bI := 0) kk120_1.2.1.1.2.1.2 e60 hK0 (by decide) rfl rfl (fun r63 => ?_)
                refine go_int kk120_1.2.1.1.2.2 460 rfl ?_
                refine go_int kk120_1.2.1.2.1.1.1 8 rfl ?_
                refine go_aload kk120_1.2.1.2.1.1.2 rfl ?_
                refine go_getR (bI := 20) kk120_1.2.1.2.1.2 e60 hK0 (by decide) rfl rfl (fun r64 => ?_)
                refine go_int kk120_1.2.1.2.2.1.1 0 rfl ?_
                refine go_ck (fun q66 => ?_)
                refine go_iald kk120_1.2.1.2.2.1.2 e60 q66 (fun r65 => ?_)
                refine go_ibin kk120_1.2.1.2.2.2 ?_
                refine go_iadd kk120_1.2.2.1.1.1.1 ?_
                refine go_aload kk120_1.2.2.1.1.1.2 rfl ?_
                refine go_getR (bI := 20) kk120_1.2.2.1.1.2.1 e60 hK0 (by decide) rfl rfl (fun r67 => ?_)
                refine go_int kk120_1.2.2.1.1.2.2 1 rfl ?_
                refine go_ck (fun q69 => ?_)
                refine go_iald kk120_1.2.2.1.2.1.1 e60 q69 (fun r68 => ?_)
                refine go_iadd kk120_1.2.2.1.2.1.2 ?_
                refine go_aload kk120_1.2.2.1.2.2 rfl ?_
                refine go_getR (bI := 20) kk120_1.2.2.2.1.1.1 e60 hK0 (by decide) rfl rfl (fun r70 => ?_)
                refine go_int kk120_1.2.2.2.1.1.2 2 rfl ?_
                refine go_ck (fun q72 => ?_)
                refine go_iald kk120_1.2.2.2.1.2 e60 q72 (fun r71 => ?_)
                refine go_ck (fun q73 => ?_)
                refine go_iast kk120_1.2.2.2.2.1.1 e60 q73 r71 (fun g74 e75 => ?_)
                refine go_int kk120_1.2.2.2.2.1.2 1 rfl ?_
                exact go_bret kk120_1.2.2.2.2.2 e75 (Or.inr rfl) ⟨Nat.zero_le _, Nat.zero_le _⟩ rfl
      · refine go_aload kk120_0.2.1.2.2.1.1 rfl ?_
        refine go_int kk120_0.2.1.2.2.1.2 3 rfl ?_
        refine go_callN3 kk120_0.2.1.2.2.2 rfl rfl rfl ⟨by decide, _, rfl, hK0⟩ ⟨Nat.zero_le _, Nat.zero_le _⟩ (by omega) (tfM_failsAt (by omega) e17 hK0  (inR_of (by decide))) (fun y76 g78 r77 e79 => ?_)
        exact go_bret kk120_0.2.2.1.1.1.1 e79 r77 ⟨Nat.zero_le _, Nat.zero_le _⟩ rfl
theorem tfM_ruleHere {Φ : ev_P} {d : Nat} (hd : 2 ≤ d) {g : gH} (hg : HR g) {v0 : Int} (hK0 : kd v0 = 7) : Go Φ pr_P (fP g) 1 (fM_ruleHere g v0) d (pr_P 117) 0 (ev_loc (pr_P 117).1 [(sR v0)]) [] g 0 0 := by
  show Go Φ pr_P (fP g) 1 (fM_ruleHere g v0) d pr_m117 0 [some (sR v0)] [] g 0 0
  unfold fM_ruleHere
  refine go_aload kk117_0.1.1.1.1.1 rfl ?_
  refine go_ldcs kk117_0.1.1.1.1.2 (by decide) (x := 2000021) rfl ?_
  refine go_callP3 kk117_0.1.1.1.2.1 rfl rfl rfl ⟨by decide, _, rfl, hK0⟩ ⟨Nat.zero_le _, Nat.zero_le _⟩ (by omega) (tfM_isWord (by omega) hg hK0 ) (fun y1 r2 => ?_)
  refine go_ifeq kk117_0.1.1.1.2.2 (inR_b r2) (fun c5 => ?_) (fun c6 => ?_)
  · refine go_aload kk117_0.1.1.2.2.1 rfl ?_
    refine go_ldcs kk117_0.1.1.2.2.2 (by decide) (x := 2000022) rfl ?_
    refine go_callP3 kk117_0.1.2.1.1.1 rfl rfl rfl ⟨by decide, _, rfl, hK0⟩ ⟨Nat.zero_le _, Nat.zero_le _⟩ (by omega) (tfM_isWord (by omega) hg hK0 ) (fun y7 r8 => ?_)
    refine go_ifeq kk117_0.1.2.1.1.2 (inR_b r8) (fun c11 => ?_) (fun c12 => ?_)
    · refine go_aload kk117_0.1.2.2.1.1 rfl ?_
      refine go_ldcs kk117_0.1.2.2.1.2 (by decide) (x := 2000023) rfl ?_
      refine go_callP3 kk117_0.1.2.2.2.1 rfl rfl rfl ⟨by decide, _, rfl, hK0⟩ ⟨Nat.zero_le _, Nat.zero_le _⟩ (by omega) (tfM_isWord (by omega) hg hK0 ) (fun y13 r14 => ?_)
      refine go_ifeq kk117_0.1.2.2.2.2 (inR_b r14) (fun c17 => ?_) (fun c18 => ?_)
      · refine go_aload kk117_0.2.1.1.2.1 rfl ?_
        refine go_ldcs kk117_0.2.1.1.2.2 (by decide) (x := 2000024) rfl ?_
        refine go_callP3 kk117_0.2.1.2.1.1 rfl rfl rfl ⟨by decide, _, rfl, hK0⟩ ⟨Nat.zero_le _, Nat.zero_le _⟩ (by omega) (tfM_isWord (by omega) hg hK0 ) (fun y19 r20 => ?_)
        refine go_ifeq kk117_0.2.1.2.1.2 (inR_b r20) (fun c23 => ?_) (fun c24 => ?_)
        · refine go_aload kk117_0.2.2.1.1.1 rfl ?_
          refine go_ldcs kk117_0.2.2.1.1.2 (by decide) (x := 2000025) rfl ?_
          refine go_callP3 kk117_0.2.2.1.2.1 rfl rfl rfl ⟨by decide, _, rfl, hK0⟩ ⟨Nat.zero_le _, Nat.zero_le _⟩ (by omega) (tfM_isWord (by omega) hg hK0 ) (fun y25 r26 => ?_)
          refine go_ifeq kk117_0.2.2.1.2.2 (inR_b r26) (fun c29 => ?_) (fun c30 => ?_)
          · refine go_int kk117_0.2.2.2.2.1 (-1) rfl ?_
            exact go_iret kk117_0.2.2.2.2.2 hg (inR_of (by decide)) ⟨Nat.zero_le _, Nat.zero_le _⟩ rfl
          · refine go_int kk117_0.2.2.2.1.1 4 rfl ?_
            refine go_goto kk117_0.2.2.2.1.2 ?_
            exact go_iret kk117_0.2.2.2.2.2 hg (inR_of (by decide)) ⟨Nat.zero_le _, Nat.zero_le _⟩ rfl
        · refine go_int kk117_0.2.1.2.2.1 3 rfl ?_
          exact go_iret kk117_0.2.1.2.2.2 hg (inR_of (by decide)) ⟨Nat.zero_le _, Nat.zero_le _⟩ rfl
      · refine go_int kk117_0.2.1.1.1.1 2 rfl ?_
        exact go_iret kk117_0.2.1.1.1.2 hg (inR_of (by decide)) ⟨Nat.zero_le _, Nat.zero_le _⟩ rfl
    · refine go_int kk117_0.1.2.1.2.1 1 rfl ?_
      exact go_iret kk117_0.1.2.1.2.2 hg (inR_b (Or.inr rfl)) ⟨Nat.zero_le _, Nat.zero_le _⟩ rfl
  · refine go_int kk117_0.1.1.2.1.1 0 rfl ?_
    exact go_iret kk117_0.1.1.2.1.2 hg (inR_b (Or.inl rfl)) ⟨Nat.zero_le _, Nat.zero_le _⟩ rfl
theorem tbM_readOrder_19 {Φ : ev_P} {d : Nat} (hd : 3 ≤ d) {v0 : Int} (hK0 : kd v0 = 7) {X19 : Int → gH → Option (Int × gH)} (HX19 : ∀ (v1 : Int) (h1 : InR v1) (g : gH) (hg : HR g) (u2 : Option ev_V) (w2 : nwo u2), Go Φ pr_P fN 3 (X19 v1 g) d pr_m121 19 [some (sR v0), some (sI v1), u2] [] g 0 0) : ∀ (v1 : Int) (h1 : InR v1) (g : gH) (hg : HR g) (u2 : Option ev_V) (w2 : nwo u2), Go Φ pr_P fN 3 (bM_readOrder_19 v0 X19 v1 g) d pr_m121 19 [some (sR v0), some (sI v1), u2] [] g 0 0 := by
  intro v1 h1 g hg u2 w2
  unfold bM_readOrder_19
  refine go_aload kk121_0.1.2.2.1.1 rfl ?_
  refine go_getI (bI := 18) kk121_0.1.2.2.1.2 hg hK0 (by decide) rfl rfl (fun r11 => ?_)
  refine go_int kk121_0.1.2.2.2.1 1 rfl ?_
  refine go_cmeq kk121_0.1.2.2.2.2 r11 (inR_b (Or.inr rfl)) (fun c12 => ?_) (fun c13 => ?_)
  · refine go_aload kk121_0.2.1.1.1.1 rfl ?_
    refine go_callP1 kk121_0.2.1.1.1.2 rfl rfl rfl ⟨by decide, _, rfl, hK0⟩ ⟨Nat.zero_le _, Nat.zero_le _⟩ (by omega) (tfM_ruleHere (by omega) hg hK0 ) (fun y14 r15 => ?_)
    refine go_istore kk121_0.2.1.1.2.1 rfl (loc2 := [some (sR v0), some (sI v1), some (sI y14)]) rfl ?_
    refine go_iload kk121_0.2.1.1.2.2 rfl ?_
    refine go_int kk121_0.2.1.2.1.1 (-1) rfl ?_
    refine go_cmeq kk121_0.2.1.2.1.2 r15 (inR_of (by decide)) (fun c18 => ?_) (fun c19 => ?_)
    · refine go_aload kk121_0.2.1.2.2.1 rfl ?_
      refine go_int kk121_0.2.1.2.2.2 1 rfl ?_
      refine go_callN3 kk121_0.2.2.1.1.1 rfl rfl rfl ⟨by decide, _, rfl, hK0⟩ ⟨Nat.zero_le _, Nat.zero_le _⟩ (by omega) (tfM_failsAt (by omega) hg hK0  (inR_b (Or.inr rfl))) (fun y20 g22 r21 e23 => ?_)
      exact go_bret kk121_0.2.2.1.1.2 e23 r21 ⟨Nat.zero_le _, Nat.zero_le _⟩ rfl
    · refine go_iload kk121_0.2.2.1.2.1 rfl ?_
      refine go_iload kk121_0.2.2.1.2.2 rfl ?_
      refine go_ibin kk121_0.2.2.2.1.1 ?_
      refine go_int kk121_0.2.2.2.1.2 1 rfl ?_
      refine go_ibin kk121_0.2.2.2.2.1 ?_
      refine go_int kk121_0.2.2.2.2.2 1 rfl ?_
      refine go_cmeq kk121_1.1.1.1.1.1.1 (inR_opI _ _ _) (inR_b (Or.inr rfl)) (fun c24 => ?_) (fun c25 => ?_)
      · refine go_aload kk121_1.1.1.1.1.1.2 rfl ?_
        refine go_int kk121_1.1.1.1.1.2 3 rfl ?_
        refine go_callN3 kk121_1.1.1.1.2.1 rfl rfl rfl ⟨by decide, _, rfl, hK0⟩ ⟨Nat.zero_le _, Nat.zero_le _⟩ (by omega) (tfM_failsAt (by omega) hg hK0  (inR_of (by decide))) (fun y26 g28 r27 e29 => ?_)
        exact go_bret kk121_1.1.1.1.2.2 e29 r27 ⟨Nat.zero_le _, Nat.zero_le _⟩ rfl
      · refine go_iload kk121_1.1.1.2.1.1 rfl ?_
        refine go_int kk121_1.1.1.2.1.2 1 rfl ?_
        refine go_iload kk121_1.1.1.2.2.1 rfl ?_
        refine go_ibin kk121_1.1.1.2.2.2 ?_
        refine go_ibin kk121_1.1.2.1.1.1 ?_
        refine go_istore kk121_1.1.2.1.1.2 rfl (loc2 := [some (sR v0), some (sI (opI 2 v1 (opI 4 1 y14))), some (sI y14)]) rfl ?_
        refine go_aload kk121_1.1.2.1.2.1 rfl ?_
        refine go_getR (bI := 0) kk121_1.1.2.1.2.2 hg hK0 (by decide) rfl rfl (fun r30 => ?_)
        refine go_int kk121_1.1.2.2.1.1 6 rfl ?_
        refine go_aload kk121_1.1.2.2.1.2 rfl ?_
        refine go_getR (bI := 0) kk121_1.1.2.2.2.1 hg hK0 (by decide) rfl rfl (fun r31 => ?_)
        refine go_int kk121_1.1.2.2.2.2 5 rfl ?_
        refine go_ck (fun q33 => ?_)
        refine go_iald kk121_1.2.1.1.1.1.1 hg q33 (fun r32 => ?_)
        refine go_iadd kk121_1.2.1.1.1.1.2 ?_
        refine go_iload kk121_1.2.1.1.1.2 rfl ?_
        refine go_ck (fun q34 => ?_)
        refine go_iast kk121_1.2.1.1.2.1 hg q34 r15 (fun g35 e36 => ?_)
        refine go_aload kk121_1.2.1.1.2.2 rfl ?_
        refine go_getR (bI := 0) kk121_1.2.1.2.1.1 e36 hK0 (by decide) rfl rfl (fun r37 => ?_)
        refine go_int kk121_1.2.1.2.1.2 5 rfl ?_
        refine go_dup2 kk121_1.2.1.2.2.1 ?_
        refine go_ck (fun q39 => ?_)
        refine go_iald kk121_1.2.1.2.2.2 e36 q39 (fun r38 => ?_)
        refine go_int kk121_1.2.2.1.1.1 1 rfl ?_
        refine go_iadd kk121_1.2.2.1.1.2 ?_
        refine go_ck (fun q40 => ?_)
        refine go_iast kk121_1.2.2.1.2.1 e36 q40 (inR_w32 _) (fun g41 e42 => ?_)
        refine go_aload kk121_1.2.2.1.2.2 rfl ?_
        refine go_callN0 kk121_1.2.2.2.1.1 rfl rfl rfl ⟨by decide, _, rfl, hK0⟩ ⟨Nat.zero_le _, Nat.zero_le _⟩ (by omega) (tfM_advanceToken (by omega) e42 hK0 ) (fun y43 g45 e46 => ?_)
        refine go_goto kk121_1.2.2.2.1.2 ?_
        exact HX19 (opI 2 v1 (opI 4 1 y14)) (inR_opI _ _ _) g45 e46 (some (sI y14)) rfl
  · refine go_int kk121_1.2.2.2.2.1 1 rfl ?_
    exact go_bret kk121_1.2.2.2.2.2 hg (Or.inr rfl) ⟨Nat.zero_le _, Nat.zero_le _⟩ rfl
theorem tlM_readOrder_19 {Φ : ev_P} {d : Nat} (hd : 3 ≤ d) {v0 : Int} (hK0 : kd v0 = 7) : ∀ n : Nat, ∀ (v1 : Int) (h1 : InR v1) (g : gH) (hg : HR g) (u2 : Option ev_V) (w2 : nwo u2), Go Φ pr_P fN 3 (lM_readOrder_19 v0 n v1 g) d pr_m121 19 [some (sR v0), some (sI v1), u2] [] g 0 0 := by
  intro n
  induction n with
  | zero => intros; exact go_none
  | succ n ih => exact tbM_readOrder_19 hd hK0 ih
theorem tfM_readOrder {Φ : ev_P} {d : Nat} (hd : 3 ≤ d) {g : gH} (hg : HR g) {v0 : Int} (hK0 : kd v0 = 7) : Go Φ pr_P fN 3 (fM_readOrder g v0) d (pr_P 121) 0 (ev_loc (pr_P 121).1 [(sR v0)]) [] g 0 0 := by
  show Go Φ pr_P fN 3 (fM_readOrder g v0) d pr_m121 0 [some (sR v0), none, none] [] g 0 0
  unfold fM_readOrder
  refine go_aload kk121_0.1.1.1.1.1.1 rfl ?_
  refine go_int kk121_0.1.1.1.1.1.2 1 rfl ?_
  refine go_callN3 kk121_0.1.1.1.1.2 rfl rfl rfl ⟨by decide, _, rfl, hK0⟩ ⟨Nat.zero_le _, Nat.zero_le _⟩ (by omega) (tfM_startsOnce (by omega) hg hK0  (inR_b (Or.inr rfl))) (fun y1 g3 r2 e4 => ?_)
  refine go_ifeq kk121_0.1.1.1.2.1 (inR_b r2) (fun c5 => ?_) (fun c6 => ?_)
  · refine go_int kk121_0.1.1.1.2.2 0 rfl ?_
    exact go_bret kk121_0.1.1.2.1.1 e4 (Or.inl rfl) ⟨Nat.zero_le _, Nat.zero_le _⟩ rfl
  · refine go_aload kk121_0.1.1.2.1.2 rfl ?_
    refine go_getR (bI := 0) kk121_0.1.1.2.2.1 e4 hK0 (by decide) rfl rfl (fun r7 => ?_)
    refine go_int kk121_0.1.1.2.2.2 5 rfl ?_
    refine go_int kk121_0.1.2.1.1.1 0 rfl ?_
    refine go_ck (fun q8 => ?_)
    refine go_iast kk121_0.1.2.1.1.2 e4 q8 (inR_b (Or.inl rfl)) (fun g9 e10 => ?_)
    refine go_int kk121_0.1.2.1.2.1 0 rfl ?_
    refine go_istore kk121_0.1.2.1.2.2 rfl (loc2 := [some (sR v0), some (sI 0), none]) rfl ?_
    exact tlM_readOrder_19 hd hK0 fu 0 (inR_b (Or.inl rfl)) g9 e10 none rfl
theorem tfM_runs {Φ : ev_P} {d : Nat} (hd : 0 ≤ d) {g : gH} (hg : HR g) {v0 v1 : Int} (hK0 : kd v0 = 7) (h1 : InR v1) : Go Φ pr_P (fP g) 3 (fM_runs g v0 v1) d (pr_P 83) 0 (ev_loc (pr_P 83).1 [(sR v0), (sI v1)]) [] g 0 0 := by
  show Go Φ pr_P (fP g) 3 (fM_runs g v0 v1) d pr_m83 0 [some (sR v0), some (sI v1)] [] g 0 0
  unfold fM_runs
  refine go_aload kk83_0.1.1.1.1 rfl ?_
  refine go_getR (bI := 0) kk83_0.1.1.1.2 hg hK0 (by decide) rfl rfl (fun r1 => ?_)
  refine go_int kk83_0.1.1.2 140 rfl ?_
  refine go_iload kk83_0.1.2.1.1 rfl ?_
  refine go_iadd kk83_0.1.2.1.2 ?_
  refine go_ck (fun q3 => ?_)
  refine go_iald kk83_0.1.2.2 hg q3 (fun r2 => ?_)
  refine go_ifeq kk83_0.2.1.1.1 r2 (fun c4 => ?_) (fun c5 => ?_)
  · refine go_int kk83_0.2.1.1.2 1 rfl ?_
    refine go_goto kk83_0.2.1.2 ?_
    exact go_bret kk83_0.2.2.2 hg (Or.inr rfl) ⟨Nat.zero_le _, Nat.zero_le _⟩ rfl
  · refine go_int kk83_0.2.2.1 0 rfl ?_
    exact go_bret kk83_0.2.2.2 hg (Or.inl rfl) ⟨Nat.zero_le _, Nat.zero_le _⟩ rfl
theorem tfM_isChild {Φ : ev_P} {d : Nat} (hd : 0 ≤ d) {g : gH} (hg : HR g) {v0 v1 v2 v3 : Int} (hK0 : kd v0 = 7) (h1 : InR v1) (h2 : InR v2) (h3 : InR v3) : Go Φ pr_P (fP g) 3 (fM_isChild g v0 v1 v2 v3) d (pr_P 84) 0 (ev_loc (pr_P 84).1 [(sR v0), (sI v1), (sI v2), (sI v3)]) [] g 0 0 := by
  show Go Φ pr_P (fP g) 3 (fM_isChild g v0 v1 v2 v3) d pr_m84 0 [some (sR v0), some (sI v1), some (sI v2), some (sI v3)] [] g 0 0
  unfold fM_isChild
  refine go_aload kk84_0.1.1.1.1.1 rfl ?_
  refine go_getR (bI := 0) kk84_0.1.1.1.1.2 hg hK0 (by decide) rfl rfl (fun r1 => ?_)
  refine go_int kk84_0.1.1.1.2 140 rfl ?_
  refine go_iload kk84_0.1.1.2.1.1 rfl ?_
  refine go_iadd kk84_0.1.1.2.1.2 ?_
  refine go_ck (fun q3 => ?_)
  refine go_iald kk84_0.1.1.2.2 hg q3 (fun r2 => ?_)
  refine go_iload kk84_0.1.2.1.1.1 rfl ?_
  refine go_cmeq kk84_0.1.2.1.1.2 r2 h3 (fun c4 => ?_) (fun c5 => ?_)
  · refine go_aload kk84_0.1.2.1.2 rfl ?_
    refine go_getR (bI := 0) kk84_0.1.2.2.1 hg hK0 (by decide) rfl rfl (fun r6 => ?_)
    refine go_int kk84_0.1.2.2.2 60 rfl ?_
    refine go_iload kk84_0.2.1.1.1.1 rfl ?_
    refine go_iadd kk84_0.2.1.1.1.2 ?_
    refine go_ck (fun q8 => ?_)
    refine go_iald kk84_0.2.1.1.2 hg q8 (fun r7 => ?_)
    refine go_iload kk84_0.2.1.2.1.1 rfl ?_
    refine go_cmeq kk84_0.2.1.2.1.2 r7 h2 (fun c9 => ?_) (fun c10 => ?_)
    · refine go_iload kk84_0.2.1.2.2 rfl ?_
      refine go_ifeq kk84_0.2.2.1.1.1 h1 (fun c11 => ?_) (fun c12 => ?_)
      · refine go_int kk84_0.2.2.2.1 0 rfl ?_
        exact go_bret kk84_0.2.2.2.2 hg (Or.inl rfl) ⟨Nat.zero_le _, Nat.zero_le _⟩ rfl
      · refine go_int kk84_0.2.2.1.1.2 1 rfl ?_
        refine go_goto kk84_0.2.2.1.2 ?_
        exact go_bret kk84_0.2.2.2.2 hg (Or.inr rfl) ⟨Nat.zero_le _, Nat.zero_le _⟩ rfl
    · refine go_int kk84_0.2.2.2.1 0 rfl ?_
      exact go_bret kk84_0.2.2.2.2 hg (Or.inl rfl) ⟨Nat.zero_le _, Nat.zero_le _⟩ rfl
  · refine go_int kk84_0.2.2.2.1 0 rfl ?_
    exact go_bret kk84_0.2.2.2.2 hg (Or.inl rfl) ⟨Nat.zero_le _, Nat.zero_le _⟩ rfl
theorem tbM_childrenOf_5 {Φ : ev_P} {d : Nat} (hd : 1 ≤ d) {g : gH} (hg : HR g) {v0 v1 v2 : Int} (hK0 : kd v0 = 7) (h1 : InR v1) (h2 : InR v2) {X5 : Int → Int → Option Int} (HX5 : ∀ (v3 : Int) (h3 : InR v3) (v4 : Int) (h4 : InR v4), Go Φ pr_P (fP g) 1 (X5 v3 v4) d pr_m85 5 [some (sR v0), some (sI v1), some (sI v2), some (sI v3), some (sI v4)] [] g 0 0) : ∀ (v3 : Int) (h3 : InR v3) (v4 : Int) (h4 : InR v4), Go Φ pr_P (fP g) 1 (bM_childrenOf_5 g v0 v1 v2 X5 v3 v4) d pr_m85 5 [some (sR v0), some (sI v1), some (sI v2), some (sI v3), some (sI v4)] [] g 0 0 := by
  intro v3 h3 v4 h4
  unfold bM_childrenOf_5
  refine go_iload kk85_0.1.1.2.1.1 rfl ?_
  refine go_aload kk85_0.1.1.2.1.2 rfl ?_
  refine go_getR (bI := 0) kk85_0.1.1.2.2 hg hK0 (by decide) rfl rfl (fun r1 => ?_)
  refine go_int kk85_0.1.2.1.1.1 0 rfl ?_
  refine go_ck (fun q3 => ?_)
  refine go_iald kk85_0.1.2.1.1.2 hg q3 (fun r2 => ?_)
  refine go_cmlt kk85_0.1.2.1.2 h4 r2 (fun c4 => ?_) (fun c5 => ?_)
  · refine go_iload kk85_0.1.2.2.1.1 rfl ?_
    refine go_aload kk85_0.1.2.2.1.2 rfl ?_
    refine go_iload kk85_0.1.2.2.2 rfl ?_
    refine go_iload kk85_0.2.1.1.1.1 rfl ?_
    refine go_iload kk85_0.2.1.1.1.2 rfl ?_
    refine go_callP3 kk85_0.2.1.1.2.1 rfl rfl rfl ⟨by decide, _, rfl, hK0⟩ ⟨Nat.zero_le _, Nat.zero_le _⟩ (by omega) (tfM_isChild (by omega) hg hK0  h4 h1 h2) (fun y6 r7 => ?_)
    refine go_ifeq kk85_0.2.1.1.2.2 (inR_b r7) (fun c10 => ?_) (fun c11 => ?_)
    · refine go_int kk85_0.2.1.2.2 0 rfl ?_
      refine go_iadd kk85_0.2.2.1.1.1 ?_
      refine go_istore kk85_0.2.2.1.1.2 rfl (loc2 := [some (sR v0), some (sI v1), some (sI v2), some (sI (w32 (v3 + 0))), some (sI v4)]) rfl ?_
      refine go_iinc kk85_0.2.2.1.2 rfl rfl 1 rfl (loc2 := [some (sR v0), some (sI v1), some (sI v2), some (sI (w32 (v3 + 0))), some (sI (w32 (v4 + 1)))]) rfl ?_
      refine go_goto kk85_0.2.2.2.1.1 ?_
      exact HX5 (w32 (v3 + 0)) (inR_w32 _) (w32 (v4 + 1)) (inR_w32 _)
    · refine go_int kk85_0.2.1.2.1.1 1 rfl ?_
      refine go_goto kk85_0.2.1.2.1.2 ?_
      refine go_iadd kk85_0.2.2.1.1.1 ?_
      refine go_istore kk85_0.2.2.1.1.2 rfl (loc2 := [some (sR v0), some (sI v1), some (sI v2), some (sI (w32 (v3 + 1))), some (sI v4)]) rfl ?_
      refine go_iinc kk85_0.2.2.1.2 rfl rfl 1 rfl (loc2 := [some (sR v0), some (sI v1), some (sI v2), some (sI (w32 (v3 + 1))), some (sI (w32 (v4 + 1)))]) rfl ?_
      refine go_goto kk85_0.2.2.2.1.1 ?_
      exact HX5 (w32 (v3 + 1)) (inR_w32 _) (w32 (v4 + 1)) (inR_w32 _)
  · refine go_iload kk85_0.2.2.2.1.2 rfl ?_
    exact go_iret kk85_0.2.2.2.2 hg h3 ⟨Nat.zero_le _, Nat.zero_le _⟩ rfl
theorem tlM_childrenOf_5 {Φ : ev_P} {d : Nat} (hd : 1 ≤ d) {g : gH} (hg : HR g) {v0 v1 v2 : Int} (hK0 : kd v0 = 7) (h1 : InR v1) (h2 : InR v2) : ∀ n : Nat, ∀ (v3 : Int) (h3 : InR v3) (v4 : Int) (h4 : InR v4), Go Φ pr_P (fP g) 1 (lM_childrenOf_5 g v0 v1 v2 n v3 v4) d pr_m85 5 [some (sR v0), some (sI v1), some (sI v2), some (sI v3), some (sI v4)] [] g 0 0 := by
  intro n
  induction n with
  | zero => intros; exact go_none
  | succ n ih => exact tbM_childrenOf_5 hd hg hK0 h1 h2 ih
theorem tfM_childrenOf {Φ : ev_P} {d : Nat} (hd : 1 ≤ d) {g : gH} (hg : HR g) {v0 v1 v2 : Int} (hK0 : kd v0 = 7) (h1 : InR v1) (h2 : InR v2) : Go Φ pr_P (fP g) 1 (fM_childrenOf g v0 v1 v2) d (pr_P 85) 0 (ev_loc (pr_P 85).1 [(sR v0), (sI v1), (sI v2)]) [] g 0 0 := by
  show Go Φ pr_P (fP g) 1 (fM_childrenOf g v0 v1 v2) d pr_m85 0 [some (sR v0), some (sI v1), some (sI v2), none, none] [] g 0 0
  unfold fM_childrenOf
  refine go_int kk85_0.1.1.1.1.1 0 rfl ?_
  refine go_istore kk85_0.1.1.1.1.2 rfl (loc2 := [some (sR v0), some (sI v1), some (sI v2), some (sI 0), none]) rfl ?_
  refine go_int kk85_0.1.1.1.2.1 0 rfl ?_
  refine go_istore kk85_0.1.1.1.2.2 rfl (loc2 := [some (sR v0), some (sI v1), some (sI v2), some (sI 0), some (sI 0)]) rfl ?_
  exact tlM_childrenOf_5 hd hg hK0 h1 h2 fu 0 (inR_b (Or.inl rfl)) 0 (inR_b (Or.inl rfl))
theorem tfM_roomOf {Φ : ev_P} {d : Nat} (hd : 2 ≤ d) {g : gH} (hg : HR g) {v0 v1 : Int} (hK0 : kd v0 = 7) (h1 : InR v1) : Go Φ pr_P (fP g) 1 (fM_roomOf g v0 v1) d (pr_P 86) 0 (ev_loc (pr_P 86).1 [(sR v0), (sI v1)]) [] g 0 0 := by
  show Go Φ pr_P (fP g) 1 (fM_roomOf g v0 v1) d pr_m86 0 [some (sR v0), some (sI v1)] [] g 0 0
  unfold fM_roomOf
  refine go_aload kk86_0.1.1.1.1.1 rfl ?_
  refine go_iload kk86_0.1.1.1.1.2 rfl ?_
  refine go_callP3 kk86_0.1.1.1.2 rfl rfl rfl ⟨by decide, _, rfl, hK0⟩ ⟨Nat.zero_le _, Nat.zero_le _⟩ (by omega) (tfM_runs (by omega) hg hK0  h1) (fun y1 r2 => ?_)
  refine go_ifeq kk86_0.1.1.2.1 (inR_b r2) (fun c5 => ?_) (fun c6 => ?_)
  · refine go_int kk86_0.2.2.2.1 0 rfl ?_
    exact go_iret kk86_0.2.2.2.2 hg (inR_b (Or.inl rfl)) ⟨Nat.zero_le _, Nat.zero_le _⟩ rfl
  · refine go_int kk86_0.1.1.2.2 0 rfl ?_
    refine go_aload kk86_0.1.2.1.1.1 rfl ?_
    refine go_getR (bI := 0) kk86_0.1.2.1.1.2 hg hK0 (by decide) rfl rfl (fun r7 => ?_)
    refine go_int kk86_0.1.2.1.2 100 rfl ?_
    refine go_iload kk86_0.1.2.2.1 rfl ?_
    refine go_iadd kk86_0.1.2.2.2 ?_
    refine go_ck (fun q9 => ?_)
    refine go_iald kk86_0.2.1.1.1.1 hg q9 (fun r8 => ?_)
    refine go_aload kk86_0.2.1.1.1.2 rfl ?_
    refine go_iload kk86_0.2.1.1.2 rfl ?_
    refine go_int kk86_0.2.1.2.1 0 rfl ?_
    refine go_callP1 kk86_0.2.1.2.2 rfl rfl rfl ⟨by decide, _, rfl, hK0⟩ ⟨Nat.zero_le _, Nat.zero_le _⟩ (by omega) (tfM_childrenOf (by omega) hg hK0  h1 (inR_b (Or.inl rfl))) (fun y10 r11 => ?_)
    refine go_isub kk86_0.2.2.1.1.1 ?_
    refine go_max kk86_0.2.2.1.1.2 (inR_b (Or.inl rfl)) (inR_w32 _) rfl ⟨Nat.zero_le _, Nat.zero_le _⟩ ?_
    refine go_goto kk86_0.2.2.1.2 ?_
    exact go_iret kk86_0.2.2.2.2 hg (inR_gmax (inR_b (Or.inl rfl)) (inR_w32 _)) ⟨Nat.zero_le _, Nat.zero_le _⟩ rfl
theorem tfM_readProcess {Φ : ev_P} {d : Nat} (hd : 3 ≤ d) {g : gH} (hg : HR g) {v0 : Int} (hK0 : kd v0 = 7) : Go Φ pr_P fN 3 (fM_readProcess g v0) d (pr_P 122) 0 (ev_loc (pr_P 122).1 [(sR v0)]) [] g 0 0 := by
  show Go Φ pr_P fN 3 (fM_readProcess g v0) d pr_m122 0 [some (sR v0)] [] g 0 0
  unfold fM_readProcess
  refine go_aload kk122_0.1.1.1.1.1.1 rfl ?_
  refine go_getR (bI := 0) kk122_0.1.1.1.1.1.2 hg hK0 (by decide) rfl rfl (fun r1 => ?_)
  refine go_int kk122_0.1.1.1.1.2 0 rfl ?_
  refine go_ck (fun q3 => ?_)
  refine go_iald kk122_0.1.1.1.2.1.1 hg q3 (fun r2 => ?_)
  refine go_int kk122_0.1.1.1.2.1.2 24 rfl ?_
  refine go_cmgt kk122_0.1.1.1.2.2 r2 (inR_of (by decide)) (fun c4 => ?_) (fun c5 => ?_)
  · refine go_aload kk122_0.1.1.2.1.1.1 rfl ?_
    refine go_int kk122_0.1.1.2.1.1.2 4 rfl ?_
    refine go_callN3 kk122_0.1.1.2.1.2 rfl rfl rfl ⟨by decide, _, rfl, hK0⟩ ⟨Nat.zero_le _, Nat.zero_le _⟩ (by omega) (tfM_failsAt (by omega) hg hK0  (inR_of (by decide))) (fun y6 g8 r7 e9 => ?_)
    exact go_bret kk122_0.1.1.2.2.1 e9 r7 ⟨Nat.zero_le _, Nat.zero_le _⟩ rfl
  · refine go_aload kk122_0.1.1.2.2.2 rfl ?_
    refine go_callN0 kk122_0.1.2.1.1.1.1 rfl rfl rfl ⟨by decide, _, rfl, hK0⟩ ⟨Nat.zero_le _, Nat.zero_le _⟩ (by omega) (tfM_advanceToken (by omega) hg hK0 ) (fun y10 g12 e13 => ?_)
    refine go_aload kk122_0.1.2.1.1.1.2 rfl ?_
    refine go_int kk122_0.1.2.1.1.2 0 rfl ?_
    refine go_aload kk122_0.1.2.1.2.1 rfl ?_
    refine go_getR (bI := 0) kk122_0.1.2.1.2.2 e13 hK0 (by decide) rfl rfl (fun r14 => ?_)
    refine go_int kk122_0.1.2.2.1.1.1 0 rfl ?_
    refine go_ck (fun q16 => ?_)
    refine go_iald kk122_0.1.2.2.1.1.2 e13 q16 (fun r15 => ?_)
    refine go_int kk122_0.1.2.2.1.2 1 rfl ?_
    refine go_isub kk122_0.1.2.2.2.1 ?_
    refine go_callN3 kk122_0.1.2.2.2.2 rfl rfl rfl ⟨by decide, _, rfl, hK0⟩ ⟨Nat.zero_le _, Nat.zero_le _⟩ (by omega) (tfM_isNumber (by omega) e13 hK0  (inR_b (Or.inl rfl)) (inR_w32 _)) (fun y17 g19 r18 e20 => ?_)
    refine go_ifeq kk122_0.2.1.1.1.1.1 (inR_b r18) (fun c21 => ?_) (fun c22 => ?_)
    · refine go_int kk122_0.2.1.1.1.1.2 0 rfl ?_
      exact go_bret kk122_0.2.1.1.1.2 e20 (Or.inl rfl) ⟨Nat.zero_le _, Nat.zero_le _⟩ rfl
    · refine go_aload kk122_0.2.1.1.2.1.1 rfl ?_
      refine go_aload kk122_0.2.1.1.2.1.2 rfl ?_
      refine go_getI (bI := 17) kk122_0.2.1.1.2.2 e20 hK0 (by decide) rfl rfl (fun r23 => ?_)
      refine go_callP1 kk122_0.2.1.2.1.1.1 rfl rfl rfl ⟨by decide, _, rfl, hK0⟩ ⟨Nat.zero_le _, Nat.zero_le _⟩ (by omega) (tfM_roomOf (by omega) e20 hK0  r23) (fun y24 r25 => ?_)
      refine go_ifeq kk122_0.2.1.2.1.1.2 r25 (fun c28 => ?_) (fun c29 => ?_)
      · refine go_aload kk122_0.2.1.2.1.2 rfl ?_
        refine go_int kk122_0.2.1.2.2.1 2 rfl ?_
        refine go_callN3 kk122_0.2.1.2.2.2 rfl rfl rfl ⟨by decide, _, rfl, hK0⟩ ⟨Nat.zero_le _, Nat.zero_le _⟩ (by omega) (tfM_failsAt (by omega) e20 hK0  (inR_of (by decide))) (fun y30 g32 r31 e33 => ?_)
        exact go_bret kk122_0.2.2.1.1.1.1 e33 r31 ⟨Nat.zero_le _, Nat.zero_le _⟩ rfl
      · refine go_aload kk122_0.2.2.1.1.1.2 rfl ?_
        refine go_int kk122_0.2.2.1.1.2 0 rfl ?_
        refine go_int kk122_0.2.2.1.2.1 0 rfl ?_
        refine go_aload kk122_0.2.2.1.2.2 rfl ?_
        refine go_getR (bI := 0) kk122_0.2.2.2.1.1.1 e20 hK0 (by decide) rfl rfl (fun r34 => ?_)
        refine go_int kk122_0.2.2.2.1.1.2 0 rfl ?_
        refine go_ck (fun q36 => ?_)
        refine go_iald kk122_0.2.2.2.1.2 e20 q36 (fun r35 => ?_)
        refine go_int kk122_0.2.2.2.2.1 1 rfl ?_
        refine go_isub kk122_0.2.2.2.2.2 ?_
        refine go_callN3 kk122_1.1.1.1.1.1.1 rfl rfl rfl ⟨by decide, _, rfl, hK0⟩ ⟨Nat.zero_le _, Nat.zero_le _⟩ (by omega) (tfM_takes (by omega) e20 hK0  (inR_b (Or.inl rfl)) (inR_b (Or.inl rfl)) (inR_w32 _)) (fun y37 g39 r38 e40 => ?_)
        refine go_ifeq kk122_1.1.1.1.1.1.2 (inR_b r38) (fun c41 => ?_) (fun c42 => ?_)
        · refine go_int kk122_1.1.2.2.2.1 0 rfl ?_
          exact go_bret kk122_1.1.2.2.2.2 e40 (Or.inl rfl) ⟨Nat.zero_le _, Nat.zero_le _⟩ rfl
        · refine go_aload kk122_1.1.1.1.1.2 rfl ?_
          refine go_int kk122_1.1.1.1.2.1.1 1 rfl ?_
          refine go_int kk122_1.1.1.1.2.1.2 0 rfl ?_
          refine go_int kk122_1.1.1.1.2.2 9 rfl ?_
          refine go_callN3 kk122_1.1.1.2.1.1.1 rfl rfl rfl ⟨by decide, _, rfl, hK0⟩ ⟨Nat.zero_le _, Nat.zero_le _⟩ (by omega) (tfM_takes (by omega) e40 hK0  (inR_b (Or.inr rfl)) (inR_b (Or.inl rfl)) (inR_of (by decide))) (fun y43 g45 r44 e46 => ?_)
          refine go_ifeq kk122_1.1.1.2.1.1.2 (inR_b r44) (fun c47 => ?_) (fun c48 => ?_)
          · refine go_int kk122_1.1.2.2.2.1 0 rfl ?_
            exact go_bret kk122_1.1.2.2.2.2 e46 (Or.inl rfl) ⟨Nat.zero_le _, Nat.zero_le _⟩ rfl
          · refine go_aload kk122_1.1.1.2.1.2 rfl ?_
            refine go_int kk122_1.1.1.2.2.1 2 rfl ?_
            refine go_int kk122_1.1.1.2.2.2 0 rfl ?_
            refine go_int kk122_1.1.2.1.1.1.1 9 rfl ?_
            refine go_callN3 kk122_1.1.2.1.1.1.2 rfl rfl rfl ⟨by decide, _, rfl, hK0⟩ ⟨Nat.zero_le _, Nat.zero_le _⟩ (by omega) (tfM_takes (by omega) e46 hK0  (inR_of (by decide)) (inR_b (Or.inl rfl)) (inR_of (by decide))) (fun y49 g51 r50 e52 => ?_)
            refine go_ifeq kk122_1.1.2.1.1.2 (inR_b r50) (fun c53 => ?_) (fun c54 => ?_)
            · refine go_int kk122_1.1.2.2.2.1 0 rfl ?_
              exact go_bret kk122_1.1.2.2.2.2 e52 (Or.inl rfl) ⟨Nat.zero_le _, Nat.zero_le _⟩ rfl
            · refine go_aload kk122_1.1.2.1.2.1.1 rfl ?_
              refine go_int kk122_1.1.2.1.2.1.2 3 rfl ?_
              refine go_int kk122_1.1.2.1.2.2 0 rfl ?_
              refine go_int kk122_1.1.2.2.1.1.1 9 rfl ?_
              refine go_callN3 kk122_1.1.2.2.1.1.2 rfl rfl rfl ⟨by decide, _, rfl, hK0⟩ ⟨Nat.zero_le _, Nat.zero_le _⟩ (by omega) (tfM_takes (by omega) e52 hK0  (inR_of (by decide)) (inR_b (Or.inl rfl)) (inR_of (by decide))) (fun y55 g57 r56 e58 => ?_)
              refine go_ifeq kk122_1.1.2.2.1.2 (inR_b r56) (fun c59 => ?_) (fun c60 => ?_)
              · refine go_int kk122_1.1.2.2.2.1 0 rfl ?_
                exact go_bret kk122_1.1.2.2.2.2 e58 (Or.inl rfl) ⟨Nat.zero_le _, Nat.zero_le _⟩ rfl
              · refine go_aload kk122_1.2.1.1.1.1.1 rfl ?_
                refine go_aload kk122_1.2.1.1.1.1.2 rfl ?_
                refine go_getR (bI := 20) kk122_1.2.1.1.1.2 e58 hK0 (by decide) rfl rfl (fun r61 => ?_)
                refine go_int kk122_1.2.1.1.2.1.1 0 rfl ?_
                refine go_ck (fun q63 => ?_)
                refine go_iald kk122_1.2.1.1.2.1.2 e58 q63 (fun r62 => ?_)
                refine go_aload kk122_1.2.1.1.2.2 rfl ?_
                refine go_getR (bI := 20) kk122_1.2.1.2.1.1.1 e58 hK0 (by decide) rfl rfl (fun r64 => ?_)
                refine go_int kk122_1.2.1.2.1.1.2 1 rfl ?_
                refine go_ck (fun q66 => ?_)
                refine go_iald kk122_1.2.1.2.1.2 e58 q66 (fun r65 => ?_)
                refine go_aload kk122_1.2.1.2.2.1 rfl ?_
                refine go_getR (bI := 20) kk122_1.2.1.2.2.2 e58 hK0 (by decide) rfl rfl (fun r67 => ?_)
                refine go_int kk122_1.2.2.1.1.1.1 2 rfl ?_
                refine go_ck (fun q69 => ?_)
                refine go_iald kk122_1.2.2.1.1.1.2 e58 q69 (fun r68 => ?_)
                refine go_aload kk122_1.2.2.1.1.2 rfl ?_
                refine go_getR (bI := 20) kk122_1.2.2.1.2.1 e58 hK0 (by decide) rfl rfl (fun r70 => ?_)
                refine go_int kk122_1.2.2.1.2.2 3 rfl ?_
                refine go_ck (fun q72 => ?_)
                refine go_iald kk122_1.2.2.2.1.1.1 e58 q72 (fun r71 => ?_)
                refine go_callN1 kk122_1.2.2.2.1.1.2 rfl rfl rfl ⟨by decide, _, rfl, hK0⟩ ⟨Nat.zero_le _, Nat.zero_le _⟩ (by omega) (tfM_comes (by omega) e58 hK0  r62 r65 r68 r71) (fun y73 g75 r74 e76 => ?_)
                refine go_popI kk122_1.2.2.2.1.2 ?_
                refine go_int kk122_1.2.2.2.2.1 1 rfl ?_
                exact go_bret kk122_1.2.2.2.2.2 e76 (Or.inr rfl) ⟨Nat.zero_le _, Nat.zero_le _⟩ rfl
theorem tfM_readHeir {Φ : ev_P} {d : Nat} (hd : 3 ≤ d) {g : gH} (hg : HR g) {v0 : Int} (hK0 : kd v0 = 7) : Go Φ pr_P fN 3 (fM_readHeir g v0) d (pr_P 123) 0 (ev_loc (pr_P 123).1 [(sR v0)]) [] g 0 0 := by
  show Go Φ pr_P fN 3 (fM_readHeir g v0) d pr_m123 0 [some (sR v0)] [] g 0 0
  unfold fM_readHeir
  refine go_aload kk123_0.1.1.1.1.1.1 rfl ?_
  refine go_callN0 kk123_0.1.1.1.1.1.2 rfl rfl rfl ⟨by decide, _, rfl, hK0⟩ ⟨Nat.zero_le _, Nat.zero_le _⟩ (by omega) (tfM_advanceToken (by omega) hg hK0 ) (fun y1 g3 e4 => ?_)
  refine go_aload kk123_0.1.1.1.1.2 rfl ?_
  refine go_int kk123_0.1.1.1.2.1.1 1 rfl ?_
  refine go_aload kk123_0.1.1.1.2.1.2 rfl ?_
  refine go_getR (bI := 0) kk123_0.1.1.1.2.2 e4 hK0 (by decide) rfl rfl (fun r5 => ?_)
  refine go_int kk123_0.1.1.2.1.1.1 0 rfl ?_
  refine go_ck (fun q7 => ?_)
  refine go_iald kk123_0.1.1.2.1.1.2 e4 q7 (fun r6 => ?_)
  refine go_int kk123_0.1.1.2.1.2 1 rfl ?_
  refine go_isub kk123_0.1.1.2.2.1.1 ?_
  refine go_callN3 kk123_0.1.1.2.2.1.2 rfl rfl rfl ⟨by decide, _, rfl, hK0⟩ ⟨Nat.zero_le _, Nat.zero_le _⟩ (by omega) (tfM_isNumber (by omega) e4 hK0  (inR_b (Or.inr rfl)) (inR_w32 _)) (fun y8 g10 r9 e11 => ?_)
  refine go_ifeq kk123_0.1.1.2.2.2 (inR_b r9) (fun c12 => ?_) (fun c13 => ?_)
  · refine go_int kk123_0.1.2.1.1.1.1 0 rfl ?_
    exact go_bret kk123_0.1.2.1.1.1.2 e11 (Or.inl rfl) ⟨Nat.zero_le _, Nat.zero_le _⟩ rfl
  · refine go_aload kk123_0.1.2.1.1.2 rfl ?_
    refine go_getR (bI := 0) kk123_0.1.2.1.2.1.1 e11 hK0 (by decide) rfl rfl (fun r14 => ?_)
    refine go_int kk123_0.1.2.1.2.1.2 260 rfl ?_
    refine go_aload kk123_0.1.2.1.2.2 rfl ?_
    refine go_getI (bI := 17) kk123_0.1.2.2.1.1.1 e11 hK0 (by decide) rfl rfl (fun r15 => ?_)
    refine go_iadd kk123_0.1.2.2.1.1.2 ?_
    refine go_ck (fun q17 => ?_)
    refine go_iald kk123_0.1.2.2.1.2 e11 q17 (fun r16 => ?_)
    refine go_int kk123_0.1.2.2.2.1 (-1) rfl ?_
    refine go_cmeq kk123_0.1.2.2.2.2 r16 (inR_of (by decide)) (fun c18 => ?_) (fun c19 => ?_)
    · refine go_aload kk123_0.2.1.1.2.1.2 rfl ?_
      refine go_int kk123_0.2.1.1.2.2 0 rfl ?_
      refine go_int kk123_0.2.1.2.1.1.1 1 rfl ?_
      refine go_aload kk123_0.2.1.2.1.1.2 rfl ?_
      refine go_getR (bI := 0) kk123_0.2.1.2.1.2 e11 hK0 (by decide) rfl rfl (fun r20 => ?_)
      refine go_int kk123_0.2.1.2.2.1 0 rfl ?_
      refine go_ck (fun q22 => ?_)
      refine go_iald kk123_0.2.1.2.2.2 e11 q22 (fun r21 => ?_)
      refine go_int kk123_0.2.2.1.1.1.1 1 rfl ?_
      refine go_isub kk123_0.2.2.1.1.1.2 ?_
      refine go_callN3 kk123_0.2.2.1.1.2 rfl rfl rfl ⟨by decide, _, rfl, hK0⟩ ⟨Nat.zero_le _, Nat.zero_le _⟩ (by omega) (tfM_takes (by omega) e11 hK0  (inR_b (Or.inl rfl)) (inR_b (Or.inr rfl)) (inR_w32 _)) (fun y23 g25 r24 e26 => ?_)
      refine go_ifeq kk123_0.2.2.1.2.1.1 (inR_b r24) (fun c27 => ?_) (fun c28 => ?_)
      · refine go_int kk123_0.2.2.1.2.1.2 0 rfl ?_
        exact go_bret kk123_0.2.2.1.2.2 e26 (Or.inl rfl) ⟨Nat.zero_le _, Nat.zero_le _⟩ rfl
      · refine go_aload kk123_0.2.2.2.1.1.1 rfl ?_
        refine go_int kk123_0.2.2.2.1.1.2 0 rfl ?_
        refine go_aload kk123_0.2.2.2.1.2 rfl ?_
        refine go_getR (bI := 0) kk123_0.2.2.2.2.1 e26 hK0 (by decide) rfl rfl (fun r29 => ?_)
        refine go_int kk123_0.2.2.2.2.2 0 rfl ?_
        refine go_ck (fun q31 => ?_)
        refine go_iald kk123_1.1.1.1.1.1.1 e26 q31 (fun r30 => ?_)
        refine go_int kk123_1.1.1.1.1.1.2 1 rfl ?_
        refine go_isub kk123_1.1.1.1.1.2 ?_
        refine go_callN3 kk123_1.1.1.1.2.1.1 rfl rfl rfl ⟨by decide, _, rfl, hK0⟩ ⟨Nat.zero_le _, Nat.zero_le _⟩ (by omega) (tfM_isNumber (by omega) e26 hK0  (inR_b (Or.inl rfl)) (inR_w32 _)) (fun y32 g34 r33 e35 => ?_)
        refine go_ifeq kk123_1.1.1.1.2.1.2 (inR_b r33) (fun c36 => ?_) (fun c37 => ?_)
        · refine go_int kk123_1.1.1.1.2.2 0 rfl ?_
          exact go_bret kk123_1.1.1.2.1.1.1 e35 (Or.inl rfl) ⟨Nat.zero_le _, Nat.zero_le _⟩ rfl
        · refine go_aload kk123_1.1.1.2.1.1.2 rfl ?_
          refine go_getI (bI := 17) kk123_1.1.1.2.1.2 e35 hK0 (by decide) rfl rfl (fun r38 => ?_)
          refine go_aload kk123_1.1.1.2.2.1.1 rfl ?_
          refine go_getR (bI := 20) kk123_1.1.1.2.2.1.2 e35 hK0 (by decide) rfl rfl (fun r39 => ?_)
          refine go_int kk123_1.1.1.2.2.2 0 rfl ?_
          refine go_ck (fun q41 => ?_)
          refine go_iald kk123_1.1.2.1.1.1.1 e35 q41 (fun r40 => ?_)
          refine go_cmeq kk123_1.1.2.1.1.1.2 r38 r40 (fun c42 => ?_) (fun c43 => ?_)
          · refine go_aload kk123_1.1.2.1.1.2 rfl ?_
            refine go_int kk123_1.1.2.1.2.1.1 2 rfl ?_
            refine go_callN3 kk123_1.1.2.1.2.1.2 rfl rfl rfl ⟨by decide, _, rfl, hK0⟩ ⟨Nat.zero_le _, Nat.zero_le _⟩ (by omega) (tfM_failsAt (by omega) e35 hK0  (inR_of (by decide))) (fun y44 g46 r45 e47 => ?_)
            exact go_bret kk123_1.1.2.1.2.2 e47 r45 ⟨Nat.zero_le _, Nat.zero_le _⟩ rfl
          · refine go_aload kk123_1.1.2.2.1.1.1 rfl ?_
            refine go_int kk123_1.1.2.2.1.1.2 1 rfl ?_
            refine go_int kk123_1.1.2.2.1.2 0 rfl ?_
            refine go_aload kk123_1.1.2.2.2.1 rfl ?_
            refine go_getR (bI := 0) kk123_1.1.2.2.2.2 e35 hK0 (by decide) rfl rfl (fun r48 => ?_)
            refine go_int kk123_1.2.1.1.1.1.1 0 rfl ?_
            refine go_ck (fun q50 => ?_)
            refine go_iald kk123_1.2.1.1.1.1.2 e35 q50 (fun r49 => ?_)
            refine go_int kk123_1.2.1.1.1.2 1 rfl ?_
            refine go_isub kk123_1.2.1.1.2.1.1 ?_
            refine go_callN3 kk123_1.2.1.1.2.1.2 rfl rfl rfl ⟨by decide, _, rfl, hK0⟩ ⟨Nat.zero_le _, Nat.zero_le _⟩ (by omega) (tfM_takes (by omega) e35 hK0  (inR_b (Or.inr rfl)) (inR_b (Or.inl rfl)) (inR_w32 _)) (fun y51 g53 r52 e54 => ?_)
            refine go_ifeq kk123_1.2.1.1.2.2 (inR_b r52) (fun c55 => ?_) (fun c56 => ?_)
            · refine go_int kk123_1.2.1.2.1.1.1 0 rfl ?_
              exact go_bret kk123_1.2.1.2.1.1.2 e54 (Or.inl rfl) ⟨Nat.zero_le _, Nat.zero_le _⟩ rfl
            · refine go_aload kk123_1.2.1.2.1.2 rfl ?_
              refine go_getR (bI := 0) kk123_1.2.1.2.2.1.1 e54 hK0 (by decide) rfl rfl (fun r57 => ?_)
              refine go_int kk123_1.2.1.2.2.1.2 260 rfl ?_
              refine go_aload kk123_1.2.1.2.2.2 rfl ?_
              refine go_getR (bI := 20) kk123_1.2.2.1.1.1.1 e54 hK0 (by decide) rfl rfl (fun r58 => ?_)
              refine go_int kk123_1.2.2.1.1.1.2 0 rfl ?_
              refine go_ck (fun q60 => ?_)
              refine go_iald kk123_1.2.2.1.1.2 e54 q60 (fun r59 => ?_)
              refine go_iadd kk123_1.2.2.1.2.1.1 ?_
              refine go_aload kk123_1.2.2.1.2.1.2 rfl ?_
              refine go_getR (bI := 20) kk123_1.2.2.1.2.2 e54 hK0 (by decide) rfl rfl (fun r61 => ?_)
              refine go_int kk123_1.2.2.2.1.1.1 1 rfl ?_
              refine go_ck (fun q63 => ?_)
              refine go_iald kk123_1.2.2.2.1.1.2 e54 q63 (fun r62 => ?_)
              refine go_ck (fun q64 => ?_)
              refine go_iast kk123_1.2.2.2.1.2 e54 q64 r62 (fun g65 e66 => ?_)
              refine go_int kk123_1.2.2.2.2.1 1 rfl ?_
              exact go_bret kk123_1.2.2.2.2.2 e66 (Or.inr rfl) ⟨Nat.zero_le _, Nat.zero_le _⟩ rfl
    · refine go_aload kk123_0.2.1.1.1.1.1 rfl ?_
      refine go_int kk123_0.2.1.1.1.1.2 3 rfl ?_
      refine go_callN3 kk123_0.2.1.1.1.2 rfl rfl rfl ⟨by decide, _, rfl, hK0⟩ ⟨Nat.zero_le _, Nat.zero_le _⟩ (by omega) (tfM_failsAt (by omega) e11 hK0  (inR_of (by decide))) (fun y67 g69 r68 e70 => ?_)
      exact go_bret kk123_0.2.1.1.2.1.1 e70 r68 ⟨Nat.zero_le _, Nat.zero_le _⟩ rfl
theorem tfM_readDuty {Φ : ev_P} {d : Nat} (hd : 3 ≤ d) {g : gH} (hg : HR g) {v0 : Int} (hK0 : kd v0 = 7) : Go Φ pr_P fN 3 (fM_readDuty g v0) d (pr_P 124) 0 (ev_loc (pr_P 124).1 [(sR v0)]) [] g 0 0 := by
  show Go Φ pr_P fN 3 (fM_readDuty g v0) d pr_m124 0 [some (sR v0)] [] g 0 0
  unfold fM_readDuty
  refine go_aload kk124_0.1.1.1.1.1.1 rfl ?_
  refine go_callN0 kk124_0.1.1.1.1.1.2 rfl rfl rfl ⟨by decide, _, rfl, hK0⟩ ⟨Nat.zero_le _, Nat.zero_le _⟩ (by omega) (tfM_advanceToken (by omega) hg hK0 ) (fun y1 g3 e4 => ?_)
  refine go_aload kk124_0.1.1.1.1.2 rfl ?_
  refine go_int kk124_0.1.1.1.2.1 0 rfl ?_
  refine go_int kk124_0.1.1.1.2.2 0 rfl ?_
  refine go_int kk124_0.1.1.2.1.1 7 rfl ?_
  refine go_callN3 kk124_0.1.1.2.1.2 rfl rfl rfl ⟨by decide, _, rfl, hK0⟩ ⟨Nat.zero_le _, Nat.zero_le _⟩ (by omega) (tfM_takes (by omega) e4 hK0  (inR_b (Or.inl rfl)) (inR_b (Or.inl rfl)) (inR_of (by decide))) (fun y5 g7 r6 e8 => ?_)
  refine go_ifeq kk124_0.1.1.2.2.1 (inR_b r6) (fun c9 => ?_) (fun c10 => ?_)
  · refine go_int kk124_0.2.1.1.1.1.2 0 rfl ?_
    exact go_bret kk124_0.2.1.1.1.2 e8 (Or.inl rfl) ⟨Nat.zero_le _, Nat.zero_le _⟩ rfl
  · refine go_aload kk124_0.1.1.2.2.2 rfl ?_
    refine go_int kk124_0.1.2.1.1.1.1 1 rfl ?_
    refine go_int kk124_0.1.2.1.1.1.2 0 rfl ?_
    refine go_aload kk124_0.1.2.1.1.2 rfl ?_
    refine go_getR (bI := 0) kk124_0.1.2.1.2.1 e8 hK0 (by decide) rfl rfl (fun r11 => ?_)
    refine go_int kk124_0.1.2.1.2.2 0 rfl ?_
    refine go_ck (fun q13 => ?_)
    refine go_iald kk124_0.1.2.2.1.1 e8 q13 (fun r12 => ?_)
    refine go_int kk124_0.1.2.2.1.2 1 rfl ?_
    refine go_isub kk124_0.1.2.2.2.1 ?_
    refine go_callN3 kk124_0.1.2.2.2.2 rfl rfl rfl ⟨by decide, _, rfl, hK0⟩ ⟨Nat.zero_le _, Nat.zero_le _⟩ (by omega) (tfM_takes (by omega) e8 hK0  (inR_b (Or.inr rfl)) (inR_b (Or.inl rfl)) (inR_w32 _)) (fun y14 g16 r15 e17 => ?_)
    refine go_ifeq kk124_0.2.1.1.1.1.1 (inR_b r15) (fun c18 => ?_) (fun c19 => ?_)
    · refine go_int kk124_0.2.1.1.1.1.2 0 rfl ?_
      exact go_bret kk124_0.2.1.1.1.2 e17 (Or.inl rfl) ⟨Nat.zero_le _, Nat.zero_le _⟩ rfl
    · refine go_aload kk124_0.2.1.1.2.1 rfl ?_
      refine go_getR (bI := 0) kk124_0.2.1.1.2.2 e17 hK0 (by decide) rfl rfl (fun r20 => ?_)
      refine go_int kk124_0.2.1.2.1.1 11 rfl ?_
      refine go_aload kk124_0.2.1.2.1.2 rfl ?_
      refine go_getR (bI := 20) kk124_0.2.1.2.2.1 e17 hK0 (by decide) rfl rfl (fun r21 => ?_)
      refine go_int kk124_0.2.1.2.2.2 0 rfl ?_
      refine go_ck (fun q23 => ?_)
      refine go_iald kk124_0.2.2.1.1.1.1 e17 q23 (fun r22 => ?_)
      refine go_iadd kk124_0.2.2.1.1.1.2 ?_
      refine go_aload kk124_0.2.2.1.1.2 rfl ?_
      refine go_getR (bI := 20) kk124_0.2.2.1.2.1 e17 hK0 (by decide) rfl rfl (fun r24 => ?_)
      refine go_int kk124_0.2.2.1.2.2 1 rfl ?_
      refine go_ck (fun q26 => ?_)
      refine go_iald kk124_0.2.2.2.1.1 e17 q26 (fun r25 => ?_)
      refine go_ck (fun q27 => ?_)
      refine go_iast kk124_0.2.2.2.1.2 e17 q27 r25 (fun g28 e29 => ?_)
      refine go_int kk124_0.2.2.2.2.1 1 rfl ?_
      exact go_bret kk124_0.2.2.2.2.2 e29 (Or.inr rfl) ⟨Nat.zero_le _, Nat.zero_le _⟩ rfl
theorem tfM_refusesGroup {Φ : ev_P} {d : Nat} (hd : 0 ≤ d) {g : gH} (hg : HR g) {v0 v1 v2 : Int} (hK0 : kd v0 = 7) (h1 : InR v1) (h2 : InR v2) : Go Φ pr_P (fP g) 3 (fM_refusesGroup g v0 v1 v2) d (pr_P 87) 0 (ev_loc (pr_P 87).1 [(sR v0), (sI v1), (sI v2)]) [] g 0 0 := by
  show Go Φ pr_P (fP g) 3 (fM_refusesGroup g v0 v1 v2) d pr_m87 0 [some (sR v0), some (sI v1), some (sI v2)] [] g 0 0
  unfold fM_refusesGroup
  refine go_aload kk87_0.1.1.1.1 rfl ?_
  refine go_getR (bI := 0) kk87_0.1.1.1.2 hg hK0 (by decide) rfl rfl (fun r1 => ?_)
  refine go_int kk87_0.1.1.2.1 340 rfl ?_
  refine go_iload kk87_0.1.1.2.2 rfl ?_
  refine go_iadd kk87_0.1.2.1.1 ?_
  refine go_ck (fun q3 => ?_)
  refine go_iald kk87_0.1.2.1.2 hg q3 (fun r2 => ?_)
  refine go_iload kk87_0.1.2.2.1 rfl ?_
  refine go_ibin kk87_0.1.2.2.2 ?_
  refine go_int kk87_0.2.1.1.1 1 rfl ?_
  refine go_ibin kk87_0.2.1.1.2 ?_
  refine go_int kk87_0.2.1.2.1 1 rfl ?_
  refine go_cmeq kk87_0.2.1.2.2 (inR_opI _ _ _) (inR_b (Or.inr rfl)) (fun c4 => ?_) (fun c5 => ?_)
  · refine go_int kk87_0.2.2.1.1 1 rfl ?_
    refine go_goto kk87_0.2.2.1.2 ?_
    exact go_bret kk87_0.2.2.2.2 hg (Or.inr rfl) ⟨Nat.zero_le _, Nat.zero_le _⟩ rfl
  · refine go_int kk87_0.2.2.2.1 0 rfl ?_
    exact go_bret kk87_0.2.2.2.2 hg (Or.inl rfl) ⟨Nat.zero_le _, Nat.zero_le _⟩ rfl
theorem tfM_readRefusal {Φ : ev_P} {d : Nat} (hd : 3 ≤ d) {g : gH} (hg : HR g) {v0 : Int} (hK0 : kd v0 = 7) : Go Φ pr_P fN 3 (fM_readRefusal g v0) d (pr_P 125) 0 (ev_loc (pr_P 125).1 [(sR v0)]) [] g 0 0 := by
  show Go Φ pr_P fN 3 (fM_readRefusal g v0) d pr_m125 0 [some (sR v0)] [] g 0 0
  unfold fM_readRefusal
  refine go_aload kk125_0.1.1.1.1.1.1 rfl ?_
  refine go_callN0 kk125_0.1.1.1.1.1.2 rfl rfl rfl ⟨by decide, _, rfl, hK0⟩ ⟨Nat.zero_le _, Nat.zero_le _⟩ (by omega) (tfM_advanceToken (by omega) hg hK0 ) (fun y1 g3 e4 => ?_)
  refine go_aload kk125_0.1.1.1.1.2.1 rfl ?_
  refine go_int kk125_0.1.1.1.1.2.2 0 rfl ?_
  refine go_int kk125_0.1.1.1.2.1.1 1 rfl ?_
  refine go_aload kk125_0.1.1.1.2.1.2 rfl ?_
  refine go_getR (bI := 0) kk125_0.1.1.1.2.2.1 e4 hK0 (by decide) rfl rfl (fun r5 => ?_)
  refine go_int kk125_0.1.1.1.2.2.2 0 rfl ?_
  refine go_ck (fun q7 => ?_)
  refine go_iald kk125_0.1.1.2.1.1.1 e4 q7 (fun r6 => ?_)
  refine go_int kk125_0.1.1.2.1.1.2 1 rfl ?_
  refine go_isub kk125_0.1.1.2.1.2.1 ?_
  refine go_callN3 kk125_0.1.1.2.1.2.2 rfl rfl rfl ⟨by decide, _, rfl, hK0⟩ ⟨Nat.zero_le _, Nat.zero_le _⟩ (by omega) (tfM_takes (by omega) e4 hK0  (inR_b (Or.inl rfl)) (inR_b (Or.inr rfl)) (inR_w32 _)) (fun y8 g10 r9 e11 => ?_)
  refine go_ifeq kk125_0.1.1.2.2.1.1 (inR_b r9) (fun c12 => ?_) (fun c13 => ?_)
  · refine go_int kk125_0.1.2.1.1.2.1 0 rfl ?_
    exact go_bret kk125_0.1.2.1.1.2.2 e11 (Or.inl rfl) ⟨Nat.zero_le _, Nat.zero_le _⟩ rfl
  · refine go_aload kk125_0.1.1.2.2.1.2 rfl ?_
    refine go_int kk125_0.1.1.2.2.2.1 0 rfl ?_
    refine go_int kk125_0.1.1.2.2.2.2 9 rfl ?_
    refine go_callN3 kk125_0.1.2.1.1.1.1 rfl rfl rfl ⟨by decide, _, rfl, hK0⟩ ⟨Nat.zero_le _, Nat.zero_le _⟩ (by omega) (tfM_isNumber (by omega) e11 hK0  (inR_b (Or.inl rfl)) (inR_of (by decide))) (fun y14 g16 r15 e17 => ?_)
    refine go_ifeq kk125_0.1.2.1.1.1.2 (inR_b r15) (fun c18 => ?_) (fun c19 => ?_)
    · refine go_int kk125_0.1.2.1.1.2.1 0 rfl ?_
      exact go_bret kk125_0.1.2.1.1.2.2 e17 (Or.inl rfl) ⟨Nat.zero_le _, Nat.zero_le _⟩ rfl
    · refine go_aload kk125_0.1.2.1.2.1.1 rfl ?_
      refine go_aload kk125_0.1.2.1.2.1.2 rfl ?_
      refine go_getR (bI := 20) kk125_0.1.2.1.2.2.1 e17 hK0 (by decide) rfl rfl (fun r20 => ?_)
      refine go_int kk125_0.1.2.1.2.2.2 0 rfl ?_
      refine go_ck (fun q22 => ?_)
      refine go_iald kk125_0.1.2.2.1.1.1 e17 q22 (fun r21 => ?_)
      refine go_aload kk125_0.1.2.2.1.1.2 rfl ?_
      refine go_getI (bI := 17) kk125_0.1.2.2.1.2.1 e17 hK0 (by decide) rfl rfl (fun r23 => ?_)
      refine go_callP3 kk125_0.1.2.2.1.2.2 rfl rfl rfl ⟨by decide, _, rfl, hK0⟩ ⟨Nat.zero_le _, Nat.zero_le _⟩ (by omega) (tfM_refusesGroup (by omega) e17 hK0  r21 r23) (fun y24 r25 => ?_)
      refine go_ifeq kk125_0.1.2.2.2.1.1 (inR_b r25) (fun c28 => ?_) (fun c29 => ?_)
      · refine go_aload kk125_0.2.1.1.1.2.1 rfl ?_
        refine go_int kk125_0.2.1.1.1.2.2 1 rfl ?_
        refine go_int kk125_0.2.1.1.2.1.1 0 rfl ?_
        refine go_int kk125_0.2.1.1.2.1.2 9 rfl ?_
        refine go_callN3 kk125_0.2.1.1.2.2.1 rfl rfl rfl ⟨by decide, _, rfl, hK0⟩ ⟨Nat.zero_le _, Nat.zero_le _⟩ (by omega) (tfM_takes (by omega) e17 hK0  (inR_b (Or.inr rfl)) (inR_b (Or.inl rfl)) (inR_of (by decide))) (fun y30 g32 r31 e33 => ?_)
        refine go_ifeq kk125_0.2.1.1.2.2.2 (inR_b r31) (fun c34 => ?_) (fun c35 => ?_)
        · refine go_int kk125_0.2.1.2.1.1.1 0 rfl ?_
          exact go_bret kk125_0.2.1.2.1.1.2 e33 (Or.inl rfl) ⟨Nat.zero_le _, Nat.zero_le _⟩ rfl
        · refine go_aload kk125_0.2.1.2.1.2.1 rfl ?_
          refine go_getR (bI := 0) kk125_0.2.1.2.1.2.2 e33 hK0 (by decide) rfl rfl (fun r36 => ?_)
          refine go_int kk125_0.2.1.2.2.1.1 340 rfl ?_
          refine go_aload kk125_0.2.1.2.2.1.2 rfl ?_
          refine go_getR (bI := 20) kk125_0.2.1.2.2.2 e33 hK0 (by decide) rfl rfl (fun r37 => ?_)
          refine go_int kk125_0.2.2.1.1.1.1 0 rfl ?_
          refine go_ck (fun q39 => ?_)
          refine go_iald kk125_0.2.2.1.1.1.2 e33 q39 (fun r38 => ?_)
          refine go_iadd kk125_0.2.2.1.1.2.1 ?_
          refine go_dup2 kk125_0.2.2.1.1.2.2 ?_
          refine go_ck (fun q41 => ?_)
          refine go_iald kk125_0.2.2.1.2.1.1 e33 q41 (fun r40 => ?_)
          refine go_int kk125_0.2.2.1.2.1.2 1 rfl ?_
          refine go_aload kk125_0.2.2.1.2.2.1 rfl ?_
          refine go_getR (bI := 20) kk125_0.2.2.1.2.2.2 e33 hK0 (by decide) rfl rfl (fun r42 => ?_)
          refine go_int kk125_0.2.2.2.1.1.1 1 rfl ?_
          refine go_ck (fun q44 => ?_)
          refine go_iald kk125_0.2.2.2.1.1.2 e33 q44 (fun r43 => ?_)
          refine go_ibin kk125_0.2.2.2.1.2.1 ?_
          refine go_ibin kk125_0.2.2.2.1.2.2 ?_
          refine go_ck (fun q45 => ?_)
          refine go_iast kk125_0.2.2.2.2.1.1 e33 q45 (inR_opI _ _ _) (fun g46 e47 => ?_)
          refine go_int kk125_0.2.2.2.2.1.2 1 rfl ?_
          exact go_bret kk125_0.2.2.2.2.2 e47 (Or.inr rfl) ⟨Nat.zero_le _, Nat.zero_le _⟩ rfl
      · refine go_aload kk125_0.1.2.2.2.1.2 rfl ?_
        refine go_int kk125_0.1.2.2.2.2 3 rfl ?_
        refine go_callN3 kk125_0.2.1.1.1.1.1 rfl rfl rfl ⟨by decide, _, rfl, hK0⟩ ⟨Nat.zero_le _, Nat.zero_le _⟩ (by omega) (tfM_failsAt (by omega) e17 hK0  (inR_of (by decide))) (fun y48 g50 r49 e51 => ?_)
        exact go_bret kk125_0.2.1.1.1.1.2 e51 r49 ⟨Nat.zero_le _, Nat.zero_le _⟩ rfl
theorem tfM_readStatement {Φ : ev_P} {d : Nat} (hd : 4 ≤ d) {g : gH} (hg : HR g) {v0 : Int} (hK0 : kd v0 = 7) : Go Φ pr_P fN 3 (fM_readStatement g v0) d (pr_P 126) 0 (ev_loc (pr_P 126).1 [(sR v0)]) [] g 0 0 := by
  show Go Φ pr_P fN 3 (fM_readStatement g v0) d pr_m126 0 [some (sR v0)] [] g 0 0
  unfold fM_readStatement
  refine go_aload kk126_0.1.1.1.1.1.1 rfl ?_
  refine go_ldcs kk126_0.1.1.1.1.1.2 (by decide) (x := 2000013) rfl ?_
  refine go_callP3 kk126_0.1.1.1.1.2.1 rfl rfl rfl ⟨by decide, _, rfl, hK0⟩ ⟨Nat.zero_le _, Nat.zero_le _⟩ (by omega) (tfM_isWord (by omega) hg hK0 ) (fun y1 r2 => ?_)
  refine go_ifeq kk126_0.1.1.1.1.2.2 (inR_b r2) (fun c5 => ?_) (fun c6 => ?_)
  · refine go_aload kk126_0.1.1.1.2.2.2 rfl ?_
    refine go_ldcs kk126_0.1.1.2.1.1.1 (by decide) (x := 2000014) rfl ?_
    refine go_callP3 kk126_0.1.1.2.1.1.2 rfl rfl rfl ⟨by decide, _, rfl, hK0⟩ ⟨Nat.zero_le _, Nat.zero_le _⟩ (by omega) (tfM_isWord (by omega) hg hK0 ) (fun y7 r8 => ?_)
    refine go_ifeq kk126_0.1.1.2.1.2.1 (inR_b r8) (fun c11 => ?_) (fun c12 => ?_)
    · refine go_aload kk126_0.1.1.2.2.2 rfl ?_
      refine go_ldcs kk126_0.1.2.1.1.1.1 (by decide) (x := 2000015) rfl ?_
      refine go_callP3 kk126_0.1.2.1.1.1.2 rfl rfl rfl ⟨by decide, _, rfl, hK0⟩ ⟨Nat.zero_le _, Nat.zero_le _⟩ (by omega) (tfM_isWord (by omega) hg hK0 ) (fun y13 r14 => ?_)
      refine go_ifeq kk126_0.1.2.1.1.2.1 (inR_b r14) (fun c17 => ?_) (fun c18 => ?_)
      · refine go_aload kk126_0.1.2.1.2.2.1 rfl ?_
        refine go_ldcs kk126_0.1.2.1.2.2.2 (by decide) (x := 2000020) rfl ?_
        refine go_callP3 kk126_0.1.2.2.1.1.1 rfl rfl rfl ⟨by decide, _, rfl, hK0⟩ ⟨Nat.zero_le _, Nat.zero_le _⟩ (by omega) (tfM_isWord (by omega) hg hK0 ) (fun y19 r20 => ?_)
        refine go_ifeq kk126_0.1.2.2.1.1.2 (inR_b r20) (fun c23 => ?_) (fun c24 => ?_)
        · refine go_aload kk126_0.1.2.2.2.1.2 rfl ?_
          refine go_ldcs kk126_0.1.2.2.2.2 (by decide) (x := 2000016) rfl ?_
          refine go_callP3 kk126_0.2.1.1.1.1.1 rfl rfl rfl ⟨by decide, _, rfl, hK0⟩ ⟨Nat.zero_le _, Nat.zero_le _⟩ (by omega) (tfM_isWord (by omega) hg hK0 ) (fun y25 r26 => ?_)
          refine go_ifeq kk126_0.2.1.1.1.1.2 (inR_b r26) (fun c29 => ?_) (fun c30 => ?_)
          · refine go_aload kk126_0.2.1.1.2.1.2 rfl ?_
            refine go_ldcs kk126_0.2.1.1.2.2.1 (by decide) (x := 2000017) rfl ?_
            refine go_callP3 kk126_0.2.1.1.2.2.2 rfl rfl rfl ⟨by decide, _, rfl, hK0⟩ ⟨Nat.zero_le _, Nat.zero_le _⟩ (by omega) (tfM_isWord (by omega) hg hK0 ) (fun y31 r32 => ?_)
            refine go_ifeq kk126_0.2.1.2.1.1.1 (inR_b r32) (fun c35 => ?_) (fun c36 => ?_)
            · refine go_aload kk126_0.2.1.2.2.1.1 rfl ?_
              refine go_ldcs kk126_0.2.1.2.2.1.2 (by decide) (x := 2000018) rfl ?_
              refine go_callP3 kk126_0.2.1.2.2.2 rfl rfl rfl ⟨by decide, _, rfl, hK0⟩ ⟨Nat.zero_le _, Nat.zero_le _⟩ (by omega) (tfM_isWord (by omega) hg hK0 ) (fun y37 r38 => ?_)
              refine go_ifeq kk126_0.2.2.1.1.1.1 (inR_b r38) (fun c41 => ?_) (fun c42 => ?_)
              · refine go_aload kk126_0.2.2.1.2.1.1 rfl ?_
                refine go_ldcs kk126_0.2.2.1.2.1.2 (by decide) (x := 2000019) rfl ?_
                refine go_callP3 kk126_0.2.2.1.2.2.1 rfl rfl rfl ⟨by decide, _, rfl, hK0⟩ ⟨Nat.zero_le _, Nat.zero_le _⟩ (by omega) (tfM_isWord (by omega) hg hK0 ) (fun y43 r44 => ?_)
                refine go_ifeq kk126_0.2.2.1.2.2.2 (inR_b r44) (fun c47 => ?_) (fun c48 => ?_)
                · refine go_aload kk126_0.2.2.2.1.2.2 rfl ?_
                  refine go_int kk126_0.2.2.2.2.1.1 1 rfl ?_
                  refine go_callN3 kk126_0.2.2.2.2.1.2 rfl rfl rfl ⟨by decide, _, rfl, hK0⟩ ⟨Nat.zero_le _, Nat.zero_le _⟩ (by omega) (tfM_failsAt (by omega) hg hK0  (inR_b (Or.inr rfl))) (fun y49 g51 r50 e52 => ?_)
                  exact go_bret kk126_0.2.2.2.2.2 e52 r50 ⟨Nat.zero_le _, Nat.zero_le _⟩ rfl
                · refine go_aload kk126_0.2.2.2.1.1.1 rfl ?_
                  refine go_callN3 kk126_0.2.2.2.1.1.2 rfl rfl rfl ⟨by decide, _, rfl, hK0⟩ ⟨Nat.zero_le _, Nat.zero_le _⟩ (by omega) (tfM_readRefusal (by omega) hg hK0 ) (fun y53 g55 r54 e56 => ?_)
                  refine go_goto kk126_0.2.2.2.1.2.1 ?_
                  exact go_bret kk126_0.2.2.2.2.2 e56 r54 ⟨Nat.zero_le _, Nat.zero_le _⟩ rfl
              · refine go_aload kk126_0.2.2.1.1.1.2 rfl ?_
                refine go_callN3 kk126_0.2.2.1.1.2.1 rfl rfl rfl ⟨by decide, _, rfl, hK0⟩ ⟨Nat.zero_le _, Nat.zero_le _⟩ (by omega) (tfM_readDuty (by omega) hg hK0 ) (fun y57 g59 r58 e60 => ?_)
                exact go_bret kk126_0.2.2.1.1.2.2 e60 r58 ⟨Nat.zero_le _, Nat.zero_le _⟩ rfl
            · refine go_aload kk126_0.2.1.2.1.1.2 rfl ?_
              refine go_callN3 kk126_0.2.1.2.1.2.1 rfl rfl rfl ⟨by decide, _, rfl, hK0⟩ ⟨Nat.zero_le _, Nat.zero_le _⟩ (by omega) (tfM_readHeir (by omega) hg hK0 ) (fun y61 g63 r62 e64 => ?_)
              exact go_bret kk126_0.2.1.2.1.2.2 e64 r62 ⟨Nat.zero_le _, Nat.zero_le _⟩ rfl
          · refine go_aload kk126_0.2.1.1.1.2.1 rfl ?_
            refine go_callN3 kk126_0.2.1.1.1.2.2 rfl rfl rfl ⟨by decide, _, rfl, hK0⟩ ⟨Nat.zero_le _, Nat.zero_le _⟩ (by omega) (tfM_readProcess (by omega) hg hK0 ) (fun y65 g67 r66 e68 => ?_)
            exact go_bret kk126_0.2.1.1.2.1.1 e68 r66 ⟨Nat.zero_le _, Nat.zero_le _⟩ rfl
        · refine go_aload kk126_0.1.2.2.1.2.1 rfl ?_
          refine go_callN3 kk126_0.1.2.2.1.2.2 rfl rfl rfl ⟨by decide, _, rfl, hK0⟩ ⟨Nat.zero_le _, Nat.zero_le _⟩ (by omega) (tfM_readWill (by omega) hg hK0 ) (fun y69 g71 r70 e72 => ?_)
          exact go_bret kk126_0.1.2.2.2.1.1 e72 r70 ⟨Nat.zero_le _, Nat.zero_le _⟩ rfl
      · refine go_aload kk126_0.1.2.1.1.2.2 rfl ?_
        refine go_callN3 kk126_0.1.2.1.2.1.1 rfl rfl rfl ⟨by decide, _, rfl, hK0⟩ ⟨Nat.zero_le _, Nat.zero_le _⟩ (by omega) (tfM_readRoot (by omega) hg hK0 ) (fun y73 g75 r74 e76 => ?_)
        exact go_bret kk126_0.1.2.1.2.1.2 e76 r74 ⟨Nat.zero_le _, Nat.zero_le _⟩ rfl
    · refine go_aload kk126_0.1.1.2.1.2.2 rfl ?_
      refine go_callN3 kk126_0.1.1.2.2.1.1 rfl rfl rfl ⟨by decide, _, rfl, hK0⟩ ⟨Nat.zero_le _, Nat.zero_le _⟩ (by omega) (tfM_readDeep (by omega) hg hK0 ) (fun y77 g79 r78 e80 => ?_)
      exact go_bret kk126_0.1.1.2.2.1.2 e80 r78 ⟨Nat.zero_le _, Nat.zero_le _⟩ rfl
  · refine go_aload kk126_0.1.1.1.2.1.1 rfl ?_
    refine go_callN3 kk126_0.1.1.1.2.1.2 rfl rfl rfl ⟨by decide, _, rfl, hK0⟩ ⟨Nat.zero_le _, Nat.zero_le _⟩ (by omega) (tfM_readOrder (by omega) hg hK0 ) (fun y81 g83 r82 e84 => ?_)
    exact go_bret kk126_0.1.1.1.2.2.1 e84 r82 ⟨Nat.zero_le _, Nat.zero_le _⟩ rfl
/-! ===== the evaluator comes to what the functions tell (own work, by program: wip/p2/dec.py) ===== -/
theorem tbM_readText_0 {Φ : ev_P} {d : Nat} (hd : 5 ≤ d) {v0 : Int} (hK0 : kd v0 = 7) {X0 : gH → Option (Int × gH)} (HX0 : ∀ (g : gH) (hg : HR g), Go Φ pr_P fN 3 (X0 g) d pr_m127 0 [some (sR v0)] [] g 0 0) : ∀ (g : gH) (hg : HR g), Go Φ pr_P fN 3 (bM_readText_0 v0 X0 g) d pr_m127 0 [some (sR v0)] [] g 0 0 := by
  intro g hg
  unfold bM_readText_0
  refine go_aload kk127_0.1.1.1.1.1 rfl ?_
  refine go_getI (bI := 18) kk127_0.1.1.1.1.2 hg hK0 (by decide) rfl rfl (fun r1 => ?_)
  refine go_ifeq kk127_0.1.1.1.2 r1 (fun c2 => ?_) (fun c3 => ?_)
  · refine go_int kk127_0.2.2.2.1 1 rfl ?_
    exact go_bret kk127_0.2.2.2.2 hg (Or.inr rfl) ⟨Nat.zero_le _, Nat.zero_le _⟩ rfl
  · refine go_aload kk127_0.1.1.2.1.1 rfl ?_
    refine go_callN3 kk127_0.1.1.2.1.2 rfl rfl rfl ⟨by decide, _, rfl, hK0⟩ ⟨Nat.zero_le _, Nat.zero_le _⟩ (by omega) (tfM_readStatement (by omega) hg hK0 ) (fun y4 g6 r5 e7 => ?_)
    refine go_ifeq kk127_0.1.1.2.2 (inR_b r5) (fun c8 => ?_) (fun c9 => ?_)
    · refine go_int kk127_0.1.2.1.1.1 0 rfl ?_
      exact go_bret kk127_0.1.2.1.1.2 e7 (Or.inl rfl) ⟨Nat.zero_le _, Nat.zero_le _⟩ rfl
    · refine go_aload kk127_0.1.2.1.2 rfl ?_
      refine go_getI (bI := 18) kk127_0.1.2.2.1 e7 hK0 (by decide) rfl rfl (fun r10 => ?_)
      refine go_int kk127_0.1.2.2.2 3 rfl ?_
      refine go_cmeq kk127_0.2.1.1.1.1 r10 (inR_of (by decide)) (fun c11 => ?_) (fun c12 => ?_)
      · refine go_aload kk127_0.2.2.1.1.1 rfl ?_
        refine go_callN0 kk127_0.2.2.1.1.2 rfl rfl rfl ⟨by decide, _, rfl, hK0⟩ ⟨Nat.zero_le _, Nat.zero_le _⟩ (by omega) (tfM_advanceToken (by omega) e7 hK0 ) (fun y13 g15 e16 => ?_)
        refine go_goto kk127_0.2.2.1.2 ?_
        exact HX0 g15 e16
      · refine go_aload kk127_0.2.1.1.1.2 rfl ?_
        refine go_int kk127_0.2.1.1.2 1 rfl ?_
        refine go_callN3 kk127_0.2.1.2.1 rfl rfl rfl ⟨by decide, _, rfl, hK0⟩ ⟨Nat.zero_le _, Nat.zero_le _⟩ (by omega) (tfM_failsAt (by omega) e7 hK0  (inR_b (Or.inr rfl))) (fun y17 g19 r18 e20 => ?_)
        exact go_bret kk127_0.2.1.2.2 e20 r18 ⟨Nat.zero_le _, Nat.zero_le _⟩ rfl
theorem tlM_readText_0 {Φ : ev_P} {d : Nat} (hd : 5 ≤ d) {v0 : Int} (hK0 : kd v0 = 7) : ∀ n : Nat, ∀ (g : gH) (hg : HR g), Go Φ pr_P fN 3 (lM_readText_0 v0 n g) d pr_m127 0 [some (sR v0)] [] g 0 0 := by
  intro n
  induction n with
  | zero => intros; exact go_none
  | succ n ih => exact tbM_readText_0 hd hK0 ih
theorem tfM_readText {Φ : ev_P} {d : Nat} (hd : 5 ≤ d) {g : gH} (hg : HR g) {v0 : Int} (hK0 : kd v0 = 7) : Go Φ pr_P fN 3 (fM_readText g v0) d (pr_P 127) 0 (ev_loc (pr_P 127).1 [(sR v0)]) [] g 0 0 := by
  show Go Φ pr_P fN 3 (fM_readText g v0) d pr_m127 0 [some (sR v0)] [] g 0 0
  unfold fM_readText
  exact tlM_readText_0 hd hK0 fu g hg
theorem tfM_loadTree {Φ : ev_P} {d : Nat} (hd : 6 ≤ d) {g : gH} (hg : HR g) {v0 : Int} (hK0 : kd v0 = 7) : Go Φ pr_P fN 1 (fM_loadTree g v0) d (pr_P 128) 0 (ev_loc (pr_P 128).1 [(sR v0)]) [] g 0 0 := by
  show Go Φ pr_P fN 1 (fM_loadTree g v0) d pr_m128 0 [some (sR v0), none] [] g 0 0
  unfold fM_loadTree
  refine go_aload kk128_0.1.1.1.1.1.1 rfl ?_
  refine go_int kk128_0.1.1.1.1.1.2 0 rfl ?_
  refine go_putI (bI := 8) kk128_0.1.1.1.1.2.1 hg hK0 (by decide) rfl rfl (inR_b (Or.inl rfl)) (fun g1 e2 => ?_)
  refine go_aload kk128_0.1.1.1.1.2.2 rfl ?_
  refine go_getR (bI := 0) kk128_0.1.1.1.2.1.1 e2 hK0 (by decide) rfl rfl (fun r3 => ?_)
  refine go_int kk128_0.1.1.1.2.1.2 0 rfl ?_
  refine go_aload kk128_0.1.1.1.2.2.1 rfl ?_
  refine go_getR (bI := 1) kk128_0.1.1.1.2.2.2 e2 hK0 (by decide) rfl rfl (fun r4 => ?_)
  refine go_int kk128_0.1.1.2.1.1.1 0 rfl ?_
  refine go_int kk128_0.1.1.2.1.1.2 780 rfl ?_
  refine go_callN0 kk128_0.1.1.2.1.2.1 rfl rfl rfl trivial ⟨Nat.zero_le _, Nat.zero_le _⟩ (by omega) (tfM_copies (by omega) e2  r3 (inR_b (Or.inl rfl)) r4 (inR_b (Or.inl rfl)) (inR_of (by decide))) (fun y5 g7 e8 => ?_)
  refine go_aload kk128_0.1.1.2.1.2.2 rfl ?_
  refine go_callN0 kk128_0.1.1.2.2.1.1 rfl rfl rfl ⟨by decide, _, rfl, hK0⟩ ⟨Nat.zero_le _, Nat.zero_le _⟩ (by omega) (tfM_clear (by omega) e8 hK0 ) (fun y9 g11 e12 => ?_)
  refine go_aload kk128_0.1.1.2.2.1.2 rfl ?_
  refine go_int kk128_0.1.1.2.2.2.1 0 rfl ?_
  refine go_putI (bI := 13) kk128_0.1.1.2.2.2.2 e12 hK0 (by decide) rfl rfl (inR_b (Or.inl rfl)) (fun g13 e14 => ?_)
  refine go_aload kk128_0.1.2.1.1.1.1 rfl ?_
  refine go_int kk128_0.1.2.1.1.1.2 (-1) rfl ?_
  refine go_putI (bI := 14) kk128_0.1.2.1.1.2.1 e14 hK0 (by decide) rfl rfl (inR_of (by decide)) (fun g15 e16 => ?_)
  refine go_aload kk128_0.1.2.1.1.2.2 rfl ?_
  refine go_int kk128_0.1.2.1.2.1.1 0 rfl ?_
  refine go_putI (bI := 15) kk128_0.1.2.1.2.1.2 e16 hK0 (by decide) rfl rfl (inR_b (Or.inl rfl)) (fun g17 e18 => ?_)
  refine go_aload kk128_0.1.2.1.2.2.1 rfl ?_
  refine go_int kk128_0.1.2.1.2.2.2 0 rfl ?_
  refine go_putI (bI := 19) kk128_0.1.2.2.1.1.1 e18 hK0 (by decide) rfl rfl (inR_b (Or.inl rfl)) (fun g19 e20 => ?_)
  refine go_aload kk128_0.1.2.2.1.1.2 rfl ?_
  refine go_callN0 kk128_0.1.2.2.1.2.1 rfl rfl rfl ⟨by decide, _, rfl, hK0⟩ ⟨Nat.zero_le _, Nat.zero_le _⟩ (by omega) (tfM_advanceToken (by omega) e20 hK0 ) (fun y21 g23 e24 => ?_)
  refine go_aload kk128_0.1.2.2.1.2.2 rfl ?_
  refine go_callN3 kk128_0.1.2.2.2.1.1 rfl rfl rfl ⟨by decide, _, rfl, hK0⟩ ⟨Nat.zero_le _, Nat.zero_le _⟩ (by omega) (tfM_readText (by omega) e24 hK0 ) (fun y25 g27 r26 e28 => ?_)
  refine go_istore kk128_0.1.2.2.2.1.2 rfl (loc2 := [some (sR v0), some (sI y25)]) rfl ?_
  refine go_aload kk128_0.1.2.2.2.2.1 rfl ?_
  refine go_int kk128_0.1.2.2.2.2.2 0 rfl ?_
  refine go_putI (bI := 10) kk128_0.2.1.1.1.1.1 e28 hK0 (by decide) rfl rfl (inR_b (Or.inl rfl)) (fun g29 e30 => ?_)
  refine go_aload kk128_0.2.1.1.1.1.2 rfl ?_
  refine go_aload kk128_0.2.1.1.1.2.1 rfl ?_
  refine go_getI (bI := 13) kk128_0.2.1.1.1.2.2 e30 hK0 (by decide) rfl rfl (fun r31 => ?_)
  refine go_putI (bI := 11) kk128_0.2.1.1.2.1.1 e30 hK0 (by decide) rfl rfl r31 (fun g32 e33 => ?_)
  refine go_aload kk128_0.2.1.1.2.1.2 rfl ?_
  refine go_aload kk128_0.2.1.1.2.2.1 rfl ?_
  refine go_getI (bI := 14) kk128_0.2.1.1.2.2.2 e33 hK0 (by decide) rfl rfl (fun r34 => ?_)
  refine go_putI (bI := 12) kk128_0.2.1.2.1.1.1 e33 hK0 (by decide) rfl rfl r34 (fun g35 e36 => ?_)
  refine go_iload kk128_0.2.1.2.1.1.2 rfl ?_
  refine go_ifeq kk128_0.2.1.2.1.2.1 (inR_b r26) (fun c37 => ?_) (fun c38 => ?_)
  · refine go_aload kk128_0.2.1.2.1.2.2 rfl ?_
    refine go_getR (bI := 1) kk128_0.2.1.2.2.1.1 e36 hK0 (by decide) rfl rfl (fun r39 => ?_)
    refine go_int kk128_0.2.1.2.2.1.2 0 rfl ?_
    refine go_aload kk128_0.2.1.2.2.2.1 rfl ?_
    refine go_getR (bI := 0) kk128_0.2.1.2.2.2.2 e36 hK0 (by decide) rfl rfl (fun r40 => ?_)
    refine go_int kk128_0.2.2.1.1.1.1 0 rfl ?_
    refine go_int kk128_0.2.2.1.1.1.2 780 rfl ?_
    refine go_callN0 kk128_0.2.2.1.1.2.1 rfl rfl rfl trivial ⟨Nat.zero_le _, Nat.zero_le _⟩ (by omega) (tfM_copies (by omega) e36  r39 (inR_b (Or.inl rfl)) r40 (inR_b (Or.inl rfl)) (inR_of (by decide))) (fun y41 g43 e44 => ?_)
    refine go_int kk128_0.2.2.1.1.2.2 (-1) rfl ?_
    exact go_iret kk128_0.2.2.1.2.1.1 e44 (inR_of (by decide)) ⟨Nat.zero_le _, Nat.zero_le _⟩ rfl
  · refine go_aload kk128_0.2.2.1.2.1.2 rfl ?_
    refine go_int kk128_0.2.2.1.2.2.1 0 rfl ?_
    refine go_putI (bI := 6) kk128_0.2.2.1.2.2.2 e36 hK0 (by decide) rfl rfl (inR_b (Or.inl rfl)) (fun g45 e46 => ?_)
    refine go_aload kk128_0.2.2.2.1.1.1 rfl ?_
    refine go_int kk128_0.2.2.2.1.1.2 0 rfl ?_
    refine go_putB (bI := 7) kk128_0.2.2.2.1.2.1 e46 hK0 (by decide) rfl rfl (Or.inl rfl) (fun g47 e48 => ?_)
    refine go_aload kk128_0.2.2.2.1.2.2 rfl ?_
    refine go_getR (bI := 0) kk128_0.2.2.2.2.1.1 e48 hK0 (by decide) rfl rfl (fun r49 => ?_)
    refine go_int kk128_0.2.2.2.2.1.2 0 rfl ?_
    refine go_ck (fun q51 => ?_)
    refine go_iald kk128_0.2.2.2.2.2.1 e48 q51 (fun r50 => ?_)
    exact go_iret kk128_0.2.2.2.2.2.2 e48 r50 ⟨Nat.zero_le _, Nat.zero_le _⟩ rfl
theorem tfM_errorCode {Φ : ev_P} {d : Nat} (hd : 0 ≤ d) {g : gH} (hg : HR g) {v0 : Int} (hK0 : kd v0 = 7) : Go Φ pr_P fN 1 (fM_errorCode g v0) d (pr_P 129) 0 (ev_loc (pr_P 129).1 [(sR v0)]) [] g 0 0 := by
  show Go Φ pr_P fN 1 (fM_errorCode g v0) d pr_m129 0 [some (sR v0)] [] g 0 0
  unfold fM_errorCode
  refine go_aload kk129_0.1.1.1 rfl ?_
  refine go_int kk129_0.1.1.2 0 rfl ?_
  refine go_putI (bI := 8) kk129_0.1.2 hg hK0 (by decide) rfl rfl (inR_b (Or.inl rfl)) (fun g1 e2 => ?_)
  refine go_aload kk129_0.2.1.1 rfl ?_
  refine go_getI (bI := 11) kk129_0.2.1.2 e2 hK0 (by decide) rfl rfl (fun r3 => ?_)
  exact go_iret kk129_0.2.2 e2 r3 ⟨Nat.zero_le _, Nat.zero_le _⟩ rfl
theorem tfM_errorOffset {Φ : ev_P} {d : Nat} (hd : 0 ≤ d) {g : gH} (hg : HR g) {v0 : Int} (hK0 : kd v0 = 7) : Go Φ pr_P fN 1 (fM_errorOffset g v0) d (pr_P 130) 0 (ev_loc (pr_P 130).1 [(sR v0)]) [] g 0 0 := by
  show Go Φ pr_P fN 1 (fM_errorOffset g v0) d pr_m130 0 [some (sR v0)] [] g 0 0
  unfold fM_errorOffset
  refine go_aload kk130_0.1.1.1 rfl ?_
  refine go_int kk130_0.1.1.2 0 rfl ?_
  refine go_putI (bI := 8) kk130_0.1.2 hg hK0 (by decide) rfl rfl (inR_b (Or.inl rfl)) (fun g1 e2 => ?_)
  refine go_aload kk130_0.2.1.1 rfl ?_
  refine go_getI (bI := 12) kk130_0.2.1.2 e2 hK0 (by decide) rfl rfl (fun r3 => ?_)
  exact go_iret kk130_0.2.2 e2 r3 ⟨Nat.zero_le _, Nat.zero_le _⟩ rfl
theorem tfM_fails {Φ : ev_P} {d : Nat} (hd : 0 ≤ d) {g : gH} (hg : HR g) {v0 v1 v2 : Int} (hK0 : kd v0 = 7) (h1 : B01 v1) (h2 : InR v2) : Go Φ pr_P fN 3 (fM_fails g v0 v1 v2) d (pr_P 76) 0 (ev_loc (pr_P 76).1 [(sR v0), (sI v1), (sI v2)]) [] g 0 0 := by
  show Go Φ pr_P fN 3 (fM_fails g v0 v1 v2) d pr_m76 0 [some (sR v0), some (sI v1), some (sI v2)] [] g 0 0
  unfold fM_fails
  refine go_iload kk76_0.1.1.1 rfl ?_
  refine go_ifeq kk76_0.1.1.2 (inR_b h1) (fun c1 => ?_) (fun c2 => ?_)
  · refine go_iload kk76_0.2.1.2 rfl ?_
    exact go_bret kk76_0.2.2 hg h1 ⟨Nat.zero_le _, Nat.zero_le _⟩ rfl
  · refine go_aload kk76_0.1.2.1 rfl ?_
    refine go_iload kk76_0.1.2.2 rfl ?_
    refine go_putI (bI := 8) kk76_0.2.1.1 hg hK0 (by decide) rfl rfl h2 (fun g3 e4 => ?_)
    refine go_iload kk76_0.2.1.2 rfl ?_
    exact go_bret kk76_0.2.2 e4 h1 ⟨Nat.zero_le _, Nat.zero_le _⟩ rfl
theorem tbM_inState_4 {Φ : ev_P} {d : Nat} (hd : 0 ≤ d) {g : gH} (hg : HR g) {v0 v1 : Int} (hK0 : kd v0 = 7) (h1 : InR v1) {X4 : Int → Int → Option Int} (HX4 : ∀ (v2 : Int) (h2 : InR v2) (v3 : Int) (h3 : InR v3), Go Φ pr_P (fP g) 1 (X4 v2 v3) d pr_m131 4 [some (sR v0), some (sI v1), some (sI v2), some (sI v3)] [] g 0 0) : ∀ (v2 : Int) (h2 : InR v2) (v3 : Int) (h3 : InR v3), Go Φ pr_P (fP g) 1 (bM_inState_4 g v0 v1 X4 v2 v3) d pr_m131 4 [some (sR v0), some (sI v1), some (sI v2), some (sI v3)] [] g 0 0 := by
  intro v2 h2 v3 h3
  unfold bM_inState_4
  refine go_iload kk131_0.1.1.2.1.1 rfl ?_
  refine go_aload kk131_0.1.1.2.1.2 rfl ?_
  refine go_getR (bI := 0) kk131_0.1.1.2.2 hg hK0 (by decide) rfl rfl (fun r1 => ?_)
  refine go_int kk131_0.1.2.1.1.1 0 rfl ?_
  refine go_ck (fun q3 => ?_)
  refine go_iald kk131_0.1.2.1.1.2 hg q3 (fun r2 => ?_)
  refine go_cmlt kk131_0.1.2.1.2.1 h3 r2 (fun c4 => ?_) (fun c5 => ?_)
  · refine go_iload kk131_0.1.2.1.2.2 rfl ?_
    refine go_aload kk131_0.1.2.2.1.1 rfl ?_
    refine go_getR (bI := 0) kk131_0.1.2.2.1.2 hg hK0 (by decide) rfl rfl (fun r6 => ?_)
    refine go_int kk131_0.1.2.2.2 140 rfl ?_
    refine go_iload kk131_0.2.1.1.1.1 rfl ?_
    refine go_iadd kk131_0.2.1.1.1.2 ?_
    refine go_ck (fun q8 => ?_)
    refine go_iald kk131_0.2.1.1.2.1 hg q8 (fun r7 => ?_)
    refine go_iload kk131_0.2.1.1.2.2 rfl ?_
    refine go_cmeq kk131_0.2.1.2.1.1 r7 h1 (fun c9 => ?_) (fun c10 => ?_)
    · refine go_int kk131_0.2.1.2.1.2 1 rfl ?_
      refine go_goto kk131_0.2.1.2.2 ?_
      refine go_iadd kk131_0.2.2.1.1.2 ?_
      refine go_istore kk131_0.2.2.1.2.1 rfl (loc2 := [some (sR v0), some (sI v1), some (sI (w32 (v2 + 1))), some (sI v3)]) rfl ?_
      refine go_iinc kk131_0.2.2.1.2.2 rfl rfl 1 rfl (loc2 := [some (sR v0), some (sI v1), some (sI (w32 (v2 + 1))), some (sI (w32 (v3 + 1)))]) rfl ?_
      refine go_goto kk131_0.2.2.2.1.1 ?_
      exact HX4 (w32 (v2 + 1)) (inR_w32 _) (w32 (v3 + 1)) (inR_w32 _)
    · refine go_int kk131_0.2.2.1.1.1 0 rfl ?_
      refine go_iadd kk131_0.2.2.1.1.2 ?_
      refine go_istore kk131_0.2.2.1.2.1 rfl (loc2 := [some (sR v0), some (sI v1), some (sI (w32 (v2 + 0))), some (sI v3)]) rfl ?_
      refine go_iinc kk131_0.2.2.1.2.2 rfl rfl 1 rfl (loc2 := [some (sR v0), some (sI v1), some (sI (w32 (v2 + 0))), some (sI (w32 (v3 + 1)))]) rfl ?_
      refine go_goto kk131_0.2.2.2.1.1 ?_
      exact HX4 (w32 (v2 + 0)) (inR_w32 _) (w32 (v3 + 1)) (inR_w32 _)
  · refine go_iload kk131_0.2.2.2.1.2 rfl ?_
    exact go_iret kk131_0.2.2.2.2 hg h2 ⟨Nat.zero_le _, Nat.zero_le _⟩ rfl
theorem tlM_inState_4 {Φ : ev_P} {d : Nat} (hd : 0 ≤ d) {g : gH} (hg : HR g) {v0 v1 : Int} (hK0 : kd v0 = 7) (h1 : InR v1) : ∀ n : Nat, ∀ (v2 : Int) (h2 : InR v2) (v3 : Int) (h3 : InR v3), Go Φ pr_P (fP g) 1 (lM_inState_4 g v0 v1 n v2 v3) d pr_m131 4 [some (sR v0), some (sI v1), some (sI v2), some (sI v3)] [] g 0 0 := by
  intro n
  induction n with
  | zero => intros; exact go_none
  | succ n ih => exact tbM_inState_4 hd hg hK0 h1 ih
theorem tfM_inState {Φ : ev_P} {d : Nat} (hd : 0 ≤ d) {g : gH} (hg : HR g) {v0 v1 : Int} (hK0 : kd v0 = 7) (h1 : InR v1) : Go Φ pr_P (fP g) 1 (fM_inState g v0 v1) d (pr_P 131) 0 (ev_loc (pr_P 131).1 [(sR v0), (sI v1)]) [] g 0 0 := by
  show Go Φ pr_P (fP g) 1 (fM_inState g v0 v1) d pr_m131 0 [some (sR v0), some (sI v1), none, none] [] g 0 0
  unfold fM_inState
  refine go_int kk131_0.1.1.1.1.1 0 rfl ?_
  refine go_istore kk131_0.1.1.1.1.2 rfl (loc2 := [some (sR v0), some (sI v1), some (sI 0), none]) rfl ?_
  refine go_int kk131_0.1.1.1.2.1 0 rfl ?_
  refine go_istore kk131_0.1.1.1.2.2 rfl (loc2 := [some (sR v0), some (sI v1), some (sI 0), some (sI 0)]) rfl ?_
  exact tlM_inState_4 hd hg hK0 h1 fu 0 (inR_b (Or.inl rfl)) 0 (inR_b (Or.inl rfl))
theorem tbM_dutiesOf_4 {Φ : ev_P} {d : Nat} (hd : 0 ≤ d) {g : gH} (hg : HR g) {v0 v1 : Int} (hK0 : kd v0 = 7) (h1 : InR v1) {X4 : Int → Int → Option Int} (HX4 : ∀ (v2 : Int) (h2 : InR v2) (v3 : Int) (h3 : InR v3), Go Φ pr_P (fP g) 1 (X4 v2 v3) d pr_m132 4 [some (sR v0), some (sI v1), some (sI v2), some (sI v3)] [] g 0 0) : ∀ (v2 : Int) (h2 : InR v2) (v3 : Int) (h3 : InR v3), Go Φ pr_P (fP g) 1 (bM_dutiesOf_4 g v0 v1 X4 v2 v3) d pr_m132 4 [some (sR v0), some (sI v1), some (sI v2), some (sI v3)] [] g 0 0 := by
  intro v2 h2 v3 h3
  unfold bM_dutiesOf_4
  refine go_iload kk132_0.1.1.2.1.1 rfl ?_
  refine go_int kk132_0.1.1.2.1.2 8 rfl ?_
  refine go_cmlt kk132_0.1.1.2.2 h3 (inR_of (by decide)) (fun c1 => ?_) (fun c2 => ?_)
  · refine go_iload kk132_0.1.2.1.1.1 rfl ?_
    refine go_aload kk132_0.1.2.1.1.2 rfl ?_
    refine go_getR (bI := 0) kk132_0.1.2.1.2.1 hg hK0 (by decide) rfl rfl (fun r3 => ?_)
    refine go_int kk132_0.1.2.1.2.2 11 rfl ?_
    refine go_iload kk132_0.1.2.2.1.1 rfl ?_
    refine go_iadd kk132_0.1.2.2.1.2 ?_
    refine go_ck (fun q5 => ?_)
    refine go_iald kk132_0.1.2.2.2 hg q5 (fun r4 => ?_)
    refine go_iload kk132_0.2.1.1.1.1 rfl ?_
    refine go_cmeq kk132_0.2.1.1.1.2 r4 h1 (fun c6 => ?_) (fun c7 => ?_)
    · refine go_int kk132_0.2.1.1.2.1 1 rfl ?_
      refine go_iload kk132_0.2.1.1.2.2 rfl ?_
      refine go_ibin kk132_0.2.1.2.1.1 ?_
      refine go_goto kk132_0.2.1.2.1.2 ?_
      refine go_ibin kk132_0.2.2.1.1.1 ?_
      refine go_istore kk132_0.2.2.1.1.2 rfl (loc2 := [some (sR v0), some (sI v1), some (sI (opI 2 v2 (opI 4 1 v3))), some (sI v3)]) rfl ?_
      refine go_iinc kk132_0.2.2.1.2 rfl rfl 1 rfl (loc2 := [some (sR v0), some (sI v1), some (sI (opI 2 v2 (opI 4 1 v3))), some (sI (w32 (v3 + 1)))]) rfl ?_
      refine go_goto kk132_0.2.2.2.1.1 ?_
      exact HX4 (opI 2 v2 (opI 4 1 v3)) (inR_opI _ _ _) (w32 (v3 + 1)) (inR_w32 _)
    · refine go_int kk132_0.2.1.2.2 0 rfl ?_
      refine go_ibin kk132_0.2.2.1.1.1 ?_
      refine go_istore kk132_0.2.2.1.1.2 rfl (loc2 := [some (sR v0), some (sI v1), some (sI (opI 2 v2 0)), some (sI v3)]) rfl ?_
      refine go_iinc kk132_0.2.2.1.2 rfl rfl 1 rfl (loc2 := [some (sR v0), some (sI v1), some (sI (opI 2 v2 0)), some (sI (w32 (v3 + 1)))]) rfl ?_
      refine go_goto kk132_0.2.2.2.1.1 ?_
      exact HX4 (opI 2 v2 0) (inR_opI _ _ _) (w32 (v3 + 1)) (inR_w32 _)
  · refine go_iload kk132_0.2.2.2.1.2 rfl ?_
    exact go_iret kk132_0.2.2.2.2 hg h2 ⟨Nat.zero_le _, Nat.zero_le _⟩ rfl
theorem tlM_dutiesOf_4 {Φ : ev_P} {d : Nat} (hd : 0 ≤ d) {g : gH} (hg : HR g) {v0 v1 : Int} (hK0 : kd v0 = 7) (h1 : InR v1) : ∀ n : Nat, ∀ (v2 : Int) (h2 : InR v2) (v3 : Int) (h3 : InR v3), Go Φ pr_P (fP g) 1 (lM_dutiesOf_4 g v0 v1 n v2 v3) d pr_m132 4 [some (sR v0), some (sI v1), some (sI v2), some (sI v3)] [] g 0 0 := by
  intro n
  induction n with
  | zero => intros; exact go_none
  | succ n ih => exact tbM_dutiesOf_4 hd hg hK0 h1 ih
theorem tfM_dutiesOf {Φ : ev_P} {d : Nat} (hd : 0 ≤ d) {g : gH} (hg : HR g) {v0 v1 : Int} (hK0 : kd v0 = 7) (h1 : InR v1) : Go Φ pr_P (fP g) 1 (fM_dutiesOf g v0 v1) d (pr_P 132) 0 (ev_loc (pr_P 132).1 [(sR v0), (sI v1)]) [] g 0 0 := by
  show Go Φ pr_P (fP g) 1 (fM_dutiesOf g v0 v1) d pr_m132 0 [some (sR v0), some (sI v1), none, none] [] g 0 0
  unfold fM_dutiesOf
  refine go_int kk132_0.1.1.1.1.1 0 rfl ?_
  refine go_istore kk132_0.1.1.1.1.2 rfl (loc2 := [some (sR v0), some (sI v1), some (sI 0), none]) rfl ?_
  refine go_int kk132_0.1.1.1.2.1 0 rfl ?_
  refine go_istore kk132_0.1.1.1.2.2 rfl (loc2 := [some (sR v0), some (sI v1), some (sI 0), some (sI 0)]) rfl ?_
  exact tlM_dutiesOf_4 hd hg hK0 h1 fu 0 (inR_b (Or.inl rfl)) 0 (inR_b (Or.inl rfl))
theorem tfJ_bitCount {Φ : ev_P} {d : Nat} (hd : 0 ≤ d) {g : gH} (hg : HR g) {v0 : Int} (h0 : InR v0) : Go Φ pr_P (fP g) 1 (fJ_bitCount g v0) d (pr_P 353) 0 (ev_loc (pr_P 353).1 [(sI v0)]) [] g 0 0 := by
  show Go Φ pr_P (fP g) 1 (fJ_bitCount g v0) d pr_m353 0 [some (sI v0)] [] g 0 0
  unfold fJ_bitCount
  refine go_iload kk353_0.1.1.1.1.1.1 rfl ?_
  refine go_iload kk353_0.1.1.1.1.1.2 rfl ?_
  refine go_int kk353_0.1.1.1.1.2 1 rfl ?_
  refine go_ibin kk353_0.1.1.1.2.1.1 ?_
  refine go_int kk353_0.1.1.1.2.1.2 1431655765 rfl ?_
  refine go_ibin kk353_0.1.1.1.2.2 ?_
  refine go_isub kk353_0.1.1.2.1.1.1 ?_
  refine go_istore kk353_0.1.1.2.1.1.2 rfl (loc2 := [some (sI (w32 (v0 - (opI 1 (opI 6 v0 1) 1431655765))))]) rfl ?_
  refine go_iload kk353_0.1.1.2.1.2 rfl ?_
  refine go_int kk353_0.1.1.2.2.1 858993459 rfl ?_
  refine go_ibin kk353_0.1.1.2.2.2 ?_
  refine go_iload kk353_0.1.2.1.1.1.1 rfl ?_
  refine go_int kk353_0.1.2.1.1.1.2 2 rfl ?_
  refine go_ibin kk353_0.1.2.1.1.2 ?_
  refine go_int kk353_0.1.2.1.2.1 858993459 rfl ?_
  refine go_ibin kk353_0.1.2.1.2.2 ?_
  refine go_iadd kk353_0.1.2.2.1.1.1 ?_
  refine go_istore kk353_0.1.2.2.1.1.2 rfl (loc2 := [some (sI (w32 ((opI 1 (w32 (v0 - (opI 1 (opI 6 v0 1) 1431655765))) 858993459) + (opI 1 (opI 6 (w32 (v0 - (opI 1 (opI 6 v0 1) 1431655765))) 2) 858993459))))]) rfl ?_
  refine go_iload kk353_0.1.2.2.1.2 rfl ?_
  refine go_iload kk353_0.1.2.2.2.1 rfl ?_
  refine go_int kk353_0.1.2.2.2.2 4 rfl ?_
  refine go_ibin kk353_0.2.1.1.1.1.1 ?_
  refine go_iadd kk353_0.2.1.1.1.1.2 ?_
  refine go_int kk353_0.2.1.1.1.2 252645135 rfl ?_
  refine go_ibin kk353_0.2.1.1.2.1.1 ?_
  refine go_istore kk353_0.2.1.1.2.1.2 rfl (loc2 := [some (sI (opI 1 (w32 ((w32 ((opI 1 (w32 (v0 - (opI 1 (opI 6 v0 1) 1431655765))) 858993459) + (opI 1 (opI 6 (w32 (v0 - (opI 1 (opI 6 v0 1) 1431655765))) 2) 858993459))) + (opI 6 (w32 ((opI 1 (w32 (v0 - (opI 1 (opI 6 v0 1) 1431655765))) 858993459) + (opI 1 (opI 6 (w32 (v0 - (opI 1 (opI 6 v0 1) 1431655765))) 2) 858993459))) 4))) 252645135))]) rfl ?_
  refine go_iload kk353_0.2.1.1.2.2 rfl ?_
  refine go_iload kk353_0.2.1.2.1.1.1 rfl ?_
  refine go_int kk353_0.2.1.2.1.1.2 8 rfl ?_
  refine go_ibin kk353_0.2.1.2.1.2 ?_
  refine go_iadd kk353_0.2.1.2.2.1 ?_
  refine go_istore kk353_0.2.1.2.2.2 rfl (loc2 := [some (sI (w32 ((opI 1 (w32 ((w32 ((opI 1 (w32 (v0 - (opI 1 (opI 6 v0 1) 1431655765))) 858993459) + (opI 1 (opI 6 (w32 (v0 - (opI 1 (opI 6 v0 1) 1431655765))) 2) 858993459))) + (opI 6 (w32 ((opI 1 (w32 (v0 - (opI 1 (opI 6 v0 1) 1431655765))) 858993459) + (opI 1 (opI 6 (w32 (v0 - (opI 1 (opI 6 v0 1) 1431655765))) 2) 858993459))) 4))) 252645135) + (opI 6 (opI 1 (w32 ((w32 ((opI 1 (w32 (v0 - (opI 1 (opI 6 v0 1) 1431655765))) 858993459) + (opI 1 (opI 6 (w32 (v0 - (opI 1 (opI 6 v0 1) 1431655765))) 2) 858993459))) + (opI 6 (w32 ((opI 1 (w32 (v0 - (opI 1 (opI 6 v0 1) 1431655765))) 858993459) + (opI 1 (opI 6 (w32 (v0 - (opI 1 (opI 6 v0 1) 1431655765))) 2) 858993459))) 4))) 252645135) 8))))]) rfl ?_
  refine go_iload kk353_0.2.2.1.1.1.1 rfl ?_
  refine go_iload kk353_0.2.2.1.1.1.2 rfl ?_
  refine go_int kk353_0.2.2.1.1.2 16 rfl ?_
  refine go_ibin kk353_0.2.2.1.2.1 ?_
  refine go_iadd kk353_0.2.2.1.2.2 ?_
  refine go_istore kk353_0.2.2.2.1.1.1 rfl (loc2 := [some (sI (w32 ((w32 ((opI 1 (w32 ((w32 ((opI 1 (w32 (v0 - (opI 1 (opI 6 v0 1) 1431655765))) 858993459) + (opI 1 (opI 6 (w32 (v0 - (opI 1 (opI 6 v0 1) 1431655765))) 2) 858993459))) + (opI 6 (w32 ((opI 1 (w32 (v0 - (opI 1 (opI 6 v0 1) 1431655765))) 858993459) + (opI 1 (opI 6 (w32 (v0 - (opI 1 (opI 6 v0 1) 1431655765))) 2) 858993459))) 4))) 252645135) + (opI 6 (opI 1 (w32 ((w32 ((opI 1 (w32 (v0 - (opI 1 (opI 6 v0 1) 1431655765))) 858993459) + (opI 1 (opI 6 (w32 (v0 - (opI 1 (opI 6 v0 1) 1431655765))) 2) 858993459))) + (opI 6 (w32 ((opI 1 (w32 (v0 - (opI 1 (opI 6 v0 1) 1431655765))) 858993459) + (opI 1 (opI 6 (w32 (v0 - (opI 1 (opI 6 v0 1) 1431655765))) 2) 858993459))) 4))) 252645135) 8))) + (opI 6 (w32 ((opI 1 (w32 ((w32 ((opI 1 (w32 (v0 - (opI 1 (opI 6 v0 1) 1431655765))) 858993459) + (opI 1 (opI 6 (w32 (v0 - (opI 1 (opI 6 v0 1) 1431655765))) 2) 858993459))) + (opI 6 (w32 ((opI 1 (w32 (v0 - (opI 1 (opI 6 v0 1) 1431655765))) 858993459) + (opI 1 (opI 6 (w32 (v0 - (opI 1 (opI 6 v0 1) 1431655765))) 2) 858993459))) 4))) 252645135) + (opI 6 (opI 1 (w32 ((w32 ((opI 1 (w32 (v0 - (opI 1 (opI 6 v0 1) 1431655765))) 858993459) + (opI 1 (opI 6 (w32 (v0 - (opI 1 (opI 6 v0 1) 1431655765))) 2) 858993459))) + (opI 6 (w32 ((opI 1 (w32 (v0 - (opI 1 (opI 6 v0 1) 1431655765))) 858993459) + (opI 1 (opI 6 (w32 (v0 - (opI 1 (opI 6 v0 1) 1431655765))) 2) 858993459))) 4))) 252645135) 8))) 16))))]) rfl ?_
  refine go_iload kk353_0.2.2.2.1.1.2 rfl ?_
  refine go_int kk353_0.2.2.2.1.2 63 rfl ?_
  refine go_ibin kk353_0.2.2.2.2.1 ?_
  exact go_iret kk353_0.2.2.2.2.2 hg (inR_opI _ _ _) ⟨Nat.zero_le _, Nat.zero_le _⟩ rfl
theorem tjM_count_21 {Φ : ev_P} {d : Nat} (hd : 1 ≤ d) {g : gH} (hg : HR g) {v0 v1 : Int} (hK0 : kd v0 = 7) (h1 : InR v1) {s0 s1 : Int} (z0 : RfR s0) (z1 : B01 s1) : Go Φ pr_P fN 1 (jM_count_21 g v0 v1 s0 s1 ) d pr_m134 21 [some (sR v0), some (sI v1)] [(sI s1), (sR s0)] g 0 0 := by
  unfold jM_count_21
  refine go_int kk134_0.1.1.2.2.2 1 rfl ?_
  refine go_ck (fun q9 => ?_)
  refine go_callN3 kk134_0.1.2.1.1.1.1 rfl rfl rfl ⟨by decide, _, rfl, q9⟩ ⟨Nat.zero_le _, Nat.zero_le _⟩ (by omega) (tfM_fails (by omega) hg q9  z1 (inR_b (Or.inr rfl))) (fun y10 g12 r11 e13 => ?_)
  refine go_ifeq kk134_0.1.2.1.1.1.2 (inR_b r11) (fun c14 => ?_) (fun c15 => ?_)
  · refine go_iload kk134_0.1.2.1.2.1.1 rfl ?_
    refine go_ite (fun c16 => ?_) (fun c17 => ?_)
    · refine go_swh (lo := 0) (hi := 10) (i := 0) kk134_0.1.2.1.2.1.2 rfl rfl (by omega) (by omega) rfl ?_
      refine go_aload kk134_0.1.2.1.2.2 rfl ?_
      refine go_getR (bI := 0) kk134_0.1.2.2.1.1.1 e13 hK0 (by decide) rfl rfl (fun r18 => ?_)
      refine go_int kk134_0.1.2.2.1.1.2 0 rfl ?_
      refine go_ck (fun q20 => ?_)
      refine go_iald kk134_0.1.2.2.1.2 e13 q20 (fun r19 => ?_)
      exact go_iret kk134_0.1.2.2.2.1.1 e13 r19 ⟨Nat.zero_le _, Nat.zero_le _⟩ rfl
    refine go_ite (fun c21 => ?_) (fun c22 => ?_)
    · refine go_swh (lo := 0) (hi := 10) (i := 1) kk134_0.1.2.1.2.1.2 rfl rfl (by omega) (by omega) rfl ?_
      refine go_aload kk134_0.1.2.2.2.1.2 rfl ?_
      refine go_iload kk134_0.1.2.2.2.2 rfl ?_
      refine go_int kk134_0.2.1.1.1.1.1 1 rfl ?_
      refine go_isub kk134_0.2.1.1.1.1.2 ?_
      refine go_callP1 kk134_0.2.1.1.1.2.1 rfl rfl rfl ⟨by decide, _, rfl, hK0⟩ ⟨Nat.zero_le _, Nat.zero_le _⟩ (by omega) (tfM_inState (by omega) e13 hK0  (inR_w32 _)) (fun y23 r24 => ?_)
      exact go_iret kk134_0.2.1.1.1.2.2 e13 r24 ⟨Nat.zero_le _, Nat.zero_le _⟩ rfl
    refine go_ite (fun c27 => ?_) (fun c28 => ?_)
    · refine go_swh (lo := 0) (hi := 10) (i := 2) kk134_0.1.2.1.2.1.2 rfl rfl (by omega) (by omega) rfl ?_
      refine go_aload kk134_0.1.2.2.2.1.2 rfl ?_
      refine go_iload kk134_0.1.2.2.2.2 rfl ?_
      refine go_int kk134_0.2.1.1.1.1.1 1 rfl ?_
      refine go_isub kk134_0.2.1.1.1.1.2 ?_
      refine go_callP1 kk134_0.2.1.1.1.2.1 rfl rfl rfl ⟨by decide, _, rfl, hK0⟩ ⟨Nat.zero_le _, Nat.zero_le _⟩ (by omega) (tfM_inState (by omega) e13 hK0  (inR_w32 _)) (fun y29 r30 => ?_)
      exact go_iret kk134_0.2.1.1.1.2.2 e13 r30 ⟨Nat.zero_le _, Nat.zero_le _⟩ rfl
    refine go_ite (fun c33 => ?_) (fun c34 => ?_)
    · refine go_swh (lo := 0) (hi := 10) (i := 3) kk134_0.1.2.1.2.1.2 rfl rfl (by omega) (by omega) rfl ?_
      refine go_aload kk134_0.1.2.2.2.1.2 rfl ?_
      refine go_iload kk134_0.1.2.2.2.2 rfl ?_
      refine go_int kk134_0.2.1.1.1.1.1 1 rfl ?_
      refine go_isub kk134_0.2.1.1.1.1.2 ?_
      refine go_callP1 kk134_0.2.1.1.1.2.1 rfl rfl rfl ⟨by decide, _, rfl, hK0⟩ ⟨Nat.zero_le _, Nat.zero_le _⟩ (by omega) (tfM_inState (by omega) e13 hK0  (inR_w32 _)) (fun y35 r36 => ?_)
      exact go_iret kk134_0.2.1.1.1.2.2 e13 r36 ⟨Nat.zero_le _, Nat.zero_le _⟩ rfl
    refine go_ite (fun c39 => ?_) (fun c40 => ?_)
    · refine go_swh (lo := 0) (hi := 10) (i := 4) kk134_0.1.2.1.2.1.2 rfl rfl (by omega) (by omega) rfl ?_
      refine go_aload kk134_0.2.2.1.2.1.1 rfl ?_
      refine go_getR (bI := 0) kk134_0.2.2.1.2.1.2 e13 hK0 (by decide) rfl rfl (fun r41 => ?_)
      refine go_int kk134_0.2.2.1.2.2 1 rfl ?_
      refine go_iload kk134_0.2.2.2.1.1.1 rfl ?_
      refine go_iadd kk134_0.2.2.2.1.1.2 ?_
      refine go_int kk134_0.2.2.2.1.2 4 rfl ?_
      refine go_isub kk134_0.2.2.2.2.1.1 ?_
      refine go_ck (fun q43 => ?_)
      refine go_iald kk134_0.2.2.2.2.1.2 e13 q43 (fun r42 => ?_)
      exact go_iret kk134_0.2.2.2.2.2 e13 r42 ⟨Nat.zero_le _, Nat.zero_le _⟩ rfl
    refine go_ite (fun c44 => ?_) (fun c45 => ?_)
    · refine go_swh (lo := 0) (hi := 10) (i := 5) kk134_0.1.2.1.2.1.2 rfl rfl (by omega) (by omega) rfl ?_
      refine go_aload kk134_0.2.2.1.2.1.1 rfl ?_
      refine go_getR (bI := 0) kk134_0.2.2.1.2.1.2 e13 hK0 (by decide) rfl rfl (fun r46 => ?_)
      refine go_int kk134_0.2.2.1.2.2 1 rfl ?_
      refine go_iload kk134_0.2.2.2.1.1.1 rfl ?_
      refine go_iadd kk134_0.2.2.2.1.1.2 ?_
      refine go_int kk134_0.2.2.2.1.2 4 rfl ?_
      refine go_isub kk134_0.2.2.2.2.1.1 ?_
      refine go_ck (fun q48 => ?_)
      refine go_iald kk134_0.2.2.2.2.1.2 e13 q48 (fun r47 => ?_)
      exact go_iret kk134_0.2.2.2.2.2 e13 r47 ⟨Nat.zero_le _, Nat.zero_le _⟩ rfl
    refine go_ite (fun c49 => ?_) (fun c50 => ?_)
    · refine go_swh (lo := 0) (hi := 10) (i := 6) kk134_0.1.2.1.2.1.2 rfl rfl (by omega) (by omega) rfl ?_
      refine go_aload kk134_0.2.2.1.2.1.1 rfl ?_
      refine go_getR (bI := 0) kk134_0.2.2.1.2.1.2 e13 hK0 (by decide) rfl rfl (fun r51 => ?_)
      refine go_int kk134_0.2.2.1.2.2 1 rfl ?_
      refine go_iload kk134_0.2.2.2.1.1.1 rfl ?_
      refine go_iadd kk134_0.2.2.2.1.1.2 ?_
      refine go_int kk134_0.2.2.2.1.2 4 rfl ?_
      refine go_isub kk134_0.2.2.2.2.1.1 ?_
      refine go_ck (fun q53 => ?_)
      refine go_iald kk134_0.2.2.2.2.1.2 e13 q53 (fun r52 => ?_)
      exact go_iret kk134_0.2.2.2.2.2 e13 r52 ⟨Nat.zero_le _, Nat.zero_le _⟩ rfl
    refine go_ite (fun c54 => ?_) (fun c55 => ?_)
    · refine go_swh (lo := 0) (hi := 10) (i := 7) kk134_0.1.2.1.2.1.2 rfl rfl (by omega) (by omega) rfl ?_
      refine go_aload kk134_0.2.2.1.2.1.1 rfl ?_
      refine go_getR (bI := 0) kk134_0.2.2.1.2.1.2 e13 hK0 (by decide) rfl rfl (fun r56 => ?_)
      refine go_int kk134_0.2.2.1.2.2 1 rfl ?_
      refine go_iload kk134_0.2.2.2.1.1.1 rfl ?_
      refine go_iadd kk134_0.2.2.2.1.1.2 ?_
      refine go_int kk134_0.2.2.2.1.2 4 rfl ?_
      refine go_isub kk134_0.2.2.2.2.1.1 ?_
      refine go_ck (fun q58 => ?_)
      refine go_iald kk134_0.2.2.2.2.1.2 e13 q58 (fun r57 => ?_)
      exact go_iret kk134_0.2.2.2.2.2 e13 r57 ⟨Nat.zero_le _, Nat.zero_le _⟩ rfl
    refine go_ite (fun c59 => ?_) (fun c60 => ?_)
    · refine go_swh (lo := 0) (hi := 10) (i := 8) kk134_0.1.2.1.2.1.2 rfl rfl (by omega) (by omega) rfl ?_
      refine go_aload kk134_0.2.1.1.2.1.1 rfl ?_
      refine go_int kk134_0.2.1.1.2.1.2 0 rfl ?_
      refine go_callP1 kk134_0.2.1.1.2.2 rfl rfl rfl ⟨by decide, _, rfl, hK0⟩ ⟨Nat.zero_le _, Nat.zero_le _⟩ (by omega) (tfM_dutiesOf (by omega) e13 hK0  (inR_b (Or.inl rfl))) (fun y61 r62 => ?_)
      refine go_callP1 kk134_0.2.1.2.1.1.1 rfl rfl rfl trivial ⟨Nat.zero_le _, Nat.zero_le _⟩ (by omega) (tfJ_bitCount (by omega) e13  r62) (fun y65 r66 => ?_)
      exact go_iret kk134_0.2.1.2.1.1.2 e13 r66 ⟨Nat.zero_le _, Nat.zero_le _⟩ rfl
    refine go_ite (fun c69 => ?_) (fun c70 => ?_)
    · refine go_swh (lo := 0) (hi := 10) (i := 9) kk134_0.1.2.1.2.1.2 rfl rfl (by omega) (by omega) rfl ?_
      refine go_aload kk134_0.2.1.2.1.2 rfl ?_
      refine go_getI (bI := 6) kk134_0.2.1.2.2.1.1 e13 hK0 (by decide) rfl rfl (fun r71 => ?_)
      exact go_iret kk134_0.2.1.2.2.1.2 e13 r71 ⟨Nat.zero_le _, Nat.zero_le _⟩ rfl
    refine go_ite (fun c72 => ?_) (fun c73 => ?_)
    · refine go_swh (lo := 0) (hi := 10) (i := 10) kk134_0.1.2.1.2.1.2 rfl rfl (by omega) (by omega) rfl ?_
      refine go_aload kk134_0.2.1.2.2.2 rfl ?_
      refine go_getR (bI := 0) kk134_0.2.2.1.1.1.1 e13 hK0 (by decide) rfl rfl (fun r74 => ?_)
      refine go_int kk134_0.2.2.1.1.1.2 59 rfl ?_
      refine go_ck (fun q76 => ?_)
      refine go_iald kk134_0.2.2.1.1.2.1 e13 q76 (fun r75 => ?_)
      exact go_iret kk134_0.2.2.1.1.2.2 e13 r75 ⟨Nat.zero_le _, Nat.zero_le _⟩ rfl
    refine go_swd (lo := 0) (hi := 10) kk134_0.1.2.1.2.1.2 rfl rfl h1 (by omega) (by omega) ?_
    refine go_aload kk134_0.2.2.1.2.1.1 rfl ?_
    refine go_getR (bI := 0) kk134_0.2.2.1.2.1.2 e13 hK0 (by decide) rfl rfl (fun r77 => ?_)
    refine go_int kk134_0.2.2.1.2.2 1 rfl ?_
    refine go_iload kk134_0.2.2.2.1.1.1 rfl ?_
    refine go_iadd kk134_0.2.2.2.1.1.2 ?_
    refine go_int kk134_0.2.2.2.1.2 4 rfl ?_
    refine go_isub kk134_0.2.2.2.2.1.1 ?_
    refine go_ck (fun q79 => ?_)
    refine go_iald kk134_0.2.2.2.2.1.2 e13 q79 (fun r78 => ?_)
    exact go_iret kk134_0.2.2.2.2.2 e13 r78 ⟨Nat.zero_le _, Nat.zero_le _⟩ rfl
  · refine go_int kk134_0.1.2.1.1.2.1 0 rfl ?_
    exact go_iret kk134_0.1.2.1.1.2.2 e13 (inR_b (Or.inl rfl)) ⟨Nat.zero_le _, Nat.zero_le _⟩ rfl
theorem tfM_count {Φ : ev_P} {d : Nat} (hd : 1 ≤ d) {g : gH} (hg : HR g) {v0 v1 : Int} (hK0 : kd v0 = 7) (h1 : InR v1) : Go Φ pr_P fN 1 (fM_count g v0 v1) d (pr_P 134) 0 (ev_loc (pr_P 134).1 [(sR v0), (sI v1)]) [] g 0 0 := by
  show Go Φ pr_P fN 1 (fM_count g v0 v1) d pr_m134 0 [some (sR v0), some (sI v1)] [] g 0 0
  unfold fM_count
  refine go_aload kk134_0.1.1.1.1.1.1 rfl ?_
  refine go_int kk134_0.1.1.1.1.1.2 0 rfl ?_
  refine go_putI (bI := 8) kk134_0.1.1.1.1.2.1 hg hK0 (by decide) rfl rfl (inR_b (Or.inl rfl)) (fun g1 e2 => ?_)
  refine go_aload kk134_0.1.1.1.1.2.2 rfl ?_
  refine go_iload kk134_0.1.1.1.2.1.1 rfl ?_
  refine go_int kk134_0.1.1.1.2.1.2 0 rfl ?_
  refine go_int kk134_0.1.1.1.2.2 10 rfl ?_
  refine go_callP3 kk134_0.1.1.2.1.1.1 rfl rfl rfl trivial ⟨Nat.zero_le _, Nat.zero_le _⟩ (by omega) (tfM_inRange (by omega) e2  h1 (inR_b (Or.inl rfl)) (inR_of (by decide))) (fun y3 r4 => ?_)
  refine go_ifeq kk134_0.1.1.2.1.1.2 (inR_b r4) (fun c7 => ?_) (fun c8 => ?_)
  · refine go_int kk134_0.1.1.2.1.2 1 rfl ?_
    refine go_goto kk134_0.1.1.2.2.1.1 ?_
    exact tjM_count_21 hd e2 hK0 h1 (rfR_kd hK0 (by decide)) (Or.inr rfl)
  · refine go_int kk134_0.1.1.2.2.1.2 0 rfl ?_
    exact tjM_count_21 hd e2 hK0 h1 (rfR_kd hK0 (by decide)) (Or.inl rfl)
theorem tbM_willsOf_4 {Φ : ev_P} {d : Nat} (hd : 0 ≤ d) {g : gH} (hg : HR g) {v0 v1 : Int} (hK0 : kd v0 = 7) (h1 : InR v1) {X4 : Int → Int → Option Int} (HX4 : ∀ (v2 : Int) (h2 : InR v2) (v3 : Int) (h3 : InR v3), Go Φ pr_P (fP g) 1 (X4 v2 v3) d pr_m133 4 [some (sR v0), some (sI v1), some (sI v2), some (sI v3)] [] g 0 0) : ∀ (v2 : Int) (h2 : InR v2) (v3 : Int) (h3 : InR v3), Go Φ pr_P (fP g) 1 (bM_willsOf_4 g v0 v1 X4 v2 v3) d pr_m133 4 [some (sR v0), some (sI v1), some (sI v2), some (sI v3)] [] g 0 0 := by
  intro v2 h2 v3 h3
  unfold bM_willsOf_4
  refine go_iload kk133_0.1.1.2.1.1 rfl ?_
  refine go_int kk133_0.1.1.2.1.2 8 rfl ?_
  refine go_cmlt kk133_0.1.1.2.2.1 h3 (inR_of (by decide)) (fun c1 => ?_) (fun c2 => ?_)
  · refine go_iload kk133_0.1.1.2.2.2 rfl ?_
    refine go_aload kk133_0.1.2.1.1.1 rfl ?_
    refine go_getR (bI := 0) kk133_0.1.2.1.1.2 hg hK0 (by decide) rfl rfl (fun r3 => ?_)
    refine go_int kk133_0.1.2.1.2.1 460 rfl ?_
    refine go_int kk133_0.1.2.1.2.2 8 rfl ?_
    refine go_iload kk133_0.1.2.2.1.1 rfl ?_
    refine go_ibin kk133_0.1.2.2.1.2 ?_
    refine go_iadd kk133_0.1.2.2.2.1 ?_
    refine go_iload kk133_0.1.2.2.2.2 rfl ?_
    refine go_iadd kk133_0.2.1.1.1.1 ?_
    refine go_ck (fun q5 => ?_)
    refine go_iald kk133_0.2.1.1.1.2 hg q5 (fun r4 => ?_)
    refine go_int kk133_0.2.1.1.2.1 (-1) rfl ?_
    refine go_cmeq kk133_0.2.1.1.2.2 r4 (inR_of (by decide)) (fun c6 => ?_) (fun c7 => ?_)
    · refine go_int kk133_0.2.2.1.1.1 0 rfl ?_
      refine go_ibin kk133_0.2.2.1.1.2 ?_
      refine go_istore kk133_0.2.2.1.2.1 rfl (loc2 := [some (sR v0), some (sI v1), some (sI (opI 2 v2 0)), some (sI v3)]) rfl ?_
      refine go_iinc kk133_0.2.2.1.2.2 rfl rfl 1 rfl (loc2 := [some (sR v0), some (sI v1), some (sI (opI 2 v2 0)), some (sI (w32 (v3 + 1)))]) rfl ?_
      refine go_goto kk133_0.2.2.2.1.1 ?_
      exact HX4 (opI 2 v2 0) (inR_opI _ _ _) (w32 (v3 + 1)) (inR_w32 _)
    · refine go_int kk133_0.2.1.2.1.1 1 rfl ?_
      refine go_iload kk133_0.2.1.2.1.2 rfl ?_
      refine go_ibin kk133_0.2.1.2.2.1 ?_
      refine go_goto kk133_0.2.1.2.2.2 ?_
      refine go_ibin kk133_0.2.2.1.1.2 ?_
      refine go_istore kk133_0.2.2.1.2.1 rfl (loc2 := [some (sR v0), some (sI v1), some (sI (opI 2 v2 (opI 4 1 v3))), some (sI v3)]) rfl ?_
      refine go_iinc kk133_0.2.2.1.2.2 rfl rfl 1 rfl (loc2 := [some (sR v0), some (sI v1), some (sI (opI 2 v2 (opI 4 1 v3))), some (sI (w32 (v3 + 1)))]) rfl ?_
      refine go_goto kk133_0.2.2.2.1.1 ?_
      exact HX4 (opI 2 v2 (opI 4 1 v3)) (inR_opI _ _ _) (w32 (v3 + 1)) (inR_w32 _)
  · refine go_iload kk133_0.2.2.2.1.2 rfl ?_
    exact go_iret kk133_0.2.2.2.2 hg h2 ⟨Nat.zero_le _, Nat.zero_le _⟩ rfl
theorem tlM_willsOf_4 {Φ : ev_P} {d : Nat} (hd : 0 ≤ d) {g : gH} (hg : HR g) {v0 v1 : Int} (hK0 : kd v0 = 7) (h1 : InR v1) : ∀ n : Nat, ∀ (v2 : Int) (h2 : InR v2) (v3 : Int) (h3 : InR v3), Go Φ pr_P (fP g) 1 (lM_willsOf_4 g v0 v1 n v2 v3) d pr_m133 4 [some (sR v0), some (sI v1), some (sI v2), some (sI v3)] [] g 0 0 := by
  intro n
  induction n with
  | zero => intros; exact go_none
  | succ n ih => exact tbM_willsOf_4 hd hg hK0 h1 ih
theorem tfM_willsOf {Φ : ev_P} {d : Nat} (hd : 0 ≤ d) {g : gH} (hg : HR g) {v0 v1 : Int} (hK0 : kd v0 = 7) (h1 : InR v1) : Go Φ pr_P (fP g) 1 (fM_willsOf g v0 v1) d (pr_P 133) 0 (ev_loc (pr_P 133).1 [(sR v0), (sI v1)]) [] g 0 0 := by
  show Go Φ pr_P (fP g) 1 (fM_willsOf g v0 v1) d pr_m133 0 [some (sR v0), some (sI v1), none, none] [] g 0 0
  unfold fM_willsOf
  refine go_int kk133_0.1.1.1.1.1 0 rfl ?_
  refine go_istore kk133_0.1.1.1.1.2 rfl (loc2 := [some (sR v0), some (sI v1), some (sI 0), none]) rfl ?_
  refine go_int kk133_0.1.1.1.2.1 0 rfl ?_
  refine go_istore kk133_0.1.1.1.2.2 rfl (loc2 := [some (sR v0), some (sI v1), some (sI 0), some (sI 0)]) rfl ?_
  exact tlM_willsOf_4 hd hg hK0 h1 fu 0 (inR_b (Or.inl rfl)) 0 (inR_b (Or.inl rfl))
theorem tfM_noProcess {Φ : ev_P} {d : Nat} (hd : 1 ≤ d) {g : gH} (hg : HR g) {v0 v1 : Int} (hK0 : kd v0 = 7) (h1 : InR v1) : Go Φ pr_P fN 3 (fM_noProcess g v0 v1) d (pr_P 135) 0 (ev_loc (pr_P 135).1 [(sR v0), (sI v1)]) [] g 0 0 := by
  show Go Φ pr_P fN 3 (fM_noProcess g v0 v1) d pr_m135 0 [some (sR v0), some (sI v1)] [] g 0 0
  unfold fM_noProcess
  refine go_aload kk135_0.1.1.1.1.1 rfl ?_
  refine go_int kk135_0.1.1.1.1.2 0 rfl ?_
  refine go_putI (bI := 8) kk135_0.1.1.1.2 hg hK0 (by decide) rfl rfl (inR_b (Or.inl rfl)) (fun g1 e2 => ?_)
  refine go_aload kk135_0.1.1.2.1 rfl ?_
  refine go_iload kk135_0.1.1.2.2 rfl ?_
  refine go_int kk135_0.1.2.1.1.1 0 rfl ?_
  refine go_aload kk135_0.1.2.1.1.2 rfl ?_
  refine go_getR (bI := 0) kk135_0.1.2.1.2 e2 hK0 (by decide) rfl rfl (fun r3 => ?_)
  refine go_int kk135_0.1.2.2.1 0 rfl ?_
  refine go_ck (fun q5 => ?_)
  refine go_iald kk135_0.1.2.2.2 e2 q5 (fun r4 => ?_)
  refine go_int kk135_0.2.1.1.1.1 1 rfl ?_
  refine go_isub kk135_0.2.1.1.1.2 ?_
  refine go_callP3 kk135_0.2.1.1.2 rfl rfl rfl trivial ⟨Nat.zero_le _, Nat.zero_le _⟩ (by omega) (tfM_inRange (by omega) e2  h1 (inR_b (Or.inl rfl)) (inR_w32 _)) (fun y6 r7 => ?_)
  refine go_ifeq kk135_0.2.1.2.1 (inR_b r7) (fun c10 => ?_) (fun c11 => ?_)
  · refine go_int kk135_0.2.1.2.2 1 rfl ?_
    refine go_goto kk135_0.2.2.1.1.1 ?_
    refine go_int kk135_0.2.2.1.2 1 rfl ?_
    refine go_callN3 kk135_0.2.2.2.1 rfl rfl rfl ⟨by decide, _, rfl, hK0⟩ ⟨Nat.zero_le _, Nat.zero_le _⟩ (by omega) (tfM_fails (by omega) e2 hK0  (Or.inr rfl) (inR_b (Or.inr rfl))) (fun y12 g14 r13 e15 => ?_)
    exact go_bret kk135_0.2.2.2.2 e15 r13 ⟨Nat.zero_le _, Nat.zero_le _⟩ rfl
  · refine go_int kk135_0.2.2.1.1.2 0 rfl ?_
    refine go_int kk135_0.2.2.1.2 1 rfl ?_
    refine go_callN3 kk135_0.2.2.2.1 rfl rfl rfl ⟨by decide, _, rfl, hK0⟩ ⟨Nat.zero_le _, Nat.zero_le _⟩ (by omega) (tfM_fails (by omega) e2 hK0  (Or.inl rfl) (inR_b (Or.inr rfl))) (fun y16 g18 r17 e19 => ?_)
    exact go_bret kk135_0.2.2.2.2 e19 r17 ⟨Nat.zero_le _, Nat.zero_le _⟩ rfl
theorem tjM_process_24 {Φ : ev_P} {d : Nat} (hd : 3 ≤ d) {g : gH} (hg : HR g) {v0 v1 v2 : Int} (hK0 : kd v0 = 7) (h1 : InR v1) (h2 : InR v2) {s0 s1 : Int} (z0 : RfR s0) (z1 : B01 s1) : Go Φ pr_P fN 1 (jM_process_24 g v0 v1 v2 s0 s1 ) d pr_m138 24 [some (sR v0), some (sI v1), some (sI v2)] [(sI s1), (sR s0)] g 0 0 := by
  unfold jM_process_24
  refine go_int kk138_0.1.1.2.2.2 2 rfl ?_
  refine go_ck (fun q13 => ?_)
  refine go_callN3 kk138_0.1.2.1.1.1.1 rfl rfl rfl ⟨by decide, _, rfl, q13⟩ ⟨Nat.zero_le _, Nat.zero_le _⟩ (by omega) (tfM_fails (by omega) hg q13  z1 (inR_of (by decide))) (fun y14 g16 r15 e17 => ?_)
  refine go_ifeq kk138_0.1.2.1.1.1.2 (inR_b r15) (fun c18 => ?_) (fun c19 => ?_)
  · refine go_iload kk138_0.1.2.1.2.1.1 rfl ?_
    refine go_ite (fun c20 => ?_) (fun c21 => ?_)
    · refine go_swh (lo := 0) (hi := 13) (i := 0) kk138_0.1.2.1.2.1.2 rfl rfl (by omega) (by omega) rfl ?_
      refine go_aload kk138_0.1.2.1.2.2 rfl ?_
      refine go_getR (bI := 0) kk138_0.1.2.2.1.1.1 e17 hK0 (by decide) rfl rfl (fun r22 => ?_)
      refine go_int kk138_0.1.2.2.1.1.2 60 rfl ?_
      refine go_iload kk138_0.1.2.2.1.2.1 rfl ?_
      refine go_iadd kk138_0.1.2.2.1.2.2 ?_
      refine go_ck (fun q24 => ?_)
      refine go_iald kk138_0.1.2.2.2.1.1 e17 q24 (fun r23 => ?_)
      exact go_iret kk138_0.1.2.2.2.1.2 e17 r23 ⟨Nat.zero_le _, Nat.zero_le _⟩ rfl
    refine go_ite (fun c25 => ?_) (fun c26 => ?_)
    · refine go_swh (lo := 0) (hi := 13) (i := 1) kk138_0.1.2.1.2.1.2 rfl rfl (by omega) (by omega) rfl ?_
      refine go_aload kk138_0.1.2.2.2.2 rfl ?_
      refine go_getR (bI := 0) kk138_0.2.1.1.1.1.1 e17 hK0 (by decide) rfl rfl (fun r27 => ?_)
      refine go_int kk138_0.2.1.1.1.1.2 100 rfl ?_
      refine go_iload kk138_0.2.1.1.1.2.1 rfl ?_
      refine go_iadd kk138_0.2.1.1.1.2.2 ?_
      refine go_ck (fun q29 => ?_)
      refine go_iald kk138_0.2.1.1.2.1.1 e17 q29 (fun r28 => ?_)
      exact go_iret kk138_0.2.1.1.2.1.2 e17 r28 ⟨Nat.zero_le _, Nat.zero_le _⟩ rfl
    refine go_ite (fun c30 => ?_) (fun c31 => ?_)
    · refine go_swh (lo := 0) (hi := 13) (i := 2) kk138_0.1.2.1.2.1.2 rfl rfl (by omega) (by omega) rfl ?_
      refine go_aload kk138_0.2.1.1.2.2 rfl ?_
      refine go_iload kk138_0.2.1.2.1.1.1 rfl ?_
      refine go_callP1 kk138_0.2.1.2.1.1.2 rfl rfl rfl ⟨by decide, _, rfl, hK0⟩ ⟨Nat.zero_le _, Nat.zero_le _⟩ (by omega) (tfM_roomOf (by omega) e17 hK0  h1) (fun y32 r33 => ?_)
      exact go_iret kk138_0.2.1.2.1.2.1 e17 r33 ⟨Nat.zero_le _, Nat.zero_le _⟩ rfl
    refine go_ite (fun c36 => ?_) (fun c37 => ?_)
    · refine go_swh (lo := 0) (hi := 13) (i := 3) kk138_0.1.2.1.2.1.2 rfl rfl (by omega) (by omega) rfl ?_
      refine go_aload kk138_0.2.1.2.1.2.2 rfl ?_
      refine go_iload kk138_0.2.1.2.2.1.1 rfl ?_
      refine go_int kk138_0.2.1.2.2.1.2 0 rfl ?_
      refine go_callP1 kk138_0.2.1.2.2.2 rfl rfl rfl ⟨by decide, _, rfl, hK0⟩ ⟨Nat.zero_le _, Nat.zero_le _⟩ (by omega) (tfM_childrenOf (by omega) e17 hK0  h1 (inR_b (Or.inl rfl))) (fun y38 r39 => ?_)
      exact go_iret kk138_0.2.2.1.1.1.1 e17 r39 ⟨Nat.zero_le _, Nat.zero_le _⟩ rfl
    refine go_ite (fun c42 => ?_) (fun c43 => ?_)
    · refine go_swh (lo := 0) (hi := 13) (i := 4) kk138_0.1.2.1.2.1.2 rfl rfl (by omega) (by omega) rfl ?_
      refine go_aload kk138_0.2.2.1.1.1.2 rfl ?_
      refine go_iload kk138_0.2.2.1.1.2.1 rfl ?_
      refine go_int kk138_0.2.2.1.1.2.2 1 rfl ?_
      refine go_callP1 kk138_0.2.2.1.2.1.1 rfl rfl rfl ⟨by decide, _, rfl, hK0⟩ ⟨Nat.zero_le _, Nat.zero_le _⟩ (by omega) (tfM_childrenOf (by omega) e17 hK0  h1 (inR_b (Or.inr rfl))) (fun y44 r45 => ?_)
      exact go_iret kk138_0.2.2.1.2.1.2 e17 r45 ⟨Nat.zero_le _, Nat.zero_le _⟩ rfl
    refine go_ite (fun c48 => ?_) (fun c49 => ?_)
    · refine go_swh (lo := 0) (hi := 13) (i := 5) kk138_0.1.2.1.2.1.2 rfl rfl (by omega) (by omega) rfl ?_
      refine go_aload kk138_0.2.2.1.2.2 rfl ?_
      refine go_getR (bI := 0) kk138_0.2.2.2.1.1.1 e17 hK0 (by decide) rfl rfl (fun r50 => ?_)
      refine go_int kk138_0.2.2.2.1.1.2 140 rfl ?_
      refine go_iload kk138_0.2.2.2.1.2.1 rfl ?_
      refine go_iadd kk138_0.2.2.2.1.2.2 ?_
      refine go_ck (fun q52 => ?_)
      refine go_iald kk138_0.2.2.2.2.1.1 e17 q52 (fun r51 => ?_)
      exact go_iret kk138_0.2.2.2.2.1.2 e17 r51 ⟨Nat.zero_le _, Nat.zero_le _⟩ rfl
    refine go_ite (fun c53 => ?_) (fun c54 => ?_)
    · refine go_swh (lo := 0) (hi := 13) (i := 6) kk138_0.1.2.1.2.1.2 rfl rfl (by omega) (by omega) rfl ?_
      refine go_aload kk138_0.2.2.2.2.2 rfl ?_
      refine go_getR (bI := 0) kk138_1.1.1.1.1.1.1 e17 hK0 (by decide) rfl rfl (fun r55 => ?_)
      refine go_int kk138_1.1.1.1.1.1.2 180 rfl ?_
      refine go_iload kk138_1.1.1.1.1.2.1 rfl ?_
      refine go_iadd kk138_1.1.1.1.1.2.2 ?_
      refine go_ck (fun q57 => ?_)
      refine go_iald kk138_1.1.1.1.2.1.1 e17 q57 (fun r56 => ?_)
      exact go_iret kk138_1.1.1.1.2.1.2 e17 r56 ⟨Nat.zero_le _, Nat.zero_le _⟩ rfl
    refine go_ite (fun c58 => ?_) (fun c59 => ?_)
    · refine go_swh (lo := 0) (hi := 13) (i := 7) kk138_0.1.2.1.2.1.2 rfl rfl (by omega) (by omega) rfl ?_
      refine go_aload kk138_1.1.1.1.2.2 rfl ?_
      refine go_getR (bI := 0) kk138_1.1.1.2.1.1.1 e17 hK0 (by decide) rfl rfl (fun r60 => ?_)
      refine go_int kk138_1.1.1.2.1.1.2 220 rfl ?_
      refine go_iload kk138_1.1.1.2.1.2.1 rfl ?_
      refine go_iadd kk138_1.1.1.2.1.2.2 ?_
      refine go_ck (fun q62 => ?_)
      refine go_iald kk138_1.1.1.2.2.1.1 e17 q62 (fun r61 => ?_)
      exact go_iret kk138_1.1.1.2.2.1.2 e17 r61 ⟨Nat.zero_le _, Nat.zero_le _⟩ rfl
    refine go_ite (fun c63 => ?_) (fun c64 => ?_)
    · refine go_swh (lo := 0) (hi := 13) (i := 8) kk138_0.1.2.1.2.1.2 rfl rfl (by omega) (by omega) rfl ?_
      refine go_aload kk138_1.1.1.2.2.2 rfl ?_
      refine go_getR (bI := 0) kk138_1.1.2.1.1.1.1 e17 hK0 (by decide) rfl rfl (fun r65 => ?_)
      refine go_int kk138_1.1.2.1.1.1.2 260 rfl ?_
      refine go_iload kk138_1.1.2.1.1.2.1 rfl ?_
      refine go_iadd kk138_1.1.2.1.1.2.2 ?_
      refine go_ck (fun q67 => ?_)
      refine go_iald kk138_1.1.2.1.2.1.1 e17 q67 (fun r66 => ?_)
      exact go_iret kk138_1.1.2.1.2.1.2 e17 r66 ⟨Nat.zero_le _, Nat.zero_le _⟩ rfl
    refine go_ite (fun c68 => ?_) (fun c69 => ?_)
    · refine go_swh (lo := 0) (hi := 13) (i := 9) kk138_0.1.2.1.2.1.2 rfl rfl (by omega) (by omega) rfl ?_
      refine go_aload kk138_1.1.2.1.2.2 rfl ?_
      refine go_iload kk138_1.1.2.2.1.1.1 rfl ?_
      refine go_callP1 kk138_1.1.2.2.1.1.2 rfl rfl rfl ⟨by decide, _, rfl, hK0⟩ ⟨Nat.zero_le _, Nat.zero_le _⟩ (by omega) (tfM_dutiesOf (by omega) e17 hK0  h1) (fun y70 r71 => ?_)
      exact go_iret kk138_1.1.2.2.1.2.1 e17 r71 ⟨Nat.zero_le _, Nat.zero_le _⟩ rfl
    refine go_ite (fun c74 => ?_) (fun c75 => ?_)
    · refine go_swh (lo := 0) (hi := 13) (i := 10) kk138_0.1.2.1.2.1.2 rfl rfl (by omega) (by omega) rfl ?_
      refine go_aload kk138_1.1.2.2.1.2.2 rfl ?_
      refine go_getR (bI := 0) kk138_1.1.2.2.2.1.1 e17 hK0 (by decide) rfl rfl (fun r76 => ?_)
      refine go_int kk138_1.1.2.2.2.1.2 300 rfl ?_
      refine go_iload kk138_1.1.2.2.2.2 rfl ?_
      refine go_iadd kk138_1.2.1.1.1.1.1 ?_
      refine go_ck (fun q78 => ?_)
      refine go_iald kk138_1.2.1.1.1.1.2 e17 q78 (fun r77 => ?_)
      exact go_iret kk138_1.2.1.1.1.2.1 e17 r77 ⟨Nat.zero_le _, Nat.zero_le _⟩ rfl
    refine go_ite (fun c79 => ?_) (fun c80 => ?_)
    · refine go_swh (lo := 0) (hi := 13) (i := 11) kk138_0.1.2.1.2.1.2 rfl rfl (by omega) (by omega) rfl ?_
      refine go_aload kk138_1.2.1.1.1.2.2 rfl ?_
      refine go_getR (bI := 0) kk138_1.2.1.1.2.1.1 e17 hK0 (by decide) rfl rfl (fun r81 => ?_)
      refine go_int kk138_1.2.1.1.2.1.2 340 rfl ?_
      refine go_iload kk138_1.2.1.1.2.2 rfl ?_
      refine go_iadd kk138_1.2.1.2.1.1.1 ?_
      refine go_ck (fun q83 => ?_)
      refine go_iald kk138_1.2.1.2.1.1.2 e17 q83 (fun r82 => ?_)
      exact go_iret kk138_1.2.1.2.1.2.1 e17 r82 ⟨Nat.zero_le _, Nat.zero_le _⟩ rfl
    refine go_ite (fun c84 => ?_) (fun c85 => ?_)
    · refine go_swh (lo := 0) (hi := 13) (i := 12) kk138_0.1.2.1.2.1.2 rfl rfl (by omega) (by omega) rfl ?_
      refine go_aload kk138_1.2.1.2.1.2.2 rfl ?_
      refine go_getR (bI := 0) kk138_1.2.1.2.2.1.1 e17 hK0 (by decide) rfl rfl (fun r86 => ?_)
      refine go_int kk138_1.2.1.2.2.1.2 380 rfl ?_
      refine go_iload kk138_1.2.1.2.2.2 rfl ?_
      refine go_iadd kk138_1.2.2.1.1.1.1 ?_
      refine go_ck (fun q88 => ?_)
      refine go_iald kk138_1.2.2.1.1.1.2 e17 q88 (fun r87 => ?_)
      exact go_iret kk138_1.2.2.1.1.2.1 e17 r87 ⟨Nat.zero_le _, Nat.zero_le _⟩ rfl
    refine go_ite (fun c89 => ?_) (fun c90 => ?_)
    · refine go_swh (lo := 0) (hi := 13) (i := 13) kk138_0.1.2.1.2.1.2 rfl rfl (by omega) (by omega) rfl ?_
      refine go_aload kk138_1.2.2.1.1.2.2 rfl ?_
      refine go_getR (bI := 0) kk138_1.2.2.1.2.1.1 e17 hK0 (by decide) rfl rfl (fun r91 => ?_)
      refine go_int kk138_1.2.2.1.2.1.2 420 rfl ?_
      refine go_iload kk138_1.2.2.1.2.2 rfl ?_
      refine go_iadd kk138_1.2.2.2.1.1.1 ?_
      refine go_ck (fun q93 => ?_)
      refine go_iald kk138_1.2.2.2.1.1.2 e17 q93 (fun r92 => ?_)
      exact go_iret kk138_1.2.2.2.1.2.1 e17 r92 ⟨Nat.zero_le _, Nat.zero_le _⟩ rfl
    refine go_swd (lo := 0) (hi := 13) kk138_0.1.2.1.2.1.2 rfl rfl h2 (by omega) (by omega) ?_
    refine go_aload kk138_1.2.2.2.1.2.2 rfl ?_
    refine go_iload kk138_1.2.2.2.2.1.1 rfl ?_
    refine go_callP1 kk138_1.2.2.2.2.1.2 rfl rfl rfl ⟨by decide, _, rfl, hK0⟩ ⟨Nat.zero_le _, Nat.zero_le _⟩ (by omega) (tfM_willsOf (by omega) e17 hK0  h1) (fun y94 r95 => ?_)
    exact go_iret kk138_1.2.2.2.2.2 e17 r95 ⟨Nat.zero_le _, Nat.zero_le _⟩ rfl
  · refine go_int kk138_0.1.2.1.1.2.1 0 rfl ?_
    exact go_iret kk138_0.1.2.1.1.2.2 e17 (inR_b (Or.inl rfl)) ⟨Nat.zero_le _, Nat.zero_le _⟩ rfl
theorem tfM_process {Φ : ev_P} {d : Nat} (hd : 3 ≤ d) {g : gH} (hg : HR g) {v0 v1 v2 : Int} (hK0 : kd v0 = 7) (h1 : InR v1) (h2 : InR v2) : Go Φ pr_P fN 1 (fM_process g v0 v1 v2) d (pr_P 138) 0 (ev_loc (pr_P 138).1 [(sR v0), (sI v1), (sI v2)]) [] g 0 0 := by
  show Go Φ pr_P fN 1 (fM_process g v0 v1 v2) d pr_m138 0 [some (sR v0), some (sI v1), some (sI v2)] [] g 0 0
  unfold fM_process
  refine go_aload kk138_0.1.1.1.1.1.1 rfl ?_
  refine go_iload kk138_0.1.1.1.1.1.2 rfl ?_
  refine go_callN3 kk138_0.1.1.1.1.2.1 rfl rfl rfl ⟨by decide, _, rfl, hK0⟩ ⟨Nat.zero_le _, Nat.zero_le _⟩ (by omega) (tfM_noProcess (by omega) hg hK0  h1) (fun y1 g3 r2 e4 => ?_)
  refine go_ifeq kk138_0.1.1.1.1.2.2 (inR_b r2) (fun c5 => ?_) (fun c6 => ?_)
  · refine go_aload kk138_0.1.1.1.2.1.1 rfl ?_
    refine go_iload kk138_0.1.1.1.2.1.2 rfl ?_
    refine go_int kk138_0.1.1.1.2.2 0 rfl ?_
    refine go_int kk138_0.1.1.2.1.1.1 14 rfl ?_
    refine go_callP3 kk138_0.1.1.2.1.1.2 rfl rfl rfl trivial ⟨Nat.zero_le _, Nat.zero_le _⟩ (by omega) (tfM_inRange (by omega) e4  h2 (inR_b (Or.inl rfl)) (inR_of (by decide))) (fun y7 r8 => ?_)
    refine go_ifeq kk138_0.1.1.2.1.2.1 (inR_b r8) (fun c11 => ?_) (fun c12 => ?_)
    · refine go_int kk138_0.1.1.2.1.2.2 1 rfl ?_
      refine go_goto kk138_0.1.1.2.2.1.1 ?_
      exact tjM_process_24 hd e4 hK0 h1 h2 (rfR_kd hK0 (by decide)) (Or.inr rfl)
    · refine go_int kk138_0.1.1.2.2.1.2 0 rfl ?_
      exact tjM_process_24 hd e4 hK0 h1 h2 (rfR_kd hK0 (by decide)) (Or.inl rfl)
  · refine go_int kk138_0.1.2.1.1.2.1 0 rfl ?_
    exact go_iret kk138_0.1.2.1.1.2.2 e4 (inR_b (Or.inl rfl)) ⟨Nat.zero_le _, Nat.zero_le _⟩ rfl
theorem tfM_noDuty {Φ : ev_P} {d : Nat} (hd : 1 ≤ d) {g : gH} (hg : HR g) {v0 v1 v2 : Int} (hK0 : kd v0 = 7) (h1 : InR v1) (h2 : InR v2) : Go Φ pr_P fN 3 (fM_noDuty g v0 v1 v2) d (pr_P 139) 0 (ev_loc (pr_P 139).1 [(sR v0), (sI v1), (sI v2)]) [] g 0 0 := by
  show Go Φ pr_P fN 3 (fM_noDuty g v0 v1 v2) d pr_m139 0 [some (sR v0), some (sI v1), some (sI v2)] [] g 0 0
  unfold fM_noDuty
  refine go_aload kk139_0.1.1.1.1 rfl ?_
  refine go_iload kk139_0.1.1.1.2 rfl ?_
  refine go_int kk139_0.1.1.2 0 rfl ?_
  refine go_int kk139_0.1.2.1.1 7 rfl ?_
  refine go_callP3 kk139_0.1.2.1.2 rfl rfl rfl trivial ⟨Nat.zero_le _, Nat.zero_le _⟩ (by omega) (tfM_inRange (by omega) hg  h1 (inR_b (Or.inl rfl)) (inR_of (by decide))) (fun y1 r2 => ?_)
  refine go_ifeq kk139_0.1.2.2 (inR_b r2) (fun c5 => ?_) (fun c6 => ?_)
  · refine go_int kk139_0.2.1.1.1 1 rfl ?_
    refine go_goto kk139_0.2.1.1.2 ?_
    refine go_iload kk139_0.2.2.1.1 rfl ?_
    refine go_callN3 kk139_0.2.2.1.2 rfl rfl rfl ⟨by decide, _, rfl, hK0⟩ ⟨Nat.zero_le _, Nat.zero_le _⟩ (by omega) (tfM_fails (by omega) hg hK0  (Or.inr rfl) h2) (fun y7 g9 r8 e10 => ?_)
    exact go_bret kk139_0.2.2.2 e10 r8 ⟨Nat.zero_le _, Nat.zero_le _⟩ rfl
  · refine go_int kk139_0.2.1.2 0 rfl ?_
    refine go_iload kk139_0.2.2.1.1 rfl ?_
    refine go_callN3 kk139_0.2.2.1.2 rfl rfl rfl ⟨by decide, _, rfl, hK0⟩ ⟨Nat.zero_le _, Nat.zero_le _⟩ (by omega) (tfM_fails (by omega) hg hK0  (Or.inl rfl) h2) (fun y11 g13 r12 e14 => ?_)
    exact go_bret kk139_0.2.2.2 e14 r12 ⟨Nat.zero_le _, Nat.zero_le _⟩ rfl
theorem tfM_holder {Φ : ev_P} {d : Nat} (hd : 2 ≤ d) {g : gH} (hg : HR g) {v0 v1 : Int} (hK0 : kd v0 = 7) (h1 : InR v1) : Go Φ pr_P fN 1 (fM_holder g v0 v1) d (pr_P 140) 0 (ev_loc (pr_P 140).1 [(sR v0), (sI v1)]) [] g 0 0 := by
  show Go Φ pr_P fN 1 (fM_holder g v0 v1) d pr_m140 0 [some (sR v0), some (sI v1)] [] g 0 0
  unfold fM_holder
  refine go_aload kk140_0.1.1.1.1.1 rfl ?_
  refine go_int kk140_0.1.1.1.1.2 0 rfl ?_
  refine go_putI (bI := 8) kk140_0.1.1.1.2 hg hK0 (by decide) rfl rfl (inR_b (Or.inl rfl)) (fun g1 e2 => ?_)
  refine go_aload kk140_0.1.1.2.1 rfl ?_
  refine go_iload kk140_0.1.1.2.2 rfl ?_
  refine go_int kk140_0.1.2.1.1 1 rfl ?_
  refine go_callN3 kk140_0.1.2.1.2 rfl rfl rfl ⟨by decide, _, rfl, hK0⟩ ⟨Nat.zero_le _, Nat.zero_le _⟩ (by omega) (tfM_noDuty (by omega) e2 hK0  h1 (inR_b (Or.inr rfl))) (fun y3 g5 r4 e6 => ?_)
  refine go_ifeq kk140_0.1.2.2.1 (inR_b r4) (fun c7 => ?_) (fun c8 => ?_)
  · refine go_aload kk140_0.2.1.1.2 rfl ?_
    refine go_getR (bI := 0) kk140_0.2.1.2.1 e6 hK0 (by decide) rfl rfl (fun r9 => ?_)
    refine go_int kk140_0.2.1.2.2 11 rfl ?_
    refine go_iload kk140_0.2.2.1.1 rfl ?_
    refine go_iadd kk140_0.2.2.1.2 ?_
    refine go_ck (fun q11 => ?_)
    refine go_iald kk140_0.2.2.2.1 e6 q11 (fun r10 => ?_)
    exact go_iret kk140_0.2.2.2.2 e6 r10 ⟨Nat.zero_le _, Nat.zero_le _⟩ rfl
  · refine go_int kk140_0.1.2.2.2 0 rfl ?_
    refine go_goto kk140_0.2.1.1.1 ?_
    exact go_iret kk140_0.2.2.2.2 e6 (inR_b (Or.inl rfl)) ⟨Nat.zero_le _, Nat.zero_le _⟩ rfl
theorem tfM_rule {Φ : ev_P} {d : Nat} (hd : 1 ≤ d) {g : gH} (hg : HR g) {v0 v1 : Int} (hK0 : kd v0 = 7) (h1 : InR v1) : Go Φ pr_P fN 1 (fM_rule g v0 v1) d (pr_P 141) 0 (ev_loc (pr_P 141).1 [(sR v0), (sI v1)]) [] g 0 0 := by
  show Go Φ pr_P fN 1 (fM_rule g v0 v1) d pr_m141 0 [some (sR v0), some (sI v1)] [] g 0 0
  unfold fM_rule
  refine go_aload kk141_0.1.1.1.1.1 rfl ?_
  refine go_int kk141_0.1.1.1.1.2 0 rfl ?_
  refine go_putI (bI := 8) kk141_0.1.1.1.2 hg hK0 (by decide) rfl rfl (inR_b (Or.inl rfl)) (fun g1 e2 => ?_)
  refine go_iload kk141_0.1.1.2.1.1 rfl ?_
  refine go_int kk141_0.1.1.2.1.2 0 rfl ?_
  refine go_aload kk141_0.1.1.2.2 rfl ?_
  refine go_getR (bI := 0) kk141_0.1.2.1.1.1 e2 hK0 (by decide) rfl rfl (fun r3 => ?_)
  refine go_int kk141_0.1.2.1.1.2 5 rfl ?_
  refine go_ck (fun q5 => ?_)
  refine go_iald kk141_0.1.2.1.2 e2 q5 (fun r4 => ?_)
  refine go_int kk141_0.1.2.2.1 1 rfl ?_
  refine go_isub kk141_0.1.2.2.2 ?_
  refine go_callP3 kk141_0.2.1.1.1.1 rfl rfl rfl trivial ⟨Nat.zero_le _, Nat.zero_le _⟩ (by omega) (tfM_inRange (by omega) e2  h1 (inR_b (Or.inl rfl)) (inR_w32 _)) (fun y6 r7 => ?_)
  refine go_ifeq kk141_0.2.1.1.1.2 (inR_b r7) (fun c10 => ?_) (fun c11 => ?_)
  · refine go_int kk141_0.2.2.2.1 (-1) rfl ?_
    exact go_iret kk141_0.2.2.2.2 e2 (inR_of (by decide)) ⟨Nat.zero_le _, Nat.zero_le _⟩ rfl
  · refine go_aload kk141_0.2.1.1.2 rfl ?_
    refine go_getR (bI := 0) kk141_0.2.1.2.1.1 e2 hK0 (by decide) rfl rfl (fun r12 => ?_)
    refine go_int kk141_0.2.1.2.1.2 6 rfl ?_
    refine go_iload kk141_0.2.1.2.2 rfl ?_
    refine go_iadd kk141_0.2.2.1.1.1 ?_
    refine go_ck (fun q14 => ?_)
    refine go_iald kk141_0.2.2.1.1.2 e2 q14 (fun r13 => ?_)
    refine go_goto kk141_0.2.2.1.2 ?_
    exact go_iret kk141_0.2.2.2.2 e2 r13 ⟨Nat.zero_le _, Nat.zero_le _⟩ rfl
theorem tbM_deep_4 {Φ : ev_P} {d : Nat} (hd : 0 ≤ d) {g : gH} (hg : HR g) {v0 : Int} (hK0 : kd v0 = 7) {X4 : Int → Int → Option Int} (HX4 : ∀ (v2 : Int) (h2 : InR v2) (v3 : Int) (h3 : InR v3) (u1 : Option ev_V) (w1 : nwo u1), Go Φ pr_P (fP g) 1 (X4 v2 v3) d pr_m89 4 [some (sR v0), u1, some (sI v2), some (sI v3)] [] g 0 0) : ∀ (v2 : Int) (h2 : InR v2) (v3 : Int) (h3 : InR v3) (u1 : Option ev_V) (w1 : nwo u1), Go Φ pr_P (fP g) 1 (bM_deep_4 g v0 X4 v2 v3) d pr_m89 4 [some (sR v0), u1, some (sI v2), some (sI v3)] [] g 0 0 := by
  intro v2 h2 v3 h3 u1 w1
  unfold bM_deep_4
  refine go_iload kk89_0.1.1.2.2 rfl ?_
  refine go_ifeq kk89_0.1.2.1.1 h3 (fun c1 => ?_) (fun c2 => ?_)
  · refine go_iload kk89_0.2.2.2.1 rfl ?_
    exact go_iret kk89_0.2.2.2.2 hg h2 ⟨Nat.zero_le _, Nat.zero_le _⟩ rfl
  · refine go_iinc kk89_0.1.2.1.2 rfl w1 1 rfl (loc2 := [some (sR v0), u1, some (sI (w32 (v2 + 1))), some (sI v3)]) rfl ?_
    refine go_aload kk89_0.1.2.2.1 rfl ?_
    refine go_getR (bI := 0) kk89_0.1.2.2.2 hg hK0 (by decide) rfl rfl (fun r3 => ?_)
    refine go_int kk89_0.2.1.1.1 60 rfl ?_
    refine go_iload kk89_0.2.1.1.2 rfl ?_
    refine go_iadd kk89_0.2.1.2.1 ?_
    refine go_ck (fun q5 => ?_)
    refine go_iald kk89_0.2.1.2.2 hg q5 (fun r4 => ?_)
    refine go_istore kk89_0.2.2.1.1 rfl (loc2 := [some (sR v0), u1, some (sI (w32 (v2 + 1))), some (sI (g (g v0 0) (w32 (60 + v3))))]) rfl ?_
    refine go_goto kk89_0.2.2.1.2 ?_
    exact HX4 (w32 (v2 + 1)) (inR_w32 _) (g (g v0 0) (w32 (60 + v3))) r4 u1 w1
theorem tlM_deep_4 {Φ : ev_P} {d : Nat} (hd : 0 ≤ d) {g : gH} (hg : HR g) {v0 : Int} (hK0 : kd v0 = 7) : ∀ n : Nat, ∀ (v2 : Int) (h2 : InR v2) (v3 : Int) (h3 : InR v3) (u1 : Option ev_V) (w1 : nwo u1), Go Φ pr_P (fP g) 1 (lM_deep_4 g v0 n v2 v3) d pr_m89 4 [some (sR v0), u1, some (sI v2), some (sI v3)] [] g 0 0 := by
  intro n
  induction n with
  | zero => intros; exact go_none
  | succ n ih => exact tbM_deep_4 hd hg hK0 ih
theorem tfM_deep {Φ : ev_P} {d : Nat} (hd : 0 ≤ d) {g : gH} (hg : HR g) {v0 v1 : Int} (hK0 : kd v0 = 7) (h1 : InR v1) : Go Φ pr_P (fP g) 1 (fM_deep g v0 v1) d (pr_P 89) 0 (ev_loc (pr_P 89).1 [(sR v0), (sI v1)]) [] g 0 0 := by
  show Go Φ pr_P (fP g) 1 (fM_deep g v0 v1) d pr_m89 0 [some (sR v0), some (sI v1), none, none] [] g 0 0
  unfold fM_deep
  refine go_int kk89_0.1.1.1.1.1 0 rfl ?_
  refine go_istore kk89_0.1.1.1.1.2 rfl (loc2 := [some (sR v0), some (sI v1), some (sI 0), none]) rfl ?_
  refine go_iload kk89_0.1.1.1.2 rfl ?_
  refine go_istore kk89_0.1.1.2.1 rfl (loc2 := [some (sR v0), some (sI v1), some (sI 0), some (sI v1)]) rfl ?_
  exact tlM_deep_4 hd hg hK0 fu 0 (inR_b (Or.inl rfl)) v1 h1 (some (sI v1)) rfl
theorem tfM_isGone {Φ : ev_P} {d : Nat} (hd : 0 ≤ d) {g : gH} (hg : HR g) {v0 v1 : Int} (hK0 : kd v0 = 7) (h1 : InR v1) : Go Φ pr_P (fP g) 3 (fM_isGone g v0 v1) d (pr_P 142) 0 (ev_loc (pr_P 142).1 [(sR v0), (sI v1)]) [] g 0 0 := by
  show Go Φ pr_P (fP g) 3 (fM_isGone g v0 v1) d pr_m142 0 [some (sR v0), some (sI v1)] [] g 0 0
  unfold fM_isGone
  refine go_aload kk142_0.1.1.1.1 rfl ?_
  refine go_getR (bI := 0) kk142_0.1.1.1.2 hg hK0 (by decide) rfl rfl (fun r1 => ?_)
  refine go_int kk142_0.1.1.2 140 rfl ?_
  refine go_iload kk142_0.1.2.1.1 rfl ?_
  refine go_iadd kk142_0.1.2.1.2 ?_
  refine go_ck (fun q3 => ?_)
  refine go_iald kk142_0.1.2.2 hg q3 (fun r2 => ?_)
  refine go_int kk142_0.2.1.1.1 2 rfl ?_
  refine go_cmeq kk142_0.2.1.1.2 r2 (inR_of (by decide)) (fun c4 => ?_) (fun c5 => ?_)
  · refine go_int kk142_0.2.1.2 1 rfl ?_
    refine go_goto kk142_0.2.2.1.1 ?_
    exact go_bret kk142_0.2.2.2 hg (Or.inr rfl) ⟨Nat.zero_le _, Nat.zero_le _⟩ rfl
  · refine go_int kk142_0.2.2.1.2 0 rfl ?_
    exact go_bret kk142_0.2.2.2 hg (Or.inl rfl) ⟨Nat.zero_le _, Nat.zero_le _⟩ rfl
theorem tfM_depth {Φ : ev_P} {d : Nat} (hd : 2 ≤ d) {g : gH} (hg : HR g) {v0 v1 : Int} (hK0 : kd v0 = 7) (h1 : InR v1) : Go Φ pr_P fN 1 (fM_depth g v0 v1) d (pr_P 143) 0 (ev_loc (pr_P 143).1 [(sR v0), (sI v1)]) [] g 0 0 := by
  show Go Φ pr_P fN 1 (fM_depth g v0 v1) d pr_m143 0 [some (sR v0), some (sI v1)] [] g 0 0
  unfold fM_depth
  refine go_aload kk143_0.1.1.1.1.1 rfl ?_
  refine go_iload kk143_0.1.1.1.1.2 rfl ?_
  refine go_callN3 kk143_0.1.1.1.2 rfl rfl rfl ⟨by decide, _, rfl, hK0⟩ ⟨Nat.zero_le _, Nat.zero_le _⟩ (by omega) (tfM_noProcess (by omega) hg hK0  h1) (fun y1 g3 r2 e4 => ?_)
  refine go_ifeq kk143_0.1.1.2.1 (inR_b r2) (fun c5 => ?_) (fun c6 => ?_)
  · refine go_aload kk143_0.1.1.2.2 rfl ?_
    refine go_aload kk143_0.1.2.1.1 rfl ?_
    refine go_iload kk143_0.1.2.1.2 rfl ?_
    refine go_callP3 kk143_0.1.2.2.1 rfl rfl rfl ⟨by decide, _, rfl, hK0⟩ ⟨Nat.zero_le _, Nat.zero_le _⟩ (by omega) (tfM_isGone (by omega) e4 hK0  h1) (fun y7 r8 => ?_)
    refine go_int kk143_0.1.2.2.2 2 rfl ?_
    refine go_callN3 kk143_0.2.1.1.1 rfl rfl rfl ⟨by decide, _, rfl, hK0⟩ ⟨Nat.zero_le _, Nat.zero_le _⟩ (by omega) (tfM_fails (by omega) e4 hK0  r8 (inR_of (by decide))) (fun y11 g13 r12 e14 => ?_)
    refine go_ifeq kk143_0.2.1.1.2 (inR_b r12) (fun c15 => ?_) (fun c16 => ?_)
    · refine go_aload kk143_0.2.2.1.1 rfl ?_
      refine go_iload kk143_0.2.2.1.2 rfl ?_
      refine go_callP1 kk143_0.2.2.2.1 rfl rfl rfl ⟨by decide, _, rfl, hK0⟩ ⟨Nat.zero_le _, Nat.zero_le _⟩ (by omega) (tfM_deep (by omega) e14 hK0  h1) (fun y17 r18 => ?_)
      exact go_iret kk143_0.2.2.2.2 e14 r18 ⟨Nat.zero_le _, Nat.zero_le _⟩ rfl
    · refine go_int kk143_0.2.1.2.1 0 rfl ?_
      refine go_goto kk143_0.2.1.2.2 ?_
      exact go_iret kk143_0.2.2.2.2 e14 (inR_b (Or.inl rfl)) ⟨Nat.zero_le _, Nat.zero_le _⟩ rfl
  · refine go_int kk143_0.2.1.2.1 0 rfl ?_
    refine go_goto kk143_0.2.1.2.2 ?_
    exact go_iret kk143_0.2.2.2.2 e4 (inR_b (Or.inl rfl)) ⟨Nat.zero_le _, Nat.zero_le _⟩ rfl
theorem tjM_isOver_32 {Φ : ev_P} {d : Nat} (hd : 0 ≤ d) {g : gH} (hg : HR g) {v3 : Int} (h3 : InR v3) (u0 : Option ev_V) (w0 : nwo u0) (u1 : Option ev_V) (w1 : nwo u1) (u2 : Option ev_V) (w2 : nwo u2) : Go Φ pr_P (fP g) 3 (jM_isOver_32 g v3 ) d pr_m88 32 [u0, u1, u2, some (sI v3)] [] g 0 0 := by
  unfold jM_isOver_32
  refine go_iload kk88_0.2.2.1.1.1 rfl ?_
  refine go_ifeq kk88_0.2.2.1.1.2 h3 (fun c11 => ?_) (fun c12 => ?_)
  · refine go_int kk88_0.2.2.2.1.2 0 rfl ?_
    exact go_bret kk88_0.2.2.2.2 hg (Or.inl rfl) ⟨Nat.zero_le _, Nat.zero_le _⟩ rfl
  · refine go_int kk88_0.2.2.1.2 1 rfl ?_
    refine go_goto kk88_0.2.2.2.1.1 ?_
    exact go_bret kk88_0.2.2.2.2 hg (Or.inr rfl) ⟨Nat.zero_le _, Nat.zero_le _⟩ rfl
theorem tbM_isOver_2 {Φ : ev_P} {d : Nat} (hd : 0 ≤ d) {g : gH} (hg : HR g) {v0 v1 : Int} (hK0 : kd v0 = 7) (h1 : InR v1) {X2 : Int → Option Int} (HX2 : ∀ (v3 : Int) (h3 : InR v3) (u2 : Option ev_V) (w2 : nwo u2), Go Φ pr_P (fP g) 3 (X2 v3) d pr_m88 2 [some (sR v0), some (sI v1), u2, some (sI v3)] [] g 0 0) : ∀ (v3 : Int) (h3 : InR v3) (u2 : Option ev_V) (w2 : nwo u2), Go Φ pr_P (fP g) 3 (bM_isOver_2 g v0 v1 X2 v3) d pr_m88 2 [some (sR v0), some (sI v1), u2, some (sI v3)] [] g 0 0 := by
  intro v3 h3 u2 w2
  unfold bM_isOver_2
  refine go_iload kk88_0.1.1.1.2.1 rfl ?_
  refine go_ifeq kk88_0.1.1.1.2.2 h3 (fun c1 => ?_) (fun c2 => ?_)
  · exact tjM_isOver_32 hd hg h3 (some (sR v0)) rfl (some (sI v1)) rfl u2 w2
  · refine go_aload kk88_0.1.1.2.1.1 rfl ?_
    refine go_getR (bI := 0) kk88_0.1.1.2.1.2 hg hK0 (by decide) rfl rfl (fun r3 => ?_)
    refine go_int kk88_0.1.1.2.2 60 rfl ?_
    refine go_iload kk88_0.1.2.1.1.1 rfl ?_
    refine go_iadd kk88_0.1.2.1.1.2 ?_
    refine go_ck (fun q5 => ?_)
    refine go_iald kk88_0.1.2.1.2 hg q5 (fun r4 => ?_)
    refine go_iload kk88_0.1.2.2.1.1 rfl ?_
    refine go_cmeq kk88_0.1.2.2.1.2 r4 h1 (fun c6 => ?_) (fun c7 => ?_)
    · exact tjM_isOver_32 hd hg h3 (some (sR v0)) rfl (some (sI v1)) rfl u2 w2
    · refine go_aload kk88_0.1.2.2.2 rfl ?_
      refine go_getR (bI := 0) kk88_0.2.1.1.1.1 hg hK0 (by decide) rfl rfl (fun r8 => ?_)
      refine go_int kk88_0.2.1.1.1.2 60 rfl ?_
      refine go_iload kk88_0.2.1.1.2.1 rfl ?_
      refine go_iadd kk88_0.2.1.1.2.2 ?_
      refine go_ck (fun q10 => ?_)
      refine go_iald kk88_0.2.1.2.1.1 hg q10 (fun r9 => ?_)
      refine go_istore kk88_0.2.1.2.1.2 w2 (loc2 := [some (sR v0), some (sI v1), u2, some (sI (g (g v0 0) (w32 (60 + v3))))]) rfl ?_
      refine go_goto kk88_0.2.1.2.2 ?_
      exact HX2 (g (g v0 0) (w32 (60 + v3))) r9 u2 w2
theorem tlM_isOver_2 {Φ : ev_P} {d : Nat} (hd : 0 ≤ d) {g : gH} (hg : HR g) {v0 v1 : Int} (hK0 : kd v0 = 7) (h1 : InR v1) : ∀ n : Nat, ∀ (v3 : Int) (h3 : InR v3) (u2 : Option ev_V) (w2 : nwo u2), Go Φ pr_P (fP g) 3 (lM_isOver_2 g v0 v1 n v3) d pr_m88 2 [some (sR v0), some (sI v1), u2, some (sI v3)] [] g 0 0 := by
  intro n
  induction n with
  | zero => intros; exact go_none
  | succ n ih => exact tbM_isOver_2 hd hg hK0 h1 ih
theorem tfM_isOver {Φ : ev_P} {d : Nat} (hd : 0 ≤ d) {g : gH} (hg : HR g) {v0 v1 v2 : Int} (hK0 : kd v0 = 7) (h1 : InR v1) (h2 : InR v2) : Go Φ pr_P (fP g) 3 (fM_isOver g v0 v1 v2) d (pr_P 88) 0 (ev_loc (pr_P 88).1 [(sR v0), (sI v1), (sI v2)]) [] g 0 0 := by
  show Go Φ pr_P (fP g) 3 (fM_isOver g v0 v1 v2) d pr_m88 0 [some (sR v0), some (sI v1), some (sI v2), none] [] g 0 0
  unfold fM_isOver
  refine go_iload kk88_0.1.1.1.1.1 rfl ?_
  refine go_istore kk88_0.1.1.1.1.2 rfl (loc2 := [some (sR v0), some (sI v1), some (sI v2), some (sI v2)]) rfl ?_
  exact tlM_isOver_2 hd hg hK0 h1 fu v2 h2 (some (sI v2)) rfl
theorem tfM_isAbove {Φ : ev_P} {d : Nat} (hd : 2 ≤ d) {g : gH} (hg : HR g) {v0 v1 v2 : Int} (hK0 : kd v0 = 7) (h1 : InR v1) (h2 : InR v2) : Go Φ pr_P fN 3 (fM_isAbove g v0 v1 v2) d (pr_P 144) 0 (ev_loc (pr_P 144).1 [(sR v0), (sI v1), (sI v2)]) [] g 0 0 := by
  show Go Φ pr_P fN 3 (fM_isAbove g v0 v1 v2) d pr_m144 0 [some (sR v0), some (sI v1), some (sI v2)] [] g 0 0
  unfold fM_isAbove
  refine go_aload kk144_0.1.1.1.1.1 rfl ?_
  refine go_iload kk144_0.1.1.1.1.2 rfl ?_
  refine go_callN3 kk144_0.1.1.1.2.1 rfl rfl rfl ⟨by decide, _, rfl, hK0⟩ ⟨Nat.zero_le _, Nat.zero_le _⟩ (by omega) (tfM_noProcess (by omega) hg hK0  h1) (fun y1 g3 r2 e4 => ?_)
  refine go_ifeq kk144_0.1.1.1.2.2 (inR_b r2) (fun c5 => ?_) (fun c6 => ?_)
  · refine go_aload kk144_0.1.1.2.1.1 rfl ?_
    refine go_iload kk144_0.1.1.2.1.2 rfl ?_
    refine go_callN3 kk144_0.1.1.2.2.1 rfl rfl rfl ⟨by decide, _, rfl, hK0⟩ ⟨Nat.zero_le _, Nat.zero_le _⟩ (by omega) (tfM_noProcess (by omega) e4 hK0  h2) (fun y7 g9 r8 e10 => ?_)
    refine go_ifeq kk144_0.1.1.2.2.2 (inR_b r8) (fun c11 => ?_) (fun c12 => ?_)
    · refine go_aload kk144_0.1.2.1.2.1 rfl ?_
      refine go_iload kk144_0.1.2.1.2.2 rfl ?_
      refine go_callP3 kk144_0.1.2.2.1.1 rfl rfl rfl ⟨by decide, _, rfl, hK0⟩ ⟨Nat.zero_le _, Nat.zero_le _⟩ (by omega) (tfM_isGone (by omega) e10 hK0  h1) (fun y13 r14 => ?_)
      refine go_ifeq kk144_0.1.2.2.1.2 (inR_b r14) (fun c17 => ?_) (fun c18 => ?_)
      · refine go_aload kk144_0.1.2.2.2 rfl ?_
        refine go_iload kk144_0.2.1.1.1.1 rfl ?_
        refine go_callP3 kk144_0.2.1.1.1.2 rfl rfl rfl ⟨by decide, _, rfl, hK0⟩ ⟨Nat.zero_le _, Nat.zero_le _⟩ (by omega) (tfM_isGone (by omega) e10 hK0  h2) (fun y19 r20 => ?_)
        refine go_ifeq kk144_0.2.1.1.2.1 (inR_b r20) (fun c23 => ?_) (fun c24 => ?_)
        · refine go_iload kk144_0.2.1.1.2.2 rfl ?_
          refine go_iload kk144_0.2.1.2.1.1 rfl ?_
          refine go_cmeq kk144_0.2.1.2.1.2 h1 h2 (fun c25 => ?_) (fun c26 => ?_)
          · refine go_int kk144_0.2.2.2.1.2 0 rfl ?_
            exact go_bret kk144_0.2.2.2.2 e10 (Or.inl rfl) ⟨Nat.zero_le _, Nat.zero_le _⟩ rfl
          · refine go_aload kk144_0.2.1.2.2.1 rfl ?_
            refine go_iload kk144_0.2.1.2.2.2 rfl ?_
            refine go_iload kk144_0.2.2.1.1.1 rfl ?_
            refine go_callP3 kk144_0.2.2.1.1.2 rfl rfl rfl ⟨by decide, _, rfl, hK0⟩ ⟨Nat.zero_le _, Nat.zero_le _⟩ (by omega) (tfM_isOver (by omega) e10 hK0  h1 h2) (fun y27 r28 => ?_)
            refine go_ifeq kk144_0.2.2.1.2.1 (inR_b r28) (fun c31 => ?_) (fun c32 => ?_)
            · refine go_int kk144_0.2.2.2.1.2 0 rfl ?_
              exact go_bret kk144_0.2.2.2.2 e10 (Or.inl rfl) ⟨Nat.zero_le _, Nat.zero_le _⟩ rfl
            · refine go_int kk144_0.2.2.1.2.2 1 rfl ?_
              refine go_goto kk144_0.2.2.2.1.1 ?_
              exact go_bret kk144_0.2.2.2.2 e10 (Or.inr rfl) ⟨Nat.zero_le _, Nat.zero_le _⟩ rfl
        · refine go_int kk144_0.2.2.2.1.2 0 rfl ?_
          exact go_bret kk144_0.2.2.2.2 e10 (Or.inl rfl) ⟨Nat.zero_le _, Nat.zero_le _⟩ rfl
      · refine go_int kk144_0.2.2.2.1.2 0 rfl ?_
        exact go_bret kk144_0.2.2.2.2 e10 (Or.inl rfl) ⟨Nat.zero_le _, Nat.zero_le _⟩ rfl
    · refine go_int kk144_0.1.2.1.1.1 0 rfl ?_
      exact go_bret kk144_0.1.2.1.1.2 e10 (Or.inl rfl) ⟨Nat.zero_le _, Nat.zero_le _⟩ rfl
  · refine go_int kk144_0.1.2.1.1.1 0 rfl ?_
    exact go_bret kk144_0.1.2.1.1.2 e4 (Or.inl rfl) ⟨Nat.zero_le _, Nat.zero_le _⟩ rfl
theorem tbM_meets_2 {Φ : ev_P} {d : Nat} (hd : 1 ≤ d) {g : gH} (hg : HR g) {v0 v2 : Int} (hK0 : kd v0 = 7) (h2 : InR v2) {X2 : Int → Option Int} (HX2 : ∀ (v3 : Int) (h3 : InR v3) (u1 : Option ev_V) (w1 : nwo u1), Go Φ pr_P (fP g) 1 (X2 v3) d pr_m145 2 [some (sR v0), u1, some (sI v2), some (sI v3)] [] g 0 0) : ∀ (v3 : Int) (h3 : InR v3) (u1 : Option ev_V) (w1 : nwo u1), Go Φ pr_P (fP g) 1 (bM_meets_2 g v0 v2 X2 v3) d pr_m145 2 [some (sR v0), u1, some (sI v2), some (sI v3)] [] g 0 0 := by
  intro v3 h3 u1 w1
  unfold bM_meets_2
  refine go_iload kk145_0.1.1.1.2 rfl ?_
  refine go_iload kk145_0.1.1.2.1 rfl ?_
  refine go_cmeq kk145_0.1.1.2.2 h3 h2 (fun c1 => ?_) (fun c2 => ?_)
  · refine go_iload kk145_0.2.2.2.1 rfl ?_
    exact go_iret kk145_0.2.2.2.2 hg h3 ⟨Nat.zero_le _, Nat.zero_le _⟩ rfl
  · refine go_aload kk145_0.1.2.1.1.1 rfl ?_
    refine go_iload kk145_0.1.2.1.1.2 rfl ?_
    refine go_iload kk145_0.1.2.1.2 rfl ?_
    refine go_callP3 kk145_0.1.2.2.1 rfl rfl rfl ⟨by decide, _, rfl, hK0⟩ ⟨Nat.zero_le _, Nat.zero_le _⟩ (by omega) (tfM_isOver (by omega) hg hK0  h3 h2) (fun y3 r4 => ?_)
    refine go_ifeq kk145_0.1.2.2.2 (inR_b r4) (fun c7 => ?_) (fun c8 => ?_)
    · refine go_aload kk145_0.2.1.1.1.1 rfl ?_
      refine go_getR (bI := 0) kk145_0.2.1.1.1.2 hg hK0 (by decide) rfl rfl (fun r9 => ?_)
      refine go_int kk145_0.2.1.1.2 60 rfl ?_
      refine go_iload kk145_0.2.1.2.1 rfl ?_
      refine go_iadd kk145_0.2.1.2.2 ?_
      refine go_ck (fun q11 => ?_)
      refine go_iald kk145_0.2.2.1.1.1 hg q11 (fun r10 => ?_)
      refine go_istore kk145_0.2.2.1.1.2 rfl (loc2 := [some (sR v0), u1, some (sI v2), some (sI (g (g v0 0) (w32 (60 + v3))))]) rfl ?_
      refine go_goto kk145_0.2.2.1.2 ?_
      exact HX2 (g (g v0 0) (w32 (60 + v3))) r10 u1 w1
    · refine go_iload kk145_0.2.2.2.1 rfl ?_
      exact go_iret kk145_0.2.2.2.2 hg h3 ⟨Nat.zero_le _, Nat.zero_le _⟩ rfl
theorem tlM_meets_2 {Φ : ev_P} {d : Nat} (hd : 1 ≤ d) {g : gH} (hg : HR g) {v0 v2 : Int} (hK0 : kd v0 = 7) (h2 : InR v2) : ∀ n : Nat, ∀ (v3 : Int) (h3 : InR v3) (u1 : Option ev_V) (w1 : nwo u1), Go Φ pr_P (fP g) 1 (lM_meets_2 g v0 v2 n v3) d pr_m145 2 [some (sR v0), u1, some (sI v2), some (sI v3)] [] g 0 0 := by
  intro n
  induction n with
  | zero => intros; exact go_none
  | succ n ih => exact tbM_meets_2 hd hg hK0 h2 ih
theorem tfM_meets {Φ : ev_P} {d : Nat} (hd : 1 ≤ d) {g : gH} (hg : HR g) {v0 v1 v2 : Int} (hK0 : kd v0 = 7) (h1 : InR v1) (h2 : InR v2) : Go Φ pr_P (fP g) 1 (fM_meets g v0 v1 v2) d (pr_P 145) 0 (ev_loc (pr_P 145).1 [(sR v0), (sI v1), (sI v2)]) [] g 0 0 := by
  show Go Φ pr_P (fP g) 1 (fM_meets g v0 v1 v2) d pr_m145 0 [some (sR v0), some (sI v1), some (sI v2), none] [] g 0 0
  unfold fM_meets
  refine go_iload kk145_0.1.1.1.1.1 rfl ?_
  refine go_istore kk145_0.1.1.1.1.2 rfl (loc2 := [some (sR v0), some (sI v1), some (sI v2), some (sI v1)]) rfl ?_
  exact tlM_meets_2 hd hg hK0 h2 fu v1 h1 (some (sI v1)) rfl
theorem tjM_anyGone_38 {Φ : ev_P} {d : Nat} (hd : 2 ≤ d) {g : gH} (hg : HR g) {s0 s1 : Int} (z0 : RfR s0) (z1 : B01 s1) (u0 : Option ev_V) (w0 : nwo u0) (u1 : Option ev_V) (w1 : nwo u1) (u2 : Option ev_V) (w2 : nwo u2) : Go Φ pr_P fN 3 (jM_anyGone_38 g s0 s1 ) d pr_m146 38 [u0, u1, u2] [(sI s1), (sR s0)] g 0 0 := by
  unfold jM_anyGone_38
  refine go_int kk146_0.2.1.2.2 2 rfl ?_
  refine go_ck (fun q25 => ?_)
  refine go_callN3 kk146_0.2.2.1.1.1 rfl rfl rfl ⟨by decide, _, rfl, q25⟩ ⟨Nat.zero_le _, Nat.zero_le _⟩ (by omega) (tfM_fails (by omega) hg q25  z1 (inR_of (by decide))) (fun y26 g28 r27 e29 => ?_)
  refine go_ifeq kk146_0.2.2.1.1.2 (inR_b r27) (fun c30 => ?_) (fun c31 => ?_)
  · refine go_int kk146_0.2.2.2.1.2 0 rfl ?_
    exact go_bret kk146_0.2.2.2.2 e29 (Or.inl rfl) ⟨Nat.zero_le _, Nat.zero_le _⟩ rfl
  · refine go_int kk146_0.2.2.1.2 1 rfl ?_
    refine go_goto kk146_0.2.2.2.1.1 ?_
    exact go_bret kk146_0.2.2.2.2 e29 (Or.inr rfl) ⟨Nat.zero_le _, Nat.zero_le _⟩ rfl
theorem tjM_anyGone_33 {Φ : ev_P} {d : Nat} (hd : 2 ≤ d) {g : gH} (hg : HR g) {s0 : Int} (z0 : RfR s0) (u0 : Option ev_V) (w0 : nwo u0) (u1 : Option ev_V) (w1 : nwo u1) (u2 : Option ev_V) (w2 : nwo u2) : Go Φ pr_P fN 3 (jM_anyGone_33 g s0 ) d pr_m146 33 [u0, u1, u2] [(sR s0)] g 0 0 := by
  unfold jM_anyGone_33
  refine go_int kk146_0.2.1.1.2.2 1 rfl ?_
  refine go_goto kk146_0.2.1.2.1.1 ?_
  exact tjM_anyGone_38 hd hg z0 (Or.inr rfl) u0 w0 u1 w1 u2 w2
theorem tfM_anyGone {Φ : ev_P} {d : Nat} (hd : 2 ≤ d) {g : gH} (hg : HR g) {v0 v1 v2 : Int} (hK0 : kd v0 = 7) (h1 : InR v1) (h2 : InR v2) : Go Φ pr_P fN 3 (fM_anyGone g v0 v1 v2) d (pr_P 146) 0 (ev_loc (pr_P 146).1 [(sR v0), (sI v1), (sI v2)]) [] g 0 0 := by
  show Go Φ pr_P fN 3 (fM_anyGone g v0 v1 v2) d pr_m146 0 [some (sR v0), some (sI v1), some (sI v2)] [] g 0 0
  unfold fM_anyGone
  refine go_aload kk146_0.1.1.1.1.1 rfl ?_
  refine go_iload kk146_0.1.1.1.1.2 rfl ?_
  refine go_callN3 kk146_0.1.1.1.2.1 rfl rfl rfl ⟨by decide, _, rfl, hK0⟩ ⟨Nat.zero_le _, Nat.zero_le _⟩ (by omega) (tfM_noProcess (by omega) hg hK0  h1) (fun y1 g3 r2 e4 => ?_)
  refine go_ifeq kk146_0.1.1.1.2.2 (inR_b r2) (fun c5 => ?_) (fun c6 => ?_)
  · refine go_aload kk146_0.1.1.2.1.1 rfl ?_
    refine go_iload kk146_0.1.1.2.1.2 rfl ?_
    refine go_callN3 kk146_0.1.1.2.2 rfl rfl rfl ⟨by decide, _, rfl, hK0⟩ ⟨Nat.zero_le _, Nat.zero_le _⟩ (by omega) (tfM_noProcess (by omega) e4 hK0  h2) (fun y7 g9 r8 e10 => ?_)
    refine go_ifeq kk146_0.1.2.1.1.1 (inR_b r8) (fun c11 => ?_) (fun c12 => ?_)
    · refine go_aload kk146_0.1.2.1.1.2 rfl ?_
      refine go_aload kk146_0.1.2.1.2.1 rfl ?_
      refine go_iload kk146_0.1.2.1.2.2 rfl ?_
      refine go_callP3 kk146_0.1.2.2.1.1 rfl rfl rfl ⟨by decide, _, rfl, hK0⟩ ⟨Nat.zero_le _, Nat.zero_le _⟩ (by omega) (tfM_isGone (by omega) e10 hK0  h1) (fun y13 r14 => ?_)
      refine go_ifeq kk146_0.1.2.2.1.2 (inR_b r14) (fun c17 => ?_) (fun c18 => ?_)
      · refine go_aload kk146_0.1.2.2.2 rfl ?_
        refine go_iload kk146_0.2.1.1.1.1 rfl ?_
        refine go_callP3 kk146_0.2.1.1.1.2 rfl rfl rfl ⟨by decide, _, rfl, hK0⟩ ⟨Nat.zero_le _, Nat.zero_le _⟩ (by omega) (tfM_isGone (by omega) e10 hK0  h2) (fun y19 r20 => ?_)
        refine go_ifeq kk146_0.2.1.1.2.1 (inR_b r20) (fun c23 => ?_) (fun c24 => ?_)
        · refine go_int kk146_0.2.1.2.1.2 0 rfl ?_
          exact tjM_anyGone_38 hd e10 (rfR_kd hK0 (by decide)) (Or.inl rfl) (some (sR v0)) rfl (some (sI v1)) rfl (some (sI v2)) rfl
        · exact tjM_anyGone_33 hd e10 (rfR_kd hK0 (by decide)) (some (sR v0)) rfl (some (sI v1)) rfl (some (sI v2)) rfl
      · exact tjM_anyGone_33 hd e10 (rfR_kd hK0 (by decide)) (some (sR v0)) rfl (some (sI v1)) rfl (some (sI v2)) rfl
    · refine go_int kk146_0.2.2.1.2 1 rfl ?_
      refine go_goto kk146_0.2.2.2.1.1 ?_
      exact go_bret kk146_0.2.2.2.2 e10 (Or.inr rfl) ⟨Nat.zero_le _, Nat.zero_le _⟩ rfl
  · refine go_int kk146_0.2.2.1.2 1 rfl ?_
    refine go_goto kk146_0.2.2.2.1.1 ?_
    exact go_bret kk146_0.2.2.2.2 e4 (Or.inr rfl) ⟨Nat.zero_le _, Nat.zero_le _⟩ rfl
theorem tfM_meet {Φ : ev_P} {d : Nat} (hd : 3 ≤ d) {g : gH} (hg : HR g) {v0 v1 v2 : Int} (hK0 : kd v0 = 7) (h1 : InR v1) (h2 : InR v2) : Go Φ pr_P fN 1 (fM_meet g v0 v1 v2) d (pr_P 147) 0 (ev_loc (pr_P 147).1 [(sR v0), (sI v1), (sI v2)]) [] g 0 0 := by
  show Go Φ pr_P fN 1 (fM_meet g v0 v1 v2) d pr_m147 0 [some (sR v0), some (sI v1), some (sI v2)] [] g 0 0
  unfold fM_meet
  refine go_aload kk147_0.1.1.1.1 rfl ?_
  refine go_iload kk147_0.1.1.1.2 rfl ?_
  refine go_iload kk147_0.1.1.2 rfl ?_
  refine go_callN3 kk147_0.1.2.1.1 rfl rfl rfl ⟨by decide, _, rfl, hK0⟩ ⟨Nat.zero_le _, Nat.zero_le _⟩ (by omega) (tfM_anyGone (by omega) hg hK0  h1 h2) (fun y1 g3 r2 e4 => ?_)
  refine go_ifeq kk147_0.1.2.1.2 (inR_b r2) (fun c5 => ?_) (fun c6 => ?_)
  · refine go_aload kk147_0.2.1.1.2 rfl ?_
    refine go_iload kk147_0.2.1.2 rfl ?_
    refine go_iload kk147_0.2.2.1.1 rfl ?_
    refine go_callP1 kk147_0.2.2.1.2 rfl rfl rfl ⟨by decide, _, rfl, hK0⟩ ⟨Nat.zero_le _, Nat.zero_le _⟩ (by omega) (tfM_meets (by omega) e4 hK0  h1 h2) (fun y7 r8 => ?_)
    exact go_iret kk147_0.2.2.2 e4 r8 ⟨Nat.zero_le _, Nat.zero_le _⟩ rfl
  · refine go_int kk147_0.1.2.2 0 rfl ?_
    refine go_goto kk147_0.2.1.1.1 ?_
    exact go_iret kk147_0.2.2.2 e4 (inR_b (Or.inl rfl)) ⟨Nat.zero_le _, Nat.zero_le _⟩ rfl
theorem tfM_apart {Φ : ev_P} {d : Nat} (hd : 3 ≤ d) {g : gH} (hg : HR g) {v0 v1 v2 : Int} (hK0 : kd v0 = 7) (h1 : InR v1) (h2 : InR v2) : Go Φ pr_P fN 1 (fM_apart g v0 v1 v2) d (pr_P 148) 0 (ev_loc (pr_P 148).1 [(sR v0), (sI v1), (sI v2)]) [] g 0 0 := by
  show Go Φ pr_P fN 1 (fM_apart g v0 v1 v2) d pr_m148 0 [some (sR v0), some (sI v1), some (sI v2)] [] g 0 0
  unfold fM_apart
  refine go_aload kk148_0.1.1.1.1.1 rfl ?_
  refine go_iload kk148_0.1.1.1.1.2 rfl ?_
  refine go_iload kk148_0.1.1.1.2 rfl ?_
  refine go_callN3 kk148_0.1.1.2.1.1 rfl rfl rfl ⟨by decide, _, rfl, hK0⟩ ⟨Nat.zero_le _, Nat.zero_le _⟩ (by omega) (tfM_anyGone (by omega) hg hK0  h1 h2) (fun y1 g3 r2 e4 => ?_)
  refine go_ifeq kk148_0.1.1.2.1.2 (inR_b r2) (fun c5 => ?_) (fun c6 => ?_)
  · refine go_aload kk148_0.1.2.1.1.2 rfl ?_
    refine go_iload kk148_0.1.2.1.2 rfl ?_
    refine go_callP1 kk148_0.1.2.2.1.1 rfl rfl rfl ⟨by decide, _, rfl, hK0⟩ ⟨Nat.zero_le _, Nat.zero_le _⟩ (by omega) (tfM_deep (by omega) e4 hK0  h1) (fun y7 r8 => ?_)
    refine go_aload kk148_0.1.2.2.1.2 rfl ?_
    refine go_iload kk148_0.1.2.2.2 rfl ?_
    refine go_callP1 kk148_0.2.1.1.1.1 rfl rfl rfl ⟨by decide, _, rfl, hK0⟩ ⟨Nat.zero_le _, Nat.zero_le _⟩ (by omega) (tfM_deep (by omega) e4 hK0  h2) (fun y11 r12 => ?_)
    refine go_iadd kk148_0.2.1.1.1.2 ?_
    refine go_int kk148_0.2.1.1.2 2 rfl ?_
    refine go_aload kk148_0.2.1.2.1.1 rfl ?_
    refine go_aload kk148_0.2.1.2.1.2 rfl ?_
    refine go_iload kk148_0.2.1.2.2 rfl ?_
    refine go_iload kk148_0.2.2.1.1.1 rfl ?_
    refine go_callP1 kk148_0.2.2.1.1.2 rfl rfl rfl ⟨by decide, _, rfl, hK0⟩ ⟨Nat.zero_le _, Nat.zero_le _⟩ (by omega) (tfM_meets (by omega) e4 hK0  h1 h2) (fun y15 r16 => ?_)
    refine go_callP1 kk148_0.2.2.1.2 rfl rfl rfl ⟨by decide, _, rfl, hK0⟩ ⟨Nat.zero_le _, Nat.zero_le _⟩ (by omega) (tfM_deep (by omega) e4 hK0  r16) (fun y19 r20 => ?_)
    refine go_ibin kk148_0.2.2.2.1.1 ?_
    refine go_isub kk148_0.2.2.2.1.2 ?_
    exact go_iret kk148_0.2.2.2.2 e4 (inR_w32 _) ⟨Nat.zero_le _, Nat.zero_le _⟩ rfl
  · refine go_int kk148_0.1.1.2.2 0 rfl ?_
    refine go_goto kk148_0.1.2.1.1.1 ?_
    exact go_iret kk148_0.2.2.2.2 e4 (inR_b (Or.inl rfl)) ⟨Nat.zero_le _, Nat.zero_le _⟩ rfl
theorem tbM_belowOf_4 {Φ : ev_P} {d : Nat} (hd : 1 ≤ d) {g : gH} (hg : HR g) {v0 v1 : Int} (hK0 : kd v0 = 7) (h1 : InR v1) {X4 : Int → Int → Option Int} (HX4 : ∀ (v2 : Int) (h2 : InR v2) (v3 : Int) (h3 : InR v3), Go Φ pr_P (fP g) 1 (X4 v2 v3) d pr_m149 4 [some (sR v0), some (sI v1), some (sI v2), some (sI v3)] [] g 0 0) : ∀ (v2 : Int) (h2 : InR v2) (v3 : Int) (h3 : InR v3), Go Φ pr_P (fP g) 1 (bM_belowOf_4 g v0 v1 X4 v2 v3) d pr_m149 4 [some (sR v0), some (sI v1), some (sI v2), some (sI v3)] [] g 0 0 := by
  intro v2 h2 v3 h3
  unfold bM_belowOf_4
  refine go_iload kk149_0.1.1.2.1.1 rfl ?_
  refine go_aload kk149_0.1.1.2.1.2 rfl ?_
  refine go_getR (bI := 0) kk149_0.1.1.2.2.1 hg hK0 (by decide) rfl rfl (fun r1 => ?_)
  refine go_int kk149_0.1.1.2.2.2 0 rfl ?_
  refine go_ck (fun q3 => ?_)
  refine go_iald kk149_0.1.2.1.1.1 hg q3 (fun r2 => ?_)
  refine go_cmlt kk149_0.1.2.1.1.2 h3 r2 (fun c4 => ?_) (fun c5 => ?_)
  · refine go_iload kk149_0.1.2.1.2.1 rfl ?_
    refine go_aload kk149_0.1.2.1.2.2 rfl ?_
    refine go_iload kk149_0.1.2.2.1.1 rfl ?_
    refine go_callP3 kk149_0.1.2.2.1.2 rfl rfl rfl ⟨by decide, _, rfl, hK0⟩ ⟨Nat.zero_le _, Nat.zero_le _⟩ (by omega) (tfM_runs (by omega) hg hK0  h3) (fun y6 r7 => ?_)
    refine go_ifeq kk149_0.1.2.2.2 (inR_b r7) (fun c10 => ?_) (fun c11 => ?_)
    · refine go_int kk149_0.2.2.1.1.1 0 rfl ?_
      refine go_iadd kk149_0.2.2.1.1.2 ?_
      refine go_istore kk149_0.2.2.1.2.1 rfl (loc2 := [some (sR v0), some (sI v1), some (sI (w32 (v2 + 0))), some (sI v3)]) rfl ?_
      refine go_iinc kk149_0.2.2.1.2.2 rfl rfl 1 rfl (loc2 := [some (sR v0), some (sI v1), some (sI (w32 (v2 + 0))), some (sI (w32 (v3 + 1)))]) rfl ?_
      refine go_goto kk149_0.2.2.2.1.1 ?_
      exact HX4 (w32 (v2 + 0)) (inR_w32 _) (w32 (v3 + 1)) (inR_w32 _)
    · refine go_aload kk149_0.2.1.1.1.1 rfl ?_
      refine go_iload kk149_0.2.1.1.1.2 rfl ?_
      refine go_iload kk149_0.2.1.1.2.1 rfl ?_
      refine go_callP3 kk149_0.2.1.1.2.2 rfl rfl rfl ⟨by decide, _, rfl, hK0⟩ ⟨Nat.zero_le _, Nat.zero_le _⟩ (by omega) (tfM_isOver (by omega) hg hK0  h1 h3) (fun y12 r13 => ?_)
      refine go_ifeq kk149_0.2.1.2.1.1 (inR_b r13) (fun c16 => ?_) (fun c17 => ?_)
      · refine go_int kk149_0.2.2.1.1.1 0 rfl ?_
        refine go_iadd kk149_0.2.2.1.1.2 ?_
        refine go_istore kk149_0.2.2.1.2.1 rfl (loc2 := [some (sR v0), some (sI v1), some (sI (w32 (v2 + 0))), some (sI v3)]) rfl ?_
        refine go_iinc kk149_0.2.2.1.2.2 rfl rfl 1 rfl (loc2 := [some (sR v0), some (sI v1), some (sI (w32 (v2 + 0))), some (sI (w32 (v3 + 1)))]) rfl ?_
        refine go_goto kk149_0.2.2.2.1.1 ?_
        exact HX4 (w32 (v2 + 0)) (inR_w32 _) (w32 (v3 + 1)) (inR_w32 _)
      · refine go_int kk149_0.2.1.2.1.2 1 rfl ?_
        refine go_goto kk149_0.2.1.2.2 ?_
        refine go_iadd kk149_0.2.2.1.1.2 ?_
        refine go_istore kk149_0.2.2.1.2.1 rfl (loc2 := [some (sR v0), some (sI v1), some (sI (w32 (v2 + 1))), some (sI v3)]) rfl ?_
        refine go_iinc kk149_0.2.2.1.2.2 rfl rfl 1 rfl (loc2 := [some (sR v0), some (sI v1), some (sI (w32 (v2 + 1))), some (sI (w32 (v3 + 1)))]) rfl ?_
        refine go_goto kk149_0.2.2.2.1.1 ?_
        exact HX4 (w32 (v2 + 1)) (inR_w32 _) (w32 (v3 + 1)) (inR_w32 _)
  · refine go_iload kk149_0.2.2.2.1.2 rfl ?_
    exact go_iret kk149_0.2.2.2.2 hg h2 ⟨Nat.zero_le _, Nat.zero_le _⟩ rfl
theorem tlM_belowOf_4 {Φ : ev_P} {d : Nat} (hd : 1 ≤ d) {g : gH} (hg : HR g) {v0 v1 : Int} (hK0 : kd v0 = 7) (h1 : InR v1) : ∀ n : Nat, ∀ (v2 : Int) (h2 : InR v2) (v3 : Int) (h3 : InR v3), Go Φ pr_P (fP g) 1 (lM_belowOf_4 g v0 v1 n v2 v3) d pr_m149 4 [some (sR v0), some (sI v1), some (sI v2), some (sI v3)] [] g 0 0 := by
  intro n
  induction n with
  | zero => intros; exact go_none
  | succ n ih => exact tbM_belowOf_4 hd hg hK0 h1 ih
theorem tfM_belowOf {Φ : ev_P} {d : Nat} (hd : 1 ≤ d) {g : gH} (hg : HR g) {v0 v1 : Int} (hK0 : kd v0 = 7) (h1 : InR v1) : Go Φ pr_P (fP g) 1 (fM_belowOf g v0 v1) d (pr_P 149) 0 (ev_loc (pr_P 149).1 [(sR v0), (sI v1)]) [] g 0 0 := by
  show Go Φ pr_P (fP g) 1 (fM_belowOf g v0 v1) d pr_m149 0 [some (sR v0), some (sI v1), none, none] [] g 0 0
  unfold fM_belowOf
  refine go_int kk149_0.1.1.1.1.1 0 rfl ?_
  refine go_istore kk149_0.1.1.1.1.2 rfl (loc2 := [some (sR v0), some (sI v1), some (sI 0), none]) rfl ?_
  refine go_int kk149_0.1.1.1.2.1 1 rfl ?_
  refine go_istore kk149_0.1.1.1.2.2 rfl (loc2 := [some (sR v0), some (sI v1), some (sI 0), some (sI 1)]) rfl ?_
  exact tlM_belowOf_4 hd hg hK0 h1 fu 0 (inR_b (Or.inl rfl)) 1 (inR_b (Or.inr rfl))
theorem tfM_below {Φ : ev_P} {d : Nat} (hd : 2 ≤ d) {g : gH} (hg : HR g) {v0 v1 : Int} (hK0 : kd v0 = 7) (h1 : InR v1) : Go Φ pr_P fN 1 (fM_below g v0 v1) d (pr_P 150) 0 (ev_loc (pr_P 150).1 [(sR v0), (sI v1)]) [] g 0 0 := by
  show Go Φ pr_P fN 1 (fM_below g v0 v1) d pr_m150 0 [some (sR v0), some (sI v1)] [] g 0 0
  unfold fM_below
  refine go_aload kk150_0.1.1.1.1 rfl ?_
  refine go_iload kk150_0.1.1.1.2 rfl ?_
  refine go_callN3 kk150_0.1.1.2.1 rfl rfl rfl ⟨by decide, _, rfl, hK0⟩ ⟨Nat.zero_le _, Nat.zero_le _⟩ (by omega) (tfM_noProcess (by omega) hg hK0  h1) (fun y1 g3 r2 e4 => ?_)
  refine go_ifeq kk150_0.1.1.2.2 (inR_b r2) (fun c5 => ?_) (fun c6 => ?_)
  · refine go_aload kk150_0.1.2.1.1 rfl ?_
    refine go_iload kk150_0.1.2.1.2 rfl ?_
    refine go_callP3 kk150_0.1.2.2 rfl rfl rfl ⟨by decide, _, rfl, hK0⟩ ⟨Nat.zero_le _, Nat.zero_le _⟩ (by omega) (tfM_runs (by omega) e4 hK0  h1) (fun y7 r8 => ?_)
    refine go_ifeq kk150_0.2.1.1.1 (inR_b r8) (fun c11 => ?_) (fun c12 => ?_)
    · refine go_int kk150_0.2.1.1.2 0 rfl ?_
      refine go_goto kk150_0.2.1.2.1 ?_
      exact go_iret kk150_0.2.2.2 e4 (inR_b (Or.inl rfl)) ⟨Nat.zero_le _, Nat.zero_le _⟩ rfl
    · refine go_aload kk150_0.2.1.2.2 rfl ?_
      refine go_iload kk150_0.2.2.1.1 rfl ?_
      refine go_callP1 kk150_0.2.2.1.2 rfl rfl rfl ⟨by decide, _, rfl, hK0⟩ ⟨Nat.zero_le _, Nat.zero_le _⟩ (by omega) (tfM_belowOf (by omega) e4 hK0  h1) (fun y13 r14 => ?_)
      exact go_iret kk150_0.2.2.2 e4 r14 ⟨Nat.zero_le _, Nat.zero_le _⟩ rfl
  · refine go_int kk150_0.2.1.1.2 0 rfl ?_
    refine go_goto kk150_0.2.1.2.1 ?_
    exact go_iret kk150_0.2.2.2 e4 (inR_b (Or.inl rfl)) ⟨Nat.zero_le _, Nat.zero_le _⟩ rfl
theorem tbM_runningMany_4 {Φ : ev_P} {d : Nat} (hd : 1 ≤ d) {g : gH} (hg : HR g) {v0 : Int} (hK0 : kd v0 = 7) {X4 : Int → Int → Option Int} (HX4 : ∀ (v1 : Int) (h1 : InR v1) (v2 : Int) (h2 : InR v2), Go Φ pr_P (fP g) 1 (X4 v1 v2) d pr_m90 4 [some (sR v0), some (sI v1), some (sI v2)] [] g 0 0) : ∀ (v1 : Int) (h1 : InR v1) (v2 : Int) (h2 : InR v2), Go Φ pr_P (fP g) 1 (bM_runningMany_4 g v0 X4 v1 v2) d pr_m90 4 [some (sR v0), some (sI v1), some (sI v2)] [] g 0 0 := by
  intro v1 h1 v2 h2
  unfold bM_runningMany_4
  refine go_iload kk90_0.1.1.2.1.2 rfl ?_
  refine go_aload kk90_0.1.1.2.2 rfl ?_
  refine go_getR (bI := 0) kk90_0.1.2.1.1.1 hg hK0 (by decide) rfl rfl (fun r1 => ?_)
  refine go_int kk90_0.1.2.1.1.2 0 rfl ?_
  refine go_ck (fun q3 => ?_)
  refine go_iald kk90_0.1.2.1.2 hg q3 (fun r2 => ?_)
  refine go_cmlt kk90_0.1.2.2.1.1 h2 r2 (fun c4 => ?_) (fun c5 => ?_)
  · refine go_iload kk90_0.1.2.2.1.2 rfl ?_
    refine go_aload kk90_0.1.2.2.2 rfl ?_
    refine go_iload kk90_0.2.1.1.1.1 rfl ?_
    refine go_callP3 kk90_0.2.1.1.1.2 rfl rfl rfl ⟨by decide, _, rfl, hK0⟩ ⟨Nat.zero_le _, Nat.zero_le _⟩ (by omega) (tfM_runs (by omega) hg hK0  h2) (fun y6 r7 => ?_)
    refine go_ifeq kk90_0.2.1.1.2 (inR_b r7) (fun c10 => ?_) (fun c11 => ?_)
    · refine go_int kk90_0.2.1.2.2 0 rfl ?_
      refine go_iadd kk90_0.2.2.1.1.1 ?_
      refine go_istore kk90_0.2.2.1.1.2 rfl (loc2 := [some (sR v0), some (sI (w32 (v1 + 0))), some (sI v2)]) rfl ?_
      refine go_iinc kk90_0.2.2.1.2 rfl rfl 1 rfl (loc2 := [some (sR v0), some (sI (w32 (v1 + 0))), some (sI (w32 (v2 + 1)))]) rfl ?_
      refine go_goto kk90_0.2.2.2.1.1 ?_
      exact HX4 (w32 (v1 + 0)) (inR_w32 _) (w32 (v2 + 1)) (inR_w32 _)
    · refine go_int kk90_0.2.1.2.1.1 1 rfl ?_
      refine go_goto kk90_0.2.1.2.1.2 ?_
      refine go_iadd kk90_0.2.2.1.1.1 ?_
      refine go_istore kk90_0.2.2.1.1.2 rfl (loc2 := [some (sR v0), some (sI (w32 (v1 + 1))), some (sI v2)]) rfl ?_
      refine go_iinc kk90_0.2.2.1.2 rfl rfl 1 rfl (loc2 := [some (sR v0), some (sI (w32 (v1 + 1))), some (sI (w32 (v2 + 1)))]) rfl ?_
      refine go_goto kk90_0.2.2.2.1.1 ?_
      exact HX4 (w32 (v1 + 1)) (inR_w32 _) (w32 (v2 + 1)) (inR_w32 _)
  · refine go_iload kk90_0.2.2.2.1.2 rfl ?_
    exact go_iret kk90_0.2.2.2.2 hg h1 ⟨Nat.zero_le _, Nat.zero_le _⟩ rfl
theorem tlM_runningMany_4 {Φ : ev_P} {d : Nat} (hd : 1 ≤ d) {g : gH} (hg : HR g) {v0 : Int} (hK0 : kd v0 = 7) : ∀ n : Nat, ∀ (v1 : Int) (h1 : InR v1) (v2 : Int) (h2 : InR v2), Go Φ pr_P (fP g) 1 (lM_runningMany_4 g v0 n v1 v2) d pr_m90 4 [some (sR v0), some (sI v1), some (sI v2)] [] g 0 0 := by
  intro n
  induction n with
  | zero => intros; exact go_none
  | succ n ih => exact tbM_runningMany_4 hd hg hK0 ih
theorem tfM_runningMany {Φ : ev_P} {d : Nat} (hd : 1 ≤ d) {g : gH} (hg : HR g) {v0 : Int} (hK0 : kd v0 = 7) : Go Φ pr_P (fP g) 1 (fM_runningMany g v0) d (pr_P 90) 0 (ev_loc (pr_P 90).1 [(sR v0)]) [] g 0 0 := by
  show Go Φ pr_P (fP g) 1 (fM_runningMany g v0) d pr_m90 0 [some (sR v0), none, none] [] g 0 0
  unfold fM_runningMany
  refine go_int kk90_0.1.1.1.1.1 0 rfl ?_
  refine go_istore kk90_0.1.1.1.1.2 rfl (loc2 := [some (sR v0), some (sI 0), none]) rfl ?_
  refine go_int kk90_0.1.1.1.2 0 rfl ?_
  refine go_istore kk90_0.1.1.2.1.1 rfl (loc2 := [some (sR v0), some (sI 0), some (sI 0)]) rfl ?_
  exact tlM_runningMany_4 hd hg hK0 fu 0 (inR_b (Or.inl rfl)) 0 (inR_b (Or.inl rfl))
theorem tjM_nextChild_28 {Φ : ev_P} {d : Nat} (hd : 1 ≤ d) {g : gH} (hg : HR g) {v0 v3 : Int} (hK0 : kd v0 = 7) (h3 : InR v3) (u1 : Option ev_V) (w1 : nwo u1) (u2 : Option ev_V) (w2 : nwo u2) : Go Φ pr_P (fP g) 1 (jM_nextChild_28 g v0 v3 ) d pr_m152 28 [some (sR v0), u1, u2, some (sI v3)] [] g 0 0 := by
  unfold jM_nextChild_28
  refine go_iload kk152_0.2.1.1.2.2 rfl ?_
  refine go_aload kk152_0.2.1.2.1.1 rfl ?_
  refine go_getR (bI := 0) kk152_0.2.1.2.1.2 hg hK0 (by decide) rfl rfl (fun r12 => ?_)
  refine go_int kk152_0.2.1.2.2 0 rfl ?_
  refine go_ck (fun q14 => ?_)
  refine go_iald kk152_0.2.2.1.1.1 hg q14 (fun r13 => ?_)
  refine go_cmlt kk152_0.2.2.1.1.2 h3 r13 (fun c15 => ?_) (fun c16 => ?_)
  · refine go_iload kk152_0.2.2.1.2 rfl ?_
    refine go_goto kk152_0.2.2.2.1.1 ?_
    exact go_iret kk152_0.2.2.2.2 hg h3 ⟨Nat.zero_le _, Nat.zero_le _⟩ rfl
  · refine go_int kk152_0.2.2.2.1.2 (-1) rfl ?_
    exact go_iret kk152_0.2.2.2.2 hg (inR_of (by decide)) ⟨Nat.zero_le _, Nat.zero_le _⟩ rfl
theorem tbM_nextChild_2 {Φ : ev_P} {d : Nat} (hd : 1 ≤ d) {g : gH} (hg : HR g) {v0 v1 : Int} (hK0 : kd v0 = 7) (h1 : InR v1) {X2 : Int → Option Int} (HX2 : ∀ (v3 : Int) (h3 : InR v3) (u2 : Option ev_V) (w2 : nwo u2), Go Φ pr_P (fP g) 1 (X2 v3) d pr_m152 2 [some (sR v0), some (sI v1), u2, some (sI v3)] [] g 0 0) : ∀ (v3 : Int) (h3 : InR v3) (u2 : Option ev_V) (w2 : nwo u2), Go Φ pr_P (fP g) 1 (bM_nextChild_2 g v0 v1 X2 v3) d pr_m152 2 [some (sR v0), some (sI v1), u2, some (sI v3)] [] g 0 0 := by
  intro v3 h3 u2 w2
  unfold bM_nextChild_2
  refine go_iload kk152_0.1.1.1.2.1 rfl ?_
  refine go_aload kk152_0.1.1.1.2.2 rfl ?_
  refine go_getR (bI := 0) kk152_0.1.1.2.1.1 hg hK0 (by decide) rfl rfl (fun r1 => ?_)
  refine go_int kk152_0.1.1.2.1.2 0 rfl ?_
  refine go_ck (fun q3 => ?_)
  refine go_iald kk152_0.1.1.2.2 hg q3 (fun r2 => ?_)
  refine go_cmlt kk152_0.1.2.1.1.1 h3 r2 (fun c4 => ?_) (fun c5 => ?_)
  · refine go_aload kk152_0.1.2.1.1.2 rfl ?_
    refine go_iload kk152_0.1.2.1.2 rfl ?_
    refine go_iload kk152_0.1.2.2.1.1 rfl ?_
    refine go_int kk152_0.1.2.2.1.2 0 rfl ?_
    refine go_callP3 kk152_0.1.2.2.2 rfl rfl rfl ⟨by decide, _, rfl, hK0⟩ ⟨Nat.zero_le _, Nat.zero_le _⟩ (by omega) (tfM_isChild (by omega) hg hK0  h3 h1 (inR_b (Or.inl rfl))) (fun y6 r7 => ?_)
    refine go_ifeq kk152_0.2.1.1.1.1 (inR_b r7) (fun c10 => ?_) (fun c11 => ?_)
    · refine go_iinc kk152_0.2.1.1.1.2 rfl w2 1 rfl (loc2 := [some (sR v0), some (sI v1), u2, some (sI (w32 (v3 + 1)))]) rfl ?_
      refine go_goto kk152_0.2.1.1.2.1 ?_
      exact HX2 (w32 (v3 + 1)) (inR_w32 _) u2 w2
    · exact tjM_nextChild_28 hd hg hK0 h3 (some (sI v1)) rfl u2 w2
  · exact tjM_nextChild_28 hd hg hK0 h3 (some (sI v1)) rfl u2 w2
theorem tlM_nextChild_2 {Φ : ev_P} {d : Nat} (hd : 1 ≤ d) {g : gH} (hg : HR g) {v0 v1 : Int} (hK0 : kd v0 = 7) (h1 : InR v1) : ∀ n : Nat, ∀ (v3 : Int) (h3 : InR v3) (u2 : Option ev_V) (w2 : nwo u2), Go Φ pr_P (fP g) 1 (lM_nextChild_2 g v0 v1 n v3) d pr_m152 2 [some (sR v0), some (sI v1), u2, some (sI v3)] [] g 0 0 := by
  intro n
  induction n with
  | zero => intros; exact go_none
  | succ n ih => exact tbM_nextChild_2 hd hg hK0 h1 ih
theorem tfM_nextChild {Φ : ev_P} {d : Nat} (hd : 1 ≤ d) {g : gH} (hg : HR g) {v0 v1 v2 : Int} (hK0 : kd v0 = 7) (h1 : InR v1) (h2 : InR v2) : Go Φ pr_P (fP g) 1 (fM_nextChild g v0 v1 v2) d (pr_P 152) 0 (ev_loc (pr_P 152).1 [(sR v0), (sI v1), (sI v2)]) [] g 0 0 := by
  show Go Φ pr_P (fP g) 1 (fM_nextChild g v0 v1 v2) d pr_m152 0 [some (sR v0), some (sI v1), some (sI v2), none] [] g 0 0
  unfold fM_nextChild
  refine go_iload kk152_0.1.1.1.1.1 rfl ?_
  refine go_istore kk152_0.1.1.1.1.2 rfl (loc2 := [some (sR v0), some (sI v1), some (sI v2), some (sI v2)]) rfl ?_
  exact tlM_nextChild_2 hd hg hK0 h1 fu v2 h2 (some (sI v2)) rfl
theorem tbM_walkOn_9 {Φ : ev_P} {d : Nat} (hd : 2 ≤ d) {g : gH} (hg : HR g) {v0 : Int} (hK0 : kd v0 = 7) {X9 : Int → Int → Option Int} (HX9 : ∀ (v2 : Int) (h2 : InR v2) (v3 : Int) (h3 : InR v3) (u1 : Option ev_V) (w1 : nwo u1), Go Φ pr_P (fP g) 1 (X9 v2 v3) d pr_m151 9 [some (sR v0), u1, some (sI v2), some (sI v3)] [] g 0 0) : ∀ (v2 : Int) (h2 : InR v2) (v3 : Int) (h3 : InR v3) (u1 : Option ev_V) (w1 : nwo u1), Go Φ pr_P (fP g) 1 (bM_walkOn_9 g v0 X9 v2 v3) d pr_m151 9 [some (sR v0), u1, some (sI v2), some (sI v3)] [] g 0 0 := by
  intro v2 h2 v3 h3 u1 w1
  unfold bM_walkOn_9
  refine go_iload kk151_0.1.1.2.2.1 rfl ?_
  refine go_int kk151_0.1.1.2.2.2 (-1) rfl ?_
  refine go_cmeq kk151_0.1.2.1.1.1 h2 (inR_of (by decide)) (fun c5 => ?_) (fun c6 => ?_)
  · refine go_iload kk151_0.1.2.1.1.2 rfl ?_
    refine go_ifeq kk151_0.1.2.1.2.1 h3 (fun c7 => ?_) (fun c8 => ?_)
    · refine go_iload kk151_0.2.2.2.2.1 rfl ?_
      exact go_iret kk151_0.2.2.2.2.2 hg h2 ⟨Nat.zero_le _, Nat.zero_le _⟩ rfl
    · refine go_aload kk151_0.1.2.1.2.2 rfl ?_
      refine go_aload kk151_0.1.2.2.1.1 rfl ?_
      refine go_getR (bI := 0) kk151_0.1.2.2.1.2 hg hK0 (by decide) rfl rfl (fun r9 => ?_)
      refine go_int kk151_0.1.2.2.2.1 60 rfl ?_
      refine go_iload kk151_0.1.2.2.2.2 rfl ?_
      refine go_iadd kk151_0.2.1.1.1.1.1 ?_
      refine go_ck (fun q11 => ?_)
      refine go_iald kk151_0.2.1.1.1.1.2 hg q11 (fun r10 => ?_)
      refine go_iload kk151_0.2.1.1.1.2 rfl ?_
      refine go_int kk151_0.2.1.1.2.1 1 rfl ?_
      refine go_iadd kk151_0.2.1.1.2.2 ?_
      refine go_callP1 kk151_0.2.1.2.1.1 rfl rfl rfl ⟨by decide, _, rfl, hK0⟩ ⟨Nat.zero_le _, Nat.zero_le _⟩ (by omega) (tfM_nextChild (by omega) hg hK0  r10 (inR_w32 _)) (fun y12 r13 => ?_)
      refine go_istore kk151_0.2.1.2.1.2 w1 (loc2 := [some (sR v0), u1, some (sI y12), some (sI v3)]) rfl ?_
      refine go_aload kk151_0.2.1.2.2.1 rfl ?_
      refine go_getR (bI := 0) kk151_0.2.1.2.2.2 hg hK0 (by decide) rfl rfl (fun r16 => ?_)
      refine go_int kk151_0.2.2.1.1.1 60 rfl ?_
      refine go_iload kk151_0.2.2.1.1.2 rfl ?_
      refine go_iadd kk151_0.2.2.1.2.1 ?_
      refine go_ck (fun q18 => ?_)
      refine go_iald kk151_0.2.2.1.2.2 hg q18 (fun r17 => ?_)
      refine go_istore kk151_0.2.2.2.1.1 rfl (loc2 := [some (sR v0), u1, some (sI y12), some (sI (g (g v0 0) (w32 (60 + v3))))]) rfl ?_
      refine go_goto kk151_0.2.2.2.1.2 ?_
      exact HX9 y12 r13 (g (g v0 0) (w32 (60 + v3))) r17 u1 w1
  · refine go_iload kk151_0.2.2.2.2.1 rfl ?_
    exact go_iret kk151_0.2.2.2.2.2 hg h2 ⟨Nat.zero_le _, Nat.zero_le _⟩ rfl
theorem tlM_walkOn_9 {Φ : ev_P} {d : Nat} (hd : 2 ≤ d) {g : gH} (hg : HR g) {v0 : Int} (hK0 : kd v0 = 7) : ∀ n : Nat, ∀ (v2 : Int) (h2 : InR v2) (v3 : Int) (h3 : InR v3) (u1 : Option ev_V) (w1 : nwo u1), Go Φ pr_P (fP g) 1 (lM_walkOn_9 g v0 n v2 v3) d pr_m151 9 [some (sR v0), u1, some (sI v2), some (sI v3)] [] g 0 0 := by
  intro n
  induction n with
  | zero => intros; exact go_none
  | succ n ih => exact tbM_walkOn_9 hd hg hK0 ih
theorem tfM_walkOn {Φ : ev_P} {d : Nat} (hd : 2 ≤ d) {g : gH} (hg : HR g) {v0 v1 : Int} (hK0 : kd v0 = 7) (h1 : InR v1) : Go Φ pr_P (fP g) 1 (fM_walkOn g v0 v1) d (pr_P 151) 0 (ev_loc (pr_P 151).1 [(sR v0), (sI v1)]) [] g 0 0 := by
  show Go Φ pr_P (fP g) 1 (fM_walkOn g v0 v1) d pr_m151 0 [some (sR v0), some (sI v1), none, none] [] g 0 0
  unfold fM_walkOn
  refine go_aload kk151_0.1.1.1.1.1.1 rfl ?_
  refine go_iload kk151_0.1.1.1.1.1.2 rfl ?_
  refine go_int kk151_0.1.1.1.1.2 0 rfl ?_
  refine go_callP1 kk151_0.1.1.1.2.1 rfl rfl rfl ⟨by decide, _, rfl, hK0⟩ ⟨Nat.zero_le _, Nat.zero_le _⟩ (by omega) (tfM_nextChild (by omega) hg hK0  h1 (inR_b (Or.inl rfl))) (fun y1 r2 => ?_)
  refine go_istore kk151_0.1.1.1.2.2 rfl (loc2 := [some (sR v0), some (sI v1), some (sI y1), none]) rfl ?_
  refine go_iload kk151_0.1.1.2.1.1 rfl ?_
  refine go_istore kk151_0.1.1.2.1.2 rfl (loc2 := [some (sR v0), some (sI v1), some (sI y1), some (sI v1)]) rfl ?_
  exact tlM_walkOn_9 hd hg hK0 fu y1 r2 v1 h1 (some (sI v1)) rfl
theorem tbM_walked_38 {Φ : ev_P} {d : Nat} (hd : 3 ≤ d) {g : gH} (hg : HR g) {v0 v1 : Int} (hK0 : kd v0 = 7) (h1 : InR v1) {X38 : Int → Int → Option (Int × gH)} (HX38 : ∀ (v2 : Int) (h2 : InR v2) (v3 : Int) (h3 : InR v3), Go Φ pr_P fN 1 (X38 v2 v3) d pr_m153 38 [some (sR v0), some (sI v1), some (sI v2), some (sI v3)] [] g 0 0) : ∀ (v2 : Int) (h2 : InR v2) (v3 : Int) (h3 : InR v3), Go Φ pr_P fN 1 (bM_walked_38 g v0 v1 X38 v2 v3) d pr_m153 38 [some (sR v0), some (sI v1), some (sI v2), some (sI v3)] [] g 0 0 := by
  intro v2 h2 v3 h3
  unfold bM_walked_38
  refine go_iload kk153_0.2.1.2.1.2 rfl ?_
  refine go_iload kk153_0.2.1.2.2.1 rfl ?_
  refine go_cmlt kk153_0.2.1.2.2.2 h3 h1 (fun c20 => ?_) (fun c21 => ?_)
  · refine go_aload kk153_0.2.2.1.1.1 rfl ?_
    refine go_iload kk153_0.2.2.1.1.2 rfl ?_
    refine go_callP1 kk153_0.2.2.1.2.1 rfl rfl rfl ⟨by decide, _, rfl, hK0⟩ ⟨Nat.zero_le _, Nat.zero_le _⟩ (by omega) (tfM_walkOn (by omega) hg hK0  h2) (fun y22 r23 => ?_)
    refine go_istore kk153_0.2.2.1.2.2 rfl (loc2 := [some (sR v0), some (sI v1), some (sI y22), some (sI v3)]) rfl ?_
    refine go_iinc kk153_0.2.2.2.1.1 rfl rfl 1 rfl (loc2 := [some (sR v0), some (sI v1), some (sI y22), some (sI (w32 (v3 + 1)))]) rfl ?_
    refine go_goto kk153_0.2.2.2.1.2 ?_
    exact HX38 y22 r23 (w32 (v3 + 1)) (inR_w32 _)
  · refine go_iload kk153_0.2.2.2.2.1 rfl ?_
    exact go_iret kk153_0.2.2.2.2.2 hg h2 ⟨Nat.zero_le _, Nat.zero_le _⟩ rfl
theorem tlM_walked_38 {Φ : ev_P} {d : Nat} (hd : 3 ≤ d) {g : gH} (hg : HR g) {v0 v1 : Int} (hK0 : kd v0 = 7) (h1 : InR v1) : ∀ n : Nat, ∀ (v2 : Int) (h2 : InR v2) (v3 : Int) (h3 : InR v3), Go Φ pr_P fN 1 (lM_walked_38 g v0 v1 n v2 v3) d pr_m153 38 [some (sR v0), some (sI v1), some (sI v2), some (sI v3)] [] g 0 0 := by
  intro n
  induction n with
  | zero => intros; exact go_none
  | succ n ih => exact tbM_walked_38 hd hg hK0 h1 ih
theorem tjM_walked_25 {Φ : ev_P} {d : Nat} (hd : 3 ≤ d) {g : gH} (hg : HR g) {v0 v1 : Int} (hK0 : kd v0 = 7) (h1 : InR v1) {s0 s1 : Int} (z0 : RfR s0) (z1 : B01 s1) (u2 : Option ev_V) (w2 : nwo u2) (u3 : Option ev_V) (w3 : nwo u3) : Go Φ pr_P fN 1 (jM_walked_25 g v0 v1 s0 s1 ) d pr_m153 25 [some (sR v0), some (sI v1), u2, u3] [(sI s1), (sR s0)] g 0 0 := by
  unfold jM_walked_25
  refine go_int kk153_0.1.2.2.1.2 1 rfl ?_
  refine go_ck (fun q13 => ?_)
  refine go_callN3 kk153_0.1.2.2.2.1 rfl rfl rfl ⟨by decide, _, rfl, q13⟩ ⟨Nat.zero_le _, Nat.zero_le _⟩ (by omega) (tfM_fails (by omega) hg q13  z1 (inR_b (Or.inr rfl))) (fun y14 g16 r15 e17 => ?_)
  refine go_ifeq kk153_0.1.2.2.2.2 (inR_b r15) (fun c18 => ?_) (fun c19 => ?_)
  · refine go_int kk153_0.2.1.1.1.2 0 rfl ?_
    refine go_istore kk153_0.2.1.1.2.1 rfl (loc2 := [some (sR v0), some (sI v1), some (sI 0), u3]) rfl ?_
    refine go_int kk153_0.2.1.1.2.2 0 rfl ?_
    refine go_istore kk153_0.2.1.2.1.1 rfl (loc2 := [some (sR v0), some (sI v1), some (sI 0), some (sI 0)]) rfl ?_
    exact tlM_walked_38 hd e17 hK0 h1 fu 0 (inR_b (Or.inl rfl)) 0 (inR_b (Or.inl rfl))
  · refine go_int kk153_0.2.1.1.1.1.1 0 rfl ?_
    exact go_iret kk153_0.2.1.1.1.1.2 e17 (inR_b (Or.inl rfl)) ⟨Nat.zero_le _, Nat.zero_le _⟩ rfl
theorem tfM_walked {Φ : ev_P} {d : Nat} (hd : 3 ≤ d) {g : gH} (hg : HR g) {v0 v1 : Int} (hK0 : kd v0 = 7) (h1 : InR v1) : Go Φ pr_P fN 1 (fM_walked g v0 v1) d (pr_P 153) 0 (ev_loc (pr_P 153).1 [(sR v0), (sI v1)]) [] g 0 0 := by
  show Go Φ pr_P fN 1 (fM_walked g v0 v1) d pr_m153 0 [some (sR v0), some (sI v1), none, none] [] g 0 0
  unfold fM_walked
  refine go_aload kk153_0.1.1.1.1.1.1 rfl ?_
  refine go_int kk153_0.1.1.1.1.1.2 0 rfl ?_
  refine go_putI (bI := 8) kk153_0.1.1.1.1.2 hg hK0 (by decide) rfl rfl (inR_b (Or.inl rfl)) (fun g1 e2 => ?_)
  refine go_aload kk153_0.1.1.1.2.1 rfl ?_
  refine go_iload kk153_0.1.1.1.2.2 rfl ?_
  refine go_int kk153_0.1.1.2.1.1 0 rfl ?_
  refine go_aload kk153_0.1.1.2.1.2 rfl ?_
  refine go_callP1 kk153_0.1.1.2.2.1 rfl rfl rfl ⟨by decide, _, rfl, hK0⟩ ⟨Nat.zero_le _, Nat.zero_le _⟩ (by omega) (tfM_runningMany (by omega) e2 hK0 ) (fun y3 r4 => ?_)
  refine go_int kk153_0.1.1.2.2.2 1 rfl ?_
  refine go_isub kk153_0.1.2.1.1.1.1 ?_
  refine go_callP3 kk153_0.1.2.1.1.1.2 rfl rfl rfl trivial ⟨Nat.zero_le _, Nat.zero_le _⟩ (by omega) (tfM_inRange (by omega) e2  h1 (inR_b (Or.inl rfl)) (inR_w32 _)) (fun y7 r8 => ?_)
  refine go_ifeq kk153_0.1.2.1.1.2 (inR_b r8) (fun c11 => ?_) (fun c12 => ?_)
  · refine go_int kk153_0.1.2.1.2.1 1 rfl ?_
    refine go_goto kk153_0.1.2.1.2.2 ?_
    exact tjM_walked_25 hd e2 hK0 h1 (rfR_kd hK0 (by decide)) (Or.inr rfl) none rfl none rfl
  · refine go_int kk153_0.1.2.2.1.1 0 rfl ?_
    exact tjM_walked_25 hd e2 hK0 h1 (rfR_kd hK0 (by decide)) (Or.inl rfl) none rfl none rfl
theorem tbM_atDepth_9 {Φ : ev_P} {d : Nat} (hd : 1 ≤ d) {g : gH} (hg : HR g) {v0 v1 : Int} (hK0 : kd v0 = 7) (h1 : InR v1) {X9 : Int → Int → Option (Int × gH)} (HX9 : ∀ (v2 : Int) (h2 : InR v2) (v3 : Int) (h3 : InR v3), Go Φ pr_P fN 1 (X9 v2 v3) d pr_m154 9 [some (sR v0), some (sI v1), some (sI v2), some (sI v3)] [] g 0 0) : ∀ (v2 : Int) (h2 : InR v2) (v3 : Int) (h3 : InR v3), Go Φ pr_P fN 1 (bM_atDepth_9 g v0 v1 X9 v2 v3) d pr_m154 9 [some (sR v0), some (sI v1), some (sI v2), some (sI v3)] [] g 0 0 := by
  intro v2 h2 v3 h3
  unfold bM_atDepth_9
  refine go_iload kk154_0.1.1.2.2.2 rfl ?_
  refine go_aload kk154_0.1.2.1.1.1 rfl ?_
  refine go_getR (bI := 0) kk154_0.1.2.1.1.2 hg hK0 (by decide) rfl rfl (fun r3 => ?_)
  refine go_int kk154_0.1.2.1.2.1 0 rfl ?_
  refine go_ck (fun q5 => ?_)
  refine go_iald kk154_0.1.2.1.2.2 hg q5 (fun r4 => ?_)
  refine go_cmlt kk154_0.1.2.2.1.1 h3 r4 (fun c6 => ?_) (fun c7 => ?_)
  · refine go_iload kk154_0.1.2.2.1.2 rfl ?_
    refine go_aload kk154_0.1.2.2.2.1 rfl ?_
    refine go_iload kk154_0.1.2.2.2.2 rfl ?_
    refine go_callP3 kk154_0.2.1.1.1.1 rfl rfl rfl ⟨by decide, _, rfl, hK0⟩ ⟨Nat.zero_le _, Nat.zero_le _⟩ (by omega) (tfM_runs (by omega) hg hK0  h3) (fun y8 r9 => ?_)
    refine go_ifeq kk154_0.2.1.1.1.2 (inR_b r9) (fun c12 => ?_) (fun c13 => ?_)
    · refine go_int kk154_0.2.2.1.1.2 0 rfl ?_
      refine go_iadd kk154_0.2.2.1.2.1 ?_
      refine go_istore kk154_0.2.2.1.2.2 rfl (loc2 := [some (sR v0), some (sI v1), some (sI (w32 (v2 + 0))), some (sI v3)]) rfl ?_
      refine go_iinc kk154_0.2.2.2.1.1 rfl rfl 1 rfl (loc2 := [some (sR v0), some (sI v1), some (sI (w32 (v2 + 0))), some (sI (w32 (v3 + 1)))]) rfl ?_
      refine go_goto kk154_0.2.2.2.1.2 ?_
      exact HX9 (w32 (v2 + 0)) (inR_w32 _) (w32 (v3 + 1)) (inR_w32 _)
    · refine go_aload kk154_0.2.1.1.2.1 rfl ?_
      refine go_iload kk154_0.2.1.1.2.2 rfl ?_
      refine go_callP1 kk154_0.2.1.2.1.1 rfl rfl rfl ⟨by decide, _, rfl, hK0⟩ ⟨Nat.zero_le _, Nat.zero_le _⟩ (by omega) (tfM_deep (by omega) hg hK0  h3) (fun y14 r15 => ?_)
      refine go_iload kk154_0.2.1.2.1.2 rfl ?_
      refine go_cmeq kk154_0.2.1.2.2.1 r15 h1 (fun c18 => ?_) (fun c19 => ?_)
      · refine go_int kk154_0.2.1.2.2.2 1 rfl ?_
        refine go_goto kk154_0.2.2.1.1.1 ?_
        refine go_iadd kk154_0.2.2.1.2.1 ?_
        refine go_istore kk154_0.2.2.1.2.2 rfl (loc2 := [some (sR v0), some (sI v1), some (sI (w32 (v2 + 1))), some (sI v3)]) rfl ?_
        refine go_iinc kk154_0.2.2.2.1.1 rfl rfl 1 rfl (loc2 := [some (sR v0), some (sI v1), some (sI (w32 (v2 + 1))), some (sI (w32 (v3 + 1)))]) rfl ?_
        refine go_goto kk154_0.2.2.2.1.2 ?_
        exact HX9 (w32 (v2 + 1)) (inR_w32 _) (w32 (v3 + 1)) (inR_w32 _)
      · refine go_int kk154_0.2.2.1.1.2 0 rfl ?_
        refine go_iadd kk154_0.2.2.1.2.1 ?_
        refine go_istore kk154_0.2.2.1.2.2 rfl (loc2 := [some (sR v0), some (sI v1), some (sI (w32 (v2 + 0))), some (sI v3)]) rfl ?_
        refine go_iinc kk154_0.2.2.2.1.1 rfl rfl 1 rfl (loc2 := [some (sR v0), some (sI v1), some (sI (w32 (v2 + 0))), some (sI (w32 (v3 + 1)))]) rfl ?_
        refine go_goto kk154_0.2.2.2.1.2 ?_
        exact HX9 (w32 (v2 + 0)) (inR_w32 _) (w32 (v3 + 1)) (inR_w32 _)
  · refine go_iload kk154_0.2.2.2.2.1 rfl ?_
    exact go_iret kk154_0.2.2.2.2.2 hg h2 ⟨Nat.zero_le _, Nat.zero_le _⟩ rfl
theorem tlM_atDepth_9 {Φ : ev_P} {d : Nat} (hd : 1 ≤ d) {g : gH} (hg : HR g) {v0 v1 : Int} (hK0 : kd v0 = 7) (h1 : InR v1) : ∀ n : Nat, ∀ (v2 : Int) (h2 : InR v2) (v3 : Int) (h3 : InR v3), Go Φ pr_P fN 1 (lM_atDepth_9 g v0 v1 n v2 v3) d pr_m154 9 [some (sR v0), some (sI v1), some (sI v2), some (sI v3)] [] g 0 0 := by
  intro n
  induction n with
  | zero => intros; exact go_none
  | succ n ih => exact tbM_atDepth_9 hd hg hK0 h1 ih
theorem tfM_atDepth {Φ : ev_P} {d : Nat} (hd : 1 ≤ d) {g : gH} (hg : HR g) {v0 v1 : Int} (hK0 : kd v0 = 7) (h1 : InR v1) : Go Φ pr_P fN 1 (fM_atDepth g v0 v1) d (pr_P 154) 0 (ev_loc (pr_P 154).1 [(sR v0), (sI v1)]) [] g 0 0 := by
  show Go Φ pr_P fN 1 (fM_atDepth g v0 v1) d pr_m154 0 [some (sR v0), some (sI v1), none, none] [] g 0 0
  unfold fM_atDepth
  refine go_aload kk154_0.1.1.1.1.1 rfl ?_
  refine go_int kk154_0.1.1.1.1.2 0 rfl ?_
  refine go_putI (bI := 8) kk154_0.1.1.1.2.1 hg hK0 (by decide) rfl rfl (inR_b (Or.inl rfl)) (fun g1 e2 => ?_)
  refine go_int kk154_0.1.1.1.2.2 0 rfl ?_
  refine go_istore kk154_0.1.1.2.1.1 rfl (loc2 := [some (sR v0), some (sI v1), some (sI 0), none]) rfl ?_
  refine go_int kk154_0.1.1.2.1.2 0 rfl ?_
  refine go_istore kk154_0.1.1.2.2.1 rfl (loc2 := [some (sR v0), some (sI v1), some (sI 0), some (sI 0)]) rfl ?_
  exact tlM_atDepth_9 hd e2 hK0 h1 fu 0 (inR_b (Or.inl rfl)) 0 (inR_b (Or.inl rfl))
theorem tbM_highest_4 {Φ : ev_P} {d : Nat} (hd : 1 ≤ d) {g : gH} (hg : HR g) {v0 : Int} (hK0 : kd v0 = 7) {X4 : Int → Int → Option Int} (HX4 : ∀ (v1 : Int) (h1 : InR v1) (v2 : Int) (h2 : InR v2), Go Φ pr_P (fP g) 1 (X4 v1 v2) d pr_m155 4 [some (sR v0), some (sI v1), some (sI v2)] [] g 0 0) : ∀ (v1 : Int) (h1 : InR v1) (v2 : Int) (h2 : InR v2), Go Φ pr_P (fP g) 1 (bM_highest_4 g v0 X4 v1 v2) d pr_m155 4 [some (sR v0), some (sI v1), some (sI v2)] [] g 0 0 := by
  intro v1 h1 v2 h2
  unfold bM_highest_4
  refine go_iload kk155_0.1.1.2.1.2 rfl ?_
  refine go_aload kk155_0.1.1.2.2 rfl ?_
  refine go_getR (bI := 0) kk155_0.1.2.1.1.1 hg hK0 (by decide) rfl rfl (fun r1 => ?_)
  refine go_int kk155_0.1.2.1.1.2 0 rfl ?_
  refine go_ck (fun q3 => ?_)
  refine go_iald kk155_0.1.2.1.2 hg q3 (fun r2 => ?_)
  refine go_cmlt kk155_0.1.2.2.1.1 h2 r2 (fun c4 => ?_) (fun c5 => ?_)
  · refine go_aload kk155_0.1.2.2.1.2 rfl ?_
    refine go_iload kk155_0.1.2.2.2 rfl ?_
    refine go_callP3 kk155_0.2.1.1.1.1 rfl rfl rfl ⟨by decide, _, rfl, hK0⟩ ⟨Nat.zero_le _, Nat.zero_le _⟩ (by omega) (tfM_runs (by omega) hg hK0  h2) (fun y6 r7 => ?_)
    refine go_ifeq kk155_0.2.1.1.1.2 (inR_b r7) (fun c10 => ?_) (fun c11 => ?_)
    · refine go_iinc kk155_0.2.2.1.2 rfl rfl 1 rfl (loc2 := [some (sR v0), some (sI v1), some (sI (w32 (v2 + 1)))]) rfl ?_
      refine go_goto kk155_0.2.2.2.1.1 ?_
      exact HX4 v1 h1 (w32 (v2 + 1)) (inR_w32 _)
    · refine go_iload kk155_0.2.1.1.2 rfl ?_
      refine go_aload kk155_0.2.1.2.1.1 rfl ?_
      refine go_iload kk155_0.2.1.2.1.2 rfl ?_
      refine go_callP1 kk155_0.2.1.2.2 rfl rfl rfl ⟨by decide, _, rfl, hK0⟩ ⟨Nat.zero_le _, Nat.zero_le _⟩ (by omega) (tfM_deep (by omega) hg hK0  h2) (fun y12 r13 => ?_)
      refine go_max kk155_0.2.2.1.1.1 h1 r13 rfl ⟨Nat.zero_le _, Nat.zero_le _⟩ ?_
      refine go_istore kk155_0.2.2.1.1.2 rfl (loc2 := [some (sR v0), some (sI (gmax v1 y12)), some (sI v2)]) rfl ?_
      refine go_iinc kk155_0.2.2.1.2 rfl rfl 1 rfl (loc2 := [some (sR v0), some (sI (gmax v1 y12)), some (sI (w32 (v2 + 1)))]) rfl ?_
      refine go_goto kk155_0.2.2.2.1.1 ?_
      exact HX4 (gmax v1 y12) (inR_gmax h1 r13) (w32 (v2 + 1)) (inR_w32 _)
  · refine go_iload kk155_0.2.2.2.1.2 rfl ?_
    exact go_iret kk155_0.2.2.2.2 hg h1 ⟨Nat.zero_le _, Nat.zero_le _⟩ rfl
theorem tlM_highest_4 {Φ : ev_P} {d : Nat} (hd : 1 ≤ d) {g : gH} (hg : HR g) {v0 : Int} (hK0 : kd v0 = 7) : ∀ n : Nat, ∀ (v1 : Int) (h1 : InR v1) (v2 : Int) (h2 : InR v2), Go Φ pr_P (fP g) 1 (lM_highest_4 g v0 n v1 v2) d pr_m155 4 [some (sR v0), some (sI v1), some (sI v2)] [] g 0 0 := by
  intro n
  induction n with
  | zero => intros; exact go_none
  | succ n ih => exact tbM_highest_4 hd hg hK0 ih
theorem tfM_highest {Φ : ev_P} {d : Nat} (hd : 1 ≤ d) {g : gH} (hg : HR g) {v0 : Int} (hK0 : kd v0 = 7) : Go Φ pr_P (fP g) 1 (fM_highest g v0) d (pr_P 155) 0 (ev_loc (pr_P 155).1 [(sR v0)]) [] g 0 0 := by
  show Go Φ pr_P (fP g) 1 (fM_highest g v0) d pr_m155 0 [some (sR v0), none, none] [] g 0 0
  unfold fM_highest
  refine go_int kk155_0.1.1.1.1.1 0 rfl ?_
  refine go_istore kk155_0.1.1.1.1.2 rfl (loc2 := [some (sR v0), some (sI 0), none]) rfl ?_
  refine go_int kk155_0.1.1.1.2 0 rfl ?_
  refine go_istore kk155_0.1.1.2.1.1 rfl (loc2 := [some (sR v0), some (sI 0), some (sI 0)]) rfl ?_
  exact tlM_highest_4 hd hg hK0 fu 0 (inR_b (Or.inl rfl)) 0 (inR_b (Or.inl rfl))
theorem tfM_height {Φ : ev_P} {d : Nat} (hd : 2 ≤ d) {g : gH} (hg : HR g) {v0 : Int} (hK0 : kd v0 = 7) : Go Φ pr_P fN 1 (fM_height g v0) d (pr_P 156) 0 (ev_loc (pr_P 156).1 [(sR v0)]) [] g 0 0 := by
  show Go Φ pr_P fN 1 (fM_height g v0) d pr_m156 0 [some (sR v0)] [] g 0 0
  unfold fM_height
  refine go_aload kk156_0.1.1.1 rfl ?_
  refine go_int kk156_0.1.1.2 0 rfl ?_
  refine go_putI (bI := 8) kk156_0.1.2 hg hK0 (by decide) rfl rfl (inR_b (Or.inl rfl)) (fun g1 e2 => ?_)
  refine go_aload kk156_0.2.1.1 rfl ?_
  refine go_callP1 kk156_0.2.1.2 rfl rfl rfl ⟨by decide, _, rfl, hK0⟩ ⟨Nat.zero_le _, Nat.zero_le _⟩ (by omega) (tfM_highest (by omega) e2 hK0 ) (fun y3 r4 => ?_)
  exact go_iret kk156_0.2.2 e2 r4 ⟨Nat.zero_le _, Nat.zero_le _⟩ rfl
theorem tjM_remembers_37 {Φ : ev_P} {d : Nat} (hd : 1 ≤ d) {g : gH} (hg : HR g) {v0 : Int} (hK0 : kd v0 = 7) : Go Φ pr_P fN 0 (jM_remembers_37 g v0 ) d pr_m80 37 [some (sR v0)] [] g 0 0 := by
  unfold jM_remembers_37
  refine go_aload kk80_0.2.1.1.1.1.1 rfl ?_
  refine go_getR (bI := 0) kk80_0.2.1.1.1.1.2 hg hK0 (by decide) rfl rfl (fun r13 => ?_)
  refine go_int kk80_0.2.1.1.1.2 0 rfl ?_
  refine go_aload kk80_0.2.1.1.2.1 rfl ?_
  refine go_getR (bI := 4) kk80_0.2.1.1.2.2 hg hK0 (by decide) rfl rfl (fun r14 => ?_)
  refine go_int kk80_0.2.1.2.1.1 780 rfl ?_
  refine go_aload kk80_0.2.1.2.1.2 rfl ?_
  refine go_getI (bI := 6) kk80_0.2.1.2.2.1 hg hK0 (by decide) rfl rfl (fun r15 => ?_)
  refine go_ibin kk80_0.2.1.2.2.2 ?_
  refine go_int kk80_0.2.2.1.1.1.1 780 rfl ?_
  refine go_callN0 kk80_0.2.2.1.1.1.2 rfl rfl rfl trivial ⟨Nat.zero_le _, Nat.zero_le _⟩ (by omega) (tfM_copies (by omega) hg  r13 (inR_b (Or.inl rfl)) r14 (inR_opI _ _ _) (inR_of (by decide))) (fun y16 g18 e19 => ?_)
  refine go_aload kk80_0.2.2.1.1.2 rfl ?_
  refine go_dupR kk80_0.2.2.1.2.1 ?_
  refine go_getI (bI := 6) kk80_0.2.2.1.2.2 e19 hK0 (by decide) rfl rfl (fun r20 => ?_)
  refine go_int kk80_0.2.2.2.1.1 1 rfl ?_
  refine go_iadd kk80_0.2.2.2.1.2 ?_
  refine go_putI (bI := 6) kk80_0.2.2.2.2.1 e19 hK0 (by decide) rfl rfl (inR_w32 _) (fun g21 e22 => ?_)
  exact go_vret kk80_0.2.2.2.2.2 e22 ⟨Nat.zero_le _, Nat.zero_le _⟩ rfl
theorem tfM_remembers {Φ : ev_P} {d : Nat} (hd : 1 ≤ d) {g : gH} (hg : HR g) {v0 : Int} (hK0 : kd v0 = 7) : Go Φ pr_P fN 0 (fM_remembers g v0) d (pr_P 80) 0 (ev_loc (pr_P 80).1 [(sR v0)]) [] g 0 0 := by
  show Go Φ pr_P fN 0 (fM_remembers g v0) d pr_m80 0 [some (sR v0)] [] g 0 0
  unfold fM_remembers
  refine go_aload kk80_0.1.1.1.1.1.1 rfl ?_
  refine go_getI (bI := 6) kk80_0.1.1.1.1.1.2 hg hK0 (by decide) rfl rfl (fun r1 => ?_)
  refine go_int kk80_0.1.1.1.1.2 10 rfl ?_
  refine go_cmeq kk80_0.1.1.1.2.1 r1 (inR_of (by decide)) (fun c2 => ?_) (fun c3 => ?_)
  · refine go_aload kk80_0.1.1.1.2.2 rfl ?_
    refine go_getR (bI := 4) kk80_0.1.1.2.1.1 hg hK0 (by decide) rfl rfl (fun r4 => ?_)
    refine go_int kk80_0.1.1.2.1.2 780 rfl ?_
    refine go_aload kk80_0.1.1.2.2.1 rfl ?_
    refine go_getR (bI := 4) kk80_0.1.1.2.2.2 hg hK0 (by decide) rfl rfl (fun r5 => ?_)
    refine go_int kk80_0.1.2.1.1.1.1 0 rfl ?_
    refine go_int kk80_0.1.2.1.1.1.2 7020 rfl ?_
    refine go_callN0 kk80_0.1.2.1.1.2 rfl rfl rfl trivial ⟨Nat.zero_le _, Nat.zero_le _⟩ (by omega) (tfM_copies (by omega) hg  r4 (inR_of (by decide)) r5 (inR_b (Or.inl rfl)) (inR_of (by decide))) (fun y6 g8 e9 => ?_)
    refine go_aload kk80_0.1.2.1.2.1 rfl ?_
    refine go_dupR kk80_0.1.2.1.2.2 ?_
    refine go_getI (bI := 6) kk80_0.1.2.2.1.1 e9 hK0 (by decide) rfl rfl (fun r10 => ?_)
    refine go_int kk80_0.1.2.2.1.2 1 rfl ?_
    refine go_isub kk80_0.1.2.2.2.1 ?_
    refine go_putI (bI := 6) kk80_0.1.2.2.2.2 e9 hK0 (by decide) rfl rfl (inR_w32 _) (fun g11 e12 => ?_)
    exact tjM_remembers_37 hd e12 hK0
  · exact tjM_remembers_37 hd hg hK0
theorem tfM_isSmall {Φ : ev_P} {d : Nat} (hd : 1 ≤ d) {g : gH} (hg : HR g) {v0 : Int} (h0 : InR v0) : Go Φ pr_P (fP g) 3 (fM_isSmall g v0) d (pr_P 157) 0 (ev_loc (pr_P 157).1 [(sI v0)]) [] g 0 0 := by
  show Go Φ pr_P (fP g) 3 (fM_isSmall g v0) d pr_m157 0 [some (sI v0)] [] g 0 0
  unfold fM_isSmall
  refine go_iload kk157_0.1.1.1 rfl ?_
  refine go_int kk157_0.1.1.2 0 rfl ?_
  refine go_int kk157_0.1.2 9 rfl ?_
  refine go_callP3 kk157_0.2.1 rfl rfl rfl trivial ⟨Nat.zero_le _, Nat.zero_le _⟩ (by omega) (tfM_inRange (by omega) hg  h0 (inR_b (Or.inl rfl)) (inR_of (by decide))) (fun y1 r2 => ?_)
  exact go_bret kk157_0.2.2 hg r2 ⟨Nat.zero_le _, Nat.zero_le _⟩ rfl
theorem tjM_spawn_70 {Φ : ev_P} {d : Nat} (hd : 3 ≤ d) {g : gH} (hg : HR g) {v0 v1 v2 v3 v4 : Int} (hK0 : kd v0 = 7) (h1 : InR v1) (h2 : InR v2) (h3 : InR v3) (h4 : InR v4) {s0 s1 : Int} (z0 : RfR s0) (z1 : B01 s1) : Go Φ pr_P fN 1 (jM_spawn_70 g v0 v1 v2 v3 v4 s0 s1 ) d pr_m158 70 [some (sR v0), some (sI v1), some (sI v2), some (sI v3), some (sI v4)] [(sI s1), (sR s0)] g 0 0 := by
  unfold jM_spawn_70
  refine go_int kk158_0.2.1.2.2.1.2 3 rfl ?_
  refine go_ck (fun q43 => ?_)
  refine go_callN3 kk158_0.2.1.2.2.2 rfl rfl rfl ⟨by decide, _, rfl, q43⟩ ⟨Nat.zero_le _, Nat.zero_le _⟩ (by omega) (tfM_fails (by omega) hg q43  z1 (inR_of (by decide))) (fun y44 g46 r45 e47 => ?_)
  refine go_ifeq kk158_0.2.2.1.1.1.1 (inR_b r45) (fun c48 => ?_) (fun c49 => ?_)
  · refine go_aload kk158_0.2.2.1.2.1.1 rfl ?_
    refine go_callN0 kk158_0.2.2.1.2.1.2 rfl rfl rfl ⟨by decide, _, rfl, hK0⟩ ⟨Nat.zero_le _, Nat.zero_le _⟩ (by omega) (tfM_remembers (by omega) e47 hK0 ) (fun y50 g52 e53 => ?_)
    refine go_aload kk158_0.2.2.1.2.2 rfl ?_
    refine go_iload kk158_0.2.2.2.1.1.1 rfl ?_
    refine go_iload kk158_0.2.2.2.1.1.2 rfl ?_
    refine go_iload kk158_0.2.2.2.1.2 rfl ?_
    refine go_iload kk158_0.2.2.2.2.1.1 rfl ?_
    refine go_callN1 kk158_0.2.2.2.2.1.2 rfl rfl rfl ⟨by decide, _, rfl, hK0⟩ ⟨Nat.zero_le _, Nat.zero_le _⟩ (by omega) (tfM_comes (by omega) e53 hK0  h1 h2 h3 h4) (fun y54 g56 r55 e57 => ?_)
    exact go_iret kk158_0.2.2.2.2.2 e57 r55 ⟨Nat.zero_le _, Nat.zero_le _⟩ rfl
  · refine go_int kk158_0.2.2.1.1.1.2 0 rfl ?_
    exact go_iret kk158_0.2.2.1.1.2 e47 (inR_b (Or.inl rfl)) ⟨Nat.zero_le _, Nat.zero_le _⟩ rfl
theorem tjM_spawn_65 {Φ : ev_P} {d : Nat} (hd : 3 ≤ d) {g : gH} (hg : HR g) {v0 v1 v2 v3 v4 : Int} (hK0 : kd v0 = 7) (h1 : InR v1) (h2 : InR v2) (h3 : InR v3) (h4 : InR v4) {s0 : Int} (z0 : RfR s0) : Go Φ pr_P fN 1 (jM_spawn_65 g v0 v1 v2 v3 v4 s0 ) d pr_m158 65 [some (sR v0), some (sI v1), some (sI v2), some (sI v3), some (sI v4)] [(sR s0)] g 0 0 := by
  unfold jM_spawn_65
  refine go_int kk158_0.2.1.2.1.1.2 1 rfl ?_
  refine go_goto kk158_0.2.1.2.1.2 ?_
  exact tjM_spawn_70 hd hg hK0 h1 h2 h3 h4 z0 (Or.inr rfl)
theorem tjM_spawn_36 {Φ : ev_P} {d : Nat} (hd : 3 ≤ d) {g : gH} (hg : HR g) {v0 v1 v2 v3 v4 : Int} (hK0 : kd v0 = 7) (h1 : InR v1) (h2 : InR v2) (h3 : InR v3) (h4 : InR v4) {s0 s1 : Int} (z0 : RfR s0) (z1 : B01 s1) : Go Φ pr_P fN 1 (jM_spawn_36 g v0 v1 v2 v3 v4 s0 s1 ) d pr_m158 36 [some (sR v0), some (sI v1), some (sI v2), some (sI v3), some (sI v4)] [(sI s1), (sR s0)] g 0 0 := by
  unfold jM_spawn_36
  refine go_int kk158_0.1.2.1.2.1.2 2 rfl ?_
  refine go_ck (fun q25 => ?_)
  refine go_callN3 kk158_0.1.2.1.2.2 rfl rfl rfl ⟨by decide, _, rfl, q25⟩ ⟨Nat.zero_le _, Nat.zero_le _⟩ (by omega) (tfM_fails (by omega) hg q25  z1 (inR_of (by decide))) (fun y26 g28 r27 e29 => ?_)
  refine go_ifeq kk158_0.1.2.2.1.1.1 (inR_b r27) (fun c30 => ?_) (fun c31 => ?_)
  · refine go_aload kk158_0.1.2.2.2.1.1 rfl ?_
    refine go_aload kk158_0.1.2.2.2.1.2 rfl ?_
    refine go_iload kk158_0.1.2.2.2.2 rfl ?_
    refine go_callP1 kk158_0.2.1.1.1.1.1 rfl rfl rfl ⟨by decide, _, rfl, hK0⟩ ⟨Nat.zero_le _, Nat.zero_le _⟩ (by omega) (tfM_roomOf (by omega) e29 hK0  h1) (fun y32 r33 => ?_)
    refine go_ifeq kk158_0.2.1.1.1.1.2 r33 (fun c36 => ?_) (fun c37 => ?_)
    · exact tjM_spawn_65 hd e29 hK0 h1 h2 h3 h4 (rfR_kd hK0 (by decide))
    · refine go_aload kk158_0.2.1.1.1.2.1 rfl ?_
      refine go_getR (bI := 0) kk158_0.2.1.1.1.2.2 e29 hK0 (by decide) rfl rfl (fun r38 => ?_)
      refine go_int kk158_0.2.1.1.2.1.1 0 rfl ?_
      refine go_ck (fun q40 => ?_)
      refine go_iald kk158_0.2.1.1.2.1.2 e29 q40 (fun r39 => ?_)
      refine go_int kk158_0.2.1.1.2.2 40 rfl ?_
      refine go_cmeq kk158_0.2.1.2.1.1.1 r39 (inR_of (by decide)) (fun c41 => ?_) (fun c42 => ?_)
      · exact tjM_spawn_65 hd e29 hK0 h1 h2 h3 h4 (rfR_kd hK0 (by decide))
      · refine go_int kk158_0.2.1.2.2.1.1 0 rfl ?_
        exact tjM_spawn_70 hd e29 hK0 h1 h2 h3 h4 (rfR_kd hK0 (by decide)) (Or.inl rfl)
  · refine go_int kk158_0.1.2.2.1.1.2 0 rfl ?_
    exact go_iret kk158_0.1.2.2.1.2 e29 (inR_b (Or.inl rfl)) ⟨Nat.zero_le _, Nat.zero_le _⟩ rfl
theorem tjM_spawn_31 {Φ : ev_P} {d : Nat} (hd : 3 ≤ d) {g : gH} (hg : HR g) {v0 v1 v2 v3 v4 : Int} (hK0 : kd v0 = 7) (h1 : InR v1) (h2 : InR v2) (h3 : InR v3) (h4 : InR v4) {s0 : Int} (z0 : RfR s0) : Go Φ pr_P fN 1 (jM_spawn_31 g v0 v1 v2 v3 v4 s0 ) d pr_m158 31 [some (sR v0), some (sI v1), some (sI v2), some (sI v3), some (sI v4)] [(sR s0)] g 0 0 := by
  unfold jM_spawn_31
  refine go_int kk158_0.1.2.1.1.1.2 1 rfl ?_
  refine go_goto kk158_0.1.2.1.1.2 ?_
  exact tjM_spawn_36 hd hg hK0 h1 h2 h3 h4 z0 (Or.inr rfl)
theorem tfM_spawn {Φ : ev_P} {d : Nat} (hd : 3 ≤ d) {g : gH} (hg : HR g) {v0 v1 v2 v3 v4 : Int} (hK0 : kd v0 = 7) (h1 : InR v1) (h2 : InR v2) (h3 : InR v3) (h4 : InR v4) : Go Φ pr_P fN 1 (fM_spawn g v0 v1 v2 v3 v4) d (pr_P 158) 0 (ev_loc (pr_P 158).1 [(sR v0), (sI v1), (sI v2), (sI v3), (sI v4)]) [] g 0 0 := by
  show Go Φ pr_P fN 1 (fM_spawn g v0 v1 v2 v3 v4) d pr_m158 0 [some (sR v0), some (sI v1), some (sI v2), some (sI v3), some (sI v4)] [] g 0 0
  unfold fM_spawn
  refine go_aload kk158_0.1.1.1.1.1.1 rfl ?_
  refine go_iload kk158_0.1.1.1.1.1.2 rfl ?_
  refine go_callN3 kk158_0.1.1.1.1.2.1 rfl rfl rfl ⟨by decide, _, rfl, hK0⟩ ⟨Nat.zero_le _, Nat.zero_le _⟩ (by omega) (tfM_noProcess (by omega) hg hK0  h1) (fun y1 g3 r2 e4 => ?_)
  refine go_ifeq kk158_0.1.1.1.1.2.2 (inR_b r2) (fun c5 => ?_) (fun c6 => ?_)
  · refine go_aload kk158_0.1.1.1.2.1.1 rfl ?_
    refine go_iload kk158_0.1.1.1.2.1.2 rfl ?_
    refine go_callP3 kk158_0.1.1.1.2.2 rfl rfl rfl trivial ⟨Nat.zero_le _, Nat.zero_le _⟩ (by omega) (tfM_isSmall (by omega) e4  h2) (fun y7 r8 => ?_)
    refine go_ifeq kk158_0.1.1.2.1.1.1 (inR_b r8) (fun c11 => ?_) (fun c12 => ?_)
    · exact tjM_spawn_31 hd e4 hK0 h1 h2 h3 h4 (rfR_kd hK0 (by decide))
    · refine go_iload kk158_0.1.1.2.1.1.2 rfl ?_
      refine go_callP3 kk158_0.1.1.2.1.2 rfl rfl rfl trivial ⟨Nat.zero_le _, Nat.zero_le _⟩ (by omega) (tfM_isSmall (by omega) e4  h3) (fun y13 r14 => ?_)
      refine go_ifeq kk158_0.1.1.2.2.1.1 (inR_b r14) (fun c17 => ?_) (fun c18 => ?_)
      · exact tjM_spawn_31 hd e4 hK0 h1 h2 h3 h4 (rfR_kd hK0 (by decide))
      · refine go_iload kk158_0.1.1.2.2.1.2 rfl ?_
        refine go_callP3 kk158_0.1.1.2.2.2 rfl rfl rfl trivial ⟨Nat.zero_le _, Nat.zero_le _⟩ (by omega) (tfM_isSmall (by omega) e4  h4) (fun y19 r20 => ?_)
        refine go_ifeq kk158_0.1.2.1.1.1.1 (inR_b r20) (fun c23 => ?_) (fun c24 => ?_)
        · exact tjM_spawn_31 hd e4 hK0 h1 h2 h3 h4 (rfR_kd hK0 (by decide))
        · refine go_int kk158_0.1.2.1.2.1.1 0 rfl ?_
          exact tjM_spawn_36 hd e4 hK0 h1 h2 h3 h4 (rfR_kd hK0 (by decide)) (Or.inl rfl)
  · refine go_int kk158_0.1.2.2.1.1.2 0 rfl ?_
    exact go_iret kk158_0.1.2.2.1.2 e4 (inR_b (Or.inl rfl)) ⟨Nat.zero_le _, Nat.zero_le _⟩ rfl
theorem tfM_canAdopt {Φ : ev_P} {d : Nat} (hd : 3 ≤ d) {g : gH} (hg : HR g) {v0 v1 v2 : Int} (hK0 : kd v0 = 7) (h1 : InR v1) (h2 : InR v2) : Go Φ pr_P (fP g) 3 (fM_canAdopt g v0 v1 v2) d (pr_P 91) 0 (ev_loc (pr_P 91).1 [(sR v0), (sI v1), (sI v2)]) [] g 0 0 := by
  show Go Φ pr_P (fP g) 3 (fM_canAdopt g v0 v1 v2) d pr_m91 0 [some (sR v0), some (sI v1), some (sI v2)] [] g 0 0
  unfold fM_canAdopt
  refine go_aload kk91_0.1.1.1.1.1.1 rfl ?_
  refine go_iload kk91_0.1.1.1.1.1.2 rfl ?_
  refine go_callP3 kk91_0.1.1.1.1.2 rfl rfl rfl ⟨by decide, _, rfl, hK0⟩ ⟨Nat.zero_le _, Nat.zero_le _⟩ (by omega) (tfM_runs (by omega) hg hK0  h1) (fun y1 r2 => ?_)
  refine go_ifeq kk91_0.1.1.1.2.1.1 (inR_b r2) (fun c5 => ?_) (fun c6 => ?_)
  · refine go_int kk91_0.2.2.2.2.1 0 rfl ?_
    exact go_bret kk91_0.2.2.2.2.2 hg (Or.inl rfl) ⟨Nat.zero_le _, Nat.zero_le _⟩ rfl
  · refine go_iload kk91_0.1.1.1.2.1.2 rfl ?_
    refine go_iload kk91_0.1.1.1.2.2 rfl ?_
    refine go_cmeq kk91_0.1.1.2.1.1.1 h1 h2 (fun c7 => ?_) (fun c8 => ?_)
    · refine go_int kk91_0.2.2.2.2.1 0 rfl ?_
      exact go_bret kk91_0.2.2.2.2.2 hg (Or.inl rfl) ⟨Nat.zero_le _, Nat.zero_le _⟩ rfl
    · refine go_aload kk91_0.1.1.2.1.1.2 rfl ?_
      refine go_iload kk91_0.1.1.2.1.2 rfl ?_
      refine go_iload kk91_0.1.1.2.2.1 rfl ?_
      refine go_callP3 kk91_0.1.1.2.2.2 rfl rfl rfl ⟨by decide, _, rfl, hK0⟩ ⟨Nat.zero_le _, Nat.zero_le _⟩ (by omega) (tfM_isOver (by omega) hg hK0  h2 h1) (fun y9 r10 => ?_)
      refine go_ifeq kk91_0.1.2.1.1.1.1 (inR_b r10) (fun c13 => ?_) (fun c14 => ?_)
      · refine go_aload kk91_0.1.2.1.1.1.2 rfl ?_
        refine go_getR (bI := 5) kk91_0.1.2.1.1.2 hg hK0 (by decide) rfl rfl (fun r15 => ?_)
        refine go_iload kk91_0.1.2.1.2.1.1 rfl ?_
        refine go_ck (fun q17 => ?_)
        refine go_zald kk91_0.1.2.1.2.1.2 hg q17 (fun r16 => ?_)
        refine go_ifeq kk91_0.1.2.1.2.2 (inR_b r16) (fun c18 => ?_) (fun c19 => ?_)
        · refine go_aload kk91_0.1.2.2.1.1.1 rfl ?_
          refine go_iload kk91_0.1.2.2.1.1.2 rfl ?_
          refine go_callP1 kk91_0.1.2.2.1.2 rfl rfl rfl ⟨by decide, _, rfl, hK0⟩ ⟨Nat.zero_le _, Nat.zero_le _⟩ (by omega) (tfM_roomOf (by omega) hg hK0  h1) (fun y20 r21 => ?_)
          refine go_ifgt kk91_0.1.2.2.2.1 r21 (fun c24 => ?_) (fun c25 => ?_)
          · refine go_aload kk91_0.1.2.2.2.2 rfl ?_
            refine go_iload kk91_0.2.1.1.1.1.1 rfl ?_
            refine go_callP1 kk91_0.2.1.1.1.1.2 rfl rfl rfl ⟨by decide, _, rfl, hK0⟩ ⟨Nat.zero_le _, Nat.zero_le _⟩ (by omega) (tfM_deep (by omega) hg hK0  h1) (fun y26 r27 => ?_)
            refine go_aload kk91_0.2.1.1.1.2 rfl ?_
            refine go_getR (bI := 0) kk91_0.2.1.1.2.1.1 hg hK0 (by decide) rfl rfl (fun r30 => ?_)
            refine go_int kk91_0.2.1.1.2.1.2 59 rfl ?_
            refine go_ck (fun q32 => ?_)
            refine go_iald kk91_0.2.1.1.2.2 hg q32 (fun r31 => ?_)
            refine go_cmlt kk91_0.2.1.2.1.1.1 r27 r31 (fun c33 => ?_) (fun c34 => ?_)
            · refine go_aload kk91_0.2.1.2.1.1.2 rfl ?_
              refine go_iload kk91_0.2.1.2.1.2 rfl ?_
              refine go_aload kk91_0.2.1.2.2.1 rfl ?_
              refine go_getR (bI := 0) kk91_0.2.1.2.2.2 hg hK0 (by decide) rfl rfl (fun r35 => ?_)
              refine go_int kk91_0.2.2.1.1.1.1 180 rfl ?_
              refine go_iload kk91_0.2.2.1.1.1.2 rfl ?_
              refine go_iadd kk91_0.2.2.1.1.2 ?_
              refine go_ck (fun q37 => ?_)
              refine go_iald kk91_0.2.2.1.2.1 hg q37 (fun r36 => ?_)
              refine go_callP3 kk91_0.2.2.1.2.2 rfl rfl rfl ⟨by decide, _, rfl, hK0⟩ ⟨Nat.zero_le _, Nat.zero_le _⟩ (by omega) (tfM_refusesGroup (by omega) hg hK0  h1 r36) (fun y38 r39 => ?_)
              refine go_ifeq kk91_0.2.2.2.1.1.1 (inR_b r39) (fun c42 => ?_) (fun c43 => ?_)
              · refine go_int kk91_0.2.2.2.1.1.2 1 rfl ?_
                refine go_goto kk91_0.2.2.2.1.2 ?_
                exact go_bret kk91_0.2.2.2.2.2 hg (Or.inr rfl) ⟨Nat.zero_le _, Nat.zero_le _⟩ rfl
              · refine go_int kk91_0.2.2.2.2.1 0 rfl ?_
                exact go_bret kk91_0.2.2.2.2.2 hg (Or.inl rfl) ⟨Nat.zero_le _, Nat.zero_le _⟩ rfl
            · refine go_int kk91_0.2.2.2.2.1 0 rfl ?_
              exact go_bret kk91_0.2.2.2.2.2 hg (Or.inl rfl) ⟨Nat.zero_le _, Nat.zero_le _⟩ rfl
          · refine go_int kk91_0.2.2.2.2.1 0 rfl ?_
            exact go_bret kk91_0.2.2.2.2.2 hg (Or.inl rfl) ⟨Nat.zero_le _, Nat.zero_le _⟩ rfl
        · refine go_int kk91_0.2.2.2.2.1 0 rfl ?_
          exact go_bret kk91_0.2.2.2.2.2 hg (Or.inl rfl) ⟨Nat.zero_le _, Nat.zero_le _⟩ rfl
      · refine go_int kk91_0.2.2.2.2.1 0 rfl ?_
        exact go_bret kk91_0.2.2.2.2.2 hg (Or.inl rfl) ⟨Nat.zero_le _, Nat.zero_le _⟩ rfl
theorem tbM_nearest_2 {Φ : ev_P} {d : Nat} (hd : 4 ≤ d) {g : gH} (hg : HR g) {v0 v1 v2 : Int} (hK0 : kd v0 = 7) (h1 : InR v1) (h2 : InR v2) {X2 : Int → Option Int} (HX2 : ∀ (v3 : Int) (h3 : InR v3), Go Φ pr_P (fP g) 1 (X2 v3) d pr_m92 2 [some (sR v0), some (sI v1), some (sI v2), some (sI v3)] [] g 0 0) : ∀ (v3 : Int) (h3 : InR v3), Go Φ pr_P (fP g) 1 (bM_nearest_2 g v0 v1 v2 X2 v3) d pr_m92 2 [some (sR v0), some (sI v1), some (sI v2), some (sI v3)] [] g 0 0 := by
  intro v3 h3
  unfold bM_nearest_2
  refine go_iload kk92_0.1.1.1.2 rfl ?_
  refine go_ifeq kk92_0.1.1.2.1.1 h3 (fun c1 => ?_) (fun c2 => ?_)
  · refine go_int kk92_0.2.2.2.1.2 (-1) rfl ?_
    exact go_iret kk92_0.2.2.2.2 hg (inR_of (by decide)) ⟨Nat.zero_le _, Nat.zero_le _⟩ rfl
  · refine go_iload kk92_0.1.1.2.1.2 rfl ?_
    refine go_iload kk92_0.1.1.2.2 rfl ?_
    refine go_cmeq kk92_0.1.2.1.1.1 h3 h2 (fun c3 => ?_) (fun c4 => ?_)
    · refine go_aload kk92_0.2.1.1.2 rfl ?_
      refine go_getR (bI := 0) kk92_0.2.1.2.1.1 hg hK0 (by decide) rfl rfl (fun r5 => ?_)
      refine go_int kk92_0.2.1.2.1.2 60 rfl ?_
      refine go_iload kk92_0.2.1.2.2 rfl ?_
      refine go_iadd kk92_0.2.2.1.1.1 ?_
      refine go_ck (fun q7 => ?_)
      refine go_iald kk92_0.2.2.1.1.2 hg q7 (fun r6 => ?_)
      refine go_istore kk92_0.2.2.1.2 rfl (loc2 := [some (sR v0), some (sI v1), some (sI v2), some (sI (g (g v0 0) (w32 (60 + v3))))]) rfl ?_
      refine go_goto kk92_0.2.2.2.1.1 ?_
      exact HX2 (g (g v0 0) (w32 (60 + v3))) r6
    · refine go_aload kk92_0.1.2.1.1.2 rfl ?_
      refine go_iload kk92_0.1.2.1.2 rfl ?_
      refine go_iload kk92_0.1.2.2.1.1 rfl ?_
      refine go_callP3 kk92_0.1.2.2.1.2 rfl rfl rfl ⟨by decide, _, rfl, hK0⟩ ⟨Nat.zero_le _, Nat.zero_le _⟩ (by omega) (tfM_canAdopt (by omega) hg hK0  h3 h1) (fun y8 r9 => ?_)
      refine go_ifeq kk92_0.1.2.2.2 (inR_b r9) (fun c12 => ?_) (fun c13 => ?_)
      · refine go_aload kk92_0.2.1.1.2 rfl ?_
        refine go_getR (bI := 0) kk92_0.2.1.2.1.1 hg hK0 (by decide) rfl rfl (fun r14 => ?_)
        refine go_int kk92_0.2.1.2.1.2 60 rfl ?_
        refine go_iload kk92_0.2.1.2.2 rfl ?_
        refine go_iadd kk92_0.2.2.1.1.1 ?_
        refine go_ck (fun q16 => ?_)
        refine go_iald kk92_0.2.2.1.1.2 hg q16 (fun r15 => ?_)
        refine go_istore kk92_0.2.2.1.2 rfl (loc2 := [some (sR v0), some (sI v1), some (sI v2), some (sI (g (g v0 0) (w32 (60 + v3))))]) rfl ?_
        refine go_goto kk92_0.2.2.2.1.1 ?_
        exact HX2 (g (g v0 0) (w32 (60 + v3))) r15
      · refine go_iload kk92_0.2.1.1.1.1 rfl ?_
        exact go_iret kk92_0.2.1.1.1.2 hg h3 ⟨Nat.zero_le _, Nat.zero_le _⟩ rfl
theorem tlM_nearest_2 {Φ : ev_P} {d : Nat} (hd : 4 ≤ d) {g : gH} (hg : HR g) {v0 v1 v2 : Int} (hK0 : kd v0 = 7) (h1 : InR v1) (h2 : InR v2) : ∀ n : Nat, ∀ (v3 : Int) (h3 : InR v3), Go Φ pr_P (fP g) 1 (lM_nearest_2 g v0 v1 v2 n v3) d pr_m92 2 [some (sR v0), some (sI v1), some (sI v2), some (sI v3)] [] g 0 0 := by
  intro n
  induction n with
  | zero => intros; exact go_none
  | succ n ih => exact tbM_nearest_2 hd hg hK0 h1 h2 ih
theorem tfM_nearest {Φ : ev_P} {d : Nat} (hd : 4 ≤ d) {g : gH} (hg : HR g) {v0 v1 v2 : Int} (hK0 : kd v0 = 7) (h1 : InR v1) (h2 : InR v2) : Go Φ pr_P (fP g) 1 (fM_nearest g v0 v1 v2) d (pr_P 92) 0 (ev_loc (pr_P 92).1 [(sR v0), (sI v1), (sI v2)]) [] g 0 0 := by
  show Go Φ pr_P (fP g) 1 (fM_nearest g v0 v1 v2) d pr_m92 0 [some (sR v0), some (sI v1), some (sI v2), none] [] g 0 0
  unfold fM_nearest
  refine go_iload kk92_0.1.1.1.1.1 rfl ?_
  refine go_istore kk92_0.1.1.1.1.2 rfl (loc2 := [some (sR v0), some (sI v1), some (sI v2), some (sI v2)]) rfl ?_
  exact tlM_nearest_2 hd hg hK0 h1 h2 fu v2 h2
theorem tjM_roomiestFor_51 {Φ : ev_P} {d : Nat} (hd : 4 ≤ d) {X6 : Int → Int → Option Int} {g : gH} (hg : HR g) {v0 v1 v2 v3 v4 v5 : Int} (hK0 : kd v0 = 7) (h1 : InR v1) (h2 : InR v2) (h3 : B01 v3) (h4 : InR v4) (h5 : InR v5) (HX6 : ∀ (v4 : Int) (h4 : InR v4) (v5 : Int) (h5 : InR v5), Go Φ pr_P (fP g) 1 (X6 v4 v5) d pr_m93 6 [some (sR v0), some (sI v1), some (sI v2), some (sI v3), some (sI v4), some (sI v5)] [] g 0 0) : Go Φ pr_P (fP g) 1 (jM_roomiestFor_51 X6 g v0 v1 v2 v3 v4 v5 ) d pr_m93 51 [some (sR v0), some (sI v1), some (sI v2), some (sI v3), some (sI v4), some (sI v5)] [] g 0 0 := by
  unfold jM_roomiestFor_51
  refine go_aload kk93_0.2.1.1.1.2.2 rfl ?_
  refine go_iload kk93_0.2.1.1.2.1.1 rfl ?_
  refine go_iload kk93_0.2.1.1.2.1.2 rfl ?_
  refine go_callP3 kk93_0.2.1.1.2.2 rfl rfl rfl ⟨by decide, _, rfl, hK0⟩ ⟨Nat.zero_le _, Nat.zero_le _⟩ (by omega) (tfM_canAdopt (by omega) hg hK0  h5 h1) (fun y18 r19 => ?_)
  refine go_ifeq kk93_0.2.1.2.1.1.1 (inR_b r19) (fun c22 => ?_) (fun c23 => ?_)
  · refine go_goto kk93_0.2.1.2.1.1.2 ?_
    refine go_iinc kk93_0.2.2.2.1.2 rfl rfl 1 rfl (loc2 := [some (sR v0), some (sI v1), some (sI v2), some (sI v3), some (sI v4), some (sI (w32 (v5 + 1)))]) rfl ?_
    refine go_goto kk93_0.2.2.2.2.1.1 ?_
    exact HX6 v4 h4 (w32 (v5 + 1)) (inR_w32 _)
  · refine go_iload kk93_0.2.1.2.1.2 rfl ?_
    refine go_int kk93_0.2.1.2.2.1.1 (-1) rfl ?_
    refine go_cmeq kk93_0.2.1.2.2.1.2 h4 (inR_of (by decide)) (fun c24 => ?_) (fun c25 => ?_)
    · refine go_iload kk93_0.2.2.2.1.1.1 rfl ?_
      refine go_istore kk93_0.2.2.2.1.1.2 rfl (loc2 := [some (sR v0), some (sI v1), some (sI v2), some (sI v3), some (sI v5), some (sI v5)]) rfl ?_
      refine go_iinc kk93_0.2.2.2.1.2 rfl rfl 1 rfl (loc2 := [some (sR v0), some (sI v1), some (sI v2), some (sI v3), some (sI v5), some (sI (w32 (v5 + 1)))]) rfl ?_
      refine go_goto kk93_0.2.2.2.2.1.1 ?_
      exact HX6 v5 h5 (w32 (v5 + 1)) (inR_w32 _)
    · refine go_aload kk93_0.2.1.2.2.2 rfl ?_
      refine go_iload kk93_0.2.2.1.1.1.1 rfl ?_
      refine go_callP1 kk93_0.2.2.1.1.1.2 rfl rfl rfl ⟨by decide, _, rfl, hK0⟩ ⟨Nat.zero_le _, Nat.zero_le _⟩ (by omega) (tfM_roomOf (by omega) hg hK0  h5) (fun y26 r27 => ?_)
      refine go_aload kk93_0.2.2.1.1.2 rfl ?_
      refine go_iload kk93_0.2.2.1.2.1.1 rfl ?_
      refine go_callP1 kk93_0.2.2.1.2.1.2 rfl rfl rfl ⟨by decide, _, rfl, hK0⟩ ⟨Nat.zero_le _, Nat.zero_le _⟩ (by omega) (tfM_roomOf (by omega) hg hK0  h4) (fun y30 r31 => ?_)
      refine go_cmgt kk93_0.2.2.1.2.2 r27 r31 (fun c34 => ?_) (fun c35 => ?_)
      · refine go_iload kk93_0.2.2.2.1.1.1 rfl ?_
        refine go_istore kk93_0.2.2.2.1.1.2 rfl (loc2 := [some (sR v0), some (sI v1), some (sI v2), some (sI v3), some (sI v5), some (sI v5)]) rfl ?_
        refine go_iinc kk93_0.2.2.2.1.2 rfl rfl 1 rfl (loc2 := [some (sR v0), some (sI v1), some (sI v2), some (sI v3), some (sI v5), some (sI (w32 (v5 + 1)))]) rfl ?_
        refine go_goto kk93_0.2.2.2.2.1.1 ?_
        exact HX6 v5 h5 (w32 (v5 + 1)) (inR_w32 _)
      · refine go_iinc kk93_0.2.2.2.1.2 rfl rfl 1 rfl (loc2 := [some (sR v0), some (sI v1), some (sI v2), some (sI v3), some (sI v4), some (sI (w32 (v5 + 1)))]) rfl ?_
        refine go_goto kk93_0.2.2.2.2.1.1 ?_
        exact HX6 v4 h4 (w32 (v5 + 1)) (inR_w32 _)
theorem tbM_roomiestFor_6 {Φ : ev_P} {d : Nat} (hd : 4 ≤ d) {g : gH} (hg : HR g) {v0 v1 v2 v3 : Int} (hK0 : kd v0 = 7) (h1 : InR v1) (h2 : InR v2) (h3 : B01 v3) {X6 : Int → Int → Option Int} (HX6 : ∀ (v4 : Int) (h4 : InR v4) (v5 : Int) (h5 : InR v5), Go Φ pr_P (fP g) 1 (X6 v4 v5) d pr_m93 6 [some (sR v0), some (sI v1), some (sI v2), some (sI v3), some (sI v4), some (sI v5)] [] g 0 0) : ∀ (v4 : Int) (h4 : InR v4) (v5 : Int) (h5 : InR v5), Go Φ pr_P (fP g) 1 (bM_roomiestFor_6 g v0 v1 v2 v3 X6 v4 v5) d pr_m93 6 [some (sR v0), some (sI v1), some (sI v2), some (sI v3), some (sI v4), some (sI v5)] [] g 0 0 := by
  intro v4 h4 v5 h5
  unfold bM_roomiestFor_6
  refine go_iload kk93_0.1.1.1.2.1.1 rfl ?_
  refine go_aload kk93_0.1.1.1.2.1.2 rfl ?_
  refine go_getR (bI := 0) kk93_0.1.1.1.2.2 hg hK0 (by decide) rfl rfl (fun r1 => ?_)
  refine go_int kk93_0.1.1.2.1.1.1 0 rfl ?_
  refine go_ck (fun q3 => ?_)
  refine go_iald kk93_0.1.1.2.1.1.2 hg q3 (fun r2 => ?_)
  refine go_cmlt kk93_0.1.1.2.1.2 h5 r2 (fun c4 => ?_) (fun c5 => ?_)
  · refine go_iload kk93_0.1.1.2.2.1.1 rfl ?_
    refine go_iload kk93_0.1.1.2.2.1.2 rfl ?_
    refine go_cmeq kk93_0.1.1.2.2.2 h5 h2 (fun c6 => ?_) (fun c7 => ?_)
    · refine go_iinc kk93_0.2.2.2.1.2 rfl rfl 1 rfl (loc2 := [some (sR v0), some (sI v1), some (sI v2), some (sI v3), some (sI v4), some (sI (w32 (v5 + 1)))]) rfl ?_
      refine go_goto kk93_0.2.2.2.2.1.1 ?_
      exact HX6 v4 h4 (w32 (v5 + 1)) (inR_w32 _)
    · refine go_iload kk93_0.1.2.1.1.1.1 rfl ?_
      refine go_ifeq kk93_0.1.2.1.1.1.2 (inR_b h3) (fun c8 => ?_) (fun c9 => ?_)
      · exact tjM_roomiestFor_51 hd hg hK0 h1 h2 h3 h4 h5 HX6
      · refine go_aload kk93_0.1.2.1.1.2 rfl ?_
        refine go_getR (bI := 0) kk93_0.1.2.1.2.1.1 hg hK0 (by decide) rfl rfl (fun r10 => ?_)
        refine go_int kk93_0.1.2.1.2.1.2 180 rfl ?_
        refine go_iload kk93_0.1.2.1.2.2 rfl ?_
        refine go_iadd kk93_0.1.2.2.1.1.1 ?_
        refine go_ck (fun q12 => ?_)
        refine go_iald kk93_0.1.2.2.1.1.2 hg q12 (fun r11 => ?_)
        refine go_aload kk93_0.1.2.2.1.2 rfl ?_
        refine go_getR (bI := 0) kk93_0.1.2.2.2.1.1 hg hK0 (by decide) rfl rfl (fun r13 => ?_)
        refine go_int kk93_0.1.2.2.2.1.2 180 rfl ?_
        refine go_iload kk93_0.1.2.2.2.2 rfl ?_
        refine go_iadd kk93_0.2.1.1.1.1.1 ?_
        refine go_ck (fun q15 => ?_)
        refine go_iald kk93_0.2.1.1.1.1.2 hg q15 (fun r14 => ?_)
        refine go_cmeq kk93_0.2.1.1.1.2.1 r11 r14 (fun c16 => ?_) (fun c17 => ?_)
        · exact tjM_roomiestFor_51 hd hg hK0 h1 h2 h3 h4 h5 HX6
        · refine go_iinc kk93_0.2.2.2.1.2 rfl rfl 1 rfl (loc2 := [some (sR v0), some (sI v1), some (sI v2), some (sI v3), some (sI v4), some (sI (w32 (v5 + 1)))]) rfl ?_
          refine go_goto kk93_0.2.2.2.2.1.1 ?_
          exact HX6 v4 h4 (w32 (v5 + 1)) (inR_w32 _)
  · refine go_iload kk93_0.2.2.2.2.1.2 rfl ?_
    exact go_iret kk93_0.2.2.2.2.2 hg h4 ⟨Nat.zero_le _, Nat.zero_le _⟩ rfl
theorem tlM_roomiestFor_6 {Φ : ev_P} {d : Nat} (hd : 4 ≤ d) {g : gH} (hg : HR g) {v0 v1 v2 v3 : Int} (hK0 : kd v0 = 7) (h1 : InR v1) (h2 : InR v2) (h3 : B01 v3) : ∀ n : Nat, ∀ (v4 : Int) (h4 : InR v4) (v5 : Int) (h5 : InR v5), Go Φ pr_P (fP g) 1 (lM_roomiestFor_6 g v0 v1 v2 v3 n v4 v5) d pr_m93 6 [some (sR v0), some (sI v1), some (sI v2), some (sI v3), some (sI v4), some (sI v5)] [] g 0 0 := by
  intro n
  induction n with
  | zero => intros; exact go_none
  | succ n ih => exact tbM_roomiestFor_6 hd hg hK0 h1 h2 h3 ih
theorem tfM_roomiestFor {Φ : ev_P} {d : Nat} (hd : 4 ≤ d) {g : gH} (hg : HR g) {v0 v1 v2 v3 : Int} (hK0 : kd v0 = 7) (h1 : InR v1) (h2 : InR v2) (h3 : B01 v3) : Go Φ pr_P (fP g) 1 (fM_roomiestFor g v0 v1 v2 v3) d (pr_P 93) 0 (ev_loc (pr_P 93).1 [(sR v0), (sI v1), (sI v2), (sI v3)]) [] g 0 0 := by
  show Go Φ pr_P (fP g) 1 (fM_roomiestFor g v0 v1 v2 v3) d pr_m93 0 [some (sR v0), some (sI v1), some (sI v2), some (sI v3), none, none] [] g 0 0
  unfold fM_roomiestFor
  refine go_int kk93_0.1.1.1.1.1.1 (-1) rfl ?_
  refine go_istore kk93_0.1.1.1.1.1.2 rfl (loc2 := [some (sR v0), some (sI v1), some (sI v2), some (sI v3), some (sI (-1)), none]) rfl ?_
  refine go_int kk93_0.1.1.1.1.2.1 1 rfl ?_
  refine go_istore kk93_0.1.1.1.1.2.2 rfl (loc2 := [some (sR v0), some (sI v1), some (sI v2), some (sI v3), some (sI (-1)), some (sI 1)]) rfl ?_
  exact tlM_roomiestFor_6 hd hg hK0 h1 h2 h3 fu (-1) (inR_of (by decide)) 1 (inR_b (Or.inr rfl))
theorem tbM_kinOf_8 {Φ : ev_P} {d : Nat} (hd : 4 ≤ d) {g : gH} (hg : HR g) {v0 v1 v2 : Int} (hK0 : kd v0 = 7) (h1 : InR v1) (h2 : InR v2) {X8 : Int → Option Int} (HX8 : ∀ (v3 : Int) (h3 : InR v3), Go Φ pr_P (fP g) 1 (X8 v3) d pr_m94 8 [some (sR v0), some (sI v1), some (sI v2), some (sI v3)] [] g 0 0) : ∀ (v3 : Int) (h3 : InR v3), Go Φ pr_P (fP g) 1 (bM_kinOf_8 g v0 v1 v2 X8 v3) d pr_m94 8 [some (sR v0), some (sI v1), some (sI v2), some (sI v3)] [] g 0 0 := by
  intro v3 h3
  unfold bM_kinOf_8
  refine go_iload kk94_0.1.1.2.1.1.2 rfl ?_
  refine go_aload kk94_0.1.1.2.1.2 rfl ?_
  refine go_getR (bI := 0) kk94_0.1.1.2.2.1 hg hK0 (by decide) rfl rfl (fun r3 => ?_)
  refine go_int kk94_0.1.1.2.2.2 0 rfl ?_
  refine go_ck (fun q5 => ?_)
  refine go_iald kk94_0.1.2.1.1.1.1 hg q5 (fun r4 => ?_)
  refine go_cmlt kk94_0.1.2.1.1.1.2 h3 r4 (fun c6 => ?_) (fun c7 => ?_)
  · refine go_iload kk94_0.1.2.1.1.2 rfl ?_
    refine go_iload kk94_0.1.2.1.2.1 rfl ?_
    refine go_cmeq kk94_0.1.2.1.2.2 h3 h2 (fun c8 => ?_) (fun c9 => ?_)
    · refine go_iinc kk94_0.2.2.2.1.1 rfl rfl 1 rfl (loc2 := [some (sR v0), some (sI v1), some (sI v2), some (sI (w32 (v3 + 1)))]) rfl ?_
      refine go_goto kk94_0.2.2.2.1.2 ?_
      exact HX8 (w32 (v3 + 1)) (inR_w32 _)
    · refine go_aload kk94_0.1.2.2.1.1 rfl ?_
      refine go_iload kk94_0.1.2.2.1.2 rfl ?_
      refine go_aload kk94_0.1.2.2.2.1 rfl ?_
      refine go_getR (bI := 0) kk94_0.1.2.2.2.2 hg hK0 (by decide) rfl rfl (fun r10 => ?_)
      refine go_int kk94_0.2.1.1.1.1.1 60 rfl ?_
      refine go_iload kk94_0.2.1.1.1.1.2 rfl ?_
      refine go_iadd kk94_0.2.1.1.1.2 ?_
      refine go_ck (fun q12 => ?_)
      refine go_iald kk94_0.2.1.1.2.1 hg q12 (fun r11 => ?_)
      refine go_int kk94_0.2.1.1.2.2 0 rfl ?_
      refine go_callP3 kk94_0.2.1.2.1.1 rfl rfl rfl ⟨by decide, _, rfl, hK0⟩ ⟨Nat.zero_le _, Nat.zero_le _⟩ (by omega) (tfM_isChild (by omega) hg hK0  h3 r11 (inR_b (Or.inl rfl))) (fun y13 r14 => ?_)
      refine go_ifeq kk94_0.2.1.2.1.2 (inR_b r14) (fun c17 => ?_) (fun c18 => ?_)
      · refine go_iinc kk94_0.2.2.2.1.1 rfl rfl 1 rfl (loc2 := [some (sR v0), some (sI v1), some (sI v2), some (sI (w32 (v3 + 1)))]) rfl ?_
        refine go_goto kk94_0.2.2.2.1.2 ?_
        exact HX8 (w32 (v3 + 1)) (inR_w32 _)
      · refine go_aload kk94_0.2.1.2.2.1 rfl ?_
        refine go_iload kk94_0.2.1.2.2.2 rfl ?_
        refine go_iload kk94_0.2.2.1.1.1.1 rfl ?_
        refine go_callP3 kk94_0.2.2.1.1.1.2 rfl rfl rfl ⟨by decide, _, rfl, hK0⟩ ⟨Nat.zero_le _, Nat.zero_le _⟩ (by omega) (tfM_canAdopt (by omega) hg hK0  h3 h1) (fun y19 r20 => ?_)
        refine go_ifeq kk94_0.2.2.1.1.2 (inR_b r20) (fun c23 => ?_) (fun c24 => ?_)
        · refine go_iinc kk94_0.2.2.2.1.1 rfl rfl 1 rfl (loc2 := [some (sR v0), some (sI v1), some (sI v2), some (sI (w32 (v3 + 1)))]) rfl ?_
          refine go_goto kk94_0.2.2.2.1.2 ?_
          exact HX8 (w32 (v3 + 1)) (inR_w32 _)
        · refine go_iload kk94_0.2.2.1.2.1 rfl ?_
          exact go_iret kk94_0.2.2.1.2.2 hg h3 ⟨Nat.zero_le _, Nat.zero_le _⟩ rfl
  · refine go_int kk94_0.2.2.2.2.1 (-1) rfl ?_
    exact go_iret kk94_0.2.2.2.2.2 hg (inR_of (by decide)) ⟨Nat.zero_le _, Nat.zero_le _⟩ rfl
theorem tlM_kinOf_8 {Φ : ev_P} {d : Nat} (hd : 4 ≤ d) {g : gH} (hg : HR g) {v0 v1 v2 : Int} (hK0 : kd v0 = 7) (h1 : InR v1) (h2 : InR v2) : ∀ n : Nat, ∀ (v3 : Int) (h3 : InR v3), Go Φ pr_P (fP g) 1 (lM_kinOf_8 g v0 v1 v2 n v3) d pr_m94 8 [some (sR v0), some (sI v1), some (sI v2), some (sI v3)] [] g 0 0 := by
  intro n
  induction n with
  | zero => intros; exact go_none
  | succ n ih => exact tbM_kinOf_8 hd hg hK0 h1 h2 ih
theorem tfM_kinOf {Φ : ev_P} {d : Nat} (hd : 4 ≤ d) {g : gH} (hg : HR g) {v0 v1 v2 : Int} (hK0 : kd v0 = 7) (h1 : InR v1) (h2 : InR v2) : Go Φ pr_P (fP g) 1 (fM_kinOf g v0 v1 v2) d (pr_P 94) 0 (ev_loc (pr_P 94).1 [(sR v0), (sI v1), (sI v2)]) [] g 0 0 := by
  show Go Φ pr_P (fP g) 1 (fM_kinOf g v0 v1 v2) d pr_m94 0 [some (sR v0), some (sI v1), some (sI v2), none] [] g 0 0
  unfold fM_kinOf
  refine go_iload kk94_0.1.1.1.1.1.1 rfl ?_
  refine go_ifeq kk94_0.1.1.1.1.1.2 h2 (fun c1 => ?_) (fun c2 => ?_)
  · refine go_int kk94_0.1.1.1.1.2 (-1) rfl ?_
    exact go_iret kk94_0.1.1.1.2.1 hg (inR_of (by decide)) ⟨Nat.zero_le _, Nat.zero_le _⟩ rfl
  · refine go_int kk94_0.1.1.1.2.2 1 rfl ?_
    refine go_istore kk94_0.1.1.2.1.1.1 rfl (loc2 := [some (sR v0), some (sI v1), some (sI v2), some (sI 1)]) rfl ?_
    exact tlM_kinOf_8 hd hg hK0 h1 h2 fu 1 (inR_b (Or.inr rfl))
theorem tbM_oldest_2 {Φ : ev_P} {d : Nat} (hd : 4 ≤ d) {g : gH} (hg : HR g) {v0 v1 v2 : Int} (hK0 : kd v0 = 7) (h1 : InR v1) (h2 : InR v2) {X2 : Int → Option Int} (HX2 : ∀ (v3 : Int) (h3 : InR v3), Go Φ pr_P (fP g) 1 (X2 v3) d pr_m95 2 [some (sR v0), some (sI v1), some (sI v2), some (sI v3)] [] g 0 0) : ∀ (v3 : Int) (h3 : InR v3), Go Φ pr_P (fP g) 1 (bM_oldest_2 g v0 v1 v2 X2 v3) d pr_m95 2 [some (sR v0), some (sI v1), some (sI v2), some (sI v3)] [] g 0 0 := by
  intro v3 h3
  unfold bM_oldest_2
  refine go_iload kk95_0.1.1.1.2 rfl ?_
  refine go_aload kk95_0.1.1.2.1.1 rfl ?_
  refine go_getR (bI := 0) kk95_0.1.1.2.1.2 hg hK0 (by decide) rfl rfl (fun r1 => ?_)
  refine go_int kk95_0.1.1.2.2 0 rfl ?_
  refine go_ck (fun q3 => ?_)
  refine go_iald kk95_0.1.2.1.1.1 hg q3 (fun r2 => ?_)
  refine go_cmlt kk95_0.1.2.1.1.2 h3 r2 (fun c4 => ?_) (fun c5 => ?_)
  · refine go_iload kk95_0.1.2.1.2 rfl ?_
    refine go_iload kk95_0.1.2.2.1 rfl ?_
    refine go_cmeq kk95_0.1.2.2.2 h3 h2 (fun c6 => ?_) (fun c7 => ?_)
    · refine go_iinc kk95_0.2.2.1.1.2 rfl rfl 1 rfl (loc2 := [some (sR v0), some (sI v1), some (sI v2), some (sI (w32 (v3 + 1)))]) rfl ?_
      refine go_goto kk95_0.2.2.1.2 ?_
      exact HX2 (w32 (v3 + 1)) (inR_w32 _)
    · refine go_aload kk95_0.2.1.1.1.1 rfl ?_
      refine go_iload kk95_0.2.1.1.1.2 rfl ?_
      refine go_iload kk95_0.2.1.1.2 rfl ?_
      refine go_callP3 kk95_0.2.1.2.1.1 rfl rfl rfl ⟨by decide, _, rfl, hK0⟩ ⟨Nat.zero_le _, Nat.zero_le _⟩ (by omega) (tfM_canAdopt (by omega) hg hK0  h3 h1) (fun y8 r9 => ?_)
      refine go_ifeq kk95_0.2.1.2.1.2 (inR_b r9) (fun c12 => ?_) (fun c13 => ?_)
      · refine go_iinc kk95_0.2.2.1.1.2 rfl rfl 1 rfl (loc2 := [some (sR v0), some (sI v1), some (sI v2), some (sI (w32 (v3 + 1)))]) rfl ?_
        refine go_goto kk95_0.2.2.1.2 ?_
        exact HX2 (w32 (v3 + 1)) (inR_w32 _)
      · refine go_iload kk95_0.2.1.2.2 rfl ?_
        exact go_iret kk95_0.2.2.1.1.1 hg h3 ⟨Nat.zero_le _, Nat.zero_le _⟩ rfl
  · refine go_int kk95_0.2.2.2.1 (-1) rfl ?_
    exact go_iret kk95_0.2.2.2.2 hg (inR_of (by decide)) ⟨Nat.zero_le _, Nat.zero_le _⟩ rfl
theorem tlM_oldest_2 {Φ : ev_P} {d : Nat} (hd : 4 ≤ d) {g : gH} (hg : HR g) {v0 v1 v2 : Int} (hK0 : kd v0 = 7) (h1 : InR v1) (h2 : InR v2) : ∀ n : Nat, ∀ (v3 : Int) (h3 : InR v3), Go Φ pr_P (fP g) 1 (lM_oldest_2 g v0 v1 v2 n v3) d pr_m95 2 [some (sR v0), some (sI v1), some (sI v2), some (sI v3)] [] g 0 0 := by
  intro n
  induction n with
  | zero => intros; exact go_none
  | succ n ih => exact tbM_oldest_2 hd hg hK0 h1 h2 ih
theorem tfM_oldest {Φ : ev_P} {d : Nat} (hd : 4 ≤ d) {g : gH} (hg : HR g) {v0 v1 v2 : Int} (hK0 : kd v0 = 7) (h1 : InR v1) (h2 : InR v2) : Go Φ pr_P (fP g) 1 (fM_oldest g v0 v1 v2) d (pr_P 95) 0 (ev_loc (pr_P 95).1 [(sR v0), (sI v1), (sI v2)]) [] g 0 0 := by
  show Go Φ pr_P (fP g) 1 (fM_oldest g v0 v1 v2) d pr_m95 0 [some (sR v0), some (sI v1), some (sI v2), none] [] g 0 0
  unfold fM_oldest
  refine go_int kk95_0.1.1.1.1.1 1 rfl ?_
  refine go_istore kk95_0.1.1.1.1.2 rfl (loc2 := [some (sR v0), some (sI v1), some (sI v2), some (sI 1)]) rfl ?_
  exact tlM_oldest_2 hd hg hK0 h1 h2 fu 1 (inR_b (Or.inr rfl))
theorem tfM_findsBy {Φ : ev_P} {d : Nat} (hd : 5 ≤ d) {g : gH} (hg : HR g) {v0 v1 v2 v3 : Int} (hK0 : kd v0 = 7) (h1 : InR v1) (h2 : InR v2) (h3 : InR v3) : Go Φ pr_P (fP g) 1 (fM_findsBy g v0 v1 v2 v3) d (pr_P 96) 0 (ev_loc (pr_P 96).1 [(sR v0), (sI v1), (sI v2), (sI v3)]) [] g 0 0 := by
  show Go Φ pr_P (fP g) 1 (fM_findsBy g v0 v1 v2 v3) d pr_m96 0 [some (sR v0), some (sI v1), some (sI v2), some (sI v3)] [] g 0 0
  unfold fM_findsBy
  refine go_iload kk96_0.1.1.1.1.1 rfl ?_
  refine go_ite (fun c1 => ?_) (fun c2 => ?_)
  · refine go_swh (lo := 0) (hi := 3) (i := 0) kk96_0.1.1.1.1.2 rfl rfl (by omega) (by omega) rfl ?_
    refine go_aload kk96_0.1.1.1.2.1 rfl ?_
    refine go_iload kk96_0.1.1.1.2.2 rfl ?_
    refine go_iload kk96_0.1.1.2.1.1 rfl ?_
    refine go_callP1 kk96_0.1.1.2.1.2 rfl rfl rfl ⟨by decide, _, rfl, hK0⟩ ⟨Nat.zero_le _, Nat.zero_le _⟩ (by omega) (tfM_nearest (by omega) hg hK0  h2 h3) (fun y3 r4 => ?_)
    exact go_iret kk96_0.1.1.2.2.1 hg r4 ⟨Nat.zero_le _, Nat.zero_le _⟩ rfl
  refine go_ite (fun c7 => ?_) (fun c8 => ?_)
  · refine go_swh (lo := 0) (hi := 3) (i := 1) kk96_0.1.1.1.1.2 rfl rfl (by omega) (by omega) rfl ?_
    refine go_aload kk96_0.1.1.2.2.2 rfl ?_
    refine go_iload kk96_0.1.2.1.1.1 rfl ?_
    refine go_iload kk96_0.1.2.1.1.2 rfl ?_
    refine go_int kk96_0.1.2.1.2.1 1 rfl ?_
    refine go_callP1 kk96_0.1.2.1.2.2 rfl rfl rfl ⟨by decide, _, rfl, hK0⟩ ⟨Nat.zero_le _, Nat.zero_le _⟩ (by omega) (tfM_roomiestFor (by omega) hg hK0  h2 h3 (Or.inr rfl)) (fun y9 r10 => ?_)
    exact go_iret kk96_0.1.2.2.1.1 hg r10 ⟨Nat.zero_le _, Nat.zero_le _⟩ rfl
  refine go_ite (fun c13 => ?_) (fun c14 => ?_)
  · refine go_swh (lo := 0) (hi := 3) (i := 2) kk96_0.1.1.1.1.2 rfl rfl (by omega) (by omega) rfl ?_
    refine go_aload kk96_0.1.2.2.1.2 rfl ?_
    refine go_iload kk96_0.1.2.2.2 rfl ?_
    refine go_iload kk96_0.2.1.1.1.1 rfl ?_
    refine go_int kk96_0.2.1.1.1.2 0 rfl ?_
    refine go_callP1 kk96_0.2.1.1.2.1 rfl rfl rfl ⟨by decide, _, rfl, hK0⟩ ⟨Nat.zero_le _, Nat.zero_le _⟩ (by omega) (tfM_roomiestFor (by omega) hg hK0  h2 h3 (Or.inl rfl)) (fun y15 r16 => ?_)
    exact go_iret kk96_0.2.1.1.2.2 hg r16 ⟨Nat.zero_le _, Nat.zero_le _⟩ rfl
  refine go_ite (fun c19 => ?_) (fun c20 => ?_)
  · refine go_swh (lo := 0) (hi := 3) (i := 3) kk96_0.1.1.1.1.2 rfl rfl (by omega) (by omega) rfl ?_
    refine go_aload kk96_0.2.1.2.1.1 rfl ?_
    refine go_iload kk96_0.2.1.2.1.2 rfl ?_
    refine go_iload kk96_0.2.1.2.2 rfl ?_
    refine go_callP1 kk96_0.2.2.1.1.1 rfl rfl rfl ⟨by decide, _, rfl, hK0⟩ ⟨Nat.zero_le _, Nat.zero_le _⟩ (by omega) (tfM_kinOf (by omega) hg hK0  h2 h3) (fun y21 r22 => ?_)
    exact go_iret kk96_0.2.2.1.1.2 hg r22 ⟨Nat.zero_le _, Nat.zero_le _⟩ rfl
  refine go_swd (lo := 0) (hi := 3) kk96_0.1.1.1.1.2 rfl rfl h1 (by omega) (by omega) ?_
  refine go_aload kk96_0.2.2.1.2.1 rfl ?_
  refine go_iload kk96_0.2.2.1.2.2 rfl ?_
  refine go_iload kk96_0.2.2.2.1.1 rfl ?_
  refine go_callP1 kk96_0.2.2.2.1.2 rfl rfl rfl ⟨by decide, _, rfl, hK0⟩ ⟨Nat.zero_le _, Nat.zero_le _⟩ (by omega) (tfM_oldest (by omega) hg hK0  h2 h3) (fun y25 r26 => ?_)
  exact go_iret kk96_0.2.2.2.2 hg r26 ⟨Nat.zero_le _, Nat.zero_le _⟩ rfl
theorem tbM_adopterOf_2 {Φ : ev_P} {d : Nat} (hd : 6 ≤ d) {g : gH} (hg : HR g) {v0 v1 v2 : Int} (hK0 : kd v0 = 7) (h1 : InR v1) (h2 : InR v2) {X2 : Int → Option Int} (HX2 : ∀ (v3 : Int) (h3 : InR v3) (u4 : Option ev_V) (w4 : nwo u4), Go Φ pr_P (fP g) 1 (X2 v3) d pr_m97 2 [some (sR v0), some (sI v1), some (sI v2), some (sI v3), u4] [] g 0 0) : ∀ (v3 : Int) (h3 : InR v3) (u4 : Option ev_V) (w4 : nwo u4), Go Φ pr_P (fP g) 1 (bM_adopterOf_2 g v0 v1 v2 X2 v3) d pr_m97 2 [some (sR v0), some (sI v1), some (sI v2), some (sI v3), u4] [] g 0 0 := by
  intro v3 h3 u4 w4
  unfold bM_adopterOf_2
  refine go_iload kk97_0.1.1.1.2.1 rfl ?_
  refine go_aload kk97_0.1.1.1.2.2 rfl ?_
  refine go_getR (bI := 0) kk97_0.1.1.2.1.1 hg hK0 (by decide) rfl rfl (fun r1 => ?_)
  refine go_int kk97_0.1.1.2.1.2 5 rfl ?_
  refine go_ck (fun q3 => ?_)
  refine go_iald kk97_0.1.1.2.2 hg q3 (fun r2 => ?_)
  refine go_cmlt kk97_0.1.2.1.1.1 h3 r2 (fun c4 => ?_) (fun c5 => ?_)
  · refine go_aload kk97_0.1.2.1.1.2 rfl ?_
    refine go_aload kk97_0.1.2.1.2.1 rfl ?_
    refine go_getR (bI := 0) kk97_0.1.2.1.2.2 hg hK0 (by decide) rfl rfl (fun r6 => ?_)
    refine go_int kk97_0.1.2.2.1.1 6 rfl ?_
    refine go_iload kk97_0.1.2.2.1.2 rfl ?_
    refine go_iadd kk97_0.1.2.2.2 ?_
    refine go_ck (fun q8 => ?_)
    refine go_iald kk97_0.2.1.1.1.1 hg q8 (fun r7 => ?_)
    refine go_iload kk97_0.2.1.1.1.2 rfl ?_
    refine go_iload kk97_0.2.1.1.2.1 rfl ?_
    refine go_callP1 kk97_0.2.1.1.2.2 rfl rfl rfl ⟨by decide, _, rfl, hK0⟩ ⟨Nat.zero_le _, Nat.zero_le _⟩ (by omega) (tfM_findsBy (by omega) hg hK0  r7 h1 h2) (fun y9 r10 => ?_)
    refine go_istore kk97_0.2.1.2.1.1 rfl (loc2 := [some (sR v0), some (sI v1), some (sI v2), some (sI v3), some (sI y9)]) rfl ?_
    refine go_iload kk97_0.2.1.2.1.2 rfl ?_
    refine go_int kk97_0.2.1.2.2 (-1) rfl ?_
    refine go_cmeq kk97_0.2.2.1.1.1 r10 (inR_of (by decide)) (fun c13 => ?_) (fun c14 => ?_)
    · refine go_iinc kk97_0.2.2.1.2.2 rfl rfl 1 rfl (loc2 := [some (sR v0), some (sI v1), some (sI v2), some (sI (w32 (v3 + 1))), some (sI y9)]) rfl ?_
      refine go_goto kk97_0.2.2.2.1.1 ?_
      exact HX2 (w32 (v3 + 1)) (inR_w32 _) (some (sI y9)) rfl
    · refine go_iload kk97_0.2.2.1.1.2 rfl ?_
      exact go_iret kk97_0.2.2.1.2.1 hg r10 ⟨Nat.zero_le _, Nat.zero_le _⟩ rfl
  · refine go_int kk97_0.2.2.2.1.2 0 rfl ?_
    exact go_iret kk97_0.2.2.2.2 hg (inR_b (Or.inl rfl)) ⟨Nat.zero_le _, Nat.zero_le _⟩ rfl
theorem tlM_adopterOf_2 {Φ : ev_P} {d : Nat} (hd : 6 ≤ d) {g : gH} (hg : HR g) {v0 v1 v2 : Int} (hK0 : kd v0 = 7) (h1 : InR v1) (h2 : InR v2) : ∀ n : Nat, ∀ (v3 : Int) (h3 : InR v3) (u4 : Option ev_V) (w4 : nwo u4), Go Φ pr_P (fP g) 1 (lM_adopterOf_2 g v0 v1 v2 n v3) d pr_m97 2 [some (sR v0), some (sI v1), some (sI v2), some (sI v3), u4] [] g 0 0 := by
  intro n
  induction n with
  | zero => intros; exact go_none
  | succ n ih => exact tbM_adopterOf_2 hd hg hK0 h1 h2 ih
theorem tfM_adopterOf {Φ : ev_P} {d : Nat} (hd : 6 ≤ d) {g : gH} (hg : HR g) {v0 v1 v2 : Int} (hK0 : kd v0 = 7) (h1 : InR v1) (h2 : InR v2) : Go Φ pr_P (fP g) 1 (fM_adopterOf g v0 v1 v2) d (pr_P 97) 0 (ev_loc (pr_P 97).1 [(sR v0), (sI v1), (sI v2)]) [] g 0 0 := by
  show Go Φ pr_P (fP g) 1 (fM_adopterOf g v0 v1 v2) d pr_m97 0 [some (sR v0), some (sI v1), some (sI v2), none, none] [] g 0 0
  unfold fM_adopterOf
  refine go_int kk97_0.1.1.1.1.1 0 rfl ?_
  refine go_istore kk97_0.1.1.1.1.2 rfl (loc2 := [some (sR v0), some (sI v1), some (sI v2), some (sI 0), none]) rfl ?_
  exact tlM_adopterOf_2 hd hg hK0 h1 h2 fu 0 (inR_b (Or.inl rfl)) none rfl
theorem tfM_adopts {Φ : ev_P} {d : Nat} (hd : 0 ≤ d) {g : gH} (hg : HR g) {v0 v1 v2 : Int} (hK0 : kd v0 = 7) (h1 : InR v1) (h2 : InR v2) : Go Φ pr_P fN 0 (fM_adopts g v0 v1 v2) d (pr_P 98) 0 (ev_loc (pr_P 98).1 [(sR v0), (sI v1), (sI v2)]) [] g 0 0 := by
  show Go Φ pr_P fN 0 (fM_adopts g v0 v1 v2) d pr_m98 0 [some (sR v0), some (sI v1), some (sI v2)] [] g 0 0
  unfold fM_adopts
  refine go_aload kk98_0.1.1.1.1.1.1 rfl ?_
  refine go_getR (bI := 0) kk98_0.1.1.1.1.1.2 hg hK0 (by decide) rfl rfl (fun r1 => ?_)
  refine go_int kk98_0.1.1.1.1.2 60 rfl ?_
  refine go_iload kk98_0.1.1.1.2.1 rfl ?_
  refine go_iadd kk98_0.1.1.1.2.2 ?_
  refine go_iload kk98_0.1.1.2.1.1.1 rfl ?_
  refine go_ck (fun q2 => ?_)
  refine go_iast kk98_0.1.1.2.1.1.2 hg q2 h1 (fun g3 e4 => ?_)
  refine go_aload kk98_0.1.1.2.1.2 rfl ?_
  refine go_getR (bI := 0) kk98_0.1.1.2.2.1 e4 hK0 (by decide) rfl rfl (fun r5 => ?_)
  refine go_int kk98_0.1.1.2.2.2 380 rfl ?_
  refine go_iload kk98_0.1.2.1.1.1.1 rfl ?_
  refine go_iadd kk98_0.1.2.1.1.1.2 ?_
  refine go_dup2 kk98_0.1.2.1.1.2 ?_
  refine go_ck (fun q7 => ?_)
  refine go_iald kk98_0.1.2.1.2.1 e4 q7 (fun r6 => ?_)
  refine go_int kk98_0.1.2.1.2.2 1 rfl ?_
  refine go_iadd kk98_0.1.2.2.1.1 ?_
  refine go_ck (fun q8 => ?_)
  refine go_iast kk98_0.1.2.2.1.2 e4 q8 (inR_w32 _) (fun g9 e10 => ?_)
  refine go_aload kk98_0.1.2.2.2.1 rfl ?_
  refine go_getR (bI := 0) kk98_0.1.2.2.2.2 e10 hK0 (by decide) rfl rfl (fun r11 => ?_)
  refine go_int kk98_0.2.1.1.1.1.1 2 rfl ?_
  refine go_dup2 kk98_0.2.1.1.1.1.2 ?_
  refine go_ck (fun q13 => ?_)
  refine go_iald kk98_0.2.1.1.1.2 e10 q13 (fun r12 => ?_)
  refine go_int kk98_0.2.1.1.2.1 1 rfl ?_
  refine go_iadd kk98_0.2.1.1.2.2 ?_
  refine go_ck (fun q14 => ?_)
  refine go_iast kk98_0.2.1.2.1.1.1 e10 q14 (inR_w32 _) (fun g15 e16 => ?_)
  refine go_aload kk98_0.2.1.2.1.1.2 rfl ?_
  refine go_getR (bI := 0) kk98_0.2.1.2.1.2 e16 hK0 (by decide) rfl rfl (fun r17 => ?_)
  refine go_int kk98_0.2.1.2.2.1 3 rfl ?_
  refine go_dup2 kk98_0.2.1.2.2.2 ?_
  refine go_ck (fun q19 => ?_)
  refine go_iald kk98_0.2.2.1.1.1.1 e16 q19 (fun r18 => ?_)
  refine go_iload kk98_0.2.2.1.1.1.2 rfl ?_
  refine go_ifeq kk98_0.2.2.1.1.2 h1 (fun c20 => ?_) (fun c21 => ?_)
  · refine go_int kk98_0.2.2.1.2.1 1 rfl ?_
    refine go_goto kk98_0.2.2.1.2.2 ?_
    refine go_iadd kk98_0.2.2.2.1.2 ?_
    refine go_ck (fun q22 => ?_)
    refine go_iast kk98_0.2.2.2.2.1 e16 q22 (inR_w32 _) (fun g23 e24 => ?_)
    exact go_vret kk98_0.2.2.2.2.2 e24 ⟨Nat.zero_le _, Nat.zero_le _⟩ rfl
  · refine go_int kk98_0.2.2.2.1.1 0 rfl ?_
    refine go_iadd kk98_0.2.2.2.1.2 ?_
    refine go_ck (fun q25 => ?_)
    refine go_iast kk98_0.2.2.2.2.1 e16 q25 (inR_w32 _) (fun g26 e27 => ?_)
    exact go_vret kk98_0.2.2.2.2.2 e27 ⟨Nat.zero_le _, Nat.zero_le _⟩ rfl
/-! ===== the evaluator comes to what the functions tell (own work, by program: wip/p2/dec.py) ===== -/
theorem tfM_replaces {Φ : ev_P} {d : Nat} (hd : 1 ≤ d) {g : gH} (hg : HR g) {v0 v1 v2 : Int} (hK0 : kd v0 = 7) (h1 : InR v1) (h2 : InR v2) : Go Φ pr_P fN 1 (fM_replaces g v0 v1 v2) d (pr_P 99) 0 (ev_loc (pr_P 99).1 [(sR v0), (sI v1), (sI v2)]) [] g 0 0 := by
  show Go Φ pr_P fN 1 (fM_replaces g v0 v1 v2) d pr_m99 0 [some (sR v0), some (sI v1), some (sI v2), none, none] [] g 0 0
  unfold fM_replaces
  refine go_aload kk99_0.1.1.1.1.1.1 rfl ?_
  refine go_getR (bI := 0) kk99_0.1.1.1.1.1.2 hg hK0 (by decide) rfl rfl (fun r1 => ?_)
  refine go_int kk99_0.1.1.1.1.2 60 rfl ?_
  refine go_iload kk99_0.1.1.1.2.1.1 rfl ?_
  refine go_iadd kk99_0.1.1.1.2.1.2 ?_
  refine go_ck (fun q3 => ?_)
  refine go_iald kk99_0.1.1.1.2.2 hg q3 (fun r2 => ?_)
  refine go_istore kk99_0.1.1.2.1.1.1 rfl (loc2 := [some (sR v0), some (sI v1), some (sI v2), some (sI (g (g v0 0) (w32 (60 + v1)))), none]) rfl ?_
  refine go_iload kk99_0.1.1.2.1.1.2 rfl ?_
  refine go_ifeq kk99_0.1.1.2.1.2 h2 (fun c4 => ?_) (fun c5 => ?_)
  · refine go_int kk99_0.2.1.2.1.1.2 (-1) rfl ?_
    exact go_iret kk99_0.2.1.2.1.2 hg (inR_of (by decide)) ⟨Nat.zero_le _, Nat.zero_le _⟩ rfl
  · refine go_aload kk99_0.1.1.2.2.1 rfl ?_
    refine go_getR (bI := 5) kk99_0.1.1.2.2.2 hg hK0 (by decide) rfl rfl (fun r6 => ?_)
    refine go_iload kk99_0.1.2.1.1.1.1 rfl ?_
    refine go_ck (fun q8 => ?_)
    refine go_zald kk99_0.1.2.1.1.1.2 hg q8 (fun r7 => ?_)
    refine go_ifeq kk99_0.1.2.1.1.2 (inR_b r7) (fun c9 => ?_) (fun c10 => ?_)
    · refine go_aload kk99_0.1.2.1.2.1 rfl ?_
      refine go_getR (bI := 0) kk99_0.1.2.1.2.2 hg hK0 (by decide) rfl rfl (fun r11 => ?_)
      refine go_int kk99_0.1.2.2.1.1.1 220 rfl ?_
      refine go_iload kk99_0.1.2.2.1.1.2 rfl ?_
      refine go_iadd kk99_0.1.2.2.1.2 ?_
      refine go_ck (fun q13 => ?_)
      refine go_iald kk99_0.1.2.2.2.1 hg q13 (fun r12 => ?_)
      refine go_ifeq kk99_0.1.2.2.2.2 r12 (fun c14 => ?_) (fun c15 => ?_)
      · refine go_int kk99_0.2.1.2.1.1.2 (-1) rfl ?_
        exact go_iret kk99_0.2.1.2.1.2 hg (inR_of (by decide)) ⟨Nat.zero_le _, Nat.zero_le _⟩ rfl
      · refine go_aload kk99_0.2.1.1.1.1.1 rfl ?_
        refine go_getR (bI := 0) kk99_0.2.1.1.1.1.2 hg hK0 (by decide) rfl rfl (fun r16 => ?_)
        refine go_int kk99_0.2.1.1.1.2 0 rfl ?_
        refine go_ck (fun q18 => ?_)
        refine go_iald kk99_0.2.1.1.2.1 hg q18 (fun r17 => ?_)
        refine go_int kk99_0.2.1.1.2.2 40 rfl ?_
        refine go_cmeq kk99_0.2.1.2.1.1.1 r17 (inR_of (by decide)) (fun c19 => ?_) (fun c20 => ?_)
        · refine go_int kk99_0.2.1.2.1.1.2 (-1) rfl ?_
          exact go_iret kk99_0.2.1.2.1.2 hg (inR_of (by decide)) ⟨Nat.zero_le _, Nat.zero_le _⟩ rfl
        · refine go_aload kk99_0.2.1.2.2.1 rfl ?_
          refine go_getR (bI := 0) kk99_0.2.1.2.2.2 hg hK0 (by decide) rfl rfl (fun r21 => ?_)
          refine go_int kk99_0.2.2.1.1.1.1 220 rfl ?_
          refine go_iload kk99_0.2.2.1.1.1.2 rfl ?_
          refine go_iadd kk99_0.2.2.1.1.2 ?_
          refine go_dup2 kk99_0.2.2.1.2.1 ?_
          refine go_ck (fun q23 => ?_)
          refine go_iald kk99_0.2.2.1.2.2 hg q23 (fun r22 => ?_)
          refine go_int kk99_0.2.2.2.1.1.1 1 rfl ?_
          refine go_isub kk99_0.2.2.2.1.1.2 ?_
          refine go_ck (fun q24 => ?_)
          refine go_iast kk99_0.2.2.2.1.2 hg q24 (inR_w32 _) (fun g25 e26 => ?_)
          refine go_aload kk99_0.2.2.2.2.1 rfl ?_
          refine go_getR (bI := 0) kk99_0.2.2.2.2.2 e26 hK0 (by decide) rfl rfl (fun r27 => ?_)
          refine go_int kk99_1.1.1.1.1.1.1 4 rfl ?_
          refine go_dup2 kk99_1.1.1.1.1.1.2 ?_
          refine go_ck (fun q29 => ?_)
          refine go_iald kk99_1.1.1.1.1.2 e26 q29 (fun r28 => ?_)
          refine go_int kk99_1.1.1.1.2.1.1 1 rfl ?_
          refine go_iadd kk99_1.1.1.1.2.1.2 ?_
          refine go_ck (fun q30 => ?_)
          refine go_iast kk99_1.1.1.1.2.2 e26 q30 (inR_w32 _) (fun g31 e32 => ?_)
          refine go_aload kk99_1.1.1.2.1.1.1 rfl ?_
          refine go_iload kk99_1.1.1.2.1.1.2 rfl ?_
          refine go_aload kk99_1.1.1.2.1.2 rfl ?_
          refine go_getR (bI := 0) kk99_1.1.1.2.2.1 e32 hK0 (by decide) rfl rfl (fun r33 => ?_)
          refine go_int kk99_1.1.1.2.2.2 100 rfl ?_
          refine go_iload kk99_1.1.2.1.1.1.1 rfl ?_
          refine go_iadd kk99_1.1.2.1.1.1.2 ?_
          refine go_ck (fun q35 => ?_)
          refine go_iald kk99_1.1.2.1.1.2 e32 q35 (fun r34 => ?_)
          refine go_aload kk99_1.1.2.1.2.1 rfl ?_
          refine go_getR (bI := 0) kk99_1.1.2.1.2.2 e32 hK0 (by decide) rfl rfl (fun r36 => ?_)
          refine go_int kk99_1.1.2.2.1.1.1 180 rfl ?_
          refine go_iload kk99_1.1.2.2.1.1.2 rfl ?_
          refine go_iadd kk99_1.1.2.2.1.2 ?_
          refine go_ck (fun q38 => ?_)
          refine go_iald kk99_1.1.2.2.2.1 e32 q38 (fun r37 => ?_)
          refine go_aload kk99_1.1.2.2.2.2 rfl ?_
          refine go_getR (bI := 0) kk99_1.2.1.1.1.1.1 e32 hK0 (by decide) rfl rfl (fun r39 => ?_)
          refine go_int kk99_1.2.1.1.1.1.2 220 rfl ?_
          refine go_iload kk99_1.2.1.1.1.2 rfl ?_
          refine go_iadd kk99_1.2.1.1.2.1.1 ?_
          refine go_ck (fun q41 => ?_)
          refine go_iald kk99_1.2.1.1.2.1.2 e32 q41 (fun r40 => ?_)
          refine go_callN1 kk99_1.2.1.1.2.2 rfl rfl rfl ⟨by decide, _, rfl, hK0⟩ ⟨Nat.zero_le _, Nat.zero_le _⟩ (by omega) (tfM_comes (by omega) e32 hK0  r2 r34 r37 r40) (fun y42 g44 r43 e45 => ?_)
          refine go_istore kk99_1.2.1.2.1.1.1 rfl (loc2 := [some (sR v0), some (sI v1), some (sI v2), some (sI (g (g v0 0) (w32 (60 + v1)))), some (sI y42)]) rfl ?_
          refine go_aload kk99_1.2.1.2.1.1.2 rfl ?_
          refine go_getR (bI := 5) kk99_1.2.1.2.1.2 e45 hK0 (by decide) rfl rfl (fun r46 => ?_)
          refine go_iload kk99_1.2.1.2.2.1 rfl ?_
          refine go_int kk99_1.2.1.2.2.2 0 rfl ?_
          refine go_ck (fun q47 => ?_)
          refine go_zast kk99_1.2.2.1.1.1.1 e45 q47 (Or.inl rfl) (fun g48 e49 => ?_)
          refine go_aload kk99_1.2.2.1.1.1.2 rfl ?_
          refine go_getR (bI := 0) kk99_1.2.2.1.1.2 e49 hK0 (by decide) rfl rfl (fun r50 => ?_)
          refine go_int kk99_1.2.2.1.2.1 420 rfl ?_
          refine go_iload kk99_1.2.2.1.2.2 rfl ?_
          refine go_iadd kk99_1.2.2.2.1.1.1 ?_
          refine go_iload kk99_1.2.2.2.1.1.2 rfl ?_
          refine go_ck (fun q51 => ?_)
          refine go_iast kk99_1.2.2.2.1.2 e49 q51 r43 (fun g52 e53 => ?_)
          refine go_iload kk99_1.2.2.2.2.1 rfl ?_
          exact go_iret kk99_1.2.2.2.2.2 e53 r43 ⟨Nat.zero_le _, Nat.zero_le _⟩ rfl
    · refine go_int kk99_0.2.1.2.1.1.2 (-1) rfl ?_
      exact go_iret kk99_0.2.1.2.1.2 hg (inR_of (by decide)) ⟨Nat.zero_le _, Nat.zero_le _⟩ rfl
theorem tbM_inheritor_37 {Φ : ev_P} {d : Nat} (hd : 1 ≤ d) {g : gH} (hg : HR g) {v0 v1 : Int} (hK0 : kd v0 = 7) (h1 : InR v1) {X37 : Int → Option Int} (HX37 : ∀ (v3 : Int) (h3 : InR v3) (u2 : Option ev_V) (w2 : nwo u2), Go Φ pr_P (fP g) 1 (X37 v3) d pr_m101 37 [some (sR v0), some (sI v1), u2, some (sI v3)] [] g 0 0) : ∀ (v3 : Int) (h3 : InR v3) (u2 : Option ev_V) (w2 : nwo u2), Go Φ pr_P (fP g) 1 (bM_inheritor_37 g v0 v1 X37 v3) d pr_m101 37 [some (sR v0), some (sI v1), u2, some (sI v3)] [] g 0 0 := by
  intro v3 h3 u2 w2
  unfold bM_inheritor_37
  refine go_iload kk101_0.1.2.2.2.1.1 rfl ?_
  refine go_aload kk101_0.1.2.2.2.1.2 rfl ?_
  refine go_getR (bI := 0) kk101_0.1.2.2.2.2 hg hK0 (by decide) rfl rfl (fun r17 => ?_)
  refine go_int kk101_0.2.1.1.1.1.1 0 rfl ?_
  refine go_ck (fun q19 => ?_)
  refine go_iald kk101_0.2.1.1.1.1.2 hg q19 (fun r18 => ?_)
  refine go_cmlt kk101_0.2.1.1.1.2.1 h3 r18 (fun c20 => ?_) (fun c21 => ?_)
  · refine go_aload kk101_0.2.1.1.1.2.2 rfl ?_
    refine go_iload kk101_0.2.1.1.2.1.1 rfl ?_
    refine go_iload kk101_0.2.1.1.2.1.2 rfl ?_
    refine go_int kk101_0.2.1.1.2.2 0 rfl ?_
    refine go_callP3 kk101_0.2.1.2.1.1.1 rfl rfl rfl ⟨by decide, _, rfl, hK0⟩ ⟨Nat.zero_le _, Nat.zero_le _⟩ (by omega) (tfM_isChild (by omega) hg hK0  h3 h1 (inR_b (Or.inl rfl))) (fun y22 r23 => ?_)
    refine go_ifeq kk101_0.2.1.2.1.1.2 (inR_b r23) (fun c26 => ?_) (fun c27 => ?_)
    · refine go_iinc kk101_0.2.2.1.2.1.1 rfl w2 1 rfl (loc2 := [some (sR v0), some (sI v1), u2, some (sI (w32 (v3 + 1)))]) rfl ?_
      refine go_goto kk101_0.2.2.1.2.1.2 ?_
      exact HX37 (w32 (v3 + 1)) (inR_w32 _) u2 w2
    · refine go_aload kk101_0.2.1.2.1.2 rfl ?_
      refine go_getR (bI := 5) kk101_0.2.1.2.2.1.1 hg hK0 (by decide) rfl rfl (fun r28 => ?_)
      refine go_iload kk101_0.2.1.2.2.1.2 rfl ?_
      refine go_ck (fun q30 => ?_)
      refine go_zald kk101_0.2.1.2.2.2 hg q30 (fun r29 => ?_)
      refine go_ifeq kk101_0.2.2.1.1.1.1 (inR_b r29) (fun c31 => ?_) (fun c32 => ?_)
      · refine go_iload kk101_0.2.2.1.1.1.2 rfl ?_
        exact go_iret kk101_0.2.2.1.1.2 hg h3 ⟨Nat.zero_le _, Nat.zero_le _⟩ rfl
      · refine go_iinc kk101_0.2.2.1.2.1.1 rfl w2 1 rfl (loc2 := [some (sR v0), some (sI v1), u2, some (sI (w32 (v3 + 1)))]) rfl ?_
        refine go_goto kk101_0.2.2.1.2.1.2 ?_
        exact HX37 (w32 (v3 + 1)) (inR_w32 _) u2 w2
  · refine go_aload kk101_0.2.2.1.2.2 rfl ?_
    refine go_getR (bI := 0) kk101_0.2.2.2.1.1.1 hg hK0 (by decide) rfl rfl (fun r33 => ?_)
    refine go_int kk101_0.2.2.2.1.1.2 60 rfl ?_
    refine go_iload kk101_0.2.2.2.1.2 rfl ?_
    refine go_iadd kk101_0.2.2.2.2.1.1 ?_
    refine go_ck (fun q35 => ?_)
    refine go_iald kk101_0.2.2.2.2.1.2 hg q35 (fun r34 => ?_)
    exact go_iret kk101_0.2.2.2.2.2 hg r34 ⟨Nat.zero_le _, Nat.zero_le _⟩ rfl
theorem tlM_inheritor_37 {Φ : ev_P} {d : Nat} (hd : 1 ≤ d) {g : gH} (hg : HR g) {v0 v1 : Int} (hK0 : kd v0 = 7) (h1 : InR v1) : ∀ n : Nat, ∀ (v3 : Int) (h3 : InR v3) (u2 : Option ev_V) (w2 : nwo u2), Go Φ pr_P (fP g) 1 (lM_inheritor_37 g v0 v1 n v3) d pr_m101 37 [some (sR v0), some (sI v1), u2, some (sI v3)] [] g 0 0 := by
  intro n
  induction n with
  | zero => intros; exact go_none
  | succ n ih => exact tbM_inheritor_37 hd hg hK0 h1 ih
theorem tfM_inheritor {Φ : ev_P} {d : Nat} (hd : 1 ≤ d) {g : gH} (hg : HR g) {v0 v1 : Int} (hK0 : kd v0 = 7) (h1 : InR v1) : Go Φ pr_P (fP g) 1 (fM_inheritor g v0 v1) d (pr_P 101) 0 (ev_loc (pr_P 101).1 [(sR v0), (sI v1)]) [] g 0 0 := by
  show Go Φ pr_P (fP g) 1 (fM_inheritor g v0 v1) d pr_m101 0 [some (sR v0), some (sI v1), none, none] [] g 0 0
  unfold fM_inheritor
  refine go_aload kk101_0.1.1.1.1.1.1 rfl ?_
  refine go_getR (bI := 0) kk101_0.1.1.1.1.1.2 hg hK0 (by decide) rfl rfl (fun r1 => ?_)
  refine go_int kk101_0.1.1.1.1.2.1 260 rfl ?_
  refine go_iload kk101_0.1.1.1.1.2.2 rfl ?_
  refine go_iadd kk101_0.1.1.1.2.1.1 ?_
  refine go_ck (fun q3 => ?_)
  refine go_iald kk101_0.1.1.1.2.1.2 hg q3 (fun r2 => ?_)
  refine go_istore kk101_0.1.1.1.2.2 rfl (loc2 := [some (sR v0), some (sI v1), some (sI (g (g v0 0) (w32 (260 + v1)))), none]) rfl ?_
  refine go_iload kk101_0.1.1.2.1.1.1 rfl ?_
  refine go_int kk101_0.1.1.2.1.1.2 (-1) rfl ?_
  refine go_cmeq kk101_0.1.1.2.1.2 r2 (inR_of (by decide)) (fun c4 => ?_) (fun c5 => ?_)
  · refine go_int kk101_0.1.2.2.1.1.2 0 rfl ?_
    refine go_istore kk101_0.1.2.2.1.2 rfl (loc2 := [some (sR v0), some (sI v1), some (sI (g (g v0 0) (w32 (260 + v1)))), some (sI 0)]) rfl ?_
    exact tlM_inheritor_37 hd hg hK0 h1 fu 0 (inR_b (Or.inl rfl)) (some (sI (g (g v0 0) (w32 (260 + v1))))) rfl
  · refine go_aload kk101_0.1.1.2.2.1.1 rfl ?_
    refine go_iload kk101_0.1.1.2.2.1.2 rfl ?_
    refine go_callP3 kk101_0.1.1.2.2.2 rfl rfl rfl ⟨by decide, _, rfl, hK0⟩ ⟨Nat.zero_le _, Nat.zero_le _⟩ (by omega) (tfM_runs (by omega) hg hK0  r2) (fun y6 r7 => ?_)
    refine go_ifeq kk101_0.1.2.1.1.1.1 (inR_b r7) (fun c10 => ?_) (fun c11 => ?_)
    · refine go_int kk101_0.1.2.2.1.1.2 0 rfl ?_
      refine go_istore kk101_0.1.2.2.1.2 rfl (loc2 := [some (sR v0), some (sI v1), some (sI (g (g v0 0) (w32 (260 + v1)))), some (sI 0)]) rfl ?_
      exact tlM_inheritor_37 hd hg hK0 h1 fu 0 (inR_b (Or.inl rfl)) (some (sI (g (g v0 0) (w32 (260 + v1))))) rfl
    · refine go_aload kk101_0.1.2.1.1.1.2 rfl ?_
      refine go_getR (bI := 5) kk101_0.1.2.1.1.2.1 hg hK0 (by decide) rfl rfl (fun r12 => ?_)
      refine go_iload kk101_0.1.2.1.1.2.2 rfl ?_
      refine go_ck (fun q14 => ?_)
      refine go_zald kk101_0.1.2.1.2.1.1 hg q14 (fun r13 => ?_)
      refine go_ifeq kk101_0.1.2.1.2.1.2 (inR_b r13) (fun c15 => ?_) (fun c16 => ?_)
      · refine go_iload kk101_0.1.2.1.2.2 rfl ?_
        exact go_iret kk101_0.1.2.2.1.1.1 hg r2 ⟨Nat.zero_le _, Nat.zero_le _⟩ rfl
      · refine go_int kk101_0.1.2.2.1.1.2 0 rfl ?_
        refine go_istore kk101_0.1.2.2.1.2 rfl (loc2 := [some (sR v0), some (sI v1), some (sI (g (g v0 0) (w32 (260 + v1)))), some (sI 0)]) rfl ?_
        exact tlM_inheritor_37 hd hg hK0 h1 fu 0 (inR_b (Or.inl rfl)) (some (sI (g (g v0 0) (w32 (260 + v1))))) rfl
theorem tfM_heirOf {Φ : ev_P} {d : Nat} (hd : 2 ≤ d) {g : gH} (hg : HR g) {v0 v1 v2 : Int} (hK0 : kd v0 = 7) (h1 : InR v1) (h2 : InR v2) : Go Φ pr_P (fP g) 1 (fM_heirOf g v0 v1 v2) d (pr_P 100) 0 (ev_loc (pr_P 100).1 [(sR v0), (sI v1), (sI v2)]) [] g 0 0 := by
  show Go Φ pr_P (fP g) 1 (fM_heirOf g v0 v1 v2) d pr_m100 0 [some (sR v0), some (sI v1), some (sI v2), none] [] g 0 0
  unfold fM_heirOf
  refine go_aload kk100_0.1.1.1.1.1 rfl ?_
  refine go_getR (bI := 0) kk100_0.1.1.1.1.2 hg hK0 (by decide) rfl rfl (fun r1 => ?_)
  refine go_int kk100_0.1.1.1.2.1 460 rfl ?_
  refine go_int kk100_0.1.1.1.2.2 8 rfl ?_
  refine go_iload kk100_0.1.1.2.1.1 rfl ?_
  refine go_ibin kk100_0.1.1.2.1.2 ?_
  refine go_iadd kk100_0.1.1.2.2.1 ?_
  refine go_iload kk100_0.1.1.2.2.2 rfl ?_
  refine go_iadd kk100_0.1.2.1.1.1 ?_
  refine go_ck (fun q3 => ?_)
  refine go_iald kk100_0.1.2.1.1.2 hg q3 (fun r2 => ?_)
  refine go_istore kk100_0.1.2.1.2.1 rfl (loc2 := [some (sR v0), some (sI v1), some (sI v2), some (sI (g (g v0 0) (w32 ((w32 (460 + (opI 0 8 v1))) + v2))))]) rfl ?_
  refine go_iload kk100_0.1.2.1.2.2 rfl ?_
  refine go_int kk100_0.1.2.2.1.1 (-1) rfl ?_
  refine go_cmeq kk100_0.1.2.2.1.2 r2 (inR_of (by decide)) (fun c4 => ?_) (fun c5 => ?_)
  · refine go_aload kk100_0.2.2.1.2.2 rfl ?_
    refine go_iload kk100_0.2.2.2.1.1 rfl ?_
    refine go_callP1 kk100_0.2.2.2.1.2 rfl rfl rfl ⟨by decide, _, rfl, hK0⟩ ⟨Nat.zero_le _, Nat.zero_le _⟩ (by omega) (tfM_inheritor (by omega) hg hK0  h1) (fun y6 r7 => ?_)
    exact go_iret kk100_0.2.2.2.2 hg r7 ⟨Nat.zero_le _, Nat.zero_le _⟩ rfl
  · refine go_aload kk100_0.1.2.2.2 rfl ?_
    refine go_iload kk100_0.2.1.1.1.1 rfl ?_
    refine go_callP3 kk100_0.2.1.1.1.2 rfl rfl rfl ⟨by decide, _, rfl, hK0⟩ ⟨Nat.zero_le _, Nat.zero_le _⟩ (by omega) (tfM_runs (by omega) hg hK0  r2) (fun y10 r11 => ?_)
    refine go_ifeq kk100_0.2.1.1.2.1 (inR_b r11) (fun c14 => ?_) (fun c15 => ?_)
    · refine go_aload kk100_0.2.2.1.2.2 rfl ?_
      refine go_iload kk100_0.2.2.2.1.1 rfl ?_
      refine go_callP1 kk100_0.2.2.2.1.2 rfl rfl rfl ⟨by decide, _, rfl, hK0⟩ ⟨Nat.zero_le _, Nat.zero_le _⟩ (by omega) (tfM_inheritor (by omega) hg hK0  h1) (fun y16 r17 => ?_)
      exact go_iret kk100_0.2.2.2.2 hg r17 ⟨Nat.zero_le _, Nat.zero_le _⟩ rfl
    · refine go_aload kk100_0.2.1.1.2.2 rfl ?_
      refine go_getR (bI := 5) kk100_0.2.1.2.1.1 hg hK0 (by decide) rfl rfl (fun r20 => ?_)
      refine go_iload kk100_0.2.1.2.1.2 rfl ?_
      refine go_ck (fun q22 => ?_)
      refine go_zald kk100_0.2.1.2.2 hg q22 (fun r21 => ?_)
      refine go_ifeq kk100_0.2.2.1.1.1 (inR_b r21) (fun c23 => ?_) (fun c24 => ?_)
      · refine go_iload kk100_0.2.2.1.1.2 rfl ?_
        refine go_goto kk100_0.2.2.1.2.1 ?_
        exact go_iret kk100_0.2.2.2.2 hg r2 ⟨Nat.zero_le _, Nat.zero_le _⟩ rfl
      · refine go_aload kk100_0.2.2.1.2.2 rfl ?_
        refine go_iload kk100_0.2.2.2.1.1 rfl ?_
        refine go_callP1 kk100_0.2.2.2.1.2 rfl rfl rfl ⟨by decide, _, rfl, hK0⟩ ⟨Nat.zero_le _, Nat.zero_le _⟩ (by omega) (tfM_inheritor (by omega) hg hK0  h1) (fun y25 r26 => ?_)
        exact go_iret kk100_0.2.2.2.2 hg r26 ⟨Nat.zero_le _, Nat.zero_le _⟩ rfl
theorem tbM_firstZombie_2 {Φ : ev_P} {d : Nat} (hd : 1 ≤ d) {g : gH} (hg : HR g) {v0 v1 : Int} (hK0 : kd v0 = 7) (h1 : InR v1) {X2 : Int → Option Int} (HX2 : ∀ (v2 : Int) (h2 : InR v2), Go Φ pr_P (fP g) 1 (X2 v2) d pr_m102 2 [some (sR v0), some (sI v1), some (sI v2)] [] g 0 0) : ∀ (v2 : Int) (h2 : InR v2), Go Φ pr_P (fP g) 1 (bM_firstZombie_2 g v0 v1 X2 v2) d pr_m102 2 [some (sR v0), some (sI v1), some (sI v2)] [] g 0 0 := by
  intro v2 h2
  unfold bM_firstZombie_2
  refine go_iload kk102_0.1.1.1.2.1 rfl ?_
  refine go_aload kk102_0.1.1.1.2.2 rfl ?_
  refine go_getR (bI := 0) kk102_0.1.1.2.1.1 hg hK0 (by decide) rfl rfl (fun r1 => ?_)
  refine go_int kk102_0.1.1.2.1.2 1 rfl ?_
  refine go_ck (fun q3 => ?_)
  refine go_iald kk102_0.1.1.2.2.1 hg q3 (fun r2 => ?_)
  refine go_cmlt kk102_0.1.1.2.2.2 h2 r2 (fun c4 => ?_) (fun c5 => ?_)
  · refine go_aload kk102_0.1.2.1.1.1 rfl ?_
    refine go_aload kk102_0.1.2.1.1.2 rfl ?_
    refine go_getR (bI := 0) kk102_0.1.2.1.2.1 hg hK0 (by decide) rfl rfl (fun r6 => ?_)
    refine go_int kk102_0.1.2.1.2.2 19 rfl ?_
    refine go_iload kk102_0.1.2.2.1.1 rfl ?_
    refine go_iadd kk102_0.1.2.2.1.2 ?_
    refine go_ck (fun q8 => ?_)
    refine go_iald kk102_0.1.2.2.2 hg q8 (fun r7 => ?_)
    refine go_iload kk102_0.2.1.1.1.1 rfl ?_
    refine go_int kk102_0.2.1.1.1.2 1 rfl ?_
    refine go_callP3 kk102_0.2.1.1.2.1 rfl rfl rfl ⟨by decide, _, rfl, hK0⟩ ⟨Nat.zero_le _, Nat.zero_le _⟩ (by omega) (tfM_isChild (by omega) hg hK0  r7 h1 (inR_b (Or.inr rfl))) (fun y9 r10 => ?_)
    refine go_ifeq kk102_0.2.1.1.2.2 (inR_b r10) (fun c13 => ?_) (fun c14 => ?_)
    · refine go_iinc kk102_0.2.2.1.2.2 rfl rfl 1 rfl (loc2 := [some (sR v0), some (sI v1), some (sI (w32 (v2 + 1)))]) rfl ?_
      refine go_goto kk102_0.2.2.2.1.1 ?_
      exact HX2 (w32 (v2 + 1)) (inR_w32 _)
    · refine go_aload kk102_0.2.1.2.1.1 rfl ?_
      refine go_getR (bI := 0) kk102_0.2.1.2.1.2 hg hK0 (by decide) rfl rfl (fun r15 => ?_)
      refine go_int kk102_0.2.1.2.2.1 19 rfl ?_
      refine go_iload kk102_0.2.1.2.2.2 rfl ?_
      refine go_iadd kk102_0.2.2.1.1.1 ?_
      refine go_ck (fun q17 => ?_)
      refine go_iald kk102_0.2.2.1.1.2 hg q17 (fun r16 => ?_)
      exact go_iret kk102_0.2.2.1.2.1 hg r16 ⟨Nat.zero_le _, Nat.zero_le _⟩ rfl
  · refine go_int kk102_0.2.2.2.1.2 (-1) rfl ?_
    exact go_iret kk102_0.2.2.2.2 hg (inR_of (by decide)) ⟨Nat.zero_le _, Nat.zero_le _⟩ rfl
theorem tlM_firstZombie_2 {Φ : ev_P} {d : Nat} (hd : 1 ≤ d) {g : gH} (hg : HR g) {v0 v1 : Int} (hK0 : kd v0 = 7) (h1 : InR v1) : ∀ n : Nat, ∀ (v2 : Int) (h2 : InR v2), Go Φ pr_P (fP g) 1 (lM_firstZombie_2 g v0 v1 n v2) d pr_m102 2 [some (sR v0), some (sI v1), some (sI v2)] [] g 0 0 := by
  intro n
  induction n with
  | zero => intros; exact go_none
  | succ n ih => exact tbM_firstZombie_2 hd hg hK0 h1 ih
theorem tfM_firstZombie {Φ : ev_P} {d : Nat} (hd : 1 ≤ d) {g : gH} (hg : HR g) {v0 v1 : Int} (hK0 : kd v0 = 7) (h1 : InR v1) : Go Φ pr_P (fP g) 1 (fM_firstZombie g v0 v1) d (pr_P 102) 0 (ev_loc (pr_P 102).1 [(sR v0), (sI v1)]) [] g 0 0 := by
  show Go Φ pr_P (fP g) 1 (fM_firstZombie g v0 v1) d pr_m102 0 [some (sR v0), some (sI v1), none] [] g 0 0
  unfold fM_firstZombie
  refine go_int kk102_0.1.1.1.1.1 0 rfl ?_
  refine go_istore kk102_0.1.1.1.1.2 rfl (loc2 := [some (sR v0), some (sI v1), some (sI 0)]) rfl ?_
  exact tlM_firstZombie_2 hd hg hK0 h1 fu 0 (inR_b (Or.inl rfl))
theorem tbM_readsAll_8 {Φ : ev_P} {d : Nat} (hd : 2 ≤ d) {v0 v1 : Int} (hK0 : kd v0 = 7) (h1 : InR v1) {X8 : Int → Int → gH → Option (Int × gH)} (HX8 : ∀ (v2 : Int) (h2 : InR v2) (v3 : Int) (h3 : InR v3) (g : gH) (hg : HR g), Go Φ pr_P fN 1 (X8 v2 v3 g) d pr_m103 8 [some (sR v0), some (sI v1), some (sI v2), some (sI v3)] [] g 0 0) : ∀ (v2 : Int) (h2 : InR v2) (v3 : Int) (h3 : InR v3) (g : gH) (hg : HR g), Go Φ pr_P fN 1 (bM_readsAll_8 v0 v1 X8 v2 v3 g) d pr_m103 8 [some (sR v0), some (sI v1), some (sI v2), some (sI v3)] [] g 0 0 := by
  intro v2 h2 v3 h3 g hg
  unfold bM_readsAll_8
  refine go_iload kk103_0.1.1.2.2.1 rfl ?_
  refine go_int kk103_0.1.1.2.2.2 (-1) rfl ?_
  refine go_cmeq kk103_0.1.2.1.1.1 h3 (inR_of (by decide)) (fun c5 => ?_) (fun c6 => ?_)
  · refine go_iload kk103_0.2.2.2.2.1 rfl ?_
    exact go_iret kk103_0.2.2.2.2.2 hg h2 ⟨Nat.zero_le _, Nat.zero_le _⟩ rfl
  · refine go_aload kk103_0.1.2.1.1.2 rfl ?_
    refine go_getR (bI := 0) kk103_0.1.2.1.2.1 hg hK0 (by decide) rfl rfl (fun r7 => ?_)
    refine go_int kk103_0.1.2.1.2.2 140 rfl ?_
    refine go_iload kk103_0.1.2.2.1.1 rfl ?_
    refine go_iadd kk103_0.1.2.2.1.2 ?_
    refine go_int kk103_0.1.2.2.2.1 2 rfl ?_
    refine go_ck (fun q8 => ?_)
    refine go_iast kk103_0.1.2.2.2.2 hg q8 (inR_of (by decide)) (fun g9 e10 => ?_)
    refine go_iload kk103_0.2.1.1.1.1 rfl ?_
    refine go_aload kk103_0.2.1.1.1.2 rfl ?_
    refine go_getR (bI := 0) kk103_0.2.1.1.2.1 e10 hK0 (by decide) rfl rfl (fun r11 => ?_)
    refine go_int kk103_0.2.1.1.2.2 300 rfl ?_
    refine go_iload kk103_0.2.1.2.1.1 rfl ?_
    refine go_iadd kk103_0.2.1.2.1.2 ?_
    refine go_ck (fun q13 => ?_)
    refine go_iald kk103_0.2.1.2.2.1 e10 q13 (fun r12 => ?_)
    refine go_iadd kk103_0.2.1.2.2.2 ?_
    refine go_istore kk103_0.2.2.1.1.1 rfl (loc2 := [some (sR v0), some (sI v1), some (sI (w32 (v2 + (g9 (g9 v0 0) (w32 (300 + v3)))))), some (sI v3)]) rfl ?_
    refine go_aload kk103_0.2.2.1.1.2 rfl ?_
    refine go_iload kk103_0.2.2.1.2.1 rfl ?_
    refine go_callP1 kk103_0.2.2.1.2.2 rfl rfl rfl ⟨by decide, _, rfl, hK0⟩ ⟨Nat.zero_le _, Nat.zero_le _⟩ (by omega) (tfM_firstZombie (by omega) e10 hK0  h1) (fun y14 r15 => ?_)
    refine go_istore kk103_0.2.2.2.1.1 rfl (loc2 := [some (sR v0), some (sI v1), some (sI (w32 (v2 + (g9 (g9 v0 0) (w32 (300 + v3)))))), some (sI y14)]) rfl ?_
    refine go_goto kk103_0.2.2.2.1.2 ?_
    exact HX8 (w32 (v2 + (g9 (g9 v0 0) (w32 (300 + v3))))) (inR_w32 _) y14 r15 g9 e10
theorem tlM_readsAll_8 {Φ : ev_P} {d : Nat} (hd : 2 ≤ d) {v0 v1 : Int} (hK0 : kd v0 = 7) (h1 : InR v1) : ∀ n : Nat, ∀ (v2 : Int) (h2 : InR v2) (v3 : Int) (h3 : InR v3) (g : gH) (hg : HR g), Go Φ pr_P fN 1 (lM_readsAll_8 v0 v1 n v2 v3 g) d pr_m103 8 [some (sR v0), some (sI v1), some (sI v2), some (sI v3)] [] g 0 0 := by
  intro n
  induction n with
  | zero => intros; exact go_none
  | succ n ih => exact tbM_readsAll_8 hd hK0 h1 ih
theorem tfM_readsAll {Φ : ev_P} {d : Nat} (hd : 2 ≤ d) {g : gH} (hg : HR g) {v0 v1 : Int} (hK0 : kd v0 = 7) (h1 : InR v1) : Go Φ pr_P fN 1 (fM_readsAll g v0 v1) d (pr_P 103) 0 (ev_loc (pr_P 103).1 [(sR v0), (sI v1)]) [] g 0 0 := by
  show Go Φ pr_P fN 1 (fM_readsAll g v0 v1) d pr_m103 0 [some (sR v0), some (sI v1), none, none] [] g 0 0
  unfold fM_readsAll
  refine go_int kk103_0.1.1.1.1.1 0 rfl ?_
  refine go_istore kk103_0.1.1.1.1.2 rfl (loc2 := [some (sR v0), some (sI v1), some (sI 0), none]) rfl ?_
  refine go_aload kk103_0.1.1.1.2.1 rfl ?_
  refine go_iload kk103_0.1.1.1.2.2 rfl ?_
  refine go_callP1 kk103_0.1.1.2.1.1 rfl rfl rfl ⟨by decide, _, rfl, hK0⟩ ⟨Nat.zero_le _, Nat.zero_le _⟩ (by omega) (tfM_firstZombie (by omega) hg hK0  h1) (fun y1 r2 => ?_)
  refine go_istore kk103_0.1.1.2.1.2 rfl (loc2 := [some (sR v0), some (sI v1), some (sI 0), some (sI y1)]) rfl ?_
  exact tlM_readsAll_8 hd hK0 h1 fu 0 (inR_b (Or.inl rfl)) y1 r2 g hg
theorem tjM_exits_253 {Φ : ev_P} {d : Nat} (hd : 7 ≤ d) {g : gH} (hg : HR g) {v0 v4 : Int} (hK0 : kd v0 = 7) (h4 : InR v4) {s0 : Int} (z0 : InR s0) (u1 : Option ev_V) (w1 : nwo u1) (u2 : Option ev_V) (w2 : nwo u2) (u3 : Option ev_V) (w3 : nwo u3) (u5 : Option ev_V) (w5 : nwo u5) (u6 : Option ev_V) (w6 : nwo u6) : Go Φ pr_P fN 1 (jM_exits_253 g v0 v4 s0 ) d pr_m104 253 [some (sR v0), u1, u2, u3, some (sI v4), u5, u6] [(sI s0)] g 0 0 := by
  unfold jM_exits_253
  refine go_istore kk104_2.2.2.1.1.1.2 w5 (loc2 := [some (sR v0), u1, u2, u3, some (sI v4), u5, some (sI s0)]) rfl ?_
  refine go_iload kk104_2.2.2.1.1.2.1 rfl ?_
  refine go_iflt kk104_2.2.2.1.1.2.2 z0 (fun c112 => ?_) (fun c113 => ?_)
  · refine go_int kk104_2.2.2.1.2.1.1 (-1) rfl ?_
    refine go_goto kk104_2.2.2.1.2.1.2 ?_
    exact go_iret kk104_2.2.2.2.2.2 hg (inR_of (by decide)) ⟨Nat.zero_le _, Nat.zero_le _⟩ rfl
  · refine go_aload kk104_2.2.2.1.2.2 rfl ?_
    refine go_getR (bI := 0) kk104_2.2.2.2.1.1.1 hg hK0 (by decide) rfl rfl (fun r114 => ?_)
    refine go_int kk104_2.2.2.2.1.1.2 3 rfl ?_
    refine go_ck (fun q116 => ?_)
    refine go_iald kk104_2.2.2.2.1.2 hg q116 (fun r115 => ?_)
    refine go_iload kk104_2.2.2.2.2.1.1 rfl ?_
    refine go_isub kk104_2.2.2.2.2.1.2 ?_
    exact go_iret kk104_2.2.2.2.2.2 hg (inR_w32 _) ⟨Nat.zero_le _, Nat.zero_le _⟩ rfl
theorem tjM_exits_240 {Φ : ev_P} {d : Nat} (hd : 7 ≤ d) {g : gH} (hg : HR g) {v0 v3 v4 : Int} (hK0 : kd v0 = 7) (h3 : InR v3) (h4 : InR v4) (u1 : Option ev_V) (w1 : nwo u1) (u2 : Option ev_V) (w2 : nwo u2) (u5 : Option ev_V) (w5 : nwo u5) (u6 : Option ev_V) (w6 : nwo u6) : Go Φ pr_P fN 1 (jM_exits_240 g v0 v3 v4 ) d pr_m104 240 [some (sR v0), u1, u2, some (sI v3), some (sI v4), u5, u6] [] g 0 0 := by
  unfold jM_exits_240
  refine go_iload kk104_2.2.1.2.1.1.1 rfl ?_
  refine go_ifeq kk104_2.2.1.2.1.1.2 h3 (fun c106 => ?_) (fun c107 => ?_)
  · refine go_aload kk104_2.2.1.2.1.2 rfl ?_
    refine go_int kk104_2.2.1.2.2.1.1 0 rfl ?_
    refine go_callN1 kk104_2.2.1.2.2.1.2 rfl rfl rfl ⟨by decide, _, rfl, hK0⟩ ⟨Nat.zero_le _, Nat.zero_le _⟩ (by omega) (tfM_readsAll (by omega) hg hK0  (inR_b (Or.inl rfl))) (fun y108 g110 r109 e111 => ?_)
    refine go_goto kk104_2.2.1.2.2.2 ?_
    exact tjM_exits_253 hd e111 hK0 h4 r109 u1 w1 u2 w2 (some (sI v3)) rfl u5 w5 u6 w6
  · refine go_int kk104_2.2.2.1.1.1.1 0 rfl ?_
    exact tjM_exits_253 hd hg hK0 h4 (inR_b (Or.inl rfl)) u1 w1 u2 w2 (some (sI v3)) rfl u5 w5 u6 w6
theorem tbM_exits_201 {Φ : ev_P} {d : Nat} (hd : 7 ≤ d) {v0 v1 v3 v4 : Int} (hK0 : kd v0 = 7) (h1 : InR v1) (h3 : InR v3) (h4 : InR v4) {X201 : Int → gH → Option (Int × gH)} (HX201 : ∀ (v6 : Int) (h6 : InR v6) (g : gH) (hg : HR g) (u2 : Option ev_V) (w2 : nwo u2) (u5 : Option ev_V) (w5 : nwo u5), Go Φ pr_P fN 1 (X201 v6 g) d pr_m104 201 [some (sR v0), some (sI v1), u2, some (sI v3), some (sI v4), u5, some (sI v6)] [] g 0 0) : ∀ (v6 : Int) (h6 : InR v6) (g : gH) (hg : HR g) (u2 : Option ev_V) (w2 : nwo u2) (u5 : Option ev_V) (w5 : nwo u5), Go Φ pr_P fN 1 (bM_exits_201 v0 v1 v3 v4 X201 v6 g) d pr_m104 201 [some (sR v0), some (sI v1), u2, some (sI v3), some (sI v4), u5, some (sI v6)] [] g 0 0 := by
  intro v6 h6 g hg u2 w2 u5 w5
  unfold bM_exits_201
  refine go_iload kk104_2.1.1.2.2.2 rfl ?_
  refine go_aload kk104_2.1.2.1.1.1.1 rfl ?_
  refine go_getR (bI := 0) kk104_2.1.2.1.1.1.2 hg hK0 (by decide) rfl rfl (fun r91 => ?_)
  refine go_int kk104_2.1.2.1.1.2.1 0 rfl ?_
  refine go_ck (fun q93 => ?_)
  refine go_iald kk104_2.1.2.1.1.2.2 hg q93 (fun r92 => ?_)
  refine go_cmlt kk104_2.1.2.1.2.1.1 h6 r92 (fun c94 => ?_) (fun c95 => ?_)
  · refine go_aload kk104_2.1.2.1.2.1.2 rfl ?_
    refine go_iload kk104_2.1.2.1.2.2 rfl ?_
    refine go_iload kk104_2.1.2.2.1.1.1 rfl ?_
    refine go_int kk104_2.1.2.2.1.1.2 1 rfl ?_
    refine go_callP3 kk104_2.1.2.2.1.2 rfl rfl rfl ⟨by decide, _, rfl, hK0⟩ ⟨Nat.zero_le _, Nat.zero_le _⟩ (by omega) (tfM_isChild (by omega) hg hK0  h6 h1 (inR_b (Or.inr rfl))) (fun y96 r97 => ?_)
    refine go_ifeq kk104_2.1.2.2.2.1.1 (inR_b r97) (fun c100 => ?_) (fun c101 => ?_)
    · refine go_iinc kk104_2.2.1.1.2.1.2 rfl w5 1 rfl (loc2 := [some (sR v0), some (sI v1), u2, some (sI v3), some (sI v4), u5, some (sI (w32 (v6 + 1)))]) rfl ?_
      refine go_goto kk104_2.2.1.1.2.2 ?_
      exact HX201 (w32 (v6 + 1)) (inR_w32 _) g hg u2 w2 u5 w5
    · refine go_aload kk104_2.1.2.2.2.1.2 rfl ?_
      refine go_getR (bI := 0) kk104_2.1.2.2.2.2 hg hK0 (by decide) rfl rfl (fun r102 => ?_)
      refine go_int kk104_2.2.1.1.1.1.1 60 rfl ?_
      refine go_iload kk104_2.2.1.1.1.1.2 rfl ?_
      refine go_iadd kk104_2.2.1.1.1.2.1 ?_
      refine go_iload kk104_2.2.1.1.1.2.2 rfl ?_
      refine go_ck (fun q103 => ?_)
      refine go_iast kk104_2.2.1.1.2.1.1 hg q103 h3 (fun g104 e105 => ?_)
      refine go_iinc kk104_2.2.1.1.2.1.2 rfl w5 1 rfl (loc2 := [some (sR v0), some (sI v1), u2, some (sI v3), some (sI v4), u5, some (sI (w32 (v6 + 1)))]) rfl ?_
      refine go_goto kk104_2.2.1.1.2.2 ?_
      exact HX201 (w32 (v6 + 1)) (inR_w32 _) g104 e105 u2 w2 u5 w5
  · exact tjM_exits_240 hd hg hK0 h3 h4 (some (sI v1)) rfl u2 w2 u5 w5 (some (sI v6)) rfl
theorem tlM_exits_201 {Φ : ev_P} {d : Nat} (hd : 7 ≤ d) {v0 v1 v3 v4 : Int} (hK0 : kd v0 = 7) (h1 : InR v1) (h3 : InR v3) (h4 : InR v4) : ∀ n : Nat, ∀ (v6 : Int) (h6 : InR v6) (g : gH) (hg : HR g) (u2 : Option ev_V) (w2 : nwo u2) (u5 : Option ev_V) (w5 : nwo u5), Go Φ pr_P fN 1 (lM_exits_201 v0 v1 v3 v4 n v6 g) d pr_m104 201 [some (sR v0), some (sI v1), u2, some (sI v3), some (sI v4), u5, some (sI v6)] [] g 0 0 := by
  intro n
  induction n with
  | zero => intros; exact go_none
  | succ n ih => exact tbM_exits_201 hd hK0 h1 h3 h4 ih
theorem tbM_exits_134 {Φ : ev_P} {d : Nat} (hd : 7 ≤ d) {v0 v1 v3 v4 v5 : Int} (hK0 : kd v0 = 7) (h1 : InR v1) (h3 : InR v3) (h4 : InR v4) (h5 : InR v5) {X134 : Int → gH → Option (Int × gH)} (HX134 : ∀ (v6 : Int) (h6 : InR v6) (g : gH) (hg : HR g) (u2 : Option ev_V) (w2 : nwo u2), Go Φ pr_P fN 1 (X134 v6 g) d pr_m104 134 [some (sR v0), some (sI v1), u2, some (sI v3), some (sI v4), some (sI v5), some (sI v6)] [] g 0 0) : ∀ (v6 : Int) (h6 : InR v6) (g : gH) (hg : HR g) (u2 : Option ev_V) (w2 : nwo u2), Go Φ pr_P fN 1 (bM_exits_134 v0 v1 v3 v4 v5 X134 v6 g) d pr_m104 134 [some (sR v0), some (sI v1), u2, some (sI v3), some (sI v4), some (sI v5), some (sI v6)] [] g 0 0 := by
  intro v6 h6 g hg u2 w2
  unfold bM_exits_134
  refine go_iload kk104_1.2.1.1.2.1.1 rfl ?_
  refine go_aload kk104_1.2.1.1.2.1.2 rfl ?_
  refine go_getR (bI := 0) kk104_1.2.1.1.2.2 hg hK0 (by decide) rfl rfl (fun r52 => ?_)
  refine go_int kk104_1.2.1.2.1.1.1 0 rfl ?_
  refine go_ck (fun q54 => ?_)
  refine go_iald kk104_1.2.1.2.1.1.2 hg q54 (fun r53 => ?_)
  refine go_cmlt kk104_1.2.1.2.1.2 h6 r53 (fun c55 => ?_) (fun c56 => ?_)
  · refine go_aload kk104_1.2.1.2.2.1.1 rfl ?_
    refine go_iload kk104_1.2.1.2.2.1.2 rfl ?_
    refine go_iload kk104_1.2.1.2.2.2 rfl ?_
    refine go_int kk104_1.2.2.1.1.1.1 0 rfl ?_
    refine go_callP3 kk104_1.2.2.1.1.1.2 rfl rfl rfl ⟨by decide, _, rfl, hK0⟩ ⟨Nat.zero_le _, Nat.zero_le _⟩ (by omega) (tfM_isChild (by omega) hg hK0  h6 h1 (inR_b (Or.inl rfl))) (fun y57 r58 => ?_)
    refine go_ifeq kk104_1.2.2.1.1.2 (inR_b r58) (fun c61 => ?_) (fun c62 => ?_)
    · refine go_goto kk104_1.2.2.1.2.1.1 ?_
      refine go_iinc kk104_2.1.1.2.1.1.2 rfl rfl 1 rfl (loc2 := [some (sR v0), some (sI v1), u2, some (sI v3), some (sI v4), some (sI v5), some (sI (w32 (v6 + 1)))]) rfl ?_
      refine go_goto kk104_2.1.1.2.1.2 ?_
      exact HX134 (w32 (v6 + 1)) (inR_w32 _) g hg u2 w2
    · refine go_aload kk104_1.2.2.1.2.1.2 rfl ?_
      refine go_iload kk104_1.2.2.1.2.2 rfl ?_
      refine go_int kk104_1.2.2.2.1.1.1 (-1) rfl ?_
      refine go_cmeq kk104_1.2.2.2.1.1.2 h5 (inR_of (by decide)) (fun c63 => ?_) (fun c64 => ?_)
      · refine go_aload kk104_2.1.1.1.1.2.1 rfl ?_
        refine go_iload kk104_2.1.1.1.1.2.2 rfl ?_
        refine go_iload kk104_2.1.1.1.2.1.1 rfl ?_
        refine go_callP1 kk104_2.1.1.1.2.1.2 rfl rfl rfl ⟨by decide, _, rfl, hK0⟩ ⟨Nat.zero_le _, Nat.zero_le _⟩ (by omega) (tfM_adopterOf (by omega) hg hK0  h6 h1) (fun y65 r66 => ?_)
        refine go_iload kk104_2.1.1.1.2.2 rfl ?_
        refine go_callN0 kk104_2.1.1.2.1.1.1 rfl rfl rfl ⟨by decide, _, rfl, hK0⟩ ⟨Nat.zero_le _, Nat.zero_le _⟩ (by omega) (tfM_adopts (by omega) hg hK0  r66 h6) (fun y69 g71 e72 => ?_)
        refine go_iinc kk104_2.1.1.2.1.1.2 rfl rfl 1 rfl (loc2 := [some (sR v0), some (sI v1), u2, some (sI v3), some (sI v4), some (sI v5), some (sI (w32 (v6 + 1)))]) rfl ?_
        refine go_goto kk104_2.1.1.2.1.2 ?_
        exact HX134 (w32 (v6 + 1)) (inR_w32 _) g71 e72 u2 w2
      · refine go_aload kk104_1.2.2.2.1.2 rfl ?_
        refine go_iload kk104_1.2.2.2.2.1.1 rfl ?_
        refine go_callP1 kk104_1.2.2.2.2.1.2 rfl rfl rfl ⟨by decide, _, rfl, hK0⟩ ⟨Nat.zero_le _, Nat.zero_le _⟩ (by omega) (tfM_roomOf (by omega) hg hK0  h5) (fun y73 r74 => ?_)
        refine go_ifgt kk104_1.2.2.2.2.2 r74 (fun c77 => ?_) (fun c78 => ?_)
        · refine go_iload kk104_2.1.1.1.1.1.1 rfl ?_
          refine go_goto kk104_2.1.1.1.1.1.2 ?_
          refine go_iload kk104_2.1.1.1.2.2 rfl ?_
          refine go_callN0 kk104_2.1.1.2.1.1.1 rfl rfl rfl ⟨by decide, _, rfl, hK0⟩ ⟨Nat.zero_le _, Nat.zero_le _⟩ (by omega) (tfM_adopts (by omega) hg hK0  h5 h6) (fun y79 g81 e82 => ?_)
          refine go_iinc kk104_2.1.1.2.1.1.2 rfl rfl 1 rfl (loc2 := [some (sR v0), some (sI v1), u2, some (sI v3), some (sI v4), some (sI v5), some (sI (w32 (v6 + 1)))]) rfl ?_
          refine go_goto kk104_2.1.1.2.1.2 ?_
          exact HX134 (w32 (v6 + 1)) (inR_w32 _) g81 e82 u2 w2
        · refine go_aload kk104_2.1.1.1.1.2.1 rfl ?_
          refine go_iload kk104_2.1.1.1.1.2.2 rfl ?_
          refine go_iload kk104_2.1.1.1.2.1.1 rfl ?_
          refine go_callP1 kk104_2.1.1.1.2.1.2 rfl rfl rfl ⟨by decide, _, rfl, hK0⟩ ⟨Nat.zero_le _, Nat.zero_le _⟩ (by omega) (tfM_adopterOf (by omega) hg hK0  h6 h1) (fun y83 r84 => ?_)
          refine go_iload kk104_2.1.1.1.2.2 rfl ?_
          refine go_callN0 kk104_2.1.1.2.1.1.1 rfl rfl rfl ⟨by decide, _, rfl, hK0⟩ ⟨Nat.zero_le _, Nat.zero_le _⟩ (by omega) (tfM_adopts (by omega) hg hK0  r84 h6) (fun y87 g89 e90 => ?_)
          refine go_iinc kk104_2.1.1.2.1.1.2 rfl rfl 1 rfl (loc2 := [some (sR v0), some (sI v1), u2, some (sI v3), some (sI v4), some (sI v5), some (sI (w32 (v6 + 1)))]) rfl ?_
          refine go_goto kk104_2.1.1.2.1.2 ?_
          exact HX134 (w32 (v6 + 1)) (inR_w32 _) g89 e90 u2 w2
  · refine go_int kk104_2.1.1.2.2.1.1 1 rfl ?_
    refine go_istore kk104_2.1.1.2.2.1.2 rfl (loc2 := [some (sR v0), some (sI v1), u2, some (sI v3), some (sI v4), some (sI v5), some (sI 1)]) rfl ?_
    exact tlM_exits_201 hd hK0 h1 h3 h4 fu 1 (inR_b (Or.inr rfl)) g hg u2 w2 (some (sI v5)) rfl
theorem tlM_exits_134 {Φ : ev_P} {d : Nat} (hd : 7 ≤ d) {v0 v1 v3 v4 v5 : Int} (hK0 : kd v0 = 7) (h1 : InR v1) (h3 : InR v3) (h4 : InR v4) (h5 : InR v5) : ∀ n : Nat, ∀ (v6 : Int) (h6 : InR v6) (g : gH) (hg : HR g) (u2 : Option ev_V) (w2 : nwo u2), Go Φ pr_P fN 1 (lM_exits_134 v0 v1 v3 v4 v5 n v6 g) d pr_m104 134 [some (sR v0), some (sI v1), u2, some (sI v3), some (sI v4), some (sI v5), some (sI v6)] [] g 0 0 := by
  intro n
  induction n with
  | zero => intros; exact go_none
  | succ n ih => exact tbM_exits_134 hd hK0 h1 h3 h4 h5 ih
theorem tbM_exits_76 {Φ : ev_P} {d : Nat} (hd : 7 ≤ d) {v0 v1 v3 v4 v5 : Int} (hK0 : kd v0 = 7) (h1 : InR v1) (h3 : InR v3) (h4 : InR v4) (h5 : InR v5) {X76 : Int → gH → Option (Int × gH)} (HX76 : ∀ (v6 : Int) (h6 : InR v6) (g : gH) (hg : HR g) (u2 : Option ev_V) (w2 : nwo u2), Go Φ pr_P fN 1 (X76 v6 g) d pr_m104 76 [some (sR v0), some (sI v1), u2, some (sI v3), some (sI v4), some (sI v5), some (sI v6)] [] g 0 0) : ∀ (v6 : Int) (h6 : InR v6) (g : gH) (hg : HR g) (u2 : Option ev_V) (w2 : nwo u2), Go Φ pr_P fN 1 (bM_exits_76 v0 v1 v3 v4 v5 X76 v6 g) d pr_m104 76 [some (sR v0), some (sI v1), u2, some (sI v3), some (sI v4), some (sI v5), some (sI v6)] [] g 0 0 := by
  intro v6 h6 g hg u2 w2
  unfold bM_exits_76
  refine go_iload kk104_1.1.1.1.1.1.1 rfl ?_
  refine go_int kk104_1.1.1.1.1.1.2 8 rfl ?_
  refine go_cmlt kk104_1.1.1.1.1.2.1 h6 (inR_of (by decide)) (fun c32 => ?_) (fun c33 => ?_)
  · refine go_aload kk104_1.1.1.1.1.2.2 rfl ?_
    refine go_getR (bI := 0) kk104_1.1.1.1.2.1.1 hg hK0 (by decide) rfl rfl (fun r34 => ?_)
    refine go_int kk104_1.1.1.1.2.1.2 11 rfl ?_
    refine go_iload kk104_1.1.1.1.2.2 rfl ?_
    refine go_iadd kk104_1.1.1.2.1.1.1 ?_
    refine go_ck (fun q36 => ?_)
    refine go_iald kk104_1.1.1.2.1.1.2 hg q36 (fun r35 => ?_)
    refine go_iload kk104_1.1.1.2.1.2 rfl ?_
    refine go_cmeq kk104_1.1.1.2.2.1.1 r35 h1 (fun c37 => ?_) (fun c38 => ?_)
    · refine go_aload kk104_1.1.1.2.2.1.2 rfl ?_
      refine go_getR (bI := 0) kk104_1.1.1.2.2.2 hg hK0 (by decide) rfl rfl (fun r39 => ?_)
      refine go_int kk104_1.1.2.1.1.1.1 11 rfl ?_
      refine go_iload kk104_1.1.2.1.1.1.2 rfl ?_
      refine go_iadd kk104_1.1.2.1.1.2.1 ?_
      refine go_iload kk104_1.1.2.1.1.2.2 rfl ?_
      refine go_int kk104_1.1.2.1.2.1.1 (-1) rfl ?_
      refine go_cmeq kk104_1.1.2.1.2.1.2 h5 (inR_of (by decide)) (fun c40 => ?_) (fun c41 => ?_)
      · refine go_aload kk104_1.1.2.2.1.1.2 rfl ?_
        refine go_iload kk104_1.1.2.2.1.2 rfl ?_
        refine go_iload kk104_1.1.2.2.2.1.1 rfl ?_
        refine go_callP1 kk104_1.1.2.2.2.1.2 rfl rfl rfl ⟨by decide, _, rfl, hK0⟩ ⟨Nat.zero_le _, Nat.zero_le _⟩ (by omega) (tfM_heirOf (by omega) hg hK0  h1 h6) (fun y42 r43 => ?_)
        refine go_ck (fun q46 => ?_)
        refine go_iast kk104_1.1.2.2.2.2 hg q46 r43 (fun g47 e48 => ?_)
        refine go_iinc kk104_1.2.1.1.1.1.1 rfl rfl 1 rfl (loc2 := [some (sR v0), some (sI v1), u2, some (sI v3), some (sI v4), some (sI v5), some (sI (w32 (v6 + 1)))]) rfl ?_
        refine go_goto kk104_1.2.1.1.1.1.2 ?_
        exact HX76 (w32 (v6 + 1)) (inR_w32 _) g47 e48 u2 w2
      · refine go_iload kk104_1.1.2.1.2.2 rfl ?_
        refine go_goto kk104_1.1.2.2.1.1.1 ?_
        refine go_ck (fun q49 => ?_)
        refine go_iast kk104_1.1.2.2.2.2 hg q49 h5 (fun g50 e51 => ?_)
        refine go_iinc kk104_1.2.1.1.1.1.1 rfl rfl 1 rfl (loc2 := [some (sR v0), some (sI v1), u2, some (sI v3), some (sI v4), some (sI v5), some (sI (w32 (v6 + 1)))]) rfl ?_
        refine go_goto kk104_1.2.1.1.1.1.2 ?_
        exact HX76 (w32 (v6 + 1)) (inR_w32 _) g50 e51 u2 w2
    · refine go_iinc kk104_1.2.1.1.1.1.1 rfl rfl 1 rfl (loc2 := [some (sR v0), some (sI v1), u2, some (sI v3), some (sI v4), some (sI v5), some (sI (w32 (v6 + 1)))]) rfl ?_
      refine go_goto kk104_1.2.1.1.1.1.2 ?_
      exact HX76 (w32 (v6 + 1)) (inR_w32 _) g hg u2 w2
  · refine go_int kk104_1.2.1.1.1.2.1 1 rfl ?_
    refine go_istore kk104_1.2.1.1.1.2.2 rfl (loc2 := [some (sR v0), some (sI v1), u2, some (sI v3), some (sI v4), some (sI v5), some (sI 1)]) rfl ?_
    exact tlM_exits_134 hd hK0 h1 h3 h4 h5 fu 1 (inR_b (Or.inr rfl)) g hg u2 w2
theorem tlM_exits_76 {Φ : ev_P} {d : Nat} (hd : 7 ≤ d) {v0 v1 v3 v4 v5 : Int} (hK0 : kd v0 = 7) (h1 : InR v1) (h3 : InR v3) (h4 : InR v4) (h5 : InR v5) : ∀ n : Nat, ∀ (v6 : Int) (h6 : InR v6) (g : gH) (hg : HR g) (u2 : Option ev_V) (w2 : nwo u2), Go Φ pr_P fN 1 (lM_exits_76 v0 v1 v3 v4 v5 n v6 g) d pr_m104 76 [some (sR v0), some (sI v1), u2, some (sI v3), some (sI v4), some (sI v5), some (sI v6)] [] g 0 0 := by
  intro n
  induction n with
  | zero => intros; exact go_none
  | succ n ih => exact tbM_exits_76 hd hK0 h1 h3 h4 h5 ih
theorem tfM_exits {Φ : ev_P} {d : Nat} (hd : 7 ≤ d) {g : gH} (hg : HR g) {v0 v1 v2 : Int} (hK0 : kd v0 = 7) (h1 : InR v1) (h2 : InR v2) : Go Φ pr_P fN 1 (fM_exits g v0 v1 v2) d (pr_P 104) 0 (ev_loc (pr_P 104).1 [(sR v0), (sI v1), (sI v2)]) [] g 0 0 := by
  show Go Φ pr_P fN 1 (fM_exits g v0 v1 v2) d pr_m104 0 [some (sR v0), some (sI v1), some (sI v2), none, none, none, none] [] g 0 0
  unfold fM_exits
  refine go_aload kk104_0.1.1.1.1.1.1 rfl ?_
  refine go_getR (bI := 0) kk104_0.1.1.1.1.1.2 hg hK0 (by decide) rfl rfl (fun r1 => ?_)
  refine go_int kk104_0.1.1.1.1.2.1 60 rfl ?_
  refine go_iload kk104_0.1.1.1.1.2.2 rfl ?_
  refine go_iadd kk104_0.1.1.1.2.1.1 ?_
  refine go_ck (fun q3 => ?_)
  refine go_iald kk104_0.1.1.1.2.1.2 hg q3 (fun r2 => ?_)
  refine go_istore kk104_0.1.1.1.2.2 rfl (loc2 := [some (sR v0), some (sI v1), some (sI v2), some (sI (g (g v0 0) (w32 (60 + v1)))), none, none, none]) rfl ?_
  refine go_aload kk104_0.1.1.2.1.1.1 rfl ?_
  refine go_getR (bI := 0) kk104_0.1.1.2.1.1.2 hg hK0 (by decide) rfl rfl (fun r4 => ?_)
  refine go_int kk104_0.1.1.2.1.2 3 rfl ?_
  refine go_ck (fun q6 => ?_)
  refine go_iald kk104_0.1.1.2.2.1.1 hg q6 (fun r5 => ?_)
  refine go_istore kk104_0.1.1.2.2.1.2 rfl (loc2 := [some (sR v0), some (sI v1), some (sI v2), some (sI (g (g v0 0) (w32 (60 + v1)))), some (sI (g (g v0 0) 3)), none, none]) rfl ?_
  refine go_aload kk104_0.1.1.2.2.2 rfl ?_
  refine go_getR (bI := 0) kk104_0.1.2.1.1.1.1 hg hK0 (by decide) rfl rfl (fun r7 => ?_)
  refine go_int kk104_0.1.2.1.1.1.2 140 rfl ?_
  refine go_iload kk104_0.1.2.1.1.2.1 rfl ?_
  refine go_iadd kk104_0.1.2.1.1.2.2 ?_
  refine go_int kk104_0.1.2.1.2.1.1 1 rfl ?_
  refine go_ck (fun q8 => ?_)
  refine go_iast kk104_0.1.2.1.2.1.2 hg q8 (inR_b (Or.inr rfl)) (fun g9 e10 => ?_)
  refine go_aload kk104_0.1.2.1.2.2 rfl ?_
  refine go_getR (bI := 0) kk104_0.1.2.2.1.1.1 e10 hK0 (by decide) rfl rfl (fun r11 => ?_)
  refine go_int kk104_0.1.2.2.1.1.2 300 rfl ?_
  refine go_iload kk104_0.1.2.2.1.2 rfl ?_
  refine go_iadd kk104_0.1.2.2.2.1.1 ?_
  refine go_iload kk104_0.1.2.2.2.1.2 rfl ?_
  refine go_ck (fun q12 => ?_)
  refine go_iast kk104_0.1.2.2.2.2 e10 q12 h2 (fun g13 e14 => ?_)
  refine go_aload kk104_0.2.1.1.1.1.1 rfl ?_
  refine go_getR (bI := 0) kk104_0.2.1.1.1.1.2 e14 hK0 (by decide) rfl rfl (fun r15 => ?_)
  refine go_int kk104_0.2.1.1.1.2.1 19 rfl ?_
  refine go_aload kk104_0.2.1.1.1.2.2 rfl ?_
  refine go_getR (bI := 0) kk104_0.2.1.1.2.1.1 e14 hK0 (by decide) rfl rfl (fun r16 => ?_)
  refine go_int kk104_0.2.1.1.2.1.2 1 rfl ?_
  refine go_ck (fun q18 => ?_)
  refine go_iald kk104_0.2.1.1.2.2 e14 q18 (fun r17 => ?_)
  refine go_iadd kk104_0.2.1.2.1.1.1 ?_
  refine go_iload kk104_0.2.1.2.1.1.2 rfl ?_
  refine go_ck (fun q19 => ?_)
  refine go_iast kk104_0.2.1.2.1.2 e14 q19 h1 (fun g20 e21 => ?_)
  refine go_aload kk104_0.2.1.2.2.1.1 rfl ?_
  refine go_getR (bI := 0) kk104_0.2.1.2.2.1.2 e21 hK0 (by decide) rfl rfl (fun r22 => ?_)
  refine go_int kk104_0.2.1.2.2.2 1 rfl ?_
  refine go_dup2 kk104_0.2.2.1.1.1.1 ?_
  refine go_ck (fun q24 => ?_)
  refine go_iald kk104_0.2.2.1.1.1.2 e21 q24 (fun r23 => ?_)
  refine go_int kk104_0.2.2.1.1.2 1 rfl ?_
  refine go_iadd kk104_0.2.2.1.2.1.1 ?_
  refine go_ck (fun q25 => ?_)
  refine go_iast kk104_0.2.2.1.2.1.2 e21 q25 (inR_w32 _) (fun g26 e27 => ?_)
  refine go_aload kk104_0.2.2.1.2.2 rfl ?_
  refine go_iload kk104_0.2.2.2.1.1.1 rfl ?_
  refine go_iload kk104_0.2.2.2.1.1.2 rfl ?_
  refine go_callN1 kk104_0.2.2.2.1.2 rfl rfl rfl ⟨by decide, _, rfl, hK0⟩ ⟨Nat.zero_le _, Nat.zero_le _⟩ (by omega) (tfM_replaces (by omega) e27 hK0  h1 h2) (fun y28 g30 r29 e31 => ?_)
  refine go_istore kk104_0.2.2.2.2.1.1 rfl (loc2 := [some (sR v0), some (sI v1), some (sI v2), some (sI (g (g v0 0) (w32 (60 + v1)))), some (sI (g (g v0 0) 3)), some (sI y28), none]) rfl ?_
  refine go_int kk104_0.2.2.2.2.1.2 0 rfl ?_
  refine go_istore kk104_0.2.2.2.2.2 rfl (loc2 := [some (sR v0), some (sI v1), some (sI v2), some (sI (g (g v0 0) (w32 (60 + v1)))), some (sI (g (g v0 0) 3)), some (sI y28), some (sI 0)]) rfl ?_
  exact tlM_exits_76 hd hK0 h1 r2 r5 r29 fu 0 (inR_b (Or.inl rfl)) g30 e31 (some (sI v2)) rfl
theorem tjM_noExit_50 {Φ : ev_P} {d : Nat} (hd : 2 ≤ d) {g : gH} (hg : HR g) {s0 s1 : Int} (z0 : RfR s0) (z1 : B01 s1) (u0 : Option ev_V) (w0 : nwo u0) (u1 : Option ev_V) (w1 : nwo u1) (u2 : Option ev_V) (w2 : nwo u2) : Go Φ pr_P fN 3 (jM_noExit_50 g s0 s1 ) d pr_m159 50 [u0, u1, u2] [(sI s1), (sR s0)] g 0 0 := by
  unfold jM_noExit_50
  refine go_int kk159_0.2.2.1.1.2 3 rfl ?_
  refine go_ck (fun q28 => ?_)
  refine go_callN3 kk159_0.2.2.1.2.1 rfl rfl rfl ⟨by decide, _, rfl, q28⟩ ⟨Nat.zero_le _, Nat.zero_le _⟩ (by omega) (tfM_fails (by omega) hg q28  z1 (inR_of (by decide))) (fun y29 g31 r30 e32 => ?_)
  refine go_ifeq kk159_0.2.2.1.2.2 (inR_b r30) (fun c33 => ?_) (fun c34 => ?_)
  · refine go_int kk159_0.2.2.2.2.1 0 rfl ?_
    exact go_bret kk159_0.2.2.2.2.2 e32 (Or.inl rfl) ⟨Nat.zero_le _, Nat.zero_le _⟩ rfl
  · refine go_int kk159_0.2.2.2.1.1 1 rfl ?_
    refine go_goto kk159_0.2.2.2.1.2 ?_
    exact go_bret kk159_0.2.2.2.2.2 e32 (Or.inr rfl) ⟨Nat.zero_le _, Nat.zero_le _⟩ rfl
theorem tjM_noExit_45 {Φ : ev_P} {d : Nat} (hd : 2 ≤ d) {g : gH} (hg : HR g) {s0 : Int} (z0 : RfR s0) (u0 : Option ev_V) (w0 : nwo u0) (u1 : Option ev_V) (w1 : nwo u1) (u2 : Option ev_V) (w2 : nwo u2) : Go Φ pr_P fN 3 (jM_noExit_45 g s0 ) d pr_m159 45 [u0, u1, u2] [(sR s0)] g 0 0 := by
  unfold jM_noExit_45
  refine go_int kk159_0.2.1.2.2.1 1 rfl ?_
  refine go_goto kk159_0.2.1.2.2.2 ?_
  exact tjM_noExit_50 hd hg z0 (Or.inr rfl) u0 w0 u1 w1 u2 w2
theorem tjM_noExit_25 {Φ : ev_P} {d : Nat} (hd : 2 ≤ d) {g : gH} (hg : HR g) {v0 v1 : Int} (hK0 : kd v0 = 7) (h1 : InR v1) {s0 s1 : Int} (z0 : RfR s0) (z1 : B01 s1) (u2 : Option ev_V) (w2 : nwo u2) : Go Φ pr_P fN 3 (jM_noExit_25 g v0 v1 s0 s1 ) d pr_m159 25 [some (sR v0), some (sI v1), u2] [(sI s1), (sR s0)] g 0 0 := by
  unfold jM_noExit_25
  refine go_int kk159_0.1.2.2.1.1 2 rfl ?_
  refine go_ck (fun q13 => ?_)
  refine go_callN3 kk159_0.1.2.2.1.2 rfl rfl rfl ⟨by decide, _, rfl, q13⟩ ⟨Nat.zero_le _, Nat.zero_le _⟩ (by omega) (tfM_fails (by omega) hg q13  z1 (inR_of (by decide))) (fun y14 g16 r15 e17 => ?_)
  refine go_ifeq kk159_0.1.2.2.2.1 (inR_b r15) (fun c18 => ?_) (fun c19 => ?_)
  · refine go_aload kk159_0.1.2.2.2.2 rfl ?_
    refine go_iload kk159_0.2.1.1.1.1 rfl ?_
    refine go_ifeq kk159_0.2.1.1.1.2 h1 (fun c20 => ?_) (fun c21 => ?_)
    · exact tjM_noExit_45 hd e17 (rfR_kd hK0 (by decide)) (some (sR v0)) rfl (some (sI v1)) rfl u2 w2
    · refine go_aload kk159_0.2.1.1.2.1 rfl ?_
      refine go_iload kk159_0.2.1.1.2.2 rfl ?_
      refine go_callP3 kk159_0.2.1.2.1.1 rfl rfl rfl ⟨by decide, _, rfl, hK0⟩ ⟨Nat.zero_le _, Nat.zero_le _⟩ (by omega) (tfM_runs (by omega) e17 hK0  h1) (fun y22 r23 => ?_)
      refine go_ifeq kk159_0.2.1.2.1.2 (inR_b r23) (fun c26 => ?_) (fun c27 => ?_)
      · exact tjM_noExit_45 hd e17 (rfR_kd hK0 (by decide)) (some (sR v0)) rfl (some (sI v1)) rfl u2 w2
      · refine go_int kk159_0.2.2.1.1.1 0 rfl ?_
        exact tjM_noExit_50 hd e17 (rfR_kd hK0 (by decide)) (Or.inl rfl) (some (sR v0)) rfl (some (sI v1)) rfl u2 w2
  · refine go_int kk159_0.2.2.2.1.1 1 rfl ?_
    refine go_goto kk159_0.2.2.2.1.2 ?_
    exact go_bret kk159_0.2.2.2.2.2 e17 (Or.inr rfl) ⟨Nat.zero_le _, Nat.zero_le _⟩ rfl
theorem tfM_noExit {Φ : ev_P} {d : Nat} (hd : 2 ≤ d) {g : gH} (hg : HR g) {v0 v1 v2 : Int} (hK0 : kd v0 = 7) (h1 : InR v1) (h2 : InR v2) : Go Φ pr_P fN 3 (fM_noExit g v0 v1 v2) d (pr_P 159) 0 (ev_loc (pr_P 159).1 [(sR v0), (sI v1), (sI v2)]) [] g 0 0 := by
  show Go Φ pr_P fN 3 (fM_noExit g v0 v1 v2) d pr_m159 0 [some (sR v0), some (sI v1), some (sI v2)] [] g 0 0
  unfold fM_noExit
  refine go_aload kk159_0.1.1.1.1.1.1 rfl ?_
  refine go_iload kk159_0.1.1.1.1.1.2 rfl ?_
  refine go_callN3 kk159_0.1.1.1.1.2 rfl rfl rfl ⟨by decide, _, rfl, hK0⟩ ⟨Nat.zero_le _, Nat.zero_le _⟩ (by omega) (tfM_noProcess (by omega) hg hK0  h1) (fun y1 g3 r2 e4 => ?_)
  refine go_ifeq kk159_0.1.1.1.2.1 (inR_b r2) (fun c5 => ?_) (fun c6 => ?_)
  · refine go_aload kk159_0.1.1.1.2.2 rfl ?_
    refine go_iload kk159_0.1.1.2.1.1 rfl ?_
    refine go_int kk159_0.1.1.2.1.2 0 rfl ?_
    refine go_int kk159_0.1.1.2.2.1 255 rfl ?_
    refine go_callP3 kk159_0.1.1.2.2.2 rfl rfl rfl trivial ⟨Nat.zero_le _, Nat.zero_le _⟩ (by omega) (tfM_inRange (by omega) e4  h2 (inR_b (Or.inl rfl)) (inR_of (by decide))) (fun y7 r8 => ?_)
    refine go_ifeq kk159_0.1.2.1.1.1 (inR_b r8) (fun c11 => ?_) (fun c12 => ?_)
    · refine go_int kk159_0.1.2.1.1.2 1 rfl ?_
      refine go_goto kk159_0.1.2.1.2.1 ?_
      exact tjM_noExit_25 hd e4 hK0 h1 (rfR_kd hK0 (by decide)) (Or.inr rfl) (some (sI v2)) rfl
    · refine go_int kk159_0.1.2.1.2.2 0 rfl ?_
      exact tjM_noExit_25 hd e4 hK0 h1 (rfR_kd hK0 (by decide)) (Or.inl rfl) (some (sI v2)) rfl
  · refine go_int kk159_0.2.2.2.1.1 1 rfl ?_
    refine go_goto kk159_0.2.2.2.1.2 ?_
    exact go_bret kk159_0.2.2.2.2.2 e4 (Or.inr rfl) ⟨Nat.zero_le _, Nat.zero_le _⟩ rfl
theorem tfM_exit {Φ : ev_P} {d : Nat} (hd : 8 ≤ d) {g : gH} (hg : HR g) {v0 v1 v2 : Int} (hK0 : kd v0 = 7) (h1 : InR v1) (h2 : InR v2) : Go Φ pr_P fN 1 (fM_exit g v0 v1 v2) d (pr_P 160) 0 (ev_loc (pr_P 160).1 [(sR v0), (sI v1), (sI v2)]) [] g 0 0 := by
  show Go Φ pr_P fN 1 (fM_exit g v0 v1 v2) d pr_m160 0 [some (sR v0), some (sI v1), some (sI v2)] [] g 0 0
  unfold fM_exit
  refine go_aload kk160_0.1.1.1.1 rfl ?_
  refine go_iload kk160_0.1.1.1.2 rfl ?_
  refine go_iload kk160_0.1.1.2.1 rfl ?_
  refine go_callN3 kk160_0.1.1.2.2 rfl rfl rfl ⟨by decide, _, rfl, hK0⟩ ⟨Nat.zero_le _, Nat.zero_le _⟩ (by omega) (tfM_noExit (by omega) hg hK0  h1 h2) (fun y1 g3 r2 e4 => ?_)
  refine go_ifeq kk160_0.1.2.1.1 (inR_b r2) (fun c5 => ?_) (fun c6 => ?_)
  · refine go_aload kk160_0.2.1.1.1 rfl ?_
    refine go_callN0 kk160_0.2.1.1.2 rfl rfl rfl ⟨by decide, _, rfl, hK0⟩ ⟨Nat.zero_le _, Nat.zero_le _⟩ (by omega) (tfM_remembers (by omega) e4 hK0 ) (fun y7 g9 e10 => ?_)
    refine go_aload kk160_0.2.1.2.1 rfl ?_
    refine go_iload kk160_0.2.1.2.2 rfl ?_
    refine go_iload kk160_0.2.2.1.1 rfl ?_
    refine go_callN1 kk160_0.2.2.1.2 rfl rfl rfl ⟨by decide, _, rfl, hK0⟩ ⟨Nat.zero_le _, Nat.zero_le _⟩ (by omega) (tfM_exits (by omega) e10 hK0  h1 h2) (fun y11 g13 r12 e14 => ?_)
    exact go_iret kk160_0.2.2.2 e14 r12 ⟨Nat.zero_le _, Nat.zero_le _⟩ rfl
  · refine go_int kk160_0.1.2.1.2 0 rfl ?_
    exact go_iret kk160_0.1.2.2 e4 (inR_b (Or.inl rfl)) ⟨Nat.zero_le _, Nat.zero_le _⟩ rfl
theorem tbM_kills_128 {Φ : ev_P} {d : Nat} (hd : 8 ≤ d) {v0 v4 : Int} (hK0 : kd v0 = 7) (h4 : InR v4) {X128 : Int → gH → Option (Int × gH)} (HX128 : ∀ (v5 : Int) (h5 : InR v5) (g : gH) (hg : HR g) (u1 : Option ev_V) (w1 : nwo u1) (u2 : Option ev_V) (w2 : nwo u2) (u3 : Option ev_V) (w3 : nwo u3) (u6 : Option ev_V) (w6 : nwo u6), Go Φ pr_P fN 1 (X128 v5 g) d pr_m105 128 [some (sR v0), u1, u2, u3, some (sI v4), some (sI v5), u6] [] g 0 0) : ∀ (v5 : Int) (h5 : InR v5) (g : gH) (hg : HR g) (u1 : Option ev_V) (w1 : nwo u1) (u2 : Option ev_V) (w2 : nwo u2) (u3 : Option ev_V) (w3 : nwo u3) (u6 : Option ev_V) (w6 : nwo u6), Go Φ pr_P fN 1 (bM_kills_128 v0 v4 X128 v5 g) d pr_m105 128 [some (sR v0), u1, u2, u3, some (sI v4), some (sI v5), u6] [] g 0 0 := by
  intro v5 h5 g hg u1 w1 u2 w2 u3 w3 u6 w6
  unfold bM_kills_128
  refine go_iload kk105_1.2.1.2.1.2 rfl ?_
  refine go_int kk105_1.2.1.2.2.1 40 rfl ?_
  refine go_cmlt kk105_1.2.1.2.2.2 h5 (inR_of (by decide)) (fun c50 => ?_) (fun c51 => ?_)
  · refine go_aload kk105_1.2.2.1.1.1.1 rfl ?_
    refine go_getR (bI := 5) kk105_1.2.2.1.1.1.2 hg hK0 (by decide) rfl rfl (fun r52 => ?_)
    refine go_iload kk105_1.2.2.1.1.2 rfl ?_
    refine go_int kk105_1.2.2.1.2.1 0 rfl ?_
    refine go_ck (fun q53 => ?_)
    refine go_zast kk105_1.2.2.1.2.2 hg q53 (Or.inl rfl) (fun g54 e55 => ?_)
    refine go_iinc kk105_1.2.2.2.1.1 rfl rfl 1 rfl (loc2 := [some (sR v0), u1, u2, u3, some (sI v4), some (sI (w32 (v5 + 1))), u6]) rfl ?_
    refine go_goto kk105_1.2.2.2.1.2 ?_
    exact HX128 (w32 (v5 + 1)) (inR_w32 _) g54 e55 u1 w1 u2 w2 u3 w3 u6 w6
  · refine go_iload kk105_1.2.2.2.2.1 rfl ?_
    exact go_iret kk105_1.2.2.2.2.2 hg h4 ⟨Nat.zero_le _, Nat.zero_le _⟩ rfl
theorem tlM_kills_128 {Φ : ev_P} {d : Nat} (hd : 8 ≤ d) {v0 v4 : Int} (hK0 : kd v0 = 7) (h4 : InR v4) : ∀ n : Nat, ∀ (v5 : Int) (h5 : InR v5) (g : gH) (hg : HR g) (u1 : Option ev_V) (w1 : nwo u1) (u2 : Option ev_V) (w2 : nwo u2) (u3 : Option ev_V) (w3 : nwo u3) (u6 : Option ev_V) (w6 : nwo u6), Go Φ pr_P fN 1 (lM_kills_128 v0 v4 n v5 g) d pr_m105 128 [some (sR v0), u1, u2, u3, some (sI v4), some (sI v5), u6] [] g 0 0 := by
  intro n
  induction n with
  | zero => intros; exact go_none
  | succ n ih => exact tbM_kills_128 hd hK0 h4 ih
theorem tbM_kills_76 {Φ : ev_P} {d : Nat} (hd : 8 ≤ d) {v0 v2 v3 : Int} (hK0 : kd v0 = 7) (h2 : InR v2) (h3 : InR v3) {X76 : Int → Int → gH → Option (Int × gH)} (HX76 : ∀ (v4 : Int) (h4 : InR v4) (v5 : Int) (h5 : InR v5) (g : gH) (hg : HR g) (u1 : Option ev_V) (w1 : nwo u1) (u6 : Option ev_V) (w6 : nwo u6), Go Φ pr_P fN 1 (X76 v4 v5 g) d pr_m105 76 [some (sR v0), u1, some (sI v2), some (sI v3), some (sI v4), some (sI v5), u6] [] g 0 0) : ∀ (v4 : Int) (h4 : InR v4) (v5 : Int) (h5 : InR v5) (g : gH) (hg : HR g) (u1 : Option ev_V) (w1 : nwo u1) (u6 : Option ev_V) (w6 : nwo u6), Go Φ pr_P fN 1 (bM_kills_76 v0 v2 v3 X76 v4 v5 g) d pr_m105 76 [some (sR v0), u1, some (sI v2), some (sI v3), some (sI v4), some (sI v5), u6] [] g 0 0 := by
  intro v4 h4 v5 h5 g hg u1 w1 u6 w6
  unfold bM_kills_76
  refine go_iload kk105_1.1.1.1.1.1.2 rfl ?_
  refine go_iload kk105_1.1.1.1.1.2 rfl ?_
  refine go_cmlt kk105_1.1.1.1.2.1 h5 h3 (fun c37 => ?_) (fun c38 => ?_)
  · refine go_aload kk105_1.1.1.1.2.2 rfl ?_
    refine go_getR (bI := 5) kk105_1.1.1.2.1.1.1 hg hK0 (by decide) rfl rfl (fun r39 => ?_)
    refine go_iload kk105_1.1.1.2.1.1.2 rfl ?_
    refine go_ck (fun q41 => ?_)
    refine go_zald kk105_1.1.1.2.1.2 hg q41 (fun r40 => ?_)
    refine go_ifeq kk105_1.1.1.2.2.1 (inR_b r40) (fun c42 => ?_) (fun c43 => ?_)
    · refine go_goto kk105_1.1.1.2.2.2 ?_
      refine go_iinc kk105_1.2.1.1.2.1 rfl rfl 1 rfl (loc2 := [some (sR v0), u1, some (sI v2), some (sI v3), some (sI v4), some (sI (w32 (v5 + 1))), u6]) rfl ?_
      refine go_goto kk105_1.2.1.1.2.2 ?_
      exact HX76 v4 h4 (w32 (v5 + 1)) (inR_w32 _) g hg u1 w1 u6 w6
    · refine go_aload kk105_1.1.2.1.1.1.1 rfl ?_
      refine go_iload kk105_1.1.2.1.1.1.2 rfl ?_
      refine go_iload kk105_1.1.2.1.1.2 rfl ?_
      refine go_callN1 kk105_1.1.2.1.2.1 rfl rfl rfl ⟨by decide, _, rfl, hK0⟩ ⟨Nat.zero_le _, Nat.zero_le _⟩ (by omega) (tfM_exits (by omega) hg hK0  h5 h2) (fun y44 g46 r45 e47 => ?_)
      refine go_istore kk105_1.1.2.1.2.2 rfl (loc2 := [some (sR v0), u1, some (sI v2), some (sI v3), some (sI v4), some (sI v5), some (sI y44)]) rfl ?_
      refine go_iload kk105_1.1.2.2.1.1.1 rfl ?_
      refine go_iload kk105_1.1.2.2.1.1.2 rfl ?_
      refine go_iflt kk105_1.1.2.2.1.2 r45 (fun c48 => ?_) (fun c49 => ?_)
      · refine go_int kk105_1.1.2.2.2.1 0 rfl ?_
        refine go_goto kk105_1.1.2.2.2.2 ?_
        refine go_iadd kk105_1.2.1.1.1.1.2 ?_
        refine go_istore kk105_1.2.1.1.1.2 rfl (loc2 := [some (sR v0), u1, some (sI v2), some (sI v3), some (sI (w32 (v4 + 0))), some (sI v5), some (sI y44)]) rfl ?_
        refine go_iinc kk105_1.2.1.1.2.1 rfl rfl 1 rfl (loc2 := [some (sR v0), u1, some (sI v2), some (sI v3), some (sI (w32 (v4 + 0))), some (sI (w32 (v5 + 1))), some (sI y44)]) rfl ?_
        refine go_goto kk105_1.2.1.1.2.2 ?_
        exact HX76 (w32 (v4 + 0)) (inR_w32 _) (w32 (v5 + 1)) (inR_w32 _) g46 e47 u1 w1 (some (sI y44)) rfl
      · refine go_int kk105_1.2.1.1.1.1.1 1 rfl ?_
        refine go_iadd kk105_1.2.1.1.1.1.2 ?_
        refine go_istore kk105_1.2.1.1.1.2 rfl (loc2 := [some (sR v0), u1, some (sI v2), some (sI v3), some (sI (w32 (v4 + 1))), some (sI v5), some (sI y44)]) rfl ?_
        refine go_iinc kk105_1.2.1.1.2.1 rfl rfl 1 rfl (loc2 := [some (sR v0), u1, some (sI v2), some (sI v3), some (sI (w32 (v4 + 1))), some (sI (w32 (v5 + 1))), some (sI y44)]) rfl ?_
        refine go_goto kk105_1.2.1.1.2.2 ?_
        exact HX76 (w32 (v4 + 1)) (inR_w32 _) (w32 (v5 + 1)) (inR_w32 _) g46 e47 u1 w1 (some (sI y44)) rfl
  · refine go_int kk105_1.2.1.2.1.1.1 0 rfl ?_
    refine go_istore kk105_1.2.1.2.1.1.2 rfl (loc2 := [some (sR v0), u1, some (sI v2), some (sI v3), some (sI v4), some (sI 0), u6]) rfl ?_
    exact tlM_kills_128 hd hK0 h4 fu 0 (inR_b (Or.inl rfl)) g hg u1 w1 (some (sI v2)) rfl (some (sI v3)) rfl u6 w6
theorem tlM_kills_76 {Φ : ev_P} {d : Nat} (hd : 8 ≤ d) {v0 v2 v3 : Int} (hK0 : kd v0 = 7) (h2 : InR v2) (h3 : InR v3) : ∀ n : Nat, ∀ (v4 : Int) (h4 : InR v4) (v5 : Int) (h5 : InR v5) (g : gH) (hg : HR g) (u1 : Option ev_V) (w1 : nwo u1) (u6 : Option ev_V) (w6 : nwo u6), Go Φ pr_P fN 1 (lM_kills_76 v0 v2 v3 n v4 v5 g) d pr_m105 76 [some (sR v0), u1, some (sI v2), some (sI v3), some (sI v4), some (sI v5), u6] [] g 0 0 := by
  intro n
  induction n with
  | zero => intros; exact go_none
  | succ n ih => exact tbM_kills_76 hd hK0 h2 h3 ih
theorem tbM_kills_13 {Φ : ev_P} {d : Nat} (hd : 8 ≤ d) {v0 v1 v2 v3 v4 : Int} (hK0 : kd v0 = 7) (h1 : InR v1) (h2 : InR v2) (h3 : InR v3) (h4 : B01 v4) {X13 : Int → gH → Option (Int × gH)} (HX13 : ∀ (v5 : Int) (h5 : InR v5) (g : gH) (hg : HR g) (u6 : Option ev_V) (w6 : nwo u6), Go Φ pr_P fN 1 (X13 v5 g) d pr_m105 13 [some (sR v0), some (sI v1), some (sI v2), some (sI v3), some (sI v4), some (sI v5), u6] [] g 0 0) : ∀ (v5 : Int) (h5 : InR v5) (g : gH) (hg : HR g) (u6 : Option ev_V) (w6 : nwo u6), Go Φ pr_P fN 1 (bM_kills_13 v0 v1 v2 v3 v4 X13 v5 g) d pr_m105 13 [some (sR v0), some (sI v1), some (sI v2), some (sI v3), some (sI v4), some (sI v5), u6] [] g 0 0 := by
  intro v5 h5 g hg u6 w6
  unfold bM_kills_13
  refine go_iload kk105_0.1.1.2.2.2 rfl ?_
  refine go_int kk105_0.1.2.1.1.1.1 40 rfl ?_
  refine go_cmlt kk105_0.1.2.1.1.1.2 h5 (inR_of (by decide)) (fun c4 => ?_) (fun c5 => ?_)
  · refine go_aload kk105_0.1.2.1.1.2 rfl ?_
    refine go_getR (bI := 5) kk105_0.1.2.1.2.1 hg hK0 (by decide) rfl rfl (fun r6 => ?_)
    refine go_iload kk105_0.1.2.1.2.2 rfl ?_
    refine go_iload kk105_0.1.2.2.1.1.1 rfl ?_
    refine go_ifgt kk105_0.1.2.2.1.1.2 h5 (fun c7 => ?_) (fun c8 => ?_)
    · refine go_iload kk105_0.1.2.2.1.2 rfl ?_
      refine go_iload kk105_0.1.2.2.2.1 rfl ?_
      refine go_cmlt kk105_0.1.2.2.2.2 h5 h3 (fun c9 => ?_) (fun c10 => ?_)
      · refine go_aload kk105_0.2.1.1.1.1.1 rfl ?_
        refine go_iload kk105_0.2.1.1.1.1.2 rfl ?_
        refine go_callP3 kk105_0.2.1.1.1.2 rfl rfl rfl ⟨by decide, _, rfl, hK0⟩ ⟨Nat.zero_le _, Nat.zero_le _⟩ (by omega) (tfM_runs (by omega) hg hK0  h5) (fun y11 r12 => ?_)
        refine go_ifeq kk105_0.2.1.1.2.1 (inR_b r12) (fun c15 => ?_) (fun c16 => ?_)
        · refine go_int kk105_0.2.2.1.2.2 0 rfl ?_
          refine go_ck (fun q17 => ?_)
          refine go_zast kk105_0.2.2.2.1.1 hg q17 (Or.inl rfl) (fun g18 e19 => ?_)
          refine go_iinc kk105_0.2.2.2.1.2 rfl rfl 1 rfl (loc2 := [some (sR v0), some (sI v1), some (sI v2), some (sI v3), some (sI v4), some (sI (w32 (v5 + 1))), u6]) rfl ?_
          refine go_goto kk105_0.2.2.2.2.1 ?_
          exact HX13 (w32 (v5 + 1)) (inR_w32 _) g18 e19 u6 w6
        · refine go_aload kk105_0.2.1.1.2.2 rfl ?_
          refine go_getR (bI := 0) kk105_0.2.1.2.1.1.1 hg hK0 (by decide) rfl rfl (fun r20 => ?_)
          refine go_int kk105_0.2.1.2.1.1.2 180 rfl ?_
          refine go_iload kk105_0.2.1.2.1.2 rfl ?_
          refine go_iadd kk105_0.2.1.2.2.1 ?_
          refine go_ck (fun q22 => ?_)
          refine go_iald kk105_0.2.1.2.2.2 hg q22 (fun r21 => ?_)
          refine go_iload kk105_0.2.2.1.1.1.1 rfl ?_
          refine go_cmeq kk105_0.2.2.1.1.1.2 r21 h1 (fun c23 => ?_) (fun c24 => ?_)
          · refine go_int kk105_0.2.2.1.1.2 1 rfl ?_
            refine go_goto kk105_0.2.2.1.2.1 ?_
            refine go_ck (fun q25 => ?_)
            refine go_zast kk105_0.2.2.2.1.1 hg q25 (Or.inr rfl) (fun g26 e27 => ?_)
            refine go_iinc kk105_0.2.2.2.1.2 rfl rfl 1 rfl (loc2 := [some (sR v0), some (sI v1), some (sI v2), some (sI v3), some (sI v4), some (sI (w32 (v5 + 1))), u6]) rfl ?_
            refine go_goto kk105_0.2.2.2.2.1 ?_
            exact HX13 (w32 (v5 + 1)) (inR_w32 _) g26 e27 u6 w6
          · refine go_int kk105_0.2.2.1.2.2 0 rfl ?_
            refine go_ck (fun q28 => ?_)
            refine go_zast kk105_0.2.2.2.1.1 hg q28 (Or.inl rfl) (fun g29 e30 => ?_)
            refine go_iinc kk105_0.2.2.2.1.2 rfl rfl 1 rfl (loc2 := [some (sR v0), some (sI v1), some (sI v2), some (sI v3), some (sI v4), some (sI (w32 (v5 + 1))), u6]) rfl ?_
            refine go_goto kk105_0.2.2.2.2.1 ?_
            exact HX13 (w32 (v5 + 1)) (inR_w32 _) g29 e30 u6 w6
      · refine go_int kk105_0.2.2.1.2.2 0 rfl ?_
        refine go_ck (fun q31 => ?_)
        refine go_zast kk105_0.2.2.2.1.1 hg q31 (Or.inl rfl) (fun g32 e33 => ?_)
        refine go_iinc kk105_0.2.2.2.1.2 rfl rfl 1 rfl (loc2 := [some (sR v0), some (sI v1), some (sI v2), some (sI v3), some (sI v4), some (sI (w32 (v5 + 1))), u6]) rfl ?_
        refine go_goto kk105_0.2.2.2.2.1 ?_
        exact HX13 (w32 (v5 + 1)) (inR_w32 _) g32 e33 u6 w6
    · refine go_int kk105_0.2.2.1.2.2 0 rfl ?_
      refine go_ck (fun q34 => ?_)
      refine go_zast kk105_0.2.2.2.1.1 hg q34 (Or.inl rfl) (fun g35 e36 => ?_)
      refine go_iinc kk105_0.2.2.2.1.2 rfl rfl 1 rfl (loc2 := [some (sR v0), some (sI v1), some (sI v2), some (sI v3), some (sI v4), some (sI (w32 (v5 + 1))), u6]) rfl ?_
      refine go_goto kk105_0.2.2.2.2.1 ?_
      exact HX13 (w32 (v5 + 1)) (inR_w32 _) g35 e36 u6 w6
  · refine go_int kk105_0.2.2.2.2.2 1 rfl ?_
    refine go_istore kk105_1.1.1.1.1.1.1 rfl (loc2 := [some (sR v0), some (sI v1), some (sI v2), some (sI v3), some (sI v4), some (sI 1), u6]) rfl ?_
    exact tlM_kills_76 hd hK0 h2 h3 fu v4 (inR_b h4) 1 (inR_b (Or.inr rfl)) g hg (some (sI v1)) rfl u6 w6
theorem tlM_kills_13 {Φ : ev_P} {d : Nat} (hd : 8 ≤ d) {v0 v1 v2 v3 v4 : Int} (hK0 : kd v0 = 7) (h1 : InR v1) (h2 : InR v2) (h3 : InR v3) (h4 : B01 v4) : ∀ n : Nat, ∀ (v5 : Int) (h5 : InR v5) (g : gH) (hg : HR g) (u6 : Option ev_V) (w6 : nwo u6), Go Φ pr_P fN 1 (lM_kills_13 v0 v1 v2 v3 v4 n v5 g) d pr_m105 13 [some (sR v0), some (sI v1), some (sI v2), some (sI v3), some (sI v4), some (sI v5), u6] [] g 0 0 := by
  intro n
  induction n with
  | zero => intros; exact go_none
  | succ n ih => exact tbM_kills_13 hd hK0 h1 h2 h3 h4 ih
theorem tfM_kills {Φ : ev_P} {d : Nat} (hd : 8 ≤ d) {g : gH} (hg : HR g) {v0 v1 v2 : Int} (hK0 : kd v0 = 7) (h1 : InR v1) (h2 : InR v2) : Go Φ pr_P fN 1 (fM_kills g v0 v1 v2) d (pr_P 105) 0 (ev_loc (pr_P 105).1 [(sR v0), (sI v1), (sI v2)]) [] g 0 0 := by
  show Go Φ pr_P fN 1 (fM_kills g v0 v1 v2) d pr_m105 0 [some (sR v0), some (sI v1), some (sI v2), none, none, none, none] [] g 0 0
  unfold fM_kills
  refine go_aload kk105_0.1.1.1.1.1.1 rfl ?_
  refine go_getR (bI := 0) kk105_0.1.1.1.1.1.2 hg hK0 (by decide) rfl rfl (fun r1 => ?_)
  refine go_int kk105_0.1.1.1.1.2 0 rfl ?_
  refine go_ck (fun q3 => ?_)
  refine go_iald kk105_0.1.1.1.2.1 hg q3 (fun r2 => ?_)
  refine go_istore kk105_0.1.1.1.2.2 rfl (loc2 := [some (sR v0), some (sI v1), some (sI v2), some (sI (g (g v0 0) 0)), none, none, none]) rfl ?_
  refine go_int kk105_0.1.1.2.1.1.1 0 rfl ?_
  refine go_istore kk105_0.1.1.2.1.1.2 rfl (loc2 := [some (sR v0), some (sI v1), some (sI v2), some (sI (g (g v0 0) 0)), some (sI 0), none, none]) rfl ?_
  refine go_int kk105_0.1.1.2.1.2 0 rfl ?_
  refine go_istore kk105_0.1.1.2.2.1 rfl (loc2 := [some (sR v0), some (sI v1), some (sI v2), some (sI (g (g v0 0) 0)), some (sI 0), some (sI 0), none]) rfl ?_
  exact tlM_kills_13 hd hK0 h1 h2 r2 (Or.inl rfl) fu 0 (inR_b (Or.inl rfl)) g hg none rfl
theorem tfM_noKill {Φ : ev_P} {d : Nat} (hd : 2 ≤ d) {g : gH} (hg : HR g) {v0 v1 v2 : Int} (hK0 : kd v0 = 7) (h1 : InR v1) (h2 : InR v2) : Go Φ pr_P fN 3 (fM_noKill g v0 v1 v2) d (pr_P 161) 0 (ev_loc (pr_P 161).1 [(sR v0), (sI v1), (sI v2)]) [] g 0 0 := by
  show Go Φ pr_P fN 3 (fM_noKill g v0 v1 v2) d pr_m161 0 [some (sR v0), some (sI v1), some (sI v2)] [] g 0 0
  unfold fM_noKill
  refine go_aload kk161_0.1.1.1.1.1 rfl ?_
  refine go_int kk161_0.1.1.1.1.2 0 rfl ?_
  refine go_putI (bI := 8) kk161_0.1.1.1.2 hg hK0 (by decide) rfl rfl (inR_b (Or.inl rfl)) (fun g1 e2 => ?_)
  refine go_aload kk161_0.1.1.2.1 rfl ?_
  refine go_iload kk161_0.1.1.2.2 rfl ?_
  refine go_callP3 kk161_0.1.2.1.1 rfl rfl rfl trivial ⟨Nat.zero_le _, Nat.zero_le _⟩ (by omega) (tfM_isSmall (by omega) e2  h1) (fun y3 r4 => ?_)
  refine go_ifeq kk161_0.1.2.1.2 (inR_b r4) (fun c7 => ?_) (fun c8 => ?_)
  · refine go_int kk161_0.2.1.2.1 1 rfl ?_
    refine go_goto kk161_0.2.1.2.2 ?_
    refine go_int kk161_0.2.2.1.2 1 rfl ?_
    refine go_callN3 kk161_0.2.2.2.1 rfl rfl rfl ⟨by decide, _, rfl, hK0⟩ ⟨Nat.zero_le _, Nat.zero_le _⟩ (by omega) (tfM_fails (by omega) e2 hK0  (Or.inr rfl) (inR_b (Or.inr rfl))) (fun y9 g11 r10 e12 => ?_)
    exact go_bret kk161_0.2.2.2.2 e12 r10 ⟨Nat.zero_le _, Nat.zero_le _⟩ rfl
  · refine go_iload kk161_0.1.2.2.1 rfl ?_
    refine go_int kk161_0.1.2.2.2 0 rfl ?_
    refine go_int kk161_0.2.1.1.1.1 255 rfl ?_
    refine go_callP3 kk161_0.2.1.1.1.2 rfl rfl rfl trivial ⟨Nat.zero_le _, Nat.zero_le _⟩ (by omega) (tfM_inRange (by omega) e2  h2 (inR_b (Or.inl rfl)) (inR_of (by decide))) (fun y13 r14 => ?_)
    refine go_ifeq kk161_0.2.1.1.2 (inR_b r14) (fun c17 => ?_) (fun c18 => ?_)
    · refine go_int kk161_0.2.1.2.1 1 rfl ?_
      refine go_goto kk161_0.2.1.2.2 ?_
      refine go_int kk161_0.2.2.1.2 1 rfl ?_
      refine go_callN3 kk161_0.2.2.2.1 rfl rfl rfl ⟨by decide, _, rfl, hK0⟩ ⟨Nat.zero_le _, Nat.zero_le _⟩ (by omega) (tfM_fails (by omega) e2 hK0  (Or.inr rfl) (inR_b (Or.inr rfl))) (fun y19 g21 r20 e22 => ?_)
      exact go_bret kk161_0.2.2.2.2 e22 r20 ⟨Nat.zero_le _, Nat.zero_le _⟩ rfl
    · refine go_int kk161_0.2.2.1.1 0 rfl ?_
      refine go_int kk161_0.2.2.1.2 1 rfl ?_
      refine go_callN3 kk161_0.2.2.2.1 rfl rfl rfl ⟨by decide, _, rfl, hK0⟩ ⟨Nat.zero_le _, Nat.zero_le _⟩ (by omega) (tfM_fails (by omega) e2 hK0  (Or.inl rfl) (inR_b (Or.inr rfl))) (fun y23 g25 r24 e26 => ?_)
      exact go_bret kk161_0.2.2.2.2 e26 r24 ⟨Nat.zero_le _, Nat.zero_le _⟩ rfl
theorem tfM_kill {Φ : ev_P} {d : Nat} (hd : 9 ≤ d) {g : gH} (hg : HR g) {v0 v1 v2 : Int} (hK0 : kd v0 = 7) (h1 : InR v1) (h2 : InR v2) : Go Φ pr_P fN 1 (fM_kill g v0 v1 v2) d (pr_P 162) 0 (ev_loc (pr_P 162).1 [(sR v0), (sI v1), (sI v2)]) [] g 0 0 := by
  show Go Φ pr_P fN 1 (fM_kill g v0 v1 v2) d pr_m162 0 [some (sR v0), some (sI v1), some (sI v2)] [] g 0 0
  unfold fM_kill
  refine go_aload kk162_0.1.1.1.1 rfl ?_
  refine go_iload kk162_0.1.1.1.2 rfl ?_
  refine go_iload kk162_0.1.1.2.1 rfl ?_
  refine go_callN3 kk162_0.1.1.2.2 rfl rfl rfl ⟨by decide, _, rfl, hK0⟩ ⟨Nat.zero_le _, Nat.zero_le _⟩ (by omega) (tfM_noKill (by omega) hg hK0  h1 h2) (fun y1 g3 r2 e4 => ?_)
  refine go_ifeq kk162_0.1.2.1.1 (inR_b r2) (fun c5 => ?_) (fun c6 => ?_)
  · refine go_aload kk162_0.2.1.1.1 rfl ?_
    refine go_callN0 kk162_0.2.1.1.2 rfl rfl rfl ⟨by decide, _, rfl, hK0⟩ ⟨Nat.zero_le _, Nat.zero_le _⟩ (by omega) (tfM_remembers (by omega) e4 hK0 ) (fun y7 g9 e10 => ?_)
    refine go_aload kk162_0.2.1.2.1 rfl ?_
    refine go_iload kk162_0.2.1.2.2 rfl ?_
    refine go_iload kk162_0.2.2.1.1 rfl ?_
    refine go_callN1 kk162_0.2.2.1.2 rfl rfl rfl ⟨by decide, _, rfl, hK0⟩ ⟨Nat.zero_le _, Nat.zero_le _⟩ (by omega) (tfM_kills (by omega) e10 hK0  h1 h2) (fun y11 g13 r12 e14 => ?_)
    exact go_iret kk162_0.2.2.2 e14 r12 ⟨Nat.zero_le _, Nat.zero_le _⟩ rfl
  · refine go_int kk162_0.1.2.1.2 0 rfl ?_
    exact go_iret kk162_0.1.2.2 e4 (inR_b (Or.inl rfl)) ⟨Nat.zero_le _, Nat.zero_le _⟩ rfl
theorem tjM_notRunning_22 {Φ : ev_P} {d : Nat} (hd : 2 ≤ d) {g : gH} (hg : HR g) {v2 : Int} (h2 : InR v2) {s0 s1 : Int} (z0 : RfR s0) (z1 : B01 s1) (u0 : Option ev_V) (w0 : nwo u0) (u1 : Option ev_V) (w1 : nwo u1) : Go Φ pr_P fN 3 (jM_notRunning_22 g v2 s0 s1 ) d pr_m136 22 [u0, u1, some (sI v2)] [(sI s1), (sR s0)] g 0 0 := by
  unfold jM_notRunning_22
  refine go_iload kk136_0.2.1.1.2 rfl ?_
  refine go_ck (fun q13 => ?_)
  refine go_callN3 kk136_0.2.1.2.1 rfl rfl rfl ⟨by decide, _, rfl, q13⟩ ⟨Nat.zero_le _, Nat.zero_le _⟩ (by omega) (tfM_fails (by omega) hg q13  z1 h2) (fun y14 g16 r15 e17 => ?_)
  refine go_ifeq kk136_0.2.1.2.2 (inR_b r15) (fun c18 => ?_) (fun c19 => ?_)
  · refine go_int kk136_0.2.2.2.1 0 rfl ?_
    exact go_bret kk136_0.2.2.2.2 e17 (Or.inl rfl) ⟨Nat.zero_le _, Nat.zero_le _⟩ rfl
  · refine go_int kk136_0.2.2.1.1 1 rfl ?_
    refine go_goto kk136_0.2.2.1.2 ?_
    exact go_bret kk136_0.2.2.2.2 e17 (Or.inr rfl) ⟨Nat.zero_le _, Nat.zero_le _⟩ rfl
theorem tfM_notRunning {Φ : ev_P} {d : Nat} (hd : 2 ≤ d) {g : gH} (hg : HR g) {v0 v1 v2 : Int} (hK0 : kd v0 = 7) (h1 : InR v1) (h2 : InR v2) : Go Φ pr_P fN 3 (fM_notRunning g v0 v1 v2) d (pr_P 136) 0 (ev_loc (pr_P 136).1 [(sR v0), (sI v1), (sI v2)]) [] g 0 0 := by
  show Go Φ pr_P fN 3 (fM_notRunning g v0 v1 v2) d pr_m136 0 [some (sR v0), some (sI v1), some (sI v2)] [] g 0 0
  unfold fM_notRunning
  refine go_aload kk136_0.1.1.1.1.1 rfl ?_
  refine go_iload kk136_0.1.1.1.1.2 rfl ?_
  refine go_callN3 kk136_0.1.1.1.2 rfl rfl rfl ⟨by decide, _, rfl, hK0⟩ ⟨Nat.zero_le _, Nat.zero_le _⟩ (by omega) (tfM_noProcess (by omega) hg hK0  h1) (fun y1 g3 r2 e4 => ?_)
  refine go_ifeq kk136_0.1.1.2.1 (inR_b r2) (fun c5 => ?_) (fun c6 => ?_)
  · refine go_aload kk136_0.1.1.2.2 rfl ?_
    refine go_aload kk136_0.1.2.1.1.1 rfl ?_
    refine go_iload kk136_0.1.2.1.1.2 rfl ?_
    refine go_callP3 kk136_0.1.2.1.2 rfl rfl rfl ⟨by decide, _, rfl, hK0⟩ ⟨Nat.zero_le _, Nat.zero_le _⟩ (by omega) (tfM_runs (by omega) e4 hK0  h1) (fun y7 r8 => ?_)
    refine go_ifeq kk136_0.1.2.2.1 (inR_b r8) (fun c11 => ?_) (fun c12 => ?_)
    · refine go_int kk136_0.1.2.2.2 1 rfl ?_
      refine go_goto kk136_0.2.1.1.1.1 ?_
      exact tjM_notRunning_22 hd e4 h2 (rfR_kd hK0 (by decide)) (Or.inr rfl) (some (sR v0)) rfl (some (sI v1)) rfl
    · refine go_int kk136_0.2.1.1.1.2 0 rfl ?_
      exact tjM_notRunning_22 hd e4 h2 (rfR_kd hK0 (by decide)) (Or.inl rfl) (some (sR v0)) rfl (some (sI v1)) rfl
  · refine go_int kk136_0.2.2.1.1 1 rfl ?_
    refine go_goto kk136_0.2.2.1.2 ?_
    exact go_bret kk136_0.2.2.2.2 e4 (Or.inr rfl) ⟨Nat.zero_le _, Nat.zero_le _⟩ rfl
theorem tjM_read_28 {Φ : ev_P} {d : Nat} (hd : 3 ≤ d) {g : gH} (hg : HR g) {v0 v2 : Int} (hK0 : kd v0 = 7) (h2 : InR v2) {s0 s1 : Int} (z0 : RfR s0) (z1 : B01 s1) (u1 : Option ev_V) (w1 : nwo u1) : Go Φ pr_P fN 1 (jM_read_28 g v0 v2 s0 s1 ) d pr_m163 28 [some (sR v0), u1, some (sI v2)] [(sI s1), (sR s0)] g 0 0 := by
  unfold jM_read_28
  refine go_int kk163_0.1.2.2.1.1.2 3 rfl ?_
  refine go_ck (fun q13 => ?_)
  refine go_callN3 kk163_0.1.2.2.1.2 rfl rfl rfl ⟨by decide, _, rfl, q13⟩ ⟨Nat.zero_le _, Nat.zero_le _⟩ (by omega) (tfM_fails (by omega) hg q13  z1 (inR_of (by decide))) (fun y14 g16 r15 e17 => ?_)
  refine go_ifeq kk163_0.1.2.2.2.1 (inR_b r15) (fun c18 => ?_) (fun c19 => ?_)
  · refine go_aload kk163_0.2.1.1.1.1.2 rfl ?_
    refine go_callN0 kk163_0.2.1.1.1.2 rfl rfl rfl ⟨by decide, _, rfl, hK0⟩ ⟨Nat.zero_le _, Nat.zero_le _⟩ (by omega) (tfM_remembers (by omega) e17 hK0 ) (fun y20 g22 e23 => ?_)
    refine go_aload kk163_0.2.1.1.2.1.1 rfl ?_
    refine go_getR (bI := 0) kk163_0.2.1.1.2.1.2 e23 hK0 (by decide) rfl rfl (fun r24 => ?_)
    refine go_int kk163_0.2.1.1.2.2 140 rfl ?_
    refine go_iload kk163_0.2.1.2.1.1.1 rfl ?_
    refine go_iadd kk163_0.2.1.2.1.1.2 ?_
    refine go_int kk163_0.2.1.2.1.2 2 rfl ?_
    refine go_ck (fun q25 => ?_)
    refine go_iast kk163_0.2.1.2.2.1 e23 q25 (inR_of (by decide)) (fun g26 e27 => ?_)
    refine go_int kk163_0.2.1.2.2.2 1000 rfl ?_
    refine go_iload kk163_0.2.2.1.1.1.1 rfl ?_
    refine go_ibin kk163_0.2.2.1.1.1.2 ?_
    refine go_aload kk163_0.2.2.1.1.2 rfl ?_
    refine go_getR (bI := 0) kk163_0.2.2.1.2.1 e27 hK0 (by decide) rfl rfl (fun r28 => ?_)
    refine go_int kk163_0.2.2.1.2.2 300 rfl ?_
    refine go_iload kk163_0.2.2.2.1.1.1 rfl ?_
    refine go_iadd kk163_0.2.2.2.1.1.2 ?_
    refine go_ck (fun q30 => ?_)
    refine go_iald kk163_0.2.2.2.1.2 e27 q30 (fun r29 => ?_)
    refine go_iadd kk163_0.2.2.2.2.1 ?_
    exact go_iret kk163_0.2.2.2.2.2 e27 (inR_w32 _) ⟨Nat.zero_le _, Nat.zero_le _⟩ rfl
  · refine go_int kk163_0.1.2.2.2.2 0 rfl ?_
    exact go_iret kk163_0.2.1.1.1.1.1 e17 (inR_b (Or.inl rfl)) ⟨Nat.zero_le _, Nat.zero_le _⟩ rfl
theorem tfM_read {Φ : ev_P} {d : Nat} (hd : 3 ≤ d) {g : gH} (hg : HR g) {v0 v1 : Int} (hK0 : kd v0 = 7) (h1 : InR v1) : Go Φ pr_P fN 1 (fM_read g v0 v1) d (pr_P 163) 0 (ev_loc (pr_P 163).1 [(sR v0), (sI v1)]) [] g 0 0 := by
  show Go Φ pr_P fN 1 (fM_read g v0 v1) d pr_m163 0 [some (sR v0), some (sI v1), none] [] g 0 0
  unfold fM_read
  refine go_aload kk163_0.1.1.1.1.1.1 rfl ?_
  refine go_iload kk163_0.1.1.1.1.1.2 rfl ?_
  refine go_int kk163_0.1.1.1.1.2 2 rfl ?_
  refine go_callN3 kk163_0.1.1.1.2.1.1 rfl rfl rfl ⟨by decide, _, rfl, hK0⟩ ⟨Nat.zero_le _, Nat.zero_le _⟩ (by omega) (tfM_notRunning (by omega) hg hK0  h1 (inR_of (by decide))) (fun y1 g3 r2 e4 => ?_)
  refine go_ifeq kk163_0.1.1.1.2.1.2 (inR_b r2) (fun c5 => ?_) (fun c6 => ?_)
  · refine go_aload kk163_0.1.1.2.1.1.2 rfl ?_
    refine go_iload kk163_0.1.1.2.1.2 rfl ?_
    refine go_callP1 kk163_0.1.1.2.2.1 rfl rfl rfl ⟨by decide, _, rfl, hK0⟩ ⟨Nat.zero_le _, Nat.zero_le _⟩ (by omega) (tfM_firstZombie (by omega) e4 hK0  h1) (fun y7 r8 => ?_)
    refine go_istore kk163_0.1.1.2.2.2 rfl (loc2 := [some (sR v0), some (sI v1), some (sI y7)]) rfl ?_
    refine go_aload kk163_0.1.2.1.1.1.1 rfl ?_
    refine go_iload kk163_0.1.2.1.1.1.2 rfl ?_
    refine go_int kk163_0.1.2.1.1.2 (-1) rfl ?_
    refine go_cmeq kk163_0.1.2.1.2.1.1 r8 (inR_of (by decide)) (fun c11 => ?_) (fun c12 => ?_)
    · refine go_int kk163_0.1.2.1.2.1.2 1 rfl ?_
      refine go_goto kk163_0.1.2.1.2.2 ?_
      exact tjM_read_28 hd e4 hK0 r8 (rfR_kd hK0 (by decide)) (Or.inr rfl) (some (sI v1)) rfl
    · refine go_int kk163_0.1.2.2.1.1.1 0 rfl ?_
      exact tjM_read_28 hd e4 hK0 r8 (rfR_kd hK0 (by decide)) (Or.inl rfl) (some (sI v1)) rfl
  · refine go_int kk163_0.1.1.1.2.2 0 rfl ?_
    exact go_iret kk163_0.1.1.2.1.1.1 e4 (inR_b (Or.inl rfl)) ⟨Nat.zero_le _, Nat.zero_le _⟩ rfl
theorem tfM_readAll {Φ : ev_P} {d : Nat} (hd : 3 ≤ d) {g : gH} (hg : HR g) {v0 v1 : Int} (hK0 : kd v0 = 7) (h1 : InR v1) : Go Φ pr_P fN 1 (fM_readAll g v0 v1) d (pr_P 164) 0 (ev_loc (pr_P 164).1 [(sR v0), (sI v1)]) [] g 0 0 := by
  show Go Φ pr_P fN 1 (fM_readAll g v0 v1) d pr_m164 0 [some (sR v0), some (sI v1)] [] g 0 0
  unfold fM_readAll
  refine go_aload kk164_0.1.1.1.1 rfl ?_
  refine go_iload kk164_0.1.1.1.2 rfl ?_
  refine go_int kk164_0.1.1.2.1 2 rfl ?_
  refine go_callN3 kk164_0.1.1.2.2 rfl rfl rfl ⟨by decide, _, rfl, hK0⟩ ⟨Nat.zero_le _, Nat.zero_le _⟩ (by omega) (tfM_notRunning (by omega) hg hK0  h1 (inR_of (by decide))) (fun y1 g3 r2 e4 => ?_)
  refine go_ifeq kk164_0.1.2.1.1 (inR_b r2) (fun c5 => ?_) (fun c6 => ?_)
  · refine go_aload kk164_0.2.1.1.1 rfl ?_
    refine go_callN0 kk164_0.2.1.1.2 rfl rfl rfl ⟨by decide, _, rfl, hK0⟩ ⟨Nat.zero_le _, Nat.zero_le _⟩ (by omega) (tfM_remembers (by omega) e4 hK0 ) (fun y7 g9 e10 => ?_)
    refine go_aload kk164_0.2.1.2 rfl ?_
    refine go_iload kk164_0.2.2.1.1 rfl ?_
    refine go_callN1 kk164_0.2.2.1.2 rfl rfl rfl ⟨by decide, _, rfl, hK0⟩ ⟨Nat.zero_le _, Nat.zero_le _⟩ (by omega) (tfM_readsAll (by omega) e10 hK0  h1) (fun y11 g13 r12 e14 => ?_)
    exact go_iret kk164_0.2.2.2 e14 r12 ⟨Nat.zero_le _, Nat.zero_le _⟩ rfl
  · refine go_int kk164_0.1.2.1.2 0 rfl ?_
    exact go_iret kk164_0.1.2.2 e4 (inR_b (Or.inl rfl)) ⟨Nat.zero_le _, Nat.zero_le _⟩ rfl
theorem tbM_refuse_80 {Φ : ev_P} {d : Nat} (hd : 7 ≤ d) {v0 v1 v2 : Int} (hK0 : kd v0 = 7) (h1 : InR v1) (h2 : InR v2) {X80 : Int → Int → gH → Option (Int × gH)} (HX80 : ∀ (v3 : Int) (h3 : InR v3) (v4 : Int) (h4 : InR v4) (g : gH) (hg : HR g), Go Φ pr_P fN 1 (X80 v3 v4 g) d pr_m165 80 [some (sR v0), some (sI v1), some (sI v2), some (sI v3), some (sI v4)] [] g 0 0) : ∀ (v3 : Int) (h3 : InR v3) (v4 : Int) (h4 : InR v4) (g : gH) (hg : HR g), Go Φ pr_P fN 1 (bM_refuse_80 v0 v1 v2 X80 v3 v4 g) d pr_m165 80 [some (sR v0), some (sI v1), some (sI v2), some (sI v3), some (sI v4)] [] g 0 0 := by
  intro v3 h3 v4 h4 g hg
  unfold bM_refuse_80
  refine go_iload kk165_1.1.1.2.1.2 rfl ?_
  refine go_aload kk165_1.1.1.2.2.1 rfl ?_
  refine go_getR (bI := 0) kk165_1.1.1.2.2.2 hg hK0 (by decide) rfl rfl (fun r45 => ?_)
  refine go_int kk165_1.1.2.1.1.1.1 0 rfl ?_
  refine go_ck (fun q47 => ?_)
  refine go_iald kk165_1.1.2.1.1.1.2 hg q47 (fun r46 => ?_)
  refine go_cmlt kk165_1.1.2.1.1.2 h4 r46 (fun c48 => ?_) (fun c49 => ?_)
  · refine go_aload kk165_1.1.2.1.2.1 rfl ?_
    refine go_iload kk165_1.1.2.1.2.2 rfl ?_
    refine go_iload kk165_1.1.2.2.1.1.1 rfl ?_
    refine go_int kk165_1.1.2.2.1.1.2 0 rfl ?_
    refine go_callP3 kk165_1.1.2.2.1.2 rfl rfl rfl ⟨by decide, _, rfl, hK0⟩ ⟨Nat.zero_le _, Nat.zero_le _⟩ (by omega) (tfM_isChild (by omega) hg hK0  h4 h1 (inR_b (Or.inl rfl))) (fun y50 r51 => ?_)
    refine go_ifeq kk165_1.1.2.2.2.1 (inR_b r51) (fun c54 => ?_) (fun c55 => ?_)
    · refine go_iinc kk165_1.2.2.2.1.1.2 rfl rfl 1 rfl (loc2 := [some (sR v0), some (sI v1), some (sI v2), some (sI v3), some (sI (w32 (v4 + 1)))]) rfl ?_
      refine go_goto kk165_1.2.2.2.1.2 ?_
      exact HX80 v3 h3 (w32 (v4 + 1)) (inR_w32 _) g hg
    · refine go_aload kk165_1.1.2.2.2.2 rfl ?_
      refine go_getR (bI := 0) kk165_1.2.1.1.1.1.1 hg hK0 (by decide) rfl rfl (fun r56 => ?_)
      refine go_int kk165_1.2.1.1.1.1.2 180 rfl ?_
      refine go_iload kk165_1.2.1.1.1.2 rfl ?_
      refine go_iadd kk165_1.2.1.1.2.1 ?_
      refine go_ck (fun q58 => ?_)
      refine go_iald kk165_1.2.1.1.2.2 hg q58 (fun r57 => ?_)
      refine go_iload kk165_1.2.1.2.1.1.1 rfl ?_
      refine go_cmeq kk165_1.2.1.2.1.1.2 r57 h2 (fun c59 => ?_) (fun c60 => ?_)
      · refine go_aload kk165_1.2.1.2.2.1 rfl ?_
        refine go_aload kk165_1.2.1.2.2.2 rfl ?_
        refine go_iload kk165_1.2.2.1.1.1.1 rfl ?_
        refine go_iload kk165_1.2.2.1.1.1.2 rfl ?_
        refine go_callP1 kk165_1.2.2.1.1.2 rfl rfl rfl ⟨by decide, _, rfl, hK0⟩ ⟨Nat.zero_le _, Nat.zero_le _⟩ (by omega) (tfM_adopterOf (by omega) hg hK0  h4 h1) (fun y61 r62 => ?_)
        refine go_iload kk165_1.2.2.1.2.1 rfl ?_
        refine go_callN0 kk165_1.2.2.1.2.2 rfl rfl rfl ⟨by decide, _, rfl, hK0⟩ ⟨Nat.zero_le _, Nat.zero_le _⟩ (by omega) (tfM_adopts (by omega) hg hK0  r62 h4) (fun y65 g67 e68 => ?_)
        refine go_iinc kk165_1.2.2.2.1.1.1 rfl rfl 1 rfl (loc2 := [some (sR v0), some (sI v1), some (sI v2), some (sI (w32 (v3 + 1))), some (sI v4)]) rfl ?_
        refine go_iinc kk165_1.2.2.2.1.1.2 rfl rfl 1 rfl (loc2 := [some (sR v0), some (sI v1), some (sI v2), some (sI (w32 (v3 + 1))), some (sI (w32 (v4 + 1)))]) rfl ?_
        refine go_goto kk165_1.2.2.2.1.2 ?_
        exact HX80 (w32 (v3 + 1)) (inR_w32 _) (w32 (v4 + 1)) (inR_w32 _) g67 e68
      · refine go_goto kk165_1.2.1.2.1.2 ?_
        refine go_iinc kk165_1.2.2.2.1.1.2 rfl rfl 1 rfl (loc2 := [some (sR v0), some (sI v1), some (sI v2), some (sI v3), some (sI (w32 (v4 + 1)))]) rfl ?_
        refine go_goto kk165_1.2.2.2.1.2 ?_
        exact HX80 v3 h3 (w32 (v4 + 1)) (inR_w32 _) g hg
  · refine go_iload kk165_1.2.2.2.2.1 rfl ?_
    exact go_iret kk165_1.2.2.2.2.2 hg h3 ⟨Nat.zero_le _, Nat.zero_le _⟩ rfl
theorem tlM_refuse_80 {Φ : ev_P} {d : Nat} (hd : 7 ≤ d) {v0 v1 v2 : Int} (hK0 : kd v0 = 7) (h1 : InR v1) (h2 : InR v2) : ∀ n : Nat, ∀ (v3 : Int) (h3 : InR v3) (v4 : Int) (h4 : InR v4) (g : gH) (hg : HR g), Go Φ pr_P fN 1 (lM_refuse_80 v0 v1 v2 n v3 v4 g) d pr_m165 80 [some (sR v0), some (sI v1), some (sI v2), some (sI v3), some (sI v4)] [] g 0 0 := by
  intro n
  induction n with
  | zero => intros; exact go_none
  | succ n ih => exact tbM_refuse_80 hd hK0 h1 h2 ih
theorem tjM_refuse_46 {Φ : ev_P} {d : Nat} (hd : 7 ≤ d) {g : gH} (hg : HR g) {v0 v1 v2 : Int} (hK0 : kd v0 = 7) (h1 : InR v1) (h2 : InR v2) {s0 s1 : Int} (z0 : RfR s0) (z1 : B01 s1) (u3 : Option ev_V) (w3 : nwo u3) (u4 : Option ev_V) (w4 : nwo u4) : Go Φ pr_P fN 1 (jM_refuse_46 g v0 v1 v2 s0 s1 ) d pr_m165 46 [some (sR v0), some (sI v1), some (sI v2), u3, u4] [(sI s1), (sR s0)] g 0 0 := by
  unfold jM_refuse_46
  refine go_int kk165_0.2.1.1.2.2 3 rfl ?_
  refine go_ck (fun q28 => ?_)
  refine go_callN3 kk165_0.2.1.2.1.1.1 rfl rfl rfl ⟨by decide, _, rfl, q28⟩ ⟨Nat.zero_le _, Nat.zero_le _⟩ (by omega) (tfM_fails (by omega) hg q28  z1 (inR_of (by decide))) (fun y29 g31 r30 e32 => ?_)
  refine go_ifeq kk165_0.2.1.2.1.1.2 (inR_b r30) (fun c33 => ?_) (fun c34 => ?_)
  · refine go_aload kk165_0.2.1.2.2.2 rfl ?_
    refine go_callN0 kk165_0.2.2.1.1.1.1 rfl rfl rfl ⟨by decide, _, rfl, hK0⟩ ⟨Nat.zero_le _, Nat.zero_le _⟩ (by omega) (tfM_remembers (by omega) e32 hK0 ) (fun y35 g37 e38 => ?_)
    refine go_aload kk165_0.2.2.1.1.1.2 rfl ?_
    refine go_getR (bI := 0) kk165_0.2.2.1.1.2 e38 hK0 (by decide) rfl rfl (fun r39 => ?_)
    refine go_int kk165_0.2.2.1.2.1 340 rfl ?_
    refine go_iload kk165_0.2.2.1.2.2 rfl ?_
    refine go_iadd kk165_0.2.2.2.1.1.1 ?_
    refine go_dup2 kk165_0.2.2.2.1.1.2 ?_
    refine go_ck (fun q41 => ?_)
    refine go_iald kk165_0.2.2.2.1.2 e38 q41 (fun r40 => ?_)
    refine go_int kk165_0.2.2.2.2.1 1 rfl ?_
    refine go_iload kk165_0.2.2.2.2.2 rfl ?_
    refine go_ibin kk165_1.1.1.1.1.1.1 ?_
    refine go_ibin kk165_1.1.1.1.1.1.2 ?_
    refine go_ck (fun q42 => ?_)
    refine go_iast kk165_1.1.1.1.1.2 e38 q42 (inR_opI _ _ _) (fun g43 e44 => ?_)
    refine go_int kk165_1.1.1.1.2.1 0 rfl ?_
    refine go_istore kk165_1.1.1.1.2.2 rfl (loc2 := [some (sR v0), some (sI v1), some (sI v2), some (sI 0), u4]) rfl ?_
    refine go_int kk165_1.1.1.2.1.1.1 1 rfl ?_
    refine go_istore kk165_1.1.1.2.1.1.2 rfl (loc2 := [some (sR v0), some (sI v1), some (sI v2), some (sI 0), some (sI 1)]) rfl ?_
    exact tlM_refuse_80 hd hK0 h1 h2 fu 0 (inR_b (Or.inl rfl)) 1 (inR_b (Or.inr rfl)) g43 e44
  · refine go_int kk165_0.2.1.2.1.2 0 rfl ?_
    exact go_iret kk165_0.2.1.2.2.1 e32 (inR_b (Or.inl rfl)) ⟨Nat.zero_le _, Nat.zero_le _⟩ rfl
theorem tjM_refuse_41 {Φ : ev_P} {d : Nat} (hd : 7 ≤ d) {g : gH} (hg : HR g) {v0 v1 v2 : Int} (hK0 : kd v0 = 7) (h1 : InR v1) (h2 : InR v2) {s0 : Int} (z0 : RfR s0) (u3 : Option ev_V) (w3 : nwo u3) (u4 : Option ev_V) (w4 : nwo u4) : Go Φ pr_P fN 1 (jM_refuse_41 g v0 v1 v2 s0 ) d pr_m165 41 [some (sR v0), some (sI v1), some (sI v2), u3, u4] [(sR s0)] g 0 0 := by
  unfold jM_refuse_41
  refine go_int kk165_0.2.1.1.1.1.2 1 rfl ?_
  refine go_goto kk165_0.2.1.1.1.2 ?_
  exact tjM_refuse_46 hd hg hK0 h1 h2 z0 (Or.inr rfl) u3 w3 u4 w4
theorem tjM_refuse_21 {Φ : ev_P} {d : Nat} (hd : 7 ≤ d) {g : gH} (hg : HR g) {v0 v1 v2 : Int} (hK0 : kd v0 = 7) (h1 : InR v1) (h2 : InR v2) {s0 s1 : Int} (z0 : RfR s0) (z1 : B01 s1) (u3 : Option ev_V) (w3 : nwo u3) (u4 : Option ev_V) (w4 : nwo u4) : Go Φ pr_P fN 1 (jM_refuse_21 g v0 v1 v2 s0 s1 ) d pr_m165 21 [some (sR v0), some (sI v1), some (sI v2), u3, u4] [(sI s1), (sR s0)] g 0 0 := by
  unfold jM_refuse_21
  refine go_int kk165_0.1.2.1.1.1.2 2 rfl ?_
  refine go_ck (fun q13 => ?_)
  refine go_callN3 kk165_0.1.2.1.1.2 rfl rfl rfl ⟨by decide, _, rfl, q13⟩ ⟨Nat.zero_le _, Nat.zero_le _⟩ (by omega) (tfM_fails (by omega) hg q13  z1 (inR_of (by decide))) (fun y14 g16 r15 e17 => ?_)
  refine go_ifeq kk165_0.1.2.1.2.1 (inR_b r15) (fun c18 => ?_) (fun c19 => ?_)
  · refine go_aload kk165_0.1.2.1.2.2 rfl ?_
    refine go_iload kk165_0.1.2.2.1.1.1 rfl ?_
    refine go_ifeq kk165_0.1.2.2.1.1.2 h1 (fun c20 => ?_) (fun c21 => ?_)
    · exact tjM_refuse_41 hd e17 hK0 h1 h2 (rfR_kd hK0 (by decide)) u3 w3 u4 w4
    · refine go_aload kk165_0.1.2.2.1.2 rfl ?_
      refine go_iload kk165_0.1.2.2.2.1 rfl ?_
      refine go_callP3 kk165_0.1.2.2.2.2 rfl rfl rfl ⟨by decide, _, rfl, hK0⟩ ⟨Nat.zero_le _, Nat.zero_le _⟩ (by omega) (tfM_runs (by omega) e17 hK0  h1) (fun y22 r23 => ?_)
      refine go_ifeq kk165_0.2.1.1.1.1.1 (inR_b r23) (fun c26 => ?_) (fun c27 => ?_)
      · exact tjM_refuse_41 hd e17 hK0 h1 h2 (rfR_kd hK0 (by decide)) u3 w3 u4 w4
      · refine go_int kk165_0.2.1.1.2.1 0 rfl ?_
        exact tjM_refuse_46 hd e17 hK0 h1 h2 (rfR_kd hK0 (by decide)) (Or.inl rfl) u3 w3 u4 w4
  · refine go_int kk165_0.2.1.2.1.2 0 rfl ?_
    exact go_iret kk165_0.2.1.2.2.1 e17 (inR_b (Or.inl rfl)) ⟨Nat.zero_le _, Nat.zero_le _⟩ rfl
theorem tfM_refuse {Φ : ev_P} {d : Nat} (hd : 7 ≤ d) {g : gH} (hg : HR g) {v0 v1 v2 : Int} (hK0 : kd v0 = 7) (h1 : InR v1) (h2 : InR v2) : Go Φ pr_P fN 1 (fM_refuse g v0 v1 v2) d (pr_P 165) 0 (ev_loc (pr_P 165).1 [(sR v0), (sI v1), (sI v2)]) [] g 0 0 := by
  show Go Φ pr_P fN 1 (fM_refuse g v0 v1 v2) d pr_m165 0 [some (sR v0), some (sI v1), some (sI v2), none, none] [] g 0 0
  unfold fM_refuse
  refine go_aload kk165_0.1.1.1.1.1.1 rfl ?_
  refine go_iload kk165_0.1.1.1.1.1.2 rfl ?_
  refine go_callN3 kk165_0.1.1.1.1.2 rfl rfl rfl ⟨by decide, _, rfl, hK0⟩ ⟨Nat.zero_le _, Nat.zero_le _⟩ (by omega) (tfM_noProcess (by omega) hg hK0  h1) (fun y1 g3 r2 e4 => ?_)
  refine go_ifeq kk165_0.1.1.1.2.1 (inR_b r2) (fun c5 => ?_) (fun c6 => ?_)
  · refine go_aload kk165_0.1.1.1.2.2 rfl ?_
    refine go_iload kk165_0.1.1.2.1.1.1 rfl ?_
    refine go_callP3 kk165_0.1.1.2.1.1.2 rfl rfl rfl trivial ⟨Nat.zero_le _, Nat.zero_le _⟩ (by omega) (tfM_isSmall (by omega) e4  h2) (fun y7 r8 => ?_)
    refine go_ifeq kk165_0.1.1.2.1.2 (inR_b r8) (fun c11 => ?_) (fun c12 => ?_)
    · refine go_int kk165_0.1.1.2.2.1 1 rfl ?_
      refine go_goto kk165_0.1.1.2.2.2 ?_
      exact tjM_refuse_21 hd e4 hK0 h1 h2 (rfR_kd hK0 (by decide)) (Or.inr rfl) none rfl none rfl
    · refine go_int kk165_0.1.2.1.1.1.1 0 rfl ?_
      exact tjM_refuse_21 hd e4 hK0 h1 h2 (rfR_kd hK0 (by decide)) (Or.inl rfl) none rfl none rfl
  · refine go_int kk165_0.2.1.2.1.2 0 rfl ?_
    exact go_iret kk165_0.2.1.2.2.1 e4 (inR_b (Or.inl rfl)) ⟨Nat.zero_le _, Nat.zero_le _⟩ rfl
theorem tjM_accept_42 {Φ : ev_P} {d : Nat} (hd : 2 ≤ d) {g : gH} (hg : HR g) {v0 v1 v2 : Int} (hK0 : kd v0 = 7) (h1 : InR v1) (h2 : InR v2) {s0 s1 : Int} (z0 : RfR s0) (z1 : B01 s1) (u3 : Option ev_V) (w3 : nwo u3) : Go Φ pr_P fN 3 (jM_accept_42 g v0 v1 v2 s0 s1 ) d pr_m166 42 [some (sR v0), some (sI v1), some (sI v2), u3] [(sI s1), (sR s0)] g 0 0 := by
  unfold jM_accept_42
  refine go_int kk166_0.1.2.2.2.1.1 3 rfl ?_
  refine go_ck (fun q26 => ?_)
  refine go_callN3 kk166_0.1.2.2.2.1.2 rfl rfl rfl ⟨by decide, _, rfl, q26⟩ ⟨Nat.zero_le _, Nat.zero_le _⟩ (by omega) (tfM_fails (by omega) hg q26  z1 (inR_of (by decide))) (fun y27 g29 r28 e30 => ?_)
  refine go_ifeq kk166_0.1.2.2.2.2 (inR_b r28) (fun c31 => ?_) (fun c32 => ?_)
  · refine go_aload kk166_0.2.1.1.1.2.1 rfl ?_
    refine go_callN0 kk166_0.2.1.1.1.2.2 rfl rfl rfl ⟨by decide, _, rfl, hK0⟩ ⟨Nat.zero_le _, Nat.zero_le _⟩ (by omega) (tfM_remembers (by omega) e30 hK0 ) (fun y33 g35 e36 => ?_)
    refine go_aload kk166_0.2.1.1.2.1.1 rfl ?_
    refine go_iload kk166_0.2.1.1.2.1.2 rfl ?_
    refine go_iload kk166_0.2.1.1.2.2 rfl ?_
    refine go_callP3 kk166_0.2.1.2.1.1.1 rfl rfl rfl ⟨by decide, _, rfl, hK0⟩ ⟨Nat.zero_le _, Nat.zero_le _⟩ (by omega) (tfM_refusesGroup (by omega) e36 hK0  h1 h2) (fun y37 r38 => ?_)
    refine go_istore kk166_0.2.1.2.1.1.2 rfl (loc2 := [some (sR v0), some (sI v1), some (sI v2), some (sI y37)]) rfl ?_
    refine go_aload kk166_0.2.1.2.1.2 rfl ?_
    refine go_getR (bI := 0) kk166_0.2.1.2.2.1.1 e36 hK0 (by decide) rfl rfl (fun r41 => ?_)
    refine go_int kk166_0.2.1.2.2.1.2 340 rfl ?_
    refine go_iload kk166_0.2.1.2.2.2 rfl ?_
    refine go_iadd kk166_0.2.2.1.1.1.1 ?_
    refine go_dup2 kk166_0.2.2.1.1.1.2 ?_
    refine go_ck (fun q43 => ?_)
    refine go_iald kk166_0.2.2.1.1.2 e36 q43 (fun r42 => ?_)
    refine go_int kk166_0.2.2.1.2.1.1 1 rfl ?_
    refine go_iload kk166_0.2.2.1.2.1.2 rfl ?_
    refine go_ibin kk166_0.2.2.1.2.2 ?_
    refine go_int kk166_0.2.2.2.1.1.1 (-1) rfl ?_
    refine go_ibin kk166_0.2.2.2.1.1.2 ?_
    refine go_ibin kk166_0.2.2.2.1.2 ?_
    refine go_ck (fun q44 => ?_)
    refine go_iast kk166_0.2.2.2.2.1.1 e36 q44 (inR_opI _ _ _) (fun g45 e46 => ?_)
    refine go_iload kk166_0.2.2.2.2.1.2 rfl ?_
    exact go_bret kk166_0.2.2.2.2.2 e46 r38 ⟨Nat.zero_le _, Nat.zero_le _⟩ rfl
  · refine go_int kk166_0.2.1.1.1.1.1 0 rfl ?_
    exact go_bret kk166_0.2.1.1.1.1.2 e30 (Or.inl rfl) ⟨Nat.zero_le _, Nat.zero_le _⟩ rfl
theorem tjM_accept_21 {Φ : ev_P} {d : Nat} (hd : 2 ≤ d) {g : gH} (hg : HR g) {v0 v1 v2 : Int} (hK0 : kd v0 = 7) (h1 : InR v1) (h2 : InR v2) {s0 s1 : Int} (z0 : RfR s0) (z1 : B01 s1) (u3 : Option ev_V) (w3 : nwo u3) : Go Φ pr_P fN 3 (jM_accept_21 g v0 v1 v2 s0 s1 ) d pr_m166 21 [some (sR v0), some (sI v1), some (sI v2), u3] [(sI s1), (sR s0)] g 0 0 := by
  unfold jM_accept_21
  refine go_int kk166_0.1.1.2.2.1.2 2 rfl ?_
  refine go_ck (fun q13 => ?_)
  refine go_callN3 kk166_0.1.1.2.2.2 rfl rfl rfl ⟨by decide, _, rfl, q13⟩ ⟨Nat.zero_le _, Nat.zero_le _⟩ (by omega) (tfM_fails (by omega) hg q13  z1 (inR_of (by decide))) (fun y14 g16 r15 e17 => ?_)
  refine go_ifeq kk166_0.1.2.1.1.1.1 (inR_b r15) (fun c18 => ?_) (fun c19 => ?_)
  · refine go_aload kk166_0.1.2.1.1.1.2 rfl ?_
    refine go_aload kk166_0.1.2.1.1.2 rfl ?_
    refine go_iload kk166_0.1.2.1.2.1.1 rfl ?_
    refine go_callP3 kk166_0.1.2.1.2.1.2 rfl rfl rfl ⟨by decide, _, rfl, hK0⟩ ⟨Nat.zero_le _, Nat.zero_le _⟩ (by omega) (tfM_runs (by omega) e17 hK0  h1) (fun y20 r21 => ?_)
    refine go_ifeq kk166_0.1.2.1.2.2 (inR_b r21) (fun c24 => ?_) (fun c25 => ?_)
    · refine go_int kk166_0.1.2.2.1.1.1 1 rfl ?_
      refine go_goto kk166_0.1.2.2.1.1.2 ?_
      exact tjM_accept_42 hd e17 hK0 h1 h2 (rfR_kd hK0 (by decide)) (Or.inr rfl) u3 w3
    · refine go_int kk166_0.1.2.2.1.2 0 rfl ?_
      exact tjM_accept_42 hd e17 hK0 h1 h2 (rfR_kd hK0 (by decide)) (Or.inl rfl) u3 w3
  · refine go_int kk166_0.2.1.1.1.1.1 0 rfl ?_
    exact go_bret kk166_0.2.1.1.1.1.2 e17 (Or.inl rfl) ⟨Nat.zero_le _, Nat.zero_le _⟩ rfl
theorem tfM_accept {Φ : ev_P} {d : Nat} (hd : 2 ≤ d) {g : gH} (hg : HR g) {v0 v1 v2 : Int} (hK0 : kd v0 = 7) (h1 : InR v1) (h2 : InR v2) : Go Φ pr_P fN 3 (fM_accept g v0 v1 v2) d (pr_P 166) 0 (ev_loc (pr_P 166).1 [(sR v0), (sI v1), (sI v2)]) [] g 0 0 := by
  show Go Φ pr_P fN 3 (fM_accept g v0 v1 v2) d pr_m166 0 [some (sR v0), some (sI v1), some (sI v2), none] [] g 0 0
  unfold fM_accept
  refine go_aload kk166_0.1.1.1.1.1.1 rfl ?_
  refine go_iload kk166_0.1.1.1.1.1.2 rfl ?_
  refine go_callN3 kk166_0.1.1.1.1.2.1 rfl rfl rfl ⟨by decide, _, rfl, hK0⟩ ⟨Nat.zero_le _, Nat.zero_le _⟩ (by omega) (tfM_noProcess (by omega) hg hK0  h1) (fun y1 g3 r2 e4 => ?_)
  refine go_ifeq kk166_0.1.1.1.1.2.2 (inR_b r2) (fun c5 => ?_) (fun c6 => ?_)
  · refine go_aload kk166_0.1.1.1.2.1.1 rfl ?_
    refine go_iload kk166_0.1.1.1.2.1.2 rfl ?_
    refine go_callP3 kk166_0.1.1.1.2.2 rfl rfl rfl trivial ⟨Nat.zero_le _, Nat.zero_le _⟩ (by omega) (tfM_isSmall (by omega) e4  h2) (fun y7 r8 => ?_)
    refine go_ifeq kk166_0.1.1.2.1.1.1 (inR_b r8) (fun c11 => ?_) (fun c12 => ?_)
    · refine go_int kk166_0.1.1.2.1.1.2 1 rfl ?_
      refine go_goto kk166_0.1.1.2.1.2 ?_
      exact tjM_accept_21 hd e4 hK0 h1 h2 (rfR_kd hK0 (by decide)) (Or.inr rfl) none rfl
    · refine go_int kk166_0.1.1.2.2.1.1 0 rfl ?_
      exact tjM_accept_21 hd e4 hK0 h1 h2 (rfR_kd hK0 (by decide)) (Or.inl rfl) none rfl
  · refine go_int kk166_0.2.1.1.1.1.1 0 rfl ?_
    exact go_bret kk166_0.2.1.1.1.1.2 e4 (Or.inl rfl) ⟨Nat.zero_le _, Nat.zero_le _⟩ rfl
theorem tjM_move_84 {Φ : ev_P} {d : Nat} (hd : 3 ≤ d) {g : gH} (hg : HR g) {v0 v1 v2 : Int} (hK0 : kd v0 = 7) (h1 : InR v1) (h2 : InR v2) {s0 s1 : Int} (z0 : RfR s0) (z1 : B01 s1) (u3 : Option ev_V) (w3 : nwo u3) : Go Φ pr_P fN 1 (jM_move_84 g v0 v1 v2 s0 s1 ) d pr_m167 84 [some (sR v0), some (sI v1), some (sI v2), u3] [(sI s1), (sR s0)] g 0 0 := by
  unfold jM_move_84
  refine go_int kk167_1.1.2.1.2.1 2 rfl ?_
  refine go_ck (fun q50 => ?_)
  refine go_callN3 kk167_1.1.2.1.2.2 rfl rfl rfl ⟨by decide, _, rfl, q50⟩ ⟨Nat.zero_le _, Nat.zero_le _⟩ (by omega) (tfM_fails (by omega) hg q50  z1 (inR_of (by decide))) (fun y51 g53 r52 e54 => ?_)
  refine go_ifeq kk167_1.1.2.2.1.1 (inR_b r52) (fun c55 => ?_) (fun c56 => ?_)
  · refine go_aload kk167_1.1.2.2.2.2 rfl ?_
    refine go_callN0 kk167_1.2.1.1.1.1.1 rfl rfl rfl ⟨by decide, _, rfl, hK0⟩ ⟨Nat.zero_le _, Nat.zero_le _⟩ (by omega) (tfM_remembers (by omega) e54 hK0 ) (fun y57 g59 e60 => ?_)
    refine go_aload kk167_1.2.1.1.1.1.2 rfl ?_
    refine go_getR (bI := 0) kk167_1.2.1.1.1.2 e60 hK0 (by decide) rfl rfl (fun r61 => ?_)
    refine go_int kk167_1.2.1.1.2.1 60 rfl ?_
    refine go_iload kk167_1.2.1.1.2.2 rfl ?_
    refine go_iadd kk167_1.2.1.2.1.1 ?_
    refine go_ck (fun q63 => ?_)
    refine go_iald kk167_1.2.1.2.1.2 e60 q63 (fun r62 => ?_)
    refine go_istore kk167_1.2.1.2.2.1 rfl (loc2 := [some (sR v0), some (sI v1), some (sI v2), some (sI (g59 (g59 v0 0) (w32 (60 + v1))))]) rfl ?_
    refine go_aload kk167_1.2.1.2.2.2 rfl ?_
    refine go_getR (bI := 0) kk167_1.2.2.1.1.1 e60 hK0 (by decide) rfl rfl (fun r64 => ?_)
    refine go_int kk167_1.2.2.1.1.2 60 rfl ?_
    refine go_iload kk167_1.2.2.1.2.1 rfl ?_
    refine go_iadd kk167_1.2.2.1.2.2 ?_
    refine go_iload kk167_1.2.2.2.1.1 rfl ?_
    refine go_ck (fun q65 => ?_)
    refine go_iast kk167_1.2.2.2.1.2 e60 q65 h2 (fun g66 e67 => ?_)
    refine go_iload kk167_1.2.2.2.2.1 rfl ?_
    exact go_iret kk167_1.2.2.2.2.2 e67 r62 ⟨Nat.zero_le _, Nat.zero_le _⟩ rfl
  · refine go_int kk167_1.1.2.2.1.2 0 rfl ?_
    exact go_iret kk167_1.1.2.2.2.1 e54 (inR_b (Or.inl rfl)) ⟨Nat.zero_le _, Nat.zero_le _⟩ rfl
theorem tjM_move_79 {Φ : ev_P} {d : Nat} (hd : 3 ≤ d) {g : gH} (hg : HR g) {v0 v1 v2 : Int} (hK0 : kd v0 = 7) (h1 : InR v1) (h2 : InR v2) {s0 : Int} (z0 : RfR s0) (u3 : Option ev_V) (w3 : nwo u3) : Go Φ pr_P fN 1 (jM_move_79 g v0 v1 v2 s0 ) d pr_m167 79 [some (sR v0), some (sI v1), some (sI v2), u3] [(sR s0)] g 0 0 := by
  unfold jM_move_79
  refine go_int kk167_1.1.2.1.1.1.1 1 rfl ?_
  refine go_goto kk167_1.1.2.1.1.1.2 ?_
  exact tjM_move_84 hd hg hK0 h1 h2 z0 (Or.inr rfl) u3 w3
theorem tfM_move {Φ : ev_P} {d : Nat} (hd : 3 ≤ d) {g : gH} (hg : HR g) {v0 v1 v2 : Int} (hK0 : kd v0 = 7) (h1 : InR v1) (h2 : InR v2) : Go Φ pr_P fN 1 (fM_move g v0 v1 v2) d (pr_P 167) 0 (ev_loc (pr_P 167).1 [(sR v0), (sI v1), (sI v2)]) [] g 0 0 := by
  show Go Φ pr_P fN 1 (fM_move g v0 v1 v2) d pr_m167 0 [some (sR v0), some (sI v1), some (sI v2), none] [] g 0 0
  unfold fM_move
  refine go_aload kk167_0.1.1.1.1.1.1 rfl ?_
  refine go_iload kk167_0.1.1.1.1.1.2 rfl ?_
  refine go_callN3 kk167_0.1.1.1.1.2 rfl rfl rfl ⟨by decide, _, rfl, hK0⟩ ⟨Nat.zero_le _, Nat.zero_le _⟩ (by omega) (tfM_noProcess (by omega) hg hK0  h1) (fun y1 g3 r2 e4 => ?_)
  refine go_ifeq kk167_0.1.1.1.2.1 (inR_b r2) (fun c5 => ?_) (fun c6 => ?_)
  · refine go_aload kk167_0.1.1.1.2.2 rfl ?_
    refine go_iload kk167_0.1.1.2.1.1 rfl ?_
    refine go_callN3 kk167_0.1.1.2.1.2 rfl rfl rfl ⟨by decide, _, rfl, hK0⟩ ⟨Nat.zero_le _, Nat.zero_le _⟩ (by omega) (tfM_noProcess (by omega) e4 hK0  h2) (fun y7 g9 r8 e10 => ?_)
    refine go_ifeq kk167_0.1.1.2.2.1 (inR_b r8) (fun c11 => ?_) (fun c12 => ?_)
    · refine go_aload kk167_0.1.2.1.1.2 rfl ?_
      refine go_iload kk167_0.1.2.1.2.1 rfl ?_
      refine go_ifeq kk167_0.1.2.1.2.2 h1 (fun c13 => ?_) (fun c14 => ?_)
      · exact tjM_move_79 hd e10 hK0 h1 h2 (rfR_kd hK0 (by decide)) none rfl
      · refine go_aload kk167_0.1.2.2.1.1 rfl ?_
        refine go_iload kk167_0.1.2.2.1.2 rfl ?_
        refine go_callP3 kk167_0.1.2.2.2.1 rfl rfl rfl ⟨by decide, _, rfl, hK0⟩ ⟨Nat.zero_le _, Nat.zero_le _⟩ (by omega) (tfM_runs (by omega) e10 hK0  h1) (fun y15 r16 => ?_)
        refine go_ifeq kk167_0.1.2.2.2.2 (inR_b r16) (fun c19 => ?_) (fun c20 => ?_)
        · exact tjM_move_79 hd e10 hK0 h1 h2 (rfR_kd hK0 (by decide)) none rfl
        · refine go_aload kk167_0.2.1.1.1.1.1 rfl ?_
          refine go_iload kk167_0.2.1.1.1.1.2 rfl ?_
          refine go_callP3 kk167_0.2.1.1.1.2 rfl rfl rfl ⟨by decide, _, rfl, hK0⟩ ⟨Nat.zero_le _, Nat.zero_le _⟩ (by omega) (tfM_runs (by omega) e10 hK0  h2) (fun y21 r22 => ?_)
          refine go_ifeq kk167_0.2.1.1.2.1 (inR_b r22) (fun c25 => ?_) (fun c26 => ?_)
          · exact tjM_move_79 hd e10 hK0 h1 h2 (rfR_kd hK0 (by decide)) none rfl
          · refine go_iload kk167_0.2.1.1.2.2 rfl ?_
            refine go_iload kk167_0.2.1.2.1.1 rfl ?_
            refine go_cmeq kk167_0.2.1.2.1.2 h1 h2 (fun c27 => ?_) (fun c28 => ?_)
            · exact tjM_move_79 hd e10 hK0 h1 h2 (rfR_kd hK0 (by decide)) none rfl
            · refine go_aload kk167_0.2.1.2.2.1 rfl ?_
              refine go_iload kk167_0.2.1.2.2.2 rfl ?_
              refine go_iload kk167_0.2.2.1.1.1 rfl ?_
              refine go_callP3 kk167_0.2.2.1.1.2 rfl rfl rfl ⟨by decide, _, rfl, hK0⟩ ⟨Nat.zero_le _, Nat.zero_le _⟩ (by omega) (tfM_isOver (by omega) e10 hK0  h1 h2) (fun y29 r30 => ?_)
              refine go_ifeq kk167_0.2.2.1.2.1 (inR_b r30) (fun c33 => ?_) (fun c34 => ?_)
              · refine go_aload kk167_0.2.2.1.2.2 rfl ?_
                refine go_iload kk167_0.2.2.2.1.1 rfl ?_
                refine go_callP1 kk167_0.2.2.2.1.2 rfl rfl rfl ⟨by decide, _, rfl, hK0⟩ ⟨Nat.zero_le _, Nat.zero_le _⟩ (by omega) (tfM_roomOf (by omega) e10 hK0  h2) (fun y35 r36 => ?_)
                refine go_ifeq kk167_0.2.2.2.2.1 r36 (fun c39 => ?_) (fun c40 => ?_)
                · exact tjM_move_79 hd e10 hK0 h1 h2 (rfR_kd hK0 (by decide)) none rfl
                · refine go_aload kk167_0.2.2.2.2.2 rfl ?_
                  refine go_iload kk167_1.1.1.1.1.1.1 rfl ?_
                  refine go_aload kk167_1.1.1.1.1.1.2 rfl ?_
                  refine go_getR (bI := 0) kk167_1.1.1.1.1.2 e10 hK0 (by decide) rfl rfl (fun r41 => ?_)
                  refine go_int kk167_1.1.1.1.2.1 180 rfl ?_
                  refine go_iload kk167_1.1.1.1.2.2 rfl ?_
                  refine go_iadd kk167_1.1.1.2.1.1 ?_
                  refine go_ck (fun q43 => ?_)
                  refine go_iald kk167_1.1.1.2.1.2 e10 q43 (fun r42 => ?_)
                  refine go_callP3 kk167_1.1.1.2.2.1 rfl rfl rfl ⟨by decide, _, rfl, hK0⟩ ⟨Nat.zero_le _, Nat.zero_le _⟩ (by omega) (tfM_refusesGroup (by omega) e10 hK0  h2 r42) (fun y44 r45 => ?_)
                  refine go_ifeq kk167_1.1.1.2.2.2 (inR_b r45) (fun c48 => ?_) (fun c49 => ?_)
                  · refine go_int kk167_1.1.2.1.1.2 0 rfl ?_
                    exact tjM_move_84 hd e10 hK0 h1 h2 (rfR_kd hK0 (by decide)) (Or.inl rfl) none rfl
                  · exact tjM_move_79 hd e10 hK0 h1 h2 (rfR_kd hK0 (by decide)) none rfl
              · exact tjM_move_79 hd e10 hK0 h1 h2 (rfR_kd hK0 (by decide)) none rfl
    · refine go_int kk167_0.1.1.2.2.2 0 rfl ?_
      exact go_iret kk167_0.1.2.1.1.1 e10 (inR_b (Or.inl rfl)) ⟨Nat.zero_le _, Nat.zero_le _⟩ rfl
  · refine go_int kk167_0.1.1.2.2.2 0 rfl ?_
    exact go_iret kk167_0.1.2.1.1.1 e4 (inR_b (Or.inl rfl)) ⟨Nat.zero_le _, Nat.zero_le _⟩ rfl
theorem tjM_sets_42 {Φ : ev_P} {d : Nat} (hd : 2 ≤ d) {g : gH} (hg : HR g) {v0 v1 v2 v3 : Int} (hK0 : kd v0 = 7) (h1 : InR v1) (h2 : InR v2) (h3 : InR v3) {s0 s1 : Int} (z0 : RfR s0) (z1 : B01 s1) (u4 : Option ev_V) (w4 : nwo u4) : Go Φ pr_P fN 1 (jM_sets_42 g v0 v1 v2 v3 s0 s1 ) d pr_m168 42 [some (sR v0), some (sI v1), some (sI v2), some (sI v3), u4] [(sI s1), (sR s0)] g 0 0 := by
  unfold jM_sets_42
  refine go_int kk168_0.1.2.2.2.2 3 rfl ?_
  refine go_ck (fun q26 => ?_)
  refine go_callN3 kk168_0.2.1.1.1.1.1 rfl rfl rfl ⟨by decide, _, rfl, q26⟩ ⟨Nat.zero_le _, Nat.zero_le _⟩ (by omega) (tfM_fails (by omega) hg q26  z1 (inR_of (by decide))) (fun y27 g29 r28 e30 => ?_)
  refine go_ifeq kk168_0.2.1.1.1.1.2 (inR_b r28) (fun c31 => ?_) (fun c32 => ?_)
  · refine go_aload kk168_0.2.1.1.2.1.2 rfl ?_
    refine go_callN0 kk168_0.2.1.1.2.2 rfl rfl rfl ⟨by decide, _, rfl, hK0⟩ ⟨Nat.zero_le _, Nat.zero_le _⟩ (by omega) (tfM_remembers (by omega) e30 hK0 ) (fun y33 g35 e36 => ?_)
    refine go_aload kk168_0.2.1.2.1.1.1 rfl ?_
    refine go_getR (bI := 0) kk168_0.2.1.2.1.1.2 e36 hK0 (by decide) rfl rfl (fun r37 => ?_)
    refine go_iload kk168_0.2.1.2.1.2 rfl ?_
    refine go_iload kk168_0.2.1.2.2.1 rfl ?_
    refine go_iadd kk168_0.2.1.2.2.2 ?_
    refine go_ck (fun q39 => ?_)
    refine go_iald kk168_0.2.2.1.1.1.1 e36 q39 (fun r38 => ?_)
    refine go_istore kk168_0.2.2.1.1.1.2 rfl (loc2 := [some (sR v0), some (sI v1), some (sI v2), some (sI v3), some (sI (g35 (g35 v0 0) (w32 (v1 + v2))))]) rfl ?_
    refine go_aload kk168_0.2.2.1.1.2 rfl ?_
    refine go_getR (bI := 0) kk168_0.2.2.1.2.1.1 e36 hK0 (by decide) rfl rfl (fun r40 => ?_)
    refine go_iload kk168_0.2.2.1.2.1.2 rfl ?_
    refine go_iload kk168_0.2.2.1.2.2 rfl ?_
    refine go_iadd kk168_0.2.2.2.1.1.1 ?_
    refine go_iload kk168_0.2.2.2.1.1.2 rfl ?_
    refine go_ck (fun q41 => ?_)
    refine go_iast kk168_0.2.2.2.1.2 e36 q41 h3 (fun g42 e43 => ?_)
    refine go_iload kk168_0.2.2.2.2.1 rfl ?_
    exact go_iret kk168_0.2.2.2.2.2 e43 r38 ⟨Nat.zero_le _, Nat.zero_le _⟩ rfl
  · refine go_int kk168_0.2.1.1.1.2 0 rfl ?_
    exact go_iret kk168_0.2.1.1.2.1.1 e30 (inR_b (Or.inl rfl)) ⟨Nat.zero_le _, Nat.zero_le _⟩ rfl
theorem tjM_sets_21 {Φ : ev_P} {d : Nat} (hd : 2 ≤ d) {g : gH} (hg : HR g) {v0 v1 v2 v3 : Int} (hK0 : kd v0 = 7) (h1 : InR v1) (h2 : InR v2) (h3 : InR v3) {s0 s1 : Int} (z0 : RfR s0) (z1 : B01 s1) (u4 : Option ev_V) (w4 : nwo u4) : Go Φ pr_P fN 1 (jM_sets_21 g v0 v1 v2 v3 s0 s1 ) d pr_m168 21 [some (sR v0), some (sI v1), some (sI v2), some (sI v3), u4] [(sI s1), (sR s0)] g 0 0 := by
  unfold jM_sets_21
  refine go_int kk168_0.1.1.2.2.2 2 rfl ?_
  refine go_ck (fun q13 => ?_)
  refine go_callN3 kk168_0.1.2.1.1.1.1 rfl rfl rfl ⟨by decide, _, rfl, q13⟩ ⟨Nat.zero_le _, Nat.zero_le _⟩ (by omega) (tfM_fails (by omega) hg q13  z1 (inR_of (by decide))) (fun y14 g16 r15 e17 => ?_)
  refine go_ifeq kk168_0.1.2.1.1.1.2 (inR_b r15) (fun c18 => ?_) (fun c19 => ?_)
  · refine go_aload kk168_0.1.2.1.1.2 rfl ?_
    refine go_aload kk168_0.1.2.1.2.1.1 rfl ?_
    refine go_iload kk168_0.1.2.1.2.1.2 rfl ?_
    refine go_callP3 kk168_0.1.2.1.2.2 rfl rfl rfl ⟨by decide, _, rfl, hK0⟩ ⟨Nat.zero_le _, Nat.zero_le _⟩ (by omega) (tfM_runs (by omega) e17 hK0  h2) (fun y20 r21 => ?_)
    refine go_ifeq kk168_0.1.2.2.1.1.1 (inR_b r21) (fun c24 => ?_) (fun c25 => ?_)
    · refine go_int kk168_0.1.2.2.1.1.2 1 rfl ?_
      refine go_goto kk168_0.1.2.2.1.2 ?_
      exact tjM_sets_42 hd e17 hK0 h1 h2 h3 (rfR_kd hK0 (by decide)) (Or.inr rfl) u4 w4
    · refine go_int kk168_0.1.2.2.2.1 0 rfl ?_
      exact tjM_sets_42 hd e17 hK0 h1 h2 h3 (rfR_kd hK0 (by decide)) (Or.inl rfl) u4 w4
  · refine go_int kk168_0.2.1.1.1.2 0 rfl ?_
    exact go_iret kk168_0.2.1.1.2.1.1 e17 (inR_b (Or.inl rfl)) ⟨Nat.zero_le _, Nat.zero_le _⟩ rfl
theorem tfM_sets {Φ : ev_P} {d : Nat} (hd : 2 ≤ d) {g : gH} (hg : HR g) {v0 v1 v2 v3 : Int} (hK0 : kd v0 = 7) (h1 : InR v1) (h2 : InR v2) (h3 : InR v3) : Go Φ pr_P fN 1 (fM_sets g v0 v1 v2 v3) d (pr_P 168) 0 (ev_loc (pr_P 168).1 [(sR v0), (sI v1), (sI v2), (sI v3)]) [] g 0 0 := by
  show Go Φ pr_P fN 1 (fM_sets g v0 v1 v2 v3) d pr_m168 0 [some (sR v0), some (sI v1), some (sI v2), some (sI v3), none] [] g 0 0
  unfold fM_sets
  refine go_aload kk168_0.1.1.1.1.1.1 rfl ?_
  refine go_iload kk168_0.1.1.1.1.1.2 rfl ?_
  refine go_callN3 kk168_0.1.1.1.1.2 rfl rfl rfl ⟨by decide, _, rfl, hK0⟩ ⟨Nat.zero_le _, Nat.zero_le _⟩ (by omega) (tfM_noProcess (by omega) hg hK0  h2) (fun y1 g3 r2 e4 => ?_)
  refine go_ifeq kk168_0.1.1.1.2.1.1 (inR_b r2) (fun c5 => ?_) (fun c6 => ?_)
  · refine go_aload kk168_0.1.1.1.2.1.2 rfl ?_
    refine go_iload kk168_0.1.1.1.2.2 rfl ?_
    refine go_callP3 kk168_0.1.1.2.1.1.1 rfl rfl rfl trivial ⟨Nat.zero_le _, Nat.zero_le _⟩ (by omega) (tfM_isSmall (by omega) e4  h3) (fun y7 r8 => ?_)
    refine go_ifeq kk168_0.1.1.2.1.1.2 (inR_b r8) (fun c11 => ?_) (fun c12 => ?_)
    · refine go_int kk168_0.1.1.2.1.2 1 rfl ?_
      refine go_goto kk168_0.1.1.2.2.1.1 ?_
      exact tjM_sets_21 hd e4 hK0 h1 h2 h3 (rfR_kd hK0 (by decide)) (Or.inr rfl) none rfl
    · refine go_int kk168_0.1.1.2.2.1.2 0 rfl ?_
      exact tjM_sets_21 hd e4 hK0 h1 h2 h3 (rfR_kd hK0 (by decide)) (Or.inl rfl) none rfl
  · refine go_int kk168_0.2.1.1.1.2 0 rfl ?_
    exact go_iret kk168_0.2.1.1.2.1.1 e4 (inR_b (Or.inl rfl)) ⟨Nat.zero_le _, Nat.zero_le _⟩ rfl
theorem tfM_setCapacity {Φ : ev_P} {d : Nat} (hd : 3 ≤ d) {g : gH} (hg : HR g) {v0 v1 v2 : Int} (hK0 : kd v0 = 7) (h1 : InR v1) (h2 : InR v2) : Go Φ pr_P fN 1 (fM_setCapacity g v0 v1 v2) d (pr_P 169) 0 (ev_loc (pr_P 169).1 [(sR v0), (sI v1), (sI v2)]) [] g 0 0 := by
  show Go Φ pr_P fN 1 (fM_setCapacity g v0 v1 v2) d pr_m169 0 [some (sR v0), some (sI v1), some (sI v2)] [] g 0 0
  unfold fM_setCapacity
  refine go_aload kk169_0.1.1.1 rfl ?_
  refine go_int kk169_0.1.1.2 100 rfl ?_
  refine go_iload kk169_0.1.2 rfl ?_
  refine go_iload kk169_0.2.1.1 rfl ?_
  refine go_callN1 kk169_0.2.1.2 rfl rfl rfl ⟨by decide, _, rfl, hK0⟩ ⟨Nat.zero_le _, Nat.zero_le _⟩ (by omega) (tfM_sets (by omega) hg hK0  (inR_of (by decide)) h1 h2) (fun y1 g3 r2 e4 => ?_)
  exact go_iret kk169_0.2.2 e4 r2 ⟨Nat.zero_le _, Nat.zero_le _⟩ rfl
theorem tfM_setBudget {Φ : ev_P} {d : Nat} (hd : 3 ≤ d) {g : gH} (hg : HR g) {v0 v1 v2 : Int} (hK0 : kd v0 = 7) (h1 : InR v1) (h2 : InR v2) : Go Φ pr_P fN 1 (fM_setBudget g v0 v1 v2) d (pr_P 170) 0 (ev_loc (pr_P 170).1 [(sR v0), (sI v1), (sI v2)]) [] g 0 0 := by
  show Go Φ pr_P fN 1 (fM_setBudget g v0 v1 v2) d pr_m170 0 [some (sR v0), some (sI v1), some (sI v2)] [] g 0 0
  unfold fM_setBudget
  refine go_aload kk170_0.1.1.1 rfl ?_
  refine go_int kk170_0.1.1.2 220 rfl ?_
  refine go_iload kk170_0.1.2 rfl ?_
  refine go_iload kk170_0.2.1.1 rfl ?_
  refine go_callN1 kk170_0.2.1.2 rfl rfl rfl ⟨by decide, _, rfl, hK0⟩ ⟨Nat.zero_le _, Nat.zero_le _⟩ (by omega) (tfM_sets (by omega) hg hK0  (inR_of (by decide)) h1 h2) (fun y1 g3 r2 e4 => ?_)
  exact go_iret kk170_0.2.2 e4 r2 ⟨Nat.zero_le _, Nat.zero_le _⟩ rfl
theorem tjM_setHeir_73 {Φ : ev_P} {d : Nat} (hd : 2 ≤ d) {g : gH} (hg : HR g) {v0 v1 v2 : Int} (hK0 : kd v0 = 7) (h1 : InR v1) (h2 : InR v2) {s0 s1 : Int} (z0 : RfR s0) (z1 : B01 s1) (u3 : Option ev_V) (w3 : nwo u3) : Go Φ pr_P fN 1 (jM_setHeir_73 g v0 v1 v2 s0 s1 ) d pr_m171 73 [some (sR v0), some (sI v1), some (sI v2), u3] [(sI s1), (sR s0)] g 0 0 := by
  unfold jM_setHeir_73
  refine go_int kk171_0.2.1.2.1.1.2 3 rfl ?_
  refine go_ck (fun q40 => ?_)
  refine go_callN3 kk171_0.2.1.2.1.2.1 rfl rfl rfl ⟨by decide, _, rfl, q40⟩ ⟨Nat.zero_le _, Nat.zero_le _⟩ (by omega) (tfM_fails (by omega) hg q40  z1 (inR_of (by decide))) (fun y41 g43 r42 e44 => ?_)
  refine go_ifeq kk171_0.2.1.2.1.2.2 (inR_b r42) (fun c45 => ?_) (fun c46 => ?_)
  · refine go_aload kk171_0.2.1.2.2.2.1 rfl ?_
    refine go_callN0 kk171_0.2.1.2.2.2.2 rfl rfl rfl ⟨by decide, _, rfl, hK0⟩ ⟨Nat.zero_le _, Nat.zero_le _⟩ (by omega) (tfM_remembers (by omega) e44 hK0 ) (fun y47 g49 e50 => ?_)
    refine go_aload kk171_0.2.2.1.1.1.1 rfl ?_
    refine go_getR (bI := 0) kk171_0.2.2.1.1.1.2 e50 hK0 (by decide) rfl rfl (fun r51 => ?_)
    refine go_int kk171_0.2.2.1.1.2.1 260 rfl ?_
    refine go_iload kk171_0.2.2.1.1.2.2 rfl ?_
    refine go_iadd kk171_0.2.2.1.2.1.1 ?_
    refine go_ck (fun q53 => ?_)
    refine go_iald kk171_0.2.2.1.2.1.2 e50 q53 (fun r52 => ?_)
    refine go_istore kk171_0.2.2.1.2.2.1 rfl (loc2 := [some (sR v0), some (sI v1), some (sI v2), some (sI (g49 (g49 v0 0) (w32 (260 + v1))))]) rfl ?_
    refine go_aload kk171_0.2.2.1.2.2.2 rfl ?_
    refine go_getR (bI := 0) kk171_0.2.2.2.1.1.1 e50 hK0 (by decide) rfl rfl (fun r54 => ?_)
    refine go_int kk171_0.2.2.2.1.1.2 260 rfl ?_
    refine go_iload kk171_0.2.2.2.1.2.1 rfl ?_
    refine go_iadd kk171_0.2.2.2.1.2.2 ?_
    refine go_iload kk171_0.2.2.2.2.1.1 rfl ?_
    refine go_ck (fun q55 => ?_)
    refine go_iast kk171_0.2.2.2.2.1.2 e50 q55 h2 (fun g56 e57 => ?_)
    refine go_iload kk171_0.2.2.2.2.2.1 rfl ?_
    exact go_iret kk171_0.2.2.2.2.2.2 e57 r52 ⟨Nat.zero_le _, Nat.zero_le _⟩ rfl
  · refine go_int kk171_0.2.1.2.2.1.1 0 rfl ?_
    exact go_iret kk171_0.2.1.2.2.1.2 e44 (inR_b (Or.inl rfl)) ⟨Nat.zero_le _, Nat.zero_le _⟩ rfl
theorem tjM_setHeir_68 {Φ : ev_P} {d : Nat} (hd : 2 ≤ d) {g : gH} (hg : HR g) {v0 v1 v2 : Int} (hK0 : kd v0 = 7) (h1 : InR v1) (h2 : InR v2) {s0 : Int} (z0 : RfR s0) (u3 : Option ev_V) (w3 : nwo u3) : Go Φ pr_P fN 1 (jM_setHeir_68 g v0 v1 v2 s0 ) d pr_m171 68 [some (sR v0), some (sI v1), some (sI v2), u3] [(sR s0)] g 0 0 := by
  unfold jM_setHeir_68
  refine go_int kk171_0.2.1.1.2.2.1 1 rfl ?_
  refine go_goto kk171_0.2.1.1.2.2.2 ?_
  exact tjM_setHeir_73 hd hg hK0 h1 h2 z0 (Or.inr rfl) u3 w3
theorem tjM_setHeir_48 {Φ : ev_P} {d : Nat} (hd : 2 ≤ d) {g : gH} (hg : HR g) {v0 v1 v2 : Int} (hK0 : kd v0 = 7) (h1 : InR v1) (h2 : InR v2) {s0 s1 : Int} (z0 : RfR s0) (z1 : B01 s1) (u3 : Option ev_V) (w3 : nwo u3) : Go Φ pr_P fN 1 (jM_setHeir_48 g v0 v1 v2 s0 s1 ) d pr_m171 48 [some (sR v0), some (sI v1), some (sI v2), u3] [(sI s1), (sR s0)] g 0 0 := by
  unfold jM_setHeir_48
  refine go_int kk171_0.1.2.2.2.1.1 2 rfl ?_
  refine go_ck (fun q25 => ?_)
  refine go_callN3 kk171_0.1.2.2.2.1.2 rfl rfl rfl ⟨by decide, _, rfl, q25⟩ ⟨Nat.zero_le _, Nat.zero_le _⟩ (by omega) (tfM_fails (by omega) hg q25  z1 (inR_of (by decide))) (fun y26 g28 r27 e29 => ?_)
  refine go_ifeq kk171_0.1.2.2.2.2.1 (inR_b r27) (fun c30 => ?_) (fun c31 => ?_)
  · refine go_aload kk171_0.1.2.2.2.2.2 rfl ?_
    refine go_iload kk171_0.2.1.1.1.1.1 rfl ?_
    refine go_ifeq kk171_0.2.1.1.1.1.2 h1 (fun c32 => ?_) (fun c33 => ?_)
    · exact tjM_setHeir_68 hd e29 hK0 h1 h2 (rfR_kd hK0 (by decide)) u3 w3
    · refine go_aload kk171_0.2.1.1.1.2.1 rfl ?_
      refine go_iload kk171_0.2.1.1.1.2.2 rfl ?_
      refine go_callP3 kk171_0.2.1.1.2.1.1 rfl rfl rfl ⟨by decide, _, rfl, hK0⟩ ⟨Nat.zero_le _, Nat.zero_le _⟩ (by omega) (tfM_runs (by omega) e29 hK0  h1) (fun y34 r35 => ?_)
      refine go_ifeq kk171_0.2.1.1.2.1.2 (inR_b r35) (fun c38 => ?_) (fun c39 => ?_)
      · exact tjM_setHeir_68 hd e29 hK0 h1 h2 (rfR_kd hK0 (by decide)) u3 w3
      · refine go_int kk171_0.2.1.2.1.1.1 0 rfl ?_
        exact tjM_setHeir_73 hd e29 hK0 h1 h2 (rfR_kd hK0 (by decide)) (Or.inl rfl) u3 w3
  · refine go_int kk171_0.2.1.2.2.1.1 0 rfl ?_
    exact go_iret kk171_0.2.1.2.2.1.2 e29 (inR_b (Or.inl rfl)) ⟨Nat.zero_le _, Nat.zero_le _⟩ rfl
theorem tjM_setHeir_30 {Φ : ev_P} {d : Nat} (hd : 2 ≤ d) {g : gH} (hg : HR g) {v0 v1 v2 : Int} (hK0 : kd v0 = 7) (h1 : InR v1) (h2 : InR v2) {s0 s1 : Int} (z0 : RfR s0) (z1 : B01 s1) (u3 : Option ev_V) (w3 : nwo u3) : Go Φ pr_P fN 1 (jM_setHeir_30 g v0 v1 v2 s0 s1 ) d pr_m171 30 [some (sR v0), some (sI v1), some (sI v2), u3] [(sI s1), (sR s0)] g 0 0 := by
  unfold jM_setHeir_30
  refine go_int kk171_0.1.2.1.1.2.1 1 rfl ?_
  refine go_ck (fun q16 => ?_)
  refine go_callN3 kk171_0.1.2.1.1.2.2 rfl rfl rfl ⟨by decide, _, rfl, q16⟩ ⟨Nat.zero_le _, Nat.zero_le _⟩ (by omega) (tfM_fails (by omega) hg q16  z1 (inR_b (Or.inr rfl))) (fun y17 g19 r18 e20 => ?_)
  refine go_ifeq kk171_0.1.2.1.2.1.1 (inR_b r18) (fun c21 => ?_) (fun c22 => ?_)
  · refine go_aload kk171_0.1.2.1.2.1.2 rfl ?_
    refine go_iload kk171_0.1.2.1.2.2.1 rfl ?_
    refine go_iload kk171_0.1.2.1.2.2.2 rfl ?_
    refine go_cmeq kk171_0.1.2.2.1.1.1 h1 h2 (fun c23 => ?_) (fun c24 => ?_)
    · refine go_int kk171_0.1.2.2.1.1.2 1 rfl ?_
      refine go_goto kk171_0.1.2.2.1.2.1 ?_
      exact tjM_setHeir_48 hd e20 hK0 h1 h2 (rfR_kd hK0 (by decide)) (Or.inr rfl) u3 w3
    · refine go_int kk171_0.1.2.2.1.2.2 0 rfl ?_
      exact tjM_setHeir_48 hd e20 hK0 h1 h2 (rfR_kd hK0 (by decide)) (Or.inl rfl) u3 w3
  · refine go_int kk171_0.2.1.2.2.1.1 0 rfl ?_
    exact go_iret kk171_0.2.1.2.2.1.2 e20 (inR_b (Or.inl rfl)) ⟨Nat.zero_le _, Nat.zero_le _⟩ rfl
theorem tfM_setHeir {Φ : ev_P} {d : Nat} (hd : 2 ≤ d) {g : gH} (hg : HR g) {v0 v1 v2 : Int} (hK0 : kd v0 = 7) (h1 : InR v1) (h2 : InR v2) : Go Φ pr_P fN 1 (fM_setHeir g v0 v1 v2) d (pr_P 171) 0 (ev_loc (pr_P 171).1 [(sR v0), (sI v1), (sI v2)]) [] g 0 0 := by
  show Go Φ pr_P fN 1 (fM_setHeir g v0 v1 v2) d pr_m171 0 [some (sR v0), some (sI v1), some (sI v2), none] [] g 0 0
  unfold fM_setHeir
  refine go_aload kk171_0.1.1.1.1.1.1 rfl ?_
  refine go_iload kk171_0.1.1.1.1.1.2 rfl ?_
  refine go_callN3 kk171_0.1.1.1.1.2.1 rfl rfl rfl ⟨by decide, _, rfl, hK0⟩ ⟨Nat.zero_le _, Nat.zero_le _⟩ (by omega) (tfM_noProcess (by omega) hg hK0  h1) (fun y1 g3 r2 e4 => ?_)
  refine go_ifeq kk171_0.1.1.1.1.2.2 (inR_b r2) (fun c5 => ?_) (fun c6 => ?_)
  · refine go_aload kk171_0.1.1.1.2.1.1 rfl ?_
    refine go_iload kk171_0.1.1.1.2.1.2 rfl ?_
    refine go_int kk171_0.1.1.1.2.2.1 (-1) rfl ?_
    refine go_aload kk171_0.1.1.1.2.2.2 rfl ?_
    refine go_getR (bI := 0) kk171_0.1.1.2.1.1.1 e4 hK0 (by decide) rfl rfl (fun r7 => ?_)
    refine go_int kk171_0.1.1.2.1.1.2 0 rfl ?_
    refine go_ck (fun q9 => ?_)
    refine go_iald kk171_0.1.1.2.1.2.1 e4 q9 (fun r8 => ?_)
    refine go_int kk171_0.1.1.2.1.2.2 1 rfl ?_
    refine go_isub kk171_0.1.1.2.2.1.1 ?_
    refine go_callP3 kk171_0.1.1.2.2.1.2 rfl rfl rfl trivial ⟨Nat.zero_le _, Nat.zero_le _⟩ (by omega) (tfM_inRange (by omega) e4  h2 (inR_of (by decide)) (inR_w32 _)) (fun y10 r11 => ?_)
    refine go_ifeq kk171_0.1.1.2.2.2.1 (inR_b r11) (fun c14 => ?_) (fun c15 => ?_)
    · refine go_int kk171_0.1.1.2.2.2.2 1 rfl ?_
      refine go_goto kk171_0.1.2.1.1.1.1 ?_
      exact tjM_setHeir_30 hd e4 hK0 h1 h2 (rfR_kd hK0 (by decide)) (Or.inr rfl) none rfl
    · refine go_int kk171_0.1.2.1.1.1.2 0 rfl ?_
      exact tjM_setHeir_30 hd e4 hK0 h1 h2 (rfR_kd hK0 (by decide)) (Or.inl rfl) none rfl
  · refine go_int kk171_0.2.1.2.2.1.1 0 rfl ?_
    exact go_iret kk171_0.2.1.2.2.1.2 e4 (inR_b (Or.inl rfl)) ⟨Nat.zero_le _, Nat.zero_le _⟩ rfl
theorem tjM_give_57 {Φ : ev_P} {d : Nat} (hd : 2 ≤ d) {g : gH} (hg : HR g) {v0 v1 v2 : Int} (hK0 : kd v0 = 7) (h1 : InR v1) (h2 : InR v2) {s0 s1 : Int} (z0 : RfR s0) (z1 : B01 s1) (u3 : Option ev_V) (w3 : nwo u3) : Go Φ pr_P fN 1 (jM_give_57 g v0 v1 v2 s0 s1 ) d pr_m172 57 [some (sR v0), some (sI v1), some (sI v2), u3] [(sI s1), (sR s0)] g 0 0 := by
  unfold jM_give_57
  refine go_int kk172_0.2.1.1.2.1.2 3 rfl ?_
  refine go_ck (fun q31 => ?_)
  refine go_callN3 kk172_0.2.1.1.2.2 rfl rfl rfl ⟨by decide, _, rfl, q31⟩ ⟨Nat.zero_le _, Nat.zero_le _⟩ (by omega) (tfM_fails (by omega) hg q31  z1 (inR_of (by decide))) (fun y32 g34 r33 e35 => ?_)
  refine go_ifeq kk172_0.2.1.2.1.1.1 (inR_b r33) (fun c36 => ?_) (fun c37 => ?_)
  · refine go_aload kk172_0.2.1.2.1.2.2 rfl ?_
    refine go_callN0 kk172_0.2.1.2.2.1.1 rfl rfl rfl ⟨by decide, _, rfl, hK0⟩ ⟨Nat.zero_le _, Nat.zero_le _⟩ (by omega) (tfM_remembers (by omega) e35 hK0 ) (fun y38 g40 e41 => ?_)
    refine go_aload kk172_0.2.1.2.2.1.2 rfl ?_
    refine go_getR (bI := 0) kk172_0.2.1.2.2.2 e41 hK0 (by decide) rfl rfl (fun r42 => ?_)
    refine go_int kk172_0.2.2.1.1.1.1 11 rfl ?_
    refine go_iload kk172_0.2.2.1.1.1.2 rfl ?_
    refine go_iadd kk172_0.2.2.1.1.2.1 ?_
    refine go_ck (fun q44 => ?_)
    refine go_iald kk172_0.2.2.1.1.2.2 e41 q44 (fun r43 => ?_)
    refine go_istore kk172_0.2.2.1.2.1.1 rfl (loc2 := [some (sR v0), some (sI v1), some (sI v2), some (sI (g40 (g40 v0 0) (w32 (11 + v1))))]) rfl ?_
    refine go_aload kk172_0.2.2.1.2.1.2 rfl ?_
    refine go_getR (bI := 0) kk172_0.2.2.1.2.2 e41 hK0 (by decide) rfl rfl (fun r45 => ?_)
    refine go_int kk172_0.2.2.2.1.1.1 11 rfl ?_
    refine go_iload kk172_0.2.2.2.1.1.2 rfl ?_
    refine go_iadd kk172_0.2.2.2.1.2.1 ?_
    refine go_iload kk172_0.2.2.2.1.2.2 rfl ?_
    refine go_ck (fun q46 => ?_)
    refine go_iast kk172_0.2.2.2.2.1.1 e41 q46 h2 (fun g47 e48 => ?_)
    refine go_iload kk172_0.2.2.2.2.1.2 rfl ?_
    exact go_iret kk172_0.2.2.2.2.2 e48 r43 ⟨Nat.zero_le _, Nat.zero_le _⟩ rfl
  · refine go_int kk172_0.2.1.2.1.1.2 0 rfl ?_
    exact go_iret kk172_0.2.1.2.1.2.1 e35 (inR_b (Or.inl rfl)) ⟨Nat.zero_le _, Nat.zero_le _⟩ rfl
theorem tjM_give_36 {Φ : ev_P} {d : Nat} (hd : 2 ≤ d) {g : gH} (hg : HR g) {v0 v1 v2 : Int} (hK0 : kd v0 = 7) (h1 : InR v1) (h2 : InR v2) {s0 s1 : Int} (z0 : RfR s0) (z1 : B01 s1) (u3 : Option ev_V) (w3 : nwo u3) : Go Φ pr_P fN 1 (jM_give_36 g v0 v1 v2 s0 s1 ) d pr_m172 36 [some (sR v0), some (sI v1), some (sI v2), u3] [(sI s1), (sR s0)] g 0 0 := by
  unfold jM_give_36
  refine go_int kk172_0.1.2.2.1.1.2 2 rfl ?_
  refine go_ck (fun q18 => ?_)
  refine go_callN3 kk172_0.1.2.2.1.2.1 rfl rfl rfl ⟨by decide, _, rfl, q18⟩ ⟨Nat.zero_le _, Nat.zero_le _⟩ (by omega) (tfM_fails (by omega) hg q18  z1 (inR_of (by decide))) (fun y19 g21 r20 e22 => ?_)
  refine go_ifeq kk172_0.1.2.2.1.2.2 (inR_b r20) (fun c23 => ?_) (fun c24 => ?_)
  · refine go_aload kk172_0.1.2.2.2.1.1 rfl ?_
    refine go_aload kk172_0.1.2.2.2.1.2 rfl ?_
    refine go_iload kk172_0.1.2.2.2.2 rfl ?_
    refine go_callP3 kk172_0.2.1.1.1.1.1 rfl rfl rfl ⟨by decide, _, rfl, hK0⟩ ⟨Nat.zero_le _, Nat.zero_le _⟩ (by omega) (tfM_runs (by omega) e22 hK0  h2) (fun y25 r26 => ?_)
    refine go_ifeq kk172_0.2.1.1.1.1.2 (inR_b r26) (fun c29 => ?_) (fun c30 => ?_)
    · refine go_int kk172_0.2.1.1.1.2.1 1 rfl ?_
      refine go_goto kk172_0.2.1.1.1.2.2 ?_
      exact tjM_give_57 hd e22 hK0 h1 h2 (rfR_kd hK0 (by decide)) (Or.inr rfl) u3 w3
    · refine go_int kk172_0.2.1.1.2.1.1 0 rfl ?_
      exact tjM_give_57 hd e22 hK0 h1 h2 (rfR_kd hK0 (by decide)) (Or.inl rfl) u3 w3
  · refine go_int kk172_0.2.1.2.1.1.2 0 rfl ?_
    exact go_iret kk172_0.2.1.2.1.2.1 e22 (inR_b (Or.inl rfl)) ⟨Nat.zero_le _, Nat.zero_le _⟩ rfl
theorem tfM_give {Φ : ev_P} {d : Nat} (hd : 2 ≤ d) {g : gH} (hg : HR g) {v0 v1 v2 : Int} (hK0 : kd v0 = 7) (h1 : InR v1) (h2 : InR v2) : Go Φ pr_P fN 1 (fM_give g v0 v1 v2) d (pr_P 172) 0 (ev_loc (pr_P 172).1 [(sR v0), (sI v1), (sI v2)]) [] g 0 0 := by
  show Go Φ pr_P fN 1 (fM_give g v0 v1 v2) d pr_m172 0 [some (sR v0), some (sI v1), some (sI v2), none] [] g 0 0
  unfold fM_give
  refine go_aload kk172_0.1.1.1.1.1.1 rfl ?_
  refine go_int kk172_0.1.1.1.1.1.2 0 rfl ?_
  refine go_putI (bI := 8) kk172_0.1.1.1.1.2.1 hg hK0 (by decide) rfl rfl (inR_b (Or.inl rfl)) (fun g1 e2 => ?_)
  refine go_aload kk172_0.1.1.1.1.2.2 rfl ?_
  refine go_iload kk172_0.1.1.1.2.1.1 rfl ?_
  refine go_int kk172_0.1.1.1.2.1.2 1 rfl ?_
  refine go_callN3 kk172_0.1.1.1.2.2 rfl rfl rfl ⟨by decide, _, rfl, hK0⟩ ⟨Nat.zero_le _, Nat.zero_le _⟩ (by omega) (tfM_noDuty (by omega) e2 hK0  h1 (inR_b (Or.inr rfl))) (fun y3 g5 r4 e6 => ?_)
  refine go_ifeq kk172_0.1.1.2.1.1.1 (inR_b r4) (fun c7 => ?_) (fun c8 => ?_)
  · refine go_aload kk172_0.1.1.2.1.1.2 rfl ?_
    refine go_iload kk172_0.1.1.2.1.2.1 rfl ?_
    refine go_int kk172_0.1.1.2.1.2.2 0 rfl ?_
    refine go_aload kk172_0.1.1.2.2.1.1 rfl ?_
    refine go_getR (bI := 0) kk172_0.1.1.2.2.1.2 e6 hK0 (by decide) rfl rfl (fun r9 => ?_)
    refine go_int kk172_0.1.1.2.2.2 0 rfl ?_
    refine go_ck (fun q11 => ?_)
    refine go_iald kk172_0.1.2.1.1.1.1 e6 q11 (fun r10 => ?_)
    refine go_int kk172_0.1.2.1.1.1.2 1 rfl ?_
    refine go_isub kk172_0.1.2.1.1.2.1 ?_
    refine go_callP3 kk172_0.1.2.1.1.2.2 rfl rfl rfl trivial ⟨Nat.zero_le _, Nat.zero_le _⟩ (by omega) (tfM_inRange (by omega) e6  h2 (inR_b (Or.inl rfl)) (inR_w32 _)) (fun y12 r13 => ?_)
    refine go_ifeq kk172_0.1.2.1.2.1.1 (inR_b r13) (fun c16 => ?_) (fun c17 => ?_)
    · refine go_int kk172_0.1.2.1.2.1.2 1 rfl ?_
      refine go_goto kk172_0.1.2.1.2.2 ?_
      exact tjM_give_36 hd e6 hK0 h1 h2 (rfR_kd hK0 (by decide)) (Or.inr rfl) none rfl
    · refine go_int kk172_0.1.2.2.1.1.1 0 rfl ?_
      exact tjM_give_36 hd e6 hK0 h1 h2 (rfR_kd hK0 (by decide)) (Or.inl rfl) none rfl
  · refine go_int kk172_0.2.1.2.1.1.2 0 rfl ?_
    exact go_iret kk172_0.2.1.2.1.2.1 e6 (inR_b (Or.inl rfl)) ⟨Nat.zero_le _, Nat.zero_le _⟩ rfl
theorem tbM_lowestBelow_4 {Φ : ev_P} {d : Nat} (hd : 1 ≤ d) {g : gH} (hg : HR g) {v0 v1 : Int} (hK0 : kd v0 = 7) (h1 : InR v1) {X4 : Int → Int → Option Int} (HX4 : ∀ (v2 : Int) (h2 : InR v2) (v3 : Int) (h3 : InR v3), Go Φ pr_P (fP g) 1 (X4 v2 v3) d pr_m173 4 [some (sR v0), some (sI v1), some (sI v2), some (sI v3)] [] g 0 0) : ∀ (v2 : Int) (h2 : InR v2) (v3 : Int) (h3 : InR v3), Go Φ pr_P (fP g) 1 (bM_lowestBelow_4 g v0 v1 X4 v2 v3) d pr_m173 4 [some (sR v0), some (sI v1), some (sI v2), some (sI v3)] [] g 0 0 := by
  intro v2 h2 v3 h3
  unfold bM_lowestBelow_4
  refine go_iload kk173_0.1.1.1.2.2 rfl ?_
  refine go_aload kk173_0.1.1.2.1.1 rfl ?_
  refine go_getR (bI := 0) kk173_0.1.1.2.1.2 hg hK0 (by decide) rfl rfl (fun r1 => ?_)
  refine go_int kk173_0.1.1.2.2.1 0 rfl ?_
  refine go_ck (fun q3 => ?_)
  refine go_iald kk173_0.1.1.2.2.2 hg q3 (fun r2 => ?_)
  refine go_cmlt kk173_0.1.2.1.1.1.1 h3 r2 (fun c4 => ?_) (fun c5 => ?_)
  · refine go_aload kk173_0.1.2.1.1.1.2 rfl ?_
    refine go_iload kk173_0.1.2.1.1.2 rfl ?_
    refine go_callP3 kk173_0.1.2.1.2.1 rfl rfl rfl ⟨by decide, _, rfl, hK0⟩ ⟨Nat.zero_le _, Nat.zero_le _⟩ (by omega) (tfM_runs (by omega) hg hK0  h3) (fun y6 r7 => ?_)
    refine go_ifeq kk173_0.1.2.1.2.2 (inR_b r7) (fun c10 => ?_) (fun c11 => ?_)
    · refine go_iinc kk173_0.2.2.2.1.1 rfl rfl 1 rfl (loc2 := [some (sR v0), some (sI v1), some (sI v2), some (sI (w32 (v3 + 1)))]) rfl ?_
      refine go_goto kk173_0.2.2.2.1.2 ?_
      exact HX4 v2 h2 (w32 (v3 + 1)) (inR_w32 _)
    · refine go_aload kk173_0.1.2.2.1.1 rfl ?_
      refine go_iload kk173_0.1.2.2.1.2 rfl ?_
      refine go_iload kk173_0.1.2.2.2.1 rfl ?_
      refine go_callP3 kk173_0.1.2.2.2.2 rfl rfl rfl ⟨by decide, _, rfl, hK0⟩ ⟨Nat.zero_le _, Nat.zero_le _⟩ (by omega) (tfM_isOver (by omega) hg hK0  h1 h3) (fun y12 r13 => ?_)
      refine go_ifeq kk173_0.2.1.1.1.1.1 (inR_b r13) (fun c16 => ?_) (fun c17 => ?_)
      · refine go_iinc kk173_0.2.2.2.1.1 rfl rfl 1 rfl (loc2 := [some (sR v0), some (sI v1), some (sI v2), some (sI (w32 (v3 + 1)))]) rfl ?_
        refine go_goto kk173_0.2.2.2.1.2 ?_
        exact HX4 v2 h2 (w32 (v3 + 1)) (inR_w32 _)
      · refine go_iload kk173_0.2.1.1.1.1.2 rfl ?_
        refine go_int kk173_0.2.1.1.1.2 (-1) rfl ?_
        refine go_cmeq kk173_0.2.1.1.2.1 h2 (inR_of (by decide)) (fun c18 => ?_) (fun c19 => ?_)
        · refine go_iload kk173_0.2.2.1.2.1 rfl ?_
          refine go_istore kk173_0.2.2.1.2.2 rfl (loc2 := [some (sR v0), some (sI v1), some (sI v3), some (sI v3)]) rfl ?_
          refine go_iinc kk173_0.2.2.2.1.1 rfl rfl 1 rfl (loc2 := [some (sR v0), some (sI v1), some (sI v3), some (sI (w32 (v3 + 1)))]) rfl ?_
          refine go_goto kk173_0.2.2.2.1.2 ?_
          exact HX4 v3 h3 (w32 (v3 + 1)) (inR_w32 _)
        · refine go_aload kk173_0.2.1.1.2.2 rfl ?_
          refine go_iload kk173_0.2.1.2.1.1 rfl ?_
          refine go_callP1 kk173_0.2.1.2.1.2 rfl rfl rfl ⟨by decide, _, rfl, hK0⟩ ⟨Nat.zero_le _, Nat.zero_le _⟩ (by omega) (tfM_deep (by omega) hg hK0  h3) (fun y20 r21 => ?_)
          refine go_aload kk173_0.2.1.2.2.1 rfl ?_
          refine go_iload kk173_0.2.1.2.2.2 rfl ?_
          refine go_callP1 kk173_0.2.2.1.1.1 rfl rfl rfl ⟨by decide, _, rfl, hK0⟩ ⟨Nat.zero_le _, Nat.zero_le _⟩ (by omega) (tfM_deep (by omega) hg hK0  h2) (fun y24 r25 => ?_)
          refine go_cmlt kk173_0.2.2.1.1.2 r21 r25 (fun c28 => ?_) (fun c29 => ?_)
          · refine go_iinc kk173_0.2.2.2.1.1 rfl rfl 1 rfl (loc2 := [some (sR v0), some (sI v1), some (sI v2), some (sI (w32 (v3 + 1)))]) rfl ?_
            refine go_goto kk173_0.2.2.2.1.2 ?_
            exact HX4 v2 h2 (w32 (v3 + 1)) (inR_w32 _)
          · refine go_iload kk173_0.2.2.1.2.1 rfl ?_
            refine go_istore kk173_0.2.2.1.2.2 rfl (loc2 := [some (sR v0), some (sI v1), some (sI v3), some (sI v3)]) rfl ?_
            refine go_iinc kk173_0.2.2.2.1.1 rfl rfl 1 rfl (loc2 := [some (sR v0), some (sI v1), some (sI v3), some (sI (w32 (v3 + 1)))]) rfl ?_
            refine go_goto kk173_0.2.2.2.1.2 ?_
            exact HX4 v3 h3 (w32 (v3 + 1)) (inR_w32 _)
  · refine go_iload kk173_0.2.2.2.2.1 rfl ?_
    exact go_iret kk173_0.2.2.2.2.2 hg h2 ⟨Nat.zero_le _, Nat.zero_le _⟩ rfl
theorem tlM_lowestBelow_4 {Φ : ev_P} {d : Nat} (hd : 1 ≤ d) {g : gH} (hg : HR g) {v0 v1 : Int} (hK0 : kd v0 = 7) (h1 : InR v1) : ∀ n : Nat, ∀ (v2 : Int) (h2 : InR v2) (v3 : Int) (h3 : InR v3), Go Φ pr_P (fP g) 1 (lM_lowestBelow_4 g v0 v1 n v2 v3) d pr_m173 4 [some (sR v0), some (sI v1), some (sI v2), some (sI v3)] [] g 0 0 := by
  intro n
  induction n with
  | zero => intros; exact go_none
  | succ n ih => exact tbM_lowestBelow_4 hd hg hK0 h1 ih
theorem tfM_lowestBelow {Φ : ev_P} {d : Nat} (hd : 1 ≤ d) {g : gH} (hg : HR g) {v0 v1 : Int} (hK0 : kd v0 = 7) (h1 : InR v1) : Go Φ pr_P (fP g) 1 (fM_lowestBelow g v0 v1) d (pr_P 173) 0 (ev_loc (pr_P 173).1 [(sR v0), (sI v1)]) [] g 0 0 := by
  show Go Φ pr_P (fP g) 1 (fM_lowestBelow g v0 v1) d pr_m173 0 [some (sR v0), some (sI v1), none, none] [] g 0 0
  unfold fM_lowestBelow
  refine go_int kk173_0.1.1.1.1.1.1 (-1) rfl ?_
  refine go_istore kk173_0.1.1.1.1.1.2 rfl (loc2 := [some (sR v0), some (sI v1), some (sI (-1)), none]) rfl ?_
  refine go_int kk173_0.1.1.1.1.2 1 rfl ?_
  refine go_istore kk173_0.1.1.1.2.1 rfl (loc2 := [some (sR v0), some (sI v1), some (sI (-1)), some (sI 1)]) rfl ?_
  exact tlM_lowestBelow_4 hd hg hK0 h1 fu (-1) (inR_of (by decide)) 1 (inR_b (Or.inr rfl))
theorem tbM_prune_68 {Φ : ev_P} {d : Nat} (hd : 8 ≤ d) {v0 v1 v2 : Int} (hK0 : kd v0 = 7) (h1 : InR v1) (h2 : InR v2) {X68 : Int → Int → gH → Option (Int × gH)} (HX68 : ∀ (v3 : Int) (h3 : InR v3) (v4 : Int) (h4 : InR v4) (g : gH) (hg : HR g) (u5 : Option ev_V) (w5 : nwo u5), Go Φ pr_P fN 1 (X68 v3 v4 g) d pr_m174 68 [some (sR v0), some (sI v1), some (sI v2), some (sI v3), some (sI v4), u5] [] g 0 0) : ∀ (v3 : Int) (h3 : InR v3) (v4 : Int) (h4 : InR v4) (g : gH) (hg : HR g) (u5 : Option ev_V) (w5 : nwo u5), Go Φ pr_P fN 1 (bM_prune_68 v0 v1 v2 X68 v3 v4 g) d pr_m174 68 [some (sR v0), some (sI v1), some (sI v2), some (sI v3), some (sI v4), u5] [] g 0 0 := by
  intro v3 h3 v4 h4 g hg u5 w5
  unfold bM_prune_68
  refine go_iload kk174_0.2.1.1.2.2.2 rfl ?_
  refine go_int kk174_0.2.1.2.1.1.1 (-1) rfl ?_
  refine go_cmeq kk174_0.2.1.2.1.1.2 h4 (inR_of (by decide)) (fun c41 => ?_) (fun c42 => ?_)
  · refine go_iload kk174_0.2.2.2.2.1.2 rfl ?_
    exact go_iret kk174_0.2.2.2.2.2 hg h3 ⟨Nat.zero_le _, Nat.zero_le _⟩ rfl
  · refine go_aload kk174_0.2.1.2.1.2.1 rfl ?_
    refine go_iload kk174_0.2.1.2.1.2.2 rfl ?_
    refine go_iload kk174_0.2.1.2.2.1.1 rfl ?_
    refine go_callN1 kk174_0.2.1.2.2.1.2 rfl rfl rfl ⟨by decide, _, rfl, hK0⟩ ⟨Nat.zero_le _, Nat.zero_le _⟩ (by omega) (tfM_exits (by omega) hg hK0  h4 h2) (fun y43 g45 r44 e46 => ?_)
    refine go_istore kk174_0.2.1.2.2.2 rfl (loc2 := [some (sR v0), some (sI v1), some (sI v2), some (sI v3), some (sI v4), some (sI y43)]) rfl ?_
    refine go_iload kk174_0.2.2.1.1.1.1 rfl ?_
    refine go_iload kk174_0.2.2.1.1.1.2 rfl ?_
    refine go_iflt kk174_0.2.2.1.1.2.1 r44 (fun c47 => ?_) (fun c48 => ?_)
    · refine go_int kk174_0.2.2.1.1.2.2 0 rfl ?_
      refine go_goto kk174_0.2.2.1.2.1.1 ?_
      refine go_iadd kk174_0.2.2.1.2.2.1 ?_
      refine go_istore kk174_0.2.2.1.2.2.2 rfl (loc2 := [some (sR v0), some (sI v1), some (sI v2), some (sI (w32 (v3 + 0))), some (sI v4), some (sI y43)]) rfl ?_
      refine go_aload kk174_0.2.2.2.1.1.1 rfl ?_
      refine go_iload kk174_0.2.2.2.1.1.2 rfl ?_
      refine go_callP1 kk174_0.2.2.2.1.2.1 rfl rfl rfl ⟨by decide, _, rfl, hK0⟩ ⟨Nat.zero_le _, Nat.zero_le _⟩ (by omega) (tfM_lowestBelow (by omega) e46 hK0  h1) (fun y49 r50 => ?_)
      refine go_istore kk174_0.2.2.2.1.2.2 rfl (loc2 := [some (sR v0), some (sI v1), some (sI v2), some (sI (w32 (v3 + 0))), some (sI y49), some (sI y43)]) rfl ?_
      refine go_goto kk174_0.2.2.2.2.1.1 ?_
      exact HX68 (w32 (v3 + 0)) (inR_w32 _) y49 r50 g45 e46 (some (sI y43)) rfl
    · refine go_int kk174_0.2.2.1.2.1.2 1 rfl ?_
      refine go_iadd kk174_0.2.2.1.2.2.1 ?_
      refine go_istore kk174_0.2.2.1.2.2.2 rfl (loc2 := [some (sR v0), some (sI v1), some (sI v2), some (sI (w32 (v3 + 1))), some (sI v4), some (sI y43)]) rfl ?_
      refine go_aload kk174_0.2.2.2.1.1.1 rfl ?_
      refine go_iload kk174_0.2.2.2.1.1.2 rfl ?_
      refine go_callP1 kk174_0.2.2.2.1.2.1 rfl rfl rfl ⟨by decide, _, rfl, hK0⟩ ⟨Nat.zero_le _, Nat.zero_le _⟩ (by omega) (tfM_lowestBelow (by omega) e46 hK0  h1) (fun y53 r54 => ?_)
      refine go_istore kk174_0.2.2.2.1.2.2 rfl (loc2 := [some (sR v0), some (sI v1), some (sI v2), some (sI (w32 (v3 + 1))), some (sI y53), some (sI y43)]) rfl ?_
      refine go_goto kk174_0.2.2.2.2.1.1 ?_
      exact HX68 (w32 (v3 + 1)) (inR_w32 _) y53 r54 g45 e46 (some (sI y43)) rfl
theorem tlM_prune_68 {Φ : ev_P} {d : Nat} (hd : 8 ≤ d) {v0 v1 v2 : Int} (hK0 : kd v0 = 7) (h1 : InR v1) (h2 : InR v2) : ∀ n : Nat, ∀ (v3 : Int) (h3 : InR v3) (v4 : Int) (h4 : InR v4) (g : gH) (hg : HR g) (u5 : Option ev_V) (w5 : nwo u5), Go Φ pr_P fN 1 (lM_prune_68 v0 v1 v2 n v3 v4 g) d pr_m174 68 [some (sR v0), some (sI v1), some (sI v2), some (sI v3), some (sI v4), u5] [] g 0 0 := by
  intro n
  induction n with
  | zero => intros; exact go_none
  | succ n ih => exact tbM_prune_68 hd hK0 h1 h2 ih
theorem tjM_prune_46 {Φ : ev_P} {d : Nat} (hd : 8 ≤ d) {g : gH} (hg : HR g) {v0 v1 v2 : Int} (hK0 : kd v0 = 7) (h1 : InR v1) (h2 : InR v2) {s0 s1 : Int} (z0 : RfR s0) (z1 : B01 s1) (u3 : Option ev_V) (w3 : nwo u3) (u4 : Option ev_V) (w4 : nwo u4) (u5 : Option ev_V) (w5 : nwo u5) : Go Φ pr_P fN 1 (jM_prune_46 g v0 v1 v2 s0 s1 ) d pr_m174 46 [some (sR v0), some (sI v1), some (sI v2), u3, u4, u5] [(sI s1), (sR s0)] g 0 0 := by
  unfold jM_prune_46
  refine go_int kk174_0.1.2.2.1.1.2 3 rfl ?_
  refine go_ck (fun q26 => ?_)
  refine go_callN3 kk174_0.1.2.2.1.2.1 rfl rfl rfl ⟨by decide, _, rfl, q26⟩ ⟨Nat.zero_le _, Nat.zero_le _⟩ (by omega) (tfM_fails (by omega) hg q26  z1 (inR_of (by decide))) (fun y27 g29 r28 e30 => ?_)
  refine go_ifeq kk174_0.1.2.2.1.2.2 (inR_b r28) (fun c31 => ?_) (fun c32 => ?_)
  · refine go_aload kk174_0.1.2.2.2.2 rfl ?_
    refine go_callN0 kk174_0.2.1.1.1.1.1 rfl rfl rfl ⟨by decide, _, rfl, hK0⟩ ⟨Nat.zero_le _, Nat.zero_le _⟩ (by omega) (tfM_remembers (by omega) e30 hK0 ) (fun y33 g35 e36 => ?_)
    refine go_int kk174_0.2.1.1.1.1.2 0 rfl ?_
    refine go_istore kk174_0.2.1.1.1.2.1 rfl (loc2 := [some (sR v0), some (sI v1), some (sI v2), some (sI 0), u4, u5]) rfl ?_
    refine go_aload kk174_0.2.1.1.1.2.2 rfl ?_
    refine go_iload kk174_0.2.1.1.2.1.1 rfl ?_
    refine go_callP1 kk174_0.2.1.1.2.1.2 rfl rfl rfl ⟨by decide, _, rfl, hK0⟩ ⟨Nat.zero_le _, Nat.zero_le _⟩ (by omega) (tfM_lowestBelow (by omega) e36 hK0  h1) (fun y37 r38 => ?_)
    refine go_istore kk174_0.2.1.1.2.2.1 rfl (loc2 := [some (sR v0), some (sI v1), some (sI v2), some (sI 0), some (sI y37), u5]) rfl ?_
    exact tlM_prune_68 hd hK0 h1 h2 fu 0 (inR_b (Or.inl rfl)) y37 r38 g35 e36 u5 w5
  · refine go_int kk174_0.1.2.2.2.1.1 0 rfl ?_
    exact go_iret kk174_0.1.2.2.2.1.2 e30 (inR_b (Or.inl rfl)) ⟨Nat.zero_le _, Nat.zero_le _⟩ rfl
theorem tjM_prune_25 {Φ : ev_P} {d : Nat} (hd : 8 ≤ d) {g : gH} (hg : HR g) {v0 v1 v2 : Int} (hK0 : kd v0 = 7) (h1 : InR v1) (h2 : InR v2) {s0 s1 : Int} (z0 : RfR s0) (z1 : B01 s1) (u3 : Option ev_V) (w3 : nwo u3) (u4 : Option ev_V) (w4 : nwo u4) (u5 : Option ev_V) (w5 : nwo u5) : Go Φ pr_P fN 1 (jM_prune_25 g v0 v1 v2 s0 s1 ) d pr_m174 25 [some (sR v0), some (sI v1), some (sI v2), u3, u4, u5] [(sI s1), (sR s0)] g 0 0 := by
  unfold jM_prune_25
  refine go_int kk174_0.1.1.2.2.1.2 2 rfl ?_
  refine go_ck (fun q13 => ?_)
  refine go_callN3 kk174_0.1.1.2.2.2 rfl rfl rfl ⟨by decide, _, rfl, q13⟩ ⟨Nat.zero_le _, Nat.zero_le _⟩ (by omega) (tfM_fails (by omega) hg q13  z1 (inR_of (by decide))) (fun y14 g16 r15 e17 => ?_)
  refine go_ifeq kk174_0.1.2.1.1.1.1 (inR_b r15) (fun c18 => ?_) (fun c19 => ?_)
  · refine go_aload kk174_0.1.2.1.1.1.2 rfl ?_
    refine go_aload kk174_0.1.2.1.1.2.1 rfl ?_
    refine go_iload kk174_0.1.2.1.1.2.2 rfl ?_
    refine go_callP3 kk174_0.1.2.1.2.1.1 rfl rfl rfl ⟨by decide, _, rfl, hK0⟩ ⟨Nat.zero_le _, Nat.zero_le _⟩ (by omega) (tfM_runs (by omega) e17 hK0  h1) (fun y20 r21 => ?_)
    refine go_ifeq kk174_0.1.2.1.2.1.2 (inR_b r21) (fun c24 => ?_) (fun c25 => ?_)
    · refine go_int kk174_0.1.2.1.2.2.1 1 rfl ?_
      refine go_goto kk174_0.1.2.1.2.2.2 ?_
      exact tjM_prune_46 hd e17 hK0 h1 h2 (rfR_kd hK0 (by decide)) (Or.inr rfl) u3 w3 u4 w4 u5 w5
    · refine go_int kk174_0.1.2.2.1.1.1 0 rfl ?_
      exact tjM_prune_46 hd e17 hK0 h1 h2 (rfR_kd hK0 (by decide)) (Or.inl rfl) u3 w3 u4 w4 u5 w5
  · refine go_int kk174_0.1.2.2.2.1.1 0 rfl ?_
    exact go_iret kk174_0.1.2.2.2.1.2 e17 (inR_b (Or.inl rfl)) ⟨Nat.zero_le _, Nat.zero_le _⟩ rfl
theorem tfM_prune {Φ : ev_P} {d : Nat} (hd : 8 ≤ d) {g : gH} (hg : HR g) {v0 v1 v2 : Int} (hK0 : kd v0 = 7) (h1 : InR v1) (h2 : InR v2) : Go Φ pr_P fN 1 (fM_prune g v0 v1 v2) d (pr_P 174) 0 (ev_loc (pr_P 174).1 [(sR v0), (sI v1), (sI v2)]) [] g 0 0 := by
  show Go Φ pr_P fN 1 (fM_prune g v0 v1 v2) d pr_m174 0 [some (sR v0), some (sI v1), some (sI v2), none, none, none] [] g 0 0
  unfold fM_prune
  refine go_aload kk174_0.1.1.1.1.1.1 rfl ?_
  refine go_iload kk174_0.1.1.1.1.1.2 rfl ?_
  refine go_callN3 kk174_0.1.1.1.1.2.1 rfl rfl rfl ⟨by decide, _, rfl, hK0⟩ ⟨Nat.zero_le _, Nat.zero_le _⟩ (by omega) (tfM_noProcess (by omega) hg hK0  h1) (fun y1 g3 r2 e4 => ?_)
  refine go_ifeq kk174_0.1.1.1.1.2.2 (inR_b r2) (fun c5 => ?_) (fun c6 => ?_)
  · refine go_aload kk174_0.1.1.1.2.1.1 rfl ?_
    refine go_iload kk174_0.1.1.1.2.1.2 rfl ?_
    refine go_int kk174_0.1.1.1.2.2.1 0 rfl ?_
    refine go_int kk174_0.1.1.1.2.2.2 255 rfl ?_
    refine go_callP3 kk174_0.1.1.2.1.1.1 rfl rfl rfl trivial ⟨Nat.zero_le _, Nat.zero_le _⟩ (by omega) (tfM_inRange (by omega) e4  h2 (inR_b (Or.inl rfl)) (inR_of (by decide))) (fun y7 r8 => ?_)
    refine go_ifeq kk174_0.1.1.2.1.1.2 (inR_b r8) (fun c11 => ?_) (fun c12 => ?_)
    · refine go_int kk174_0.1.1.2.1.2.1 1 rfl ?_
      refine go_goto kk174_0.1.1.2.1.2.2 ?_
      exact tjM_prune_25 hd e4 hK0 h1 h2 (rfR_kd hK0 (by decide)) (Or.inr rfl) none rfl none rfl none rfl
    · refine go_int kk174_0.1.1.2.2.1.1 0 rfl ?_
      exact tjM_prune_25 hd e4 hK0 h1 h2 (rfR_kd hK0 (by decide)) (Or.inl rfl) none rfl none rfl none rfl
  · refine go_int kk174_0.1.2.2.2.1.1 0 rfl ?_
    exact go_iret kk174_0.1.2.2.2.1.2 e4 (inR_b (Or.inl rfl)) ⟨Nat.zero_le _, Nat.zero_le _⟩ rfl
theorem tbM_exchange_169 {Φ : ev_P} {d : Nat} (hd : 2 ≤ d) {g : gH} (hg : HR g) {v0 : Int} (hK0 : kd v0 = 7) {X169 : Int → Int → Option (Int × gH)} (HX169 : ∀ (v4 : Int) (h4 : InR v4) (v5 : Int) (h5 : InR v5) (u1 : Option ev_V) (w1 : nwo u1) (u2 : Option ev_V) (w2 : nwo u2) (u3 : Option ev_V) (w3 : nwo u3), Go Φ pr_P fN 1 (X169 v4 v5) d pr_m175 169 [some (sR v0), u1, u2, u3, some (sI v4), some (sI v5)] [] g 0 0) : ∀ (v4 : Int) (h4 : InR v4) (v5 : Int) (h5 : InR v5) (u1 : Option ev_V) (w1 : nwo u1) (u2 : Option ev_V) (w2 : nwo u2) (u3 : Option ev_V) (w3 : nwo u3), Go Φ pr_P fN 1 (bM_exchange_169 g v0 X169 v4 v5) d pr_m175 169 [some (sR v0), u1, u2, u3, some (sI v4), some (sI v5)] [] g 0 0 := by
  intro v4 h4 v5 h5 u1 w1 u2 w2 u3 w3
  unfold bM_exchange_169
  refine go_iload kk175_1.2.1.1.2.1.1 rfl ?_
  refine go_aload kk175_1.2.1.1.2.1.2 rfl ?_
  refine go_getR (bI := 0) kk175_1.2.1.1.2.2.1 hg hK0 (by decide) rfl rfl (fun r90 => ?_)
  refine go_int kk175_1.2.1.1.2.2.2 0 rfl ?_
  refine go_ck (fun q92 => ?_)
  refine go_iald kk175_1.2.1.2.1.1.1 hg q92 (fun r91 => ?_)
  refine go_cmlt kk175_1.2.1.2.1.1.2 h5 r91 (fun c93 => ?_) (fun c94 => ?_)
  · refine go_iload kk175_1.2.1.2.1.2.1 rfl ?_
    refine go_aload kk175_1.2.1.2.1.2.2 rfl ?_
    refine go_iload kk175_1.2.1.2.2.1.1 rfl ?_
    refine go_callP3 kk175_1.2.1.2.2.1.2 rfl rfl rfl ⟨by decide, _, rfl, hK0⟩ ⟨Nat.zero_le _, Nat.zero_le _⟩ (by omega) (tfM_runs (by omega) hg hK0  h5) (fun y95 r96 => ?_)
    refine go_ifeq kk175_1.2.1.2.2.2.1 (inR_b r96) (fun c99 => ?_) (fun c100 => ?_)
    · refine go_int kk175_1.2.2.2.1.1.2 0 rfl ?_
      refine go_iadd kk175_1.2.2.2.1.2.1 ?_
      refine go_istore kk175_1.2.2.2.1.2.2 w3 (loc2 := [some (sR v0), u1, u2, u3, some (sI (w32 (v4 + 0))), some (sI v5)]) rfl ?_
      refine go_iinc kk175_1.2.2.2.2.1.1 rfl rfl 1 rfl (loc2 := [some (sR v0), u1, u2, u3, some (sI (w32 (v4 + 0))), some (sI (w32 (v5 + 1)))]) rfl ?_
      refine go_goto kk175_1.2.2.2.2.1.2 ?_
      exact HX169 (w32 (v4 + 0)) (inR_w32 _) (w32 (v5 + 1)) (inR_w32 _) u1 w1 u2 w2 u3 w3
    · refine go_aload kk175_1.2.1.2.2.2.2 rfl ?_
      refine go_iload kk175_1.2.2.1.1.1.1 rfl ?_
      refine go_callP1 kk175_1.2.2.1.1.1.2 rfl rfl rfl ⟨by decide, _, rfl, hK0⟩ ⟨Nat.zero_le _, Nat.zero_le _⟩ (by omega) (tfM_deep (by omega) hg hK0  h5) (fun y101 r102 => ?_)
      refine go_aload kk175_1.2.2.1.1.2.1 rfl ?_
      refine go_getR (bI := 21) kk175_1.2.2.1.1.2.2 hg hK0 (by decide) rfl rfl (fun r105 => ?_)
      refine go_iload kk175_1.2.2.1.2.1.1 rfl ?_
      refine go_ck (fun q107 => ?_)
      refine go_iald kk175_1.2.2.1.2.1.2 hg q107 (fun r106 => ?_)
      refine go_cmeq kk175_1.2.2.1.2.2.1 r102 r106 (fun c108 => ?_) (fun c109 => ?_)
      · refine go_int kk175_1.2.2.2.1.1.2 0 rfl ?_
        refine go_iadd kk175_1.2.2.2.1.2.1 ?_
        refine go_istore kk175_1.2.2.2.1.2.2 w3 (loc2 := [some (sR v0), u1, u2, u3, some (sI (w32 (v4 + 0))), some (sI v5)]) rfl ?_
        refine go_iinc kk175_1.2.2.2.2.1.1 rfl rfl 1 rfl (loc2 := [some (sR v0), u1, u2, u3, some (sI (w32 (v4 + 0))), some (sI (w32 (v5 + 1)))]) rfl ?_
        refine go_goto kk175_1.2.2.2.2.1.2 ?_
        exact HX169 (w32 (v4 + 0)) (inR_w32 _) (w32 (v5 + 1)) (inR_w32 _) u1 w1 u2 w2 u3 w3
      · refine go_int kk175_1.2.2.1.2.2.2 1 rfl ?_
        refine go_goto kk175_1.2.2.2.1.1.1 ?_
        refine go_iadd kk175_1.2.2.2.1.2.1 ?_
        refine go_istore kk175_1.2.2.2.1.2.2 w3 (loc2 := [some (sR v0), u1, u2, u3, some (sI (w32 (v4 + 1))), some (sI v5)]) rfl ?_
        refine go_iinc kk175_1.2.2.2.2.1.1 rfl rfl 1 rfl (loc2 := [some (sR v0), u1, u2, u3, some (sI (w32 (v4 + 1))), some (sI (w32 (v5 + 1)))]) rfl ?_
        refine go_goto kk175_1.2.2.2.2.1.2 ?_
        exact HX169 (w32 (v4 + 1)) (inR_w32 _) (w32 (v5 + 1)) (inR_w32 _) u1 w1 u2 w2 u3 w3
  · refine go_iload kk175_1.2.2.2.2.2.1 rfl ?_
    exact go_iret kk175_1.2.2.2.2.2.2 hg h4 ⟨Nat.zero_le _, Nat.zero_le _⟩ rfl
theorem tlM_exchange_169 {Φ : ev_P} {d : Nat} (hd : 2 ≤ d) {g : gH} (hg : HR g) {v0 : Int} (hK0 : kd v0 = 7) : ∀ n : Nat, ∀ (v4 : Int) (h4 : InR v4) (v5 : Int) (h5 : InR v5) (u1 : Option ev_V) (w1 : nwo u1) (u2 : Option ev_V) (w2 : nwo u2) (u3 : Option ev_V) (w3 : nwo u3), Go Φ pr_P fN 1 (lM_exchange_169 g v0 n v4 v5) d pr_m175 169 [some (sR v0), u1, u2, u3, some (sI v4), some (sI v5)] [] g 0 0 := by
  intro n
  induction n with
  | zero => intros; exact go_none
  | succ n ih => exact tbM_exchange_169 hd hg hK0 ih
theorem tjM_exchange_125 {Φ : ev_P} {d : Nat} (hd : 2 ≤ d) {g : gH} (hg : HR g) {v0 v1 v2 : Int} (hK0 : kd v0 = 7) (h1 : InR v1) (h2 : InR v2) (u3 : Option ev_V) (w3 : nwo u3) (u4 : Option ev_V) (w4 : nwo u4) (u5 : Option ev_V) (w5 : nwo u5) : Go Φ pr_P fN 1 (jM_exchange_125 g v0 v1 v2 ) d pr_m175 125 [some (sR v0), some (sI v1), some (sI v2), u3, u4, u5] [] g 0 0 := by
  unfold jM_exchange_125
  refine go_aload kk175_1.1.1.1.2.2.1 rfl ?_
  refine go_getR (bI := 0) kk175_1.1.1.1.2.2.2 hg hK0 (by decide) rfl rfl (fun r76 => ?_)
  refine go_int kk175_1.1.1.2.1.1.1 60 rfl ?_
  refine go_iload kk175_1.1.1.2.1.1.2 rfl ?_
  refine go_iadd kk175_1.1.1.2.1.2.1 ?_
  refine go_ck (fun q78 => ?_)
  refine go_iald kk175_1.1.1.2.1.2.2 hg q78 (fun r77 => ?_)
  refine go_istore kk175_1.1.1.2.2.1.1 rfl (loc2 := [some (sR v0), some (sI v1), some (sI v2), some (sI (g (g v0 0) (w32 (60 + v1)))), u4, u5]) rfl ?_
  refine go_aload kk175_1.1.1.2.2.1.2 rfl ?_
  refine go_getR (bI := 0) kk175_1.1.1.2.2.2.1 hg hK0 (by decide) rfl rfl (fun r79 => ?_)
  refine go_int kk175_1.1.1.2.2.2.2 60 rfl ?_
  refine go_iload kk175_1.1.2.1.1.1.1 rfl ?_
  refine go_iadd kk175_1.1.2.1.1.1.2 ?_
  refine go_aload kk175_1.1.2.1.1.2.1 rfl ?_
  refine go_getR (bI := 0) kk175_1.1.2.1.1.2.2 hg hK0 (by decide) rfl rfl (fun r80 => ?_)
  refine go_int kk175_1.1.2.1.2.1.1 60 rfl ?_
  refine go_iload kk175_1.1.2.1.2.1.2 rfl ?_
  refine go_iadd kk175_1.1.2.1.2.2.1 ?_
  refine go_ck (fun q82 => ?_)
  refine go_iald kk175_1.1.2.1.2.2.2 hg q82 (fun r81 => ?_)
  refine go_ck (fun q83 => ?_)
  refine go_iast kk175_1.1.2.2.1.1.1 hg q83 r81 (fun g84 e85 => ?_)
  refine go_aload kk175_1.1.2.2.1.1.2 rfl ?_
  refine go_getR (bI := 0) kk175_1.1.2.2.1.2.1 e85 hK0 (by decide) rfl rfl (fun r86 => ?_)
  refine go_int kk175_1.1.2.2.1.2.2 60 rfl ?_
  refine go_iload kk175_1.1.2.2.2.1.1 rfl ?_
  refine go_iadd kk175_1.1.2.2.2.1.2 ?_
  refine go_iload kk175_1.1.2.2.2.2.1 rfl ?_
  refine go_ck (fun q87 => ?_)
  refine go_iast kk175_1.1.2.2.2.2.2 e85 q87 r77 (fun g88 e89 => ?_)
  refine go_int kk175_1.2.1.1.1.1.1 0 rfl ?_
  refine go_istore kk175_1.2.1.1.1.1.2 rfl (loc2 := [some (sR v0), some (sI v1), some (sI v2), some (sI (g (g v0 0) (w32 (60 + v1)))), some (sI 0), u5]) rfl ?_
  refine go_int kk175_1.2.1.1.1.2.1 0 rfl ?_
  refine go_istore kk175_1.2.1.1.1.2.2 rfl (loc2 := [some (sR v0), some (sI v1), some (sI v2), some (sI (g (g v0 0) (w32 (60 + v1)))), some (sI 0), some (sI 0)]) rfl ?_
  exact tlM_exchange_169 hd e89 hK0 fu 0 (inR_b (Or.inl rfl)) 0 (inR_b (Or.inl rfl)) (some (sI v1)) rfl (some (sI v2)) rfl (some (sI (g (g v0 0) (w32 (60 + v1))))) rfl
theorem tbM_exchange_86 {Φ : ev_P} {d : Nat} (hd : 2 ≤ d) {v0 v1 v2 : Int} (hK0 : kd v0 = 7) (h1 : InR v1) (h2 : InR v2) {X86 : Int → gH → Option (Int × gH)} (HX86 : ∀ (v3 : Int) (h3 : InR v3) (g : gH) (hg : HR g) (u4 : Option ev_V) (w4 : nwo u4) (u5 : Option ev_V) (w5 : nwo u5), Go Φ pr_P fN 1 (X86 v3 g) d pr_m175 86 [some (sR v0), some (sI v1), some (sI v2), some (sI v3), u4, u5] [] g 0 0) : ∀ (v3 : Int) (h3 : InR v3) (g : gH) (hg : HR g) (u4 : Option ev_V) (w4 : nwo u4) (u5 : Option ev_V) (w5 : nwo u5), Go Φ pr_P fN 1 (bM_exchange_86 v0 v1 v2 X86 v3 g) d pr_m175 86 [some (sR v0), some (sI v1), some (sI v2), some (sI v3), u4, u5] [] g 0 0 := by
  intro v3 h3 g hg u4 w4 u5 w5
  unfold bM_exchange_86
  refine go_iload kk175_0.2.2.1.1.1.1 rfl ?_
  refine go_aload kk175_0.2.2.1.1.1.2 rfl ?_
  refine go_getR (bI := 0) kk175_0.2.2.1.1.2.1 hg hK0 (by decide) rfl rfl (fun r54 => ?_)
  refine go_int kk175_0.2.2.1.1.2.2 0 rfl ?_
  refine go_ck (fun q56 => ?_)
  refine go_iald kk175_0.2.2.1.2.1.1 hg q56 (fun r55 => ?_)
  refine go_cmlt kk175_0.2.2.1.2.1.2 h3 r55 (fun c57 => ?_) (fun c58 => ?_)
  · refine go_aload kk175_0.2.2.1.2.2.1 rfl ?_
    refine go_getR (bI := 21) kk175_0.2.2.1.2.2.2 hg hK0 (by decide) rfl rfl (fun r59 => ?_)
    refine go_iload kk175_0.2.2.2.1.1.1 rfl ?_
    refine go_aload kk175_0.2.2.2.1.1.2 rfl ?_
    refine go_iload kk175_0.2.2.2.1.2.1 rfl ?_
    refine go_callP3 kk175_0.2.2.2.1.2.2 rfl rfl rfl ⟨by decide, _, rfl, hK0⟩ ⟨Nat.zero_le _, Nat.zero_le _⟩ (by omega) (tfM_runs (by omega) hg hK0  h3) (fun y60 r61 => ?_)
    refine go_ifeq kk175_0.2.2.2.2.1.1 (inR_b r61) (fun c64 => ?_) (fun c65 => ?_)
    · refine go_int kk175_1.1.1.1.1.2.1 (-1) rfl ?_
      refine go_ck (fun q66 => ?_)
      refine go_iast kk175_1.1.1.1.1.2.2 hg q66 (inR_of (by decide)) (fun g67 e68 => ?_)
      refine go_iinc kk175_1.1.1.1.2.1.1 rfl rfl 1 rfl (loc2 := [some (sR v0), some (sI v1), some (sI v2), some (sI (w32 (v3 + 1))), u4, u5]) rfl ?_
      refine go_goto kk175_1.1.1.1.2.1.2 ?_
      exact HX86 (w32 (v3 + 1)) (inR_w32 _) g67 e68 u4 w4 u5 w5
    · refine go_aload kk175_0.2.2.2.2.1.2 rfl ?_
      refine go_iload kk175_0.2.2.2.2.2 rfl ?_
      refine go_callP1 kk175_1.1.1.1.1.1.1 rfl rfl rfl ⟨by decide, _, rfl, hK0⟩ ⟨Nat.zero_le _, Nat.zero_le _⟩ (by omega) (tfM_deep (by omega) hg hK0  h3) (fun y69 r70 => ?_)
      refine go_goto kk175_1.1.1.1.1.1.2 ?_
      refine go_ck (fun q73 => ?_)
      refine go_iast kk175_1.1.1.1.1.2.2 hg q73 r70 (fun g74 e75 => ?_)
      refine go_iinc kk175_1.1.1.1.2.1.1 rfl rfl 1 rfl (loc2 := [some (sR v0), some (sI v1), some (sI v2), some (sI (w32 (v3 + 1))), u4, u5]) rfl ?_
      refine go_goto kk175_1.1.1.1.2.1.2 ?_
      exact HX86 (w32 (v3 + 1)) (inR_w32 _) g74 e75 u4 w4 u5 w5
  · exact tjM_exchange_125 hd hg hK0 h1 h2 (some (sI v3)) rfl u4 w4 u5 w5
theorem tlM_exchange_86 {Φ : ev_P} {d : Nat} (hd : 2 ≤ d) {v0 v1 v2 : Int} (hK0 : kd v0 = 7) (h1 : InR v1) (h2 : InR v2) : ∀ n : Nat, ∀ (v3 : Int) (h3 : InR v3) (g : gH) (hg : HR g) (u4 : Option ev_V) (w4 : nwo u4) (u5 : Option ev_V) (w5 : nwo u5), Go Φ pr_P fN 1 (lM_exchange_86 v0 v1 v2 n v3 g) d pr_m175 86 [some (sR v0), some (sI v1), some (sI v2), some (sI v3), u4, u5] [] g 0 0 := by
  intro n
  induction n with
  | zero => intros; exact go_none
  | succ n ih => exact tbM_exchange_86 hd hK0 h1 h2 ih
theorem tjM_exchange_71 {Φ : ev_P} {d : Nat} (hd : 2 ≤ d) {g : gH} (hg : HR g) {v0 v1 v2 : Int} (hK0 : kd v0 = 7) (h1 : InR v1) (h2 : InR v2) {s0 s1 : Int} (z0 : RfR s0) (z1 : B01 s1) (u3 : Option ev_V) (w3 : nwo u3) (u4 : Option ev_V) (w4 : nwo u4) (u5 : Option ev_V) (w5 : nwo u5) : Go Φ pr_P fN 1 (jM_exchange_71 g v0 v1 v2 s0 s1 ) d pr_m175 71 [some (sR v0), some (sI v1), some (sI v2), u3, u4, u5] [(sI s1), (sR s0)] g 0 0 := by
  unfold jM_exchange_71
  refine go_int kk175_0.2.1.1.2.2.2 2 rfl ?_
  refine go_ck (fun q43 => ?_)
  refine go_callN3 kk175_0.2.1.2.1.1.1 rfl rfl rfl ⟨by decide, _, rfl, q43⟩ ⟨Nat.zero_le _, Nat.zero_le _⟩ (by omega) (tfM_fails (by omega) hg q43  z1 (inR_of (by decide))) (fun y44 g46 r45 e47 => ?_)
  refine go_ifeq kk175_0.2.1.2.1.1.2 (inR_b r45) (fun c48 => ?_) (fun c49 => ?_)
  · refine go_aload kk175_0.2.1.2.2.1.1 rfl ?_
    refine go_callN0 kk175_0.2.1.2.2.1.2 rfl rfl rfl ⟨by decide, _, rfl, hK0⟩ ⟨Nat.zero_le _, Nat.zero_le _⟩ (by omega) (tfM_remembers (by omega) e47 hK0 ) (fun y50 g52 e53 => ?_)
    refine go_int kk175_0.2.1.2.2.2.1 0 rfl ?_
    refine go_istore kk175_0.2.1.2.2.2.2 rfl (loc2 := [some (sR v0), some (sI v1), some (sI v2), some (sI 0), u4, u5]) rfl ?_
    exact tlM_exchange_86 hd hK0 h1 h2 fu 0 (inR_b (Or.inl rfl)) g52 e53 u4 w4 u5 w5
  · refine go_int kk175_0.2.1.2.1.2.1 0 rfl ?_
    exact go_iret kk175_0.2.1.2.1.2.2 e47 (inR_b (Or.inl rfl)) ⟨Nat.zero_le _, Nat.zero_le _⟩ rfl
theorem tjM_exchange_66 {Φ : ev_P} {d : Nat} (hd : 2 ≤ d) {g : gH} (hg : HR g) {v0 v1 v2 : Int} (hK0 : kd v0 = 7) (h1 : InR v1) (h2 : InR v2) {s0 : Int} (z0 : RfR s0) (u3 : Option ev_V) (w3 : nwo u3) (u4 : Option ev_V) (w4 : nwo u4) (u5 : Option ev_V) (w5 : nwo u5) : Go Φ pr_P fN 1 (jM_exchange_66 g v0 v1 v2 s0 ) d pr_m175 66 [some (sR v0), some (sI v1), some (sI v2), u3, u4, u5] [(sR s0)] g 0 0 := by
  unfold jM_exchange_66
  refine go_int kk175_0.2.1.1.2.1.1 1 rfl ?_
  refine go_goto kk175_0.2.1.1.2.1.2 ?_
  exact tjM_exchange_71 hd hg hK0 h1 h2 z0 (Or.inr rfl) u3 w3 u4 w4 u5 w5
theorem tfM_exchange {Φ : ev_P} {d : Nat} (hd : 2 ≤ d) {g : gH} (hg : HR g) {v0 v1 v2 : Int} (hK0 : kd v0 = 7) (h1 : InR v1) (h2 : InR v2) : Go Φ pr_P fN 1 (fM_exchange g v0 v1 v2) d (pr_P 175) 0 (ev_loc (pr_P 175).1 [(sR v0), (sI v1), (sI v2)]) [] g 0 0 := by
  show Go Φ pr_P fN 1 (fM_exchange g v0 v1 v2) d pr_m175 0 [some (sR v0), some (sI v1), some (sI v2), none, none, none] [] g 0 0
  unfold fM_exchange
  refine go_aload kk175_0.1.1.1.1.1.1 rfl ?_
  refine go_iload kk175_0.1.1.1.1.1.2 rfl ?_
  refine go_callN3 kk175_0.1.1.1.1.2.1 rfl rfl rfl ⟨by decide, _, rfl, hK0⟩ ⟨Nat.zero_le _, Nat.zero_le _⟩ (by omega) (tfM_noProcess (by omega) hg hK0  h1) (fun y1 g3 r2 e4 => ?_)
  refine go_ifeq kk175_0.1.1.1.1.2.2 (inR_b r2) (fun c5 => ?_) (fun c6 => ?_)
  · refine go_aload kk175_0.1.1.1.2.1.1 rfl ?_
    refine go_iload kk175_0.1.1.1.2.1.2 rfl ?_
    refine go_callN3 kk175_0.1.1.1.2.2.1 rfl rfl rfl ⟨by decide, _, rfl, hK0⟩ ⟨Nat.zero_le _, Nat.zero_le _⟩ (by omega) (tfM_noProcess (by omega) e4 hK0  h2) (fun y7 g9 r8 e10 => ?_)
    refine go_ifeq kk175_0.1.1.1.2.2.2 (inR_b r8) (fun c11 => ?_) (fun c12 => ?_)
    · refine go_aload kk175_0.1.1.2.1.2.1 rfl ?_
      refine go_iload kk175_0.1.1.2.1.2.2 rfl ?_
      refine go_ifeq kk175_0.1.1.2.2.1.1 h1 (fun c13 => ?_) (fun c14 => ?_)
      · exact tjM_exchange_66 hd e10 hK0 h1 h2 (rfR_kd hK0 (by decide)) none rfl none rfl none rfl
      · refine go_iload kk175_0.1.1.2.2.1.2 rfl ?_
        refine go_ifeq kk175_0.1.1.2.2.2.1 h2 (fun c15 => ?_) (fun c16 => ?_)
        · exact tjM_exchange_66 hd e10 hK0 h1 h2 (rfR_kd hK0 (by decide)) none rfl none rfl none rfl
        · refine go_aload kk175_0.1.1.2.2.2.2 rfl ?_
          refine go_iload kk175_0.1.2.1.1.1.1 rfl ?_
          refine go_callP3 kk175_0.1.2.1.1.1.2 rfl rfl rfl ⟨by decide, _, rfl, hK0⟩ ⟨Nat.zero_le _, Nat.zero_le _⟩ (by omega) (tfM_runs (by omega) e10 hK0  h1) (fun y17 r18 => ?_)
          refine go_ifeq kk175_0.1.2.1.1.2.1 (inR_b r18) (fun c21 => ?_) (fun c22 => ?_)
          · exact tjM_exchange_66 hd e10 hK0 h1 h2 (rfR_kd hK0 (by decide)) none rfl none rfl none rfl
          · refine go_aload kk175_0.1.2.1.1.2.2 rfl ?_
            refine go_iload kk175_0.1.2.1.2.1.1 rfl ?_
            refine go_callP3 kk175_0.1.2.1.2.1.2 rfl rfl rfl ⟨by decide, _, rfl, hK0⟩ ⟨Nat.zero_le _, Nat.zero_le _⟩ (by omega) (tfM_runs (by omega) e10 hK0  h2) (fun y23 r24 => ?_)
            refine go_ifeq kk175_0.1.2.1.2.2.1 (inR_b r24) (fun c27 => ?_) (fun c28 => ?_)
            · exact tjM_exchange_66 hd e10 hK0 h1 h2 (rfR_kd hK0 (by decide)) none rfl none rfl none rfl
            · refine go_iload kk175_0.1.2.1.2.2.2 rfl ?_
              refine go_iload kk175_0.1.2.2.1.1.1 rfl ?_
              refine go_cmeq kk175_0.1.2.2.1.1.2 h1 h2 (fun c29 => ?_) (fun c30 => ?_)
              · exact tjM_exchange_66 hd e10 hK0 h1 h2 (rfR_kd hK0 (by decide)) none rfl none rfl none rfl
              · refine go_aload kk175_0.1.2.2.1.2.1 rfl ?_
                refine go_iload kk175_0.1.2.2.1.2.2 rfl ?_
                refine go_iload kk175_0.1.2.2.2.1.1 rfl ?_
                refine go_callP3 kk175_0.1.2.2.2.1.2 rfl rfl rfl ⟨by decide, _, rfl, hK0⟩ ⟨Nat.zero_le _, Nat.zero_le _⟩ (by omega) (tfM_isOver (by omega) e10 hK0  h1 h2) (fun y31 r32 => ?_)
                refine go_ifeq kk175_0.1.2.2.2.2.1 (inR_b r32) (fun c35 => ?_) (fun c36 => ?_)
                · refine go_aload kk175_0.1.2.2.2.2.2 rfl ?_
                  refine go_iload kk175_0.2.1.1.1.1.1 rfl ?_
                  refine go_iload kk175_0.2.1.1.1.1.2 rfl ?_
                  refine go_callP3 kk175_0.2.1.1.1.2.1 rfl rfl rfl ⟨by decide, _, rfl, hK0⟩ ⟨Nat.zero_le _, Nat.zero_le _⟩ (by omega) (tfM_isOver (by omega) e10 hK0  h2 h1) (fun y37 r38 => ?_)
                  refine go_ifeq kk175_0.2.1.1.1.2.2 (inR_b r38) (fun c41 => ?_) (fun c42 => ?_)
                  · refine go_int kk175_0.2.1.1.2.2.1 0 rfl ?_
                    exact tjM_exchange_71 hd e10 hK0 h1 h2 (rfR_kd hK0 (by decide)) (Or.inl rfl) none rfl none rfl none rfl
                  · exact tjM_exchange_66 hd e10 hK0 h1 h2 (rfR_kd hK0 (by decide)) none rfl none rfl none rfl
                · exact tjM_exchange_66 hd e10 hK0 h1 h2 (rfR_kd hK0 (by decide)) none rfl none rfl none rfl
    · refine go_int kk175_0.1.1.2.1.1.1 0 rfl ?_
      exact go_iret kk175_0.1.1.2.1.1.2 e10 (inR_b (Or.inl rfl)) ⟨Nat.zero_le _, Nat.zero_le _⟩ rfl
  · refine go_int kk175_0.1.1.2.1.1.1 0 rfl ?_
    exact go_iret kk175_0.1.1.2.1.1.2 e4 (inR_b (Or.inl rfl)) ⟨Nat.zero_le _, Nat.zero_le _⟩ rfl
