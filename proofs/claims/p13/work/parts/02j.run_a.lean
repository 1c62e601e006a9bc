/-! ===== the evaluator comes to what the functions tell (own work, by program: wip/p2/dec.py) ===== -/
theorem tbI_append_3 {Φ : ev_P} {d : Nat} (hd : 0 ≤ d) {v0 v1 : Int} (hK0 : kd v0 = 1) (h1 : InR v1) {X3 : Int → gH → Option (Int × gH)} (HX3 : ∀ (v2 : Int) (h2 : InR v2) (g : gH) (hg : HR g), Go Φ pr_P fN 0 (X3 v2 g) d pr_m222 3 [some (sR v0), some (sI v1), some (sI v2)] [] g 0 0) : ∀ (v2 : Int) (h2 : InR v2) (g : gH) (hg : HR g), Go Φ pr_P fN 0 (bI_append_3 v0 v1 X3 v2 g) d pr_m222 3 [some (sR v0), some (sI v1), some (sI v2)] [] g 0 0 := by
  intro v2 h2 g hg
  unfold bI_append_3
  refine go_iload k222_3 rfl ?_
  refine go_iflt k222_4 h2 (fun c1 => ?_) (fun c2 => ?_)
  · exact go_vret k222_53 hg ⟨Nat.zero_le _, Nat.zero_le _⟩ rfl
  · refine go_aload k222_7 rfl ?_
    refine go_getI (bI := 1) k222_8 hg hK0 (by decide) rfl rfl (fun r3 => ?_)
    refine go_iflt k222_11 r3 (fun c4 => ?_) (fun c5 => ?_)
    · refine go_iinc k222_47 rfl rfl (-8) rfl (loc2 := [some (sR v0), some (sI v1), some (sI (w32 (v2 + (-8))))]) rfl ?_
      refine go_goto k222_50 ?_
      exact HX3 (w32 (v2 + (-8))) (inR_w32 _) g hg
    · refine go_aload k222_14 rfl ?_
      refine go_getI (bI := 1) k222_15 hg hK0 (by decide) rfl rfl (fun r6 => ?_)
      refine go_int k222_18 500 rfl ?_
      refine go_cmlt k222_21 r6 (inR_of (by decide)) (fun c7 => ?_) (fun c8 => ?_)
      · refine go_aload k222_24 rfl ?_
        refine go_getR (bI := 0) k222_25 hg hK0 (by decide) rfl rfl (fun r9 => ?_)
        refine go_aload k222_28 rfl ?_
        refine go_getI (bI := 1) k222_29 hg hK0 (by decide) rfl rfl (fun r10 => ?_)
        refine go_iload k222_32 rfl ?_
        refine go_iload k222_33 rfl ?_
        refine go_ibin k222_34 ?_
        refine go_i2b k222_35 ?_
        refine go_ck (fun q11 => ?_)
        refine go_bast k222_36 hg q11 (fun g12 e13 => ?_)
        refine go_aload k222_37 rfl ?_
        refine go_dupR k222_38 ?_
        refine go_getI (bI := 1) k222_39 e13 hK0 (by decide) rfl rfl (fun r14 => ?_)
        refine go_int k222_42 1 rfl ?_
        refine go_iadd k222_43 ?_
        refine go_putI (bI := 1) k222_44 e13 hK0 (by decide) rfl rfl (inR_w32 _) (fun g15 e16 => ?_)
        refine go_iinc k222_47 rfl rfl (-8) rfl (loc2 := [some (sR v0), some (sI v1), some (sI (w32 (v2 + (-8))))]) rfl ?_
        refine go_goto k222_50 ?_
        exact HX3 (w32 (v2 + (-8))) (inR_w32 _) g15 e16
      · refine go_iinc k222_47 rfl rfl (-8) rfl (loc2 := [some (sR v0), some (sI v1), some (sI (w32 (v2 + (-8))))]) rfl ?_
        refine go_goto k222_50 ?_
        exact HX3 (w32 (v2 + (-8))) (inR_w32 _) g hg
theorem tlI_append_3 {Φ : ev_P} {d : Nat} (hd : 0 ≤ d) {v0 v1 : Int} (hK0 : kd v0 = 1) (h1 : InR v1) : ∀ n : Nat, ∀ (v2 : Int) (h2 : InR v2) (g : gH) (hg : HR g), Go Φ pr_P fN 0 (lI_append_3 v0 v1 n v2 g) d pr_m222 3 [some (sR v0), some (sI v1), some (sI v2)] [] g 0 0 := by
  intro n
  induction n with
  | zero => intros; exact go_none
  | succ n ih => exact tbI_append_3 hd hK0 h1 ih
theorem tfI_append {Φ : ev_P} {d : Nat} (hd : 0 ≤ d) {g : gH} (hg : HR g) {v0 v1 : Int} (hK0 : kd v0 = 1) (h1 : InR v1) : Go Φ pr_P fN 0 (fI_append g v0 v1) d (pr_P 222) 0 (ev_loc (pr_P 222).1 [(sR v0), (sI v1)]) [] g 0 0 := by
  show Go Φ pr_P fN 0 (fI_append g v0 v1) d pr_m222 0 [some (sR v0), some (sI v1), none] [] g 0 0
  unfold fI_append
  refine go_int k222_0 24 rfl ?_
  refine go_istore k222_2 rfl (loc2 := [some (sR v0), some (sI v1), some (sI 24)]) rfl ?_
  exact tlI_append_3 hd hK0 h1 fu 24 (inR_of (by decide)) g hg
theorem tfC_appendInput {Φ : ev_P} {d : Nat} (hd : 1 ≤ d) {g : gH} (hg : HR g) {v0 v1 v2 v3 v4 v5 : Int} (hK0 : kd v0 = 6) (h1 : InR v1) (h2 : InR v2) (h3 : InR v3) (h4 : InR v4) (h5 : InR v5) : Go Φ pr_P fN 1 (fC_appendInput g v0 v1 v2 v3 v4 v5) d (pr_P 1) 0 (ev_loc (pr_P 1).1 [(sR v0), (sI v1), (sI v2), (sI v3), (sI v4), (sI v5)]) [] g 0 0 := by
  show Go Φ pr_P fN 1 (fC_appendInput g v0 v1 v2 v3 v4 v5) d pr_m1 0 [some (sR v0), some (sI v1), some (sI v2), some (sI v3), some (sI v4), some (sI v5), none] [] g 0 0
  unfold fC_appendInput
  refine go_aload k1_0 rfl ?_
  refine go_getR (bI := 4) k1_1 hg hK0 (by decide) rfl rfl (fun r1 => ?_)
  refine go_ck (fun q2 => ?_)
  refine go_getR (bI := 0) k1_4 hg q2 (by decide) rfl rfl (fun r3 => ?_)
  refine go_astore k1_7 rfl (loc2 := [some (sR v0), some (sI v1), some (sI v2), some (sI v3), some (sI v4), some (sI v5), some (sR (g (g v0 4) 0))]) rfl ?_
  refine go_aload k1_9 rfl ?_
  refine go_ck (fun q4 => ?_)
  refine go_getI (bI := 1) k1_11 hg q4 (by decide) rfl rfl (fun r5 => ?_)
  refine go_int k1_14 20 rfl ?_
  refine go_iadd k1_16 ?_
  refine go_int k1_17 500 rfl ?_
  refine go_cmgt k1_20 (inR_w32 _) (inR_of (by decide)) (fun c6 => ?_) (fun c7 => ?_)
  · refine go_int k1_23 (-1) rfl ?_
    exact go_iret k1_24 hg (inR_of (by decide)) ⟨Nat.zero_le _, Nat.zero_le _⟩ rfl
  · refine go_aload k1_25 rfl ?_
    refine go_iload k1_27 rfl ?_
    refine go_callN0 k1_28 rfl rfl rfl ⟨by decide, _, rfl, q4⟩ ⟨Nat.zero_le _, Nat.zero_le _⟩ (by omega) (tfI_append (by omega) hg q4  h1) (fun y8 g10 e11 => ?_)
    refine go_aload k1_31 rfl ?_
    refine go_iload k1_33 rfl ?_
    refine go_callN0 k1_34 rfl rfl rfl ⟨by decide, _, rfl, q4⟩ ⟨Nat.zero_le _, Nat.zero_le _⟩ (by omega) (tfI_append (by omega) e11 q4  h2) (fun y12 g14 e15 => ?_)
    refine go_aload k1_37 rfl ?_
    refine go_iload k1_39 rfl ?_
    refine go_callN0 k1_40 rfl rfl rfl ⟨by decide, _, rfl, q4⟩ ⟨Nat.zero_le _, Nat.zero_le _⟩ (by omega) (tfI_append (by omega) e15 q4  h3) (fun y16 g18 e19 => ?_)
    refine go_aload k1_43 rfl ?_
    refine go_iload k1_45 rfl ?_
    refine go_callN0 k1_47 rfl rfl rfl ⟨by decide, _, rfl, q4⟩ ⟨Nat.zero_le _, Nat.zero_le _⟩ (by omega) (tfI_append (by omega) e19 q4  h4) (fun y20 g22 e23 => ?_)
    refine go_aload k1_50 rfl ?_
    refine go_iload k1_52 rfl ?_
    refine go_callN0 k1_54 rfl rfl rfl ⟨by decide, _, rfl, q4⟩ ⟨Nat.zero_le _, Nat.zero_le _⟩ (by omega) (tfI_append (by omega) e23 q4  h5) (fun y24 g26 e27 => ?_)
    refine go_aload k1_57 rfl ?_
    refine go_getI (bI := 1) k1_59 e27 q4 (by decide) rfl rfl (fun r28 => ?_)
    exact go_iret k1_62 e27 r28 ⟨Nat.zero_le _, Nat.zero_le _⟩ rfl
theorem tfC_truncateInput {Φ : ev_P} {d : Nat} (hd : 0 ≤ d) {g : gH} (hg : HR g) {v0 v1 : Int} (hK0 : kd v0 = 6) (h1 : InR v1) : Go Φ pr_P fN 3 (fC_truncateInput g v0 v1) d (pr_P 2) 0 (ev_loc (pr_P 2).1 [(sR v0), (sI v1)]) [] g 0 0 := by
  show Go Φ pr_P fN 3 (fC_truncateInput g v0 v1) d pr_m2 0 [some (sR v0), some (sI v1)] [] g 0 0
  unfold fC_truncateInput
  refine go_iload k2_0 rfl ?_
  refine go_iflt k2_1 h1 (fun c1 => ?_) (fun c2 => ?_)
  · refine go_int k2_18 0 rfl ?_
    exact go_bret k2_19 hg (Or.inl rfl) ⟨Nat.zero_le _, Nat.zero_le _⟩ rfl
  · refine go_iload k2_4 rfl ?_
    refine go_aload k2_5 rfl ?_
    refine go_getR (bI := 4) k2_6 hg hK0 (by decide) rfl rfl (fun r3 => ?_)
    refine go_ck (fun q4 => ?_)
    refine go_getR (bI := 0) k2_9 hg q4 (by decide) rfl rfl (fun r5 => ?_)
    refine go_ck (fun q6 => ?_)
    refine go_getI (bI := 1) k2_12 hg q6 (by decide) rfl rfl (fun r7 => ?_)
    refine go_cmgt k2_15 h1 r7 (fun c8 => ?_) (fun c9 => ?_)
    · refine go_int k2_18 0 rfl ?_
      exact go_bret k2_19 hg (Or.inl rfl) ⟨Nat.zero_le _, Nat.zero_le _⟩ rfl
    · refine go_aload k2_20 rfl ?_
      refine go_getR (bI := 4) k2_21 hg hK0 (by decide) rfl rfl (fun r10 => ?_)
      refine go_getR (bI := 0) k2_24 hg q4 (by decide) rfl rfl (fun r11 => ?_)
      refine go_iload k2_27 rfl ?_
      refine go_putI (bI := 1) k2_28 hg q6 (by decide) rfl rfl h1 (fun g12 e13 => ?_)
      refine go_int k2_31 1 rfl ?_
      exact go_bret k2_32 e13 (Or.inr rfl) ⟨Nat.zero_le _, Nat.zero_le _⟩ rfl
theorem tfP_become {Φ : ev_P} {d : Nat} (hd : 0 ≤ d) {g : gH} (hg : HR g) {v0 v1 v2 v3 v4 : Int} (hK0 : kd v0 = 3) (h1 : InR v1) (h2 : InR v2) (h3 : InR v3) (h4 : InR v4) : Go Φ pr_P fN 0 (fP_become g v0 v1 v2 v3 v4) d (pr_P 233) 0 (ev_loc (pr_P 233).1 [(sR v0), (sI v1), (sI v2), (sI v3), (sI v4)]) [] g 0 0 := by
  show Go Φ pr_P fN 0 (fP_become g v0 v1 v2 v3 v4) d pr_m233 0 [some (sR v0), some (sI v1), some (sI v2), some (sI v3), some (sI v4)] [] g 0 0
  unfold fP_become
  refine go_aload k233_0 rfl ?_
  refine go_iload k233_1 rfl ?_
  refine go_putI (bI := 1) k233_2 hg hK0 (by decide) rfl rfl h1 (fun g1 e2 => ?_)
  refine go_aload k233_5 rfl ?_
  refine go_null k233_6 ?_
  refine go_putR (bI := 2) k233_7 e2 hK0 (by decide) rfl rfl rfR_null (fun g3 e4 => ?_)
  refine go_aload k233_10 rfl ?_
  refine go_int k233_11 0 rfl ?_
  refine go_putI (bI := 3) k233_12 e4 hK0 (by decide) rfl rfl (inR_b (Or.inl rfl)) (fun g5 e6 => ?_)
  refine go_aload k233_15 rfl ?_
  refine go_iload k233_16 rfl ?_
  refine go_putI (bI := 4) k233_17 e6 hK0 (by decide) rfl rfl h2 (fun g7 e8 => ?_)
  refine go_aload k233_20 rfl ?_
  refine go_iload k233_21 rfl ?_
  refine go_putI (bI := 5) k233_22 e8 hK0 (by decide) rfl rfl h3 (fun g9 e10 => ?_)
  refine go_aload k233_25 rfl ?_
  refine go_iload k233_26 rfl ?_
  refine go_putI (bI := 6) k233_28 e10 hK0 (by decide) rfl rfl h4 (fun g11 e12 => ?_)
  refine go_aload k233_31 rfl ?_
  refine go_int k233_32 (-1) rfl ?_
  refine go_putI (bI := 7) k233_33 e12 hK0 (by decide) rfl rfl (inR_of (by decide)) (fun g13 e14 => ?_)
  refine go_aload k233_36 rfl ?_
  refine go_int k233_37 0 rfl ?_
  refine go_putI (bI := 8) k233_38 e14 hK0 (by decide) rfl rfl (inR_b (Or.inl rfl)) (fun g15 e16 => ?_)
  refine go_aload k233_41 rfl ?_
  refine go_int k233_42 (-1) rfl ?_
  refine go_putI (bI := 9) k233_43 e16 hK0 (by decide) rfl rfl (inR_of (by decide)) (fun g17 e18 => ?_)
  refine go_aload k233_46 rfl ?_
  refine go_int k233_47 (-1) rfl ?_
  refine go_putI (bI := 10) k233_48 e18 hK0 (by decide) rfl rfl (inR_of (by decide)) (fun g19 e20 => ?_)
  refine go_aload k233_51 rfl ?_
  refine go_int k233_52 0 rfl ?_
  refine go_putI (bI := 11) k233_53 e20 hK0 (by decide) rfl rfl (inR_b (Or.inl rfl)) (fun g21 e22 => ?_)
  refine go_aload k233_56 rfl ?_
  refine go_int k233_57 (-1) rfl ?_
  refine go_putI (bI := 12) k233_58 e22 hK0 (by decide) rfl rfl (inR_of (by decide)) (fun g23 e24 => ?_)
  refine go_aload k233_61 rfl ?_
  refine go_int k233_62 0 rfl ?_
  refine go_putB (bI := 13) k233_63 e24 hK0 (by decide) rfl rfl (Or.inl rfl) (fun g25 e26 => ?_)
  refine go_aload k233_66 rfl ?_
  refine go_lconst k233_67 0 rfl ?_
  refine go_putL (bI := 14) k233_68 e26 hK0 (by decide) rfl rfl (inL_of (by decide)) (fun g27 e28 => ?_)
  exact go_vret k233_71 e28 ⟨Nat.zero_le _, Nat.zero_le _⟩ rfl
theorem tbT_clearRules_2 {Φ : ev_P} {d : Nat} (hd : 0 ≤ d) {v0 : Int} (hK0 : kd v0 = 5) {X2 : Int → gH → Option (Int × gH)} (HX2 : ∀ (v1 : Int) (h1 : InR v1) (g : gH) (hg : HR g), Go Φ pr_P fN 0 (X2 v1 g) d pr_m272 2 [some (sR v0), some (sI v1)] [] g 0 0) : ∀ (v1 : Int) (h1 : InR v1) (g : gH) (hg : HR g), Go Φ pr_P fN 0 (bT_clearRules_2 v0 X2 v1 g) d pr_m272 2 [some (sR v0), some (sI v1)] [] g 0 0 := by
  intro v1 h1 g hg
  unfold bT_clearRules_2
  refine go_iload k272_2 rfl ?_
  refine go_int k272_3 5 rfl ?_
  refine go_cmlt k272_4 h1 (inR_of (by decide)) (fun c1 => ?_) (fun c2 => ?_)
  · refine go_aload k272_7 rfl ?_
    refine go_getR (bI := 3) k272_8 hg hK0 (by decide) rfl rfl (fun r3 => ?_)
    refine go_iload k272_11 rfl ?_
    refine go_int k272_12 (-1) rfl ?_
    refine go_ck (fun q4 => ?_)
    refine go_iast k272_13 hg q4 (inR_of (by decide)) (fun g5 e6 => ?_)
    refine go_iinc k272_14 rfl rfl 1 rfl (loc2 := [some (sR v0), some (sI (w32 (v1 + 1)))]) rfl ?_
    refine go_goto k272_17 ?_
    exact HX2 (w32 (v1 + 1)) (inR_w32 _) g5 e6
  · exact go_vret k272_20 hg ⟨Nat.zero_le _, Nat.zero_le _⟩ rfl
theorem tlT_clearRules_2 {Φ : ev_P} {d : Nat} (hd : 0 ≤ d) {v0 : Int} (hK0 : kd v0 = 5) : ∀ n : Nat, ∀ (v1 : Int) (h1 : InR v1) (g : gH) (hg : HR g), Go Φ pr_P fN 0 (lT_clearRules_2 v0 n v1 g) d pr_m272 2 [some (sR v0), some (sI v1)] [] g 0 0 := by
  intro n
  induction n with
  | zero => intros; exact go_none
  | succ n ih => exact tbT_clearRules_2 hd hK0 ih
theorem tfT_clearRules {Φ : ev_P} {d : Nat} (hd : 0 ≤ d) {g : gH} (hg : HR g) {v0 : Int} (hK0 : kd v0 = 5) : Go Φ pr_P fN 0 (fT_clearRules g v0) d (pr_P 272) 0 (ev_loc (pr_P 272).1 [(sR v0)]) [] g 0 0 := by
  show Go Φ pr_P fN 0 (fT_clearRules g v0) d pr_m272 0 [some (sR v0), none] [] g 0 0
  unfold fT_clearRules
  refine go_int k272_0 0 rfl ?_
  refine go_istore k272_1 rfl (loc2 := [some (sR v0), some (sI 0)]) rfl ?_
  exact tlT_clearRules_2 hd hK0 fu 0 (inR_b (Or.inl rfl)) g hg
theorem tjT_reset_68 {Φ : ev_P} {d : Nat} (hd : 1 ≤ d) {g : gH} (hg : HR g) {v0 : Int} (hK0 : kd v0 = 5) (u1 : Option ev_V) (w1 : nwo u1) (u2 : Option ev_V) (w2 : nwo u2) (u3 : Option ev_V) (w3 : nwo u3) (u4 : Option ev_V) (w4 : nwo u4) : Go Φ pr_P fN 0 (jT_reset_68 g v0 ) d pr_m270 68 [some (sR v0), u1, u2, u3, u4] [] g 0 0 := by
  unfold jT_reset_68
  refine go_aload k270_68 rfl ?_
  refine go_callN0 k270_69 rfl rfl rfl ⟨by decide, _, rfl, hK0⟩ ⟨Nat.zero_le _, Nat.zero_le _⟩ (by omega) (tfT_clearRules (by omega) hg hK0 ) (fun y25 g27 e28 => ?_)
  refine go_aload k270_72 rfl ?_
  refine go_getR (bI := 3) k270_73 e28 hK0 (by decide) rfl rfl (fun r29 => ?_)
  refine go_int k270_76 0 rfl ?_
  refine go_int k270_77 0 rfl ?_
  refine go_ck (fun q30 => ?_)
  refine go_iast k270_78 e28 q30 (inR_b (Or.inl rfl)) (fun g31 e32 => ?_)
  refine go_aload k270_79 rfl ?_
  refine go_getR (bI := 3) k270_80 e32 hK0 (by decide) rfl rfl (fun r33 => ?_)
  refine go_int k270_83 1 rfl ?_
  refine go_int k270_84 1 rfl ?_
  refine go_ck (fun q34 => ?_)
  refine go_iast k270_85 e32 q34 (inR_b (Or.inr rfl)) (fun g35 e36 => ?_)
  refine go_aload k270_86 rfl ?_
  refine go_getR (bI := 3) k270_87 e36 hK0 (by decide) rfl rfl (fun r37 => ?_)
  refine go_int k270_90 2 rfl ?_
  refine go_int k270_91 2 rfl ?_
  refine go_ck (fun q38 => ?_)
  refine go_iast k270_92 e36 q38 (inR_of (by decide)) (fun g39 e40 => ?_)
  refine go_aload k270_93 rfl ?_
  refine go_int k270_94 20 rfl ?_
  refine go_putI (bI := 4) k270_96 e40 hK0 (by decide) rfl rfl (inR_of (by decide)) (fun g41 e42 => ?_)
  refine go_aload k270_99 rfl ?_
  refine go_int k270_100 1 rfl ?_
  refine go_putI (bI := 5) k270_101 e42 hK0 (by decide) rfl rfl (inR_b (Or.inr rfl)) (fun g43 e44 => ?_)
  refine go_aload k270_104 rfl ?_
  refine go_int k270_105 0 rfl ?_
  refine go_putI (bI := 6) k270_106 e44 hK0 (by decide) rfl rfl (inR_b (Or.inl rfl)) (fun g45 e46 => ?_)
  refine go_aload k270_109 rfl ?_
  refine go_int k270_110 0 rfl ?_
  refine go_putI (bI := 7) k270_111 e46 hK0 (by decide) rfl rfl (inR_b (Or.inl rfl)) (fun g47 e48 => ?_)
  refine go_aload k270_114 rfl ?_
  refine go_int k270_115 0 rfl ?_
  refine go_putI (bI := 8) k270_116 e48 hK0 (by decide) rfl rfl (inR_b (Or.inl rfl)) (fun g49 e50 => ?_)
  refine go_aload k270_119 rfl ?_
  refine go_int k270_120 0 rfl ?_
  refine go_putI (bI := 9) k270_121 e50 hK0 (by decide) rfl rfl (inR_b (Or.inl rfl)) (fun g51 e52 => ?_)
  exact go_vret k270_124 e52 ⟨Nat.zero_le _, Nat.zero_le _⟩ rfl
theorem tbT_reset_49 {Φ : ev_P} {d : Nat} (hd : 1 ≤ d) {v0 : Int} (hK0 : kd v0 = 5) {X49 : Int → gH → Option (Int × gH)} (HX49 : ∀ (v1 : Int) (h1 : InR v1) (g : gH) (hg : HR g) (u2 : Option ev_V) (w2 : nwo u2) (u3 : Option ev_V) (w3 : nwo u3) (u4 : Option ev_V) (w4 : nwo u4), Go Φ pr_P fN 0 (X49 v1 g) d pr_m270 49 [some (sR v0), some (sI v1), u2, u3, u4] [] g 0 0) : ∀ (v1 : Int) (h1 : InR v1) (g : gH) (hg : HR g) (u2 : Option ev_V) (w2 : nwo u2) (u3 : Option ev_V) (w3 : nwo u3) (u4 : Option ev_V) (w4 : nwo u4), Go Φ pr_P fN 0 (bT_reset_49 v0 X49 v1 g) d pr_m270 49 [some (sR v0), some (sI v1), u2, u3, u4] [] g 0 0 := by
  intro v1 h1 g hg u2 w2 u3 w3 u4 w4
  unfold bT_reset_49
  refine go_iload k270_49 rfl ?_
  refine go_int k270_50 8 rfl ?_
  refine go_cmlt k270_52 h1 (inR_of (by decide)) (fun c19 => ?_) (fun c20 => ?_)
  · refine go_aload k270_55 rfl ?_
    refine go_getR (bI := 2) k270_56 hg hK0 (by decide) rfl rfl (fun r21 => ?_)
    refine go_iload k270_59 rfl ?_
    refine go_int k270_60 0 rfl ?_
    refine go_ck (fun q22 => ?_)
    refine go_iast k270_61 hg q22 (inR_b (Or.inl rfl)) (fun g23 e24 => ?_)
    refine go_iinc k270_62 rfl rfl 1 rfl (loc2 := [some (sR v0), some (sI (w32 (v1 + 1))), u2, u3, u4]) rfl ?_
    refine go_goto k270_65 ?_
    exact HX49 (w32 (v1 + 1)) (inR_w32 _) g23 e24 u2 w2 u3 w3 u4 w4
  · exact tjT_reset_68 hd hg hK0 (some (sI v1)) rfl u2 w2 u3 w3 u4 w4
theorem tlT_reset_49 {Φ : ev_P} {d : Nat} (hd : 1 ≤ d) {v0 : Int} (hK0 : kd v0 = 5) : ∀ n : Nat, ∀ (v1 : Int) (h1 : InR v1) (g : gH) (hg : HR g) (u2 : Option ev_V) (w2 : nwo u2) (u3 : Option ev_V) (w3 : nwo u3) (u4 : Option ev_V) (w4 : nwo u4), Go Φ pr_P fN 0 (lT_reset_49 v0 n v1 g) d pr_m270 49 [some (sR v0), some (sI v1), u2, u3, u4] [] g 0 0 := by
  intro n
  induction n with
  | zero => intros; exact go_none
  | succ n ih => exact tbT_reset_49 hd hK0 ih
theorem tjT_reset_35 {Φ : ev_P} {d : Nat} (hd : 1 ≤ d) {g : gH} (hg : HR g) {v0 : Int} (hK0 : kd v0 = 5) (u1 : Option ev_V) (w1 : nwo u1) (u2 : Option ev_V) (w2 : nwo u2) (u3 : Option ev_V) (w3 : nwo u3) (u4 : Option ev_V) (w4 : nwo u4) : Go Φ pr_P fN 0 (jT_reset_35 g v0 ) d pr_m270 35 [some (sR v0), u1, u2, u3, u4] [] g 0 0 := by
  unfold jT_reset_35
  refine go_aload k270_35 rfl ?_
  refine go_getR (bI := 0) k270_36 hg hK0 (by decide) rfl rfl (fun r13 => ?_)
  refine go_int k270_39 0 rfl ?_
  refine go_int k270_40 9 rfl ?_
  refine go_int k270_42 0 rfl ?_
  refine go_int k270_43 0 rfl ?_
  refine go_ck (fun q14 => ?_)
  refine go_callN0 k270_44 rfl rfl rfl ⟨by decide, _, rfl, q14⟩ ⟨Nat.zero_le _, Nat.zero_le _⟩ (by omega) (tfP_become (by omega) hg q14  (inR_b (Or.inl rfl)) (inR_of (by decide)) (inR_b (Or.inl rfl)) (inR_b (Or.inl rfl))) (fun y15 g17 e18 => ?_)
  refine go_int k270_47 0 rfl ?_
  refine go_istore k270_48 rfl (loc2 := [some (sR v0), some (sI 0), u2, u3, u4]) rfl ?_
  exact tlT_reset_49 hd hK0 fu 0 (inR_b (Or.inl rfl)) g17 e18 u2 w2 u3 w3 u4 w4
theorem tbT_reset_10 {Φ : ev_P} {d : Nat} (hd : 1 ≤ d) {v0 v1 v2 : Int} (hK0 : kd v0 = 5) (h1 : RfR v1) (h2 : InR v2) {X10 : Int → gH → Option (Int × gH)} (HX10 : ∀ (v3 : Int) (h3 : InR v3) (g : gH) (hg : HR g) (u4 : Option ev_V) (w4 : nwo u4), Go Φ pr_P fN 0 (X10 v3 g) d pr_m270 10 [some (sR v0), some (sR v1), some (sI v2), some (sI v3), u4] [] g 0 0) : ∀ (v3 : Int) (h3 : InR v3) (g : gH) (hg : HR g) (u4 : Option ev_V) (w4 : nwo u4), Go Φ pr_P fN 0 (bT_reset_10 v0 v1 v2 X10 v3 g) d pr_m270 10 [some (sR v0), some (sR v1), some (sI v2), some (sI v3), u4] [] g 0 0 := by
  intro v3 h3 g hg u4 w4
  unfold bT_reset_10
  refine go_iload k270_10 rfl ?_
  refine go_iload k270_11 rfl ?_
  refine go_cmlt k270_12 h3 h2 (fun c4 => ?_) (fun c5 => ?_)
  · refine go_aload k270_15 rfl ?_
    refine go_iload k270_16 rfl ?_
    refine go_ck (fun q7 => ?_)
    refine go_pald k270_17 hg q7 (fun r6 => ?_)
    refine go_astore k270_18 rfl (loc2 := [some (sR v0), some (sR v1), some (sI v2), some (sI v3), some (sR (g v1 v3))]) rfl ?_
    refine go_aload k270_20 rfl ?_
    refine go_int k270_22 3 rfl ?_
    refine go_int k270_23 0 rfl ?_
    refine go_int k270_24 0 rfl ?_
    refine go_int k270_25 0 rfl ?_
    refine go_ck (fun q8 => ?_)
    refine go_callN0 k270_26 rfl rfl rfl ⟨by decide, _, rfl, q8⟩ ⟨Nat.zero_le _, Nat.zero_le _⟩ (by omega) (tfP_become (by omega) hg q8  (inR_of (by decide)) (inR_b (Or.inl rfl)) (inR_b (Or.inl rfl)) (inR_b (Or.inl rfl))) (fun y9 g11 e12 => ?_)
    refine go_iinc k270_29 rfl rfl 1 rfl (loc2 := [some (sR v0), some (sR v1), some (sI v2), some (sI (w32 (v3 + 1))), some (sR (g v1 v3))]) rfl ?_
    refine go_goto k270_32 ?_
    exact HX10 (w32 (v3 + 1)) (inR_w32 _) g11 e12 (some (sR (g v1 v3))) rfl
  · exact tjT_reset_35 hd hg hK0 (some (sR v1)) rfl (some (sI v2)) rfl (some (sI v3)) rfl u4 w4
theorem tlT_reset_10 {Φ : ev_P} {d : Nat} (hd : 1 ≤ d) {v0 v1 v2 : Int} (hK0 : kd v0 = 5) (h1 : RfR v1) (h2 : InR v2) : ∀ n : Nat, ∀ (v3 : Int) (h3 : InR v3) (g : gH) (hg : HR g) (u4 : Option ev_V) (w4 : nwo u4), Go Φ pr_P fN 0 (lT_reset_10 v0 v1 v2 n v3 g) d pr_m270 10 [some (sR v0), some (sR v1), some (sI v2), some (sI v3), u4] [] g 0 0 := by
  intro n
  induction n with
  | zero => intros; exact go_none
  | succ n ih => exact tbT_reset_10 hd hK0 h1 h2 ih
theorem tfT_reset {Φ : ev_P} {d : Nat} (hd : 1 ≤ d) {g : gH} (hg : HR g) {v0 : Int} (hK0 : kd v0 = 5) : Go Φ pr_P fN 0 (fT_reset g v0) d (pr_P 270) 0 (ev_loc (pr_P 270).1 [(sR v0)]) [] g 0 0 := by
  show Go Φ pr_P fN 0 (fT_reset g v0) d pr_m270 0 [some (sR v0), none, none, none, none] [] g 0 0
  unfold fT_reset
  refine go_aload k270_0 rfl ?_
  refine go_getR (bI := 1) k270_1 hg hK0 (by decide) rfl rfl (fun r1 => ?_)
  refine go_astore k270_4 rfl (loc2 := [some (sR v0), some (sR (g v0 1)), none, none, none]) rfl ?_
  refine go_aload k270_5 rfl ?_
  refine go_ck (fun q3 => ?_)
  refine go_alen k270_6 (ka_24 q3) (fun r2 => ?_)
  refine go_istore k270_7 rfl (loc2 := [some (sR v0), some (sR (g v0 1)), some (sI (sz (g v0 1))), none, none]) rfl ?_
  refine go_int k270_8 0 rfl ?_
  refine go_istore k270_9 rfl (loc2 := [some (sR v0), some (sR (g v0 1)), some (sI (sz (g v0 1))), some (sI 0), none]) rfl ?_
  exact tlT_reset_10 hd hK0 r1 r2 fu 0 (inR_b (Or.inl rfl)) g hg none rfl
theorem tfS_begin {Φ : ev_P} {d : Nat} (hd : 2 ≤ d) {g : gH} (hg : HR g) {v0 : Int} (hK0 : kd v0 = 4) : Go Φ pr_P fN 0 (fS_begin g v0) d (pr_P 250) 0 (ev_loc (pr_P 250).1 [(sR v0)]) [] g 0 0 := by
  show Go Φ pr_P fN 0 (fS_begin g v0) d pr_m250 0 [some (sR v0)] [] g 0 0
  unfold fS_begin
  refine go_aload k250_0 rfl ?_
  refine go_getR (bI := 1) k250_1 hg hK0 (by decide) rfl rfl (fun r1 => ?_)
  refine go_ck (fun q2 => ?_)
  refine go_callN0 k250_4 rfl rfl rfl ⟨by decide, _, rfl, q2⟩ ⟨Nat.zero_le _, Nat.zero_le _⟩ (by omega) (tfT_reset (by omega) hg q2 ) (fun y3 g5 e6 => ?_)
  refine go_aload k250_7 rfl ?_
  refine go_int k250_8 0 rfl ?_
  refine go_putI (bI := 2) k250_9 e6 hK0 (by decide) rfl rfl (inR_b (Or.inl rfl)) (fun g7 e8 => ?_)
  refine go_aload k250_12 rfl ?_
  refine go_int k250_13 (-1) rfl ?_
  refine go_putI (bI := 3) k250_14 e8 hK0 (by decide) rfl rfl (inR_of (by decide)) (fun g9 e10 => ?_)
  refine go_aload k250_17 rfl ?_
  refine go_int k250_18 0 rfl ?_
  refine go_putB (bI := 8) k250_19 e10 hK0 (by decide) rfl rfl (Or.inl rfl) (fun g11 e12 => ?_)
  refine go_aload k250_22 rfl ?_
  refine go_int k250_23 0 rfl ?_
  refine go_putB (bI := 9) k250_24 e12 hK0 (by decide) rfl rfl (Or.inl rfl) (fun g13 e14 => ?_)
  refine go_aload k250_27 rfl ?_
  refine go_int k250_28 0 rfl ?_
  refine go_putB (bI := 10) k250_29 e14 hK0 (by decide) rfl rfl (Or.inl rfl) (fun g15 e16 => ?_)
  refine go_aload k250_32 rfl ?_
  refine go_int k250_33 0 rfl ?_
  refine go_putI (bI := 6) k250_34 e16 hK0 (by decide) rfl rfl (inR_b (Or.inl rfl)) (fun g17 e18 => ?_)
  exact go_vret k250_37 e18 ⟨Nat.zero_le _, Nat.zero_le _⟩ rfl
theorem tfI_at {Φ : ev_P} {d : Nat} (hd : 0 ≤ d) {g : gH} (hg : HR g) {v0 v1 : Int} (hK0 : kd v0 = 1) (h1 : InR v1) : Go Φ pr_P (fP g) 1 (fI_at g v0 v1) d (pr_P 223) 0 (ev_loc (pr_P 223).1 [(sR v0), (sI v1)]) [] g 0 0 := by
  show Go Φ pr_P (fP g) 1 (fI_at g v0 v1) d pr_m223 0 [some (sR v0), some (sI v1)] [] g 0 0
  unfold fI_at
  refine go_iload k223_0 rfl ?_
  refine go_iflt k223_1 h1 (fun c1 => ?_) (fun c2 => ?_)
  · refine go_int k223_19 0 rfl ?_
    refine go_goto k223_20 ?_
    exact go_iret k223_29 hg (inR_b (Or.inl rfl)) ⟨Nat.zero_le _, Nat.zero_le _⟩ rfl
  · refine go_iload k223_4 rfl ?_
    refine go_aload k223_5 rfl ?_
    refine go_getI (bI := 1) k223_6 hg hK0 (by decide) rfl rfl (fun r3 => ?_)
    refine go_cmlt k223_9 h1 r3 (fun c4 => ?_) (fun c5 => ?_)
    · refine go_iload k223_12 rfl ?_
      refine go_int k223_13 500 rfl ?_
      refine go_cmlt k223_16 h1 (inR_of (by decide)) (fun c6 => ?_) (fun c7 => ?_)
      · refine go_aload k223_23 rfl ?_
        refine go_getR (bI := 0) k223_24 hg hK0 (by decide) rfl rfl (fun r8 => ?_)
        refine go_iload k223_27 rfl ?_
        refine go_ck (fun q10 => ?_)
        refine go_bald k223_28 hg q10 (fun r9 => ?_)
        exact go_iret k223_29 hg r9 ⟨Nat.zero_le _, Nat.zero_le _⟩ rfl
      · refine go_int k223_19 0 rfl ?_
        refine go_goto k223_20 ?_
        exact go_iret k223_29 hg (inR_b (Or.inl rfl)) ⟨Nat.zero_le _, Nat.zero_le _⟩ rfl
    · refine go_int k223_19 0 rfl ?_
      refine go_goto k223_20 ?_
      exact go_iret k223_29 hg (inR_b (Or.inl rfl)) ⟨Nat.zero_le _, Nat.zero_le _⟩ rfl
theorem tbS_isWord_24 {Φ : ev_P} {d : Nat} (hd : 1 ≤ d) {g : gH} (hg : HR g) {v0 v1 : Int} (hK0 : kd v0 = 4) {X24 : Int → Int → Option Int} (HX24 : ∀ (v2 : Int) (h2 : B01 v2) (v3 : Int) (h3 : InR v3), Go Φ pr_P (fP g) 3 (X24 v2 v3) d pr_m268 24 [some (sR v0), some (sR v1), some (sI v2), some (sI v3)] [] g 0 0) : ∀ (v2 : Int) (h2 : B01 v2) (v3 : Int) (h3 : InR v3), Go Φ pr_P (fP g) 3 (bS_isWord_24 g v0 v1 X24 v2 v3) d pr_m268 24 [some (sR v0), some (sR v1), some (sI v2), some (sI v3)] [] g 0 0 := by
  intro v2 h2 v3 h3
  unfold bS_isWord_24
  refine go_iload k268_24 rfl ?_
  refine go_ifeq k268_25 (inR_b h2) (fun c6 => ?_) (fun c7 => ?_)
  · refine go_iload k268_69 rfl ?_
    exact go_bret k268_70 hg h2 ⟨Nat.zero_le _, Nat.zero_le _⟩ rfl
  · refine go_iload k268_28 rfl ?_
    refine go_aload k268_29 rfl ?_
    refine go_ck (fun q8 => ?_)
    refine go_slen k268_30 q8 rfl ⟨Nat.zero_le _, Nat.zero_le _⟩ ?_
    refine go_cmlt k268_33 h3 (inR_gtl _) (fun c9 => ?_) (fun c10 => ?_)
    · refine go_aload k268_36 rfl ?_
      refine go_getR (bI := 0) k268_37 hg hK0 (by decide) rfl rfl (fun r11 => ?_)
      refine go_aload k268_40 rfl ?_
      refine go_getI (bI := 5) k268_41 hg hK0 (by decide) rfl rfl (fun r12 => ?_)
      refine go_iload k268_44 rfl ?_
      refine go_iadd k268_45 ?_
      refine go_ck (fun q13 => ?_)
      refine go_callP1 k268_46 rfl rfl rfl ⟨by decide, _, rfl, q13⟩ ⟨Nat.zero_le _, Nat.zero_le _⟩ (by omega) (tfI_at (by omega) hg q13  (inR_w32 _)) (fun y14 r15 => ?_)
      refine go_aload k268_49 rfl ?_
      refine go_iload k268_50 rfl ?_
      refine go_ck (fun q18 => ?_)
      refine go_chat k268_51 q18 rfl ⟨Nat.zero_le _, Nat.zero_le _⟩ ?_
      refine go_cmeq k268_54 r15 (inR_gch _ _) (fun c19 => ?_) (fun c20 => ?_)
      · refine go_int k268_57 1 rfl ?_
        refine go_goto k268_58 ?_
        refine go_istore k268_62 rfl (loc2 := [some (sR v0), some (sR v1), some (sI 1), some (sI v3)]) rfl ?_
        refine go_iinc k268_63 rfl rfl 1 rfl (loc2 := [some (sR v0), some (sR v1), some (sI 1), some (sI (w32 (v3 + 1)))]) rfl ?_
        refine go_goto k268_66 ?_
        exact HX24 1 (Or.inr rfl) (w32 (v3 + 1)) (inR_w32 _)
      · refine go_int k268_61 0 rfl ?_
        refine go_istore k268_62 rfl (loc2 := [some (sR v0), some (sR v1), some (sI 0), some (sI v3)]) rfl ?_
        refine go_iinc k268_63 rfl rfl 1 rfl (loc2 := [some (sR v0), some (sR v1), some (sI 0), some (sI (w32 (v3 + 1)))]) rfl ?_
        refine go_goto k268_66 ?_
        exact HX24 0 (Or.inl rfl) (w32 (v3 + 1)) (inR_w32 _)
    · refine go_iload k268_69 rfl ?_
      exact go_bret k268_70 hg h2 ⟨Nat.zero_le _, Nat.zero_le _⟩ rfl
theorem tlS_isWord_24 {Φ : ev_P} {d : Nat} (hd : 1 ≤ d) {g : gH} (hg : HR g) {v0 v1 : Int} (hK0 : kd v0 = 4) : ∀ n : Nat, ∀ (v2 : Int) (h2 : B01 v2) (v3 : Int) (h3 : InR v3), Go Φ pr_P (fP g) 3 (lS_isWord_24 g v0 v1 n v2 v3) d pr_m268 24 [some (sR v0), some (sR v1), some (sI v2), some (sI v3)] [] g 0 0 := by
  intro n
  induction n with
  | zero => intros; exact go_none
  | succ n ih => exact tbS_isWord_24 hd hg hK0 ih
theorem tfS_isWord {Φ : ev_P} {d : Nat} (hd : 1 ≤ d) {g : gH} (hg : HR g) {v0 v1 : Int} (hK0 : kd v0 = 4) : Go Φ pr_P (fP g) 3 (fS_isWord g v0 v1) d (pr_P 268) 0 (ev_loc (pr_P 268).1 [(sR v0), (sR v1)]) [] g 0 0 := by
  show Go Φ pr_P (fP g) 3 (fS_isWord g v0 v1) d pr_m268 0 [some (sR v0), some (sR v1), none, none] [] g 0 0
  unfold fS_isWord
  refine go_aload k268_0 rfl ?_
  refine go_getI (bI := 6) k268_1 hg hK0 (by decide) rfl rfl (fun r1 => ?_)
  refine go_aload k268_4 rfl ?_
  refine go_getI (bI := 5) k268_5 hg hK0 (by decide) rfl rfl (fun r2 => ?_)
  refine go_isub k268_8 ?_
  refine go_aload k268_9 rfl ?_
  refine go_ck (fun q3 => ?_)
  refine go_slen k268_10 q3 rfl ⟨Nat.zero_le _, Nat.zero_le _⟩ ?_
  refine go_cmeq k268_13 (inR_w32 _) (inR_gtl _) (fun c4 => ?_) (fun c5 => ?_)
  · refine go_int k268_16 1 rfl ?_
    refine go_goto k268_17 ?_
    refine go_istore k268_21 rfl (loc2 := [some (sR v0), some (sR v1), some (sI 1), none]) rfl ?_
    refine go_int k268_22 0 rfl ?_
    refine go_istore k268_23 rfl (loc2 := [some (sR v0), some (sR v1), some (sI 1), some (sI 0)]) rfl ?_
    exact tlS_isWord_24 hd hg hK0 fu 1 (Or.inr rfl) 0 (inR_b (Or.inl rfl))
  · refine go_int k268_20 0 rfl ?_
    refine go_istore k268_21 rfl (loc2 := [some (sR v0), some (sR v1), some (sI 0), none]) rfl ?_
    refine go_int k268_22 0 rfl ?_
    refine go_istore k268_23 rfl (loc2 := [some (sR v0), some (sR v1), some (sI 0), some (sI 0)]) rfl ?_
    exact tlS_isWord_24 hd hg hK0 fu 0 (Or.inl rfl) 0 (inR_b (Or.inl rfl))
theorem tfS_ruleOfWord {Φ : ev_P} {d : Nat} (hd : 2 ≤ d) {g : gH} (hg : HR g) {v0 : Int} (hK0 : kd v0 = 4) : Go Φ pr_P (fP g) 1 (fS_ruleOfWord g v0) d (pr_P 253) 0 (ev_loc (pr_P 253).1 [(sR v0)]) [] g 0 0 := by
  show Go Φ pr_P (fP g) 1 (fS_ruleOfWord g v0) d pr_m253 0 [some (sR v0)] [] g 0 0
  unfold fS_ruleOfWord
  refine go_aload k253_0 rfl ?_
  refine go_ldcs k253_1 (by decide) (x := 2000008) rfl ?_
  refine go_callP3 k253_3 rfl rfl rfl ⟨by decide, _, rfl, hK0⟩ ⟨Nat.zero_le _, Nat.zero_le _⟩ (by omega) (tfS_isWord (by omega) hg hK0 ) (fun y1 r2 => ?_)
  refine go_ifeq k253_6 (inR_b r2) (fun c5 => ?_) (fun c6 => ?_)
  · refine go_aload k253_11 rfl ?_
    refine go_ldcs k253_12 (by decide) (x := 2000009) rfl ?_
    refine go_callP3 k253_14 rfl rfl rfl ⟨by decide, _, rfl, hK0⟩ ⟨Nat.zero_le _, Nat.zero_le _⟩ (by omega) (tfS_isWord (by omega) hg hK0 ) (fun y7 r8 => ?_)
    refine go_ifeq k253_17 (inR_b r8) (fun c11 => ?_) (fun c12 => ?_)
    · refine go_aload k253_22 rfl ?_
      refine go_ldcs k253_23 (by decide) (x := 2000010) rfl ?_
      refine go_callP3 k253_25 rfl rfl rfl ⟨by decide, _, rfl, hK0⟩ ⟨Nat.zero_le _, Nat.zero_le _⟩ (by omega) (tfS_isWord (by omega) hg hK0 ) (fun y13 r14 => ?_)
      refine go_ifeq k253_28 (inR_b r14) (fun c17 => ?_) (fun c18 => ?_)
      · refine go_aload k253_33 rfl ?_
        refine go_ldcs k253_34 (by decide) (x := 2000011) rfl ?_
        refine go_callP3 k253_36 rfl rfl rfl ⟨by decide, _, rfl, hK0⟩ ⟨Nat.zero_le _, Nat.zero_le _⟩ (by omega) (tfS_isWord (by omega) hg hK0 ) (fun y19 r20 => ?_)
        refine go_ifeq k253_39 (inR_b r20) (fun c23 => ?_) (fun c24 => ?_)
        · refine go_aload k253_44 rfl ?_
          refine go_ldcs k253_45 (by decide) (x := 2000012) rfl ?_
          refine go_callP3 k253_47 rfl rfl rfl ⟨by decide, _, rfl, hK0⟩ ⟨Nat.zero_le _, Nat.zero_le _⟩ (by omega) (tfS_isWord (by omega) hg hK0 ) (fun y25 r26 => ?_)
          refine go_ifeq k253_50 (inR_b r26) (fun c29 => ?_) (fun c30 => ?_)
          · refine go_int k253_57 (-1) rfl ?_
            exact go_iret k253_58 hg (inR_of (by decide)) ⟨Nat.zero_le _, Nat.zero_le _⟩ rfl
          · refine go_int k253_53 4 rfl ?_
            refine go_goto k253_54 ?_
            exact go_iret k253_58 hg (inR_of (by decide)) ⟨Nat.zero_le _, Nat.zero_le _⟩ rfl
        · refine go_int k253_42 3 rfl ?_
          exact go_iret k253_43 hg (inR_of (by decide)) ⟨Nat.zero_le _, Nat.zero_le _⟩ rfl
      · refine go_int k253_31 2 rfl ?_
        exact go_iret k253_32 hg (inR_of (by decide)) ⟨Nat.zero_le _, Nat.zero_le _⟩ rfl
    · refine go_int k253_20 1 rfl ?_
      exact go_iret k253_21 hg (inR_b (Or.inr rfl)) ⟨Nat.zero_le _, Nat.zero_le _⟩ rfl
  · refine go_int k253_9 0 rfl ?_
    exact go_iret k253_10 hg (inR_b (Or.inl rfl)) ⟨Nat.zero_le _, Nat.zero_le _⟩ rfl
theorem tfS_fail {Φ : ev_P} {d : Nat} (hd : 0 ≤ d) {g : gH} (hg : HR g) {v0 v1 : Int} (hK0 : kd v0 = 4) (h1 : InR v1) : Go Φ pr_P fN 3 (fS_fail g v0 v1) d (pr_P 264) 0 (ev_loc (pr_P 264).1 [(sR v0), (sI v1)]) [] g 0 0 := by
  show Go Φ pr_P fN 3 (fS_fail g v0 v1) d pr_m264 0 [some (sR v0), some (sI v1)] [] g 0 0
  unfold fS_fail
  refine go_aload k264_0 rfl ?_
  refine go_iload k264_1 rfl ?_
  refine go_putI (bI := 2) k264_2 hg hK0 (by decide) rfl rfl h1 (fun g1 e2 => ?_)
  refine go_aload k264_5 rfl ?_
  refine go_aload k264_6 rfl ?_
  refine go_getI (bI := 5) k264_7 e2 hK0 (by decide) rfl rfl (fun r3 => ?_)
  refine go_putI (bI := 3) k264_10 e2 hK0 (by decide) rfl rfl r3 (fun g4 e5 => ?_)
  refine go_int k264_13 0 rfl ?_
  exact go_bret k264_14 e5 (Or.inl rfl) ⟨Nat.zero_le _, Nat.zero_le _⟩ rfl
theorem tfS_isBlank {Φ : ev_P} {d : Nat} (hd : 0 ≤ d) {g : gH} (hg : HR g) {v0 : Int} (h0 : InR v0) : Go Φ pr_P (fP g) 3 (fS_isBlank g v0) d (pr_P 266) 0 (ev_loc (pr_P 266).1 [(sI v0)]) [] g 0 0 := by
  show Go Φ pr_P (fP g) 3 (fS_isBlank g v0) d pr_m266 0 [some (sI v0)] [] g 0 0
  unfold fS_isBlank
  refine go_iload k266_0 rfl ?_
  refine go_int k266_1 32 rfl ?_
  refine go_cmeq k266_3 h0 (inR_of (by decide)) (fun c1 => ?_) (fun c2 => ?_)
  · refine go_int k266_12 1 rfl ?_
    refine go_goto k266_13 ?_
    exact go_bret k266_17 hg (Or.inr rfl) ⟨Nat.zero_le _, Nat.zero_le _⟩ rfl
  · refine go_iload k266_6 rfl ?_
    refine go_int k266_7 10 rfl ?_
    refine go_cmeq k266_9 h0 (inR_of (by decide)) (fun c3 => ?_) (fun c4 => ?_)
    · refine go_int k266_12 1 rfl ?_
      refine go_goto k266_13 ?_
      exact go_bret k266_17 hg (Or.inr rfl) ⟨Nat.zero_le _, Nat.zero_le _⟩ rfl
    · refine go_int k266_16 0 rfl ?_
      exact go_bret k266_17 hg (Or.inl rfl) ⟨Nat.zero_le _, Nat.zero_le _⟩ rfl
theorem tjS_kindOf_28 {Φ : ev_P} {d : Nat} (hd : 0 ≤ d) {g : gH} (hg : HR g) {v0 : Int} (h0 : InR v0) : Go Φ pr_P (fP g) 1 (jS_kindOf_28 g v0 ) d pr_m267 28 [some (sI v0)] [] g 0 0 := by
  unfold jS_kindOf_28
  refine go_iload k267_28 rfl ?_
  refine go_int k267_29 59 rfl ?_
  refine go_cmeq k267_31 h0 (inR_of (by decide)) (fun c9 => ?_) (fun c10 => ?_)
  · refine go_int k267_34 3 rfl ?_
    refine go_goto k267_35 ?_
    exact go_iret k267_39 hg (inR_of (by decide)) ⟨Nat.zero_le _, Nat.zero_le _⟩ rfl
  · refine go_int k267_38 4 rfl ?_
    exact go_iret k267_39 hg (inR_of (by decide)) ⟨Nat.zero_le _, Nat.zero_le _⟩ rfl
theorem tjS_kindOf_14 {Φ : ev_P} {d : Nat} (hd : 0 ≤ d) {g : gH} (hg : HR g) {v0 : Int} (h0 : InR v0) : Go Φ pr_P (fP g) 1 (jS_kindOf_14 g v0 ) d pr_m267 14 [some (sI v0)] [] g 0 0 := by
  unfold jS_kindOf_14
  refine go_iload k267_14 rfl ?_
  refine go_int k267_15 48 rfl ?_
  refine go_cmlt k267_17 h0 (inR_of (by decide)) (fun c5 => ?_) (fun c6 => ?_)
  · exact tjS_kindOf_28 hd hg h0
  · refine go_iload k267_20 rfl ?_
    refine go_int k267_21 57 rfl ?_
    refine go_cmgt k267_23 h0 (inR_of (by decide)) (fun c7 => ?_) (fun c8 => ?_)
    · exact tjS_kindOf_28 hd hg h0
    · refine go_int k267_26 2 rfl ?_
      exact go_iret k267_27 hg (inR_of (by decide)) ⟨Nat.zero_le _, Nat.zero_le _⟩ rfl
theorem tfS_kindOf {Φ : ev_P} {d : Nat} (hd : 0 ≤ d) {g : gH} (hg : HR g) {v0 : Int} (h0 : InR v0) : Go Φ pr_P (fP g) 1 (fS_kindOf g v0) d (pr_P 267) 0 (ev_loc (pr_P 267).1 [(sI v0)]) [] g 0 0 := by
  show Go Φ pr_P (fP g) 1 (fS_kindOf g v0) d pr_m267 0 [some (sI v0)] [] g 0 0
  unfold fS_kindOf
  refine go_iload k267_0 rfl ?_
  refine go_int k267_1 97 rfl ?_
  refine go_cmlt k267_3 h0 (inR_of (by decide)) (fun c1 => ?_) (fun c2 => ?_)
  · exact tjS_kindOf_14 hd hg h0
  · refine go_iload k267_6 rfl ?_
    refine go_int k267_7 122 rfl ?_
    refine go_cmgt k267_9 h0 (inR_of (by decide)) (fun c3 => ?_) (fun c4 => ?_)
    · exact tjS_kindOf_14 hd hg h0
    · refine go_int k267_12 1 rfl ?_
      exact go_iret k267_13 hg (inR_b (Or.inr rfl)) ⟨Nat.zero_le _, Nat.zero_le _⟩ rfl
theorem tjS_advance_215 {Φ : ev_P} {d : Nat} (hd : 1 ≤ d) {g : gH} (hg : HR g) {v0 : Int} (hK0 : kd v0 = 4) : Go Φ pr_P fN 0 (jS_advance_215 g v0 ) d pr_m265 215 [some (sR v0)] [] g 0 0 := by
  unfold jS_advance_215
  refine go_aload k265_215 rfl ?_
  refine go_getI (bI := 4) k265_216 hg hK0 (by decide) rfl rfl (fun r105 => ?_)
  refine go_int k265_219 2 rfl ?_
  refine go_cmeq k265_220 r105 (inR_of (by decide)) (fun c106 => ?_) (fun c107 => ?_)
  · refine go_aload k265_223 rfl ?_
    refine go_getI (bI := 6) k265_224 hg hK0 (by decide) rfl rfl (fun r108 => ?_)
    refine go_aload k265_227 rfl ?_
    refine go_getI (bI := 5) k265_228 hg hK0 (by decide) rfl rfl (fun r109 => ?_)
    refine go_isub k265_231 ?_
    refine go_int k265_232 2 rfl ?_
    refine go_cmgt k265_233 (inR_w32 _) (inR_of (by decide)) (fun c110 => ?_) (fun c111 => ?_)
    · refine go_aload k265_236 rfl ?_
      refine go_int k265_237 4 rfl ?_
      refine go_putI (bI := 4) k265_238 hg hK0 (by decide) rfl rfl (inR_of (by decide)) (fun g112 e113 => ?_)
      exact go_vret k265_241 e113 ⟨Nat.zero_le _, Nat.zero_le _⟩ rfl
    · exact go_vret k265_241 hg ⟨Nat.zero_le _, Nat.zero_le _⟩ rfl
  · exact go_vret k265_241 hg ⟨Nat.zero_le _, Nat.zero_le _⟩ rfl
theorem tjS_advance_141 {Φ : ev_P} {d : Nat} (hd : 1 ≤ d) {X125 : gH → Option (Int × gH)} {g : gH} (hg : HR g) {v0 : Int} (hK0 : kd v0 = 4) (HX125 : ∀ (g : gH) (hg : HR g), Go Φ pr_P fN 0 (X125 g) d pr_m265 125 [some (sR v0)] [] g 0 0) : Go Φ pr_P fN 0 (jS_advance_141 X125 g v0 ) d pr_m265 141 [some (sR v0)] [] g 0 0 := by
  unfold jS_advance_141
  refine go_aload k265_141 rfl ?_
  refine go_getI (bI := 6) k265_142 hg hK0 (by decide) rfl rfl (fun r74 => ?_)
  refine go_aload k265_145 rfl ?_
  refine go_getR (bI := 0) k265_146 hg hK0 (by decide) rfl rfl (fun r75 => ?_)
  refine go_ck (fun q76 => ?_)
  refine go_getI (bI := 1) k265_149 hg q76 (by decide) rfl rfl (fun r77 => ?_)
  refine go_cmlt k265_152 r74 r77 (fun c78 => ?_) (fun c79 => ?_)
  · refine go_aload k265_155 rfl ?_
    refine go_getR (bI := 0) k265_156 hg hK0 (by decide) rfl rfl (fun r80 => ?_)
    refine go_aload k265_159 rfl ?_
    refine go_getI (bI := 6) k265_160 hg hK0 (by decide) rfl rfl (fun r81 => ?_)
    refine go_callP1 k265_163 rfl rfl rfl ⟨by decide, _, rfl, q76⟩ ⟨Nat.zero_le _, Nat.zero_le _⟩ (by omega) (tfI_at (by omega) hg q76  r81) (fun y82 r83 => ?_)
    refine go_callP1 k265_166 rfl rfl rfl trivial ⟨Nat.zero_le _, Nat.zero_le _⟩ (by omega) (tfS_kindOf (by omega) hg  r83) (fun y86 r87 => ?_)
    refine go_aload k265_169 rfl ?_
    refine go_getI (bI := 4) k265_170 hg hK0 (by decide) rfl rfl (fun r90 => ?_)
    refine go_cmeq k265_173 r87 r90 (fun c91 => ?_) (fun c92 => ?_)
    · refine go_aload k265_176 rfl ?_
      refine go_int k265_177 10 rfl ?_
      refine go_aload k265_179 rfl ?_
      refine go_getI (bI := 7) k265_180 hg hK0 (by decide) rfl rfl (fun r93 => ?_)
      refine go_ibin k265_183 ?_
      refine go_aload k265_184 rfl ?_
      refine go_getR (bI := 0) k265_185 hg hK0 (by decide) rfl rfl (fun r94 => ?_)
      refine go_aload k265_188 rfl ?_
      refine go_getI (bI := 6) k265_189 hg hK0 (by decide) rfl rfl (fun r95 => ?_)
      refine go_callP1 k265_192 rfl rfl rfl ⟨by decide, _, rfl, q76⟩ ⟨Nat.zero_le _, Nat.zero_le _⟩ (by omega) (tfI_at (by omega) hg q76  r95) (fun y96 r97 => ?_)
      refine go_iadd k265_195 ?_
      refine go_int k265_196 48 rfl ?_
      refine go_isub k265_198 ?_
      refine go_putI (bI := 7) k265_199 hg hK0 (by decide) rfl rfl (inR_w32 _) (fun g100 e101 => ?_)
      refine go_aload k265_202 rfl ?_
      refine go_dupR k265_203 ?_
      refine go_getI (bI := 6) k265_204 e101 hK0 (by decide) rfl rfl (fun r102 => ?_)
      refine go_int k265_207 1 rfl ?_
      refine go_iadd k265_208 ?_
      refine go_putI (bI := 6) k265_209 e101 hK0 (by decide) rfl rfl (inR_w32 _) (fun g103 e104 => ?_)
      refine go_goto k265_212 ?_
      exact HX125 g103 e104
    · exact tjS_advance_215 hd hg hK0
  · exact tjS_advance_215 hd hg hK0
theorem tbS_advance_125 {Φ : ev_P} {d : Nat} (hd : 1 ≤ d) {v0 : Int} (hK0 : kd v0 = 4) {X125 : gH → Option (Int × gH)} (HX125 : ∀ (g : gH) (hg : HR g), Go Φ pr_P fN 0 (X125 g) d pr_m265 125 [some (sR v0)] [] g 0 0) : ∀ (g : gH) (hg : HR g), Go Φ pr_P fN 0 (bS_advance_125 v0 X125 g) d pr_m265 125 [some (sR v0)] [] g 0 0 := by
  intro g hg
  unfold bS_advance_125
  refine go_aload k265_125 rfl ?_
  refine go_getI (bI := 4) k265_126 hg hK0 (by decide) rfl rfl (fun r68 => ?_)
  refine go_int k265_129 1 rfl ?_
  refine go_cmeq k265_130 r68 (inR_b (Or.inr rfl)) (fun c69 => ?_) (fun c70 => ?_)
  · exact tjS_advance_141 hd hg hK0 HX125
  · refine go_aload k265_133 rfl ?_
    refine go_getI (bI := 4) k265_134 hg hK0 (by decide) rfl rfl (fun r71 => ?_)
    refine go_int k265_137 2 rfl ?_
    refine go_cmeq k265_138 r71 (inR_of (by decide)) (fun c72 => ?_) (fun c73 => ?_)
    · exact tjS_advance_141 hd hg hK0 HX125
    · exact tjS_advance_215 hd hg hK0
theorem tlS_advance_125 {Φ : ev_P} {d : Nat} (hd : 1 ≤ d) {v0 : Int} (hK0 : kd v0 = 4) : ∀ n : Nat, ∀ (g : gH) (hg : HR g), Go Φ pr_P fN 0 (lS_advance_125 v0 n g) d pr_m265 125 [some (sR v0)] [] g 0 0 := by
  intro n
  induction n with
  | zero => intros; exact go_none
  | succ n ih => exact tbS_advance_125 hd hK0 ih
theorem tjS_advance_52 {Φ : ev_P} {d : Nat} (hd : 1 ≤ d) {g : gH} (hg : HR g) {v0 : Int} (hK0 : kd v0 = 4) : Go Φ pr_P fN 0 (jS_advance_52 g v0 ) d pr_m265 52 [some (sR v0)] [] g 0 0 := by
  unfold jS_advance_52
  refine go_aload k265_52 rfl ?_
  refine go_aload k265_53 rfl ?_
  refine go_getI (bI := 5) k265_54 hg hK0 (by decide) rfl rfl (fun r25 => ?_)
  refine go_putI (bI := 6) k265_57 hg hK0 (by decide) rfl rfl r25 (fun g26 e27 => ?_)
  refine go_aload k265_60 rfl ?_
  refine go_int k265_61 0 rfl ?_
  refine go_putI (bI := 4) k265_62 e27 hK0 (by decide) rfl rfl (inR_b (Or.inl rfl)) (fun g28 e29 => ?_)
  refine go_aload k265_65 rfl ?_
  refine go_getI (bI := 5) k265_66 e29 hK0 (by decide) rfl rfl (fun r30 => ?_)
  refine go_aload k265_69 rfl ?_
  refine go_getR (bI := 0) k265_70 e29 hK0 (by decide) rfl rfl (fun r31 => ?_)
  refine go_ck (fun q32 => ?_)
  refine go_getI (bI := 1) k265_73 e29 q32 (by decide) rfl rfl (fun r33 => ?_)
  refine go_cmlt k265_76 r30 r33 (fun c34 => ?_) (fun c35 => ?_)
  · refine go_aload k265_79 rfl ?_
    refine go_aload k265_80 rfl ?_
    refine go_getR (bI := 0) k265_81 e29 hK0 (by decide) rfl rfl (fun r36 => ?_)
    refine go_aload k265_84 rfl ?_
    refine go_getI (bI := 5) k265_85 e29 hK0 (by decide) rfl rfl (fun r37 => ?_)
    refine go_callP1 k265_88 rfl rfl rfl ⟨by decide, _, rfl, q32⟩ ⟨Nat.zero_le _, Nat.zero_le _⟩ (by omega) (tfI_at (by omega) e29 q32  r37) (fun y38 r39 => ?_)
    refine go_callP1 k265_91 rfl rfl rfl trivial ⟨Nat.zero_le _, Nat.zero_le _⟩ (by omega) (tfS_kindOf (by omega) e29  r39) (fun y42 r43 => ?_)
    refine go_putI (bI := 4) k265_94 e29 hK0 (by decide) rfl rfl r43 (fun g46 e47 => ?_)
    refine go_aload k265_97 rfl ?_
    refine go_dupR k265_98 ?_
    refine go_getI (bI := 6) k265_99 e47 hK0 (by decide) rfl rfl (fun r48 => ?_)
    refine go_int k265_102 1 rfl ?_
    refine go_iadd k265_103 ?_
    refine go_putI (bI := 6) k265_104 e47 hK0 (by decide) rfl rfl (inR_w32 _) (fun g49 e50 => ?_)
    refine go_aload k265_107 rfl ?_
    refine go_aload k265_108 rfl ?_
    refine go_getR (bI := 0) k265_109 e50 hK0 (by decide) rfl rfl (fun r51 => ?_)
    refine go_aload k265_112 rfl ?_
    refine go_getI (bI := 5) k265_113 e50 hK0 (by decide) rfl rfl (fun r52 => ?_)
    refine go_ck (fun q53 => ?_)
    refine go_callP1 k265_116 rfl rfl rfl ⟨by decide, _, rfl, q53⟩ ⟨Nat.zero_le _, Nat.zero_le _⟩ (by omega) (tfI_at (by omega) e50 q53  r52) (fun y54 r55 => ?_)
    refine go_int k265_119 48 rfl ?_
    refine go_isub k265_121 ?_
    refine go_putI (bI := 7) k265_122 e50 hK0 (by decide) rfl rfl (inR_w32 _) (fun g58 e59 => ?_)
    exact tlS_advance_125 hd hK0 fu g58 e59
  · refine go_aload k265_107 rfl ?_
    refine go_aload k265_108 rfl ?_
    refine go_getR (bI := 0) k265_109 e29 hK0 (by decide) rfl rfl (fun r60 => ?_)
    refine go_aload k265_112 rfl ?_
    refine go_getI (bI := 5) k265_113 e29 hK0 (by decide) rfl rfl (fun r61 => ?_)
    refine go_callP1 k265_116 rfl rfl rfl ⟨by decide, _, rfl, q32⟩ ⟨Nat.zero_le _, Nat.zero_le _⟩ (by omega) (tfI_at (by omega) e29 q32  r61) (fun y62 r63 => ?_)
    refine go_int k265_119 48 rfl ?_
    refine go_isub k265_121 ?_
    refine go_putI (bI := 7) k265_122 e29 hK0 (by decide) rfl rfl (inR_w32 _) (fun g66 e67 => ?_)
    exact tlS_advance_125 hd hK0 fu g66 e67
theorem tbS_advance_8 {Φ : ev_P} {d : Nat} (hd : 1 ≤ d) {v0 : Int} (hK0 : kd v0 = 4) {X8 : gH → Option (Int × gH)} (HX8 : ∀ (g : gH) (hg : HR g), Go Φ pr_P fN 0 (X8 g) d pr_m265 8 [some (sR v0)] [] g 0 0) : ∀ (g : gH) (hg : HR g), Go Φ pr_P fN 0 (bS_advance_8 v0 X8 g) d pr_m265 8 [some (sR v0)] [] g 0 0 := by
  intro g hg
  unfold bS_advance_8
  refine go_aload k265_8 rfl ?_
  refine go_getI (bI := 5) k265_9 hg hK0 (by decide) rfl rfl (fun r4 => ?_)
  refine go_aload k265_12 rfl ?_
  refine go_getR (bI := 0) k265_13 hg hK0 (by decide) rfl rfl (fun r5 => ?_)
  refine go_ck (fun q6 => ?_)
  refine go_getI (bI := 1) k265_16 hg q6 (by decide) rfl rfl (fun r7 => ?_)
  refine go_cmlt k265_19 r4 r7 (fun c8 => ?_) (fun c9 => ?_)
  · refine go_aload k265_22 rfl ?_
    refine go_getR (bI := 0) k265_23 hg hK0 (by decide) rfl rfl (fun r10 => ?_)
    refine go_aload k265_26 rfl ?_
    refine go_getI (bI := 5) k265_27 hg hK0 (by decide) rfl rfl (fun r11 => ?_)
    refine go_callP1 k265_30 rfl rfl rfl ⟨by decide, _, rfl, q6⟩ ⟨Nat.zero_le _, Nat.zero_le _⟩ (by omega) (tfI_at (by omega) hg q6  r11) (fun y12 r13 => ?_)
    refine go_callP3 k265_33 rfl rfl rfl trivial ⟨Nat.zero_le _, Nat.zero_le _⟩ (by omega) (tfS_isBlank (by omega) hg  r13) (fun y16 r17 => ?_)
    refine go_ifeq k265_36 (inR_b r17) (fun c20 => ?_) (fun c21 => ?_)
    · exact tjS_advance_52 hd hg hK0
    · refine go_aload k265_39 rfl ?_
      refine go_dupR k265_40 ?_
      refine go_getI (bI := 5) k265_41 hg hK0 (by decide) rfl rfl (fun r22 => ?_)
      refine go_int k265_44 1 rfl ?_
      refine go_iadd k265_45 ?_
      refine go_putI (bI := 5) k265_46 hg hK0 (by decide) rfl rfl (inR_w32 _) (fun g23 e24 => ?_)
      refine go_goto k265_49 ?_
      exact HX8 g23 e24
  · exact tjS_advance_52 hd hg hK0
theorem tlS_advance_8 {Φ : ev_P} {d : Nat} (hd : 1 ≤ d) {v0 : Int} (hK0 : kd v0 = 4) : ∀ n : Nat, ∀ (g : gH) (hg : HR g), Go Φ pr_P fN 0 (lS_advance_8 v0 n g) d pr_m265 8 [some (sR v0)] [] g 0 0 := by
  intro n
  induction n with
  | zero => intros; exact go_none
  | succ n ih => exact tbS_advance_8 hd hK0 ih
theorem tfS_advance {Φ : ev_P} {d : Nat} (hd : 1 ≤ d) {g : gH} (hg : HR g) {v0 : Int} (hK0 : kd v0 = 4) : Go Φ pr_P fN 0 (fS_advance g v0) d (pr_P 265) 0 (ev_loc (pr_P 265).1 [(sR v0)]) [] g 0 0 := by
  show Go Φ pr_P fN 0 (fS_advance g v0) d pr_m265 0 [some (sR v0)] [] g 0 0
  unfold fS_advance
  refine go_aload k265_0 rfl ?_
  refine go_aload k265_1 rfl ?_
  refine go_getI (bI := 6) k265_2 hg hK0 (by decide) rfl rfl (fun r1 => ?_)
  refine go_putI (bI := 5) k265_5 hg hK0 (by decide) rfl rfl r1 (fun g2 e3 => ?_)
  exact tlS_advance_8 hd hK0 fu g2 e3
theorem tbT_hasRule_11 {Φ : ev_P} {d : Nat} (hd : 0 ≤ d) {g : gH} (hg : HR g) {v1 v2 v3 : Int} (h1 : InR v1) (h2 : RfR v2) (h3 : InR v3) {X11 : Int → Option Int} (HX11 : ∀ (v4 : Int) (h4 : InR v4) (u0 : Option ev_V) (w0 : nwo u0) (u5 : Option ev_V) (w5 : nwo u5), Go Φ pr_P (fP g) 3 (X11 v4) d pr_m271 11 [u0, some (sI v1), some (sR v2), some (sI v3), some (sI v4), u5] [] g 0 0) : ∀ (v4 : Int) (h4 : InR v4) (u0 : Option ev_V) (w0 : nwo u0) (u5 : Option ev_V) (w5 : nwo u5), Go Φ pr_P (fP g) 3 (bT_hasRule_11 g v1 v2 v3 X11 v4) d pr_m271 11 [u0, some (sI v1), some (sR v2), some (sI v3), some (sI v4), u5] [] g 0 0 := by
  intro v4 h4 u0 w0 u5 w5
  unfold bT_hasRule_11
  refine go_iload k271_11 rfl ?_
  refine go_iload k271_13 rfl ?_
  refine go_cmlt k271_14 h4 h3 (fun c4 => ?_) (fun c5 => ?_)
  · refine go_aload k271_17 rfl ?_
    refine go_iload k271_18 rfl ?_
    refine go_ck (fun q7 => ?_)
    refine go_iald k271_20 hg q7 (fun r6 => ?_)
    refine go_istore k271_21 rfl (loc2 := [u0, some (sI v1), some (sR v2), some (sI v3), some (sI v4), some (sI (g v2 v4))]) rfl ?_
    refine go_iload k271_23 rfl ?_
    refine go_iload k271_25 rfl ?_
    refine go_cmeq k271_26 r6 h1 (fun c8 => ?_) (fun c9 => ?_)
    · refine go_int k271_29 1 rfl ?_
      exact go_bret k271_30 hg (Or.inr rfl) ⟨Nat.zero_le _, Nat.zero_le _⟩ rfl
    · refine go_iinc k271_31 rfl rfl 1 rfl (loc2 := [u0, some (sI v1), some (sR v2), some (sI v3), some (sI (w32 (v4 + 1))), some (sI (g v2 v4))]) rfl ?_
      refine go_goto k271_34 ?_
      exact HX11 (w32 (v4 + 1)) (inR_w32 _) u0 w0 (some (sI (g v2 v4))) rfl
  · refine go_int k271_37 0 rfl ?_
    exact go_bret k271_38 hg (Or.inl rfl) ⟨Nat.zero_le _, Nat.zero_le _⟩ rfl
theorem tlT_hasRule_11 {Φ : ev_P} {d : Nat} (hd : 0 ≤ d) {g : gH} (hg : HR g) {v1 v2 v3 : Int} (h1 : InR v1) (h2 : RfR v2) (h3 : InR v3) : ∀ n : Nat, ∀ (v4 : Int) (h4 : InR v4) (u0 : Option ev_V) (w0 : nwo u0) (u5 : Option ev_V) (w5 : nwo u5), Go Φ pr_P (fP g) 3 (lT_hasRule_11 g v1 v2 v3 n v4) d pr_m271 11 [u0, some (sI v1), some (sR v2), some (sI v3), some (sI v4), u5] [] g 0 0 := by
  intro n
  induction n with
  | zero => intros; exact go_none
  | succ n ih => exact tbT_hasRule_11 hd hg h1 h2 h3 ih
theorem tfT_hasRule {Φ : ev_P} {d : Nat} (hd : 0 ≤ d) {g : gH} (hg : HR g) {v0 v1 : Int} (hK0 : kd v0 = 5) (h1 : InR v1) : Go Φ pr_P (fP g) 3 (fT_hasRule g v0 v1) d (pr_P 271) 0 (ev_loc (pr_P 271).1 [(sR v0), (sI v1)]) [] g 0 0 := by
  show Go Φ pr_P (fP g) 3 (fT_hasRule g v0 v1) d pr_m271 0 [some (sR v0), some (sI v1), none, none, none, none] [] g 0 0
  unfold fT_hasRule
  refine go_aload k271_0 rfl ?_
  refine go_getR (bI := 3) k271_1 hg hK0 (by decide) rfl rfl (fun r1 => ?_)
  refine go_astore k271_4 rfl (loc2 := [some (sR v0), some (sI v1), some (sR (g v0 3)), none, none, none]) rfl ?_
  refine go_aload k271_5 rfl ?_
  refine go_ck (fun q3 => ?_)
  refine go_alen k271_6 (ka_20 q3) (fun r2 => ?_)
  refine go_istore k271_7 rfl (loc2 := [some (sR v0), some (sI v1), some (sR (g v0 3)), some (sI (sz (g v0 3))), none, none]) rfl ?_
  refine go_int k271_8 0 rfl ?_
  refine go_istore k271_9 rfl (loc2 := [some (sR v0), some (sI v1), some (sR (g v0 3)), some (sI (sz (g v0 3))), some (sI 0), none]) rfl ?_
  exact tlT_hasRule_11 hd hg h1 r1 r2 fu 0 (inR_b (Or.inl rfl)) (some (sR v0)) rfl none rfl
theorem tjS_takeOrder_119 {Φ : ev_P} {d : Nat} (hd : 3 ≤ d) {g : gH} (hg : HR g) {s0 s1 : Int} (z0 : RfR s0) (z1 : InR s1) (u0 : Option ev_V) (w0 : nwo u0) (u1 : Option ev_V) (w1 : nwo u1) (u2 : Option ev_V) (w2 : nwo u2) : Go Φ pr_P fN 3 (jS_takeOrder_119 g s0 s1 ) d pr_m252 119 [u0, u1, u2] [(sI s1), (sR s0)] g 0 0 := by
  unfold jS_takeOrder_119
  refine go_ck (fun q65 => ?_)
  refine go_callN3 k252_119 rfl rfl rfl ⟨by decide, _, rfl, q65⟩ ⟨Nat.zero_le _, Nat.zero_le _⟩ (by omega) (tfS_fail (by omega) hg q65  z1) (fun y66 g68 r67 e69 => ?_)
  refine go_ifeq k252_122 (inR_b r67) (fun c70 => ?_) (fun c71 => ?_)
  · refine go_int k252_129 0 rfl ?_
    exact go_bret k252_130 e69 (Or.inl rfl) ⟨Nat.zero_le _, Nat.zero_le _⟩ rfl
  · refine go_int k252_125 1 rfl ?_
    refine go_goto k252_126 ?_
    exact go_bret k252_130 e69 (Or.inr rfl) ⟨Nat.zero_le _, Nat.zero_le _⟩ rfl
theorem tjS_takeOrder_97 {Φ : ev_P} {d : Nat} (hd : 3 ≤ d) {g : gH} (hg : HR g) {v0 : Int} (hK0 : kd v0 = 4) (u1 : Option ev_V) (w1 : nwo u1) (u2 : Option ev_V) (w2 : nwo u2) : Go Φ pr_P fN 3 (jS_takeOrder_97 g v0 ) d pr_m252 97 [some (sR v0), u1, u2] [] g 0 0 := by
  unfold jS_takeOrder_97
  refine go_aload k252_97 rfl ?_
  refine go_getI (bI := 4) k252_98 hg hK0 (by decide) rfl rfl (fun r56 => ?_)
  refine go_int k252_101 3 rfl ?_
  refine go_cmeq k252_102 r56 (inR_of (by decide)) (fun c57 => ?_) (fun c58 => ?_)
  · refine go_int k252_125 1 rfl ?_
    refine go_goto k252_126 ?_
    exact go_bret k252_130 hg (Or.inr rfl) ⟨Nat.zero_le _, Nat.zero_le _⟩ rfl
  · refine go_aload k252_105 rfl ?_
    refine go_aload k252_106 rfl ?_
    refine go_callP1 k252_107 rfl rfl rfl ⟨by decide, _, rfl, hK0⟩ ⟨Nat.zero_le _, Nat.zero_le _⟩ (by omega) (tfS_ruleOfWord (by omega) hg hK0 ) (fun y59 r60 => ?_)
    refine go_int k252_110 (-1) rfl ?_
    refine go_cmeq k252_111 r60 (inR_of (by decide)) (fun c63 => ?_) (fun c64 => ?_)
    · refine go_int k252_114 1 rfl ?_
      refine go_goto k252_115 ?_
      exact tjS_takeOrder_119 hd hg (rfR_kd hK0 (by decide)) (inR_b (Or.inr rfl)) (some (sR v0)) rfl u1 w1 u2 w2
    · refine go_int k252_118 3 rfl ?_
      exact tjS_takeOrder_119 hd hg (rfR_kd hK0 (by decide)) (inR_of (by decide)) (some (sR v0)) rfl u1 w1 u2 w2
theorem tbS_takeOrder_31 {Φ : ev_P} {d : Nat} (hd : 3 ≤ d) {v0 : Int} (hK0 : kd v0 = 4) {X31 : Int → gH → Option (Int × gH)} (HX31 : ∀ (v1 : Int) (h1 : InR v1) (g : gH) (hg : HR g) (u2 : Option ev_V) (w2 : nwo u2), Go Φ pr_P fN 3 (X31 v1 g) d pr_m252 31 [some (sR v0), some (sI v1), u2] [] g 0 0) : ∀ (v1 : Int) (h1 : InR v1) (g : gH) (hg : HR g) (u2 : Option ev_V) (w2 : nwo u2), Go Φ pr_P fN 3 (bS_takeOrder_31 v0 X31 v1 g) d pr_m252 31 [some (sR v0), some (sI v1), u2] [] g 0 0 := by
  intro v1 h1 g hg u2 w2
  unfold bS_takeOrder_31
  refine go_iload k252_31 rfl ?_
  refine go_int k252_32 5 rfl ?_
  refine go_cmlt k252_33 h1 (inR_of (by decide)) (fun c20 => ?_) (fun c21 => ?_)
  · refine go_aload k252_36 rfl ?_
    refine go_getI (bI := 4) k252_37 hg hK0 (by decide) rfl rfl (fun r22 => ?_)
    refine go_int k252_40 1 rfl ?_
    refine go_cmeq k252_41 r22 (inR_b (Or.inr rfl)) (fun c23 => ?_) (fun c24 => ?_)
    · refine go_aload k252_44 rfl ?_
      refine go_callP1 k252_45 rfl rfl rfl ⟨by decide, _, rfl, hK0⟩ ⟨Nat.zero_le _, Nat.zero_le _⟩ (by omega) (tfS_ruleOfWord (by omega) hg hK0 ) (fun y25 r26 => ?_)
      refine go_istore k252_48 rfl (loc2 := [some (sR v0), some (sI v1), some (sI y25)]) rfl ?_
      refine go_iload k252_49 rfl ?_
      refine go_int k252_50 (-1) rfl ?_
      refine go_cmeq k252_51 r26 (inR_of (by decide)) (fun c29 => ?_) (fun c30 => ?_)
      · refine go_aload k252_54 rfl ?_
        refine go_int k252_55 1 rfl ?_
        refine go_callN3 k252_56 rfl rfl rfl ⟨by decide, _, rfl, hK0⟩ ⟨Nat.zero_le _, Nat.zero_le _⟩ (by omega) (tfS_fail (by omega) hg hK0  (inR_b (Or.inr rfl))) (fun y31 g33 r32 e34 => ?_)
        exact go_bret k252_59 e34 r32 ⟨Nat.zero_le _, Nat.zero_le _⟩ rfl
      · refine go_aload k252_60 rfl ?_
        refine go_getR (bI := 1) k252_61 hg hK0 (by decide) rfl rfl (fun r35 => ?_)
        refine go_iload k252_64 rfl ?_
        refine go_ck (fun q36 => ?_)
        refine go_callP3 k252_65 rfl rfl rfl ⟨by decide, _, rfl, q36⟩ ⟨Nat.zero_le _, Nat.zero_le _⟩ (by omega) (tfT_hasRule (by omega) hg q36  r26) (fun y37 r38 => ?_)
        refine go_ifeq k252_68 (inR_b r38) (fun c41 => ?_) (fun c42 => ?_)
        · refine go_aload k252_77 rfl ?_
          refine go_getR (bI := 1) k252_78 hg hK0 (by decide) rfl rfl (fun r43 => ?_)
          refine go_getR (bI := 3) k252_81 hg q36 (by decide) rfl rfl (fun r44 => ?_)
          refine go_iload k252_84 rfl ?_
          refine go_iload k252_85 rfl ?_
          refine go_ck (fun q45 => ?_)
          refine go_iast k252_86 hg q45 r26 (fun g46 e47 => ?_)
          refine go_aload k252_87 rfl ?_
          refine go_callN0 k252_88 rfl rfl rfl ⟨by decide, _, rfl, hK0⟩ ⟨Nat.zero_le _, Nat.zero_le _⟩ (by omega) (tfS_advance (by omega) e47 hK0 ) (fun y48 g50 e51 => ?_)
          refine go_iinc k252_91 rfl rfl 1 rfl (loc2 := [some (sR v0), some (sI (w32 (v1 + 1))), some (sI y25)]) rfl ?_
          refine go_goto k252_94 ?_
          exact HX31 (w32 (v1 + 1)) (inR_w32 _) g50 e51 (some (sI y25)) rfl
        · refine go_aload k252_71 rfl ?_
          refine go_int k252_72 3 rfl ?_
          refine go_callN3 k252_73 rfl rfl rfl ⟨by decide, _, rfl, hK0⟩ ⟨Nat.zero_le _, Nat.zero_le _⟩ (by omega) (tfS_fail (by omega) hg hK0  (inR_of (by decide))) (fun y52 g54 r53 e55 => ?_)
          exact go_bret k252_76 e55 r53 ⟨Nat.zero_le _, Nat.zero_le _⟩ rfl
    · exact tjS_takeOrder_97 hd hg hK0 (some (sI v1)) rfl u2 w2
  · exact tjS_takeOrder_97 hd hg hK0 (some (sI v1)) rfl u2 w2
theorem tlS_takeOrder_31 {Φ : ev_P} {d : Nat} (hd : 3 ≤ d) {v0 : Int} (hK0 : kd v0 = 4) : ∀ n : Nat, ∀ (v1 : Int) (h1 : InR v1) (g : gH) (hg : HR g) (u2 : Option ev_V) (w2 : nwo u2), Go Φ pr_P fN 3 (lS_takeOrder_31 v0 n v1 g) d pr_m252 31 [some (sR v0), some (sI v1), u2] [] g 0 0 := by
  intro n
  induction n with
  | zero => intros; exact go_none
  | succ n ih => exact tbS_takeOrder_31 hd hK0 ih
theorem tfS_takeOrder {Φ : ev_P} {d : Nat} (hd : 3 ≤ d) {g : gH} (hg : HR g) {v0 : Int} (hK0 : kd v0 = 4) : Go Φ pr_P fN 3 (fS_takeOrder g v0) d (pr_P 252) 0 (ev_loc (pr_P 252).1 [(sR v0)]) [] g 0 0 := by
  show Go Φ pr_P fN 3 (fS_takeOrder g v0) d pr_m252 0 [some (sR v0), none, none] [] g 0 0
  unfold fS_takeOrder
  refine go_aload k252_0 rfl ?_
  refine go_getB (bI := 8) k252_1 hg hK0 (by decide) rfl rfl (fun r1 => ?_)
  refine go_ifeq k252_4 (inR_b r1) (fun c2 => ?_) (fun c3 => ?_)
  · refine go_aload k252_13 rfl ?_
    refine go_int k252_14 1 rfl ?_
    refine go_putB (bI := 8) k252_15 hg hK0 (by decide) rfl rfl (Or.inr rfl) (fun g4 e5 => ?_)
    refine go_aload k252_18 rfl ?_
    refine go_getR (bI := 1) k252_19 e5 hK0 (by decide) rfl rfl (fun r6 => ?_)
    refine go_ck (fun q7 => ?_)
    refine go_callN0 k252_22 rfl rfl rfl ⟨by decide, _, rfl, q7⟩ ⟨Nat.zero_le _, Nat.zero_le _⟩ (by omega) (tfT_clearRules (by omega) e5 q7 ) (fun y8 g10 e11 => ?_)
    refine go_aload k252_25 rfl ?_
    refine go_callN0 k252_26 rfl rfl rfl ⟨by decide, _, rfl, hK0⟩ ⟨Nat.zero_le _, Nat.zero_le _⟩ (by omega) (tfS_advance (by omega) e11 hK0 ) (fun y12 g14 e15 => ?_)
    refine go_int k252_29 0 rfl ?_
    refine go_istore k252_30 rfl (loc2 := [some (sR v0), some (sI 0), none]) rfl ?_
    exact tlS_takeOrder_31 hd hK0 fu 0 (inR_b (Or.inl rfl)) g14 e15 none rfl
  · refine go_aload k252_7 rfl ?_
    refine go_int k252_8 3 rfl ?_
    refine go_callN3 k252_9 rfl rfl rfl ⟨by decide, _, rfl, hK0⟩ ⟨Nat.zero_le _, Nat.zero_le _⟩ (by omega) (tfS_fail (by omega) hg hK0  (inR_of (by decide))) (fun y16 g18 r17 e19 => ?_)
    exact go_bret k252_12 e19 r17 ⟨Nat.zero_le _, Nat.zero_le _⟩ rfl
theorem tjS_takeNumber_34 {Φ : ev_P} {d : Nat} (hd : 2 ≤ d) {g : gH} (hg : HR g) {v0 : Int} (hK0 : kd v0 = 4) (u1 : Option ev_V) (w1 : nwo u1) (u2 : Option ev_V) (w2 : nwo u2) : Go Φ pr_P fN 3 (jS_takeNumber_34 g v0 ) d pr_m262 34 [some (sR v0), u1, u2] [] g 0 0 := by
  unfold jS_takeNumber_34
  refine go_aload k262_34 rfl ?_
  refine go_int k262_35 2 rfl ?_
  refine go_callN3 k262_36 rfl rfl rfl ⟨by decide, _, rfl, hK0⟩ ⟨Nat.zero_le _, Nat.zero_le _⟩ (by omega) (tfS_fail (by omega) hg hK0  (inR_of (by decide))) (fun y18 g20 r19 e21 => ?_)
  refine go_ifeq k262_39 (inR_b r19) (fun c22 => ?_) (fun c23 => ?_)
  · refine go_int k262_46 0 rfl ?_
    exact go_bret k262_47 e21 (Or.inl rfl) ⟨Nat.zero_le _, Nat.zero_le _⟩ rfl
  · refine go_int k262_42 1 rfl ?_
    refine go_goto k262_43 ?_
    exact go_bret k262_47 e21 (Or.inr rfl) ⟨Nat.zero_le _, Nat.zero_le _⟩ rfl
theorem tfS_takeNumber {Φ : ev_P} {d : Nat} (hd : 2 ≤ d) {g : gH} (hg : HR g) {v0 v1 v2 : Int} (hK0 : kd v0 = 4) (h1 : InR v1) (h2 : InR v2) : Go Φ pr_P fN 3 (fS_takeNumber g v0 v1 v2) d (pr_P 262) 0 (ev_loc (pr_P 262).1 [(sR v0), (sI v1), (sI v2)]) [] g 0 0 := by
  show Go Φ pr_P fN 3 (fS_takeNumber g v0 v1 v2) d pr_m262 0 [some (sR v0), some (sI v1), some (sI v2)] [] g 0 0
  unfold fS_takeNumber
  refine go_aload k262_0 rfl ?_
  refine go_callN0 k262_1 rfl rfl rfl ⟨by decide, _, rfl, hK0⟩ ⟨Nat.zero_le _, Nat.zero_le _⟩ (by omega) (tfS_advance (by omega) hg hK0 ) (fun y1 g3 e4 => ?_)
  refine go_aload k262_4 rfl ?_
  refine go_getI (bI := 4) k262_5 e4 hK0 (by decide) rfl rfl (fun r5 => ?_)
  refine go_int k262_8 2 rfl ?_
  refine go_cmeq k262_9 r5 (inR_of (by decide)) (fun c6 => ?_) (fun c7 => ?_)
  · refine go_aload k262_18 rfl ?_
    refine go_getI (bI := 7) k262_19 e4 hK0 (by decide) rfl rfl (fun r8 => ?_)
    refine go_iload k262_22 rfl ?_
    refine go_cmlt k262_23 r8 h1 (fun c9 => ?_) (fun c10 => ?_)
    · exact tjS_takeNumber_34 hd e4 hK0 (some (sI v1)) rfl (some (sI v2)) rfl
    · refine go_aload k262_26 rfl ?_
      refine go_getI (bI := 7) k262_27 e4 hK0 (by decide) rfl rfl (fun r11 => ?_)
      refine go_iload k262_30 rfl ?_
      refine go_cmgt k262_31 r11 h2 (fun c12 => ?_) (fun c13 => ?_)
      · exact tjS_takeNumber_34 hd e4 hK0 (some (sI v1)) rfl (some (sI v2)) rfl
      · refine go_int k262_42 1 rfl ?_
        refine go_goto k262_43 ?_
        exact go_bret k262_47 e4 (Or.inr rfl) ⟨Nat.zero_le _, Nat.zero_le _⟩ rfl
  · refine go_aload k262_12 rfl ?_
    refine go_int k262_13 1 rfl ?_
    refine go_callN3 k262_14 rfl rfl rfl ⟨by decide, _, rfl, hK0⟩ ⟨Nat.zero_le _, Nat.zero_le _⟩ (by omega) (tfS_fail (by omega) e4 hK0  (inR_b (Or.inr rfl))) (fun y14 g16 r15 e17 => ?_)
    exact go_bret k262_17 e17 r15 ⟨Nat.zero_le _, Nat.zero_le _⟩ rfl
theorem tfS_takeSemicolon {Φ : ev_P} {d : Nat} (hd : 2 ≤ d) {g : gH} (hg : HR g) {v0 : Int} (hK0 : kd v0 = 4) : Go Φ pr_P fN 3 (fS_takeSemicolon g v0) d (pr_P 263) 0 (ev_loc (pr_P 263).1 [(sR v0)]) [] g 0 0 := by
  show Go Φ pr_P fN 3 (fS_takeSemicolon g v0) d pr_m263 0 [some (sR v0)] [] g 0 0
  unfold fS_takeSemicolon
  refine go_aload k263_0 rfl ?_
  refine go_callN0 k263_1 rfl rfl rfl ⟨by decide, _, rfl, hK0⟩ ⟨Nat.zero_le _, Nat.zero_le _⟩ (by omega) (tfS_advance (by omega) hg hK0 ) (fun y1 g3 e4 => ?_)
  refine go_aload k263_4 rfl ?_
  refine go_getI (bI := 4) k263_5 e4 hK0 (by decide) rfl rfl (fun r5 => ?_)
  refine go_int k263_8 3 rfl ?_
  refine go_cmeq k263_9 r5 (inR_of (by decide)) (fun c6 => ?_) (fun c7 => ?_)
  · refine go_int k263_20 1 rfl ?_
    refine go_goto k263_21 ?_
    exact go_bret k263_25 e4 (Or.inr rfl) ⟨Nat.zero_le _, Nat.zero_le _⟩ rfl
  · refine go_aload k263_12 rfl ?_
    refine go_int k263_13 1 rfl ?_
    refine go_callN3 k263_14 rfl rfl rfl ⟨by decide, _, rfl, hK0⟩ ⟨Nat.zero_le _, Nat.zero_le _⟩ (by omega) (tfS_fail (by omega) e4 hK0  (inR_b (Or.inr rfl))) (fun y8 g10 r9 e11 => ?_)
    refine go_ifeq k263_17 (inR_b r9) (fun c12 => ?_) (fun c13 => ?_)
    · refine go_int k263_24 0 rfl ?_
      exact go_bret k263_25 e11 (Or.inl rfl) ⟨Nat.zero_le _, Nat.zero_le _⟩ rfl
    · refine go_int k263_20 1 rfl ?_
      refine go_goto k263_21 ?_
      exact go_bret k263_25 e11 (Or.inr rfl) ⟨Nat.zero_le _, Nat.zero_le _⟩ rfl
theorem tfS_takeDeep {Φ : ev_P} {d : Nat} (hd : 3 ≤ d) {g : gH} (hg : HR g) {v0 : Int} (hK0 : kd v0 = 4) : Go Φ pr_P fN 3 (fS_takeDeep g v0) d (pr_P 254) 0 (ev_loc (pr_P 254).1 [(sR v0)]) [] g 0 0 := by
  show Go Φ pr_P fN 3 (fS_takeDeep g v0) d pr_m254 0 [some (sR v0)] [] g 0 0
  unfold fS_takeDeep
  refine go_aload k254_0 rfl ?_
  refine go_getB (bI := 9) k254_1 hg hK0 (by decide) rfl rfl (fun r1 => ?_)
  refine go_ifeq k254_4 (inR_b r1) (fun c2 => ?_) (fun c3 => ?_)
  · refine go_aload k254_13 rfl ?_
    refine go_int k254_14 1 rfl ?_
    refine go_putB (bI := 9) k254_15 hg hK0 (by decide) rfl rfl (Or.inr rfl) (fun g4 e5 => ?_)
    refine go_aload k254_18 rfl ?_
    refine go_int k254_19 1 rfl ?_
    refine go_int k254_20 20 rfl ?_
    refine go_callN3 k254_22 rfl rfl rfl ⟨by decide, _, rfl, hK0⟩ ⟨Nat.zero_le _, Nat.zero_le _⟩ (by omega) (tfS_takeNumber (by omega) e5 hK0  (inR_b (Or.inr rfl)) (inR_of (by decide))) (fun y6 g8 r7 e9 => ?_)
    refine go_ifeq k254_25 (inR_b r7) (fun c10 => ?_) (fun c11 => ?_)
    · refine go_int k254_28 0 rfl ?_
      exact go_bret k254_29 e9 (Or.inl rfl) ⟨Nat.zero_le _, Nat.zero_le _⟩ rfl
    · refine go_aload k254_30 rfl ?_
      refine go_getR (bI := 1) k254_31 e9 hK0 (by decide) rfl rfl (fun r12 => ?_)
      refine go_aload k254_34 rfl ?_
      refine go_getI (bI := 7) k254_35 e9 hK0 (by decide) rfl rfl (fun r13 => ?_)
      refine go_ck (fun q14 => ?_)
      refine go_putI (bI := 4) k254_38 e9 q14 (by decide) rfl rfl r13 (fun g15 e16 => ?_)
      refine go_aload k254_41 rfl ?_
      refine go_callN3 k254_42 rfl rfl rfl ⟨by decide, _, rfl, hK0⟩ ⟨Nat.zero_le _, Nat.zero_le _⟩ (by omega) (tfS_takeSemicolon (by omega) e16 hK0 ) (fun y17 g19 r18 e20 => ?_)
      exact go_bret k254_45 e20 r18 ⟨Nat.zero_le _, Nat.zero_le _⟩ rfl
  · refine go_aload k254_7 rfl ?_
    refine go_int k254_8 3 rfl ?_
    refine go_callN3 k254_9 rfl rfl rfl ⟨by decide, _, rfl, hK0⟩ ⟨Nat.zero_le _, Nat.zero_le _⟩ (by omega) (tfS_fail (by omega) hg hK0  (inR_of (by decide))) (fun y21 g23 r22 e24 => ?_)
    exact go_bret k254_12 e24 r22 ⟨Nat.zero_le _, Nat.zero_le _⟩ rfl
theorem tfS_takeRoot {Φ : ev_P} {d : Nat} (hd : 3 ≤ d) {g : gH} (hg : HR g) {v0 : Int} (hK0 : kd v0 = 4) : Go Φ pr_P fN 3 (fS_takeRoot g v0) d (pr_P 255) 0 (ev_loc (pr_P 255).1 [(sR v0)]) [] g 0 0 := by
  show Go Φ pr_P fN 3 (fS_takeRoot g v0) d pr_m255 0 [some (sR v0)] [] g 0 0
  unfold fS_takeRoot
  refine go_aload k255_0 rfl ?_
  refine go_getB (bI := 10) k255_1 hg hK0 (by decide) rfl rfl (fun r1 => ?_)
  refine go_ifeq k255_4 (inR_b r1) (fun c2 => ?_) (fun c3 => ?_)
  · refine go_aload k255_13 rfl ?_
    refine go_int k255_14 1 rfl ?_
    refine go_putB (bI := 10) k255_15 hg hK0 (by decide) rfl rfl (Or.inr rfl) (fun g4 e5 => ?_)
    refine go_aload k255_18 rfl ?_
    refine go_int k255_19 0 rfl ?_
    refine go_int k255_20 9 rfl ?_
    refine go_callN3 k255_22 rfl rfl rfl ⟨by decide, _, rfl, hK0⟩ ⟨Nat.zero_le _, Nat.zero_le _⟩ (by omega) (tfS_takeNumber (by omega) e5 hK0  (inR_b (Or.inl rfl)) (inR_of (by decide))) (fun y6 g8 r7 e9 => ?_)
    refine go_ifeq k255_25 (inR_b r7) (fun c10 => ?_) (fun c11 => ?_)
    · refine go_int k255_28 0 rfl ?_
      exact go_bret k255_29 e9 (Or.inl rfl) ⟨Nat.zero_le _, Nat.zero_le _⟩ rfl
    · refine go_aload k255_30 rfl ?_
      refine go_getR (bI := 1) k255_31 e9 hK0 (by decide) rfl rfl (fun r12 => ?_)
      refine go_ck (fun q13 => ?_)
      refine go_getR (bI := 0) k255_34 e9 q13 (by decide) rfl rfl (fun r14 => ?_)
      refine go_aload k255_37 rfl ?_
      refine go_getI (bI := 7) k255_38 e9 hK0 (by decide) rfl rfl (fun r15 => ?_)
      refine go_ck (fun q16 => ?_)
      refine go_putI (bI := 4) k255_41 e9 q16 (by decide) rfl rfl r15 (fun g17 e18 => ?_)
      refine go_aload k255_44 rfl ?_
      refine go_int k255_45 0 rfl ?_
      refine go_int k255_46 9 rfl ?_
      refine go_callN3 k255_48 rfl rfl rfl ⟨by decide, _, rfl, hK0⟩ ⟨Nat.zero_le _, Nat.zero_le _⟩ (by omega) (tfS_takeNumber (by omega) e18 hK0  (inR_b (Or.inl rfl)) (inR_of (by decide))) (fun y19 g21 r20 e22 => ?_)
      refine go_ifeq k255_51 (inR_b r20) (fun c23 => ?_) (fun c24 => ?_)
      · refine go_int k255_54 0 rfl ?_
        exact go_bret k255_55 e22 (Or.inl rfl) ⟨Nat.zero_le _, Nat.zero_le _⟩ rfl
      · refine go_aload k255_56 rfl ?_
        refine go_getR (bI := 1) k255_57 e22 hK0 (by decide) rfl rfl (fun r25 => ?_)
        refine go_ck (fun q26 => ?_)
        refine go_getR (bI := 0) k255_60 e22 q26 (by decide) rfl rfl (fun r27 => ?_)
        refine go_aload k255_63 rfl ?_
        refine go_getI (bI := 7) k255_64 e22 hK0 (by decide) rfl rfl (fun r28 => ?_)
        refine go_ck (fun q29 => ?_)
        refine go_putI (bI := 6) k255_67 e22 q29 (by decide) rfl rfl r28 (fun g30 e31 => ?_)
        refine go_aload k255_70 rfl ?_
        refine go_callN3 k255_71 rfl rfl rfl ⟨by decide, _, rfl, hK0⟩ ⟨Nat.zero_le _, Nat.zero_le _⟩ (by omega) (tfS_takeSemicolon (by omega) e31 hK0 ) (fun y32 g34 r33 e35 => ?_)
        exact go_bret k255_74 e35 r33 ⟨Nat.zero_le _, Nat.zero_le _⟩ rfl
  · refine go_aload k255_7 rfl ?_
    refine go_int k255_8 3 rfl ?_
    refine go_callN3 k255_9 rfl rfl rfl ⟨by decide, _, rfl, hK0⟩ ⟨Nat.zero_le _, Nat.zero_le _⟩ (by omega) (tfS_fail (by omega) hg hK0  (inR_of (by decide))) (fun y36 g38 r37 e39 => ?_)
    exact go_bret k255_12 e39 r37 ⟨Nat.zero_le _, Nat.zero_le _⟩ rfl
theorem tfP_room {Φ : ev_P} {d : Nat} (hd : 0 ≤ d) {g : gH} (hg : HR g) {v0 : Int} (hK0 : kd v0 = 3) : Go Φ pr_P (fP g) 1 (fP_room g v0) d (pr_P 242) 0 (ev_loc (pr_P 242).1 [(sR v0)]) [] g 0 0 := by
  show Go Φ pr_P (fP g) 1 (fP_room g v0) d pr_m242 0 [some (sR v0)] [] g 0 0
  unfold fP_room
  refine go_aload k242_0 rfl ?_
  refine go_getI (bI := 1) k242_1 hg hK0 (by decide) rfl rfl (fun r1 => ?_)
  refine go_ifeq k242_4 r1 (fun c2 => ?_) (fun c3 => ?_)
  · refine go_aload k242_7 rfl ?_
    refine go_getI (bI := 4) k242_8 hg hK0 (by decide) rfl rfl (fun r4 => ?_)
    refine go_aload k242_11 rfl ?_
    refine go_getI (bI := 3) k242_12 hg hK0 (by decide) rfl rfl (fun r5 => ?_)
    refine go_cmgt k242_15 r4 r5 (fun c6 => ?_) (fun c7 => ?_)
    · refine go_aload k242_18 rfl ?_
      refine go_getI (bI := 4) k242_19 hg hK0 (by decide) rfl rfl (fun r8 => ?_)
      refine go_aload k242_22 rfl ?_
      refine go_getI (bI := 3) k242_23 hg hK0 (by decide) rfl rfl (fun r9 => ?_)
      refine go_isub k242_26 ?_
      refine go_goto k242_27 ?_
      exact go_iret k242_31 hg (inR_w32 _) ⟨Nat.zero_le _, Nat.zero_le _⟩ rfl
    · refine go_int k242_30 0 rfl ?_
      exact go_iret k242_31 hg (inR_b (Or.inl rfl)) ⟨Nat.zero_le _, Nat.zero_le _⟩ rfl
  · refine go_int k242_30 0 rfl ?_
    exact go_iret k242_31 hg (inR_b (Or.inl rfl)) ⟨Nat.zero_le _, Nat.zero_le _⟩ rfl
theorem tfT_at {Φ : ev_P} {d : Nat} (hd : 0 ≤ d) {g : gH} (hg : HR g) {v0 v1 : Int} (hK0 : kd v0 = 5) (h1 : InR v1) : Go Φ pr_P (fP g) 2 (fT_at g v0 v1) d (pr_P 274) 0 (ev_loc (pr_P 274).1 [(sR v0), (sI v1)]) [] g 0 0 := by
  show Go Φ pr_P (fP g) 2 (fT_at g v0 v1) d pr_m274 0 [some (sR v0), some (sI v1)] [] g 0 0
  unfold fT_at
  refine go_iload k274_0 rfl ?_
  refine go_iflt k274_1 h1 (fun c1 => ?_) (fun c2 => ?_)
  · refine go_null k274_18 ?_
    refine go_goto k274_19 ?_
    exact go_aret k274_28 hg rfR_null ⟨Nat.zero_le _, Nat.zero_le _⟩ rfl
  · refine go_iload k274_4 rfl ?_
    refine go_aload k274_5 rfl ?_
    refine go_getI (bI := 5) k274_6 hg hK0 (by decide) rfl rfl (fun r3 => ?_)
    refine go_cmlt k274_9 h1 r3 (fun c4 => ?_) (fun c5 => ?_)
    · refine go_iload k274_12 rfl ?_
      refine go_int k274_13 40 rfl ?_
      refine go_cmlt k274_15 h1 (inR_of (by decide)) (fun c6 => ?_) (fun c7 => ?_)
      · refine go_aload k274_22 rfl ?_
        refine go_getR (bI := 1) k274_23 hg hK0 (by decide) rfl rfl (fun r8 => ?_)
        refine go_iload k274_26 rfl ?_
        refine go_ck (fun q10 => ?_)
        refine go_pald k274_27 hg q10 (fun r9 => ?_)
        exact go_aret k274_28 hg r9 ⟨Nat.zero_le _, Nat.zero_le _⟩ rfl
      · refine go_null k274_18 ?_
        refine go_goto k274_19 ?_
        exact go_aret k274_28 hg rfR_null ⟨Nat.zero_le _, Nat.zero_le _⟩ rfl
    · refine go_null k274_18 ?_
      refine go_goto k274_19 ?_
      exact go_aret k274_28 hg rfR_null ⟨Nat.zero_le _, Nat.zero_le _⟩ rfl
theorem tfS_takeNamed {Φ : ev_P} {d : Nat} (hd : 3 ≤ d) {g : gH} (hg : HR g) {v0 v1 : Int} (hK0 : kd v0 = 4) (h1 : InR v1) : Go Φ pr_P fN 2 (fS_takeNamed g v0 v1) d (pr_P 261) 0 (ev_loc (pr_P 261).1 [(sR v0), (sI v1)]) [] g 0 0 := by
  show Go Φ pr_P fN 2 (fS_takeNamed g v0 v1) d pr_m261 0 [some (sR v0), some (sI v1)] [] g 0 0
  unfold fS_takeNamed
  refine go_aload k261_0 rfl ?_
  refine go_iload k261_1 rfl ?_
  refine go_aload k261_2 rfl ?_
  refine go_getR (bI := 1) k261_3 hg hK0 (by decide) rfl rfl (fun r1 => ?_)
  refine go_ck (fun q2 => ?_)
  refine go_getI (bI := 5) k261_6 hg q2 (by decide) rfl rfl (fun r3 => ?_)
  refine go_int k261_9 1 rfl ?_
  refine go_isub k261_10 ?_
  refine go_callN3 k261_11 rfl rfl rfl ⟨by decide, _, rfl, hK0⟩ ⟨Nat.zero_le _, Nat.zero_le _⟩ (by omega) (tfS_takeNumber (by omega) hg hK0  h1 (inR_w32 _)) (fun y4 g6 r5 e7 => ?_)
  refine go_ifeq k261_14 (inR_b r5) (fun c8 => ?_) (fun c9 => ?_)
  · refine go_null k261_31 ?_
    exact go_aret k261_32 e7 rfR_null ⟨Nat.zero_le _, Nat.zero_le _⟩ rfl
  · refine go_aload k261_17 rfl ?_
    refine go_getR (bI := 1) k261_18 e7 hK0 (by decide) rfl rfl (fun r10 => ?_)
    refine go_aload k261_21 rfl ?_
    refine go_getI (bI := 7) k261_22 e7 hK0 (by decide) rfl rfl (fun r11 => ?_)
    refine go_ck (fun q12 => ?_)
    refine go_callP2 k261_25 rfl rfl rfl ⟨by decide, _, rfl, q12⟩ ⟨Nat.zero_le _, Nat.zero_le _⟩ (by omega) (tfT_at (by omega) e7 q12  r11) (fun y13 r14 => ?_)
    refine go_goto k261_28 ?_
    exact go_aret k261_32 e7 r14 ⟨Nat.zero_le _, Nat.zero_le _⟩ rfl
theorem tfP_putUnder {Φ : ev_P} {d : Nat} (hd : 0 ≤ d) {g : gH} (hg : HR g) {v0 v1 : Int} (hK0 : kd v0 = 3) (h1 : RfR v1) : Go Φ pr_P fN 0 (fP_putUnder g v0 v1) d (pr_P 245) 0 (ev_loc (pr_P 245).1 [(sR v0), (sR v1)]) [] g 0 0 := by
  show Go Φ pr_P fN 0 (fP_putUnder g v0 v1) d pr_m245 0 [some (sR v0), some (sR v1)] [] g 0 0
  unfold fP_putUnder
  refine go_aload k245_0 rfl ?_
  refine go_getR (bI := 2) k245_1 hg hK0 (by decide) rfl rfl (fun r1 => ?_)
  refine go_isnull k245_4  (fun c2 => ?_) (fun c3 => ?_)
  · refine go_aload k245_20 rfl ?_
    refine go_aload k245_21 rfl ?_
    refine go_putR (bI := 2) k245_22 hg hK0 (by decide) rfl rfl h1 (fun g4 e5 => ?_)
    refine go_aload k245_25 rfl ?_
    refine go_dupR k245_26 ?_
    refine go_ck (fun q6 => ?_)
    refine go_getI (bI := 3) k245_27 e5 q6 (by decide) rfl rfl (fun r7 => ?_)
    refine go_int k245_30 1 rfl ?_
    refine go_iadd k245_31 ?_
    refine go_putI (bI := 3) k245_32 e5 q6 (by decide) rfl rfl (inR_w32 _) (fun g8 e9 => ?_)
    exact go_vret k245_35 e9 ⟨Nat.zero_le _, Nat.zero_le _⟩ rfl
  · refine go_aload k245_7 rfl ?_
    refine go_getR (bI := 2) k245_8 hg hK0 (by decide) rfl rfl (fun r10 => ?_)
    refine go_dupR k245_11 ?_
    refine go_ck (fun q11 => ?_)
    refine go_getI (bI := 3) k245_12 hg q11 (by decide) rfl rfl (fun r12 => ?_)
    refine go_int k245_15 1 rfl ?_
    refine go_isub k245_16 ?_
    refine go_putI (bI := 3) k245_17 hg q11 (by decide) rfl rfl (inR_w32 _) (fun g13 e14 => ?_)
    refine go_aload k245_20 rfl ?_
    refine go_aload k245_21 rfl ?_
    refine go_putR (bI := 2) k245_22 e14 hK0 (by decide) rfl rfl h1 (fun g15 e16 => ?_)
    refine go_aload k245_25 rfl ?_
    refine go_dupR k245_26 ?_
    refine go_ck (fun q17 => ?_)
    refine go_getI (bI := 3) k245_27 e16 q17 (by decide) rfl rfl (fun r18 => ?_)
    refine go_int k245_30 1 rfl ?_
    refine go_iadd k245_31 ?_
    refine go_putI (bI := 3) k245_32 e16 q17 (by decide) rfl rfl (inR_w32 _) (fun g19 e20 => ?_)
    exact go_vret k245_35 e20 ⟨Nat.zero_le _, Nat.zero_le _⟩ rfl
theorem tfT_arrive {Φ : ev_P} {d : Nat} (hd : 1 ≤ d) {g : gH} (hg : HR g) {v0 v1 v2 v3 v4 : Int} (hK0 : kd v0 = 5) (h1 : RfR v1) (h2 : InR v2) (h3 : InR v3) (h4 : InR v4) : Go Φ pr_P fN 2 (fT_arrive g v0 v1 v2 v3 v4) d (pr_P 286) 0 (ev_loc (pr_P 286).1 [(sR v0), (sR v1), (sI v2), (sI v3), (sI v4)]) [] g 0 0 := by
  show Go Φ pr_P fN 2 (fT_arrive g v0 v1 v2 v3 v4) d pr_m286 0 [some (sR v0), some (sR v1), some (sI v2), some (sI v3), some (sI v4), none] [] g 0 0
  unfold fT_arrive
  refine go_aload k286_0 rfl ?_
  refine go_getI (bI := 5) k286_1 hg hK0 (by decide) rfl rfl (fun r1 => ?_)
  refine go_iflt k286_4 r1 (fun c2 => ?_) (fun c3 => ?_)
  · refine go_null k286_16 ?_
    exact go_aret k286_17 hg rfR_null ⟨Nat.zero_le _, Nat.zero_le _⟩ rfl
  · refine go_aload k286_7 rfl ?_
    refine go_getI (bI := 5) k286_8 hg hK0 (by decide) rfl rfl (fun r4 => ?_)
    refine go_int k286_11 40 rfl ?_
    refine go_cmlt k286_13 r4 (inR_of (by decide)) (fun c5 => ?_) (fun c6 => ?_)
    · refine go_aload k286_18 rfl ?_
      refine go_getR (bI := 1) k286_19 hg hK0 (by decide) rfl rfl (fun r7 => ?_)
      refine go_aload k286_22 rfl ?_
      refine go_getI (bI := 5) k286_23 hg hK0 (by decide) rfl rfl (fun r8 => ?_)
      refine go_ck (fun q10 => ?_)
      refine go_pald k286_26 hg q10 (fun r9 => ?_)
      refine go_astore k286_27 rfl (loc2 := [some (sR v0), some (sR v1), some (sI v2), some (sI v3), some (sI v4), some (sR (g (g v0 1) (g v0 5)))]) rfl ?_
      refine go_aload k286_29 rfl ?_
      refine go_dupR k286_30 ?_
      refine go_getI (bI := 5) k286_31 hg hK0 (by decide) rfl rfl (fun r11 => ?_)
      refine go_int k286_34 1 rfl ?_
      refine go_iadd k286_35 ?_
      refine go_putI (bI := 5) k286_36 hg hK0 (by decide) rfl rfl (inR_w32 _) (fun g12 e13 => ?_)
      refine go_aload k286_39 rfl ?_
      refine go_int k286_41 0 rfl ?_
      refine go_iload k286_42 rfl ?_
      refine go_iload k286_43 rfl ?_
      refine go_iload k286_44 rfl ?_
      refine go_ck (fun q14 => ?_)
      refine go_callN0 k286_46 rfl rfl rfl ⟨by decide, _, rfl, q14⟩ ⟨Nat.zero_le _, Nat.zero_le _⟩ (by omega) (tfP_become (by omega) e13 q14  (inR_b (Or.inl rfl)) h2 h3 h4) (fun y15 g17 e18 => ?_)
      refine go_aload k286_49 rfl ?_
      refine go_aload k286_51 rfl ?_
      refine go_callN0 k286_52 rfl rfl rfl ⟨by decide, _, rfl, q14⟩ ⟨Nat.zero_le _, Nat.zero_le _⟩ (by omega) (tfP_putUnder (by omega) e18 q14  h1) (fun y19 g21 e22 => ?_)
      refine go_aload k286_55 rfl ?_
      exact go_aret k286_57 e22 r9 ⟨Nat.zero_le _, Nat.zero_le _⟩ rfl
    · refine go_null k286_16 ?_
      exact go_aret k286_17 hg rfR_null ⟨Nat.zero_le _, Nat.zero_le _⟩ rfl
theorem tfS_takeProcess {Φ : ev_P} {d : Nat} (hd : 4 ≤ d) {g : gH} (hg : HR g) {v0 : Int} (hK0 : kd v0 = 4) : Go Φ pr_P fN 3 (fS_takeProcess g v0) d (pr_P 256) 0 (ev_loc (pr_P 256).1 [(sR v0)]) [] g 0 0 := by
  show Go Φ pr_P fN 3 (fS_takeProcess g v0) d pr_m256 0 [some (sR v0), none, none, none] [] g 0 0
  unfold fS_takeProcess
  refine go_aload k256_0 rfl ?_
  refine go_getR (bI := 1) k256_1 hg hK0 (by decide) rfl rfl (fun r1 => ?_)
  refine go_ck (fun q2 => ?_)
  refine go_getI (bI := 5) k256_4 hg q2 (by decide) rfl rfl (fun r3 => ?_)
  refine go_int k256_7 24 rfl ?_
  refine go_cmgt k256_9 r3 (inR_of (by decide)) (fun c4 => ?_) (fun c5 => ?_)
  · refine go_aload k256_12 rfl ?_
    refine go_int k256_13 4 rfl ?_
    refine go_callN3 k256_14 rfl rfl rfl ⟨by decide, _, rfl, hK0⟩ ⟨Nat.zero_le _, Nat.zero_le _⟩ (by omega) (tfS_fail (by omega) hg hK0  (inR_of (by decide))) (fun y6 g8 r7 e9 => ?_)
    exact go_bret k256_17 e9 r7 ⟨Nat.zero_le _, Nat.zero_le _⟩ rfl
  · refine go_aload k256_18 rfl ?_
    refine go_int k256_19 0 rfl ?_
    refine go_callN2 k256_20 rfl rfl rfl ⟨by decide, _, rfl, hK0⟩ ⟨Nat.zero_le _, Nat.zero_le _⟩ (by omega) (tfS_takeNamed (by omega) hg hK0  (inR_b (Or.inl rfl))) (fun y10 g12 r11 e13 => ?_)
    refine go_astore k256_23 rfl (loc2 := [some (sR v0), some (sR y10), none, none]) rfl ?_
    refine go_aload k256_24 rfl ?_
    refine go_isnull k256_25  (fun c14 => ?_) (fun c15 => ?_)
    · refine go_int k256_28 0 rfl ?_
      exact go_bret k256_29 e13 (Or.inl rfl) ⟨Nat.zero_le _, Nat.zero_le _⟩ rfl
    · refine go_aload k256_30 rfl ?_
      refine go_ck (fun q16 => ?_)
      refine go_callP1 k256_31 rfl rfl rfl ⟨by decide, _, rfl, q16⟩ ⟨Nat.zero_le _, Nat.zero_le _⟩ (by omega) (tfP_room (by omega) e13 q16 ) (fun y17 r18 => ?_)
      refine go_ifeq k256_34 r18 (fun c21 => ?_) (fun c22 => ?_)
      · refine go_aload k256_37 rfl ?_
        refine go_int k256_38 2 rfl ?_
        refine go_callN3 k256_39 rfl rfl rfl ⟨by decide, _, rfl, hK0⟩ ⟨Nat.zero_le _, Nat.zero_le _⟩ (by omega) (tfS_fail (by omega) e13 hK0  (inR_of (by decide))) (fun y23 g25 r24 e26 => ?_)
        exact go_bret k256_42 e26 r24 ⟨Nat.zero_le _, Nat.zero_le _⟩ rfl
      · refine go_aload k256_43 rfl ?_
        refine go_int k256_44 0 rfl ?_
        refine go_int k256_45 9 rfl ?_
        refine go_callN3 k256_47 rfl rfl rfl ⟨by decide, _, rfl, hK0⟩ ⟨Nat.zero_le _, Nat.zero_le _⟩ (by omega) (tfS_takeNumber (by omega) e13 hK0  (inR_b (Or.inl rfl)) (inR_of (by decide))) (fun y27 g29 r28 e30 => ?_)
        refine go_ifeq k256_50 (inR_b r28) (fun c31 => ?_) (fun c32 => ?_)
        · refine go_int k256_53 0 rfl ?_
          exact go_bret k256_54 e30 (Or.inl rfl) ⟨Nat.zero_le _, Nat.zero_le _⟩ rfl
        · refine go_aload k256_55 rfl ?_
          refine go_getI (bI := 7) k256_56 e30 hK0 (by decide) rfl rfl (fun r33 => ?_)
          refine go_istore k256_59 rfl (loc2 := [some (sR v0), some (sR y10), some (sI (g29 v0 7)), none]) rfl ?_
          refine go_aload k256_60 rfl ?_
          refine go_int k256_61 0 rfl ?_
          refine go_int k256_62 9 rfl ?_
          refine go_callN3 k256_64 rfl rfl rfl ⟨by decide, _, rfl, hK0⟩ ⟨Nat.zero_le _, Nat.zero_le _⟩ (by omega) (tfS_takeNumber (by omega) e30 hK0  (inR_b (Or.inl rfl)) (inR_of (by decide))) (fun y34 g36 r35 e37 => ?_)
          refine go_ifeq k256_67 (inR_b r35) (fun c38 => ?_) (fun c39 => ?_)
          · refine go_int k256_70 0 rfl ?_
            exact go_bret k256_71 e37 (Or.inl rfl) ⟨Nat.zero_le _, Nat.zero_le _⟩ rfl
          · refine go_aload k256_72 rfl ?_
            refine go_getI (bI := 7) k256_73 e37 hK0 (by decide) rfl rfl (fun r40 => ?_)
            refine go_istore k256_76 rfl (loc2 := [some (sR v0), some (sR y10), some (sI (g29 v0 7)), some (sI (g36 v0 7))]) rfl ?_
            refine go_aload k256_77 rfl ?_
            refine go_int k256_78 0 rfl ?_
            refine go_int k256_79 9 rfl ?_
            refine go_callN3 k256_81 rfl rfl rfl ⟨by decide, _, rfl, hK0⟩ ⟨Nat.zero_le _, Nat.zero_le _⟩ (by omega) (tfS_takeNumber (by omega) e37 hK0  (inR_b (Or.inl rfl)) (inR_of (by decide))) (fun y41 g43 r42 e44 => ?_)
            refine go_ifeq k256_84 (inR_b r42) (fun c45 => ?_) (fun c46 => ?_)
            · refine go_int k256_87 0 rfl ?_
              exact go_bret k256_88 e44 (Or.inl rfl) ⟨Nat.zero_le _, Nat.zero_le _⟩ rfl
            · refine go_aload k256_89 rfl ?_
              refine go_getR (bI := 1) k256_90 e44 hK0 (by decide) rfl rfl (fun r47 => ?_)
              refine go_aload k256_93 rfl ?_
              refine go_iload k256_94 rfl ?_
              refine go_iload k256_95 rfl ?_
              refine go_aload k256_96 rfl ?_
              refine go_getI (bI := 7) k256_97 e44 hK0 (by decide) rfl rfl (fun r48 => ?_)
              refine go_ck (fun q49 => ?_)
              refine go_callN2 k256_100 rfl rfl rfl ⟨by decide, _, rfl, q49⟩ ⟨Nat.zero_le _, Nat.zero_le _⟩ (by omega) (tfT_arrive (by omega) e44 q49  r11 r33 r40 r48) (fun y50 g52 r51 e53 => ?_)
              refine go_popR k256_103 ?_
              refine go_aload k256_104 rfl ?_
              refine go_callN3 k256_105 rfl rfl rfl ⟨by decide, _, rfl, hK0⟩ ⟨Nat.zero_le _, Nat.zero_le _⟩ (by omega) (tfS_takeSemicolon (by omega) e53 hK0 ) (fun y54 g56 r55 e57 => ?_)
              exact go_bret k256_108 e57 r55 ⟨Nat.zero_le _, Nat.zero_le _⟩ rfl
theorem tfS_takeHeir {Φ : ev_P} {d : Nat} (hd : 4 ≤ d) {g : gH} (hg : HR g) {v0 : Int} (hK0 : kd v0 = 4) : Go Φ pr_P fN 3 (fS_takeHeir g v0) d (pr_P 257) 0 (ev_loc (pr_P 257).1 [(sR v0)]) [] g 0 0 := by
  show Go Φ pr_P fN 3 (fS_takeHeir g v0) d pr_m257 0 [some (sR v0), none, none] [] g 0 0
  unfold fS_takeHeir
  refine go_aload k257_0 rfl ?_
  refine go_int k257_1 1 rfl ?_
  refine go_callN2 k257_2 rfl rfl rfl ⟨by decide, _, rfl, hK0⟩ ⟨Nat.zero_le _, Nat.zero_le _⟩ (by omega) (tfS_takeNamed (by omega) hg hK0  (inR_b (Or.inr rfl))) (fun y1 g3 r2 e4 => ?_)
  refine go_astore k257_5 rfl (loc2 := [some (sR v0), some (sR y1), none]) rfl ?_
  refine go_aload k257_6 rfl ?_
  refine go_isnull k257_7  (fun c5 => ?_) (fun c6 => ?_)
  · refine go_int k257_10 0 rfl ?_
    exact go_bret k257_11 e4 (Or.inl rfl) ⟨Nat.zero_le _, Nat.zero_le _⟩ rfl
  · refine go_aload k257_12 rfl ?_
    refine go_ck (fun q7 => ?_)
    refine go_getI (bI := 7) k257_13 e4 q7 (by decide) rfl rfl (fun r8 => ?_)
    refine go_int k257_16 (-1) rfl ?_
    refine go_cmeq k257_17 r8 (inR_of (by decide)) (fun c9 => ?_) (fun c10 => ?_)
    · refine go_aload k257_26 rfl ?_
      refine go_int k257_27 0 rfl ?_
      refine go_callN2 k257_28 rfl rfl rfl ⟨by decide, _, rfl, hK0⟩ ⟨Nat.zero_le _, Nat.zero_le _⟩ (by omega) (tfS_takeNamed (by omega) e4 hK0  (inR_b (Or.inl rfl))) (fun y11 g13 r12 e14 => ?_)
      refine go_astore k257_31 rfl (loc2 := [some (sR v0), some (sR y1), some (sR y11)]) rfl ?_
      refine go_aload k257_32 rfl ?_
      refine go_isnull k257_33  (fun c15 => ?_) (fun c16 => ?_)
      · refine go_int k257_36 0 rfl ?_
        exact go_bret k257_37 e14 (Or.inl rfl) ⟨Nat.zero_le _, Nat.zero_le _⟩ rfl
      · refine go_aload k257_38 rfl ?_
        refine go_aload k257_39 rfl ?_
        refine go_acmp k257_40 r12 r2 (fun c17 => ?_) (fun c18 => ?_)
        · refine go_aload k257_43 rfl ?_
          refine go_int k257_44 2 rfl ?_
          refine go_callN3 k257_45 rfl rfl rfl ⟨by decide, _, rfl, hK0⟩ ⟨Nat.zero_le _, Nat.zero_le _⟩ (by omega) (tfS_fail (by omega) e14 hK0  (inR_of (by decide))) (fun y19 g21 r20 e22 => ?_)
          exact go_bret k257_48 e22 r20 ⟨Nat.zero_le _, Nat.zero_le _⟩ rfl
        · refine go_aload k257_49 rfl ?_
          refine go_aload k257_50 rfl ?_
          refine go_ck (fun q23 => ?_)
          refine go_getI (bI := 0) k257_51 e14 q23 (by decide) rfl rfl (fun r24 => ?_)
          refine go_putI (bI := 7) k257_54 e14 q7 (by decide) rfl rfl r24 (fun g25 e26 => ?_)
          refine go_aload k257_57 rfl ?_
          refine go_callN3 k257_58 rfl rfl rfl ⟨by decide, _, rfl, hK0⟩ ⟨Nat.zero_le _, Nat.zero_le _⟩ (by omega) (tfS_takeSemicolon (by omega) e26 hK0 ) (fun y27 g29 r28 e30 => ?_)
          exact go_bret k257_61 e30 r28 ⟨Nat.zero_le _, Nat.zero_le _⟩ rfl
    · refine go_aload k257_20 rfl ?_
      refine go_int k257_21 3 rfl ?_
      refine go_callN3 k257_22 rfl rfl rfl ⟨by decide, _, rfl, hK0⟩ ⟨Nat.zero_le _, Nat.zero_le _⟩ (by omega) (tfS_fail (by omega) e4 hK0  (inR_of (by decide))) (fun y31 g33 r32 e34 => ?_)
      exact go_bret k257_25 e34 r32 ⟨Nat.zero_le _, Nat.zero_le _⟩ rfl
theorem tfT_giveDuty {Φ : ev_P} {d : Nat} (hd : 0 ≤ d) {g : gH} (hg : HR g) {v0 v1 v2 : Int} (hK0 : kd v0 = 5) (h1 : InR v1) (h2 : RfR v2) : Go Φ pr_P fN 0 (fT_giveDuty g v0 v1 v2) d (pr_P 284) 0 (ev_loc (pr_P 284).1 [(sR v0), (sI v1), (sR v2)]) [] g 0 0 := by
  show Go Φ pr_P fN 0 (fT_giveDuty g v0 v1 v2) d pr_m284 0 [some (sR v0), some (sI v1), some (sR v2)] [] g 0 0
  unfold fT_giveDuty
  refine go_iload k284_0 rfl ?_
  refine go_iflt k284_1 h1 (fun c1 => ?_) (fun c2 => ?_)
  · exact go_vret k284_20 hg ⟨Nat.zero_le _, Nat.zero_le _⟩ rfl
  · refine go_iload k284_4 rfl ?_
    refine go_int k284_5 8 rfl ?_
    refine go_cmlt k284_7 h1 (inR_of (by decide)) (fun c3 => ?_) (fun c4 => ?_)
    · refine go_aload k284_10 rfl ?_
      refine go_getR (bI := 2) k284_11 hg hK0 (by decide) rfl rfl (fun r5 => ?_)
      refine go_iload k284_14 rfl ?_
      refine go_aload k284_15 rfl ?_
      refine go_ck (fun q6 => ?_)
      refine go_getI (bI := 0) k284_16 hg q6 (by decide) rfl rfl (fun r7 => ?_)
      refine go_ck (fun q8 => ?_)
      refine go_iast k284_19 hg q8 r7 (fun g9 e10 => ?_)
      exact go_vret k284_20 e10 ⟨Nat.zero_le _, Nat.zero_le _⟩ rfl
    · exact go_vret k284_20 hg ⟨Nat.zero_le _, Nat.zero_le _⟩ rfl
theorem tfS_takeDuty {Φ : ev_P} {d : Nat} (hd : 4 ≤ d) {g : gH} (hg : HR g) {v0 : Int} (hK0 : kd v0 = 4) : Go Φ pr_P fN 3 (fS_takeDuty g v0) d (pr_P 258) 0 (ev_loc (pr_P 258).1 [(sR v0)]) [] g 0 0 := by
  show Go Φ pr_P fN 3 (fS_takeDuty g v0) d pr_m258 0 [some (sR v0), none, none] [] g 0 0
  unfold fS_takeDuty
  refine go_aload k258_0 rfl ?_
  refine go_int k258_1 0 rfl ?_
  refine go_int k258_2 7 rfl ?_
  refine go_callN3 k258_4 rfl rfl rfl ⟨by decide, _, rfl, hK0⟩ ⟨Nat.zero_le _, Nat.zero_le _⟩ (by omega) (tfS_takeNumber (by omega) hg hK0  (inR_b (Or.inl rfl)) (inR_of (by decide))) (fun y1 g3 r2 e4 => ?_)
  refine go_ifeq k258_7 (inR_b r2) (fun c5 => ?_) (fun c6 => ?_)
  · refine go_int k258_10 0 rfl ?_
    exact go_bret k258_11 e4 (Or.inl rfl) ⟨Nat.zero_le _, Nat.zero_le _⟩ rfl
  · refine go_aload k258_12 rfl ?_
    refine go_getI (bI := 7) k258_13 e4 hK0 (by decide) rfl rfl (fun r7 => ?_)
    refine go_istore k258_16 rfl (loc2 := [some (sR v0), some (sI (g3 v0 7)), none]) rfl ?_
    refine go_aload k258_17 rfl ?_
    refine go_int k258_18 0 rfl ?_
    refine go_callN2 k258_19 rfl rfl rfl ⟨by decide, _, rfl, hK0⟩ ⟨Nat.zero_le _, Nat.zero_le _⟩ (by omega) (tfS_takeNamed (by omega) e4 hK0  (inR_b (Or.inl rfl))) (fun y8 g10 r9 e11 => ?_)
    refine go_astore k258_22 rfl (loc2 := [some (sR v0), some (sI (g3 v0 7)), some (sR y8)]) rfl ?_
    refine go_aload k258_23 rfl ?_
    refine go_isnull k258_24  (fun c12 => ?_) (fun c13 => ?_)
    · refine go_int k258_27 0 rfl ?_
      exact go_bret k258_28 e11 (Or.inl rfl) ⟨Nat.zero_le _, Nat.zero_le _⟩ rfl
    · refine go_aload k258_29 rfl ?_
      refine go_getR (bI := 1) k258_30 e11 hK0 (by decide) rfl rfl (fun r14 => ?_)
      refine go_iload k258_33 rfl ?_
      refine go_aload k258_34 rfl ?_
      refine go_ck (fun q15 => ?_)
      refine go_callN0 k258_35 rfl rfl rfl ⟨by decide, _, rfl, q15⟩ ⟨Nat.zero_le _, Nat.zero_le _⟩ (by omega) (tfT_giveDuty (by omega) e11 q15  r7 r9) (fun y16 g18 e19 => ?_)
      refine go_aload k258_38 rfl ?_
      refine go_callN3 k258_39 rfl rfl rfl ⟨by decide, _, rfl, hK0⟩ ⟨Nat.zero_le _, Nat.zero_le _⟩ (by omega) (tfS_takeSemicolon (by omega) e19 hK0 ) (fun y20 g22 r21 e23 => ?_)
      exact go_bret k258_42 e23 r21 ⟨Nat.zero_le _, Nat.zero_le _⟩ rfl
theorem tfP_refuses {Φ : ev_P} {d : Nat} (hd : 0 ≤ d) {g : gH} (hg : HR g) {v0 v1 : Int} (hK0 : kd v0 = 3) (h1 : InR v1) : Go Φ pr_P (fP g) 3 (fP_refuses g v0 v1) d (pr_P 241) 0 (ev_loc (pr_P 241).1 [(sR v0), (sI v1)]) [] g 0 0 := by
  show Go Φ pr_P (fP g) 3 (fP_refuses g v0 v1) d pr_m241 0 [some (sR v0), some (sI v1)] [] g 0 0
  unfold fP_refuses
  refine go_aload k241_0 rfl ?_
  refine go_getI (bI := 8) k241_1 hg hK0 (by decide) rfl rfl (fun r1 => ?_)
  refine go_iload k241_4 rfl ?_
  refine go_ibin k241_5 ?_
  refine go_int k241_6 1 rfl ?_
  refine go_ibin k241_7 ?_
  refine go_ifeq k241_8 (inR_opI _ _ _) (fun c2 => ?_) (fun c3 => ?_)
  · refine go_int k241_15 0 rfl ?_
    exact go_bret k241_16 hg (Or.inl rfl) ⟨Nat.zero_le _, Nat.zero_le _⟩ rfl
  · refine go_int k241_11 1 rfl ?_
    refine go_goto k241_12 ?_
    exact go_bret k241_16 hg (Or.inr rfl) ⟨Nat.zero_le _, Nat.zero_le _⟩ rfl
theorem tfS_takeRefusal {Φ : ev_P} {d : Nat} (hd : 4 ≤ d) {g : gH} (hg : HR g) {v0 : Int} (hK0 : kd v0 = 4) : Go Φ pr_P fN 3 (fS_takeRefusal g v0) d (pr_P 259) 0 (ev_loc (pr_P 259).1 [(sR v0)]) [] g 0 0 := by
  show Go Φ pr_P fN 3 (fS_takeRefusal g v0) d pr_m259 0 [some (sR v0), none] [] g 0 0
  unfold fS_takeRefusal
  refine go_aload k259_0 rfl ?_
  refine go_int k259_1 1 rfl ?_
  refine go_callN2 k259_2 rfl rfl rfl ⟨by decide, _, rfl, hK0⟩ ⟨Nat.zero_le _, Nat.zero_le _⟩ (by omega) (tfS_takeNamed (by omega) hg hK0  (inR_b (Or.inr rfl))) (fun y1 g3 r2 e4 => ?_)
  refine go_astore k259_5 rfl (loc2 := [some (sR v0), some (sR y1)]) rfl ?_
  refine go_aload k259_6 rfl ?_
  refine go_isnull k259_7  (fun c5 => ?_) (fun c6 => ?_)
  · refine go_int k259_20 0 rfl ?_
    exact go_bret k259_21 e4 (Or.inl rfl) ⟨Nat.zero_le _, Nat.zero_le _⟩ rfl
  · refine go_aload k259_10 rfl ?_
    refine go_int k259_11 0 rfl ?_
    refine go_int k259_12 9 rfl ?_
    refine go_callN3 k259_14 rfl rfl rfl ⟨by decide, _, rfl, hK0⟩ ⟨Nat.zero_le _, Nat.zero_le _⟩ (by omega) (tfS_takeNumber (by omega) e4 hK0  (inR_b (Or.inl rfl)) (inR_of (by decide))) (fun y7 g9 r8 e10 => ?_)
    refine go_ifeq k259_17 (inR_b r8) (fun c11 => ?_) (fun c12 => ?_)
    · refine go_int k259_20 0 rfl ?_
      exact go_bret k259_21 e10 (Or.inl rfl) ⟨Nat.zero_le _, Nat.zero_le _⟩ rfl
    · refine go_aload k259_22 rfl ?_
      refine go_aload k259_23 rfl ?_
      refine go_getI (bI := 7) k259_24 e10 hK0 (by decide) rfl rfl (fun r13 => ?_)
      refine go_ck (fun q14 => ?_)
      refine go_callP3 k259_27 rfl rfl rfl ⟨by decide, _, rfl, q14⟩ ⟨Nat.zero_le _, Nat.zero_le _⟩ (by omega) (tfP_refuses (by omega) e10 q14  r13) (fun y15 r16 => ?_)
      refine go_ifeq k259_30 (inR_b r16) (fun c19 => ?_) (fun c20 => ?_)
      · refine go_aload k259_39 rfl ?_
        refine go_dupR k259_40 ?_
        refine go_getI (bI := 8) k259_41 e10 q14 (by decide) rfl rfl (fun r21 => ?_)
        refine go_int k259_44 1 rfl ?_
        refine go_aload k259_45 rfl ?_
        refine go_getI (bI := 7) k259_46 e10 hK0 (by decide) rfl rfl (fun r22 => ?_)
        refine go_ibin k259_49 ?_
        refine go_ibin k259_50 ?_
        refine go_putI (bI := 8) k259_51 e10 q14 (by decide) rfl rfl (inR_opI _ _ _) (fun g23 e24 => ?_)
        refine go_aload k259_54 rfl ?_
        refine go_callN3 k259_55 rfl rfl rfl ⟨by decide, _, rfl, hK0⟩ ⟨Nat.zero_le _, Nat.zero_le _⟩ (by omega) (tfS_takeSemicolon (by omega) e24 hK0 ) (fun y25 g27 r26 e28 => ?_)
        exact go_bret k259_58 e28 r26 ⟨Nat.zero_le _, Nat.zero_le _⟩ rfl
      · refine go_aload k259_33 rfl ?_
        refine go_int k259_34 3 rfl ?_
        refine go_callN3 k259_35 rfl rfl rfl ⟨by decide, _, rfl, hK0⟩ ⟨Nat.zero_le _, Nat.zero_le _⟩ (by omega) (tfS_fail (by omega) e10 hK0  (inR_of (by decide))) (fun y29 g31 r30 e32 => ?_)
        exact go_bret k259_38 e32 r30 ⟨Nat.zero_le _, Nat.zero_le _⟩ rfl
theorem tfP_willFor {Φ : ev_P} {d : Nat} (hd : 0 ≤ d) {g : gH} (hg : HR g) {v0 v1 : Int} (hK0 : kd v0 = 3) (h1 : InR v1) : Go Φ pr_P (fP g) 1 (fP_willFor g v0 v1) d (pr_P 246) 0 (ev_loc (pr_P 246).1 [(sR v0), (sI v1)]) [] g 0 0 := by
  show Go Φ pr_P (fP g) 1 (fP_willFor g v0 v1) d pr_m246 0 [some (sR v0), some (sI v1)] [] g 0 0
  unfold fP_willFor
  refine go_aload k246_0 rfl ?_
  refine go_getL (bI := 14) k246_1 hg hK0 (by decide) rfl rfl (fun r1 => ?_)
  refine go_int k246_4 8 rfl ?_
  refine go_iload k246_6 rfl ?_
  refine go_ibin k246_7 ?_
  refine go_lshr k246_8 rfl ⟨Nat.zero_le _, Nat.zero_le _⟩ ?_
  refine go_lconst k246_9 255 rfl ?_
  refine go_land k246_12 rfl ⟨Nat.zero_le _, Nat.zero_le _⟩ ?_
  refine go_l2i k246_13 ?_
  refine go_int k246_14 1 rfl ?_
  refine go_isub k246_15 ?_
  exact go_iret k246_16 hg (inR_w32 _) ⟨Nat.zero_le _, Nat.zero_le _⟩ rfl
theorem tfP_addWill {Φ : ev_P} {d : Nat} (hd : 0 ≤ d) {g : gH} (hg : HR g) {v0 v1 v2 : Int} (hK0 : kd v0 = 3) (h1 : InR v1) (h2 : InR v2) : Go Φ pr_P fN 0 (fP_addWill g v0 v1 v2) d (pr_P 247) 0 (ev_loc (pr_P 247).1 [(sR v0), (sI v1), (sI v2)]) [] g 0 0 := by
  show Go Φ pr_P fN 0 (fP_addWill g v0 v1 v2) d pr_m247 0 [some (sR v0), some (sI v1), some (sI v2)] [] g 0 0
  unfold fP_addWill
  refine go_aload k247_0 rfl ?_
  refine go_dupR k247_1 ?_
  refine go_getL (bI := 14) k247_2 hg hK0 (by decide) rfl rfl (fun r1 => ?_)
  refine go_iload k247_5 rfl ?_
  refine go_int k247_6 1 rfl ?_
  refine go_iadd k247_7 ?_
  refine go_i2l k247_8 (inR_w32 _) ?_
  refine go_int k247_9 8 rfl ?_
  refine go_iload k247_11 rfl ?_
  refine go_ibin k247_12 ?_
  refine go_lshl k247_13 rfl ⟨Nat.zero_le _, Nat.zero_le _⟩ ?_
  refine go_lor k247_14 rfl ⟨Nat.zero_le _, Nat.zero_le _⟩ ?_
  refine go_putL (bI := 14) k247_15 hg hK0 (by decide) rfl rfl (inL_opL _ _ _) (fun g2 e3 => ?_)
  exact go_vret k247_18 e3 ⟨Nat.zero_le _, Nat.zero_le _⟩ rfl
theorem tfS_takeWill {Φ : ev_P} {d : Nat} (hd : 4 ≤ d) {g : gH} (hg : HR g) {v0 : Int} (hK0 : kd v0 = 4) : Go Φ pr_P fN 3 (fS_takeWill g v0) d (pr_P 260) 0 (ev_loc (pr_P 260).1 [(sR v0)]) [] g 0 0 := by
  show Go Φ pr_P fN 3 (fS_takeWill g v0) d pr_m260 0 [some (sR v0), none, none, none] [] g 0 0
  unfold fS_takeWill
  refine go_aload k260_0 rfl ?_
  refine go_int k260_1 1 rfl ?_
  refine go_callN2 k260_2 rfl rfl rfl ⟨by decide, _, rfl, hK0⟩ ⟨Nat.zero_le _, Nat.zero_le _⟩ (by omega) (tfS_takeNamed (by omega) hg hK0  (inR_b (Or.inr rfl))) (fun y1 g3 r2 e4 => ?_)
  refine go_astore k260_5 rfl (loc2 := [some (sR v0), some (sR y1), none, none]) rfl ?_
  refine go_aload k260_6 rfl ?_
  refine go_isnull k260_7  (fun c5 => ?_) (fun c6 => ?_)
  · refine go_int k260_20 0 rfl ?_
    exact go_bret k260_21 e4 (Or.inl rfl) ⟨Nat.zero_le _, Nat.zero_le _⟩ rfl
  · refine go_aload k260_10 rfl ?_
    refine go_int k260_11 0 rfl ?_
    refine go_int k260_12 7 rfl ?_
    refine go_callN3 k260_14 rfl rfl rfl ⟨by decide, _, rfl, hK0⟩ ⟨Nat.zero_le _, Nat.zero_le _⟩ (by omega) (tfS_takeNumber (by omega) e4 hK0  (inR_b (Or.inl rfl)) (inR_of (by decide))) (fun y7 g9 r8 e10 => ?_)
    refine go_ifeq k260_17 (inR_b r8) (fun c11 => ?_) (fun c12 => ?_)
    · refine go_int k260_20 0 rfl ?_
      exact go_bret k260_21 e10 (Or.inl rfl) ⟨Nat.zero_le _, Nat.zero_le _⟩ rfl
    · refine go_aload k260_22 rfl ?_
      refine go_getI (bI := 7) k260_23 e10 hK0 (by decide) rfl rfl (fun r13 => ?_)
      refine go_istore k260_26 rfl (loc2 := [some (sR v0), some (sR y1), some (sI (g9 v0 7)), none]) rfl ?_
      refine go_aload k260_27 rfl ?_
      refine go_iload k260_28 rfl ?_
      refine go_ck (fun q14 => ?_)
      refine go_callP1 k260_29 rfl rfl rfl ⟨by decide, _, rfl, q14⟩ ⟨Nat.zero_le _, Nat.zero_le _⟩ (by omega) (tfP_willFor (by omega) e10 q14  r13) (fun y15 r16 => ?_)
      refine go_int k260_32 (-1) rfl ?_
      refine go_cmeq k260_33 r16 (inR_of (by decide)) (fun c19 => ?_) (fun c20 => ?_)
      · refine go_aload k260_42 rfl ?_
        refine go_int k260_43 0 rfl ?_
        refine go_callN2 k260_44 rfl rfl rfl ⟨by decide, _, rfl, hK0⟩ ⟨Nat.zero_le _, Nat.zero_le _⟩ (by omega) (tfS_takeNamed (by omega) e10 hK0  (inR_b (Or.inl rfl))) (fun y21 g23 r22 e24 => ?_)
        refine go_astore k260_47 rfl (loc2 := [some (sR v0), some (sR y1), some (sI (g9 v0 7)), some (sR y21)]) rfl ?_
        refine go_aload k260_48 rfl ?_
        refine go_isnull k260_49  (fun c25 => ?_) (fun c26 => ?_)
        · refine go_int k260_52 0 rfl ?_
          exact go_bret k260_53 e24 (Or.inl rfl) ⟨Nat.zero_le _, Nat.zero_le _⟩ rfl
        · refine go_aload k260_54 rfl ?_
          refine go_aload k260_55 rfl ?_
          refine go_acmp k260_56 r22 r2 (fun c27 => ?_) (fun c28 => ?_)
          · refine go_aload k260_59 rfl ?_
            refine go_int k260_60 2 rfl ?_
            refine go_callN3 k260_61 rfl rfl rfl ⟨by decide, _, rfl, hK0⟩ ⟨Nat.zero_le _, Nat.zero_le _⟩ (by omega) (tfS_fail (by omega) e24 hK0  (inR_of (by decide))) (fun y29 g31 r30 e32 => ?_)
            exact go_bret k260_64 e32 r30 ⟨Nat.zero_le _, Nat.zero_le _⟩ rfl
          · refine go_aload k260_65 rfl ?_
            refine go_iload k260_66 rfl ?_
            refine go_aload k260_67 rfl ?_
            refine go_ck (fun q33 => ?_)
            refine go_getI (bI := 0) k260_68 e24 q33 (by decide) rfl rfl (fun r34 => ?_)
            refine go_callN0 k260_71 rfl rfl rfl ⟨by decide, _, rfl, q14⟩ ⟨Nat.zero_le _, Nat.zero_le _⟩ (by omega) (tfP_addWill (by omega) e24 q14  r13 r34) (fun y35 g37 e38 => ?_)
            refine go_aload k260_74 rfl ?_
            refine go_callN3 k260_75 rfl rfl rfl ⟨by decide, _, rfl, hK0⟩ ⟨Nat.zero_le _, Nat.zero_le _⟩ (by omega) (tfS_takeSemicolon (by omega) e38 hK0 ) (fun y39 g41 r40 e42 => ?_)
            exact go_bret k260_78 e42 r40 ⟨Nat.zero_le _, Nat.zero_le _⟩ rfl
      · refine go_aload k260_36 rfl ?_
        refine go_int k260_37 3 rfl ?_
        refine go_callN3 k260_38 rfl rfl rfl ⟨by decide, _, rfl, hK0⟩ ⟨Nat.zero_le _, Nat.zero_le _⟩ (by omega) (tfS_fail (by omega) e10 hK0  (inR_of (by decide))) (fun y43 g45 r44 e46 => ?_)
        exact go_bret k260_41 e46 r44 ⟨Nat.zero_le _, Nat.zero_le _⟩ rfl
theorem tfS_takeStatement {Φ : ev_P} {d : Nat} (hd : 5 ≤ d) {g : gH} (hg : HR g) {v0 : Int} (hK0 : kd v0 = 4) : Go Φ pr_P fN 3 (fS_takeStatement g v0) d (pr_P 251) 0 (ev_loc (pr_P 251).1 [(sR v0)]) [] g 0 0 := by
  show Go Φ pr_P fN 3 (fS_takeStatement g v0) d pr_m251 0 [some (sR v0)] [] g 0 0
  unfold fS_takeStatement
  refine go_aload k251_0 rfl ?_
  refine go_callN0 k251_1 rfl rfl rfl ⟨by decide, _, rfl, hK0⟩ ⟨Nat.zero_le _, Nat.zero_le _⟩ (by omega) (tfS_advance (by omega) hg hK0 ) (fun y1 g3 e4 => ?_)
  refine go_aload k251_4 rfl ?_
  refine go_getI (bI := 4) k251_5 e4 hK0 (by decide) rfl rfl (fun r5 => ?_)
  refine go_ifeq k251_8 r5 (fun c6 => ?_) (fun c7 => ?_)
  · refine go_int k251_11 0 rfl ?_
    exact go_bret k251_12 e4 (Or.inl rfl) ⟨Nat.zero_le _, Nat.zero_le _⟩ rfl
  · refine go_aload k251_13 rfl ?_
    refine go_ldcs k251_14 (by decide) (x := 2000000) rfl ?_
    refine go_callP3 k251_16 rfl rfl rfl ⟨by decide, _, rfl, hK0⟩ ⟨Nat.zero_le _, Nat.zero_le _⟩ (by omega) (tfS_isWord (by omega) e4 hK0 ) (fun y8 r9 => ?_)
    refine go_ifeq k251_19 (inR_b r9) (fun c12 => ?_) (fun c13 => ?_)
    · refine go_aload k251_27 rfl ?_
      refine go_ldcs k251_28 (by decide) (x := 2000001) rfl ?_
      refine go_callP3 k251_30 rfl rfl rfl ⟨by decide, _, rfl, hK0⟩ ⟨Nat.zero_le _, Nat.zero_le _⟩ (by omega) (tfS_isWord (by omega) e4 hK0 ) (fun y14 r15 => ?_)
      refine go_ifeq k251_33 (inR_b r15) (fun c18 => ?_) (fun c19 => ?_)
      · refine go_aload k251_41 rfl ?_
        refine go_ldcs k251_42 (by decide) (x := 2000002) rfl ?_
        refine go_callP3 k251_44 rfl rfl rfl ⟨by decide, _, rfl, hK0⟩ ⟨Nat.zero_le _, Nat.zero_le _⟩ (by omega) (tfS_isWord (by omega) e4 hK0 ) (fun y20 r21 => ?_)
        refine go_ifeq k251_47 (inR_b r21) (fun c24 => ?_) (fun c25 => ?_)
        · refine go_aload k251_55 rfl ?_
          refine go_ldcs k251_56 (by decide) (x := 2000003) rfl ?_
          refine go_callP3 k251_58 rfl rfl rfl ⟨by decide, _, rfl, hK0⟩ ⟨Nat.zero_le _, Nat.zero_le _⟩ (by omega) (tfS_isWord (by omega) e4 hK0 ) (fun y26 r27 => ?_)
          refine go_ifeq k251_61 (inR_b r27) (fun c30 => ?_) (fun c31 => ?_)
          · refine go_aload k251_69 rfl ?_
            refine go_ldcs k251_70 (by decide) (x := 2000004) rfl ?_
            refine go_callP3 k251_72 rfl rfl rfl ⟨by decide, _, rfl, hK0⟩ ⟨Nat.zero_le _, Nat.zero_le _⟩ (by omega) (tfS_isWord (by omega) e4 hK0 ) (fun y32 r33 => ?_)
            refine go_ifeq k251_75 (inR_b r33) (fun c36 => ?_) (fun c37 => ?_)
            · refine go_aload k251_83 rfl ?_
              refine go_ldcs k251_84 (by decide) (x := 2000005) rfl ?_
              refine go_callP3 k251_86 rfl rfl rfl ⟨by decide, _, rfl, hK0⟩ ⟨Nat.zero_le _, Nat.zero_le _⟩ (by omega) (tfS_isWord (by omega) e4 hK0 ) (fun y38 r39 => ?_)
              refine go_ifeq k251_89 (inR_b r39) (fun c42 => ?_) (fun c43 => ?_)
              · refine go_aload k251_97 rfl ?_
                refine go_ldcs k251_98 (by decide) (x := 2000006) rfl ?_
                refine go_callP3 k251_100 rfl rfl rfl ⟨by decide, _, rfl, hK0⟩ ⟨Nat.zero_le _, Nat.zero_le _⟩ (by omega) (tfS_isWord (by omega) e4 hK0 ) (fun y44 r45 => ?_)
                refine go_ifeq k251_103 (inR_b r45) (fun c48 => ?_) (fun c49 => ?_)
                · refine go_aload k251_111 rfl ?_
                  refine go_ldcs k251_112 (by decide) (x := 2000007) rfl ?_
                  refine go_callP3 k251_114 rfl rfl rfl ⟨by decide, _, rfl, hK0⟩ ⟨Nat.zero_le _, Nat.zero_le _⟩ (by omega) (tfS_isWord (by omega) e4 hK0 ) (fun y50 r51 => ?_)
                  refine go_ifeq k251_117 (inR_b r51) (fun c54 => ?_) (fun c55 => ?_)
                  · refine go_aload k251_127 rfl ?_
                    refine go_int k251_128 1 rfl ?_
                    refine go_callN3 k251_129 rfl rfl rfl ⟨by decide, _, rfl, hK0⟩ ⟨Nat.zero_le _, Nat.zero_le _⟩ (by omega) (tfS_fail (by omega) e4 hK0  (inR_b (Or.inr rfl))) (fun y56 g58 r57 e59 => ?_)
                    exact go_bret k251_132 e59 r57 ⟨Nat.zero_le _, Nat.zero_le _⟩ rfl
                  · refine go_aload k251_120 rfl ?_
                    refine go_callN3 k251_121 rfl rfl rfl ⟨by decide, _, rfl, hK0⟩ ⟨Nat.zero_le _, Nat.zero_le _⟩ (by omega) (tfS_takeWill (by omega) e4 hK0 ) (fun y60 g62 r61 e63 => ?_)
                    refine go_goto k251_124 ?_
                    exact go_bret k251_132 e63 r61 ⟨Nat.zero_le _, Nat.zero_le _⟩ rfl
                · refine go_aload k251_106 rfl ?_
                  refine go_callN3 k251_107 rfl rfl rfl ⟨by decide, _, rfl, hK0⟩ ⟨Nat.zero_le _, Nat.zero_le _⟩ (by omega) (tfS_takeRefusal (by omega) e4 hK0 ) (fun y64 g66 r65 e67 => ?_)
                  exact go_bret k251_110 e67 r65 ⟨Nat.zero_le _, Nat.zero_le _⟩ rfl
              · refine go_aload k251_92 rfl ?_
                refine go_callN3 k251_93 rfl rfl rfl ⟨by decide, _, rfl, hK0⟩ ⟨Nat.zero_le _, Nat.zero_le _⟩ (by omega) (tfS_takeDuty (by omega) e4 hK0 ) (fun y68 g70 r69 e71 => ?_)
                exact go_bret k251_96 e71 r69 ⟨Nat.zero_le _, Nat.zero_le _⟩ rfl
            · refine go_aload k251_78 rfl ?_
              refine go_callN3 k251_79 rfl rfl rfl ⟨by decide, _, rfl, hK0⟩ ⟨Nat.zero_le _, Nat.zero_le _⟩ (by omega) (tfS_takeHeir (by omega) e4 hK0 ) (fun y72 g74 r73 e75 => ?_)
              exact go_bret k251_82 e75 r73 ⟨Nat.zero_le _, Nat.zero_le _⟩ rfl
          · refine go_aload k251_64 rfl ?_
            refine go_callN3 k251_65 rfl rfl rfl ⟨by decide, _, rfl, hK0⟩ ⟨Nat.zero_le _, Nat.zero_le _⟩ (by omega) (tfS_takeProcess (by omega) e4 hK0 ) (fun y76 g78 r77 e79 => ?_)
            exact go_bret k251_68 e79 r77 ⟨Nat.zero_le _, Nat.zero_le _⟩ rfl
        · refine go_aload k251_50 rfl ?_
          refine go_callN3 k251_51 rfl rfl rfl ⟨by decide, _, rfl, hK0⟩ ⟨Nat.zero_le _, Nat.zero_le _⟩ (by omega) (tfS_takeRoot (by omega) e4 hK0 ) (fun y80 g82 r81 e83 => ?_)
          exact go_bret k251_54 e83 r81 ⟨Nat.zero_le _, Nat.zero_le _⟩ rfl
      · refine go_aload k251_36 rfl ?_
        refine go_callN3 k251_37 rfl rfl rfl ⟨by decide, _, rfl, hK0⟩ ⟨Nat.zero_le _, Nat.zero_le _⟩ (by omega) (tfS_takeDeep (by omega) e4 hK0 ) (fun y84 g86 r85 e87 => ?_)
        exact go_bret k251_40 e87 r85 ⟨Nat.zero_le _, Nat.zero_le _⟩ rfl
    · refine go_aload k251_22 rfl ?_
      refine go_callN3 k251_23 rfl rfl rfl ⟨by decide, _, rfl, hK0⟩ ⟨Nat.zero_le _, Nat.zero_le _⟩ (by omega) (tfS_takeOrder (by omega) e4 hK0 ) (fun y88 g90 r89 e91 => ?_)
      exact go_bret k251_26 e91 r89 ⟨Nat.zero_le _, Nat.zero_le _⟩ rfl
theorem tfP_take {Φ : ev_P} {d : Nat} (hd : 0 ≤ d) {g : gH} (hg : HR g) {v0 v1 : Int} (hK0 : kd v0 = 3) (h1 : RfR v1) : Go Φ pr_P fN 0 (fP_take g v0 v1) d (pr_P 234) 0 (ev_loc (pr_P 234).1 [(sR v0), (sR v1)]) [] g 0 0 := by
  show Go Φ pr_P fN 0 (fP_take g v0 v1) d pr_m234 0 [some (sR v0), some (sR v1)] [] g 0 0
  unfold fP_take
  refine go_aload k234_0 rfl ?_
  refine go_aload k234_1 rfl ?_
  refine go_ck (fun q1 => ?_)
  refine go_getI (bI := 1) k234_2 hg q1 (by decide) rfl rfl (fun r2 => ?_)
  refine go_putI (bI := 1) k234_5 hg hK0 (by decide) rfl rfl r2 (fun g3 e4 => ?_)
  refine go_aload k234_8 rfl ?_
  refine go_aload k234_9 rfl ?_
  refine go_getI (bI := 3) k234_10 e4 q1 (by decide) rfl rfl (fun r5 => ?_)
  refine go_putI (bI := 3) k234_13 e4 hK0 (by decide) rfl rfl r5 (fun g6 e7 => ?_)
  refine go_aload k234_16 rfl ?_
  refine go_aload k234_17 rfl ?_
  refine go_getI (bI := 4) k234_18 e7 q1 (by decide) rfl rfl (fun r8 => ?_)
  refine go_putI (bI := 4) k234_21 e7 hK0 (by decide) rfl rfl r8 (fun g9 e10 => ?_)
  refine go_aload k234_24 rfl ?_
  refine go_aload k234_25 rfl ?_
  refine go_getI (bI := 5) k234_26 e10 q1 (by decide) rfl rfl (fun r11 => ?_)
  refine go_putI (bI := 5) k234_29 e10 hK0 (by decide) rfl rfl r11 (fun g12 e13 => ?_)
  refine go_aload k234_32 rfl ?_
  refine go_aload k234_33 rfl ?_
  refine go_getI (bI := 6) k234_34 e13 q1 (by decide) rfl rfl (fun r14 => ?_)
  refine go_putI (bI := 6) k234_37 e13 hK0 (by decide) rfl rfl r14 (fun g15 e16 => ?_)
  refine go_aload k234_40 rfl ?_
  refine go_aload k234_41 rfl ?_
  refine go_getI (bI := 7) k234_42 e16 q1 (by decide) rfl rfl (fun r17 => ?_)
  refine go_putI (bI := 7) k234_45 e16 hK0 (by decide) rfl rfl r17 (fun g18 e19 => ?_)
  refine go_aload k234_48 rfl ?_
  refine go_aload k234_49 rfl ?_
  refine go_getI (bI := 8) k234_50 e19 q1 (by decide) rfl rfl (fun r20 => ?_)
  refine go_putI (bI := 8) k234_53 e19 hK0 (by decide) rfl rfl r20 (fun g21 e22 => ?_)
  refine go_aload k234_56 rfl ?_
  refine go_aload k234_57 rfl ?_
  refine go_getI (bI := 9) k234_58 e22 q1 (by decide) rfl rfl (fun r23 => ?_)
  refine go_putI (bI := 9) k234_61 e22 hK0 (by decide) rfl rfl r23 (fun g24 e25 => ?_)
  refine go_aload k234_64 rfl ?_
  refine go_aload k234_65 rfl ?_
  refine go_getI (bI := 10) k234_66 e25 q1 (by decide) rfl rfl (fun r26 => ?_)
  refine go_putI (bI := 10) k234_69 e25 hK0 (by decide) rfl rfl r26 (fun g27 e28 => ?_)
  refine go_aload k234_72 rfl ?_
  refine go_aload k234_73 rfl ?_
  refine go_getI (bI := 11) k234_74 e28 q1 (by decide) rfl rfl (fun r29 => ?_)
  refine go_putI (bI := 11) k234_77 e28 hK0 (by decide) rfl rfl r29 (fun g30 e31 => ?_)
  refine go_aload k234_80 rfl ?_
  refine go_aload k234_81 rfl ?_
  refine go_getI (bI := 12) k234_82 e31 q1 (by decide) rfl rfl (fun r32 => ?_)
  refine go_putI (bI := 12) k234_85 e31 hK0 (by decide) rfl rfl r32 (fun g33 e34 => ?_)
  refine go_aload k234_88 rfl ?_
  refine go_aload k234_89 rfl ?_
  refine go_getB (bI := 13) k234_90 e34 q1 (by decide) rfl rfl (fun r35 => ?_)
  refine go_putB (bI := 13) k234_93 e34 hK0 (by decide) rfl rfl r35 (fun g36 e37 => ?_)
  refine go_aload k234_96 rfl ?_
  refine go_aload k234_97 rfl ?_
  refine go_getL (bI := 14) k234_98 e37 q1 (by decide) rfl rfl (fun r38 => ?_)
  refine go_putL (bI := 14) k234_101 e37 hK0 (by decide) rfl rfl r38 (fun g39 e40 => ?_)
  exact go_vret k234_104 e40 ⟨Nat.zero_le _, Nat.zero_le _⟩ rfl
theorem tjT_take_70 {Φ : ev_P} {d : Nat} (hd : 1 ≤ d) {g : gH} (hg : HR g) {v0 v1 : Int} (hK0 : kd v0 = 5) (h1 : RfR v1) (u2 : Option ev_V) (w2 : nwo u2) (u3 : Option ev_V) (w3 : nwo u3) : Go Φ pr_P fN 0 (jT_take_70 g v0 v1 ) d pr_m273 70 [some (sR v0), some (sR v1), u2, u3] [] g 0 0 := by
  unfold jT_take_70
  refine go_aload k273_70 rfl ?_
  refine go_ck (fun q39 => ?_)
  refine go_getR (bI := 2) k273_71 hg q39 (by decide) rfl rfl (fun r40 => ?_)
  refine go_int k273_74 0 rfl ?_
  refine go_aload k273_75 rfl ?_
  refine go_getR (bI := 2) k273_76 hg hK0 (by decide) rfl rfl (fun r41 => ?_)
  refine go_int k273_79 0 rfl ?_
  refine go_int k273_80 8 rfl ?_
  refine go_ck (fun q42 => ?_)
  refine go_copy k273_82 hg q42.1 q42.2 rfl (fun g43 e44 => ?_)
  refine go_aload k273_85 rfl ?_
  refine go_getR (bI := 3) k273_86 e44 q39 (by decide) rfl rfl (fun r45 => ?_)
  refine go_int k273_89 0 rfl ?_
  refine go_aload k273_90 rfl ?_
  refine go_getR (bI := 3) k273_91 e44 hK0 (by decide) rfl rfl (fun r46 => ?_)
  refine go_int k273_94 0 rfl ?_
  refine go_int k273_95 5 rfl ?_
  refine go_ck (fun q47 => ?_)
  refine go_copy k273_96 e44 q47.1 q47.2 rfl (fun g48 e49 => ?_)
  refine go_aload k273_99 rfl ?_
  refine go_aload k273_100 rfl ?_
  refine go_getI (bI := 4) k273_101 e49 q39 (by decide) rfl rfl (fun r50 => ?_)
  refine go_putI (bI := 4) k273_104 e49 hK0 (by decide) rfl rfl r50 (fun g51 e52 => ?_)
  refine go_aload k273_107 rfl ?_
  refine go_aload k273_108 rfl ?_
  refine go_getI (bI := 6) k273_109 e52 q39 (by decide) rfl rfl (fun r53 => ?_)
  refine go_putI (bI := 6) k273_112 e52 hK0 (by decide) rfl rfl r53 (fun g54 e55 => ?_)
  refine go_aload k273_115 rfl ?_
  refine go_aload k273_116 rfl ?_
  refine go_getI (bI := 7) k273_117 e55 q39 (by decide) rfl rfl (fun r56 => ?_)
  refine go_putI (bI := 7) k273_120 e55 hK0 (by decide) rfl rfl r56 (fun g57 e58 => ?_)
  refine go_aload k273_123 rfl ?_
  refine go_aload k273_124 rfl ?_
  refine go_getI (bI := 8) k273_125 e58 q39 (by decide) rfl rfl (fun r59 => ?_)
  refine go_putI (bI := 8) k273_128 e58 hK0 (by decide) rfl rfl r59 (fun g60 e61 => ?_)
  refine go_aload k273_131 rfl ?_
  refine go_aload k273_132 rfl ?_
  refine go_getI (bI := 9) k273_133 e61 q39 (by decide) rfl rfl (fun r62 => ?_)
  refine go_putI (bI := 9) k273_136 e61 hK0 (by decide) rfl rfl r62 (fun g63 e64 => ?_)
  exact go_vret k273_139 e64 ⟨Nat.zero_le _, Nat.zero_le _⟩ rfl
theorem tbT_take_10 {Φ : ev_P} {d : Nat} (hd : 1 ≤ d) {v0 v1 : Int} (hK0 : kd v0 = 5) (h1 : RfR v1) {X10 : Int → gH → Option (Int × gH)} (HX10 : ∀ (v2 : Int) (h2 : InR v2) (g : gH) (hg : HR g) (u3 : Option ev_V) (w3 : nwo u3), Go Φ pr_P fN 0 (X10 v2 g) d pr_m273 10 [some (sR v0), some (sR v1), some (sI v2), u3] [] g 0 0) : ∀ (v2 : Int) (h2 : InR v2) (g : gH) (hg : HR g) (u3 : Option ev_V) (w3 : nwo u3), Go Φ pr_P fN 0 (bT_take_10 v0 v1 X10 v2 g) d pr_m273 10 [some (sR v0), some (sR v1), some (sI v2), u3] [] g 0 0 := by
  intro v2 h2 g hg u3 w3
  unfold bT_take_10
  refine go_iload k273_10 rfl ?_
  refine go_int k273_11 40 rfl ?_
  refine go_cmlt k273_13 h2 (inR_of (by decide)) (fun c5 => ?_) (fun c6 => ?_)
  · refine go_aload k273_16 rfl ?_
    refine go_ck (fun q7 => ?_)
    refine go_getR (bI := 1) k273_17 hg q7 (by decide) rfl rfl (fun r8 => ?_)
    refine go_iload k273_20 rfl ?_
    refine go_ck (fun q10 => ?_)
    refine go_pald k273_21 hg q10 (fun r9 => ?_)
    refine go_astore k273_22 rfl (loc2 := [some (sR v0), some (sR v1), some (sI v2), some (sR (g (g v1 1) v2))]) rfl ?_
    refine go_aload k273_23 rfl ?_
    refine go_getR (bI := 1) k273_24 hg hK0 (by decide) rfl rfl (fun r11 => ?_)
    refine go_iload k273_27 rfl ?_
    refine go_ck (fun q13 => ?_)
    refine go_pald k273_28 hg q13 (fun r12 => ?_)
    refine go_aload k273_29 rfl ?_
    refine go_ck (fun q14 => ?_)
    refine go_callN0 k273_30 rfl rfl rfl ⟨by decide, _, rfl, q14⟩ ⟨Nat.zero_le _, Nat.zero_le _⟩ (by omega) (tfP_take (by omega) hg q14  r9) (fun y15 g17 e18 => ?_)
    refine go_aload k273_33 rfl ?_
    refine go_getR (bI := 1) k273_34 e18 hK0 (by decide) rfl rfl (fun r19 => ?_)
    refine go_iload k273_37 rfl ?_
    refine go_ck (fun q21 => ?_)
    refine go_pald k273_38 e18 q21 (fun r20 => ?_)
    refine go_aload k273_39 rfl ?_
    refine go_ck (fun q22 => ?_)
    refine go_getR (bI := 2) k273_40 e18 q22 (by decide) rfl rfl (fun r23 => ?_)
    refine go_isnull k273_43  (fun c24 => ?_) (fun c25 => ?_)
    · refine go_null k273_46 ?_
      refine go_goto k273_47 ?_
      refine go_ck (fun q26 => ?_)
      refine go_putR (bI := 2) k273_61 e18 q26 (by decide) rfl rfl rfR_null (fun g27 e28 => ?_)
      refine go_iinc k273_64 rfl rfl 1 rfl (loc2 := [some (sR v0), some (sR v1), some (sI (w32 (v2 + 1))), some (sR (g (g v1 1) v2))]) rfl ?_
      refine go_goto k273_67 ?_
      exact HX10 (w32 (v2 + 1)) (inR_w32 _) g27 e28 (some (sR (g (g v1 1) v2))) rfl
    · refine go_aload k273_50 rfl ?_
      refine go_aload k273_51 rfl ?_
      refine go_getR (bI := 2) k273_52 e18 q22 (by decide) rfl rfl (fun r29 => ?_)
      refine go_ck (fun q30 => ?_)
      refine go_getI (bI := 0) k273_55 e18 q30 (by decide) rfl rfl (fun r31 => ?_)
      refine go_callP2 k273_58 rfl rfl rfl ⟨by decide, _, rfl, hK0⟩ ⟨Nat.zero_le _, Nat.zero_le _⟩ (by omega) (tfT_at (by omega) e18 hK0  r31) (fun y32 r33 => ?_)
      refine go_ck (fun q36 => ?_)
      refine go_putR (bI := 2) k273_61 e18 q36 (by decide) rfl rfl r33 (fun g37 e38 => ?_)
      refine go_iinc k273_64 rfl rfl 1 rfl (loc2 := [some (sR v0), some (sR v1), some (sI (w32 (v2 + 1))), some (sR (g (g v1 1) v2))]) rfl ?_
      refine go_goto k273_67 ?_
      exact HX10 (w32 (v2 + 1)) (inR_w32 _) g37 e38 (some (sR (g (g v1 1) v2))) rfl
  · exact tjT_take_70 hd hg hK0 h1 (some (sI v2)) rfl u3 w3
theorem tlT_take_10 {Φ : ev_P} {d : Nat} (hd : 1 ≤ d) {v0 v1 : Int} (hK0 : kd v0 = 5) (h1 : RfR v1) : ∀ n : Nat, ∀ (v2 : Int) (h2 : InR v2) (g : gH) (hg : HR g) (u3 : Option ev_V) (w3 : nwo u3), Go Φ pr_P fN 0 (lT_take_10 v0 v1 n v2 g) d pr_m273 10 [some (sR v0), some (sR v1), some (sI v2), u3] [] g 0 0 := by
  intro n
  induction n with
  | zero => intros; exact go_none
  | succ n ih => exact tbT_take_10 hd hK0 h1 ih
theorem tfT_take {Φ : ev_P} {d : Nat} (hd : 1 ≤ d) {g : gH} (hg : HR g) {v0 v1 : Int} (hK0 : kd v0 = 5) (h1 : RfR v1) : Go Φ pr_P fN 0 (fT_take g v0 v1) d (pr_P 273) 0 (ev_loc (pr_P 273).1 [(sR v0), (sR v1)]) [] g 0 0 := by
  show Go Φ pr_P fN 0 (fT_take g v0 v1) d pr_m273 0 [some (sR v0), some (sR v1), none, none] [] g 0 0
  unfold fT_take
  refine go_aload k273_0 rfl ?_
  refine go_aload k273_1 rfl ?_
  refine go_ck (fun q1 => ?_)
  refine go_getI (bI := 5) k273_2 hg q1 (by decide) rfl rfl (fun r2 => ?_)
  refine go_putI (bI := 5) k273_5 hg hK0 (by decide) rfl rfl r2 (fun g3 e4 => ?_)
  refine go_int k273_8 0 rfl ?_
  refine go_istore k273_9 rfl (loc2 := [some (sR v0), some (sR v1), some (sI 0), none]) rfl ?_
  exact tlT_take_10 hd hK0 h1 fu 0 (inR_b (Or.inl rfl)) g3 e4 none rfl
theorem tjC_loadTree_36 {Φ : ev_P} {d : Nat} (hd : 6 ≤ d) {g : gH} (hg : HR g) {v0 : Int} (hK0 : kd v0 = 6) (u1 : Option ev_V) (w1 : nwo u1) (u2 : Option ev_V) (w2 : nwo u2) : Go Φ pr_P fN 1 (jC_loadTree_36 g v0 ) d pr_m3 36 [some (sR v0), u1, u2] [] g 0 0 := by
  unfold jC_loadTree_36
  refine go_aload k3_36 rfl ?_
  refine go_getR (bI := 4) k3_37 hg hK0 (by decide) rfl rfl (fun r17 => ?_)
  refine go_ck (fun q18 => ?_)
  refine go_getR (bI := 0) k3_40 hg q18 (by decide) rfl rfl (fun r19 => ?_)
  refine go_int k3_43 0 rfl ?_
  refine go_ck (fun q20 => ?_)
  refine go_putI (bI := 1) k3_44 hg q20 (by decide) rfl rfl (inR_b (Or.inl rfl)) (fun g21 e22 => ?_)
  refine go_aload k3_47 rfl ?_
  refine go_getR (bI := 4) k3_48 e22 hK0 (by decide) rfl rfl (fun r23 => ?_)
  refine go_ck (fun q24 => ?_)
  refine go_getI (bI := 2) k3_51 e22 q24 (by decide) rfl rfl (fun r25 => ?_)
  refine go_ifeq k3_54 r25 (fun c26 => ?_) (fun c27 => ?_)
  · refine go_aload k3_59 rfl ?_
    refine go_getR (bI := 0) k3_60 e22 hK0 (by decide) rfl rfl (fun r28 => ?_)
    refine go_aload k3_63 rfl ?_
    refine go_getR (bI := 4) k3_64 e22 hK0 (by decide) rfl rfl (fun r29 => ?_)
    refine go_getR (bI := 1) k3_67 e22 q24 (by decide) rfl rfl (fun r30 => ?_)
    refine go_ck (fun q31 => ?_)
    refine go_callN0 k3_70 rfl rfl rfl ⟨by decide, _, rfl, q31⟩ ⟨Nat.zero_le _, Nat.zero_le _⟩ (by omega) (tfT_take (by omega) e22 q31  r30) (fun y32 g34 e35 => ?_)
    refine go_aload k3_73 rfl ?_
    refine go_getR (bI := 3) k3_74 e35 hK0 (by decide) rfl rfl (fun r36 => ?_)
    refine go_int k3_77 0 rfl ?_
    refine go_ck (fun q37 => ?_)
    refine go_putI (bI := 1) k3_78 e35 q37 (by decide) rfl rfl (inR_b (Or.inl rfl)) (fun g38 e39 => ?_)
    refine go_aload k3_81 rfl ?_
    refine go_int k3_82 0 rfl ?_
    refine go_putB (bI := 6) k3_83 e39 hK0 (by decide) rfl rfl (Or.inl rfl) (fun g40 e41 => ?_)
    refine go_aload k3_86 rfl ?_
    refine go_getR (bI := 5) k3_87 e41 hK0 (by decide) rfl rfl (fun r42 => ?_)
    refine go_int k3_90 0 rfl ?_
    refine go_ck (fun q43 => ?_)
    refine go_putI (bI := 1) k3_91 e41 q43 (by decide) rfl rfl (inR_b (Or.inl rfl)) (fun g44 e45 => ?_)
    refine go_aload k3_94 rfl ?_
    refine go_getR (bI := 0) k3_95 e45 hK0 (by decide) rfl rfl (fun r46 => ?_)
    refine go_ck (fun q47 => ?_)
    refine go_getI (bI := 5) k3_98 e45 q47 (by decide) rfl rfl (fun r48 => ?_)
    exact go_iret k3_101 e45 r48 ⟨Nat.zero_le _, Nat.zero_le _⟩ rfl
  · refine go_int k3_57 (-1) rfl ?_
    exact go_iret k3_58 e22 (inR_of (by decide)) ⟨Nat.zero_le _, Nat.zero_le _⟩ rfl
theorem tbC_loadTree_11 {Φ : ev_P} {d : Nat} (hd : 6 ≤ d) {v0 : Int} (hK0 : kd v0 = 6) {X11 : Int → Int → gH → Option (Int × gH)} (HX11 : ∀ (v1 : Int) (h1 : B01 v1) (v2 : Int) (h2 : InR v2) (g : gH) (hg : HR g), Go Φ pr_P fN 1 (X11 v1 v2 g) d pr_m3 11 [some (sR v0), some (sI v1), some (sI v2)] [] g 0 0) : ∀ (v1 : Int) (h1 : B01 v1) (v2 : Int) (h2 : InR v2) (g : gH) (hg : HR g), Go Φ pr_P fN 1 (bC_loadTree_11 v0 X11 v1 v2 g) d pr_m3 11 [some (sR v0), some (sI v1), some (sI v2)] [] g 0 0 := by
  intro v1 h1 v2 h2 g hg
  unfold bC_loadTree_11
  refine go_iload k3_11 rfl ?_
  refine go_int k3_12 500 rfl ?_
  refine go_cmlt k3_15 h2 (inR_of (by decide)) (fun c7 => ?_) (fun c8 => ?_)
  · refine go_iload k3_18 rfl ?_
    refine go_ifeq k3_19 (inR_b h1) (fun c9 => ?_) (fun c10 => ?_)
    · exact tjC_loadTree_36 hd hg hK0 (some (sI v1)) rfl (some (sI v2)) rfl
    · refine go_aload k3_22 rfl ?_
      refine go_getR (bI := 4) k3_23 hg hK0 (by decide) rfl rfl (fun r11 => ?_)
      refine go_ck (fun q12 => ?_)
      refine go_callN3 k3_26 rfl rfl rfl ⟨by decide, _, rfl, q12⟩ ⟨Nat.zero_le _, Nat.zero_le _⟩ (by omega) (tfS_takeStatement (by omega) hg q12 ) (fun y13 g15 r14 e16 => ?_)
      refine go_istore k3_29 rfl (loc2 := [some (sR v0), some (sI y13), some (sI v2)]) rfl ?_
      refine go_iinc k3_30 rfl rfl 1 rfl (loc2 := [some (sR v0), some (sI y13), some (sI (w32 (v2 + 1)))]) rfl ?_
      refine go_goto k3_33 ?_
      exact HX11 y13 r14 (w32 (v2 + 1)) (inR_w32 _) g15 e16
  · exact tjC_loadTree_36 hd hg hK0 (some (sI v1)) rfl (some (sI v2)) rfl
theorem tlC_loadTree_11 {Φ : ev_P} {d : Nat} (hd : 6 ≤ d) {v0 : Int} (hK0 : kd v0 = 6) : ∀ n : Nat, ∀ (v1 : Int) (h1 : B01 v1) (v2 : Int) (h2 : InR v2) (g : gH) (hg : HR g), Go Φ pr_P fN 1 (lC_loadTree_11 v0 n v1 v2 g) d pr_m3 11 [some (sR v0), some (sI v1), some (sI v2)] [] g 0 0 := by
  intro n
  induction n with
  | zero => intros; exact go_none
  | succ n ih => exact tbC_loadTree_11 hd hK0 ih
theorem tfC_loadTree {Φ : ev_P} {d : Nat} (hd : 6 ≤ d) {g : gH} (hg : HR g) {v0 : Int} (hK0 : kd v0 = 6) : Go Φ pr_P fN 1 (fC_loadTree g v0) d (pr_P 3) 0 (ev_loc (pr_P 3).1 [(sR v0)]) [] g 0 0 := by
  show Go Φ pr_P fN 1 (fC_loadTree g v0) d pr_m3 0 [some (sR v0), none, none] [] g 0 0
  unfold fC_loadTree
  refine go_aload k3_0 rfl ?_
  refine go_getR (bI := 4) k3_1 hg hK0 (by decide) rfl rfl (fun r1 => ?_)
  refine go_ck (fun q2 => ?_)
  refine go_callN0 k3_4 rfl rfl rfl ⟨by decide, _, rfl, q2⟩ ⟨Nat.zero_le _, Nat.zero_le _⟩ (by omega) (tfS_begin (by omega) hg q2 ) (fun y3 g5 e6 => ?_)
  refine go_int k3_7 1 rfl ?_
  refine go_istore k3_8 rfl (loc2 := [some (sR v0), some (sI 1), none]) rfl ?_
  refine go_int k3_9 0 rfl ?_
  refine go_istore k3_10 rfl (loc2 := [some (sR v0), some (sI 1), some (sI 0)]) rfl ?_
  exact tlC_loadTree_11 hd hK0 fu 1 (Or.inr rfl) 0 (inR_b (Or.inl rfl)) g5 e6
theorem tfC_errorCode {Φ : ev_P} {d : Nat} (hd : 0 ≤ d) {g : gH} (hg : HR g) {v0 : Int} (hK0 : kd v0 = 6) : Go Φ pr_P (fP g) 1 (fC_errorCode g v0) d (pr_P 4) 0 (ev_loc (pr_P 4).1 [(sR v0)]) [] g 0 0 := by
  show Go Φ pr_P (fP g) 1 (fC_errorCode g v0) d pr_m4 0 [some (sR v0)] [] g 0 0
  unfold fC_errorCode
  refine go_aload k4_0 rfl ?_
  refine go_getR (bI := 4) k4_1 hg hK0 (by decide) rfl rfl (fun r1 => ?_)
  refine go_ck (fun q2 => ?_)
  refine go_getI (bI := 2) k4_4 hg q2 (by decide) rfl rfl (fun r3 => ?_)
  exact go_iret k4_7 hg r3 ⟨Nat.zero_le _, Nat.zero_le _⟩ rfl
theorem tfC_errorOffset {Φ : ev_P} {d : Nat} (hd : 0 ≤ d) {g : gH} (hg : HR g) {v0 : Int} (hK0 : kd v0 = 6) : Go Φ pr_P (fP g) 1 (fC_errorOffset g v0) d (pr_P 5) 0 (ev_loc (pr_P 5).1 [(sR v0)]) [] g 0 0 := by
  show Go Φ pr_P (fP g) 1 (fC_errorOffset g v0) d pr_m5 0 [some (sR v0)] [] g 0 0
  unfold fC_errorOffset
  refine go_aload k5_0 rfl ?_
  refine go_getR (bI := 4) k5_1 hg hK0 (by decide) rfl rfl (fun r1 => ?_)
  refine go_ck (fun q2 => ?_)
  refine go_getI (bI := 3) k5_4 hg q2 (by decide) rfl rfl (fun r3 => ?_)
  exact go_iret k5_7 hg r3 ⟨Nat.zero_le _, Nat.zero_le _⟩ rfl
theorem tfC_rule {Φ : ev_P} {d : Nat} (hd : 0 ≤ d) {g : gH} (hg : HR g) {v0 v1 : Int} (hK0 : kd v0 = 6) (h1 : InR v1) : Go Φ pr_P (fP g) 1 (fC_rule g v0 v1) d (pr_P 9) 0 (ev_loc (pr_P 9).1 [(sR v0), (sI v1)]) [] g 0 0 := by
  show Go Φ pr_P (fP g) 1 (fC_rule g v0 v1) d pr_m9 0 [some (sR v0), some (sI v1)] [] g 0 0
  unfold fC_rule
  refine go_iload k9_0 rfl ?_
  refine go_iflt k9_1 h1 (fun c1 => ?_) (fun c2 => ?_)
  · refine go_int k9_9 (-1) rfl ?_
    refine go_goto k9_10 ?_
    exact go_iret k9_22 hg (inR_of (by decide)) ⟨Nat.zero_le _, Nat.zero_le _⟩ rfl
  · refine go_iload k9_4 rfl ?_
    refine go_int k9_5 5 rfl ?_
    refine go_cmlt k9_6 h1 (inR_of (by decide)) (fun c3 => ?_) (fun c4 => ?_)
    · refine go_aload k9_13 rfl ?_
      refine go_getR (bI := 0) k9_14 hg hK0 (by decide) rfl rfl (fun r5 => ?_)
      refine go_ck (fun q6 => ?_)
      refine go_getR (bI := 3) k9_17 hg q6 (by decide) rfl rfl (fun r7 => ?_)
      refine go_iload k9_20 rfl ?_
      refine go_ck (fun q9 => ?_)
      refine go_iald k9_21 hg q9 (fun r8 => ?_)
      exact go_iret k9_22 hg r8 ⟨Nat.zero_le _, Nat.zero_le _⟩ rfl
    · refine go_int k9_9 (-1) rfl ?_
      refine go_goto k9_10 ?_
      exact go_iret k9_22 hg (inR_of (by decide)) ⟨Nat.zero_le _, Nat.zero_le _⟩ rfl
theorem tfP_isRunning {Φ : ev_P} {d : Nat} (hd : 0 ≤ d) {g : gH} (hg : HR g) {v0 : Int} (hK0 : kd v0 = 3) : Go Φ pr_P (fP g) 3 (fP_isRunning g v0) d (pr_P 235) 0 (ev_loc (pr_P 235).1 [(sR v0)]) [] g 0 0 := by
  show Go Φ pr_P (fP g) 3 (fP_isRunning g v0) d pr_m235 0 [some (sR v0)] [] g 0 0
  unfold fP_isRunning
  refine go_aload k235_0 rfl ?_
  refine go_getI (bI := 1) k235_1 hg hK0 (by decide) rfl rfl (fun r1 => ?_)
  refine go_ifeq k235_4 r1 (fun c2 => ?_) (fun c3 => ?_)
  · refine go_int k235_7 1 rfl ?_
    refine go_goto k235_8 ?_
    exact go_bret k235_12 hg (Or.inr rfl) ⟨Nat.zero_le _, Nat.zero_le _⟩ rfl
  · refine go_int k235_11 0 rfl ?_
    exact go_bret k235_12 hg (Or.inl rfl) ⟨Nat.zero_le _, Nat.zero_le _⟩ rfl
theorem tbP_countAbove_7 {Φ : ev_P} {d : Nat} (hd : 0 ≤ d) {g : gH} (hg : HR g) {X7 : Int → Int → Option Int} (HX7 : ∀ (v1 : Int) (h1 : InR v1) (v2 : Int) (h2 : RfR v2) (u0 : Option ev_V) (w0 : nwo u0), Go Φ pr_P (fP g) 1 (X7 v1 v2) d pr_m243 7 [u0, some (sI v1), some (sR v2)] [] g 0 0) : ∀ (v1 : Int) (h1 : InR v1) (v2 : Int) (h2 : RfR v2) (u0 : Option ev_V) (w0 : nwo u0), Go Φ pr_P (fP g) 1 (bP_countAbove_7 g X7 v1 v2) d pr_m243 7 [u0, some (sI v1), some (sR v2)] [] g 0 0 := by
  intro v1 h1 v2 h2 u0 w0
  unfold bP_countAbove_7
  refine go_aload k243_7 rfl ?_
  refine go_isnull k243_8  (fun c2 => ?_) (fun c3 => ?_)
  · refine go_iload k243_22 rfl ?_
    exact go_iret k243_23 hg h1 ⟨Nat.zero_le _, Nat.zero_le _⟩ rfl
  · refine go_iinc k243_11 rfl w0 1 rfl (loc2 := [u0, some (sI (w32 (v1 + 1))), some (sR v2)]) rfl ?_
    refine go_aload k243_14 rfl ?_
    refine go_ck (fun q4 => ?_)
    refine go_getR (bI := 2) k243_15 hg q4 (by decide) rfl rfl (fun r5 => ?_)
    refine go_astore k243_18 rfl (loc2 := [u0, some (sI (w32 (v1 + 1))), some (sR (g v2 2))]) rfl ?_
    refine go_goto k243_19 ?_
    exact HX7 (w32 (v1 + 1)) (inR_w32 _) (g v2 2) r5 u0 w0
theorem tlP_countAbove_7 {Φ : ev_P} {d : Nat} (hd : 0 ≤ d) {g : gH} (hg : HR g) : ∀ n : Nat, ∀ (v1 : Int) (h1 : InR v1) (v2 : Int) (h2 : RfR v2) (u0 : Option ev_V) (w0 : nwo u0), Go Φ pr_P (fP g) 1 (lP_countAbove_7 g n v1 v2) d pr_m243 7 [u0, some (sI v1), some (sR v2)] [] g 0 0 := by
  intro n
  induction n with
  | zero => intros; exact go_none
  | succ n ih => exact tbP_countAbove_7 hd hg ih
theorem tfP_countAbove {Φ : ev_P} {d : Nat} (hd : 0 ≤ d) {g : gH} (hg : HR g) {v0 : Int} (hK0 : kd v0 = 3) : Go Φ pr_P (fP g) 1 (fP_countAbove g v0) d (pr_P 243) 0 (ev_loc (pr_P 243).1 [(sR v0)]) [] g 0 0 := by
  show Go Φ pr_P (fP g) 1 (fP_countAbove g v0) d pr_m243 0 [some (sR v0), none, none] [] g 0 0
  unfold fP_countAbove
  refine go_int k243_0 0 rfl ?_
  refine go_istore k243_1 rfl (loc2 := [some (sR v0), some (sI 0), none]) rfl ?_
  refine go_aload k243_2 rfl ?_
  refine go_getR (bI := 2) k243_3 hg hK0 (by decide) rfl rfl (fun r1 => ?_)
  refine go_astore k243_6 rfl (loc2 := [some (sR v0), some (sI 0), some (sR (g v0 2))]) rfl ?_
  exact tlP_countAbove_7 hd hg fu 0 (inR_b (Or.inl rfl)) (g v0 2) r1 (some (sR v0)) rfl
theorem tbC_atDepth_17 {Φ : ev_P} {d : Nat} (hd : 1 ≤ d) {g : gH} (hg : HR g) {v1 v3 v4 : Int} (h1 : InR v1) (h3 : RfR v3) (h4 : InR v4) {X17 : Int → Int → Option Int} (HX17 : ∀ (v2 : Int) (h2 : InR v2) (v5 : Int) (h5 : InR v5) (u0 : Option ev_V) (w0 : nwo u0) (u6 : Option ev_V) (w6 : nwo u6), Go Φ pr_P (fP g) 1 (X17 v2 v5) d pr_m15 17 [u0, some (sI v1), some (sI v2), some (sR v3), some (sI v4), some (sI v5), u6] [] g 0 0) : ∀ (v2 : Int) (h2 : InR v2) (v5 : Int) (h5 : InR v5) (u0 : Option ev_V) (w0 : nwo u0) (u6 : Option ev_V) (w6 : nwo u6), Go Φ pr_P (fP g) 1 (bC_atDepth_17 g v1 v3 v4 X17 v2 v5) d pr_m15 17 [u0, some (sI v1), some (sI v2), some (sR v3), some (sI v4), some (sI v5), u6] [] g 0 0 := by
  intro v2 h2 v5 h5 u0 w0 u6 w6
  unfold bC_atDepth_17
  refine go_iload k15_17 rfl ?_
  refine go_iload k15_19 rfl ?_
  refine go_cmlt k15_21 h5 h4 (fun c6 => ?_) (fun c7 => ?_)
  · refine go_aload k15_24 rfl ?_
    refine go_iload k15_25 rfl ?_
    refine go_ck (fun q9 => ?_)
    refine go_pald k15_27 hg q9 (fun r8 => ?_)
    refine go_astore k15_28 rfl (loc2 := [u0, some (sI v1), some (sI v2), some (sR v3), some (sI v4), some (sI v5), some (sR (g v3 v5))]) rfl ?_
    refine go_aload k15_30 rfl ?_
    refine go_ck (fun q10 => ?_)
    refine go_callP3 k15_32 rfl rfl rfl ⟨by decide, _, rfl, q10⟩ ⟨Nat.zero_le _, Nat.zero_le _⟩ (by omega) (tfP_isRunning (by omega) hg q10 ) (fun y11 r12 => ?_)
    refine go_ifeq k15_35 (inR_b r12) (fun c15 => ?_) (fun c16 => ?_)
    · refine go_iinc k15_50 rfl rfl 1 rfl (loc2 := [u0, some (sI v1), some (sI v2), some (sR v3), some (sI v4), some (sI (w32 (v5 + 1))), some (sR (g v3 v5))]) rfl ?_
      refine go_goto k15_53 ?_
      exact HX17 v2 h2 (w32 (v5 + 1)) (inR_w32 _) u0 w0 (some (sR (g v3 v5))) rfl
    · refine go_aload k15_38 rfl ?_
      refine go_callP1 k15_40 rfl rfl rfl ⟨by decide, _, rfl, q10⟩ ⟨Nat.zero_le _, Nat.zero_le _⟩ (by omega) (tfP_countAbove (by omega) hg q10 ) (fun y17 r18 => ?_)
      refine go_iload k15_43 rfl ?_
      refine go_cmeq k15_44 r18 h1 (fun c21 => ?_) (fun c22 => ?_)
      · refine go_iinc k15_47 rfl rfl 1 rfl (loc2 := [u0, some (sI v1), some (sI (w32 (v2 + 1))), some (sR v3), some (sI v4), some (sI v5), some (sR (g v3 v5))]) rfl ?_
        refine go_iinc k15_50 rfl rfl 1 rfl (loc2 := [u0, some (sI v1), some (sI (w32 (v2 + 1))), some (sR v3), some (sI v4), some (sI (w32 (v5 + 1))), some (sR (g v3 v5))]) rfl ?_
        refine go_goto k15_53 ?_
        exact HX17 (w32 (v2 + 1)) (inR_w32 _) (w32 (v5 + 1)) (inR_w32 _) u0 w0 (some (sR (g v3 v5))) rfl
      · refine go_iinc k15_50 rfl rfl 1 rfl (loc2 := [u0, some (sI v1), some (sI v2), some (sR v3), some (sI v4), some (sI (w32 (v5 + 1))), some (sR (g v3 v5))]) rfl ?_
        refine go_goto k15_53 ?_
        exact HX17 v2 h2 (w32 (v5 + 1)) (inR_w32 _) u0 w0 (some (sR (g v3 v5))) rfl
  · refine go_iload k15_56 rfl ?_
    exact go_iret k15_57 hg h2 ⟨Nat.zero_le _, Nat.zero_le _⟩ rfl
theorem tlC_atDepth_17 {Φ : ev_P} {d : Nat} (hd : 1 ≤ d) {g : gH} (hg : HR g) {v1 v3 v4 : Int} (h1 : InR v1) (h3 : RfR v3) (h4 : InR v4) : ∀ n : Nat, ∀ (v2 : Int) (h2 : InR v2) (v5 : Int) (h5 : InR v5) (u0 : Option ev_V) (w0 : nwo u0) (u6 : Option ev_V) (w6 : nwo u6), Go Φ pr_P (fP g) 1 (lC_atDepth_17 g v1 v3 v4 n v2 v5) d pr_m15 17 [u0, some (sI v1), some (sI v2), some (sR v3), some (sI v4), some (sI v5), u6] [] g 0 0 := by
  intro n
  induction n with
  | zero => intros; exact go_none
  | succ n ih => exact tbC_atDepth_17 hd hg h1 h3 h4 ih
theorem tfC_atDepth {Φ : ev_P} {d : Nat} (hd : 1 ≤ d) {g : gH} (hg : HR g) {v0 v1 : Int} (hK0 : kd v0 = 6) (h1 : InR v1) : Go Φ pr_P (fP g) 1 (fC_atDepth g v0 v1) d (pr_P 15) 0 (ev_loc (pr_P 15).1 [(sR v0), (sI v1)]) [] g 0 0 := by
  show Go Φ pr_P (fP g) 1 (fC_atDepth g v0 v1) d pr_m15 0 [some (sR v0), some (sI v1), none, none, none, none, none] [] g 0 0
  unfold fC_atDepth
  refine go_int k15_0 0 rfl ?_
  refine go_istore k15_1 rfl (loc2 := [some (sR v0), some (sI v1), some (sI 0), none, none, none, none]) rfl ?_
  refine go_aload k15_2 rfl ?_
  refine go_getR (bI := 0) k15_3 hg hK0 (by decide) rfl rfl (fun r1 => ?_)
  refine go_ck (fun q2 => ?_)
  refine go_getR (bI := 1) k15_6 hg q2 (by decide) rfl rfl (fun r3 => ?_)
  refine go_astore k15_9 rfl (loc2 := [some (sR v0), some (sI v1), some (sI 0), some (sR (g (g v0 0) 1)), none, none, none]) rfl ?_
  refine go_aload k15_10 rfl ?_
  refine go_ck (fun q5 => ?_)
  refine go_alen k15_11 (ka_24 q5) (fun r4 => ?_)
  refine go_istore k15_12 rfl (loc2 := [some (sR v0), some (sI v1), some (sI 0), some (sR (g (g v0 0) 1)), some (sI (sz (g (g v0 0) 1))), none, none]) rfl ?_
  refine go_int k15_14 0 rfl ?_
  refine go_istore k15_15 rfl (loc2 := [some (sR v0), some (sI v1), some (sI 0), some (sR (g (g v0 0) 1)), some (sI (sz (g (g v0 0) 1))), some (sI 0), none]) rfl ?_
  exact tlC_atDepth_17 hd hg h1 r3 r4 fu 0 (inR_b (Or.inl rfl)) 0 (inR_b (Or.inl rfl)) (some (sR v0)) rfl none rfl
theorem tbT_greatestDepth_13 {Φ : ev_P} {d : Nat} (hd : 1 ≤ d) {g : gH} (hg : HR g) {v2 v3 : Int} (h2 : RfR v2) (h3 : InR v3) {X13 : Int → Int → Option Int} (HX13 : ∀ (v1 : Int) (h1 : InR v1) (v4 : Int) (h4 : InR v4) (u0 : Option ev_V) (w0 : nwo u0) (u5 : Option ev_V) (w5 : nwo u5), Go Φ pr_P (fP g) 1 (X13 v1 v4) d pr_m278 13 [u0, some (sI v1), some (sR v2), some (sI v3), some (sI v4), u5] [] g 0 0) : ∀ (v1 : Int) (h1 : InR v1) (v4 : Int) (h4 : InR v4) (u0 : Option ev_V) (w0 : nwo u0) (u5 : Option ev_V) (w5 : nwo u5), Go Φ pr_P (fP g) 1 (bT_greatestDepth_13 g v2 v3 X13 v1 v4) d pr_m278 13 [u0, some (sI v1), some (sR v2), some (sI v3), some (sI v4), u5] [] g 0 0 := by
  intro v1 h1 v4 h4 u0 w0 u5 w5
  unfold bT_greatestDepth_13
  refine go_iload k278_13 rfl ?_
  refine go_iload k278_15 rfl ?_
  refine go_cmlt k278_16 h4 h3 (fun c4 => ?_) (fun c5 => ?_)
  · refine go_aload k278_19 rfl ?_
    refine go_iload k278_20 rfl ?_
    refine go_ck (fun q7 => ?_)
    refine go_pald k278_22 hg q7 (fun r6 => ?_)
    refine go_astore k278_23 rfl (loc2 := [u0, some (sI v1), some (sR v2), some (sI v3), some (sI v4), some (sR (g v2 v4))]) rfl ?_
    refine go_aload k278_25 rfl ?_
    refine go_ck (fun q8 => ?_)
    refine go_callP3 k278_27 rfl rfl rfl ⟨by decide, _, rfl, q8⟩ ⟨Nat.zero_le _, Nat.zero_le _⟩ (by omega) (tfP_isRunning (by omega) hg q8 ) (fun y9 r10 => ?_)
    refine go_ifeq k278_30 (inR_b r10) (fun c13 => ?_) (fun c14 => ?_)
    · refine go_iinc k278_48 rfl rfl 1 rfl (loc2 := [u0, some (sI v1), some (sR v2), some (sI v3), some (sI (w32 (v4 + 1))), some (sR (g v2 v4))]) rfl ?_
      refine go_goto k278_51 ?_
      exact HX13 v1 h1 (w32 (v4 + 1)) (inR_w32 _) u0 w0 (some (sR (g v2 v4))) rfl
    · refine go_aload k278_33 rfl ?_
      refine go_callP1 k278_35 rfl rfl rfl ⟨by decide, _, rfl, q8⟩ ⟨Nat.zero_le _, Nat.zero_le _⟩ (by omega) (tfP_countAbove (by omega) hg q8 ) (fun y15 r16 => ?_)
      refine go_iload k278_38 rfl ?_
      refine go_cmgt k278_39 r16 h1 (fun c19 => ?_) (fun c20 => ?_)
      · refine go_aload k278_42 rfl ?_
        refine go_callP1 k278_44 rfl rfl rfl ⟨by decide, _, rfl, q8⟩ ⟨Nat.zero_le _, Nat.zero_le _⟩ (by omega) (tfP_countAbove (by omega) hg q8 ) (fun y21 r22 => ?_)
        refine go_istore k278_47 w0 (loc2 := [u0, some (sI y21), some (sR v2), some (sI v3), some (sI v4), some (sR (g v2 v4))]) rfl ?_
        refine go_iinc k278_48 rfl rfl 1 rfl (loc2 := [u0, some (sI y21), some (sR v2), some (sI v3), some (sI (w32 (v4 + 1))), some (sR (g v2 v4))]) rfl ?_
        refine go_goto k278_51 ?_
        exact HX13 y21 r22 (w32 (v4 + 1)) (inR_w32 _) u0 w0 (some (sR (g v2 v4))) rfl
      · refine go_iinc k278_48 rfl rfl 1 rfl (loc2 := [u0, some (sI v1), some (sR v2), some (sI v3), some (sI (w32 (v4 + 1))), some (sR (g v2 v4))]) rfl ?_
        refine go_goto k278_51 ?_
        exact HX13 v1 h1 (w32 (v4 + 1)) (inR_w32 _) u0 w0 (some (sR (g v2 v4))) rfl
  · refine go_iload k278_54 rfl ?_
    exact go_iret k278_55 hg h1 ⟨Nat.zero_le _, Nat.zero_le _⟩ rfl
theorem tlT_greatestDepth_13 {Φ : ev_P} {d : Nat} (hd : 1 ≤ d) {g : gH} (hg : HR g) {v2 v3 : Int} (h2 : RfR v2) (h3 : InR v3) : ∀ n : Nat, ∀ (v1 : Int) (h1 : InR v1) (v4 : Int) (h4 : InR v4) (u0 : Option ev_V) (w0 : nwo u0) (u5 : Option ev_V) (w5 : nwo u5), Go Φ pr_P (fP g) 1 (lT_greatestDepth_13 g v2 v3 n v1 v4) d pr_m278 13 [u0, some (sI v1), some (sR v2), some (sI v3), some (sI v4), u5] [] g 0 0 := by
  intro n
  induction n with
  | zero => intros; exact go_none
  | succ n ih => exact tbT_greatestDepth_13 hd hg h2 h3 ih
theorem tfT_greatestDepth {Φ : ev_P} {d : Nat} (hd : 1 ≤ d) {g : gH} (hg : HR g) {v0 : Int} (hK0 : kd v0 = 5) : Go Φ pr_P (fP g) 1 (fT_greatestDepth g v0) d (pr_P 278) 0 (ev_loc (pr_P 278).1 [(sR v0)]) [] g 0 0 := by
  show Go Φ pr_P (fP g) 1 (fT_greatestDepth g v0) d pr_m278 0 [some (sR v0), none, none, none, none, none] [] g 0 0
  unfold fT_greatestDepth
  refine go_int k278_0 0 rfl ?_
  refine go_istore k278_1 rfl (loc2 := [some (sR v0), some (sI 0), none, none, none, none]) rfl ?_
  refine go_aload k278_2 rfl ?_
  refine go_getR (bI := 1) k278_3 hg hK0 (by decide) rfl rfl (fun r1 => ?_)
  refine go_astore k278_6 rfl (loc2 := [some (sR v0), some (sI 0), some (sR (g v0 1)), none, none, none]) rfl ?_
  refine go_aload k278_7 rfl ?_
  refine go_ck (fun q3 => ?_)
  refine go_alen k278_8 (ka_24 q3) (fun r2 => ?_)
  refine go_istore k278_9 rfl (loc2 := [some (sR v0), some (sI 0), some (sR (g v0 1)), some (sI (sz (g v0 1))), none, none]) rfl ?_
  refine go_int k278_10 0 rfl ?_
  refine go_istore k278_11 rfl (loc2 := [some (sR v0), some (sI 0), some (sR (g v0 1)), some (sI (sz (g v0 1))), some (sI 0), none]) rfl ?_
  exact tlT_greatestDepth_13 hd hg r1 r2 fu 0 (inR_b (Or.inl rfl)) 0 (inR_b (Or.inl rfl)) (some (sR v0)) rfl none rfl
theorem tfC_height {Φ : ev_P} {d : Nat} (hd : 2 ≤ d) {g : gH} (hg : HR g) {v0 : Int} (hK0 : kd v0 = 6) : Go Φ pr_P (fP g) 1 (fC_height g v0) d (pr_P 16) 0 (ev_loc (pr_P 16).1 [(sR v0)]) [] g 0 0 := by
  show Go Φ pr_P (fP g) 1 (fC_height g v0) d pr_m16 0 [some (sR v0)] [] g 0 0
  unfold fC_height
  refine go_aload k16_0 rfl ?_
  refine go_getR (bI := 0) k16_1 hg hK0 (by decide) rfl rfl (fun r1 => ?_)
  refine go_ck (fun q2 => ?_)
  refine go_callP1 k16_4 rfl rfl rfl ⟨by decide, _, rfl, q2⟩ ⟨Nat.zero_le _, Nat.zero_le _⟩ (by omega) (tfT_greatestDepth (by omega) hg q2 ) (fun y3 r4 => ?_)
  exact go_iret k16_7 hg r4 ⟨Nat.zero_le _, Nat.zero_le _⟩ rfl
theorem tbC_allRoom_16 {Φ : ev_P} {d : Nat} (hd : 1 ≤ d) {g : gH} (hg : HR g) {v2 v3 : Int} (h2 : RfR v2) (h3 : InR v3) {X16 : Int → Int → Option Int} (HX16 : ∀ (v1 : Int) (h1 : InR v1) (v4 : Int) (h4 : InR v4) (u0 : Option ev_V) (w0 : nwo u0) (u5 : Option ev_V) (w5 : nwo u5), Go Φ pr_P (fP g) 1 (X16 v1 v4) d pr_m36 16 [u0, some (sI v1), some (sR v2), some (sI v3), some (sI v4), u5] [] g 0 0) : ∀ (v1 : Int) (h1 : InR v1) (v4 : Int) (h4 : InR v4) (u0 : Option ev_V) (w0 : nwo u0) (u5 : Option ev_V) (w5 : nwo u5), Go Φ pr_P (fP g) 1 (bC_allRoom_16 g v2 v3 X16 v1 v4) d pr_m36 16 [u0, some (sI v1), some (sR v2), some (sI v3), some (sI v4), u5] [] g 0 0 := by
  intro v1 h1 v4 h4 u0 w0 u5 w5
  unfold bC_allRoom_16
  refine go_iload k36_16 rfl ?_
  refine go_iload k36_18 rfl ?_
  refine go_cmlt k36_19 h4 h3 (fun c6 => ?_) (fun c7 => ?_)
  · refine go_aload k36_22 rfl ?_
    refine go_iload k36_23 rfl ?_
    refine go_ck (fun q9 => ?_)
    refine go_pald k36_25 hg q9 (fun r8 => ?_)
    refine go_astore k36_26 rfl (loc2 := [u0, some (sI v1), some (sR v2), some (sI v3), some (sI v4), some (sR (g v2 v4))]) rfl ?_
    refine go_iload k36_28 rfl ?_
    refine go_aload k36_29 rfl ?_
    refine go_ck (fun q10 => ?_)
    refine go_callP1 k36_31 rfl rfl rfl ⟨by decide, _, rfl, q10⟩ ⟨Nat.zero_le _, Nat.zero_le _⟩ (by omega) (tfP_room (by omega) hg q10 ) (fun y11 r12 => ?_)
    refine go_iadd k36_34 ?_
    refine go_istore k36_35 w0 (loc2 := [u0, some (sI (w32 (v1 + y11))), some (sR v2), some (sI v3), some (sI v4), some (sR (g v2 v4))]) rfl ?_
    refine go_iinc k36_36 rfl rfl 1 rfl (loc2 := [u0, some (sI (w32 (v1 + y11))), some (sR v2), some (sI v3), some (sI (w32 (v4 + 1))), some (sR (g v2 v4))]) rfl ?_
    refine go_goto k36_39 ?_
    exact HX16 (w32 (v1 + y11)) (inR_w32 _) (w32 (v4 + 1)) (inR_w32 _) u0 w0 (some (sR (g v2 v4))) rfl
  · refine go_iload k36_42 rfl ?_
    exact go_iret k36_43 hg h1 ⟨Nat.zero_le _, Nat.zero_le _⟩ rfl
theorem tlC_allRoom_16 {Φ : ev_P} {d : Nat} (hd : 1 ≤ d) {g : gH} (hg : HR g) {v2 v3 : Int} (h2 : RfR v2) (h3 : InR v3) : ∀ n : Nat, ∀ (v1 : Int) (h1 : InR v1) (v4 : Int) (h4 : InR v4) (u0 : Option ev_V) (w0 : nwo u0) (u5 : Option ev_V) (w5 : nwo u5), Go Φ pr_P (fP g) 1 (lC_allRoom_16 g v2 v3 n v1 v4) d pr_m36 16 [u0, some (sI v1), some (sR v2), some (sI v3), some (sI v4), u5] [] g 0 0 := by
  intro n
  induction n with
  | zero => intros; exact go_none
  | succ n ih => exact tbC_allRoom_16 hd hg h2 h3 ih
theorem tfC_allRoom {Φ : ev_P} {d : Nat} (hd : 1 ≤ d) {g : gH} (hg : HR g) {v0 : Int} (hK0 : kd v0 = 6) : Go Φ pr_P (fP g) 1 (fC_allRoom g v0) d (pr_P 36) 0 (ev_loc (pr_P 36).1 [(sR v0)]) [] g 0 0 := by
  show Go Φ pr_P (fP g) 1 (fC_allRoom g v0) d pr_m36 0 [some (sR v0), none, none, none, none, none] [] g 0 0
  unfold fC_allRoom
  refine go_int k36_0 0 rfl ?_
  refine go_istore k36_1 rfl (loc2 := [some (sR v0), some (sI 0), none, none, none, none]) rfl ?_
  refine go_aload k36_2 rfl ?_
  refine go_getR (bI := 0) k36_3 hg hK0 (by decide) rfl rfl (fun r1 => ?_)
  refine go_ck (fun q2 => ?_)
  refine go_getR (bI := 1) k36_6 hg q2 (by decide) rfl rfl (fun r3 => ?_)
  refine go_astore k36_9 rfl (loc2 := [some (sR v0), some (sI 0), some (sR (g (g v0 0) 1)), none, none, none]) rfl ?_
  refine go_aload k36_10 rfl ?_
  refine go_ck (fun q5 => ?_)
  refine go_alen k36_11 (ka_24 q5) (fun r4 => ?_)
  refine go_istore k36_12 rfl (loc2 := [some (sR v0), some (sI 0), some (sR (g (g v0 0) 1)), some (sI (sz (g (g v0 0) 1))), none, none]) rfl ?_
  refine go_int k36_13 0 rfl ?_
  refine go_istore k36_14 rfl (loc2 := [some (sR v0), some (sI 0), some (sR (g (g v0 0) 1)), some (sI (sz (g (g v0 0) 1))), some (sI 0), none]) rfl ?_
  exact tlC_allRoom_16 hd hg r3 r4 fu 0 (inR_b (Or.inl rfl)) 0 (inR_b (Or.inl rfl)) (some (sR v0)) rfl none rfl
theorem tbC_overfull_16 {Φ : ev_P} {d : Nat} (hd : 1 ≤ d) {g : gH} (hg : HR g) {v2 v3 : Int} (h2 : RfR v2) (h3 : InR v3) {X16 : Int → Int → Option Int} (HX16 : ∀ (v1 : Int) (h1 : InR v1) (v4 : Int) (h4 : InR v4) (u0 : Option ev_V) (w0 : nwo u0) (u5 : Option ev_V) (w5 : nwo u5), Go Φ pr_P (fP g) 1 (X16 v1 v4) d pr_m37 16 [u0, some (sI v1), some (sR v2), some (sI v3), some (sI v4), u5] [] g 0 0) : ∀ (v1 : Int) (h1 : InR v1) (v4 : Int) (h4 : InR v4) (u0 : Option ev_V) (w0 : nwo u0) (u5 : Option ev_V) (w5 : nwo u5), Go Φ pr_P (fP g) 1 (bC_overfull_16 g v2 v3 X16 v1 v4) d pr_m37 16 [u0, some (sI v1), some (sR v2), some (sI v3), some (sI v4), u5] [] g 0 0 := by
  intro v1 h1 v4 h4 u0 w0 u5 w5
  unfold bC_overfull_16
  refine go_iload k37_16 rfl ?_
  refine go_iload k37_18 rfl ?_
  refine go_cmlt k37_19 h4 h3 (fun c6 => ?_) (fun c7 => ?_)
  · refine go_aload k37_22 rfl ?_
    refine go_iload k37_23 rfl ?_
    refine go_ck (fun q9 => ?_)
    refine go_pald k37_25 hg q9 (fun r8 => ?_)
    refine go_astore k37_26 rfl (loc2 := [u0, some (sI v1), some (sR v2), some (sI v3), some (sI v4), some (sR (g v2 v4))]) rfl ?_
    refine go_aload k37_28 rfl ?_
    refine go_ck (fun q10 => ?_)
    refine go_callP3 k37_30 rfl rfl rfl ⟨by decide, _, rfl, q10⟩ ⟨Nat.zero_le _, Nat.zero_le _⟩ (by omega) (tfP_isRunning (by omega) hg q10 ) (fun y11 r12 => ?_)
    refine go_ifeq k37_33 (inR_b r12) (fun c15 => ?_) (fun c16 => ?_)
    · refine go_iinc k37_52 rfl rfl 1 rfl (loc2 := [u0, some (sI v1), some (sR v2), some (sI v3), some (sI (w32 (v4 + 1))), some (sR (g v2 v4))]) rfl ?_
      refine go_goto k37_55 ?_
      exact HX16 v1 h1 (w32 (v4 + 1)) (inR_w32 _) u0 w0 (some (sR (g v2 v4))) rfl
    · refine go_aload k37_36 rfl ?_
      refine go_getI (bI := 3) k37_38 hg q10 (by decide) rfl rfl (fun r17 => ?_)
      refine go_aload k37_41 rfl ?_
      refine go_getI (bI := 4) k37_43 hg q10 (by decide) rfl rfl (fun r18 => ?_)
      refine go_cmgt k37_46 r17 r18 (fun c19 => ?_) (fun c20 => ?_)
      · refine go_iinc k37_49 rfl w0 1 rfl (loc2 := [u0, some (sI (w32 (v1 + 1))), some (sR v2), some (sI v3), some (sI v4), some (sR (g v2 v4))]) rfl ?_
        refine go_iinc k37_52 rfl rfl 1 rfl (loc2 := [u0, some (sI (w32 (v1 + 1))), some (sR v2), some (sI v3), some (sI (w32 (v4 + 1))), some (sR (g v2 v4))]) rfl ?_
        refine go_goto k37_55 ?_
        exact HX16 (w32 (v1 + 1)) (inR_w32 _) (w32 (v4 + 1)) (inR_w32 _) u0 w0 (some (sR (g v2 v4))) rfl
      · refine go_iinc k37_52 rfl rfl 1 rfl (loc2 := [u0, some (sI v1), some (sR v2), some (sI v3), some (sI (w32 (v4 + 1))), some (sR (g v2 v4))]) rfl ?_
        refine go_goto k37_55 ?_
        exact HX16 v1 h1 (w32 (v4 + 1)) (inR_w32 _) u0 w0 (some (sR (g v2 v4))) rfl
  · refine go_iload k37_58 rfl ?_
    exact go_iret k37_59 hg h1 ⟨Nat.zero_le _, Nat.zero_le _⟩ rfl
theorem tlC_overfull_16 {Φ : ev_P} {d : Nat} (hd : 1 ≤ d) {g : gH} (hg : HR g) {v2 v3 : Int} (h2 : RfR v2) (h3 : InR v3) : ∀ n : Nat, ∀ (v1 : Int) (h1 : InR v1) (v4 : Int) (h4 : InR v4) (u0 : Option ev_V) (w0 : nwo u0) (u5 : Option ev_V) (w5 : nwo u5), Go Φ pr_P (fP g) 1 (lC_overfull_16 g v2 v3 n v1 v4) d pr_m37 16 [u0, some (sI v1), some (sR v2), some (sI v3), some (sI v4), u5] [] g 0 0 := by
  intro n
  induction n with
  | zero => intros; exact go_none
  | succ n ih => exact tbC_overfull_16 hd hg h2 h3 ih
theorem tfC_overfull {Φ : ev_P} {d : Nat} (hd : 1 ≤ d) {g : gH} (hg : HR g) {v0 : Int} (hK0 : kd v0 = 6) : Go Φ pr_P (fP g) 1 (fC_overfull g v0) d (pr_P 37) 0 (ev_loc (pr_P 37).1 [(sR v0)]) [] g 0 0 := by
  show Go Φ pr_P (fP g) 1 (fC_overfull g v0) d pr_m37 0 [some (sR v0), none, none, none, none, none] [] g 0 0
  unfold fC_overfull
  refine go_int k37_0 0 rfl ?_
  refine go_istore k37_1 rfl (loc2 := [some (sR v0), some (sI 0), none, none, none, none]) rfl ?_
  refine go_aload k37_2 rfl ?_
  refine go_getR (bI := 0) k37_3 hg hK0 (by decide) rfl rfl (fun r1 => ?_)
  refine go_ck (fun q2 => ?_)
  refine go_getR (bI := 1) k37_6 hg q2 (by decide) rfl rfl (fun r3 => ?_)
  refine go_astore k37_9 rfl (loc2 := [some (sR v0), some (sI 0), some (sR (g (g v0 0) 1)), none, none, none]) rfl ?_
  refine go_aload k37_10 rfl ?_
  refine go_ck (fun q5 => ?_)
  refine go_alen k37_11 (ka_24 q5) (fun r4 => ?_)
  refine go_istore k37_12 rfl (loc2 := [some (sR v0), some (sI 0), some (sR (g (g v0 0) 1)), some (sI (sz (g (g v0 0) 1))), none, none]) rfl ?_
  refine go_int k37_13 0 rfl ?_
  refine go_istore k37_14 rfl (loc2 := [some (sR v0), some (sI 0), some (sR (g (g v0 0) 1)), some (sI (sz (g (g v0 0) 1))), some (sI 0), none]) rfl ?_
  exact tlC_overfull_16 hd hg r3 r4 fu 0 (inR_b (Or.inl rfl)) 0 (inR_b (Or.inl rfl)) (some (sR v0)) rfl none rfl
theorem tjC_meanDepth_57 {Φ : ev_P} {d : Nat} (hd : 1 ≤ d) {g : gH} (hg : HR g) {v1 v2 : Int} (h1 : InR v1) (h2 : InR v2) (u0 : Option ev_V) (w0 : nwo u0) (u3 : Option ev_V) (w3 : nwo u3) (u4 : Option ev_V) (w4 : nwo u4) (u5 : Option ev_V) (w5 : nwo u5) (u6 : Option ev_V) (w6 : nwo u6) : Go Φ pr_P (fP g) 5 (jC_meanDepth_57 g v1 v2 ) d pr_m41 57 [u0, some (sI v1), some (sI v2), u3, u4, u5, u6] [] g 0 0 := by
  unfold jC_meanDepth_57
  refine go_iload k41_57 rfl ?_
  refine go_ifeq k41_58 h2 (fun c21 => ?_) (fun c22 => ?_)
  · refine go_dconst k41_61 0 rfl ?_
    refine go_goto k41_62 ?_
    exact go_dret k41_70 hg ⟨Nat.zero_le _, Nat.zero_le _⟩ rfl
  · refine go_iload k41_65 rfl ?_
    refine go_i2d k41_66 ?_
    refine go_iload k41_67 rfl ?_
    refine go_i2d k41_68 ?_
    refine go_ck (fun q23 => ?_)
    refine go_ddiv k41_69 q23 rfl ⟨Nat.zero_le _, Nat.zero_le _⟩ ?_
    exact go_dret k41_70 hg ⟨Nat.zero_le _, Nat.zero_le _⟩ rfl
theorem tbC_meanDepth_19 {Φ : ev_P} {d : Nat} (hd : 1 ≤ d) {g : gH} (hg : HR g) {v3 v4 : Int} (h3 : RfR v3) (h4 : InR v4) {X19 : Int → Int → Int → Option Int} (HX19 : ∀ (v1 : Int) (h1 : InR v1) (v2 : Int) (h2 : InR v2) (v5 : Int) (h5 : InR v5) (u0 : Option ev_V) (w0 : nwo u0) (u6 : Option ev_V) (w6 : nwo u6), Go Φ pr_P (fP g) 5 (X19 v1 v2 v5) d pr_m41 19 [u0, some (sI v1), some (sI v2), some (sR v3), some (sI v4), some (sI v5), u6] [] g 0 0) : ∀ (v1 : Int) (h1 : InR v1) (v2 : Int) (h2 : InR v2) (v5 : Int) (h5 : InR v5) (u0 : Option ev_V) (w0 : nwo u0) (u6 : Option ev_V) (w6 : nwo u6), Go Φ pr_P (fP g) 5 (bC_meanDepth_19 g v3 v4 X19 v1 v2 v5) d pr_m41 19 [u0, some (sI v1), some (sI v2), some (sR v3), some (sI v4), some (sI v5), u6] [] g 0 0 := by
  intro v1 h1 v2 h2 v5 h5 u0 w0 u6 w6
  unfold bC_meanDepth_19
  refine go_iload k41_19 rfl ?_
  refine go_iload k41_21 rfl ?_
  refine go_cmlt k41_23 h5 h4 (fun c6 => ?_) (fun c7 => ?_)
  · refine go_aload k41_26 rfl ?_
    refine go_iload k41_27 rfl ?_
    refine go_ck (fun q9 => ?_)
    refine go_pald k41_29 hg q9 (fun r8 => ?_)
    refine go_astore k41_30 rfl (loc2 := [u0, some (sI v1), some (sI v2), some (sR v3), some (sI v4), some (sI v5), some (sR (g v3 v5))]) rfl ?_
    refine go_aload k41_32 rfl ?_
    refine go_ck (fun q10 => ?_)
    refine go_callP3 k41_34 rfl rfl rfl ⟨by decide, _, rfl, q10⟩ ⟨Nat.zero_le _, Nat.zero_le _⟩ (by omega) (tfP_isRunning (by omega) hg q10 ) (fun y11 r12 => ?_)
    refine go_ifeq k41_37 (inR_b r12) (fun c15 => ?_) (fun c16 => ?_)
    · refine go_iinc k41_51 rfl rfl 1 rfl (loc2 := [u0, some (sI v1), some (sI v2), some (sR v3), some (sI v4), some (sI (w32 (v5 + 1))), some (sR (g v3 v5))]) rfl ?_
      refine go_goto k41_54 ?_
      exact HX19 v1 h1 v2 h2 (w32 (v5 + 1)) (inR_w32 _) u0 w0 (some (sR (g v3 v5))) rfl
    · refine go_iload k41_40 rfl ?_
      refine go_aload k41_41 rfl ?_
      refine go_callP1 k41_43 rfl rfl rfl ⟨by decide, _, rfl, q10⟩ ⟨Nat.zero_le _, Nat.zero_le _⟩ (by omega) (tfP_countAbove (by omega) hg q10 ) (fun y17 r18 => ?_)
      refine go_iadd k41_46 ?_
      refine go_istore k41_47 w0 (loc2 := [u0, some (sI (w32 (v1 + y17))), some (sI v2), some (sR v3), some (sI v4), some (sI v5), some (sR (g v3 v5))]) rfl ?_
      refine go_iinc k41_48 rfl rfl 1 rfl (loc2 := [u0, some (sI (w32 (v1 + y17))), some (sI (w32 (v2 + 1))), some (sR v3), some (sI v4), some (sI v5), some (sR (g v3 v5))]) rfl ?_
      refine go_iinc k41_51 rfl rfl 1 rfl (loc2 := [u0, some (sI (w32 (v1 + y17))), some (sI (w32 (v2 + 1))), some (sR v3), some (sI v4), some (sI (w32 (v5 + 1))), some (sR (g v3 v5))]) rfl ?_
      refine go_goto k41_54 ?_
      exact HX19 (w32 (v1 + y17)) (inR_w32 _) (w32 (v2 + 1)) (inR_w32 _) (w32 (v5 + 1)) (inR_w32 _) u0 w0 (some (sR (g v3 v5))) rfl
  · exact tjC_meanDepth_57 hd hg h1 h2 u0 w0 (some (sR v3)) rfl (some (sI v4)) rfl (some (sI v5)) rfl u6 w6
theorem tlC_meanDepth_19 {Φ : ev_P} {d : Nat} (hd : 1 ≤ d) {g : gH} (hg : HR g) {v3 v4 : Int} (h3 : RfR v3) (h4 : InR v4) : ∀ n : Nat, ∀ (v1 : Int) (h1 : InR v1) (v2 : Int) (h2 : InR v2) (v5 : Int) (h5 : InR v5) (u0 : Option ev_V) (w0 : nwo u0) (u6 : Option ev_V) (w6 : nwo u6), Go Φ pr_P (fP g) 5 (lC_meanDepth_19 g v3 v4 n v1 v2 v5) d pr_m41 19 [u0, some (sI v1), some (sI v2), some (sR v3), some (sI v4), some (sI v5), u6] [] g 0 0 := by
  intro n
  induction n with
  | zero => intros; exact go_none
  | succ n ih => exact tbC_meanDepth_19 hd hg h3 h4 ih
theorem tfC_meanDepth {Φ : ev_P} {d : Nat} (hd : 1 ≤ d) {g : gH} (hg : HR g) {v0 : Int} (hK0 : kd v0 = 6) : Go Φ pr_P (fP g) 5 (fC_meanDepth g v0) d (pr_P 41) 0 (ev_loc (pr_P 41).1 [(sR v0)]) [] g 0 0 := by
  show Go Φ pr_P (fP g) 5 (fC_meanDepth g v0) d pr_m41 0 [some (sR v0), none, none, none, none, none, none] [] g 0 0
  unfold fC_meanDepth
  refine go_int k41_0 0 rfl ?_
  refine go_istore k41_1 rfl (loc2 := [some (sR v0), some (sI 0), none, none, none, none, none]) rfl ?_
  refine go_int k41_2 0 rfl ?_
  refine go_istore k41_3 rfl (loc2 := [some (sR v0), some (sI 0), some (sI 0), none, none, none, none]) rfl ?_
  refine go_aload k41_4 rfl ?_
  refine go_getR (bI := 0) k41_5 hg hK0 (by decide) rfl rfl (fun r1 => ?_)
  refine go_ck (fun q2 => ?_)
  refine go_getR (bI := 1) k41_8 hg q2 (by decide) rfl rfl (fun r3 => ?_)
  refine go_astore k41_11 rfl (loc2 := [some (sR v0), some (sI 0), some (sI 0), some (sR (g (g v0 0) 1)), none, none, none]) rfl ?_
  refine go_aload k41_12 rfl ?_
  refine go_ck (fun q5 => ?_)
  refine go_alen k41_13 (ka_24 q5) (fun r4 => ?_)
  refine go_istore k41_14 rfl (loc2 := [some (sR v0), some (sI 0), some (sI 0), some (sR (g (g v0 0) 1)), some (sI (sz (g (g v0 0) 1))), none, none]) rfl ?_
  refine go_int k41_16 0 rfl ?_
  refine go_istore k41_17 rfl (loc2 := [some (sR v0), some (sI 0), some (sI 0), some (sR (g (g v0 0) 1)), some (sI (sz (g (g v0 0) 1))), some (sI 0), none]) rfl ?_
  exact tlC_meanDepth_19 hd hg r3 r4 fu 0 (inR_b (Or.inl rfl)) 0 (inR_b (Or.inl rfl)) 0 (inR_b (Or.inl rfl)) (some (sR v0)) rfl none rfl
