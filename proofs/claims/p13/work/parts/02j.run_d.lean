/-! ===== the evaluator comes to what the functions tell (own work, by program: wip/p2/dec.py) ===== -/
theorem tfM_exit {Φ : ev_P} {d : Nat} (hd : 8 ≤ d) {g : gH} (hg : HR g) {v0 v1 v2 : Int} (hK0 : kd v0 = 7) (h1 : InR v1) (h2 : InR v2) : Go Φ pr_P fN 1 (fM_exit g v0 v1 v2) d (pr_P 160) 0 (ev_loc (pr_P 160).1 [(sR v0), (sI v1), (sI v2)]) [] g 0 0 := by
  show Go Φ pr_P fN 1 (fM_exit g v0 v1 v2) d pr_m160 0 [some (sR v0), some (sI v1), some (sI v2)] [] g 0 0
  unfold fM_exit
  refine go_aload k160_0 rfl ?_
  refine go_iload k160_1 rfl ?_
  refine go_iload k160_2 rfl ?_
  refine go_callN3 k160_3 rfl rfl rfl ⟨by decide, _, rfl, hK0⟩ ⟨Nat.zero_le _, Nat.zero_le _⟩ (by omega) (tfM_noExit (by omega) hg hK0  h1 h2) (fun y1 g3 r2 e4 => ?_)
  refine go_ifeq k160_6 (inR_b r2) (fun c5 => ?_) (fun c6 => ?_)
  · refine go_aload k160_11 rfl ?_
    refine go_callN0 k160_12 rfl rfl rfl ⟨by decide, _, rfl, hK0⟩ ⟨Nat.zero_le _, Nat.zero_le _⟩ (by omega) (tfM_remembers (by omega) e4 hK0 ) (fun y7 g9 e10 => ?_)
    refine go_aload k160_15 rfl ?_
    refine go_iload k160_16 rfl ?_
    refine go_iload k160_17 rfl ?_
    refine go_callN1 k160_18 rfl rfl rfl ⟨by decide, _, rfl, hK0⟩ ⟨Nat.zero_le _, Nat.zero_le _⟩ (by omega) (tfM_exits (by omega) e10 hK0  h1 h2) (fun y11 g13 r12 e14 => ?_)
    exact go_iret k160_21 e14 r12 ⟨Nat.zero_le _, Nat.zero_le _⟩ rfl
  · refine go_int k160_9 0 rfl ?_
    exact go_iret k160_10 e4 (inR_b (Or.inl rfl)) ⟨Nat.zero_le _, Nat.zero_le _⟩ rfl
theorem tbM_kills_128 {Φ : ev_P} {d : Nat} (hd : 8 ≤ d) {v0 v4 : Int} (hK0 : kd v0 = 7) (h4 : InR v4) {X128 : Int → gH → Option (Int × gH)} (HX128 : ∀ (v5 : Int) (h5 : InR v5) (g : gH) (hg : HR g) (u1 : Option ev_V) (w1 : nwo u1) (u2 : Option ev_V) (w2 : nwo u2) (u3 : Option ev_V) (w3 : nwo u3) (u6 : Option ev_V) (w6 : nwo u6), Go Φ pr_P fN 1 (X128 v5 g) d pr_m105 128 [some (sR v0), u1, u2, u3, some (sI v4), some (sI v5), u6] [] g 0 0) : ∀ (v5 : Int) (h5 : InR v5) (g : gH) (hg : HR g) (u1 : Option ev_V) (w1 : nwo u1) (u2 : Option ev_V) (w2 : nwo u2) (u3 : Option ev_V) (w3 : nwo u3) (u6 : Option ev_V) (w6 : nwo u6), Go Φ pr_P fN 1 (bM_kills_128 v0 v4 X128 v5 g) d pr_m105 128 [some (sR v0), u1, u2, u3, some (sI v4), some (sI v5), u6] [] g 0 0 := by
  intro v5 h5 g hg u1 w1 u2 w2 u3 w3 u6 w6
  unfold bM_kills_128
  refine go_iload k105_128 rfl ?_
  refine go_int k105_130 40 rfl ?_
  refine go_cmlt k105_132 h5 (inR_of (by decide)) (fun c50 => ?_) (fun c51 => ?_)
  · refine go_aload k105_135 rfl ?_
    refine go_getR (bI := 5) k105_136 hg hK0 (by decide) rfl rfl (fun r52 => ?_)
    refine go_iload k105_139 rfl ?_
    refine go_int k105_141 0 rfl ?_
    refine go_ck (fun q53 => ?_)
    refine go_zast k105_142 hg q53 (Or.inl rfl) (fun g54 e55 => ?_)
    refine go_iinc k105_143 rfl rfl 1 rfl (loc2 := [some (sR v0), u1, u2, u3, some (sI v4), some (sI (w32 (v5 + 1))), u6]) rfl ?_
    refine go_goto k105_146 ?_
    exact HX128 (w32 (v5 + 1)) (inR_w32 _) g54 e55 u1 w1 u2 w2 u3 w3 u6 w6
  · refine go_iload k105_149 rfl ?_
    exact go_iret k105_151 hg h4 ⟨Nat.zero_le _, Nat.zero_le _⟩ rfl
theorem tlM_kills_128 {Φ : ev_P} {d : Nat} (hd : 8 ≤ d) {v0 v4 : Int} (hK0 : kd v0 = 7) (h4 : InR v4) : ∀ n : Nat, ∀ (v5 : Int) (h5 : InR v5) (g : gH) (hg : HR g) (u1 : Option ev_V) (w1 : nwo u1) (u2 : Option ev_V) (w2 : nwo u2) (u3 : Option ev_V) (w3 : nwo u3) (u6 : Option ev_V) (w6 : nwo u6), Go Φ pr_P fN 1 (lM_kills_128 v0 v4 n v5 g) d pr_m105 128 [some (sR v0), u1, u2, u3, some (sI v4), some (sI v5), u6] [] g 0 0 := by
  intro n
  induction n with
  | zero => intros; exact go_none
  | succ n ih => exact tbM_kills_128 hd hK0 h4 ih
theorem tbM_kills_76 {Φ : ev_P} {d : Nat} (hd : 8 ≤ d) {v0 v2 v3 : Int} (hK0 : kd v0 = 7) (h2 : InR v2) (h3 : InR v3) {X76 : Int → Int → gH → Option (Int × gH)} (HX76 : ∀ (v4 : Int) (h4 : InR v4) (v5 : Int) (h5 : InR v5) (g : gH) (hg : HR g) (u1 : Option ev_V) (w1 : nwo u1) (u6 : Option ev_V) (w6 : nwo u6), Go Φ pr_P fN 1 (X76 v4 v5 g) d pr_m105 76 [some (sR v0), u1, some (sI v2), some (sI v3), some (sI v4), some (sI v5), u6] [] g 0 0) : ∀ (v4 : Int) (h4 : InR v4) (v5 : Int) (h5 : InR v5) (g : gH) (hg : HR g) (u1 : Option ev_V) (w1 : nwo u1) (u6 : Option ev_V) (w6 : nwo u6), Go Φ pr_P fN 1 (bM_kills_76 v0 v2 v3 X76 v4 v5 g) d pr_m105 76 [some (sR v0), u1, some (sI v2), some (sI v3), some (sI v4), some (sI v5), u6] [] g 0 0 := by
  intro v4 h4 v5 h5 g hg u1 w1 u6 w6
  unfold bM_kills_76
  refine go_iload k105_76 rfl ?_
  refine go_iload k105_78 rfl ?_
  refine go_cmlt k105_79 h5 h3 (fun c37 => ?_) (fun c38 => ?_)
  · refine go_aload k105_82 rfl ?_
    refine go_getR (bI := 5) k105_83 hg hK0 (by decide) rfl rfl (fun r39 => ?_)
    refine go_iload k105_86 rfl ?_
    refine go_ck (fun q41 => ?_)
    refine go_zald k105_88 hg q41 (fun r40 => ?_)
    refine go_ifeq k105_89 (inR_b r40) (fun c42 => ?_) (fun c43 => ?_)
    · refine go_goto k105_92 ?_
      refine go_iinc k105_119 rfl rfl 1 rfl (loc2 := [some (sR v0), u1, some (sI v2), some (sI v3), some (sI v4), some (sI (w32 (v5 + 1))), u6]) rfl ?_
      refine go_goto k105_122 ?_
      exact HX76 v4 h4 (w32 (v5 + 1)) (inR_w32 _) g hg u1 w1 u6 w6
    · refine go_aload k105_95 rfl ?_
      refine go_iload k105_96 rfl ?_
      refine go_iload k105_98 rfl ?_
      refine go_callN1 k105_99 rfl rfl rfl ⟨by decide, _, rfl, hK0⟩ ⟨Nat.zero_le _, Nat.zero_le _⟩ (by omega) (tfM_exits (by omega) hg hK0  h5 h2) (fun y44 g46 r45 e47 => ?_)
      refine go_istore k105_102 rfl (loc2 := [some (sR v0), u1, some (sI v2), some (sI v3), some (sI v4), some (sI v5), some (sI y44)]) rfl ?_
      refine go_iload k105_104 rfl ?_
      refine go_iload k105_106 rfl ?_
      refine go_iflt k105_108 r45 (fun c48 => ?_) (fun c49 => ?_)
      · refine go_int k105_111 0 rfl ?_
        refine go_goto k105_112 ?_
        refine go_iadd k105_116 ?_
        refine go_istore k105_117 rfl (loc2 := [some (sR v0), u1, some (sI v2), some (sI v3), some (sI (w32 (v4 + 0))), some (sI v5), some (sI y44)]) rfl ?_
        refine go_iinc k105_119 rfl rfl 1 rfl (loc2 := [some (sR v0), u1, some (sI v2), some (sI v3), some (sI (w32 (v4 + 0))), some (sI (w32 (v5 + 1))), some (sI y44)]) rfl ?_
        refine go_goto k105_122 ?_
        exact HX76 (w32 (v4 + 0)) (inR_w32 _) (w32 (v5 + 1)) (inR_w32 _) g46 e47 u1 w1 (some (sI y44)) rfl
      · refine go_int k105_115 1 rfl ?_
        refine go_iadd k105_116 ?_
        refine go_istore k105_117 rfl (loc2 := [some (sR v0), u1, some (sI v2), some (sI v3), some (sI (w32 (v4 + 1))), some (sI v5), some (sI y44)]) rfl ?_
        refine go_iinc k105_119 rfl rfl 1 rfl (loc2 := [some (sR v0), u1, some (sI v2), some (sI v3), some (sI (w32 (v4 + 1))), some (sI (w32 (v5 + 1))), some (sI y44)]) rfl ?_
        refine go_goto k105_122 ?_
        exact HX76 (w32 (v4 + 1)) (inR_w32 _) (w32 (v5 + 1)) (inR_w32 _) g46 e47 u1 w1 (some (sI y44)) rfl
  · refine go_int k105_125 0 rfl ?_
    refine go_istore k105_126 rfl (loc2 := [some (sR v0), u1, some (sI v2), some (sI v3), some (sI v4), some (sI 0), u6]) rfl ?_
    exact tlM_kills_128 hd hK0 h4 fu 0 (inR_b (Or.inl rfl)) g hg u1 w1 (some (sI v2)) rfl (some (sI v3)) rfl u6 w6
theorem tlM_kills_76 {Φ : ev_P} {d : Nat} (hd : 8 ≤ d) {v0 v2 v3 : Int} (hK0 : kd v0 = 7) (h2 : InR v2) (h3 : InR v3) : ∀ n : Nat, ∀ (v4 : Int) (h4 : InR v4) (v5 : Int) (h5 : InR v5) (g : gH) (hg : HR g) (u1 : Option ev_V) (w1 : nwo u1) (u6 : Option ev_V) (w6 : nwo u6), Go Φ pr_P fN 1 (lM_kills_76 v0 v2 v3 n v4 v5 g) d pr_m105 76 [some (sR v0), u1, some (sI v2), some (sI v3), some (sI v4), some (sI v5), u6] [] g 0 0 := by
  intro n
  induction n with
  | zero => intros; exact go_none
  | succ n ih => exact tbM_kills_76 hd hK0 h2 h3 ih
theorem tbM_kills_13 {Φ : ev_P} {d : Nat} (hd : 8 ≤ d) {v0 v1 v2 v3 v4 : Int} (hK0 : kd v0 = 7) (h1 : InR v1) (h2 : InR v2) (h3 : InR v3) (h4 : B01 v4) {X13 : Int → gH → Option (Int × gH)} (HX13 : ∀ (v5 : Int) (h5 : InR v5) (g : gH) (hg : HR g) (u6 : Option ev_V) (w6 : nwo u6), Go Φ pr_P fN 1 (X13 v5 g) d pr_m105 13 [some (sR v0), some (sI v1), some (sI v2), some (sI v3), some (sI v4), some (sI v5), u6] [] g 0 0) : ∀ (v5 : Int) (h5 : InR v5) (g : gH) (hg : HR g) (u6 : Option ev_V) (w6 : nwo u6), Go Φ pr_P fN 1 (bM_kills_13 v0 v1 v2 v3 v4 X13 v5 g) d pr_m105 13 [some (sR v0), some (sI v1), some (sI v2), some (sI v3), some (sI v4), some (sI v5), u6] [] g 0 0 := by
  intro v5 h5 g hg u6 w6
  unfold bM_kills_13
  refine go_iload k105_13 rfl ?_
  refine go_int k105_15 40 rfl ?_
  refine go_cmlt k105_17 h5 (inR_of (by decide)) (fun c4 => ?_) (fun c5 => ?_)
  · refine go_aload k105_20 rfl ?_
    refine go_getR (bI := 5) k105_21 hg hK0 (by decide) rfl rfl (fun r6 => ?_)
    refine go_iload k105_24 rfl ?_
    refine go_iload k105_26 rfl ?_
    refine go_ifgt k105_28 h5 (fun c7 => ?_) (fun c8 => ?_)
    · refine go_iload k105_31 rfl ?_
      refine go_iload k105_33 rfl ?_
      refine go_cmlt k105_34 h5 h3 (fun c9 => ?_) (fun c10 => ?_)
      · refine go_aload k105_37 rfl ?_
        refine go_iload k105_38 rfl ?_
        refine go_callP3 k105_40 rfl rfl rfl ⟨by decide, _, rfl, hK0⟩ ⟨Nat.zero_le _, Nat.zero_le _⟩ (by omega) (tfM_runs (by omega) hg hK0  h5) (fun y11 r12 => ?_)
        refine go_ifeq k105_43 (inR_b r12) (fun c15 => ?_) (fun c16 => ?_)
        · refine go_int k105_65 0 rfl ?_
          refine go_ck (fun q17 => ?_)
          refine go_zast k105_66 hg q17 (Or.inl rfl) (fun g18 e19 => ?_)
          refine go_iinc k105_67 rfl rfl 1 rfl (loc2 := [some (sR v0), some (sI v1), some (sI v2), some (sI v3), some (sI v4), some (sI (w32 (v5 + 1))), u6]) rfl ?_
          refine go_goto k105_70 ?_
          exact HX13 (w32 (v5 + 1)) (inR_w32 _) g18 e19 u6 w6
        · refine go_aload k105_46 rfl ?_
          refine go_getR (bI := 0) k105_47 hg hK0 (by decide) rfl rfl (fun r20 => ?_)
          refine go_int k105_50 180 rfl ?_
          refine go_iload k105_53 rfl ?_
          refine go_iadd k105_55 ?_
          refine go_ck (fun q22 => ?_)
          refine go_iald k105_56 hg q22 (fun r21 => ?_)
          refine go_iload k105_57 rfl ?_
          refine go_cmeq k105_58 r21 h1 (fun c23 => ?_) (fun c24 => ?_)
          · refine go_int k105_61 1 rfl ?_
            refine go_goto k105_62 ?_
            refine go_ck (fun q25 => ?_)
            refine go_zast k105_66 hg q25 (Or.inr rfl) (fun g26 e27 => ?_)
            refine go_iinc k105_67 rfl rfl 1 rfl (loc2 := [some (sR v0), some (sI v1), some (sI v2), some (sI v3), some (sI v4), some (sI (w32 (v5 + 1))), u6]) rfl ?_
            refine go_goto k105_70 ?_
            exact HX13 (w32 (v5 + 1)) (inR_w32 _) g26 e27 u6 w6
          · refine go_int k105_65 0 rfl ?_
            refine go_ck (fun q28 => ?_)
            refine go_zast k105_66 hg q28 (Or.inl rfl) (fun g29 e30 => ?_)
            refine go_iinc k105_67 rfl rfl 1 rfl (loc2 := [some (sR v0), some (sI v1), some (sI v2), some (sI v3), some (sI v4), some (sI (w32 (v5 + 1))), u6]) rfl ?_
            refine go_goto k105_70 ?_
            exact HX13 (w32 (v5 + 1)) (inR_w32 _) g29 e30 u6 w6
      · refine go_int k105_65 0 rfl ?_
        refine go_ck (fun q31 => ?_)
        refine go_zast k105_66 hg q31 (Or.inl rfl) (fun g32 e33 => ?_)
        refine go_iinc k105_67 rfl rfl 1 rfl (loc2 := [some (sR v0), some (sI v1), some (sI v2), some (sI v3), some (sI v4), some (sI (w32 (v5 + 1))), u6]) rfl ?_
        refine go_goto k105_70 ?_
        exact HX13 (w32 (v5 + 1)) (inR_w32 _) g32 e33 u6 w6
    · refine go_int k105_65 0 rfl ?_
      refine go_ck (fun q34 => ?_)
      refine go_zast k105_66 hg q34 (Or.inl rfl) (fun g35 e36 => ?_)
      refine go_iinc k105_67 rfl rfl 1 rfl (loc2 := [some (sR v0), some (sI v1), some (sI v2), some (sI v3), some (sI v4), some (sI (w32 (v5 + 1))), u6]) rfl ?_
      refine go_goto k105_70 ?_
      exact HX13 (w32 (v5 + 1)) (inR_w32 _) g35 e36 u6 w6
  · refine go_int k105_73 1 rfl ?_
    refine go_istore k105_74 rfl (loc2 := [some (sR v0), some (sI v1), some (sI v2), some (sI v3), some (sI v4), some (sI 1), u6]) rfl ?_
    exact tlM_kills_76 hd hK0 h2 h3 fu v4 (inR_b h4) 1 (inR_b (Or.inr rfl)) g hg (some (sI v1)) rfl u6 w6
theorem tlM_kills_13 {Φ : ev_P} {d : Nat} (hd : 8 ≤ d) {v0 v1 v2 v3 v4 : Int} (hK0 : kd v0 = 7) (h1 : InR v1) (h2 : InR v2) (h3 : InR v3) (h4 : B01 v4) : ∀ n : Nat, ∀ (v5 : Int) (h5 : InR v5) (g : gH) (hg : HR g) (u6 : Option ev_V) (w6 : nwo u6), Go Φ pr_P fN 1 (lM_kills_13 v0 v1 v2 v3 v4 n v5 g) d pr_m105 13 [some (sR v0), some (sI v1), some (sI v2), some (sI v3), some (sI v4), some (sI v5), u6] [] g 0 0 := by
  intro n
  induction n with
  | zero => intros; exact go_none
  | succ n ih => exact tbM_kills_13 hd hK0 h1 h2 h3 h4 ih
theorem tfM_kills {Φ : ev_P} {d : Nat} (hd : 8 ≤ d) {g : gH} (hg : HR g) {v0 v1 v2 : Int} (hK0 : kd v0 = 7) (h1 : InR v1) (h2 : InR v2) : Go Φ pr_P fN 1 (fM_kills g v0 v1 v2) d (pr_P 105) 0 (ev_loc (pr_P 105).1 [(sR v0), (sI v1), (sI v2)]) [] g 0 0 := by
  show Go Φ pr_P fN 1 (fM_kills g v0 v1 v2) d pr_m105 0 [some (sR v0), some (sI v1), some (sI v2), none, none, none, none] [] g 0 0
  unfold fM_kills
  refine go_aload k105_0 rfl ?_
  refine go_getR (bI := 0) k105_1 hg hK0 (by decide) rfl rfl (fun r1 => ?_)
  refine go_int k105_4 0 rfl ?_
  refine go_ck (fun q3 => ?_)
  refine go_iald k105_5 hg q3 (fun r2 => ?_)
  refine go_istore k105_6 rfl (loc2 := [some (sR v0), some (sI v1), some (sI v2), some (sI (g (g v0 0) 0)), none, none, none]) rfl ?_
  refine go_int k105_7 0 rfl ?_
  refine go_istore k105_8 rfl (loc2 := [some (sR v0), some (sI v1), some (sI v2), some (sI (g (g v0 0) 0)), some (sI 0), none, none]) rfl ?_
  refine go_int k105_10 0 rfl ?_
  refine go_istore k105_11 rfl (loc2 := [some (sR v0), some (sI v1), some (sI v2), some (sI (g (g v0 0) 0)), some (sI 0), some (sI 0), none]) rfl ?_
  exact tlM_kills_13 hd hK0 h1 h2 r2 (Or.inl rfl) fu 0 (inR_b (Or.inl rfl)) g hg none rfl
theorem tfM_noKill {Φ : ev_P} {d : Nat} (hd : 2 ≤ d) {g : gH} (hg : HR g) {v0 v1 v2 : Int} (hK0 : kd v0 = 7) (h1 : InR v1) (h2 : InR v2) : Go Φ pr_P fN 3 (fM_noKill g v0 v1 v2) d (pr_P 161) 0 (ev_loc (pr_P 161).1 [(sR v0), (sI v1), (sI v2)]) [] g 0 0 := by
  show Go Φ pr_P fN 3 (fM_noKill g v0 v1 v2) d pr_m161 0 [some (sR v0), some (sI v1), some (sI v2)] [] g 0 0
  unfold fM_noKill
  refine go_aload k161_0 rfl ?_
  refine go_int k161_1 0 rfl ?_
  refine go_putI (bI := 8) k161_2 hg hK0 (by decide) rfl rfl (inR_b (Or.inl rfl)) (fun g1 e2 => ?_)
  refine go_aload k161_5 rfl ?_
  refine go_iload k161_6 rfl ?_
  refine go_callP3 k161_7 rfl rfl rfl trivial ⟨Nat.zero_le _, Nat.zero_le _⟩ (by omega) (tfM_isSmall (by omega) e2  h1) (fun y3 r4 => ?_)
  refine go_ifeq k161_10 (inR_b r4) (fun c7 => ?_) (fun c8 => ?_)
  · refine go_int k161_24 1 rfl ?_
    refine go_goto k161_25 ?_
    refine go_int k161_29 1 rfl ?_
    refine go_callN3 k161_30 rfl rfl rfl ⟨by decide, _, rfl, hK0⟩ ⟨Nat.zero_le _, Nat.zero_le _⟩ (by omega) (tfM_fails (by omega) e2 hK0  (Or.inr rfl) (inR_b (Or.inr rfl))) (fun y9 g11 r10 e12 => ?_)
    exact go_bret k161_33 e12 r10 ⟨Nat.zero_le _, Nat.zero_le _⟩ rfl
  · refine go_iload k161_13 rfl ?_
    refine go_int k161_14 0 rfl ?_
    refine go_int k161_15 255 rfl ?_
    refine go_callP3 k161_18 rfl rfl rfl trivial ⟨Nat.zero_le _, Nat.zero_le _⟩ (by omega) (tfM_inRange (by omega) e2  h2 (inR_b (Or.inl rfl)) (inR_of (by decide))) (fun y13 r14 => ?_)
    refine go_ifeq k161_21 (inR_b r14) (fun c17 => ?_) (fun c18 => ?_)
    · refine go_int k161_24 1 rfl ?_
      refine go_goto k161_25 ?_
      refine go_int k161_29 1 rfl ?_
      refine go_callN3 k161_30 rfl rfl rfl ⟨by decide, _, rfl, hK0⟩ ⟨Nat.zero_le _, Nat.zero_le _⟩ (by omega) (tfM_fails (by omega) e2 hK0  (Or.inr rfl) (inR_b (Or.inr rfl))) (fun y19 g21 r20 e22 => ?_)
      exact go_bret k161_33 e22 r20 ⟨Nat.zero_le _, Nat.zero_le _⟩ rfl
    · refine go_int k161_28 0 rfl ?_
      refine go_int k161_29 1 rfl ?_
      refine go_callN3 k161_30 rfl rfl rfl ⟨by decide, _, rfl, hK0⟩ ⟨Nat.zero_le _, Nat.zero_le _⟩ (by omega) (tfM_fails (by omega) e2 hK0  (Or.inl rfl) (inR_b (Or.inr rfl))) (fun y23 g25 r24 e26 => ?_)
      exact go_bret k161_33 e26 r24 ⟨Nat.zero_le _, Nat.zero_le _⟩ rfl
theorem tfM_kill {Φ : ev_P} {d : Nat} (hd : 9 ≤ d) {g : gH} (hg : HR g) {v0 v1 v2 : Int} (hK0 : kd v0 = 7) (h1 : InR v1) (h2 : InR v2) : Go Φ pr_P fN 1 (fM_kill g v0 v1 v2) d (pr_P 162) 0 (ev_loc (pr_P 162).1 [(sR v0), (sI v1), (sI v2)]) [] g 0 0 := by
  show Go Φ pr_P fN 1 (fM_kill g v0 v1 v2) d pr_m162 0 [some (sR v0), some (sI v1), some (sI v2)] [] g 0 0
  unfold fM_kill
  refine go_aload k162_0 rfl ?_
  refine go_iload k162_1 rfl ?_
  refine go_iload k162_2 rfl ?_
  refine go_callN3 k162_3 rfl rfl rfl ⟨by decide, _, rfl, hK0⟩ ⟨Nat.zero_le _, Nat.zero_le _⟩ (by omega) (tfM_noKill (by omega) hg hK0  h1 h2) (fun y1 g3 r2 e4 => ?_)
  refine go_ifeq k162_6 (inR_b r2) (fun c5 => ?_) (fun c6 => ?_)
  · refine go_aload k162_11 rfl ?_
    refine go_callN0 k162_12 rfl rfl rfl ⟨by decide, _, rfl, hK0⟩ ⟨Nat.zero_le _, Nat.zero_le _⟩ (by omega) (tfM_remembers (by omega) e4 hK0 ) (fun y7 g9 e10 => ?_)
    refine go_aload k162_15 rfl ?_
    refine go_iload k162_16 rfl ?_
    refine go_iload k162_17 rfl ?_
    refine go_callN1 k162_18 rfl rfl rfl ⟨by decide, _, rfl, hK0⟩ ⟨Nat.zero_le _, Nat.zero_le _⟩ (by omega) (tfM_kills (by omega) e10 hK0  h1 h2) (fun y11 g13 r12 e14 => ?_)
    exact go_iret k162_21 e14 r12 ⟨Nat.zero_le _, Nat.zero_le _⟩ rfl
  · refine go_int k162_9 0 rfl ?_
    exact go_iret k162_10 e4 (inR_b (Or.inl rfl)) ⟨Nat.zero_le _, Nat.zero_le _⟩ rfl
theorem tjM_notRunning_22 {Φ : ev_P} {d : Nat} (hd : 2 ≤ d) {g : gH} (hg : HR g) {v2 : Int} (h2 : InR v2) {s0 s1 : Int} (z0 : RfR s0) (z1 : B01 s1) (u0 : Option ev_V) (w0 : nwo u0) (u1 : Option ev_V) (w1 : nwo u1) : Go Φ pr_P fN 3 (jM_notRunning_22 g v2 s0 s1 ) d pr_m136 22 [u0, u1, some (sI v2)] [(sI s1), (sR s0)] g 0 0 := by
  unfold jM_notRunning_22
  refine go_iload k136_22 rfl ?_
  refine go_ck (fun q13 => ?_)
  refine go_callN3 k136_23 rfl rfl rfl ⟨by decide, _, rfl, q13⟩ ⟨Nat.zero_le _, Nat.zero_le _⟩ (by omega) (tfM_fails (by omega) hg q13  z1 h2) (fun y14 g16 r15 e17 => ?_)
  refine go_ifeq k136_26 (inR_b r15) (fun c18 => ?_) (fun c19 => ?_)
  · refine go_int k136_33 0 rfl ?_
    exact go_bret k136_34 e17 (Or.inl rfl) ⟨Nat.zero_le _, Nat.zero_le _⟩ rfl
  · refine go_int k136_29 1 rfl ?_
    refine go_goto k136_30 ?_
    exact go_bret k136_34 e17 (Or.inr rfl) ⟨Nat.zero_le _, Nat.zero_le _⟩ rfl
theorem tfM_notRunning {Φ : ev_P} {d : Nat} (hd : 2 ≤ d) {g : gH} (hg : HR g) {v0 v1 v2 : Int} (hK0 : kd v0 = 7) (h1 : InR v1) (h2 : InR v2) : Go Φ pr_P fN 3 (fM_notRunning g v0 v1 v2) d (pr_P 136) 0 (ev_loc (pr_P 136).1 [(sR v0), (sI v1), (sI v2)]) [] g 0 0 := by
  show Go Φ pr_P fN 3 (fM_notRunning g v0 v1 v2) d pr_m136 0 [some (sR v0), some (sI v1), some (sI v2)] [] g 0 0
  unfold fM_notRunning
  refine go_aload k136_0 rfl ?_
  refine go_iload k136_1 rfl ?_
  refine go_callN3 k136_2 rfl rfl rfl ⟨by decide, _, rfl, hK0⟩ ⟨Nat.zero_le _, Nat.zero_le _⟩ (by omega) (tfM_noProcess (by omega) hg hK0  h1) (fun y1 g3 r2 e4 => ?_)
  refine go_ifeq k136_5 (inR_b r2) (fun c5 => ?_) (fun c6 => ?_)
  · refine go_aload k136_8 rfl ?_
    refine go_aload k136_9 rfl ?_
    refine go_iload k136_10 rfl ?_
    refine go_callP3 k136_11 rfl rfl rfl ⟨by decide, _, rfl, hK0⟩ ⟨Nat.zero_le _, Nat.zero_le _⟩ (by omega) (tfM_runs (by omega) e4 hK0  h1) (fun y7 r8 => ?_)
    refine go_ifeq k136_14 (inR_b r8) (fun c11 => ?_) (fun c12 => ?_)
    · refine go_int k136_17 1 rfl ?_
      refine go_goto k136_18 ?_
      exact tjM_notRunning_22 hd e4 h2 (rfR_kd hK0 (by decide)) (Or.inr rfl) (some (sR v0)) rfl (some (sI v1)) rfl
    · refine go_int k136_21 0 rfl ?_
      exact tjM_notRunning_22 hd e4 h2 (rfR_kd hK0 (by decide)) (Or.inl rfl) (some (sR v0)) rfl (some (sI v1)) rfl
  · refine go_int k136_29 1 rfl ?_
    refine go_goto k136_30 ?_
    exact go_bret k136_34 e4 (Or.inr rfl) ⟨Nat.zero_le _, Nat.zero_le _⟩ rfl
theorem tjM_read_28 {Φ : ev_P} {d : Nat} (hd : 3 ≤ d) {g : gH} (hg : HR g) {v0 v2 : Int} (hK0 : kd v0 = 7) (h2 : InR v2) {s0 s1 : Int} (z0 : RfR s0) (z1 : B01 s1) (u1 : Option ev_V) (w1 : nwo u1) : Go Φ pr_P fN 1 (jM_read_28 g v0 v2 s0 s1 ) d pr_m163 28 [some (sR v0), u1, some (sI v2)] [(sI s1), (sR s0)] g 0 0 := by
  unfold jM_read_28
  refine go_int k163_28 3 rfl ?_
  refine go_ck (fun q13 => ?_)
  refine go_callN3 k163_29 rfl rfl rfl ⟨by decide, _, rfl, q13⟩ ⟨Nat.zero_le _, Nat.zero_le _⟩ (by omega) (tfM_fails (by omega) hg q13  z1 (inR_of (by decide))) (fun y14 g16 r15 e17 => ?_)
  refine go_ifeq k163_32 (inR_b r15) (fun c18 => ?_) (fun c19 => ?_)
  · refine go_aload k163_37 rfl ?_
    refine go_callN0 k163_38 rfl rfl rfl ⟨by decide, _, rfl, hK0⟩ ⟨Nat.zero_le _, Nat.zero_le _⟩ (by omega) (tfM_remembers (by omega) e17 hK0 ) (fun y20 g22 e23 => ?_)
    refine go_aload k163_41 rfl ?_
    refine go_getR (bI := 0) k163_42 e23 hK0 (by decide) rfl rfl (fun r24 => ?_)
    refine go_int k163_45 140 rfl ?_
    refine go_iload k163_48 rfl ?_
    refine go_iadd k163_49 ?_
    refine go_int k163_50 2 rfl ?_
    refine go_ck (fun q25 => ?_)
    refine go_iast k163_51 e23 q25 (inR_of (by decide)) (fun g26 e27 => ?_)
    refine go_int k163_52 1000 rfl ?_
    refine go_iload k163_55 rfl ?_
    refine go_ibin k163_56 ?_
    refine go_aload k163_57 rfl ?_
    refine go_getR (bI := 0) k163_58 e27 hK0 (by decide) rfl rfl (fun r28 => ?_)
    refine go_int k163_61 300 rfl ?_
    refine go_iload k163_64 rfl ?_
    refine go_iadd k163_65 ?_
    refine go_ck (fun q30 => ?_)
    refine go_iald k163_66 e27 q30 (fun r29 => ?_)
    refine go_iadd k163_67 ?_
    exact go_iret k163_68 e27 (inR_w32 _) ⟨Nat.zero_le _, Nat.zero_le _⟩ rfl
  · refine go_int k163_35 0 rfl ?_
    exact go_iret k163_36 e17 (inR_b (Or.inl rfl)) ⟨Nat.zero_le _, Nat.zero_le _⟩ rfl
theorem tfM_read {Φ : ev_P} {d : Nat} (hd : 3 ≤ d) {g : gH} (hg : HR g) {v0 v1 : Int} (hK0 : kd v0 = 7) (h1 : InR v1) : Go Φ pr_P fN 1 (fM_read g v0 v1) d (pr_P 163) 0 (ev_loc (pr_P 163).1 [(sR v0), (sI v1)]) [] g 0 0 := by
  show Go Φ pr_P fN 1 (fM_read g v0 v1) d pr_m163 0 [some (sR v0), some (sI v1), none] [] g 0 0
  unfold fM_read
  refine go_aload k163_0 rfl ?_
  refine go_iload k163_1 rfl ?_
  refine go_int k163_2 2 rfl ?_
  refine go_callN3 k163_3 rfl rfl rfl ⟨by decide, _, rfl, hK0⟩ ⟨Nat.zero_le _, Nat.zero_le _⟩ (by omega) (tfM_notRunning (by omega) hg hK0  h1 (inR_of (by decide))) (fun y1 g3 r2 e4 => ?_)
  refine go_ifeq k163_6 (inR_b r2) (fun c5 => ?_) (fun c6 => ?_)
  · refine go_aload k163_11 rfl ?_
    refine go_iload k163_12 rfl ?_
    refine go_callP1 k163_13 rfl rfl rfl ⟨by decide, _, rfl, hK0⟩ ⟨Nat.zero_le _, Nat.zero_le _⟩ (by omega) (tfM_firstZombie (by omega) e4 hK0  h1) (fun y7 r8 => ?_)
    refine go_istore k163_16 rfl (loc2 := [some (sR v0), some (sI v1), some (sI y7)]) rfl ?_
    refine go_aload k163_17 rfl ?_
    refine go_iload k163_18 rfl ?_
    refine go_int k163_19 (-1) rfl ?_
    refine go_cmeq k163_20 r8 (inR_of (by decide)) (fun c11 => ?_) (fun c12 => ?_)
    · refine go_int k163_23 1 rfl ?_
      refine go_goto k163_24 ?_
      exact tjM_read_28 hd e4 hK0 r8 (rfR_kd hK0 (by decide)) (Or.inr rfl) (some (sI v1)) rfl
    · refine go_int k163_27 0 rfl ?_
      exact tjM_read_28 hd e4 hK0 r8 (rfR_kd hK0 (by decide)) (Or.inl rfl) (some (sI v1)) rfl
  · refine go_int k163_9 0 rfl ?_
    exact go_iret k163_10 e4 (inR_b (Or.inl rfl)) ⟨Nat.zero_le _, Nat.zero_le _⟩ rfl
theorem tfM_readAll {Φ : ev_P} {d : Nat} (hd : 3 ≤ d) {g : gH} (hg : HR g) {v0 v1 : Int} (hK0 : kd v0 = 7) (h1 : InR v1) : Go Φ pr_P fN 1 (fM_readAll g v0 v1) d (pr_P 164) 0 (ev_loc (pr_P 164).1 [(sR v0), (sI v1)]) [] g 0 0 := by
  show Go Φ pr_P fN 1 (fM_readAll g v0 v1) d pr_m164 0 [some (sR v0), some (sI v1)] [] g 0 0
  unfold fM_readAll
  refine go_aload k164_0 rfl ?_
  refine go_iload k164_1 rfl ?_
  refine go_int k164_2 2 rfl ?_
  refine go_callN3 k164_3 rfl rfl rfl ⟨by decide, _, rfl, hK0⟩ ⟨Nat.zero_le _, Nat.zero_le _⟩ (by omega) (tfM_notRunning (by omega) hg hK0  h1 (inR_of (by decide))) (fun y1 g3 r2 e4 => ?_)
  refine go_ifeq k164_6 (inR_b r2) (fun c5 => ?_) (fun c6 => ?_)
  · refine go_aload k164_11 rfl ?_
    refine go_callN0 k164_12 rfl rfl rfl ⟨by decide, _, rfl, hK0⟩ ⟨Nat.zero_le _, Nat.zero_le _⟩ (by omega) (tfM_remembers (by omega) e4 hK0 ) (fun y7 g9 e10 => ?_)
    refine go_aload k164_15 rfl ?_
    refine go_iload k164_16 rfl ?_
    refine go_callN1 k164_17 rfl rfl rfl ⟨by decide, _, rfl, hK0⟩ ⟨Nat.zero_le _, Nat.zero_le _⟩ (by omega) (tfM_readsAll (by omega) e10 hK0  h1) (fun y11 g13 r12 e14 => ?_)
    exact go_iret k164_20 e14 r12 ⟨Nat.zero_le _, Nat.zero_le _⟩ rfl
  · refine go_int k164_9 0 rfl ?_
    exact go_iret k164_10 e4 (inR_b (Or.inl rfl)) ⟨Nat.zero_le _, Nat.zero_le _⟩ rfl
theorem tbM_refuse_80 {Φ : ev_P} {d : Nat} (hd : 7 ≤ d) {v0 v1 v2 : Int} (hK0 : kd v0 = 7) (h1 : InR v1) (h2 : InR v2) {X80 : Int → Int → gH → Option (Int × gH)} (HX80 : ∀ (v3 : Int) (h3 : InR v3) (v4 : Int) (h4 : InR v4) (g : gH) (hg : HR g), Go Φ pr_P fN 1 (X80 v3 v4 g) d pr_m165 80 [some (sR v0), some (sI v1), some (sI v2), some (sI v3), some (sI v4)] [] g 0 0) : ∀ (v3 : Int) (h3 : InR v3) (v4 : Int) (h4 : InR v4) (g : gH) (hg : HR g), Go Φ pr_P fN 1 (bM_refuse_80 v0 v1 v2 X80 v3 v4 g) d pr_m165 80 [some (sR v0), some (sI v1), some (sI v2), some (sI v3), some (sI v4)] [] g 0 0 := by
  intro v3 h3 v4 h4 g hg
  unfold bM_refuse_80
  refine go_iload k165_80 rfl ?_
  refine go_aload k165_82 rfl ?_
  refine go_getR (bI := 0) k165_83 hg hK0 (by decide) rfl rfl (fun r45 => ?_)
  refine go_int k165_86 0 rfl ?_
  refine go_ck (fun q47 => ?_)
  refine go_iald k165_87 hg q47 (fun r46 => ?_)
  refine go_cmlt k165_88 h4 r46 (fun c48 => ?_) (fun c49 => ?_)
  · refine go_aload k165_91 rfl ?_
    refine go_iload k165_92 rfl ?_
    refine go_iload k165_94 rfl ?_
    refine go_int k165_95 0 rfl ?_
    refine go_callP3 k165_96 rfl rfl rfl ⟨by decide, _, rfl, hK0⟩ ⟨Nat.zero_le _, Nat.zero_le _⟩ (by omega) (tfM_isChild (by omega) hg hK0  h4 h1 (inR_b (Or.inl rfl))) (fun y50 r51 => ?_)
    refine go_ifeq k165_99 (inR_b r51) (fun c54 => ?_) (fun c55 => ?_)
    · refine go_iinc k165_136 rfl rfl 1 rfl (loc2 := [some (sR v0), some (sI v1), some (sI v2), some (sI v3), some (sI (w32 (v4 + 1)))]) rfl ?_
      refine go_goto k165_139 ?_
      exact HX80 v3 h3 (w32 (v4 + 1)) (inR_w32 _) g hg
    · refine go_aload k165_102 rfl ?_
      refine go_getR (bI := 0) k165_103 hg hK0 (by decide) rfl rfl (fun r56 => ?_)
      refine go_int k165_106 180 rfl ?_
      refine go_iload k165_109 rfl ?_
      refine go_iadd k165_111 ?_
      refine go_ck (fun q58 => ?_)
      refine go_iald k165_112 hg q58 (fun r57 => ?_)
      refine go_iload k165_113 rfl ?_
      refine go_cmeq k165_114 r57 h2 (fun c59 => ?_) (fun c60 => ?_)
      · refine go_aload k165_120 rfl ?_
        refine go_aload k165_121 rfl ?_
        refine go_iload k165_122 rfl ?_
        refine go_iload k165_124 rfl ?_
        refine go_callP1 k165_125 rfl rfl rfl ⟨by decide, _, rfl, hK0⟩ ⟨Nat.zero_le _, Nat.zero_le _⟩ (by omega) (tfM_adopterOf (by omega) hg hK0  h4 h1) (fun y61 r62 => ?_)
        refine go_iload k165_128 rfl ?_
        refine go_callN0 k165_130 rfl rfl rfl ⟨by decide, _, rfl, hK0⟩ ⟨Nat.zero_le _, Nat.zero_le _⟩ (by omega) (tfM_adopts (by omega) hg hK0  r62 h4) (fun y65 g67 e68 => ?_)
        refine go_iinc k165_133 rfl rfl 1 rfl (loc2 := [some (sR v0), some (sI v1), some (sI v2), some (sI (w32 (v3 + 1))), some (sI v4)]) rfl ?_
        refine go_iinc k165_136 rfl rfl 1 rfl (loc2 := [some (sR v0), some (sI v1), some (sI v2), some (sI (w32 (v3 + 1))), some (sI (w32 (v4 + 1)))]) rfl ?_
        refine go_goto k165_139 ?_
        exact HX80 (w32 (v3 + 1)) (inR_w32 _) (w32 (v4 + 1)) (inR_w32 _) g67 e68
      · refine go_goto k165_117 ?_
        refine go_iinc k165_136 rfl rfl 1 rfl (loc2 := [some (sR v0), some (sI v1), some (sI v2), some (sI v3), some (sI (w32 (v4 + 1)))]) rfl ?_
        refine go_goto k165_139 ?_
        exact HX80 v3 h3 (w32 (v4 + 1)) (inR_w32 _) g hg
  · refine go_iload k165_142 rfl ?_
    exact go_iret k165_143 hg h3 ⟨Nat.zero_le _, Nat.zero_le _⟩ rfl
theorem tlM_refuse_80 {Φ : ev_P} {d : Nat} (hd : 7 ≤ d) {v0 v1 v2 : Int} (hK0 : kd v0 = 7) (h1 : InR v1) (h2 : InR v2) : ∀ n : Nat, ∀ (v3 : Int) (h3 : InR v3) (v4 : Int) (h4 : InR v4) (g : gH) (hg : HR g), Go Φ pr_P fN 1 (lM_refuse_80 v0 v1 v2 n v3 v4 g) d pr_m165 80 [some (sR v0), some (sI v1), some (sI v2), some (sI v3), some (sI v4)] [] g 0 0 := by
  intro n
  induction n with
  | zero => intros; exact go_none
  | succ n ih => exact tbM_refuse_80 hd hK0 h1 h2 ih
theorem tjM_refuse_46 {Φ : ev_P} {d : Nat} (hd : 7 ≤ d) {g : gH} (hg : HR g) {v0 v1 v2 : Int} (hK0 : kd v0 = 7) (h1 : InR v1) (h2 : InR v2) {s0 s1 : Int} (z0 : RfR s0) (z1 : B01 s1) (u3 : Option ev_V) (w3 : nwo u3) (u4 : Option ev_V) (w4 : nwo u4) : Go Φ pr_P fN 1 (jM_refuse_46 g v0 v1 v2 s0 s1 ) d pr_m165 46 [some (sR v0), some (sI v1), some (sI v2), u3, u4] [(sI s1), (sR s0)] g 0 0 := by
  unfold jM_refuse_46
  refine go_int k165_46 3 rfl ?_
  refine go_ck (fun q28 => ?_)
  refine go_callN3 k165_47 rfl rfl rfl ⟨by decide, _, rfl, q28⟩ ⟨Nat.zero_le _, Nat.zero_le _⟩ (by omega) (tfM_fails (by omega) hg q28  z1 (inR_of (by decide))) (fun y29 g31 r30 e32 => ?_)
  refine go_ifeq k165_50 (inR_b r30) (fun c33 => ?_) (fun c34 => ?_)
  · refine go_aload k165_55 rfl ?_
    refine go_callN0 k165_56 rfl rfl rfl ⟨by decide, _, rfl, hK0⟩ ⟨Nat.zero_le _, Nat.zero_le _⟩ (by omega) (tfM_remembers (by omega) e32 hK0 ) (fun y35 g37 e38 => ?_)
    refine go_aload k165_59 rfl ?_
    refine go_getR (bI := 0) k165_60 e38 hK0 (by decide) rfl rfl (fun r39 => ?_)
    refine go_int k165_63 340 rfl ?_
    refine go_iload k165_66 rfl ?_
    refine go_iadd k165_67 ?_
    refine go_dup2 k165_68 ?_
    refine go_ck (fun q41 => ?_)
    refine go_iald k165_69 e38 q41 (fun r40 => ?_)
    refine go_int k165_70 1 rfl ?_
    refine go_iload k165_71 rfl ?_
    refine go_ibin k165_72 ?_
    refine go_ibin k165_73 ?_
    refine go_ck (fun q42 => ?_)
    refine go_iast k165_74 e38 q42 (inR_opI _ _ _) (fun g43 e44 => ?_)
    refine go_int k165_75 0 rfl ?_
    refine go_istore k165_76 rfl (loc2 := [some (sR v0), some (sI v1), some (sI v2), some (sI 0), u4]) rfl ?_
    refine go_int k165_77 1 rfl ?_
    refine go_istore k165_78 rfl (loc2 := [some (sR v0), some (sI v1), some (sI v2), some (sI 0), some (sI 1)]) rfl ?_
    exact tlM_refuse_80 hd hK0 h1 h2 fu 0 (inR_b (Or.inl rfl)) 1 (inR_b (Or.inr rfl)) g43 e44
  · refine go_int k165_53 0 rfl ?_
    exact go_iret k165_54 e32 (inR_b (Or.inl rfl)) ⟨Nat.zero_le _, Nat.zero_le _⟩ rfl
theorem tjM_refuse_41 {Φ : ev_P} {d : Nat} (hd : 7 ≤ d) {g : gH} (hg : HR g) {v0 v1 v2 : Int} (hK0 : kd v0 = 7) (h1 : InR v1) (h2 : InR v2) {s0 : Int} (z0 : RfR s0) (u3 : Option ev_V) (w3 : nwo u3) (u4 : Option ev_V) (w4 : nwo u4) : Go Φ pr_P fN 1 (jM_refuse_41 g v0 v1 v2 s0 ) d pr_m165 41 [some (sR v0), some (sI v1), some (sI v2), u3, u4] [(sR s0)] g 0 0 := by
  unfold jM_refuse_41
  refine go_int k165_41 1 rfl ?_
  refine go_goto k165_42 ?_
  exact tjM_refuse_46 hd hg hK0 h1 h2 z0 (Or.inr rfl) u3 w3 u4 w4
theorem tjM_refuse_21 {Φ : ev_P} {d : Nat} (hd : 7 ≤ d) {g : gH} (hg : HR g) {v0 v1 v2 : Int} (hK0 : kd v0 = 7) (h1 : InR v1) (h2 : InR v2) {s0 s1 : Int} (z0 : RfR s0) (z1 : B01 s1) (u3 : Option ev_V) (w3 : nwo u3) (u4 : Option ev_V) (w4 : nwo u4) : Go Φ pr_P fN 1 (jM_refuse_21 g v0 v1 v2 s0 s1 ) d pr_m165 21 [some (sR v0), some (sI v1), some (sI v2), u3, u4] [(sI s1), (sR s0)] g 0 0 := by
  unfold jM_refuse_21
  refine go_int k165_21 2 rfl ?_
  refine go_ck (fun q13 => ?_)
  refine go_callN3 k165_22 rfl rfl rfl ⟨by decide, _, rfl, q13⟩ ⟨Nat.zero_le _, Nat.zero_le _⟩ (by omega) (tfM_fails (by omega) hg q13  z1 (inR_of (by decide))) (fun y14 g16 r15 e17 => ?_)
  refine go_ifeq k165_25 (inR_b r15) (fun c18 => ?_) (fun c19 => ?_)
  · refine go_aload k165_28 rfl ?_
    refine go_iload k165_29 rfl ?_
    refine go_ifeq k165_30 h1 (fun c20 => ?_) (fun c21 => ?_)
    · exact tjM_refuse_41 hd e17 hK0 h1 h2 (rfR_kd hK0 (by decide)) u3 w3 u4 w4
    · refine go_aload k165_33 rfl ?_
      refine go_iload k165_34 rfl ?_
      refine go_callP3 k165_35 rfl rfl rfl ⟨by decide, _, rfl, hK0⟩ ⟨Nat.zero_le _, Nat.zero_le _⟩ (by omega) (tfM_runs (by omega) e17 hK0  h1) (fun y22 r23 => ?_)
      refine go_ifeq k165_38 (inR_b r23) (fun c26 => ?_) (fun c27 => ?_)
      · exact tjM_refuse_41 hd e17 hK0 h1 h2 (rfR_kd hK0 (by decide)) u3 w3 u4 w4
      · refine go_int k165_45 0 rfl ?_
        exact tjM_refuse_46 hd e17 hK0 h1 h2 (rfR_kd hK0 (by decide)) (Or.inl rfl) u3 w3 u4 w4
  · refine go_int k165_53 0 rfl ?_
    exact go_iret k165_54 e17 (inR_b (Or.inl rfl)) ⟨Nat.zero_le _, Nat.zero_le _⟩ rfl
theorem tfM_refuse {Φ : ev_P} {d : Nat} (hd : 7 ≤ d) {g : gH} (hg : HR g) {v0 v1 v2 : Int} (hK0 : kd v0 = 7) (h1 : InR v1) (h2 : InR v2) : Go Φ pr_P fN 1 (fM_refuse g v0 v1 v2) d (pr_P 165) 0 (ev_loc (pr_P 165).1 [(sR v0), (sI v1), (sI v2)]) [] g 0 0 := by
  show Go Φ pr_P fN 1 (fM_refuse g v0 v1 v2) d pr_m165 0 [some (sR v0), some (sI v1), some (sI v2), none, none] [] g 0 0
  unfold fM_refuse
  refine go_aload k165_0 rfl ?_
  refine go_iload k165_1 rfl ?_
  refine go_callN3 k165_2 rfl rfl rfl ⟨by decide, _, rfl, hK0⟩ ⟨Nat.zero_le _, Nat.zero_le _⟩ (by omega) (tfM_noProcess (by omega) hg hK0  h1) (fun y1 g3 r2 e4 => ?_)
  refine go_ifeq k165_5 (inR_b r2) (fun c5 => ?_) (fun c6 => ?_)
  · refine go_aload k165_8 rfl ?_
    refine go_iload k165_9 rfl ?_
    refine go_callP3 k165_10 rfl rfl rfl trivial ⟨Nat.zero_le _, Nat.zero_le _⟩ (by omega) (tfM_isSmall (by omega) e4  h2) (fun y7 r8 => ?_)
    refine go_ifeq k165_13 (inR_b r8) (fun c11 => ?_) (fun c12 => ?_)
    · refine go_int k165_16 1 rfl ?_
      refine go_goto k165_17 ?_
      exact tjM_refuse_21 hd e4 hK0 h1 h2 (rfR_kd hK0 (by decide)) (Or.inr rfl) none rfl none rfl
    · refine go_int k165_20 0 rfl ?_
      exact tjM_refuse_21 hd e4 hK0 h1 h2 (rfR_kd hK0 (by decide)) (Or.inl rfl) none rfl none rfl
  · refine go_int k165_53 0 rfl ?_
    exact go_iret k165_54 e4 (inR_b (Or.inl rfl)) ⟨Nat.zero_le _, Nat.zero_le _⟩ rfl
theorem tjM_accept_42 {Φ : ev_P} {d : Nat} (hd : 2 ≤ d) {g : gH} (hg : HR g) {v0 v1 v2 : Int} (hK0 : kd v0 = 7) (h1 : InR v1) (h2 : InR v2) {s0 s1 : Int} (z0 : RfR s0) (z1 : B01 s1) (u3 : Option ev_V) (w3 : nwo u3) : Go Φ pr_P fN 3 (jM_accept_42 g v0 v1 v2 s0 s1 ) d pr_m166 42 [some (sR v0), some (sI v1), some (sI v2), u3] [(sI s1), (sR s0)] g 0 0 := by
  unfold jM_accept_42
  refine go_int k166_42 3 rfl ?_
  refine go_ck (fun q26 => ?_)
  refine go_callN3 k166_43 rfl rfl rfl ⟨by decide, _, rfl, q26⟩ ⟨Nat.zero_le _, Nat.zero_le _⟩ (by omega) (tfM_fails (by omega) hg q26  z1 (inR_of (by decide))) (fun y27 g29 r28 e30 => ?_)
  refine go_ifeq k166_46 (inR_b r28) (fun c31 => ?_) (fun c32 => ?_)
  · refine go_aload k166_51 rfl ?_
    refine go_callN0 k166_52 rfl rfl rfl ⟨by decide, _, rfl, hK0⟩ ⟨Nat.zero_le _, Nat.zero_le _⟩ (by omega) (tfM_remembers (by omega) e30 hK0 ) (fun y33 g35 e36 => ?_)
    refine go_aload k166_55 rfl ?_
    refine go_iload k166_56 rfl ?_
    refine go_iload k166_57 rfl ?_
    refine go_callP3 k166_58 rfl rfl rfl ⟨by decide, _, rfl, hK0⟩ ⟨Nat.zero_le _, Nat.zero_le _⟩ (by omega) (tfM_refusesGroup (by omega) e36 hK0  h1 h2) (fun y37 r38 => ?_)
    refine go_istore k166_61 rfl (loc2 := [some (sR v0), some (sI v1), some (sI v2), some (sI y37)]) rfl ?_
    refine go_aload k166_62 rfl ?_
    refine go_getR (bI := 0) k166_63 e36 hK0 (by decide) rfl rfl (fun r41 => ?_)
    refine go_int k166_66 340 rfl ?_
    refine go_iload k166_69 rfl ?_
    refine go_iadd k166_70 ?_
    refine go_dup2 k166_71 ?_
    refine go_ck (fun q43 => ?_)
    refine go_iald k166_72 e36 q43 (fun r42 => ?_)
    refine go_int k166_73 1 rfl ?_
    refine go_iload k166_74 rfl ?_
    refine go_ibin k166_75 ?_
    refine go_int k166_76 (-1) rfl ?_
    refine go_ibin k166_77 ?_
    refine go_ibin k166_78 ?_
    refine go_ck (fun q44 => ?_)
    refine go_iast k166_79 e36 q44 (inR_opI _ _ _) (fun g45 e46 => ?_)
    refine go_iload k166_80 rfl ?_
    exact go_bret k166_81 e46 r38 ⟨Nat.zero_le _, Nat.zero_le _⟩ rfl
  · refine go_int k166_49 0 rfl ?_
    exact go_bret k166_50 e30 (Or.inl rfl) ⟨Nat.zero_le _, Nat.zero_le _⟩ rfl
theorem tjM_accept_21 {Φ : ev_P} {d : Nat} (hd : 2 ≤ d) {g : gH} (hg : HR g) {v0 v1 v2 : Int} (hK0 : kd v0 = 7) (h1 : InR v1) (h2 : InR v2) {s0 s1 : Int} (z0 : RfR s0) (z1 : B01 s1) (u3 : Option ev_V) (w3 : nwo u3) : Go Φ pr_P fN 3 (jM_accept_21 g v0 v1 v2 s0 s1 ) d pr_m166 21 [some (sR v0), some (sI v1), some (sI v2), u3] [(sI s1), (sR s0)] g 0 0 := by
  unfold jM_accept_21
  refine go_int k166_21 2 rfl ?_
  refine go_ck (fun q13 => ?_)
  refine go_callN3 k166_22 rfl rfl rfl ⟨by decide, _, rfl, q13⟩ ⟨Nat.zero_le _, Nat.zero_le _⟩ (by omega) (tfM_fails (by omega) hg q13  z1 (inR_of (by decide))) (fun y14 g16 r15 e17 => ?_)
  refine go_ifeq k166_25 (inR_b r15) (fun c18 => ?_) (fun c19 => ?_)
  · refine go_aload k166_28 rfl ?_
    refine go_aload k166_29 rfl ?_
    refine go_iload k166_30 rfl ?_
    refine go_callP3 k166_31 rfl rfl rfl ⟨by decide, _, rfl, hK0⟩ ⟨Nat.zero_le _, Nat.zero_le _⟩ (by omega) (tfM_runs (by omega) e17 hK0  h1) (fun y20 r21 => ?_)
    refine go_ifeq k166_34 (inR_b r21) (fun c24 => ?_) (fun c25 => ?_)
    · refine go_int k166_37 1 rfl ?_
      refine go_goto k166_38 ?_
      exact tjM_accept_42 hd e17 hK0 h1 h2 (rfR_kd hK0 (by decide)) (Or.inr rfl) u3 w3
    · refine go_int k166_41 0 rfl ?_
      exact tjM_accept_42 hd e17 hK0 h1 h2 (rfR_kd hK0 (by decide)) (Or.inl rfl) u3 w3
  · refine go_int k166_49 0 rfl ?_
    exact go_bret k166_50 e17 (Or.inl rfl) ⟨Nat.zero_le _, Nat.zero_le _⟩ rfl
theorem tfM_accept {Φ : ev_P} {d : Nat} (hd : 2 ≤ d) {g : gH} (hg : HR g) {v0 v1 v2 : Int} (hK0 : kd v0 = 7) (h1 : InR v1) (h2 : InR v2) : Go Φ pr_P fN 3 (fM_accept g v0 v1 v2) d (pr_P 166) 0 (ev_loc (pr_P 166).1 [(sR v0), (sI v1), (sI v2)]) [] g 0 0 := by
  show Go Φ pr_P fN 3 (fM_accept g v0 v1 v2) d pr_m166 0 [some (sR v0), some (sI v1), some (sI v2), none] [] g 0 0
  unfold fM_accept
  refine go_aload k166_0 rfl ?_
  refine go_iload k166_1 rfl ?_
  refine go_callN3 k166_2 rfl rfl rfl ⟨by decide, _, rfl, hK0⟩ ⟨Nat.zero_le _, Nat.zero_le _⟩ (by omega) (tfM_noProcess (by omega) hg hK0  h1) (fun y1 g3 r2 e4 => ?_)
  refine go_ifeq k166_5 (inR_b r2) (fun c5 => ?_) (fun c6 => ?_)
  · refine go_aload k166_8 rfl ?_
    refine go_iload k166_9 rfl ?_
    refine go_callP3 k166_10 rfl rfl rfl trivial ⟨Nat.zero_le _, Nat.zero_le _⟩ (by omega) (tfM_isSmall (by omega) e4  h2) (fun y7 r8 => ?_)
    refine go_ifeq k166_13 (inR_b r8) (fun c11 => ?_) (fun c12 => ?_)
    · refine go_int k166_16 1 rfl ?_
      refine go_goto k166_17 ?_
      exact tjM_accept_21 hd e4 hK0 h1 h2 (rfR_kd hK0 (by decide)) (Or.inr rfl) none rfl
    · refine go_int k166_20 0 rfl ?_
      exact tjM_accept_21 hd e4 hK0 h1 h2 (rfR_kd hK0 (by decide)) (Or.inl rfl) none rfl
  · refine go_int k166_49 0 rfl ?_
    exact go_bret k166_50 e4 (Or.inl rfl) ⟨Nat.zero_le _, Nat.zero_le _⟩ rfl
theorem tjM_move_84 {Φ : ev_P} {d : Nat} (hd : 3 ≤ d) {g : gH} (hg : HR g) {v0 v1 v2 : Int} (hK0 : kd v0 = 7) (h1 : InR v1) (h2 : InR v2) {s0 s1 : Int} (z0 : RfR s0) (z1 : B01 s1) (u3 : Option ev_V) (w3 : nwo u3) : Go Φ pr_P fN 1 (jM_move_84 g v0 v1 v2 s0 s1 ) d pr_m167 84 [some (sR v0), some (sI v1), some (sI v2), u3] [(sI s1), (sR s0)] g 0 0 := by
  unfold jM_move_84
  refine go_int k167_84 2 rfl ?_
  refine go_ck (fun q50 => ?_)
  refine go_callN3 k167_85 rfl rfl rfl ⟨by decide, _, rfl, q50⟩ ⟨Nat.zero_le _, Nat.zero_le _⟩ (by omega) (tfM_fails (by omega) hg q50  z1 (inR_of (by decide))) (fun y51 g53 r52 e54 => ?_)
  refine go_ifeq k167_88 (inR_b r52) (fun c55 => ?_) (fun c56 => ?_)
  · refine go_aload k167_93 rfl ?_
    refine go_callN0 k167_94 rfl rfl rfl ⟨by decide, _, rfl, hK0⟩ ⟨Nat.zero_le _, Nat.zero_le _⟩ (by omega) (tfM_remembers (by omega) e54 hK0 ) (fun y57 g59 e60 => ?_)
    refine go_aload k167_97 rfl ?_
    refine go_getR (bI := 0) k167_98 e60 hK0 (by decide) rfl rfl (fun r61 => ?_)
    refine go_int k167_101 60 rfl ?_
    refine go_iload k167_103 rfl ?_
    refine go_iadd k167_104 ?_
    refine go_ck (fun q63 => ?_)
    refine go_iald k167_105 e60 q63 (fun r62 => ?_)
    refine go_istore k167_106 rfl (loc2 := [some (sR v0), some (sI v1), some (sI v2), some (sI (g59 (g59 v0 0) (w32 (60 + v1))))]) rfl ?_
    refine go_aload k167_107 rfl ?_
    refine go_getR (bI := 0) k167_108 e60 hK0 (by decide) rfl rfl (fun r64 => ?_)
    refine go_int k167_111 60 rfl ?_
    refine go_iload k167_113 rfl ?_
    refine go_iadd k167_114 ?_
    refine go_iload k167_115 rfl ?_
    refine go_ck (fun q65 => ?_)
    refine go_iast k167_116 e60 q65 h2 (fun g66 e67 => ?_)
    refine go_iload k167_117 rfl ?_
    exact go_iret k167_118 e67 r62 ⟨Nat.zero_le _, Nat.zero_le _⟩ rfl
  · refine go_int k167_91 0 rfl ?_
    exact go_iret k167_92 e54 (inR_b (Or.inl rfl)) ⟨Nat.zero_le _, Nat.zero_le _⟩ rfl
theorem tjM_move_79 {Φ : ev_P} {d : Nat} (hd : 3 ≤ d) {g : gH} (hg : HR g) {v0 v1 v2 : Int} (hK0 : kd v0 = 7) (h1 : InR v1) (h2 : InR v2) {s0 : Int} (z0 : RfR s0) (u3 : Option ev_V) (w3 : nwo u3) : Go Φ pr_P fN 1 (jM_move_79 g v0 v1 v2 s0 ) d pr_m167 79 [some (sR v0), some (sI v1), some (sI v2), u3] [(sR s0)] g 0 0 := by
  unfold jM_move_79
  refine go_int k167_79 1 rfl ?_
  refine go_goto k167_80 ?_
  exact tjM_move_84 hd hg hK0 h1 h2 z0 (Or.inr rfl) u3 w3
theorem tfM_move {Φ : ev_P} {d : Nat} (hd : 3 ≤ d) {g : gH} (hg : HR g) {v0 v1 v2 : Int} (hK0 : kd v0 = 7) (h1 : InR v1) (h2 : InR v2) : Go Φ pr_P fN 1 (fM_move g v0 v1 v2) d (pr_P 167) 0 (ev_loc (pr_P 167).1 [(sR v0), (sI v1), (sI v2)]) [] g 0 0 := by
  show Go Φ pr_P fN 1 (fM_move g v0 v1 v2) d pr_m167 0 [some (sR v0), some (sI v1), some (sI v2), none] [] g 0 0
  unfold fM_move
  refine go_aload k167_0 rfl ?_
  refine go_iload k167_1 rfl ?_
  refine go_callN3 k167_2 rfl rfl rfl ⟨by decide, _, rfl, hK0⟩ ⟨Nat.zero_le _, Nat.zero_le _⟩ (by omega) (tfM_noProcess (by omega) hg hK0  h1) (fun y1 g3 r2 e4 => ?_)
  refine go_ifeq k167_5 (inR_b r2) (fun c5 => ?_) (fun c6 => ?_)
  · refine go_aload k167_8 rfl ?_
    refine go_iload k167_9 rfl ?_
    refine go_callN3 k167_10 rfl rfl rfl ⟨by decide, _, rfl, hK0⟩ ⟨Nat.zero_le _, Nat.zero_le _⟩ (by omega) (tfM_noProcess (by omega) e4 hK0  h2) (fun y7 g9 r8 e10 => ?_)
    refine go_ifeq k167_13 (inR_b r8) (fun c11 => ?_) (fun c12 => ?_)
    · refine go_aload k167_18 rfl ?_
      refine go_iload k167_19 rfl ?_
      refine go_ifeq k167_20 h1 (fun c13 => ?_) (fun c14 => ?_)
      · exact tjM_move_79 hd e10 hK0 h1 h2 (rfR_kd hK0 (by decide)) none rfl
      · refine go_aload k167_23 rfl ?_
        refine go_iload k167_24 rfl ?_
        refine go_callP3 k167_25 rfl rfl rfl ⟨by decide, _, rfl, hK0⟩ ⟨Nat.zero_le _, Nat.zero_le _⟩ (by omega) (tfM_runs (by omega) e10 hK0  h1) (fun y15 r16 => ?_)
        refine go_ifeq k167_28 (inR_b r16) (fun c19 => ?_) (fun c20 => ?_)
        · exact tjM_move_79 hd e10 hK0 h1 h2 (rfR_kd hK0 (by decide)) none rfl
        · refine go_aload k167_31 rfl ?_
          refine go_iload k167_32 rfl ?_
          refine go_callP3 k167_33 rfl rfl rfl ⟨by decide, _, rfl, hK0⟩ ⟨Nat.zero_le _, Nat.zero_le _⟩ (by omega) (tfM_runs (by omega) e10 hK0  h2) (fun y21 r22 => ?_)
          refine go_ifeq k167_36 (inR_b r22) (fun c25 => ?_) (fun c26 => ?_)
          · exact tjM_move_79 hd e10 hK0 h1 h2 (rfR_kd hK0 (by decide)) none rfl
          · refine go_iload k167_39 rfl ?_
            refine go_iload k167_40 rfl ?_
            refine go_cmeq k167_41 h1 h2 (fun c27 => ?_) (fun c28 => ?_)
            · exact tjM_move_79 hd e10 hK0 h1 h2 (rfR_kd hK0 (by decide)) none rfl
            · refine go_aload k167_44 rfl ?_
              refine go_iload k167_45 rfl ?_
              refine go_iload k167_46 rfl ?_
              refine go_callP3 k167_47 rfl rfl rfl ⟨by decide, _, rfl, hK0⟩ ⟨Nat.zero_le _, Nat.zero_le _⟩ (by omega) (tfM_isOver (by omega) e10 hK0  h1 h2) (fun y29 r30 => ?_)
              refine go_ifeq k167_50 (inR_b r30) (fun c33 => ?_) (fun c34 => ?_)
              · refine go_aload k167_53 rfl ?_
                refine go_iload k167_54 rfl ?_
                refine go_callP1 k167_55 rfl rfl rfl ⟨by decide, _, rfl, hK0⟩ ⟨Nat.zero_le _, Nat.zero_le _⟩ (by omega) (tfM_roomOf (by omega) e10 hK0  h2) (fun y35 r36 => ?_)
                refine go_ifeq k167_58 r36 (fun c39 => ?_) (fun c40 => ?_)
                · exact tjM_move_79 hd e10 hK0 h1 h2 (rfR_kd hK0 (by decide)) none rfl
                · refine go_aload k167_61 rfl ?_
                  refine go_iload k167_62 rfl ?_
                  refine go_aload k167_63 rfl ?_
                  refine go_getR (bI := 0) k167_64 e10 hK0 (by decide) rfl rfl (fun r41 => ?_)
                  refine go_int k167_67 180 rfl ?_
                  refine go_iload k167_70 rfl ?_
                  refine go_iadd k167_71 ?_
                  refine go_ck (fun q43 => ?_)
                  refine go_iald k167_72 e10 q43 (fun r42 => ?_)
                  refine go_callP3 k167_73 rfl rfl rfl ⟨by decide, _, rfl, hK0⟩ ⟨Nat.zero_le _, Nat.zero_le _⟩ (by omega) (tfM_refusesGroup (by omega) e10 hK0  h2 r42) (fun y44 r45 => ?_)
                  refine go_ifeq k167_76 (inR_b r45) (fun c48 => ?_) (fun c49 => ?_)
                  · refine go_int k167_83 0 rfl ?_
                    exact tjM_move_84 hd e10 hK0 h1 h2 (rfR_kd hK0 (by decide)) (Or.inl rfl) none rfl
                  · exact tjM_move_79 hd e10 hK0 h1 h2 (rfR_kd hK0 (by decide)) none rfl
              · exact tjM_move_79 hd e10 hK0 h1 h2 (rfR_kd hK0 (by decide)) none rfl
    · refine go_int k167_16 0 rfl ?_
      exact go_iret k167_17 e10 (inR_b (Or.inl rfl)) ⟨Nat.zero_le _, Nat.zero_le _⟩ rfl
  · refine go_int k167_16 0 rfl ?_
    exact go_iret k167_17 e4 (inR_b (Or.inl rfl)) ⟨Nat.zero_le _, Nat.zero_le _⟩ rfl
theorem tjM_sets_42 {Φ : ev_P} {d : Nat} (hd : 2 ≤ d) {g : gH} (hg : HR g) {v0 v1 v2 v3 : Int} (hK0 : kd v0 = 7) (h1 : InR v1) (h2 : InR v2) (h3 : InR v3) {s0 s1 : Int} (z0 : RfR s0) (z1 : B01 s1) (u4 : Option ev_V) (w4 : nwo u4) : Go Φ pr_P fN 1 (jM_sets_42 g v0 v1 v2 v3 s0 s1 ) d pr_m168 42 [some (sR v0), some (sI v1), some (sI v2), some (sI v3), u4] [(sI s1), (sR s0)] g 0 0 := by
  unfold jM_sets_42
  refine go_int k168_42 3 rfl ?_
  refine go_ck (fun q26 => ?_)
  refine go_callN3 k168_43 rfl rfl rfl ⟨by decide, _, rfl, q26⟩ ⟨Nat.zero_le _, Nat.zero_le _⟩ (by omega) (tfM_fails (by omega) hg q26  z1 (inR_of (by decide))) (fun y27 g29 r28 e30 => ?_)
  refine go_ifeq k168_46 (inR_b r28) (fun c31 => ?_) (fun c32 => ?_)
  · refine go_aload k168_51 rfl ?_
    refine go_callN0 k168_52 rfl rfl rfl ⟨by decide, _, rfl, hK0⟩ ⟨Nat.zero_le _, Nat.zero_le _⟩ (by omega) (tfM_remembers (by omega) e30 hK0 ) (fun y33 g35 e36 => ?_)
    refine go_aload k168_55 rfl ?_
    refine go_getR (bI := 0) k168_56 e36 hK0 (by decide) rfl rfl (fun r37 => ?_)
    refine go_iload k168_59 rfl ?_
    refine go_iload k168_60 rfl ?_
    refine go_iadd k168_61 ?_
    refine go_ck (fun q39 => ?_)
    refine go_iald k168_62 e36 q39 (fun r38 => ?_)
    refine go_istore k168_63 rfl (loc2 := [some (sR v0), some (sI v1), some (sI v2), some (sI v3), some (sI (g35 (g35 v0 0) (w32 (v1 + v2))))]) rfl ?_
    refine go_aload k168_65 rfl ?_
    refine go_getR (bI := 0) k168_66 e36 hK0 (by decide) rfl rfl (fun r40 => ?_)
    refine go_iload k168_69 rfl ?_
    refine go_iload k168_70 rfl ?_
    refine go_iadd k168_71 ?_
    refine go_iload k168_72 rfl ?_
    refine go_ck (fun q41 => ?_)
    refine go_iast k168_73 e36 q41 h3 (fun g42 e43 => ?_)
    refine go_iload k168_74 rfl ?_
    exact go_iret k168_76 e43 r38 ⟨Nat.zero_le _, Nat.zero_le _⟩ rfl
  · refine go_int k168_49 0 rfl ?_
    exact go_iret k168_50 e30 (inR_b (Or.inl rfl)) ⟨Nat.zero_le _, Nat.zero_le _⟩ rfl
theorem tjM_sets_21 {Φ : ev_P} {d : Nat} (hd : 2 ≤ d) {g : gH} (hg : HR g) {v0 v1 v2 v3 : Int} (hK0 : kd v0 = 7) (h1 : InR v1) (h2 : InR v2) (h3 : InR v3) {s0 s1 : Int} (z0 : RfR s0) (z1 : B01 s1) (u4 : Option ev_V) (w4 : nwo u4) : Go Φ pr_P fN 1 (jM_sets_21 g v0 v1 v2 v3 s0 s1 ) d pr_m168 21 [some (sR v0), some (sI v1), some (sI v2), some (sI v3), u4] [(sI s1), (sR s0)] g 0 0 := by
  unfold jM_sets_21
  refine go_int k168_21 2 rfl ?_
  refine go_ck (fun q13 => ?_)
  refine go_callN3 k168_22 rfl rfl rfl ⟨by decide, _, rfl, q13⟩ ⟨Nat.zero_le _, Nat.zero_le _⟩ (by omega) (tfM_fails (by omega) hg q13  z1 (inR_of (by decide))) (fun y14 g16 r15 e17 => ?_)
  refine go_ifeq k168_25 (inR_b r15) (fun c18 => ?_) (fun c19 => ?_)
  · refine go_aload k168_28 rfl ?_
    refine go_aload k168_29 rfl ?_
    refine go_iload k168_30 rfl ?_
    refine go_callP3 k168_31 rfl rfl rfl ⟨by decide, _, rfl, hK0⟩ ⟨Nat.zero_le _, Nat.zero_le _⟩ (by omega) (tfM_runs (by omega) e17 hK0  h2) (fun y20 r21 => ?_)
    refine go_ifeq k168_34 (inR_b r21) (fun c24 => ?_) (fun c25 => ?_)
    · refine go_int k168_37 1 rfl ?_
      refine go_goto k168_38 ?_
      exact tjM_sets_42 hd e17 hK0 h1 h2 h3 (rfR_kd hK0 (by decide)) (Or.inr rfl) u4 w4
    · refine go_int k168_41 0 rfl ?_
      exact tjM_sets_42 hd e17 hK0 h1 h2 h3 (rfR_kd hK0 (by decide)) (Or.inl rfl) u4 w4
  · refine go_int k168_49 0 rfl ?_
    exact go_iret k168_50 e17 (inR_b (Or.inl rfl)) ⟨Nat.zero_le _, Nat.zero_le _⟩ rfl
theorem tfM_sets {Φ : ev_P} {d : Nat} (hd : 2 ≤ d) {g : gH} (hg : HR g) {v0 v1 v2 v3 : Int} (hK0 : kd v0 = 7) (h1 : InR v1) (h2 : InR v2) (h3 : InR v3) : Go Φ pr_P fN 1 (fM_sets g v0 v1 v2 v3) d (pr_P 168) 0 (ev_loc (pr_P 168).1 [(sR v0), (sI v1), (sI v2), (sI v3)]) [] g 0 0 := by
  show Go Φ pr_P fN 1 (fM_sets g v0 v1 v2 v3) d pr_m168 0 [some (sR v0), some (sI v1), some (sI v2), some (sI v3), none] [] g 0 0
  unfold fM_sets
  refine go_aload k168_0 rfl ?_
  refine go_iload k168_1 rfl ?_
  refine go_callN3 k168_2 rfl rfl rfl ⟨by decide, _, rfl, hK0⟩ ⟨Nat.zero_le _, Nat.zero_le _⟩ (by omega) (tfM_noProcess (by omega) hg hK0  h2) (fun y1 g3 r2 e4 => ?_)
  refine go_ifeq k168_5 (inR_b r2) (fun c5 => ?_) (fun c6 => ?_)
  · refine go_aload k168_8 rfl ?_
    refine go_iload k168_9 rfl ?_
    refine go_callP3 k168_10 rfl rfl rfl trivial ⟨Nat.zero_le _, Nat.zero_le _⟩ (by omega) (tfM_isSmall (by omega) e4  h3) (fun y7 r8 => ?_)
    refine go_ifeq k168_13 (inR_b r8) (fun c11 => ?_) (fun c12 => ?_)
    · refine go_int k168_16 1 rfl ?_
      refine go_goto k168_17 ?_
      exact tjM_sets_21 hd e4 hK0 h1 h2 h3 (rfR_kd hK0 (by decide)) (Or.inr rfl) none rfl
    · refine go_int k168_20 0 rfl ?_
      exact tjM_sets_21 hd e4 hK0 h1 h2 h3 (rfR_kd hK0 (by decide)) (Or.inl rfl) none rfl
  · refine go_int k168_49 0 rfl ?_
    exact go_iret k168_50 e4 (inR_b (Or.inl rfl)) ⟨Nat.zero_le _, Nat.zero_le _⟩ rfl
theorem tfM_setCapacity {Φ : ev_P} {d : Nat} (hd : 3 ≤ d) {g : gH} (hg : HR g) {v0 v1 v2 : Int} (hK0 : kd v0 = 7) (h1 : InR v1) (h2 : InR v2) : Go Φ pr_P fN 1 (fM_setCapacity g v0 v1 v2) d (pr_P 169) 0 (ev_loc (pr_P 169).1 [(sR v0), (sI v1), (sI v2)]) [] g 0 0 := by
  show Go Φ pr_P fN 1 (fM_setCapacity g v0 v1 v2) d pr_m169 0 [some (sR v0), some (sI v1), some (sI v2)] [] g 0 0
  unfold fM_setCapacity
  refine go_aload k169_0 rfl ?_
  refine go_int k169_1 100 rfl ?_
  refine go_iload k169_3 rfl ?_
  refine go_iload k169_4 rfl ?_
  refine go_callN1 k169_5 rfl rfl rfl ⟨by decide, _, rfl, hK0⟩ ⟨Nat.zero_le _, Nat.zero_le _⟩ (by omega) (tfM_sets (by omega) hg hK0  (inR_of (by decide)) h1 h2) (fun y1 g3 r2 e4 => ?_)
  exact go_iret k169_8 e4 r2 ⟨Nat.zero_le _, Nat.zero_le _⟩ rfl
theorem tfM_setBudget {Φ : ev_P} {d : Nat} (hd : 3 ≤ d) {g : gH} (hg : HR g) {v0 v1 v2 : Int} (hK0 : kd v0 = 7) (h1 : InR v1) (h2 : InR v2) : Go Φ pr_P fN 1 (fM_setBudget g v0 v1 v2) d (pr_P 170) 0 (ev_loc (pr_P 170).1 [(sR v0), (sI v1), (sI v2)]) [] g 0 0 := by
  show Go Φ pr_P fN 1 (fM_setBudget g v0 v1 v2) d pr_m170 0 [some (sR v0), some (sI v1), some (sI v2)] [] g 0 0
  unfold fM_setBudget
  refine go_aload k170_0 rfl ?_
  refine go_int k170_1 220 rfl ?_
  refine go_iload k170_4 rfl ?_
  refine go_iload k170_5 rfl ?_
  refine go_callN1 k170_6 rfl rfl rfl ⟨by decide, _, rfl, hK0⟩ ⟨Nat.zero_le _, Nat.zero_le _⟩ (by omega) (tfM_sets (by omega) hg hK0  (inR_of (by decide)) h1 h2) (fun y1 g3 r2 e4 => ?_)
  exact go_iret k170_9 e4 r2 ⟨Nat.zero_le _, Nat.zero_le _⟩ rfl
theorem tjM_setHeir_73 {Φ : ev_P} {d : Nat} (hd : 2 ≤ d) {g : gH} (hg : HR g) {v0 v1 v2 : Int} (hK0 : kd v0 = 7) (h1 : InR v1) (h2 : InR v2) {s0 s1 : Int} (z0 : RfR s0) (z1 : B01 s1) (u3 : Option ev_V) (w3 : nwo u3) : Go Φ pr_P fN 1 (jM_setHeir_73 g v0 v1 v2 s0 s1 ) d pr_m171 73 [some (sR v0), some (sI v1), some (sI v2), u3] [(sI s1), (sR s0)] g 0 0 := by
  unfold jM_setHeir_73
  refine go_int k171_73 3 rfl ?_
  refine go_ck (fun q40 => ?_)
  refine go_callN3 k171_74 rfl rfl rfl ⟨by decide, _, rfl, q40⟩ ⟨Nat.zero_le _, Nat.zero_le _⟩ (by omega) (tfM_fails (by omega) hg q40  z1 (inR_of (by decide))) (fun y41 g43 r42 e44 => ?_)
  refine go_ifeq k171_77 (inR_b r42) (fun c45 => ?_) (fun c46 => ?_)
  · refine go_aload k171_82 rfl ?_
    refine go_callN0 k171_83 rfl rfl rfl ⟨by decide, _, rfl, hK0⟩ ⟨Nat.zero_le _, Nat.zero_le _⟩ (by omega) (tfM_remembers (by omega) e44 hK0 ) (fun y47 g49 e50 => ?_)
    refine go_aload k171_86 rfl ?_
    refine go_getR (bI := 0) k171_87 e50 hK0 (by decide) rfl rfl (fun r51 => ?_)
    refine go_int k171_90 260 rfl ?_
    refine go_iload k171_93 rfl ?_
    refine go_iadd k171_94 ?_
    refine go_ck (fun q53 => ?_)
    refine go_iald k171_95 e50 q53 (fun r52 => ?_)
    refine go_istore k171_96 rfl (loc2 := [some (sR v0), some (sI v1), some (sI v2), some (sI (g49 (g49 v0 0) (w32 (260 + v1))))]) rfl ?_
    refine go_aload k171_97 rfl ?_
    refine go_getR (bI := 0) k171_98 e50 hK0 (by decide) rfl rfl (fun r54 => ?_)
    refine go_int k171_101 260 rfl ?_
    refine go_iload k171_104 rfl ?_
    refine go_iadd k171_105 ?_
    refine go_iload k171_106 rfl ?_
    refine go_ck (fun q55 => ?_)
    refine go_iast k171_107 e50 q55 h2 (fun g56 e57 => ?_)
    refine go_iload k171_108 rfl ?_
    exact go_iret k171_109 e57 r52 ⟨Nat.zero_le _, Nat.zero_le _⟩ rfl
  · refine go_int k171_80 0 rfl ?_
    exact go_iret k171_81 e44 (inR_b (Or.inl rfl)) ⟨Nat.zero_le _, Nat.zero_le _⟩ rfl
theorem tjM_setHeir_68 {Φ : ev_P} {d : Nat} (hd : 2 ≤ d) {g : gH} (hg : HR g) {v0 v1 v2 : Int} (hK0 : kd v0 = 7) (h1 : InR v1) (h2 : InR v2) {s0 : Int} (z0 : RfR s0) (u3 : Option ev_V) (w3 : nwo u3) : Go Φ pr_P fN 1 (jM_setHeir_68 g v0 v1 v2 s0 ) d pr_m171 68 [some (sR v0), some (sI v1), some (sI v2), u3] [(sR s0)] g 0 0 := by
  unfold jM_setHeir_68
  refine go_int k171_68 1 rfl ?_
  refine go_goto k171_69 ?_
  exact tjM_setHeir_73 hd hg hK0 h1 h2 z0 (Or.inr rfl) u3 w3
theorem tjM_setHeir_48 {Φ : ev_P} {d : Nat} (hd : 2 ≤ d) {g : gH} (hg : HR g) {v0 v1 v2 : Int} (hK0 : kd v0 = 7) (h1 : InR v1) (h2 : InR v2) {s0 s1 : Int} (z0 : RfR s0) (z1 : B01 s1) (u3 : Option ev_V) (w3 : nwo u3) : Go Φ pr_P fN 1 (jM_setHeir_48 g v0 v1 v2 s0 s1 ) d pr_m171 48 [some (sR v0), some (sI v1), some (sI v2), u3] [(sI s1), (sR s0)] g 0 0 := by
  unfold jM_setHeir_48
  refine go_int k171_48 2 rfl ?_
  refine go_ck (fun q25 => ?_)
  refine go_callN3 k171_49 rfl rfl rfl ⟨by decide, _, rfl, q25⟩ ⟨Nat.zero_le _, Nat.zero_le _⟩ (by omega) (tfM_fails (by omega) hg q25  z1 (inR_of (by decide))) (fun y26 g28 r27 e29 => ?_)
  refine go_ifeq k171_52 (inR_b r27) (fun c30 => ?_) (fun c31 => ?_)
  · refine go_aload k171_55 rfl ?_
    refine go_iload k171_56 rfl ?_
    refine go_ifeq k171_57 h1 (fun c32 => ?_) (fun c33 => ?_)
    · exact tjM_setHeir_68 hd e29 hK0 h1 h2 (rfR_kd hK0 (by decide)) u3 w3
    · refine go_aload k171_60 rfl ?_
      refine go_iload k171_61 rfl ?_
      refine go_callP3 k171_62 rfl rfl rfl ⟨by decide, _, rfl, hK0⟩ ⟨Nat.zero_le _, Nat.zero_le _⟩ (by omega) (tfM_runs (by omega) e29 hK0  h1) (fun y34 r35 => ?_)
      refine go_ifeq k171_65 (inR_b r35) (fun c38 => ?_) (fun c39 => ?_)
      · exact tjM_setHeir_68 hd e29 hK0 h1 h2 (rfR_kd hK0 (by decide)) u3 w3
      · refine go_int k171_72 0 rfl ?_
        exact tjM_setHeir_73 hd e29 hK0 h1 h2 (rfR_kd hK0 (by decide)) (Or.inl rfl) u3 w3
  · refine go_int k171_80 0 rfl ?_
    exact go_iret k171_81 e29 (inR_b (Or.inl rfl)) ⟨Nat.zero_le _, Nat.zero_le _⟩ rfl
theorem tjM_setHeir_30 {Φ : ev_P} {d : Nat} (hd : 2 ≤ d) {g : gH} (hg : HR g) {v0 v1 v2 : Int} (hK0 : kd v0 = 7) (h1 : InR v1) (h2 : InR v2) {s0 s1 : Int} (z0 : RfR s0) (z1 : B01 s1) (u3 : Option ev_V) (w3 : nwo u3) : Go Φ pr_P fN 1 (jM_setHeir_30 g v0 v1 v2 s0 s1 ) d pr_m171 30 [some (sR v0), some (sI v1), some (sI v2), u3] [(sI s1), (sR s0)] g 0 0 := by
  unfold jM_setHeir_30
  refine go_int k171_30 1 rfl ?_
  refine go_ck (fun q16 => ?_)
  refine go_callN3 k171_31 rfl rfl rfl ⟨by decide, _, rfl, q16⟩ ⟨Nat.zero_le _, Nat.zero_le _⟩ (by omega) (tfM_fails (by omega) hg q16  z1 (inR_b (Or.inr rfl))) (fun y17 g19 r18 e20 => ?_)
  refine go_ifeq k171_34 (inR_b r18) (fun c21 => ?_) (fun c22 => ?_)
  · refine go_aload k171_37 rfl ?_
    refine go_iload k171_38 rfl ?_
    refine go_iload k171_39 rfl ?_
    refine go_cmeq k171_40 h1 h2 (fun c23 => ?_) (fun c24 => ?_)
    · refine go_int k171_43 1 rfl ?_
      refine go_goto k171_44 ?_
      exact tjM_setHeir_48 hd e20 hK0 h1 h2 (rfR_kd hK0 (by decide)) (Or.inr rfl) u3 w3
    · refine go_int k171_47 0 rfl ?_
      exact tjM_setHeir_48 hd e20 hK0 h1 h2 (rfR_kd hK0 (by decide)) (Or.inl rfl) u3 w3
  · refine go_int k171_80 0 rfl ?_
    exact go_iret k171_81 e20 (inR_b (Or.inl rfl)) ⟨Nat.zero_le _, Nat.zero_le _⟩ rfl
theorem tfM_setHeir {Φ : ev_P} {d : Nat} (hd : 2 ≤ d) {g : gH} (hg : HR g) {v0 v1 v2 : Int} (hK0 : kd v0 = 7) (h1 : InR v1) (h2 : InR v2) : Go Φ pr_P fN 1 (fM_setHeir g v0 v1 v2) d (pr_P 171) 0 (ev_loc (pr_P 171).1 [(sR v0), (sI v1), (sI v2)]) [] g 0 0 := by
  show Go Φ pr_P fN 1 (fM_setHeir g v0 v1 v2) d pr_m171 0 [some (sR v0), some (sI v1), some (sI v2), none] [] g 0 0
  unfold fM_setHeir
  refine go_aload k171_0 rfl ?_
  refine go_iload k171_1 rfl ?_
  refine go_callN3 k171_2 rfl rfl rfl ⟨by decide, _, rfl, hK0⟩ ⟨Nat.zero_le _, Nat.zero_le _⟩ (by omega) (tfM_noProcess (by omega) hg hK0  h1) (fun y1 g3 r2 e4 => ?_)
  refine go_ifeq k171_5 (inR_b r2) (fun c5 => ?_) (fun c6 => ?_)
  · refine go_aload k171_8 rfl ?_
    refine go_iload k171_9 rfl ?_
    refine go_int k171_10 (-1) rfl ?_
    refine go_aload k171_11 rfl ?_
    refine go_getR (bI := 0) k171_12 e4 hK0 (by decide) rfl rfl (fun r7 => ?_)
    refine go_int k171_15 0 rfl ?_
    refine go_ck (fun q9 => ?_)
    refine go_iald k171_16 e4 q9 (fun r8 => ?_)
    refine go_int k171_17 1 rfl ?_
    refine go_isub k171_18 ?_
    refine go_callP3 k171_19 rfl rfl rfl trivial ⟨Nat.zero_le _, Nat.zero_le _⟩ (by omega) (tfM_inRange (by omega) e4  h2 (inR_of (by decide)) (inR_w32 _)) (fun y10 r11 => ?_)
    refine go_ifeq k171_22 (inR_b r11) (fun c14 => ?_) (fun c15 => ?_)
    · refine go_int k171_25 1 rfl ?_
      refine go_goto k171_26 ?_
      exact tjM_setHeir_30 hd e4 hK0 h1 h2 (rfR_kd hK0 (by decide)) (Or.inr rfl) none rfl
    · refine go_int k171_29 0 rfl ?_
      exact tjM_setHeir_30 hd e4 hK0 h1 h2 (rfR_kd hK0 (by decide)) (Or.inl rfl) none rfl
  · refine go_int k171_80 0 rfl ?_
    exact go_iret k171_81 e4 (inR_b (Or.inl rfl)) ⟨Nat.zero_le _, Nat.zero_le _⟩ rfl
theorem tjM_give_57 {Φ : ev_P} {d : Nat} (hd : 2 ≤ d) {g : gH} (hg : HR g) {v0 v1 v2 : Int} (hK0 : kd v0 = 7) (h1 : InR v1) (h2 : InR v2) {s0 s1 : Int} (z0 : RfR s0) (z1 : B01 s1) (u3 : Option ev_V) (w3 : nwo u3) : Go Φ pr_P fN 1 (jM_give_57 g v0 v1 v2 s0 s1 ) d pr_m172 57 [some (sR v0), some (sI v1), some (sI v2), u3] [(sI s1), (sR s0)] g 0 0 := by
  unfold jM_give_57
  refine go_int k172_57 3 rfl ?_
  refine go_ck (fun q31 => ?_)
  refine go_callN3 k172_58 rfl rfl rfl ⟨by decide, _, rfl, q31⟩ ⟨Nat.zero_le _, Nat.zero_le _⟩ (by omega) (tfM_fails (by omega) hg q31  z1 (inR_of (by decide))) (fun y32 g34 r33 e35 => ?_)
  refine go_ifeq k172_61 (inR_b r33) (fun c36 => ?_) (fun c37 => ?_)
  · refine go_aload k172_66 rfl ?_
    refine go_callN0 k172_67 rfl rfl rfl ⟨by decide, _, rfl, hK0⟩ ⟨Nat.zero_le _, Nat.zero_le _⟩ (by omega) (tfM_remembers (by omega) e35 hK0 ) (fun y38 g40 e41 => ?_)
    refine go_aload k172_70 rfl ?_
    refine go_getR (bI := 0) k172_71 e41 hK0 (by decide) rfl rfl (fun r42 => ?_)
    refine go_int k172_74 11 rfl ?_
    refine go_iload k172_76 rfl ?_
    refine go_iadd k172_77 ?_
    refine go_ck (fun q44 => ?_)
    refine go_iald k172_78 e41 q44 (fun r43 => ?_)
    refine go_istore k172_79 rfl (loc2 := [some (sR v0), some (sI v1), some (sI v2), some (sI (g40 (g40 v0 0) (w32 (11 + v1))))]) rfl ?_
    refine go_aload k172_80 rfl ?_
    refine go_getR (bI := 0) k172_81 e41 hK0 (by decide) rfl rfl (fun r45 => ?_)
    refine go_int k172_84 11 rfl ?_
    refine go_iload k172_86 rfl ?_
    refine go_iadd k172_87 ?_
    refine go_iload k172_88 rfl ?_
    refine go_ck (fun q46 => ?_)
    refine go_iast k172_89 e41 q46 h2 (fun g47 e48 => ?_)
    refine go_iload k172_90 rfl ?_
    exact go_iret k172_91 e48 r43 ⟨Nat.zero_le _, Nat.zero_le _⟩ rfl
  · refine go_int k172_64 0 rfl ?_
    exact go_iret k172_65 e35 (inR_b (Or.inl rfl)) ⟨Nat.zero_le _, Nat.zero_le _⟩ rfl
theorem tjM_give_36 {Φ : ev_P} {d : Nat} (hd : 2 ≤ d) {g : gH} (hg : HR g) {v0 v1 v2 : Int} (hK0 : kd v0 = 7) (h1 : InR v1) (h2 : InR v2) {s0 s1 : Int} (z0 : RfR s0) (z1 : B01 s1) (u3 : Option ev_V) (w3 : nwo u3) : Go Φ pr_P fN 1 (jM_give_36 g v0 v1 v2 s0 s1 ) d pr_m172 36 [some (sR v0), some (sI v1), some (sI v2), u3] [(sI s1), (sR s0)] g 0 0 := by
  unfold jM_give_36
  refine go_int k172_36 2 rfl ?_
  refine go_ck (fun q18 => ?_)
  refine go_callN3 k172_37 rfl rfl rfl ⟨by decide, _, rfl, q18⟩ ⟨Nat.zero_le _, Nat.zero_le _⟩ (by omega) (tfM_fails (by omega) hg q18  z1 (inR_of (by decide))) (fun y19 g21 r20 e22 => ?_)
  refine go_ifeq k172_40 (inR_b r20) (fun c23 => ?_) (fun c24 => ?_)
  · refine go_aload k172_43 rfl ?_
    refine go_aload k172_44 rfl ?_
    refine go_iload k172_45 rfl ?_
    refine go_callP3 k172_46 rfl rfl rfl ⟨by decide, _, rfl, hK0⟩ ⟨Nat.zero_le _, Nat.zero_le _⟩ (by omega) (tfM_runs (by omega) e22 hK0  h2) (fun y25 r26 => ?_)
    refine go_ifeq k172_49 (inR_b r26) (fun c29 => ?_) (fun c30 => ?_)
    · refine go_int k172_52 1 rfl ?_
      refine go_goto k172_53 ?_
      exact tjM_give_57 hd e22 hK0 h1 h2 (rfR_kd hK0 (by decide)) (Or.inr rfl) u3 w3
    · refine go_int k172_56 0 rfl ?_
      exact tjM_give_57 hd e22 hK0 h1 h2 (rfR_kd hK0 (by decide)) (Or.inl rfl) u3 w3
  · refine go_int k172_64 0 rfl ?_
    exact go_iret k172_65 e22 (inR_b (Or.inl rfl)) ⟨Nat.zero_le _, Nat.zero_le _⟩ rfl
theorem tfM_give {Φ : ev_P} {d : Nat} (hd : 2 ≤ d) {g : gH} (hg : HR g) {v0 v1 v2 : Int} (hK0 : kd v0 = 7) (h1 : InR v1) (h2 : InR v2) : Go Φ pr_P fN 1 (fM_give g v0 v1 v2) d (pr_P 172) 0 (ev_loc (pr_P 172).1 [(sR v0), (sI v1), (sI v2)]) [] g 0 0 := by
  show Go Φ pr_P fN 1 (fM_give g v0 v1 v2) d pr_m172 0 [some (sR v0), some (sI v1), some (sI v2), none] [] g 0 0
  unfold fM_give
  refine go_aload k172_0 rfl ?_
  refine go_int k172_1 0 rfl ?_
  refine go_putI (bI := 8) k172_2 hg hK0 (by decide) rfl rfl (inR_b (Or.inl rfl)) (fun g1 e2 => ?_)
  refine go_aload k172_5 rfl ?_
  refine go_iload k172_6 rfl ?_
  refine go_int k172_7 1 rfl ?_
  refine go_callN3 k172_8 rfl rfl rfl ⟨by decide, _, rfl, hK0⟩ ⟨Nat.zero_le _, Nat.zero_le _⟩ (by omega) (tfM_noDuty (by omega) e2 hK0  h1 (inR_b (Or.inr rfl))) (fun y3 g5 r4 e6 => ?_)
  refine go_ifeq k172_11 (inR_b r4) (fun c7 => ?_) (fun c8 => ?_)
  · refine go_aload k172_14 rfl ?_
    refine go_iload k172_15 rfl ?_
    refine go_int k172_16 0 rfl ?_
    refine go_aload k172_17 rfl ?_
    refine go_getR (bI := 0) k172_18 e6 hK0 (by decide) rfl rfl (fun r9 => ?_)
    refine go_int k172_21 0 rfl ?_
    refine go_ck (fun q11 => ?_)
    refine go_iald k172_22 e6 q11 (fun r10 => ?_)
    refine go_int k172_23 1 rfl ?_
    refine go_isub k172_24 ?_
    refine go_callP3 k172_25 rfl rfl rfl trivial ⟨Nat.zero_le _, Nat.zero_le _⟩ (by omega) (tfM_inRange (by omega) e6  h2 (inR_b (Or.inl rfl)) (inR_w32 _)) (fun y12 r13 => ?_)
    refine go_ifeq k172_28 (inR_b r13) (fun c16 => ?_) (fun c17 => ?_)
    · refine go_int k172_31 1 rfl ?_
      refine go_goto k172_32 ?_
      exact tjM_give_36 hd e6 hK0 h1 h2 (rfR_kd hK0 (by decide)) (Or.inr rfl) none rfl
    · refine go_int k172_35 0 rfl ?_
      exact tjM_give_36 hd e6 hK0 h1 h2 (rfR_kd hK0 (by decide)) (Or.inl rfl) none rfl
  · refine go_int k172_64 0 rfl ?_
    exact go_iret k172_65 e6 (inR_b (Or.inl rfl)) ⟨Nat.zero_le _, Nat.zero_le _⟩ rfl
theorem tbM_lowestBelow_4 {Φ : ev_P} {d : Nat} (hd : 1 ≤ d) {g : gH} (hg : HR g) {v0 v1 : Int} (hK0 : kd v0 = 7) (h1 : InR v1) {X4 : Int → Int → Option Int} (HX4 : ∀ (v2 : Int) (h2 : InR v2) (v3 : Int) (h3 : InR v3), Go Φ pr_P (fP g) 1 (X4 v2 v3) d pr_m173 4 [some (sR v0), some (sI v1), some (sI v2), some (sI v3)] [] g 0 0) : ∀ (v2 : Int) (h2 : InR v2) (v3 : Int) (h3 : InR v3), Go Φ pr_P (fP g) 1 (bM_lowestBelow_4 g v0 v1 X4 v2 v3) d pr_m173 4 [some (sR v0), some (sI v1), some (sI v2), some (sI v3)] [] g 0 0 := by
  intro v2 h2 v3 h3
  unfold bM_lowestBelow_4
  refine go_iload k173_4 rfl ?_
  refine go_aload k173_5 rfl ?_
  refine go_getR (bI := 0) k173_6 hg hK0 (by decide) rfl rfl (fun r1 => ?_)
  refine go_int k173_9 0 rfl ?_
  refine go_ck (fun q3 => ?_)
  refine go_iald k173_10 hg q3 (fun r2 => ?_)
  refine go_cmlt k173_11 h3 r2 (fun c4 => ?_) (fun c5 => ?_)
  · refine go_aload k173_14 rfl ?_
    refine go_iload k173_15 rfl ?_
    refine go_callP3 k173_16 rfl rfl rfl ⟨by decide, _, rfl, hK0⟩ ⟨Nat.zero_le _, Nat.zero_le _⟩ (by omega) (tfM_runs (by omega) hg hK0  h3) (fun y6 r7 => ?_)
    refine go_ifeq k173_19 (inR_b r7) (fun c10 => ?_) (fun c11 => ?_)
    · refine go_iinc k173_51 rfl rfl 1 rfl (loc2 := [some (sR v0), some (sI v1), some (sI v2), some (sI (w32 (v3 + 1)))]) rfl ?_
      refine go_goto k173_54 ?_
      exact HX4 v2 h2 (w32 (v3 + 1)) (inR_w32 _)
    · refine go_aload k173_22 rfl ?_
      refine go_iload k173_23 rfl ?_
      refine go_iload k173_24 rfl ?_
      refine go_callP3 k173_25 rfl rfl rfl ⟨by decide, _, rfl, hK0⟩ ⟨Nat.zero_le _, Nat.zero_le _⟩ (by omega) (tfM_isOver (by omega) hg hK0  h1 h3) (fun y12 r13 => ?_)
      refine go_ifeq k173_28 (inR_b r13) (fun c16 => ?_) (fun c17 => ?_)
      · refine go_iinc k173_51 rfl rfl 1 rfl (loc2 := [some (sR v0), some (sI v1), some (sI v2), some (sI (w32 (v3 + 1)))]) rfl ?_
        refine go_goto k173_54 ?_
        exact HX4 v2 h2 (w32 (v3 + 1)) (inR_w32 _)
      · refine go_iload k173_31 rfl ?_
        refine go_int k173_32 (-1) rfl ?_
        refine go_cmeq k173_33 h2 (inR_of (by decide)) (fun c18 => ?_) (fun c19 => ?_)
        · refine go_iload k173_49 rfl ?_
          refine go_istore k173_50 rfl (loc2 := [some (sR v0), some (sI v1), some (sI v3), some (sI v3)]) rfl ?_
          refine go_iinc k173_51 rfl rfl 1 rfl (loc2 := [some (sR v0), some (sI v1), some (sI v3), some (sI (w32 (v3 + 1)))]) rfl ?_
          refine go_goto k173_54 ?_
          exact HX4 v3 h3 (w32 (v3 + 1)) (inR_w32 _)
        · refine go_aload k173_36 rfl ?_
          refine go_iload k173_37 rfl ?_
          refine go_callP1 k173_38 rfl rfl rfl ⟨by decide, _, rfl, hK0⟩ ⟨Nat.zero_le _, Nat.zero_le _⟩ (by omega) (tfM_deep (by omega) hg hK0  h3) (fun y20 r21 => ?_)
          refine go_aload k173_41 rfl ?_
          refine go_iload k173_42 rfl ?_
          refine go_callP1 k173_43 rfl rfl rfl ⟨by decide, _, rfl, hK0⟩ ⟨Nat.zero_le _, Nat.zero_le _⟩ (by omega) (tfM_deep (by omega) hg hK0  h2) (fun y24 r25 => ?_)
          refine go_cmlt k173_46 r21 r25 (fun c28 => ?_) (fun c29 => ?_)
          · refine go_iinc k173_51 rfl rfl 1 rfl (loc2 := [some (sR v0), some (sI v1), some (sI v2), some (sI (w32 (v3 + 1)))]) rfl ?_
            refine go_goto k173_54 ?_
            exact HX4 v2 h2 (w32 (v3 + 1)) (inR_w32 _)
          · refine go_iload k173_49 rfl ?_
            refine go_istore k173_50 rfl (loc2 := [some (sR v0), some (sI v1), some (sI v3), some (sI v3)]) rfl ?_
            refine go_iinc k173_51 rfl rfl 1 rfl (loc2 := [some (sR v0), some (sI v1), some (sI v3), some (sI (w32 (v3 + 1)))]) rfl ?_
            refine go_goto k173_54 ?_
            exact HX4 v3 h3 (w32 (v3 + 1)) (inR_w32 _)
  · refine go_iload k173_57 rfl ?_
    exact go_iret k173_58 hg h2 ⟨Nat.zero_le _, Nat.zero_le _⟩ rfl
theorem tlM_lowestBelow_4 {Φ : ev_P} {d : Nat} (hd : 1 ≤ d) {g : gH} (hg : HR g) {v0 v1 : Int} (hK0 : kd v0 = 7) (h1 : InR v1) : ∀ n : Nat, ∀ (v2 : Int) (h2 : InR v2) (v3 : Int) (h3 : InR v3), Go Φ pr_P (fP g) 1 (lM_lowestBelow_4 g v0 v1 n v2 v3) d pr_m173 4 [some (sR v0), some (sI v1), some (sI v2), some (sI v3)] [] g 0 0 := by
  intro n
  induction n with
  | zero => intros; exact go_none
  | succ n ih => exact tbM_lowestBelow_4 hd hg hK0 h1 ih
theorem tfM_lowestBelow {Φ : ev_P} {d : Nat} (hd : 1 ≤ d) {g : gH} (hg : HR g) {v0 v1 : Int} (hK0 : kd v0 = 7) (h1 : InR v1) : Go Φ pr_P (fP g) 1 (fM_lowestBelow g v0 v1) d (pr_P 173) 0 (ev_loc (pr_P 173).1 [(sR v0), (sI v1)]) [] g 0 0 := by
  show Go Φ pr_P (fP g) 1 (fM_lowestBelow g v0 v1) d pr_m173 0 [some (sR v0), some (sI v1), none, none] [] g 0 0
  unfold fM_lowestBelow
  refine go_int k173_0 (-1) rfl ?_
  refine go_istore k173_1 rfl (loc2 := [some (sR v0), some (sI v1), some (sI (-1)), none]) rfl ?_
  refine go_int k173_2 1 rfl ?_
  refine go_istore k173_3 rfl (loc2 := [some (sR v0), some (sI v1), some (sI (-1)), some (sI 1)]) rfl ?_
  exact tlM_lowestBelow_4 hd hg hK0 h1 fu (-1) (inR_of (by decide)) 1 (inR_b (Or.inr rfl))
theorem tbM_prune_68 {Φ : ev_P} {d : Nat} (hd : 8 ≤ d) {v0 v1 v2 : Int} (hK0 : kd v0 = 7) (h1 : InR v1) (h2 : InR v2) {X68 : Int → Int → gH → Option (Int × gH)} (HX68 : ∀ (v3 : Int) (h3 : InR v3) (v4 : Int) (h4 : InR v4) (g : gH) (hg : HR g) (u5 : Option ev_V) (w5 : nwo u5), Go Φ pr_P fN 1 (X68 v3 v4 g) d pr_m174 68 [some (sR v0), some (sI v1), some (sI v2), some (sI v3), some (sI v4), u5] [] g 0 0) : ∀ (v3 : Int) (h3 : InR v3) (v4 : Int) (h4 : InR v4) (g : gH) (hg : HR g) (u5 : Option ev_V) (w5 : nwo u5), Go Φ pr_P fN 1 (bM_prune_68 v0 v1 v2 X68 v3 v4 g) d pr_m174 68 [some (sR v0), some (sI v1), some (sI v2), some (sI v3), some (sI v4), u5] [] g 0 0 := by
  intro v3 h3 v4 h4 g hg u5 w5
  unfold bM_prune_68
  refine go_iload k174_68 rfl ?_
  refine go_int k174_70 (-1) rfl ?_
  refine go_cmeq k174_71 h4 (inR_of (by decide)) (fun c41 => ?_) (fun c42 => ?_)
  · refine go_iload k174_106 rfl ?_
    exact go_iret k174_107 hg h3 ⟨Nat.zero_le _, Nat.zero_le _⟩ rfl
  · refine go_aload k174_74 rfl ?_
    refine go_iload k174_75 rfl ?_
    refine go_iload k174_77 rfl ?_
    refine go_callN1 k174_78 rfl rfl rfl ⟨by decide, _, rfl, hK0⟩ ⟨Nat.zero_le _, Nat.zero_le _⟩ (by omega) (tfM_exits (by omega) hg hK0  h4 h2) (fun y43 g45 r44 e46 => ?_)
    refine go_istore k174_81 rfl (loc2 := [some (sR v0), some (sI v1), some (sI v2), some (sI v3), some (sI v4), some (sI y43)]) rfl ?_
    refine go_iload k174_83 rfl ?_
    refine go_iload k174_84 rfl ?_
    refine go_iflt k174_86 r44 (fun c47 => ?_) (fun c48 => ?_)
    · refine go_int k174_89 0 rfl ?_
      refine go_goto k174_90 ?_
      refine go_iadd k174_94 ?_
      refine go_istore k174_95 rfl (loc2 := [some (sR v0), some (sI v1), some (sI v2), some (sI (w32 (v3 + 0))), some (sI v4), some (sI y43)]) rfl ?_
      refine go_aload k174_96 rfl ?_
      refine go_iload k174_97 rfl ?_
      refine go_callP1 k174_98 rfl rfl rfl ⟨by decide, _, rfl, hK0⟩ ⟨Nat.zero_le _, Nat.zero_le _⟩ (by omega) (tfM_lowestBelow (by omega) e46 hK0  h1) (fun y49 r50 => ?_)
      refine go_istore k174_101 rfl (loc2 := [some (sR v0), some (sI v1), some (sI v2), some (sI (w32 (v3 + 0))), some (sI y49), some (sI y43)]) rfl ?_
      refine go_goto k174_103 ?_
      exact HX68 (w32 (v3 + 0)) (inR_w32 _) y49 r50 g45 e46 (some (sI y43)) rfl
    · refine go_int k174_93 1 rfl ?_
      refine go_iadd k174_94 ?_
      refine go_istore k174_95 rfl (loc2 := [some (sR v0), some (sI v1), some (sI v2), some (sI (w32 (v3 + 1))), some (sI v4), some (sI y43)]) rfl ?_
      refine go_aload k174_96 rfl ?_
      refine go_iload k174_97 rfl ?_
      refine go_callP1 k174_98 rfl rfl rfl ⟨by decide, _, rfl, hK0⟩ ⟨Nat.zero_le _, Nat.zero_le _⟩ (by omega) (tfM_lowestBelow (by omega) e46 hK0  h1) (fun y53 r54 => ?_)
      refine go_istore k174_101 rfl (loc2 := [some (sR v0), some (sI v1), some (sI v2), some (sI (w32 (v3 + 1))), some (sI y53), some (sI y43)]) rfl ?_
      refine go_goto k174_103 ?_
      exact HX68 (w32 (v3 + 1)) (inR_w32 _) y53 r54 g45 e46 (some (sI y43)) rfl
theorem tlM_prune_68 {Φ : ev_P} {d : Nat} (hd : 8 ≤ d) {v0 v1 v2 : Int} (hK0 : kd v0 = 7) (h1 : InR v1) (h2 : InR v2) : ∀ n : Nat, ∀ (v3 : Int) (h3 : InR v3) (v4 : Int) (h4 : InR v4) (g : gH) (hg : HR g) (u5 : Option ev_V) (w5 : nwo u5), Go Φ pr_P fN 1 (lM_prune_68 v0 v1 v2 n v3 v4 g) d pr_m174 68 [some (sR v0), some (sI v1), some (sI v2), some (sI v3), some (sI v4), u5] [] g 0 0 := by
  intro n
  induction n with
  | zero => intros; exact go_none
  | succ n ih => exact tbM_prune_68 hd hK0 h1 h2 ih
theorem tjM_prune_46 {Φ : ev_P} {d : Nat} (hd : 8 ≤ d) {g : gH} (hg : HR g) {v0 v1 v2 : Int} (hK0 : kd v0 = 7) (h1 : InR v1) (h2 : InR v2) {s0 s1 : Int} (z0 : RfR s0) (z1 : B01 s1) (u3 : Option ev_V) (w3 : nwo u3) (u4 : Option ev_V) (w4 : nwo u4) (u5 : Option ev_V) (w5 : nwo u5) : Go Φ pr_P fN 1 (jM_prune_46 g v0 v1 v2 s0 s1 ) d pr_m174 46 [some (sR v0), some (sI v1), some (sI v2), u3, u4, u5] [(sI s1), (sR s0)] g 0 0 := by
  unfold jM_prune_46
  refine go_int k174_46 3 rfl ?_
  refine go_ck (fun q26 => ?_)
  refine go_callN3 k174_47 rfl rfl rfl ⟨by decide, _, rfl, q26⟩ ⟨Nat.zero_le _, Nat.zero_le _⟩ (by omega) (tfM_fails (by omega) hg q26  z1 (inR_of (by decide))) (fun y27 g29 r28 e30 => ?_)
  refine go_ifeq k174_50 (inR_b r28) (fun c31 => ?_) (fun c32 => ?_)
  · refine go_aload k174_55 rfl ?_
    refine go_callN0 k174_56 rfl rfl rfl ⟨by decide, _, rfl, hK0⟩ ⟨Nat.zero_le _, Nat.zero_le _⟩ (by omega) (tfM_remembers (by omega) e30 hK0 ) (fun y33 g35 e36 => ?_)
    refine go_int k174_59 0 rfl ?_
    refine go_istore k174_60 rfl (loc2 := [some (sR v0), some (sI v1), some (sI v2), some (sI 0), u4, u5]) rfl ?_
    refine go_aload k174_61 rfl ?_
    refine go_iload k174_62 rfl ?_
    refine go_callP1 k174_63 rfl rfl rfl ⟨by decide, _, rfl, hK0⟩ ⟨Nat.zero_le _, Nat.zero_le _⟩ (by omega) (tfM_lowestBelow (by omega) e36 hK0  h1) (fun y37 r38 => ?_)
    refine go_istore k174_66 rfl (loc2 := [some (sR v0), some (sI v1), some (sI v2), some (sI 0), some (sI y37), u5]) rfl ?_
    exact tlM_prune_68 hd hK0 h1 h2 fu 0 (inR_b (Or.inl rfl)) y37 r38 g35 e36 u5 w5
  · refine go_int k174_53 0 rfl ?_
    exact go_iret k174_54 e30 (inR_b (Or.inl rfl)) ⟨Nat.zero_le _, Nat.zero_le _⟩ rfl
theorem tjM_prune_25 {Φ : ev_P} {d : Nat} (hd : 8 ≤ d) {g : gH} (hg : HR g) {v0 v1 v2 : Int} (hK0 : kd v0 = 7) (h1 : InR v1) (h2 : InR v2) {s0 s1 : Int} (z0 : RfR s0) (z1 : B01 s1) (u3 : Option ev_V) (w3 : nwo u3) (u4 : Option ev_V) (w4 : nwo u4) (u5 : Option ev_V) (w5 : nwo u5) : Go Φ pr_P fN 1 (jM_prune_25 g v0 v1 v2 s0 s1 ) d pr_m174 25 [some (sR v0), some (sI v1), some (sI v2), u3, u4, u5] [(sI s1), (sR s0)] g 0 0 := by
  unfold jM_prune_25
  refine go_int k174_25 2 rfl ?_
  refine go_ck (fun q13 => ?_)
  refine go_callN3 k174_26 rfl rfl rfl ⟨by decide, _, rfl, q13⟩ ⟨Nat.zero_le _, Nat.zero_le _⟩ (by omega) (tfM_fails (by omega) hg q13  z1 (inR_of (by decide))) (fun y14 g16 r15 e17 => ?_)
  refine go_ifeq k174_29 (inR_b r15) (fun c18 => ?_) (fun c19 => ?_)
  · refine go_aload k174_32 rfl ?_
    refine go_aload k174_33 rfl ?_
    refine go_iload k174_34 rfl ?_
    refine go_callP3 k174_35 rfl rfl rfl ⟨by decide, _, rfl, hK0⟩ ⟨Nat.zero_le _, Nat.zero_le _⟩ (by omega) (tfM_runs (by omega) e17 hK0  h1) (fun y20 r21 => ?_)
    refine go_ifeq k174_38 (inR_b r21) (fun c24 => ?_) (fun c25 => ?_)
    · refine go_int k174_41 1 rfl ?_
      refine go_goto k174_42 ?_
      exact tjM_prune_46 hd e17 hK0 h1 h2 (rfR_kd hK0 (by decide)) (Or.inr rfl) u3 w3 u4 w4 u5 w5
    · refine go_int k174_45 0 rfl ?_
      exact tjM_prune_46 hd e17 hK0 h1 h2 (rfR_kd hK0 (by decide)) (Or.inl rfl) u3 w3 u4 w4 u5 w5
  · refine go_int k174_53 0 rfl ?_
    exact go_iret k174_54 e17 (inR_b (Or.inl rfl)) ⟨Nat.zero_le _, Nat.zero_le _⟩ rfl
theorem tfM_prune {Φ : ev_P} {d : Nat} (hd : 8 ≤ d) {g : gH} (hg : HR g) {v0 v1 v2 : Int} (hK0 : kd v0 = 7) (h1 : InR v1) (h2 : InR v2) : Go Φ pr_P fN 1 (fM_prune g v0 v1 v2) d (pr_P 174) 0 (ev_loc (pr_P 174).1 [(sR v0), (sI v1), (sI v2)]) [] g 0 0 := by
  show Go Φ pr_P fN 1 (fM_prune g v0 v1 v2) d pr_m174 0 [some (sR v0), some (sI v1), some (sI v2), none, none, none] [] g 0 0
  unfold fM_prune
  refine go_aload k174_0 rfl ?_
  refine go_iload k174_1 rfl ?_
  refine go_callN3 k174_2 rfl rfl rfl ⟨by decide, _, rfl, hK0⟩ ⟨Nat.zero_le _, Nat.zero_le _⟩ (by omega) (tfM_noProcess (by omega) hg hK0  h1) (fun y1 g3 r2 e4 => ?_)
  refine go_ifeq k174_5 (inR_b r2) (fun c5 => ?_) (fun c6 => ?_)
  · refine go_aload k174_8 rfl ?_
    refine go_iload k174_9 rfl ?_
    refine go_int k174_10 0 rfl ?_
    refine go_int k174_11 255 rfl ?_
    refine go_callP3 k174_14 rfl rfl rfl trivial ⟨Nat.zero_le _, Nat.zero_le _⟩ (by omega) (tfM_inRange (by omega) e4  h2 (inR_b (Or.inl rfl)) (inR_of (by decide))) (fun y7 r8 => ?_)
    refine go_ifeq k174_17 (inR_b r8) (fun c11 => ?_) (fun c12 => ?_)
    · refine go_int k174_20 1 rfl ?_
      refine go_goto k174_21 ?_
      exact tjM_prune_25 hd e4 hK0 h1 h2 (rfR_kd hK0 (by decide)) (Or.inr rfl) none rfl none rfl none rfl
    · refine go_int k174_24 0 rfl ?_
      exact tjM_prune_25 hd e4 hK0 h1 h2 (rfR_kd hK0 (by decide)) (Or.inl rfl) none rfl none rfl none rfl
  · refine go_int k174_53 0 rfl ?_
    exact go_iret k174_54 e4 (inR_b (Or.inl rfl)) ⟨Nat.zero_le _, Nat.zero_le _⟩ rfl
theorem tbM_exchange_169 {Φ : ev_P} {d : Nat} (hd : 2 ≤ d) {g : gH} (hg : HR g) {v0 : Int} (hK0 : kd v0 = 7) {X169 : Int → Int → Option (Int × gH)} (HX169 : ∀ (v4 : Int) (h4 : InR v4) (v5 : Int) (h5 : InR v5) (u1 : Option ev_V) (w1 : nwo u1) (u2 : Option ev_V) (w2 : nwo u2) (u3 : Option ev_V) (w3 : nwo u3), Go Φ pr_P fN 1 (X169 v4 v5) d pr_m175 169 [some (sR v0), u1, u2, u3, some (sI v4), some (sI v5)] [] g 0 0) : ∀ (v4 : Int) (h4 : InR v4) (v5 : Int) (h5 : InR v5) (u1 : Option ev_V) (w1 : nwo u1) (u2 : Option ev_V) (w2 : nwo u2) (u3 : Option ev_V) (w3 : nwo u3), Go Φ pr_P fN 1 (bM_exchange_169 g v0 X169 v4 v5) d pr_m175 169 [some (sR v0), u1, u2, u3, some (sI v4), some (sI v5)] [] g 0 0 := by
  intro v4 h4 v5 h5 u1 w1 u2 w2 u3 w3
  unfold bM_exchange_169
  refine go_iload k175_169 rfl ?_
  refine go_aload k175_171 rfl ?_
  refine go_getR (bI := 0) k175_172 hg hK0 (by decide) rfl rfl (fun r90 => ?_)
  refine go_int k175_175 0 rfl ?_
  refine go_ck (fun q92 => ?_)
  refine go_iald k175_176 hg q92 (fun r91 => ?_)
  refine go_cmlt k175_177 h5 r91 (fun c93 => ?_) (fun c94 => ?_)
  · refine go_iload k175_180 rfl ?_
    refine go_aload k175_182 rfl ?_
    refine go_iload k175_183 rfl ?_
    refine go_callP3 k175_185 rfl rfl rfl ⟨by decide, _, rfl, hK0⟩ ⟨Nat.zero_le _, Nat.zero_le _⟩ (by omega) (tfM_runs (by omega) hg hK0  h5) (fun y95 r96 => ?_)
    refine go_ifeq k175_188 (inR_b r96) (fun c99 => ?_) (fun c100 => ?_)
    · refine go_int k175_211 0 rfl ?_
      refine go_iadd k175_212 ?_
      refine go_istore k175_213 w3 (loc2 := [some (sR v0), u1, u2, u3, some (sI (w32 (v4 + 0))), some (sI v5)]) rfl ?_
      refine go_iinc k175_215 rfl rfl 1 rfl (loc2 := [some (sR v0), u1, u2, u3, some (sI (w32 (v4 + 0))), some (sI (w32 (v5 + 1)))]) rfl ?_
      refine go_goto k175_218 ?_
      exact HX169 (w32 (v4 + 0)) (inR_w32 _) (w32 (v5 + 1)) (inR_w32 _) u1 w1 u2 w2 u3 w3
    · refine go_aload k175_191 rfl ?_
      refine go_iload k175_192 rfl ?_
      refine go_callP1 k175_194 rfl rfl rfl ⟨by decide, _, rfl, hK0⟩ ⟨Nat.zero_le _, Nat.zero_le _⟩ (by omega) (tfM_deep (by omega) hg hK0  h5) (fun y101 r102 => ?_)
      refine go_aload k175_197 rfl ?_
      refine go_getR (bI := 21) k175_198 hg hK0 (by decide) rfl rfl (fun r105 => ?_)
      refine go_iload k175_201 rfl ?_
      refine go_ck (fun q107 => ?_)
      refine go_iald k175_203 hg q107 (fun r106 => ?_)
      refine go_cmeq k175_204 r102 r106 (fun c108 => ?_) (fun c109 => ?_)
      · refine go_int k175_211 0 rfl ?_
        refine go_iadd k175_212 ?_
        refine go_istore k175_213 w3 (loc2 := [some (sR v0), u1, u2, u3, some (sI (w32 (v4 + 0))), some (sI v5)]) rfl ?_
        refine go_iinc k175_215 rfl rfl 1 rfl (loc2 := [some (sR v0), u1, u2, u3, some (sI (w32 (v4 + 0))), some (sI (w32 (v5 + 1)))]) rfl ?_
        refine go_goto k175_218 ?_
        exact HX169 (w32 (v4 + 0)) (inR_w32 _) (w32 (v5 + 1)) (inR_w32 _) u1 w1 u2 w2 u3 w3
      · refine go_int k175_207 1 rfl ?_
        refine go_goto k175_208 ?_
        refine go_iadd k175_212 ?_
        refine go_istore k175_213 w3 (loc2 := [some (sR v0), u1, u2, u3, some (sI (w32 (v4 + 1))), some (sI v5)]) rfl ?_
        refine go_iinc k175_215 rfl rfl 1 rfl (loc2 := [some (sR v0), u1, u2, u3, some (sI (w32 (v4 + 1))), some (sI (w32 (v5 + 1)))]) rfl ?_
        refine go_goto k175_218 ?_
        exact HX169 (w32 (v4 + 1)) (inR_w32 _) (w32 (v5 + 1)) (inR_w32 _) u1 w1 u2 w2 u3 w3
  · refine go_iload k175_221 rfl ?_
    exact go_iret k175_223 hg h4 ⟨Nat.zero_le _, Nat.zero_le _⟩ rfl
theorem tlM_exchange_169 {Φ : ev_P} {d : Nat} (hd : 2 ≤ d) {g : gH} (hg : HR g) {v0 : Int} (hK0 : kd v0 = 7) : ∀ n : Nat, ∀ (v4 : Int) (h4 : InR v4) (v5 : Int) (h5 : InR v5) (u1 : Option ev_V) (w1 : nwo u1) (u2 : Option ev_V) (w2 : nwo u2) (u3 : Option ev_V) (w3 : nwo u3), Go Φ pr_P fN 1 (lM_exchange_169 g v0 n v4 v5) d pr_m175 169 [some (sR v0), u1, u2, u3, some (sI v4), some (sI v5)] [] g 0 0 := by
  intro n
  induction n with
  | zero => intros; exact go_none
  | succ n ih => exact tbM_exchange_169 hd hg hK0 ih
theorem tjM_exchange_125 {Φ : ev_P} {d : Nat} (hd : 2 ≤ d) {g : gH} (hg : HR g) {v0 v1 v2 : Int} (hK0 : kd v0 = 7) (h1 : InR v1) (h2 : InR v2) (u3 : Option ev_V) (w3 : nwo u3) (u4 : Option ev_V) (w4 : nwo u4) (u5 : Option ev_V) (w5 : nwo u5) : Go Φ pr_P fN 1 (jM_exchange_125 g v0 v1 v2 ) d pr_m175 125 [some (sR v0), some (sI v1), some (sI v2), u3, u4, u5] [] g 0 0 := by
  unfold jM_exchange_125
  refine go_aload k175_125 rfl ?_
  refine go_getR (bI := 0) k175_126 hg hK0 (by decide) rfl rfl (fun r76 => ?_)
  refine go_int k175_129 60 rfl ?_
  refine go_iload k175_131 rfl ?_
  refine go_iadd k175_132 ?_
  refine go_ck (fun q78 => ?_)
  refine go_iald k175_133 hg q78 (fun r77 => ?_)
  refine go_istore k175_134 rfl (loc2 := [some (sR v0), some (sI v1), some (sI v2), some (sI (g (g v0 0) (w32 (60 + v1)))), u4, u5]) rfl ?_
  refine go_aload k175_135 rfl ?_
  refine go_getR (bI := 0) k175_136 hg hK0 (by decide) rfl rfl (fun r79 => ?_)
  refine go_int k175_139 60 rfl ?_
  refine go_iload k175_141 rfl ?_
  refine go_iadd k175_142 ?_
  refine go_aload k175_143 rfl ?_
  refine go_getR (bI := 0) k175_144 hg hK0 (by decide) rfl rfl (fun r80 => ?_)
  refine go_int k175_147 60 rfl ?_
  refine go_iload k175_149 rfl ?_
  refine go_iadd k175_150 ?_
  refine go_ck (fun q82 => ?_)
  refine go_iald k175_151 hg q82 (fun r81 => ?_)
  refine go_ck (fun q83 => ?_)
  refine go_iast k175_152 hg q83 r81 (fun g84 e85 => ?_)
  refine go_aload k175_153 rfl ?_
  refine go_getR (bI := 0) k175_154 e85 hK0 (by decide) rfl rfl (fun r86 => ?_)
  refine go_int k175_157 60 rfl ?_
  refine go_iload k175_159 rfl ?_
  refine go_iadd k175_160 ?_
  refine go_iload k175_161 rfl ?_
  refine go_ck (fun q87 => ?_)
  refine go_iast k175_162 e85 q87 r77 (fun g88 e89 => ?_)
  refine go_int k175_163 0 rfl ?_
  refine go_istore k175_164 rfl (loc2 := [some (sR v0), some (sI v1), some (sI v2), some (sI (g (g v0 0) (w32 (60 + v1)))), some (sI 0), u5]) rfl ?_
  refine go_int k175_166 0 rfl ?_
  refine go_istore k175_167 rfl (loc2 := [some (sR v0), some (sI v1), some (sI v2), some (sI (g (g v0 0) (w32 (60 + v1)))), some (sI 0), some (sI 0)]) rfl ?_
  exact tlM_exchange_169 hd e89 hK0 fu 0 (inR_b (Or.inl rfl)) 0 (inR_b (Or.inl rfl)) (some (sI v1)) rfl (some (sI v2)) rfl (some (sI (g (g v0 0) (w32 (60 + v1))))) rfl
theorem tbM_exchange_86 {Φ : ev_P} {d : Nat} (hd : 2 ≤ d) {v0 v1 v2 : Int} (hK0 : kd v0 = 7) (h1 : InR v1) (h2 : InR v2) {X86 : Int → gH → Option (Int × gH)} (HX86 : ∀ (v3 : Int) (h3 : InR v3) (g : gH) (hg : HR g) (u4 : Option ev_V) (w4 : nwo u4) (u5 : Option ev_V) (w5 : nwo u5), Go Φ pr_P fN 1 (X86 v3 g) d pr_m175 86 [some (sR v0), some (sI v1), some (sI v2), some (sI v3), u4, u5] [] g 0 0) : ∀ (v3 : Int) (h3 : InR v3) (g : gH) (hg : HR g) (u4 : Option ev_V) (w4 : nwo u4) (u5 : Option ev_V) (w5 : nwo u5), Go Φ pr_P fN 1 (bM_exchange_86 v0 v1 v2 X86 v3 g) d pr_m175 86 [some (sR v0), some (sI v1), some (sI v2), some (sI v3), u4, u5] [] g 0 0 := by
  intro v3 h3 g hg u4 w4 u5 w5
  unfold bM_exchange_86
  refine go_iload k175_86 rfl ?_
  refine go_aload k175_87 rfl ?_
  refine go_getR (bI := 0) k175_88 hg hK0 (by decide) rfl rfl (fun r54 => ?_)
  refine go_int k175_91 0 rfl ?_
  refine go_ck (fun q56 => ?_)
  refine go_iald k175_92 hg q56 (fun r55 => ?_)
  refine go_cmlt k175_93 h3 r55 (fun c57 => ?_) (fun c58 => ?_)
  · refine go_aload k175_96 rfl ?_
    refine go_getR (bI := 21) k175_97 hg hK0 (by decide) rfl rfl (fun r59 => ?_)
    refine go_iload k175_100 rfl ?_
    refine go_aload k175_101 rfl ?_
    refine go_iload k175_102 rfl ?_
    refine go_callP3 k175_103 rfl rfl rfl ⟨by decide, _, rfl, hK0⟩ ⟨Nat.zero_le _, Nat.zero_le _⟩ (by omega) (tfM_runs (by omega) hg hK0  h3) (fun y60 r61 => ?_)
    refine go_ifeq k175_106 (inR_b r61) (fun c64 => ?_) (fun c65 => ?_)
    · refine go_int k175_117 (-1) rfl ?_
      refine go_ck (fun q66 => ?_)
      refine go_iast k175_118 hg q66 (inR_of (by decide)) (fun g67 e68 => ?_)
      refine go_iinc k175_119 rfl rfl 1 rfl (loc2 := [some (sR v0), some (sI v1), some (sI v2), some (sI (w32 (v3 + 1))), u4, u5]) rfl ?_
      refine go_goto k175_122 ?_
      exact HX86 (w32 (v3 + 1)) (inR_w32 _) g67 e68 u4 w4 u5 w5
    · refine go_aload k175_109 rfl ?_
      refine go_iload k175_110 rfl ?_
      refine go_callP1 k175_111 rfl rfl rfl ⟨by decide, _, rfl, hK0⟩ ⟨Nat.zero_le _, Nat.zero_le _⟩ (by omega) (tfM_deep (by omega) hg hK0  h3) (fun y69 r70 => ?_)
      refine go_goto k175_114 ?_
      refine go_ck (fun q73 => ?_)
      refine go_iast k175_118 hg q73 r70 (fun g74 e75 => ?_)
      refine go_iinc k175_119 rfl rfl 1 rfl (loc2 := [some (sR v0), some (sI v1), some (sI v2), some (sI (w32 (v3 + 1))), u4, u5]) rfl ?_
      refine go_goto k175_122 ?_
      exact HX86 (w32 (v3 + 1)) (inR_w32 _) g74 e75 u4 w4 u5 w5
  · exact tjM_exchange_125 hd hg hK0 h1 h2 (some (sI v3)) rfl u4 w4 u5 w5
theorem tlM_exchange_86 {Φ : ev_P} {d : Nat} (hd : 2 ≤ d) {v0 v1 v2 : Int} (hK0 : kd v0 = 7) (h1 : InR v1) (h2 : InR v2) : ∀ n : Nat, ∀ (v3 : Int) (h3 : InR v3) (g : gH) (hg : HR g) (u4 : Option ev_V) (w4 : nwo u4) (u5 : Option ev_V) (w5 : nwo u5), Go Φ pr_P fN 1 (lM_exchange_86 v0 v1 v2 n v3 g) d pr_m175 86 [some (sR v0), some (sI v1), some (sI v2), some (sI v3), u4, u5] [] g 0 0 := by
  intro n
  induction n with
  | zero => intros; exact go_none
  | succ n ih => exact tbM_exchange_86 hd hK0 h1 h2 ih
theorem tjM_exchange_71 {Φ : ev_P} {d : Nat} (hd : 2 ≤ d) {g : gH} (hg : HR g) {v0 v1 v2 : Int} (hK0 : kd v0 = 7) (h1 : InR v1) (h2 : InR v2) {s0 s1 : Int} (z0 : RfR s0) (z1 : B01 s1) (u3 : Option ev_V) (w3 : nwo u3) (u4 : Option ev_V) (w4 : nwo u4) (u5 : Option ev_V) (w5 : nwo u5) : Go Φ pr_P fN 1 (jM_exchange_71 g v0 v1 v2 s0 s1 ) d pr_m175 71 [some (sR v0), some (sI v1), some (sI v2), u3, u4, u5] [(sI s1), (sR s0)] g 0 0 := by
  unfold jM_exchange_71
  refine go_int k175_71 2 rfl ?_
  refine go_ck (fun q43 => ?_)
  refine go_callN3 k175_72 rfl rfl rfl ⟨by decide, _, rfl, q43⟩ ⟨Nat.zero_le _, Nat.zero_le _⟩ (by omega) (tfM_fails (by omega) hg q43  z1 (inR_of (by decide))) (fun y44 g46 r45 e47 => ?_)
  refine go_ifeq k175_75 (inR_b r45) (fun c48 => ?_) (fun c49 => ?_)
  · refine go_aload k175_80 rfl ?_
    refine go_callN0 k175_81 rfl rfl rfl ⟨by decide, _, rfl, hK0⟩ ⟨Nat.zero_le _, Nat.zero_le _⟩ (by omega) (tfM_remembers (by omega) e47 hK0 ) (fun y50 g52 e53 => ?_)
    refine go_int k175_84 0 rfl ?_
    refine go_istore k175_85 rfl (loc2 := [some (sR v0), some (sI v1), some (sI v2), some (sI 0), u4, u5]) rfl ?_
    exact tlM_exchange_86 hd hK0 h1 h2 fu 0 (inR_b (Or.inl rfl)) g52 e53 u4 w4 u5 w5
  · refine go_int k175_78 0 rfl ?_
    exact go_iret k175_79 e47 (inR_b (Or.inl rfl)) ⟨Nat.zero_le _, Nat.zero_le _⟩ rfl
theorem tjM_exchange_66 {Φ : ev_P} {d : Nat} (hd : 2 ≤ d) {g : gH} (hg : HR g) {v0 v1 v2 : Int} (hK0 : kd v0 = 7) (h1 : InR v1) (h2 : InR v2) {s0 : Int} (z0 : RfR s0) (u3 : Option ev_V) (w3 : nwo u3) (u4 : Option ev_V) (w4 : nwo u4) (u5 : Option ev_V) (w5 : nwo u5) : Go Φ pr_P fN 1 (jM_exchange_66 g v0 v1 v2 s0 ) d pr_m175 66 [some (sR v0), some (sI v1), some (sI v2), u3, u4, u5] [(sR s0)] g 0 0 := by
  unfold jM_exchange_66
  refine go_int k175_66 1 rfl ?_
  refine go_goto k175_67 ?_
  exact tjM_exchange_71 hd hg hK0 h1 h2 z0 (Or.inr rfl) u3 w3 u4 w4 u5 w5
theorem tfM_exchange {Φ : ev_P} {d : Nat} (hd : 2 ≤ d) {g : gH} (hg : HR g) {v0 v1 v2 : Int} (hK0 : kd v0 = 7) (h1 : InR v1) (h2 : InR v2) : Go Φ pr_P fN 1 (fM_exchange g v0 v1 v2) d (pr_P 175) 0 (ev_loc (pr_P 175).1 [(sR v0), (sI v1), (sI v2)]) [] g 0 0 := by
  show Go Φ pr_P fN 1 (fM_exchange g v0 v1 v2) d pr_m175 0 [some (sR v0), some (sI v1), some (sI v2), none, none, none] [] g 0 0
  unfold fM_exchange
  refine go_aload k175_0 rfl ?_
  refine go_iload k175_1 rfl ?_
  refine go_callN3 k175_2 rfl rfl rfl ⟨by decide, _, rfl, hK0⟩ ⟨Nat.zero_le _, Nat.zero_le _⟩ (by omega) (tfM_noProcess (by omega) hg hK0  h1) (fun y1 g3 r2 e4 => ?_)
  refine go_ifeq k175_5 (inR_b r2) (fun c5 => ?_) (fun c6 => ?_)
  · refine go_aload k175_8 rfl ?_
    refine go_iload k175_9 rfl ?_
    refine go_callN3 k175_10 rfl rfl rfl ⟨by decide, _, rfl, hK0⟩ ⟨Nat.zero_le _, Nat.zero_le _⟩ (by omega) (tfM_noProcess (by omega) e4 hK0  h2) (fun y7 g9 r8 e10 => ?_)
    refine go_ifeq k175_13 (inR_b r8) (fun c11 => ?_) (fun c12 => ?_)
    · refine go_aload k175_18 rfl ?_
      refine go_iload k175_19 rfl ?_
      refine go_ifeq k175_20 h1 (fun c13 => ?_) (fun c14 => ?_)
      · exact tjM_exchange_66 hd e10 hK0 h1 h2 (rfR_kd hK0 (by decide)) none rfl none rfl none rfl
      · refine go_iload k175_23 rfl ?_
        refine go_ifeq k175_24 h2 (fun c15 => ?_) (fun c16 => ?_)
        · exact tjM_exchange_66 hd e10 hK0 h1 h2 (rfR_kd hK0 (by decide)) none rfl none rfl none rfl
        · refine go_aload k175_27 rfl ?_
          refine go_iload k175_28 rfl ?_
          refine go_callP3 k175_29 rfl rfl rfl ⟨by decide, _, rfl, hK0⟩ ⟨Nat.zero_le _, Nat.zero_le _⟩ (by omega) (tfM_runs (by omega) e10 hK0  h1) (fun y17 r18 => ?_)
          refine go_ifeq k175_32 (inR_b r18) (fun c21 => ?_) (fun c22 => ?_)
          · exact tjM_exchange_66 hd e10 hK0 h1 h2 (rfR_kd hK0 (by decide)) none rfl none rfl none rfl
          · refine go_aload k175_35 rfl ?_
            refine go_iload k175_36 rfl ?_
            refine go_callP3 k175_37 rfl rfl rfl ⟨by decide, _, rfl, hK0⟩ ⟨Nat.zero_le _, Nat.zero_le _⟩ (by omega) (tfM_runs (by omega) e10 hK0  h2) (fun y23 r24 => ?_)
            refine go_ifeq k175_40 (inR_b r24) (fun c27 => ?_) (fun c28 => ?_)
            · exact tjM_exchange_66 hd e10 hK0 h1 h2 (rfR_kd hK0 (by decide)) none rfl none rfl none rfl
            · refine go_iload k175_43 rfl ?_
              refine go_iload k175_44 rfl ?_
              refine go_cmeq k175_45 h1 h2 (fun c29 => ?_) (fun c30 => ?_)
              · exact tjM_exchange_66 hd e10 hK0 h1 h2 (rfR_kd hK0 (by decide)) none rfl none rfl none rfl
              · refine go_aload k175_48 rfl ?_
                refine go_iload k175_49 rfl ?_
                refine go_iload k175_50 rfl ?_
                refine go_callP3 k175_51 rfl rfl rfl ⟨by decide, _, rfl, hK0⟩ ⟨Nat.zero_le _, Nat.zero_le _⟩ (by omega) (tfM_isOver (by omega) e10 hK0  h1 h2) (fun y31 r32 => ?_)
                refine go_ifeq k175_54 (inR_b r32) (fun c35 => ?_) (fun c36 => ?_)
                · refine go_aload k175_57 rfl ?_
                  refine go_iload k175_58 rfl ?_
                  refine go_iload k175_59 rfl ?_
                  refine go_callP3 k175_60 rfl rfl rfl ⟨by decide, _, rfl, hK0⟩ ⟨Nat.zero_le _, Nat.zero_le _⟩ (by omega) (tfM_isOver (by omega) e10 hK0  h2 h1) (fun y37 r38 => ?_)
                  refine go_ifeq k175_63 (inR_b r38) (fun c41 => ?_) (fun c42 => ?_)
                  · refine go_int k175_70 0 rfl ?_
                    exact tjM_exchange_71 hd e10 hK0 h1 h2 (rfR_kd hK0 (by decide)) (Or.inl rfl) none rfl none rfl none rfl
                  · exact tjM_exchange_66 hd e10 hK0 h1 h2 (rfR_kd hK0 (by decide)) none rfl none rfl none rfl
                · exact tjM_exchange_66 hd e10 hK0 h1 h2 (rfR_kd hK0 (by decide)) none rfl none rfl none rfl
    · refine go_int k175_16 0 rfl ?_
      exact go_iret k175_17 e10 (inR_b (Or.inl rfl)) ⟨Nat.zero_le _, Nat.zero_le _⟩ rfl
  · refine go_int k175_16 0 rfl ?_
    exact go_iret k175_17 e4 (inR_b (Or.inl rfl)) ⟨Nat.zero_le _, Nat.zero_le _⟩ rfl
theorem tjM_notExiting_26 {Φ : ev_P} {d : Nat} (hd : 2 ≤ d) {g : gH} (hg : HR g) {v2 : Int} (h2 : InR v2) {s0 s1 : Int} (z0 : RfR s0) (z1 : B01 s1) (u0 : Option ev_V) (w0 : nwo u0) (u1 : Option ev_V) (w1 : nwo u1) : Go Φ pr_P fN 3 (jM_notExiting_26 g v2 s0 s1 ) d pr_m137 26 [u0, u1, some (sI v2)] [(sI s1), (sR s0)] g 0 0 := by
  unfold jM_notExiting_26
  refine go_iload k137_26 rfl ?_
  refine go_ck (fun q15 => ?_)
  refine go_callN3 k137_27 rfl rfl rfl ⟨by decide, _, rfl, q15⟩ ⟨Nat.zero_le _, Nat.zero_le _⟩ (by omega) (tfM_fails (by omega) hg q15  z1 h2) (fun y16 g18 r17 e19 => ?_)
  refine go_ifeq k137_30 (inR_b r17) (fun c20 => ?_) (fun c21 => ?_)
  · refine go_int k137_37 0 rfl ?_
    exact go_bret k137_38 e19 (Or.inl rfl) ⟨Nat.zero_le _, Nat.zero_le _⟩ rfl
  · refine go_int k137_33 1 rfl ?_
    refine go_goto k137_34 ?_
    exact go_bret k137_38 e19 (Or.inr rfl) ⟨Nat.zero_le _, Nat.zero_le _⟩ rfl
theorem tjM_notExiting_21 {Φ : ev_P} {d : Nat} (hd : 2 ≤ d) {g : gH} (hg : HR g) {v2 : Int} (h2 : InR v2) {s0 : Int} (z0 : RfR s0) (u0 : Option ev_V) (w0 : nwo u0) (u1 : Option ev_V) (w1 : nwo u1) : Go Φ pr_P fN 3 (jM_notExiting_21 g v2 s0 ) d pr_m137 21 [u0, u1, some (sI v2)] [(sR s0)] g 0 0 := by
  unfold jM_notExiting_21
  refine go_int k137_21 1 rfl ?_
  refine go_goto k137_22 ?_
  exact tjM_notExiting_26 hd hg h2 z0 (Or.inr rfl) u0 w0 u1 w1
theorem tfM_notExiting {Φ : ev_P} {d : Nat} (hd : 2 ≤ d) {g : gH} (hg : HR g) {v0 v1 v2 : Int} (hK0 : kd v0 = 7) (h1 : InR v1) (h2 : InR v2) : Go Φ pr_P fN 3 (fM_notExiting g v0 v1 v2) d (pr_P 137) 0 (ev_loc (pr_P 137).1 [(sR v0), (sI v1), (sI v2)]) [] g 0 0 := by
  show Go Φ pr_P fN 3 (fM_notExiting g v0 v1 v2) d pr_m137 0 [some (sR v0), some (sI v1), some (sI v2)] [] g 0 0
  unfold fM_notExiting
  refine go_aload k137_0 rfl ?_
  refine go_iload k137_1 rfl ?_
  refine go_callN3 k137_2 rfl rfl rfl ⟨by decide, _, rfl, hK0⟩ ⟨Nat.zero_le _, Nat.zero_le _⟩ (by omega) (tfM_noProcess (by omega) hg hK0  h1) (fun y1 g3 r2 e4 => ?_)
  refine go_ifeq k137_5 (inR_b r2) (fun c5 => ?_) (fun c6 => ?_)
  · refine go_aload k137_8 rfl ?_
    refine go_iload k137_9 rfl ?_
    refine go_ifeq k137_10 h1 (fun c7 => ?_) (fun c8 => ?_)
    · exact tjM_notExiting_21 hd e4 h2 (rfR_kd hK0 (by decide)) (some (sR v0)) rfl (some (sI v1)) rfl
    · refine go_aload k137_13 rfl ?_
      refine go_iload k137_14 rfl ?_
      refine go_callP3 k137_15 rfl rfl rfl ⟨by decide, _, rfl, hK0⟩ ⟨Nat.zero_le _, Nat.zero_le _⟩ (by omega) (tfM_runs (by omega) e4 hK0  h1) (fun y9 r10 => ?_)
      refine go_ifeq k137_18 (inR_b r10) (fun c13 => ?_) (fun c14 => ?_)
      · exact tjM_notExiting_21 hd e4 h2 (rfR_kd hK0 (by decide)) (some (sR v0)) rfl (some (sI v1)) rfl
      · refine go_int k137_25 0 rfl ?_
        exact tjM_notExiting_26 hd e4 h2 (rfR_kd hK0 (by decide)) (Or.inl rfl) (some (sR v0)) rfl (some (sI v1)) rfl
  · refine go_int k137_33 1 rfl ?_
    refine go_goto k137_34 ?_
    exact go_bret k137_38 e4 (Or.inr rfl) ⟨Nat.zero_le _, Nat.zero_le _⟩ rfl
theorem tbM_relieve_26 {Φ : ev_P} {d : Nat} (hd : 7 ≤ d) {v0 v1 : Int} (hK0 : kd v0 = 7) (h1 : InR v1) {X26 : Int → Int → gH → Option (Int × gH)} (HX26 : ∀ (v2 : Int) (h2 : InR v2) (v3 : Int) (h3 : InR v3) (g : gH) (hg : HR g), Go Φ pr_P fN 1 (X26 v2 v3 g) d pr_m176 26 [some (sR v0), some (sI v1), some (sI v2), some (sI v3)] [] g 0 0) : ∀ (v2 : Int) (h2 : InR v2) (v3 : Int) (h3 : InR v3) (g : gH) (hg : HR g), Go Φ pr_P fN 1 (bM_relieve_26 v0 v1 X26 v2 v3 g) d pr_m176 26 [some (sR v0), some (sI v1), some (sI v2), some (sI v3)] [] g 0 0 := by
  intro v2 h2 v3 h3 g hg
  unfold bM_relieve_26
  refine go_iload k176_26 rfl ?_
  refine go_ifgt k176_27 h3 (fun c14 => ?_) (fun c15 => ?_)
  · refine go_aload k176_30 rfl ?_
    refine go_iload k176_31 rfl ?_
    refine go_iload k176_32 rfl ?_
    refine go_int k176_33 0 rfl ?_
    refine go_callP3 k176_34 rfl rfl rfl ⟨by decide, _, rfl, hK0⟩ ⟨Nat.zero_le _, Nat.zero_le _⟩ (by omega) (tfM_isChild (by omega) hg hK0  h3 h1 (inR_b (Or.inl rfl))) (fun y16 r17 => ?_)
    refine go_ifeq k176_37 (inR_b r17) (fun c20 => ?_) (fun c21 => ?_)
    · refine go_iinc k176_75 rfl rfl (-1) rfl (loc2 := [some (sR v0), some (sI v1), some (sI v2), some (sI (w32 (v3 + (-1))))]) rfl ?_
      refine go_goto k176_78 ?_
      exact HX26 v2 h2 (w32 (v3 + (-1))) (inR_w32 _) g hg
    · refine go_aload k176_40 rfl ?_
      refine go_iload k176_41 rfl ?_
      refine go_int k176_42 0 rfl ?_
      refine go_callP1 k176_43 rfl rfl rfl ⟨by decide, _, rfl, hK0⟩ ⟨Nat.zero_le _, Nat.zero_le _⟩ (by omega) (tfM_childrenOf (by omega) hg hK0  h1 (inR_b (Or.inl rfl))) (fun y22 r23 => ?_)
      refine go_aload k176_46 rfl ?_
      refine go_getR (bI := 0) k176_47 hg hK0 (by decide) rfl rfl (fun r26 => ?_)
      refine go_int k176_50 100 rfl ?_
      refine go_iload k176_52 rfl ?_
      refine go_iadd k176_53 ?_
      refine go_ck (fun q28 => ?_)
      refine go_iald k176_54 hg q28 (fun r27 => ?_)
      refine go_cmgt k176_55 r23 r27 (fun c29 => ?_) (fun c30 => ?_)
      · refine go_aload k176_61 rfl ?_
        refine go_aload k176_62 rfl ?_
        refine go_iload k176_63 rfl ?_
        refine go_iload k176_64 rfl ?_
        refine go_callP1 k176_65 rfl rfl rfl ⟨by decide, _, rfl, hK0⟩ ⟨Nat.zero_le _, Nat.zero_le _⟩ (by omega) (tfM_adopterOf (by omega) hg hK0  h3 h1) (fun y31 r32 => ?_)
        refine go_iload k176_68 rfl ?_
        refine go_callN0 k176_69 rfl rfl rfl ⟨by decide, _, rfl, hK0⟩ ⟨Nat.zero_le _, Nat.zero_le _⟩ (by omega) (tfM_adopts (by omega) hg hK0  r32 h3) (fun y35 g37 e38 => ?_)
        refine go_iinc k176_72 rfl rfl 1 rfl (loc2 := [some (sR v0), some (sI v1), some (sI (w32 (v2 + 1))), some (sI v3)]) rfl ?_
        refine go_iinc k176_75 rfl rfl (-1) rfl (loc2 := [some (sR v0), some (sI v1), some (sI (w32 (v2 + 1))), some (sI (w32 (v3 + (-1))))]) rfl ?_
        refine go_goto k176_78 ?_
        exact HX26 (w32 (v2 + 1)) (inR_w32 _) (w32 (v3 + (-1))) (inR_w32 _) g37 e38
      · refine go_goto k176_58 ?_
        refine go_iinc k176_75 rfl rfl (-1) rfl (loc2 := [some (sR v0), some (sI v1), some (sI v2), some (sI (w32 (v3 + (-1))))]) rfl ?_
        refine go_goto k176_78 ?_
        exact HX26 v2 h2 (w32 (v3 + (-1))) (inR_w32 _) g hg
  · refine go_iload k176_81 rfl ?_
    exact go_iret k176_82 hg h2 ⟨Nat.zero_le _, Nat.zero_le _⟩ rfl
theorem tlM_relieve_26 {Φ : ev_P} {d : Nat} (hd : 7 ≤ d) {v0 v1 : Int} (hK0 : kd v0 = 7) (h1 : InR v1) : ∀ n : Nat, ∀ (v2 : Int) (h2 : InR v2) (v3 : Int) (h3 : InR v3) (g : gH) (hg : HR g), Go Φ pr_P fN 1 (lM_relieve_26 v0 v1 n v2 v3 g) d pr_m176 26 [some (sR v0), some (sI v1), some (sI v2), some (sI v3)] [] g 0 0 := by
  intro n
  induction n with
  | zero => intros; exact go_none
  | succ n ih => exact tbM_relieve_26 hd hK0 h1 ih
theorem tfM_relieve {Φ : ev_P} {d : Nat} (hd : 7 ≤ d) {g : gH} (hg : HR g) {v0 v1 : Int} (hK0 : kd v0 = 7) (h1 : InR v1) : Go Φ pr_P fN 1 (fM_relieve g v0 v1) d (pr_P 176) 0 (ev_loc (pr_P 176).1 [(sR v0), (sI v1)]) [] g 0 0 := by
  show Go Φ pr_P fN 1 (fM_relieve g v0 v1) d pr_m176 0 [some (sR v0), some (sI v1), none, none] [] g 0 0
  unfold fM_relieve
  refine go_aload k176_0 rfl ?_
  refine go_iload k176_1 rfl ?_
  refine go_int k176_2 2 rfl ?_
  refine go_callN3 k176_3 rfl rfl rfl ⟨by decide, _, rfl, hK0⟩ ⟨Nat.zero_le _, Nat.zero_le _⟩ (by omega) (tfM_notExiting (by omega) hg hK0  h1 (inR_of (by decide))) (fun y1 g3 r2 e4 => ?_)
  refine go_ifeq k176_6 (inR_b r2) (fun c5 => ?_) (fun c6 => ?_)
  · refine go_aload k176_11 rfl ?_
    refine go_callN0 k176_12 rfl rfl rfl ⟨by decide, _, rfl, hK0⟩ ⟨Nat.zero_le _, Nat.zero_le _⟩ (by omega) (tfM_remembers (by omega) e4 hK0 ) (fun y7 g9 e10 => ?_)
    refine go_int k176_15 0 rfl ?_
    refine go_istore k176_16 rfl (loc2 := [some (sR v0), some (sI v1), some (sI 0), none]) rfl ?_
    refine go_aload k176_17 rfl ?_
    refine go_getR (bI := 0) k176_18 e10 hK0 (by decide) rfl rfl (fun r11 => ?_)
    refine go_int k176_21 0 rfl ?_
    refine go_ck (fun q13 => ?_)
    refine go_iald k176_22 e10 q13 (fun r12 => ?_)
    refine go_int k176_23 1 rfl ?_
    refine go_isub k176_24 ?_
    refine go_istore k176_25 rfl (loc2 := [some (sR v0), some (sI v1), some (sI 0), some (sI (w32 ((g9 (g9 v0 0) 0) - 1)))]) rfl ?_
    exact tlM_relieve_26 hd hK0 h1 fu 0 (inR_b (Or.inl rfl)) (w32 ((g9 (g9 v0 0) 0) - 1)) (inR_w32 _) g9 e10
  · refine go_int k176_9 0 rfl ?_
    exact go_iret k176_10 e4 (inR_b (Or.inl rfl)) ⟨Nat.zero_le _, Nat.zero_le _⟩ rfl
theorem tfM_adopter {Φ : ev_P} {d : Nat} (hd : 7 ≤ d) {g : gH} (hg : HR g) {v0 v1 : Int} (hK0 : kd v0 = 7) (h1 : InR v1) : Go Φ pr_P fN 1 (fM_adopter g v0 v1) d (pr_P 177) 0 (ev_loc (pr_P 177).1 [(sR v0), (sI v1)]) [] g 0 0 := by
  show Go Φ pr_P fN 1 (fM_adopter g v0 v1) d pr_m177 0 [some (sR v0), some (sI v1)] [] g 0 0
  unfold fM_adopter
  refine go_aload k177_0 rfl ?_
  refine go_iload k177_1 rfl ?_
  refine go_int k177_2 2 rfl ?_
  refine go_callN3 k177_3 rfl rfl rfl ⟨by decide, _, rfl, hK0⟩ ⟨Nat.zero_le _, Nat.zero_le _⟩ (by omega) (tfM_notExiting (by omega) hg hK0  h1 (inR_of (by decide))) (fun y1 g3 r2 e4 => ?_)
  refine go_ifeq k177_6 (inR_b r2) (fun c5 => ?_) (fun c6 => ?_)
  · refine go_aload k177_13 rfl ?_
    refine go_iload k177_14 rfl ?_
    refine go_aload k177_15 rfl ?_
    refine go_getR (bI := 0) k177_16 e4 hK0 (by decide) rfl rfl (fun r7 => ?_)
    refine go_int k177_19 60 rfl ?_
    refine go_iload k177_21 rfl ?_
    refine go_iadd k177_22 ?_
    refine go_ck (fun q9 => ?_)
    refine go_iald k177_23 e4 q9 (fun r8 => ?_)
    refine go_callP1 k177_24 rfl rfl rfl ⟨by decide, _, rfl, hK0⟩ ⟨Nat.zero_le _, Nat.zero_le _⟩ (by omega) (tfM_adopterOf (by omega) e4 hK0  h1 r8) (fun y10 r11 => ?_)
    exact go_iret k177_27 e4 r11 ⟨Nat.zero_le _, Nat.zero_le _⟩ rfl
  · refine go_int k177_9 0 rfl ?_
    refine go_goto k177_10 ?_
    exact go_iret k177_27 e4 (inR_b (Or.inl rfl)) ⟨Nat.zero_le _, Nat.zero_le _⟩ rfl
theorem tbM_adopters_15 {Φ : ev_P} {d : Nat} (hd : 4 ≤ d) {g : gH} (hg : HR g) {v0 v1 : Int} (hK0 : kd v0 = 7) (h1 : InR v1) {X15 : Int → Int → Option (Int × gH)} (HX15 : ∀ (v2 : Int) (h2 : InR v2) (v3 : Int) (h3 : InR v3), Go Φ pr_P fN 1 (X15 v2 v3) d pr_m178 15 [some (sR v0), some (sI v1), some (sI v2), some (sI v3)] [] g 0 0) : ∀ (v2 : Int) (h2 : InR v2) (v3 : Int) (h3 : InR v3), Go Φ pr_P fN 1 (bM_adopters_15 g v0 v1 X15 v2 v3) d pr_m178 15 [some (sR v0), some (sI v1), some (sI v2), some (sI v3)] [] g 0 0 := by
  intro v2 h2 v3 h3
  unfold bM_adopters_15
  refine go_iload k178_15 rfl ?_
  refine go_aload k178_16 rfl ?_
  refine go_getR (bI := 0) k178_17 hg hK0 (by decide) rfl rfl (fun r7 => ?_)
  refine go_int k178_20 0 rfl ?_
  refine go_ck (fun q9 => ?_)
  refine go_iald k178_21 hg q9 (fun r8 => ?_)
  refine go_cmlt k178_22 h3 r8 (fun c10 => ?_) (fun c11 => ?_)
  · refine go_iload k178_25 rfl ?_
    refine go_aload k178_26 rfl ?_
    refine go_iload k178_27 rfl ?_
    refine go_iload k178_28 rfl ?_
    refine go_callP3 k178_29 rfl rfl rfl ⟨by decide, _, rfl, hK0⟩ ⟨Nat.zero_le _, Nat.zero_le _⟩ (by omega) (tfM_canAdopt (by omega) hg hK0  h3 h1) (fun y12 r13 => ?_)
    refine go_ifeq k178_32 (inR_b r13) (fun c16 => ?_) (fun c17 => ?_)
    · refine go_int k178_39 0 rfl ?_
      refine go_iadd k178_40 ?_
      refine go_istore k178_41 rfl (loc2 := [some (sR v0), some (sI v1), some (sI (w32 (v2 + 0))), some (sI v3)]) rfl ?_
      refine go_iinc k178_42 rfl rfl 1 rfl (loc2 := [some (sR v0), some (sI v1), some (sI (w32 (v2 + 0))), some (sI (w32 (v3 + 1)))]) rfl ?_
      refine go_goto k178_45 ?_
      exact HX15 (w32 (v2 + 0)) (inR_w32 _) (w32 (v3 + 1)) (inR_w32 _)
    · refine go_int k178_35 1 rfl ?_
      refine go_goto k178_36 ?_
      refine go_iadd k178_40 ?_
      refine go_istore k178_41 rfl (loc2 := [some (sR v0), some (sI v1), some (sI (w32 (v2 + 1))), some (sI v3)]) rfl ?_
      refine go_iinc k178_42 rfl rfl 1 rfl (loc2 := [some (sR v0), some (sI v1), some (sI (w32 (v2 + 1))), some (sI (w32 (v3 + 1)))]) rfl ?_
      refine go_goto k178_45 ?_
      exact HX15 (w32 (v2 + 1)) (inR_w32 _) (w32 (v3 + 1)) (inR_w32 _)
  · refine go_iload k178_48 rfl ?_
    exact go_iret k178_49 hg h2 ⟨Nat.zero_le _, Nat.zero_le _⟩ rfl
theorem tlM_adopters_15 {Φ : ev_P} {d : Nat} (hd : 4 ≤ d) {g : gH} (hg : HR g) {v0 v1 : Int} (hK0 : kd v0 = 7) (h1 : InR v1) : ∀ n : Nat, ∀ (v2 : Int) (h2 : InR v2) (v3 : Int) (h3 : InR v3), Go Φ pr_P fN 1 (lM_adopters_15 g v0 v1 n v2 v3) d pr_m178 15 [some (sR v0), some (sI v1), some (sI v2), some (sI v3)] [] g 0 0 := by
  intro n
  induction n with
  | zero => intros; exact go_none
  | succ n ih => exact tbM_adopters_15 hd hg hK0 h1 ih
theorem tfM_adopters {Φ : ev_P} {d : Nat} (hd : 4 ≤ d) {g : gH} (hg : HR g) {v0 v1 : Int} (hK0 : kd v0 = 7) (h1 : InR v1) : Go Φ pr_P fN 1 (fM_adopters g v0 v1) d (pr_P 178) 0 (ev_loc (pr_P 178).1 [(sR v0), (sI v1)]) [] g 0 0 := by
  show Go Φ pr_P fN 1 (fM_adopters g v0 v1) d pr_m178 0 [some (sR v0), some (sI v1), none, none] [] g 0 0
  unfold fM_adopters
  refine go_aload k178_0 rfl ?_
  refine go_iload k178_1 rfl ?_
  refine go_int k178_2 2 rfl ?_
  refine go_callN3 k178_3 rfl rfl rfl ⟨by decide, _, rfl, hK0⟩ ⟨Nat.zero_le _, Nat.zero_le _⟩ (by omega) (tfM_notExiting (by omega) hg hK0  h1 (inR_of (by decide))) (fun y1 g3 r2 e4 => ?_)
  refine go_ifeq k178_6 (inR_b r2) (fun c5 => ?_) (fun c6 => ?_)
  · refine go_int k178_11 0 rfl ?_
    refine go_istore k178_12 rfl (loc2 := [some (sR v0), some (sI v1), some (sI 0), none]) rfl ?_
    refine go_int k178_13 1 rfl ?_
    refine go_istore k178_14 rfl (loc2 := [some (sR v0), some (sI v1), some (sI 0), some (sI 1)]) rfl ?_
    exact tlM_adopters_15 hd e4 hK0 h1 fu 0 (inR_b (Or.inl rfl)) 1 (inR_b (Or.inr rfl))
  · refine go_int k178_9 0 rfl ?_
    exact go_iret k178_10 e4 (inR_b (Or.inl rfl)) ⟨Nat.zero_le _, Nat.zero_le _⟩ rfl
theorem tfM_heirNow {Φ : ev_P} {d : Nat} (hd : 3 ≤ d) {g : gH} (hg : HR g) {v0 v1 : Int} (hK0 : kd v0 = 7) (h1 : InR v1) : Go Φ pr_P fN 1 (fM_heirNow g v0 v1) d (pr_P 179) 0 (ev_loc (pr_P 179).1 [(sR v0), (sI v1)]) [] g 0 0 := by
  show Go Φ pr_P fN 1 (fM_heirNow g v0 v1) d pr_m179 0 [some (sR v0), some (sI v1)] [] g 0 0
  unfold fM_heirNow
  refine go_aload k179_0 rfl ?_
  refine go_iload k179_1 rfl ?_
  refine go_int k179_2 2 rfl ?_
  refine go_callN3 k179_3 rfl rfl rfl ⟨by decide, _, rfl, hK0⟩ ⟨Nat.zero_le _, Nat.zero_le _⟩ (by omega) (tfM_notExiting (by omega) hg hK0  h1 (inR_of (by decide))) (fun y1 g3 r2 e4 => ?_)
  refine go_ifeq k179_6 (inR_b r2) (fun c5 => ?_) (fun c6 => ?_)
  · refine go_aload k179_13 rfl ?_
    refine go_iload k179_14 rfl ?_
    refine go_callP1 k179_15 rfl rfl rfl ⟨by decide, _, rfl, hK0⟩ ⟨Nat.zero_le _, Nat.zero_le _⟩ (by omega) (tfM_inheritor (by omega) e4 hK0  h1) (fun y7 r8 => ?_)
    exact go_iret k179_18 e4 r8 ⟨Nat.zero_le _, Nat.zero_le _⟩ rfl
  · refine go_int k179_9 0 rfl ?_
    refine go_goto k179_10 ?_
    exact go_iret k179_18 e4 (inR_b (Or.inl rfl)) ⟨Nat.zero_le _, Nat.zero_le _⟩ rfl
theorem tfM_begins {Φ : ev_P} {d : Nat} (hd : 1 ≤ d) {g : gH} (hg : HR g) {v0 : Int} (hK0 : kd v0 = 7) : Go Φ pr_P fN 0 (fM_begins g v0) d (pr_P 81) 0 (ev_loc (pr_P 81).1 [(sR v0)]) [] g 0 0 := by
  show Go Φ pr_P fN 0 (fM_begins g v0) d pr_m81 0 [some (sR v0)] [] g 0 0
  unfold fM_begins
  refine go_aload k81_0 rfl ?_
  refine go_getR (bI := 0) k81_1 hg hK0 (by decide) rfl rfl (fun r1 => ?_)
  refine go_int k81_4 0 rfl ?_
  refine go_aload k81_5 rfl ?_
  refine go_getR (bI := 2) k81_6 hg hK0 (by decide) rfl rfl (fun r2 => ?_)
  refine go_int k81_9 0 rfl ?_
  refine go_int k81_10 780 rfl ?_
  refine go_callN0 k81_13 rfl rfl rfl trivial ⟨Nat.zero_le _, Nat.zero_le _⟩ (by omega) (tfM_copies (by omega) hg  r1 (inR_b (Or.inl rfl)) r2 (inR_b (Or.inl rfl)) (inR_of (by decide))) (fun y3 g5 e6 => ?_)
  exact go_vret k81_16 e6 ⟨Nat.zero_le _, Nat.zero_le _⟩ rfl
theorem tfM_ends {Φ : ev_P} {d : Nat} (hd : 1 ≤ d) {g : gH} (hg : HR g) {v0 : Int} (hK0 : kd v0 = 7) : Go Φ pr_P fN 0 (fM_ends g v0) d (pr_P 82) 0 (ev_loc (pr_P 82).1 [(sR v0)]) [] g 0 0 := by
  show Go Φ pr_P fN 0 (fM_ends g v0) d pr_m82 0 [some (sR v0)] [] g 0 0
  unfold fM_ends
  refine go_aload k82_0 rfl ?_
  refine go_getR (bI := 2) k82_1 hg hK0 (by decide) rfl rfl (fun r1 => ?_)
  refine go_int k82_4 0 rfl ?_
  refine go_aload k82_5 rfl ?_
  refine go_getR (bI := 0) k82_6 hg hK0 (by decide) rfl rfl (fun r2 => ?_)
  refine go_int k82_9 0 rfl ?_
  refine go_int k82_10 780 rfl ?_
  refine go_callN0 k82_13 rfl rfl rfl trivial ⟨Nat.zero_le _, Nat.zero_le _⟩ (by omega) (tfM_copies (by omega) hg  r1 (inR_b (Or.inl rfl)) r2 (inR_b (Or.inl rfl)) (inR_of (by decide))) (fun y3 g5 e6 => ?_)
  exact go_vret k82_16 e6 ⟨Nat.zero_le _, Nat.zero_le _⟩ rfl
theorem tfM_fallsBy {Φ : ev_P} {d : Nat} (hd : 8 ≤ d) {g : gH} (hg : HR g) {v0 v1 v2 : Int} (hK0 : kd v0 = 7) (h1 : InR v1) (h2 : InR v2) : Go Φ pr_P fN 1 (fM_fallsBy g v0 v1 v2) d (pr_P 180) 0 (ev_loc (pr_P 180).1 [(sR v0), (sI v1), (sI v2)]) [] g 0 0 := by
  show Go Φ pr_P fN 1 (fM_fallsBy g v0 v1 v2) d pr_m180 0 [some (sR v0), some (sI v1), some (sI v2), none] [] g 0 0
  unfold fM_fallsBy
  refine go_aload k180_0 rfl ?_
  refine go_callN0 k180_1 rfl rfl rfl ⟨by decide, _, rfl, hK0⟩ ⟨Nat.zero_le _, Nat.zero_le _⟩ (by omega) (tfM_begins (by omega) hg hK0 ) (fun y1 g3 e4 => ?_)
  refine go_aload k180_4 rfl ?_
  refine go_iload k180_5 rfl ?_
  refine go_iload k180_6 rfl ?_
  refine go_callN1 k180_7 rfl rfl rfl ⟨by decide, _, rfl, hK0⟩ ⟨Nat.zero_le _, Nat.zero_le _⟩ (by omega) (tfM_exits (by omega) e4 hK0  h1 h2) (fun y5 g7 r6 e8 => ?_)
  refine go_istore k180_10 rfl (loc2 := [some (sR v0), some (sI v1), some (sI v2), some (sI y5)]) rfl ?_
  refine go_aload k180_11 rfl ?_
  refine go_callN0 k180_12 rfl rfl rfl ⟨by decide, _, rfl, hK0⟩ ⟨Nat.zero_le _, Nat.zero_le _⟩ (by omega) (tfM_ends (by omega) e8 hK0 ) (fun y9 g11 e12 => ?_)
  refine go_iload k180_15 rfl ?_
  exact go_iret k180_16 e12 r6 ⟨Nat.zero_le _, Nat.zero_le _⟩ rfl
theorem tfM_wouldFall {Φ : ev_P} {d : Nat} (hd : 9 ≤ d) {g : gH} (hg : HR g) {v0 v1 v2 : Int} (hK0 : kd v0 = 7) (h1 : InR v1) (h2 : InR v2) : Go Φ pr_P fN 1 (fM_wouldFall g v0 v1 v2) d (pr_P 181) 0 (ev_loc (pr_P 181).1 [(sR v0), (sI v1), (sI v2)]) [] g 0 0 := by
  show Go Φ pr_P fN 1 (fM_wouldFall g v0 v1 v2) d pr_m181 0 [some (sR v0), some (sI v1), some (sI v2)] [] g 0 0
  unfold fM_wouldFall
  refine go_aload k181_0 rfl ?_
  refine go_iload k181_1 rfl ?_
  refine go_iload k181_2 rfl ?_
  refine go_callN3 k181_3 rfl rfl rfl ⟨by decide, _, rfl, hK0⟩ ⟨Nat.zero_le _, Nat.zero_le _⟩ (by omega) (tfM_noExit (by omega) hg hK0  h1 h2) (fun y1 g3 r2 e4 => ?_)
  refine go_ifeq k181_6 (inR_b r2) (fun c5 => ?_) (fun c6 => ?_)
  · refine go_aload k181_13 rfl ?_
    refine go_iload k181_14 rfl ?_
    refine go_iload k181_15 rfl ?_
    refine go_callN1 k181_16 rfl rfl rfl ⟨by decide, _, rfl, hK0⟩ ⟨Nat.zero_le _, Nat.zero_le _⟩ (by omega) (tfM_fallsBy (by omega) e4 hK0  h1 h2) (fun y7 g9 r8 e10 => ?_)
    exact go_iret k181_19 e10 r8 ⟨Nat.zero_le _, Nat.zero_le _⟩ rfl
  · refine go_int k181_9 0 rfl ?_
    refine go_goto k181_10 ?_
    exact go_iret k181_19 e4 (inR_b (Or.inl rfl)) ⟨Nat.zero_le _, Nat.zero_le _⟩ rfl
theorem tfM_wouldStand {Φ : ev_P} {d : Nat} (hd : 8 ≤ d) {g : gH} (hg : HR g) {v0 v1 v2 : Int} (hK0 : kd v0 = 7) (h1 : InR v1) (h2 : InR v2) : Go Φ pr_P fN 1 (fM_wouldStand g v0 v1 v2) d (pr_P 182) 0 (ev_loc (pr_P 182).1 [(sR v0), (sI v1), (sI v2)]) [] g 0 0 := by
  show Go Φ pr_P fN 1 (fM_wouldStand g v0 v1 v2) d pr_m182 0 [some (sR v0), some (sI v1), some (sI v2), none, none] [] g 0 0
  unfold fM_wouldStand
  refine go_aload k182_0 rfl ?_
  refine go_iload k182_1 rfl ?_
  refine go_iload k182_2 rfl ?_
  refine go_callN3 k182_3 rfl rfl rfl ⟨by decide, _, rfl, hK0⟩ ⟨Nat.zero_le _, Nat.zero_le _⟩ (by omega) (tfM_noExit (by omega) hg hK0  h1 h2) (fun y1 g3 r2 e4 => ?_)
  refine go_ifeq k182_6 (inR_b r2) (fun c5 => ?_) (fun c6 => ?_)
  · refine go_aload k182_11 rfl ?_
    refine go_callN0 k182_12 rfl rfl rfl ⟨by decide, _, rfl, hK0⟩ ⟨Nat.zero_le _, Nat.zero_le _⟩ (by omega) (tfM_begins (by omega) e4 hK0 ) (fun y7 g9 e10 => ?_)
    refine go_aload k182_15 rfl ?_
    refine go_iload k182_16 rfl ?_
    refine go_iload k182_17 rfl ?_
    refine go_callN1 k182_18 rfl rfl rfl ⟨by decide, _, rfl, hK0⟩ ⟨Nat.zero_le _, Nat.zero_le _⟩ (by omega) (tfM_exits (by omega) e10 hK0  h1 h2) (fun y11 g13 r12 e14 => ?_)
    refine go_istore k182_21 rfl (loc2 := [some (sR v0), some (sI v1), some (sI v2), some (sI y11), none]) rfl ?_
    refine go_iload k182_22 rfl ?_
    refine go_iflt k182_23 r12 (fun c15 => ?_) (fun c16 => ?_)
    · refine go_int k182_26 (-1) rfl ?_
      refine go_goto k182_27 ?_
      refine go_istore k182_34 rfl (loc2 := [some (sR v0), some (sI v1), some (sI v2), some (sI y11), some (sI (-1))]) rfl ?_
      refine go_aload k182_36 rfl ?_
      refine go_callN0 k182_37 rfl rfl rfl ⟨by decide, _, rfl, hK0⟩ ⟨Nat.zero_le _, Nat.zero_le _⟩ (by omega) (tfM_ends (by omega) e14 hK0 ) (fun y17 g19 e20 => ?_)
      refine go_iload k182_40 rfl ?_
      exact go_iret k182_42 e20 (inR_of (by decide)) ⟨Nat.zero_le _, Nat.zero_le _⟩ rfl
    · refine go_aload k182_30 rfl ?_
      refine go_callP1 k182_31 rfl rfl rfl ⟨by decide, _, rfl, hK0⟩ ⟨Nat.zero_le _, Nat.zero_le _⟩ (by omega) (tfM_highest (by omega) e14 hK0 ) (fun y21 r22 => ?_)
      refine go_istore k182_34 rfl (loc2 := [some (sR v0), some (sI v1), some (sI v2), some (sI y11), some (sI y21)]) rfl ?_
      refine go_aload k182_36 rfl ?_
      refine go_callN0 k182_37 rfl rfl rfl ⟨by decide, _, rfl, hK0⟩ ⟨Nat.zero_le _, Nat.zero_le _⟩ (by omega) (tfM_ends (by omega) e14 hK0 ) (fun y25 g27 e28 => ?_)
      refine go_iload k182_40 rfl ?_
      exact go_iret k182_42 e28 r22 ⟨Nat.zero_le _, Nat.zero_le _⟩ rfl
  · refine go_int k182_9 0 rfl ?_
    exact go_iret k182_10 e4 (inR_b (Or.inl rfl)) ⟨Nat.zero_le _, Nat.zero_le _⟩ rfl
theorem tfM_wouldHave {Φ : ev_P} {d : Nat} (hd : 8 ≤ d) {g : gH} (hg : HR g) {v0 v1 v2 v3 : Int} (hK0 : kd v0 = 7) (h1 : InR v1) (h2 : InR v2) (h3 : InR v3) : Go Φ pr_P fN 1 (fM_wouldHave g v0 v1 v2 v3) d (pr_P 183) 0 (ev_loc (pr_P 183).1 [(sR v0), (sI v1), (sI v2), (sI v3)]) [] g 0 0 := by
  show Go Φ pr_P fN 1 (fM_wouldHave g v0 v1 v2 v3) d pr_m183 0 [some (sR v0), some (sI v1), some (sI v2), some (sI v3), none, none] [] g 0 0
  unfold fM_wouldHave
  refine go_aload k183_0 rfl ?_
  refine go_iload k183_1 rfl ?_
  refine go_callN3 k183_2 rfl rfl rfl ⟨by decide, _, rfl, hK0⟩ ⟨Nat.zero_le _, Nat.zero_le _⟩ (by omega) (tfM_noProcess (by omega) hg hK0  h1) (fun y1 g3 r2 e4 => ?_)
  refine go_ifeq k183_5 (inR_b r2) (fun c5 => ?_) (fun c6 => ?_)
  · refine go_aload k183_8 rfl ?_
    refine go_iload k183_9 rfl ?_
    refine go_iload k183_10 rfl ?_
    refine go_callN3 k183_11 rfl rfl rfl ⟨by decide, _, rfl, hK0⟩ ⟨Nat.zero_le _, Nat.zero_le _⟩ (by omega) (tfM_noExit (by omega) e4 hK0  h2 h3) (fun y7 g9 r8 e10 => ?_)
    refine go_ifeq k183_14 (inR_b r8) (fun c11 => ?_) (fun c12 => ?_)
    · refine go_aload k183_19 rfl ?_
      refine go_callN0 k183_20 rfl rfl rfl ⟨by decide, _, rfl, hK0⟩ ⟨Nat.zero_le _, Nat.zero_le _⟩ (by omega) (tfM_begins (by omega) e10 hK0 ) (fun y13 g15 e16 => ?_)
      refine go_aload k183_23 rfl ?_
      refine go_iload k183_24 rfl ?_
      refine go_iload k183_25 rfl ?_
      refine go_callN1 k183_26 rfl rfl rfl ⟨by decide, _, rfl, hK0⟩ ⟨Nat.zero_le _, Nat.zero_le _⟩ (by omega) (tfM_exits (by omega) e16 hK0  h2 h3) (fun y17 g19 r18 e20 => ?_)
      refine go_istore k183_29 rfl (loc2 := [some (sR v0), some (sI v1), some (sI v2), some (sI v3), some (sI y17), none]) rfl ?_
      refine go_iload k183_31 rfl ?_
      refine go_iflt k183_33 r18 (fun c21 => ?_) (fun c22 => ?_)
      · refine go_int k183_36 (-1) rfl ?_
        refine go_goto k183_37 ?_
        refine go_istore k183_49 rfl (loc2 := [some (sR v0), some (sI v1), some (sI v2), some (sI v3), some (sI y17), some (sI (-1))]) rfl ?_
        refine go_aload k183_51 rfl ?_
        refine go_callN0 k183_52 rfl rfl rfl ⟨by decide, _, rfl, hK0⟩ ⟨Nat.zero_le _, Nat.zero_le _⟩ (by omega) (tfM_ends (by omega) e20 hK0 ) (fun y23 g25 e26 => ?_)
        refine go_iload k183_55 rfl ?_
        exact go_iret k183_57 e26 (inR_of (by decide)) ⟨Nat.zero_le _, Nat.zero_le _⟩ rfl
      · refine go_aload k183_40 rfl ?_
        refine go_getR (bI := 0) k183_41 e20 hK0 (by decide) rfl rfl (fun r27 => ?_)
        refine go_int k183_44 60 rfl ?_
        refine go_iload k183_46 rfl ?_
        refine go_iadd k183_47 ?_
        refine go_ck (fun q29 => ?_)
        refine go_iald k183_48 e20 q29 (fun r28 => ?_)
        refine go_istore k183_49 rfl (loc2 := [some (sR v0), some (sI v1), some (sI v2), some (sI v3), some (sI y17), some (sI (g19 (g19 v0 0) (w32 (60 + v1))))]) rfl ?_
        refine go_aload k183_51 rfl ?_
        refine go_callN0 k183_52 rfl rfl rfl ⟨by decide, _, rfl, hK0⟩ ⟨Nat.zero_le _, Nat.zero_le _⟩ (by omega) (tfM_ends (by omega) e20 hK0 ) (fun y30 g32 e33 => ?_)
        refine go_iload k183_55 rfl ?_
        exact go_iret k183_57 e33 r28 ⟨Nat.zero_le _, Nat.zero_le _⟩ rfl
    · refine go_int k183_17 0 rfl ?_
      exact go_iret k183_18 e10 (inR_b (Or.inl rfl)) ⟨Nat.zero_le _, Nat.zero_le _⟩ rfl
  · refine go_int k183_17 0 rfl ?_
    exact go_iret k183_18 e4 (inR_b (Or.inl rfl)) ⟨Nat.zero_le _, Nat.zero_le _⟩ rfl
theorem tfM_wouldHold {Φ : ev_P} {d : Nat} (hd : 8 ≤ d) {g : gH} (hg : HR g) {v0 v1 v2 v3 : Int} (hK0 : kd v0 = 7) (h1 : InR v1) (h2 : InR v2) (h3 : InR v3) : Go Φ pr_P fN 1 (fM_wouldHold g v0 v1 v2 v3) d (pr_P 184) 0 (ev_loc (pr_P 184).1 [(sR v0), (sI v1), (sI v2), (sI v3)]) [] g 0 0 := by
  show Go Φ pr_P fN 1 (fM_wouldHold g v0 v1 v2 v3) d pr_m184 0 [some (sR v0), some (sI v1), some (sI v2), some (sI v3), none, none] [] g 0 0
  unfold fM_wouldHold
  refine go_aload k184_0 rfl ?_
  refine go_iload k184_1 rfl ?_
  refine go_callN3 k184_2 rfl rfl rfl ⟨by decide, _, rfl, hK0⟩ ⟨Nat.zero_le _, Nat.zero_le _⟩ (by omega) (tfM_noProcess (by omega) hg hK0  h2) (fun y1 g3 r2 e4 => ?_)
  refine go_ifeq k184_5 (inR_b r2) (fun c5 => ?_) (fun c6 => ?_)
  · refine go_aload k184_8 rfl ?_
    refine go_iload k184_9 rfl ?_
    refine go_int k184_10 2 rfl ?_
    refine go_callN3 k184_11 rfl rfl rfl ⟨by decide, _, rfl, hK0⟩ ⟨Nat.zero_le _, Nat.zero_le _⟩ (by omega) (tfM_noDuty (by omega) e4 hK0  h1 (inR_of (by decide))) (fun y7 g9 r8 e10 => ?_)
    refine go_ifeq k184_14 (inR_b r8) (fun c11 => ?_) (fun c12 => ?_)
    · refine go_aload k184_17 rfl ?_
      refine go_iload k184_18 rfl ?_
      refine go_iload k184_19 rfl ?_
      refine go_callN3 k184_20 rfl rfl rfl ⟨by decide, _, rfl, hK0⟩ ⟨Nat.zero_le _, Nat.zero_le _⟩ (by omega) (tfM_noExit (by omega) e10 hK0  h2 h3) (fun y13 g15 r14 e16 => ?_)
      refine go_ifeq k184_23 (inR_b r14) (fun c17 => ?_) (fun c18 => ?_)
      · refine go_aload k184_28 rfl ?_
        refine go_callN0 k184_29 rfl rfl rfl ⟨by decide, _, rfl, hK0⟩ ⟨Nat.zero_le _, Nat.zero_le _⟩ (by omega) (tfM_begins (by omega) e16 hK0 ) (fun y19 g21 e22 => ?_)
        refine go_aload k184_32 rfl ?_
        refine go_iload k184_33 rfl ?_
        refine go_iload k184_34 rfl ?_
        refine go_callN1 k184_35 rfl rfl rfl ⟨by decide, _, rfl, hK0⟩ ⟨Nat.zero_le _, Nat.zero_le _⟩ (by omega) (tfM_exits (by omega) e22 hK0  h2 h3) (fun y23 g25 r24 e26 => ?_)
        refine go_istore k184_38 rfl (loc2 := [some (sR v0), some (sI v1), some (sI v2), some (sI v3), some (sI y23), none]) rfl ?_
        refine go_iload k184_40 rfl ?_
        refine go_iflt k184_42 r24 (fun c27 => ?_) (fun c28 => ?_)
        · refine go_int k184_45 (-1) rfl ?_
          refine go_goto k184_46 ?_
          refine go_istore k184_58 rfl (loc2 := [some (sR v0), some (sI v1), some (sI v2), some (sI v3), some (sI y23), some (sI (-1))]) rfl ?_
          refine go_aload k184_60 rfl ?_
          refine go_callN0 k184_61 rfl rfl rfl ⟨by decide, _, rfl, hK0⟩ ⟨Nat.zero_le _, Nat.zero_le _⟩ (by omega) (tfM_ends (by omega) e26 hK0 ) (fun y29 g31 e32 => ?_)
          refine go_iload k184_64 rfl ?_
          exact go_iret k184_66 e32 (inR_of (by decide)) ⟨Nat.zero_le _, Nat.zero_le _⟩ rfl
        · refine go_aload k184_49 rfl ?_
          refine go_getR (bI := 0) k184_50 e26 hK0 (by decide) rfl rfl (fun r33 => ?_)
          refine go_int k184_53 11 rfl ?_
          refine go_iload k184_55 rfl ?_
          refine go_iadd k184_56 ?_
          refine go_ck (fun q35 => ?_)
          refine go_iald k184_57 e26 q35 (fun r34 => ?_)
          refine go_istore k184_58 rfl (loc2 := [some (sR v0), some (sI v1), some (sI v2), some (sI v3), some (sI y23), some (sI (g25 (g25 v0 0) (w32 (11 + v1))))]) rfl ?_
          refine go_aload k184_60 rfl ?_
          refine go_callN0 k184_61 rfl rfl rfl ⟨by decide, _, rfl, hK0⟩ ⟨Nat.zero_le _, Nat.zero_le _⟩ (by omega) (tfM_ends (by omega) e26 hK0 ) (fun y36 g38 e39 => ?_)
          refine go_iload k184_64 rfl ?_
          exact go_iret k184_66 e39 r34 ⟨Nat.zero_le _, Nat.zero_le _⟩ rfl
      · refine go_int k184_26 0 rfl ?_
        exact go_iret k184_27 e16 (inR_b (Or.inl rfl)) ⟨Nat.zero_le _, Nat.zero_le _⟩ rfl
    · refine go_int k184_26 0 rfl ?_
      exact go_iret k184_27 e10 (inR_b (Or.inl rfl)) ⟨Nat.zero_le _, Nat.zero_le _⟩ rfl
  · refine go_int k184_26 0 rfl ?_
    exact go_iret k184_27 e4 (inR_b (Or.inl rfl)) ⟨Nat.zero_le _, Nat.zero_le _⟩ rfl
theorem tfM_wouldFallBy {Φ : ev_P} {d : Nat} (hd : 9 ≤ d) {g : gH} (hg : HR g) {v0 v1 v2 : Int} (hK0 : kd v0 = 7) (h1 : InR v1) (h2 : InR v2) : Go Φ pr_P fN 1 (fM_wouldFallBy g v0 v1 v2) d (pr_P 185) 0 (ev_loc (pr_P 185).1 [(sR v0), (sI v1), (sI v2)]) [] g 0 0 := by
  show Go Φ pr_P fN 1 (fM_wouldFallBy g v0 v1 v2) d pr_m185 0 [some (sR v0), some (sI v1), some (sI v2), none, none, none] [] g 0 0
  unfold fM_wouldFallBy
  refine go_aload k185_0 rfl ?_
  refine go_iload k185_1 rfl ?_
  refine go_iload k185_2 rfl ?_
  refine go_callN3 k185_3 rfl rfl rfl ⟨by decide, _, rfl, hK0⟩ ⟨Nat.zero_le _, Nat.zero_le _⟩ (by omega) (tfM_noKill (by omega) hg hK0  h1 h2) (fun y1 g3 r2 e4 => ?_)
  refine go_ifeq k185_6 (inR_b r2) (fun c5 => ?_) (fun c6 => ?_)
  · refine go_aload k185_11 rfl ?_
    refine go_getR (bI := 0) k185_12 e4 hK0 (by decide) rfl rfl (fun r7 => ?_)
    refine go_int k185_15 3 rfl ?_
    refine go_ck (fun q9 => ?_)
    refine go_iald k185_16 e4 q9 (fun r8 => ?_)
    refine go_istore k185_17 rfl (loc2 := [some (sR v0), some (sI v1), some (sI v2), some (sI (g3 (g3 v0 0) 3)), none, none]) rfl ?_
    refine go_aload k185_18 rfl ?_
    refine go_callN0 k185_19 rfl rfl rfl ⟨by decide, _, rfl, hK0⟩ ⟨Nat.zero_le _, Nat.zero_le _⟩ (by omega) (tfM_begins (by omega) e4 hK0 ) (fun y10 g12 e13 => ?_)
    refine go_aload k185_22 rfl ?_
    refine go_iload k185_23 rfl ?_
    refine go_iload k185_24 rfl ?_
    refine go_callN1 k185_25 rfl rfl rfl ⟨by decide, _, rfl, hK0⟩ ⟨Nat.zero_le _, Nat.zero_le _⟩ (by omega) (tfM_kills (by omega) e13 hK0  h1 h2) (fun y14 g16 r15 e17 => ?_)
    refine go_istore k185_28 rfl (loc2 := [some (sR v0), some (sI v1), some (sI v2), some (sI (g3 (g3 v0 0) 3)), some (sI y14), none]) rfl ?_
    refine go_iload k185_30 rfl ?_
    refine go_iflt k185_32 r15 (fun c18 => ?_) (fun c19 => ?_)
    · refine go_int k185_35 (-1) rfl ?_
      refine go_goto k185_36 ?_
      refine go_istore k185_47 rfl (loc2 := [some (sR v0), some (sI v1), some (sI v2), some (sI (g3 (g3 v0 0) 3)), some (sI y14), some (sI (-1))]) rfl ?_
      refine go_aload k185_49 rfl ?_
      refine go_callN0 k185_50 rfl rfl rfl ⟨by decide, _, rfl, hK0⟩ ⟨Nat.zero_le _, Nat.zero_le _⟩ (by omega) (tfM_ends (by omega) e17 hK0 ) (fun y20 g22 e23 => ?_)
      refine go_iload k185_53 rfl ?_
      exact go_iret k185_55 e23 (inR_of (by decide)) ⟨Nat.zero_le _, Nat.zero_le _⟩ rfl
    · refine go_aload k185_39 rfl ?_
      refine go_getR (bI := 0) k185_40 e17 hK0 (by decide) rfl rfl (fun r24 => ?_)
      refine go_int k185_43 3 rfl ?_
      refine go_ck (fun q26 => ?_)
      refine go_iald k185_44 e17 q26 (fun r25 => ?_)
      refine go_iload k185_45 rfl ?_
      refine go_isub k185_46 ?_
      refine go_istore k185_47 rfl (loc2 := [some (sR v0), some (sI v1), some (sI v2), some (sI (g3 (g3 v0 0) 3)), some (sI y14), some (sI (w32 ((g16 (g16 v0 0) 3) - (g3 (g3 v0 0) 3))))]) rfl ?_
      refine go_aload k185_49 rfl ?_
      refine go_callN0 k185_50 rfl rfl rfl ⟨by decide, _, rfl, hK0⟩ ⟨Nat.zero_le _, Nat.zero_le _⟩ (by omega) (tfM_ends (by omega) e17 hK0 ) (fun y27 g29 e30 => ?_)
      refine go_iload k185_53 rfl ?_
      exact go_iret k185_55 e30 (inR_w32 _) ⟨Nat.zero_le _, Nat.zero_le _⟩ rfl
  · refine go_int k185_9 0 rfl ?_
    exact go_iret k185_10 e4 (inR_b (Or.inl rfl)) ⟨Nat.zero_le _, Nat.zero_le _⟩ rfl
theorem tfM_wouldRun {Φ : ev_P} {d : Nat} (hd : 9 ≤ d) {g : gH} (hg : HR g) {v0 v1 v2 : Int} (hK0 : kd v0 = 7) (h1 : InR v1) (h2 : InR v2) : Go Φ pr_P fN 1 (fM_wouldRun g v0 v1 v2) d (pr_P 186) 0 (ev_loc (pr_P 186).1 [(sR v0), (sI v1), (sI v2)]) [] g 0 0 := by
  show Go Φ pr_P fN 1 (fM_wouldRun g v0 v1 v2) d pr_m186 0 [some (sR v0), some (sI v1), some (sI v2), none, none] [] g 0 0
  unfold fM_wouldRun
  refine go_aload k186_0 rfl ?_
  refine go_iload k186_1 rfl ?_
  refine go_iload k186_2 rfl ?_
  refine go_callN3 k186_3 rfl rfl rfl ⟨by decide, _, rfl, hK0⟩ ⟨Nat.zero_le _, Nat.zero_le _⟩ (by omega) (tfM_noKill (by omega) hg hK0  h1 h2) (fun y1 g3 r2 e4 => ?_)
  refine go_ifeq k186_6 (inR_b r2) (fun c5 => ?_) (fun c6 => ?_)
  · refine go_aload k186_11 rfl ?_
    refine go_callN0 k186_12 rfl rfl rfl ⟨by decide, _, rfl, hK0⟩ ⟨Nat.zero_le _, Nat.zero_le _⟩ (by omega) (tfM_begins (by omega) e4 hK0 ) (fun y7 g9 e10 => ?_)
    refine go_aload k186_15 rfl ?_
    refine go_iload k186_16 rfl ?_
    refine go_iload k186_17 rfl ?_
    refine go_callN1 k186_18 rfl rfl rfl ⟨by decide, _, rfl, hK0⟩ ⟨Nat.zero_le _, Nat.zero_le _⟩ (by omega) (tfM_kills (by omega) e10 hK0  h1 h2) (fun y11 g13 r12 e14 => ?_)
    refine go_istore k186_21 rfl (loc2 := [some (sR v0), some (sI v1), some (sI v2), some (sI y11), none]) rfl ?_
    refine go_iload k186_22 rfl ?_
    refine go_iflt k186_23 r12 (fun c15 => ?_) (fun c16 => ?_)
    · refine go_int k186_26 (-1) rfl ?_
      refine go_goto k186_27 ?_
      refine go_istore k186_34 rfl (loc2 := [some (sR v0), some (sI v1), some (sI v2), some (sI y11), some (sI (-1))]) rfl ?_
      refine go_aload k186_36 rfl ?_
      refine go_callN0 k186_37 rfl rfl rfl ⟨by decide, _, rfl, hK0⟩ ⟨Nat.zero_le _, Nat.zero_le _⟩ (by omega) (tfM_ends (by omega) e14 hK0 ) (fun y17 g19 e20 => ?_)
      refine go_iload k186_40 rfl ?_
      exact go_iret k186_42 e20 (inR_of (by decide)) ⟨Nat.zero_le _, Nat.zero_le _⟩ rfl
    · refine go_aload k186_30 rfl ?_
      refine go_callP1 k186_31 rfl rfl rfl ⟨by decide, _, rfl, hK0⟩ ⟨Nat.zero_le _, Nat.zero_le _⟩ (by omega) (tfM_runningMany (by omega) e14 hK0 ) (fun y21 r22 => ?_)
      refine go_istore k186_34 rfl (loc2 := [some (sR v0), some (sI v1), some (sI v2), some (sI y11), some (sI y21)]) rfl ?_
      refine go_aload k186_36 rfl ?_
      refine go_callN0 k186_37 rfl rfl rfl ⟨by decide, _, rfl, hK0⟩ ⟨Nat.zero_le _, Nat.zero_le _⟩ (by omega) (tfM_ends (by omega) e14 hK0 ) (fun y25 g27 e28 => ?_)
      refine go_iload k186_40 rfl ?_
      exact go_iret k186_42 e28 r22 ⟨Nat.zero_le _, Nat.zero_le _⟩ rfl
  · refine go_int k186_9 0 rfl ?_
    exact go_iret k186_10 e4 (inR_b (Or.inl rfl)) ⟨Nat.zero_le _, Nat.zero_le _⟩ rfl
theorem tjM_weakest_69 {Φ : ev_P} {d : Nat} (hd : 9 ≤ d) {X38 : Int → Int → Int → gH → Option (Int × gH)} {g : gH} (hg : HR g) {v0 v1 v2 v3 v4 : Int} (hK0 : kd v0 = 7) (h1 : InR v1) (h2 : InR v2) (h3 : InR v3) (h4 : InR v4) {s0 : Int} (z0 : InR s0) (HX38 : ∀ (v2 : Int) (h2 : InR v2) (v3 : Int) (h3 : InR v3) (v4 : Int) (h4 : InR v4) (g : gH) (hg : HR g) (u5 : Option ev_V) (w5 : nwo u5), Go Φ pr_P fN 1 (X38 v2 v3 v4 g) d pr_m187 38 [some (sR v0), some (sI v1), some (sI v2), some (sI v3), some (sI v4), u5] [] g 0 0) (u5 : Option ev_V) (w5 : nwo u5) : Go Φ pr_P fN 1 (jM_weakest_69 X38 g v0 v1 v2 v3 v4 s0 ) d pr_m187 69 [some (sR v0), some (sI v1), some (sI v2), some (sI v3), some (sI v4), u5] [(sI s0)] g 0 0 := by
  unfold jM_weakest_69
  refine go_istore k187_69 rfl (loc2 := [some (sR v0), some (sI v1), some (sI v2), some (sI v3), some (sI v4), some (sI s0)]) rfl ?_
  refine go_iload k187_71 rfl ?_
  refine go_iload k187_73 rfl ?_
  refine go_cmgt k187_74 z0 h3 (fun c31 => ?_) (fun c32 => ?_)
  · refine go_iload k187_77 rfl ?_
    refine go_istore k187_79 rfl (loc2 := [some (sR v0), some (sI v1), some (sI v4), some (sI v3), some (sI v4), some (sI s0)]) rfl ?_
    refine go_iload k187_80 rfl ?_
    refine go_iload k187_81 rfl ?_
    refine go_max k187_83 h3 z0 rfl ⟨Nat.zero_le _, Nat.zero_le _⟩ ?_
    refine go_istore k187_86 rfl (loc2 := [some (sR v0), some (sI v1), some (sI v4), some (sI (gmax v3 s0)), some (sI v4), some (sI s0)]) rfl ?_
    refine go_iinc k187_87 rfl rfl 1 rfl (loc2 := [some (sR v0), some (sI v1), some (sI v4), some (sI (gmax v3 s0)), some (sI (w32 (v4 + 1))), some (sI s0)]) rfl ?_
    refine go_goto k187_90 ?_
    exact HX38 v4 h4 (gmax v3 s0) (inR_gmax h3 z0) (w32 (v4 + 1)) (inR_w32 _) g hg (some (sI s0)) rfl
  · refine go_iload k187_80 rfl ?_
    refine go_iload k187_81 rfl ?_
    refine go_max k187_83 h3 z0 rfl ⟨Nat.zero_le _, Nat.zero_le _⟩ ?_
    refine go_istore k187_86 rfl (loc2 := [some (sR v0), some (sI v1), some (sI v2), some (sI (gmax v3 s0)), some (sI v4), some (sI s0)]) rfl ?_
    refine go_iinc k187_87 rfl rfl 1 rfl (loc2 := [some (sR v0), some (sI v1), some (sI v2), some (sI (gmax v3 s0)), some (sI (w32 (v4 + 1))), some (sI s0)]) rfl ?_
    refine go_goto k187_90 ?_
    exact HX38 v2 h2 (gmax v3 s0) (inR_gmax h3 z0) (w32 (v4 + 1)) (inR_w32 _) g hg (some (sI s0)) rfl
theorem tbM_weakest_38 {Φ : ev_P} {d : Nat} (hd : 9 ≤ d) {v0 v1 : Int} (hK0 : kd v0 = 7) (h1 : InR v1) {X38 : Int → Int → Int → gH → Option (Int × gH)} (HX38 : ∀ (v2 : Int) (h2 : InR v2) (v3 : Int) (h3 : InR v3) (v4 : Int) (h4 : InR v4) (g : gH) (hg : HR g) (u5 : Option ev_V) (w5 : nwo u5), Go Φ pr_P fN 1 (X38 v2 v3 v4 g) d pr_m187 38 [some (sR v0), some (sI v1), some (sI v2), some (sI v3), some (sI v4), u5] [] g 0 0) : ∀ (v2 : Int) (h2 : InR v2) (v3 : Int) (h3 : InR v3) (v4 : Int) (h4 : InR v4) (g : gH) (hg : HR g) (u5 : Option ev_V) (w5 : nwo u5), Go Φ pr_P fN 1 (bM_weakest_38 v0 v1 X38 v2 v3 v4 g) d pr_m187 38 [some (sR v0), some (sI v1), some (sI v2), some (sI v3), some (sI v4), u5] [] g 0 0 := by
  intro v2 h2 v3 h3 v4 h4 g hg u5 w5
  unfold bM_weakest_38
  refine go_iload k187_38 rfl ?_
  refine go_aload k187_40 rfl ?_
  refine go_getR (bI := 0) k187_41 hg hK0 (by decide) rfl rfl (fun r16 => ?_)
  refine go_int k187_44 0 rfl ?_
  refine go_ck (fun q18 => ?_)
  refine go_iald k187_45 hg q18 (fun r17 => ?_)
  refine go_cmlt k187_46 h4 r17 (fun c19 => ?_) (fun c20 => ?_)
  · refine go_aload k187_49 rfl ?_
    refine go_iload k187_50 rfl ?_
    refine go_callP3 k187_52 rfl rfl rfl ⟨by decide, _, rfl, hK0⟩ ⟨Nat.zero_le _, Nat.zero_le _⟩ (by omega) (tfM_runs (by omega) hg hK0  h4) (fun y21 r22 => ?_)
    refine go_ifeq k187_55 (inR_b r22) (fun c25 => ?_) (fun c26 => ?_)
    · refine go_int k187_68 (-1) rfl ?_
      exact tjM_weakest_69 hd hg hK0 h1 h2 h3 h4 (inR_of (by decide)) HX38 u5 w5
    · refine go_aload k187_58 rfl ?_
      refine go_iload k187_59 rfl ?_
      refine go_iload k187_61 rfl ?_
      refine go_callN1 k187_62 rfl rfl rfl ⟨by decide, _, rfl, hK0⟩ ⟨Nat.zero_le _, Nat.zero_le _⟩ (by omega) (tfM_fallsBy (by omega) hg hK0  h4 h1) (fun y27 g29 r28 e30 => ?_)
      refine go_goto k187_65 ?_
      exact tjM_weakest_69 hd e30 hK0 h1 h2 h3 h4 r28 HX38 u5 w5
  · refine go_iload k187_93 rfl ?_
    exact go_iret k187_94 hg h2 ⟨Nat.zero_le _, Nat.zero_le _⟩ rfl
theorem tlM_weakest_38 {Φ : ev_P} {d : Nat} (hd : 9 ≤ d) {v0 v1 : Int} (hK0 : kd v0 = 7) (h1 : InR v1) : ∀ n : Nat, ∀ (v2 : Int) (h2 : InR v2) (v3 : Int) (h3 : InR v3) (v4 : Int) (h4 : InR v4) (g : gH) (hg : HR g) (u5 : Option ev_V) (w5 : nwo u5), Go Φ pr_P fN 1 (lM_weakest_38 v0 v1 n v2 v3 v4 g) d pr_m187 38 [some (sR v0), some (sI v1), some (sI v2), some (sI v3), some (sI v4), u5] [] g 0 0 := by
  intro n
  induction n with
  | zero => intros; exact go_none
  | succ n ih => exact tbM_weakest_38 hd hK0 h1 ih
theorem tjM_weakest_22 {Φ : ev_P} {d : Nat} (hd : 9 ≤ d) {g : gH} (hg : HR g) {v0 v1 : Int} (hK0 : kd v0 = 7) (h1 : InR v1) {s0 s1 : Int} (z0 : RfR s0) (z1 : B01 s1) (u2 : Option ev_V) (w2 : nwo u2) (u3 : Option ev_V) (w3 : nwo u3) (u4 : Option ev_V) (w4 : nwo u4) (u5 : Option ev_V) (w5 : nwo u5) : Go Φ pr_P fN 1 (jM_weakest_22 g v0 v1 s0 s1 ) d pr_m187 22 [some (sR v0), some (sI v1), u2, u3, u4, u5] [(sI s1), (sR s0)] g 0 0 := by
  unfold jM_weakest_22
  refine go_int k187_22 1 rfl ?_
  refine go_ck (fun q9 => ?_)
  refine go_callN3 k187_23 rfl rfl rfl ⟨by decide, _, rfl, q9⟩ ⟨Nat.zero_le _, Nat.zero_le _⟩ (by omega) (tfM_fails (by omega) hg q9  z1 (inR_b (Or.inr rfl))) (fun y10 g12 r11 e13 => ?_)
  refine go_ifeq k187_26 (inR_b r11) (fun c14 => ?_) (fun c15 => ?_)
  · refine go_int k187_31 (-1) rfl ?_
    refine go_istore k187_32 rfl (loc2 := [some (sR v0), some (sI v1), some (sI (-1)), u3, u4, u5]) rfl ?_
    refine go_int k187_33 (-1) rfl ?_
    refine go_istore k187_34 rfl (loc2 := [some (sR v0), some (sI v1), some (sI (-1)), some (sI (-1)), u4, u5]) rfl ?_
    refine go_int k187_35 1 rfl ?_
    refine go_istore k187_36 rfl (loc2 := [some (sR v0), some (sI v1), some (sI (-1)), some (sI (-1)), some (sI 1), u5]) rfl ?_
    exact tlM_weakest_38 hd hK0 h1 fu (-1) (inR_of (by decide)) (-1) (inR_of (by decide)) 1 (inR_b (Or.inr rfl)) g12 e13 u5 w5
  · refine go_int k187_29 0 rfl ?_
    exact go_iret k187_30 e13 (inR_b (Or.inl rfl)) ⟨Nat.zero_le _, Nat.zero_le _⟩ rfl
theorem tfM_weakest {Φ : ev_P} {d : Nat} (hd : 9 ≤ d) {g : gH} (hg : HR g) {v0 v1 : Int} (hK0 : kd v0 = 7) (h1 : InR v1) : Go Φ pr_P fN 1 (fM_weakest g v0 v1) d (pr_P 187) 0 (ev_loc (pr_P 187).1 [(sR v0), (sI v1)]) [] g 0 0 := by
  show Go Φ pr_P fN 1 (fM_weakest g v0 v1) d pr_m187 0 [some (sR v0), some (sI v1), none, none, none, none] [] g 0 0
  unfold fM_weakest
  refine go_aload k187_0 rfl ?_
  refine go_int k187_1 0 rfl ?_
  refine go_putI (bI := 8) k187_2 hg hK0 (by decide) rfl rfl (inR_b (Or.inl rfl)) (fun g1 e2 => ?_)
  refine go_aload k187_5 rfl ?_
  refine go_iload k187_6 rfl ?_
  refine go_int k187_7 0 rfl ?_
  refine go_int k187_8 255 rfl ?_
  refine go_callP3 k187_11 rfl rfl rfl trivial ⟨Nat.zero_le _, Nat.zero_le _⟩ (by omega) (tfM_inRange (by omega) e2  h1 (inR_b (Or.inl rfl)) (inR_of (by decide))) (fun y3 r4 => ?_)
  refine go_ifeq k187_14 (inR_b r4) (fun c7 => ?_) (fun c8 => ?_)
  · refine go_int k187_17 1 rfl ?_
    refine go_goto k187_18 ?_
    exact tjM_weakest_22 hd e2 hK0 h1 (rfR_kd hK0 (by decide)) (Or.inr rfl) none rfl none rfl none rfl none rfl
  · refine go_int k187_21 0 rfl ?_
    exact tjM_weakest_22 hd e2 hK0 h1 (rfR_kd hK0 (by decide)) (Or.inl rfl) none rfl none rfl none rfl none rfl
theorem tfM_betterCode {Φ : ev_P} {d : Nat} (hd : 9 ≤ d) {g : gH} (hg : HR g) {v0 v1 : Int} (hK0 : kd v0 = 7) (h1 : InR v1) : Go Φ pr_P fN 1 (fM_betterCode g v0 v1) d (pr_P 188) 0 (ev_loc (pr_P 188).1 [(sR v0), (sI v1)]) [] g 0 0 := by
  show Go Φ pr_P fN 1 (fM_betterCode g v0 v1) d pr_m188 0 [some (sR v0), some (sI v1)] [] g 0 0
  unfold fM_betterCode
  refine go_aload k188_0 rfl ?_
  refine go_iload k188_1 rfl ?_
  refine go_int k188_2 2 rfl ?_
  refine go_callN3 k188_3 rfl rfl rfl ⟨by decide, _, rfl, hK0⟩ ⟨Nat.zero_le _, Nat.zero_le _⟩ (by omega) (tfM_notExiting (by omega) hg hK0  h1 (inR_of (by decide))) (fun y1 g3 r2 e4 => ?_)
  refine go_ifeq k188_6 (inR_b r2) (fun c5 => ?_) (fun c6 => ?_)
  · refine go_aload k188_13 rfl ?_
    refine go_iload k188_14 rfl ?_
    refine go_int k188_15 1 rfl ?_
    refine go_callN1 k188_16 rfl rfl rfl ⟨by decide, _, rfl, hK0⟩ ⟨Nat.zero_le _, Nat.zero_le _⟩ (by omega) (tfM_fallsBy (by omega) e4 hK0  h1 (inR_b (Or.inr rfl))) (fun y7 g9 r8 e10 => ?_)
    refine go_aload k188_19 rfl ?_
    refine go_iload k188_20 rfl ?_
    refine go_int k188_21 0 rfl ?_
    refine go_callN1 k188_22 rfl rfl rfl ⟨by decide, _, rfl, hK0⟩ ⟨Nat.zero_le _, Nat.zero_le _⟩ (by omega) (tfM_fallsBy (by omega) e10 hK0  h1 (inR_b (Or.inl rfl))) (fun y11 g13 r12 e14 => ?_)
    refine go_cmlt k188_25 r8 r12 (fun c15 => ?_) (fun c16 => ?_)
    · refine go_int k188_28 1 rfl ?_
      refine go_goto k188_29 ?_
      exact go_iret k188_33 e14 (inR_b (Or.inr rfl)) ⟨Nat.zero_le _, Nat.zero_le _⟩ rfl
    · refine go_int k188_32 0 rfl ?_
      exact go_iret k188_33 e14 (inR_b (Or.inl rfl)) ⟨Nat.zero_le _, Nat.zero_le _⟩ rfl
  · refine go_int k188_9 0 rfl ?_
    refine go_goto k188_10 ?_
    exact go_iret k188_33 e4 (inR_b (Or.inl rfl)) ⟨Nat.zero_le _, Nat.zero_le _⟩ rfl
theorem tbM_dutyLife_22 {Φ : ev_P} {d : Nat} (hd : 8 ≤ d) {v0 v1 : Int} (hK0 : kd v0 = 7) (h1 : InR v1) {X22 : Int → gH → Option (Int × gH)} (HX22 : ∀ (v2 : Int) (h2 : InR v2) (g : gH) (hg : HR g) (u3 : Option ev_V) (w3 : nwo u3), Go Φ pr_P fN 1 (X22 v2 g) d pr_m189 22 [some (sR v0), some (sI v1), some (sI v2), u3] [] g 0 0) : ∀ (v2 : Int) (h2 : InR v2) (g : gH) (hg : HR g) (u3 : Option ev_V) (w3 : nwo u3), Go Φ pr_P fN 1 (bM_dutyLife_22 v0 v1 X22 v2 g) d pr_m189 22 [some (sR v0), some (sI v1), some (sI v2), u3] [] g 0 0 := by
  intro v2 h2 g hg u3 w3
  unfold bM_dutyLife_22
  refine go_aload k189_22 rfl ?_
  refine go_getR (bI := 0) k189_23 hg hK0 (by decide) rfl rfl (fun r13 => ?_)
  refine go_int k189_26 11 rfl ?_
  refine go_iload k189_28 rfl ?_
  refine go_iadd k189_29 ?_
  refine go_ck (fun q15 => ?_)
  refine go_iald k189_30 hg q15 (fun r14 => ?_)
  refine go_ifeq k189_31 r14 (fun c16 => ?_) (fun c17 => ?_)
  · refine go_aload k189_64 rfl ?_
    refine go_callN0 k189_65 rfl rfl rfl ⟨by decide, _, rfl, hK0⟩ ⟨Nat.zero_le _, Nat.zero_le _⟩ (by omega) (tfM_ends (by omega) hg hK0 ) (fun y18 g20 e21 => ?_)
    refine go_iload k189_68 rfl ?_
    exact go_iret k189_69 e21 h2 ⟨Nat.zero_le _, Nat.zero_le _⟩ rfl
  · refine go_aload k189_34 rfl ?_
    refine go_aload k189_35 rfl ?_
    refine go_getR (bI := 0) k189_36 hg hK0 (by decide) rfl rfl (fun r22 => ?_)
    refine go_int k189_39 11 rfl ?_
    refine go_iload k189_41 rfl ?_
    refine go_iadd k189_42 ?_
    refine go_ck (fun q24 => ?_)
    refine go_iald k189_43 hg q24 (fun r23 => ?_)
    refine go_int k189_44 0 rfl ?_
    refine go_callN1 k189_45 rfl rfl rfl ⟨by decide, _, rfl, hK0⟩ ⟨Nat.zero_le _, Nat.zero_le _⟩ (by omega) (tfM_exits (by omega) hg hK0  r23 (inR_b (Or.inl rfl))) (fun y25 g27 r26 e28 => ?_)
    refine go_istore k189_48 rfl (loc2 := [some (sR v0), some (sI v1), some (sI v2), some (sI y25)]) rfl ?_
    refine go_iload k189_49 rfl ?_
    refine go_iload k189_50 rfl ?_
    refine go_iflt k189_51 r26 (fun c29 => ?_) (fun c30 => ?_)
    · refine go_int k189_54 0 rfl ?_
      refine go_goto k189_55 ?_
      refine go_iadd k189_59 ?_
      refine go_istore k189_60 rfl (loc2 := [some (sR v0), some (sI v1), some (sI (w32 (v2 + 0))), some (sI y25)]) rfl ?_
      refine go_goto k189_61 ?_
      exact HX22 (w32 (v2 + 0)) (inR_w32 _) g27 e28 (some (sI y25)) rfl
    · refine go_int k189_58 1 rfl ?_
      refine go_iadd k189_59 ?_
      refine go_istore k189_60 rfl (loc2 := [some (sR v0), some (sI v1), some (sI (w32 (v2 + 1))), some (sI y25)]) rfl ?_
      refine go_goto k189_61 ?_
      exact HX22 (w32 (v2 + 1)) (inR_w32 _) g27 e28 (some (sI y25)) rfl
theorem tlM_dutyLife_22 {Φ : ev_P} {d : Nat} (hd : 8 ≤ d) {v0 v1 : Int} (hK0 : kd v0 = 7) (h1 : InR v1) : ∀ n : Nat, ∀ (v2 : Int) (h2 : InR v2) (g : gH) (hg : HR g) (u3 : Option ev_V) (w3 : nwo u3), Go Φ pr_P fN 1 (lM_dutyLife_22 v0 v1 n v2 g) d pr_m189 22 [some (sR v0), some (sI v1), some (sI v2), u3] [] g 0 0 := by
  intro n
  induction n with
  | zero => intros; exact go_none
  | succ n ih => exact tbM_dutyLife_22 hd hK0 h1 ih
theorem tfM_dutyLife {Φ : ev_P} {d : Nat} (hd : 8 ≤ d) {g : gH} (hg : HR g) {v0 v1 : Int} (hK0 : kd v0 = 7) (h1 : InR v1) : Go Φ pr_P fN 1 (fM_dutyLife g v0 v1) d (pr_P 189) 0 (ev_loc (pr_P 189).1 [(sR v0), (sI v1)]) [] g 0 0 := by
  show Go Φ pr_P fN 1 (fM_dutyLife g v0 v1) d pr_m189 0 [some (sR v0), some (sI v1), none, none] [] g 0 0
  unfold fM_dutyLife
  refine go_aload k189_0 rfl ?_
  refine go_int k189_1 0 rfl ?_
  refine go_putI (bI := 8) k189_2 hg hK0 (by decide) rfl rfl (inR_b (Or.inl rfl)) (fun g1 e2 => ?_)
  refine go_aload k189_5 rfl ?_
  refine go_iload k189_6 rfl ?_
  refine go_int k189_7 1 rfl ?_
  refine go_callN3 k189_8 rfl rfl rfl ⟨by decide, _, rfl, hK0⟩ ⟨Nat.zero_le _, Nat.zero_le _⟩ (by omega) (tfM_noDuty (by omega) e2 hK0  h1 (inR_b (Or.inr rfl))) (fun y3 g5 r4 e6 => ?_)
  refine go_ifeq k189_11 (inR_b r4) (fun c7 => ?_) (fun c8 => ?_)
  · refine go_aload k189_16 rfl ?_
    refine go_callN0 k189_17 rfl rfl rfl ⟨by decide, _, rfl, hK0⟩ ⟨Nat.zero_le _, Nat.zero_le _⟩ (by omega) (tfM_begins (by omega) e6 hK0 ) (fun y9 g11 e12 => ?_)
    refine go_int k189_20 0 rfl ?_
    refine go_istore k189_21 rfl (loc2 := [some (sR v0), some (sI v1), some (sI 0), none]) rfl ?_
    exact tlM_dutyLife_22 hd hK0 h1 fu 0 (inR_b (Or.inl rfl)) g11 e12 none rfl
  · refine go_int k189_14 0 rfl ?_
    exact go_iret k189_15 e6 (inR_b (Or.inl rfl)) ⟨Nat.zero_le _, Nat.zero_le _⟩ rfl
theorem tbM_roomiest_31 {Φ : ev_P} {d : Nat} (hd : 3 ≤ d) {g : gH} (hg : HR g) {v0 v1 : Int} (hK0 : kd v0 = 7) (h1 : InR v1) {X31 : Int → Int → Option (Int × gH)} (HX31 : ∀ (v2 : Int) (h2 : InR v2) (v3 : Int) (h3 : InR v3), Go Φ pr_P fN 1 (X31 v2 v3) d pr_m190 31 [some (sR v0), some (sI v1), some (sI v2), some (sI v3)] [] g 0 0) : ∀ (v2 : Int) (h2 : InR v2) (v3 : Int) (h3 : InR v3), Go Φ pr_P fN 1 (bM_roomiest_31 g v0 v1 X31 v2 v3) d pr_m190 31 [some (sR v0), some (sI v1), some (sI v2), some (sI v3)] [] g 0 0 := by
  intro v2 h2 v3 h3
  unfold bM_roomiest_31
  refine go_iload k190_31 rfl ?_
  refine go_aload k190_32 rfl ?_
  refine go_getR (bI := 0) k190_33 hg hK0 (by decide) rfl rfl (fun r16 => ?_)
  refine go_int k190_36 0 rfl ?_
  refine go_ck (fun q18 => ?_)
  refine go_iald k190_37 hg q18 (fun r17 => ?_)
  refine go_cmlt k190_38 h3 r17 (fun c19 => ?_) (fun c20 => ?_)
  · refine go_aload k190_41 rfl ?_
    refine go_iload k190_42 rfl ?_
    refine go_callP1 k190_43 rfl rfl rfl ⟨by decide, _, rfl, hK0⟩ ⟨Nat.zero_le _, Nat.zero_le _⟩ (by omega) (tfM_roomOf (by omega) hg hK0  h3) (fun y21 r22 => ?_)
    refine go_ifeq k190_46 r22 (fun c25 => ?_) (fun c26 => ?_)
    · refine go_iinc k190_81 rfl rfl 1 rfl (loc2 := [some (sR v0), some (sI v1), some (sI v2), some (sI (w32 (v3 + 1)))]) rfl ?_
      refine go_goto k190_84 ?_
      exact HX31 v2 h2 (w32 (v3 + 1)) (inR_w32 _)
    · refine go_aload k190_49 rfl ?_
      refine go_iload k190_50 rfl ?_
      refine go_iload k190_51 rfl ?_
      refine go_callP3 k190_52 rfl rfl rfl ⟨by decide, _, rfl, hK0⟩ ⟨Nat.zero_le _, Nat.zero_le _⟩ (by omega) (tfM_refusesGroup (by omega) hg hK0  h3 h1) (fun y27 r28 => ?_)
      refine go_ifeq k190_55 (inR_b r28) (fun c31 => ?_) (fun c32 => ?_)
      · refine go_iload k190_61 rfl ?_
        refine go_int k190_62 (-1) rfl ?_
        refine go_cmeq k190_63 h2 (inR_of (by decide)) (fun c33 => ?_) (fun c34 => ?_)
        · refine go_iload k190_79 rfl ?_
          refine go_istore k190_80 rfl (loc2 := [some (sR v0), some (sI v1), some (sI v3), some (sI v3)]) rfl ?_
          refine go_iinc k190_81 rfl rfl 1 rfl (loc2 := [some (sR v0), some (sI v1), some (sI v3), some (sI (w32 (v3 + 1)))]) rfl ?_
          refine go_goto k190_84 ?_
          exact HX31 v3 h3 (w32 (v3 + 1)) (inR_w32 _)
        · refine go_aload k190_66 rfl ?_
          refine go_iload k190_67 rfl ?_
          refine go_callP1 k190_68 rfl rfl rfl ⟨by decide, _, rfl, hK0⟩ ⟨Nat.zero_le _, Nat.zero_le _⟩ (by omega) (tfM_roomOf (by omega) hg hK0  h3) (fun y35 r36 => ?_)
          refine go_aload k190_71 rfl ?_
          refine go_iload k190_72 rfl ?_
          refine go_callP1 k190_73 rfl rfl rfl ⟨by decide, _, rfl, hK0⟩ ⟨Nat.zero_le _, Nat.zero_le _⟩ (by omega) (tfM_roomOf (by omega) hg hK0  h2) (fun y39 r40 => ?_)
          refine go_cmgt k190_76 r36 r40 (fun c43 => ?_) (fun c44 => ?_)
          · refine go_iload k190_79 rfl ?_
            refine go_istore k190_80 rfl (loc2 := [some (sR v0), some (sI v1), some (sI v3), some (sI v3)]) rfl ?_
            refine go_iinc k190_81 rfl rfl 1 rfl (loc2 := [some (sR v0), some (sI v1), some (sI v3), some (sI (w32 (v3 + 1)))]) rfl ?_
            refine go_goto k190_84 ?_
            exact HX31 v3 h3 (w32 (v3 + 1)) (inR_w32 _)
          · refine go_iinc k190_81 rfl rfl 1 rfl (loc2 := [some (sR v0), some (sI v1), some (sI v2), some (sI (w32 (v3 + 1)))]) rfl ?_
            refine go_goto k190_84 ?_
            exact HX31 v2 h2 (w32 (v3 + 1)) (inR_w32 _)
      · refine go_goto k190_58 ?_
        refine go_iinc k190_81 rfl rfl 1 rfl (loc2 := [some (sR v0), some (sI v1), some (sI v2), some (sI (w32 (v3 + 1)))]) rfl ?_
        refine go_goto k190_84 ?_
        exact HX31 v2 h2 (w32 (v3 + 1)) (inR_w32 _)
  · refine go_iload k190_87 rfl ?_
    exact go_iret k190_88 hg h2 ⟨Nat.zero_le _, Nat.zero_le _⟩ rfl
theorem tlM_roomiest_31 {Φ : ev_P} {d : Nat} (hd : 3 ≤ d) {g : gH} (hg : HR g) {v0 v1 : Int} (hK0 : kd v0 = 7) (h1 : InR v1) : ∀ n : Nat, ∀ (v2 : Int) (h2 : InR v2) (v3 : Int) (h3 : InR v3), Go Φ pr_P fN 1 (lM_roomiest_31 g v0 v1 n v2 v3) d pr_m190 31 [some (sR v0), some (sI v1), some (sI v2), some (sI v3)] [] g 0 0 := by
  intro n
  induction n with
  | zero => intros; exact go_none
  | succ n ih => exact tbM_roomiest_31 hd hg hK0 h1 ih
theorem tjM_roomiest_18 {Φ : ev_P} {d : Nat} (hd : 3 ≤ d) {g : gH} (hg : HR g) {v0 v1 : Int} (hK0 : kd v0 = 7) (h1 : InR v1) {s0 s1 : Int} (z0 : RfR s0) (z1 : B01 s1) (u2 : Option ev_V) (w2 : nwo u2) (u3 : Option ev_V) (w3 : nwo u3) : Go Φ pr_P fN 1 (jM_roomiest_18 g v0 v1 s0 s1 ) d pr_m190 18 [some (sR v0), some (sI v1), u2, u3] [(sI s1), (sR s0)] g 0 0 := by
  unfold jM_roomiest_18
  refine go_int k190_18 1 rfl ?_
  refine go_ck (fun q9 => ?_)
  refine go_callN3 k190_19 rfl rfl rfl ⟨by decide, _, rfl, q9⟩ ⟨Nat.zero_le _, Nat.zero_le _⟩ (by omega) (tfM_fails (by omega) hg q9  z1 (inR_b (Or.inr rfl))) (fun y10 g12 r11 e13 => ?_)
  refine go_ifeq k190_22 (inR_b r11) (fun c14 => ?_) (fun c15 => ?_)
  · refine go_int k190_27 (-1) rfl ?_
    refine go_istore k190_28 rfl (loc2 := [some (sR v0), some (sI v1), some (sI (-1)), u3]) rfl ?_
    refine go_int k190_29 1 rfl ?_
    refine go_istore k190_30 rfl (loc2 := [some (sR v0), some (sI v1), some (sI (-1)), some (sI 1)]) rfl ?_
    exact tlM_roomiest_31 hd e13 hK0 h1 fu (-1) (inR_of (by decide)) 1 (inR_b (Or.inr rfl))
  · refine go_int k190_25 0 rfl ?_
    exact go_iret k190_26 e13 (inR_b (Or.inl rfl)) ⟨Nat.zero_le _, Nat.zero_le _⟩ rfl
theorem tfM_roomiest {Φ : ev_P} {d : Nat} (hd : 3 ≤ d) {g : gH} (hg : HR g) {v0 v1 : Int} (hK0 : kd v0 = 7) (h1 : InR v1) : Go Φ pr_P fN 1 (fM_roomiest g v0 v1) d (pr_P 190) 0 (ev_loc (pr_P 190).1 [(sR v0), (sI v1)]) [] g 0 0 := by
  show Go Φ pr_P fN 1 (fM_roomiest g v0 v1) d pr_m190 0 [some (sR v0), some (sI v1), none, none] [] g 0 0
  unfold fM_roomiest
  refine go_aload k190_0 rfl ?_
  refine go_int k190_1 0 rfl ?_
  refine go_putI (bI := 8) k190_2 hg hK0 (by decide) rfl rfl (inR_b (Or.inl rfl)) (fun g1 e2 => ?_)
  refine go_aload k190_5 rfl ?_
  refine go_iload k190_6 rfl ?_
  refine go_callP3 k190_7 rfl rfl rfl trivial ⟨Nat.zero_le _, Nat.zero_le _⟩ (by omega) (tfM_isSmall (by omega) e2  h1) (fun y3 r4 => ?_)
  refine go_ifeq k190_10 (inR_b r4) (fun c7 => ?_) (fun c8 => ?_)
  · refine go_int k190_13 1 rfl ?_
    refine go_goto k190_14 ?_
    exact tjM_roomiest_18 hd e2 hK0 h1 (rfR_kd hK0 (by decide)) (Or.inr rfl) none rfl none rfl
  · refine go_int k190_17 0 rfl ?_
    exact tjM_roomiest_18 hd e2 hK0 h1 (rfR_kd hK0 (by decide)) (Or.inl rfl) none rfl none rfl
theorem tbM_allRoom_9 {Φ : ev_P} {d : Nat} (hd : 3 ≤ d) {g : gH} (hg : HR g) {v0 : Int} (hK0 : kd v0 = 7) {X9 : Int → Int → Option (Int × gH)} (HX9 : ∀ (v1 : Int) (h1 : InR v1) (v2 : Int) (h2 : InR v2), Go Φ pr_P fN 1 (X9 v1 v2) d pr_m191 9 [some (sR v0), some (sI v1), some (sI v2)] [] g 0 0) : ∀ (v1 : Int) (h1 : InR v1) (v2 : Int) (h2 : InR v2), Go Φ pr_P fN 1 (bM_allRoom_9 g v0 X9 v1 v2) d pr_m191 9 [some (sR v0), some (sI v1), some (sI v2)] [] g 0 0 := by
  intro v1 h1 v2 h2
  unfold bM_allRoom_9
  refine go_iload k191_9 rfl ?_
  refine go_aload k191_10 rfl ?_
  refine go_getR (bI := 0) k191_11 hg hK0 (by decide) rfl rfl (fun r3 => ?_)
  refine go_int k191_14 0 rfl ?_
  refine go_ck (fun q5 => ?_)
  refine go_iald k191_15 hg q5 (fun r4 => ?_)
  refine go_cmlt k191_16 h2 r4 (fun c6 => ?_) (fun c7 => ?_)
  · refine go_iload k191_19 rfl ?_
    refine go_aload k191_20 rfl ?_
    refine go_iload k191_21 rfl ?_
    refine go_callP1 k191_22 rfl rfl rfl ⟨by decide, _, rfl, hK0⟩ ⟨Nat.zero_le _, Nat.zero_le _⟩ (by omega) (tfM_roomOf (by omega) hg hK0  h2) (fun y8 r9 => ?_)
    refine go_iadd k191_25 ?_
    refine go_istore k191_26 rfl (loc2 := [some (sR v0), some (sI (w32 (v1 + y8))), some (sI v2)]) rfl ?_
    refine go_iinc k191_27 rfl rfl 1 rfl (loc2 := [some (sR v0), some (sI (w32 (v1 + y8))), some (sI (w32 (v2 + 1)))]) rfl ?_
    refine go_goto k191_30 ?_
    exact HX9 (w32 (v1 + y8)) (inR_w32 _) (w32 (v2 + 1)) (inR_w32 _)
  · refine go_iload k191_33 rfl ?_
    exact go_iret k191_34 hg h1 ⟨Nat.zero_le _, Nat.zero_le _⟩ rfl
theorem tlM_allRoom_9 {Φ : ev_P} {d : Nat} (hd : 3 ≤ d) {g : gH} (hg : HR g) {v0 : Int} (hK0 : kd v0 = 7) : ∀ n : Nat, ∀ (v1 : Int) (h1 : InR v1) (v2 : Int) (h2 : InR v2), Go Φ pr_P fN 1 (lM_allRoom_9 g v0 n v1 v2) d pr_m191 9 [some (sR v0), some (sI v1), some (sI v2)] [] g 0 0 := by
  intro n
  induction n with
  | zero => intros; exact go_none
  | succ n ih => exact tbM_allRoom_9 hd hg hK0 ih
theorem tfM_allRoom {Φ : ev_P} {d : Nat} (hd : 3 ≤ d) {g : gH} (hg : HR g) {v0 : Int} (hK0 : kd v0 = 7) : Go Φ pr_P fN 1 (fM_allRoom g v0) d (pr_P 191) 0 (ev_loc (pr_P 191).1 [(sR v0)]) [] g 0 0 := by
  show Go Φ pr_P fN 1 (fM_allRoom g v0) d pr_m191 0 [some (sR v0), none, none] [] g 0 0
  unfold fM_allRoom
  refine go_aload k191_0 rfl ?_
  refine go_int k191_1 0 rfl ?_
  refine go_putI (bI := 8) k191_2 hg hK0 (by decide) rfl rfl (inR_b (Or.inl rfl)) (fun g1 e2 => ?_)
  refine go_int k191_5 0 rfl ?_
  refine go_istore k191_6 rfl (loc2 := [some (sR v0), some (sI 0), none]) rfl ?_
  refine go_int k191_7 0 rfl ?_
  refine go_istore k191_8 rfl (loc2 := [some (sR v0), some (sI 0), some (sI 0)]) rfl ?_
  exact tlM_allRoom_9 hd e2 hK0 fu 0 (inR_b (Or.inl rfl)) 0 (inR_b (Or.inl rfl))
