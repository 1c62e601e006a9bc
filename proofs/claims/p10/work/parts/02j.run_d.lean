/-! ===== the evaluator comes to what the functions tell (own work, by program: wip/p2/dec.py) ===== -/
theorem tfM_exit {Φ : ev_P} {d : Nat} (hd : 8 ≤ d) {g : gH} (hg : HR g) {v0 v1 v2 : Int} (hK0 : kd v0 = 7) (h1 : InR v1) (h2 : InR v2) : Go Φ pr_P fN 1 (fM_exit g v0 v1 v2) d (pr_P 159) 0 (ev_loc (pr_P 159).1 [(sR v0), (sI v1), (sI v2)]) [] g 0 0 := by
  show Go Φ pr_P fN 1 (fM_exit g v0 v1 v2) d (pr_P 159) 0 [some (sR v0), some (sI v1), some (sI v2)] [] g 0 0
  unfold fM_exit
  refine go_aload k159_0 rfl ?_
  refine go_iload k159_1 rfl ?_
  refine go_iload k159_2 rfl ?_
  refine go_callN3 k159_3 rfl rfl rfl ⟨by decide, _, rfl, hK0⟩ ⟨Nat.zero_le _, Nat.zero_le _⟩ (by omega) (tfM_noExit (by omega) hg hK0  h1 h2) (fun y1 g3 r2 e4 => ?_)
  refine go_ifeq k159_6 (inR_b r2) (fun c5 => ?_) (fun c6 => ?_)
  · refine go_aload k159_11 rfl ?_
    refine go_callN0 k159_12 rfl rfl rfl ⟨by decide, _, rfl, hK0⟩ ⟨Nat.zero_le _, Nat.zero_le _⟩ (by omega) (tfM_remembers (by omega) e4 hK0 ) (fun y7 g9 e10 => ?_)
    refine go_aload k159_15 rfl ?_
    refine go_iload k159_16 rfl ?_
    refine go_iload k159_17 rfl ?_
    refine go_callN1 k159_18 rfl rfl rfl ⟨by decide, _, rfl, hK0⟩ ⟨Nat.zero_le _, Nat.zero_le _⟩ (by omega) (tfM_exits (by omega) e10 hK0  h1 h2) (fun y11 g13 r12 e14 => ?_)
    exact go_iret k159_21 e14 r12 ⟨Nat.zero_le _, Nat.zero_le _⟩ rfl
  · refine go_int k159_9 0 rfl ?_
    exact go_iret k159_10 e4 (inR_b (Or.inl rfl)) ⟨Nat.zero_le _, Nat.zero_le _⟩ rfl
theorem tbM_kills_128 {Φ : ev_P} {d : Nat} (hd : 8 ≤ d) {v0 v4 : Int} (hK0 : kd v0 = 7) (h4 : InR v4) {X128 : Int → gH → Option (Int × gH)} (HX128 : ∀ (v5 : Int) (h5 : InR v5) (g : gH) (hg : HR g) (u1 : Option ev_V) (w1 : nwo u1) (u2 : Option ev_V) (w2 : nwo u2) (u3 : Option ev_V) (w3 : nwo u3) (u6 : Option ev_V) (w6 : nwo u6), Go Φ pr_P fN 1 (X128 v5 g) d (pr_P 104) 128 [some (sR v0), u1, u2, u3, some (sI v4), some (sI v5), u6] [] g 0 0) : ∀ (v5 : Int) (h5 : InR v5) (g : gH) (hg : HR g) (u1 : Option ev_V) (w1 : nwo u1) (u2 : Option ev_V) (w2 : nwo u2) (u3 : Option ev_V) (w3 : nwo u3) (u6 : Option ev_V) (w6 : nwo u6), Go Φ pr_P fN 1 (bM_kills_128 v0 v4 X128 v5 g) d (pr_P 104) 128 [some (sR v0), u1, u2, u3, some (sI v4), some (sI v5), u6] [] g 0 0 := by
  intro v5 h5 g hg u1 w1 u2 w2 u3 w3 u6 w6
  unfold bM_kills_128
  refine go_iload k104_128 rfl ?_
  refine go_int k104_130 40 rfl ?_
  refine go_cmlt k104_132 h5 (inR_of (by decide)) (fun c50 => ?_) (fun c51 => ?_)
  · refine go_aload k104_135 rfl ?_
    refine go_getR (bI := 5) k104_136 hg hK0 (by decide) rfl rfl (fun r52 => ?_)
    refine go_iload k104_139 rfl ?_
    refine go_int k104_141 0 rfl ?_
    refine go_ck (fun q53 => ?_)
    refine go_zast k104_142 hg q53 (Or.inl rfl) (fun g54 e55 => ?_)
    refine go_iinc k104_143 rfl rfl 1 rfl (loc2 := [some (sR v0), u1, u2, u3, some (sI v4), some (sI (w32 (v5 + 1))), u6]) rfl ?_
    refine go_goto k104_146 ?_
    exact HX128 (w32 (v5 + 1)) (inR_w32 _) g54 e55 u1 w1 u2 w2 u3 w3 u6 w6
  · refine go_iload k104_149 rfl ?_
    exact go_iret k104_151 hg h4 ⟨Nat.zero_le _, Nat.zero_le _⟩ rfl
theorem tlM_kills_128 {Φ : ev_P} {d : Nat} (hd : 8 ≤ d) {v0 v4 : Int} (hK0 : kd v0 = 7) (h4 : InR v4) : ∀ n : Nat, ∀ (v5 : Int) (h5 : InR v5) (g : gH) (hg : HR g) (u1 : Option ev_V) (w1 : nwo u1) (u2 : Option ev_V) (w2 : nwo u2) (u3 : Option ev_V) (w3 : nwo u3) (u6 : Option ev_V) (w6 : nwo u6), Go Φ pr_P fN 1 (lM_kills_128 v0 v4 n v5 g) d (pr_P 104) 128 [some (sR v0), u1, u2, u3, some (sI v4), some (sI v5), u6] [] g 0 0 := by
  intro n
  induction n with
  | zero => intros; exact go_none
  | succ n ih => exact tbM_kills_128 hd hK0 h4 ih
theorem tbM_kills_76 {Φ : ev_P} {d : Nat} (hd : 8 ≤ d) {v0 v2 v3 : Int} (hK0 : kd v0 = 7) (h2 : InR v2) (h3 : InR v3) {X76 : Int → Int → gH → Option (Int × gH)} (HX76 : ∀ (v4 : Int) (h4 : InR v4) (v5 : Int) (h5 : InR v5) (g : gH) (hg : HR g) (u1 : Option ev_V) (w1 : nwo u1) (u6 : Option ev_V) (w6 : nwo u6), Go Φ pr_P fN 1 (X76 v4 v5 g) d (pr_P 104) 76 [some (sR v0), u1, some (sI v2), some (sI v3), some (sI v4), some (sI v5), u6] [] g 0 0) : ∀ (v4 : Int) (h4 : InR v4) (v5 : Int) (h5 : InR v5) (g : gH) (hg : HR g) (u1 : Option ev_V) (w1 : nwo u1) (u6 : Option ev_V) (w6 : nwo u6), Go Φ pr_P fN 1 (bM_kills_76 v0 v2 v3 X76 v4 v5 g) d (pr_P 104) 76 [some (sR v0), u1, some (sI v2), some (sI v3), some (sI v4), some (sI v5), u6] [] g 0 0 := by
  intro v4 h4 v5 h5 g hg u1 w1 u6 w6
  unfold bM_kills_76
  refine go_iload k104_76 rfl ?_
  refine go_iload k104_78 rfl ?_
  refine go_cmlt k104_79 h5 h3 (fun c37 => ?_) (fun c38 => ?_)
  · refine go_aload k104_82 rfl ?_
    refine go_getR (bI := 5) k104_83 hg hK0 (by decide) rfl rfl (fun r39 => ?_)
    refine go_iload k104_86 rfl ?_
    refine go_ck (fun q41 => ?_)
    refine go_zald k104_88 hg q41 (fun r40 => ?_)
    refine go_ifeq k104_89 (inR_b r40) (fun c42 => ?_) (fun c43 => ?_)
    · refine go_goto k104_92 ?_
      refine go_iinc k104_119 rfl rfl 1 rfl (loc2 := [some (sR v0), u1, some (sI v2), some (sI v3), some (sI v4), some (sI (w32 (v5 + 1))), u6]) rfl ?_
      refine go_goto k104_122 ?_
      exact HX76 v4 h4 (w32 (v5 + 1)) (inR_w32 _) g hg u1 w1 u6 w6
    · refine go_aload k104_95 rfl ?_
      refine go_iload k104_96 rfl ?_
      refine go_iload k104_98 rfl ?_
      refine go_callN1 k104_99 rfl rfl rfl ⟨by decide, _, rfl, hK0⟩ ⟨Nat.zero_le _, Nat.zero_le _⟩ (by omega) (tfM_exits (by omega) hg hK0  h5 h2) (fun y44 g46 r45 e47 => ?_)
      refine go_istore k104_102 rfl (loc2 := [some (sR v0), u1, some (sI v2), some (sI v3), some (sI v4), some (sI v5), some (sI y44)]) rfl ?_
      refine go_iload k104_104 rfl ?_
      refine go_iload k104_106 rfl ?_
      refine go_iflt k104_108 r45 (fun c48 => ?_) (fun c49 => ?_)
      · refine go_int k104_111 0 rfl ?_
        refine go_goto k104_112 ?_
        refine go_iadd k104_116 ?_
        refine go_istore k104_117 rfl (loc2 := [some (sR v0), u1, some (sI v2), some (sI v3), some (sI (w32 (v4 + 0))), some (sI v5), some (sI y44)]) rfl ?_
        refine go_iinc k104_119 rfl rfl 1 rfl (loc2 := [some (sR v0), u1, some (sI v2), some (sI v3), some (sI (w32 (v4 + 0))), some (sI (w32 (v5 + 1))), some (sI y44)]) rfl ?_
        refine go_goto k104_122 ?_
        exact HX76 (w32 (v4 + 0)) (inR_w32 _) (w32 (v5 + 1)) (inR_w32 _) g46 e47 u1 w1 (some (sI y44)) rfl
      · refine go_int k104_115 1 rfl ?_
        refine go_iadd k104_116 ?_
        refine go_istore k104_117 rfl (loc2 := [some (sR v0), u1, some (sI v2), some (sI v3), some (sI (w32 (v4 + 1))), some (sI v5), some (sI y44)]) rfl ?_
        refine go_iinc k104_119 rfl rfl 1 rfl (loc2 := [some (sR v0), u1, some (sI v2), some (sI v3), some (sI (w32 (v4 + 1))), some (sI (w32 (v5 + 1))), some (sI y44)]) rfl ?_
        refine go_goto k104_122 ?_
        exact HX76 (w32 (v4 + 1)) (inR_w32 _) (w32 (v5 + 1)) (inR_w32 _) g46 e47 u1 w1 (some (sI y44)) rfl
  · refine go_int k104_125 0 rfl ?_
    refine go_istore k104_126 rfl (loc2 := [some (sR v0), u1, some (sI v2), some (sI v3), some (sI v4), some (sI 0), u6]) rfl ?_
    exact tlM_kills_128 hd hK0 h4 fu 0 (inR_b (Or.inl rfl)) g hg u1 w1 (some (sI v2)) rfl (some (sI v3)) rfl u6 w6
theorem tlM_kills_76 {Φ : ev_P} {d : Nat} (hd : 8 ≤ d) {v0 v2 v3 : Int} (hK0 : kd v0 = 7) (h2 : InR v2) (h3 : InR v3) : ∀ n : Nat, ∀ (v4 : Int) (h4 : InR v4) (v5 : Int) (h5 : InR v5) (g : gH) (hg : HR g) (u1 : Option ev_V) (w1 : nwo u1) (u6 : Option ev_V) (w6 : nwo u6), Go Φ pr_P fN 1 (lM_kills_76 v0 v2 v3 n v4 v5 g) d (pr_P 104) 76 [some (sR v0), u1, some (sI v2), some (sI v3), some (sI v4), some (sI v5), u6] [] g 0 0 := by
  intro n
  induction n with
  | zero => intros; exact go_none
  | succ n ih => exact tbM_kills_76 hd hK0 h2 h3 ih
theorem tbM_kills_13 {Φ : ev_P} {d : Nat} (hd : 8 ≤ d) {v0 v1 v2 v3 v4 : Int} (hK0 : kd v0 = 7) (h1 : InR v1) (h2 : InR v2) (h3 : InR v3) (h4 : B01 v4) {X13 : Int → gH → Option (Int × gH)} (HX13 : ∀ (v5 : Int) (h5 : InR v5) (g : gH) (hg : HR g) (u6 : Option ev_V) (w6 : nwo u6), Go Φ pr_P fN 1 (X13 v5 g) d (pr_P 104) 13 [some (sR v0), some (sI v1), some (sI v2), some (sI v3), some (sI v4), some (sI v5), u6] [] g 0 0) : ∀ (v5 : Int) (h5 : InR v5) (g : gH) (hg : HR g) (u6 : Option ev_V) (w6 : nwo u6), Go Φ pr_P fN 1 (bM_kills_13 v0 v1 v2 v3 v4 X13 v5 g) d (pr_P 104) 13 [some (sR v0), some (sI v1), some (sI v2), some (sI v3), some (sI v4), some (sI v5), u6] [] g 0 0 := by
  intro v5 h5 g hg u6 w6
  unfold bM_kills_13
  refine go_iload k104_13 rfl ?_
  refine go_int k104_15 40 rfl ?_
  refine go_cmlt k104_17 h5 (inR_of (by decide)) (fun c4 => ?_) (fun c5 => ?_)
  · refine go_aload k104_20 rfl ?_
    refine go_getR (bI := 5) k104_21 hg hK0 (by decide) rfl rfl (fun r6 => ?_)
    refine go_iload k104_24 rfl ?_
    refine go_iload k104_26 rfl ?_
    refine go_ifgt k104_28 h5 (fun c7 => ?_) (fun c8 => ?_)
    · refine go_iload k104_31 rfl ?_
      refine go_iload k104_33 rfl ?_
      refine go_cmlt k104_34 h5 h3 (fun c9 => ?_) (fun c10 => ?_)
      · refine go_aload k104_37 rfl ?_
        refine go_iload k104_38 rfl ?_
        refine go_callP3 k104_40 rfl rfl rfl ⟨by decide, _, rfl, hK0⟩ ⟨Nat.zero_le _, Nat.zero_le _⟩ (by omega) (tfM_runs (by omega) hg hK0  h5) (fun y11 r12 => ?_)
        refine go_ifeq k104_43 (inR_b r12) (fun c15 => ?_) (fun c16 => ?_)
        · refine go_int k104_65 0 rfl ?_
          refine go_ck (fun q17 => ?_)
          refine go_zast k104_66 hg q17 (Or.inl rfl) (fun g18 e19 => ?_)
          refine go_iinc k104_67 rfl rfl 1 rfl (loc2 := [some (sR v0), some (sI v1), some (sI v2), some (sI v3), some (sI v4), some (sI (w32 (v5 + 1))), u6]) rfl ?_
          refine go_goto k104_70 ?_
          exact HX13 (w32 (v5 + 1)) (inR_w32 _) g18 e19 u6 w6
        · refine go_aload k104_46 rfl ?_
          refine go_getR (bI := 0) k104_47 hg hK0 (by decide) rfl rfl (fun r20 => ?_)
          refine go_int k104_50 180 rfl ?_
          refine go_iload k104_53 rfl ?_
          refine go_iadd k104_55 ?_
          refine go_ck (fun q22 => ?_)
          refine go_iald k104_56 hg q22 (fun r21 => ?_)
          refine go_iload k104_57 rfl ?_
          refine go_cmeq k104_58 r21 h1 (fun c23 => ?_) (fun c24 => ?_)
          · refine go_int k104_61 1 rfl ?_
            refine go_goto k104_62 ?_
            refine go_ck (fun q25 => ?_)
            refine go_zast k104_66 hg q25 (Or.inr rfl) (fun g26 e27 => ?_)
            refine go_iinc k104_67 rfl rfl 1 rfl (loc2 := [some (sR v0), some (sI v1), some (sI v2), some (sI v3), some (sI v4), some (sI (w32 (v5 + 1))), u6]) rfl ?_
            refine go_goto k104_70 ?_
            exact HX13 (w32 (v5 + 1)) (inR_w32 _) g26 e27 u6 w6
          · refine go_int k104_65 0 rfl ?_
            refine go_ck (fun q28 => ?_)
            refine go_zast k104_66 hg q28 (Or.inl rfl) (fun g29 e30 => ?_)
            refine go_iinc k104_67 rfl rfl 1 rfl (loc2 := [some (sR v0), some (sI v1), some (sI v2), some (sI v3), some (sI v4), some (sI (w32 (v5 + 1))), u6]) rfl ?_
            refine go_goto k104_70 ?_
            exact HX13 (w32 (v5 + 1)) (inR_w32 _) g29 e30 u6 w6
      · refine go_int k104_65 0 rfl ?_
        refine go_ck (fun q31 => ?_)
        refine go_zast k104_66 hg q31 (Or.inl rfl) (fun g32 e33 => ?_)
        refine go_iinc k104_67 rfl rfl 1 rfl (loc2 := [some (sR v0), some (sI v1), some (sI v2), some (sI v3), some (sI v4), some (sI (w32 (v5 + 1))), u6]) rfl ?_
        refine go_goto k104_70 ?_
        exact HX13 (w32 (v5 + 1)) (inR_w32 _) g32 e33 u6 w6
    · refine go_int k104_65 0 rfl ?_
      refine go_ck (fun q34 => ?_)
      refine go_zast k104_66 hg q34 (Or.inl rfl) (fun g35 e36 => ?_)
      refine go_iinc k104_67 rfl rfl 1 rfl (loc2 := [some (sR v0), some (sI v1), some (sI v2), some (sI v3), some (sI v4), some (sI (w32 (v5 + 1))), u6]) rfl ?_
      refine go_goto k104_70 ?_
      exact HX13 (w32 (v5 + 1)) (inR_w32 _) g35 e36 u6 w6
  · refine go_int k104_73 1 rfl ?_
    refine go_istore k104_74 rfl (loc2 := [some (sR v0), some (sI v1), some (sI v2), some (sI v3), some (sI v4), some (sI 1), u6]) rfl ?_
    exact tlM_kills_76 hd hK0 h2 h3 fu v4 (inR_b h4) 1 (inR_b (Or.inr rfl)) g hg (some (sI v1)) rfl u6 w6
theorem tlM_kills_13 {Φ : ev_P} {d : Nat} (hd : 8 ≤ d) {v0 v1 v2 v3 v4 : Int} (hK0 : kd v0 = 7) (h1 : InR v1) (h2 : InR v2) (h3 : InR v3) (h4 : B01 v4) : ∀ n : Nat, ∀ (v5 : Int) (h5 : InR v5) (g : gH) (hg : HR g) (u6 : Option ev_V) (w6 : nwo u6), Go Φ pr_P fN 1 (lM_kills_13 v0 v1 v2 v3 v4 n v5 g) d (pr_P 104) 13 [some (sR v0), some (sI v1), some (sI v2), some (sI v3), some (sI v4), some (sI v5), u6] [] g 0 0 := by
  intro n
  induction n with
  | zero => intros; exact go_none
  | succ n ih => exact tbM_kills_13 hd hK0 h1 h2 h3 h4 ih
theorem tfM_kills {Φ : ev_P} {d : Nat} (hd : 8 ≤ d) {g : gH} (hg : HR g) {v0 v1 v2 : Int} (hK0 : kd v0 = 7) (h1 : InR v1) (h2 : InR v2) : Go Φ pr_P fN 1 (fM_kills g v0 v1 v2) d (pr_P 104) 0 (ev_loc (pr_P 104).1 [(sR v0), (sI v1), (sI v2)]) [] g 0 0 := by
  show Go Φ pr_P fN 1 (fM_kills g v0 v1 v2) d (pr_P 104) 0 [some (sR v0), some (sI v1), some (sI v2), none, none, none, none] [] g 0 0
  unfold fM_kills
  refine go_aload k104_0 rfl ?_
  refine go_getR (bI := 0) k104_1 hg hK0 (by decide) rfl rfl (fun r1 => ?_)
  refine go_int k104_4 0 rfl ?_
  refine go_ck (fun q3 => ?_)
  refine go_iald k104_5 hg q3 (fun r2 => ?_)
  refine go_istore k104_6 rfl (loc2 := [some (sR v0), some (sI v1), some (sI v2), some (sI (g (g v0 0) 0)), none, none, none]) rfl ?_
  refine go_int k104_7 0 rfl ?_
  refine go_istore k104_8 rfl (loc2 := [some (sR v0), some (sI v1), some (sI v2), some (sI (g (g v0 0) 0)), some (sI 0), none, none]) rfl ?_
  refine go_int k104_10 0 rfl ?_
  refine go_istore k104_11 rfl (loc2 := [some (sR v0), some (sI v1), some (sI v2), some (sI (g (g v0 0) 0)), some (sI 0), some (sI 0), none]) rfl ?_
  exact tlM_kills_13 hd hK0 h1 h2 r2 (Or.inl rfl) fu 0 (inR_b (Or.inl rfl)) g hg none rfl
theorem tfM_noKill {Φ : ev_P} {d : Nat} (hd : 2 ≤ d) {g : gH} (hg : HR g) {v0 v1 v2 : Int} (hK0 : kd v0 = 7) (h1 : InR v1) (h2 : InR v2) : Go Φ pr_P fN 3 (fM_noKill g v0 v1 v2) d (pr_P 160) 0 (ev_loc (pr_P 160).1 [(sR v0), (sI v1), (sI v2)]) [] g 0 0 := by
  show Go Φ pr_P fN 3 (fM_noKill g v0 v1 v2) d (pr_P 160) 0 [some (sR v0), some (sI v1), some (sI v2)] [] g 0 0
  unfold fM_noKill
  refine go_aload k160_0 rfl ?_
  refine go_int k160_1 0 rfl ?_
  refine go_putI (bI := 8) k160_2 hg hK0 (by decide) rfl rfl (inR_b (Or.inl rfl)) (fun g1 e2 => ?_)
  refine go_aload k160_5 rfl ?_
  refine go_iload k160_6 rfl ?_
  refine go_callP3 k160_7 rfl rfl rfl trivial ⟨Nat.zero_le _, Nat.zero_le _⟩ (by omega) (tfM_isSmall (by omega) e2  h1) (fun y3 r4 => ?_)
  refine go_ifeq k160_10 (inR_b r4) (fun c7 => ?_) (fun c8 => ?_)
  · refine go_int k160_24 1 rfl ?_
    refine go_goto k160_25 ?_
    refine go_int k160_29 1 rfl ?_
    refine go_callN3 k160_30 rfl rfl rfl ⟨by decide, _, rfl, hK0⟩ ⟨Nat.zero_le _, Nat.zero_le _⟩ (by omega) (tfM_fails (by omega) e2 hK0  (Or.inr rfl) (inR_b (Or.inr rfl))) (fun y9 g11 r10 e12 => ?_)
    exact go_bret k160_33 e12 r10 ⟨Nat.zero_le _, Nat.zero_le _⟩ rfl
  · refine go_iload k160_13 rfl ?_
    refine go_int k160_14 0 rfl ?_
    refine go_int k160_15 255 rfl ?_
    refine go_callP3 k160_18 rfl rfl rfl trivial ⟨Nat.zero_le _, Nat.zero_le _⟩ (by omega) (tfM_inRange (by omega) e2  h2 (inR_b (Or.inl rfl)) (inR_of (by decide))) (fun y13 r14 => ?_)
    refine go_ifeq k160_21 (inR_b r14) (fun c17 => ?_) (fun c18 => ?_)
    · refine go_int k160_24 1 rfl ?_
      refine go_goto k160_25 ?_
      refine go_int k160_29 1 rfl ?_
      refine go_callN3 k160_30 rfl rfl rfl ⟨by decide, _, rfl, hK0⟩ ⟨Nat.zero_le _, Nat.zero_le _⟩ (by omega) (tfM_fails (by omega) e2 hK0  (Or.inr rfl) (inR_b (Or.inr rfl))) (fun y19 g21 r20 e22 => ?_)
      exact go_bret k160_33 e22 r20 ⟨Nat.zero_le _, Nat.zero_le _⟩ rfl
    · refine go_int k160_28 0 rfl ?_
      refine go_int k160_29 1 rfl ?_
      refine go_callN3 k160_30 rfl rfl rfl ⟨by decide, _, rfl, hK0⟩ ⟨Nat.zero_le _, Nat.zero_le _⟩ (by omega) (tfM_fails (by omega) e2 hK0  (Or.inl rfl) (inR_b (Or.inr rfl))) (fun y23 g25 r24 e26 => ?_)
      exact go_bret k160_33 e26 r24 ⟨Nat.zero_le _, Nat.zero_le _⟩ rfl
theorem tfM_kill {Φ : ev_P} {d : Nat} (hd : 9 ≤ d) {g : gH} (hg : HR g) {v0 v1 v2 : Int} (hK0 : kd v0 = 7) (h1 : InR v1) (h2 : InR v2) : Go Φ pr_P fN 1 (fM_kill g v0 v1 v2) d (pr_P 161) 0 (ev_loc (pr_P 161).1 [(sR v0), (sI v1), (sI v2)]) [] g 0 0 := by
  show Go Φ pr_P fN 1 (fM_kill g v0 v1 v2) d (pr_P 161) 0 [some (sR v0), some (sI v1), some (sI v2)] [] g 0 0
  unfold fM_kill
  refine go_aload k161_0 rfl ?_
  refine go_iload k161_1 rfl ?_
  refine go_iload k161_2 rfl ?_
  refine go_callN3 k161_3 rfl rfl rfl ⟨by decide, _, rfl, hK0⟩ ⟨Nat.zero_le _, Nat.zero_le _⟩ (by omega) (tfM_noKill (by omega) hg hK0  h1 h2) (fun y1 g3 r2 e4 => ?_)
  refine go_ifeq k161_6 (inR_b r2) (fun c5 => ?_) (fun c6 => ?_)
  · refine go_aload k161_11 rfl ?_
    refine go_callN0 k161_12 rfl rfl rfl ⟨by decide, _, rfl, hK0⟩ ⟨Nat.zero_le _, Nat.zero_le _⟩ (by omega) (tfM_remembers (by omega) e4 hK0 ) (fun y7 g9 e10 => ?_)
    refine go_aload k161_15 rfl ?_
    refine go_iload k161_16 rfl ?_
    refine go_iload k161_17 rfl ?_
    refine go_callN1 k161_18 rfl rfl rfl ⟨by decide, _, rfl, hK0⟩ ⟨Nat.zero_le _, Nat.zero_le _⟩ (by omega) (tfM_kills (by omega) e10 hK0  h1 h2) (fun y11 g13 r12 e14 => ?_)
    exact go_iret k161_21 e14 r12 ⟨Nat.zero_le _, Nat.zero_le _⟩ rfl
  · refine go_int k161_9 0 rfl ?_
    exact go_iret k161_10 e4 (inR_b (Or.inl rfl)) ⟨Nat.zero_le _, Nat.zero_le _⟩ rfl
theorem tjM_notRunning_22 {Φ : ev_P} {d : Nat} (hd : 2 ≤ d) {g : gH} (hg : HR g) {v2 : Int} (h2 : InR v2) {s0 s1 : Int} (z0 : RfR s0) (z1 : B01 s1) (u0 : Option ev_V) (w0 : nwo u0) (u1 : Option ev_V) (w1 : nwo u1) : Go Φ pr_P fN 3 (jM_notRunning_22 g v2 s0 s1 ) d (pr_P 135) 22 [u0, u1, some (sI v2)] [(sI s1), (sR s0)] g 0 0 := by
  unfold jM_notRunning_22
  refine go_iload k135_22 rfl ?_
  refine go_ck (fun q13 => ?_)
  refine go_callN3 k135_23 rfl rfl rfl ⟨by decide, _, rfl, q13⟩ ⟨Nat.zero_le _, Nat.zero_le _⟩ (by omega) (tfM_fails (by omega) hg q13  z1 h2) (fun y14 g16 r15 e17 => ?_)
  refine go_ifeq k135_26 (inR_b r15) (fun c18 => ?_) (fun c19 => ?_)
  · refine go_int k135_33 0 rfl ?_
    exact go_bret k135_34 e17 (Or.inl rfl) ⟨Nat.zero_le _, Nat.zero_le _⟩ rfl
  · refine go_int k135_29 1 rfl ?_
    refine go_goto k135_30 ?_
    exact go_bret k135_34 e17 (Or.inr rfl) ⟨Nat.zero_le _, Nat.zero_le _⟩ rfl
theorem tfM_notRunning {Φ : ev_P} {d : Nat} (hd : 2 ≤ d) {g : gH} (hg : HR g) {v0 v1 v2 : Int} (hK0 : kd v0 = 7) (h1 : InR v1) (h2 : InR v2) : Go Φ pr_P fN 3 (fM_notRunning g v0 v1 v2) d (pr_P 135) 0 (ev_loc (pr_P 135).1 [(sR v0), (sI v1), (sI v2)]) [] g 0 0 := by
  show Go Φ pr_P fN 3 (fM_notRunning g v0 v1 v2) d (pr_P 135) 0 [some (sR v0), some (sI v1), some (sI v2)] [] g 0 0
  unfold fM_notRunning
  refine go_aload k135_0 rfl ?_
  refine go_iload k135_1 rfl ?_
  refine go_callN3 k135_2 rfl rfl rfl ⟨by decide, _, rfl, hK0⟩ ⟨Nat.zero_le _, Nat.zero_le _⟩ (by omega) (tfM_noProcess (by omega) hg hK0  h1) (fun y1 g3 r2 e4 => ?_)
  refine go_ifeq k135_5 (inR_b r2) (fun c5 => ?_) (fun c6 => ?_)
  · refine go_aload k135_8 rfl ?_
    refine go_aload k135_9 rfl ?_
    refine go_iload k135_10 rfl ?_
    refine go_callP3 k135_11 rfl rfl rfl ⟨by decide, _, rfl, hK0⟩ ⟨Nat.zero_le _, Nat.zero_le _⟩ (by omega) (tfM_runs (by omega) e4 hK0  h1) (fun y7 r8 => ?_)
    refine go_ifeq k135_14 (inR_b r8) (fun c11 => ?_) (fun c12 => ?_)
    · refine go_int k135_17 1 rfl ?_
      refine go_goto k135_18 ?_
      exact tjM_notRunning_22 hd e4 h2 (rfR_kd hK0 (by decide)) (Or.inr rfl) (some (sR v0)) rfl (some (sI v1)) rfl
    · refine go_int k135_21 0 rfl ?_
      exact tjM_notRunning_22 hd e4 h2 (rfR_kd hK0 (by decide)) (Or.inl rfl) (some (sR v0)) rfl (some (sI v1)) rfl
  · refine go_int k135_29 1 rfl ?_
    refine go_goto k135_30 ?_
    exact go_bret k135_34 e4 (Or.inr rfl) ⟨Nat.zero_le _, Nat.zero_le _⟩ rfl
theorem tjM_read_28 {Φ : ev_P} {d : Nat} (hd : 3 ≤ d) {g : gH} (hg : HR g) {v0 v2 : Int} (hK0 : kd v0 = 7) (h2 : InR v2) {s0 s1 : Int} (z0 : RfR s0) (z1 : B01 s1) (u1 : Option ev_V) (w1 : nwo u1) : Go Φ pr_P fN 1 (jM_read_28 g v0 v2 s0 s1 ) d (pr_P 162) 28 [some (sR v0), u1, some (sI v2)] [(sI s1), (sR s0)] g 0 0 := by
  unfold jM_read_28
  refine go_int k162_28 3 rfl ?_
  refine go_ck (fun q13 => ?_)
  refine go_callN3 k162_29 rfl rfl rfl ⟨by decide, _, rfl, q13⟩ ⟨Nat.zero_le _, Nat.zero_le _⟩ (by omega) (tfM_fails (by omega) hg q13  z1 (inR_of (by decide))) (fun y14 g16 r15 e17 => ?_)
  refine go_ifeq k162_32 (inR_b r15) (fun c18 => ?_) (fun c19 => ?_)
  · refine go_aload k162_37 rfl ?_
    refine go_callN0 k162_38 rfl rfl rfl ⟨by decide, _, rfl, hK0⟩ ⟨Nat.zero_le _, Nat.zero_le _⟩ (by omega) (tfM_remembers (by omega) e17 hK0 ) (fun y20 g22 e23 => ?_)
    refine go_aload k162_41 rfl ?_
    refine go_getR (bI := 0) k162_42 e23 hK0 (by decide) rfl rfl (fun r24 => ?_)
    refine go_int k162_45 140 rfl ?_
    refine go_iload k162_48 rfl ?_
    refine go_iadd k162_49 ?_
    refine go_int k162_50 2 rfl ?_
    refine go_ck (fun q25 => ?_)
    refine go_iast k162_51 e23 q25 (inR_of (by decide)) (fun g26 e27 => ?_)
    refine go_int k162_52 1000 rfl ?_
    refine go_iload k162_55 rfl ?_
    refine go_ibin k162_56 ?_
    refine go_aload k162_57 rfl ?_
    refine go_getR (bI := 0) k162_58 e27 hK0 (by decide) rfl rfl (fun r28 => ?_)
    refine go_int k162_61 300 rfl ?_
    refine go_iload k162_64 rfl ?_
    refine go_iadd k162_65 ?_
    refine go_ck (fun q30 => ?_)
    refine go_iald k162_66 e27 q30 (fun r29 => ?_)
    refine go_iadd k162_67 ?_
    exact go_iret k162_68 e27 (inR_w32 _) ⟨Nat.zero_le _, Nat.zero_le _⟩ rfl
  · refine go_int k162_35 0 rfl ?_
    exact go_iret k162_36 e17 (inR_b (Or.inl rfl)) ⟨Nat.zero_le _, Nat.zero_le _⟩ rfl
theorem tfM_read {Φ : ev_P} {d : Nat} (hd : 3 ≤ d) {g : gH} (hg : HR g) {v0 v1 : Int} (hK0 : kd v0 = 7) (h1 : InR v1) : Go Φ pr_P fN 1 (fM_read g v0 v1) d (pr_P 162) 0 (ev_loc (pr_P 162).1 [(sR v0), (sI v1)]) [] g 0 0 := by
  show Go Φ pr_P fN 1 (fM_read g v0 v1) d (pr_P 162) 0 [some (sR v0), some (sI v1), none] [] g 0 0
  unfold fM_read
  refine go_aload k162_0 rfl ?_
  refine go_iload k162_1 rfl ?_
  refine go_int k162_2 2 rfl ?_
  refine go_callN3 k162_3 rfl rfl rfl ⟨by decide, _, rfl, hK0⟩ ⟨Nat.zero_le _, Nat.zero_le _⟩ (by omega) (tfM_notRunning (by omega) hg hK0  h1 (inR_of (by decide))) (fun y1 g3 r2 e4 => ?_)
  refine go_ifeq k162_6 (inR_b r2) (fun c5 => ?_) (fun c6 => ?_)
  · refine go_aload k162_11 rfl ?_
    refine go_iload k162_12 rfl ?_
    refine go_callP1 k162_13 rfl rfl rfl ⟨by decide, _, rfl, hK0⟩ ⟨Nat.zero_le _, Nat.zero_le _⟩ (by omega) (tfM_firstZombie (by omega) e4 hK0  h1) (fun y7 r8 => ?_)
    refine go_istore k162_16 rfl (loc2 := [some (sR v0), some (sI v1), some (sI y7)]) rfl ?_
    refine go_aload k162_17 rfl ?_
    refine go_iload k162_18 rfl ?_
    refine go_int k162_19 (-1) rfl ?_
    refine go_cmeq k162_20 r8 (inR_of (by decide)) (fun c11 => ?_) (fun c12 => ?_)
    · refine go_int k162_23 1 rfl ?_
      refine go_goto k162_24 ?_
      exact tjM_read_28 hd e4 hK0 r8 (rfR_kd hK0 (by decide)) (Or.inr rfl) (some (sI v1)) rfl
    · refine go_int k162_27 0 rfl ?_
      exact tjM_read_28 hd e4 hK0 r8 (rfR_kd hK0 (by decide)) (Or.inl rfl) (some (sI v1)) rfl
  · refine go_int k162_9 0 rfl ?_
    exact go_iret k162_10 e4 (inR_b (Or.inl rfl)) ⟨Nat.zero_le _, Nat.zero_le _⟩ rfl
theorem tfM_readAll {Φ : ev_P} {d : Nat} (hd : 3 ≤ d) {g : gH} (hg : HR g) {v0 v1 : Int} (hK0 : kd v0 = 7) (h1 : InR v1) : Go Φ pr_P fN 1 (fM_readAll g v0 v1) d (pr_P 163) 0 (ev_loc (pr_P 163).1 [(sR v0), (sI v1)]) [] g 0 0 := by
  show Go Φ pr_P fN 1 (fM_readAll g v0 v1) d (pr_P 163) 0 [some (sR v0), some (sI v1)] [] g 0 0
  unfold fM_readAll
  refine go_aload k163_0 rfl ?_
  refine go_iload k163_1 rfl ?_
  refine go_int k163_2 2 rfl ?_
  refine go_callN3 k163_3 rfl rfl rfl ⟨by decide, _, rfl, hK0⟩ ⟨Nat.zero_le _, Nat.zero_le _⟩ (by omega) (tfM_notRunning (by omega) hg hK0  h1 (inR_of (by decide))) (fun y1 g3 r2 e4 => ?_)
  refine go_ifeq k163_6 (inR_b r2) (fun c5 => ?_) (fun c6 => ?_)
  · refine go_aload k163_11 rfl ?_
    refine go_callN0 k163_12 rfl rfl rfl ⟨by decide, _, rfl, hK0⟩ ⟨Nat.zero_le _, Nat.zero_le _⟩ (by omega) (tfM_remembers (by omega) e4 hK0 ) (fun y7 g9 e10 => ?_)
    refine go_aload k163_15 rfl ?_
    refine go_iload k163_16 rfl ?_
    refine go_callN1 k163_17 rfl rfl rfl ⟨by decide, _, rfl, hK0⟩ ⟨Nat.zero_le _, Nat.zero_le _⟩ (by omega) (tfM_readsAll (by omega) e10 hK0  h1) (fun y11 g13 r12 e14 => ?_)
    exact go_iret k163_20 e14 r12 ⟨Nat.zero_le _, Nat.zero_le _⟩ rfl
  · refine go_int k163_9 0 rfl ?_
    exact go_iret k163_10 e4 (inR_b (Or.inl rfl)) ⟨Nat.zero_le _, Nat.zero_le _⟩ rfl
theorem tbM_refuse_80 {Φ : ev_P} {d : Nat} (hd : 7 ≤ d) {v0 v1 v2 : Int} (hK0 : kd v0 = 7) (h1 : InR v1) (h2 : InR v2) {X80 : Int → Int → gH → Option (Int × gH)} (HX80 : ∀ (v3 : Int) (h3 : InR v3) (v4 : Int) (h4 : InR v4) (g : gH) (hg : HR g), Go Φ pr_P fN 1 (X80 v3 v4 g) d (pr_P 164) 80 [some (sR v0), some (sI v1), some (sI v2), some (sI v3), some (sI v4)] [] g 0 0) : ∀ (v3 : Int) (h3 : InR v3) (v4 : Int) (h4 : InR v4) (g : gH) (hg : HR g), Go Φ pr_P fN 1 (bM_refuse_80 v0 v1 v2 X80 v3 v4 g) d (pr_P 164) 80 [some (sR v0), some (sI v1), some (sI v2), some (sI v3), some (sI v4)] [] g 0 0 := by
  intro v3 h3 v4 h4 g hg
  unfold bM_refuse_80
  refine go_iload k164_80 rfl ?_
  refine go_aload k164_82 rfl ?_
  refine go_getR (bI := 0) k164_83 hg hK0 (by decide) rfl rfl (fun r45 => ?_)
  refine go_int k164_86 0 rfl ?_
  refine go_ck (fun q47 => ?_)
  refine go_iald k164_87 hg q47 (fun r46 => ?_)
  refine go_cmlt k164_88 h4 r46 (fun c48 => ?_) (fun c49 => ?_)
  · refine go_aload k164_91 rfl ?_
    refine go_iload k164_92 rfl ?_
    refine go_iload k164_94 rfl ?_
    refine go_int k164_95 0 rfl ?_
    refine go_callP3 k164_96 rfl rfl rfl ⟨by decide, _, rfl, hK0⟩ ⟨Nat.zero_le _, Nat.zero_le _⟩ (by omega) (tfM_isChild (by omega) hg hK0  h4 h1 (inR_b (Or.inl rfl))) (fun y50 r51 => ?_)
    refine go_ifeq k164_99 (inR_b r51) (fun c54 => ?_) (fun c55 => ?_)
    · refine go_iinc k164_136 rfl rfl 1 rfl (loc2 := [some (sR v0), some (sI v1), some (sI v2), some (sI v3), some (sI (w32 (v4 + 1)))]) rfl ?_
      refine go_goto k164_139 ?_
      exact HX80 v3 h3 (w32 (v4 + 1)) (inR_w32 _) g hg
    · refine go_aload k164_102 rfl ?_
      refine go_getR (bI := 0) k164_103 hg hK0 (by decide) rfl rfl (fun r56 => ?_)
      refine go_int k164_106 180 rfl ?_
      refine go_iload k164_109 rfl ?_
      refine go_iadd k164_111 ?_
      refine go_ck (fun q58 => ?_)
      refine go_iald k164_112 hg q58 (fun r57 => ?_)
      refine go_iload k164_113 rfl ?_
      refine go_cmeq k164_114 r57 h2 (fun c59 => ?_) (fun c60 => ?_)
      · refine go_aload k164_120 rfl ?_
        refine go_aload k164_121 rfl ?_
        refine go_iload k164_122 rfl ?_
        refine go_iload k164_124 rfl ?_
        refine go_callP1 k164_125 rfl rfl rfl ⟨by decide, _, rfl, hK0⟩ ⟨Nat.zero_le _, Nat.zero_le _⟩ (by omega) (tfM_adopterOf (by omega) hg hK0  h4 h1) (fun y61 r62 => ?_)
        refine go_iload k164_128 rfl ?_
        refine go_callN0 k164_130 rfl rfl rfl ⟨by decide, _, rfl, hK0⟩ ⟨Nat.zero_le _, Nat.zero_le _⟩ (by omega) (tfM_adopts (by omega) hg hK0  r62 h4) (fun y65 g67 e68 => ?_)
        refine go_iinc k164_133 rfl rfl 1 rfl (loc2 := [some (sR v0), some (sI v1), some (sI v2), some (sI (w32 (v3 + 1))), some (sI v4)]) rfl ?_
        refine go_iinc k164_136 rfl rfl 1 rfl (loc2 := [some (sR v0), some (sI v1), some (sI v2), some (sI (w32 (v3 + 1))), some (sI (w32 (v4 + 1)))]) rfl ?_
        refine go_goto k164_139 ?_
        exact HX80 (w32 (v3 + 1)) (inR_w32 _) (w32 (v4 + 1)) (inR_w32 _) g67 e68
      · refine go_goto k164_117 ?_
        refine go_iinc k164_136 rfl rfl 1 rfl (loc2 := [some (sR v0), some (sI v1), some (sI v2), some (sI v3), some (sI (w32 (v4 + 1)))]) rfl ?_
        refine go_goto k164_139 ?_
        exact HX80 v3 h3 (w32 (v4 + 1)) (inR_w32 _) g hg
  · refine go_iload k164_142 rfl ?_
    exact go_iret k164_143 hg h3 ⟨Nat.zero_le _, Nat.zero_le _⟩ rfl
theorem tlM_refuse_80 {Φ : ev_P} {d : Nat} (hd : 7 ≤ d) {v0 v1 v2 : Int} (hK0 : kd v0 = 7) (h1 : InR v1) (h2 : InR v2) : ∀ n : Nat, ∀ (v3 : Int) (h3 : InR v3) (v4 : Int) (h4 : InR v4) (g : gH) (hg : HR g), Go Φ pr_P fN 1 (lM_refuse_80 v0 v1 v2 n v3 v4 g) d (pr_P 164) 80 [some (sR v0), some (sI v1), some (sI v2), some (sI v3), some (sI v4)] [] g 0 0 := by
  intro n
  induction n with
  | zero => intros; exact go_none
  | succ n ih => exact tbM_refuse_80 hd hK0 h1 h2 ih
theorem tjM_refuse_46 {Φ : ev_P} {d : Nat} (hd : 7 ≤ d) {g : gH} (hg : HR g) {v0 v1 v2 : Int} (hK0 : kd v0 = 7) (h1 : InR v1) (h2 : InR v2) {s0 s1 : Int} (z0 : RfR s0) (z1 : B01 s1) (u3 : Option ev_V) (w3 : nwo u3) (u4 : Option ev_V) (w4 : nwo u4) : Go Φ pr_P fN 1 (jM_refuse_46 g v0 v1 v2 s0 s1 ) d (pr_P 164) 46 [some (sR v0), some (sI v1), some (sI v2), u3, u4] [(sI s1), (sR s0)] g 0 0 := by
  unfold jM_refuse_46
  refine go_int k164_46 3 rfl ?_
  refine go_ck (fun q28 => ?_)
  refine go_callN3 k164_47 rfl rfl rfl ⟨by decide, _, rfl, q28⟩ ⟨Nat.zero_le _, Nat.zero_le _⟩ (by omega) (tfM_fails (by omega) hg q28  z1 (inR_of (by decide))) (fun y29 g31 r30 e32 => ?_)
  refine go_ifeq k164_50 (inR_b r30) (fun c33 => ?_) (fun c34 => ?_)
  · refine go_aload k164_55 rfl ?_
    refine go_callN0 k164_56 rfl rfl rfl ⟨by decide, _, rfl, hK0⟩ ⟨Nat.zero_le _, Nat.zero_le _⟩ (by omega) (tfM_remembers (by omega) e32 hK0 ) (fun y35 g37 e38 => ?_)
    refine go_aload k164_59 rfl ?_
    refine go_getR (bI := 0) k164_60 e38 hK0 (by decide) rfl rfl (fun r39 => ?_)
    refine go_int k164_63 340 rfl ?_
    refine go_iload k164_66 rfl ?_
    refine go_iadd k164_67 ?_
    refine go_dup2 k164_68 ?_
    refine go_ck (fun q41 => ?_)
    refine go_iald k164_69 e38 q41 (fun r40 => ?_)
    refine go_int k164_70 1 rfl ?_
    refine go_iload k164_71 rfl ?_
    refine go_ibin k164_72 ?_
    refine go_ibin k164_73 ?_
    refine go_ck (fun q42 => ?_)
    refine go_iast k164_74 e38 q42 (inR_opI _ _ _) (fun g43 e44 => ?_)
    refine go_int k164_75 0 rfl ?_
    refine go_istore k164_76 rfl (loc2 := [some (sR v0), some (sI v1), some (sI v2), some (sI 0), u4]) rfl ?_
    refine go_int k164_77 1 rfl ?_
    refine go_istore k164_78 rfl (loc2 := [some (sR v0), some (sI v1), some (sI v2), some (sI 0), some (sI 1)]) rfl ?_
    exact tlM_refuse_80 hd hK0 h1 h2 fu 0 (inR_b (Or.inl rfl)) 1 (inR_b (Or.inr rfl)) g43 e44
  · refine go_int k164_53 0 rfl ?_
    exact go_iret k164_54 e32 (inR_b (Or.inl rfl)) ⟨Nat.zero_le _, Nat.zero_le _⟩ rfl
theorem tjM_refuse_41 {Φ : ev_P} {d : Nat} (hd : 7 ≤ d) {g : gH} (hg : HR g) {v0 v1 v2 : Int} (hK0 : kd v0 = 7) (h1 : InR v1) (h2 : InR v2) {s0 : Int} (z0 : RfR s0) (u3 : Option ev_V) (w3 : nwo u3) (u4 : Option ev_V) (w4 : nwo u4) : Go Φ pr_P fN 1 (jM_refuse_41 g v0 v1 v2 s0 ) d (pr_P 164) 41 [some (sR v0), some (sI v1), some (sI v2), u3, u4] [(sR s0)] g 0 0 := by
  unfold jM_refuse_41
  refine go_int k164_41 1 rfl ?_
  refine go_goto k164_42 ?_
  exact tjM_refuse_46 hd hg hK0 h1 h2 z0 (Or.inr rfl) u3 w3 u4 w4
theorem tjM_refuse_21 {Φ : ev_P} {d : Nat} (hd : 7 ≤ d) {g : gH} (hg : HR g) {v0 v1 v2 : Int} (hK0 : kd v0 = 7) (h1 : InR v1) (h2 : InR v2) {s0 s1 : Int} (z0 : RfR s0) (z1 : B01 s1) (u3 : Option ev_V) (w3 : nwo u3) (u4 : Option ev_V) (w4 : nwo u4) : Go Φ pr_P fN 1 (jM_refuse_21 g v0 v1 v2 s0 s1 ) d (pr_P 164) 21 [some (sR v0), some (sI v1), some (sI v2), u3, u4] [(sI s1), (sR s0)] g 0 0 := by
  unfold jM_refuse_21
  refine go_int k164_21 2 rfl ?_
  refine go_ck (fun q13 => ?_)
  refine go_callN3 k164_22 rfl rfl rfl ⟨by decide, _, rfl, q13⟩ ⟨Nat.zero_le _, Nat.zero_le _⟩ (by omega) (tfM_fails (by omega) hg q13  z1 (inR_of (by decide))) (fun y14 g16 r15 e17 => ?_)
  refine go_ifeq k164_25 (inR_b r15) (fun c18 => ?_) (fun c19 => ?_)
  · refine go_aload k164_28 rfl ?_
    refine go_iload k164_29 rfl ?_
    refine go_ifeq k164_30 h1 (fun c20 => ?_) (fun c21 => ?_)
    · exact tjM_refuse_41 hd e17 hK0 h1 h2 (rfR_kd hK0 (by decide)) u3 w3 u4 w4
    · refine go_aload k164_33 rfl ?_
      refine go_iload k164_34 rfl ?_
      refine go_callP3 k164_35 rfl rfl rfl ⟨by decide, _, rfl, hK0⟩ ⟨Nat.zero_le _, Nat.zero_le _⟩ (by omega) (tfM_runs (by omega) e17 hK0  h1) (fun y22 r23 => ?_)
      refine go_ifeq k164_38 (inR_b r23) (fun c26 => ?_) (fun c27 => ?_)
      · exact tjM_refuse_41 hd e17 hK0 h1 h2 (rfR_kd hK0 (by decide)) u3 w3 u4 w4
      · refine go_int k164_45 0 rfl ?_
        exact tjM_refuse_46 hd e17 hK0 h1 h2 (rfR_kd hK0 (by decide)) (Or.inl rfl) u3 w3 u4 w4
  · refine go_int k164_53 0 rfl ?_
    exact go_iret k164_54 e17 (inR_b (Or.inl rfl)) ⟨Nat.zero_le _, Nat.zero_le _⟩ rfl
theorem tfM_refuse {Φ : ev_P} {d : Nat} (hd : 7 ≤ d) {g : gH} (hg : HR g) {v0 v1 v2 : Int} (hK0 : kd v0 = 7) (h1 : InR v1) (h2 : InR v2) : Go Φ pr_P fN 1 (fM_refuse g v0 v1 v2) d (pr_P 164) 0 (ev_loc (pr_P 164).1 [(sR v0), (sI v1), (sI v2)]) [] g 0 0 := by
  show Go Φ pr_P fN 1 (fM_refuse g v0 v1 v2) d (pr_P 164) 0 [some (sR v0), some (sI v1), some (sI v2), none, none] [] g 0 0
  unfold fM_refuse
  refine go_aload k164_0 rfl ?_
  refine go_iload k164_1 rfl ?_
  refine go_callN3 k164_2 rfl rfl rfl ⟨by decide, _, rfl, hK0⟩ ⟨Nat.zero_le _, Nat.zero_le _⟩ (by omega) (tfM_noProcess (by omega) hg hK0  h1) (fun y1 g3 r2 e4 => ?_)
  refine go_ifeq k164_5 (inR_b r2) (fun c5 => ?_) (fun c6 => ?_)
  · refine go_aload k164_8 rfl ?_
    refine go_iload k164_9 rfl ?_
    refine go_callP3 k164_10 rfl rfl rfl trivial ⟨Nat.zero_le _, Nat.zero_le _⟩ (by omega) (tfM_isSmall (by omega) e4  h2) (fun y7 r8 => ?_)
    refine go_ifeq k164_13 (inR_b r8) (fun c11 => ?_) (fun c12 => ?_)
    · refine go_int k164_16 1 rfl ?_
      refine go_goto k164_17 ?_
      exact tjM_refuse_21 hd e4 hK0 h1 h2 (rfR_kd hK0 (by decide)) (Or.inr rfl) none rfl none rfl
    · refine go_int k164_20 0 rfl ?_
      exact tjM_refuse_21 hd e4 hK0 h1 h2 (rfR_kd hK0 (by decide)) (Or.inl rfl) none rfl none rfl
  · refine go_int k164_53 0 rfl ?_
    exact go_iret k164_54 e4 (inR_b (Or.inl rfl)) ⟨Nat.zero_le _, Nat.zero_le _⟩ rfl
theorem tjM_accept_42 {Φ : ev_P} {d : Nat} (hd : 2 ≤ d) {g : gH} (hg : HR g) {v0 v1 v2 : Int} (hK0 : kd v0 = 7) (h1 : InR v1) (h2 : InR v2) {s0 s1 : Int} (z0 : RfR s0) (z1 : B01 s1) (u3 : Option ev_V) (w3 : nwo u3) : Go Φ pr_P fN 3 (jM_accept_42 g v0 v1 v2 s0 s1 ) d (pr_P 165) 42 [some (sR v0), some (sI v1), some (sI v2), u3] [(sI s1), (sR s0)] g 0 0 := by
  unfold jM_accept_42
  refine go_int k165_42 3 rfl ?_
  refine go_ck (fun q26 => ?_)
  refine go_callN3 k165_43 rfl rfl rfl ⟨by decide, _, rfl, q26⟩ ⟨Nat.zero_le _, Nat.zero_le _⟩ (by omega) (tfM_fails (by omega) hg q26  z1 (inR_of (by decide))) (fun y27 g29 r28 e30 => ?_)
  refine go_ifeq k165_46 (inR_b r28) (fun c31 => ?_) (fun c32 => ?_)
  · refine go_aload k165_51 rfl ?_
    refine go_callN0 k165_52 rfl rfl rfl ⟨by decide, _, rfl, hK0⟩ ⟨Nat.zero_le _, Nat.zero_le _⟩ (by omega) (tfM_remembers (by omega) e30 hK0 ) (fun y33 g35 e36 => ?_)
    refine go_aload k165_55 rfl ?_
    refine go_iload k165_56 rfl ?_
    refine go_iload k165_57 rfl ?_
    refine go_callP3 k165_58 rfl rfl rfl ⟨by decide, _, rfl, hK0⟩ ⟨Nat.zero_le _, Nat.zero_le _⟩ (by omega) (tfM_refusesGroup (by omega) e36 hK0  h1 h2) (fun y37 r38 => ?_)
    refine go_istore k165_61 rfl (loc2 := [some (sR v0), some (sI v1), some (sI v2), some (sI y37)]) rfl ?_
    refine go_aload k165_62 rfl ?_
    refine go_getR (bI := 0) k165_63 e36 hK0 (by decide) rfl rfl (fun r41 => ?_)
    refine go_int k165_66 340 rfl ?_
    refine go_iload k165_69 rfl ?_
    refine go_iadd k165_70 ?_
    refine go_dup2 k165_71 ?_
    refine go_ck (fun q43 => ?_)
    refine go_iald k165_72 e36 q43 (fun r42 => ?_)
    refine go_int k165_73 1 rfl ?_
    refine go_iload k165_74 rfl ?_
    refine go_ibin k165_75 ?_
    refine go_int k165_76 (-1) rfl ?_
    refine go_ibin k165_77 ?_
    refine go_ibin k165_78 ?_
    refine go_ck (fun q44 => ?_)
    refine go_iast k165_79 e36 q44 (inR_opI _ _ _) (fun g45 e46 => ?_)
    refine go_iload k165_80 rfl ?_
    exact go_bret k165_81 e46 r38 ⟨Nat.zero_le _, Nat.zero_le _⟩ rfl
  · refine go_int k165_49 0 rfl ?_
    exact go_bret k165_50 e30 (Or.inl rfl) ⟨Nat.zero_le _, Nat.zero_le _⟩ rfl
theorem tjM_accept_21 {Φ : ev_P} {d : Nat} (hd : 2 ≤ d) {g : gH} (hg : HR g) {v0 v1 v2 : Int} (hK0 : kd v0 = 7) (h1 : InR v1) (h2 : InR v2) {s0 s1 : Int} (z0 : RfR s0) (z1 : B01 s1) (u3 : Option ev_V) (w3 : nwo u3) : Go Φ pr_P fN 3 (jM_accept_21 g v0 v1 v2 s0 s1 ) d (pr_P 165) 21 [some (sR v0), some (sI v1), some (sI v2), u3] [(sI s1), (sR s0)] g 0 0 := by
  unfold jM_accept_21
  refine go_int k165_21 2 rfl ?_
  refine go_ck (fun q13 => ?_)
  refine go_callN3 k165_22 rfl rfl rfl ⟨by decide, _, rfl, q13⟩ ⟨Nat.zero_le _, Nat.zero_le _⟩ (by omega) (tfM_fails (by omega) hg q13  z1 (inR_of (by decide))) (fun y14 g16 r15 e17 => ?_)
  refine go_ifeq k165_25 (inR_b r15) (fun c18 => ?_) (fun c19 => ?_)
  · refine go_aload k165_28 rfl ?_
    refine go_aload k165_29 rfl ?_
    refine go_iload k165_30 rfl ?_
    refine go_callP3 k165_31 rfl rfl rfl ⟨by decide, _, rfl, hK0⟩ ⟨Nat.zero_le _, Nat.zero_le _⟩ (by omega) (tfM_runs (by omega) e17 hK0  h1) (fun y20 r21 => ?_)
    refine go_ifeq k165_34 (inR_b r21) (fun c24 => ?_) (fun c25 => ?_)
    · refine go_int k165_37 1 rfl ?_
      refine go_goto k165_38 ?_
      exact tjM_accept_42 hd e17 hK0 h1 h2 (rfR_kd hK0 (by decide)) (Or.inr rfl) u3 w3
    · refine go_int k165_41 0 rfl ?_
      exact tjM_accept_42 hd e17 hK0 h1 h2 (rfR_kd hK0 (by decide)) (Or.inl rfl) u3 w3
  · refine go_int k165_49 0 rfl ?_
    exact go_bret k165_50 e17 (Or.inl rfl) ⟨Nat.zero_le _, Nat.zero_le _⟩ rfl
theorem tfM_accept {Φ : ev_P} {d : Nat} (hd : 2 ≤ d) {g : gH} (hg : HR g) {v0 v1 v2 : Int} (hK0 : kd v0 = 7) (h1 : InR v1) (h2 : InR v2) : Go Φ pr_P fN 3 (fM_accept g v0 v1 v2) d (pr_P 165) 0 (ev_loc (pr_P 165).1 [(sR v0), (sI v1), (sI v2)]) [] g 0 0 := by
  show Go Φ pr_P fN 3 (fM_accept g v0 v1 v2) d (pr_P 165) 0 [some (sR v0), some (sI v1), some (sI v2), none] [] g 0 0
  unfold fM_accept
  refine go_aload k165_0 rfl ?_
  refine go_iload k165_1 rfl ?_
  refine go_callN3 k165_2 rfl rfl rfl ⟨by decide, _, rfl, hK0⟩ ⟨Nat.zero_le _, Nat.zero_le _⟩ (by omega) (tfM_noProcess (by omega) hg hK0  h1) (fun y1 g3 r2 e4 => ?_)
  refine go_ifeq k165_5 (inR_b r2) (fun c5 => ?_) (fun c6 => ?_)
  · refine go_aload k165_8 rfl ?_
    refine go_iload k165_9 rfl ?_
    refine go_callP3 k165_10 rfl rfl rfl trivial ⟨Nat.zero_le _, Nat.zero_le _⟩ (by omega) (tfM_isSmall (by omega) e4  h2) (fun y7 r8 => ?_)
    refine go_ifeq k165_13 (inR_b r8) (fun c11 => ?_) (fun c12 => ?_)
    · refine go_int k165_16 1 rfl ?_
      refine go_goto k165_17 ?_
      exact tjM_accept_21 hd e4 hK0 h1 h2 (rfR_kd hK0 (by decide)) (Or.inr rfl) none rfl
    · refine go_int k165_20 0 rfl ?_
      exact tjM_accept_21 hd e4 hK0 h1 h2 (rfR_kd hK0 (by decide)) (Or.inl rfl) none rfl
  · refine go_int k165_49 0 rfl ?_
    exact go_bret k165_50 e4 (Or.inl rfl) ⟨Nat.zero_le _, Nat.zero_le _⟩ rfl
theorem tjM_move_84 {Φ : ev_P} {d : Nat} (hd : 3 ≤ d) {g : gH} (hg : HR g) {v0 v1 v2 : Int} (hK0 : kd v0 = 7) (h1 : InR v1) (h2 : InR v2) {s0 s1 : Int} (z0 : RfR s0) (z1 : B01 s1) (u3 : Option ev_V) (w3 : nwo u3) : Go Φ pr_P fN 1 (jM_move_84 g v0 v1 v2 s0 s1 ) d (pr_P 166) 84 [some (sR v0), some (sI v1), some (sI v2), u3] [(sI s1), (sR s0)] g 0 0 := by
  unfold jM_move_84
  refine go_int k166_84 2 rfl ?_
  refine go_ck (fun q50 => ?_)
  refine go_callN3 k166_85 rfl rfl rfl ⟨by decide, _, rfl, q50⟩ ⟨Nat.zero_le _, Nat.zero_le _⟩ (by omega) (tfM_fails (by omega) hg q50  z1 (inR_of (by decide))) (fun y51 g53 r52 e54 => ?_)
  refine go_ifeq k166_88 (inR_b r52) (fun c55 => ?_) (fun c56 => ?_)
  · refine go_aload k166_93 rfl ?_
    refine go_callN0 k166_94 rfl rfl rfl ⟨by decide, _, rfl, hK0⟩ ⟨Nat.zero_le _, Nat.zero_le _⟩ (by omega) (tfM_remembers (by omega) e54 hK0 ) (fun y57 g59 e60 => ?_)
    refine go_aload k166_97 rfl ?_
    refine go_getR (bI := 0) k166_98 e60 hK0 (by decide) rfl rfl (fun r61 => ?_)
    refine go_int k166_101 60 rfl ?_
    refine go_iload k166_103 rfl ?_
    refine go_iadd k166_104 ?_
    refine go_ck (fun q63 => ?_)
    refine go_iald k166_105 e60 q63 (fun r62 => ?_)
    refine go_istore k166_106 rfl (loc2 := [some (sR v0), some (sI v1), some (sI v2), some (sI (g59 (g59 v0 0) (w32 (60 + v1))))]) rfl ?_
    refine go_aload k166_107 rfl ?_
    refine go_getR (bI := 0) k166_108 e60 hK0 (by decide) rfl rfl (fun r64 => ?_)
    refine go_int k166_111 60 rfl ?_
    refine go_iload k166_113 rfl ?_
    refine go_iadd k166_114 ?_
    refine go_iload k166_115 rfl ?_
    refine go_ck (fun q65 => ?_)
    refine go_iast k166_116 e60 q65 h2 (fun g66 e67 => ?_)
    refine go_iload k166_117 rfl ?_
    exact go_iret k166_118 e67 r62 ⟨Nat.zero_le _, Nat.zero_le _⟩ rfl
  · refine go_int k166_91 0 rfl ?_
    exact go_iret k166_92 e54 (inR_b (Or.inl rfl)) ⟨Nat.zero_le _, Nat.zero_le _⟩ rfl
theorem tjM_move_79 {Φ : ev_P} {d : Nat} (hd : 3 ≤ d) {g : gH} (hg : HR g) {v0 v1 v2 : Int} (hK0 : kd v0 = 7) (h1 : InR v1) (h2 : InR v2) {s0 : Int} (z0 : RfR s0) (u3 : Option ev_V) (w3 : nwo u3) : Go Φ pr_P fN 1 (jM_move_79 g v0 v1 v2 s0 ) d (pr_P 166) 79 [some (sR v0), some (sI v1), some (sI v2), u3] [(sR s0)] g 0 0 := by
  unfold jM_move_79
  refine go_int k166_79 1 rfl ?_
  refine go_goto k166_80 ?_
  exact tjM_move_84 hd hg hK0 h1 h2 z0 (Or.inr rfl) u3 w3
theorem tfM_move {Φ : ev_P} {d : Nat} (hd : 3 ≤ d) {g : gH} (hg : HR g) {v0 v1 v2 : Int} (hK0 : kd v0 = 7) (h1 : InR v1) (h2 : InR v2) : Go Φ pr_P fN 1 (fM_move g v0 v1 v2) d (pr_P 166) 0 (ev_loc (pr_P 166).1 [(sR v0), (sI v1), (sI v2)]) [] g 0 0 := by
  show Go Φ pr_P fN 1 (fM_move g v0 v1 v2) d (pr_P 166) 0 [some (sR v0), some (sI v1), some (sI v2), none] [] g 0 0
  unfold fM_move
  refine go_aload k166_0 rfl ?_
  refine go_iload k166_1 rfl ?_
  refine go_callN3 k166_2 rfl rfl rfl ⟨by decide, _, rfl, hK0⟩ ⟨Nat.zero_le _, Nat.zero_le _⟩ (by omega) (tfM_noProcess (by omega) hg hK0  h1) (fun y1 g3 r2 e4 => ?_)
  refine go_ifeq k166_5 (inR_b r2) (fun c5 => ?_) (fun c6 => ?_)
  · refine go_aload k166_8 rfl ?_
    refine go_iload k166_9 rfl ?_
    refine go_callN3 k166_10 rfl rfl rfl ⟨by decide, _, rfl, hK0⟩ ⟨Nat.zero_le _, Nat.zero_le _⟩ (by omega) (tfM_noProcess (by omega) e4 hK0  h2) (fun y7 g9 r8 e10 => ?_)
    refine go_ifeq k166_13 (inR_b r8) (fun c11 => ?_) (fun c12 => ?_)
    · refine go_aload k166_18 rfl ?_
      refine go_iload k166_19 rfl ?_
      refine go_ifeq k166_20 h1 (fun c13 => ?_) (fun c14 => ?_)
      · exact tjM_move_79 hd e10 hK0 h1 h2 (rfR_kd hK0 (by decide)) none rfl
      · refine go_aload k166_23 rfl ?_
        refine go_iload k166_24 rfl ?_
        refine go_callP3 k166_25 rfl rfl rfl ⟨by decide, _, rfl, hK0⟩ ⟨Nat.zero_le _, Nat.zero_le _⟩ (by omega) (tfM_runs (by omega) e10 hK0  h1) (fun y15 r16 => ?_)
        refine go_ifeq k166_28 (inR_b r16) (fun c19 => ?_) (fun c20 => ?_)
        · exact tjM_move_79 hd e10 hK0 h1 h2 (rfR_kd hK0 (by decide)) none rfl
        · refine go_aload k166_31 rfl ?_
          refine go_iload k166_32 rfl ?_
          refine go_callP3 k166_33 rfl rfl rfl ⟨by decide, _, rfl, hK0⟩ ⟨Nat.zero_le _, Nat.zero_le _⟩ (by omega) (tfM_runs (by omega) e10 hK0  h2) (fun y21 r22 => ?_)
          refine go_ifeq k166_36 (inR_b r22) (fun c25 => ?_) (fun c26 => ?_)
          · exact tjM_move_79 hd e10 hK0 h1 h2 (rfR_kd hK0 (by decide)) none rfl
          · refine go_iload k166_39 rfl ?_
            refine go_iload k166_40 rfl ?_
            refine go_cmeq k166_41 h1 h2 (fun c27 => ?_) (fun c28 => ?_)
            · exact tjM_move_79 hd e10 hK0 h1 h2 (rfR_kd hK0 (by decide)) none rfl
            · refine go_aload k166_44 rfl ?_
              refine go_iload k166_45 rfl ?_
              refine go_iload k166_46 rfl ?_
              refine go_callP3 k166_47 rfl rfl rfl ⟨by decide, _, rfl, hK0⟩ ⟨Nat.zero_le _, Nat.zero_le _⟩ (by omega) (tfM_isOver (by omega) e10 hK0  h1 h2) (fun y29 r30 => ?_)
              refine go_ifeq k166_50 (inR_b r30) (fun c33 => ?_) (fun c34 => ?_)
              · refine go_aload k166_53 rfl ?_
                refine go_iload k166_54 rfl ?_
                refine go_callP1 k166_55 rfl rfl rfl ⟨by decide, _, rfl, hK0⟩ ⟨Nat.zero_le _, Nat.zero_le _⟩ (by omega) (tfM_roomOf (by omega) e10 hK0  h2) (fun y35 r36 => ?_)
                refine go_ifeq k166_58 r36 (fun c39 => ?_) (fun c40 => ?_)
                · exact tjM_move_79 hd e10 hK0 h1 h2 (rfR_kd hK0 (by decide)) none rfl
                · refine go_aload k166_61 rfl ?_
                  refine go_iload k166_62 rfl ?_
                  refine go_aload k166_63 rfl ?_
                  refine go_getR (bI := 0) k166_64 e10 hK0 (by decide) rfl rfl (fun r41 => ?_)
                  refine go_int k166_67 180 rfl ?_
                  refine go_iload k166_70 rfl ?_
                  refine go_iadd k166_71 ?_
                  refine go_ck (fun q43 => ?_)
                  refine go_iald k166_72 e10 q43 (fun r42 => ?_)
                  refine go_callP3 k166_73 rfl rfl rfl ⟨by decide, _, rfl, hK0⟩ ⟨Nat.zero_le _, Nat.zero_le _⟩ (by omega) (tfM_refusesGroup (by omega) e10 hK0  h2 r42) (fun y44 r45 => ?_)
                  refine go_ifeq k166_76 (inR_b r45) (fun c48 => ?_) (fun c49 => ?_)
                  · refine go_int k166_83 0 rfl ?_
                    exact tjM_move_84 hd e10 hK0 h1 h2 (rfR_kd hK0 (by decide)) (Or.inl rfl) none rfl
                  · exact tjM_move_79 hd e10 hK0 h1 h2 (rfR_kd hK0 (by decide)) none rfl
              · exact tjM_move_79 hd e10 hK0 h1 h2 (rfR_kd hK0 (by decide)) none rfl
    · refine go_int k166_16 0 rfl ?_
      exact go_iret k166_17 e10 (inR_b (Or.inl rfl)) ⟨Nat.zero_le _, Nat.zero_le _⟩ rfl
  · refine go_int k166_16 0 rfl ?_
    exact go_iret k166_17 e4 (inR_b (Or.inl rfl)) ⟨Nat.zero_le _, Nat.zero_le _⟩ rfl
theorem tjM_sets_42 {Φ : ev_P} {d : Nat} (hd : 2 ≤ d) {g : gH} (hg : HR g) {v0 v1 v2 v3 : Int} (hK0 : kd v0 = 7) (h1 : InR v1) (h2 : InR v2) (h3 : InR v3) {s0 s1 : Int} (z0 : RfR s0) (z1 : B01 s1) (u4 : Option ev_V) (w4 : nwo u4) : Go Φ pr_P fN 1 (jM_sets_42 g v0 v1 v2 v3 s0 s1 ) d (pr_P 167) 42 [some (sR v0), some (sI v1), some (sI v2), some (sI v3), u4] [(sI s1), (sR s0)] g 0 0 := by
  unfold jM_sets_42
  refine go_int k167_42 3 rfl ?_
  refine go_ck (fun q26 => ?_)
  refine go_callN3 k167_43 rfl rfl rfl ⟨by decide, _, rfl, q26⟩ ⟨Nat.zero_le _, Nat.zero_le _⟩ (by omega) (tfM_fails (by omega) hg q26  z1 (inR_of (by decide))) (fun y27 g29 r28 e30 => ?_)
  refine go_ifeq k167_46 (inR_b r28) (fun c31 => ?_) (fun c32 => ?_)
  · refine go_aload k167_51 rfl ?_
    refine go_callN0 k167_52 rfl rfl rfl ⟨by decide, _, rfl, hK0⟩ ⟨Nat.zero_le _, Nat.zero_le _⟩ (by omega) (tfM_remembers (by omega) e30 hK0 ) (fun y33 g35 e36 => ?_)
    refine go_aload k167_55 rfl ?_
    refine go_getR (bI := 0) k167_56 e36 hK0 (by decide) rfl rfl (fun r37 => ?_)
    refine go_iload k167_59 rfl ?_
    refine go_iload k167_60 rfl ?_
    refine go_iadd k167_61 ?_
    refine go_ck (fun q39 => ?_)
    refine go_iald k167_62 e36 q39 (fun r38 => ?_)
    refine go_istore k167_63 rfl (loc2 := [some (sR v0), some (sI v1), some (sI v2), some (sI v3), some (sI (g35 (g35 v0 0) (w32 (v1 + v2))))]) rfl ?_
    refine go_aload k167_65 rfl ?_
    refine go_getR (bI := 0) k167_66 e36 hK0 (by decide) rfl rfl (fun r40 => ?_)
    refine go_iload k167_69 rfl ?_
    refine go_iload k167_70 rfl ?_
    refine go_iadd k167_71 ?_
    refine go_iload k167_72 rfl ?_
    refine go_ck (fun q41 => ?_)
    refine go_iast k167_73 e36 q41 h3 (fun g42 e43 => ?_)
    refine go_iload k167_74 rfl ?_
    exact go_iret k167_76 e43 r38 ⟨Nat.zero_le _, Nat.zero_le _⟩ rfl
  · refine go_int k167_49 0 rfl ?_
    exact go_iret k167_50 e30 (inR_b (Or.inl rfl)) ⟨Nat.zero_le _, Nat.zero_le _⟩ rfl
theorem tjM_sets_21 {Φ : ev_P} {d : Nat} (hd : 2 ≤ d) {g : gH} (hg : HR g) {v0 v1 v2 v3 : Int} (hK0 : kd v0 = 7) (h1 : InR v1) (h2 : InR v2) (h3 : InR v3) {s0 s1 : Int} (z0 : RfR s0) (z1 : B01 s1) (u4 : Option ev_V) (w4 : nwo u4) : Go Φ pr_P fN 1 (jM_sets_21 g v0 v1 v2 v3 s0 s1 ) d (pr_P 167) 21 [some (sR v0), some (sI v1), some (sI v2), some (sI v3), u4] [(sI s1), (sR s0)] g 0 0 := by
  unfold jM_sets_21
  refine go_int k167_21 2 rfl ?_
  refine go_ck (fun q13 => ?_)
  refine go_callN3 k167_22 rfl rfl rfl ⟨by decide, _, rfl, q13⟩ ⟨Nat.zero_le _, Nat.zero_le _⟩ (by omega) (tfM_fails (by omega) hg q13  z1 (inR_of (by decide))) (fun y14 g16 r15 e17 => ?_)
  refine go_ifeq k167_25 (inR_b r15) (fun c18 => ?_) (fun c19 => ?_)
  · refine go_aload k167_28 rfl ?_
    refine go_aload k167_29 rfl ?_
    refine go_iload k167_30 rfl ?_
    refine go_callP3 k167_31 rfl rfl rfl ⟨by decide, _, rfl, hK0⟩ ⟨Nat.zero_le _, Nat.zero_le _⟩ (by omega) (tfM_runs (by omega) e17 hK0  h2) (fun y20 r21 => ?_)
    refine go_ifeq k167_34 (inR_b r21) (fun c24 => ?_) (fun c25 => ?_)
    · refine go_int k167_37 1 rfl ?_
      refine go_goto k167_38 ?_
      exact tjM_sets_42 hd e17 hK0 h1 h2 h3 (rfR_kd hK0 (by decide)) (Or.inr rfl) u4 w4
    · refine go_int k167_41 0 rfl ?_
      exact tjM_sets_42 hd e17 hK0 h1 h2 h3 (rfR_kd hK0 (by decide)) (Or.inl rfl) u4 w4
  · refine go_int k167_49 0 rfl ?_
    exact go_iret k167_50 e17 (inR_b (Or.inl rfl)) ⟨Nat.zero_le _, Nat.zero_le _⟩ rfl
theorem tfM_sets {Φ : ev_P} {d : Nat} (hd : 2 ≤ d) {g : gH} (hg : HR g) {v0 v1 v2 v3 : Int} (hK0 : kd v0 = 7) (h1 : InR v1) (h2 : InR v2) (h3 : InR v3) : Go Φ pr_P fN 1 (fM_sets g v0 v1 v2 v3) d (pr_P 167) 0 (ev_loc (pr_P 167).1 [(sR v0), (sI v1), (sI v2), (sI v3)]) [] g 0 0 := by
  show Go Φ pr_P fN 1 (fM_sets g v0 v1 v2 v3) d (pr_P 167) 0 [some (sR v0), some (sI v1), some (sI v2), some (sI v3), none] [] g 0 0
  unfold fM_sets
  refine go_aload k167_0 rfl ?_
  refine go_iload k167_1 rfl ?_
  refine go_callN3 k167_2 rfl rfl rfl ⟨by decide, _, rfl, hK0⟩ ⟨Nat.zero_le _, Nat.zero_le _⟩ (by omega) (tfM_noProcess (by omega) hg hK0  h2) (fun y1 g3 r2 e4 => ?_)
  refine go_ifeq k167_5 (inR_b r2) (fun c5 => ?_) (fun c6 => ?_)
  · refine go_aload k167_8 rfl ?_
    refine go_iload k167_9 rfl ?_
    refine go_callP3 k167_10 rfl rfl rfl trivial ⟨Nat.zero_le _, Nat.zero_le _⟩ (by omega) (tfM_isSmall (by omega) e4  h3) (fun y7 r8 => ?_)
    refine go_ifeq k167_13 (inR_b r8) (fun c11 => ?_) (fun c12 => ?_)
    · refine go_int k167_16 1 rfl ?_
      refine go_goto k167_17 ?_
      exact tjM_sets_21 hd e4 hK0 h1 h2 h3 (rfR_kd hK0 (by decide)) (Or.inr rfl) none rfl
    · refine go_int k167_20 0 rfl ?_
      exact tjM_sets_21 hd e4 hK0 h1 h2 h3 (rfR_kd hK0 (by decide)) (Or.inl rfl) none rfl
  · refine go_int k167_49 0 rfl ?_
    exact go_iret k167_50 e4 (inR_b (Or.inl rfl)) ⟨Nat.zero_le _, Nat.zero_le _⟩ rfl
theorem tfM_setCapacity {Φ : ev_P} {d : Nat} (hd : 3 ≤ d) {g : gH} (hg : HR g) {v0 v1 v2 : Int} (hK0 : kd v0 = 7) (h1 : InR v1) (h2 : InR v2) : Go Φ pr_P fN 1 (fM_setCapacity g v0 v1 v2) d (pr_P 168) 0 (ev_loc (pr_P 168).1 [(sR v0), (sI v1), (sI v2)]) [] g 0 0 := by
  show Go Φ pr_P fN 1 (fM_setCapacity g v0 v1 v2) d (pr_P 168) 0 [some (sR v0), some (sI v1), some (sI v2)] [] g 0 0
  unfold fM_setCapacity
  refine go_aload k168_0 rfl ?_
  refine go_int k168_1 100 rfl ?_
  refine go_iload k168_3 rfl ?_
  refine go_iload k168_4 rfl ?_
  refine go_callN1 k168_5 rfl rfl rfl ⟨by decide, _, rfl, hK0⟩ ⟨Nat.zero_le _, Nat.zero_le _⟩ (by omega) (tfM_sets (by omega) hg hK0  (inR_of (by decide)) h1 h2) (fun y1 g3 r2 e4 => ?_)
  exact go_iret k168_8 e4 r2 ⟨Nat.zero_le _, Nat.zero_le _⟩ rfl
theorem tfM_setBudget {Φ : ev_P} {d : Nat} (hd : 3 ≤ d) {g : gH} (hg : HR g) {v0 v1 v2 : Int} (hK0 : kd v0 = 7) (h1 : InR v1) (h2 : InR v2) : Go Φ pr_P fN 1 (fM_setBudget g v0 v1 v2) d (pr_P 169) 0 (ev_loc (pr_P 169).1 [(sR v0), (sI v1), (sI v2)]) [] g 0 0 := by
  show Go Φ pr_P fN 1 (fM_setBudget g v0 v1 v2) d (pr_P 169) 0 [some (sR v0), some (sI v1), some (sI v2)] [] g 0 0
  unfold fM_setBudget
  refine go_aload k169_0 rfl ?_
  refine go_int k169_1 220 rfl ?_
  refine go_iload k169_4 rfl ?_
  refine go_iload k169_5 rfl ?_
  refine go_callN1 k169_6 rfl rfl rfl ⟨by decide, _, rfl, hK0⟩ ⟨Nat.zero_le _, Nat.zero_le _⟩ (by omega) (tfM_sets (by omega) hg hK0  (inR_of (by decide)) h1 h2) (fun y1 g3 r2 e4 => ?_)
  exact go_iret k169_9 e4 r2 ⟨Nat.zero_le _, Nat.zero_le _⟩ rfl
theorem tjM_setHeir_73 {Φ : ev_P} {d : Nat} (hd : 2 ≤ d) {g : gH} (hg : HR g) {v0 v1 v2 : Int} (hK0 : kd v0 = 7) (h1 : InR v1) (h2 : InR v2) {s0 s1 : Int} (z0 : RfR s0) (z1 : B01 s1) (u3 : Option ev_V) (w3 : nwo u3) : Go Φ pr_P fN 1 (jM_setHeir_73 g v0 v1 v2 s0 s1 ) d (pr_P 170) 73 [some (sR v0), some (sI v1), some (sI v2), u3] [(sI s1), (sR s0)] g 0 0 := by
  unfold jM_setHeir_73
  refine go_int k170_73 3 rfl ?_
  refine go_ck (fun q40 => ?_)
  refine go_callN3 k170_74 rfl rfl rfl ⟨by decide, _, rfl, q40⟩ ⟨Nat.zero_le _, Nat.zero_le _⟩ (by omega) (tfM_fails (by omega) hg q40  z1 (inR_of (by decide))) (fun y41 g43 r42 e44 => ?_)
  refine go_ifeq k170_77 (inR_b r42) (fun c45 => ?_) (fun c46 => ?_)
  · refine go_aload k170_82 rfl ?_
    refine go_callN0 k170_83 rfl rfl rfl ⟨by decide, _, rfl, hK0⟩ ⟨Nat.zero_le _, Nat.zero_le _⟩ (by omega) (tfM_remembers (by omega) e44 hK0 ) (fun y47 g49 e50 => ?_)
    refine go_aload k170_86 rfl ?_
    refine go_getR (bI := 0) k170_87 e50 hK0 (by decide) rfl rfl (fun r51 => ?_)
    refine go_int k170_90 260 rfl ?_
    refine go_iload k170_93 rfl ?_
    refine go_iadd k170_94 ?_
    refine go_ck (fun q53 => ?_)
    refine go_iald k170_95 e50 q53 (fun r52 => ?_)
    refine go_istore k170_96 rfl (loc2 := [some (sR v0), some (sI v1), some (sI v2), some (sI (g49 (g49 v0 0) (w32 (260 + v1))))]) rfl ?_
    refine go_aload k170_97 rfl ?_
    refine go_getR (bI := 0) k170_98 e50 hK0 (by decide) rfl rfl (fun r54 => ?_)
    refine go_int k170_101 260 rfl ?_
    refine go_iload k170_104 rfl ?_
    refine go_iadd k170_105 ?_
    refine go_iload k170_106 rfl ?_
    refine go_ck (fun q55 => ?_)
    refine go_iast k170_107 e50 q55 h2 (fun g56 e57 => ?_)
    refine go_iload k170_108 rfl ?_
    exact go_iret k170_109 e57 r52 ⟨Nat.zero_le _, Nat.zero_le _⟩ rfl
  · refine go_int k170_80 0 rfl ?_
    exact go_iret k170_81 e44 (inR_b (Or.inl rfl)) ⟨Nat.zero_le _, Nat.zero_le _⟩ rfl
theorem tjM_setHeir_68 {Φ : ev_P} {d : Nat} (hd : 2 ≤ d) {g : gH} (hg : HR g) {v0 v1 v2 : Int} (hK0 : kd v0 = 7) (h1 : InR v1) (h2 : InR v2) {s0 : Int} (z0 : RfR s0) (u3 : Option ev_V) (w3 : nwo u3) : Go Φ pr_P fN 1 (jM_setHeir_68 g v0 v1 v2 s0 ) d (pr_P 170) 68 [some (sR v0), some (sI v1), some (sI v2), u3] [(sR s0)] g 0 0 := by
  unfold jM_setHeir_68
  refine go_int k170_68 1 rfl ?_
  refine go_goto k170_69 ?_
  exact tjM_setHeir_73 hd hg hK0 h1 h2 z0 (Or.inr rfl) u3 w3
theorem tjM_setHeir_48 {Φ : ev_P} {d : Nat} (hd : 2 ≤ d) {g : gH} (hg : HR g) {v0 v1 v2 : Int} (hK0 : kd v0 = 7) (h1 : InR v1) (h2 : InR v2) {s0 s1 : Int} (z0 : RfR s0) (z1 : B01 s1) (u3 : Option ev_V) (w3 : nwo u3) : Go Φ pr_P fN 1 (jM_setHeir_48 g v0 v1 v2 s0 s1 ) d (pr_P 170) 48 [some (sR v0), some (sI v1), some (sI v2), u3] [(sI s1), (sR s0)] g 0 0 := by
  unfold jM_setHeir_48
  refine go_int k170_48 2 rfl ?_
  refine go_ck (fun q25 => ?_)
  refine go_callN3 k170_49 rfl rfl rfl ⟨by decide, _, rfl, q25⟩ ⟨Nat.zero_le _, Nat.zero_le _⟩ (by omega) (tfM_fails (by omega) hg q25  z1 (inR_of (by decide))) (fun y26 g28 r27 e29 => ?_)
  refine go_ifeq k170_52 (inR_b r27) (fun c30 => ?_) (fun c31 => ?_)
  · refine go_aload k170_55 rfl ?_
    refine go_iload k170_56 rfl ?_
    refine go_ifeq k170_57 h1 (fun c32 => ?_) (fun c33 => ?_)
    · exact tjM_setHeir_68 hd e29 hK0 h1 h2 (rfR_kd hK0 (by decide)) u3 w3
    · refine go_aload k170_60 rfl ?_
      refine go_iload k170_61 rfl ?_
      refine go_callP3 k170_62 rfl rfl rfl ⟨by decide, _, rfl, hK0⟩ ⟨Nat.zero_le _, Nat.zero_le _⟩ (by omega) (tfM_runs (by omega) e29 hK0  h1) (fun y34 r35 => ?_)
      refine go_ifeq k170_65 (inR_b r35) (fun c38 => ?_) (fun c39 => ?_)
      · exact tjM_setHeir_68 hd e29 hK0 h1 h2 (rfR_kd hK0 (by decide)) u3 w3
      · refine go_int k170_72 0 rfl ?_
        exact tjM_setHeir_73 hd e29 hK0 h1 h2 (rfR_kd hK0 (by decide)) (Or.inl rfl) u3 w3
  · refine go_int k170_80 0 rfl ?_
    exact go_iret k170_81 e29 (inR_b (Or.inl rfl)) ⟨Nat.zero_le _, Nat.zero_le _⟩ rfl
theorem tjM_setHeir_30 {Φ : ev_P} {d : Nat} (hd : 2 ≤ d) {g : gH} (hg : HR g) {v0 v1 v2 : Int} (hK0 : kd v0 = 7) (h1 : InR v1) (h2 : InR v2) {s0 s1 : Int} (z0 : RfR s0) (z1 : B01 s1) (u3 : Option ev_V) (w3 : nwo u3) : Go Φ pr_P fN 1 (jM_setHeir_30 g v0 v1 v2 s0 s1 ) d (pr_P 170) 30 [some (sR v0), some (sI v1), some (sI v2), u3] [(sI s1), (sR s0)] g 0 0 := by
  unfold jM_setHeir_30
  refine go_int k170_30 1 rfl ?_
  refine go_ck (fun q16 => ?_)
  refine go_callN3 k170_31 rfl rfl rfl ⟨by decide, _, rfl, q16⟩ ⟨Nat.zero_le _, Nat.zero_le _⟩ (by omega) (tfM_fails (by omega) hg q16  z1 (inR_b (Or.inr rfl))) (fun y17 g19 r18 e20 => ?_)
  refine go_ifeq k170_34 (inR_b r18) (fun c21 => ?_) (fun c22 => ?_)
  · refine go_aload k170_37 rfl ?_
    refine go_iload k170_38 rfl ?_
    refine go_iload k170_39 rfl ?_
    refine go_cmeq k170_40 h1 h2 (fun c23 => ?_) (fun c24 => ?_)
    · refine go_int k170_43 1 rfl ?_
      refine go_goto k170_44 ?_
      exact tjM_setHeir_48 hd e20 hK0 h1 h2 (rfR_kd hK0 (by decide)) (Or.inr rfl) u3 w3
    · refine go_int k170_47 0 rfl ?_
      exact tjM_setHeir_48 hd e20 hK0 h1 h2 (rfR_kd hK0 (by decide)) (Or.inl rfl) u3 w3
  · refine go_int k170_80 0 rfl ?_
    exact go_iret k170_81 e20 (inR_b (Or.inl rfl)) ⟨Nat.zero_le _, Nat.zero_le _⟩ rfl
theorem tfM_setHeir {Φ : ev_P} {d : Nat} (hd : 2 ≤ d) {g : gH} (hg : HR g) {v0 v1 v2 : Int} (hK0 : kd v0 = 7) (h1 : InR v1) (h2 : InR v2) : Go Φ pr_P fN 1 (fM_setHeir g v0 v1 v2) d (pr_P 170) 0 (ev_loc (pr_P 170).1 [(sR v0), (sI v1), (sI v2)]) [] g 0 0 := by
  show Go Φ pr_P fN 1 (fM_setHeir g v0 v1 v2) d (pr_P 170) 0 [some (sR v0), some (sI v1), some (sI v2), none] [] g 0 0
  unfold fM_setHeir
  refine go_aload k170_0 rfl ?_
  refine go_iload k170_1 rfl ?_
  refine go_callN3 k170_2 rfl rfl rfl ⟨by decide, _, rfl, hK0⟩ ⟨Nat.zero_le _, Nat.zero_le _⟩ (by omega) (tfM_noProcess (by omega) hg hK0  h1) (fun y1 g3 r2 e4 => ?_)
  refine go_ifeq k170_5 (inR_b r2) (fun c5 => ?_) (fun c6 => ?_)
  · refine go_aload k170_8 rfl ?_
    refine go_iload k170_9 rfl ?_
    refine go_int k170_10 (-1) rfl ?_
    refine go_aload k170_11 rfl ?_
    refine go_getR (bI := 0) k170_12 e4 hK0 (by decide) rfl rfl (fun r7 => ?_)
    refine go_int k170_15 0 rfl ?_
    refine go_ck (fun q9 => ?_)
    refine go_iald k170_16 e4 q9 (fun r8 => ?_)
    refine go_int k170_17 1 rfl ?_
    refine go_isub k170_18 ?_
    refine go_callP3 k170_19 rfl rfl rfl trivial ⟨Nat.zero_le _, Nat.zero_le _⟩ (by omega) (tfM_inRange (by omega) e4  h2 (inR_of (by decide)) (inR_w32 _)) (fun y10 r11 => ?_)
    refine go_ifeq k170_22 (inR_b r11) (fun c14 => ?_) (fun c15 => ?_)
    · refine go_int k170_25 1 rfl ?_
      refine go_goto k170_26 ?_
      exact tjM_setHeir_30 hd e4 hK0 h1 h2 (rfR_kd hK0 (by decide)) (Or.inr rfl) none rfl
    · refine go_int k170_29 0 rfl ?_
      exact tjM_setHeir_30 hd e4 hK0 h1 h2 (rfR_kd hK0 (by decide)) (Or.inl rfl) none rfl
  · refine go_int k170_80 0 rfl ?_
    exact go_iret k170_81 e4 (inR_b (Or.inl rfl)) ⟨Nat.zero_le _, Nat.zero_le _⟩ rfl
theorem tjM_give_57 {Φ : ev_P} {d : Nat} (hd : 2 ≤ d) {g : gH} (hg : HR g) {v0 v1 v2 : Int} (hK0 : kd v0 = 7) (h1 : InR v1) (h2 : InR v2) {s0 s1 : Int} (z0 : RfR s0) (z1 : B01 s1) (u3 : Option ev_V) (w3 : nwo u3) : Go Φ pr_P fN 1 (jM_give_57 g v0 v1 v2 s0 s1 ) d (pr_P 171) 57 [some (sR v0), some (sI v1), some (sI v2), u3] [(sI s1), (sR s0)] g 0 0 := by
  unfold jM_give_57
  refine go_int k171_57 3 rfl ?_
  refine go_ck (fun q31 => ?_)
  refine go_callN3 k171_58 rfl rfl rfl ⟨by decide, _, rfl, q31⟩ ⟨Nat.zero_le _, Nat.zero_le _⟩ (by omega) (tfM_fails (by omega) hg q31  z1 (inR_of (by decide))) (fun y32 g34 r33 e35 => ?_)
  refine go_ifeq k171_61 (inR_b r33) (fun c36 => ?_) (fun c37 => ?_)
  · refine go_aload k171_66 rfl ?_
    refine go_callN0 k171_67 rfl rfl rfl ⟨by decide, _, rfl, hK0⟩ ⟨Nat.zero_le _, Nat.zero_le _⟩ (by omega) (tfM_remembers (by omega) e35 hK0 ) (fun y38 g40 e41 => ?_)
    refine go_aload k171_70 rfl ?_
    refine go_getR (bI := 0) k171_71 e41 hK0 (by decide) rfl rfl (fun r42 => ?_)
    refine go_int k171_74 11 rfl ?_
    refine go_iload k171_76 rfl ?_
    refine go_iadd k171_77 ?_
    refine go_ck (fun q44 => ?_)
    refine go_iald k171_78 e41 q44 (fun r43 => ?_)
    refine go_istore k171_79 rfl (loc2 := [some (sR v0), some (sI v1), some (sI v2), some (sI (g40 (g40 v0 0) (w32 (11 + v1))))]) rfl ?_
    refine go_aload k171_80 rfl ?_
    refine go_getR (bI := 0) k171_81 e41 hK0 (by decide) rfl rfl (fun r45 => ?_)
    refine go_int k171_84 11 rfl ?_
    refine go_iload k171_86 rfl ?_
    refine go_iadd k171_87 ?_
    refine go_iload k171_88 rfl ?_
    refine go_ck (fun q46 => ?_)
    refine go_iast k171_89 e41 q46 h2 (fun g47 e48 => ?_)
    refine go_iload k171_90 rfl ?_
    exact go_iret k171_91 e48 r43 ⟨Nat.zero_le _, Nat.zero_le _⟩ rfl
  · refine go_int k171_64 0 rfl ?_
    exact go_iret k171_65 e35 (inR_b (Or.inl rfl)) ⟨Nat.zero_le _, Nat.zero_le _⟩ rfl
theorem tjM_give_36 {Φ : ev_P} {d : Nat} (hd : 2 ≤ d) {g : gH} (hg : HR g) {v0 v1 v2 : Int} (hK0 : kd v0 = 7) (h1 : InR v1) (h2 : InR v2) {s0 s1 : Int} (z0 : RfR s0) (z1 : B01 s1) (u3 : Option ev_V) (w3 : nwo u3) : Go Φ pr_P fN 1 (jM_give_36 g v0 v1 v2 s0 s1 ) d (pr_P 171) 36 [some (sR v0), some (sI v1), some (sI v2), u3] [(sI s1), (sR s0)] g 0 0 := by
  unfold jM_give_36
  refine go_int k171_36 2 rfl ?_
  refine go_ck (fun q18 => ?_)
  refine go_callN3 k171_37 rfl rfl rfl ⟨by decide, _, rfl, q18⟩ ⟨Nat.zero_le _, Nat.zero_le _⟩ (by omega) (tfM_fails (by omega) hg q18  z1 (inR_of (by decide))) (fun y19 g21 r20 e22 => ?_)
  refine go_ifeq k171_40 (inR_b r20) (fun c23 => ?_) (fun c24 => ?_)
  · refine go_aload k171_43 rfl ?_
    refine go_aload k171_44 rfl ?_
    refine go_iload k171_45 rfl ?_
    refine go_callP3 k171_46 rfl rfl rfl ⟨by decide, _, rfl, hK0⟩ ⟨Nat.zero_le _, Nat.zero_le _⟩ (by omega) (tfM_runs (by omega) e22 hK0  h2) (fun y25 r26 => ?_)
    refine go_ifeq k171_49 (inR_b r26) (fun c29 => ?_) (fun c30 => ?_)
    · refine go_int k171_52 1 rfl ?_
      refine go_goto k171_53 ?_
      exact tjM_give_57 hd e22 hK0 h1 h2 (rfR_kd hK0 (by decide)) (Or.inr rfl) u3 w3
    · refine go_int k171_56 0 rfl ?_
      exact tjM_give_57 hd e22 hK0 h1 h2 (rfR_kd hK0 (by decide)) (Or.inl rfl) u3 w3
  · refine go_int k171_64 0 rfl ?_
    exact go_iret k171_65 e22 (inR_b (Or.inl rfl)) ⟨Nat.zero_le _, Nat.zero_le _⟩ rfl
theorem tfM_give {Φ : ev_P} {d : Nat} (hd : 2 ≤ d) {g : gH} (hg : HR g) {v0 v1 v2 : Int} (hK0 : kd v0 = 7) (h1 : InR v1) (h2 : InR v2) : Go Φ pr_P fN 1 (fM_give g v0 v1 v2) d (pr_P 171) 0 (ev_loc (pr_P 171).1 [(sR v0), (sI v1), (sI v2)]) [] g 0 0 := by
  show Go Φ pr_P fN 1 (fM_give g v0 v1 v2) d (pr_P 171) 0 [some (sR v0), some (sI v1), some (sI v2), none] [] g 0 0
  unfold fM_give
  refine go_aload k171_0 rfl ?_
  refine go_int k171_1 0 rfl ?_
  refine go_putI (bI := 8) k171_2 hg hK0 (by decide) rfl rfl (inR_b (Or.inl rfl)) (fun g1 e2 => ?_)
  refine go_aload k171_5 rfl ?_
  refine go_iload k171_6 rfl ?_
  refine go_int k171_7 1 rfl ?_
  refine go_callN3 k171_8 rfl rfl rfl ⟨by decide, _, rfl, hK0⟩ ⟨Nat.zero_le _, Nat.zero_le _⟩ (by omega) (tfM_noDuty (by omega) e2 hK0  h1 (inR_b (Or.inr rfl))) (fun y3 g5 r4 e6 => ?_)
  refine go_ifeq k171_11 (inR_b r4) (fun c7 => ?_) (fun c8 => ?_)
  · refine go_aload k171_14 rfl ?_
    refine go_iload k171_15 rfl ?_
    refine go_int k171_16 0 rfl ?_
    refine go_aload k171_17 rfl ?_
    refine go_getR (bI := 0) k171_18 e6 hK0 (by decide) rfl rfl (fun r9 => ?_)
    refine go_int k171_21 0 rfl ?_
    refine go_ck (fun q11 => ?_)
    refine go_iald k171_22 e6 q11 (fun r10 => ?_)
    refine go_int k171_23 1 rfl ?_
    refine go_isub k171_24 ?_
    refine go_callP3 k171_25 rfl rfl rfl trivial ⟨Nat.zero_le _, Nat.zero_le _⟩ (by omega) (tfM_inRange (by omega) e6  h2 (inR_b (Or.inl rfl)) (inR_w32 _)) (fun y12 r13 => ?_)
    refine go_ifeq k171_28 (inR_b r13) (fun c16 => ?_) (fun c17 => ?_)
    · refine go_int k171_31 1 rfl ?_
      refine go_goto k171_32 ?_
      exact tjM_give_36 hd e6 hK0 h1 h2 (rfR_kd hK0 (by decide)) (Or.inr rfl) none rfl
    · refine go_int k171_35 0 rfl ?_
      exact tjM_give_36 hd e6 hK0 h1 h2 (rfR_kd hK0 (by decide)) (Or.inl rfl) none rfl
  · refine go_int k171_64 0 rfl ?_
    exact go_iret k171_65 e6 (inR_b (Or.inl rfl)) ⟨Nat.zero_le _, Nat.zero_le _⟩ rfl
theorem tbM_lowestBelow_4 {Φ : ev_P} {d : Nat} (hd : 1 ≤ d) {g : gH} (hg : HR g) {v0 v1 : Int} (hK0 : kd v0 = 7) (h1 : InR v1) {X4 : Int → Int → Option Int} (HX4 : ∀ (v2 : Int) (h2 : InR v2) (v3 : Int) (h3 : InR v3), Go Φ pr_P (fP g) 1 (X4 v2 v3) d (pr_P 172) 4 [some (sR v0), some (sI v1), some (sI v2), some (sI v3)] [] g 0 0) : ∀ (v2 : Int) (h2 : InR v2) (v3 : Int) (h3 : InR v3), Go Φ pr_P (fP g) 1 (bM_lowestBelow_4 g v0 v1 X4 v2 v3) d (pr_P 172) 4 [some (sR v0), some (sI v1), some (sI v2), some (sI v3)] [] g 0 0 := by
  intro v2 h2 v3 h3
  unfold bM_lowestBelow_4
  refine go_iload k172_4 rfl ?_
  refine go_aload k172_5 rfl ?_
  refine go_getR (bI := 0) k172_6 hg hK0 (by decide) rfl rfl (fun r1 => ?_)
  refine go_int k172_9 0 rfl ?_
  refine go_ck (fun q3 => ?_)
  refine go_iald k172_10 hg q3 (fun r2 => ?_)
  refine go_cmlt k172_11 h3 r2 (fun c4 => ?_) (fun c5 => ?_)
  · refine go_aload k172_14 rfl ?_
    refine go_iload k172_15 rfl ?_
    refine go_callP3 k172_16 rfl rfl rfl ⟨by decide, _, rfl, hK0⟩ ⟨Nat.zero_le _, Nat.zero_le _⟩ (by omega) (tfM_runs (by omega) hg hK0  h3) (fun y6 r7 => ?_)
    refine go_ifeq k172_19 (inR_b r7) (fun c10 => ?_) (fun c11 => ?_)
    · refine go_iinc k172_51 rfl rfl 1 rfl (loc2 := [some (sR v0), some (sI v1), some (sI v2), some (sI (w32 (v3 + 1)))]) rfl ?_
      refine go_goto k172_54 ?_
      exact HX4 v2 h2 (w32 (v3 + 1)) (inR_w32 _)
    · refine go_aload k172_22 rfl ?_
      refine go_iload k172_23 rfl ?_
      refine go_iload k172_24 rfl ?_
      refine go_callP3 k172_25 rfl rfl rfl ⟨by decide, _, rfl, hK0⟩ ⟨Nat.zero_le _, Nat.zero_le _⟩ (by omega) (tfM_isOver (by omega) hg hK0  h1 h3) (fun y12 r13 => ?_)
      refine go_ifeq k172_28 (inR_b r13) (fun c16 => ?_) (fun c17 => ?_)
      · refine go_iinc k172_51 rfl rfl 1 rfl (loc2 := [some (sR v0), some (sI v1), some (sI v2), some (sI (w32 (v3 + 1)))]) rfl ?_
        refine go_goto k172_54 ?_
        exact HX4 v2 h2 (w32 (v3 + 1)) (inR_w32 _)
      · refine go_iload k172_31 rfl ?_
        refine go_int k172_32 (-1) rfl ?_
        refine go_cmeq k172_33 h2 (inR_of (by decide)) (fun c18 => ?_) (fun c19 => ?_)
        · refine go_iload k172_49 rfl ?_
          refine go_istore k172_50 rfl (loc2 := [some (sR v0), some (sI v1), some (sI v3), some (sI v3)]) rfl ?_
          refine go_iinc k172_51 rfl rfl 1 rfl (loc2 := [some (sR v0), some (sI v1), some (sI v3), some (sI (w32 (v3 + 1)))]) rfl ?_
          refine go_goto k172_54 ?_
          exact HX4 v3 h3 (w32 (v3 + 1)) (inR_w32 _)
        · refine go_aload k172_36 rfl ?_
          refine go_iload k172_37 rfl ?_
          refine go_callP1 k172_38 rfl rfl rfl ⟨by decide, _, rfl, hK0⟩ ⟨Nat.zero_le _, Nat.zero_le _⟩ (by omega) (tfM_deep (by omega) hg hK0  h3) (fun y20 r21 => ?_)
          refine go_aload k172_41 rfl ?_
          refine go_iload k172_42 rfl ?_
          refine go_callP1 k172_43 rfl rfl rfl ⟨by decide, _, rfl, hK0⟩ ⟨Nat.zero_le _, Nat.zero_le _⟩ (by omega) (tfM_deep (by omega) hg hK0  h2) (fun y24 r25 => ?_)
          refine go_cmlt k172_46 r21 r25 (fun c28 => ?_) (fun c29 => ?_)
          · refine go_iinc k172_51 rfl rfl 1 rfl (loc2 := [some (sR v0), some (sI v1), some (sI v2), some (sI (w32 (v3 + 1)))]) rfl ?_
            refine go_goto k172_54 ?_
            exact HX4 v2 h2 (w32 (v3 + 1)) (inR_w32 _)
          · refine go_iload k172_49 rfl ?_
            refine go_istore k172_50 rfl (loc2 := [some (sR v0), some (sI v1), some (sI v3), some (sI v3)]) rfl ?_
            refine go_iinc k172_51 rfl rfl 1 rfl (loc2 := [some (sR v0), some (sI v1), some (sI v3), some (sI (w32 (v3 + 1)))]) rfl ?_
            refine go_goto k172_54 ?_
            exact HX4 v3 h3 (w32 (v3 + 1)) (inR_w32 _)
  · refine go_iload k172_57 rfl ?_
    exact go_iret k172_58 hg h2 ⟨Nat.zero_le _, Nat.zero_le _⟩ rfl
theorem tlM_lowestBelow_4 {Φ : ev_P} {d : Nat} (hd : 1 ≤ d) {g : gH} (hg : HR g) {v0 v1 : Int} (hK0 : kd v0 = 7) (h1 : InR v1) : ∀ n : Nat, ∀ (v2 : Int) (h2 : InR v2) (v3 : Int) (h3 : InR v3), Go Φ pr_P (fP g) 1 (lM_lowestBelow_4 g v0 v1 n v2 v3) d (pr_P 172) 4 [some (sR v0), some (sI v1), some (sI v2), some (sI v3)] [] g 0 0 := by
  intro n
  induction n with
  | zero => intros; exact go_none
  | succ n ih => exact tbM_lowestBelow_4 hd hg hK0 h1 ih
theorem tfM_lowestBelow {Φ : ev_P} {d : Nat} (hd : 1 ≤ d) {g : gH} (hg : HR g) {v0 v1 : Int} (hK0 : kd v0 = 7) (h1 : InR v1) : Go Φ pr_P (fP g) 1 (fM_lowestBelow g v0 v1) d (pr_P 172) 0 (ev_loc (pr_P 172).1 [(sR v0), (sI v1)]) [] g 0 0 := by
  show Go Φ pr_P (fP g) 1 (fM_lowestBelow g v0 v1) d (pr_P 172) 0 [some (sR v0), some (sI v1), none, none] [] g 0 0
  unfold fM_lowestBelow
  refine go_int k172_0 (-1) rfl ?_
  refine go_istore k172_1 rfl (loc2 := [some (sR v0), some (sI v1), some (sI (-1)), none]) rfl ?_
  refine go_int k172_2 1 rfl ?_
  refine go_istore k172_3 rfl (loc2 := [some (sR v0), some (sI v1), some (sI (-1)), some (sI 1)]) rfl ?_
  exact tlM_lowestBelow_4 hd hg hK0 h1 fu (-1) (inR_of (by decide)) 1 (inR_b (Or.inr rfl))
theorem tbM_prune_68 {Φ : ev_P} {d : Nat} (hd : 8 ≤ d) {v0 v1 v2 : Int} (hK0 : kd v0 = 7) (h1 : InR v1) (h2 : InR v2) {X68 : Int → Int → gH → Option (Int × gH)} (HX68 : ∀ (v3 : Int) (h3 : InR v3) (v4 : Int) (h4 : InR v4) (g : gH) (hg : HR g) (u5 : Option ev_V) (w5 : nwo u5), Go Φ pr_P fN 1 (X68 v3 v4 g) d (pr_P 173) 68 [some (sR v0), some (sI v1), some (sI v2), some (sI v3), some (sI v4), u5] [] g 0 0) : ∀ (v3 : Int) (h3 : InR v3) (v4 : Int) (h4 : InR v4) (g : gH) (hg : HR g) (u5 : Option ev_V) (w5 : nwo u5), Go Φ pr_P fN 1 (bM_prune_68 v0 v1 v2 X68 v3 v4 g) d (pr_P 173) 68 [some (sR v0), some (sI v1), some (sI v2), some (sI v3), some (sI v4), u5] [] g 0 0 := by
  intro v3 h3 v4 h4 g hg u5 w5
  unfold bM_prune_68
  refine go_iload k173_68 rfl ?_
  refine go_int k173_70 (-1) rfl ?_
  refine go_cmeq k173_71 h4 (inR_of (by decide)) (fun c41 => ?_) (fun c42 => ?_)
  · refine go_iload k173_106 rfl ?_
    exact go_iret k173_107 hg h3 ⟨Nat.zero_le _, Nat.zero_le _⟩ rfl
  · refine go_aload k173_74 rfl ?_
    refine go_iload k173_75 rfl ?_
    refine go_iload k173_77 rfl ?_
    refine go_callN1 k173_78 rfl rfl rfl ⟨by decide, _, rfl, hK0⟩ ⟨Nat.zero_le _, Nat.zero_le _⟩ (by omega) (tfM_exits (by omega) hg hK0  h4 h2) (fun y43 g45 r44 e46 => ?_)
    refine go_istore k173_81 rfl (loc2 := [some (sR v0), some (sI v1), some (sI v2), some (sI v3), some (sI v4), some (sI y43)]) rfl ?_
    refine go_iload k173_83 rfl ?_
    refine go_iload k173_84 rfl ?_
    refine go_iflt k173_86 r44 (fun c47 => ?_) (fun c48 => ?_)
    · refine go_int k173_89 0 rfl ?_
      refine go_goto k173_90 ?_
      refine go_iadd k173_94 ?_
      refine go_istore k173_95 rfl (loc2 := [some (sR v0), some (sI v1), some (sI v2), some (sI (w32 (v3 + 0))), some (sI v4), some (sI y43)]) rfl ?_
      refine go_aload k173_96 rfl ?_
      refine go_iload k173_97 rfl ?_
      refine go_callP1 k173_98 rfl rfl rfl ⟨by decide, _, rfl, hK0⟩ ⟨Nat.zero_le _, Nat.zero_le _⟩ (by omega) (tfM_lowestBelow (by omega) e46 hK0  h1) (fun y49 r50 => ?_)
      refine go_istore k173_101 rfl (loc2 := [some (sR v0), some (sI v1), some (sI v2), some (sI (w32 (v3 + 0))), some (sI y49), some (sI y43)]) rfl ?_
      refine go_goto k173_103 ?_
      exact HX68 (w32 (v3 + 0)) (inR_w32 _) y49 r50 g45 e46 (some (sI y43)) rfl
    · refine go_int k173_93 1 rfl ?_
      refine go_iadd k173_94 ?_
      refine go_istore k173_95 rfl (loc2 := [some (sR v0), some (sI v1), some (sI v2), some (sI (w32 (v3 + 1))), some (sI v4), some (sI y43)]) rfl ?_
      refine go_aload k173_96 rfl ?_
      refine go_iload k173_97 rfl ?_
      refine go_callP1 k173_98 rfl rfl rfl ⟨by decide, _, rfl, hK0⟩ ⟨Nat.zero_le _, Nat.zero_le _⟩ (by omega) (tfM_lowestBelow (by omega) e46 hK0  h1) (fun y53 r54 => ?_)
      refine go_istore k173_101 rfl (loc2 := [some (sR v0), some (sI v1), some (sI v2), some (sI (w32 (v3 + 1))), some (sI y53), some (sI y43)]) rfl ?_
      refine go_goto k173_103 ?_
      exact HX68 (w32 (v3 + 1)) (inR_w32 _) y53 r54 g45 e46 (some (sI y43)) rfl
theorem tlM_prune_68 {Φ : ev_P} {d : Nat} (hd : 8 ≤ d) {v0 v1 v2 : Int} (hK0 : kd v0 = 7) (h1 : InR v1) (h2 : InR v2) : ∀ n : Nat, ∀ (v3 : Int) (h3 : InR v3) (v4 : Int) (h4 : InR v4) (g : gH) (hg : HR g) (u5 : Option ev_V) (w5 : nwo u5), Go Φ pr_P fN 1 (lM_prune_68 v0 v1 v2 n v3 v4 g) d (pr_P 173) 68 [some (sR v0), some (sI v1), some (sI v2), some (sI v3), some (sI v4), u5] [] g 0 0 := by
  intro n
  induction n with
  | zero => intros; exact go_none
  | succ n ih => exact tbM_prune_68 hd hK0 h1 h2 ih
theorem tjM_prune_46 {Φ : ev_P} {d : Nat} (hd : 8 ≤ d) {g : gH} (hg : HR g) {v0 v1 v2 : Int} (hK0 : kd v0 = 7) (h1 : InR v1) (h2 : InR v2) {s0 s1 : Int} (z0 : RfR s0) (z1 : B01 s1) (u3 : Option ev_V) (w3 : nwo u3) (u4 : Option ev_V) (w4 : nwo u4) (u5 : Option ev_V) (w5 : nwo u5) : Go Φ pr_P fN 1 (jM_prune_46 g v0 v1 v2 s0 s1 ) d (pr_P 173) 46 [some (sR v0), some (sI v1), some (sI v2), u3, u4, u5] [(sI s1), (sR s0)] g 0 0 := by
  unfold jM_prune_46
  refine go_int k173_46 3 rfl ?_
  refine go_ck (fun q26 => ?_)
  refine go_callN3 k173_47 rfl rfl rfl ⟨by decide, _, rfl, q26⟩ ⟨Nat.zero_le _, Nat.zero_le _⟩ (by omega) (tfM_fails (by omega) hg q26  z1 (inR_of (by decide))) (fun y27 g29 r28 e30 => ?_)
  refine go_ifeq k173_50 (inR_b r28) (fun c31 => ?_) (fun c32 => ?_)
  · refine go_aload k173_55 rfl ?_
    refine go_callN0 k173_56 rfl rfl rfl ⟨by decide, _, rfl, hK0⟩ ⟨Nat.zero_le _, Nat.zero_le _⟩ (by omega) (tfM_remembers (by omega) e30 hK0 ) (fun y33 g35 e36 => ?_)
    refine go_int k173_59 0 rfl ?_
    refine go_istore k173_60 rfl (loc2 := [some (sR v0), some (sI v1), some (sI v2), some (sI 0), u4, u5]) rfl ?_
    refine go_aload k173_61 rfl ?_
    refine go_iload k173_62 rfl ?_
    refine go_callP1 k173_63 rfl rfl rfl ⟨by decide, _, rfl, hK0⟩ ⟨Nat.zero_le _, Nat.zero_le _⟩ (by omega) (tfM_lowestBelow (by omega) e36 hK0  h1) (fun y37 r38 => ?_)
    refine go_istore k173_66 rfl (loc2 := [some (sR v0), some (sI v1), some (sI v2), some (sI 0), some (sI y37), u5]) rfl ?_
    exact tlM_prune_68 hd hK0 h1 h2 fu 0 (inR_b (Or.inl rfl)) y37 r38 g35 e36 u5 w5
  · refine go_int k173_53 0 rfl ?_
    exact go_iret k173_54 e30 (inR_b (Or.inl rfl)) ⟨Nat.zero_le _, Nat.zero_le _⟩ rfl
theorem tjM_prune_25 {Φ : ev_P} {d : Nat} (hd : 8 ≤ d) {g : gH} (hg : HR g) {v0 v1 v2 : Int} (hK0 : kd v0 = 7) (h1 : InR v1) (h2 : InR v2) {s0 s1 : Int} (z0 : RfR s0) (z1 : B01 s1) (u3 : Option ev_V) (w3 : nwo u3) (u4 : Option ev_V) (w4 : nwo u4) (u5 : Option ev_V) (w5 : nwo u5) : Go Φ pr_P fN 1 (jM_prune_25 g v0 v1 v2 s0 s1 ) d (pr_P 173) 25 [some (sR v0), some (sI v1), some (sI v2), u3, u4, u5] [(sI s1), (sR s0)] g 0 0 := by
  unfold jM_prune_25
  refine go_int k173_25 2 rfl ?_
  refine go_ck (fun q13 => ?_)
  refine go_callN3 k173_26 rfl rfl rfl ⟨by decide, _, rfl, q13⟩ ⟨Nat.zero_le _, Nat.zero_le _⟩ (by omega) (tfM_fails (by omega) hg q13  z1 (inR_of (by decide))) (fun y14 g16 r15 e17 => ?_)
  refine go_ifeq k173_29 (inR_b r15) (fun c18 => ?_) (fun c19 => ?_)
  · refine go_aload k173_32 rfl ?_
    refine go_aload k173_33 rfl ?_
    refine go_iload k173_34 rfl ?_
    refine go_callP3 k173_35 rfl rfl rfl ⟨by decide, _, rfl, hK0⟩ ⟨Nat.zero_le _, Nat.zero_le _⟩ (by omega) (tfM_runs (by omega) e17 hK0  h1) (fun y20 r21 => ?_)
    refine go_ifeq k173_38 (inR_b r21) (fun c24 => ?_) (fun c25 => ?_)
    · refine go_int k173_41 1 rfl ?_
      refine go_goto k173_42 ?_
      exact tjM_prune_46 hd e17 hK0 h1 h2 (rfR_kd hK0 (by decide)) (Or.inr rfl) u3 w3 u4 w4 u5 w5
    · refine go_int k173_45 0 rfl ?_
      exact tjM_prune_46 hd e17 hK0 h1 h2 (rfR_kd hK0 (by decide)) (Or.inl rfl) u3 w3 u4 w4 u5 w5
  · refine go_int k173_53 0 rfl ?_
    exact go_iret k173_54 e17 (inR_b (Or.inl rfl)) ⟨Nat.zero_le _, Nat.zero_le _⟩ rfl
theorem tfM_prune {Φ : ev_P} {d : Nat} (hd : 8 ≤ d) {g : gH} (hg : HR g) {v0 v1 v2 : Int} (hK0 : kd v0 = 7) (h1 : InR v1) (h2 : InR v2) : Go Φ pr_P fN 1 (fM_prune g v0 v1 v2) d (pr_P 173) 0 (ev_loc (pr_P 173).1 [(sR v0), (sI v1), (sI v2)]) [] g 0 0 := by
  show Go Φ pr_P fN 1 (fM_prune g v0 v1 v2) d (pr_P 173) 0 [some (sR v0), some (sI v1), some (sI v2), none, none, none] [] g 0 0
  unfold fM_prune
  refine go_aload k173_0 rfl ?_
  refine go_iload k173_1 rfl ?_
  refine go_callN3 k173_2 rfl rfl rfl ⟨by decide, _, rfl, hK0⟩ ⟨Nat.zero_le _, Nat.zero_le _⟩ (by omega) (tfM_noProcess (by omega) hg hK0  h1) (fun y1 g3 r2 e4 => ?_)
  refine go_ifeq k173_5 (inR_b r2) (fun c5 => ?_) (fun c6 => ?_)
  · refine go_aload k173_8 rfl ?_
    refine go_iload k173_9 rfl ?_
    refine go_int k173_10 0 rfl ?_
    refine go_int k173_11 255 rfl ?_
    refine go_callP3 k173_14 rfl rfl rfl trivial ⟨Nat.zero_le _, Nat.zero_le _⟩ (by omega) (tfM_inRange (by omega) e4  h2 (inR_b (Or.inl rfl)) (inR_of (by decide))) (fun y7 r8 => ?_)
    refine go_ifeq k173_17 (inR_b r8) (fun c11 => ?_) (fun c12 => ?_)
    · refine go_int k173_20 1 rfl ?_
      refine go_goto k173_21 ?_
      exact tjM_prune_25 hd e4 hK0 h1 h2 (rfR_kd hK0 (by decide)) (Or.inr rfl) none rfl none rfl none rfl
    · refine go_int k173_24 0 rfl ?_
      exact tjM_prune_25 hd e4 hK0 h1 h2 (rfR_kd hK0 (by decide)) (Or.inl rfl) none rfl none rfl none rfl
  · refine go_int k173_53 0 rfl ?_
    exact go_iret k173_54 e4 (inR_b (Or.inl rfl)) ⟨Nat.zero_le _, Nat.zero_le _⟩ rfl
theorem tbM_exchange_169 {Φ : ev_P} {d : Nat} (hd : 2 ≤ d) {g : gH} (hg : HR g) {v0 : Int} (hK0 : kd v0 = 7) {X169 : Int → Int → Option (Int × gH)} (HX169 : ∀ (v4 : Int) (h4 : InR v4) (v5 : Int) (h5 : InR v5) (u1 : Option ev_V) (w1 : nwo u1) (u2 : Option ev_V) (w2 : nwo u2) (u3 : Option ev_V) (w3 : nwo u3), Go Φ pr_P fN 1 (X169 v4 v5) d (pr_P 174) 169 [some (sR v0), u1, u2, u3, some (sI v4), some (sI v5)] [] g 0 0) : ∀ (v4 : Int) (h4 : InR v4) (v5 : Int) (h5 : InR v5) (u1 : Option ev_V) (w1 : nwo u1) (u2 : Option ev_V) (w2 : nwo u2) (u3 : Option ev_V) (w3 : nwo u3), Go Φ pr_P fN 1 (bM_exchange_169 g v0 X169 v4 v5) d (pr_P 174) 169 [some (sR v0), u1, u2, u3, some (sI v4), some (sI v5)] [] g 0 0 := by
  intro v4 h4 v5 h5 u1 w1 u2 w2 u3 w3
  unfold bM_exchange_169
  refine go_iload k174_169 rfl ?_
  refine go_aload k174_171 rfl ?_
  refine go_getR (bI := 0) k174_172 hg hK0 (by decide) rfl rfl (fun r90 => ?_)
  refine go_int k174_175 0 rfl ?_
  refine go_ck (fun q92 => ?_)
  refine go_iald k174_176 hg q92 (fun r91 => ?_)
  refine go_cmlt k174_177 h5 r91 (fun c93 => ?_) (fun c94 => ?_)
  · refine go_iload k174_180 rfl ?_
    refine go_aload k174_182 rfl ?_
    refine go_iload k174_183 rfl ?_
    refine go_callP3 k174_185 rfl rfl rfl ⟨by decide, _, rfl, hK0⟩ ⟨Nat.zero_le _, Nat.zero_le _⟩ (by omega) (tfM_runs (by omega) hg hK0  h5) (fun y95 r96 => ?_)
    refine go_ifeq k174_188 (inR_b r96) (fun c99 => ?_) (fun c100 => ?_)
    · refine go_int k174_211 0 rfl ?_
      refine go_iadd k174_212 ?_
      refine go_istore k174_213 w3 (loc2 := [some (sR v0), u1, u2, u3, some (sI (w32 (v4 + 0))), some (sI v5)]) rfl ?_
      refine go_iinc k174_215 rfl rfl 1 rfl (loc2 := [some (sR v0), u1, u2, u3, some (sI (w32 (v4 + 0))), some (sI (w32 (v5 + 1)))]) rfl ?_
      refine go_goto k174_218 ?_
      exact HX169 (w32 (v4 + 0)) (inR_w32 _) (w32 (v5 + 1)) (inR_w32 _) u1 w1 u2 w2 u3 w3
    · refine go_aload k174_191 rfl ?_
      refine go_iload k174_192 rfl ?_
      refine go_callP1 k174_194 rfl rfl rfl ⟨by decide, _, rfl, hK0⟩ ⟨Nat.zero_le _, Nat.zero_le _⟩ (by omega) (tfM_deep (by omega) hg hK0  h5) (fun y101 r102 => ?_)
      refine go_aload k174_197 rfl ?_
      refine go_getR (bI := 21) k174_198 hg hK0 (by decide) rfl rfl (fun r105 => ?_)
      refine go_iload k174_201 rfl ?_
      refine go_ck (fun q107 => ?_)
      refine go_iald k174_203 hg q107 (fun r106 => ?_)
      refine go_cmeq k174_204 r102 r106 (fun c108 => ?_) (fun c109 => ?_)
      · refine go_int k174_211 0 rfl ?_
        refine go_iadd k174_212 ?_
        refine go_istore k174_213 w3 (loc2 := [some (sR v0), u1, u2, u3, some (sI (w32 (v4 + 0))), some (sI v5)]) rfl ?_
        refine go_iinc k174_215 rfl rfl 1 rfl (loc2 := [some (sR v0), u1, u2, u3, some (sI (w32 (v4 + 0))), some (sI (w32 (v5 + 1)))]) rfl ?_
        refine go_goto k174_218 ?_
        exact HX169 (w32 (v4 + 0)) (inR_w32 _) (w32 (v5 + 1)) (inR_w32 _) u1 w1 u2 w2 u3 w3
      · refine go_int k174_207 1 rfl ?_
        refine go_goto k174_208 ?_
        refine go_iadd k174_212 ?_
        refine go_istore k174_213 w3 (loc2 := [some (sR v0), u1, u2, u3, some (sI (w32 (v4 + 1))), some (sI v5)]) rfl ?_
        refine go_iinc k174_215 rfl rfl 1 rfl (loc2 := [some (sR v0), u1, u2, u3, some (sI (w32 (v4 + 1))), some (sI (w32 (v5 + 1)))]) rfl ?_
        refine go_goto k174_218 ?_
        exact HX169 (w32 (v4 + 1)) (inR_w32 _) (w32 (v5 + 1)) (inR_w32 _) u1 w1 u2 w2 u3 w3
  · refine go_iload k174_221 rfl ?_
    exact go_iret k174_223 hg h4 ⟨Nat.zero_le _, Nat.zero_le _⟩ rfl
theorem tlM_exchange_169 {Φ : ev_P} {d : Nat} (hd : 2 ≤ d) {g : gH} (hg : HR g) {v0 : Int} (hK0 : kd v0 = 7) : ∀ n : Nat, ∀ (v4 : Int) (h4 : InR v4) (v5 : Int) (h5 : InR v5) (u1 : Option ev_V) (w1 : nwo u1) (u2 : Option ev_V) (w2 : nwo u2) (u3 : Option ev_V) (w3 : nwo u3), Go Φ pr_P fN 1 (lM_exchange_169 g v0 n v4 v5) d (pr_P 174) 169 [some (sR v0), u1, u2, u3, some (sI v4), some (sI v5)] [] g 0 0 := by
  intro n
  induction n with
  | zero => intros; exact go_none
  | succ n ih => exact tbM_exchange_169 hd hg hK0 ih
theorem tjM_exchange_125 {Φ : ev_P} {d : Nat} (hd : 2 ≤ d) {g : gH} (hg : HR g) {v0 v1 v2 : Int} (hK0 : kd v0 = 7) (h1 : InR v1) (h2 : InR v2) (u3 : Option ev_V) (w3 : nwo u3) (u4 : Option ev_V) (w4 : nwo u4) (u5 : Option ev_V) (w5 : nwo u5) : Go Φ pr_P fN 1 (jM_exchange_125 g v0 v1 v2 ) d (pr_P 174) 125 [some (sR v0), some (sI v1), some (sI v2), u3, u4, u5] [] g 0 0 := by
  unfold jM_exchange_125
  refine go_aload k174_125 rfl ?_
  refine go_getR (bI := 0) k174_126 hg hK0 (by decide) rfl rfl (fun r76 => ?_)
  refine go_int k174_129 60 rfl ?_
  refine go_iload k174_131 rfl ?_
  refine go_iadd k174_132 ?_
  refine go_ck (fun q78 => ?_)
  refine go_iald k174_133 hg q78 (fun r77 => ?_)
  refine go_istore k174_134 rfl (loc2 := [some (sR v0), some (sI v1), some (sI v2), some (sI (g (g v0 0) (w32 (60 + v1)))), u4, u5]) rfl ?_
  refine go_aload k174_135 rfl ?_
  refine go_getR (bI := 0) k174_136 hg hK0 (by decide) rfl rfl (fun r79 => ?_)
  refine go_int k174_139 60 rfl ?_
  refine go_iload k174_141 rfl ?_
  refine go_iadd k174_142 ?_
  refine go_aload k174_143 rfl ?_
  refine go_getR (bI := 0) k174_144 hg hK0 (by decide) rfl rfl (fun r80 => ?_)
  refine go_int k174_147 60 rfl ?_
  refine go_iload k174_149 rfl ?_
  refine go_iadd k174_150 ?_
  refine go_ck (fun q82 => ?_)
  refine go_iald k174_151 hg q82 (fun r81 => ?_)
  refine go_ck (fun q83 => ?_)
  refine go_iast k174_152 hg q83 r81 (fun g84 e85 => ?_)
  refine go_aload k174_153 rfl ?_
  refine go_getR (bI := 0) k174_154 e85 hK0 (by decide) rfl rfl (fun r86 => ?_)
  refine go_int k174_157 60 rfl ?_
  refine go_iload k174_159 rfl ?_
  refine go_iadd k174_160 ?_
  refine go_iload k174_161 rfl ?_
  refine go_ck (fun q87 => ?_)
  refine go_iast k174_162 e85 q87 r77 (fun g88 e89 => ?_)
  refine go_int k174_163 0 rfl ?_
  refine go_istore k174_164 rfl (loc2 := [some (sR v0), some (sI v1), some (sI v2), some (sI (g (g v0 0) (w32 (60 + v1)))), some (sI 0), u5]) rfl ?_
  refine go_int k174_166 0 rfl ?_
  refine go_istore k174_167 rfl (loc2 := [some (sR v0), some (sI v1), some (sI v2), some (sI (g (g v0 0) (w32 (60 + v1)))), some (sI 0), some (sI 0)]) rfl ?_
  exact tlM_exchange_169 hd e89 hK0 fu 0 (inR_b (Or.inl rfl)) 0 (inR_b (Or.inl rfl)) (some (sI v1)) rfl (some (sI v2)) rfl (some (sI (g (g v0 0) (w32 (60 + v1))))) rfl
theorem tbM_exchange_86 {Φ : ev_P} {d : Nat} (hd : 2 ≤ d) {v0 v1 v2 : Int} (hK0 : kd v0 = 7) (h1 : InR v1) (h2 : InR v2) {X86 : Int → gH → Option (Int × gH)} (HX86 : ∀ (v3 : Int) (h3 : InR v3) (g : gH) (hg : HR g) (u4 : Option ev_V) (w4 : nwo u4) (u5 : Option ev_V) (w5 : nwo u5), Go Φ pr_P fN 1 (X86 v3 g) d (pr_P 174) 86 [some (sR v0), some (sI v1), some (sI v2), some (sI v3), u4, u5] [] g 0 0) : ∀ (v3 : Int) (h3 : InR v3) (g : gH) (hg : HR g) (u4 : Option ev_V) (w4 : nwo u4) (u5 : Option ev_V) (w5 : nwo u5), Go Φ pr_P fN 1 (bM_exchange_86 v0 v1 v2 X86 v3 g) d (pr_P 174) 86 [some (sR v0), some (sI v1), some (sI v2), some (sI v3), u4, u5] [] g 0 0 := by
  intro v3 h3 g hg u4 w4 u5 w5
  unfold bM_exchange_86
  refine go_iload k174_86 rfl ?_
  refine go_aload k174_87 rfl ?_
  refine go_getR (bI := 0) k174_88 hg hK0 (by decide) rfl rfl (fun r54 => ?_)
  refine go_int k174_91 0 rfl ?_
  refine go_ck (fun q56 => ?_)
  refine go_iald k174_92 hg q56 (fun r55 => ?_)
  refine go_cmlt k174_93 h3 r55 (fun c57 => ?_) (fun c58 => ?_)
  · refine go_aload k174_96 rfl ?_
    refine go_getR (bI := 21) k174_97 hg hK0 (by decide) rfl rfl (fun r59 => ?_)
    refine go_iload k174_100 rfl ?_
    refine go_aload k174_101 rfl ?_
    refine go_iload k174_102 rfl ?_
    refine go_callP3 k174_103 rfl rfl rfl ⟨by decide, _, rfl, hK0⟩ ⟨Nat.zero_le _, Nat.zero_le _⟩ (by omega) (tfM_runs (by omega) hg hK0  h3) (fun y60 r61 => ?_)
    refine go_ifeq k174_106 (inR_b r61) (fun c64 => ?_) (fun c65 => ?_)
    · refine go_int k174_117 (-1) rfl ?_
      refine go_ck (fun q66 => ?_)
      refine go_iast k174_118 hg q66 (inR_of (by decide)) (fun g67 e68 => ?_)
      refine go_iinc k174_119 rfl rfl 1 rfl (loc2 := [some (sR v0), some (sI v1), some (sI v2), some (sI (w32 (v3 + 1))), u4, u5]) rfl ?_
      refine go_goto k174_122 ?_
      exact HX86 (w32 (v3 + 1)) (inR_w32 _) g67 e68 u4 w4 u5 w5
    · refine go_aload k174_109 rfl ?_
      refine go_iload k174_110 rfl ?_
      refine go_callP1 k174_111 rfl rfl rfl ⟨by decide, _, rfl, hK0⟩ ⟨Nat.zero_le _, Nat.zero_le _⟩ (by omega) (tfM_deep (by omega) hg hK0  h3) (fun y69 r70 => ?_)
      refine go_goto k174_114 ?_
      refine go_ck (fun q73 => ?_)
      refine go_iast k174_118 hg q73 r70 (fun g74 e75 => ?_)
      refine go_iinc k174_119 rfl rfl 1 rfl (loc2 := [some (sR v0), some (sI v1), some (sI v2), some (sI (w32 (v3 + 1))), u4, u5]) rfl ?_
      refine go_goto k174_122 ?_
      exact HX86 (w32 (v3 + 1)) (inR_w32 _) g74 e75 u4 w4 u5 w5
  · exact tjM_exchange_125 hd hg hK0 h1 h2 (some (sI v3)) rfl u4 w4 u5 w5
theorem tlM_exchange_86 {Φ : ev_P} {d : Nat} (hd : 2 ≤ d) {v0 v1 v2 : Int} (hK0 : kd v0 = 7) (h1 : InR v1) (h2 : InR v2) : ∀ n : Nat, ∀ (v3 : Int) (h3 : InR v3) (g : gH) (hg : HR g) (u4 : Option ev_V) (w4 : nwo u4) (u5 : Option ev_V) (w5 : nwo u5), Go Φ pr_P fN 1 (lM_exchange_86 v0 v1 v2 n v3 g) d (pr_P 174) 86 [some (sR v0), some (sI v1), some (sI v2), some (sI v3), u4, u5] [] g 0 0 := by
  intro n
  induction n with
  | zero => intros; exact go_none
  | succ n ih => exact tbM_exchange_86 hd hK0 h1 h2 ih
theorem tjM_exchange_71 {Φ : ev_P} {d : Nat} (hd : 2 ≤ d) {g : gH} (hg : HR g) {v0 v1 v2 : Int} (hK0 : kd v0 = 7) (h1 : InR v1) (h2 : InR v2) {s0 s1 : Int} (z0 : RfR s0) (z1 : B01 s1) (u3 : Option ev_V) (w3 : nwo u3) (u4 : Option ev_V) (w4 : nwo u4) (u5 : Option ev_V) (w5 : nwo u5) : Go Φ pr_P fN 1 (jM_exchange_71 g v0 v1 v2 s0 s1 ) d (pr_P 174) 71 [some (sR v0), some (sI v1), some (sI v2), u3, u4, u5] [(sI s1), (sR s0)] g 0 0 := by
  unfold jM_exchange_71
  refine go_int k174_71 2 rfl ?_
  refine go_ck (fun q43 => ?_)
  refine go_callN3 k174_72 rfl rfl rfl ⟨by decide, _, rfl, q43⟩ ⟨Nat.zero_le _, Nat.zero_le _⟩ (by omega) (tfM_fails (by omega) hg q43  z1 (inR_of (by decide))) (fun y44 g46 r45 e47 => ?_)
  refine go_ifeq k174_75 (inR_b r45) (fun c48 => ?_) (fun c49 => ?_)
  · refine go_aload k174_80 rfl ?_
    refine go_callN0 k174_81 rfl rfl rfl ⟨by decide, _, rfl, hK0⟩ ⟨Nat.zero_le _, Nat.zero_le _⟩ (by omega) (tfM_remembers (by omega) e47 hK0 ) (fun y50 g52 e53 => ?_)
    refine go_int k174_84 0 rfl ?_
    refine go_istore k174_85 rfl (loc2 := [some (sR v0), some (sI v1), some (sI v2), some (sI 0), u4, u5]) rfl ?_
    exact tlM_exchange_86 hd hK0 h1 h2 fu 0 (inR_b (Or.inl rfl)) g52 e53 u4 w4 u5 w5
  · refine go_int k174_78 0 rfl ?_
    exact go_iret k174_79 e47 (inR_b (Or.inl rfl)) ⟨Nat.zero_le _, Nat.zero_le _⟩ rfl
theorem tjM_exchange_66 {Φ : ev_P} {d : Nat} (hd : 2 ≤ d) {g : gH} (hg : HR g) {v0 v1 v2 : Int} (hK0 : kd v0 = 7) (h1 : InR v1) (h2 : InR v2) {s0 : Int} (z0 : RfR s0) (u3 : Option ev_V) (w3 : nwo u3) (u4 : Option ev_V) (w4 : nwo u4) (u5 : Option ev_V) (w5 : nwo u5) : Go Φ pr_P fN 1 (jM_exchange_66 g v0 v1 v2 s0 ) d (pr_P 174) 66 [some (sR v0), some (sI v1), some (sI v2), u3, u4, u5] [(sR s0)] g 0 0 := by
  unfold jM_exchange_66
  refine go_int k174_66 1 rfl ?_
  refine go_goto k174_67 ?_
  exact tjM_exchange_71 hd hg hK0 h1 h2 z0 (Or.inr rfl) u3 w3 u4 w4 u5 w5
theorem tfM_exchange {Φ : ev_P} {d : Nat} (hd : 2 ≤ d) {g : gH} (hg : HR g) {v0 v1 v2 : Int} (hK0 : kd v0 = 7) (h1 : InR v1) (h2 : InR v2) : Go Φ pr_P fN 1 (fM_exchange g v0 v1 v2) d (pr_P 174) 0 (ev_loc (pr_P 174).1 [(sR v0), (sI v1), (sI v2)]) [] g 0 0 := by
  show Go Φ pr_P fN 1 (fM_exchange g v0 v1 v2) d (pr_P 174) 0 [some (sR v0), some (sI v1), some (sI v2), none, none, none] [] g 0 0
  unfold fM_exchange
  refine go_aload k174_0 rfl ?_
  refine go_iload k174_1 rfl ?_
  refine go_callN3 k174_2 rfl rfl rfl ⟨by decide, _, rfl, hK0⟩ ⟨Nat.zero_le _, Nat.zero_le _⟩ (by omega) (tfM_noProcess (by omega) hg hK0  h1) (fun y1 g3 r2 e4 => ?_)
  refine go_ifeq k174_5 (inR_b r2) (fun c5 => ?_) (fun c6 => ?_)
  · refine go_aload k174_8 rfl ?_
    refine go_iload k174_9 rfl ?_
    refine go_callN3 k174_10 rfl rfl rfl ⟨by decide, _, rfl, hK0⟩ ⟨Nat.zero_le _, Nat.zero_le _⟩ (by omega) (tfM_noProcess (by omega) e4 hK0  h2) (fun y7 g9 r8 e10 => ?_)
    refine go_ifeq k174_13 (inR_b r8) (fun c11 => ?_) (fun c12 => ?_)
    · refine go_aload k174_18 rfl ?_
      refine go_iload k174_19 rfl ?_
      refine go_ifeq k174_20 h1 (fun c13 => ?_) (fun c14 => ?_)
      · exact tjM_exchange_66 hd e10 hK0 h1 h2 (rfR_kd hK0 (by decide)) none rfl none rfl none rfl
      · refine go_iload k174_23 rfl ?_
        refine go_ifeq k174_24 h2 (fun c15 => ?_) (fun c16 => ?_)
        · exact tjM_exchange_66 hd e10 hK0 h1 h2 (rfR_kd hK0 (by decide)) none rfl none rfl none rfl
        · refine go_aload k174_27 rfl ?_
          refine go_iload k174_28 rfl ?_
          refine go_callP3 k174_29 rfl rfl rfl ⟨by decide, _, rfl, hK0⟩ ⟨Nat.zero_le _, Nat.zero_le _⟩ (by omega) (tfM_runs (by omega) e10 hK0  h1) (fun y17 r18 => ?_)
          refine go_ifeq k174_32 (inR_b r18) (fun c21 => ?_) (fun c22 => ?_)
          · exact tjM_exchange_66 hd e10 hK0 h1 h2 (rfR_kd hK0 (by decide)) none rfl none rfl none rfl
          · refine go_aload k174_35 rfl ?_
            refine go_iload k174_36 rfl ?_
            refine go_callP3 k174_37 rfl rfl rfl ⟨by decide, _, rfl, hK0⟩ ⟨Nat.zero_le _, Nat.zero_le _⟩ (by omega) (tfM_runs (by omega) e10 hK0  h2) (fun y23 r24 => ?_)
            refine go_ifeq k174_40 (inR_b r24) (fun c27 => ?_) (fun c28 => ?_)
            · exact tjM_exchange_66 hd e10 hK0 h1 h2 (rfR_kd hK0 (by decide)) none rfl none rfl none rfl
            · refine go_iload k174_43 rfl ?_
              refine go_iload k174_44 rfl ?_
              refine go_cmeq k174_45 h1 h2 (fun c29 => ?_) (fun c30 => ?_)
              · exact tjM_exchange_66 hd e10 hK0 h1 h2 (rfR_kd hK0 (by decide)) none rfl none rfl none rfl
              · refine go_aload k174_48 rfl ?_
                refine go_iload k174_49 rfl ?_
                refine go_iload k174_50 rfl ?_
                refine go_callP3 k174_51 rfl rfl rfl ⟨by decide, _, rfl, hK0⟩ ⟨Nat.zero_le _, Nat.zero_le _⟩ (by omega) (tfM_isOver (by omega) e10 hK0  h1 h2) (fun y31 r32 => ?_)
                refine go_ifeq k174_54 (inR_b r32) (fun c35 => ?_) (fun c36 => ?_)
                · refine go_aload k174_57 rfl ?_
                  refine go_iload k174_58 rfl ?_
                  refine go_iload k174_59 rfl ?_
                  refine go_callP3 k174_60 rfl rfl rfl ⟨by decide, _, rfl, hK0⟩ ⟨Nat.zero_le _, Nat.zero_le _⟩ (by omega) (tfM_isOver (by omega) e10 hK0  h2 h1) (fun y37 r38 => ?_)
                  refine go_ifeq k174_63 (inR_b r38) (fun c41 => ?_) (fun c42 => ?_)
                  · refine go_int k174_70 0 rfl ?_
                    exact tjM_exchange_71 hd e10 hK0 h1 h2 (rfR_kd hK0 (by decide)) (Or.inl rfl) none rfl none rfl none rfl
                  · exact tjM_exchange_66 hd e10 hK0 h1 h2 (rfR_kd hK0 (by decide)) none rfl none rfl none rfl
                · exact tjM_exchange_66 hd e10 hK0 h1 h2 (rfR_kd hK0 (by decide)) none rfl none rfl none rfl
    · refine go_int k174_16 0 rfl ?_
      exact go_iret k174_17 e10 (inR_b (Or.inl rfl)) ⟨Nat.zero_le _, Nat.zero_le _⟩ rfl
  · refine go_int k174_16 0 rfl ?_
    exact go_iret k174_17 e4 (inR_b (Or.inl rfl)) ⟨Nat.zero_le _, Nat.zero_le _⟩ rfl
theorem tjM_notExiting_26 {Φ : ev_P} {d : Nat} (hd : 2 ≤ d) {g : gH} (hg : HR g) {v2 : Int} (h2 : InR v2) {s0 s1 : Int} (z0 : RfR s0) (z1 : B01 s1) (u0 : Option ev_V) (w0 : nwo u0) (u1 : Option ev_V) (w1 : nwo u1) : Go Φ pr_P fN 3 (jM_notExiting_26 g v2 s0 s1 ) d (pr_P 136) 26 [u0, u1, some (sI v2)] [(sI s1), (sR s0)] g 0 0 := by
  unfold jM_notExiting_26
  refine go_iload k136_26 rfl ?_
  refine go_ck (fun q15 => ?_)
  refine go_callN3 k136_27 rfl rfl rfl ⟨by decide, _, rfl, q15⟩ ⟨Nat.zero_le _, Nat.zero_le _⟩ (by omega) (tfM_fails (by omega) hg q15  z1 h2) (fun y16 g18 r17 e19 => ?_)
  refine go_ifeq k136_30 (inR_b r17) (fun c20 => ?_) (fun c21 => ?_)
  · refine go_int k136_37 0 rfl ?_
    exact go_bret k136_38 e19 (Or.inl rfl) ⟨Nat.zero_le _, Nat.zero_le _⟩ rfl
  · refine go_int k136_33 1 rfl ?_
    refine go_goto k136_34 ?_
    exact go_bret k136_38 e19 (Or.inr rfl) ⟨Nat.zero_le _, Nat.zero_le _⟩ rfl
theorem tjM_notExiting_21 {Φ : ev_P} {d : Nat} (hd : 2 ≤ d) {g : gH} (hg : HR g) {v2 : Int} (h2 : InR v2) {s0 : Int} (z0 : RfR s0) (u0 : Option ev_V) (w0 : nwo u0) (u1 : Option ev_V) (w1 : nwo u1) : Go Φ pr_P fN 3 (jM_notExiting_21 g v2 s0 ) d (pr_P 136) 21 [u0, u1, some (sI v2)] [(sR s0)] g 0 0 := by
  unfold jM_notExiting_21
  refine go_int k136_21 1 rfl ?_
  refine go_goto k136_22 ?_
  exact tjM_notExiting_26 hd hg h2 z0 (Or.inr rfl) u0 w0 u1 w1
theorem tfM_notExiting {Φ : ev_P} {d : Nat} (hd : 2 ≤ d) {g : gH} (hg : HR g) {v0 v1 v2 : Int} (hK0 : kd v0 = 7) (h1 : InR v1) (h2 : InR v2) : Go Φ pr_P fN 3 (fM_notExiting g v0 v1 v2) d (pr_P 136) 0 (ev_loc (pr_P 136).1 [(sR v0), (sI v1), (sI v2)]) [] g 0 0 := by
  show Go Φ pr_P fN 3 (fM_notExiting g v0 v1 v2) d (pr_P 136) 0 [some (sR v0), some (sI v1), some (sI v2)] [] g 0 0
  unfold fM_notExiting
  refine go_aload k136_0 rfl ?_
  refine go_iload k136_1 rfl ?_
  refine go_callN3 k136_2 rfl rfl rfl ⟨by decide, _, rfl, hK0⟩ ⟨Nat.zero_le _, Nat.zero_le _⟩ (by omega) (tfM_noProcess (by omega) hg hK0  h1) (fun y1 g3 r2 e4 => ?_)
  refine go_ifeq k136_5 (inR_b r2) (fun c5 => ?_) (fun c6 => ?_)
  · refine go_aload k136_8 rfl ?_
    refine go_iload k136_9 rfl ?_
    refine go_ifeq k136_10 h1 (fun c7 => ?_) (fun c8 => ?_)
    · exact tjM_notExiting_21 hd e4 h2 (rfR_kd hK0 (by decide)) (some (sR v0)) rfl (some (sI v1)) rfl
    · refine go_aload k136_13 rfl ?_
      refine go_iload k136_14 rfl ?_
      refine go_callP3 k136_15 rfl rfl rfl ⟨by decide, _, rfl, hK0⟩ ⟨Nat.zero_le _, Nat.zero_le _⟩ (by omega) (tfM_runs (by omega) e4 hK0  h1) (fun y9 r10 => ?_)
      refine go_ifeq k136_18 (inR_b r10) (fun c13 => ?_) (fun c14 => ?_)
      · exact tjM_notExiting_21 hd e4 h2 (rfR_kd hK0 (by decide)) (some (sR v0)) rfl (some (sI v1)) rfl
      · refine go_int k136_25 0 rfl ?_
        exact tjM_notExiting_26 hd e4 h2 (rfR_kd hK0 (by decide)) (Or.inl rfl) (some (sR v0)) rfl (some (sI v1)) rfl
  · refine go_int k136_33 1 rfl ?_
    refine go_goto k136_34 ?_
    exact go_bret k136_38 e4 (Or.inr rfl) ⟨Nat.zero_le _, Nat.zero_le _⟩ rfl
theorem tbM_relieve_26 {Φ : ev_P} {d : Nat} (hd : 7 ≤ d) {v0 v1 : Int} (hK0 : kd v0 = 7) (h1 : InR v1) {X26 : Int → Int → gH → Option (Int × gH)} (HX26 : ∀ (v2 : Int) (h2 : InR v2) (v3 : Int) (h3 : InR v3) (g : gH) (hg : HR g), Go Φ pr_P fN 1 (X26 v2 v3 g) d (pr_P 175) 26 [some (sR v0), some (sI v1), some (sI v2), some (sI v3)] [] g 0 0) : ∀ (v2 : Int) (h2 : InR v2) (v3 : Int) (h3 : InR v3) (g : gH) (hg : HR g), Go Φ pr_P fN 1 (bM_relieve_26 v0 v1 X26 v2 v3 g) d (pr_P 175) 26 [some (sR v0), some (sI v1), some (sI v2), some (sI v3)] [] g 0 0 := by
  intro v2 h2 v3 h3 g hg
  unfold bM_relieve_26
  refine go_iload k175_26 rfl ?_
  refine go_ifgt k175_27 h3 (fun c14 => ?_) (fun c15 => ?_)
  · refine go_aload k175_30 rfl ?_
    refine go_iload k175_31 rfl ?_
    refine go_iload k175_32 rfl ?_
    refine go_int k175_33 0 rfl ?_
    refine go_callP3 k175_34 rfl rfl rfl ⟨by decide, _, rfl, hK0⟩ ⟨Nat.zero_le _, Nat.zero_le _⟩ (by omega) (tfM_isChild (by omega) hg hK0  h3 h1 (inR_b (Or.inl rfl))) (fun y16 r17 => ?_)
    refine go_ifeq k175_37 (inR_b r17) (fun c20 => ?_) (fun c21 => ?_)
    · refine go_iinc k175_75 rfl rfl (-1) rfl (loc2 := [some (sR v0), some (sI v1), some (sI v2), some (sI (w32 (v3 + (-1))))]) rfl ?_
      refine go_goto k175_78 ?_
      exact HX26 v2 h2 (w32 (v3 + (-1))) (inR_w32 _) g hg
    · refine go_aload k175_40 rfl ?_
      refine go_iload k175_41 rfl ?_
      refine go_int k175_42 0 rfl ?_
      refine go_callP1 k175_43 rfl rfl rfl ⟨by decide, _, rfl, hK0⟩ ⟨Nat.zero_le _, Nat.zero_le _⟩ (by omega) (tfM_childrenOf (by omega) hg hK0  h1 (inR_b (Or.inl rfl))) (fun y22 r23 => ?_)
      refine go_aload k175_46 rfl ?_
      refine go_getR (bI := 0) k175_47 hg hK0 (by decide) rfl rfl (fun r26 => ?_)
      refine go_int k175_50 100 rfl ?_
      refine go_iload k175_52 rfl ?_
      refine go_iadd k175_53 ?_
      refine go_ck (fun q28 => ?_)
      refine go_iald k175_54 hg q28 (fun r27 => ?_)
      refine go_cmgt k175_55 r23 r27 (fun c29 => ?_) (fun c30 => ?_)
      · refine go_aload k175_61 rfl ?_
        refine go_aload k175_62 rfl ?_
        refine go_iload k175_63 rfl ?_
        refine go_iload k175_64 rfl ?_
        refine go_callP1 k175_65 rfl rfl rfl ⟨by decide, _, rfl, hK0⟩ ⟨Nat.zero_le _, Nat.zero_le _⟩ (by omega) (tfM_adopterOf (by omega) hg hK0  h3 h1) (fun y31 r32 => ?_)
        refine go_iload k175_68 rfl ?_
        refine go_callN0 k175_69 rfl rfl rfl ⟨by decide, _, rfl, hK0⟩ ⟨Nat.zero_le _, Nat.zero_le _⟩ (by omega) (tfM_adopts (by omega) hg hK0  r32 h3) (fun y35 g37 e38 => ?_)
        refine go_iinc k175_72 rfl rfl 1 rfl (loc2 := [some (sR v0), some (sI v1), some (sI (w32 (v2 + 1))), some (sI v3)]) rfl ?_
        refine go_iinc k175_75 rfl rfl (-1) rfl (loc2 := [some (sR v0), some (sI v1), some (sI (w32 (v2 + 1))), some (sI (w32 (v3 + (-1))))]) rfl ?_
        refine go_goto k175_78 ?_
        exact HX26 (w32 (v2 + 1)) (inR_w32 _) (w32 (v3 + (-1))) (inR_w32 _) g37 e38
      · refine go_goto k175_58 ?_
        refine go_iinc k175_75 rfl rfl (-1) rfl (loc2 := [some (sR v0), some (sI v1), some (sI v2), some (sI (w32 (v3 + (-1))))]) rfl ?_
        refine go_goto k175_78 ?_
        exact HX26 v2 h2 (w32 (v3 + (-1))) (inR_w32 _) g hg
  · refine go_iload k175_81 rfl ?_
    exact go_iret k175_82 hg h2 ⟨Nat.zero_le _, Nat.zero_le _⟩ rfl
theorem tlM_relieve_26 {Φ : ev_P} {d : Nat} (hd : 7 ≤ d) {v0 v1 : Int} (hK0 : kd v0 = 7) (h1 : InR v1) : ∀ n : Nat, ∀ (v2 : Int) (h2 : InR v2) (v3 : Int) (h3 : InR v3) (g : gH) (hg : HR g), Go Φ pr_P fN 1 (lM_relieve_26 v0 v1 n v2 v3 g) d (pr_P 175) 26 [some (sR v0), some (sI v1), some (sI v2), some (sI v3)] [] g 0 0 := by
  intro n
  induction n with
  | zero => intros; exact go_none
  | succ n ih => exact tbM_relieve_26 hd hK0 h1 ih
theorem tfM_relieve {Φ : ev_P} {d : Nat} (hd : 7 ≤ d) {g : gH} (hg : HR g) {v0 v1 : Int} (hK0 : kd v0 = 7) (h1 : InR v1) : Go Φ pr_P fN 1 (fM_relieve g v0 v1) d (pr_P 175) 0 (ev_loc (pr_P 175).1 [(sR v0), (sI v1)]) [] g 0 0 := by
  show Go Φ pr_P fN 1 (fM_relieve g v0 v1) d (pr_P 175) 0 [some (sR v0), some (sI v1), none, none] [] g 0 0
  unfold fM_relieve
  refine go_aload k175_0 rfl ?_
  refine go_iload k175_1 rfl ?_
  refine go_int k175_2 2 rfl ?_
  refine go_callN3 k175_3 rfl rfl rfl ⟨by decide, _, rfl, hK0⟩ ⟨Nat.zero_le _, Nat.zero_le _⟩ (by omega) (tfM_notExiting (by omega) hg hK0  h1 (inR_of (by decide))) (fun y1 g3 r2 e4 => ?_)
  refine go_ifeq k175_6 (inR_b r2) (fun c5 => ?_) (fun c6 => ?_)
  · refine go_aload k175_11 rfl ?_
    refine go_callN0 k175_12 rfl rfl rfl ⟨by decide, _, rfl, hK0⟩ ⟨Nat.zero_le _, Nat.zero_le _⟩ (by omega) (tfM_remembers (by omega) e4 hK0 ) (fun y7 g9 e10 => ?_)
    refine go_int k175_15 0 rfl ?_
    refine go_istore k175_16 rfl (loc2 := [some (sR v0), some (sI v1), some (sI 0), none]) rfl ?_
    refine go_aload k175_17 rfl ?_
    refine go_getR (bI := 0) k175_18 e10 hK0 (by decide) rfl rfl (fun r11 => ?_)
    refine go_int k175_21 0 rfl ?_
    refine go_ck (fun q13 => ?_)
    refine go_iald k175_22 e10 q13 (fun r12 => ?_)
    refine go_int k175_23 1 rfl ?_
    refine go_isub k175_24 ?_
    refine go_istore k175_25 rfl (loc2 := [some (sR v0), some (sI v1), some (sI 0), some (sI (w32 ((g9 (g9 v0 0) 0) - 1)))]) rfl ?_
    exact tlM_relieve_26 hd hK0 h1 fu 0 (inR_b (Or.inl rfl)) (w32 ((g9 (g9 v0 0) 0) - 1)) (inR_w32 _) g9 e10
  · refine go_int k175_9 0 rfl ?_
    exact go_iret k175_10 e4 (inR_b (Or.inl rfl)) ⟨Nat.zero_le _, Nat.zero_le _⟩ rfl
theorem tfM_adopter {Φ : ev_P} {d : Nat} (hd : 7 ≤ d) {g : gH} (hg : HR g) {v0 v1 : Int} (hK0 : kd v0 = 7) (h1 : InR v1) : Go Φ pr_P fN 1 (fM_adopter g v0 v1) d (pr_P 176) 0 (ev_loc (pr_P 176).1 [(sR v0), (sI v1)]) [] g 0 0 := by
  show Go Φ pr_P fN 1 (fM_adopter g v0 v1) d (pr_P 176) 0 [some (sR v0), some (sI v1)] [] g 0 0
  unfold fM_adopter
  refine go_aload k176_0 rfl ?_
  refine go_iload k176_1 rfl ?_
  refine go_int k176_2 2 rfl ?_
  refine go_callN3 k176_3 rfl rfl rfl ⟨by decide, _, rfl, hK0⟩ ⟨Nat.zero_le _, Nat.zero_le _⟩ (by omega) (tfM_notExiting (by omega) hg hK0  h1 (inR_of (by decide))) (fun y1 g3 r2 e4 => ?_)
  refine go_ifeq k176_6 (inR_b r2) (fun c5 => ?_) (fun c6 => ?_)
  · refine go_aload k176_13 rfl ?_
    refine go_iload k176_14 rfl ?_
    refine go_aload k176_15 rfl ?_
    refine go_getR (bI := 0) k176_16 e4 hK0 (by decide) rfl rfl (fun r7 => ?_)
    refine go_int k176_19 60 rfl ?_
    refine go_iload k176_21 rfl ?_
    refine go_iadd k176_22 ?_
    refine go_ck (fun q9 => ?_)
    refine go_iald k176_23 e4 q9 (fun r8 => ?_)
    refine go_callP1 k176_24 rfl rfl rfl ⟨by decide, _, rfl, hK0⟩ ⟨Nat.zero_le _, Nat.zero_le _⟩ (by omega) (tfM_adopterOf (by omega) e4 hK0  h1 r8) (fun y10 r11 => ?_)
    exact go_iret k176_27 e4 r11 ⟨Nat.zero_le _, Nat.zero_le _⟩ rfl
  · refine go_int k176_9 0 rfl ?_
    refine go_goto k176_10 ?_
    exact go_iret k176_27 e4 (inR_b (Or.inl rfl)) ⟨Nat.zero_le _, Nat.zero_le _⟩ rfl
theorem tbM_adopters_15 {Φ : ev_P} {d : Nat} (hd : 4 ≤ d) {g : gH} (hg : HR g) {v0 v1 : Int} (hK0 : kd v0 = 7) (h1 : InR v1) {X15 : Int → Int → Option (Int × gH)} (HX15 : ∀ (v2 : Int) (h2 : InR v2) (v3 : Int) (h3 : InR v3), Go Φ pr_P fN 1 (X15 v2 v3) d (pr_P 177) 15 [some (sR v0), some (sI v1), some (sI v2), some (sI v3)] [] g 0 0) : ∀ (v2 : Int) (h2 : InR v2) (v3 : Int) (h3 : InR v3), Go Φ pr_P fN 1 (bM_adopters_15 g v0 v1 X15 v2 v3) d (pr_P 177) 15 [some (sR v0), some (sI v1), some (sI v2), some (sI v3)] [] g 0 0 := by
  intro v2 h2 v3 h3
  unfold bM_adopters_15
  refine go_iload k177_15 rfl ?_
  refine go_aload k177_16 rfl ?_
  refine go_getR (bI := 0) k177_17 hg hK0 (by decide) rfl rfl (fun r7 => ?_)
  refine go_int k177_20 0 rfl ?_
  refine go_ck (fun q9 => ?_)
  refine go_iald k177_21 hg q9 (fun r8 => ?_)
  refine go_cmlt k177_22 h3 r8 (fun c10 => ?_) (fun c11 => ?_)
  · refine go_iload k177_25 rfl ?_
    refine go_aload k177_26 rfl ?_
    refine go_iload k177_27 rfl ?_
    refine go_iload k177_28 rfl ?_
    refine go_callP3 k177_29 rfl rfl rfl ⟨by decide, _, rfl, hK0⟩ ⟨Nat.zero_le _, Nat.zero_le _⟩ (by omega) (tfM_canAdopt (by omega) hg hK0  h3 h1) (fun y12 r13 => ?_)
    refine go_ifeq k177_32 (inR_b r13) (fun c16 => ?_) (fun c17 => ?_)
    · refine go_int k177_39 0 rfl ?_
      refine go_iadd k177_40 ?_
      refine go_istore k177_41 rfl (loc2 := [some (sR v0), some (sI v1), some (sI (w32 (v2 + 0))), some (sI v3)]) rfl ?_
      refine go_iinc k177_42 rfl rfl 1 rfl (loc2 := [some (sR v0), some (sI v1), some (sI (w32 (v2 + 0))), some (sI (w32 (v3 + 1)))]) rfl ?_
      refine go_goto k177_45 ?_
      exact HX15 (w32 (v2 + 0)) (inR_w32 _) (w32 (v3 + 1)) (inR_w32 _)
    · refine go_int k177_35 1 rfl ?_
      refine go_goto k177_36 ?_
      refine go_iadd k177_40 ?_
      refine go_istore k177_41 rfl (loc2 := [some (sR v0), some (sI v1), some (sI (w32 (v2 + 1))), some (sI v3)]) rfl ?_
      refine go_iinc k177_42 rfl rfl 1 rfl (loc2 := [some (sR v0), some (sI v1), some (sI (w32 (v2 + 1))), some (sI (w32 (v3 + 1)))]) rfl ?_
      refine go_goto k177_45 ?_
      exact HX15 (w32 (v2 + 1)) (inR_w32 _) (w32 (v3 + 1)) (inR_w32 _)
  · refine go_iload k177_48 rfl ?_
    exact go_iret k177_49 hg h2 ⟨Nat.zero_le _, Nat.zero_le _⟩ rfl
theorem tlM_adopters_15 {Φ : ev_P} {d : Nat} (hd : 4 ≤ d) {g : gH} (hg : HR g) {v0 v1 : Int} (hK0 : kd v0 = 7) (h1 : InR v1) : ∀ n : Nat, ∀ (v2 : Int) (h2 : InR v2) (v3 : Int) (h3 : InR v3), Go Φ pr_P fN 1 (lM_adopters_15 g v0 v1 n v2 v3) d (pr_P 177) 15 [some (sR v0), some (sI v1), some (sI v2), some (sI v3)] [] g 0 0 := by
  intro n
  induction n with
  | zero => intros; exact go_none
  | succ n ih => exact tbM_adopters_15 hd hg hK0 h1 ih
theorem tfM_adopters {Φ : ev_P} {d : Nat} (hd : 4 ≤ d) {g : gH} (hg : HR g) {v0 v1 : Int} (hK0 : kd v0 = 7) (h1 : InR v1) : Go Φ pr_P fN 1 (fM_adopters g v0 v1) d (pr_P 177) 0 (ev_loc (pr_P 177).1 [(sR v0), (sI v1)]) [] g 0 0 := by
  show Go Φ pr_P fN 1 (fM_adopters g v0 v1) d (pr_P 177) 0 [some (sR v0), some (sI v1), none, none] [] g 0 0
  unfold fM_adopters
  refine go_aload k177_0 rfl ?_
  refine go_iload k177_1 rfl ?_
  refine go_int k177_2 2 rfl ?_
  refine go_callN3 k177_3 rfl rfl rfl ⟨by decide, _, rfl, hK0⟩ ⟨Nat.zero_le _, Nat.zero_le _⟩ (by omega) (tfM_notExiting (by omega) hg hK0  h1 (inR_of (by decide))) (fun y1 g3 r2 e4 => ?_)
  refine go_ifeq k177_6 (inR_b r2) (fun c5 => ?_) (fun c6 => ?_)
  · refine go_int k177_11 0 rfl ?_
    refine go_istore k177_12 rfl (loc2 := [some (sR v0), some (sI v1), some (sI 0), none]) rfl ?_
    refine go_int k177_13 1 rfl ?_
    refine go_istore k177_14 rfl (loc2 := [some (sR v0), some (sI v1), some (sI 0), some (sI 1)]) rfl ?_
    exact tlM_adopters_15 hd e4 hK0 h1 fu 0 (inR_b (Or.inl rfl)) 1 (inR_b (Or.inr rfl))
  · refine go_int k177_9 0 rfl ?_
    exact go_iret k177_10 e4 (inR_b (Or.inl rfl)) ⟨Nat.zero_le _, Nat.zero_le _⟩ rfl
theorem tfM_heirNow {Φ : ev_P} {d : Nat} (hd : 3 ≤ d) {g : gH} (hg : HR g) {v0 v1 : Int} (hK0 : kd v0 = 7) (h1 : InR v1) : Go Φ pr_P fN 1 (fM_heirNow g v0 v1) d (pr_P 178) 0 (ev_loc (pr_P 178).1 [(sR v0), (sI v1)]) [] g 0 0 := by
  show Go Φ pr_P fN 1 (fM_heirNow g v0 v1) d (pr_P 178) 0 [some (sR v0), some (sI v1)] [] g 0 0
  unfold fM_heirNow
  refine go_aload k178_0 rfl ?_
  refine go_iload k178_1 rfl ?_
  refine go_int k178_2 2 rfl ?_
  refine go_callN3 k178_3 rfl rfl rfl ⟨by decide, _, rfl, hK0⟩ ⟨Nat.zero_le _, Nat.zero_le _⟩ (by omega) (tfM_notExiting (by omega) hg hK0  h1 (inR_of (by decide))) (fun y1 g3 r2 e4 => ?_)
  refine go_ifeq k178_6 (inR_b r2) (fun c5 => ?_) (fun c6 => ?_)
  · refine go_aload k178_13 rfl ?_
    refine go_iload k178_14 rfl ?_
    refine go_callP1 k178_15 rfl rfl rfl ⟨by decide, _, rfl, hK0⟩ ⟨Nat.zero_le _, Nat.zero_le _⟩ (by omega) (tfM_inheritor (by omega) e4 hK0  h1) (fun y7 r8 => ?_)
    exact go_iret k178_18 e4 r8 ⟨Nat.zero_le _, Nat.zero_le _⟩ rfl
  · refine go_int k178_9 0 rfl ?_
    refine go_goto k178_10 ?_
    exact go_iret k178_18 e4 (inR_b (Or.inl rfl)) ⟨Nat.zero_le _, Nat.zero_le _⟩ rfl
theorem tfM_begins {Φ : ev_P} {d : Nat} (hd : 1 ≤ d) {g : gH} (hg : HR g) {v0 : Int} (hK0 : kd v0 = 7) : Go Φ pr_P fN 0 (fM_begins g v0) d (pr_P 80) 0 (ev_loc (pr_P 80).1 [(sR v0)]) [] g 0 0 := by
  show Go Φ pr_P fN 0 (fM_begins g v0) d (pr_P 80) 0 [some (sR v0)] [] g 0 0
  unfold fM_begins
  refine go_aload k80_0 rfl ?_
  refine go_getR (bI := 0) k80_1 hg hK0 (by decide) rfl rfl (fun r1 => ?_)
  refine go_int k80_4 0 rfl ?_
  refine go_aload k80_5 rfl ?_
  refine go_getR (bI := 2) k80_6 hg hK0 (by decide) rfl rfl (fun r2 => ?_)
  refine go_int k80_9 0 rfl ?_
  refine go_int k80_10 780 rfl ?_
  refine go_callN0 k80_13 rfl rfl rfl trivial ⟨Nat.zero_le _, Nat.zero_le _⟩ (by omega) (tfM_copies (by omega) hg  r1 (inR_b (Or.inl rfl)) r2 (inR_b (Or.inl rfl)) (inR_of (by decide))) (fun y3 g5 e6 => ?_)
  exact go_vret k80_16 e6 ⟨Nat.zero_le _, Nat.zero_le _⟩ rfl
theorem tfM_ends {Φ : ev_P} {d : Nat} (hd : 1 ≤ d) {g : gH} (hg : HR g) {v0 : Int} (hK0 : kd v0 = 7) : Go Φ pr_P fN 0 (fM_ends g v0) d (pr_P 81) 0 (ev_loc (pr_P 81).1 [(sR v0)]) [] g 0 0 := by
  show Go Φ pr_P fN 0 (fM_ends g v0) d (pr_P 81) 0 [some (sR v0)] [] g 0 0
  unfold fM_ends
  refine go_aload k81_0 rfl ?_
  refine go_getR (bI := 2) k81_1 hg hK0 (by decide) rfl rfl (fun r1 => ?_)
  refine go_int k81_4 0 rfl ?_
  refine go_aload k81_5 rfl ?_
  refine go_getR (bI := 0) k81_6 hg hK0 (by decide) rfl rfl (fun r2 => ?_)
  refine go_int k81_9 0 rfl ?_
  refine go_int k81_10 780 rfl ?_
  refine go_callN0 k81_13 rfl rfl rfl trivial ⟨Nat.zero_le _, Nat.zero_le _⟩ (by omega) (tfM_copies (by omega) hg  r1 (inR_b (Or.inl rfl)) r2 (inR_b (Or.inl rfl)) (inR_of (by decide))) (fun y3 g5 e6 => ?_)
  exact go_vret k81_16 e6 ⟨Nat.zero_le _, Nat.zero_le _⟩ rfl
theorem tfM_fallsBy {Φ : ev_P} {d : Nat} (hd : 8 ≤ d) {g : gH} (hg : HR g) {v0 v1 v2 : Int} (hK0 : kd v0 = 7) (h1 : InR v1) (h2 : InR v2) : Go Φ pr_P fN 1 (fM_fallsBy g v0 v1 v2) d (pr_P 179) 0 (ev_loc (pr_P 179).1 [(sR v0), (sI v1), (sI v2)]) [] g 0 0 := by
  show Go Φ pr_P fN 1 (fM_fallsBy g v0 v1 v2) d (pr_P 179) 0 [some (sR v0), some (sI v1), some (sI v2), none] [] g 0 0
  unfold fM_fallsBy
  refine go_aload k179_0 rfl ?_
  refine go_callN0 k179_1 rfl rfl rfl ⟨by decide, _, rfl, hK0⟩ ⟨Nat.zero_le _, Nat.zero_le _⟩ (by omega) (tfM_begins (by omega) hg hK0 ) (fun y1 g3 e4 => ?_)
  refine go_aload k179_4 rfl ?_
  refine go_iload k179_5 rfl ?_
  refine go_iload k179_6 rfl ?_
  refine go_callN1 k179_7 rfl rfl rfl ⟨by decide, _, rfl, hK0⟩ ⟨Nat.zero_le _, Nat.zero_le _⟩ (by omega) (tfM_exits (by omega) e4 hK0  h1 h2) (fun y5 g7 r6 e8 => ?_)
  refine go_istore k179_10 rfl (loc2 := [some (sR v0), some (sI v1), some (sI v2), some (sI y5)]) rfl ?_
  refine go_aload k179_11 rfl ?_
  refine go_callN0 k179_12 rfl rfl rfl ⟨by decide, _, rfl, hK0⟩ ⟨Nat.zero_le _, Nat.zero_le _⟩ (by omega) (tfM_ends (by omega) e8 hK0 ) (fun y9 g11 e12 => ?_)
  refine go_iload k179_15 rfl ?_
  exact go_iret k179_16 e12 r6 ⟨Nat.zero_le _, Nat.zero_le _⟩ rfl
theorem tfM_wouldFall {Φ : ev_P} {d : Nat} (hd : 9 ≤ d) {g : gH} (hg : HR g) {v0 v1 v2 : Int} (hK0 : kd v0 = 7) (h1 : InR v1) (h2 : InR v2) : Go Φ pr_P fN 1 (fM_wouldFall g v0 v1 v2) d (pr_P 180) 0 (ev_loc (pr_P 180).1 [(sR v0), (sI v1), (sI v2)]) [] g 0 0 := by
  show Go Φ pr_P fN 1 (fM_wouldFall g v0 v1 v2) d (pr_P 180) 0 [some (sR v0), some (sI v1), some (sI v2)] [] g 0 0
  unfold fM_wouldFall
  refine go_aload k180_0 rfl ?_
  refine go_iload k180_1 rfl ?_
  refine go_iload k180_2 rfl ?_
  refine go_callN3 k180_3 rfl rfl rfl ⟨by decide, _, rfl, hK0⟩ ⟨Nat.zero_le _, Nat.zero_le _⟩ (by omega) (tfM_noExit (by omega) hg hK0  h1 h2) (fun y1 g3 r2 e4 => ?_)
  refine go_ifeq k180_6 (inR_b r2) (fun c5 => ?_) (fun c6 => ?_)
  · refine go_aload k180_13 rfl ?_
    refine go_iload k180_14 rfl ?_
    refine go_iload k180_15 rfl ?_
    refine go_callN1 k180_16 rfl rfl rfl ⟨by decide, _, rfl, hK0⟩ ⟨Nat.zero_le _, Nat.zero_le _⟩ (by omega) (tfM_fallsBy (by omega) e4 hK0  h1 h2) (fun y7 g9 r8 e10 => ?_)
    exact go_iret k180_19 e10 r8 ⟨Nat.zero_le _, Nat.zero_le _⟩ rfl
  · refine go_int k180_9 0 rfl ?_
    refine go_goto k180_10 ?_
    exact go_iret k180_19 e4 (inR_b (Or.inl rfl)) ⟨Nat.zero_le _, Nat.zero_le _⟩ rfl
theorem tfM_wouldStand {Φ : ev_P} {d : Nat} (hd : 8 ≤ d) {g : gH} (hg : HR g) {v0 v1 v2 : Int} (hK0 : kd v0 = 7) (h1 : InR v1) (h2 : InR v2) : Go Φ pr_P fN 1 (fM_wouldStand g v0 v1 v2) d (pr_P 181) 0 (ev_loc (pr_P 181).1 [(sR v0), (sI v1), (sI v2)]) [] g 0 0 := by
  show Go Φ pr_P fN 1 (fM_wouldStand g v0 v1 v2) d (pr_P 181) 0 [some (sR v0), some (sI v1), some (sI v2), none, none] [] g 0 0
  unfold fM_wouldStand
  refine go_aload k181_0 rfl ?_
  refine go_iload k181_1 rfl ?_
  refine go_iload k181_2 rfl ?_
  refine go_callN3 k181_3 rfl rfl rfl ⟨by decide, _, rfl, hK0⟩ ⟨Nat.zero_le _, Nat.zero_le _⟩ (by omega) (tfM_noExit (by omega) hg hK0  h1 h2) (fun y1 g3 r2 e4 => ?_)
  refine go_ifeq k181_6 (inR_b r2) (fun c5 => ?_) (fun c6 => ?_)
  · refine go_aload k181_11 rfl ?_
    refine go_callN0 k181_12 rfl rfl rfl ⟨by decide, _, rfl, hK0⟩ ⟨Nat.zero_le _, Nat.zero_le _⟩ (by omega) (tfM_begins (by omega) e4 hK0 ) (fun y7 g9 e10 => ?_)
    refine go_aload k181_15 rfl ?_
    refine go_iload k181_16 rfl ?_
    refine go_iload k181_17 rfl ?_
    refine go_callN1 k181_18 rfl rfl rfl ⟨by decide, _, rfl, hK0⟩ ⟨Nat.zero_le _, Nat.zero_le _⟩ (by omega) (tfM_exits (by omega) e10 hK0  h1 h2) (fun y11 g13 r12 e14 => ?_)
    refine go_istore k181_21 rfl (loc2 := [some (sR v0), some (sI v1), some (sI v2), some (sI y11), none]) rfl ?_
    refine go_iload k181_22 rfl ?_
    refine go_iflt k181_23 r12 (fun c15 => ?_) (fun c16 => ?_)
    · refine go_int k181_26 (-1) rfl ?_
      refine go_goto k181_27 ?_
      refine go_istore k181_34 rfl (loc2 := [some (sR v0), some (sI v1), some (sI v2), some (sI y11), some (sI (-1))]) rfl ?_
      refine go_aload k181_36 rfl ?_
      refine go_callN0 k181_37 rfl rfl rfl ⟨by decide, _, rfl, hK0⟩ ⟨Nat.zero_le _, Nat.zero_le _⟩ (by omega) (tfM_ends (by omega) e14 hK0 ) (fun y17 g19 e20 => ?_)
      refine go_iload k181_40 rfl ?_
      exact go_iret k181_42 e20 (inR_of (by decide)) ⟨Nat.zero_le _, Nat.zero_le _⟩ rfl
    · refine go_aload k181_30 rfl ?_
      refine go_callP1 k181_31 rfl rfl rfl ⟨by decide, _, rfl, hK0⟩ ⟨Nat.zero_le _, Nat.zero_le _⟩ (by omega) (tfM_highest (by omega) e14 hK0 ) (fun y21 r22 => ?_)
      refine go_istore k181_34 rfl (loc2 := [some (sR v0), some (sI v1), some (sI v2), some (sI y11), some (sI y21)]) rfl ?_
      refine go_aload k181_36 rfl ?_
      refine go_callN0 k181_37 rfl rfl rfl ⟨by decide, _, rfl, hK0⟩ ⟨Nat.zero_le _, Nat.zero_le _⟩ (by omega) (tfM_ends (by omega) e14 hK0 ) (fun y25 g27 e28 => ?_)
      refine go_iload k181_40 rfl ?_
      exact go_iret k181_42 e28 r22 ⟨Nat.zero_le _, Nat.zero_le _⟩ rfl
  · refine go_int k181_9 0 rfl ?_
    exact go_iret k181_10 e4 (inR_b (Or.inl rfl)) ⟨Nat.zero_le _, Nat.zero_le _⟩ rfl
theorem tfM_wouldHave {Φ : ev_P} {d : Nat} (hd : 8 ≤ d) {g : gH} (hg : HR g) {v0 v1 v2 v3 : Int} (hK0 : kd v0 = 7) (h1 : InR v1) (h2 : InR v2) (h3 : InR v3) : Go Φ pr_P fN 1 (fM_wouldHave g v0 v1 v2 v3) d (pr_P 182) 0 (ev_loc (pr_P 182).1 [(sR v0), (sI v1), (sI v2), (sI v3)]) [] g 0 0 := by
  show Go Φ pr_P fN 1 (fM_wouldHave g v0 v1 v2 v3) d (pr_P 182) 0 [some (sR v0), some (sI v1), some (sI v2), some (sI v3), none, none] [] g 0 0
  unfold fM_wouldHave
  refine go_aload k182_0 rfl ?_
  refine go_iload k182_1 rfl ?_
  refine go_callN3 k182_2 rfl rfl rfl ⟨by decide, _, rfl, hK0⟩ ⟨Nat.zero_le _, Nat.zero_le _⟩ (by omega) (tfM_noProcess (by omega) hg hK0  h1) (fun y1 g3 r2 e4 => ?_)
  refine go_ifeq k182_5 (inR_b r2) (fun c5 => ?_) (fun c6 => ?_)
  · refine go_aload k182_8 rfl ?_
    refine go_iload k182_9 rfl ?_
    refine go_iload k182_10 rfl ?_
    refine go_callN3 k182_11 rfl rfl rfl ⟨by decide, _, rfl, hK0⟩ ⟨Nat.zero_le _, Nat.zero_le _⟩ (by omega) (tfM_noExit (by omega) e4 hK0  h2 h3) (fun y7 g9 r8 e10 => ?_)
    refine go_ifeq k182_14 (inR_b r8) (fun c11 => ?_) (fun c12 => ?_)
    · refine go_aload k182_19 rfl ?_
      refine go_callN0 k182_20 rfl rfl rfl ⟨by decide, _, rfl, hK0⟩ ⟨Nat.zero_le _, Nat.zero_le _⟩ (by omega) (tfM_begins (by omega) e10 hK0 ) (fun y13 g15 e16 => ?_)
      refine go_aload k182_23 rfl ?_
      refine go_iload k182_24 rfl ?_
      refine go_iload k182_25 rfl ?_
      refine go_callN1 k182_26 rfl rfl rfl ⟨by decide, _, rfl, hK0⟩ ⟨Nat.zero_le _, Nat.zero_le _⟩ (by omega) (tfM_exits (by omega) e16 hK0  h2 h3) (fun y17 g19 r18 e20 => ?_)
      refine go_istore k182_29 rfl (loc2 := [some (sR v0), some (sI v1), some (sI v2), some (sI v3), some (sI y17), none]) rfl ?_
      refine go_iload k182_31 rfl ?_
      refine go_iflt k182_33 r18 (fun c21 => ?_) (fun c22 => ?_)
      · refine go_int k182_36 (-1) rfl ?_
        refine go_goto k182_37 ?_
        refine go_istore k182_49 rfl (loc2 := [some (sR v0), some (sI v1), some (sI v2), some (sI v3), some (sI y17), some (sI (-1))]) rfl ?_
        refine go_aload k182_51 rfl ?_
        refine go_callN0 k182_52 rfl rfl rfl ⟨by decide, _, rfl, hK0⟩ ⟨Nat.zero_le _, Nat.zero_le _⟩ (by omega) (tfM_ends (by omega) e20 hK0 ) (fun y23 g25 e26 => ?_)
        refine go_iload k182_55 rfl ?_
        exact go_iret k182_57 e26 (inR_of (by decide)) ⟨Nat.zero_le _, Nat.zero_le _⟩ rfl
      · refine go_aload k182_40 rfl ?_
        refine go_getR (bI := 0) k182_41 e20 hK0 (by decide) rfl rfl (fun r27 => ?_)
        refine go_int k182_44 60 rfl ?_
        refine go_iload k182_46 rfl ?_
        refine go_iadd k182_47 ?_
        refine go_ck (fun q29 => ?_)
        refine go_iald k182_48 e20 q29 (fun r28 => ?_)
        refine go_istore k182_49 rfl (loc2 := [some (sR v0), some (sI v1), some (sI v2), some (sI v3), some (sI y17), some (sI (g19 (g19 v0 0) (w32 (60 + v1))))]) rfl ?_
        refine go_aload k182_51 rfl ?_
        refine go_callN0 k182_52 rfl rfl rfl ⟨by decide, _, rfl, hK0⟩ ⟨Nat.zero_le _, Nat.zero_le _⟩ (by omega) (tfM_ends (by omega) e20 hK0 ) (fun y30 g32 e33 => ?_)
        refine go_iload k182_55 rfl ?_
        exact go_iret k182_57 e33 r28 ⟨Nat.zero_le _, Nat.zero_le _⟩ rfl
    · refine go_int k182_17 0 rfl ?_
      exact go_iret k182_18 e10 (inR_b (Or.inl rfl)) ⟨Nat.zero_le _, Nat.zero_le _⟩ rfl
  · refine go_int k182_17 0 rfl ?_
    exact go_iret k182_18 e4 (inR_b (Or.inl rfl)) ⟨Nat.zero_le _, Nat.zero_le _⟩ rfl
theorem tfM_wouldHold {Φ : ev_P} {d : Nat} (hd : 8 ≤ d) {g : gH} (hg : HR g) {v0 v1 v2 v3 : Int} (hK0 : kd v0 = 7) (h1 : InR v1) (h2 : InR v2) (h3 : InR v3) : Go Φ pr_P fN 1 (fM_wouldHold g v0 v1 v2 v3) d (pr_P 183) 0 (ev_loc (pr_P 183).1 [(sR v0), (sI v1), (sI v2), (sI v3)]) [] g 0 0 := by
  show Go Φ pr_P fN 1 (fM_wouldHold g v0 v1 v2 v3) d (pr_P 183) 0 [some (sR v0), some (sI v1), some (sI v2), some (sI v3), none, none] [] g 0 0
  unfold fM_wouldHold
  refine go_aload k183_0 rfl ?_
  refine go_iload k183_1 rfl ?_
  refine go_callN3 k183_2 rfl rfl rfl ⟨by decide, _, rfl, hK0⟩ ⟨Nat.zero_le _, Nat.zero_le _⟩ (by omega) (tfM_noProcess (by omega) hg hK0  h2) (fun y1 g3 r2 e4 => ?_)
  refine go_ifeq k183_5 (inR_b r2) (fun c5 => ?_) (fun c6 => ?_)
  · refine go_aload k183_8 rfl ?_
    refine go_iload k183_9 rfl ?_
    refine go_int k183_10 2 rfl ?_
    refine go_callN3 k183_11 rfl rfl rfl ⟨by decide, _, rfl, hK0⟩ ⟨Nat.zero_le _, Nat.zero_le _⟩ (by omega) (tfM_noDuty (by omega) e4 hK0  h1 (inR_of (by decide))) (fun y7 g9 r8 e10 => ?_)
    refine go_ifeq k183_14 (inR_b r8) (fun c11 => ?_) (fun c12 => ?_)
    · refine go_aload k183_17 rfl ?_
      refine go_iload k183_18 rfl ?_
      refine go_iload k183_19 rfl ?_
      refine go_callN3 k183_20 rfl rfl rfl ⟨by decide, _, rfl, hK0⟩ ⟨Nat.zero_le _, Nat.zero_le _⟩ (by omega) (tfM_noExit (by omega) e10 hK0  h2 h3) (fun y13 g15 r14 e16 => ?_)
      refine go_ifeq k183_23 (inR_b r14) (fun c17 => ?_) (fun c18 => ?_)
      · refine go_aload k183_28 rfl ?_
        refine go_callN0 k183_29 rfl rfl rfl ⟨by decide, _, rfl, hK0⟩ ⟨Nat.zero_le _, Nat.zero_le _⟩ (by omega) (tfM_begins (by omega) e16 hK0 ) (fun y19 g21 e22 => ?_)
        refine go_aload k183_32 rfl ?_
        refine go_iload k183_33 rfl ?_
        refine go_iload k183_34 rfl ?_
        refine go_callN1 k183_35 rfl rfl rfl ⟨by decide, _, rfl, hK0⟩ ⟨Nat.zero_le _, Nat.zero_le _⟩ (by omega) (tfM_exits (by omega) e22 hK0  h2 h3) (fun y23 g25 r24 e26 => ?_)
        refine go_istore k183_38 rfl (loc2 := [some (sR v0), some (sI v1), some (sI v2), some (sI v3), some (sI y23), none]) rfl ?_
        refine go_iload k183_40 rfl ?_
        refine go_iflt k183_42 r24 (fun c27 => ?_) (fun c28 => ?_)
        · refine go_int k183_45 (-1) rfl ?_
          refine go_goto k183_46 ?_
          refine go_istore k183_58 rfl (loc2 := [some (sR v0), some (sI v1), some (sI v2), some (sI v3), some (sI y23), some (sI (-1))]) rfl ?_
          refine go_aload k183_60 rfl ?_
          refine go_callN0 k183_61 rfl rfl rfl ⟨by decide, _, rfl, hK0⟩ ⟨Nat.zero_le _, Nat.zero_le _⟩ (by omega) (tfM_ends (by omega) e26 hK0 ) (fun y29 g31 e32 => ?_)
          refine go_iload k183_64 rfl ?_
          exact go_iret k183_66 e32 (inR_of (by decide)) ⟨Nat.zero_le _, Nat.zero_le _⟩ rfl
        · refine go_aload k183_49 rfl ?_
          refine go_getR (bI := 0) k183_50 e26 hK0 (by decide) rfl rfl (fun r33 => ?_)
          refine go_int k183_53 11 rfl ?_
          refine go_iload k183_55 rfl ?_
          refine go_iadd k183_56 ?_
          refine go_ck (fun q35 => ?_)
          refine go_iald k183_57 e26 q35 (fun r34 => ?_)
          refine go_istore k183_58 rfl (loc2 := [some (sR v0), some (sI v1), some (sI v2), some (sI v3), some (sI y23), some (sI (g25 (g25 v0 0) (w32 (11 + v1))))]) rfl ?_
          refine go_aload k183_60 rfl ?_
          refine go_callN0 k183_61 rfl rfl rfl ⟨by decide, _, rfl, hK0⟩ ⟨Nat.zero_le _, Nat.zero_le _⟩ (by omega) (tfM_ends (by omega) e26 hK0 ) (fun y36 g38 e39 => ?_)
          refine go_iload k183_64 rfl ?_
          exact go_iret k183_66 e39 r34 ⟨Nat.zero_le _, Nat.zero_le _⟩ rfl
      · refine go_int k183_26 0 rfl ?_
        exact go_iret k183_27 e16 (inR_b (Or.inl rfl)) ⟨Nat.zero_le _, Nat.zero_le _⟩ rfl
    · refine go_int k183_26 0 rfl ?_
      exact go_iret k183_27 e10 (inR_b (Or.inl rfl)) ⟨Nat.zero_le _, Nat.zero_le _⟩ rfl
  · refine go_int k183_26 0 rfl ?_
    exact go_iret k183_27 e4 (inR_b (Or.inl rfl)) ⟨Nat.zero_le _, Nat.zero_le _⟩ rfl
theorem tfM_wouldFallBy {Φ : ev_P} {d : Nat} (hd : 9 ≤ d) {g : gH} (hg : HR g) {v0 v1 v2 : Int} (hK0 : kd v0 = 7) (h1 : InR v1) (h2 : InR v2) : Go Φ pr_P fN 1 (fM_wouldFallBy g v0 v1 v2) d (pr_P 184) 0 (ev_loc (pr_P 184).1 [(sR v0), (sI v1), (sI v2)]) [] g 0 0 := by
  show Go Φ pr_P fN 1 (fM_wouldFallBy g v0 v1 v2) d (pr_P 184) 0 [some (sR v0), some (sI v1), some (sI v2), none, none, none] [] g 0 0
  unfold fM_wouldFallBy
  refine go_aload k184_0 rfl ?_
  refine go_iload k184_1 rfl ?_
  refine go_iload k184_2 rfl ?_
  refine go_callN3 k184_3 rfl rfl rfl ⟨by decide, _, rfl, hK0⟩ ⟨Nat.zero_le _, Nat.zero_le _⟩ (by omega) (tfM_noKill (by omega) hg hK0  h1 h2) (fun y1 g3 r2 e4 => ?_)
  refine go_ifeq k184_6 (inR_b r2) (fun c5 => ?_) (fun c6 => ?_)
  · refine go_aload k184_11 rfl ?_
    refine go_getR (bI := 0) k184_12 e4 hK0 (by decide) rfl rfl (fun r7 => ?_)
    refine go_int k184_15 3 rfl ?_
    refine go_ck (fun q9 => ?_)
    refine go_iald k184_16 e4 q9 (fun r8 => ?_)
    refine go_istore k184_17 rfl (loc2 := [some (sR v0), some (sI v1), some (sI v2), some (sI (g3 (g3 v0 0) 3)), none, none]) rfl ?_
    refine go_aload k184_18 rfl ?_
    refine go_callN0 k184_19 rfl rfl rfl ⟨by decide, _, rfl, hK0⟩ ⟨Nat.zero_le _, Nat.zero_le _⟩ (by omega) (tfM_begins (by omega) e4 hK0 ) (fun y10 g12 e13 => ?_)
    refine go_aload k184_22 rfl ?_
    refine go_iload k184_23 rfl ?_
    refine go_iload k184_24 rfl ?_
    refine go_callN1 k184_25 rfl rfl rfl ⟨by decide, _, rfl, hK0⟩ ⟨Nat.zero_le _, Nat.zero_le _⟩ (by omega) (tfM_kills (by omega) e13 hK0  h1 h2) (fun y14 g16 r15 e17 => ?_)
    refine go_istore k184_28 rfl (loc2 := [some (sR v0), some (sI v1), some (sI v2), some (sI (g3 (g3 v0 0) 3)), some (sI y14), none]) rfl ?_
    refine go_iload k184_30 rfl ?_
    refine go_iflt k184_32 r15 (fun c18 => ?_) (fun c19 => ?_)
    · refine go_int k184_35 (-1) rfl ?_
      refine go_goto k184_36 ?_
      refine go_istore k184_47 rfl (loc2 := [some (sR v0), some (sI v1), some (sI v2), some (sI (g3 (g3 v0 0) 3)), some (sI y14), some (sI (-1))]) rfl ?_
      refine go_aload k184_49 rfl ?_
      refine go_callN0 k184_50 rfl rfl rfl ⟨by decide, _, rfl, hK0⟩ ⟨Nat.zero_le _, Nat.zero_le _⟩ (by omega) (tfM_ends (by omega) e17 hK0 ) (fun y20 g22 e23 => ?_)
      refine go_iload k184_53 rfl ?_
      exact go_iret k184_55 e23 (inR_of (by decide)) ⟨Nat.zero_le _, Nat.zero_le _⟩ rfl
    · refine go_aload k184_39 rfl ?_
      refine go_getR (bI := 0) k184_40 e17 hK0 (by decide) rfl rfl (fun r24 => ?_)
      refine go_int k184_43 3 rfl ?_
      refine go_ck (fun q26 => ?_)
      refine go_iald k184_44 e17 q26 (fun r25 => ?_)
      refine go_iload k184_45 rfl ?_
      refine go_isub k184_46 ?_
      refine go_istore k184_47 rfl (loc2 := [some (sR v0), some (sI v1), some (sI v2), some (sI (g3 (g3 v0 0) 3)), some (sI y14), some (sI (w32 ((g16 (g16 v0 0) 3) - (g3 (g3 v0 0) 3))))]) rfl ?_
      refine go_aload k184_49 rfl ?_
      refine go_callN0 k184_50 rfl rfl rfl ⟨by decide, _, rfl, hK0⟩ ⟨Nat.zero_le _, Nat.zero_le _⟩ (by omega) (tfM_ends (by omega) e17 hK0 ) (fun y27 g29 e30 => ?_)
      refine go_iload k184_53 rfl ?_
      exact go_iret k184_55 e30 (inR_w32 _) ⟨Nat.zero_le _, Nat.zero_le _⟩ rfl
  · refine go_int k184_9 0 rfl ?_
    exact go_iret k184_10 e4 (inR_b (Or.inl rfl)) ⟨Nat.zero_le _, Nat.zero_le _⟩ rfl
theorem tfM_wouldRun {Φ : ev_P} {d : Nat} (hd : 9 ≤ d) {g : gH} (hg : HR g) {v0 v1 v2 : Int} (hK0 : kd v0 = 7) (h1 : InR v1) (h2 : InR v2) : Go Φ pr_P fN 1 (fM_wouldRun g v0 v1 v2) d (pr_P 185) 0 (ev_loc (pr_P 185).1 [(sR v0), (sI v1), (sI v2)]) [] g 0 0 := by
  show Go Φ pr_P fN 1 (fM_wouldRun g v0 v1 v2) d (pr_P 185) 0 [some (sR v0), some (sI v1), some (sI v2), none, none] [] g 0 0
  unfold fM_wouldRun
  refine go_aload k185_0 rfl ?_
  refine go_iload k185_1 rfl ?_
  refine go_iload k185_2 rfl ?_
  refine go_callN3 k185_3 rfl rfl rfl ⟨by decide, _, rfl, hK0⟩ ⟨Nat.zero_le _, Nat.zero_le _⟩ (by omega) (tfM_noKill (by omega) hg hK0  h1 h2) (fun y1 g3 r2 e4 => ?_)
  refine go_ifeq k185_6 (inR_b r2) (fun c5 => ?_) (fun c6 => ?_)
  · refine go_aload k185_11 rfl ?_
    refine go_callN0 k185_12 rfl rfl rfl ⟨by decide, _, rfl, hK0⟩ ⟨Nat.zero_le _, Nat.zero_le _⟩ (by omega) (tfM_begins (by omega) e4 hK0 ) (fun y7 g9 e10 => ?_)
    refine go_aload k185_15 rfl ?_
    refine go_iload k185_16 rfl ?_
    refine go_iload k185_17 rfl ?_
    refine go_callN1 k185_18 rfl rfl rfl ⟨by decide, _, rfl, hK0⟩ ⟨Nat.zero_le _, Nat.zero_le _⟩ (by omega) (tfM_kills (by omega) e10 hK0  h1 h2) (fun y11 g13 r12 e14 => ?_)
    refine go_istore k185_21 rfl (loc2 := [some (sR v0), some (sI v1), some (sI v2), some (sI y11), none]) rfl ?_
    refine go_iload k185_22 rfl ?_
    refine go_iflt k185_23 r12 (fun c15 => ?_) (fun c16 => ?_)
    · refine go_int k185_26 (-1) rfl ?_
      refine go_goto k185_27 ?_
      refine go_istore k185_34 rfl (loc2 := [some (sR v0), some (sI v1), some (sI v2), some (sI y11), some (sI (-1))]) rfl ?_
      refine go_aload k185_36 rfl ?_
      refine go_callN0 k185_37 rfl rfl rfl ⟨by decide, _, rfl, hK0⟩ ⟨Nat.zero_le _, Nat.zero_le _⟩ (by omega) (tfM_ends (by omega) e14 hK0 ) (fun y17 g19 e20 => ?_)
      refine go_iload k185_40 rfl ?_
      exact go_iret k185_42 e20 (inR_of (by decide)) ⟨Nat.zero_le _, Nat.zero_le _⟩ rfl
    · refine go_aload k185_30 rfl ?_
      refine go_callP1 k185_31 rfl rfl rfl ⟨by decide, _, rfl, hK0⟩ ⟨Nat.zero_le _, Nat.zero_le _⟩ (by omega) (tfM_runningMany (by omega) e14 hK0 ) (fun y21 r22 => ?_)
      refine go_istore k185_34 rfl (loc2 := [some (sR v0), some (sI v1), some (sI v2), some (sI y11), some (sI y21)]) rfl ?_
      refine go_aload k185_36 rfl ?_
      refine go_callN0 k185_37 rfl rfl rfl ⟨by decide, _, rfl, hK0⟩ ⟨Nat.zero_le _, Nat.zero_le _⟩ (by omega) (tfM_ends (by omega) e14 hK0 ) (fun y25 g27 e28 => ?_)
      refine go_iload k185_40 rfl ?_
      exact go_iret k185_42 e28 r22 ⟨Nat.zero_le _, Nat.zero_le _⟩ rfl
  · refine go_int k185_9 0 rfl ?_
    exact go_iret k185_10 e4 (inR_b (Or.inl rfl)) ⟨Nat.zero_le _, Nat.zero_le _⟩ rfl
theorem tjM_weakest_69 {Φ : ev_P} {d : Nat} (hd : 9 ≤ d) {X38 : Int → Int → Int → gH → Option (Int × gH)} {g : gH} (hg : HR g) {v0 v1 v2 v3 v4 : Int} (hK0 : kd v0 = 7) (h1 : InR v1) (h2 : InR v2) (h3 : InR v3) (h4 : InR v4) {s0 : Int} (z0 : InR s0) (HX38 : ∀ (v2 : Int) (h2 : InR v2) (v3 : Int) (h3 : InR v3) (v4 : Int) (h4 : InR v4) (g : gH) (hg : HR g) (u5 : Option ev_V) (w5 : nwo u5), Go Φ pr_P fN 1 (X38 v2 v3 v4 g) d (pr_P 186) 38 [some (sR v0), some (sI v1), some (sI v2), some (sI v3), some (sI v4), u5] [] g 0 0) (u5 : Option ev_V) (w5 : nwo u5) : Go Φ pr_P fN 1 (jM_weakest_69 X38 g v0 v1 v2 v3 v4 s0 ) d (pr_P 186) 69 [some (sR v0), some (sI v1), some (sI v2), some (sI v3), some (sI v4), u5] [(sI s0)] g 0 0 := by
  unfold jM_weakest_69
  refine go_istore k186_69 rfl (loc2 := [some (sR v0), some (sI v1), some (sI v2), some (sI v3), some (sI v4), some (sI s0)]) rfl ?_
  refine go_iload k186_71 rfl ?_
  refine go_iload k186_73 rfl ?_
  refine go_cmgt k186_74 z0 h3 (fun c31 => ?_) (fun c32 => ?_)
  · refine go_iload k186_77 rfl ?_
    refine go_istore k186_79 rfl (loc2 := [some (sR v0), some (sI v1), some (sI v4), some (sI v3), some (sI v4), some (sI s0)]) rfl ?_
    refine go_iload k186_80 rfl ?_
    refine go_iload k186_81 rfl ?_
    refine go_max k186_83 h3 z0 rfl ⟨Nat.zero_le _, Nat.zero_le _⟩ ?_
    refine go_istore k186_86 rfl (loc2 := [some (sR v0), some (sI v1), some (sI v4), some (sI (gmax v3 s0)), some (sI v4), some (sI s0)]) rfl ?_
    refine go_iinc k186_87 rfl rfl 1 rfl (loc2 := [some (sR v0), some (sI v1), some (sI v4), some (sI (gmax v3 s0)), some (sI (w32 (v4 + 1))), some (sI s0)]) rfl ?_
    refine go_goto k186_90 ?_
    exact HX38 v4 h4 (gmax v3 s0) (inR_gmax h3 z0) (w32 (v4 + 1)) (inR_w32 _) g hg (some (sI s0)) rfl
  · refine go_iload k186_80 rfl ?_
    refine go_iload k186_81 rfl ?_
    refine go_max k186_83 h3 z0 rfl ⟨Nat.zero_le _, Nat.zero_le _⟩ ?_
    refine go_istore k186_86 rfl (loc2 := [some (sR v0), some (sI v1), some (sI v2), some (sI (gmax v3 s0)), some (sI v4), some (sI s0)]) rfl ?_
    refine go_iinc k186_87 rfl rfl 1 rfl (loc2 := [some (sR v0), some (sI v1), some (sI v2), some (sI (gmax v3 s0)), some (sI (w32 (v4 + 1))), some (sI s0)]) rfl ?_
    refine go_goto k186_90 ?_
    exact HX38 v2 h2 (gmax v3 s0) (inR_gmax h3 z0) (w32 (v4 + 1)) (inR_w32 _) g hg (some (sI s0)) rfl
theorem tbM_weakest_38 {Φ : ev_P} {d : Nat} (hd : 9 ≤ d) {v0 v1 : Int} (hK0 : kd v0 = 7) (h1 : InR v1) {X38 : Int → Int → Int → gH → Option (Int × gH)} (HX38 : ∀ (v2 : Int) (h2 : InR v2) (v3 : Int) (h3 : InR v3) (v4 : Int) (h4 : InR v4) (g : gH) (hg : HR g) (u5 : Option ev_V) (w5 : nwo u5), Go Φ pr_P fN 1 (X38 v2 v3 v4 g) d (pr_P 186) 38 [some (sR v0), some (sI v1), some (sI v2), some (sI v3), some (sI v4), u5] [] g 0 0) : ∀ (v2 : Int) (h2 : InR v2) (v3 : Int) (h3 : InR v3) (v4 : Int) (h4 : InR v4) (g : gH) (hg : HR g) (u5 : Option ev_V) (w5 : nwo u5), Go Φ pr_P fN 1 (bM_weakest_38 v0 v1 X38 v2 v3 v4 g) d (pr_P 186) 38 [some (sR v0), some (sI v1), some (sI v2), some (sI v3), some (sI v4), u5] [] g 0 0 := by
  intro v2 h2 v3 h3 v4 h4 g hg u5 w5
  unfold bM_weakest_38
  refine go_iload k186_38 rfl ?_
  refine go_aload k186_40 rfl ?_
  refine go_getR (bI := 0) k186_41 hg hK0 (by decide) rfl rfl (fun r16 => ?_)
  refine go_int k186_44 0 rfl ?_
  refine go_ck (fun q18 => ?_)
  refine go_iald k186_45 hg q18 (fun r17 => ?_)
  refine go_cmlt k186_46 h4 r17 (fun c19 => ?_) (fun c20 => ?_)
  · refine go_aload k186_49 rfl ?_
    refine go_iload k186_50 rfl ?_
    refine go_callP3 k186_52 rfl rfl rfl ⟨by decide, _, rfl, hK0⟩ ⟨Nat.zero_le _, Nat.zero_le _⟩ (by omega) (tfM_runs (by omega) hg hK0  h4) (fun y21 r22 => ?_)
    refine go_ifeq k186_55 (inR_b r22) (fun c25 => ?_) (fun c26 => ?_)
    · refine go_int k186_68 (-1) rfl ?_
      exact tjM_weakest_69 hd hg hK0 h1 h2 h3 h4 (inR_of (by decide)) HX38 u5 w5
    · refine go_aload k186_58 rfl ?_
      refine go_iload k186_59 rfl ?_
      refine go_iload k186_61 rfl ?_
      refine go_callN1 k186_62 rfl rfl rfl ⟨by decide, _, rfl, hK0⟩ ⟨Nat.zero_le _, Nat.zero_le _⟩ (by omega) (tfM_fallsBy (by omega) hg hK0  h4 h1) (fun y27 g29 r28 e30 => ?_)
      refine go_goto k186_65 ?_
      exact tjM_weakest_69 hd e30 hK0 h1 h2 h3 h4 r28 HX38 u5 w5
  · refine go_iload k186_93 rfl ?_
    exact go_iret k186_94 hg h2 ⟨Nat.zero_le _, Nat.zero_le _⟩ rfl
theorem tlM_weakest_38 {Φ : ev_P} {d : Nat} (hd : 9 ≤ d) {v0 v1 : Int} (hK0 : kd v0 = 7) (h1 : InR v1) : ∀ n : Nat, ∀ (v2 : Int) (h2 : InR v2) (v3 : Int) (h3 : InR v3) (v4 : Int) (h4 : InR v4) (g : gH) (hg : HR g) (u5 : Option ev_V) (w5 : nwo u5), Go Φ pr_P fN 1 (lM_weakest_38 v0 v1 n v2 v3 v4 g) d (pr_P 186) 38 [some (sR v0), some (sI v1), some (sI v2), some (sI v3), some (sI v4), u5] [] g 0 0 := by
  intro n
  induction n with
  | zero => intros; exact go_none
  | succ n ih => exact tbM_weakest_38 hd hK0 h1 ih
theorem tjM_weakest_22 {Φ : ev_P} {d : Nat} (hd : 9 ≤ d) {g : gH} (hg : HR g) {v0 v1 : Int} (hK0 : kd v0 = 7) (h1 : InR v1) {s0 s1 : Int} (z0 : RfR s0) (z1 : B01 s1) (u2 : Option ev_V) (w2 : nwo u2) (u3 : Option ev_V) (w3 : nwo u3) (u4 : Option ev_V) (w4 : nwo u4) (u5 : Option ev_V) (w5 : nwo u5) : Go Φ pr_P fN 1 (jM_weakest_22 g v0 v1 s0 s1 ) d (pr_P 186) 22 [some (sR v0), some (sI v1), u2, u3, u4, u5] [(sI s1), (sR s0)] g 0 0 := by
  unfold jM_weakest_22
  refine go_int k186_22 1 rfl ?_
  refine go_ck (fun q9 => ?_)
  refine go_callN3 k186_23 rfl rfl rfl ⟨by decide, _, rfl, q9⟩ ⟨Nat.zero_le _, Nat.zero_le _⟩ (by omega) (tfM_fails (by omega) hg q9  z1 (inR_b (Or.inr rfl))) (fun y10 g12 r11 e13 => ?_)
  refine go_ifeq k186_26 (inR_b r11) (fun c14 => ?_) (fun c15 => ?_)
  · refine go_int k186_31 (-1) rfl ?_
    refine go_istore k186_32 rfl (loc2 := [some (sR v0), some (sI v1), some (sI (-1)), u3, u4, u5]) rfl ?_
    refine go_int k186_33 (-1) rfl ?_
    refine go_istore k186_34 rfl (loc2 := [some (sR v0), some (sI v1), some (sI (-1)), some (sI (-1)), u4, u5]) rfl ?_
    refine go_int k186_35 1 rfl ?_
    refine go_istore k186_36 rfl (loc2 := [some (sR v0), some (sI v1), some (sI (-1)), some (sI (-1)), some (sI 1), u5]) rfl ?_
    exact tlM_weakest_38 hd hK0 h1 fu (-1) (inR_of (by decide)) (-1) (inR_of (by decide)) 1 (inR_b (Or.inr rfl)) g12 e13 u5 w5
  · refine go_int k186_29 0 rfl ?_
    exact go_iret k186_30 e13 (inR_b (Or.inl rfl)) ⟨Nat.zero_le _, Nat.zero_le _⟩ rfl
theorem tfM_weakest {Φ : ev_P} {d : Nat} (hd : 9 ≤ d) {g : gH} (hg : HR g) {v0 v1 : Int} (hK0 : kd v0 = 7) (h1 : InR v1) : Go Φ pr_P fN 1 (fM_weakest g v0 v1) d (pr_P 186) 0 (ev_loc (pr_P 186).1 [(sR v0), (sI v1)]) [] g 0 0 := by
  show Go Φ pr_P fN 1 (fM_weakest g v0 v1) d (pr_P 186) 0 [some (sR v0), some (sI v1), none, none, none, none] [] g 0 0
  unfold fM_weakest
  refine go_aload k186_0 rfl ?_
  refine go_int k186_1 0 rfl ?_
  refine go_putI (bI := 8) k186_2 hg hK0 (by decide) rfl rfl (inR_b (Or.inl rfl)) (fun g1 e2 => ?_)
  refine go_aload k186_5 rfl ?_
  refine go_iload k186_6 rfl ?_
  refine go_int k186_7 0 rfl ?_
  refine go_int k186_8 255 rfl ?_
  refine go_callP3 k186_11 rfl rfl rfl trivial ⟨Nat.zero_le _, Nat.zero_le _⟩ (by omega) (tfM_inRange (by omega) e2  h1 (inR_b (Or.inl rfl)) (inR_of (by decide))) (fun y3 r4 => ?_)
  refine go_ifeq k186_14 (inR_b r4) (fun c7 => ?_) (fun c8 => ?_)
  · refine go_int k186_17 1 rfl ?_
    refine go_goto k186_18 ?_
    exact tjM_weakest_22 hd e2 hK0 h1 (rfR_kd hK0 (by decide)) (Or.inr rfl) none rfl none rfl none rfl none rfl
  · refine go_int k186_21 0 rfl ?_
    exact tjM_weakest_22 hd e2 hK0 h1 (rfR_kd hK0 (by decide)) (Or.inl rfl) none rfl none rfl none rfl none rfl
theorem tfM_betterCode {Φ : ev_P} {d : Nat} (hd : 9 ≤ d) {g : gH} (hg : HR g) {v0 v1 : Int} (hK0 : kd v0 = 7) (h1 : InR v1) : Go Φ pr_P fN 1 (fM_betterCode g v0 v1) d (pr_P 187) 0 (ev_loc (pr_P 187).1 [(sR v0), (sI v1)]) [] g 0 0 := by
  show Go Φ pr_P fN 1 (fM_betterCode g v0 v1) d (pr_P 187) 0 [some (sR v0), some (sI v1)] [] g 0 0
  unfold fM_betterCode
  refine go_aload k187_0 rfl ?_
  refine go_iload k187_1 rfl ?_
  refine go_int k187_2 2 rfl ?_
  refine go_callN3 k187_3 rfl rfl rfl ⟨by decide, _, rfl, hK0⟩ ⟨Nat.zero_le _, Nat.zero_le _⟩ (by omega) (tfM_notExiting (by omega) hg hK0  h1 (inR_of (by decide))) (fun y1 g3 r2 e4 => ?_)
  refine go_ifeq k187_6 (inR_b r2) (fun c5 => ?_) (fun c6 => ?_)
  · refine go_aload k187_13 rfl ?_
    refine go_iload k187_14 rfl ?_
    refine go_int k187_15 1 rfl ?_
    refine go_callN1 k187_16 rfl rfl rfl ⟨by decide, _, rfl, hK0⟩ ⟨Nat.zero_le _, Nat.zero_le _⟩ (by omega) (tfM_fallsBy (by omega) e4 hK0  h1 (inR_b (Or.inr rfl))) (fun y7 g9 r8 e10 => ?_)
    refine go_aload k187_19 rfl ?_
    refine go_iload k187_20 rfl ?_
    refine go_int k187_21 0 rfl ?_
    refine go_callN1 k187_22 rfl rfl rfl ⟨by decide, _, rfl, hK0⟩ ⟨Nat.zero_le _, Nat.zero_le _⟩ (by omega) (tfM_fallsBy (by omega) e10 hK0  h1 (inR_b (Or.inl rfl))) (fun y11 g13 r12 e14 => ?_)
    refine go_cmlt k187_25 r8 r12 (fun c15 => ?_) (fun c16 => ?_)
    · refine go_int k187_28 1 rfl ?_
      refine go_goto k187_29 ?_
      exact go_iret k187_33 e14 (inR_b (Or.inr rfl)) ⟨Nat.zero_le _, Nat.zero_le _⟩ rfl
    · refine go_int k187_32 0 rfl ?_
      exact go_iret k187_33 e14 (inR_b (Or.inl rfl)) ⟨Nat.zero_le _, Nat.zero_le _⟩ rfl
  · refine go_int k187_9 0 rfl ?_
    refine go_goto k187_10 ?_
    exact go_iret k187_33 e4 (inR_b (Or.inl rfl)) ⟨Nat.zero_le _, Nat.zero_le _⟩ rfl
theorem tbM_dutyLife_22 {Φ : ev_P} {d : Nat} (hd : 8 ≤ d) {v0 v1 : Int} (hK0 : kd v0 = 7) (h1 : InR v1) {X22 : Int → gH → Option (Int × gH)} (HX22 : ∀ (v2 : Int) (h2 : InR v2) (g : gH) (hg : HR g) (u3 : Option ev_V) (w3 : nwo u3), Go Φ pr_P fN 1 (X22 v2 g) d (pr_P 188) 22 [some (sR v0), some (sI v1), some (sI v2), u3] [] g 0 0) : ∀ (v2 : Int) (h2 : InR v2) (g : gH) (hg : HR g) (u3 : Option ev_V) (w3 : nwo u3), Go Φ pr_P fN 1 (bM_dutyLife_22 v0 v1 X22 v2 g) d (pr_P 188) 22 [some (sR v0), some (sI v1), some (sI v2), u3] [] g 0 0 := by
  intro v2 h2 g hg u3 w3
  unfold bM_dutyLife_22
  refine go_aload k188_22 rfl ?_
  refine go_getR (bI := 0) k188_23 hg hK0 (by decide) rfl rfl (fun r13 => ?_)
  refine go_int k188_26 11 rfl ?_
  refine go_iload k188_28 rfl ?_
  refine go_iadd k188_29 ?_
  refine go_ck (fun q15 => ?_)
  refine go_iald k188_30 hg q15 (fun r14 => ?_)
  refine go_ifeq k188_31 r14 (fun c16 => ?_) (fun c17 => ?_)
  · refine go_aload k188_64 rfl ?_
    refine go_callN0 k188_65 rfl rfl rfl ⟨by decide, _, rfl, hK0⟩ ⟨Nat.zero_le _, Nat.zero_le _⟩ (by omega) (tfM_ends (by omega) hg hK0 ) (fun y18 g20 e21 => ?_)
    refine go_iload k188_68 rfl ?_
    exact go_iret k188_69 e21 h2 ⟨Nat.zero_le _, Nat.zero_le _⟩ rfl
  · refine go_aload k188_34 rfl ?_
    refine go_aload k188_35 rfl ?_
    refine go_getR (bI := 0) k188_36 hg hK0 (by decide) rfl rfl (fun r22 => ?_)
    refine go_int k188_39 11 rfl ?_
    refine go_iload k188_41 rfl ?_
    refine go_iadd k188_42 ?_
    refine go_ck (fun q24 => ?_)
    refine go_iald k188_43 hg q24 (fun r23 => ?_)
    refine go_int k188_44 0 rfl ?_
    refine go_callN1 k188_45 rfl rfl rfl ⟨by decide, _, rfl, hK0⟩ ⟨Nat.zero_le _, Nat.zero_le _⟩ (by omega) (tfM_exits (by omega) hg hK0  r23 (inR_b (Or.inl rfl))) (fun y25 g27 r26 e28 => ?_)
    refine go_istore k188_48 rfl (loc2 := [some (sR v0), some (sI v1), some (sI v2), some (sI y25)]) rfl ?_
    refine go_iload k188_49 rfl ?_
    refine go_iload k188_50 rfl ?_
    refine go_iflt k188_51 r26 (fun c29 => ?_) (fun c30 => ?_)
    · refine go_int k188_54 0 rfl ?_
      refine go_goto k188_55 ?_
      refine go_iadd k188_59 ?_
      refine go_istore k188_60 rfl (loc2 := [some (sR v0), some (sI v1), some (sI (w32 (v2 + 0))), some (sI y25)]) rfl ?_
      refine go_goto k188_61 ?_
      exact HX22 (w32 (v2 + 0)) (inR_w32 _) g27 e28 (some (sI y25)) rfl
    · refine go_int k188_58 1 rfl ?_
      refine go_iadd k188_59 ?_
      refine go_istore k188_60 rfl (loc2 := [some (sR v0), some (sI v1), some (sI (w32 (v2 + 1))), some (sI y25)]) rfl ?_
      refine go_goto k188_61 ?_
      exact HX22 (w32 (v2 + 1)) (inR_w32 _) g27 e28 (some (sI y25)) rfl
theorem tlM_dutyLife_22 {Φ : ev_P} {d : Nat} (hd : 8 ≤ d) {v0 v1 : Int} (hK0 : kd v0 = 7) (h1 : InR v1) : ∀ n : Nat, ∀ (v2 : Int) (h2 : InR v2) (g : gH) (hg : HR g) (u3 : Option ev_V) (w3 : nwo u3), Go Φ pr_P fN 1 (lM_dutyLife_22 v0 v1 n v2 g) d (pr_P 188) 22 [some (sR v0), some (sI v1), some (sI v2), u3] [] g 0 0 := by
  intro n
  induction n with
  | zero => intros; exact go_none
  | succ n ih => exact tbM_dutyLife_22 hd hK0 h1 ih
theorem tfM_dutyLife {Φ : ev_P} {d : Nat} (hd : 8 ≤ d) {g : gH} (hg : HR g) {v0 v1 : Int} (hK0 : kd v0 = 7) (h1 : InR v1) : Go Φ pr_P fN 1 (fM_dutyLife g v0 v1) d (pr_P 188) 0 (ev_loc (pr_P 188).1 [(sR v0), (sI v1)]) [] g 0 0 := by
  show Go Φ pr_P fN 1 (fM_dutyLife g v0 v1) d (pr_P 188) 0 [some (sR v0), some (sI v1), none, none] [] g 0 0
  unfold fM_dutyLife
  refine go_aload k188_0 rfl ?_
  refine go_int k188_1 0 rfl ?_
  refine go_putI (bI := 8) k188_2 hg hK0 (by decide) rfl rfl (inR_b (Or.inl rfl)) (fun g1 e2 => ?_)
  refine go_aload k188_5 rfl ?_
  refine go_iload k188_6 rfl ?_
  refine go_int k188_7 1 rfl ?_
  refine go_callN3 k188_8 rfl rfl rfl ⟨by decide, _, rfl, hK0⟩ ⟨Nat.zero_le _, Nat.zero_le _⟩ (by omega) (tfM_noDuty (by omega) e2 hK0  h1 (inR_b (Or.inr rfl))) (fun y3 g5 r4 e6 => ?_)
  refine go_ifeq k188_11 (inR_b r4) (fun c7 => ?_) (fun c8 => ?_)
  · refine go_aload k188_16 rfl ?_
    refine go_callN0 k188_17 rfl rfl rfl ⟨by decide, _, rfl, hK0⟩ ⟨Nat.zero_le _, Nat.zero_le _⟩ (by omega) (tfM_begins (by omega) e6 hK0 ) (fun y9 g11 e12 => ?_)
    refine go_int k188_20 0 rfl ?_
    refine go_istore k188_21 rfl (loc2 := [some (sR v0), some (sI v1), some (sI 0), none]) rfl ?_
    exact tlM_dutyLife_22 hd hK0 h1 fu 0 (inR_b (Or.inl rfl)) g11 e12 none rfl
  · refine go_int k188_14 0 rfl ?_
    exact go_iret k188_15 e6 (inR_b (Or.inl rfl)) ⟨Nat.zero_le _, Nat.zero_le _⟩ rfl
theorem tbM_roomiest_31 {Φ : ev_P} {d : Nat} (hd : 3 ≤ d) {g : gH} (hg : HR g) {v0 v1 : Int} (hK0 : kd v0 = 7) (h1 : InR v1) {X31 : Int → Int → Option (Int × gH)} (HX31 : ∀ (v2 : Int) (h2 : InR v2) (v3 : Int) (h3 : InR v3), Go Φ pr_P fN 1 (X31 v2 v3) d (pr_P 189) 31 [some (sR v0), some (sI v1), some (sI v2), some (sI v3)] [] g 0 0) : ∀ (v2 : Int) (h2 : InR v2) (v3 : Int) (h3 : InR v3), Go Φ pr_P fN 1 (bM_roomiest_31 g v0 v1 X31 v2 v3) d (pr_P 189) 31 [some (sR v0), some (sI v1), some (sI v2), some (sI v3)] [] g 0 0 := by
  intro v2 h2 v3 h3
  unfold bM_roomiest_31
  refine go_iload k189_31 rfl ?_
  refine go_aload k189_32 rfl ?_
  refine go_getR (bI := 0) k189_33 hg hK0 (by decide) rfl rfl (fun r16 => ?_)
  refine go_int k189_36 0 rfl ?_
  refine go_ck (fun q18 => ?_)
  refine go_iald k189_37 hg q18 (fun r17 => ?_)
  refine go_cmlt k189_38 h3 r17 (fun c19 => ?_) (fun c20 => ?_)
  · refine go_aload k189_41 rfl ?_
    refine go_iload k189_42 rfl ?_
    refine go_callP1 k189_43 rfl rfl rfl ⟨by decide, _, rfl, hK0⟩ ⟨Nat.zero_le _, Nat.zero_le _⟩ (by omega) (tfM_roomOf (by omega) hg hK0  h3) (fun y21 r22 => ?_)
    refine go_ifeq k189_46 r22 (fun c25 => ?_) (fun c26 => ?_)
    · refine go_iinc k189_81 rfl rfl 1 rfl (loc2 := [some (sR v0), some (sI v1), some (sI v2), some (sI (w32 (v3 + 1)))]) rfl ?_
      refine go_goto k189_84 ?_
      exact HX31 v2 h2 (w32 (v3 + 1)) (inR_w32 _)
    · refine go_aload k189_49 rfl ?_
      refine go_iload k189_50 rfl ?_
      refine go_iload k189_51 rfl ?_
      refine go_callP3 k189_52 rfl rfl rfl ⟨by decide, _, rfl, hK0⟩ ⟨Nat.zero_le _, Nat.zero_le _⟩ (by omega) (tfM_refusesGroup (by omega) hg hK0  h3 h1) (fun y27 r28 => ?_)
      refine go_ifeq k189_55 (inR_b r28) (fun c31 => ?_) (fun c32 => ?_)
      · refine go_iload k189_61 rfl ?_
        refine go_int k189_62 (-1) rfl ?_
        refine go_cmeq k189_63 h2 (inR_of (by decide)) (fun c33 => ?_) (fun c34 => ?_)
        · refine go_iload k189_79 rfl ?_
          refine go_istore k189_80 rfl (loc2 := [some (sR v0), some (sI v1), some (sI v3), some (sI v3)]) rfl ?_
          refine go_iinc k189_81 rfl rfl 1 rfl (loc2 := [some (sR v0), some (sI v1), some (sI v3), some (sI (w32 (v3 + 1)))]) rfl ?_
          refine go_goto k189_84 ?_
          exact HX31 v3 h3 (w32 (v3 + 1)) (inR_w32 _)
        · refine go_aload k189_66 rfl ?_
          refine go_iload k189_67 rfl ?_
          refine go_callP1 k189_68 rfl rfl rfl ⟨by decide, _, rfl, hK0⟩ ⟨Nat.zero_le _, Nat.zero_le _⟩ (by omega) (tfM_roomOf (by omega) hg hK0  h3) (fun y35 r36 => ?_)
          refine go_aload k189_71 rfl ?_
          refine go_iload k189_72 rfl ?_
          refine go_callP1 k189_73 rfl rfl rfl ⟨by decide, _, rfl, hK0⟩ ⟨Nat.zero_le _, Nat.zero_le _⟩ (by omega) (tfM_roomOf (by omega) hg hK0  h2) (fun y39 r40 => ?_)
          refine go_cmgt k189_76 r36 r40 (fun c43 => ?_) (fun c44 => ?_)
          · refine go_iload k189_79 rfl ?_
            refine go_istore k189_80 rfl (loc2 := [some (sR v0), some (sI v1), some (sI v3), some (sI v3)]) rfl ?_
            refine go_iinc k189_81 rfl rfl 1 rfl (loc2 := [some (sR v0), some (sI v1), some (sI v3), some (sI (w32 (v3 + 1)))]) rfl ?_
            refine go_goto k189_84 ?_
            exact HX31 v3 h3 (w32 (v3 + 1)) (inR_w32 _)
          · refine go_iinc k189_81 rfl rfl 1 rfl (loc2 := [some (sR v0), some (sI v1), some (sI v2), some (sI (w32 (v3 + 1)))]) rfl ?_
            refine go_goto k189_84 ?_
            exact HX31 v2 h2 (w32 (v3 + 1)) (inR_w32 _)
      · refine go_goto k189_58 ?_
        refine go_iinc k189_81 rfl rfl 1 rfl (loc2 := [some (sR v0), some (sI v1), some (sI v2), some (sI (w32 (v3 + 1)))]) rfl ?_
        refine go_goto k189_84 ?_
        exact HX31 v2 h2 (w32 (v3 + 1)) (inR_w32 _)
  · refine go_iload k189_87 rfl ?_
    exact go_iret k189_88 hg h2 ⟨Nat.zero_le _, Nat.zero_le _⟩ rfl
theorem tlM_roomiest_31 {Φ : ev_P} {d : Nat} (hd : 3 ≤ d) {g : gH} (hg : HR g) {v0 v1 : Int} (hK0 : kd v0 = 7) (h1 : InR v1) : ∀ n : Nat, ∀ (v2 : Int) (h2 : InR v2) (v3 : Int) (h3 : InR v3), Go Φ pr_P fN 1 (lM_roomiest_31 g v0 v1 n v2 v3) d (pr_P 189) 31 [some (sR v0), some (sI v1), some (sI v2), some (sI v3)] [] g 0 0 := by
  intro n
  induction n with
  | zero => intros; exact go_none
  | succ n ih => exact tbM_roomiest_31 hd hg hK0 h1 ih
theorem tjM_roomiest_18 {Φ : ev_P} {d : Nat} (hd : 3 ≤ d) {g : gH} (hg : HR g) {v0 v1 : Int} (hK0 : kd v0 = 7) (h1 : InR v1) {s0 s1 : Int} (z0 : RfR s0) (z1 : B01 s1) (u2 : Option ev_V) (w2 : nwo u2) (u3 : Option ev_V) (w3 : nwo u3) : Go Φ pr_P fN 1 (jM_roomiest_18 g v0 v1 s0 s1 ) d (pr_P 189) 18 [some (sR v0), some (sI v1), u2, u3] [(sI s1), (sR s0)] g 0 0 := by
  unfold jM_roomiest_18
  refine go_int k189_18 1 rfl ?_
  refine go_ck (fun q9 => ?_)
  refine go_callN3 k189_19 rfl rfl rfl ⟨by decide, _, rfl, q9⟩ ⟨Nat.zero_le _, Nat.zero_le _⟩ (by omega) (tfM_fails (by omega) hg q9  z1 (inR_b (Or.inr rfl))) (fun y10 g12 r11 e13 => ?_)
  refine go_ifeq k189_22 (inR_b r11) (fun c14 => ?_) (fun c15 => ?_)
  · refine go_int k189_27 (-1) rfl ?_
    refine go_istore k189_28 rfl (loc2 := [some (sR v0), some (sI v1), some (sI (-1)), u3]) rfl ?_
    refine go_int k189_29 1 rfl ?_
    refine go_istore k189_30 rfl (loc2 := [some (sR v0), some (sI v1), some (sI (-1)), some (sI 1)]) rfl ?_
    exact tlM_roomiest_31 hd e13 hK0 h1 fu (-1) (inR_of (by decide)) 1 (inR_b (Or.inr rfl))
  · refine go_int k189_25 0 rfl ?_
    exact go_iret k189_26 e13 (inR_b (Or.inl rfl)) ⟨Nat.zero_le _, Nat.zero_le _⟩ rfl
theorem tfM_roomiest {Φ : ev_P} {d : Nat} (hd : 3 ≤ d) {g : gH} (hg : HR g) {v0 v1 : Int} (hK0 : kd v0 = 7) (h1 : InR v1) : Go Φ pr_P fN 1 (fM_roomiest g v0 v1) d (pr_P 189) 0 (ev_loc (pr_P 189).1 [(sR v0), (sI v1)]) [] g 0 0 := by
  show Go Φ pr_P fN 1 (fM_roomiest g v0 v1) d (pr_P 189) 0 [some (sR v0), some (sI v1), none, none] [] g 0 0
  unfold fM_roomiest
  refine go_aload k189_0 rfl ?_
  refine go_int k189_1 0 rfl ?_
  refine go_putI (bI := 8) k189_2 hg hK0 (by decide) rfl rfl (inR_b (Or.inl rfl)) (fun g1 e2 => ?_)
  refine go_aload k189_5 rfl ?_
  refine go_iload k189_6 rfl ?_
  refine go_callP3 k189_7 rfl rfl rfl trivial ⟨Nat.zero_le _, Nat.zero_le _⟩ (by omega) (tfM_isSmall (by omega) e2  h1) (fun y3 r4 => ?_)
  refine go_ifeq k189_10 (inR_b r4) (fun c7 => ?_) (fun c8 => ?_)
  · refine go_int k189_13 1 rfl ?_
    refine go_goto k189_14 ?_
    exact tjM_roomiest_18 hd e2 hK0 h1 (rfR_kd hK0 (by decide)) (Or.inr rfl) none rfl none rfl
  · refine go_int k189_17 0 rfl ?_
    exact tjM_roomiest_18 hd e2 hK0 h1 (rfR_kd hK0 (by decide)) (Or.inl rfl) none rfl none rfl
theorem tbM_allRoom_9 {Φ : ev_P} {d : Nat} (hd : 3 ≤ d) {g : gH} (hg : HR g) {v0 : Int} (hK0 : kd v0 = 7) {X9 : Int → Int → Option (Int × gH)} (HX9 : ∀ (v1 : Int) (h1 : InR v1) (v2 : Int) (h2 : InR v2), Go Φ pr_P fN 1 (X9 v1 v2) d (pr_P 190) 9 [some (sR v0), some (sI v1), some (sI v2)] [] g 0 0) : ∀ (v1 : Int) (h1 : InR v1) (v2 : Int) (h2 : InR v2), Go Φ pr_P fN 1 (bM_allRoom_9 g v0 X9 v1 v2) d (pr_P 190) 9 [some (sR v0), some (sI v1), some (sI v2)] [] g 0 0 := by
  intro v1 h1 v2 h2
  unfold bM_allRoom_9
  refine go_iload k190_9 rfl ?_
  refine go_aload k190_10 rfl ?_
  refine go_getR (bI := 0) k190_11 hg hK0 (by decide) rfl rfl (fun r3 => ?_)
  refine go_int k190_14 0 rfl ?_
  refine go_ck (fun q5 => ?_)
  refine go_iald k190_15 hg q5 (fun r4 => ?_)
  refine go_cmlt k190_16 h2 r4 (fun c6 => ?_) (fun c7 => ?_)
  · refine go_iload k190_19 rfl ?_
    refine go_aload k190_20 rfl ?_
    refine go_iload k190_21 rfl ?_
    refine go_callP1 k190_22 rfl rfl rfl ⟨by decide, _, rfl, hK0⟩ ⟨Nat.zero_le _, Nat.zero_le _⟩ (by omega) (tfM_roomOf (by omega) hg hK0  h2) (fun y8 r9 => ?_)
    refine go_iadd k190_25 ?_
    refine go_istore k190_26 rfl (loc2 := [some (sR v0), some (sI (w32 (v1 + y8))), some (sI v2)]) rfl ?_
    refine go_iinc k190_27 rfl rfl 1 rfl (loc2 := [some (sR v0), some (sI (w32 (v1 + y8))), some (sI (w32 (v2 + 1)))]) rfl ?_
    refine go_goto k190_30 ?_
    exact HX9 (w32 (v1 + y8)) (inR_w32 _) (w32 (v2 + 1)) (inR_w32 _)
  · refine go_iload k190_33 rfl ?_
    exact go_iret k190_34 hg h1 ⟨Nat.zero_le _, Nat.zero_le _⟩ rfl
theorem tlM_allRoom_9 {Φ : ev_P} {d : Nat} (hd : 3 ≤ d) {g : gH} (hg : HR g) {v0 : Int} (hK0 : kd v0 = 7) : ∀ n : Nat, ∀ (v1 : Int) (h1 : InR v1) (v2 : Int) (h2 : InR v2), Go Φ pr_P fN 1 (lM_allRoom_9 g v0 n v1 v2) d (pr_P 190) 9 [some (sR v0), some (sI v1), some (sI v2)] [] g 0 0 := by
  intro n
  induction n with
  | zero => intros; exact go_none
  | succ n ih => exact tbM_allRoom_9 hd hg hK0 ih
theorem tfM_allRoom {Φ : ev_P} {d : Nat} (hd : 3 ≤ d) {g : gH} (hg : HR g) {v0 : Int} (hK0 : kd v0 = 7) : Go Φ pr_P fN 1 (fM_allRoom g v0) d (pr_P 190) 0 (ev_loc (pr_P 190).1 [(sR v0)]) [] g 0 0 := by
  show Go Φ pr_P fN 1 (fM_allRoom g v0) d (pr_P 190) 0 [some (sR v0), none, none] [] g 0 0
  unfold fM_allRoom
  refine go_aload k190_0 rfl ?_
  refine go_int k190_1 0 rfl ?_
  refine go_putI (bI := 8) k190_2 hg hK0 (by decide) rfl rfl (inR_b (Or.inl rfl)) (fun g1 e2 => ?_)
  refine go_int k190_5 0 rfl ?_
  refine go_istore k190_6 rfl (loc2 := [some (sR v0), some (sI 0), none]) rfl ?_
  refine go_int k190_7 0 rfl ?_
  refine go_istore k190_8 rfl (loc2 := [some (sR v0), some (sI 0), some (sI 0)]) rfl ?_
  exact tlM_allRoom_9 hd e2 hK0 fu 0 (inR_b (Or.inl rfl)) 0 (inR_b (Or.inl rfl))
