/-! ===== the evaluator comes to what the functions tell (own work, by program: wip/p2/dec.py) ===== -/
theorem tfM_replaces {Φ : ev_P} {d : Nat} (hd : 1 ≤ d) {g : gH} (hg : HR g) {v0 v1 v2 : Int} (hK0 : kd v0 = 7) (h1 : InR v1) (h2 : InR v2) : Go Φ pr_P fN 1 (fM_replaces g v0 v1 v2) d (pr_P 99) 0 (ev_loc (pr_P 99).1 [(sR v0), (sI v1), (sI v2)]) [] g 0 0 := by
  show Go Φ pr_P fN 1 (fM_replaces g v0 v1 v2) d pr_m99 0 [some (sR v0), some (sI v1), some (sI v2), none, none] [] g 0 0
  unfold fM_replaces
  refine go_aload kk99_0.1.1.1.1.1.1 rfl ?_
  refine go_getR (bI := 0) kk99_0.1.1.1.1.1.2 hg hK0 (by decide) rfl rfl (fun r1 => ?_)
  refine go_int kk99_0.1.1.1.1.2 60 rfl ?_
  refine go_iload kk99_0.1.1.1.2.1.1 rfl ?_
  refine go_iadd kk99_0.1.1.1.2.1.2 ?_
  refine go_ck (fun q3 => ?_)
  refine go_iald kk99_0.1.1.1.2.2 hg q3 (fun r2 => ?_)
  refine go_istore kk99_0.1.1.2.1.1.1 rfl (loc2 := [some (sR v0), some (sI v1), some (sI v2), some (sI (g (g v0 0) (w32 (60 + v1)))), none]) rfl ?_
  refine go_iload kk99_0.1.1.2.1.1.2 rfl ?_
  refine go_ifeq kk99_0.1.1.2.1.2 h2 (fun c4 => ?_) (fun c5 => ?_)
  · refine go_int kk99_0.2.1.2.1.1.2 (-1) rfl ?_
    exact go_iret kk99_0.2.1.2.1.2 hg (inR_of (by decide)) ⟨Nat.zero_le _, Nat.zero_le _⟩ rfl
  · refine go_aload kk99_0.1.1.2.2.1 rfl ?_
    refine go_getR (bI := 5) kk99_0.1.1.2.2.2 hg hK0 (by decide) rfl rfl (fun r6 => ?_)
    refine go_iload kk99_0.1.2.1.1.1.1 rfl ?_
    refine go_ck (fun q8 => ?_)
    refine go_zald kk99_0.1.2.1.1.1.2 hg q8 (fun r7 => ?_)
    refine go_ifeq kk99_0.1.2.1.1.2 (inR_b r7) (fun c9 => ?_) (fun c10 => ?_)
    · refine go_aload kk99_0.1.2.1.2.1 rfl ?_
      refine go_getR (bI := 0) kk99_0.1.2.1.2.2 hg hK0 (by decide) rfl rfl (fun r11 => ?_)
      refine go_int kk99_0.1.2.2.1.1.1 220 rfl ?_
      refine go_iload kk99_0.1.2.2.1.1.2 rfl ?_
      refine go_iadd kk99_0.1.2.2.1.2 ?_
      refine go_ck (fun q13 => ?_)
      refine go_iald kk99_0.1.2.2.2.1 hg q13 (fun r12 => ?_)
      refine go_ifeq kk99_0.1.2.2.2.2 r12 (fun c14 => ?_) (fun c15 => ?_)
      · refine go_int kk99_0.2.1.2.1.1.2 (-1) rfl ?_
        exact go_iret kk99_0.2.1.2.1.2 hg (inR_of (by decide)) ⟨Nat.zero_le _, Nat.zero_le _⟩ rfl
      · refine go_aload kk99_0.2.1.1.1.1.1 rfl ?_
        refine go_getR (bI := 0) kk99_0.2.1.1.1.1.2 hg hK0 (by decide) rfl rfl (fun r16 => ?_)
        refine go_int kk99_0.2.1.1.1.2 0 rfl ?_
        refine go_ck (fun q18 => ?_)
        refine go_iald kk99_0.2.1.1.2.1 hg q18 (fun r17 => ?_)
        refine go_int kk99_0.2.1.1.2.2 40 rfl ?_
        refine go_cmeq kk99_0.2.1.2.1.1.1 r17 (inR_of (by decide)) (fun c19 => ?_) (fun c20 => ?_)
        · refine go_int kk99_0.2.1.2.1.1.2 (-1) rfl ?_
          exact go_iret kk99_0.2.1.2.1.2 hg (inR_of (by decide)) ⟨Nat.zero_le _, Nat.zero_le _⟩ rfl
        · refine go_aload kk99_0.2.1.2.2.1 rfl ?_
          refine go_getR (bI := 0) kk99_0.2.1.2.2.2 hg hK0 (by decide) rfl rfl (fun r21 => ?_)
          refine go_int kk99_0.2.2.1.1.1.1 220 rfl ?_
          refine go_iload kk99_0.2.2.1.1.1.2 rfl ?_
          refine go_iadd kk99_0.2.2.1.1.2 ?_
          refine go_dup2 kk99_0.2.2.1.2.1 ?_
          refine go_ck (fun q23 => ?_)
          refine go_iald kk99_0.2.2.1.2.2 hg q23 (fun r22 => ?_)
          refine go_int kk99_0.2.2.2.1.1.1 1 rfl ?_
          refine go_isub kk99_0.2.2.2.1.1.2 ?_
          refine go_ck (fun q24 => ?_)
          refine go_iast kk99_0.2.2.2.1.2 hg q24 (inR_w32 _) (fun g25 e26 => ?_)
          refine go_aload kk99_0.2.2.2.2.1 rfl ?_
          refine go_getR (bI := 0) kk99_0.2.2.2.2.2 e26 hK0 (by decide) rfl rfl (fun r27 => ?_)
          refine go_int kk99_1.1.1.1.1.1.1 4 rfl ?_
          refine go_dup2 kk99_1.1.1.1.1.1.2 ?_
          refine go_ck (fun q29 => ?_)
          refine go_iald kk99_1.1.1.1.1.2 e26 q29 (fun r28 => ?_)
          refine go_int kk99_1.1.1.1.2.1.1 1 rfl ?_
          refine go_iadd kk99_1.1.1.1.2.1.2 ?_
          refine go_ck (fun q30 => ?_)
          refine go_iast kk99_1.1.1.1.2.2 e26 q30 (inR_w32 _) (fun g31 e32 => ?_)
          refine go_aload kk99_1.1.1.2.1.1.1 rfl ?_
          refine go_iload kk99_1.1.1.2.1.1.2 rfl ?_
          refine go_aload kk99_1.1.1.2.1.2 rfl ?_
          refine go_getR (bI := 0) kk99_1.1.1.2.2.1 e32 hK0 (by decide) rfl rfl (fun r33 => ?_)
          refine go_int kk99_1.1.1.2.2.2 100 rfl ?_
          refine go_iload kk99_1.1.2.1.1.1.1 rfl ?_
          refine go_iadd kk99_1.1.2.1.1.1.2 ?_
          refine go_ck (fun q35 => ?_)
          refine go_iald kk99_1.1.2.1.1.2 e32 q35 (fun r34 => ?_)
          refine go_aload kk99_1.1.2.1.2.1 rfl ?_
          refine go_getR (bI := 0) kk99_1.1.2.1.2.2 e32 hK0 (by decide) rfl rfl (fun r36 => ?_)
          refine go_int kk99_1.1.2.2.1.1.1 180 rfl ?_
          refine go_iload kk99_1.1.2.2.1.1.2 rfl ?_
          refine go_iadd kk99_1.1.2.2.1.2 ?_
          refine go_ck (fun q38 => ?_)
          refine go_iald kk99_1.1.2.2.2.1 e32 q38 (fun r37 => ?_)
          refine go_aload kk99_1.1.2.2.2.2 rfl ?_
          refine go_getR (bI := 0) kk99_1.2.1.1.1.1.1 e32 hK0 (by decide) rfl rfl (fun r39 => ?_)
          refine go_int kk99_1.2.1.1.1.1.2 220 rfl ?_
          refine go_iload kk99_1.2.1.1.1.2 rfl ?_
          refine go_iadd kk99_1.2.1.1.2.1.1 ?_
          refine go_ck (fun q41 => ?_)
          refine go_iald kk99_1.2.1.1.2.1.2 e32 q41 (fun r40 => ?_)
          refine go_callN1 kk99_1.2.1.1.2.2 rfl rfl rfl ⟨by decide, _, rfl, hK0⟩ ⟨Nat.zero_le _, Nat.zero_le _⟩ (by omega) (tfM_comes (by omega) e32 hK0  r2 r34 r37 r40) (fun y42 g44 r43 e45 => ?_)
          refine go_istore kk99_1.2.1.2.1.1.1 rfl (loc2 := [some (sR v0), some (sI v1), some (sI v2), some (sI (g (g v0 0) (w32 (60 + v1)))), some (sI y42)]) rfl ?_
          refine go_aload kk99_1.2.1.2.1.1.2 rfl ?_
          refine go_getR (bI := 5) kk99_1.2.1.2.1.2 e45 hK0 (by decide) rfl rfl (fun r46 => ?_)
          refine go_iload kk99_1.2.1.2.2.1 rfl ?_
          refine go_int kk99_1.2.1.2.2.2 0 rfl ?_
          refine go_ck (fun q47 => ?_)
          refine go_zast kk99_1.2.2.1.1.1.1 e45 q47 (Or.inl rfl) (fun g48 e49 => ?_)
          refine go_aload kk99_1.2.2.1.1.1.2 rfl ?_
          refine go_getR (bI := 0) kk99_1.2.2.1.1.2 e49 hK0 (by decide) rfl rfl (fun r50 => ?_)
          refine go_int kk99_1.2.2.1.2.1 420 rfl ?_
          refine go_iload kk99_1.2.2.1.2.2 rfl ?_
          refine go_iadd kk99_1.2.2.2.1.1.1 ?_
          refine go_iload kk99_1.2.2.2.1.1.2 rfl ?_
          refine go_ck (fun q51 => ?_)
          refine go_iast kk99_1.2.2.2.1.2 e49 q51 r43 (fun g52 e53 => ?_)
          refine go_iload kk99_1.2.2.2.2.1 rfl ?_
          exact go_iret kk99_1.2.2.2.2.2 e53 r43 ⟨Nat.zero_le _, Nat.zero_le _⟩ rfl
    · refine go_int kk99_0.2.1.2.1.1.2 (-1) rfl ?_
      exact go_iret kk99_0.2.1.2.1.2 hg (inR_of (by decide)) ⟨Nat.zero_le _, Nat.zero_le _⟩ rfl
theorem tbM_inheritor_37 {Φ : ev_P} {d : Nat} (hd : 1 ≤ d) {g : gH} (hg : HR g) {v0 v1 : Int} (hK0 : kd v0 = 7) (h1 : InR v1) {X37 : Int → Option Int} (HX37 : ∀ (v3 : Int) (h3 : InR v3) (u2 : Option ev_V) (w2 : nwo u2), Go Φ pr_P (fP g) 1 (X37 v3) d pr_m101 37 [some (sR v0), some (sI v1), u2, some (sI v3)] [] g 0 0) : ∀ (v3 : Int) (h3 : InR v3) (u2 : Option ev_V) (w2 : nwo u2), Go Φ pr_P (fP g) 1 (bM_inheritor_37 g v0 v1 X37 v3) d pr_m101 37 [some (sR v0), some (sI v1), u2, some (sI v3)] [] g 0 0 := by
  intro v3 h3 u2 w2
  unfold bM_inheritor_37
  refine go_iload kk101_0.1.2.2.2.1.1 rfl ?_
  refine go_aload kk101_0.1.2.2.2.1.2 rfl ?_
  refine go_getR (bI := 0) kk101_0.1.2.2.2.2 hg hK0 (by decide) rfl rfl (fun r17 => ?_)
  refine go_int kk101_0.2.1.1.1.1.1 0 rfl ?_
  refine go_ck (fun q19 => ?_)
  refine go_iald kk101_0.2.1.1.1.1.2 hg q19 (fun r18 => ?_)
  refine go_cmlt kk101_0.2.1.1.1.2.1 h3 r18 (fun c20 => ?_) (fun c21 => ?_)
  · refine go_aload kk101_0.2.1.1.1.2.2 rfl ?_
    refine go_iload kk101_0.2.1.1.2.1.1 rfl ?_
    refine go_iload kk101_0.2.1.1.2.1.2 rfl ?_
    refine go_int kk101_0.2.1.1.2.2 0 rfl ?_
    refine go_callP3 kk101_0.2.1.2.1.1.1 rfl rfl rfl ⟨by decide, _, rfl, hK0⟩ ⟨Nat.zero_le _, Nat.zero_le _⟩ (by omega) (tfM_isChild (by omega) hg hK0  h3 h1 (inR_b (Or.inl rfl))) (fun y22 r23 => ?_)
    refine go_ifeq kk101_0.2.1.2.1.1.2 (inR_b r23) (fun c26 => ?_) (fun c27 => ?_)
    · refine go_iinc kk101_0.2.2.1.2.1.1 rfl w2 1 rfl (loc2 := [some (sR v0), some (sI v1), u2, some (sI (w32 (v3 + 1)))]) rfl ?_
      refine go_goto kk101_0.2.2.1.2.1.2 ?_
      exact HX37 (w32 (v3 + 1)) (inR_w32 _) u2 w2
    · refine go_aload kk101_0.2.1.2.1.2 rfl ?_
      refine go_getR (bI := 5) kk101_0.2.1.2.2.1.1 hg hK0 (by decide) rfl rfl (fun r28 => ?_)
      refine go_iload kk101_0.2.1.2.2.1.2 rfl ?_
      refine go_ck (fun q30 => ?_)
      refine go_zald kk101_0.2.1.2.2.2 hg q30 (fun r29 => ?_)
      refine go_ifeq kk101_0.2.2.1.1.1.1 (inR_b r29) (fun c31 => ?_) (fun c32 => ?_)
      · refine go_iload kk101_0.2.2.1.1.1.2 rfl ?_
        exact go_iret kk101_0.2.2.1.1.2 hg h3 ⟨Nat.zero_le _, Nat.zero_le _⟩ rfl
      · refine go_iinc kk101_0.2.2.1.2.1.1 rfl w2 1 rfl (loc2 := [some (sR v0), some (sI v1), u2, some (sI (w32 (v3 + 1)))]) rfl ?_
        refine go_goto kk101_0.2.2.1.2.1.2 ?_
        exact HX37 (w32 (v3 + 1)) (inR_w32 _) u2 w2
  · refine go_aload kk101_0.2.2.1.2.2 rfl ?_
    refine go_getR (bI := 0) kk101_0.2.2.2.1.1.1 hg hK0 (by decide) rfl rfl (fun r33 => ?_)
    refine go_int kk101_0.2.2.2.1.1.2 60 rfl ?_
    refine go_iload kk101_0.2.2.2.1.2 rfl ?_
    refine go_iadd kk101_0.2.2.2.2.1.1 ?_
    refine go_ck (fun q35 => ?_)
    refine go_iald kk101_0.2.2.2.2.1.2 hg q35 (fun r34 => ?_)
    exact go_iret kk101_0.2.2.2.2.2 hg r34 ⟨Nat.zero_le _, Nat.zero_le _⟩ rfl
theorem tlM_inheritor_37 {Φ : ev_P} {d : Nat} (hd : 1 ≤ d) {g : gH} (hg : HR g) {v0 v1 : Int} (hK0 : kd v0 = 7) (h1 : InR v1) : ∀ n : Nat, ∀ (v3 : Int) (h3 : InR v3) (u2 : Option ev_V) (w2 : nwo u2), Go Φ pr_P (fP g) 1 (lM_inheritor_37 g v0 v1 n v3) d pr_m101 37 [some (sR v0), some (sI v1), u2, some (sI v3)] [] g 0 0 := by
  intro n
  induction n with
  | zero => intros; exact go_none
  | succ n ih => exact tbM_inheritor_37 hd hg hK0 h1 ih
theorem tfM_inheritor {Φ : ev_P} {d : Nat} (hd : 1 ≤ d) {g : gH} (hg : HR g) {v0 v1 : Int} (hK0 : kd v0 = 7) (h1 : InR v1) : Go Φ pr_P (fP g) 1 (fM_inheritor g v0 v1) d (pr_P 101) 0 (ev_loc (pr_P 101).1 [(sR v0), (sI v1)]) [] g 0 0 := by
  show Go Φ pr_P (fP g) 1 (fM_inheritor g v0 v1) d pr_m101 0 [some (sR v0), some (sI v1), none, none] [] g 0 0
  unfold fM_inheritor
  refine go_aload kk101_0.1.1.1.1.1.1 rfl ?_
  refine go_getR (bI := 0) kk101_0.1.1.1.1.1.2 hg hK0 (by decide) rfl rfl (fun r1 => ?_)
  refine go_int kk101_0.1.1.1.1.2.1 260 rfl ?_
  refine go_iload kk101_0.1.1.1.1.2.2 rfl ?_
  refine go_iadd kk101_0.1.1.1.2.1.1 ?_
  refine go_ck (fun q3 => ?_)
  refine go_iald kk101_0.1.1.1.2.1.2 hg q3 (fun r2 => ?_)
  refine go_istore kk101_0.1.1.1.2.2 rfl (loc2 := [some (sR v0), some (sI v1), some (sI (g (g v0 0) (w32 (260 + v1)))), none]) rfl ?_
  refine go_iload kk101_0.1.1.2.1.1.1 rfl ?_
  refine go_int kk101_0.1.1.2.1.1.2 (-1) rfl ?_
  refine go_cmeq kk101_0.1.1.2.1.2 r2 (inR_of (by decide)) (fun c4 => ?_) (fun c5 => ?_)
  · refine go_int kk101_0.1.2.2.1.1.2 0 rfl ?_
    refine go_istore kk101_0.1.2.2.1.2 rfl (loc2 := [some (sR v0), some (sI v1), some (sI (g (g v0 0) (w32 (260 + v1)))), some (sI 0)]) rfl ?_
    exact tlM_inheritor_37 hd hg hK0 h1 fu 0 (inR_b (Or.inl rfl)) (some (sI (g (g v0 0) (w32 (260 + v1))))) rfl
  · refine go_aload kk101_0.1.1.2.2.1.1 rfl ?_
    refine go_iload kk101_0.1.1.2.2.1.2 rfl ?_
    refine go_callP3 kk101_0.1.1.2.2.2 rfl rfl rfl ⟨by decide, _, rfl, hK0⟩ ⟨Nat.zero_le _, Nat.zero_le _⟩ (by omega) (tfM_runs (by omega) hg hK0  r2) (fun y6 r7 => ?_)
    refine go_ifeq kk101_0.1.2.1.1.1.1 (inR_b r7) (fun c10 => ?_) (fun c11 => ?_)
    · refine go_int kk101_0.1.2.2.1.1.2 0 rfl ?_
      refine go_istore kk101_0.1.2.2.1.2 rfl (loc2 := [some (sR v0), some (sI v1), some (sI (g (g v0 0) (w32 (260 + v1)))), some (sI 0)]) rfl ?_
      exact tlM_inheritor_37 hd hg hK0 h1 fu 0 (inR_b (Or.inl rfl)) (some (sI (g (g v0 0) (w32 (260 + v1))))) rfl
    · refine go_aload kk101_0.1.2.1.1.1.2 rfl ?_
      refine go_getR (bI := 5) kk101_0.1.2.1.1.2.1 hg hK0 (by decide) rfl rfl (fun r12 => ?_)
      refine go_iload kk101_0.1.2.1.1.2.2 rfl ?_
      refine go_ck (fun q14 => ?_)
      refine go_zald kk101_0.1.2.1.2.1.1 hg q14 (fun r13 => ?_)
      refine go_ifeq kk101_0.1.2.1.2.1.2 (inR_b r13) (fun c15 => ?_) (fun c16 => ?_)
      · refine go_iload kk101_0.1.2.1.2.2 rfl ?_
        exact go_iret kk101_0.1.2.2.1.1.1 hg r2 ⟨Nat.zero_le _, Nat.zero_le _⟩ rfl
      · refine go_int kk101_0.1.2.2.1.1.2 0 rfl ?_
        refine go_istore kk101_0.1.2.2.1.2 rfl (loc2 := [some (sR v0), some (sI v1), some (sI (g (g v0 0) (w32 (260 + v1)))), some (sI 0)]) rfl ?_
        exact tlM_inheritor_37 hd hg hK0 h1 fu 0 (inR_b (Or.inl rfl)) (some (sI (g (g v0 0) (w32 (260 + v1))))) rfl
theorem tfM_heirOf {Φ : ev_P} {d : Nat} (hd : 2 ≤ d) {g : gH} (hg : HR g) {v0 v1 v2 : Int} (hK0 : kd v0 = 7) (h1 : InR v1) (h2 : InR v2) : Go Φ pr_P (fP g) 1 (fM_heirOf g v0 v1 v2) d (pr_P 100) 0 (ev_loc (pr_P 100).1 [(sR v0), (sI v1), (sI v2)]) [] g 0 0 := by
  show Go Φ pr_P (fP g) 1 (fM_heirOf g v0 v1 v2) d pr_m100 0 [some (sR v0), some (sI v1), some (sI v2), none] [] g 0 0
  unfold fM_heirOf
  refine go_aload kk100_0.1.1.1.1.1 rfl ?_
  refine go_getR (bI := 0) kk100_0.1.1.1.1.2 hg hK0 (by decide) rfl rfl (fun r1 => ?_)
  refine go_int kk100_0.1.1.1.2.1 460 rfl ?_
  refine go_int kk100_0.1.1.1.2.2 8 rfl ?_
  refine go_iload kk100_0.1.1.2.1.1 rfl ?_
  refine go_ibin kk100_0.1.1.2.1.2 ?_
  refine go_iadd kk100_0.1.1.2.2.1 ?_
  refine go_iload kk100_0.1.1.2.2.2 rfl ?_
  refine go_iadd kk100_0.1.2.1.1.1 ?_
  refine go_ck (fun q3 => ?_)
  refine go_iald kk100_0.1.2.1.1.2 hg q3 (fun r2 => ?_)
  refine go_istore kk100_0.1.2.1.2.1 rfl (loc2 := [some (sR v0), some (sI v1), some (sI v2), some (sI (g (g v0 0) (w32 ((w32 (460 + (opI 0 8 v1))) + v2))))]) rfl ?_
  refine go_iload kk100_0.1.2.1.2.2 rfl ?_
  refine go_int kk100_0.1.2.2.1.1 (-1) rfl ?_
  refine go_cmeq kk100_0.1.2.2.1.2 r2 (inR_of (by decide)) (fun c4 => ?_) (fun c5 => ?_)
  · refine go_aload kk100_0.2.2.1.2.2 rfl ?_
    refine go_iload kk100_0.2.2.2.1.1 rfl ?_
    refine go_callP1 kk100_0.2.2.2.1.2 rfl rfl rfl ⟨by decide, _, rfl, hK0⟩ ⟨Nat.zero_le _, Nat.zero_le _⟩ (by omega) (tfM_inheritor (by omega) hg hK0  h1) (fun y6 r7 => ?_)
    exact go_iret kk100_0.2.2.2.2 hg r7 ⟨Nat.zero_le _, Nat.zero_le _⟩ rfl
  · refine go_aload kk100_0.1.2.2.2 rfl ?_
    refine go_iload kk100_0.2.1.1.1.1 rfl ?_
    refine go_callP3 kk100_0.2.1.1.1.2 rfl rfl rfl ⟨by decide, _, rfl, hK0⟩ ⟨Nat.zero_le _, Nat.zero_le _⟩ (by omega) (tfM_runs (by omega) hg hK0  r2) (fun y10 r11 => ?_)
    refine go_ifeq kk100_0.2.1.1.2.1 (inR_b r11) (fun c14 => ?_) (fun c15 => ?_)
    · refine go_aload kk100_0.2.2.1.2.2 rfl ?_
      refine go_iload kk100_0.2.2.2.1.1 rfl ?_
      refine go_callP1 kk100_0.2.2.2.1.2 rfl rfl rfl ⟨by decide, _, rfl, hK0⟩ ⟨Nat.zero_le _, Nat.zero_le _⟩ (by omega) (tfM_inheritor (by omega) hg hK0  h1) (fun y16 r17 => ?_)
      exact go_iret kk100_0.2.2.2.2 hg r17 ⟨Nat.zero_le _, Nat.zero_le _⟩ rfl
    · refine go_aload kk100_0.2.1.1.2.2 rfl ?_
      refine go_getR (bI := 5) kk100_0.2.1.2.1.1 hg hK0 (by decide) rfl rfl (fun r20 => ?_)
      refine go_iload kk100_0.2.1.2.1.2 rfl ?_
      refine go_ck (fun q22 => ?_)
      refine go_zald kk100_0.2.1.2.2 hg q22 (fun r21 => ?_)
      refine go_ifeq kk100_0.2.2.1.1.1 (inR_b r21) (fun c23 => ?_) (fun c24 => ?_)
      · refine go_iload kk100_0.2.2.1.1.2 rfl ?_
        refine go_goto kk100_0.2.2.1.2.1 ?_
        exact go_iret kk100_0.2.2.2.2 hg r2 ⟨Nat.zero_le _, Nat.zero_le _⟩ rfl
      · refine go_aload kk100_0.2.2.1.2.2 rfl ?_
        refine go_iload kk100_0.2.2.2.1.1 rfl ?_
        refine go_callP1 kk100_0.2.2.2.1.2 rfl rfl rfl ⟨by decide, _, rfl, hK0⟩ ⟨Nat.zero_le _, Nat.zero_le _⟩ (by omega) (tfM_inheritor (by omega) hg hK0  h1) (fun y25 r26 => ?_)
        exact go_iret kk100_0.2.2.2.2 hg r26 ⟨Nat.zero_le _, Nat.zero_le _⟩ rfl
theorem tbM_firstZombie_2 {Φ : ev_P} {d : Nat} (hd : 1 ≤ d) {g : gH} (hg : HR g) {v0 v1 : Int} (hK0 : kd v0 = 7) (h1 : InR v1) {X2 : Int → Option Int} (HX2 : ∀ (v2 : Int) (h2 : InR v2), Go Φ pr_P (fP g) 1 (X2 v2) d pr_m102 2 [some (sR v0), some (sI v1), some (sI v2)] [] g 0 0) : ∀ (v2 : Int) (h2 : InR v2), Go Φ pr_P (fP g) 1 (bM_firstZombie_2 g v0 v1 X2 v2) d pr_m102 2 [some (sR v0), some (sI v1), some (sI v2)] [] g 0 0 := by
  intro v2 h2
  unfold bM_firstZombie_2
  refine go_iload kk102_0.1.1.1.2.1 rfl ?_
  refine go_aload kk102_0.1.1.1.2.2 rfl ?_
  refine go_getR (bI := 0) kk102_0.1.1.2.1.1 hg hK0 (by decide) rfl rfl (fun r1 => ?_)
  refine go_int kk102_0.1.1.2.1.2 1 rfl ?_
  refine go_ck (fun q3 => ?_)
  refine go_iald kk102_0.1.1.2.2.1 hg q3 (fun r2 => ?_)
  refine go_cmlt kk102_0.1.1.2.2.2 h2 r2 (fun c4 => ?_) (fun c5 => ?_)
  · refine go_aload kk102_0.1.2.1.1.1 rfl ?_
    refine go_aload kk102_0.1.2.1.1.2 rfl ?_
    refine go_getR (bI := 0) kk102_0.1.2.1.2.1 hg hK0 (by decide) rfl rfl (fun r6 => ?_)
    refine go_int kk102_0.1.2.1.2.2 19 rfl ?_
    refine go_iload kk102_0.1.2.2.1.1 rfl ?_
    refine go_iadd kk102_0.1.2.2.1.2 ?_
    refine go_ck (fun q8 => ?_)
    refine go_iald kk102_0.1.2.2.2 hg q8 (fun r7 => ?_)
    refine go_iload kk102_0.2.1.1.1.1 rfl ?_
    refine go_int kk102_0.2.1.1.1.2 1 rfl ?_
    refine go_callP3 kk102_0.2.1.1.2.1 rfl rfl rfl ⟨by decide, _, rfl, hK0⟩ ⟨Nat.zero_le _, Nat.zero_le _⟩ (by omega) (tfM_isChild (by omega) hg hK0  r7 h1 (inR_b (Or.inr rfl))) (fun y9 r10 => ?_)
    refine go_ifeq kk102_0.2.1.1.2.2 (inR_b r10) (fun c13 => ?_) (fun c14 => ?_)
    · refine go_iinc kk102_0.2.2.1.2.2 rfl rfl 1 rfl (loc2 := [some (sR v0), some (sI v1), some (sI (w32 (v2 + 1)))]) rfl ?_
      refine go_goto kk102_0.2.2.2.1.1 ?_
      exact HX2 (w32 (v2 + 1)) (inR_w32 _)
    · refine go_aload kk102_0.2.1.2.1.1 rfl ?_
      refine go_getR (bI := 0) kk102_0.2.1.2.1.2 hg hK0 (by decide) rfl rfl (fun r15 => ?_)
      refine go_int kk102_0.2.1.2.2.1 19 rfl ?_
      refine go_iload kk102_0.2.1.2.2.2 rfl ?_
      refine go_iadd kk102_0.2.2.1.1.1 ?_
      refine go_ck (fun q17 => ?_)
      refine go_iald kk102_0.2.2.1.1.2 hg q17 (fun r16 => ?_)
      exact go_iret kk102_0.2.2.1.2.1 hg r16 ⟨Nat.zero_le _, Nat.zero_le _⟩ rfl
  · refine go_int kk102_0.2.2.2.1.2 (-1) rfl ?_
    exact go_iret kk102_0.2.2.2.2 hg (inR_of (by decide)) ⟨Nat.zero_le _, Nat.zero_le _⟩ rfl
theorem tlM_firstZombie_2 {Φ : ev_P} {d : Nat} (hd : 1 ≤ d) {g : gH} (hg : HR g) {v0 v1 : Int} (hK0 : kd v0 = 7) (h1 : InR v1) : ∀ n : Nat, ∀ (v2 : Int) (h2 : InR v2), Go Φ pr_P (fP g) 1 (lM_firstZombie_2 g v0 v1 n v2) d pr_m102 2 [some (sR v0), some (sI v1), some (sI v2)] [] g 0 0 := by
  intro n
  induction n with
  | zero => intros; exact go_none
  | succ n ih => exact tbM_firstZombie_2 hd hg hK0 h1 ih
theorem tfM_firstZombie {Φ : ev_P} {d : Nat} (hd : 1 ≤ d) {g : gH} (hg : HR g) {v0 v1 : Int} (hK0 : kd v0 = 7) (h1 : InR v1) : Go Φ pr_P (fP g) 1 (fM_firstZombie g v0 v1) d (pr_P 102) 0 (ev_loc (pr_P 102).1 [(sR v0), (sI v1)]) [] g 0 0 := by
  show Go Φ pr_P (fP g) 1 (fM_firstZombie g v0 v1) d pr_m102 0 [some (sR v0), some (sI v1), none] [] g 0 0
  unfold fM_firstZombie
  refine go_int kk102_0.1.1.1.1.1 0 rfl ?_
  refine go_istore kk102_0.1.1.1.1.2 rfl (loc2 := [some (sR v0), some (sI v1), some (sI 0)]) rfl ?_
  exact tlM_firstZombie_2 hd hg hK0 h1 fu 0 (inR_b (Or.inl rfl))
theorem tbM_readsAll_8 {Φ : ev_P} {d : Nat} (hd : 2 ≤ d) {v0 v1 : Int} (hK0 : kd v0 = 7) (h1 : InR v1) {X8 : Int → Int → gH → Option (Int × gH)} (HX8 : ∀ (v2 : Int) (h2 : InR v2) (v3 : Int) (h3 : InR v3) (g : gH) (hg : HR g), Go Φ pr_P fN 1 (X8 v2 v3 g) d pr_m103 8 [some (sR v0), some (sI v1), some (sI v2), some (sI v3)] [] g 0 0) : ∀ (v2 : Int) (h2 : InR v2) (v3 : Int) (h3 : InR v3) (g : gH) (hg : HR g), Go Φ pr_P fN 1 (bM_readsAll_8 v0 v1 X8 v2 v3 g) d pr_m103 8 [some (sR v0), some (sI v1), some (sI v2), some (sI v3)] [] g 0 0 := by
  intro v2 h2 v3 h3 g hg
  unfold bM_readsAll_8
  refine go_iload kk103_0.1.1.2.2.1 rfl ?_
  refine go_int kk103_0.1.1.2.2.2 (-1) rfl ?_
  refine go_cmeq kk103_0.1.2.1.1.1 h3 (inR_of (by decide)) (fun c5 => ?_) (fun c6 => ?_)
  · refine go_iload kk103_0.2.2.2.2.1 rfl ?_
    exact go_iret kk103_0.2.2.2.2.2 hg h2 ⟨Nat.zero_le _, Nat.zero_le _⟩ rfl
  · refine go_aload kk103_0.1.2.1.1.2 rfl ?_
    refine go_getR (bI := 0) kk103_0.1.2.1.2.1 hg hK0 (by decide) rfl rfl (fun r7 => ?_)
    refine go_int kk103_0.1.2.1.2.2 140 rfl ?_
    refine go_iload kk103_0.1.2.2.1.1 rfl ?_
    refine go_iadd kk103_0.1.2.2.1.2 ?_
    refine go_int kk103_0.1.2.2.2.1 2 rfl ?_
    refine go_ck (fun q8 => ?_)
    refine go_iast kk103_0.1.2.2.2.2 hg q8 (inR_of (by decide)) (fun g9 e10 => ?_)
    refine go_iload kk103_0.2.1.1.1.1 rfl ?_
    refine go_aload kk103_0.2.1.1.1.2 rfl ?_
    refine go_getR (bI := 0) kk103_0.2.1.1.2.1 e10 hK0 (by decide) rfl rfl (fun r11 => ?_)
    refine go_int kk103_0.2.1.1.2.2 300 rfl ?_
    refine go_iload kk103_0.2.1.2.1.1 rfl ?_
    refine go_iadd kk103_0.2.1.2.1.2 ?_
    refine go_ck (fun q13 => ?_)
    refine go_iald kk103_0.2.1.2.2.1 e10 q13 (fun r12 => ?_)
    refine go_iadd kk103_0.2.1.2.2.2 ?_
    refine go_istore kk103_0.2.2.1.1.1 rfl (loc2 := [some (sR v0), some (sI v1), some (sI (w32 (v2 + (g9 (g9 v0 0) (w32 (300 + v3)))))), some (sI v3)]) rfl ?_
    refine go_aload kk103_0.2.2.1.1.2 rfl ?_
    refine go_iload kk103_0.2.2.1.2.1 rfl ?_
    refine go_callP1 kk103_0.2.2.1.2.2 rfl rfl rfl ⟨by decide, _, rfl, hK0⟩ ⟨Nat.zero_le _, Nat.zero_le _⟩ (by omega) (tfM_firstZombie (by omega) e10 hK0  h1) (fun y14 r15 => ?_)
    refine go_istore kk103_0.2.2.2.1.1 rfl (loc2 := [some (sR v0), some (sI v1), some (sI (w32 (v2 + (g9 (g9 v0 0) (w32 (300 + v3)))))), some (sI y14)]) rfl ?_
    refine go_goto kk103_0.2.2.2.1.2 ?_
    exact HX8 (w32 (v2 + (g9 (g9 v0 0) (w32 (300 + v3))))) (inR_w32 _) y14 r15 g9 e10
theorem tlM_readsAll_8 {Φ : ev_P} {d : Nat} (hd : 2 ≤ d) {v0 v1 : Int} (hK0 : kd v0 = 7) (h1 : InR v1) : ∀ n : Nat, ∀ (v2 : Int) (h2 : InR v2) (v3 : Int) (h3 : InR v3) (g : gH) (hg : HR g), Go Φ pr_P fN 1 (lM_readsAll_8 v0 v1 n v2 v3 g) d pr_m103 8 [some (sR v0), some (sI v1), some (sI v2), some (sI v3)] [] g 0 0 := by
  intro n
  induction n with
  | zero => intros; exact go_none
  | succ n ih => exact tbM_readsAll_8 hd hK0 h1 ih
theorem tfM_readsAll {Φ : ev_P} {d : Nat} (hd : 2 ≤ d) {g : gH} (hg : HR g) {v0 v1 : Int} (hK0 : kd v0 = 7) (h1 : InR v1) : Go Φ pr_P fN 1 (fM_readsAll g v0 v1) d (pr_P 103) 0 (ev_loc (pr_P 103).1 [(sR v0), (sI v1)]) [] g 0 0 := by
  show Go Φ pr_P fN 1 (fM_readsAll g v0 v1) d pr_m103 0 [some (sR v0), some (sI v1), none, none] [] g 0 0
  unfold fM_readsAll
  refine go_int kk103_0.1.1.1.1.1 0 rfl ?_
  refine go_istore kk103_0.1.1.1.1.2 rfl (loc2 := [some (sR v0), some (sI v1), some (sI 0), none]) rfl ?_
  refine go_aload kk103_0.1.1.1.2.1 rfl ?_
  refine go_iload kk103_0.1.1.1.2.2 rfl ?_
  refine go_callP1 kk103_0.1.1.2.1.1 rfl rfl rfl ⟨by decide, _, rfl, hK0⟩ ⟨Nat.zero_le _, Nat.zero_le _⟩ (by omega) (tfM_firstZombie (by omega) hg hK0  h1) (fun y1 r2 => ?_)
  refine go_istore kk103_0.1.1.2.1.2 rfl (loc2 := [some (sR v0), some (sI v1), some (sI 0), some (sI y1)]) rfl ?_
  exact tlM_readsAll_8 hd hK0 h1 fu 0 (inR_b (Or.inl rfl)) y1 r2 g hg
theorem tjM_exits_253 {Φ : ev_P} {d : Nat} (hd : 7 ≤ d) {g : gH} (hg : HR g) {v0 v4 : Int} (hK0 : kd v0 = 7) (h4 : InR v4) {s0 : Int} (z0 : InR s0) (u1 : Option ev_V) (w1 : nwo u1) (u2 : Option ev_V) (w2 : nwo u2) (u3 : Option ev_V) (w3 : nwo u3) (u5 : Option ev_V) (w5 : nwo u5) (u6 : Option ev_V) (w6 : nwo u6) : Go Φ pr_P fN 1 (jM_exits_253 g v0 v4 s0 ) d pr_m104 253 [some (sR v0), u1, u2, u3, some (sI v4), u5, u6] [(sI s0)] g 0 0 := by
  unfold jM_exits_253
  refine go_istore kk104_2.2.2.1.1.1.2 w5 (loc2 := [some (sR v0), u1, u2, u3, some (sI v4), u5, some (sI s0)]) rfl ?_
  refine go_iload kk104_2.2.2.1.1.2.1 rfl ?_
  refine go_iflt kk104_2.2.2.1.1.2.2 z0 (fun c112 => ?_) (fun c113 => ?_)
  · refine go_int kk104_2.2.2.1.2.1.1 (-1) rfl ?_
    refine go_goto kk104_2.2.2.1.2.1.2 ?_
    exact go_iret kk104_2.2.2.2.2.2 hg (inR_of (by decide)) ⟨Nat.zero_le _, Nat.zero_le _⟩ rfl
  · refine go_aload kk104_2.2.2.1.2.2 rfl ?_
    refine go_getR (bI := 0) kk104_2.2.2.2.1.1.1 hg hK0 (by decide) rfl rfl (fun r114 => ?_)
    refine go_int kk104_2.2.2.2.1.1.2 3 rfl ?_
    refine go_ck (fun q116 => ?_)
    refine go_iald kk104_2.2.2.2.1.2 hg q116 (fun r115 => ?_)
    refine go_iload kk104_2.2.2.2.2.1.1 rfl ?_
    refine go_isub kk104_2.2.2.2.2.1.2 ?_
    exact go_iret kk104_2.2.2.2.2.2 hg (inR_w32 _) ⟨Nat.zero_le _, Nat.zero_le _⟩ rfl
theorem tjM_exits_240 {Φ : ev_P} {d : Nat} (hd : 7 ≤ d) {g : gH} (hg : HR g) {v0 v3 v4 : Int} (hK0 : kd v0 = 7) (h3 : InR v3) (h4 : InR v4) (u1 : Option ev_V) (w1 : nwo u1) (u2 : Option ev_V) (w2 : nwo u2) (u5 : Option ev_V) (w5 : nwo u5) (u6 : Option ev_V) (w6 : nwo u6) : Go Φ pr_P fN 1 (jM_exits_240 g v0 v3 v4 ) d pr_m104 240 [some (sR v0), u1, u2, some (sI v3), some (sI v4), u5, u6] [] g 0 0 := by
  unfold jM_exits_240
  refine go_iload kk104_2.2.1.2.1.1.1 rfl ?_
  refine go_ifeq kk104_2.2.1.2.1.1.2 h3 (fun c106 => ?_) (fun c107 => ?_)
  · refine go_aload kk104_2.2.1.2.1.2 rfl ?_
    refine go_int kk104_2.2.1.2.2.1.1 0 rfl ?_
    refine go_callN1 kk104_2.2.1.2.2.1.2 rfl rfl rfl ⟨by decide, _, rfl, hK0⟩ ⟨Nat.zero_le _, Nat.zero_le _⟩ (by omega) (tfM_readsAll (by omega) hg hK0  (inR_b (Or.inl rfl))) (fun y108 g110 r109 e111 => ?_)
    refine go_goto kk104_2.2.1.2.2.2 ?_
    exact tjM_exits_253 hd e111 hK0 h4 r109 u1 w1 u2 w2 (some (sI v3)) rfl u5 w5 u6 w6
  · refine go_int kk104_2.2.2.1.1.1.1 0 rfl ?_
    exact tjM_exits_253 hd hg hK0 h4 (inR_b (Or.inl rfl)) u1 w1 u2 w2 (some (sI v3)) rfl u5 w5 u6 w6
theorem tbM_exits_201 {Φ : ev_P} {d : Nat} (hd : 7 ≤ d) {v0 v1 v3 v4 : Int} (hK0 : kd v0 = 7) (h1 : InR v1) (h3 : InR v3) (h4 : InR v4) {X201 : Int → gH → Option (Int × gH)} (HX201 : ∀ (v6 : Int) (h6 : InR v6) (g : gH) (hg : HR g) (u2 : Option ev_V) (w2 : nwo u2) (u5 : Option ev_V) (w5 : nwo u5), Go Φ pr_P fN 1 (X201 v6 g) d pr_m104 201 [some (sR v0), some (sI v1), u2, some (sI v3), some (sI v4), u5, some (sI v6)] [] g 0 0) : ∀ (v6 : Int) (h6 : InR v6) (g : gH) (hg : HR g) (u2 : Option ev_V) (w2 : nwo u2) (u5 : Option ev_V) (w5 : nwo u5), Go Φ pr_P fN 1 (bM_exits_201 v0 v1 v3 v4 X201 v6 g) d pr_m104 201 [some (sR v0), some (sI v1), u2, some (sI v3), some (sI v4), u5, some (sI v6)] [] g 0 0 := by
  intro v6 h6 g hg u2 w2 u5 w5
  unfold bM_exits_201
  refine go_iload kk104_2.1.1.2.2.2 rfl ?_
  refine go_aload kk104_2.1.2.1.1.1.1 rfl ?_
  refine go_getR (bI := 0) kk104_2.1.2.1.1.1.2 hg hK0 (by decide) rfl rfl (fun r91 => ?_)
  refine go_int kk104_2.1.2.1.1.2.1 0 rfl ?_
  refine go_ck (fun q93 => ?_)
  refine go_iald kk104_2.1.2.1.1.2.2 hg q93 (fun r92 => ?_)
  refine go_cmlt kk104_2.1.2.1.2.1.1 h6 r92 (fun c94 => ?_) (fun c95 => ?_)
  · refine go_aload kk104_2.1.2.1.2.1.2 rfl ?_
    refine go_iload kk104_2.1.2.1.2.2 rfl ?_
    refine go_iload kk104_2.1.2.2.1.1.1 rfl ?_
    refine go_int kk104_2.1.2.2.1.1.2 1 rfl ?_
    refine go_callP3 kk104_2.1.2.2.1.2 rfl rfl rfl ⟨by decide, _, rfl, hK0⟩ ⟨Nat.zero_le _, Nat.zero_le _⟩ (by omega) (tfM_isChild (by omega) hg hK0  h6 h1 (inR_b (Or.inr rfl))) (fun y96 r97 => ?_)
    refine go_ifeq kk104_2.1.2.2.2.1.1 (inR_b r97) (fun c100 => ?_) (fun c101 => ?_)
    · refine go_iinc kk104_2.2.1.1.2.1.2 rfl w5 1 rfl (loc2 := [some (sR v0), some (sI v1), u2, some (sI v3), some (sI v4), u5, some (sI (w32 (v6 + 1)))]) rfl ?_
      refine go_goto kk104_2.2.1.1.2.2 ?_
      exact HX201 (w32 (v6 + 1)) (inR_w32 _) g hg u2 w2 u5 w5
    · refine go_aload kk104_2.1.2.2.2.1.2 rfl ?_
      refine go_getR (bI := 0) kk104_2.1.2.2.2.2 hg hK0 (by decide) rfl rfl (fun r102 => ?_)
      refine go_int kk104_2.2.1.1.1.1.1 60 rfl ?_
      refine go_iload kk104_2.2.1.1.1.1.2 rfl ?_
      refine go_iadd kk104_2.2.1.1.1.2.1 ?_
      refine go_iload kk104_2.2.1.1.1.2.2 rfl ?_
      refine go_ck (fun q103 => ?_)
      refine go_iast kk104_2.2.1.1.2.1.1 hg q103 h3 (fun g104 e105 => ?_)
      refine go_iinc kk104_2.2.1.1.2.1.2 rfl w5 1 rfl (loc2 := [some (sR v0), some (sI v1), u2, some (sI v3), some (sI v4), u5, some (sI (w32 (v6 + 1)))]) rfl ?_
      refine go_goto kk104_2.2.1.1.2.2 ?_
      exact HX201 (w32 (v6 + 1)) (inR_w32 _) g104 e105 u2 w2 u5 w5
  · exact tjM_exits_240 hd hg hK0 h3 h4 (some (sI v1)) rfl u2 w2 u5 w5 (some (sI v6)) rfl
theorem tlM_exits_201 {Φ : ev_P} {d : Nat} (hd : 7 ≤ d) {v0 v1 v3 v4 : Int} (hK0 : kd v0 = 7) (h1 : InR v1) (h3 : InR v3) (h4 : InR v4) : ∀ n : Nat, ∀ (v6 : Int) (h6 : InR v6) (g : gH) (hg : HR g) (u2 : Option ev_V) (w2 : nwo u2) (u5 : Option ev_V) (w5 : nwo u5), Go Φ pr_P fN 1 (lM_exits_201 v0 v1 v3 v4 n v6 g) d pr_m104 201 [some (sR v0), some (sI v1), u2, some (sI v3), some (sI v4), u5, some (sI v6)] [] g 0 0 := by
  intro n
  induction n with
  | zero => intros; exact go_none
  | succ n ih => exact tbM_exits_201 hd hK0 h1 h3 h4 ih
theorem tbM_exits_134 {Φ : ev_P} {d : Nat} (hd : 7 ≤ d) {v0 v1 v3 v4 v5 : Int} (hK0 : kd v0 = 7) (h1 : InR v1) (h3 : InR v3) (h4 : InR v4) (h5 : InR v5) {X134 : Int → gH → Option (Int × gH)} (HX134 : ∀ (v6 : Int) (h6 : InR v6) (g : gH) (hg : HR g) (u2 : Option ev_V) (w2 : nwo u2), Go Φ pr_P fN 1 (X134 v6 g) d pr_m104 134 [some (sR v0), some (sI v1), u2, some (sI v3), some (sI v4), some (sI v5), some (sI v6)] [] g 0 0) : ∀ (v6 : Int) (h6 : InR v6) (g : gH) (hg : HR g) (u2 : Option ev_V) (w2 : nwo u2), Go Φ pr_P fN 1 (bM_exits_134 v0 v1 v3 v4 v5 X134 v6 g) d pr_m104 134 [some (sR v0), some (sI v1), u2, some (sI v3), some (sI v4), some (sI v5), some (sI v6)] [] g 0 0 := by
  intro v6 h6 g hg u2 w2
  unfold bM_exits_134
  refine go_iload kk104_1.2.1.1.2.1.1 rfl ?_
  refine go_aload kk104_1.2.1.1.2.1.2 rfl ?_
  refine go_getR (bI := 0) kk104_1.2.1.1.2.2 hg hK0 (by decide) rfl rfl (fun r52 => ?_)
  refine go_int kk104_1.2.1.2.1.1.1 0 rfl ?_
  refine go_ck (fun q54 => ?_)
  refine go_iald kk104_1.2.1.2.1.1.2 hg q54 (fun r53 => ?_)
  refine go_cmlt kk104_1.2.1.2.1.2 h6 r53 (fun c55 => ?_) (fun c56 => ?_)
  · refine go_aload kk104_1.2.1.2.2.1.1 rfl ?_
    refine go_iload kk104_1.2.1.2.2.1.2 rfl ?_
    refine go_iload kk104_1.2.1.2.2.2 rfl ?_
    refine go_int kk104_1.2.2.1.1.1.1 0 rfl ?_
    refine go_callP3 kk104_1.2.2.1.1.1.2 rfl rfl rfl ⟨by decide, _, rfl, hK0⟩ ⟨Nat.zero_le _, Nat.zero_le _⟩ (by omega) (tfM_isChild (by omega) hg hK0  h6 h1 (inR_b (Or.inl rfl))) (fun y57 r58 => ?_)
    refine go_ifeq kk104_1.2.2.1.1.2 (inR_b r58) (fun c61 => ?_) (fun c62 => ?_)
    · refine go_goto kk104_1.2.2.1.2.1.1 ?_
      refine go_iinc kk104_2.1.1.2.1.1.2 rfl rfl 1 rfl (loc2 := [some (sR v0), some (sI v1), u2, some (sI v3), some (sI v4), some (sI v5), some (sI (w32 (v6 + 1)))]) rfl ?_
      refine go_goto kk104_2.1.1.2.1.2 ?_
      exact HX134 (w32 (v6 + 1)) (inR_w32 _) g hg u2 w2
    · refine go_aload kk104_1.2.2.1.2.1.2 rfl ?_
      refine go_iload kk104_1.2.2.1.2.2 rfl ?_
      refine go_int kk104_1.2.2.2.1.1.1 (-1) rfl ?_
      refine go_cmeq kk104_1.2.2.2.1.1.2 h5 (inR_of (by decide)) (fun c63 => ?_) (fun c64 => ?_)
      · refine go_aload kk104_2.1.1.1.1.2.1 rfl ?_
        refine go_iload kk104_2.1.1.1.1.2.2 rfl ?_
        refine go_iload kk104_2.1.1.1.2.1.1 rfl ?_
        refine go_callP1 kk104_2.1.1.1.2.1.2 rfl rfl rfl ⟨by decide, _, rfl, hK0⟩ ⟨Nat.zero_le _, Nat.zero_le _⟩ (by omega) (tfM_adopterOf (by omega) hg hK0  h6 h1) (fun y65 r66 => ?_)
        refine go_iload kk104_2.1.1.1.2.2 rfl ?_
        refine go_callN0 kk104_2.1.1.2.1.1.1 rfl rfl rfl ⟨by decide, _, rfl, hK0⟩ ⟨Nat.zero_le _, Nat.zero_le _⟩ (by omega) (tfM_adopts (by omega) hg hK0  r66 h6) (fun y69 g71 e72 => ?_)
        refine go_iinc kk104_2.1.1.2.1.1.2 rfl rfl 1 rfl (loc2 := [some (sR v0), some (sI v1), u2, some (sI v3), some (sI v4), some (sI v5), some (sI (w32 (v6 + 1)))]) rfl ?_
        refine go_goto kk104_2.1.1.2.1.2 ?_
        exact HX134 (w32 (v6 + 1)) (inR_w32 _) g71 e72 u2 w2
      · refine go_aload kk104_1.2.2.2.1.2 rfl ?_
        refine go_iload kk104_1.2.2.2.2.1.1 rfl ?_
        refine go_callP1 kk104_1.2.2.2.2.1.2 rfl rfl rfl ⟨by decide, _, rfl, hK0⟩ ⟨Nat.zero_le _, Nat.zero_le _⟩ (by omega) (tfM_roomOf (by omega) hg hK0  h5) (fun y73 r74 => ?_)
        refine go_ifgt kk104_1.2.2.2.2.2 r74 (fun c77 => ?_) (fun c78 => ?_)
        · refine go_iload kk104_2.1.1.1.1.1.1 rfl ?_
          refine go_goto kk104_2.1.1.1.1.1.2 ?_
          refine go_iload kk104_2.1.1.1.2.2 rfl ?_
          refine go_callN0 kk104_2.1.1.2.1.1.1 rfl rfl rfl ⟨by decide, _, rfl, hK0⟩ ⟨Nat.zero_le _, Nat.zero_le _⟩ (by omega) (tfM_adopts (by omega) hg hK0  h5 h6) (fun y79 g81 e82 => ?_)
          refine go_iinc kk104_2.1.1.2.1.1.2 rfl rfl 1 rfl (loc2 := [some (sR v0), some (sI v1), u2, some (sI v3), some (sI v4), some (sI v5), some (sI (w32 (v6 + 1)))]) rfl ?_
          refine go_goto kk104_2.1.1.2.1.2 ?_
          exact HX134 (w32 (v6 + 1)) (inR_w32 _) g81 e82 u2 w2
        · refine go_aload kk104_2.1.1.1.1.2.1 rfl ?_
          refine go_iload kk104_2.1.1.1.1.2.2 rfl ?_
          refine go_iload kk104_2.1.1.1.2.1.1 rfl ?_
          refine go_callP1 kk104_2.1.1.1.2.1.2 rfl rfl rfl ⟨by decide, _, rfl, hK0⟩ ⟨Nat.zero_le _, Nat.zero_le _⟩ (by omega) (tfM_adopterOf (by omega) hg hK0  h6 h1) (fun y83 r84 => ?_)
          refine go_iload kk104_2.1.1.1.2.2 rfl ?_
          refine go_callN0 kk104_2.1.1.2.1.1.1 rfl rfl rfl ⟨by decide, _, rfl, hK0⟩ ⟨Nat.zero_le _, Nat.zero_le _⟩ (by omega) (tfM_adopts (by omega) hg hK0  r84 h6) (fun y87 g89 e90 => ?_)
          refine go_iinc kk104_2.1.1.2.1.1.2 rfl rfl 1 rfl (loc2 := [some (sR v0), some (sI v1), u2, some (sI v3), some (sI v4), some (sI v5), some (sI (w32 (v6 + 1)))]) rfl ?_
          refine go_goto kk104_2.1.1.2.1.2 ?_
          exact HX134 (w32 (v6 + 1)) (inR_w32 _) g89 e90 u2 w2
  · refine go_int kk104_2.1.1.2.2.1.1 1 rfl ?_
    refine go_istore kk104_2.1.1.2.2.1.2 rfl (loc2 := [some (sR v0), some (sI v1), u2, some (sI v3), some (sI v4), some (sI v5), some (sI 1)]) rfl ?_
    exact tlM_exits_201 hd hK0 h1 h3 h4 fu 1 (inR_b (Or.inr rfl)) g hg u2 w2 (some (sI v5)) rfl
theorem tlM_exits_134 {Φ : ev_P} {d : Nat} (hd : 7 ≤ d) {v0 v1 v3 v4 v5 : Int} (hK0 : kd v0 = 7) (h1 : InR v1) (h3 : InR v3) (h4 : InR v4) (h5 : InR v5) : ∀ n : Nat, ∀ (v6 : Int) (h6 : InR v6) (g : gH) (hg : HR g) (u2 : Option ev_V) (w2 : nwo u2), Go Φ pr_P fN 1 (lM_exits_134 v0 v1 v3 v4 v5 n v6 g) d pr_m104 134 [some (sR v0), some (sI v1), u2, some (sI v3), some (sI v4), some (sI v5), some (sI v6)] [] g 0 0 := by
  intro n
  induction n with
  | zero => intros; exact go_none
  | succ n ih => exact tbM_exits_134 hd hK0 h1 h3 h4 h5 ih
theorem tbM_exits_76 {Φ : ev_P} {d : Nat} (hd : 7 ≤ d) {v0 v1 v3 v4 v5 : Int} (hK0 : kd v0 = 7) (h1 : InR v1) (h3 : InR v3) (h4 : InR v4) (h5 : InR v5) {X76 : Int → gH → Option (Int × gH)} (HX76 : ∀ (v6 : Int) (h6 : InR v6) (g : gH) (hg : HR g) (u2 : Option ev_V) (w2 : nwo u2), Go Φ pr_P fN 1 (X76 v6 g) d pr_m104 76 [some (sR v0), some (sI v1), u2, some (sI v3), some (sI v4), some (sI v5), some (sI v6)] [] g 0 0) : ∀ (v6 : Int) (h6 : InR v6) (g : gH) (hg : HR g) (u2 : Option ev_V) (w2 : nwo u2), Go Φ pr_P fN 1 (bM_exits_76 v0 v1 v3 v4 v5 X76 v6 g) d pr_m104 76 [some (sR v0), some (sI v1), u2, some (sI v3), some (sI v4), some (sI v5), some (sI v6)] [] g 0 0 := by
  intro v6 h6 g hg u2 w2
  unfold bM_exits_76
  refine go_iload kk104_1.1.1.1.1.1.1 rfl ?_
  refine go_int kk104_1.1.1.1.1.1.2 8 rfl ?_
  refine go_cmlt kk104_1.1.1.1.1.2.1 h6 (inR_of (by decide)) (fun c32 => ?_) (fun c33 => ?_)
  · refine go_aload kk104_1.1.1.1.1.2.2 rfl ?_
    refine go_getR (bI := 0) kk104_1.1.1.1.2.1.1 hg hK0 (by decide) rfl rfl (fun r34 => ?_)
    refine go_int kk104_1.1.1.1.2.1.2 11 rfl ?_
    refine go_iload kk104_1.1.1.1.2.2 rfl ?_
    refine go_iadd kk104_1.1.1.2.1.1.1 ?_
    refine go_ck (fun q36 => ?_)
    refine go_iald kk104_1.1.1.2.1.1.2 hg q36 (fun r35 => ?_)
    refine go_iload kk104_1.1.1.2.1.2 rfl ?_
    refine go_cmeq kk104_1.1.1.2.2.1.1 r35 h1 (fun c37 => ?_) (fun c38 => ?_)
    · refine go_aload kk104_1.1.1.2.2.1.2 rfl ?_
      refine go_getR (bI := 0) kk104_1.1.1.2.2.2 hg hK0 (by decide) rfl rfl (fun r39 => ?_)
      refine go_int kk104_1.1.2.1.1.1.1 11 rfl ?_
      refine go_iload kk104_1.1.2.1.1.1.2 rfl ?_
      refine go_iadd kk104_1.1.2.1.1.2.1 ?_
      refine go_iload kk104_1.1.2.1.1.2.2 rfl ?_
      refine go_int kk104_1.1.2.1.2.1.1 (-1) rfl ?_
      refine go_cmeq kk104_1.1.2.1.2.1.2 h5 (inR_of (by decide)) (fun c40 => ?_) (fun c41 => ?_)
      · refine go_aload kk104_1.1.2.2.1.1.2 rfl ?_
        refine go_iload kk104_1.1.2.2.1.2 rfl ?_
        refine go_iload kk104_1.1.2.2.2.1.1 rfl ?_
        refine go_callP1 kk104_1.1.2.2.2.1.2 rfl rfl rfl ⟨by decide, _, rfl, hK0⟩ ⟨Nat.zero_le _, Nat.zero_le _⟩ (by omega) (tfM_heirOf (by omega) hg hK0  h1 h6) (fun y42 r43 => ?_)
        refine go_ck (fun q46 => ?_)
        refine go_iast kk104_1.1.2.2.2.2 hg q46 r43 (fun g47 e48 => ?_)
        refine go_iinc kk104_1.2.1.1.1.1.1 rfl rfl 1 rfl (loc2 := [some (sR v0), some (sI v1), u2, some (sI v3), some (sI v4), some (sI v5), some (sI (w32 (v6 + 1)))]) rfl ?_
        refine go_goto kk104_1.2.1.1.1.1.2 ?_
        exact HX76 (w32 (v6 + 1)) (inR_w32 _) g47 e48 u2 w2
      · refine go_iload kk104_1.1.2.1.2.2 rfl ?_
        refine go_goto kk104_1.1.2.2.1.1.1 ?_
        refine go_ck (fun q49 => ?_)
        refine go_iast kk104_1.1.2.2.2.2 hg q49 h5 (fun g50 e51 => ?_)
        refine go_iinc kk104_1.2.1.1.1.1.1 rfl rfl 1 rfl (loc2 := [some (sR v0), some (sI v1), u2, some (sI v3), some (sI v4), some (sI v5), some (sI (w32 (v6 + 1)))]) rfl ?_
        refine go_goto kk104_1.2.1.1.1.1.2 ?_
        exact HX76 (w32 (v6 + 1)) (inR_w32 _) g50 e51 u2 w2
    · refine go_iinc kk104_1.2.1.1.1.1.1 rfl rfl 1 rfl (loc2 := [some (sR v0), some (sI v1), u2, some (sI v3), some (sI v4), some (sI v5), some (sI (w32 (v6 + 1)))]) rfl ?_
      refine go_goto kk104_1.2.1.1.1.1.2 ?_
      exact HX76 (w32 (v6 + 1)) (inR_w32 _) g hg u2 w2
  · refine go_int kk104_1.2.1.1.1.2.1 1 rfl ?_
    refine go_istore kk104_1.2.1.1.1.2.2 rfl (loc2 := [some (sR v0), some (sI v1), u2, some (sI v3), some (sI v4), some (sI v5), some (sI 1)]) rfl ?_
    exact tlM_exits_134 hd hK0 h1 h3 h4 h5 fu 1 (inR_b (Or.inr rfl)) g hg u2 w2
theorem tlM_exits_76 {Φ : ev_P} {d : Nat} (hd : 7 ≤ d) {v0 v1 v3 v4 v5 : Int} (hK0 : kd v0 = 7) (h1 : InR v1) (h3 : InR v3) (h4 : InR v4) (h5 : InR v5) : ∀ n : Nat, ∀ (v6 : Int) (h6 : InR v6) (g : gH) (hg : HR g) (u2 : Option ev_V) (w2 : nwo u2), Go Φ pr_P fN 1 (lM_exits_76 v0 v1 v3 v4 v5 n v6 g) d pr_m104 76 [some (sR v0), some (sI v1), u2, some (sI v3), some (sI v4), some (sI v5), some (sI v6)] [] g 0 0 := by
  intro n
  induction n with
  | zero => intros; exact go_none
  | succ n ih => exact tbM_exits_76 hd hK0 h1 h3 h4 h5 ih
theorem tfM_exits {Φ : ev_P} {d : Nat} (hd : 7 ≤ d) {g : gH} (hg : HR g) {v0 v1 v2 : Int} (hK0 : kd v0 = 7) (h1 : InR v1) (h2 : InR v2) : Go Φ pr_P fN 1 (fM_exits g v0 v1 v2) d (pr_P 104) 0 (ev_loc (pr_P 104).1 [(sR v0), (sI v1), (sI v2)]) [] g 0 0 := by
  show Go Φ pr_P fN 1 (fM_exits g v0 v1 v2) d pr_m104 0 [some (sR v0), some (sI v1), some (sI v2), none, none, none, none] [] g 0 0
  unfold fM_exits
  refine go_aload kk104_0.1.1.1.1.1.1 rfl ?_
  refine go_getR (bI := 0) kk104_0.1.1.1.1.1.2 hg hK0 (by decide) rfl rfl (fun r1 => ?_)
  refine go_int kk104_0.1.1.1.1.2.1 60 rfl ?_
  refine go_iload kk104_0.1.1.1.1.2.2 rfl ?_
  refine go_iadd kk104_0.1.1.1.2.1.1 ?_
  refine go_ck (fun q3 => ?_)
  refine go_iald kk104_0.1.1.1.2.1.2 hg q3 (fun r2 => ?_)
  refine go_istore kk104_0.1.1.1.2.2 rfl (loc2 := [some (sR v0), some (sI v1), some (sI v2), some (sI (g (g v0 0) (w32 (60 + v1)))), none, none, none]) rfl ?_
  refine go_aload kk104_0.1.1.2.1.1.1 rfl ?_
  refine go_getR (bI := 0) kk104_0.1.1.2.1.1.2 hg hK0 (by decide) rfl rfl (fun r4 => ?_)
  refine go_int kk104_0.1.1.2.1.2 3 rfl ?_
  refine go_ck (fun q6 => ?_)
  refine go_iald kk104_0.1.1.2.2.1.1 hg q6 (fun r5 => ?_)
  refine go_istore kk104_0.1.1.2.2.1.2 rfl (loc2 := [some (sR v0), some (sI v1), some (sI v2), some (sI (g (g v0 0) (w32 (60 + v1)))), some (sI (g (g v0 0) 3)), none, none]) rfl ?_
  refine go_aload kk104_0.1.1.2.2.2 rfl ?_
  refine go_getR (bI := 0) kk104_0.1.2.1.1.1.1 hg hK0 (by decide) rfl rfl (fun r7 => ?_)
  refine go_int kk104_0.1.2.1.1.1.2 140 rfl ?_
  refine go_iload kk104_0.1.2.1.1.2.1 rfl ?_
  refine go_iadd kk104_0.1.2.1.1.2.2 ?_
  refine go_int kk104_0.1.2.1.2.1.1 1 rfl ?_
  refine go_ck (fun q8 => ?_)
  refine go_iast kk104_0.1.2.1.2.1.2 hg q8 (inR_b (Or.inr rfl)) (fun g9 e10 => ?_)
  refine go_aload kk104_0.1.2.1.2.2 rfl ?_
  refine go_getR (bI := 0) kk104_0.1.2.2.1.1.1 e10 hK0 (by decide) rfl rfl (fun r11 => ?_)
  refine go_int kk104_0.1.2.2.1.1.2 300 rfl ?_
  refine go_iload kk104_0.1.2.2.1.2 rfl ?_
  refine go_iadd kk104_0.1.2.2.2.1.1 ?_
  refine go_iload kk104_0.1.2.2.2.1.2 rfl ?_
  refine go_ck (fun q12 => ?_)
  refine go_iast kk104_0.1.2.2.2.2 e10 q12 h2 (fun g13 e14 => ?_)
  refine go_aload kk104_0.2.1.1.1.1.1 rfl ?_
  refine go_getR (bI := 0) kk104_0.2.1.1.1.1.2 e14 hK0 (by decide) rfl rfl (fun r15 => ?_)
  refine go_int kk104_0.2.1.1.1.2.1 19 rfl ?_
  refine go_aload kk104_0.2.1.1.1.2.2 rfl ?_
  refine go_getR (bI := 0) kk104_0.2.1.1.2.1.1 e14 hK0 (by decide) rfl rfl (fun r16 => ?_)
  refine go_int kk104_0.2.1.1.2.1.2 1 rfl ?_
  refine go_ck (fun q18 => ?_)
  refine go_iald kk104_0.2.1.1.2.2 e14 q18 (fun r17 => ?_)
  refine go_iadd kk104_0.2.1.2.1.1.1 ?_
  refine go_iload kk104_0.2.1.2.1.1.2 rfl ?_
  refine go_ck (fun q19 => ?_)
  refine go_iast kk104_0.2.1.2.1.2 e14 q19 h1 (fun g20 e21 => ?_)
  refine go_aload kk104_0.2.1.2.2.1.1 rfl ?_
  refine go_getR (bI := 0) kk104_0.2.1.2.2.1.2 e21 hK0 (by decide) rfl rfl (fun r22 => ?_)
  refine go_int kk104_0.2.1.2.2.2 1 rfl ?_
  refine go_dup2 kk104_0.2.2.1.1.1.1 ?_
  refine go_ck (fun q24 => ?_)
  refine go_iald kk104_0.2.2.1.1.1.2 e21 q24 (fun r23 => ?_)
  refine go_int kk104_0.2.2.1.1.2 1 rfl ?_
  refine go_iadd kk104_0.2.2.1.2.1.1 ?_
  refine go_ck (fun q25 => ?_)
  refine go_iast kk104_0.2.2.1.2.1.2 e21 q25 (inR_w32 _) (fun g26 e27 => ?_)
  refine go_aload kk104_0.2.2.1.2.2 rfl ?_
  refine go_iload kk104_0.2.2.2.1.1.1 rfl ?_
  refine go_iload kk104_0.2.2.2.1.1.2 rfl ?_
  refine go_callN1 kk104_0.2.2.2.1.2 rfl rfl rfl ⟨by decide, _, rfl, hK0⟩ ⟨Nat.zero_le _, Nat.zero_le _⟩ (by omega) (tfM_replaces (by omega) e27 hK0  h1 h2) (fun y28 g30 r29 e31 => ?_)
  refine go_istore kk104_0.2.2.2.2.1.1 rfl (loc2 := [some (sR v0), some (sI v1), some (sI v2), some (sI (g (g v0 0) (w32 (60 + v1)))), some (sI (g (g v0 0) 3)), some (sI y28), none]) rfl ?_
  refine go_int kk104_0.2.2.2.2.1.2 0 rfl ?_
  refine go_istore kk104_0.2.2.2.2.2 rfl (loc2 := [some (sR v0), some (sI v1), some (sI v2), some (sI (g (g v0 0) (w32 (60 + v1)))), some (sI (g (g v0 0) 3)), some (sI y28), some (sI 0)]) rfl ?_
  exact tlM_exits_76 hd hK0 h1 r2 r5 r29 fu 0 (inR_b (Or.inl rfl)) g30 e31 (some (sI v2)) rfl
theorem tjM_noExit_50 {Φ : ev_P} {d : Nat} (hd : 2 ≤ d) {g : gH} (hg : HR g) {s0 s1 : Int} (z0 : RfR s0) (z1 : B01 s1) (u0 : Option ev_V) (w0 : nwo u0) (u1 : Option ev_V) (w1 : nwo u1) (u2 : Option ev_V) (w2 : nwo u2) : Go Φ pr_P fN 3 (jM_noExit_50 g s0 s1 ) d pr_m159 50 [u0, u1, u2] [(sI s1), (sR s0)] g 0 0 := by
  unfold jM_noExit_50
  refine go_int kk159_0.2.2.1.1.2 3 rfl ?_
  refine go_ck (fun q28 => ?_)
  refine go_callN3 kk159_0.2.2.1.2.1 rfl rfl rfl ⟨by decide, _, rfl, q28⟩ ⟨Nat.zero_le _, Nat.zero_le _⟩ (by omega) (tfM_fails (by omega) hg q28  z1 (inR_of (by decide))) (fun y29 g31 r30 e32 => ?_)
  refine go_ifeq kk159_0.2.2.1.2.2 (inR_b r30) (fun c33 => ?_) (fun c34 => ?_)
  · refine go_int kk159_0.2.2.2.2.1 0 rfl ?_
    exact go_bret kk159_0.2.2.2.2.2 e32 (Or.inl rfl) ⟨Nat.zero_le _, Nat.zero_le _⟩ rfl
  · refine go_int kk159_0.2.2.2.1.1 1 rfl ?_
    refine go_goto kk159_0.2.2.2.1.2 ?_
    exact go_bret kk159_0.2.2.2.2.2 e32 (Or.inr rfl) ⟨Nat.zero_le _, Nat.zero_le _⟩ rfl
theorem tjM_noExit_45 {Φ : ev_P} {d : Nat} (hd : 2 ≤ d) {g : gH} (hg : HR g) {s0 : Int} (z0 : RfR s0) (u0 : Option ev_V) (w0 : nwo u0) (u1 : Option ev_V) (w1 : nwo u1) (u2 : Option ev_V) (w2 : nwo u2) : Go Φ pr_P fN 3 (jM_noExit_45 g s0 ) d pr_m159 45 [u0, u1, u2] [(sR s0)] g 0 0 := by
  unfold jM_noExit_45
  refine go_int kk159_0.2.1.2.2.1 1 rfl ?_
  refine go_goto kk159_0.2.1.2.2.2 ?_
  exact tjM_noExit_50 hd hg z0 (Or.inr rfl) u0 w0 u1 w1 u2 w2
theorem tjM_noExit_25 {Φ : ev_P} {d : Nat} (hd : 2 ≤ d) {g : gH} (hg : HR g) {v0 v1 : Int} (hK0 : kd v0 = 7) (h1 : InR v1) {s0 s1 : Int} (z0 : RfR s0) (z1 : B01 s1) (u2 : Option ev_V) (w2 : nwo u2) : Go Φ pr_P fN 3 (jM_noExit_25 g v0 v1 s0 s1 ) d pr_m159 25 [some (sR v0), some (sI v1), u2] [(sI s1), (sR s0)] g 0 0 := by
  unfold jM_noExit_25
  refine go_int kk159_0.1.2.2.1.1 2 rfl ?_
  refine go_ck (fun q13 => ?_)
  refine go_callN3 kk159_0.1.2.2.1.2 rfl rfl rfl ⟨by decide, _, rfl, q13⟩ ⟨Nat.zero_le _, Nat.zero_le _⟩ (by omega) (tfM_fails (by omega) hg q13  z1 (inR_of (by decide))) (fun y14 g16 r15 e17 => ?_)
  refine go_ifeq kk159_0.1.2.2.2.1 (inR_b r15) (fun c18 => ?_) (fun c19 => ?_)
  · refine go_aload kk159_0.1.2.2.2.2 rfl ?_
    refine go_iload kk159_0.2.1.1.1.1 rfl ?_
    refine go_ifeq kk159_0.2.1.1.1.2 h1 (fun c20 => ?_) (fun c21 => ?_)
    · exact tjM_noExit_45 hd e17 (rfR_kd hK0 (by decide)) (some (sR v0)) rfl (some (sI v1)) rfl u2 w2
    · refine go_aload kk159_0.2.1.1.2.1 rfl ?_
      refine go_iload kk159_0.2.1.1.2.2 rfl ?_
      refine go_callP3 kk159_0.2.1.2.1.1 rfl rfl rfl ⟨by decide, _, rfl, hK0⟩ ⟨Nat.zero_le _, Nat.zero_le _⟩ (by omega) (tfM_runs (by omega) e17 hK0  h1) (fun y22 r23 => ?_)
      refine go_ifeq kk159_0.2.1.2.1.2 (inR_b r23) (fun c26 => ?_) (fun c27 => ?_)
      · exact tjM_noExit_45 hd e17 (rfR_kd hK0 (by decide)) (some (sR v0)) rfl (some (sI v1)) rfl u2 w2
      · refine go_int kk159_0.2.2.1.1.1 0 rfl ?_
        exact tjM_noExit_50 hd e17 (rfR_kd hK0 (by decide)) (Or.inl rfl) (some (sR v0)) rfl (some (sI v1)) rfl u2 w2
  · refine go_int kk159_0.2.2.2.1.1 1 rfl ?_
    refine go_goto kk159_0.2.2.2.1.2 ?_
    exact go_bret kk159_0.2.2.2.2.2 e17 (Or.inr rfl) ⟨Nat.zero_le _, Nat.zero_le _⟩ rfl
theorem tfM_noExit {Φ : ev_P} {d : Nat} (hd : 2 ≤ d) {g : gH} (hg : HR g) {v0 v1 v2 : Int} (hK0 : kd v0 = 7) (h1 : InR v1) (h2 : InR v2) : Go Φ pr_P fN 3 (fM_noExit g v0 v1 v2) d (pr_P 159) 0 (ev_loc (pr_P 159).1 [(sR v0), (sI v1), (sI v2)]) [] g 0 0 := by
  show Go Φ pr_P fN 3 (fM_noExit g v0 v1 v2) d pr_m159 0 [some (sR v0), some (sI v1), some (sI v2)] [] g 0 0
  unfold fM_noExit
  refine go_aload kk159_0.1.1.1.1.1.1 rfl ?_
  refine go_iload kk159_0.1.1.1.1.1.2 rfl ?_
  refine go_callN3 kk159_0.1.1.1.1.2 rfl rfl rfl ⟨by decide, _, rfl, hK0⟩ ⟨Nat.zero_le _, Nat.zero_le _⟩ (by omega) (tfM_noProcess (by omega) hg hK0  h1) (fun y1 g3 r2 e4 => ?_)
  refine go_ifeq kk159_0.1.1.1.2.1 (inR_b r2) (fun c5 => ?_) (fun c6 => ?_)
  · refine go_aload kk159_0.1.1.1.2.2 rfl ?_
    refine go_iload kk159_0.1.1.2.1.1 rfl ?_
    refine go_int kk159_0.1.1.2.1.2 0 rfl ?_
    refine go_int kk159_0.1.1.2.2.1 255 rfl ?_
    refine go_callP3 kk159_0.1.1.2.2.2 rfl rfl rfl trivial ⟨Nat.zero_le _, Nat.zero_le _⟩ (by omega) (tfM_inRange (by omega) e4  h2 (inR_b (Or.inl rfl)) (inR_of (by decide))) (fun y7 r8 => ?_)
    refine go_ifeq kk159_0.1.2.1.1.1 (inR_b r8) (fun c11 => ?_) (fun c12 => ?_)
    · refine go_int kk159_0.1.2.1.1.2 1 rfl ?_
      refine go_goto kk159_0.1.2.1.2.1 ?_
      exact tjM_noExit_25 hd e4 hK0 h1 (rfR_kd hK0 (by decide)) (Or.inr rfl) (some (sI v2)) rfl
    · refine go_int kk159_0.1.2.1.2.2 0 rfl ?_
      exact tjM_noExit_25 hd e4 hK0 h1 (rfR_kd hK0 (by decide)) (Or.inl rfl) (some (sI v2)) rfl
  · refine go_int kk159_0.2.2.2.1.1 1 rfl ?_
    refine go_goto kk159_0.2.2.2.1.2 ?_
    exact go_bret kk159_0.2.2.2.2.2 e4 (Or.inr rfl) ⟨Nat.zero_le _, Nat.zero_le _⟩ rfl
theorem tfM_exit {Φ : ev_P} {d : Nat} (hd : 8 ≤ d) {g : gH} (hg : HR g) {v0 v1 v2 : Int} (hK0 : kd v0 = 7) (h1 : InR v1) (h2 : InR v2) : Go Φ pr_P fN 1 (fM_exit g v0 v1 v2) d (pr_P 160) 0 (ev_loc (pr_P 160).1 [(sR v0), (sI v1), (sI v2)]) [] g 0 0 := by
  show Go Φ pr_P fN 1 (fM_exit g v0 v1 v2) d pr_m160 0 [some (sR v0), some (sI v1), some (sI v2)] [] g 0 0
  unfold fM_exit
  refine go_aload kk160_0.1.1.1.1 rfl ?_
  refine go_iload kk160_0.1.1.1.2 rfl ?_
  refine go_iload kk160_0.1.1.2.1 rfl ?_
  refine go_callN3 kk160_0.1.1.2.2 rfl rfl rfl ⟨by decide, _, rfl, hK0⟩ ⟨Nat.zero_le _, Nat.zero_le _⟩ (by omega) (tfM_noExit (by omega) hg hK0  h1 h2) (fun y1 g3 r2 e4 => ?_)
  refine go_ifeq kk160_0.1.2.1.1 (inR_b r2) (fun c5 => ?_) (fun c6 => ?_)
  · refine go_aload kk160_0.2.1.1.1 rfl ?_
    refine go_callN0 kk160_0.2.1.1.2 rfl rfl rfl ⟨by decide, _, rfl, hK0⟩ ⟨Nat.zero_le _, Nat.zero_le _⟩ (by omega) (tfM_remembers (by omega) e4 hK0 ) (fun y7 g9 e10 => ?_)
    refine go_aload kk160_0.2.1.2.1 rfl ?_
    refine go_iload kk160_0.2.1.2.2 rfl ?_
    refine go_iload kk160_0.2.2.1.1 rfl ?_
    refine go_callN1 kk160_0.2.2.1.2 rfl rfl rfl ⟨by decide, _, rfl, hK0⟩ ⟨Nat.zero_le _, Nat.zero_le _⟩ (by omega) (tfM_exits (by omega) e10 hK0  h1 h2) (fun y11 g13 r12 e14 => ?_)
    exact go_iret kk160_0.2.2.2 e14 r12 ⟨Nat.zero_le _, Nat.zero_le _⟩ rfl
  · refine go_int kk160_0.1.2.1.2 0 rfl ?_
    exact go_iret kk160_0.1.2.2 e4 (inR_b (Or.inl rfl)) ⟨Nat.zero_le _, Nat.zero_le _⟩ rfl
theorem tbM_kills_128 {Φ : ev_P} {d : Nat} (hd : 8 ≤ d) {v0 v4 : Int} (hK0 : kd v0 = 7) (h4 : InR v4) {X128 : Int → gH → Option (Int × gH)} (HX128 : ∀ (v5 : Int) (h5 : InR v5) (g : gH) (hg : HR g) (u1 : Option ev_V) (w1 : nwo u1) (u2 : Option ev_V) (w2 : nwo u2) (u3 : Option ev_V) (w3 : nwo u3) (u6 : Option ev_V) (w6 : nwo u6), Go Φ pr_P fN 1 (X128 v5 g) d pr_m105 128 [some (sR v0), u1, u2, u3, some (sI v4), some (sI v5), u6] [] g 0 0) : ∀ (v5 : Int) (h5 : InR v5) (g : gH) (hg : HR g) (u1 : Option ev_V) (w1 : nwo u1) (u2 : Option ev_V) (w2 : nwo u2) (u3 : Option ev_V) (w3 : nwo u3) (u6 : Option ev_V) (w6 : nwo u6), Go Φ pr_P fN 1 (bM_kills_128 v0 v4 X128 v5 g) d pr_m105 128 [some (sR v0), u1, u2, u3, some (sI v4), some (sI v5), u6] [] g 0 0 := by
  intro v5 h5 g hg u1 w1 u2 w2 u3 w3 u6 w6
  unfold bM_kills_128
  refine go_iload kk105_1.2.1.2.1.2 rfl ?_
  refine go_int kk105_1.2.1.2.2.1 40 rfl ?_
  refine go_cmlt kk105_1.2.1.2.2.2 h5 (inR_of (by decide)) (fun c50 => ?_) (fun c51 => ?_)
  · refine go_aload kk105_1.2.2.1.1.1.1 rfl ?_
    refine go_getR (bI := 5) kk105_1.2.2.1.1.1.2 hg hK0 (by decide) rfl rfl (fun r52 => ?_)
    refine go_iload kk105_1.2.2.1.1.2 rfl ?_
    refine go_int kk105_1.2.2.1.2.1 0 rfl ?_
    refine go_ck (fun q53 => ?_)
    refine go_zast kk105_1.2.2.1.2.2 hg q53 (Or.inl rfl) (fun g54 e55 => ?_)
    refine go_iinc kk105_1.2.2.2.1.1 rfl rfl 1 rfl (loc2 := [some (sR v0), u1, u2, u3, some (sI v4), some (sI (w32 (v5 + 1))), u6]) rfl ?_
    refine go_goto kk105_1.2.2.2.1.2 ?_
    exact HX128 (w32 (v5 + 1)) (inR_w32 _) g54 e55 u1 w1 u2 w2 u3 w3 u6 w6
  · refine go_iload kk105_1.2.2.2.2.1 rfl ?_
    exact go_iret kk105_1.2.2.2.2.2 hg h4 ⟨Nat.zero_le _, Nat.zero_le _⟩ rfl
theorem tlM_kills_128 {Φ : ev_P} {d : Nat} (hd : 8 ≤ d) {v0 v4 : Int} (hK0 : kd v0 = 7) (h4 : InR v4) : ∀ n : Nat, ∀ (v5 : Int) (h5 : InR v5) (g : gH) (hg : HR g) (u1 : Option ev_V) (w1 : nwo u1) (u2 : Option ev_V) (w2 : nwo u2) (u3 : Option ev_V) (w3 : nwo u3) (u6 : Option ev_V) (w6 : nwo u6), Go Φ pr_P fN 1 (lM_kills_128 v0 v4 n v5 g) d pr_m105 128 [some (sR v0), u1, u2, u3, some (sI v4), some (sI v5), u6] [] g 0 0 := by
  intro n
  induction n with
  | zero => intros; exact go_none
  | succ n ih => exact tbM_kills_128 hd hK0 h4 ih
theorem tbM_kills_76 {Φ : ev_P} {d : Nat} (hd : 8 ≤ d) {v0 v2 v3 : Int} (hK0 : kd v0 = 7) (h2 : InR v2) (h3 : InR v3) {X76 : Int → Int → gH → Option (Int × gH)} (HX76 : ∀ (v4 : Int) (h4 : InR v4) (v5 : Int) (h5 : InR v5) (g : gH) (hg : HR g) (u1 : Option ev_V) (w1 : nwo u1) (u6 : Option ev_V) (w6 : nwo u6), Go Φ pr_P fN 1 (X76 v4 v5 g) d pr_m105 76 [some (sR v0), u1, some (sI v2), some (sI v3), some (sI v4), some (sI v5), u6] [] g 0 0) : ∀ (v4 : Int) (h4 : InR v4) (v5 : Int) (h5 : InR v5) (g : gH) (hg : HR g) (u1 : Option ev_V) (w1 : nwo u1) (u6 : Option ev_V) (w6 : nwo u6), Go Φ pr_P fN 1 (bM_kills_76 v0 v2 v3 X76 v4 v5 g) d pr_m105 76 [some (sR v0), u1, some (sI v2), some (sI v3), some (sI v4), some (sI v5), u6] [] g 0 0 := by
  intro v4 h4 v5 h5 g hg u1 w1 u6 w6
  unfold bM_kills_76
  refine go_iload kk105_1.1.1.1.1.1.2 rfl ?_
  refine go_iload kk105_1.1.1.1.1.2 rfl ?_
  refine go_cmlt kk105_1.1.1.1.2.1 h5 h3 (fun c37 => ?_) (fun c38 => ?_)
  · refine go_aload kk105_1.1.1.1.2.2 rfl ?_
    refine go_getR (bI := 5) kk105_1.1.1.2.1.1.1 hg hK0 (by decide) rfl rfl (fun r39 => ?_)
    refine go_iload kk105_1.1.1.2.1.1.2 rfl ?_
    refine go_ck (fun q41 => ?_)
    refine go_zald kk105_1.1.1.2.1.2 hg q41 (fun r40 => ?_)
    refine go_ifeq kk105_1.1.1.2.2.1 (inR_b r40) (fun c42 => ?_) (fun c43 => ?_)
    · refine go_goto kk105_1.1.1.2.2.2 ?_
      refine go_iinc kk105_1.2.1.1.2.1 rfl rfl 1 rfl (loc2 := [some (sR v0), u1, some (sI v2), some (sI v3), some (sI v4), some (sI (w32 (v5 + 1))), u6]) rfl ?_
      refine go_goto kk105_1.2.1.1.2.2 ?_
      exact HX76 v4 h4 (w32 (v5 + 1)) (inR_w32 _) g hg u1 w1 u6 w6
    · refine go_aload kk105_1.1.2.1.1.1.1 rfl ?_
      refine go_iload kk105_1.1.2.1.1.1.2 rfl ?_
      refine go_iload kk105_1.1.2.1.1.2 rfl ?_
      refine go_callN1 kk105_1.1.2.1.2.1 rfl rfl rfl ⟨by decide, _, rfl, hK0⟩ ⟨Nat.zero_le _, Nat.zero_le _⟩ (by omega) (tfM_exits (by omega) hg hK0  h5 h2) (fun y44 g46 r45 e47 => ?_)
      refine go_istore kk105_1.1.2.1.2.2 rfl (loc2 := [some (sR v0), u1, some (sI v2), some (sI v3), some (sI v4), some (sI v5), some (sI y44)]) rfl ?_
      refine go_iload kk105_1.1.2.2.1.1.1 rfl ?_
      refine go_iload kk105_1.1.2.2.1.1.2 rfl ?_
      refine go_iflt kk105_1.1.2.2.1.2 r45 (fun c48 => ?_) (fun c49 => ?_)
      · refine go_int kk105_1.1.2.2.2.1 0 rfl ?_
        refine go_goto kk105_1.1.2.2.2.2 ?_
        refine go_iadd kk105_1.2.1.1.1.1.2 ?_
        refine go_istore kk105_1.2.1.1.1.2 rfl (loc2 := [some (sR v0), u1, some (sI v2), some (sI v3), some (sI (w32 (v4 + 0))), some (sI v5), some (sI y44)]) rfl ?_
        refine go_iinc kk105_1.2.1.1.2.1 rfl rfl 1 rfl (loc2 := [some (sR v0), u1, some (sI v2), some (sI v3), some (sI (w32 (v4 + 0))), some (sI (w32 (v5 + 1))), some (sI y44)]) rfl ?_
        refine go_goto kk105_1.2.1.1.2.2 ?_
        exact HX76 (w32 (v4 + 0)) (inR_w32 _) (w32 (v5 + 1)) (inR_w32 _) g46 e47 u1 w1 (some (sI y44)) rfl
      · refine go_int kk105_1.2.1.1.1.1.1 1 rfl ?_
        refine go_iadd kk105_1.2.1.1.1.1.2 ?_
        refine go_istore kk105_1.2.1.1.1.2 rfl (loc2 := [some (sR v0), u1, some (sI v2), some (sI v3), some (sI (w32 (v4 + 1))), some (sI v5), some (sI y44)]) rfl ?_
        refine go_iinc kk105_1.2.1.1.2.1 rfl rfl 1 rfl (loc2 := [some (sR v0), u1, some (sI v2), some (sI v3), some (sI (w32 (v4 + 1))), some (sI (w32 (v5 + 1))), some (sI y44)]) rfl ?_
        refine go_goto kk105_1.2.1.1.2.2 ?_
        exact HX76 (w32 (v4 + 1)) (inR_w32 _) (w32 (v5 + 1)) (inR_w32 _) g46 e47 u1 w1 (some (sI y44)) rfl
  · refine go_int kk105_1.2.1.2.1.1.1 0 rfl ?_
    refine go_istore kk105_1.2.1.2.1.1.2 rfl (loc2 := [some (sR v0), u1, some (sI v2), some (sI v3), some (sI v4), some (sI 0), u6]) rfl ?_
    exact tlM_kills_128 hd hK0 h4 fu 0 (inR_b (Or.inl rfl)) g hg u1 w1 (some (sI v2)) rfl (some (sI v3)) rfl u6 w6
theorem tlM_kills_76 {Φ : ev_P} {d : Nat} (hd : 8 ≤ d) {v0 v2 v3 : Int} (hK0 : kd v0 = 7) (h2 : InR v2) (h3 : InR v3) : ∀ n : Nat, ∀ (v4 : Int) (h4 : InR v4) (v5 : Int) (h5 : InR v5) (g : gH) (hg : HR g) (u1 : Option ev_V) (w1 : nwo u1) (u6 : Option ev_V) (w6 : nwo u6), Go Φ pr_P fN 1 (lM_kills_76 v0 v2 v3 n v4 v5 g) d pr_m105 76 [some (sR v0), u1, some (sI v2), some (sI v3), some (sI v4), some (sI v5), u6] [] g 0 0 := by
  intro n
  induction n with
  | zero => intros; exact go_none
  | succ n ih => exact tbM_kills_76 hd hK0 h2 h3 ih
theorem tbM_kills_13 {Φ : ev_P} {d : Nat} (hd : 8 ≤ d) {v0 v1 v2 v3 v4 : Int} (hK0 : kd v0 = 7) (h1 : InR v1) (h2 : InR v2) (h3 : InR v3) (h4 : B01 v4) {X13 : Int → gH → Option (Int × gH)} (HX13 : ∀ (v5 : Int) (h5 : InR v5) (g : gH) (hg : HR g) (u6 : Option ev_V) (w6 : nwo u6), Go Φ pr_P fN 1 (X13 v5 g) d pr_m105 13 [some (sR v0), some (sI v1), some (sI v2), some (sI v3), some (sI v4), some (sI v5), u6] [] g 0 0) : ∀ (v5 : Int) (h5 : InR v5) (g : gH) (hg : HR g) (u6 : Option ev_V) (w6 : nwo u6), Go Φ pr_P fN 1 (bM_kills_13 v0 v1 v2 v3 v4 X13 v5 g) d pr_m105 13 [some (sR v0), some (sI v1), some (sI v2), some (sI v3), some (sI v4), some (sI v5), u6] [] g 0 0 := by
  intro v5 h5 g hg u6 w6
  unfold bM_kills_13
  refine go_iload kk105_0.1.1.2.2.2 rfl ?_
  refine go_int kk105_0.1.2.1.1.1.1 40 rfl ?_
  refine go_cmlt kk105_0.1.2.1.1.1.2 h5 (inR_of (by decide)) (fun c4 => ?_) (fun c5 => ?_)
  · refine go_aload kk105_0.1.2.1.1.2 rfl ?_
    refine go_getR (bI := 5) kk105_0.1.2.1.2.1 hg hK0 (by decide) rfl rfl (fun r6 => ?_)
    refine go_iload kk105_0.1.2.1.2.2 rfl ?_
    refine go_iload kk105_0.1.2.2.1.1.1 rfl ?_
    refine go_ifgt kk105_0.1.2.2.1.1.2 h5 (fun c7 => ?_) (fun c8 => ?_)
    · refine go_iload kk105_0.1.2.2.1.2 rfl ?_
      refine go_iload kk105_0.1.2.2.2.1 rfl ?_
      refine go_cmlt kk105_0.1.2.2.2.2 h5 h3 (fun c9 => ?_) (fun c10 => ?_)
      · refine go_aload kk105_0.2.1.1.1.1.1 rfl ?_
        refine go_iload kk105_0.2.1.1.1.1.2 rfl ?_
        refine go_callP3 kk105_0.2.1.1.1.2 rfl rfl rfl ⟨by decide, _, rfl, hK0⟩ ⟨Nat.zero_le _, Nat.zero_le _⟩ (by omega) (tfM_runs (by omega) hg hK0  h5) (fun y11 r12 => ?_)
        refine go_ifeq kk105_0.2.1.1.2.1 (inR_b r12) (fun c15 => ?_) (fun c16 => ?_)
        · refine go_int kk105_0.2.2.1.2.2 0 rfl ?_
          refine go_ck (fun q17 => ?_)
          refine go_zast kk105_0.2.2.2.1.1 hg q17 (Or.inl rfl) (fun g18 e19 => ?_)
          refine go_iinc kk105_0.2.2.2.1.2 rfl rfl 1 rfl (loc2 := [some (sR v0), some (sI v1), some (sI v2), some (sI v3), some (sI v4), some (sI (w32 (v5 + 1))), u6]) rfl ?_
          refine go_goto kk105_0.2.2.2.2.1 ?_
          exact HX13 (w32 (v5 + 1)) (inR_w32 _) g18 e19 u6 w6
        · refine go_aload kk105_0.2.1.1.2.2 rfl ?_
          refine go_getR (bI := 0) kk105_0.2.1.2.1.1.1 hg hK0 (by decide) rfl rfl (fun r20 => ?_)
          refine go_int kk105_0.2.1.2.1.1.2 180 rfl ?_
          refine go_iload kk105_0.2.1.2.1.2 rfl ?_
          refine go_iadd kk105_0.2.1.2.2.1 ?_
          refine go_ck (fun q22 => ?_)
          refine go_iald kk105_0.2.1.2.2.2 hg q22 (fun r21 => ?_)
          refine go_iload kk105_0.2.2.1.1.1.1 rfl ?_
          refine go_cmeq kk105_0.2.2.1.1.1.2 r21 h1 (fun c23 => ?_) (fun c24 => ?_)
          · refine go_int kk105_0.2.2.1.1.2 1 rfl ?_
            refine go_goto kk105_0.2.2.1.2.1 ?_
            refine go_ck (fun q25 => ?_)
            refine go_zast kk105_0.2.2.2.1.1 hg q25 (Or.inr rfl) (fun g26 e27 => ?_)
            refine go_iinc kk105_0.2.2.2.1.2 rfl rfl 1 rfl (loc2 := [some (sR v0), some (sI v1), some (sI v2), some (sI v3), some (sI v4), some (sI (w32 (v5 + 1))), u6]) rfl ?_
            refine go_goto kk105_0.2.2.2.2.1 ?_
            exact HX13 (w32 (v5 + 1)) (inR_w32 _) g26 e27 u6 w6
          · refine go_int kk105_0.2.2.1.2.2 0 rfl ?_
            refine go_ck (fun q28 => ?_)
            refine go_zast kk105_0.2.2.2.1.1 hg q28 (Or.inl rfl) (fun g29 e30 => ?_)
            refine go_iinc kk105_0.2.2.2.1.2 rfl rfl 1 rfl (loc2 := [some (sR v0), some (sI v1), some (sI v2), some (sI v3), some (sI v4), some (sI (w32 (v5 + 1))), u6]) rfl ?_
            refine go_goto kk105_0.2.2.2.2.1 ?_
            exact HX13 (w32 (v5 + 1)) (inR_w32 _) g29 e30 u6 w6
      · refine go_int kk105_0.2.2.1.2.2 0 rfl ?_
        refine go_ck (fun q31 => ?_)
        refine go_zast kk105_0.2.2.2.1.1 hg q31 (Or.inl rfl) (fun g32 e33 => ?_)
        refine go_iinc kk105_0.2.2.2.1.2 rfl rfl 1 rfl (loc2 := [some (sR v0), some (sI v1), some (sI v2), some (sI v3), some (sI v4), some (sI (w32 (v5 + 1))), u6]) rfl ?_
        refine go_goto kk105_0.2.2.2.2.1 ?_
        exact HX13 (w32 (v5 + 1)) (inR_w32 _) g32 e33 u6 w6
    · refine go_int kk105_0.2.2.1.2.2 0 rfl ?_
      refine go_ck (fun q34 => ?_)
      refine go_zast kk105_0.2.2.2.1.1 hg q34 (Or.inl rfl) (fun g35 e36 => ?_)
      refine go_iinc kk105_0.2.2.2.1.2 rfl rfl 1 rfl (loc2 := [some (sR v0), some (sI v1), some (sI v2), some (sI v3), some (sI v4), some (sI (w32 (v5 + 1))), u6]) rfl ?_
      refine go_goto kk105_0.2.2.2.2.1 ?_
      exact HX13 (w32 (v5 + 1)) (inR_w32 _) g35 e36 u6 w6
  · refine go_int kk105_0.2.2.2.2.2 1 rfl ?_
    refine go_istore kk105_1.1.1.1.1.1.1 rfl (loc2 := [some (sR v0), some (sI v1), some (sI v2), some (sI v3), some (sI v4), some (sI 1), u6]) rfl ?_
    exact tlM_kills_76 hd hK0 h2 h3 fu v4 (inR_b h4) 1 (inR_b (Or.inr rfl)) g hg (some (sI v1)) rfl u6 w6
theorem tlM_kills_13 {Φ : ev_P} {d : Nat} (hd : 8 ≤ d) {v0 v1 v2 v3 v4 : Int} (hK0 : kd v0 = 7) (h1 : InR v1) (h2 : InR v2) (h3 : InR v3) (h4 : B01 v4) : ∀ n : Nat, ∀ (v5 : Int) (h5 : InR v5) (g : gH) (hg : HR g) (u6 : Option ev_V) (w6 : nwo u6), Go Φ pr_P fN 1 (lM_kills_13 v0 v1 v2 v3 v4 n v5 g) d pr_m105 13 [some (sR v0), some (sI v1), some (sI v2), some (sI v3), some (sI v4), some (sI v5), u6] [] g 0 0 := by
  intro n
  induction n with
  | zero => intros; exact go_none
  | succ n ih => exact tbM_kills_13 hd hK0 h1 h2 h3 h4 ih
theorem tfM_kills {Φ : ev_P} {d : Nat} (hd : 8 ≤ d) {g : gH} (hg : HR g) {v0 v1 v2 : Int} (hK0 : kd v0 = 7) (h1 : InR v1) (h2 : InR v2) : Go Φ pr_P fN 1 (fM_kills g v0 v1 v2) d (pr_P 105) 0 (ev_loc (pr_P 105).1 [(sR v0), (sI v1), (sI v2)]) [] g 0 0 := by
  show Go Φ pr_P fN 1 (fM_kills g v0 v1 v2) d pr_m105 0 [some (sR v0), some (sI v1), some (sI v2), none, none, none, none] [] g 0 0
  unfold fM_kills
  refine go_aload kk105_0.1.1.1.1.1.1 rfl ?_
  refine go_getR (bI := 0) kk105_0.1.1.1.1.1.2 hg hK0 (by decide) rfl rfl (fun r1 => ?_)
  refine go_int kk105_0.1.1.1.1.2 0 rfl ?_
  refine go_ck (fun q3 => ?_)
  refine go_iald kk105_0.1.1.1.2.1 hg q3 (fun r2 => ?_)
  refine go_istore kk105_0.1.1.1.2.2 rfl (loc2 := [some (sR v0), some (sI v1), some (sI v2), some (sI (g (g v0 0) 0)), none, none, none]) rfl ?_
  refine go_int kk105_0.1.1.2.1.1.1 0 rfl ?_
  refine go_istore kk105_0.1.1.2.1.1.2 rfl (loc2 := [some (sR v0), some (sI v1), some (sI v2), some (sI (g (g v0 0) 0)), some (sI 0), none, none]) rfl ?_
  refine go_int kk105_0.1.1.2.1.2 0 rfl ?_
  refine go_istore kk105_0.1.1.2.2.1 rfl (loc2 := [some (sR v0), some (sI v1), some (sI v2), some (sI (g (g v0 0) 0)), some (sI 0), some (sI 0), none]) rfl ?_
  exact tlM_kills_13 hd hK0 h1 h2 r2 (Or.inl rfl) fu 0 (inR_b (Or.inl rfl)) g hg none rfl
theorem tfM_noKill {Φ : ev_P} {d : Nat} (hd : 2 ≤ d) {g : gH} (hg : HR g) {v0 v1 v2 : Int} (hK0 : kd v0 = 7) (h1 : InR v1) (h2 : InR v2) : Go Φ pr_P fN 3 (fM_noKill g v0 v1 v2) d (pr_P 161) 0 (ev_loc (pr_P 161).1 [(sR v0), (sI v1), (sI v2)]) [] g 0 0 := by
  show Go Φ pr_P fN 3 (fM_noKill g v0 v1 v2) d pr_m161 0 [some (sR v0), some (sI v1), some (sI v2)] [] g 0 0
  unfold fM_noKill
  refine go_aload kk161_0.1.1.1.1.1 rfl ?_
  refine go_int kk161_0.1.1.1.1.2 0 rfl ?_
  refine go_putI (bI := 8) kk161_0.1.1.1.2 hg hK0 (by decide) rfl rfl (inR_b (Or.inl rfl)) (fun g1 e2 => ?_)
  refine go_aload kk161_0.1.1.2.1 rfl ?_
  refine go_iload kk161_0.1.1.2.2 rfl ?_
  refine go_callP3 kk161_0.1.2.1.1 rfl rfl rfl trivial ⟨Nat.zero_le _, Nat.zero_le _⟩ (by omega) (tfM_isSmall (by omega) e2  h1) (fun y3 r4 => ?_)
  refine go_ifeq kk161_0.1.2.1.2 (inR_b r4) (fun c7 => ?_) (fun c8 => ?_)
  · refine go_int kk161_0.2.1.2.1 1 rfl ?_
    refine go_goto kk161_0.2.1.2.2 ?_
    refine go_int kk161_0.2.2.1.2 1 rfl ?_
    refine go_callN3 kk161_0.2.2.2.1 rfl rfl rfl ⟨by decide, _, rfl, hK0⟩ ⟨Nat.zero_le _, Nat.zero_le _⟩ (by omega) (tfM_fails (by omega) e2 hK0  (Or.inr rfl) (inR_b (Or.inr rfl))) (fun y9 g11 r10 e12 => ?_)
    exact go_bret kk161_0.2.2.2.2 e12 r10 ⟨Nat.zero_le _, Nat.zero_le _⟩ rfl
  · refine go_iload kk161_0.1.2.2.1 rfl ?_
    refine go_int kk161_0.1.2.2.2 0 rfl ?_
    refine go_int kk161_0.2.1.1.1.1 255 rfl ?_
    refine go_callP3 kk161_0.2.1.1.1.2 rfl rfl rfl trivial ⟨Nat.zero_le _, Nat.zero_le _⟩ (by omega) (tfM_inRange (by omega) e2  h2 (inR_b (Or.inl rfl)) (inR_of (by decide))) (fun y13 r14 => ?_)
    refine go_ifeq kk161_0.2.1.1.2 (inR_b r14) (fun c17 => ?_) (fun c18 => ?_)
    · refine go_int kk161_0.2.1.2.1 1 rfl ?_
      refine go_goto kk161_0.2.1.2.2 ?_
      refine go_int kk161_0.2.2.1.2 1 rfl ?_
      refine go_callN3 kk161_0.2.2.2.1 rfl rfl rfl ⟨by decide, _, rfl, hK0⟩ ⟨Nat.zero_le _, Nat.zero_le _⟩ (by omega) (tfM_fails (by omega) e2 hK0  (Or.inr rfl) (inR_b (Or.inr rfl))) (fun y19 g21 r20 e22 => ?_)
      exact go_bret kk161_0.2.2.2.2 e22 r20 ⟨Nat.zero_le _, Nat.zero_le _⟩ rfl
    · refine go_int kk161_0.2.2.1.1 0 rfl ?_
      refine go_int kk161_0.2.2.1.2 1 rfl ?_
      refine go_callN3 kk161_0.2.2.2.1 rfl rfl rfl ⟨by decide, _, rfl, hK0⟩ ⟨Nat.zero_le _, Nat.zero_le _⟩ (by omega) (tfM_fails (by omega) e2 hK0  (Or.inl rfl) (inR_b (Or.inr rfl))) (fun y23 g25 r24 e26 => ?_)
      exact go_bret kk161_0.2.2.2.2 e26 r24 ⟨Nat.zero_le _, Nat.zero_le _⟩ rfl
theorem tfM_kill {Φ : ev_P} {d : Nat} (hd : 9 ≤ d) {g : gH} (hg : HR g) {v0 v1 v2 : Int} (hK0 : kd v0 = 7) (h1 : InR v1) (h2 : InR v2) : Go Φ pr_P fN 1 (fM_kill g v0 v1 v2) d (pr_P 162) 0 (ev_loc (pr_P 162).1 [(sR v0), (sI v1), (sI v2)]) [] g 0 0 := by
  show Go Φ pr_P fN 1 (fM_kill g v0 v1 v2) d pr_m162 0 [some (sR v0), some (sI v1), some (sI v2)] [] g 0 0
  unfold fM_kill
  refine go_aload kk162_0.1.1.1.1 rfl ?_
  refine go_iload kk162_0.1.1.1.2 rfl ?_
  refine go_iload kk162_0.1.1.2.1 rfl ?_
  refine go_callN3 kk162_0.1.1.2.2 rfl rfl rfl ⟨by decide, _, rfl, hK0⟩ ⟨Nat.zero_le _, Nat.zero_le _⟩ (by omega) (tfM_noKill (by omega) hg hK0  h1 h2) (fun y1 g3 r2 e4 => ?_)
  refine go_ifeq kk162_0.1.2.1.1 (inR_b r2) (fun c5 => ?_) (fun c6 => ?_)
  · refine go_aload kk162_0.2.1.1.1 rfl ?_
    refine go_callN0 kk162_0.2.1.1.2 rfl rfl rfl ⟨by decide, _, rfl, hK0⟩ ⟨Nat.zero_le _, Nat.zero_le _⟩ (by omega) (tfM_remembers (by omega) e4 hK0 ) (fun y7 g9 e10 => ?_)
    refine go_aload kk162_0.2.1.2.1 rfl ?_
    refine go_iload kk162_0.2.1.2.2 rfl ?_
    refine go_iload kk162_0.2.2.1.1 rfl ?_
    refine go_callN1 kk162_0.2.2.1.2 rfl rfl rfl ⟨by decide, _, rfl, hK0⟩ ⟨Nat.zero_le _, Nat.zero_le _⟩ (by omega) (tfM_kills (by omega) e10 hK0  h1 h2) (fun y11 g13 r12 e14 => ?_)
    exact go_iret kk162_0.2.2.2 e14 r12 ⟨Nat.zero_le _, Nat.zero_le _⟩ rfl
  · refine go_int kk162_0.1.2.1.2 0 rfl ?_
    exact go_iret kk162_0.1.2.2 e4 (inR_b (Or.inl rfl)) ⟨Nat.zero_le _, Nat.zero_le _⟩ rfl
theorem tjM_notRunning_22 {Φ : ev_P} {d : Nat} (hd : 2 ≤ d) {g : gH} (hg : HR g) {v2 : Int} (h2 : InR v2) {s0 s1 : Int} (z0 : RfR s0) (z1 : B01 s1) (u0 : Option ev_V) (w0 : nwo u0) (u1 : Option ev_V) (w1 : nwo u1) : Go Φ pr_P fN 3 (jM_notRunning_22 g v2 s0 s1 ) d pr_m136 22 [u0, u1, some (sI v2)] [(sI s1), (sR s0)] g 0 0 := by
  unfold jM_notRunning_22
  refine go_iload kk136_0.2.1.1.2 rfl ?_
  refine go_ck (fun q13 => ?_)
  refine go_callN3 kk136_0.2.1.2.1 rfl rfl rfl ⟨by decide, _, rfl, q13⟩ ⟨Nat.zero_le _, Nat.zero_le _⟩ (by omega) (tfM_fails (by omega) hg q13  z1 h2) (fun y14 g16 r15 e17 => ?_)
  refine go_ifeq kk136_0.2.1.2.2 (inR_b r15) (fun c18 => ?_) (fun c19 => ?_)
  · refine go_int kk136_0.2.2.2.1 0 rfl ?_
    exact go_bret kk136_0.2.2.2.2 e17 (Or.inl rfl) ⟨Nat.zero_le _, Nat.zero_le _⟩ rfl
  · refine go_int kk136_0.2.2.1.1 1 rfl ?_
    refine go_goto kk136_0.2.2.1.2 ?_
    exact go_bret kk136_0.2.2.2.2 e17 (Or.inr rfl) ⟨Nat.zero_le _, Nat.zero_le _⟩ rfl
theorem tfM_notRunning {Φ : ev_P} {d : Nat} (hd : 2 ≤ d) {g : gH} (hg : HR g) {v0 v1 v2 : Int} (hK0 : kd v0 = 7) (h1 : InR v1) (h2 : InR v2) : Go Φ pr_P fN 3 (fM_notRunning g v0 v1 v2) d (pr_P 136) 0 (ev_loc (pr_P 136).1 [(sR v0), (sI v1), (sI v2)]) [] g 0 0 := by
  show Go Φ pr_P fN 3 (fM_notRunning g v0 v1 v2) d pr_m136 0 [some (sR v0), some (sI v1), some (sI v2)] [] g 0 0
  unfold fM_notRunning
  refine go_aload kk136_0.1.1.1.1.1 rfl ?_
  refine go_iload kk136_0.1.1.1.1.2 rfl ?_
  refine go_callN3 kk136_0.1.1.1.2 rfl rfl rfl ⟨by decide, _, rfl, hK0⟩ ⟨Nat.zero_le _, Nat.zero_le _⟩ (by omega) (tfM_noProcess (by omega) hg hK0  h1) (fun y1 g3 r2 e4 => ?_)
  refine go_ifeq kk136_0.1.1.2.1 (inR_b r2) (fun c5 => ?_) (fun c6 => ?_)
  · refine go_aload kk136_0.1.1.2.2 rfl ?_
    refine go_aload kk136_0.1.2.1.1.1 rfl ?_
    refine go_iload kk136_0.1.2.1.1.2 rfl ?_
    refine go_callP3 kk136_0.1.2.1.2 rfl rfl rfl ⟨by decide, _, rfl, hK0⟩ ⟨Nat.zero_le _, Nat.zero_le _⟩ (by omega) (tfM_runs (by omega) e4 hK0  h1) (fun y7 r8 => ?_)
    refine go_ifeq kk136_0.1.2.2.1 (inR_b r8) (fun c11 => ?_) (fun c12 => ?_)
    · refine go_int kk136_0.1.2.2.2 1 rfl ?_
      refine go_goto kk136_0.2.1.1.1.1 ?_
      exact tjM_notRunning_22 hd e4 h2 (rfR_kd hK0 (by decide)) (Or.inr rfl) (some (sR v0)) rfl (some (sI v1)) rfl
    · refine go_int kk136_0.2.1.1.1.2 0 rfl ?_
      exact tjM_notRunning_22 hd e4 h2 (rfR_kd hK0 (by decide)) (Or.inl rfl) (some (sR v0)) rfl (some (sI v1)) rfl
  · refine go_int kk136_0.2.2.1.1 1 rfl ?_
    refine go_goto kk136_0.2.2.1.2 ?_
    exact go_bret kk136_0.2.2.2.2 e4 (Or.inr rfl) ⟨Nat.zero_le _, Nat.zero_le _⟩ rfl
theorem tjM_read_28 {Φ : ev_P} {d : Nat} (hd : 3 ≤ d) {g : gH} (hg : HR g) {v0 v2 : Int} (hK0 : kd v0 = 7) (h2 : InR v2) {s0 s1 : Int} (z0 : RfR s0) (z1 : B01 s1) (u1 : Option ev_V) (w1 : nwo u1) : Go Φ pr_P fN 1 (jM_read_28 g v0 v2 s0 s1 ) d pr_m163 28 [some (sR v0), u1, some (sI v2)] [(sI s1), (sR s0)] g 0 0 := by
  unfold jM_read_28
  refine go_int kk163_0.1.2.2.1.1.2 3 rfl ?_
  refine go_ck (fun q13 => ?_)
  refine go_callN3 kk163_0.1.2.2.1.2 rfl rfl rfl ⟨by decide, _, rfl, q13⟩ ⟨Nat.zero_le _, Nat.zero_le _⟩ (by omega) (tfM_fails (by omega) hg q13  z1 (inR_of (by decide))) (fun y14 g16 r15 e17 => ?_)
  refine go_ifeq kk163_0.1.2.2.2.1 (inR_b r15) (fun c18 => ?_) (fun c19 => ?_)
  · refine go_aload kk163_0.2.1.1.1.1.2 rfl ?_
    refine go_callN0 kk163_0.2.1.1.1.2 rfl rfl rfl ⟨by decide, _, rfl, hK0⟩ ⟨Nat.zero_le _, Nat.zero_le _⟩ (by omega) (tfM_remembers (by omega) e17 hK0 ) (fun y20 g22 e23 => ?_)
    refine go_aload kk163_0.2.1.1.2.1.1 rfl ?_
    refine go_getR (bI := 0) kk163_0.2.1.1.2.1.2 e23 hK0 (by decide) rfl rfl (fun r24 => ?_)
    refine go_int kk163_0.2.1.1.2.2 140 rfl ?_
    refine go_iload kk163_0.2.1.2.1.1.1 rfl ?_
    refine go_iadd kk163_0.2.1.2.1.1.2 ?_
    refine go_int kk163_0.2.1.2.1.2 2 rfl ?_
    refine go_ck (fun q25 => ?_)
    refine go_iast kk163_0.2.1.2.2.1 e23 q25 (inR_of (by decide)) (fun g26 e27 => ?_)
    refine go_int kk163_0.2.1.2.2.2 1000 rfl ?_
    refine go_iload kk163_0.2.2.1.1.1.1 rfl ?_
    refine go_ibin kk163_0.2.2.1.1.1.2 ?_
    refine go_aload kk163_0.2.2.1.1.2 rfl ?_
    refine go_getR (bI := 0) kk163_0.2.2.1.2.1 e27 hK0 (by decide) rfl rfl (fun r28 => ?_)
    refine go_int kk163_0.2.2.1.2.2 300 rfl ?_
    refine go_iload kk163_0.2.2.2.1.1.1 rfl ?_
    refine go_iadd kk163_0.2.2.2.1.1.2 ?_
    refine go_ck (fun q30 => ?_)
    refine go_iald kk163_0.2.2.2.1.2 e27 q30 (fun r29 => ?_)
    refine go_iadd kk163_0.2.2.2.2.1 ?_
    exact go_iret kk163_0.2.2.2.2.2 e27 (inR_w32 _) ⟨Nat.zero_le _, Nat.zero_le _⟩ rfl
  · refine go_int kk163_0.1.2.2.2.2 0 rfl ?_
    exact go_iret kk163_0.2.1.1.1.1.1 e17 (inR_b (Or.inl rfl)) ⟨Nat.zero_le _, Nat.zero_le _⟩ rfl
theorem tfM_read {Φ : ev_P} {d : Nat} (hd : 3 ≤ d) {g : gH} (hg : HR g) {v0 v1 : Int} (hK0 : kd v0 = 7) (h1 : InR v1) : Go Φ pr_P fN 1 (fM_read g v0 v1) d (pr_P 163) 0 (ev_loc (pr_P 163).1 [(sR v0), (sI v1)]) [] g 0 0 := by
  show Go Φ pr_P fN 1 (fM_read g v0 v1) d pr_m163 0 [some (sR v0), some (sI v1), none] [] g 0 0
  unfold fM_read
  refine go_aload kk163_0.1.1.1.1.1.1 rfl ?_
  refine go_iload kk163_0.1.1.1.1.1.2 rfl ?_
  refine go_int kk163_0.1.1.1.1.2 2 rfl ?_
  refine go_callN3 kk163_0.1.1.1.2.1.1 rfl rfl rfl ⟨by decide, _, rfl, hK0⟩ ⟨Nat.zero_le _, Nat.zero_le _⟩ (by omega) (tfM_notRunning (by omega) hg hK0  h1 (inR_of (by decide))) (fun y1 g3 r2 e4 => ?_)
  refine go_ifeq kk163_0.1.1.1.2.1.2 (inR_b r2) (fun c5 => ?_) (fun c6 => ?_)
  · refine go_aload kk163_0.1.1.2.1.1.2 rfl ?_
    refine go_iload kk163_0.1.1.2.1.2 rfl ?_
    refine go_callP1 kk163_0.1.1.2.2.1 rfl rfl rfl ⟨by decide, _, rfl, hK0⟩ ⟨Nat.zero_le _, Nat.zero_le _⟩ (by omega) (tfM_firstZombie (by omega) e4 hK0  h1) (fun y7 r8 => ?_)
    refine go_istore kk163_0.1.1.2.2.2 rfl (loc2 := [some (sR v0), some (sI v1), some (sI y7)]) rfl ?_
    refine go_aload kk163_0.1.2.1.1.1.1 rfl ?_
    refine go_iload kk163_0.1.2.1.1.1.2 rfl ?_
    refine go_int kk163_0.1.2.1.1.2 (-1) rfl ?_
    refine go_cmeq kk163_0.1.2.1.2.1.1 r8 (inR_of (by decide)) (fun c11 => ?_) (fun c12 => ?_)
    · refine go_int kk163_0.1.2.1.2.1.2 1 rfl ?_
      refine go_goto kk163_0.1.2.1.2.2 ?_
      exact tjM_read_28 hd e4 hK0 r8 (rfR_kd hK0 (by decide)) (Or.inr rfl) (some (sI v1)) rfl
    · refine go_int kk163_0.1.2.2.1.1.1 0 rfl ?_
      exact tjM_read_28 hd e4 hK0 r8 (rfR_kd hK0 (by decide)) (Or.inl rfl) (some (sI v1)) rfl
  · refine go_int kk163_0.1.1.1.2.2 0 rfl ?_
    exact go_iret kk163_0.1.1.2.1.1.1 e4 (inR_b (Or.inl rfl)) ⟨Nat.zero_le _, Nat.zero_le _⟩ rfl
theorem tfM_readAll {Φ : ev_P} {d : Nat} (hd : 3 ≤ d) {g : gH} (hg : HR g) {v0 v1 : Int} (hK0 : kd v0 = 7) (h1 : InR v1) : Go Φ pr_P fN 1 (fM_readAll g v0 v1) d (pr_P 164) 0 (ev_loc (pr_P 164).1 [(sR v0), (sI v1)]) [] g 0 0 := by
  show Go Φ pr_P fN 1 (fM_readAll g v0 v1) d pr_m164 0 [some (sR v0), some (sI v1)] [] g 0 0
  unfold fM_readAll
  refine go_aload kk164_0.1.1.1.1 rfl ?_
  refine go_iload kk164_0.1.1.1.2 rfl ?_
  refine go_int kk164_0.1.1.2.1 2 rfl ?_
  refine go_callN3 kk164_0.1.1.2.2 rfl rfl rfl ⟨by decide, _, rfl, hK0⟩ ⟨Nat.zero_le _, Nat.zero_le _⟩ (by omega) (tfM_notRunning (by omega) hg hK0  h1 (inR_of (by decide))) (fun y1 g3 r2 e4 => ?_)
  refine go_ifeq kk164_0.1.2.1.1 (inR_b r2) (fun c5 => ?_) (fun c6 => ?_)
  · refine go_aload kk164_0.2.1.1.1 rfl ?_
    refine go_callN0 kk164_0.2.1.1.2 rfl rfl rfl ⟨by decide, _, rfl, hK0⟩ ⟨Nat.zero_le _, Nat.zero_le _⟩ (by omega) (tfM_remembers (by omega) e4 hK0 ) (fun y7 g9 e10 => ?_)
    refine go_aload kk164_0.2.1.2 rfl ?_
    refine go_iload kk164_0.2.2.1.1 rfl ?_
    refine go_callN1 kk164_0.2.2.1.2 rfl rfl rfl ⟨by decide, _, rfl, hK0⟩ ⟨Nat.zero_le _, Nat.zero_le _⟩ (by omega) (tfM_readsAll (by omega) e10 hK0  h1) (fun y11 g13 r12 e14 => ?_)
    exact go_iret kk164_0.2.2.2 e14 r12 ⟨Nat.zero_le _, Nat.zero_le _⟩ rfl
  · refine go_int kk164_0.1.2.1.2 0 rfl ?_
    exact go_iret kk164_0.1.2.2 e4 (inR_b (Or.inl rfl)) ⟨Nat.zero_le _, Nat.zero_le _⟩ rfl
theorem tbM_refuse_80 {Φ : ev_P} {d : Nat} (hd : 7 ≤ d) {v0 v1 v2 : Int} (hK0 : kd v0 = 7) (h1 : InR v1) (h2 : InR v2) {X80 : Int → Int → gH → Option (Int × gH)} (HX80 : ∀ (v3 : Int) (h3 : InR v3) (v4 : Int) (h4 : InR v4) (g : gH) (hg : HR g), Go Φ pr_P fN 1 (X80 v3 v4 g) d pr_m165 80 [some (sR v0), some (sI v1), some (sI v2), some (sI v3), some (sI v4)] [] g 0 0) : ∀ (v3 : Int) (h3 : InR v3) (v4 : Int) (h4 : InR v4) (g : gH) (hg : HR g), Go Φ pr_P fN 1 (bM_refuse_80 v0 v1 v2 X80 v3 v4 g) d pr_m165 80 [some (sR v0), some (sI v1), some (sI v2), some (sI v3), some (sI v4)] [] g 0 0 := by
  intro v3 h3 v4 h4 g hg
  unfold bM_refuse_80
  refine go_iload kk165_1.1.1.2.1.2 rfl ?_
  refine go_aload kk165_1.1.1.2.2.1 rfl ?_
  refine go_getR (bI := 0) kk165_1.1.1.2.2.2 hg hK0 (by decide) rfl rfl (fun r45 => ?_)
  refine go_int kk165_1.1.2.1.1.1.1 0 rfl ?_
  refine go_ck (fun q47 => ?_)
  refine go_iald kk165_1.1.2.1.1.1.2 hg q47 (fun r46 => ?_)
  refine go_cmlt kk165_1.1.2.1.1.2 h4 r46 (fun c48 => ?_) (fun c49 => ?_)
  · refine go_aload kk165_1.1.2.1.2.1 rfl ?_
    refine go_iload kk165_1.1.2.1.2.2 rfl ?_
    refine go_iload kk165_1.1.2.2.1.1.1 rfl ?_
    refine go_int kk165_1.1.2.2.1.1.2 0 rfl ?_
    refine go_callP3 kk165_1.1.2.2.1.2 rfl rfl rfl ⟨by decide, _, rfl, hK0⟩ ⟨Nat.zero_le _, Nat.zero_le _⟩ (by omega) (tfM_isChild (by omega) hg hK0  h4 h1 (inR_b (Or.inl rfl))) (fun y50 r51 => ?_)
    refine go_ifeq kk165_1.1.2.2.2.1 (inR_b r51) (fun c54 => ?_) (fun c55 => ?_)
    · refine go_iinc kk165_1.2.2.2.1.1.2 rfl rfl 1 rfl (loc2 := [some (sR v0), some (sI v1), some (sI v2), some (sI v3), some (sI (w32 (v4 + 1)))]) rfl ?_
      refine go_goto kk165_1.2.2.2.1.2 ?_
      exact HX80 v3 h3 (w32 (v4 + 1)) (inR_w32 _) g hg
    · refine go_aload kk165_1.1.2.2.2.2 rfl ?_
      refine go_getR (bI := 0) kk165_1.2.1.1.1.1.1 hg hK0 (by decide) rfl rfl (fun r56 => ?_)
      refine go_int kk165_1.2.1.1.1.1.2 180 rfl ?_
      refine go_iload kk165_1.2.1.1.1.2 rfl ?_
      refine go_iadd kk165_1.2.1.1.2.1 ?_
      refine go_ck (fun q58 => ?_)
      refine go_iald kk165_1.2.1.1.2.2 hg q58 (fun r57 => ?_)
      refine go_iload kk165_1.2.1.2.1.1.1 rfl ?_
      refine go_cmeq kk165_1.2.1.2.1.1.2 r57 h2 (fun c59 => ?_) (fun c60 => ?_)
      · refine go_aload kk165_1.2.1.2.2.1 rfl ?_
        refine go_aload kk165_1.2.1.2.2.2 rfl ?_
        refine go_iload kk165_1.2.2.1.1.1.1 rfl ?_
        refine go_iload kk165_1.2.2.1.1.1.2 rfl ?_
        refine go_callP1 kk165_1.2.2.1.1.2 rfl rfl rfl ⟨by decide, _, rfl, hK0⟩ ⟨Nat.zero_le _, Nat.zero_le _⟩ (by omega) (tfM_adopterOf (by omega) hg hK0  h4 h1) (fun y61 r62 => ?_)
        refine go_iload kk165_1.2.2.1.2.1 rfl ?_
        refine go_callN0 kk165_1.2.2.1.2.2 rfl rfl rfl ⟨by decide, _, rfl, hK0⟩ ⟨Nat.zero_le _, Nat.zero_le _⟩ (by omega) (tfM_adopts (by omega) hg hK0  r62 h4) (fun y65 g67 e68 => ?_)
        refine go_iinc kk165_1.2.2.2.1.1.1 rfl rfl 1 rfl (loc2 := [some (sR v0), some (sI v1), some (sI v2), some (sI (w32 (v3 + 1))), some (sI v4)]) rfl ?_
        refine go_iinc kk165_1.2.2.2.1.1.2 rfl rfl 1 rfl (loc2 := [some (sR v0), some (sI v1), some (sI v2), some (sI (w32 (v3 + 1))), some (sI (w32 (v4 + 1)))]) rfl ?_
        refine go_goto kk165_1.2.2.2.1.2 ?_
        exact HX80 (w32 (v3 + 1)) (inR_w32 _) (w32 (v4 + 1)) (inR_w32 _) g67 e68
      · refine go_goto kk165_1.2.1.2.1.2 ?_
        refine go_iinc kk165_1.2.2.2.1.1.2 rfl rfl 1 rfl (loc2 := [some (sR v0), some (sI v1), some (sI v2), some (sI v3), some (sI (w32 (v4 + 1)))]) rfl ?_
        refine go_goto kk165_1.2.2.2.1.2 ?_
        exact HX80 v3 h3 (w32 (v4 + 1)) (inR_w32 _) g hg
  · refine go_iload kk165_1.2.2.2.2.1 rfl ?_
    exact go_iret kk165_1.2.2.2.2.2 hg h3 ⟨Nat.zero_le _, Nat.zero_le _⟩ rfl
theorem tlM_refuse_80 {Φ : ev_P} {d : Nat} (hd : 7 ≤ d) {v0 v1 v2 : Int} (hK0 : kd v0 = 7) (h1 : InR v1) (h2 : InR v2) : ∀ n : Nat, ∀ (v3 : Int) (h3 : InR v3) (v4 : Int) (h4 : InR v4) (g : gH) (hg : HR g), Go Φ pr_P fN 1 (lM_refuse_80 v0 v1 v2 n v3 v4 g) d pr_m165 80 [some (sR v0), some (sI v1), some (sI v2), some (sI v3), some (sI v4)] [] g 0 0 := by
  intro n
  induction n with
  | zero => intros; exact go_none
  | succ n ih => exact tbM_refuse_80 hd hK0 h1 h2 ih
theorem tjM_refuse_46 {Φ : ev_P} {d : Nat} (hd : 7 ≤ d) {g : gH} (hg : HR g) {v0 v1 v2 : Int} (hK0 : kd v0 = 7) (h1 : InR v1) (h2 : InR v2) {s0 s1 : Int} (z0 : RfR s0) (z1 : B01 s1) (u3 : Option ev_V) (w3 : nwo u3) (u4 : Option ev_V) (w4 : nwo u4) : Go Φ pr_P fN 1 (jM_refuse_46 g v0 v1 v2 s0 s1 ) d pr_m165 46 [some (sR v0), some (sI v1), some (sI v2), u3, u4] [(sI s1), (sR s0)] g 0 0 := by
  unfold jM_refuse_46
  refine go_int kk165_0.2.1.1.2.2 3 rfl ?_
  refine go_ck (fun q28 => ?_)
  refine go_callN3 kk165_0.2.1.2.1.1.1 rfl rfl rfl ⟨by decide, _, rfl, q28⟩ ⟨Nat.zero_le _, Nat.zero_le _⟩ (by omega) (tfM_fails (by omega) hg q28  z1 (inR_of (by decide))) (fun y29 g31 r30 e32 => ?_)
  refine go_ifeq kk165_0.2.1.2.1.1.2 (inR_b r30) (fun c33 => ?_) (fun c34 => ?_)
  · refine go_aload kk165_0.2.1.2.2.2 rfl ?_
    refine go_callN0 kk165_0.2.2.1.1.1.1 rfl rfl rfl ⟨by decide, _, rfl, hK0⟩ ⟨Nat.zero_le _, Nat.zero_le _⟩ (by omega) (tfM_remembers (by omega) e32 hK0 ) (fun y35 g37 e38 => ?_)
    refine go_aload kk165_0.2.2.1.1.1.2 rfl ?_
    refine go_getR (bI := 0) kk165_0.2.2.1.1.2 e38 hK0 (by decide) rfl rfl (fun r39 => ?_)
    refine go_int kk165_0.2.2.1.2.1 340 rfl ?_
    refine go_iload kk165_0.2.2.1.2.2 rfl ?_
    refine go_iadd kk165_0.2.2.2.1.1.1 ?_
    refine go_dup2 kk165_0.2.2.2.1.1.2 ?_
    refine go_ck (fun q41 => ?_)
    refine go_iald kk165_0.2.2.2.1.2 e38 q41 (fun r40 => ?_)
    refine go_int kk165_0.2.2.2.2.1 1 rfl ?_
    refine go_iload kk165_0.2.2.2.2.2 rfl ?_
    refine go_ibin kk165_1.1.1.1.1.1.1 ?_
    refine go_ibin kk165_1.1.1.1.1.1.2 ?_
    refine go_ck (fun q42 => ?_)
    refine go_iast kk165_1.1.1.1.1.2 e38 q42 (inR_opI _ _ _) (fun g43 e44 => ?_)
    refine go_int kk165_1.1.1.1.2.1 0 rfl ?_
    refine go_istore kk165_1.1.1.1.2.2 rfl (loc2 := [some (sR v0), some (sI v1), some (sI v2), some (sI 0), u4]) rfl ?_
    refine go_int kk165_1.1.1.2.1.1.1 1 rfl ?_
    refine go_istore kk165_1.1.1.2.1.1.2 rfl (loc2 := [some (sR v0), some (sI v1), some (sI v2), some (sI 0), some (sI 1)]) rfl ?_
    exact tlM_refuse_80 hd hK0 h1 h2 fu 0 (inR_b (Or.inl rfl)) 1 (inR_b (Or.inr rfl)) g43 e44
  · refine go_int kk165_0.2.1.2.1.2 0 rfl ?_
    exact go_iret kk165_0.2.1.2.2.1 e32 (inR_b (Or.inl rfl)) ⟨Nat.zero_le _, Nat.zero_le _⟩ rfl
theorem tjM_refuse_41 {Φ : ev_P} {d : Nat} (hd : 7 ≤ d) {g : gH} (hg : HR g) {v0 v1 v2 : Int} (hK0 : kd v0 = 7) (h1 : InR v1) (h2 : InR v2) {s0 : Int} (z0 : RfR s0) (u3 : Option ev_V) (w3 : nwo u3) (u4 : Option ev_V) (w4 : nwo u4) : Go Φ pr_P fN 1 (jM_refuse_41 g v0 v1 v2 s0 ) d pr_m165 41 [some (sR v0), some (sI v1), some (sI v2), u3, u4] [(sR s0)] g 0 0 := by
  unfold jM_refuse_41
  refine go_int kk165_0.2.1.1.1.1.2 1 rfl ?_
  refine go_goto kk165_0.2.1.1.1.2 ?_
  exact tjM_refuse_46 hd hg hK0 h1 h2 z0 (Or.inr rfl) u3 w3 u4 w4
theorem tjM_refuse_21 {Φ : ev_P} {d : Nat} (hd : 7 ≤ d) {g : gH} (hg : HR g) {v0 v1 v2 : Int} (hK0 : kd v0 = 7) (h1 : InR v1) (h2 : InR v2) {s0 s1 : Int} (z0 : RfR s0) (z1 : B01 s1) (u3 : Option ev_V) (w3 : nwo u3) (u4 : Option ev_V) (w4 : nwo u4) : Go Φ pr_P fN 1 (jM_refuse_21 g v0 v1 v2 s0 s1 ) d pr_m165 21 [some (sR v0), some (sI v1), some (sI v2), u3, u4] [(sI s1), (sR s0)] g 0 0 := by
  unfold jM_refuse_21
  refine go_int kk165_0.1.2.1.1.1.2 2 rfl ?_
  refine go_ck (fun q13 => ?_)
  refine go_callN3 kk165_0.1.2.1.1.2 rfl rfl rfl ⟨by decide, _, rfl, q13⟩ ⟨Nat.zero_le _, Nat.zero_le _⟩ (by omega) (tfM_fails (by omega) hg q13  z1 (inR_of (by decide))) (fun y14 g16 r15 e17 => ?_)
  refine go_ifeq kk165_0.1.2.1.2.1 (inR_b r15) (fun c18 => ?_) (fun c19 => ?_)
  · refine go_aload kk165_0.1.2.1.2.2 rfl ?_
    refine go_iload kk165_0.1.2.2.1.1.1 rfl ?_
    refine go_ifeq kk165_0.1.2.2.1.1.2 h1 (fun c20 => ?_) (fun c21 => ?_)
    · exact tjM_refuse_41 hd e17 hK0 h1 h2 (rfR_kd hK0 (by decide)) u3 w3 u4 w4
    · refine go_aload kk165_0.1.2.2.1.2 rfl ?_
      refine go_iload kk165_0.1.2.2.2.1 rfl ?_
      refine go_callP3 kk165_0.1.2.2.2.2 rfl rfl rfl ⟨by decide, _, rfl, hK0⟩ ⟨Nat.zero_le _, Nat.zero_le _⟩ (by omega) (tfM_runs (by omega) e17 hK0  h1) (fun y22 r23 => ?_)
      refine go_ifeq kk165_0.2.1.1.1.1.1 (inR_b r23) (fun c26 => ?_) (fun c27 => ?_)
      · exact tjM_refuse_41 hd e17 hK0 h1 h2 (rfR_kd hK0 (by decide)) u3 w3 u4 w4
      · refine go_int kk165_0.2.1.1.2.1 0 rfl ?_
        exact tjM_refuse_46 hd e17 hK0 h1 h2 (rfR_kd hK0 (by decide)) (Or.inl rfl) u3 w3 u4 w4
  · refine go_int kk165_0.2.1.2.1.2 0 rfl ?_
    exact go_iret kk165_0.2.1.2.2.1 e17 (inR_b (Or.inl rfl)) ⟨Nat.zero_le _, Nat.zero_le _⟩ rfl
theorem tfM_refuse {Φ : ev_P} {d : Nat} (hd : 7 ≤ d) {g : gH} (hg : HR g) {v0 v1 v2 : Int} (hK0 : kd v0 = 7) (h1 : InR v1) (h2 : InR v2) : Go Φ pr_P fN 1 (fM_refuse g v0 v1 v2) d (pr_P 165) 0 (ev_loc (pr_P 165).1 [(sR v0), (sI v1), (sI v2)]) [] g 0 0 := by
  show Go Φ pr_P fN 1 (fM_refuse g v0 v1 v2) d pr_m165 0 [some (sR v0), some (sI v1), some (sI v2), none, none] [] g 0 0
  unfold fM_refuse
  refine go_aload kk165_0.1.1.1.1.1.1 rfl ?_
  refine go_iload kk165_0.1.1.1.1.1.2 rfl ?_
  refine go_callN3 kk165_0.1.1.1.1.2 rfl rfl rfl ⟨by decide, _, rfl, hK0⟩ ⟨Nat.zero_le _, Nat.zero_le _⟩ (by omega) (tfM_noProcess (by omega) hg hK0  h1) (fun y1 g3 r2 e4 => ?_)
  refine go_ifeq kk165_0.1.1.1.2.1 (inR_b r2) (fun c5 => ?_) (fun c6 => ?_)
  · refine go_aload kk165_0.1.1.1.2.2 rfl ?_
    refine go_iload kk165_0.1.1.2.1.1.1 rfl ?_
    refine go_callP3 kk165_0.1.1.2.1.1.2 rfl rfl rfl trivial ⟨Nat.zero_le _, Nat.zero_le _⟩ (by omega) (tfM_isSmall (by omega) e4  h2) (fun y7 r8 => ?_)
    refine go_ifeq kk165_0.1.1.2.1.2 (inR_b r8) (fun c11 => ?_) (fun c12 => ?_)
    · refine go_int kk165_0.1.1.2.2.1 1 rfl ?_
      refine go_goto kk165_0.1.1.2.2.2 ?_
      exact tjM_refuse_21 hd e4 hK0 h1 h2 (rfR_kd hK0 (by decide)) (Or.inr rfl) none rfl none rfl
    · refine go_int kk165_0.1.2.1.1.1.1 0 rfl ?_
      exact tjM_refuse_21 hd e4 hK0 h1 h2 (rfR_kd hK0 (by decide)) (Or.inl rfl) none rfl none rfl
  · refine go_int kk165_0.2.1.2.1.2 0 rfl ?_
    exact go_iret kk165_0.2.1.2.2.1 e4 (inR_b (Or.inl rfl)) ⟨Nat.zero_le _, Nat.zero_le _⟩ rfl
theorem tjM_accept_42 {Φ : ev_P} {d : Nat} (hd : 2 ≤ d) {g : gH} (hg : HR g) {v0 v1 v2 : Int} (hK0 : kd v0 = 7) (h1 : InR v1) (h2 : InR v2) {s0 s1 : Int} (z0 : RfR s0) (z1 : B01 s1) (u3 : Option ev_V) (w3 : nwo u3) : Go Φ pr_P fN 3 (jM_accept_42 g v0 v1 v2 s0 s1 ) d pr_m166 42 [some (sR v0), some (sI v1), some (sI v2), u3] [(sI s1), (sR s0)] g 0 0 := by
  unfold jM_accept_42
  refine go_int kk166_0.1.2.2.2.1.1 3 rfl ?_
  refine go_ck (fun q26 => ?_)
  refine go_callN3 kk166_0.1.2.2.2.1.2 rfl rfl rfl ⟨by decide, _, rfl, q26⟩ ⟨Nat.zero_le _, Nat.zero_le _⟩ (by omega) (tfM_fails (by omega) hg q26  z1 (inR_of (by decide))) (fun y27 g29 r28 e30 => ?_)
  refine go_ifeq kk166_0.1.2.2.2.2 (inR_b r28) (fun c31 => ?_) (fun c32 => ?_)
  · refine go_aload kk166_0.2.1.1.1.2.1 rfl ?_
    refine go_callN0 kk166_0.2.1.1.1.2.2 rfl rfl rfl ⟨by decide, _, rfl, hK0⟩ ⟨Nat.zero_le _, Nat.zero_le _⟩ (by omega) (tfM_remembers (by omega) e30 hK0 ) (fun y33 g35 e36 => ?_)
    refine go_aload kk166_0.2.1.1.2.1.1 rfl ?_
    refine go_iload kk166_0.2.1.1.2.1.2 rfl ?_
    refine go_iload kk166_0.2.1.1.2.2 rfl ?_
    refine go_callP3 kk166_0.2.1.2.1.1.1 rfl rfl rfl ⟨by decide, _, rfl, hK0⟩ ⟨Nat.zero_le _, Nat.zero_le _⟩ (by omega) (tfM_refusesGroup (by omega) e36 hK0  h1 h2) (fun y37 r38 => ?_)
    refine go_istore kk166_0.2.1.2.1.1.2 rfl (loc2 := [some (sR v0), some (sI v1), some (sI v2), some (sI y37)]) rfl ?_
    refine go_aload kk166_0.2.1.2.1.2 rfl ?_
    refine go_getR (bI := 0) kk166_0.2.1.2.2.1.1 e36 hK0 (by decide) rfl rfl (fun r41 => ?_)
    refine go_int kk166_0.2.1.2.2.1.2 340 rfl ?_
    refine go_iload kk166_0.2.1.2.2.2 rfl ?_
    refine go_iadd kk166_0.2.2.1.1.1.1 ?_
    refine go_dup2 kk166_0.2.2.1.1.1.2 ?_
    refine go_ck (fun q43 => ?_)
    refine go_iald kk166_0.2.2.1.1.2 e36 q43 (fun r42 => ?_)
    refine go_int kk166_0.2.2.1.2.1.1 1 rfl ?_
    refine go_iload kk166_0.2.2.1.2.1.2 rfl ?_
    refine go_ibin kk166_0.2.2.1.2.2 ?_
    refine go_int kk166_0.2.2.2.1.1.1 (-1) rfl ?_
    refine go_ibin kk166_0.2.2.2.1.1.2 ?_
    refine go_ibin kk166_0.2.2.2.1.2 ?_
    refine go_ck (fun q44 => ?_)
    refine go_iast kk166_0.2.2.2.2.1.1 e36 q44 (inR_opI _ _ _) (fun g45 e46 => ?_)
    refine go_iload kk166_0.2.2.2.2.1.2 rfl ?_
    exact go_bret kk166_0.2.2.2.2.2 e46 r38 ⟨Nat.zero_le _, Nat.zero_le _⟩ rfl
  · refine go_int kk166_0.2.1.1.1.1.1 0 rfl ?_
    exact go_bret kk166_0.2.1.1.1.1.2 e30 (Or.inl rfl) ⟨Nat.zero_le _, Nat.zero_le _⟩ rfl
theorem tjM_accept_21 {Φ : ev_P} {d : Nat} (hd : 2 ≤ d) {g : gH} (hg : HR g) {v0 v1 v2 : Int} (hK0 : kd v0 = 7) (h1 : InR v1) (h2 : InR v2) {s0 s1 : Int} (z0 : RfR s0) (z1 : B01 s1) (u3 : Option ev_V) (w3 : nwo u3) : Go Φ pr_P fN 3 (jM_accept_21 g v0 v1 v2 s0 s1 ) d pr_m166 21 [some (sR v0), some (sI v1), some (sI v2), u3] [(sI s1), (sR s0)] g 0 0 := by
  unfold jM_accept_21
  refine go_int kk166_0.1.1.2.2.1.2 2 rfl ?_
  refine go_ck (fun q13 => ?_)
  refine go_callN3 kk166_0.1.1.2.2.2 rfl rfl rfl ⟨by decide, _, rfl, q13⟩ ⟨Nat.zero_le _, Nat.zero_le _⟩ (by omega) (tfM_fails (by omega) hg q13  z1 (inR_of (by decide))) (fun y14 g16 r15 e17 => ?_)
  refine go_ifeq kk166_0.1.2.1.1.1.1 (inR_b r15) (fun c18 => ?_) (fun c19 => ?_)
  · refine go_aload kk166_0.1.2.1.1.1.2 rfl ?_
    refine go_aload kk166_0.1.2.1.1.2 rfl ?_
    refine go_iload kk166_0.1.2.1.2.1.1 rfl ?_
    refine go_callP3 kk166_0.1.2.1.2.1.2 rfl rfl rfl ⟨by decide, _, rfl, hK0⟩ ⟨Nat.zero_le _, Nat.zero_le _⟩ (by omega) (tfM_runs (by omega) e17 hK0  h1) (fun y20 r21 => ?_)
    refine go_ifeq kk166_0.1.2.1.2.2 (inR_b r21) (fun c24 => ?_) (fun c25 => ?_)
    · refine go_int kk166_0.1.2.2.1.1.1 1 rfl ?_
      refine go_goto kk166_0.1.2.2.1.1.2 ?_
      exact tjM_accept_42 hd e17 hK0 h1 h2 (rfR_kd hK0 (by decide)) (Or.inr rfl) u3 w3
    · refine go_int kk166_0.1.2.2.1.2 0 rfl ?_
      exact tjM_accept_42 hd e17 hK0 h1 h2 (rfR_kd hK0 (by decide)) (Or.inl rfl) u3 w3
  · refine go_int kk166_0.2.1.1.1.1.1 0 rfl ?_
    exact go_bret kk166_0.2.1.1.1.1.2 e17 (Or.inl rfl) ⟨Nat.zero_le _, Nat.zero_le _⟩ rfl
theorem tfM_accept {Φ : ev_P} {d : Nat} (hd : 2 ≤ d) {g : gH} (hg : HR g) {v0 v1 v2 : Int} (hK0 : kd v0 = 7) (h1 : InR v1) (h2 : InR v2) : Go Φ pr_P fN 3 (fM_accept g v0 v1 v2) d (pr_P 166) 0 (ev_loc (pr_P 166).1 [(sR v0), (sI v1), (sI v2)]) [] g 0 0 := by
  show Go Φ pr_P fN 3 (fM_accept g v0 v1 v2) d pr_m166 0 [some (sR v0), some (sI v1), some (sI v2), none] [] g 0 0
  unfold fM_accept
  refine go_aload kk166_0.1.1.1.1.1.1 rfl ?_
  refine go_iload kk166_0.1.1.1.1.1.2 rfl ?_
  refine go_callN3 kk166_0.1.1.1.1.2.1 rfl rfl rfl ⟨by decide, _, rfl, hK0⟩ ⟨Nat.zero_le _, Nat.zero_le _⟩ (by omega) (tfM_noProcess (by omega) hg hK0  h1) (fun y1 g3 r2 e4 => ?_)
  refine go_ifeq kk166_0.1.1.1.1.2.2 (inR_b r2) (fun c5 => ?_) (fun c6 => ?_)
  · refine go_aload kk166_0.1.1.1.2.1.1 rfl ?_
    refine go_iload kk166_0.1.1.1.2.1.2 rfl ?_
    refine go_callP3 kk166_0.1.1.1.2.2 rfl rfl rfl trivial ⟨Nat.zero_le _, Nat.zero_le _⟩ (by omega) (tfM_isSmall (by omega) e4  h2) (fun y7 r8 => ?_)
    refine go_ifeq kk166_0.1.1.2.1.1.1 (inR_b r8) (fun c11 => ?_) (fun c12 => ?_)
    · refine go_int kk166_0.1.1.2.1.1.2 1 rfl ?_
      refine go_goto kk166_0.1.1.2.1.2 ?_
      exact tjM_accept_21 hd e4 hK0 h1 h2 (rfR_kd hK0 (by decide)) (Or.inr rfl) none rfl
    · refine go_int kk166_0.1.1.2.2.1.1 0 rfl ?_
      exact tjM_accept_21 hd e4 hK0 h1 h2 (rfR_kd hK0 (by decide)) (Or.inl rfl) none rfl
  · refine go_int kk166_0.2.1.1.1.1.1 0 rfl ?_
    exact go_bret kk166_0.2.1.1.1.1.2 e4 (Or.inl rfl) ⟨Nat.zero_le _, Nat.zero_le _⟩ rfl
theorem tjM_move_84 {Φ : ev_P} {d : Nat} (hd : 3 ≤ d) {g : gH} (hg : HR g) {v0 v1 v2 : Int} (hK0 : kd v0 = 7) (h1 : InR v1) (h2 : InR v2) {s0 s1 : Int} (z0 : RfR s0) (z1 : B01 s1) (u3 : Option ev_V) (w3 : nwo u3) : Go Φ pr_P fN 1 (jM_move_84 g v0 v1 v2 s0 s1 ) d pr_m167 84 [some (sR v0), some (sI v1), some (sI v2), u3] [(sI s1), (sR s0)] g 0 0 := by
  unfold jM_move_84
  refine go_int kk167_1.1.2.1.2.1 2 rfl ?_
  refine go_ck (fun q50 => ?_)
  refine go_callN3 kk167_1.1.2.1.2.2 rfl rfl rfl ⟨by decide, _, rfl, q50⟩ ⟨Nat.zero_le _, Nat.zero_le _⟩ (by omega) (tfM_fails (by omega) hg q50  z1 (inR_of (by decide))) (fun y51 g53 r52 e54 => ?_)
  refine go_ifeq kk167_1.1.2.2.1.1 (inR_b r52) (fun c55 => ?_) (fun c56 => ?_)
  · refine go_aload kk167_1.1.2.2.2.2 rfl ?_
    refine go_callN0 kk167_1.2.1.1.1.1.1 rfl rfl rfl ⟨by decide, _, rfl, hK0⟩ ⟨Nat.zero_le _, Nat.zero_le _⟩ (by omega) (tfM_remembers (by omega) e54 hK0 ) (fun y57 g59 e60 => ?_)
    refine go_aload kk167_1.2.1.1.1.1.2 rfl ?_
    refine go_getR (bI := 0) kk167_1.2.1.1.1.2 e60 hK0 (by decide) rfl rfl (fun r61 => ?_)
    refine go_int kk167_1.2.1.1.2.1 60 rfl ?_
    refine go_iload kk167_1.2.1.1.2.2 rfl ?_
    refine go_iadd kk167_1.2.1.2.1.1 ?_
    refine go_ck (fun q63 => ?_)
    refine go_iald kk167_1.2.1.2.1.2 e60 q63 (fun r62 => ?_)
    refine go_istore kk167_1.2.1.2.2.1 rfl (loc2 := [some (sR v0), some (sI v1), some (sI v2), some (sI (g59 (g59 v0 0) (w32 (60 + v1))))]) rfl ?_
    refine go_aload kk167_1.2.1.2.2.2 rfl ?_
    refine go_getR (bI := 0) kk167_1.2.2.1.1.1 e60 hK0 (by decide) rfl rfl (fun r64 => ?_)
    refine go_int kk167_1.2.2.1.1.2 60 rfl ?_
    refine go_iload kk167_1.2.2.1.2.1 rfl ?_
    refine go_iadd kk167_1.2.2.1.2.2 ?_
    refine go_iload kk167_1.2.2.2.1.1 rfl ?_
    refine go_ck (fun q65 => ?_)
    refine go_iast kk167_1.2.2.2.1.2 e60 q65 h2 (fun g66 e67 => ?_)
    refine go_iload kk167_1.2.2.2.2.1 rfl ?_
    exact go_iret kk167_1.2.2.2.2.2 e67 r62 ⟨Nat.zero_le _, Nat.zero_le _⟩ rfl
  · refine go_int kk167_1.1.2.2.1.2 0 rfl ?_
    exact go_iret kk167_1.1.2.2.2.1 e54 (inR_b (Or.inl rfl)) ⟨Nat.zero_le _, Nat.zero_le _⟩ rfl
theorem tjM_move_79 {Φ : ev_P} {d : Nat} (hd : 3 ≤ d) {g : gH} (hg : HR g) {v0 v1 v2 : Int} (hK0 : kd v0 = 7) (h1 : InR v1) (h2 : InR v2) {s0 : Int} (z0 : RfR s0) (u3 : Option ev_V) (w3 : nwo u3) : Go Φ pr_P fN 1 (jM_move_79 g v0 v1 v2 s0 ) d pr_m167 79 [some (sR v0), some (sI v1), some (sI v2), u3] [(sR s0)] g 0 0 := by
  unfold jM_move_79
  refine go_int kk167_1.1.2.1.1.1.1 1 rfl ?_
  refine go_goto kk167_1.1.2.1.1.1.2 ?_
  exact tjM_move_84 hd hg hK0 h1 h2 z0 (Or.inr rfl) u3 w3
theorem tfM_move {Φ : ev_P} {d : Nat} (hd : 3 ≤ d) {g : gH} (hg : HR g) {v0 v1 v2 : Int} (hK0 : kd v0 = 7) (h1 : InR v1) (h2 : InR v2) : Go Φ pr_P fN 1 (fM_move g v0 v1 v2) d (pr_P 167) 0 (ev_loc (pr_P 167).1 [(sR v0), (sI v1), (sI v2)]) [] g 0 0 := by
  show Go Φ pr_P fN 1 (fM_move g v0 v1 v2) d pr_m167 0 [some (sR v0), some (sI v1), some (sI v2), none] [] g 0 0
  unfold fM_move
  refine go_aload kk167_0.1.1.1.1.1.1 rfl ?_
  refine go_iload kk167_0.1.1.1.1.1.2 rfl ?_
  refine go_callN3 kk167_0.1.1.1.1.2 rfl rfl rfl ⟨by decide, _, rfl, hK0⟩ ⟨Nat.zero_le _, Nat.zero_le _⟩ (by omega) (tfM_noProcess (by omega) hg hK0  h1) (fun y1 g3 r2 e4 => ?_)
  refine go_ifeq kk167_0.1.1.1.2.1 (inR_b r2) (fun c5 => ?_) (fun c6 => ?_)
  · refine go_aload kk167_0.1.1.1.2.2 rfl ?_
    refine go_iload kk167_0.1.1.2.1.1 rfl ?_
    refine go_callN3 kk167_0.1.1.2.1.2 rfl rfl rfl ⟨by decide, _, rfl, hK0⟩ ⟨Nat.zero_le _, Nat.zero_le _⟩ (by omega) (tfM_noProcess (by omega) e4 hK0  h2) (fun y7 g9 r8 e10 => ?_)
    refine go_ifeq kk167_0.1.1.2.2.1 (inR_b r8) (fun c11 => ?_) (fun c12 => ?_)
    · refine go_aload kk167_0.1.2.1.1.2 rfl ?_
      refine go_iload kk167_0.1.2.1.2.1 rfl ?_
      refine go_ifeq kk167_0.1.2.1.2.2 h1 (fun c13 => ?_) (fun c14 => ?_)
      · exact tjM_move_79 hd e10 hK0 h1 h2 (rfR_kd hK0 (by decide)) none rfl
      · refine go_aload kk167_0.1.2.2.1.1 rfl ?_
        refine go_iload kk167_0.1.2.2.1.2 rfl ?_
        refine go_callP3 kk167_0.1.2.2.2.1 rfl rfl rfl ⟨by decide, _, rfl, hK0⟩ ⟨Nat.zero_le _, Nat.zero_le _⟩ (by omega) (tfM_runs (by omega) e10 hK0  h1) (fun y15 r16 => ?_)
        refine go_ifeq kk167_0.1.2.2.2.2 (inR_b r16) (fun c19 => ?_) (fun c20 => ?_)
        · exact tjM_move_79 hd e10 hK0 h1 h2 (rfR_kd hK0 (by decide)) none rfl
        · refine go_aload kk167_0.2.1.1.1.1.1 rfl ?_
          refine go_iload kk167_0.2.1.1.1.1.2 rfl ?_
          refine go_callP3 kk167_0.2.1.1.1.2 rfl rfl rfl ⟨by decide, _, rfl, hK0⟩ ⟨Nat.zero_le _, Nat.zero_le _⟩ (by omega) (tfM_runs (by omega) e10 hK0  h2) (fun y21 r22 => ?_)
          refine go_ifeq kk167_0.2.1.1.2.1 (inR_b r22) (fun c25 => ?_) (fun c26 => ?_)
          · exact tjM_move_79 hd e10 hK0 h1 h2 (rfR_kd hK0 (by decide)) none rfl
          · refine go_iload kk167_0.2.1.1.2.2 rfl ?_
            refine go_iload kk167_0.2.1.2.1.1 rfl ?_
            refine go_cmeq kk167_0.2.1.2.1.2 h1 h2 (fun c27 => ?_) (fun c28 => ?_)
            · exact tjM_move_79 hd e10 hK0 h1 h2 (rfR_kd hK0 (by decide)) none rfl
            · refine go_aload kk167_0.2.1.2.2.1 rfl ?_
              refine go_iload kk167_0.2.1.2.2.2 rfl ?_
              refine go_iload kk167_0.2.2.1.1.1 rfl ?_
              refine go_callP3 kk167_0.2.2.1.1.2 rfl rfl rfl ⟨by decide, _, rfl, hK0⟩ ⟨Nat.zero_le _, Nat.zero_le _⟩ (by omega) (tfM_isOver (by omega) e10 hK0  h1 h2) (fun y29 r30 => ?_)
              refine go_ifeq kk167_0.2.2.1.2.1 (inR_b r30) (fun c33 => ?_) (fun c34 => ?_)
              · refine go_aload kk167_0.2.2.1.2.2 rfl ?_
                refine go_iload kk167_0.2.2.2.1.1 rfl ?_
                refine go_callP1 kk167_0.2.2.2.1.2 rfl rfl rfl ⟨by decide, _, rfl, hK0⟩ ⟨Nat.zero_le _, Nat.zero_le _⟩ (by omega) (tfM_roomOf (by omega) e10 hK0  h2) (fun y35 r36 => ?_)
                refine go_ifeq kk167_0.2.2.2.2.1 r36 (fun c39 => ?_) (fun c40 => ?_)
                · exact tjM_move_79 hd e10 hK0 h1 h2 (rfR_kd hK0 (by decide)) none rfl
                · refine go_aload kk167_0.2.2.2.2.2 rfl ?_
                  refine go_iload kk167_1.1.1.1.1.1.1 rfl ?_
                  refine go_aload kk167_1.1.1.1.1.1.2 rfl ?_
                  refine go_getR (bI := 0) kk167_1.1.1.1.1.2 e10 hK0 (by decide) rfl rfl (fun r41 => ?_)
                  refine go_int kk167_1.1.1.1.2.1 180 rfl ?_
                  refine go_iload kk167_1.1.1.1.2.2 rfl ?_
                  refine go_iadd kk167_1.1.1.2.1.1 ?_
                  refine go_ck (fun q43 => ?_)
                  refine go_iald kk167_1.1.1.2.1.2 e10 q43 (fun r42 => ?_)
                  refine go_callP3 kk167_1.1.1.2.2.1 rfl rfl rfl ⟨by decide, _, rfl, hK0⟩ ⟨Nat.zero_le _, Nat.zero_le _⟩ (by omega) (tfM_refusesGroup (by omega) e10 hK0  h2 r42) (fun y44 r45 => ?_)
                  refine go_ifeq kk167_1.1.1.2.2.2 (inR_b r45) (fun c48 => ?_) (fun c49 => ?_)
                  · refine go_int kk167_1.1.2.1.1.2 0 rfl ?_
                    exact tjM_move_84 hd e10 hK0 h1 h2 (rfR_kd hK0 (by decide)) (Or.inl rfl) none rfl
                  · exact tjM_move_79 hd e10 hK0 h1 h2 (rfR_kd hK0 (by decide)) none rfl
              · exact tjM_move_79 hd e10 hK0 h1 h2 (rfR_kd hK0 (by decide)) none rfl
    · refine go_int kk167_0.1.1.2.2.2 0 rfl ?_
      exact go_iret kk167_0.1.2.1.1.1 e10 (inR_b (Or.inl rfl)) ⟨Nat.zero_le _, Nat.zero_le _⟩ rfl
  · refine go_int kk167_0.1.1.2.2.2 0 rfl ?_
    exact go_iret kk167_0.1.2.1.1.1 e4 (inR_b (Or.inl rfl)) ⟨Nat.zero_le _, Nat.zero_le _⟩ rfl
theorem tjM_sets_42 {Φ : ev_P} {d : Nat} (hd : 2 ≤ d) {g : gH} (hg : HR g) {v0 v1 v2 v3 : Int} (hK0 : kd v0 = 7) (h1 : InR v1) (h2 : InR v2) (h3 : InR v3) {s0 s1 : Int} (z0 : RfR s0) (z1 : B01 s1) (u4 : Option ev_V) (w4 : nwo u4) : Go Φ pr_P fN 1 (jM_sets_42 g v0 v1 v2 v3 s0 s1 ) d pr_m168 42 [some (sR v0), some (sI v1), some (sI v2), some (sI v3), u4] [(sI s1), (sR s0)] g 0 0 := by
  unfold jM_sets_42
  refine go_int kk168_0.1.2.2.2.2 3 rfl ?_
  refine go_ck (fun q26 => ?_)
  refine go_callN3 kk168_0.2.1.1.1.1.1 rfl rfl rfl ⟨by decide, _, rfl, q26⟩ ⟨Nat.zero_le _, Nat.zero_le _⟩ (by omega) (tfM_fails (by omega) hg q26  z1 (inR_of (by decide))) (fun y27 g29 r28 e30 => ?_)
  refine go_ifeq kk168_0.2.1.1.1.1.2 (inR_b r28) (fun c31 => ?_) (fun c32 => ?_)
  · refine go_aload kk168_0.2.1.1.2.1.2 rfl ?_
    refine go_callN0 kk168_0.2.1.1.2.2 rfl rfl rfl ⟨by decide, _, rfl, hK0⟩ ⟨Nat.zero_le _, Nat.zero_le _⟩ (by omega) (tfM_remembers (by omega) e30 hK0 ) (fun y33 g35 e36 => ?_)
    refine go_aload kk168_0.2.1.2.1.1.1 rfl ?_
    refine go_getR (bI := 0) kk168_0.2.1.2.1.1.2 e36 hK0 (by decide) rfl rfl (fun r37 => ?_)
    refine go_iload kk168_0.2.1.2.1.2 rfl ?_
    refine go_iload kk168_0.2.1.2.2.1 rfl ?_
    refine go_iadd kk168_0.2.1.2.2.2 ?_
    refine go_ck (fun q39 => ?_)
    refine go_iald kk168_0.2.2.1.1.1.1 e36 q39 (fun r38 => ?_)
    refine go_istore kk168_0.2.2.1.1.1.2 rfl (loc2 := [some (sR v0), some (sI v1), some (sI v2), some (sI v3), some (sI (g35 (g35 v0 0) (w32 (v1 + v2))))]) rfl ?_
    refine go_aload kk168_0.2.2.1.1.2 rfl ?_
    refine go_getR (bI := 0) kk168_0.2.2.1.2.1.1 e36 hK0 (by decide) rfl rfl (fun r40 => ?_)
    refine go_iload kk168_0.2.2.1.2.1.2 rfl ?_
    refine go_iload kk168_0.2.2.1.2.2 rfl ?_
    refine go_iadd kk168_0.2.2.2.1.1.1 ?_
    refine go_iload kk168_0.2.2.2.1.1.2 rfl ?_
    refine go_ck (fun q41 => ?_)
    refine go_iast kk168_0.2.2.2.1.2 e36 q41 h3 (fun g42 e43 => ?_)
    refine go_iload kk168_0.2.2.2.2.1 rfl ?_
    exact go_iret kk168_0.2.2.2.2.2 e43 r38 ⟨Nat.zero_le _, Nat.zero_le _⟩ rfl
  · refine go_int kk168_0.2.1.1.1.2 0 rfl ?_
    exact go_iret kk168_0.2.1.1.2.1.1 e30 (inR_b (Or.inl rfl)) ⟨Nat.zero_le _, Nat.zero_le _⟩ rfl
theorem tjM_sets_21 {Φ : ev_P} {d : Nat} (hd : 2 ≤ d) {g : gH} (hg : HR g) {v0 v1 v2 v3 : Int} (hK0 : kd v0 = 7) (h1 : InR v1) (h2 : InR v2) (h3 : InR v3) {s0 s1 : Int} (z0 : RfR s0) (z1 : B01 s1) (u4 : Option ev_V) (w4 : nwo u4) : Go Φ pr_P fN 1 (jM_sets_21 g v0 v1 v2 v3 s0 s1 ) d pr_m168 21 [some (sR v0), some (sI v1), some (sI v2), some (sI v3), u4] [(sI s1), (sR s0)] g 0 0 := by
  unfold jM_sets_21
  refine go_int kk168_0.1.1.2.2.2 2 rfl ?_
  refine go_ck (fun q13 => ?_)
  refine go_callN3 kk168_0.1.2.1.1.1.1 rfl rfl rfl ⟨by decide, _, rfl, q13⟩ ⟨Nat.zero_le _, Nat.zero_le _⟩ (by omega) (tfM_fails (by omega) hg q13  z1 (inR_of (by decide))) (fun y14 g16 r15 e17 => ?_)
  refine go_ifeq kk168_0.1.2.1.1.1.2 (inR_b r15) (fun c18 => ?_) (fun c19 => ?_)
  · refine go_aload kk168_0.1.2.1.1.2 rfl ?_
    refine go_aload kk168_0.1.2.1.2.1.1 rfl ?_
    refine go_iload kk168_0.1.2.1.2.1.2 rfl ?_
    refine go_callP3 kk168_0.1.2.1.2.2 rfl rfl rfl ⟨by decide, _, rfl, hK0⟩ ⟨Nat.zero_le _, Nat.zero_le _⟩ (by omega) (tfM_runs (by omega) e17 hK0  h2) (fun y20 r21 => ?_)
    refine go_ifeq kk168_0.1.2.2.1.1.1 (inR_b r21) (fun c24 => ?_) (fun c25 => ?_)
    · refine go_int kk168_0.1.2.2.1.1.2 1 rfl ?_
      refine go_goto kk168_0.1.2.2.1.2 ?_
      exact tjM_sets_42 hd e17 hK0 h1 h2 h3 (rfR_kd hK0 (by decide)) (Or.inr rfl) u4 w4
    · refine go_int kk168_0.1.2.2.2.1 0 rfl ?_
      exact tjM_sets_42 hd e17 hK0 h1 h2 h3 (rfR_kd hK0 (by decide)) (Or.inl rfl) u4 w4
  · refine go_int kk168_0.2.1.1.1.2 0 rfl ?_
    exact go_iret kk168_0.2.1.1.2.1.1 e17 (inR_b (Or.inl rfl)) ⟨Nat.zero_le _, Nat.zero_le _⟩ rfl
theorem tfM_sets {Φ : ev_P} {d : Nat} (hd : 2 ≤ d) {g : gH} (hg : HR g) {v0 v1 v2 v3 : Int} (hK0 : kd v0 = 7) (h1 : InR v1) (h2 : InR v2) (h3 : InR v3) : Go Φ pr_P fN 1 (fM_sets g v0 v1 v2 v3) d (pr_P 168) 0 (ev_loc (pr_P 168).1 [(sR v0), (sI v1), (sI v2), (sI v3)]) [] g 0 0 := by
  show Go Φ pr_P fN 1 (fM_sets g v0 v1 v2 v3) d pr_m168 0 [some (sR v0), some (sI v1), some (sI v2), some (sI v3), none] [] g 0 0
  unfold fM_sets
  refine go_aload kk168_0.1.1.1.1.1.1 rfl ?_
  refine go_iload kk168_0.1.1.1.1.1.2 rfl ?_
  refine go_callN3 kk168_0.1.1.1.1.2 rfl rfl rfl ⟨by decide, _, rfl, hK0⟩ ⟨Nat.zero_le _, Nat.zero_le _⟩ (by omega) (tfM_noProcess (by omega) hg hK0  h2) (fun y1 g3 r2 e4 => ?_)
  refine go_ifeq kk168_0.1.1.1.2.1.1 (inR_b r2) (fun c5 => ?_) (fun c6 => ?_)
  · refine go_aload kk168_0.1.1.1.2.1.2 rfl ?_
    refine go_iload kk168_0.1.1.1.2.2 rfl ?_
    refine go_callP3 kk168_0.1.1.2.1.1.1 rfl rfl rfl trivial ⟨Nat.zero_le _, Nat.zero_le _⟩ (by omega) (tfM_isSmall (by omega) e4  h3) (fun y7 r8 => ?_)
    refine go_ifeq kk168_0.1.1.2.1.1.2 (inR_b r8) (fun c11 => ?_) (fun c12 => ?_)
    · refine go_int kk168_0.1.1.2.1.2 1 rfl ?_
      refine go_goto kk168_0.1.1.2.2.1.1 ?_
      exact tjM_sets_21 hd e4 hK0 h1 h2 h3 (rfR_kd hK0 (by decide)) (Or.inr rfl) none rfl
    · refine go_int kk168_0.1.1.2.2.1.2 0 rfl ?_
      exact tjM_sets_21 hd e4 hK0 h1 h2 h3 (rfR_kd hK0 (by decide)) (Or.inl rfl) none rfl
  · refine go_int kk168_0.2.1.1.1.2 0 rfl ?_
    exact go_iret kk168_0.2.1.1.2.1.1 e4 (inR_b (Or.inl rfl)) ⟨Nat.zero_le _, Nat.zero_le _⟩ rfl
theorem tfM_setCapacity {Φ : ev_P} {d : Nat} (hd : 3 ≤ d) {g : gH} (hg : HR g) {v0 v1 v2 : Int} (hK0 : kd v0 = 7) (h1 : InR v1) (h2 : InR v2) : Go Φ pr_P fN 1 (fM_setCapacity g v0 v1 v2) d (pr_P 169) 0 (ev_loc (pr_P 169).1 [(sR v0), (sI v1), (sI v2)]) [] g 0 0 := by
  show Go Φ pr_P fN 1 (fM_setCapacity g v0 v1 v2) d pr_m169 0 [some (sR v0), some (sI v1), some (sI v2)] [] g 0 0
  unfold fM_setCapacity
  refine go_aload kk169_0.1.1.1 rfl ?_
  refine go_int kk169_0.1.1.2 100 rfl ?_
  refine go_iload kk169_0.1.2 rfl ?_
  refine go_iload kk169_0.2.1.1 rfl ?_
  refine go_callN1 kk169_0.2.1.2 rfl rfl rfl ⟨by decide, _, rfl, hK0⟩ ⟨Nat.zero_le _, Nat.zero_le _⟩ (by omega) (tfM_sets (by omega) hg hK0  (inR_of (by decide)) h1 h2) (fun y1 g3 r2 e4 => ?_)
  exact go_iret kk169_0.2.2 e4 r2 ⟨Nat.zero_le _, Nat.zero_le _⟩ rfl
theorem tfM_setBudget {Φ : ev_P} {d : Nat} (hd : 3 ≤ d) {g : gH} (hg : HR g) {v0 v1 v2 : Int} (hK0 : kd v0 = 7) (h1 : InR v1) (h2 : InR v2) : Go Φ pr_P fN 1 (fM_setBudget g v0 v1 v2) d (pr_P 170) 0 (ev_loc (pr_P 170).1 [(sR v0), (sI v1), (sI v2)]) [] g 0 0 := by
  show Go Φ pr_P fN 1 (fM_setBudget g v0 v1 v2) d pr_m170 0 [some (sR v0), some (sI v1), some (sI v2)] [] g 0 0
  unfold fM_setBudget
  refine go_aload kk170_0.1.1.1 rfl ?_
  refine go_int kk170_0.1.1.2 220 rfl ?_
  refine go_iload kk170_0.1.2 rfl ?_
  refine go_iload kk170_0.2.1.1 rfl ?_
  refine go_callN1 kk170_0.2.1.2 rfl rfl rfl ⟨by decide, _, rfl, hK0⟩ ⟨Nat.zero_le _, Nat.zero_le _⟩ (by omega) (tfM_sets (by omega) hg hK0  (inR_of (by decide)) h1 h2) (fun y1 g3 r2 e4 => ?_)
  exact go_iret kk170_0.2.2 e4 r2 ⟨Nat.zero_le _, Nat.zero_le _⟩ rfl
theorem tjM_setHeir_73 {Φ : ev_P} {d : Nat} (hd : 2 ≤ d) {g : gH} (hg : HR g) {v0 v1 v2 : Int} (hK0 : kd v0 = 7) (h1 : InR v1) (h2 : InR v2) {s0 s1 : Int} (z0 : RfR s0) (z1 : B01 s1) (u3 : Option ev_V) (w3 : nwo u3) : Go Φ pr_P fN 1 (jM_setHeir_73 g v0 v1 v2 s0 s1 ) d pr_m171 73 [some (sR v0), some (sI v1), some (sI v2), u3] [(sI s1), (sR s0)] g 0 0 := by
  unfold jM_setHeir_73
  refine go_int kk171_0.2.1.2.1.1.2 3 rfl ?_
  refine go_ck (fun q40 => ?_)
  refine go_callN3 kk171_0.2.1.2.1.2.1 rfl rfl rfl ⟨by decide, _, rfl, q40⟩ ⟨Nat.zero_le _, Nat.zero_le _⟩ (by omega) (tfM_fails (by omega) hg q40  z1 (inR_of (by decide))) (fun y41 g43 r42 e44 => ?_)
  refine go_ifeq kk171_0.2.1.2.1.2.2 (inR_b r42) (fun c45 => ?_) (fun c46 => ?_)
  · refine go_aload kk171_0.2.1.2.2.2.1 rfl ?_
    refine go_callN0 kk171_0.2.1.2.2.2.2 rfl rfl rfl ⟨by decide, _, rfl, hK0⟩ ⟨Nat.zero_le _, Nat.zero_le _⟩ (by omega) (tfM_remembers (by omega) e44 hK0 ) (fun y47 g49 e50 => ?_)
    refine go_aload kk171_0.2.2.1.1.1.1 rfl ?_
    refine go_getR (bI := 0) kk171_0.2.2.1.1.1.2 e50 hK0 (by decide) rfl rfl (fun r51 => ?_)
    refine go_int kk171_0.2.2.1.1.2.1 260 rfl ?_
    refine go_iload kk171_0.2.2.1.1.2.2 rfl ?_
    refine go_iadd kk171_0.2.2.1.2.1.1 ?_
    refine go_ck (fun q53 => ?_)
    refine go_iald kk171_0.2.2.1.2.1.2 e50 q53 (fun r52 => ?_)
    refine go_istore kk171_0.2.2.1.2.2.1 rfl (loc2 := [some (sR v0), some (sI v1), some (sI v2), some (sI (g49 (g49 v0 0) (w32 (260 + v1))))]) rfl ?_
    refine go_aload kk171_0.2.2.1.2.2.2 rfl ?_
    refine go_getR (bI := 0) kk171_0.2.2.2.1.1.1 e50 hK0 (by decide) rfl rfl (fun r54 => ?_)
    refine go_int kk171_0.2.2.2.1.1.2 260 rfl ?_
    refine go_iload kk171_0.2.2.2.1.2.1 rfl ?_
    refine go_iadd kk171_0.2.2.2.1.2.2 ?_
    refine go_iload kk171_0.2.2.2.2.1.1 rfl ?_
    refine go_ck (fun q55 => ?_)
    refine go_iast kk171_0.2.2.2.2.1.2 e50 q55 h2 (fun g56 e57 => ?_)
    refine go_iload kk171_0.2.2.2.2.2.1 rfl ?_
    exact go_iret kk171_0.2.2.2.2.2.2 e57 r52 ⟨Nat.zero_le _, Nat.zero_le _⟩ rfl
  · refine go_int kk171_0.2.1.2.2.1.1 0 rfl ?_
    exact go_iret kk171_0.2.1.2.2.1.2 e44 (inR_b (Or.inl rfl)) ⟨Nat.zero_le _, Nat.zero_le _⟩ rfl
theorem tjM_setHeir_68 {Φ : ev_P} {d : Nat} (hd : 2 ≤ d) {g : gH} (hg : HR g) {v0 v1 v2 : Int} (hK0 : kd v0 = 7) (h1 : InR v1) (h2 : InR v2) {s0 : Int} (z0 : RfR s0) (u3 : Option ev_V) (w3 : nwo u3) : Go Φ pr_P fN 1 (jM_setHeir_68 g v0 v1 v2 s0 ) d pr_m171 68 [some (sR v0), some (sI v1), some (sI v2), u3] [(sR s0)] g 0 0 := by
  unfold jM_setHeir_68
  refine go_int kk171_0.2.1.1.2.2.1 1 rfl ?_
  refine go_goto kk171_0.2.1.1.2.2.2 ?_
  exact tjM_setHeir_73 hd hg hK0 h1 h2 z0 (Or.inr rfl) u3 w3
theorem tjM_setHeir_48 {Φ : ev_P} {d : Nat} (hd : 2 ≤ d) {g : gH} (hg : HR g) {v0 v1 v2 : Int} (hK0 : kd v0 = 7) (h1 : InR v1) (h2 : InR v2) {s0 s1 : Int} (z0 : RfR s0) (z1 : B01 s1) (u3 : Option ev_V) (w3 : nwo u3) : Go Φ pr_P fN 1 (jM_setHeir_48 g v0 v1 v2 s0 s1 ) d pr_m171 48 [some (sR v0), some (sI v1), some (sI v2), u3] [(sI s1), (sR s0)] g 0 0 := by
  unfold jM_setHeir_48
  refine go_int kk171_0.1.2.2.2.1.1 2 rfl ?_
  refine go_ck (fun q25 => ?_)
  refine go_callN3 kk171_0.1.2.2.2.1.2 rfl rfl rfl ⟨by decide, _, rfl, q25⟩ ⟨Nat.zero_le _, Nat.zero_le _⟩ (by omega) (tfM_fails (by omega) hg q25  z1 (inR_of (by decide))) (fun y26 g28 r27 e29 => ?_)
  refine go_ifeq kk171_0.1.2.2.2.2.1 (inR_b r27) (fun c30 => ?_) (fun c31 => ?_)
  · refine go_aload kk171_0.1.2.2.2.2.2 rfl ?_
    refine go_iload kk171_0.2.1.1.1.1.1 rfl ?_
    refine go_ifeq kk171_0.2.1.1.1.1.2 h1 (fun c32 => ?_) (fun c33 => ?_)
    · exact tjM_setHeir_68 hd e29 hK0 h1 h2 (rfR_kd hK0 (by decide)) u3 w3
    · refine go_aload kk171_0.2.1.1.1.2.1 rfl ?_
      refine go_iload kk171_0.2.1.1.1.2.2 rfl ?_
      refine go_callP3 kk171_0.2.1.1.2.1.1 rfl rfl rfl ⟨by decide, _, rfl, hK0⟩ ⟨Nat.zero_le _, Nat.zero_le _⟩ (by omega) (tfM_runs (by omega) e29 hK0  h1) (fun y34 r35 => ?_)
      refine go_ifeq kk171_0.2.1.1.2.1.2 (inR_b r35) (fun c38 => ?_) (fun c39 => ?_)
      · exact tjM_setHeir_68 hd e29 hK0 h1 h2 (rfR_kd hK0 (by decide)) u3 w3
      · refine go_int kk171_0.2.1.2.1.1.1 0 rfl ?_
        exact tjM_setHeir_73 hd e29 hK0 h1 h2 (rfR_kd hK0 (by decide)) (Or.inl rfl) u3 w3
  · refine go_int kk171_0.2.1.2.2.1.1 0 rfl ?_
    exact go_iret kk171_0.2.1.2.2.1.2 e29 (inR_b (Or.inl rfl)) ⟨Nat.zero_le _, Nat.zero_le _⟩ rfl
theorem tjM_setHeir_30 {Φ : ev_P} {d : Nat} (hd : 2 ≤ d) {g : gH} (hg : HR g) {v0 v1 v2 : Int} (hK0 : kd v0 = 7) (h1 : InR v1) (h2 : InR v2) {s0 s1 : Int} (z0 : RfR s0) (z1 : B01 s1) (u3 : Option ev_V) (w3 : nwo u3) : Go Φ pr_P fN 1 (jM_setHeir_30 g v0 v1 v2 s0 s1 ) d pr_m171 30 [some (sR v0), some (sI v1), some (sI v2), u3] [(sI s1), (sR s0)] g 0 0 := by
  unfold jM_setHeir_30
  refine go_int kk171_0.1.2.1.1.2.1 1 rfl ?_
  refine go_ck (fun q16 => ?_)
  refine go_callN3 kk171_0.1.2.1.1.2.2 rfl rfl rfl ⟨by decide, _, rfl, q16⟩ ⟨Nat.zero_le _, Nat.zero_le _⟩ (by omega) (tfM_fails (by omega) hg q16  z1 (inR_b (Or.inr rfl))) (fun y17 g19 r18 e20 => ?_)
  refine go_ifeq kk171_0.1.2.1.2.1.1 (inR_b r18) (fun c21 => ?_) (fun c22 => ?_)
  · refine go_aload kk171_0.1.2.1.2.1.2 rfl ?_
    refine go_iload kk171_0.1.2.1.2.2.1 rfl ?_
    refine go_iload kk171_0.1.2.1.2.2.2 rfl ?_
    refine go_cmeq kk171_0.1.2.2.1.1.1 h1 h2 (fun c23 => ?_) (fun c24 => ?_)
    · refine go_int kk171_0.1.2.2.1.1.2 1 rfl ?_
      refine go_goto kk171_0.1.2.2.1.2.1 ?_
      exact tjM_setHeir_48 hd e20 hK0 h1 h2 (rfR_kd hK0 (by decide)) (Or.inr rfl) u3 w3
    · refine go_int kk171_0.1.2.2.1.2.2 0 rfl ?_
      exact tjM_setHeir_48 hd e20 hK0 h1 h2 (rfR_kd hK0 (by decide)) (Or.inl rfl) u3 w3
  · refine go_int kk171_0.2.1.2.2.1.1 0 rfl ?_
    exact go_iret kk171_0.2.1.2.2.1.2 e20 (inR_b (Or.inl rfl)) ⟨Nat.zero_le _, Nat.zero_le _⟩ rfl
theorem tfM_setHeir {Φ : ev_P} {d : Nat} (hd : 2 ≤ d) {g : gH} (hg : HR g) {v0 v1 v2 : Int} (hK0 : kd v0 = 7) (h1 : InR v1) (h2 : InR v2) : Go Φ pr_P fN 1 (fM_setHeir g v0 v1 v2) d (pr_P 171) 0 (ev_loc (pr_P 171).1 [(sR v0), (sI v1), (sI v2)]) [] g 0 0 := by
  show Go Φ pr_P fN 1 (fM_setHeir g v0 v1 v2) d pr_m171 0 [some (sR v0), some (sI v1), some (sI v2), none] [] g 0 0
  unfold fM_setHeir
  refine go_aload kk171_0.1.1.1.1.1.1 rfl ?_
  refine go_iload kk171_0.1.1.1.1.1.2 rfl ?_
  refine go_callN3 kk171_0.1.1.1.1.2.1 rfl rfl rfl ⟨by decide, _, rfl, hK0⟩ ⟨Nat.zero_le _, Nat.zero_le _⟩ (by omega) (tfM_noProcess (by omega) hg hK0  h1) (fun y1 g3 r2 e4 => ?_)
  refine go_ifeq kk171_0.1.1.1.1.2.2 (inR_b r2) (fun c5 => ?_) (fun c6 => ?_)
  · refine go_aload kk171_0.1.1.1.2.1.1 rfl ?_
    refine go_iload kk171_0.1.1.1.2.1.2 rfl ?_
    refine go_int kk171_0.1.1.1.2.2.1 (-1) rfl ?_
    refine go_aload kk171_0.1.1.1.2.2.2 rfl ?_
    refine go_getR (bI := 0) kk171_0.1.1.2.1.1.1 e4 hK0 (by decide) rfl rfl (fun r7 => ?_)
    refine go_int kk171_0.1.1.2.1.1.2 0 rfl ?_
    refine go_ck (fun q9 => ?_)
    refine go_iald kk171_0.1.1.2.1.2.1 e4 q9 (fun r8 => ?_)
    refine go_int kk171_0.1.1.2.1.2.2 1 rfl ?_
    refine go_isub kk171_0.1.1.2.2.1.1 ?_
    refine go_callP3 kk171_0.1.1.2.2.1.2 rfl rfl rfl trivial ⟨Nat.zero_le _, Nat.zero_le _⟩ (by omega) (tfM_inRange (by omega) e4  h2 (inR_of (by decide)) (inR_w32 _)) (fun y10 r11 => ?_)
    refine go_ifeq kk171_0.1.1.2.2.2.1 (inR_b r11) (fun c14 => ?_) (fun c15 => ?_)
    · refine go_int kk171_0.1.1.2.2.2.2 1 rfl ?_
      refine go_goto kk171_0.1.2.1.1.1.1 ?_
      exact tjM_setHeir_30 hd e4 hK0 h1 h2 (rfR_kd hK0 (by decide)) (Or.inr rfl) none rfl
    · refine go_int kk171_0.1.2.1.1.1.2 0 rfl ?_
      exact tjM_setHeir_30 hd e4 hK0 h1 h2 (rfR_kd hK0 (by decide)) (Or.inl rfl) none rfl
  · refine go_int kk171_0.2.1.2.2.1.1 0 rfl ?_
    exact go_iret kk171_0.2.1.2.2.1.2 e4 (inR_b (Or.inl rfl)) ⟨Nat.zero_le _, Nat.zero_le _⟩ rfl
theorem tjM_give_57 {Φ : ev_P} {d : Nat} (hd : 2 ≤ d) {g : gH} (hg : HR g) {v0 v1 v2 : Int} (hK0 : kd v0 = 7) (h1 : InR v1) (h2 : InR v2) {s0 s1 : Int} (z0 : RfR s0) (z1 : B01 s1) (u3 : Option ev_V) (w3 : nwo u3) : Go Φ pr_P fN 1 (jM_give_57 g v0 v1 v2 s0 s1 ) d pr_m172 57 [some (sR v0), some (sI v1), some (sI v2), u3] [(sI s1), (sR s0)] g 0 0 := by
  unfold jM_give_57
  refine go_int kk172_0.2.1.1.2.1.2 3 rfl ?_
  refine go_ck (fun q31 => ?_)
  refine go_callN3 kk172_0.2.1.1.2.2 rfl rfl rfl ⟨by decide, _, rfl, q31⟩ ⟨Nat.zero_le _, Nat.zero_le _⟩ (by omega) (tfM_fails (by omega) hg q31  z1 (inR_of (by decide))) (fun y32 g34 r33 e35 => ?_)
  refine go_ifeq kk172_0.2.1.2.1.1.1 (inR_b r33) (fun c36 => ?_) (fun c37 => ?_)
  · refine go_aload kk172_0.2.1.2.1.2.2 rfl ?_
    refine go_callN0 kk172_0.2.1.2.2.1.1 rfl rfl rfl ⟨by decide, _, rfl, hK0⟩ ⟨Nat.zero_le _, Nat.zero_le _⟩ (by omega) (tfM_remembers (by omega) e35 hK0 ) (fun y38 g40 e41 => ?_)
    refine go_aload kk172_0.2.1.2.2.1.2 rfl ?_
    refine go_getR (bI := 0) kk172_0.2.1.2.2.2 e41 hK0 (by decide) rfl rfl (fun r42 => ?_)
    refine go_int kk172_0.2.2.1.1.1.1 11 rfl ?_
    refine go_iload kk172_0.2.2.1.1.1.2 rfl ?_
    refine go_iadd kk172_0.2.2.1.1.2.1 ?_
    refine go_ck (fun q44 => ?_)
    refine go_iald kk172_0.2.2.1.1.2.2 e41 q44 (fun r43 => ?_)
    refine go_istore kk172_0.2.2.1.2.1.1 rfl (loc2 := [some (sR v0), some (sI v1), some (sI v2), some (sI (g40 (g40 v0 0) (w32 (11 + v1))))]) rfl ?_
    refine go_aload kk172_0.2.2.1.2.1.2 rfl ?_
    refine go_getR (bI := 0) kk172_0.2.2.1.2.2 e41 hK0 (by decide) rfl rfl (fun r45 => ?_)
    refine go_int kk172_0.2.2.2.1.1.1 11 rfl ?_
    refine go_iload kk172_0.2.2.2.1.1.2 rfl ?_
    refine go_iadd kk172_0.2.2.2.1.2.1 ?_
    refine go_iload kk172_0.2.2.2.1.2.2 rfl ?_
    refine go_ck (fun q46 => ?_)
    refine go_iast kk172_0.2.2.2.2.1.1 e41 q46 h2 (fun g47 e48 => ?_)
    refine go_iload kk172_0.2.2.2.2.1.2 rfl ?_
    exact go_iret kk172_0.2.2.2.2.2 e48 r43 ⟨Nat.zero_le _, Nat.zero_le _⟩ rfl
  · refine go_int kk172_0.2.1.2.1.1.2 0 rfl ?_
    exact go_iret kk172_0.2.1.2.1.2.1 e35 (inR_b (Or.inl rfl)) ⟨Nat.zero_le _, Nat.zero_le _⟩ rfl
theorem tjM_give_36 {Φ : ev_P} {d : Nat} (hd : 2 ≤ d) {g : gH} (hg : HR g) {v0 v1 v2 : Int} (hK0 : kd v0 = 7) (h1 : InR v1) (h2 : InR v2) {s0 s1 : Int} (z0 : RfR s0) (z1 : B01 s1) (u3 : Option ev_V) (w3 : nwo u3) : Go Φ pr_P fN 1 (jM_give_36 g v0 v1 v2 s0 s1 ) d pr_m172 36 [some (sR v0), some (sI v1), some (sI v2), u3] [(sI s1), (sR s0)] g 0 0 := by
  unfold jM_give_36
  refine go_int kk172_0.1.2.2.1.1.2 2 rfl ?_
  refine go_ck (fun q18 => ?_)
  refine go_callN3 kk172_0.1.2.2.1.2.1 rfl rfl rfl ⟨by decide, _, rfl, q18⟩ ⟨Nat.zero_le _, Nat.zero_le _⟩ (by omega) (tfM_fails (by omega) hg q18  z1 (inR_of (by decide))) (fun y19 g21 r20 e22 => ?_)
  refine go_ifeq kk172_0.1.2.2.1.2.2 (inR_b r20) (fun c23 => ?_) (fun c24 => ?_)
  · refine go_aload kk172_0.1.2.2.2.1.1 rfl ?_
    refine go_aload kk172_0.1.2.2.2.1.2 rfl ?_
    refine go_iload kk172_0.1.2.2.2.2 rfl ?_
    refine go_callP3 kk172_0.2.1.1.1.1.1 rfl rfl rfl ⟨by decide, _, rfl, hK0⟩ ⟨Nat.zero_le _, Nat.zero_le _⟩ (by omega) (tfM_runs (by omega) e22 hK0  h2) (fun y25 r26 => ?_)
    refine go_ifeq kk172_0.2.1.1.1.1.2 (inR_b r26) (fun c29 => ?_) (fun c30 => ?_)
    · refine go_int kk172_0.2.1.1.1.2.1 1 rfl ?_
      refine go_goto kk172_0.2.1.1.1.2.2 ?_
      exact tjM_give_57 hd e22 hK0 h1 h2 (rfR_kd hK0 (by decide)) (Or.inr rfl) u3 w3
    · refine go_int kk172_0.2.1.1.2.1.1 0 rfl ?_
      exact tjM_give_57 hd e22 hK0 h1 h2 (rfR_kd hK0 (by decide)) (Or.inl rfl) u3 w3
  · refine go_int kk172_0.2.1.2.1.1.2 0 rfl ?_
    exact go_iret kk172_0.2.1.2.1.2.1 e22 (inR_b (Or.inl rfl)) ⟨Nat.zero_le _, Nat.zero_le _⟩ rfl
theorem tfM_give {Φ : ev_P} {d : Nat} (hd : 2 ≤ d) {g : gH} (hg : HR g) {v0 v1 v2 : Int} (hK0 : kd v0 = 7) (h1 : InR v1) (h2 : InR v2) : Go Φ pr_P fN 1 (fM_give g v0 v1 v2) d (pr_P 172) 0 (ev_loc (pr_P 172).1 [(sR v0), (sI v1), (sI v2)]) [] g 0 0 := by
  show Go Φ pr_P fN 1 (fM_give g v0 v1 v2) d pr_m172 0 [some (sR v0), some (sI v1), some (sI v2), none] [] g 0 0
  unfold fM_give
  refine go_aload kk172_0.1.1.1.1.1.1 rfl ?_
  refine go_int kk172_0.1.1.1.1.1.2 0 rfl ?_
  refine go_putI (bI := 8) kk172_0.1.1.1.1.2.1 hg hK0 (by decide) rfl rfl (inR_b (Or.inl rfl)) (fun g1 e2 => ?_)
  refine go_aload kk172_0.1.1.1.1.2.2 rfl ?_
  refine go_iload kk172_0.1.1.1.2.1.1 rfl ?_
  refine go_int kk172_0.1.1.1.2.1.2 1 rfl ?_
  refine go_callN3 kk172_0.1.1.1.2.2 rfl rfl rfl ⟨by decide, _, rfl, hK0⟩ ⟨Nat.zero_le _, Nat.zero_le _⟩ (by omega) (tfM_noDuty (by omega) e2 hK0  h1 (inR_b (Or.inr rfl))) (fun y3 g5 r4 e6 => ?_)
  refine go_ifeq kk172_0.1.1.2.1.1.1 (inR_b r4) (fun c7 => ?_) (fun c8 => ?_)
  · refine go_aload kk172_0.1.1.2.1.1.2 rfl ?_
    refine go_iload kk172_0.1.1.2.1.2.1 rfl ?_
    refine go_int kk172_0.1.1.2.1.2.2 0 rfl ?_
    refine go_aload kk172_0.1.1.2.2.1.1 rfl ?_
    refine go_getR (bI := 0) kk172_0.1.1.2.2.1.2 e6 hK0 (by decide) rfl rfl (fun r9 => ?_)
    refine go_int kk172_0.1.1.2.2.2 0 rfl ?_
    refine go_ck (fun q11 => ?_)
    refine go_iald kk172_0.1.2.1.1.1.1 e6 q11 (fun r10 => ?_)
    refine go_int kk172_0.1.2.1.1.1.2 1 rfl ?_
    refine go_isub kk172_0.1.2.1.1.2.1 ?_
    refine go_callP3 kk172_0.1.2.1.1.2.2 rfl rfl rfl trivial ⟨Nat.zero_le _, Nat.zero_le _⟩ (by omega) (tfM_inRange (by omega) e6  h2 (inR_b (Or.inl rfl)) (inR_w32 _)) (fun y12 r13 => ?_)
    refine go_ifeq kk172_0.1.2.1.2.1.1 (inR_b r13) (fun c16 => ?_) (fun c17 => ?_)
    · refine go_int kk172_0.1.2.1.2.1.2 1 rfl ?_
      refine go_goto kk172_0.1.2.1.2.2 ?_
      exact tjM_give_36 hd e6 hK0 h1 h2 (rfR_kd hK0 (by decide)) (Or.inr rfl) none rfl
    · refine go_int kk172_0.1.2.2.1.1.1 0 rfl ?_
      exact tjM_give_36 hd e6 hK0 h1 h2 (rfR_kd hK0 (by decide)) (Or.inl rfl) none rfl
  · refine go_int kk172_0.2.1.2.1.1.2 0 rfl ?_
    exact go_iret kk172_0.2.1.2.1.2.1 e6 (inR_b (Or.inl rfl)) ⟨Nat.zero_le _, Nat.zero_le _⟩ rfl
theorem tbM_lowestBelow_4 {Φ : ev_P} {d : Nat} (hd : 1 ≤ d) {g : gH} (hg : HR g) {v0 v1 : Int} (hK0 : kd v0 = 7) (h1 : InR v1) {X4 : Int → Int → Option Int} (HX4 : ∀ (v2 : Int) (h2 : InR v2) (v3 : Int) (h3 : InR v3), Go Φ pr_P (fP g) 1 (X4 v2 v3) d pr_m173 4 [some (sR v0), some (sI v1), some (sI v2), some (sI v3)] [] g 0 0) : ∀ (v2 : Int) (h2 : InR v2) (v3 : Int) (h3 : InR v3), Go Φ pr_P (fP g) 1 (bM_lowestBelow_4 g v0 v1 X4 v2 v3) d pr_m173 4 [some (sR v0), some (sI v1), some (sI v2), some (sI v3)] [] g 0 0 := by
  intro v2 h2 v3 h3
  unfold bM_lowestBelow_4
  refine go_iload kk173_0.1.1.1.2.2 rfl ?_
  refine go_aload kk173_0.1.1.2.1.1 rfl ?_
  refine go_getR (bI := 0) kk173_0.1.1.2.1.2 hg hK0 (by decide) rfl rfl (fun r1 => ?_)
  refine go_int kk173_0.1.1.2.2.1 0 rfl ?_
  refine go_ck (fun q3 => ?_)
  refine go_iald kk173_0.1.1.2.2.2 hg q3 (fun r2 => ?_)
  refine go_cmlt kk173_0.1.2.1.1.1.1 h3 r2 (fun c4 => ?_) (fun c5 => ?_)
  · refine go_aload kk173_0.1.2.1.1.1.2 rfl ?_
    refine go_iload kk173_0.1.2.1.1.2 rfl ?_
    refine go_callP3 kk173_0.1.2.1.2.1 rfl rfl rfl ⟨by decide, _, rfl, hK0⟩ ⟨Nat.zero_le _, Nat.zero_le _⟩ (by omega) (tfM_runs (by omega) hg hK0  h3) (fun y6 r7 => ?_)
    refine go_ifeq kk173_0.1.2.1.2.2 (inR_b r7) (fun c10 => ?_) (fun c11 => ?_)
    · refine go_iinc kk173_0.2.2.2.1.1 rfl rfl 1 rfl (loc2 := [some (sR v0), some (sI v1), some (sI v2), some (sI (w32 (v3 + 1)))]) rfl ?_
      refine go_goto kk173_0.2.2.2.1.2 ?_
      exact HX4 v2 h2 (w32 (v3 + 1)) (inR_w32 _)
    · refine go_aload kk173_0.1.2.2.1.1 rfl ?_
      refine go_iload kk173_0.1.2.2.1.2 rfl ?_
      refine go_iload kk173_0.1.2.2.2.1 rfl ?_
      refine go_callP3 kk173_0.1.2.2.2.2 rfl rfl rfl ⟨by decide, _, rfl, hK0⟩ ⟨Nat.zero_le _, Nat.zero_le _⟩ (by omega) (tfM_isOver (by omega) hg hK0  h1 h3) (fun y12 r13 => ?_)
      refine go_ifeq kk173_0.2.1.1.1.1.1 (inR_b r13) (fun c16 => ?_) (fun c17 => ?_)
      · refine go_iinc kk173_0.2.2.2.1.1 rfl rfl 1 rfl (loc2 := [some (sR v0), some (sI v1), some (sI v2), some (sI (w32 (v3 + 1)))]) rfl ?_
        refine go_goto kk173_0.2.2.2.1.2 ?_
        exact HX4 v2 h2 (w32 (v3 + 1)) (inR_w32 _)
      · refine go_iload kk173_0.2.1.1.1.1.2 rfl ?_
        refine go_int kk173_0.2.1.1.1.2 (-1) rfl ?_
        refine go_cmeq kk173_0.2.1.1.2.1 h2 (inR_of (by decide)) (fun c18 => ?_) (fun c19 => ?_)
        · refine go_iload kk173_0.2.2.1.2.1 rfl ?_
          refine go_istore kk173_0.2.2.1.2.2 rfl (loc2 := [some (sR v0), some (sI v1), some (sI v3), some (sI v3)]) rfl ?_
          refine go_iinc kk173_0.2.2.2.1.1 rfl rfl 1 rfl (loc2 := [some (sR v0), some (sI v1), some (sI v3), some (sI (w32 (v3 + 1)))]) rfl ?_
          refine go_goto kk173_0.2.2.2.1.2 ?_
          exact HX4 v3 h3 (w32 (v3 + 1)) (inR_w32 _)
        · refine go_aload kk173_0.2.1.1.2.2 rfl ?_
          refine go_iload kk173_0.2.1.2.1.1 rfl ?_
          refine go_callP1 kk173_0.2.1.2.1.2 rfl rfl rfl ⟨by decide, _, rfl, hK0⟩ ⟨Nat.zero_le _, Nat.zero_le _⟩ (by omega) (tfM_deep (by omega) hg hK0  h3) (fun y20 r21 => ?_)
          refine go_aload kk173_0.2.1.2.2.1 rfl ?_
          refine go_iload kk173_0.2.1.2.2.2 rfl ?_
          refine go_callP1 kk173_0.2.2.1.1.1 rfl rfl rfl ⟨by decide, _, rfl, hK0⟩ ⟨Nat.zero_le _, Nat.zero_le _⟩ (by omega) (tfM_deep (by omega) hg hK0  h2) (fun y24 r25 => ?_)
          refine go_cmlt kk173_0.2.2.1.1.2 r21 r25 (fun c28 => ?_) (fun c29 => ?_)
          · refine go_iinc kk173_0.2.2.2.1.1 rfl rfl 1 rfl (loc2 := [some (sR v0), some (sI v1), some (sI v2), some (sI (w32 (v3 + 1)))]) rfl ?_
            refine go_goto kk173_0.2.2.2.1.2 ?_
            exact HX4 v2 h2 (w32 (v3 + 1)) (inR_w32 _)
          · refine go_iload kk173_0.2.2.1.2.1 rfl ?_
            refine go_istore kk173_0.2.2.1.2.2 rfl (loc2 := [some (sR v0), some (sI v1), some (sI v3), some (sI v3)]) rfl ?_
            refine go_iinc kk173_0.2.2.2.1.1 rfl rfl 1 rfl (loc2 := [some (sR v0), some (sI v1), some (sI v3), some (sI (w32 (v3 + 1)))]) rfl ?_
            refine go_goto kk173_0.2.2.2.1.2 ?_
            exact HX4 v3 h3 (w32 (v3 + 1)) (inR_w32 _)
  · refine go_iload kk173_0.2.2.2.2.1 rfl ?_
    exact go_iret kk173_0.2.2.2.2.2 hg h2 ⟨Nat.zero_le _, Nat.zero_le _⟩ rfl
theorem tlM_lowestBelow_4 {Φ : ev_P} {d : Nat} (hd : 1 ≤ d) {g : gH} (hg : HR g) {v0 v1 : Int} (hK0 : kd v0 = 7) (h1 : InR v1) : ∀ n : Nat, ∀ (v2 : Int) (h2 : InR v2) (v3 : Int) (h3 : InR v3), Go Φ pr_P (fP g) 1 (lM_lowestBelow_4 g v0 v1 n v2 v3) d pr_m173 4 [some (sR v0), some (sI v1), some (sI v2), some (sI v3)] [] g 0 0 := by
  intro n
  induction n with
  | zero => intros; exact go_none
  | succ n ih => exact tbM_lowestBelow_4 hd hg hK0 h1 ih
theorem tfM_lowestBelow {Φ : ev_P} {d : Nat} (hd : 1 ≤ d) {g : gH} (hg : HR g) {v0 v1 : Int} (hK0 : kd v0 = 7) (h1 : InR v1) : Go Φ pr_P (fP g) 1 (fM_lowestBelow g v0 v1) d (pr_P 173) 0 (ev_loc (pr_P 173).1 [(sR v0), (sI v1)]) [] g 0 0 := by
  show Go Φ pr_P (fP g) 1 (fM_lowestBelow g v0 v1) d pr_m173 0 [some (sR v0), some (sI v1), none, none] [] g 0 0
  unfold fM_lowestBelow
  refine go_int kk173_0.1.1.1.1.1.1 (-1) rfl ?_
  refine go_istore kk173_0.1.1.1.1.1.2 rfl (loc2 := [some (sR v0), some (sI v1), some (sI (-1)), none]) rfl ?_
  refine go_int kk173_0.1.1.1.1.2 1 rfl ?_
  refine go_istore kk173_0.1.1.1.2.1 rfl (loc2 := [some (sR v0), some (sI v1), some (sI (-1)), some (sI 1)]) rfl ?_
  exact tlM_lowestBelow_4 hd hg hK0 h1 fu (-1) (inR_of (by decide)) 1 (inR_b (Or.inr rfl))
theorem tbM_prune_68 {Φ : ev_P} {d : Nat} (hd : 8 ≤ d) {v0 v1 v2 : Int} (hK0 : kd v0 = 7) (h1 : InR v1) (h2 : InR v2) {X68 : Int → Int → gH → Option (Int × gH)} (HX68 : ∀ (v3 : Int) (h3 : InR v3) (v4 : Int) (h4 : InR v4) (g : gH) (hg : HR g) (u5 : Option ev_V) (w5 : nwo u5), Go Φ pr_P fN 1 (X68 v3 v4 g) d pr_m174 68 [some (sR v0), some (sI v1), some (sI v2), some (sI v3), some (sI v4), u5] [] g 0 0) : ∀ (v3 : Int) (h3 : InR v3) (v4 : Int) (h4 : InR v4) (g : gH) (hg : HR g) (u5 : Option ev_V) (w5 : nwo u5), Go Φ pr_P fN 1 (bM_prune_68 v0 v1 v2 X68 v3 v4 g) d pr_m174 68 [some (sR v0), some (sI v1), some (sI v2), some (sI v3), some (sI v4), u5] [] g 0 0 := by
  intro v3 h3 v4 h4 g hg u5 w5
  unfold bM_prune_68
  refine go_iload kk174_0.2.1.1.2.2.2 rfl ?_
  refine go_int kk174_0.2.1.2.1.1.1 (-1) rfl ?_
  refine go_cmeq kk174_0.2.1.2.1.1.2 h4 (inR_of (by decide)) (fun c41 => ?_) (fun c42 => ?_)
  · refine go_iload kk174_0.2.2.2.2.1.2 rfl ?_
    exact go_iret kk174_0.2.2.2.2.2 hg h3 ⟨Nat.zero_le _, Nat.zero_le _⟩ rfl
  · refine go_aload kk174_0.2.1.2.1.2.1 rfl ?_
    refine go_iload kk174_0.2.1.2.1.2.2 rfl ?_
    refine go_iload kk174_0.2.1.2.2.1.1 rfl ?_
    refine go_callN1 kk174_0.2.1.2.2.1.2 rfl rfl rfl ⟨by decide, _, rfl, hK0⟩ ⟨Nat.zero_le _, Nat.zero_le _⟩ (by omega) (tfM_exits (by omega) hg hK0  h4 h2) (fun y43 g45 r44 e46 => ?_)
    refine go_istore kk174_0.2.1.2.2.2 rfl (loc2 := [some (sR v0), some (sI v1), some (sI v2), some (sI v3), some (sI v4), some (sI y43)]) rfl ?_
    refine go_iload kk174_0.2.2.1.1.1.1 rfl ?_
    refine go_iload kk174_0.2.2.1.1.1.2 rfl ?_
    refine go_iflt kk174_0.2.2.1.1.2.1 r44 (fun c47 => ?_) (fun c48 => ?_)
    · refine go_int kk174_0.2.2.1.1.2.2 0 rfl ?_
      refine go_goto kk174_0.2.2.1.2.1.1 ?_
      refine go_iadd kk174_0.2.2.1.2.2.1 ?_
      refine go_istore kk174_0.2.2.1.2.2.2 rfl (loc2 := [some (sR v0), some (sI v1), some (sI v2), some (sI (w32 (v3 + 0))), some (sI v4), some (sI y43)]) rfl ?_
      refine go_aload kk174_0.2.2.2.1.1.1 rfl ?_
      refine go_iload kk174_0.2.2.2.1.1.2 rfl ?_
      refine go_callP1 kk174_0.2.2.2.1.2.1 rfl rfl rfl ⟨by decide, _, rfl, hK0⟩ ⟨Nat.zero_le _, Nat.zero_le _⟩ (by omega) (tfM_lowestBelow (by omega) e46 hK0  h1) (fun y49 r50 => ?_)
      refine go_istore kk174_0.2.2.2.1.2.2 rfl (loc2 := [some (sR v0), some (sI v1), some (sI v2), some (sI (w32 (v3 + 0))), some (sI y49), some (sI y43)]) rfl ?_
      refine go_goto kk174_0.2.2.2.2.1.1 ?_
      exact HX68 (w32 (v3 + 0)) (inR_w32 _) y49 r50 g45 e46 (some (sI y43)) rfl
    · refine go_int kk174_0.2.2.1.2.1.2 1 rfl ?_
      refine go_iadd kk174_0.2.2.1.2.2.1 ?_
      refine go_istore kk174_0.2.2.1.2.2.2 rfl (loc2 := [some (sR v0), some (sI v1), some (sI v2), some (sI (w32 (v3 + 1))), some (sI v4), some (sI y43)]) rfl ?_
      refine go_aload kk174_0.2.2.2.1.1.1 rfl ?_
      refine go_iload kk174_0.2.2.2.1.1.2 rfl ?_
      refine go_callP1 kk174_0.2.2.2.1.2.1 rfl rfl rfl ⟨by decide, _, rfl, hK0⟩ ⟨Nat.zero_le _, Nat.zero_le _⟩ (by omega) (tfM_lowestBelow (by omega) e46 hK0  h1) (fun y53 r54 => ?_)
      refine go_istore kk174_0.2.2.2.1.2.2 rfl (loc2 := [some (sR v0), some (sI v1), some (sI v2), some (sI (w32 (v3 + 1))), some (sI y53), some (sI y43)]) rfl ?_
      refine go_goto kk174_0.2.2.2.2.1.1 ?_
      exact HX68 (w32 (v3 + 1)) (inR_w32 _) y53 r54 g45 e46 (some (sI y43)) rfl
theorem tlM_prune_68 {Φ : ev_P} {d : Nat} (hd : 8 ≤ d) {v0 v1 v2 : Int} (hK0 : kd v0 = 7) (h1 : InR v1) (h2 : InR v2) : ∀ n : Nat, ∀ (v3 : Int) (h3 : InR v3) (v4 : Int) (h4 : InR v4) (g : gH) (hg : HR g) (u5 : Option ev_V) (w5 : nwo u5), Go Φ pr_P fN 1 (lM_prune_68 v0 v1 v2 n v3 v4 g) d pr_m174 68 [some (sR v0), some (sI v1), some (sI v2), some (sI v3), some (sI v4), u5] [] g 0 0 := by
  intro n
  induction n with
  | zero => intros; exact go_none
  | succ n ih => exact tbM_prune_68 hd hK0 h1 h2 ih
theorem tjM_prune_46 {Φ : ev_P} {d : Nat} (hd : 8 ≤ d) {g : gH} (hg : HR g) {v0 v1 v2 : Int} (hK0 : kd v0 = 7) (h1 : InR v1) (h2 : InR v2) {s0 s1 : Int} (z0 : RfR s0) (z1 : B01 s1) (u3 : Option ev_V) (w3 : nwo u3) (u4 : Option ev_V) (w4 : nwo u4) (u5 : Option ev_V) (w5 : nwo u5) : Go Φ pr_P fN 1 (jM_prune_46 g v0 v1 v2 s0 s1 ) d pr_m174 46 [some (sR v0), some (sI v1), some (sI v2), u3, u4, u5] [(sI s1), (sR s0)] g 0 0 := by
  unfold jM_prune_46
  refine go_int kk174_0.1.2.2.1.1.2 3 rfl ?_
  refine go_ck (fun q26 => ?_)
  refine go_callN3 kk174_0.1.2.2.1.2.1 rfl rfl rfl ⟨by decide, _, rfl, q26⟩ ⟨Nat.zero_le _, Nat.zero_le _⟩ (by omega) (tfM_fails (by omega) hg q26  z1 (inR_of (by decide))) (fun y27 g29 r28 e30 => ?_)
  refine go_ifeq kk174_0.1.2.2.1.2.2 (inR_b r28) (fun c31 => ?_) (fun c32 => ?_)
  · refine go_aload kk174_0.1.2.2.2.2 rfl ?_
    refine go_callN0 kk174_0.2.1.1.1.1.1 rfl rfl rfl ⟨by decide, _, rfl, hK0⟩ ⟨Nat.zero_le _, Nat.zero_le _⟩ (by omega) (tfM_remembers (by omega) e30 hK0 ) (fun y33 g35 e36 => ?_)
    refine go_int kk174_0.2.1.1.1.1.2 0 rfl ?_
    refine go_istore kk174_0.2.1.1.1.2.1 rfl (loc2 := [some (sR v0), some (sI v1), some (sI v2), some (sI 0), u4, u5]) rfl ?_
    refine go_aload kk174_0.2.1.1.1.2.2 rfl ?_
    refine go_iload kk174_0.2.1.1.2.1.1 rfl ?_
    refine go_callP1 kk174_0.2.1.1.2.1.2 rfl rfl rfl ⟨by decide, _, rfl, hK0⟩ ⟨Nat.zero_le _, Nat.zero_le _⟩ (by omega) (tfM_lowestBelow (by omega) e36 hK0  h1) (fun y37 r38 => ?_)
    refine go_istore kk174_0.2.1.1.2.2.1 rfl (loc2 := [some (sR v0), some (sI v1), some (sI v2), some (sI 0), some (sI y37), u5]) rfl ?_
    exact tlM_prune_68 hd hK0 h1 h2 fu 0 (inR_b (Or.inl rfl)) y37 r38 g35 e36 u5 w5
  · refine go_int kk174_0.1.2.2.2.1.1 0 rfl ?_
    exact go_iret kk174_0.1.2.2.2.1.2 e30 (inR_b (Or.inl rfl)) ⟨Nat.zero_le _, Nat.zero_le _⟩ rfl
theorem tjM_prune_25 {Φ : ev_P} {d : Nat} (hd : 8 ≤ d) {g : gH} (hg : HR g) {v0 v1 v2 : Int} (hK0 : kd v0 = 7) (h1 : InR v1) (h2 : InR v2) {s0 s1 : Int} (z0 : RfR s0) (z1 : B01 s1) (u3 : Option ev_V) (w3 : nwo u3) (u4 : Option ev_V) (w4 : nwo u4) (u5 : Option ev_V) (w5 : nwo u5) : Go Φ pr_P fN 1 (jM_prune_25 g v0 v1 v2 s0 s1 ) d pr_m174 25 [some (sR v0), some (sI v1), some (sI v2), u3, u4, u5] [(sI s1), (sR s0)] g 0 0 := by
  unfold jM_prune_25
  refine go_int kk174_0.1.1.2.2.1.2 2 rfl ?_
  refine go_ck (fun q13 => ?_)
  refine go_callN3 kk174_0.1.1.2.2.2 rfl rfl rfl ⟨by decide, _, rfl, q13⟩ ⟨Nat.zero_le _, Nat.zero_le _⟩ (by omega) (tfM_fails (by omega) hg q13  z1 (inR_of (by decide))) (fun y14 g16 r15 e17 => ?_)
  refine go_ifeq kk174_0.1.2.1.1.1.1 (inR_b r15) (fun c18 => ?_) (fun c19 => ?_)
  · refine go_aload kk174_0.1.2.1.1.1.2 rfl ?_
    refine go_aload kk174_0.1.2.1.1.2.1 rfl ?_
    refine go_iload kk174_0.1.2.1.1.2.2 rfl ?_
    refine go_callP3 kk174_0.1.2.1.2.1.1 rfl rfl rfl ⟨by decide, _, rfl, hK0⟩ ⟨Nat.zero_le _, Nat.zero_le _⟩ (by omega) (tfM_runs (by omega) e17 hK0  h1) (fun y20 r21 => ?_)
    refine go_ifeq kk174_0.1.2.1.2.1.2 (inR_b r21) (fun c24 => ?_) (fun c25 => ?_)
    · refine go_int kk174_0.1.2.1.2.2.1 1 rfl ?_
      refine go_goto kk174_0.1.2.1.2.2.2 ?_
      exact tjM_prune_46 hd e17 hK0 h1 h2 (rfR_kd hK0 (by decide)) (Or.inr rfl) u3 w3 u4 w4 u5 w5
    · refine go_int kk174_0.1.2.2.1.1.1 0 rfl ?_
      exact tjM_prune_46 hd e17 hK0 h1 h2 (rfR_kd hK0 (by decide)) (Or.inl rfl) u3 w3 u4 w4 u5 w5
  · refine go_int kk174_0.1.2.2.2.1.1 0 rfl ?_
    exact go_iret kk174_0.1.2.2.2.1.2 e17 (inR_b (Or.inl rfl)) ⟨Nat.zero_le _, Nat.zero_le _⟩ rfl
theorem tfM_prune {Φ : ev_P} {d : Nat} (hd : 8 ≤ d) {g : gH} (hg : HR g) {v0 v1 v2 : Int} (hK0 : kd v0 = 7) (h1 : InR v1) (h2 : InR v2) : Go Φ pr_P fN 1 (fM_prune g v0 v1 v2) d (pr_P 174) 0 (ev_loc (pr_P 174).1 [(sR v0), (sI v1), (sI v2)]) [] g 0 0 := by
  show Go Φ pr_P fN 1 (fM_prune g v0 v1 v2) d pr_m174 0 [some (sR v0), some (sI v1), some (sI v2), none, none, none] [] g 0 0
  unfold fM_prune
  refine go_aload kk174_0.1.1.1.1.1.1 rfl ?_
  refine go_iload kk174_0.1.1.1.1.1.2 rfl ?_
  refine go_callN3 kk174_0.1.1.1.1.2.1 rfl rfl rfl ⟨by decide, _, rfl, hK0⟩ ⟨Nat.zero_le _, Nat.zero_le _⟩ (by omega) (tfM_noProcess (by omega) hg hK0  h1) (fun y1 g3 r2 e4 => ?_)
  refine go_ifeq kk174_0.1.1.1.1.2.2 (inR_b r2) (fun c5 => ?_) (fun c6 => ?_)
  · refine go_aload kk174_0.1.1.1.2.1.1 rfl ?_
    refine go_iload kk174_0.1.1.1.2.1.2 rfl ?_
    refine go_int kk174_0.1.1.1.2.2.1 0 rfl ?_
    refine go_int kk174_0.1.1.1.2.2.2 255 rfl ?_
    refine go_callP3 kk174_0.1.1.2.1.1.1 rfl rfl rfl trivial ⟨Nat.zero_le _, Nat.zero_le _⟩ (by omega) (tfM_inRange (by omega) e4  h2 (inR_b (Or.inl rfl)) (inR_of (by decide))) (fun y7 r8 => ?_)
    refine go_ifeq kk174_0.1.1.2.1.1.2 (inR_b r8) (fun c11 => ?_) (fun c12 => ?_)
    · refine go_int kk174_0.1.1.2.1.2.1 1 rfl ?_
      refine go_goto kk174_0.1.1.2.1.2.2 ?_
      exact tjM_prune_25 hd e4 hK0 h1 h2 (rfR_kd hK0 (by decide)) (Or.inr rfl) none rfl none rfl none rfl
    · refine go_int kk174_0.1.1.2.2.1.1 0 rfl ?_
      exact tjM_prune_25 hd e4 hK0 h1 h2 (rfR_kd hK0 (by decide)) (Or.inl rfl) none rfl none rfl none rfl
  · refine go_int kk174_0.1.2.2.2.1.1 0 rfl ?_
    exact go_iret kk174_0.1.2.2.2.1.2 e4 (inR_b (Or.inl rfl)) ⟨Nat.zero_le _, Nat.zero_le _⟩ rfl
theorem tbM_exchange_169 {Φ : ev_P} {d : Nat} (hd : 2 ≤ d) {g : gH} (hg : HR g) {v0 : Int} (hK0 : kd v0 = 7) {X169 : Int → Int → Option (Int × gH)} (HX169 : ∀ (v4 : Int) (h4 : InR v4) (v5 : Int) (h5 : InR v5) (u1 : Option ev_V) (w1 : nwo u1) (u2 : Option ev_V) (w2 : nwo u2) (u3 : Option ev_V) (w3 : nwo u3), Go Φ pr_P fN 1 (X169 v4 v5) d pr_m175 169 [some (sR v0), u1, u2, u3, some (sI v4), some (sI v5)] [] g 0 0) : ∀ (v4 : Int) (h4 : InR v4) (v5 : Int) (h5 : InR v5) (u1 : Option ev_V) (w1 : nwo u1) (u2 : Option ev_V) (w2 : nwo u2) (u3 : Option ev_V) (w3 : nwo u3), Go Φ pr_P fN 1 (bM_exchange_169 g v0 X169 v4 v5) d pr_m175 169 [some (sR v0), u1, u2, u3, some (sI v4), some (sI v5)] [] g 0 0 := by
  intro v4 h4 v5 h5 u1 w1 u2 w2 u3 w3
  unfold bM_exchange_169
  refine go_iload kk175_1.2.1.1.2.1.1 rfl ?_
  refine go_aload kk175_1.2.1.1.2.1.2 rfl ?_
  refine go_getR (bI := 0) kk175_1.2.1.1.2.2.1 hg hK0 (by decide) rfl rfl (fun r90 => ?_)
  refine go_int kk175_1.2.1.1.2.2.2 0 rfl ?_
  refine go_ck (fun q92 => ?_)
  refine go_iald kk175_1.2.1.2.1.1.1 hg q92 (fun r91 => ?_)
  refine go_cmlt kk175_1.2.1.2.1.1.2 h5 r91 (fun c93 => ?_) (fun c94 => ?_)
  · refine go_iload kk175_1.2.1.2.1.2.1 rfl ?_
    refine go_aload kk175_1.2.1.2.1.2.2 rfl ?_
    refine go_iload kk175_1.2.1.2.2.1.1 rfl ?_
    refine go_callP3 kk175_1.2.1.2.2.1.2 rfl rfl rfl ⟨by decide, _, rfl, hK0⟩ ⟨Nat.zero_le _, Nat.zero_le _⟩ (by omega) (tfM_runs (by omega) hg hK0  h5) (fun y95 r96 => ?_)
    refine go_ifeq kk175_1.2.1.2.2.2.1 (inR_b r96) (fun c99 => ?_) (fun c100 => ?_)
    · refine go_int kk175_1.2.2.2.1.1.2 0 rfl ?_
      refine go_iadd kk175_1.2.2.2.1.2.1 ?_
      refine go_istore kk175_1.2.2.2.1.2.2 w3 (loc2 := [some (sR v0), u1, u2, u3, some (sI (w32 (v4 + 0))), some (sI v5)]) rfl ?_
      refine go_iinc kk175_1.2.2.2.2.1.1 rfl rfl 1 rfl (loc2 := [some (sR v0), u1, u2, u3, some (sI (w32 (v4 + 0))), some (sI (w32 (v5 + 1)))]) rfl ?_
      refine go_goto kk175_1.2.2.2.2.1.2 ?_
      exact HX169 (w32 (v4 + 0)) (inR_w32 _) (w32 (v5 + 1)) (inR_w32 _) u1 w1 u2 w2 u3 w3
    · refine go_aload kk175_1.2.1.2.2.2.2 rfl ?_
      refine go_iload kk175_1.2.2.1.1.1.1 rfl ?_
      refine go_callP1 kk175_1.2.2.1.1.1.2 rfl rfl rfl ⟨by decide, _, rfl, hK0⟩ ⟨Nat.zero_le _, Nat.zero_le _⟩ (by omega) (tfM_deep (by omega) hg hK0  h5) (fun y101 r102 => ?_)
      refine go_aload kk175_1.2.2.1.1.2.1 rfl ?_
      refine go_getR (bI := 21) kk175_1.2.2.1.1.2.2 hg hK0 (by decide) rfl rfl (fun r105 => ?_)
      refine go_iload kk175_1.2.2.1.2.1.1 rfl ?_
      refine go_ck (fun q107 => ?_)
      refine go_iald kk175_1.2.2.1.2.1.2 hg q107 (fun r106 => ?_)
      refine go_cmeq kk175_1.2.2.1.2.2.1 r102 r106 (fun c108 => ?_) (fun c109 => ?_)
      · refine go_int kk175_1.2.2.2.1.1.2 0 rfl ?_
        refine go_iadd kk175_1.2.2.2.1.2.1 ?_
        refine go_istore kk175_1.2.2.2.1.2.2 w3 (loc2 := [some (sR v0), u1, u2, u3, some (sI (w32 (v4 + 0))), some (sI v5)]) rfl ?_
        refine go_iinc kk175_1.2.2.2.2.1.1 rfl rfl 1 rfl (loc2 := [some (sR v0), u1, u2, u3, some (sI (w32 (v4 + 0))), some (sI (w32 (v5 + 1)))]) rfl ?_
        refine go_goto kk175_1.2.2.2.2.1.2 ?_
        exact HX169 (w32 (v4 + 0)) (inR_w32 _) (w32 (v5 + 1)) (inR_w32 _) u1 w1 u2 w2 u3 w3
      · refine go_int kk175_1.2.2.1.2.2.2 1 rfl ?_
        refine go_goto kk175_1.2.2.2.1.1.1 ?_
        refine go_iadd kk175_1.2.2.2.1.2.1 ?_
        refine go_istore kk175_1.2.2.2.1.2.2 w3 (loc2 := [some (sR v0), u1, u2, u3, some (sI (w32 (v4 + 1))), some (sI v5)]) rfl ?_
        refine go_iinc kk175_1.2.2.2.2.1.1 rfl rfl 1 rfl (loc2 := [some (sR v0), u1, u2, u3, some (sI (w32 (v4 + 1))), some (sI (w32 (v5 + 1)))]) rfl ?_
        refine go_goto kk175_1.2.2.2.2.1.2 ?_
        exact HX169 (w32 (v4 + 1)) (inR_w32 _) (w32 (v5 + 1)) (inR_w32 _) u1 w1 u2 w2 u3 w3
  · refine go_iload kk175_1.2.2.2.2.2.1 rfl ?_
    exact go_iret kk175_1.2.2.2.2.2.2 hg h4 ⟨Nat.zero_le _, Nat.zero_le _⟩ rfl
theorem tlM_exchange_169 {Φ : ev_P} {d : Nat} (hd : 2 ≤ d) {g : gH} (hg : HR g) {v0 : Int} (hK0 : kd v0 = 7) : ∀ n : Nat, ∀ (v4 : Int) (h4 : InR v4) (v5 : Int) (h5 : InR v5) (u1 : Option ev_V) (w1 : nwo u1) (u2 : Option ev_V) (w2 : nwo u2) (u3 : Option ev_V) (w3 : nwo u3), Go Φ pr_P fN 1 (lM_exchange_169 g v0 n v4 v5) d pr_m175 169 [some (sR v0), u1, u2, u3, some (sI v4), some (sI v5)] [] g 0 0 := by
  intro n
  induction n with
  | zero => intros; exact go_none
  | succ n ih => exact tbM_exchange_169 hd hg hK0 ih
theorem tjM_exchange_125 {Φ : ev_P} {d : Nat} (hd : 2 ≤ d) {g : gH} (hg : HR g) {v0 v1 v2 : Int} (hK0 : kd v0 = 7) (h1 : InR v1) (h2 : InR v2) (u3 : Option ev_V) (w3 : nwo u3) (u4 : Option ev_V) (w4 : nwo u4) (u5 : Option ev_V) (w5 : nwo u5) : Go Φ pr_P fN 1 (jM_exchange_125 g v0 v1 v2 ) d pr_m175 125 [some (sR v0), some (sI v1), some (sI v2), u3, u4, u5] [] g 0 0 := by
  unfold jM_exchange_125
  refine go_aload kk175_1.1.1.1.2.2.1 rfl ?_
  refine go_getR (bI := 0) kk175_1.1.1.1.2.2.2 hg hK0 (by decide) rfl rfl (fun r76 => ?_)
  refine go_int kk175_1.1.1.2.1.1.1 60 rfl ?_
  refine go_iload kk175_1.1.1.2.1.1.2 rfl ?_
  refine go_iadd kk175_1.1.1.2.1.2.1 ?_
  refine go_ck (fun q78 => ?_)
  refine go_iald kk175_1.1.1.2.1.2.2 hg q78 (fun r77 => ?_)
  refine go_istore kk175_1.1.1.2.2.1.1 rfl (loc2 := [some (sR v0), some (sI v1), some (sI v2), some (sI (g (g v0 0) (w32 (60 + v1)))), u4, u5]) rfl ?_
  refine go_aload kk175_1.1.1.2.2.1.2 rfl ?_
  refine go_getR (bI := 0) kk175_1.1.1.2.2.2.1 hg hK0 (by decide) rfl rfl (fun r79 => ?_)
  refine go_int kk175_1.1.1.2.2.2.2 60 rfl ?_
  refine go_iload kk175_1.1.2.1.1.1.1 rfl ?_
  refine go_iadd kk175_1.1.2.1.1.1.2 ?_
  refine go_aload kk175_1.1.2.1.1.2.1 rfl ?_
  refine go_getR (bI := 0) kk175_1.1.2.1.1.2.2 hg hK0 (by decide) rfl rfl (fun r80 => ?_)
  refine go_int kk175_1.1.2.1.2.1.1 60 rfl ?_
  refine go_iload kk175_1.1.2.1.2.1.2 rfl ?_
  refine go_iadd kk175_1.1.2.1.2.2.1 ?_
  refine go_ck (fun q82 => ?_)
  refine go_iald kk175_1.1.2.1.2.2.2 hg q82 (fun r81 => ?_)
  refine go_ck (fun q83 => ?_)
  refine go_iast kk175_1.1.2.2.1.1.1 hg q83 r81 (fun g84 e85 => ?_)
  refine go_aload kk175_1.1.2.2.1.1.2 rfl ?_
  refine go_getR (bI := 0) kk175_1.1.2.2.1.2.1 e85 hK0 (by decide) rfl rfl (fun r86 => ?_)
  refine go_int kk175_1.1.2.2.1.2.2 60 rfl ?_
  refine go_iload kk175_1.1.2.2.2.1.1 rfl ?_
  refine go_iadd kk175_1.1.2.2.2.1.2 ?_
  refine go_iload kk175_1.1.2.2.2.2.1 rfl ?_
  refine go_ck (fun q87 => ?_)
  refine go_iast kk175_1.1.2.2.2.2.2 e85 q87 r77 (fun g88 e89 => ?_)
  refine go_int kk175_1.2.1.1.1.1.1 0 rfl ?_
  refine go_istore kk175_1.2.1.1.1.1.2 rfl (loc2 := [some (sR v0), some (sI v1), some (sI v2), some (sI (g (g v0 0) (w32 (60 + v1)))), some (sI 0), u5]) rfl ?_
  refine go_int kk175_1.2.1.1.1.2.1 0 rfl ?_
  refine go_istore kk175_1.2.1.1.1.2.2 rfl (loc2 := [some (sR v0), some (sI v1), some (sI v2), some (sI (g (g v0 0) (w32 (60 + v1)))), some (sI 0), some (sI 0)]) rfl ?_
  exact tlM_exchange_169 hd e89 hK0 fu 0 (inR_b (Or.inl rfl)) 0 (inR_b (Or.inl rfl)) (some (sI v1)) rfl (some (sI v2)) rfl (some (sI (g (g v0 0) (w32 (60 + v1))))) rfl
theorem tbM_exchange_86 {Φ : ev_P} {d : Nat} (hd : 2 ≤ d) {v0 v1 v2 : Int} (hK0 : kd v0 = 7) (h1 : InR v1) (h2 : InR v2) {X86 : Int → gH → Option (Int × gH)} (HX86 : ∀ (v3 : Int) (h3 : InR v3) (g : gH) (hg : HR g) (u4 : Option ev_V) (w4 : nwo u4) (u5 : Option ev_V) (w5 : nwo u5), Go Φ pr_P fN 1 (X86 v3 g) d pr_m175 86 [some (sR v0), some (sI v1), some (sI v2), some (sI v3), u4, u5] [] g 0 0) : ∀ (v3 : Int) (h3 : InR v3) (g : gH) (hg : HR g) (u4 : Option ev_V) (w4 : nwo u4) (u5 : Option ev_V) (w5 : nwo u5), Go Φ pr_P fN 1 (bM_exchange_86 v0 v1 v2 X86 v3 g) d pr_m175 86 [some (sR v0), some (sI v1), some (sI v2), some (sI v3), u4, u5] [] g 0 0 := by
  intro v3 h3 g hg u4 w4 u5 w5
  unfold bM_exchange_86
  refine go_iload kk175_0.2.2.1.1.1.1 rfl ?_
  refine go_aload kk175_0.2.2.1.1.1.2 rfl ?_
  refine go_getR (bI := 0) kk175_0.2.2.1.1.2.1 hg hK0 (by decide) rfl rfl (fun r54 => ?_)
  refine go_int kk175_0.2.2.1.1.2.2 0 rfl ?_
  refine go_ck (fun q56 => ?_)
  refine go_iald kk175_0.2.2.1.2.1.1 hg q56 (fun r55 => ?_)
  refine go_cmlt kk175_0.2.2.1.2.1.2 h3 r55 (fun c57 => ?_) (fun c58 => ?_)
  · refine go_aload kk175_0.2.2.1.2.2.1 rfl ?_
    refine go_getR (bI := 21) kk175_0.2.2.1.2.2.2 hg hK0 (by decide) rfl rfl (fun r59 => ?_)
    refine go_iload kk175_0.2.2.2.1.1.1 rfl ?_
    refine go_aload kk175_0.2.2.2.1.1.2 rfl ?_
    refine go_iload kk175_0.2.2.2.1.2.1 rfl ?_
    refine go_callP3 kk175_0.2.2.2.1.2.2 rfl rfl rfl ⟨by decide, _, rfl, hK0⟩ ⟨Nat.zero_le _, Nat.zero_le _⟩ (by omega) (tfM_runs (by omega) hg hK0  h3) (fun y60 r61 => ?_)
    refine go_ifeq kk175_0.2.2.2.2.1.1 (inR_b r61) (fun c64 => ?_) (fun c65 => ?_)
    · refine go_int kk175_1.1.1.1.1.2.1 (-1) rfl ?_
      refine go_ck (fun q66 => ?_)
      refine go_iast kk175_1.1.1.1.1.2.2 hg q66 (inR_of (by decide)) (fun g67 e68 => ?_)
      refine go_iinc kk175_1.1.1.1.2.1.1 rfl rfl 1 rfl (loc2 := [some (sR v0), some (sI v1), some (sI v2), some (sI (w32 (v3 + 1))), u4, u5]) rfl ?_
      refine go_goto kk175_1.1.1.1.2.1.2 ?_
      exact HX86 (w32 (v3 + 1)) (inR_w32 _) g67 e68 u4 w4 u5 w5
    · refine go_aload kk175_0.2.2.2.2.1.2 rfl ?_
      refine go_iload kk175_0.2.2.2.2.2 rfl ?_
      refine go_callP1 kk175_1.1.1.1.1.1.1 rfl rfl rfl ⟨by decide, _, rfl, hK0⟩ ⟨Nat.zero_le _, Nat.zero_le _⟩ (by omega) (tfM_deep (by omega) hg hK0  h3) (fun y69 r70 => ?_)
      refine go_goto kk175_1.1.1.1.1.1.2 ?_
      refine go_ck (fun q73 => ?_)
      refine go_iast kk175_1.1.1.1.1.2.2 hg q73 r70 (fun g74 e75 => ?_)
      refine go_iinc kk175_1.1.1.1.2.1.1 rfl rfl 1 rfl (loc2 := [some (sR v0), some (sI v1), some (sI v2), some (sI (w32 (v3 + 1))), u4, u5]) rfl ?_
      refine go_goto kk175_1.1.1.1.2.1.2 ?_
      exact HX86 (w32 (v3 + 1)) (inR_w32 _) g74 e75 u4 w4 u5 w5
  · exact tjM_exchange_125 hd hg hK0 h1 h2 (some (sI v3)) rfl u4 w4 u5 w5
theorem tlM_exchange_86 {Φ : ev_P} {d : Nat} (hd : 2 ≤ d) {v0 v1 v2 : Int} (hK0 : kd v0 = 7) (h1 : InR v1) (h2 : InR v2) : ∀ n : Nat, ∀ (v3 : Int) (h3 : InR v3) (g : gH) (hg : HR g) (u4 : Option ev_V) (w4 : nwo u4) (u5 : Option ev_V) (w5 : nwo u5), Go Φ pr_P fN 1 (lM_exchange_86 v0 v1 v2 n v3 g) d pr_m175 86 [some (sR v0), some (sI v1), some (sI v2), some (sI v3), u4, u5] [] g 0 0 := by
  intro n
  induction n with
  | zero => intros; exact go_none
  | succ n ih => exact tbM_exchange_86 hd hK0 h1 h2 ih
theorem tjM_exchange_71 {Φ : ev_P} {d : Nat} (hd : 2 ≤ d) {g : gH} (hg : HR g) {v0 v1 v2 : Int} (hK0 : kd v0 = 7) (h1 : InR v1) (h2 : InR v2) {s0 s1 : Int} (z0 : RfR s0) (z1 : B01 s1) (u3 : Option ev_V) (w3 : nwo u3) (u4 : Option ev_V) (w4 : nwo u4) (u5 : Option ev_V) (w5 : nwo u5) : Go Φ pr_P fN 1 (jM_exchange_71 g v0 v1 v2 s0 s1 ) d pr_m175 71 [some (sR v0), some (sI v1), some (sI v2), u3, u4, u5] [(sI s1), (sR s0)] g 0 0 := by
  unfold jM_exchange_71
  refine go_int kk175_0.2.1.1.2.2.2 2 rfl ?_
  refine go_ck (fun q43 => ?_)
  refine go_callN3 kk175_0.2.1.2.1.1.1 rfl rfl rfl ⟨by decide, _, rfl, q43⟩ ⟨Nat.zero_le _, Nat.zero_le _⟩ (by omega) (tfM_fails (by omega) hg q43  z1 (inR_of (by decide))) (fun y44 g46 r45 e47 => ?_)
  refine go_ifeq kk175_0.2.1.2.1.1.2 (inR_b r45) (fun c48 => ?_) (fun c49 => ?_)
  · refine go_aload kk175_0.2.1.2.2.1.1 rfl ?_
    refine go_callN0 kk175_0.2.1.2.2.1.2 rfl rfl rfl ⟨by decide, _, rfl, hK0⟩ ⟨Nat.zero_le _, Nat.zero_le _⟩ (by omega) (tfM_remembers (by omega) e47 hK0 ) (fun y50 g52 e53 => ?_)
    refine go_int kk175_0.2.1.2.2.2.1 0 rfl ?_
    refine go_istore kk175_0.2.1.2.2.2.2 rfl (loc2 := [some (sR v0), some (sI v1), some (sI v2), some (sI 0), u4, u5]) rfl ?_
    exact tlM_exchange_86 hd hK0 h1 h2 fu 0 (inR_b (Or.inl rfl)) g52 e53 u4 w4 u5 w5
  · refine go_int kk175_0.2.1.2.1.2.1 0 rfl ?_
    exact go_iret kk175_0.2.1.2.1.2.2 e47 (inR_b (Or.inl rfl)) ⟨Nat.zero_le _, Nat.zero_le _⟩ rfl
theorem tjM_exchange_66 {Φ : ev_P} {d : Nat} (hd : 2 ≤ d) {g : gH} (hg : HR g) {v0 v1 v2 : Int} (hK0 : kd v0 = 7) (h1 : InR v1) (h2 : InR v2) {s0 : Int} (z0 : RfR s0) (u3 : Option ev_V) (w3 : nwo u3) (u4 : Option ev_V) (w4 : nwo u4) (u5 : Option ev_V) (w5 : nwo u5) : Go Φ pr_P fN 1 (jM_exchange_66 g v0 v1 v2 s0 ) d pr_m175 66 [some (sR v0), some (sI v1), some (sI v2), u3, u4, u5] [(sR s0)] g 0 0 := by
  unfold jM_exchange_66
  refine go_int kk175_0.2.1.1.2.1.1 1 rfl ?_
  refine go_goto kk175_0.2.1.1.2.1.2 ?_
  exact tjM_exchange_71 hd hg hK0 h1 h2 z0 (Or.inr rfl) u3 w3 u4 w4 u5 w5
theorem tfM_exchange {Φ : ev_P} {d : Nat} (hd : 2 ≤ d) {g : gH} (hg : HR g) {v0 v1 v2 : Int} (hK0 : kd v0 = 7) (h1 : InR v1) (h2 : InR v2) : Go Φ pr_P fN 1 (fM_exchange g v0 v1 v2) d (pr_P 175) 0 (ev_loc (pr_P 175).1 [(sR v0), (sI v1), (sI v2)]) [] g 0 0 := by
  show Go Φ pr_P fN 1 (fM_exchange g v0 v1 v2) d pr_m175 0 [some (sR v0), some (sI v1), some (sI v2), none, none, none] [] g 0 0
  unfold fM_exchange
  refine go_aload kk175_0.1.1.1.1.1.1 rfl ?_
  refine go_iload kk175_0.1.1.1.1.1.2 rfl ?_
  refine go_callN3 kk175_0.1.1.1.1.2.1 rfl rfl rfl ⟨by decide, _, rfl, hK0⟩ ⟨Nat.zero_le _, Nat.zero_le _⟩ (by omega) (tfM_noProcess (by omega) hg hK0  h1) (fun y1 g3 r2 e4 => ?_)
  refine go_ifeq kk175_0.1.1.1.1.2.2 (inR_b r2) (fun c5 => ?_) (fun c6 => ?_)
  · refine go_aload kk175_0.1.1.1.2.1.1 rfl ?_
    refine go_iload kk175_0.1.1.1.2.1.2 rfl ?_
    refine go_callN3 kk175_0.1.1.1.2.2.1 rfl rfl rfl ⟨by decide, _, rfl, hK0⟩ ⟨Nat.zero_le _, Nat.zero_le _⟩ (by omega) (tfM_noProcess (by omega) e4 hK0  h2) (fun y7 g9 r8 e10 => ?_)
    refine go_ifeq kk175_0.1.1.1.2.2.2 (inR_b r8) (fun c11 => ?_) (fun c12 => ?_)
    · refine go_aload kk175_0.1.1.2.1.2.1 rfl ?_
      refine go_iload kk175_0.1.1.2.1.2.2 rfl ?_
      refine go_ifeq kk175_0.1.1.2.2.1.1 h1 (fun c13 => ?_) (fun c14 => ?_)
      · exact tjM_exchange_66 hd e10 hK0 h1 h2 (rfR_kd hK0 (by decide)) none rfl none rfl none rfl
      · refine go_iload kk175_0.1.1.2.2.1.2 rfl ?_
        refine go_ifeq kk175_0.1.1.2.2.2.1 h2 (fun c15 => ?_) (fun c16 => ?_)
        · exact tjM_exchange_66 hd e10 hK0 h1 h2 (rfR_kd hK0 (by decide)) none rfl none rfl none rfl
        · refine go_aload kk175_0.1.1.2.2.2.2 rfl ?_
          refine go_iload kk175_0.1.2.1.1.1.1 rfl ?_
          refine go_callP3 kk175_0.1.2.1.1.1.2 rfl rfl rfl ⟨by decide, _, rfl, hK0⟩ ⟨Nat.zero_le _, Nat.zero_le _⟩ (by omega) (tfM_runs (by omega) e10 hK0  h1) (fun y17 r18 => ?_)
          refine go_ifeq kk175_0.1.2.1.1.2.1 (inR_b r18) (fun c21 => ?_) (fun c22 => ?_)
          · exact tjM_exchange_66 hd e10 hK0 h1 h2 (rfR_kd hK0 (by decide)) none rfl none rfl none rfl
          · refine go_aload kk175_0.1.2.1.1.2.2 rfl ?_
            refine go_iload kk175_0.1.2.1.2.1.1 rfl ?_
            refine go_callP3 kk175_0.1.2.1.2.1.2 rfl rfl rfl ⟨by decide, _, rfl, hK0⟩ ⟨Nat.zero_le _, Nat.zero_le _⟩ (by omega) (tfM_runs (by omega) e10 hK0  h2) (fun y23 r24 => ?_)
            refine go_ifeq kk175_0.1.2.1.2.2.1 (inR_b r24) (fun c27 => ?_) (fun c28 => ?_)
            · exact tjM_exchange_66 hd e10 hK0 h1 h2 (rfR_kd hK0 (by decide)) none rfl none rfl none rfl
            · refine go_iload kk175_0.1.2.1.2.2.2 rfl ?_
              refine go_iload kk175_0.1.2.2.1.1.1 rfl ?_
              refine go_cmeq kk175_0.1.2.2.1.1.2 h1 h2 (fun c29 => ?_) (fun c30 => ?_)
              · exact tjM_exchange_66 hd e10 hK0 h1 h2 (rfR_kd hK0 (by decide)) none rfl none rfl none rfl
              · refine go_aload kk175_0.1.2.2.1.2.1 rfl ?_
                refine go_iload kk175_0.1.2.2.1.2.2 rfl ?_
                refine go_iload kk175_0.1.2.2.2.1.1 rfl ?_
                refine go_callP3 kk175_0.1.2.2.2.1.2 rfl rfl rfl ⟨by decide, _, rfl, hK0⟩ ⟨Nat.zero_le _, Nat.zero_le _⟩ (by omega) (tfM_isOver (by omega) e10 hK0  h1 h2) (fun y31 r32 => ?_)
                refine go_ifeq kk175_0.1.2.2.2.2.1 (inR_b r32) (fun c35 => ?_) (fun c36 => ?_)
                · refine go_aload kk175_0.1.2.2.2.2.2 rfl ?_
                  refine go_iload kk175_0.2.1.1.1.1.1 rfl ?_
                  refine go_iload kk175_0.2.1.1.1.1.2 rfl ?_
                  refine go_callP3 kk175_0.2.1.1.1.2.1 rfl rfl rfl ⟨by decide, _, rfl, hK0⟩ ⟨Nat.zero_le _, Nat.zero_le _⟩ (by omega) (tfM_isOver (by omega) e10 hK0  h2 h1) (fun y37 r38 => ?_)
                  refine go_ifeq kk175_0.2.1.1.1.2.2 (inR_b r38) (fun c41 => ?_) (fun c42 => ?_)
                  · refine go_int kk175_0.2.1.1.2.2.1 0 rfl ?_
                    exact tjM_exchange_71 hd e10 hK0 h1 h2 (rfR_kd hK0 (by decide)) (Or.inl rfl) none rfl none rfl none rfl
                  · exact tjM_exchange_66 hd e10 hK0 h1 h2 (rfR_kd hK0 (by decide)) none rfl none rfl none rfl
                · exact tjM_exchange_66 hd e10 hK0 h1 h2 (rfR_kd hK0 (by decide)) none rfl none rfl none rfl
    · refine go_int kk175_0.1.1.2.1.1.1 0 rfl ?_
      exact go_iret kk175_0.1.1.2.1.1.2 e10 (inR_b (Or.inl rfl)) ⟨Nat.zero_le _, Nat.zero_le _⟩ rfl
  · refine go_int kk175_0.1.1.2.1.1.1 0 rfl ?_
    exact go_iret kk175_0.1.1.2.1.1.2 e4 (inR_b (Or.inl rfl)) ⟨Nat.zero_le _, Nat.zero_le _⟩ rfl
