/-! ===== the evaluator comes to what the functions tell (own work, by program: wip/p2/dec.py) ===== -/
theorem tbM_readText_0 {Φ : ev_P} {d : Nat} (hd : 5 ≤ d) {v0 : Int} (hK0 : kd v0 = 7) {X0 : gH → Option (Int × gH)} (HX0 : ∀ (g : gH) (hg : HR g), Go Φ pr_P fN 3 (X0 g) d pr_m127 0 [some (sR v0)] [] g 0 0) : ∀ (g : gH) (hg : HR g), Go Φ pr_P fN 3 (bM_readText_0 v0 X0 g) d pr_m127 0 [some (sR v0)] [] g 0 0 := by
  intro g hg
  unfold bM_readText_0
  refine go_aload kk127_0.1.1.1.1.1 rfl ?_
  refine go_getI (bI := 18) kk127_0.1.1.1.1.2 hg hK0 (by decide) rfl rfl (fun r1 => ?_)
  refine go_ifeq kk127_0.1.1.1.2 r1 (fun c2 => ?_) (fun c3 => ?_)
  · refine go_int kk127_0.2.2.2.1 1 rfl ?_
    exact go_bret kk127_0.2.2.2.2 hg (Or.inr rfl) ⟨Nat.zero_le _, Nat.zero_le _⟩ rfl
  · refine go_aload kk127_0.1.1.2.1.1 rfl ?_
    refine go_callN3 kk127_0.1.1.2.1.2 rfl rfl rfl ⟨by decide, _, rfl, hK0⟩ ⟨Nat.zero_le _, Nat.zero_le _⟩ (by omega) (tfM_readStatement (by omega) hg hK0 ) (fun y4 g6 r5 e7 => ?_)
    refine go_ifeq kk127_0.1.1.2.2 (inR_b r5) (fun c8 => ?_) (fun c9 => ?_)
    · refine go_int kk127_0.1.2.1.1.1 0 rfl ?_
      exact go_bret kk127_0.1.2.1.1.2 e7 (Or.inl rfl) ⟨Nat.zero_le _, Nat.zero_le _⟩ rfl
    · refine go_aload kk127_0.1.2.1.2 rfl ?_
      refine go_getI (bI := 18) kk127_0.1.2.2.1 e7 hK0 (by decide) rfl rfl (fun r10 => ?_)
      refine go_int kk127_0.1.2.2.2 3 rfl ?_
      refine go_cmeq kk127_0.2.1.1.1.1 r10 (inR_of (by decide)) (fun c11 => ?_) (fun c12 => ?_)
      · refine go_aload kk127_0.2.2.1.1.1 rfl ?_
        refine go_callN0 kk127_0.2.2.1.1.2 rfl rfl rfl ⟨by decide, _, rfl, hK0⟩ ⟨Nat.zero_le _, Nat.zero_le _⟩ (by omega) (tfM_advanceToken (by omega) e7 hK0 ) (fun y13 g15 e16 => ?_)
        refine go_goto kk127_0.2.2.1.2 ?_
        exact HX0 g15 e16
      · refine go_aload kk127_0.2.1.1.1.2 rfl ?_
        refine go_int kk127_0.2.1.1.2 1 rfl ?_
        refine go_callN3 kk127_0.2.1.2.1 rfl rfl rfl ⟨by decide, _, rfl, hK0⟩ ⟨Nat.zero_le _, Nat.zero_le _⟩ (by omega) (tfM_failsAt (by omega) e7 hK0  (inR_b (Or.inr rfl))) (fun y17 g19 r18 e20 => ?_)
        exact go_bret kk127_0.2.1.2.2 e20 r18 ⟨Nat.zero_le _, Nat.zero_le _⟩ rfl
theorem tlM_readText_0 {Φ : ev_P} {d : Nat} (hd : 5 ≤ d) {v0 : Int} (hK0 : kd v0 = 7) : ∀ n : Nat, ∀ (g : gH) (hg : HR g), Go Φ pr_P fN 3 (lM_readText_0 v0 n g) d pr_m127 0 [some (sR v0)] [] g 0 0 := by
  intro n
  induction n with
  | zero => intros; exact go_none
  | succ n ih => exact tbM_readText_0 hd hK0 ih
theorem tfM_readText {Φ : ev_P} {d : Nat} (hd : 5 ≤ d) {g : gH} (hg : HR g) {v0 : Int} (hK0 : kd v0 = 7) : Go Φ pr_P fN 3 (fM_readText g v0) d (pr_P 127) 0 (ev_loc (pr_P 127).1 [(sR v0)]) [] g 0 0 := by
  show Go Φ pr_P fN 3 (fM_readText g v0) d pr_m127 0 [some (sR v0)] [] g 0 0
  unfold fM_readText
  exact tlM_readText_0 hd hK0 fu g hg
theorem tfM_loadTree {Φ : ev_P} {d : Nat} (hd : 6 ≤ d) {g : gH} (hg : HR g) {v0 : Int} (hK0 : kd v0 = 7) : Go Φ pr_P fN 1 (fM_loadTree g v0) d (pr_P 128) 0 (ev_loc (pr_P 128).1 [(sR v0)]) [] g 0 0 := by
  show Go Φ pr_P fN 1 (fM_loadTree g v0) d pr_m128 0 [some (sR v0), none] [] g 0 0
  unfold fM_loadTree
  refine go_aload kk128_0.1.1.1.1.1.1 rfl ?_
  refine go_int kk128_0.1.1.1.1.1.2 0 rfl ?_
  refine go_putI (bI := 8) kk128_0.1.1.1.1.2.1 hg hK0 (by decide) rfl rfl (inR_b (Or.inl rfl)) (fun g1 e2 => ?_)
  refine go_aload kk128_0.1.1.1.1.2.2 rfl ?_
  refine go_getR (bI := 0) kk128_0.1.1.1.2.1.1 e2 hK0 (by decide) rfl rfl (fun r3 => ?_)
  refine go_int kk128_0.1.1.1.2.1.2 0 rfl ?_
  refine go_aload kk128_0.1.1.1.2.2.1 rfl ?_
  refine go_getR (bI := 1) kk128_0.1.1.1.2.2.2 e2 hK0 (by decide) rfl rfl (fun r4 => ?_)
  refine go_int kk128_0.1.1.2.1.1.1 0 rfl ?_
  refine go_int kk128_0.1.1.2.1.1.2 780 rfl ?_
  refine go_callN0 kk128_0.1.1.2.1.2.1 rfl rfl rfl trivial ⟨Nat.zero_le _, Nat.zero_le _⟩ (by omega) (tfM_copies (by omega) e2  r3 (inR_b (Or.inl rfl)) r4 (inR_b (Or.inl rfl)) (inR_of (by decide))) (fun y5 g7 e8 => ?_)
  refine go_aload kk128_0.1.1.2.1.2.2 rfl ?_
  refine go_callN0 kk128_0.1.1.2.2.1.1 rfl rfl rfl ⟨by decide, _, rfl, hK0⟩ ⟨Nat.zero_le _, Nat.zero_le _⟩ (by omega) (tfM_clear (by omega) e8 hK0 ) (fun y9 g11 e12 => ?_)
  refine go_aload kk128_0.1.1.2.2.1.2 rfl ?_
  refine go_int kk128_0.1.1.2.2.2.1 0 rfl ?_
  refine go_putI (bI := 13) kk128_0.1.1.2.2.2.2 e12 hK0 (by decide) rfl rfl (inR_b (Or.inl rfl)) (fun g13 e14 => ?_)
  refine go_aload kk128_0.1.2.1.1.1.1 rfl ?_
  refine go_int kk128_0.1.2.1.1.1.2 (-1) rfl ?_
  refine go_putI (bI := 14) kk128_0.1.2.1.1.2.1 e14 hK0 (by decide) rfl rfl (inR_of (by decide)) (fun g15 e16 => ?_)
  refine go_aload kk128_0.1.2.1.1.2.2 rfl ?_
  refine go_int kk128_0.1.2.1.2.1.1 0 rfl ?_
  refine go_putI (bI := 15) kk128_0.1.2.1.2.1.2 e16 hK0 (by decide) rfl rfl (inR_b (Or.inl rfl)) (fun g17 e18 => ?_)
  refine go_aload kk128_0.1.2.1.2.2.1 rfl ?_
  refine go_int kk128_0.1.2.1.2.2.2 0 rfl ?_
  refine go_putI (bI := 19) kk128_0.1.2.2.1.1.1 e18 hK0 (by decide) rfl rfl (inR_b (Or.inl rfl)) (fun g19 e20 => ?_)
  refine go_aload kk128_0.1.2.2.1.1.2 rfl ?_
  refine go_callN0 kk128_0.1.2.2.1.2.1 rfl rfl rfl ⟨by decide, _, rfl, hK0⟩ ⟨Nat.zero_le _, Nat.zero_le _⟩ (by omega) (tfM_advanceToken (by omega) e20 hK0 ) (fun y21 g23 e24 => ?_)
  refine go_aload kk128_0.1.2.2.1.2.2 rfl ?_
  refine go_callN3 kk128_0.1.2.2.2.1.1 rfl rfl rfl ⟨by decide, _, rfl, hK0⟩ ⟨Nat.zero_le _, Nat.zero_le _⟩ (by omega) (tfM_readText (by omega) e24 hK0 ) (fun y25 g27 r26 e28 => ?_)
  refine go_istore kk128_0.1.2.2.2.1.2 rfl (loc2 := [some (sR v0), some (sI y25)]) rfl ?_
  refine go_aload kk128_0.1.2.2.2.2.1 rfl ?_
  refine go_int kk128_0.1.2.2.2.2.2 0 rfl ?_
  refine go_putI (bI := 10) kk128_0.2.1.1.1.1.1 e28 hK0 (by decide) rfl rfl (inR_b (Or.inl rfl)) (fun g29 e30 => ?_)
  refine go_aload kk128_0.2.1.1.1.1.2 rfl ?_
  refine go_aload kk128_0.2.1.1.1.2.1 rfl ?_
  refine go_getI (bI := 13) kk128_0.2.1.1.1.2.2 e30 hK0 (by decide) rfl rfl (fun r31 => ?_)
  refine go_putI (bI := 11) kk128_0.2.1.1.2.1.1 e30 hK0 (by decide) rfl rfl r31 (fun g32 e33 => ?_)
  refine go_aload kk128_0.2.1.1.2.1.2 rfl ?_
  refine go_aload kk128_0.2.1.1.2.2.1 rfl ?_
  refine go_getI (bI := 14) kk128_0.2.1.1.2.2.2 e33 hK0 (by decide) rfl rfl (fun r34 => ?_)
  refine go_putI (bI := 12) kk128_0.2.1.2.1.1.1 e33 hK0 (by decide) rfl rfl r34 (fun g35 e36 => ?_)
  refine go_iload kk128_0.2.1.2.1.1.2 rfl ?_
  refine go_ifeq kk128_0.2.1.2.1.2.1 (inR_b r26) (fun c37 => ?_) (fun c38 => ?_)
  · refine go_aload kk128_0.2.1.2.1.2.2 rfl ?_
    refine go_getR (bI := 1) kk128_0.2.1.2.2.1.1 e36 hK0 (by decide) rfl rfl (fun r39 => ?_)
    refine go_int kk128_0.2.1.2.2.1.2 0 rfl ?_
    refine go_aload kk128_0.2.1.2.2.2.1 rfl ?_
    refine go_getR (bI := 0) kk128_0.2.1.2.2.2.2 e36 hK0 (by decide) rfl rfl (fun r40 => ?_)
    refine go_int kk128_0.2.2.1.1.1.1 0 rfl ?_
    refine go_int kk128_0.2.2.1.1.1.2 780 rfl ?_
    refine go_callN0 kk128_0.2.2.1.1.2.1 rfl rfl rfl trivial ⟨Nat.zero_le _, Nat.zero_le _⟩ (by omega) (tfM_copies (by omega) e36  r39 (inR_b (Or.inl rfl)) r40 (inR_b (Or.inl rfl)) (inR_of (by decide))) (fun y41 g43 e44 => ?_)
    refine go_int kk128_0.2.2.1.1.2.2 (-1) rfl ?_
    exact go_iret kk128_0.2.2.1.2.1.1 e44 (inR_of (by decide)) ⟨Nat.zero_le _, Nat.zero_le _⟩ rfl
  · refine go_aload kk128_0.2.2.1.2.1.2 rfl ?_
    refine go_int kk128_0.2.2.1.2.2.1 0 rfl ?_
    refine go_putI (bI := 6) kk128_0.2.2.1.2.2.2 e36 hK0 (by decide) rfl rfl (inR_b (Or.inl rfl)) (fun g45 e46 => ?_)
    refine go_aload kk128_0.2.2.2.1.1.1 rfl ?_
    refine go_int kk128_0.2.2.2.1.1.2 0 rfl ?_
    refine go_putB (bI := 7) kk128_0.2.2.2.1.2.1 e46 hK0 (by decide) rfl rfl (Or.inl rfl) (fun g47 e48 => ?_)
    refine go_aload kk128_0.2.2.2.1.2.2 rfl ?_
    refine go_getR (bI := 0) kk128_0.2.2.2.2.1.1 e48 hK0 (by decide) rfl rfl (fun r49 => ?_)
    refine go_int kk128_0.2.2.2.2.1.2 0 rfl ?_
    refine go_ck (fun q51 => ?_)
    refine go_iald kk128_0.2.2.2.2.2.1 e48 q51 (fun r50 => ?_)
    exact go_iret kk128_0.2.2.2.2.2.2 e48 r50 ⟨Nat.zero_le _, Nat.zero_le _⟩ rfl
theorem tfM_errorCode {Φ : ev_P} {d : Nat} (hd : 0 ≤ d) {g : gH} (hg : HR g) {v0 : Int} (hK0 : kd v0 = 7) : Go Φ pr_P fN 1 (fM_errorCode g v0) d (pr_P 129) 0 (ev_loc (pr_P 129).1 [(sR v0)]) [] g 0 0 := by
  show Go Φ pr_P fN 1 (fM_errorCode g v0) d pr_m129 0 [some (sR v0)] [] g 0 0
  unfold fM_errorCode
  refine go_aload kk129_0.1.1.1 rfl ?_
  refine go_int kk129_0.1.1.2 0 rfl ?_
  refine go_putI (bI := 8) kk129_0.1.2 hg hK0 (by decide) rfl rfl (inR_b (Or.inl rfl)) (fun g1 e2 => ?_)
  refine go_aload kk129_0.2.1.1 rfl ?_
  refine go_getI (bI := 11) kk129_0.2.1.2 e2 hK0 (by decide) rfl rfl (fun r3 => ?_)
  exact go_iret kk129_0.2.2 e2 r3 ⟨Nat.zero_le _, Nat.zero_le _⟩ rfl
theorem tfM_errorOffset {Φ : ev_P} {d : Nat} (hd : 0 ≤ d) {g : gH} (hg : HR g) {v0 : Int} (hK0 : kd v0 = 7) : Go Φ pr_P fN 1 (fM_errorOffset g v0) d (pr_P 130) 0 (ev_loc (pr_P 130).1 [(sR v0)]) [] g 0 0 := by
  show Go Φ pr_P fN 1 (fM_errorOffset g v0) d pr_m130 0 [some (sR v0)] [] g 0 0
  unfold fM_errorOffset
  refine go_aload kk130_0.1.1.1 rfl ?_
  refine go_int kk130_0.1.1.2 0 rfl ?_
  refine go_putI (bI := 8) kk130_0.1.2 hg hK0 (by decide) rfl rfl (inR_b (Or.inl rfl)) (fun g1 e2 => ?_)
  refine go_aload kk130_0.2.1.1 rfl ?_
  refine go_getI (bI := 12) kk130_0.2.1.2 e2 hK0 (by decide) rfl rfl (fun r3 => ?_)
  exact go_iret kk130_0.2.2 e2 r3 ⟨Nat.zero_le _, Nat.zero_le _⟩ rfl
theorem tfM_fails {Φ : ev_P} {d : Nat} (hd : 0 ≤ d) {g : gH} (hg : HR g) {v0 v1 v2 : Int} (hK0 : kd v0 = 7) (h1 : B01 v1) (h2 : InR v2) : Go Φ pr_P fN 3 (fM_fails g v0 v1 v2) d (pr_P 76) 0 (ev_loc (pr_P 76).1 [(sR v0), (sI v1), (sI v2)]) [] g 0 0 := by
  show Go Φ pr_P fN 3 (fM_fails g v0 v1 v2) d pr_m76 0 [some (sR v0), some (sI v1), some (sI v2)] [] g 0 0
  unfold fM_fails
  refine go_iload kk76_0.1.1.1 rfl ?_
  refine go_ifeq kk76_0.1.1.2 (inR_b h1) (fun c1 => ?_) (fun c2 => ?_)
  · refine go_iload kk76_0.2.1.2 rfl ?_
    exact go_bret kk76_0.2.2 hg h1 ⟨Nat.zero_le _, Nat.zero_le _⟩ rfl
  · refine go_aload kk76_0.1.2.1 rfl ?_
    refine go_iload kk76_0.1.2.2 rfl ?_
    refine go_putI (bI := 8) kk76_0.2.1.1 hg hK0 (by decide) rfl rfl h2 (fun g3 e4 => ?_)
    refine go_iload kk76_0.2.1.2 rfl ?_
    exact go_bret kk76_0.2.2 e4 h1 ⟨Nat.zero_le _, Nat.zero_le _⟩ rfl
theorem tbM_inState_4 {Φ : ev_P} {d : Nat} (hd : 0 ≤ d) {g : gH} (hg : HR g) {v0 v1 : Int} (hK0 : kd v0 = 7) (h1 : InR v1) {X4 : Int → Int → Option Int} (HX4 : ∀ (v2 : Int) (h2 : InR v2) (v3 : Int) (h3 : InR v3), Go Φ pr_P (fP g) 1 (X4 v2 v3) d pr_m131 4 [some (sR v0), some (sI v1), some (sI v2), some (sI v3)] [] g 0 0) : ∀ (v2 : Int) (h2 : InR v2) (v3 : Int) (h3 : InR v3), Go Φ pr_P (fP g) 1 (bM_inState_4 g v0 v1 X4 v2 v3) d pr_m131 4 [some (sR v0), some (sI v1), some (sI v2), some (sI v3)] [] g 0 0 := by
  intro v2 h2 v3 h3
  unfold bM_inState_4
  refine go_iload kk131_0.1.1.2.1.1 rfl ?_
  refine go_aload kk131_0.1.1.2.1.2 rfl ?_
  refine go_getR (bI := 0) kk131_0.1.1.2.2 hg hK0 (by decide) rfl rfl (fun r1 => ?_)
  refine go_int kk131_0.1.2.1.1.1 0 rfl ?_
  refine go_ck (fun q3 => ?_)
  refine go_iald kk131_0.1.2.1.1.2 hg q3 (fun r2 => ?_)
  refine go_cmlt kk131_0.1.2.1.2.1 h3 r2 (fun c4 => ?_) (fun c5 => ?_)
  · refine go_iload kk131_0.1.2.1.2.2 rfl ?_
    refine go_aload kk131_0.1.2.2.1.1 rfl ?_
    refine go_getR (bI := 0) kk131_0.1.2.2.1.2 hg hK0 (by decide) rfl rfl (fun r6 => ?_)
    refine go_int kk131_0.1.2.2.2 140 rfl ?_
    refine go_iload kk131_0.2.1.1.1.1 rfl ?_
    refine go_iadd kk131_0.2.1.1.1.2 ?_
    refine go_ck (fun q8 => ?_)
    refine go_iald kk131_0.2.1.1.2.1 hg q8 (fun r7 => ?_)
    refine go_iload kk131_0.2.1.1.2.2 rfl ?_
    refine go_cmeq kk131_0.2.1.2.1.1 r7 h1 (fun c9 => ?_) (fun c10 => ?_)
    · refine go_int kk131_0.2.1.2.1.2 1 rfl ?_
      refine go_goto kk131_0.2.1.2.2 ?_
      refine go_iadd kk131_0.2.2.1.1.2 ?_
      refine go_istore kk131_0.2.2.1.2.1 rfl (loc2 := [some (sR v0), some (sI v1), some (sI (w32 (v2 + 1))), some (sI v3)]) rfl ?_
      refine go_iinc kk131_0.2.2.1.2.2 rfl rfl 1 rfl (loc2 := [some (sR v0), some (sI v1), some (sI (w32 (v2 + 1))), some (sI (w32 (v3 + 1)))]) rfl ?_
      refine go_goto kk131_0.2.2.2.1.1 ?_
      exact HX4 (w32 (v2 + 1)) (inR_w32 _) (w32 (v3 + 1)) (inR_w32 _)
    · refine go_int kk131_0.2.2.1.1.1 0 rfl ?_
      refine go_iadd kk131_0.2.2.1.1.2 ?_
      refine go_istore kk131_0.2.2.1.2.1 rfl (loc2 := [some (sR v0), some (sI v1), some (sI (w32 (v2 + 0))), some (sI v3)]) rfl ?_
      refine go_iinc kk131_0.2.2.1.2.2 rfl rfl 1 rfl (loc2 := [some (sR v0), some (sI v1), some (sI (w32 (v2 + 0))), some (sI (w32 (v3 + 1)))]) rfl ?_
      refine go_goto kk131_0.2.2.2.1.1 ?_
      exact HX4 (w32 (v2 + 0)) (inR_w32 _) (w32 (v3 + 1)) (inR_w32 _)
  · refine go_iload kk131_0.2.2.2.1.2 rfl ?_
    exact go_iret kk131_0.2.2.2.2 hg h2 ⟨Nat.zero_le _, Nat.zero_le _⟩ rfl
theorem tlM_inState_4 {Φ : ev_P} {d : Nat} (hd : 0 ≤ d) {g : gH} (hg : HR g) {v0 v1 : Int} (hK0 : kd v0 = 7) (h1 : InR v1) : ∀ n : Nat, ∀ (v2 : Int) (h2 : InR v2) (v3 : Int) (h3 : InR v3), Go Φ pr_P (fP g) 1 (lM_inState_4 g v0 v1 n v2 v3) d pr_m131 4 [some (sR v0), some (sI v1), some (sI v2), some (sI v3)] [] g 0 0 := by
  intro n
  induction n with
  | zero => intros; exact go_none
  | succ n ih => exact tbM_inState_4 hd hg hK0 h1 ih
theorem tfM_inState {Φ : ev_P} {d : Nat} (hd : 0 ≤ d) {g : gH} (hg : HR g) {v0 v1 : Int} (hK0 : kd v0 = 7) (h1 : InR v1) : Go Φ pr_P (fP g) 1 (fM_inState g v0 v1) d (pr_P 131) 0 (ev_loc (pr_P 131).1 [(sR v0), (sI v1)]) [] g 0 0 := by
  show Go Φ pr_P (fP g) 1 (fM_inState g v0 v1) d pr_m131 0 [some (sR v0), some (sI v1), none, none] [] g 0 0
  unfold fM_inState
  refine go_int kk131_0.1.1.1.1.1 0 rfl ?_
  refine go_istore kk131_0.1.1.1.1.2 rfl (loc2 := [some (sR v0), some (sI v1), some (sI 0), none]) rfl ?_
  refine go_int kk131_0.1.1.1.2.1 0 rfl ?_
  refine go_istore kk131_0.1.1.1.2.2 rfl (loc2 := [some (sR v0), some (sI v1), some (sI 0), some (sI 0)]) rfl ?_
  exact tlM_inState_4 hd hg hK0 h1 fu 0 (inR_b (Or.inl rfl)) 0 (inR_b (Or.inl rfl))
theorem tbM_dutiesOf_4 {Φ : ev_P} {d : Nat} (hd : 0 ≤ d) {g : gH} (hg : HR g) {v0 v1 : Int} (hK0 : kd v0 = 7) (h1 : InR v1) {X4 : Int → Int → Option Int} (HX4 : ∀ (v2 : Int) (h2 : InR v2) (v3 : Int) (h3 : InR v3), Go Φ pr_P (fP g) 1 (X4 v2 v3) d pr_m132 4 [some (sR v0), some (sI v1), some (sI v2), some (sI v3)] [] g 0 0) : ∀ (v2 : Int) (h2 : InR v2) (v3 : Int) (h3 : InR v3), Go Φ pr_P (fP g) 1 (bM_dutiesOf_4 g v0 v1 X4 v2 v3) d pr_m132 4 [some (sR v0), some (sI v1), some (sI v2), some (sI v3)] [] g 0 0 := by
  intro v2 h2 v3 h3
  unfold bM_dutiesOf_4
  refine go_iload kk132_0.1.1.2.1.1 rfl ?_
  refine go_int kk132_0.1.1.2.1.2 8 rfl ?_
  refine go_cmlt kk132_0.1.1.2.2 h3 (inR_of (by decide)) (fun c1 => ?_) (fun c2 => ?_)
  · refine go_iload kk132_0.1.2.1.1.1 rfl ?_
    refine go_aload kk132_0.1.2.1.1.2 rfl ?_
    refine go_getR (bI := 0) kk132_0.1.2.1.2.1 hg hK0 (by decide) rfl rfl (fun r3 => ?_)
    refine go_int kk132_0.1.2.1.2.2 11 rfl ?_
    refine go_iload kk132_0.1.2.2.1.1 rfl ?_
    refine go_iadd kk132_0.1.2.2.1.2 ?_
    refine go_ck (fun q5 => ?_)
    refine go_iald kk132_0.1.2.2.2 hg q5 (fun r4 => ?_)
    refine go_iload kk132_0.2.1.1.1.1 rfl ?_
    refine go_cmeq kk132_0.2.1.1.1.2 r4 h1 (fun c6 => ?_) (fun c7 => ?_)
    · refine go_int kk132_0.2.1.1.2.1 1 rfl ?_
      refine go_iload kk132_0.2.1.1.2.2 rfl ?_
      refine go_ibin kk132_0.2.1.2.1.1 ?_
      refine go_goto kk132_0.2.1.2.1.2 ?_
      refine go_ibin kk132_0.2.2.1.1.1 ?_
      refine go_istore kk132_0.2.2.1.1.2 rfl (loc2 := [some (sR v0), some (sI v1), some (sI (opI 2 v2 (opI 4 1 v3))), some (sI v3)]) rfl ?_
      refine go_iinc kk132_0.2.2.1.2 rfl rfl 1 rfl (loc2 := [some (sR v0), some (sI v1), some (sI (opI 2 v2 (opI 4 1 v3))), some (sI (w32 (v3 + 1)))]) rfl ?_
      refine go_goto kk132_0.2.2.2.1.1 ?_
      exact HX4 (opI 2 v2 (opI 4 1 v3)) (inR_opI _ _ _) (w32 (v3 + 1)) (inR_w32 _)
    · refine go_int kk132_0.2.1.2.2 0 rfl ?_
      refine go_ibin kk132_0.2.2.1.1.1 ?_
      refine go_istore kk132_0.2.2.1.1.2 rfl (loc2 := [some (sR v0), some (sI v1), some (sI (opI 2 v2 0)), some (sI v3)]) rfl ?_
      refine go_iinc kk132_0.2.2.1.2 rfl rfl 1 rfl (loc2 := [some (sR v0), some (sI v1), some (sI (opI 2 v2 0)), some (sI (w32 (v3 + 1)))]) rfl ?_
      refine go_goto kk132_0.2.2.2.1.1 ?_
      exact HX4 (opI 2 v2 0) (inR_opI _ _ _) (w32 (v3 + 1)) (inR_w32 _)
  · refine go_iload kk132_0.2.2.2.1.2 rfl ?_
    exact go_iret kk132_0.2.2.2.2 hg h2 ⟨Nat.zero_le _, Nat.zero_le _⟩ rfl
theorem tlM_dutiesOf_4 {Φ : ev_P} {d : Nat} (hd : 0 ≤ d) {g : gH} (hg : HR g) {v0 v1 : Int} (hK0 : kd v0 = 7) (h1 : InR v1) : ∀ n : Nat, ∀ (v2 : Int) (h2 : InR v2) (v3 : Int) (h3 : InR v3), Go Φ pr_P (fP g) 1 (lM_dutiesOf_4 g v0 v1 n v2 v3) d pr_m132 4 [some (sR v0), some (sI v1), some (sI v2), some (sI v3)] [] g 0 0 := by
  intro n
  induction n with
  | zero => intros; exact go_none
  | succ n ih => exact tbM_dutiesOf_4 hd hg hK0 h1 ih
theorem tfM_dutiesOf {Φ : ev_P} {d : Nat} (hd : 0 ≤ d) {g : gH} (hg : HR g) {v0 v1 : Int} (hK0 : kd v0 = 7) (h1 : InR v1) : Go Φ pr_P (fP g) 1 (fM_dutiesOf g v0 v1) d (pr_P 132) 0 (ev_loc (pr_P 132).1 [(sR v0), (sI v1)]) [] g 0 0 := by
  show Go Φ pr_P (fP g) 1 (fM_dutiesOf g v0 v1) d pr_m132 0 [some (sR v0), some (sI v1), none, none] [] g 0 0
  unfold fM_dutiesOf
  refine go_int kk132_0.1.1.1.1.1 0 rfl ?_
  refine go_istore kk132_0.1.1.1.1.2 rfl (loc2 := [some (sR v0), some (sI v1), some (sI 0), none]) rfl ?_
  refine go_int kk132_0.1.1.1.2.1 0 rfl ?_
  refine go_istore kk132_0.1.1.1.2.2 rfl (loc2 := [some (sR v0), some (sI v1), some (sI 0), some (sI 0)]) rfl ?_
  exact tlM_dutiesOf_4 hd hg hK0 h1 fu 0 (inR_b (Or.inl rfl)) 0 (inR_b (Or.inl rfl))
theorem tfJ_bitCount {Φ : ev_P} {d : Nat} (hd : 0 ≤ d) {g : gH} (hg : HR g) {v0 : Int} (h0 : InR v0) : Go Φ pr_P (fP g) 1 (fJ_bitCount g v0) d (pr_P 353) 0 (ev_loc (pr_P 353).1 [(sI v0)]) [] g 0 0 := by
  show Go Φ pr_P (fP g) 1 (fJ_bitCount g v0) d pr_m353 0 [some (sI v0)] [] g 0 0
  unfold fJ_bitCount
  refine go_iload kk353_0.1.1.1.1.1.1 rfl ?_
  refine go_iload kk353_0.1.1.1.1.1.2 rfl ?_
  refine go_int kk353_0.1.1.1.1.2 1 rfl ?_
  refine go_ibin kk353_0.1.1.1.2.1.1 ?_
  refine go_int kk353_0.1.1.1.2.1.2 1431655765 rfl ?_
  refine go_ibin kk353_0.1.1.1.2.2 ?_
  refine go_isub kk353_0.1.1.2.1.1.1 ?_
  refine go_istore kk353_0.1.1.2.1.1.2 rfl (loc2 := [some (sI (w32 (v0 - (opI 1 (opI 6 v0 1) 1431655765))))]) rfl ?_
  refine go_iload kk353_0.1.1.2.1.2 rfl ?_
  refine go_int kk353_0.1.1.2.2.1 858993459 rfl ?_
  refine go_ibin kk353_0.1.1.2.2.2 ?_
  refine go_iload kk353_0.1.2.1.1.1.1 rfl ?_
  refine go_int kk353_0.1.2.1.1.1.2 2 rfl ?_
  refine go_ibin kk353_0.1.2.1.1.2 ?_
  refine go_int kk353_0.1.2.1.2.1 858993459 rfl ?_
  refine go_ibin kk353_0.1.2.1.2.2 ?_
  refine go_iadd kk353_0.1.2.2.1.1.1 ?_
  refine go_istore kk353_0.1.2.2.1.1.2 rfl (loc2 := [some (sI (w32 ((opI 1 (w32 (v0 - (opI 1 (opI 6 v0 1) 1431655765))) 858993459) + (opI 1 (opI 6 (w32 (v0 - (opI 1 (opI 6 v0 1) 1431655765))) 2) 858993459))))]) rfl ?_
  refine go_iload kk353_0.1.2.2.1.2 rfl ?_
  refine go_iload kk353_0.1.2.2.2.1 rfl ?_
  refine go_int kk353_0.1.2.2.2.2 4 rfl ?_
  refine go_ibin kk353_0.2.1.1.1.1.1 ?_
  refine go_iadd kk353_0.2.1.1.1.1.2 ?_
  refine go_int kk353_0.2.1.1.1.2 252645135 rfl ?_
  refine go_ibin kk353_0.2.1.1.2.1.1 ?_
  refine go_istore kk353_0.2.1.1.2.1.2 rfl (loc2 := [some (sI (opI 1 (w32 ((w32 ((opI 1 (w32 (v0 - (opI 1 (opI 6 v0 1) 1431655765))) 858993459) + (opI 1 (opI 6 (w32 (v0 - (opI 1 (opI 6 v0 1) 1431655765))) 2) 858993459))) + (opI 6 (w32 ((opI 1 (w32 (v0 - (opI 1 (opI 6 v0 1) 1431655765))) 858993459) + (opI 1 (opI 6 (w32 (v0 - (opI 1 (opI 6 v0 1) 1431655765))) 2) 858993459))) 4))) 252645135))]) rfl ?_
  refine go_iload kk353_0.2.1.1.2.2 rfl ?_
  refine go_iload kk353_0.2.1.2.1.1.1 rfl ?_
  refine go_int kk353_0.2.1.2.1.1.2 8 rfl ?_
  refine go_ibin kk353_0.2.1.2.1.2 ?_
  refine go_iadd kk353_0.2.1.2.2.1 ?_
  refine go_istore kk353_0.2.1.2.2.2 rfl (loc2 := [some (sI (w32 ((opI 1 (w32 ((w32 ((opI 1 (w32 (v0 - (opI 1 (opI 6 v0 1) 1431655765))) 858993459) + (opI 1 (opI 6 (w32 (v0 - (opI 1 (opI 6 v0 1) 1431655765))) 2) 858993459))) + (opI 6 (w32 ((opI 1 (w32 (v0 - (opI 1 (opI 6 v0 1) 1431655765))) 858993459) + (opI 1 (opI 6 (w32 (v0 - (opI 1 (opI 6 v0 1) 1431655765))) 2) 858993459))) 4))) 252645135) + (opI 6 (opI 1 (w32 ((w32 ((opI 1 (w32 (v0 - (opI 1 (opI 6 v0 1) 1431655765))) 858993459) + (opI 1 (opI 6 (w32 (v0 - (opI 1 (opI 6 v0 1) 1431655765))) 2) 858993459))) + (opI 6 (w32 ((opI 1 (w32 (v0 - (opI 1 (opI 6 v0 1) 1431655765))) 858993459) + (opI 1 (opI 6 (w32 (v0 - (opI 1 (opI 6 v0 1) 1431655765))) 2) 858993459))) 4))) 252645135) 8))))]) rfl ?_
  refine go_iload kk353_0.2.2.1.1.1.1 rfl ?_
  refine go_iload kk353_0.2.2.1.1.1.2 rfl ?_
  refine go_int kk353_0.2.2.1.1.2 16 rfl ?_
  refine go_ibin kk353_0.2.2.1.2.1 ?_
  refine go_iadd kk353_0.2.2.1.2.2 ?_
  refine go_istore kk353_0.2.2.2.1.1.1 rfl (loc2 := [some (sI (w32 ((w32 ((opI 1 (w32 ((w32 ((opI 1 (w32 (v0 - (opI 1 (opI 6 v0 1) 1431655765))) 858993459) + (opI 1 (opI 6 (w32 (v0 - (opI 1 (opI 6 v0 1) 1431655765))) 2) 858993459))) + (opI 6 (w32 ((opI 1 (w32 (v0 - (opI 1 (opI 6 v0 1) 1431655765))) 858993459) + (opI 1 (opI 6 (w32 (v0 - (opI 1 (opI 6 v0 1) 1431655765))) 2) 858993459))) 4))) 252645135) + (opI 6 (opI 1 (w32 ((w32 ((opI 1 (w32 (v0 - (opI 1 (opI 6 v0 1) 1431655765))) 858993459) + (opI 1 (opI 6 (w32 (v0 - (opI 1 (opI 6 v0 1) 1431655765))) 2) 858993459))) + (opI 6 (w32 ((opI 1 (w32 (v0 - (opI 1 (opI 6 v0 1) 1431655765))) 858993459) + (opI 1 (opI 6 (w32 (v0 - (opI 1 (opI 6 v0 1) 1431655765))) 2) 858993459))) 4))) 252645135) 8))) + (opI 6 (w32 ((opI 1 (w32 ((w32 ((opI 1 (w32 (v0 - (opI 1 (opI 6 v0 1) 1431655765))) 858993459) + (opI 1 (opI 6 (w32 (v0 - (opI 1 (opI 6 v0 1) 1431655765))) 2) 858993459))) + (opI 6 (w32 ((opI 1 (w32 (v0 - (opI 1 (opI 6 v0 1) 1431655765))) 858993459) + (opI 1 (opI 6 (w32 (v0 - (opI 1 (opI 6 v0 1) 1431655765))) 2) 858993459))) 4))) 252645135) + (opI 6 (opI 1 (w32 ((w32 ((opI 1 (w32 (v0 - (opI 1 (opI 6 v0 1) 1431655765))) 858993459) + (opI 1 (opI 6 (w32 (v0 - (opI 1 (opI 6 v0 1) 1431655765))) 2) 858993459))) + (opI 6 (w32 ((opI 1 (w32 (v0 - (opI 1 (opI 6 v0 1) 1431655765))) 858993459) + (opI 1 (opI 6 (w32 (v0 - (opI 1 (opI 6 v0 1) 1431655765))) 2) 858993459))) 4))) 252645135) 8))) 16))))]) rfl ?_
  refine go_iload kk353_0.2.2.2.1.1.2 rfl ?_
  refine go_int kk353_0.2.2.2.1.2 63 rfl ?_
  refine go_ibin kk353_0.2.2.2.2.1 ?_
  exact go_iret kk353_0.2.2.2.2.2 hg (inR_opI _ _ _) ⟨Nat.zero_le _, Nat.zero_le _⟩ rfl
theorem tjM_count_21 {Φ : ev_P} {d : Nat} (hd : 1 ≤ d) {g : gH} (hg : HR g) {v0 v1 : Int} (hK0 : kd v0 = 7) (h1 : InR v1) {s0 s1 : Int} (z0 : RfR s0) (z1 : B01 s1) : Go Φ pr_P fN 1 (jM_count_21 g v0 v1 s0 s1 ) d pr_m134 21 [some (sR v0), some (sI v1)] [(sI s1), (sR s0)] g 0 0 := by
  unfold jM_count_21
  refine go_int kk134_0.1.1.2.2.2 1 rfl ?_
  refine go_ck (fun q9 => ?_)
  refine go_callN3 kk134_0.1.2.1.1.1.1 rfl rfl rfl ⟨by decide, _, rfl, q9⟩ ⟨Nat.zero_le _, Nat.zero_le _⟩ (by omega) (tfM_fails (by omega) hg q9  z1 (inR_b (Or.inr rfl))) (fun y10 g12 r11 e13 => ?_)
  refine go_ifeq kk134_0.1.2.1.1.1.2 (inR_b r11) (fun c14 => ?_) (fun c15 => ?_)
  · refine go_iload kk134_0.1.2.1.2.1.1 rfl ?_
    refine go_ite (fun c16 => ?_) (fun c17 => ?_)
    · refine go_swh (lo := 0) (hi := 10) (i := 0) kk134_0.1.2.1.2.1.2 rfl rfl (by omega) (by omega) rfl ?_
      refine go_aload kk134_0.1.2.1.2.2 rfl ?_
      refine go_getR (bI := 0) kk134_0.1.2.2.1.1.1 e13 hK0 (by decide) rfl rfl (fun r18 => ?_)
      refine go_int kk134_0.1.2.2.1.1.2 0 rfl ?_
      refine go_ck (fun q20 => ?_)
      refine go_iald kk134_0.1.2.2.1.2 e13 q20 (fun r19 => ?_)
      exact go_iret kk134_0.1.2.2.2.1.1 e13 r19 ⟨Nat.zero_le _, Nat.zero_le _⟩ rfl
    refine go_ite (fun c21 => ?_) (fun c22 => ?_)
    · refine go_swh (lo := 0) (hi := 10) (i := 1) kk134_0.1.2.1.2.1.2 rfl rfl (by omega) (by omega) rfl ?_
      refine go_aload kk134_0.1.2.2.2.1.2 rfl ?_
      refine go_iload kk134_0.1.2.2.2.2 rfl ?_
      refine go_int kk134_0.2.1.1.1.1.1 1 rfl ?_
      refine go_isub kk134_0.2.1.1.1.1.2 ?_
      refine go_callP1 kk134_0.2.1.1.1.2.1 rfl rfl rfl ⟨by decide, _, rfl, hK0⟩ ⟨Nat.zero_le _, Nat.zero_le _⟩ (by omega) (tfM_inState (by omega) e13 hK0  (inR_w32 _)) (fun y23 r24 => ?_)
      exact go_iret kk134_0.2.1.1.1.2.2 e13 r24 ⟨Nat.zero_le _, Nat.zero_le _⟩ rfl
    refine go_ite (fun c27 => ?_) (fun c28 => ?_)
    · refine go_swh (lo := 0) (hi := 10) (i := 2) kk134_0.1.2.1.2.1.2 rfl rfl (by omega) (by omega) rfl ?_
      refine go_aload kk134_0.1.2.2.2.1.2 rfl ?_
      refine go_iload kk134_0.1.2.2.2.2 rfl ?_
      refine go_int kk134_0.2.1.1.1.1.1 1 rfl ?_
      refine go_isub kk134_0.2.1.1.1.1.2 ?_
      refine go_callP1 kk134_0.2.1.1.1.2.1 rfl rfl rfl ⟨by decide, _, rfl, hK0⟩ ⟨Nat.zero_le _, Nat.zero_le _⟩ (by omega) (tfM_inState (by omega) e13 hK0  (inR_w32 _)) (fun y29 r30 => ?_)
      exact go_iret kk134_0.2.1.1.1.2.2 e13 r30 ⟨Nat.zero_le _, Nat.zero_le _⟩ rfl
    refine go_ite (fun c33 => ?_) (fun c34 => ?_)
    · refine go_swh (lo := 0) (hi := 10) (i := 3) kk134_0.1.2.1.2.1.2 rfl rfl (by omega) (by omega) rfl ?_
      refine go_aload kk134_0.1.2.2.2.1.2 rfl ?_
      refine go_iload kk134_0.1.2.2.2.2 rfl ?_
      refine go_int kk134_0.2.1.1.1.1.1 1 rfl ?_
      refine go_isub kk134_0.2.1.1.1.1.2 ?_
      refine go_callP1 kk134_0.2.1.1.1.2.1 rfl rfl rfl ⟨by decide, _, rfl, hK0⟩ ⟨Nat.zero_le _, Nat.zero_le _⟩ (by omega) (tfM_inState (by omega) e13 hK0  (inR_w32 _)) (fun y35 r36 => ?_)
      exact go_iret kk134_0.2.1.1.1.2.2 e13 r36 ⟨Nat.zero_le _, Nat.zero_le _⟩ rfl
    refine go_ite (fun c39 => ?_) (fun c40 => ?_)
    · refine go_swh (lo := 0) (hi := 10) (i := 4) kk134_0.1.2.1.2.1.2 rfl rfl (by omega) (by omega) rfl ?_
      refine go_aload kk134_0.2.2.1.2.1.1 rfl ?_
      refine go_getR (bI := 0) kk134_0.2.2.1.2.1.2 e13 hK0 (by decide) rfl rfl (fun r41 => ?_)
      refine go_int kk134_0.2.2.1.2.2 1 rfl ?_
      refine go_iload kk134_0.2.2.2.1.1.1 rfl ?_
      refine go_iadd kk134_0.2.2.2.1.1.2 ?_
      refine go_int kk134_0.2.2.2.1.2 4 rfl ?_
      refine go_isub kk134_0.2.2.2.2.1.1 ?_
      refine go_ck (fun q43 => ?_)
      refine go_iald kk134_0.2.2.2.2.1.2 e13 q43 (fun r42 => ?_)
      exact go_iret kk134_0.2.2.2.2.2 e13 r42 ⟨Nat.zero_le _, Nat.zero_le _⟩ rfl
    refine go_ite (fun c44 => ?_) (fun c45 => ?_)
    · refine go_swh (lo := 0) (hi := 10) (i := 5) kk134_0.1.2.1.2.1.2 rfl rfl (by omega) (by omega) rfl ?_
      refine go_aload kk134_0.2.2.1.2.1.1 rfl ?_
      refine go_getR (bI := 0) kk134_0.2.2.1.2.1.2 e13 hK0 (by decide) rfl rfl (fun r46 => ?_)
      refine go_int kk134_0.2.2.1.2.2 1 rfl ?_
      refine go_iload kk134_0.2.2.2.1.1.1 rfl ?_
      refine go_iadd kk134_0.2.2.2.1.1.2 ?_
      refine go_int kk134_0.2.2.2.1.2 4 rfl ?_
      refine go_isub kk134_0.2.2.2.2.1.1 ?_
      refine go_ck (fun q48 => ?_)
      refine go_iald kk134_0.2.2.2.2.1.2 e13 q48 (fun r47 => ?_)
      exact go_iret kk134_0.2.2.2.2.2 e13 r47 ⟨Nat.zero_le _, Nat.zero_le _⟩ rfl
    refine go_ite (fun c49 => ?_) (fun c50 => ?_)
    · refine go_swh (lo := 0) (hi := 10) (i := 6) kk134_0.1.2.1.2.1.2 rfl rfl (by omega) (by omega) rfl ?_
      refine go_aload kk134_0.2.2.1.2.1.1 rfl ?_
      refine go_getR (bI := 0) kk134_0.2.2.1.2.1.2 e13 hK0 (by decide) rfl rfl (fun r51 => ?_)
      refine go_int kk134_0.2.2.1.2.2 1 rfl ?_
      refine go_iload kk134_0.2.2.2.1.1.1 rfl ?_
      refine go_iadd kk134_0.2.2.2.1.1.2 ?_
      refine go_int kk134_0.2.2.2.1.2 4 rfl ?_
      refine go_isub kk134_0.2.2.2.2.1.1 ?_
      refine go_ck (fun q53 => ?_)
      refine go_iald kk134_0.2.2.2.2.1.2 e13 q53 (fun r52 => ?_)
      exact go_iret kk134_0.2.2.2.2.2 e13 r52 ⟨Nat.zero_le _, Nat.zero_le _⟩ rfl
    refine go_ite (fun c54 => ?_) (fun c55 => ?_)
    · refine go_swh (lo := 0) (hi := 10) (i := 7) kk134_0.1.2.1.2.1.2 rfl rfl (by omega) (by omega) rfl ?_
      refine go_aload kk134_0.2.2.1.2.1.1 rfl ?_
      refine go_getR (bI := 0) kk134_0.2.2.1.2.1.2 e13 hK0 (by decide) rfl rfl (fun r56 => ?_)
      refine go_int kk134_0.2.2.1.2.2 1 rfl ?_
      refine go_iload kk134_0.2.2.2.1.1.1 rfl ?_
      refine go_iadd kk134_0.2.2.2.1.1.2 ?_
      refine go_int kk134_0.2.2.2.1.2 4 rfl ?_
      refine go_isub kk134_0.2.2.2.2.1.1 ?_
      refine go_ck (fun q58 => ?_)
      refine go_iald kk134_0.2.2.2.2.1.2 e13 q58 (fun r57 => ?_)
      exact go_iret kk134_0.2.2.2.2.2 e13 r57 ⟨Nat.zero_le _, Nat.zero_le _⟩ rfl
    refine go_ite (fun c59 => ?_) (fun c60 => ?_)
    · refine go_swh (lo := 0) (hi := 10) (i := 8) kk134_0.1.2.1.2.1.2 rfl rfl (by omega) (by omega) rfl ?_
      refine go_aload kk134_0.2.1.1.2.1.1 rfl ?_
      refine go_int kk134_0.2.1.1.2.1.2 0 rfl ?_
      refine go_callP1 kk134_0.2.1.1.2.2 rfl rfl rfl ⟨by decide, _, rfl, hK0⟩ ⟨Nat.zero_le _, Nat.zero_le _⟩ (by omega) (tfM_dutiesOf (by omega) e13 hK0  (inR_b (Or.inl rfl))) (fun y61 r62 => ?_)
      refine go_callP1 kk134_0.2.1.2.1.1.1 rfl rfl rfl trivial ⟨Nat.zero_le _, Nat.zero_le _⟩ (by omega) (tfJ_bitCount (by omega) e13  r62) (fun y65 r66 => ?_)
      exact go_iret kk134_0.2.1.2.1.1.2 e13 r66 ⟨Nat.zero_le _, Nat.zero_le _⟩ rfl
    refine go_ite (fun c69 => ?_) (fun c70 => ?_)
    · refine go_swh (lo := 0) (hi := 10) (i := 9) kk134_0.1.2.1.2.1.2 rfl rfl (by omega) (by omega) rfl ?_
      refine go_aload kk134_0.2.1.2.1.2 rfl ?_
      refine go_getI (bI := 6) kk134_0.2.1.2.2.1.1 e13 hK0 (by decide) rfl rfl (fun r71 => ?_)
      exact go_iret kk134_0.2.1.2.2.1.2 e13 r71 ⟨Nat.zero_le _, Nat.zero_le _⟩ rfl
    refine go_ite (fun c72 => ?_) (fun c73 => ?_)
    · refine go_swh (lo := 0) (hi := 10) (i := 10) kk134_0.1.2.1.2.1.2 rfl rfl (by omega) (by omega) rfl ?_
      refine go_aload kk134_0.2.1.2.2.2 rfl ?_
      refine go_getR (bI := 0) kk134_0.2.2.1.1.1.1 e13 hK0 (by decide) rfl rfl (fun r74 => ?_)
      refine go_int kk134_0.2.2.1.1.1.2 59 rfl ?_
      refine go_ck (fun q76 => ?_)
      refine go_iald kk134_0.2.2.1.1.2.1 e13 q76 (fun r75 => ?_)
      exact go_iret kk134_0.2.2.1.1.2.2 e13 r75 ⟨Nat.zero_le _, Nat.zero_le _⟩ rfl
    refine go_swd (lo := 0) (hi := 10) kk134_0.1.2.1.2.1.2 rfl rfl h1 (by omega) (by omega) ?_
    refine go_aload kk134_0.2.2.1.2.1.1 rfl ?_
    refine go_getR (bI := 0) kk134_0.2.2.1.2.1.2 e13 hK0 (by decide) rfl rfl (fun r77 => ?_)
    refine go_int kk134_0.2.2.1.2.2 1 rfl ?_
    refine go_iload kk134_0.2.2.2.1.1.1 rfl ?_
    refine go_iadd kk134_0.2.2.2.1.1.2 ?_
    refine go_int kk134_0.2.2.2.1.2 4 rfl ?_
    refine go_isub kk134_0.2.2.2.2.1.1 ?_
    refine go_ck (fun q79 => ?_)
    refine go_iald kk134_0.2.2.2.2.1.2 e13 q79 (fun r78 => ?_)
    exact go_iret kk134_0.2.2.2.2.2 e13 r78 ⟨Nat.zero_le _, Nat.zero_le _⟩ rfl
  · refine go_int kk134_0.1.2.1.1.2.1 0 rfl ?_
    exact go_iret kk134_0.1.2.1.1.2.2 e13 (inR_b (Or.inl rfl)) ⟨Nat.zero_le _, Nat.zero_le _⟩ rfl
theorem tfM_count {Φ : ev_P} {d : Nat} (hd : 1 ≤ d) {g : gH} (hg : HR g) {v0 v1 : Int} (hK0 : kd v0 = 7) (h1 : InR v1) : Go Φ pr_P fN 1 (fM_count g v0 v1) d (pr_P 134) 0 (ev_loc (pr_P 134).1 [(sR v0), (sI v1)]) [] g 0 0 := by
  show Go Φ pr_P fN 1 (fM_count g v0 v1) d pr_m134 0 [some (sR v0), some (sI v1)] [] g 0 0
  unfold fM_count
  refine go_aload kk134_0.1.1.1.1.1.1 rfl ?_
  refine go_int kk134_0.1.1.1.1.1.2 0 rfl ?_
  refine go_putI (bI := 8) kk134_0.1.1.1.1.2.1 hg hK0 (by decide) rfl rfl (inR_b (Or.inl rfl)) (fun g1 e2 => ?_)
  refine go_aload kk134_0.1.1.1.1.2.2 rfl ?_
  refine go_iload kk134_0.1.1.1.2.1.1 rfl ?_
  refine go_int kk134_0.1.1.1.2.1.2 0 rfl ?_
  refine go_int kk134_0.1.1.1.2.2 10 rfl ?_
  refine go_callP3 kk134_0.1.1.2.1.1.1 rfl rfl rfl trivial ⟨Nat.zero_le _, Nat.zero_le _⟩ (by omega) (tfM_inRange (by omega) e2  h1 (inR_b (Or.inl rfl)) (inR_of (by decide))) (fun y3 r4 => ?_)
  refine go_ifeq kk134_0.1.1.2.1.1.2 (inR_b r4) (fun c7 => ?_) (fun c8 => ?_)
  · refine go_int kk134_0.1.1.2.1.2 1 rfl ?_
    refine go_goto kk134_0.1.1.2.2.1.1 ?_
    exact tjM_count_21 hd e2 hK0 h1 (rfR_kd hK0 (by decide)) (Or.inr rfl)
  · refine go_int kk134_0.1.1.2.2.1.2 0 rfl ?_
    exact tjM_count_21 hd e2 hK0 h1 (rfR_kd hK0 (by decide)) (Or.inl rfl)
theorem tbM_willsOf_4 {Φ : ev_P} {d : Nat} (hd : 0 ≤ d) {g : gH} (hg : HR g) {v0 v1 : Int} (hK0 : kd v0 = 7) (h1 : InR v1) {X4 : Int → Int → Option Int} (HX4 : ∀ (v2 : Int) (h2 : InR v2) (v3 : Int) (h3 : InR v3), Go Φ pr_P (fP g) 1 (X4 v2 v3) d pr_m133 4 [some (sR v0), some (sI v1), some (sI v2), some (sI v3)] [] g 0 0) : ∀ (v2 : Int) (h2 : InR v2) (v3 : Int) (h3 : InR v3), Go Φ pr_P (fP g) 1 (bM_willsOf_4 g v0 v1 X4 v2 v3) d pr_m133 4 [some (sR v0), some (sI v1), some (sI v2), some (sI v3)] [] g 0 0 := by
  intro v2 h2 v3 h3
  unfold bM_willsOf_4
  refine go_iload kk133_0.1.1.2.1.1 rfl ?_
  refine go_int kk133_0.1.1.2.1.2 8 rfl ?_
  refine go_cmlt kk133_0.1.1.2.2.1 h3 (inR_of (by decide)) (fun c1 => ?_) (fun c2 => ?_)
  · refine go_iload kk133_0.1.1.2.2.2 rfl ?_
    refine go_aload kk133_0.1.2.1.1.1 rfl ?_
    refine go_getR (bI := 0) kk133_0.1.2.1.1.2 hg hK0 (by decide) rfl rfl (fun r3 => ?_)
    refine go_int kk133_0.1.2.1.2.1 460 rfl ?_
    refine go_int kk133_0.1.2.1.2.2 8 rfl ?_
    refine go_iload kk133_0.1.2.2.1.1 rfl ?_
    refine go_ibin kk133_0.1.2.2.1.2 ?_
    refine go_iadd kk133_0.1.2.2.2.1 ?_
    refine go_iload kk133_0.1.2.2.2.2 rfl ?_
    refine go_iadd kk133_0.2.1.1.1.1 ?_
    refine go_ck (fun q5 => ?_)
    refine go_iald kk133_0.2.1.1.1.2 hg q5 (fun r4 => ?_)
    refine go_int kk133_0.2.1.1.2.1 (-1) rfl ?_
    refine go_cmeq kk133_0.2.1.1.2.2 r4 (inR_of (by decide)) (fun c6 => ?_) (fun c7 => ?_)
    · refine go_int kk133_0.2.2.1.1.1 0 rfl ?_
      refine go_ibin kk133_0.2.2.1.1.2 ?_
      refine go_istore kk133_0.2.2.1.2.1 rfl (loc2 := [some (sR v0), some (sI v1), some (sI (opI 2 v2 0)), some (sI v3)]) rfl ?_
      refine go_iinc kk133_0.2.2.1.2.2 rfl rfl 1 rfl (loc2 := [some (sR v0), some (sI v1), some (sI (opI 2 v2 0)), some (sI (w32 (v3 + 1)))]) rfl ?_
      refine go_goto kk133_0.2.2.2.1.1 ?_
      exact HX4 (opI 2 v2 0) (inR_opI _ _ _) (w32 (v3 + 1)) (inR_w32 _)
    · refine go_int kk133_0.2.1.2.1.1 1 rfl ?_
      refine go_iload kk133_0.2.1.2.1.2 rfl ?_
      refine go_ibin kk133_0.2.1.2.2.1 ?_
      refine go_goto kk133_0.2.1.2.2.2 ?_
      refine go_ibin kk133_0.2.2.1.1.2 ?_
      refine go_istore kk133_0.2.2.1.2.1 rfl (loc2 := [some (sR v0), some (sI v1), some (sI (opI 2 v2 (opI 4 1 v3))), some (sI v3)]) rfl ?_
      refine go_iinc kk133_0.2.2.1.2.2 rfl rfl 1 rfl (loc2 := [some (sR v0), some (sI v1), some (sI (opI 2 v2 (opI 4 1 v3))), some (sI (w32 (v3 + 1)))]) rfl ?_
      refine go_goto kk133_0.2.2.2.1.1 ?_
      exact HX4 (opI 2 v2 (opI 4 1 v3)) (inR_opI _ _ _) (w32 (v3 + 1)) (inR_w32 _)
  · refine go_iload kk133_0.2.2.2.1.2 rfl ?_
    exact go_iret kk133_0.2.2.2.2 hg h2 ⟨Nat.zero_le _, Nat.zero_le _⟩ rfl
theorem tlM_willsOf_4 {Φ : ev_P} {d : Nat} (hd : 0 ≤ d) {g : gH} (hg : HR g) {v0 v1 : Int} (hK0 : kd v0 = 7) (h1 : InR v1) : ∀ n : Nat, ∀ (v2 : Int) (h2 : InR v2) (v3 : Int) (h3 : InR v3), Go Φ pr_P (fP g) 1 (lM_willsOf_4 g v0 v1 n v2 v3) d pr_m133 4 [some (sR v0), some (sI v1), some (sI v2), some (sI v3)] [] g 0 0 := by
  intro n
  induction n with
  | zero => intros; exact go_none
  | succ n ih => exact tbM_willsOf_4 hd hg hK0 h1 ih
theorem tfM_willsOf {Φ : ev_P} {d : Nat} (hd : 0 ≤ d) {g : gH} (hg : HR g) {v0 v1 : Int} (hK0 : kd v0 = 7) (h1 : InR v1) : Go Φ pr_P (fP g) 1 (fM_willsOf g v0 v1) d (pr_P 133) 0 (ev_loc (pr_P 133).1 [(sR v0), (sI v1)]) [] g 0 0 := by
  show Go Φ pr_P (fP g) 1 (fM_willsOf g v0 v1) d pr_m133 0 [some (sR v0), some (sI v1), none, none] [] g 0 0
  unfold fM_willsOf
  refine go_int kk133_0.1.1.1.1.1 0 rfl ?_
  refine go_istore kk133_0.1.1.1.1.2 rfl (loc2 := [some (sR v0), some (sI v1), some (sI 0), none]) rfl ?_
  refine go_int kk133_0.1.1.1.2.1 0 rfl ?_
  refine go_istore kk133_0.1.1.1.2.2 rfl (loc2 := [some (sR v0), some (sI v1), some (sI 0), some (sI 0)]) rfl ?_
  exact tlM_willsOf_4 hd hg hK0 h1 fu 0 (inR_b (Or.inl rfl)) 0 (inR_b (Or.inl rfl))
theorem tfM_noProcess {Φ : ev_P} {d : Nat} (hd : 1 ≤ d) {g : gH} (hg : HR g) {v0 v1 : Int} (hK0 : kd v0 = 7) (h1 : InR v1) : Go Φ pr_P fN 3 (fM_noProcess g v0 v1) d (pr_P 135) 0 (ev_loc (pr_P 135).1 [(sR v0), (sI v1)]) [] g 0 0 := by
  show Go Φ pr_P fN 3 (fM_noProcess g v0 v1) d pr_m135 0 [some (sR v0), some (sI v1)] [] g 0 0
  unfold fM_noProcess
  refine go_aload kk135_0.1.1.1.1.1 rfl ?_
  refine go_int kk135_0.1.1.1.1.2 0 rfl ?_
  refine go_putI (bI := 8) kk135_0.1.1.1.2 hg hK0 (by decide) rfl rfl (inR_b (Or.inl rfl)) (fun g1 e2 => ?_)
  refine go_aload kk135_0.1.1.2.1 rfl ?_
  refine go_iload kk135_0.1.1.2.2 rfl ?_
  refine go_int kk135_0.1.2.1.1.1 0 rfl ?_
  refine go_aload kk135_0.1.2.1.1.2 rfl ?_
  refine go_getR (bI := 0) kk135_0.1.2.1.2 e2 hK0 (by decide) rfl rfl (fun r3 => ?_)
  refine go_int kk135_0.1.2.2.1 0 rfl ?_
  refine go_ck (fun q5 => ?_)
  refine go_iald kk135_0.1.2.2.2 e2 q5 (fun r4 => ?_)
  refine go_int kk135_0.2.1.1.1.1 1 rfl ?_
  refine go_isub kk135_0.2.1.1.1.2 ?_
  refine go_callP3 kk135_0.2.1.1.2 rfl rfl rfl trivial ⟨Nat.zero_le _, Nat.zero_le _⟩ (by omega) (tfM_inRange (by omega) e2  h1 (inR_b (Or.inl rfl)) (inR_w32 _)) (fun y6 r7 => ?_)
  refine go_ifeq kk135_0.2.1.2.1 (inR_b r7) (fun c10 => ?_) (fun c11 => ?_)
  · refine go_int kk135_0.2.1.2.2 1 rfl ?_
    refine go_goto kk135_0.2.2.1.1.1 ?_
    refine go_int kk135_0.2.2.1.2 1 rfl ?_
    refine go_callN3 kk135_0.2.2.2.1 rfl rfl rfl ⟨by decide, _, rfl, hK0⟩ ⟨Nat.zero_le _, Nat.zero_le _⟩ (by omega) (tfM_fails (by omega) e2 hK0  (Or.inr rfl) (inR_b (Or.inr rfl))) (fun y12 g14 r13 e15 => ?_)
    exact go_bret kk135_0.2.2.2.2 e15 r13 ⟨Nat.zero_le _, Nat.zero_le _⟩ rfl
  · refine go_int kk135_0.2.2.1.1.2 0 rfl ?_
    refine go_int kk135_0.2.2.1.2 1 rfl ?_
    refine go_callN3 kk135_0.2.2.2.1 rfl rfl rfl ⟨by decide, _, rfl, hK0⟩ ⟨Nat.zero_le _, Nat.zero_le _⟩ (by omega) (tfM_fails (by omega) e2 hK0  (Or.inl rfl) (inR_b (Or.inr rfl))) (fun y16 g18 r17 e19 => ?_)
    exact go_bret kk135_0.2.2.2.2 e19 r17 ⟨Nat.zero_le _, Nat.zero_le _⟩ rfl
theorem tjM_process_24 {Φ : ev_P} {d : Nat} (hd : 3 ≤ d) {g : gH} (hg : HR g) {v0 v1 v2 : Int} (hK0 : kd v0 = 7) (h1 : InR v1) (h2 : InR v2) {s0 s1 : Int} (z0 : RfR s0) (z1 : B01 s1) : Go Φ pr_P fN 1 (jM_process_24 g v0 v1 v2 s0 s1 ) d pr_m138 24 [some (sR v0), some (sI v1), some (sI v2)] [(sI s1), (sR s0)] g 0 0 := by
  unfold jM_process_24
  refine go_int kk138_0.1.1.2.2.2 2 rfl ?_
  refine go_ck (fun q13 => ?_)
  refine go_callN3 kk138_0.1.2.1.1.1.1 rfl rfl rfl ⟨by decide, _, rfl, q13⟩ ⟨Nat.zero_le _, Nat.zero_le _⟩ (by omega) (tfM_fails (by omega) hg q13  z1 (inR_of (by decide))) (fun y14 g16 r15 e17 => ?_)
  refine go_ifeq kk138_0.1.2.1.1.1.2 (inR_b r15) (fun c18 => ?_) (fun c19 => ?_)
  · refine go_iload kk138_0.1.2.1.2.1.1 rfl ?_
    refine go_ite (fun c20 => ?_) (fun c21 => ?_)
    · refine go_swh (lo := 0) (hi := 13) (i := 0) kk138_0.1.2.1.2.1.2 rfl rfl (by omega) (by omega) rfl ?_
      refine go_aload kk138_0.1.2.1.2.2 rfl ?_
      refine go_getR (bI := 0) kk138_0.1.2.2.1.1.1 e17 hK0 (by decide) rfl rfl (fun r22 => ?_)
      refine go_int kk138_0.1.2.2.1.1.2 60 rfl ?_
      refine go_iload kk138_0.1.2.2.1.2.1 rfl ?_
      refine go_iadd kk138_0.1.2.2.1.2.2 ?_
      refine go_ck (fun q24 => ?_)
      refine go_iald kk138_0.1.2.2.2.1.1 e17 q24 (fun r23 => ?_)
      exact go_iret kk138_0.1.2.2.2.1.2 e17 r23 ⟨Nat.zero_le _, Nat.zero_le _⟩ rfl
    refine go_ite (fun c25 => ?_) (fun c26 => ?_)
    · refine go_swh (lo := 0) (hi := 13) (i := 1) kk138_0.1.2.1.2.1.2 rfl rfl (by omega) (by omega) rfl ?_
      refine go_aload kk138_0.1.2.2.2.2 rfl ?_
      refine go_getR (bI := 0) kk138_0.2.1.1.1.1.1 e17 hK0 (by decide) rfl rfl (fun r27 => ?_)
      refine go_int kk138_0.2.1.1.1.1.2 100 rfl ?_
      refine go_iload kk138_0.2.1.1.1.2.1 rfl ?_
      refine go_iadd kk138_0.2.1.1.1.2.2 ?_
      refine go_ck (fun q29 => ?_)
      refine go_iald kk138_0.2.1.1.2.1.1 e17 q29 (fun r28 => ?_)
      exact go_iret kk138_0.2.1.1.2.1.2 e17 r28 ⟨Nat.zero_le _, Nat.zero_le _⟩ rfl
    refine go_ite (fun c30 => ?_) (fun c31 => ?_)
    · refine go_swh (lo := 0) (hi := 13) (i := 2) kk138_0.1.2.1.2.1.2 rfl rfl (by omega) (by omega) rfl ?_
      refine go_aload kk138_0.2.1.1.2.2 rfl ?_
      refine go_iload kk138_0.2.1.2.1.1.1 rfl ?_
      refine go_callP1 kk138_0.2.1.2.1.1.2 rfl rfl rfl ⟨by decide, _, rfl, hK0⟩ ⟨Nat.zero_le _, Nat.zero_le _⟩ (by omega) (tfM_roomOf (by omega) e17 hK0  h1) (fun y32 r33 => ?_)
      exact go_iret kk138_0.2.1.2.1.2.1 e17 r33 ⟨Nat.zero_le _, Nat.zero_le _⟩ rfl
    refine go_ite (fun c36 => ?_) (fun c37 => ?_)
    · refine go_swh (lo := 0) (hi := 13) (i := 3) kk138_0.1.2.1.2.1.2 rfl rfl (by omega) (by omega) rfl ?_
      refine go_aload kk138_0.2.1.2.1.2.2 rfl ?_
      refine go_iload kk138_0.2.1.2.2.1.1 rfl ?_
      refine go_int kk138_0.2.1.2.2.1.2 0 rfl ?_
      refine go_callP1 kk138_0.2.1.2.2.2 rfl rfl rfl ⟨by decide, _, rfl, hK0⟩ ⟨Nat.zero_le _, Nat.zero_le _⟩ (by omega) (tfM_childrenOf (by omega) e17 hK0  h1 (inR_b (Or.inl rfl))) (fun y38 r39 => ?_)
      exact go_iret kk138_0.2.2.1.1.1.1 e17 r39 ⟨Nat.zero_le _, Nat.zero_le _⟩ rfl
    refine go_ite (fun c42 => ?_) (fun c43 => ?_)
    · refine go_swh (lo := 0) (hi := 13) (i := 4) kk138_0.1.2.1.2.1.2 rfl rfl (by omega) (by omega) rfl ?_
      refine go_aload kk138_0.2.2.1.1.1.2 rfl ?_
      refine go_iload kk138_0.2.2.1.1.2.1 rfl ?_
      refine go_int kk138_0.2.2.1.1.2.2 1 rfl ?_
      refine go_callP1 kk138_0.2.2.1.2.1.1 rfl rfl rfl ⟨by decide, _, rfl, hK0⟩ ⟨Nat.zero_le _, Nat.zero_le _⟩ (by omega) (tfM_childrenOf (by omega) e17 hK0  h1 (inR_b (Or.inr rfl))) (fun y44 r45 => ?_)
      exact go_iret kk138_0.2.2.1.2.1.2 e17 r45 ⟨Nat.zero_le _, Nat.zero_le _⟩ rfl
    refine go_ite (fun c48 => ?_) (fun c49 => ?_)
    · refine go_swh (lo := 0) (hi := 13) (i := 5) kk138_0.1.2.1.2.1.2 rfl rfl (by omega) (by omega) rfl ?_
      refine go_aload kk138_0.2.2.1.2.2 rfl ?_
      refine go_getR (bI := 0) kk138_0.2.2.2.1.1.1 e17 hK0 (by decide) rfl rfl (fun r50 => ?_)
      refine go_int kk138_0.2.2.2.1.1.2 140 rfl ?_
      refine go_iload kk138_0.2.2.2.1.2.1 rfl ?_
      refine go_iadd kk138_0.2.2.2.1.2.2 ?_
      refine go_ck (fun q52 => ?_)
      refine go_iald kk138_0.2.2.2.2.1.1 e17 q52 (fun r51 => ?_)
      exact go_iret kk138_0.2.2.2.2.1.2 e17 r51 ⟨Nat.zero_le _, Nat.zero_le _⟩ rfl
    refine go_ite (fun c53 => ?_) (fun c54 => ?_)
    · refine go_swh (lo := 0) (hi := 13) (i := 6) kk138_0.1.2.1.2.1.2 rfl rfl (by omega) (by omega) rfl ?_
      refine go_aload kk138_0.2.2.2.2.2 rfl ?_
      refine go_getR (bI := 0) kk138_1.1.1.1.1.1.1 e17 hK0 (by decide) rfl rfl (fun r55 => ?_)
      refine go_int kk138_1.1.1.1.1.1.2 180 rfl ?_
      refine go_iload kk138_1.1.1.1.1.2.1 rfl ?_
      refine go_iadd kk138_1.1.1.1.1.2.2 ?_
      refine go_ck (fun q57 => ?_)
      refine go_iald kk138_1.1.1.1.2.1.1 e17 q57 (fun r56 => ?_)
      exact go_iret kk138_1.1.1.1.2.1.2 e17 r56 ⟨Nat.zero_le _, Nat.zero_le _⟩ rfl
    refine go_ite (fun c58 => ?_) (fun c59 => ?_)
    · refine go_swh (lo := 0) (hi := 13) (i := 7) kk138_0.1.2.1.2.1.2 rfl rfl (by omega) (by omega) rfl ?_
      refine go_aload kk138_1.1.1.1.2.2 rfl ?_
      refine go_getR (bI := 0) kk138_1.1.1.2.1.1.1 e17 hK0 (by decide) rfl rfl (fun r60 => ?_)
      refine go_int kk138_1.1.1.2.1.1.2 220 rfl ?_
      refine go_iload kk138_1.1.1.2.1.2.1 rfl ?_
      refine go_iadd kk138_1.1.1.2.1.2.2 ?_
      refine go_ck (fun q62 => ?_)
      refine go_iald kk138_1.1.1.2.2.1.1 e17 q62 (fun r61 => ?_)
      exact go_iret kk138_1.1.1.2.2.1.2 e17 r61 ⟨Nat.zero_le _, Nat.zero_le _⟩ rfl
    refine go_ite (fun c63 => ?_) (fun c64 => ?_)
    · refine go_swh (lo := 0) (hi := 13) (i := 8) kk138_0.1.2.1.2.1.2 rfl rfl (by omega) (by omega) rfl ?_
      refine go_aload kk138_1.1.1.2.2.2 rfl ?_
      refine go_getR (bI := 0) kk138_1.1.2.1.1.1.1 e17 hK0 (by decide) rfl rfl (fun r65 => ?_)
      refine go_int kk138_1.1.2.1.1.1.2 260 rfl ?_
      refine go_iload kk138_1.1.2.1.1.2.1 rfl ?_
      refine go_iadd kk138_1.1.2.1.1.2.2 ?_
      refine go_ck (fun q67 => ?_)
      refine go_iald kk138_1.1.2.1.2.1.1 e17 q67 (fun r66 => ?_)
      exact go_iret kk138_1.1.2.1.2.1.2 e17 r66 ⟨Nat.zero_le _, Nat.zero_le _⟩ rfl
    refine go_ite (fun c68 => ?_) (fun c69 => ?_)
    · refine go_swh (lo := 0) (hi := 13) (i := 9) kk138_0.1.2.1.2.1.2 rfl rfl (by omega) (by omega) rfl ?_
      refine go_aload kk138_1.1.2.1.2.2 rfl ?_
      refine go_iload kk138_1.1.2.2.1.1.1 rfl ?_
      refine go_callP1 kk138_1.1.2.2.1.1.2 rfl rfl rfl ⟨by decide, _, rfl, hK0⟩ ⟨Nat.zero_le _, Nat.zero_le _⟩ (by omega) (tfM_dutiesOf (by omega) e17 hK0  h1) (fun y70 r71 => ?_)
      exact go_iret kk138_1.1.2.2.1.2.1 e17 r71 ⟨Nat.zero_le _, Nat.zero_le _⟩ rfl
    refine go_ite (fun c74 => ?_) (fun c75 => ?_)
    · refine go_swh (lo := 0) (hi := 13) (i := 10) kk138_0.1.2.1.2.1.2 rfl rfl (by omega) (by omega) rfl ?_
      refine go_aload kk138_1.1.2.2.1.2.2 rfl ?_
      refine go_getR (bI := 0) kk138_1.1.2.2.2.1.1 e17 hK0 (by decide) rfl rfl (fun r76 => ?_)
      refine go_int kk138_1.1.2.2.2.1.2 300 rfl ?_
      refine go_iload kk138_1.1.2.2.2.2 rfl ?_
      refine go_iadd kk138_1.2.1.1.1.1.1 ?_
      refine go_ck (fun q78 => ?_)
      refine go_iald kk138_1.2.1.1.1.1.2 e17 q78 (fun r77 => ?_)
      exact go_iret kk138_1.2.1.1.1.2.1 e17 r77 ⟨Nat.zero_le _, Nat.zero_le _⟩ rfl
    refine go_ite (fun c79 => ?_) (fun c80 => ?_)
    · refine go_swh (lo := 0) (hi := 13) (i := 11) kk138_0.1.2.1.2.1.2 rfl rfl (by omega) (by omega) rfl ?_
      refine go_aload kk138_1.2.1.1.1.2.2 rfl ?_
      refine go_getR (bI := 0) kk138_1.2.1.1.2.1.1 e17 hK0 (by decide) rfl rfl (fun r81 => ?_)
      refine go_int kk138_1.2.1.1.2.1.2 340 rfl ?_
      refine go_iload kk138_1.2.1.1.2.2 rfl ?_
      refine go_iadd kk138_1.2.1.2.1.1.1 ?_
      refine go_ck (fun q83 => ?_)
      refine go_iald kk138_1.2.1.2.1.1.2 e17 q83 (fun r82 => ?_)
      exact go_iret kk138_1.2.1.2.1.2.1 e17 r82 ⟨Nat.zero_le _, Nat.zero_le _⟩ rfl
    refine go_ite (fun c84 => ?_) (fun c85 => ?_)
    · refine go_swh (lo := 0) (hi := 13) (i := 12) kk138_0.1.2.1.2.1.2 rfl rfl (by omega) (by omega) rfl ?_
      refine go_aload kk138_1.2.1.2.1.2.2 rfl ?_
      refine go_getR (bI := 0) kk138_1.2.1.2.2.1.1 e17 hK0 (by decide) rfl rfl (fun r86 => ?_)
      refine go_int kk138_1.2.1.2.2.1.2 380 rfl ?_
      refine go_iload kk138_1.2.1.2.2.2 rfl ?_
      refine go_iadd kk138_1.2.2.1.1.1.1 ?_
      refine go_ck (fun q88 => ?_)
      refine go_iald kk138_1.2.2.1.1.1.2 e17 q88 (fun r87 => ?_)
      exact go_iret kk138_1.2.2.1.1.2.1 e17 r87 ⟨Nat.zero_le _, Nat.zero_le _⟩ rfl
    refine go_ite (fun c89 => ?_) (fun c90 => ?_)
    · refine go_swh (lo := 0) (hi := 13) (i := 13) kk138_0.1.2.1.2.1.2 rfl rfl (by omega) (by omega) rfl ?_
      refine go_aload kk138_1.2.2.1.1.2.2 rfl ?_
      refine go_getR (bI := 0) kk138_1.2.2.1.2.1.1 e17 hK0 (by decide) rfl rfl (fun r91 => ?_)
      refine go_int kk138_1.2.2.1.2.1.2 420 rfl ?_
      refine go_iload kk138_1.2.2.1.2.2 rfl ?_
      refine go_iadd kk138_1.2.2.2.1.1.1 ?_
      refine go_ck (fun q93 => ?_)
      refine go_iald kk138_1.2.2.2.1.1.2 e17 q93 (fun r92 => ?_)
      exact go_iret kk138_1.2.2.2.1.2.1 e17 r92 ⟨Nat.zero_le _, Nat.zero_le _⟩ rfl
    refine go_swd (lo := 0) (hi := 13) kk138_0.1.2.1.2.1.2 rfl rfl h2 (by omega) (by omega) ?_
    refine go_aload kk138_1.2.2.2.1.2.2 rfl ?_
    refine go_iload kk138_1.2.2.2.2.1.1 rfl ?_
    refine go_callP1 kk138_1.2.2.2.2.1.2 rfl rfl rfl ⟨by decide, _, rfl, hK0⟩ ⟨Nat.zero_le _, Nat.zero_le _⟩ (by omega) (tfM_willsOf (by omega) e17 hK0  h1) (fun y94 r95 => ?_)
    exact go_iret kk138_1.2.2.2.2.2 e17 r95 ⟨Nat.zero_le _, Nat.zero_le _⟩ rfl
  · refine go_int kk138_0.1.2.1.1.2.1 0 rfl ?_
    exact go_iret kk138_0.1.2.1.1.2.2 e17 (inR_b (Or.inl rfl)) ⟨Nat.zero_le _, Nat.zero_le _⟩ rfl
theorem tfM_process {Φ : ev_P} {d : Nat} (hd : 3 ≤ d) {g : gH} (hg : HR g) {v0 v1 v2 : Int} (hK0 : kd v0 = 7) (h1 : InR v1) (h2 : InR v2) : Go Φ pr_P fN 1 (fM_process g v0 v1 v2) d (pr_P 138) 0 (ev_loc (pr_P 138).1 [(sR v0), (sI v1), (sI v2)]) [] g 0 0 := by
  show Go Φ pr_P fN 1 (fM_process g v0 v1 v2) d pr_m138 0 [some (sR v0), some (sI v1), some (sI v2)] [] g 0 0
  unfold fM_process
  refine go_aload kk138_0.1.1.1.1.1.1 rfl ?_
  refine go_iload kk138_0.1.1.1.1.1.2 rfl ?_
  refine go_callN3 kk138_0.1.1.1.1.2.1 rfl rfl rfl ⟨by decide, _, rfl, hK0⟩ ⟨Nat.zero_le _, Nat.zero_le _⟩ (by omega) (tfM_noProcess (by omega) hg hK0  h1) (fun y1 g3 r2 e4 => ?_)
  refine go_ifeq kk138_0.1.1.1.1.2.2 (inR_b r2) (fun c5 => ?_) (fun c6 => ?_)
  · refine go_aload kk138_0.1.1.1.2.1.1 rfl ?_
    refine go_iload kk138_0.1.1.1.2.1.2 rfl ?_
    refine go_int kk138_0.1.1.1.2.2 0 rfl ?_
    refine go_int kk138_0.1.1.2.1.1.1 14 rfl ?_
    refine go_callP3 kk138_0.1.1.2.1.1.2 rfl rfl rfl trivial ⟨Nat.zero_le _, Nat.zero_le _⟩ (by omega) (tfM_inRange (by omega) e4  h2 (inR_b (Or.inl rfl)) (inR_of (by decide))) (fun y7 r8 => ?_)
    refine go_ifeq kk138_0.1.1.2.1.2.1 (inR_b r8) (fun c11 => ?_) (fun c12 => ?_)
    · refine go_int kk138_0.1.1.2.1.2.2 1 rfl ?_
      refine go_goto kk138_0.1.1.2.2.1.1 ?_
      exact tjM_process_24 hd e4 hK0 h1 h2 (rfR_kd hK0 (by decide)) (Or.inr rfl)
    · refine go_int kk138_0.1.1.2.2.1.2 0 rfl ?_
      exact tjM_process_24 hd e4 hK0 h1 h2 (rfR_kd hK0 (by decide)) (Or.inl rfl)
  · refine go_int kk138_0.1.2.1.1.2.1 0 rfl ?_
    exact go_iret kk138_0.1.2.1.1.2.2 e4 (inR_b (Or.inl rfl)) ⟨Nat.zero_le _, Nat.zero_le _⟩ rfl
theorem tfM_noDuty {Φ : ev_P} {d : Nat} (hd : 1 ≤ d) {g : gH} (hg : HR g) {v0 v1 v2 : Int} (hK0 : kd v0 = 7) (h1 : InR v1) (h2 : InR v2) : Go Φ pr_P fN 3 (fM_noDuty g v0 v1 v2) d (pr_P 139) 0 (ev_loc (pr_P 139).1 [(sR v0), (sI v1), (sI v2)]) [] g 0 0 := by
  show Go Φ pr_P fN 3 (fM_noDuty g v0 v1 v2) d pr_m139 0 [some (sR v0), some (sI v1), some (sI v2)] [] g 0 0
  unfold fM_noDuty
  refine go_aload kk139_0.1.1.1.1 rfl ?_
  refine go_iload kk139_0.1.1.1.2 rfl ?_
  refine go_int kk139_0.1.1.2 0 rfl ?_
  refine go_int kk139_0.1.2.1.1 7 rfl ?_
  refine go_callP3 kk139_0.1.2.1.2 rfl rfl rfl trivial ⟨Nat.zero_le _, Nat.zero_le _⟩ (by omega) (tfM_inRange (by omega) hg  h1 (inR_b (Or.inl rfl)) (inR_of (by decide))) (fun y1 r2 => ?_)
  refine go_ifeq kk139_0.1.2.2 (inR_b r2) (fun c5 => ?_) (fun c6 => ?_)
  · refine go_int kk139_0.2.1.1.1 1 rfl ?_
    refine go_goto kk139_0.2.1.1.2 ?_
    refine go_iload kk139_0.2.2.1.1 rfl ?_
    refine go_callN3 kk139_0.2.2.1.2 rfl rfl rfl ⟨by decide, _, rfl, hK0⟩ ⟨Nat.zero_le _, Nat.zero_le _⟩ (by omega) (tfM_fails (by omega) hg hK0  (Or.inr rfl) h2) (fun y7 g9 r8 e10 => ?_)
    exact go_bret kk139_0.2.2.2 e10 r8 ⟨Nat.zero_le _, Nat.zero_le _⟩ rfl
  · refine go_int kk139_0.2.1.2 0 rfl ?_
    refine go_iload kk139_0.2.2.1.1 rfl ?_
    refine go_callN3 kk139_0.2.2.1.2 rfl rfl rfl ⟨by decide, _, rfl, hK0⟩ ⟨Nat.zero_le _, Nat.zero_le _⟩ (by omega) (tfM_fails (by omega) hg hK0  (Or.inl rfl) h2) (fun y11 g13 r12 e14 => ?_)
    exact go_bret kk139_0.2.2.2 e14 r12 ⟨Nat.zero_le _, Nat.zero_le _⟩ rfl
theorem tfM_holder {Φ : ev_P} {d : Nat} (hd : 2 ≤ d) {g : gH} (hg : HR g) {v0 v1 : Int} (hK0 : kd v0 = 7) (h1 : InR v1) : Go Φ pr_P fN 1 (fM_holder g v0 v1) d (pr_P 140) 0 (ev_loc (pr_P 140).1 [(sR v0), (sI v1)]) [] g 0 0 := by
  show Go Φ pr_P fN 1 (fM_holder g v0 v1) d pr_m140 0 [some (sR v0), some (sI v1)] [] g 0 0
  unfold fM_holder
  refine go_aload kk140_0.1.1.1.1.1 rfl ?_
  refine go_int kk140_0.1.1.1.1.2 0 rfl ?_
  refine go_putI (bI := 8) kk140_0.1.1.1.2 hg hK0 (by decide) rfl rfl (inR_b (Or.inl rfl)) (fun g1 e2 => ?_)
  refine go_aload kk140_0.1.1.2.1 rfl ?_
  refine go_iload kk140_0.1.1.2.2 rfl ?_
  refine go_int kk140_0.1.2.1.1 1 rfl ?_
  refine go_callN3 kk140_0.1.2.1.2 rfl rfl rfl ⟨by decide, _, rfl, hK0⟩ ⟨Nat.zero_le _, Nat.zero_le _⟩ (by omega) (tfM_noDuty (by omega) e2 hK0  h1 (inR_b (Or.inr rfl))) (fun y3 g5 r4 e6 => ?_)
  refine go_ifeq kk140_0.1.2.2.1 (inR_b r4) (fun c7 => ?_) (fun c8 => ?_)
  · refine go_aload kk140_0.2.1.1.2 rfl ?_
    refine go_getR (bI := 0) kk140_0.2.1.2.1 e6 hK0 (by decide) rfl rfl (fun r9 => ?_)
    refine go_int kk140_0.2.1.2.2 11 rfl ?_
    refine go_iload kk140_0.2.2.1.1 rfl ?_
    refine go_iadd kk140_0.2.2.1.2 ?_
    refine go_ck (fun q11 => ?_)
    refine go_iald kk140_0.2.2.2.1 e6 q11 (fun r10 => ?_)
    exact go_iret kk140_0.2.2.2.2 e6 r10 ⟨Nat.zero_le _, Nat.zero_le _⟩ rfl
  · refine go_int kk140_0.1.2.2.2 0 rfl ?_
    refine go_goto kk140_0.2.1.1.1 ?_
    exact go_iret kk140_0.2.2.2.2 e6 (inR_b (Or.inl rfl)) ⟨Nat.zero_le _, Nat.zero_le _⟩ rfl
theorem tfM_rule {Φ : ev_P} {d : Nat} (hd : 1 ≤ d) {g : gH} (hg : HR g) {v0 v1 : Int} (hK0 : kd v0 = 7) (h1 : InR v1) : Go Φ pr_P fN 1 (fM_rule g v0 v1) d (pr_P 141) 0 (ev_loc (pr_P 141).1 [(sR v0), (sI v1)]) [] g 0 0 := by
  show Go Φ pr_P fN 1 (fM_rule g v0 v1) d pr_m141 0 [some (sR v0), some (sI v1)] [] g 0 0
  unfold fM_rule
  refine go_aload kk141_0.1.1.1.1.1 rfl ?_
  refine go_int kk141_0.1.1.1.1.2 0 rfl ?_
  refine go_putI (bI := 8) kk141_0.1.1.1.2 hg hK0 (by decide) rfl rfl (inR_b (Or.inl rfl)) (fun g1 e2 => ?_)
  refine go_iload kk141_0.1.1.2.1.1 rfl ?_
  refine go_int kk141_0.1.1.2.1.2 0 rfl ?_
  refine go_aload kk141_0.1.1.2.2 rfl ?_
  refine go_getR (bI := 0) kk141_0.1.2.1.1.1 e2 hK0 (by decide) rfl rfl (fun r3 => ?_)
  refine go_int kk141_0.1.2.1.1.2 5 rfl ?_
  refine go_ck (fun q5 => ?_)
  refine go_iald kk141_0.1.2.1.2 e2 q5 (fun r4 => ?_)
  refine go_int kk141_0.1.2.2.1 1 rfl ?_
  refine go_isub kk141_0.1.2.2.2 ?_
  refine go_callP3 kk141_0.2.1.1.1.1 rfl rfl rfl trivial ⟨Nat.zero_le _, Nat.zero_le _⟩ (by omega) (tfM_inRange (by omega) e2  h1 (inR_b (Or.inl rfl)) (inR_w32 _)) (fun y6 r7 => ?_)
  refine go_ifeq kk141_0.2.1.1.1.2 (inR_b r7) (fun c10 => ?_) (fun c11 => ?_)
  · refine go_int kk141_0.2.2.2.1 (-1) rfl ?_
    exact go_iret kk141_0.2.2.2.2 e2 (inR_of (by decide)) ⟨Nat.zero_le _, Nat.zero_le _⟩ rfl
  · refine go_aload kk141_0.2.1.1.2 rfl ?_
    refine go_getR (bI := 0) kk141_0.2.1.2.1.1 e2 hK0 (by decide) rfl rfl (fun r12 => ?_)
    refine go_int kk141_0.2.1.2.1.2 6 rfl ?_
    refine go_iload kk141_0.2.1.2.2 rfl ?_
    refine go_iadd kk141_0.2.2.1.1.1 ?_
    refine go_ck (fun q14 => ?_)
    refine go_iald kk141_0.2.2.1.1.2 e2 q14 (fun r13 => ?_)
    refine go_goto kk141_0.2.2.1.2 ?_
    exact go_iret kk141_0.2.2.2.2 e2 r13 ⟨Nat.zero_le _, Nat.zero_le _⟩ rfl
theorem tbM_deep_4 {Φ : ev_P} {d : Nat} (hd : 0 ≤ d) {g : gH} (hg : HR g) {v0 : Int} (hK0 : kd v0 = 7) {X4 : Int → Int → Option Int} (HX4 : ∀ (v2 : Int) (h2 : InR v2) (v3 : Int) (h3 : InR v3) (u1 : Option ev_V) (w1 : nwo u1), Go Φ pr_P (fP g) 1 (X4 v2 v3) d pr_m89 4 [some (sR v0), u1, some (sI v2), some (sI v3)] [] g 0 0) : ∀ (v2 : Int) (h2 : InR v2) (v3 : Int) (h3 : InR v3) (u1 : Option ev_V) (w1 : nwo u1), Go Φ pr_P (fP g) 1 (bM_deep_4 g v0 X4 v2 v3) d pr_m89 4 [some (sR v0), u1, some (sI v2), some (sI v3)] [] g 0 0 := by
  intro v2 h2 v3 h3 u1 w1
  unfold bM_deep_4
  refine go_iload kk89_0.1.1.2.2 rfl ?_
  refine go_ifeq kk89_0.1.2.1.1 h3 (fun c1 => ?_) (fun c2 => ?_)
  · refine go_iload kk89_0.2.2.2.1 rfl ?_
    exact go_iret kk89_0.2.2.2.2 hg h2 ⟨Nat.zero_le _, Nat.zero_le _⟩ rfl
  · refine go_iinc kk89_0.1.2.1.2 rfl w1 1 rfl (loc2 := [some (sR v0), u1, some (sI (w32 (v2 + 1))), some (sI v3)]) rfl ?_
    refine go_aload kk89_0.1.2.2.1 rfl ?_
    refine go_getR (bI := 0) kk89_0.1.2.2.2 hg hK0 (by decide) rfl rfl (fun r3 => ?_)
    refine go_int kk89_0.2.1.1.1 60 rfl ?_
    refine go_iload kk89_0.2.1.1.2 rfl ?_
    refine go_iadd kk89_0.2.1.2.1 ?_
    refine go_ck (fun q5 => ?_)
    refine go_iald kk89_0.2.1.2.2 hg q5 (fun r4 => ?_)
    refine go_istore kk89_0.2.2.1.1 rfl (loc2 := [some (sR v0), u1, some (sI (w32 (v2 + 1))), some (sI (g (g v0 0) (w32 (60 + v3))))]) rfl ?_
    refine go_goto kk89_0.2.2.1.2 ?_
    exact HX4 (w32 (v2 + 1)) (inR_w32 _) (g (g v0 0) (w32 (60 + v3))) r4 u1 w1
theorem tlM_deep_4 {Φ : ev_P} {d : Nat} (hd : 0 ≤ d) {g : gH} (hg : HR g) {v0 : Int} (hK0 : kd v0 = 7) : ∀ n : Nat, ∀ (v2 : Int) (h2 : InR v2) (v3 : Int) (h3 : InR v3) (u1 : Option ev_V) (w1 : nwo u1), Go Φ pr_P (fP g) 1 (lM_deep_4 g v0 n v2 v3) d pr_m89 4 [some (sR v0), u1, some (sI v2), some (sI v3)] [] g 0 0 := by
  intro n
  induction n with
  | zero => intros; exact go_none
  | succ n ih => exact tbM_deep_4 hd hg hK0 ih
theorem tfM_deep {Φ : ev_P} {d : Nat} (hd : 0 ≤ d) {g : gH} (hg : HR g) {v0 v1 : Int} (hK0 : kd v0 = 7) (h1 : InR v1) : Go Φ pr_P (fP g) 1 (fM_deep g v0 v1) d (pr_P 89) 0 (ev_loc (pr_P 89).1 [(sR v0), (sI v1)]) [] g 0 0 := by
  show Go Φ pr_P (fP g) 1 (fM_deep g v0 v1) d pr_m89 0 [some (sR v0), some (sI v1), none, none] [] g 0 0
  unfold fM_deep
  refine go_int kk89_0.1.1.1.1.1 0 rfl ?_
  refine go_istore kk89_0.1.1.1.1.2 rfl (loc2 := [some (sR v0), some (sI v1), some (sI 0), none]) rfl ?_
  refine go_iload kk89_0.1.1.1.2 rfl ?_
  refine go_istore kk89_0.1.1.2.1 rfl (loc2 := [some (sR v0), some (sI v1), some (sI 0), some (sI v1)]) rfl ?_
  exact tlM_deep_4 hd hg hK0 fu 0 (inR_b (Or.inl rfl)) v1 h1 (some (sI v1)) rfl
theorem tfM_isGone {Φ : ev_P} {d : Nat} (hd : 0 ≤ d) {g : gH} (hg : HR g) {v0 v1 : Int} (hK0 : kd v0 = 7) (h1 : InR v1) : Go Φ pr_P (fP g) 3 (fM_isGone g v0 v1) d (pr_P 142) 0 (ev_loc (pr_P 142).1 [(sR v0), (sI v1)]) [] g 0 0 := by
  show Go Φ pr_P (fP g) 3 (fM_isGone g v0 v1) d pr_m142 0 [some (sR v0), some (sI v1)] [] g 0 0
  unfold fM_isGone
  refine go_aload kk142_0.1.1.1.1 rfl ?_
  refine go_getR (bI := 0) kk142_0.1.1.1.2 hg hK0 (by decide) rfl rfl (fun r1 => ?_)
  refine go_int kk142_0.1.1.2 140 rfl ?_
  refine go_iload kk142_0.1.2.1.1 rfl ?_
  refine go_iadd kk142_0.1.2.1.2 ?_
  refine go_ck (fun q3 => ?_)
  refine go_iald kk142_0.1.2.2 hg q3 (fun r2 => ?_)
  refine go_int kk142_0.2.1.1.1 2 rfl ?_
  refine go_cmeq kk142_0.2.1.1.2 r2 (inR_of (by decide)) (fun c4 => ?_) (fun c5 => ?_)
  · refine go_int kk142_0.2.1.2 1 rfl ?_
    refine go_goto kk142_0.2.2.1.1 ?_
    exact go_bret kk142_0.2.2.2 hg (Or.inr rfl) ⟨Nat.zero_le _, Nat.zero_le _⟩ rfl
  · refine go_int kk142_0.2.2.1.2 0 rfl ?_
    exact go_bret kk142_0.2.2.2 hg (Or.inl rfl) ⟨Nat.zero_le _, Nat.zero_le _⟩ rfl
theorem tfM_depth {Φ : ev_P} {d : Nat} (hd : 2 ≤ d) {g : gH} (hg : HR g) {v0 v1 : Int} (hK0 : kd v0 = 7) (h1 : InR v1) : Go Φ pr_P fN 1 (fM_depth g v0 v1) d (pr_P 143) 0 (ev_loc (pr_P 143).1 [(sR v0), (sI v1)]) [] g 0 0 := by
  show Go Φ pr_P fN 1 (fM_depth g v0 v1) d pr_m143 0 [some (sR v0), some (sI v1)] [] g 0 0
  unfold fM_depth
  refine go_aload kk143_0.1.1.1.1.1 rfl ?_
  refine go_iload kk143_0.1.1.1.1.2 rfl ?_
  refine go_callN3 kk143_0.1.1.1.2 rfl rfl rfl ⟨by decide, _, rfl, hK0⟩ ⟨Nat.zero_le _, Nat.zero_le _⟩ (by omega) (tfM_noProcess (by omega) hg hK0  h1) (fun y1 g3 r2 e4 => ?_)
  refine go_ifeq kk143_0.1.1.2.1 (inR_b r2) (fun c5 => ?_) (fun c6 => ?_)
  · refine go_aload kk143_0.1.1.2.2 rfl ?_
    refine go_aload kk143_0.1.2.1.1 rfl ?_
    refine go_iload kk143_0.1.2.1.2 rfl ?_
    refine go_callP3 kk143_0.1.2.2.1 rfl rfl rfl ⟨by decide, _, rfl, hK0⟩ ⟨Nat.zero_le _, Nat.zero_le _⟩ (by omega) (tfM_isGone (by omega) e4 hK0  h1) (fun y7 r8 => ?_)
    refine go_int kk143_0.1.2.2.2 2 rfl ?_
    refine go_callN3 kk143_0.2.1.1.1 rfl rfl rfl ⟨by decide, _, rfl, hK0⟩ ⟨Nat.zero_le _, Nat.zero_le _⟩ (by omega) (tfM_fails (by omega) e4 hK0  r8 (inR_of (by decide))) (fun y11 g13 r12 e14 => ?_)
    refine go_ifeq kk143_0.2.1.1.2 (inR_b r12) (fun c15 => ?_) (fun c16 => ?_)
    · refine go_aload kk143_0.2.2.1.1 rfl ?_
      refine go_iload kk143_0.2.2.1.2 rfl ?_
      refine go_callP1 kk143_0.2.2.2.1 rfl rfl rfl ⟨by decide, _, rfl, hK0⟩ ⟨Nat.zero_le _, Nat.zero_le _⟩ (by omega) (tfM_deep (by omega) e14 hK0  h1) (fun y17 r18 => ?_)
      exact go_iret kk143_0.2.2.2.2 e14 r18 ⟨Nat.zero_le _, Nat.zero_le _⟩ rfl
    · refine go_int kk143_0.2.1.2.1 0 rfl ?_
      refine go_goto kk143_0.2.1.2.2 ?_
      exact go_iret kk143_0.2.2.2.2 e14 (inR_b (Or.inl rfl)) ⟨Nat.zero_le _, Nat.zero_le _⟩ rfl
  · refine go_int kk143_0.2.1.2.1 0 rfl ?_
    refine go_goto kk143_0.2.1.2.2 ?_
    exact go_iret kk143_0.2.2.2.2 e4 (inR_b (Or.inl rfl)) ⟨Nat.zero_le _, Nat.zero_le _⟩ rfl
theorem tjM_isOver_32 {Φ : ev_P} {d : Nat} (hd : 0 ≤ d) {g : gH} (hg : HR g) {v3 : Int} (h3 : InR v3) (u0 : Option ev_V) (w0 : nwo u0) (u1 : Option ev_V) (w1 : nwo u1) (u2 : Option ev_V) (w2 : nwo u2) : Go Φ pr_P (fP g) 3 (jM_isOver_32 g v3 ) d pr_m88 32 [u0, u1, u2, some (sI v3)] [] g 0 0 := by
  unfold jM_isOver_32
  refine go_iload kk88_0.2.2.1.1.1 rfl ?_
  refine go_ifeq kk88_0.2.2.1.1.2 h3 (fun c11 => ?_) (fun c12 => ?_)
  · refine go_int kk88_0.2.2.2.1.2 0 rfl ?_
    exact go_bret kk88_0.2.2.2.2 hg (Or.inl rfl) ⟨Nat.zero_le _, Nat.zero_le _⟩ rfl
  · refine go_int kk88_0.2.2.1.2 1 rfl ?_
    refine go_goto kk88_0.2.2.2.1.1 ?_
    exact go_bret kk88_0.2.2.2.2 hg (Or.inr rfl) ⟨Nat.zero_le _, Nat.zero_le _⟩ rfl
theorem tbM_isOver_2 {Φ : ev_P} {d : Nat} (hd : 0 ≤ d) {g : gH} (hg : HR g) {v0 v1 : Int} (hK0 : kd v0 = 7) (h1 : InR v1) {X2 : Int → Option Int} (HX2 : ∀ (v3 : Int) (h3 : InR v3) (u2 : Option ev_V) (w2 : nwo u2), Go Φ pr_P (fP g) 3 (X2 v3) d pr_m88 2 [some (sR v0), some (sI v1), u2, some (sI v3)] [] g 0 0) : ∀ (v3 : Int) (h3 : InR v3) (u2 : Option ev_V) (w2 : nwo u2), Go Φ pr_P (fP g) 3 (bM_isOver_2 g v0 v1 X2 v3) d pr_m88 2 [some (sR v0), some (sI v1), u2, some (sI v3)] [] g 0 0 := by
  intro v3 h3 u2 w2
  unfold bM_isOver_2
  refine go_iload kk88_0.1.1.1.2.1 rfl ?_
  refine go_ifeq kk88_0.1.1.1.2.2 h3 (fun c1 => ?_) (fun c2 => ?_)
  · exact tjM_isOver_32 hd hg h3 (some (sR v0)) rfl (some (sI v1)) rfl u2 w2
  · refine go_aload kk88_0.1.1.2.1.1 rfl ?_
    refine go_getR (bI := 0) kk88_0.1.1.2.1.2 hg hK0 (by decide) rfl rfl (fun r3 => ?_)
    refine go_int kk88_0.1.1.2.2 60 rfl ?_
    refine go_iload kk88_0.1.2.1.1.1 rfl ?_
    refine go_iadd kk88_0.1.2.1.1.2 ?_
    refine go_ck (fun q5 => ?_)
    refine go_iald kk88_0.1.2.1.2 hg q5 (fun r4 => ?_)
    refine go_iload kk88_0.1.2.2.1.1 rfl ?_
    refine go_cmeq kk88_0.1.2.2.1.2 r4 h1 (fun c6 => ?_) (fun c7 => ?_)
    · exact tjM_isOver_32 hd hg h3 (some (sR v0)) rfl (some (sI v1)) rfl u2 w2
    · refine go_aload kk88_0.1.2.2.2 rfl ?_
      refine go_getR (bI := 0) kk88_0.2.1.1.1.1 hg hK0 (by decide) rfl rfl (fun r8 => ?_)
      refine go_int kk88_0.2.1.1.1.2 60 rfl ?_
      refine go_iload kk88_0.2.1.1.2.1 rfl ?_
      refine go_iadd kk88_0.2.1.1.2.2 ?_
      refine go_ck (fun q10 => ?_)
      refine go_iald kk88_0.2.1.2.1.1 hg q10 (fun r9 => ?_)
      refine go_istore kk88_0.2.1.2.1.2 w2 (loc2 := [some (sR v0), some (sI v1), u2, some (sI (g (g v0 0) (w32 (60 + v3))))]) rfl ?_
      refine go_goto kk88_0.2.1.2.2 ?_
      exact HX2 (g (g v0 0) (w32 (60 + v3))) r9 u2 w2
theorem tlM_isOver_2 {Φ : ev_P} {d : Nat} (hd : 0 ≤ d) {g : gH} (hg : HR g) {v0 v1 : Int} (hK0 : kd v0 = 7) (h1 : InR v1) : ∀ n : Nat, ∀ (v3 : Int) (h3 : InR v3) (u2 : Option ev_V) (w2 : nwo u2), Go Φ pr_P (fP g) 3 (lM_isOver_2 g v0 v1 n v3) d pr_m88 2 [some (sR v0), some (sI v1), u2, some (sI v3)] [] g 0 0 := by
  intro n
  induction n with
  | zero => intros; exact go_none
  | succ n ih => exact tbM_isOver_2 hd hg hK0 h1 ih
theorem tfM_isOver {Φ : ev_P} {d : Nat} (hd : 0 ≤ d) {g : gH} (hg : HR g) {v0 v1 v2 : Int} (hK0 : kd v0 = 7) (h1 : InR v1) (h2 : InR v2) : Go Φ pr_P (fP g) 3 (fM_isOver g v0 v1 v2) d (pr_P 88) 0 (ev_loc (pr_P 88).1 [(sR v0), (sI v1), (sI v2)]) [] g 0 0 := by
  show Go Φ pr_P (fP g) 3 (fM_isOver g v0 v1 v2) d pr_m88 0 [some (sR v0), some (sI v1), some (sI v2), none] [] g 0 0
  unfold fM_isOver
  refine go_iload kk88_0.1.1.1.1.1 rfl ?_
  refine go_istore kk88_0.1.1.1.1.2 rfl (loc2 := [some (sR v0), some (sI v1), some (sI v2), some (sI v2)]) rfl ?_
  exact tlM_isOver_2 hd hg hK0 h1 fu v2 h2 (some (sI v2)) rfl
theorem tfM_isAbove {Φ : ev_P} {d : Nat} (hd : 2 ≤ d) {g : gH} (hg : HR g) {v0 v1 v2 : Int} (hK0 : kd v0 = 7) (h1 : InR v1) (h2 : InR v2) : Go Φ pr_P fN 3 (fM_isAbove g v0 v1 v2) d (pr_P 144) 0 (ev_loc (pr_P 144).1 [(sR v0), (sI v1), (sI v2)]) [] g 0 0 := by
  show Go Φ pr_P fN 3 (fM_isAbove g v0 v1 v2) d pr_m144 0 [some (sR v0), some (sI v1), some (sI v2)] [] g 0 0
  unfold fM_isAbove
  refine go_aload kk144_0.1.1.1.1.1 rfl ?_
  refine go_iload kk144_0.1.1.1.1.2 rfl ?_
  refine go_callN3 kk144_0.1.1.1.2.1 rfl rfl rfl ⟨by decide, _, rfl, hK0⟩ ⟨Nat.zero_le _, Nat.zero_le _⟩ (by omega) (tfM_noProcess (by omega) hg hK0  h1) (fun y1 g3 r2 e4 => ?_)
  refine go_ifeq kk144_0.1.1.1.2.2 (inR_b r2) (fun c5 => ?_) (fun c6 => ?_)
  · refine go_aload kk144_0.1.1.2.1.1 rfl ?_
    refine go_iload kk144_0.1.1.2.1.2 rfl ?_
    refine go_callN3 kk144_0.1.1.2.2.1 rfl rfl rfl ⟨by decide, _, rfl, hK0⟩ ⟨Nat.zero_le _, Nat.zero_le _⟩ (by omega) (tfM_noProcess (by omega) e4 hK0  h2) (fun y7 g9 r8 e10 => ?_)
    refine go_ifeq kk144_0.1.1.2.2.2 (inR_b r8) (fun c11 => ?_) (fun c12 => ?_)
    · refine go_aload kk144_0.1.2.1.2.1 rfl ?_
      refine go_iload kk144_0.1.2.1.2.2 rfl ?_
      refine go_callP3 kk144_0.1.2.2.1.1 rfl rfl rfl ⟨by decide, _, rfl, hK0⟩ ⟨Nat.zero_le _, Nat.zero_le _⟩ (by omega) (tfM_isGone (by omega) e10 hK0  h1) (fun y13 r14 => ?_)
      refine go_ifeq kk144_0.1.2.2.1.2 (inR_b r14) (fun c17 => ?_) (fun c18 => ?_)
      · refine go_aload kk144_0.1.2.2.2 rfl ?_
        refine go_iload kk144_0.2.1.1.1.1 rfl ?_
        refine go_callP3 kk144_0.2.1.1.1.2 rfl rfl rfl ⟨by decide, _, rfl, hK0⟩ ⟨Nat.zero_le _, Nat.zero_le _⟩ (by omega) (tfM_isGone (by omega) e10 hK0  h2) (fun y19 r20 => ?_)
        refine go_ifeq kk144_0.2.1.1.2.1 (inR_b r20) (fun c23 => ?_) (fun c24 => ?_)
        · refine go_iload kk144_0.2.1.1.2.2 rfl ?_
          refine go_iload kk144_0.2.1.2.1.1 rfl ?_
          refine go_cmeq kk144_0.2.1.2.1.2 h1 h2 (fun c25 => ?_) (fun c26 => ?_)
          · refine go_int kk144_0.2.2.2.1.2 0 rfl ?_
            exact go_bret kk144_0.2.2.2.2 e10 (Or.inl rfl) ⟨Nat.zero_le _, Nat.zero_le _⟩ rfl
          · refine go_aload kk144_0.2.1.2.2.1 rfl ?_
            refine go_iload kk144_0.2.1.2.2.2 rfl ?_
            refine go_iload kk144_0.2.2.1.1.1 rfl ?_
            refine go_callP3 kk144_0.2.2.1.1.2 rfl rfl rfl ⟨by decide, _, rfl, hK0⟩ ⟨Nat.zero_le _, Nat.zero_le _⟩ (by omega) (tfM_isOver (by omega) e10 hK0  h1 h2) (fun y27 r28 => ?_)
            refine go_ifeq kk144_0.2.2.1.2.1 (inR_b r28) (fun c31 => ?_) (fun c32 => ?_)
            · refine go_int kk144_0.2.2.2.1.2 0 rfl ?_
              exact go_bret kk144_0.2.2.2.2 e10 (Or.inl rfl) ⟨Nat.zero_le _, Nat.zero_le _⟩ rfl
            · refine go_int kk144_0.2.2.1.2.2 1 rfl ?_
              refine go_goto kk144_0.2.2.2.1.1 ?_
              exact go_bret kk144_0.2.2.2.2 e10 (Or.inr rfl) ⟨Nat.zero_le _, Nat.zero_le _⟩ rfl
        · refine go_int kk144_0.2.2.2.1.2 0 rfl ?_
          exact go_bret kk144_0.2.2.2.2 e10 (Or.inl rfl) ⟨Nat.zero_le _, Nat.zero_le _⟩ rfl
      · refine go_int kk144_0.2.2.2.1.2 0 rfl ?_
        exact go_bret kk144_0.2.2.2.2 e10 (Or.inl rfl) ⟨Nat.zero_le _, Nat.zero_le _⟩ rfl
    · refine go_int kk144_0.1.2.1.1.1 0 rfl ?_
      exact go_bret kk144_0.1.2.1.1.2 e10 (Or.inl rfl) ⟨Nat.zero_le _, Nat.zero_le _⟩ rfl
  · refine go_int kk144_0.1.2.1.1.1 0 rfl ?_
    exact go_bret kk144_0.1.2.1.1.2 e4 (Or.inl rfl) ⟨Nat.zero_le _, Nat.zero_le _⟩ rfl
theorem tbM_meets_2 {Φ : ev_P} {d : Nat} (hd : 1 ≤ d) {g : gH} (hg : HR g) {v0 v2 : Int} (hK0 : kd v0 = 7) (h2 : InR v2) {X2 : Int → Option Int} (HX2 : ∀ (v3 : Int) (h3 : InR v3) (u1 : Option ev_V) (w1 : nwo u1), Go Φ pr_P (fP g) 1 (X2 v3) d pr_m145 2 [some (sR v0), u1, some (sI v2), some (sI v3)] [] g 0 0) : ∀ (v3 : Int) (h3 : InR v3) (u1 : Option ev_V) (w1 : nwo u1), Go Φ pr_P (fP g) 1 (bM_meets_2 g v0 v2 X2 v3) d pr_m145 2 [some (sR v0), u1, some (sI v2), some (sI v3)] [] g 0 0 := by
  intro v3 h3 u1 w1
  unfold bM_meets_2
  refine go_iload kk145_0.1.1.1.2 rfl ?_
  refine go_iload kk145_0.1.1.2.1 rfl ?_
  refine go_cmeq kk145_0.1.1.2.2 h3 h2 (fun c1 => ?_) (fun c2 => ?_)
  · refine go_iload kk145_0.2.2.2.1 rfl ?_
    exact go_iret kk145_0.2.2.2.2 hg h3 ⟨Nat.zero_le _, Nat.zero_le _⟩ rfl
  · refine go_aload kk145_0.1.2.1.1.1 rfl ?_
    refine go_iload kk145_0.1.2.1.1.2 rfl ?_
    refine go_iload kk145_0.1.2.1.2 rfl ?_
    refine go_callP3 kk145_0.1.2.2.1 rfl rfl rfl ⟨by decide, _, rfl, hK0⟩ ⟨Nat.zero_le _, Nat.zero_le _⟩ (by omega) (tfM_isOver (by omega) hg hK0  h3 h2) (fun y3 r4 => ?_)
    refine go_ifeq kk145_0.1.2.2.2 (inR_b r4) (fun c7 => ?_) (fun c8 => ?_)
    · refine go_aload kk145_0.2.1.1.1.1 rfl ?_
      refine go_getR (bI := 0) kk145_0.2.1.1.1.2 hg hK0 (by decide) rfl rfl (fun r9 => ?_)
      refine go_int kk145_0.2.1.1.2 60 rfl ?_
      refine go_iload kk145_0.2.1.2.1 rfl ?_
      refine go_iadd kk145_0.2.1.2.2 ?_
      refine go_ck (fun q11 => ?_)
      refine go_iald kk145_0.2.2.1.1.1 hg q11 (fun r10 => ?_)
      refine go_istore kk145_0.2.2.1.1.2 rfl (loc2 := [some (sR v0), u1, some (sI v2), some (sI (g (g v0 0) (w32 (60 + v3))))]) rfl ?_
      refine go_goto kk145_0.2.2.1.2 ?_
      exact HX2 (g (g v0 0) (w32 (60 + v3))) r10 u1 w1
    · refine go_iload kk145_0.2.2.2.1 rfl ?_
      exact go_iret kk145_0.2.2.2.2 hg h3 ⟨Nat.zero_le _, Nat.zero_le _⟩ rfl
theorem tlM_meets_2 {Φ : ev_P} {d : Nat} (hd : 1 ≤ d) {g : gH} (hg : HR g) {v0 v2 : Int} (hK0 : kd v0 = 7) (h2 : InR v2) : ∀ n : Nat, ∀ (v3 : Int) (h3 : InR v3) (u1 : Option ev_V) (w1 : nwo u1), Go Φ pr_P (fP g) 1 (lM_meets_2 g v0 v2 n v3) d pr_m145 2 [some (sR v0), u1, some (sI v2), some (sI v3)] [] g 0 0 := by
  intro n
  induction n with
  | zero => intros; exact go_none
  | succ n ih => exact tbM_meets_2 hd hg hK0 h2 ih
theorem tfM_meets {Φ : ev_P} {d : Nat} (hd : 1 ≤ d) {g : gH} (hg : HR g) {v0 v1 v2 : Int} (hK0 : kd v0 = 7) (h1 : InR v1) (h2 : InR v2) : Go Φ pr_P (fP g) 1 (fM_meets g v0 v1 v2) d (pr_P 145) 0 (ev_loc (pr_P 145).1 [(sR v0), (sI v1), (sI v2)]) [] g 0 0 := by
  show Go Φ pr_P (fP g) 1 (fM_meets g v0 v1 v2) d pr_m145 0 [some (sR v0), some (sI v1), some (sI v2), none] [] g 0 0
  unfold fM_meets
  refine go_iload kk145_0.1.1.1.1.1 rfl ?_
  refine go_istore kk145_0.1.1.1.1.2 rfl (loc2 := [some (sR v0), some (sI v1), some (sI v2), some (sI v1)]) rfl ?_
  exact tlM_meets_2 hd hg hK0 h2 fu v1 h1 (some (sI v1)) rfl
theorem tjM_anyGone_38 {Φ : ev_P} {d : Nat} (hd : 2 ≤ d) {g : gH} (hg : HR g) {s0 s1 : Int} (z0 : RfR s0) (z1 : B01 s1) (u0 : Option ev_V) (w0 : nwo u0) (u1 : Option ev_V) (w1 : nwo u1) (u2 : Option ev_V) (w2 : nwo u2) : Go Φ pr_P fN 3 (jM_anyGone_38 g s0 s1 ) d pr_m146 38 [u0, u1, u2] [(sI s1), (sR s0)] g 0 0 := by
  unfold jM_anyGone_38
  refine go_int kk146_0.2.1.2.2 2 rfl ?_
  refine go_ck (fun q25 => ?_)
  refine go_callN3 kk146_0.2.2.1.1.1 rfl rfl rfl ⟨by decide, _, rfl, q25⟩ ⟨Nat.zero_le _, Nat.zero_le _⟩ (by omega) (tfM_fails (by omega) hg q25  z1 (inR_of (by decide))) (fun y26 g28 r27 e29 => ?_)
  refine go_ifeq kk146_0.2.2.1.1.2 (inR_b r27) (fun c30 => ?_) (fun c31 => ?_)
  · refine go_int kk146_0.2.2.2.1.2 0 rfl ?_
    exact go_bret kk146_0.2.2.2.2 e29 (Or.inl rfl) ⟨Nat.zero_le _, Nat.zero_le _⟩ rfl
  · refine go_int kk146_0.2.2.1.2 1 rfl ?_
    refine go_goto kk146_0.2.2.2.1.1 ?_
    exact go_bret kk146_0.2.2.2.2 e29 (Or.inr rfl) ⟨Nat.zero_le _, Nat.zero_le _⟩ rfl
theorem tjM_anyGone_33 {Φ : ev_P} {d : Nat} (hd : 2 ≤ d) {g : gH} (hg : HR g) {s0 : Int} (z0 : RfR s0) (u0 : Option ev_V) (w0 : nwo u0) (u1 : Option ev_V) (w1 : nwo u1) (u2 : Option ev_V) (w2 : nwo u2) : Go Φ pr_P fN 3 (jM_anyGone_33 g s0 ) d pr_m146 33 [u0, u1, u2] [(sR s0)] g 0 0 := by
  unfold jM_anyGone_33
  refine go_int kk146_0.2.1.1.2.2 1 rfl ?_
  refine go_goto kk146_0.2.1.2.1.1 ?_
  exact tjM_anyGone_38 hd hg z0 (Or.inr rfl) u0 w0 u1 w1 u2 w2
theorem tfM_anyGone {Φ : ev_P} {d : Nat} (hd : 2 ≤ d) {g : gH} (hg : HR g) {v0 v1 v2 : Int} (hK0 : kd v0 = 7) (h1 : InR v1) (h2 : InR v2) : Go Φ pr_P fN 3 (fM_anyGone g v0 v1 v2) d (pr_P 146) 0 (ev_loc (pr_P 146).1 [(sR v0), (sI v1), (sI v2)]) [] g 0 0 := by
  show Go Φ pr_P fN 3 (fM_anyGone g v0 v1 v2) d pr_m146 0 [some (sR v0), some (sI v1), some (sI v2)] [] g 0 0
  unfold fM_anyGone
  refine go_aload kk146_0.1.1.1.1.1 rfl ?_
  refine go_iload kk146_0.1.1.1.1.2 rfl ?_
  refine go_callN3 kk146_0.1.1.1.2.1 rfl rfl rfl ⟨by decide, _, rfl, hK0⟩ ⟨Nat.zero_le _, Nat.zero_le _⟩ (by omega) (tfM_noProcess (by omega) hg hK0  h1) (fun y1 g3 r2 e4 => ?_)
  refine go_ifeq kk146_0.1.1.1.2.2 (inR_b r2) (fun c5 => ?_) (fun c6 => ?_)
  · refine go_aload kk146_0.1.1.2.1.1 rfl ?_
    refine go_iload kk146_0.1.1.2.1.2 rfl ?_
    refine go_callN3 kk146_0.1.1.2.2 rfl rfl rfl ⟨by decide, _, rfl, hK0⟩ ⟨Nat.zero_le _, Nat.zero_le _⟩ (by omega) (tfM_noProcess (by omega) e4 hK0  h2) (fun y7 g9 r8 e10 => ?_)
    refine go_ifeq kk146_0.1.2.1.1.1 (inR_b r8) (fun c11 => ?_) (fun c12 => ?_)
    · refine go_aload kk146_0.1.2.1.1.2 rfl ?_
      refine go_aload kk146_0.1.2.1.2.1 rfl ?_
      refine go_iload kk146_0.1.2.1.2.2 rfl ?_
      refine go_callP3 kk146_0.1.2.2.1.1 rfl rfl rfl ⟨by decide, _, rfl, hK0⟩ ⟨Nat.zero_le _, Nat.zero_le _⟩ (by omega) (tfM_isGone (by omega) e10 hK0  h1) (fun y13 r14 => ?_)
      refine go_ifeq kk146_0.1.2.2.1.2 (inR_b r14) (fun c17 => ?_) (fun c18 => ?_)
      · refine go_aload kk146_0.1.2.2.2 rfl ?_
        refine go_iload kk146_0.2.1.1.1.1 rfl ?_
        refine go_callP3 kk146_0.2.1.1.1.2 rfl rfl rfl ⟨by decide, _, rfl, hK0⟩ ⟨Nat.zero_le _, Nat.zero_le _⟩ (by omega) (tfM_isGone (by omega) e10 hK0  h2) (fun y19 r20 => ?_)
        refine go_ifeq kk146_0.2.1.1.2.1 (inR_b r20) (fun c23 => ?_) (fun c24 => ?_)
        · refine go_int kk146_0.2.1.2.1.2 0 rfl ?_
          exact tjM_anyGone_38 hd e10 (rfR_kd hK0 (by decide)) (Or.inl rfl) (some (sR v0)) rfl (some (sI v1)) rfl (some (sI v2)) rfl
        · exact tjM_anyGone_33 hd e10 (rfR_kd hK0 (by decide)) (some (sR v0)) rfl (some (sI v1)) rfl (some (sI v2)) rfl
      · exact tjM_anyGone_33 hd e10 (rfR_kd hK0 (by decide)) (some (sR v0)) rfl (some (sI v1)) rfl (some (sI v2)) rfl
    · refine go_int kk146_0.2.2.1.2 1 rfl ?_
      refine go_goto kk146_0.2.2.2.1.1 ?_
      exact go_bret kk146_0.2.2.2.2 e10 (Or.inr rfl) ⟨Nat.zero_le _, Nat.zero_le _⟩ rfl
  · refine go_int kk146_0.2.2.1.2 1 rfl ?_
    refine go_goto kk146_0.2.2.2.1.1 ?_
    exact go_bret kk146_0.2.2.2.2 e4 (Or.inr rfl) ⟨Nat.zero_le _, Nat.zero_le _⟩ rfl
theorem tfM_meet {Φ : ev_P} {d : Nat} (hd : 3 ≤ d) {g : gH} (hg : HR g) {v0 v1 v2 : Int} (hK0 : kd v0 = 7) (h1 : InR v1) (h2 : InR v2) : Go Φ pr_P fN 1 (fM_meet g v0 v1 v2) d (pr_P 147) 0 (ev_loc (pr_P 147).1 [(sR v0), (sI v1), (sI v2)]) [] g 0 0 := by
  show Go Φ pr_P fN 1 (fM_meet g v0 v1 v2) d pr_m147 0 [some (sR v0), some (sI v1), some (sI v2)] [] g 0 0
  unfold fM_meet
  refine go_aload kk147_0.1.1.1.1 rfl ?_
  refine go_iload kk147_0.1.1.1.2 rfl ?_
  refine go_iload kk147_0.1.1.2 rfl ?_
  refine go_callN3 kk147_0.1.2.1.1 rfl rfl rfl ⟨by decide, _, rfl, hK0⟩ ⟨Nat.zero_le _, Nat.zero_le _⟩ (by omega) (tfM_anyGone (by omega) hg hK0  h1 h2) (fun y1 g3 r2 e4 => ?_)
  refine go_ifeq kk147_0.1.2.1.2 (inR_b r2) (fun c5 => ?_) (fun c6 => ?_)
  · refine go_aload kk147_0.2.1.1.2 rfl ?_
    refine go_iload kk147_0.2.1.2 rfl ?_
    refine go_iload kk147_0.2.2.1.1 rfl ?_
    refine go_callP1 kk147_0.2.2.1.2 rfl rfl rfl ⟨by decide, _, rfl, hK0⟩ ⟨Nat.zero_le _, Nat.zero_le _⟩ (by omega) (tfM_meets (by omega) e4 hK0  h1 h2) (fun y7 r8 => ?_)
    exact go_iret kk147_0.2.2.2 e4 r8 ⟨Nat.zero_le _, Nat.zero_le _⟩ rfl
  · refine go_int kk147_0.1.2.2 0 rfl ?_
    refine go_goto kk147_0.2.1.1.1 ?_
    exact go_iret kk147_0.2.2.2 e4 (inR_b (Or.inl rfl)) ⟨Nat.zero_le _, Nat.zero_le _⟩ rfl
theorem tfM_apart {Φ : ev_P} {d : Nat} (hd : 3 ≤ d) {g : gH} (hg : HR g) {v0 v1 v2 : Int} (hK0 : kd v0 = 7) (h1 : InR v1) (h2 : InR v2) : Go Φ pr_P fN 1 (fM_apart g v0 v1 v2) d (pr_P 148) 0 (ev_loc (pr_P 148).1 [(sR v0), (sI v1), (sI v2)]) [] g 0 0 := by
  show Go Φ pr_P fN 1 (fM_apart g v0 v1 v2) d pr_m148 0 [some (sR v0), some (sI v1), some (sI v2)] [] g 0 0
  unfold fM_apart
  refine go_aload kk148_0.1.1.1.1.1 rfl ?_
  refine go_iload kk148_0.1.1.1.1.2 rfl ?_
  refine go_iload kk148_0.1.1.1.2 rfl ?_
  refine go_callN3 kk148_0.1.1.2.1.1 rfl rfl rfl ⟨by decide, _, rfl, hK0⟩ ⟨Nat.zero_le _, Nat.zero_le _⟩ (by omega) (tfM_anyGone (by omega) hg hK0  h1 h2) (fun y1 g3 r2 e4 => ?_)
  refine go_ifeq kk148_0.1.1.2.1.2 (inR_b r2) (fun c5 => ?_) (fun c6 => ?_)
  · refine go_aload kk148_0.1.2.1.1.2 rfl ?_
    refine go_iload kk148_0.1.2.1.2 rfl ?_
    refine go_callP1 kk148_0.1.2.2.1.1 rfl rfl rfl ⟨by decide, _, rfl, hK0⟩ ⟨Nat.zero_le _, Nat.zero_le _⟩ (by omega) (tfM_deep (by omega) e4 hK0  h1) (fun y7 r8 => ?_)
    refine go_aload kk148_0.1.2.2.1.2 rfl ?_
    refine go_iload kk148_0.1.2.2.2 rfl ?_
    refine go_callP1 kk148_0.2.1.1.1.1 rfl rfl rfl ⟨by decide, _, rfl, hK0⟩ ⟨Nat.zero_le _, Nat.zero_le _⟩ (by omega) (tfM_deep (by omega) e4 hK0  h2) (fun y11 r12 => ?_)
    refine go_iadd kk148_0.2.1.1.1.2 ?_
    refine go_int kk148_0.2.1.1.2 2 rfl ?_
    refine go_aload kk148_0.2.1.2.1.1 rfl ?_
    refine go_aload kk148_0.2.1.2.1.2 rfl ?_
    refine go_iload kk148_0.2.1.2.2 rfl ?_
    refine go_iload kk148_0.2.2.1.1.1 rfl ?_
    refine go_callP1 kk148_0.2.2.1.1.2 rfl rfl rfl ⟨by decide, _, rfl, hK0⟩ ⟨Nat.zero_le _, Nat.zero_le _⟩ (by omega) (tfM_meets (by omega) e4 hK0  h1 h2) (fun y15 r16 => ?_)
    refine go_callP1 kk148_0.2.2.1.2 rfl rfl rfl ⟨by decide, _, rfl, hK0⟩ ⟨Nat.zero_le _, Nat.zero_le _⟩ (by omega) (tfM_deep (by omega) e4 hK0  r16) (fun y19 r20 => ?_)
    refine go_ibin kk148_0.2.2.2.1.1 ?_
    refine go_isub kk148_0.2.2.2.1.2 ?_
    exact go_iret kk148_0.2.2.2.2 e4 (inR_w32 _) ⟨Nat.zero_le _, Nat.zero_le _⟩ rfl
  · refine go_int kk148_0.1.1.2.2 0 rfl ?_
    refine go_goto kk148_0.1.2.1.1.1 ?_
    exact go_iret kk148_0.2.2.2.2 e4 (inR_b (Or.inl rfl)) ⟨Nat.zero_le _, Nat.zero_le _⟩ rfl
theorem tbM_belowOf_4 {Φ : ev_P} {d : Nat} (hd : 1 ≤ d) {g : gH} (hg : HR g) {v0 v1 : Int} (hK0 : kd v0 = 7) (h1 : InR v1) {X4 : Int → Int → Option Int} (HX4 : ∀ (v2 : Int) (h2 : InR v2) (v3 : Int) (h3 : InR v3), Go Φ pr_P (fP g) 1 (X4 v2 v3) d pr_m149 4 [some (sR v0), some (sI v1), some (sI v2), some (sI v3)] [] g 0 0) : ∀ (v2 : Int) (h2 : InR v2) (v3 : Int) (h3 : InR v3), Go Φ pr_P (fP g) 1 (bM_belowOf_4 g v0 v1 X4 v2 v3) d pr_m149 4 [some (sR v0), some (sI v1), some (sI v2), some (sI v3)] [] g 0 0 := by
  intro v2 h2 v3 h3
  unfold bM_belowOf_4
  refine go_iload kk149_0.1.1.2.1.1 rfl ?_
  refine go_aload kk149_0.1.1.2.1.2 rfl ?_
  refine go_getR (bI := 0) kk149_0.1.1.2.2.1 hg hK0 (by decide) rfl rfl (fun r1 => ?_)
  refine go_int kk149_0.1.1.2.2.2 0 rfl ?_
  refine go_ck (fun q3 => ?_)
  refine go_iald kk149_0.1.2.1.1.1 hg q3 (fun r2 => ?_)
  refine go_cmlt kk149_0.1.2.1.1.2 h3 r2 (fun c4 => ?_) (fun c5 => ?_)
  · refine go_iload kk149_0.1.2.1.2.1 rfl ?_
    refine go_aload kk149_0.1.2.1.2.2 rfl ?_
    refine go_iload kk149_0.1.2.2.1.1 rfl ?_
    refine go_callP3 kk149_0.1.2.2.1.2 rfl rfl rfl ⟨by decide, _, rfl, hK0⟩ ⟨Nat.zero_le _, Nat.zero_le _⟩ (by omega) (tfM_runs (by omega) hg hK0  h3) (fun y6 r7 => ?_)
    refine go_ifeq kk149_0.1.2.2.2 (inR_b r7) (fun c10 => ?_) (fun c11 => ?_)
    · refine go_int kk149_0.2.2.1.1.1 0 rfl ?_
      refine go_iadd kk149_0.2.2.1.1.2 ?_
      refine go_istore kk149_0.2.2.1.2.1 rfl (loc2 := [some (sR v0), some (sI v1), some (sI (w32 (v2 + 0))), some (sI v3)]) rfl ?_
      refine go_iinc kk149_0.2.2.1.2.2 rfl rfl 1 rfl (loc2 := [some (sR v0), some (sI v1), some (sI (w32 (v2 + 0))), some (sI (w32 (v3 + 1)))]) rfl ?_
      refine go_goto kk149_0.2.2.2.1.1 ?_
      exact HX4 (w32 (v2 + 0)) (inR_w32 _) (w32 (v3 + 1)) (inR_w32 _)
    · refine go_aload kk149_0.2.1.1.1.1 rfl ?_
      refine go_iload kk149_0.2.1.1.1.2 rfl ?_
      refine go_iload kk149_0.2.1.1.2.1 rfl ?_
      refine go_callP3 kk149_0.2.1.1.2.2 rfl rfl rfl ⟨by decide, _, rfl, hK0⟩ ⟨Nat.zero_le _, Nat.zero_le _⟩ (by omega) (tfM_isOver (by omega) hg hK0  h1 h3) (fun y12 r13 => ?_)
      refine go_ifeq kk149_0.2.1.2.1.1 (inR_b r13) (fun c16 => ?_) (fun c17 => ?_)
      · refine go_int kk149_0.2.2.1.1.1 0 rfl ?_
        refine go_iadd kk149_0.2.2.1.1.2 ?_
        refine go_istore kk149_0.2.2.1.2.1 rfl (loc2 := [some (sR v0), some (sI v1), some (sI (w32 (v2 + 0))), some (sI v3)]) rfl ?_
        refine go_iinc kk149_0.2.2.1.2.2 rfl rfl 1 rfl (loc2 := [some (sR v0), some (sI v1), some (sI (w32 (v2 + 0))), some (sI (w32 (v3 + 1)))]) rfl ?_
        refine go_goto kk149_0.2.2.2.1.1 ?_
        exact HX4 (w32 (v2 + 0)) (inR_w32 _) (w32 (v3 + 1)) (inR_w32 _)
      · refine go_int kk149_0.2.1.2.1.2 1 rfl ?_
        refine go_goto kk149_0.2.1.2.2 ?_
        refine go_iadd kk149_0.2.2.1.1.2 ?_
        refine go_istore kk149_0.2.2.1.2.1 rfl (loc2 := [some (sR v0), some (sI v1), some (sI (w32 (v2 + 1))), some (sI v3)]) rfl ?_
        refine go_iinc kk149_0.2.2.1.2.2 rfl rfl 1 rfl (loc2 := [some (sR v0), some (sI v1), some (sI (w32 (v2 + 1))), some (sI (w32 (v3 + 1)))]) rfl ?_
        refine go_goto kk149_0.2.2.2.1.1 ?_
        exact HX4 (w32 (v2 + 1)) (inR_w32 _) (w32 (v3 + 1)) (inR_w32 _)
  · refine go_iload kk149_0.2.2.2.1.2 rfl ?_
    exact go_iret kk149_0.2.2.2.2 hg h2 ⟨Nat.zero_le _, Nat.zero_le _⟩ rfl
theorem tlM_belowOf_4 {Φ : ev_P} {d : Nat} (hd : 1 ≤ d) {g : gH} (hg : HR g) {v0 v1 : Int} (hK0 : kd v0 = 7) (h1 : InR v1) : ∀ n : Nat, ∀ (v2 : Int) (h2 : InR v2) (v3 : Int) (h3 : InR v3), Go Φ pr_P (fP g) 1 (lM_belowOf_4 g v0 v1 n v2 v3) d pr_m149 4 [some (sR v0), some (sI v1), some (sI v2), some (sI v3)] [] g 0 0 := by
  intro n
  induction n with
  | zero => intros; exact go_none
  | succ n ih => exact tbM_belowOf_4 hd hg hK0 h1 ih
theorem tfM_belowOf {Φ : ev_P} {d : Nat} (hd : 1 ≤ d) {g : gH} (hg : HR g) {v0 v1 : Int} (hK0 : kd v0 = 7) (h1 : InR v1) : Go Φ pr_P (fP g) 1 (fM_belowOf g v0 v1) d (pr_P 149) 0 (ev_loc (pr_P 149).1 [(sR v0), (sI v1)]) [] g 0 0 := by
  show Go Φ pr_P (fP g) 1 (fM_belowOf g v0 v1) d pr_m149 0 [some (sR v0), some (sI v1), none, none] [] g 0 0
  unfold fM_belowOf
  refine go_int kk149_0.1.1.1.1.1 0 rfl ?_
  refine go_istore kk149_0.1.1.1.1.2 rfl (loc2 := [some (sR v0), some (sI v1), some (sI 0), none]) rfl ?_
  refine go_int kk149_0.1.1.1.2.1 1 rfl ?_
  refine go_istore kk149_0.1.1.1.2.2 rfl (loc2 := [some (sR v0), some (sI v1), some (sI 0), some (sI 1)]) rfl ?_
  exact tlM_belowOf_4 hd hg hK0 h1 fu 0 (inR_b (Or.inl rfl)) 1 (inR_b (Or.inr rfl))
theorem tfM_below {Φ : ev_P} {d : Nat} (hd : 2 ≤ d) {g : gH} (hg : HR g) {v0 v1 : Int} (hK0 : kd v0 = 7) (h1 : InR v1) : Go Φ pr_P fN 1 (fM_below g v0 v1) d (pr_P 150) 0 (ev_loc (pr_P 150).1 [(sR v0), (sI v1)]) [] g 0 0 := by
  show Go Φ pr_P fN 1 (fM_below g v0 v1) d pr_m150 0 [some (sR v0), some (sI v1)] [] g 0 0
  unfold fM_below
  refine go_aload kk150_0.1.1.1.1 rfl ?_
  refine go_iload kk150_0.1.1.1.2 rfl ?_
  refine go_callN3 kk150_0.1.1.2.1 rfl rfl rfl ⟨by decide, _, rfl, hK0⟩ ⟨Nat.zero_le _, Nat.zero_le _⟩ (by omega) (tfM_noProcess (by omega) hg hK0  h1) (fun y1 g3 r2 e4 => ?_)
  refine go_ifeq kk150_0.1.1.2.2 (inR_b r2) (fun c5 => ?_) (fun c6 => ?_)
  · refine go_aload kk150_0.1.2.1.1 rfl ?_
    refine go_iload kk150_0.1.2.1.2 rfl ?_
    refine go_callP3 kk150_0.1.2.2 rfl rfl rfl ⟨by decide, _, rfl, hK0⟩ ⟨Nat.zero_le _, Nat.zero_le _⟩ (by omega) (tfM_runs (by omega) e4 hK0  h1) (fun y7 r8 => ?_)
    refine go_ifeq kk150_0.2.1.1.1 (inR_b r8) (fun c11 => ?_) (fun c12 => ?_)
    · refine go_int kk150_0.2.1.1.2 0 rfl ?_
      refine go_goto kk150_0.2.1.2.1 ?_
      exact go_iret kk150_0.2.2.2 e4 (inR_b (Or.inl rfl)) ⟨Nat.zero_le _, Nat.zero_le _⟩ rfl
    · refine go_aload kk150_0.2.1.2.2 rfl ?_
      refine go_iload kk150_0.2.2.1.1 rfl ?_
      refine go_callP1 kk150_0.2.2.1.2 rfl rfl rfl ⟨by decide, _, rfl, hK0⟩ ⟨Nat.zero_le _, Nat.zero_le _⟩ (by omega) (tfM_belowOf (by omega) e4 hK0  h1) (fun y13 r14 => ?_)
      exact go_iret kk150_0.2.2.2 e4 r14 ⟨Nat.zero_le _, Nat.zero_le _⟩ rfl
  · refine go_int kk150_0.2.1.1.2 0 rfl ?_
    refine go_goto kk150_0.2.1.2.1 ?_
    exact go_iret kk150_0.2.2.2 e4 (inR_b (Or.inl rfl)) ⟨Nat.zero_le _, Nat.zero_le _⟩ rfl
theorem tbM_runningMany_4 {Φ : ev_P} {d : Nat} (hd : 1 ≤ d) {g : gH} (hg : HR g) {v0 : Int} (hK0 : kd v0 = 7) {X4 : Int → Int → Option Int} (HX4 : ∀ (v1 : Int) (h1 : InR v1) (v2 : Int) (h2 : InR v2), Go Φ pr_P (fP g) 1 (X4 v1 v2) d pr_m90 4 [some (sR v0), some (sI v1), some (sI v2)] [] g 0 0) : ∀ (v1 : Int) (h1 : InR v1) (v2 : Int) (h2 : InR v2), Go Φ pr_P (fP g) 1 (bM_runningMany_4 g v0 X4 v1 v2) d pr_m90 4 [some (sR v0), some (sI v1), some (sI v2)] [] g 0 0 := by
  intro v1 h1 v2 h2
  unfold bM_runningMany_4
  refine go_iload kk90_0.1.1.2.1.2 rfl ?_
  refine go_aload kk90_0.1.1.2.2 rfl ?_
  refine go_getR (bI := 0) kk90_0.1.2.1.1.1 hg hK0 (by decide) rfl rfl (fun r1 => ?_)
  refine go_int kk90_0.1.2.1.1.2 0 rfl ?_
  refine go_ck (fun q3 => ?_)
  refine go_iald kk90_0.1.2.1.2 hg q3 (fun r2 => ?_)
  refine go_cmlt kk90_0.1.2.2.1.1 h2 r2 (fun c4 => ?_) (fun c5 => ?_)
  · refine go_iload kk90_0.1.2.2.1.2 rfl ?_
    refine go_aload kk90_0.1.2.2.2 rfl ?_
    refine go_iload kk90_0.2.1.1.1.1 rfl ?_
    refine go_callP3 kk90_0.2.1.1.1.2 rfl rfl rfl ⟨by decide, _, rfl, hK0⟩ ⟨Nat.zero_le _, Nat.zero_le _⟩ (by omega) (tfM_runs (by omega) hg hK0  h2) (fun y6 r7 => ?_)
    refine go_ifeq kk90_0.2.1.1.2 (inR_b r7) (fun c10 => ?_) (fun c11 => ?_)
    · refine go_int kk90_0.2.1.2.2 0 rfl ?_
      refine go_iadd kk90_0.2.2.1.1.1 ?_
      refine go_istore kk90_0.2.2.1.1.2 rfl (loc2 := [some (sR v0), some (sI (w32 (v1 + 0))), some (sI v2)]) rfl ?_
      refine go_iinc kk90_0.2.2.1.2 rfl rfl 1 rfl (loc2 := [some (sR v0), some (sI (w32 (v1 + 0))), some (sI (w32 (v2 + 1)))]) rfl ?_
      refine go_goto kk90_0.2.2.2.1.1 ?_
      exact HX4 (w32 (v1 + 0)) (inR_w32 _) (w32 (v2 + 1)) (inR_w32 _)
    · refine go_int kk90_0.2.1.2.1.1 1 rfl ?_
      refine go_goto kk90_0.2.1.2.1.2 ?_
      refine go_iadd kk90_0.2.2.1.1.1 ?_
      refine go_istore kk90_0.2.2.1.1.2 rfl (loc2 := [some (sR v0), some (sI (w32 (v1 + 1))), some (sI v2)]) rfl ?_
      refine go_iinc kk90_0.2.2.1.2 rfl rfl 1 rfl (loc2 := [some (sR v0), some (sI (w32 (v1 + 1))), some (sI (w32 (v2 + 1)))]) rfl ?_
      refine go_goto kk90_0.2.2.2.1.1 ?_
      exact HX4 (w32 (v1 + 1)) (inR_w32 _) (w32 (v2 + 1)) (inR_w32 _)
  · refine go_iload kk90_0.2.2.2.1.2 rfl ?_
    exact go_iret kk90_0.2.2.2.2 hg h1 ⟨Nat.zero_le _, Nat.zero_le _⟩ rfl
theorem tlM_runningMany_4 {Φ : ev_P} {d : Nat} (hd : 1 ≤ d) {g : gH} (hg : HR g) {v0 : Int} (hK0 : kd v0 = 7) : ∀ n : Nat, ∀ (v1 : Int) (h1 : InR v1) (v2 : Int) (h2 : InR v2), Go Φ pr_P (fP g) 1 (lM_runningMany_4 g v0 n v1 v2) d pr_m90 4 [some (sR v0), some (sI v1), some (sI v2)] [] g 0 0 := by
  intro n
  induction n with
  | zero => intros; exact go_none
  | succ n ih => exact tbM_runningMany_4 hd hg hK0 ih
theorem tfM_runningMany {Φ : ev_P} {d : Nat} (hd : 1 ≤ d) {g : gH} (hg : HR g) {v0 : Int} (hK0 : kd v0 = 7) : Go Φ pr_P (fP g) 1 (fM_runningMany g v0) d (pr_P 90) 0 (ev_loc (pr_P 90).1 [(sR v0)]) [] g 0 0 := by
  show Go Φ pr_P (fP g) 1 (fM_runningMany g v0) d pr_m90 0 [some (sR v0), none, none] [] g 0 0
  unfold fM_runningMany
  refine go_int kk90_0.1.1.1.1.1 0 rfl ?_
  refine go_istore kk90_0.1.1.1.1.2 rfl (loc2 := [some (sR v0), some (sI 0), none]) rfl ?_
  refine go_int kk90_0.1.1.1.2 0 rfl ?_
  refine go_istore kk90_0.1.1.2.1.1 rfl (loc2 := [some (sR v0), some (sI 0), some (sI 0)]) rfl ?_
  exact tlM_runningMany_4 hd hg hK0 fu 0 (inR_b (Or.inl rfl)) 0 (inR_b (Or.inl rfl))
theorem tjM_nextChild_28 {Φ : ev_P} {d : Nat} (hd : 1 ≤ d) {g : gH} (hg : HR g) {v0 v3 : Int} (hK0 : kd v0 = 7) (h3 : InR v3) (u1 : Option ev_V) (w1 : nwo u1) (u2 : Option ev_V) (w2 : nwo u2) : Go Φ pr_P (fP g) 1 (jM_nextChild_28 g v0 v3 ) d pr_m152 28 [some (sR v0), u1, u2, some (sI v3)] [] g 0 0 := by
  unfold jM_nextChild_28
  refine go_iload kk152_0.2.1.1.2.2 rfl ?_
  refine go_aload kk152_0.2.1.2.1.1 rfl ?_
  refine go_getR (bI := 0) kk152_0.2.1.2.1.2 hg hK0 (by decide) rfl rfl (fun r12 => ?_)
  refine go_int kk152_0.2.1.2.2 0 rfl ?_
  refine go_ck (fun q14 => ?_)
  refine go_iald kk152_0.2.2.1.1.1 hg q14 (fun r13 => ?_)
  refine go_cmlt kk152_0.2.2.1.1.2 h3 r13 (fun c15 => ?_) (fun c16 => ?_)
  · refine go_iload kk152_0.2.2.1.2 rfl ?_
    refine go_goto kk152_0.2.2.2.1.1 ?_
    exact go_iret kk152_0.2.2.2.2 hg h3 ⟨Nat.zero_le _, Nat.zero_le _⟩ rfl
  · refine go_int kk152_0.2.2.2.1.2 (-1) rfl ?_
    exact go_iret kk152_0.2.2.2.2 hg (inR_of (by decide)) ⟨Nat.zero_le _, Nat.zero_le _⟩ rfl
theorem tbM_nextChild_2 {Φ : ev_P} {d : Nat} (hd : 1 ≤ d) {g : gH} (hg : HR g) {v0 v1 : Int} (hK0 : kd v0 = 7) (h1 : InR v1) {X2 : Int → Option Int} (HX2 : ∀ (v3 : Int) (h3 : InR v3) (u2 : Option ev_V) (w2 : nwo u2), Go Φ pr_P (fP g) 1 (X2 v3) d pr_m152 2 [some (sR v0), some (sI v1), u2, some (sI v3)] [] g 0 0) : ∀ (v3 : Int) (h3 : InR v3) (u2 : Option ev_V) (w2 : nwo u2), Go Φ pr_P (fP g) 1 (bM_nextChild_2 g v0 v1 X2 v3) d pr_m152 2 [some (sR v0), some (sI v1), u2, some (sI v3)] [] g 0 0 := by
  intro v3 h3 u2 w2
  unfold bM_nextChild_2
  refine go_iload kk152_0.1.1.1.2.1 rfl ?_
  refine go_aload kk152_0.1.1.1.2.2 rfl ?_
  refine go_getR (bI := 0) kk152_0.1.1.2.1.1 hg hK0 (by decide) rfl rfl (fun r1 => ?_)
  refine go_int kk152_0.1.1.2.1.2 0 rfl ?_
  refine go_ck (fun q3 => ?_)
  refine go_iald kk152_0.1.1.2.2 hg q3 (fun r2 => ?_)
  refine go_cmlt kk152_0.1.2.1.1.1 h3 r2 (fun c4 => ?_) (fun c5 => ?_)
  · refine go_aload kk152_0.1.2.1.1.2 rfl ?_
    refine go_iload kk152_0.1.2.1.2 rfl ?_
    refine go_iload kk152_0.1.2.2.1.1 rfl ?_
    refine go_int kk152_0.1.2.2.1.2 0 rfl ?_
    refine go_callP3 kk152_0.1.2.2.2 rfl rfl rfl ⟨by decide, _, rfl, hK0⟩ ⟨Nat.zero_le _, Nat.zero_le _⟩ (by omega) (tfM_isChild (by omega) hg hK0  h3 h1 (inR_b (Or.inl rfl))) (fun y6 r7 => ?_)
    refine go_ifeq kk152_0.2.1.1.1.1 (inR_b r7) (fun c10 => ?_) (fun c11 => ?_)
    · refine go_iinc kk152_0.2.1.1.1.2 rfl w2 1 rfl (loc2 := [some (sR v0), some (sI v1), u2, some (sI (w32 (v3 + 1)))]) rfl ?_
      refine go_goto kk152_0.2.1.1.2.1 ?_
      exact HX2 (w32 (v3 + 1)) (inR_w32 _) u2 w2
    · exact tjM_nextChild_28 hd hg hK0 h3 (some (sI v1)) rfl u2 w2
  · exact tjM_nextChild_28 hd hg hK0 h3 (some (sI v1)) rfl u2 w2
theorem tlM_nextChild_2 {Φ : ev_P} {d : Nat} (hd : 1 ≤ d) {g : gH} (hg : HR g) {v0 v1 : Int} (hK0 : kd v0 = 7) (h1 : InR v1) : ∀ n : Nat, ∀ (v3 : Int) (h3 : InR v3) (u2 : Option ev_V) (w2 : nwo u2), Go Φ pr_P (fP g) 1 (lM_nextChild_2 g v0 v1 n v3) d pr_m152 2 [some (sR v0), some (sI v1), u2, some (sI v3)] [] g 0 0 := by
  intro n
  induction n with
  | zero => intros; exact go_none
  | succ n ih => exact tbM_nextChild_2 hd hg hK0 h1 ih
theorem tfM_nextChild {Φ : ev_P} {d : Nat} (hd : 1 ≤ d) {g : gH} (hg : HR g) {v0 v1 v2 : Int} (hK0 : kd v0 = 7) (h1 : InR v1) (h2 : InR v2) : Go Φ pr_P (fP g) 1 (fM_nextChild g v0 v1 v2) d (pr_P 152) 0 (ev_loc (pr_P 152).1 [(sR v0), (sI v1), (sI v2)]) [] g 0 0 := by
  show Go Φ pr_P (fP g) 1 (fM_nextChild g v0 v1 v2) d pr_m152 0 [some (sR v0), some (sI v1), some (sI v2), none] [] g 0 0
  unfold fM_nextChild
  refine go_iload kk152_0.1.1.1.1.1 rfl ?_
  refine go_istore kk152_0.1.1.1.1.2 rfl (loc2 := [some (sR v0), some (sI v1), some (sI v2), some (sI v2)]) rfl ?_
  exact tlM_nextChild_2 hd hg hK0 h1 fu v2 h2 (some (sI v2)) rfl
theorem tbM_walkOn_9 {Φ : ev_P} {d : Nat} (hd : 2 ≤ d) {g : gH} (hg : HR g) {v0 : Int} (hK0 : kd v0 = 7) {X9 : Int → Int → Option Int} (HX9 : ∀ (v2 : Int) (h2 : InR v2) (v3 : Int) (h3 : InR v3) (u1 : Option ev_V) (w1 : nwo u1), Go Φ pr_P (fP g) 1 (X9 v2 v3) d pr_m151 9 [some (sR v0), u1, some (sI v2), some (sI v3)] [] g 0 0) : ∀ (v2 : Int) (h2 : InR v2) (v3 : Int) (h3 : InR v3) (u1 : Option ev_V) (w1 : nwo u1), Go Φ pr_P (fP g) 1 (bM_walkOn_9 g v0 X9 v2 v3) d pr_m151 9 [some (sR v0), u1, some (sI v2), some (sI v3)] [] g 0 0 := by
  intro v2 h2 v3 h3 u1 w1
  unfold bM_walkOn_9
  refine go_iload kk151_0.1.1.2.2.1 rfl ?_
  refine go_int kk151_0.1.1.2.2.2 (-1) rfl ?_
  refine go_cmeq kk151_0.1.2.1.1.1 h2 (inR_of (by decide)) (fun c5 => ?_) (fun c6 => ?_)
  · refine go_iload kk151_0.1.2.1.1.2 rfl ?_
    refine go_ifeq kk151_0.1.2.1.2.1 h3 (fun c7 => ?_) (fun c8 => ?_)
    · refine go_iload kk151_0.2.2.2.2.1 rfl ?_
      exact go_iret kk151_0.2.2.2.2.2 hg h2 ⟨Nat.zero_le _, Nat.zero_le _⟩ rfl
    · refine go_aload kk151_0.1.2.1.2.2 rfl ?_
      refine go_aload kk151_0.1.2.2.1.1 rfl ?_
      refine go_getR (bI := 0) kk151_0.1.2.2.1.2 hg hK0 (by decide) rfl rfl (fun r9 => ?_)
      refine go_int kk151_0.1.2.2.2.1 60 rfl ?_
      refine go_iload kk151_0.1.2.2.2.2 rfl ?_
      refine go_iadd kk151_0.2.1.1.1.1.1 ?_
      refine go_ck (fun q11 => ?_)
      refine go_iald kk151_0.2.1.1.1.1.2 hg q11 (fun r10 => ?_)
      refine go_iload kk151_0.2.1.1.1.2 rfl ?_
      refine go_int kk151_0.2.1.1.2.1 1 rfl ?_
      refine go_iadd kk151_0.2.1.1.2.2 ?_
      refine go_callP1 kk151_0.2.1.2.1.1 rfl rfl rfl ⟨by decide, _, rfl, hK0⟩ ⟨Nat.zero_le _, Nat.zero_le _⟩ (by omega) (tfM_nextChild (by omega) hg hK0  r10 (inR_w32 _)) (fun y12 r13 => ?_)
      refine go_istore kk151_0.2.1.2.1.2 w1 (loc2 := [some (sR v0), u1, some (sI y12), some (sI v3)]) rfl ?_
      refine go_aload kk151_0.2.1.2.2.1 rfl ?_
      refine go_getR (bI := 0) kk151_0.2.1.2.2.2 hg hK0 (by decide) rfl rfl (fun r16 => ?_)
      refine go_int kk151_0.2.2.1.1.1 60 rfl ?_
      refine go_iload kk151_0.2.2.1.1.2 rfl ?_
      refine go_iadd kk151_0.2.2.1.2.1 ?_
      refine go_ck (fun q18 => ?_)
      refine go_iald kk151_0.2.2.1.2.2 hg q18 (fun r17 => ?_)
      refine go_istore kk151_0.2.2.2.1.1 rfl (loc2 := [some (sR v0), u1, some (sI y12), some (sI (g (g v0 0) (w32 (60 + v3))))]) rfl ?_
      refine go_goto kk151_0.2.2.2.1.2 ?_
      exact HX9 y12 r13 (g (g v0 0) (w32 (60 + v3))) r17 u1 w1
  · refine go_iload kk151_0.2.2.2.2.1 rfl ?_
    exact go_iret kk151_0.2.2.2.2.2 hg h2 ⟨Nat.zero_le _, Nat.zero_le _⟩ rfl
theorem tlM_walkOn_9 {Φ : ev_P} {d : Nat} (hd : 2 ≤ d) {g : gH} (hg : HR g) {v0 : Int} (hK0 : kd v0 = 7) : ∀ n : Nat, ∀ (v2 : Int) (h2 : InR v2) (v3 : Int) (h3 : InR v3) (u1 : Option ev_V) (w1 : nwo u1), Go Φ pr_P (fP g) 1 (lM_walkOn_9 g v0 n v2 v3) d pr_m151 9 [some (sR v0), u1, some (sI v2), some (sI v3)] [] g 0 0 := by
  intro n
  induction n with
  | zero => intros; exact go_none
  | succ n ih => exact tbM_walkOn_9 hd hg hK0 ih
theorem tfM_walkOn {Φ : ev_P} {d : Nat} (hd : 2 ≤ d) {g : gH} (hg : HR g) {v0 v1 : Int} (hK0 : kd v0 = 7) (h1 : InR v1) : Go Φ pr_P (fP g) 1 (fM_walkOn g v0 v1) d (pr_P 151) 0 (ev_loc (pr_P 151).1 [(sR v0), (sI v1)]) [] g 0 0 := by
  show Go Φ pr_P (fP g) 1 (fM_walkOn g v0 v1) d pr_m151 0 [some (sR v0), some (sI v1), none, none] [] g 0 0
  unfold fM_walkOn
  refine go_aload kk151_0.1.1.1.1.1.1 rfl ?_
  refine go_iload kk151_0.1.1.1.1.1.2 rfl ?_
  refine go_int kk151_0.1.1.1.1.2 0 rfl ?_
  refine go_callP1 kk151_0.1.1.1.2.1 rfl rfl rfl ⟨by decide, _, rfl, hK0⟩ ⟨Nat.zero_le _, Nat.zero_le _⟩ (by omega) (tfM_nextChild (by omega) hg hK0  h1 (inR_b (Or.inl rfl))) (fun y1 r2 => ?_)
  refine go_istore kk151_0.1.1.1.2.2 rfl (loc2 := [some (sR v0), some (sI v1), some (sI y1), none]) rfl ?_
  refine go_iload kk151_0.1.1.2.1.1 rfl ?_
  refine go_istore kk151_0.1.1.2.1.2 rfl (loc2 := [some (sR v0), some (sI v1), some (sI y1), some (sI v1)]) rfl ?_
  exact tlM_walkOn_9 hd hg hK0 fu y1 r2 v1 h1 (some (sI v1)) rfl
theorem tbM_walked_38 {Φ : ev_P} {d : Nat} (hd : 3 ≤ d) {g : gH} (hg : HR g) {v0 v1 : Int} (hK0 : kd v0 = 7) (h1 : InR v1) {X38 : Int → Int → Option (Int × gH)} (HX38 : ∀ (v2 : Int) (h2 : InR v2) (v3 : Int) (h3 : InR v3), Go Φ pr_P fN 1 (X38 v2 v3) d pr_m153 38 [some (sR v0), some (sI v1), some (sI v2), some (sI v3)] [] g 0 0) : ∀ (v2 : Int) (h2 : InR v2) (v3 : Int) (h3 : InR v3), Go Φ pr_P fN 1 (bM_walked_38 g v0 v1 X38 v2 v3) d pr_m153 38 [some (sR v0), some (sI v1), some (sI v2), some (sI v3)] [] g 0 0 := by
  intro v2 h2 v3 h3
  unfold bM_walked_38
  refine go_iload kk153_0.2.1.2.1.2 rfl ?_
  refine go_iload kk153_0.2.1.2.2.1 rfl ?_
  refine go_cmlt kk153_0.2.1.2.2.2 h3 h1 (fun c20 => ?_) (fun c21 => ?_)
  · refine go_aload kk153_0.2.2.1.1.1 rfl ?_
    refine go_iload kk153_0.2.2.1.1.2 rfl ?_
    refine go_callP1 kk153_0.2.2.1.2.1 rfl rfl rfl ⟨by decide, _, rfl, hK0⟩ ⟨Nat.zero_le _, Nat.zero_le _⟩ (by omega) (tfM_walkOn (by omega) hg hK0  h2) (fun y22 r23 => ?_)
    refine go_istore kk153_0.2.2.1.2.2 rfl (loc2 := [some (sR v0), some (sI v1), some (sI y22), some (sI v3)]) rfl ?_
    refine go_iinc kk153_0.2.2.2.1.1 rfl rfl 1 rfl (loc2 := [some (sR v0), some (sI v1), some (sI y22), some (sI (w32 (v3 + 1)))]) rfl ?_
    refine go_goto kk153_0.2.2.2.1.2 ?_
    exact HX38 y22 r23 (w32 (v3 + 1)) (inR_w32 _)
  · refine go_iload kk153_0.2.2.2.2.1 rfl ?_
    exact go_iret kk153_0.2.2.2.2.2 hg h2 ⟨Nat.zero_le _, Nat.zero_le _⟩ rfl
theorem tlM_walked_38 {Φ : ev_P} {d : Nat} (hd : 3 ≤ d) {g : gH} (hg : HR g) {v0 v1 : Int} (hK0 : kd v0 = 7) (h1 : InR v1) : ∀ n : Nat, ∀ (v2 : Int) (h2 : InR v2) (v3 : Int) (h3 : InR v3), Go Φ pr_P fN 1 (lM_walked_38 g v0 v1 n v2 v3) d pr_m153 38 [some (sR v0), some (sI v1), some (sI v2), some (sI v3)] [] g 0 0 := by
  intro n
  induction n with
  | zero => intros; exact go_none
  | succ n ih => exact tbM_walked_38 hd hg hK0 h1 ih
theorem tjM_walked_25 {Φ : ev_P} {d : Nat} (hd : 3 ≤ d) {g : gH} (hg : HR g) {v0 v1 : Int} (hK0 : kd v0 = 7) (h1 : InR v1) {s0 s1 : Int} (z0 : RfR s0) (z1 : B01 s1) (u2 : Option ev_V) (w2 : nwo u2) (u3 : Option ev_V) (w3 : nwo u3) : Go Φ pr_P fN 1 (jM_walked_25 g v0 v1 s0 s1 ) d pr_m153 25 [some (sR v0), some (sI v1), u2, u3] [(sI s1), (sR s0)] g 0 0 := by
  unfold jM_walked_25
  refine go_int kk153_0.1.2.2.1.2 1 rfl ?_
  refine go_ck (fun q13 => ?_)
  refine go_callN3 kk153_0.1.2.2.2.1 rfl rfl rfl ⟨by decide, _, rfl, q13⟩ ⟨Nat.zero_le _, Nat.zero_le _⟩ (by omega) (tfM_fails (by omega) hg q13  z1 (inR_b (Or.inr rfl))) (fun y14 g16 r15 e17 => ?_)
  refine go_ifeq kk153_0.1.2.2.2.2 (inR_b r15) (fun c18 => ?_) (fun c19 => ?_)
  · refine go_int kk153_0.2.1.1.1.2 0 rfl ?_
    refine go_istore kk153_0.2.1.1.2.1 rfl (loc2 := [some (sR v0), some (sI v1), some (sI 0), u3]) rfl ?_
    refine go_int kk153_0.2.1.1.2.2 0 rfl ?_
    refine go_istore kk153_0.2.1.2.1.1 rfl (loc2 := [some (sR v0), some (sI v1), some (sI 0), some (sI 0)]) rfl ?_
    exact tlM_walked_38 hd e17 hK0 h1 fu 0 (inR_b (Or.inl rfl)) 0 (inR_b (Or.inl rfl))
  · refine go_int kk153_0.2.1.1.1.1.1 0 rfl ?_
    exact go_iret kk153_0.2.1.1.1.1.2 e17 (inR_b (Or.inl rfl)) ⟨Nat.zero_le _, Nat.zero_le _⟩ rfl
theorem tfM_walked {Φ : ev_P} {d : Nat} (hd : 3 ≤ d) {g : gH} (hg : HR g) {v0 v1 : Int} (hK0 : kd v0 = 7) (h1 : InR v1) : Go Φ pr_P fN 1 (fM_walked g v0 v1) d (pr_P 153) 0 (ev_loc (pr_P 153).1 [(sR v0), (sI v1)]) [] g 0 0 := by
  show Go Φ pr_P fN 1 (fM_walked g v0 v1) d pr_m153 0 [some (sR v0), some (sI v1), none, none] [] g 0 0
  unfold fM_walked
  refine go_aload kk153_0.1.1.1.1.1.1 rfl ?_
  refine go_int kk153_0.1.1.1.1.1.2 0 rfl ?_
  refine go_putI (bI := 8) kk153_0.1.1.1.1.2 hg hK0 (by decide) rfl rfl (inR_b (Or.inl rfl)) (fun g1 e2 => ?_)
  refine go_aload kk153_0.1.1.1.2.1 rfl ?_
  refine go_iload kk153_0.1.1.1.2.2 rfl ?_
  refine go_int kk153_0.1.1.2.1.1 0 rfl ?_
  refine go_aload kk153_0.1.1.2.1.2 rfl ?_
  refine go_callP1 kk153_0.1.1.2.2.1 rfl rfl rfl ⟨by decide, _, rfl, hK0⟩ ⟨Nat.zero_le _, Nat.zero_le _⟩ (by omega) (tfM_runningMany (by omega) e2 hK0 ) (fun y3 r4 => ?_)
  refine go_int kk153_0.1.1.2.2.2 1 rfl ?_
  refine go_isub kk153_0.1.2.1.1.1.1 ?_
  refine go_callP3 kk153_0.1.2.1.1.1.2 rfl rfl rfl trivial ⟨Nat.zero_le _, Nat.zero_le _⟩ (by omega) (tfM_inRange (by omega) e2  h1 (inR_b (Or.inl rfl)) (inR_w32 _)) (fun y7 r8 => ?_)
  refine go_ifeq kk153_0.1.2.1.1.2 (inR_b r8) (fun c11 => ?_) (fun c12 => ?_)
  · refine go_int kk153_0.1.2.1.2.1 1 rfl ?_
    refine go_goto kk153_0.1.2.1.2.2 ?_
    exact tjM_walked_25 hd e2 hK0 h1 (rfR_kd hK0 (by decide)) (Or.inr rfl) none rfl none rfl
  · refine go_int kk153_0.1.2.2.1.1 0 rfl ?_
    exact tjM_walked_25 hd e2 hK0 h1 (rfR_kd hK0 (by decide)) (Or.inl rfl) none rfl none rfl
theorem tbM_atDepth_9 {Φ : ev_P} {d : Nat} (hd : 1 ≤ d) {g : gH} (hg : HR g) {v0 v1 : Int} (hK0 : kd v0 = 7) (h1 : InR v1) {X9 : Int → Int → Option (Int × gH)} (HX9 : ∀ (v2 : Int) (h2 : InR v2) (v3 : Int) (h3 : InR v3), Go Φ pr_P fN 1 (X9 v2 v3) d pr_m154 9 [some (sR v0), some (sI v1), some (sI v2), some (sI v3)] [] g 0 0) : ∀ (v2 : Int) (h2 : InR v2) (v3 : Int) (h3 : InR v3), Go Φ pr_P fN 1 (bM_atDepth_9 g v0 v1 X9 v2 v3) d pr_m154 9 [some (sR v0), some (sI v1), some (sI v2), some (sI v3)] [] g 0 0 := by
  intro v2 h2 v3 h3
  unfold bM_atDepth_9
  refine go_iload kk154_0.1.1.2.2.2 rfl ?_
  refine go_aload kk154_0.1.2.1.1.1 rfl ?_
  refine go_getR (bI := 0) kk154_0.1.2.1.1.2 hg hK0 (by decide) rfl rfl (fun r3 => ?_)
  refine go_int kk154_0.1.2.1.2.1 0 rfl ?_
  refine go_ck (fun q5 => ?_)
  refine go_iald kk154_0.1.2.1.2.2 hg q5 (fun r4 => ?_)
  refine go_cmlt kk154_0.1.2.2.1.1 h3 r4 (fun c6 => ?_) (fun c7 => ?_)
  · refine go_iload kk154_0.1.2.2.1.2 rfl ?_
    refine go_aload kk154_0.1.2.2.2.1 rfl ?_
    refine go_iload kk154_0.1.2.2.2.2 rfl ?_
    refine go_callP3 kk154_0.2.1.1.1.1 rfl rfl rfl ⟨by decide, _, rfl, hK0⟩ ⟨Nat.zero_le _, Nat.zero_le _⟩ (by omega) (tfM_runs (by omega) hg hK0  h3) (fun y8 r9 => ?_)
    refine go_ifeq kk154_0.2.1.1.1.2 (inR_b r9) (fun c12 => ?_) (fun c13 => ?_)
    · refine go_int kk154_0.2.2.1.1.2 0 rfl ?_
      refine go_iadd kk154_0.2.2.1.2.1 ?_
      refine go_istore kk154_0.2.2.1.2.2 rfl (loc2 := [some (sR v0), some (sI v1), some (sI (w32 (v2 + 0))), some (sI v3)]) rfl ?_
      refine go_iinc kk154_0.2.2.2.1.1 rfl rfl 1 rfl (loc2 := [some (sR v0), some (sI v1), some (sI (w32 (v2 + 0))), some (sI (w32 (v3 + 1)))]) rfl ?_
      refine go_goto kk154_0.2.2.2.1.2 ?_
      exact HX9 (w32 (v2 + 0)) (inR_w32 _) (w32 (v3 + 1)) (inR_w32 _)
    · refine go_aload kk154_0.2.1.1.2.1 rfl ?_
      refine go_iload kk154_0.2.1.1.2.2 rfl ?_
      refine go_callP1 kk154_0.2.1.2.1.1 rfl rfl rfl ⟨by decide, _, rfl, hK0⟩ ⟨Nat.zero_le _, Nat.zero_le _⟩ (by omega) (tfM_deep (by omega) hg hK0  h3) (fun y14 r15 => ?_)
      refine go_iload kk154_0.2.1.2.1.2 rfl ?_
      refine go_cmeq kk154_0.2.1.2.2.1 r15 h1 (fun c18 => ?_) (fun c19 => ?_)
      · refine go_int kk154_0.2.1.2.2.2 1 rfl ?_
        refine go_goto kk154_0.2.2.1.1.1 ?_
        refine go_iadd kk154_0.2.2.1.2.1 ?_
        refine go_istore kk154_0.2.2.1.2.2 rfl (loc2 := [some (sR v0), some (sI v1), some (sI (w32 (v2 + 1))), some (sI v3)]) rfl ?_
        refine go_iinc kk154_0.2.2.2.1.1 rfl rfl 1 rfl (loc2 := [some (sR v0), some (sI v1), some (sI (w32 (v2 + 1))), some (sI (w32 (v3 + 1)))]) rfl ?_
        refine go_goto kk154_0.2.2.2.1.2 ?_
        exact HX9 (w32 (v2 + 1)) (inR_w32 _) (w32 (v3 + 1)) (inR_w32 _)
      · refine go_int kk154_0.2.2.1.1.2 0 rfl ?_
        refine go_iadd kk154_0.2.2.1.2.1 ?_
        refine go_istore kk154_0.2.2.1.2.2 rfl (loc2 := [some (sR v0), some (sI v1), some (sI (w32 (v2 + 0))), some (sI v3)]) rfl ?_
        refine go_iinc kk154_0.2.2.2.1.1 rfl rfl 1 rfl (loc2 := [some (sR v0), some (sI v1), some (sI (w32 (v2 + 0))), some (sI (w32 (v3 + 1)))]) rfl ?_
        refine go_goto kk154_0.2.2.2.1.2 ?_
        exact HX9 (w32 (v2 + 0)) (inR_w32 _) (w32 (v3 + 1)) (inR_w32 _)
  · refine go_iload kk154_0.2.2.2.2.1 rfl ?_
    exact go_iret kk154_0.2.2.2.2.2 hg h2 ⟨Nat.zero_le _, Nat.zero_le _⟩ rfl
theorem tlM_atDepth_9 {Φ : ev_P} {d : Nat} (hd : 1 ≤ d) {g : gH} (hg : HR g) {v0 v1 : Int} (hK0 : kd v0 = 7) (h1 : InR v1) : ∀ n : Nat, ∀ (v2 : Int) (h2 : InR v2) (v3 : Int) (h3 : InR v3), Go Φ pr_P fN 1 (lM_atDepth_9 g v0 v1 n v2 v3) d pr_m154 9 [some (sR v0), some (sI v1), some (sI v2), some (sI v3)] [] g 0 0 := by
  intro n
  induction n with
  | zero => intros; exact go_none
  | succ n ih => exact tbM_atDepth_9 hd hg hK0 h1 ih
theorem tfM_atDepth {Φ : ev_P} {d : Nat} (hd : 1 ≤ d) {g : gH} (hg : HR g) {v0 v1 : Int} (hK0 : kd v0 = 7) (h1 : InR v1) : Go Φ pr_P fN 1 (fM_atDepth g v0 v1) d (pr_P 154) 0 (ev_loc (pr_P 154).1 [(sR v0), (sI v1)]) [] g 0 0 := by
  show Go Φ pr_P fN 1 (fM_atDepth g v0 v1) d pr_m154 0 [some (sR v0), some (sI v1), none, none] [] g 0 0
  unfold fM_atDepth
  refine go_aload kk154_0.1.1.1.1.1 rfl ?_
  refine go_int kk154_0.1.1.1.1.2 0 rfl ?_
  refine go_putI (bI := 8) kk154_0.1.1.1.2.1 hg hK0 (by decide) rfl rfl (inR_b (Or.inl rfl)) (fun g1 e2 => ?_)
  refine go_int kk154_0.1.1.1.2.2 0 rfl ?_
  refine go_istore kk154_0.1.1.2.1.1 rfl (loc2 := [some (sR v0), some (sI v1), some (sI 0), none]) rfl ?_
  refine go_int kk154_0.1.1.2.1.2 0 rfl ?_
  refine go_istore kk154_0.1.1.2.2.1 rfl (loc2 := [some (sR v0), some (sI v1), some (sI 0), some (sI 0)]) rfl ?_
  exact tlM_atDepth_9 hd e2 hK0 h1 fu 0 (inR_b (Or.inl rfl)) 0 (inR_b (Or.inl rfl))
theorem tbM_highest_4 {Φ : ev_P} {d : Nat} (hd : 1 ≤ d) {g : gH} (hg : HR g) {v0 : Int} (hK0 : kd v0 = 7) {X4 : Int → Int → Option Int} (HX4 : ∀ (v1 : Int) (h1 : InR v1) (v2 : Int) (h2 : InR v2), Go Φ pr_P (fP g) 1 (X4 v1 v2) d pr_m155 4 [some (sR v0), some (sI v1), some (sI v2)] [] g 0 0) : ∀ (v1 : Int) (h1 : InR v1) (v2 : Int) (h2 : InR v2), Go Φ pr_P (fP g) 1 (bM_highest_4 g v0 X4 v1 v2) d pr_m155 4 [some (sR v0), some (sI v1), some (sI v2)] [] g 0 0 := by
  intro v1 h1 v2 h2
  unfold bM_highest_4
  refine go_iload kk155_0.1.1.2.1.2 rfl ?_
  refine go_aload kk155_0.1.1.2.2 rfl ?_
  refine go_getR (bI := 0) kk155_0.1.2.1.1.1 hg hK0 (by decide) rfl rfl (fun r1 => ?_)
  refine go_int kk155_0.1.2.1.1.2 0 rfl ?_
  refine go_ck (fun q3 => ?_)
  refine go_iald kk155_0.1.2.1.2 hg q3 (fun r2 => ?_)
  refine go_cmlt kk155_0.1.2.2.1.1 h2 r2 (fun c4 => ?_) (fun c5 => ?_)
  · refine go_aload kk155_0.1.2.2.1.2 rfl ?_
    refine go_iload kk155_0.1.2.2.2 rfl ?_
    refine go_callP3 kk155_0.2.1.1.1.1 rfl rfl rfl ⟨by decide, _, rfl, hK0⟩ ⟨Nat.zero_le _, Nat.zero_le _⟩ (by omega) (tfM_runs (by omega) hg hK0  h2) (fun y6 r7 => ?_)
    refine go_ifeq kk155_0.2.1.1.1.2 (inR_b r7) (fun c10 => ?_) (fun c11 => ?_)
    · refine go_iinc kk155_0.2.2.1.2 rfl rfl 1 rfl (loc2 := [some (sR v0), some (sI v1), some (sI (w32 (v2 + 1)))]) rfl ?_
      refine go_goto kk155_0.2.2.2.1.1 ?_
      exact HX4 v1 h1 (w32 (v2 + 1)) (inR_w32 _)
    · refine go_iload kk155_0.2.1.1.2 rfl ?_
      refine go_aload kk155_0.2.1.2.1.1 rfl ?_
      refine go_iload kk155_0.2.1.2.1.2 rfl ?_
      refine go_callP1 kk155_0.2.1.2.2 rfl rfl rfl ⟨by decide, _, rfl, hK0⟩ ⟨Nat.zero_le _, Nat.zero_le _⟩ (by omega) (tfM_deep (by omega) hg hK0  h2) (fun y12 r13 => ?_)
      refine go_max kk155_0.2.2.1.1.1 h1 r13 rfl ⟨Nat.zero_le _, Nat.zero_le _⟩ ?_
      refine go_istore kk155_0.2.2.1.1.2 rfl (loc2 := [some (sR v0), some (sI (gmax v1 y12)), some (sI v2)]) rfl ?_
      refine go_iinc kk155_0.2.2.1.2 rfl rfl 1 rfl (loc2 := [some (sR v0), some (sI (gmax v1 y12)), some (sI (w32 (v2 + 1)))]) rfl ?_
      refine go_goto kk155_0.2.2.2.1.1 ?_
      exact HX4 (gmax v1 y12) (inR_gmax h1 r13) (w32 (v2 + 1)) (inR_w32 _)
  · refine go_iload kk155_0.2.2.2.1.2 rfl ?_
    exact go_iret kk155_0.2.2.2.2 hg h1 ⟨Nat.zero_le _, Nat.zero_le _⟩ rfl
theorem tlM_highest_4 {Φ : ev_P} {d : Nat} (hd : 1 ≤ d) {g : gH} (hg : HR g) {v0 : Int} (hK0 : kd v0 = 7) : ∀ n : Nat, ∀ (v1 : Int) (h1 : InR v1) (v2 : Int) (h2 : InR v2), Go Φ pr_P (fP g) 1 (lM_highest_4 g v0 n v1 v2) d pr_m155 4 [some (sR v0), some (sI v1), some (sI v2)] [] g 0 0 := by
  intro n
  induction n with
  | zero => intros; exact go_none
  | succ n ih => exact tbM_highest_4 hd hg hK0 ih
theorem tfM_highest {Φ : ev_P} {d : Nat} (hd : 1 ≤ d) {g : gH} (hg : HR g) {v0 : Int} (hK0 : kd v0 = 7) : Go Φ pr_P (fP g) 1 (fM_highest g v0) d (pr_P 155) 0 (ev_loc (pr_P 155).1 [(sR v0)]) [] g 0 0 := by
  show Go Φ pr_P (fP g) 1 (fM_highest g v0) d pr_m155 0 [some (sR v0), none, none] [] g 0 0
  unfold fM_highest
  refine go_int kk155_0.1.1.1.1.1 0 rfl ?_
  refine go_istore kk155_0.1.1.1.1.2 rfl (loc2 := [some (sR v0), some (sI 0), none]) rfl ?_
  refine go_int kk155_0.1.1.1.2 0 rfl ?_
  refine go_istore kk155_0.1.1.2.1.1 rfl (loc2 := [some (sR v0), some (sI 0), some (sI 0)]) rfl ?_
  exact tlM_highest_4 hd hg hK0 fu 0 (inR_b (Or.inl rfl)) 0 (inR_b (Or.inl rfl))
theorem tfM_height {Φ : ev_P} {d : Nat} (hd : 2 ≤ d) {g : gH} (hg : HR g) {v0 : Int} (hK0 : kd v0 = 7) : Go Φ pr_P fN 1 (fM_height g v0) d (pr_P 156) 0 (ev_loc (pr_P 156).1 [(sR v0)]) [] g 0 0 := by
  show Go Φ pr_P fN 1 (fM_height g v0) d pr_m156 0 [some (sR v0)] [] g 0 0
  unfold fM_height
  refine go_aload kk156_0.1.1.1 rfl ?_
  refine go_int kk156_0.1.1.2 0 rfl ?_
  refine go_putI (bI := 8) kk156_0.1.2 hg hK0 (by decide) rfl rfl (inR_b (Or.inl rfl)) (fun g1 e2 => ?_)
  refine go_aload kk156_0.2.1.1 rfl ?_
  refine go_callP1 kk156_0.2.1.2 rfl rfl rfl ⟨by decide, _, rfl, hK0⟩ ⟨Nat.zero_le _, Nat.zero_le _⟩ (by omega) (tfM_highest (by omega) e2 hK0 ) (fun y3 r4 => ?_)
  exact go_iret kk156_0.2.2 e2 r4 ⟨Nat.zero_le _, Nat.zero_le _⟩ rfl
theorem tjM_remembers_37 {Φ : ev_P} {d : Nat} (hd : 1 ≤ d) {g : gH} (hg : HR g) {v0 : Int} (hK0 : kd v0 = 7) : Go Φ pr_P fN 0 (jM_remembers_37 g v0 ) d pr_m80 37 [some (sR v0)] [] g 0 0 := by
  unfold jM_remembers_37
  refine go_aload kk80_0.2.1.1.1.1.1 rfl ?_
  refine go_getR (bI := 0) kk80_0.2.1.1.1.1.2 hg hK0 (by decide) rfl rfl (fun r13 => ?_)
  refine go_int kk80_0.2.1.1.1.2 0 rfl ?_
  refine go_aload kk80_0.2.1.1.2.1 rfl ?_
  refine go_getR (bI := 4) kk80_0.2.1.1.2.2 hg hK0 (by decide) rfl rfl (fun r14 => ?_)
  refine go_int kk80_0.2.1.2.1.1 780 rfl ?_
  refine go_aload kk80_0.2.1.2.1.2 rfl ?_
  refine go_getI (bI := 6) kk80_0.2.1.2.2.1 hg hK0 (by decide) rfl rfl (fun r15 => ?_)
  refine go_ibin kk80_0.2.1.2.2.2 ?_
  refine go_int kk80_0.2.2.1.1.1.1 780 rfl ?_
  refine go_callN0 kk80_0.2.2.1.1.1.2 rfl rfl rfl trivial ⟨Nat.zero_le _, Nat.zero_le _⟩ (by omega) (tfM_copies (by omega) hg  r13 (inR_b (Or.inl rfl)) r14 (inR_opI _ _ _) (inR_of (by decide))) (fun y16 g18 e19 => ?_)
  refine go_aload kk80_0.2.2.1.1.2 rfl ?_
  refine go_dupR kk80_0.2.2.1.2.1 ?_
  refine go_getI (bI := 6) kk80_0.2.2.1.2.2 e19 hK0 (by decide) rfl rfl (fun r20 => ?_)
  refine go_int kk80_0.2.2.2.1.1 1 rfl ?_
  refine go_iadd kk80_0.2.2.2.1.2 ?_
  refine go_putI (bI := 6) kk80_0.2.2.2.2.1 e19 hK0 (by decide) rfl rfl (inR_w32 _) (fun g21 e22 => ?_)
  exact go_vret kk80_0.2.2.2.2.2 e22 ⟨Nat.zero_le _, Nat.zero_le _⟩ rfl
theorem tfM_remembers {Φ : ev_P} {d : Nat} (hd : 1 ≤ d) {g : gH} (hg : HR g) {v0 : Int} (hK0 : kd v0 = 7) : Go Φ pr_P fN 0 (fM_remembers g v0) d (pr_P 80) 0 (ev_loc (pr_P 80).1 [(sR v0)]) [] g 0 0 := by
  show Go Φ pr_P fN 0 (fM_remembers g v0) d pr_m80 0 [some (sR v0)] [] g 0 0
  unfold fM_remembers
  refine go_aload kk80_0.1.1.1.1.1.1 rfl ?_
  refine go_getI (bI := 6) kk80_0.1.1.1.1.1.2 hg hK0 (by decide) rfl rfl (fun r1 => ?_)
  refine go_int kk80_0.1.1.1.1.2 10 rfl ?_
  refine go_cmeq kk80_0.1.1.1.2.1 r1 (inR_of (by decide)) (fun c2 => ?_) (fun c3 => ?_)
  · refine go_aload kk80_0.1.1.1.2.2 rfl ?_
    refine go_getR (bI := 4) kk80_0.1.1.2.1.1 hg hK0 (by decide) rfl rfl (fun r4 => ?_)
    refine go_int kk80_0.1.1.2.1.2 780 rfl ?_
    refine go_aload kk80_0.1.1.2.2.1 rfl ?_
    refine go_getR (bI := 4) kk80_0.1.1.2.2.2 hg hK0 (by decide) rfl rfl (fun r5 => ?_)
    refine go_int kk80_0.1.2.1.1.1.1 0 rfl ?_
    refine go_int kk80_0.1.2.1.1.1.2 7020 rfl ?_
    refine go_callN0 kk80_0.1.2.1.1.2 rfl rfl rfl trivial ⟨Nat.zero_le _, Nat.zero_le _⟩ (by omega) (tfM_copies (by omega) hg  r4 (inR_of (by decide)) r5 (inR_b (Or.inl rfl)) (inR_of (by decide))) (fun y6 g8 e9 => ?_)
    refine go_aload kk80_0.1.2.1.2.1 rfl ?_
    refine go_dupR kk80_0.1.2.1.2.2 ?_
    refine go_getI (bI := 6) kk80_0.1.2.2.1.1 e9 hK0 (by decide) rfl rfl (fun r10 => ?_)
    refine go_int kk80_0.1.2.2.1.2 1 rfl ?_
    refine go_isub kk80_0.1.2.2.2.1 ?_
    refine go_putI (bI := 6) kk80_0.1.2.2.2.2 e9 hK0 (by decide) rfl rfl (inR_w32 _) (fun g11 e12 => ?_)
    exact tjM_remembers_37 hd e12 hK0
  · exact tjM_remembers_37 hd hg hK0
theorem tfM_isSmall {Φ : ev_P} {d : Nat} (hd : 1 ≤ d) {g : gH} (hg : HR g) {v0 : Int} (h0 : InR v0) : Go Φ pr_P (fP g) 3 (fM_isSmall g v0) d (pr_P 157) 0 (ev_loc (pr_P 157).1 [(sI v0)]) [] g 0 0 := by
  show Go Φ pr_P (fP g) 3 (fM_isSmall g v0) d pr_m157 0 [some (sI v0)] [] g 0 0
  unfold fM_isSmall
  refine go_iload kk157_0.1.1.1 rfl ?_
  refine go_int kk157_0.1.1.2 0 rfl ?_
  refine go_int kk157_0.1.2 9 rfl ?_
  refine go_callP3 kk157_0.2.1 rfl rfl rfl trivial ⟨Nat.zero_le _, Nat.zero_le _⟩ (by omega) (tfM_inRange (by omega) hg  h0 (inR_b (Or.inl rfl)) (inR_of (by decide))) (fun y1 r2 => ?_)
  exact go_bret kk157_0.2.2 hg r2 ⟨Nat.zero_le _, Nat.zero_le _⟩ rfl
theorem tjM_spawn_70 {Φ : ev_P} {d : Nat} (hd : 3 ≤ d) {g : gH} (hg : HR g) {v0 v1 v2 v3 v4 : Int} (hK0 : kd v0 = 7) (h1 : InR v1) (h2 : InR v2) (h3 : InR v3) (h4 : InR v4) {s0 s1 : Int} (z0 : RfR s0) (z1 : B01 s1) : Go Φ pr_P fN 1 (jM_spawn_70 g v0 v1 v2 v3 v4 s0 s1 ) d pr_m158 70 [some (sR v0), some (sI v1), some (sI v2), some (sI v3), some (sI v4)] [(sI s1), (sR s0)] g 0 0 := by
  unfold jM_spawn_70
  refine go_int kk158_0.2.1.2.2.1.2 3 rfl ?_
  refine go_ck (fun q43 => ?_)
  refine go_callN3 kk158_0.2.1.2.2.2 rfl rfl rfl ⟨by decide, _, rfl, q43⟩ ⟨Nat.zero_le _, Nat.zero_le _⟩ (by omega) (tfM_fails (by omega) hg q43  z1 (inR_of (by decide))) (fun y44 g46 r45 e47 => ?_)
  refine go_ifeq kk158_0.2.2.1.1.1.1 (inR_b r45) (fun c48 => ?_) (fun c49 => ?_)
  · refine go_aload kk158_0.2.2.1.2.1.1 rfl ?_
    refine go_callN0 kk158_0.2.2.1.2.1.2 rfl rfl rfl ⟨by decide, _, rfl, hK0⟩ ⟨Nat.zero_le _, Nat.zero_le _⟩ (by omega) (tfM_remembers (by omega) e47 hK0 ) (fun y50 g52 e53 => ?_)
    refine go_aload kk158_0.2.2.1.2.2 rfl ?_
    refine go_iload kk158_0.2.2.2.1.1.1 rfl ?_
    refine go_iload kk158_0.2.2.2.1.1.2 rfl ?_
    refine go_iload kk158_0.2.2.2.1.2 rfl ?_
    refine go_iload kk158_0.2.2.2.2.1.1 rfl ?_
    refine go_callN1 kk158_0.2.2.2.2.1.2 rfl rfl rfl ⟨by decide, _, rfl, hK0⟩ ⟨Nat.zero_le _, Nat.zero_le _⟩ (by omega) (tfM_comes (by omega) e53 hK0  h1 h2 h3 h4) (fun y54 g56 r55 e57 => ?_)
    exact go_iret kk158_0.2.2.2.2.2 e57 r55 ⟨Nat.zero_le _, Nat.zero_le _⟩ rfl
  · refine go_int kk158_0.2.2.1.1.1.2 0 rfl ?_
    exact go_iret kk158_0.2.2.1.1.2 e47 (inR_b (Or.inl rfl)) ⟨Nat.zero_le _, Nat.zero_le _⟩ rfl
theorem tjM_spawn_65 {Φ : ev_P} {d : Nat} (hd : 3 ≤ d) {g : gH} (hg : HR g) {v0 v1 v2 v3 v4 : Int} (hK0 : kd v0 = 7) (h1 : InR v1) (h2 : InR v2) (h3 : InR v3) (h4 : InR v4) {s0 : Int} (z0 : RfR s0) : Go Φ pr_P fN 1 (jM_spawn_65 g v0 v1 v2 v3 v4 s0 ) d pr_m158 65 [some (sR v0), some (sI v1), some (sI v2), some (sI v3), some (sI v4)] [(sR s0)] g 0 0 := by
  unfold jM_spawn_65
  refine go_int kk158_0.2.1.2.1.1.2 1 rfl ?_
  refine go_goto kk158_0.2.1.2.1.2 ?_
  exact tjM_spawn_70 hd hg hK0 h1 h2 h3 h4 z0 (Or.inr rfl)
theorem tjM_spawn_36 {Φ : ev_P} {d : Nat} (hd : 3 ≤ d) {g : gH} (hg : HR g) {v0 v1 v2 v3 v4 : Int} (hK0 : kd v0 = 7) (h1 : InR v1) (h2 : InR v2) (h3 : InR v3) (h4 : InR v4) {s0 s1 : Int} (z0 : RfR s0) (z1 : B01 s1) : Go Φ pr_P fN 1 (jM_spawn_36 g v0 v1 v2 v3 v4 s0 s1 ) d pr_m158 36 [some (sR v0), some (sI v1), some (sI v2), some (sI v3), some (sI v4)] [(sI s1), (sR s0)] g 0 0 := by
  unfold jM_spawn_36
  refine go_int kk158_0.1.2.1.2.1.2 2 rfl ?_
  refine go_ck (fun q25 => ?_)
  refine go_callN3 kk158_0.1.2.1.2.2 rfl rfl rfl ⟨by decide, _, rfl, q25⟩ ⟨Nat.zero_le _, Nat.zero_le _⟩ (by omega) (tfM_fails (by omega) hg q25  z1 (inR_of (by decide))) (fun y26 g28 r27 e29 => ?_)
  refine go_ifeq kk158_0.1.2.2.1.1.1 (inR_b r27) (fun c30 => ?_) (fun c31 => ?_)
  · refine go_aload kk158_0.1.2.2.2.1.1 rfl ?_
    refine go_aload kk158_0.1.2.2.2.1.2 rfl ?_
    refine go_iload kk158_0.1.2.2.2.2 rfl ?_
    refine go_callP1 kk158_0.2.1.1.1.1.1 rfl rfl rfl ⟨by decide, _, rfl, hK0⟩ ⟨Nat.zero_le _, Nat.zero_le _⟩ (by omega) (tfM_roomOf (by omega) e29 hK0  h1) (fun y32 r33 => ?_)
    refine go_ifeq kk158_0.2.1.1.1.1.2 r33 (fun c36 => ?_) (fun c37 => ?_)
    · exact tjM_spawn_65 hd e29 hK0 h1 h2 h3 h4 (rfR_kd hK0 (by decide))
    · refine go_aload kk158_0.2.1.1.1.2.1 rfl ?_
      refine go_getR (bI := 0) kk158_0.2.1.1.1.2.2 e29 hK0 (by decide) rfl rfl (fun r38 => ?_)
      refine go_int kk158_0.2.1.1.2.1.1 0 rfl ?_
      refine go_ck (fun q40 => ?_)
      refine go_iald kk158_0.2.1.1.2.1.2 e29 q40 (fun r39 => ?_)
      refine go_int kk158_0.2.1.1.2.2 40 rfl ?_
      refine go_cmeq kk158_0.2.1.2.1.1.1 r39 (inR_of (by decide)) (fun c41 => ?_) (fun c42 => ?_)
      · exact tjM_spawn_65 hd e29 hK0 h1 h2 h3 h4 (rfR_kd hK0 (by decide))
      · refine go_int kk158_0.2.1.2.2.1.1 0 rfl ?_
        exact tjM_spawn_70 hd e29 hK0 h1 h2 h3 h4 (rfR_kd hK0 (by decide)) (Or.inl rfl)
  · refine go_int kk158_0.1.2.2.1.1.2 0 rfl ?_
    exact go_iret kk158_0.1.2.2.1.2 e29 (inR_b (Or.inl rfl)) ⟨Nat.zero_le _, Nat.zero_le _⟩ rfl
theorem tjM_spawn_31 {Φ : ev_P} {d : Nat} (hd : 3 ≤ d) {g : gH} (hg : HR g) {v0 v1 v2 v3 v4 : Int} (hK0 : kd v0 = 7) (h1 : InR v1) (h2 : InR v2) (h3 : InR v3) (h4 : InR v4) {s0 : Int} (z0 : RfR s0) : Go Φ pr_P fN 1 (jM_spawn_31 g v0 v1 v2 v3 v4 s0 ) d pr_m158 31 [some (sR v0), some (sI v1), some (sI v2), some (sI v3), some (sI v4)] [(sR s0)] g 0 0 := by
  unfold jM_spawn_31
  refine go_int kk158_0.1.2.1.1.1.2 1 rfl ?_
  refine go_goto kk158_0.1.2.1.1.2 ?_
  exact tjM_spawn_36 hd hg hK0 h1 h2 h3 h4 z0 (Or.inr rfl)
theorem tfM_spawn {Φ : ev_P} {d : Nat} (hd : 3 ≤ d) {g : gH} (hg : HR g) {v0 v1 v2 v3 v4 : Int} (hK0 : kd v0 = 7) (h1 : InR v1) (h2 : InR v2) (h3 : InR v3) (h4 : InR v4) : Go Φ pr_P fN 1 (fM_spawn g v0 v1 v2 v3 v4) d (pr_P 158) 0 (ev_loc (pr_P 158).1 [(sR v0), (sI v1), (sI v2), (sI v3), (sI v4)]) [] g 0 0 := by
  show Go Φ pr_P fN 1 (fM_spawn g v0 v1 v2 v3 v4) d pr_m158 0 [some (sR v0), some (sI v1), some (sI v2), some (sI v3), some (sI v4)] [] g 0 0
  unfold fM_spawn
  refine go_aload kk158_0.1.1.1.1.1.1 rfl ?_
  refine go_iload kk158_0.1.1.1.1.1.2 rfl ?_
  refine go_callN3 kk158_0.1.1.1.1.2.1 rfl rfl rfl ⟨by decide, _, rfl, hK0⟩ ⟨Nat.zero_le _, Nat.zero_le _⟩ (by omega) (tfM_noProcess (by omega) hg hK0  h1) (fun y1 g3 r2 e4 => ?_)
  refine go_ifeq kk158_0.1.1.1.1.2.2 (inR_b r2) (fun c5 => ?_) (fun c6 => ?_)
  · refine go_aload kk158_0.1.1.1.2.1.1 rfl ?_
    refine go_iload kk158_0.1.1.1.2.1.2 rfl ?_
    refine go_callP3 kk158_0.1.1.1.2.2 rfl rfl rfl trivial ⟨Nat.zero_le _, Nat.zero_le _⟩ (by omega) (tfM_isSmall (by omega) e4  h2) (fun y7 r8 => ?_)
    refine go_ifeq kk158_0.1.1.2.1.1.1 (inR_b r8) (fun c11 => ?_) (fun c12 => ?_)
    · exact tjM_spawn_31 hd e4 hK0 h1 h2 h3 h4 (rfR_kd hK0 (by decide))
    · refine go_iload kk158_0.1.1.2.1.1.2 rfl ?_
      refine go_callP3 kk158_0.1.1.2.1.2 rfl rfl rfl trivial ⟨Nat.zero_le _, Nat.zero_le _⟩ (by omega) (tfM_isSmall (by omega) e4  h3) (fun y13 r14 => ?_)
      refine go_ifeq kk158_0.1.1.2.2.1.1 (inR_b r14) (fun c17 => ?_) (fun c18 => ?_)
      · exact tjM_spawn_31 hd e4 hK0 h1 h2 h3 h4 (rfR_kd hK0 (by decide))
      · refine go_iload kk158_0.1.1.2.2.1.2 rfl ?_
        refine go_callP3 kk158_0.1.1.2.2.2 rfl rfl rfl trivial ⟨Nat.zero_le _, Nat.zero_le _⟩ (by omega) (tfM_isSmall (by omega) e4  h4) (fun y19 r20 => ?_)
        refine go_ifeq kk158_0.1.2.1.1.1.1 (inR_b r20) (fun c23 => ?_) (fun c24 => ?_)
        · exact tjM_spawn_31 hd e4 hK0 h1 h2 h3 h4 (rfR_kd hK0 (by decide))
        · refine go_int kk158_0.1.2.1.2.1.1 0 rfl ?_
          exact tjM_spawn_36 hd e4 hK0 h1 h2 h3 h4 (rfR_kd hK0 (by decide)) (Or.inl rfl)
  · refine go_int kk158_0.1.2.2.1.1.2 0 rfl ?_
    exact go_iret kk158_0.1.2.2.1.2 e4 (inR_b (Or.inl rfl)) ⟨Nat.zero_le _, Nat.zero_le _⟩ rfl
theorem tfM_canAdopt {Φ : ev_P} {d : Nat} (hd : 3 ≤ d) {g : gH} (hg : HR g) {v0 v1 v2 : Int} (hK0 : kd v0 = 7) (h1 : InR v1) (h2 : InR v2) : Go Φ pr_P (fP g) 3 (fM_canAdopt g v0 v1 v2) d (pr_P 91) 0 (ev_loc (pr_P 91).1 [(sR v0), (sI v1), (sI v2)]) [] g 0 0 := by
  show Go Φ pr_P (fP g) 3 (fM_canAdopt g v0 v1 v2) d pr_m91 0 [some (sR v0), some (sI v1), some (sI v2)] [] g 0 0
  unfold fM_canAdopt
  refine go_aload kk91_0.1.1.1.1.1.1 rfl ?_
  refine go_iload kk91_0.1.1.1.1.1.2 rfl ?_
  refine go_callP3 kk91_0.1.1.1.1.2 rfl rfl rfl ⟨by decide, _, rfl, hK0⟩ ⟨Nat.zero_le _, Nat.zero_le _⟩ (by omega) (tfM_runs (by omega) hg hK0  h1) (fun y1 r2 => ?_)
  refine go_ifeq kk91_0.1.1.1.2.1.1 (inR_b r2) (fun c5 => ?_) (fun c6 => ?_)
  · refine go_int kk91_0.2.2.2.2.1 0 rfl ?_
    exact go_bret kk91_0.2.2.2.2.2 hg (Or.inl rfl) ⟨Nat.zero_le _, Nat.zero_le _⟩ rfl
  · refine go_iload kk91_0.1.1.1.2.1.2 rfl ?_
    refine go_iload kk91_0.1.1.1.2.2 rfl ?_
    refine go_cmeq kk91_0.1.1.2.1.1.1 h1 h2 (fun c7 => ?_) (fun c8 => ?_)
    · refine go_int kk91_0.2.2.2.2.1 0 rfl ?_
      exact go_bret kk91_0.2.2.2.2.2 hg (Or.inl rfl) ⟨Nat.zero_le _, Nat.zero_le _⟩ rfl
    · refine go_aload kk91_0.1.1.2.1.1.2 rfl ?_
      refine go_iload kk91_0.1.1.2.1.2 rfl ?_
      refine go_iload kk91_0.1.1.2.2.1 rfl ?_
      refine go_callP3 kk91_0.1.1.2.2.2 rfl rfl rfl ⟨by decide, _, rfl, hK0⟩ ⟨Nat.zero_le _, Nat.zero_le _⟩ (by omega) (tfM_isOver (by omega) hg hK0  h2 h1) (fun y9 r10 => ?_)
      refine go_ifeq kk91_0.1.2.1.1.1.1 (inR_b r10) (fun c13 => ?_) (fun c14 => ?_)
      · refine go_aload kk91_0.1.2.1.1.1.2 rfl ?_
        refine go_getR (bI := 5) kk91_0.1.2.1.1.2 hg hK0 (by decide) rfl rfl (fun r15 => ?_)
        refine go_iload kk91_0.1.2.1.2.1.1 rfl ?_
        refine go_ck (fun q17 => ?_)
        refine go_zald kk91_0.1.2.1.2.1.2 hg q17 (fun r16 => ?_)
        refine go_ifeq kk91_0.1.2.1.2.2 (inR_b r16) (fun c18 => ?_) (fun c19 => ?_)
        · refine go_aload kk91_0.1.2.2.1.1.1 rfl ?_
          refine go_iload kk91_0.1.2.2.1.1.2 rfl ?_
          refine go_callP1 kk91_0.1.2.2.1.2 rfl rfl rfl ⟨by decide, _, rfl, hK0⟩ ⟨Nat.zero_le _, Nat.zero_le _⟩ (by omega) (tfM_roomOf (by omega) hg hK0  h1) (fun y20 r21 => ?_)
          refine go_ifgt kk91_0.1.2.2.2.1 r21 (fun c24 => ?_) (fun c25 => ?_)
          · refine go_aload kk91_0.1.2.2.2.2 rfl ?_
            refine go_iload kk91_0.2.1.1.1.1.1 rfl ?_
            refine go_callP1 kk91_0.2.1.1.1.1.2 rfl rfl rfl ⟨by decide, _, rfl, hK0⟩ ⟨Nat.zero_le _, Nat.zero_le _⟩ (by omega) (tfM_deep (by omega) hg hK0  h1) (fun y26 r27 => ?_)
            refine go_aload kk91_0.2.1.1.1.2 rfl ?_
            refine go_getR (bI := 0) kk91_0.2.1.1.2.1.1 hg hK0 (by decide) rfl rfl (fun r30 => ?_)
            refine go_int kk91_0.2.1.1.2.1.2 59 rfl ?_
            refine go_ck (fun q32 => ?_)
            refine go_iald kk91_0.2.1.1.2.2 hg q32 (fun r31 => ?_)
            refine go_cmlt kk91_0.2.1.2.1.1.1 r27 r31 (fun c33 => ?_) (fun c34 => ?_)
            · refine go_aload kk91_0.2.1.2.1.1.2 rfl ?_
              refine go_iload kk91_0.2.1.2.1.2 rfl ?_
              refine go_aload kk91_0.2.1.2.2.1 rfl ?_
              refine go_getR (bI := 0) kk91_0.2.1.2.2.2 hg hK0 (by decide) rfl rfl (fun r35 => ?_)
              refine go_int kk91_0.2.2.1.1.1.1 180 rfl ?_
              refine go_iload kk91_0.2.2.1.1.1.2 rfl ?_
              refine go_iadd kk91_0.2.2.1.1.2 ?_
              refine go_ck (fun q37 => ?_)
              refine go_iald kk91_0.2.2.1.2.1 hg q37 (fun r36 => ?_)
              refine go_callP3 kk91_0.2.2.1.2.2 rfl rfl rfl ⟨by decide, _, rfl, hK0⟩ ⟨Nat.zero_le _, Nat.zero_le _⟩ (by omega) (tfM_refusesGroup (by omega) hg hK0  h1 r36) (fun y38 r39 => ?_)
              refine go_ifeq kk91_0.2.2.2.1.1.1 (inR_b r39) (fun c42 => ?_) (fun c43 => ?_)
              · refine go_int kk91_0.2.2.2.1.1.2 1 rfl ?_
                refine go_goto kk91_0.2.2.2.1.2 ?_
                exact go_bret kk91_0.2.2.2.2.2 hg (Or.inr rfl) ⟨Nat.zero_le _, Nat.zero_le _⟩ rfl
              · refine go_int kk91_0.2.2.2.2.1 0 rfl ?_
                exact go_bret kk91_0.2.2.2.2.2 hg (Or.inl rfl) ⟨Nat.zero_le _, Nat.zero_le _⟩ rfl
            · refine go_int kk91_0.2.2.2.2.1 0 rfl ?_
              exact go_bret kk91_0.2.2.2.2.2 hg (Or.inl rfl) ⟨Nat.zero_le _, Nat.zero_le _⟩ rfl
          · refine go_int kk91_0.2.2.2.2.1 0 rfl ?_
            exact go_bret kk91_0.2.2.2.2.2 hg (Or.inl rfl) ⟨Nat.zero_le _, Nat.zero_le _⟩ rfl
        · refine go_int kk91_0.2.2.2.2.1 0 rfl ?_
          exact go_bret kk91_0.2.2.2.2.2 hg (Or.inl rfl) ⟨Nat.zero_le _, Nat.zero_le _⟩ rfl
      · refine go_int kk91_0.2.2.2.2.1 0 rfl ?_
        exact go_bret kk91_0.2.2.2.2.2 hg (Or.inl rfl) ⟨Nat.zero_le _, Nat.zero_le _⟩ rfl
theorem tbM_nearest_2 {Φ : ev_P} {d : Nat} (hd : 4 ≤ d) {g : gH} (hg : HR g) {v0 v1 v2 : Int} (hK0 : kd v0 = 7) (h1 : InR v1) (h2 : InR v2) {X2 : Int → Option Int} (HX2 : ∀ (v3 : Int) (h3 : InR v3), Go Φ pr_P (fP g) 1 (X2 v3) d pr_m92 2 [some (sR v0), some (sI v1), some (sI v2), some (sI v3)] [] g 0 0) : ∀ (v3 : Int) (h3 : InR v3), Go Φ pr_P (fP g) 1 (bM_nearest_2 g v0 v1 v2 X2 v3) d pr_m92 2 [some (sR v0), some (sI v1), some (sI v2), some (sI v3)] [] g 0 0 := by
  intro v3 h3
  unfold bM_nearest_2
  refine go_iload kk92_0.1.1.1.2 rfl ?_
  refine go_ifeq kk92_0.1.1.2.1.1 h3 (fun c1 => ?_) (fun c2 => ?_)
  · refine go_int kk92_0.2.2.2.1.2 (-1) rfl ?_
    exact go_iret kk92_0.2.2.2.2 hg (inR_of (by decide)) ⟨Nat.zero_le _, Nat.zero_le _⟩ rfl
  · refine go_iload kk92_0.1.1.2.1.2 rfl ?_
    refine go_iload kk92_0.1.1.2.2 rfl ?_
    refine go_cmeq kk92_0.1.2.1.1.1 h3 h2 (fun c3 => ?_) (fun c4 => ?_)
    · refine go_aload kk92_0.2.1.1.2 rfl ?_
      refine go_getR (bI := 0) kk92_0.2.1.2.1.1 hg hK0 (by decide) rfl rfl (fun r5 => ?_)
      refine go_int kk92_0.2.1.2.1.2 60 rfl ?_
      refine go_iload kk92_0.2.1.2.2 rfl ?_
      refine go_iadd kk92_0.2.2.1.1.1 ?_
      refine go_ck (fun q7 => ?_)
      refine go_iald kk92_0.2.2.1.1.2 hg q7 (fun r6 => ?_)
      refine go_istore kk92_0.2.2.1.2 rfl (loc2 := [some (sR v0), some (sI v1), some (sI v2), some (sI (g (g v0 0) (w32 (60 + v3))))]) rfl ?_
      refine go_goto kk92_0.2.2.2.1.1 ?_
      exact HX2 (g (g v0 0) (w32 (60 + v3))) r6
    · refine go_aload kk92_0.1.2.1.1.2 rfl ?_
      refine go_iload kk92_0.1.2.1.2 rfl ?_
      refine go_iload kk92_0.1.2.2.1.1 rfl ?_
      refine go_callP3 kk92_0.1.2.2.1.2 rfl rfl rfl ⟨by decide, _, rfl, hK0⟩ ⟨Nat.zero_le _, Nat.zero_le _⟩ (by omega) (tfM_canAdopt (by omega) hg hK0  h3 h1) (fun y8 r9 => ?_)
      refine go_ifeq kk92_0.1.2.2.2 (inR_b r9) (fun c12 => ?_) (fun c13 => ?_)
      · refine go_aload kk92_0.2.1.1.2 rfl ?_
        refine go_getR (bI := 0) kk92_0.2.1.2.1.1 hg hK0 (by decide) rfl rfl (fun r14 => ?_)
        refine go_int kk92_0.2.1.2.1.2 60 rfl ?_
        refine go_iload kk92_0.2.1.2.2 rfl ?_
        refine go_iadd kk92_0.2.2.1.1.1 ?_
        refine go_ck (fun q16 => ?_)
        refine go_iald kk92_0.2.2.1.1.2 hg q16 (fun r15 => ?_)
        refine go_istore kk92_0.2.2.1.2 rfl (loc2 := [some (sR v0), some (sI v1), some (sI v2), some (sI (g (g v0 0) (w32 (60 + v3))))]) rfl ?_
        refine go_goto kk92_0.2.2.2.1.1 ?_
        exact HX2 (g (g v0 0) (w32 (60 + v3))) r15
      · refine go_iload kk92_0.2.1.1.1.1 rfl ?_
        exact go_iret kk92_0.2.1.1.1.2 hg h3 ⟨Nat.zero_le _, Nat.zero_le _⟩ rfl
theorem tlM_nearest_2 {Φ : ev_P} {d : Nat} (hd : 4 ≤ d) {g : gH} (hg : HR g) {v0 v1 v2 : Int} (hK0 : kd v0 = 7) (h1 : InR v1) (h2 : InR v2) : ∀ n : Nat, ∀ (v3 : Int) (h3 : InR v3), Go Φ pr_P (fP g) 1 (lM_nearest_2 g v0 v1 v2 n v3) d pr_m92 2 [some (sR v0), some (sI v1), some (sI v2), some (sI v3)] [] g 0 0 := by
  intro n
  induction n with
  | zero => intros; exact go_none
  | succ n ih => exact tbM_nearest_2 hd hg hK0 h1 h2 ih
theorem tfM_nearest {Φ : ev_P} {d : Nat} (hd : 4 ≤ d) {g : gH} (hg : HR g) {v0 v1 v2 : Int} (hK0 : kd v0 = 7) (h1 : InR v1) (h2 : InR v2) : Go Φ pr_P (fP g) 1 (fM_nearest g v0 v1 v2) d (pr_P 92) 0 (ev_loc (pr_P 92).1 [(sR v0), (sI v1), (sI v2)]) [] g 0 0 := by
  show Go Φ pr_P (fP g) 1 (fM_nearest g v0 v1 v2) d pr_m92 0 [some (sR v0), some (sI v1), some (sI v2), none] [] g 0 0
  unfold fM_nearest
  refine go_iload kk92_0.1.1.1.1.1 rfl ?_
  refine go_istore kk92_0.1.1.1.1.2 rfl (loc2 := [some (sR v0), some (sI v1), some (sI v2), some (sI v2)]) rfl ?_
  exact tlM_nearest_2 hd hg hK0 h1 h2 fu v2 h2
theorem tjM_roomiestFor_51 {Φ : ev_P} {d : Nat} (hd : 4 ≤ d) {X6 : Int → Int → Option Int} {g : gH} (hg : HR g) {v0 v1 v2 v3 v4 v5 : Int} (hK0 : kd v0 = 7) (h1 : InR v1) (h2 : InR v2) (h3 : B01 v3) (h4 : InR v4) (h5 : InR v5) (HX6 : ∀ (v4 : Int) (h4 : InR v4) (v5 : Int) (h5 : InR v5), Go Φ pr_P (fP g) 1 (X6 v4 v5) d pr_m93 6 [some (sR v0), some (sI v1), some (sI v2), some (sI v3), some (sI v4), some (sI v5)] [] g 0 0) : Go Φ pr_P (fP g) 1 (jM_roomiestFor_51 X6 g v0 v1 v2 v3 v4 v5 ) d pr_m93 51 [some (sR v0), some (sI v1), some (sI v2), some (sI v3), some (sI v4), some (sI v5)] [] g 0 0 := by
  unfold jM_roomiestFor_51
  refine go_aload kk93_0.2.1.1.1.2.2 rfl ?_
  refine go_iload kk93_0.2.1.1.2.1.1 rfl ?_
  refine go_iload kk93_0.2.1.1.2.1.2 rfl ?_
  refine go_callP3 kk93_0.2.1.1.2.2 rfl rfl rfl ⟨by decide, _, rfl, hK0⟩ ⟨Nat.zero_le _, Nat.zero_le _⟩ (by omega) (tfM_canAdopt (by omega) hg hK0  h5 h1) (fun y18 r19 => ?_)
  refine go_ifeq kk93_0.2.1.2.1.1.1 (inR_b r19) (fun c22 => ?_) (fun c23 => ?_)
  · refine go_goto kk93_0.2.1.2.1.1.2 ?_
    refine go_iinc kk93_0.2.2.2.1.2 rfl rfl 1 rfl (loc2 := [some (sR v0), some (sI v1), some (sI v2), some (sI v3), some (sI v4), some (sI (w32 (v5 + 1)))]) rfl ?_
    refine go_goto kk93_0.2.2.2.2.1.1 ?_
    exact HX6 v4 h4 (w32 (v5 + 1)) (inR_w32 _)
  · refine go_iload kk93_0.2.1.2.1.2 rfl ?_
    refine go_int kk93_0.2.1.2.2.1.1 (-1) rfl ?_
    refine go_cmeq kk93_0.2.1.2.2.1.2 h4 (inR_of (by decide)) (fun c24 => ?_) (fun c25 => ?_)
    · refine go_iload kk93_0.2.2.2.1.1.1 rfl ?_
      refine go_istore kk93_0.2.2.2.1.1.2 rfl (loc2 := [some (sR v0), some (sI v1), some (sI v2), some (sI v3), some (sI v5), some (sI v5)]) rfl ?_
      refine go_iinc kk93_0.2.2.2.1.2 rfl rfl 1 rfl (loc2 := [some (sR v0), some (sI v1), some (sI v2), some (sI v3), some (sI v5), some (sI (w32 (v5 + 1)))]) rfl ?_
      refine go_goto kk93_0.2.2.2.2.1.1 ?_
      exact HX6 v5 h5 (w32 (v5 + 1)) (inR_w32 _)
    · refine go_aload kk93_0.2.1.2.2.2 rfl ?_
      refine go_iload kk93_0.2.2.1.1.1.1 rfl ?_
      refine go_callP1 kk93_0.2.2.1.1.1.2 rfl rfl rfl ⟨by decide, _, rfl, hK0⟩ ⟨Nat.zero_le _, Nat.zero_le _⟩ (by omega) (tfM_roomOf (by omega) hg hK0  h5) (fun y26 r27 => ?_)
      refine go_aload kk93_0.2.2.1.1.2 rfl ?_
      refine go_iload kk93_0.2.2.1.2.1.1 rfl ?_
      refine go_callP1 kk93_0.2.2.1.2.1.2 rfl rfl rfl ⟨by decide, _, rfl, hK0⟩ ⟨Nat.zero_le _, Nat.zero_le _⟩ (by omega) (tfM_roomOf (by omega) hg hK0  h4) (fun y30 r31 => ?_)
      refine go_cmgt kk93_0.2.2.1.2.2 r27 r31 (fun c34 => ?_) (fun c35 => ?_)
      · refine go_iload kk93_0.2.2.2.1.1.1 rfl ?_
        refine go_istore kk93_0.2.2.2.1.1.2 rfl (loc2 := [some (sR v0), some (sI v1), some (sI v2), some (sI v3), some (sI v5), some (sI v5)]) rfl ?_
        refine go_iinc kk93_0.2.2.2.1.2 rfl rfl 1 rfl (loc2 := [some (sR v0), some (sI v1), some (sI v2), some (sI v3), some (sI v5), some (sI (w32 (v5 + 1)))]) rfl ?_
        refine go_goto kk93_0.2.2.2.2.1.1 ?_
        exact HX6 v5 h5 (w32 (v5 + 1)) (inR_w32 _)
      · refine go_iinc kk93_0.2.2.2.1.2 rfl rfl 1 rfl (loc2 := [some (sR v0), some (sI v1), some (sI v2), some (sI v3), some (sI v4), some (sI (w32 (v5 + 1)))]) rfl ?_
        refine go_goto kk93_0.2.2.2.2.1.1 ?_
        exact HX6 v4 h4 (w32 (v5 + 1)) (inR_w32 _)
theorem tbM_roomiestFor_6 {Φ : ev_P} {d : Nat} (hd : 4 ≤ d) {g : gH} (hg : HR g) {v0 v1 v2 v3 : Int} (hK0 : kd v0 = 7) (h1 : InR v1) (h2 : InR v2) (h3 : B01 v3) {X6 : Int → Int → Option Int} (HX6 : ∀ (v4 : Int) (h4 : InR v4) (v5 : Int) (h5 : InR v5), Go Φ pr_P (fP g) 1 (X6 v4 v5) d pr_m93 6 [some (sR v0), some (sI v1), some (sI v2), some (sI v3), some (sI v4), some (sI v5)] [] g 0 0) : ∀ (v4 : Int) (h4 : InR v4) (v5 : Int) (h5 : InR v5), Go Φ pr_P (fP g) 1 (bM_roomiestFor_6 g v0 v1 v2 v3 X6 v4 v5) d pr_m93 6 [some (sR v0), some (sI v1), some (sI v2), some (sI v3), some (sI v4), some (sI v5)] [] g 0 0 := by
  intro v4 h4 v5 h5
  unfold bM_roomiestFor_6
  refine go_iload kk93_0.1.1.1.2.1.1 rfl ?_
  refine go_aload kk93_0.1.1.1.2.1.2 rfl ?_
  refine go_getR (bI := 0) kk93_0.1.1.1.2.2 hg hK0 (by decide) rfl rfl (fun r1 => ?_)
  refine go_int kk93_0.1.1.2.1.1.1 0 rfl ?_
  refine go_ck (fun q3 => ?_)
  refine go_iald kk93_0.1.1.2.1.1.2 hg q3 (fun r2 => ?_)
  refine go_cmlt kk93_0.1.1.2.1.2 h5 r2 (fun c4 => ?_) (fun c5 => ?_)
  · refine go_iload kk93_0.1.1.2.2.1.1 rfl ?_
    refine go_iload kk93_0.1.1.2.2.1.2 rfl ?_
    refine go_cmeq kk93_0.1.1.2.2.2 h5 h2 (fun c6 => ?_) (fun c7 => ?_)
    · refine go_iinc kk93_0.2.2.2.1.2 rfl rfl 1 rfl (loc2 := [some (sR v0), some (sI v1), some (sI v2), some (sI v3), some (sI v4), some (sI (w32 (v5 + 1)))]) rfl ?_
      refine go_goto kk93_0.2.2.2.2.1.1 ?_
      exact HX6 v4 h4 (w32 (v5 + 1)) (inR_w32 _)
    · refine go_iload kk93_0.1.2.1.1.1.1 rfl ?_
      refine go_ifeq kk93_0.1.2.1.1.1.2 (inR_b h3) (fun c8 => ?_) (fun c9 => ?_)
      · exact tjM_roomiestFor_51 hd hg hK0 h1 h2 h3 h4 h5 HX6
      · refine go_aload kk93_0.1.2.1.1.2 rfl ?_
        refine go_getR (bI := 0) kk93_0.1.2.1.2.1.1 hg hK0 (by decide) rfl rfl (fun r10 => ?_)
        refine go_int kk93_0.1.2.1.2.1.2 180 rfl ?_
        refine go_iload kk93_0.1.2.1.2.2 rfl ?_
        refine go_iadd kk93_0.1.2.2.1.1.1 ?_
        refine go_ck (fun q12 => ?_)
        refine go_iald kk93_0.1.2.2.1.1.2 hg q12 (fun r11 => ?_)
        refine go_aload kk93_0.1.2.2.1.2 rfl ?_
        refine go_getR (bI := 0) kk93_0.1.2.2.2.1.1 hg hK0 (by decide) rfl rfl (fun r13 => ?_)
        refine go_int kk93_0.1.2.2.2.1.2 180 rfl ?_
        refine go_iload kk93_0.1.2.2.2.2 rfl ?_
        refine go_iadd kk93_0.2.1.1.1.1.1 ?_
        refine go_ck (fun q15 => ?_)
        refine go_iald kk93_0.2.1.1.1.1.2 hg q15 (fun r14 => ?_)
        refine go_cmeq kk93_0.2.1.1.1.2.1 r11 r14 (fun c16 => ?_) (fun c17 => ?_)
        · exact tjM_roomiestFor_51 hd hg hK0 h1 h2 h3 h4 h5 HX6
        · refine go_iinc kk93_0.2.2.2.1.2 rfl rfl 1 rfl (loc2 := [some (sR v0), some (sI v1), some (sI v2), some (sI v3), some (sI v4), some (sI (w32 (v5 + 1)))]) rfl ?_
          refine go_goto kk93_0.2.2.2.2.1.1 ?_
          exact HX6 v4 h4 (w32 (v5 + 1)) (inR_w32 _)
  · refine go_iload kk93_0.2.2.2.2.1.2 rfl ?_
    exact go_iret kk93_0.2.2.2.2.2 hg h4 ⟨Nat.zero_le _, Nat.zero_le _⟩ rfl
theorem tlM_roomiestFor_6 {Φ : ev_P} {d : Nat} (hd : 4 ≤ d) {g : gH} (hg : HR g) {v0 v1 v2 v3 : Int} (hK0 : kd v0 = 7) (h1 : InR v1) (h2 : InR v2) (h3 : B01 v3) : ∀ n : Nat, ∀ (v4 : Int) (h4 : InR v4) (v5 : Int) (h5 : InR v5), Go Φ pr_P (fP g) 1 (lM_roomiestFor_6 g v0 v1 v2 v3 n v4 v5) d pr_m93 6 [some (sR v0), some (sI v1), some (sI v2), some (sI v3), some (sI v4), some (sI v5)] [] g 0 0 := by
  intro n
  induction n with
  | zero => intros; exact go_none
  | succ n ih => exact tbM_roomiestFor_6 hd hg hK0 h1 h2 h3 ih
theorem tfM_roomiestFor {Φ : ev_P} {d : Nat} (hd : 4 ≤ d) {g : gH} (hg : HR g) {v0 v1 v2 v3 : Int} (hK0 : kd v0 = 7) (h1 : InR v1) (h2 : InR v2) (h3 : B01 v3) : Go Φ pr_P (fP g) 1 (fM_roomiestFor g v0 v1 v2 v3) d (pr_P 93) 0 (ev_loc (pr_P 93).1 [(sR v0), (sI v1), (sI v2), (sI v3)]) [] g 0 0 := by
  show Go Φ pr_P (fP g) 1 (fM_roomiestFor g v0 v1 v2 v3) d pr_m93 0 [some (sR v0), some (sI v1), some (sI v2), some (sI v3), none, none] [] g 0 0
  unfold fM_roomiestFor
  refine go_int kk93_0.1.1.1.1.1.1 (-1) rfl ?_
  refine go_istore kk93_0.1.1.1.1.1.2 rfl (loc2 := [some (sR v0), some (sI v1), some (sI v2), some (sI v3), some (sI (-1)), none]) rfl ?_
  refine go_int kk93_0.1.1.1.1.2.1 1 rfl ?_
  refine go_istore kk93_0.1.1.1.1.2.2 rfl (loc2 := [some (sR v0), some (sI v1), some (sI v2), some (sI v3), some (sI (-1)), some (sI 1)]) rfl ?_
  exact tlM_roomiestFor_6 hd hg hK0 h1 h2 h3 fu (-1) (inR_of (by decide)) 1 (inR_b (Or.inr rfl))
theorem tbM_kinOf_8 {Φ : ev_P} {d : Nat} (hd : 4 ≤ d) {g : gH} (hg : HR g) {v0 v1 v2 : Int} (hK0 : kd v0 = 7) (h1 : InR v1) (h2 : InR v2) {X8 : Int → Option Int} (HX8 : ∀ (v3 : Int) (h3 : InR v3), Go Φ pr_P (fP g) 1 (X8 v3) d pr_m94 8 [some (sR v0), some (sI v1), some (sI v2), some (sI v3)] [] g 0 0) : ∀ (v3 : Int) (h3 : InR v3), Go Φ pr_P (fP g) 1 (bM_kinOf_8 g v0 v1 v2 X8 v3) d pr_m94 8 [some (sR v0), some (sI v1), some (sI v2), some (sI v3)] [] g 0 0 := by
  intro v3 h3
  unfold bM_kinOf_8
  refine go_iload kk94_0.1.1.2.1.1.2 rfl ?_
  refine go_aload kk94_0.1.1.2.1.2 rfl ?_
  refine go_getR (bI := 0) kk94_0.1.1.2.2.1 hg hK0 (by decide) rfl rfl (fun r3 => ?_)
  refine go_int kk94_0.1.1.2.2.2 0 rfl ?_
  refine go_ck (fun q5 => ?_)
  refine go_iald kk94_0.1.2.1.1.1.1 hg q5 (fun r4 => ?_)
  refine go_cmlt kk94_0.1.2.1.1.1.2 h3 r4 (fun c6 => ?_) (fun c7 => ?_)
  · refine go_iload kk94_0.1.2.1.1.2 rfl ?_
    refine go_iload kk94_0.1.2.1.2.1 rfl ?_
    refine go_cmeq kk94_0.1.2.1.2.2 h3 h2 (fun c8 => ?_) (fun c9 => ?_)
    · refine go_iinc kk94_0.2.2.2.1.1 rfl rfl 1 rfl (loc2 := [some (sR v0), some (sI v1), some (sI v2), some (sI (w32 (v3 + 1)))]) rfl ?_
      refine go_goto kk94_0.2.2.2.1.2 ?_
      exact HX8 (w32 (v3 + 1)) (inR_w32 _)
    · refine go_aload kk94_0.1.2.2.1.1 rfl ?_
      refine go_iload kk94_0.1.2.2.1.2 rfl ?_
      refine go_aload kk94_0.1.2.2.2.1 rfl ?_
      refine go_getR (bI := 0) kk94_0.1.2.2.2.2 hg hK0 (by decide) rfl rfl (fun r10 => ?_)
      refine go_int kk94_0.2.1.1.1.1.1 60 rfl ?_
      refine go_iload kk94_0.2.1.1.1.1.2 rfl ?_
      refine go_iadd kk94_0.2.1.1.1.2 ?_
      refine go_ck (fun q12 => ?_)
      refine go_iald kk94_0.2.1.1.2.1 hg q12 (fun r11 => ?_)
      refine go_int kk94_0.2.1.1.2.2 0 rfl ?_
      refine go_callP3 kk94_0.2.1.2.1.1 rfl rfl rfl ⟨by decide, _, rfl, hK0⟩ ⟨Nat.zero_le _, Nat.zero_le _⟩ (by omega) (tfM_isChild (by omega) hg hK0  h3 r11 (inR_b (Or.inl rfl))) (fun y13 r14 => ?_)
      refine go_ifeq kk94_0.2.1.2.1.2 (inR_b r14) (fun c17 => ?_) (fun c18 => ?_)
      · refine go_iinc kk94_0.2.2.2.1.1 rfl rfl 1 rfl (loc2 := [some (sR v0), some (sI v1), some (sI v2), some (sI (w32 (v3 + 1)))]) rfl ?_
        refine go_goto kk94_0.2.2.2.1.2 ?_
        exact HX8 (w32 (v3 + 1)) (inR_w32 _)
      · refine go_aload kk94_0.2.1.2.2.1 rfl ?_
        refine go_iload kk94_0.2.1.2.2.2 rfl ?_
        refine go_iload kk94_0.2.2.1.1.1.1 rfl ?_
        refine go_callP3 kk94_0.2.2.1.1.1.2 rfl rfl rfl ⟨by decide, _, rfl, hK0⟩ ⟨Nat.zero_le _, Nat.zero_le _⟩ (by omega) (tfM_canAdopt (by omega) hg hK0  h3 h1) (fun y19 r20 => ?_)
        refine go_ifeq kk94_0.2.2.1.1.2 (inR_b r20) (fun c23 => ?_) (fun c24 => ?_)
        · refine go_iinc kk94_0.2.2.2.1.1 rfl rfl 1 rfl (loc2 := [some (sR v0), some (sI v1), some (sI v2), some (sI (w32 (v3 + 1)))]) rfl ?_
          refine go_goto kk94_0.2.2.2.1.2 ?_
          exact HX8 (w32 (v3 + 1)) (inR_w32 _)
        · refine go_iload kk94_0.2.2.1.2.1 rfl ?_
          exact go_iret kk94_0.2.2.1.2.2 hg h3 ⟨Nat.zero_le _, Nat.zero_le _⟩ rfl
  · refine go_int kk94_0.2.2.2.2.1 (-1) rfl ?_
    exact go_iret kk94_0.2.2.2.2.2 hg (inR_of (by decide)) ⟨Nat.zero_le _, Nat.zero_le _⟩ rfl
theorem tlM_kinOf_8 {Φ : ev_P} {d : Nat} (hd : 4 ≤ d) {g : gH} (hg : HR g) {v0 v1 v2 : Int} (hK0 : kd v0 = 7) (h1 : InR v1) (h2 : InR v2) : ∀ n : Nat, ∀ (v3 : Int) (h3 : InR v3), Go Φ pr_P (fP g) 1 (lM_kinOf_8 g v0 v1 v2 n v3) d pr_m94 8 [some (sR v0), some (sI v1), some (sI v2), some (sI v3)] [] g 0 0 := by
  intro n
  induction n with
  | zero => intros; exact go_none
  | succ n ih => exact tbM_kinOf_8 hd hg hK0 h1 h2 ih
theorem tfM_kinOf {Φ : ev_P} {d : Nat} (hd : 4 ≤ d) {g : gH} (hg : HR g) {v0 v1 v2 : Int} (hK0 : kd v0 = 7) (h1 : InR v1) (h2 : InR v2) : Go Φ pr_P (fP g) 1 (fM_kinOf g v0 v1 v2) d (pr_P 94) 0 (ev_loc (pr_P 94).1 [(sR v0), (sI v1), (sI v2)]) [] g 0 0 := by
  show Go Φ pr_P (fP g) 1 (fM_kinOf g v0 v1 v2) d pr_m94 0 [some (sR v0), some (sI v1), some (sI v2), none] [] g 0 0
  unfold fM_kinOf
  refine go_iload kk94_0.1.1.1.1.1.1 rfl ?_
  refine go_ifeq kk94_0.1.1.1.1.1.2 h2 (fun c1 => ?_) (fun c2 => ?_)
  · refine go_int kk94_0.1.1.1.1.2 (-1) rfl ?_
    exact go_iret kk94_0.1.1.1.2.1 hg (inR_of (by decide)) ⟨Nat.zero_le _, Nat.zero_le _⟩ rfl
  · refine go_int kk94_0.1.1.1.2.2 1 rfl ?_
    refine go_istore kk94_0.1.1.2.1.1.1 rfl (loc2 := [some (sR v0), some (sI v1), some (sI v2), some (sI 1)]) rfl ?_
    exact tlM_kinOf_8 hd hg hK0 h1 h2 fu 1 (inR_b (Or.inr rfl))
theorem tbM_oldest_2 {Φ : ev_P} {d : Nat} (hd : 4 ≤ d) {g : gH} (hg : HR g) {v0 v1 v2 : Int} (hK0 : kd v0 = 7) (h1 : InR v1) (h2 : InR v2) {X2 : Int → Option Int} (HX2 : ∀ (v3 : Int) (h3 : InR v3), Go Φ pr_P (fP g) 1 (X2 v3) d pr_m95 2 [some (sR v0), some (sI v1), some (sI v2), some (sI v3)] [] g 0 0) : ∀ (v3 : Int) (h3 : InR v3), Go Φ pr_P (fP g) 1 (bM_oldest_2 g v0 v1 v2 X2 v3) d pr_m95 2 [some (sR v0), some (sI v1), some (sI v2), some (sI v3)] [] g 0 0 := by
  intro v3 h3
  unfold bM_oldest_2
  refine go_iload kk95_0.1.1.1.2 rfl ?_
  refine go_aload kk95_0.1.1.2.1.1 rfl ?_
  refine go_getR (bI := 0) kk95_0.1.1.2.1.2 hg hK0 (by decide) rfl rfl (fun r1 => ?_)
  refine go_int kk95_0.1.1.2.2 0 rfl ?_
  refine go_ck (fun q3 => ?_)
  refine go_iald kk95_0.1.2.1.1.1 hg q3 (fun r2 => ?_)
  refine go_cmlt kk95_0.1.2.1.1.2 h3 r2 (fun c4 => ?_) (fun c5 => ?_)
  · refine go_iload kk95_0.1.2.1.2 rfl ?_
    refine go_iload kk95_0.1.2.2.1 rfl ?_
    refine go_cmeq kk95_0.1.2.2.2 h3 h2 (fun c6 => ?_) (fun c7 => ?_)
    · refine go_iinc kk95_0.2.2.1.1.2 rfl rfl 1 rfl (loc2 := [some (sR v0), some (sI v1), some (sI v2), some (sI (w32 (v3 + 1)))]) rfl ?_
      refine go_goto kk95_0.2.2.1.2 ?_
      exact HX2 (w32 (v3 + 1)) (inR_w32 _)
    · refine go_aload kk95_0.2.1.1.1.1 rfl ?_
      refine go_iload kk95_0.2.1.1.1.2 rfl ?_
      refine go_iload kk95_0.2.1.1.2 rfl ?_
      refine go_callP3 kk95_0.2.1.2.1.1 rfl rfl rfl ⟨by decide, _, rfl, hK0⟩ ⟨Nat.zero_le _, Nat.zero_le _⟩ (by omega) (tfM_canAdopt (by omega) hg hK0  h3 h1) (fun y8 r9 => ?_)
      refine go_ifeq kk95_0.2.1.2.1.2 (inR_b r9) (fun c12 => ?_) (fun c13 => ?_)
      · refine go_iinc kk95_0.2.2.1.1.2 rfl rfl 1 rfl (loc2 := [some (sR v0), some (sI v1), some (sI v2), some (sI (w32 (v3 + 1)))]) rfl ?_
        refine go_goto kk95_0.2.2.1.2 ?_
        exact HX2 (w32 (v3 + 1)) (inR_w32 _)
      · refine go_iload kk95_0.2.1.2.2 rfl ?_
        exact go_iret kk95_0.2.2.1.1.1 hg h3 ⟨Nat.zero_le _, Nat.zero_le _⟩ rfl
  · refine go_int kk95_0.2.2.2.1 (-1) rfl ?_
    exact go_iret kk95_0.2.2.2.2 hg (inR_of (by decide)) ⟨Nat.zero_le _, Nat.zero_le _⟩ rfl
theorem tlM_oldest_2 {Φ : ev_P} {d : Nat} (hd : 4 ≤ d) {g : gH} (hg : HR g) {v0 v1 v2 : Int} (hK0 : kd v0 = 7) (h1 : InR v1) (h2 : InR v2) : ∀ n : Nat, ∀ (v3 : Int) (h3 : InR v3), Go Φ pr_P (fP g) 1 (lM_oldest_2 g v0 v1 v2 n v3) d pr_m95 2 [some (sR v0), some (sI v1), some (sI v2), some (sI v3)] [] g 0 0 := by
  intro n
  induction n with
  | zero => intros; exact go_none
  | succ n ih => exact tbM_oldest_2 hd hg hK0 h1 h2 ih
theorem tfM_oldest {Φ : ev_P} {d : Nat} (hd : 4 ≤ d) {g : gH} (hg : HR g) {v0 v1 v2 : Int} (hK0 : kd v0 = 7) (h1 : InR v1) (h2 : InR v2) : Go Φ pr_P (fP g) 1 (fM_oldest g v0 v1 v2) d (pr_P 95) 0 (ev_loc (pr_P 95).1 [(sR v0), (sI v1), (sI v2)]) [] g 0 0 := by
  show Go Φ pr_P (fP g) 1 (fM_oldest g v0 v1 v2) d pr_m95 0 [some (sR v0), some (sI v1), some (sI v2), none] [] g 0 0
  unfold fM_oldest
  refine go_int kk95_0.1.1.1.1.1 1 rfl ?_
  refine go_istore kk95_0.1.1.1.1.2 rfl (loc2 := [some (sR v0), some (sI v1), some (sI v2), some (sI 1)]) rfl ?_
  exact tlM_oldest_2 hd hg hK0 h1 h2 fu 1 (inR_b (Or.inr rfl))
theorem tfM_findsBy {Φ : ev_P} {d : Nat} (hd : 5 ≤ d) {g : gH} (hg : HR g) {v0 v1 v2 v3 : Int} (hK0 : kd v0 = 7) (h1 : InR v1) (h2 : InR v2) (h3 : InR v3) : Go Φ pr_P (fP g) 1 (fM_findsBy g v0 v1 v2 v3) d (pr_P 96) 0 (ev_loc (pr_P 96).1 [(sR v0), (sI v1), (sI v2), (sI v3)]) [] g 0 0 := by
  show Go Φ pr_P (fP g) 1 (fM_findsBy g v0 v1 v2 v3) d pr_m96 0 [some (sR v0), some (sI v1), some (sI v2), some (sI v3)] [] g 0 0
  unfold fM_findsBy
  refine go_iload kk96_0.1.1.1.1.1 rfl ?_
  refine go_ite (fun c1 => ?_) (fun c2 => ?_)
  · refine go_swh (lo := 0) (hi := 3) (i := 0) kk96_0.1.1.1.1.2 rfl rfl (by omega) (by omega) rfl ?_
    refine go_aload kk96_0.1.1.1.2.1 rfl ?_
    refine go_iload kk96_0.1.1.1.2.2 rfl ?_
    refine go_iload kk96_0.1.1.2.1.1 rfl ?_
    refine go_callP1 kk96_0.1.1.2.1.2 rfl rfl rfl ⟨by decide, _, rfl, hK0⟩ ⟨Nat.zero_le _, Nat.zero_le _⟩ (by omega) (tfM_nearest (by omega) hg hK0  h2 h3) (fun y3 r4 => ?_)
    exact go_iret kk96_0.1.1.2.2.1 hg r4 ⟨Nat.zero_le _, Nat.zero_le _⟩ rfl
  refine go_ite (fun c7 => ?_) (fun c8 => ?_)
  · refine go_swh (lo := 0) (hi := 3) (i := 1) kk96_0.1.1.1.1.2 rfl rfl (by omega) (by omega) rfl ?_
    refine go_aload kk96_0.1.1.2.2.2 rfl ?_
    refine go_iload kk96_0.1.2.1.1.1 rfl ?_
    refine go_iload kk96_0.1.2.1.1.2 rfl ?_
    refine go_int kk96_0.1.2.1.2.1 1 rfl ?_
    refine go_callP1 kk96_0.1.2.1.2.2 rfl rfl rfl ⟨by decide, _, rfl, hK0⟩ ⟨Nat.zero_le _, Nat.zero_le _⟩ (by omega) (tfM_roomiestFor (by omega) hg hK0  h2 h3 (Or.inr rfl)) (fun y9 r10 => ?_)
    exact go_iret kk96_0.1.2.2.1.1 hg r10 ⟨Nat.zero_le _, Nat.zero_le _⟩ rfl
  refine go_ite (fun c13 => ?_) (fun c14 => ?_)
  · refine go_swh (lo := 0) (hi := 3) (i := 2) kk96_0.1.1.1.1.2 rfl rfl (by omega) (by omega) rfl ?_
    refine go_aload kk96_0.1.2.2.1.2 rfl ?_
    refine go_iload kk96_0.1.2.2.2 rfl ?_
    refine go_iload kk96_0.2.1.1.1.1 rfl ?_
    refine go_int kk96_0.2.1.1.1.2 0 rfl ?_
    refine go_callP1 kk96_0.2.1.1.2.1 rfl rfl rfl ⟨by decide, _, rfl, hK0⟩ ⟨Nat.zero_le _, Nat.zero_le _⟩ (by omega) (tfM_roomiestFor (by omega) hg hK0  h2 h3 (Or.inl rfl)) (fun y15 r16 => ?_)
    exact go_iret kk96_0.2.1.1.2.2 hg r16 ⟨Nat.zero_le _, Nat.zero_le _⟩ rfl
  refine go_ite (fun c19 => ?_) (fun c20 => ?_)
  · refine go_swh (lo := 0) (hi := 3) (i := 3) kk96_0.1.1.1.1.2 rfl rfl (by omega) (by omega) rfl ?_
    refine go_aload kk96_0.2.1.2.1.1 rfl ?_
    refine go_iload kk96_0.2.1.2.1.2 rfl ?_
    refine go_iload kk96_0.2.1.2.2 rfl ?_
    refine go_callP1 kk96_0.2.2.1.1.1 rfl rfl rfl ⟨by decide, _, rfl, hK0⟩ ⟨Nat.zero_le _, Nat.zero_le _⟩ (by omega) (tfM_kinOf (by omega) hg hK0  h2 h3) (fun y21 r22 => ?_)
    exact go_iret kk96_0.2.2.1.1.2 hg r22 ⟨Nat.zero_le _, Nat.zero_le _⟩ rfl
  refine go_swd (lo := 0) (hi := 3) kk96_0.1.1.1.1.2 rfl rfl h1 (by omega) (by omega) ?_
  refine go_aload kk96_0.2.2.1.2.1 rfl ?_
  refine go_iload kk96_0.2.2.1.2.2 rfl ?_
  refine go_iload kk96_0.2.2.2.1.1 rfl ?_
  refine go_callP1 kk96_0.2.2.2.1.2 rfl rfl rfl ⟨by decide, _, rfl, hK0⟩ ⟨Nat.zero_le _, Nat.zero_le _⟩ (by omega) (tfM_oldest (by omega) hg hK0  h2 h3) (fun y25 r26 => ?_)
  exact go_iret kk96_0.2.2.2.2 hg r26 ⟨Nat.zero_le _, Nat.zero_le _⟩ rfl
theorem tbM_adopterOf_2 {Φ : ev_P} {d : Nat} (hd : 6 ≤ d) {g : gH} (hg : HR g) {v0 v1 v2 : Int} (hK0 : kd v0 = 7) (h1 : InR v1) (h2 : InR v2) {X2 : Int → Option Int} (HX2 : ∀ (v3 : Int) (h3 : InR v3) (u4 : Option ev_V) (w4 : nwo u4), Go Φ pr_P (fP g) 1 (X2 v3) d pr_m97 2 [some (sR v0), some (sI v1), some (sI v2), some (sI v3), u4] [] g 0 0) : ∀ (v3 : Int) (h3 : InR v3) (u4 : Option ev_V) (w4 : nwo u4), Go Φ pr_P (fP g) 1 (bM_adopterOf_2 g v0 v1 v2 X2 v3) d pr_m97 2 [some (sR v0), some (sI v1), some (sI v2), some (sI v3), u4] [] g 0 0 := by
  intro v3 h3 u4 w4
  unfold bM_adopterOf_2
  refine go_iload kk97_0.1.1.1.2.1 rfl ?_
  refine go_aload kk97_0.1.1.1.2.2 rfl ?_
  refine go_getR (bI := 0) kk97_0.1.1.2.1.1 hg hK0 (by decide) rfl rfl (fun r1 => ?_)
  refine go_int kk97_0.1.1.2.1.2 5 rfl ?_
  refine go_ck (fun q3 => ?_)
  refine go_iald kk97_0.1.1.2.2 hg q3 (fun r2 => ?_)
  refine go_cmlt kk97_0.1.2.1.1.1 h3 r2 (fun c4 => ?_) (fun c5 => ?_)
  · refine go_aload kk97_0.1.2.1.1.2 rfl ?_
    refine go_aload kk97_0.1.2.1.2.1 rfl ?_
    refine go_getR (bI := 0) kk97_0.1.2.1.2.2 hg hK0 (by decide) rfl rfl (fun r6 => ?_)
    refine go_int kk97_0.1.2.2.1.1 6 rfl ?_
    refine go_iload kk97_0.1.2.2.1.2 rfl ?_
    refine go_iadd kk97_0.1.2.2.2 ?_
    refine go_ck (fun q8 => ?_)
    refine go_iald kk97_0.2.1.1.1.1 hg q8 (fun r7 => ?_)
    refine go_iload kk97_0.2.1.1.1.2 rfl ?_
    refine go_iload kk97_0.2.1.1.2.1 rfl ?_
    refine go_callP1 kk97_0.2.1.1.2.2 rfl rfl rfl ⟨by decide, _, rfl, hK0⟩ ⟨Nat.zero_le _, Nat.zero_le _⟩ (by omega) (tfM_findsBy (by omega) hg hK0  r7 h1 h2) (fun y9 r10 => ?_)
    refine go_istore kk97_0.2.1.2.1.1 rfl (loc2 := [some (sR v0), some (sI v1), some (sI v2), some (sI v3), some (sI y9)]) rfl ?_
    refine go_iload kk97_0.2.1.2.1.2 rfl ?_
    refine go_int kk97_0.2.1.2.2 (-1) rfl ?_
    refine go_cmeq kk97_0.2.2.1.1.1 r10 (inR_of (by decide)) (fun c13 => ?_) (fun c14 => ?_)
    · refine go_iinc kk97_0.2.2.1.2.2 rfl rfl 1 rfl (loc2 := [some (sR v0), some (sI v1), some (sI v2), some (sI (w32 (v3 + 1))), some (sI y9)]) rfl ?_
      refine go_goto kk97_0.2.2.2.1.1 ?_
      exact HX2 (w32 (v3 + 1)) (inR_w32 _) (some (sI y9)) rfl
    · refine go_iload kk97_0.2.2.1.1.2 rfl ?_
      exact go_iret kk97_0.2.2.1.2.1 hg r10 ⟨Nat.zero_le _, Nat.zero_le _⟩ rfl
  · refine go_int kk97_0.2.2.2.1.2 0 rfl ?_
    exact go_iret kk97_0.2.2.2.2 hg (inR_b (Or.inl rfl)) ⟨Nat.zero_le _, Nat.zero_le _⟩ rfl
theorem tlM_adopterOf_2 {Φ : ev_P} {d : Nat} (hd : 6 ≤ d) {g : gH} (hg : HR g) {v0 v1 v2 : Int} (hK0 : kd v0 = 7) (h1 : InR v1) (h2 : InR v2) : ∀ n : Nat, ∀ (v3 : Int) (h3 : InR v3) (u4 : Option ev_V) (w4 : nwo u4), Go Φ pr_P (fP g) 1 (lM_adopterOf_2 g v0 v1 v2 n v3) d pr_m97 2 [some (sR v0), some (sI v1), some (sI v2), some (sI v3), u4] [] g 0 0 := by
  intro n
  induction n with
  | zero => intros; exact go_none
  | succ n ih => exact tbM_adopterOf_2 hd hg hK0 h1 h2 ih
theorem tfM_adopterOf {Φ : ev_P} {d : Nat} (hd : 6 ≤ d) {g : gH} (hg : HR g) {v0 v1 v2 : Int} (hK0 : kd v0 = 7) (h1 : InR v1) (h2 : InR v2) : Go Φ pr_P (fP g) 1 (fM_adopterOf g v0 v1 v2) d (pr_P 97) 0 (ev_loc (pr_P 97).1 [(sR v0), (sI v1), (sI v2)]) [] g 0 0 := by
  show Go Φ pr_P (fP g) 1 (fM_adopterOf g v0 v1 v2) d pr_m97 0 [some (sR v0), some (sI v1), some (sI v2), none, none] [] g 0 0
  unfold fM_adopterOf
  refine go_int kk97_0.1.1.1.1.1 0 rfl ?_
  refine go_istore kk97_0.1.1.1.1.2 rfl (loc2 := [some (sR v0), some (sI v1), some (sI v2), some (sI 0), none]) rfl ?_
  exact tlM_adopterOf_2 hd hg hK0 h1 h2 fu 0 (inR_b (Or.inl rfl)) none rfl
theorem tfM_adopts {Φ : ev_P} {d : Nat} (hd : 0 ≤ d) {g : gH} (hg : HR g) {v0 v1 v2 : Int} (hK0 : kd v0 = 7) (h1 : InR v1) (h2 : InR v2) : Go Φ pr_P fN 0 (fM_adopts g v0 v1 v2) d (pr_P 98) 0 (ev_loc (pr_P 98).1 [(sR v0), (sI v1), (sI v2)]) [] g 0 0 := by
  show Go Φ pr_P fN 0 (fM_adopts g v0 v1 v2) d pr_m98 0 [some (sR v0), some (sI v1), some (sI v2)] [] g 0 0
  unfold fM_adopts
  refine go_aload kk98_0.1.1.1.1.1.1 rfl ?_
  refine go_getR (bI := 0) kk98_0.1.1.1.1.1.2 hg hK0 (by decide) rfl rfl (fun r1 => ?_)
  refine go_int kk98_0.1.1.1.1.2 60 rfl ?_
  refine go_iload kk98_0.1.1.1.2.1 rfl ?_
  refine go_iadd kk98_0.1.1.1.2.2 ?_
  refine go_iload kk98_0.1.1.2.1.1.1 rfl ?_
  refine go_ck (fun q2 => ?_)
  refine go_iast kk98_0.1.1.2.1.1.2 hg q2 h1 (fun g3 e4 => ?_)
  refine go_aload kk98_0.1.1.2.1.2 rfl ?_
  refine go_getR (bI := 0) kk98_0.1.1.2.2.1 e4 hK0 (by decide) rfl rfl (fun r5 => ?_)
  refine go_int kk98_0.1.1.2.2.2 380 rfl ?_
  refine go_iload kk98_0.1.2.1.1.1.1 rfl ?_
  refine go_iadd kk98_0.1.2.1.1.1.2 ?_
  refine go_dup2 kk98_0.1.2.1.1.2 ?_
  refine go_ck (fun q7 => ?_)
  refine go_iald kk98_0.1.2.1.2.1 e4 q7 (fun r6 => ?_)
  refine go_int kk98_0.1.2.1.2.2 1 rfl ?_
  refine go_iadd kk98_0.1.2.2.1.1 ?_
  refine go_ck (fun q8 => ?_)
  refine go_iast kk98_0.1.2.2.1.2 e4 q8 (inR_w32 _) (fun g9 e10 => ?_)
  refine go_aload kk98_0.1.2.2.2.1 rfl ?_
  refine go_getR (bI := 0) kk98_0.1.2.2.2.2 e10 hK0 (by decide) rfl rfl (fun r11 => ?_)
  refine go_int kk98_0.2.1.1.1.1.1 2 rfl ?_
  refine go_dup2 kk98_0.2.1.1.1.1.2 ?_
  refine go_ck (fun q13 => ?_)
  refine go_iald kk98_0.2.1.1.1.2 e10 q13 (fun r12 => ?_)
  refine go_int kk98_0.2.1.1.2.1 1 rfl ?_
  refine go_iadd kk98_0.2.1.1.2.2 ?_
  refine go_ck (fun q14 => ?_)
  refine go_iast kk98_0.2.1.2.1.1.1 e10 q14 (inR_w32 _) (fun g15 e16 => ?_)
  refine go_aload kk98_0.2.1.2.1.1.2 rfl ?_
  refine go_getR (bI := 0) kk98_0.2.1.2.1.2 e16 hK0 (by decide) rfl rfl (fun r17 => ?_)
  refine go_int kk98_0.2.1.2.2.1 3 rfl ?_
  refine go_dup2 kk98_0.2.1.2.2.2 ?_
  refine go_ck (fun q19 => ?_)
  refine go_iald kk98_0.2.2.1.1.1.1 e16 q19 (fun r18 => ?_)
  refine go_iload kk98_0.2.2.1.1.1.2 rfl ?_
  refine go_ifeq kk98_0.2.2.1.1.2 h1 (fun c20 => ?_) (fun c21 => ?_)
  · refine go_int kk98_0.2.2.1.2.1 1 rfl ?_
    refine go_goto kk98_0.2.2.1.2.2 ?_
    refine go_iadd kk98_0.2.2.2.1.2 ?_
    refine go_ck (fun q22 => ?_)
    refine go_iast kk98_0.2.2.2.2.1 e16 q22 (inR_w32 _) (fun g23 e24 => ?_)
    exact go_vret kk98_0.2.2.2.2.2 e24 ⟨Nat.zero_le _, Nat.zero_le _⟩ rfl
  · refine go_int kk98_0.2.2.2.1.1 0 rfl ?_
    refine go_iadd kk98_0.2.2.2.1.2 ?_
    refine go_ck (fun q25 => ?_)
    refine go_iast kk98_0.2.2.2.2.1 e16 q25 (inR_w32 _) (fun g26 e27 => ?_)
    exact go_vret kk98_0.2.2.2.2.2 e27 ⟨Nat.zero_le _, Nat.zero_le _⟩ rfl
