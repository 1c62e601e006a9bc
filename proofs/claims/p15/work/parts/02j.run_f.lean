/-! ===== the evaluator comes to what the functions tell (own work, by program: wip/p2/dec.py) ===== -/
theorem tfM_outputByte {Φ : ev_P} {d : Nat} (hd : 1 ≤ d) {g : gH} (hg : HR g) {v0 v1 : Int} (hK0 : kd v0 = 7) (h1 : InR v1) : Go Φ pr_P fN 1 (fM_outputByte g v0 v1) d (pr_P 214) 0 (ev_loc (pr_P 214).1 [(sR v0), (sI v1)]) [] g 0 0 := by
  show Go Φ pr_P fN 1 (fM_outputByte g v0 v1) d pr_m214 0 [some (sR v0), some (sI v1)] [] g 0 0
  unfold fM_outputByte
  refine go_aload kk214_0.1.1.1.1.1 rfl ?_
  refine go_int kk214_0.1.1.1.1.2 0 rfl ?_
  refine go_putI (bI := 8) kk214_0.1.1.1.2 hg hK0 (by decide) rfl rfl (inR_b (Or.inl rfl)) (fun g1 e2 => ?_)
  refine go_iload kk214_0.1.1.2.1 rfl ?_
  refine go_int kk214_0.1.1.2.2 0 rfl ?_
  refine go_aload kk214_0.1.2.1.1 rfl ?_
  refine go_getI (bI := 23) kk214_0.1.2.1.2 e2 hK0 (by decide) rfl rfl (fun r3 => ?_)
  refine go_int kk214_0.1.2.2.1 1 rfl ?_
  refine go_isub kk214_0.1.2.2.2 ?_
  refine go_callP3 kk214_0.2.1.1.1.1 rfl rfl rfl trivial ⟨Nat.zero_le _, Nat.zero_le _⟩ (by omega) (tfM_inRange (by omega) e2  h1 (inR_b (Or.inl rfl)) (inR_w32 _)) (fun y4 r5 => ?_)
  refine go_ifeq kk214_0.2.1.1.1.2 (inR_b r5) (fun c8 => ?_) (fun c9 => ?_)
  · refine go_int kk214_0.2.2.2.1 (-1) rfl ?_
    exact go_iret kk214_0.2.2.2.2 e2 (inR_of (by decide)) ⟨Nat.zero_le _, Nat.zero_le _⟩ rfl
  · refine go_aload kk214_0.2.1.1.2 rfl ?_
    refine go_getR (bI := 22) kk214_0.2.1.2.1 e2 hK0 (by decide) rfl rfl (fun r10 => ?_)
    refine go_iload kk214_0.2.1.2.2 rfl ?_
    refine go_ck (fun q12 => ?_)
    refine go_iald kk214_0.2.2.1.1 e2 q12 (fun r11 => ?_)
    refine go_goto kk214_0.2.2.1.2 ?_
    exact go_iret kk214_0.2.2.2.2 e2 r11 ⟨Nat.zero_le _, Nat.zero_le _⟩ rfl
theorem tfM_undo {Φ : ev_P} {d : Nat} (hd : 1 ≤ d) {g : gH} (hg : HR g) {v0 : Int} (hK0 : kd v0 = 7) : Go Φ pr_P fN 1 (fM_undo g v0) d (pr_P 215) 0 (ev_loc (pr_P 215).1 [(sR v0)]) [] g 0 0 := by
  show Go Φ pr_P fN 1 (fM_undo g v0) d pr_m215 0 [some (sR v0)] [] g 0 0
  unfold fM_undo
  refine go_aload kk215_0.1.1.1.1.1 rfl ?_
  refine go_int kk215_0.1.1.1.1.2 0 rfl ?_
  refine go_putI (bI := 8) kk215_0.1.1.1.2.1 hg hK0 (by decide) rfl rfl (inR_b (Or.inl rfl)) (fun g1 e2 => ?_)
  refine go_aload kk215_0.1.1.1.2.2 rfl ?_
  refine go_getI (bI := 6) kk215_0.1.1.2.1.1 e2 hK0 (by decide) rfl rfl (fun r3 => ?_)
  refine go_ifeq kk215_0.1.1.2.1.2 r3 (fun c4 => ?_) (fun c5 => ?_)
  · refine go_int kk215_0.1.1.2.2 (-1) rfl ?_
    exact go_iret kk215_0.1.2.1.1.1 e2 (inR_of (by decide)) ⟨Nat.zero_le _, Nat.zero_le _⟩ rfl
  · refine go_aload kk215_0.1.2.1.1.2 rfl ?_
    refine go_dupR kk215_0.1.2.1.2.1 ?_
    refine go_getI (bI := 6) kk215_0.1.2.1.2.2 e2 hK0 (by decide) rfl rfl (fun r6 => ?_)
    refine go_int kk215_0.1.2.2.1.1 1 rfl ?_
    refine go_isub kk215_0.1.2.2.1.2 ?_
    refine go_putI (bI := 6) kk215_0.1.2.2.2 e2 hK0 (by decide) rfl rfl (inR_w32 _) (fun g7 e8 => ?_)
    refine go_aload kk215_0.2.1.1.1.1 rfl ?_
    refine go_getR (bI := 4) kk215_0.2.1.1.1.2 e8 hK0 (by decide) rfl rfl (fun r9 => ?_)
    refine go_int kk215_0.2.1.1.2.1 780 rfl ?_
    refine go_aload kk215_0.2.1.1.2.2 rfl ?_
    refine go_getI (bI := 6) kk215_0.2.1.2.1.1 e8 hK0 (by decide) rfl rfl (fun r10 => ?_)
    refine go_ibin kk215_0.2.1.2.1.2 ?_
    refine go_aload kk215_0.2.1.2.2 rfl ?_
    refine go_getR (bI := 0) kk215_0.2.2.1.1.1 e8 hK0 (by decide) rfl rfl (fun r11 => ?_)
    refine go_int kk215_0.2.2.1.1.2 0 rfl ?_
    refine go_int kk215_0.2.2.1.2.1 780 rfl ?_
    refine go_callN0 kk215_0.2.2.1.2.2 rfl rfl rfl trivial ⟨Nat.zero_le _, Nat.zero_le _⟩ (by omega) (tfM_copies (by omega) e8  r9 (inR_opI _ _ _) r11 (inR_b (Or.inl rfl)) (inR_of (by decide))) (fun y12 g14 e15 => ?_)
    refine go_aload kk215_0.2.2.2.1.1 rfl ?_
    refine go_getI (bI := 6) kk215_0.2.2.2.1.2 e15 hK0 (by decide) rfl rfl (fun r16 => ?_)
    exact go_iret kk215_0.2.2.2.2 e15 r16 ⟨Nat.zero_le _, Nat.zero_le _⟩ rfl
theorem tfM_saveState {Φ : ev_P} {d : Nat} (hd : 2 ≤ d) {g : gH} (hg : HR g) {v0 : Int} (hK0 : kd v0 = 7) : Go Φ pr_P fN 1 (fM_saveState g v0) d (pr_P 216) 0 (ev_loc (pr_P 216).1 [(sR v0)]) [] g 0 0 := by
  show Go Φ pr_P fN 1 (fM_saveState g v0) d pr_m216 0 [some (sR v0)] [] g 0 0
  unfold fM_saveState
  refine go_aload kk216_0.1.1.1.1.1 rfl ?_
  refine go_int kk216_0.1.1.1.1.2 0 rfl ?_
  refine go_putI (bI := 8) kk216_0.1.1.1.2 hg hK0 (by decide) rfl rfl (inR_b (Or.inl rfl)) (fun g1 e2 => ?_)
  refine go_aload kk216_0.1.1.2.1 rfl ?_
  refine go_getR (bI := 0) kk216_0.1.1.2.2 e2 hK0 (by decide) rfl rfl (fun r3 => ?_)
  refine go_int kk216_0.1.2.1.1 0 rfl ?_
  refine go_aload kk216_0.1.2.1.2 rfl ?_
  refine go_getR (bI := 3) kk216_0.1.2.2.1 e2 hK0 (by decide) rfl rfl (fun r4 => ?_)
  refine go_int kk216_0.1.2.2.2 0 rfl ?_
  refine go_int kk216_0.2.1.1.1 780 rfl ?_
  refine go_callN0 kk216_0.2.1.1.2 rfl rfl rfl trivial ⟨Nat.zero_le _, Nat.zero_le _⟩ (by omega) (tfM_copies (by omega) e2  r3 (inR_b (Or.inl rfl)) r4 (inR_b (Or.inl rfl)) (inR_of (by decide))) (fun y5 g7 e8 => ?_)
  refine go_aload kk216_0.2.1.2.1 rfl ?_
  refine go_int kk216_0.2.1.2.2 1 rfl ?_
  refine go_putB (bI := 7) kk216_0.2.2.1.1 e8 hK0 (by decide) rfl rfl (Or.inr rfl) (fun g9 e10 => ?_)
  refine go_aload kk216_0.2.2.1.2 rfl ?_
  refine go_callP1 kk216_0.2.2.2.1 rfl rfl rfl ⟨by decide, _, rfl, hK0⟩ ⟨Nat.zero_le _, Nat.zero_le _⟩ (by omega) (tfM_runningMany (by omega) e10 hK0 ) (fun y11 r12 => ?_)
  exact go_iret kk216_0.2.2.2.2 e10 r12 ⟨Nat.zero_le _, Nat.zero_le _⟩ rfl
theorem tjM_restoreState_18 {Φ : ev_P} {d : Nat} (hd : 2 ≤ d) {g : gH} (hg : HR g) {v0 : Int} (hK0 : kd v0 = 7) {s0 s1 : Int} (z0 : RfR s0) (z1 : B01 s1) : Go Φ pr_P fN 1 (jM_restoreState_18 g v0 s0 s1 ) d pr_m217 18 [some (sR v0)] [(sI s1), (sR s0)] g 0 0 := by
  unfold jM_restoreState_18
  refine go_int kk217_0.1.2.1.2.1 1 rfl ?_
  refine go_ck (fun q6 => ?_)
  refine go_callN3 kk217_0.1.2.1.2.2 rfl rfl rfl ⟨by decide, _, rfl, q6⟩ ⟨Nat.zero_le _, Nat.zero_le _⟩ (by omega) (tfM_fails (by omega) hg q6  z1 (inR_b (Or.inr rfl))) (fun y7 g9 r8 e10 => ?_)
  refine go_ifeq kk217_0.1.2.2.1.1 (inR_b r8) (fun c11 => ?_) (fun c12 => ?_)
  · refine go_aload kk217_0.2.1.1.1.1 rfl ?_
    refine go_getR (bI := 3) kk217_0.2.1.1.1.2 e10 hK0 (by decide) rfl rfl (fun r13 => ?_)
    refine go_int kk217_0.2.1.1.2.1 0 rfl ?_
    refine go_aload kk217_0.2.1.1.2.2 rfl ?_
    refine go_getR (bI := 0) kk217_0.2.1.2.1.1 e10 hK0 (by decide) rfl rfl (fun r14 => ?_)
    refine go_int kk217_0.2.1.2.1.2 0 rfl ?_
    refine go_int kk217_0.2.1.2.2 780 rfl ?_
    refine go_callN0 kk217_0.2.2.1.1.1 rfl rfl rfl trivial ⟨Nat.zero_le _, Nat.zero_le _⟩ (by omega) (tfM_copies (by omega) e10  r13 (inR_b (Or.inl rfl)) r14 (inR_b (Or.inl rfl)) (inR_of (by decide))) (fun y15 g17 e18 => ?_)
    refine go_aload kk217_0.2.2.1.1.2 rfl ?_
    refine go_int kk217_0.2.2.1.2.1 0 rfl ?_
    refine go_putI (bI := 6) kk217_0.2.2.1.2.2 e18 hK0 (by decide) rfl rfl (inR_b (Or.inl rfl)) (fun g19 e20 => ?_)
    refine go_aload kk217_0.2.2.2.1.1 rfl ?_
    refine go_callP1 kk217_0.2.2.2.1.2 rfl rfl rfl ⟨by decide, _, rfl, hK0⟩ ⟨Nat.zero_le _, Nat.zero_le _⟩ (by omega) (tfM_runningMany (by omega) e20 hK0 ) (fun y21 r22 => ?_)
    exact go_iret kk217_0.2.2.2.2 e20 r22 ⟨Nat.zero_le _, Nat.zero_le _⟩ rfl
  · refine go_int kk217_0.1.2.2.1.2 0 rfl ?_
    exact go_iret kk217_0.1.2.2.2 e10 (inR_b (Or.inl rfl)) ⟨Nat.zero_le _, Nat.zero_le _⟩ rfl
theorem tfM_restoreState {Φ : ev_P} {d : Nat} (hd : 2 ≤ d) {g : gH} (hg : HR g) {v0 : Int} (hK0 : kd v0 = 7) : Go Φ pr_P fN 1 (fM_restoreState g v0) d (pr_P 217) 0 (ev_loc (pr_P 217).1 [(sR v0)]) [] g 0 0 := by
  show Go Φ pr_P fN 1 (fM_restoreState g v0) d pr_m217 0 [some (sR v0)] [] g 0 0
  unfold fM_restoreState
  refine go_aload kk217_0.1.1.1.1.1 rfl ?_
  refine go_int kk217_0.1.1.1.1.2 0 rfl ?_
  refine go_putI (bI := 8) kk217_0.1.1.1.2.1 hg hK0 (by decide) rfl rfl (inR_b (Or.inl rfl)) (fun g1 e2 => ?_)
  refine go_aload kk217_0.1.1.1.2.2 rfl ?_
  refine go_aload kk217_0.1.1.2.1.1 rfl ?_
  refine go_getB (bI := 7) kk217_0.1.1.2.1.2 e2 hK0 (by decide) rfl rfl (fun r3 => ?_)
  refine go_ifeq kk217_0.1.1.2.2.1 (inR_b r3) (fun c4 => ?_) (fun c5 => ?_)
  · refine go_int kk217_0.1.1.2.2.2 1 rfl ?_
    refine go_goto kk217_0.1.2.1.1.1 ?_
    exact tjM_restoreState_18 hd e2 hK0 (rfR_kd hK0 (by decide)) (Or.inr rfl)
  · refine go_int kk217_0.1.2.1.1.2 0 rfl ?_
    exact tjM_restoreState_18 hd e2 hK0 (rfR_kd hK0 (by decide)) (Or.inl rfl)
theorem tbT_dutiesOf_4 {Φ : ev_P} {d : Nat} (hd : 0 ≤ d) {g : gH} (hg : HR g) {v0 v1 : Int} (hK0 : kd v0 = 5) (h1 : RfR v1) {X4 : Int → Int → Option Int} (HX4 : ∀ (v2 : Int) (h2 : InR v2) (v3 : Int) (h3 : InR v3), Go Φ pr_P (fP g) 1 (X4 v2 v3) d pr_m285 4 [some (sR v0), some (sR v1), some (sI v2), some (sI v3)] [] g 0 0) : ∀ (v2 : Int) (h2 : InR v2) (v3 : Int) (h3 : InR v3), Go Φ pr_P (fP g) 1 (bT_dutiesOf_4 g v0 v1 X4 v2 v3) d pr_m285 4 [some (sR v0), some (sR v1), some (sI v2), some (sI v3)] [] g 0 0 := by
  intro v2 h2 v3 h3
  unfold bT_dutiesOf_4
  refine go_iload kk285_0.1.1.2.1.2 rfl ?_
  refine go_int kk285_0.1.1.2.2 8 rfl ?_
  refine go_cmlt kk285_0.1.2.1.1.1 h3 (inR_of (by decide)) (fun c1 => ?_) (fun c2 => ?_)
  · refine go_aload kk285_0.1.2.1.1.2 rfl ?_
    refine go_getR (bI := 2) kk285_0.1.2.1.2 hg hK0 (by decide) rfl rfl (fun r3 => ?_)
    refine go_iload kk285_0.1.2.2.1.1 rfl ?_
    refine go_ck (fun q5 => ?_)
    refine go_iald kk285_0.1.2.2.1.2 hg q5 (fun r4 => ?_)
    refine go_aload kk285_0.1.2.2.2 rfl ?_
    refine go_ck (fun q6 => ?_)
    refine go_getI (bI := 0) kk285_0.2.1.1.1.1 hg q6 (by decide) rfl rfl (fun r7 => ?_)
    refine go_cmeq kk285_0.2.1.1.1.2 r4 r7 (fun c8 => ?_) (fun c9 => ?_)
    · refine go_iload kk285_0.2.1.1.2 rfl ?_
      refine go_int kk285_0.2.1.2.1.1 1 rfl ?_
      refine go_iload kk285_0.2.1.2.1.2 rfl ?_
      refine go_ibin kk285_0.2.1.2.2 ?_
      refine go_ibin kk285_0.2.2.1.1.1 ?_
      refine go_istore kk285_0.2.2.1.1.2 rfl (loc2 := [some (sR v0), some (sR v1), some (sI (opI 2 v2 (opI 4 1 v3))), some (sI v3)]) rfl ?_
      refine go_iinc kk285_0.2.2.1.2 rfl rfl 1 rfl (loc2 := [some (sR v0), some (sR v1), some (sI (opI 2 v2 (opI 4 1 v3))), some (sI (w32 (v3 + 1)))]) rfl ?_
      refine go_goto kk285_0.2.2.2.1.1 ?_
      exact HX4 (opI 2 v2 (opI 4 1 v3)) (inR_opI _ _ _) (w32 (v3 + 1)) (inR_w32 _)
    · refine go_iinc kk285_0.2.2.1.2 rfl rfl 1 rfl (loc2 := [some (sR v0), some (sR v1), some (sI v2), some (sI (w32 (v3 + 1)))]) rfl ?_
      refine go_goto kk285_0.2.2.2.1.1 ?_
      exact HX4 v2 h2 (w32 (v3 + 1)) (inR_w32 _)
  · refine go_iload kk285_0.2.2.2.1.2 rfl ?_
    exact go_iret kk285_0.2.2.2.2 hg h2 ⟨Nat.zero_le _, Nat.zero_le _⟩ rfl
theorem tlT_dutiesOf_4 {Φ : ev_P} {d : Nat} (hd : 0 ≤ d) {g : gH} (hg : HR g) {v0 v1 : Int} (hK0 : kd v0 = 5) (h1 : RfR v1) : ∀ n : Nat, ∀ (v2 : Int) (h2 : InR v2) (v3 : Int) (h3 : InR v3), Go Φ pr_P (fP g) 1 (lT_dutiesOf_4 g v0 v1 n v2 v3) d pr_m285 4 [some (sR v0), some (sR v1), some (sI v2), some (sI v3)] [] g 0 0 := by
  intro n
  induction n with
  | zero => intros; exact go_none
  | succ n ih => exact tbT_dutiesOf_4 hd hg hK0 h1 ih
theorem tfT_dutiesOf {Φ : ev_P} {d : Nat} (hd : 0 ≤ d) {g : gH} (hg : HR g) {v0 v1 : Int} (hK0 : kd v0 = 5) (h1 : RfR v1) : Go Φ pr_P (fP g) 1 (fT_dutiesOf g v0 v1) d (pr_P 285) 0 (ev_loc (pr_P 285).1 [(sR v0), (sR v1)]) [] g 0 0 := by
  show Go Φ pr_P (fP g) 1 (fT_dutiesOf g v0 v1) d pr_m285 0 [some (sR v0), some (sR v1), none, none] [] g 0 0
  unfold fT_dutiesOf
  refine go_int kk285_0.1.1.1.1.1 0 rfl ?_
  refine go_istore kk285_0.1.1.1.1.2 rfl (loc2 := [some (sR v0), some (sR v1), some (sI 0), none]) rfl ?_
  refine go_int kk285_0.1.1.1.2 0 rfl ?_
  refine go_istore kk285_0.1.1.2.1.1 rfl (loc2 := [some (sR v0), some (sR v1), some (sI 0), some (sI 0)]) rfl ?_
  exact tlT_dutiesOf_4 hd hg hK0 h1 fu 0 (inR_b (Or.inl rfl)) 0 (inR_b (Or.inl rfl))
theorem tfC_count {Φ : ev_P} {d : Nat} (hd : 1 ≤ d) {g : gH} (hg : HR g) {v0 v1 : Int} (hK0 : kd v0 = 6) (h1 : InR v1) : Go Φ pr_P (fQ g) 1 (fC_count g v0 v1) d (pr_P 6) 0 (ev_loc (pr_P 6).1 [(sR v0), (sI v1)]) [] g 0 0 := by
  show Go Φ pr_P (fQ g) 1 (fC_count g v0 v1) d pr_m6 0 [some (sR v0), some (sI v1)] [] g 0 0
  unfold fC_count
  refine go_iload kk6_0.1.1.1.1.1.1 rfl ?_
  refine go_ite (fun c1 => ?_) (fun c2 => ?_)
  · refine go_swh (lo := 0) (hi := 10) (i := 0) kk6_0.1.1.1.1.1.2 rfl rfl (by omega) (by omega) rfl ?_
    refine go_aload kk6_0.1.1.1.1.2.1 rfl ?_
    refine go_getR (bI := 0) kk6_0.1.1.1.1.2.2 hg hK0 (by decide) rfl rfl (fun r3 => ?_)
    refine go_ck (fun q4 => ?_)
    refine go_getI (bI := 5) kk6_0.1.1.1.2.1.1 hg q4 (by decide) rfl rfl (fun r5 => ?_)
    exact go_iret kk6_0.1.1.1.2.1.2 hg r5 ⟨Nat.zero_le _, Nat.zero_le _⟩ rfl
  refine go_ite (fun c6 => ?_) (fun c7 => ?_)
  · refine go_swh (lo := 0) (hi := 10) (i := 1) kk6_0.1.1.1.1.1.2 rfl rfl (by omega) (by omega) rfl ?_
    refine go_aload kk6_0.1.1.1.2.2 rfl ?_
    refine go_getR (bI := 0) kk6_0.1.1.2.1.1.1 hg hK0 (by decide) rfl rfl (fun r8 => ?_)
    refine go_int kk6_0.1.1.2.1.1.2 0 rfl ?_
    refine go_ck (fun q9 => ?_)
    refine go_callP1 kk6_0.1.1.2.1.2.1 rfl rfl rfl ⟨by decide, _, rfl, q9⟩ ⟨Nat.zero_le _, Nat.zero_le _⟩ (by omega) (tfT_countInState (by omega) hg q9  (inR_b (Or.inl rfl))) (fun y10 r11 => ?_)
    exact go_iret kk6_0.1.1.2.1.2.2 hg r11 ⟨Nat.zero_le _, Nat.zero_le _⟩ rfl
  refine go_ite (fun c14 => ?_) (fun c15 => ?_)
  · refine go_swh (lo := 0) (hi := 10) (i := 2) kk6_0.1.1.1.1.1.2 rfl rfl (by omega) (by omega) rfl ?_
    refine go_aload kk6_0.1.1.2.2.1.1 rfl ?_
    refine go_getR (bI := 0) kk6_0.1.1.2.2.1.2 hg hK0 (by decide) rfl rfl (fun r16 => ?_)
    refine go_int kk6_0.1.1.2.2.2 1 rfl ?_
    refine go_ck (fun q17 => ?_)
    refine go_callP1 kk6_0.1.2.1.1.1.1 rfl rfl rfl ⟨by decide, _, rfl, q17⟩ ⟨Nat.zero_le _, Nat.zero_le _⟩ (by omega) (tfT_countInState (by omega) hg q17  (inR_b (Or.inr rfl))) (fun y18 r19 => ?_)
    exact go_iret kk6_0.1.2.1.1.1.2 hg r19 ⟨Nat.zero_le _, Nat.zero_le _⟩ rfl
  refine go_ite (fun c22 => ?_) (fun c23 => ?_)
  · refine go_swh (lo := 0) (hi := 10) (i := 3) kk6_0.1.1.1.1.1.2 rfl rfl (by omega) (by omega) rfl ?_
    refine go_aload kk6_0.1.2.1.1.2.1 rfl ?_
    refine go_getR (bI := 0) kk6_0.1.2.1.1.2.2 hg hK0 (by decide) rfl rfl (fun r24 => ?_)
    refine go_int kk6_0.1.2.1.2.1.1 2 rfl ?_
    refine go_ck (fun q25 => ?_)
    refine go_callP1 kk6_0.1.2.1.2.1.2 rfl rfl rfl ⟨by decide, _, rfl, q25⟩ ⟨Nat.zero_le _, Nat.zero_le _⟩ (by omega) (tfT_countInState (by omega) hg q25  (inR_of (by decide))) (fun y26 r27 => ?_)
    exact go_iret kk6_0.1.2.1.2.2 hg r27 ⟨Nat.zero_le _, Nat.zero_le _⟩ rfl
  refine go_ite (fun c30 => ?_) (fun c31 => ?_)
  · refine go_swh (lo := 0) (hi := 10) (i := 4) kk6_0.1.1.1.1.1.2 rfl rfl (by omega) (by omega) rfl ?_
    refine go_aload kk6_0.1.2.2.1.1.1 rfl ?_
    refine go_getR (bI := 0) kk6_0.1.2.2.1.1.2 hg hK0 (by decide) rfl rfl (fun r32 => ?_)
    refine go_ck (fun q33 => ?_)
    refine go_getI (bI := 6) kk6_0.1.2.2.1.2 hg q33 (by decide) rfl rfl (fun r34 => ?_)
    exact go_iret kk6_0.1.2.2.2.1.1 hg r34 ⟨Nat.zero_le _, Nat.zero_le _⟩ rfl
  refine go_ite (fun c35 => ?_) (fun c36 => ?_)
  · refine go_swh (lo := 0) (hi := 10) (i := 5) kk6_0.1.1.1.1.1.2 rfl rfl (by omega) (by omega) rfl ?_
    refine go_aload kk6_0.1.2.2.2.1.2 rfl ?_
    refine go_getR (bI := 0) kk6_0.1.2.2.2.2 hg hK0 (by decide) rfl rfl (fun r37 => ?_)
    refine go_ck (fun q38 => ?_)
    refine go_getI (bI := 7) kk6_0.2.1.1.1.1.1 hg q38 (by decide) rfl rfl (fun r39 => ?_)
    exact go_iret kk6_0.2.1.1.1.1.2 hg r39 ⟨Nat.zero_le _, Nat.zero_le _⟩ rfl
  refine go_ite (fun c40 => ?_) (fun c41 => ?_)
  · refine go_swh (lo := 0) (hi := 10) (i := 6) kk6_0.1.1.1.1.1.2 rfl rfl (by omega) (by omega) rfl ?_
    refine go_aload kk6_0.2.1.1.1.2.1 rfl ?_
    refine go_getR (bI := 0) kk6_0.2.1.1.1.2.2 hg hK0 (by decide) rfl rfl (fun r42 => ?_)
    refine go_ck (fun q43 => ?_)
    refine go_getI (bI := 8) kk6_0.2.1.1.2.1.1 hg q43 (by decide) rfl rfl (fun r44 => ?_)
    exact go_iret kk6_0.2.1.1.2.1.2 hg r44 ⟨Nat.zero_le _, Nat.zero_le _⟩ rfl
  refine go_ite (fun c45 => ?_) (fun c46 => ?_)
  · refine go_swh (lo := 0) (hi := 10) (i := 7) kk6_0.1.1.1.1.1.2 rfl rfl (by omega) (by omega) rfl ?_
    refine go_aload kk6_0.2.1.1.2.2 rfl ?_
    refine go_getR (bI := 0) kk6_0.2.1.2.1.1.1 hg hK0 (by decide) rfl rfl (fun r47 => ?_)
    refine go_ck (fun q48 => ?_)
    refine go_getI (bI := 9) kk6_0.2.1.2.1.1.2 hg q48 (by decide) rfl rfl (fun r49 => ?_)
    exact go_iret kk6_0.2.1.2.1.2.1 hg r49 ⟨Nat.zero_le _, Nat.zero_le _⟩ rfl
  refine go_ite (fun c50 => ?_) (fun c51 => ?_)
  · refine go_swh (lo := 0) (hi := 10) (i := 8) kk6_0.1.1.1.1.1.2 rfl rfl (by omega) (by omega) rfl ?_
    refine go_aload kk6_0.2.1.2.1.2.2 rfl ?_
    refine go_getR (bI := 0) kk6_0.2.1.2.2.1.1 hg hK0 (by decide) rfl rfl (fun r52 => ?_)
    refine go_aload kk6_0.2.1.2.2.1.2 rfl ?_
    refine go_getR (bI := 0) kk6_0.2.1.2.2.2 hg hK0 (by decide) rfl rfl (fun r53 => ?_)
    refine go_ck (fun q54 => ?_)
    refine go_getR (bI := 0) kk6_0.2.2.1.1.1.1 hg q54 (by decide) rfl rfl (fun r55 => ?_)
    refine go_callP1 kk6_0.2.2.1.1.1.2 rfl rfl rfl ⟨by decide, _, rfl, q54⟩ ⟨Nat.zero_le _, Nat.zero_le _⟩ (by omega) (tfT_dutiesOf (by omega) hg q54  r55) (fun y56 r57 => ?_)
    refine go_callP1 kk6_0.2.2.1.1.2.1 rfl rfl rfl trivial ⟨Nat.zero_le _, Nat.zero_le _⟩ (by omega) (tfJ_bitCount (by omega) hg  r57) (fun y60 r61 => ?_)
    exact go_iret kk6_0.2.2.1.1.2.2 hg r61 ⟨Nat.zero_le _, Nat.zero_le _⟩ rfl
  refine go_ite (fun c64 => ?_) (fun c65 => ?_)
  · refine go_swh (lo := 0) (hi := 10) (i := 9) kk6_0.1.1.1.1.1.2 rfl rfl (by omega) (by omega) rfl ?_
    refine go_aload kk6_0.2.2.1.2.1.1 rfl ?_
    refine go_getR (bI := 3) kk6_0.2.2.1.2.1.2 hg hK0 (by decide) rfl rfl (fun r66 => ?_)
    refine go_ck (fun q67 => ?_)
    refine go_getI (bI := 1) kk6_0.2.2.1.2.2 hg q67 (by decide) rfl rfl (fun r68 => ?_)
    exact go_iret kk6_0.2.2.2.1.1.1 hg r68 ⟨Nat.zero_le _, Nat.zero_le _⟩ rfl
  refine go_ite (fun c69 => ?_) (fun c70 => ?_)
  · refine go_swh (lo := 0) (hi := 10) (i := 10) kk6_0.1.1.1.1.1.2 rfl rfl (by omega) (by omega) rfl ?_
    refine go_aload kk6_0.2.2.2.1.1.2 rfl ?_
    refine go_getR (bI := 0) kk6_0.2.2.2.1.2 hg hK0 (by decide) rfl rfl (fun r71 => ?_)
    refine go_ck (fun q72 => ?_)
    refine go_getI (bI := 4) kk6_0.2.2.2.2.1.1 hg q72 (by decide) rfl rfl (fun r73 => ?_)
    exact go_iret kk6_0.2.2.2.2.1.2 hg r73 ⟨Nat.zero_le _, Nat.zero_le _⟩ rfl
  refine go_swd (lo := 0) (hi := 10) kk6_0.1.1.1.1.1.2 rfl rfl h1 (by omega) (by omega) ?_
  exact go_throw kk6_0.2.2.2.2.2 hg ⟨by decide, by decide⟩ rfl rfl
theorem tfW_count {Φ : ev_P} {d : Nat} (hd : 2 ≤ d) {g : gH} (hg : HR g) {v0 v1 v2 : Int} (h0 : RfR v0) (h1 : InR v1) (h2 : RfR v2) : Go Φ pr_P fN 1 (fW_count g v0 v1 v2) d (pr_P 305) 0 (ev_loc (pr_P 305).1 [(sR v0), (sI v1), (sR v2)]) [] g 0 0 := by
  show Go Φ pr_P fN 1 (fW_count g v0 v1 v2) d pr_m305 0 [some (sR v0), some (sI v1), some (sR v2), none] [] g 0 0
  unfold fW_count
  refine go_aload kk305_0.1.1.1.1 rfl ?_
  refine go_int kk305_0.1.1.1.2 0 rfl ?_
  refine go_aload kk305_0.1.1.2.1 rfl ?_
  refine go_iload kk305_0.1.1.2.2 rfl ?_
  refine go_ck (fun q1 => ?_)
  refine go_callQ1 kk305_0.1.2.1.1 rfl rfl rfl ⟨by decide, _, rfl, q1⟩ ⟨by decide, by decide⟩ (by omega) (tfC_count (by omega) hg q1  h1) (fun y2 r3 => ?_) (fun e6 E7 => ?_)
  · refine go_i2l kk305_0.1.2.1.2 r3 ?_
    refine go_ck (fun q8 => ?_)
    refine go_last kk305_0.1.2.2 hg q8 (inL_R r3) (fun g9 e10 => ?_)
    refine go_goto kk305_0.2.1.1.1 ?_
    refine go_int kk305_0.2.2.1.2 0 rfl ?_
    exact go_iret kk305_0.2.2.2 e10 (inR_b (Or.inl rfl)) ⟨by decide, by decide⟩ rfl
  · refine ge_ite (fun hE9 => ?_) (fun _ => ?_)
    · subst hE9
      refine ge_catch rfl kk305_0.2.1.1.2 rfl (loc2 := [some (sR v0), some (sI v1), some (sR v2), none]) rfl ?_
      refine go_int kk305_0.2.1.2 1 rfl ?_
      exact go_iret kk305_0.2.2.1.1 e6 (inR_b (Or.inr rfl)) ⟨by decide, by decide⟩ rfl
    exact ge_none
theorem tfC_named {Φ : ev_P} {d : Nat} (hd : 1 ≤ d) {g : gH} (hg : HR g) {v0 v1 : Int} (hK0 : kd v0 = 6) (h1 : InR v1) : Go Φ pr_P (fQ g) 2 (fC_named g v0 v1) d (pr_P 65) 0 (ev_loc (pr_P 65).1 [(sR v0), (sI v1)]) [] g 0 0 := by
  show Go Φ pr_P (fQ g) 2 (fC_named g v0 v1) d pr_m65 0 [some (sR v0), some (sI v1), none] [] g 0 0
  unfold fC_named
  refine go_aload kk65_0.1.1.1.1 rfl ?_
  refine go_getR (bI := 0) kk65_0.1.1.1.2 hg hK0 (by decide) rfl rfl (fun r1 => ?_)
  refine go_iload kk65_0.1.1.2 rfl ?_
  refine go_ck (fun q2 => ?_)
  refine go_callP2 kk65_0.1.2.1 rfl rfl rfl ⟨by decide, _, rfl, q2⟩ ⟨Nat.zero_le _, Nat.zero_le _⟩ (by omega) (tfT_at (by omega) hg q2  h1) (fun y3 r4 => ?_)
  refine go_astore kk65_0.1.2.2 rfl (loc2 := [some (sR v0), some (sI v1), some (sR y3)]) rfl ?_
  refine go_aload kk65_0.2.1.1.1 rfl ?_
  refine go_isnull kk65_0.2.1.1.2  (fun c7 => ?_) (fun c8 => ?_)
  · exact go_throw kk65_0.2.1.2 hg ⟨by decide, by decide⟩ rfl rfl
  · refine go_aload kk65_0.2.2.1 rfl ?_
    exact go_aret kk65_0.2.2.2 hg r4 ⟨Nat.zero_le _, Nat.zero_le _⟩ rfl
theorem tfC_numberOf {Φ : ev_P} {d : Nat} (hd : 0 ≤ d) {g : gH} (hg : HR g) {v0 : Int} (h0 : RfR v0) : Go Φ pr_P (fP g) 1 (fC_numberOf g v0) d (pr_P 68) 0 (ev_loc (pr_P 68).1 [(sR v0)]) [] g 0 0 := by
  show Go Φ pr_P (fP g) 1 (fC_numberOf g v0) d pr_m68 0 [some (sR v0)] [] g 0 0
  unfold fC_numberOf
  refine go_aload kk68_0.1.1.1 rfl ?_
  refine go_isnull kk68_0.1.1.2  (fun c1 => ?_) (fun c2 => ?_)
  · refine go_int kk68_0.1.2.1 (-1) rfl ?_
    refine go_goto kk68_0.1.2.2 ?_
    exact go_iret kk68_0.2.2 hg (inR_of (by decide)) ⟨Nat.zero_le _, Nat.zero_le _⟩ rfl
  · refine go_aload kk68_0.2.1.1 rfl ?_
    refine go_ck (fun q3 => ?_)
    refine go_getI (bI := 0) kk68_0.2.1.2 hg q3 (by decide) rfl rfl (fun r4 => ?_)
    exact go_iret kk68_0.2.2 hg r4 ⟨Nat.zero_le _, Nat.zero_le _⟩ rfl
theorem tbP_willMask_4 {Φ : ev_P} {d : Nat} (hd : 1 ≤ d) {g : gH} (hg : HR g) {v0 : Int} (hK0 : kd v0 = 3) {X4 : Int → Int → Option Int} (HX4 : ∀ (v1 : Int) (h1 : InR v1) (v2 : Int) (h2 : InR v2), Go Φ pr_P (fP g) 1 (X4 v1 v2) d pr_m248 4 [some (sR v0), some (sI v1), some (sI v2)] [] g 0 0) : ∀ (v1 : Int) (h1 : InR v1) (v2 : Int) (h2 : InR v2), Go Φ pr_P (fP g) 1 (bP_willMask_4 g v0 X4 v1 v2) d pr_m248 4 [some (sR v0), some (sI v1), some (sI v2)] [] g 0 0 := by
  intro v1 h1 v2 h2
  unfold bP_willMask_4
  refine go_iload kk248_0.1.1.2.1.2 rfl ?_
  refine go_int kk248_0.1.1.2.2 8 rfl ?_
  refine go_cmlt kk248_0.1.2.1.1.1 h2 (inR_of (by decide)) (fun c1 => ?_) (fun c2 => ?_)
  · refine go_aload kk248_0.1.2.1.1.2 rfl ?_
    refine go_iload kk248_0.1.2.1.2 rfl ?_
    refine go_callP1 kk248_0.1.2.2.1 rfl rfl rfl ⟨by decide, _, rfl, hK0⟩ ⟨Nat.zero_le _, Nat.zero_le _⟩ (by omega) (tfP_willFor (by omega) hg hK0  h2) (fun y3 r4 => ?_)
    refine go_int kk248_0.1.2.2.2 (-1) rfl ?_
    refine go_cmeq kk248_0.2.1.1.1.1 r4 (inR_of (by decide)) (fun c7 => ?_) (fun c8 => ?_)
    · refine go_iinc kk248_0.2.2.1.1.2 rfl rfl 1 rfl (loc2 := [some (sR v0), some (sI v1), some (sI (w32 (v2 + 1)))]) rfl ?_
      refine go_goto kk248_0.2.2.1.2 ?_
      exact HX4 v1 h1 (w32 (v2 + 1)) (inR_w32 _)
    · refine go_iload kk248_0.2.1.1.1.2 rfl ?_
      refine go_int kk248_0.2.1.1.2 1 rfl ?_
      refine go_iload kk248_0.2.1.2.1.1 rfl ?_
      refine go_ibin kk248_0.2.1.2.1.2 ?_
      refine go_ibin kk248_0.2.1.2.2 ?_
      refine go_istore kk248_0.2.2.1.1.1 rfl (loc2 := [some (sR v0), some (sI (opI 2 v1 (opI 4 1 v2))), some (sI v2)]) rfl ?_
      refine go_iinc kk248_0.2.2.1.1.2 rfl rfl 1 rfl (loc2 := [some (sR v0), some (sI (opI 2 v1 (opI 4 1 v2))), some (sI (w32 (v2 + 1)))]) rfl ?_
      refine go_goto kk248_0.2.2.1.2 ?_
      exact HX4 (opI 2 v1 (opI 4 1 v2)) (inR_opI _ _ _) (w32 (v2 + 1)) (inR_w32 _)
  · refine go_iload kk248_0.2.2.2.1 rfl ?_
    exact go_iret kk248_0.2.2.2.2 hg h1 ⟨Nat.zero_le _, Nat.zero_le _⟩ rfl
theorem tlP_willMask_4 {Φ : ev_P} {d : Nat} (hd : 1 ≤ d) {g : gH} (hg : HR g) {v0 : Int} (hK0 : kd v0 = 3) : ∀ n : Nat, ∀ (v1 : Int) (h1 : InR v1) (v2 : Int) (h2 : InR v2), Go Φ pr_P (fP g) 1 (lP_willMask_4 g v0 n v1 v2) d pr_m248 4 [some (sR v0), some (sI v1), some (sI v2)] [] g 0 0 := by
  intro n
  induction n with
  | zero => intros; exact go_none
  | succ n ih => exact tbP_willMask_4 hd hg hK0 ih
theorem tfP_willMask {Φ : ev_P} {d : Nat} (hd : 1 ≤ d) {g : gH} (hg : HR g) {v0 : Int} (hK0 : kd v0 = 3) : Go Φ pr_P (fP g) 1 (fP_willMask g v0) d (pr_P 248) 0 (ev_loc (pr_P 248).1 [(sR v0)]) [] g 0 0 := by
  show Go Φ pr_P (fP g) 1 (fP_willMask g v0) d pr_m248 0 [some (sR v0), none, none] [] g 0 0
  unfold fP_willMask
  refine go_int kk248_0.1.1.1.1.1 0 rfl ?_
  refine go_istore kk248_0.1.1.1.1.2 rfl (loc2 := [some (sR v0), some (sI 0), none]) rfl ?_
  refine go_int kk248_0.1.1.1.2 0 rfl ?_
  refine go_istore kk248_0.1.1.2.1.1 rfl (loc2 := [some (sR v0), some (sI 0), some (sI 0)]) rfl ?_
  exact tlP_willMask_4 hd hg hK0 fu 0 (inR_b (Or.inl rfl)) 0 (inR_b (Or.inl rfl))
theorem tfP_isZombieOf {Φ : ev_P} {d : Nat} (hd : 0 ≤ d) {g : gH} (hg : HR g) {v0 v1 : Int} (hK0 : kd v0 = 3) (h1 : RfR v1) : Go Φ pr_P (fP g) 3 (fP_isZombieOf g v0 v1) d (pr_P 239) 0 (ev_loc (pr_P 239).1 [(sR v0), (sR v1)]) [] g 0 0 := by
  show Go Φ pr_P (fP g) 3 (fP_isZombieOf g v0 v1) d pr_m239 0 [some (sR v0), some (sR v1)] [] g 0 0
  unfold fP_isZombieOf
  refine go_aload kk239_0.1.1.1.1 rfl ?_
  refine go_getI (bI := 1) kk239_0.1.1.1.2 hg hK0 (by decide) rfl rfl (fun r1 => ?_)
  refine go_int kk239_0.1.1.2 1 rfl ?_
  refine go_cmeq kk239_0.1.2.1.1 r1 (inR_b (Or.inr rfl)) (fun c2 => ?_) (fun c3 => ?_)
  · refine go_aload kk239_0.1.2.1.2 rfl ?_
    refine go_getR (bI := 2) kk239_0.1.2.2 hg hK0 (by decide) rfl rfl (fun r4 => ?_)
    refine go_aload kk239_0.2.1.1.1 rfl ?_
    refine go_acmp kk239_0.2.1.1.2 r4 h1 (fun c5 => ?_) (fun c6 => ?_)
    · refine go_int kk239_0.2.1.2 1 rfl ?_
      refine go_goto kk239_0.2.2.1.1 ?_
      exact go_bret kk239_0.2.2.2 hg (Or.inr rfl) ⟨Nat.zero_le _, Nat.zero_le _⟩ rfl
    · refine go_int kk239_0.2.2.1.2 0 rfl ?_
      exact go_bret kk239_0.2.2.2 hg (Or.inl rfl) ⟨Nat.zero_le _, Nat.zero_le _⟩ rfl
  · refine go_int kk239_0.2.2.1.2 0 rfl ?_
    exact go_bret kk239_0.2.2.2 hg (Or.inl rfl) ⟨Nat.zero_le _, Nat.zero_le _⟩ rfl
theorem tbT_countZombiesOf_14 {Φ : ev_P} {d : Nat} (hd : 1 ≤ d) {g : gH} (hg : HR g) {v1 v3 v4 : Int} (h1 : RfR v1) (h3 : RfR v3) (h4 : InR v4) {X14 : Int → Int → Option Int} (HX14 : ∀ (v2 : Int) (h2 : InR v2) (v5 : Int) (h5 : InR v5) (u0 : Option ev_V) (w0 : nwo u0) (u6 : Option ev_V) (w6 : nwo u6), Go Φ pr_P (fP g) 1 (X14 v2 v5) d pr_m277 14 [u0, some (sR v1), some (sI v2), some (sR v3), some (sI v4), some (sI v5), u6] [] g 0 0) : ∀ (v2 : Int) (h2 : InR v2) (v5 : Int) (h5 : InR v5) (u0 : Option ev_V) (w0 : nwo u0) (u6 : Option ev_V) (w6 : nwo u6), Go Φ pr_P (fP g) 1 (bT_countZombiesOf_14 g v1 v3 v4 X14 v2 v5) d pr_m277 14 [u0, some (sR v1), some (sI v2), some (sR v3), some (sI v4), some (sI v5), u6] [] g 0 0 := by
  intro v2 h2 v5 h5 u0 w0 u6 w6
  unfold bT_countZombiesOf_14
  refine go_iload kk277_0.1.2.2.1.1 rfl ?_
  refine go_iload kk277_0.1.2.2.1.2 rfl ?_
  refine go_cmlt kk277_0.1.2.2.2 h5 h4 (fun c4 => ?_) (fun c5 => ?_)
  · refine go_aload kk277_0.2.1.1.1.1 rfl ?_
    refine go_iload kk277_0.2.1.1.1.2 rfl ?_
    refine go_ck (fun q7 => ?_)
    refine go_pald kk277_0.2.1.1.2.1 hg q7 (fun r6 => ?_)
    refine go_astore kk277_0.2.1.1.2.2 rfl (loc2 := [u0, some (sR v1), some (sI v2), some (sR v3), some (sI v4), some (sI v5), some (sR (g v3 v5))]) rfl ?_
    refine go_aload kk277_0.2.1.2.1.1 rfl ?_
    refine go_aload kk277_0.2.1.2.1.2 rfl ?_
    refine go_ck (fun q8 => ?_)
    refine go_callP3 kk277_0.2.1.2.2 rfl rfl rfl ⟨by decide, _, rfl, q8⟩ ⟨Nat.zero_le _, Nat.zero_le _⟩ (by omega) (tfP_isZombieOf (by omega) hg q8  h1) (fun y9 r10 => ?_)
    refine go_ifeq kk277_0.2.2.1.1.1 (inR_b r10) (fun c13 => ?_) (fun c14 => ?_)
    · refine go_iinc kk277_0.2.2.1.2 rfl rfl 1 rfl (loc2 := [u0, some (sR v1), some (sI v2), some (sR v3), some (sI v4), some (sI (w32 (v5 + 1))), some (sR (g v3 v5))]) rfl ?_
      refine go_goto kk277_0.2.2.2.1.1 ?_
      exact HX14 v2 h2 (w32 (v5 + 1)) (inR_w32 _) u0 w0 (some (sR (g v3 v5))) rfl
    · refine go_iinc kk277_0.2.2.1.1.2 rfl rfl 1 rfl (loc2 := [u0, some (sR v1), some (sI (w32 (v2 + 1))), some (sR v3), some (sI v4), some (sI v5), some (sR (g v3 v5))]) rfl ?_
      refine go_iinc kk277_0.2.2.1.2 rfl rfl 1 rfl (loc2 := [u0, some (sR v1), some (sI (w32 (v2 + 1))), some (sR v3), some (sI v4), some (sI (w32 (v5 + 1))), some (sR (g v3 v5))]) rfl ?_
      refine go_goto kk277_0.2.2.2.1.1 ?_
      exact HX14 (w32 (v2 + 1)) (inR_w32 _) (w32 (v5 + 1)) (inR_w32 _) u0 w0 (some (sR (g v3 v5))) rfl
  · refine go_iload kk277_0.2.2.2.1.2 rfl ?_
    exact go_iret kk277_0.2.2.2.2 hg h2 ⟨Nat.zero_le _, Nat.zero_le _⟩ rfl
theorem tlT_countZombiesOf_14 {Φ : ev_P} {d : Nat} (hd : 1 ≤ d) {g : gH} (hg : HR g) {v1 v3 v4 : Int} (h1 : RfR v1) (h3 : RfR v3) (h4 : InR v4) : ∀ n : Nat, ∀ (v2 : Int) (h2 : InR v2) (v5 : Int) (h5 : InR v5) (u0 : Option ev_V) (w0 : nwo u0) (u6 : Option ev_V) (w6 : nwo u6), Go Φ pr_P (fP g) 1 (lT_countZombiesOf_14 g v1 v3 v4 n v2 v5) d pr_m277 14 [u0, some (sR v1), some (sI v2), some (sR v3), some (sI v4), some (sI v5), u6] [] g 0 0 := by
  intro n
  induction n with
  | zero => intros; exact go_none
  | succ n ih => exact tbT_countZombiesOf_14 hd hg h1 h3 h4 ih
theorem tfT_countZombiesOf {Φ : ev_P} {d : Nat} (hd : 1 ≤ d) {g : gH} (hg : HR g) {v0 v1 : Int} (hK0 : kd v0 = 5) (h1 : RfR v1) : Go Φ pr_P (fP g) 1 (fT_countZombiesOf g v0 v1) d (pr_P 277) 0 (ev_loc (pr_P 277).1 [(sR v0), (sR v1)]) [] g 0 0 := by
  show Go Φ pr_P (fP g) 1 (fT_countZombiesOf g v0 v1) d pr_m277 0 [some (sR v0), some (sR v1), none, none, none, none, none] [] g 0 0
  unfold fT_countZombiesOf
  refine go_int kk277_0.1.1.1.1.1 0 rfl ?_
  refine go_istore kk277_0.1.1.1.1.2 rfl (loc2 := [some (sR v0), some (sR v1), some (sI 0), none, none, none, none]) rfl ?_
  refine go_aload kk277_0.1.1.1.2.1 rfl ?_
  refine go_getR (bI := 1) kk277_0.1.1.1.2.2 hg hK0 (by decide) rfl rfl (fun r1 => ?_)
  refine go_astore kk277_0.1.1.2.1.1 rfl (loc2 := [some (sR v0), some (sR v1), some (sI 0), some (sR (g v0 1)), none, none, none]) rfl ?_
  refine go_aload kk277_0.1.1.2.1.2 rfl ?_
  refine go_ck (fun q3 => ?_)
  refine go_alen kk277_0.1.1.2.2 (ka_24 q3) (fun r2 => ?_)
  refine go_istore kk277_0.1.2.1.1.1 rfl (loc2 := [some (sR v0), some (sR v1), some (sI 0), some (sR (g v0 1)), some (sI (sz (g v0 1))), none, none]) rfl ?_
  refine go_int kk277_0.1.2.1.1.2 0 rfl ?_
  refine go_istore kk277_0.1.2.1.2 rfl (loc2 := [some (sR v0), some (sR v1), some (sI 0), some (sR (g v0 1)), some (sI (sz (g v0 1))), some (sI 0), none]) rfl ?_
  exact tlT_countZombiesOf_14 hd hg h1 r1 r2 fu 0 (inR_b (Or.inl rfl)) 0 (inR_b (Or.inl rfl)) (some (sR v0)) rfl none rfl
theorem tfC_process {Φ : ev_P} {d : Nat} (hd : 2 ≤ d) {g : gH} (hg : HR g) {v0 v1 v2 : Int} (hK0 : kd v0 = 6) (h1 : InR v1) (h2 : InR v2) : Go Φ pr_P (fQ g) 1 (fC_process g v0 v1 v2) d (pr_P 7) 0 (ev_loc (pr_P 7).1 [(sR v0), (sI v1), (sI v2)]) [] g 0 0 := by
  show Go Φ pr_P (fQ g) 1 (fC_process g v0 v1 v2) d pr_m7 0 [some (sR v0), some (sI v1), some (sI v2), none] [] g 0 0
  unfold fC_process
  refine go_aload kk7_0.1.1.1.1.1.1 rfl ?_
  refine go_iload kk7_0.1.1.1.1.1.2 rfl ?_
  refine go_callQ2 kk7_0.1.1.1.1.2.1 rfl rfl rfl ⟨by decide, _, rfl, hK0⟩ ⟨by decide, by decide⟩ (by omega) (tfC_named (by omega) hg hK0  h1) (fun y1 r2 => ?_) (fun e5 E6 => ge_prop rfl ⟨by decide, by decide⟩ e5 rfl)
  refine go_astore kk7_0.1.1.1.1.2.2 rfl (loc2 := [some (sR v0), some (sI v1), some (sI v2), some (sR y1)]) rfl ?_
  refine go_iload kk7_0.1.1.1.2.1.1 rfl ?_
  refine go_ite (fun c7 => ?_) (fun c8 => ?_)
  · refine go_swh (lo := 0) (hi := 14) (i := 0) kk7_0.1.1.1.2.1.2 rfl rfl (by omega) (by omega) rfl ?_
    refine go_aload kk7_0.1.1.1.2.2.1 rfl ?_
    refine go_ck (fun q9 => ?_)
    refine go_getR (bI := 2) kk7_0.1.1.1.2.2.2 hg q9 (by decide) rfl rfl (fun r10 => ?_)
    refine go_callP1 kk7_0.1.1.2.1.1.1 rfl rfl rfl trivial ⟨by decide, by decide⟩ (by omega) (tfC_numberOf (by omega) hg  r10) (fun y11 r12 => ?_)
    exact go_iret kk7_0.1.1.2.1.1.2 hg r12 ⟨by decide, by decide⟩ rfl
  refine go_ite (fun c15 => ?_) (fun c16 => ?_)
  · refine go_swh (lo := 0) (hi := 14) (i := 1) kk7_0.1.1.1.2.1.2 rfl rfl (by omega) (by omega) rfl ?_
    refine go_aload kk7_0.1.1.2.1.2.1 rfl ?_
    refine go_ck (fun q17 => ?_)
    refine go_getI (bI := 4) kk7_0.1.1.2.1.2.2 hg q17 (by decide) rfl rfl (fun r18 => ?_)
    exact go_iret kk7_0.1.1.2.2.1.1 hg r18 ⟨by decide, by decide⟩ rfl
  refine go_ite (fun c19 => ?_) (fun c20 => ?_)
  · refine go_swh (lo := 0) (hi := 14) (i := 2) kk7_0.1.1.1.2.1.2 rfl rfl (by omega) (by omega) rfl ?_
    refine go_aload kk7_0.1.1.2.2.1.2 rfl ?_
    refine go_ck (fun q21 => ?_)
    refine go_callP1 kk7_0.1.1.2.2.2 rfl rfl rfl ⟨by decide, _, rfl, q21⟩ ⟨by decide, by decide⟩ (by omega) (tfP_room (by omega) hg q21 ) (fun y22 r23 => ?_)
    exact go_iret kk7_0.1.2.1.1.1.1 hg r23 ⟨by decide, by decide⟩ rfl
  refine go_ite (fun c26 => ?_) (fun c27 => ?_)
  · refine go_swh (lo := 0) (hi := 14) (i := 3) kk7_0.1.1.1.2.1.2 rfl rfl (by omega) (by omega) rfl ?_
    refine go_aload kk7_0.1.2.1.1.1.2 rfl ?_
    refine go_ck (fun q28 => ?_)
    refine go_getI (bI := 3) kk7_0.1.2.1.1.2.1 hg q28 (by decide) rfl rfl (fun r29 => ?_)
    exact go_iret kk7_0.1.2.1.1.2.2 hg r29 ⟨by decide, by decide⟩ rfl
  refine go_ite (fun c30 => ?_) (fun c31 => ?_)
  · refine go_swh (lo := 0) (hi := 14) (i := 4) kk7_0.1.1.1.2.1.2 rfl rfl (by omega) (by omega) rfl ?_
    refine go_aload kk7_0.1.2.1.2.1.1 rfl ?_
    refine go_getR (bI := 0) kk7_0.1.2.1.2.1.2 hg hK0 (by decide) rfl rfl (fun r32 => ?_)
    refine go_aload kk7_0.1.2.1.2.2 rfl ?_
    refine go_ck (fun q33 => ?_)
    refine go_callP1 kk7_0.1.2.2.1.1.1 rfl rfl rfl ⟨by decide, _, rfl, q33⟩ ⟨by decide, by decide⟩ (by omega) (tfT_countZombiesOf (by omega) hg q33  r2) (fun y34 r35 => ?_)
    exact go_iret kk7_0.1.2.2.1.1.2 hg r35 ⟨by decide, by decide⟩ rfl
  refine go_ite (fun c38 => ?_) (fun c39 => ?_)
  · refine go_swh (lo := 0) (hi := 14) (i := 5) kk7_0.1.1.1.2.1.2 rfl rfl (by omega) (by omega) rfl ?_
    refine go_aload kk7_0.1.2.2.1.2.1 rfl ?_
    refine go_ck (fun q40 => ?_)
    refine go_getI (bI := 1) kk7_0.1.2.2.1.2.2 hg q40 (by decide) rfl rfl (fun r41 => ?_)
    exact go_iret kk7_0.1.2.2.2.1.1 hg r41 ⟨by decide, by decide⟩ rfl
  refine go_ite (fun c42 => ?_) (fun c43 => ?_)
  · refine go_swh (lo := 0) (hi := 14) (i := 6) kk7_0.1.1.1.2.1.2 rfl rfl (by omega) (by omega) rfl ?_
    refine go_aload kk7_0.1.2.2.2.1.2 rfl ?_
    refine go_ck (fun q44 => ?_)
    refine go_getI (bI := 5) kk7_0.1.2.2.2.2 hg q44 (by decide) rfl rfl (fun r45 => ?_)
    exact go_iret kk7_0.2.1.1.1.1.1 hg r45 ⟨by decide, by decide⟩ rfl
  refine go_ite (fun c46 => ?_) (fun c47 => ?_)
  · refine go_swh (lo := 0) (hi := 14) (i := 7) kk7_0.1.1.1.2.1.2 rfl rfl (by omega) (by omega) rfl ?_
    refine go_aload kk7_0.2.1.1.1.1.2 rfl ?_
    refine go_ck (fun q48 => ?_)
    refine go_getI (bI := 6) kk7_0.2.1.1.1.2.1 hg q48 (by decide) rfl rfl (fun r49 => ?_)
    exact go_iret kk7_0.2.1.1.1.2.2 hg r49 ⟨by decide, by decide⟩ rfl
  refine go_ite (fun c50 => ?_) (fun c51 => ?_)
  · refine go_swh (lo := 0) (hi := 14) (i := 8) kk7_0.1.1.1.2.1.2 rfl rfl (by omega) (by omega) rfl ?_
    refine go_aload kk7_0.2.1.1.2.1.1 rfl ?_
    refine go_ck (fun q52 => ?_)
    refine go_getI (bI := 7) kk7_0.2.1.1.2.1.2 hg q52 (by decide) rfl rfl (fun r53 => ?_)
    exact go_iret kk7_0.2.1.1.2.2 hg r53 ⟨by decide, by decide⟩ rfl
  refine go_ite (fun c54 => ?_) (fun c55 => ?_)
  · refine go_swh (lo := 0) (hi := 14) (i := 9) kk7_0.1.1.1.2.1.2 rfl rfl (by omega) (by omega) rfl ?_
    refine go_aload kk7_0.2.1.2.1.1.1 rfl ?_
    refine go_getR (bI := 0) kk7_0.2.1.2.1.1.2 hg hK0 (by decide) rfl rfl (fun r56 => ?_)
    refine go_aload kk7_0.2.1.2.1.2.1 rfl ?_
    refine go_ck (fun q57 => ?_)
    refine go_callP1 kk7_0.2.1.2.1.2.2 rfl rfl rfl ⟨by decide, _, rfl, q57⟩ ⟨by decide, by decide⟩ (by omega) (tfT_dutiesOf (by omega) hg q57  r2) (fun y58 r59 => ?_)
    exact go_iret kk7_0.2.1.2.2.1.1 hg r59 ⟨by decide, by decide⟩ rfl
  refine go_ite (fun c62 => ?_) (fun c63 => ?_)
  · refine go_swh (lo := 0) (hi := 14) (i := 10) kk7_0.1.1.1.2.1.2 rfl rfl (by omega) (by omega) rfl ?_
    refine go_aload kk7_0.2.1.2.2.1.2 rfl ?_
    refine go_ck (fun q64 => ?_)
    refine go_getI (bI := 9) kk7_0.2.1.2.2.2 hg q64 (by decide) rfl rfl (fun r65 => ?_)
    exact go_iret kk7_0.2.2.1.1.1.1 hg r65 ⟨by decide, by decide⟩ rfl
  refine go_ite (fun c66 => ?_) (fun c67 => ?_)
  · refine go_swh (lo := 0) (hi := 14) (i := 11) kk7_0.1.1.1.2.1.2 rfl rfl (by omega) (by omega) rfl ?_
    refine go_aload kk7_0.2.2.1.1.1.2 rfl ?_
    refine go_ck (fun q68 => ?_)
    refine go_getI (bI := 8) kk7_0.2.2.1.1.2.1 hg q68 (by decide) rfl rfl (fun r69 => ?_)
    exact go_iret kk7_0.2.2.1.1.2.2 hg r69 ⟨by decide, by decide⟩ rfl
  refine go_ite (fun c70 => ?_) (fun c71 => ?_)
  · refine go_swh (lo := 0) (hi := 14) (i := 12) kk7_0.1.1.1.2.1.2 rfl rfl (by omega) (by omega) rfl ?_
    refine go_aload kk7_0.2.2.1.2.1.1 rfl ?_
    refine go_ck (fun q72 => ?_)
    refine go_getI (bI := 11) kk7_0.2.2.1.2.1.2 hg q72 (by decide) rfl rfl (fun r73 => ?_)
    exact go_iret kk7_0.2.2.1.2.2 hg r73 ⟨by decide, by decide⟩ rfl
  refine go_ite (fun c74 => ?_) (fun c75 => ?_)
  · refine go_swh (lo := 0) (hi := 14) (i := 13) kk7_0.1.1.1.2.1.2 rfl rfl (by omega) (by omega) rfl ?_
    refine go_aload kk7_0.2.2.2.1.1.1 rfl ?_
    refine go_ck (fun q76 => ?_)
    refine go_getI (bI := 12) kk7_0.2.2.2.1.1.2 hg q76 (by decide) rfl rfl (fun r77 => ?_)
    exact go_iret kk7_0.2.2.2.1.2.1 hg r77 ⟨by decide, by decide⟩ rfl
  refine go_ite (fun c78 => ?_) (fun c79 => ?_)
  · refine go_swh (lo := 0) (hi := 14) (i := 14) kk7_0.1.1.1.2.1.2 rfl rfl (by omega) (by omega) rfl ?_
    refine go_aload kk7_0.2.2.2.1.2.2 rfl ?_
    refine go_ck (fun q80 => ?_)
    refine go_callP1 kk7_0.2.2.2.2.1.1 rfl rfl rfl ⟨by decide, _, rfl, q80⟩ ⟨by decide, by decide⟩ (by omega) (tfP_willMask (by omega) hg q80 ) (fun y81 r82 => ?_)
    exact go_iret kk7_0.2.2.2.2.1.2 hg r82 ⟨by decide, by decide⟩ rfl
  refine go_swd (lo := 0) (hi := 14) kk7_0.1.1.1.2.1.2 rfl rfl h2 (by omega) (by omega) ?_
  exact go_throw kk7_0.2.2.2.2.2 hg ⟨by decide, by decide⟩ rfl rfl
theorem tfW_process {Φ : ev_P} {d : Nat} (hd : 3 ≤ d) {g : gH} (hg : HR g) {v0 v1 v2 v3 : Int} (h0 : RfR v0) (h1 : InR v1) (h2 : InR v2) (h3 : RfR v3) : Go Φ pr_P fN 1 (fW_process g v0 v1 v2 v3) d (pr_P 306) 0 (ev_loc (pr_P 306).1 [(sR v0), (sI v1), (sI v2), (sR v3)]) [] g 0 0 := by
  show Go Φ pr_P fN 1 (fW_process g v0 v1 v2 v3) d pr_m306 0 [some (sR v0), some (sI v1), some (sI v2), some (sR v3), none] [] g 0 0
  unfold fW_process
  refine go_aload kk306_0.1.1.1.1.1 rfl ?_
  refine go_int kk306_0.1.1.1.1.2 0 rfl ?_
  refine go_aload kk306_0.1.1.1.2 rfl ?_
  refine go_iload kk306_0.1.1.2.1 rfl ?_
  refine go_iload kk306_0.1.1.2.2 rfl ?_
  refine go_ck (fun q1 => ?_)
  refine go_callQ1 kk306_0.1.2.1.1 rfl rfl rfl ⟨by decide, _, rfl, q1⟩ ⟨by decide, by decide⟩ (by omega) (tfC_process (by omega) hg q1  h1 h2) (fun y2 r3 => ?_) (fun e6 E7 => ?_)
  · refine go_i2l kk306_0.1.2.1.2 r3 ?_
    refine go_ck (fun q8 => ?_)
    refine go_last kk306_0.1.2.2.1 hg q8 (inL_R r3) (fun g9 e10 => ?_)
    refine go_goto kk306_0.1.2.2.2 ?_
    refine go_int kk306_0.2.2.2.1 0 rfl ?_
    exact go_iret kk306_0.2.2.2.2 e10 (inR_b (Or.inl rfl)) ⟨by decide, by decide⟩ rfl
  · refine ge_ite (fun hE9 => ?_) (fun _ => ?_)
    · subst hE9
      refine ge_catch rfl kk306_0.2.1.1.1 rfl (loc2 := [some (sR v0), some (sI v1), some (sI v2), some (sR v3), none]) rfl ?_
      refine go_int kk306_0.2.1.1.2 1 rfl ?_
      exact go_iret kk306_0.2.1.2.1 e6 (inR_b (Or.inr rfl)) ⟨by decide, by decide⟩ rfl
    refine ge_ite (fun hE9 => ?_) (fun _ => ?_)
    · subst hE9
      refine ge_catch rfl kk306_0.2.1.2.2 rfl (loc2 := [some (sR v0), some (sI v1), some (sI v2), some (sR v3), none]) rfl ?_
      refine go_int kk306_0.2.2.1.1 2 rfl ?_
      exact go_iret kk306_0.2.2.1.2 e6 (inR_of (by decide)) ⟨by decide, by decide⟩ rfl
    exact ge_none
theorem tfC_checkRange {Φ : ev_P} {d : Nat} (hd : 0 ≤ d) {g : gH} (hg : HR g) {v0 v1 : Int} (h0 : InR v0) (h1 : InR v1) : Go Φ pr_P (fQ g) 0 (fC_checkRange g v0 v1) d (pr_P 66) 0 (ev_loc (pr_P 66).1 [(sI v0), (sI v1)]) [] g 0 0 := by
  show Go Φ pr_P (fQ g) 0 (fC_checkRange g v0 v1) d pr_m66 0 [some (sI v0), some (sI v1)] [] g 0 0
  unfold fC_checkRange
  refine go_iload kk66_0.1.1.1 rfl ?_
  refine go_iflt kk66_0.1.1.2 h0 (fun c1 => ?_) (fun c2 => ?_)
  · exact go_throw kk66_0.2.1.2 hg ⟨by decide, by decide⟩ rfl rfl
  · refine go_iload kk66_0.1.2.1 rfl ?_
    refine go_iload kk66_0.1.2.2 rfl ?_
    refine go_cmgt kk66_0.2.1.1 h0 h1 (fun c3 => ?_) (fun c4 => ?_)
    · exact go_throw kk66_0.2.1.2 hg ⟨by decide, by decide⟩ rfl rfl
    · exact go_vret kk66_0.2.2 hg ⟨Nat.zero_le _, Nat.zero_le _⟩ rfl
theorem tjT_holderOf_24 {Φ : ev_P} {d : Nat} (hd : 1 ≤ d) {g : gH} (hg : HR g) {v0 : Int} (hK0 : kd v0 = 5) {s0 : Int} (z0 : RfR s0) (u1 : Option ev_V) (w1 : nwo u1) (u2 : Option ev_V) (w2 : nwo u2) : Go Φ pr_P (fP g) 2 (jT_holderOf_24 g v0 s0 ) d pr_m283 24 [some (sR v0), u1, u2] [(sR s0)] g 0 0 := by
  unfold jT_holderOf_24
  refine go_astore kk283_0.2.1.1.2 w1 (loc2 := [some (sR v0), u1, some (sR s0)]) rfl ?_
  refine go_aload kk283_0.2.1.2.1 rfl ?_
  refine go_isnull kk283_0.2.1.2.2  (fun c12 => ?_) (fun c13 => ?_)
  · refine go_aload kk283_0.2.2.1.1.1 rfl ?_
    refine go_getR (bI := 0) kk283_0.2.2.1.1.2 hg hK0 (by decide) rfl rfl (fun r14 => ?_)
    refine go_goto kk283_0.2.2.1.2 ?_
    exact go_aret kk283_0.2.2.2.2 hg r14 ⟨Nat.zero_le _, Nat.zero_le _⟩ rfl
  · refine go_aload kk283_0.2.2.2.1 rfl ?_
    exact go_aret kk283_0.2.2.2.2 hg z0 ⟨Nat.zero_le _, Nat.zero_le _⟩ rfl
theorem tjT_holderOf_10 {Φ : ev_P} {d : Nat} (hd : 1 ≤ d) {g : gH} (hg : HR g) {v0 : Int} (hK0 : kd v0 = 5) (u1 : Option ev_V) (w1 : nwo u1) (u2 : Option ev_V) (w2 : nwo u2) : Go Φ pr_P (fP g) 2 (jT_holderOf_10 g v0 ) d pr_m283 10 [some (sR v0), u1, u2] [] g 0 0 := by
  unfold jT_holderOf_10
  refine go_null kk283_0.1.1.2.2 ?_
  refine go_goto kk283_0.1.2.1.1.1 ?_
  exact tjT_holderOf_24 hd hg hK0 rfR_null u1 w1 u2 w2
theorem tfT_holderOf {Φ : ev_P} {d : Nat} (hd : 1 ≤ d) {g : gH} (hg : HR g) {v0 v1 : Int} (hK0 : kd v0 = 5) (h1 : InR v1) : Go Φ pr_P (fP g) 2 (fT_holderOf g v0 v1) d (pr_P 283) 0 (ev_loc (pr_P 283).1 [(sR v0), (sI v1)]) [] g 0 0 := by
  show Go Φ pr_P (fP g) 2 (fT_holderOf g v0 v1) d pr_m283 0 [some (sR v0), some (sI v1), none] [] g 0 0
  unfold fT_holderOf
  refine go_iload kk283_0.1.1.1.1.1 rfl ?_
  refine go_iflt kk283_0.1.1.1.1.2 h1 (fun c1 => ?_) (fun c2 => ?_)
  · exact tjT_holderOf_10 hd hg hK0 (some (sI v1)) rfl none rfl
  · refine go_iload kk283_0.1.1.1.2 rfl ?_
    refine go_int kk283_0.1.1.2.1.1 8 rfl ?_
    refine go_cmlt kk283_0.1.1.2.1.2 h1 (inR_of (by decide)) (fun c3 => ?_) (fun c4 => ?_)
    · refine go_aload kk283_0.1.2.1.1.2 rfl ?_
      refine go_aload kk283_0.1.2.1.2 rfl ?_
      refine go_getR (bI := 2) kk283_0.1.2.2.1 hg hK0 (by decide) rfl rfl (fun r5 => ?_)
      refine go_iload kk283_0.1.2.2.2 rfl ?_
      refine go_ck (fun q7 => ?_)
      refine go_iald kk283_0.2.1.1.1.1 hg q7 (fun r6 => ?_)
      refine go_callP2 kk283_0.2.1.1.1.2 rfl rfl rfl ⟨by decide, _, rfl, hK0⟩ ⟨Nat.zero_le _, Nat.zero_le _⟩ (by omega) (tfT_at (by omega) hg hK0  r6) (fun y8 r9 => ?_)
      exact tjT_holderOf_24 hd hg hK0 r9 (some (sI v1)) rfl none rfl
    · exact tjT_holderOf_10 hd hg hK0 (some (sI v1)) rfl none rfl
theorem tfC_holder {Φ : ev_P} {d : Nat} (hd : 2 ≤ d) {g : gH} (hg : HR g) {v0 v1 : Int} (hK0 : kd v0 = 6) (h1 : InR v1) : Go Φ pr_P (fQ g) 1 (fC_holder g v0 v1) d (pr_P 8) 0 (ev_loc (pr_P 8).1 [(sR v0), (sI v1)]) [] g 0 0 := by
  show Go Φ pr_P (fQ g) 1 (fC_holder g v0 v1) d pr_m8 0 [some (sR v0), some (sI v1)] [] g 0 0
  unfold fC_holder
  refine go_iload kk8_0.1.1.1.1 rfl ?_
  refine go_int kk8_0.1.1.1.2 7 rfl ?_
  refine go_callQ0 kk8_0.1.1.2 rfl rfl rfl trivial ⟨by decide, by decide⟩ (by omega) (tfC_checkRange (by omega) hg  h1 (inR_of (by decide))) (fun y1 => ?_) (fun e5 E6 => ge_prop rfl ⟨by decide, by decide⟩ e5 rfl)
  refine go_aload kk8_0.1.2.1 rfl ?_
  refine go_getR (bI := 0) kk8_0.1.2.2 hg hK0 (by decide) rfl rfl (fun r7 => ?_)
  refine go_iload kk8_0.2.1.1 rfl ?_
  refine go_ck (fun q8 => ?_)
  refine go_callP2 kk8_0.2.1.2 rfl rfl rfl ⟨by decide, _, rfl, q8⟩ ⟨by decide, by decide⟩ (by omega) (tfT_holderOf (by omega) hg q8  h1) (fun y9 r10 => ?_)
  refine go_ck (fun q13 => ?_)
  refine go_getI (bI := 0) kk8_0.2.2.1 hg q13 (by decide) rfl rfl (fun r14 => ?_)
  exact go_iret kk8_0.2.2.2 hg r14 ⟨by decide, by decide⟩ rfl
theorem tfW_holder {Φ : ev_P} {d : Nat} (hd : 3 ≤ d) {g : gH} (hg : HR g) {v0 v1 v2 : Int} (h0 : RfR v0) (h1 : InR v1) (h2 : RfR v2) : Go Φ pr_P fN 1 (fW_holder g v0 v1 v2) d (pr_P 307) 0 (ev_loc (pr_P 307).1 [(sR v0), (sI v1), (sR v2)]) [] g 0 0 := by
  show Go Φ pr_P fN 1 (fW_holder g v0 v1 v2) d pr_m307 0 [some (sR v0), some (sI v1), some (sR v2), none] [] g 0 0
  unfold fW_holder
  refine go_aload kk307_0.1.1.1.1 rfl ?_
  refine go_int kk307_0.1.1.1.2 0 rfl ?_
  refine go_aload kk307_0.1.1.2.1 rfl ?_
  refine go_iload kk307_0.1.1.2.2 rfl ?_
  refine go_ck (fun q1 => ?_)
  refine go_callQ1 kk307_0.1.2.1.1 rfl rfl rfl ⟨by decide, _, rfl, q1⟩ ⟨by decide, by decide⟩ (by omega) (tfC_holder (by omega) hg q1  h1) (fun y2 r3 => ?_) (fun e6 E7 => ?_)
  · refine go_i2l kk307_0.1.2.1.2 r3 ?_
    refine go_ck (fun q8 => ?_)
    refine go_last kk307_0.1.2.2 hg q8 (inL_R r3) (fun g9 e10 => ?_)
    refine go_goto kk307_0.2.1.1.1 ?_
    refine go_int kk307_0.2.2.1.2 0 rfl ?_
    exact go_iret kk307_0.2.2.2 e10 (inR_b (Or.inl rfl)) ⟨by decide, by decide⟩ rfl
  · refine ge_ite (fun hE9 => ?_) (fun _ => ?_)
    · subst hE9
      refine ge_catch rfl kk307_0.2.1.1.2 rfl (loc2 := [some (sR v0), some (sI v1), some (sR v2), none]) rfl ?_
      refine go_int kk307_0.2.1.2 1 rfl ?_
      exact go_iret kk307_0.2.2.1.1 e6 (inR_b (Or.inr rfl)) ⟨by decide, by decide⟩ rfl
    exact ge_none
theorem tfC_checkState {Φ : ev_P} {d : Nat} (hd : 0 ≤ d) {g : gH} (hg : HR g) {v0 : Int} (h0 : B01 v0) : Go Φ pr_P (fQ g) 0 (fC_checkState g v0) d (pr_P 67) 0 (ev_loc (pr_P 67).1 [(sI v0)]) [] g 0 0 := by
  show Go Φ pr_P (fQ g) 0 (fC_checkState g v0) d pr_m67 0 [some (sI v0)] [] g 0 0
  unfold fC_checkState
  refine go_iload kk67_0.1.1 rfl ?_
  refine go_ifeq kk67_0.1.2 (inR_b h0) (fun c1 => ?_) (fun c2 => ?_)
  · exact go_throw kk67_0.2.1 hg ⟨by decide, by decide⟩ rfl rfl
  · exact go_vret kk67_0.2.2 hg ⟨Nat.zero_le _, Nat.zero_le _⟩ rfl
theorem tfC_depth {Φ : ev_P} {d : Nat} (hd : 2 ≤ d) {g : gH} (hg : HR g) {v0 v1 : Int} (hK0 : kd v0 = 6) (h1 : InR v1) : Go Φ pr_P (fQ g) 1 (fC_depth g v0 v1) d (pr_P 10) 0 (ev_loc (pr_P 10).1 [(sR v0), (sI v1)]) [] g 0 0 := by
  show Go Φ pr_P (fQ g) 1 (fC_depth g v0 v1) d pr_m10 0 [some (sR v0), some (sI v1), none] [] g 0 0
  unfold fC_depth
  refine go_aload kk10_0.1.1.1.1 rfl ?_
  refine go_iload kk10_0.1.1.1.2 rfl ?_
  refine go_callQ2 kk10_0.1.1.2.1 rfl rfl rfl ⟨by decide, _, rfl, hK0⟩ ⟨by decide, by decide⟩ (by omega) (tfC_named (by omega) hg hK0  h1) (fun y1 r2 => ?_) (fun e5 E6 => ge_prop rfl ⟨by decide, by decide⟩ e5 rfl)
  refine go_astore kk10_0.1.1.2.2 rfl (loc2 := [some (sR v0), some (sI v1), some (sR y1)]) rfl ?_
  refine go_aload kk10_0.1.2.1.1 rfl ?_
  refine go_ck (fun q7 => ?_)
  refine go_getI (bI := 1) kk10_0.1.2.1.2 hg q7 (by decide) rfl rfl (fun r8 => ?_)
  refine go_int kk10_0.1.2.2.1 2 rfl ?_
  refine go_cmeq kk10_0.1.2.2.2 r8 (inR_of (by decide)) (fun c9 => ?_) (fun c10 => ?_)
  · refine go_int kk10_0.2.1.2.1 0 rfl ?_
    refine go_callQ0 kk10_0.2.1.2.2 rfl rfl rfl trivial ⟨by decide, by decide⟩ (by omega) (tfC_checkState (by omega) hg  (Or.inl rfl)) (fun y11 => ?_) (fun e15 E16 => ge_prop rfl ⟨by decide, by decide⟩ e15 rfl)
    refine go_aload kk10_0.2.2.1.1 rfl ?_
    refine go_callP1 kk10_0.2.2.1.2 rfl rfl rfl ⟨by decide, _, rfl, q7⟩ ⟨by decide, by decide⟩ (by omega) (tfP_countAbove (by omega) hg q7 ) (fun y17 r18 => ?_)
    exact go_iret kk10_0.2.2.2 hg r18 ⟨by decide, by decide⟩ rfl
  · refine go_int kk10_0.2.1.1.1 1 rfl ?_
    refine go_goto kk10_0.2.1.1.2 ?_
    refine go_callQ0 kk10_0.2.1.2.2 rfl rfl rfl trivial ⟨by decide, by decide⟩ (by omega) (tfC_checkState (by omega) hg  (Or.inr rfl)) (fun y21 => ?_) (fun e25 E26 => ge_prop rfl ⟨by decide, by decide⟩ e25 rfl)
    refine go_aload kk10_0.2.2.1.1 rfl ?_
    refine go_callP1 kk10_0.2.2.1.2 rfl rfl rfl ⟨by decide, _, rfl, q7⟩ ⟨by decide, by decide⟩ (by omega) (tfP_countAbove (by omega) hg q7 ) (fun y27 r28 => ?_)
    exact go_iret kk10_0.2.2.2 hg r28 ⟨by decide, by decide⟩ rfl
theorem tfW_depth {Φ : ev_P} {d : Nat} (hd : 3 ≤ d) {g : gH} (hg : HR g) {v0 v1 v2 : Int} (h0 : RfR v0) (h1 : InR v1) (h2 : RfR v2) : Go Φ pr_P fN 1 (fW_depth g v0 v1 v2) d (pr_P 308) 0 (ev_loc (pr_P 308).1 [(sR v0), (sI v1), (sR v2)]) [] g 0 0 := by
  show Go Φ pr_P fN 1 (fW_depth g v0 v1 v2) d pr_m308 0 [some (sR v0), some (sI v1), some (sR v2), none] [] g 0 0
  unfold fW_depth
  refine go_aload kk308_0.1.1.1.1 rfl ?_
  refine go_int kk308_0.1.1.1.2 0 rfl ?_
  refine go_aload kk308_0.1.1.2.1 rfl ?_
  refine go_iload kk308_0.1.1.2.2 rfl ?_
  refine go_ck (fun q1 => ?_)
  refine go_callQ1 kk308_0.1.2.1.1 rfl rfl rfl ⟨by decide, _, rfl, q1⟩ ⟨by decide, by decide⟩ (by omega) (tfC_depth (by omega) hg q1  h1) (fun y2 r3 => ?_) (fun e6 E7 => ?_)
  · refine go_i2l kk308_0.1.2.1.2 r3 ?_
    refine go_ck (fun q8 => ?_)
    refine go_last kk308_0.1.2.2.1 hg q8 (inL_R r3) (fun g9 e10 => ?_)
    refine go_goto kk308_0.1.2.2.2 ?_
    refine go_int kk308_0.2.2.2.1 0 rfl ?_
    exact go_iret kk308_0.2.2.2.2 e10 (inR_b (Or.inl rfl)) ⟨by decide, by decide⟩ rfl
  · refine ge_ite (fun hE9 => ?_) (fun _ => ?_)
    · subst hE9
      refine ge_catch rfl kk308_0.2.1.1.1 rfl (loc2 := [some (sR v0), some (sI v1), some (sR v2), none]) rfl ?_
      refine go_int kk308_0.2.1.1.2 1 rfl ?_
      exact go_iret kk308_0.2.1.2.1 e6 (inR_b (Or.inr rfl)) ⟨by decide, by decide⟩ rfl
    refine ge_ite (fun hE9 => ?_) (fun _ => ?_)
    · subst hE9
      refine ge_catch rfl kk308_0.2.1.2.2 rfl (loc2 := [some (sR v0), some (sI v1), some (sR v2), none]) rfl ?_
      refine go_int kk308_0.2.2.1.1 2 rfl ?_
      exact go_iret kk308_0.2.2.1.2 e6 (inR_of (by decide)) ⟨by decide, by decide⟩ rfl
    exact ge_none
theorem tbP_isOver_5 {Φ : ev_P} {d : Nat} (hd : 0 ≤ d) {g : gH} (hg : HR g) {v0 : Int} (hK0 : kd v0 = 3) {X5 : Int → Option Int} (HX5 : ∀ (v2 : Int) (h2 : RfR v2) (u1 : Option ev_V) (w1 : nwo u1), Go Φ pr_P (fP g) 3 (X5 v2) d pr_m244 5 [some (sR v0), u1, some (sR v2)] [] g 0 0) : ∀ (v2 : Int) (h2 : RfR v2) (u1 : Option ev_V) (w1 : nwo u1), Go Φ pr_P (fP g) 3 (bP_isOver_5 g v0 X5 v2) d pr_m244 5 [some (sR v0), u1, some (sR v2)] [] g 0 0 := by
  intro v2 h2 u1 w1
  unfold bP_isOver_5
  refine go_aload kk244_0.1.1.2.2 rfl ?_
  refine go_isnull kk244_0.1.2.1.1  (fun c3 => ?_) (fun c4 => ?_)
  · refine go_int kk244_0.2.2.2.1 0 rfl ?_
    exact go_bret kk244_0.2.2.2.2 hg (Or.inl rfl) ⟨Nat.zero_le _, Nat.zero_le _⟩ rfl
  · refine go_aload kk244_0.1.2.1.2 rfl ?_
    refine go_aload kk244_0.1.2.2.1 rfl ?_
    refine go_acmp kk244_0.1.2.2.2 h2 (rfR_kd hK0 (by decide)) (fun c5 => ?_) (fun c6 => ?_)
    · refine go_int kk244_0.2.1.1.1 1 rfl ?_
      exact go_bret kk244_0.2.1.1.2 hg (Or.inr rfl) ⟨Nat.zero_le _, Nat.zero_le _⟩ rfl
    · refine go_aload kk244_0.2.1.2.1 rfl ?_
      refine go_ck (fun q7 => ?_)
      refine go_getR (bI := 2) kk244_0.2.1.2.2 hg q7 (by decide) rfl rfl (fun r8 => ?_)
      refine go_astore kk244_0.2.2.1.1 w1 (loc2 := [some (sR v0), u1, some (sR (g v2 2))]) rfl ?_
      refine go_goto kk244_0.2.2.1.2 ?_
      exact HX5 (g v2 2) r8 u1 w1
theorem tlP_isOver_5 {Φ : ev_P} {d : Nat} (hd : 0 ≤ d) {g : gH} (hg : HR g) {v0 : Int} (hK0 : kd v0 = 3) : ∀ n : Nat, ∀ (v2 : Int) (h2 : RfR v2) (u1 : Option ev_V) (w1 : nwo u1), Go Φ pr_P (fP g) 3 (lP_isOver_5 g v0 n v2) d pr_m244 5 [some (sR v0), u1, some (sR v2)] [] g 0 0 := by
  intro n
  induction n with
  | zero => intros; exact go_none
  | succ n ih => exact tbP_isOver_5 hd hg hK0 ih
theorem tfP_isOver {Φ : ev_P} {d : Nat} (hd : 0 ≤ d) {g : gH} (hg : HR g) {v0 v1 : Int} (hK0 : kd v0 = 3) (h1 : RfR v1) : Go Φ pr_P (fP g) 3 (fP_isOver g v0 v1) d (pr_P 244) 0 (ev_loc (pr_P 244).1 [(sR v0), (sR v1)]) [] g 0 0 := by
  show Go Φ pr_P (fP g) 3 (fP_isOver g v0 v1) d pr_m244 0 [some (sR v0), some (sR v1), none] [] g 0 0
  unfold fP_isOver
  refine go_aload kk244_0.1.1.1.1 rfl ?_
  refine go_ck (fun q1 => ?_)
  refine go_getR (bI := 2) kk244_0.1.1.1.2 hg q1 (by decide) rfl rfl (fun r2 => ?_)
  refine go_astore kk244_0.1.1.2.1 rfl (loc2 := [some (sR v0), some (sR v1), some (sR (g v1 2))]) rfl ?_
  exact tlP_isOver_5 hd hg hK0 fu (g v1 2) r2 (some (sR v1)) rfl
theorem tfC_isAbove {Φ : ev_P} {d : Nat} (hd : 2 ≤ d) {g : gH} (hg : HR g) {v0 v1 v2 : Int} (hK0 : kd v0 = 6) (h1 : InR v1) (h2 : InR v2) : Go Φ pr_P (fQ g) 3 (fC_isAbove g v0 v1 v2) d (pr_P 11) 0 (ev_loc (pr_P 11).1 [(sR v0), (sI v1), (sI v2)]) [] g 0 0 := by
  show Go Φ pr_P (fQ g) 3 (fC_isAbove g v0 v1 v2) d pr_m11 0 [some (sR v0), some (sI v1), some (sI v2), none, none] [] g 0 0
  unfold fC_isAbove
  refine go_aload kk11_0.1.1.1.1.1 rfl ?_
  refine go_iload kk11_0.1.1.1.1.2 rfl ?_
  refine go_callQ2 kk11_0.1.1.1.2 rfl rfl rfl ⟨by decide, _, rfl, hK0⟩ ⟨by decide, by decide⟩ (by omega) (tfC_named (by omega) hg hK0  h1) (fun y1 r2 => ?_) (fun e5 E6 => ge_prop rfl ⟨by decide, by decide⟩ e5 rfl)
  refine go_astore kk11_0.1.1.2.1.1 rfl (loc2 := [some (sR v0), some (sI v1), some (sI v2), some (sR y1), none]) rfl ?_
  refine go_aload kk11_0.1.1.2.1.2 rfl ?_
  refine go_iload kk11_0.1.1.2.2 rfl ?_
  refine go_callQ2 kk11_0.1.2.1.1.1 rfl rfl rfl ⟨by decide, _, rfl, hK0⟩ ⟨by decide, by decide⟩ (by omega) (tfC_named (by omega) hg hK0  h2) (fun y7 r8 => ?_) (fun e11 E12 => ge_prop rfl ⟨by decide, by decide⟩ e11 rfl)
  refine go_astore kk11_0.1.2.1.1.2 rfl (loc2 := [some (sR v0), some (sI v1), some (sI v2), some (sR y1), some (sR y7)]) rfl ?_
  refine go_aload kk11_0.1.2.1.2 rfl ?_
  refine go_ck (fun q13 => ?_)
  refine go_getI (bI := 1) kk11_0.1.2.2.1.1 hg q13 (by decide) rfl rfl (fun r14 => ?_)
  refine go_int kk11_0.1.2.2.1.2 2 rfl ?_
  refine go_cmeq kk11_0.1.2.2.2 r14 (inR_of (by decide)) (fun c15 => ?_) (fun c16 => ?_)
  · refine go_int kk11_0.2.2.2.1.2 0 rfl ?_
    exact go_bret kk11_0.2.2.2.2 hg (Or.inl rfl) ⟨by decide, by decide⟩ rfl
  · refine go_aload kk11_0.2.1.1.1.1 rfl ?_
    refine go_ck (fun q17 => ?_)
    refine go_getI (bI := 1) kk11_0.2.1.1.1.2 hg q17 (by decide) rfl rfl (fun r18 => ?_)
    refine go_int kk11_0.2.1.1.2 2 rfl ?_
    refine go_cmeq kk11_0.2.1.2.1.1 r18 (inR_of (by decide)) (fun c19 => ?_) (fun c20 => ?_)
    · refine go_int kk11_0.2.2.2.1.2 0 rfl ?_
      exact go_bret kk11_0.2.2.2.2 hg (Or.inl rfl) ⟨by decide, by decide⟩ rfl
    · refine go_aload kk11_0.2.1.2.1.2 rfl ?_
      refine go_aload kk11_0.2.1.2.2 rfl ?_
      refine go_callP3 kk11_0.2.2.1.1.1 rfl rfl rfl ⟨by decide, _, rfl, q13⟩ ⟨by decide, by decide⟩ (by omega) (tfP_isOver (by omega) hg q13  r8) (fun y21 r22 => ?_)
      refine go_ifeq kk11_0.2.2.1.1.2 (inR_b r22) (fun c25 => ?_) (fun c26 => ?_)
      · refine go_int kk11_0.2.2.2.1.2 0 rfl ?_
        exact go_bret kk11_0.2.2.2.2 hg (Or.inl rfl) ⟨by decide, by decide⟩ rfl
      · refine go_int kk11_0.2.2.1.2 1 rfl ?_
        refine go_goto kk11_0.2.2.2.1.1 ?_
        exact go_bret kk11_0.2.2.2.2 hg (Or.inr rfl) ⟨by decide, by decide⟩ rfl
theorem tfW_isAbove {Φ : ev_P} {d : Nat} (hd : 3 ≤ d) {g : gH} (hg : HR g) {v0 v1 v2 v3 : Int} (h0 : RfR v0) (h1 : InR v1) (h2 : InR v2) (h3 : RfR v3) : Go Φ pr_P fN 1 (fW_isAbove g v0 v1 v2 v3) d (pr_P 309) 0 (ev_loc (pr_P 309).1 [(sR v0), (sI v1), (sI v2), (sR v3)]) [] g 0 0 := by
  show Go Φ pr_P fN 1 (fW_isAbove g v0 v1 v2 v3) d pr_m309 0 [some (sR v0), some (sI v1), some (sI v2), some (sR v3), none] [] g 0 0
  unfold fW_isAbove
  refine go_aload kk309_0.1.1.1.1.1 rfl ?_
  refine go_int kk309_0.1.1.1.1.2 0 rfl ?_
  refine go_aload kk309_0.1.1.1.2 rfl ?_
  refine go_iload kk309_0.1.1.2.1 rfl ?_
  refine go_iload kk309_0.1.1.2.2 rfl ?_
  refine go_ck (fun q1 => ?_)
  refine go_callQ3 kk309_0.1.2.1.1 rfl rfl rfl ⟨by decide, _, rfl, q1⟩ ⟨by decide, by decide⟩ (by omega) (tfC_isAbove (by omega) hg q1  h1 h2) (fun y2 r3 => ?_) (fun e6 E7 => ?_)
  · refine go_ifeq kk309_0.1.2.1.2 (inR_b r3) (fun c8 => ?_) (fun c9 => ?_)
    · refine go_lconst kk309_0.2.1.1.1 0 rfl ?_
      refine go_ck (fun q10 => ?_)
      refine go_last kk309_0.2.1.1.2 hg q10 (inL_of (by decide)) (fun g11 e12 => ?_)
      refine go_goto kk309_0.2.1.2.1 ?_
      refine go_int kk309_0.2.2.2.1 0 rfl ?_
      exact go_iret kk309_0.2.2.2.2 e12 (inR_b (Or.inl rfl)) ⟨by decide, by decide⟩ rfl
    · refine go_lconst kk309_0.1.2.2.1 1 rfl ?_
      refine go_goto kk309_0.1.2.2.2 ?_
      refine go_ck (fun q13 => ?_)
      refine go_last kk309_0.2.1.1.2 hg q13 (inL_of (by decide)) (fun g14 e15 => ?_)
      refine go_goto kk309_0.2.1.2.1 ?_
      refine go_int kk309_0.2.2.2.1 0 rfl ?_
      exact go_iret kk309_0.2.2.2.2 e15 (inR_b (Or.inl rfl)) ⟨by decide, by decide⟩ rfl
  · refine ge_ite (fun hE9 => ?_) (fun _ => ?_)
    · subst hE9
      refine ge_catch rfl kk309_0.2.1.2.2 rfl (loc2 := [some (sR v0), some (sI v1), some (sI v2), some (sR v3), none]) rfl ?_
      refine go_int kk309_0.2.2.1.1 1 rfl ?_
      exact go_iret kk309_0.2.2.1.2 e6 (inR_b (Or.inr rfl)) ⟨by decide, by decide⟩ rfl
    exact ge_none
theorem tbT_lowestOver_2 {Φ : ev_P} {d : Nat} (hd : 1 ≤ d) {g : gH} (hg : HR g) {v0 v2 : Int} (hK0 : kd v0 = 5) (h2 : RfR v2) {X2 : Int → Option Int} (HX2 : ∀ (v3 : Int) (h3 : RfR v3) (u1 : Option ev_V) (w1 : nwo u1), Go Φ pr_P (fP g) 2 (X2 v3) d pr_m279 2 [some (sR v0), u1, some (sR v2), some (sR v3)] [] g 0 0) : ∀ (v3 : Int) (h3 : RfR v3) (u1 : Option ev_V) (w1 : nwo u1), Go Φ pr_P (fP g) 2 (bT_lowestOver_2 g v0 v2 X2 v3) d pr_m279 2 [some (sR v0), u1, some (sR v2), some (sR v3)] [] g 0 0 := by
  intro v3 h3 u1 w1
  unfold bT_lowestOver_2
  refine go_aload kk279_0.1.1.1.2 rfl ?_
  refine go_isnull kk279_0.1.1.2.1  (fun c1 => ?_) (fun c2 => ?_)
  · refine go_aload kk279_0.2.2.1.2 rfl ?_
    refine go_getR (bI := 0) kk279_0.2.2.2.1 hg hK0 (by decide) rfl rfl (fun r3 => ?_)
    exact go_aret kk279_0.2.2.2.2 hg r3 ⟨Nat.zero_le _, Nat.zero_le _⟩ rfl
  · refine go_aload kk279_0.1.1.2.2 rfl ?_
    refine go_aload kk279_0.1.2.1.1.1 rfl ?_
    refine go_acmp kk279_0.1.2.1.1.2 h3 h2 (fun c4 => ?_) (fun c5 => ?_)
    · refine go_aload kk279_0.2.1.1.1.2 rfl ?_
      exact go_aret kk279_0.2.1.1.2 hg h3 ⟨Nat.zero_le _, Nat.zero_le _⟩ rfl
    · refine go_aload kk279_0.1.2.1.2 rfl ?_
      refine go_aload kk279_0.1.2.2.1 rfl ?_
      refine go_ck (fun q6 => ?_)
      refine go_callP3 kk279_0.1.2.2.2 rfl rfl rfl ⟨by decide, _, rfl, q6⟩ ⟨Nat.zero_le _, Nat.zero_le _⟩ (by omega) (tfP_isOver (by omega) hg q6  h2) (fun y7 r8 => ?_)
      refine go_ifeq kk279_0.2.1.1.1.1 (inR_b r8) (fun c11 => ?_) (fun c12 => ?_)
      · refine go_aload kk279_0.2.1.2.1 rfl ?_
        refine go_getR (bI := 2) kk279_0.2.1.2.2 hg q6 (by decide) rfl rfl (fun r13 => ?_)
        refine go_astore kk279_0.2.2.1.1.1 rfl (loc2 := [some (sR v0), u1, some (sR v2), some (sR (g v3 2))]) rfl ?_
        refine go_goto kk279_0.2.2.1.1.2 ?_
        exact HX2 (g v3 2) r13 u1 w1
      · refine go_aload kk279_0.2.1.1.1.2 rfl ?_
        exact go_aret kk279_0.2.1.1.2 hg h3 ⟨Nat.zero_le _, Nat.zero_le _⟩ rfl
theorem tlT_lowestOver_2 {Φ : ev_P} {d : Nat} (hd : 1 ≤ d) {g : gH} (hg : HR g) {v0 v2 : Int} (hK0 : kd v0 = 5) (h2 : RfR v2) : ∀ n : Nat, ∀ (v3 : Int) (h3 : RfR v3) (u1 : Option ev_V) (w1 : nwo u1), Go Φ pr_P (fP g) 2 (lT_lowestOver_2 g v0 v2 n v3) d pr_m279 2 [some (sR v0), u1, some (sR v2), some (sR v3)] [] g 0 0 := by
  intro n
  induction n with
  | zero => intros; exact go_none
  | succ n ih => exact tbT_lowestOver_2 hd hg hK0 h2 ih
theorem tfT_lowestOver {Φ : ev_P} {d : Nat} (hd : 1 ≤ d) {g : gH} (hg : HR g) {v0 v1 v2 : Int} (hK0 : kd v0 = 5) (h1 : RfR v1) (h2 : RfR v2) : Go Φ pr_P (fP g) 2 (fT_lowestOver g v0 v1 v2) d (pr_P 279) 0 (ev_loc (pr_P 279).1 [(sR v0), (sR v1), (sR v2)]) [] g 0 0 := by
  show Go Φ pr_P (fP g) 2 (fT_lowestOver g v0 v1 v2) d pr_m279 0 [some (sR v0), some (sR v1), some (sR v2), none] [] g 0 0
  unfold fT_lowestOver
  refine go_aload kk279_0.1.1.1.1.1 rfl ?_
  refine go_astore kk279_0.1.1.1.1.2 rfl (loc2 := [some (sR v0), some (sR v1), some (sR v2), some (sR v1)]) rfl ?_
  exact tlT_lowestOver_2 hd hg hK0 h2 fu v1 h1 (some (sR v1)) rfl
theorem tfC_meet {Φ : ev_P} {d : Nat} (hd : 2 ≤ d) {g : gH} (hg : HR g) {v0 v1 v2 : Int} (hK0 : kd v0 = 6) (h1 : InR v1) (h2 : InR v2) : Go Φ pr_P (fQ g) 1 (fC_meet g v0 v1 v2) d (pr_P 12) 0 (ev_loc (pr_P 12).1 [(sR v0), (sI v1), (sI v2)]) [] g 0 0 := by
  show Go Φ pr_P (fQ g) 1 (fC_meet g v0 v1 v2) d pr_m12 0 [some (sR v0), some (sI v1), some (sI v2), none, none] [] g 0 0
  unfold fC_meet
  refine go_aload kk12_0.1.1.1.1.1 rfl ?_
  refine go_iload kk12_0.1.1.1.1.2 rfl ?_
  refine go_callQ2 kk12_0.1.1.1.2.1 rfl rfl rfl ⟨by decide, _, rfl, hK0⟩ ⟨by decide, by decide⟩ (by omega) (tfC_named (by omega) hg hK0  h1) (fun y1 r2 => ?_) (fun e5 E6 => ge_prop rfl ⟨by decide, by decide⟩ e5 rfl)
  refine go_astore kk12_0.1.1.1.2.2 rfl (loc2 := [some (sR v0), some (sI v1), some (sI v2), some (sR y1), none]) rfl ?_
  refine go_aload kk12_0.1.1.2.1.1 rfl ?_
  refine go_iload kk12_0.1.1.2.1.2 rfl ?_
  refine go_callQ2 kk12_0.1.1.2.2 rfl rfl rfl ⟨by decide, _, rfl, hK0⟩ ⟨by decide, by decide⟩ (by omega) (tfC_named (by omega) hg hK0  h2) (fun y7 r8 => ?_) (fun e11 E12 => ge_prop rfl ⟨by decide, by decide⟩ e11 rfl)
  refine go_astore kk12_0.1.2.1.1.1 rfl (loc2 := [some (sR v0), some (sI v1), some (sI v2), some (sR y1), some (sR y7)]) rfl ?_
  refine go_aload kk12_0.1.2.1.1.2 rfl ?_
  refine go_ck (fun q13 => ?_)
  refine go_getI (bI := 1) kk12_0.1.2.1.2.1 hg q13 (by decide) rfl rfl (fun r14 => ?_)
  refine go_int kk12_0.1.2.1.2.2 2 rfl ?_
  refine go_cmeq kk12_0.1.2.2.1.1 r14 (inR_of (by decide)) (fun c15 => ?_) (fun c16 => ?_)
  · refine go_int kk12_0.2.1.2.1.1 0 rfl ?_
    refine go_callQ0 kk12_0.2.1.2.1.2 rfl rfl rfl trivial ⟨by decide, by decide⟩ (by omega) (tfC_checkState (by omega) hg  (Or.inl rfl)) (fun y17 => ?_) (fun e21 E22 => ge_prop rfl ⟨by decide, by decide⟩ e21 rfl)
    refine go_aload kk12_0.2.1.2.2 rfl ?_
    refine go_getR (bI := 0) kk12_0.2.2.1.1.1 hg hK0 (by decide) rfl rfl (fun r23 => ?_)
    refine go_aload kk12_0.2.2.1.1.2 rfl ?_
    refine go_aload kk12_0.2.2.1.2 rfl ?_
    refine go_ck (fun q24 => ?_)
    refine go_callP2 kk12_0.2.2.2.1.1 rfl rfl rfl ⟨by decide, _, rfl, q24⟩ ⟨by decide, by decide⟩ (by omega) (tfT_lowestOver (by omega) hg q24  r2 r8) (fun y25 r26 => ?_)
    refine go_ck (fun q29 => ?_)
    refine go_getI (bI := 0) kk12_0.2.2.2.1.2 hg q29 (by decide) rfl rfl (fun r30 => ?_)
    exact go_iret kk12_0.2.2.2.2 hg r30 ⟨by decide, by decide⟩ rfl
  · refine go_aload kk12_0.1.2.2.1.2 rfl ?_
    refine go_ck (fun q31 => ?_)
    refine go_getI (bI := 1) kk12_0.1.2.2.2 hg q31 (by decide) rfl rfl (fun r32 => ?_)
    refine go_int kk12_0.2.1.1.1.1 2 rfl ?_
    refine go_cmeq kk12_0.2.1.1.1.2 r32 (inR_of (by decide)) (fun c33 => ?_) (fun c34 => ?_)
    · refine go_int kk12_0.2.1.2.1.1 0 rfl ?_
      refine go_callQ0 kk12_0.2.1.2.1.2 rfl rfl rfl trivial ⟨by decide, by decide⟩ (by omega) (tfC_checkState (by omega) hg  (Or.inl rfl)) (fun y35 => ?_) (fun e39 E40 => ge_prop rfl ⟨by decide, by decide⟩ e39 rfl)
      refine go_aload kk12_0.2.1.2.2 rfl ?_
      refine go_getR (bI := 0) kk12_0.2.2.1.1.1 hg hK0 (by decide) rfl rfl (fun r41 => ?_)
      refine go_aload kk12_0.2.2.1.1.2 rfl ?_
      refine go_aload kk12_0.2.2.1.2 rfl ?_
      refine go_ck (fun q42 => ?_)
      refine go_callP2 kk12_0.2.2.2.1.1 rfl rfl rfl ⟨by decide, _, rfl, q42⟩ ⟨by decide, by decide⟩ (by omega) (tfT_lowestOver (by omega) hg q42  r2 r8) (fun y43 r44 => ?_)
      refine go_ck (fun q47 => ?_)
      refine go_getI (bI := 0) kk12_0.2.2.2.1.2 hg q47 (by decide) rfl rfl (fun r48 => ?_)
      exact go_iret kk12_0.2.2.2.2 hg r48 ⟨by decide, by decide⟩ rfl
    · refine go_int kk12_0.2.1.1.2.1 1 rfl ?_
      refine go_goto kk12_0.2.1.1.2.2 ?_
      refine go_callQ0 kk12_0.2.1.2.1.2 rfl rfl rfl trivial ⟨by decide, by decide⟩ (by omega) (tfC_checkState (by omega) hg  (Or.inr rfl)) (fun y49 => ?_) (fun e53 E54 => ge_prop rfl ⟨by decide, by decide⟩ e53 rfl)
      refine go_aload kk12_0.2.1.2.2 rfl ?_
      refine go_getR (bI := 0) kk12_0.2.2.1.1.1 hg hK0 (by decide) rfl rfl (fun r55 => ?_)
      refine go_aload kk12_0.2.2.1.1.2 rfl ?_
      refine go_aload kk12_0.2.2.1.2 rfl ?_
      refine go_ck (fun q56 => ?_)
      refine go_callP2 kk12_0.2.2.2.1.1 rfl rfl rfl ⟨by decide, _, rfl, q56⟩ ⟨by decide, by decide⟩ (by omega) (tfT_lowestOver (by omega) hg q56  r2 r8) (fun y57 r58 => ?_)
      refine go_ck (fun q61 => ?_)
      refine go_getI (bI := 0) kk12_0.2.2.2.1.2 hg q61 (by decide) rfl rfl (fun r62 => ?_)
      exact go_iret kk12_0.2.2.2.2 hg r62 ⟨by decide, by decide⟩ rfl
theorem tfW_meet {Φ : ev_P} {d : Nat} (hd : 3 ≤ d) {g : gH} (hg : HR g) {v0 v1 v2 v3 : Int} (h0 : RfR v0) (h1 : InR v1) (h2 : InR v2) (h3 : RfR v3) : Go Φ pr_P fN 1 (fW_meet g v0 v1 v2 v3) d (pr_P 310) 0 (ev_loc (pr_P 310).1 [(sR v0), (sI v1), (sI v2), (sR v3)]) [] g 0 0 := by
  show Go Φ pr_P fN 1 (fW_meet g v0 v1 v2 v3) d pr_m310 0 [some (sR v0), some (sI v1), some (sI v2), some (sR v3), none] [] g 0 0
  unfold fW_meet
  refine go_aload kk310_0.1.1.1.1.1 rfl ?_
  refine go_int kk310_0.1.1.1.1.2 0 rfl ?_
  refine go_aload kk310_0.1.1.1.2 rfl ?_
  refine go_iload kk310_0.1.1.2.1 rfl ?_
  refine go_iload kk310_0.1.1.2.2 rfl ?_
  refine go_ck (fun q1 => ?_)
  refine go_callQ1 kk310_0.1.2.1.1 rfl rfl rfl ⟨by decide, _, rfl, q1⟩ ⟨by decide, by decide⟩ (by omega) (tfC_meet (by omega) hg q1  h1 h2) (fun y2 r3 => ?_) (fun e6 E7 => ?_)
  · refine go_i2l kk310_0.1.2.1.2 r3 ?_
    refine go_ck (fun q8 => ?_)
    refine go_last kk310_0.1.2.2.1 hg q8 (inL_R r3) (fun g9 e10 => ?_)
    refine go_goto kk310_0.1.2.2.2 ?_
    refine go_int kk310_0.2.2.2.1 0 rfl ?_
    exact go_iret kk310_0.2.2.2.2 e10 (inR_b (Or.inl rfl)) ⟨by decide, by decide⟩ rfl
  · refine ge_ite (fun hE9 => ?_) (fun _ => ?_)
    · subst hE9
      refine ge_catch rfl kk310_0.2.1.1.1 rfl (loc2 := [some (sR v0), some (sI v1), some (sI v2), some (sR v3), none]) rfl ?_
      refine go_int kk310_0.2.1.1.2 1 rfl ?_
      exact go_iret kk310_0.2.1.2.1 e6 (inR_b (Or.inr rfl)) ⟨by decide, by decide⟩ rfl
    refine ge_ite (fun hE9 => ?_) (fun _ => ?_)
    · subst hE9
      refine ge_catch rfl kk310_0.2.1.2.2 rfl (loc2 := [some (sR v0), some (sI v1), some (sI v2), some (sR v3), none]) rfl ?_
      refine go_int kk310_0.2.2.1.1 2 rfl ?_
      exact go_iret kk310_0.2.2.1.2 e6 (inR_of (by decide)) ⟨by decide, by decide⟩ rfl
    exact ge_none
theorem tbT_countBelow_16 {Φ : ev_P} {d : Nat} (hd : 1 ≤ d) {g : gH} (hg : HR g) {v1 v2 v4 v5 : Int} (h1 : RfR v1) (h2 : InR v2) (h4 : RfR v4) (h5 : InR v5) {X16 : Int → Int → Option Int} (HX16 : ∀ (v3 : Int) (h3 : InR v3) (v6 : Int) (h6 : InR v6) (u0 : Option ev_V) (w0 : nwo u0) (u7 : Option ev_V) (w7 : nwo u7), Go Φ pr_P (fP g) 1 (X16 v3 v6) d pr_m276 16 [u0, some (sR v1), some (sI v2), some (sI v3), some (sR v4), some (sI v5), some (sI v6), u7] [] g 0 0) : ∀ (v3 : Int) (h3 : InR v3) (v6 : Int) (h6 : InR v6) (u0 : Option ev_V) (w0 : nwo u0) (u7 : Option ev_V) (w7 : nwo u7), Go Φ pr_P (fP g) 1 (bT_countBelow_16 g v1 v2 v4 v5 X16 v3 v6) d pr_m276 16 [u0, some (sR v1), some (sI v2), some (sI v3), some (sR v4), some (sI v5), some (sI v6), u7] [] g 0 0 := by
  intro v3 h3 v6 h6 u0 w0 u7 w7
  unfold bT_countBelow_16
  refine go_iload kk276_0.1.2.1.2.1 rfl ?_
  refine go_iload kk276_0.1.2.1.2.2 rfl ?_
  refine go_cmlt kk276_0.1.2.2.1.1 h6 h5 (fun c4 => ?_) (fun c5 => ?_)
  · refine go_aload kk276_0.1.2.2.1.2 rfl ?_
    refine go_iload kk276_0.1.2.2.2 rfl ?_
    refine go_ck (fun q7 => ?_)
    refine go_pald kk276_0.2.1.1.1.1 hg q7 (fun r6 => ?_)
    refine go_astore kk276_0.2.1.1.1.2 rfl (loc2 := [u0, some (sR v1), some (sI v2), some (sI v3), some (sR v4), some (sI v5), some (sI v6), some (sR (g v4 v6))]) rfl ?_
    refine go_aload kk276_0.2.1.1.2.1 rfl ?_
    refine go_ck (fun q8 => ?_)
    refine go_getI (bI := 1) kk276_0.2.1.1.2.2 hg q8 (by decide) rfl rfl (fun r9 => ?_)
    refine go_iload kk276_0.2.1.2.1.1 rfl ?_
    refine go_cmeq kk276_0.2.1.2.1.2 r9 h2 (fun c10 => ?_) (fun c11 => ?_)
    · refine go_aload kk276_0.2.1.2.2.1 rfl ?_
      refine go_aload kk276_0.2.1.2.2.2 rfl ?_
      refine go_ck (fun q12 => ?_)
      refine go_callP3 kk276_0.2.2.1.1.1 rfl rfl rfl ⟨by decide, _, rfl, q12⟩ ⟨Nat.zero_le _, Nat.zero_le _⟩ (by omega) (tfP_isOver (by omega) hg q12  r6) (fun y13 r14 => ?_)
      refine go_ifeq kk276_0.2.2.1.1.2 (inR_b r14) (fun c17 => ?_) (fun c18 => ?_)
      · refine go_iinc kk276_0.2.2.1.2.2 rfl rfl 1 rfl (loc2 := [u0, some (sR v1), some (sI v2), some (sI v3), some (sR v4), some (sI v5), some (sI (w32 (v6 + 1))), some (sR (g v4 v6))]) rfl ?_
        refine go_goto kk276_0.2.2.2.1.1 ?_
        exact HX16 v3 h3 (w32 (v6 + 1)) (inR_w32 _) u0 w0 (some (sR (g v4 v6))) rfl
      · refine go_iinc kk276_0.2.2.1.2.1 rfl rfl 1 rfl (loc2 := [u0, some (sR v1), some (sI v2), some (sI (w32 (v3 + 1))), some (sR v4), some (sI v5), some (sI v6), some (sR (g v4 v6))]) rfl ?_
        refine go_iinc kk276_0.2.2.1.2.2 rfl rfl 1 rfl (loc2 := [u0, some (sR v1), some (sI v2), some (sI (w32 (v3 + 1))), some (sR v4), some (sI v5), some (sI (w32 (v6 + 1))), some (sR (g v4 v6))]) rfl ?_
        refine go_goto kk276_0.2.2.2.1.1 ?_
        exact HX16 (w32 (v3 + 1)) (inR_w32 _) (w32 (v6 + 1)) (inR_w32 _) u0 w0 (some (sR (g v4 v6))) rfl
    · refine go_iinc kk276_0.2.2.1.2.2 rfl rfl 1 rfl (loc2 := [u0, some (sR v1), some (sI v2), some (sI v3), some (sR v4), some (sI v5), some (sI (w32 (v6 + 1))), some (sR (g v4 v6))]) rfl ?_
      refine go_goto kk276_0.2.2.2.1.1 ?_
      exact HX16 v3 h3 (w32 (v6 + 1)) (inR_w32 _) u0 w0 (some (sR (g v4 v6))) rfl
  · refine go_iload kk276_0.2.2.2.1.2 rfl ?_
    exact go_iret kk276_0.2.2.2.2 hg h3 ⟨Nat.zero_le _, Nat.zero_le _⟩ rfl
theorem tlT_countBelow_16 {Φ : ev_P} {d : Nat} (hd : 1 ≤ d) {g : gH} (hg : HR g) {v1 v2 v4 v5 : Int} (h1 : RfR v1) (h2 : InR v2) (h4 : RfR v4) (h5 : InR v5) : ∀ n : Nat, ∀ (v3 : Int) (h3 : InR v3) (v6 : Int) (h6 : InR v6) (u0 : Option ev_V) (w0 : nwo u0) (u7 : Option ev_V) (w7 : nwo u7), Go Φ pr_P (fP g) 1 (lT_countBelow_16 g v1 v2 v4 v5 n v3 v6) d pr_m276 16 [u0, some (sR v1), some (sI v2), some (sI v3), some (sR v4), some (sI v5), some (sI v6), u7] [] g 0 0 := by
  intro n
  induction n with
  | zero => intros; exact go_none
  | succ n ih => exact tbT_countBelow_16 hd hg h1 h2 h4 h5 ih
theorem tfT_countBelow {Φ : ev_P} {d : Nat} (hd : 1 ≤ d) {g : gH} (hg : HR g) {v0 v1 v2 : Int} (hK0 : kd v0 = 5) (h1 : RfR v1) (h2 : InR v2) : Go Φ pr_P (fP g) 1 (fT_countBelow g v0 v1 v2) d (pr_P 276) 0 (ev_loc (pr_P 276).1 [(sR v0), (sR v1), (sI v2)]) [] g 0 0 := by
  show Go Φ pr_P (fP g) 1 (fT_countBelow g v0 v1 v2) d pr_m276 0 [some (sR v0), some (sR v1), some (sI v2), none, none, none, none, none] [] g 0 0
  unfold fT_countBelow
  refine go_int kk276_0.1.1.1.1.1 0 rfl ?_
  refine go_istore kk276_0.1.1.1.1.2 rfl (loc2 := [some (sR v0), some (sR v1), some (sI v2), some (sI 0), none, none, none, none]) rfl ?_
  refine go_aload kk276_0.1.1.1.2.1 rfl ?_
  refine go_getR (bI := 1) kk276_0.1.1.1.2.2 hg hK0 (by decide) rfl rfl (fun r1 => ?_)
  refine go_astore kk276_0.1.1.2.1.1 rfl (loc2 := [some (sR v0), some (sR v1), some (sI v2), some (sI 0), some (sR (g v0 1)), none, none, none]) rfl ?_
  refine go_aload kk276_0.1.1.2.1.2 rfl ?_
  refine go_ck (fun q3 => ?_)
  refine go_alen kk276_0.1.1.2.2.1 (ka_24 q3) (fun r2 => ?_)
  refine go_istore kk276_0.1.1.2.2.2 rfl (loc2 := [some (sR v0), some (sR v1), some (sI v2), some (sI 0), some (sR (g v0 1)), some (sI (sz (g v0 1))), none, none]) rfl ?_
  refine go_int kk276_0.1.2.1.1.1 0 rfl ?_
  refine go_istore kk276_0.1.2.1.1.2 rfl (loc2 := [some (sR v0), some (sR v1), some (sI v2), some (sI 0), some (sR (g v0 1)), some (sI (sz (g v0 1))), some (sI 0), none]) rfl ?_
  exact tlT_countBelow_16 hd hg h1 h2 r1 r2 fu 0 (inR_b (Or.inl rfl)) 0 (inR_b (Or.inl rfl)) (some (sR v0)) rfl none rfl
theorem tfC_below {Φ : ev_P} {d : Nat} (hd : 2 ≤ d) {g : gH} (hg : HR g) {v0 v1 : Int} (hK0 : kd v0 = 6) (h1 : InR v1) : Go Φ pr_P (fQ g) 1 (fC_below g v0 v1) d (pr_P 13) 0 (ev_loc (pr_P 13).1 [(sR v0), (sI v1)]) [] g 0 0 := by
  show Go Φ pr_P (fQ g) 1 (fC_below g v0 v1) d pr_m13 0 [some (sR v0), some (sI v1)] [] g 0 0
  unfold fC_below
  refine go_aload kk13_0.1.1.1 rfl ?_
  refine go_getR (bI := 0) kk13_0.1.1.2 hg hK0 (by decide) rfl rfl (fun r1 => ?_)
  refine go_aload kk13_0.1.2.1 rfl ?_
  refine go_iload kk13_0.1.2.2 rfl ?_
  refine go_callQ2 kk13_0.2.1.1 rfl rfl rfl ⟨by decide, _, rfl, hK0⟩ ⟨by decide, by decide⟩ (by omega) (tfC_named (by omega) hg hK0  h1) (fun y2 r3 => ?_) (fun e6 E7 => ge_prop rfl ⟨by decide, by decide⟩ e6 rfl)
  refine go_int kk13_0.2.1.2 0 rfl ?_
  refine go_ck (fun q8 => ?_)
  refine go_callP1 kk13_0.2.2.1 rfl rfl rfl ⟨by decide, _, rfl, q8⟩ ⟨by decide, by decide⟩ (by omega) (tfT_countBelow (by omega) hg q8  r3 (inR_b (Or.inl rfl))) (fun y9 r10 => ?_)
  exact go_iret kk13_0.2.2.2 hg r10 ⟨by decide, by decide⟩ rfl
theorem tfW_below {Φ : ev_P} {d : Nat} (hd : 3 ≤ d) {g : gH} (hg : HR g) {v0 v1 v2 : Int} (h0 : RfR v0) (h1 : InR v1) (h2 : RfR v2) : Go Φ pr_P fN 1 (fW_below g v0 v1 v2) d (pr_P 311) 0 (ev_loc (pr_P 311).1 [(sR v0), (sI v1), (sR v2)]) [] g 0 0 := by
  show Go Φ pr_P fN 1 (fW_below g v0 v1 v2) d pr_m311 0 [some (sR v0), some (sI v1), some (sR v2), none] [] g 0 0
  unfold fW_below
  refine go_aload kk311_0.1.1.1.1 rfl ?_
  refine go_int kk311_0.1.1.1.2 0 rfl ?_
  refine go_aload kk311_0.1.1.2.1 rfl ?_
  refine go_iload kk311_0.1.1.2.2 rfl ?_
  refine go_ck (fun q1 => ?_)
  refine go_callQ1 kk311_0.1.2.1.1 rfl rfl rfl ⟨by decide, _, rfl, q1⟩ ⟨by decide, by decide⟩ (by omega) (tfC_below (by omega) hg q1  h1) (fun y2 r3 => ?_) (fun e6 E7 => ?_)
  · refine go_i2l kk311_0.1.2.1.2 r3 ?_
    refine go_ck (fun q8 => ?_)
    refine go_last kk311_0.1.2.2 hg q8 (inL_R r3) (fun g9 e10 => ?_)
    refine go_goto kk311_0.2.1.1.1 ?_
    refine go_int kk311_0.2.2.1.2 0 rfl ?_
    exact go_iret kk311_0.2.2.2 e10 (inR_b (Or.inl rfl)) ⟨by decide, by decide⟩ rfl
  · refine ge_ite (fun hE9 => ?_) (fun _ => ?_)
    · subst hE9
      refine ge_catch rfl kk311_0.2.1.1.2 rfl (loc2 := [some (sR v0), some (sI v1), some (sR v2), none]) rfl ?_
      refine go_int kk311_0.2.1.2 1 rfl ?_
      exact go_iret kk311_0.2.2.1.1 e6 (inR_b (Or.inr rfl)) ⟨by decide, by decide⟩ rfl
    exact ge_none
theorem tfP_isRunningChildOf {Φ : ev_P} {d : Nat} (hd : 0 ≤ d) {g : gH} (hg : HR g) {v0 v1 : Int} (hK0 : kd v0 = 3) (h1 : RfR v1) : Go Φ pr_P (fP g) 3 (fP_isRunningChildOf g v0 v1) d (pr_P 238) 0 (ev_loc (pr_P 238).1 [(sR v0), (sR v1)]) [] g 0 0 := by
  show Go Φ pr_P (fP g) 3 (fP_isRunningChildOf g v0 v1) d pr_m238 0 [some (sR v0), some (sR v1)] [] g 0 0
  unfold fP_isRunningChildOf
  refine go_aload kk238_0.1.1.1.1 rfl ?_
  refine go_getI (bI := 1) kk238_0.1.1.1.2 hg hK0 (by decide) rfl rfl (fun r1 => ?_)
  refine go_ifeq kk238_0.1.1.2 r1 (fun c2 => ?_) (fun c3 => ?_)
  · refine go_aload kk238_0.1.2.1.1 rfl ?_
    refine go_getR (bI := 2) kk238_0.1.2.1.2 hg hK0 (by decide) rfl rfl (fun r4 => ?_)
    refine go_aload kk238_0.1.2.2 rfl ?_
    refine go_acmp kk238_0.2.1.1.1 r4 h1 (fun c5 => ?_) (fun c6 => ?_)
    · refine go_int kk238_0.2.1.1.2 1 rfl ?_
      refine go_goto kk238_0.2.1.2 ?_
      exact go_bret kk238_0.2.2.2 hg (Or.inr rfl) ⟨Nat.zero_le _, Nat.zero_le _⟩ rfl
    · refine go_int kk238_0.2.2.1 0 rfl ?_
      exact go_bret kk238_0.2.2.2 hg (Or.inl rfl) ⟨Nat.zero_le _, Nat.zero_le _⟩ rfl
  · refine go_int kk238_0.2.2.1 0 rfl ?_
    exact go_bret kk238_0.2.2.2 hg (Or.inl rfl) ⟨Nat.zero_le _, Nat.zero_le _⟩ rfl
theorem tbT_childBehind_12 {Φ : ev_P} {d : Nat} (hd : 1 ≤ d) {g : gH} (hg : HR g) {v1 v2 v3 v4 : Int} (h1 : RfR v1) (h2 : InR v2) (h3 : RfR v3) (h4 : InR v4) {X12 : Int → Option Int} (HX12 : ∀ (v5 : Int) (h5 : InR v5) (u0 : Option ev_V) (w0 : nwo u0) (u6 : Option ev_V) (w6 : nwo u6), Go Φ pr_P (fP g) 2 (X12 v5) d pr_m280 12 [u0, some (sR v1), some (sI v2), some (sR v3), some (sI v4), some (sI v5), u6] [] g 0 0) : ∀ (v5 : Int) (h5 : InR v5) (u0 : Option ev_V) (w0 : nwo u0) (u6 : Option ev_V) (w6 : nwo u6), Go Φ pr_P (fP g) 2 (bT_childBehind_12 g v1 v2 v3 v4 X12 v5) d pr_m280 12 [u0, some (sR v1), some (sI v2), some (sR v3), some (sI v4), some (sI v5), u6] [] g 0 0 := by
  intro v5 h5 u0 w0 u6 w6
  unfold bT_childBehind_12
  refine go_iload kk280_0.1.2.1.1.1 rfl ?_
  refine go_iload kk280_0.1.2.1.1.2 rfl ?_
  refine go_cmlt kk280_0.1.2.1.2.1 h5 h4 (fun c4 => ?_) (fun c5 => ?_)
  · refine go_aload kk280_0.1.2.1.2.2 rfl ?_
    refine go_iload kk280_0.1.2.2.1.1 rfl ?_
    refine go_ck (fun q7 => ?_)
    refine go_pald kk280_0.1.2.2.1.2 hg q7 (fun r6 => ?_)
    refine go_astore kk280_0.1.2.2.2 rfl (loc2 := [u0, some (sR v1), some (sI v2), some (sR v3), some (sI v4), some (sI v5), some (sR (g v3 v5))]) rfl ?_
    refine go_aload kk280_0.2.1.1.1.1 rfl ?_
    refine go_ck (fun q8 => ?_)
    refine go_getI (bI := 0) kk280_0.2.1.1.1.2 hg q8 (by decide) rfl rfl (fun r9 => ?_)
    refine go_iload kk280_0.2.1.1.2.1 rfl ?_
    refine go_cmgt kk280_0.2.1.1.2.2 r9 h2 (fun c10 => ?_) (fun c11 => ?_)
    · refine go_aload kk280_0.2.1.2.1.1 rfl ?_
      refine go_aload kk280_0.2.1.2.1.2 rfl ?_
      refine go_callP3 kk280_0.2.1.2.2 rfl rfl rfl ⟨by decide, _, rfl, q8⟩ ⟨Nat.zero_le _, Nat.zero_le _⟩ (by omega) (tfP_isRunningChildOf (by omega) hg q8  h1) (fun y12 r13 => ?_)
      refine go_ifeq kk280_0.2.2.1.1.1 (inR_b r13) (fun c16 => ?_) (fun c17 => ?_)
      · refine go_iinc kk280_0.2.2.1.2.2 rfl rfl 1 rfl (loc2 := [u0, some (sR v1), some (sI v2), some (sR v3), some (sI v4), some (sI (w32 (v5 + 1))), some (sR (g v3 v5))]) rfl ?_
        refine go_goto kk280_0.2.2.2.1.1 ?_
        exact HX12 (w32 (v5 + 1)) (inR_w32 _) u0 w0 (some (sR (g v3 v5))) rfl
      · refine go_aload kk280_0.2.2.1.1.2 rfl ?_
        exact go_aret kk280_0.2.2.1.2.1 hg r6 ⟨Nat.zero_le _, Nat.zero_le _⟩ rfl
    · refine go_iinc kk280_0.2.2.1.2.2 rfl rfl 1 rfl (loc2 := [u0, some (sR v1), some (sI v2), some (sR v3), some (sI v4), some (sI (w32 (v5 + 1))), some (sR (g v3 v5))]) rfl ?_
      refine go_goto kk280_0.2.2.2.1.1 ?_
      exact HX12 (w32 (v5 + 1)) (inR_w32 _) u0 w0 (some (sR (g v3 v5))) rfl
  · refine go_null kk280_0.2.2.2.1.2 ?_
    exact go_aret kk280_0.2.2.2.2 hg rfR_null ⟨Nat.zero_le _, Nat.zero_le _⟩ rfl
theorem tlT_childBehind_12 {Φ : ev_P} {d : Nat} (hd : 1 ≤ d) {g : gH} (hg : HR g) {v1 v2 v3 v4 : Int} (h1 : RfR v1) (h2 : InR v2) (h3 : RfR v3) (h4 : InR v4) : ∀ n : Nat, ∀ (v5 : Int) (h5 : InR v5) (u0 : Option ev_V) (w0 : nwo u0) (u6 : Option ev_V) (w6 : nwo u6), Go Φ pr_P (fP g) 2 (lT_childBehind_12 g v1 v2 v3 v4 n v5) d pr_m280 12 [u0, some (sR v1), some (sI v2), some (sR v3), some (sI v4), some (sI v5), u6] [] g 0 0 := by
  intro n
  induction n with
  | zero => intros; exact go_none
  | succ n ih => exact tbT_childBehind_12 hd hg h1 h2 h3 h4 ih
theorem tfT_childBehind {Φ : ev_P} {d : Nat} (hd : 1 ≤ d) {g : gH} (hg : HR g) {v0 v1 v2 : Int} (hK0 : kd v0 = 5) (h1 : RfR v1) (h2 : InR v2) : Go Φ pr_P (fP g) 2 (fT_childBehind g v0 v1 v2) d (pr_P 280) 0 (ev_loc (pr_P 280).1 [(sR v0), (sR v1), (sI v2)]) [] g 0 0 := by
  show Go Φ pr_P (fP g) 2 (fT_childBehind g v0 v1 v2) d pr_m280 0 [some (sR v0), some (sR v1), some (sI v2), none, none, none, none] [] g 0 0
  unfold fT_childBehind
  refine go_aload kk280_0.1.1.1.1.1 rfl ?_
  refine go_getR (bI := 1) kk280_0.1.1.1.1.2 hg hK0 (by decide) rfl rfl (fun r1 => ?_)
  refine go_astore kk280_0.1.1.1.2.1 rfl (loc2 := [some (sR v0), some (sR v1), some (sI v2), some (sR (g v0 1)), none, none, none]) rfl ?_
  refine go_aload kk280_0.1.1.1.2.2 rfl ?_
  refine go_ck (fun q3 => ?_)
  refine go_alen kk280_0.1.1.2.1.1 (ka_24 q3) (fun r2 => ?_)
  refine go_istore kk280_0.1.1.2.1.2 rfl (loc2 := [some (sR v0), some (sR v1), some (sI v2), some (sR (g v0 1)), some (sI (sz (g v0 1))), none, none]) rfl ?_
  refine go_int kk280_0.1.1.2.2.1 0 rfl ?_
  refine go_istore kk280_0.1.1.2.2.2 rfl (loc2 := [some (sR v0), some (sR v1), some (sI v2), some (sR (g v0 1)), some (sI (sz (g v0 1))), some (sI 0), none]) rfl ?_
  exact tlT_childBehind_12 hd hg h1 h2 r1 r2 fu 0 (inR_b (Or.inl rfl)) (some (sR v0)) rfl none rfl
theorem tbT_nextOfWalk_9 {Φ : ev_P} {d : Nat} (hd : 2 ≤ d) {g : gH} (hg : HR g) {v0 : Int} (hK0 : kd v0 = 5) {X9 : Int → Int → Option Int} (HX9 : ∀ (v2 : Int) (h2 : RfR v2) (v3 : Int) (h3 : RfR v3) (u1 : Option ev_V) (w1 : nwo u1), Go Φ pr_P (fP g) 2 (X9 v2 v3) d pr_m282 9 [some (sR v0), u1, some (sR v2), some (sR v3)] [] g 0 0) : ∀ (v2 : Int) (h2 : RfR v2) (v3 : Int) (h3 : RfR v3) (u1 : Option ev_V) (w1 : nwo u1), Go Φ pr_P (fP g) 2 (bT_nextOfWalk_9 g v0 X9 v2 v3) d pr_m282 9 [some (sR v0), u1, some (sR v2), some (sR v3)] [] g 0 0 := by
  intro v2 h2 v3 h3 u1 w1
  unfold bT_nextOfWalk_9
  refine go_aload kk282_0.1.2.1.1.1 rfl ?_
  refine go_isnull kk282_0.1.2.1.1.2  (fun c5 => ?_) (fun c6 => ?_)
  · refine go_aload kk282_0.1.2.1.2 rfl ?_
    refine go_ck (fun q7 => ?_)
    refine go_getR (bI := 2) kk282_0.1.2.2.1.1 hg q7 (by decide) rfl rfl (fun r8 => ?_)
    refine go_isnull kk282_0.1.2.2.1.2  (fun c9 => ?_) (fun c10 => ?_)
    · refine go_aload kk282_0.2.2.2.1.2 rfl ?_
      exact go_aret kk282_0.2.2.2.2 hg h2 ⟨Nat.zero_le _, Nat.zero_le _⟩ rfl
    · refine go_aload kk282_0.1.2.2.2 rfl ?_
      refine go_aload kk282_0.2.1.1.1.1 rfl ?_
      refine go_getR (bI := 2) kk282_0.2.1.1.1.2 hg q7 (by decide) rfl rfl (fun r11 => ?_)
      refine go_aload kk282_0.2.1.1.2 rfl ?_
      refine go_getI (bI := 0) kk282_0.2.1.2.1.1 hg q7 (by decide) rfl rfl (fun r12 => ?_)
      refine go_callP2 kk282_0.2.1.2.1.2 rfl rfl rfl ⟨by decide, _, rfl, hK0⟩ ⟨Nat.zero_le _, Nat.zero_le _⟩ (by omega) (tfT_childBehind (by omega) hg hK0  r11 r12) (fun y13 r14 => ?_)
      refine go_astore kk282_0.2.1.2.2 w1 (loc2 := [some (sR v0), u1, some (sR y13), some (sR v3)]) rfl ?_
      refine go_aload kk282_0.2.2.1.1.1 rfl ?_
      refine go_getR (bI := 2) kk282_0.2.2.1.1.2 hg q7 (by decide) rfl rfl (fun r17 => ?_)
      refine go_astore kk282_0.2.2.1.2 rfl (loc2 := [some (sR v0), u1, some (sR y13), some (sR (g v3 2))]) rfl ?_
      refine go_goto kk282_0.2.2.2.1.1 ?_
      exact HX9 y13 r14 (g v3 2) r17 u1 w1
  · refine go_aload kk282_0.2.2.2.1.2 rfl ?_
    exact go_aret kk282_0.2.2.2.2 hg h2 ⟨Nat.zero_le _, Nat.zero_le _⟩ rfl
theorem tlT_nextOfWalk_9 {Φ : ev_P} {d : Nat} (hd : 2 ≤ d) {g : gH} (hg : HR g) {v0 : Int} (hK0 : kd v0 = 5) : ∀ n : Nat, ∀ (v2 : Int) (h2 : RfR v2) (v3 : Int) (h3 : RfR v3) (u1 : Option ev_V) (w1 : nwo u1), Go Φ pr_P (fP g) 2 (lT_nextOfWalk_9 g v0 n v2 v3) d pr_m282 9 [some (sR v0), u1, some (sR v2), some (sR v3)] [] g 0 0 := by
  intro n
  induction n with
  | zero => intros; exact go_none
  | succ n ih => exact tbT_nextOfWalk_9 hd hg hK0 ih
theorem tfT_nextOfWalk {Φ : ev_P} {d : Nat} (hd : 2 ≤ d) {g : gH} (hg : HR g) {v0 v1 : Int} (hK0 : kd v0 = 5) (h1 : RfR v1) : Go Φ pr_P (fP g) 2 (fT_nextOfWalk g v0 v1) d (pr_P 282) 0 (ev_loc (pr_P 282).1 [(sR v0), (sR v1)]) [] g 0 0 := by
  show Go Φ pr_P (fP g) 2 (fT_nextOfWalk g v0 v1) d pr_m282 0 [some (sR v0), some (sR v1), none, none] [] g 0 0
  unfold fT_nextOfWalk
  refine go_aload kk282_0.1.1.1.1.1 rfl ?_
  refine go_aload kk282_0.1.1.1.1.2 rfl ?_
  refine go_int kk282_0.1.1.1.2.1 (-1) rfl ?_
  refine go_callP2 kk282_0.1.1.1.2.2 rfl rfl rfl ⟨by decide, _, rfl, hK0⟩ ⟨Nat.zero_le _, Nat.zero_le _⟩ (by omega) (tfT_childBehind (by omega) hg hK0  h1 (inR_of (by decide))) (fun y1 r2 => ?_)
  refine go_astore kk282_0.1.1.2.1.1 rfl (loc2 := [some (sR v0), some (sR v1), some (sR y1), none]) rfl ?_
  refine go_aload kk282_0.1.1.2.1.2 rfl ?_
  refine go_astore kk282_0.1.1.2.2 rfl (loc2 := [some (sR v0), some (sR v1), some (sR y1), some (sR v1)]) rfl ?_
  exact tlT_nextOfWalk_9 hd hg hK0 fu y1 r2 v1 h1 (some (sR v1)) rfl
theorem tjC_walked_48 {Φ : ev_P} {d : Nat} (hd : 3 ≤ d) {g : gH} (hg : HR g) {v2 : Int} (h2 : RfR v2) (u0 : Option ev_V) (w0 : nwo u0) (u1 : Option ev_V) (w1 : nwo u1) (u3 : Option ev_V) (w3 : nwo u3) : Go Φ pr_P (fQ g) 1 (jC_walked_48 g v2 ) d pr_m14 48 [u0, u1, some (sR v2), u3] [] g 0 0 := by
  unfold jC_walked_48
  refine go_aload kk14_0.2.2.1.1.2 rfl ?_
  refine go_isnull kk14_0.2.2.1.2.1  (fun c18 => ?_) (fun c19 => ?_)
  · exact go_throw kk14_0.2.2.1.2.2 hg ⟨by decide, by decide⟩ rfl rfl
  · refine go_aload kk14_0.2.2.2.1.1 rfl ?_
    refine go_ck (fun q20 => ?_)
    refine go_getI (bI := 0) kk14_0.2.2.2.1.2 hg q20 (by decide) rfl rfl (fun r21 => ?_)
    exact go_iret kk14_0.2.2.2.2 hg r21 ⟨Nat.zero_le _, Nat.zero_le _⟩ rfl
theorem tbC_walked_24 {Φ : ev_P} {d : Nat} (hd : 3 ≤ d) {g : gH} (hg : HR g) {v0 v1 : Int} (hK0 : kd v0 = 6) (h1 : InR v1) {X24 : Int → Int → Option (Nat × Int)} (HX24 : ∀ (v2 : Int) (h2 : RfR v2) (v3 : Int) (h3 : InR v3), Go Φ pr_P (fQ g) 1 (X24 v2 v3) d pr_m14 24 [some (sR v0), some (sI v1), some (sR v2), some (sI v3)] [] g 0 0) : ∀ (v2 : Int) (h2 : RfR v2) (v3 : Int) (h3 : InR v3), Go Φ pr_P (fQ g) 1 (bC_walked_24 g v0 v1 X24 v2 v3) d pr_m14 24 [some (sR v0), some (sI v1), some (sR v2), some (sI v3)] [] g 0 0 := by
  intro v2 h2 v3 h3
  unfold bC_walked_24
  refine go_iload kk14_0.1.2.2.1.2 rfl ?_
  refine go_iload kk14_0.1.2.2.2.1 rfl ?_
  refine go_cmlt kk14_0.1.2.2.2.2 h3 h1 (fun c8 => ?_) (fun c9 => ?_)
  · refine go_aload kk14_0.2.1.1.1.1 rfl ?_
    refine go_isnull kk14_0.2.1.1.1.2  (fun c10 => ?_) (fun c11 => ?_)
    · exact tjC_walked_48 hd hg h2 (some (sR v0)) rfl (some (sI v1)) rfl (some (sI v3)) rfl
    · refine go_aload kk14_0.2.1.1.2.1 rfl ?_
      refine go_getR (bI := 0) kk14_0.2.1.1.2.2 hg hK0 (by decide) rfl rfl (fun r12 => ?_)
      refine go_aload kk14_0.2.1.2.1.1 rfl ?_
      refine go_ck (fun q13 => ?_)
      refine go_callP2 kk14_0.2.1.2.1.2 rfl rfl rfl ⟨by decide, _, rfl, q13⟩ ⟨Nat.zero_le _, Nat.zero_le _⟩ (by omega) (tfT_nextOfWalk (by omega) hg q13  h2) (fun y14 r15 => ?_)
      refine go_astore kk14_0.2.1.2.2.1 rfl (loc2 := [some (sR v0), some (sI v1), some (sR y14), some (sI v3)]) rfl ?_
      refine go_iinc kk14_0.2.1.2.2.2 rfl rfl 1 rfl (loc2 := [some (sR v0), some (sI v1), some (sR y14), some (sI (w32 (v3 + 1)))]) rfl ?_
      refine go_goto kk14_0.2.2.1.1.1 ?_
      exact HX24 y14 r15 (w32 (v3 + 1)) (inR_w32 _)
  · exact tjC_walked_48 hd hg h2 (some (sR v0)) rfl (some (sI v1)) rfl (some (sI v3)) rfl
theorem tlC_walked_24 {Φ : ev_P} {d : Nat} (hd : 3 ≤ d) {g : gH} (hg : HR g) {v0 v1 : Int} (hK0 : kd v0 = 6) (h1 : InR v1) : ∀ n : Nat, ∀ (v2 : Int) (h2 : RfR v2) (v3 : Int) (h3 : InR v3), Go Φ pr_P (fQ g) 1 (lC_walked_24 g v0 v1 n v2 v3) d pr_m14 24 [some (sR v0), some (sI v1), some (sR v2), some (sI v3)] [] g 0 0 := by
  intro n
  induction n with
  | zero => intros; exact go_none
  | succ n ih => exact tbC_walked_24 hd hg hK0 h1 ih
theorem tfC_walked {Φ : ev_P} {d : Nat} (hd : 3 ≤ d) {g : gH} (hg : HR g) {v0 v1 : Int} (hK0 : kd v0 = 6) (h1 : InR v1) : Go Φ pr_P (fQ g) 1 (fC_walked g v0 v1) d (pr_P 14) 0 (ev_loc (pr_P 14).1 [(sR v0), (sI v1)]) [] g 0 0 := by
  show Go Φ pr_P (fQ g) 1 (fC_walked g v0 v1) d pr_m14 0 [some (sR v0), some (sI v1), none, none] [] g 0 0
  unfold fC_walked
  refine go_iload kk14_0.1.1.1.1.1 rfl ?_
  refine go_iflt kk14_0.1.1.1.1.2 h1 (fun c1 => ?_) (fun c2 => ?_)
  · refine go_null kk14_0.1.1.2.1.2 ?_
    refine go_goto kk14_0.1.1.2.2.1 ?_
    refine go_astore kk14_0.1.2.1.2.1 rfl (loc2 := [some (sR v0), some (sI v1), some (sR (-1)), none]) rfl ?_
    refine go_int kk14_0.1.2.1.2.2 0 rfl ?_
    refine go_istore kk14_0.1.2.2.1.1 rfl (loc2 := [some (sR v0), some (sI v1), some (sR (-1)), some (sI 0)]) rfl ?_
    exact tlC_walked_24 hd hg hK0 h1 fu (-1) rfR_null 0 (inR_b (Or.inl rfl))
  · refine go_iload kk14_0.1.1.1.2.1 rfl ?_
    refine go_int kk14_0.1.1.1.2.2 40 rfl ?_
    refine go_cmlt kk14_0.1.1.2.1.1 h1 (inR_of (by decide)) (fun c3 => ?_) (fun c4 => ?_)
    · refine go_aload kk14_0.1.1.2.2.2 rfl ?_
      refine go_getR (bI := 0) kk14_0.1.2.1.1.1 hg hK0 (by decide) rfl rfl (fun r5 => ?_)
      refine go_ck (fun q6 => ?_)
      refine go_getR (bI := 0) kk14_0.1.2.1.1.2 hg q6 (by decide) rfl rfl (fun r7 => ?_)
      refine go_astore kk14_0.1.2.1.2.1 rfl (loc2 := [some (sR v0), some (sI v1), some (sR (g (g v0 0) 0)), none]) rfl ?_
      refine go_int kk14_0.1.2.1.2.2 0 rfl ?_
      refine go_istore kk14_0.1.2.2.1.1 rfl (loc2 := [some (sR v0), some (sI v1), some (sR (g (g v0 0) 0)), some (sI 0)]) rfl ?_
      exact tlC_walked_24 hd hg hK0 h1 fu (g (g v0 0) 0) r7 0 (inR_b (Or.inl rfl))
    · refine go_null kk14_0.1.1.2.1.2 ?_
      refine go_goto kk14_0.1.1.2.2.1 ?_
      refine go_astore kk14_0.1.2.1.2.1 rfl (loc2 := [some (sR v0), some (sI v1), some (sR (-1)), none]) rfl ?_
      refine go_int kk14_0.1.2.1.2.2 0 rfl ?_
      refine go_istore kk14_0.1.2.2.1.1 rfl (loc2 := [some (sR v0), some (sI v1), some (sR (-1)), some (sI 0)]) rfl ?_
      exact tlC_walked_24 hd hg hK0 h1 fu (-1) rfR_null 0 (inR_b (Or.inl rfl))
theorem tfW_walked {Φ : ev_P} {d : Nat} (hd : 4 ≤ d) {g : gH} (hg : HR g) {v0 v1 v2 : Int} (h0 : RfR v0) (h1 : InR v1) (h2 : RfR v2) : Go Φ pr_P fN 1 (fW_walked g v0 v1 v2) d (pr_P 312) 0 (ev_loc (pr_P 312).1 [(sR v0), (sI v1), (sR v2)]) [] g 0 0 := by
  show Go Φ pr_P fN 1 (fW_walked g v0 v1 v2) d pr_m312 0 [some (sR v0), some (sI v1), some (sR v2), none] [] g 0 0
  unfold fW_walked
  refine go_aload kk312_0.1.1.1.1 rfl ?_
  refine go_int kk312_0.1.1.1.2 0 rfl ?_
  refine go_aload kk312_0.1.1.2.1 rfl ?_
  refine go_iload kk312_0.1.1.2.2 rfl ?_
  refine go_ck (fun q1 => ?_)
  refine go_callQ1 kk312_0.1.2.1.1 rfl rfl rfl ⟨by decide, _, rfl, q1⟩ ⟨by decide, by decide⟩ (by omega) (tfC_walked (by omega) hg q1  h1) (fun y2 r3 => ?_) (fun e6 E7 => ?_)
  · refine go_i2l kk312_0.1.2.1.2 r3 ?_
    refine go_ck (fun q8 => ?_)
    refine go_last kk312_0.1.2.2 hg q8 (inL_R r3) (fun g9 e10 => ?_)
    refine go_goto kk312_0.2.1.1.1 ?_
    refine go_int kk312_0.2.2.1.2 0 rfl ?_
    exact go_iret kk312_0.2.2.2 e10 (inR_b (Or.inl rfl)) ⟨by decide, by decide⟩ rfl
  · refine ge_ite (fun hE9 => ?_) (fun _ => ?_)
    · subst hE9
      refine ge_catch rfl kk312_0.2.1.1.2 rfl (loc2 := [some (sR v0), some (sI v1), some (sR v2), none]) rfl ?_
      refine go_int kk312_0.2.1.2 1 rfl ?_
      exact go_iret kk312_0.2.2.1.1 e6 (inR_b (Or.inr rfl)) ⟨by decide, by decide⟩ rfl
    exact ge_none
theorem tjH_push_21 {Φ : ev_P} {d : Nat} (hd : 2 ≤ d) {g : gH} (hg : HR g) {v0 v1 : Int} (hK0 : kd v0 = 0) (h1 : RfR v1) : Go Φ pr_P fN 0 (jH_push_21 g v0 v1 ) d pr_m219 21 [some (sR v0), some (sR v1)] [] g 0 0 := by
  unfold jH_push_21
  refine go_aload kk219_0.1.2.1.1.2 rfl ?_
  refine go_getR (bI := 0) kk219_0.1.2.1.2.1 hg hK0 (by decide) rfl rfl (fun r9 => ?_)
  refine go_aload kk219_0.1.2.1.2.2 rfl ?_
  refine go_getI (bI := 2) kk219_0.1.2.2.1.1 hg hK0 (by decide) rfl rfl (fun r10 => ?_)
  refine go_ck (fun q12 => ?_)
  refine go_tald kk219_0.1.2.2.1.2 hg q12 (fun r11 => ?_)
  refine go_aload kk219_0.1.2.2.2.1 rfl ?_
  refine go_ck (fun q13 => ?_)
  refine go_callN0 kk219_0.1.2.2.2.2 rfl rfl rfl ⟨by decide, _, rfl, q13⟩ ⟨Nat.zero_le _, Nat.zero_le _⟩ (by omega) (tfT_take (by omega) hg q13  h1) (fun y14 g16 e17 => ?_)
  refine go_aload kk219_0.2.1.1.1.1.1 rfl ?_
  refine go_dupR kk219_0.2.1.1.1.1.2 ?_
  refine go_getI (bI := 2) kk219_0.2.1.1.1.2 e17 hK0 (by decide) rfl rfl (fun r18 => ?_)
  refine go_int kk219_0.2.1.1.2.1 1 rfl ?_
  refine go_iadd kk219_0.2.1.1.2.2 ?_
  refine go_putI (bI := 2) kk219_0.2.1.2.1.1 e17 hK0 (by decide) rfl rfl (inR_w32 _) (fun g19 e20 => ?_)
  refine go_aload kk219_0.2.1.2.1.2 rfl ?_
  refine go_getI (bI := 1) kk219_0.2.1.2.2.1 e20 hK0 (by decide) rfl rfl (fun r21 => ?_)
  refine go_int kk219_0.2.1.2.2.2 10 rfl ?_
  refine go_cmlt kk219_0.2.2.1.1.1 r21 (inR_of (by decide)) (fun c22 => ?_) (fun c23 => ?_)
  · refine go_aload kk219_0.2.2.1.1.2 rfl ?_
    refine go_dupR kk219_0.2.2.1.2.1 ?_
    refine go_getI (bI := 1) kk219_0.2.2.1.2.2 e20 hK0 (by decide) rfl rfl (fun r24 => ?_)
    refine go_int kk219_0.2.2.2.1.1 1 rfl ?_
    refine go_iadd kk219_0.2.2.2.1.2 ?_
    refine go_putI (bI := 1) kk219_0.2.2.2.2.1 e20 hK0 (by decide) rfl rfl (inR_w32 _) (fun g25 e26 => ?_)
    exact go_vret kk219_0.2.2.2.2.2 e26 ⟨Nat.zero_le _, Nat.zero_le _⟩ rfl
  · exact go_vret kk219_0.2.2.2.2.2 e20 ⟨Nat.zero_le _, Nat.zero_le _⟩ rfl
theorem tjH_push_16 {Φ : ev_P} {d : Nat} (hd : 2 ≤ d) {g : gH} (hg : HR g) {v0 v1 : Int} (hK0 : kd v0 = 0) (h1 : RfR v1) : Go Φ pr_P fN 0 (jH_push_16 g v0 v1 ) d pr_m219 16 [some (sR v0), some (sR v1)] [] g 0 0 := by
  unfold jH_push_16
  refine go_aload kk219_0.1.1.2.2.1 rfl ?_
  refine go_int kk219_0.1.1.2.2.2 0 rfl ?_
  refine go_putI (bI := 2) kk219_0.1.2.1.1.1 hg hK0 (by decide) rfl rfl (inR_b (Or.inl rfl)) (fun g7 e8 => ?_)
  exact tjH_push_21 hd e8 hK0 h1
theorem tfH_push {Φ : ev_P} {d : Nat} (hd : 2 ≤ d) {g : gH} (hg : HR g) {v0 v1 : Int} (hK0 : kd v0 = 0) (h1 : RfR v1) : Go Φ pr_P fN 0 (fH_push g v0 v1) d (pr_P 219) 0 (ev_loc (pr_P 219).1 [(sR v0), (sR v1)]) [] g 0 0 := by
  show Go Φ pr_P fN 0 (fH_push g v0 v1) d pr_m219 0 [some (sR v0), some (sR v1)] [] g 0 0
  unfold fH_push
  refine go_aload kk219_0.1.1.1.1.1.1 rfl ?_
  refine go_getI (bI := 2) kk219_0.1.1.1.1.1.2 hg hK0 (by decide) rfl rfl (fun r1 => ?_)
  refine go_iflt kk219_0.1.1.1.1.2 r1 (fun c2 => ?_) (fun c3 => ?_)
  · exact tjH_push_16 hd hg hK0 h1
  · refine go_aload kk219_0.1.1.1.2.1 rfl ?_
    refine go_getI (bI := 2) kk219_0.1.1.1.2.2 hg hK0 (by decide) rfl rfl (fun r4 => ?_)
    refine go_int kk219_0.1.1.2.1.1 10 rfl ?_
    refine go_cmlt kk219_0.1.1.2.1.2 r4 (inR_of (by decide)) (fun c5 => ?_) (fun c6 => ?_)
    · exact tjH_push_21 hd hg hK0 h1
    · exact tjH_push_16 hd hg hK0 h1
theorem tjC_spawn_51 {Φ : ev_P} {d : Nat} (hd : 3 ≤ d) {g : gH} (hg : HR g) {v0 v2 v3 v4 v5 : Int} (hK0 : kd v0 = 6) (h2 : InR v2) (h3 : InR v3) (h4 : InR v4) (h5 : RfR v5) {s0 : Int} (z0 : B01 s0) (u1 : Option ev_V) (w1 : nwo u1) : Go Φ pr_P fT 1 (jC_spawn_51 g v0 v2 v3 v4 v5 s0 ) d pr_m17 51 [some (sR v0), u1, some (sI v2), some (sI v3), some (sI v4), some (sR v5)] [(sI s0)] g 4 24 := by
  unfold jC_spawn_51
  refine go_callQ0 kk17_0.2.1.1.2.2 rfl rfl rfl trivial ⟨by decide, by decide⟩ (by omega) (tfC_checkState (by omega) hg  z0) (fun y37 => ?_) (fun e41 E42 => ge_prop rfl ⟨by decide, by decide⟩ e41 rfl)
  refine go_aload kk17_0.2.1.2.1.1.1 rfl ?_
  refine go_getR (bI := 3) kk17_0.2.1.2.1.1.2 hg hK0 (by decide) rfl rfl (fun r43 => ?_)
  refine go_aload kk17_0.2.1.2.1.2 rfl ?_
  refine go_getR (bI := 0) kk17_0.2.1.2.2.1 hg hK0 (by decide) rfl rfl (fun r44 => ?_)
  refine go_ck (fun q45 => ?_)
  refine go_callN0 kk17_0.2.1.2.2.2 rfl rfl rfl ⟨by decide, _, rfl, q45⟩ ⟨by decide, by decide⟩ (by omega) (tfH_push (by omega) hg q45  r44) (fun y46 g48 e49 => ?_)
  refine go_aload kk17_0.2.2.1.1.1.1 rfl ?_
  refine go_getR (bI := 0) kk17_0.2.2.1.1.1.2 e49 hK0 (by decide) rfl rfl (fun r50 => ?_)
  refine go_aload kk17_0.2.2.1.1.2 rfl ?_
  refine go_iload kk17_0.2.2.1.2.1 rfl ?_
  refine go_iload kk17_0.2.2.1.2.2 rfl ?_
  refine go_iload kk17_0.2.2.2.1.1 rfl ?_
  refine go_ck (fun q51 => ?_)
  refine go_callN2 kk17_0.2.2.2.1.2 rfl rfl rfl ⟨by decide, _, rfl, q51⟩ ⟨by decide, by decide⟩ (by omega) (tfT_arrive (by omega) e49 q51  h5 h2 h3 h4) (fun y52 g54 r53 e55 => ?_)
  refine go_callP1 kk17_0.2.2.2.2.1 rfl rfl rfl trivial ⟨by decide, by decide⟩ (by omega) (tfC_numberOf (by omega) e55  r53) (fun y56 r57 => ?_)
  exact go_iret kk17_0.2.2.2.2.2 e55 r57 ⟨by decide, by decide⟩ rfl
theorem tjC_spawn_50 {Φ : ev_P} {d : Nat} (hd : 3 ≤ d) {g : gH} (hg : HR g) {v0 v2 v3 v4 v5 : Int} (hK0 : kd v0 = 6) (h2 : InR v2) (h3 : InR v3) (h4 : InR v4) (h5 : RfR v5) (u1 : Option ev_V) (w1 : nwo u1) : Go Φ pr_P fT 1 (jC_spawn_50 g v0 v2 v3 v4 v5 ) d pr_m17 50 [some (sR v0), u1, some (sI v2), some (sI v3), some (sI v4), some (sR v5)] [] g 4 24 := by
  unfold jC_spawn_50
  refine go_int kk17_0.2.1.1.2.1 0 rfl ?_
  exact tjC_spawn_51 hd hg hK0 h2 h3 h4 h5 (Or.inl rfl) u1 w1
theorem tfC_spawn {Φ : ev_P} {d : Nat} (hd : 3 ≤ d) {g : gH} (hg : HR g) {v0 v1 v2 v3 v4 : Int} (hK0 : kd v0 = 6) (h1 : InR v1) (h2 : InR v2) (h3 : InR v3) (h4 : InR v4) : Go Φ pr_P fT 1 (fC_spawn g v0 v1 v2 v3 v4) d (pr_P 17) 0 (ev_loc (pr_P 17).1 [(sR v0), (sI v1), (sI v2), (sI v3), (sI v4)]) [] g 0 0 := by
  show Go Φ pr_P fT 1 (fC_spawn g v0 v1 v2 v3 v4) d pr_m17 0 [some (sR v0), some (sI v1), some (sI v2), some (sI v3), some (sI v4), none] [] g 0 0
  unfold fC_spawn
  refine go_aload kk17_0.1.1.1.1.1.1 rfl ?_
  refine go_iload kk17_0.1.1.1.1.1.2 rfl ?_
  refine go_callQ2 kk17_0.1.1.1.1.2 rfl rfl rfl ⟨by decide, _, rfl, hK0⟩ ⟨by decide, by decide⟩ (by omega) (tfC_named (by omega) hg hK0  h1) (fun y1 r2 => ?_) (fun e5 E6 => ge_prop rfl ⟨by decide, by decide⟩ e5 rfl)
  refine go_astore kk17_0.1.1.1.2.1 rfl (loc2 := [some (sR v0), some (sI v1), some (sI v2), some (sI v3), some (sI v4), some (sR y1)]) rfl ?_
  refine go_iload kk17_0.1.1.1.2.2 rfl ?_
  refine go_int kk17_0.1.1.2.1.1.1 9 rfl ?_
  refine go_callQ0 kk17_0.1.1.2.1.1.2 rfl rfl rfl trivial ⟨by decide, by decide⟩ (by omega) (tfC_checkRange (by omega) hg  h2 (inR_of (by decide))) (fun y7 => ?_) (fun e11 E12 => ge_prop rfl ⟨by decide, by decide⟩ e11 rfl)
  refine go_iload kk17_0.1.1.2.1.2 rfl ?_
  refine go_int kk17_0.1.1.2.2.1 9 rfl ?_
  refine go_callQ0 kk17_0.1.1.2.2.2 rfl rfl rfl trivial ⟨by decide, by decide⟩ (by omega) (tfC_checkRange (by omega) hg  h3 (inR_of (by decide))) (fun y13 => ?_) (fun e17 E18 => ge_prop rfl ⟨by decide, by decide⟩ e17 rfl)
  refine go_iload kk17_0.1.2.1.1.1.1 rfl ?_
  refine go_int kk17_0.1.2.1.1.1.2 9 rfl ?_
  refine go_callQ0 kk17_0.1.2.1.1.2 rfl rfl rfl trivial ⟨by decide, by decide⟩ (by omega) (tfC_checkRange (by omega) hg  h4 (inR_of (by decide))) (fun y19 => ?_) (fun e23 E24 => ge_prop rfl ⟨by decide, by decide⟩ e23 rfl)
  refine go_aload kk17_0.1.2.1.2.1 rfl ?_
  refine go_ck (fun q25 => ?_)
  refine go_callP1 kk17_0.1.2.1.2.2 rfl rfl rfl ⟨by decide, _, rfl, q25⟩ ⟨by decide, by decide⟩ (by omega) (tfP_room (by omega) hg q25 ) (fun y26 r27 => ?_)
  refine go_ifgt kk17_0.1.2.2.1.1.1 r27 (fun c30 => ?_) (fun c31 => ?_)
  · refine go_aload kk17_0.1.2.2.1.1.2 rfl ?_
    refine go_getR (bI := 0) kk17_0.1.2.2.1.2 hg hK0 (by decide) rfl rfl (fun r32 => ?_)
    refine go_ck (fun q33 => ?_)
    refine go_getI (bI := 5) kk17_0.1.2.2.2.1 hg q33 (by decide) rfl rfl (fun r34 => ?_)
    refine go_int kk17_0.1.2.2.2.2 40 rfl ?_
    refine go_cmlt kk17_0.2.1.1.1.1.1 r34 (inR_of (by decide)) (fun c35 => ?_) (fun c36 => ?_)
    · refine go_int kk17_0.2.1.1.1.1.2 1 rfl ?_
      refine go_goto kk17_0.2.1.1.1.2 ?_
      exact tjC_spawn_51 hd hg hK0 h2 h3 h4 r2 (Or.inr rfl) (some (sI v1)) rfl
    · exact tjC_spawn_50 hd hg hK0 h2 h3 h4 r2 (some (sI v1)) rfl
  · exact tjC_spawn_50 hd hg hK0 h2 h3 h4 r2 (some (sI v1)) rfl
theorem tfW_spawn {Φ : ev_P} {d : Nat} (hd : 4 ≤ d) {g : gH} (hg : HR g) {v0 v1 v2 v3 v4 v5 : Int} (h0 : RfR v0) (h1 : InR v1) (h2 : InR v2) (h3 : InR v3) (h4 : InR v4) (h5 : RfR v5) : Go Φ pr_P fN 1 (fW_spawn g v0 v1 v2 v3 v4 v5) d (pr_P 313) 0 (ev_loc (pr_P 313).1 [(sR v0), (sI v1), (sI v2), (sI v3), (sI v4), (sR v5)]) [] g 0 0 := by
  show Go Φ pr_P fN 1 (fW_spawn g v0 v1 v2 v3 v4 v5) d pr_m313 0 [some (sR v0), some (sI v1), some (sI v2), some (sI v3), some (sI v4), some (sR v5), none] [] g 0 0
  unfold fW_spawn
  refine go_aload kk313_0.1.1.1.1.1 rfl ?_
  refine go_int kk313_0.1.1.1.1.2 0 rfl ?_
  refine go_aload kk313_0.1.1.1.2 rfl ?_
  refine go_iload kk313_0.1.1.2.1.1 rfl ?_
  refine go_iload kk313_0.1.1.2.1.2 rfl ?_
  refine go_iload kk313_0.1.1.2.2 rfl ?_
  refine go_iload kk313_0.1.2.1.1.1 rfl ?_
  refine go_ck (fun q1 => ?_)
  refine go_callT1 kk313_0.1.2.1.1.2 rfl rfl rfl ⟨by decide, _, rfl, q1⟩ ⟨by decide, by decide⟩ (by omega) (tfC_spawn (by omega) hg q1  h1 h2 h3 h4) (fun y2 g4 r3 e5 => ?_) (fun E7 g4 e6 => ?_)
  · refine go_i2l kk313_0.1.2.1.2 r3 ?_
    refine go_ck (fun q8 => ?_)
    refine go_last kk313_0.1.2.2.1 e5 q8 (inL_R r3) (fun g9 e10 => ?_)
    refine go_goto kk313_0.1.2.2.2 ?_
    refine go_int kk313_0.2.2.2.1 0 rfl ?_
    exact go_iret kk313_0.2.2.2.2 e10 (inR_b (Or.inl rfl)) ⟨by decide, by decide⟩ rfl
  · refine ge_ite (fun hE9 => ?_) (fun _ => ?_)
    · subst hE9
      refine ge_catch rfl kk313_0.2.1.1.1.1 rfl (loc2 := [some (sR v0), some (sI v1), some (sI v2), some (sI v3), some (sI v4), some (sR v5), none]) rfl ?_
      refine go_int kk313_0.2.1.1.1.2 1 rfl ?_
      exact go_iret kk313_0.2.1.1.2 e6 (inR_b (Or.inr rfl)) ⟨by decide, by decide⟩ rfl
    refine ge_ite (fun hE9 => ?_) (fun _ => ?_)
    · subst hE9
      refine ge_catch rfl kk313_0.2.1.2.1.1 rfl (loc2 := [some (sR v0), some (sI v1), some (sI v2), some (sI v3), some (sI v4), some (sR v5), none]) rfl ?_
      refine go_int kk313_0.2.1.2.1.2 2 rfl ?_
      exact go_iret kk313_0.2.1.2.2 e6 (inR_of (by decide)) ⟨by decide, by decide⟩ rfl
    refine ge_ite (fun hE9 => ?_) (fun _ => ?_)
    · subst hE9
      refine ge_catch rfl kk313_0.2.2.1.1.1 rfl (loc2 := [some (sR v0), some (sI v1), some (sI v2), some (sI v3), some (sI v4), some (sR v5), none]) rfl ?_
      refine go_int kk313_0.2.2.1.1.2 3 rfl ?_
      exact go_iret kk313_0.2.2.1.2 e6 (inR_of (by decide)) ⟨by decide, by decide⟩ rfl
    exact ge_none
theorem tfP_isMortal {Φ : ev_P} {d : Nat} (hd : 0 ≤ d) {g : gH} (hg : HR g) {v0 : Int} (hK0 : kd v0 = 3) : Go Φ pr_P (fP g) 3 (fP_isMortal g v0) d (pr_P 236) 0 (ev_loc (pr_P 236).1 [(sR v0)]) [] g 0 0 := by
  show Go Φ pr_P (fP g) 3 (fP_isMortal g v0) d pr_m236 0 [some (sR v0)] [] g 0 0
  unfold fP_isMortal
  refine go_aload kk236_0.1.1.1.1 rfl ?_
  refine go_getI (bI := 1) kk236_0.1.1.1.2 hg hK0 (by decide) rfl rfl (fun r1 => ?_)
  refine go_ifeq kk236_0.1.1.2 r1 (fun c2 => ?_) (fun c3 => ?_)
  · refine go_aload kk236_0.1.2.1 rfl ?_
    refine go_getR (bI := 2) kk236_0.1.2.2 hg hK0 (by decide) rfl rfl (fun r4 => ?_)
    refine go_isnull kk236_0.2.1.1.1  (fun c5 => ?_) (fun c6 => ?_)
    · refine go_int kk236_0.2.2.1 0 rfl ?_
      exact go_bret kk236_0.2.2.2 hg (Or.inl rfl) ⟨Nat.zero_le _, Nat.zero_le _⟩ rfl
    · refine go_int kk236_0.2.1.1.2 1 rfl ?_
      refine go_goto kk236_0.2.1.2 ?_
      exact go_bret kk236_0.2.2.2 hg (Or.inr rfl) ⟨Nat.zero_le _, Nat.zero_le _⟩ rfl
  · refine go_int kk236_0.2.2.1 0 rfl ?_
    exact go_bret kk236_0.2.2.2 hg (Or.inl rfl) ⟨Nat.zero_le _, Nat.zero_le _⟩ rfl
theorem tfC_namedForExit {Φ : ev_P} {d : Nat} (hd : 2 ≤ d) {g : gH} (hg : HR g) {v0 v1 v2 : Int} (hK0 : kd v0 = 6) (h1 : InR v1) (h2 : InR v2) : Go Φ pr_P (fQ g) 2 (fC_namedForExit g v0 v1 v2) d (pr_P 69) 0 (ev_loc (pr_P 69).1 [(sR v0), (sI v1), (sI v2)]) [] g 0 0 := by
  show Go Φ pr_P (fQ g) 2 (fC_namedForExit g v0 v1 v2) d pr_m69 0 [some (sR v0), some (sI v1), some (sI v2), none] [] g 0 0
  unfold fC_namedForExit
  refine go_aload kk69_0.1.1.1.1 rfl ?_
  refine go_iload kk69_0.1.1.1.2 rfl ?_
  refine go_callQ2 kk69_0.1.1.2 rfl rfl rfl ⟨by decide, _, rfl, hK0⟩ ⟨by decide, by decide⟩ (by omega) (tfC_named (by omega) hg hK0  h1) (fun y1 r2 => ?_) (fun e5 E6 => ge_prop rfl ⟨by decide, by decide⟩ e5 rfl)
  refine go_astore kk69_0.1.2.1.1 rfl (loc2 := [some (sR v0), some (sI v1), some (sI v2), some (sR y1)]) rfl ?_
  refine go_iload kk69_0.1.2.1.2 rfl ?_
  refine go_int kk69_0.1.2.2 255 rfl ?_
  refine go_callQ0 kk69_0.2.1.1.1 rfl rfl rfl trivial ⟨by decide, by decide⟩ (by omega) (tfC_checkRange (by omega) hg  h2 (inR_of (by decide))) (fun y7 => ?_) (fun e11 E12 => ge_prop rfl ⟨by decide, by decide⟩ e11 rfl)
  refine go_aload kk69_0.2.1.1.2 rfl ?_
  refine go_ck (fun q13 => ?_)
  refine go_callP3 kk69_0.2.1.2 rfl rfl rfl ⟨by decide, _, rfl, q13⟩ ⟨by decide, by decide⟩ (by omega) (tfP_isMortal (by omega) hg q13 ) (fun y14 r15 => ?_)
  refine go_callQ0 kk69_0.2.2.1.1 rfl rfl rfl trivial ⟨by decide, by decide⟩ (by omega) (tfC_checkState (by omega) hg  r15) (fun y18 => ?_) (fun e22 E23 => ge_prop rfl ⟨by decide, by decide⟩ e22 rfl)
  refine go_aload kk69_0.2.2.1.2 rfl ?_
  exact go_aret kk69_0.2.2.2 hg r2 ⟨by decide, by decide⟩ rfl
theorem tfT_replace {Φ : ev_P} {d : Nat} (hd : 2 ≤ d) {g : gH} (hg : HR g) {v0 v1 v2 : Int} (hK0 : kd v0 = 5) (h1 : RfR v1) (h2 : RfR v2) : Go Φ pr_P fN 2 (fT_replace g v0 v1 v2) d (pr_P 288) 0 (ev_loc (pr_P 288).1 [(sR v0), (sR v1), (sR v2)]) [] g 0 0 := by
  show Go Φ pr_P fN 2 (fT_replace g v0 v1 v2) d pr_m288 0 [some (sR v0), some (sR v1), some (sR v2), none] [] g 0 0
  unfold fT_replace
  refine go_aload kk288_0.1.1.1.1.1.1 rfl ?_
  refine go_ck (fun q1 => ?_)
  refine go_getB (bI := 13) kk288_0.1.1.1.1.1.2 hg q1 (by decide) rfl rfl (fun r2 => ?_)
  refine go_ifeq kk288_0.1.1.1.1.2 (inR_b r2) (fun c3 => ?_) (fun c4 => ?_)
  · refine go_aload kk288_0.1.1.1.2.1 rfl ?_
    refine go_getI (bI := 6) kk288_0.1.1.1.2.2 hg q1 (by decide) rfl rfl (fun r5 => ?_)
    refine go_ifgt kk288_0.1.1.2.1.1.1 r5 (fun c6 => ?_) (fun c7 => ?_)
    · refine go_aload kk288_0.1.1.2.2.1 rfl ?_
      refine go_aload kk288_0.1.1.2.2.2 rfl ?_
      refine go_aload kk288_0.1.2.1.1.1.1 rfl ?_
      refine go_ck (fun q8 => ?_)
      refine go_getI (bI := 4) kk288_0.1.2.1.1.1.2 hg q8 (by decide) rfl rfl (fun r9 => ?_)
      refine go_aload kk288_0.1.2.1.1.2 rfl ?_
      refine go_getI (bI := 5) kk288_0.1.2.1.2.1 hg q8 (by decide) rfl rfl (fun r10 => ?_)
      refine go_aload kk288_0.1.2.1.2.2 rfl ?_
      refine go_getI (bI := 6) kk288_0.1.2.2.1.1 hg q8 (by decide) rfl rfl (fun r11 => ?_)
      refine go_callN2 kk288_0.1.2.2.1.2 rfl rfl rfl ⟨by decide, _, rfl, hK0⟩ ⟨Nat.zero_le _, Nat.zero_le _⟩ (by omega) (tfT_arrive (by omega) hg hK0  h2 r9 r10 r11) (fun y12 g14 r13 e15 => ?_)
      refine go_astore kk288_0.1.2.2.2.1 rfl (loc2 := [some (sR v0), some (sR v1), some (sR v2), some (sR y12)]) rfl ?_
      refine go_aload kk288_0.1.2.2.2.2 rfl ?_
      refine go_isnull kk288_0.2.1.1.1.1.1  (fun c16 => ?_) (fun c17 => ?_)
      · refine go_aload kk288_0.2.2.2.2.1 rfl ?_
        exact go_aret kk288_0.2.2.2.2.2 e15 r13 ⟨Nat.zero_le _, Nat.zero_le _⟩ rfl
      · refine go_aload kk288_0.2.1.1.1.1.2 rfl ?_
        refine go_dupR kk288_0.2.1.1.1.2 ?_
        refine go_getI (bI := 6) kk288_0.2.1.1.2.1 e15 q1 (by decide) rfl rfl (fun r18 => ?_)
        refine go_int kk288_0.2.1.1.2.2 1 rfl ?_
        refine go_isub kk288_0.2.1.2.1.1.1 ?_
        refine go_putI (bI := 6) kk288_0.2.1.2.1.1.2 e15 q1 (by decide) rfl rfl (inR_w32 _) (fun g19 e20 => ?_)
        refine go_aload kk288_0.2.1.2.1.2 rfl ?_
        refine go_aload kk288_0.2.1.2.2.1 rfl ?_
        refine go_ck (fun q21 => ?_)
        refine go_getI (bI := 0) kk288_0.2.1.2.2.2 e20 q21 (by decide) rfl rfl (fun r22 => ?_)
        refine go_putI (bI := 12) kk288_0.2.2.1.1.1.1 e20 q8 (by decide) rfl rfl r22 (fun g23 e24 => ?_)
        refine go_aload kk288_0.2.2.1.1.1.2 rfl ?_
        refine go_dupR kk288_0.2.2.1.1.2 ?_
        refine go_getI (bI := 9) kk288_0.2.2.1.2.1 e24 hK0 (by decide) rfl rfl (fun r25 => ?_)
        refine go_int kk288_0.2.2.1.2.2 1 rfl ?_
        refine go_iadd kk288_0.2.2.2.1.1 ?_
        refine go_putI (bI := 9) kk288_0.2.2.2.1.2 e24 hK0 (by decide) rfl rfl (inR_w32 _) (fun g26 e27 => ?_)
        refine go_aload kk288_0.2.2.2.2.1 rfl ?_
        exact go_aret kk288_0.2.2.2.2.2 e27 r13 ⟨Nat.zero_le _, Nat.zero_le _⟩ rfl
    · refine go_null kk288_0.1.1.2.1.1.2 ?_
      exact go_aret kk288_0.1.1.2.1.2 hg rfR_null ⟨Nat.zero_le _, Nat.zero_le _⟩ rfl
  · refine go_null kk288_0.1.1.2.1.1.2 ?_
    exact go_aret kk288_0.1.1.2.1.2 hg rfR_null ⟨Nat.zero_le _, Nat.zero_le _⟩ rfl
theorem tfP_canInherit {Φ : ev_P} {d : Nat} (hd : 0 ≤ d) {g : gH} (hg : HR g) {v0 : Int} (hK0 : kd v0 = 3) : Go Φ pr_P (fP g) 3 (fP_canInherit g v0) d (pr_P 240) 0 (ev_loc (pr_P 240).1 [(sR v0)]) [] g 0 0 := by
  show Go Φ pr_P (fP g) 3 (fP_canInherit g v0) d pr_m240 0 [some (sR v0)] [] g 0 0
  unfold fP_canInherit
  refine go_aload kk240_0.1.1.1.1 rfl ?_
  refine go_getI (bI := 1) kk240_0.1.1.1.2 hg hK0 (by decide) rfl rfl (fun r1 => ?_)
  refine go_ifeq kk240_0.1.1.2 r1 (fun c2 => ?_) (fun c3 => ?_)
  · refine go_aload kk240_0.1.2.1 rfl ?_
    refine go_getB (bI := 13) kk240_0.1.2.2 hg hK0 (by decide) rfl rfl (fun r4 => ?_)
    refine go_ifeq kk240_0.2.1.1.1 (inR_b r4) (fun c5 => ?_) (fun c6 => ?_)
    · refine go_int kk240_0.2.1.1.2 1 rfl ?_
      refine go_goto kk240_0.2.1.2 ?_
      exact go_bret kk240_0.2.2.2 hg (Or.inr rfl) ⟨Nat.zero_le _, Nat.zero_le _⟩ rfl
    · refine go_int kk240_0.2.2.1 0 rfl ?_
      exact go_bret kk240_0.2.2.2 hg (Or.inl rfl) ⟨Nat.zero_le _, Nat.zero_le _⟩ rfl
  · refine go_int kk240_0.2.2.1 0 rfl ?_
    exact go_bret kk240_0.2.2.2 hg (Or.inl rfl) ⟨Nat.zero_le _, Nat.zero_le _⟩ rfl
theorem tjT_heirOf_73 {Φ : ev_P} {d : Nat} (hd : 1 ≤ d) {g : gH} (hg : HR g) {v0 v1 : Int} (hK0 : kd v0 = 5) (h1 : RfR v1) (u2 : Option ev_V) (w2 : nwo u2) (u3 : Option ev_V) (w3 : nwo u3) (u4 : Option ev_V) (w4 : nwo u4) (u5 : Option ev_V) (w5 : nwo u5) (u6 : Option ev_V) (w6 : nwo u6) : Go Φ pr_P (fP g) 2 (jT_heirOf_73 g v0 v1 ) d pr_m291 73 [some (sR v0), some (sR v1), u2, u3, u4, u5, u6] [] g 0 0 := by
  unfold jT_heirOf_73
  refine go_aload kk291_0.2.2.1.1.2 rfl ?_
  refine go_ck (fun q39 => ?_)
  refine go_getR (bI := 2) kk291_0.2.2.1.2.1.1 hg q39 (by decide) rfl rfl (fun r40 => ?_)
  refine go_isnull kk291_0.2.2.1.2.1.2  (fun c41 => ?_) (fun c42 => ?_)
  · refine go_aload kk291_0.2.2.1.2.2 rfl ?_
    refine go_getR (bI := 0) kk291_0.2.2.2.1.1.1 hg hK0 (by decide) rfl rfl (fun r43 => ?_)
    refine go_goto kk291_0.2.2.2.1.1.2 ?_
    exact go_aret kk291_0.2.2.2.2.2 hg r43 ⟨Nat.zero_le _, Nat.zero_le _⟩ rfl
  · refine go_aload kk291_0.2.2.2.1.2 rfl ?_
    refine go_getR (bI := 2) kk291_0.2.2.2.2.1 hg q39 (by decide) rfl rfl (fun r44 => ?_)
    exact go_aret kk291_0.2.2.2.2.2 hg r44 ⟨Nat.zero_le _, Nat.zero_le _⟩ rfl
theorem tbT_heirOf_34 {Φ : ev_P} {d : Nat} (hd : 1 ≤ d) {g : gH} (hg : HR g) {v0 v1 v3 v4 : Int} (hK0 : kd v0 = 5) (h1 : RfR v1) (h3 : RfR v3) (h4 : InR v4) {X34 : Int → Option Int} (HX34 : ∀ (v5 : Int) (h5 : InR v5) (u2 : Option ev_V) (w2 : nwo u2) (u6 : Option ev_V) (w6 : nwo u6), Go Φ pr_P (fP g) 2 (X34 v5) d pr_m291 34 [some (sR v0), some (sR v1), u2, some (sR v3), some (sI v4), some (sI v5), u6] [] g 0 0) : ∀ (v5 : Int) (h5 : InR v5) (u2 : Option ev_V) (w2 : nwo u2) (u6 : Option ev_V) (w6 : nwo u6), Go Φ pr_P (fP g) 2 (bT_heirOf_34 g v0 v1 v3 v4 X34 v5) d pr_m291 34 [some (sR v0), some (sR v1), u2, some (sR v3), some (sI v4), some (sI v5), u6] [] g 0 0 := by
  intro v5 h5 u2 w2 u6 w6
  unfold bT_heirOf_34
  refine go_iload kk291_0.1.2.2.1.2 rfl ?_
  refine go_iload kk291_0.1.2.2.2.1.1 rfl ?_
  refine go_cmlt kk291_0.1.2.2.2.1.2 h5 h4 (fun c22 => ?_) (fun c23 => ?_)
  · refine go_aload kk291_0.1.2.2.2.2 rfl ?_
    refine go_iload kk291_0.2.1.1.1.1.1 rfl ?_
    refine go_ck (fun q25 => ?_)
    refine go_pald kk291_0.2.1.1.1.1.2 hg q25 (fun r24 => ?_)
    refine go_astore kk291_0.2.1.1.1.2 rfl (loc2 := [some (sR v0), some (sR v1), u2, some (sR v3), some (sI v4), some (sI v5), some (sR (g v3 v5))]) rfl ?_
    refine go_aload kk291_0.2.1.1.2.1.1 rfl ?_
    refine go_aload kk291_0.2.1.1.2.1.2 rfl ?_
    refine go_ck (fun q26 => ?_)
    refine go_callP3 kk291_0.2.1.1.2.2 rfl rfl rfl ⟨by decide, _, rfl, q26⟩ ⟨Nat.zero_le _, Nat.zero_le _⟩ (by omega) (tfP_isRunningChildOf (by omega) hg q26  h1) (fun y27 r28 => ?_)
    refine go_ifeq kk291_0.2.1.2.1.1.1 (inR_b r28) (fun c31 => ?_) (fun c32 => ?_)
    · refine go_iinc kk291_0.2.2.1.1.1.1 rfl rfl 1 rfl (loc2 := [some (sR v0), some (sR v1), u2, some (sR v3), some (sI v4), some (sI (w32 (v5 + 1))), some (sR (g v3 v5))]) rfl ?_
      refine go_goto kk291_0.2.2.1.1.1.2 ?_
      exact HX34 (w32 (v5 + 1)) (inR_w32 _) u2 w2 (some (sR (g v3 v5))) rfl
    · refine go_aload kk291_0.2.1.2.1.1.2 rfl ?_
      refine go_callP3 kk291_0.2.1.2.1.2 rfl rfl rfl ⟨by decide, _, rfl, q26⟩ ⟨Nat.zero_le _, Nat.zero_le _⟩ (by omega) (tfP_canInherit (by omega) hg q26 ) (fun y33 r34 => ?_)
      refine go_ifeq kk291_0.2.1.2.2.1.1 (inR_b r34) (fun c37 => ?_) (fun c38 => ?_)
      · refine go_iinc kk291_0.2.2.1.1.1.1 rfl rfl 1 rfl (loc2 := [some (sR v0), some (sR v1), u2, some (sR v3), some (sI v4), some (sI (w32 (v5 + 1))), some (sR (g v3 v5))]) rfl ?_
        refine go_goto kk291_0.2.2.1.1.1.2 ?_
        exact HX34 (w32 (v5 + 1)) (inR_w32 _) u2 w2 (some (sR (g v3 v5))) rfl
      · refine go_aload kk291_0.2.1.2.2.1.2 rfl ?_
        exact go_aret kk291_0.2.1.2.2.2 hg r24 ⟨Nat.zero_le _, Nat.zero_le _⟩ rfl
  · exact tjT_heirOf_73 hd hg hK0 h1 u2 w2 (some (sR v3)) rfl (some (sI v4)) rfl (some (sI v5)) rfl u6 w6
theorem tlT_heirOf_34 {Φ : ev_P} {d : Nat} (hd : 1 ≤ d) {g : gH} (hg : HR g) {v0 v1 v3 v4 : Int} (hK0 : kd v0 = 5) (h1 : RfR v1) (h3 : RfR v3) (h4 : InR v4) : ∀ n : Nat, ∀ (v5 : Int) (h5 : InR v5) (u2 : Option ev_V) (w2 : nwo u2) (u6 : Option ev_V) (w6 : nwo u6), Go Φ pr_P (fP g) 2 (lT_heirOf_34 g v0 v1 v3 v4 n v5) d pr_m291 34 [some (sR v0), some (sR v1), u2, some (sR v3), some (sI v4), some (sI v5), u6] [] g 0 0 := by
  intro n
  induction n with
  | zero => intros; exact go_none
  | succ n ih => exact tbT_heirOf_34 hd hg hK0 h1 h3 h4 ih
theorem tfT_heirOf {Φ : ev_P} {d : Nat} (hd : 1 ≤ d) {g : gH} (hg : HR g) {v0 v1 : Int} (hK0 : kd v0 = 5) (h1 : RfR v1) : Go Φ pr_P (fP g) 2 (fT_heirOf g v0 v1) d (pr_P 291) 0 (ev_loc (pr_P 291).1 [(sR v0), (sR v1)]) [] g 0 0 := by
  show Go Φ pr_P (fP g) 2 (fT_heirOf g v0 v1) d pr_m291 0 [some (sR v0), some (sR v1), none, none, none, none, none] [] g 0 0
  unfold fT_heirOf
  refine go_aload kk291_0.1.1.1.1.1.1 rfl ?_
  refine go_aload kk291_0.1.1.1.1.1.2 rfl ?_
  refine go_ck (fun q1 => ?_)
  refine go_getI (bI := 7) kk291_0.1.1.1.1.2 hg q1 (by decide) rfl rfl (fun r2 => ?_)
  refine go_callP2 kk291_0.1.1.1.2.1.1 rfl rfl rfl ⟨by decide, _, rfl, hK0⟩ ⟨Nat.zero_le _, Nat.zero_le _⟩ (by omega) (tfT_at (by omega) hg hK0  r2) (fun y3 r4 => ?_)
  refine go_astore kk291_0.1.1.1.2.1.2 rfl (loc2 := [some (sR v0), some (sR v1), some (sR y3), none, none, none, none]) rfl ?_
  refine go_aload kk291_0.1.1.1.2.2 rfl ?_
  refine go_isnull kk291_0.1.1.2.1.1.1  (fun c7 => ?_) (fun c8 => ?_)
  · refine go_aload kk291_0.1.2.1.1.1.1 rfl ?_
    refine go_getR (bI := 1) kk291_0.1.2.1.1.1.2 hg hK0 (by decide) rfl rfl (fun r9 => ?_)
    refine go_astore kk291_0.1.2.1.1.2 rfl (loc2 := [some (sR v0), some (sR v1), some (sR y3), some (sR (g v0 1)), none, none, none]) rfl ?_
    refine go_aload kk291_0.1.2.1.2.1.1 rfl ?_
    refine go_ck (fun q11 => ?_)
    refine go_alen kk291_0.1.2.1.2.1.2 (ka_24 q11) (fun r10 => ?_)
    refine go_istore kk291_0.1.2.1.2.2 rfl (loc2 := [some (sR v0), some (sR v1), some (sR y3), some (sR (g v0 1)), some (sI (sz (g v0 1))), none, none]) rfl ?_
    refine go_int kk291_0.1.2.2.1.1.1 0 rfl ?_
    refine go_istore kk291_0.1.2.2.1.1.2 rfl (loc2 := [some (sR v0), some (sR v1), some (sR y3), some (sR (g v0 1)), some (sI (sz (g v0 1))), some (sI 0), none]) rfl ?_
    exact tlT_heirOf_34 hd hg hK0 h1 r9 r10 fu 0 (inR_b (Or.inl rfl)) (some (sR y3)) rfl none rfl
  · refine go_aload kk291_0.1.1.2.1.1.2 rfl ?_
    refine go_ck (fun q12 => ?_)
    refine go_callP3 kk291_0.1.1.2.1.2 rfl rfl rfl ⟨by decide, _, rfl, q12⟩ ⟨Nat.zero_le _, Nat.zero_le _⟩ (by omega) (tfP_canInherit (by omega) hg q12 ) (fun y13 r14 => ?_)
    refine go_ifeq kk291_0.1.1.2.2.1.1 (inR_b r14) (fun c17 => ?_) (fun c18 => ?_)
    · refine go_aload kk291_0.1.2.1.1.1.1 rfl ?_
      refine go_getR (bI := 1) kk291_0.1.2.1.1.1.2 hg hK0 (by decide) rfl rfl (fun r19 => ?_)
      refine go_astore kk291_0.1.2.1.1.2 rfl (loc2 := [some (sR v0), some (sR v1), some (sR y3), some (sR (g v0 1)), none, none, none]) rfl ?_
      refine go_aload kk291_0.1.2.1.2.1.1 rfl ?_
      refine go_ck (fun q21 => ?_)
      refine go_alen kk291_0.1.2.1.2.1.2 (ka_24 q21) (fun r20 => ?_)
      refine go_istore kk291_0.1.2.1.2.2 rfl (loc2 := [some (sR v0), some (sR v1), some (sR y3), some (sR (g v0 1)), some (sI (sz (g v0 1))), none, none]) rfl ?_
      refine go_int kk291_0.1.2.2.1.1.1 0 rfl ?_
      refine go_istore kk291_0.1.2.2.1.1.2 rfl (loc2 := [some (sR v0), some (sR v1), some (sR y3), some (sR (g v0 1)), some (sI (sz (g v0 1))), some (sI 0), none]) rfl ?_
      exact tlT_heirOf_34 hd hg hK0 h1 r19 r20 fu 0 (inR_b (Or.inl rfl)) (some (sR y3)) rfl none rfl
    · refine go_aload kk291_0.1.1.2.2.1.2 rfl ?_
      exact go_aret kk291_0.1.1.2.2.2 hg r4 ⟨Nat.zero_le _, Nat.zero_le _⟩ rfl
theorem tfT_inheritorOf {Φ : ev_P} {d : Nat} (hd : 2 ≤ d) {g : gH} (hg : HR g) {v0 v1 v2 : Int} (hK0 : kd v0 = 5) (h1 : RfR v1) (h2 : InR v2) : Go Φ pr_P (fP g) 2 (fT_inheritorOf g v0 v1 v2) d (pr_P 290) 0 (ev_loc (pr_P 290).1 [(sR v0), (sR v1), (sI v2)]) [] g 0 0 := by
  show Go Φ pr_P (fP g) 2 (fT_inheritorOf g v0 v1 v2) d pr_m290 0 [some (sR v0), some (sR v1), some (sI v2), none] [] g 0 0
  unfold fT_inheritorOf
  refine go_aload kk290_0.1.1.1.1.1 rfl ?_
  refine go_aload kk290_0.1.1.1.1.2 rfl ?_
  refine go_iload kk290_0.1.1.1.2 rfl ?_
  refine go_ck (fun q1 => ?_)
  refine go_callP1 kk290_0.1.1.2.1 rfl rfl rfl ⟨by decide, _, rfl, q1⟩ ⟨Nat.zero_le _, Nat.zero_le _⟩ (by omega) (tfP_willFor (by omega) hg q1  h2) (fun y2 r3 => ?_)
  refine go_callP2 kk290_0.1.1.2.2 rfl rfl rfl ⟨by decide, _, rfl, hK0⟩ ⟨Nat.zero_le _, Nat.zero_le _⟩ (by omega) (tfT_at (by omega) hg hK0  r3) (fun y6 r7 => ?_)
  refine go_astore kk290_0.1.2.1.1 rfl (loc2 := [some (sR v0), some (sR v1), some (sI v2), some (sR y6)]) rfl ?_
  refine go_aload kk290_0.1.2.1.2 rfl ?_
  refine go_isnull kk290_0.1.2.2.1  (fun c10 => ?_) (fun c11 => ?_)
  · refine go_aload kk290_0.2.2.1.1 rfl ?_
    refine go_aload kk290_0.2.2.1.2 rfl ?_
    refine go_callP2 kk290_0.2.2.2.1 rfl rfl rfl ⟨by decide, _, rfl, hK0⟩ ⟨Nat.zero_le _, Nat.zero_le _⟩ (by omega) (tfT_heirOf (by omega) hg hK0  h1) (fun y12 r13 => ?_)
    exact go_aret kk290_0.2.2.2.2 hg r13 ⟨Nat.zero_le _, Nat.zero_le _⟩ rfl
  · refine go_aload kk290_0.1.2.2.2 rfl ?_
    refine go_ck (fun q16 => ?_)
    refine go_callP3 kk290_0.2.1.1.1 rfl rfl rfl ⟨by decide, _, rfl, q16⟩ ⟨Nat.zero_le _, Nat.zero_le _⟩ (by omega) (tfP_canInherit (by omega) hg q16 ) (fun y17 r18 => ?_)
    refine go_ifeq kk290_0.2.1.1.2 (inR_b r18) (fun c21 => ?_) (fun c22 => ?_)
    · refine go_aload kk290_0.2.2.1.1 rfl ?_
      refine go_aload kk290_0.2.2.1.2 rfl ?_
      refine go_callP2 kk290_0.2.2.2.1 rfl rfl rfl ⟨by decide, _, rfl, hK0⟩ ⟨Nat.zero_le _, Nat.zero_le _⟩ (by omega) (tfT_heirOf (by omega) hg hK0  h1) (fun y23 r24 => ?_)
      exact go_aret kk290_0.2.2.2.2 hg r24 ⟨Nat.zero_le _, Nat.zero_le _⟩ rfl
    · refine go_aload kk290_0.2.1.2.1 rfl ?_
      refine go_goto kk290_0.2.1.2.2 ?_
      exact go_aret kk290_0.2.2.2.2 hg r7 ⟨Nat.zero_le _, Nat.zero_le _⟩ rfl
theorem tbT_passDuties_2 {Φ : ev_P} {d : Nat} (hd : 3 ≤ d) {v0 v1 v2 : Int} (hK0 : kd v0 = 5) (h1 : RfR v1) (h2 : RfR v2) {X2 : Int → gH → Option (Int × gH)} (HX2 : ∀ (v3 : Int) (h3 : InR v3) (g : gH) (hg : HR g) (u4 : Option ev_V) (w4 : nwo u4), Go Φ pr_P fN 0 (X2 v3 g) d pr_m289 2 [some (sR v0), some (sR v1), some (sR v2), some (sI v3), u4] [] g 0 0) : ∀ (v3 : Int) (h3 : InR v3) (g : gH) (hg : HR g) (u4 : Option ev_V) (w4 : nwo u4), Go Φ pr_P fN 0 (bT_passDuties_2 v0 v1 v2 X2 v3 g) d pr_m289 2 [some (sR v0), some (sR v1), some (sR v2), some (sI v3), u4] [] g 0 0 := by
  intro v3 h3 g hg u4 w4
  unfold bT_passDuties_2
  refine go_iload kk289_0.1.1.1.2.1 rfl ?_
  refine go_int kk289_0.1.1.1.2.2 8 rfl ?_
  refine go_cmlt kk289_0.1.1.2.1.1 h3 (inR_of (by decide)) (fun c1 => ?_) (fun c2 => ?_)
  · refine go_aload kk289_0.1.1.2.1.2 rfl ?_
    refine go_getR (bI := 2) kk289_0.1.1.2.2.1 hg hK0 (by decide) rfl rfl (fun r3 => ?_)
    refine go_iload kk289_0.1.1.2.2.2 rfl ?_
    refine go_ck (fun q5 => ?_)
    refine go_iald kk289_0.1.2.1.1.1 hg q5 (fun r4 => ?_)
    refine go_aload kk289_0.1.2.1.1.2 rfl ?_
    refine go_ck (fun q6 => ?_)
    refine go_getI (bI := 0) kk289_0.1.2.1.2.1 hg q6 (by decide) rfl rfl (fun r7 => ?_)
    refine go_cmeq kk289_0.1.2.1.2.2 r4 r7 (fun c8 => ?_) (fun c9 => ?_)
    · refine go_aload kk289_0.1.2.2.1.1 rfl ?_
      refine go_isnull kk289_0.1.2.2.1.2  (fun c10 => ?_) (fun c11 => ?_)
      · refine go_aload kk289_0.2.1.1.1.2 rfl ?_
        refine go_aload kk289_0.2.1.1.2.1 rfl ?_
        refine go_iload kk289_0.2.1.1.2.2 rfl ?_
        refine go_callP2 kk289_0.2.1.2.1.1 rfl rfl rfl ⟨by decide, _, rfl, hK0⟩ ⟨Nat.zero_le _, Nat.zero_le _⟩ (by omega) (tfT_inheritorOf (by omega) hg hK0  h1 h3) (fun y12 r13 => ?_)
        refine go_astore kk289_0.2.1.2.1.2 rfl (loc2 := [some (sR v0), some (sR v1), some (sR v2), some (sI v3), some (sR y12)]) rfl ?_
        refine go_aload kk289_0.2.1.2.2.1 rfl ?_
        refine go_getR (bI := 2) kk289_0.2.1.2.2.2 hg hK0 (by decide) rfl rfl (fun r16 => ?_)
        refine go_iload kk289_0.2.2.1.1.1 rfl ?_
        refine go_aload kk289_0.2.2.1.1.2 rfl ?_
        refine go_ck (fun q17 => ?_)
        refine go_getI (bI := 0) kk289_0.2.2.1.2.1 hg q17 (by decide) rfl rfl (fun r18 => ?_)
        refine go_ck (fun q19 => ?_)
        refine go_iast kk289_0.2.2.1.2.2 hg q19 r18 (fun g20 e21 => ?_)
        refine go_iinc kk289_0.2.2.2.1.1 rfl rfl 1 rfl (loc2 := [some (sR v0), some (sR v1), some (sR v2), some (sI (w32 (v3 + 1))), some (sR y12)]) rfl ?_
        refine go_goto kk289_0.2.2.2.1.2 ?_
        exact HX2 (w32 (v3 + 1)) (inR_w32 _) g20 e21 (some (sR y12)) rfl
      · refine go_aload kk289_0.1.2.2.2 rfl ?_
        refine go_goto kk289_0.2.1.1.1.1 ?_
        refine go_astore kk289_0.2.1.2.1.2 rfl (loc2 := [some (sR v0), some (sR v1), some (sR v2), some (sI v3), some (sR v2)]) rfl ?_
        refine go_aload kk289_0.2.1.2.2.1 rfl ?_
        refine go_getR (bI := 2) kk289_0.2.1.2.2.2 hg hK0 (by decide) rfl rfl (fun r22 => ?_)
        refine go_iload kk289_0.2.2.1.1.1 rfl ?_
        refine go_aload kk289_0.2.2.1.1.2 rfl ?_
        refine go_ck (fun q23 => ?_)
        refine go_getI (bI := 0) kk289_0.2.2.1.2.1 hg q23 (by decide) rfl rfl (fun r24 => ?_)
        refine go_ck (fun q25 => ?_)
        refine go_iast kk289_0.2.2.1.2.2 hg q25 r24 (fun g26 e27 => ?_)
        refine go_iinc kk289_0.2.2.2.1.1 rfl rfl 1 rfl (loc2 := [some (sR v0), some (sR v1), some (sR v2), some (sI (w32 (v3 + 1))), some (sR v2)]) rfl ?_
        refine go_goto kk289_0.2.2.2.1.2 ?_
        exact HX2 (w32 (v3 + 1)) (inR_w32 _) g26 e27 (some (sR v2)) rfl
    · refine go_iinc kk289_0.2.2.2.1.1 rfl rfl 1 rfl (loc2 := [some (sR v0), some (sR v1), some (sR v2), some (sI (w32 (v3 + 1))), u4]) rfl ?_
      refine go_goto kk289_0.2.2.2.1.2 ?_
      exact HX2 (w32 (v3 + 1)) (inR_w32 _) g hg u4 w4
  · exact go_vret kk289_0.2.2.2.2 hg ⟨Nat.zero_le _, Nat.zero_le _⟩ rfl
theorem tlT_passDuties_2 {Φ : ev_P} {d : Nat} (hd : 3 ≤ d) {v0 v1 v2 : Int} (hK0 : kd v0 = 5) (h1 : RfR v1) (h2 : RfR v2) : ∀ n : Nat, ∀ (v3 : Int) (h3 : InR v3) (g : gH) (hg : HR g) (u4 : Option ev_V) (w4 : nwo u4), Go Φ pr_P fN 0 (lT_passDuties_2 v0 v1 v2 n v3 g) d pr_m289 2 [some (sR v0), some (sR v1), some (sR v2), some (sI v3), u4] [] g 0 0 := by
  intro n
  induction n with
  | zero => intros; exact go_none
  | succ n ih => exact tbT_passDuties_2 hd hK0 h1 h2 ih
theorem tfT_passDuties {Φ : ev_P} {d : Nat} (hd : 3 ≤ d) {g : gH} (hg : HR g) {v0 v1 v2 : Int} (hK0 : kd v0 = 5) (h1 : RfR v1) (h2 : RfR v2) : Go Φ pr_P fN 0 (fT_passDuties g v0 v1 v2) d (pr_P 289) 0 (ev_loc (pr_P 289).1 [(sR v0), (sR v1), (sR v2)]) [] g 0 0 := by
  show Go Φ pr_P fN 0 (fT_passDuties g v0 v1 v2) d pr_m289 0 [some (sR v0), some (sR v1), some (sR v2), none, none] [] g 0 0
  unfold fT_passDuties
  refine go_int kk289_0.1.1.1.1.1 0 rfl ?_
  refine go_istore kk289_0.1.1.1.1.2 rfl (loc2 := [some (sR v0), some (sR v1), some (sR v2), some (sI 0), none]) rfl ?_
  exact tlT_passDuties_2 hd hK0 h1 h2 fu 0 (inR_b (Or.inl rfl)) g hg none rfl
theorem tfT_adopt {Φ : ev_P} {d : Nat} (hd : 1 ≤ d) {g : gH} (hg : HR g) {v0 v1 v2 : Int} (hK0 : kd v0 = 5) (h1 : RfR v1) (h2 : RfR v2) : Go Φ pr_P fN 0 (fT_adopt g v0 v1 v2) d (pr_P 292) 0 (ev_loc (pr_P 292).1 [(sR v0), (sR v1), (sR v2)]) [] g 0 0 := by
  show Go Φ pr_P fN 0 (fT_adopt g v0 v1 v2) d pr_m292 0 [some (sR v0), some (sR v1), some (sR v2)] [] g 0 0
  unfold fT_adopt
  refine go_aload kk292_0.1.1.1.1.1 rfl ?_
  refine go_aload kk292_0.1.1.1.1.2 rfl ?_
  refine go_ck (fun q1 => ?_)
  refine go_callN0 kk292_0.1.1.1.2.1 rfl rfl rfl ⟨by decide, _, rfl, q1⟩ ⟨Nat.zero_le _, Nat.zero_le _⟩ (by omega) (tfP_putUnder (by omega) hg q1  h2) (fun y2 g4 e5 => ?_)
  refine go_aload kk292_0.1.1.1.2.2 rfl ?_
  refine go_dupR kk292_0.1.1.2.1.1 ?_
  refine go_getI (bI := 11) kk292_0.1.1.2.1.2 e5 q1 (by decide) rfl rfl (fun r6 => ?_)
  refine go_int kk292_0.1.1.2.2 1 rfl ?_
  refine go_iadd kk292_0.1.2.1.1.1 ?_
  refine go_putI (bI := 11) kk292_0.1.2.1.1.2 e5 q1 (by decide) rfl rfl (inR_w32 _) (fun g7 e8 => ?_)
  refine go_aload kk292_0.1.2.1.2 rfl ?_
  refine go_dupR kk292_0.1.2.2.1.1 ?_
  refine go_getI (bI := 7) kk292_0.1.2.2.1.2 e8 hK0 (by decide) rfl rfl (fun r9 => ?_)
  refine go_int kk292_0.1.2.2.2 1 rfl ?_
  refine go_iadd kk292_0.2.1.1.1.1 ?_
  refine go_putI (bI := 7) kk292_0.2.1.1.1.2 e8 hK0 (by decide) rfl rfl (inR_w32 _) (fun g10 e11 => ?_)
  refine go_aload kk292_0.2.1.1.2.1 rfl ?_
  refine go_aload kk292_0.2.1.1.2.2 rfl ?_
  refine go_getR (bI := 0) kk292_0.2.1.2.1.1 e11 hK0 (by decide) rfl rfl (fun r12 => ?_)
  refine go_acmp kk292_0.2.1.2.1.2 h2 r12 (fun c13 => ?_) (fun c14 => ?_)
  · refine go_aload kk292_0.2.1.2.2 rfl ?_
    refine go_dupR kk292_0.2.2.1.1.1 ?_
    refine go_getI (bI := 8) kk292_0.2.2.1.1.2 e11 hK0 (by decide) rfl rfl (fun r15 => ?_)
    refine go_int kk292_0.2.2.1.2 1 rfl ?_
    refine go_iadd kk292_0.2.2.2.1.1 ?_
    refine go_putI (bI := 8) kk292_0.2.2.2.1.2 e11 hK0 (by decide) rfl rfl (inR_w32 _) (fun g16 e17 => ?_)
    exact go_vret kk292_0.2.2.2.2 e17 ⟨Nat.zero_le _, Nat.zero_le _⟩ rfl
  · exact go_vret kk292_0.2.2.2.2 e11 ⟨Nat.zero_le _, Nat.zero_le _⟩ rfl
theorem tfT_canAdopt {Φ : ev_P} {d : Nat} (hd : 1 ≤ d) {g : gH} (hg : HR g) {v0 v1 v2 : Int} (hK0 : kd v0 = 5) (h1 : RfR v1) (h2 : RfR v2) : Go Φ pr_P (fP g) 3 (fT_canAdopt g v0 v1 v2) d (pr_P 298) 0 (ev_loc (pr_P 298).1 [(sR v0), (sR v1), (sR v2)]) [] g 0 0 := by
  show Go Φ pr_P (fP g) 3 (fT_canAdopt g v0 v1 v2) d pr_m298 0 [some (sR v0), some (sR v1), some (sR v2)] [] g 0 0
  unfold fT_canAdopt
  refine go_aload kk298_0.1.1.1.1.1 rfl ?_
  refine go_ck (fun q1 => ?_)
  refine go_callP3 kk298_0.1.1.1.1.2 rfl rfl rfl ⟨by decide, _, rfl, q1⟩ ⟨Nat.zero_le _, Nat.zero_le _⟩ (by omega) (tfP_isMortal (by omega) hg q1 ) (fun y2 r3 => ?_)
  refine go_ifeq kk298_0.1.1.1.2.1 (inR_b r3) (fun c6 => ?_) (fun c7 => ?_)
  · refine go_int kk298_0.2.1.1.1.2 0 rfl ?_
    exact go_bret kk298_0.2.1.1.2.1 hg (Or.inl rfl) ⟨Nat.zero_le _, Nat.zero_le _⟩ rfl
  · refine go_aload kk298_0.1.1.1.2.2 rfl ?_
    refine go_getB (bI := 13) kk298_0.1.1.2.1.1 hg q1 (by decide) rfl rfl (fun r8 => ?_)
    refine go_ifeq kk298_0.1.1.2.1.2 (inR_b r8) (fun c9 => ?_) (fun c10 => ?_)
    · refine go_aload kk298_0.1.1.2.2.1 rfl ?_
      refine go_aload kk298_0.1.1.2.2.2 rfl ?_
      refine go_acmp kk298_0.1.2.1.1.1 h1 h2 (fun c11 => ?_) (fun c12 => ?_)
      · refine go_int kk298_0.2.1.1.1.2 0 rfl ?_
        exact go_bret kk298_0.2.1.1.2.1 hg (Or.inl rfl) ⟨Nat.zero_le _, Nat.zero_le _⟩ rfl
      · refine go_aload kk298_0.1.2.1.1.2 rfl ?_
        refine go_aload kk298_0.1.2.1.2.1 rfl ?_
        refine go_ck (fun q13 => ?_)
        refine go_getI (bI := 5) kk298_0.1.2.1.2.2 hg q13 (by decide) rfl rfl (fun r14 => ?_)
        refine go_callP3 kk298_0.1.2.2.1.1 rfl rfl rfl ⟨by decide, _, rfl, q1⟩ ⟨Nat.zero_le _, Nat.zero_le _⟩ (by omega) (tfP_refuses (by omega) hg q1  r14) (fun y15 r16 => ?_)
        refine go_ifeq kk298_0.1.2.2.1.2 (inR_b r16) (fun c19 => ?_) (fun c20 => ?_)
        · refine go_aload kk298_0.1.2.2.2.1 rfl ?_
          refine go_callP1 kk298_0.1.2.2.2.2 rfl rfl rfl ⟨by decide, _, rfl, q1⟩ ⟨Nat.zero_le _, Nat.zero_le _⟩ (by omega) (tfP_room (by omega) hg q1 ) (fun y21 r22 => ?_)
          refine go_ifeq kk298_0.2.1.1.1.1 r22 (fun c25 => ?_) (fun c26 => ?_)
          · refine go_int kk298_0.2.1.1.1.2 0 rfl ?_
            exact go_bret kk298_0.2.1.1.2.1 hg (Or.inl rfl) ⟨Nat.zero_le _, Nat.zero_le _⟩ rfl
          · refine go_aload kk298_0.2.1.1.2.2 rfl ?_
            refine go_callP1 kk298_0.2.1.2.1.1 rfl rfl rfl ⟨by decide, _, rfl, q1⟩ ⟨Nat.zero_le _, Nat.zero_le _⟩ (by omega) (tfP_countAbove (by omega) hg q1 ) (fun y27 r28 => ?_)
            refine go_aload kk298_0.2.1.2.1.2 rfl ?_
            refine go_getI (bI := 4) kk298_0.2.1.2.2.1 hg hK0 (by decide) rfl rfl (fun r31 => ?_)
            refine go_cmlt kk298_0.2.1.2.2.2 r28 r31 (fun c32 => ?_) (fun c33 => ?_)
            · refine go_aload kk298_0.2.2.1.1.1 rfl ?_
              refine go_aload kk298_0.2.2.1.1.2 rfl ?_
              refine go_callP3 kk298_0.2.2.1.2.1 rfl rfl rfl ⟨by decide, _, rfl, q13⟩ ⟨Nat.zero_le _, Nat.zero_le _⟩ (by omega) (tfP_isOver (by omega) hg q13  h1) (fun y34 r35 => ?_)
              refine go_ifeq kk298_0.2.2.1.2.2 (inR_b r35) (fun c38 => ?_) (fun c39 => ?_)
              · refine go_int kk298_0.2.2.2.1.1 1 rfl ?_
                refine go_goto kk298_0.2.2.2.1.2 ?_
                exact go_bret kk298_0.2.2.2.2.2 hg (Or.inr rfl) ⟨Nat.zero_le _, Nat.zero_le _⟩ rfl
              · refine go_int kk298_0.2.2.2.2.1 0 rfl ?_
                exact go_bret kk298_0.2.2.2.2.2 hg (Or.inl rfl) ⟨Nat.zero_le _, Nat.zero_le _⟩ rfl
            · refine go_int kk298_0.2.2.2.2.1 0 rfl ?_
              exact go_bret kk298_0.2.2.2.2.2 hg (Or.inl rfl) ⟨Nat.zero_le _, Nat.zero_le _⟩ rfl
        · refine go_int kk298_0.2.1.1.1.2 0 rfl ?_
          exact go_bret kk298_0.2.1.1.2.1 hg (Or.inl rfl) ⟨Nat.zero_le _, Nat.zero_le _⟩ rfl
    · refine go_int kk298_0.2.1.1.1.2 0 rfl ?_
      exact go_bret kk298_0.2.1.1.2.1 hg (Or.inl rfl) ⟨Nat.zero_le _, Nat.zero_le _⟩ rfl
theorem tbT_nearest_5 {Φ : ev_P} {d : Nat} (hd : 2 ≤ d) {g : gH} (hg : HR g) {v0 v1 : Int} (hK0 : kd v0 = 5) (h1 : RfR v1) {X5 : Int → Option Int} (HX5 : ∀ (v3 : Int) (h3 : RfR v3) (u2 : Option ev_V) (w2 : nwo u2), Go Φ pr_P (fP g) 2 (X5 v3) d pr_m294 5 [some (sR v0), some (sR v1), u2, some (sR v3)] [] g 0 0) : ∀ (v3 : Int) (h3 : RfR v3) (u2 : Option ev_V) (w2 : nwo u2), Go Φ pr_P (fP g) 2 (bT_nearest_5 g v0 v1 X5 v3) d pr_m294 5 [some (sR v0), some (sR v1), u2, some (sR v3)] [] g 0 0 := by
  intro v3 h3 u2 w2
  unfold bT_nearest_5
  refine go_aload kk294_0.1.1.2.1 rfl ?_
  refine go_isnull kk294_0.1.1.2.2  (fun c3 => ?_) (fun c4 => ?_)
  · refine go_null kk294_0.2.2.2.1 ?_
    exact go_aret kk294_0.2.2.2.2 hg rfR_null ⟨Nat.zero_le _, Nat.zero_le _⟩ rfl
  · refine go_aload kk294_0.1.2.1.1 rfl ?_
    refine go_aload kk294_0.1.2.1.2 rfl ?_
    refine go_aload kk294_0.1.2.2.1 rfl ?_
    refine go_callP3 kk294_0.1.2.2.2 rfl rfl rfl ⟨by decide, _, rfl, hK0⟩ ⟨Nat.zero_le _, Nat.zero_le _⟩ (by omega) (tfT_canAdopt (by omega) hg hK0  h3 h1) (fun y5 r6 => ?_)
    refine go_ifeq kk294_0.2.1.1.1.1 (inR_b r6) (fun c9 => ?_) (fun c10 => ?_)
    · refine go_aload kk294_0.2.1.2.1 rfl ?_
      refine go_ck (fun q11 => ?_)
      refine go_getR (bI := 2) kk294_0.2.1.2.2 hg q11 (by decide) rfl rfl (fun r12 => ?_)
      refine go_astore kk294_0.2.2.1.1 w2 (loc2 := [some (sR v0), some (sR v1), u2, some (sR (g v3 2))]) rfl ?_
      refine go_goto kk294_0.2.2.1.2 ?_
      exact HX5 (g v3 2) r12 u2 w2
    · refine go_aload kk294_0.2.1.1.1.2 rfl ?_
      exact go_aret kk294_0.2.1.1.2 hg h3 ⟨Nat.zero_le _, Nat.zero_le _⟩ rfl
theorem tlT_nearest_5 {Φ : ev_P} {d : Nat} (hd : 2 ≤ d) {g : gH} (hg : HR g) {v0 v1 : Int} (hK0 : kd v0 = 5) (h1 : RfR v1) : ∀ n : Nat, ∀ (v3 : Int) (h3 : RfR v3) (u2 : Option ev_V) (w2 : nwo u2), Go Φ pr_P (fP g) 2 (lT_nearest_5 g v0 v1 n v3) d pr_m294 5 [some (sR v0), some (sR v1), u2, some (sR v3)] [] g 0 0 := by
  intro n
  induction n with
  | zero => intros; exact go_none
  | succ n ih => exact tbT_nearest_5 hd hg hK0 h1 ih
theorem tfT_nearest {Φ : ev_P} {d : Nat} (hd : 2 ≤ d) {g : gH} (hg : HR g) {v0 v1 v2 : Int} (hK0 : kd v0 = 5) (h1 : RfR v1) (h2 : RfR v2) : Go Φ pr_P (fP g) 2 (fT_nearest g v0 v1 v2) d (pr_P 294) 0 (ev_loc (pr_P 294).1 [(sR v0), (sR v1), (sR v2)]) [] g 0 0 := by
  show Go Φ pr_P (fP g) 2 (fT_nearest g v0 v1 v2) d pr_m294 0 [some (sR v0), some (sR v1), some (sR v2), none] [] g 0 0
  unfold fT_nearest
  refine go_aload kk294_0.1.1.1.1.1 rfl ?_
  refine go_ck (fun q1 => ?_)
  refine go_getR (bI := 2) kk294_0.1.1.1.1.2 hg q1 (by decide) rfl rfl (fun r2 => ?_)
  refine go_astore kk294_0.1.1.1.2 rfl (loc2 := [some (sR v0), some (sR v1), some (sR v2), some (sR (g v2 2))]) rfl ?_
  exact tlT_nearest_5 hd hg hK0 h1 fu (g v2 2) r2 (some (sR v2)) rfl
theorem tjT_roomiestFor_83 {Φ : ev_P} {d : Nat} (hd : 2 ≤ d) {X17 : Int → Int → Option Int} {g : gH} (hg : HR g) {v0 v1 v2 v3 v4 v5 v6 v7 v8 v9 : Int} (hK0 : kd v0 = 5) (h1 : RfR v1) (h2 : RfR v2) (h3 : B01 v3) (h4 : RfR v4) (h5 : RfR v5) (h6 : InR v6) (h7 : InR v7) (h8 : RfR v8) (h9 : B01 v9) {s0 : Int} (z0 : B01 s0) (HX17 : ∀ (v4 : Int) (h4 : RfR v4) (v7 : Int) (h7 : InR v7) (u8 : Option ev_V) (w8 : nwo u8) (u9 : Option ev_V) (w9 : nwo u9) (u10 : Option ev_V) (w10 : nwo u10), Go Φ pr_P (fP g) 2 (X17 v4 v7) d pr_m295 17 [some (sR v0), some (sR v1), some (sR v2), some (sI v3), some (sR v4), some (sR v5), some (sI v6), some (sI v7), u8, u9, u10] [] g 0 0) (u10 : Option ev_V) (w10 : nwo u10) : Go Φ pr_P (fP g) 2 (jT_roomiestFor_83 X17 g v0 v1 v2 v3 v4 v5 v6 v7 v8 v9 s0 ) d pr_m295 83 [some (sR v0), some (sR v1), some (sR v2), some (sI v3), some (sR v4), some (sR v5), some (sI v6), some (sI v7), some (sR v8), some (sI v9), u10] [(sI s0)] g 0 0 := by
  unfold jT_roomiestFor_83
  refine go_istore kk295_0.2.1.2.2.1.2 rfl (loc2 := [some (sR v0), some (sR v1), some (sR v2), some (sI v3), some (sR v4), some (sR v5), some (sI v6), some (sI v7), some (sR v8), some (sI v9), some (sI s0)]) rfl ?_
  refine go_iload kk295_0.2.1.2.2.2 rfl ?_
  refine go_ifeq kk295_0.2.2.1.1.1.1 (inR_b h9) (fun c32 => ?_) (fun c33 => ?_)
  · refine go_iinc kk295_0.2.2.2.1.2.2 rfl rfl 1 rfl (loc2 := [some (sR v0), some (sR v1), some (sR v2), some (sI v3), some (sR v4), some (sR v5), some (sI v6), some (sI (w32 (v7 + 1))), some (sR v8), some (sI v9), some (sI s0)]) rfl ?_
    refine go_goto kk295_0.2.2.2.2.1.1 ?_
    exact HX17 v4 h4 (w32 (v7 + 1)) (inR_w32 _) (some (sR v8)) rfl (some (sI v9)) rfl (some (sI s0)) rfl
  · refine go_iload kk295_0.2.2.1.1.1.2 rfl ?_
    refine go_ifeq kk295_0.2.2.1.1.2.1 (inR_b z0) (fun c34 => ?_) (fun c35 => ?_)
    · refine go_iinc kk295_0.2.2.2.1.2.2 rfl rfl 1 rfl (loc2 := [some (sR v0), some (sR v1), some (sR v2), some (sI v3), some (sR v4), some (sR v5), some (sI v6), some (sI (w32 (v7 + 1))), some (sR v8), some (sI v9), some (sI s0)]) rfl ?_
      refine go_goto kk295_0.2.2.2.2.1.1 ?_
      exact HX17 v4 h4 (w32 (v7 + 1)) (inR_w32 _) (some (sR v8)) rfl (some (sI v9)) rfl (some (sI s0)) rfl
    · refine go_aload kk295_0.2.2.1.1.2.2 rfl ?_
      refine go_aload kk295_0.2.2.1.2.1.1 rfl ?_
      refine go_aload kk295_0.2.2.1.2.1.2 rfl ?_
      refine go_callP3 kk295_0.2.2.1.2.2 rfl rfl rfl ⟨by decide, _, rfl, hK0⟩ ⟨Nat.zero_le _, Nat.zero_le _⟩ (by omega) (tfT_canAdopt (by omega) hg hK0  h8 h1) (fun y36 r37 => ?_)
      refine go_ifeq kk295_0.2.2.2.1.1.1 (inR_b r37) (fun c40 => ?_) (fun c41 => ?_)
      · refine go_iinc kk295_0.2.2.2.1.2.2 rfl rfl 1 rfl (loc2 := [some (sR v0), some (sR v1), some (sR v2), some (sI v3), some (sR v4), some (sR v5), some (sI v6), some (sI (w32 (v7 + 1))), some (sR v8), some (sI v9), some (sI s0)]) rfl ?_
        refine go_goto kk295_0.2.2.2.2.1.1 ?_
        exact HX17 v4 h4 (w32 (v7 + 1)) (inR_w32 _) (some (sR v8)) rfl (some (sI v9)) rfl (some (sI s0)) rfl
      · refine go_aload kk295_0.2.2.2.1.1.2 rfl ?_
        refine go_astore kk295_0.2.2.2.1.2.1 rfl (loc2 := [some (sR v0), some (sR v1), some (sR v2), some (sI v3), some (sR v8), some (sR v5), some (sI v6), some (sI v7), some (sR v8), some (sI v9), some (sI s0)]) rfl ?_
        refine go_iinc kk295_0.2.2.2.1.2.2 rfl rfl 1 rfl (loc2 := [some (sR v0), some (sR v1), some (sR v2), some (sI v3), some (sR v8), some (sR v5), some (sI v6), some (sI (w32 (v7 + 1))), some (sR v8), some (sI v9), some (sI s0)]) rfl ?_
        refine go_goto kk295_0.2.2.2.2.1.1 ?_
        exact HX17 v8 h8 (w32 (v7 + 1)) (inR_w32 _) (some (sR v8)) rfl (some (sI v9)) rfl (some (sI s0)) rfl
theorem tjT_roomiestFor_78 {Φ : ev_P} {d : Nat} (hd : 2 ≤ d) {X17 : Int → Int → Option Int} {g : gH} (hg : HR g) {v0 v1 v2 v3 v4 v5 v6 v7 v8 v9 : Int} (hK0 : kd v0 = 5) (h1 : RfR v1) (h2 : RfR v2) (h3 : B01 v3) (h4 : RfR v4) (h5 : RfR v5) (h6 : InR v6) (h7 : InR v7) (h8 : RfR v8) (h9 : B01 v9) (HX17 : ∀ (v4 : Int) (h4 : RfR v4) (v7 : Int) (h7 : InR v7) (u8 : Option ev_V) (w8 : nwo u8) (u9 : Option ev_V) (w9 : nwo u9) (u10 : Option ev_V) (w10 : nwo u10), Go Φ pr_P (fP g) 2 (X17 v4 v7) d pr_m295 17 [some (sR v0), some (sR v1), some (sR v2), some (sI v3), some (sR v4), some (sR v5), some (sI v6), some (sI v7), u8, u9, u10] [] g 0 0) (u10 : Option ev_V) (w10 : nwo u10) : Go Φ pr_P (fP g) 2 (jT_roomiestFor_78 X17 g v0 v1 v2 v3 v4 v5 v6 v7 v8 v9 ) d pr_m295 78 [some (sR v0), some (sR v1), some (sR v2), some (sI v3), some (sR v4), some (sR v5), some (sI v6), some (sI v7), some (sR v8), some (sI v9), u10] [] g 0 0 := by
  unfold jT_roomiestFor_78
  refine go_int kk295_0.2.1.2.1.2.1 1 rfl ?_
  refine go_goto kk295_0.2.1.2.1.2.2 ?_
  exact tjT_roomiestFor_83 hd hg hK0 h1 h2 h3 h4 h5 h6 h7 h8 h9 (Or.inr rfl) HX17 u10 w10
theorem tjT_roomiestFor_58 {Φ : ev_P} {d : Nat} (hd : 2 ≤ d) {X17 : Int → Int → Option Int} {g : gH} (hg : HR g) {v0 v1 v2 v3 v4 v5 v6 v7 v8 : Int} (hK0 : kd v0 = 5) (h1 : RfR v1) (h2 : RfR v2) (h3 : B01 v3) (h4 : RfR v4) (h5 : RfR v5) (h6 : InR v6) (h7 : InR v7) (h8 : RfR v8) {s0 : Int} (z0 : B01 s0) (HX17 : ∀ (v4 : Int) (h4 : RfR v4) (v7 : Int) (h7 : InR v7) (u8 : Option ev_V) (w8 : nwo u8) (u9 : Option ev_V) (w9 : nwo u9) (u10 : Option ev_V) (w10 : nwo u10), Go Φ pr_P (fP g) 2 (X17 v4 v7) d pr_m295 17 [some (sR v0), some (sR v1), some (sR v2), some (sI v3), some (sR v4), some (sR v5), some (sI v6), some (sI v7), u8, u9, u10] [] g 0 0) (u9 : Option ev_V) (w9 : nwo u9) (u10 : Option ev_V) (w10 : nwo u10) : Go Φ pr_P (fP g) 2 (jT_roomiestFor_58 X17 g v0 v1 v2 v3 v4 v5 v6 v7 v8 s0 ) d pr_m295 58 [some (sR v0), some (sR v1), some (sR v2), some (sI v3), some (sR v4), some (sR v5), some (sI v6), some (sI v7), some (sR v8), u9, u10] [(sI s0)] g 0 0 := by
  unfold jT_roomiestFor_58
  refine go_istore kk295_0.2.1.1.1.1.2 rfl (loc2 := [some (sR v0), some (sR v1), some (sR v2), some (sI v3), some (sR v4), some (sR v5), some (sI v6), some (sI v7), some (sR v8), some (sI s0), u10]) rfl ?_
  refine go_aload kk295_0.2.1.1.1.2.1 rfl ?_
  refine go_isnull kk295_0.2.1.1.1.2.2  (fun c18 => ?_) (fun c19 => ?_)
  · exact tjT_roomiestFor_78 hd hg hK0 h1 h2 h3 h4 h5 h6 h7 h8 z0 HX17 u10 w10
  · refine go_aload kk295_0.2.1.1.2.1.1 rfl ?_
    refine go_ck (fun q20 => ?_)
    refine go_callP1 kk295_0.2.1.1.2.1.2 rfl rfl rfl ⟨by decide, _, rfl, q20⟩ ⟨Nat.zero_le _, Nat.zero_le _⟩ (by omega) (tfP_room (by omega) hg q20 ) (fun y21 r22 => ?_)
    refine go_aload kk295_0.2.1.1.2.2 rfl ?_
    refine go_ck (fun q25 => ?_)
    refine go_callP1 kk295_0.2.1.2.1.1.1 rfl rfl rfl ⟨by decide, _, rfl, q25⟩ ⟨Nat.zero_le _, Nat.zero_le _⟩ (by omega) (tfP_room (by omega) hg q25 ) (fun y26 r27 => ?_)
    refine go_cmgt kk295_0.2.1.2.1.1.2 r22 r27 (fun c30 => ?_) (fun c31 => ?_)
    · exact tjT_roomiestFor_78 hd hg hK0 h1 h2 h3 h4 h5 h6 h7 h8 z0 HX17 u10 w10
    · refine go_int kk295_0.2.1.2.2.1.1 0 rfl ?_
      exact tjT_roomiestFor_83 hd hg hK0 h1 h2 h3 h4 h5 h6 h7 h8 z0 (Or.inl rfl) HX17 u10 w10
theorem tjT_roomiestFor_57 {Φ : ev_P} {d : Nat} (hd : 2 ≤ d) {X17 : Int → Int → Option Int} {g : gH} (hg : HR g) {v0 v1 v2 v3 v4 v5 v6 v7 v8 : Int} (hK0 : kd v0 = 5) (h1 : RfR v1) (h2 : RfR v2) (h3 : B01 v3) (h4 : RfR v4) (h5 : RfR v5) (h6 : InR v6) (h7 : InR v7) (h8 : RfR v8) (HX17 : ∀ (v4 : Int) (h4 : RfR v4) (v7 : Int) (h7 : InR v7) (u8 : Option ev_V) (w8 : nwo u8) (u9 : Option ev_V) (w9 : nwo u9) (u10 : Option ev_V) (w10 : nwo u10), Go Φ pr_P (fP g) 2 (X17 v4 v7) d pr_m295 17 [some (sR v0), some (sR v1), some (sR v2), some (sI v3), some (sR v4), some (sR v5), some (sI v6), some (sI v7), u8, u9, u10] [] g 0 0) (u9 : Option ev_V) (w9 : nwo u9) (u10 : Option ev_V) (w10 : nwo u10) : Go Φ pr_P (fP g) 2 (jT_roomiestFor_57 X17 g v0 v1 v2 v3 v4 v5 v6 v7 v8 ) d pr_m295 57 [some (sR v0), some (sR v1), some (sR v2), some (sI v3), some (sR v4), some (sR v5), some (sI v6), some (sI v7), some (sR v8), u9, u10] [] g 0 0 := by
  unfold jT_roomiestFor_57
  refine go_int kk295_0.2.1.1.1.1.1 0 rfl ?_
  exact tjT_roomiestFor_58 hd hg hK0 h1 h2 h3 h4 h5 h6 h7 h8 (Or.inl rfl) HX17 u9 w9 u10 w10
theorem tjT_roomiestFor_53 {Φ : ev_P} {d : Nat} (hd : 2 ≤ d) {X17 : Int → Int → Option Int} {g : gH} (hg : HR g) {v0 v1 v2 v3 v4 v5 v6 v7 v8 : Int} (hK0 : kd v0 = 5) (h1 : RfR v1) (h2 : RfR v2) (h3 : B01 v3) (h4 : RfR v4) (h5 : RfR v5) (h6 : InR v6) (h7 : InR v7) (h8 : RfR v8) (HX17 : ∀ (v4 : Int) (h4 : RfR v4) (v7 : Int) (h7 : InR v7) (u8 : Option ev_V) (w8 : nwo u8) (u9 : Option ev_V) (w9 : nwo u9) (u10 : Option ev_V) (w10 : nwo u10), Go Φ pr_P (fP g) 2 (X17 v4 v7) d pr_m295 17 [some (sR v0), some (sR v1), some (sR v2), some (sI v3), some (sR v4), some (sR v5), some (sI v6), some (sI v7), u8, u9, u10] [] g 0 0) (u9 : Option ev_V) (w9 : nwo u9) (u10 : Option ev_V) (w10 : nwo u10) : Go Φ pr_P (fP g) 2 (jT_roomiestFor_53 X17 g v0 v1 v2 v3 v4 v5 v6 v7 v8 ) d pr_m295 53 [some (sR v0), some (sR v1), some (sR v2), some (sI v3), some (sR v4), some (sR v5), some (sI v6), some (sI v7), some (sR v8), u9, u10] [] g 0 0 := by
  unfold jT_roomiestFor_53
  refine go_int kk295_0.1.2.2.2.1.2 1 rfl ?_
  refine go_goto kk295_0.1.2.2.2.2 ?_
  exact tjT_roomiestFor_58 hd hg hK0 h1 h2 h3 h4 h5 h6 h7 h8 (Or.inr rfl) HX17 u9 w9 u10 w10
theorem tbT_roomiestFor_17 {Φ : ev_P} {d : Nat} (hd : 2 ≤ d) {g : gH} (hg : HR g) {v0 v1 v2 v3 v5 v6 : Int} (hK0 : kd v0 = 5) (h1 : RfR v1) (h2 : RfR v2) (h3 : B01 v3) (h5 : RfR v5) (h6 : InR v6) {X17 : Int → Int → Option Int} (HX17 : ∀ (v4 : Int) (h4 : RfR v4) (v7 : Int) (h7 : InR v7) (u8 : Option ev_V) (w8 : nwo u8) (u9 : Option ev_V) (w9 : nwo u9) (u10 : Option ev_V) (w10 : nwo u10), Go Φ pr_P (fP g) 2 (X17 v4 v7) d pr_m295 17 [some (sR v0), some (sR v1), some (sR v2), some (sI v3), some (sR v4), some (sR v5), some (sI v6), some (sI v7), u8, u9, u10] [] g 0 0) : ∀ (v4 : Int) (h4 : RfR v4) (v7 : Int) (h7 : InR v7) (u8 : Option ev_V) (w8 : nwo u8) (u9 : Option ev_V) (w9 : nwo u9) (u10 : Option ev_V) (w10 : nwo u10), Go Φ pr_P (fP g) 2 (bT_roomiestFor_17 g v0 v1 v2 v3 v5 v6 X17 v4 v7) d pr_m295 17 [some (sR v0), some (sR v1), some (sR v2), some (sI v3), some (sR v4), some (sR v5), some (sI v6), some (sI v7), u8, u9, u10] [] g 0 0 := by
  intro v4 h4 v7 h7 u8 w8 u9 w9 u10 w10
  unfold bT_roomiestFor_17
  refine go_iload kk295_0.1.1.2.1.2.1 rfl ?_
  refine go_iload kk295_0.1.1.2.1.2.2 rfl ?_
  refine go_cmlt kk295_0.1.1.2.2.1.1 h7 h6 (fun c4 => ?_) (fun c5 => ?_)
  · refine go_aload kk295_0.1.1.2.2.1.2 rfl ?_
    refine go_iload kk295_0.1.1.2.2.2 rfl ?_
    refine go_ck (fun q7 => ?_)
    refine go_pald kk295_0.1.2.1.1.1.1 hg q7 (fun r6 => ?_)
    refine go_astore kk295_0.1.2.1.1.1.2 rfl (loc2 := [some (sR v0), some (sR v1), some (sR v2), some (sI v3), some (sR v4), some (sR v5), some (sI v6), some (sI v7), some (sR (g v5 v7)), u9, u10]) rfl ?_
    refine go_aload kk295_0.1.2.1.1.2.1 rfl ?_
    refine go_aload kk295_0.1.2.1.1.2.2 rfl ?_
    refine go_acmp kk295_0.1.2.1.2.1.1 r6 h2 (fun c8 => ?_) (fun c9 => ?_)
    · exact tjT_roomiestFor_57 hd hg hK0 h1 h2 h3 h4 h5 h6 h7 r6 HX17 u9 w9 u10 w10
    · refine go_iload kk295_0.1.2.1.2.1.2 rfl ?_
      refine go_ifeq kk295_0.1.2.1.2.2 (inR_b h3) (fun c10 => ?_) (fun c11 => ?_)
      · exact tjT_roomiestFor_53 hd hg hK0 h1 h2 h3 h4 h5 h6 h7 r6 HX17 u9 w9 u10 w10
      · refine go_aload kk295_0.1.2.2.1.1.1 rfl ?_
        refine go_ck (fun q12 => ?_)
        refine go_getI (bI := 5) kk295_0.1.2.2.1.1.2 hg q12 (by decide) rfl rfl (fun r13 => ?_)
        refine go_aload kk295_0.1.2.2.1.2.1 rfl ?_
        refine go_ck (fun q14 => ?_)
        refine go_getI (bI := 5) kk295_0.1.2.2.1.2.2 hg q14 (by decide) rfl rfl (fun r15 => ?_)
        refine go_cmeq kk295_0.1.2.2.2.1.1 r13 r15 (fun c16 => ?_) (fun c17 => ?_)
        · exact tjT_roomiestFor_53 hd hg hK0 h1 h2 h3 h4 h5 h6 h7 r6 HX17 u9 w9 u10 w10
        · exact tjT_roomiestFor_57 hd hg hK0 h1 h2 h3 h4 h5 h6 h7 r6 HX17 u9 w9 u10 w10
  · refine go_aload kk295_0.2.2.2.2.1.2 rfl ?_
    exact go_aret kk295_0.2.2.2.2.2 hg h4 ⟨Nat.zero_le _, Nat.zero_le _⟩ rfl
theorem tlT_roomiestFor_17 {Φ : ev_P} {d : Nat} (hd : 2 ≤ d) {g : gH} (hg : HR g) {v0 v1 v2 v3 v5 v6 : Int} (hK0 : kd v0 = 5) (h1 : RfR v1) (h2 : RfR v2) (h3 : B01 v3) (h5 : RfR v5) (h6 : InR v6) : ∀ n : Nat, ∀ (v4 : Int) (h4 : RfR v4) (v7 : Int) (h7 : InR v7) (u8 : Option ev_V) (w8 : nwo u8) (u9 : Option ev_V) (w9 : nwo u9) (u10 : Option ev_V) (w10 : nwo u10), Go Φ pr_P (fP g) 2 (lT_roomiestFor_17 g v0 v1 v2 v3 v5 v6 n v4 v7) d pr_m295 17 [some (sR v0), some (sR v1), some (sR v2), some (sI v3), some (sR v4), some (sR v5), some (sI v6), some (sI v7), u8, u9, u10] [] g 0 0 := by
  intro n
  induction n with
  | zero => intros; exact go_none
  | succ n ih => exact tbT_roomiestFor_17 hd hg hK0 h1 h2 h3 h5 h6 ih
theorem tfT_roomiestFor {Φ : ev_P} {d : Nat} (hd : 2 ≤ d) {g : gH} (hg : HR g) {v0 v1 v2 v3 : Int} (hK0 : kd v0 = 5) (h1 : RfR v1) (h2 : RfR v2) (h3 : B01 v3) : Go Φ pr_P (fP g) 2 (fT_roomiestFor g v0 v1 v2 v3) d (pr_P 295) 0 (ev_loc (pr_P 295).1 [(sR v0), (sR v1), (sR v2), (sI v3)]) [] g 0 0 := by
  show Go Φ pr_P (fP g) 2 (fT_roomiestFor g v0 v1 v2 v3) d pr_m295 0 [some (sR v0), some (sR v1), some (sR v2), some (sI v3), none, none, none, none, none, none, none] [] g 0 0
  unfold fT_roomiestFor
  refine go_null kk295_0.1.1.1.1.1.1 ?_
  refine go_astore kk295_0.1.1.1.1.1.2 rfl (loc2 := [some (sR v0), some (sR v1), some (sR v2), some (sI v3), some (sR (-1)), none, none, none, none, none, none]) rfl ?_
  refine go_aload kk295_0.1.1.1.1.2.1 rfl ?_
  refine go_getR (bI := 1) kk295_0.1.1.1.1.2.2 hg hK0 (by decide) rfl rfl (fun r1 => ?_)
  refine go_astore kk295_0.1.1.1.2.1.1 rfl (loc2 := [some (sR v0), some (sR v1), some (sR v2), some (sI v3), some (sR (-1)), some (sR (g v0 1)), none, none, none, none, none]) rfl ?_
  refine go_aload kk295_0.1.1.1.2.1.2 rfl ?_
  refine go_ck (fun q3 => ?_)
  refine go_alen kk295_0.1.1.1.2.2.1 (ka_24 q3) (fun r2 => ?_)
  refine go_istore kk295_0.1.1.1.2.2.2 rfl (loc2 := [some (sR v0), some (sR v1), some (sR v2), some (sI v3), some (sR (-1)), some (sR (g v0 1)), some (sI (sz (g v0 1))), none, none, none, none]) rfl ?_
  refine go_int kk295_0.1.1.2.1.1.1 0 rfl ?_
  refine go_istore kk295_0.1.1.2.1.1.2 rfl (loc2 := [some (sR v0), some (sR v1), some (sR v2), some (sI v3), some (sR (-1)), some (sR (g v0 1)), some (sI (sz (g v0 1))), some (sI 0), none, none, none]) rfl ?_
  exact tlT_roomiestFor_17 hd hg hK0 h1 h2 h3 r1 r2 fu (-1) rfR_null 0 (inR_b (Or.inl rfl)) none rfl none rfl none rfl
theorem tbT_firstKin_19 {Φ : ev_P} {d : Nat} (hd : 2 ≤ d) {g : gH} (hg : HR g) {v0 v1 v2 v3 v4 v5 : Int} (hK0 : kd v0 = 5) (h1 : RfR v1) (h2 : RfR v2) (h3 : RfR v3) (h4 : RfR v4) (h5 : InR v5) {X19 : Int → Option Int} (HX19 : ∀ (v6 : Int) (h6 : InR v6) (u7 : Option ev_V) (w7 : nwo u7), Go Φ pr_P (fP g) 2 (X19 v6) d pr_m296 19 [some (sR v0), some (sR v1), some (sR v2), some (sR v3), some (sR v4), some (sI v5), some (sI v6), u7] [] g 0 0) : ∀ (v6 : Int) (h6 : InR v6) (u7 : Option ev_V) (w7 : nwo u7), Go Φ pr_P (fP g) 2 (bT_firstKin_19 g v0 v1 v2 v3 v4 v5 X19 v6) d pr_m296 19 [some (sR v0), some (sR v1), some (sR v2), some (sR v3), some (sR v4), some (sI v5), some (sI v6), u7] [] g 0 0 := by
  intro v6 h6 u7 w7
  unfold bT_firstKin_19
  refine go_iload kk296_0.1.2.1.1.1.2 rfl ?_
  refine go_iload kk296_0.1.2.1.1.2 rfl ?_
  refine go_cmlt kk296_0.1.2.1.2.1 h6 h5 (fun c6 => ?_) (fun c7 => ?_)
  · refine go_aload kk296_0.1.2.1.2.2 rfl ?_
    refine go_iload kk296_0.1.2.2.1.1 rfl ?_
    refine go_ck (fun q9 => ?_)
    refine go_pald kk296_0.1.2.2.1.2 hg q9 (fun r8 => ?_)
    refine go_astore kk296_0.1.2.2.2.1 rfl (loc2 := [some (sR v0), some (sR v1), some (sR v2), some (sR v3), some (sR v4), some (sI v5), some (sI v6), some (sR (g v4 v6))]) rfl ?_
    refine go_aload kk296_0.1.2.2.2.2 rfl ?_
    refine go_isnull kk296_0.2.1.1.1.1.1  (fun c10 => ?_) (fun c11 => ?_)
    · refine go_iinc kk296_0.2.2.2.1.1 rfl rfl 1 rfl (loc2 := [some (sR v0), some (sR v1), some (sR v2), some (sR v3), some (sR v4), some (sI v5), some (sI (w32 (v6 + 1))), some (sR (g v4 v6))]) rfl ?_
      refine go_goto kk296_0.2.2.2.1.2 ?_
      exact HX19 (w32 (v6 + 1)) (inR_w32 _) (some (sR (g v4 v6))) rfl
    · refine go_aload kk296_0.2.1.1.1.1.2 rfl ?_
      refine go_aload kk296_0.2.1.1.1.2 rfl ?_
      refine go_acmp kk296_0.2.1.1.2.1 r8 h2 (fun c12 => ?_) (fun c13 => ?_)
      · refine go_iinc kk296_0.2.2.2.1.1 rfl rfl 1 rfl (loc2 := [some (sR v0), some (sR v1), some (sR v2), some (sR v3), some (sR v4), some (sI v5), some (sI (w32 (v6 + 1))), some (sR (g v4 v6))]) rfl ?_
        refine go_goto kk296_0.2.2.2.1.2 ?_
        exact HX19 (w32 (v6 + 1)) (inR_w32 _) (some (sR (g v4 v6))) rfl
      · refine go_aload kk296_0.2.1.1.2.2 rfl ?_
        refine go_aload kk296_0.2.1.2.1.1.1 rfl ?_
        refine go_ck (fun q14 => ?_)
        refine go_callP3 kk296_0.2.1.2.1.1.2 rfl rfl rfl ⟨by decide, _, rfl, q14⟩ ⟨Nat.zero_le _, Nat.zero_le _⟩ (by omega) (tfP_isRunningChildOf (by omega) hg q14  h3) (fun y15 r16 => ?_)
        refine go_ifeq kk296_0.2.1.2.1.2 (inR_b r16) (fun c19 => ?_) (fun c20 => ?_)
        · refine go_iinc kk296_0.2.2.2.1.1 rfl rfl 1 rfl (loc2 := [some (sR v0), some (sR v1), some (sR v2), some (sR v3), some (sR v4), some (sI v5), some (sI (w32 (v6 + 1))), some (sR (g v4 v6))]) rfl ?_
          refine go_goto kk296_0.2.2.2.1.2 ?_
          exact HX19 (w32 (v6 + 1)) (inR_w32 _) (some (sR (g v4 v6))) rfl
        · refine go_aload kk296_0.2.1.2.2.1 rfl ?_
          refine go_aload kk296_0.2.1.2.2.2 rfl ?_
          refine go_aload kk296_0.2.2.1.1.1.1 rfl ?_
          refine go_callP3 kk296_0.2.2.1.1.1.2 rfl rfl rfl ⟨by decide, _, rfl, hK0⟩ ⟨Nat.zero_le _, Nat.zero_le _⟩ (by omega) (tfT_canAdopt (by omega) hg hK0  r8 h1) (fun y21 r22 => ?_)
          refine go_ifeq kk296_0.2.2.1.1.2 (inR_b r22) (fun c25 => ?_) (fun c26 => ?_)
          · refine go_iinc kk296_0.2.2.2.1.1 rfl rfl 1 rfl (loc2 := [some (sR v0), some (sR v1), some (sR v2), some (sR v3), some (sR v4), some (sI v5), some (sI (w32 (v6 + 1))), some (sR (g v4 v6))]) rfl ?_
            refine go_goto kk296_0.2.2.2.1.2 ?_
            exact HX19 (w32 (v6 + 1)) (inR_w32 _) (some (sR (g v4 v6))) rfl
          · refine go_aload kk296_0.2.2.1.2.1 rfl ?_
            exact go_aret kk296_0.2.2.1.2.2 hg r8 ⟨Nat.zero_le _, Nat.zero_le _⟩ rfl
  · refine go_null kk296_0.2.2.2.2.1 ?_
    exact go_aret kk296_0.2.2.2.2.2 hg rfR_null ⟨Nat.zero_le _, Nat.zero_le _⟩ rfl
theorem tlT_firstKin_19 {Φ : ev_P} {d : Nat} (hd : 2 ≤ d) {g : gH} (hg : HR g) {v0 v1 v2 v3 v4 v5 : Int} (hK0 : kd v0 = 5) (h1 : RfR v1) (h2 : RfR v2) (h3 : RfR v3) (h4 : RfR v4) (h5 : InR v5) : ∀ n : Nat, ∀ (v6 : Int) (h6 : InR v6) (u7 : Option ev_V) (w7 : nwo u7), Go Φ pr_P (fP g) 2 (lT_firstKin_19 g v0 v1 v2 v3 v4 v5 n v6) d pr_m296 19 [some (sR v0), some (sR v1), some (sR v2), some (sR v3), some (sR v4), some (sI v5), some (sI v6), u7] [] g 0 0 := by
  intro n
  induction n with
  | zero => intros; exact go_none
  | succ n ih => exact tbT_firstKin_19 hd hg hK0 h1 h2 h3 h4 h5 ih
theorem tfT_firstKin {Φ : ev_P} {d : Nat} (hd : 2 ≤ d) {g : gH} (hg : HR g) {v0 v1 v2 : Int} (hK0 : kd v0 = 5) (h1 : RfR v1) (h2 : RfR v2) : Go Φ pr_P (fP g) 2 (fT_firstKin g v0 v1 v2) d (pr_P 296) 0 (ev_loc (pr_P 296).1 [(sR v0), (sR v1), (sR v2)]) [] g 0 0 := by
  show Go Φ pr_P (fP g) 2 (fT_firstKin g v0 v1 v2) d pr_m296 0 [some (sR v0), some (sR v1), some (sR v2), none, none, none, none, none] [] g 0 0
  unfold fT_firstKin
  refine go_aload kk296_0.1.1.1.1.1.1 rfl ?_
  refine go_ck (fun q1 => ?_)
  refine go_getR (bI := 2) kk296_0.1.1.1.1.1.2 hg q1 (by decide) rfl rfl (fun r2 => ?_)
  refine go_astore kk296_0.1.1.1.1.2 rfl (loc2 := [some (sR v0), some (sR v1), some (sR v2), some (sR (g v2 2)), none, none, none, none]) rfl ?_
  refine go_aload kk296_0.1.1.1.2.1 rfl ?_
  refine go_getR (bI := 1) kk296_0.1.1.1.2.2 hg hK0 (by decide) rfl rfl (fun r3 => ?_)
  refine go_astore kk296_0.1.1.2.1.1.1 rfl (loc2 := [some (sR v0), some (sR v1), some (sR v2), some (sR (g v2 2)), some (sR (g v0 1)), none, none, none]) rfl ?_
  refine go_aload kk296_0.1.1.2.1.1.2 rfl ?_
  refine go_ck (fun q5 => ?_)
  refine go_alen kk296_0.1.1.2.1.2 (ka_24 q5) (fun r4 => ?_)
  refine go_istore kk296_0.1.1.2.2.1 rfl (loc2 := [some (sR v0), some (sR v1), some (sR v2), some (sR (g v2 2)), some (sR (g v0 1)), some (sI (sz (g v0 1))), none, none]) rfl ?_
  refine go_int kk296_0.1.1.2.2.2 0 rfl ?_
  refine go_istore kk296_0.1.2.1.1.1.1 rfl (loc2 := [some (sR v0), some (sR v1), some (sR v2), some (sR (g v2 2)), some (sR (g v0 1)), some (sI (sz (g v0 1))), some (sI 0), none]) rfl ?_
  exact tlT_firstKin_19 hd hg hK0 h1 h2 r2 r3 r4 fu 0 (inR_b (Or.inl rfl)) none rfl
