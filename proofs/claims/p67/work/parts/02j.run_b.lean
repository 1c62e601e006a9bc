/-! ===== the evaluator comes to what the functions tell (own work, by program: wip/p67/gen/dec.py) ===== -/
theorem tfC_named {Φ : ev_P} {d : Nat} (hd : 1 ≤ d) {g : gH} (hg : HR g) {v0 v1 : Int} (hK0 : kd v0 = 6) (h1 : InR v1) : Go Φ pr_P (fQ g) 2 (fC_named g v0 v1) d (pr_P 22) 0 (ev_loc (pr_P 22).1 [(sR v0), (sI v1)]) [] g 0 0 := by
  show Go Φ pr_P (fQ g) 2 (fC_named g v0 v1) d pr_m22 0 [some (sR v0), some (sI v1), none] [] g 0 0
  unfold fC_named
  refine go_aload kk22_0.1.1.1.1 rfl ?_
  refine go_getR (bI := 0) kk22_0.1.1.1.2 hg hK0 (by decide) rfl rfl (fun r1 => ?_)
  refine go_iload kk22_0.1.1.2 rfl ?_
  refine go_ck (fun q2 => ?_)
  refine go_callP2 kk22_0.1.2.1 rfl rfl rfl ⟨by decide, _, rfl, q2⟩ ⟨Nat.zero_le _, Nat.zero_le _⟩ (by omega) (tfT_at (by omega) hg q2  h1) (fun y3 r4 => ?_)
  refine go_astore kk22_0.1.2.2 rfl (loc2 := [some (sR v0), some (sI v1), some (sR y3)]) rfl ?_
  refine go_aload kk22_0.2.1.1.1 rfl ?_
  refine go_isnull kk22_0.2.1.1.2  (fun c7 => ?_) (fun c8 => ?_)
  · exact go_thr (Nat.succ_ne_zero _)
  · refine go_aload kk22_0.2.2.1 rfl ?_
    exact go_aret kk22_0.2.2.2 hg r4 ⟨Nat.zero_le _, Nat.zero_le _⟩ rfl
theorem tfC_numberOf {Φ : ev_P} {d : Nat} (hd : 0 ≤ d) {g : gH} (hg : HR g) {v0 : Int} (h0 : RfR v0) : Go Φ pr_P (fP g) 1 (fC_numberOf g v0) d (pr_P 25) 0 (ev_loc (pr_P 25).1 [(sR v0)]) [] g 0 0 := by
  show Go Φ pr_P (fP g) 1 (fC_numberOf g v0) d pr_m25 0 [some (sR v0)] [] g 0 0
  unfold fC_numberOf
  refine go_aload kk25_0.1.1.1 rfl ?_
  refine go_isnull kk25_0.1.1.2  (fun c1 => ?_) (fun c2 => ?_)
  · refine go_int kk25_0.1.2.1 (-1) rfl ?_
    refine go_goto kk25_0.1.2.2 ?_
    exact go_iret kk25_0.2.2 hg (inR_of (by decide)) ⟨Nat.zero_le _, Nat.zero_le _⟩ rfl
  · refine go_aload kk25_0.2.1.1 rfl ?_
    refine go_ck (fun q3 => ?_)
    refine go_getI (bI := 0) kk25_0.2.1.2 hg q3 (by decide) rfl rfl (fun r4 => ?_)
    exact go_iret kk25_0.2.2 hg r4 ⟨Nat.zero_le _, Nat.zero_le _⟩ rfl
theorem tbP_willMask_4 {Φ : ev_P} {d : Nat} (hd : 1 ≤ d) {g : gH} (hg : HR g) {v0 : Int} (hK0 : kd v0 = 3) {X4 : Int → Int → Option Int} (HX4 : ∀ (v1 : Int) (h1 : InR v1) (v2 : Int) (h2 : InR v2), Go Φ pr_P (fP g) 1 (X4 v1 v2) d pr_m49 4 [some (sR v0), some (sI v1), some (sI v2)] [] g 0 0) : ∀ (v1 : Int) (h1 : InR v1) (v2 : Int) (h2 : InR v2), Go Φ pr_P (fP g) 1 (bP_willMask_4 g v0 X4 v1 v2) d pr_m49 4 [some (sR v0), some (sI v1), some (sI v2)] [] g 0 0 := by
  intro v1 h1 v2 h2
  unfold bP_willMask_4
  refine go_iload kk49_0.1.1.2.1.2 rfl ?_
  refine go_int kk49_0.1.1.2.2 8 rfl ?_
  refine go_cmlt kk49_0.1.2.1.1.1 h2 (inR_of (by decide)) (fun c1 => ?_) (fun c2 => ?_)
  · refine go_aload kk49_0.1.2.1.1.2 rfl ?_
    refine go_iload kk49_0.1.2.1.2 rfl ?_
    refine go_callP1 kk49_0.1.2.2.1 rfl rfl rfl ⟨by decide, _, rfl, hK0⟩ ⟨Nat.zero_le _, Nat.zero_le _⟩ (by omega) (tfP_willFor (by omega) hg hK0  h2) (fun y3 r4 => ?_)
    refine go_int kk49_0.1.2.2.2 (-1) rfl ?_
    refine go_cmeq kk49_0.2.1.1.1.1 r4 (inR_of (by decide)) (fun c7 => ?_) (fun c8 => ?_)
    · refine go_iinc kk49_0.2.2.1.1.2 rfl rfl 1 rfl (loc2 := [some (sR v0), some (sI v1), some (sI (w32 (v2 + 1)))]) rfl ?_
      refine go_goto kk49_0.2.2.1.2 ?_
      exact HX4 v1 h1 (w32 (v2 + 1)) (inR_w32 _)
    · refine go_iload kk49_0.2.1.1.1.2 rfl ?_
      refine go_int kk49_0.2.1.1.2 1 rfl ?_
      refine go_iload kk49_0.2.1.2.1.1 rfl ?_
      refine go_ibin kk49_0.2.1.2.1.2 ?_
      refine go_ibin kk49_0.2.1.2.2 ?_
      refine go_istore kk49_0.2.2.1.1.1 rfl (loc2 := [some (sR v0), some (sI (opI 2 v1 (opI 4 1 v2))), some (sI v2)]) rfl ?_
      refine go_iinc kk49_0.2.2.1.1.2 rfl rfl 1 rfl (loc2 := [some (sR v0), some (sI (opI 2 v1 (opI 4 1 v2))), some (sI (w32 (v2 + 1)))]) rfl ?_
      refine go_goto kk49_0.2.2.1.2 ?_
      exact HX4 (opI 2 v1 (opI 4 1 v2)) (inR_opI _ _ _) (w32 (v2 + 1)) (inR_w32 _)
  · refine go_iload kk49_0.2.2.2.1 rfl ?_
    exact go_iret kk49_0.2.2.2.2 hg h1 ⟨Nat.zero_le _, Nat.zero_le _⟩ rfl
theorem tlP_willMask_4 {Φ : ev_P} {d : Nat} (hd : 1 ≤ d) {g : gH} (hg : HR g) {v0 : Int} (hK0 : kd v0 = 3) : ∀ n : Nat, ∀ (v1 : Int) (h1 : InR v1) (v2 : Int) (h2 : InR v2), Go Φ pr_P (fP g) 1 (lP_willMask_4 g v0 n v1 v2) d pr_m49 4 [some (sR v0), some (sI v1), some (sI v2)] [] g 0 0 := by
  intro n
  induction n with
  | zero => intros; exact go_none
  | succ n ih => exact tbP_willMask_4 hd hg hK0 ih
theorem tfP_willMask {Φ : ev_P} {d : Nat} (hd : 1 ≤ d) {g : gH} (hg : HR g) {v0 : Int} (hK0 : kd v0 = 3) : Go Φ pr_P (fP g) 1 (fP_willMask g v0) d (pr_P 49) 0 (ev_loc (pr_P 49).1 [(sR v0)]) [] g 0 0 := by
  show Go Φ pr_P (fP g) 1 (fP_willMask g v0) d pr_m49 0 [some (sR v0), none, none] [] g 0 0
  unfold fP_willMask
  refine go_int kk49_0.1.1.1.1.1 0 rfl ?_
  refine go_istore kk49_0.1.1.1.1.2 rfl (loc2 := [some (sR v0), some (sI 0), none]) rfl ?_
  refine go_int kk49_0.1.1.1.2 0 rfl ?_
  refine go_istore kk49_0.1.1.2.1.1 rfl (loc2 := [some (sR v0), some (sI 0), some (sI 0)]) rfl ?_
  exact tlP_willMask_4 hd hg hK0 fu 0 (inR_b (Or.inl rfl)) 0 (inR_b (Or.inl rfl))
theorem tfP_isZombieOf {Φ : ev_P} {d : Nat} (hd : 0 ≤ d) {g : gH} (hg : HR g) {v0 v1 : Int} (hK0 : kd v0 = 3) (h1 : RfR v1) : Go Φ pr_P (fP g) 3 (fP_isZombieOf g v0 v1) d (pr_P 40) 0 (ev_loc (pr_P 40).1 [(sR v0), (sR v1)]) [] g 0 0 := by
  show Go Φ pr_P (fP g) 3 (fP_isZombieOf g v0 v1) d pr_m40 0 [some (sR v0), some (sR v1)] [] g 0 0
  unfold fP_isZombieOf
  refine go_aload kk40_0.1.1.1.1 rfl ?_
  refine go_getI (bI := 1) kk40_0.1.1.1.2 hg hK0 (by decide) rfl rfl (fun r1 => ?_)
  refine go_int kk40_0.1.1.2 1 rfl ?_
  refine go_cmeq kk40_0.1.2.1.1 r1 (inR_b (Or.inr rfl)) (fun c2 => ?_) (fun c3 => ?_)
  · refine go_aload kk40_0.1.2.1.2 rfl ?_
    refine go_getR (bI := 2) kk40_0.1.2.2 hg hK0 (by decide) rfl rfl (fun r4 => ?_)
    refine go_aload kk40_0.2.1.1.1 rfl ?_
    refine go_acmp kk40_0.2.1.1.2 r4 h1 (fun c5 => ?_) (fun c6 => ?_)
    · refine go_int kk40_0.2.1.2 1 rfl ?_
      refine go_goto kk40_0.2.2.1.1 ?_
      exact go_bret kk40_0.2.2.2 hg (Or.inr rfl) ⟨Nat.zero_le _, Nat.zero_le _⟩ rfl
    · refine go_int kk40_0.2.2.1.2 0 rfl ?_
      exact go_bret kk40_0.2.2.2 hg (Or.inl rfl) ⟨Nat.zero_le _, Nat.zero_le _⟩ rfl
  · refine go_int kk40_0.2.2.1.2 0 rfl ?_
    exact go_bret kk40_0.2.2.2 hg (Or.inl rfl) ⟨Nat.zero_le _, Nat.zero_le _⟩ rfl
theorem tbT_countZombiesOf_14 {Φ : ev_P} {d : Nat} (hd : 1 ≤ d) {g : gH} (hg : HR g) {v1 v3 v4 : Int} (h1 : RfR v1) (h3 : RfR v3) (h4 : InR v4) {X14 : Int → Int → Option Int} (HX14 : ∀ (v2 : Int) (h2 : InR v2) (v5 : Int) (h5 : InR v5) (u0 : Option ev_V) (w0 : nwo u0) (u6 : Option ev_V) (w6 : nwo u6), Go Φ pr_P (fP g) 1 (X14 v2 v5) d pr_m77 14 [u0, some (sR v1), some (sI v2), some (sR v3), some (sI v4), some (sI v5), u6] [] g 0 0) : ∀ (v2 : Int) (h2 : InR v2) (v5 : Int) (h5 : InR v5) (u0 : Option ev_V) (w0 : nwo u0) (u6 : Option ev_V) (w6 : nwo u6), Go Φ pr_P (fP g) 1 (bT_countZombiesOf_14 g v1 v3 v4 X14 v2 v5) d pr_m77 14 [u0, some (sR v1), some (sI v2), some (sR v3), some (sI v4), some (sI v5), u6] [] g 0 0 := by
  intro v2 h2 v5 h5 u0 w0 u6 w6
  unfold bT_countZombiesOf_14
  refine go_iload kk77_0.1.2.2.1.1 rfl ?_
  refine go_iload kk77_0.1.2.2.1.2 rfl ?_
  refine go_cmlt kk77_0.1.2.2.2 h5 h4 (fun c4 => ?_) (fun c5 => ?_)
  · refine go_aload kk77_0.2.1.1.1.1 rfl ?_
    refine go_iload kk77_0.2.1.1.1.2 rfl ?_
    refine go_ck (fun q7 => ?_)
    refine go_pald kk77_0.2.1.1.2.1 hg q7 (fun r6 => ?_)
    refine go_astore kk77_0.2.1.1.2.2 rfl (loc2 := [u0, some (sR v1), some (sI v2), some (sR v3), some (sI v4), some (sI v5), some (sR (g v3 v5))]) rfl ?_
    refine go_aload kk77_0.2.1.2.1.1 rfl ?_
    refine go_aload kk77_0.2.1.2.1.2 rfl ?_
    refine go_ck (fun q8 => ?_)
    refine go_callP3 kk77_0.2.1.2.2 rfl rfl rfl ⟨by decide, _, rfl, q8⟩ ⟨Nat.zero_le _, Nat.zero_le _⟩ (by omega) (tfP_isZombieOf (by omega) hg q8  h1) (fun y9 r10 => ?_)
    refine go_ifeq kk77_0.2.2.1.1.1 (inR_b r10) (fun c13 => ?_) (fun c14 => ?_)
    · refine go_iinc kk77_0.2.2.1.2 rfl rfl 1 rfl (loc2 := [u0, some (sR v1), some (sI v2), some (sR v3), some (sI v4), some (sI (w32 (v5 + 1))), some (sR (g v3 v5))]) rfl ?_
      refine go_goto kk77_0.2.2.2.1.1 ?_
      exact HX14 v2 h2 (w32 (v5 + 1)) (inR_w32 _) u0 w0 (some (sR (g v3 v5))) rfl
    · refine go_iinc kk77_0.2.2.1.1.2 rfl rfl 1 rfl (loc2 := [u0, some (sR v1), some (sI (w32 (v2 + 1))), some (sR v3), some (sI v4), some (sI v5), some (sR (g v3 v5))]) rfl ?_
      refine go_iinc kk77_0.2.2.1.2 rfl rfl 1 rfl (loc2 := [u0, some (sR v1), some (sI (w32 (v2 + 1))), some (sR v3), some (sI v4), some (sI (w32 (v5 + 1))), some (sR (g v3 v5))]) rfl ?_
      refine go_goto kk77_0.2.2.2.1.1 ?_
      exact HX14 (w32 (v2 + 1)) (inR_w32 _) (w32 (v5 + 1)) (inR_w32 _) u0 w0 (some (sR (g v3 v5))) rfl
  · refine go_iload kk77_0.2.2.2.1.2 rfl ?_
    exact go_iret kk77_0.2.2.2.2 hg h2 ⟨Nat.zero_le _, Nat.zero_le _⟩ rfl
theorem tlT_countZombiesOf_14 {Φ : ev_P} {d : Nat} (hd : 1 ≤ d) {g : gH} (hg : HR g) {v1 v3 v4 : Int} (h1 : RfR v1) (h3 : RfR v3) (h4 : InR v4) : ∀ n : Nat, ∀ (v2 : Int) (h2 : InR v2) (v5 : Int) (h5 : InR v5) (u0 : Option ev_V) (w0 : nwo u0) (u6 : Option ev_V) (w6 : nwo u6), Go Φ pr_P (fP g) 1 (lT_countZombiesOf_14 g v1 v3 v4 n v2 v5) d pr_m77 14 [u0, some (sR v1), some (sI v2), some (sR v3), some (sI v4), some (sI v5), u6] [] g 0 0 := by
  intro n
  induction n with
  | zero => intros; exact go_none
  | succ n ih => exact tbT_countZombiesOf_14 hd hg h1 h3 h4 ih
theorem tfT_countZombiesOf {Φ : ev_P} {d : Nat} (hd : 1 ≤ d) {g : gH} (hg : HR g) {v0 v1 : Int} (hK0 : kd v0 = 5) (h1 : RfR v1) : Go Φ pr_P (fP g) 1 (fT_countZombiesOf g v0 v1) d (pr_P 77) 0 (ev_loc (pr_P 77).1 [(sR v0), (sR v1)]) [] g 0 0 := by
  show Go Φ pr_P (fP g) 1 (fT_countZombiesOf g v0 v1) d pr_m77 0 [some (sR v0), some (sR v1), none, none, none, none, none] [] g 0 0
  unfold fT_countZombiesOf
  refine go_int kk77_0.1.1.1.1.1 0 rfl ?_
  refine go_istore kk77_0.1.1.1.1.2 rfl (loc2 := [some (sR v0), some (sR v1), some (sI 0), none, none, none, none]) rfl ?_
  refine go_aload kk77_0.1.1.1.2.1 rfl ?_
  refine go_getR (bI := 1) kk77_0.1.1.1.2.2 hg hK0 (by decide) rfl rfl (fun r1 => ?_)
  refine go_astore kk77_0.1.1.2.1.1 rfl (loc2 := [some (sR v0), some (sR v1), some (sI 0), some (sR (g v0 1)), none, none, none]) rfl ?_
  refine go_aload kk77_0.1.1.2.1.2 rfl ?_
  refine go_ck (fun q3 => ?_)
  refine go_alen kk77_0.1.1.2.2 (ka_24 q3) r1 (fun r2 => ?_)
  refine go_istore kk77_0.1.2.1.1.1 rfl (loc2 := [some (sR v0), some (sR v1), some (sI 0), some (sR (g v0 1)), some (sI (sz (g v0 1))), none, none]) rfl ?_
  refine go_int kk77_0.1.2.1.1.2 0 rfl ?_
  refine go_istore kk77_0.1.2.1.2 rfl (loc2 := [some (sR v0), some (sR v1), some (sI 0), some (sR (g v0 1)), some (sI (sz (g v0 1))), some (sI 0), none]) rfl ?_
  exact tlT_countZombiesOf_14 hd hg h1 r1 r2 fu 0 (inR_b (Or.inl rfl)) 0 (inR_b (Or.inl rfl)) (some (sR v0)) rfl none rfl
theorem tfC_process {Φ : ev_P} {d : Nat} (hd : 2 ≤ d) {g : gH} (hg : HR g) {v0 v1 v2 : Int} (hK0 : kd v0 = 6) (h1 : InR v1) (h2 : InR v2) : Go Φ pr_P (fQ g) 1 (fC_process g v0 v1 v2) d (pr_P 5) 0 (ev_loc (pr_P 5).1 [(sR v0), (sI v1), (sI v2)]) [] g 0 0 := by
  show Go Φ pr_P (fQ g) 1 (fC_process g v0 v1 v2) d pr_m5 0 [some (sR v0), some (sI v1), some (sI v2), none] [] g 0 0
  unfold fC_process
  refine go_aload kk5_0.1.1.1.1.1.1 rfl ?_
  refine go_iload kk5_0.1.1.1.1.1.2 rfl ?_
  refine go_callQ2 kk5_0.1.1.1.1.2.1 rfl rfl rfl ⟨by decide, _, rfl, hK0⟩ ⟨Nat.zero_le _, Nat.zero_le _⟩ (by omega) (tfC_named (by omega) hg hK0  h1) (fun y1 r2 => ?_) ge_qq
  refine go_astore kk5_0.1.1.1.1.2.2 rfl (loc2 := [some (sR v0), some (sI v1), some (sI v2), some (sR y1)]) rfl ?_
  refine go_iload kk5_0.1.1.1.2.1.1 rfl ?_
  refine go_ite (fun c7 => ?_) (fun c8 => ?_)
  · refine go_swh (lo := 0) (hi := 14) (i := 0) kk5_0.1.1.1.2.1.2 rfl rfl (by omega) (by omega) rfl ?_
    refine go_aload kk5_0.1.1.1.2.2.1 rfl ?_
    refine go_ck (fun q9 => ?_)
    refine go_getR (bI := 2) kk5_0.1.1.1.2.2.2 hg q9 (by decide) rfl rfl (fun r10 => ?_)
    refine go_callP1 kk5_0.1.1.2.1.1.1 rfl rfl rfl trivial ⟨Nat.zero_le _, Nat.zero_le _⟩ (by omega) (tfC_numberOf (by omega) hg  r10) (fun y11 r12 => ?_)
    exact go_iret kk5_0.1.1.2.1.1.2 hg r12 ⟨Nat.zero_le _, Nat.zero_le _⟩ rfl
  refine go_ite (fun c15 => ?_) (fun c16 => ?_)
  · refine go_swh (lo := 0) (hi := 14) (i := 1) kk5_0.1.1.1.2.1.2 rfl rfl (by omega) (by omega) rfl ?_
    refine go_aload kk5_0.1.1.2.1.2.1 rfl ?_
    refine go_ck (fun q17 => ?_)
    refine go_getI (bI := 4) kk5_0.1.1.2.1.2.2 hg q17 (by decide) rfl rfl (fun r18 => ?_)
    exact go_iret kk5_0.1.1.2.2.1.1 hg r18 ⟨Nat.zero_le _, Nat.zero_le _⟩ rfl
  refine go_ite (fun c19 => ?_) (fun c20 => ?_)
  · refine go_swh (lo := 0) (hi := 14) (i := 2) kk5_0.1.1.1.2.1.2 rfl rfl (by omega) (by omega) rfl ?_
    refine go_aload kk5_0.1.1.2.2.1.2 rfl ?_
    refine go_ck (fun q21 => ?_)
    refine go_callP1 kk5_0.1.1.2.2.2 rfl rfl rfl ⟨by decide, _, rfl, q21⟩ ⟨Nat.zero_le _, Nat.zero_le _⟩ (by omega) (tfP_room (by omega) hg q21 ) (fun y22 r23 => ?_)
    exact go_iret kk5_0.1.2.1.1.1.1 hg r23 ⟨Nat.zero_le _, Nat.zero_le _⟩ rfl
  refine go_ite (fun c26 => ?_) (fun c27 => ?_)
  · refine go_swh (lo := 0) (hi := 14) (i := 3) kk5_0.1.1.1.2.1.2 rfl rfl (by omega) (by omega) rfl ?_
    refine go_aload kk5_0.1.2.1.1.1.2 rfl ?_
    refine go_ck (fun q28 => ?_)
    refine go_getI (bI := 3) kk5_0.1.2.1.1.2.1 hg q28 (by decide) rfl rfl (fun r29 => ?_)
    exact go_iret kk5_0.1.2.1.1.2.2 hg r29 ⟨Nat.zero_le _, Nat.zero_le _⟩ rfl
  refine go_ite (fun c30 => ?_) (fun c31 => ?_)
  · refine go_swh (lo := 0) (hi := 14) (i := 4) kk5_0.1.1.1.2.1.2 rfl rfl (by omega) (by omega) rfl ?_
    refine go_aload kk5_0.1.2.1.2.1.1 rfl ?_
    refine go_getR (bI := 0) kk5_0.1.2.1.2.1.2 hg hK0 (by decide) rfl rfl (fun r32 => ?_)
    refine go_aload kk5_0.1.2.1.2.2 rfl ?_
    refine go_ck (fun q33 => ?_)
    refine go_callP1 kk5_0.1.2.2.1.1.1 rfl rfl rfl ⟨by decide, _, rfl, q33⟩ ⟨Nat.zero_le _, Nat.zero_le _⟩ (by omega) (tfT_countZombiesOf (by omega) hg q33  r2) (fun y34 r35 => ?_)
    exact go_iret kk5_0.1.2.2.1.1.2 hg r35 ⟨Nat.zero_le _, Nat.zero_le _⟩ rfl
  refine go_ite (fun c38 => ?_) (fun c39 => ?_)
  · refine go_swh (lo := 0) (hi := 14) (i := 5) kk5_0.1.1.1.2.1.2 rfl rfl (by omega) (by omega) rfl ?_
    refine go_aload kk5_0.1.2.2.1.2.1 rfl ?_
    refine go_ck (fun q40 => ?_)
    refine go_getI (bI := 1) kk5_0.1.2.2.1.2.2 hg q40 (by decide) rfl rfl (fun r41 => ?_)
    exact go_iret kk5_0.1.2.2.2.1.1 hg r41 ⟨Nat.zero_le _, Nat.zero_le _⟩ rfl
  refine go_ite (fun c42 => ?_) (fun c43 => ?_)
  · refine go_swh (lo := 0) (hi := 14) (i := 6) kk5_0.1.1.1.2.1.2 rfl rfl (by omega) (by omega) rfl ?_
    refine go_aload kk5_0.1.2.2.2.1.2 rfl ?_
    refine go_ck (fun q44 => ?_)
    refine go_getI (bI := 5) kk5_0.1.2.2.2.2 hg q44 (by decide) rfl rfl (fun r45 => ?_)
    exact go_iret kk5_0.2.1.1.1.1.1 hg r45 ⟨Nat.zero_le _, Nat.zero_le _⟩ rfl
  refine go_ite (fun c46 => ?_) (fun c47 => ?_)
  · refine go_swh (lo := 0) (hi := 14) (i := 7) kk5_0.1.1.1.2.1.2 rfl rfl (by omega) (by omega) rfl ?_
    refine go_aload kk5_0.2.1.1.1.1.2 rfl ?_
    refine go_ck (fun q48 => ?_)
    refine go_getI (bI := 6) kk5_0.2.1.1.1.2.1 hg q48 (by decide) rfl rfl (fun r49 => ?_)
    exact go_iret kk5_0.2.1.1.1.2.2 hg r49 ⟨Nat.zero_le _, Nat.zero_le _⟩ rfl
  refine go_ite (fun c50 => ?_) (fun c51 => ?_)
  · refine go_swh (lo := 0) (hi := 14) (i := 8) kk5_0.1.1.1.2.1.2 rfl rfl (by omega) (by omega) rfl ?_
    refine go_aload kk5_0.2.1.1.2.1.1 rfl ?_
    refine go_ck (fun q52 => ?_)
    refine go_getI (bI := 7) kk5_0.2.1.1.2.1.2 hg q52 (by decide) rfl rfl (fun r53 => ?_)
    exact go_iret kk5_0.2.1.1.2.2 hg r53 ⟨Nat.zero_le _, Nat.zero_le _⟩ rfl
  refine go_ite (fun c54 => ?_) (fun c55 => ?_)
  · refine go_swh (lo := 0) (hi := 14) (i := 9) kk5_0.1.1.1.2.1.2 rfl rfl (by omega) (by omega) rfl ?_
    refine go_aload kk5_0.2.1.2.1.1.1 rfl ?_
    refine go_getR (bI := 0) kk5_0.2.1.2.1.1.2 hg hK0 (by decide) rfl rfl (fun r56 => ?_)
    refine go_aload kk5_0.2.1.2.1.2.1 rfl ?_
    refine go_ck (fun q57 => ?_)
    refine go_callP1 kk5_0.2.1.2.1.2.2 rfl rfl rfl ⟨by decide, _, rfl, q57⟩ ⟨Nat.zero_le _, Nat.zero_le _⟩ (by omega) (tfT_dutiesOf (by omega) hg q57  r2) (fun y58 r59 => ?_)
    exact go_iret kk5_0.2.1.2.2.1.1 hg r59 ⟨Nat.zero_le _, Nat.zero_le _⟩ rfl
  refine go_ite (fun c62 => ?_) (fun c63 => ?_)
  · refine go_swh (lo := 0) (hi := 14) (i := 10) kk5_0.1.1.1.2.1.2 rfl rfl (by omega) (by omega) rfl ?_
    refine go_aload kk5_0.2.1.2.2.1.2 rfl ?_
    refine go_ck (fun q64 => ?_)
    refine go_getI (bI := 9) kk5_0.2.1.2.2.2 hg q64 (by decide) rfl rfl (fun r65 => ?_)
    exact go_iret kk5_0.2.2.1.1.1.1 hg r65 ⟨Nat.zero_le _, Nat.zero_le _⟩ rfl
  refine go_ite (fun c66 => ?_) (fun c67 => ?_)
  · refine go_swh (lo := 0) (hi := 14) (i := 11) kk5_0.1.1.1.2.1.2 rfl rfl (by omega) (by omega) rfl ?_
    refine go_aload kk5_0.2.2.1.1.1.2 rfl ?_
    refine go_ck (fun q68 => ?_)
    refine go_getI (bI := 8) kk5_0.2.2.1.1.2.1 hg q68 (by decide) rfl rfl (fun r69 => ?_)
    exact go_iret kk5_0.2.2.1.1.2.2 hg r69 ⟨Nat.zero_le _, Nat.zero_le _⟩ rfl
  refine go_ite (fun c70 => ?_) (fun c71 => ?_)
  · refine go_swh (lo := 0) (hi := 14) (i := 12) kk5_0.1.1.1.2.1.2 rfl rfl (by omega) (by omega) rfl ?_
    refine go_aload kk5_0.2.2.1.2.1.1 rfl ?_
    refine go_ck (fun q72 => ?_)
    refine go_getI (bI := 11) kk5_0.2.2.1.2.1.2 hg q72 (by decide) rfl rfl (fun r73 => ?_)
    exact go_iret kk5_0.2.2.1.2.2 hg r73 ⟨Nat.zero_le _, Nat.zero_le _⟩ rfl
  refine go_ite (fun c74 => ?_) (fun c75 => ?_)
  · refine go_swh (lo := 0) (hi := 14) (i := 13) kk5_0.1.1.1.2.1.2 rfl rfl (by omega) (by omega) rfl ?_
    refine go_aload kk5_0.2.2.2.1.1.1 rfl ?_
    refine go_ck (fun q76 => ?_)
    refine go_getI (bI := 12) kk5_0.2.2.2.1.1.2 hg q76 (by decide) rfl rfl (fun r77 => ?_)
    exact go_iret kk5_0.2.2.2.1.2.1 hg r77 ⟨Nat.zero_le _, Nat.zero_le _⟩ rfl
  refine go_ite (fun c78 => ?_) (fun c79 => ?_)
  · refine go_swh (lo := 0) (hi := 14) (i := 14) kk5_0.1.1.1.2.1.2 rfl rfl (by omega) (by omega) rfl ?_
    refine go_aload kk5_0.2.2.2.1.2.2 rfl ?_
    refine go_ck (fun q80 => ?_)
    refine go_callP1 kk5_0.2.2.2.2.1.1 rfl rfl rfl ⟨by decide, _, rfl, q80⟩ ⟨Nat.zero_le _, Nat.zero_le _⟩ (by omega) (tfP_willMask (by omega) hg q80 ) (fun y81 r82 => ?_)
    exact go_iret kk5_0.2.2.2.2.1.2 hg r82 ⟨Nat.zero_le _, Nat.zero_le _⟩ rfl
  refine go_swd (lo := 0) (hi := 14) kk5_0.1.1.1.2.1.2 rfl rfl h2 (by omega) (by omega) ?_
  exact go_thr (Nat.succ_ne_zero _)
theorem tfC_checkState {Φ : ev_P} {d : Nat} (hd : 0 ≤ d) {g : gH} (hg : HR g) {v0 : Int} (h0 : B01 v0) : Go Φ pr_P (fQ g) 0 (fC_checkState g v0) d (pr_P 24) 0 (ev_loc (pr_P 24).1 [(sI v0)]) [] g 0 0 := by
  show Go Φ pr_P (fQ g) 0 (fC_checkState g v0) d pr_m24 0 [some (sI v0)] [] g 0 0
  unfold fC_checkState
  refine go_iload kk24_0.1.1 rfl ?_
  refine go_ifeq kk24_0.1.2 (inR_b h0) (fun c1 => ?_) (fun c2 => ?_)
  · exact go_thr (Nat.succ_ne_zero _)
  · exact go_vret kk24_0.2.2 hg ⟨Nat.zero_le _, Nat.zero_le _⟩ rfl
theorem tbP_countAbove_7 {Φ : ev_P} {d : Nat} (hd : 0 ≤ d) {g : gH} (hg : HR g) {X7 : Int → Int → Option Int} (HX7 : ∀ (v1 : Int) (h1 : InR v1) (v2 : Int) (h2 : RfR v2) (u0 : Option ev_V) (w0 : nwo u0), Go Φ pr_P (fP g) 1 (X7 v1 v2) d pr_m44 7 [u0, some (sI v1), some (sR v2)] [] g 0 0) : ∀ (v1 : Int) (h1 : InR v1) (v2 : Int) (h2 : RfR v2) (u0 : Option ev_V) (w0 : nwo u0), Go Φ pr_P (fP g) 1 (bP_countAbove_7 g X7 v1 v2) d pr_m44 7 [u0, some (sI v1), some (sR v2)] [] g 0 0 := by
  intro v1 h1 v2 h2 u0 w0
  unfold bP_countAbove_7
  refine go_aload kk44_0.1.2.1.2 rfl ?_
  refine go_isnull kk44_0.1.2.2  (fun c2 => ?_) (fun c3 => ?_)
  · refine go_iload kk44_0.2.2.1.2 rfl ?_
    exact go_iret kk44_0.2.2.2 hg h1 ⟨Nat.zero_le _, Nat.zero_le _⟩ rfl
  · refine go_iinc kk44_0.2.1.1.1 rfl w0 1 rfl (loc2 := [u0, some (sI (w32 (v1 + 1))), some (sR v2)]) rfl ?_
    refine go_aload kk44_0.2.1.1.2 rfl ?_
    refine go_ck (fun q4 => ?_)
    refine go_getR (bI := 2) kk44_0.2.1.2.1 hg q4 (by decide) rfl rfl (fun r5 => ?_)
    refine go_astore kk44_0.2.1.2.2 rfl (loc2 := [u0, some (sI (w32 (v1 + 1))), some (sR (g v2 2))]) rfl ?_
    refine go_goto kk44_0.2.2.1.1 ?_
    exact HX7 (w32 (v1 + 1)) (inR_w32 _) (g v2 2) r5 u0 w0
theorem tlP_countAbove_7 {Φ : ev_P} {d : Nat} (hd : 0 ≤ d) {g : gH} (hg : HR g) : ∀ n : Nat, ∀ (v1 : Int) (h1 : InR v1) (v2 : Int) (h2 : RfR v2) (u0 : Option ev_V) (w0 : nwo u0), Go Φ pr_P (fP g) 1 (lP_countAbove_7 g n v1 v2) d pr_m44 7 [u0, some (sI v1), some (sR v2)] [] g 0 0 := by
  intro n
  induction n with
  | zero => intros; exact go_none
  | succ n ih => exact tbP_countAbove_7 hd hg ih
theorem tfP_countAbove {Φ : ev_P} {d : Nat} (hd : 0 ≤ d) {g : gH} (hg : HR g) {v0 : Int} (hK0 : kd v0 = 3) : Go Φ pr_P (fP g) 1 (fP_countAbove g v0) d (pr_P 44) 0 (ev_loc (pr_P 44).1 [(sR v0)]) [] g 0 0 := by
  show Go Φ pr_P (fP g) 1 (fP_countAbove g v0) d pr_m44 0 [some (sR v0), none, none] [] g 0 0
  unfold fP_countAbove
  refine go_int kk44_0.1.1.1.1 0 rfl ?_
  refine go_istore kk44_0.1.1.1.2 rfl (loc2 := [some (sR v0), some (sI 0), none]) rfl ?_
  refine go_aload kk44_0.1.1.2.1 rfl ?_
  refine go_getR (bI := 2) kk44_0.1.1.2.2 hg hK0 (by decide) rfl rfl (fun r1 => ?_)
  refine go_astore kk44_0.1.2.1.1 rfl (loc2 := [some (sR v0), some (sI 0), some (sR (g v0 2))]) rfl ?_
  exact tlP_countAbove_7 hd hg fu 0 (inR_b (Or.inl rfl)) (g v0 2) r1 (some (sR v0)) rfl
theorem tfC_depth {Φ : ev_P} {d : Nat} (hd : 2 ≤ d) {g : gH} (hg : HR g) {v0 v1 : Int} (hK0 : kd v0 = 6) (h1 : InR v1) : Go Φ pr_P (fQ g) 1 (fC_depth g v0 v1) d (pr_P 6) 0 (ev_loc (pr_P 6).1 [(sR v0), (sI v1)]) [] g 0 0 := by
  show Go Φ pr_P (fQ g) 1 (fC_depth g v0 v1) d pr_m6 0 [some (sR v0), some (sI v1), none] [] g 0 0
  unfold fC_depth
  refine go_aload kk6_0.1.1.1.1 rfl ?_
  refine go_iload kk6_0.1.1.1.2 rfl ?_
  refine go_callQ2 kk6_0.1.1.2.1 rfl rfl rfl ⟨by decide, _, rfl, hK0⟩ ⟨Nat.zero_le _, Nat.zero_le _⟩ (by omega) (tfC_named (by omega) hg hK0  h1) (fun y1 r2 => ?_) ge_qq
  refine go_astore kk6_0.1.1.2.2 rfl (loc2 := [some (sR v0), some (sI v1), some (sR y1)]) rfl ?_
  refine go_aload kk6_0.1.2.1.1 rfl ?_
  refine go_ck (fun q7 => ?_)
  refine go_getI (bI := 1) kk6_0.1.2.1.2 hg q7 (by decide) rfl rfl (fun r8 => ?_)
  refine go_int kk6_0.1.2.2.1 2 rfl ?_
  refine go_cmeq kk6_0.1.2.2.2 r8 (inR_of (by decide)) (fun c9 => ?_) (fun c10 => ?_)
  · refine go_int kk6_0.2.1.2.1 0 rfl ?_
    refine go_callQ0 kk6_0.2.1.2.2 rfl rfl rfl trivial ⟨Nat.zero_le _, Nat.zero_le _⟩ (by omega) (tfC_checkState (by omega) hg  (Or.inl rfl)) (fun y11 => ?_) ge_qq
    refine go_aload kk6_0.2.2.1.1 rfl ?_
    refine go_callP1 kk6_0.2.2.1.2 rfl rfl rfl ⟨by decide, _, rfl, q7⟩ ⟨Nat.zero_le _, Nat.zero_le _⟩ (by omega) (tfP_countAbove (by omega) hg q7 ) (fun y17 r18 => ?_)
    exact go_iret kk6_0.2.2.2 hg r18 ⟨Nat.zero_le _, Nat.zero_le _⟩ rfl
  · refine go_int kk6_0.2.1.1.1 1 rfl ?_
    refine go_goto kk6_0.2.1.1.2 ?_
    refine go_callQ0 kk6_0.2.1.2.2 rfl rfl rfl trivial ⟨Nat.zero_le _, Nat.zero_le _⟩ (by omega) (tfC_checkState (by omega) hg  (Or.inr rfl)) (fun y21 => ?_) ge_qq
    refine go_aload kk6_0.2.2.1.1 rfl ?_
    refine go_callP1 kk6_0.2.2.1.2 rfl rfl rfl ⟨by decide, _, rfl, q7⟩ ⟨Nat.zero_le _, Nat.zero_le _⟩ (by omega) (tfP_countAbove (by omega) hg q7 ) (fun y27 r28 => ?_)
    exact go_iret kk6_0.2.2.2 hg r28 ⟨Nat.zero_le _, Nat.zero_le _⟩ rfl
theorem tfC_checkRange {Φ : ev_P} {d : Nat} (hd : 0 ≤ d) {g : gH} (hg : HR g) {v0 v1 : Int} (h0 : InR v0) (h1 : InR v1) : Go Φ pr_P (fQ g) 0 (fC_checkRange g v0 v1) d (pr_P 23) 0 (ev_loc (pr_P 23).1 [(sI v0), (sI v1)]) [] g 0 0 := by
  show Go Φ pr_P (fQ g) 0 (fC_checkRange g v0 v1) d pr_m23 0 [some (sI v0), some (sI v1)] [] g 0 0
  unfold fC_checkRange
  refine go_iload kk23_0.1.1.1 rfl ?_
  refine go_iflt kk23_0.1.1.2 h0 (fun c1 => ?_) (fun c2 => ?_)
  · exact go_thr (Nat.succ_ne_zero _)
  · refine go_iload kk23_0.1.2.1 rfl ?_
    refine go_iload kk23_0.1.2.2 rfl ?_
    refine go_cmgt kk23_0.2.1.1 h0 h1 (fun c3 => ?_) (fun c4 => ?_)
    · exact go_thr (Nat.succ_ne_zero _)
    · exact go_vret kk23_0.2.2 hg ⟨Nat.zero_le _, Nat.zero_le _⟩ rfl
theorem tjH_push_21 {Φ : ev_P} {d : Nat} (hd : 2 ≤ d) {g : gH} (hg : HR g) {v0 v1 : Int} (hK0 : kd v0 = 0) (h1 : RfR v1) : Go Φ pr_P fN 0 (jH_push_21 g v0 v1 ) d pr_m29 21 [some (sR v0), some (sR v1)] [] g 0 0 := by
  unfold jH_push_21
  refine go_aload kk29_0.1.2.1.1.2 rfl ?_
  refine go_getR (bI := 0) kk29_0.1.2.1.2.1 hg hK0 (by decide) rfl rfl (fun r9 => ?_)
  refine go_aload kk29_0.1.2.1.2.2 rfl ?_
  refine go_getI (bI := 2) kk29_0.1.2.2.1.1 hg hK0 (by decide) rfl rfl (fun r10 => ?_)
  refine go_ck (fun q12 => ?_)
  refine go_tald kk29_0.1.2.2.1.2 hg q12 (fun r11 => ?_)
  refine go_aload kk29_0.1.2.2.2.1 rfl ?_
  refine go_ck (fun q13 => ?_)
  refine go_callN0 kk29_0.1.2.2.2.2 rfl rfl rfl ⟨by decide, _, rfl, q13⟩ ⟨Nat.zero_le _, Nat.zero_le _⟩ (by omega) (tfT_take (by omega) hg q13  h1) (fun y14 g16 e17 => ?_)
  refine go_aload kk29_0.2.1.1.1.1.1 rfl ?_
  refine go_dupR kk29_0.2.1.1.1.1.2 ?_
  refine go_getI (bI := 2) kk29_0.2.1.1.1.2 e17 hK0 (by decide) rfl rfl (fun r18 => ?_)
  refine go_int kk29_0.2.1.1.2.1 1 rfl ?_
  refine go_iadd kk29_0.2.1.1.2.2 ?_
  refine go_putI (bI := 2) kk29_0.2.1.2.1.1 e17 hK0 (by decide) rfl rfl (inR_w32 _) (fun g19 e20 => ?_)
  refine go_aload kk29_0.2.1.2.1.2 rfl ?_
  refine go_getI (bI := 1) kk29_0.2.1.2.2.1 e20 hK0 (by decide) rfl rfl (fun r21 => ?_)
  refine go_int kk29_0.2.1.2.2.2 10 rfl ?_
  refine go_cmlt kk29_0.2.2.1.1.1 r21 (inR_of (by decide)) (fun c22 => ?_) (fun c23 => ?_)
  · refine go_aload kk29_0.2.2.1.1.2 rfl ?_
    refine go_dupR kk29_0.2.2.1.2.1 ?_
    refine go_getI (bI := 1) kk29_0.2.2.1.2.2 e20 hK0 (by decide) rfl rfl (fun r24 => ?_)
    refine go_int kk29_0.2.2.2.1.1 1 rfl ?_
    refine go_iadd kk29_0.2.2.2.1.2 ?_
    refine go_putI (bI := 1) kk29_0.2.2.2.2.1 e20 hK0 (by decide) rfl rfl (inR_w32 _) (fun g25 e26 => ?_)
    exact go_vret kk29_0.2.2.2.2.2 e26 ⟨Nat.zero_le _, Nat.zero_le _⟩ rfl
  · exact go_vret kk29_0.2.2.2.2.2 e20 ⟨Nat.zero_le _, Nat.zero_le _⟩ rfl
theorem tjH_push_16 {Φ : ev_P} {d : Nat} (hd : 2 ≤ d) {g : gH} (hg : HR g) {v0 v1 : Int} (hK0 : kd v0 = 0) (h1 : RfR v1) : Go Φ pr_P fN 0 (jH_push_16 g v0 v1 ) d pr_m29 16 [some (sR v0), some (sR v1)] [] g 0 0 := by
  unfold jH_push_16
  refine go_aload kk29_0.1.1.2.2.1 rfl ?_
  refine go_int kk29_0.1.1.2.2.2 0 rfl ?_
  refine go_putI (bI := 2) kk29_0.1.2.1.1.1 hg hK0 (by decide) rfl rfl (inR_b (Or.inl rfl)) (fun g7 e8 => ?_)
  exact tjH_push_21 hd e8 hK0 h1
theorem tfH_push {Φ : ev_P} {d : Nat} (hd : 2 ≤ d) {g : gH} (hg : HR g) {v0 v1 : Int} (hK0 : kd v0 = 0) (h1 : RfR v1) : Go Φ pr_P fN 0 (fH_push g v0 v1) d (pr_P 29) 0 (ev_loc (pr_P 29).1 [(sR v0), (sR v1)]) [] g 0 0 := by
  show Go Φ pr_P fN 0 (fH_push g v0 v1) d pr_m29 0 [some (sR v0), some (sR v1)] [] g 0 0
  unfold fH_push
  refine go_aload kk29_0.1.1.1.1.1.1 rfl ?_
  refine go_getI (bI := 2) kk29_0.1.1.1.1.1.2 hg hK0 (by decide) rfl rfl (fun r1 => ?_)
  refine go_iflt kk29_0.1.1.1.1.2 r1 (fun c2 => ?_) (fun c3 => ?_)
  · exact tjH_push_16 hd hg hK0 h1
  · refine go_aload kk29_0.1.1.1.2.1 rfl ?_
    refine go_getI (bI := 2) kk29_0.1.1.1.2.2 hg hK0 (by decide) rfl rfl (fun r4 => ?_)
    refine go_int kk29_0.1.1.2.1.1 10 rfl ?_
    refine go_cmlt kk29_0.1.1.2.1.2 r4 (inR_of (by decide)) (fun c5 => ?_) (fun c6 => ?_)
    · exact tjH_push_21 hd hg hK0 h1
    · exact tjH_push_16 hd hg hK0 h1
theorem tjC_spawn_51 {Φ : ev_P} {d : Nat} (hd : 3 ≤ d) {g : gH} (hg : HR g) {v0 v2 v3 v4 v5 : Int} (hK0 : kd v0 = 6) (h2 : InR v2) (h3 : InR v3) (h4 : InR v4) (h5 : RfR v5) {s0 : Int} (z0 : B01 s0) (u1 : Option ev_V) (w1 : nwo u1) : Go Φ pr_P fT 1 (jC_spawn_51 g v0 v2 v3 v4 v5 s0 ) d pr_m7 51 [some (sR v0), u1, some (sI v2), some (sI v3), some (sI v4), some (sR v5)] [(sI s0)] g 0 0 := by
  unfold jC_spawn_51
  refine go_callQ0 kk7_0.2.1.1.2.2 rfl rfl rfl trivial ⟨Nat.zero_le _, Nat.zero_le _⟩ (by omega) (tfC_checkState (by omega) hg  z0) (fun y37 => ?_) ge_qt
  refine go_aload kk7_0.2.1.2.1.1.1 rfl ?_
  refine go_getR (bI := 3) kk7_0.2.1.2.1.1.2 hg hK0 (by decide) rfl rfl (fun r43 => ?_)
  refine go_aload kk7_0.2.1.2.1.2 rfl ?_
  refine go_getR (bI := 0) kk7_0.2.1.2.2.1 hg hK0 (by decide) rfl rfl (fun r44 => ?_)
  refine go_ck (fun q45 => ?_)
  refine go_callN0 kk7_0.2.1.2.2.2 rfl rfl rfl ⟨by decide, _, rfl, q45⟩ ⟨Nat.zero_le _, Nat.zero_le _⟩ (by omega) (tfH_push (by omega) hg q45  r44) (fun y46 g48 e49 => ?_)
  refine go_aload kk7_0.2.2.1.1.1.1 rfl ?_
  refine go_getR (bI := 0) kk7_0.2.2.1.1.1.2 e49 hK0 (by decide) rfl rfl (fun r50 => ?_)
  refine go_aload kk7_0.2.2.1.1.2 rfl ?_
  refine go_iload kk7_0.2.2.1.2.1 rfl ?_
  refine go_iload kk7_0.2.2.1.2.2 rfl ?_
  refine go_iload kk7_0.2.2.2.1.1 rfl ?_
  refine go_ck (fun q51 => ?_)
  refine go_callN2 kk7_0.2.2.2.1.2 rfl rfl rfl ⟨by decide, _, rfl, q51⟩ ⟨Nat.zero_le _, Nat.zero_le _⟩ (by omega) (tfT_arrive (by omega) e49 q51  h5 h2 h3 h4) (fun y52 g54 r53 e55 => ?_)
  refine go_callP1 kk7_0.2.2.2.2.1 rfl rfl rfl trivial ⟨Nat.zero_le _, Nat.zero_le _⟩ (by omega) (tfC_numberOf (by omega) e55  r53) (fun y56 r57 => ?_)
  exact go_iret kk7_0.2.2.2.2.2 e55 r57 ⟨Nat.zero_le _, Nat.zero_le _⟩ rfl
theorem tjC_spawn_50 {Φ : ev_P} {d : Nat} (hd : 3 ≤ d) {g : gH} (hg : HR g) {v0 v2 v3 v4 v5 : Int} (hK0 : kd v0 = 6) (h2 : InR v2) (h3 : InR v3) (h4 : InR v4) (h5 : RfR v5) (u1 : Option ev_V) (w1 : nwo u1) : Go Φ pr_P fT 1 (jC_spawn_50 g v0 v2 v3 v4 v5 ) d pr_m7 50 [some (sR v0), u1, some (sI v2), some (sI v3), some (sI v4), some (sR v5)] [] g 0 0 := by
  unfold jC_spawn_50
  refine go_int kk7_0.2.1.1.2.1 0 rfl ?_
  exact tjC_spawn_51 hd hg hK0 h2 h3 h4 h5 (Or.inl rfl) u1 w1
theorem tfC_spawn {Φ : ev_P} {d : Nat} (hd : 3 ≤ d) {g : gH} (hg : HR g) {v0 v1 v2 v3 v4 : Int} (hK0 : kd v0 = 6) (h1 : InR v1) (h2 : InR v2) (h3 : InR v3) (h4 : InR v4) : Go Φ pr_P fT 1 (fC_spawn g v0 v1 v2 v3 v4) d (pr_P 7) 0 (ev_loc (pr_P 7).1 [(sR v0), (sI v1), (sI v2), (sI v3), (sI v4)]) [] g 0 0 := by
  show Go Φ pr_P fT 1 (fC_spawn g v0 v1 v2 v3 v4) d pr_m7 0 [some (sR v0), some (sI v1), some (sI v2), some (sI v3), some (sI v4), none] [] g 0 0
  unfold fC_spawn
  refine go_aload kk7_0.1.1.1.1.1.1 rfl ?_
  refine go_iload kk7_0.1.1.1.1.1.2 rfl ?_
  refine go_callQ2 kk7_0.1.1.1.1.2 rfl rfl rfl ⟨by decide, _, rfl, hK0⟩ ⟨Nat.zero_le _, Nat.zero_le _⟩ (by omega) (tfC_named (by omega) hg hK0  h1) (fun y1 r2 => ?_) ge_qt
  refine go_astore kk7_0.1.1.1.2.1 rfl (loc2 := [some (sR v0), some (sI v1), some (sI v2), some (sI v3), some (sI v4), some (sR y1)]) rfl ?_
  refine go_iload kk7_0.1.1.1.2.2 rfl ?_
  refine go_int kk7_0.1.1.2.1.1.1 9 rfl ?_
  refine go_callQ0 kk7_0.1.1.2.1.1.2 rfl rfl rfl trivial ⟨Nat.zero_le _, Nat.zero_le _⟩ (by omega) (tfC_checkRange (by omega) hg  h2 (inR_of (by decide))) (fun y7 => ?_) ge_qt
  refine go_iload kk7_0.1.1.2.1.2 rfl ?_
  refine go_int kk7_0.1.1.2.2.1 9 rfl ?_
  refine go_callQ0 kk7_0.1.1.2.2.2 rfl rfl rfl trivial ⟨Nat.zero_le _, Nat.zero_le _⟩ (by omega) (tfC_checkRange (by omega) hg  h3 (inR_of (by decide))) (fun y13 => ?_) ge_qt
  refine go_iload kk7_0.1.2.1.1.1.1 rfl ?_
  refine go_int kk7_0.1.2.1.1.1.2 9 rfl ?_
  refine go_callQ0 kk7_0.1.2.1.1.2 rfl rfl rfl trivial ⟨Nat.zero_le _, Nat.zero_le _⟩ (by omega) (tfC_checkRange (by omega) hg  h4 (inR_of (by decide))) (fun y19 => ?_) ge_qt
  refine go_aload kk7_0.1.2.1.2.1 rfl ?_
  refine go_ck (fun q25 => ?_)
  refine go_callP1 kk7_0.1.2.1.2.2 rfl rfl rfl ⟨by decide, _, rfl, q25⟩ ⟨Nat.zero_le _, Nat.zero_le _⟩ (by omega) (tfP_room (by omega) hg q25 ) (fun y26 r27 => ?_)
  refine go_ifgt kk7_0.1.2.2.1.1.1 r27 (fun c30 => ?_) (fun c31 => ?_)
  · refine go_aload kk7_0.1.2.2.1.1.2 rfl ?_
    refine go_getR (bI := 0) kk7_0.1.2.2.1.2 hg hK0 (by decide) rfl rfl (fun r32 => ?_)
    refine go_ck (fun q33 => ?_)
    refine go_getI (bI := 5) kk7_0.1.2.2.2.1 hg q33 (by decide) rfl rfl (fun r34 => ?_)
    refine go_int kk7_0.1.2.2.2.2 40 rfl ?_
    refine go_cmlt kk7_0.2.1.1.1.1.1 r34 (inR_of (by decide)) (fun c35 => ?_) (fun c36 => ?_)
    · refine go_int kk7_0.2.1.1.1.1.2 1 rfl ?_
      refine go_goto kk7_0.2.1.1.1.2 ?_
      exact tjC_spawn_51 hd hg hK0 h2 h3 h4 r2 (Or.inr rfl) (some (sI v1)) rfl
    · exact tjC_spawn_50 hd hg hK0 h2 h3 h4 r2 (some (sI v1)) rfl
  · exact tjC_spawn_50 hd hg hK0 h2 h3 h4 r2 (some (sI v1)) rfl
theorem tfP_isMortal {Φ : ev_P} {d : Nat} (hd : 0 ≤ d) {g : gH} (hg : HR g) {v0 : Int} (hK0 : kd v0 = 3) : Go Φ pr_P (fP g) 3 (fP_isMortal g v0) d (pr_P 38) 0 (ev_loc (pr_P 38).1 [(sR v0)]) [] g 0 0 := by
  show Go Φ pr_P (fP g) 3 (fP_isMortal g v0) d pr_m38 0 [some (sR v0)] [] g 0 0
  unfold fP_isMortal
  refine go_aload kk38_0.1.1.1.1 rfl ?_
  refine go_getI (bI := 1) kk38_0.1.1.1.2 hg hK0 (by decide) rfl rfl (fun r1 => ?_)
  refine go_ifeq kk38_0.1.1.2 r1 (fun c2 => ?_) (fun c3 => ?_)
  · refine go_aload kk38_0.1.2.1 rfl ?_
    refine go_getR (bI := 2) kk38_0.1.2.2 hg hK0 (by decide) rfl rfl (fun r4 => ?_)
    refine go_isnull kk38_0.2.1.1.1  (fun c5 => ?_) (fun c6 => ?_)
    · refine go_int kk38_0.2.2.1 0 rfl ?_
      exact go_bret kk38_0.2.2.2 hg (Or.inl rfl) ⟨Nat.zero_le _, Nat.zero_le _⟩ rfl
    · refine go_int kk38_0.2.1.1.2 1 rfl ?_
      refine go_goto kk38_0.2.1.2 ?_
      exact go_bret kk38_0.2.2.2 hg (Or.inr rfl) ⟨Nat.zero_le _, Nat.zero_le _⟩ rfl
  · refine go_int kk38_0.2.2.1 0 rfl ?_
    exact go_bret kk38_0.2.2.2 hg (Or.inl rfl) ⟨Nat.zero_le _, Nat.zero_le _⟩ rfl
theorem tfC_namedForExit {Φ : ev_P} {d : Nat} (hd : 2 ≤ d) {g : gH} (hg : HR g) {v0 v1 v2 : Int} (hK0 : kd v0 = 6) (h1 : InR v1) (h2 : InR v2) : Go Φ pr_P (fQ g) 2 (fC_namedForExit g v0 v1 v2) d (pr_P 26) 0 (ev_loc (pr_P 26).1 [(sR v0), (sI v1), (sI v2)]) [] g 0 0 := by
  show Go Φ pr_P (fQ g) 2 (fC_namedForExit g v0 v1 v2) d pr_m26 0 [some (sR v0), some (sI v1), some (sI v2), none] [] g 0 0
  unfold fC_namedForExit
  refine go_aload kk26_0.1.1.1.1 rfl ?_
  refine go_iload kk26_0.1.1.1.2 rfl ?_
  refine go_callQ2 kk26_0.1.1.2 rfl rfl rfl ⟨by decide, _, rfl, hK0⟩ ⟨Nat.zero_le _, Nat.zero_le _⟩ (by omega) (tfC_named (by omega) hg hK0  h1) (fun y1 r2 => ?_) ge_qq
  refine go_astore kk26_0.1.2.1.1 rfl (loc2 := [some (sR v0), some (sI v1), some (sI v2), some (sR y1)]) rfl ?_
  refine go_iload kk26_0.1.2.1.2 rfl ?_
  refine go_int kk26_0.1.2.2 255 rfl ?_
  refine go_callQ0 kk26_0.2.1.1.1 rfl rfl rfl trivial ⟨Nat.zero_le _, Nat.zero_le _⟩ (by omega) (tfC_checkRange (by omega) hg  h2 (inR_of (by decide))) (fun y7 => ?_) ge_qq
  refine go_aload kk26_0.2.1.1.2 rfl ?_
  refine go_ck (fun q13 => ?_)
  refine go_callP3 kk26_0.2.1.2 rfl rfl rfl ⟨by decide, _, rfl, q13⟩ ⟨Nat.zero_le _, Nat.zero_le _⟩ (by omega) (tfP_isMortal (by omega) hg q13 ) (fun y14 r15 => ?_)
  refine go_callQ0 kk26_0.2.2.1.1 rfl rfl rfl trivial ⟨Nat.zero_le _, Nat.zero_le _⟩ (by omega) (tfC_checkState (by omega) hg  r15) (fun y18 => ?_) ge_qq
  refine go_aload kk26_0.2.2.1.2 rfl ?_
  exact go_aret kk26_0.2.2.2 hg r2 ⟨Nat.zero_le _, Nat.zero_le _⟩ rfl
theorem tfP_isRunningChildOf {Φ : ev_P} {d : Nat} (hd : 0 ≤ d) {g : gH} (hg : HR g) {v0 v1 : Int} (hK0 : kd v0 = 3) (h1 : RfR v1) : Go Φ pr_P (fP g) 3 (fP_isRunningChildOf g v0 v1) d (pr_P 39) 0 (ev_loc (pr_P 39).1 [(sR v0), (sR v1)]) [] g 0 0 := by
  show Go Φ pr_P (fP g) 3 (fP_isRunningChildOf g v0 v1) d pr_m39 0 [some (sR v0), some (sR v1)] [] g 0 0
  unfold fP_isRunningChildOf
  refine go_aload kk39_0.1.1.1.1 rfl ?_
  refine go_getI (bI := 1) kk39_0.1.1.1.2 hg hK0 (by decide) rfl rfl (fun r1 => ?_)
  refine go_ifeq kk39_0.1.1.2 r1 (fun c2 => ?_) (fun c3 => ?_)
  · refine go_aload kk39_0.1.2.1.1 rfl ?_
    refine go_getR (bI := 2) kk39_0.1.2.1.2 hg hK0 (by decide) rfl rfl (fun r4 => ?_)
    refine go_aload kk39_0.1.2.2 rfl ?_
    refine go_acmp kk39_0.2.1.1.1 r4 h1 (fun c5 => ?_) (fun c6 => ?_)
    · refine go_int kk39_0.2.1.1.2 1 rfl ?_
      refine go_goto kk39_0.2.1.2 ?_
      exact go_bret kk39_0.2.2.2 hg (Or.inr rfl) ⟨Nat.zero_le _, Nat.zero_le _⟩ rfl
    · refine go_int kk39_0.2.2.1 0 rfl ?_
      exact go_bret kk39_0.2.2.2 hg (Or.inl rfl) ⟨Nat.zero_le _, Nat.zero_le _⟩ rfl
  · refine go_int kk39_0.2.2.1 0 rfl ?_
    exact go_bret kk39_0.2.2.2 hg (Or.inl rfl) ⟨Nat.zero_le _, Nat.zero_le _⟩ rfl
theorem tfT_replace {Φ : ev_P} {d : Nat} (hd : 2 ≤ d) {g : gH} (hg : HR g) {v0 v1 v2 : Int} (hK0 : kd v0 = 5) (h1 : RfR v1) (h2 : RfR v2) : Go Φ pr_P fN 2 (fT_replace g v0 v1 v2) d (pr_P 83) 0 (ev_loc (pr_P 83).1 [(sR v0), (sR v1), (sR v2)]) [] g 0 0 := by
  show Go Φ pr_P fN 2 (fT_replace g v0 v1 v2) d pr_m83 0 [some (sR v0), some (sR v1), some (sR v2), none] [] g 0 0
  unfold fT_replace
  refine go_aload kk83_0.1.1.1.1.1.1 rfl ?_
  refine go_ck (fun q1 => ?_)
  refine go_getB (bI := 13) kk83_0.1.1.1.1.1.2 hg q1 (by decide) rfl rfl (fun r2 => ?_)
  refine go_ifeq kk83_0.1.1.1.1.2 (inR_b r2) (fun c3 => ?_) (fun c4 => ?_)
  · refine go_aload kk83_0.1.1.1.2.1 rfl ?_
    refine go_getI (bI := 6) kk83_0.1.1.1.2.2 hg q1 (by decide) rfl rfl (fun r5 => ?_)
    refine go_ifgt kk83_0.1.1.2.1.1.1 r5 (fun c6 => ?_) (fun c7 => ?_)
    · refine go_aload kk83_0.1.1.2.2.1 rfl ?_
      refine go_aload kk83_0.1.1.2.2.2 rfl ?_
      refine go_aload kk83_0.1.2.1.1.1.1 rfl ?_
      refine go_ck (fun q8 => ?_)
      refine go_getI (bI := 4) kk83_0.1.2.1.1.1.2 hg q8 (by decide) rfl rfl (fun r9 => ?_)
      refine go_aload kk83_0.1.2.1.1.2 rfl ?_
      refine go_getI (bI := 5) kk83_0.1.2.1.2.1 hg q8 (by decide) rfl rfl (fun r10 => ?_)
      refine go_aload kk83_0.1.2.1.2.2 rfl ?_
      refine go_getI (bI := 6) kk83_0.1.2.2.1.1 hg q8 (by decide) rfl rfl (fun r11 => ?_)
      refine go_callN2 kk83_0.1.2.2.1.2 rfl rfl rfl ⟨by decide, _, rfl, hK0⟩ ⟨Nat.zero_le _, Nat.zero_le _⟩ (by omega) (tfT_arrive (by omega) hg hK0  h2 r9 r10 r11) (fun y12 g14 r13 e15 => ?_)
      refine go_astore kk83_0.1.2.2.2.1 rfl (loc2 := [some (sR v0), some (sR v1), some (sR v2), some (sR y12)]) rfl ?_
      refine go_aload kk83_0.1.2.2.2.2 rfl ?_
      refine go_isnull kk83_0.2.1.1.1.1.1  (fun c16 => ?_) (fun c17 => ?_)
      · refine go_aload kk83_0.2.2.2.2.1 rfl ?_
        exact go_aret kk83_0.2.2.2.2.2 e15 r13 ⟨Nat.zero_le _, Nat.zero_le _⟩ rfl
      · refine go_aload kk83_0.2.1.1.1.1.2 rfl ?_
        refine go_dupR kk83_0.2.1.1.1.2 ?_
        refine go_getI (bI := 6) kk83_0.2.1.1.2.1 e15 q1 (by decide) rfl rfl (fun r18 => ?_)
        refine go_int kk83_0.2.1.1.2.2 1 rfl ?_
        refine go_isub kk83_0.2.1.2.1.1.1 ?_
        refine go_putI (bI := 6) kk83_0.2.1.2.1.1.2 e15 q1 (by decide) rfl rfl (inR_w32 _) (fun g19 e20 => ?_)
        refine go_aload kk83_0.2.1.2.1.2 rfl ?_
        refine go_aload kk83_0.2.1.2.2.1 rfl ?_
        refine go_ck (fun q21 => ?_)
        refine go_getI (bI := 0) kk83_0.2.1.2.2.2 e20 q21 (by decide) rfl rfl (fun r22 => ?_)
        refine go_putI (bI := 12) kk83_0.2.2.1.1.1.1 e20 q8 (by decide) rfl rfl r22 (fun g23 e24 => ?_)
        refine go_aload kk83_0.2.2.1.1.1.2 rfl ?_
        refine go_dupR kk83_0.2.2.1.1.2 ?_
        refine go_getI (bI := 9) kk83_0.2.2.1.2.1 e24 hK0 (by decide) rfl rfl (fun r25 => ?_)
        refine go_int kk83_0.2.2.1.2.2 1 rfl ?_
        refine go_iadd kk83_0.2.2.2.1.1 ?_
        refine go_putI (bI := 9) kk83_0.2.2.2.1.2 e24 hK0 (by decide) rfl rfl (inR_w32 _) (fun g26 e27 => ?_)
        refine go_aload kk83_0.2.2.2.2.1 rfl ?_
        exact go_aret kk83_0.2.2.2.2.2 e27 r13 ⟨Nat.zero_le _, Nat.zero_le _⟩ rfl
    · refine go_null kk83_0.1.1.2.1.1.2 ?_
      exact go_aret kk83_0.1.1.2.1.2 hg rfR_null ⟨Nat.zero_le _, Nat.zero_le _⟩ rfl
  · refine go_null kk83_0.1.1.2.1.1.2 ?_
    exact go_aret kk83_0.1.1.2.1.2 hg rfR_null ⟨Nat.zero_le _, Nat.zero_le _⟩ rfl
theorem tfP_canInherit {Φ : ev_P} {d : Nat} (hd : 0 ≤ d) {g : gH} (hg : HR g) {v0 : Int} (hK0 : kd v0 = 3) : Go Φ pr_P (fP g) 3 (fP_canInherit g v0) d (pr_P 41) 0 (ev_loc (pr_P 41).1 [(sR v0)]) [] g 0 0 := by
  show Go Φ pr_P (fP g) 3 (fP_canInherit g v0) d pr_m41 0 [some (sR v0)] [] g 0 0
  unfold fP_canInherit
  refine go_aload kk41_0.1.1.1.1 rfl ?_
  refine go_getI (bI := 1) kk41_0.1.1.1.2 hg hK0 (by decide) rfl rfl (fun r1 => ?_)
  refine go_ifeq kk41_0.1.1.2 r1 (fun c2 => ?_) (fun c3 => ?_)
  · refine go_aload kk41_0.1.2.1 rfl ?_
    refine go_getB (bI := 13) kk41_0.1.2.2 hg hK0 (by decide) rfl rfl (fun r4 => ?_)
    refine go_ifeq kk41_0.2.1.1.1 (inR_b r4) (fun c5 => ?_) (fun c6 => ?_)
    · refine go_int kk41_0.2.1.1.2 1 rfl ?_
      refine go_goto kk41_0.2.1.2 ?_
      exact go_bret kk41_0.2.2.2 hg (Or.inr rfl) ⟨Nat.zero_le _, Nat.zero_le _⟩ rfl
    · refine go_int kk41_0.2.2.1 0 rfl ?_
      exact go_bret kk41_0.2.2.2 hg (Or.inl rfl) ⟨Nat.zero_le _, Nat.zero_le _⟩ rfl
  · refine go_int kk41_0.2.2.1 0 rfl ?_
    exact go_bret kk41_0.2.2.2 hg (Or.inl rfl) ⟨Nat.zero_le _, Nat.zero_le _⟩ rfl
theorem tjT_heirOf_73 {Φ : ev_P} {d : Nat} (hd : 1 ≤ d) {g : gH} (hg : HR g) {v0 v1 : Int} (hK0 : kd v0 = 5) (h1 : RfR v1) (u2 : Option ev_V) (w2 : nwo u2) (u3 : Option ev_V) (w3 : nwo u3) (u4 : Option ev_V) (w4 : nwo u4) (u5 : Option ev_V) (w5 : nwo u5) (u6 : Option ev_V) (w6 : nwo u6) : Go Φ pr_P (fP g) 2 (jT_heirOf_73 g v0 v1 ) d pr_m86 73 [some (sR v0), some (sR v1), u2, u3, u4, u5, u6] [] g 0 0 := by
  unfold jT_heirOf_73
  refine go_aload kk86_0.2.2.1.1.2 rfl ?_
  refine go_ck (fun q39 => ?_)
  refine go_getR (bI := 2) kk86_0.2.2.1.2.1.1 hg q39 (by decide) rfl rfl (fun r40 => ?_)
  refine go_isnull kk86_0.2.2.1.2.1.2  (fun c41 => ?_) (fun c42 => ?_)
  · refine go_aload kk86_0.2.2.1.2.2 rfl ?_
    refine go_getR (bI := 0) kk86_0.2.2.2.1.1.1 hg hK0 (by decide) rfl rfl (fun r43 => ?_)
    refine go_goto kk86_0.2.2.2.1.1.2 ?_
    exact go_aret kk86_0.2.2.2.2.2 hg r43 ⟨Nat.zero_le _, Nat.zero_le _⟩ rfl
  · refine go_aload kk86_0.2.2.2.1.2 rfl ?_
    refine go_getR (bI := 2) kk86_0.2.2.2.2.1 hg q39 (by decide) rfl rfl (fun r44 => ?_)
    exact go_aret kk86_0.2.2.2.2.2 hg r44 ⟨Nat.zero_le _, Nat.zero_le _⟩ rfl
theorem tbT_heirOf_34 {Φ : ev_P} {d : Nat} (hd : 1 ≤ d) {g : gH} (hg : HR g) {v0 v1 v3 v4 : Int} (hK0 : kd v0 = 5) (h1 : RfR v1) (h3 : RfR v3) (h4 : InR v4) {X34 : Int → Option Int} (HX34 : ∀ (v5 : Int) (h5 : InR v5) (u2 : Option ev_V) (w2 : nwo u2) (u6 : Option ev_V) (w6 : nwo u6), Go Φ pr_P (fP g) 2 (X34 v5) d pr_m86 34 [some (sR v0), some (sR v1), u2, some (sR v3), some (sI v4), some (sI v5), u6] [] g 0 0) : ∀ (v5 : Int) (h5 : InR v5) (u2 : Option ev_V) (w2 : nwo u2) (u6 : Option ev_V) (w6 : nwo u6), Go Φ pr_P (fP g) 2 (bT_heirOf_34 g v0 v1 v3 v4 X34 v5) d pr_m86 34 [some (sR v0), some (sR v1), u2, some (sR v3), some (sI v4), some (sI v5), u6] [] g 0 0 := by
  intro v5 h5 u2 w2 u6 w6
  unfold bT_heirOf_34
  refine go_iload kk86_0.1.2.2.1.2 rfl ?_
  refine go_iload kk86_0.1.2.2.2.1.1 rfl ?_
  refine go_cmlt kk86_0.1.2.2.2.1.2 h5 h4 (fun c22 => ?_) (fun c23 => ?_)
  · refine go_aload kk86_0.1.2.2.2.2 rfl ?_
    refine go_iload kk86_0.2.1.1.1.1.1 rfl ?_
    refine go_ck (fun q25 => ?_)
    refine go_pald kk86_0.2.1.1.1.1.2 hg q25 (fun r24 => ?_)
    refine go_astore kk86_0.2.1.1.1.2 rfl (loc2 := [some (sR v0), some (sR v1), u2, some (sR v3), some (sI v4), some (sI v5), some (sR (g v3 v5))]) rfl ?_
    refine go_aload kk86_0.2.1.1.2.1.1 rfl ?_
    refine go_aload kk86_0.2.1.1.2.1.2 rfl ?_
    refine go_ck (fun q26 => ?_)
    refine go_callP3 kk86_0.2.1.1.2.2 rfl rfl rfl ⟨by decide, _, rfl, q26⟩ ⟨Nat.zero_le _, Nat.zero_le _⟩ (by omega) (tfP_isRunningChildOf (by omega) hg q26  h1) (fun y27 r28 => ?_)
    refine go_ifeq kk86_0.2.1.2.1.1.1 (inR_b r28) (fun c31 => ?_) (fun c32 => ?_)
    · refine go_iinc kk86_0.2.2.1.1.1.1 rfl rfl 1 rfl (loc2 := [some (sR v0), some (sR v1), u2, some (sR v3), some (sI v4), some (sI (w32 (v5 + 1))), some (sR (g v3 v5))]) rfl ?_
      refine go_goto kk86_0.2.2.1.1.1.2 ?_
      exact HX34 (w32 (v5 + 1)) (inR_w32 _) u2 w2 (some (sR (g v3 v5))) rfl
    · refine go_aload kk86_0.2.1.2.1.1.2 rfl ?_
      refine go_callP3 kk86_0.2.1.2.1.2 rfl rfl rfl ⟨by decide, _, rfl, q26⟩ ⟨Nat.zero_le _, Nat.zero_le _⟩ (by omega) (tfP_canInherit (by omega) hg q26 ) (fun y33 r34 => ?_)
      refine go_ifeq kk86_0.2.1.2.2.1.1 (inR_b r34) (fun c37 => ?_) (fun c38 => ?_)
      · refine go_iinc kk86_0.2.2.1.1.1.1 rfl rfl 1 rfl (loc2 := [some (sR v0), some (sR v1), u2, some (sR v3), some (sI v4), some (sI (w32 (v5 + 1))), some (sR (g v3 v5))]) rfl ?_
        refine go_goto kk86_0.2.2.1.1.1.2 ?_
        exact HX34 (w32 (v5 + 1)) (inR_w32 _) u2 w2 (some (sR (g v3 v5))) rfl
      · refine go_aload kk86_0.2.1.2.2.1.2 rfl ?_
        exact go_aret kk86_0.2.1.2.2.2 hg r24 ⟨Nat.zero_le _, Nat.zero_le _⟩ rfl
  · exact tjT_heirOf_73 hd hg hK0 h1 u2 w2 (some (sR v3)) rfl (some (sI v4)) rfl (some (sI v5)) rfl u6 w6
theorem tlT_heirOf_34 {Φ : ev_P} {d : Nat} (hd : 1 ≤ d) {g : gH} (hg : HR g) {v0 v1 v3 v4 : Int} (hK0 : kd v0 = 5) (h1 : RfR v1) (h3 : RfR v3) (h4 : InR v4) : ∀ n : Nat, ∀ (v5 : Int) (h5 : InR v5) (u2 : Option ev_V) (w2 : nwo u2) (u6 : Option ev_V) (w6 : nwo u6), Go Φ pr_P (fP g) 2 (lT_heirOf_34 g v0 v1 v3 v4 n v5) d pr_m86 34 [some (sR v0), some (sR v1), u2, some (sR v3), some (sI v4), some (sI v5), u6] [] g 0 0 := by
  intro n
  induction n with
  | zero => intros; exact go_none
  | succ n ih => exact tbT_heirOf_34 hd hg hK0 h1 h3 h4 ih
theorem tfT_heirOf {Φ : ev_P} {d : Nat} (hd : 1 ≤ d) {g : gH} (hg : HR g) {v0 v1 : Int} (hK0 : kd v0 = 5) (h1 : RfR v1) : Go Φ pr_P (fP g) 2 (fT_heirOf g v0 v1) d (pr_P 86) 0 (ev_loc (pr_P 86).1 [(sR v0), (sR v1)]) [] g 0 0 := by
  show Go Φ pr_P (fP g) 2 (fT_heirOf g v0 v1) d pr_m86 0 [some (sR v0), some (sR v1), none, none, none, none, none] [] g 0 0
  unfold fT_heirOf
  refine go_aload kk86_0.1.1.1.1.1.1 rfl ?_
  refine go_aload kk86_0.1.1.1.1.1.2 rfl ?_
  refine go_ck (fun q1 => ?_)
  refine go_getI (bI := 7) kk86_0.1.1.1.1.2 hg q1 (by decide) rfl rfl (fun r2 => ?_)
  refine go_callP2 kk86_0.1.1.1.2.1.1 rfl rfl rfl ⟨by decide, _, rfl, hK0⟩ ⟨Nat.zero_le _, Nat.zero_le _⟩ (by omega) (tfT_at (by omega) hg hK0  r2) (fun y3 r4 => ?_)
  refine go_astore kk86_0.1.1.1.2.1.2 rfl (loc2 := [some (sR v0), some (sR v1), some (sR y3), none, none, none, none]) rfl ?_
  refine go_aload kk86_0.1.1.1.2.2 rfl ?_
  refine go_isnull kk86_0.1.1.2.1.1.1  (fun c7 => ?_) (fun c8 => ?_)
  · refine go_aload kk86_0.1.2.1.1.1.1 rfl ?_
    refine go_getR (bI := 1) kk86_0.1.2.1.1.1.2 hg hK0 (by decide) rfl rfl (fun r9 => ?_)
    refine go_astore kk86_0.1.2.1.1.2 rfl (loc2 := [some (sR v0), some (sR v1), some (sR y3), some (sR (g v0 1)), none, none, none]) rfl ?_
    refine go_aload kk86_0.1.2.1.2.1.1 rfl ?_
    refine go_ck (fun q11 => ?_)
    refine go_alen kk86_0.1.2.1.2.1.2 (ka_24 q11) r9 (fun r10 => ?_)
    refine go_istore kk86_0.1.2.1.2.2 rfl (loc2 := [some (sR v0), some (sR v1), some (sR y3), some (sR (g v0 1)), some (sI (sz (g v0 1))), none, none]) rfl ?_
    refine go_int kk86_0.1.2.2.1.1.1 0 rfl ?_
    refine go_istore kk86_0.1.2.2.1.1.2 rfl (loc2 := [some (sR v0), some (sR v1), some (sR y3), some (sR (g v0 1)), some (sI (sz (g v0 1))), some (sI 0), none]) rfl ?_
    exact tlT_heirOf_34 hd hg hK0 h1 r9 r10 fu 0 (inR_b (Or.inl rfl)) (some (sR y3)) rfl none rfl
  · refine go_aload kk86_0.1.1.2.1.1.2 rfl ?_
    refine go_ck (fun q12 => ?_)
    refine go_callP3 kk86_0.1.1.2.1.2 rfl rfl rfl ⟨by decide, _, rfl, q12⟩ ⟨Nat.zero_le _, Nat.zero_le _⟩ (by omega) (tfP_canInherit (by omega) hg q12 ) (fun y13 r14 => ?_)
    refine go_ifeq kk86_0.1.1.2.2.1.1 (inR_b r14) (fun c17 => ?_) (fun c18 => ?_)
    · refine go_aload kk86_0.1.2.1.1.1.1 rfl ?_
      refine go_getR (bI := 1) kk86_0.1.2.1.1.1.2 hg hK0 (by decide) rfl rfl (fun r19 => ?_)
      refine go_astore kk86_0.1.2.1.1.2 rfl (loc2 := [some (sR v0), some (sR v1), some (sR y3), some (sR (g v0 1)), none, none, none]) rfl ?_
      refine go_aload kk86_0.1.2.1.2.1.1 rfl ?_
      refine go_ck (fun q21 => ?_)
      refine go_alen kk86_0.1.2.1.2.1.2 (ka_24 q21) r19 (fun r20 => ?_)
      refine go_istore kk86_0.1.2.1.2.2 rfl (loc2 := [some (sR v0), some (sR v1), some (sR y3), some (sR (g v0 1)), some (sI (sz (g v0 1))), none, none]) rfl ?_
      refine go_int kk86_0.1.2.2.1.1.1 0 rfl ?_
      refine go_istore kk86_0.1.2.2.1.1.2 rfl (loc2 := [some (sR v0), some (sR v1), some (sR y3), some (sR (g v0 1)), some (sI (sz (g v0 1))), some (sI 0), none]) rfl ?_
      exact tlT_heirOf_34 hd hg hK0 h1 r19 r20 fu 0 (inR_b (Or.inl rfl)) (some (sR y3)) rfl none rfl
    · refine go_aload kk86_0.1.1.2.2.1.2 rfl ?_
      exact go_aret kk86_0.1.1.2.2.2 hg r4 ⟨Nat.zero_le _, Nat.zero_le _⟩ rfl
theorem tfT_inheritorOf {Φ : ev_P} {d : Nat} (hd : 2 ≤ d) {g : gH} (hg : HR g) {v0 v1 v2 : Int} (hK0 : kd v0 = 5) (h1 : RfR v1) (h2 : InR v2) : Go Φ pr_P (fP g) 2 (fT_inheritorOf g v0 v1 v2) d (pr_P 85) 0 (ev_loc (pr_P 85).1 [(sR v0), (sR v1), (sI v2)]) [] g 0 0 := by
  show Go Φ pr_P (fP g) 2 (fT_inheritorOf g v0 v1 v2) d pr_m85 0 [some (sR v0), some (sR v1), some (sI v2), none] [] g 0 0
  unfold fT_inheritorOf
  refine go_aload kk85_0.1.1.1.1.1 rfl ?_
  refine go_aload kk85_0.1.1.1.1.2 rfl ?_
  refine go_iload kk85_0.1.1.1.2 rfl ?_
  refine go_ck (fun q1 => ?_)
  refine go_callP1 kk85_0.1.1.2.1 rfl rfl rfl ⟨by decide, _, rfl, q1⟩ ⟨Nat.zero_le _, Nat.zero_le _⟩ (by omega) (tfP_willFor (by omega) hg q1  h2) (fun y2 r3 => ?_)
  refine go_callP2 kk85_0.1.1.2.2 rfl rfl rfl ⟨by decide, _, rfl, hK0⟩ ⟨Nat.zero_le _, Nat.zero_le _⟩ (by omega) (tfT_at (by omega) hg hK0  r3) (fun y6 r7 => ?_)
  refine go_astore kk85_0.1.2.1.1 rfl (loc2 := [some (sR v0), some (sR v1), some (sI v2), some (sR y6)]) rfl ?_
  refine go_aload kk85_0.1.2.1.2 rfl ?_
  refine go_isnull kk85_0.1.2.2.1  (fun c10 => ?_) (fun c11 => ?_)
  · refine go_aload kk85_0.2.2.1.1 rfl ?_
    refine go_aload kk85_0.2.2.1.2 rfl ?_
    refine go_callP2 kk85_0.2.2.2.1 rfl rfl rfl ⟨by decide, _, rfl, hK0⟩ ⟨Nat.zero_le _, Nat.zero_le _⟩ (by omega) (tfT_heirOf (by omega) hg hK0  h1) (fun y12 r13 => ?_)
    exact go_aret kk85_0.2.2.2.2 hg r13 ⟨Nat.zero_le _, Nat.zero_le _⟩ rfl
  · refine go_aload kk85_0.1.2.2.2 rfl ?_
    refine go_ck (fun q16 => ?_)
    refine go_callP3 kk85_0.2.1.1.1 rfl rfl rfl ⟨by decide, _, rfl, q16⟩ ⟨Nat.zero_le _, Nat.zero_le _⟩ (by omega) (tfP_canInherit (by omega) hg q16 ) (fun y17 r18 => ?_)
    refine go_ifeq kk85_0.2.1.1.2 (inR_b r18) (fun c21 => ?_) (fun c22 => ?_)
    · refine go_aload kk85_0.2.2.1.1 rfl ?_
      refine go_aload kk85_0.2.2.1.2 rfl ?_
      refine go_callP2 kk85_0.2.2.2.1 rfl rfl rfl ⟨by decide, _, rfl, hK0⟩ ⟨Nat.zero_le _, Nat.zero_le _⟩ (by omega) (tfT_heirOf (by omega) hg hK0  h1) (fun y23 r24 => ?_)
      exact go_aret kk85_0.2.2.2.2 hg r24 ⟨Nat.zero_le _, Nat.zero_le _⟩ rfl
    · refine go_aload kk85_0.2.1.2.1 rfl ?_
      refine go_goto kk85_0.2.1.2.2 ?_
      exact go_aret kk85_0.2.2.2.2 hg r7 ⟨Nat.zero_le _, Nat.zero_le _⟩ rfl
theorem tbT_passDuties_2 {Φ : ev_P} {d : Nat} (hd : 3 ≤ d) {v0 v1 v2 : Int} (hK0 : kd v0 = 5) (h1 : RfR v1) (h2 : RfR v2) {X2 : Int → gH → Option (Int × gH)} (HX2 : ∀ (v3 : Int) (h3 : InR v3) (g : gH) (hg : HR g) (u4 : Option ev_V) (w4 : nwo u4), Go Φ pr_P fN 0 (X2 v3 g) d pr_m84 2 [some (sR v0), some (sR v1), some (sR v2), some (sI v3), u4] [] g 0 0) : ∀ (v3 : Int) (h3 : InR v3) (g : gH) (hg : HR g) (u4 : Option ev_V) (w4 : nwo u4), Go Φ pr_P fN 0 (bT_passDuties_2 v0 v1 v2 X2 v3 g) d pr_m84 2 [some (sR v0), some (sR v1), some (sR v2), some (sI v3), u4] [] g 0 0 := by
  intro v3 h3 g hg u4 w4
  unfold bT_passDuties_2
  refine go_iload kk84_0.1.1.1.2.1 rfl ?_
  refine go_int kk84_0.1.1.1.2.2 8 rfl ?_
  refine go_cmlt kk84_0.1.1.2.1.1 h3 (inR_of (by decide)) (fun c1 => ?_) (fun c2 => ?_)
  · refine go_aload kk84_0.1.1.2.1.2 rfl ?_
    refine go_getR (bI := 2) kk84_0.1.1.2.2.1 hg hK0 (by decide) rfl rfl (fun r3 => ?_)
    refine go_iload kk84_0.1.1.2.2.2 rfl ?_
    refine go_ck (fun q5 => ?_)
    refine go_iald kk84_0.1.2.1.1.1 hg q5 r3 (fun r4 => ?_)
    refine go_aload kk84_0.1.2.1.1.2 rfl ?_
    refine go_ck (fun q6 => ?_)
    refine go_getI (bI := 0) kk84_0.1.2.1.2.1 hg q6 (by decide) rfl rfl (fun r7 => ?_)
    refine go_cmeq kk84_0.1.2.1.2.2 r4 r7 (fun c8 => ?_) (fun c9 => ?_)
    · refine go_aload kk84_0.1.2.2.1.1 rfl ?_
      refine go_isnull kk84_0.1.2.2.1.2  (fun c10 => ?_) (fun c11 => ?_)
      · refine go_aload kk84_0.2.1.1.1.2 rfl ?_
        refine go_aload kk84_0.2.1.1.2.1 rfl ?_
        refine go_iload kk84_0.2.1.1.2.2 rfl ?_
        refine go_callP2 kk84_0.2.1.2.1.1 rfl rfl rfl ⟨by decide, _, rfl, hK0⟩ ⟨Nat.zero_le _, Nat.zero_le _⟩ (by omega) (tfT_inheritorOf (by omega) hg hK0  h1 h3) (fun y12 r13 => ?_)
        refine go_astore kk84_0.2.1.2.1.2 rfl (loc2 := [some (sR v0), some (sR v1), some (sR v2), some (sI v3), some (sR y12)]) rfl ?_
        refine go_aload kk84_0.2.1.2.2.1 rfl ?_
        refine go_getR (bI := 2) kk84_0.2.1.2.2.2 hg hK0 (by decide) rfl rfl (fun r16 => ?_)
        refine go_iload kk84_0.2.2.1.1.1 rfl ?_
        refine go_aload kk84_0.2.2.1.1.2 rfl ?_
        refine go_ck (fun q17 => ?_)
        refine go_getI (bI := 0) kk84_0.2.2.1.2.1 hg q17 (by decide) rfl rfl (fun r18 => ?_)
        refine go_ck (fun q19 => ?_)
        refine go_iast kk84_0.2.2.1.2.2 hg q19 r16 r18 (fun g20 e21 => ?_)
        refine go_iinc kk84_0.2.2.2.1.1 rfl rfl 1 rfl (loc2 := [some (sR v0), some (sR v1), some (sR v2), some (sI (w32 (v3 + 1))), some (sR y12)]) rfl ?_
        refine go_goto kk84_0.2.2.2.1.2 ?_
        exact HX2 (w32 (v3 + 1)) (inR_w32 _) g20 e21 (some (sR y12)) rfl
      · refine go_aload kk84_0.1.2.2.2 rfl ?_
        refine go_goto kk84_0.2.1.1.1.1 ?_
        refine go_astore kk84_0.2.1.2.1.2 rfl (loc2 := [some (sR v0), some (sR v1), some (sR v2), some (sI v3), some (sR v2)]) rfl ?_
        refine go_aload kk84_0.2.1.2.2.1 rfl ?_
        refine go_getR (bI := 2) kk84_0.2.1.2.2.2 hg hK0 (by decide) rfl rfl (fun r22 => ?_)
        refine go_iload kk84_0.2.2.1.1.1 rfl ?_
        refine go_aload kk84_0.2.2.1.1.2 rfl ?_
        refine go_ck (fun q23 => ?_)
        refine go_getI (bI := 0) kk84_0.2.2.1.2.1 hg q23 (by decide) rfl rfl (fun r24 => ?_)
        refine go_ck (fun q25 => ?_)
        refine go_iast kk84_0.2.2.1.2.2 hg q25 r22 r24 (fun g26 e27 => ?_)
        refine go_iinc kk84_0.2.2.2.1.1 rfl rfl 1 rfl (loc2 := [some (sR v0), some (sR v1), some (sR v2), some (sI (w32 (v3 + 1))), some (sR v2)]) rfl ?_
        refine go_goto kk84_0.2.2.2.1.2 ?_
        exact HX2 (w32 (v3 + 1)) (inR_w32 _) g26 e27 (some (sR v2)) rfl
    · refine go_iinc kk84_0.2.2.2.1.1 rfl rfl 1 rfl (loc2 := [some (sR v0), some (sR v1), some (sR v2), some (sI (w32 (v3 + 1))), u4]) rfl ?_
      refine go_goto kk84_0.2.2.2.1.2 ?_
      exact HX2 (w32 (v3 + 1)) (inR_w32 _) g hg u4 w4
  · exact go_vret kk84_0.2.2.2.2 hg ⟨Nat.zero_le _, Nat.zero_le _⟩ rfl
theorem tlT_passDuties_2 {Φ : ev_P} {d : Nat} (hd : 3 ≤ d) {v0 v1 v2 : Int} (hK0 : kd v0 = 5) (h1 : RfR v1) (h2 : RfR v2) : ∀ n : Nat, ∀ (v3 : Int) (h3 : InR v3) (g : gH) (hg : HR g) (u4 : Option ev_V) (w4 : nwo u4), Go Φ pr_P fN 0 (lT_passDuties_2 v0 v1 v2 n v3 g) d pr_m84 2 [some (sR v0), some (sR v1), some (sR v2), some (sI v3), u4] [] g 0 0 := by
  intro n
  induction n with
  | zero => intros; exact go_none
  | succ n ih => exact tbT_passDuties_2 hd hK0 h1 h2 ih
theorem tfT_passDuties {Φ : ev_P} {d : Nat} (hd : 3 ≤ d) {g : gH} (hg : HR g) {v0 v1 v2 : Int} (hK0 : kd v0 = 5) (h1 : RfR v1) (h2 : RfR v2) : Go Φ pr_P fN 0 (fT_passDuties g v0 v1 v2) d (pr_P 84) 0 (ev_loc (pr_P 84).1 [(sR v0), (sR v1), (sR v2)]) [] g 0 0 := by
  show Go Φ pr_P fN 0 (fT_passDuties g v0 v1 v2) d pr_m84 0 [some (sR v0), some (sR v1), some (sR v2), none, none] [] g 0 0
  unfold fT_passDuties
  refine go_int kk84_0.1.1.1.1.1 0 rfl ?_
  refine go_istore kk84_0.1.1.1.1.2 rfl (loc2 := [some (sR v0), some (sR v1), some (sR v2), some (sI 0), none]) rfl ?_
  exact tlT_passDuties_2 hd hK0 h1 h2 fu 0 (inR_b (Or.inl rfl)) g hg none rfl
theorem tfT_adopt {Φ : ev_P} {d : Nat} (hd : 1 ≤ d) {g : gH} (hg : HR g) {v0 v1 v2 : Int} (hK0 : kd v0 = 5) (h1 : RfR v1) (h2 : RfR v2) : Go Φ pr_P fN 0 (fT_adopt g v0 v1 v2) d (pr_P 87) 0 (ev_loc (pr_P 87).1 [(sR v0), (sR v1), (sR v2)]) [] g 0 0 := by
  show Go Φ pr_P fN 0 (fT_adopt g v0 v1 v2) d pr_m87 0 [some (sR v0), some (sR v1), some (sR v2)] [] g 0 0
  unfold fT_adopt
  refine go_aload kk87_0.1.1.1.1.1 rfl ?_
  refine go_aload kk87_0.1.1.1.1.2 rfl ?_
  refine go_ck (fun q1 => ?_)
  refine go_callN0 kk87_0.1.1.1.2.1 rfl rfl rfl ⟨by decide, _, rfl, q1⟩ ⟨Nat.zero_le _, Nat.zero_le _⟩ (by omega) (tfP_putUnder (by omega) hg q1  h2) (fun y2 g4 e5 => ?_)
  refine go_aload kk87_0.1.1.1.2.2 rfl ?_
  refine go_dupR kk87_0.1.1.2.1.1 ?_
  refine go_getI (bI := 11) kk87_0.1.1.2.1.2 e5 q1 (by decide) rfl rfl (fun r6 => ?_)
  refine go_int kk87_0.1.1.2.2 1 rfl ?_
  refine go_iadd kk87_0.1.2.1.1.1 ?_
  refine go_putI (bI := 11) kk87_0.1.2.1.1.2 e5 q1 (by decide) rfl rfl (inR_w32 _) (fun g7 e8 => ?_)
  refine go_aload kk87_0.1.2.1.2 rfl ?_
  refine go_dupR kk87_0.1.2.2.1.1 ?_
  refine go_getI (bI := 7) kk87_0.1.2.2.1.2 e8 hK0 (by decide) rfl rfl (fun r9 => ?_)
  refine go_int kk87_0.1.2.2.2 1 rfl ?_
  refine go_iadd kk87_0.2.1.1.1.1 ?_
  refine go_putI (bI := 7) kk87_0.2.1.1.1.2 e8 hK0 (by decide) rfl rfl (inR_w32 _) (fun g10 e11 => ?_)
  refine go_aload kk87_0.2.1.1.2.1 rfl ?_
  refine go_aload kk87_0.2.1.1.2.2 rfl ?_
  refine go_getR (bI := 0) kk87_0.2.1.2.1.1 e11 hK0 (by decide) rfl rfl (fun r12 => ?_)
  refine go_acmp kk87_0.2.1.2.1.2 h2 r12 (fun c13 => ?_) (fun c14 => ?_)
  · refine go_aload kk87_0.2.1.2.2 rfl ?_
    refine go_dupR kk87_0.2.2.1.1.1 ?_
    refine go_getI (bI := 8) kk87_0.2.2.1.1.2 e11 hK0 (by decide) rfl rfl (fun r15 => ?_)
    refine go_int kk87_0.2.2.1.2 1 rfl ?_
    refine go_iadd kk87_0.2.2.2.1.1 ?_
    refine go_putI (bI := 8) kk87_0.2.2.2.1.2 e11 hK0 (by decide) rfl rfl (inR_w32 _) (fun g16 e17 => ?_)
    exact go_vret kk87_0.2.2.2.2 e17 ⟨Nat.zero_le _, Nat.zero_le _⟩ rfl
  · exact go_vret kk87_0.2.2.2.2 e11 ⟨Nat.zero_le _, Nat.zero_le _⟩ rfl
theorem tbP_isOver_5 {Φ : ev_P} {d : Nat} (hd : 0 ≤ d) {g : gH} (hg : HR g) {v0 : Int} (hK0 : kd v0 = 3) {X5 : Int → Option Int} (HX5 : ∀ (v2 : Int) (h2 : RfR v2) (u1 : Option ev_V) (w1 : nwo u1), Go Φ pr_P (fP g) 3 (X5 v2) d pr_m45 5 [some (sR v0), u1, some (sR v2)] [] g 0 0) : ∀ (v2 : Int) (h2 : RfR v2) (u1 : Option ev_V) (w1 : nwo u1), Go Φ pr_P (fP g) 3 (bP_isOver_5 g v0 X5 v2) d pr_m45 5 [some (sR v0), u1, some (sR v2)] [] g 0 0 := by
  intro v2 h2 u1 w1
  unfold bP_isOver_5
  refine go_aload kk45_0.1.1.2.2 rfl ?_
  refine go_isnull kk45_0.1.2.1.1  (fun c3 => ?_) (fun c4 => ?_)
  · refine go_int kk45_0.2.2.2.1 0 rfl ?_
    exact go_bret kk45_0.2.2.2.2 hg (Or.inl rfl) ⟨Nat.zero_le _, Nat.zero_le _⟩ rfl
  · refine go_aload kk45_0.1.2.1.2 rfl ?_
    refine go_aload kk45_0.1.2.2.1 rfl ?_
    refine go_acmp kk45_0.1.2.2.2 h2 (rfR_kd hK0 (by decide)) (fun c5 => ?_) (fun c6 => ?_)
    · refine go_int kk45_0.2.1.1.1 1 rfl ?_
      exact go_bret kk45_0.2.1.1.2 hg (Or.inr rfl) ⟨Nat.zero_le _, Nat.zero_le _⟩ rfl
    · refine go_aload kk45_0.2.1.2.1 rfl ?_
      refine go_ck (fun q7 => ?_)
      refine go_getR (bI := 2) kk45_0.2.1.2.2 hg q7 (by decide) rfl rfl (fun r8 => ?_)
      refine go_astore kk45_0.2.2.1.1 w1 (loc2 := [some (sR v0), u1, some (sR (g v2 2))]) rfl ?_
      refine go_goto kk45_0.2.2.1.2 ?_
      exact HX5 (g v2 2) r8 u1 w1
theorem tlP_isOver_5 {Φ : ev_P} {d : Nat} (hd : 0 ≤ d) {g : gH} (hg : HR g) {v0 : Int} (hK0 : kd v0 = 3) : ∀ n : Nat, ∀ (v2 : Int) (h2 : RfR v2) (u1 : Option ev_V) (w1 : nwo u1), Go Φ pr_P (fP g) 3 (lP_isOver_5 g v0 n v2) d pr_m45 5 [some (sR v0), u1, some (sR v2)] [] g 0 0 := by
  intro n
  induction n with
  | zero => intros; exact go_none
  | succ n ih => exact tbP_isOver_5 hd hg hK0 ih
theorem tfP_isOver {Φ : ev_P} {d : Nat} (hd : 0 ≤ d) {g : gH} (hg : HR g) {v0 v1 : Int} (hK0 : kd v0 = 3) (h1 : RfR v1) : Go Φ pr_P (fP g) 3 (fP_isOver g v0 v1) d (pr_P 45) 0 (ev_loc (pr_P 45).1 [(sR v0), (sR v1)]) [] g 0 0 := by
  show Go Φ pr_P (fP g) 3 (fP_isOver g v0 v1) d pr_m45 0 [some (sR v0), some (sR v1), none] [] g 0 0
  unfold fP_isOver
  refine go_aload kk45_0.1.1.1.1 rfl ?_
  refine go_ck (fun q1 => ?_)
  refine go_getR (bI := 2) kk45_0.1.1.1.2 hg q1 (by decide) rfl rfl (fun r2 => ?_)
  refine go_astore kk45_0.1.1.2.1 rfl (loc2 := [some (sR v0), some (sR v1), some (sR (g v1 2))]) rfl ?_
  exact tlP_isOver_5 hd hg hK0 fu (g v1 2) r2 (some (sR v1)) rfl
theorem tfT_canAdopt {Φ : ev_P} {d : Nat} (hd : 1 ≤ d) {g : gH} (hg : HR g) {v0 v1 v2 : Int} (hK0 : kd v0 = 5) (h1 : RfR v1) (h2 : RfR v2) : Go Φ pr_P (fP g) 3 (fT_canAdopt g v0 v1 v2) d (pr_P 93) 0 (ev_loc (pr_P 93).1 [(sR v0), (sR v1), (sR v2)]) [] g 0 0 := by
  show Go Φ pr_P (fP g) 3 (fT_canAdopt g v0 v1 v2) d pr_m93 0 [some (sR v0), some (sR v1), some (sR v2)] [] g 0 0
  unfold fT_canAdopt
  refine go_aload kk93_0.1.1.1.1.1 rfl ?_
  refine go_ck (fun q1 => ?_)
  refine go_callP3 kk93_0.1.1.1.1.2 rfl rfl rfl ⟨by decide, _, rfl, q1⟩ ⟨Nat.zero_le _, Nat.zero_le _⟩ (by omega) (tfP_isMortal (by omega) hg q1 ) (fun y2 r3 => ?_)
  refine go_ifeq kk93_0.1.1.1.2.1 (inR_b r3) (fun c6 => ?_) (fun c7 => ?_)
  · refine go_int kk93_0.2.1.1.1.2 0 rfl ?_
    exact go_bret kk93_0.2.1.1.2.1 hg (Or.inl rfl) ⟨Nat.zero_le _, Nat.zero_le _⟩ rfl
  · refine go_aload kk93_0.1.1.1.2.2 rfl ?_
    refine go_getB (bI := 13) kk93_0.1.1.2.1.1 hg q1 (by decide) rfl rfl (fun r8 => ?_)
    refine go_ifeq kk93_0.1.1.2.1.2 (inR_b r8) (fun c9 => ?_) (fun c10 => ?_)
    · refine go_aload kk93_0.1.1.2.2.1 rfl ?_
      refine go_aload kk93_0.1.1.2.2.2 rfl ?_
      refine go_acmp kk93_0.1.2.1.1.1 h1 h2 (fun c11 => ?_) (fun c12 => ?_)
      · refine go_int kk93_0.2.1.1.1.2 0 rfl ?_
        exact go_bret kk93_0.2.1.1.2.1 hg (Or.inl rfl) ⟨Nat.zero_le _, Nat.zero_le _⟩ rfl
      · refine go_aload kk93_0.1.2.1.1.2 rfl ?_
        refine go_aload kk93_0.1.2.1.2.1 rfl ?_
        refine go_ck (fun q13 => ?_)
        refine go_getI (bI := 5) kk93_0.1.2.1.2.2 hg q13 (by decide) rfl rfl (fun r14 => ?_)
        refine go_callP3 kk93_0.1.2.2.1.1 rfl rfl rfl ⟨by decide, _, rfl, q1⟩ ⟨Nat.zero_le _, Nat.zero_le _⟩ (by omega) (tfP_refuses (by omega) hg q1  r14) (fun y15 r16 => ?_)
        refine go_ifeq kk93_0.1.2.2.1.2 (inR_b r16) (fun c19 => ?_) (fun c20 => ?_)
        · refine go_aload kk93_0.1.2.2.2.1 rfl ?_
          refine go_callP1 kk93_0.1.2.2.2.2 rfl rfl rfl ⟨by decide, _, rfl, q1⟩ ⟨Nat.zero_le _, Nat.zero_le _⟩ (by omega) (tfP_room (by omega) hg q1 ) (fun y21 r22 => ?_)
          refine go_ifeq kk93_0.2.1.1.1.1 r22 (fun c25 => ?_) (fun c26 => ?_)
          · refine go_int kk93_0.2.1.1.1.2 0 rfl ?_
            exact go_bret kk93_0.2.1.1.2.1 hg (Or.inl rfl) ⟨Nat.zero_le _, Nat.zero_le _⟩ rfl
          · refine go_aload kk93_0.2.1.1.2.2 rfl ?_
            refine go_callP1 kk93_0.2.1.2.1.1 rfl rfl rfl ⟨by decide, _, rfl, q1⟩ ⟨Nat.zero_le _, Nat.zero_le _⟩ (by omega) (tfP_countAbove (by omega) hg q1 ) (fun y27 r28 => ?_)
            refine go_aload kk93_0.2.1.2.1.2 rfl ?_
            refine go_getI (bI := 4) kk93_0.2.1.2.2.1 hg hK0 (by decide) rfl rfl (fun r31 => ?_)
            refine go_cmlt kk93_0.2.1.2.2.2 r28 r31 (fun c32 => ?_) (fun c33 => ?_)
            · refine go_aload kk93_0.2.2.1.1.1 rfl ?_
              refine go_aload kk93_0.2.2.1.1.2 rfl ?_
              refine go_callP3 kk93_0.2.2.1.2.1 rfl rfl rfl ⟨by decide, _, rfl, q13⟩ ⟨Nat.zero_le _, Nat.zero_le _⟩ (by omega) (tfP_isOver (by omega) hg q13  h1) (fun y34 r35 => ?_)
              refine go_ifeq kk93_0.2.2.1.2.2 (inR_b r35) (fun c38 => ?_) (fun c39 => ?_)
              · refine go_int kk93_0.2.2.2.1.1 1 rfl ?_
                refine go_goto kk93_0.2.2.2.1.2 ?_
                exact go_bret kk93_0.2.2.2.2.2 hg (Or.inr rfl) ⟨Nat.zero_le _, Nat.zero_le _⟩ rfl
              · refine go_int kk93_0.2.2.2.2.1 0 rfl ?_
                exact go_bret kk93_0.2.2.2.2.2 hg (Or.inl rfl) ⟨Nat.zero_le _, Nat.zero_le _⟩ rfl
            · refine go_int kk93_0.2.2.2.2.1 0 rfl ?_
              exact go_bret kk93_0.2.2.2.2.2 hg (Or.inl rfl) ⟨Nat.zero_le _, Nat.zero_le _⟩ rfl
        · refine go_int kk93_0.2.1.1.1.2 0 rfl ?_
          exact go_bret kk93_0.2.1.1.2.1 hg (Or.inl rfl) ⟨Nat.zero_le _, Nat.zero_le _⟩ rfl
    · refine go_int kk93_0.2.1.1.1.2 0 rfl ?_
      exact go_bret kk93_0.2.1.1.2.1 hg (Or.inl rfl) ⟨Nat.zero_le _, Nat.zero_le _⟩ rfl
theorem tbT_nearest_5 {Φ : ev_P} {d : Nat} (hd : 2 ≤ d) {g : gH} (hg : HR g) {v0 v1 : Int} (hK0 : kd v0 = 5) (h1 : RfR v1) {X5 : Int → Option Int} (HX5 : ∀ (v3 : Int) (h3 : RfR v3) (u2 : Option ev_V) (w2 : nwo u2), Go Φ pr_P (fP g) 2 (X5 v3) d pr_m89 5 [some (sR v0), some (sR v1), u2, some (sR v3)] [] g 0 0) : ∀ (v3 : Int) (h3 : RfR v3) (u2 : Option ev_V) (w2 : nwo u2), Go Φ pr_P (fP g) 2 (bT_nearest_5 g v0 v1 X5 v3) d pr_m89 5 [some (sR v0), some (sR v1), u2, some (sR v3)] [] g 0 0 := by
  intro v3 h3 u2 w2
  unfold bT_nearest_5
  refine go_aload kk89_0.1.1.2.1 rfl ?_
  refine go_isnull kk89_0.1.1.2.2  (fun c3 => ?_) (fun c4 => ?_)
  · refine go_null kk89_0.2.2.2.1 ?_
    exact go_aret kk89_0.2.2.2.2 hg rfR_null ⟨Nat.zero_le _, Nat.zero_le _⟩ rfl
  · refine go_aload kk89_0.1.2.1.1 rfl ?_
    refine go_aload kk89_0.1.2.1.2 rfl ?_
    refine go_aload kk89_0.1.2.2.1 rfl ?_
    refine go_callP3 kk89_0.1.2.2.2 rfl rfl rfl ⟨by decide, _, rfl, hK0⟩ ⟨Nat.zero_le _, Nat.zero_le _⟩ (by omega) (tfT_canAdopt (by omega) hg hK0  h3 h1) (fun y5 r6 => ?_)
    refine go_ifeq kk89_0.2.1.1.1.1 (inR_b r6) (fun c9 => ?_) (fun c10 => ?_)
    · refine go_aload kk89_0.2.1.2.1 rfl ?_
      refine go_ck (fun q11 => ?_)
      refine go_getR (bI := 2) kk89_0.2.1.2.2 hg q11 (by decide) rfl rfl (fun r12 => ?_)
      refine go_astore kk89_0.2.2.1.1 w2 (loc2 := [some (sR v0), some (sR v1), u2, some (sR (g v3 2))]) rfl ?_
      refine go_goto kk89_0.2.2.1.2 ?_
      exact HX5 (g v3 2) r12 u2 w2
    · refine go_aload kk89_0.2.1.1.1.2 rfl ?_
      exact go_aret kk89_0.2.1.1.2 hg h3 ⟨Nat.zero_le _, Nat.zero_le _⟩ rfl
theorem tlT_nearest_5 {Φ : ev_P} {d : Nat} (hd : 2 ≤ d) {g : gH} (hg : HR g) {v0 v1 : Int} (hK0 : kd v0 = 5) (h1 : RfR v1) : ∀ n : Nat, ∀ (v3 : Int) (h3 : RfR v3) (u2 : Option ev_V) (w2 : nwo u2), Go Φ pr_P (fP g) 2 (lT_nearest_5 g v0 v1 n v3) d pr_m89 5 [some (sR v0), some (sR v1), u2, some (sR v3)] [] g 0 0 := by
  intro n
  induction n with
  | zero => intros; exact go_none
  | succ n ih => exact tbT_nearest_5 hd hg hK0 h1 ih
theorem tfT_nearest {Φ : ev_P} {d : Nat} (hd : 2 ≤ d) {g : gH} (hg : HR g) {v0 v1 v2 : Int} (hK0 : kd v0 = 5) (h1 : RfR v1) (h2 : RfR v2) : Go Φ pr_P (fP g) 2 (fT_nearest g v0 v1 v2) d (pr_P 89) 0 (ev_loc (pr_P 89).1 [(sR v0), (sR v1), (sR v2)]) [] g 0 0 := by
  show Go Φ pr_P (fP g) 2 (fT_nearest g v0 v1 v2) d pr_m89 0 [some (sR v0), some (sR v1), some (sR v2), none] [] g 0 0
  unfold fT_nearest
  refine go_aload kk89_0.1.1.1.1.1 rfl ?_
  refine go_ck (fun q1 => ?_)
  refine go_getR (bI := 2) kk89_0.1.1.1.1.2 hg q1 (by decide) rfl rfl (fun r2 => ?_)
  refine go_astore kk89_0.1.1.1.2 rfl (loc2 := [some (sR v0), some (sR v1), some (sR v2), some (sR (g v2 2))]) rfl ?_
  exact tlT_nearest_5 hd hg hK0 h1 fu (g v2 2) r2 (some (sR v2)) rfl
theorem tjT_roomiestFor_83 {Φ : ev_P} {d : Nat} (hd : 2 ≤ d) {X17 : Int → Int → Option Int} {g : gH} (hg : HR g) {v0 v1 v2 v3 v4 v5 v6 v7 v8 v9 : Int} (hK0 : kd v0 = 5) (h1 : RfR v1) (h2 : RfR v2) (h3 : B01 v3) (h4 : RfR v4) (h5 : RfR v5) (h6 : InR v6) (h7 : InR v7) (h8 : RfR v8) (h9 : B01 v9) {s0 : Int} (z0 : B01 s0) (HX17 : ∀ (v4 : Int) (h4 : RfR v4) (v7 : Int) (h7 : InR v7) (u8 : Option ev_V) (w8 : nwo u8) (u9 : Option ev_V) (w9 : nwo u9) (u10 : Option ev_V) (w10 : nwo u10), Go Φ pr_P (fP g) 2 (X17 v4 v7) d pr_m90 17 [some (sR v0), some (sR v1), some (sR v2), some (sI v3), some (sR v4), some (sR v5), some (sI v6), some (sI v7), u8, u9, u10] [] g 0 0) (u10 : Option ev_V) (w10 : nwo u10) : Go Φ pr_P (fP g) 2 (jT_roomiestFor_83 X17 g v0 v1 v2 v3 v4 v5 v6 v7 v8 v9 s0 ) d pr_m90 83 [some (sR v0), some (sR v1), some (sR v2), some (sI v3), some (sR v4), some (sR v5), some (sI v6), some (sI v7), some (sR v8), some (sI v9), u10] [(sI s0)] g 0 0 := by
  unfold jT_roomiestFor_83
  refine go_istore kk90_0.2.1.2.2.1.2 rfl (loc2 := [some (sR v0), some (sR v1), some (sR v2), some (sI v3), some (sR v4), some (sR v5), some (sI v6), some (sI v7), some (sR v8), some (sI v9), some (sI s0)]) rfl ?_
  refine go_iload kk90_0.2.1.2.2.2 rfl ?_
  refine go_ifeq kk90_0.2.2.1.1.1.1 (inR_b h9) (fun c32 => ?_) (fun c33 => ?_)
  · refine go_iinc kk90_0.2.2.2.1.2.2 rfl rfl 1 rfl (loc2 := [some (sR v0), some (sR v1), some (sR v2), some (sI v3), some (sR v4), some (sR v5), some (sI v6), some (sI (w32 (v7 + 1))), some (sR v8), some (sI v9), some (sI s0)]) rfl ?_
    refine go_goto kk90_0.2.2.2.2.1.1 ?_
    exact HX17 v4 h4 (w32 (v7 + 1)) (inR_w32 _) (some (sR v8)) rfl (some (sI v9)) rfl (some (sI s0)) rfl
  · refine go_iload kk90_0.2.2.1.1.1.2 rfl ?_
    refine go_ifeq kk90_0.2.2.1.1.2.1 (inR_b z0) (fun c34 => ?_) (fun c35 => ?_)
    · refine go_iinc kk90_0.2.2.2.1.2.2 rfl rfl 1 rfl (loc2 := [some (sR v0), some (sR v1), some (sR v2), some (sI v3), some (sR v4), some (sR v5), some (sI v6), some (sI (w32 (v7 + 1))), some (sR v8), some (sI v9), some (sI s0)]) rfl ?_
      refine go_goto kk90_0.2.2.2.2.1.1 ?_
      exact HX17 v4 h4 (w32 (v7 + 1)) (inR_w32 _) (some (sR v8)) rfl (some (sI v9)) rfl (some (sI s0)) rfl
    · refine go_aload kk90_0.2.2.1.1.2.2 rfl ?_
      refine go_aload kk90_0.2.2.1.2.1.1 rfl ?_
      refine go_aload kk90_0.2.2.1.2.1.2 rfl ?_
      refine go_callP3 kk90_0.2.2.1.2.2 rfl rfl rfl ⟨by decide, _, rfl, hK0⟩ ⟨Nat.zero_le _, Nat.zero_le _⟩ (by omega) (tfT_canAdopt (by omega) hg hK0  h8 h1) (fun y36 r37 => ?_)
      refine go_ifeq kk90_0.2.2.2.1.1.1 (inR_b r37) (fun c40 => ?_) (fun c41 => ?_)
      · refine go_iinc kk90_0.2.2.2.1.2.2 rfl rfl 1 rfl (loc2 := [some (sR v0), some (sR v1), some (sR v2), some (sI v3), some (sR v4), some (sR v5), some (sI v6), some (sI (w32 (v7 + 1))), some (sR v8), some (sI v9), some (sI s0)]) rfl ?_
        refine go_goto kk90_0.2.2.2.2.1.1 ?_
        exact HX17 v4 h4 (w32 (v7 + 1)) (inR_w32 _) (some (sR v8)) rfl (some (sI v9)) rfl (some (sI s0)) rfl
      · refine go_aload kk90_0.2.2.2.1.1.2 rfl ?_
        refine go_astore kk90_0.2.2.2.1.2.1 rfl (loc2 := [some (sR v0), some (sR v1), some (sR v2), some (sI v3), some (sR v8), some (sR v5), some (sI v6), some (sI v7), some (sR v8), some (sI v9), some (sI s0)]) rfl ?_
        refine go_iinc kk90_0.2.2.2.1.2.2 rfl rfl 1 rfl (loc2 := [some (sR v0), some (sR v1), some (sR v2), some (sI v3), some (sR v8), some (sR v5), some (sI v6), some (sI (w32 (v7 + 1))), some (sR v8), some (sI v9), some (sI s0)]) rfl ?_
        refine go_goto kk90_0.2.2.2.2.1.1 ?_
        exact HX17 v8 h8 (w32 (v7 + 1)) (inR_w32 _) (some (sR v8)) rfl (some (sI v9)) rfl (some (sI s0)) rfl
theorem tjT_roomiestFor_78 {Φ : ev_P} {d : Nat} (hd : 2 ≤ d) {X17 : Int → Int → Option Int} {g : gH} (hg : HR g) {v0 v1 v2 v3 v4 v5 v6 v7 v8 v9 : Int} (hK0 : kd v0 = 5) (h1 : RfR v1) (h2 : RfR v2) (h3 : B01 v3) (h4 : RfR v4) (h5 : RfR v5) (h6 : InR v6) (h7 : InR v7) (h8 : RfR v8) (h9 : B01 v9) (HX17 : ∀ (v4 : Int) (h4 : RfR v4) (v7 : Int) (h7 : InR v7) (u8 : Option ev_V) (w8 : nwo u8) (u9 : Option ev_V) (w9 : nwo u9) (u10 : Option ev_V) (w10 : nwo u10), Go Φ pr_P (fP g) 2 (X17 v4 v7) d pr_m90 17 [some (sR v0), some (sR v1), some (sR v2), some (sI v3), some (sR v4), some (sR v5), some (sI v6), some (sI v7), u8, u9, u10] [] g 0 0) (u10 : Option ev_V) (w10 : nwo u10) : Go Φ pr_P (fP g) 2 (jT_roomiestFor_78 X17 g v0 v1 v2 v3 v4 v5 v6 v7 v8 v9 ) d pr_m90 78 [some (sR v0), some (sR v1), some (sR v2), some (sI v3), some (sR v4), some (sR v5), some (sI v6), some (sI v7), some (sR v8), some (sI v9), u10] [] g 0 0 := by
  unfold jT_roomiestFor_78
  refine go_int kk90_0.2.1.2.1.2.1 1 rfl ?_
  refine go_goto kk90_0.2.1.2.1.2.2 ?_
  exact tjT_roomiestFor_83 hd hg hK0 h1 h2 h3 h4 h5 h6 h7 h8 h9 (Or.inr rfl) HX17 u10 w10
theorem tjT_roomiestFor_58 {Φ : ev_P} {d : Nat} (hd : 2 ≤ d) {X17 : Int → Int → Option Int} {g : gH} (hg : HR g) {v0 v1 v2 v3 v4 v5 v6 v7 v8 : Int} (hK0 : kd v0 = 5) (h1 : RfR v1) (h2 : RfR v2) (h3 : B01 v3) (h4 : RfR v4) (h5 : RfR v5) (h6 : InR v6) (h7 : InR v7) (h8 : RfR v8) {s0 : Int} (z0 : B01 s0) (HX17 : ∀ (v4 : Int) (h4 : RfR v4) (v7 : Int) (h7 : InR v7) (u8 : Option ev_V) (w8 : nwo u8) (u9 : Option ev_V) (w9 : nwo u9) (u10 : Option ev_V) (w10 : nwo u10), Go Φ pr_P (fP g) 2 (X17 v4 v7) d pr_m90 17 [some (sR v0), some (sR v1), some (sR v2), some (sI v3), some (sR v4), some (sR v5), some (sI v6), some (sI v7), u8, u9, u10] [] g 0 0) (u9 : Option ev_V) (w9 : nwo u9) (u10 : Option ev_V) (w10 : nwo u10) : Go Φ pr_P (fP g) 2 (jT_roomiestFor_58 X17 g v0 v1 v2 v3 v4 v5 v6 v7 v8 s0 ) d pr_m90 58 [some (sR v0), some (sR v1), some (sR v2), some (sI v3), some (sR v4), some (sR v5), some (sI v6), some (sI v7), some (sR v8), u9, u10] [(sI s0)] g 0 0 := by
  unfold jT_roomiestFor_58
  refine go_istore kk90_0.2.1.1.1.1.2 rfl (loc2 := [some (sR v0), some (sR v1), some (sR v2), some (sI v3), some (sR v4), some (sR v5), some (sI v6), some (sI v7), some (sR v8), some (sI s0), u10]) rfl ?_
  refine go_aload kk90_0.2.1.1.1.2.1 rfl ?_
  refine go_isnull kk90_0.2.1.1.1.2.2  (fun c18 => ?_) (fun c19 => ?_)
  · exact tjT_roomiestFor_78 hd hg hK0 h1 h2 h3 h4 h5 h6 h7 h8 z0 HX17 u10 w10
  · refine go_aload kk90_0.2.1.1.2.1.1 rfl ?_
    refine go_ck (fun q20 => ?_)
    refine go_callP1 kk90_0.2.1.1.2.1.2 rfl rfl rfl ⟨by decide, _, rfl, q20⟩ ⟨Nat.zero_le _, Nat.zero_le _⟩ (by omega) (tfP_room (by omega) hg q20 ) (fun y21 r22 => ?_)
    refine go_aload kk90_0.2.1.1.2.2 rfl ?_
    refine go_ck (fun q25 => ?_)
    refine go_callP1 kk90_0.2.1.2.1.1.1 rfl rfl rfl ⟨by decide, _, rfl, q25⟩ ⟨Nat.zero_le _, Nat.zero_le _⟩ (by omega) (tfP_room (by omega) hg q25 ) (fun y26 r27 => ?_)
    refine go_cmgt kk90_0.2.1.2.1.1.2 r22 r27 (fun c30 => ?_) (fun c31 => ?_)
    · exact tjT_roomiestFor_78 hd hg hK0 h1 h2 h3 h4 h5 h6 h7 h8 z0 HX17 u10 w10
    · refine go_int kk90_0.2.1.2.2.1.1 0 rfl ?_
      exact tjT_roomiestFor_83 hd hg hK0 h1 h2 h3 h4 h5 h6 h7 h8 z0 (Or.inl rfl) HX17 u10 w10
theorem tjT_roomiestFor_57 {Φ : ev_P} {d : Nat} (hd : 2 ≤ d) {X17 : Int → Int → Option Int} {g : gH} (hg : HR g) {v0 v1 v2 v3 v4 v5 v6 v7 v8 : Int} (hK0 : kd v0 = 5) (h1 : RfR v1) (h2 : RfR v2) (h3 : B01 v3) (h4 : RfR v4) (h5 : RfR v5) (h6 : InR v6) (h7 : InR v7) (h8 : RfR v8) (HX17 : ∀ (v4 : Int) (h4 : RfR v4) (v7 : Int) (h7 : InR v7) (u8 : Option ev_V) (w8 : nwo u8) (u9 : Option ev_V) (w9 : nwo u9) (u10 : Option ev_V) (w10 : nwo u10), Go Φ pr_P (fP g) 2 (X17 v4 v7) d pr_m90 17 [some (sR v0), some (sR v1), some (sR v2), some (sI v3), some (sR v4), some (sR v5), some (sI v6), some (sI v7), u8, u9, u10] [] g 0 0) (u9 : Option ev_V) (w9 : nwo u9) (u10 : Option ev_V) (w10 : nwo u10) : Go Φ pr_P (fP g) 2 (jT_roomiestFor_57 X17 g v0 v1 v2 v3 v4 v5 v6 v7 v8 ) d pr_m90 57 [some (sR v0), some (sR v1), some (sR v2), some (sI v3), some (sR v4), some (sR v5), some (sI v6), some (sI v7), some (sR v8), u9, u10] [] g 0 0 := by
  unfold jT_roomiestFor_57
  refine go_int kk90_0.2.1.1.1.1.1 0 rfl ?_
  exact tjT_roomiestFor_58 hd hg hK0 h1 h2 h3 h4 h5 h6 h7 h8 (Or.inl rfl) HX17 u9 w9 u10 w10
theorem tjT_roomiestFor_53 {Φ : ev_P} {d : Nat} (hd : 2 ≤ d) {X17 : Int → Int → Option Int} {g : gH} (hg : HR g) {v0 v1 v2 v3 v4 v5 v6 v7 v8 : Int} (hK0 : kd v0 = 5) (h1 : RfR v1) (h2 : RfR v2) (h3 : B01 v3) (h4 : RfR v4) (h5 : RfR v5) (h6 : InR v6) (h7 : InR v7) (h8 : RfR v8) (HX17 : ∀ (v4 : Int) (h4 : RfR v4) (v7 : Int) (h7 : InR v7) (u8 : Option ev_V) (w8 : nwo u8) (u9 : Option ev_V) (w9 : nwo u9) (u10 : Option ev_V) (w10 : nwo u10), Go Φ pr_P (fP g) 2 (X17 v4 v7) d pr_m90 17 [some (sR v0), some (sR v1), some (sR v2), some (sI v3), some (sR v4), some (sR v5), some (sI v6), some (sI v7), u8, u9, u10] [] g 0 0) (u9 : Option ev_V) (w9 : nwo u9) (u10 : Option ev_V) (w10 : nwo u10) : Go Φ pr_P (fP g) 2 (jT_roomiestFor_53 X17 g v0 v1 v2 v3 v4 v5 v6 v7 v8 ) d pr_m90 53 [some (sR v0), some (sR v1), some (sR v2), some (sI v3), some (sR v4), some (sR v5), some (sI v6), some (sI v7), some (sR v8), u9, u10] [] g 0 0 := by
  unfold jT_roomiestFor_53
  refine go_int kk90_0.1.2.2.2.1.2 1 rfl ?_
  refine go_goto kk90_0.1.2.2.2.2 ?_
  exact tjT_roomiestFor_58 hd hg hK0 h1 h2 h3 h4 h5 h6 h7 h8 (Or.inr rfl) HX17 u9 w9 u10 w10
theorem tbT_roomiestFor_17 {Φ : ev_P} {d : Nat} (hd : 2 ≤ d) {g : gH} (hg : HR g) {v0 v1 v2 v3 v5 v6 : Int} (hK0 : kd v0 = 5) (h1 : RfR v1) (h2 : RfR v2) (h3 : B01 v3) (h5 : RfR v5) (h6 : InR v6) {X17 : Int → Int → Option Int} (HX17 : ∀ (v4 : Int) (h4 : RfR v4) (v7 : Int) (h7 : InR v7) (u8 : Option ev_V) (w8 : nwo u8) (u9 : Option ev_V) (w9 : nwo u9) (u10 : Option ev_V) (w10 : nwo u10), Go Φ pr_P (fP g) 2 (X17 v4 v7) d pr_m90 17 [some (sR v0), some (sR v1), some (sR v2), some (sI v3), some (sR v4), some (sR v5), some (sI v6), some (sI v7), u8, u9, u10] [] g 0 0) : ∀ (v4 : Int) (h4 : RfR v4) (v7 : Int) (h7 : InR v7) (u8 : Option ev_V) (w8 : nwo u8) (u9 : Option ev_V) (w9 : nwo u9) (u10 : Option ev_V) (w10 : nwo u10), Go Φ pr_P (fP g) 2 (bT_roomiestFor_17 g v0 v1 v2 v3 v5 v6 X17 v4 v7) d pr_m90 17 [some (sR v0), some (sR v1), some (sR v2), some (sI v3), some (sR v4), some (sR v5), some (sI v6), some (sI v7), u8, u9, u10] [] g 0 0 := by
  intro v4 h4 v7 h7 u8 w8 u9 w9 u10 w10
  unfold bT_roomiestFor_17
  refine go_iload kk90_0.1.1.2.1.2.1 rfl ?_
  refine go_iload kk90_0.1.1.2.1.2.2 rfl ?_
  refine go_cmlt kk90_0.1.1.2.2.1.1 h7 h6 (fun c4 => ?_) (fun c5 => ?_)
  · refine go_aload kk90_0.1.1.2.2.1.2 rfl ?_
    refine go_iload kk90_0.1.1.2.2.2 rfl ?_
    refine go_ck (fun q7 => ?_)
    refine go_pald kk90_0.1.2.1.1.1.1 hg q7 (fun r6 => ?_)
    refine go_astore kk90_0.1.2.1.1.1.2 rfl (loc2 := [some (sR v0), some (sR v1), some (sR v2), some (sI v3), some (sR v4), some (sR v5), some (sI v6), some (sI v7), some (sR (g v5 v7)), u9, u10]) rfl ?_
    refine go_aload kk90_0.1.2.1.1.2.1 rfl ?_
    refine go_aload kk90_0.1.2.1.1.2.2 rfl ?_
    refine go_acmp kk90_0.1.2.1.2.1.1 r6 h2 (fun c8 => ?_) (fun c9 => ?_)
    · exact tjT_roomiestFor_57 hd hg hK0 h1 h2 h3 h4 h5 h6 h7 r6 HX17 u9 w9 u10 w10
    · refine go_iload kk90_0.1.2.1.2.1.2 rfl ?_
      refine go_ifeq kk90_0.1.2.1.2.2 (inR_b h3) (fun c10 => ?_) (fun c11 => ?_)
      · exact tjT_roomiestFor_53 hd hg hK0 h1 h2 h3 h4 h5 h6 h7 r6 HX17 u9 w9 u10 w10
      · refine go_aload kk90_0.1.2.2.1.1.1 rfl ?_
        refine go_ck (fun q12 => ?_)
        refine go_getI (bI := 5) kk90_0.1.2.2.1.1.2 hg q12 (by decide) rfl rfl (fun r13 => ?_)
        refine go_aload kk90_0.1.2.2.1.2.1 rfl ?_
        refine go_ck (fun q14 => ?_)
        refine go_getI (bI := 5) kk90_0.1.2.2.1.2.2 hg q14 (by decide) rfl rfl (fun r15 => ?_)
        refine go_cmeq kk90_0.1.2.2.2.1.1 r13 r15 (fun c16 => ?_) (fun c17 => ?_)
        · exact tjT_roomiestFor_53 hd hg hK0 h1 h2 h3 h4 h5 h6 h7 r6 HX17 u9 w9 u10 w10
        · exact tjT_roomiestFor_57 hd hg hK0 h1 h2 h3 h4 h5 h6 h7 r6 HX17 u9 w9 u10 w10
  · refine go_aload kk90_0.2.2.2.2.1.2 rfl ?_
    exact go_aret kk90_0.2.2.2.2.2 hg h4 ⟨Nat.zero_le _, Nat.zero_le _⟩ rfl
theorem tlT_roomiestFor_17 {Φ : ev_P} {d : Nat} (hd : 2 ≤ d) {g : gH} (hg : HR g) {v0 v1 v2 v3 v5 v6 : Int} (hK0 : kd v0 = 5) (h1 : RfR v1) (h2 : RfR v2) (h3 : B01 v3) (h5 : RfR v5) (h6 : InR v6) : ∀ n : Nat, ∀ (v4 : Int) (h4 : RfR v4) (v7 : Int) (h7 : InR v7) (u8 : Option ev_V) (w8 : nwo u8) (u9 : Option ev_V) (w9 : nwo u9) (u10 : Option ev_V) (w10 : nwo u10), Go Φ pr_P (fP g) 2 (lT_roomiestFor_17 g v0 v1 v2 v3 v5 v6 n v4 v7) d pr_m90 17 [some (sR v0), some (sR v1), some (sR v2), some (sI v3), some (sR v4), some (sR v5), some (sI v6), some (sI v7), u8, u9, u10] [] g 0 0 := by
  intro n
  induction n with
  | zero => intros; exact go_none
  | succ n ih => exact tbT_roomiestFor_17 hd hg hK0 h1 h2 h3 h5 h6 ih
theorem tfT_roomiestFor {Φ : ev_P} {d : Nat} (hd : 2 ≤ d) {g : gH} (hg : HR g) {v0 v1 v2 v3 : Int} (hK0 : kd v0 = 5) (h1 : RfR v1) (h2 : RfR v2) (h3 : B01 v3) : Go Φ pr_P (fP g) 2 (fT_roomiestFor g v0 v1 v2 v3) d (pr_P 90) 0 (ev_loc (pr_P 90).1 [(sR v0), (sR v1), (sR v2), (sI v3)]) [] g 0 0 := by
  show Go Φ pr_P (fP g) 2 (fT_roomiestFor g v0 v1 v2 v3) d pr_m90 0 [some (sR v0), some (sR v1), some (sR v2), some (sI v3), none, none, none, none, none, none, none] [] g 0 0
  unfold fT_roomiestFor
  refine go_null kk90_0.1.1.1.1.1.1 ?_
  refine go_astore kk90_0.1.1.1.1.1.2 rfl (loc2 := [some (sR v0), some (sR v1), some (sR v2), some (sI v3), some (sR (-1)), none, none, none, none, none, none]) rfl ?_
  refine go_aload kk90_0.1.1.1.1.2.1 rfl ?_
  refine go_getR (bI := 1) kk90_0.1.1.1.1.2.2 hg hK0 (by decide) rfl rfl (fun r1 => ?_)
  refine go_astore kk90_0.1.1.1.2.1.1 rfl (loc2 := [some (sR v0), some (sR v1), some (sR v2), some (sI v3), some (sR (-1)), some (sR (g v0 1)), none, none, none, none, none]) rfl ?_
  refine go_aload kk90_0.1.1.1.2.1.2 rfl ?_
  refine go_ck (fun q3 => ?_)
  refine go_alen kk90_0.1.1.1.2.2.1 (ka_24 q3) r1 (fun r2 => ?_)
  refine go_istore kk90_0.1.1.1.2.2.2 rfl (loc2 := [some (sR v0), some (sR v1), some (sR v2), some (sI v3), some (sR (-1)), some (sR (g v0 1)), some (sI (sz (g v0 1))), none, none, none, none]) rfl ?_
  refine go_int kk90_0.1.1.2.1.1.1 0 rfl ?_
  refine go_istore kk90_0.1.1.2.1.1.2 rfl (loc2 := [some (sR v0), some (sR v1), some (sR v2), some (sI v3), some (sR (-1)), some (sR (g v0 1)), some (sI (sz (g v0 1))), some (sI 0), none, none, none]) rfl ?_
  exact tlT_roomiestFor_17 hd hg hK0 h1 h2 h3 r1 r2 fu (-1) rfR_null 0 (inR_b (Or.inl rfl)) none rfl none rfl none rfl
theorem tbT_firstKin_19 {Φ : ev_P} {d : Nat} (hd : 2 ≤ d) {g : gH} (hg : HR g) {v0 v1 v2 v3 v4 v5 : Int} (hK0 : kd v0 = 5) (h1 : RfR v1) (h2 : RfR v2) (h3 : RfR v3) (h4 : RfR v4) (h5 : InR v5) {X19 : Int → Option Int} (HX19 : ∀ (v6 : Int) (h6 : InR v6) (u7 : Option ev_V) (w7 : nwo u7), Go Φ pr_P (fP g) 2 (X19 v6) d pr_m91 19 [some (sR v0), some (sR v1), some (sR v2), some (sR v3), some (sR v4), some (sI v5), some (sI v6), u7] [] g 0 0) : ∀ (v6 : Int) (h6 : InR v6) (u7 : Option ev_V) (w7 : nwo u7), Go Φ pr_P (fP g) 2 (bT_firstKin_19 g v0 v1 v2 v3 v4 v5 X19 v6) d pr_m91 19 [some (sR v0), some (sR v1), some (sR v2), some (sR v3), some (sR v4), some (sI v5), some (sI v6), u7] [] g 0 0 := by
  intro v6 h6 u7 w7
  unfold bT_firstKin_19
  refine go_iload kk91_0.1.2.1.1.1.2 rfl ?_
  refine go_iload kk91_0.1.2.1.1.2 rfl ?_
  refine go_cmlt kk91_0.1.2.1.2.1 h6 h5 (fun c6 => ?_) (fun c7 => ?_)
  · refine go_aload kk91_0.1.2.1.2.2 rfl ?_
    refine go_iload kk91_0.1.2.2.1.1 rfl ?_
    refine go_ck (fun q9 => ?_)
    refine go_pald kk91_0.1.2.2.1.2 hg q9 (fun r8 => ?_)
    refine go_astore kk91_0.1.2.2.2.1 rfl (loc2 := [some (sR v0), some (sR v1), some (sR v2), some (sR v3), some (sR v4), some (sI v5), some (sI v6), some (sR (g v4 v6))]) rfl ?_
    refine go_aload kk91_0.1.2.2.2.2 rfl ?_
    refine go_isnull kk91_0.2.1.1.1.1.1  (fun c10 => ?_) (fun c11 => ?_)
    · refine go_iinc kk91_0.2.2.2.1.1 rfl rfl 1 rfl (loc2 := [some (sR v0), some (sR v1), some (sR v2), some (sR v3), some (sR v4), some (sI v5), some (sI (w32 (v6 + 1))), some (sR (g v4 v6))]) rfl ?_
      refine go_goto kk91_0.2.2.2.1.2 ?_
      exact HX19 (w32 (v6 + 1)) (inR_w32 _) (some (sR (g v4 v6))) rfl
    · refine go_aload kk91_0.2.1.1.1.1.2 rfl ?_
      refine go_aload kk91_0.2.1.1.1.2 rfl ?_
      refine go_acmp kk91_0.2.1.1.2.1 r8 h2 (fun c12 => ?_) (fun c13 => ?_)
      · refine go_iinc kk91_0.2.2.2.1.1 rfl rfl 1 rfl (loc2 := [some (sR v0), some (sR v1), some (sR v2), some (sR v3), some (sR v4), some (sI v5), some (sI (w32 (v6 + 1))), some (sR (g v4 v6))]) rfl ?_
        refine go_goto kk91_0.2.2.2.1.2 ?_
        exact HX19 (w32 (v6 + 1)) (inR_w32 _) (some (sR (g v4 v6))) rfl
      · refine go_aload kk91_0.2.1.1.2.2 rfl ?_
        refine go_aload kk91_0.2.1.2.1.1.1 rfl ?_
        refine go_ck (fun q14 => ?_)
        refine go_callP3 kk91_0.2.1.2.1.1.2 rfl rfl rfl ⟨by decide, _, rfl, q14⟩ ⟨Nat.zero_le _, Nat.zero_le _⟩ (by omega) (tfP_isRunningChildOf (by omega) hg q14  h3) (fun y15 r16 => ?_)
        refine go_ifeq kk91_0.2.1.2.1.2 (inR_b r16) (fun c19 => ?_) (fun c20 => ?_)
        · refine go_iinc kk91_0.2.2.2.1.1 rfl rfl 1 rfl (loc2 := [some (sR v0), some (sR v1), some (sR v2), some (sR v3), some (sR v4), some (sI v5), some (sI (w32 (v6 + 1))), some (sR (g v4 v6))]) rfl ?_
          refine go_goto kk91_0.2.2.2.1.2 ?_
          exact HX19 (w32 (v6 + 1)) (inR_w32 _) (some (sR (g v4 v6))) rfl
        · refine go_aload kk91_0.2.1.2.2.1 rfl ?_
          refine go_aload kk91_0.2.1.2.2.2 rfl ?_
          refine go_aload kk91_0.2.2.1.1.1.1 rfl ?_
          refine go_callP3 kk91_0.2.2.1.1.1.2 rfl rfl rfl ⟨by decide, _, rfl, hK0⟩ ⟨Nat.zero_le _, Nat.zero_le _⟩ (by omega) (tfT_canAdopt (by omega) hg hK0  r8 h1) (fun y21 r22 => ?_)
          refine go_ifeq kk91_0.2.2.1.1.2 (inR_b r22) (fun c25 => ?_) (fun c26 => ?_)
          · refine go_iinc kk91_0.2.2.2.1.1 rfl rfl 1 rfl (loc2 := [some (sR v0), some (sR v1), some (sR v2), some (sR v3), some (sR v4), some (sI v5), some (sI (w32 (v6 + 1))), some (sR (g v4 v6))]) rfl ?_
            refine go_goto kk91_0.2.2.2.1.2 ?_
            exact HX19 (w32 (v6 + 1)) (inR_w32 _) (some (sR (g v4 v6))) rfl
          · refine go_aload kk91_0.2.2.1.2.1 rfl ?_
            exact go_aret kk91_0.2.2.1.2.2 hg r8 ⟨Nat.zero_le _, Nat.zero_le _⟩ rfl
  · refine go_null kk91_0.2.2.2.2.1 ?_
    exact go_aret kk91_0.2.2.2.2.2 hg rfR_null ⟨Nat.zero_le _, Nat.zero_le _⟩ rfl
theorem tlT_firstKin_19 {Φ : ev_P} {d : Nat} (hd : 2 ≤ d) {g : gH} (hg : HR g) {v0 v1 v2 v3 v4 v5 : Int} (hK0 : kd v0 = 5) (h1 : RfR v1) (h2 : RfR v2) (h3 : RfR v3) (h4 : RfR v4) (h5 : InR v5) : ∀ n : Nat, ∀ (v6 : Int) (h6 : InR v6) (u7 : Option ev_V) (w7 : nwo u7), Go Φ pr_P (fP g) 2 (lT_firstKin_19 g v0 v1 v2 v3 v4 v5 n v6) d pr_m91 19 [some (sR v0), some (sR v1), some (sR v2), some (sR v3), some (sR v4), some (sI v5), some (sI v6), u7] [] g 0 0 := by
  intro n
  induction n with
  | zero => intros; exact go_none
  | succ n ih => exact tbT_firstKin_19 hd hg hK0 h1 h2 h3 h4 h5 ih
theorem tfT_firstKin {Φ : ev_P} {d : Nat} (hd : 2 ≤ d) {g : gH} (hg : HR g) {v0 v1 v2 : Int} (hK0 : kd v0 = 5) (h1 : RfR v1) (h2 : RfR v2) : Go Φ pr_P (fP g) 2 (fT_firstKin g v0 v1 v2) d (pr_P 91) 0 (ev_loc (pr_P 91).1 [(sR v0), (sR v1), (sR v2)]) [] g 0 0 := by
  show Go Φ pr_P (fP g) 2 (fT_firstKin g v0 v1 v2) d pr_m91 0 [some (sR v0), some (sR v1), some (sR v2), none, none, none, none, none] [] g 0 0
  unfold fT_firstKin
  refine go_aload kk91_0.1.1.1.1.1.1 rfl ?_
  refine go_ck (fun q1 => ?_)
  refine go_getR (bI := 2) kk91_0.1.1.1.1.1.2 hg q1 (by decide) rfl rfl (fun r2 => ?_)
  refine go_astore kk91_0.1.1.1.1.2 rfl (loc2 := [some (sR v0), some (sR v1), some (sR v2), some (sR (g v2 2)), none, none, none, none]) rfl ?_
  refine go_aload kk91_0.1.1.1.2.1 rfl ?_
  refine go_getR (bI := 1) kk91_0.1.1.1.2.2 hg hK0 (by decide) rfl rfl (fun r3 => ?_)
  refine go_astore kk91_0.1.1.2.1.1.1 rfl (loc2 := [some (sR v0), some (sR v1), some (sR v2), some (sR (g v2 2)), some (sR (g v0 1)), none, none, none]) rfl ?_
  refine go_aload kk91_0.1.1.2.1.1.2 rfl ?_
  refine go_ck (fun q5 => ?_)
  refine go_alen kk91_0.1.1.2.1.2 (ka_24 q5) r3 (fun r4 => ?_)
  refine go_istore kk91_0.1.1.2.2.1 rfl (loc2 := [some (sR v0), some (sR v1), some (sR v2), some (sR (g v2 2)), some (sR (g v0 1)), some (sI (sz (g v0 1))), none, none]) rfl ?_
  refine go_int kk91_0.1.1.2.2.2 0 rfl ?_
  refine go_istore kk91_0.1.2.1.1.1.1 rfl (loc2 := [some (sR v0), some (sR v1), some (sR v2), some (sR (g v2 2)), some (sR (g v0 1)), some (sI (sz (g v0 1))), some (sI 0), none]) rfl ?_
  exact tlT_firstKin_19 hd hg hK0 h1 h2 r2 r3 r4 fu 0 (inR_b (Or.inl rfl)) none rfl
theorem tbT_oldest_12 {Φ : ev_P} {d : Nat} (hd : 2 ≤ d) {g : gH} (hg : HR g) {v0 v1 v2 v3 v4 : Int} (hK0 : kd v0 = 5) (h1 : RfR v1) (h2 : RfR v2) (h3 : RfR v3) (h4 : InR v4) {X12 : Int → Option Int} (HX12 : ∀ (v5 : Int) (h5 : InR v5) (u6 : Option ev_V) (w6 : nwo u6), Go Φ pr_P (fP g) 2 (X12 v5) d pr_m92 12 [some (sR v0), some (sR v1), some (sR v2), some (sR v3), some (sI v4), some (sI v5), u6] [] g 0 0) : ∀ (v5 : Int) (h5 : InR v5) (u6 : Option ev_V) (w6 : nwo u6), Go Φ pr_P (fP g) 2 (bT_oldest_12 g v0 v1 v2 v3 v4 X12 v5) d pr_m92 12 [some (sR v0), some (sR v1), some (sR v2), some (sR v3), some (sI v4), some (sI v5), u6] [] g 0 0 := by
  intro v5 h5 u6 w6
  unfold bT_oldest_12
  refine go_iload kk92_0.1.2.1.1.1 rfl ?_
  refine go_iload kk92_0.1.2.1.1.2 rfl ?_
  refine go_cmlt kk92_0.1.2.1.2.1 h5 h4 (fun c4 => ?_) (fun c5 => ?_)
  · refine go_aload kk92_0.1.2.1.2.2 rfl ?_
    refine go_iload kk92_0.1.2.2.1.1 rfl ?_
    refine go_ck (fun q7 => ?_)
    refine go_pald kk92_0.1.2.2.1.2 hg q7 (fun r6 => ?_)
    refine go_astore kk92_0.1.2.2.2 rfl (loc2 := [some (sR v0), some (sR v1), some (sR v2), some (sR v3), some (sI v4), some (sI v5), some (sR (g v3 v5))]) rfl ?_
    refine go_aload kk92_0.2.1.1.1.1 rfl ?_
    refine go_aload kk92_0.2.1.1.1.2 rfl ?_
    refine go_acmp kk92_0.2.1.1.2.1 r6 h2 (fun c8 => ?_) (fun c9 => ?_)
    · refine go_iinc kk92_0.2.2.1.2.2 rfl rfl 1 rfl (loc2 := [some (sR v0), some (sR v1), some (sR v2), some (sR v3), some (sI v4), some (sI (w32 (v5 + 1))), some (sR (g v3 v5))]) rfl ?_
      refine go_goto kk92_0.2.2.2.1.1 ?_
      exact HX12 (w32 (v5 + 1)) (inR_w32 _) (some (sR (g v3 v5))) rfl
    · refine go_aload kk92_0.2.1.1.2.2 rfl ?_
      refine go_aload kk92_0.2.1.2.1.1 rfl ?_
      refine go_aload kk92_0.2.1.2.1.2 rfl ?_
      refine go_callP3 kk92_0.2.1.2.2 rfl rfl rfl ⟨by decide, _, rfl, hK0⟩ ⟨Nat.zero_le _, Nat.zero_le _⟩ (by omega) (tfT_canAdopt (by omega) hg hK0  r6 h1) (fun y10 r11 => ?_)
      refine go_ifeq kk92_0.2.2.1.1.1 (inR_b r11) (fun c14 => ?_) (fun c15 => ?_)
      · refine go_iinc kk92_0.2.2.1.2.2 rfl rfl 1 rfl (loc2 := [some (sR v0), some (sR v1), some (sR v2), some (sR v3), some (sI v4), some (sI (w32 (v5 + 1))), some (sR (g v3 v5))]) rfl ?_
        refine go_goto kk92_0.2.2.2.1.1 ?_
        exact HX12 (w32 (v5 + 1)) (inR_w32 _) (some (sR (g v3 v5))) rfl
      · refine go_aload kk92_0.2.2.1.1.2 rfl ?_
        exact go_aret kk92_0.2.2.1.2.1 hg r6 ⟨Nat.zero_le _, Nat.zero_le _⟩ rfl
  · refine go_null kk92_0.2.2.2.1.2 ?_
    exact go_aret kk92_0.2.2.2.2 hg rfR_null ⟨Nat.zero_le _, Nat.zero_le _⟩ rfl
theorem tlT_oldest_12 {Φ : ev_P} {d : Nat} (hd : 2 ≤ d) {g : gH} (hg : HR g) {v0 v1 v2 v3 v4 : Int} (hK0 : kd v0 = 5) (h1 : RfR v1) (h2 : RfR v2) (h3 : RfR v3) (h4 : InR v4) : ∀ n : Nat, ∀ (v5 : Int) (h5 : InR v5) (u6 : Option ev_V) (w6 : nwo u6), Go Φ pr_P (fP g) 2 (lT_oldest_12 g v0 v1 v2 v3 v4 n v5) d pr_m92 12 [some (sR v0), some (sR v1), some (sR v2), some (sR v3), some (sI v4), some (sI v5), u6] [] g 0 0 := by
  intro n
  induction n with
  | zero => intros; exact go_none
  | succ n ih => exact tbT_oldest_12 hd hg hK0 h1 h2 h3 h4 ih
theorem tfT_oldest {Φ : ev_P} {d : Nat} (hd : 2 ≤ d) {g : gH} (hg : HR g) {v0 v1 v2 : Int} (hK0 : kd v0 = 5) (h1 : RfR v1) (h2 : RfR v2) : Go Φ pr_P (fP g) 2 (fT_oldest g v0 v1 v2) d (pr_P 92) 0 (ev_loc (pr_P 92).1 [(sR v0), (sR v1), (sR v2)]) [] g 0 0 := by
  show Go Φ pr_P (fP g) 2 (fT_oldest g v0 v1 v2) d pr_m92 0 [some (sR v0), some (sR v1), some (sR v2), none, none, none, none] [] g 0 0
  unfold fT_oldest
  refine go_aload kk92_0.1.1.1.1.1 rfl ?_
  refine go_getR (bI := 1) kk92_0.1.1.1.1.2 hg hK0 (by decide) rfl rfl (fun r1 => ?_)
  refine go_astore kk92_0.1.1.1.2.1 rfl (loc2 := [some (sR v0), some (sR v1), some (sR v2), some (sR (g v0 1)), none, none, none]) rfl ?_
  refine go_aload kk92_0.1.1.1.2.2 rfl ?_
  refine go_ck (fun q3 => ?_)
  refine go_alen kk92_0.1.1.2.1.1 (ka_24 q3) r1 (fun r2 => ?_)
  refine go_istore kk92_0.1.1.2.1.2 rfl (loc2 := [some (sR v0), some (sR v1), some (sR v2), some (sR (g v0 1)), some (sI (sz (g v0 1))), none, none]) rfl ?_
  refine go_int kk92_0.1.1.2.2.1 0 rfl ?_
  refine go_istore kk92_0.1.1.2.2.2 rfl (loc2 := [some (sR v0), some (sR v1), some (sR v2), some (sR (g v0 1)), some (sI (sz (g v0 1))), some (sI 0), none]) rfl ?_
  exact tlT_oldest_12 hd hg hK0 h1 h2 r1 r2 fu 0 (inR_b (Or.inl rfl)) none rfl
theorem tjT_adopterOf_130 {Φ : ev_P} {d : Nat} (hd : 3 ≤ d) {g : gH} (hg : HR g) {v0 v3 : Int} (hK0 : kd v0 = 5) (h3 : RfR v3) (u1 : Option ev_V) (w1 : nwo u1) (u2 : Option ev_V) (w2 : nwo u2) (u4 : Option ev_V) (w4 : nwo u4) : Go Φ pr_P (fP g) 2 (jT_adopterOf_130 g v0 v3 ) d pr_m88 130 [some (sR v0), u1, u2, some (sR v3), u4] [] g 0 0 := by
  unfold jT_adopterOf_130
  refine go_aload kk88_0.2.2.2.1.1.1 rfl ?_
  refine go_isnull kk88_0.2.2.2.1.1.2  (fun c43 => ?_) (fun c44 => ?_)
  · refine go_aload kk88_0.2.2.2.1.2.1 rfl ?_
    refine go_getR (bI := 0) kk88_0.2.2.2.1.2.2 hg hK0 (by decide) rfl rfl (fun r45 => ?_)
    refine go_goto kk88_0.2.2.2.2.1.1 ?_
    exact go_aret kk88_0.2.2.2.2.2 hg r45 ⟨Nat.zero_le _, Nat.zero_le _⟩ rfl
  · refine go_aload kk88_0.2.2.2.2.1.2 rfl ?_
    exact go_aret kk88_0.2.2.2.2.2 hg h3 ⟨Nat.zero_le _, Nat.zero_le _⟩ rfl
theorem tbT_adopterOf_19 {Φ : ev_P} {d : Nat} (hd : 3 ≤ d) {g : gH} (hg : HR g) {v0 v1 v2 : Int} (hK0 : kd v0 = 5) (h1 : RfR v1) (h2 : RfR v2) {X19 : Int → Int → Option Int} (HX19 : ∀ (v3 : Int) (h3 : RfR v3) (v4 : Int) (h4 : InR v4), Go Φ pr_P (fP g) 2 (X19 v3 v4) d pr_m88 19 [some (sR v0), some (sR v1), some (sR v2), some (sR v3), some (sI v4)] [] g 0 0) : ∀ (v3 : Int) (h3 : RfR v3) (v4 : Int) (h4 : InR v4), Go Φ pr_P (fP g) 2 (bT_adopterOf_19 g v0 v1 v2 X19 v3 v4) d pr_m88 19 [some (sR v0), some (sR v1), some (sR v2), some (sR v3), some (sI v4)] [] g 0 0 := by
  intro v3 h3 v4 h4
  unfold bT_adopterOf_19
  refine go_iload kk88_0.1.1.2.2.1.1 rfl ?_
  refine go_int kk88_0.1.1.2.2.1.2 5 rfl ?_
  refine go_cmlt kk88_0.1.1.2.2.2.1 h4 (inR_of (by decide)) (fun c6 => ?_) (fun c7 => ?_)
  · refine go_aload kk88_0.1.1.2.2.2.2 rfl ?_
    refine go_isnull kk88_0.1.2.1.1.1.1  (fun c8 => ?_) (fun c9 => ?_)
    · refine go_aload kk88_0.1.2.1.1.1.2 rfl ?_
      refine go_getR (bI := 3) kk88_0.1.2.1.1.2.1 hg hK0 (by decide) rfl rfl (fun r10 => ?_)
      refine go_iload kk88_0.1.2.1.1.2.2 rfl ?_
      refine go_ck (fun q12 => ?_)
      refine go_iald kk88_0.1.2.1.2.1.1 hg q12 r10 (fun r11 => ?_)
      refine go_ite (fun c13 => ?_) (fun c14 => ?_)
      · refine go_swh (lo := 0) (hi := 4) (i := 0) kk88_0.1.2.1.2.1.2 rfl rfl (by omega) (by omega) rfl ?_
        refine go_aload kk88_0.1.2.1.2.2.1 rfl ?_
        refine go_aload kk88_0.1.2.1.2.2.2 rfl ?_
        refine go_aload kk88_0.1.2.2.1.1.1 rfl ?_
        refine go_callP2 kk88_0.1.2.2.1.1.2 rfl rfl rfl ⟨by decide, _, rfl, hK0⟩ ⟨Nat.zero_le _, Nat.zero_le _⟩ (by omega) (tfT_nearest (by omega) hg hK0  h1 h2) (fun y15 r16 => ?_)
        refine go_astore kk88_0.1.2.2.1.2.1 rfl (loc2 := [some (sR v0), some (sR v1), some (sR v2), some (sR y15), some (sI v4)]) rfl ?_
        refine go_goto kk88_0.1.2.2.1.2.2 ?_
        refine go_iinc kk88_0.2.2.1.2.2.1 rfl rfl 1 rfl (loc2 := [some (sR v0), some (sR v1), some (sR v2), some (sR y15), some (sI (w32 (v4 + 1)))]) rfl ?_
        refine go_goto kk88_0.2.2.1.2.2.2 ?_
        exact HX19 y15 r16 (w32 (v4 + 1)) (inR_w32 _)
      refine go_ite (fun c19 => ?_) (fun c20 => ?_)
      · refine go_swh (lo := 0) (hi := 4) (i := 1) kk88_0.1.2.1.2.1.2 rfl rfl (by omega) (by omega) rfl ?_
        refine go_aload kk88_0.1.2.2.2.1.1 rfl ?_
        refine go_aload kk88_0.1.2.2.2.1.2 rfl ?_
        refine go_aload kk88_0.1.2.2.2.2.1 rfl ?_
        refine go_int kk88_0.1.2.2.2.2.2 1 rfl ?_
        refine go_callP2 kk88_0.2.1.1.1.1.1 rfl rfl rfl ⟨by decide, _, rfl, hK0⟩ ⟨Nat.zero_le _, Nat.zero_le _⟩ (by omega) (tfT_roomiestFor (by omega) hg hK0  h1 h2 (Or.inr rfl)) (fun y21 r22 => ?_)
        refine go_astore kk88_0.2.1.1.1.1.2 rfl (loc2 := [some (sR v0), some (sR v1), some (sR v2), some (sR y21), some (sI v4)]) rfl ?_
        refine go_goto kk88_0.2.1.1.1.2.1 ?_
        refine go_iinc kk88_0.2.2.1.2.2.1 rfl rfl 1 rfl (loc2 := [some (sR v0), some (sR v1), some (sR v2), some (sR y21), some (sI (w32 (v4 + 1)))]) rfl ?_
        refine go_goto kk88_0.2.2.1.2.2.2 ?_
        exact HX19 y21 r22 (w32 (v4 + 1)) (inR_w32 _)
      refine go_ite (fun c25 => ?_) (fun c26 => ?_)
      · refine go_swh (lo := 0) (hi := 4) (i := 2) kk88_0.1.2.1.2.1.2 rfl rfl (by omega) (by omega) rfl ?_
        refine go_aload kk88_0.2.1.1.1.2.2 rfl ?_
        refine go_aload kk88_0.2.1.1.2.1.1 rfl ?_
        refine go_aload kk88_0.2.1.1.2.1.2 rfl ?_
        refine go_int kk88_0.2.1.1.2.2.1 0 rfl ?_
        refine go_callP2 kk88_0.2.1.1.2.2.2 rfl rfl rfl ⟨by decide, _, rfl, hK0⟩ ⟨Nat.zero_le _, Nat.zero_le _⟩ (by omega) (tfT_roomiestFor (by omega) hg hK0  h1 h2 (Or.inl rfl)) (fun y27 r28 => ?_)
        refine go_astore kk88_0.2.1.2.1.1.1 rfl (loc2 := [some (sR v0), some (sR v1), some (sR v2), some (sR y27), some (sI v4)]) rfl ?_
        refine go_goto kk88_0.2.1.2.1.1.2 ?_
        refine go_iinc kk88_0.2.2.1.2.2.1 rfl rfl 1 rfl (loc2 := [some (sR v0), some (sR v1), some (sR v2), some (sR y27), some (sI (w32 (v4 + 1)))]) rfl ?_
        refine go_goto kk88_0.2.2.1.2.2.2 ?_
        exact HX19 y27 r28 (w32 (v4 + 1)) (inR_w32 _)
      refine go_ite (fun c31 => ?_) (fun c32 => ?_)
      · refine go_swh (lo := 0) (hi := 4) (i := 3) kk88_0.1.2.1.2.1.2 rfl rfl (by omega) (by omega) rfl ?_
        refine go_aload kk88_0.2.1.2.1.2.1 rfl ?_
        refine go_aload kk88_0.2.1.2.1.2.2 rfl ?_
        refine go_aload kk88_0.2.1.2.2.1.1 rfl ?_
        refine go_callP2 kk88_0.2.1.2.2.1.2 rfl rfl rfl ⟨by decide, _, rfl, hK0⟩ ⟨Nat.zero_le _, Nat.zero_le _⟩ (by omega) (tfT_firstKin (by omega) hg hK0  h1 h2) (fun y33 r34 => ?_)
        refine go_astore kk88_0.2.1.2.2.2.1 rfl (loc2 := [some (sR v0), some (sR v1), some (sR v2), some (sR y33), some (sI v4)]) rfl ?_
        refine go_goto kk88_0.2.1.2.2.2.2 ?_
        refine go_iinc kk88_0.2.2.1.2.2.1 rfl rfl 1 rfl (loc2 := [some (sR v0), some (sR v1), some (sR v2), some (sR y33), some (sI (w32 (v4 + 1)))]) rfl ?_
        refine go_goto kk88_0.2.2.1.2.2.2 ?_
        exact HX19 y33 r34 (w32 (v4 + 1)) (inR_w32 _)
      refine go_ite (fun c37 => ?_) (fun c38 => ?_)
      · refine go_swh (lo := 0) (hi := 4) (i := 4) kk88_0.1.2.1.2.1.2 rfl rfl (by omega) (by omega) rfl ?_
        refine go_aload kk88_0.2.2.1.1.1.1 rfl ?_
        refine go_aload kk88_0.2.2.1.1.1.2 rfl ?_
        refine go_aload kk88_0.2.2.1.1.2.1 rfl ?_
        refine go_callP2 kk88_0.2.2.1.1.2.2 rfl rfl rfl ⟨by decide, _, rfl, hK0⟩ ⟨Nat.zero_le _, Nat.zero_le _⟩ (by omega) (tfT_oldest (by omega) hg hK0  h1 h2) (fun y39 r40 => ?_)
        refine go_astore kk88_0.2.2.1.2.1.1 rfl (loc2 := [some (sR v0), some (sR v1), some (sR v2), some (sR y39), some (sI v4)]) rfl ?_
        refine go_goto kk88_0.2.2.1.2.1.2 ?_
        refine go_iinc kk88_0.2.2.1.2.2.1 rfl rfl 1 rfl (loc2 := [some (sR v0), some (sR v1), some (sR v2), some (sR y39), some (sI (w32 (v4 + 1)))]) rfl ?_
        refine go_goto kk88_0.2.2.1.2.2.2 ?_
        exact HX19 y39 r40 (w32 (v4 + 1)) (inR_w32 _)
      refine go_swd (lo := 0) (hi := 4) kk88_0.1.2.1.2.1.2 rfl rfl r11 (by omega) (by omega) ?_
      refine go_iinc kk88_0.2.2.1.2.2.1 rfl rfl 1 rfl (loc2 := [some (sR v0), some (sR v1), some (sR v2), some (sR v3), some (sI (w32 (v4 + 1)))]) rfl ?_
      refine go_goto kk88_0.2.2.1.2.2.2 ?_
      exact HX19 v3 h3 (w32 (v4 + 1)) (inR_w32 _)
    · exact tjT_adopterOf_130 hd hg hK0 h3 (some (sR v1)) rfl (some (sR v2)) rfl (some (sI v4)) rfl
  · exact tjT_adopterOf_130 hd hg hK0 h3 (some (sR v1)) rfl (some (sR v2)) rfl (some (sI v4)) rfl
theorem tlT_adopterOf_19 {Φ : ev_P} {d : Nat} (hd : 3 ≤ d) {g : gH} (hg : HR g) {v0 v1 v2 : Int} (hK0 : kd v0 = 5) (h1 : RfR v1) (h2 : RfR v2) : ∀ n : Nat, ∀ (v3 : Int) (h3 : RfR v3) (v4 : Int) (h4 : InR v4), Go Φ pr_P (fP g) 2 (lT_adopterOf_19 g v0 v1 v2 n v3 v4) d pr_m88 19 [some (sR v0), some (sR v1), some (sR v2), some (sR v3), some (sI v4)] [] g 0 0 := by
  intro n
  induction n with
  | zero => intros; exact go_none
  | succ n ih => exact tbT_adopterOf_19 hd hg hK0 h1 h2 ih
theorem tfT_adopterOf {Φ : ev_P} {d : Nat} (hd : 3 ≤ d) {g : gH} (hg : HR g) {v0 v1 : Int} (hK0 : kd v0 = 5) (h1 : RfR v1) : Go Φ pr_P (fP g) 2 (fT_adopterOf g v0 v1) d (pr_P 88) 0 (ev_loc (pr_P 88).1 [(sR v0), (sR v1)]) [] g 0 0 := by
  show Go Φ pr_P (fP g) 2 (fT_adopterOf g v0 v1) d pr_m88 0 [some (sR v0), some (sR v1), none, none, none] [] g 0 0
  unfold fT_adopterOf
  refine go_aload kk88_0.1.1.1.1.1.1 rfl ?_
  refine go_ck (fun q1 => ?_)
  refine go_getR (bI := 2) kk88_0.1.1.1.1.1.2 hg q1 (by decide) rfl rfl (fun r2 => ?_)
  refine go_astore kk88_0.1.1.1.1.2.1 rfl (loc2 := [some (sR v0), some (sR v1), some (sR (g v1 2)), none, none]) rfl ?_
  refine go_aload kk88_0.1.1.1.1.2.2 rfl ?_
  refine go_isnull kk88_0.1.1.1.2.1.1  (fun c3 => ?_) (fun c4 => ?_)
  · refine go_aload kk88_0.1.1.1.2.1.2 rfl ?_
    refine go_getR (bI := 0) kk88_0.1.1.1.2.2.1 hg hK0 (by decide) rfl rfl (fun r5 => ?_)
    exact go_aret kk88_0.1.1.1.2.2.2 hg r5 ⟨Nat.zero_le _, Nat.zero_le _⟩ rfl
  · refine go_null kk88_0.1.1.2.1.1.1 ?_
    refine go_astore kk88_0.1.1.2.1.1.2 rfl (loc2 := [some (sR v0), some (sR v1), some (sR (g v1 2)), some (sR (-1)), none]) rfl ?_
    refine go_int kk88_0.1.1.2.1.2.1 0 rfl ?_
    refine go_istore kk88_0.1.1.2.1.2.2 rfl (loc2 := [some (sR v0), some (sR v1), some (sR (g v1 2)), some (sR (-1)), some (sI 0)]) rfl ?_
    exact tlT_adopterOf_19 hd hg hK0 h1 r2 fu (-1) rfR_null 0 (inR_b (Or.inl rfl))
theorem tbT_readZombiesOf_14 {Φ : ev_P} {d : Nat} (hd : 1 ≤ d) {v1 v3 v4 : Int} (h1 : RfR v1) (h3 : RfR v3) (h4 : InR v4) {X14 : Int → Int → gH → Option (Int × gH)} (HX14 : ∀ (v2 : Int) (h2 : InR v2) (v5 : Int) (h5 : InR v5) (g : gH) (hg : HR g) (u0 : Option ev_V) (w0 : nwo u0) (u6 : Option ev_V) (w6 : nwo u6), Go Φ pr_P fN 1 (X14 v2 v5 g) d pr_m97 14 [u0, some (sR v1), some (sI v2), some (sR v3), some (sI v4), some (sI v5), u6] [] g 0 0) : ∀ (v2 : Int) (h2 : InR v2) (v5 : Int) (h5 : InR v5) (g : gH) (hg : HR g) (u0 : Option ev_V) (w0 : nwo u0) (u6 : Option ev_V) (w6 : nwo u6), Go Φ pr_P fN 1 (bT_readZombiesOf_14 v1 v3 v4 X14 v2 v5 g) d pr_m97 14 [u0, some (sR v1), some (sI v2), some (sR v3), some (sI v4), some (sI v5), u6] [] g 0 0 := by
  intro v2 h2 v5 h5 g hg u0 w0 u6 w6
  unfold bT_readZombiesOf_14
  refine go_iload kk97_0.1.2.1.1.2 rfl ?_
  refine go_iload kk97_0.1.2.1.2.1 rfl ?_
  refine go_cmlt kk97_0.1.2.1.2.2 h5 h4 (fun c4 => ?_) (fun c5 => ?_)
  · refine go_aload kk97_0.1.2.2.1.1 rfl ?_
    refine go_iload kk97_0.1.2.2.1.2 rfl ?_
    refine go_ck (fun q7 => ?_)
    refine go_pald kk97_0.1.2.2.2.1 hg q7 (fun r6 => ?_)
    refine go_astore kk97_0.1.2.2.2.2 rfl (loc2 := [u0, some (sR v1), some (sI v2), some (sR v3), some (sI v4), some (sI v5), some (sR (g v3 v5))]) rfl ?_
    refine go_aload kk97_0.2.1.1.1.1 rfl ?_
    refine go_aload kk97_0.2.1.1.1.2 rfl ?_
    refine go_ck (fun q8 => ?_)
    refine go_callP3 kk97_0.2.1.1.2.1 rfl rfl rfl ⟨by decide, _, rfl, q8⟩ ⟨Nat.zero_le _, Nat.zero_le _⟩ (by omega) (tfP_isZombieOf (by omega) hg q8  h1) (fun y9 r10 => ?_)
    refine go_ifeq kk97_0.2.1.1.2.2 (inR_b r10) (fun c13 => ?_) (fun c14 => ?_)
    · refine go_iinc kk97_0.2.2.2.1.1 rfl rfl 1 rfl (loc2 := [u0, some (sR v1), some (sI v2), some (sR v3), some (sI v4), some (sI (w32 (v5 + 1))), some (sR (g v3 v5))]) rfl ?_
      refine go_goto kk97_0.2.2.2.1.2 ?_
      exact HX14 v2 h2 (w32 (v5 + 1)) (inR_w32 _) g hg u0 w0 (some (sR (g v3 v5))) rfl
    · refine go_aload kk97_0.2.1.2.1.1 rfl ?_
      refine go_int kk97_0.2.1.2.1.2 2 rfl ?_
      refine go_putI (bI := 1) kk97_0.2.1.2.2.1 hg q8 (by decide) rfl rfl (inR_of (by decide)) (fun g15 e16 => ?_)
      refine go_iload kk97_0.2.1.2.2.2 rfl ?_
      refine go_aload kk97_0.2.2.1.1.1 rfl ?_
      refine go_getI (bI := 9) kk97_0.2.2.1.1.2 e16 q8 (by decide) rfl rfl (fun r17 => ?_)
      refine go_iadd kk97_0.2.2.1.2.1 ?_
      refine go_istore kk97_0.2.2.1.2.2 rfl (loc2 := [u0, some (sR v1), some (sI (w32 (v2 + (g15 (g v3 v5) 9)))), some (sR v3), some (sI v4), some (sI v5), some (sR (g v3 v5))]) rfl ?_
      refine go_iinc kk97_0.2.2.2.1.1 rfl rfl 1 rfl (loc2 := [u0, some (sR v1), some (sI (w32 (v2 + (g15 (g v3 v5) 9)))), some (sR v3), some (sI v4), some (sI (w32 (v5 + 1))), some (sR (g v3 v5))]) rfl ?_
      refine go_goto kk97_0.2.2.2.1.2 ?_
      exact HX14 (w32 (v2 + (g15 (g v3 v5) 9))) (inR_w32 _) (w32 (v5 + 1)) (inR_w32 _) g15 e16 u0 w0 (some (sR (g v3 v5))) rfl
  · refine go_iload kk97_0.2.2.2.2.1 rfl ?_
    exact go_iret kk97_0.2.2.2.2.2 hg h2 ⟨Nat.zero_le _, Nat.zero_le _⟩ rfl
theorem tlT_readZombiesOf_14 {Φ : ev_P} {d : Nat} (hd : 1 ≤ d) {v1 v3 v4 : Int} (h1 : RfR v1) (h3 : RfR v3) (h4 : InR v4) : ∀ n : Nat, ∀ (v2 : Int) (h2 : InR v2) (v5 : Int) (h5 : InR v5) (g : gH) (hg : HR g) (u0 : Option ev_V) (w0 : nwo u0) (u6 : Option ev_V) (w6 : nwo u6), Go Φ pr_P fN 1 (lT_readZombiesOf_14 v1 v3 v4 n v2 v5 g) d pr_m97 14 [u0, some (sR v1), some (sI v2), some (sR v3), some (sI v4), some (sI v5), u6] [] g 0 0 := by
  intro n
  induction n with
  | zero => intros; exact go_none
  | succ n ih => exact tbT_readZombiesOf_14 hd h1 h3 h4 ih
theorem tfT_readZombiesOf {Φ : ev_P} {d : Nat} (hd : 1 ≤ d) {g : gH} (hg : HR g) {v0 v1 : Int} (hK0 : kd v0 = 5) (h1 : RfR v1) : Go Φ pr_P fN 1 (fT_readZombiesOf g v0 v1) d (pr_P 97) 0 (ev_loc (pr_P 97).1 [(sR v0), (sR v1)]) [] g 0 0 := by
  show Go Φ pr_P fN 1 (fT_readZombiesOf g v0 v1) d pr_m97 0 [some (sR v0), some (sR v1), none, none, none, none, none] [] g 0 0
  unfold fT_readZombiesOf
  refine go_int kk97_0.1.1.1.1.1.1 0 rfl ?_
  refine go_istore kk97_0.1.1.1.1.1.2 rfl (loc2 := [some (sR v0), some (sR v1), some (sI 0), none, none, none, none]) rfl ?_
  refine go_aload kk97_0.1.1.1.1.2 rfl ?_
  refine go_getR (bI := 1) kk97_0.1.1.1.2.1 hg hK0 (by decide) rfl rfl (fun r1 => ?_)
  refine go_astore kk97_0.1.1.1.2.2 rfl (loc2 := [some (sR v0), some (sR v1), some (sI 0), some (sR (g v0 1)), none, none, none]) rfl ?_
  refine go_aload kk97_0.1.1.2.1.1 rfl ?_
  refine go_ck (fun q3 => ?_)
  refine go_alen kk97_0.1.1.2.1.2 (ka_24 q3) r1 (fun r2 => ?_)
  refine go_istore kk97_0.1.1.2.2.1 rfl (loc2 := [some (sR v0), some (sR v1), some (sI 0), some (sR (g v0 1)), some (sI (sz (g v0 1))), none, none]) rfl ?_
  refine go_int kk97_0.1.1.2.2.2 0 rfl ?_
  refine go_istore kk97_0.1.2.1.1.1 rfl (loc2 := [some (sR v0), some (sR v1), some (sI 0), some (sR (g v0 1)), some (sI (sz (g v0 1))), some (sI 0), none]) rfl ?_
  exact tlT_readZombiesOf_14 hd h1 r1 r2 fu 0 (inR_b (Or.inl rfl)) 0 (inR_b (Or.inl rfl)) g hg (some (sR v0)) rfl none rfl
theorem tjT_letExit_133 {Φ : ev_P} {d : Nat} (hd : 4 ≤ d) {X92 : Int → gH → Option (Int × gH)} {g : gH} (hg : HR g) {v0 v1 v3 v4 v5 v6 v7 v8 v9 : Int} (hK0 : kd v0 = 5) (h1 : RfR v1) (h3 : RfR v3) (h4 : InR v4) (h5 : RfR v5) (h6 : RfR v6) (h7 : InR v7) (h8 : InR v8) (h9 : RfR v9) {s0 : Int} (z0 : B01 s0) (HX92 : ∀ (v8 : Int) (h8 : InR v8) (g : gH) (hg : HR g) (u2 : Option ev_V) (w2 : nwo u2) (u9 : Option ev_V) (w9 : nwo u9) (u10 : Option ev_V) (w10 : nwo u10), Go Φ pr_P fN 1 (X92 v8 g) d pr_m82 92 [some (sR v0), some (sR v1), u2, some (sR v3), some (sI v4), some (sR v5), some (sR v6), some (sI v7), some (sI v8), u9, u10] [] g 0 0) (u2 : Option ev_V) (w2 : nwo u2) (u10 : Option ev_V) (w10 : nwo u10) : Go Φ pr_P fN 1 (jT_letExit_133 X92 g v0 v1 v3 v4 v5 v6 v7 v8 v9 s0 ) d pr_m82 133 [some (sR v0), some (sR v1), u2, some (sR v3), some (sI v4), some (sR v5), some (sR v6), some (sI v7), some (sI v8), some (sR v9), u10] [(sI s0)] g 0 0 := by
  unfold jT_letExit_133
  refine go_istore kk82_1.1.1.2.1.2.2 rfl (loc2 := [some (sR v0), some (sR v1), u2, some (sR v3), some (sI v4), some (sR v5), some (sR v6), some (sI v7), some (sI v8), some (sR v9), some (sI s0)]) rfl ?_
  refine go_aload kk82_1.1.1.2.2.1.1 rfl ?_
  refine go_aload kk82_1.1.1.2.2.1.2 rfl ?_
  refine go_iload kk82_1.1.1.2.2.2.1 rfl ?_
  refine go_ifeq kk82_1.1.1.2.2.2.2 (inR_b z0) (fun c53 => ?_) (fun c54 => ?_)
  · refine go_aload kk82_1.1.2.1.1.2.1 rfl ?_
    refine go_aload kk82_1.1.2.1.1.2.2 rfl ?_
    refine go_callP2 kk82_1.1.2.1.2.1.1 rfl rfl rfl ⟨by decide, _, rfl, hK0⟩ ⟨Nat.zero_le _, Nat.zero_le _⟩ (by omega) (tfT_adopterOf (by omega) hg hK0  h9) (fun y55 r56 => ?_)
    refine go_callN0 kk82_1.1.2.1.2.1.2 rfl rfl rfl ⟨by decide, _, rfl, hK0⟩ ⟨Nat.zero_le _, Nat.zero_le _⟩ (by omega) (tfT_adopt (by omega) hg hK0  h9 r56) (fun y59 g61 e62 => ?_)
    refine go_iinc kk82_1.1.2.1.2.2.1 rfl rfl 1 rfl (loc2 := [some (sR v0), some (sR v1), u2, some (sR v3), some (sI v4), some (sR v5), some (sR v6), some (sI v7), some (sI (w32 (v8 + 1))), some (sR v9), some (sI s0)]) rfl ?_
    refine go_goto kk82_1.1.2.1.2.2.2 ?_
    exact HX92 (w32 (v8 + 1)) (inR_w32 _) g61 e62 u2 w2 (some (sR v9)) rfl (some (sI s0)) rfl
  · refine go_aload kk82_1.1.2.1.1.1.1 rfl ?_
    refine go_goto kk82_1.1.2.1.1.1.2 ?_
    refine go_callN0 kk82_1.1.2.1.2.1.2 rfl rfl rfl ⟨by decide, _, rfl, hK0⟩ ⟨Nat.zero_le _, Nat.zero_le _⟩ (by omega) (tfT_adopt (by omega) hg hK0  h9 h5) (fun y63 g65 e66 => ?_)
    refine go_iinc kk82_1.1.2.1.2.2.1 rfl rfl 1 rfl (loc2 := [some (sR v0), some (sR v1), u2, some (sR v3), some (sI v4), some (sR v5), some (sR v6), some (sI v7), some (sI (w32 (v8 + 1))), some (sR v9), some (sI s0)]) rfl ?_
    refine go_goto kk82_1.1.2.1.2.2.2 ?_
    exact HX92 (w32 (v8 + 1)) (inR_w32 _) g65 e66 u2 w2 (some (sR v9)) rfl (some (sI s0)) rfl
theorem tjT_letExit_132 {Φ : ev_P} {d : Nat} (hd : 4 ≤ d) {X92 : Int → gH → Option (Int × gH)} {g : gH} (hg : HR g) {v0 v1 v3 v4 v5 v6 v7 v8 v9 : Int} (hK0 : kd v0 = 5) (h1 : RfR v1) (h3 : RfR v3) (h4 : InR v4) (h5 : RfR v5) (h6 : RfR v6) (h7 : InR v7) (h8 : InR v8) (h9 : RfR v9) (HX92 : ∀ (v8 : Int) (h8 : InR v8) (g : gH) (hg : HR g) (u2 : Option ev_V) (w2 : nwo u2) (u9 : Option ev_V) (w9 : nwo u9) (u10 : Option ev_V) (w10 : nwo u10), Go Φ pr_P fN 1 (X92 v8 g) d pr_m82 92 [some (sR v0), some (sR v1), u2, some (sR v3), some (sI v4), some (sR v5), some (sR v6), some (sI v7), some (sI v8), u9, u10] [] g 0 0) (u2 : Option ev_V) (w2 : nwo u2) (u10 : Option ev_V) (w10 : nwo u10) : Go Φ pr_P fN 1 (jT_letExit_132 X92 g v0 v1 v3 v4 v5 v6 v7 v8 v9 ) d pr_m82 132 [some (sR v0), some (sR v1), u2, some (sR v3), some (sI v4), some (sR v5), some (sR v6), some (sI v7), some (sI v8), some (sR v9), u10] [] g 0 0 := by
  unfold jT_letExit_132
  refine go_int kk82_1.1.1.2.1.2.1 0 rfl ?_
  exact tjT_letExit_133 hd hg hK0 h1 h3 h4 h5 h6 h7 h8 h9 (Or.inl rfl) HX92 u2 w2 u10 w10
theorem tjT_letExit_212 {Φ : ev_P} {d : Nat} (hd : 4 ≤ d) {g : gH} (hg : HR g) {v0 v3 v4 : Int} (hK0 : kd v0 = 5) (h3 : RfR v3) (h4 : InR v4) (u1 : Option ev_V) (w1 : nwo u1) (u2 : Option ev_V) (w2 : nwo u2) (u5 : Option ev_V) (w5 : nwo u5) (u6 : Option ev_V) (w6 : nwo u6) (u7 : Option ev_V) (w7 : nwo u7) (u8 : Option ev_V) (w8 : nwo u8) (u9 : Option ev_V) (w9 : nwo u9) (u10 : Option ev_V) (w10 : nwo u10) : Go Φ pr_P fN 1 (jT_letExit_212 g v0 v3 v4 ) d pr_m82 212 [some (sR v0), u1, u2, some (sR v3), some (sI v4), u5, u6, u7, u8, u9, u10] [] g 0 0 := by
  unfold jT_letExit_212
  refine go_aload kk82_1.2.2.1.1.1.2 rfl ?_
  refine go_aload kk82_1.2.2.1.1.2.1 rfl ?_
  refine go_getR (bI := 0) kk82_1.2.2.1.1.2.2 hg hK0 (by decide) rfl rfl (fun r83 => ?_)
  refine go_acmp kk82_1.2.2.1.2.1.1 h3 r83 (fun c84 => ?_) (fun c85 => ?_)
  · refine go_aload kk82_1.2.2.1.2.1.2 rfl ?_
    refine go_aload kk82_1.2.2.1.2.2.1 rfl ?_
    refine go_getR (bI := 0) kk82_1.2.2.1.2.2.2 hg hK0 (by decide) rfl rfl (fun r86 => ?_)
    refine go_callN1 kk82_1.2.2.2.1.1.1 rfl rfl rfl ⟨by decide, _, rfl, hK0⟩ ⟨Nat.zero_le _, Nat.zero_le _⟩ (by omega) (tfT_readZombiesOf (by omega) hg hK0  r86) (fun y87 g89 r88 e90 => ?_)
    refine go_popI kk82_1.2.2.2.1.1.2 ?_
    refine go_aload kk82_1.2.2.2.1.2.1 rfl ?_
    refine go_getI (bI := 8) kk82_1.2.2.2.1.2.2 e90 hK0 (by decide) rfl rfl (fun r91 => ?_)
    refine go_iload kk82_1.2.2.2.2.1.1 rfl ?_
    refine go_isub kk82_1.2.2.2.2.1.2 ?_
    exact go_iret kk82_1.2.2.2.2.2 e90 (inR_w32 _) ⟨Nat.zero_le _, Nat.zero_le _⟩ rfl
  · refine go_aload kk82_1.2.2.2.1.2.1 rfl ?_
    refine go_getI (bI := 8) kk82_1.2.2.2.1.2.2 hg hK0 (by decide) rfl rfl (fun r92 => ?_)
    refine go_iload kk82_1.2.2.2.2.1.1 rfl ?_
    refine go_isub kk82_1.2.2.2.2.1.2 ?_
    exact go_iret kk82_1.2.2.2.2.2 hg (inR_w32 _) ⟨Nat.zero_le _, Nat.zero_le _⟩ rfl
theorem tbT_letExit_177 {Φ : ev_P} {d : Nat} (hd : 4 ≤ d) {v0 v1 v3 v4 v6 v7 : Int} (hK0 : kd v0 = 5) (h1 : RfR v1) (h3 : RfR v3) (h4 : InR v4) (h6 : RfR v6) (h7 : InR v7) {X177 : Int → gH → Option (Int × gH)} (HX177 : ∀ (v8 : Int) (h8 : InR v8) (g : gH) (hg : HR g) (u2 : Option ev_V) (w2 : nwo u2) (u5 : Option ev_V) (w5 : nwo u5) (u9 : Option ev_V) (w9 : nwo u9) (u10 : Option ev_V) (w10 : nwo u10), Go Φ pr_P fN 1 (X177 v8 g) d pr_m82 177 [some (sR v0), some (sR v1), u2, some (sR v3), some (sI v4), u5, some (sR v6), some (sI v7), some (sI v8), u9, u10] [] g 0 0) : ∀ (v8 : Int) (h8 : InR v8) (g : gH) (hg : HR g) (u2 : Option ev_V) (w2 : nwo u2) (u5 : Option ev_V) (w5 : nwo u5) (u9 : Option ev_V) (w9 : nwo u9) (u10 : Option ev_V) (w10 : nwo u10), Go Φ pr_P fN 1 (bT_letExit_177 v0 v1 v3 v4 v6 v7 X177 v8 g) d pr_m82 177 [some (sR v0), some (sR v1), u2, some (sR v3), some (sI v4), u5, some (sR v6), some (sI v7), some (sI v8), u9, u10] [] g 0 0 := by
  intro v8 h8 g hg u2 w2 u5 w5 u9 w9 u10 w10
  unfold bT_letExit_177
  refine go_iload kk82_1.2.1.1.1.1.2 rfl ?_
  refine go_iload kk82_1.2.1.1.1.2.1 rfl ?_
  refine go_cmlt kk82_1.2.1.1.1.2.2 h8 h7 (fun c70 => ?_) (fun c71 => ?_)
  · refine go_aload kk82_1.2.1.1.2.1.1 rfl ?_
    refine go_iload kk82_1.2.1.1.2.1.2 rfl ?_
    refine go_ck (fun q73 => ?_)
    refine go_pald kk82_1.2.1.1.2.2.1 hg q73 (fun r72 => ?_)
    refine go_astore kk82_1.2.1.1.2.2.2 rfl (loc2 := [some (sR v0), some (sR v1), u2, some (sR v3), some (sI v4), u5, some (sR v6), some (sI v7), some (sI v8), some (sR (g v6 v8)), u10]) rfl ?_
    refine go_aload kk82_1.2.1.2.1.1.1 rfl ?_
    refine go_aload kk82_1.2.1.2.1.1.2 rfl ?_
    refine go_ck (fun q74 => ?_)
    refine go_callP3 kk82_1.2.1.2.1.2.1 rfl rfl rfl ⟨by decide, _, rfl, q74⟩ ⟨Nat.zero_le _, Nat.zero_le _⟩ (by omega) (tfP_isZombieOf (by omega) hg q74  h1) (fun y75 r76 => ?_)
    refine go_ifeq kk82_1.2.1.2.1.2.2 (inR_b r76) (fun c79 => ?_) (fun c80 => ?_)
    · refine go_iinc kk82_1.2.1.2.2.2.2 rfl rfl 1 rfl (loc2 := [some (sR v0), some (sR v1), u2, some (sR v3), some (sI v4), u5, some (sR v6), some (sI v7), some (sI (w32 (v8 + 1))), some (sR (g v6 v8)), u10]) rfl ?_
      refine go_goto kk82_1.2.2.1.1.1.1 ?_
      exact HX177 (w32 (v8 + 1)) (inR_w32 _) g hg u2 w2 u5 w5 (some (sR (g v6 v8))) rfl u10 w10
    · refine go_aload kk82_1.2.1.2.2.1.1 rfl ?_
      refine go_aload kk82_1.2.1.2.2.1.2 rfl ?_
      refine go_putR (bI := 2) kk82_1.2.1.2.2.2.1 hg q74 (by decide) rfl rfl h3 (fun g81 e82 => ?_)
      refine go_iinc kk82_1.2.1.2.2.2.2 rfl rfl 1 rfl (loc2 := [some (sR v0), some (sR v1), u2, some (sR v3), some (sI v4), u5, some (sR v6), some (sI v7), some (sI (w32 (v8 + 1))), some (sR (g v6 v8)), u10]) rfl ?_
      refine go_goto kk82_1.2.2.1.1.1.1 ?_
      exact HX177 (w32 (v8 + 1)) (inR_w32 _) g81 e82 u2 w2 u5 w5 (some (sR (g v6 v8))) rfl u10 w10
  · exact tjT_letExit_212 hd hg hK0 h3 h4 (some (sR v1)) rfl u2 w2 u5 w5 (some (sR v6)) rfl (some (sI v7)) rfl (some (sI v8)) rfl u9 w9 u10 w10
theorem tlT_letExit_177 {Φ : ev_P} {d : Nat} (hd : 4 ≤ d) {v0 v1 v3 v4 v6 v7 : Int} (hK0 : kd v0 = 5) (h1 : RfR v1) (h3 : RfR v3) (h4 : InR v4) (h6 : RfR v6) (h7 : InR v7) : ∀ n : Nat, ∀ (v8 : Int) (h8 : InR v8) (g : gH) (hg : HR g) (u2 : Option ev_V) (w2 : nwo u2) (u5 : Option ev_V) (w5 : nwo u5) (u9 : Option ev_V) (w9 : nwo u9) (u10 : Option ev_V) (w10 : nwo u10), Go Φ pr_P fN 1 (lT_letExit_177 v0 v1 v3 v4 v6 v7 n v8 g) d pr_m82 177 [some (sR v0), some (sR v1), u2, some (sR v3), some (sI v4), u5, some (sR v6), some (sI v7), some (sI v8), u9, u10] [] g 0 0 := by
  intro n
  induction n with
  | zero => intros; exact go_none
  | succ n ih => exact tbT_letExit_177 hd hK0 h1 h3 h4 h6 h7 ih
theorem tjT_letExit_163 {Φ : ev_P} {d : Nat} (hd : 4 ≤ d) {g : gH} (hg : HR g) {v0 v1 v3 v4 : Int} (hK0 : kd v0 = 5) (h1 : RfR v1) (h3 : RfR v3) (h4 : InR v4) (u2 : Option ev_V) (w2 : nwo u2) (u5 : Option ev_V) (w5 : nwo u5) (u6 : Option ev_V) (w6 : nwo u6) (u7 : Option ev_V) (w7 : nwo u7) (u8 : Option ev_V) (w8 : nwo u8) (u9 : Option ev_V) (w9 : nwo u9) (u10 : Option ev_V) (w10 : nwo u10) : Go Φ pr_P fN 1 (jT_letExit_163 g v0 v1 v3 v4 ) d pr_m82 163 [some (sR v0), some (sR v1), u2, some (sR v3), some (sI v4), u5, u6, u7, u8, u9, u10] [] g 0 0 := by
  unfold jT_letExit_163
  refine go_aload kk82_1.1.2.2.1.1.1 rfl ?_
  refine go_getR (bI := 1) kk82_1.1.2.2.1.1.2 hg hK0 (by decide) rfl rfl (fun r67 => ?_)
  refine go_astore kk82_1.1.2.2.1.2.1 w5 (loc2 := [some (sR v0), some (sR v1), u2, some (sR v3), some (sI v4), u5, some (sR (g v0 1)), u7, u8, u9, u10]) rfl ?_
  refine go_aload kk82_1.1.2.2.1.2.2 rfl ?_
  refine go_ck (fun q69 => ?_)
  refine go_alen kk82_1.1.2.2.2.1.1 (ka_24 q69) r67 (fun r68 => ?_)
  refine go_istore kk82_1.1.2.2.2.1.2 rfl (loc2 := [some (sR v0), some (sR v1), u2, some (sR v3), some (sI v4), u5, some (sR (g v0 1)), some (sI (sz (g v0 1))), u8, u9, u10]) rfl ?_
  refine go_int kk82_1.1.2.2.2.2 0 rfl ?_
  refine go_istore kk82_1.2.1.1.1.1.1 rfl (loc2 := [some (sR v0), some (sR v1), u2, some (sR v3), some (sI v4), u5, some (sR (g v0 1)), some (sI (sz (g v0 1))), some (sI 0), u9, u10]) rfl ?_
  exact tlT_letExit_177 hd hK0 h1 h3 h4 r67 r68 fu 0 (inR_b (Or.inl rfl)) g hg u2 w2 u5 w5 u9 w9 u10 w10
theorem tbT_letExit_92 {Φ : ev_P} {d : Nat} (hd : 4 ≤ d) {v0 v1 v3 v4 v5 v6 v7 : Int} (hK0 : kd v0 = 5) (h1 : RfR v1) (h3 : RfR v3) (h4 : InR v4) (h5 : RfR v5) (h6 : RfR v6) (h7 : InR v7) {X92 : Int → gH → Option (Int × gH)} (HX92 : ∀ (v8 : Int) (h8 : InR v8) (g : gH) (hg : HR g) (u2 : Option ev_V) (w2 : nwo u2) (u9 : Option ev_V) (w9 : nwo u9) (u10 : Option ev_V) (w10 : nwo u10), Go Φ pr_P fN 1 (X92 v8 g) d pr_m82 92 [some (sR v0), some (sR v1), u2, some (sR v3), some (sI v4), some (sR v5), some (sR v6), some (sI v7), some (sI v8), u9, u10] [] g 0 0) : ∀ (v8 : Int) (h8 : InR v8) (g : gH) (hg : HR g) (u2 : Option ev_V) (w2 : nwo u2) (u9 : Option ev_V) (w9 : nwo u9) (u10 : Option ev_V) (w10 : nwo u10), Go Φ pr_P fN 1 (bT_letExit_92 v0 v1 v3 v4 v5 v6 v7 X92 v8 g) d pr_m82 92 [some (sR v0), some (sR v1), u2, some (sR v3), some (sI v4), some (sR v5), some (sR v6), some (sI v7), some (sI v8), u9, u10] [] g 0 0 := by
  intro v8 h8 g hg u2 w2 u9 w9 u10 w10
  unfold bT_letExit_92
  refine go_iload kk82_0.2.2.1.2.2.2 rfl ?_
  refine go_iload kk82_0.2.2.2.1.1.1 rfl ?_
  refine go_cmlt kk82_0.2.2.2.1.1.2 h8 h7 (fun c33 => ?_) (fun c34 => ?_)
  · refine go_aload kk82_0.2.2.2.1.2.1 rfl ?_
    refine go_iload kk82_0.2.2.2.1.2.2 rfl ?_
    refine go_ck (fun q36 => ?_)
    refine go_pald kk82_0.2.2.2.2.1.1 hg q36 (fun r35 => ?_)
    refine go_astore kk82_0.2.2.2.2.1.2 rfl (loc2 := [some (sR v0), some (sR v1), u2, some (sR v3), some (sI v4), some (sR v5), some (sR v6), some (sI v7), some (sI v8), some (sR (g v6 v8)), u10]) rfl ?_
    refine go_aload kk82_0.2.2.2.2.2 rfl ?_
    refine go_aload kk82_1.1.1.1.1.1.1 rfl ?_
    refine go_ck (fun q37 => ?_)
    refine go_callP3 kk82_1.1.1.1.1.1.2 rfl rfl rfl ⟨by decide, _, rfl, q37⟩ ⟨Nat.zero_le _, Nat.zero_le _⟩ (by omega) (tfP_isRunningChildOf (by omega) hg q37  h1) (fun y38 r39 => ?_)
    refine go_ifeq kk82_1.1.1.1.1.2.1 (inR_b r39) (fun c42 => ?_) (fun c43 => ?_)
    · refine go_iinc kk82_1.1.2.1.2.2.1 rfl rfl 1 rfl (loc2 := [some (sR v0), some (sR v1), u2, some (sR v3), some (sI v4), some (sR v5), some (sR v6), some (sI v7), some (sI (w32 (v8 + 1))), some (sR (g v6 v8)), u10]) rfl ?_
      refine go_goto kk82_1.1.2.1.2.2.2 ?_
      exact HX92 (w32 (v8 + 1)) (inR_w32 _) g hg u2 w2 (some (sR (g v6 v8))) rfl u10 w10
    · refine go_aload kk82_1.1.1.1.1.2.2 rfl ?_
      refine go_isnull kk82_1.1.1.1.2.1.1  (fun c44 => ?_) (fun c45 => ?_)
      · exact tjT_letExit_132 hd hg hK0 h1 h3 h4 h5 h6 h7 h8 r35 HX92 u2 w2 u10 w10
      · refine go_aload kk82_1.1.1.1.2.1.2 rfl ?_
        refine go_ck (fun q46 => ?_)
        refine go_callP1 kk82_1.1.1.1.2.2.1 rfl rfl rfl ⟨by decide, _, rfl, q46⟩ ⟨Nat.zero_le _, Nat.zero_le _⟩ (by omega) (tfP_room (by omega) hg q46 ) (fun y47 r48 => ?_)
        refine go_ifgt kk82_1.1.1.1.2.2.2 r48 (fun c51 => ?_) (fun c52 => ?_)
        · refine go_int kk82_1.1.1.2.1.1.1 1 rfl ?_
          refine go_goto kk82_1.1.1.2.1.1.2 ?_
          exact tjT_letExit_133 hd hg hK0 h1 h3 h4 h5 h6 h7 h8 r35 (Or.inr rfl) HX92 u2 w2 u10 w10
        · exact tjT_letExit_132 hd hg hK0 h1 h3 h4 h5 h6 h7 h8 r35 HX92 u2 w2 u10 w10
  · exact tjT_letExit_163 hd hg hK0 h1 h3 h4 u2 w2 (some (sR v5)) rfl (some (sR v6)) rfl (some (sI v7)) rfl (some (sI v8)) rfl u9 w9 u10 w10
theorem tlT_letExit_92 {Φ : ev_P} {d : Nat} (hd : 4 ≤ d) {v0 v1 v3 v4 v5 v6 v7 : Int} (hK0 : kd v0 = 5) (h1 : RfR v1) (h3 : RfR v3) (h4 : InR v4) (h5 : RfR v5) (h6 : RfR v6) (h7 : InR v7) : ∀ n : Nat, ∀ (v8 : Int) (h8 : InR v8) (g : gH) (hg : HR g) (u2 : Option ev_V) (w2 : nwo u2) (u9 : Option ev_V) (w9 : nwo u9) (u10 : Option ev_V) (w10 : nwo u10), Go Φ pr_P fN 1 (lT_letExit_92 v0 v1 v3 v4 v5 v6 v7 n v8 g) d pr_m82 92 [some (sR v0), some (sR v1), u2, some (sR v3), some (sI v4), some (sR v5), some (sR v6), some (sI v7), some (sI v8), u9, u10] [] g 0 0 := by
  intro n
  induction n with
  | zero => intros; exact go_none
  | succ n ih => exact tbT_letExit_92 hd hK0 h1 h3 h4 h5 h6 h7 ih
theorem tjT_letExit_69 {Φ : ev_P} {d : Nat} (hd : 4 ≤ d) {g : gH} (hg : HR g) {v0 v1 v3 v4 : Int} (hK0 : kd v0 = 5) (h1 : RfR v1) (h3 : RfR v3) (h4 : InR v4) {s0 : Int} (z0 : RfR s0) (u2 : Option ev_V) (w2 : nwo u2) (u5 : Option ev_V) (w5 : nwo u5) (u6 : Option ev_V) (w6 : nwo u6) (u7 : Option ev_V) (w7 : nwo u7) (u8 : Option ev_V) (w8 : nwo u8) (u9 : Option ev_V) (w9 : nwo u9) (u10 : Option ev_V) (w10 : nwo u10) : Go Φ pr_P fN 1 (jT_letExit_69 g v0 v1 v3 v4 s0 ) d pr_m82 69 [some (sR v0), some (sR v1), u2, some (sR v3), some (sI v4), u5, u6, u7, u8, u9, u10] [(sR s0)] g 0 0 := by
  unfold jT_letExit_69
  refine go_astore kk82_0.2.1.2.1.1.2 rfl (loc2 := [some (sR v0), some (sR v1), u2, some (sR v3), some (sI v4), some (sR s0), u6, u7, u8, u9, u10]) rfl ?_
  refine go_aload kk82_0.2.1.2.1.2.1 rfl ?_
  refine go_aload kk82_0.2.1.2.1.2.2 rfl ?_
  refine go_aload kk82_0.2.1.2.2.1.1 rfl ?_
  refine go_callN0 kk82_0.2.1.2.2.1.2 rfl rfl rfl ⟨by decide, _, rfl, hK0⟩ ⟨Nat.zero_le _, Nat.zero_le _⟩ (by omega) (tfT_passDuties (by omega) hg hK0  h1 z0) (fun y26 g28 e29 => ?_)
  refine go_aload kk82_0.2.1.2.2.2 rfl ?_
  refine go_getR (bI := 1) kk82_0.2.2.1.1.1.1 e29 hK0 (by decide) rfl rfl (fun r30 => ?_)
  refine go_astore kk82_0.2.2.1.1.1.2 rfl (loc2 := [some (sR v0), some (sR v1), u2, some (sR v3), some (sI v4), some (sR s0), some (sR (g28 v0 1)), u7, u8, u9, u10]) rfl ?_
  refine go_aload kk82_0.2.2.1.1.2.1 rfl ?_
  refine go_ck (fun q32 => ?_)
  refine go_alen kk82_0.2.2.1.1.2.2 (ka_24 q32) r30 (fun r31 => ?_)
  refine go_istore kk82_0.2.2.1.2.1.1 rfl (loc2 := [some (sR v0), some (sR v1), u2, some (sR v3), some (sI v4), some (sR s0), some (sR (g28 v0 1)), some (sI (sz (g28 v0 1))), u8, u9, u10]) rfl ?_
  refine go_int kk82_0.2.2.1.2.1.2 0 rfl ?_
  refine go_istore kk82_0.2.2.1.2.2.1 rfl (loc2 := [some (sR v0), some (sR v1), u2, some (sR v3), some (sI v4), some (sR s0), some (sR (g28 v0 1)), some (sI (sz (g28 v0 1))), some (sI 0), u9, u10]) rfl ?_
  exact tlT_letExit_92 hd hK0 h1 h3 h4 z0 r30 r31 fu 0 (inR_b (Or.inl rfl)) g28 e29 u2 w2 u9 w9 u10 w10
theorem tfT_letExit {Φ : ev_P} {d : Nat} (hd : 4 ≤ d) {g : gH} (hg : HR g) {v0 v1 v2 : Int} (hK0 : kd v0 = 5) (h1 : RfR v1) (h2 : InR v2) : Go Φ pr_P fN 1 (fT_letExit g v0 v1 v2) d (pr_P 82) 0 (ev_loc (pr_P 82).1 [(sR v0), (sR v1), (sI v2)]) [] g 0 0 := by
  show Go Φ pr_P fN 1 (fT_letExit g v0 v1 v2) d pr_m82 0 [some (sR v0), some (sR v1), some (sI v2), none, none, none, none, none, none, none, none] [] g 0 0
  unfold fT_letExit
  refine go_aload kk82_0.1.1.1.1.1.1 rfl ?_
  refine go_ck (fun q1 => ?_)
  refine go_getR (bI := 2) kk82_0.1.1.1.1.1.2 hg q1 (by decide) rfl rfl (fun r2 => ?_)
  refine go_astore kk82_0.1.1.1.1.2.1 rfl (loc2 := [some (sR v0), some (sR v1), some (sI v2), some (sR (g v1 2)), none, none, none, none, none, none, none]) rfl ?_
  refine go_aload kk82_0.1.1.1.1.2.2 rfl ?_
  refine go_isnull kk82_0.1.1.1.2.1.1  (fun c3 => ?_) (fun c4 => ?_)
  · refine go_int kk82_0.1.1.1.2.1.2 0 rfl ?_
    exact go_iret kk82_0.1.1.1.2.2.1 hg (inR_b (Or.inl rfl)) ⟨Nat.zero_le _, Nat.zero_le _⟩ rfl
  · refine go_aload kk82_0.1.1.1.2.2.2 rfl ?_
    refine go_getI (bI := 8) kk82_0.1.1.2.1.1.1 hg hK0 (by decide) rfl rfl (fun r5 => ?_)
    refine go_istore kk82_0.1.1.2.1.1.2 rfl (loc2 := [some (sR v0), some (sR v1), some (sI v2), some (sR (g v1 2)), some (sI (g v0 8)), none, none, none, none, none, none]) rfl ?_
    refine go_aload kk82_0.1.1.2.1.2.1 rfl ?_
    refine go_int kk82_0.1.1.2.1.2.2 1 rfl ?_
    refine go_putI (bI := 1) kk82_0.1.1.2.2.1.1 hg q1 (by decide) rfl rfl (inR_b (Or.inr rfl)) (fun g6 e7 => ?_)
    refine go_aload kk82_0.1.1.2.2.1.2 rfl ?_
    refine go_iload kk82_0.1.1.2.2.2.1 rfl ?_
    refine go_putI (bI := 9) kk82_0.1.1.2.2.2.2 e7 q1 (by decide) rfl rfl h2 (fun g8 e9 => ?_)
    refine go_aload kk82_0.1.2.1.1.1.1 rfl ?_
    refine go_aload kk82_0.1.2.1.1.1.2 rfl ?_
    refine go_getI (bI := 6) kk82_0.1.2.1.1.2.1 e9 hK0 (by decide) rfl rfl (fun r10 => ?_)
    refine go_putI (bI := 10) kk82_0.1.2.1.1.2.2 e9 q1 (by decide) rfl rfl r10 (fun g11 e12 => ?_)
    refine go_aload kk82_0.1.2.1.2.1.1 rfl ?_
    refine go_dupR kk82_0.1.2.1.2.1.2 ?_
    refine go_getI (bI := 6) kk82_0.1.2.1.2.2.1 e12 hK0 (by decide) rfl rfl (fun r13 => ?_)
    refine go_int kk82_0.1.2.1.2.2.2 1 rfl ?_
    refine go_iadd kk82_0.1.2.2.1.1.1 ?_
    refine go_putI (bI := 6) kk82_0.1.2.2.1.1.2 e12 hK0 (by decide) rfl rfl (inR_w32 _) (fun g14 e15 => ?_)
    refine go_aload kk82_0.1.2.2.1.2.1 rfl ?_
    refine go_dupR kk82_0.1.2.2.1.2.2 ?_
    refine go_ck (fun q16 => ?_)
    refine go_getI (bI := 3) kk82_0.1.2.2.2.1.1 e15 q16 (by decide) rfl rfl (fun r17 => ?_)
    refine go_int kk82_0.1.2.2.2.1.2 1 rfl ?_
    refine go_isub kk82_0.1.2.2.2.2 ?_
    refine go_putI (bI := 3) kk82_0.2.1.1.1.1.1 e15 q16 (by decide) rfl rfl (inR_w32 _) (fun g18 e19 => ?_)
    refine go_iload kk82_0.2.1.1.1.1.2 rfl ?_
    refine go_ifeq kk82_0.2.1.1.1.2.1 h2 (fun c20 => ?_) (fun c21 => ?_)
    · refine go_null kk82_0.2.1.1.1.2.2 ?_
      refine go_goto kk82_0.2.1.1.2.1.1 ?_
      exact tjT_letExit_69 hd e19 hK0 h1 r2 r5 rfR_null (some (sI v2)) rfl none rfl none rfl none rfl none rfl none rfl none rfl
    · refine go_aload kk82_0.2.1.1.2.1.2 rfl ?_
      refine go_aload kk82_0.2.1.1.2.2.1 rfl ?_
      refine go_aload kk82_0.2.1.1.2.2.2 rfl ?_
      refine go_callN2 kk82_0.2.1.2.1.1.1 rfl rfl rfl ⟨by decide, _, rfl, hK0⟩ ⟨Nat.zero_le _, Nat.zero_le _⟩ (by omega) (tfT_replace (by omega) e19 hK0  h1 r2) (fun y22 g24 r23 e25 => ?_)
      exact tjT_letExit_69 hd e25 hK0 h1 r2 r5 r23 (some (sI v2)) rfl none rfl none rfl none rfl none rfl none rfl none rfl
theorem tfC_exit {Φ : ev_P} {d : Nat} (hd : 5 ≤ d) {g : gH} (hg : HR g) {v0 v1 v2 : Int} (hK0 : kd v0 = 6) (h1 : InR v1) (h2 : InR v2) : Go Φ pr_P fT 1 (fC_exit g v0 v1 v2) d (pr_P 8) 0 (ev_loc (pr_P 8).1 [(sR v0), (sI v1), (sI v2)]) [] g 0 0 := by
  show Go Φ pr_P fT 1 (fC_exit g v0 v1 v2) d pr_m8 0 [some (sR v0), some (sI v1), some (sI v2), none] [] g 0 0
  unfold fC_exit
  refine go_aload kk8_0.1.1.1.1 rfl ?_
  refine go_iload kk8_0.1.1.1.2 rfl ?_
  refine go_iload kk8_0.1.1.2.1 rfl ?_
  refine go_callQ2 kk8_0.1.1.2.2 rfl rfl rfl ⟨by decide, _, rfl, hK0⟩ ⟨Nat.zero_le _, Nat.zero_le _⟩ (by omega) (tfC_namedForExit (by omega) hg hK0  h1 h2) (fun y1 r2 => ?_) ge_qt
  refine go_astore kk8_0.1.2.1.1 rfl (loc2 := [some (sR v0), some (sI v1), some (sI v2), some (sR y1)]) rfl ?_
  refine go_aload kk8_0.1.2.1.2 rfl ?_
  refine go_getR (bI := 3) kk8_0.1.2.2.1 hg hK0 (by decide) rfl rfl (fun r7 => ?_)
  refine go_aload kk8_0.1.2.2.2 rfl ?_
  refine go_getR (bI := 0) kk8_0.2.1.1.1 hg hK0 (by decide) rfl rfl (fun r8 => ?_)
  refine go_ck (fun q9 => ?_)
  refine go_callN0 kk8_0.2.1.1.2 rfl rfl rfl ⟨by decide, _, rfl, q9⟩ ⟨Nat.zero_le _, Nat.zero_le _⟩ (by omega) (tfH_push (by omega) hg q9  r8) (fun y10 g12 e13 => ?_)
  refine go_aload kk8_0.2.1.2.1 rfl ?_
  refine go_getR (bI := 0) kk8_0.2.1.2.2 e13 hK0 (by decide) rfl rfl (fun r14 => ?_)
  refine go_aload kk8_0.2.2.1.1 rfl ?_
  refine go_iload kk8_0.2.2.1.2 rfl ?_
  refine go_ck (fun q15 => ?_)
  refine go_callN1 kk8_0.2.2.2.1 rfl rfl rfl ⟨by decide, _, rfl, q15⟩ ⟨Nat.zero_le _, Nat.zero_le _⟩ (by omega) (tfT_letExit (by omega) e13 q15  r2 h2) (fun y16 g18 r17 e19 => ?_)
  exact go_iret kk8_0.2.2.2.2 e19 r17 ⟨Nat.zero_le _, Nat.zero_le _⟩ rfl
theorem tfC_checkKill {Φ : ev_P} {d : Nat} (hd : 1 ≤ d) {g : gH} (hg : HR g) {v0 v1 : Int} (h0 : InR v0) (h1 : InR v1) : Go Φ pr_P (fQ g) 0 (fC_checkKill g v0 v1) d (pr_P 27) 0 (ev_loc (pr_P 27).1 [(sI v0), (sI v1)]) [] g 0 0 := by
  show Go Φ pr_P (fQ g) 0 (fC_checkKill g v0 v1) d pr_m27 0 [some (sI v0), some (sI v1)] [] g 0 0
  unfold fC_checkKill
  refine go_iload kk27_0.1.1.1 rfl ?_
  refine go_int kk27_0.1.1.2 9 rfl ?_
  refine go_callQ0 kk27_0.1.2.1 rfl rfl rfl trivial ⟨Nat.zero_le _, Nat.zero_le _⟩ (by omega) (tfC_checkRange (by omega) hg  h0 (inR_of (by decide))) (fun y1 => ?_) ge_qq
  refine go_iload kk27_0.1.2.2 rfl ?_
  refine go_int kk27_0.2.1.1 255 rfl ?_
  refine go_callQ0 kk27_0.2.1.2 rfl rfl rfl trivial ⟨Nat.zero_le _, Nat.zero_le _⟩ (by omega) (tfC_checkRange (by omega) hg  h1 (inR_of (by decide))) (fun y7 => ?_) ge_qq
  exact go_vret kk27_0.2.2 hg ⟨Nat.zero_le _, Nat.zero_le _⟩ rfl
theorem tbT_killGroup_127 {Φ : ev_P} {d : Nat} (hd : 5 ≤ d) {v3 v4 v5 : Int} (h3 : InR v3) (h4 : RfR v4) (h5 : InR v5) {X127 : Int → gH → Option (Int × gH)} (HX127 : ∀ (v6 : Int) (h6 : InR v6) (g : gH) (hg : HR g) (u0 : Option ev_V) (w0 : nwo u0) (u1 : Option ev_V) (w1 : nwo u1) (u2 : Option ev_V) (w2 : nwo u2) (u7 : Option ev_V) (w7 : nwo u7), Go Φ pr_P fN 1 (X127 v6 g) d pr_m94 127 [u0, u1, u2, some (sI v3), some (sR v4), some (sI v5), some (sI v6), u7] [] g 0 0) : ∀ (v6 : Int) (h6 : InR v6) (g : gH) (hg : HR g) (u0 : Option ev_V) (w0 : nwo u0) (u1 : Option ev_V) (w1 : nwo u1) (u2 : Option ev_V) (w2 : nwo u2) (u7 : Option ev_V) (w7 : nwo u7), Go Φ pr_P fN 1 (bT_killGroup_127 v3 v4 v5 X127 v6 g) d pr_m94 127 [u0, u1, u2, some (sI v3), some (sR v4), some (sI v5), some (sI v6), u7] [] g 0 0 := by
  intro v6 h6 g hg u0 w0 u1 w1 u2 w2 u7 w7
  unfold bT_killGroup_127
  refine go_iload kk94_1.2.1.2.1.1.2 rfl ?_
  refine go_iload kk94_1.2.1.2.1.2 rfl ?_
  refine go_cmlt kk94_1.2.1.2.2.1 h6 h5 (fun c42 => ?_) (fun c43 => ?_)
  · refine go_aload kk94_1.2.1.2.2.2 rfl ?_
    refine go_iload kk94_1.2.2.1.1.1.1 rfl ?_
    refine go_ck (fun q45 => ?_)
    refine go_pald kk94_1.2.2.1.1.1.2 hg q45 (fun r44 => ?_)
    refine go_astore kk94_1.2.2.1.1.2 rfl (loc2 := [u0, u1, u2, some (sI v3), some (sR v4), some (sI v5), some (sI v6), some (sR (g v4 v6))]) rfl ?_
    refine go_aload kk94_1.2.2.1.2.1 rfl ?_
    refine go_int kk94_1.2.2.1.2.2 0 rfl ?_
    refine go_ck (fun q46 => ?_)
    refine go_putB (bI := 13) kk94_1.2.2.2.1.1.1 hg q46 (by decide) rfl rfl (Or.inl rfl) (fun g47 e48 => ?_)
    refine go_iinc kk94_1.2.2.2.1.1.2 rfl rfl 1 rfl (loc2 := [u0, u1, u2, some (sI v3), some (sR v4), some (sI v5), some (sI (w32 (v6 + 1))), some (sR (g v4 v6))]) rfl ?_
    refine go_goto kk94_1.2.2.2.1.2 ?_
    exact HX127 (w32 (v6 + 1)) (inR_w32 _) g47 e48 u0 w0 u1 w1 u2 w2 (some (sR (g v4 v6))) rfl
  · refine go_iload kk94_1.2.2.2.2.1 rfl ?_
    exact go_iret kk94_1.2.2.2.2.2 hg h3 ⟨Nat.zero_le _, Nat.zero_le _⟩ rfl
theorem tlT_killGroup_127 {Φ : ev_P} {d : Nat} (hd : 5 ≤ d) {v3 v4 v5 : Int} (h3 : InR v3) (h4 : RfR v4) (h5 : InR v5) : ∀ n : Nat, ∀ (v6 : Int) (h6 : InR v6) (g : gH) (hg : HR g) (u0 : Option ev_V) (w0 : nwo u0) (u1 : Option ev_V) (w1 : nwo u1) (u2 : Option ev_V) (w2 : nwo u2) (u7 : Option ev_V) (w7 : nwo u7), Go Φ pr_P fN 1 (lT_killGroup_127 v3 v4 v5 n v6 g) d pr_m94 127 [u0, u1, u2, some (sI v3), some (sR v4), some (sI v5), some (sI v6), u7] [] g 0 0 := by
  intro n
  induction n with
  | zero => intros; exact go_none
  | succ n ih => exact tbT_killGroup_127 hd h3 h4 h5 ih
theorem tjT_killGroup_113 {Φ : ev_P} {d : Nat} (hd : 5 ≤ d) {g : gH} (hg : HR g) {v0 v3 : Int} (hK0 : kd v0 = 5) (h3 : InR v3) (u1 : Option ev_V) (w1 : nwo u1) (u2 : Option ev_V) (w2 : nwo u2) (u4 : Option ev_V) (w4 : nwo u4) (u5 : Option ev_V) (w5 : nwo u5) (u6 : Option ev_V) (w6 : nwo u6) (u7 : Option ev_V) (w7 : nwo u7) : Go Φ pr_P fN 1 (jT_killGroup_113 g v0 v3 ) d pr_m94 113 [some (sR v0), u1, u2, some (sI v3), u4, u5, u6, u7] [] g 0 0 := by
  unfold jT_killGroup_113
  refine go_aload kk94_1.1.2.2.2.1 rfl ?_
  refine go_getR (bI := 1) kk94_1.1.2.2.2.2 hg hK0 (by decide) rfl rfl (fun r39 => ?_)
  refine go_astore kk94_1.2.1.1.1.1.1 rfl (loc2 := [some (sR v0), u1, u2, some (sI v3), some (sR (g v0 1)), u5, u6, u7]) rfl ?_
  refine go_aload kk94_1.2.1.1.1.1.2 rfl ?_
  refine go_ck (fun q41 => ?_)
  refine go_alen kk94_1.2.1.1.1.2 (ka_24 q41) r39 (fun r40 => ?_)
  refine go_istore kk94_1.2.1.1.2.1 rfl (loc2 := [some (sR v0), u1, u2, some (sI v3), some (sR (g v0 1)), some (sI (sz (g v0 1))), u6, u7]) rfl ?_
  refine go_int kk94_1.2.1.1.2.2 0 rfl ?_
  refine go_istore kk94_1.2.1.2.1.1.1 rfl (loc2 := [some (sR v0), u1, u2, some (sI v3), some (sR (g v0 1)), some (sI (sz (g v0 1))), some (sI 0), u7]) rfl ?_
  exact tlT_killGroup_127 hd h3 r39 r40 fu 0 (inR_b (Or.inl rfl)) g hg (some (sR v0)) rfl u1 w1 u2 w2 u7 w7
theorem tbT_killGroup_74 {Φ : ev_P} {d : Nat} (hd : 5 ≤ d) {v0 v2 v4 v5 : Int} (hK0 : kd v0 = 5) (h2 : InR v2) (h4 : RfR v4) (h5 : InR v5) {X74 : Int → Int → gH → Option (Int × gH)} (HX74 : ∀ (v3 : Int) (h3 : InR v3) (v6 : Int) (h6 : InR v6) (g : gH) (hg : HR g) (u1 : Option ev_V) (w1 : nwo u1) (u7 : Option ev_V) (w7 : nwo u7), Go Φ pr_P fN 1 (X74 v3 v6 g) d pr_m94 74 [some (sR v0), u1, some (sI v2), some (sI v3), some (sR v4), some (sI v5), some (sI v6), u7] [] g 0 0) : ∀ (v3 : Int) (h3 : InR v3) (v6 : Int) (h6 : InR v6) (g : gH) (hg : HR g) (u1 : Option ev_V) (w1 : nwo u1) (u7 : Option ev_V) (w7 : nwo u7), Go Φ pr_P fN 1 (bT_killGroup_74 v0 v2 v4 v5 X74 v3 v6 g) d pr_m94 74 [some (sR v0), u1, some (sI v2), some (sI v3), some (sR v4), some (sI v5), some (sI v6), u7] [] g 0 0 := by
  intro v3 h3 v6 h6 g hg u1 w1 u7 w7
  unfold bT_killGroup_74
  refine go_iload kk94_1.1.1.1.1.1.1 rfl ?_
  refine go_iload kk94_1.1.1.1.1.1.2 rfl ?_
  refine go_cmlt kk94_1.1.1.1.1.2 h6 h5 (fun c27 => ?_) (fun c28 => ?_)
  · refine go_aload kk94_1.1.1.1.2.1 rfl ?_
    refine go_iload kk94_1.1.1.1.2.2 rfl ?_
    refine go_ck (fun q30 => ?_)
    refine go_pald kk94_1.1.1.2.1.1.1 hg q30 (fun r29 => ?_)
    refine go_astore kk94_1.1.1.2.1.1.2 rfl (loc2 := [some (sR v0), u1, some (sI v2), some (sI v3), some (sR v4), some (sI v5), some (sI v6), some (sR (g v4 v6))]) rfl ?_
    refine go_aload kk94_1.1.1.2.1.2 rfl ?_
    refine go_ck (fun q31 => ?_)
    refine go_getB (bI := 13) kk94_1.1.1.2.2.1 hg q31 (by decide) rfl rfl (fun r32 => ?_)
    refine go_ifeq kk94_1.1.1.2.2.2 (inR_b r32) (fun c33 => ?_) (fun c34 => ?_)
    · refine go_iinc kk94_1.1.2.2.1.1.2 rfl rfl 1 rfl (loc2 := [some (sR v0), u1, some (sI v2), some (sI v3), some (sR v4), some (sI v5), some (sI (w32 (v6 + 1))), some (sR (g v4 v6))]) rfl ?_
      refine go_goto kk94_1.1.2.2.1.2 ?_
      exact HX74 v3 h3 (w32 (v6 + 1)) (inR_w32 _) g hg u1 w1 (some (sR (g v4 v6))) rfl
    · refine go_aload kk94_1.1.2.1.1.1.1 rfl ?_
      refine go_aload kk94_1.1.2.1.1.1.2 rfl ?_
      refine go_iload kk94_1.1.2.1.1.2 rfl ?_
      refine go_callN1 kk94_1.1.2.1.2.1 rfl rfl rfl ⟨by decide, _, rfl, hK0⟩ ⟨Nat.zero_le _, Nat.zero_le _⟩ (by omega) (tfT_letExit (by omega) hg hK0  r29 h2) (fun y35 g37 r36 e38 => ?_)
      refine go_popI kk94_1.1.2.1.2.2 ?_
      refine go_iinc kk94_1.1.2.2.1.1.1 rfl rfl 1 rfl (loc2 := [some (sR v0), u1, some (sI v2), some (sI (w32 (v3 + 1))), some (sR v4), some (sI v5), some (sI v6), some (sR (g v4 v6))]) rfl ?_
      refine go_iinc kk94_1.1.2.2.1.1.2 rfl rfl 1 rfl (loc2 := [some (sR v0), u1, some (sI v2), some (sI (w32 (v3 + 1))), some (sR v4), some (sI v5), some (sI (w32 (v6 + 1))), some (sR (g v4 v6))]) rfl ?_
      refine go_goto kk94_1.1.2.2.1.2 ?_
      exact HX74 (w32 (v3 + 1)) (inR_w32 _) (w32 (v6 + 1)) (inR_w32 _) g37 e38 u1 w1 (some (sR (g v4 v6))) rfl
  · exact tjT_killGroup_113 hd hg hK0 h3 u1 w1 (some (sI v2)) rfl (some (sR v4)) rfl (some (sI v5)) rfl (some (sI v6)) rfl u7 w7
theorem tlT_killGroup_74 {Φ : ev_P} {d : Nat} (hd : 5 ≤ d) {v0 v2 v4 v5 : Int} (hK0 : kd v0 = 5) (h2 : InR v2) (h4 : RfR v4) (h5 : InR v5) : ∀ n : Nat, ∀ (v3 : Int) (h3 : InR v3) (v6 : Int) (h6 : InR v6) (g : gH) (hg : HR g) (u1 : Option ev_V) (w1 : nwo u1) (u7 : Option ev_V) (w7 : nwo u7), Go Φ pr_P fN 1 (lT_killGroup_74 v0 v2 v4 v5 n v3 v6 g) d pr_m94 74 [some (sR v0), u1, some (sI v2), some (sI v3), some (sR v4), some (sI v5), some (sI v6), u7] [] g 0 0 := by
  intro n
  induction n with
  | zero => intros; exact go_none
  | succ n ih => exact tbT_killGroup_74 hd hK0 h2 h4 h5 ih
theorem tjT_killGroup_58 {Φ : ev_P} {d : Nat} (hd : 5 ≤ d) {g : gH} (hg : HR g) {v0 v2 : Int} (hK0 : kd v0 = 5) (h2 : InR v2) (u1 : Option ev_V) (w1 : nwo u1) (u3 : Option ev_V) (w3 : nwo u3) (u4 : Option ev_V) (w4 : nwo u4) (u5 : Option ev_V) (w5 : nwo u5) (u6 : Option ev_V) (w6 : nwo u6) (u7 : Option ev_V) (w7 : nwo u7) : Go Φ pr_P fN 1 (jT_killGroup_58 g v0 v2 ) d pr_m94 58 [some (sR v0), u1, some (sI v2), u3, u4, u5, u6, u7] [] g 0 0 := by
  unfold jT_killGroup_58
  refine go_int kk94_0.2.1.2.2.2 0 rfl ?_
  refine go_istore kk94_0.2.2.1.1.1.1 rfl (loc2 := [some (sR v0), u1, some (sI v2), some (sI 0), u4, u5, u6, u7]) rfl ?_
  refine go_aload kk94_0.2.2.1.1.1.2 rfl ?_
  refine go_getR (bI := 1) kk94_0.2.2.1.1.2 hg hK0 (by decide) rfl rfl (fun r24 => ?_)
  refine go_astore kk94_0.2.2.1.2.1 rfl (loc2 := [some (sR v0), u1, some (sI v2), some (sI 0), some (sR (g v0 1)), u5, u6, u7]) rfl ?_
  refine go_aload kk94_0.2.2.1.2.2 rfl ?_
  refine go_ck (fun q26 => ?_)
  refine go_alen kk94_0.2.2.2.1.1 (ka_24 q26) r24 (fun r25 => ?_)
  refine go_istore kk94_0.2.2.2.1.2 rfl (loc2 := [some (sR v0), u1, some (sI v2), some (sI 0), some (sR (g v0 1)), some (sI (sz (g v0 1))), u6, u7]) rfl ?_
  refine go_int kk94_0.2.2.2.2.1 0 rfl ?_
  refine go_istore kk94_0.2.2.2.2.2 rfl (loc2 := [some (sR v0), u1, some (sI v2), some (sI 0), some (sR (g v0 1)), some (sI (sz (g v0 1))), some (sI 0), u7]) rfl ?_
  exact tlT_killGroup_74 hd hK0 h2 r24 r25 fu 0 (inR_b (Or.inl rfl)) 0 (inR_b (Or.inl rfl)) g hg u1 w1 u7 w7
theorem tbT_killGroup_12 {Φ : ev_P} {d : Nat} (hd : 5 ≤ d) {v0 v1 v2 v3 v4 : Int} (hK0 : kd v0 = 5) (h1 : InR v1) (h2 : InR v2) (h3 : RfR v3) (h4 : InR v4) {X12 : Int → gH → Option (Int × gH)} (HX12 : ∀ (v5 : Int) (h5 : InR v5) (g : gH) (hg : HR g) (u6 : Option ev_V) (w6 : nwo u6) (u7 : Option ev_V) (w7 : nwo u7), Go Φ pr_P fN 1 (X12 v5 g) d pr_m94 12 [some (sR v0), some (sI v1), some (sI v2), some (sR v3), some (sI v4), some (sI v5), u6, u7] [] g 0 0) : ∀ (v5 : Int) (h5 : InR v5) (g : gH) (hg : HR g) (u6 : Option ev_V) (w6 : nwo u6) (u7 : Option ev_V) (w7 : nwo u7), Go Φ pr_P fN 1 (bT_killGroup_12 v0 v1 v2 v3 v4 X12 v5 g) d pr_m94 12 [some (sR v0), some (sI v1), some (sI v2), some (sR v3), some (sI v4), some (sI v5), u6, u7] [] g 0 0 := by
  intro v5 h5 g hg u6 w6 u7 w7
  unfold bT_killGroup_12
  refine go_iload kk94_0.1.1.2.2.1 rfl ?_
  refine go_iload kk94_0.1.1.2.2.2 rfl ?_
  refine go_cmlt kk94_0.1.2.1.1.1.1 h5 h4 (fun c4 => ?_) (fun c5 => ?_)
  · refine go_aload kk94_0.1.2.1.1.1.2 rfl ?_
    refine go_iload kk94_0.1.2.1.1.2 rfl ?_
    refine go_ck (fun q7 => ?_)
    refine go_pald kk94_0.1.2.1.2.1 hg q7 (fun r6 => ?_)
    refine go_astore kk94_0.1.2.1.2.2 rfl (loc2 := [some (sR v0), some (sI v1), some (sI v2), some (sR v3), some (sI v4), some (sI v5), some (sR (g v3 v5)), u7]) rfl ?_
    refine go_aload kk94_0.1.2.2.1.1.1 rfl ?_
    refine go_aload kk94_0.1.2.2.1.1.2 rfl ?_
    refine go_ck (fun q8 => ?_)
    refine go_callP3 kk94_0.1.2.2.1.2 rfl rfl rfl ⟨by decide, _, rfl, q8⟩ ⟨Nat.zero_le _, Nat.zero_le _⟩ (by omega) (tfP_isMortal (by omega) hg q8 ) (fun y9 r10 => ?_)
    refine go_ifeq kk94_0.1.2.2.2.1 (inR_b r10) (fun c13 => ?_) (fun c14 => ?_)
    · refine go_int kk94_0.2.1.2.1.1.1 0 rfl ?_
      refine go_putB (bI := 13) kk94_0.2.1.2.1.1.2 hg q8 (by decide) rfl rfl (Or.inl rfl) (fun g15 e16 => ?_)
      refine go_iinc kk94_0.2.1.2.1.2 rfl rfl 1 rfl (loc2 := [some (sR v0), some (sI v1), some (sI v2), some (sR v3), some (sI v4), some (sI (w32 (v5 + 1))), some (sR (g v3 v5)), u7]) rfl ?_
      refine go_goto kk94_0.2.1.2.2.1 ?_
      exact HX12 (w32 (v5 + 1)) (inR_w32 _) g15 e16 (some (sR (g v3 v5))) rfl u7 w7
    · refine go_aload kk94_0.1.2.2.2.2 rfl ?_
      refine go_getI (bI := 5) kk94_0.2.1.1.1.1.1 hg q8 (by decide) rfl rfl (fun r17 => ?_)
      refine go_iload kk94_0.2.1.1.1.1.2 rfl ?_
      refine go_cmeq kk94_0.2.1.1.1.2 r17 h1 (fun c18 => ?_) (fun c19 => ?_)
      · refine go_int kk94_0.2.1.1.2.1 1 rfl ?_
        refine go_goto kk94_0.2.1.1.2.2 ?_
        refine go_putB (bI := 13) kk94_0.2.1.2.1.1.2 hg q8 (by decide) rfl rfl (Or.inr rfl) (fun g20 e21 => ?_)
        refine go_iinc kk94_0.2.1.2.1.2 rfl rfl 1 rfl (loc2 := [some (sR v0), some (sI v1), some (sI v2), some (sR v3), some (sI v4), some (sI (w32 (v5 + 1))), some (sR (g v3 v5)), u7]) rfl ?_
        refine go_goto kk94_0.2.1.2.2.1 ?_
        exact HX12 (w32 (v5 + 1)) (inR_w32 _) g20 e21 (some (sR (g v3 v5))) rfl u7 w7
      · refine go_int kk94_0.2.1.2.1.1.1 0 rfl ?_
        refine go_putB (bI := 13) kk94_0.2.1.2.1.1.2 hg q8 (by decide) rfl rfl (Or.inl rfl) (fun g22 e23 => ?_)
        refine go_iinc kk94_0.2.1.2.1.2 rfl rfl 1 rfl (loc2 := [some (sR v0), some (sI v1), some (sI v2), some (sR v3), some (sI v4), some (sI (w32 (v5 + 1))), some (sR (g v3 v5)), u7]) rfl ?_
        refine go_goto kk94_0.2.1.2.2.1 ?_
        exact HX12 (w32 (v5 + 1)) (inR_w32 _) g22 e23 (some (sR (g v3 v5))) rfl u7 w7
  · exact tjT_killGroup_58 hd hg hK0 h2 (some (sI v1)) rfl (some (sR v3)) rfl (some (sI v4)) rfl (some (sI v5)) rfl u6 w6 u7 w7
theorem tlT_killGroup_12 {Φ : ev_P} {d : Nat} (hd : 5 ≤ d) {v0 v1 v2 v3 v4 : Int} (hK0 : kd v0 = 5) (h1 : InR v1) (h2 : InR v2) (h3 : RfR v3) (h4 : InR v4) : ∀ n : Nat, ∀ (v5 : Int) (h5 : InR v5) (g : gH) (hg : HR g) (u6 : Option ev_V) (w6 : nwo u6) (u7 : Option ev_V) (w7 : nwo u7), Go Φ pr_P fN 1 (lT_killGroup_12 v0 v1 v2 v3 v4 n v5 g) d pr_m94 12 [some (sR v0), some (sI v1), some (sI v2), some (sR v3), some (sI v4), some (sI v5), u6, u7] [] g 0 0 := by
  intro n
  induction n with
  | zero => intros; exact go_none
  | succ n ih => exact tbT_killGroup_12 hd hK0 h1 h2 h3 h4 ih
theorem tfT_killGroup {Φ : ev_P} {d : Nat} (hd : 5 ≤ d) {g : gH} (hg : HR g) {v0 v1 v2 : Int} (hK0 : kd v0 = 5) (h1 : InR v1) (h2 : InR v2) : Go Φ pr_P fN 1 (fT_killGroup g v0 v1 v2) d (pr_P 94) 0 (ev_loc (pr_P 94).1 [(sR v0), (sI v1), (sI v2)]) [] g 0 0 := by
  show Go Φ pr_P fN 1 (fT_killGroup g v0 v1 v2) d pr_m94 0 [some (sR v0), some (sI v1), some (sI v2), none, none, none, none, none] [] g 0 0
  unfold fT_killGroup
  refine go_aload kk94_0.1.1.1.1.1.1 rfl ?_
  refine go_getR (bI := 1) kk94_0.1.1.1.1.1.2 hg hK0 (by decide) rfl rfl (fun r1 => ?_)
  refine go_astore kk94_0.1.1.1.1.2 rfl (loc2 := [some (sR v0), some (sI v1), some (sI v2), some (sR (g v0 1)), none, none, none, none]) rfl ?_
  refine go_aload kk94_0.1.1.1.2.1 rfl ?_
  refine go_ck (fun q3 => ?_)
  refine go_alen kk94_0.1.1.1.2.2 (ka_24 q3) r1 (fun r2 => ?_)
  refine go_istore kk94_0.1.1.2.1.1.1 rfl (loc2 := [some (sR v0), some (sI v1), some (sI v2), some (sR (g v0 1)), some (sI (sz (g v0 1))), none, none, none]) rfl ?_
  refine go_int kk94_0.1.1.2.1.1.2 0 rfl ?_
  refine go_istore kk94_0.1.1.2.1.2 rfl (loc2 := [some (sR v0), some (sI v1), some (sI v2), some (sR (g v0 1)), some (sI (sz (g v0 1))), some (sI 0), none, none]) rfl ?_
  exact tlT_killGroup_12 hd hK0 h1 h2 r1 r2 fu 0 (inR_b (Or.inl rfl)) g hg none rfl none rfl
theorem tfC_kill {Φ : ev_P} {d : Nat} (hd : 6 ≤ d) {g : gH} (hg : HR g) {v0 v1 v2 : Int} (hK0 : kd v0 = 6) (h1 : InR v1) (h2 : InR v2) : Go Φ pr_P fT 1 (fC_kill g v0 v1 v2) d (pr_P 9) 0 (ev_loc (pr_P 9).1 [(sR v0), (sI v1), (sI v2)]) [] g 0 0 := by
  show Go Φ pr_P fT 1 (fC_kill g v0 v1 v2) d pr_m9 0 [some (sR v0), some (sI v1), some (sI v2)] [] g 0 0
  unfold fC_kill
  refine go_iload kk9_0.1.1.1.1 rfl ?_
  refine go_iload kk9_0.1.1.1.2 rfl ?_
  refine go_callQ0 kk9_0.1.1.2.1 rfl rfl rfl trivial ⟨Nat.zero_le _, Nat.zero_le _⟩ (by omega) (tfC_checkKill (by omega) hg  h1 h2) (fun y1 => ?_) ge_qt
  refine go_aload kk9_0.1.1.2.2 rfl ?_
  refine go_getR (bI := 3) kk9_0.1.2.1.1 hg hK0 (by decide) rfl rfl (fun r7 => ?_)
  refine go_aload kk9_0.1.2.1.2 rfl ?_
  refine go_getR (bI := 0) kk9_0.1.2.2 hg hK0 (by decide) rfl rfl (fun r8 => ?_)
  refine go_ck (fun q9 => ?_)
  refine go_callN0 kk9_0.2.1.1.1 rfl rfl rfl ⟨by decide, _, rfl, q9⟩ ⟨Nat.zero_le _, Nat.zero_le _⟩ (by omega) (tfH_push (by omega) hg q9  r8) (fun y10 g12 e13 => ?_)
  refine go_aload kk9_0.2.1.1.2 rfl ?_
  refine go_getR (bI := 0) kk9_0.2.1.2.1 e13 hK0 (by decide) rfl rfl (fun r14 => ?_)
  refine go_iload kk9_0.2.1.2.2 rfl ?_
  refine go_iload kk9_0.2.2.1.1 rfl ?_
  refine go_ck (fun q15 => ?_)
  refine go_callN1 kk9_0.2.2.1.2 rfl rfl rfl ⟨by decide, _, rfl, q15⟩ ⟨Nat.zero_le _, Nat.zero_le _⟩ (by omega) (tfT_killGroup (by omega) e13 q15  h1 h2) (fun y16 g18 r17 e19 => ?_)
  exact go_iret kk9_0.2.2.2 e19 r17 ⟨Nat.zero_le _, Nat.zero_le _⟩ rfl
theorem tbT_loseGroup_16 {Φ : ev_P} {d : Nat} (hd : 4 ≤ d) {v0 v1 v2 v4 v5 : Int} (hK0 : kd v0 = 5) (h1 : RfR v1) (h2 : InR v2) (h4 : RfR v4) (h5 : InR v5) {X16 : Int → Int → gH → Option (Int × gH)} (HX16 : ∀ (v3 : Int) (h3 : InR v3) (v6 : Int) (h6 : InR v6) (g : gH) (hg : HR g) (u7 : Option ev_V) (w7 : nwo u7), Go Φ pr_P fN 1 (X16 v3 v6 g) d pr_m95 16 [some (sR v0), some (sR v1), some (sI v2), some (sI v3), some (sR v4), some (sI v5), some (sI v6), u7] [] g 0 0) : ∀ (v3 : Int) (h3 : InR v3) (v6 : Int) (h6 : InR v6) (g : gH) (hg : HR g) (u7 : Option ev_V) (w7 : nwo u7), Go Φ pr_P fN 1 (bT_loseGroup_16 v0 v1 v2 v4 v5 X16 v3 v6 g) d pr_m95 16 [some (sR v0), some (sR v1), some (sI v2), some (sI v3), some (sR v4), some (sI v5), some (sI v6), u7] [] g 0 0 := by
  intro v3 h3 v6 h6 g hg u7 w7
  unfold bT_loseGroup_16
  refine go_iload kk95_0.1.2.1.1.1.2 rfl ?_
  refine go_iload kk95_0.1.2.1.1.2 rfl ?_
  refine go_cmlt kk95_0.1.2.1.2.1 h6 h5 (fun c4 => ?_) (fun c5 => ?_)
  · refine go_aload kk95_0.1.2.1.2.2 rfl ?_
    refine go_iload kk95_0.1.2.2.1.1 rfl ?_
    refine go_ck (fun q7 => ?_)
    refine go_pald kk95_0.1.2.2.1.2 hg q7 (fun r6 => ?_)
    refine go_astore kk95_0.1.2.2.2.1 rfl (loc2 := [some (sR v0), some (sR v1), some (sI v2), some (sI v3), some (sR v4), some (sI v5), some (sI v6), some (sR (g v4 v6))]) rfl ?_
    refine go_aload kk95_0.1.2.2.2.2 rfl ?_
    refine go_aload kk95_0.2.1.1.1.1.1 rfl ?_
    refine go_ck (fun q8 => ?_)
    refine go_callP3 kk95_0.2.1.1.1.1.2 rfl rfl rfl ⟨by decide, _, rfl, q8⟩ ⟨Nat.zero_le _, Nat.zero_le _⟩ (by omega) (tfP_isRunningChildOf (by omega) hg q8  h1) (fun y9 r10 => ?_)
    refine go_ifeq kk95_0.2.1.1.1.2 (inR_b r10) (fun c13 => ?_) (fun c14 => ?_)
    · refine go_iinc kk95_0.2.2.2.1.1 rfl rfl 1 rfl (loc2 := [some (sR v0), some (sR v1), some (sI v2), some (sI v3), some (sR v4), some (sI v5), some (sI (w32 (v6 + 1))), some (sR (g v4 v6))]) rfl ?_
      refine go_goto kk95_0.2.2.2.1.2 ?_
      exact HX16 v3 h3 (w32 (v6 + 1)) (inR_w32 _) g hg (some (sR (g v4 v6))) rfl
    · refine go_aload kk95_0.2.1.1.2.1 rfl ?_
      refine go_getI (bI := 5) kk95_0.2.1.1.2.2 hg q8 (by decide) rfl rfl (fun r15 => ?_)
      refine go_iload kk95_0.2.1.2.1.1 rfl ?_
      refine go_cmeq kk95_0.2.1.2.1.2 r15 h2 (fun c16 => ?_) (fun c17 => ?_)
      · refine go_aload kk95_0.2.1.2.2.1 rfl ?_
        refine go_aload kk95_0.2.1.2.2.2 rfl ?_
        refine go_aload kk95_0.2.2.1.1.1.1 rfl ?_
        refine go_aload kk95_0.2.2.1.1.1.2 rfl ?_
        refine go_callP2 kk95_0.2.2.1.1.2 rfl rfl rfl ⟨by decide, _, rfl, hK0⟩ ⟨Nat.zero_le _, Nat.zero_le _⟩ (by omega) (tfT_adopterOf (by omega) hg hK0  r6) (fun y18 r19 => ?_)
        refine go_callN0 kk95_0.2.2.1.2.1 rfl rfl rfl ⟨by decide, _, rfl, hK0⟩ ⟨Nat.zero_le _, Nat.zero_le _⟩ (by omega) (tfT_adopt (by omega) hg hK0  r6 r19) (fun y22 g24 e25 => ?_)
        refine go_iinc kk95_0.2.2.1.2.2 rfl rfl 1 rfl (loc2 := [some (sR v0), some (sR v1), some (sI v2), some (sI (w32 (v3 + 1))), some (sR v4), some (sI v5), some (sI v6), some (sR (g v4 v6))]) rfl ?_
        refine go_iinc kk95_0.2.2.2.1.1 rfl rfl 1 rfl (loc2 := [some (sR v0), some (sR v1), some (sI v2), some (sI (w32 (v3 + 1))), some (sR v4), some (sI v5), some (sI (w32 (v6 + 1))), some (sR (g v4 v6))]) rfl ?_
        refine go_goto kk95_0.2.2.2.1.2 ?_
        exact HX16 (w32 (v3 + 1)) (inR_w32 _) (w32 (v6 + 1)) (inR_w32 _) g24 e25 (some (sR (g v4 v6))) rfl
      · refine go_iinc kk95_0.2.2.2.1.1 rfl rfl 1 rfl (loc2 := [some (sR v0), some (sR v1), some (sI v2), some (sI v3), some (sR v4), some (sI v5), some (sI (w32 (v6 + 1))), some (sR (g v4 v6))]) rfl ?_
        refine go_goto kk95_0.2.2.2.1.2 ?_
        exact HX16 v3 h3 (w32 (v6 + 1)) (inR_w32 _) g hg (some (sR (g v4 v6))) rfl
  · refine go_iload kk95_0.2.2.2.2.1 rfl ?_
    exact go_iret kk95_0.2.2.2.2.2 hg h3 ⟨Nat.zero_le _, Nat.zero_le _⟩ rfl
theorem tlT_loseGroup_16 {Φ : ev_P} {d : Nat} (hd : 4 ≤ d) {v0 v1 v2 v4 v5 : Int} (hK0 : kd v0 = 5) (h1 : RfR v1) (h2 : InR v2) (h4 : RfR v4) (h5 : InR v5) : ∀ n : Nat, ∀ (v3 : Int) (h3 : InR v3) (v6 : Int) (h6 : InR v6) (g : gH) (hg : HR g) (u7 : Option ev_V) (w7 : nwo u7), Go Φ pr_P fN 1 (lT_loseGroup_16 v0 v1 v2 v4 v5 n v3 v6 g) d pr_m95 16 [some (sR v0), some (sR v1), some (sI v2), some (sI v3), some (sR v4), some (sI v5), some (sI v6), u7] [] g 0 0 := by
  intro n
  induction n with
  | zero => intros; exact go_none
  | succ n ih => exact tbT_loseGroup_16 hd hK0 h1 h2 h4 h5 ih
theorem tfT_loseGroup {Φ : ev_P} {d : Nat} (hd : 4 ≤ d) {g : gH} (hg : HR g) {v0 v1 v2 : Int} (hK0 : kd v0 = 5) (h1 : RfR v1) (h2 : InR v2) : Go Φ pr_P fN 1 (fT_loseGroup g v0 v1 v2) d (pr_P 95) 0 (ev_loc (pr_P 95).1 [(sR v0), (sR v1), (sI v2)]) [] g 0 0 := by
  show Go Φ pr_P fN 1 (fT_loseGroup g v0 v1 v2) d pr_m95 0 [some (sR v0), some (sR v1), some (sI v2), none, none, none, none, none] [] g 0 0
  unfold fT_loseGroup
  refine go_int kk95_0.1.1.1.1.1.1 0 rfl ?_
  refine go_istore kk95_0.1.1.1.1.1.2 rfl (loc2 := [some (sR v0), some (sR v1), some (sI v2), some (sI 0), none, none, none, none]) rfl ?_
  refine go_aload kk95_0.1.1.1.1.2 rfl ?_
  refine go_getR (bI := 1) kk95_0.1.1.1.2.1 hg hK0 (by decide) rfl rfl (fun r1 => ?_)
  refine go_astore kk95_0.1.1.1.2.2 rfl (loc2 := [some (sR v0), some (sR v1), some (sI v2), some (sI 0), some (sR (g v0 1)), none, none, none]) rfl ?_
  refine go_aload kk95_0.1.1.2.1.1 rfl ?_
  refine go_ck (fun q3 => ?_)
  refine go_alen kk95_0.1.1.2.1.2 (ka_24 q3) r1 (fun r2 => ?_)
  refine go_istore kk95_0.1.1.2.2.1 rfl (loc2 := [some (sR v0), some (sR v1), some (sI v2), some (sI 0), some (sR (g v0 1)), some (sI (sz (g v0 1))), none, none]) rfl ?_
  refine go_int kk95_0.1.1.2.2.2 0 rfl ?_
  refine go_istore kk95_0.1.2.1.1.1.1 rfl (loc2 := [some (sR v0), some (sR v1), some (sI v2), some (sI 0), some (sR (g v0 1)), some (sI (sz (g v0 1))), some (sI 0), none]) rfl ?_
  exact tlT_loseGroup_16 hd hK0 h1 h2 r1 r2 fu 0 (inR_b (Or.inl rfl)) 0 (inR_b (Or.inl rfl)) g hg none rfl
