/-! ===== the evaluator comes to what the functions tell (own work, by program: wip/p2/dec.py) ===== -/
theorem tfC_height {Φ : ev_P} {d : Nat} (hd : 2 ≤ d) {g : gH} (hg : HR g) {v0 : Int} (hK0 : kd v0 = 6) : Go Φ pr_P (fP g) 1 (fC_height g v0) d (pr_P 16) 0 (ev_loc (pr_P 16).1 [(sR v0)]) [] g 0 0 := by
  show Go Φ pr_P (fP g) 1 (fC_height g v0) d pr_m16 0 [some (sR v0)] [] g 0 0
  unfold fC_height
  refine go_aload kk16_0.1.1 rfl ?_
  refine go_getR (bI := 0) kk16_0.1.2 hg hK0 (by decide) rfl rfl (fun r1 => ?_)
  refine go_ck (fun q2 => ?_)
  refine go_callP1 kk16_0.2.1 rfl rfl rfl ⟨by decide, _, rfl, q2⟩ ⟨Nat.zero_le _, Nat.zero_le _⟩ (by omega) (tfT_greatestDepth (by omega) hg q2 ) (fun y3 r4 => ?_)
  exact go_iret kk16_0.2.2 hg r4 ⟨Nat.zero_le _, Nat.zero_le _⟩ rfl
theorem tbC_allRoom_16 {Φ : ev_P} {d : Nat} (hd : 1 ≤ d) {g : gH} (hg : HR g) {v2 v3 : Int} (h2 : RfR v2) (h3 : InR v3) {X16 : Int → Int → Option Int} (HX16 : ∀ (v1 : Int) (h1 : InR v1) (v4 : Int) (h4 : InR v4) (u0 : Option ev_V) (w0 : nwo u0) (u5 : Option ev_V) (w5 : nwo u5), Go Φ pr_P (fP g) 1 (X16 v1 v4) d pr_m36 16 [u0, some (sI v1), some (sR v2), some (sI v3), some (sI v4), u5] [] g 0 0) : ∀ (v1 : Int) (h1 : InR v1) (v4 : Int) (h4 : InR v4) (u0 : Option ev_V) (w0 : nwo u0) (u5 : Option ev_V) (w5 : nwo u5), Go Φ pr_P (fP g) 1 (bC_allRoom_16 g v2 v3 X16 v1 v4) d pr_m36 16 [u0, some (sI v1), some (sR v2), some (sI v3), some (sI v4), u5] [] g 0 0 := by
  intro v1 h1 v4 h4 u0 w0 u5 w5
  unfold bC_allRoom_16
  refine go_iload kk36_0.1.2.2.1.1 rfl ?_
  refine go_iload kk36_0.1.2.2.1.2 rfl ?_
  refine go_cmlt kk36_0.1.2.2.2 h4 h3 (fun c6 => ?_) (fun c7 => ?_)
  · refine go_aload kk36_0.2.1.1.1.1 rfl ?_
    refine go_iload kk36_0.2.1.1.1.2 rfl ?_
    refine go_ck (fun q9 => ?_)
    refine go_pald kk36_0.2.1.1.2.1 hg q9 (fun r8 => ?_)
    refine go_astore kk36_0.2.1.1.2.2 rfl (loc2 := [u0, some (sI v1), some (sR v2), some (sI v3), some (sI v4), some (sR (g v2 v4))]) rfl ?_
    refine go_iload kk36_0.2.1.2.1.1 rfl ?_
    refine go_aload kk36_0.2.1.2.1.2 rfl ?_
    refine go_ck (fun q10 => ?_)
    refine go_callP1 kk36_0.2.1.2.2 rfl rfl rfl ⟨by decide, _, rfl, q10⟩ ⟨Nat.zero_le _, Nat.zero_le _⟩ (by omega) (tfP_room (by omega) hg q10 ) (fun y11 r12 => ?_)
    refine go_iadd kk36_0.2.2.1.1.1 ?_
    refine go_istore kk36_0.2.2.1.1.2 w0 (loc2 := [u0, some (sI (w32 (v1 + y11))), some (sR v2), some (sI v3), some (sI v4), some (sR (g v2 v4))]) rfl ?_
    refine go_iinc kk36_0.2.2.1.2 rfl rfl 1 rfl (loc2 := [u0, some (sI (w32 (v1 + y11))), some (sR v2), some (sI v3), some (sI (w32 (v4 + 1))), some (sR (g v2 v4))]) rfl ?_
    refine go_goto kk36_0.2.2.2.1.1 ?_
    exact HX16 (w32 (v1 + y11)) (inR_w32 _) (w32 (v4 + 1)) (inR_w32 _) u0 w0 (some (sR (g v2 v4))) rfl
  · refine go_iload kk36_0.2.2.2.1.2 rfl ?_
    exact go_iret kk36_0.2.2.2.2 hg h1 ⟨Nat.zero_le _, Nat.zero_le _⟩ rfl
theorem tlC_allRoom_16 {Φ : ev_P} {d : Nat} (hd : 1 ≤ d) {g : gH} (hg : HR g) {v2 v3 : Int} (h2 : RfR v2) (h3 : InR v3) : ∀ n : Nat, ∀ (v1 : Int) (h1 : InR v1) (v4 : Int) (h4 : InR v4) (u0 : Option ev_V) (w0 : nwo u0) (u5 : Option ev_V) (w5 : nwo u5), Go Φ pr_P (fP g) 1 (lC_allRoom_16 g v2 v3 n v1 v4) d pr_m36 16 [u0, some (sI v1), some (sR v2), some (sI v3), some (sI v4), u5] [] g 0 0 := by
  intro n
  induction n with
  | zero => intros; exact go_none
  | succ n ih => exact tbC_allRoom_16 hd hg h2 h3 ih
theorem tfC_allRoom {Φ : ev_P} {d : Nat} (hd : 1 ≤ d) {g : gH} (hg : HR g) {v0 : Int} (hK0 : kd v0 = 6) : Go Φ pr_P (fP g) 1 (fC_allRoom g v0) d (pr_P 36) 0 (ev_loc (pr_P 36).1 [(sR v0)]) [] g 0 0 := by
  show Go Φ pr_P (fP g) 1 (fC_allRoom g v0) d pr_m36 0 [some (sR v0), none, none, none, none, none] [] g 0 0
  unfold fC_allRoom
  refine go_int kk36_0.1.1.1.1.1 0 rfl ?_
  refine go_istore kk36_0.1.1.1.1.2 rfl (loc2 := [some (sR v0), some (sI 0), none, none, none, none]) rfl ?_
  refine go_aload kk36_0.1.1.1.2.1 rfl ?_
  refine go_getR (bI := 0) kk36_0.1.1.1.2.2 hg hK0 (by decide) rfl rfl (fun r1 => ?_)
  refine go_ck (fun q2 => ?_)
  refine go_getR (bI := 1) kk36_0.1.1.2.1.1 hg q2 (by decide) rfl rfl (fun r3 => ?_)
  refine go_astore kk36_0.1.1.2.1.2 rfl (loc2 := [some (sR v0), some (sI 0), some (sR (g (g v0 0) 1)), none, none, none]) rfl ?_
  refine go_aload kk36_0.1.1.2.2 rfl ?_
  refine go_ck (fun q5 => ?_)
  refine go_alen kk36_0.1.2.1.1.1 (ka_24 q5) (fun r4 => ?_)
  refine go_istore kk36_0.1.2.1.1.2 rfl (loc2 := [some (sR v0), some (sI 0), some (sR (g (g v0 0) 1)), some (sI (sz (g (g v0 0) 1))), none, none]) rfl ?_
  refine go_int kk36_0.1.2.1.2.1 0 rfl ?_
  refine go_istore kk36_0.1.2.1.2.2 rfl (loc2 := [some (sR v0), some (sI 0), some (sR (g (g v0 0) 1)), some (sI (sz (g (g v0 0) 1))), some (sI 0), none]) rfl ?_
  exact tlC_allRoom_16 hd hg r3 r4 fu 0 (inR_b (Or.inl rfl)) 0 (inR_b (Or.inl rfl)) (some (sR v0)) rfl none rfl
theorem tbC_overfull_16 {Φ : ev_P} {d : Nat} (hd : 1 ≤ d) {g : gH} (hg : HR g) {v2 v3 : Int} (h2 : RfR v2) (h3 : InR v3) {X16 : Int → Int → Option Int} (HX16 : ∀ (v1 : Int) (h1 : InR v1) (v4 : Int) (h4 : InR v4) (u0 : Option ev_V) (w0 : nwo u0) (u5 : Option ev_V) (w5 : nwo u5), Go Φ pr_P (fP g) 1 (X16 v1 v4) d pr_m37 16 [u0, some (sI v1), some (sR v2), some (sI v3), some (sI v4), u5] [] g 0 0) : ∀ (v1 : Int) (h1 : InR v1) (v4 : Int) (h4 : InR v4) (u0 : Option ev_V) (w0 : nwo u0) (u5 : Option ev_V) (w5 : nwo u5), Go Φ pr_P (fP g) 1 (bC_overfull_16 g v2 v3 X16 v1 v4) d pr_m37 16 [u0, some (sI v1), some (sR v2), some (sI v3), some (sI v4), u5] [] g 0 0 := by
  intro v1 h1 v4 h4 u0 w0 u5 w5
  unfold bC_overfull_16
  refine go_iload kk37_0.1.2.1.2.2 rfl ?_
  refine go_iload kk37_0.1.2.2.1.1 rfl ?_
  refine go_cmlt kk37_0.1.2.2.1.2 h4 h3 (fun c6 => ?_) (fun c7 => ?_)
  · refine go_aload kk37_0.1.2.2.2.1 rfl ?_
    refine go_iload kk37_0.1.2.2.2.2 rfl ?_
    refine go_ck (fun q9 => ?_)
    refine go_pald kk37_0.2.1.1.1.1 hg q9 (fun r8 => ?_)
    refine go_astore kk37_0.2.1.1.1.2 rfl (loc2 := [u0, some (sI v1), some (sR v2), some (sI v3), some (sI v4), some (sR (g v2 v4))]) rfl ?_
    refine go_aload kk37_0.2.1.1.2.1 rfl ?_
    refine go_ck (fun q10 => ?_)
    refine go_callP3 kk37_0.2.1.1.2.2 rfl rfl rfl ⟨by decide, _, rfl, q10⟩ ⟨Nat.zero_le _, Nat.zero_le _⟩ (by omega) (tfP_isRunning (by omega) hg q10 ) (fun y11 r12 => ?_)
    refine go_ifeq kk37_0.2.1.2.1.1 (inR_b r12) (fun c15 => ?_) (fun c16 => ?_)
    · refine go_iinc kk37_0.2.2.1.2.2 rfl rfl 1 rfl (loc2 := [u0, some (sI v1), some (sR v2), some (sI v3), some (sI (w32 (v4 + 1))), some (sR (g v2 v4))]) rfl ?_
      refine go_goto kk37_0.2.2.2.1.1 ?_
      exact HX16 v1 h1 (w32 (v4 + 1)) (inR_w32 _) u0 w0 (some (sR (g v2 v4))) rfl
    · refine go_aload kk37_0.2.1.2.1.2 rfl ?_
      refine go_getI (bI := 3) kk37_0.2.1.2.2.1 hg q10 (by decide) rfl rfl (fun r17 => ?_)
      refine go_aload kk37_0.2.1.2.2.2 rfl ?_
      refine go_getI (bI := 4) kk37_0.2.2.1.1.1 hg q10 (by decide) rfl rfl (fun r18 => ?_)
      refine go_cmgt kk37_0.2.2.1.1.2 r17 r18 (fun c19 => ?_) (fun c20 => ?_)
      · refine go_iinc kk37_0.2.2.1.2.1 rfl w0 1 rfl (loc2 := [u0, some (sI (w32 (v1 + 1))), some (sR v2), some (sI v3), some (sI v4), some (sR (g v2 v4))]) rfl ?_
        refine go_iinc kk37_0.2.2.1.2.2 rfl rfl 1 rfl (loc2 := [u0, some (sI (w32 (v1 + 1))), some (sR v2), some (sI v3), some (sI (w32 (v4 + 1))), some (sR (g v2 v4))]) rfl ?_
        refine go_goto kk37_0.2.2.2.1.1 ?_
        exact HX16 (w32 (v1 + 1)) (inR_w32 _) (w32 (v4 + 1)) (inR_w32 _) u0 w0 (some (sR (g v2 v4))) rfl
      · refine go_iinc kk37_0.2.2.1.2.2 rfl rfl 1 rfl (loc2 := [u0, some (sI v1), some (sR v2), some (sI v3), some (sI (w32 (v4 + 1))), some (sR (g v2 v4))]) rfl ?_
        refine go_goto kk37_0.2.2.2.1.1 ?_
        exact HX16 v1 h1 (w32 (v4 + 1)) (inR_w32 _) u0 w0 (some (sR (g v2 v4))) rfl
  · refine go_iload kk37_0.2.2.2.1.2 rfl ?_
    exact go_iret kk37_0.2.2.2.2 hg h1 ⟨Nat.zero_le _, Nat.zero_le _⟩ rfl
theorem tlC_overfull_16 {Φ : ev_P} {d : Nat} (hd : 1 ≤ d) {g : gH} (hg : HR g) {v2 v3 : Int} (h2 : RfR v2) (h3 : InR v3) : ∀ n : Nat, ∀ (v1 : Int) (h1 : InR v1) (v4 : Int) (h4 : InR v4) (u0 : Option ev_V) (w0 : nwo u0) (u5 : Option ev_V) (w5 : nwo u5), Go Φ pr_P (fP g) 1 (lC_overfull_16 g v2 v3 n v1 v4) d pr_m37 16 [u0, some (sI v1), some (sR v2), some (sI v3), some (sI v4), u5] [] g 0 0 := by
  intro n
  induction n with
  | zero => intros; exact go_none
  | succ n ih => exact tbC_overfull_16 hd hg h2 h3 ih
theorem tfC_overfull {Φ : ev_P} {d : Nat} (hd : 1 ≤ d) {g : gH} (hg : HR g) {v0 : Int} (hK0 : kd v0 = 6) : Go Φ pr_P (fP g) 1 (fC_overfull g v0) d (pr_P 37) 0 (ev_loc (pr_P 37).1 [(sR v0)]) [] g 0 0 := by
  show Go Φ pr_P (fP g) 1 (fC_overfull g v0) d pr_m37 0 [some (sR v0), none, none, none, none, none] [] g 0 0
  unfold fC_overfull
  refine go_int kk37_0.1.1.1.1.1 0 rfl ?_
  refine go_istore kk37_0.1.1.1.1.2 rfl (loc2 := [some (sR v0), some (sI 0), none, none, none, none]) rfl ?_
  refine go_aload kk37_0.1.1.1.2.1 rfl ?_
  refine go_getR (bI := 0) kk37_0.1.1.1.2.2 hg hK0 (by decide) rfl rfl (fun r1 => ?_)
  refine go_ck (fun q2 => ?_)
  refine go_getR (bI := 1) kk37_0.1.1.2.1.1 hg q2 (by decide) rfl rfl (fun r3 => ?_)
  refine go_astore kk37_0.1.1.2.1.2 rfl (loc2 := [some (sR v0), some (sI 0), some (sR (g (g v0 0) 1)), none, none, none]) rfl ?_
  refine go_aload kk37_0.1.1.2.2.1 rfl ?_
  refine go_ck (fun q5 => ?_)
  refine go_alen kk37_0.1.1.2.2.2 (ka_24 q5) (fun r4 => ?_)
  refine go_istore kk37_0.1.2.1.1.1 rfl (loc2 := [some (sR v0), some (sI 0), some (sR (g (g v0 0) 1)), some (sI (sz (g (g v0 0) 1))), none, none]) rfl ?_
  refine go_int kk37_0.1.2.1.1.2 0 rfl ?_
  refine go_istore kk37_0.1.2.1.2.1 rfl (loc2 := [some (sR v0), some (sI 0), some (sR (g (g v0 0) 1)), some (sI (sz (g (g v0 0) 1))), some (sI 0), none]) rfl ?_
  exact tlC_overfull_16 hd hg r3 r4 fu 0 (inR_b (Or.inl rfl)) 0 (inR_b (Or.inl rfl)) (some (sR v0)) rfl none rfl
theorem tjC_meanDepth_57 {Φ : ev_P} {d : Nat} (hd : 1 ≤ d) {g : gH} (hg : HR g) {v1 v2 : Int} (h1 : InR v1) (h2 : InR v2) (u0 : Option ev_V) (w0 : nwo u0) (u3 : Option ev_V) (w3 : nwo u3) (u4 : Option ev_V) (w4 : nwo u4) (u5 : Option ev_V) (w5 : nwo u5) (u6 : Option ev_V) (w6 : nwo u6) : Go Φ pr_P (fP g) 5 (jC_meanDepth_57 g v1 v2 ) d pr_m41 57 [u0, some (sI v1), some (sI v2), u3, u4, u5, u6] [] g 0 0 := by
  unfold jC_meanDepth_57
  refine go_iload kk41_0.2.2.1.1.1.1 rfl ?_
  refine go_ifeq kk41_0.2.2.1.1.1.2 h2 (fun c21 => ?_) (fun c22 => ?_)
  · refine go_dconst kk41_0.2.2.1.1.2 0 rfl ?_
    refine go_goto kk41_0.2.2.1.2.1 ?_
    exact go_dret kk41_0.2.2.2.2.2 hg ⟨Nat.zero_le _, Nat.zero_le _⟩ rfl
  · refine go_iload kk41_0.2.2.1.2.2 rfl ?_
    refine go_i2d kk41_0.2.2.2.1.1.1 ?_
    refine go_iload kk41_0.2.2.2.1.1.2 rfl ?_
    refine go_i2d kk41_0.2.2.2.1.2 ?_
    refine go_ck (fun q23 => ?_)
    refine go_ddiv kk41_0.2.2.2.2.1 q23 rfl ⟨Nat.zero_le _, Nat.zero_le _⟩ ?_
    exact go_dret kk41_0.2.2.2.2.2 hg ⟨Nat.zero_le _, Nat.zero_le _⟩ rfl
theorem tbC_meanDepth_19 {Φ : ev_P} {d : Nat} (hd : 1 ≤ d) {g : gH} (hg : HR g) {v3 v4 : Int} (h3 : RfR v3) (h4 : InR v4) {X19 : Int → Int → Int → Option Int} (HX19 : ∀ (v1 : Int) (h1 : InR v1) (v2 : Int) (h2 : InR v2) (v5 : Int) (h5 : InR v5) (u0 : Option ev_V) (w0 : nwo u0) (u6 : Option ev_V) (w6 : nwo u6), Go Φ pr_P (fP g) 5 (X19 v1 v2 v5) d pr_m41 19 [u0, some (sI v1), some (sI v2), some (sR v3), some (sI v4), some (sI v5), u6] [] g 0 0) : ∀ (v1 : Int) (h1 : InR v1) (v2 : Int) (h2 : InR v2) (v5 : Int) (h5 : InR v5) (u0 : Option ev_V) (w0 : nwo u0) (u6 : Option ev_V) (w6 : nwo u6), Go Φ pr_P (fP g) 5 (bC_meanDepth_19 g v3 v4 X19 v1 v2 v5) d pr_m41 19 [u0, some (sI v1), some (sI v2), some (sR v3), some (sI v4), some (sI v5), u6] [] g 0 0 := by
  intro v1 h1 v2 h2 v5 h5 u0 w0 u6 w6
  unfold bC_meanDepth_19
  refine go_iload kk41_0.1.2.1.1.2 rfl ?_
  refine go_iload kk41_0.1.2.1.2.1 rfl ?_
  refine go_cmlt kk41_0.1.2.1.2.2 h5 h4 (fun c6 => ?_) (fun c7 => ?_)
  · refine go_aload kk41_0.1.2.2.1.1.1 rfl ?_
    refine go_iload kk41_0.1.2.2.1.1.2 rfl ?_
    refine go_ck (fun q9 => ?_)
    refine go_pald kk41_0.1.2.2.1.2 hg q9 (fun r8 => ?_)
    refine go_astore kk41_0.1.2.2.2.1 rfl (loc2 := [u0, some (sI v1), some (sI v2), some (sR v3), some (sI v4), some (sI v5), some (sR (g v3 v5))]) rfl ?_
    refine go_aload kk41_0.1.2.2.2.2 rfl ?_
    refine go_ck (fun q10 => ?_)
    refine go_callP3 kk41_0.2.1.1.1.1.1 rfl rfl rfl ⟨by decide, _, rfl, q10⟩ ⟨Nat.zero_le _, Nat.zero_le _⟩ (by omega) (tfP_isRunning (by omega) hg q10 ) (fun y11 r12 => ?_)
    refine go_ifeq kk41_0.2.1.1.1.1.2 (inR_b r12) (fun c15 => ?_) (fun c16 => ?_)
    · refine go_iinc kk41_0.2.1.2.2.1 rfl rfl 1 rfl (loc2 := [u0, some (sI v1), some (sI v2), some (sR v3), some (sI v4), some (sI (w32 (v5 + 1))), some (sR (g v3 v5))]) rfl ?_
      refine go_goto kk41_0.2.1.2.2.2 ?_
      exact HX19 v1 h1 v2 h2 (w32 (v5 + 1)) (inR_w32 _) u0 w0 (some (sR (g v3 v5))) rfl
    · refine go_iload kk41_0.2.1.1.1.2 rfl ?_
      refine go_aload kk41_0.2.1.1.2.1 rfl ?_
      refine go_callP1 kk41_0.2.1.1.2.2 rfl rfl rfl ⟨by decide, _, rfl, q10⟩ ⟨Nat.zero_le _, Nat.zero_le _⟩ (by omega) (tfP_countAbove (by omega) hg q10 ) (fun y17 r18 => ?_)
      refine go_iadd kk41_0.2.1.2.1.1.1 ?_
      refine go_istore kk41_0.2.1.2.1.1.2 w0 (loc2 := [u0, some (sI (w32 (v1 + y17))), some (sI v2), some (sR v3), some (sI v4), some (sI v5), some (sR (g v3 v5))]) rfl ?_
      refine go_iinc kk41_0.2.1.2.1.2 rfl rfl 1 rfl (loc2 := [u0, some (sI (w32 (v1 + y17))), some (sI (w32 (v2 + 1))), some (sR v3), some (sI v4), some (sI v5), some (sR (g v3 v5))]) rfl ?_
      refine go_iinc kk41_0.2.1.2.2.1 rfl rfl 1 rfl (loc2 := [u0, some (sI (w32 (v1 + y17))), some (sI (w32 (v2 + 1))), some (sR v3), some (sI v4), some (sI (w32 (v5 + 1))), some (sR (g v3 v5))]) rfl ?_
      refine go_goto kk41_0.2.1.2.2.2 ?_
      exact HX19 (w32 (v1 + y17)) (inR_w32 _) (w32 (v2 + 1)) (inR_w32 _) (w32 (v5 + 1)) (inR_w32 _) u0 w0 (some (sR (g v3 v5))) rfl
  · exact tjC_meanDepth_57 hd hg h1 h2 u0 w0 (some (sR v3)) rfl (some (sI v4)) rfl (some (sI v5)) rfl u6 w6
theorem tlC_meanDepth_19 {Φ : ev_P} {d : Nat} (hd : 1 ≤ d) {g : gH} (hg : HR g) {v3 v4 : Int} (h3 : RfR v3) (h4 : InR v4) : ∀ n : Nat, ∀ (v1 : Int) (h1 : InR v1) (v2 : Int) (h2 : InR v2) (v5 : Int) (h5 : InR v5) (u0 : Option ev_V) (w0 : nwo u0) (u6 : Option ev_V) (w6 : nwo u6), Go Φ pr_P (fP g) 5 (lC_meanDepth_19 g v3 v4 n v1 v2 v5) d pr_m41 19 [u0, some (sI v1), some (sI v2), some (sR v3), some (sI v4), some (sI v5), u6] [] g 0 0 := by
  intro n
  induction n with
  | zero => intros; exact go_none
  | succ n ih => exact tbC_meanDepth_19 hd hg h3 h4 ih
theorem tfC_meanDepth {Φ : ev_P} {d : Nat} (hd : 1 ≤ d) {g : gH} (hg : HR g) {v0 : Int} (hK0 : kd v0 = 6) : Go Φ pr_P (fP g) 5 (fC_meanDepth g v0) d (pr_P 41) 0 (ev_loc (pr_P 41).1 [(sR v0)]) [] g 0 0 := by
  show Go Φ pr_P (fP g) 5 (fC_meanDepth g v0) d pr_m41 0 [some (sR v0), none, none, none, none, none, none] [] g 0 0
  unfold fC_meanDepth
  refine go_int kk41_0.1.1.1.1.1.1 0 rfl ?_
  refine go_istore kk41_0.1.1.1.1.1.2 rfl (loc2 := [some (sR v0), some (sI 0), none, none, none, none, none]) rfl ?_
  refine go_int kk41_0.1.1.1.1.2 0 rfl ?_
  refine go_istore kk41_0.1.1.1.2.1.1 rfl (loc2 := [some (sR v0), some (sI 0), some (sI 0), none, none, none, none]) rfl ?_
  refine go_aload kk41_0.1.1.1.2.1.2 rfl ?_
  refine go_getR (bI := 0) kk41_0.1.1.1.2.2 hg hK0 (by decide) rfl rfl (fun r1 => ?_)
  refine go_ck (fun q2 => ?_)
  refine go_getR (bI := 1) kk41_0.1.1.2.1.1.1 hg q2 (by decide) rfl rfl (fun r3 => ?_)
  refine go_astore kk41_0.1.1.2.1.1.2 rfl (loc2 := [some (sR v0), some (sI 0), some (sI 0), some (sR (g (g v0 0) 1)), none, none, none]) rfl ?_
  refine go_aload kk41_0.1.1.2.1.2 rfl ?_
  refine go_ck (fun q5 => ?_)
  refine go_alen kk41_0.1.1.2.2.1 (ka_24 q5) (fun r4 => ?_)
  refine go_istore kk41_0.1.1.2.2.2 rfl (loc2 := [some (sR v0), some (sI 0), some (sI 0), some (sR (g (g v0 0) 1)), some (sI (sz (g (g v0 0) 1))), none, none]) rfl ?_
  refine go_int kk41_0.1.2.1.1.1.1 0 rfl ?_
  refine go_istore kk41_0.1.2.1.1.1.2 rfl (loc2 := [some (sR v0), some (sI 0), some (sI 0), some (sR (g (g v0 0) 1)), some (sI (sz (g (g v0 0) 1))), some (sI 0), none]) rfl ?_
  exact tlC_meanDepth_19 hd hg r3 r4 fu 0 (inR_b (Or.inl rfl)) 0 (inR_b (Or.inl rfl)) 0 (inR_b (Or.inl rfl)) (some (sR v0)) rfl none rfl
theorem tfC_rootShare {Φ : ev_P} {d : Nat} (hd : 0 ≤ d) {g : gH} (hg : HR g) {v0 : Int} (hK0 : kd v0 = 6) : Go Φ pr_P (fP g) 4 (fC_rootShare g v0) d (pr_P 42) 0 (ev_loc (pr_P 42).1 [(sR v0)]) [] g 0 0 := by
  show Go Φ pr_P (fP g) 4 (fC_rootShare g v0) d pr_m42 0 [some (sR v0)] [] g 0 0
  unfold fC_rootShare
  refine go_aload kk42_0.1.1.1.1 rfl ?_
  refine go_getR (bI := 0) kk42_0.1.1.1.2 hg hK0 (by decide) rfl rfl (fun r1 => ?_)
  refine go_ck (fun q2 => ?_)
  refine go_getI (bI := 7) kk42_0.1.1.2.1 hg q2 (by decide) rfl rfl (fun r3 => ?_)
  refine go_ifeq kk42_0.1.1.2.2 r3 (fun c4 => ?_) (fun c5 => ?_)
  · refine go_fconst kk42_0.1.2.1.1 0 rfl ?_
    refine go_goto kk42_0.1.2.1.2 ?_
    exact go_fret kk42_0.2.2.2.2 hg ⟨Nat.zero_le _, Nat.zero_le _⟩ rfl
  · refine go_aload kk42_0.1.2.2.1 rfl ?_
    refine go_getR (bI := 0) kk42_0.1.2.2.2 hg hK0 (by decide) rfl rfl (fun r6 => ?_)
    refine go_getI (bI := 8) kk42_0.2.1.1.1 hg q2 (by decide) rfl rfl (fun r7 => ?_)
    refine go_i2f kk42_0.2.1.1.2 ?_
    refine go_aload kk42_0.2.1.2.1 rfl ?_
    refine go_getR (bI := 0) kk42_0.2.1.2.2 hg hK0 (by decide) rfl rfl (fun r8 => ?_)
    refine go_getI (bI := 7) kk42_0.2.2.1.1 hg q2 (by decide) rfl rfl (fun r9 => ?_)
    refine go_i2f kk42_0.2.2.1.2 ?_
    refine go_ck (fun q10 => ?_)
    refine go_fdiv kk42_0.2.2.2.1 q10 rfl ⟨Nat.zero_le _, Nat.zero_le _⟩ ?_
    exact go_fret kk42_0.2.2.2.2 hg ⟨Nat.zero_le _, Nat.zero_le _⟩ rfl
theorem tbC_mostAdopted_19 {Φ : ev_P} {d : Nat} (hd : 1 ≤ d) {g : gH} (hg : HR g) {v3 v4 : Int} (h3 : RfR v3) (h4 : InR v4) {X19 : Int → Int → Int → Option Int} (HX19 : ∀ (v1 : Int) (h1 : InR v1) (v2 : Int) (h2 : InR v2) (v5 : Int) (h5 : InR v5) (u0 : Option ev_V) (w0 : nwo u0) (u6 : Option ev_V) (w6 : nwo u6), Go Φ pr_P (fP g) 1 (X19 v1 v2 v5) d pr_m48 19 [u0, some (sI v1), some (sI v2), some (sR v3), some (sI v4), some (sI v5), u6] [] g 0 0) : ∀ (v1 : Int) (h1 : InR v1) (v2 : Int) (h2 : InR v2) (v5 : Int) (h5 : InR v5) (u0 : Option ev_V) (w0 : nwo u0) (u6 : Option ev_V) (w6 : nwo u6), Go Φ pr_P (fP g) 1 (bC_mostAdopted_19 g v3 v4 X19 v1 v2 v5) d pr_m48 19 [u0, some (sI v1), some (sI v2), some (sR v3), some (sI v4), some (sI v5), u6] [] g 0 0 := by
  intro v1 h1 v2 h2 v5 h5 u0 w0 u6 w6
  unfold bC_mostAdopted_19
  refine go_iload kk48_0.1.2.1.2.1 rfl ?_
  refine go_iload kk48_0.1.2.1.2.2 rfl ?_
  refine go_cmlt kk48_0.1.2.2.1.1 h5 h4 (fun c6 => ?_) (fun c7 => ?_)
  · refine go_aload kk48_0.1.2.2.1.2 rfl ?_
    refine go_iload kk48_0.1.2.2.2.1 rfl ?_
    refine go_ck (fun q9 => ?_)
    refine go_pald kk48_0.1.2.2.2.2 hg q9 (fun r8 => ?_)
    refine go_astore kk48_0.2.1.1.1.1.1 rfl (loc2 := [u0, some (sI v1), some (sI v2), some (sR v3), some (sI v4), some (sI v5), some (sR (g v3 v5))]) rfl ?_
    refine go_aload kk48_0.2.1.1.1.1.2 rfl ?_
    refine go_ck (fun q10 => ?_)
    refine go_callP3 kk48_0.2.1.1.1.2 rfl rfl rfl ⟨by decide, _, rfl, q10⟩ ⟨Nat.zero_le _, Nat.zero_le _⟩ (by omega) (tfP_isRunning (by omega) hg q10 ) (fun y11 r12 => ?_)
    refine go_ifeq kk48_0.2.1.1.2.1 (inR_b r12) (fun c15 => ?_) (fun c16 => ?_)
    · refine go_iinc kk48_0.2.2.2.1.1 rfl rfl 1 rfl (loc2 := [u0, some (sI v1), some (sI v2), some (sR v3), some (sI v4), some (sI (w32 (v5 + 1))), some (sR (g v3 v5))]) rfl ?_
      refine go_goto kk48_0.2.2.2.1.2 ?_
      exact HX19 v1 h1 v2 h2 (w32 (v5 + 1)) (inR_w32 _) u0 w0 (some (sR (g v3 v5))) rfl
    · refine go_aload kk48_0.2.1.1.2.2 rfl ?_
      refine go_getI (bI := 11) kk48_0.2.1.2.1.1 hg q10 (by decide) rfl rfl (fun r17 => ?_)
      refine go_iload kk48_0.2.1.2.1.2 rfl ?_
      refine go_cmgt kk48_0.2.1.2.2.1 r17 h2 (fun c18 => ?_) (fun c19 => ?_)
      · refine go_aload kk48_0.2.1.2.2.2 rfl ?_
        refine go_getI (bI := 0) kk48_0.2.2.1.1.1.1 hg q10 (by decide) rfl rfl (fun r20 => ?_)
        refine go_istore kk48_0.2.2.1.1.1.2 w0 (loc2 := [u0, some (sI (g (g v3 v5) 0)), some (sI v2), some (sR v3), some (sI v4), some (sI v5), some (sR (g v3 v5))]) rfl ?_
        refine go_aload kk48_0.2.2.1.1.2 rfl ?_
        refine go_getI (bI := 11) kk48_0.2.2.1.2.1 hg q10 (by decide) rfl rfl (fun r21 => ?_)
        refine go_istore kk48_0.2.2.1.2.2 rfl (loc2 := [u0, some (sI (g (g v3 v5) 0)), some (sI (g (g v3 v5) 11)), some (sR v3), some (sI v4), some (sI v5), some (sR (g v3 v5))]) rfl ?_
        refine go_iinc kk48_0.2.2.2.1.1 rfl rfl 1 rfl (loc2 := [u0, some (sI (g (g v3 v5) 0)), some (sI (g (g v3 v5) 11)), some (sR v3), some (sI v4), some (sI (w32 (v5 + 1))), some (sR (g v3 v5))]) rfl ?_
        refine go_goto kk48_0.2.2.2.1.2 ?_
        exact HX19 (g (g v3 v5) 0) r20 (g (g v3 v5) 11) r21 (w32 (v5 + 1)) (inR_w32 _) u0 w0 (some (sR (g v3 v5))) rfl
      · refine go_iinc kk48_0.2.2.2.1.1 rfl rfl 1 rfl (loc2 := [u0, some (sI v1), some (sI v2), some (sR v3), some (sI v4), some (sI (w32 (v5 + 1))), some (sR (g v3 v5))]) rfl ?_
        refine go_goto kk48_0.2.2.2.1.2 ?_
        exact HX19 v1 h1 v2 h2 (w32 (v5 + 1)) (inR_w32 _) u0 w0 (some (sR (g v3 v5))) rfl
  · refine go_iload kk48_0.2.2.2.2.1 rfl ?_
    exact go_iret kk48_0.2.2.2.2.2 hg h1 ⟨Nat.zero_le _, Nat.zero_le _⟩ rfl
theorem tlC_mostAdopted_19 {Φ : ev_P} {d : Nat} (hd : 1 ≤ d) {g : gH} (hg : HR g) {v3 v4 : Int} (h3 : RfR v3) (h4 : InR v4) : ∀ n : Nat, ∀ (v1 : Int) (h1 : InR v1) (v2 : Int) (h2 : InR v2) (v5 : Int) (h5 : InR v5) (u0 : Option ev_V) (w0 : nwo u0) (u6 : Option ev_V) (w6 : nwo u6), Go Φ pr_P (fP g) 1 (lC_mostAdopted_19 g v3 v4 n v1 v2 v5) d pr_m48 19 [u0, some (sI v1), some (sI v2), some (sR v3), some (sI v4), some (sI v5), u6] [] g 0 0 := by
  intro n
  induction n with
  | zero => intros; exact go_none
  | succ n ih => exact tbC_mostAdopted_19 hd hg h3 h4 ih
theorem tfC_mostAdopted {Φ : ev_P} {d : Nat} (hd : 1 ≤ d) {g : gH} (hg : HR g) {v0 : Int} (hK0 : kd v0 = 6) : Go Φ pr_P (fP g) 1 (fC_mostAdopted g v0) d (pr_P 48) 0 (ev_loc (pr_P 48).1 [(sR v0)]) [] g 0 0 := by
  show Go Φ pr_P (fP g) 1 (fC_mostAdopted g v0) d pr_m48 0 [some (sR v0), none, none, none, none, none, none] [] g 0 0
  unfold fC_mostAdopted
  refine go_int kk48_0.1.1.1.1.1.1 (-1) rfl ?_
  refine go_istore kk48_0.1.1.1.1.1.2 rfl (loc2 := [some (sR v0), some (sI (-1)), none, none, none, none, none]) rfl ?_
  refine go_int kk48_0.1.1.1.1.2 0 rfl ?_
  refine go_istore kk48_0.1.1.1.2.1 rfl (loc2 := [some (sR v0), some (sI (-1)), some (sI 0), none, none, none, none]) rfl ?_
  refine go_aload kk48_0.1.1.1.2.2 rfl ?_
  refine go_getR (bI := 0) kk48_0.1.1.2.1.1.1 hg hK0 (by decide) rfl rfl (fun r1 => ?_)
  refine go_ck (fun q2 => ?_)
  refine go_getR (bI := 1) kk48_0.1.1.2.1.1.2 hg q2 (by decide) rfl rfl (fun r3 => ?_)
  refine go_astore kk48_0.1.1.2.1.2 rfl (loc2 := [some (sR v0), some (sI (-1)), some (sI 0), some (sR (g (g v0 0) 1)), none, none, none]) rfl ?_
  refine go_aload kk48_0.1.1.2.2.1 rfl ?_
  refine go_ck (fun q5 => ?_)
  refine go_alen kk48_0.1.1.2.2.2 (ka_24 q5) (fun r4 => ?_)
  refine go_istore kk48_0.1.2.1.1.1.1 rfl (loc2 := [some (sR v0), some (sI (-1)), some (sI 0), some (sR (g (g v0 0) 1)), some (sI (sz (g (g v0 0) 1))), none, none]) rfl ?_
  refine go_int kk48_0.1.2.1.1.1.2 0 rfl ?_
  refine go_istore kk48_0.1.2.1.1.2 rfl (loc2 := [some (sR v0), some (sI (-1)), some (sI 0), some (sR (g (g v0 0) 1)), some (sI (sz (g (g v0 0) 1))), some (sI 0), none]) rfl ?_
  exact tlC_mostAdopted_19 hd hg r3 r4 fu (-1) (inR_of (by decide)) 0 (inR_b (Or.inl rfl)) 0 (inR_b (Or.inl rfl)) (some (sR v0)) rfl none rfl
theorem tbT_countInState_14 {Φ : ev_P} {d : Nat} (hd : 0 ≤ d) {g : gH} (hg : HR g) {v1 v3 v4 : Int} (h1 : InR v1) (h3 : RfR v3) (h4 : InR v4) {X14 : Int → Int → Option Int} (HX14 : ∀ (v2 : Int) (h2 : InR v2) (v5 : Int) (h5 : InR v5) (u0 : Option ev_V) (w0 : nwo u0) (u6 : Option ev_V) (w6 : nwo u6), Go Φ pr_P (fP g) 1 (X14 v2 v5) d pr_m275 14 [u0, some (sI v1), some (sI v2), some (sR v3), some (sI v4), some (sI v5), u6] [] g 0 0) : ∀ (v2 : Int) (h2 : InR v2) (v5 : Int) (h5 : InR v5) (u0 : Option ev_V) (w0 : nwo u0) (u6 : Option ev_V) (w6 : nwo u6), Go Φ pr_P (fP g) 1 (bT_countInState_14 g v1 v3 v4 X14 v2 v5) d pr_m275 14 [u0, some (sI v1), some (sI v2), some (sR v3), some (sI v4), some (sI v5), u6] [] g 0 0 := by
  intro v2 h2 v5 h5 u0 w0 u6 w6
  unfold bT_countInState_14
  refine go_iload kk275_0.1.2.2.1.1 rfl ?_
  refine go_iload kk275_0.1.2.2.1.2 rfl ?_
  refine go_cmlt kk275_0.1.2.2.2 h5 h4 (fun c4 => ?_) (fun c5 => ?_)
  · refine go_aload kk275_0.2.1.1.1.1 rfl ?_
    refine go_iload kk275_0.2.1.1.1.2 rfl ?_
    refine go_ck (fun q7 => ?_)
    refine go_pald kk275_0.2.1.1.2.1 hg q7 (fun r6 => ?_)
    refine go_astore kk275_0.2.1.1.2.2 rfl (loc2 := [u0, some (sI v1), some (sI v2), some (sR v3), some (sI v4), some (sI v5), some (sR (g v3 v5))]) rfl ?_
    refine go_aload kk275_0.2.1.2.1.1 rfl ?_
    refine go_ck (fun q8 => ?_)
    refine go_getI (bI := 1) kk275_0.2.1.2.1.2 hg q8 (by decide) rfl rfl (fun r9 => ?_)
    refine go_iload kk275_0.2.1.2.2 rfl ?_
    refine go_cmeq kk275_0.2.2.1.1.1 r9 h1 (fun c10 => ?_) (fun c11 => ?_)
    · refine go_iinc kk275_0.2.2.1.1.2 rfl rfl 1 rfl (loc2 := [u0, some (sI v1), some (sI (w32 (v2 + 1))), some (sR v3), some (sI v4), some (sI v5), some (sR (g v3 v5))]) rfl ?_
      refine go_iinc kk275_0.2.2.1.2 rfl rfl 1 rfl (loc2 := [u0, some (sI v1), some (sI (w32 (v2 + 1))), some (sR v3), some (sI v4), some (sI (w32 (v5 + 1))), some (sR (g v3 v5))]) rfl ?_
      refine go_goto kk275_0.2.2.2.1.1 ?_
      exact HX14 (w32 (v2 + 1)) (inR_w32 _) (w32 (v5 + 1)) (inR_w32 _) u0 w0 (some (sR (g v3 v5))) rfl
    · refine go_iinc kk275_0.2.2.1.2 rfl rfl 1 rfl (loc2 := [u0, some (sI v1), some (sI v2), some (sR v3), some (sI v4), some (sI (w32 (v5 + 1))), some (sR (g v3 v5))]) rfl ?_
      refine go_goto kk275_0.2.2.2.1.1 ?_
      exact HX14 v2 h2 (w32 (v5 + 1)) (inR_w32 _) u0 w0 (some (sR (g v3 v5))) rfl
  · refine go_iload kk275_0.2.2.2.1.2 rfl ?_
    exact go_iret kk275_0.2.2.2.2 hg h2 ⟨Nat.zero_le _, Nat.zero_le _⟩ rfl
theorem tlT_countInState_14 {Φ : ev_P} {d : Nat} (hd : 0 ≤ d) {g : gH} (hg : HR g) {v1 v3 v4 : Int} (h1 : InR v1) (h3 : RfR v3) (h4 : InR v4) : ∀ n : Nat, ∀ (v2 : Int) (h2 : InR v2) (v5 : Int) (h5 : InR v5) (u0 : Option ev_V) (w0 : nwo u0) (u6 : Option ev_V) (w6 : nwo u6), Go Φ pr_P (fP g) 1 (lT_countInState_14 g v1 v3 v4 n v2 v5) d pr_m275 14 [u0, some (sI v1), some (sI v2), some (sR v3), some (sI v4), some (sI v5), u6] [] g 0 0 := by
  intro n
  induction n with
  | zero => intros; exact go_none
  | succ n ih => exact tbT_countInState_14 hd hg h1 h3 h4 ih
theorem tfT_countInState {Φ : ev_P} {d : Nat} (hd : 0 ≤ d) {g : gH} (hg : HR g) {v0 v1 : Int} (hK0 : kd v0 = 5) (h1 : InR v1) : Go Φ pr_P (fP g) 1 (fT_countInState g v0 v1) d (pr_P 275) 0 (ev_loc (pr_P 275).1 [(sR v0), (sI v1)]) [] g 0 0 := by
  show Go Φ pr_P (fP g) 1 (fT_countInState g v0 v1) d pr_m275 0 [some (sR v0), some (sI v1), none, none, none, none, none] [] g 0 0
  unfold fT_countInState
  refine go_int kk275_0.1.1.1.1.1 0 rfl ?_
  refine go_istore kk275_0.1.1.1.1.2 rfl (loc2 := [some (sR v0), some (sI v1), some (sI 0), none, none, none, none]) rfl ?_
  refine go_aload kk275_0.1.1.1.2.1 rfl ?_
  refine go_getR (bI := 1) kk275_0.1.1.1.2.2 hg hK0 (by decide) rfl rfl (fun r1 => ?_)
  refine go_astore kk275_0.1.1.2.1.1 rfl (loc2 := [some (sR v0), some (sI v1), some (sI 0), some (sR (g v0 1)), none, none, none]) rfl ?_
  refine go_aload kk275_0.1.1.2.1.2 rfl ?_
  refine go_ck (fun q3 => ?_)
  refine go_alen kk275_0.1.1.2.2 (ka_24 q3) (fun r2 => ?_)
  refine go_istore kk275_0.1.2.1.1.1 rfl (loc2 := [some (sR v0), some (sI v1), some (sI 0), some (sR (g v0 1)), some (sI (sz (g v0 1))), none, none]) rfl ?_
  refine go_int kk275_0.1.2.1.1.2 0 rfl ?_
  refine go_istore kk275_0.1.2.1.2 rfl (loc2 := [some (sR v0), some (sI v1), some (sI 0), some (sR (g v0 1)), some (sI (sz (g v0 1))), some (sI 0), none]) rfl ?_
  exact tlT_countInState_14 hd hg h1 r1 r2 fu 0 (inR_b (Or.inl rfl)) 0 (inR_b (Or.inl rfl)) (some (sR v0)) rfl none rfl
theorem tfC_readShare {Φ : ev_P} {d : Nat} (hd : 1 ≤ d) {g : gH} (hg : HR g) {v0 : Int} (hK0 : kd v0 = 6) : Go Φ pr_P (fP g) 5 (fC_readShare g v0) d (pr_P 52) 0 (ev_loc (pr_P 52).1 [(sR v0)]) [] g 0 0 := by
  show Go Φ pr_P (fP g) 5 (fC_readShare g v0) d pr_m52 0 [some (sR v0)] [] g 0 0
  unfold fC_readShare
  refine go_aload kk52_0.1.1.1.1.1 rfl ?_
  refine go_getR (bI := 0) kk52_0.1.1.1.1.2 hg hK0 (by decide) rfl rfl (fun r1 => ?_)
  refine go_ck (fun q2 => ?_)
  refine go_getI (bI := 6) kk52_0.1.1.1.2 hg q2 (by decide) rfl rfl (fun r3 => ?_)
  refine go_ifeq kk52_0.1.1.2.1 r3 (fun c4 => ?_) (fun c5 => ?_)
  · refine go_dconst kk52_0.1.1.2.2 0 rfl ?_
    refine go_goto kk52_0.1.2.1.1 ?_
    exact go_dret kk52_0.2.2.2.2 hg ⟨Nat.zero_le _, Nat.zero_le _⟩ rfl
  · refine go_aload kk52_0.1.2.1.2 rfl ?_
    refine go_getR (bI := 0) kk52_0.1.2.2.1 hg hK0 (by decide) rfl rfl (fun r6 => ?_)
    refine go_int kk52_0.1.2.2.2 2 rfl ?_
    refine go_callP1 kk52_0.2.1.1.1 rfl rfl rfl ⟨by decide, _, rfl, q2⟩ ⟨Nat.zero_le _, Nat.zero_le _⟩ (by omega) (tfT_countInState (by omega) hg q2  (inR_of (by decide))) (fun y7 r8 => ?_)
    refine go_i2d kk52_0.2.1.1.2 ?_
    refine go_aload kk52_0.2.1.2.1 rfl ?_
    refine go_getR (bI := 0) kk52_0.2.1.2.2 hg hK0 (by decide) rfl rfl (fun r11 => ?_)
    refine go_getI (bI := 6) kk52_0.2.2.1.1 hg q2 (by decide) rfl rfl (fun r12 => ?_)
    refine go_i2d kk52_0.2.2.1.2 ?_
    refine go_ck (fun q13 => ?_)
    refine go_ddiv kk52_0.2.2.2.1 q13 rfl ⟨Nat.zero_le _, Nat.zero_le _⟩ ?_
    exact go_dret kk52_0.2.2.2.2 hg ⟨Nat.zero_le _, Nat.zero_le _⟩ rfl
theorem tfC_outputByte {Φ : ev_P} {d : Nat} (hd : 0 ≤ d) {g : gH} (hg : HR g) {v0 v1 : Int} (hK0 : kd v0 = 6) (h1 : InR v1) : Go Φ pr_P (fP g) 1 (fC_outputByte g v0 v1) d (pr_P 61) 0 (ev_loc (pr_P 61).1 [(sR v0), (sI v1)]) [] g 0 0 := by
  show Go Φ pr_P (fP g) 1 (fC_outputByte g v0 v1) d pr_m61 0 [some (sR v0), some (sI v1)] [] g 0 0
  unfold fC_outputByte
  refine go_iload kk61_0.1.1.1.1.1 rfl ?_
  refine go_iflt kk61_0.1.1.1.1.2 h1 (fun c1 => ?_) (fun c2 => ?_)
  · refine go_int kk61_0.2.1.1.1.2 (-1) rfl ?_
    refine go_goto kk61_0.2.1.1.2 ?_
    exact go_iret kk61_0.2.2.2.2 hg (inR_of (by decide)) ⟨Nat.zero_le _, Nat.zero_le _⟩ rfl
  · refine go_iload kk61_0.1.1.1.2 rfl ?_
    refine go_aload kk61_0.1.1.2.1 rfl ?_
    refine go_getR (bI := 5) kk61_0.1.1.2.2 hg hK0 (by decide) rfl rfl (fun r3 => ?_)
    refine go_ck (fun q4 => ?_)
    refine go_getI (bI := 1) kk61_0.1.2.1.1 hg q4 (by decide) rfl rfl (fun r5 => ?_)
    refine go_cmlt kk61_0.1.2.1.2 h1 r5 (fun c6 => ?_) (fun c7 => ?_)
    · refine go_iload kk61_0.1.2.2.1 rfl ?_
      refine go_int kk61_0.1.2.2.2 300 rfl ?_
      refine go_cmlt kk61_0.2.1.1.1.1 h1 (inR_of (by decide)) (fun c8 => ?_) (fun c9 => ?_)
      · refine go_aload kk61_0.2.1.2.1 rfl ?_
        refine go_getR (bI := 5) kk61_0.2.1.2.2 hg hK0 (by decide) rfl rfl (fun r10 => ?_)
        refine go_getR (bI := 0) kk61_0.2.2.1.1 hg q4 (by decide) rfl rfl (fun r11 => ?_)
        refine go_iload kk61_0.2.2.1.2 rfl ?_
        refine go_ck (fun q13 => ?_)
        refine go_bald kk61_0.2.2.2.1 hg q13 (fun r12 => ?_)
        exact go_iret kk61_0.2.2.2.2 hg r12 ⟨Nat.zero_le _, Nat.zero_le _⟩ rfl
      · refine go_int kk61_0.2.1.1.1.2 (-1) rfl ?_
        refine go_goto kk61_0.2.1.1.2 ?_
        exact go_iret kk61_0.2.2.2.2 hg (inR_of (by decide)) ⟨Nat.zero_le _, Nat.zero_le _⟩ rfl
    · refine go_int kk61_0.2.1.1.1.2 (-1) rfl ?_
      refine go_goto kk61_0.2.1.1.2 ?_
      exact go_iret kk61_0.2.2.2.2 hg (inR_of (by decide)) ⟨Nat.zero_le _, Nat.zero_le _⟩ rfl
theorem tjH_pop_31 {Φ : ev_P} {d : Nat} (hd : 2 ≤ d) {g : gH} (hg : HR g) {v0 v1 : Int} (hK0 : kd v0 = 0) (h1 : RfR v1) : Go Φ pr_P fN 3 (jH_pop_31 g v0 v1 ) d pr_m220 31 [some (sR v0), some (sR v1)] [] g 0 0 := by
  unfold jH_pop_31
  refine go_aload kk220_0.1.2.2.1.2 rfl ?_
  refine go_dupR kk220_0.1.2.2.2.1 ?_
  refine go_getI (bI := 2) kk220_0.1.2.2.2.2 hg hK0 (by decide) rfl rfl (fun r12 => ?_)
  refine go_int kk220_0.2.1.1.1.1.1 1 rfl ?_
  refine go_isub kk220_0.2.1.1.1.1.2 ?_
  refine go_putI (bI := 2) kk220_0.2.1.1.1.2 hg hK0 (by decide) rfl rfl (inR_w32 _) (fun g13 e14 => ?_)
  refine go_aload kk220_0.2.1.1.2.1 rfl ?_
  refine go_dupR kk220_0.2.1.1.2.2 ?_
  refine go_getI (bI := 1) kk220_0.2.1.2.1.1 e14 hK0 (by decide) rfl rfl (fun r15 => ?_)
  refine go_int kk220_0.2.1.2.1.2 1 rfl ?_
  refine go_isub kk220_0.2.1.2.2.1 ?_
  refine go_putI (bI := 1) kk220_0.2.1.2.2.2 e14 hK0 (by decide) rfl rfl (inR_w32 _) (fun g16 e17 => ?_)
  refine go_aload kk220_0.2.2.1.1.1.1 rfl ?_
  refine go_aload kk220_0.2.2.1.1.1.2 rfl ?_
  refine go_getR (bI := 0) kk220_0.2.2.1.1.2 e17 hK0 (by decide) rfl rfl (fun r18 => ?_)
  refine go_aload kk220_0.2.2.1.2.1 rfl ?_
  refine go_getI (bI := 2) kk220_0.2.2.1.2.2 e17 hK0 (by decide) rfl rfl (fun r19 => ?_)
  refine go_ck (fun q21 => ?_)
  refine go_tald kk220_0.2.2.2.1.1 e17 q21 (fun r20 => ?_)
  refine go_ck (fun q22 => ?_)
  refine go_callN0 kk220_0.2.2.2.1.2 rfl rfl rfl ⟨by decide, _, rfl, q22⟩ ⟨Nat.zero_le _, Nat.zero_le _⟩ (by omega) (tfT_take (by omega) e17 q22  r20) (fun y23 g25 e26 => ?_)
  refine go_int kk220_0.2.2.2.2.1 1 rfl ?_
  exact go_bret kk220_0.2.2.2.2.2 e26 (Or.inr rfl) ⟨Nat.zero_le _, Nat.zero_le _⟩ rfl
theorem tjH_pop_25 {Φ : ev_P} {d : Nat} (hd : 2 ≤ d) {g : gH} (hg : HR g) {v0 v1 : Int} (hK0 : kd v0 = 0) (h1 : RfR v1) : Go Φ pr_P fN 3 (jH_pop_25 g v0 v1 ) d pr_m220 25 [some (sR v0), some (sR v1)] [] g 0 0 := by
  unfold jH_pop_25
  refine go_aload kk220_0.1.2.1.2.1 rfl ?_
  refine go_int kk220_0.1.2.1.2.2 10 rfl ?_
  refine go_putI (bI := 2) kk220_0.1.2.2.1.1 hg hK0 (by decide) rfl rfl (inR_of (by decide)) (fun g10 e11 => ?_)
  exact tjH_pop_31 hd e11 hK0 h1
theorem tfH_pop {Φ : ev_P} {d : Nat} (hd : 2 ≤ d) {g : gH} (hg : HR g) {v0 v1 : Int} (hK0 : kd v0 = 0) (h1 : RfR v1) : Go Φ pr_P fN 3 (fH_pop g v0 v1) d (pr_P 220) 0 (ev_loc (pr_P 220).1 [(sR v0), (sR v1)]) [] g 0 0 := by
  show Go Φ pr_P fN 3 (fH_pop g v0 v1) d pr_m220 0 [some (sR v0), some (sR v1)] [] g 0 0
  unfold fH_pop
  refine go_aload kk220_0.1.1.1.1.1.1 rfl ?_
  refine go_getI (bI := 1) kk220_0.1.1.1.1.1.2 hg hK0 (by decide) rfl rfl (fun r1 => ?_)
  refine go_ifeq kk220_0.1.1.1.1.2 r1 (fun c2 => ?_) (fun c3 => ?_)
  · refine go_int kk220_0.1.1.1.2.1 0 rfl ?_
    exact go_bret kk220_0.1.1.1.2.2 hg (Or.inl rfl) ⟨Nat.zero_le _, Nat.zero_le _⟩ rfl
  · refine go_aload kk220_0.1.1.2.1.1 rfl ?_
    refine go_getI (bI := 2) kk220_0.1.1.2.1.2 hg hK0 (by decide) rfl rfl (fun r4 => ?_)
    refine go_ifgt kk220_0.1.1.2.2.1 r4 (fun c5 => ?_) (fun c6 => ?_)
    · refine go_aload kk220_0.1.1.2.2.2 rfl ?_
      refine go_getI (bI := 2) kk220_0.1.2.1.1.1.1 hg hK0 (by decide) rfl rfl (fun r7 => ?_)
      refine go_int kk220_0.1.2.1.1.1.2 10 rfl ?_
      refine go_cmgt kk220_0.1.2.1.1.2 r7 (inR_of (by decide)) (fun c8 => ?_) (fun c9 => ?_)
      · exact tjH_pop_25 hd hg hK0 h1
      · exact tjH_pop_31 hd hg hK0 h1
    · exact tjH_pop_25 hd hg hK0 h1
theorem tfC_undo {Φ : ev_P} {d : Nat} (hd : 3 ≤ d) {g : gH} (hg : HR g) {v0 : Int} (hK0 : kd v0 = 6) : Go Φ pr_P fN 1 (fC_undo g v0) d (pr_P 62) 0 (ev_loc (pr_P 62).1 [(sR v0)]) [] g 0 0 := by
  show Go Φ pr_P fN 1 (fC_undo g v0) d pr_m62 0 [some (sR v0)] [] g 0 0
  unfold fC_undo
  refine go_aload kk62_0.1.1.1.1 rfl ?_
  refine go_getR (bI := 3) kk62_0.1.1.1.2 hg hK0 (by decide) rfl rfl (fun r1 => ?_)
  refine go_aload kk62_0.1.1.2 rfl ?_
  refine go_getR (bI := 0) kk62_0.1.2.1.1 hg hK0 (by decide) rfl rfl (fun r2 => ?_)
  refine go_ck (fun q3 => ?_)
  refine go_callN3 kk62_0.1.2.1.2 rfl rfl rfl ⟨by decide, _, rfl, q3⟩ ⟨Nat.zero_le _, Nat.zero_le _⟩ (by omega) (tfH_pop (by omega) hg q3  r2) (fun y4 g6 r5 e7 => ?_)
  refine go_ifeq kk62_0.1.2.2 (inR_b r5) (fun c8 => ?_) (fun c9 => ?_)
  · refine go_int kk62_0.2.2.1.2 (-1) rfl ?_
    exact go_iret kk62_0.2.2.2 e7 (inR_of (by decide)) ⟨Nat.zero_le _, Nat.zero_le _⟩ rfl
  · refine go_aload kk62_0.2.1.1.1 rfl ?_
    refine go_getR (bI := 3) kk62_0.2.1.1.2 e7 hK0 (by decide) rfl rfl (fun r10 => ?_)
    refine go_ck (fun q11 => ?_)
    refine go_getI (bI := 1) kk62_0.2.1.2 e7 q11 (by decide) rfl rfl (fun r12 => ?_)
    refine go_goto kk62_0.2.2.1.1 ?_
    exact go_iret kk62_0.2.2.2 e7 r12 ⟨Nat.zero_le _, Nat.zero_le _⟩ rfl
theorem tfC_saveState {Φ : ev_P} {d : Nat} (hd : 2 ≤ d) {g : gH} (hg : HR g) {v0 : Int} (hK0 : kd v0 = 6) : Go Φ pr_P fN 1 (fC_saveState g v0) d (pr_P 63) 0 (ev_loc (pr_P 63).1 [(sR v0)]) [] g 0 0 := by
  show Go Φ pr_P fN 1 (fC_saveState g v0) d pr_m63 0 [some (sR v0)] [] g 0 0
  unfold fC_saveState
  refine go_aload kk63_0.1.1.1.1 rfl ?_
  refine go_getR (bI := 2) kk63_0.1.1.1.2 hg hK0 (by decide) rfl rfl (fun r1 => ?_)
  refine go_aload kk63_0.1.1.2.1 rfl ?_
  refine go_getR (bI := 0) kk63_0.1.1.2.2 hg hK0 (by decide) rfl rfl (fun r2 => ?_)
  refine go_ck (fun q3 => ?_)
  refine go_callN0 kk63_0.1.2.1.1 rfl rfl rfl ⟨by decide, _, rfl, q3⟩ ⟨Nat.zero_le _, Nat.zero_le _⟩ (by omega) (tfT_take (by omega) hg q3  r2) (fun y4 g6 e7 => ?_)
  refine go_aload kk63_0.1.2.1.2 rfl ?_
  refine go_int kk63_0.1.2.2 1 rfl ?_
  refine go_putB (bI := 6) kk63_0.2.1.1.1 e7 hK0 (by decide) rfl rfl (Or.inr rfl) (fun g8 e9 => ?_)
  refine go_aload kk63_0.2.1.1.2 rfl ?_
  refine go_getR (bI := 0) kk63_0.2.1.2 e9 hK0 (by decide) rfl rfl (fun r10 => ?_)
  refine go_int kk63_0.2.2.1.1 0 rfl ?_
  refine go_ck (fun q11 => ?_)
  refine go_callP1 kk63_0.2.2.1.2 rfl rfl rfl ⟨by decide, _, rfl, q11⟩ ⟨Nat.zero_le _, Nat.zero_le _⟩ (by omega) (tfT_countInState (by omega) e9 q11  (inR_b (Or.inl rfl))) (fun y12 r13 => ?_)
  exact go_iret kk63_0.2.2.2 e9 r13 ⟨Nat.zero_le _, Nat.zero_le _⟩ rfl
theorem tfM_thrown {Φ : ev_P} {d : Nat} (hd : 0 ≤ d) {g : gH} (hg : HR g) {v0 : Int} (hK0 : kd v0 = 7) : Go Φ pr_P (fP g) 1 (fM_thrown g v0) d (pr_P 74) 0 (ev_loc (pr_P 74).1 [(sR v0)]) [] g 0 0 := by
  show Go Φ pr_P (fP g) 1 (fM_thrown g v0) d pr_m74 0 [some (sR v0)] [] g 0 0
  unfold fM_thrown
  refine go_aload kk74_0.1.1 rfl ?_
  refine go_getI (bI := 8) kk74_0.1.2 hg hK0 (by decide) rfl rfl (fun r1 => ?_)
  exact go_iret kk74_0.2 hg r1 ⟨Nat.zero_le _, Nat.zero_le _⟩ rfl
theorem tbM_appendWord_3 {Φ : ev_P} {d : Nat} (hd : 0 ≤ d) {v0 v1 : Int} (hK0 : kd v0 = 7) (h1 : InR v1) {X3 : Int → gH → Option (Int × gH)} (HX3 : ∀ (v2 : Int) (h2 : InR v2) (g : gH) (hg : HR g), Go Φ pr_P fN 0 (X3 v2 g) d pr_m106 3 [some (sR v0), some (sI v1), some (sI v2)] [] g 0 0) : ∀ (v2 : Int) (h2 : InR v2) (g : gH) (hg : HR g), Go Φ pr_P fN 0 (bM_appendWord_3 v0 v1 X3 v2 g) d pr_m106 3 [some (sR v0), some (sI v1), some (sI v2)] [] g 0 0 := by
  intro v2 h2 g hg
  unfold bM_appendWord_3
  refine go_iload kk106_0.1.1.1.2 rfl ?_
  refine go_iflt kk106_0.1.1.2.1.1 h2 (fun c1 => ?_) (fun c2 => ?_)
  · exact go_vret kk106_0.2.2.2.2 hg ⟨Nat.zero_le _, Nat.zero_le _⟩ rfl
  · refine go_aload kk106_0.1.1.2.1.2 rfl ?_
    refine go_getR (bI := 9) kk106_0.1.1.2.2 hg hK0 (by decide) rfl rfl (fun r3 => ?_)
    refine go_aload kk106_0.1.2.1.1.1 rfl ?_
    refine go_getI (bI := 10) kk106_0.1.2.1.1.2 hg hK0 (by decide) rfl rfl (fun r4 => ?_)
    refine go_iload kk106_0.1.2.1.2 rfl ?_
    refine go_iload kk106_0.1.2.2.1.1 rfl ?_
    refine go_ibin kk106_0.1.2.2.1.2 ?_
    refine go_int kk106_0.1.2.2.2 255 rfl ?_
    refine go_ibin kk106_0.2.1.1.1.1 ?_
    refine go_ck (fun q5 => ?_)
    refine go_iast kk106_0.2.1.1.1.2 hg q5 (inR_opI _ _ _) (fun g6 e7 => ?_)
    refine go_aload kk106_0.2.1.1.2 rfl ?_
    refine go_dupR kk106_0.2.1.2.1.1 ?_
    refine go_getI (bI := 10) kk106_0.2.1.2.1.2 e7 hK0 (by decide) rfl rfl (fun r8 => ?_)
    refine go_int kk106_0.2.1.2.2 1 rfl ?_
    refine go_iadd kk106_0.2.2.1.1.1 ?_
    refine go_putI (bI := 10) kk106_0.2.2.1.1.2 e7 hK0 (by decide) rfl rfl (inR_w32 _) (fun g9 e10 => ?_)
    refine go_iinc kk106_0.2.2.1.2 rfl rfl (-8) rfl (loc2 := [some (sR v0), some (sI v1), some (sI (w32 (v2 + (-8))))]) rfl ?_
    refine go_goto kk106_0.2.2.2.1 ?_
    exact HX3 (w32 (v2 + (-8))) (inR_w32 _) g9 e10
theorem tlM_appendWord_3 {Φ : ev_P} {d : Nat} (hd : 0 ≤ d) {v0 v1 : Int} (hK0 : kd v0 = 7) (h1 : InR v1) : ∀ n : Nat, ∀ (v2 : Int) (h2 : InR v2) (g : gH) (hg : HR g), Go Φ pr_P fN 0 (lM_appendWord_3 v0 v1 n v2 g) d pr_m106 3 [some (sR v0), some (sI v1), some (sI v2)] [] g 0 0 := by
  intro n
  induction n with
  | zero => intros; exact go_none
  | succ n ih => exact tbM_appendWord_3 hd hK0 h1 ih
theorem tfM_appendWord {Φ : ev_P} {d : Nat} (hd : 0 ≤ d) {g : gH} (hg : HR g) {v0 v1 : Int} (hK0 : kd v0 = 7) (h1 : InR v1) : Go Φ pr_P fN 0 (fM_appendWord g v0 v1) d (pr_P 106) 0 (ev_loc (pr_P 106).1 [(sR v0), (sI v1)]) [] g 0 0 := by
  show Go Φ pr_P fN 0 (fM_appendWord g v0 v1) d pr_m106 0 [some (sR v0), some (sI v1), none] [] g 0 0
  unfold fM_appendWord
  refine go_int kk106_0.1.1.1.1.1 24 rfl ?_
  refine go_istore kk106_0.1.1.1.1.2 rfl (loc2 := [some (sR v0), some (sI v1), some (sI 24)]) rfl ?_
  exact tlM_appendWord_3 hd hK0 h1 fu 24 (inR_of (by decide)) g hg
theorem tfM_appendInput {Φ : ev_P} {d : Nat} (hd : 1 ≤ d) {g : gH} (hg : HR g) {v0 v1 v2 v3 v4 v5 : Int} (hK0 : kd v0 = 7) (h1 : InR v1) (h2 : InR v2) (h3 : InR v3) (h4 : InR v4) (h5 : InR v5) : Go Φ pr_P fN 1 (fM_appendInput g v0 v1 v2 v3 v4 v5) d (pr_P 107) 0 (ev_loc (pr_P 107).1 [(sR v0), (sI v1), (sI v2), (sI v3), (sI v4), (sI v5)]) [] g 0 0 := by
  show Go Φ pr_P fN 1 (fM_appendInput g v0 v1 v2 v3 v4 v5) d pr_m107 0 [some (sR v0), some (sI v1), some (sI v2), some (sI v3), some (sI v4), some (sI v5)] [] g 0 0
  unfold fM_appendInput
  refine go_aload kk107_0.1.1.1.1.1 rfl ?_
  refine go_int kk107_0.1.1.1.1.2 0 rfl ?_
  refine go_putI (bI := 8) kk107_0.1.1.1.2.1 hg hK0 (by decide) rfl rfl (inR_b (Or.inl rfl)) (fun g1 e2 => ?_)
  refine go_aload kk107_0.1.1.1.2.2 rfl ?_
  refine go_getI (bI := 10) kk107_0.1.1.2.1.1 e2 hK0 (by decide) rfl rfl (fun r3 => ?_)
  refine go_int kk107_0.1.1.2.1.2 20 rfl ?_
  refine go_iadd kk107_0.1.1.2.2.1 ?_
  refine go_int kk107_0.1.1.2.2.2 500 rfl ?_
  refine go_cmgt kk107_0.1.2.1.1.1 (inR_w32 _) (inR_of (by decide)) (fun c4 => ?_) (fun c5 => ?_)
  · refine go_int kk107_0.1.2.1.1.2 (-1) rfl ?_
    exact go_iret kk107_0.1.2.1.2.1 e2 (inR_of (by decide)) ⟨Nat.zero_le _, Nat.zero_le _⟩ rfl
  · refine go_aload kk107_0.1.2.1.2.2 rfl ?_
    refine go_iload kk107_0.1.2.2.1.1 rfl ?_
    refine go_callN0 kk107_0.1.2.2.1.2 rfl rfl rfl ⟨by decide, _, rfl, hK0⟩ ⟨Nat.zero_le _, Nat.zero_le _⟩ (by omega) (tfM_appendWord (by omega) e2 hK0  h1) (fun y6 g8 e9 => ?_)
    refine go_aload kk107_0.1.2.2.2 rfl ?_
    refine go_iload kk107_0.2.1.1.1.1 rfl ?_
    refine go_callN0 kk107_0.2.1.1.1.2 rfl rfl rfl ⟨by decide, _, rfl, hK0⟩ ⟨Nat.zero_le _, Nat.zero_le _⟩ (by omega) (tfM_appendWord (by omega) e9 hK0  h2) (fun y10 g12 e13 => ?_)
    refine go_aload kk107_0.2.1.1.2.1 rfl ?_
    refine go_iload kk107_0.2.1.1.2.2 rfl ?_
    refine go_callN0 kk107_0.2.1.2.1.1 rfl rfl rfl ⟨by decide, _, rfl, hK0⟩ ⟨Nat.zero_le _, Nat.zero_le _⟩ (by omega) (tfM_appendWord (by omega) e13 hK0  h3) (fun y14 g16 e17 => ?_)
    refine go_aload kk107_0.2.1.2.1.2 rfl ?_
    refine go_iload kk107_0.2.1.2.2 rfl ?_
    refine go_callN0 kk107_0.2.2.1.1.1 rfl rfl rfl ⟨by decide, _, rfl, hK0⟩ ⟨Nat.zero_le _, Nat.zero_le _⟩ (by omega) (tfM_appendWord (by omega) e17 hK0  h4) (fun y18 g20 e21 => ?_)
    refine go_aload kk107_0.2.2.1.1.2 rfl ?_
    refine go_iload kk107_0.2.2.1.2.1 rfl ?_
    refine go_callN0 kk107_0.2.2.1.2.2 rfl rfl rfl ⟨by decide, _, rfl, hK0⟩ ⟨Nat.zero_le _, Nat.zero_le _⟩ (by omega) (tfM_appendWord (by omega) e21 hK0  h5) (fun y22 g24 e25 => ?_)
    refine go_aload kk107_0.2.2.2.1.1 rfl ?_
    refine go_getI (bI := 10) kk107_0.2.2.2.1.2 e25 hK0 (by decide) rfl rfl (fun r26 => ?_)
    exact go_iret kk107_0.2.2.2.2 e25 r26 ⟨Nat.zero_le _, Nat.zero_le _⟩ rfl
theorem tfM_inRange {Φ : ev_P} {d : Nat} (hd : 0 ≤ d) {g : gH} (hg : HR g) {v0 v1 v2 : Int} (h0 : InR v0) (h1 : InR v1) (h2 : InR v2) : Go Φ pr_P (fP g) 3 (fM_inRange g v0 v1 v2) d (pr_P 75) 0 (ev_loc (pr_P 75).1 [(sI v0), (sI v1), (sI v2)]) [] g 0 0 := by
  show Go Φ pr_P (fP g) 3 (fM_inRange g v0 v1 v2) d pr_m75 0 [some (sI v0), some (sI v1), some (sI v2)] [] g 0 0
  unfold fM_inRange
  refine go_iload kk75_0.1.1.1.1 rfl ?_
  refine go_iload kk75_0.1.1.1.2 rfl ?_
  refine go_cmlt kk75_0.1.1.2 h0 h1 (fun c1 => ?_) (fun c2 => ?_)
  · refine go_int kk75_0.2.2.1 0 rfl ?_
    exact go_bret kk75_0.2.2.2 hg (Or.inl rfl) ⟨Nat.zero_le _, Nat.zero_le _⟩ rfl
  · refine go_iload kk75_0.1.2.1 rfl ?_
    refine go_iload kk75_0.1.2.2 rfl ?_
    refine go_cmgt kk75_0.2.1.1.1 h0 h2 (fun c3 => ?_) (fun c4 => ?_)
    · refine go_int kk75_0.2.2.1 0 rfl ?_
      exact go_bret kk75_0.2.2.2 hg (Or.inl rfl) ⟨Nat.zero_le _, Nat.zero_le _⟩ rfl
    · refine go_int kk75_0.2.1.1.2 1 rfl ?_
      refine go_goto kk75_0.2.1.2 ?_
      exact go_bret kk75_0.2.2.2 hg (Or.inr rfl) ⟨Nat.zero_le _, Nat.zero_le _⟩ rfl
theorem tfM_truncateInput {Φ : ev_P} {d : Nat} (hd : 1 ≤ d) {g : gH} (hg : HR g) {v0 v1 : Int} (hK0 : kd v0 = 7) (h1 : InR v1) : Go Φ pr_P fN 3 (fM_truncateInput g v0 v1) d (pr_P 108) 0 (ev_loc (pr_P 108).1 [(sR v0), (sI v1)]) [] g 0 0 := by
  show Go Φ pr_P fN 3 (fM_truncateInput g v0 v1) d pr_m108 0 [some (sR v0), some (sI v1)] [] g 0 0
  unfold fM_truncateInput
  refine go_aload kk108_0.1.1.1.1 rfl ?_
  refine go_int kk108_0.1.1.1.2 0 rfl ?_
  refine go_putI (bI := 8) kk108_0.1.1.2.1 hg hK0 (by decide) rfl rfl (inR_b (Or.inl rfl)) (fun g1 e2 => ?_)
  refine go_iload kk108_0.1.1.2.2 rfl ?_
  refine go_int kk108_0.1.2.1.1 0 rfl ?_
  refine go_aload kk108_0.1.2.1.2 rfl ?_
  refine go_getI (bI := 10) kk108_0.1.2.2.1 e2 hK0 (by decide) rfl rfl (fun r3 => ?_)
  refine go_callP3 kk108_0.1.2.2.2 rfl rfl rfl trivial ⟨Nat.zero_le _, Nat.zero_le _⟩ (by omega) (tfM_inRange (by omega) e2  h1 (inR_b (Or.inl rfl)) r3) (fun y4 r5 => ?_)
  refine go_ifeq kk108_0.2.1.1.1 (inR_b r5) (fun c8 => ?_) (fun c9 => ?_)
  · refine go_int kk108_0.2.1.1.2 0 rfl ?_
    exact go_bret kk108_0.2.1.2.1 e2 (Or.inl rfl) ⟨Nat.zero_le _, Nat.zero_le _⟩ rfl
  · refine go_aload kk108_0.2.1.2.2 rfl ?_
    refine go_iload kk108_0.2.2.1.1 rfl ?_
    refine go_putI (bI := 10) kk108_0.2.2.1.2 e2 hK0 (by decide) rfl rfl h1 (fun g10 e11 => ?_)
    refine go_int kk108_0.2.2.2.1 1 rfl ?_
    exact go_bret kk108_0.2.2.2.2 e11 (Or.inr rfl) ⟨Nat.zero_le _, Nat.zero_le _⟩ rfl
theorem tbM_copies_3 {Φ : ev_P} {d : Nat} (hd : 0 ≤ d) {v0 v1 v2 v3 v4 : Int} (h0 : RfR v0) (h1 : InR v1) (h2 : RfR v2) (h3 : InR v3) (h4 : InR v4) {X3 : Int → gH → Option (Int × gH)} (HX3 : ∀ (v5 : Int) (h5 : InR v5) (g : gH) (hg : HR g), Go Φ pr_P fN 0 (X3 v5 g) d pr_m77 3 [some (sR v0), some (sI v1), some (sR v2), some (sI v3), some (sI v4), some (sI v5)] [] g 0 0) : ∀ (v5 : Int) (h5 : InR v5) (g : gH) (hg : HR g), Go Φ pr_P fN 0 (bM_copies_3 v0 v1 v2 v3 v4 X3 v5 g) d pr_m77 3 [some (sR v0), some (sI v1), some (sR v2), some (sI v3), some (sI v4), some (sI v5)] [] g 0 0 := by
  intro v5 h5 g hg
  unfold bM_copies_3
  refine go_iload kk77_0.1.1.1.2 rfl ?_
  refine go_iload kk77_0.1.1.2.1 rfl ?_
  refine go_cmlt kk77_0.1.1.2.2 h5 h4 (fun c1 => ?_) (fun c2 => ?_)
  · refine go_aload kk77_0.1.2.1.1 rfl ?_
    refine go_iload kk77_0.1.2.1.2 rfl ?_
    refine go_iload kk77_0.1.2.2.1 rfl ?_
    refine go_iadd kk77_0.1.2.2.2 ?_
    refine go_aload kk77_0.2.1.1.1.1 rfl ?_
    refine go_iload kk77_0.2.1.1.1.2 rfl ?_
    refine go_iload kk77_0.2.1.1.2 rfl ?_
    refine go_iadd kk77_0.2.1.2.1 ?_
    refine go_ck (fun q4 => ?_)
    refine go_iald kk77_0.2.1.2.2 hg q4 (fun r3 => ?_)
    refine go_ck (fun q5 => ?_)
    refine go_iast kk77_0.2.2.1.1 hg q5 r3 (fun g6 e7 => ?_)
    refine go_iinc kk77_0.2.2.1.2 rfl rfl 1 rfl (loc2 := [some (sR v0), some (sI v1), some (sR v2), some (sI v3), some (sI v4), some (sI (w32 (v5 + 1)))]) rfl ?_
    refine go_goto kk77_0.2.2.2.1 ?_
    exact HX3 (w32 (v5 + 1)) (inR_w32 _) g6 e7
  · exact go_vret kk77_0.2.2.2.2 hg ⟨Nat.zero_le _, Nat.zero_le _⟩ rfl
theorem tlM_copies_3 {Φ : ev_P} {d : Nat} (hd : 0 ≤ d) {v0 v1 v2 v3 v4 : Int} (h0 : RfR v0) (h1 : InR v1) (h2 : RfR v2) (h3 : InR v3) (h4 : InR v4) : ∀ n : Nat, ∀ (v5 : Int) (h5 : InR v5) (g : gH) (hg : HR g), Go Φ pr_P fN 0 (lM_copies_3 v0 v1 v2 v3 v4 n v5 g) d pr_m77 3 [some (sR v0), some (sI v1), some (sR v2), some (sI v3), some (sI v4), some (sI v5)] [] g 0 0 := by
  intro n
  induction n with
  | zero => intros; exact go_none
  | succ n ih => exact tbM_copies_3 hd h0 h1 h2 h3 h4 ih
theorem tfM_copies {Φ : ev_P} {d : Nat} (hd : 0 ≤ d) {g : gH} (hg : HR g) {v0 v1 v2 v3 v4 : Int} (h0 : RfR v0) (h1 : InR v1) (h2 : RfR v2) (h3 : InR v3) (h4 : InR v4) : Go Φ pr_P fN 0 (fM_copies g v0 v1 v2 v3 v4) d (pr_P 77) 0 (ev_loc (pr_P 77).1 [(sR v0), (sI v1), (sR v2), (sI v3), (sI v4)]) [] g 0 0 := by
  show Go Φ pr_P fN 0 (fM_copies g v0 v1 v2 v3 v4) d pr_m77 0 [some (sR v0), some (sI v1), some (sR v2), some (sI v3), some (sI v4), none] [] g 0 0
  unfold fM_copies
  refine go_int kk77_0.1.1.1.1.1 0 rfl ?_
  refine go_istore kk77_0.1.1.1.1.2 rfl (loc2 := [some (sR v0), some (sI v1), some (sR v2), some (sI v3), some (sI v4), some (sI 0)]) rfl ?_
  exact tlM_copies_3 hd h0 h1 h2 h3 h4 fu 0 (inR_b (Or.inl rfl)) g hg
theorem tjM_comes_161 {Φ : ev_P} {d : Nat} (hd : 0 ≤ d) {g : gH} (hg : HR g) {v0 v5 : Int} (hK0 : kd v0 = 7) (h5 : InR v5) (u1 : Option ev_V) (w1 : nwo u1) (u2 : Option ev_V) (w2 : nwo u2) (u3 : Option ev_V) (w3 : nwo u3) (u4 : Option ev_V) (w4 : nwo u4) (u6 : Option ev_V) (w6 : nwo u6) : Go Φ pr_P fN 1 (jM_comes_161 g v0 v5 ) d pr_m79 161 [some (sR v0), u1, u2, u3, u4, some (sI v5), u6] [] g 0 0 := by
  unfold jM_comes_161
  refine go_aload kk79_1.2.2.1.1.2.2 rfl ?_
  refine go_getR (bI := 0) kk79_1.2.2.1.2.1.1 hg hK0 (by decide) rfl rfl (fun r50 => ?_)
  refine go_int kk79_1.2.2.1.2.1.2 0 rfl ?_
  refine go_dup2 kk79_1.2.2.1.2.2 ?_
  refine go_ck (fun q52 => ?_)
  refine go_iald kk79_1.2.2.2.1.1.1 hg q52 (fun r51 => ?_)
  refine go_int kk79_1.2.2.2.1.1.2 1 rfl ?_
  refine go_iadd kk79_1.2.2.2.1.2 ?_
  refine go_ck (fun q53 => ?_)
  refine go_iast kk79_1.2.2.2.2.1.1 hg q53 (inR_w32 _) (fun g54 e55 => ?_)
  refine go_iload kk79_1.2.2.2.2.1.2 rfl ?_
  exact go_iret kk79_1.2.2.2.2.2 e55 h5 ⟨Nat.zero_le _, Nat.zero_le _⟩ rfl
theorem tbM_comes_130 {Φ : ev_P} {d : Nat} (hd : 0 ≤ d) {v0 v5 : Int} (hK0 : kd v0 = 7) (h5 : InR v5) {X130 : Int → gH → Option (Int × gH)} (HX130 : ∀ (v6 : Int) (h6 : InR v6) (g : gH) (hg : HR g) (u1 : Option ev_V) (w1 : nwo u1) (u2 : Option ev_V) (w2 : nwo u2) (u3 : Option ev_V) (w3 : nwo u3) (u4 : Option ev_V) (w4 : nwo u4), Go Φ pr_P fN 1 (X130 v6 g) d pr_m79 130 [some (sR v0), u1, u2, u3, u4, some (sI v5), some (sI v6)] [] g 0 0) : ∀ (v6 : Int) (h6 : InR v6) (g : gH) (hg : HR g) (u1 : Option ev_V) (w1 : nwo u1) (u2 : Option ev_V) (w2 : nwo u2) (u3 : Option ev_V) (w3 : nwo u3) (u4 : Option ev_V) (w4 : nwo u4), Go Φ pr_P fN 1 (bM_comes_130 v0 v5 X130 v6 g) d pr_m79 130 [some (sR v0), u1, u2, u3, u4, some (sI v5), some (sI v6)] [] g 0 0 := by
  intro v6 h6 g hg u1 w1 u2 w2 u3 w3 u4 w4
  unfold bM_comes_130
  refine go_iload kk79_1.2.1.1.1.1.1 rfl ?_
  refine go_int kk79_1.2.1.1.1.1.2 8 rfl ?_
  refine go_cmlt kk79_1.2.1.1.1.2.1 h6 (inR_of (by decide)) (fun c44 => ?_) (fun c45 => ?_)
  · refine go_aload kk79_1.2.1.1.1.2.2 rfl ?_
    refine go_getR (bI := 0) kk79_1.2.1.1.2.1.1 hg hK0 (by decide) rfl rfl (fun r46 => ?_)
    refine go_int kk79_1.2.1.1.2.1.2 460 rfl ?_
    refine go_int kk79_1.2.1.1.2.2 8 rfl ?_
    refine go_iload kk79_1.2.1.2.1.1.1 rfl ?_
    refine go_ibin kk79_1.2.1.2.1.1.2 ?_
    refine go_iadd kk79_1.2.1.2.1.2 ?_
    refine go_iload kk79_1.2.1.2.2.1.1 rfl ?_
    refine go_iadd kk79_1.2.1.2.2.1.2 ?_
    refine go_int kk79_1.2.1.2.2.2 (-1) rfl ?_
    refine go_ck (fun q47 => ?_)
    refine go_iast kk79_1.2.2.1.1.1.1 hg q47 (inR_of (by decide)) (fun g48 e49 => ?_)
    refine go_iinc kk79_1.2.2.1.1.1.2 rfl rfl 1 rfl (loc2 := [some (sR v0), u1, u2, u3, u4, some (sI v5), some (sI (w32 (v6 + 1)))]) rfl ?_
    refine go_goto kk79_1.2.2.1.1.2.1 ?_
    exact HX130 (w32 (v6 + 1)) (inR_w32 _) g48 e49 u1 w1 u2 w2 u3 w3 u4 w4
  · exact tjM_comes_161 hd hg hK0 h5 u1 w1 u2 w2 u3 w3 u4 w4 (some (sI v6)) rfl
theorem tlM_comes_130 {Φ : ev_P} {d : Nat} (hd : 0 ≤ d) {v0 v5 : Int} (hK0 : kd v0 = 7) (h5 : InR v5) : ∀ n : Nat, ∀ (v6 : Int) (h6 : InR v6) (g : gH) (hg : HR g) (u1 : Option ev_V) (w1 : nwo u1) (u2 : Option ev_V) (w2 : nwo u2) (u3 : Option ev_V) (w3 : nwo u3) (u4 : Option ev_V) (w4 : nwo u4), Go Φ pr_P fN 1 (lM_comes_130 v0 v5 n v6 g) d pr_m79 130 [some (sR v0), u1, u2, u3, u4, some (sI v5), some (sI v6)] [] g 0 0 := by
  intro n
  induction n with
  | zero => intros; exact go_none
  | succ n ih => exact tbM_comes_130 hd hK0 h5 ih
theorem tfM_comes {Φ : ev_P} {d : Nat} (hd : 0 ≤ d) {g : gH} (hg : HR g) {v0 v1 v2 v3 v4 : Int} (hK0 : kd v0 = 7) (h1 : InR v1) (h2 : InR v2) (h3 : InR v3) (h4 : InR v4) : Go Φ pr_P fN 1 (fM_comes g v0 v1 v2 v3 v4) d (pr_P 79) 0 (ev_loc (pr_P 79).1 [(sR v0), (sI v1), (sI v2), (sI v3), (sI v4)]) [] g 0 0 := by
  show Go Φ pr_P fN 1 (fM_comes g v0 v1 v2 v3 v4) d pr_m79 0 [some (sR v0), some (sI v1), some (sI v2), some (sI v3), some (sI v4), none, none] [] g 0 0
  unfold fM_comes
  refine go_aload kk79_0.1.1.1.1.1.1 rfl ?_
  refine go_getR (bI := 0) kk79_0.1.1.1.1.1.2 hg hK0 (by decide) rfl rfl (fun r1 => ?_)
  refine go_int kk79_0.1.1.1.1.2.1 0 rfl ?_
  refine go_ck (fun q3 => ?_)
  refine go_iald kk79_0.1.1.1.1.2.2 hg q3 (fun r2 => ?_)
  refine go_istore kk79_0.1.1.1.2.1.1 rfl (loc2 := [some (sR v0), some (sI v1), some (sI v2), some (sI v3), some (sI v4), some (sI (g (g v0 0) 0)), none]) rfl ?_
  refine go_aload kk79_0.1.1.1.2.1.2 rfl ?_
  refine go_getR (bI := 0) kk79_0.1.1.1.2.2 hg hK0 (by decide) rfl rfl (fun r4 => ?_)
  refine go_int kk79_0.1.1.2.1.1.1 60 rfl ?_
  refine go_iload kk79_0.1.1.2.1.1.2 rfl ?_
  refine go_iadd kk79_0.1.1.2.1.2 ?_
  refine go_iload kk79_0.1.1.2.2.1.1 rfl ?_
  refine go_ck (fun q5 => ?_)
  refine go_iast kk79_0.1.1.2.2.1.2 hg q5 h1 (fun g6 e7 => ?_)
  refine go_aload kk79_0.1.1.2.2.2 rfl ?_
  refine go_getR (bI := 0) kk79_0.1.2.1.1.1.1 e7 hK0 (by decide) rfl rfl (fun r8 => ?_)
  refine go_int kk79_0.1.2.1.1.1.2 100 rfl ?_
  refine go_iload kk79_0.1.2.1.1.2.1 rfl ?_
  refine go_iadd kk79_0.1.2.1.1.2.2 ?_
  refine go_iload kk79_0.1.2.1.2.1.1 rfl ?_
  refine go_ck (fun q9 => ?_)
  refine go_iast kk79_0.1.2.1.2.1.2 e7 q9 h2 (fun g10 e11 => ?_)
  refine go_aload kk79_0.1.2.1.2.2 rfl ?_
  refine go_getR (bI := 0) kk79_0.1.2.2.1.1.1 e11 hK0 (by decide) rfl rfl (fun r12 => ?_)
  refine go_int kk79_0.1.2.2.1.1.2 140 rfl ?_
  refine go_iload kk79_0.1.2.2.1.2 rfl ?_
  refine go_iadd kk79_0.1.2.2.2.1.1 ?_
  refine go_int kk79_0.1.2.2.2.1.2 0 rfl ?_
  refine go_ck (fun q13 => ?_)
  refine go_iast kk79_0.1.2.2.2.2 e11 q13 (inR_b (Or.inl rfl)) (fun g14 e15 => ?_)
  refine go_aload kk79_0.2.1.1.1.1.1 rfl ?_
  refine go_getR (bI := 0) kk79_0.2.1.1.1.1.2 e15 hK0 (by decide) rfl rfl (fun r16 => ?_)
  refine go_int kk79_0.2.1.1.1.2.1 180 rfl ?_
  refine go_iload kk79_0.2.1.1.1.2.2 rfl ?_
  refine go_iadd kk79_0.2.1.1.2.1.1 ?_
  refine go_iload kk79_0.2.1.1.2.1.2 rfl ?_
  refine go_ck (fun q17 => ?_)
  refine go_iast kk79_0.2.1.1.2.2 e15 q17 h3 (fun g18 e19 => ?_)
  refine go_aload kk79_0.2.1.2.1.1.1 rfl ?_
  refine go_getR (bI := 0) kk79_0.2.1.2.1.1.2 e19 hK0 (by decide) rfl rfl (fun r20 => ?_)
  refine go_int kk79_0.2.1.2.1.2 220 rfl ?_
  refine go_iload kk79_0.2.1.2.2.1.1 rfl ?_
  refine go_iadd kk79_0.2.1.2.2.1.2 ?_
  refine go_iload kk79_0.2.1.2.2.2 rfl ?_
  refine go_ck (fun q21 => ?_)
  refine go_iast kk79_0.2.2.1.1.1.1 e19 q21 h4 (fun g22 e23 => ?_)
  refine go_aload kk79_0.2.2.1.1.1.2 rfl ?_
  refine go_getR (bI := 0) kk79_0.2.2.1.1.2 e23 hK0 (by decide) rfl rfl (fun r24 => ?_)
  refine go_int kk79_0.2.2.1.2.1.1 260 rfl ?_
  refine go_iload kk79_0.2.2.1.2.1.2 rfl ?_
  refine go_iadd kk79_0.2.2.1.2.2 ?_
  refine go_int kk79_0.2.2.2.1.1.1 (-1) rfl ?_
  refine go_ck (fun q25 => ?_)
  refine go_iast kk79_0.2.2.2.1.1.2 e23 q25 (inR_of (by decide)) (fun g26 e27 => ?_)
  refine go_aload kk79_0.2.2.2.1.2 rfl ?_
  refine go_getR (bI := 0) kk79_0.2.2.2.2.1.1 e27 hK0 (by decide) rfl rfl (fun r28 => ?_)
  refine go_int kk79_0.2.2.2.2.1.2 300 rfl ?_
  refine go_iload kk79_0.2.2.2.2.2 rfl ?_
  refine go_iadd kk79_1.1.1.1.1.1.1 ?_
  refine go_int kk79_1.1.1.1.1.1.2 (-1) rfl ?_
  refine go_ck (fun q29 => ?_)
  refine go_iast kk79_1.1.1.1.1.2.1 e27 q29 (inR_of (by decide)) (fun g30 e31 => ?_)
  refine go_aload kk79_1.1.1.1.1.2.2 rfl ?_
  refine go_getR (bI := 0) kk79_1.1.1.1.2.1.1 e31 hK0 (by decide) rfl rfl (fun r32 => ?_)
  refine go_int kk79_1.1.1.1.2.1.2 340 rfl ?_
  refine go_iload kk79_1.1.1.1.2.2 rfl ?_
  refine go_iadd kk79_1.1.1.2.1.1.1 ?_
  refine go_int kk79_1.1.1.2.1.1.2 0 rfl ?_
  refine go_ck (fun q33 => ?_)
  refine go_iast kk79_1.1.1.2.1.2 e31 q33 (inR_b (Or.inl rfl)) (fun g34 e35 => ?_)
  refine go_aload kk79_1.1.1.2.2.1.1 rfl ?_
  refine go_getR (bI := 0) kk79_1.1.1.2.2.1.2 e35 hK0 (by decide) rfl rfl (fun r36 => ?_)
  refine go_int kk79_1.1.1.2.2.2 380 rfl ?_
  refine go_iload kk79_1.1.2.1.1.1.1 rfl ?_
  refine go_iadd kk79_1.1.2.1.1.1.2 ?_
  refine go_int kk79_1.1.2.1.1.2.1 0 rfl ?_
  refine go_ck (fun q37 => ?_)
  refine go_iast kk79_1.1.2.1.1.2.2 e35 q37 (inR_b (Or.inl rfl)) (fun g38 e39 => ?_)
  refine go_aload kk79_1.1.2.1.2.1.1 rfl ?_
  refine go_getR (bI := 0) kk79_1.1.2.1.2.1.2 e39 hK0 (by decide) rfl rfl (fun r40 => ?_)
  refine go_int kk79_1.1.2.1.2.2 420 rfl ?_
  refine go_iload kk79_1.1.2.2.1.1.1 rfl ?_
  refine go_iadd kk79_1.1.2.2.1.1.2 ?_
  refine go_int kk79_1.1.2.2.1.2 (-1) rfl ?_
  refine go_ck (fun q41 => ?_)
  refine go_iast kk79_1.1.2.2.2.1.1 e39 q41 (inR_of (by decide)) (fun g42 e43 => ?_)
  refine go_int kk79_1.1.2.2.2.1.2 0 rfl ?_
  refine go_istore kk79_1.1.2.2.2.2 rfl (loc2 := [some (sR v0), some (sI v1), some (sI v2), some (sI v3), some (sI v4), some (sI (g (g v0 0) 0)), some (sI 0)]) rfl ?_
  exact tlM_comes_130 hd hK0 r2 fu 0 (inR_b (Or.inl rfl)) g42 e43 (some (sI v1)) rfl (some (sI v2)) rfl (some (sI v3)) rfl (some (sI v4)) rfl
theorem tjM_clear_52 {Φ : ev_P} {d : Nat} (hd : 1 ≤ d) {g : gH} (hg : HR g) {v0 : Int} (hK0 : kd v0 = 7) (u1 : Option ev_V) (w1 : nwo u1) : Go Φ pr_P fN 0 (jM_clear_52 g v0 ) d pr_m78 52 [some (sR v0), u1] [] g 0 0 := by
  unfold jM_clear_52
  refine go_aload kk78_0.2.1.2.2.1 rfl ?_
  refine go_getR (bI := 0) kk78_0.2.1.2.2.2 hg hK0 (by decide) rfl rfl (fun r17 => ?_)
  refine go_int kk78_0.2.2.1.1.1.1 59 rfl ?_
  refine go_int kk78_0.2.2.1.1.1.2 20 rfl ?_
  refine go_ck (fun q18 => ?_)
  refine go_iast kk78_0.2.2.1.1.2 hg q18 (inR_of (by decide)) (fun g19 e20 => ?_)
  refine go_aload kk78_0.2.2.1.2.1.1 rfl ?_
  refine go_int kk78_0.2.2.1.2.1.2 (-1) rfl ?_
  refine go_int kk78_0.2.2.1.2.2 9 rfl ?_
  refine go_int kk78_0.2.2.2.1.1.1 0 rfl ?_
  refine go_int kk78_0.2.2.2.1.1.2 0 rfl ?_
  refine go_callN1 kk78_0.2.2.2.1.2 rfl rfl rfl ⟨by decide, _, rfl, hK0⟩ ⟨Nat.zero_le _, Nat.zero_le _⟩ (by omega) (tfM_comes (by omega) e20 hK0  (inR_of (by decide)) (inR_of (by decide)) (inR_b (Or.inl rfl)) (inR_b (Or.inl rfl))) (fun y21 g23 r22 e24 => ?_)
  refine go_popI kk78_0.2.2.2.2.1 ?_
  exact go_vret kk78_0.2.2.2.2.2 e24 ⟨Nat.zero_le _, Nat.zero_le _⟩ rfl
theorem tbM_clear_31 {Φ : ev_P} {d : Nat} (hd : 1 ≤ d) {v0 : Int} (hK0 : kd v0 = 7) {X31 : Int → gH → Option (Int × gH)} (HX31 : ∀ (v1 : Int) (h1 : InR v1) (g : gH) (hg : HR g), Go Φ pr_P fN 0 (X31 v1 g) d pr_m78 31 [some (sR v0), some (sI v1)] [] g 0 0) : ∀ (v1 : Int) (h1 : InR v1) (g : gH) (hg : HR g), Go Φ pr_P fN 0 (bM_clear_31 v0 X31 v1 g) d pr_m78 31 [some (sR v0), some (sI v1)] [] g 0 0 := by
  intro v1 h1 g hg
  unfold bM_clear_31
  refine go_iload kk78_0.1.2.2.1.2 rfl ?_
  refine go_int kk78_0.1.2.2.2.1 3 rfl ?_
  refine go_cmlt kk78_0.1.2.2.2.2 h1 (inR_of (by decide)) (fun c11 => ?_) (fun c12 => ?_)
  · refine go_aload kk78_0.2.1.1.1.1.1 rfl ?_
    refine go_getR (bI := 0) kk78_0.2.1.1.1.1.2 hg hK0 (by decide) rfl rfl (fun r13 => ?_)
    refine go_int kk78_0.2.1.1.1.2 6 rfl ?_
    refine go_iload kk78_0.2.1.1.2.1.1 rfl ?_
    refine go_iadd kk78_0.2.1.1.2.1.2 ?_
    refine go_iload kk78_0.2.1.1.2.2 rfl ?_
    refine go_ck (fun q14 => ?_)
    refine go_iast kk78_0.2.1.2.1.1.1 hg q14 h1 (fun g15 e16 => ?_)
    refine go_iinc kk78_0.2.1.2.1.1.2 rfl rfl 1 rfl (loc2 := [some (sR v0), some (sI (w32 (v1 + 1)))]) rfl ?_
    refine go_goto kk78_0.2.1.2.1.2 ?_
    exact HX31 (w32 (v1 + 1)) (inR_w32 _) g15 e16
  · exact tjM_clear_52 hd hg hK0 (some (sI v1)) rfl
theorem tlM_clear_31 {Φ : ev_P} {d : Nat} (hd : 1 ≤ d) {v0 : Int} (hK0 : kd v0 = 7) : ∀ n : Nat, ∀ (v1 : Int) (h1 : InR v1) (g : gH) (hg : HR g), Go Φ pr_P fN 0 (lM_clear_31 v0 n v1 g) d pr_m78 31 [some (sR v0), some (sI v1)] [] g 0 0 := by
  intro n
  induction n with
  | zero => intros; exact go_none
  | succ n ih => exact tbM_clear_31 hd hK0 ih
theorem tjM_clear_22 {Φ : ev_P} {d : Nat} (hd : 1 ≤ d) {g : gH} (hg : HR g) {v0 : Int} (hK0 : kd v0 = 7) (u1 : Option ev_V) (w1 : nwo u1) : Go Φ pr_P fN 0 (jM_clear_22 g v0 ) d pr_m78 22 [some (sR v0), u1] [] g 0 0 := by
  unfold jM_clear_22
  refine go_aload kk78_0.1.2.1.1.1.2 rfl ?_
  refine go_getR (bI := 0) kk78_0.1.2.1.1.2 hg hK0 (by decide) rfl rfl (fun r7 => ?_)
  refine go_int kk78_0.1.2.1.2.1.1 5 rfl ?_
  refine go_int kk78_0.1.2.1.2.1.2 3 rfl ?_
  refine go_ck (fun q8 => ?_)
  refine go_iast kk78_0.1.2.1.2.2 hg q8 (inR_of (by decide)) (fun g9 e10 => ?_)
  refine go_int kk78_0.1.2.2.1.1.1 0 rfl ?_
  refine go_istore kk78_0.1.2.2.1.1.2 rfl (loc2 := [some (sR v0), some (sI 0)]) rfl ?_
  exact tlM_clear_31 hd hK0 fu 0 (inR_b (Or.inl rfl)) g9 e10
theorem tbM_clear_2 {Φ : ev_P} {d : Nat} (hd : 1 ≤ d) {v0 : Int} (hK0 : kd v0 = 7) {X2 : Int → gH → Option (Int × gH)} (HX2 : ∀ (v1 : Int) (h1 : InR v1) (g : gH) (hg : HR g), Go Φ pr_P fN 0 (X2 v1 g) d pr_m78 2 [some (sR v0), some (sI v1)] [] g 0 0) : ∀ (v1 : Int) (h1 : InR v1) (g : gH) (hg : HR g), Go Φ pr_P fN 0 (bM_clear_2 v0 X2 v1 g) d pr_m78 2 [some (sR v0), some (sI v1)] [] g 0 0 := by
  intro v1 h1 g hg
  unfold bM_clear_2
  refine go_iload kk78_0.1.1.1.1.2 rfl ?_
  refine go_int kk78_0.1.1.1.2.1.1 780 rfl ?_
  refine go_cmlt kk78_0.1.1.1.2.1.2 h1 (inR_of (by decide)) (fun c1 => ?_) (fun c2 => ?_)
  · refine go_aload kk78_0.1.1.1.2.2 rfl ?_
    refine go_getR (bI := 0) kk78_0.1.1.2.1.1.1 hg hK0 (by decide) rfl rfl (fun r3 => ?_)
    refine go_iload kk78_0.1.1.2.1.1.2 rfl ?_
    refine go_int kk78_0.1.1.2.1.2 0 rfl ?_
    refine go_ck (fun q4 => ?_)
    refine go_iast kk78_0.1.1.2.2.1 hg q4 (inR_b (Or.inl rfl)) (fun g5 e6 => ?_)
    refine go_iinc kk78_0.1.1.2.2.2 rfl rfl 1 rfl (loc2 := [some (sR v0), some (sI (w32 (v1 + 1)))]) rfl ?_
    refine go_goto kk78_0.1.2.1.1.1.1 ?_
    exact HX2 (w32 (v1 + 1)) (inR_w32 _) g5 e6
  · exact tjM_clear_22 hd hg hK0 (some (sI v1)) rfl
theorem tlM_clear_2 {Φ : ev_P} {d : Nat} (hd : 1 ≤ d) {v0 : Int} (hK0 : kd v0 = 7) : ∀ n : Nat, ∀ (v1 : Int) (h1 : InR v1) (g : gH) (hg : HR g), Go Φ pr_P fN 0 (lM_clear_2 v0 n v1 g) d pr_m78 2 [some (sR v0), some (sI v1)] [] g 0 0 := by
  intro n
  induction n with
  | zero => intros; exact go_none
  | succ n ih => exact tbM_clear_2 hd hK0 ih
theorem tfM_clear {Φ : ev_P} {d : Nat} (hd : 1 ≤ d) {g : gH} (hg : HR g) {v0 : Int} (hK0 : kd v0 = 7) : Go Φ pr_P fN 0 (fM_clear g v0) d (pr_P 78) 0 (ev_loc (pr_P 78).1 [(sR v0)]) [] g 0 0 := by
  show Go Φ pr_P fN 0 (fM_clear g v0) d pr_m78 0 [some (sR v0), none] [] g 0 0
  unfold fM_clear
  refine go_int kk78_0.1.1.1.1.1.1 0 rfl ?_
  refine go_istore kk78_0.1.1.1.1.1.2 rfl (loc2 := [some (sR v0), some (sI 0)]) rfl ?_
  exact tlM_clear_2 hd hK0 fu 0 (inR_b (Or.inl rfl)) g hg
theorem tfM_byteAt {Φ : ev_P} {d : Nat} (hd : 0 ≤ d) {g : gH} (hg : HR g) {v0 v1 : Int} (hK0 : kd v0 = 7) (h1 : InR v1) : Go Φ pr_P (fP g) 1 (fM_byteAt g v0 v1) d (pr_P 109) 0 (ev_loc (pr_P 109).1 [(sR v0), (sI v1)]) [] g 0 0 := by
  show Go Φ pr_P (fP g) 1 (fM_byteAt g v0 v1) d pr_m109 0 [some (sR v0), some (sI v1)] [] g 0 0
  unfold fM_byteAt
  refine go_iload kk109_0.1.1.1.1 rfl ?_
  refine go_aload kk109_0.1.1.1.2 rfl ?_
  refine go_getI (bI := 10) kk109_0.1.1.2 hg hK0 (by decide) rfl rfl (fun r1 => ?_)
  refine go_cmlt kk109_0.1.2.1.1 h1 r1 (fun c2 => ?_) (fun c3 => ?_)
  · refine go_aload kk109_0.1.2.1.2 rfl ?_
    refine go_getR (bI := 9) kk109_0.1.2.2 hg hK0 (by decide) rfl rfl (fun r4 => ?_)
    refine go_iload kk109_0.2.1.1.1 rfl ?_
    refine go_ck (fun q6 => ?_)
    refine go_iald kk109_0.2.1.1.2 hg q6 (fun r5 => ?_)
    refine go_goto kk109_0.2.1.2 ?_
    exact go_iret kk109_0.2.2.2 hg r5 ⟨Nat.zero_le _, Nat.zero_le _⟩ rfl
  · refine go_int kk109_0.2.2.1 (-1) rfl ?_
    exact go_iret kk109_0.2.2.2 hg (inR_of (by decide)) ⟨Nat.zero_le _, Nat.zero_le _⟩ rfl
theorem tbM_advanceToken_137 {Φ : ev_P} {d : Nat} (hd : 1 ≤ d) {v0 : Int} (hK0 : kd v0 = 7) {X137 : gH → Option (Int × gH)} (HX137 : ∀ (g : gH) (hg : HR g) (u1 : Option ev_V) (w1 : nwo u1), Go Φ pr_P fN 0 (X137 g) d pr_m110 137 [some (sR v0), u1] [] g 0 0) : ∀ (g : gH) (hg : HR g) (u1 : Option ev_V) (w1 : nwo u1), Go Φ pr_P fN 0 (bM_advanceToken_137 v0 X137 g) d pr_m110 137 [some (sR v0), u1] [] g 0 0 := by
  intro g hg u1 w1
  unfold bM_advanceToken_137
  refine go_aload kk110_1.1.1.2.1.2.1 rfl ?_
  refine go_aload kk110_1.1.1.2.1.2.2 rfl ?_
  refine go_getI (bI := 15) kk110_1.1.1.2.2.1.1 hg hK0 (by decide) rfl rfl (fun r63 => ?_)
  refine go_callP1 kk110_1.1.1.2.2.1.2 rfl rfl rfl ⟨by decide, _, rfl, hK0⟩ ⟨Nat.zero_le _, Nat.zero_le _⟩ (by omega) (tfM_byteAt (by omega) hg hK0  r63) (fun y64 r65 => ?_)
  refine go_int kk110_1.1.1.2.2.2 48 rfl ?_
  refine go_int kk110_1.1.2.1.1.1.1 57 rfl ?_
  refine go_callP3 kk110_1.1.2.1.1.1.2 rfl rfl rfl trivial ⟨Nat.zero_le _, Nat.zero_le _⟩ (by omega) (tfM_inRange (by omega) hg  r65 (inR_of (by decide)) (inR_of (by decide))) (fun y68 r69 => ?_)
  refine go_ifeq kk110_1.1.2.1.1.2.1 (inR_b r69) (fun c72 => ?_) (fun c73 => ?_)
  · exact go_vret kk110_1.2.2.2.2.2 hg ⟨Nat.zero_le _, Nat.zero_le _⟩ rfl
  · refine go_aload kk110_1.1.2.1.1.2.2 rfl ?_
    refine go_getI (bI := 15) kk110_1.1.2.1.2.1.1 hg hK0 (by decide) rfl rfl (fun r74 => ?_)
    refine go_aload kk110_1.1.2.1.2.1.2 rfl ?_
    refine go_getI (bI := 16) kk110_1.1.2.1.2.2.1 hg hK0 (by decide) rfl rfl (fun r75 => ?_)
    refine go_isub kk110_1.1.2.1.2.2.2 ?_
    refine go_int kk110_1.1.2.2.1.1.1 2 rfl ?_
    refine go_cmlt kk110_1.1.2.2.1.1.2 (inR_w32 _) (inR_of (by decide)) (fun c76 => ?_) (fun c77 => ?_)
    · refine go_aload kk110_1.1.2.2.1.2.1 rfl ?_
      refine go_int kk110_1.1.2.2.1.2.2 10 rfl ?_
      refine go_aload kk110_1.1.2.2.2.1.1 rfl ?_
      refine go_getI (bI := 17) kk110_1.1.2.2.2.1.2 hg hK0 (by decide) rfl rfl (fun r78 => ?_)
      refine go_ibin kk110_1.1.2.2.2.2 ?_
      refine go_aload kk110_1.2.1.1.1.1.1 rfl ?_
      refine go_aload kk110_1.2.1.1.1.1.2 rfl ?_
      refine go_getI (bI := 15) kk110_1.2.1.1.1.2.1 hg hK0 (by decide) rfl rfl (fun r79 => ?_)
      refine go_callP1 kk110_1.2.1.1.1.2.2 rfl rfl rfl ⟨by decide, _, rfl, hK0⟩ ⟨Nat.zero_le _, Nat.zero_le _⟩ (by omega) (tfM_byteAt (by omega) hg hK0  r79) (fun y80 r81 => ?_)
      refine go_iadd kk110_1.2.1.1.2.1.1 ?_
      refine go_int kk110_1.2.1.1.2.1.2 48 rfl ?_
      refine go_isub kk110_1.2.1.1.2.2.1 ?_
      refine go_putI (bI := 17) kk110_1.2.1.1.2.2.2 hg hK0 (by decide) rfl rfl (inR_w32 _) (fun g84 e85 => ?_)
      refine go_aload kk110_1.2.1.2.1.1.1 rfl ?_
      refine go_dupR kk110_1.2.1.2.1.1.2 ?_
      refine go_getI (bI := 15) kk110_1.2.1.2.1.2.1 e85 hK0 (by decide) rfl rfl (fun r86 => ?_)
      refine go_int kk110_1.2.1.2.1.2.2 1 rfl ?_
      refine go_iadd kk110_1.2.1.2.2.1.1 ?_
      refine go_putI (bI := 15) kk110_1.2.1.2.2.1.2 e85 hK0 (by decide) rfl rfl (inR_w32 _) (fun g87 e88 => ?_)
      refine go_goto kk110_1.2.1.2.2.2 ?_
      exact HX137 g87 e88 u1 w1
    · refine go_aload kk110_1.2.1.2.1.1.1 rfl ?_
      refine go_dupR kk110_1.2.1.2.1.1.2 ?_
      refine go_getI (bI := 15) kk110_1.2.1.2.1.2.1 hg hK0 (by decide) rfl rfl (fun r89 => ?_)
      refine go_int kk110_1.2.1.2.1.2.2 1 rfl ?_
      refine go_iadd kk110_1.2.1.2.2.1.1 ?_
      refine go_putI (bI := 15) kk110_1.2.1.2.2.1.2 hg hK0 (by decide) rfl rfl (inR_w32 _) (fun g90 e91 => ?_)
      refine go_goto kk110_1.2.1.2.2.2 ?_
      exact HX137 g90 e91 u1 w1
theorem tlM_advanceToken_137 {Φ : ev_P} {d : Nat} (hd : 1 ≤ d) {v0 : Int} (hK0 : kd v0 = 7) : ∀ n : Nat, ∀ (g : gH) (hg : HR g) (u1 : Option ev_V) (w1 : nwo u1), Go Φ pr_P fN 0 (lM_advanceToken_137 v0 n g) d pr_m110 137 [some (sR v0), u1] [] g 0 0 := by
  intro n
  induction n with
  | zero => intros; exact go_none
  | succ n ih => exact tbM_advanceToken_137 hd hK0 ih
theorem tbM_advanceToken_90 {Φ : ev_P} {d : Nat} (hd : 1 ≤ d) {v0 : Int} (hK0 : kd v0 = 7) {X90 : gH → Option (Int × gH)} (HX90 : ∀ (g : gH) (hg : HR g) (u1 : Option ev_V) (w1 : nwo u1), Go Φ pr_P fN 0 (X90 g) d pr_m110 90 [some (sR v0), u1] [] g 0 0) : ∀ (g : gH) (hg : HR g) (u1 : Option ev_V) (w1 : nwo u1), Go Φ pr_P fN 0 (bM_advanceToken_90 v0 X90 g) d pr_m110 90 [some (sR v0), u1] [] g 0 0 := by
  intro g hg u1 w1
  unfold bM_advanceToken_90
  refine go_aload kk110_0.2.2.1.1.1.2 rfl ?_
  refine go_aload kk110_0.2.2.1.1.2.1 rfl ?_
  refine go_getI (bI := 15) kk110_0.2.2.1.1.2.2 hg hK0 (by decide) rfl rfl (fun r92 => ?_)
  refine go_callP1 kk110_0.2.2.1.2.1.1 rfl rfl rfl ⟨by decide, _, rfl, hK0⟩ ⟨Nat.zero_le _, Nat.zero_le _⟩ (by omega) (tfM_byteAt (by omega) hg hK0  r92) (fun y93 r94 => ?_)
  refine go_int kk110_0.2.2.1.2.1.2 97 rfl ?_
  refine go_int kk110_0.2.2.1.2.2 122 rfl ?_
  refine go_callP3 kk110_0.2.2.2.1.1.1 rfl rfl rfl trivial ⟨Nat.zero_le _, Nat.zero_le _⟩ (by omega) (tfM_inRange (by omega) hg  r94 (inR_of (by decide)) (inR_of (by decide))) (fun y97 r98 => ?_)
  refine go_ifeq kk110_0.2.2.2.1.1.2 (inR_b r98) (fun c101 => ?_) (fun c102 => ?_)
  · exact go_vret kk110_1.2.2.2.2.2 hg ⟨Nat.zero_le _, Nat.zero_le _⟩ rfl
  · refine go_aload kk110_0.2.2.2.1.2.1 rfl ?_
    refine go_dupR kk110_0.2.2.2.1.2.2 ?_
    refine go_getI (bI := 15) kk110_0.2.2.2.2.1.1 hg hK0 (by decide) rfl rfl (fun r103 => ?_)
    refine go_int kk110_0.2.2.2.2.1.2 1 rfl ?_
    refine go_iadd kk110_0.2.2.2.2.2 ?_
    refine go_putI (bI := 15) kk110_1.1.1.1.1.1.1 hg hK0 (by decide) rfl rfl (inR_w32 _) (fun g104 e105 => ?_)
    refine go_goto kk110_1.1.1.1.1.1.2 ?_
    exact HX90 g104 e105 u1 w1
theorem tlM_advanceToken_90 {Φ : ev_P} {d : Nat} (hd : 1 ≤ d) {v0 : Int} (hK0 : kd v0 = 7) : ∀ n : Nat, ∀ (g : gH) (hg : HR g) (u1 : Option ev_V) (w1 : nwo u1), Go Φ pr_P fN 0 (lM_advanceToken_90 v0 n g) d pr_m110 90 [some (sR v0), u1] [] g 0 0 := by
  intro n
  induction n with
  | zero => intros; exact go_none
  | succ n ih => exact tbM_advanceToken_90 hd hK0 ih
theorem tjM_advanceToken_39 {Φ : ev_P} {d : Nat} (hd : 1 ≤ d) {g : gH} (hg : HR g) {v0 : Int} (hK0 : kd v0 = 7) (u1 : Option ev_V) (w1 : nwo u1) : Go Φ pr_P fN 0 (jM_advanceToken_39 g v0 ) d pr_m110 39 [some (sR v0), u1] [] g 0 0 := by
  unfold jM_advanceToken_39
  refine go_aload kk110_0.1.2.1.2.1.1 rfl ?_
  refine go_aload kk110_0.1.2.1.2.1.2 rfl ?_
  refine go_getI (bI := 15) kk110_0.1.2.1.2.2.1 hg hK0 (by decide) rfl rfl (fun r21 => ?_)
  refine go_putI (bI := 16) kk110_0.1.2.1.2.2.2 hg hK0 (by decide) rfl rfl r21 (fun g22 e23 => ?_)
  refine go_aload kk110_0.1.2.2.1.1.1 rfl ?_
  refine go_aload kk110_0.1.2.2.1.1.2 rfl ?_
  refine go_getI (bI := 15) kk110_0.1.2.2.1.2.1 e23 hK0 (by decide) rfl rfl (fun r24 => ?_)
  refine go_callP1 kk110_0.1.2.2.1.2.2 rfl rfl rfl ⟨by decide, _, rfl, hK0⟩ ⟨Nat.zero_le _, Nat.zero_le _⟩ (by omega) (tfM_byteAt (by omega) e23 hK0  r24) (fun y25 r26 => ?_)
  refine go_istore kk110_0.1.2.2.2.1.1 rfl (loc2 := [some (sR v0), some (sI y25)]) rfl ?_
  refine go_aload kk110_0.1.2.2.2.1.2 rfl ?_
  refine go_int kk110_0.1.2.2.2.2 0 rfl ?_
  refine go_putI (bI := 17) kk110_0.2.1.1.1.1.1 e23 hK0 (by decide) rfl rfl (inR_b (Or.inl rfl)) (fun g29 e30 => ?_)
  refine go_iload kk110_0.2.1.1.1.1.2 rfl ?_
  refine go_int kk110_0.2.1.1.1.2.1 (-1) rfl ?_
  refine go_cmeq kk110_0.2.1.1.1.2.2 r26 (inR_of (by decide)) (fun c31 => ?_) (fun c32 => ?_)
  · refine go_aload kk110_0.2.1.1.2.1.1 rfl ?_
    refine go_int kk110_0.2.1.1.2.1.2 0 rfl ?_
    refine go_putI (bI := 18) kk110_0.2.1.1.2.2.1 e30 hK0 (by decide) rfl rfl (inR_b (Or.inl rfl)) (fun g33 e34 => ?_)
    refine go_goto kk110_0.2.1.1.2.2.2 ?_
    exact go_vret kk110_1.2.2.2.2.2 e34 ⟨Nat.zero_le _, Nat.zero_le _⟩ rfl
  · refine go_iload kk110_0.2.1.2.1.1.1 rfl ?_
    refine go_int kk110_0.2.1.2.1.1.2 97 rfl ?_
    refine go_int kk110_0.2.1.2.1.2.1 122 rfl ?_
    refine go_callP3 kk110_0.2.1.2.1.2.2 rfl rfl rfl trivial ⟨Nat.zero_le _, Nat.zero_le _⟩ (by omega) (tfM_inRange (by omega) e30  r26 (inR_of (by decide)) (inR_of (by decide))) (fun y35 r36 => ?_)
    refine go_ifeq kk110_0.2.1.2.2.1.1 (inR_b r36) (fun c39 => ?_) (fun c40 => ?_)
    · refine go_iload kk110_1.1.1.1.1.2.1 rfl ?_
      refine go_int kk110_1.1.1.1.1.2.2 48 rfl ?_
      refine go_int kk110_1.1.1.1.2.1.1 57 rfl ?_
      refine go_callP3 kk110_1.1.1.1.2.1.2 rfl rfl rfl trivial ⟨Nat.zero_le _, Nat.zero_le _⟩ (by omega) (tfM_inRange (by omega) e30  r26 (inR_of (by decide)) (inR_of (by decide))) (fun y41 r42 => ?_)
      refine go_ifeq kk110_1.1.1.1.2.2.1 (inR_b r42) (fun c45 => ?_) (fun c46 => ?_)
      · refine go_aload kk110_1.2.2.1.1.1.1 rfl ?_
        refine go_iload kk110_1.2.2.1.1.1.2 rfl ?_
        refine go_int kk110_1.2.2.1.1.2.1 59 rfl ?_
        refine go_cmeq kk110_1.2.2.1.1.2.2 r26 (inR_of (by decide)) (fun c47 => ?_) (fun c48 => ?_)
        · refine go_int kk110_1.2.2.1.2.1.1 3 rfl ?_
          refine go_goto kk110_1.2.2.1.2.1.2 ?_
          refine go_putI (bI := 18) kk110_1.2.2.1.2.2.2 e30 hK0 (by decide) rfl rfl (inR_of (by decide)) (fun g49 e50 => ?_)
          refine go_aload kk110_1.2.2.2.1.1.1 rfl ?_
          refine go_dupR kk110_1.2.2.2.1.1.2 ?_
          refine go_getI (bI := 15) kk110_1.2.2.2.1.2.1 e50 hK0 (by decide) rfl rfl (fun r51 => ?_)
          refine go_int kk110_1.2.2.2.1.2.2 1 rfl ?_
          refine go_iadd kk110_1.2.2.2.2.1.1 ?_
          refine go_putI (bI := 15) kk110_1.2.2.2.2.1.2 e50 hK0 (by decide) rfl rfl (inR_w32 _) (fun g52 e53 => ?_)
          exact go_vret kk110_1.2.2.2.2.2 e53 ⟨Nat.zero_le _, Nat.zero_le _⟩ rfl
        · refine go_int kk110_1.2.2.1.2.2.1 4 rfl ?_
          refine go_putI (bI := 18) kk110_1.2.2.1.2.2.2 e30 hK0 (by decide) rfl rfl (inR_of (by decide)) (fun g54 e55 => ?_)
          refine go_aload kk110_1.2.2.2.1.1.1 rfl ?_
          refine go_dupR kk110_1.2.2.2.1.1.2 ?_
          refine go_getI (bI := 15) kk110_1.2.2.2.1.2.1 e55 hK0 (by decide) rfl rfl (fun r56 => ?_)
          refine go_int kk110_1.2.2.2.1.2.2 1 rfl ?_
          refine go_iadd kk110_1.2.2.2.2.1.1 ?_
          refine go_putI (bI := 15) kk110_1.2.2.2.2.1.2 e55 hK0 (by decide) rfl rfl (inR_w32 _) (fun g57 e58 => ?_)
          exact go_vret kk110_1.2.2.2.2.2 e58 ⟨Nat.zero_le _, Nat.zero_le _⟩ rfl
      · refine go_aload kk110_1.1.1.1.2.2.2 rfl ?_
        refine go_int kk110_1.1.1.2.1.1.1 2 rfl ?_
        refine go_putI (bI := 18) kk110_1.1.1.2.1.1.2 e30 hK0 (by decide) rfl rfl (inR_of (by decide)) (fun g59 e60 => ?_)
        exact tlM_advanceToken_137 hd hK0 fu g59 e60 (some (sI y25)) rfl
    · refine go_aload kk110_0.2.1.2.2.1.2 rfl ?_
      refine go_int kk110_0.2.1.2.2.2 1 rfl ?_
      refine go_putI (bI := 18) kk110_0.2.2.1.1.1.1 e30 hK0 (by decide) rfl rfl (inR_b (Or.inr rfl)) (fun g61 e62 => ?_)
      exact tlM_advanceToken_90 hd hK0 fu g61 e62 (some (sI y25)) rfl
theorem tbM_advanceToken_0 {Φ : ev_P} {d : Nat} (hd : 1 ≤ d) {v0 : Int} (hK0 : kd v0 = 7) {X0 : gH → Option (Int × gH)} (HX0 : ∀ (g : gH) (hg : HR g) (u1 : Option ev_V) (w1 : nwo u1), Go Φ pr_P fN 0 (X0 g) d pr_m110 0 [some (sR v0), u1] [] g 0 0) : ∀ (g : gH) (hg : HR g) (u1 : Option ev_V) (w1 : nwo u1), Go Φ pr_P fN 0 (bM_advanceToken_0 v0 X0 g) d pr_m110 0 [some (sR v0), u1] [] g 0 0 := by
  intro g hg u1 w1
  unfold bM_advanceToken_0
  refine go_aload kk110_0.1.1.1.1.1.1 rfl ?_
  refine go_aload kk110_0.1.1.1.1.1.2 rfl ?_
  refine go_getI (bI := 15) kk110_0.1.1.1.1.2.1 hg hK0 (by decide) rfl rfl (fun r1 => ?_)
  refine go_callP1 kk110_0.1.1.1.1.2.2 rfl rfl rfl ⟨by decide, _, rfl, hK0⟩ ⟨Nat.zero_le _, Nat.zero_le _⟩ (by omega) (tfM_byteAt (by omega) hg hK0  r1) (fun y2 r3 => ?_)
  refine go_int kk110_0.1.1.1.2.1.1 32 rfl ?_
  refine go_cmeq kk110_0.1.1.1.2.1.2 r3 (inR_of (by decide)) (fun c6 => ?_) (fun c7 => ?_)
  · refine go_aload kk110_0.1.1.2.2.1.1 rfl ?_
    refine go_dupR kk110_0.1.1.2.2.1.2 ?_
    refine go_getI (bI := 15) kk110_0.1.1.2.2.2 hg hK0 (by decide) rfl rfl (fun r8 => ?_)
    refine go_int kk110_0.1.2.1.1.1.1 1 rfl ?_
    refine go_iadd kk110_0.1.2.1.1.1.2 ?_
    refine go_putI (bI := 15) kk110_0.1.2.1.1.2.1 hg hK0 (by decide) rfl rfl (inR_w32 _) (fun g9 e10 => ?_)
    refine go_goto kk110_0.1.2.1.1.2.2 ?_
    exact HX0 g9 e10 u1 w1
  · refine go_aload kk110_0.1.1.1.2.2.1 rfl ?_
    refine go_aload kk110_0.1.1.1.2.2.2 rfl ?_
    refine go_getI (bI := 15) kk110_0.1.1.2.1.1.1 hg hK0 (by decide) rfl rfl (fun r11 => ?_)
    refine go_callP1 kk110_0.1.1.2.1.1.2 rfl rfl rfl ⟨by decide, _, rfl, hK0⟩ ⟨Nat.zero_le _, Nat.zero_le _⟩ (by omega) (tfM_byteAt (by omega) hg hK0  r11) (fun y12 r13 => ?_)
    refine go_int kk110_0.1.1.2.1.2.1 10 rfl ?_
    refine go_cmeq kk110_0.1.1.2.1.2.2 r13 (inR_of (by decide)) (fun c16 => ?_) (fun c17 => ?_)
    · refine go_aload kk110_0.1.1.2.2.1.1 rfl ?_
      refine go_dupR kk110_0.1.1.2.2.1.2 ?_
      refine go_getI (bI := 15) kk110_0.1.1.2.2.2 hg hK0 (by decide) rfl rfl (fun r18 => ?_)
      refine go_int kk110_0.1.2.1.1.1.1 1 rfl ?_
      refine go_iadd kk110_0.1.2.1.1.1.2 ?_
      refine go_putI (bI := 15) kk110_0.1.2.1.1.2.1 hg hK0 (by decide) rfl rfl (inR_w32 _) (fun g19 e20 => ?_)
      refine go_goto kk110_0.1.2.1.1.2.2 ?_
      exact HX0 g19 e20 u1 w1
    · exact tjM_advanceToken_39 hd hg hK0 u1 w1
theorem tlM_advanceToken_0 {Φ : ev_P} {d : Nat} (hd : 1 ≤ d) {v0 : Int} (hK0 : kd v0 = 7) : ∀ n : Nat, ∀ (g : gH) (hg : HR g) (u1 : Option ev_V) (w1 : nwo u1), Go Φ pr_P fN 0 (lM_advanceToken_0 v0 n g) d pr_m110 0 [some (sR v0), u1] [] g 0 0 := by
  intro n
  induction n with
  | zero => intros; exact go_none
  | succ n ih => exact tbM_advanceToken_0 hd hK0 ih
theorem tfM_advanceToken {Φ : ev_P} {d : Nat} (hd : 1 ≤ d) {g : gH} (hg : HR g) {v0 : Int} (hK0 : kd v0 = 7) : Go Φ pr_P fN 0 (fM_advanceToken g v0) d (pr_P 110) 0 (ev_loc (pr_P 110).1 [(sR v0)]) [] g 0 0 := by
  show Go Φ pr_P fN 0 (fM_advanceToken g v0) d pr_m110 0 [some (sR v0), none] [] g 0 0
  unfold fM_advanceToken
  exact tlM_advanceToken_0 hd hK0 fu g hg none rfl
theorem tfM_failsAt {Φ : ev_P} {d : Nat} (hd : 0 ≤ d) {g : gH} (hg : HR g) {v0 v1 : Int} (hK0 : kd v0 = 7) (h1 : InR v1) : Go Φ pr_P fN 3 (fM_failsAt g v0 v1) d (pr_P 112) 0 (ev_loc (pr_P 112).1 [(sR v0), (sI v1)]) [] g 0 0 := by
  show Go Φ pr_P fN 3 (fM_failsAt g v0 v1) d pr_m112 0 [some (sR v0), some (sI v1)] [] g 0 0
  unfold fM_failsAt
  refine go_aload kk112_0.1.1.1.1 rfl ?_
  refine go_getI (bI := 13) kk112_0.1.1.1.2 hg hK0 (by decide) rfl rfl (fun r1 => ?_)
  refine go_ifeq kk112_0.1.1.2 r1 (fun c2 => ?_) (fun c3 => ?_)
  · refine go_aload kk112_0.1.2.1.1 rfl ?_
    refine go_iload kk112_0.1.2.1.2 rfl ?_
    refine go_putI (bI := 13) kk112_0.1.2.2 hg hK0 (by decide) rfl rfl h1 (fun g4 e5 => ?_)
    refine go_aload kk112_0.2.1.1.1 rfl ?_
    refine go_aload kk112_0.2.1.1.2 rfl ?_
    refine go_getI (bI := 16) kk112_0.2.1.2 e5 hK0 (by decide) rfl rfl (fun r6 => ?_)
    refine go_putI (bI := 14) kk112_0.2.2.1.1 e5 hK0 (by decide) rfl rfl r6 (fun g7 e8 => ?_)
    refine go_int kk112_0.2.2.1.2 0 rfl ?_
    exact go_bret kk112_0.2.2.2 e8 (Or.inl rfl) ⟨Nat.zero_le _, Nat.zero_le _⟩ rfl
  · refine go_int kk112_0.2.2.1.2 0 rfl ?_
    exact go_bret kk112_0.2.2.2 hg (Or.inl rfl) ⟨Nat.zero_le _, Nat.zero_le _⟩ rfl
theorem tfM_tokenLength {Φ : ev_P} {d : Nat} (hd : 0 ≤ d) {g : gH} (hg : HR g) {v0 : Int} (hK0 : kd v0 = 7) : Go Φ pr_P (fP g) 1 (fM_tokenLength g v0) d (pr_P 111) 0 (ev_loc (pr_P 111).1 [(sR v0)]) [] g 0 0 := by
  show Go Φ pr_P (fP g) 1 (fM_tokenLength g v0) d pr_m111 0 [some (sR v0)] [] g 0 0
  unfold fM_tokenLength
  refine go_aload kk111_0.1.1.1 rfl ?_
  refine go_getI (bI := 15) kk111_0.1.1.2 hg hK0 (by decide) rfl rfl (fun r1 => ?_)
  refine go_aload kk111_0.1.2 rfl ?_
  refine go_getI (bI := 16) kk111_0.2.1.1 hg hK0 (by decide) rfl rfl (fun r2 => ?_)
  refine go_isub kk111_0.2.1.2 ?_
  exact go_iret kk111_0.2.2 hg (inR_w32 _) ⟨Nat.zero_le _, Nat.zero_le _⟩ rfl
theorem tbM_isWord_23 {Φ : ev_P} {d : Nat} (hd : 1 ≤ d) {g : gH} (hg : HR g) {v0 v1 : Int} (hK0 : kd v0 = 7) {X23 : Int → Option Int} (HX23 : ∀ (v2 : Int) (h2 : InR v2), Go Φ pr_P (fP g) 3 (X23 v2) d pr_m113 23 [some (sR v0), some (sR v1), some (sI v2)] [] g 0 0) : ∀ (v2 : Int) (h2 : InR v2), Go Φ pr_P (fP g) 3 (bM_isWord_23 g v0 v1 X23 v2) d pr_m113 23 [some (sR v0), some (sR v1), some (sI v2)] [] g 0 0 := by
  intro v2 h2
  unfold bM_isWord_23
  refine go_iload kk113_0.1.2.2.1.1 rfl ?_
  refine go_aload kk113_0.1.2.2.1.2 rfl ?_
  refine go_ck (fun q11 => ?_)
  refine go_slen kk113_0.1.2.2.2.1 q11 rfl ⟨Nat.zero_le _, Nat.zero_le _⟩ ?_
  refine go_cmlt kk113_0.1.2.2.2.2 h2 (inR_gtl _) (fun c12 => ?_) (fun c13 => ?_)
  · refine go_aload kk113_0.2.1.1.1.1.1 rfl ?_
    refine go_getR (bI := 9) kk113_0.2.1.1.1.1.2 hg hK0 (by decide) rfl rfl (fun r14 => ?_)
    refine go_aload kk113_0.2.1.1.1.2 rfl ?_
    refine go_getI (bI := 16) kk113_0.2.1.1.2.1 hg hK0 (by decide) rfl rfl (fun r15 => ?_)
    refine go_iload kk113_0.2.1.1.2.2 rfl ?_
    refine go_iadd kk113_0.2.1.2.1.1 ?_
    refine go_ck (fun q17 => ?_)
    refine go_iald kk113_0.2.1.2.1.2 hg q17 (fun r16 => ?_)
    refine go_aload kk113_0.2.1.2.2.1 rfl ?_
    refine go_iload kk113_0.2.1.2.2.2 rfl ?_
    refine go_ck (fun q18 => ?_)
    refine go_chat kk113_0.2.2.1.1.1 q18 rfl ⟨Nat.zero_le _, Nat.zero_le _⟩ ?_
    refine go_cmeq kk113_0.2.2.1.1.2 r16 (inR_gch _ _) (fun c19 => ?_) (fun c20 => ?_)
    · refine go_iinc kk113_0.2.2.2.1.1 rfl rfl 1 rfl (loc2 := [some (sR v0), some (sR v1), some (sI (w32 (v2 + 1)))]) rfl ?_
      refine go_goto kk113_0.2.2.2.1.2 ?_
      exact HX23 (w32 (v2 + 1)) (inR_w32 _)
    · refine go_int kk113_0.2.2.1.2.1 0 rfl ?_
      exact go_bret kk113_0.2.2.1.2.2 hg (Or.inl rfl) ⟨Nat.zero_le _, Nat.zero_le _⟩ rfl
  · refine go_int kk113_0.2.2.2.2.1 1 rfl ?_
    exact go_bret kk113_0.2.2.2.2.2 hg (Or.inr rfl) ⟨Nat.zero_le _, Nat.zero_le _⟩ rfl
theorem tlM_isWord_23 {Φ : ev_P} {d : Nat} (hd : 1 ≤ d) {g : gH} (hg : HR g) {v0 v1 : Int} (hK0 : kd v0 = 7) : ∀ n : Nat, ∀ (v2 : Int) (h2 : InR v2), Go Φ pr_P (fP g) 3 (lM_isWord_23 g v0 v1 n v2) d pr_m113 23 [some (sR v0), some (sR v1), some (sI v2)] [] g 0 0 := by
  intro n
  induction n with
  | zero => intros; exact go_none
  | succ n ih => exact tbM_isWord_23 hd hg hK0 ih
theorem tfM_isWord {Φ : ev_P} {d : Nat} (hd : 1 ≤ d) {g : gH} (hg : HR g) {v0 v1 : Int} (hK0 : kd v0 = 7) : Go Φ pr_P (fP g) 3 (fM_isWord g v0 v1) d (pr_P 113) 0 (ev_loc (pr_P 113).1 [(sR v0), (sR v1)]) [] g 0 0 := by
  show Go Φ pr_P (fP g) 3 (fM_isWord g v0 v1) d pr_m113 0 [some (sR v0), some (sR v1), none] [] g 0 0
  unfold fM_isWord
  refine go_aload kk113_0.1.1.1.1.1.1 rfl ?_
  refine go_getI (bI := 18) kk113_0.1.1.1.1.1.2 hg hK0 (by decide) rfl rfl (fun r1 => ?_)
  refine go_int kk113_0.1.1.1.1.2 1 rfl ?_
  refine go_cmeq kk113_0.1.1.1.2.1 r1 (inR_b (Or.inr rfl)) (fun c2 => ?_) (fun c3 => ?_)
  · refine go_aload kk113_0.1.1.1.2.2 rfl ?_
    refine go_callP1 kk113_0.1.1.2.1.1 rfl rfl rfl ⟨by decide, _, rfl, hK0⟩ ⟨Nat.zero_le _, Nat.zero_le _⟩ (by omega) (tfM_tokenLength (by omega) hg hK0 ) (fun y4 r5 => ?_)
    refine go_aload kk113_0.1.1.2.1.2 rfl ?_
    refine go_ck (fun q8 => ?_)
    refine go_slen kk113_0.1.1.2.2.1 q8 rfl ⟨Nat.zero_le _, Nat.zero_le _⟩ ?_
    refine go_cmeq kk113_0.1.1.2.2.2 r5 (inR_gtl _) (fun c9 => ?_) (fun c10 => ?_)
    · refine go_int kk113_0.1.2.1.2.1 0 rfl ?_
      refine go_istore kk113_0.1.2.1.2.2 rfl (loc2 := [some (sR v0), some (sR v1), some (sI 0)]) rfl ?_
      exact tlM_isWord_23 hd hg hK0 fu 0 (inR_b (Or.inl rfl))
    · refine go_int kk113_0.1.2.1.1.1 0 rfl ?_
      exact go_bret kk113_0.1.2.1.1.2 hg (Or.inl rfl) ⟨Nat.zero_le _, Nat.zero_le _⟩ rfl
  · refine go_int kk113_0.1.2.1.1.1 0 rfl ?_
    exact go_bret kk113_0.1.2.1.1.2 hg (Or.inl rfl) ⟨Nat.zero_le _, Nat.zero_le _⟩ rfl
theorem tfM_isNumber {Φ : ev_P} {d : Nat} (hd : 1 ≤ d) {g : gH} (hg : HR g) {v0 v1 v2 : Int} (hK0 : kd v0 = 7) (h1 : InR v1) (h2 : InR v2) : Go Φ pr_P fN 3 (fM_isNumber g v0 v1 v2) d (pr_P 114) 0 (ev_loc (pr_P 114).1 [(sR v0), (sI v1), (sI v2)]) [] g 0 0 := by
  show Go Φ pr_P fN 3 (fM_isNumber g v0 v1 v2) d pr_m114 0 [some (sR v0), some (sI v1), some (sI v2)] [] g 0 0
  unfold fM_isNumber
  refine go_aload kk114_0.1.1.1.1.1 rfl ?_
  refine go_getI (bI := 18) kk114_0.1.1.1.1.2 hg hK0 (by decide) rfl rfl (fun r1 => ?_)
  refine go_int kk114_0.1.1.1.2.1 2 rfl ?_
  refine go_cmeq kk114_0.1.1.1.2.2 r1 (inR_of (by decide)) (fun c2 => ?_) (fun c3 => ?_)
  · refine go_aload kk114_0.1.1.2.1.1 rfl ?_
    refine go_callP1 kk114_0.1.1.2.1.2 rfl rfl rfl ⟨by decide, _, rfl, hK0⟩ ⟨Nat.zero_le _, Nat.zero_le _⟩ (by omega) (tfM_tokenLength (by omega) hg hK0 ) (fun y4 r5 => ?_)
    refine go_int kk114_0.1.1.2.2 2 rfl ?_
    refine go_cmgt kk114_0.1.2.1.1.1 r5 (inR_of (by decide)) (fun c8 => ?_) (fun c9 => ?_)
    · refine go_aload kk114_0.1.2.1.1.2 rfl ?_
      refine go_int kk114_0.1.2.1.2 1 rfl ?_
      refine go_callN3 kk114_0.1.2.2.1.1 rfl rfl rfl ⟨by decide, _, rfl, hK0⟩ ⟨Nat.zero_le _, Nat.zero_le _⟩ (by omega) (tfM_failsAt (by omega) hg hK0  (inR_b (Or.inr rfl))) (fun y10 g12 r11 e13 => ?_)
      exact go_bret kk114_0.1.2.2.1.2 e13 r11 ⟨Nat.zero_le _, Nat.zero_le _⟩ rfl
    · refine go_aload kk114_0.1.2.2.2 rfl ?_
      refine go_getI (bI := 17) kk114_0.2.1.1.1.1 hg hK0 (by decide) rfl rfl (fun r14 => ?_)
      refine go_iload kk114_0.2.1.1.1.2 rfl ?_
      refine go_iload kk114_0.2.1.1.2.1 rfl ?_
      refine go_callP3 kk114_0.2.1.1.2.2 rfl rfl rfl trivial ⟨Nat.zero_le _, Nat.zero_le _⟩ (by omega) (tfM_inRange (by omega) hg  r14 h1 h2) (fun y15 r16 => ?_)
      refine go_ifeq kk114_0.2.1.2.1.1 (inR_b r16) (fun c19 => ?_) (fun c20 => ?_)
      · refine go_aload kk114_0.2.1.2.1.2 rfl ?_
        refine go_int kk114_0.2.1.2.2 2 rfl ?_
        refine go_callN3 kk114_0.2.2.1.1.1 rfl rfl rfl ⟨by decide, _, rfl, hK0⟩ ⟨Nat.zero_le _, Nat.zero_le _⟩ (by omega) (tfM_failsAt (by omega) hg hK0  (inR_of (by decide))) (fun y21 g23 r22 e24 => ?_)
        refine go_ifeq kk114_0.2.2.1.1.2 (inR_b r22) (fun c25 => ?_) (fun c26 => ?_)
        · refine go_int kk114_0.2.2.2.1.2 0 rfl ?_
          exact go_bret kk114_0.2.2.2.2 e24 (Or.inl rfl) ⟨Nat.zero_le _, Nat.zero_le _⟩ rfl
        · refine go_int kk114_0.2.2.1.2 1 rfl ?_
          refine go_goto kk114_0.2.2.2.1.1 ?_
          exact go_bret kk114_0.2.2.2.2 e24 (Or.inr rfl) ⟨Nat.zero_le _, Nat.zero_le _⟩ rfl
      · refine go_int kk114_0.2.2.1.2 1 rfl ?_
        refine go_goto kk114_0.2.2.2.1.1 ?_
        exact go_bret kk114_0.2.2.2.2 hg (Or.inr rfl) ⟨Nat.zero_le _, Nat.zero_le _⟩ rfl
  · refine go_aload kk114_0.1.2.1.1.2 rfl ?_
    refine go_int kk114_0.1.2.1.2 1 rfl ?_
    refine go_callN3 kk114_0.1.2.2.1.1 rfl rfl rfl ⟨by decide, _, rfl, hK0⟩ ⟨Nat.zero_le _, Nat.zero_le _⟩ (by omega) (tfM_failsAt (by omega) hg hK0  (inR_b (Or.inr rfl))) (fun y27 g29 r28 e30 => ?_)
    exact go_bret kk114_0.1.2.2.1.2 e30 r28 ⟨Nat.zero_le _, Nat.zero_le _⟩ rfl
theorem tfM_takes {Φ : ev_P} {d : Nat} (hd : 2 ≤ d) {g : gH} (hg : HR g) {v0 v1 v2 v3 : Int} (hK0 : kd v0 = 7) (h1 : InR v1) (h2 : InR v2) (h3 : InR v3) : Go Φ pr_P fN 3 (fM_takes g v0 v1 v2 v3) d (pr_P 115) 0 (ev_loc (pr_P 115).1 [(sR v0), (sI v1), (sI v2), (sI v3)]) [] g 0 0 := by
  show Go Φ pr_P fN 3 (fM_takes g v0 v1 v2 v3) d pr_m115 0 [some (sR v0), some (sI v1), some (sI v2), some (sI v3)] [] g 0 0
  unfold fM_takes
  refine go_aload kk115_0.1.1.1.1.1 rfl ?_
  refine go_iload kk115_0.1.1.1.1.2 rfl ?_
  refine go_iload kk115_0.1.1.1.2 rfl ?_
  refine go_callN3 kk115_0.1.1.2.1 rfl rfl rfl ⟨by decide, _, rfl, hK0⟩ ⟨Nat.zero_le _, Nat.zero_le _⟩ (by omega) (tfM_isNumber (by omega) hg hK0  h2 h3) (fun y1 g3 r2 e4 => ?_)
  refine go_ifeq kk115_0.1.1.2.2 (inR_b r2) (fun c5 => ?_) (fun c6 => ?_)
  · refine go_int kk115_0.1.2.1.1 0 rfl ?_
    exact go_bret kk115_0.1.2.1.2 e4 (Or.inl rfl) ⟨Nat.zero_le _, Nat.zero_le _⟩ rfl
  · refine go_aload kk115_0.1.2.2.1 rfl ?_
    refine go_getR (bI := 20) kk115_0.1.2.2.2 e4 hK0 (by decide) rfl rfl (fun r7 => ?_)
    refine go_iload kk115_0.2.1.1.1 rfl ?_
    refine go_aload kk115_0.2.1.1.2 rfl ?_
    refine go_getI (bI := 17) kk115_0.2.1.2.1 e4 hK0 (by decide) rfl rfl (fun r8 => ?_)
    refine go_ck (fun q9 => ?_)
    refine go_iast kk115_0.2.1.2.2 e4 q9 r8 (fun g10 e11 => ?_)
    refine go_aload kk115_0.2.2.1.1 rfl ?_
    refine go_callN0 kk115_0.2.2.1.2 rfl rfl rfl ⟨by decide, _, rfl, hK0⟩ ⟨Nat.zero_le _, Nat.zero_le _⟩ (by omega) (tfM_advanceToken (by omega) e11 hK0 ) (fun y12 g14 e15 => ?_)
    refine go_int kk115_0.2.2.2.1 1 rfl ?_
    exact go_bret kk115_0.2.2.2.2 e15 (Or.inr rfl) ⟨Nat.zero_le _, Nat.zero_le _⟩ rfl
theorem tfM_startsOnce {Φ : ev_P} {d : Nat} (hd : 2 ≤ d) {g : gH} (hg : HR g) {v0 v1 : Int} (hK0 : kd v0 = 7) (h1 : InR v1) : Go Φ pr_P fN 3 (fM_startsOnce g v0 v1) d (pr_P 116) 0 (ev_loc (pr_P 116).1 [(sR v0), (sI v1)]) [] g 0 0 := by
  show Go Φ pr_P fN 3 (fM_startsOnce g v0 v1) d pr_m116 0 [some (sR v0), some (sI v1)] [] g 0 0
  unfold fM_startsOnce
  refine go_aload kk116_0.1.1.1.1.1 rfl ?_
  refine go_getI (bI := 19) kk116_0.1.1.1.1.2 hg hK0 (by decide) rfl rfl (fun r1 => ?_)
  refine go_iload kk116_0.1.1.1.2 rfl ?_
  refine go_ibin kk116_0.1.1.2.1 ?_
  refine go_ifeq kk116_0.1.1.2.2 (inR_opI _ _ _) (fun c2 => ?_) (fun c3 => ?_)
  · refine go_aload kk116_0.1.2.2.2 rfl ?_
    refine go_dupR kk116_0.2.1.1.1.1 ?_
    refine go_getI (bI := 19) kk116_0.2.1.1.1.2 hg hK0 (by decide) rfl rfl (fun r4 => ?_)
    refine go_iload kk116_0.2.1.1.2 rfl ?_
    refine go_ibin kk116_0.2.1.2.1 ?_
    refine go_putI (bI := 19) kk116_0.2.1.2.2 hg hK0 (by decide) rfl rfl (inR_opI _ _ _) (fun g5 e6 => ?_)
    refine go_aload kk116_0.2.2.1.1 rfl ?_
    refine go_callN0 kk116_0.2.2.1.2 rfl rfl rfl ⟨by decide, _, rfl, hK0⟩ ⟨Nat.zero_le _, Nat.zero_le _⟩ (by omega) (tfM_advanceToken (by omega) e6 hK0 ) (fun y7 g9 e10 => ?_)
    refine go_int kk116_0.2.2.2.1 1 rfl ?_
    exact go_bret kk116_0.2.2.2.2 e10 (Or.inr rfl) ⟨Nat.zero_le _, Nat.zero_le _⟩ rfl
  · refine go_aload kk116_0.1.2.1.1.1 rfl ?_
    refine go_int kk116_0.1.2.1.1.2 3 rfl ?_
    refine go_callN3 kk116_0.1.2.1.2 rfl rfl rfl ⟨by decide, _, rfl, hK0⟩ ⟨Nat.zero_le _, Nat.zero_le _⟩ (by omega) (tfM_failsAt (by omega) hg hK0  (inR_of (by decide))) (fun y11 g13 r12 e14 => ?_)
    exact go_bret kk116_0.1.2.2.1 e14 r12 ⟨Nat.zero_le _, Nat.zero_le _⟩ rfl
theorem tfM_readDeep {Φ : ev_P} {d : Nat} (hd : 3 ≤ d) {g : gH} (hg : HR g) {v0 : Int} (hK0 : kd v0 = 7) : Go Φ pr_P fN 3 (fM_readDeep g v0) d (pr_P 118) 0 (ev_loc (pr_P 118).1 [(sR v0)]) [] g 0 0 := by
  show Go Φ pr_P fN 3 (fM_readDeep g v0) d pr_m118 0 [some (sR v0)] [] g 0 0
  unfold fM_readDeep
  refine go_aload kk118_0.1.1.1.1.1 rfl ?_
  refine go_int kk118_0.1.1.1.1.2 2 rfl ?_
  refine go_callN3 kk118_0.1.1.1.2 rfl rfl rfl ⟨by decide, _, rfl, hK0⟩ ⟨Nat.zero_le _, Nat.zero_le _⟩ (by omega) (tfM_startsOnce (by omega) hg hK0  (inR_of (by decide))) (fun y1 g3 r2 e4 => ?_)
  refine go_ifeq kk118_0.1.1.2.1.1 (inR_b r2) (fun c5 => ?_) (fun c6 => ?_)
  · refine go_int kk118_0.1.2.2.2 0 rfl ?_
    exact go_bret kk118_0.2.1.1.1.1 e4 (Or.inl rfl) ⟨Nat.zero_le _, Nat.zero_le _⟩ rfl
  · refine go_aload kk118_0.1.1.2.1.2 rfl ?_
    refine go_int kk118_0.1.1.2.2 0 rfl ?_
    refine go_int kk118_0.1.2.1.1.1 1 rfl ?_
    refine go_int kk118_0.1.2.1.1.2 20 rfl ?_
    refine go_callN3 kk118_0.1.2.1.2 rfl rfl rfl ⟨by decide, _, rfl, hK0⟩ ⟨Nat.zero_le _, Nat.zero_le _⟩ (by omega) (tfM_takes (by omega) e4 hK0  (inR_b (Or.inl rfl)) (inR_b (Or.inr rfl)) (inR_of (by decide))) (fun y7 g9 r8 e10 => ?_)
    refine go_ifeq kk118_0.1.2.2.1 (inR_b r8) (fun c11 => ?_) (fun c12 => ?_)
    · refine go_int kk118_0.1.2.2.2 0 rfl ?_
      exact go_bret kk118_0.2.1.1.1.1 e10 (Or.inl rfl) ⟨Nat.zero_le _, Nat.zero_le _⟩ rfl
    · refine go_aload kk118_0.2.1.1.1.2 rfl ?_
      refine go_getR (bI := 0) kk118_0.2.1.1.2 e10 hK0 (by decide) rfl rfl (fun r13 => ?_)
      refine go_int kk118_0.2.1.2.1.1 59 rfl ?_
      refine go_aload kk118_0.2.1.2.1.2 rfl ?_
      refine go_getR (bI := 20) kk118_0.2.1.2.2 e10 hK0 (by decide) rfl rfl (fun r14 => ?_)
      refine go_int kk118_0.2.2.1.1.1 0 rfl ?_
      refine go_ck (fun q16 => ?_)
      refine go_iald kk118_0.2.2.1.1.2 e10 q16 (fun r15 => ?_)
      refine go_ck (fun q17 => ?_)
      refine go_iast kk118_0.2.2.1.2 e10 q17 r15 (fun g18 e19 => ?_)
      refine go_int kk118_0.2.2.2.1 1 rfl ?_
      exact go_bret kk118_0.2.2.2.2 e19 (Or.inr rfl) ⟨Nat.zero_le _, Nat.zero_le _⟩ rfl
theorem tfM_readRoot {Φ : ev_P} {d : Nat} (hd : 3 ≤ d) {g : gH} (hg : HR g) {v0 : Int} (hK0 : kd v0 = 7) : Go Φ pr_P fN 3 (fM_readRoot g v0) d (pr_P 119) 0 (ev_loc (pr_P 119).1 [(sR v0)]) [] g 0 0 := by
  show Go Φ pr_P fN 3 (fM_readRoot g v0) d pr_m119 0 [some (sR v0)] [] g 0 0
  unfold fM_readRoot
  refine go_aload kk119_0.1.1.1.1.1.1 rfl ?_
  refine go_int kk119_0.1.1.1.1.1.2 4 rfl ?_
  refine go_callN3 kk119_0.1.1.1.1.2 rfl rfl rfl ⟨by decide, _, rfl, hK0⟩ ⟨Nat.zero_le _, Nat.zero_le _⟩ (by omega) (tfM_startsOnce (by omega) hg hK0  (inR_of (by decide))) (fun y1 g3 r2 e4 => ?_)
  refine go_ifeq kk119_0.1.1.1.2.1 (inR_b r2) (fun c5 => ?_) (fun c6 => ?_)
  · refine go_int kk119_0.1.2.2.2.1 0 rfl ?_
    exact go_bret kk119_0.1.2.2.2.2 e4 (Or.inl rfl) ⟨Nat.zero_le _, Nat.zero_le _⟩ rfl
  · refine go_aload kk119_0.1.1.1.2.2 rfl ?_
    refine go_int kk119_0.1.1.2.1.1 0 rfl ?_
    refine go_int kk119_0.1.1.2.1.2 0 rfl ?_
    refine go_int kk119_0.1.1.2.2.1 9 rfl ?_
    refine go_callN3 kk119_0.1.1.2.2.2 rfl rfl rfl ⟨by decide, _, rfl, hK0⟩ ⟨Nat.zero_le _, Nat.zero_le _⟩ (by omega) (tfM_takes (by omega) e4 hK0  (inR_b (Or.inl rfl)) (inR_b (Or.inl rfl)) (inR_of (by decide))) (fun y7 g9 r8 e10 => ?_)
    refine go_ifeq kk119_0.1.2.1.1.1.1 (inR_b r8) (fun c11 => ?_) (fun c12 => ?_)
    · refine go_int kk119_0.1.2.2.2.1 0 rfl ?_
      exact go_bret kk119_0.1.2.2.2.2 e10 (Or.inl rfl) ⟨Nat.zero_le _, Nat.zero_le _⟩ rfl
    · refine go_aload kk119_0.1.2.1.1.1.2 rfl ?_
      refine go_int kk119_0.1.2.1.1.2 1 rfl ?_
      refine go_int kk119_0.1.2.1.2.1 0 rfl ?_
      refine go_int kk119_0.1.2.1.2.2 9 rfl ?_
      refine go_callN3 kk119_0.1.2.2.1.1 rfl rfl rfl ⟨by decide, _, rfl, hK0⟩ ⟨Nat.zero_le _, Nat.zero_le _⟩ (by omega) (tfM_takes (by omega) e10 hK0  (inR_b (Or.inr rfl)) (inR_b (Or.inl rfl)) (inR_of (by decide))) (fun y13 g15 r14 e16 => ?_)
      refine go_ifeq kk119_0.1.2.2.1.2 (inR_b r14) (fun c17 => ?_) (fun c18 => ?_)
      · refine go_int kk119_0.1.2.2.2.1 0 rfl ?_
        exact go_bret kk119_0.1.2.2.2.2 e16 (Or.inl rfl) ⟨Nat.zero_le _, Nat.zero_le _⟩ rfl
      · refine go_aload kk119_0.2.1.1.1.1.1 rfl ?_
        refine go_getR (bI := 0) kk119_0.2.1.1.1.1.2 e16 hK0 (by decide) rfl rfl (fun r19 => ?_)
        refine go_int kk119_0.2.1.1.1.2 100 rfl ?_
        refine go_aload kk119_0.2.1.1.2.1 rfl ?_
        refine go_getR (bI := 20) kk119_0.2.1.1.2.2 e16 hK0 (by decide) rfl rfl (fun r20 => ?_)
        refine go_int kk119_0.2.1.2.1.1 0 rfl ?_
        refine go_ck (fun q22 => ?_)
        refine go_iald kk119_0.2.1.2.1.2 e16 q22 (fun r21 => ?_)
        refine go_ck (fun q23 => ?_)
        refine go_iast kk119_0.2.1.2.2.1 e16 q23 r21 (fun g24 e25 => ?_)
        refine go_aload kk119_0.2.1.2.2.2 rfl ?_
        refine go_getR (bI := 0) kk119_0.2.2.1.1.1.1 e25 hK0 (by decide) rfl rfl (fun r26 => ?_)
        refine go_int kk119_0.2.2.1.1.1.2 220 rfl ?_
        refine go_aload kk119_0.2.2.1.1.2 rfl ?_
        refine go_getR (bI := 20) kk119_0.2.2.1.2.1 e25 hK0 (by decide) rfl rfl (fun r27 => ?_)
        refine go_int kk119_0.2.2.1.2.2 1 rfl ?_
        refine go_ck (fun q29 => ?_)
        refine go_iald kk119_0.2.2.2.1.1 e25 q29 (fun r28 => ?_)
        refine go_ck (fun q30 => ?_)
        refine go_iast kk119_0.2.2.2.1.2 e25 q30 r28 (fun g31 e32 => ?_)
        refine go_int kk119_0.2.2.2.2.1 1 rfl ?_
        exact go_bret kk119_0.2.2.2.2.2 e32 (Or.inr rfl) ⟨Nat.zero_le _, Nat.zero_le _⟩ rfl
theorem tfM_readWill {Φ : ev_P} {d : Nat} (hd : 3 ≤ d) {g : gH} (hg : HR g) {v0 : Int} (hK0 : kd v0 = 7) : Go Φ pr_P fN 3 (fM_readWill g v0) d (pr_P 120) 0 (ev_loc (pr_P 120).1 [(sR v0)]) [] g 0 0 := by
  show Go Φ pr_P fN 3 (fM_readWill g v0) d pr_m120 0 [some (sR v0)] [] g 0 0
  unfold fM_readWill
  refine go_aload kk120_0.1.1.1.1.1.1 rfl ?_
  refine go_callN0 kk120_0.1.1.1.1.1.2 rfl rfl rfl ⟨by decide, _, rfl, hK0⟩ ⟨Nat.zero_le _, Nat.zero_le _⟩ (by omega) (tfM_advanceToken (by omega) hg hK0 ) (fun y1 g3 e4 => ?_)
  refine go_aload kk120_0.1.1.1.1.2.1 rfl ?_
  refine go_int kk120_0.1.1.1.1.2.2 0 rfl ?_
  refine go_int kk120_0.1.1.1.2.1.1 1 rfl ?_
  refine go_aload kk120_0.1.1.1.2.1.2 rfl ?_
  refine go_getR (bI := 0) kk120_0.1.1.1.2.2 e4 hK0 (by decide) rfl rfl (fun r5 => ?_)
  refine go_int kk120_0.1.1.2.1.1.1 0 rfl ?_
  refine go_ck (fun q7 => ?_)
  refine go_iald kk120_0.1.1.2.1.1.2 e4 q7 (fun r6 => ?_)
  refine go_int kk120_0.1.1.2.1.2 1 rfl ?_
  refine go_isub kk120_0.1.1.2.2.1.1 ?_
  refine go_callN3 kk120_0.1.1.2.2.1.2 rfl rfl rfl ⟨by decide, _, rfl, hK0⟩ ⟨Nat.zero_le _, Nat.zero_le _⟩ (by omega) (tfM_takes (by omega) e4 hK0  (inR_b (Or.inl rfl)) (inR_b (Or.inr rfl)) (inR_w32 _)) (fun y8 g10 r9 e11 => ?_)
  refine go_ifeq kk120_0.1.1.2.2.2 (inR_b r9) (fun c12 => ?_) (fun c13 => ?_)
  · refine go_int kk120_0.1.2.1.2.1.2 0 rfl ?_
    exact go_bret kk120_0.1.2.1.2.2 e11 (Or.inl rfl) ⟨Nat.zero_le _, Nat.zero_le _⟩ rfl
  · refine go_aload kk120_0.1.2.1.1.1.1 rfl ?_
    refine go_int kk120_0.1.2.1.1.1.2 0 rfl ?_
    refine go_int kk120_0.1.2.1.1.2.1 7 rfl ?_
    refine go_callN3 kk120_0.1.2.1.1.2.2 rfl rfl rfl ⟨by decide, _, rfl, hK0⟩ ⟨Nat.zero_le _, Nat.zero_le _⟩ (by omega) (tfM_isNumber (by omega) e11 hK0  (inR_b (Or.inl rfl)) (inR_of (by decide))) (fun y14 g16 r15 e17 => ?_)
    refine go_ifeq kk120_0.1.2.1.2.1.1 (inR_b r15) (fun c18 => ?_) (fun c19 => ?_)
    · refine go_int kk120_0.1.2.1.2.1.2 0 rfl ?_
      exact go_bret kk120_0.1.2.1.2.2 e17 (Or.inl rfl) ⟨Nat.zero_le _, Nat.zero_le _⟩ rfl
    · refine go_aload kk120_0.1.2.2.1.1.1 rfl ?_
      refine go_getR (bI := 0) kk120_0.1.2.2.1.1.2 e17 hK0 (by decide) rfl rfl (fun r20 => ?_)
      refine go_int kk120_0.1.2.2.1.2 460 rfl ?_
      refine go_int kk120_0.1.2.2.2.1.1 8 rfl ?_
      refine go_aload kk120_0.1.2.2.2.1.2 rfl ?_
      refine go_getR (bI := 20) kk120_0.1.2.2.2.2 e17 hK0 (by decide) rfl rfl (fun r21 => ?_)
      refine go_int kk120_0.2.1.1.1.1.1 0 rfl ?_
      refine go_ck (fun q23 => ?_)
      refine go_iald kk120_0.2.1.1.1.1.2 e17 q23 (fun r22 => ?_)
      refine go_ibin kk120_0.2.1.1.1.2.1 ?_
      refine go_iadd kk120_0.2.1.1.1.2.2 ?_
      refine go_aload kk120_0.2.1.1.2.1.1 rfl ?_
      refine go_getI (bI := 17) kk120_0.2.1.1.2.1.2 e17 hK0 (by decide) rfl rfl (fun r24 => ?_)
      refine go_iadd kk120_0.2.1.1.2.2 ?_
      refine go_ck (fun q26 => ?_)
      refine go_iald kk120_0.2.1.2.1.1.1 e17 q26 (fun r25 => ?_)
      refine go_int kk120_0.2.1.2.1.1.2 (-1) rfl ?_
      refine go_cmeq kk120_0.2.1.2.1.2 r25 (inR_of (by decide)) (fun c27 => ?_) (fun c28 => ?_)
      · refine go_aload kk120_0.2.2.1.1.1.2 rfl ?_
        refine go_int kk120_0.2.2.1.1.2.1 1 rfl ?_
        refine go_int kk120_0.2.2.1.1.2.2 0 rfl ?_
        refine go_int kk120_0.2.2.1.2.1.1 7 rfl ?_
        refine go_callN3 kk120_0.2.2.1.2.1.2 rfl rfl rfl ⟨by decide, _, rfl, hK0⟩ ⟨Nat.zero_le _, Nat.zero_le _⟩ (by omega) (tfM_takes (by omega) e17 hK0  (inR_b (Or.inr rfl)) (inR_b (Or.inl rfl)) (inR_of (by decide))) (fun y29 g31 r30 e32 => ?_)
        refine go_ifeq kk120_0.2.2.1.2.2 (inR_b r30) (fun c33 => ?_) (fun c34 => ?_)
        · refine go_int kk120_1.1.1.1.2.1.1 0 rfl ?_
          exact go_bret kk120_1.1.1.1.2.1.2 e32 (Or.inl rfl) ⟨Nat.zero_le _, Nat.zero_le _⟩ rfl
        · refine go_aload kk120_0.2.2.2.1.1.1 rfl ?_
          refine go_int kk120_0.2.2.2.1.1.2 0 rfl ?_
          refine go_aload kk120_0.2.2.2.1.2 rfl ?_
          refine go_getR (bI := 0) kk120_0.2.2.2.2.1.1 e32 hK0 (by decide) rfl rfl (fun r35 => ?_)
          refine go_int kk120_0.2.2.2.2.1.2 0 rfl ?_
          refine go_ck (fun q37 => ?_)
          refine go_iald kk120_0.2.2.2.2.2 e32 q37 (fun r36 => ?_)
          refine go_int kk120_1.1.1.1.1.1.1 1 rfl ?_
          refine go_isub kk120_1.1.1.1.1.1.2 ?_
          refine go_callN3 kk120_1.1.1.1.1.2.1 rfl rfl rfl ⟨by decide, _, rfl, hK0⟩ ⟨Nat.zero_le _, Nat.zero_le _⟩ (by omega) (tfM_isNumber (by omega) e32 hK0  (inR_b (Or.inl rfl)) (inR_w32 _)) (fun y38 g40 r39 e41 => ?_)
          refine go_ifeq kk120_1.1.1.1.1.2.2 (inR_b r39) (fun c42 => ?_) (fun c43 => ?_)
          · refine go_int kk120_1.1.1.1.2.1.1 0 rfl ?_
            exact go_bret kk120_1.1.1.1.2.1.2 e41 (Or.inl rfl) ⟨Nat.zero_le _, Nat.zero_le _⟩ rfl
          · refine go_aload kk120_1.1.1.1.2.2 rfl ?_
            refine go_getI (bI := 17) kk120_1.1.1.2.1.1.1 e41 hK0 (by decide) rfl rfl (fun r44 => ?_)
            refine go_aload kk120_1.1.1.2.1.1.2 rfl ?_
            refine go_getR (bI := 20) kk120_1.1.1.2.1.2 e41 hK0 (by decide) rfl rfl (fun r45 => ?_)
            refine go_int kk120_1.1.1.2.2.1.1 0 rfl ?_
            refine go_ck (fun q47 => ?_)
            refine go_iald kk120_1.1.1.2.2.1.2 e41 q47 (fun r46 => ?_)
            refine go_cmeq kk120_1.1.1.2.2.2 r44 r46 (fun c48 => ?_) (fun c49 => ?_)
            · refine go_aload kk120_1.1.2.1.1.1.1 rfl ?_
              refine go_int kk120_1.1.2.1.1.1.2 2 rfl ?_
              refine go_callN3 kk120_1.1.2.1.1.2.1 rfl rfl rfl ⟨by decide, _, rfl, hK0⟩ ⟨Nat.zero_le _, Nat.zero_le _⟩ (by omega) (tfM_failsAt (by omega) e41 hK0  (inR_of (by decide))) (fun y50 g52 r51 e53 => ?_)
              exact go_bret kk120_1.1.2.1.1.2.2 e53 r51 ⟨Nat.zero_le _, Nat.zero_le _⟩ rfl
            · refine go_aload kk120_1.1.2.1.2.1.1 rfl ?_
              refine go_int kk120_1.1.2.1.2.1.2 2 rfl ?_
              refine go_int kk120_1.1.2.1.2.2 0 rfl ?_
              refine go_aload kk120_1.1.2.2.1.1.1 rfl ?_
              refine go_getR (bI := 0) kk120_1.1.2.2.1.1.2 e41 hK0 (by decide) rfl rfl (fun r54 => ?_)
              refine go_int kk120_1.1.2.2.1.2 0 rfl ?_
              refine go_ck (fun q56 => ?_)
              refine go_iald kk120_1.1.2.2.2.1.1 e41 q56 (fun r55 => ?_)
              refine go_int kk120_1.1.2.2.2.1.2 1 rfl ?_
              refine go_isub kk120_1.1.2.2.2.2 ?_
              refine go_callN3 kk120_1.2.1.1.1.1.1 rfl rfl rfl ⟨by decide, _, rfl, hK0⟩ ⟨Nat.zero_le _, Nat.zero_le _⟩ (by omega) (tfM_takes (by omega) e41 hK0  (inR_of (by decide)) (inR_b (Or.inl rfl)) (inR_w32 _)) (fun y57 g59 r58 e60 => ?_)
              refine go_ifeq kk120_1.2.1.1.1.1.2 (inR_b r58) (fun c61 => ?_) (fun c62 => ?_)
              · refine go_int kk120_1.2.1.1.1.2.1 0 rfl ?_
                exact go_bret kk120_1.2.1.1.1.2.2 e60 (Or.inl rfl) ⟨Nat.zero_le _, Nat.zero_le _⟩ rfl
              · refine go_aload kk120_1.2.1.1.2.1.1 rfl ?_
                refine go_getR (bI := 0) kk120_1.2.1.1.2.1.2 e60 hK0 (by decide) rfl rfl (fun r63 => ?_)
                refine go_int kk120_1.2.1.1.2.2 460 rfl ?_
                refine go_int kk120_1.2.1.2.1.1.1 8 rfl ?_
                refine go_aload kk120_1.2.1.2.1.1.2 rfl ?_
                refine go_getR (bI := 20) kk120_1.2.1.2.1.2 e60 hK0 (by decide) rfl rfl (fun r64 => ?_)
                refine go_int kk120_1.2.1.2.2.1.1 0 rfl ?_
                refine go_ck (fun q66 => ?_)
                refine go_iald kk120_1.2.1.2.2.1.2 e60 q66 (fun r65 => ?_)
                refine go_ibin kk120_1.2.1.2.2.2 ?_
                refine go_iadd kk120_1.2.2.1.1.1.1 ?_
                refine go_aload kk120_1.2.2.1.1.1.2 rfl ?_
                refine go_getR (bI := 20) kk120_1.2.2.1.1.2.1 e60 hK0 (by decide) rfl rfl (fun r67 => ?_)
                refine go_int kk120_1.2.2.1.1.2.2 1 rfl ?_
                refine go_ck (fun q69 => ?_)
                refine go_iald kk120_1.2.2.1.2.1.1 e60 q69 (fun r68 => ?_)
                refine go_iadd kk120_1.2.2.1.2.1.2 ?_
                refine go_aload kk120_1.2.2.1.2.2 rfl ?_
                refine go_getR (bI := 20) kk120_1.2.2.2.1.1.1 e60 hK0 (by decide) rfl rfl (fun r70 => ?_)
                refine go_int kk120_1.2.2.2.1.1.2 2 rfl ?_
                refine go_ck (fun q72 => ?_)
                refine go_iald kk120_1.2.2.2.1.2 e60 q72 (fun r71 => ?_)
                refine go_ck (fun q73 => ?_)
                refine go_iast kk120_1.2.2.2.2.1.1 e60 q73 r71 (fun g74 e75 => ?_)
                refine go_int kk120_1.2.2.2.2.1.2 1 rfl ?_
                exact go_bret kk120_1.2.2.2.2.2 e75 (Or.inr rfl) ⟨Nat.zero_le _, Nat.zero_le _⟩ rfl
      · refine go_aload kk120_0.2.1.2.2.1.1 rfl ?_
        refine go_int kk120_0.2.1.2.2.1.2 3 rfl ?_
        refine go_callN3 kk120_0.2.1.2.2.2 rfl rfl rfl ⟨by decide, _, rfl, hK0⟩ ⟨Nat.zero_le _, Nat.zero_le _⟩ (by omega) (tfM_failsAt (by omega) e17 hK0  (inR_of (by decide))) (fun y76 g78 r77 e79 => ?_)
        exact go_bret kk120_0.2.2.1.1.1.1 e79 r77 ⟨Nat.zero_le _, Nat.zero_le _⟩ rfl
theorem tfM_ruleHere {Φ : ev_P} {d : Nat} (hd : 2 ≤ d) {g : gH} (hg : HR g) {v0 : Int} (hK0 : kd v0 = 7) : Go Φ pr_P (fP g) 1 (fM_ruleHere g v0) d (pr_P 117) 0 (ev_loc (pr_P 117).1 [(sR v0)]) [] g 0 0 := by
  show Go Φ pr_P (fP g) 1 (fM_ruleHere g v0) d pr_m117 0 [some (sR v0)] [] g 0 0
  unfold fM_ruleHere
  refine go_aload kk117_0.1.1.1.1.1 rfl ?_
  refine go_ldcs kk117_0.1.1.1.1.2 (by decide) (x := 2000021) rfl ?_
  refine go_callP3 kk117_0.1.1.1.2.1 rfl rfl rfl ⟨by decide, _, rfl, hK0⟩ ⟨Nat.zero_le _, Nat.zero_le _⟩ (by omega) (tfM_isWord (by omega) hg hK0 ) (fun y1 r2 => ?_)
  refine go_ifeq kk117_0.1.1.1.2.2 (inR_b r2) (fun c5 => ?_) (fun c6 => ?_)
  · refine go_aload kk117_0.1.1.2.2.1 rfl ?_
    refine go_ldcs kk117_0.1.1.2.2.2 (by decide) (x := 2000022) rfl ?_
    refine go_callP3 kk117_0.1.2.1.1.1 rfl rfl rfl ⟨by decide, _, rfl, hK0⟩ ⟨Nat.zero_le _, Nat.zero_le _⟩ (by omega) (tfM_isWord (by omega) hg hK0 ) (fun y7 r8 => ?_)
    refine go_ifeq kk117_0.1.2.1.1.2 (inR_b r8) (fun c11 => ?_) (fun c12 => ?_)
    · refine go_aload kk117_0.1.2.2.1.1 rfl ?_
      refine go_ldcs kk117_0.1.2.2.1.2 (by decide) (x := 2000023) rfl ?_
      refine go_callP3 kk117_0.1.2.2.2.1 rfl rfl rfl ⟨by decide, _, rfl, hK0⟩ ⟨Nat.zero_le _, Nat.zero_le _⟩ (by omega) (tfM_isWord (by omega) hg hK0 ) (fun y13 r14 => ?_)
      refine go_ifeq kk117_0.1.2.2.2.2 (inR_b r14) (fun c17 => ?_) (fun c18 => ?_)
      · refine go_aload kk117_0.2.1.1.2.1 rfl ?_
        refine go_ldcs kk117_0.2.1.1.2.2 (by decide) (x := 2000024) rfl ?_
        refine go_callP3 kk117_0.2.1.2.1.1 rfl rfl rfl ⟨by decide, _, rfl, hK0⟩ ⟨Nat.zero_le _, Nat.zero_le _⟩ (by omega) (tfM_isWord (by omega) hg hK0 ) (fun y19 r20 => ?_)
        refine go_ifeq kk117_0.2.1.2.1.2 (inR_b r20) (fun c23 => ?_) (fun c24 => ?_)
        · refine go_aload kk117_0.2.2.1.1.1 rfl ?_
          refine go_ldcs kk117_0.2.2.1.1.2 (by decide) (x := 2000025) rfl ?_
          refine go_callP3 kk117_0.2.2.1.2.1 rfl rfl rfl ⟨by decide, _, rfl, hK0⟩ ⟨Nat.zero_le _, Nat.zero_le _⟩ (by omega) (tfM_isWord (by omega) hg hK0 ) (fun y25 r26 => ?_)
          refine go_ifeq kk117_0.2.2.1.2.2 (inR_b r26) (fun c29 => ?_) (fun c30 => ?_)
          · refine go_int kk117_0.2.2.2.2.1 (-1) rfl ?_
            exact go_iret kk117_0.2.2.2.2.2 hg (inR_of (by decide)) ⟨Nat.zero_le _, Nat.zero_le _⟩ rfl
          · refine go_int kk117_0.2.2.2.1.1 4 rfl ?_
            refine go_goto kk117_0.2.2.2.1.2 ?_
            exact go_iret kk117_0.2.2.2.2.2 hg (inR_of (by decide)) ⟨Nat.zero_le _, Nat.zero_le _⟩ rfl
        · refine go_int kk117_0.2.1.2.2.1 3 rfl ?_
          exact go_iret kk117_0.2.1.2.2.2 hg (inR_of (by decide)) ⟨Nat.zero_le _, Nat.zero_le _⟩ rfl
      · refine go_int kk117_0.2.1.1.1.1 2 rfl ?_
        exact go_iret kk117_0.2.1.1.1.2 hg (inR_of (by decide)) ⟨Nat.zero_le _, Nat.zero_le _⟩ rfl
    · refine go_int kk117_0.1.2.1.2.1 1 rfl ?_
      exact go_iret kk117_0.1.2.1.2.2 hg (inR_b (Or.inr rfl)) ⟨Nat.zero_le _, Nat.zero_le _⟩ rfl
  · refine go_int kk117_0.1.1.2.1.1 0 rfl ?_
    exact go_iret kk117_0.1.1.2.1.2 hg (inR_b (Or.inl rfl)) ⟨Nat.zero_le _, Nat.zero_le _⟩ rfl
theorem tbM_readOrder_19 {Φ : ev_P} {d : Nat} (hd : 3 ≤ d) {v0 : Int} (hK0 : kd v0 = 7) {X19 : Int → gH → Option (Int × gH)} (HX19 : ∀ (v1 : Int) (h1 : InR v1) (g : gH) (hg : HR g) (u2 : Option ev_V) (w2 : nwo u2), Go Φ pr_P fN 3 (X19 v1 g) d pr_m121 19 [some (sR v0), some (sI v1), u2] [] g 0 0) : ∀ (v1 : Int) (h1 : InR v1) (g : gH) (hg : HR g) (u2 : Option ev_V) (w2 : nwo u2), Go Φ pr_P fN 3 (bM_readOrder_19 v0 X19 v1 g) d pr_m121 19 [some (sR v0), some (sI v1), u2] [] g 0 0 := by
  intro v1 h1 g hg u2 w2
  unfold bM_readOrder_19
  refine go_aload kk121_0.1.2.2.1.1 rfl ?_
  refine go_getI (bI := 18) kk121_0.1.2.2.1.2 hg hK0 (by decide) rfl rfl (fun r11 => ?_)
  refine go_int kk121_0.1.2.2.2.1 1 rfl ?_
  refine go_cmeq kk121_0.1.2.2.2.2 r11 (inR_b (Or.inr rfl)) (fun c12 => ?_) (fun c13 => ?_)
  · refine go_aload kk121_0.2.1.1.1.1 rfl ?_
    refine go_callP1 kk121_0.2.1.1.1.2 rfl rfl rfl ⟨by decide, _, rfl, hK0⟩ ⟨Nat.zero_le _, Nat.zero_le _⟩ (by omega) (tfM_ruleHere (by omega) hg hK0 ) (fun y14 r15 => ?_)
    refine go_istore kk121_0.2.1.1.2.1 rfl (loc2 := [some (sR v0), some (sI v1), some (sI y14)]) rfl ?_
    refine go_iload kk121_0.2.1.1.2.2 rfl ?_
    refine go_int kk121_0.2.1.2.1.1 (-1) rfl ?_
    refine go_cmeq kk121_0.2.1.2.1.2 r15 (inR_of (by decide)) (fun c18 => ?_) (fun c19 => ?_)
    · refine go_aload kk121_0.2.1.2.2.1 rfl ?_
      refine go_int kk121_0.2.1.2.2.2 1 rfl ?_
      refine go_callN3 kk121_0.2.2.1.1.1 rfl rfl rfl ⟨by decide, _, rfl, hK0⟩ ⟨Nat.zero_le _, Nat.zero_le _⟩ (by omega) (tfM_failsAt (by omega) hg hK0  (inR_b (Or.inr rfl))) (fun y20 g22 r21 e23 => ?_)
      exact go_bret kk121_0.2.2.1.1.2 e23 r21 ⟨Nat.zero_le _, Nat.zero_le _⟩ rfl
    · refine go_iload kk121_0.2.2.1.2.1 rfl ?_
      refine go_iload kk121_0.2.2.1.2.2 rfl ?_
      refine go_ibin kk121_0.2.2.2.1.1 ?_
      refine go_int kk121_0.2.2.2.1.2 1 rfl ?_
      refine go_ibin kk121_0.2.2.2.2.1 ?_
      refine go_int kk121_0.2.2.2.2.2 1 rfl ?_
      refine go_cmeq kk121_1.1.1.1.1.1.1 (inR_opI _ _ _) (inR_b (Or.inr rfl)) (fun c24 => ?_) (fun c25 => ?_)
      · refine go_aload kk121_1.1.1.1.1.1.2 rfl ?_
        refine go_int kk121_1.1.1.1.1.2 3 rfl ?_
        refine go_callN3 kk121_1.1.1.1.2.1 rfl rfl rfl ⟨by decide, _, rfl, hK0⟩ ⟨Nat.zero_le _, Nat.zero_le _⟩ (by omega) (tfM_failsAt (by omega) hg hK0  (inR_of (by decide))) (fun y26 g28 r27 e29 => ?_)
        exact go_bret kk121_1.1.1.1.2.2 e29 r27 ⟨Nat.zero_le _, Nat.zero_le _⟩ rfl
      · refine go_iload kk121_1.1.1.2.1.1 rfl ?_
        refine go_int kk121_1.1.1.2.1.2 1 rfl ?_
        refine go_iload kk121_1.1.1.2.2.1 rfl ?_
        refine go_ibin kk121_1.1.1.2.2.2 ?_
        refine go_ibin kk121_1.1.2.1.1.1 ?_
        refine go_istore kk121_1.1.2.1.1.2 rfl (loc2 := [some (sR v0), some (sI (opI 2 v1 (opI 4 1 y14))), some (sI y14)]) rfl ?_
        refine go_aload kk121_1.1.2.1.2.1 rfl ?_
        refine go_getR (bI := 0) kk121_1.1.2.1.2.2 hg hK0 (by decide) rfl rfl (fun r30 => ?_)
        refine go_int kk121_1.1.2.2.1.1 6 rfl ?_
        refine go_aload kk121_1.1.2.2.1.2 rfl ?_
        refine go_getR (bI := 0) kk121_1.1.2.2.2.1 hg hK0 (by decide) rfl rfl (fun r31 => ?_)
        refine go_int kk121_1.1.2.2.2.2 5 rfl ?_
        refine go_ck (fun q33 => ?_)
        refine go_iald kk121_1.2.1.1.1.1.1 hg q33 (fun r32 => ?_)
        refine go_iadd kk121_1.2.1.1.1.1.2 ?_
        refine go_iload kk121_1.2.1.1.1.2 rfl ?_
        refine go_ck (fun q34 => ?_)
        refine go_iast kk121_1.2.1.1.2.1 hg q34 r15 (fun g35 e36 => ?_)
        refine go_aload kk121_1.2.1.1.2.2 rfl ?_
        refine go_getR (bI := 0) kk121_1.2.1.2.1.1 e36 hK0 (by decide) rfl rfl (fun r37 => ?_)
        refine go_int kk121_1.2.1.2.1.2 5 rfl ?_
        refine go_dup2 kk121_1.2.1.2.2.1 ?_
        refine go_ck (fun q39 => ?_)
        refine go_iald kk121_1.2.1.2.2.2 e36 q39 (fun r38 => ?_)
        refine go_int kk121_1.2.2.1.1.1 1 rfl ?_
        refine go_iadd kk121_1.2.2.1.1.2 ?_
        refine go_ck (fun q40 => ?_)
        refine go_iast kk121_1.2.2.1.2.1 e36 q40 (inR_w32 _) (fun g41 e42 => ?_)
        refine go_aload kk121_1.2.2.1.2.2 rfl ?_
        refine go_callN0 kk121_1.2.2.2.1.1 rfl rfl rfl ⟨by decide, _, rfl, hK0⟩ ⟨Nat.zero_le _, Nat.zero_le _⟩ (by omega) (tfM_advanceToken (by omega) e42 hK0 ) (fun y43 g45 e46 => ?_)
        refine go_goto kk121_1.2.2.2.1.2 ?_
        exact HX19 (opI 2 v1 (opI 4 1 y14)) (inR_opI _ _ _) g45 e46 (some (sI y14)) rfl
  · refine go_int kk121_1.2.2.2.2.1 1 rfl ?_
    exact go_bret kk121_1.2.2.2.2.2 hg (Or.inr rfl) ⟨Nat.zero_le _, Nat.zero_le _⟩ rfl
theorem tlM_readOrder_19 {Φ : ev_P} {d : Nat} (hd : 3 ≤ d) {v0 : Int} (hK0 : kd v0 = 7) : ∀ n : Nat, ∀ (v1 : Int) (h1 : InR v1) (g : gH) (hg : HR g) (u2 : Option ev_V) (w2 : nwo u2), Go Φ pr_P fN 3 (lM_readOrder_19 v0 n v1 g) d pr_m121 19 [some (sR v0), some (sI v1), u2] [] g 0 0 := by
  intro n
  induction n with
  | zero => intros; exact go_none
  | succ n ih => exact tbM_readOrder_19 hd hK0 ih
theorem tfM_readOrder {Φ : ev_P} {d : Nat} (hd : 3 ≤ d) {g : gH} (hg : HR g) {v0 : Int} (hK0 : kd v0 = 7) : Go Φ pr_P fN 3 (fM_readOrder g v0) d (pr_P 121) 0 (ev_loc (pr_P 121).1 [(sR v0)]) [] g 0 0 := by
  show Go Φ pr_P fN 3 (fM_readOrder g v0) d pr_m121 0 [some (sR v0), none, none] [] g 0 0
  unfold fM_readOrder
  refine go_aload kk121_0.1.1.1.1.1.1 rfl ?_
  refine go_int kk121_0.1.1.1.1.1.2 1 rfl ?_
  refine go_callN3 kk121_0.1.1.1.1.2 rfl rfl rfl ⟨by decide, _, rfl, hK0⟩ ⟨Nat.zero_le _, Nat.zero_le _⟩ (by omega) (tfM_startsOnce (by omega) hg hK0  (inR_b (Or.inr rfl))) (fun y1 g3 r2 e4 => ?_)
  refine go_ifeq kk121_0.1.1.1.2.1 (inR_b r2) (fun c5 => ?_) (fun c6 => ?_)
  · refine go_int kk121_0.1.1.1.2.2 0 rfl ?_
    exact go_bret kk121_0.1.1.2.1.1 e4 (Or.inl rfl) ⟨Nat.zero_le _, Nat.zero_le _⟩ rfl
  · refine go_aload kk121_0.1.1.2.1.2 rfl ?_
    refine go_getR (bI := 0) kk121_0.1.1.2.2.1 e4 hK0 (by decide) rfl rfl (fun r7 => ?_)
    refine go_int kk121_0.1.1.2.2.2 5 rfl ?_
    refine go_int kk121_0.1.2.1.1.1 0 rfl ?_
    refine go_ck (fun q8 => ?_)
    refine go_iast kk121_0.1.2.1.1.2 e4 q8 (inR_b (Or.inl rfl)) (fun g9 e10 => ?_)
    refine go_int kk121_0.1.2.1.2.1 0 rfl ?_
    refine go_istore kk121_0.1.2.1.2.2 rfl (loc2 := [some (sR v0), some (sI 0), none]) rfl ?_
    exact tlM_readOrder_19 hd hK0 fu 0 (inR_b (Or.inl rfl)) g9 e10 none rfl
theorem tfM_runs {Φ : ev_P} {d : Nat} (hd : 0 ≤ d) {g : gH} (hg : HR g) {v0 v1 : Int} (hK0 : kd v0 = 7) (h1 : InR v1) : Go Φ pr_P (fP g) 3 (fM_runs g v0 v1) d (pr_P 83) 0 (ev_loc (pr_P 83).1 [(sR v0), (sI v1)]) [] g 0 0 := by
  show Go Φ pr_P (fP g) 3 (fM_runs g v0 v1) d pr_m83 0 [some (sR v0), some (sI v1)] [] g 0 0
  unfold fM_runs
  refine go_aload kk83_0.1.1.1.1 rfl ?_
  refine go_getR (bI := 0) kk83_0.1.1.1.2 hg hK0 (by decide) rfl rfl (fun r1 => ?_)
  refine go_int kk83_0.1.1.2 140 rfl ?_
  refine go_iload kk83_0.1.2.1.1 rfl ?_
  refine go_iadd kk83_0.1.2.1.2 ?_
  refine go_ck (fun q3 => ?_)
  refine go_iald kk83_0.1.2.2 hg q3 (fun r2 => ?_)
  refine go_ifeq kk83_0.2.1.1.1 r2 (fun c4 => ?_) (fun c5 => ?_)
  · refine go_int kk83_0.2.1.1.2 1 rfl ?_
    refine go_goto kk83_0.2.1.2 ?_
    exact go_bret kk83_0.2.2.2 hg (Or.inr rfl) ⟨Nat.zero_le _, Nat.zero_le _⟩ rfl
  · refine go_int kk83_0.2.2.1 0 rfl ?_
    exact go_bret kk83_0.2.2.2 hg (Or.inl rfl) ⟨Nat.zero_le _, Nat.zero_le _⟩ rfl
theorem tfM_isChild {Φ : ev_P} {d : Nat} (hd : 0 ≤ d) {g : gH} (hg : HR g) {v0 v1 v2 v3 : Int} (hK0 : kd v0 = 7) (h1 : InR v1) (h2 : InR v2) (h3 : InR v3) : Go Φ pr_P (fP g) 3 (fM_isChild g v0 v1 v2 v3) d (pr_P 84) 0 (ev_loc (pr_P 84).1 [(sR v0), (sI v1), (sI v2), (sI v3)]) [] g 0 0 := by
  show Go Φ pr_P (fP g) 3 (fM_isChild g v0 v1 v2 v3) d pr_m84 0 [some (sR v0), some (sI v1), some (sI v2), some (sI v3)] [] g 0 0
  unfold fM_isChild
  refine go_aload kk84_0.1.1.1.1.1 rfl ?_
  refine go_getR (bI := 0) kk84_0.1.1.1.1.2 hg hK0 (by decide) rfl rfl (fun r1 => ?_)
  refine go_int kk84_0.1.1.1.2 140 rfl ?_
  refine go_iload kk84_0.1.1.2.1.1 rfl ?_
  refine go_iadd kk84_0.1.1.2.1.2 ?_
  refine go_ck (fun q3 => ?_)
  refine go_iald kk84_0.1.1.2.2 hg q3 (fun r2 => ?_)
  refine go_iload kk84_0.1.2.1.1.1 rfl ?_
  refine go_cmeq kk84_0.1.2.1.1.2 r2 h3 (fun c4 => ?_) (fun c5 => ?_)
  · refine go_aload kk84_0.1.2.1.2 rfl ?_
    refine go_getR (bI := 0) kk84_0.1.2.2.1 hg hK0 (by decide) rfl rfl (fun r6 => ?_)
    refine go_int kk84_0.1.2.2.2 60 rfl ?_
    refine go_iload kk84_0.2.1.1.1.1 rfl ?_
    refine go_iadd kk84_0.2.1.1.1.2 ?_
    refine go_ck (fun q8 => ?_)
    refine go_iald kk84_0.2.1.1.2 hg q8 (fun r7 => ?_)
    refine go_iload kk84_0.2.1.2.1.1 rfl ?_
    refine go_cmeq kk84_0.2.1.2.1.2 r7 h2 (fun c9 => ?_) (fun c10 => ?_)
    · refine go_iload kk84_0.2.1.2.2 rfl ?_
      refine go_ifeq kk84_0.2.2.1.1.1 h1 (fun c11 => ?_) (fun c12 => ?_)
      · refine go_int kk84_0.2.2.2.1 0 rfl ?_
        exact go_bret kk84_0.2.2.2.2 hg (Or.inl rfl) ⟨Nat.zero_le _, Nat.zero_le _⟩ rfl
      · refine go_int kk84_0.2.2.1.1.2 1 rfl ?_
        refine go_goto kk84_0.2.2.1.2 ?_
        exact go_bret kk84_0.2.2.2.2 hg (Or.inr rfl) ⟨Nat.zero_le _, Nat.zero_le _⟩ rfl
    · refine go_int kk84_0.2.2.2.1 0 rfl ?_
      exact go_bret kk84_0.2.2.2.2 hg (Or.inl rfl) ⟨Nat.zero_le _, Nat.zero_le _⟩ rfl
  · refine go_int kk84_0.2.2.2.1 0 rfl ?_
    exact go_bret kk84_0.2.2.2.2 hg (Or.inl rfl) ⟨Nat.zero_le _, Nat.zero_le _⟩ rfl
theorem tbM_childrenOf_5 {Φ : ev_P} {d : Nat} (hd : 1 ≤ d) {g : gH} (hg : HR g) {v0 v1 v2 : Int} (hK0 : kd v0 = 7) (h1 : InR v1) (h2 : InR v2) {X5 : Int → Int → Option Int} (HX5 : ∀ (v3 : Int) (h3 : InR v3) (v4 : Int) (h4 : InR v4), Go Φ pr_P (fP g) 1 (X5 v3 v4) d pr_m85 5 [some (sR v0), some (sI v1), some (sI v2), some (sI v3), some (sI v4)] [] g 0 0) : ∀ (v3 : Int) (h3 : InR v3) (v4 : Int) (h4 : InR v4), Go Φ pr_P (fP g) 1 (bM_childrenOf_5 g v0 v1 v2 X5 v3 v4) d pr_m85 5 [some (sR v0), some (sI v1), some (sI v2), some (sI v3), some (sI v4)] [] g 0 0 := by
  intro v3 h3 v4 h4
  unfold bM_childrenOf_5
  refine go_iload kk85_0.1.1.2.1.1 rfl ?_
  refine go_aload kk85_0.1.1.2.1.2 rfl ?_
  refine go_getR (bI := 0) kk85_0.1.1.2.2 hg hK0 (by decide) rfl rfl (fun r1 => ?_)
  refine go_int kk85_0.1.2.1.1.1 0 rfl ?_
  refine go_ck (fun q3 => ?_)
  refine go_iald kk85_0.1.2.1.1.2 hg q3 (fun r2 => ?_)
  refine go_cmlt kk85_0.1.2.1.2 h4 r2 (fun c4 => ?_) (fun c5 => ?_)
  · refine go_iload kk85_0.1.2.2.1.1 rfl ?_
    refine go_aload kk85_0.1.2.2.1.2 rfl ?_
    refine go_iload kk85_0.1.2.2.2 rfl ?_
    refine go_iload kk85_0.2.1.1.1.1 rfl ?_
    refine go_iload kk85_0.2.1.1.1.2 rfl ?_
    refine go_callP3 kk85_0.2.1.1.2.1 rfl rfl rfl ⟨by decide, _, rfl, hK0⟩ ⟨Nat.zero_le _, Nat.zero_le _⟩ (by omega) (tfM_isChild (by omega) hg hK0  h4 h1 h2) (fun y6 r7 => ?_)
    refine go_ifeq kk85_0.2.1.1.2.2 (inR_b r7) (fun c10 => ?_) (fun c11 => ?_)
    · refine go_int kk85_0.2.1.2.2 0 rfl ?_
      refine go_iadd kk85_0.2.2.1.1.1 ?_
      refine go_istore kk85_0.2.2.1.1.2 rfl (loc2 := [some (sR v0), some (sI v1), some (sI v2), some (sI (w32 (v3 + 0))), some (sI v4)]) rfl ?_
      refine go_iinc kk85_0.2.2.1.2 rfl rfl 1 rfl (loc2 := [some (sR v0), some (sI v1), some (sI v2), some (sI (w32 (v3 + 0))), some (sI (w32 (v4 + 1)))]) rfl ?_
      refine go_goto kk85_0.2.2.2.1.1 ?_
      exact HX5 (w32 (v3 + 0)) (inR_w32 _) (w32 (v4 + 1)) (inR_w32 _)
    · refine go_int kk85_0.2.1.2.1.1 1 rfl ?_
      refine go_goto kk85_0.2.1.2.1.2 ?_
      refine go_iadd kk85_0.2.2.1.1.1 ?_
      refine go_istore kk85_0.2.2.1.1.2 rfl (loc2 := [some (sR v0), some (sI v1), some (sI v2), some (sI (w32 (v3 + 1))), some (sI v4)]) rfl ?_
      refine go_iinc kk85_0.2.2.1.2 rfl rfl 1 rfl (loc2 := [some (sR v0), some (sI v1), some (sI v2), some (sI (w32 (v3 + 1))), some (sI (w32 (v4 + 1)))]) rfl ?_
      refine go_goto kk85_0.2.2.2.1.1 ?_
      exact HX5 (w32 (v3 + 1)) (inR_w32 _) (w32 (v4 + 1)) (inR_w32 _)
  · refine go_iload kk85_0.2.2.2.1.2 rfl ?_
    exact go_iret kk85_0.2.2.2.2 hg h3 ⟨Nat.zero_le _, Nat.zero_le _⟩ rfl
theorem tlM_childrenOf_5 {Φ : ev_P} {d : Nat} (hd : 1 ≤ d) {g : gH} (hg : HR g) {v0 v1 v2 : Int} (hK0 : kd v0 = 7) (h1 : InR v1) (h2 : InR v2) : ∀ n : Nat, ∀ (v3 : Int) (h3 : InR v3) (v4 : Int) (h4 : InR v4), Go Φ pr_P (fP g) 1 (lM_childrenOf_5 g v0 v1 v2 n v3 v4) d pr_m85 5 [some (sR v0), some (sI v1), some (sI v2), some (sI v3), some (sI v4)] [] g 0 0 := by
  intro n
  induction n with
  | zero => intros; exact go_none
  | succ n ih => exact tbM_childrenOf_5 hd hg hK0 h1 h2 ih
theorem tfM_childrenOf {Φ : ev_P} {d : Nat} (hd : 1 ≤ d) {g : gH} (hg : HR g) {v0 v1 v2 : Int} (hK0 : kd v0 = 7) (h1 : InR v1) (h2 : InR v2) : Go Φ pr_P (fP g) 1 (fM_childrenOf g v0 v1 v2) d (pr_P 85) 0 (ev_loc (pr_P 85).1 [(sR v0), (sI v1), (sI v2)]) [] g 0 0 := by
  show Go Φ pr_P (fP g) 1 (fM_childrenOf g v0 v1 v2) d pr_m85 0 [some (sR v0), some (sI v1), some (sI v2), none, none] [] g 0 0
  unfold fM_childrenOf
  refine go_int kk85_0.1.1.1.1.1 0 rfl ?_
  refine go_istore kk85_0.1.1.1.1.2 rfl (loc2 := [some (sR v0), some (sI v1), some (sI v2), some (sI 0), none]) rfl ?_
  refine go_int kk85_0.1.1.1.2.1 0 rfl ?_
  refine go_istore kk85_0.1.1.1.2.2 rfl (loc2 := [some (sR v0), some (sI v1), some (sI v2), some (sI 0), some (sI 0)]) rfl ?_
  exact tlM_childrenOf_5 hd hg hK0 h1 h2 fu 0 (inR_b (Or.inl rfl)) 0 (inR_b (Or.inl rfl))
theorem tfM_roomOf {Φ : ev_P} {d : Nat} (hd : 2 ≤ d) {g : gH} (hg : HR g) {v0 v1 : Int} (hK0 : kd v0 = 7) (h1 : InR v1) : Go Φ pr_P (fP g) 1 (fM_roomOf g v0 v1) d (pr_P 86) 0 (ev_loc (pr_P 86).1 [(sR v0), (sI v1)]) [] g 0 0 := by
  show Go Φ pr_P (fP g) 1 (fM_roomOf g v0 v1) d pr_m86 0 [some (sR v0), some (sI v1)] [] g 0 0
  unfold fM_roomOf
  refine go_aload kk86_0.1.1.1.1.1 rfl ?_
  refine go_iload kk86_0.1.1.1.1.2 rfl ?_
  refine go_callP3 kk86_0.1.1.1.2 rfl rfl rfl ⟨by decide, _, rfl, hK0⟩ ⟨Nat.zero_le _, Nat.zero_le _⟩ (by omega) (tfM_runs (by omega) hg hK0  h1) (fun y1 r2 => ?_)
  refine go_ifeq kk86_0.1.1.2.1 (inR_b r2) (fun c5 => ?_) (fun c6 => ?_)
  · refine go_int kk86_0.2.2.2.1 0 rfl ?_
    exact go_iret kk86_0.2.2.2.2 hg (inR_b (Or.inl rfl)) ⟨Nat.zero_le _, Nat.zero_le _⟩ rfl
  · refine go_int kk86_0.1.1.2.2 0 rfl ?_
    refine go_aload kk86_0.1.2.1.1.1 rfl ?_
    refine go_getR (bI := 0) kk86_0.1.2.1.1.2 hg hK0 (by decide) rfl rfl (fun r7 => ?_)
    refine go_int kk86_0.1.2.1.2 100 rfl ?_
    refine go_iload kk86_0.1.2.2.1 rfl ?_
    refine go_iadd kk86_0.1.2.2.2 ?_
    refine go_ck (fun q9 => ?_)
    refine go_iald kk86_0.2.1.1.1.1 hg q9 (fun r8 => ?_)
    refine go_aload kk86_0.2.1.1.1.2 rfl ?_
    refine go_iload kk86_0.2.1.1.2 rfl ?_
    refine go_int kk86_0.2.1.2.1 0 rfl ?_
    refine go_callP1 kk86_0.2.1.2.2 rfl rfl rfl ⟨by decide, _, rfl, hK0⟩ ⟨Nat.zero_le _, Nat.zero_le _⟩ (by omega) (tfM_childrenOf (by omega) hg hK0  h1 (inR_b (Or.inl rfl))) (fun y10 r11 => ?_)
    refine go_isub kk86_0.2.2.1.1.1 ?_
    refine go_max kk86_0.2.2.1.1.2 (inR_b (Or.inl rfl)) (inR_w32 _) rfl ⟨Nat.zero_le _, Nat.zero_le _⟩ ?_
    refine go_goto kk86_0.2.2.1.2 ?_
    exact go_iret kk86_0.2.2.2.2 hg (inR_gmax (inR_b (Or.inl rfl)) (inR_w32 _)) ⟨Nat.zero_le _, Nat.zero_le _⟩ rfl
theorem tfM_readProcess {Φ : ev_P} {d : Nat} (hd : 3 ≤ d) {g : gH} (hg : HR g) {v0 : Int} (hK0 : kd v0 = 7) : Go Φ pr_P fN 3 (fM_readProcess g v0) d (pr_P 122) 0 (ev_loc (pr_P 122).1 [(sR v0)]) [] g 0 0 := by
  show Go Φ pr_P fN 3 (fM_readProcess g v0) d pr_m122 0 [some (sR v0)] [] g 0 0
  unfold fM_readProcess
  refine go_aload kk122_0.1.1.1.1.1.1 rfl ?_
  refine go_getR (bI := 0) kk122_0.1.1.1.1.1.2 hg hK0 (by decide) rfl rfl (fun r1 => ?_)
  refine go_int kk122_0.1.1.1.1.2 0 rfl ?_
  refine go_ck (fun q3 => ?_)
  refine go_iald kk122_0.1.1.1.2.1.1 hg q3 (fun r2 => ?_)
  refine go_int kk122_0.1.1.1.2.1.2 24 rfl ?_
  refine go_cmgt kk122_0.1.1.1.2.2 r2 (inR_of (by decide)) (fun c4 => ?_) (fun c5 => ?_)
  · refine go_aload kk122_0.1.1.2.1.1.1 rfl ?_
    refine go_int kk122_0.1.1.2.1.1.2 4 rfl ?_
    refine go_callN3 kk122_0.1.1.2.1.2 rfl rfl rfl ⟨by decide, _, rfl, hK0⟩ ⟨Nat.zero_le _, Nat.zero_le _⟩ (by omega) (tfM_failsAt (by omega) hg hK0  (inR_of (by decide))) (fun y6 g8 r7 e9 => ?_)
    exact go_bret kk122_0.1.1.2.2.1 e9 r7 ⟨Nat.zero_le _, Nat.zero_le _⟩ rfl
  · refine go_aload kk122_0.1.1.2.2.2 rfl ?_
    refine go_callN0 kk122_0.1.2.1.1.1.1 rfl rfl rfl ⟨by decide, _, rfl, hK0⟩ ⟨Nat.zero_le _, Nat.zero_le _⟩ (by omega) (tfM_advanceToken (by omega) hg hK0 ) (fun y10 g12 e13 => ?_)
    refine go_aload kk122_0.1.2.1.1.1.2 rfl ?_
    refine go_int kk122_0.1.2.1.1.2 0 rfl ?_
    refine go_aload kk122_0.1.2.1.2.1 rfl ?_
    refine go_getR (bI := 0) kk122_0.1.2.1.2.2 e13 hK0 (by decide) rfl rfl (fun r14 => ?_)
    refine go_int kk122_0.1.2.2.1.1.1 0 rfl ?_
    refine go_ck (fun q16 => ?_)
    refine go_iald kk122_0.1.2.2.1.1.2 e13 q16 (fun r15 => ?_)
    refine go_int kk122_0.1.2.2.1.2 1 rfl ?_
    refine go_isub kk122_0.1.2.2.2.1 ?_
    refine go_callN3 kk122_0.1.2.2.2.2 rfl rfl rfl ⟨by decide, _, rfl, hK0⟩ ⟨Nat.zero_le _, Nat.zero_le _⟩ (by omega) (tfM_isNumber (by omega) e13 hK0  (inR_b (Or.inl rfl)) (inR_w32 _)) (fun y17 g19 r18 e20 => ?_)
    refine go_ifeq kk122_0.2.1.1.1.1.1 (inR_b r18) (fun c21 => ?_) (fun c22 => ?_)
    · refine go_int kk122_0.2.1.1.1.1.2 0 rfl ?_
      exact go_bret kk122_0.2.1.1.1.2 e20 (Or.inl rfl) ⟨Nat.zero_le _, Nat.zero_le _⟩ rfl
    · refine go_aload kk122_0.2.1.1.2.1.1 rfl ?_
      refine go_aload kk122_0.2.1.1.2.1.2 rfl ?_
      refine go_getI (bI := 17) kk122_0.2.1.1.2.2 e20 hK0 (by decide) rfl rfl (fun r23 => ?_)
      refine go_callP1 kk122_0.2.1.2.1.1.1 rfl rfl rfl ⟨by decide, _, rfl, hK0⟩ ⟨Nat.zero_le _, Nat.zero_le _⟩ (by omega) (tfM_roomOf (by omega) e20 hK0  r23) (fun y24 r25 => ?_)
      refine go_ifeq kk122_0.2.1.2.1.1.2 r25 (fun c28 => ?_) (fun c29 => ?_)
      · refine go_aload kk122_0.2.1.2.1.2 rfl ?_
        refine go_int kk122_0.2.1.2.2.1 2 rfl ?_
        refine go_callN3 kk122_0.2.1.2.2.2 rfl rfl rfl ⟨by decide, _, rfl, hK0⟩ ⟨Nat.zero_le _, Nat.zero_le _⟩ (by omega) (tfM_failsAt (by omega) e20 hK0  (inR_of (by decide))) (fun y30 g32 r31 e33 => ?_)
        exact go_bret kk122_0.2.2.1.1.1.1 e33 r31 ⟨Nat.zero_le _, Nat.zero_le _⟩ rfl
      · refine go_aload kk122_0.2.2.1.1.1.2 rfl ?_
        refine go_int kk122_0.2.2.1.1.2 0 rfl ?_
        refine go_int kk122_0.2.2.1.2.1 0 rfl ?_
        refine go_aload kk122_0.2.2.1.2.2 rfl ?_
        refine go_getR (bI := 0) kk122_0.2.2.2.1.1.1 e20 hK0 (by decide) rfl rfl (fun r34 => ?_)
        refine go_int kk122_0.2.2.2.1.1.2 0 rfl ?_
        refine go_ck (fun q36 => ?_)
        refine go_iald kk122_0.2.2.2.1.2 e20 q36 (fun r35 => ?_)
        refine go_int kk122_0.2.2.2.2.1 1 rfl ?_
        refine go_isub kk122_0.2.2.2.2.2 ?_
        refine go_callN3 kk122_1.1.1.1.1.1.1 rfl rfl rfl ⟨by decide, _, rfl, hK0⟩ ⟨Nat.zero_le _, Nat.zero_le _⟩ (by omega) (tfM_takes (by omega) e20 hK0  (inR_b (Or.inl rfl)) (inR_b (Or.inl rfl)) (inR_w32 _)) (fun y37 g39 r38 e40 => ?_)
        refine go_ifeq kk122_1.1.1.1.1.1.2 (inR_b r38) (fun c41 => ?_) (fun c42 => ?_)
        · refine go_int kk122_1.1.2.2.2.1 0 rfl ?_
          exact go_bret kk122_1.1.2.2.2.2 e40 (Or.inl rfl) ⟨Nat.zero_le _, Nat.zero_le _⟩ rfl
        · refine go_aload kk122_1.1.1.1.1.2 rfl ?_
          refine go_int kk122_1.1.1.1.2.1.1 1 rfl ?_
          refine go_int kk122_1.1.1.1.2.1.2 0 rfl ?_
          refine go_int kk122_1.1.1.1.2.2 9 rfl ?_
          refine go_callN3 kk122_1.1.1.2.1.1.1 rfl rfl rfl ⟨by decide, _, rfl, hK0⟩ ⟨Nat.zero_le _, Nat.zero_le _⟩ (by omega) (tfM_takes (by omega) e40 hK0  (inR_b (Or.inr rfl)) (inR_b (Or.inl rfl)) (inR_of (by decide))) (fun y43 g45 r44 e46 => ?_)
          refine go_ifeq kk122_1.1.1.2.1.1.2 (inR_b r44) (fun c47 => ?_) (fun c48 => ?_)
          · refine go_int kk122_1.1.2.2.2.1 0 rfl ?_
            exact go_bret kk122_1.1.2.2.2.2 e46 (Or.inl rfl) ⟨Nat.zero_le _, Nat.zero_le _⟩ rfl
          · refine go_aload kk122_1.1.1.2.1.2 rfl ?_
            refine go_int kk122_1.1.1.2.2.1 2 rfl ?_
            refine go_int kk122_1.1.1.2.2.2 0 rfl ?_
            refine go_int kk122_1.1.2.1.1.1.1 9 rfl ?_
            refine go_callN3 kk122_1.1.2.1.1.1.2 rfl rfl rfl ⟨by decide, _, rfl, hK0⟩ ⟨Nat.zero_le _, Nat.zero_le _⟩ (by omega) (tfM_takes (by omega) e46 hK0  (inR_of (by decide)) (inR_b (Or.inl rfl)) (inR_of (by decide))) (fun y49 g51 r50 e52 => ?_)
            refine go_ifeq kk122_1.1.2.1.1.2 (inR_b r50) (fun c53 => ?_) (fun c54 => ?_)
            · refine go_int kk122_1.1.2.2.2.1 0 rfl ?_
              exact go_bret kk122_1.1.2.2.2.2 e52 (Or.inl rfl) ⟨Nat.zero_le _, Nat.zero_le _⟩ rfl
            · refine go_aload kk122_1.1.2.1.2.1.1 rfl ?_
              refine go_int kk122_1.1.2.1.2.1.2 3 rfl ?_
              refine go_int kk122_1.1.2.1.2.2 0 rfl ?_
              refine go_int kk122_1.1.2.2.1.1.1 9 rfl ?_
              refine go_callN3 kk122_1.1.2.2.1.1.2 rfl rfl rfl ⟨by decide, _, rfl, hK0⟩ ⟨Nat.zero_le _, Nat.zero_le _⟩ (by omega) (tfM_takes (by omega) e52 hK0  (inR_of (by decide)) (inR_b (Or.inl rfl)) (inR_of (by decide))) (fun y55 g57 r56 e58 => ?_)
              refine go_ifeq kk122_1.1.2.2.1.2 (inR_b r56) (fun c59 => ?_) (fun c60 => ?_)
              · refine go_int kk122_1.1.2.2.2.1 0 rfl ?_
                exact go_bret kk122_1.1.2.2.2.2 e58 (Or.inl rfl) ⟨Nat.zero_le _, Nat.zero_le _⟩ rfl
              · refine go_aload kk122_1.2.1.1.1.1.1 rfl ?_
                refine go_aload kk122_1.2.1.1.1.1.2 rfl ?_
                refine go_getR (bI := 20) kk122_1.2.1.1.1.2 e58 hK0 (by decide) rfl rfl (fun r61 => ?_)
                refine go_int kk122_1.2.1.1.2.1.1 0 rfl ?_
                refine go_ck (fun q63 => ?_)
                refine go_iald kk122_1.2.1.1.2.1.2 e58 q63 (fun r62 => ?_)
                refine go_aload kk122_1.2.1.1.2.2 rfl ?_
                refine go_getR (bI := 20) kk122_1.2.1.2.1.1.1 e58 hK0 (by decide) rfl rfl (fun r64 => ?_)
                refine go_int kk122_1.2.1.2.1.1.2 1 rfl ?_
                refine go_ck (fun q66 => ?_)
                refine go_iald kk122_1.2.1.2.1.2 e58 q66 (fun r65 => ?_)
                refine go_aload kk122_1.2.1.2.2.1 rfl ?_
                refine go_getR (bI := 20) kk122_1.2.1.2.2.2 e58 hK0 (by decide) rfl rfl (fun r67 => ?_)
                refine go_int kk122_1.2.2.1.1.1.1 2 rfl ?_
                refine go_ck (fun q69 => ?_)
                refine go_iald kk122_1.2.2.1.1.1.2 e58 q69 (fun r68 => ?_)
                refine go_aload kk122_1.2.2.1.1.2 rfl ?_
                refine go_getR (bI := 20) kk122_1.2.2.1.2.1 e58 hK0 (by decide) rfl rfl (fun r70 => ?_)
                refine go_int kk122_1.2.2.1.2.2 3 rfl ?_
                refine go_ck (fun q72 => ?_)
                refine go_iald kk122_1.2.2.2.1.1.1 e58 q72 (fun r71 => ?_)
                refine go_callN1 kk122_1.2.2.2.1.1.2 rfl rfl rfl ⟨by decide, _, rfl, hK0⟩ ⟨Nat.zero_le _, Nat.zero_le _⟩ (by omega) (tfM_comes (by omega) e58 hK0  r62 r65 r68 r71) (fun y73 g75 r74 e76 => ?_)
                refine go_popI kk122_1.2.2.2.1.2 ?_
                refine go_int kk122_1.2.2.2.2.1 1 rfl ?_
                exact go_bret kk122_1.2.2.2.2.2 e76 (Or.inr rfl) ⟨Nat.zero_le _, Nat.zero_le _⟩ rfl
theorem tfM_readHeir {Φ : ev_P} {d : Nat} (hd : 3 ≤ d) {g : gH} (hg : HR g) {v0 : Int} (hK0 : kd v0 = 7) : Go Φ pr_P fN 3 (fM_readHeir g v0) d (pr_P 123) 0 (ev_loc (pr_P 123).1 [(sR v0)]) [] g 0 0 := by
  show Go Φ pr_P fN 3 (fM_readHeir g v0) d pr_m123 0 [some (sR v0)] [] g 0 0
  unfold fM_readHeir
  refine go_aload kk123_0.1.1.1.1.1.1 rfl ?_
  refine go_callN0 kk123_0.1.1.1.1.1.2 rfl rfl rfl ⟨by decide, _, rfl, hK0⟩ ⟨Nat.zero_le _, Nat.zero_le _⟩ (by omega) (tfM_advanceToken (by omega) hg hK0 ) (fun y1 g3 e4 => ?_)
  refine go_aload kk123_0.1.1.1.1.2 rfl ?_
  refine go_int kk123_0.1.1.1.2.1.1 1 rfl ?_
  refine go_aload kk123_0.1.1.1.2.1.2 rfl ?_
  refine go_getR (bI := 0) kk123_0.1.1.1.2.2 e4 hK0 (by decide) rfl rfl (fun r5 => ?_)
  refine go_int kk123_0.1.1.2.1.1.1 0 rfl ?_
  refine go_ck (fun q7 => ?_)
  refine go_iald kk123_0.1.1.2.1.1.2 e4 q7 (fun r6 => ?_)
  refine go_int kk123_0.1.1.2.1.2 1 rfl ?_
  refine go_isub kk123_0.1.1.2.2.1.1 ?_
  refine go_callN3 kk123_0.1.1.2.2.1.2 rfl rfl rfl ⟨by decide, _, rfl, hK0⟩ ⟨Nat.zero_le _, Nat.zero_le _⟩ (by omega) (tfM_isNumber (by omega) e4 hK0  (inR_b (Or.inr rfl)) (inR_w32 _)) (fun y8 g10 r9 e11 => ?_)
  refine go_ifeq kk123_0.1.1.2.2.2 (inR_b r9) (fun c12 => ?_) (fun c13 => ?_)
  · refine go_int kk123_0.1.2.1.1.1.1 0 rfl ?_
    exact go_bret kk123_0.1.2.1.1.1.2 e11 (Or.inl rfl) ⟨Nat.zero_le _, Nat.zero_le _⟩ rfl
  · refine go_aload kk123_0.1.2.1.1.2 rfl ?_
    refine go_getR (bI := 0) kk123_0.1.2.1.2.1.1 e11 hK0 (by decide) rfl rfl (fun r14 => ?_)
    refine go_int kk123_0.1.2.1.2.1.2 260 rfl ?_
    refine go_aload kk123_0.1.2.1.2.2 rfl ?_
    refine go_getI (bI := 17) kk123_0.1.2.2.1.1.1 e11 hK0 (by decide) rfl rfl (fun r15 => ?_)
    refine go_iadd kk123_0.1.2.2.1.1.2 ?_
    refine go_ck (fun q17 => ?_)
    refine go_iald kk123_0.1.2.2.1.2 e11 q17 (fun r16 => ?_)
    refine go_int kk123_0.1.2.2.2.1 (-1) rfl ?_
    refine go_cmeq kk123_0.1.2.2.2.2 r16 (inR_of (by decide)) (fun c18 => ?_) (fun c19 => ?_)
    · refine go_aload kk123_0.2.1.1.2.1.2 rfl ?_
      refine go_int kk123_0.2.1.1.2.2 0 rfl ?_
      refine go_int kk123_0.2.1.2.1.1.1 1 rfl ?_
      refine go_aload kk123_0.2.1.2.1.1.2 rfl ?_
      refine go_getR (bI := 0) kk123_0.2.1.2.1.2 e11 hK0 (by decide) rfl rfl (fun r20 => ?_)
      refine go_int kk123_0.2.1.2.2.1 0 rfl ?_
      refine go_ck (fun q22 => ?_)
      refine go_iald kk123_0.2.1.2.2.2 e11 q22 (fun r21 => ?_)
      refine go_int kk123_0.2.2.1.1.1.1 1 rfl ?_
      refine go_isub kk123_0.2.2.1.1.1.2 ?_
      refine go_callN3 kk123_0.2.2.1.1.2 rfl rfl rfl ⟨by decide, _, rfl, hK0⟩ ⟨Nat.zero_le _, Nat.zero_le _⟩ (by omega) (tfM_takes (by omega) e11 hK0  (inR_b (Or.inl rfl)) (inR_b (Or.inr rfl)) (inR_w32 _)) (fun y23 g25 r24 e26 => ?_)
      refine go_ifeq kk123_0.2.2.1.2.1.1 (inR_b r24) (fun c27 => ?_) (fun c28 => ?_)
      · refine go_int kk123_0.2.2.1.2.1.2 0 rfl ?_
        exact go_bret kk123_0.2.2.1.2.2 e26 (Or.inl rfl) ⟨Nat.zero_le _, Nat.zero_le _⟩ rfl
      · refine go_aload kk123_0.2.2.2.1.1.1 rfl ?_
        refine go_int kk123_0.2.2.2.1.1.2 0 rfl ?_
        refine go_aload kk123_0.2.2.2.1.2 rfl ?_
        refine go_getR (bI := 0) kk123_0.2.2.2.2.1 e26 hK0 (by decide) rfl rfl (fun r29 => ?_)
        refine go_int kk123_0.2.2.2.2.2 0 rfl ?_
        refine go_ck (fun q31 => ?_)
        refine go_iald kk123_1.1.1.1.1.1.1 e26 q31 (fun r30 => ?_)
        refine go_int kk123_1.1.1.1.1.1.2 1 rfl ?_
        refine go_isub kk123_1.1.1.1.1.2 ?_
        refine go_callN3 kk123_1.1.1.1.2.1.1 rfl rfl rfl ⟨by decide, _, rfl, hK0⟩ ⟨Nat.zero_le _, Nat.zero_le _⟩ (by omega) (tfM_isNumber (by omega) e26 hK0  (inR_b (Or.inl rfl)) (inR_w32 _)) (fun y32 g34 r33 e35 => ?_)
        refine go_ifeq kk123_1.1.1.1.2.1.2 (inR_b r33) (fun c36 => ?_) (fun c37 => ?_)
        · refine go_int kk123_1.1.1.1.2.2 0 rfl ?_
          exact go_bret kk123_1.1.1.2.1.1.1 e35 (Or.inl rfl) ⟨Nat.zero_le _, Nat.zero_le _⟩ rfl
        · refine go_aload kk123_1.1.1.2.1.1.2 rfl ?_
          refine go_getI (bI := 17) kk123_1.1.1.2.1.2 e35 hK0 (by decide) rfl rfl (fun r38 => ?_)
          refine go_aload kk123_1.1.1.2.2.1.1 rfl ?_
          refine go_getR (bI := 20) kk123_1.1.1.2.2.1.2 e35 hK0 (by decide) rfl rfl (fun r39 => ?_)
          refine go_int kk123_1.1.1.2.2.2 0 rfl ?_
          refine go_ck (fun q41 => ?_)
          refine go_iald kk123_1.1.2.1.1.1.1 e35 q41 (fun r40 => ?_)
          refine go_cmeq kk123_1.1.2.1.1.1.2 r38 r40 (fun c42 => ?_) (fun c43 => ?_)
          · refine go_aload kk123_1.1.2.1.1.2 rfl ?_
            refine go_int kk123_1.1.2.1.2.1.1 2 rfl ?_
            refine go_callN3 kk123_1.1.2.1.2.1.2 rfl rfl rfl ⟨by decide, _, rfl, hK0⟩ ⟨Nat.zero_le _, Nat.zero_le _⟩ (by omega) (tfM_failsAt (by omega) e35 hK0  (inR_of (by decide))) (fun y44 g46 r45 e47 => ?_)
            exact go_bret kk123_1.1.2.1.2.2 e47 r45 ⟨Nat.zero_le _, Nat.zero_le _⟩ rfl
          · refine go_aload kk123_1.1.2.2.1.1.1 rfl ?_
            refine go_int kk123_1.1.2.2.1.1.2 1 rfl ?_
            refine go_int kk123_1.1.2.2.1.2 0 rfl ?_
            refine go_aload kk123_1.1.2.2.2.1 rfl ?_
            refine go_getR (bI := 0) kk123_1.1.2.2.2.2 e35 hK0 (by decide) rfl rfl (fun r48 => ?_)
            refine go_int kk123_1.2.1.1.1.1.1 0 rfl ?_
            refine go_ck (fun q50 => ?_)
            refine go_iald kk123_1.2.1.1.1.1.2 e35 q50 (fun r49 => ?_)
            refine go_int kk123_1.2.1.1.1.2 1 rfl ?_
            refine go_isub kk123_1.2.1.1.2.1.1 ?_
            refine go_callN3 kk123_1.2.1.1.2.1.2 rfl rfl rfl ⟨by decide, _, rfl, hK0⟩ ⟨Nat.zero_le _, Nat.zero_le _⟩ (by omega) (tfM_takes (by omega) e35 hK0  (inR_b (Or.inr rfl)) (inR_b (Or.inl rfl)) (inR_w32 _)) (fun y51 g53 r52 e54 => ?_)
            refine go_ifeq kk123_1.2.1.1.2.2 (inR_b r52) (fun c55 => ?_) (fun c56 => ?_)
            · refine go_int kk123_1.2.1.2.1.1.1 0 rfl ?_
              exact go_bret kk123_1.2.1.2.1.1.2 e54 (Or.inl rfl) ⟨Nat.zero_le _, Nat.zero_le _⟩ rfl
            · refine go_aload kk123_1.2.1.2.1.2 rfl ?_
              refine go_getR (bI := 0) kk123_1.2.1.2.2.1.1 e54 hK0 (by decide) rfl rfl (fun r57 => ?_)
              refine go_int kk123_1.2.1.2.2.1.2 260 rfl ?_
              refine go_aload kk123_1.2.1.2.2.2 rfl ?_
              refine go_getR (bI := 20) kk123_1.2.2.1.1.1.1 e54 hK0 (by decide) rfl rfl (fun r58 => ?_)
              refine go_int kk123_1.2.2.1.1.1.2 0 rfl ?_
              refine go_ck (fun q60 => ?_)
              refine go_iald kk123_1.2.2.1.1.2 e54 q60 (fun r59 => ?_)
              refine go_iadd kk123_1.2.2.1.2.1.1 ?_
              refine go_aload kk123_1.2.2.1.2.1.2 rfl ?_
              refine go_getR (bI := 20) kk123_1.2.2.1.2.2 e54 hK0 (by decide) rfl rfl (fun r61 => ?_)
              refine go_int kk123_1.2.2.2.1.1.1 1 rfl ?_
              refine go_ck (fun q63 => ?_)
              refine go_iald kk123_1.2.2.2.1.1.2 e54 q63 (fun r62 => ?_)
              refine go_ck (fun q64 => ?_)
              refine go_iast kk123_1.2.2.2.1.2 e54 q64 r62 (fun g65 e66 => ?_)
              refine go_int kk123_1.2.2.2.2.1 1 rfl ?_
              exact go_bret kk123_1.2.2.2.2.2 e66 (Or.inr rfl) ⟨Nat.zero_le _, Nat.zero_le _⟩ rfl
    · refine go_aload kk123_0.2.1.1.1.1.1 rfl ?_
      refine go_int kk123_0.2.1.1.1.1.2 3 rfl ?_
      refine go_callN3 kk123_0.2.1.1.1.2 rfl rfl rfl ⟨by decide, _, rfl, hK0⟩ ⟨Nat.zero_le _, Nat.zero_le _⟩ (by omega) (tfM_failsAt (by omega) e11 hK0  (inR_of (by decide))) (fun y67 g69 r68 e70 => ?_)
      exact go_bret kk123_0.2.1.1.2.1.1 e70 r68 ⟨Nat.zero_le _, Nat.zero_le _⟩ rfl
theorem tfM_readDuty {Φ : ev_P} {d : Nat} (hd : 3 ≤ d) {g : gH} (hg : HR g) {v0 : Int} (hK0 : kd v0 = 7) : Go Φ pr_P fN 3 (fM_readDuty g v0) d (pr_P 124) 0 (ev_loc (pr_P 124).1 [(sR v0)]) [] g 0 0 := by
  show Go Φ pr_P fN 3 (fM_readDuty g v0) d pr_m124 0 [some (sR v0)] [] g 0 0
  unfold fM_readDuty
  refine go_aload kk124_0.1.1.1.1.1.1 rfl ?_
  refine go_callN0 kk124_0.1.1.1.1.1.2 rfl rfl rfl ⟨by decide, _, rfl, hK0⟩ ⟨Nat.zero_le _, Nat.zero_le _⟩ (by omega) (tfM_advanceToken (by omega) hg hK0 ) (fun y1 g3 e4 => ?_)
  refine go_aload kk124_0.1.1.1.1.2 rfl ?_
  refine go_int kk124_0.1.1.1.2.1 0 rfl ?_
  refine go_int kk124_0.1.1.1.2.2 0 rfl ?_
  refine go_int kk124_0.1.1.2.1.1 7 rfl ?_
  refine go_callN3 kk124_0.1.1.2.1.2 rfl rfl rfl ⟨by decide, _, rfl, hK0⟩ ⟨Nat.zero_le _, Nat.zero_le _⟩ (by omega) (tfM_takes (by omega) e4 hK0  (inR_b (Or.inl rfl)) (inR_b (Or.inl rfl)) (inR_of (by decide))) (fun y5 g7 r6 e8 => ?_)
  refine go_ifeq kk124_0.1.1.2.2.1 (inR_b r6) (fun c9 => ?_) (fun c10 => ?_)
  · refine go_int kk124_0.2.1.1.1.1.2 0 rfl ?_
    exact go_bret kk124_0.2.1.1.1.2 e8 (Or.inl rfl) ⟨Nat.zero_le _, Nat.zero_le _⟩ rfl
  · refine go_aload kk124_0.1.1.2.2.2 rfl ?_
    refine go_int kk124_0.1.2.1.1.1.1 1 rfl ?_
    refine go_int kk124_0.1.2.1.1.1.2 0 rfl ?_
    refine go_aload kk124_0.1.2.1.1.2 rfl ?_
    refine go_getR (bI := 0) kk124_0.1.2.1.2.1 e8 hK0 (by decide) rfl rfl (fun r11 => ?_)
    refine go_int kk124_0.1.2.1.2.2 0 rfl ?_
    refine go_ck (fun q13 => ?_)
    refine go_iald kk124_0.1.2.2.1.1 e8 q13 (fun r12 => ?_)
    refine go_int kk124_0.1.2.2.1.2 1 rfl ?_
    refine go_isub kk124_0.1.2.2.2.1 ?_
    refine go_callN3 kk124_0.1.2.2.2.2 rfl rfl rfl ⟨by decide, _, rfl, hK0⟩ ⟨Nat.zero_le _, Nat.zero_le _⟩ (by omega) (tfM_takes (by omega) e8 hK0  (inR_b (Or.inr rfl)) (inR_b (Or.inl rfl)) (inR_w32 _)) (fun y14 g16 r15 e17 => ?_)
    refine go_ifeq kk124_0.2.1.1.1.1.1 (inR_b r15) (fun c18 => ?_) (fun c19 => ?_)
    · refine go_int kk124_0.2.1.1.1.1.2 0 rfl ?_
      exact go_bret kk124_0.2.1.1.1.2 e17 (Or.inl rfl) ⟨Nat.zero_le _, Nat.zero_le _⟩ rfl
    · refine go_aload kk124_0.2.1.1.2.1 rfl ?_
      refine go_getR (bI := 0) kk124_0.2.1.1.2.2 e17 hK0 (by decide) rfl rfl (fun r20 => ?_)
      refine go_int kk124_0.2.1.2.1.1 11 rfl ?_
      refine go_aload kk124_0.2.1.2.1.2 rfl ?_
      refine go_getR (bI := 20) kk124_0.2.1.2.2.1 e17 hK0 (by decide) rfl rfl (fun r21 => ?_)
      refine go_int kk124_0.2.1.2.2.2 0 rfl ?_
      refine go_ck (fun q23 => ?_)
      refine go_iald kk124_0.2.2.1.1.1.1 e17 q23 (fun r22 => ?_)
      refine go_iadd kk124_0.2.2.1.1.1.2 ?_
      refine go_aload kk124_0.2.2.1.1.2 rfl ?_
      refine go_getR (bI := 20) kk124_0.2.2.1.2.1 e17 hK0 (by decide) rfl rfl (fun r24 => ?_)
      refine go_int kk124_0.2.2.1.2.2 1 rfl ?_
      refine go_ck (fun q26 => ?_)
      refine go_iald kk124_0.2.2.2.1.1 e17 q26 (fun r25 => ?_)
      refine go_ck (fun q27 => ?_)
      refine go_iast kk124_0.2.2.2.1.2 e17 q27 r25 (fun g28 e29 => ?_)
      refine go_int kk124_0.2.2.2.2.1 1 rfl ?_
      exact go_bret kk124_0.2.2.2.2.2 e29 (Or.inr rfl) ⟨Nat.zero_le _, Nat.zero_le _⟩ rfl
theorem tfM_refusesGroup {Φ : ev_P} {d : Nat} (hd : 0 ≤ d) {g : gH} (hg : HR g) {v0 v1 v2 : Int} (hK0 : kd v0 = 7) (h1 : InR v1) (h2 : InR v2) : Go Φ pr_P (fP g) 3 (fM_refusesGroup g v0 v1 v2) d (pr_P 87) 0 (ev_loc (pr_P 87).1 [(sR v0), (sI v1), (sI v2)]) [] g 0 0 := by
  show Go Φ pr_P (fP g) 3 (fM_refusesGroup g v0 v1 v2) d pr_m87 0 [some (sR v0), some (sI v1), some (sI v2)] [] g 0 0
  unfold fM_refusesGroup
  refine go_aload kk87_0.1.1.1.1 rfl ?_
  refine go_getR (bI := 0) kk87_0.1.1.1.2 hg hK0 (by decide) rfl rfl (fun r1 => ?_)
  refine go_int kk87_0.1.1.2.1 340 rfl ?_
  refine go_iload kk87_0.1.1.2.2 rfl ?_
  refine go_iadd kk87_0.1.2.1.1 ?_
  refine go_ck (fun q3 => ?_)
  refine go_iald kk87_0.1.2.1.2 hg q3 (fun r2 => ?_)
  refine go_iload kk87_0.1.2.2.1 rfl ?_
  refine go_ibin kk87_0.1.2.2.2 ?_
  refine go_int kk87_0.2.1.1.1 1 rfl ?_
  refine go_ibin kk87_0.2.1.1.2 ?_
  refine go_int kk87_0.2.1.2.1 1 rfl ?_
  refine go_cmeq kk87_0.2.1.2.2 (inR_opI _ _ _) (inR_b (Or.inr rfl)) (fun c4 => ?_) (fun c5 => ?_)
  · refine go_int kk87_0.2.2.1.1 1 rfl ?_
    refine go_goto kk87_0.2.2.1.2 ?_
    exact go_bret kk87_0.2.2.2.2 hg (Or.inr rfl) ⟨Nat.zero_le _, Nat.zero_le _⟩ rfl
  · refine go_int kk87_0.2.2.2.1 0 rfl ?_
    exact go_bret kk87_0.2.2.2.2 hg (Or.inl rfl) ⟨Nat.zero_le _, Nat.zero_le _⟩ rfl
theorem tfM_readRefusal {Φ : ev_P} {d : Nat} (hd : 3 ≤ d) {g : gH} (hg : HR g) {v0 : Int} (hK0 : kd v0 = 7) : Go Φ pr_P fN 3 (fM_readRefusal g v0) d (pr_P 125) 0 (ev_loc (pr_P 125).1 [(sR v0)]) [] g 0 0 := by
  show Go Φ pr_P fN 3 (fM_readRefusal g v0) d pr_m125 0 [some (sR v0)] [] g 0 0
  unfold fM_readRefusal
  refine go_aload kk125_0.1.1.1.1.1.1 rfl ?_
  refine go_callN0 kk125_0.1.1.1.1.1.2 rfl rfl rfl ⟨by decide, _, rfl, hK0⟩ ⟨Nat.zero_le _, Nat.zero_le _⟩ (by omega) (tfM_advanceToken (by omega) hg hK0 ) (fun y1 g3 e4 => ?_)
  refine go_aload kk125_0.1.1.1.1.2.1 rfl ?_
  refine go_int kk125_0.1.1.1.1.2.2 0 rfl ?_
  refine go_int kk125_0.1.1.1.2.1.1 1 rfl ?_
  refine go_aload kk125_0.1.1.1.2.1.2 rfl ?_
  refine go_getR (bI := 0) kk125_0.1.1.1.2.2.1 e4 hK0 (by decide) rfl rfl (fun r5 => ?_)
  refine go_int kk125_0.1.1.1.2.2.2 0 rfl ?_
  refine go_ck (fun q7 => ?_)
  refine go_iald kk125_0.1.1.2.1.1.1 e4 q7 (fun r6 => ?_)
  refine go_int kk125_0.1.1.2.1.1.2 1 rfl ?_
  refine go_isub kk125_0.1.1.2.1.2.1 ?_
  refine go_callN3 kk125_0.1.1.2.1.2.2 rfl rfl rfl ⟨by decide, _, rfl, hK0⟩ ⟨Nat.zero_le _, Nat.zero_le _⟩ (by omega) (tfM_takes (by omega) e4 hK0  (inR_b (Or.inl rfl)) (inR_b (Or.inr rfl)) (inR_w32 _)) (fun y8 g10 r9 e11 => ?_)
  refine go_ifeq kk125_0.1.1.2.2.1.1 (inR_b r9) (fun c12 => ?_) (fun c13 => ?_)
  · refine go_int kk125_0.1.2.1.1.2.1 0 rfl ?_
    exact go_bret kk125_0.1.2.1.1.2.2 e11 (Or.inl rfl) ⟨Nat.zero_le _, Nat.zero_le _⟩ rfl
  · refine go_aload kk125_0.1.1.2.2.1.2 rfl ?_
    refine go_int kk125_0.1.1.2.2.2.1 0 rfl ?_
    refine go_int kk125_0.1.1.2.2.2.2 9 rfl ?_
    refine go_callN3 kk125_0.1.2.1.1.1.1 rfl rfl rfl ⟨by decide, _, rfl, hK0⟩ ⟨Nat.zero_le _, Nat.zero_le _⟩ (by omega) (tfM_isNumber (by omega) e11 hK0  (inR_b (Or.inl rfl)) (inR_of (by decide))) (fun y14 g16 r15 e17 => ?_)
    refine go_ifeq kk125_0.1.2.1.1.1.2 (inR_b r15) (fun c18 => ?_) (fun c19 => ?_)
    · refine go_int kk125_0.1.2.1.1.2.1 0 rfl ?_
      exact go_bret kk125_0.1.2.1.1.2.2 e17 (Or.inl rfl) ⟨Nat.zero_le _, Nat.zero_le _⟩ rfl
    · refine go_aload kk125_0.1.2.1.2.1.1 rfl ?_
      refine go_aload kk125_0.1.2.1.2.1.2 rfl ?_
      refine go_getR (bI := 20) kk125_0.1.2.1.2.2.1 e17 hK0 (by decide) rfl rfl (fun r20 => ?_)
      refine go_int kk125_0.1.2.1.2.2.2 0 rfl ?_
      refine go_ck (fun q22 => ?_)
      refine go_iald kk125_0.1.2.2.1.1.1 e17 q22 (fun r21 => ?_)
      refine go_aload kk125_0.1.2.2.1.1.2 rfl ?_
      refine go_getI (bI := 17) kk125_0.1.2.2.1.2.1 e17 hK0 (by decide) rfl rfl (fun r23 => ?_)
      refine go_callP3 kk125_0.1.2.2.1.2.2 rfl rfl rfl ⟨by decide, _, rfl, hK0⟩ ⟨Nat.zero_le _, Nat.zero_le _⟩ (by omega) (tfM_refusesGroup (by omega) e17 hK0  r21 r23) (fun y24 r25 => ?_)
      refine go_ifeq kk125_0.1.2.2.2.1.1 (inR_b r25) (fun c28 => ?_) (fun c29 => ?_)
      · refine go_aload kk125_0.2.1.1.1.2.1 rfl ?_
        refine go_int kk125_0.2.1.1.1.2.2 1 rfl ?_
        refine go_int kk125_0.2.1.1.2.1.1 0 rfl ?_
        refine go_int kk125_0.2.1.1.2.1.2 9 rfl ?_
        refine go_callN3 kk125_0.2.1.1.2.2.1 rfl rfl rfl ⟨by decide, _, rfl, hK0⟩ ⟨Nat.zero_le _, Nat.zero_le _⟩ (by omega) (tfM_takes (by omega) e17 hK0  (inR_b (Or.inr rfl)) (inR_b (Or.inl rfl)) (inR_of (by decide))) (fun y30 g32 r31 e33 => ?_)
        refine go_ifeq kk125_0.2.1.1.2.2.2 (inR_b r31) (fun c34 => ?_) (fun c35 => ?_)
        · refine go_int kk125_0.2.1.2.1.1.1 0 rfl ?_
          exact go_bret kk125_0.2.1.2.1.1.2 e33 (Or.inl rfl) ⟨Nat.zero_le _, Nat.zero_le _⟩ rfl
        · refine go_aload kk125_0.2.1.2.1.2.1 rfl ?_
          refine go_getR (bI := 0) kk125_0.2.1.2.1.2.2 e33 hK0 (by decide) rfl rfl (fun r36 => ?_)
          refine go_int kk125_0.2.1.2.2.1.1 340 rfl ?_
          refine go_aload kk125_0.2.1.2.2.1.2 rfl ?_
          refine go_getR (bI := 20) kk125_0.2.1.2.2.2 e33 hK0 (by decide) rfl rfl (fun r37 => ?_)
          refine go_int kk125_0.2.2.1.1.1.1 0 rfl ?_
          refine go_ck (fun q39 => ?_)
          refine go_iald kk125_0.2.2.1.1.1.2 e33 q39 (fun r38 => ?_)
          refine go_iadd kk125_0.2.2.1.1.2.1 ?_
          refine go_dup2 kk125_0.2.2.1.1.2.2 ?_
          refine go_ck (fun q41 => ?_)
          refine go_iald kk125_0.2.2.1.2.1.1 e33 q41 (fun r40 => ?_)
          refine go_int kk125_0.2.2.1.2.1.2 1 rfl ?_
          refine go_aload kk125_0.2.2.1.2.2.1 rfl ?_
          refine go_getR (bI := 20) kk125_0.2.2.1.2.2.2 e33 hK0 (by decide) rfl rfl (fun r42 => ?_)
          refine go_int kk125_0.2.2.2.1.1.1 1 rfl ?_
          refine go_ck (fun q44 => ?_)
          refine go_iald kk125_0.2.2.2.1.1.2 e33 q44 (fun r43 => ?_)
          refine go_ibin kk125_0.2.2.2.1.2.1 ?_
          refine go_ibin kk125_0.2.2.2.1.2.2 ?_
          refine go_ck (fun q45 => ?_)
          refine go_iast kk125_0.2.2.2.2.1.1 e33 q45 (inR_opI _ _ _) (fun g46 e47 => ?_)
          refine go_int kk125_0.2.2.2.2.1.2 1 rfl ?_
          exact go_bret kk125_0.2.2.2.2.2 e47 (Or.inr rfl) ⟨Nat.zero_le _, Nat.zero_le _⟩ rfl
      · refine go_aload kk125_0.1.2.2.2.1.2 rfl ?_
        refine go_int kk125_0.1.2.2.2.2 3 rfl ?_
        refine go_callN3 kk125_0.2.1.1.1.1.1 rfl rfl rfl ⟨by decide, _, rfl, hK0⟩ ⟨Nat.zero_le _, Nat.zero_le _⟩ (by omega) (tfM_failsAt (by omega) e17 hK0  (inR_of (by decide))) (fun y48 g50 r49 e51 => ?_)
        exact go_bret kk125_0.2.1.1.1.1.2 e51 r49 ⟨Nat.zero_le _, Nat.zero_le _⟩ rfl
theorem tfM_readStatement {Φ : ev_P} {d : Nat} (hd : 4 ≤ d) {g : gH} (hg : HR g) {v0 : Int} (hK0 : kd v0 = 7) : Go Φ pr_P fN 3 (fM_readStatement g v0) d (pr_P 126) 0 (ev_loc (pr_P 126).1 [(sR v0)]) [] g 0 0 := by
  show Go Φ pr_P fN 3 (fM_readStatement g v0) d pr_m126 0 [some (sR v0)] [] g 0 0
  unfold fM_readStatement
  refine go_aload kk126_0.1.1.1.1.1.1 rfl ?_
  refine go_ldcs kk126_0.1.1.1.1.1.2 (by decide) (x := 2000013) rfl ?_
  refine go_callP3 kk126_0.1.1.1.1.2.1 rfl rfl rfl ⟨by decide, _, rfl, hK0⟩ ⟨Nat.zero_le _, Nat.zero_le _⟩ (by omega) (tfM_isWord (by omega) hg hK0 ) (fun y1 r2 => ?_)
  refine go_ifeq kk126_0.1.1.1.1.2.2 (inR_b r2) (fun c5 => ?_) (fun c6 => ?_)
  · refine go_aload kk126_0.1.1.1.2.2.2 rfl ?_
    refine go_ldcs kk126_0.1.1.2.1.1.1 (by decide) (x := 2000014) rfl ?_
    refine go_callP3 kk126_0.1.1.2.1.1.2 rfl rfl rfl ⟨by decide, _, rfl, hK0⟩ ⟨Nat.zero_le _, Nat.zero_le _⟩ (by omega) (tfM_isWord (by omega) hg hK0 ) (fun y7 r8 => ?_)
    refine go_ifeq kk126_0.1.1.2.1.2.1 (inR_b r8) (fun c11 => ?_) (fun c12 => ?_)
    · refine go_aload kk126_0.1.1.2.2.2 rfl ?_
      refine go_ldcs kk126_0.1.2.1.1.1.1 (by decide) (x := 2000015) rfl ?_
      refine go_callP3 kk126_0.1.2.1.1.1.2 rfl rfl rfl ⟨by decide, _, rfl, hK0⟩ ⟨Nat.zero_le _, Nat.zero_le _⟩ (by omega) (tfM_isWord (by omega) hg hK0 ) (fun y13 r14 => ?_)
      refine go_ifeq kk126_0.1.2.1.1.2.1 (inR_b r14) (fun c17 => ?_) (fun c18 => ?_)
      · refine go_aload kk126_0.1.2.1.2.2.1 rfl ?_
        refine go_ldcs kk126_0.1.2.1.2.2.2 (by decide) (x := 2000020) rfl ?_
        refine go_callP3 kk126_0.1.2.2.1.1.1 rfl rfl rfl ⟨by decide, _, rfl, hK0⟩ ⟨Nat.zero_le _, Nat.zero_le _⟩ (by omega) (tfM_isWord (by omega) hg hK0 ) (fun y19 r20 => ?_)
        refine go_ifeq kk126_0.1.2.2.1.1.2 (inR_b r20) (fun c23 => ?_) (fun c24 => ?_)
        · refine go_aload kk126_0.1.2.2.2.1.2 rfl ?_
          refine go_ldcs kk126_0.1.2.2.2.2 (by decide) (x := 2000016) rfl ?_
          refine go_callP3 kk126_0.2.1.1.1.1.1 rfl rfl rfl ⟨by decide, _, rfl, hK0⟩ ⟨Nat.zero_le _, Nat.zero_le _⟩ (by omega) (tfM_isWord (by omega) hg hK0 ) (fun y25 r26 => ?_)
          refine go_ifeq kk126_0.2.1.1.1.1.2 (inR_b r26) (fun c29 => ?_) (fun c30 => ?_)
          · refine go_aload kk126_0.2.1.1.2.1.2 rfl ?_
            refine go_ldcs kk126_0.2.1.1.2.2.1 (by decide) (x := 2000017) rfl ?_
            refine go_callP3 kk126_0.2.1.1.2.2.2 rfl rfl rfl ⟨by decide, _, rfl, hK0⟩ ⟨Nat.zero_le _, Nat.zero_le _⟩ (by omega) (tfM_isWord (by omega) hg hK0 ) (fun y31 r32 => ?_)
            refine go_ifeq kk126_0.2.1.2.1.1.1 (inR_b r32) (fun c35 => ?_) (fun c36 => ?_)
            · refine go_aload kk126_0.2.1.2.2.1.1 rfl ?_
              refine go_ldcs kk126_0.2.1.2.2.1.2 (by decide) (x := 2000018) rfl ?_
              refine go_callP3 kk126_0.2.1.2.2.2 rfl rfl rfl ⟨by decide, _, rfl, hK0⟩ ⟨Nat.zero_le _, Nat.zero_le _⟩ (by omega) (tfM_isWord (by omega) hg hK0 ) (fun y37 r38 => ?_)
              refine go_ifeq kk126_0.2.2.1.1.1.1 (inR_b r38) (fun c41 => ?_) (fun c42 => ?_)
              · refine go_aload kk126_0.2.2.1.2.1.1 rfl ?_
                refine go_ldcs kk126_0.2.2.1.2.1.2 (by decide) (x := 2000019) rfl ?_
                refine go_callP3 kk126_0.2.2.1.2.2.1 rfl rfl rfl ⟨by decide, _, rfl, hK0⟩ ⟨Nat.zero_le _, Nat.zero_le _⟩ (by omega) (tfM_isWord (by omega) hg hK0 ) (fun y43 r44 => ?_)
                refine go_ifeq kk126_0.2.2.1.2.2.2 (inR_b r44) (fun c47 => ?_) (fun c48 => ?_)
                · refine go_aload kk126_0.2.2.2.1.2.2 rfl ?_
                  refine go_int kk126_0.2.2.2.2.1.1 1 rfl ?_
                  refine go_callN3 kk126_0.2.2.2.2.1.2 rfl rfl rfl ⟨by decide, _, rfl, hK0⟩ ⟨Nat.zero_le _, Nat.zero_le _⟩ (by omega) (tfM_failsAt (by omega) hg hK0  (inR_b (Or.inr rfl))) (fun y49 g51 r50 e52 => ?_)
                  exact go_bret kk126_0.2.2.2.2.2 e52 r50 ⟨Nat.zero_le _, Nat.zero_le _⟩ rfl
                · refine go_aload kk126_0.2.2.2.1.1.1 rfl ?_
                  refine go_callN3 kk126_0.2.2.2.1.1.2 rfl rfl rfl ⟨by decide, _, rfl, hK0⟩ ⟨Nat.zero_le _, Nat.zero_le _⟩ (by omega) (tfM_readRefusal (by omega) hg hK0 ) (fun y53 g55 r54 e56 => ?_)
                  refine go_goto kk126_0.2.2.2.1.2.1 ?_
                  exact go_bret kk126_0.2.2.2.2.2 e56 r54 ⟨Nat.zero_le _, Nat.zero_le _⟩ rfl
              · refine go_aload kk126_0.2.2.1.1.1.2 rfl ?_
                refine go_callN3 kk126_0.2.2.1.1.2.1 rfl rfl rfl ⟨by decide, _, rfl, hK0⟩ ⟨Nat.zero_le _, Nat.zero_le _⟩ (by omega) (tfM_readDuty (by omega) hg hK0 ) (fun y57 g59 r58 e60 => ?_)
                exact go_bret kk126_0.2.2.1.1.2.2 e60 r58 ⟨Nat.zero_le _, Nat.zero_le _⟩ rfl
            · refine go_aload kk126_0.2.1.2.1.1.2 rfl ?_
              refine go_callN3 kk126_0.2.1.2.1.2.1 rfl rfl rfl ⟨by decide, _, rfl, hK0⟩ ⟨Nat.zero_le _, Nat.zero_le _⟩ (by omega) (tfM_readHeir (by omega) hg hK0 ) (fun y61 g63 r62 e64 => ?_)
              exact go_bret kk126_0.2.1.2.1.2.2 e64 r62 ⟨Nat.zero_le _, Nat.zero_le _⟩ rfl
          · refine go_aload kk126_0.2.1.1.1.2.1 rfl ?_
            refine go_callN3 kk126_0.2.1.1.1.2.2 rfl rfl rfl ⟨by decide, _, rfl, hK0⟩ ⟨Nat.zero_le _, Nat.zero_le _⟩ (by omega) (tfM_readProcess (by omega) hg hK0 ) (fun y65 g67 r66 e68 => ?_)
            exact go_bret kk126_0.2.1.1.2.1.1 e68 r66 ⟨Nat.zero_le _, Nat.zero_le _⟩ rfl
        · refine go_aload kk126_0.1.2.2.1.2.1 rfl ?_
          refine go_callN3 kk126_0.1.2.2.1.2.2 rfl rfl rfl ⟨by decide, _, rfl, hK0⟩ ⟨Nat.zero_le _, Nat.zero_le _⟩ (by omega) (tfM_readWill (by omega) hg hK0 ) (fun y69 g71 r70 e72 => ?_)
          exact go_bret kk126_0.1.2.2.2.1.1 e72 r70 ⟨Nat.zero_le _, Nat.zero_le _⟩ rfl
      · refine go_aload kk126_0.1.2.1.1.2.2 rfl ?_
        refine go_callN3 kk126_0.1.2.1.2.1.1 rfl rfl rfl ⟨by decide, _, rfl, hK0⟩ ⟨Nat.zero_le _, Nat.zero_le _⟩ (by omega) (tfM_readRoot (by omega) hg hK0 ) (fun y73 g75 r74 e76 => ?_)
        exact go_bret kk126_0.1.2.1.2.1.2 e76 r74 ⟨Nat.zero_le _, Nat.zero_le _⟩ rfl
    · refine go_aload kk126_0.1.1.2.1.2.2 rfl ?_
      refine go_callN3 kk126_0.1.1.2.2.1.1 rfl rfl rfl ⟨by decide, _, rfl, hK0⟩ ⟨Nat.zero_le _, Nat.zero_le _⟩ (by omega) (tfM_readDeep (by omega) hg hK0 ) (fun y77 g79 r78 e80 => ?_)
      exact go_bret kk126_0.1.1.2.2.1.2 e80 r78 ⟨Nat.zero_le _, Nat.zero_le _⟩ rfl
  · refine go_aload kk126_0.1.1.1.2.1.1 rfl ?_
    refine go_callN3 kk126_0.1.1.1.2.1.2 rfl rfl rfl ⟨by decide, _, rfl, hK0⟩ ⟨Nat.zero_le _, Nat.zero_le _⟩ (by omega) (tfM_readOrder (by omega) hg hK0 ) (fun y81 g83 r82 e84 => ?_)
    exact go_bret kk126_0.1.1.1.2.2.1 e84 r82 ⟨Nat.zero_le _, Nat.zero_le _⟩ rfl
