/-! ===== the evaluator comes to what the functions tell (own work, by program: wip/p2/dec.py) ===== -/
theorem tbT_oldest_12 {Φ : ev_P} {d : Nat} (hd : 2 ≤ d) {g : gH} (hg : HR g) {v0 v1 v2 v3 v4 : Int} (hK0 : kd v0 = 5) (h1 : RfR v1) (h2 : RfR v2) (h3 : RfR v3) (h4 : InR v4) {X12 : Int → Option Int} (HX12 : ∀ (v5 : Int) (h5 : InR v5) (u6 : Option ev_V) (w6 : nwo u6), Go Φ pr_P (fP g) 2 (X12 v5) d pr_m297 12 [some (sR v0), some (sR v1), some (sR v2), some (sR v3), some (sI v4), some (sI v5), u6] [] g 0 0) : ∀ (v5 : Int) (h5 : InR v5) (u6 : Option ev_V) (w6 : nwo u6), Go Φ pr_P (fP g) 2 (bT_oldest_12 g v0 v1 v2 v3 v4 X12 v5) d pr_m297 12 [some (sR v0), some (sR v1), some (sR v2), some (sR v3), some (sI v4), some (sI v5), u6] [] g 0 0 := by
  intro v5 h5 u6 w6
  unfold bT_oldest_12
  refine go_iload kk297_0.1.2.1.1.1 rfl ?_
  refine go_iload kk297_0.1.2.1.1.2 rfl ?_
  refine go_cmlt kk297_0.1.2.1.2.1 h5 h4 (fun c4 => ?_) (fun c5 => ?_)
  · refine go_aload kk297_0.1.2.1.2.2 rfl ?_
    refine go_iload kk297_0.1.2.2.1.1 rfl ?_
    refine go_ck (fun q7 => ?_)
    refine go_pald kk297_0.1.2.2.1.2 hg q7 (fun r6 => ?_)
    refine go_astore kk297_0.1.2.2.2 rfl (loc2 := [some (sR v0), some (sR v1), some (sR v2), some (sR v3), some (sI v4), some (sI v5), some (sR (g v3 v5))]) rfl ?_
    refine go_aload kk297_0.2.1.1.1.1 rfl ?_
    refine go_aload kk297_0.2.1.1.1.2 rfl ?_
    refine go_acmp kk297_0.2.1.1.2.1 r6 h2 (fun c8 => ?_) (fun c9 => ?_)
    · refine go_iinc kk297_0.2.2.1.2.2 rfl rfl 1 rfl (loc2 := [some (sR v0), some (sR v1), some (sR v2), some (sR v3), some (sI v4), some (sI (w32 (v5 + 1))), some (sR (g v3 v5))]) rfl ?_
      refine go_goto kk297_0.2.2.2.1.1 ?_
      exact HX12 (w32 (v5 + 1)) (inR_w32 _) (some (sR (g v3 v5))) rfl
    · refine go_aload kk297_0.2.1.1.2.2 rfl ?_
      refine go_aload kk297_0.2.1.2.1.1 rfl ?_
      refine go_aload kk297_0.2.1.2.1.2 rfl ?_
      refine go_callP3 kk297_0.2.1.2.2 rfl rfl rfl ⟨by decide, _, rfl, hK0⟩ ⟨Nat.zero_le _, Nat.zero_le _⟩ (by omega) (tfT_canAdopt (by omega) hg hK0  r6 h1) (fun y10 r11 => ?_)
      refine go_ifeq kk297_0.2.2.1.1.1 (inR_b r11) (fun c14 => ?_) (fun c15 => ?_)
      · refine go_iinc kk297_0.2.2.1.2.2 rfl rfl 1 rfl (loc2 := [some (sR v0), some (sR v1), some (sR v2), some (sR v3), some (sI v4), some (sI (w32 (v5 + 1))), some (sR (g v3 v5))]) rfl ?_
        refine go_goto kk297_0.2.2.2.1.1 ?_
        exact HX12 (w32 (v5 + 1)) (inR_w32 _) (some (sR (g v3 v5))) rfl
      · refine go_aload kk297_0.2.2.1.1.2 rfl ?_
        exact go_aret kk297_0.2.2.1.2.1 hg r6 ⟨Nat.zero_le _, Nat.zero_le _⟩ rfl
  · refine go_null kk297_0.2.2.2.1.2 ?_
    exact go_aret kk297_0.2.2.2.2 hg rfR_null ⟨Nat.zero_le _, Nat.zero_le _⟩ rfl
theorem tlT_oldest_12 {Φ : ev_P} {d : Nat} (hd : 2 ≤ d) {g : gH} (hg : HR g) {v0 v1 v2 v3 v4 : Int} (hK0 : kd v0 = 5) (h1 : RfR v1) (h2 : RfR v2) (h3 : RfR v3) (h4 : InR v4) : ∀ n : Nat, ∀ (v5 : Int) (h5 : InR v5) (u6 : Option ev_V) (w6 : nwo u6), Go Φ pr_P (fP g) 2 (lT_oldest_12 g v0 v1 v2 v3 v4 n v5) d pr_m297 12 [some (sR v0), some (sR v1), some (sR v2), some (sR v3), some (sI v4), some (sI v5), u6] [] g 0 0 := by
  intro n
  induction n with
  | zero => intros; exact go_none
  | succ n ih => exact tbT_oldest_12 hd hg hK0 h1 h2 h3 h4 ih
theorem tfT_oldest {Φ : ev_P} {d : Nat} (hd : 2 ≤ d) {g : gH} (hg : HR g) {v0 v1 v2 : Int} (hK0 : kd v0 = 5) (h1 : RfR v1) (h2 : RfR v2) : Go Φ pr_P (fP g) 2 (fT_oldest g v0 v1 v2) d (pr_P 297) 0 (ev_loc (pr_P 297).1 [(sR v0), (sR v1), (sR v2)]) [] g 0 0 := by
  show Go Φ pr_P (fP g) 2 (fT_oldest g v0 v1 v2) d pr_m297 0 [some (sR v0), some (sR v1), some (sR v2), none, none, none, none] [] g 0 0
  unfold fT_oldest
  refine go_aload kk297_0.1.1.1.1.1 rfl ?_
  refine go_getR (bI := 1) kk297_0.1.1.1.1.2 hg hK0 (by decide) rfl rfl (fun r1 => ?_)
  refine go_astore kk297_0.1.1.1.2.1 rfl (loc2 := [some (sR v0), some (sR v1), some (sR v2), some (sR (g v0 1)), none, none, none]) rfl ?_
  refine go_aload kk297_0.1.1.1.2.2 rfl ?_
  refine go_ck (fun q3 => ?_)
  refine go_alen kk297_0.1.1.2.1.1 (ka_24 q3) (fun r2 => ?_)
  refine go_istore kk297_0.1.1.2.1.2 rfl (loc2 := [some (sR v0), some (sR v1), some (sR v2), some (sR (g v0 1)), some (sI (sz (g v0 1))), none, none]) rfl ?_
  refine go_int kk297_0.1.1.2.2.1 0 rfl ?_
  refine go_istore kk297_0.1.1.2.2.2 rfl (loc2 := [some (sR v0), some (sR v1), some (sR v2), some (sR (g v0 1)), some (sI (sz (g v0 1))), some (sI 0), none]) rfl ?_
  exact tlT_oldest_12 hd hg hK0 h1 h2 r1 r2 fu 0 (inR_b (Or.inl rfl)) none rfl
theorem tjT_adopterOf_130 {Φ : ev_P} {d : Nat} (hd : 3 ≤ d) {g : gH} (hg : HR g) {v0 v3 : Int} (hK0 : kd v0 = 5) (h3 : RfR v3) (u1 : Option ev_V) (w1 : nwo u1) (u2 : Option ev_V) (w2 : nwo u2) (u4 : Option ev_V) (w4 : nwo u4) : Go Φ pr_P (fP g) 2 (jT_adopterOf_130 g v0 v3 ) d pr_m293 130 [some (sR v0), u1, u2, some (sR v3), u4] [] g 0 0 := by
  unfold jT_adopterOf_130
  refine go_aload kk293_0.2.2.2.1.1.1 rfl ?_
  refine go_isnull kk293_0.2.2.2.1.1.2  (fun c43 => ?_) (fun c44 => ?_)
  · refine go_aload kk293_0.2.2.2.1.2.1 rfl ?_
    refine go_getR (bI := 0) kk293_0.2.2.2.1.2.2 hg hK0 (by decide) rfl rfl (fun r45 => ?_)
    refine go_goto kk293_0.2.2.2.2.1.1 ?_
    exact go_aret kk293_0.2.2.2.2.2 hg r45 ⟨Nat.zero_le _, Nat.zero_le _⟩ rfl
  · refine go_aload kk293_0.2.2.2.2.1.2 rfl ?_
    exact go_aret kk293_0.2.2.2.2.2 hg h3 ⟨Nat.zero_le _, Nat.zero_le _⟩ rfl
theorem tbT_adopterOf_19 {Φ : ev_P} {d : Nat} (hd : 3 ≤ d) {g : gH} (hg : HR g) {v0 v1 v2 : Int} (hK0 : kd v0 = 5) (h1 : RfR v1) (h2 : RfR v2) {X19 : Int → Int → Option Int} (HX19 : ∀ (v3 : Int) (h3 : RfR v3) (v4 : Int) (h4 : InR v4), Go Φ pr_P (fP g) 2 (X19 v3 v4) d pr_m293 19 [some (sR v0), some (sR v1), some (sR v2), some (sR v3), some (sI v4)] [] g 0 0) : ∀ (v3 : Int) (h3 : RfR v3) (v4 : Int) (h4 : InR v4), Go Φ pr_P (fP g) 2 (bT_adopterOf_19 g v0 v1 v2 X19 v3 v4) d pr_m293 19 [some (sR v0), some (sR v1), some (sR v2), some (sR v3), some (sI v4)] [] g 0 0 := by
  intro v3 h3 v4 h4
  unfold bT_adopterOf_19
  refine go_iload kk293_0.1.1.2.2.1.1 rfl ?_
  refine go_int kk293_0.1.1.2.2.1.2 5 rfl ?_
  refine go_cmlt kk293_0.1.1.2.2.2.1 h4 (inR_of (by decide)) (fun c6 => ?_) (fun c7 => ?_)
  · refine go_aload kk293_0.1.1.2.2.2.2 rfl ?_
    refine go_isnull kk293_0.1.2.1.1.1.1  (fun c8 => ?_) (fun c9 => ?_)
    · refine go_aload kk293_0.1.2.1.1.1.2 rfl ?_
      refine go_getR (bI := 3) kk293_0.1.2.1.1.2.1 hg hK0 (by decide) rfl rfl (fun r10 => ?_)
      refine go_iload kk293_0.1.2.1.1.2.2 rfl ?_
      refine go_ck (fun q12 => ?_)
      refine go_iald kk293_0.1.2.1.2.1.1 hg q12 (fun r11 => ?_)
      refine go_ite (fun c13 => ?_) (fun c14 => ?_)
      · refine go_swh (lo := 0) (hi := 4) (i := 0) kk293_0.1.2.1.2.1.2 rfl rfl (by omega) (by omega) rfl ?_
        refine go_aload kk293_0.1.2.1.2.2.1 rfl ?_
        refine go_aload kk293_0.1.2.1.2.2.2 rfl ?_
        refine go_aload kk293_0.1.2.2.1.1.1 rfl ?_
        refine go_callP2 kk293_0.1.2.2.1.1.2 rfl rfl rfl ⟨by decide, _, rfl, hK0⟩ ⟨Nat.zero_le _, Nat.zero_le _⟩ (by omega) (tfT_nearest (by omega) hg hK0  h1 h2) (fun y15 r16 => ?_)
        refine go_astore kk293_0.1.2.2.1.2.1 rfl (loc2 := [some (sR v0), some (sR v1), some (sR v2), some (sR y15), some (sI v4)]) rfl ?_
        refine go_goto kk293_0.1.2.2.1.2.2 ?_
        refine go_iinc kk293_0.2.2.1.2.2.1 rfl rfl 1 rfl (loc2 := [some (sR v0), some (sR v1), some (sR v2), some (sR y15), some (sI (w32 (v4 + 1)))]) rfl ?_
        refine go_goto kk293_0.2.2.1.2.2.2 ?_
        exact HX19 y15 r16 (w32 (v4 + 1)) (inR_w32 _)
      refine go_ite (fun c19 => ?_) (fun c20 => ?_)
      · refine go_swh (lo := 0) (hi := 4) (i := 1) kk293_0.1.2.1.2.1.2 rfl rfl (by omega) (by omega) rfl ?_
        refine go_aload kk293_0.1.2.2.2.1.1 rfl ?_
        refine go_aload kk293_0.1.2.2.2.1.2 rfl ?_
        refine go_aload kk293_0.1.2.2.2.2.1 rfl ?_
        refine go_int kk293_0.1.2.2.2.2.2 1 rfl ?_
        refine go_callP2 kk293_0.2.1.1.1.1.1 rfl rfl rfl ⟨by decide, _, rfl, hK0⟩ ⟨Nat.zero_le _, Nat.zero_le _⟩ (by omega) (tfT_roomiestFor (by omega) hg hK0  h1 h2 (Or.inr rfl)) (fun y21 r22 => ?_)
        refine go_astore kk293_0.2.1.1.1.1.2 rfl (loc2 := [some (sR v0), some (sR v1), some (sR v2), some (sR y21), some (sI v4)]) rfl ?_
        refine go_goto kk293_0.2.1.1.1.2.1 ?_
        refine go_iinc kk293_0.2.2.1.2.2.1 rfl rfl 1 rfl (loc2 := [some (sR v0), some (sR v1), some (sR v2), some (sR y21), some (sI (w32 (v4 + 1)))]) rfl ?_
        refine go_goto kk293_0.2.2.1.2.2.2 ?_
        exact HX19 y21 r22 (w32 (v4 + 1)) (inR_w32 _)
      refine go_ite (fun c25 => ?_) (fun c26 => ?_)
      · refine go_swh (lo := 0) (hi := 4) (i := 2) kk293_0.1.2.1.2.1.2 rfl rfl (by omega) (by omega) rfl ?_
        refine go_aload kk293_0.2.1.1.1.2.2 rfl ?_
        refine go_aload kk293_0.2.1.1.2.1.1 rfl ?_
        refine go_aload kk293_0.2.1.1.2.1.2 rfl ?_
        refine go_int kk293_0.2.1.1.2.2.1 0 rfl ?_
        refine go_callP2 kk293_0.2.1.1.2.2.2 rfl rfl rfl ⟨by decide, _, rfl, hK0⟩ ⟨Nat.zero_le _, Nat.zero_le _⟩ (by omega) (tfT_roomiestFor (by omega) hg hK0  h1 h2 (Or.inl rfl)) (fun y27 r28 => ?_)
        refine go_astore kk293_0.2.1.2.1.1.1 rfl (loc2 := [some (sR v0), some (sR v1), some (sR v2), some (sR y27), some (sI v4)]) rfl ?_
        refine go_goto kk293_0.2.1.2.1.1.2 ?_
        refine go_iinc kk293_0.2.2.1.2.2.1 rfl rfl 1 rfl (loc2 := [some (sR v0), some (sR v1), some (sR v2), some (sR y27), some (sI (w32 (v4 + 1)))]) rfl ?_
        refine go_goto kk293_0.2.2.1.2.2.2 ?_
        exact HX19 y27 r28 (w32 (v4 + 1)) (inR_w32 _)
      refine go_ite (fun c31 => ?_) (fun c32 => ?_)
      · refine go_swh (lo := 0) (hi := 4) (i := 3) kk293_0.1.2.1.2.1.2 rfl rfl (by omega) (by omega) rfl ?_
        refine go_aload kk293_0.2.1.2.1.2.1 rfl ?_
        refine go_aload kk293_0.2.1.2.1.2.2 rfl ?_
        refine go_aload kk293_0.2.1.2.2.1.1 rfl ?_
        refine go_callP2 kk293_0.2.1.2.2.1.2 rfl rfl rfl ⟨by decide, _, rfl, hK0⟩ ⟨Nat.zero_le _, Nat.zero_le _⟩ (by omega) (tfT_firstKin (by omega) hg hK0  h1 h2) (fun y33 r34 => ?_)
        refine go_astore kk293_0.2.1.2.2.2.1 rfl (loc2 := [some (sR v0), some (sR v1), some (sR v2), some (sR y33), some (sI v4)]) rfl ?_
        refine go_goto kk293_0.2.1.2.2.2.2 ?_
        refine go_iinc kk293_0.2.2.1.2.2.1 rfl rfl 1 rfl (loc2 := [some (sR v0), some (sR v1), some (sR v2), some (sR y33), some (sI (w32 (v4 + 1)))]) rfl ?_
        refine go_goto kk293_0.2.2.1.2.2.2 ?_
        exact HX19 y33 r34 (w32 (v4 + 1)) (inR_w32 _)
      refine go_ite (fun c37 => ?_) (fun c38 => ?_)
      · refine go_swh (lo := 0) (hi := 4) (i := 4) kk293_0.1.2.1.2.1.2 rfl rfl (by omega) (by omega) rfl ?_
        refine go_aload kk293_0.2.2.1.1.1.1 rfl ?_
        refine go_aload kk293_0.2.2.1.1.1.2 rfl ?_
        refine go_aload kk293_0.2.2.1.1.2.1 rfl ?_
        refine go_callP2 kk293_0.2.2.1.1.2.2 rfl rfl rfl ⟨by decide, _, rfl, hK0⟩ ⟨Nat.zero_le _, Nat.zero_le _⟩ (by omega) (tfT_oldest (by omega) hg hK0  h1 h2) (fun y39 r40 => ?_)
        refine go_astore kk293_0.2.2.1.2.1.1 rfl (loc2 := [some (sR v0), some (sR v1), some (sR v2), some (sR y39), some (sI v4)]) rfl ?_
        refine go_goto kk293_0.2.2.1.2.1.2 ?_
        refine go_iinc kk293_0.2.2.1.2.2.1 rfl rfl 1 rfl (loc2 := [some (sR v0), some (sR v1), some (sR v2), some (sR y39), some (sI (w32 (v4 + 1)))]) rfl ?_
        refine go_goto kk293_0.2.2.1.2.2.2 ?_
        exact HX19 y39 r40 (w32 (v4 + 1)) (inR_w32 _)
      refine go_swd (lo := 0) (hi := 4) kk293_0.1.2.1.2.1.2 rfl rfl r11 (by omega) (by omega) ?_
      refine go_iinc kk293_0.2.2.1.2.2.1 rfl rfl 1 rfl (loc2 := [some (sR v0), some (sR v1), some (sR v2), some (sR v3), some (sI (w32 (v4 + 1)))]) rfl ?_
      refine go_goto kk293_0.2.2.1.2.2.2 ?_
      exact HX19 v3 h3 (w32 (v4 + 1)) (inR_w32 _)
    · exact tjT_adopterOf_130 hd hg hK0 h3 (some (sR v1)) rfl (some (sR v2)) rfl (some (sI v4)) rfl
  · exact tjT_adopterOf_130 hd hg hK0 h3 (some (sR v1)) rfl (some (sR v2)) rfl (some (sI v4)) rfl
theorem tlT_adopterOf_19 {Φ : ev_P} {d : Nat} (hd : 3 ≤ d) {g : gH} (hg : HR g) {v0 v1 v2 : Int} (hK0 : kd v0 = 5) (h1 : RfR v1) (h2 : RfR v2) : ∀ n : Nat, ∀ (v3 : Int) (h3 : RfR v3) (v4 : Int) (h4 : InR v4), Go Φ pr_P (fP g) 2 (lT_adopterOf_19 g v0 v1 v2 n v3 v4) d pr_m293 19 [some (sR v0), some (sR v1), some (sR v2), some (sR v3), some (sI v4)] [] g 0 0 := by
  intro n
  induction n with
  | zero => intros; exact go_none
  | succ n ih => exact tbT_adopterOf_19 hd hg hK0 h1 h2 ih
theorem tfT_adopterOf {Φ : ev_P} {d : Nat} (hd : 3 ≤ d) {g : gH} (hg : HR g) {v0 v1 : Int} (hK0 : kd v0 = 5) (h1 : RfR v1) : Go Φ pr_P (fP g) 2 (fT_adopterOf g v0 v1) d (pr_P 293) 0 (ev_loc (pr_P 293).1 [(sR v0), (sR v1)]) [] g 0 0 := by
  show Go Φ pr_P (fP g) 2 (fT_adopterOf g v0 v1) d pr_m293 0 [some (sR v0), some (sR v1), none, none, none] [] g 0 0
  unfold fT_adopterOf
  refine go_aload kk293_0.1.1.1.1.1.1 rfl ?_
  refine go_ck (fun q1 => ?_)
  refine go_getR (bI := 2) kk293_0.1.1.1.1.1.2 hg q1 (by decide) rfl rfl (fun r2 => ?_)
  refine go_astore kk293_0.1.1.1.1.2.1 rfl (loc2 := [some (sR v0), some (sR v1), some (sR (g v1 2)), none, none]) rfl ?_
  refine go_aload kk293_0.1.1.1.1.2.2 rfl ?_
  refine go_isnull kk293_0.1.1.1.2.1.1  (fun c3 => ?_) (fun c4 => ?_)
  · refine go_aload kk293_0.1.1.1.2.1.2 rfl ?_
    refine go_getR (bI := 0) kk293_0.1.1.1.2.2.1 hg hK0 (by decide) rfl rfl (fun r5 => ?_)
    exact go_aret kk293_0.1.1.1.2.2.2 hg r5 ⟨Nat.zero_le _, Nat.zero_le _⟩ rfl
  · refine go_null kk293_0.1.1.2.1.1.1 ?_
    refine go_astore kk293_0.1.1.2.1.1.2 rfl (loc2 := [some (sR v0), some (sR v1), some (sR (g v1 2)), some (sR (-1)), none]) rfl ?_
    refine go_int kk293_0.1.1.2.1.2.1 0 rfl ?_
    refine go_istore kk293_0.1.1.2.1.2.2 rfl (loc2 := [some (sR v0), some (sR v1), some (sR (g v1 2)), some (sR (-1)), some (sI 0)]) rfl ?_
    exact tlT_adopterOf_19 hd hg hK0 h1 r2 fu (-1) rfR_null 0 (inR_b (Or.inl rfl))
theorem tbT_readZombiesOf_14 {Φ : ev_P} {d : Nat} (hd : 1 ≤ d) {v1 v3 v4 : Int} (h1 : RfR v1) (h3 : RfR v3) (h4 : InR v4) {X14 : Int → Int → gH → Option (Int × gH)} (HX14 : ∀ (v2 : Int) (h2 : InR v2) (v5 : Int) (h5 : InR v5) (g : gH) (hg : HR g) (u0 : Option ev_V) (w0 : nwo u0) (u6 : Option ev_V) (w6 : nwo u6), Go Φ pr_P fN 1 (X14 v2 v5 g) d pr_m302 14 [u0, some (sR v1), some (sI v2), some (sR v3), some (sI v4), some (sI v5), u6] [] g 0 0) : ∀ (v2 : Int) (h2 : InR v2) (v5 : Int) (h5 : InR v5) (g : gH) (hg : HR g) (u0 : Option ev_V) (w0 : nwo u0) (u6 : Option ev_V) (w6 : nwo u6), Go Φ pr_P fN 1 (bT_readZombiesOf_14 v1 v3 v4 X14 v2 v5 g) d pr_m302 14 [u0, some (sR v1), some (sI v2), some (sR v3), some (sI v4), some (sI v5), u6] [] g 0 0 := by
  intro v2 h2 v5 h5 g hg u0 w0 u6 w6
  unfold bT_readZombiesOf_14
  refine go_iload kk302_0.1.2.1.1.2 rfl ?_
  refine go_iload kk302_0.1.2.1.2.1 rfl ?_
  refine go_cmlt kk302_0.1.2.1.2.2 h5 h4 (fun c4 => ?_) (fun c5 => ?_)
  · refine go_aload kk302_0.1.2.2.1.1 rfl ?_
    refine go_iload kk302_0.1.2.2.1.2 rfl ?_
    refine go_ck (fun q7 => ?_)
    refine go_pald kk302_0.1.2.2.2.1 hg q7 (fun r6 => ?_)
    refine go_astore kk302_0.1.2.2.2.2 rfl (loc2 := [u0, some (sR v1), some (sI v2), some (sR v3), some (sI v4), some (sI v5), some (sR (g v3 v5))]) rfl ?_
    refine go_aload kk302_0.2.1.1.1.1 rfl ?_
    refine go_aload kk302_0.2.1.1.1.2 rfl ?_
    refine go_ck (fun q8 => ?_)
    refine go_callP3 kk302_0.2.1.1.2.1 rfl rfl rfl ⟨by decide, _, rfl, q8⟩ ⟨Nat.zero_le _, Nat.zero_le _⟩ (by omega) (tfP_isZombieOf (by omega) hg q8  h1) (fun y9 r10 => ?_)
    refine go_ifeq kk302_0.2.1.1.2.2 (inR_b r10) (fun c13 => ?_) (fun c14 => ?_)
    · refine go_iinc kk302_0.2.2.2.1.1 rfl rfl 1 rfl (loc2 := [u0, some (sR v1), some (sI v2), some (sR v3), some (sI v4), some (sI (w32 (v5 + 1))), some (sR (g v3 v5))]) rfl ?_
      refine go_goto kk302_0.2.2.2.1.2 ?_
      exact HX14 v2 h2 (w32 (v5 + 1)) (inR_w32 _) g hg u0 w0 (some (sR (g v3 v5))) rfl
    · refine go_aload kk302_0.2.1.2.1.1 rfl ?_
      refine go_int kk302_0.2.1.2.1.2 2 rfl ?_
      refine go_putI (bI := 1) kk302_0.2.1.2.2.1 hg q8 (by decide) rfl rfl (inR_of (by decide)) (fun g15 e16 => ?_)
      refine go_iload kk302_0.2.1.2.2.2 rfl ?_
      refine go_aload kk302_0.2.2.1.1.1 rfl ?_
      refine go_getI (bI := 9) kk302_0.2.2.1.1.2 e16 q8 (by decide) rfl rfl (fun r17 => ?_)
      refine go_iadd kk302_0.2.2.1.2.1 ?_
      refine go_istore kk302_0.2.2.1.2.2 rfl (loc2 := [u0, some (sR v1), some (sI (w32 (v2 + (g15 (g v3 v5) 9)))), some (sR v3), some (sI v4), some (sI v5), some (sR (g v3 v5))]) rfl ?_
      refine go_iinc kk302_0.2.2.2.1.1 rfl rfl 1 rfl (loc2 := [u0, some (sR v1), some (sI (w32 (v2 + (g15 (g v3 v5) 9)))), some (sR v3), some (sI v4), some (sI (w32 (v5 + 1))), some (sR (g v3 v5))]) rfl ?_
      refine go_goto kk302_0.2.2.2.1.2 ?_
      exact HX14 (w32 (v2 + (g15 (g v3 v5) 9))) (inR_w32 _) (w32 (v5 + 1)) (inR_w32 _) g15 e16 u0 w0 (some (sR (g v3 v5))) rfl
  · refine go_iload kk302_0.2.2.2.2.1 rfl ?_
    exact go_iret kk302_0.2.2.2.2.2 hg h2 ⟨Nat.zero_le _, Nat.zero_le _⟩ rfl
theorem tlT_readZombiesOf_14 {Φ : ev_P} {d : Nat} (hd : 1 ≤ d) {v1 v3 v4 : Int} (h1 : RfR v1) (h3 : RfR v3) (h4 : InR v4) : ∀ n : Nat, ∀ (v2 : Int) (h2 : InR v2) (v5 : Int) (h5 : InR v5) (g : gH) (hg : HR g) (u0 : Option ev_V) (w0 : nwo u0) (u6 : Option ev_V) (w6 : nwo u6), Go Φ pr_P fN 1 (lT_readZombiesOf_14 v1 v3 v4 n v2 v5 g) d pr_m302 14 [u0, some (sR v1), some (sI v2), some (sR v3), some (sI v4), some (sI v5), u6] [] g 0 0 := by
  intro n
  induction n with
  | zero => intros; exact go_none
  | succ n ih => exact tbT_readZombiesOf_14 hd h1 h3 h4 ih
theorem tfT_readZombiesOf {Φ : ev_P} {d : Nat} (hd : 1 ≤ d) {g : gH} (hg : HR g) {v0 v1 : Int} (hK0 : kd v0 = 5) (h1 : RfR v1) : Go Φ pr_P fN 1 (fT_readZombiesOf g v0 v1) d (pr_P 302) 0 (ev_loc (pr_P 302).1 [(sR v0), (sR v1)]) [] g 0 0 := by
  show Go Φ pr_P fN 1 (fT_readZombiesOf g v0 v1) d pr_m302 0 [some (sR v0), some (sR v1), none, none, none, none, none] [] g 0 0
  unfold fT_readZombiesOf
  refine go_int kk302_0.1.1.1.1.1.1 0 rfl ?_
  refine go_istore kk302_0.1.1.1.1.1.2 rfl (loc2 := [some (sR v0), some (sR v1), some (sI 0), none, none, none, none]) rfl ?_
  refine go_aload kk302_0.1.1.1.1.2 rfl ?_
  refine go_getR (bI := 1) kk302_0.1.1.1.2.1 hg hK0 (by decide) rfl rfl (fun r1 => ?_)
  refine go_astore kk302_0.1.1.1.2.2 rfl (loc2 := [some (sR v0), some (sR v1), some (sI 0), some (sR (g v0 1)), none, none, none]) rfl ?_
  refine go_aload kk302_0.1.1.2.1.1 rfl ?_
  refine go_ck (fun q3 => ?_)
  refine go_alen kk302_0.1.1.2.1.2 (ka_24 q3) (fun r2 => ?_)
  refine go_istore kk302_0.1.1.2.2.1 rfl (loc2 := [some (sR v0), some (sR v1), some (sI 0), some (sR (g v0 1)), some (sI (sz (g v0 1))), none, none]) rfl ?_
  refine go_int kk302_0.1.1.2.2.2 0 rfl ?_
  refine go_istore kk302_0.1.2.1.1.1 rfl (loc2 := [some (sR v0), some (sR v1), some (sI 0), some (sR (g v0 1)), some (sI (sz (g v0 1))), some (sI 0), none]) rfl ?_
  exact tlT_readZombiesOf_14 hd h1 r1 r2 fu 0 (inR_b (Or.inl rfl)) 0 (inR_b (Or.inl rfl)) g hg (some (sR v0)) rfl none rfl
theorem tjT_letExit_133 {Φ : ev_P} {d : Nat} (hd : 4 ≤ d) {X92 : Int → gH → Option (Int × gH)} {g : gH} (hg : HR g) {v0 v1 v3 v4 v5 v6 v7 v8 v9 : Int} (hK0 : kd v0 = 5) (h1 : RfR v1) (h3 : RfR v3) (h4 : InR v4) (h5 : RfR v5) (h6 : RfR v6) (h7 : InR v7) (h8 : InR v8) (h9 : RfR v9) {s0 : Int} (z0 : B01 s0) (HX92 : ∀ (v8 : Int) (h8 : InR v8) (g : gH) (hg : HR g) (u2 : Option ev_V) (w2 : nwo u2) (u9 : Option ev_V) (w9 : nwo u9) (u10 : Option ev_V) (w10 : nwo u10), Go Φ pr_P fN 1 (X92 v8 g) d pr_m287 92 [some (sR v0), some (sR v1), u2, some (sR v3), some (sI v4), some (sR v5), some (sR v6), some (sI v7), some (sI v8), u9, u10] [] g 0 0) (u2 : Option ev_V) (w2 : nwo u2) (u10 : Option ev_V) (w10 : nwo u10) : Go Φ pr_P fN 1 (jT_letExit_133 X92 g v0 v1 v3 v4 v5 v6 v7 v8 v9 s0 ) d pr_m287 133 [some (sR v0), some (sR v1), u2, some (sR v3), some (sI v4), some (sR v5), some (sR v6), some (sI v7), some (sI v8), some (sR v9), u10] [(sI s0)] g 0 0 := by
  unfold jT_letExit_133
  refine go_istore kk287_1.1.1.2.1.2.2 rfl (loc2 := [some (sR v0), some (sR v1), u2, some (sR v3), some (sI v4), some (sR v5), some (sR v6), some (sI v7), some (sI v8), some (sR v9), some (sI s0)]) rfl ?_
  refine go_aload kk287_1.1.1.2.2.1.1 rfl ?_
  refine go_aload kk287_1.1.1.2.2.1.2 rfl ?_
  refine go_iload kk287_1.1.1.2.2.2.1 rfl ?_
  refine go_ifeq kk287_1.1.1.2.2.2.2 (inR_b z0) (fun c53 => ?_) (fun c54 => ?_)
  · refine go_aload kk287_1.1.2.1.1.2.1 rfl ?_
    refine go_aload kk287_1.1.2.1.1.2.2 rfl ?_
    refine go_callP2 kk287_1.1.2.1.2.1.1 rfl rfl rfl ⟨by decide, _, rfl, hK0⟩ ⟨Nat.zero_le _, Nat.zero_le _⟩ (by omega) (tfT_adopterOf (by omega) hg hK0  h9) (fun y55 r56 => ?_)
    refine go_callN0 kk287_1.1.2.1.2.1.2 rfl rfl rfl ⟨by decide, _, rfl, hK0⟩ ⟨Nat.zero_le _, Nat.zero_le _⟩ (by omega) (tfT_adopt (by omega) hg hK0  h9 r56) (fun y59 g61 e62 => ?_)
    refine go_iinc kk287_1.1.2.1.2.2.1 rfl rfl 1 rfl (loc2 := [some (sR v0), some (sR v1), u2, some (sR v3), some (sI v4), some (sR v5), some (sR v6), some (sI v7), some (sI (w32 (v8 + 1))), some (sR v9), some (sI s0)]) rfl ?_
    refine go_goto kk287_1.1.2.1.2.2.2 ?_
    exact HX92 (w32 (v8 + 1)) (inR_w32 _) g61 e62 u2 w2 (some (sR v9)) rfl (some (sI s0)) rfl
  · refine go_aload kk287_1.1.2.1.1.1.1 rfl ?_
    refine go_goto kk287_1.1.2.1.1.1.2 ?_
    refine go_callN0 kk287_1.1.2.1.2.1.2 rfl rfl rfl ⟨by decide, _, rfl, hK0⟩ ⟨Nat.zero_le _, Nat.zero_le _⟩ (by omega) (tfT_adopt (by omega) hg hK0  h9 h5) (fun y63 g65 e66 => ?_)
    refine go_iinc kk287_1.1.2.1.2.2.1 rfl rfl 1 rfl (loc2 := [some (sR v0), some (sR v1), u2, some (sR v3), some (sI v4), some (sR v5), some (sR v6), some (sI v7), some (sI (w32 (v8 + 1))), some (sR v9), some (sI s0)]) rfl ?_
    refine go_goto kk287_1.1.2.1.2.2.2 ?_
    exact HX92 (w32 (v8 + 1)) (inR_w32 _) g65 e66 u2 w2 (some (sR v9)) rfl (some (sI s0)) rfl
theorem tjT_letExit_132 {Φ : ev_P} {d : Nat} (hd : 4 ≤ d) {X92 : Int → gH → Option (Int × gH)} {g : gH} (hg : HR g) {v0 v1 v3 v4 v5 v6 v7 v8 v9 : Int} (hK0 : kd v0 = 5) (h1 : RfR v1) (h3 : RfR v3) (h4 : InR v4) (h5 : RfR v5) (h6 : RfR v6) (h7 : InR v7) (h8 : InR v8) (h9 : RfR v9) (HX92 : ∀ (v8 : Int) (h8 : InR v8) (g : gH) (hg : HR g) (u2 : Option ev_V) (w2 : nwo u2) (u9 : Option ev_V) (w9 : nwo u9) (u10 : Option ev_V) (w10 : nwo u10), Go Φ pr_P fN 1 (X92 v8 g) d pr_m287 92 [some (sR v0), some (sR v1), u2, some (sR v3), some (sI v4), some (sR v5), some (sR v6), some (sI v7), some (sI v8), u9, u10] [] g 0 0) (u2 : Option ev_V) (w2 : nwo u2) (u10 : Option ev_V) (w10 : nwo u10) : Go Φ pr_P fN 1 (jT_letExit_132 X92 g v0 v1 v3 v4 v5 v6 v7 v8 v9 ) d pr_m287 132 [some (sR v0), some (sR v1), u2, some (sR v3), some (sI v4), some (sR v5), some (sR v6), some (sI v7), some (sI v8), some (sR v9), u10] [] g 0 0 := by
  unfold jT_letExit_132
  refine go_int kk287_1.1.1.2.1.2.1 0 rfl ?_
  exact tjT_letExit_133 hd hg hK0 h1 h3 h4 h5 h6 h7 h8 h9 (Or.inl rfl) HX92 u2 w2 u10 w10
theorem tjT_letExit_212 {Φ : ev_P} {d : Nat} (hd : 4 ≤ d) {g : gH} (hg : HR g) {v0 v3 v4 : Int} (hK0 : kd v0 = 5) (h3 : RfR v3) (h4 : InR v4) (u1 : Option ev_V) (w1 : nwo u1) (u2 : Option ev_V) (w2 : nwo u2) (u5 : Option ev_V) (w5 : nwo u5) (u6 : Option ev_V) (w6 : nwo u6) (u7 : Option ev_V) (w7 : nwo u7) (u8 : Option ev_V) (w8 : nwo u8) (u9 : Option ev_V) (w9 : nwo u9) (u10 : Option ev_V) (w10 : nwo u10) : Go Φ pr_P fN 1 (jT_letExit_212 g v0 v3 v4 ) d pr_m287 212 [some (sR v0), u1, u2, some (sR v3), some (sI v4), u5, u6, u7, u8, u9, u10] [] g 0 0 := by
  unfold jT_letExit_212
  refine go_aload kk287_1.2.2.1.1.1.2 rfl ?_
  refine go_aload kk287_1.2.2.1.1.2.1 rfl ?_
  refine go_getR (bI := 0) kk287_1.2.2.1.1.2.2 hg hK0 (by decide) rfl rfl (fun r83 => ?_)
  refine go_acmp kk287_1.2.2.1.2.1.1 h3 r83 (fun c84 => ?_) (fun c85 => ?_)
  · refine go_aload kk287_1.2.2.1.2.1.2 rfl ?_
    refine go_aload kk287_1.2.2.1.2.2.1 rfl ?_
    refine go_getR (bI := 0) kk287_1.2.2.1.2.2.2 hg hK0 (by decide) rfl rfl (fun r86 => ?_)
    refine go_callN1 kk287_1.2.2.2.1.1.1 rfl rfl rfl ⟨by decide, _, rfl, hK0⟩ ⟨Nat.zero_le _, Nat.zero_le _⟩ (by omega) (tfT_readZombiesOf (by omega) hg hK0  r86) (fun y87 g89 r88 e90 => ?_)
    refine go_popI kk287_1.2.2.2.1.1.2 ?_
    refine go_aload kk287_1.2.2.2.1.2.1 rfl ?_
    refine go_getI (bI := 8) kk287_1.2.2.2.1.2.2 e90 hK0 (by decide) rfl rfl (fun r91 => ?_)
    refine go_iload kk287_1.2.2.2.2.1.1 rfl ?_
    refine go_isub kk287_1.2.2.2.2.1.2 ?_
    exact go_iret kk287_1.2.2.2.2.2 e90 (inR_w32 _) ⟨Nat.zero_le _, Nat.zero_le _⟩ rfl
  · refine go_aload kk287_1.2.2.2.1.2.1 rfl ?_
    refine go_getI (bI := 8) kk287_1.2.2.2.1.2.2 hg hK0 (by decide) rfl rfl (fun r92 => ?_)
    refine go_iload kk287_1.2.2.2.2.1.1 rfl ?_
    refine go_isub kk287_1.2.2.2.2.1.2 ?_
    exact go_iret kk287_1.2.2.2.2.2 hg (inR_w32 _) ⟨Nat.zero_le _, Nat.zero_le _⟩ rfl
theorem tbT_letExit_177 {Φ : ev_P} {d : Nat} (hd : 4 ≤ d) {v0 v1 v3 v4 v6 v7 : Int} (hK0 : kd v0 = 5) (h1 : RfR v1) (h3 : RfR v3) (h4 : InR v4) (h6 : RfR v6) (h7 : InR v7) {X177 : Int → gH → Option (Int × gH)} (HX177 : ∀ (v8 : Int) (h8 : InR v8) (g : gH) (hg : HR g) (u2 : Option ev_V) (w2 : nwo u2) (u5 : Option ev_V) (w5 : nwo u5) (u9 : Option ev_V) (w9 : nwo u9) (u10 : Option ev_V) (w10 : nwo u10), Go Φ pr_P fN 1 (X177 v8 g) d pr_m287 177 [some (sR v0), some (sR v1), u2, some (sR v3), some (sI v4), u5, some (sR v6), some (sI v7), some (sI v8), u9, u10] [] g 0 0) : ∀ (v8 : Int) (h8 : InR v8) (g : gH) (hg : HR g) (u2 : Option ev_V) (w2 : nwo u2) (u5 : Option ev_V) (w5 : nwo u5) (u9 : Option ev_V) (w9 : nwo u9) (u10 : Option ev_V) (w10 : nwo u10), Go Φ pr_P fN 1 (bT_letExit_177 v0 v1 v3 v4 v6 v7 X177 v8 g) d pr_m287 177 [some (sR v0), some (sR v1), u2, some (sR v3), some (sI v4), u5, some (sR v6), some (sI v7), some (sI v8), u9, u10] [] g 0 0 := by
  intro v8 h8 g hg u2 w2 u5 w5 u9 w9 u10 w10
  unfold bT_letExit_177
  refine go_iload kk287_1.2.1.1.1.1.2 rfl ?_
  refine go_iload kk287_1.2.1.1.1.2.1 rfl ?_
  refine go_cmlt kk287_1.2.1.1.1.2.2 h8 h7 (fun c70 => ?_) (fun c71 => ?_)
  · refine go_aload kk287_1.2.1.1.2.1.1 rfl ?_
    refine go_iload kk287_1.2.1.1.2.1.2 rfl ?_
    refine go_ck (fun q73 => ?_)
    refine go_pald kk287_1.2.1.1.2.2.1 hg q73 (fun r72 => ?_)
    refine go_astore kk287_1.2.1.1.2.2.2 rfl (loc2 := [some (sR v0), some (sR v1), u2, some (sR v3), some (sI v4), u5, some (sR v6), some (sI v7), some (sI v8), some (sR (g v6 v8)), u10]) rfl ?_
    refine go_aload kk287_1.2.1.2.1.1.1 rfl ?_
    refine go_aload kk287_1.2.1.2.1.1.2 rfl ?_
    refine go_ck (fun q74 => ?_)
    refine go_callP3 kk287_1.2.1.2.1.2.1 rfl rfl rfl ⟨by decide, _, rfl, q74⟩ ⟨Nat.zero_le _, Nat.zero_le _⟩ (by omega) (tfP_isZombieOf (by omega) hg q74  h1) (fun y75 r76 => ?_)
    refine go_ifeq kk287_1.2.1.2.1.2.2 (inR_b r76) (fun c79 => ?_) (fun c80 => ?_)
    · refine go_iinc kk287_1.2.1.2.2.2.2 rfl rfl 1 rfl (loc2 := [some (sR v0), some (sR v1), u2, some (sR v3), some (sI v4), u5, some (sR v6), some (sI v7), some (sI (w32 (v8 + 1))), some (sR (g v6 v8)), u10]) rfl ?_
      refine go_goto kk287_1.2.2.1.1.1.1 ?_
      exact HX177 (w32 (v8 + 1)) (inR_w32 _) g hg u2 w2 u5 w5 (some (sR (g v6 v8))) rfl u10 w10
    · refine go_aload kk287_1.2.1.2.2.1.1 rfl ?_
      refine go_aload kk287_1.2.1.2.2.1.2 rfl ?_
      refine go_putR (bI := 2) kk287_1.2.1.2.2.2.1 hg q74 (by decide) rfl rfl h3 (fun g81 e82 => ?_)
      refine go_iinc kk287_1.2.1.2.2.2.2 rfl rfl 1 rfl (loc2 := [some (sR v0), some (sR v1), u2, some (sR v3), some (sI v4), u5, some (sR v6), some (sI v7), some (sI (w32 (v8 + 1))), some (sR (g v6 v8)), u10]) rfl ?_
      refine go_goto kk287_1.2.2.1.1.1.1 ?_
      exact HX177 (w32 (v8 + 1)) (inR_w32 _) g81 e82 u2 w2 u5 w5 (some (sR (g v6 v8))) rfl u10 w10
  · exact tjT_letExit_212 hd hg hK0 h3 h4 (some (sR v1)) rfl u2 w2 u5 w5 (some (sR v6)) rfl (some (sI v7)) rfl (some (sI v8)) rfl u9 w9 u10 w10
theorem tlT_letExit_177 {Φ : ev_P} {d : Nat} (hd : 4 ≤ d) {v0 v1 v3 v4 v6 v7 : Int} (hK0 : kd v0 = 5) (h1 : RfR v1) (h3 : RfR v3) (h4 : InR v4) (h6 : RfR v6) (h7 : InR v7) : ∀ n : Nat, ∀ (v8 : Int) (h8 : InR v8) (g : gH) (hg : HR g) (u2 : Option ev_V) (w2 : nwo u2) (u5 : Option ev_V) (w5 : nwo u5) (u9 : Option ev_V) (w9 : nwo u9) (u10 : Option ev_V) (w10 : nwo u10), Go Φ pr_P fN 1 (lT_letExit_177 v0 v1 v3 v4 v6 v7 n v8 g) d pr_m287 177 [some (sR v0), some (sR v1), u2, some (sR v3), some (sI v4), u5, some (sR v6), some (sI v7), some (sI v8), u9, u10] [] g 0 0 := by
  intro n
  induction n with
  | zero => intros; exact go_none
  | succ n ih => exact tbT_letExit_177 hd hK0 h1 h3 h4 h6 h7 ih
theorem tjT_letExit_163 {Φ : ev_P} {d : Nat} (hd : 4 ≤ d) {g : gH} (hg : HR g) {v0 v1 v3 v4 : Int} (hK0 : kd v0 = 5) (h1 : RfR v1) (h3 : RfR v3) (h4 : InR v4) (u2 : Option ev_V) (w2 : nwo u2) (u5 : Option ev_V) (w5 : nwo u5) (u6 : Option ev_V) (w6 : nwo u6) (u7 : Option ev_V) (w7 : nwo u7) (u8 : Option ev_V) (w8 : nwo u8) (u9 : Option ev_V) (w9 : nwo u9) (u10 : Option ev_V) (w10 : nwo u10) : Go Φ pr_P fN 1 (jT_letExit_163 g v0 v1 v3 v4 ) d pr_m287 163 [some (sR v0), some (sR v1), u2, some (sR v3), some (sI v4), u5, u6, u7, u8, u9, u10] [] g 0 0 := by
  unfold jT_letExit_163
  refine go_aload kk287_1.1.2.2.1.1.1 rfl ?_
  refine go_getR (bI := 1) kk287_1.1.2.2.1.1.2 hg hK0 (by decide) rfl rfl (fun r67 => ?_)
  refine go_astore kk287_1.1.2.2.1.2.1 w5 (loc2 := [some (sR v0), some (sR v1), u2, some (sR v3), some (sI v4), u5, some (sR (g v0 1)), u7, u8, u9, u10]) rfl ?_
  refine go_aload kk287_1.1.2.2.1.2.2 rfl ?_
  refine go_ck (fun q69 => ?_)
  refine go_alen kk287_1.1.2.2.2.1.1 (ka_24 q69) (fun r68 => ?_)
  refine go_istore kk287_1.1.2.2.2.1.2 rfl (loc2 := [some (sR v0), some (sR v1), u2, some (sR v3), some (sI v4), u5, some (sR (g v0 1)), some (sI (sz (g v0 1))), u8, u9, u10]) rfl ?_
  refine go_int kk287_1.1.2.2.2.2 0 rfl ?_
  refine go_istore kk287_1.2.1.1.1.1.1 rfl (loc2 := [some (sR v0), some (sR v1), u2, some (sR v3), some (sI v4), u5, some (sR (g v0 1)), some (sI (sz (g v0 1))), some (sI 0), u9, u10]) rfl ?_
  exact tlT_letExit_177 hd hK0 h1 h3 h4 r67 r68 fu 0 (inR_b (Or.inl rfl)) g hg u2 w2 u5 w5 u9 w9 u10 w10
theorem tbT_letExit_92 {Φ : ev_P} {d : Nat} (hd : 4 ≤ d) {v0 v1 v3 v4 v5 v6 v7 : Int} (hK0 : kd v0 = 5) (h1 : RfR v1) (h3 : RfR v3) (h4 : InR v4) (h5 : RfR v5) (h6 : RfR v6) (h7 : InR v7) {X92 : Int → gH → Option (Int × gH)} (HX92 : ∀ (v8 : Int) (h8 : InR v8) (g : gH) (hg : HR g) (u2 : Option ev_V) (w2 : nwo u2) (u9 : Option ev_V) (w9 : nwo u9) (u10 : Option ev_V) (w10 : nwo u10), Go Φ pr_P fN 1 (X92 v8 g) d pr_m287 92 [some (sR v0), some (sR v1), u2, some (sR v3), some (sI v4), some (sR v5), some (sR v6), some (sI v7), some (sI v8), u9, u10] [] g 0 0) : ∀ (v8 : Int) (h8 : InR v8) (g : gH) (hg : HR g) (u2 : Option ev_V) (w2 : nwo u2) (u9 : Option ev_V) (w9 : nwo u9) (u10 : Option ev_V) (w10 : nwo u10), Go Φ pr_P fN 1 (bT_letExit_92 v0 v1 v3 v4 v5 v6 v7 X92 v8 g) d pr_m287 92 [some (sR v0), some (sR v1), u2, some (sR v3), some (sI v4), some (sR v5), some (sR v6), some (sI v7), some (sI v8), u9, u10] [] g 0 0 := by
  intro v8 h8 g hg u2 w2 u9 w9 u10 w10
  unfold bT_letExit_92
  refine go_iload kk287_0.2.2.1.2.2.2 rfl ?_
  refine go_iload kk287_0.2.2.2.1.1.1 rfl ?_
  refine go_cmlt kk287_0.2.2.2.1.1.2 h8 h7 (fun c33 => ?_) (fun c34 => ?_)
  · refine go_aload kk287_0.2.2.2.1.2.1 rfl ?_
    refine go_iload kk287_0.2.2.2.1.2.2 rfl ?_
    refine go_ck (fun q36 => ?_)
    refine go_pald kk287_0.2.2.2.2.1.1 hg q36 (fun r35 => ?_)
    refine go_astore kk287_0.2.2.2.2.1.2 rfl (loc2 := [some (sR v0), some (sR v1), u2, some (sR v3), some (sI v4), some (sR v5), some (sR v6), some (sI v7), some (sI v8), some (sR (g v6 v8)), u10]) rfl ?_
    refine go_aload kk287_0.2.2.2.2.2 rfl ?_
    refine go_aload kk287_1.1.1.1.1.1.1 rfl ?_
    refine go_ck (fun q37 => ?_)
    refine go_callP3 kk287_1.1.1.1.1.1.2 rfl rfl rfl ⟨by decide, _, rfl, q37⟩ ⟨Nat.zero_le _, Nat.zero_le _⟩ (by omega) (tfP_isRunningChildOf (by omega) hg q37  h1) (fun y38 r39 => ?_)
    refine go_ifeq kk287_1.1.1.1.1.2.1 (inR_b r39) (fun c42 => ?_) (fun c43 => ?_)
    · refine go_iinc kk287_1.1.2.1.2.2.1 rfl rfl 1 rfl (loc2 := [some (sR v0), some (sR v1), u2, some (sR v3), some (sI v4), some (sR v5), some (sR v6), some (sI v7), some (sI (w32 (v8 + 1))), some (sR (g v6 v8)), u10]) rfl ?_
      refine go_goto kk287_1.1.2.1.2.2.2 ?_
      exact HX92 (w32 (v8 + 1)) (inR_w32 _) g hg u2 w2 (some (sR (g v6 v8))) rfl u10 w10
    · refine go_aload kk287_1.1.1.1.1.2.2 rfl ?_
      refine go_isnull kk287_1.1.1.1.2.1.1  (fun c44 => ?_) (fun c45 => ?_)
      · exact tjT_letExit_132 hd hg hK0 h1 h3 h4 h5 h6 h7 h8 r35 HX92 u2 w2 u10 w10
      · refine go_aload kk287_1.1.1.1.2.1.2 rfl ?_
        refine go_ck (fun q46 => ?_)
        refine go_callP1 kk287_1.1.1.1.2.2.1 rfl rfl rfl ⟨by decide, _, rfl, q46⟩ ⟨Nat.zero_le _, Nat.zero_le _⟩ (by omega) (tfP_room (by omega) hg q46 ) (fun y47 r48 => ?_)
        refine go_ifgt kk287_1.1.1.1.2.2.2 r48 (fun c51 => ?_) (fun c52 => ?_)
        · refine go_int kk287_1.1.1.2.1.1.1 1 rfl ?_
          refine go_goto kk287_1.1.1.2.1.1.2 ?_
          exact tjT_letExit_133 hd hg hK0 h1 h3 h4 h5 h6 h7 h8 r35 (Or.inr rfl) HX92 u2 w2 u10 w10
        · exact tjT_letExit_132 hd hg hK0 h1 h3 h4 h5 h6 h7 h8 r35 HX92 u2 w2 u10 w10
  · exact tjT_letExit_163 hd hg hK0 h1 h3 h4 u2 w2 (some (sR v5)) rfl (some (sR v6)) rfl (some (sI v7)) rfl (some (sI v8)) rfl u9 w9 u10 w10
theorem tlT_letExit_92 {Φ : ev_P} {d : Nat} (hd : 4 ≤ d) {v0 v1 v3 v4 v5 v6 v7 : Int} (hK0 : kd v0 = 5) (h1 : RfR v1) (h3 : RfR v3) (h4 : InR v4) (h5 : RfR v5) (h6 : RfR v6) (h7 : InR v7) : ∀ n : Nat, ∀ (v8 : Int) (h8 : InR v8) (g : gH) (hg : HR g) (u2 : Option ev_V) (w2 : nwo u2) (u9 : Option ev_V) (w9 : nwo u9) (u10 : Option ev_V) (w10 : nwo u10), Go Φ pr_P fN 1 (lT_letExit_92 v0 v1 v3 v4 v5 v6 v7 n v8 g) d pr_m287 92 [some (sR v0), some (sR v1), u2, some (sR v3), some (sI v4), some (sR v5), some (sR v6), some (sI v7), some (sI v8), u9, u10] [] g 0 0 := by
  intro n
  induction n with
  | zero => intros; exact go_none
  | succ n ih => exact tbT_letExit_92 hd hK0 h1 h3 h4 h5 h6 h7 ih
theorem tjT_letExit_69 {Φ : ev_P} {d : Nat} (hd : 4 ≤ d) {g : gH} (hg : HR g) {v0 v1 v3 v4 : Int} (hK0 : kd v0 = 5) (h1 : RfR v1) (h3 : RfR v3) (h4 : InR v4) {s0 : Int} (z0 : RfR s0) (u2 : Option ev_V) (w2 : nwo u2) (u5 : Option ev_V) (w5 : nwo u5) (u6 : Option ev_V) (w6 : nwo u6) (u7 : Option ev_V) (w7 : nwo u7) (u8 : Option ev_V) (w8 : nwo u8) (u9 : Option ev_V) (w9 : nwo u9) (u10 : Option ev_V) (w10 : nwo u10) : Go Φ pr_P fN 1 (jT_letExit_69 g v0 v1 v3 v4 s0 ) d pr_m287 69 [some (sR v0), some (sR v1), u2, some (sR v3), some (sI v4), u5, u6, u7, u8, u9, u10] [(sR s0)] g 0 0 := by
  unfold jT_letExit_69
  refine go_astore kk287_0.2.1.2.1.1.2 rfl (loc2 := [some (sR v0), some (sR v1), u2, some (sR v3), some (sI v4), some (sR s0), u6, u7, u8, u9, u10]) rfl ?_
  refine go_aload kk287_0.2.1.2.1.2.1 rfl ?_
  refine go_aload kk287_0.2.1.2.1.2.2 rfl ?_
  refine go_aload kk287_0.2.1.2.2.1.1 rfl ?_
  refine go_callN0 kk287_0.2.1.2.2.1.2 rfl rfl rfl ⟨by decide, _, rfl, hK0⟩ ⟨Nat.zero_le _, Nat.zero_le _⟩ (by omega) (tfT_passDuties (by omega) hg hK0  h1 z0) (fun y26 g28 e29 => ?_)
  refine go_aload kk287_0.2.1.2.2.2 rfl ?_
  refine go_getR (bI := 1) kk287_0.2.2.1.1.1.1 e29 hK0 (by decide) rfl rfl (fun r30 => ?_)
  refine go_astore kk287_0.2.2.1.1.1.2 rfl (loc2 := [some (sR v0), some (sR v1), u2, some (sR v3), some (sI v4), some (sR s0), some (sR (g28 v0 1)), u7, u8, u9, u10]) rfl ?_
  refine go_aload kk287_0.2.2.1.1.2.1 rfl ?_
  refine go_ck (fun q32 => ?_)
  refine go_alen kk287_0.2.2.1.1.2.2 (ka_24 q32) (fun r31 => ?_)
  refine go_istore kk287_0.2.2.1.2.1.1 rfl (loc2 := [some (sR v0), some (sR v1), u2, some (sR v3), some (sI v4), some (sR s0), some (sR (g28 v0 1)), some (sI (sz (g28 v0 1))), u8, u9, u10]) rfl ?_
  refine go_int kk287_0.2.2.1.2.1.2 0 rfl ?_
  refine go_istore kk287_0.2.2.1.2.2.1 rfl (loc2 := [some (sR v0), some (sR v1), u2, some (sR v3), some (sI v4), some (sR s0), some (sR (g28 v0 1)), some (sI (sz (g28 v0 1))), some (sI 0), u9, u10]) rfl ?_
  exact tlT_letExit_92 hd hK0 h1 h3 h4 z0 r30 r31 fu 0 (inR_b (Or.inl rfl)) g28 e29 u2 w2 u9 w9 u10 w10
theorem tfT_letExit {Φ : ev_P} {d : Nat} (hd : 4 ≤ d) {g : gH} (hg : HR g) {v0 v1 v2 : Int} (hK0 : kd v0 = 5) (h1 : RfR v1) (h2 : InR v2) : Go Φ pr_P fN 1 (fT_letExit g v0 v1 v2) d (pr_P 287) 0 (ev_loc (pr_P 287).1 [(sR v0), (sR v1), (sI v2)]) [] g 0 0 := by
  show Go Φ pr_P fN 1 (fT_letExit g v0 v1 v2) d pr_m287 0 [some (sR v0), some (sR v1), some (sI v2), none, none, none, none, none, none, none, none] [] g 0 0
  unfold fT_letExit
  refine go_aload kk287_0.1.1.1.1.1.1 rfl ?_
  refine go_ck (fun q1 => ?_)
  refine go_getR (bI := 2) kk287_0.1.1.1.1.1.2 hg q1 (by decide) rfl rfl (fun r2 => ?_)
  refine go_astore kk287_0.1.1.1.1.2.1 rfl (loc2 := [some (sR v0), some (sR v1), some (sI v2), some (sR (g v1 2)), none, none, none, none, none, none, none]) rfl ?_
  refine go_aload kk287_0.1.1.1.1.2.2 rfl ?_
  refine go_isnull kk287_0.1.1.1.2.1.1  (fun c3 => ?_) (fun c4 => ?_)
  · refine go_int kk287_0.1.1.1.2.1.2 0 rfl ?_
    exact go_iret kk287_0.1.1.1.2.2.1 hg (inR_b (Or.inl rfl)) ⟨Nat.zero_le _, Nat.zero_le _⟩ rfl
  · refine go_aload kk287_0.1.1.1.2.2.2 rfl ?_
    refine go_getI (bI := 8) kk287_0.1.1.2.1.1.1 hg hK0 (by decide) rfl rfl (fun r5 => ?_)
    refine go_istore kk287_0.1.1.2.1.1.2 rfl (loc2 := [some (sR v0), some (sR v1), some (sI v2), some (sR (g v1 2)), some (sI (g v0 8)), none, none, none, none, none, none]) rfl ?_
    refine go_aload kk287_0.1.1.2.1.2.1 rfl ?_
    refine go_int kk287_0.1.1.2.1.2.2 1 rfl ?_
    refine go_putI (bI := 1) kk287_0.1.1.2.2.1.1 hg q1 (by decide) rfl rfl (inR_b (Or.inr rfl)) (fun g6 e7 => ?_)
    refine go_aload kk287_0.1.1.2.2.1.2 rfl ?_
    refine go_iload kk287_0.1.1.2.2.2.1 rfl ?_
    refine go_putI (bI := 9) kk287_0.1.1.2.2.2.2 e7 q1 (by decide) rfl rfl h2 (fun g8 e9 => ?_)
    refine go_aload kk287_0.1.2.1.1.1.1 rfl ?_
    refine go_aload kk287_0.1.2.1.1.1.2 rfl ?_
    refine go_getI (bI := 6) kk287_0.1.2.1.1.2.1 e9 hK0 (by decide) rfl rfl (fun r10 => ?_)
    refine go_putI (bI := 10) kk287_0.1.2.1.1.2.2 e9 q1 (by decide) rfl rfl r10 (fun g11 e12 => ?_)
    refine go_aload kk287_0.1.2.1.2.1.1 rfl ?_
    refine go_dupR kk287_0.1.2.1.2.1.2 ?_
    refine go_getI (bI := 6) kk287_0.1.2.1.2.2.1 e12 hK0 (by decide) rfl rfl (fun r13 => ?_)
    refine go_int kk287_0.1.2.1.2.2.2 1 rfl ?_
    refine go_iadd kk287_0.1.2.2.1.1.1 ?_
    refine go_putI (bI := 6) kk287_0.1.2.2.1.1.2 e12 hK0 (by decide) rfl rfl (inR_w32 _) (fun g14 e15 => ?_)
    refine go_aload kk287_0.1.2.2.1.2.1 rfl ?_
    refine go_dupR kk287_0.1.2.2.1.2.2 ?_
    refine go_ck (fun q16 => ?_)
    refine go_getI (bI := 3) kk287_0.1.2.2.2.1.1 e15 q16 (by decide) rfl rfl (fun r17 => ?_)
    refine go_int kk287_0.1.2.2.2.1.2 1 rfl ?_
    refine go_isub kk287_0.1.2.2.2.2 ?_
    refine go_putI (bI := 3) kk287_0.2.1.1.1.1.1 e15 q16 (by decide) rfl rfl (inR_w32 _) (fun g18 e19 => ?_)
    refine go_iload kk287_0.2.1.1.1.1.2 rfl ?_
    refine go_ifeq kk287_0.2.1.1.1.2.1 h2 (fun c20 => ?_) (fun c21 => ?_)
    · refine go_null kk287_0.2.1.1.1.2.2 ?_
      refine go_goto kk287_0.2.1.1.2.1.1 ?_
      exact tjT_letExit_69 hd e19 hK0 h1 r2 r5 rfR_null (some (sI v2)) rfl none rfl none rfl none rfl none rfl none rfl none rfl
    · refine go_aload kk287_0.2.1.1.2.1.2 rfl ?_
      refine go_aload kk287_0.2.1.1.2.2.1 rfl ?_
      refine go_aload kk287_0.2.1.1.2.2.2 rfl ?_
      refine go_callN2 kk287_0.2.1.2.1.1.1 rfl rfl rfl ⟨by decide, _, rfl, hK0⟩ ⟨Nat.zero_le _, Nat.zero_le _⟩ (by omega) (tfT_replace (by omega) e19 hK0  h1 r2) (fun y22 g24 r23 e25 => ?_)
      exact tjT_letExit_69 hd e25 hK0 h1 r2 r5 r23 (some (sI v2)) rfl none rfl none rfl none rfl none rfl none rfl none rfl
theorem tfC_exit {Φ : ev_P} {d : Nat} (hd : 5 ≤ d) {g : gH} (hg : HR g) {v0 v1 v2 : Int} (hK0 : kd v0 = 6) (h1 : InR v1) (h2 : InR v2) : Go Φ pr_P fT 1 (fC_exit g v0 v1 v2) d (pr_P 18) 0 (ev_loc (pr_P 18).1 [(sR v0), (sI v1), (sI v2)]) [] g 0 0 := by
  show Go Φ pr_P fT 1 (fC_exit g v0 v1 v2) d pr_m18 0 [some (sR v0), some (sI v1), some (sI v2), none] [] g 0 0
  unfold fC_exit
  refine go_aload kk18_0.1.1.1.1 rfl ?_
  refine go_iload kk18_0.1.1.1.2 rfl ?_
  refine go_iload kk18_0.1.1.2.1 rfl ?_
  refine go_callQ2 kk18_0.1.1.2.2 rfl rfl rfl ⟨by decide, _, rfl, hK0⟩ ⟨by decide, by decide⟩ (by omega) (tfC_namedForExit (by omega) hg hK0  h1 h2) (fun y1 r2 => ?_) (fun e5 E6 => ge_prop rfl ⟨by decide, by decide⟩ e5 rfl)
  refine go_astore kk18_0.1.2.1.1 rfl (loc2 := [some (sR v0), some (sI v1), some (sI v2), some (sR y1)]) rfl ?_
  refine go_aload kk18_0.1.2.1.2 rfl ?_
  refine go_getR (bI := 3) kk18_0.1.2.2.1 hg hK0 (by decide) rfl rfl (fun r7 => ?_)
  refine go_aload kk18_0.1.2.2.2 rfl ?_
  refine go_getR (bI := 0) kk18_0.2.1.1.1 hg hK0 (by decide) rfl rfl (fun r8 => ?_)
  refine go_ck (fun q9 => ?_)
  refine go_callN0 kk18_0.2.1.1.2 rfl rfl rfl ⟨by decide, _, rfl, q9⟩ ⟨by decide, by decide⟩ (by omega) (tfH_push (by omega) hg q9  r8) (fun y10 g12 e13 => ?_)
  refine go_aload kk18_0.2.1.2.1 rfl ?_
  refine go_getR (bI := 0) kk18_0.2.1.2.2 e13 hK0 (by decide) rfl rfl (fun r14 => ?_)
  refine go_aload kk18_0.2.2.1.1 rfl ?_
  refine go_iload kk18_0.2.2.1.2 rfl ?_
  refine go_ck (fun q15 => ?_)
  refine go_callN1 kk18_0.2.2.2.1 rfl rfl rfl ⟨by decide, _, rfl, q15⟩ ⟨by decide, by decide⟩ (by omega) (tfT_letExit (by omega) e13 q15  r2 h2) (fun y16 g18 r17 e19 => ?_)
  exact go_iret kk18_0.2.2.2.2 e19 r17 ⟨by decide, by decide⟩ rfl
theorem tfW_exit {Φ : ev_P} {d : Nat} (hd : 6 ≤ d) {g : gH} (hg : HR g) {v0 v1 v2 v3 : Int} (h0 : RfR v0) (h1 : InR v1) (h2 : InR v2) (h3 : RfR v3) : Go Φ pr_P fN 1 (fW_exit g v0 v1 v2 v3) d (pr_P 314) 0 (ev_loc (pr_P 314).1 [(sR v0), (sI v1), (sI v2), (sR v3)]) [] g 0 0 := by
  show Go Φ pr_P fN 1 (fW_exit g v0 v1 v2 v3) d pr_m314 0 [some (sR v0), some (sI v1), some (sI v2), some (sR v3), none] [] g 0 0
  unfold fW_exit
  refine go_aload kk314_0.1.1.1.1.1 rfl ?_
  refine go_int kk314_0.1.1.1.1.2 0 rfl ?_
  refine go_aload kk314_0.1.1.1.2 rfl ?_
  refine go_iload kk314_0.1.1.2.1 rfl ?_
  refine go_iload kk314_0.1.1.2.2 rfl ?_
  refine go_ck (fun q1 => ?_)
  refine go_callT1 kk314_0.1.2.1.1.1 rfl rfl rfl ⟨by decide, _, rfl, q1⟩ ⟨by decide, by decide⟩ (by omega) (tfC_exit (by omega) hg q1  h1 h2) (fun y2 g4 r3 e5 => ?_) (fun E7 g4 e6 => ?_)
  · refine go_i2l kk314_0.1.2.1.1.2 r3 ?_
    refine go_ck (fun q8 => ?_)
    refine go_last kk314_0.1.2.1.2 e5 q8 (inL_R r3) (fun g9 e10 => ?_)
    refine go_goto kk314_0.1.2.2.1 ?_
    refine go_int kk314_0.2.2.2.1 0 rfl ?_
    exact go_iret kk314_0.2.2.2.2 e10 (inR_b (Or.inl rfl)) ⟨by decide, by decide⟩ rfl
  · refine ge_ite (fun hE9 => ?_) (fun _ => ?_)
    · subst hE9
      refine ge_catch rfl kk314_0.1.2.2.2 rfl (loc2 := [some (sR v0), some (sI v1), some (sI v2), some (sR v3), none]) rfl ?_
      refine go_int kk314_0.2.1.1.1.1 1 rfl ?_
      exact go_iret kk314_0.2.1.1.1.2 e6 (inR_b (Or.inr rfl)) ⟨by decide, by decide⟩ rfl
    refine ge_ite (fun hE9 => ?_) (fun _ => ?_)
    · subst hE9
      refine ge_catch rfl kk314_0.2.1.1.2 rfl (loc2 := [some (sR v0), some (sI v1), some (sI v2), some (sR v3), none]) rfl ?_
      refine go_int kk314_0.2.1.2.1 2 rfl ?_
      exact go_iret kk314_0.2.1.2.2 e6 (inR_of (by decide)) ⟨by decide, by decide⟩ rfl
    refine ge_ite (fun hE9 => ?_) (fun _ => ?_)
    · subst hE9
      refine ge_catch rfl kk314_0.2.2.1.1.1 rfl (loc2 := [some (sR v0), some (sI v1), some (sI v2), some (sR v3), none]) rfl ?_
      refine go_int kk314_0.2.2.1.1.2 3 rfl ?_
      exact go_iret kk314_0.2.2.1.2 e6 (inR_of (by decide)) ⟨by decide, by decide⟩ rfl
    exact ge_none
theorem tfC_checkKill {Φ : ev_P} {d : Nat} (hd : 1 ≤ d) {g : gH} (hg : HR g) {v0 v1 : Int} (h0 : InR v0) (h1 : InR v1) : Go Φ pr_P (fQ g) 0 (fC_checkKill g v0 v1) d (pr_P 70) 0 (ev_loc (pr_P 70).1 [(sI v0), (sI v1)]) [] g 0 0 := by
  show Go Φ pr_P (fQ g) 0 (fC_checkKill g v0 v1) d pr_m70 0 [some (sI v0), some (sI v1)] [] g 0 0
  unfold fC_checkKill
  refine go_iload kk70_0.1.1.1 rfl ?_
  refine go_int kk70_0.1.1.2 9 rfl ?_
  refine go_callQ0 kk70_0.1.2.1 rfl rfl rfl trivial ⟨by decide, by decide⟩ (by omega) (tfC_checkRange (by omega) hg  h0 (inR_of (by decide))) (fun y1 => ?_) (fun e5 E6 => ge_prop rfl ⟨by decide, by decide⟩ e5 rfl)
  refine go_iload kk70_0.1.2.2 rfl ?_
  refine go_int kk70_0.2.1.1 255 rfl ?_
  refine go_callQ0 kk70_0.2.1.2 rfl rfl rfl trivial ⟨by decide, by decide⟩ (by omega) (tfC_checkRange (by omega) hg  h1 (inR_of (by decide))) (fun y7 => ?_) (fun e11 E12 => ge_prop rfl ⟨by decide, by decide⟩ e11 rfl)
  exact go_vret kk70_0.2.2 hg ⟨by decide, by decide⟩ rfl
theorem tbT_killGroup_127 {Φ : ev_P} {d : Nat} (hd : 5 ≤ d) {v3 v4 v5 : Int} (h3 : InR v3) (h4 : RfR v4) (h5 : InR v5) {X127 : Int → gH → Option (Int × gH)} (HX127 : ∀ (v6 : Int) (h6 : InR v6) (g : gH) (hg : HR g) (u0 : Option ev_V) (w0 : nwo u0) (u1 : Option ev_V) (w1 : nwo u1) (u2 : Option ev_V) (w2 : nwo u2) (u7 : Option ev_V) (w7 : nwo u7), Go Φ pr_P fN 1 (X127 v6 g) d pr_m299 127 [u0, u1, u2, some (sI v3), some (sR v4), some (sI v5), some (sI v6), u7] [] g 0 0) : ∀ (v6 : Int) (h6 : InR v6) (g : gH) (hg : HR g) (u0 : Option ev_V) (w0 : nwo u0) (u1 : Option ev_V) (w1 : nwo u1) (u2 : Option ev_V) (w2 : nwo u2) (u7 : Option ev_V) (w7 : nwo u7), Go Φ pr_P fN 1 (bT_killGroup_127 v3 v4 v5 X127 v6 g) d pr_m299 127 [u0, u1, u2, some (sI v3), some (sR v4), some (sI v5), some (sI v6), u7] [] g 0 0 := by
  intro v6 h6 g hg u0 w0 u1 w1 u2 w2 u7 w7
  unfold bT_killGroup_127
  refine go_iload kk299_1.2.1.2.1.1.2 rfl ?_
  refine go_iload kk299_1.2.1.2.1.2 rfl ?_
  refine go_cmlt kk299_1.2.1.2.2.1 h6 h5 (fun c42 => ?_) (fun c43 => ?_)
  · refine go_aload kk299_1.2.1.2.2.2 rfl ?_
    refine go_iload kk299_1.2.2.1.1.1.1 rfl ?_
    refine go_ck (fun q45 => ?_)
    refine go_pald kk299_1.2.2.1.1.1.2 hg q45 (fun r44 => ?_)
    refine go_astore kk299_1.2.2.1.1.2 rfl (loc2 := [u0, u1, u2, some (sI v3), some (sR v4), some (sI v5), some (sI v6), some (sR (g v4 v6))]) rfl ?_
    refine go_aload kk299_1.2.2.1.2.1 rfl ?_
    refine go_int kk299_1.2.2.1.2.2 0 rfl ?_
    refine go_ck (fun q46 => ?_)
    refine go_putB (bI := 13) kk299_1.2.2.2.1.1.1 hg q46 (by decide) rfl rfl (Or.inl rfl) (fun g47 e48 => ?_)
    refine go_iinc kk299_1.2.2.2.1.1.2 rfl rfl 1 rfl (loc2 := [u0, u1, u2, some (sI v3), some (sR v4), some (sI v5), some (sI (w32 (v6 + 1))), some (sR (g v4 v6))]) rfl ?_
    refine go_goto kk299_1.2.2.2.1.2 ?_
    exact HX127 (w32 (v6 + 1)) (inR_w32 _) g47 e48 u0 w0 u1 w1 u2 w2 (some (sR (g v4 v6))) rfl
  · refine go_iload kk299_1.2.2.2.2.1 rfl ?_
    exact go_iret kk299_1.2.2.2.2.2 hg h3 ⟨Nat.zero_le _, Nat.zero_le _⟩ rfl
theorem tlT_killGroup_127 {Φ : ev_P} {d : Nat} (hd : 5 ≤ d) {v3 v4 v5 : Int} (h3 : InR v3) (h4 : RfR v4) (h5 : InR v5) : ∀ n : Nat, ∀ (v6 : Int) (h6 : InR v6) (g : gH) (hg : HR g) (u0 : Option ev_V) (w0 : nwo u0) (u1 : Option ev_V) (w1 : nwo u1) (u2 : Option ev_V) (w2 : nwo u2) (u7 : Option ev_V) (w7 : nwo u7), Go Φ pr_P fN 1 (lT_killGroup_127 v3 v4 v5 n v6 g) d pr_m299 127 [u0, u1, u2, some (sI v3), some (sR v4), some (sI v5), some (sI v6), u7] [] g 0 0 := by
  intro n
  induction n with
  | zero => intros; exact go_none
  | succ n ih => exact tbT_killGroup_127 hd h3 h4 h5 ih
theorem tjT_killGroup_113 {Φ : ev_P} {d : Nat} (hd : 5 ≤ d) {g : gH} (hg : HR g) {v0 v3 : Int} (hK0 : kd v0 = 5) (h3 : InR v3) (u1 : Option ev_V) (w1 : nwo u1) (u2 : Option ev_V) (w2 : nwo u2) (u4 : Option ev_V) (w4 : nwo u4) (u5 : Option ev_V) (w5 : nwo u5) (u6 : Option ev_V) (w6 : nwo u6) (u7 : Option ev_V) (w7 : nwo u7) : Go Φ pr_P fN 1 (jT_killGroup_113 g v0 v3 ) d pr_m299 113 [some (sR v0), u1, u2, some (sI v3), u4, u5, u6, u7] [] g 0 0 := by
  unfold jT_killGroup_113
  refine go_aload kk299_1.1.2.2.2.1 rfl ?_
  refine go_getR (bI := 1) kk299_1.1.2.2.2.2 hg hK0 (by decide) rfl rfl (fun r39 => ?_)
  refine go_astore kk299_1.2.1.1.1.1.1 rfl (loc2 := [some (sR v0), u1, u2, some (sI v3), some (sR (g v0 1)), u5, u6, u7]) rfl ?_
  refine go_aload kk299_1.2.1.1.1.1.2 rfl ?_
  refine go_ck (fun q41 => ?_)
  refine go_alen kk299_1.2.1.1.1.2 (ka_24 q41) (fun r40 => ?_)
  refine go_istore kk299_1.2.1.1.2.1 rfl (loc2 := [some (sR v0), u1, u2, some (sI v3), some (sR (g v0 1)), some (sI (sz (g v0 1))), u6, u7]) rfl ?_
  refine go_int kk299_1.2.1.1.2.2 0 rfl ?_
  refine go_istore kk299_1.2.1.2.1.1.1 rfl (loc2 := [some (sR v0), u1, u2, some (sI v3), some (sR (g v0 1)), some (sI (sz (g v0 1))), some (sI 0), u7]) rfl ?_
  exact tlT_killGroup_127 hd h3 r39 r40 fu 0 (inR_b (Or.inl rfl)) g hg (some (sR v0)) rfl u1 w1 u2 w2 u7 w7
theorem tbT_killGroup_74 {Φ : ev_P} {d : Nat} (hd : 5 ≤ d) {v0 v2 v4 v5 : Int} (hK0 : kd v0 = 5) (h2 : InR v2) (h4 : RfR v4) (h5 : InR v5) {X74 : Int → Int → gH → Option (Int × gH)} (HX74 : ∀ (v3 : Int) (h3 : InR v3) (v6 : Int) (h6 : InR v6) (g : gH) (hg : HR g) (u1 : Option ev_V) (w1 : nwo u1) (u7 : Option ev_V) (w7 : nwo u7), Go Φ pr_P fN 1 (X74 v3 v6 g) d pr_m299 74 [some (sR v0), u1, some (sI v2), some (sI v3), some (sR v4), some (sI v5), some (sI v6), u7] [] g 0 0) : ∀ (v3 : Int) (h3 : InR v3) (v6 : Int) (h6 : InR v6) (g : gH) (hg : HR g) (u1 : Option ev_V) (w1 : nwo u1) (u7 : Option ev_V) (w7 : nwo u7), Go Φ pr_P fN 1 (bT_killGroup_74 v0 v2 v4 v5 X74 v3 v6 g) d pr_m299 74 [some (sR v0), u1, some (sI v2), some (sI v3), some (sR v4), some (sI v5), some (sI v6), u7] [] g 0 0 := by
  intro v3 h3 v6 h6 g hg u1 w1 u7 w7
  unfold bT_killGroup_74
  refine go_iload kk299_1.1.1.1.1.1.1 rfl ?_
  refine go_iload kk299_1.1.1.1.1.1.2 rfl ?_
  refine go_cmlt kk299_1.1.1.1.1.2 h6 h5 (fun c27 => ?_) (fun c28 => ?_)
  · refine go_aload kk299_1.1.1.1.2.1 rfl ?_
    refine go_iload kk299_1.1.1.1.2.2 rfl ?_
    refine go_ck (fun q30 => ?_)
    refine go_pald kk299_1.1.1.2.1.1.1 hg q30 (fun r29 => ?_)
    refine go_astore kk299_1.1.1.2.1.1.2 rfl (loc2 := [some (sR v0), u1, some (sI v2), some (sI v3), some (sR v4), some (sI v5), some (sI v6), some (sR (g v4 v6))]) rfl ?_
    refine go_aload kk299_1.1.1.2.1.2 rfl ?_
    refine go_ck (fun q31 => ?_)
    refine go_getB (bI := 13) kk299_1.1.1.2.2.1 hg q31 (by decide) rfl rfl (fun r32 => ?_)
    refine go_ifeq kk299_1.1.1.2.2.2 (inR_b r32) (fun c33 => ?_) (fun c34 => ?_)
    · refine go_iinc kk299_1.1.2.2.1.1.2 rfl rfl 1 rfl (loc2 := [some (sR v0), u1, some (sI v2), some (sI v3), some (sR v4), some (sI v5), some (sI (w32 (v6 + 1))), some (sR (g v4 v6))]) rfl ?_
      refine go_goto kk299_1.1.2.2.1.2 ?_
      exact HX74 v3 h3 (w32 (v6 + 1)) (inR_w32 _) g hg u1 w1 (some (sR (g v4 v6))) rfl
    · refine go_aload kk299_1.1.2.1.1.1.1 rfl ?_
      refine go_aload kk299_1.1.2.1.1.1.2 rfl ?_
      refine go_iload kk299_1.1.2.1.1.2 rfl ?_
      refine go_callN1 kk299_1.1.2.1.2.1 rfl rfl rfl ⟨by decide, _, rfl, hK0⟩ ⟨Nat.zero_le _, Nat.zero_le _⟩ (by omega) (tfT_letExit (by omega) hg hK0  r29 h2) (fun y35 g37 r36 e38 => ?_)
      refine go_popI kk299_1.1.2.1.2.2 ?_
      refine go_iinc kk299_1.1.2.2.1.1.1 rfl rfl 1 rfl (loc2 := [some (sR v0), u1, some (sI v2), some (sI (w32 (v3 + 1))), some (sR v4), some (sI v5), some (sI v6), some (sR (g v4 v6))]) rfl ?_
      refine go_iinc kk299_1.1.2.2.1.1.2 rfl rfl 1 rfl (loc2 := [some (sR v0), u1, some (sI v2), some (sI (w32 (v3 + 1))), some (sR v4), some (sI v5), some (sI (w32 (v6 + 1))), some (sR (g v4 v6))]) rfl ?_
      refine go_goto kk299_1.1.2.2.1.2 ?_
      exact HX74 (w32 (v3 + 1)) (inR_w32 _) (w32 (v6 + 1)) (inR_w32 _) g37 e38 u1 w1 (some (sR (g v4 v6))) rfl
  · exact tjT_killGroup_113 hd hg hK0 h3 u1 w1 (some (sI v2)) rfl (some (sR v4)) rfl (some (sI v5)) rfl (some (sI v6)) rfl u7 w7
theorem tlT_killGroup_74 {Φ : ev_P} {d : Nat} (hd : 5 ≤ d) {v0 v2 v4 v5 : Int} (hK0 : kd v0 = 5) (h2 : InR v2) (h4 : RfR v4) (h5 : InR v5) : ∀ n : Nat, ∀ (v3 : Int) (h3 : InR v3) (v6 : Int) (h6 : InR v6) (g : gH) (hg : HR g) (u1 : Option ev_V) (w1 : nwo u1) (u7 : Option ev_V) (w7 : nwo u7), Go Φ pr_P fN 1 (lT_killGroup_74 v0 v2 v4 v5 n v3 v6 g) d pr_m299 74 [some (sR v0), u1, some (sI v2), some (sI v3), some (sR v4), some (sI v5), some (sI v6), u7] [] g 0 0 := by
  intro n
  induction n with
  | zero => intros; exact go_none
  | succ n ih => exact tbT_killGroup_74 hd hK0 h2 h4 h5 ih
theorem tjT_killGroup_58 {Φ : ev_P} {d : Nat} (hd : 5 ≤ d) {g : gH} (hg : HR g) {v0 v2 : Int} (hK0 : kd v0 = 5) (h2 : InR v2) (u1 : Option ev_V) (w1 : nwo u1) (u3 : Option ev_V) (w3 : nwo u3) (u4 : Option ev_V) (w4 : nwo u4) (u5 : Option ev_V) (w5 : nwo u5) (u6 : Option ev_V) (w6 : nwo u6) (u7 : Option ev_V) (w7 : nwo u7) : Go Φ pr_P fN 1 (jT_killGroup_58 g v0 v2 ) d pr_m299 58 [some (sR v0), u1, some (sI v2), u3, u4, u5, u6, u7] [] g 0 0 := by
  unfold jT_killGroup_58
  refine go_int kk299_0.2.1.2.2.2 0 rfl ?_
  refine go_istore kk299_0.2.2.1.1.1.1 rfl (loc2 := [some (sR v0), u1, some (sI v2), some (sI 0), u4, u5, u6, u7]) rfl ?_
  refine go_aload kk299_0.2.2.1.1.1.2 rfl ?_
  refine go_getR (bI := 1) kk299_0.2.2.1.1.2 hg hK0 (by decide) rfl rfl (fun r24 => ?_)
  refine go_astore kk299_0.2.2.1.2.1 rfl (loc2 := [some (sR v0), u1, some (sI v2), some (sI 0), some (sR (g v0 1)), u5, u6, u7]) rfl ?_
  refine go_aload kk299_0.2.2.1.2.2 rfl ?_
  refine go_ck (fun q26 => ?_)
  refine go_alen kk299_0.2.2.2.1.1 (ka_24 q26) (fun r25 => ?_)
  refine go_istore kk299_0.2.2.2.1.2 rfl (loc2 := [some (sR v0), u1, some (sI v2), some (sI 0), some (sR (g v0 1)), some (sI (sz (g v0 1))), u6, u7]) rfl ?_
  refine go_int kk299_0.2.2.2.2.1 0 rfl ?_
  refine go_istore kk299_0.2.2.2.2.2 rfl (loc2 := [some (sR v0), u1, some (sI v2), some (sI 0), some (sR (g v0 1)), some (sI (sz (g v0 1))), some (sI 0), u7]) rfl ?_
  exact tlT_killGroup_74 hd hK0 h2 r24 r25 fu 0 (inR_b (Or.inl rfl)) 0 (inR_b (Or.inl rfl)) g hg u1 w1 u7 w7
theorem tbT_killGroup_12 {Φ : ev_P} {d : Nat} (hd : 5 ≤ d) {v0 v1 v2 v3 v4 : Int} (hK0 : kd v0 = 5) (h1 : InR v1) (h2 : InR v2) (h3 : RfR v3) (h4 : InR v4) {X12 : Int → gH → Option (Int × gH)} (HX12 : ∀ (v5 : Int) (h5 : InR v5) (g : gH) (hg : HR g) (u6 : Option ev_V) (w6 : nwo u6) (u7 : Option ev_V) (w7 : nwo u7), Go Φ pr_P fN 1 (X12 v5 g) d pr_m299 12 [some (sR v0), some (sI v1), some (sI v2), some (sR v3), some (sI v4), some (sI v5), u6, u7] [] g 0 0) : ∀ (v5 : Int) (h5 : InR v5) (g : gH) (hg : HR g) (u6 : Option ev_V) (w6 : nwo u6) (u7 : Option ev_V) (w7 : nwo u7), Go Φ pr_P fN 1 (bT_killGroup_12 v0 v1 v2 v3 v4 X12 v5 g) d pr_m299 12 [some (sR v0), some (sI v1), some (sI v2), some (sR v3), some (sI v4), some (sI v5), u6, u7] [] g 0 0 := by
  intro v5 h5 g hg u6 w6 u7 w7
  unfold bT_killGroup_12
  refine go_iload kk299_0.1.1.2.2.1 rfl ?_
  refine go_iload kk299_0.1.1.2.2.2 rfl ?_
  refine go_cmlt kk299_0.1.2.1.1.1.1 h5 h4 (fun c4 => ?_) (fun c5 => ?_)
  · refine go_aload kk299_0.1.2.1.1.1.2 rfl ?_
    refine go_iload kk299_0.1.2.1.1.2 rfl ?_
    refine go_ck (fun q7 => ?_)
    refine go_pald kk299_0.1.2.1.2.1 hg q7 (fun r6 => ?_)
    refine go_astore kk299_0.1.2.1.2.2 rfl (loc2 := [some (sR v0), some (sI v1), some (sI v2), some (sR v3), some (sI v4), some (sI v5), some (sR (g v3 v5)), u7]) rfl ?_
    refine go_aload kk299_0.1.2.2.1.1.1 rfl ?_
    refine go_aload kk299_0.1.2.2.1.1.2 rfl ?_
    refine go_ck (fun q8 => ?_)
    refine go_callP3 kk299_0.1.2.2.1.2 rfl rfl rfl ⟨by decide, _, rfl, q8⟩ ⟨Nat.zero_le _, Nat.zero_le _⟩ (by omega) (tfP_isMortal (by omega) hg q8 ) (fun y9 r10 => ?_)
    refine go_ifeq kk299_0.1.2.2.2.1 (inR_b r10) (fun c13 => ?_) (fun c14 => ?_)
    · refine go_int kk299_0.2.1.2.1.1.1 0 rfl ?_
      refine go_putB (bI := 13) kk299_0.2.1.2.1.1.2 hg q8 (by decide) rfl rfl (Or.inl rfl) (fun g15 e16 => ?_)
      refine go_iinc kk299_0.2.1.2.1.2 rfl rfl 1 rfl (loc2 := [some (sR v0), some (sI v1), some (sI v2), some (sR v3), some (sI v4), some (sI (w32 (v5 + 1))), some (sR (g v3 v5)), u7]) rfl ?_
      refine go_goto kk299_0.2.1.2.2.1 ?_
      exact HX12 (w32 (v5 + 1)) (inR_w32 _) g15 e16 (some (sR (g v3 v5))) rfl u7 w7
    · refine go_aload kk299_0.1.2.2.2.2 rfl ?_
      refine go_getI (bI := 5) kk299_0.2.1.1.1.1.1 hg q8 (by decide) rfl rfl (fun r17 => ?_)
      refine go_iload kk299_0.2.1.1.1.1.2 rfl ?_
      refine go_cmeq kk299_0.2.1.1.1.2 r17 h1 (fun c18 => ?_) (fun c19 => ?_)
      · refine go_int kk299_0.2.1.1.2.1 1 rfl ?_
        refine go_goto kk299_0.2.1.1.2.2 ?_
        refine go_putB (bI := 13) kk299_0.2.1.2.1.1.2 hg q8 (by decide) rfl rfl (Or.inr rfl) (fun g20 e21 => ?_)
        refine go_iinc kk299_0.2.1.2.1.2 rfl rfl 1 rfl (loc2 := [some (sR v0), some (sI v1), some (sI v2), some (sR v3), some (sI v4), some (sI (w32 (v5 + 1))), some (sR (g v3 v5)), u7]) rfl ?_
        refine go_goto kk299_0.2.1.2.2.1 ?_
        exact HX12 (w32 (v5 + 1)) (inR_w32 _) g20 e21 (some (sR (g v3 v5))) rfl u7 w7
      · refine go_int kk299_0.2.1.2.1.1.1 0 rfl ?_
        refine go_putB (bI := 13) kk299_0.2.1.2.1.1.2 hg q8 (by decide) rfl rfl (Or.inl rfl) (fun g22 e23 => ?_)
        refine go_iinc kk299_0.2.1.2.1.2 rfl rfl 1 rfl (loc2 := [some (sR v0), some (sI v1), some (sI v2), some (sR v3), some (sI v4), some (sI (w32 (v5 + 1))), some (sR (g v3 v5)), u7]) rfl ?_
        refine go_goto kk299_0.2.1.2.2.1 ?_
        exact HX12 (w32 (v5 + 1)) (inR_w32 _) g22 e23 (some (sR (g v3 v5))) rfl u7 w7
  · exact tjT_killGroup_58 hd hg hK0 h2 (some (sI v1)) rfl (some (sR v3)) rfl (some (sI v4)) rfl (some (sI v5)) rfl u6 w6 u7 w7
theorem tlT_killGroup_12 {Φ : ev_P} {d : Nat} (hd : 5 ≤ d) {v0 v1 v2 v3 v4 : Int} (hK0 : kd v0 = 5) (h1 : InR v1) (h2 : InR v2) (h3 : RfR v3) (h4 : InR v4) : ∀ n : Nat, ∀ (v5 : Int) (h5 : InR v5) (g : gH) (hg : HR g) (u6 : Option ev_V) (w6 : nwo u6) (u7 : Option ev_V) (w7 : nwo u7), Go Φ pr_P fN 1 (lT_killGroup_12 v0 v1 v2 v3 v4 n v5 g) d pr_m299 12 [some (sR v0), some (sI v1), some (sI v2), some (sR v3), some (sI v4), some (sI v5), u6, u7] [] g 0 0 := by
  intro n
  induction n with
  | zero => intros; exact go_none
  | succ n ih => exact tbT_killGroup_12 hd hK0 h1 h2 h3 h4 ih
theorem tfT_killGroup {Φ : ev_P} {d : Nat} (hd : 5 ≤ d) {g : gH} (hg : HR g) {v0 v1 v2 : Int} (hK0 : kd v0 = 5) (h1 : InR v1) (h2 : InR v2) : Go Φ pr_P fN 1 (fT_killGroup g v0 v1 v2) d (pr_P 299) 0 (ev_loc (pr_P 299).1 [(sR v0), (sI v1), (sI v2)]) [] g 0 0 := by
  show Go Φ pr_P fN 1 (fT_killGroup g v0 v1 v2) d pr_m299 0 [some (sR v0), some (sI v1), some (sI v2), none, none, none, none, none] [] g 0 0
  unfold fT_killGroup
  refine go_aload kk299_0.1.1.1.1.1.1 rfl ?_
  refine go_getR (bI := 1) kk299_0.1.1.1.1.1.2 hg hK0 (by decide) rfl rfl (fun r1 => ?_)
  refine go_astore kk299_0.1.1.1.1.2 rfl (loc2 := [some (sR v0), some (sI v1), some (sI v2), some (sR (g v0 1)), none, none, none, none]) rfl ?_
  refine go_aload kk299_0.1.1.1.2.1 rfl ?_
  refine go_ck (fun q3 => ?_)
  refine go_alen kk299_0.1.1.1.2.2 (ka_24 q3) (fun r2 => ?_)
  refine go_istore kk299_0.1.1.2.1.1.1 rfl (loc2 := [some (sR v0), some (sI v1), some (sI v2), some (sR (g v0 1)), some (sI (sz (g v0 1))), none, none, none]) rfl ?_
  refine go_int kk299_0.1.1.2.1.1.2 0 rfl ?_
  refine go_istore kk299_0.1.1.2.1.2 rfl (loc2 := [some (sR v0), some (sI v1), some (sI v2), some (sR (g v0 1)), some (sI (sz (g v0 1))), some (sI 0), none, none]) rfl ?_
  exact tlT_killGroup_12 hd hK0 h1 h2 r1 r2 fu 0 (inR_b (Or.inl rfl)) g hg none rfl none rfl
theorem tfC_kill {Φ : ev_P} {d : Nat} (hd : 6 ≤ d) {g : gH} (hg : HR g) {v0 v1 v2 : Int} (hK0 : kd v0 = 6) (h1 : InR v1) (h2 : InR v2) : Go Φ pr_P fT 1 (fC_kill g v0 v1 v2) d (pr_P 19) 0 (ev_loc (pr_P 19).1 [(sR v0), (sI v1), (sI v2)]) [] g 0 0 := by
  show Go Φ pr_P fT 1 (fC_kill g v0 v1 v2) d pr_m19 0 [some (sR v0), some (sI v1), some (sI v2)] [] g 0 0
  unfold fC_kill
  refine go_iload kk19_0.1.1.1.1 rfl ?_
  refine go_iload kk19_0.1.1.1.2 rfl ?_
  refine go_callQ0 kk19_0.1.1.2.1 rfl rfl rfl trivial ⟨by decide, by decide⟩ (by omega) (tfC_checkKill (by omega) hg  h1 h2) (fun y1 => ?_) (fun e5 E6 => ge_prop rfl ⟨by decide, by decide⟩ e5 rfl)
  refine go_aload kk19_0.1.1.2.2 rfl ?_
  refine go_getR (bI := 3) kk19_0.1.2.1.1 hg hK0 (by decide) rfl rfl (fun r7 => ?_)
  refine go_aload kk19_0.1.2.1.2 rfl ?_
  refine go_getR (bI := 0) kk19_0.1.2.2 hg hK0 (by decide) rfl rfl (fun r8 => ?_)
  refine go_ck (fun q9 => ?_)
  refine go_callN0 kk19_0.2.1.1.1 rfl rfl rfl ⟨by decide, _, rfl, q9⟩ ⟨by decide, by decide⟩ (by omega) (tfH_push (by omega) hg q9  r8) (fun y10 g12 e13 => ?_)
  refine go_aload kk19_0.2.1.1.2 rfl ?_
  refine go_getR (bI := 0) kk19_0.2.1.2.1 e13 hK0 (by decide) rfl rfl (fun r14 => ?_)
  refine go_iload kk19_0.2.1.2.2 rfl ?_
  refine go_iload kk19_0.2.2.1.1 rfl ?_
  refine go_ck (fun q15 => ?_)
  refine go_callN1 kk19_0.2.2.1.2 rfl rfl rfl ⟨by decide, _, rfl, q15⟩ ⟨by decide, by decide⟩ (by omega) (tfT_killGroup (by omega) e13 q15  h1 h2) (fun y16 g18 r17 e19 => ?_)
  exact go_iret kk19_0.2.2.2 e19 r17 ⟨by decide, by decide⟩ rfl
theorem tfW_kill {Φ : ev_P} {d : Nat} (hd : 7 ≤ d) {g : gH} (hg : HR g) {v0 v1 v2 v3 : Int} (h0 : RfR v0) (h1 : InR v1) (h2 : InR v2) (h3 : RfR v3) : Go Φ pr_P fN 1 (fW_kill g v0 v1 v2 v3) d (pr_P 315) 0 (ev_loc (pr_P 315).1 [(sR v0), (sI v1), (sI v2), (sR v3)]) [] g 0 0 := by
  show Go Φ pr_P fN 1 (fW_kill g v0 v1 v2 v3) d pr_m315 0 [some (sR v0), some (sI v1), some (sI v2), some (sR v3), none] [] g 0 0
  unfold fW_kill
  refine go_aload kk315_0.1.1.1.1 rfl ?_
  refine go_int kk315_0.1.1.1.2 0 rfl ?_
  refine go_aload kk315_0.1.1.2.1 rfl ?_
  refine go_iload kk315_0.1.1.2.2 rfl ?_
  refine go_iload kk315_0.1.2.1.1 rfl ?_
  refine go_ck (fun q1 => ?_)
  refine go_callT1 kk315_0.1.2.1.2 rfl rfl rfl ⟨by decide, _, rfl, q1⟩ ⟨by decide, by decide⟩ (by omega) (tfC_kill (by omega) hg q1  h1 h2) (fun y2 g4 r3 e5 => ?_) (fun E7 g4 e6 => ?_)
  · refine go_i2l kk315_0.1.2.2 r3 ?_
    refine go_ck (fun q8 => ?_)
    refine go_last kk315_0.2.1.1.1 e5 q8 (inL_R r3) (fun g9 e10 => ?_)
    refine go_goto kk315_0.2.1.1.2 ?_
    refine go_int kk315_0.2.2.1.2 0 rfl ?_
    exact go_iret kk315_0.2.2.2 e10 (inR_b (Or.inl rfl)) ⟨by decide, by decide⟩ rfl
  · refine ge_ite (fun hE9 => ?_) (fun _ => ?_)
    · subst hE9
      refine ge_catch rfl kk315_0.2.1.2.1 rfl (loc2 := [some (sR v0), some (sI v1), some (sI v2), some (sR v3), none]) rfl ?_
      refine go_int kk315_0.2.1.2.2 1 rfl ?_
      exact go_iret kk315_0.2.2.1.1 e6 (inR_b (Or.inr rfl)) ⟨by decide, by decide⟩ rfl
    exact ge_none
theorem tbT_zombieBehind_16 {Φ : ev_P} {d : Nat} (hd : 1 ≤ d) {g : gH} (hg : HR g) {v1 v2 v4 v5 : Int} (h1 : RfR v1) (h2 : InR v2) (h4 : RfR v4) (h5 : InR v5) {X16 : Int → Int → Option Int} (HX16 : ∀ (v3 : Int) (h3 : RfR v3) (v6 : Int) (h6 : InR v6) (u0 : Option ev_V) (w0 : nwo u0) (u7 : Option ev_V) (w7 : nwo u7), Go Φ pr_P (fP g) 2 (X16 v3 v6) d pr_m281 16 [u0, some (sR v1), some (sI v2), some (sR v3), some (sR v4), some (sI v5), some (sI v6), u7] [] g 0 0) : ∀ (v3 : Int) (h3 : RfR v3) (v6 : Int) (h6 : InR v6) (u0 : Option ev_V) (w0 : nwo u0) (u7 : Option ev_V) (w7 : nwo u7), Go Φ pr_P (fP g) 2 (bT_zombieBehind_16 g v1 v2 v4 v5 X16 v3 v6) d pr_m281 16 [u0, some (sR v1), some (sI v2), some (sR v3), some (sR v4), some (sI v5), some (sI v6), u7] [] g 0 0 := by
  intro v3 h3 v6 h6 u0 w0 u7 w7
  unfold bT_zombieBehind_16
  refine go_iload kk281_0.1.2.1.1.1.1 rfl ?_
  refine go_iload kk281_0.1.2.1.1.1.2 rfl ?_
  refine go_cmlt kk281_0.1.2.1.1.2 h6 h5 (fun c4 => ?_) (fun c5 => ?_)
  · refine go_aload kk281_0.1.2.1.2.1 rfl ?_
    refine go_iload kk281_0.1.2.1.2.2 rfl ?_
    refine go_ck (fun q7 => ?_)
    refine go_pald kk281_0.1.2.2.1.1 hg q7 (fun r6 => ?_)
    refine go_astore kk281_0.1.2.2.1.2 rfl (loc2 := [u0, some (sR v1), some (sI v2), some (sR v3), some (sR v4), some (sI v5), some (sI v6), some (sR (g v4 v6))]) rfl ?_
    refine go_aload kk281_0.1.2.2.2.1 rfl ?_
    refine go_aload kk281_0.1.2.2.2.2 rfl ?_
    refine go_ck (fun q8 => ?_)
    refine go_callP3 kk281_0.2.1.1.1.1.1 rfl rfl rfl ⟨by decide, _, rfl, q8⟩ ⟨Nat.zero_le _, Nat.zero_le _⟩ (by omega) (tfP_isZombieOf (by omega) hg q8  h1) (fun y9 r10 => ?_)
    refine go_ifeq kk281_0.2.1.1.1.1.2 (inR_b r10) (fun c13 => ?_) (fun c14 => ?_)
    · refine go_iinc kk281_0.2.2.2.1.1 rfl rfl 1 rfl (loc2 := [u0, some (sR v1), some (sI v2), some (sR v3), some (sR v4), some (sI v5), some (sI (w32 (v6 + 1))), some (sR (g v4 v6))]) rfl ?_
      refine go_goto kk281_0.2.2.2.1.2 ?_
      exact HX16 v3 h3 (w32 (v6 + 1)) (inR_w32 _) u0 w0 (some (sR (g v4 v6))) rfl
    · refine go_aload kk281_0.2.1.1.1.2 rfl ?_
      refine go_getI (bI := 10) kk281_0.2.1.1.2.1 hg q8 (by decide) rfl rfl (fun r15 => ?_)
      refine go_iload kk281_0.2.1.1.2.2 rfl ?_
      refine go_cmgt kk281_0.2.1.2.1.1.1 r15 h2 (fun c16 => ?_) (fun c17 => ?_)
      · refine go_aload kk281_0.2.1.2.1.1.2 rfl ?_
        refine go_isnull kk281_0.2.1.2.1.2  (fun c18 => ?_) (fun c19 => ?_)
        · refine go_aload kk281_0.2.2.1.2.1 rfl ?_
          refine go_astore kk281_0.2.2.1.2.2 rfl (loc2 := [u0, some (sR v1), some (sI v2), some (sR (g v4 v6)), some (sR v4), some (sI v5), some (sI v6), some (sR (g v4 v6))]) rfl ?_
          refine go_iinc kk281_0.2.2.2.1.1 rfl rfl 1 rfl (loc2 := [u0, some (sR v1), some (sI v2), some (sR (g v4 v6)), some (sR v4), some (sI v5), some (sI (w32 (v6 + 1))), some (sR (g v4 v6))]) rfl ?_
          refine go_goto kk281_0.2.2.2.1.2 ?_
          exact HX16 (g v4 v6) r6 (w32 (v6 + 1)) (inR_w32 _) u0 w0 (some (sR (g v4 v6))) rfl
        · refine go_aload kk281_0.2.1.2.2.1 rfl ?_
          refine go_getI (bI := 10) kk281_0.2.1.2.2.2 hg q8 (by decide) rfl rfl (fun r20 => ?_)
          refine go_aload kk281_0.2.2.1.1.1.1 rfl ?_
          refine go_ck (fun q21 => ?_)
          refine go_getI (bI := 10) kk281_0.2.2.1.1.1.2 hg q21 (by decide) rfl rfl (fun r22 => ?_)
          refine go_cmlt kk281_0.2.2.1.1.2 r20 r22 (fun c23 => ?_) (fun c24 => ?_)
          · refine go_aload kk281_0.2.2.1.2.1 rfl ?_
            refine go_astore kk281_0.2.2.1.2.2 rfl (loc2 := [u0, some (sR v1), some (sI v2), some (sR (g v4 v6)), some (sR v4), some (sI v5), some (sI v6), some (sR (g v4 v6))]) rfl ?_
            refine go_iinc kk281_0.2.2.2.1.1 rfl rfl 1 rfl (loc2 := [u0, some (sR v1), some (sI v2), some (sR (g v4 v6)), some (sR v4), some (sI v5), some (sI (w32 (v6 + 1))), some (sR (g v4 v6))]) rfl ?_
            refine go_goto kk281_0.2.2.2.1.2 ?_
            exact HX16 (g v4 v6) r6 (w32 (v6 + 1)) (inR_w32 _) u0 w0 (some (sR (g v4 v6))) rfl
          · refine go_iinc kk281_0.2.2.2.1.1 rfl rfl 1 rfl (loc2 := [u0, some (sR v1), some (sI v2), some (sR v3), some (sR v4), some (sI v5), some (sI (w32 (v6 + 1))), some (sR (g v4 v6))]) rfl ?_
            refine go_goto kk281_0.2.2.2.1.2 ?_
            exact HX16 v3 h3 (w32 (v6 + 1)) (inR_w32 _) u0 w0 (some (sR (g v4 v6))) rfl
      · refine go_iinc kk281_0.2.2.2.1.1 rfl rfl 1 rfl (loc2 := [u0, some (sR v1), some (sI v2), some (sR v3), some (sR v4), some (sI v5), some (sI (w32 (v6 + 1))), some (sR (g v4 v6))]) rfl ?_
        refine go_goto kk281_0.2.2.2.1.2 ?_
        exact HX16 v3 h3 (w32 (v6 + 1)) (inR_w32 _) u0 w0 (some (sR (g v4 v6))) rfl
  · refine go_aload kk281_0.2.2.2.2.1 rfl ?_
    exact go_aret kk281_0.2.2.2.2.2 hg h3 ⟨Nat.zero_le _, Nat.zero_le _⟩ rfl
theorem tlT_zombieBehind_16 {Φ : ev_P} {d : Nat} (hd : 1 ≤ d) {g : gH} (hg : HR g) {v1 v2 v4 v5 : Int} (h1 : RfR v1) (h2 : InR v2) (h4 : RfR v4) (h5 : InR v5) : ∀ n : Nat, ∀ (v3 : Int) (h3 : RfR v3) (v6 : Int) (h6 : InR v6) (u0 : Option ev_V) (w0 : nwo u0) (u7 : Option ev_V) (w7 : nwo u7), Go Φ pr_P (fP g) 2 (lT_zombieBehind_16 g v1 v2 v4 v5 n v3 v6) d pr_m281 16 [u0, some (sR v1), some (sI v2), some (sR v3), some (sR v4), some (sI v5), some (sI v6), u7] [] g 0 0 := by
  intro n
  induction n with
  | zero => intros; exact go_none
  | succ n ih => exact tbT_zombieBehind_16 hd hg h1 h2 h4 h5 ih
theorem tfT_zombieBehind {Φ : ev_P} {d : Nat} (hd : 1 ≤ d) {g : gH} (hg : HR g) {v0 v1 v2 : Int} (hK0 : kd v0 = 5) (h1 : RfR v1) (h2 : InR v2) : Go Φ pr_P (fP g) 2 (fT_zombieBehind g v0 v1 v2) d (pr_P 281) 0 (ev_loc (pr_P 281).1 [(sR v0), (sR v1), (sI v2)]) [] g 0 0 := by
  show Go Φ pr_P (fP g) 2 (fT_zombieBehind g v0 v1 v2) d pr_m281 0 [some (sR v0), some (sR v1), some (sI v2), none, none, none, none, none] [] g 0 0
  unfold fT_zombieBehind
  refine go_null kk281_0.1.1.1.1.1.1 ?_
  refine go_astore kk281_0.1.1.1.1.1.2 rfl (loc2 := [some (sR v0), some (sR v1), some (sI v2), some (sR (-1)), none, none, none, none]) rfl ?_
  refine go_aload kk281_0.1.1.1.1.2 rfl ?_
  refine go_getR (bI := 1) kk281_0.1.1.1.2.1 hg hK0 (by decide) rfl rfl (fun r1 => ?_)
  refine go_astore kk281_0.1.1.1.2.2 rfl (loc2 := [some (sR v0), some (sR v1), some (sI v2), some (sR (-1)), some (sR (g v0 1)), none, none, none]) rfl ?_
  refine go_aload kk281_0.1.1.2.1.1.1 rfl ?_
  refine go_ck (fun q3 => ?_)
  refine go_alen kk281_0.1.1.2.1.1.2 (ka_24 q3) (fun r2 => ?_)
  refine go_istore kk281_0.1.1.2.1.2 rfl (loc2 := [some (sR v0), some (sR v1), some (sI v2), some (sR (-1)), some (sR (g v0 1)), some (sI (sz (g v0 1))), none, none]) rfl ?_
  refine go_int kk281_0.1.1.2.2.1 0 rfl ?_
  refine go_istore kk281_0.1.1.2.2.2 rfl (loc2 := [some (sR v0), some (sR v1), some (sI v2), some (sR (-1)), some (sR (g v0 1)), some (sI (sz (g v0 1))), some (sI 0), none]) rfl ?_
  exact tlT_zombieBehind_16 hd hg h1 h2 r1 r2 fu (-1) rfR_null 0 (inR_b (Or.inl rfl)) (some (sR v0)) rfl none rfl
theorem tfC_read {Φ : ev_P} {d : Nat} (hd : 3 ≤ d) {g : gH} (hg : HR g) {v0 v1 : Int} (hK0 : kd v0 = 6) (h1 : InR v1) : Go Φ pr_P fT 1 (fC_read g v0 v1) d (pr_P 20) 0 (ev_loc (pr_P 20).1 [(sR v0), (sI v1)]) [] g 0 0 := by
  show Go Φ pr_P fT 1 (fC_read g v0 v1) d pr_m20 0 [some (sR v0), some (sI v1), none, none] [] g 0 0
  unfold fC_read
  refine go_aload kk20_0.1.1.1.1.1 rfl ?_
  refine go_iload kk20_0.1.1.1.1.2 rfl ?_
  refine go_callQ2 kk20_0.1.1.1.2.1 rfl rfl rfl ⟨by decide, _, rfl, hK0⟩ ⟨by decide, by decide⟩ (by omega) (tfC_named (by omega) hg hK0  h1) (fun y1 r2 => ?_) (fun e5 E6 => ge_prop rfl ⟨by decide, by decide⟩ e5 rfl)
  refine go_astore kk20_0.1.1.1.2.2 rfl (loc2 := [some (sR v0), some (sI v1), some (sR y1), none]) rfl ?_
  refine go_aload kk20_0.1.1.2.1.1 rfl ?_
  refine go_ck (fun q7 => ?_)
  refine go_callP3 kk20_0.1.1.2.1.2 rfl rfl rfl ⟨by decide, _, rfl, q7⟩ ⟨by decide, by decide⟩ (by omega) (tfP_isRunning (by omega) hg q7 ) (fun y8 r9 => ?_)
  refine go_callQ0 kk20_0.1.1.2.2.1 rfl rfl rfl trivial ⟨by decide, by decide⟩ (by omega) (tfC_checkState (by omega) hg  r9) (fun y12 => ?_) (fun e16 E17 => ge_prop rfl ⟨by decide, by decide⟩ e16 rfl)
  refine go_aload kk20_0.1.1.2.2.2 rfl ?_
  refine go_getR (bI := 0) kk20_0.1.2.1.1.1 hg hK0 (by decide) rfl rfl (fun r18 => ?_)
  refine go_aload kk20_0.1.2.1.1.2 rfl ?_
  refine go_int kk20_0.1.2.1.2.1 (-1) rfl ?_
  refine go_ck (fun q19 => ?_)
  refine go_callP2 kk20_0.1.2.1.2.2 rfl rfl rfl ⟨by decide, _, rfl, q19⟩ ⟨by decide, by decide⟩ (by omega) (tfT_zombieBehind (by omega) hg q19  r2 (inR_of (by decide))) (fun y20 r21 => ?_)
  refine go_astore kk20_0.1.2.2.1.1 rfl (loc2 := [some (sR v0), some (sI v1), some (sR y1), some (sR y20)]) rfl ?_
  refine go_aload kk20_0.1.2.2.1.2 rfl ?_
  refine go_isnull kk20_0.1.2.2.2.1  (fun c24 => ?_) (fun c25 => ?_)
  · exact go_throw kk20_0.1.2.2.2.2 hg ⟨by decide, by decide⟩ rfl rfl
  · refine go_aload kk20_0.2.1.1.1.1 rfl ?_
    refine go_getR (bI := 3) kk20_0.2.1.1.1.2 hg hK0 (by decide) rfl rfl (fun r26 => ?_)
    refine go_aload kk20_0.2.1.1.2.1 rfl ?_
    refine go_getR (bI := 0) kk20_0.2.1.1.2.2 hg hK0 (by decide) rfl rfl (fun r27 => ?_)
    refine go_ck (fun q28 => ?_)
    refine go_callN0 kk20_0.2.1.2.1.1 rfl rfl rfl ⟨by decide, _, rfl, q28⟩ ⟨by decide, by decide⟩ (by omega) (tfH_push (by omega) hg q28  r27) (fun y29 g31 e32 => ?_)
    refine go_aload kk20_0.2.1.2.1.2 rfl ?_
    refine go_int kk20_0.2.1.2.2.1 2 rfl ?_
    refine go_ck (fun q33 => ?_)
    refine go_putI (bI := 1) kk20_0.2.1.2.2.2 e32 q33 (by decide) rfl rfl (inR_of (by decide)) (fun g34 e35 => ?_)
    refine go_int kk20_0.2.2.1.1.1 1000 rfl ?_
    refine go_aload kk20_0.2.2.1.1.2 rfl ?_
    refine go_getI (bI := 0) kk20_0.2.2.1.2.1 e35 q33 (by decide) rfl rfl (fun r36 => ?_)
    refine go_ibin kk20_0.2.2.1.2.2 ?_
    refine go_aload kk20_0.2.2.2.1.1 rfl ?_
    refine go_getI (bI := 9) kk20_0.2.2.2.1.2 e35 q33 (by decide) rfl rfl (fun r37 => ?_)
    refine go_iadd kk20_0.2.2.2.2.1 ?_
    exact go_iret kk20_0.2.2.2.2.2 e35 (inR_w32 _) ⟨by decide, by decide⟩ rfl
theorem tfW_read {Φ : ev_P} {d : Nat} (hd : 4 ≤ d) {g : gH} (hg : HR g) {v0 v1 v2 : Int} (h0 : RfR v0) (h1 : InR v1) (h2 : RfR v2) : Go Φ pr_P fN 1 (fW_read g v0 v1 v2) d (pr_P 316) 0 (ev_loc (pr_P 316).1 [(sR v0), (sI v1), (sR v2)]) [] g 0 0 := by
  show Go Φ pr_P fN 1 (fW_read g v0 v1 v2) d pr_m316 0 [some (sR v0), some (sI v1), some (sR v2), none] [] g 0 0
  unfold fW_read
  refine go_aload kk316_0.1.1.1.1.1 rfl ?_
  refine go_int kk316_0.1.1.1.1.2 0 rfl ?_
  refine go_aload kk316_0.1.1.1.2 rfl ?_
  refine go_iload kk316_0.1.1.2.1 rfl ?_
  refine go_ck (fun q1 => ?_)
  refine go_callT1 kk316_0.1.1.2.2 rfl rfl rfl ⟨by decide, _, rfl, q1⟩ ⟨by decide, by decide⟩ (by omega) (tfC_read (by omega) hg q1  h1) (fun y2 g4 r3 e5 => ?_) (fun E7 g4 e6 => ?_)
  · refine go_i2l kk316_0.1.2.1.1.1 r3 ?_
    refine go_ck (fun q8 => ?_)
    refine go_last kk316_0.1.2.1.1.2 e5 q8 (inL_R r3) (fun g9 e10 => ?_)
    refine go_goto kk316_0.1.2.1.2 ?_
    refine go_int kk316_0.2.2.2.1 0 rfl ?_
    exact go_iret kk316_0.2.2.2.2 e10 (inR_b (Or.inl rfl)) ⟨by decide, by decide⟩ rfl
  · refine ge_ite (fun hE9 => ?_) (fun _ => ?_)
    · subst hE9
      refine ge_catch rfl kk316_0.1.2.2.1 rfl (loc2 := [some (sR v0), some (sI v1), some (sR v2), none]) rfl ?_
      refine go_int kk316_0.1.2.2.2 1 rfl ?_
      exact go_iret kk316_0.2.1.1.1.1 e6 (inR_b (Or.inr rfl)) ⟨by decide, by decide⟩ rfl
    refine ge_ite (fun hE9 => ?_) (fun _ => ?_)
    · subst hE9
      refine ge_catch rfl kk316_0.2.1.1.1.2 rfl (loc2 := [some (sR v0), some (sI v1), some (sR v2), none]) rfl ?_
      refine go_int kk316_0.2.1.1.2 2 rfl ?_
      exact go_iret kk316_0.2.1.2.1 e6 (inR_of (by decide)) ⟨by decide, by decide⟩ rfl
    refine ge_ite (fun hE9 => ?_) (fun _ => ?_)
    · subst hE9
      refine ge_catch rfl kk316_0.2.1.2.2 rfl (loc2 := [some (sR v0), some (sI v1), some (sR v2), none]) rfl ?_
      refine go_int kk316_0.2.2.1.1 3 rfl ?_
      exact go_iret kk316_0.2.2.1.2 e6 (inR_of (by decide)) ⟨by decide, by decide⟩ rfl
    exact ge_none
theorem tbT_loseGroup_16 {Φ : ev_P} {d : Nat} (hd : 4 ≤ d) {v0 v1 v2 v4 v5 : Int} (hK0 : kd v0 = 5) (h1 : RfR v1) (h2 : InR v2) (h4 : RfR v4) (h5 : InR v5) {X16 : Int → Int → gH → Option (Int × gH)} (HX16 : ∀ (v3 : Int) (h3 : InR v3) (v6 : Int) (h6 : InR v6) (g : gH) (hg : HR g) (u7 : Option ev_V) (w7 : nwo u7), Go Φ pr_P fN 1 (X16 v3 v6 g) d pr_m300 16 [some (sR v0), some (sR v1), some (sI v2), some (sI v3), some (sR v4), some (sI v5), some (sI v6), u7] [] g 0 0) : ∀ (v3 : Int) (h3 : InR v3) (v6 : Int) (h6 : InR v6) (g : gH) (hg : HR g) (u7 : Option ev_V) (w7 : nwo u7), Go Φ pr_P fN 1 (bT_loseGroup_16 v0 v1 v2 v4 v5 X16 v3 v6 g) d pr_m300 16 [some (sR v0), some (sR v1), some (sI v2), some (sI v3), some (sR v4), some (sI v5), some (sI v6), u7] [] g 0 0 := by
  intro v3 h3 v6 h6 g hg u7 w7
  unfold bT_loseGroup_16
  refine go_iload kk300_0.1.2.1.1.1.2 rfl ?_
  refine go_iload kk300_0.1.2.1.1.2 rfl ?_
  refine go_cmlt kk300_0.1.2.1.2.1 h6 h5 (fun c4 => ?_) (fun c5 => ?_)
  · refine go_aload kk300_0.1.2.1.2.2 rfl ?_
    refine go_iload kk300_0.1.2.2.1.1 rfl ?_
    refine go_ck (fun q7 => ?_)
    refine go_pald kk300_0.1.2.2.1.2 hg q7 (fun r6 => ?_)
    refine go_astore kk300_0.1.2.2.2.1 rfl (loc2 := [some (sR v0), some (sR v1), some (sI v2), some (sI v3), some (sR v4), some (sI v5), some (sI v6), some (sR (g v4 v6))]) rfl ?_
    refine go_aload kk300_0.1.2.2.2.2 rfl ?_
    refine go_aload kk300_0.2.1.1.1.1.1 rfl ?_
    refine go_ck (fun q8 => ?_)
    refine go_callP3 kk300_0.2.1.1.1.1.2 rfl rfl rfl ⟨by decide, _, rfl, q8⟩ ⟨Nat.zero_le _, Nat.zero_le _⟩ (by omega) (tfP_isRunningChildOf (by omega) hg q8  h1) (fun y9 r10 => ?_)
    refine go_ifeq kk300_0.2.1.1.1.2 (inR_b r10) (fun c13 => ?_) (fun c14 => ?_)
    · refine go_iinc kk300_0.2.2.2.1.1 rfl rfl 1 rfl (loc2 := [some (sR v0), some (sR v1), some (sI v2), some (sI v3), some (sR v4), some (sI v5), some (sI (w32 (v6 + 1))), some (sR (g v4 v6))]) rfl ?_
      refine go_goto kk300_0.2.2.2.1.2 ?_
      exact HX16 v3 h3 (w32 (v6 + 1)) (inR_w32 _) g hg (some (sR (g v4 v6))) rfl
    · refine go_aload kk300_0.2.1.1.2.1 rfl ?_
      refine go_getI (bI := 5) kk300_0.2.1.1.2.2 hg q8 (by decide) rfl rfl (fun r15 => ?_)
      refine go_iload kk300_0.2.1.2.1.1 rfl ?_
      refine go_cmeq kk300_0.2.1.2.1.2 r15 h2 (fun c16 => ?_) (fun c17 => ?_)
      · refine go_aload kk300_0.2.1.2.2.1 rfl ?_
        refine go_aload kk300_0.2.1.2.2.2 rfl ?_
        refine go_aload kk300_0.2.2.1.1.1.1 rfl ?_
        refine go_aload kk300_0.2.2.1.1.1.2 rfl ?_
        refine go_callP2 kk300_0.2.2.1.1.2 rfl rfl rfl ⟨by decide, _, rfl, hK0⟩ ⟨Nat.zero_le _, Nat.zero_le _⟩ (by omega) (tfT_adopterOf (by omega) hg hK0  r6) (fun y18 r19 => ?_)
        refine go_callN0 kk300_0.2.2.1.2.1 rfl rfl rfl ⟨by decide, _, rfl, hK0⟩ ⟨Nat.zero_le _, Nat.zero_le _⟩ (by omega) (tfT_adopt (by omega) hg hK0  r6 r19) (fun y22 g24 e25 => ?_)
        refine go_iinc kk300_0.2.2.1.2.2 rfl rfl 1 rfl (loc2 := [some (sR v0), some (sR v1), some (sI v2), some (sI (w32 (v3 + 1))), some (sR v4), some (sI v5), some (sI v6), some (sR (g v4 v6))]) rfl ?_
        refine go_iinc kk300_0.2.2.2.1.1 rfl rfl 1 rfl (loc2 := [some (sR v0), some (sR v1), some (sI v2), some (sI (w32 (v3 + 1))), some (sR v4), some (sI v5), some (sI (w32 (v6 + 1))), some (sR (g v4 v6))]) rfl ?_
        refine go_goto kk300_0.2.2.2.1.2 ?_
        exact HX16 (w32 (v3 + 1)) (inR_w32 _) (w32 (v6 + 1)) (inR_w32 _) g24 e25 (some (sR (g v4 v6))) rfl
      · refine go_iinc kk300_0.2.2.2.1.1 rfl rfl 1 rfl (loc2 := [some (sR v0), some (sR v1), some (sI v2), some (sI v3), some (sR v4), some (sI v5), some (sI (w32 (v6 + 1))), some (sR (g v4 v6))]) rfl ?_
        refine go_goto kk300_0.2.2.2.1.2 ?_
        exact HX16 v3 h3 (w32 (v6 + 1)) (inR_w32 _) g hg (some (sR (g v4 v6))) rfl
  · refine go_iload kk300_0.2.2.2.2.1 rfl ?_
    exact go_iret kk300_0.2.2.2.2.2 hg h3 ⟨Nat.zero_le _, Nat.zero_le _⟩ rfl
theorem tlT_loseGroup_16 {Φ : ev_P} {d : Nat} (hd : 4 ≤ d) {v0 v1 v2 v4 v5 : Int} (hK0 : kd v0 = 5) (h1 : RfR v1) (h2 : InR v2) (h4 : RfR v4) (h5 : InR v5) : ∀ n : Nat, ∀ (v3 : Int) (h3 : InR v3) (v6 : Int) (h6 : InR v6) (g : gH) (hg : HR g) (u7 : Option ev_V) (w7 : nwo u7), Go Φ pr_P fN 1 (lT_loseGroup_16 v0 v1 v2 v4 v5 n v3 v6 g) d pr_m300 16 [some (sR v0), some (sR v1), some (sI v2), some (sI v3), some (sR v4), some (sI v5), some (sI v6), u7] [] g 0 0 := by
  intro n
  induction n with
  | zero => intros; exact go_none
  | succ n ih => exact tbT_loseGroup_16 hd hK0 h1 h2 h4 h5 ih
theorem tfT_loseGroup {Φ : ev_P} {d : Nat} (hd : 4 ≤ d) {g : gH} (hg : HR g) {v0 v1 v2 : Int} (hK0 : kd v0 = 5) (h1 : RfR v1) (h2 : InR v2) : Go Φ pr_P fN 1 (fT_loseGroup g v0 v1 v2) d (pr_P 300) 0 (ev_loc (pr_P 300).1 [(sR v0), (sR v1), (sI v2)]) [] g 0 0 := by
  show Go Φ pr_P fN 1 (fT_loseGroup g v0 v1 v2) d pr_m300 0 [some (sR v0), some (sR v1), some (sI v2), none, none, none, none, none] [] g 0 0
  unfold fT_loseGroup
  refine go_int kk300_0.1.1.1.1.1.1 0 rfl ?_
  refine go_istore kk300_0.1.1.1.1.1.2 rfl (loc2 := [some (sR v0), some (sR v1), some (sI v2), some (sI 0), none, none, none, none]) rfl ?_
  refine go_aload kk300_0.1.1.1.1.2 rfl ?_
  refine go_getR (bI := 1) kk300_0.1.1.1.2.1 hg hK0 (by decide) rfl rfl (fun r1 => ?_)
  refine go_astore kk300_0.1.1.1.2.2 rfl (loc2 := [some (sR v0), some (sR v1), some (sI v2), some (sI 0), some (sR (g v0 1)), none, none, none]) rfl ?_
  refine go_aload kk300_0.1.1.2.1.1 rfl ?_
  refine go_ck (fun q3 => ?_)
  refine go_alen kk300_0.1.1.2.1.2 (ka_24 q3) (fun r2 => ?_)
  refine go_istore kk300_0.1.1.2.2.1 rfl (loc2 := [some (sR v0), some (sR v1), some (sI v2), some (sI 0), some (sR (g v0 1)), some (sI (sz (g v0 1))), none, none]) rfl ?_
  refine go_int kk300_0.1.1.2.2.2 0 rfl ?_
  refine go_istore kk300_0.1.2.1.1.1.1 rfl (loc2 := [some (sR v0), some (sR v1), some (sI v2), some (sI 0), some (sR (g v0 1)), some (sI (sz (g v0 1))), some (sI 0), none]) rfl ?_
  exact tlT_loseGroup_16 hd hK0 h1 h2 r1 r2 fu 0 (inR_b (Or.inl rfl)) 0 (inR_b (Or.inl rfl)) g hg none rfl
theorem tfC_refuse {Φ : ev_P} {d : Nat} (hd : 5 ≤ d) {g : gH} (hg : HR g) {v0 v1 v2 : Int} (hK0 : kd v0 = 6) (h1 : InR v1) (h2 : InR v2) : Go Φ pr_P fT 1 (fC_refuse g v0 v1 v2) d (pr_P 21) 0 (ev_loc (pr_P 21).1 [(sR v0), (sI v1), (sI v2)]) [] g 0 0 := by
  show Go Φ pr_P fT 1 (fC_refuse g v0 v1 v2) d pr_m21 0 [some (sR v0), some (sI v1), some (sI v2), none] [] g 0 0
  unfold fC_refuse
  refine go_aload kk21_0.1.1.1.1.1 rfl ?_
  refine go_iload kk21_0.1.1.1.1.2 rfl ?_
  refine go_callQ2 kk21_0.1.1.1.2.1 rfl rfl rfl ⟨by decide, _, rfl, hK0⟩ ⟨by decide, by decide⟩ (by omega) (tfC_named (by omega) hg hK0  h1) (fun y1 r2 => ?_) (fun e5 E6 => ge_prop rfl ⟨by decide, by decide⟩ e5 rfl)
  refine go_astore kk21_0.1.1.1.2.2 rfl (loc2 := [some (sR v0), some (sI v1), some (sI v2), some (sR y1)]) rfl ?_
  refine go_iload kk21_0.1.1.2.1.1 rfl ?_
  refine go_int kk21_0.1.1.2.1.2 9 rfl ?_
  refine go_callQ0 kk21_0.1.1.2.2.1 rfl rfl rfl trivial ⟨by decide, by decide⟩ (by omega) (tfC_checkRange (by omega) hg  h2 (inR_of (by decide))) (fun y7 => ?_) (fun e11 E12 => ge_prop rfl ⟨by decide, by decide⟩ e11 rfl)
  refine go_aload kk21_0.1.1.2.2.2 rfl ?_
  refine go_ck (fun q13 => ?_)
  refine go_callP3 kk21_0.1.2.1.1.1 rfl rfl rfl ⟨by decide, _, rfl, q13⟩ ⟨by decide, by decide⟩ (by omega) (tfP_isMortal (by omega) hg q13 ) (fun y14 r15 => ?_)
  refine go_callQ0 kk21_0.1.2.1.1.2 rfl rfl rfl trivial ⟨by decide, by decide⟩ (by omega) (tfC_checkState (by omega) hg  r15) (fun y18 => ?_) (fun e22 E23 => ge_prop rfl ⟨by decide, by decide⟩ e22 rfl)
  refine go_aload kk21_0.1.2.1.2.1 rfl ?_
  refine go_getR (bI := 3) kk21_0.1.2.1.2.2 hg hK0 (by decide) rfl rfl (fun r24 => ?_)
  refine go_aload kk21_0.1.2.2.1.1 rfl ?_
  refine go_getR (bI := 0) kk21_0.1.2.2.1.2 hg hK0 (by decide) rfl rfl (fun r25 => ?_)
  refine go_ck (fun q26 => ?_)
  refine go_callN0 kk21_0.1.2.2.2 rfl rfl rfl ⟨by decide, _, rfl, q26⟩ ⟨by decide, by decide⟩ (by omega) (tfH_push (by omega) hg q26  r25) (fun y27 g29 e30 => ?_)
  refine go_aload kk21_0.2.1.1.1.1 rfl ?_
  refine go_dupR kk21_0.2.1.1.1.2 ?_
  refine go_getI (bI := 8) kk21_0.2.1.1.2.1 e30 q13 (by decide) rfl rfl (fun r31 => ?_)
  refine go_int kk21_0.2.1.1.2.2 1 rfl ?_
  refine go_iload kk21_0.2.1.2.1.1 rfl ?_
  refine go_ibin kk21_0.2.1.2.1.2 ?_
  refine go_ibin kk21_0.2.1.2.2 ?_
  refine go_putI (bI := 8) kk21_0.2.2.1.1.1 e30 q13 (by decide) rfl rfl (inR_opI _ _ _) (fun g32 e33 => ?_)
  refine go_aload kk21_0.2.2.1.1.2 rfl ?_
  refine go_getR (bI := 0) kk21_0.2.2.1.2.1 e33 hK0 (by decide) rfl rfl (fun r34 => ?_)
  refine go_aload kk21_0.2.2.1.2.2 rfl ?_
  refine go_iload kk21_0.2.2.2.1.1 rfl ?_
  refine go_ck (fun q35 => ?_)
  refine go_callN1 kk21_0.2.2.2.1.2 rfl rfl rfl ⟨by decide, _, rfl, q35⟩ ⟨by decide, by decide⟩ (by omega) (tfT_loseGroup (by omega) e33 q35  r2 h2) (fun y36 g38 r37 e39 => ?_)
  exact go_iret kk21_0.2.2.2.2 e39 r37 ⟨by decide, by decide⟩ rfl
theorem tfW_refuse {Φ : ev_P} {d : Nat} (hd : 6 ≤ d) {g : gH} (hg : HR g) {v0 v1 v2 v3 : Int} (h0 : RfR v0) (h1 : InR v1) (h2 : InR v2) (h3 : RfR v3) : Go Φ pr_P fN 1 (fW_refuse g v0 v1 v2 v3) d (pr_P 317) 0 (ev_loc (pr_P 317).1 [(sR v0), (sI v1), (sI v2), (sR v3)]) [] g 0 0 := by
  show Go Φ pr_P fN 1 (fW_refuse g v0 v1 v2 v3) d pr_m317 0 [some (sR v0), some (sI v1), some (sI v2), some (sR v3), none] [] g 0 0
  unfold fW_refuse
  refine go_aload kk317_0.1.1.1.1.1 rfl ?_
  refine go_int kk317_0.1.1.1.1.2 0 rfl ?_
  refine go_aload kk317_0.1.1.1.2 rfl ?_
  refine go_iload kk317_0.1.1.2.1 rfl ?_
  refine go_iload kk317_0.1.1.2.2 rfl ?_
  refine go_ck (fun q1 => ?_)
  refine go_callT1 kk317_0.1.2.1.1.1 rfl rfl rfl ⟨by decide, _, rfl, q1⟩ ⟨by decide, by decide⟩ (by omega) (tfC_refuse (by omega) hg q1  h1 h2) (fun y2 g4 r3 e5 => ?_) (fun E7 g4 e6 => ?_)
  · refine go_i2l kk317_0.1.2.1.1.2 r3 ?_
    refine go_ck (fun q8 => ?_)
    refine go_last kk317_0.1.2.1.2 e5 q8 (inL_R r3) (fun g9 e10 => ?_)
    refine go_goto kk317_0.1.2.2.1 ?_
    refine go_int kk317_0.2.2.2.1 0 rfl ?_
    exact go_iret kk317_0.2.2.2.2 e10 (inR_b (Or.inl rfl)) ⟨by decide, by decide⟩ rfl
  · refine ge_ite (fun hE9 => ?_) (fun _ => ?_)
    · subst hE9
      refine ge_catch rfl kk317_0.1.2.2.2 rfl (loc2 := [some (sR v0), some (sI v1), some (sI v2), some (sR v3), none]) rfl ?_
      refine go_int kk317_0.2.1.1.1.1 1 rfl ?_
      exact go_iret kk317_0.2.1.1.1.2 e6 (inR_b (Or.inr rfl)) ⟨by decide, by decide⟩ rfl
    refine ge_ite (fun hE9 => ?_) (fun _ => ?_)
    · subst hE9
      refine ge_catch rfl kk317_0.2.1.1.2 rfl (loc2 := [some (sR v0), some (sI v1), some (sI v2), some (sR v3), none]) rfl ?_
      refine go_int kk317_0.2.1.2.1 2 rfl ?_
      exact go_iret kk317_0.2.1.2.2 e6 (inR_of (by decide)) ⟨by decide, by decide⟩ rfl
    refine ge_ite (fun hE9 => ?_) (fun _ => ?_)
    · subst hE9
      refine ge_catch rfl kk317_0.2.2.1.1.1 rfl (loc2 := [some (sR v0), some (sI v1), some (sI v2), some (sR v3), none]) rfl ?_
      refine go_int kk317_0.2.2.1.1.2 3 rfl ?_
      exact go_iret kk317_0.2.2.1.2 e6 (inR_of (by decide)) ⟨by decide, by decide⟩ rfl
    exact ge_none
theorem tfC_accept {Φ : ev_P} {d : Nat} (hd : 3 ≤ d) {g : gH} (hg : HR g) {v0 v1 v2 : Int} (hK0 : kd v0 = 6) (h1 : InR v1) (h2 : InR v2) : Go Φ pr_P fT 3 (fC_accept g v0 v1 v2) d (pr_P 22) 0 (ev_loc (pr_P 22).1 [(sR v0), (sI v1), (sI v2)]) [] g 0 0 := by
  show Go Φ pr_P fT 3 (fC_accept g v0 v1 v2) d pr_m22 0 [some (sR v0), some (sI v1), some (sI v2), none, none] [] g 0 0
  unfold fC_accept
  refine go_aload kk22_0.1.1.1.1.1 rfl ?_
  refine go_iload kk22_0.1.1.1.1.2 rfl ?_
  refine go_callQ2 kk22_0.1.1.1.2.1 rfl rfl rfl ⟨by decide, _, rfl, hK0⟩ ⟨by decide, by decide⟩ (by omega) (tfC_named (by omega) hg hK0  h1) (fun y1 r2 => ?_) (fun e5 E6 => ge_prop rfl ⟨by decide, by decide⟩ e5 rfl)
  refine go_astore kk22_0.1.1.1.2.2 rfl (loc2 := [some (sR v0), some (sI v1), some (sI v2), some (sR y1), none]) rfl ?_
  refine go_iload kk22_0.1.1.2.1.1 rfl ?_
  refine go_int kk22_0.1.1.2.1.2 9 rfl ?_
  refine go_callQ0 kk22_0.1.1.2.2.1 rfl rfl rfl trivial ⟨by decide, by decide⟩ (by omega) (tfC_checkRange (by omega) hg  h2 (inR_of (by decide))) (fun y7 => ?_) (fun e11 E12 => ge_prop rfl ⟨by decide, by decide⟩ e11 rfl)
  refine go_aload kk22_0.1.1.2.2.2 rfl ?_
  refine go_ck (fun q13 => ?_)
  refine go_callP3 kk22_0.1.2.1.1.1 rfl rfl rfl ⟨by decide, _, rfl, q13⟩ ⟨by decide, by decide⟩ (by omega) (tfP_isRunning (by omega) hg q13 ) (fun y14 r15 => ?_)
  refine go_callQ0 kk22_0.1.2.1.1.2 rfl rfl rfl trivial ⟨by decide, by decide⟩ (by omega) (tfC_checkState (by omega) hg  r15) (fun y18 => ?_) (fun e22 E23 => ge_prop rfl ⟨by decide, by decide⟩ e22 rfl)
  refine go_aload kk22_0.1.2.1.2.1 rfl ?_
  refine go_getR (bI := 3) kk22_0.1.2.1.2.2 hg hK0 (by decide) rfl rfl (fun r24 => ?_)
  refine go_aload kk22_0.1.2.2.1.1 rfl ?_
  refine go_getR (bI := 0) kk22_0.1.2.2.1.2 hg hK0 (by decide) rfl rfl (fun r25 => ?_)
  refine go_ck (fun q26 => ?_)
  refine go_callN0 kk22_0.1.2.2.2.1 rfl rfl rfl ⟨by decide, _, rfl, q26⟩ ⟨by decide, by decide⟩ (by omega) (tfH_push (by omega) hg q26  r25) (fun y27 g29 e30 => ?_)
  refine go_aload kk22_0.1.2.2.2.2 rfl ?_
  refine go_iload kk22_0.2.1.1.1.1 rfl ?_
  refine go_callP3 kk22_0.2.1.1.1.2 rfl rfl rfl ⟨by decide, _, rfl, q13⟩ ⟨by decide, by decide⟩ (by omega) (tfP_refuses (by omega) e30 q13  h2) (fun y31 r32 => ?_)
  refine go_istore kk22_0.2.1.1.2.1 rfl (loc2 := [some (sR v0), some (sI v1), some (sI v2), some (sR y1), some (sI y31)]) rfl ?_
  refine go_aload kk22_0.2.1.1.2.2 rfl ?_
  refine go_dupR kk22_0.2.1.2.1.1 ?_
  refine go_getI (bI := 8) kk22_0.2.1.2.1.2 e30 q13 (by decide) rfl rfl (fun r35 => ?_)
  refine go_int kk22_0.2.1.2.2.1 1 rfl ?_
  refine go_iload kk22_0.2.1.2.2.2 rfl ?_
  refine go_ibin kk22_0.2.2.1.1.1 ?_
  refine go_int kk22_0.2.2.1.1.2 (-1) rfl ?_
  refine go_ibin kk22_0.2.2.1.2.1 ?_
  refine go_ibin kk22_0.2.2.1.2.2 ?_
  refine go_putI (bI := 8) kk22_0.2.2.2.1.1 e30 q13 (by decide) rfl rfl (inR_opI _ _ _) (fun g36 e37 => ?_)
  refine go_iload kk22_0.2.2.2.1.2 rfl ?_
  exact go_bret kk22_0.2.2.2.2 e37 r32 ⟨by decide, by decide⟩ rfl
theorem tfW_accept {Φ : ev_P} {d : Nat} (hd : 4 ≤ d) {g : gH} (hg : HR g) {v0 v1 v2 v3 : Int} (h0 : RfR v0) (h1 : InR v1) (h2 : InR v2) (h3 : RfR v3) : Go Φ pr_P fN 1 (fW_accept g v0 v1 v2 v3) d (pr_P 318) 0 (ev_loc (pr_P 318).1 [(sR v0), (sI v1), (sI v2), (sR v3)]) [] g 0 0 := by
  show Go Φ pr_P fN 1 (fW_accept g v0 v1 v2 v3) d pr_m318 0 [some (sR v0), some (sI v1), some (sI v2), some (sR v3), none] [] g 0 0
  unfold fW_accept
  refine go_aload kk318_0.1.1.1.1.1 rfl ?_
  refine go_int kk318_0.1.1.1.1.2 0 rfl ?_
  refine go_aload kk318_0.1.1.1.2 rfl ?_
  refine go_iload kk318_0.1.1.2.1.1 rfl ?_
  refine go_iload kk318_0.1.1.2.1.2 rfl ?_
  refine go_ck (fun q1 => ?_)
  refine go_callT3 kk318_0.1.1.2.2 rfl rfl rfl ⟨by decide, _, rfl, q1⟩ ⟨by decide, by decide⟩ (by omega) (tfC_accept (by omega) hg q1  h1 h2) (fun y2 g4 r3 e5 => ?_) (fun E7 g4 e6 => ?_)
  · refine go_ifeq kk318_0.1.2.1.1.1 (inR_b r3) (fun c8 => ?_) (fun c9 => ?_)
    · refine go_lconst kk318_0.1.2.2.1.1 0 rfl ?_
      refine go_ck (fun q10 => ?_)
      refine go_last kk318_0.1.2.2.1.2 e5 q10 (inL_of (by decide)) (fun g11 e12 => ?_)
      refine go_goto kk318_0.1.2.2.2 ?_
      refine go_int kk318_0.2.2.2.1 0 rfl ?_
      exact go_iret kk318_0.2.2.2.2 e12 (inR_b (Or.inl rfl)) ⟨by decide, by decide⟩ rfl
    · refine go_lconst kk318_0.1.2.1.1.2 1 rfl ?_
      refine go_goto kk318_0.1.2.1.2 ?_
      refine go_ck (fun q13 => ?_)
      refine go_last kk318_0.1.2.2.1.2 e5 q13 (inL_of (by decide)) (fun g14 e15 => ?_)
      refine go_goto kk318_0.1.2.2.2 ?_
      refine go_int kk318_0.2.2.2.1 0 rfl ?_
      exact go_iret kk318_0.2.2.2.2 e15 (inR_b (Or.inl rfl)) ⟨by decide, by decide⟩ rfl
  · refine ge_ite (fun hE9 => ?_) (fun _ => ?_)
    · subst hE9
      refine ge_catch rfl kk318_0.2.1.1.1.1 rfl (loc2 := [some (sR v0), some (sI v1), some (sI v2), some (sR v3), none]) rfl ?_
      refine go_int kk318_0.2.1.1.1.2 1 rfl ?_
      exact go_iret kk318_0.2.1.1.2 e6 (inR_b (Or.inr rfl)) ⟨by decide, by decide⟩ rfl
    refine ge_ite (fun hE9 => ?_) (fun _ => ?_)
    · subst hE9
      refine ge_catch rfl kk318_0.2.1.2.1.1 rfl (loc2 := [some (sR v0), some (sI v1), some (sI v2), some (sR v3), none]) rfl ?_
      refine go_int kk318_0.2.1.2.1.2 2 rfl ?_
      exact go_iret kk318_0.2.1.2.2 e6 (inR_of (by decide)) ⟨by decide, by decide⟩ rfl
    refine ge_ite (fun hE9 => ?_) (fun _ => ?_)
    · subst hE9
      refine ge_catch rfl kk318_0.2.2.1.1.1 rfl (loc2 := [some (sR v0), some (sI v1), some (sI v2), some (sR v3), none]) rfl ?_
      refine go_int kk318_0.2.2.1.1.2 3 rfl ?_
      exact go_iret kk318_0.2.2.1.2 e6 (inR_of (by decide)) ⟨by decide, by decide⟩ rfl
    exact ge_none
theorem tjC_move_60 {Φ : ev_P} {d : Nat} (hd : 3 ≤ d) {g : gH} (hg : HR g) {v0 v3 v4 : Int} (hK0 : kd v0 = 6) (h3 : RfR v3) (h4 : RfR v4) {s0 : Int} (z0 : B01 s0) (u1 : Option ev_V) (w1 : nwo u1) (u2 : Option ev_V) (w2 : nwo u2) (u5 : Option ev_V) (w5 : nwo u5) : Go Φ pr_P fT 1 (jC_move_60 g v0 v3 v4 s0 ) d pr_m23 60 [some (sR v0), u1, u2, some (sR v3), some (sR v4), u5] [(sI s0)] g 2 12 := by
  unfold jC_move_60
  refine go_callQ0 kk23_0.2.1.2.1.1.2 rfl rfl rfl trivial ⟨by decide, by decide⟩ (by omega) (tfC_checkState (by omega) hg  z0) (fun y42 => ?_) (fun e46 E47 => ge_prop rfl ⟨by decide, by decide⟩ e46 rfl)
  refine go_aload kk23_0.2.1.2.1.2 rfl ?_
  refine go_getR (bI := 3) kk23_0.2.1.2.2.1 hg hK0 (by decide) rfl rfl (fun r48 => ?_)
  refine go_aload kk23_0.2.1.2.2.2 rfl ?_
  refine go_getR (bI := 0) kk23_0.2.2.1.1.1.1 hg hK0 (by decide) rfl rfl (fun r49 => ?_)
  refine go_ck (fun q50 => ?_)
  refine go_callN0 kk23_0.2.2.1.1.1.2 rfl rfl rfl ⟨by decide, _, rfl, q50⟩ ⟨by decide, by decide⟩ (by omega) (tfH_push (by omega) hg q50  r49) (fun y51 g53 e54 => ?_)
  refine go_aload kk23_0.2.2.1.1.2 rfl ?_
  refine go_ck (fun q55 => ?_)
  refine go_getR (bI := 2) kk23_0.2.2.1.2.1.1 e54 q55 (by decide) rfl rfl (fun r56 => ?_)
  refine go_callP1 kk23_0.2.2.1.2.1.2 rfl rfl rfl trivial ⟨by decide, by decide⟩ (by omega) (tfC_numberOf (by omega) e54  r56) (fun y57 r58 => ?_)
  refine go_istore kk23_0.2.2.1.2.2 rfl (loc2 := [some (sR v0), u1, u2, some (sR v3), some (sR v4), some (sI y57)]) rfl ?_
  refine go_aload kk23_0.2.2.2.1.1.1 rfl ?_
  refine go_aload kk23_0.2.2.2.1.1.2 rfl ?_
  refine go_callN0 kk23_0.2.2.2.1.2 rfl rfl rfl ⟨by decide, _, rfl, q55⟩ ⟨by decide, by decide⟩ (by omega) (tfP_putUnder (by omega) e54 q55  h4) (fun y61 g63 e64 => ?_)
  refine go_iload kk23_0.2.2.2.2.1 rfl ?_
  exact go_iret kk23_0.2.2.2.2.2 e64 r58 ⟨by decide, by decide⟩ rfl
theorem tjC_move_59 {Φ : ev_P} {d : Nat} (hd : 3 ≤ d) {g : gH} (hg : HR g) {v0 v3 v4 : Int} (hK0 : kd v0 = 6) (h3 : RfR v3) (h4 : RfR v4) (u1 : Option ev_V) (w1 : nwo u1) (u2 : Option ev_V) (w2 : nwo u2) (u5 : Option ev_V) (w5 : nwo u5) : Go Φ pr_P fT 1 (jC_move_59 g v0 v3 v4 ) d pr_m23 59 [some (sR v0), u1, u2, some (sR v3), some (sR v4), u5] [] g 2 12 := by
  unfold jC_move_59
  refine go_int kk23_0.2.1.2.1.1.1 0 rfl ?_
  exact tjC_move_60 hd hg hK0 h3 h4 (Or.inl rfl) u1 w1 u2 w2 u5 w5
theorem tfC_move {Φ : ev_P} {d : Nat} (hd : 3 ≤ d) {g : gH} (hg : HR g) {v0 v1 v2 : Int} (hK0 : kd v0 = 6) (h1 : InR v1) (h2 : InR v2) : Go Φ pr_P fT 1 (fC_move g v0 v1 v2) d (pr_P 23) 0 (ev_loc (pr_P 23).1 [(sR v0), (sI v1), (sI v2)]) [] g 0 0 := by
  show Go Φ pr_P fT 1 (fC_move g v0 v1 v2) d pr_m23 0 [some (sR v0), some (sI v1), some (sI v2), none, none, none] [] g 0 0
  unfold fC_move
  refine go_aload kk23_0.1.1.1.1.1.1 rfl ?_
  refine go_iload kk23_0.1.1.1.1.1.2 rfl ?_
  refine go_callQ2 kk23_0.1.1.1.1.2 rfl rfl rfl ⟨by decide, _, rfl, hK0⟩ ⟨by decide, by decide⟩ (by omega) (tfC_named (by omega) hg hK0  h1) (fun y1 r2 => ?_) (fun e5 E6 => ge_prop rfl ⟨by decide, by decide⟩ e5 rfl)
  refine go_astore kk23_0.1.1.1.2.1.1 rfl (loc2 := [some (sR v0), some (sI v1), some (sI v2), some (sR y1), none, none]) rfl ?_
  refine go_aload kk23_0.1.1.1.2.1.2 rfl ?_
  refine go_iload kk23_0.1.1.1.2.2 rfl ?_
  refine go_callQ2 kk23_0.1.1.2.1.1.1 rfl rfl rfl ⟨by decide, _, rfl, hK0⟩ ⟨by decide, by decide⟩ (by omega) (tfC_named (by omega) hg hK0  h2) (fun y7 r8 => ?_) (fun e11 E12 => ge_prop rfl ⟨by decide, by decide⟩ e11 rfl)
  refine go_astore kk23_0.1.1.2.1.1.2 rfl (loc2 := [some (sR v0), some (sI v1), some (sI v2), some (sR y1), some (sR y7), none]) rfl ?_
  refine go_aload kk23_0.1.1.2.1.2 rfl ?_
  refine go_ck (fun q13 => ?_)
  refine go_callP3 kk23_0.1.1.2.2.1 rfl rfl rfl ⟨by decide, _, rfl, q13⟩ ⟨by decide, by decide⟩ (by omega) (tfP_isMortal (by omega) hg q13 ) (fun y14 r15 => ?_)
  refine go_ifeq kk23_0.1.1.2.2.2 (inR_b r15) (fun c18 => ?_) (fun c19 => ?_)
  · exact tjC_move_59 hd hg hK0 r2 r8 (some (sI v1)) rfl (some (sI v2)) rfl none rfl
  · refine go_aload kk23_0.1.2.1.1.1.1 rfl ?_
    refine go_ck (fun q20 => ?_)
    refine go_callP1 kk23_0.1.2.1.1.1.2 rfl rfl rfl ⟨by decide, _, rfl, q20⟩ ⟨by decide, by decide⟩ (by omega) (tfP_room (by omega) hg q20 ) (fun y21 r22 => ?_)
    refine go_ifgt kk23_0.1.2.1.1.2 r22 (fun c25 => ?_) (fun c26 => ?_)
    · refine go_aload kk23_0.1.2.1.2.1.1 rfl ?_
      refine go_aload kk23_0.1.2.1.2.1.2 rfl ?_
      refine go_acmp kk23_0.1.2.1.2.2 r8 r2 (fun c27 => ?_) (fun c28 => ?_)
      · exact tjC_move_59 hd hg hK0 r2 r8 (some (sI v1)) rfl (some (sI v2)) rfl none rfl
      · refine go_aload kk23_0.1.2.2.1.1.1 rfl ?_
        refine go_aload kk23_0.1.2.2.1.1.2 rfl ?_
        refine go_callP3 kk23_0.1.2.2.1.2 rfl rfl rfl ⟨by decide, _, rfl, q13⟩ ⟨by decide, by decide⟩ (by omega) (tfP_isOver (by omega) hg q13  r8) (fun y29 r30 => ?_)
        refine go_ifeq kk23_0.1.2.2.2.1 (inR_b r30) (fun c33 => ?_) (fun c34 => ?_)
        · refine go_aload kk23_0.1.2.2.2.2 rfl ?_
          refine go_aload kk23_0.2.1.1.1.1.1 rfl ?_
          refine go_getI (bI := 5) kk23_0.2.1.1.1.1.2 hg q13 (by decide) rfl rfl (fun r35 => ?_)
          refine go_callP3 kk23_0.2.1.1.1.2 rfl rfl rfl ⟨by decide, _, rfl, q20⟩ ⟨by decide, by decide⟩ (by omega) (tfP_refuses (by omega) hg q20  r35) (fun y36 r37 => ?_)
          refine go_ifeq kk23_0.2.1.1.2.1.1 (inR_b r37) (fun c40 => ?_) (fun c41 => ?_)
          · refine go_int kk23_0.2.1.1.2.1.2 1 rfl ?_
            refine go_goto kk23_0.2.1.1.2.2 ?_
            exact tjC_move_60 hd hg hK0 r2 r8 (Or.inr rfl) (some (sI v1)) rfl (some (sI v2)) rfl none rfl
          · exact tjC_move_59 hd hg hK0 r2 r8 (some (sI v1)) rfl (some (sI v2)) rfl none rfl
        · exact tjC_move_59 hd hg hK0 r2 r8 (some (sI v1)) rfl (some (sI v2)) rfl none rfl
    · exact tjC_move_59 hd hg hK0 r2 r8 (some (sI v1)) rfl (some (sI v2)) rfl none rfl
theorem tfW_move {Φ : ev_P} {d : Nat} (hd : 4 ≤ d) {g : gH} (hg : HR g) {v0 v1 v2 v3 : Int} (h0 : RfR v0) (h1 : InR v1) (h2 : InR v2) (h3 : RfR v3) : Go Φ pr_P fN 1 (fW_move g v0 v1 v2 v3) d (pr_P 319) 0 (ev_loc (pr_P 319).1 [(sR v0), (sI v1), (sI v2), (sR v3)]) [] g 0 0 := by
  show Go Φ pr_P fN 1 (fW_move g v0 v1 v2 v3) d pr_m319 0 [some (sR v0), some (sI v1), some (sI v2), some (sR v3), none] [] g 0 0
  unfold fW_move
  refine go_aload kk319_0.1.1.1.1.1 rfl ?_
  refine go_int kk319_0.1.1.1.1.2 0 rfl ?_
  refine go_aload kk319_0.1.1.1.2 rfl ?_
  refine go_iload kk319_0.1.1.2.1 rfl ?_
  refine go_iload kk319_0.1.1.2.2 rfl ?_
  refine go_ck (fun q1 => ?_)
  refine go_callT1 kk319_0.1.2.1.1 rfl rfl rfl ⟨by decide, _, rfl, q1⟩ ⟨by decide, by decide⟩ (by omega) (tfC_move (by omega) hg q1  h1 h2) (fun y2 g4 r3 e5 => ?_) (fun E7 g4 e6 => ?_)
  · refine go_i2l kk319_0.1.2.1.2 r3 ?_
    refine go_ck (fun q8 => ?_)
    refine go_last kk319_0.1.2.2.1 e5 q8 (inL_R r3) (fun g9 e10 => ?_)
    refine go_goto kk319_0.1.2.2.2 ?_
    refine go_int kk319_0.2.2.2.1 0 rfl ?_
    exact go_iret kk319_0.2.2.2.2 e10 (inR_b (Or.inl rfl)) ⟨by decide, by decide⟩ rfl
  · refine ge_ite (fun hE9 => ?_) (fun _ => ?_)
    · subst hE9
      refine ge_catch rfl kk319_0.2.1.1.1 rfl (loc2 := [some (sR v0), some (sI v1), some (sI v2), some (sR v3), none]) rfl ?_
      refine go_int kk319_0.2.1.1.2 1 rfl ?_
      exact go_iret kk319_0.2.1.2.1 e6 (inR_b (Or.inr rfl)) ⟨by decide, by decide⟩ rfl
    refine ge_ite (fun hE9 => ?_) (fun _ => ?_)
    · subst hE9
      refine ge_catch rfl kk319_0.2.1.2.2 rfl (loc2 := [some (sR v0), some (sI v1), some (sI v2), some (sR v3), none]) rfl ?_
      refine go_int kk319_0.2.2.1.1 2 rfl ?_
      exact go_iret kk319_0.2.2.1.2 e6 (inR_of (by decide)) ⟨by decide, by decide⟩ rfl
    exact ge_none
theorem tfC_setCapacity {Φ : ev_P} {d : Nat} (hd : 3 ≤ d) {g : gH} (hg : HR g) {v0 v1 v2 : Int} (hK0 : kd v0 = 6) (h1 : InR v1) (h2 : InR v2) : Go Φ pr_P fT 1 (fC_setCapacity g v0 v1 v2) d (pr_P 24) 0 (ev_loc (pr_P 24).1 [(sR v0), (sI v1), (sI v2)]) [] g 0 0 := by
  show Go Φ pr_P fT 1 (fC_setCapacity g v0 v1 v2) d pr_m24 0 [some (sR v0), some (sI v1), some (sI v2), none, none] [] g 0 0
  unfold fC_setCapacity
  refine go_aload kk24_0.1.1.1.1.1 rfl ?_
  refine go_iload kk24_0.1.1.1.1.2 rfl ?_
  refine go_callQ2 kk24_0.1.1.1.2 rfl rfl rfl ⟨by decide, _, rfl, hK0⟩ ⟨by decide, by decide⟩ (by omega) (tfC_named (by omega) hg hK0  h1) (fun y1 r2 => ?_) (fun e5 E6 => ge_prop rfl ⟨by decide, by decide⟩ e5 rfl)
  refine go_astore kk24_0.1.1.2.1.1 rfl (loc2 := [some (sR v0), some (sI v1), some (sI v2), some (sR y1), none]) rfl ?_
  refine go_iload kk24_0.1.1.2.1.2 rfl ?_
  refine go_int kk24_0.1.1.2.2 9 rfl ?_
  refine go_callQ0 kk24_0.1.2.1.1.1 rfl rfl rfl trivial ⟨by decide, by decide⟩ (by omega) (tfC_checkRange (by omega) hg  h2 (inR_of (by decide))) (fun y7 => ?_) (fun e11 E12 => ge_prop rfl ⟨by decide, by decide⟩ e11 rfl)
  refine go_aload kk24_0.1.2.1.1.2 rfl ?_
  refine go_ck (fun q13 => ?_)
  refine go_callP3 kk24_0.1.2.1.2 rfl rfl rfl ⟨by decide, _, rfl, q13⟩ ⟨by decide, by decide⟩ (by omega) (tfP_isRunning (by omega) hg q13 ) (fun y14 r15 => ?_)
  refine go_callQ0 kk24_0.1.2.2.1.1 rfl rfl rfl trivial ⟨by decide, by decide⟩ (by omega) (tfC_checkState (by omega) hg  r15) (fun y18 => ?_) (fun e22 E23 => ge_prop rfl ⟨by decide, by decide⟩ e22 rfl)
  refine go_aload kk24_0.1.2.2.1.2 rfl ?_
  refine go_getR (bI := 3) kk24_0.1.2.2.2 hg hK0 (by decide) rfl rfl (fun r24 => ?_)
  refine go_aload kk24_0.2.1.1.1.1 rfl ?_
  refine go_getR (bI := 0) kk24_0.2.1.1.1.2 hg hK0 (by decide) rfl rfl (fun r25 => ?_)
  refine go_ck (fun q26 => ?_)
  refine go_callN0 kk24_0.2.1.1.2 rfl rfl rfl ⟨by decide, _, rfl, q26⟩ ⟨by decide, by decide⟩ (by omega) (tfH_push (by omega) hg q26  r25) (fun y27 g29 e30 => ?_)
  refine go_aload kk24_0.2.1.2.1.1 rfl ?_
  refine go_getI (bI := 4) kk24_0.2.1.2.1.2 e30 q13 (by decide) rfl rfl (fun r31 => ?_)
  refine go_istore kk24_0.2.1.2.2 rfl (loc2 := [some (sR v0), some (sI v1), some (sI v2), some (sR y1), some (sI (g29 y1 4))]) rfl ?_
  refine go_aload kk24_0.2.2.1.1.1 rfl ?_
  refine go_iload kk24_0.2.2.1.1.2 rfl ?_
  refine go_putI (bI := 4) kk24_0.2.2.1.2 e30 q13 (by decide) rfl rfl h2 (fun g32 e33 => ?_)
  refine go_iload kk24_0.2.2.2.1 rfl ?_
  exact go_iret kk24_0.2.2.2.2 e33 r31 ⟨by decide, by decide⟩ rfl
theorem tfW_setCapacity {Φ : ev_P} {d : Nat} (hd : 4 ≤ d) {g : gH} (hg : HR g) {v0 v1 v2 v3 : Int} (h0 : RfR v0) (h1 : InR v1) (h2 : InR v2) (h3 : RfR v3) : Go Φ pr_P fN 1 (fW_setCapacity g v0 v1 v2 v3) d (pr_P 320) 0 (ev_loc (pr_P 320).1 [(sR v0), (sI v1), (sI v2), (sR v3)]) [] g 0 0 := by
  show Go Φ pr_P fN 1 (fW_setCapacity g v0 v1 v2 v3) d pr_m320 0 [some (sR v0), some (sI v1), some (sI v2), some (sR v3), none] [] g 0 0
  unfold fW_setCapacity
  refine go_aload kk320_0.1.1.1.1.1 rfl ?_
  refine go_int kk320_0.1.1.1.1.2 0 rfl ?_
  refine go_aload kk320_0.1.1.1.2 rfl ?_
  refine go_iload kk320_0.1.1.2.1 rfl ?_
  refine go_iload kk320_0.1.1.2.2 rfl ?_
  refine go_ck (fun q1 => ?_)
  refine go_callT1 kk320_0.1.2.1.1.1 rfl rfl rfl ⟨by decide, _, rfl, q1⟩ ⟨by decide, by decide⟩ (by omega) (tfC_setCapacity (by omega) hg q1  h1 h2) (fun y2 g4 r3 e5 => ?_) (fun E7 g4 e6 => ?_)
  · refine go_i2l kk320_0.1.2.1.1.2 r3 ?_
    refine go_ck (fun q8 => ?_)
    refine go_last kk320_0.1.2.1.2 e5 q8 (inL_R r3) (fun g9 e10 => ?_)
    refine go_goto kk320_0.1.2.2.1 ?_
    refine go_int kk320_0.2.2.2.1 0 rfl ?_
    exact go_iret kk320_0.2.2.2.2 e10 (inR_b (Or.inl rfl)) ⟨by decide, by decide⟩ rfl
  · refine ge_ite (fun hE9 => ?_) (fun _ => ?_)
    · subst hE9
      refine ge_catch rfl kk320_0.1.2.2.2 rfl (loc2 := [some (sR v0), some (sI v1), some (sI v2), some (sR v3), none]) rfl ?_
      refine go_int kk320_0.2.1.1.1.1 1 rfl ?_
      exact go_iret kk320_0.2.1.1.1.2 e6 (inR_b (Or.inr rfl)) ⟨by decide, by decide⟩ rfl
    refine ge_ite (fun hE9 => ?_) (fun _ => ?_)
    · subst hE9
      refine ge_catch rfl kk320_0.2.1.1.2 rfl (loc2 := [some (sR v0), some (sI v1), some (sI v2), some (sR v3), none]) rfl ?_
      refine go_int kk320_0.2.1.2.1 2 rfl ?_
      exact go_iret kk320_0.2.1.2.2 e6 (inR_of (by decide)) ⟨by decide, by decide⟩ rfl
    refine ge_ite (fun hE9 => ?_) (fun _ => ?_)
    · subst hE9
      refine ge_catch rfl kk320_0.2.2.1.1.1 rfl (loc2 := [some (sR v0), some (sI v1), some (sI v2), some (sR v3), none]) rfl ?_
      refine go_int kk320_0.2.2.1.1.2 3 rfl ?_
      exact go_iret kk320_0.2.2.1.2 e6 (inR_of (by decide)) ⟨by decide, by decide⟩ rfl
    exact ge_none
theorem tfC_setBudget {Φ : ev_P} {d : Nat} (hd : 3 ≤ d) {g : gH} (hg : HR g) {v0 v1 v2 : Int} (hK0 : kd v0 = 6) (h1 : InR v1) (h2 : InR v2) : Go Φ pr_P fT 1 (fC_setBudget g v0 v1 v2) d (pr_P 25) 0 (ev_loc (pr_P 25).1 [(sR v0), (sI v1), (sI v2)]) [] g 0 0 := by
  show Go Φ pr_P fT 1 (fC_setBudget g v0 v1 v2) d pr_m25 0 [some (sR v0), some (sI v1), some (sI v2), none, none] [] g 0 0
  unfold fC_setBudget
  refine go_aload kk25_0.1.1.1.1.1 rfl ?_
  refine go_iload kk25_0.1.1.1.1.2 rfl ?_
  refine go_callQ2 kk25_0.1.1.1.2 rfl rfl rfl ⟨by decide, _, rfl, hK0⟩ ⟨by decide, by decide⟩ (by omega) (tfC_named (by omega) hg hK0  h1) (fun y1 r2 => ?_) (fun e5 E6 => ge_prop rfl ⟨by decide, by decide⟩ e5 rfl)
  refine go_astore kk25_0.1.1.2.1.1 rfl (loc2 := [some (sR v0), some (sI v1), some (sI v2), some (sR y1), none]) rfl ?_
  refine go_iload kk25_0.1.1.2.1.2 rfl ?_
  refine go_int kk25_0.1.1.2.2 9 rfl ?_
  refine go_callQ0 kk25_0.1.2.1.1.1 rfl rfl rfl trivial ⟨by decide, by decide⟩ (by omega) (tfC_checkRange (by omega) hg  h2 (inR_of (by decide))) (fun y7 => ?_) (fun e11 E12 => ge_prop rfl ⟨by decide, by decide⟩ e11 rfl)
  refine go_aload kk25_0.1.2.1.1.2 rfl ?_
  refine go_ck (fun q13 => ?_)
  refine go_callP3 kk25_0.1.2.1.2 rfl rfl rfl ⟨by decide, _, rfl, q13⟩ ⟨by decide, by decide⟩ (by omega) (tfP_isRunning (by omega) hg q13 ) (fun y14 r15 => ?_)
  refine go_callQ0 kk25_0.1.2.2.1.1 rfl rfl rfl trivial ⟨by decide, by decide⟩ (by omega) (tfC_checkState (by omega) hg  r15) (fun y18 => ?_) (fun e22 E23 => ge_prop rfl ⟨by decide, by decide⟩ e22 rfl)
  refine go_aload kk25_0.1.2.2.1.2 rfl ?_
  refine go_getR (bI := 3) kk25_0.1.2.2.2 hg hK0 (by decide) rfl rfl (fun r24 => ?_)
  refine go_aload kk25_0.2.1.1.1.1 rfl ?_
  refine go_getR (bI := 0) kk25_0.2.1.1.1.2 hg hK0 (by decide) rfl rfl (fun r25 => ?_)
  refine go_ck (fun q26 => ?_)
  refine go_callN0 kk25_0.2.1.1.2 rfl rfl rfl ⟨by decide, _, rfl, q26⟩ ⟨by decide, by decide⟩ (by omega) (tfH_push (by omega) hg q26  r25) (fun y27 g29 e30 => ?_)
  refine go_aload kk25_0.2.1.2.1.1 rfl ?_
  refine go_getI (bI := 6) kk25_0.2.1.2.1.2 e30 q13 (by decide) rfl rfl (fun r31 => ?_)
  refine go_istore kk25_0.2.1.2.2 rfl (loc2 := [some (sR v0), some (sI v1), some (sI v2), some (sR y1), some (sI (g29 y1 6))]) rfl ?_
  refine go_aload kk25_0.2.2.1.1.1 rfl ?_
  refine go_iload kk25_0.2.2.1.1.2 rfl ?_
  refine go_putI (bI := 6) kk25_0.2.2.1.2 e30 q13 (by decide) rfl rfl h2 (fun g32 e33 => ?_)
  refine go_iload kk25_0.2.2.2.1 rfl ?_
  exact go_iret kk25_0.2.2.2.2 e33 r31 ⟨by decide, by decide⟩ rfl
theorem tfW_setBudget {Φ : ev_P} {d : Nat} (hd : 4 ≤ d) {g : gH} (hg : HR g) {v0 v1 v2 v3 : Int} (h0 : RfR v0) (h1 : InR v1) (h2 : InR v2) (h3 : RfR v3) : Go Φ pr_P fN 1 (fW_setBudget g v0 v1 v2 v3) d (pr_P 321) 0 (ev_loc (pr_P 321).1 [(sR v0), (sI v1), (sI v2), (sR v3)]) [] g 0 0 := by
  show Go Φ pr_P fN 1 (fW_setBudget g v0 v1 v2 v3) d pr_m321 0 [some (sR v0), some (sI v1), some (sI v2), some (sR v3), none] [] g 0 0
  unfold fW_setBudget
  refine go_aload kk321_0.1.1.1.1.1 rfl ?_
  refine go_int kk321_0.1.1.1.1.2 0 rfl ?_
  refine go_aload kk321_0.1.1.1.2 rfl ?_
  refine go_iload kk321_0.1.1.2.1 rfl ?_
  refine go_iload kk321_0.1.1.2.2 rfl ?_
  refine go_ck (fun q1 => ?_)
  refine go_callT1 kk321_0.1.2.1.1.1 rfl rfl rfl ⟨by decide, _, rfl, q1⟩ ⟨by decide, by decide⟩ (by omega) (tfC_setBudget (by omega) hg q1  h1 h2) (fun y2 g4 r3 e5 => ?_) (fun E7 g4 e6 => ?_)
  · refine go_i2l kk321_0.1.2.1.1.2 r3 ?_
    refine go_ck (fun q8 => ?_)
    refine go_last kk321_0.1.2.1.2 e5 q8 (inL_R r3) (fun g9 e10 => ?_)
    refine go_goto kk321_0.1.2.2.1 ?_
    refine go_int kk321_0.2.2.2.1 0 rfl ?_
    exact go_iret kk321_0.2.2.2.2 e10 (inR_b (Or.inl rfl)) ⟨by decide, by decide⟩ rfl
  · refine ge_ite (fun hE9 => ?_) (fun _ => ?_)
    · subst hE9
      refine ge_catch rfl kk321_0.1.2.2.2 rfl (loc2 := [some (sR v0), some (sI v1), some (sI v2), some (sR v3), none]) rfl ?_
      refine go_int kk321_0.2.1.1.1.1 1 rfl ?_
      exact go_iret kk321_0.2.1.1.1.2 e6 (inR_b (Or.inr rfl)) ⟨by decide, by decide⟩ rfl
    refine ge_ite (fun hE9 => ?_) (fun _ => ?_)
    · subst hE9
      refine ge_catch rfl kk321_0.2.1.1.2 rfl (loc2 := [some (sR v0), some (sI v1), some (sI v2), some (sR v3), none]) rfl ?_
      refine go_int kk321_0.2.1.2.1 2 rfl ?_
      exact go_iret kk321_0.2.1.2.2 e6 (inR_of (by decide)) ⟨by decide, by decide⟩ rfl
    refine ge_ite (fun hE9 => ?_) (fun _ => ?_)
    · subst hE9
      refine ge_catch rfl kk321_0.2.2.1.1.1 rfl (loc2 := [some (sR v0), some (sI v1), some (sI v2), some (sR v3), none]) rfl ?_
      refine go_int kk321_0.2.2.1.1.2 3 rfl ?_
      exact go_iret kk321_0.2.2.1.2 e6 (inR_of (by decide)) ⟨by decide, by decide⟩ rfl
    exact ge_none
theorem tfC_setHeir {Φ : ev_P} {d : Nat} (hd : 3 ≤ d) {g : gH} (hg : HR g) {v0 v1 v2 : Int} (hK0 : kd v0 = 6) (h1 : InR v1) (h2 : InR v2) : Go Φ pr_P fT 1 (fC_setHeir g v0 v1 v2) d (pr_P 26) 0 (ev_loc (pr_P 26).1 [(sR v0), (sI v1), (sI v2)]) [] g 0 0 := by
  show Go Φ pr_P fT 1 (fC_setHeir g v0 v1 v2) d pr_m26 0 [some (sR v0), some (sI v1), some (sI v2), none, none] [] g 0 0
  unfold fC_setHeir
  refine go_aload kk26_0.1.1.1.1.1 rfl ?_
  refine go_iload kk26_0.1.1.1.1.2 rfl ?_
  refine go_callQ2 kk26_0.1.1.1.2.1 rfl rfl rfl ⟨by decide, _, rfl, hK0⟩ ⟨by decide, by decide⟩ (by omega) (tfC_named (by omega) hg hK0  h1) (fun y1 r2 => ?_) (fun e5 E6 => ge_prop rfl ⟨by decide, by decide⟩ e5 rfl)
  refine go_astore kk26_0.1.1.1.2.2 rfl (loc2 := [some (sR v0), some (sI v1), some (sI v2), some (sR y1), none]) rfl ?_
  refine go_iload kk26_0.1.1.2.1.1 rfl ?_
  refine go_int kk26_0.1.1.2.1.2 (-1) rfl ?_
  refine go_cmeq kk26_0.1.1.2.2.1 h2 (inR_of (by decide)) (fun c7 => ?_) (fun c8 => ?_)
  · refine go_aload kk26_0.1.2.2.1.2 rfl ?_
    refine go_ck (fun q9 => ?_)
    refine go_callP3 kk26_0.1.2.2.2 rfl rfl rfl ⟨by decide, _, rfl, q9⟩ ⟨by decide, by decide⟩ (by omega) (tfP_isMortal (by omega) hg q9 ) (fun y10 r11 => ?_)
    refine go_callQ0 kk26_0.2.1.1.1.1 rfl rfl rfl trivial ⟨by decide, by decide⟩ (by omega) (tfC_checkState (by omega) hg  r11) (fun y14 => ?_) (fun e18 E19 => ge_prop rfl ⟨by decide, by decide⟩ e18 rfl)
    refine go_aload kk26_0.2.1.1.1.2 rfl ?_
    refine go_getR (bI := 3) kk26_0.2.1.1.2.1 hg hK0 (by decide) rfl rfl (fun r20 => ?_)
    refine go_aload kk26_0.2.1.1.2.2 rfl ?_
    refine go_getR (bI := 0) kk26_0.2.1.2.1.1 hg hK0 (by decide) rfl rfl (fun r21 => ?_)
    refine go_ck (fun q22 => ?_)
    refine go_callN0 kk26_0.2.1.2.1.2 rfl rfl rfl ⟨by decide, _, rfl, q22⟩ ⟨by decide, by decide⟩ (by omega) (tfH_push (by omega) hg q22  r21) (fun y23 g25 e26 => ?_)
    refine go_aload kk26_0.2.1.2.2 rfl ?_
    refine go_getI (bI := 7) kk26_0.2.2.1.1.1 e26 q9 (by decide) rfl rfl (fun r27 => ?_)
    refine go_istore kk26_0.2.2.1.1.2 rfl (loc2 := [some (sR v0), some (sI v1), some (sI v2), some (sR y1), some (sI (g25 y1 7))]) rfl ?_
    refine go_aload kk26_0.2.2.1.2.1 rfl ?_
    refine go_iload kk26_0.2.2.1.2.2 rfl ?_
    refine go_putI (bI := 7) kk26_0.2.2.2.1.1 e26 q9 (by decide) rfl rfl h2 (fun g28 e29 => ?_)
    refine go_iload kk26_0.2.2.2.1.2 rfl ?_
    exact go_iret kk26_0.2.2.2.2 e29 r27 ⟨by decide, by decide⟩ rfl
  · refine go_aload kk26_0.1.1.2.2.2 rfl ?_
    refine go_iload kk26_0.1.2.1.1.1 rfl ?_
    refine go_callQ2 kk26_0.1.2.1.1.2 rfl rfl rfl ⟨by decide, _, rfl, hK0⟩ ⟨by decide, by decide⟩ (by omega) (tfC_named (by omega) hg hK0  h2) (fun y30 r31 => ?_) (fun e34 E35 => ge_prop rfl ⟨by decide, by decide⟩ e34 rfl)
    refine go_aload kk26_0.1.2.1.2.1 rfl ?_
    refine go_acmp kk26_0.1.2.1.2.2 r31 r2 (fun c36 => ?_) (fun c37 => ?_)
    · exact go_throw kk26_0.1.2.2.1.1 hg ⟨by decide, by decide⟩ rfl rfl
    · refine go_aload kk26_0.1.2.2.1.2 rfl ?_
      refine go_ck (fun q38 => ?_)
      refine go_callP3 kk26_0.1.2.2.2 rfl rfl rfl ⟨by decide, _, rfl, q38⟩ ⟨by decide, by decide⟩ (by omega) (tfP_isMortal (by omega) hg q38 ) (fun y39 r40 => ?_)
      refine go_callQ0 kk26_0.2.1.1.1.1 rfl rfl rfl trivial ⟨by decide, by decide⟩ (by omega) (tfC_checkState (by omega) hg  r40) (fun y43 => ?_) (fun e47 E48 => ge_prop rfl ⟨by decide, by decide⟩ e47 rfl)
      refine go_aload kk26_0.2.1.1.1.2 rfl ?_
      refine go_getR (bI := 3) kk26_0.2.1.1.2.1 hg hK0 (by decide) rfl rfl (fun r49 => ?_)
      refine go_aload kk26_0.2.1.1.2.2 rfl ?_
      refine go_getR (bI := 0) kk26_0.2.1.2.1.1 hg hK0 (by decide) rfl rfl (fun r50 => ?_)
      refine go_ck (fun q51 => ?_)
      refine go_callN0 kk26_0.2.1.2.1.2 rfl rfl rfl ⟨by decide, _, rfl, q51⟩ ⟨by decide, by decide⟩ (by omega) (tfH_push (by omega) hg q51  r50) (fun y52 g54 e55 => ?_)
      refine go_aload kk26_0.2.1.2.2 rfl ?_
      refine go_getI (bI := 7) kk26_0.2.2.1.1.1 e55 q38 (by decide) rfl rfl (fun r56 => ?_)
      refine go_istore kk26_0.2.2.1.1.2 rfl (loc2 := [some (sR v0), some (sI v1), some (sI v2), some (sR y1), some (sI (g54 y1 7))]) rfl ?_
      refine go_aload kk26_0.2.2.1.2.1 rfl ?_
      refine go_iload kk26_0.2.2.1.2.2 rfl ?_
      refine go_putI (bI := 7) kk26_0.2.2.2.1.1 e55 q38 (by decide) rfl rfl h2 (fun g57 e58 => ?_)
      refine go_iload kk26_0.2.2.2.1.2 rfl ?_
      exact go_iret kk26_0.2.2.2.2 e58 r56 ⟨by decide, by decide⟩ rfl
theorem tfW_setHeir {Φ : ev_P} {d : Nat} (hd : 4 ≤ d) {g : gH} (hg : HR g) {v0 v1 v2 v3 : Int} (h0 : RfR v0) (h1 : InR v1) (h2 : InR v2) (h3 : RfR v3) : Go Φ pr_P fN 1 (fW_setHeir g v0 v1 v2 v3) d (pr_P 322) 0 (ev_loc (pr_P 322).1 [(sR v0), (sI v1), (sI v2), (sR v3)]) [] g 0 0 := by
  show Go Φ pr_P fN 1 (fW_setHeir g v0 v1 v2 v3) d pr_m322 0 [some (sR v0), some (sI v1), some (sI v2), some (sR v3), none] [] g 0 0
  unfold fW_setHeir
  refine go_aload kk322_0.1.1.1.1.1 rfl ?_
  refine go_int kk322_0.1.1.1.1.2 0 rfl ?_
  refine go_aload kk322_0.1.1.1.2 rfl ?_
  refine go_iload kk322_0.1.1.2.1 rfl ?_
  refine go_iload kk322_0.1.1.2.2 rfl ?_
  refine go_ck (fun q1 => ?_)
  refine go_callT1 kk322_0.1.2.1.1.1 rfl rfl rfl ⟨by decide, _, rfl, q1⟩ ⟨by decide, by decide⟩ (by omega) (tfC_setHeir (by omega) hg q1  h1 h2) (fun y2 g4 r3 e5 => ?_) (fun E7 g4 e6 => ?_)
  · refine go_i2l kk322_0.1.2.1.1.2 r3 ?_
    refine go_ck (fun q8 => ?_)
    refine go_last kk322_0.1.2.1.2 e5 q8 (inL_R r3) (fun g9 e10 => ?_)
    refine go_goto kk322_0.1.2.2.1 ?_
    refine go_int kk322_0.2.2.2.1 0 rfl ?_
    exact go_iret kk322_0.2.2.2.2 e10 (inR_b (Or.inl rfl)) ⟨by decide, by decide⟩ rfl
  · refine ge_ite (fun hE9 => ?_) (fun _ => ?_)
    · subst hE9
      refine ge_catch rfl kk322_0.1.2.2.2 rfl (loc2 := [some (sR v0), some (sI v1), some (sI v2), some (sR v3), none]) rfl ?_
      refine go_int kk322_0.2.1.1.1.1 1 rfl ?_
      exact go_iret kk322_0.2.1.1.1.2 e6 (inR_b (Or.inr rfl)) ⟨by decide, by decide⟩ rfl
    refine ge_ite (fun hE9 => ?_) (fun _ => ?_)
    · subst hE9
      refine ge_catch rfl kk322_0.2.1.1.2 rfl (loc2 := [some (sR v0), some (sI v1), some (sI v2), some (sR v3), none]) rfl ?_
      refine go_int kk322_0.2.1.2.1 2 rfl ?_
      exact go_iret kk322_0.2.1.2.2 e6 (inR_of (by decide)) ⟨by decide, by decide⟩ rfl
    refine ge_ite (fun hE9 => ?_) (fun _ => ?_)
    · subst hE9
      refine ge_catch rfl kk322_0.2.2.1.1.1 rfl (loc2 := [some (sR v0), some (sI v1), some (sI v2), some (sR v3), none]) rfl ?_
      refine go_int kk322_0.2.2.1.1.2 3 rfl ?_
      exact go_iret kk322_0.2.2.1.2 e6 (inR_of (by decide)) ⟨by decide, by decide⟩ rfl
    exact ge_none
theorem tfC_give {Φ : ev_P} {d : Nat} (hd : 3 ≤ d) {g : gH} (hg : HR g) {v0 v1 v2 : Int} (hK0 : kd v0 = 6) (h1 : InR v1) (h2 : InR v2) : Go Φ pr_P fT 1 (fC_give g v0 v1 v2) d (pr_P 27) 0 (ev_loc (pr_P 27).1 [(sR v0), (sI v1), (sI v2)]) [] g 0 0 := by
  show Go Φ pr_P fT 1 (fC_give g v0 v1 v2) d pr_m27 0 [some (sR v0), some (sI v1), some (sI v2), none, none] [] g 0 0
  unfold fC_give
  refine go_iload kk27_0.1.1.1.1.1 rfl ?_
  refine go_int kk27_0.1.1.1.1.2 7 rfl ?_
  refine go_callQ0 kk27_0.1.1.1.2.1 rfl rfl rfl trivial ⟨by decide, by decide⟩ (by omega) (tfC_checkRange (by omega) hg  h1 (inR_of (by decide))) (fun y1 => ?_) (fun e5 E6 => ge_prop rfl ⟨by decide, by decide⟩ e5 rfl)
  refine go_aload kk27_0.1.1.1.2.2 rfl ?_
  refine go_iload kk27_0.1.1.2.1.1 rfl ?_
  refine go_callQ2 kk27_0.1.1.2.1.2 rfl rfl rfl ⟨by decide, _, rfl, hK0⟩ ⟨by decide, by decide⟩ (by omega) (tfC_named (by omega) hg hK0  h2) (fun y7 r8 => ?_) (fun e11 E12 => ge_prop rfl ⟨by decide, by decide⟩ e11 rfl)
  refine go_astore kk27_0.1.1.2.2 rfl (loc2 := [some (sR v0), some (sI v1), some (sI v2), some (sR y7), none]) rfl ?_
  refine go_aload kk27_0.1.2.1.1.1 rfl ?_
  refine go_ck (fun q13 => ?_)
  refine go_callP3 kk27_0.1.2.1.1.2 rfl rfl rfl ⟨by decide, _, rfl, q13⟩ ⟨by decide, by decide⟩ (by omega) (tfP_isRunning (by omega) hg q13 ) (fun y14 r15 => ?_)
  refine go_callQ0 kk27_0.1.2.1.2.1 rfl rfl rfl trivial ⟨by decide, by decide⟩ (by omega) (tfC_checkState (by omega) hg  r15) (fun y18 => ?_) (fun e22 E23 => ge_prop rfl ⟨by decide, by decide⟩ e22 rfl)
  refine go_aload kk27_0.1.2.1.2.2 rfl ?_
  refine go_getR (bI := 3) kk27_0.1.2.2.1.1 hg hK0 (by decide) rfl rfl (fun r24 => ?_)
  refine go_aload kk27_0.1.2.2.1.2 rfl ?_
  refine go_getR (bI := 0) kk27_0.1.2.2.2 hg hK0 (by decide) rfl rfl (fun r25 => ?_)
  refine go_ck (fun q26 => ?_)
  refine go_callN0 kk27_0.2.1.1.1.1 rfl rfl rfl ⟨by decide, _, rfl, q26⟩ ⟨by decide, by decide⟩ (by omega) (tfH_push (by omega) hg q26  r25) (fun y27 g29 e30 => ?_)
  refine go_aload kk27_0.2.1.1.1.2 rfl ?_
  refine go_getR (bI := 0) kk27_0.2.1.1.2.1 e30 hK0 (by decide) rfl rfl (fun r31 => ?_)
  refine go_iload kk27_0.2.1.1.2.2 rfl ?_
  refine go_ck (fun q32 => ?_)
  refine go_callP2 kk27_0.2.1.2.1.1 rfl rfl rfl ⟨by decide, _, rfl, q32⟩ ⟨by decide, by decide⟩ (by omega) (tfT_holderOf (by omega) e30 q32  h1) (fun y33 r34 => ?_)
  refine go_ck (fun q37 => ?_)
  refine go_getI (bI := 0) kk27_0.2.1.2.1.2 e30 q37 (by decide) rfl rfl (fun r38 => ?_)
  refine go_istore kk27_0.2.1.2.2 rfl (loc2 := [some (sR v0), some (sI v1), some (sI v2), some (sR y7), some (sI (g29 y33 0))]) rfl ?_
  refine go_aload kk27_0.2.2.1.1.1 rfl ?_
  refine go_getR (bI := 0) kk27_0.2.2.1.1.2 e30 hK0 (by decide) rfl rfl (fun r39 => ?_)
  refine go_iload kk27_0.2.2.1.2.1 rfl ?_
  refine go_aload kk27_0.2.2.1.2.2 rfl ?_
  refine go_callN0 kk27_0.2.2.2.1.1 rfl rfl rfl ⟨by decide, _, rfl, q32⟩ ⟨by decide, by decide⟩ (by omega) (tfT_giveDuty (by omega) e30 q32  h1 r8) (fun y40 g42 e43 => ?_)
  refine go_iload kk27_0.2.2.2.1.2 rfl ?_
  exact go_iret kk27_0.2.2.2.2 e43 r38 ⟨by decide, by decide⟩ rfl
theorem tfW_give {Φ : ev_P} {d : Nat} (hd : 4 ≤ d) {g : gH} (hg : HR g) {v0 v1 v2 v3 : Int} (h0 : RfR v0) (h1 : InR v1) (h2 : InR v2) (h3 : RfR v3) : Go Φ pr_P fN 1 (fW_give g v0 v1 v2 v3) d (pr_P 323) 0 (ev_loc (pr_P 323).1 [(sR v0), (sI v1), (sI v2), (sR v3)]) [] g 0 0 := by
  show Go Φ pr_P fN 1 (fW_give g v0 v1 v2 v3) d pr_m323 0 [some (sR v0), some (sI v1), some (sI v2), some (sR v3), none] [] g 0 0
  unfold fW_give
  refine go_aload kk323_0.1.1.1.1.1 rfl ?_
  refine go_int kk323_0.1.1.1.1.2 0 rfl ?_
  refine go_aload kk323_0.1.1.1.2 rfl ?_
  refine go_iload kk323_0.1.1.2.1 rfl ?_
  refine go_iload kk323_0.1.1.2.2 rfl ?_
  refine go_ck (fun q1 => ?_)
  refine go_callT1 kk323_0.1.2.1.1.1 rfl rfl rfl ⟨by decide, _, rfl, q1⟩ ⟨by decide, by decide⟩ (by omega) (tfC_give (by omega) hg q1  h1 h2) (fun y2 g4 r3 e5 => ?_) (fun E7 g4 e6 => ?_)
  · refine go_i2l kk323_0.1.2.1.1.2 r3 ?_
    refine go_ck (fun q8 => ?_)
    refine go_last kk323_0.1.2.1.2 e5 q8 (inL_R r3) (fun g9 e10 => ?_)
    refine go_goto kk323_0.1.2.2.1 ?_
    refine go_int kk323_0.2.2.2.1 0 rfl ?_
    exact go_iret kk323_0.2.2.2.2 e10 (inR_b (Or.inl rfl)) ⟨by decide, by decide⟩ rfl
  · refine ge_ite (fun hE9 => ?_) (fun _ => ?_)
    · subst hE9
      refine ge_catch rfl kk323_0.1.2.2.2 rfl (loc2 := [some (sR v0), some (sI v1), some (sI v2), some (sR v3), none]) rfl ?_
      refine go_int kk323_0.2.1.1.1.1 1 rfl ?_
      exact go_iret kk323_0.2.1.1.1.2 e6 (inR_b (Or.inr rfl)) ⟨by decide, by decide⟩ rfl
    refine ge_ite (fun hE9 => ?_) (fun _ => ?_)
    · subst hE9
      refine ge_catch rfl kk323_0.2.1.1.2 rfl (loc2 := [some (sR v0), some (sI v1), some (sI v2), some (sR v3), none]) rfl ?_
      refine go_int kk323_0.2.1.2.1 2 rfl ?_
      exact go_iret kk323_0.2.1.2.2 e6 (inR_of (by decide)) ⟨by decide, by decide⟩ rfl
    refine ge_ite (fun hE9 => ?_) (fun _ => ?_)
    · subst hE9
      refine ge_catch rfl kk323_0.2.2.1.1.1 rfl (loc2 := [some (sR v0), some (sI v1), some (sI v2), some (sR v3), none]) rfl ?_
      refine go_int kk323_0.2.2.1.1.2 3 rfl ?_
      exact go_iret kk323_0.2.2.1.2 e6 (inR_of (by decide)) ⟨by decide, by decide⟩ rfl
    exact ge_none
theorem tfC_adopter {Φ : ev_P} {d : Nat} (hd : 4 ≤ d) {g : gH} (hg : HR g) {v0 v1 : Int} (hK0 : kd v0 = 6) (h1 : InR v1) : Go Φ pr_P (fQ g) 1 (fC_adopter g v0 v1) d (pr_P 28) 0 (ev_loc (pr_P 28).1 [(sR v0), (sI v1)]) [] g 0 0 := by
  show Go Φ pr_P (fQ g) 1 (fC_adopter g v0 v1) d pr_m28 0 [some (sR v0), some (sI v1), none] [] g 0 0
  unfold fC_adopter
  refine go_aload kk28_0.1.1.1.1 rfl ?_
  refine go_iload kk28_0.1.1.1.2 rfl ?_
  refine go_callQ2 kk28_0.1.1.2.1 rfl rfl rfl ⟨by decide, _, rfl, hK0⟩ ⟨by decide, by decide⟩ (by omega) (tfC_named (by omega) hg hK0  h1) (fun y1 r2 => ?_) (fun e5 E6 => ge_prop rfl ⟨by decide, by decide⟩ e5 rfl)
  refine go_astore kk28_0.1.1.2.2 rfl (loc2 := [some (sR v0), some (sI v1), some (sR y1)]) rfl ?_
  refine go_aload kk28_0.1.2.1.1 rfl ?_
  refine go_ck (fun q7 => ?_)
  refine go_callP3 kk28_0.1.2.1.2 rfl rfl rfl ⟨by decide, _, rfl, q7⟩ ⟨by decide, by decide⟩ (by omega) (tfP_isMortal (by omega) hg q7 ) (fun y8 r9 => ?_)
  refine go_callQ0 kk28_0.1.2.2 rfl rfl rfl trivial ⟨by decide, by decide⟩ (by omega) (tfC_checkState (by omega) hg  r9) (fun y12 => ?_) (fun e16 E17 => ge_prop rfl ⟨by decide, by decide⟩ e16 rfl)
  refine go_aload kk28_0.2.1.1.1 rfl ?_
  refine go_getR (bI := 0) kk28_0.2.1.1.2 hg hK0 (by decide) rfl rfl (fun r18 => ?_)
  refine go_aload kk28_0.2.1.2 rfl ?_
  refine go_ck (fun q19 => ?_)
  refine go_callP2 kk28_0.2.2.1.1 rfl rfl rfl ⟨by decide, _, rfl, q19⟩ ⟨by decide, by decide⟩ (by omega) (tfT_adopterOf (by omega) hg q19  r2) (fun y20 r21 => ?_)
  refine go_ck (fun q24 => ?_)
  refine go_getI (bI := 0) kk28_0.2.2.1.2 hg q24 (by decide) rfl rfl (fun r25 => ?_)
  exact go_iret kk28_0.2.2.2 hg r25 ⟨by decide, by decide⟩ rfl
theorem tfW_adopter {Φ : ev_P} {d : Nat} (hd : 5 ≤ d) {g : gH} (hg : HR g) {v0 v1 v2 : Int} (h0 : RfR v0) (h1 : InR v1) (h2 : RfR v2) : Go Φ pr_P fN 1 (fW_adopter g v0 v1 v2) d (pr_P 324) 0 (ev_loc (pr_P 324).1 [(sR v0), (sI v1), (sR v2)]) [] g 0 0 := by
  show Go Φ pr_P fN 1 (fW_adopter g v0 v1 v2) d pr_m324 0 [some (sR v0), some (sI v1), some (sR v2), none] [] g 0 0
  unfold fW_adopter
  refine go_aload kk324_0.1.1.1.1 rfl ?_
  refine go_int kk324_0.1.1.1.2 0 rfl ?_
  refine go_aload kk324_0.1.1.2.1 rfl ?_
  refine go_iload kk324_0.1.1.2.2 rfl ?_
  refine go_ck (fun q1 => ?_)
  refine go_callQ1 kk324_0.1.2.1.1 rfl rfl rfl ⟨by decide, _, rfl, q1⟩ ⟨by decide, by decide⟩ (by omega) (tfC_adopter (by omega) hg q1  h1) (fun y2 r3 => ?_) (fun e6 E7 => ?_)
  · refine go_i2l kk324_0.1.2.1.2 r3 ?_
    refine go_ck (fun q8 => ?_)
    refine go_last kk324_0.1.2.2.1 hg q8 (inL_R r3) (fun g9 e10 => ?_)
    refine go_goto kk324_0.1.2.2.2 ?_
    refine go_int kk324_0.2.2.2.1 0 rfl ?_
    exact go_iret kk324_0.2.2.2.2 e10 (inR_b (Or.inl rfl)) ⟨by decide, by decide⟩ rfl
  · refine ge_ite (fun hE9 => ?_) (fun _ => ?_)
    · subst hE9
      refine ge_catch rfl kk324_0.2.1.1.1 rfl (loc2 := [some (sR v0), some (sI v1), some (sR v2), none]) rfl ?_
      refine go_int kk324_0.2.1.1.2 1 rfl ?_
      exact go_iret kk324_0.2.1.2.1 e6 (inR_b (Or.inr rfl)) ⟨by decide, by decide⟩ rfl
    refine ge_ite (fun hE9 => ?_) (fun _ => ?_)
    · subst hE9
      refine ge_catch rfl kk324_0.2.1.2.2 rfl (loc2 := [some (sR v0), some (sI v1), some (sR v2), none]) rfl ?_
      refine go_int kk324_0.2.2.1.1 2 rfl ?_
      exact go_iret kk324_0.2.2.1.2 e6 (inR_of (by decide)) ⟨by decide, by decide⟩ rfl
    exact ge_none
theorem tfC_heirNow {Φ : ev_P} {d : Nat} (hd : 2 ≤ d) {g : gH} (hg : HR g) {v0 v1 : Int} (hK0 : kd v0 = 6) (h1 : InR v1) : Go Φ pr_P (fQ g) 1 (fC_heirNow g v0 v1) d (pr_P 29) 0 (ev_loc (pr_P 29).1 [(sR v0), (sI v1)]) [] g 0 0 := by
  show Go Φ pr_P (fQ g) 1 (fC_heirNow g v0 v1) d pr_m29 0 [some (sR v0), some (sI v1), none] [] g 0 0
  unfold fC_heirNow
  refine go_aload kk29_0.1.1.1.1 rfl ?_
  refine go_iload kk29_0.1.1.1.2 rfl ?_
  refine go_callQ2 kk29_0.1.1.2.1 rfl rfl rfl ⟨by decide, _, rfl, hK0⟩ ⟨by decide, by decide⟩ (by omega) (tfC_named (by omega) hg hK0  h1) (fun y1 r2 => ?_) (fun e5 E6 => ge_prop rfl ⟨by decide, by decide⟩ e5 rfl)
  refine go_astore kk29_0.1.1.2.2 rfl (loc2 := [some (sR v0), some (sI v1), some (sR y1)]) rfl ?_
  refine go_aload kk29_0.1.2.1.1 rfl ?_
  refine go_ck (fun q7 => ?_)
  refine go_callP3 kk29_0.1.2.1.2 rfl rfl rfl ⟨by decide, _, rfl, q7⟩ ⟨by decide, by decide⟩ (by omega) (tfP_isMortal (by omega) hg q7 ) (fun y8 r9 => ?_)
  refine go_callQ0 kk29_0.1.2.2 rfl rfl rfl trivial ⟨by decide, by decide⟩ (by omega) (tfC_checkState (by omega) hg  r9) (fun y12 => ?_) (fun e16 E17 => ge_prop rfl ⟨by decide, by decide⟩ e16 rfl)
  refine go_aload kk29_0.2.1.1.1 rfl ?_
  refine go_getR (bI := 0) kk29_0.2.1.1.2 hg hK0 (by decide) rfl rfl (fun r18 => ?_)
  refine go_aload kk29_0.2.1.2 rfl ?_
  refine go_ck (fun q19 => ?_)
  refine go_callP2 kk29_0.2.2.1.1 rfl rfl rfl ⟨by decide, _, rfl, q19⟩ ⟨by decide, by decide⟩ (by omega) (tfT_heirOf (by omega) hg q19  r2) (fun y20 r21 => ?_)
  refine go_ck (fun q24 => ?_)
  refine go_getI (bI := 0) kk29_0.2.2.1.2 hg q24 (by decide) rfl rfl (fun r25 => ?_)
  exact go_iret kk29_0.2.2.2 hg r25 ⟨by decide, by decide⟩ rfl
theorem tfW_heirNow {Φ : ev_P} {d : Nat} (hd : 3 ≤ d) {g : gH} (hg : HR g) {v0 v1 v2 : Int} (h0 : RfR v0) (h1 : InR v1) (h2 : RfR v2) : Go Φ pr_P fN 1 (fW_heirNow g v0 v1 v2) d (pr_P 325) 0 (ev_loc (pr_P 325).1 [(sR v0), (sI v1), (sR v2)]) [] g 0 0 := by
  show Go Φ pr_P fN 1 (fW_heirNow g v0 v1 v2) d pr_m325 0 [some (sR v0), some (sI v1), some (sR v2), none] [] g 0 0
  unfold fW_heirNow
  refine go_aload kk325_0.1.1.1.1 rfl ?_
  refine go_int kk325_0.1.1.1.2 0 rfl ?_
  refine go_aload kk325_0.1.1.2.1 rfl ?_
  refine go_iload kk325_0.1.1.2.2 rfl ?_
  refine go_ck (fun q1 => ?_)
  refine go_callQ1 kk325_0.1.2.1.1 rfl rfl rfl ⟨by decide, _, rfl, q1⟩ ⟨by decide, by decide⟩ (by omega) (tfC_heirNow (by omega) hg q1  h1) (fun y2 r3 => ?_) (fun e6 E7 => ?_)
  · refine go_i2l kk325_0.1.2.1.2 r3 ?_
    refine go_ck (fun q8 => ?_)
    refine go_last kk325_0.1.2.2.1 hg q8 (inL_R r3) (fun g9 e10 => ?_)
    refine go_goto kk325_0.1.2.2.2 ?_
    refine go_int kk325_0.2.2.2.1 0 rfl ?_
    exact go_iret kk325_0.2.2.2.2 e10 (inR_b (Or.inl rfl)) ⟨by decide, by decide⟩ rfl
  · refine ge_ite (fun hE9 => ?_) (fun _ => ?_)
    · subst hE9
      refine ge_catch rfl kk325_0.2.1.1.1 rfl (loc2 := [some (sR v0), some (sI v1), some (sR v2), none]) rfl ?_
      refine go_int kk325_0.2.1.1.2 1 rfl ?_
      exact go_iret kk325_0.2.1.2.1 e6 (inR_b (Or.inr rfl)) ⟨by decide, by decide⟩ rfl
    refine ge_ite (fun hE9 => ?_) (fun _ => ?_)
    · subst hE9
      refine ge_catch rfl kk325_0.2.1.2.2 rfl (loc2 := [some (sR v0), some (sI v1), some (sR v2), none]) rfl ?_
      refine go_int kk325_0.2.2.1.1 2 rfl ?_
      exact go_iret kk325_0.2.2.1.2 e6 (inR_of (by decide)) ⟨by decide, by decide⟩ rfl
    exact ge_none
theorem tfC_exitOfCopy {Φ : ev_P} {d : Nat} (hd : 5 ≤ d) {g : gH} (hg : HR g) {v0 v1 v2 : Int} (hK0 : kd v0 = 6) (h1 : InR v1) (h2 : InR v2) : Go Φ pr_P fN 1 (fC_exitOfCopy g v0 v1 v2) d (pr_P 71) 0 (ev_loc (pr_P 71).1 [(sR v0), (sI v1), (sI v2)]) [] g 0 0 := by
  show Go Φ pr_P fN 1 (fC_exitOfCopy g v0 v1 v2) d pr_m71 0 [some (sR v0), some (sI v1), some (sI v2), none] [] g 0 0
  unfold fC_exitOfCopy
  refine go_aload kk71_0.1.1.1.1.1 rfl ?_
  refine go_getR (bI := 1) kk71_0.1.1.1.1.2 hg hK0 (by decide) rfl rfl (fun r1 => ?_)
  refine go_aload kk71_0.1.1.1.2 rfl ?_
  refine go_getR (bI := 0) kk71_0.1.1.2.1 hg hK0 (by decide) rfl rfl (fun r2 => ?_)
  refine go_ck (fun q3 => ?_)
  refine go_callN0 kk71_0.1.1.2.2 rfl rfl rfl ⟨by decide, _, rfl, q3⟩ ⟨Nat.zero_le _, Nat.zero_le _⟩ (by omega) (tfT_take (by omega) hg q3  r2) (fun y4 g6 e7 => ?_)
  refine go_aload kk71_0.1.2.1.1.1 rfl ?_
  refine go_getR (bI := 1) kk71_0.1.2.1.1.2 e7 hK0 (by decide) rfl rfl (fun r8 => ?_)
  refine go_iload kk71_0.1.2.1.2 rfl ?_
  refine go_ck (fun q9 => ?_)
  refine go_callP2 kk71_0.1.2.2.1 rfl rfl rfl ⟨by decide, _, rfl, q9⟩ ⟨Nat.zero_le _, Nat.zero_le _⟩ (by omega) (tfT_at (by omega) e7 q9  h1) (fun y10 r11 => ?_)
  refine go_astore kk71_0.1.2.2.2 rfl (loc2 := [some (sR v0), some (sI v1), some (sI v2), some (sR y10)]) rfl ?_
  refine go_aload kk71_0.2.1.1.1.1 rfl ?_
  refine go_isnull kk71_0.2.1.1.1.2  (fun c14 => ?_) (fun c15 => ?_)
  · refine go_int kk71_0.2.1.1.2 0 rfl ?_
    refine go_goto kk71_0.2.1.2.1 ?_
    exact go_iret kk71_0.2.2.2.2 e7 (inR_b (Or.inl rfl)) ⟨Nat.zero_le _, Nat.zero_le _⟩ rfl
  · refine go_aload kk71_0.2.1.2.2 rfl ?_
    refine go_getR (bI := 1) kk71_0.2.2.1.1.1 e7 hK0 (by decide) rfl rfl (fun r16 => ?_)
    refine go_aload kk71_0.2.2.1.1.2 rfl ?_
    refine go_iload kk71_0.2.2.1.2 rfl ?_
    refine go_callN1 kk71_0.2.2.2.1 rfl rfl rfl ⟨by decide, _, rfl, q9⟩ ⟨Nat.zero_le _, Nat.zero_le _⟩ (by omega) (tfT_letExit (by omega) e7 q9  r11 h2) (fun y17 g19 r18 e20 => ?_)
    exact go_iret kk71_0.2.2.2.2 e20 r18 ⟨Nat.zero_le _, Nat.zero_le _⟩ rfl
theorem tfC_wouldFall {Φ : ev_P} {d : Nat} (hd : 6 ≤ d) {g : gH} (hg : HR g) {v0 v1 v2 : Int} (hK0 : kd v0 = 6) (h1 : InR v1) (h2 : InR v2) : Go Φ pr_P fT 1 (fC_wouldFall g v0 v1 v2) d (pr_P 30) 0 (ev_loc (pr_P 30).1 [(sR v0), (sI v1), (sI v2)]) [] g 0 0 := by
  show Go Φ pr_P fT 1 (fC_wouldFall g v0 v1 v2) d pr_m30 0 [some (sR v0), some (sI v1), some (sI v2)] [] g 0 0
  unfold fC_wouldFall
  refine go_aload kk30_0.1.1.1.1 rfl ?_
  refine go_iload kk30_0.1.1.1.2 rfl ?_
  refine go_iload kk30_0.1.1.2 rfl ?_
  refine go_callQ2 kk30_0.1.2.1 rfl rfl rfl ⟨by decide, _, rfl, hK0⟩ ⟨by decide, by decide⟩ (by omega) (tfC_namedForExit (by omega) hg hK0  h1 h2) (fun y1 r2 => ?_) (fun e5 E6 => ge_prop rfl ⟨by decide, by decide⟩ e5 rfl)
  refine go_popR kk30_0.1.2.2 ?_
  refine go_aload kk30_0.2.1.1.1 rfl ?_
  refine go_iload kk30_0.2.1.1.2 rfl ?_
  refine go_iload kk30_0.2.1.2 rfl ?_
  refine go_callN1 kk30_0.2.2.1 rfl rfl rfl ⟨by decide, _, rfl, hK0⟩ ⟨by decide, by decide⟩ (by omega) (tfC_exitOfCopy (by omega) hg hK0  h1 h2) (fun y7 g9 r8 e10 => ?_)
  exact go_iret kk30_0.2.2.2 e10 r8 ⟨by decide, by decide⟩ rfl
theorem tfW_wouldFall {Φ : ev_P} {d : Nat} (hd : 7 ≤ d) {g : gH} (hg : HR g) {v0 v1 v2 v3 : Int} (h0 : RfR v0) (h1 : InR v1) (h2 : InR v2) (h3 : RfR v3) : Go Φ pr_P fN 1 (fW_wouldFall g v0 v1 v2 v3) d (pr_P 326) 0 (ev_loc (pr_P 326).1 [(sR v0), (sI v1), (sI v2), (sR v3)]) [] g 0 0 := by
  show Go Φ pr_P fN 1 (fW_wouldFall g v0 v1 v2 v3) d pr_m326 0 [some (sR v0), some (sI v1), some (sI v2), some (sR v3), none] [] g 0 0
  unfold fW_wouldFall
  refine go_aload kk326_0.1.1.1.1.1 rfl ?_
  refine go_int kk326_0.1.1.1.1.2 0 rfl ?_
  refine go_aload kk326_0.1.1.1.2 rfl ?_
  refine go_iload kk326_0.1.1.2.1 rfl ?_
  refine go_iload kk326_0.1.1.2.2 rfl ?_
  refine go_ck (fun q1 => ?_)
  refine go_callT1 kk326_0.1.2.1.1.1 rfl rfl rfl ⟨by decide, _, rfl, q1⟩ ⟨by decide, by decide⟩ (by omega) (tfC_wouldFall (by omega) hg q1  h1 h2) (fun y2 g4 r3 e5 => ?_) (fun E7 g4 e6 => ?_)
  · refine go_i2l kk326_0.1.2.1.1.2 r3 ?_
    refine go_ck (fun q8 => ?_)
    refine go_last kk326_0.1.2.1.2 e5 q8 (inL_R r3) (fun g9 e10 => ?_)
    refine go_goto kk326_0.1.2.2.1 ?_
    refine go_int kk326_0.2.2.2.1 0 rfl ?_
    exact go_iret kk326_0.2.2.2.2 e10 (inR_b (Or.inl rfl)) ⟨by decide, by decide⟩ rfl
  · refine ge_ite (fun hE9 => ?_) (fun _ => ?_)
    · subst hE9
      refine ge_catch rfl kk326_0.1.2.2.2 rfl (loc2 := [some (sR v0), some (sI v1), some (sI v2), some (sR v3), none]) rfl ?_
      refine go_int kk326_0.2.1.1.1.1 1 rfl ?_
      exact go_iret kk326_0.2.1.1.1.2 e6 (inR_b (Or.inr rfl)) ⟨by decide, by decide⟩ rfl
    refine ge_ite (fun hE9 => ?_) (fun _ => ?_)
    · subst hE9
      refine ge_catch rfl kk326_0.2.1.1.2 rfl (loc2 := [some (sR v0), some (sI v1), some (sI v2), some (sR v3), none]) rfl ?_
      refine go_int kk326_0.2.1.2.1 2 rfl ?_
      exact go_iret kk326_0.2.1.2.2 e6 (inR_of (by decide)) ⟨by decide, by decide⟩ rfl
    refine ge_ite (fun hE9 => ?_) (fun _ => ?_)
    · subst hE9
      refine ge_catch rfl kk326_0.2.2.1.1.1 rfl (loc2 := [some (sR v0), some (sI v1), some (sI v2), some (sR v3), none]) rfl ?_
      refine go_int kk326_0.2.2.1.1.2 3 rfl ?_
      exact go_iret kk326_0.2.2.1.2 e6 (inR_of (by decide)) ⟨by decide, by decide⟩ rfl
    exact ge_none
theorem tfC_wouldStand {Φ : ev_P} {d : Nat} (hd : 6 ≤ d) {g : gH} (hg : HR g) {v0 v1 v2 : Int} (hK0 : kd v0 = 6) (h1 : InR v1) (h2 : InR v2) : Go Φ pr_P fT 1 (fC_wouldStand g v0 v1 v2) d (pr_P 31) 0 (ev_loc (pr_P 31).1 [(sR v0), (sI v1), (sI v2)]) [] g 0 0 := by
  show Go Φ pr_P fT 1 (fC_wouldStand g v0 v1 v2) d pr_m31 0 [some (sR v0), some (sI v1), some (sI v2)] [] g 0 0
  unfold fC_wouldStand
  refine go_aload kk31_0.1.1.1.1 rfl ?_
  refine go_iload kk31_0.1.1.1.2 rfl ?_
  refine go_iload kk31_0.1.1.2.1 rfl ?_
  refine go_callQ2 kk31_0.1.1.2.2 rfl rfl rfl ⟨by decide, _, rfl, hK0⟩ ⟨by decide, by decide⟩ (by omega) (tfC_namedForExit (by omega) hg hK0  h1 h2) (fun y1 r2 => ?_) (fun e5 E6 => ge_prop rfl ⟨by decide, by decide⟩ e5 rfl)
  refine go_popR kk31_0.1.2.1.1 ?_
  refine go_aload kk31_0.1.2.1.2 rfl ?_
  refine go_iload kk31_0.1.2.2 rfl ?_
  refine go_iload kk31_0.2.1.1.1 rfl ?_
  refine go_callN1 kk31_0.2.1.1.2 rfl rfl rfl ⟨by decide, _, rfl, hK0⟩ ⟨by decide, by decide⟩ (by omega) (tfC_exitOfCopy (by omega) hg hK0  h1 h2) (fun y7 g9 r8 e10 => ?_)
  refine go_popI kk31_0.2.1.2.1 ?_
  refine go_aload kk31_0.2.1.2.2 rfl ?_
  refine go_getR (bI := 1) kk31_0.2.2.1.1 e10 hK0 (by decide) rfl rfl (fun r11 => ?_)
  refine go_ck (fun q12 => ?_)
  refine go_callP1 kk31_0.2.2.1.2 rfl rfl rfl ⟨by decide, _, rfl, q12⟩ ⟨by decide, by decide⟩ (by omega) (tfT_greatestDepth (by omega) e10 q12 ) (fun y13 r14 => ?_)
  exact go_iret kk31_0.2.2.2 e10 r14 ⟨by decide, by decide⟩ rfl
theorem tfW_wouldStand {Φ : ev_P} {d : Nat} (hd : 7 ≤ d) {g : gH} (hg : HR g) {v0 v1 v2 v3 : Int} (h0 : RfR v0) (h1 : InR v1) (h2 : InR v2) (h3 : RfR v3) : Go Φ pr_P fN 1 (fW_wouldStand g v0 v1 v2 v3) d (pr_P 327) 0 (ev_loc (pr_P 327).1 [(sR v0), (sI v1), (sI v2), (sR v3)]) [] g 0 0 := by
  show Go Φ pr_P fN 1 (fW_wouldStand g v0 v1 v2 v3) d pr_m327 0 [some (sR v0), some (sI v1), some (sI v2), some (sR v3), none] [] g 0 0
  unfold fW_wouldStand
  refine go_aload kk327_0.1.1.1.1.1 rfl ?_
  refine go_int kk327_0.1.1.1.1.2 0 rfl ?_
  refine go_aload kk327_0.1.1.1.2 rfl ?_
  refine go_iload kk327_0.1.1.2.1 rfl ?_
  refine go_iload kk327_0.1.1.2.2 rfl ?_
  refine go_ck (fun q1 => ?_)
  refine go_callT1 kk327_0.1.2.1.1.1 rfl rfl rfl ⟨by decide, _, rfl, q1⟩ ⟨by decide, by decide⟩ (by omega) (tfC_wouldStand (by omega) hg q1  h1 h2) (fun y2 g4 r3 e5 => ?_) (fun E7 g4 e6 => ?_)
  · refine go_i2l kk327_0.1.2.1.1.2 r3 ?_
    refine go_ck (fun q8 => ?_)
    refine go_last kk327_0.1.2.1.2 e5 q8 (inL_R r3) (fun g9 e10 => ?_)
    refine go_goto kk327_0.1.2.2.1 ?_
    refine go_int kk327_0.2.2.2.1 0 rfl ?_
    exact go_iret kk327_0.2.2.2.2 e10 (inR_b (Or.inl rfl)) ⟨by decide, by decide⟩ rfl
  · refine ge_ite (fun hE9 => ?_) (fun _ => ?_)
    · subst hE9
      refine ge_catch rfl kk327_0.1.2.2.2 rfl (loc2 := [some (sR v0), some (sI v1), some (sI v2), some (sR v3), none]) rfl ?_
      refine go_int kk327_0.2.1.1.1.1 1 rfl ?_
      exact go_iret kk327_0.2.1.1.1.2 e6 (inR_b (Or.inr rfl)) ⟨by decide, by decide⟩ rfl
    refine ge_ite (fun hE9 => ?_) (fun _ => ?_)
    · subst hE9
      refine ge_catch rfl kk327_0.2.1.1.2 rfl (loc2 := [some (sR v0), some (sI v1), some (sI v2), some (sR v3), none]) rfl ?_
      refine go_int kk327_0.2.1.2.1 2 rfl ?_
      exact go_iret kk327_0.2.1.2.2 e6 (inR_of (by decide)) ⟨by decide, by decide⟩ rfl
    refine ge_ite (fun hE9 => ?_) (fun _ => ?_)
    · subst hE9
      refine ge_catch rfl kk327_0.2.2.1.1.1 rfl (loc2 := [some (sR v0), some (sI v1), some (sI v2), some (sR v3), none]) rfl ?_
      refine go_int kk327_0.2.2.1.1.2 3 rfl ?_
      exact go_iret kk327_0.2.2.1.2 e6 (inR_of (by decide)) ⟨by decide, by decide⟩ rfl
    exact ge_none
theorem tfC_wouldHave {Φ : ev_P} {d : Nat} (hd : 6 ≤ d) {g : gH} (hg : HR g) {v0 v1 v2 v3 : Int} (hK0 : kd v0 = 6) (h1 : InR v1) (h2 : InR v2) (h3 : InR v3) : Go Φ pr_P fT 1 (fC_wouldHave g v0 v1 v2 v3) d (pr_P 32) 0 (ev_loc (pr_P 32).1 [(sR v0), (sI v1), (sI v2), (sI v3)]) [] g 0 0 := by
  show Go Φ pr_P fT 1 (fC_wouldHave g v0 v1 v2 v3) d pr_m32 0 [some (sR v0), some (sI v1), some (sI v2), some (sI v3), none] [] g 0 0
  unfold fC_wouldHave
  refine go_aload kk32_0.1.1.1.1.1 rfl ?_
  refine go_iload kk32_0.1.1.1.1.2 rfl ?_
  refine go_callQ2 kk32_0.1.1.1.2.1 rfl rfl rfl ⟨by decide, _, rfl, hK0⟩ ⟨by decide, by decide⟩ (by omega) (tfC_named (by omega) hg hK0  h1) (fun y1 r2 => ?_) (fun e5 E6 => ge_prop rfl ⟨by decide, by decide⟩ e5 rfl)
  refine go_popR kk32_0.1.1.1.2.2 ?_
  refine go_aload kk32_0.1.1.2.1.1 rfl ?_
  refine go_iload kk32_0.1.1.2.1.2 rfl ?_
  refine go_iload kk32_0.1.1.2.2 rfl ?_
  refine go_callQ2 kk32_0.1.2.1.1.1 rfl rfl rfl ⟨by decide, _, rfl, hK0⟩ ⟨by decide, by decide⟩ (by omega) (tfC_namedForExit (by omega) hg hK0  h2 h3) (fun y7 r8 => ?_) (fun e11 E12 => ge_prop rfl ⟨by decide, by decide⟩ e11 rfl)
  refine go_popR kk32_0.1.2.1.1.2 ?_
  refine go_aload kk32_0.1.2.1.2.1 rfl ?_
  refine go_iload kk32_0.1.2.1.2.2 rfl ?_
  refine go_iload kk32_0.1.2.2.1.1 rfl ?_
  refine go_callN1 kk32_0.1.2.2.1.2 rfl rfl rfl ⟨by decide, _, rfl, hK0⟩ ⟨by decide, by decide⟩ (by omega) (tfC_exitOfCopy (by omega) hg hK0  h2 h3) (fun y13 g15 r14 e16 => ?_)
  refine go_popI kk32_0.1.2.2.2 ?_
  refine go_aload kk32_0.2.1.1.1.1 rfl ?_
  refine go_getR (bI := 1) kk32_0.2.1.1.1.2 e16 hK0 (by decide) rfl rfl (fun r17 => ?_)
  refine go_iload kk32_0.2.1.1.2.1 rfl ?_
  refine go_ck (fun q18 => ?_)
  refine go_callP2 kk32_0.2.1.1.2.2 rfl rfl rfl ⟨by decide, _, rfl, q18⟩ ⟨by decide, by decide⟩ (by omega) (tfT_at (by omega) e16 q18  h1) (fun y19 r20 => ?_)
  refine go_astore kk32_0.2.1.2.1.1 rfl (loc2 := [some (sR v0), some (sI v1), some (sI v2), some (sI v3), some (sR y19)]) rfl ?_
  refine go_aload kk32_0.2.1.2.1.2 rfl ?_
  refine go_isnull kk32_0.2.1.2.2  (fun c23 => ?_) (fun c24 => ?_)
  · refine go_int kk32_0.2.2.1.1.1 (-1) rfl ?_
    refine go_goto kk32_0.2.2.1.1.2 ?_
    exact go_iret kk32_0.2.2.2.2 e16 (inR_of (by decide)) ⟨by decide, by decide⟩ rfl
  · refine go_aload kk32_0.2.2.1.2 rfl ?_
    refine go_ck (fun q25 => ?_)
    refine go_getR (bI := 2) kk32_0.2.2.2.1.1 e16 q25 (by decide) rfl rfl (fun r26 => ?_)
    refine go_callP1 kk32_0.2.2.2.1.2 rfl rfl rfl trivial ⟨by decide, by decide⟩ (by omega) (tfC_numberOf (by omega) e16  r26) (fun y27 r28 => ?_)
    exact go_iret kk32_0.2.2.2.2 e16 r28 ⟨by decide, by decide⟩ rfl
theorem tfW_wouldHave {Φ : ev_P} {d : Nat} (hd : 7 ≤ d) {g : gH} (hg : HR g) {v0 v1 v2 v3 v4 : Int} (h0 : RfR v0) (h1 : InR v1) (h2 : InR v2) (h3 : InR v3) (h4 : RfR v4) : Go Φ pr_P fN 1 (fW_wouldHave g v0 v1 v2 v3 v4) d (pr_P 328) 0 (ev_loc (pr_P 328).1 [(sR v0), (sI v1), (sI v2), (sI v3), (sR v4)]) [] g 0 0 := by
  show Go Φ pr_P fN 1 (fW_wouldHave g v0 v1 v2 v3 v4) d pr_m328 0 [some (sR v0), some (sI v1), some (sI v2), some (sI v3), some (sR v4), none] [] g 0 0
  unfold fW_wouldHave
  refine go_aload kk328_0.1.1.1.1.1 rfl ?_
  refine go_int kk328_0.1.1.1.1.2 0 rfl ?_
  refine go_aload kk328_0.1.1.1.2 rfl ?_
  refine go_iload kk328_0.1.1.2.1.1 rfl ?_
  refine go_iload kk328_0.1.1.2.1.2 rfl ?_
  refine go_iload kk328_0.1.1.2.2 rfl ?_
  refine go_ck (fun q1 => ?_)
  refine go_callT1 kk328_0.1.2.1.1.1 rfl rfl rfl ⟨by decide, _, rfl, q1⟩ ⟨by decide, by decide⟩ (by omega) (tfC_wouldHave (by omega) hg q1  h1 h2 h3) (fun y2 g4 r3 e5 => ?_) (fun E7 g4 e6 => ?_)
  · refine go_i2l kk328_0.1.2.1.1.2 r3 ?_
    refine go_ck (fun q8 => ?_)
    refine go_last kk328_0.1.2.1.2 e5 q8 (inL_R r3) (fun g9 e10 => ?_)
    refine go_goto kk328_0.1.2.2.1 ?_
    refine go_int kk328_0.2.2.2.1 0 rfl ?_
    exact go_iret kk328_0.2.2.2.2 e10 (inR_b (Or.inl rfl)) ⟨by decide, by decide⟩ rfl
  · refine ge_ite (fun hE9 => ?_) (fun _ => ?_)
    · subst hE9
      refine ge_catch rfl kk328_0.1.2.2.2 rfl (loc2 := [some (sR v0), some (sI v1), some (sI v2), some (sI v3), some (sR v4), none]) rfl ?_
      refine go_int kk328_0.2.1.1.1.1 1 rfl ?_
      exact go_iret kk328_0.2.1.1.1.2 e6 (inR_b (Or.inr rfl)) ⟨by decide, by decide⟩ rfl
    refine ge_ite (fun hE9 => ?_) (fun _ => ?_)
    · subst hE9
      refine ge_catch rfl kk328_0.2.1.1.2 rfl (loc2 := [some (sR v0), some (sI v1), some (sI v2), some (sI v3), some (sR v4), none]) rfl ?_
      refine go_int kk328_0.2.1.2.1 2 rfl ?_
      exact go_iret kk328_0.2.1.2.2 e6 (inR_of (by decide)) ⟨by decide, by decide⟩ rfl
    refine ge_ite (fun hE9 => ?_) (fun _ => ?_)
    · subst hE9
      refine ge_catch rfl kk328_0.2.2.1.1.1 rfl (loc2 := [some (sR v0), some (sI v1), some (sI v2), some (sI v3), some (sR v4), none]) rfl ?_
      refine go_int kk328_0.2.2.1.1.2 3 rfl ?_
      exact go_iret kk328_0.2.2.1.2 e6 (inR_of (by decide)) ⟨by decide, by decide⟩ rfl
    exact ge_none
theorem tfC_wouldFallBy {Φ : ev_P} {d : Nat} (hd : 6 ≤ d) {g : gH} (hg : HR g) {v0 v1 v2 : Int} (hK0 : kd v0 = 6) (h1 : InR v1) (h2 : InR v2) : Go Φ pr_P fT 1 (fC_wouldFallBy g v0 v1 v2) d (pr_P 33) 0 (ev_loc (pr_P 33).1 [(sR v0), (sI v1), (sI v2)]) [] g 0 0 := by
  show Go Φ pr_P fT 1 (fC_wouldFallBy g v0 v1 v2) d pr_m33 0 [some (sR v0), some (sI v1), some (sI v2)] [] g 0 0
  unfold fC_wouldFallBy
  refine go_iload kk33_0.1.1.1.1.1 rfl ?_
  refine go_iload kk33_0.1.1.1.1.2 rfl ?_
  refine go_callQ0 kk33_0.1.1.1.2 rfl rfl rfl trivial ⟨by decide, by decide⟩ (by omega) (tfC_checkKill (by omega) hg  h1 h2) (fun y1 => ?_) (fun e5 E6 => ge_prop rfl ⟨by decide, by decide⟩ e5 rfl)
  refine go_aload kk33_0.1.1.2.1.1 rfl ?_
  refine go_getR (bI := 1) kk33_0.1.1.2.1.2 hg hK0 (by decide) rfl rfl (fun r7 => ?_)
  refine go_aload kk33_0.1.1.2.2 rfl ?_
  refine go_getR (bI := 0) kk33_0.1.2.1.1.1 hg hK0 (by decide) rfl rfl (fun r8 => ?_)
  refine go_ck (fun q9 => ?_)
  refine go_callN0 kk33_0.1.2.1.1.2 rfl rfl rfl ⟨by decide, _, rfl, q9⟩ ⟨by decide, by decide⟩ (by omega) (tfT_take (by omega) hg q9  r8) (fun y10 g12 e13 => ?_)
  refine go_aload kk33_0.1.2.1.2 rfl ?_
  refine go_getR (bI := 1) kk33_0.1.2.2.1 e13 hK0 (by decide) rfl rfl (fun r14 => ?_)
  refine go_iload kk33_0.1.2.2.2 rfl ?_
  refine go_iload kk33_0.2.1.1.1.1 rfl ?_
  refine go_ck (fun q15 => ?_)
  refine go_callN1 kk33_0.2.1.1.1.2 rfl rfl rfl ⟨by decide, _, rfl, q15⟩ ⟨by decide, by decide⟩ (by omega) (tfT_killGroup (by omega) e13 q15  h1 h2) (fun y16 g18 r17 e19 => ?_)
  refine go_popI kk33_0.2.1.1.2 ?_
  refine go_aload kk33_0.2.1.2.1.1 rfl ?_
  refine go_getR (bI := 1) kk33_0.2.1.2.1.2 e19 hK0 (by decide) rfl rfl (fun r20 => ?_)
  refine go_ck (fun q21 => ?_)
  refine go_getI (bI := 8) kk33_0.2.1.2.2 e19 q21 (by decide) rfl rfl (fun r22 => ?_)
  refine go_aload kk33_0.2.2.1.1.1 rfl ?_
  refine go_getR (bI := 0) kk33_0.2.2.1.1.2 e19 hK0 (by decide) rfl rfl (fun r23 => ?_)
  refine go_ck (fun q24 => ?_)
  refine go_getI (bI := 8) kk33_0.2.2.1.2 e19 q24 (by decide) rfl rfl (fun r25 => ?_)
  refine go_isub kk33_0.2.2.2.1 ?_
  exact go_iret kk33_0.2.2.2.2 e19 (inR_w32 _) ⟨by decide, by decide⟩ rfl
theorem tfW_wouldFallBy {Φ : ev_P} {d : Nat} (hd : 7 ≤ d) {g : gH} (hg : HR g) {v0 v1 v2 v3 : Int} (h0 : RfR v0) (h1 : InR v1) (h2 : InR v2) (h3 : RfR v3) : Go Φ pr_P fN 1 (fW_wouldFallBy g v0 v1 v2 v3) d (pr_P 329) 0 (ev_loc (pr_P 329).1 [(sR v0), (sI v1), (sI v2), (sR v3)]) [] g 0 0 := by
  show Go Φ pr_P fN 1 (fW_wouldFallBy g v0 v1 v2 v3) d pr_m329 0 [some (sR v0), some (sI v1), some (sI v2), some (sR v3), none] [] g 0 0
  unfold fW_wouldFallBy
  refine go_aload kk329_0.1.1.1.1 rfl ?_
  refine go_int kk329_0.1.1.1.2 0 rfl ?_
  refine go_aload kk329_0.1.1.2.1 rfl ?_
  refine go_iload kk329_0.1.1.2.2 rfl ?_
  refine go_iload kk329_0.1.2.1.1 rfl ?_
  refine go_ck (fun q1 => ?_)
  refine go_callT1 kk329_0.1.2.1.2 rfl rfl rfl ⟨by decide, _, rfl, q1⟩ ⟨by decide, by decide⟩ (by omega) (tfC_wouldFallBy (by omega) hg q1  h1 h2) (fun y2 g4 r3 e5 => ?_) (fun E7 g4 e6 => ?_)
  · refine go_i2l kk329_0.1.2.2 r3 ?_
    refine go_ck (fun q8 => ?_)
    refine go_last kk329_0.2.1.1.1 e5 q8 (inL_R r3) (fun g9 e10 => ?_)
    refine go_goto kk329_0.2.1.1.2 ?_
    refine go_int kk329_0.2.2.1.2 0 rfl ?_
    exact go_iret kk329_0.2.2.2 e10 (inR_b (Or.inl rfl)) ⟨by decide, by decide⟩ rfl
  · refine ge_ite (fun hE9 => ?_) (fun _ => ?_)
    · subst hE9
      refine ge_catch rfl kk329_0.2.1.2.1 rfl (loc2 := [some (sR v0), some (sI v1), some (sI v2), some (sR v3), none]) rfl ?_
      refine go_int kk329_0.2.1.2.2 1 rfl ?_
      exact go_iret kk329_0.2.2.1.1 e6 (inR_b (Or.inr rfl)) ⟨by decide, by decide⟩ rfl
    exact ge_none
theorem tjC_weakest_64 {Φ : ev_P} {d : Nat} (hd : 6 ≤ d) {X28 : Int → Int → Int → gH → Option (Nat × (Int × gH))} {g : gH} (hg : HR g) {v0 v1 v2 v3 v4 v5 v6 v7 : Int} (hK0 : kd v0 = 6) (h1 : InR v1) (h2 : InR v2) (h3 : InR v3) (h4 : RfR v4) (h5 : InR v5) (h6 : InR v6) (h7 : RfR v7) {s0 : Int} (z0 : InR s0) (HX28 : ∀ (v2 : Int) (h2 : InR v2) (v3 : Int) (h3 : InR v3) (v6 : Int) (h6 : InR v6) (g : gH) (hg : HR g) (u7 : Option ev_V) (w7 : nwo u7) (u8 : Option ev_V) (w8 : nwo u8), Go Φ pr_P fT 1 (X28 v2 v3 v6 g) d pr_m34 28 [some (sR v0), some (sI v1), some (sI v2), some (sI v3), some (sR v4), some (sI v5), some (sI v6), u7, u8] [] g 1 6) (u8 : Option ev_V) (w8 : nwo u8) : Go Φ pr_P fT 1 (jC_weakest_64 X28 g v0 v1 v2 v3 v4 v5 v6 v7 s0 ) d pr_m34 64 [some (sR v0), some (sI v1), some (sI v2), some (sI v3), some (sR v4), some (sI v5), some (sI v6), some (sR v7), u8] [(sI s0)] g 1 6 := by
  unfold jC_weakest_64
  refine go_istore kk34_0.2.1.2.2.1.2 rfl (loc2 := [some (sR v0), some (sI v1), some (sI v2), some (sI v3), some (sR v4), some (sI v5), some (sI v6), some (sR v7), some (sI s0)]) rfl ?_
  refine go_iload kk34_0.2.1.2.2.2 rfl ?_
  refine go_iload kk34_0.2.2.1.1.1.1 rfl ?_
  refine go_cmgt kk34_0.2.2.1.1.1.2 z0 h3 (fun c28 => ?_) (fun c29 => ?_)
  · refine go_aload kk34_0.2.2.1.1.2 rfl ?_
    refine go_ck (fun q30 => ?_)
    refine go_getI (bI := 0) kk34_0.2.2.1.2.1.1 hg q30 (by decide) rfl rfl (fun r31 => ?_)
    refine go_istore kk34_0.2.2.1.2.1.2 rfl (loc2 := [some (sR v0), some (sI v1), some (sI (g v7 0)), some (sI v3), some (sR v4), some (sI v5), some (sI v6), some (sR v7), some (sI s0)]) rfl ?_
    refine go_iload kk34_0.2.2.1.2.2 rfl ?_
    refine go_istore kk34_0.2.2.2.1.1.1 rfl (loc2 := [some (sR v0), some (sI v1), some (sI (g v7 0)), some (sI s0), some (sR v4), some (sI v5), some (sI v6), some (sR v7), some (sI s0)]) rfl ?_
    refine go_iinc kk34_0.2.2.2.1.1.2 rfl rfl 1 rfl (loc2 := [some (sR v0), some (sI v1), some (sI (g v7 0)), some (sI s0), some (sR v4), some (sI v5), some (sI (w32 (v6 + 1))), some (sR v7), some (sI s0)]) rfl ?_
    refine go_goto kk34_0.2.2.2.1.2 ?_
    exact HX28 (g v7 0) r31 s0 z0 (w32 (v6 + 1)) (inR_w32 _) g hg (some (sR v7)) rfl (some (sI s0)) rfl
  · refine go_iinc kk34_0.2.2.2.1.1.2 rfl rfl 1 rfl (loc2 := [some (sR v0), some (sI v1), some (sI v2), some (sI v3), some (sR v4), some (sI v5), some (sI (w32 (v6 + 1))), some (sR v7), some (sI s0)]) rfl ?_
    refine go_goto kk34_0.2.2.2.1.2 ?_
    exact HX28 v2 h2 v3 h3 (w32 (v6 + 1)) (inR_w32 _) g hg (some (sR v7)) rfl (some (sI s0)) rfl
theorem tbC_weakest_28 {Φ : ev_P} {d : Nat} (hd : 6 ≤ d) {v0 v1 v4 v5 : Int} (hK0 : kd v0 = 6) (h1 : InR v1) (h4 : RfR v4) (h5 : InR v5) {X28 : Int → Int → Int → gH → Option (Nat × (Int × gH))} (HX28 : ∀ (v2 : Int) (h2 : InR v2) (v3 : Int) (h3 : InR v3) (v6 : Int) (h6 : InR v6) (g : gH) (hg : HR g) (u7 : Option ev_V) (w7 : nwo u7) (u8 : Option ev_V) (w8 : nwo u8), Go Φ pr_P fT 1 (X28 v2 v3 v6 g) d pr_m34 28 [some (sR v0), some (sI v1), some (sI v2), some (sI v3), some (sR v4), some (sI v5), some (sI v6), u7, u8] [] g 1 6) : ∀ (v2 : Int) (h2 : InR v2) (v3 : Int) (h3 : InR v3) (v6 : Int) (h6 : InR v6) (g : gH) (hg : HR g) (u7 : Option ev_V) (w7 : nwo u7) (u8 : Option ev_V) (w8 : nwo u8), Go Φ pr_P fT 1 (bC_weakest_28 v0 v1 v4 v5 X28 v2 v3 v6 g) d pr_m34 28 [some (sR v0), some (sI v1), some (sI v2), some (sI v3), some (sR v4), some (sI v5), some (sI v6), u7, u8] [] g 1 6 := by
  intro v2 h2 v3 h3 v6 h6 g hg u7 w7 u8 w8
  unfold bC_weakest_28
  refine go_iload kk34_0.1.2.1.2.1.2 rfl ?_
  refine go_iload kk34_0.1.2.1.2.2 rfl ?_
  refine go_cmlt kk34_0.1.2.2.1.1.1 h6 h5 (fun c12 => ?_) (fun c13 => ?_)
  · refine go_aload kk34_0.1.2.2.1.1.2 rfl ?_
    refine go_iload kk34_0.1.2.2.1.2 rfl ?_
    refine go_ck (fun q15 => ?_)
    refine go_pald kk34_0.1.2.2.2.1 hg q15 (fun r14 => ?_)
    refine go_astore kk34_0.1.2.2.2.2 rfl (loc2 := [some (sR v0), some (sI v1), some (sI v2), some (sI v3), some (sR v4), some (sI v5), some (sI v6), some (sR (g v4 v6)), u8]) rfl ?_
    refine go_aload kk34_0.2.1.1.1.1.1 rfl ?_
    refine go_ck (fun q16 => ?_)
    refine go_callP3 kk34_0.2.1.1.1.1.2 rfl rfl rfl ⟨by decide, _, rfl, q16⟩ ⟨by decide, by decide⟩ (by omega) (tfP_isMortal (by omega) hg q16 ) (fun y17 r18 => ?_)
    refine go_ifeq kk34_0.2.1.1.1.2 (inR_b r18) (fun c21 => ?_) (fun c22 => ?_)
    · refine go_int kk34_0.2.1.2.2.1.1 (-1) rfl ?_
      exact tjC_weakest_64 hd hg hK0 h1 h2 h3 h4 h5 h6 r14 (inR_of (by decide)) HX28 u8 w8
    · refine go_aload kk34_0.2.1.1.2.1.1 rfl ?_
      refine go_aload kk34_0.2.1.1.2.1.2 rfl ?_
      refine go_getI (bI := 0) kk34_0.2.1.1.2.2 hg q16 (by decide) rfl rfl (fun r23 => ?_)
      refine go_iload kk34_0.2.1.2.1.1.1 rfl ?_
      refine go_callN1 kk34_0.2.1.2.1.1.2 rfl rfl rfl ⟨by decide, _, rfl, hK0⟩ ⟨by decide, by decide⟩ (by omega) (tfC_exitOfCopy (by omega) hg hK0  r23 h1) (fun y24 g26 r25 e27 => ?_)
      refine go_goto kk34_0.2.1.2.1.2 ?_
      exact tjC_weakest_64 hd e27 hK0 h1 h2 h3 h4 h5 h6 r14 r25 HX28 u8 w8
  · refine go_iload kk34_0.2.2.2.2.1 rfl ?_
    exact go_iret kk34_0.2.2.2.2.2 hg h2 ⟨by decide, by decide⟩ rfl
theorem tlC_weakest_28 {Φ : ev_P} {d : Nat} (hd : 6 ≤ d) {v0 v1 v4 v5 : Int} (hK0 : kd v0 = 6) (h1 : InR v1) (h4 : RfR v4) (h5 : InR v5) : ∀ n : Nat, ∀ (v2 : Int) (h2 : InR v2) (v3 : Int) (h3 : InR v3) (v6 : Int) (h6 : InR v6) (g : gH) (hg : HR g) (u7 : Option ev_V) (w7 : nwo u7) (u8 : Option ev_V) (w8 : nwo u8), Go Φ pr_P fT 1 (lC_weakest_28 v0 v1 v4 v5 n v2 v3 v6 g) d pr_m34 28 [some (sR v0), some (sI v1), some (sI v2), some (sI v3), some (sR v4), some (sI v5), some (sI v6), u7, u8] [] g 1 6 := by
  intro n
  induction n with
  | zero => intros; exact go_none
  | succ n ih => exact tbC_weakest_28 hd hK0 h1 h4 h5 ih
theorem tfC_weakest {Φ : ev_P} {d : Nat} (hd : 6 ≤ d) {g : gH} (hg : HR g) {v0 v1 : Int} (hK0 : kd v0 = 6) (h1 : InR v1) : Go Φ pr_P fT 1 (fC_weakest g v0 v1) d (pr_P 34) 0 (ev_loc (pr_P 34).1 [(sR v0), (sI v1)]) [] g 0 0 := by
  show Go Φ pr_P fT 1 (fC_weakest g v0 v1) d pr_m34 0 [some (sR v0), some (sI v1), none, none, none, none, none, none, none] [] g 0 0
  unfold fC_weakest
  refine go_iload kk34_0.1.1.1.1.1.1 rfl ?_
  refine go_int kk34_0.1.1.1.1.1.2 255 rfl ?_
  refine go_callQ0 kk34_0.1.1.1.1.2 rfl rfl rfl trivial ⟨by decide, by decide⟩ (by omega) (tfC_checkRange (by omega) hg  h1 (inR_of (by decide))) (fun y1 => ?_) (fun e5 E6 => ge_prop rfl ⟨by decide, by decide⟩ e5 rfl)
  refine go_int kk34_0.1.1.1.2.1.1 (-1) rfl ?_
  refine go_istore kk34_0.1.1.1.2.1.2 rfl (loc2 := [some (sR v0), some (sI v1), some (sI (-1)), none, none, none, none, none, none]) rfl ?_
  refine go_int kk34_0.1.1.1.2.2 (-1) rfl ?_
  refine go_istore kk34_0.1.1.2.1.1.1 rfl (loc2 := [some (sR v0), some (sI v1), some (sI (-1)), some (sI (-1)), none, none, none, none, none]) rfl ?_
  refine go_aload kk34_0.1.1.2.1.1.2 rfl ?_
  refine go_getR (bI := 0) kk34_0.1.1.2.1.2 hg hK0 (by decide) rfl rfl (fun r7 => ?_)
  refine go_ck (fun q8 => ?_)
  refine go_getR (bI := 1) kk34_0.1.1.2.2.1.1 hg q8 (by decide) rfl rfl (fun r9 => ?_)
  refine go_astore kk34_0.1.1.2.2.1.2 rfl (loc2 := [some (sR v0), some (sI v1), some (sI (-1)), some (sI (-1)), some (sR (g (g v0 0) 1)), none, none, none, none]) rfl ?_
  refine go_aload kk34_0.1.1.2.2.2 rfl ?_
  refine go_ck (fun q11 => ?_)
  refine go_alen kk34_0.1.2.1.1.1.1 (ka_24 q11) (fun r10 => ?_)
  refine go_istore kk34_0.1.2.1.1.1.2 rfl (loc2 := [some (sR v0), some (sI v1), some (sI (-1)), some (sI (-1)), some (sR (g (g v0 0) 1)), some (sI (sz (g (g v0 0) 1))), none, none, none]) rfl ?_
  refine go_int kk34_0.1.2.1.1.2 0 rfl ?_
  refine go_istore kk34_0.1.2.1.2.1.1 rfl (loc2 := [some (sR v0), some (sI v1), some (sI (-1)), some (sI (-1)), some (sR (g (g v0 0) 1)), some (sI (sz (g (g v0 0) 1))), some (sI 0), none, none]) rfl ?_
  exact tlC_weakest_28 hd hK0 h1 r9 r10 fu (-1) (inR_of (by decide)) (-1) (inR_of (by decide)) 0 (inR_b (Or.inl rfl)) g hg none rfl none rfl
