/-! ===== the evaluator comes to what the functions tell (own work, by program: wip/p2/dec.py) ===== -/
theorem tfO_putComma {Φ : ev_P} {d : Nat} (hd : 1 ≤ d) {g : gH} (hg : HR g) {v0 : Int} (hK0 : kd v0 = 2) : Go Φ pr_P fN 0 (fO_putComma g v0) d (pr_P 231) 0 (ev_loc (pr_P 231).1 [(sR v0)]) [] g 0 0 := by
  show Go Φ pr_P fN 0 (fO_putComma g v0) d pr_m231 0 [some (sR v0)] [] g 0 0
  unfold fO_putComma
  refine go_aload kk231_0.1.1.1 rfl ?_
  refine go_getI (bI := 1) kk231_0.1.1.2 hg hK0 (by decide) rfl rfl (fun r1 => ?_)
  refine go_ifgt kk231_0.1.2.1 r1 (fun c2 => ?_) (fun c3 => ?_)
  · refine go_aload kk231_0.1.2.2 rfl ?_
    refine go_int kk231_0.2.1.1 44 rfl ?_
    refine go_callN0 kk231_0.2.1.2 rfl rfl rfl ⟨by decide, _, rfl, hK0⟩ ⟨Nat.zero_le _, Nat.zero_le _⟩ (by omega) (tfO_putSign (by omega) hg hK0  (inR_of (by decide))) (fun y4 g6 e7 => ?_)
    exact go_vret kk231_0.2.2 e7 ⟨Nat.zero_le _, Nat.zero_le _⟩ rfl
  · exact go_vret kk231_0.2.2 hg ⟨Nat.zero_le _, Nat.zero_le _⟩ rfl
theorem tbO_putChildren_12 {Φ : ev_P} {d : Nat} (hd : 2 ≤ d) {v0 v2 v3 v4 : Int} (hK0 : kd v0 = 2) (h2 : RfR v2) (h3 : RfR v3) (h4 : InR v4) {X12 : Int → gH → Option (Int × gH)} (HX12 : ∀ (v5 : Int) (h5 : InR v5) (g : gH) (hg : HR g) (u1 : Option ev_V) (w1 : nwo u1) (u6 : Option ev_V) (w6 : nwo u6), Go Φ pr_P fN 0 (X12 v5 g) d pr_m228 12 [some (sR v0), u1, some (sR v2), some (sR v3), some (sI v4), some (sI v5), u6] [] g 0 0) : ∀ (v5 : Int) (h5 : InR v5) (g : gH) (hg : HR g) (u1 : Option ev_V) (w1 : nwo u1) (u6 : Option ev_V) (w6 : nwo u6), Go Φ pr_P fN 0 (bO_putChildren_12 v0 v2 v3 v4 X12 v5 g) d pr_m228 12 [some (sR v0), u1, some (sR v2), some (sR v3), some (sI v4), some (sI v5), u6] [] g 0 0 := by
  intro v5 h5 g hg u1 w1 u6 w6
  unfold bO_putChildren_12
  refine go_iload kk228_0.1.2.1.1.2 rfl ?_
  refine go_iload kk228_0.1.2.1.2.1 rfl ?_
  refine go_cmlt kk228_0.1.2.1.2.2 h5 h4 (fun c5 => ?_) (fun c6 => ?_)
  · refine go_aload kk228_0.1.2.2.1.1 rfl ?_
    refine go_iload kk228_0.1.2.2.1.2 rfl ?_
    refine go_ck (fun q8 => ?_)
    refine go_pald kk228_0.1.2.2.2 hg q8 (fun r7 => ?_)
    refine go_astore kk228_0.2.1.1.1.1 rfl (loc2 := [some (sR v0), u1, some (sR v2), some (sR v3), some (sI v4), some (sI v5), some (sR (g v3 v5))]) rfl ?_
    refine go_aload kk228_0.2.1.1.1.2 rfl ?_
    refine go_aload kk228_0.2.1.1.2.1 rfl ?_
    refine go_ck (fun q9 => ?_)
    refine go_callP3 kk228_0.2.1.1.2.2 rfl rfl rfl ⟨by decide, _, rfl, q9⟩ ⟨Nat.zero_le _, Nat.zero_le _⟩ (by omega) (tfP_isRunningChildOf (by omega) hg q9  h2) (fun y10 r11 => ?_)
    refine go_ifeq kk228_0.2.1.2.1.1 (inR_b r11) (fun c14 => ?_) (fun c15 => ?_)
    · refine go_iinc kk228_0.2.2.2.1.1 rfl rfl 1 rfl (loc2 := [some (sR v0), u1, some (sR v2), some (sR v3), some (sI v4), some (sI (w32 (v5 + 1))), some (sR (g v3 v5))]) rfl ?_
      refine go_goto kk228_0.2.2.2.1.2 ?_
      exact HX12 (w32 (v5 + 1)) (inR_w32 _) g hg u1 w1 (some (sR (g v3 v5))) rfl
    · refine go_aload kk228_0.2.1.2.1.2 rfl ?_
      refine go_callN0 kk228_0.2.1.2.2 rfl rfl rfl ⟨by decide, _, rfl, hK0⟩ ⟨Nat.zero_le _, Nat.zero_le _⟩ (by omega) (tfO_putComma (by omega) hg hK0 ) (fun y16 g18 e19 => ?_)
      refine go_aload kk228_0.2.2.1.1.1 rfl ?_
      refine go_aload kk228_0.2.2.1.1.2 rfl ?_
      refine go_getI (bI := 0) kk228_0.2.2.1.2.1 e19 q9 (by decide) rfl rfl (fun r20 => ?_)
      refine go_callN0 kk228_0.2.2.1.2.2 rfl rfl rfl ⟨by decide, _, rfl, hK0⟩ ⟨Nat.zero_le _, Nat.zero_le _⟩ (by omega) (tfO_putNumber (by omega) e19 hK0  r20) (fun y21 g23 e24 => ?_)
      refine go_iinc kk228_0.2.2.2.1.1 rfl rfl 1 rfl (loc2 := [some (sR v0), u1, some (sR v2), some (sR v3), some (sI v4), some (sI (w32 (v5 + 1))), some (sR (g v3 v5))]) rfl ?_
      refine go_goto kk228_0.2.2.2.1.2 ?_
      exact HX12 (w32 (v5 + 1)) (inR_w32 _) g23 e24 u1 w1 (some (sR (g v3 v5))) rfl
  · exact go_vret kk228_0.2.2.2.2 hg ⟨Nat.zero_le _, Nat.zero_le _⟩ rfl
theorem tlO_putChildren_12 {Φ : ev_P} {d : Nat} (hd : 2 ≤ d) {v0 v2 v3 v4 : Int} (hK0 : kd v0 = 2) (h2 : RfR v2) (h3 : RfR v3) (h4 : InR v4) : ∀ n : Nat, ∀ (v5 : Int) (h5 : InR v5) (g : gH) (hg : HR g) (u1 : Option ev_V) (w1 : nwo u1) (u6 : Option ev_V) (w6 : nwo u6), Go Φ pr_P fN 0 (lO_putChildren_12 v0 v2 v3 v4 n v5 g) d pr_m228 12 [some (sR v0), u1, some (sR v2), some (sR v3), some (sI v4), some (sI v5), u6] [] g 0 0 := by
  intro n
  induction n with
  | zero => intros; exact go_none
  | succ n ih => exact tbO_putChildren_12 hd hK0 h2 h3 h4 ih
theorem tfO_putChildren {Φ : ev_P} {d : Nat} (hd : 2 ≤ d) {g : gH} (hg : HR g) {v0 v1 v2 : Int} (hK0 : kd v0 = 2) (h1 : RfR v1) (h2 : RfR v2) : Go Φ pr_P fN 0 (fO_putChildren g v0 v1 v2) d (pr_P 228) 0 (ev_loc (pr_P 228).1 [(sR v0), (sR v1), (sR v2)]) [] g 0 0 := by
  show Go Φ pr_P fN 0 (fO_putChildren g v0 v1 v2) d pr_m228 0 [some (sR v0), some (sR v1), some (sR v2), none, none, none, none] [] g 0 0
  unfold fO_putChildren
  refine go_aload kk228_0.1.1.1.1.1 rfl ?_
  refine go_ck (fun q1 => ?_)
  refine go_getR (bI := 1) kk228_0.1.1.1.1.2 hg q1 (by decide) rfl rfl (fun r2 => ?_)
  refine go_astore kk228_0.1.1.1.2.1 rfl (loc2 := [some (sR v0), some (sR v1), some (sR v2), some (sR (g v1 1)), none, none, none]) rfl ?_
  refine go_aload kk228_0.1.1.1.2.2 rfl ?_
  refine go_ck (fun q4 => ?_)
  refine go_alen kk228_0.1.1.2.1.1 (ka_24 q4) (fun r3 => ?_)
  refine go_istore kk228_0.1.1.2.1.2 rfl (loc2 := [some (sR v0), some (sR v1), some (sR v2), some (sR (g v1 1)), some (sI (sz (g v1 1))), none, none]) rfl ?_
  refine go_int kk228_0.1.1.2.2 0 rfl ?_
  refine go_istore kk228_0.1.2.1.1.1 rfl (loc2 := [some (sR v0), some (sR v1), some (sR v2), some (sR (g v1 1)), some (sI (sz (g v1 1))), some (sI 0), none]) rfl ?_
  exact tlO_putChildren_12 hd hK0 h2 r2 r3 fu 0 (inR_b (Or.inl rfl)) g hg (some (sR v1)) rfl none rfl
theorem tbO_putDuties_9 {Φ : ev_P} {d : Nat} (hd : 2 ≤ d) {v0 v3 : Int} (hK0 : kd v0 = 2) (h3 : InR v3) {X9 : Int → gH → Option (Int × gH)} (HX9 : ∀ (v4 : Int) (h4 : InR v4) (g : gH) (hg : HR g) (u1 : Option ev_V) (w1 : nwo u1) (u2 : Option ev_V) (w2 : nwo u2), Go Φ pr_P fN 0 (X9 v4 g) d pr_m229 9 [some (sR v0), u1, u2, some (sI v3), some (sI v4)] [] g 0 0) : ∀ (v4 : Int) (h4 : InR v4) (g : gH) (hg : HR g) (u1 : Option ev_V) (w1 : nwo u1) (u2 : Option ev_V) (w2 : nwo u2), Go Φ pr_P fN 0 (bO_putDuties_9 v0 v3 X9 v4 g) d pr_m229 9 [some (sR v0), u1, u2, some (sI v3), some (sI v4)] [] g 0 0 := by
  intro v4 h4 g hg u1 w1 u2 w2
  unfold bO_putDuties_9
  refine go_iload kk229_0.1.2.1.1.1 rfl ?_
  refine go_int kk229_0.1.2.1.1.2 8 rfl ?_
  refine go_cmlt kk229_0.1.2.1.2 h4 (inR_of (by decide)) (fun c6 => ?_) (fun c7 => ?_)
  · refine go_iload kk229_0.1.2.2.1 rfl ?_
    refine go_iload kk229_0.1.2.2.2 rfl ?_
    refine go_ibin kk229_0.2.1.1.1.1 ?_
    refine go_int kk229_0.2.1.1.1.2 1 rfl ?_
    refine go_ibin kk229_0.2.1.1.2 ?_
    refine go_ifeq kk229_0.2.1.2.1 (inR_opI _ _ _) (fun c8 => ?_) (fun c9 => ?_)
    · refine go_iinc kk229_0.2.2.1.2 rfl rfl 1 rfl (loc2 := [some (sR v0), u1, u2, some (sI v3), some (sI (w32 (v4 + 1)))]) rfl ?_
      refine go_goto kk229_0.2.2.2.1 ?_
      exact HX9 (w32 (v4 + 1)) (inR_w32 _) g hg u1 w1 u2 w2
    · refine go_aload kk229_0.2.1.2.2 rfl ?_
      refine go_iload kk229_0.2.2.1.1.1 rfl ?_
      refine go_callN0 kk229_0.2.2.1.1.2 rfl rfl rfl ⟨by decide, _, rfl, hK0⟩ ⟨Nat.zero_le _, Nat.zero_le _⟩ (by omega) (tfO_putNumber (by omega) hg hK0  h4) (fun y10 g12 e13 => ?_)
      refine go_iinc kk229_0.2.2.1.2 rfl rfl 1 rfl (loc2 := [some (sR v0), u1, u2, some (sI v3), some (sI (w32 (v4 + 1)))]) rfl ?_
      refine go_goto kk229_0.2.2.2.1 ?_
      exact HX9 (w32 (v4 + 1)) (inR_w32 _) g12 e13 u1 w1 u2 w2
  · exact go_vret kk229_0.2.2.2.2 hg ⟨Nat.zero_le _, Nat.zero_le _⟩ rfl
theorem tlO_putDuties_9 {Φ : ev_P} {d : Nat} (hd : 2 ≤ d) {v0 v3 : Int} (hK0 : kd v0 = 2) (h3 : InR v3) : ∀ n : Nat, ∀ (v4 : Int) (h4 : InR v4) (g : gH) (hg : HR g) (u1 : Option ev_V) (w1 : nwo u1) (u2 : Option ev_V) (w2 : nwo u2), Go Φ pr_P fN 0 (lO_putDuties_9 v0 v3 n v4 g) d pr_m229 9 [some (sR v0), u1, u2, some (sI v3), some (sI v4)] [] g 0 0 := by
  intro n
  induction n with
  | zero => intros; exact go_none
  | succ n ih => exact tbO_putDuties_9 hd hK0 h3 ih
theorem tfO_putDuties {Φ : ev_P} {d : Nat} (hd : 2 ≤ d) {g : gH} (hg : HR g) {v0 v1 v2 : Int} (hK0 : kd v0 = 2) (h1 : RfR v1) (h2 : RfR v2) : Go Φ pr_P fN 0 (fO_putDuties g v0 v1 v2) d (pr_P 229) 0 (ev_loc (pr_P 229).1 [(sR v0), (sR v1), (sR v2)]) [] g 0 0 := by
  show Go Φ pr_P fN 0 (fO_putDuties g v0 v1 v2) d pr_m229 0 [some (sR v0), some (sR v1), some (sR v2), none, none] [] g 0 0
  unfold fO_putDuties
  refine go_aload kk229_0.1.1.1.1.1 rfl ?_
  refine go_aload kk229_0.1.1.1.1.2 rfl ?_
  refine go_ck (fun q1 => ?_)
  refine go_callP1 kk229_0.1.1.1.2 rfl rfl rfl ⟨by decide, _, rfl, q1⟩ ⟨Nat.zero_le _, Nat.zero_le _⟩ (by omega) (tfT_dutiesOf (by omega) hg q1  h2) (fun y2 r3 => ?_)
  refine go_istore kk229_0.1.1.2.1.1 rfl (loc2 := [some (sR v0), some (sR v1), some (sR v2), some (sI y2), none]) rfl ?_
  refine go_int kk229_0.1.1.2.1.2 0 rfl ?_
  refine go_istore kk229_0.1.1.2.2 rfl (loc2 := [some (sR v0), some (sR v1), some (sR v2), some (sI y2), some (sI 0)]) rfl ?_
  exact tlO_putDuties_9 hd hK0 r3 fu 0 (inR_b (Or.inl rfl)) g hg (some (sR v1)) rfl (some (sR v2)) rfl
theorem tbO_putZombies_10 {Φ : ev_P} {d : Nat} (hd : 2 ≤ d) {v0 v1 v2 : Int} (hK0 : kd v0 = 2) (h1 : RfR v1) (h2 : RfR v2) {X10 : Int → Int → gH → Option (Int × gH)} (HX10 : ∀ (v3 : Int) (h3 : RfR v3) (v4 : Int) (h4 : InR v4) (g : gH) (hg : HR g), Go Φ pr_P fN 0 (X10 v3 v4 g) d pr_m230 10 [some (sR v0), some (sR v1), some (sR v2), some (sR v3), some (sI v4)] [] g 0 0) : ∀ (v3 : Int) (h3 : RfR v3) (v4 : Int) (h4 : InR v4) (g : gH) (hg : HR g), Go Φ pr_P fN 0 (bO_putZombies_10 v0 v1 v2 X10 v3 v4 g) d pr_m230 10 [some (sR v0), some (sR v1), some (sR v2), some (sR v3), some (sI v4)] [] g 0 0 := by
  intro v3 h3 v4 h4 g hg
  unfold bO_putZombies_10
  refine go_iload kk230_0.1.1.2.2.1 rfl ?_
  refine go_int kk230_0.1.1.2.2.2 40 rfl ?_
  refine go_cmlt kk230_0.1.2.1.1.1 h4 (inR_of (by decide)) (fun c6 => ?_) (fun c7 => ?_)
  · refine go_aload kk230_0.1.2.1.1.2 rfl ?_
    refine go_isnull kk230_0.1.2.1.2.1  (fun c8 => ?_) (fun c9 => ?_)
    · exact go_vret kk230_0.2.2.2.2.2 hg ⟨Nat.zero_le _, Nat.zero_le _⟩ rfl
    · refine go_aload kk230_0.1.2.1.2.2 rfl ?_
      refine go_callN0 kk230_0.1.2.2.1.1 rfl rfl rfl ⟨by decide, _, rfl, hK0⟩ ⟨Nat.zero_le _, Nat.zero_le _⟩ (by omega) (tfO_putComma (by omega) hg hK0 ) (fun y10 g12 e13 => ?_)
      refine go_aload kk230_0.1.2.2.1.2 rfl ?_
      refine go_aload kk230_0.1.2.2.2.1 rfl ?_
      refine go_ck (fun q14 => ?_)
      refine go_getI (bI := 0) kk230_0.1.2.2.2.2 e13 q14 (by decide) rfl rfl (fun r15 => ?_)
      refine go_callN0 kk230_0.2.1.1.1.1.1 rfl rfl rfl ⟨by decide, _, rfl, hK0⟩ ⟨Nat.zero_le _, Nat.zero_le _⟩ (by omega) (tfO_putNumber (by omega) e13 hK0  r15) (fun y16 g18 e19 => ?_)
      refine go_aload kk230_0.2.1.1.1.1.2 rfl ?_
      refine go_int kk230_0.2.1.1.1.2 58 rfl ?_
      refine go_callN0 kk230_0.2.1.1.2.1 rfl rfl rfl ⟨by decide, _, rfl, hK0⟩ ⟨Nat.zero_le _, Nat.zero_le _⟩ (by omega) (tfO_putSign (by omega) e19 hK0  (inR_of (by decide))) (fun y20 g22 e23 => ?_)
      refine go_aload kk230_0.2.1.1.2.2 rfl ?_
      refine go_aload kk230_0.2.1.2.1.1 rfl ?_
      refine go_getI (bI := 9) kk230_0.2.1.2.1.2 e23 q14 (by decide) rfl rfl (fun r24 => ?_)
      refine go_callN0 kk230_0.2.1.2.2.1 rfl rfl rfl ⟨by decide, _, rfl, hK0⟩ ⟨Nat.zero_le _, Nat.zero_le _⟩ (by omega) (tfO_putNumber (by omega) e23 hK0  r24) (fun y25 g27 e28 => ?_)
      refine go_aload kk230_0.2.1.2.2.2 rfl ?_
      refine go_aload kk230_0.2.2.1.1.1 rfl ?_
      refine go_aload kk230_0.2.2.1.1.2 rfl ?_
      refine go_getI (bI := 10) kk230_0.2.2.1.2.1 e28 q14 (by decide) rfl rfl (fun r29 => ?_)
      refine go_ck (fun q30 => ?_)
      refine go_callP2 kk230_0.2.2.1.2.2 rfl rfl rfl ⟨by decide, _, rfl, q30⟩ ⟨Nat.zero_le _, Nat.zero_le _⟩ (by omega) (tfT_zombieBehind (by omega) e28 q30  h2 r29) (fun y31 r32 => ?_)
      refine go_astore kk230_0.2.2.2.1.1 rfl (loc2 := [some (sR v0), some (sR v1), some (sR v2), some (sR y31), some (sI v4)]) rfl ?_
      refine go_iinc kk230_0.2.2.2.1.2 rfl rfl 1 rfl (loc2 := [some (sR v0), some (sR v1), some (sR v2), some (sR y31), some (sI (w32 (v4 + 1)))]) rfl ?_
      refine go_goto kk230_0.2.2.2.2.1 ?_
      exact HX10 y31 r32 (w32 (v4 + 1)) (inR_w32 _) g27 e28
  · exact go_vret kk230_0.2.2.2.2.2 hg ⟨Nat.zero_le _, Nat.zero_le _⟩ rfl
theorem tlO_putZombies_10 {Φ : ev_P} {d : Nat} (hd : 2 ≤ d) {v0 v1 v2 : Int} (hK0 : kd v0 = 2) (h1 : RfR v1) (h2 : RfR v2) : ∀ n : Nat, ∀ (v3 : Int) (h3 : RfR v3) (v4 : Int) (h4 : InR v4) (g : gH) (hg : HR g), Go Φ pr_P fN 0 (lO_putZombies_10 v0 v1 v2 n v3 v4 g) d pr_m230 10 [some (sR v0), some (sR v1), some (sR v2), some (sR v3), some (sI v4)] [] g 0 0 := by
  intro n
  induction n with
  | zero => intros; exact go_none
  | succ n ih => exact tbO_putZombies_10 hd hK0 h1 h2 ih
theorem tfO_putZombies {Φ : ev_P} {d : Nat} (hd : 2 ≤ d) {g : gH} (hg : HR g) {v0 v1 v2 : Int} (hK0 : kd v0 = 2) (h1 : RfR v1) (h2 : RfR v2) : Go Φ pr_P fN 0 (fO_putZombies g v0 v1 v2) d (pr_P 230) 0 (ev_loc (pr_P 230).1 [(sR v0), (sR v1), (sR v2)]) [] g 0 0 := by
  show Go Φ pr_P fN 0 (fO_putZombies g v0 v1 v2) d pr_m230 0 [some (sR v0), some (sR v1), some (sR v2), none, none] [] g 0 0
  unfold fO_putZombies
  refine go_aload kk230_0.1.1.1.1.1.1 rfl ?_
  refine go_aload kk230_0.1.1.1.1.1.2 rfl ?_
  refine go_int kk230_0.1.1.1.1.2 (-1) rfl ?_
  refine go_ck (fun q1 => ?_)
  refine go_callP2 kk230_0.1.1.1.2.1 rfl rfl rfl ⟨by decide, _, rfl, q1⟩ ⟨Nat.zero_le _, Nat.zero_le _⟩ (by omega) (tfT_zombieBehind (by omega) hg q1  h2 (inR_of (by decide))) (fun y2 r3 => ?_)
  refine go_astore kk230_0.1.1.1.2.2 rfl (loc2 := [some (sR v0), some (sR v1), some (sR v2), some (sR y2), none]) rfl ?_
  refine go_int kk230_0.1.1.2.1.1 0 rfl ?_
  refine go_istore kk230_0.1.1.2.1.2 rfl (loc2 := [some (sR v0), some (sR v1), some (sR v2), some (sR y2), some (sI 0)]) rfl ?_
  exact tlO_putZombies_10 hd hK0 h1 h2 fu y2 r3 0 (inR_b (Or.inl rfl)) g hg
theorem tjC_print_137 {Φ : ev_P} {d : Nat} (hd : 64 ≤ d) {g : gH} (hg : HR g) {v0 : Int} (hK0 : kd v0 = 6) (u1 : Option ev_V) (w1 : nwo u1) (u2 : Option ev_V) (w2 : nwo u2) (u3 : Option ev_V) (w3 : nwo u3) : Go Φ pr_P fT 1 (jC_print_137 g v0 ) d pr_m60 137 [some (sR v0), u1, u2, u3] [] g 3 18 := by
  unfold jC_print_137
  refine go_aload kk60_1.2.1.2.1.1 rfl ?_
  refine go_getR (bI := 5) kk60_1.2.1.2.1.2 hg hK0 (by decide) rfl rfl (fun r68 => ?_)
  refine go_ck (fun q69 => ?_)
  refine go_getI (bI := 1) kk60_1.2.1.2.2.1 hg q69 (by decide) rfl rfl (fun r70 => ?_)
  refine go_ifeq kk60_1.2.1.2.2.2 r70 (fun c71 => ?_) (fun c72 => ?_)
  · refine go_aload kk60_1.2.2.1.1.1 rfl ?_
    refine go_getR (bI := 5) kk60_1.2.2.1.1.2 hg hK0 (by decide) rfl rfl (fun r73 => ?_)
    refine go_int kk60_1.2.2.1.2.1 45 rfl ?_
    refine go_callN0 kk60_1.2.2.1.2.2 rfl rfl rfl ⟨by decide, _, rfl, q69⟩ ⟨by decide, by decide⟩ (by omega) (tfO_putSign (by omega) hg q69  (inR_of (by decide))) (fun y74 g76 e77 => ?_)
    refine go_aload kk60_1.2.2.2.1.1 rfl ?_
    refine go_getR (bI := 5) kk60_1.2.2.2.1.2 e77 hK0 (by decide) rfl rfl (fun r78 => ?_)
    refine go_ck (fun q79 => ?_)
    refine go_getI (bI := 1) kk60_1.2.2.2.2.1 e77 q79 (by decide) rfl rfl (fun r80 => ?_)
    exact go_iret kk60_1.2.2.2.2.2 e77 r80 ⟨by decide, by decide⟩ rfl
  · refine go_aload kk60_1.2.2.2.1.1 rfl ?_
    refine go_getR (bI := 5) kk60_1.2.2.2.1.2 hg hK0 (by decide) rfl rfl (fun r81 => ?_)
    refine go_getI (bI := 1) kk60_1.2.2.2.2.1 hg q69 (by decide) rfl rfl (fun r82 => ?_)
    exact go_iret kk60_1.2.2.2.2.2 hg r82 ⟨by decide, by decide⟩ rfl
theorem tjC_print_24 {Φ : ev_P} {d : Nat} (hd : 64 ≤ d) {g : gH} (hg : HR g) {v0 v2 v3 : Int} (hK0 : kd v0 = 6) (h2 : InR v2) (h3 : RfR v3) {s0 : Int} (z0 : B01 s0) (u1 : Option ev_V) (w1 : nwo u1) : Go Φ pr_P fT 1 (jC_print_24 g v0 v2 v3 s0 ) d pr_m60 24 [some (sR v0), u1, some (sI v2), some (sR v3)] [(sI s0)] g 2 12 := by
  unfold jC_print_24
  refine go_callQ0 kk60_0.1.2.2.1.2 rfl rfl rfl trivial ⟨by decide, by decide⟩ (by omega) (tfC_checkState (by omega) hg  z0) (fun y17 => ?_) (fun e21 E22 => ge_prop rfl ⟨by decide, by decide⟩ e21 rfl)
  refine go_aload kk60_0.1.2.2.2.1 rfl ?_
  refine go_getR (bI := 5) kk60_0.1.2.2.2.2 hg hK0 (by decide) rfl rfl (fun r23 => ?_)
  refine go_int kk60_0.2.1.1.1.1 0 rfl ?_
  refine go_ck (fun q24 => ?_)
  refine go_putI (bI := 1) kk60_0.2.1.1.1.2 hg q24 (by decide) rfl rfl (inR_b (Or.inl rfl)) (fun g25 e26 => ?_)
  refine go_iload kk60_0.2.1.1.2.1 rfl ?_
  refine go_ite (fun c27 => ?_) (fun c28 => ?_)
  · refine go_swh (lo := 0) (hi := 3) (i := 0) kk60_0.2.1.1.2.2 rfl rfl (by omega) (by omega) rfl ?_
    refine go_aload kk60_0.2.1.2.1.1 rfl ?_
    refine go_getR (bI := 5) kk60_0.2.1.2.1.2 e26 hK0 (by decide) rfl rfl (fun r29 => ?_)
    refine go_aload kk60_0.2.1.2.2.1 rfl ?_
    refine go_ck (fun q30 => ?_)
    refine go_callN0 kk60_0.2.1.2.2.2 rfl rfl rfl ⟨by decide, _, rfl, q30⟩ ⟨by decide, by decide⟩ (by omega) (tfO_putPath (by omega) e26 q30  h3) (fun y31 g33 e34 => ?_)
    refine go_goto kk60_0.2.2.1.1.1 ?_
    exact tjC_print_137 hd e34 hK0 u1 w1 (some (sI v2)) rfl (some (sR v3)) rfl
  refine go_ite (fun c35 => ?_) (fun c36 => ?_)
  · refine go_swh (lo := 0) (hi := 3) (i := 1) kk60_0.2.1.1.2.2 rfl rfl (by omega) (by omega) rfl ?_
    refine go_aload kk60_0.2.2.1.1.2 rfl ?_
    refine go_getR (bI := 5) kk60_0.2.2.1.2.1 e26 hK0 (by decide) rfl rfl (fun r37 => ?_)
    refine go_aload kk60_0.2.2.1.2.2 rfl ?_
    refine go_getR (bI := 0) kk60_0.2.2.2.1.1 e26 hK0 (by decide) rfl rfl (fun r38 => ?_)
    refine go_aload kk60_0.2.2.2.1.2 rfl ?_
    refine go_ck (fun q39 => ?_)
    refine go_callN0 kk60_0.2.2.2.2.1 rfl rfl rfl ⟨by decide, _, rfl, q39⟩ ⟨by decide, by decide⟩ (by omega) (tfO_putChildren (by omega) e26 q39  r38 h3) (fun y40 g42 e43 => ?_)
    refine go_goto kk60_0.2.2.2.2.2 ?_
    exact tjC_print_137 hd e43 hK0 u1 w1 (some (sI v2)) rfl (some (sR v3)) rfl
  refine go_ite (fun c44 => ?_) (fun c45 => ?_)
  · refine go_swh (lo := 0) (hi := 3) (i := 2) kk60_0.2.1.1.2.2 rfl rfl (by omega) (by omega) rfl ?_
    refine go_aload kk60_1.1.1.1.1.1.1 rfl ?_
    refine go_getR (bI := 5) kk60_1.1.1.1.1.1.2 e26 hK0 (by decide) rfl rfl (fun r46 => ?_)
    refine go_aload kk60_1.1.1.1.1.2 rfl ?_
    refine go_getR (bI := 0) kk60_1.1.1.1.2.1 e26 hK0 (by decide) rfl rfl (fun r47 => ?_)
    refine go_aload kk60_1.1.1.1.2.2 rfl ?_
    refine go_int kk60_1.1.1.2.1.1 0 rfl ?_
    refine go_callN0 kk60_1.1.1.2.1.2 rfl rfl rfl trivial ⟨by decide, by decide⟩ (by omega) (tfC_putBranch (by omega) e26  r46 r47 h3 (inR_b (Or.inl rfl))) (fun y48 g50 e51 => ?_)
    refine go_goto kk60_1.1.1.2.2.1 ?_
    exact tjC_print_137 hd e51 hK0 u1 w1 (some (sI v2)) rfl (some (sR v3)) rfl
  refine go_ite (fun c52 => ?_) (fun c53 => ?_)
  · refine go_swh (lo := 0) (hi := 3) (i := 3) kk60_0.2.1.1.2.2 rfl rfl (by omega) (by omega) rfl ?_
    refine go_aload kk60_1.1.1.2.2.2 rfl ?_
    refine go_getR (bI := 5) kk60_1.1.2.1.1.1 e26 hK0 (by decide) rfl rfl (fun r54 => ?_)
    refine go_aload kk60_1.1.2.1.1.2 rfl ?_
    refine go_getR (bI := 0) kk60_1.1.2.1.2.1 e26 hK0 (by decide) rfl rfl (fun r55 => ?_)
    refine go_aload kk60_1.1.2.1.2.2 rfl ?_
    refine go_ck (fun q56 => ?_)
    refine go_callN0 kk60_1.1.2.2.1.1 rfl rfl rfl ⟨by decide, _, rfl, q56⟩ ⟨by decide, by decide⟩ (by omega) (tfO_putDuties (by omega) e26 q56  r55 h3) (fun y57 g59 e60 => ?_)
    refine go_goto kk60_1.1.2.2.1.2 ?_
    exact tjC_print_137 hd e60 hK0 u1 w1 (some (sI v2)) rfl (some (sR v3)) rfl
  refine go_swd (lo := 0) (hi := 3) kk60_0.2.1.1.2.2 rfl rfl h2 (by omega) (by omega) ?_
  refine go_aload kk60_1.1.2.2.2.1 rfl ?_
  refine go_getR (bI := 5) kk60_1.1.2.2.2.2 e26 hK0 (by decide) rfl rfl (fun r61 => ?_)
  refine go_aload kk60_1.2.1.1.1.1 rfl ?_
  refine go_getR (bI := 0) kk60_1.2.1.1.1.2 e26 hK0 (by decide) rfl rfl (fun r62 => ?_)
  refine go_aload kk60_1.2.1.1.2.1 rfl ?_
  refine go_ck (fun q63 => ?_)
  refine go_callN0 kk60_1.2.1.1.2.2 rfl rfl rfl ⟨by decide, _, rfl, q63⟩ ⟨by decide, by decide⟩ (by omega) (tfO_putZombies (by omega) e26 q63  r62 h3) (fun y64 g66 e67 => ?_)
  exact tjC_print_137 hd e67 hK0 u1 w1 (some (sI v2)) rfl (some (sR v3)) rfl
theorem tfC_print {Φ : ev_P} {d : Nat} (hd : 64 ≤ d) {g : gH} (hg : HR g) {v0 v1 v2 : Int} (hK0 : kd v0 = 6) (h1 : InR v1) (h2 : InR v2) : Go Φ pr_P fT 1 (fC_print g v0 v1 v2) d (pr_P 60) 0 (ev_loc (pr_P 60).1 [(sR v0), (sI v1), (sI v2)]) [] g 0 0 := by
  show Go Φ pr_P fT 1 (fC_print g v0 v1 v2) d pr_m60 0 [some (sR v0), some (sI v1), some (sI v2), none] [] g 0 0
  unfold fC_print
  refine go_aload kk60_0.1.1.1.1.1.1 rfl ?_
  refine go_iload kk60_0.1.1.1.1.1.2 rfl ?_
  refine go_callQ2 kk60_0.1.1.1.1.2 rfl rfl rfl ⟨by decide, _, rfl, hK0⟩ ⟨by decide, by decide⟩ (by omega) (tfC_named (by omega) hg hK0  h1) (fun y1 r2 => ?_) (fun e5 E6 => ge_prop rfl ⟨by decide, by decide⟩ e5 rfl)
  refine go_astore kk60_0.1.1.1.2.1 rfl (loc2 := [some (sR v0), some (sI v1), some (sI v2), some (sR y1)]) rfl ?_
  refine go_iload kk60_0.1.1.1.2.2 rfl ?_
  refine go_int kk60_0.1.1.2.1.1 4 rfl ?_
  refine go_callQ0 kk60_0.1.1.2.1.2 rfl rfl rfl trivial ⟨by decide, by decide⟩ (by omega) (tfC_checkRange (by omega) hg  h2 (inR_of (by decide))) (fun y7 => ?_) (fun e11 E12 => ge_prop rfl ⟨by decide, by decide⟩ e11 rfl)
  refine go_aload kk60_0.1.1.2.2.1 rfl ?_
  refine go_ck (fun q13 => ?_)
  refine go_getI (bI := 1) kk60_0.1.1.2.2.2 hg q13 (by decide) rfl rfl (fun r14 => ?_)
  refine go_int kk60_0.1.2.1.1.1 2 rfl ?_
  refine go_cmeq kk60_0.1.2.1.1.2 r14 (inR_of (by decide)) (fun c15 => ?_) (fun c16 => ?_)
  · refine go_int kk60_0.1.2.2.1.1 0 rfl ?_
    exact tjC_print_24 hd hg hK0 h2 r2 (Or.inl rfl) (some (sI v1)) rfl
  · refine go_int kk60_0.1.2.1.2.1 1 rfl ?_
    refine go_goto kk60_0.1.2.1.2.2 ?_
    exact tjC_print_24 hd hg hK0 h2 r2 (Or.inr rfl) (some (sI v1)) rfl
theorem tfW_print {Φ : ev_P} {d : Nat} (hd : 65 ≤ d) {g : gH} (hg : HR g) {v0 v1 v2 v3 : Int} (h0 : RfR v0) (h1 : InR v1) (h2 : InR v2) (h3 : RfR v3) : Go Φ pr_P fN 1 (fW_print g v0 v1 v2 v3) d (pr_P 350) 0 (ev_loc (pr_P 350).1 [(sR v0), (sI v1), (sI v2), (sR v3)]) [] g 0 0 := by
  show Go Φ pr_P fN 1 (fW_print g v0 v1 v2 v3) d pr_m350 0 [some (sR v0), some (sI v1), some (sI v2), some (sR v3), none] [] g 0 0
  unfold fW_print
  refine go_aload kk350_0.1.1.1.1.1 rfl ?_
  refine go_int kk350_0.1.1.1.1.2 0 rfl ?_
  refine go_aload kk350_0.1.1.1.2 rfl ?_
  refine go_iload kk350_0.1.1.2.1 rfl ?_
  refine go_iload kk350_0.1.1.2.2 rfl ?_
  refine go_ck (fun q1 => ?_)
  refine go_callT1 kk350_0.1.2.1.1.1 rfl rfl rfl ⟨by decide, _, rfl, q1⟩ ⟨by decide, by decide⟩ (by omega) (tfC_print (by omega) hg q1  h1 h2) (fun y2 g4 r3 e5 => ?_) (fun E7 g4 e6 => ?_)
  · refine go_i2l kk350_0.1.2.1.1.2 r3 ?_
    refine go_ck (fun q8 => ?_)
    refine go_last kk350_0.1.2.1.2 e5 q8 (inL_R r3) (fun g9 e10 => ?_)
    refine go_goto kk350_0.1.2.2.1 ?_
    refine go_int kk350_0.2.2.2.1 0 rfl ?_
    exact go_iret kk350_0.2.2.2.2 e10 (inR_b (Or.inl rfl)) ⟨by decide, by decide⟩ rfl
  · refine ge_ite (fun hE9 => ?_) (fun _ => ?_)
    · subst hE9
      refine ge_catch rfl kk350_0.1.2.2.2 rfl (loc2 := [some (sR v0), some (sI v1), some (sI v2), some (sR v3), none]) rfl ?_
      refine go_int kk350_0.2.1.1.1.1 1 rfl ?_
      exact go_iret kk350_0.2.1.1.1.2 e6 (inR_b (Or.inr rfl)) ⟨by decide, by decide⟩ rfl
    refine ge_ite (fun hE9 => ?_) (fun _ => ?_)
    · subst hE9
      refine ge_catch rfl kk350_0.2.1.1.2 rfl (loc2 := [some (sR v0), some (sI v1), some (sI v2), some (sR v3), none]) rfl ?_
      refine go_int kk350_0.2.1.2.1 2 rfl ?_
      exact go_iret kk350_0.2.1.2.2 e6 (inR_of (by decide)) ⟨by decide, by decide⟩ rfl
    refine ge_ite (fun hE9 => ?_) (fun _ => ?_)
    · subst hE9
      refine ge_catch rfl kk350_0.2.2.1.1.1 rfl (loc2 := [some (sR v0), some (sI v1), some (sI v2), some (sR v3), none]) rfl ?_
      refine go_int kk350_0.2.2.1.1.2 3 rfl ?_
      exact go_iret kk350_0.2.2.1.2 e6 (inR_of (by decide)) ⟨by decide, by decide⟩ rfl
    exact ge_none
theorem tfC_restoreState {Φ : ev_P} {d : Nat} (hd : 2 ≤ d) {g : gH} (hg : HR g) {v0 : Int} (hK0 : kd v0 = 6) : Go Φ pr_P fT 1 (fC_restoreState g v0) d (pr_P 64) 0 (ev_loc (pr_P 64).1 [(sR v0)]) [] g 0 0 := by
  show Go Φ pr_P fT 1 (fC_restoreState g v0) d pr_m64 0 [some (sR v0)] [] g 0 0
  unfold fC_restoreState
  refine go_aload kk64_0.1.1.1.1.1 rfl ?_
  refine go_getB (bI := 6) kk64_0.1.1.1.1.2 hg hK0 (by decide) rfl rfl (fun r1 => ?_)
  refine go_callQ0 kk64_0.1.1.1.2 rfl rfl rfl trivial ⟨by decide, by decide⟩ (by omega) (tfC_checkState (by omega) hg  r1) (fun y2 => ?_) (fun e6 E7 => ge_prop rfl ⟨by decide, by decide⟩ e6 rfl)
  refine go_aload kk64_0.1.1.2.1 rfl ?_
  refine go_getR (bI := 0) kk64_0.1.1.2.2 hg hK0 (by decide) rfl rfl (fun r8 => ?_)
  refine go_aload kk64_0.1.2.1.1 rfl ?_
  refine go_getR (bI := 2) kk64_0.1.2.1.2 hg hK0 (by decide) rfl rfl (fun r9 => ?_)
  refine go_ck (fun q10 => ?_)
  refine go_callN0 kk64_0.1.2.2.1 rfl rfl rfl ⟨by decide, _, rfl, q10⟩ ⟨by decide, by decide⟩ (by omega) (tfT_take (by omega) hg q10  r9) (fun y11 g13 e14 => ?_)
  refine go_aload kk64_0.1.2.2.2 rfl ?_
  refine go_getR (bI := 3) kk64_0.2.1.1.1 e14 hK0 (by decide) rfl rfl (fun r15 => ?_)
  refine go_int kk64_0.2.1.1.2 0 rfl ?_
  refine go_ck (fun q16 => ?_)
  refine go_putI (bI := 1) kk64_0.2.1.2.1 e14 q16 (by decide) rfl rfl (inR_b (Or.inl rfl)) (fun g17 e18 => ?_)
  refine go_aload kk64_0.2.1.2.2 rfl ?_
  refine go_getR (bI := 0) kk64_0.2.2.1.1 e18 hK0 (by decide) rfl rfl (fun r19 => ?_)
  refine go_int kk64_0.2.2.1.2 0 rfl ?_
  refine go_ck (fun q20 => ?_)
  refine go_callP1 kk64_0.2.2.2.1 rfl rfl rfl ⟨by decide, _, rfl, q20⟩ ⟨by decide, by decide⟩ (by omega) (tfT_countInState (by omega) e18 q20  (inR_b (Or.inl rfl))) (fun y21 r22 => ?_)
  exact go_iret kk64_0.2.2.2.2 e18 r22 ⟨by decide, by decide⟩ rfl
theorem tfW_restoreState {Φ : ev_P} {d : Nat} (hd : 3 ≤ d) {g : gH} (hg : HR g) {v0 v1 : Int} (h0 : RfR v0) (h1 : RfR v1) : Go Φ pr_P fN 1 (fW_restoreState g v0 v1) d (pr_P 351) 0 (ev_loc (pr_P 351).1 [(sR v0), (sR v1)]) [] g 0 0 := by
  show Go Φ pr_P fN 1 (fW_restoreState g v0 v1) d pr_m351 0 [some (sR v0), some (sR v1), none] [] g 0 0
  unfold fW_restoreState
  refine go_aload kk351_0.1.1.1.1 rfl ?_
  refine go_int kk351_0.1.1.1.2 0 rfl ?_
  refine go_aload kk351_0.1.1.2 rfl ?_
  refine go_ck (fun q1 => ?_)
  refine go_callT1 kk351_0.1.2.1.1 rfl rfl rfl ⟨by decide, _, rfl, q1⟩ ⟨by decide, by decide⟩ (by omega) (tfC_restoreState (by omega) hg q1 ) (fun y2 g4 r3 e5 => ?_) (fun E7 g4 e6 => ?_)
  · refine go_i2l kk351_0.1.2.1.2 r3 ?_
    refine go_ck (fun q8 => ?_)
    refine go_last kk351_0.1.2.2 e5 q8 (inL_R r3) (fun g9 e10 => ?_)
    refine go_goto kk351_0.2.1.1.1 ?_
    refine go_int kk351_0.2.2.1.2 0 rfl ?_
    exact go_iret kk351_0.2.2.2 e10 (inR_b (Or.inl rfl)) ⟨by decide, by decide⟩ rfl
  · refine ge_ite (fun hE9 => ?_) (fun _ => ?_)
    · subst hE9
      refine ge_catch rfl kk351_0.2.1.1.2 rfl (loc2 := [some (sR v0), some (sR v1), none]) rfl ?_
      refine go_int kk351_0.2.1.2 1 rfl ?_
      exact go_iret kk351_0.2.2.1.1 e6 (inR_b (Or.inr rfl)) ⟨by decide, by decide⟩ rfl
    exact ge_none
