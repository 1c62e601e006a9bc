/-! ===== the evaluator comes to what the functions tell (own work, by program: wip/p2/dec.py) ===== -/
theorem tfW_weakest {Φ : ev_P} {d : Nat} (hd : 7 ≤ d) {g : gH} (hg : HR g) {v0 v1 v2 : Int} (h0 : RfR v0) (h1 : InR v1) (h2 : RfR v2) : Go Φ pr_P fN 1 (fW_weakest g v0 v1 v2) d (pr_P 330) 0 (ev_loc (pr_P 330).1 [(sR v0), (sI v1), (sR v2)]) [] g 0 0 := by
  show Go Φ pr_P fN 1 (fW_weakest g v0 v1 v2) d pr_m330 0 [some (sR v0), some (sI v1), some (sR v2), none] [] g 0 0
  unfold fW_weakest
  refine go_aload kk330_0.1.1.1.1 rfl ?_
  refine go_int kk330_0.1.1.1.2 0 rfl ?_
  refine go_aload kk330_0.1.1.2.1 rfl ?_
  refine go_iload kk330_0.1.1.2.2 rfl ?_
  refine go_ck (fun q1 => ?_)
  refine go_callT1 kk330_0.1.2.1.1 rfl rfl rfl ⟨by decide, _, rfl, q1⟩ ⟨by decide, by decide⟩ (by omega) (tfC_weakest (by omega) hg q1  h1) (fun y2 g4 r3 e5 => ?_) (fun E7 g4 e6 => ?_)
  · refine go_i2l kk330_0.1.2.1.2 r3 ?_
    refine go_ck (fun q8 => ?_)
    refine go_last kk330_0.1.2.2 e5 q8 (inL_R r3) (fun g9 e10 => ?_)
    refine go_goto kk330_0.2.1.1.1 ?_
    refine go_int kk330_0.2.2.1.2 0 rfl ?_
    exact go_iret kk330_0.2.2.2 e10 (inR_b (Or.inl rfl)) ⟨by decide, by decide⟩ rfl
  · refine ge_ite (fun hE9 => ?_) (fun _ => ?_)
    · subst hE9
      refine ge_catch rfl kk330_0.2.1.1.2 rfl (loc2 := [some (sR v0), some (sI v1), some (sR v2), none]) rfl ?_
      refine go_int kk330_0.2.1.2 1 rfl ?_
      exact go_iret kk330_0.2.2.1.1 e6 (inR_b (Or.inr rfl)) ⟨by decide, by decide⟩ rfl
    exact ge_none
theorem tbC_roomiest_27 {Φ : ev_P} {d : Nat} (hd : 1 ≤ d) {g : gH} (hg : HR g) {v1 v4 v5 : Int} (h1 : InR v1) (h4 : RfR v4) (h5 : InR v5) {X27 : Int → Int → Int → Option (Nat × Int)} (HX27 : ∀ (v2 : Int) (h2 : InR v2) (v3 : Int) (h3 : InR v3) (v6 : Int) (h6 : InR v6) (u0 : Option ev_V) (w0 : nwo u0) (u7 : Option ev_V) (w7 : nwo u7), Go Φ pr_P (fQ g) 1 (X27 v2 v3 v6) d pr_m35 27 [u0, some (sI v1), some (sI v2), some (sI v3), some (sR v4), some (sI v5), some (sI v6), u7] [] g 1 6) : ∀ (v2 : Int) (h2 : InR v2) (v3 : Int) (h3 : InR v3) (v6 : Int) (h6 : InR v6) (u0 : Option ev_V) (w0 : nwo u0) (u7 : Option ev_V) (w7 : nwo u7), Go Φ pr_P (fQ g) 1 (bC_roomiest_27 g v1 v4 v5 X27 v2 v3 v6) d pr_m35 27 [u0, some (sI v1), some (sI v2), some (sI v3), some (sR v4), some (sI v5), some (sI v6), u7] [] g 1 6 := by
  intro v2 h2 v3 h3 v6 h6 u0 w0 u7 w7
  unfold bC_roomiest_27
  refine go_iload kk35_0.1.2.1.2.2 rfl ?_
  refine go_iload kk35_0.1.2.2.1.1.1 rfl ?_
  refine go_cmlt kk35_0.1.2.2.1.1.2 h6 h5 (fun c12 => ?_) (fun c13 => ?_)
  · refine go_aload kk35_0.1.2.2.1.2 rfl ?_
    refine go_iload kk35_0.1.2.2.2.1 rfl ?_
    refine go_ck (fun q15 => ?_)
    refine go_pald kk35_0.1.2.2.2.2 hg q15 (fun r14 => ?_)
    refine go_astore kk35_0.2.1.1.1.1.1 rfl (loc2 := [u0, some (sI v1), some (sI v2), some (sI v3), some (sR v4), some (sI v5), some (sI v6), some (sR (g v4 v6))]) rfl ?_
    refine go_aload kk35_0.2.1.1.1.1.2 rfl ?_
    refine go_ck (fun q16 => ?_)
    refine go_callP3 kk35_0.2.1.1.1.2 rfl rfl rfl ⟨by decide, _, rfl, q16⟩ ⟨by decide, by decide⟩ (by omega) (tfP_isMortal (by omega) hg q16 ) (fun y17 r18 => ?_)
    refine go_ifeq kk35_0.2.1.1.2.1.1 (inR_b r18) (fun c21 => ?_) (fun c22 => ?_)
    · refine go_iinc kk35_0.2.2.2.1.1.2 rfl rfl 1 rfl (loc2 := [u0, some (sI v1), some (sI v2), some (sI v3), some (sR v4), some (sI v5), some (sI (w32 (v6 + 1))), some (sR (g v4 v6))]) rfl ?_
      refine go_goto kk35_0.2.2.2.1.2 ?_
      exact HX27 v2 h2 v3 h3 (w32 (v6 + 1)) (inR_w32 _) u0 w0 (some (sR (g v4 v6))) rfl
    · refine go_aload kk35_0.2.1.1.2.1.2 rfl ?_
      refine go_iload kk35_0.2.1.1.2.2 rfl ?_
      refine go_callP3 kk35_0.2.1.2.1.1.1 rfl rfl rfl ⟨by decide, _, rfl, q16⟩ ⟨by decide, by decide⟩ (by omega) (tfP_refuses (by omega) hg q16  h1) (fun y23 r24 => ?_)
      refine go_ifeq kk35_0.2.1.2.1.1.2 (inR_b r24) (fun c27 => ?_) (fun c28 => ?_)
      · refine go_aload kk35_0.2.1.2.1.2 rfl ?_
        refine go_callP1 kk35_0.2.1.2.2.1 rfl rfl rfl ⟨by decide, _, rfl, q16⟩ ⟨by decide, by decide⟩ (by omega) (tfP_room (by omega) hg q16 ) (fun y29 r30 => ?_)
        refine go_iload kk35_0.2.1.2.2.2 rfl ?_
        refine go_cmgt kk35_0.2.2.1.1.1.1 r30 h3 (fun c33 => ?_) (fun c34 => ?_)
        · refine go_aload kk35_0.2.2.1.1.1.2 rfl ?_
          refine go_getI (bI := 0) kk35_0.2.2.1.1.2 hg q16 (by decide) rfl rfl (fun r35 => ?_)
          refine go_istore kk35_0.2.2.1.2.1.1 rfl (loc2 := [u0, some (sI v1), some (sI (g (g v4 v6) 0)), some (sI v3), some (sR v4), some (sI v5), some (sI v6), some (sR (g v4 v6))]) rfl ?_
          refine go_aload kk35_0.2.2.1.2.1.2 rfl ?_
          refine go_callP1 kk35_0.2.2.1.2.2 rfl rfl rfl ⟨by decide, _, rfl, q16⟩ ⟨by decide, by decide⟩ (by omega) (tfP_room (by omega) hg q16 ) (fun y36 r37 => ?_)
          refine go_istore kk35_0.2.2.2.1.1.1 rfl (loc2 := [u0, some (sI v1), some (sI (g (g v4 v6) 0)), some (sI y36), some (sR v4), some (sI v5), some (sI v6), some (sR (g v4 v6))]) rfl ?_
          refine go_iinc kk35_0.2.2.2.1.1.2 rfl rfl 1 rfl (loc2 := [u0, some (sI v1), some (sI (g (g v4 v6) 0)), some (sI y36), some (sR v4), some (sI v5), some (sI (w32 (v6 + 1))), some (sR (g v4 v6))]) rfl ?_
          refine go_goto kk35_0.2.2.2.1.2 ?_
          exact HX27 (g (g v4 v6) 0) r35 y36 r37 (w32 (v6 + 1)) (inR_w32 _) u0 w0 (some (sR (g v4 v6))) rfl
        · refine go_iinc kk35_0.2.2.2.1.1.2 rfl rfl 1 rfl (loc2 := [u0, some (sI v1), some (sI v2), some (sI v3), some (sR v4), some (sI v5), some (sI (w32 (v6 + 1))), some (sR (g v4 v6))]) rfl ?_
          refine go_goto kk35_0.2.2.2.1.2 ?_
          exact HX27 v2 h2 v3 h3 (w32 (v6 + 1)) (inR_w32 _) u0 w0 (some (sR (g v4 v6))) rfl
      · refine go_iinc kk35_0.2.2.2.1.1.2 rfl rfl 1 rfl (loc2 := [u0, some (sI v1), some (sI v2), some (sI v3), some (sR v4), some (sI v5), some (sI (w32 (v6 + 1))), some (sR (g v4 v6))]) rfl ?_
        refine go_goto kk35_0.2.2.2.1.2 ?_
        exact HX27 v2 h2 v3 h3 (w32 (v6 + 1)) (inR_w32 _) u0 w0 (some (sR (g v4 v6))) rfl
  · refine go_iload kk35_0.2.2.2.2.1 rfl ?_
    exact go_iret kk35_0.2.2.2.2.2 hg h2 ⟨by decide, by decide⟩ rfl
theorem tlC_roomiest_27 {Φ : ev_P} {d : Nat} (hd : 1 ≤ d) {g : gH} (hg : HR g) {v1 v4 v5 : Int} (h1 : InR v1) (h4 : RfR v4) (h5 : InR v5) : ∀ n : Nat, ∀ (v2 : Int) (h2 : InR v2) (v3 : Int) (h3 : InR v3) (v6 : Int) (h6 : InR v6) (u0 : Option ev_V) (w0 : nwo u0) (u7 : Option ev_V) (w7 : nwo u7), Go Φ pr_P (fQ g) 1 (lC_roomiest_27 g v1 v4 v5 n v2 v3 v6) d pr_m35 27 [u0, some (sI v1), some (sI v2), some (sI v3), some (sR v4), some (sI v5), some (sI v6), u7] [] g 1 6 := by
  intro n
  induction n with
  | zero => intros; exact go_none
  | succ n ih => exact tbC_roomiest_27 hd hg h1 h4 h5 ih
theorem tfC_roomiest {Φ : ev_P} {d : Nat} (hd : 1 ≤ d) {g : gH} (hg : HR g) {v0 v1 : Int} (hK0 : kd v0 = 6) (h1 : InR v1) : Go Φ pr_P (fQ g) 1 (fC_roomiest g v0 v1) d (pr_P 35) 0 (ev_loc (pr_P 35).1 [(sR v0), (sI v1)]) [] g 0 0 := by
  show Go Φ pr_P (fQ g) 1 (fC_roomiest g v0 v1) d pr_m35 0 [some (sR v0), some (sI v1), none, none, none, none, none, none] [] g 0 0
  unfold fC_roomiest
  refine go_iload kk35_0.1.1.1.1.1.1 rfl ?_
  refine go_int kk35_0.1.1.1.1.1.2 9 rfl ?_
  refine go_callQ0 kk35_0.1.1.1.1.2 rfl rfl rfl trivial ⟨by decide, by decide⟩ (by omega) (tfC_checkRange (by omega) hg  h1 (inR_of (by decide))) (fun y1 => ?_) (fun e5 E6 => ge_prop rfl ⟨by decide, by decide⟩ e5 rfl)
  refine go_int kk35_0.1.1.1.2.1.1 (-1) rfl ?_
  refine go_istore kk35_0.1.1.1.2.1.2 rfl (loc2 := [some (sR v0), some (sI v1), some (sI (-1)), none, none, none, none, none]) rfl ?_
  refine go_int kk35_0.1.1.1.2.2 0 rfl ?_
  refine go_istore kk35_0.1.1.2.1.1.1 rfl (loc2 := [some (sR v0), some (sI v1), some (sI (-1)), some (sI 0), none, none, none, none]) rfl ?_
  refine go_aload kk35_0.1.1.2.1.1.2 rfl ?_
  refine go_getR (bI := 0) kk35_0.1.1.2.1.2 hg hK0 (by decide) rfl rfl (fun r7 => ?_)
  refine go_ck (fun q8 => ?_)
  refine go_getR (bI := 1) kk35_0.1.1.2.2.1 hg q8 (by decide) rfl rfl (fun r9 => ?_)
  refine go_astore kk35_0.1.1.2.2.2 rfl (loc2 := [some (sR v0), some (sI v1), some (sI (-1)), some (sI 0), some (sR (g (g v0 0) 1)), none, none, none]) rfl ?_
  refine go_aload kk35_0.1.2.1.1.1.1 rfl ?_
  refine go_ck (fun q11 => ?_)
  refine go_alen kk35_0.1.2.1.1.1.2 (ka_24 q11) (fun r10 => ?_)
  refine go_istore kk35_0.1.2.1.1.2 rfl (loc2 := [some (sR v0), some (sI v1), some (sI (-1)), some (sI 0), some (sR (g (g v0 0) 1)), some (sI (sz (g (g v0 0) 1))), none, none]) rfl ?_
  refine go_int kk35_0.1.2.1.2.1.1 0 rfl ?_
  refine go_istore kk35_0.1.2.1.2.1.2 rfl (loc2 := [some (sR v0), some (sI v1), some (sI (-1)), some (sI 0), some (sR (g (g v0 0) 1)), some (sI (sz (g (g v0 0) 1))), some (sI 0), none]) rfl ?_
  exact tlC_roomiest_27 hd hg h1 r9 r10 fu (-1) (inR_of (by decide)) 0 (inR_b (Or.inl rfl)) 0 (inR_b (Or.inl rfl)) (some (sR v0)) rfl none rfl
theorem tfW_roomiest {Φ : ev_P} {d : Nat} (hd : 2 ≤ d) {g : gH} (hg : HR g) {v0 v1 v2 : Int} (h0 : RfR v0) (h1 : InR v1) (h2 : RfR v2) : Go Φ pr_P fN 1 (fW_roomiest g v0 v1 v2) d (pr_P 331) 0 (ev_loc (pr_P 331).1 [(sR v0), (sI v1), (sR v2)]) [] g 0 0 := by
  show Go Φ pr_P fN 1 (fW_roomiest g v0 v1 v2) d pr_m331 0 [some (sR v0), some (sI v1), some (sR v2), none] [] g 0 0
  unfold fW_roomiest
  refine go_aload kk331_0.1.1.1.1 rfl ?_
  refine go_int kk331_0.1.1.1.2 0 rfl ?_
  refine go_aload kk331_0.1.1.2.1 rfl ?_
  refine go_iload kk331_0.1.1.2.2 rfl ?_
  refine go_ck (fun q1 => ?_)
  refine go_callQ1 kk331_0.1.2.1.1 rfl rfl rfl ⟨by decide, _, rfl, q1⟩ ⟨by decide, by decide⟩ (by omega) (tfC_roomiest (by omega) hg q1  h1) (fun y2 r3 => ?_) (fun e6 E7 => ?_)
  · refine go_i2l kk331_0.1.2.1.2 r3 ?_
    refine go_ck (fun q8 => ?_)
    refine go_last kk331_0.1.2.2 hg q8 (inL_R r3) (fun g9 e10 => ?_)
    refine go_goto kk331_0.2.1.1.1 ?_
    refine go_int kk331_0.2.2.1.2 0 rfl ?_
    exact go_iret kk331_0.2.2.2 e10 (inR_b (Or.inl rfl)) ⟨by decide, by decide⟩ rfl
  · refine ge_ite (fun hE9 => ?_) (fun _ => ?_)
    · subst hE9
      refine ge_catch rfl kk331_0.2.1.1.2 rfl (loc2 := [some (sR v0), some (sI v1), some (sR v2), none]) rfl ?_
      refine go_int kk331_0.2.1.2 1 rfl ?_
      exact go_iret kk331_0.2.2.1.1 e6 (inR_b (Or.inr rfl)) ⟨by decide, by decide⟩ rfl
    exact ge_none
theorem tbC_ofGroup_23 {Φ : ev_P} {d : Nat} (hd : 1 ≤ d) {g : gH} (hg : HR g) {v1 v3 v4 : Int} (h1 : InR v1) (h3 : RfR v3) (h4 : InR v4) {X23 : Int → Int → Option (Nat × Int)} (HX23 : ∀ (v2 : Int) (h2 : InR v2) (v5 : Int) (h5 : InR v5) (u0 : Option ev_V) (w0 : nwo u0) (u6 : Option ev_V) (w6 : nwo u6), Go Φ pr_P (fQ g) 1 (X23 v2 v5) d pr_m38 23 [u0, some (sI v1), some (sI v2), some (sR v3), some (sI v4), some (sI v5), u6] [] g 1 6) : ∀ (v2 : Int) (h2 : InR v2) (v5 : Int) (h5 : InR v5) (u0 : Option ev_V) (w0 : nwo u0) (u6 : Option ev_V) (w6 : nwo u6), Go Φ pr_P (fQ g) 1 (bC_ofGroup_23 g v1 v3 v4 X23 v2 v5) d pr_m38 23 [u0, some (sI v1), some (sI v2), some (sR v3), some (sI v4), some (sI v5), u6] [] g 1 6 := by
  intro v2 h2 v5 h5 u0 w0 u6 w6
  unfold bC_ofGroup_23
  refine go_iload kk38_0.1.2.2.1.2 rfl ?_
  refine go_iload kk38_0.1.2.2.2.1 rfl ?_
  refine go_cmlt kk38_0.1.2.2.2.2 h5 h4 (fun c12 => ?_) (fun c13 => ?_)
  · refine go_aload kk38_0.2.1.1.1.1 rfl ?_
    refine go_iload kk38_0.2.1.1.1.2 rfl ?_
    refine go_ck (fun q15 => ?_)
    refine go_pald kk38_0.2.1.1.2.1 hg q15 (fun r14 => ?_)
    refine go_astore kk38_0.2.1.1.2.2 rfl (loc2 := [u0, some (sI v1), some (sI v2), some (sR v3), some (sI v4), some (sI v5), some (sR (g v3 v5))]) rfl ?_
    refine go_aload kk38_0.2.1.2.1.1 rfl ?_
    refine go_ck (fun q16 => ?_)
    refine go_callP3 kk38_0.2.1.2.1.2 rfl rfl rfl ⟨by decide, _, rfl, q16⟩ ⟨by decide, by decide⟩ (by omega) (tfP_isRunning (by omega) hg q16 ) (fun y17 r18 => ?_)
    refine go_ifeq kk38_0.2.1.2.2.1 (inR_b r18) (fun c21 => ?_) (fun c22 => ?_)
    · refine go_iinc kk38_0.2.2.2.1.1 rfl rfl 1 rfl (loc2 := [u0, some (sI v1), some (sI v2), some (sR v3), some (sI v4), some (sI (w32 (v5 + 1))), some (sR (g v3 v5))]) rfl ?_
      refine go_goto kk38_0.2.2.2.1.2 ?_
      exact HX23 v2 h2 (w32 (v5 + 1)) (inR_w32 _) u0 w0 (some (sR (g v3 v5))) rfl
    · refine go_aload kk38_0.2.1.2.2.2 rfl ?_
      refine go_getI (bI := 5) kk38_0.2.2.1.1.1 hg q16 (by decide) rfl rfl (fun r23 => ?_)
      refine go_iload kk38_0.2.2.1.1.2 rfl ?_
      refine go_cmeq kk38_0.2.2.1.2.1 r23 h1 (fun c24 => ?_) (fun c25 => ?_)
      · refine go_iinc kk38_0.2.2.1.2.2 rfl rfl 1 rfl (loc2 := [u0, some (sI v1), some (sI (w32 (v2 + 1))), some (sR v3), some (sI v4), some (sI v5), some (sR (g v3 v5))]) rfl ?_
        refine go_iinc kk38_0.2.2.2.1.1 rfl rfl 1 rfl (loc2 := [u0, some (sI v1), some (sI (w32 (v2 + 1))), some (sR v3), some (sI v4), some (sI (w32 (v5 + 1))), some (sR (g v3 v5))]) rfl ?_
        refine go_goto kk38_0.2.2.2.1.2 ?_
        exact HX23 (w32 (v2 + 1)) (inR_w32 _) (w32 (v5 + 1)) (inR_w32 _) u0 w0 (some (sR (g v3 v5))) rfl
      · refine go_iinc kk38_0.2.2.2.1.1 rfl rfl 1 rfl (loc2 := [u0, some (sI v1), some (sI v2), some (sR v3), some (sI v4), some (sI (w32 (v5 + 1))), some (sR (g v3 v5))]) rfl ?_
        refine go_goto kk38_0.2.2.2.1.2 ?_
        exact HX23 v2 h2 (w32 (v5 + 1)) (inR_w32 _) u0 w0 (some (sR (g v3 v5))) rfl
  · refine go_iload kk38_0.2.2.2.2.1 rfl ?_
    exact go_iret kk38_0.2.2.2.2.2 hg h2 ⟨by decide, by decide⟩ rfl
theorem tlC_ofGroup_23 {Φ : ev_P} {d : Nat} (hd : 1 ≤ d) {g : gH} (hg : HR g) {v1 v3 v4 : Int} (h1 : InR v1) (h3 : RfR v3) (h4 : InR v4) : ∀ n : Nat, ∀ (v2 : Int) (h2 : InR v2) (v5 : Int) (h5 : InR v5) (u0 : Option ev_V) (w0 : nwo u0) (u6 : Option ev_V) (w6 : nwo u6), Go Φ pr_P (fQ g) 1 (lC_ofGroup_23 g v1 v3 v4 n v2 v5) d pr_m38 23 [u0, some (sI v1), some (sI v2), some (sR v3), some (sI v4), some (sI v5), u6] [] g 1 6 := by
  intro n
  induction n with
  | zero => intros; exact go_none
  | succ n ih => exact tbC_ofGroup_23 hd hg h1 h3 h4 ih
theorem tfC_ofGroup {Φ : ev_P} {d : Nat} (hd : 1 ≤ d) {g : gH} (hg : HR g) {v0 v1 : Int} (hK0 : kd v0 = 6) (h1 : InR v1) : Go Φ pr_P (fQ g) 1 (fC_ofGroup g v0 v1) d (pr_P 38) 0 (ev_loc (pr_P 38).1 [(sR v0), (sI v1)]) [] g 0 0 := by
  show Go Φ pr_P (fQ g) 1 (fC_ofGroup g v0 v1) d pr_m38 0 [some (sR v0), some (sI v1), none, none, none, none, none] [] g 0 0
  unfold fC_ofGroup
  refine go_iload kk38_0.1.1.1.1.1.1 rfl ?_
  refine go_int kk38_0.1.1.1.1.1.2 9 rfl ?_
  refine go_callQ0 kk38_0.1.1.1.1.2 rfl rfl rfl trivial ⟨by decide, by decide⟩ (by omega) (tfC_checkRange (by omega) hg  h1 (inR_of (by decide))) (fun y1 => ?_) (fun e5 E6 => ge_prop rfl ⟨by decide, by decide⟩ e5 rfl)
  refine go_int kk38_0.1.1.1.2.1 0 rfl ?_
  refine go_istore kk38_0.1.1.1.2.2 rfl (loc2 := [some (sR v0), some (sI v1), some (sI 0), none, none, none, none]) rfl ?_
  refine go_aload kk38_0.1.1.2.1.1 rfl ?_
  refine go_getR (bI := 0) kk38_0.1.1.2.1.2 hg hK0 (by decide) rfl rfl (fun r7 => ?_)
  refine go_ck (fun q8 => ?_)
  refine go_getR (bI := 1) kk38_0.1.1.2.2.1 hg q8 (by decide) rfl rfl (fun r9 => ?_)
  refine go_astore kk38_0.1.1.2.2.2 rfl (loc2 := [some (sR v0), some (sI v1), some (sI 0), some (sR (g (g v0 0) 1)), none, none, none]) rfl ?_
  refine go_aload kk38_0.1.2.1.1.1 rfl ?_
  refine go_ck (fun q11 => ?_)
  refine go_alen kk38_0.1.2.1.1.2 (ka_24 q11) (fun r10 => ?_)
  refine go_istore kk38_0.1.2.1.2.1 rfl (loc2 := [some (sR v0), some (sI v1), some (sI 0), some (sR (g (g v0 0) 1)), some (sI (sz (g (g v0 0) 1))), none, none]) rfl ?_
  refine go_int kk38_0.1.2.1.2.2 0 rfl ?_
  refine go_istore kk38_0.1.2.2.1.1 rfl (loc2 := [some (sR v0), some (sI v1), some (sI 0), some (sR (g (g v0 0) 1)), some (sI (sz (g (g v0 0) 1))), some (sI 0), none]) rfl ?_
  exact tlC_ofGroup_23 hd hg h1 r9 r10 fu 0 (inR_b (Or.inl rfl)) 0 (inR_b (Or.inl rfl)) (some (sR v0)) rfl none rfl
theorem tfW_ofGroup {Φ : ev_P} {d : Nat} (hd : 2 ≤ d) {g : gH} (hg : HR g) {v0 v1 v2 : Int} (h0 : RfR v0) (h1 : InR v1) (h2 : RfR v2) : Go Φ pr_P fN 1 (fW_ofGroup g v0 v1 v2) d (pr_P 332) 0 (ev_loc (pr_P 332).1 [(sR v0), (sI v1), (sR v2)]) [] g 0 0 := by
  show Go Φ pr_P fN 1 (fW_ofGroup g v0 v1 v2) d pr_m332 0 [some (sR v0), some (sI v1), some (sR v2), none] [] g 0 0
  unfold fW_ofGroup
  refine go_aload kk332_0.1.1.1.1 rfl ?_
  refine go_int kk332_0.1.1.1.2 0 rfl ?_
  refine go_aload kk332_0.1.1.2.1 rfl ?_
  refine go_iload kk332_0.1.1.2.2 rfl ?_
  refine go_ck (fun q1 => ?_)
  refine go_callQ1 kk332_0.1.2.1.1 rfl rfl rfl ⟨by decide, _, rfl, q1⟩ ⟨by decide, by decide⟩ (by omega) (tfC_ofGroup (by omega) hg q1  h1) (fun y2 r3 => ?_) (fun e6 E7 => ?_)
  · refine go_i2l kk332_0.1.2.1.2 r3 ?_
    refine go_ck (fun q8 => ?_)
    refine go_last kk332_0.1.2.2 hg q8 (inL_R r3) (fun g9 e10 => ?_)
    refine go_goto kk332_0.2.1.1.1 ?_
    refine go_int kk332_0.2.2.1.2 0 rfl ?_
    exact go_iret kk332_0.2.2.2 e10 (inR_b (Or.inl rfl)) ⟨by decide, by decide⟩ rfl
  · refine ge_ite (fun hE9 => ?_) (fun _ => ?_)
    · subst hE9
      refine ge_catch rfl kk332_0.2.1.1.2 rfl (loc2 := [some (sR v0), some (sI v1), some (sR v2), none]) rfl ?_
      refine go_int kk332_0.2.1.2 1 rfl ?_
      exact go_iret kk332_0.2.2.1.1 e6 (inR_b (Or.inr rfl)) ⟨by decide, by decide⟩ rfl
    exact ge_none
theorem tfC_nextTestament {Φ : ev_P} {d : Nat} (hd : 2 ≤ d) {g : gH} (hg : HR g) {v0 v1 : Int} (hK0 : kd v0 = 6) (h1 : InR v1) : Go Φ pr_P (fQ g) 1 (fC_nextTestament g v0 v1) d (pr_P 39) 0 (ev_loc (pr_P 39).1 [(sR v0), (sI v1)]) [] g 0 0 := by
  show Go Φ pr_P (fQ g) 1 (fC_nextTestament g v0 v1) d pr_m39 0 [some (sR v0), some (sI v1)] [] g 0 0
  unfold fC_nextTestament
  refine go_aload kk39_0.1.1.1.1 rfl ?_
  refine go_getR (bI := 0) kk39_0.1.1.1.2 hg hK0 (by decide) rfl rfl (fun r1 => ?_)
  refine go_aload kk39_0.1.1.2 rfl ?_
  refine go_iload kk39_0.1.2.1 rfl ?_
  refine go_callQ2 kk39_0.1.2.2 rfl rfl rfl ⟨by decide, _, rfl, hK0⟩ ⟨by decide, by decide⟩ (by omega) (tfC_named (by omega) hg hK0  h1) (fun y2 r3 => ?_) (fun e6 E7 => ge_prop rfl ⟨by decide, by decide⟩ e6 rfl)
  refine go_int kk39_0.2.1.1 (-1) rfl ?_
  refine go_ck (fun q8 => ?_)
  refine go_callP2 kk39_0.2.1.2 rfl rfl rfl ⟨by decide, _, rfl, q8⟩ ⟨by decide, by decide⟩ (by omega) (tfT_zombieBehind (by omega) hg q8  r3 (inR_of (by decide))) (fun y9 r10 => ?_)
  refine go_callP1 kk39_0.2.2.1 rfl rfl rfl trivial ⟨by decide, by decide⟩ (by omega) (tfC_numberOf (by omega) hg  r10) (fun y13 r14 => ?_)
  exact go_iret kk39_0.2.2.2 hg r14 ⟨by decide, by decide⟩ rfl
theorem tfW_nextTestament {Φ : ev_P} {d : Nat} (hd : 3 ≤ d) {g : gH} (hg : HR g) {v0 v1 v2 : Int} (h0 : RfR v0) (h1 : InR v1) (h2 : RfR v2) : Go Φ pr_P fN 1 (fW_nextTestament g v0 v1 v2) d (pr_P 333) 0 (ev_loc (pr_P 333).1 [(sR v0), (sI v1), (sR v2)]) [] g 0 0 := by
  show Go Φ pr_P fN 1 (fW_nextTestament g v0 v1 v2) d pr_m333 0 [some (sR v0), some (sI v1), some (sR v2), none] [] g 0 0
  unfold fW_nextTestament
  refine go_aload kk333_0.1.1.1.1 rfl ?_
  refine go_int kk333_0.1.1.1.2 0 rfl ?_
  refine go_aload kk333_0.1.1.2.1 rfl ?_
  refine go_iload kk333_0.1.1.2.2 rfl ?_
  refine go_ck (fun q1 => ?_)
  refine go_callQ1 kk333_0.1.2.1.1 rfl rfl rfl ⟨by decide, _, rfl, q1⟩ ⟨by decide, by decide⟩ (by omega) (tfC_nextTestament (by omega) hg q1  h1) (fun y2 r3 => ?_) (fun e6 E7 => ?_)
  · refine go_i2l kk333_0.1.2.1.2 r3 ?_
    refine go_ck (fun q8 => ?_)
    refine go_last kk333_0.1.2.2 hg q8 (inL_R r3) (fun g9 e10 => ?_)
    refine go_goto kk333_0.2.1.1.1 ?_
    refine go_int kk333_0.2.2.1.2 0 rfl ?_
    exact go_iret kk333_0.2.2.2 e10 (inR_b (Or.inl rfl)) ⟨by decide, by decide⟩ rfl
  · refine ge_ite (fun hE9 => ?_) (fun _ => ?_)
    · subst hE9
      refine ge_catch rfl kk333_0.2.1.1.2 rfl (loc2 := [some (sR v0), some (sI v1), some (sR v2), none]) rfl ?_
      refine go_int kk333_0.2.1.2 1 rfl ?_
      exact go_iret kk333_0.2.2.1.1 e6 (inR_b (Or.inr rfl)) ⟨by decide, by decide⟩ rfl
    exact ge_none
theorem tfP_hasExited {Φ : ev_P} {d : Nat} (hd : 0 ≤ d) {g : gH} (hg : HR g) {v0 : Int} (hK0 : kd v0 = 3) : Go Φ pr_P (fP g) 3 (fP_hasExited g v0) d (pr_P 237) 0 (ev_loc (pr_P 237).1 [(sR v0)]) [] g 0 0 := by
  show Go Φ pr_P (fP g) 3 (fP_hasExited g v0) d pr_m237 0 [some (sR v0)] [] g 0 0
  unfold fP_hasExited
  refine go_aload kk237_0.1.1.1.1 rfl ?_
  refine go_getI (bI := 1) kk237_0.1.1.1.2 hg hK0 (by decide) rfl rfl (fun r1 => ?_)
  refine go_int kk237_0.1.1.2 1 rfl ?_
  refine go_cmeq kk237_0.1.2.1.1 r1 (inR_b (Or.inr rfl)) (fun c2 => ?_) (fun c3 => ?_)
  · refine go_int kk237_0.2.1.2 1 rfl ?_
    refine go_goto kk237_0.2.2.1.1 ?_
    exact go_bret kk237_0.2.2.2 hg (Or.inr rfl) ⟨Nat.zero_le _, Nat.zero_le _⟩ rfl
  · refine go_aload kk237_0.1.2.1.2 rfl ?_
    refine go_getI (bI := 1) kk237_0.1.2.2 hg hK0 (by decide) rfl rfl (fun r4 => ?_)
    refine go_int kk237_0.2.1.1.1 2 rfl ?_
    refine go_cmeq kk237_0.2.1.1.2 r4 (inR_of (by decide)) (fun c5 => ?_) (fun c6 => ?_)
    · refine go_int kk237_0.2.1.2 1 rfl ?_
      refine go_goto kk237_0.2.2.1.1 ?_
      exact go_bret kk237_0.2.2.2 hg (Or.inr rfl) ⟨Nat.zero_le _, Nat.zero_le _⟩ rfl
    · refine go_int kk237_0.2.2.1.2 0 rfl ?_
      exact go_bret kk237_0.2.2.2 hg (Or.inl rfl) ⟨Nat.zero_le _, Nat.zero_le _⟩ rfl
theorem tjC_exited_56 {Φ : ev_P} {d : Nat} (hd : 1 ≤ d) {g : gH} (hg : HR g) {v2 : Int} (h2 : RfR v2) (u0 : Option ev_V) (w0 : nwo u0) (u1 : Option ev_V) (w1 : nwo u1) (u3 : Option ev_V) (w3 : nwo u3) (u4 : Option ev_V) (w4 : nwo u4) (u5 : Option ev_V) (w5 : nwo u5) (u6 : Option ev_V) (w6 : nwo u6) : Go Φ pr_P (fQ g) 1 (jC_exited_56 g v2 ) d pr_m40 56 [u0, u1, some (sR v2), u3, u4, u5, u6] [] g 0 0 := by
  unfold jC_exited_56
  refine go_aload kk40_0.2.2.1.2.1 rfl ?_
  refine go_isnull kk40_0.2.2.1.2.2  (fun c20 => ?_) (fun c21 => ?_)
  · exact go_throw kk40_0.2.2.2.1.1 hg ⟨by decide, by decide⟩ rfl rfl
  · refine go_aload kk40_0.2.2.2.1.2 rfl ?_
    refine go_ck (fun q22 => ?_)
    refine go_getI (bI := 0) kk40_0.2.2.2.2.1 hg q22 (by decide) rfl rfl (fun r23 => ?_)
    exact go_iret kk40_0.2.2.2.2.2 hg r23 ⟨Nat.zero_le _, Nat.zero_le _⟩ rfl
theorem tbC_exited_17 {Φ : ev_P} {d : Nat} (hd : 1 ≤ d) {g : gH} (hg : HR g) {v1 v3 v4 : Int} (h1 : InR v1) (h3 : RfR v3) (h4 : InR v4) {X17 : Int → Int → Option (Nat × Int)} (HX17 : ∀ (v2 : Int) (h2 : RfR v2) (v5 : Int) (h5 : InR v5) (u0 : Option ev_V) (w0 : nwo u0) (u6 : Option ev_V) (w6 : nwo u6), Go Φ pr_P (fQ g) 1 (X17 v2 v5) d pr_m40 17 [u0, some (sI v1), some (sR v2), some (sR v3), some (sI v4), some (sI v5), u6] [] g 0 0) : ∀ (v2 : Int) (h2 : RfR v2) (v5 : Int) (h5 : InR v5) (u0 : Option ev_V) (w0 : nwo u0) (u6 : Option ev_V) (w6 : nwo u6), Go Φ pr_P (fQ g) 1 (bC_exited_17 g v1 v3 v4 X17 v2 v5) d pr_m40 17 [u0, some (sI v1), some (sR v2), some (sR v3), some (sI v4), some (sI v5), u6] [] g 0 0 := by
  intro v2 h2 v5 h5 u0 w0 u6 w6
  unfold bC_exited_17
  refine go_iload kk40_0.1.2.1.1.2 rfl ?_
  refine go_iload kk40_0.1.2.1.2.1 rfl ?_
  refine go_cmlt kk40_0.1.2.1.2.2 h5 h4 (fun c6 => ?_) (fun c7 => ?_)
  · refine go_aload kk40_0.1.2.2.1.1 rfl ?_
    refine go_iload kk40_0.1.2.2.1.2 rfl ?_
    refine go_ck (fun q9 => ?_)
    refine go_pald kk40_0.1.2.2.2.1 hg q9 (fun r8 => ?_)
    refine go_astore kk40_0.1.2.2.2.2 rfl (loc2 := [u0, some (sI v1), some (sR v2), some (sR v3), some (sI v4), some (sI v5), some (sR (g v3 v5))]) rfl ?_
    refine go_aload kk40_0.2.1.1.1.1.1 rfl ?_
    refine go_ck (fun q10 => ?_)
    refine go_callP3 kk40_0.2.1.1.1.1.2 rfl rfl rfl ⟨by decide, _, rfl, q10⟩ ⟨Nat.zero_le _, Nat.zero_le _⟩ (by omega) (tfP_hasExited (by omega) hg q10 ) (fun y11 r12 => ?_)
    refine go_ifeq kk40_0.2.1.1.1.2 (inR_b r12) (fun c15 => ?_) (fun c16 => ?_)
    · refine go_iinc kk40_0.2.2.1.1.1 rfl rfl 1 rfl (loc2 := [u0, some (sI v1), some (sR v2), some (sR v3), some (sI v4), some (sI (w32 (v5 + 1))), some (sR (g v3 v5))]) rfl ?_
      refine go_goto kk40_0.2.2.1.1.2 ?_
      exact HX17 v2 h2 (w32 (v5 + 1)) (inR_w32 _) u0 w0 (some (sR (g v3 v5))) rfl
    · refine go_aload kk40_0.2.1.1.2.1 rfl ?_
      refine go_getI (bI := 10) kk40_0.2.1.1.2.2 hg q10 (by decide) rfl rfl (fun r17 => ?_)
      refine go_iload kk40_0.2.1.2.1.1 rfl ?_
      refine go_cmeq kk40_0.2.1.2.1.2 r17 h1 (fun c18 => ?_) (fun c19 => ?_)
      · refine go_aload kk40_0.2.1.2.2.1 rfl ?_
        refine go_astore kk40_0.2.1.2.2.2 rfl (loc2 := [u0, some (sI v1), some (sR (g v3 v5)), some (sR v3), some (sI v4), some (sI v5), some (sR (g v3 v5))]) rfl ?_
        refine go_iinc kk40_0.2.2.1.1.1 rfl rfl 1 rfl (loc2 := [u0, some (sI v1), some (sR (g v3 v5)), some (sR v3), some (sI v4), some (sI (w32 (v5 + 1))), some (sR (g v3 v5))]) rfl ?_
        refine go_goto kk40_0.2.2.1.1.2 ?_
        exact HX17 (g v3 v5) r8 (w32 (v5 + 1)) (inR_w32 _) u0 w0 (some (sR (g v3 v5))) rfl
      · refine go_iinc kk40_0.2.2.1.1.1 rfl rfl 1 rfl (loc2 := [u0, some (sI v1), some (sR v2), some (sR v3), some (sI v4), some (sI (w32 (v5 + 1))), some (sR (g v3 v5))]) rfl ?_
        refine go_goto kk40_0.2.2.1.1.2 ?_
        exact HX17 v2 h2 (w32 (v5 + 1)) (inR_w32 _) u0 w0 (some (sR (g v3 v5))) rfl
  · exact tjC_exited_56 hd hg h2 u0 w0 (some (sI v1)) rfl (some (sR v3)) rfl (some (sI v4)) rfl (some (sI v5)) rfl u6 w6
theorem tlC_exited_17 {Φ : ev_P} {d : Nat} (hd : 1 ≤ d) {g : gH} (hg : HR g) {v1 v3 v4 : Int} (h1 : InR v1) (h3 : RfR v3) (h4 : InR v4) : ∀ n : Nat, ∀ (v2 : Int) (h2 : RfR v2) (v5 : Int) (h5 : InR v5) (u0 : Option ev_V) (w0 : nwo u0) (u6 : Option ev_V) (w6 : nwo u6), Go Φ pr_P (fQ g) 1 (lC_exited_17 g v1 v3 v4 n v2 v5) d pr_m40 17 [u0, some (sI v1), some (sR v2), some (sR v3), some (sI v4), some (sI v5), u6] [] g 0 0 := by
  intro n
  induction n with
  | zero => intros; exact go_none
  | succ n ih => exact tbC_exited_17 hd hg h1 h3 h4 ih
theorem tfC_exited {Φ : ev_P} {d : Nat} (hd : 1 ≤ d) {g : gH} (hg : HR g) {v0 v1 : Int} (hK0 : kd v0 = 6) (h1 : InR v1) : Go Φ pr_P (fQ g) 1 (fC_exited g v0 v1) d (pr_P 40) 0 (ev_loc (pr_P 40).1 [(sR v0), (sI v1)]) [] g 0 0 := by
  show Go Φ pr_P (fQ g) 1 (fC_exited g v0 v1) d pr_m40 0 [some (sR v0), some (sI v1), none, none, none, none, none] [] g 0 0
  unfold fC_exited
  refine go_null kk40_0.1.1.1.1.1.1 ?_
  refine go_astore kk40_0.1.1.1.1.1.2 rfl (loc2 := [some (sR v0), some (sI v1), some (sR (-1)), none, none, none, none]) rfl ?_
  refine go_aload kk40_0.1.1.1.1.2 rfl ?_
  refine go_getR (bI := 0) kk40_0.1.1.1.2.1 hg hK0 (by decide) rfl rfl (fun r1 => ?_)
  refine go_ck (fun q2 => ?_)
  refine go_getR (bI := 1) kk40_0.1.1.1.2.2 hg q2 (by decide) rfl rfl (fun r3 => ?_)
  refine go_astore kk40_0.1.1.2.1.1 rfl (loc2 := [some (sR v0), some (sI v1), some (sR (-1)), some (sR (g (g v0 0) 1)), none, none, none]) rfl ?_
  refine go_aload kk40_0.1.1.2.1.2 rfl ?_
  refine go_ck (fun q5 => ?_)
  refine go_alen kk40_0.1.1.2.2.1 (ka_24 q5) (fun r4 => ?_)
  refine go_istore kk40_0.1.1.2.2.2 rfl (loc2 := [some (sR v0), some (sI v1), some (sR (-1)), some (sR (g (g v0 0) 1)), some (sI (sz (g (g v0 0) 1))), none, none]) rfl ?_
  refine go_int kk40_0.1.2.1.1.1.1 0 rfl ?_
  refine go_istore kk40_0.1.2.1.1.1.2 rfl (loc2 := [some (sR v0), some (sI v1), some (sR (-1)), some (sR (g (g v0 0) 1)), some (sI (sz (g (g v0 0) 1))), some (sI 0), none]) rfl ?_
  exact tlC_exited_17 hd hg h1 r3 r4 fu (-1) rfR_null 0 (inR_b (Or.inl rfl)) (some (sR v0)) rfl none rfl
theorem tfW_exited {Φ : ev_P} {d : Nat} (hd : 2 ≤ d) {g : gH} (hg : HR g) {v0 v1 v2 : Int} (h0 : RfR v0) (h1 : InR v1) (h2 : RfR v2) : Go Φ pr_P fN 1 (fW_exited g v0 v1 v2) d (pr_P 334) 0 (ev_loc (pr_P 334).1 [(sR v0), (sI v1), (sR v2)]) [] g 0 0 := by
  show Go Φ pr_P fN 1 (fW_exited g v0 v1 v2) d pr_m334 0 [some (sR v0), some (sI v1), some (sR v2), none] [] g 0 0
  unfold fW_exited
  refine go_aload kk334_0.1.1.1.1 rfl ?_
  refine go_int kk334_0.1.1.1.2 0 rfl ?_
  refine go_aload kk334_0.1.1.2.1 rfl ?_
  refine go_iload kk334_0.1.1.2.2 rfl ?_
  refine go_ck (fun q1 => ?_)
  refine go_callQ1 kk334_0.1.2.1.1 rfl rfl rfl ⟨by decide, _, rfl, q1⟩ ⟨by decide, by decide⟩ (by omega) (tfC_exited (by omega) hg q1  h1) (fun y2 r3 => ?_) (fun e6 E7 => ?_)
  · refine go_i2l kk334_0.1.2.1.2 r3 ?_
    refine go_ck (fun q8 => ?_)
    refine go_last kk334_0.1.2.2 hg q8 (inL_R r3) (fun g9 e10 => ?_)
    refine go_goto kk334_0.2.1.1.1 ?_
    refine go_int kk334_0.2.2.1.2 0 rfl ?_
    exact go_iret kk334_0.2.2.2 e10 (inR_b (Or.inl rfl)) ⟨by decide, by decide⟩ rfl
  · refine ge_ite (fun hE9 => ?_) (fun _ => ?_)
    · subst hE9
      refine ge_catch rfl kk334_0.2.1.1.2 rfl (loc2 := [some (sR v0), some (sI v1), some (sR v2), none]) rfl ?_
      refine go_int kk334_0.2.1.2 1 rfl ?_
      exact go_iret kk334_0.2.2.1.1 e6 (inR_b (Or.inr rfl)) ⟨by decide, by decide⟩ rfl
    exact ge_none
theorem tbT_deepestBelow_14 {Φ : ev_P} {d : Nat} (hd : 1 ≤ d) {g : gH} (hg : HR g) {v1 v3 v4 : Int} (h1 : RfR v1) (h3 : RfR v3) (h4 : InR v4) {X14 : Int → Int → Option Int} (HX14 : ∀ (v2 : Int) (h2 : RfR v2) (v5 : Int) (h5 : InR v5) (u0 : Option ev_V) (w0 : nwo u0) (u6 : Option ev_V) (w6 : nwo u6), Go Φ pr_P (fP g) 2 (X14 v2 v5) d pr_m304 14 [u0, some (sR v1), some (sR v2), some (sR v3), some (sI v4), some (sI v5), u6] [] g 0 0) : ∀ (v2 : Int) (h2 : RfR v2) (v5 : Int) (h5 : InR v5) (u0 : Option ev_V) (w0 : nwo u0) (u6 : Option ev_V) (w6 : nwo u6), Go Φ pr_P (fP g) 2 (bT_deepestBelow_14 g v1 v3 v4 X14 v2 v5) d pr_m304 14 [u0, some (sR v1), some (sR v2), some (sR v3), some (sI v4), some (sI v5), u6] [] g 0 0 := by
  intro v2 h2 v5 h5 u0 w0 u6 w6
  unfold bT_deepestBelow_14
  refine go_iload kk304_0.1.2.1.1.1.1 rfl ?_
  refine go_iload kk304_0.1.2.1.1.1.2 rfl ?_
  refine go_cmlt kk304_0.1.2.1.1.2 h5 h4 (fun c4 => ?_) (fun c5 => ?_)
  · refine go_aload kk304_0.1.2.1.2.1 rfl ?_
    refine go_iload kk304_0.1.2.1.2.2 rfl ?_
    refine go_ck (fun q7 => ?_)
    refine go_pald kk304_0.1.2.2.1.1 hg q7 (fun r6 => ?_)
    refine go_astore kk304_0.1.2.2.1.2 rfl (loc2 := [u0, some (sR v1), some (sR v2), some (sR v3), some (sI v4), some (sI v5), some (sR (g v3 v5))]) rfl ?_
    refine go_aload kk304_0.1.2.2.2.1 rfl ?_
    refine go_ck (fun q8 => ?_)
    refine go_callP3 kk304_0.1.2.2.2.2 rfl rfl rfl ⟨by decide, _, rfl, q8⟩ ⟨Nat.zero_le _, Nat.zero_le _⟩ (by omega) (tfP_isRunning (by omega) hg q8 ) (fun y9 r10 => ?_)
    refine go_ifeq kk304_0.2.1.1.1.1.1 (inR_b r10) (fun c13 => ?_) (fun c14 => ?_)
    · refine go_iinc kk304_0.2.2.2.1.1 rfl rfl 1 rfl (loc2 := [u0, some (sR v1), some (sR v2), some (sR v3), some (sI v4), some (sI (w32 (v5 + 1))), some (sR (g v3 v5))]) rfl ?_
      refine go_goto kk304_0.2.2.2.1.2 ?_
      exact HX14 v2 h2 (w32 (v5 + 1)) (inR_w32 _) u0 w0 (some (sR (g v3 v5))) rfl
    · refine go_aload kk304_0.2.1.1.1.1.2 rfl ?_
      refine go_aload kk304_0.2.1.1.1.2 rfl ?_
      refine go_ck (fun q15 => ?_)
      refine go_callP3 kk304_0.2.1.1.2.1 rfl rfl rfl ⟨by decide, _, rfl, q15⟩ ⟨Nat.zero_le _, Nat.zero_le _⟩ (by omega) (tfP_isOver (by omega) hg q15  r6) (fun y16 r17 => ?_)
      refine go_ifeq kk304_0.2.1.1.2.2 (inR_b r17) (fun c20 => ?_) (fun c21 => ?_)
      · refine go_iinc kk304_0.2.2.2.1.1 rfl rfl 1 rfl (loc2 := [u0, some (sR v1), some (sR v2), some (sR v3), some (sI v4), some (sI (w32 (v5 + 1))), some (sR (g v3 v5))]) rfl ?_
        refine go_goto kk304_0.2.2.2.1.2 ?_
        exact HX14 v2 h2 (w32 (v5 + 1)) (inR_w32 _) u0 w0 (some (sR (g v3 v5))) rfl
      · refine go_aload kk304_0.2.1.2.1.1 rfl ?_
        refine go_isnull kk304_0.2.1.2.1.2  (fun c22 => ?_) (fun c23 => ?_)
        · refine go_aload kk304_0.2.2.1.2.1 rfl ?_
          refine go_astore kk304_0.2.2.1.2.2 rfl (loc2 := [u0, some (sR v1), some (sR (g v3 v5)), some (sR v3), some (sI v4), some (sI v5), some (sR (g v3 v5))]) rfl ?_
          refine go_iinc kk304_0.2.2.2.1.1 rfl rfl 1 rfl (loc2 := [u0, some (sR v1), some (sR (g v3 v5)), some (sR v3), some (sI v4), some (sI (w32 (v5 + 1))), some (sR (g v3 v5))]) rfl ?_
          refine go_goto kk304_0.2.2.2.1.2 ?_
          exact HX14 (g v3 v5) r6 (w32 (v5 + 1)) (inR_w32 _) u0 w0 (some (sR (g v3 v5))) rfl
        · refine go_aload kk304_0.2.1.2.2.1 rfl ?_
          refine go_callP1 kk304_0.2.1.2.2.2 rfl rfl rfl ⟨by decide, _, rfl, q8⟩ ⟨Nat.zero_le _, Nat.zero_le _⟩ (by omega) (tfP_countAbove (by omega) hg q8 ) (fun y24 r25 => ?_)
          refine go_aload kk304_0.2.2.1.1.1.1 rfl ?_
          refine go_ck (fun q28 => ?_)
          refine go_callP1 kk304_0.2.2.1.1.1.2 rfl rfl rfl ⟨by decide, _, rfl, q28⟩ ⟨Nat.zero_le _, Nat.zero_le _⟩ (by omega) (tfP_countAbove (by omega) hg q28 ) (fun y29 r30 => ?_)
          refine go_cmlt kk304_0.2.2.1.1.2 r25 r30 (fun c33 => ?_) (fun c34 => ?_)
          · refine go_iinc kk304_0.2.2.2.1.1 rfl rfl 1 rfl (loc2 := [u0, some (sR v1), some (sR v2), some (sR v3), some (sI v4), some (sI (w32 (v5 + 1))), some (sR (g v3 v5))]) rfl ?_
            refine go_goto kk304_0.2.2.2.1.2 ?_
            exact HX14 v2 h2 (w32 (v5 + 1)) (inR_w32 _) u0 w0 (some (sR (g v3 v5))) rfl
          · refine go_aload kk304_0.2.2.1.2.1 rfl ?_
            refine go_astore kk304_0.2.2.1.2.2 rfl (loc2 := [u0, some (sR v1), some (sR (g v3 v5)), some (sR v3), some (sI v4), some (sI v5), some (sR (g v3 v5))]) rfl ?_
            refine go_iinc kk304_0.2.2.2.1.1 rfl rfl 1 rfl (loc2 := [u0, some (sR v1), some (sR (g v3 v5)), some (sR v3), some (sI v4), some (sI (w32 (v5 + 1))), some (sR (g v3 v5))]) rfl ?_
            refine go_goto kk304_0.2.2.2.1.2 ?_
            exact HX14 (g v3 v5) r6 (w32 (v5 + 1)) (inR_w32 _) u0 w0 (some (sR (g v3 v5))) rfl
  · refine go_aload kk304_0.2.2.2.2.1 rfl ?_
    exact go_aret kk304_0.2.2.2.2.2 hg h2 ⟨Nat.zero_le _, Nat.zero_le _⟩ rfl
theorem tlT_deepestBelow_14 {Φ : ev_P} {d : Nat} (hd : 1 ≤ d) {g : gH} (hg : HR g) {v1 v3 v4 : Int} (h1 : RfR v1) (h3 : RfR v3) (h4 : InR v4) : ∀ n : Nat, ∀ (v2 : Int) (h2 : RfR v2) (v5 : Int) (h5 : InR v5) (u0 : Option ev_V) (w0 : nwo u0) (u6 : Option ev_V) (w6 : nwo u6), Go Φ pr_P (fP g) 2 (lT_deepestBelow_14 g v1 v3 v4 n v2 v5) d pr_m304 14 [u0, some (sR v1), some (sR v2), some (sR v3), some (sI v4), some (sI v5), u6] [] g 0 0 := by
  intro n
  induction n with
  | zero => intros; exact go_none
  | succ n ih => exact tbT_deepestBelow_14 hd hg h1 h3 h4 ih
theorem tfT_deepestBelow {Φ : ev_P} {d : Nat} (hd : 1 ≤ d) {g : gH} (hg : HR g) {v0 v1 : Int} (hK0 : kd v0 = 5) (h1 : RfR v1) : Go Φ pr_P (fP g) 2 (fT_deepestBelow g v0 v1) d (pr_P 304) 0 (ev_loc (pr_P 304).1 [(sR v0), (sR v1)]) [] g 0 0 := by
  show Go Φ pr_P (fP g) 2 (fT_deepestBelow g v0 v1) d pr_m304 0 [some (sR v0), some (sR v1), none, none, none, none, none] [] g 0 0
  unfold fT_deepestBelow
  refine go_null kk304_0.1.1.1.1.1.1 ?_
  refine go_astore kk304_0.1.1.1.1.1.2 rfl (loc2 := [some (sR v0), some (sR v1), some (sR (-1)), none, none, none, none]) rfl ?_
  refine go_aload kk304_0.1.1.1.1.2 rfl ?_
  refine go_getR (bI := 1) kk304_0.1.1.1.2.1 hg hK0 (by decide) rfl rfl (fun r1 => ?_)
  refine go_astore kk304_0.1.1.1.2.2 rfl (loc2 := [some (sR v0), some (sR v1), some (sR (-1)), some (sR (g v0 1)), none, none, none]) rfl ?_
  refine go_aload kk304_0.1.1.2.1.1.1 rfl ?_
  refine go_ck (fun q3 => ?_)
  refine go_alen kk304_0.1.1.2.1.1.2 (ka_24 q3) (fun r2 => ?_)
  refine go_istore kk304_0.1.1.2.1.2 rfl (loc2 := [some (sR v0), some (sR v1), some (sR (-1)), some (sR (g v0 1)), some (sI (sz (g v0 1))), none, none]) rfl ?_
  refine go_int kk304_0.1.1.2.2.1 0 rfl ?_
  refine go_istore kk304_0.1.1.2.2.2 rfl (loc2 := [some (sR v0), some (sR v1), some (sR (-1)), some (sR (g v0 1)), some (sI (sz (g v0 1))), some (sI 0), none]) rfl ?_
  exact tlT_deepestBelow_14 hd hg h1 r1 r2 fu (-1) rfR_null 0 (inR_b (Or.inl rfl)) (some (sR v0)) rfl none rfl
theorem tbT_pruneBelow_9 {Φ : ev_P} {d : Nat} (hd : 5 ≤ d) {v0 v1 v2 : Int} (hK0 : kd v0 = 5) (h1 : RfR v1) (h2 : InR v2) {X9 : Int → Int → gH → Option (Int × gH)} (HX9 : ∀ (v3 : Int) (h3 : InR v3) (v4 : Int) (h4 : RfR v4) (g : gH) (hg : HR g), Go Φ pr_P fN 1 (X9 v3 v4 g) d pr_m303 9 [some (sR v0), some (sR v1), some (sI v2), some (sI v3), some (sR v4)] [] g 0 0) : ∀ (v3 : Int) (h3 : InR v3) (v4 : Int) (h4 : RfR v4) (g : gH) (hg : HR g), Go Φ pr_P fN 1 (bT_pruneBelow_9 v0 v1 v2 X9 v3 v4 g) d pr_m303 9 [some (sR v0), some (sR v1), some (sI v2), some (sI v3), some (sR v4)] [] g 0 0 := by
  intro v3 h3 v4 h4 g hg
  unfold bT_pruneBelow_9
  refine go_aload kk303_0.1.2.1.1.1 rfl ?_
  refine go_isnull kk303_0.1.2.1.1.2  (fun c5 => ?_) (fun c6 => ?_)
  · refine go_iload kk303_0.2.2.2.1.2 rfl ?_
    exact go_iret kk303_0.2.2.2.2 hg h3 ⟨Nat.zero_le _, Nat.zero_le _⟩ rfl
  · refine go_iload kk303_0.1.2.1.2 rfl ?_
    refine go_int kk303_0.1.2.2.1.1 40 rfl ?_
    refine go_cmlt kk303_0.1.2.2.1.2 h3 (inR_of (by decide)) (fun c7 => ?_) (fun c8 => ?_)
    · refine go_aload kk303_0.1.2.2.2 rfl ?_
      refine go_aload kk303_0.2.1.1.1.1 rfl ?_
      refine go_iload kk303_0.2.1.1.1.2 rfl ?_
      refine go_callN1 kk303_0.2.1.1.2 rfl rfl rfl ⟨by decide, _, rfl, hK0⟩ ⟨Nat.zero_le _, Nat.zero_le _⟩ (by omega) (tfT_letExit (by omega) hg hK0  h4 h2) (fun y9 g11 r10 e12 => ?_)
      refine go_popI kk303_0.2.1.2.1.1 ?_
      refine go_iinc kk303_0.2.1.2.1.2 rfl rfl 1 rfl (loc2 := [some (sR v0), some (sR v1), some (sI v2), some (sI (w32 (v3 + 1))), some (sR v4)]) rfl ?_
      refine go_aload kk303_0.2.1.2.2 rfl ?_
      refine go_aload kk303_0.2.2.1.1.1 rfl ?_
      refine go_callP2 kk303_0.2.2.1.1.2 rfl rfl rfl ⟨by decide, _, rfl, hK0⟩ ⟨Nat.zero_le _, Nat.zero_le _⟩ (by omega) (tfT_deepestBelow (by omega) e12 hK0  h1) (fun y13 r14 => ?_)
      refine go_astore kk303_0.2.2.1.2 rfl (loc2 := [some (sR v0), some (sR v1), some (sI v2), some (sI (w32 (v3 + 1))), some (sR y13)]) rfl ?_
      refine go_goto kk303_0.2.2.2.1.1 ?_
      exact HX9 (w32 (v3 + 1)) (inR_w32 _) y13 r14 g11 e12
    · refine go_iload kk303_0.2.2.2.1.2 rfl ?_
      exact go_iret kk303_0.2.2.2.2 hg h3 ⟨Nat.zero_le _, Nat.zero_le _⟩ rfl
theorem tlT_pruneBelow_9 {Φ : ev_P} {d : Nat} (hd : 5 ≤ d) {v0 v1 v2 : Int} (hK0 : kd v0 = 5) (h1 : RfR v1) (h2 : InR v2) : ∀ n : Nat, ∀ (v3 : Int) (h3 : InR v3) (v4 : Int) (h4 : RfR v4) (g : gH) (hg : HR g), Go Φ pr_P fN 1 (lT_pruneBelow_9 v0 v1 v2 n v3 v4 g) d pr_m303 9 [some (sR v0), some (sR v1), some (sI v2), some (sI v3), some (sR v4)] [] g 0 0 := by
  intro n
  induction n with
  | zero => intros; exact go_none
  | succ n ih => exact tbT_pruneBelow_9 hd hK0 h1 h2 ih
theorem tfT_pruneBelow {Φ : ev_P} {d : Nat} (hd : 5 ≤ d) {g : gH} (hg : HR g) {v0 v1 v2 : Int} (hK0 : kd v0 = 5) (h1 : RfR v1) (h2 : InR v2) : Go Φ pr_P fN 1 (fT_pruneBelow g v0 v1 v2) d (pr_P 303) 0 (ev_loc (pr_P 303).1 [(sR v0), (sR v1), (sI v2)]) [] g 0 0 := by
  show Go Φ pr_P fN 1 (fT_pruneBelow g v0 v1 v2) d pr_m303 0 [some (sR v0), some (sR v1), some (sI v2), none, none] [] g 0 0
  unfold fT_pruneBelow
  refine go_int kk303_0.1.1.1.1.1 0 rfl ?_
  refine go_istore kk303_0.1.1.1.1.2 rfl (loc2 := [some (sR v0), some (sR v1), some (sI v2), some (sI 0), none]) rfl ?_
  refine go_aload kk303_0.1.1.1.2 rfl ?_
  refine go_aload kk303_0.1.1.2.1.1 rfl ?_
  refine go_callP2 kk303_0.1.1.2.1.2 rfl rfl rfl ⟨by decide, _, rfl, hK0⟩ ⟨Nat.zero_le _, Nat.zero_le _⟩ (by omega) (tfT_deepestBelow (by omega) hg hK0  h1) (fun y1 r2 => ?_)
  refine go_astore kk303_0.1.1.2.2 rfl (loc2 := [some (sR v0), some (sR v1), some (sI v2), some (sI 0), some (sR y1)]) rfl ?_
  exact tlT_pruneBelow_9 hd hK0 h1 h2 fu 0 (inR_b (Or.inl rfl)) y1 r2 g hg
theorem tfC_prune {Φ : ev_P} {d : Nat} (hd : 6 ≤ d) {g : gH} (hg : HR g) {v0 v1 v2 : Int} (hK0 : kd v0 = 6) (h1 : InR v1) (h2 : InR v2) : Go Φ pr_P fT 1 (fC_prune g v0 v1 v2) d (pr_P 43) 0 (ev_loc (pr_P 43).1 [(sR v0), (sI v1), (sI v2)]) [] g 0 0 := by
  show Go Φ pr_P fT 1 (fC_prune g v0 v1 v2) d pr_m43 0 [some (sR v0), some (sI v1), some (sI v2), none] [] g 0 0
  unfold fC_prune
  refine go_aload kk43_0.1.1.1.1.1 rfl ?_
  refine go_iload kk43_0.1.1.1.1.2 rfl ?_
  refine go_callQ2 kk43_0.1.1.1.2 rfl rfl rfl ⟨by decide, _, rfl, hK0⟩ ⟨by decide, by decide⟩ (by omega) (tfC_named (by omega) hg hK0  h1) (fun y1 r2 => ?_) (fun e5 E6 => ge_prop rfl ⟨by decide, by decide⟩ e5 rfl)
  refine go_astore kk43_0.1.1.2.1.1 rfl (loc2 := [some (sR v0), some (sI v1), some (sI v2), some (sR y1)]) rfl ?_
  refine go_iload kk43_0.1.1.2.1.2 rfl ?_
  refine go_int kk43_0.1.1.2.2 255 rfl ?_
  refine go_callQ0 kk43_0.1.2.1.1.1 rfl rfl rfl trivial ⟨by decide, by decide⟩ (by omega) (tfC_checkRange (by omega) hg  h2 (inR_of (by decide))) (fun y7 => ?_) (fun e11 E12 => ge_prop rfl ⟨by decide, by decide⟩ e11 rfl)
  refine go_aload kk43_0.1.2.1.1.2 rfl ?_
  refine go_ck (fun q13 => ?_)
  refine go_callP3 kk43_0.1.2.1.2 rfl rfl rfl ⟨by decide, _, rfl, q13⟩ ⟨by decide, by decide⟩ (by omega) (tfP_isRunning (by omega) hg q13 ) (fun y14 r15 => ?_)
  refine go_callQ0 kk43_0.1.2.2.1 rfl rfl rfl trivial ⟨by decide, by decide⟩ (by omega) (tfC_checkState (by omega) hg  r15) (fun y18 => ?_) (fun e22 E23 => ge_prop rfl ⟨by decide, by decide⟩ e22 rfl)
  refine go_aload kk43_0.1.2.2.2 rfl ?_
  refine go_getR (bI := 3) kk43_0.2.1.1.1.1 hg hK0 (by decide) rfl rfl (fun r24 => ?_)
  refine go_aload kk43_0.2.1.1.1.2 rfl ?_
  refine go_getR (bI := 0) kk43_0.2.1.1.2 hg hK0 (by decide) rfl rfl (fun r25 => ?_)
  refine go_ck (fun q26 => ?_)
  refine go_callN0 kk43_0.2.1.2.1 rfl rfl rfl ⟨by decide, _, rfl, q26⟩ ⟨by decide, by decide⟩ (by omega) (tfH_push (by omega) hg q26  r25) (fun y27 g29 e30 => ?_)
  refine go_aload kk43_0.2.1.2.2 rfl ?_
  refine go_getR (bI := 0) kk43_0.2.2.1.1.1 e30 hK0 (by decide) rfl rfl (fun r31 => ?_)
  refine go_aload kk43_0.2.2.1.1.2 rfl ?_
  refine go_iload kk43_0.2.2.1.2 rfl ?_
  refine go_ck (fun q32 => ?_)
  refine go_callN1 kk43_0.2.2.2.1 rfl rfl rfl ⟨by decide, _, rfl, q32⟩ ⟨by decide, by decide⟩ (by omega) (tfT_pruneBelow (by omega) e30 q32  r2 h2) (fun y33 g35 r34 e36 => ?_)
  exact go_iret kk43_0.2.2.2.2 e36 r34 ⟨by decide, by decide⟩ rfl
theorem tfW_prune {Φ : ev_P} {d : Nat} (hd : 7 ≤ d) {g : gH} (hg : HR g) {v0 v1 v2 v3 : Int} (h0 : RfR v0) (h1 : InR v1) (h2 : InR v2) (h3 : RfR v3) : Go Φ pr_P fN 1 (fW_prune g v0 v1 v2 v3) d (pr_P 335) 0 (ev_loc (pr_P 335).1 [(sR v0), (sI v1), (sI v2), (sR v3)]) [] g 0 0 := by
  show Go Φ pr_P fN 1 (fW_prune g v0 v1 v2 v3) d pr_m335 0 [some (sR v0), some (sI v1), some (sI v2), some (sR v3), none] [] g 0 0
  unfold fW_prune
  refine go_aload kk335_0.1.1.1.1.1 rfl ?_
  refine go_int kk335_0.1.1.1.1.2 0 rfl ?_
  refine go_aload kk335_0.1.1.1.2 rfl ?_
  refine go_iload kk335_0.1.1.2.1 rfl ?_
  refine go_iload kk335_0.1.1.2.2 rfl ?_
  refine go_ck (fun q1 => ?_)
  refine go_callT1 kk335_0.1.2.1.1.1 rfl rfl rfl ⟨by decide, _, rfl, q1⟩ ⟨by decide, by decide⟩ (by omega) (tfC_prune (by omega) hg q1  h1 h2) (fun y2 g4 r3 e5 => ?_) (fun E7 g4 e6 => ?_)
  · refine go_i2l kk335_0.1.2.1.1.2 r3 ?_
    refine go_ck (fun q8 => ?_)
    refine go_last kk335_0.1.2.1.2 e5 q8 (inL_R r3) (fun g9 e10 => ?_)
    refine go_goto kk335_0.1.2.2.1 ?_
    refine go_int kk335_0.2.2.2.1 0 rfl ?_
    exact go_iret kk335_0.2.2.2.2 e10 (inR_b (Or.inl rfl)) ⟨by decide, by decide⟩ rfl
  · refine ge_ite (fun hE9 => ?_) (fun _ => ?_)
    · subst hE9
      refine ge_catch rfl kk335_0.1.2.2.2 rfl (loc2 := [some (sR v0), some (sI v1), some (sI v2), some (sR v3), none]) rfl ?_
      refine go_int kk335_0.2.1.1.1.1 1 rfl ?_
      exact go_iret kk335_0.2.1.1.1.2 e6 (inR_b (Or.inr rfl)) ⟨by decide, by decide⟩ rfl
    refine ge_ite (fun hE9 => ?_) (fun _ => ?_)
    · subst hE9
      refine ge_catch rfl kk335_0.2.1.1.2 rfl (loc2 := [some (sR v0), some (sI v1), some (sI v2), some (sR v3), none]) rfl ?_
      refine go_int kk335_0.2.1.2.1 2 rfl ?_
      exact go_iret kk335_0.2.1.2.2 e6 (inR_of (by decide)) ⟨by decide, by decide⟩ rfl
    refine ge_ite (fun hE9 => ?_) (fun _ => ?_)
    · subst hE9
      refine ge_catch rfl kk335_0.2.2.1.1.1 rfl (loc2 := [some (sR v0), some (sI v1), some (sI v2), some (sR v3), none]) rfl ?_
      refine go_int kk335_0.2.2.1.1.2 3 rfl ?_
      exact go_iret kk335_0.2.2.1.2 e6 (inR_of (by decide)) ⟨by decide, by decide⟩ rfl
    exact ge_none
theorem tjC_exchange_88 {Φ : ev_P} {d : Nat} (hd : 3 ≤ d) {g : gH} (hg : HR g) {v0 v3 v4 : Int} (hK0 : kd v0 = 6) (h3 : RfR v3) (h4 : RfR v4) {s0 : Int} (z0 : B01 s0) (u1 : Option ev_V) (w1 : nwo u1) (u2 : Option ev_V) (w2 : nwo u2) (u5 : Option ev_V) (w5 : nwo u5) (u6 : Option ev_V) (w6 : nwo u6) (u7 : Option ev_V) (w7 : nwo u7) : Go Φ pr_P fT 1 (jC_exchange_88 g v0 v3 v4 s0 ) d pr_m44 88 [some (sR v0), u1, u2, some (sR v3), some (sR v4), u5, u6, u7] [(sI s0)] g 3 18 := by
  unfold jC_exchange_88
  refine go_istore kk44_1.1.1.2.1.1.2 rfl (loc2 := [some (sR v0), u1, u2, some (sR v3), some (sR v4), some (sI s0), u6, u7]) rfl ?_
  refine go_int kk44_1.1.1.2.1.2 2 rfl ?_
  refine go_aload kk44_1.1.1.2.2.1 rfl ?_
  refine go_getR (bI := 0) kk44_1.1.1.2.2.2 hg hK0 (by decide) rfl rfl (fun r66 => ?_)
  refine go_aload kk44_1.1.2.1.1.1.1 rfl ?_
  refine go_int kk44_1.1.2.1.1.1.2 0 rfl ?_
  refine go_ck (fun q67 => ?_)
  refine go_callP1 kk44_1.1.2.1.1.2 rfl rfl rfl ⟨by decide, _, rfl, q67⟩ ⟨by decide, by decide⟩ (by omega) (tfT_countBelow (by omega) hg q67  h3 (inR_b (Or.inl rfl))) (fun y68 r69 => ?_)
  refine go_iadd kk44_1.1.2.1.2.1 ?_
  refine go_aload kk44_1.1.2.1.2.2 rfl ?_
  refine go_getR (bI := 0) kk44_1.1.2.2.1.1 hg hK0 (by decide) rfl rfl (fun r72 => ?_)
  refine go_aload kk44_1.1.2.2.1.2 rfl ?_
  refine go_int kk44_1.1.2.2.2.1 0 rfl ?_
  refine go_callP1 kk44_1.1.2.2.2.2 rfl rfl rfl ⟨by decide, _, rfl, q67⟩ ⟨by decide, by decide⟩ (by omega) (tfT_countBelow (by omega) hg q67  h4 (inR_b (Or.inl rfl))) (fun y73 r74 => ?_)
  refine go_iadd kk44_1.2.1.1.1.1.1 ?_
  refine go_istore kk44_1.2.1.1.1.1.2 rfl (loc2 := [some (sR v0), u1, u2, some (sR v3), some (sR v4), some (sI s0), some (sI (w32 ((w32 (2 + y68)) + y73))), u7]) rfl ?_
  refine go_aload kk44_1.2.1.1.1.2 rfl ?_
  refine go_ck (fun q77 => ?_)
  refine go_getR (bI := 2) kk44_1.2.1.1.2.1 hg q77 (by decide) rfl rfl (fun r78 => ?_)
  refine go_astore kk44_1.2.1.1.2.2 rfl (loc2 := [some (sR v0), u1, u2, some (sR v3), some (sR v4), some (sI s0), some (sI (w32 ((w32 (2 + y68)) + y73))), some (sR (g v3 2))]) rfl ?_
  refine go_aload kk44_1.2.1.2.1.1 rfl ?_
  refine go_aload kk44_1.2.1.2.1.2 rfl ?_
  refine go_ck (fun q79 => ?_)
  refine go_getR (bI := 2) kk44_1.2.1.2.2.1 hg q79 (by decide) rfl rfl (fun r80 => ?_)
  refine go_callN0 kk44_1.2.1.2.2.2 rfl rfl rfl ⟨by decide, _, rfl, q77⟩ ⟨by decide, by decide⟩ (by omega) (tfP_putUnder (by omega) hg q77  r80) (fun y81 g83 e84 => ?_)
  refine go_aload kk44_1.2.2.1.1.1.1 rfl ?_
  refine go_aload kk44_1.2.2.1.1.1.2 rfl ?_
  refine go_callN0 kk44_1.2.2.1.1.2 rfl rfl rfl ⟨by decide, _, rfl, q79⟩ ⟨by decide, by decide⟩ (by omega) (tfP_putUnder (by omega) e84 q79  r78) (fun y85 g87 e88 => ?_)
  refine go_iload kk44_1.2.2.1.2.1 rfl ?_
  refine go_ifeq kk44_1.2.2.1.2.2 (inR_b z0) (fun c89 => ?_) (fun c90 => ?_)
  · refine go_iload kk44_1.2.2.2.2.1 rfl ?_
    exact go_iret kk44_1.2.2.2.2.2 e88 (inR_w32 _) ⟨by decide, by decide⟩ rfl
  · refine go_int kk44_1.2.2.2.1.1 0 rfl ?_
    refine go_goto kk44_1.2.2.2.1.2 ?_
    exact go_iret kk44_1.2.2.2.2.2 e88 (inR_b (Or.inl rfl)) ⟨by decide, by decide⟩ rfl
theorem tjC_exchange_57 {Φ : ev_P} {d : Nat} (hd : 3 ≤ d) {g : gH} (hg : HR g) {v0 v3 v4 : Int} (hK0 : kd v0 = 6) (h3 : RfR v3) (h4 : RfR v4) {s0 : Int} (z0 : B01 s0) (u1 : Option ev_V) (w1 : nwo u1) (u2 : Option ev_V) (w2 : nwo u2) (u5 : Option ev_V) (w5 : nwo u5) (u6 : Option ev_V) (w6 : nwo u6) (u7 : Option ev_V) (w7 : nwo u7) : Go Φ pr_P fT 1 (jC_exchange_57 g v0 v3 v4 s0 ) d pr_m44 57 [some (sR v0), u1, u2, some (sR v3), some (sR v4), u5, u6, u7] [(sI s0)] g 2 12 := by
  unfold jC_exchange_57
  refine go_callQ0 kk44_0.2.2.1.1.1.2 rfl rfl rfl trivial ⟨by decide, by decide⟩ (by omega) (tfC_checkState (by omega) hg  z0) (fun y41 => ?_) (fun e45 E46 => ge_prop rfl ⟨by decide, by decide⟩ e45 rfl)
  refine go_aload kk44_0.2.2.1.1.2 rfl ?_
  refine go_getR (bI := 3) kk44_0.2.2.1.2.1 hg hK0 (by decide) rfl rfl (fun r47 => ?_)
  refine go_aload kk44_0.2.2.1.2.2 rfl ?_
  refine go_getR (bI := 0) kk44_0.2.2.2.1.1 hg hK0 (by decide) rfl rfl (fun r48 => ?_)
  refine go_ck (fun q49 => ?_)
  refine go_callN0 kk44_0.2.2.2.1.2 rfl rfl rfl ⟨by decide, _, rfl, q49⟩ ⟨by decide, by decide⟩ (by omega) (tfH_push (by omega) hg q49  r48) (fun y50 g52 e53 => ?_)
  refine go_aload kk44_0.2.2.2.2.1 rfl ?_
  refine go_ck (fun q54 => ?_)
  refine go_callP1 kk44_0.2.2.2.2.2 rfl rfl rfl ⟨by decide, _, rfl, q54⟩ ⟨by decide, by decide⟩ (by omega) (tfP_countAbove (by omega) e53 q54 ) (fun y55 r56 => ?_)
  refine go_aload kk44_1.1.1.1.1.1.1 rfl ?_
  refine go_ck (fun q59 => ?_)
  refine go_callP1 kk44_1.1.1.1.1.1.2 rfl rfl rfl ⟨by decide, _, rfl, q59⟩ ⟨by decide, by decide⟩ (by omega) (tfP_countAbove (by omega) e53 q59 ) (fun y60 r61 => ?_)
  refine go_cmeq kk44_1.1.1.1.1.2 r56 r61 (fun c64 => ?_) (fun c65 => ?_)
  · refine go_int kk44_1.1.1.1.2.1 1 rfl ?_
    refine go_goto kk44_1.1.1.1.2.2 ?_
    exact tjC_exchange_88 hd e53 hK0 h3 h4 (Or.inr rfl) u1 w1 u2 w2 u5 w5 u6 w6 u7 w7
  · refine go_int kk44_1.1.1.2.1.1.1 0 rfl ?_
    exact tjC_exchange_88 hd e53 hK0 h3 h4 (Or.inl rfl) u1 w1 u2 w2 u5 w5 u6 w6 u7 w7
theorem tjC_exchange_56 {Φ : ev_P} {d : Nat} (hd : 3 ≤ d) {g : gH} (hg : HR g) {v0 v3 v4 : Int} (hK0 : kd v0 = 6) (h3 : RfR v3) (h4 : RfR v4) (u1 : Option ev_V) (w1 : nwo u1) (u2 : Option ev_V) (w2 : nwo u2) (u5 : Option ev_V) (w5 : nwo u5) (u6 : Option ev_V) (w6 : nwo u6) (u7 : Option ev_V) (w7 : nwo u7) : Go Φ pr_P fT 1 (jC_exchange_56 g v0 v3 v4 ) d pr_m44 56 [some (sR v0), u1, u2, some (sR v3), some (sR v4), u5, u6, u7] [] g 2 12 := by
  unfold jC_exchange_56
  refine go_int kk44_0.2.2.1.1.1.1 0 rfl ?_
  exact tjC_exchange_57 hd hg hK0 h3 h4 (Or.inl rfl) u1 w1 u2 w2 u5 w5 u6 w6 u7 w7
theorem tfC_exchange {Φ : ev_P} {d : Nat} (hd : 3 ≤ d) {g : gH} (hg : HR g) {v0 v1 v2 : Int} (hK0 : kd v0 = 6) (h1 : InR v1) (h2 : InR v2) : Go Φ pr_P fT 1 (fC_exchange g v0 v1 v2) d (pr_P 44) 0 (ev_loc (pr_P 44).1 [(sR v0), (sI v1), (sI v2)]) [] g 0 0 := by
  show Go Φ pr_P fT 1 (fC_exchange g v0 v1 v2) d pr_m44 0 [some (sR v0), some (sI v1), some (sI v2), none, none, none, none, none] [] g 0 0
  unfold fC_exchange
  refine go_aload kk44_0.1.1.1.1.1.1 rfl ?_
  refine go_iload kk44_0.1.1.1.1.1.2 rfl ?_
  refine go_callQ2 kk44_0.1.1.1.1.2 rfl rfl rfl ⟨by decide, _, rfl, hK0⟩ ⟨by decide, by decide⟩ (by omega) (tfC_named (by omega) hg hK0  h1) (fun y1 r2 => ?_) (fun e5 E6 => ge_prop rfl ⟨by decide, by decide⟩ e5 rfl)
  refine go_astore kk44_0.1.1.1.2.1 rfl (loc2 := [some (sR v0), some (sI v1), some (sI v2), some (sR y1), none, none, none, none]) rfl ?_
  refine go_aload kk44_0.1.1.1.2.2 rfl ?_
  refine go_iload kk44_0.1.1.2.1.1 rfl ?_
  refine go_callQ2 kk44_0.1.1.2.1.2 rfl rfl rfl ⟨by decide, _, rfl, hK0⟩ ⟨by decide, by decide⟩ (by omega) (tfC_named (by omega) hg hK0  h2) (fun y7 r8 => ?_) (fun e11 E12 => ge_prop rfl ⟨by decide, by decide⟩ e11 rfl)
  refine go_astore kk44_0.1.1.2.2.1 rfl (loc2 := [some (sR v0), some (sI v1), some (sI v2), some (sR y1), some (sR y7), none, none, none]) rfl ?_
  refine go_aload kk44_0.1.1.2.2.2 rfl ?_
  refine go_ck (fun q13 => ?_)
  refine go_callP3 kk44_0.1.2.1.1.1.1 rfl rfl rfl ⟨by decide, _, rfl, q13⟩ ⟨by decide, by decide⟩ (by omega) (tfP_isMortal (by omega) hg q13 ) (fun y14 r15 => ?_)
  refine go_ifeq kk44_0.1.2.1.1.1.2 (inR_b r15) (fun c18 => ?_) (fun c19 => ?_)
  · exact tjC_exchange_56 hd hg hK0 r2 r8 (some (sI v1)) rfl (some (sI v2)) rfl none rfl none rfl none rfl
  · refine go_aload kk44_0.1.2.1.1.2 rfl ?_
    refine go_ck (fun q20 => ?_)
    refine go_callP3 kk44_0.1.2.1.2.1 rfl rfl rfl ⟨by decide, _, rfl, q20⟩ ⟨by decide, by decide⟩ (by omega) (tfP_isMortal (by omega) hg q20 ) (fun y21 r22 => ?_)
    refine go_ifeq kk44_0.1.2.1.2.2 (inR_b r22) (fun c25 => ?_) (fun c26 => ?_)
    · exact tjC_exchange_56 hd hg hK0 r2 r8 (some (sI v1)) rfl (some (sI v2)) rfl none rfl none rfl none rfl
    · refine go_aload kk44_0.1.2.2.1.1 rfl ?_
      refine go_aload kk44_0.1.2.2.1.2 rfl ?_
      refine go_acmp kk44_0.1.2.2.2.1 r2 r8 (fun c27 => ?_) (fun c28 => ?_)
      · exact tjC_exchange_56 hd hg hK0 r2 r8 (some (sI v1)) rfl (some (sI v2)) rfl none rfl none rfl none rfl
      · refine go_aload kk44_0.1.2.2.2.2 rfl ?_
        refine go_aload kk44_0.2.1.1.1.1.1 rfl ?_
        refine go_callP3 kk44_0.2.1.1.1.1.2 rfl rfl rfl ⟨by decide, _, rfl, q13⟩ ⟨by decide, by decide⟩ (by omega) (tfP_isOver (by omega) hg q13  r8) (fun y29 r30 => ?_)
        refine go_ifeq kk44_0.2.1.1.1.2 (inR_b r30) (fun c33 => ?_) (fun c34 => ?_)
        · refine go_aload kk44_0.2.1.1.2.1 rfl ?_
          refine go_aload kk44_0.2.1.1.2.2 rfl ?_
          refine go_callP3 kk44_0.2.1.2.1.1 rfl rfl rfl ⟨by decide, _, rfl, q20⟩ ⟨by decide, by decide⟩ (by omega) (tfP_isOver (by omega) hg q20  r2) (fun y35 r36 => ?_)
          refine go_ifeq kk44_0.2.1.2.1.2 (inR_b r36) (fun c39 => ?_) (fun c40 => ?_)
          · refine go_int kk44_0.2.1.2.2.1 1 rfl ?_
            refine go_goto kk44_0.2.1.2.2.2 ?_
            exact tjC_exchange_57 hd hg hK0 r2 r8 (Or.inr rfl) (some (sI v1)) rfl (some (sI v2)) rfl none rfl none rfl none rfl
          · exact tjC_exchange_56 hd hg hK0 r2 r8 (some (sI v1)) rfl (some (sI v2)) rfl none rfl none rfl none rfl
        · exact tjC_exchange_56 hd hg hK0 r2 r8 (some (sI v1)) rfl (some (sI v2)) rfl none rfl none rfl none rfl
theorem tfW_exchange {Φ : ev_P} {d : Nat} (hd : 4 ≤ d) {g : gH} (hg : HR g) {v0 v1 v2 v3 : Int} (h0 : RfR v0) (h1 : InR v1) (h2 : InR v2) (h3 : RfR v3) : Go Φ pr_P fN 1 (fW_exchange g v0 v1 v2 v3) d (pr_P 336) 0 (ev_loc (pr_P 336).1 [(sR v0), (sI v1), (sI v2), (sR v3)]) [] g 0 0 := by
  show Go Φ pr_P fN 1 (fW_exchange g v0 v1 v2 v3) d pr_m336 0 [some (sR v0), some (sI v1), some (sI v2), some (sR v3), none] [] g 0 0
  unfold fW_exchange
  refine go_aload kk336_0.1.1.1.1.1 rfl ?_
  refine go_int kk336_0.1.1.1.1.2 0 rfl ?_
  refine go_aload kk336_0.1.1.1.2 rfl ?_
  refine go_iload kk336_0.1.1.2.1 rfl ?_
  refine go_iload kk336_0.1.1.2.2 rfl ?_
  refine go_ck (fun q1 => ?_)
  refine go_callT1 kk336_0.1.2.1.1 rfl rfl rfl ⟨by decide, _, rfl, q1⟩ ⟨by decide, by decide⟩ (by omega) (tfC_exchange (by omega) hg q1  h1 h2) (fun y2 g4 r3 e5 => ?_) (fun E7 g4 e6 => ?_)
  · refine go_i2l kk336_0.1.2.1.2 r3 ?_
    refine go_ck (fun q8 => ?_)
    refine go_last kk336_0.1.2.2.1 e5 q8 (inL_R r3) (fun g9 e10 => ?_)
    refine go_goto kk336_0.1.2.2.2 ?_
    refine go_int kk336_0.2.2.2.1 0 rfl ?_
    exact go_iret kk336_0.2.2.2.2 e10 (inR_b (Or.inl rfl)) ⟨by decide, by decide⟩ rfl
  · refine ge_ite (fun hE9 => ?_) (fun _ => ?_)
    · subst hE9
      refine ge_catch rfl kk336_0.2.1.1.1 rfl (loc2 := [some (sR v0), some (sI v1), some (sI v2), some (sR v3), none]) rfl ?_
      refine go_int kk336_0.2.1.1.2 1 rfl ?_
      exact go_iret kk336_0.2.1.2.1 e6 (inR_b (Or.inr rfl)) ⟨by decide, by decide⟩ rfl
    refine ge_ite (fun hE9 => ?_) (fun _ => ?_)
    · subst hE9
      refine ge_catch rfl kk336_0.2.1.2.2 rfl (loc2 := [some (sR v0), some (sI v1), some (sI v2), some (sR v3), none]) rfl ?_
      refine go_int kk336_0.2.2.1.1 2 rfl ?_
      exact go_iret kk336_0.2.2.1.2 e6 (inR_of (by decide)) ⟨by decide, by decide⟩ rfl
    exact ge_none
theorem tfC_readAll {Φ : ev_P} {d : Nat} (hd : 3 ≤ d) {g : gH} (hg : HR g) {v0 v1 : Int} (hK0 : kd v0 = 6) (h1 : InR v1) : Go Φ pr_P fT 1 (fC_readAll g v0 v1) d (pr_P 45) 0 (ev_loc (pr_P 45).1 [(sR v0), (sI v1)]) [] g 0 0 := by
  show Go Φ pr_P fT 1 (fC_readAll g v0 v1) d pr_m45 0 [some (sR v0), some (sI v1), none] [] g 0 0
  unfold fC_readAll
  refine go_aload kk45_0.1.1.1.1.1 rfl ?_
  refine go_iload kk45_0.1.1.1.1.2 rfl ?_
  refine go_callQ2 kk45_0.1.1.1.2 rfl rfl rfl ⟨by decide, _, rfl, hK0⟩ ⟨by decide, by decide⟩ (by omega) (tfC_named (by omega) hg hK0  h1) (fun y1 r2 => ?_) (fun e5 E6 => ge_prop rfl ⟨by decide, by decide⟩ e5 rfl)
  refine go_astore kk45_0.1.1.2.1 rfl (loc2 := [some (sR v0), some (sI v1), some (sR y1)]) rfl ?_
  refine go_aload kk45_0.1.1.2.2 rfl ?_
  refine go_ck (fun q7 => ?_)
  refine go_callP3 kk45_0.1.2.1.1 rfl rfl rfl ⟨by decide, _, rfl, q7⟩ ⟨by decide, by decide⟩ (by omega) (tfP_isRunning (by omega) hg q7 ) (fun y8 r9 => ?_)
  refine go_callQ0 kk45_0.1.2.1.2 rfl rfl rfl trivial ⟨by decide, by decide⟩ (by omega) (tfC_checkState (by omega) hg  r9) (fun y12 => ?_) (fun e16 E17 => ge_prop rfl ⟨by decide, by decide⟩ e16 rfl)
  refine go_aload kk45_0.1.2.2.1 rfl ?_
  refine go_getR (bI := 3) kk45_0.1.2.2.2 hg hK0 (by decide) rfl rfl (fun r18 => ?_)
  refine go_aload kk45_0.2.1.1.1 rfl ?_
  refine go_getR (bI := 0) kk45_0.2.1.1.2 hg hK0 (by decide) rfl rfl (fun r19 => ?_)
  refine go_ck (fun q20 => ?_)
  refine go_callN0 kk45_0.2.1.2.1 rfl rfl rfl ⟨by decide, _, rfl, q20⟩ ⟨by decide, by decide⟩ (by omega) (tfH_push (by omega) hg q20  r19) (fun y21 g23 e24 => ?_)
  refine go_aload kk45_0.2.1.2.2 rfl ?_
  refine go_getR (bI := 0) kk45_0.2.2.1.1 e24 hK0 (by decide) rfl rfl (fun r25 => ?_)
  refine go_aload kk45_0.2.2.1.2 rfl ?_
  refine go_ck (fun q26 => ?_)
  refine go_callN1 kk45_0.2.2.2.1 rfl rfl rfl ⟨by decide, _, rfl, q26⟩ ⟨by decide, by decide⟩ (by omega) (tfT_readZombiesOf (by omega) e24 q26  r2) (fun y27 g29 r28 e30 => ?_)
  exact go_iret kk45_0.2.2.2.2 e30 r28 ⟨by decide, by decide⟩ rfl
theorem tfW_readAll {Φ : ev_P} {d : Nat} (hd : 4 ≤ d) {g : gH} (hg : HR g) {v0 v1 v2 : Int} (h0 : RfR v0) (h1 : InR v1) (h2 : RfR v2) : Go Φ pr_P fN 1 (fW_readAll g v0 v1 v2) d (pr_P 337) 0 (ev_loc (pr_P 337).1 [(sR v0), (sI v1), (sR v2)]) [] g 0 0 := by
  show Go Φ pr_P fN 1 (fW_readAll g v0 v1 v2) d pr_m337 0 [some (sR v0), some (sI v1), some (sR v2), none] [] g 0 0
  unfold fW_readAll
  refine go_aload kk337_0.1.1.1.1 rfl ?_
  refine go_int kk337_0.1.1.1.2 0 rfl ?_
  refine go_aload kk337_0.1.1.2.1 rfl ?_
  refine go_iload kk337_0.1.1.2.2 rfl ?_
  refine go_ck (fun q1 => ?_)
  refine go_callT1 kk337_0.1.2.1.1 rfl rfl rfl ⟨by decide, _, rfl, q1⟩ ⟨by decide, by decide⟩ (by omega) (tfC_readAll (by omega) hg q1  h1) (fun y2 g4 r3 e5 => ?_) (fun E7 g4 e6 => ?_)
  · refine go_i2l kk337_0.1.2.1.2 r3 ?_
    refine go_ck (fun q8 => ?_)
    refine go_last kk337_0.1.2.2.1 e5 q8 (inL_R r3) (fun g9 e10 => ?_)
    refine go_goto kk337_0.1.2.2.2 ?_
    refine go_int kk337_0.2.2.2.1 0 rfl ?_
    exact go_iret kk337_0.2.2.2.2 e10 (inR_b (Or.inl rfl)) ⟨by decide, by decide⟩ rfl
  · refine ge_ite (fun hE9 => ?_) (fun _ => ?_)
    · subst hE9
      refine ge_catch rfl kk337_0.2.1.1.1 rfl (loc2 := [some (sR v0), some (sI v1), some (sR v2), none]) rfl ?_
      refine go_int kk337_0.2.1.1.2 1 rfl ?_
      exact go_iret kk337_0.2.1.2.1 e6 (inR_b (Or.inr rfl)) ⟨by decide, by decide⟩ rfl
    refine ge_ite (fun hE9 => ?_) (fun _ => ?_)
    · subst hE9
      refine ge_catch rfl kk337_0.2.1.2.2 rfl (loc2 := [some (sR v0), some (sI v1), some (sR v2), none]) rfl ?_
      refine go_int kk337_0.2.2.1.1 2 rfl ?_
      exact go_iret kk337_0.2.2.1.2 e6 (inR_of (by decide)) ⟨by decide, by decide⟩ rfl
    exact ge_none
theorem tfC_testamentsBelow {Φ : ev_P} {d : Nat} (hd : 2 ≤ d) {g : gH} (hg : HR g) {v0 v1 : Int} (hK0 : kd v0 = 6) (h1 : InR v1) : Go Φ pr_P (fQ g) 1 (fC_testamentsBelow g v0 v1) d (pr_P 46) 0 (ev_loc (pr_P 46).1 [(sR v0), (sI v1)]) [] g 0 0 := by
  show Go Φ pr_P (fQ g) 1 (fC_testamentsBelow g v0 v1) d pr_m46 0 [some (sR v0), some (sI v1)] [] g 0 0
  unfold fC_testamentsBelow
  refine go_aload kk46_0.1.1.1 rfl ?_
  refine go_getR (bI := 0) kk46_0.1.1.2 hg hK0 (by decide) rfl rfl (fun r1 => ?_)
  refine go_aload kk46_0.1.2.1 rfl ?_
  refine go_iload kk46_0.1.2.2 rfl ?_
  refine go_callQ2 kk46_0.2.1.1 rfl rfl rfl ⟨by decide, _, rfl, hK0⟩ ⟨by decide, by decide⟩ (by omega) (tfC_named (by omega) hg hK0  h1) (fun y2 r3 => ?_) (fun e6 E7 => ge_prop rfl ⟨by decide, by decide⟩ e6 rfl)
  refine go_int kk46_0.2.1.2 1 rfl ?_
  refine go_ck (fun q8 => ?_)
  refine go_callP1 kk46_0.2.2.1 rfl rfl rfl ⟨by decide, _, rfl, q8⟩ ⟨by decide, by decide⟩ (by omega) (tfT_countBelow (by omega) hg q8  r3 (inR_b (Or.inr rfl))) (fun y9 r10 => ?_)
  exact go_iret kk46_0.2.2.2 hg r10 ⟨by decide, by decide⟩ rfl
theorem tfW_testamentsBelow {Φ : ev_P} {d : Nat} (hd : 3 ≤ d) {g : gH} (hg : HR g) {v0 v1 v2 : Int} (h0 : RfR v0) (h1 : InR v1) (h2 : RfR v2) : Go Φ pr_P fN 1 (fW_testamentsBelow g v0 v1 v2) d (pr_P 338) 0 (ev_loc (pr_P 338).1 [(sR v0), (sI v1), (sR v2)]) [] g 0 0 := by
  show Go Φ pr_P fN 1 (fW_testamentsBelow g v0 v1 v2) d pr_m338 0 [some (sR v0), some (sI v1), some (sR v2), none] [] g 0 0
  unfold fW_testamentsBelow
  refine go_aload kk338_0.1.1.1.1 rfl ?_
  refine go_int kk338_0.1.1.1.2 0 rfl ?_
  refine go_aload kk338_0.1.1.2.1 rfl ?_
  refine go_iload kk338_0.1.1.2.2 rfl ?_
  refine go_ck (fun q1 => ?_)
  refine go_callQ1 kk338_0.1.2.1.1 rfl rfl rfl ⟨by decide, _, rfl, q1⟩ ⟨by decide, by decide⟩ (by omega) (tfC_testamentsBelow (by omega) hg q1  h1) (fun y2 r3 => ?_) (fun e6 E7 => ?_)
  · refine go_i2l kk338_0.1.2.1.2 r3 ?_
    refine go_ck (fun q8 => ?_)
    refine go_last kk338_0.1.2.2 hg q8 (inL_R r3) (fun g9 e10 => ?_)
    refine go_goto kk338_0.2.1.1.1 ?_
    refine go_int kk338_0.2.2.1.2 0 rfl ?_
    exact go_iret kk338_0.2.2.2 e10 (inR_b (Or.inl rfl)) ⟨by decide, by decide⟩ rfl
  · refine ge_ite (fun hE9 => ?_) (fun _ => ?_)
    · subst hE9
      refine ge_catch rfl kk338_0.2.1.1.2 rfl (loc2 := [some (sR v0), some (sI v1), some (sR v2), none]) rfl ?_
      refine go_int kk338_0.2.1.2 1 rfl ?_
      exact go_iret kk338_0.2.2.1.1 e6 (inR_b (Or.inr rfl)) ⟨by decide, by decide⟩ rfl
    exact ge_none
theorem tbC_roomBelow_25 {Φ : ev_P} {d : Nat} (hd : 2 ≤ d) {g : gH} (hg : HR g) {v2 v4 v5 : Int} (h2 : RfR v2) (h4 : RfR v4) (h5 : InR v5) {X25 : Int → Int → Option (Nat × Int)} (HX25 : ∀ (v3 : Int) (h3 : InR v3) (v6 : Int) (h6 : InR v6) (u0 : Option ev_V) (w0 : nwo u0) (u1 : Option ev_V) (w1 : nwo u1) (u7 : Option ev_V) (w7 : nwo u7), Go Φ pr_P (fQ g) 1 (X25 v3 v6) d pr_m47 25 [u0, u1, some (sR v2), some (sI v3), some (sR v4), some (sI v5), some (sI v6), u7] [] g 1 6) : ∀ (v3 : Int) (h3 : InR v3) (v6 : Int) (h6 : InR v6) (u0 : Option ev_V) (w0 : nwo u0) (u1 : Option ev_V) (w1 : nwo u1) (u7 : Option ev_V) (w7 : nwo u7), Go Φ pr_P (fQ g) 1 (bC_roomBelow_25 g v2 v4 v5 X25 v3 v6) d pr_m47 25 [u0, u1, some (sR v2), some (sI v3), some (sR v4), some (sI v5), some (sI v6), u7] [] g 1 6 := by
  intro v3 h3 v6 h6 u0 w0 u1 w1 u7 w7
  unfold bC_roomBelow_25
  refine go_iload kk47_0.1.2.2.1.1 rfl ?_
  refine go_iload kk47_0.1.2.2.1.2 rfl ?_
  refine go_cmlt kk47_0.1.2.2.2.1 h6 h5 (fun c12 => ?_) (fun c13 => ?_)
  · refine go_aload kk47_0.1.2.2.2.2 rfl ?_
    refine go_iload kk47_0.2.1.1.1.1.1 rfl ?_
    refine go_ck (fun q15 => ?_)
    refine go_pald kk47_0.2.1.1.1.1.2 hg q15 (fun r14 => ?_)
    refine go_astore kk47_0.2.1.1.1.2 rfl (loc2 := [u0, u1, some (sR v2), some (sI v3), some (sR v4), some (sI v5), some (sI v6), some (sR (g v4 v6))]) rfl ?_
    refine go_aload kk47_0.2.1.1.2.1 rfl ?_
    refine go_ck (fun q16 => ?_)
    refine go_callP3 kk47_0.2.1.1.2.2 rfl rfl rfl ⟨by decide, _, rfl, q16⟩ ⟨by decide, by decide⟩ (by omega) (tfP_isRunning (by omega) hg q16 ) (fun y17 r18 => ?_)
    refine go_ifeq kk47_0.2.1.2.1.1.1 (inR_b r18) (fun c21 => ?_) (fun c22 => ?_)
    · refine go_iinc kk47_0.2.2.2.1.1 rfl rfl 1 rfl (loc2 := [u0, u1, some (sR v2), some (sI v3), some (sR v4), some (sI v5), some (sI (w32 (v6 + 1))), some (sR (g v4 v6))]) rfl ?_
      refine go_goto kk47_0.2.2.2.1.2 ?_
      exact HX25 v3 h3 (w32 (v6 + 1)) (inR_w32 _) u0 w0 u1 w1 (some (sR (g v4 v6))) rfl
    · refine go_aload kk47_0.2.1.2.1.1.2 rfl ?_
      refine go_aload kk47_0.2.1.2.1.2 rfl ?_
      refine go_ck (fun q23 => ?_)
      refine go_callP3 kk47_0.2.1.2.2.1 rfl rfl rfl ⟨by decide, _, rfl, q23⟩ ⟨by decide, by decide⟩ (by omega) (tfP_isOver (by omega) hg q23  r14) (fun y24 r25 => ?_)
      refine go_ifeq kk47_0.2.1.2.2.2 (inR_b r25) (fun c28 => ?_) (fun c29 => ?_)
      · refine go_iinc kk47_0.2.2.2.1.1 rfl rfl 1 rfl (loc2 := [u0, u1, some (sR v2), some (sI v3), some (sR v4), some (sI v5), some (sI (w32 (v6 + 1))), some (sR (g v4 v6))]) rfl ?_
        refine go_goto kk47_0.2.2.2.1.2 ?_
        exact HX25 v3 h3 (w32 (v6 + 1)) (inR_w32 _) u0 w0 u1 w1 (some (sR (g v4 v6))) rfl
      · refine go_iload kk47_0.2.2.1.1.1.1 rfl ?_
        refine go_aload kk47_0.2.2.1.1.1.2 rfl ?_
        refine go_callP1 kk47_0.2.2.1.1.2 rfl rfl rfl ⟨by decide, _, rfl, q16⟩ ⟨by decide, by decide⟩ (by omega) (tfP_room (by omega) hg q16 ) (fun y30 r31 => ?_)
        refine go_iadd kk47_0.2.2.1.2.1 ?_
        refine go_istore kk47_0.2.2.1.2.2 rfl (loc2 := [u0, u1, some (sR v2), some (sI (w32 (v3 + y30))), some (sR v4), some (sI v5), some (sI v6), some (sR (g v4 v6))]) rfl ?_
        refine go_iinc kk47_0.2.2.2.1.1 rfl rfl 1 rfl (loc2 := [u0, u1, some (sR v2), some (sI (w32 (v3 + y30))), some (sR v4), some (sI v5), some (sI (w32 (v6 + 1))), some (sR (g v4 v6))]) rfl ?_
        refine go_goto kk47_0.2.2.2.1.2 ?_
        exact HX25 (w32 (v3 + y30)) (inR_w32 _) (w32 (v6 + 1)) (inR_w32 _) u0 w0 u1 w1 (some (sR (g v4 v6))) rfl
  · refine go_iload kk47_0.2.2.2.2.1 rfl ?_
    exact go_iret kk47_0.2.2.2.2.2 hg h3 ⟨by decide, by decide⟩ rfl
theorem tlC_roomBelow_25 {Φ : ev_P} {d : Nat} (hd : 2 ≤ d) {g : gH} (hg : HR g) {v2 v4 v5 : Int} (h2 : RfR v2) (h4 : RfR v4) (h5 : InR v5) : ∀ n : Nat, ∀ (v3 : Int) (h3 : InR v3) (v6 : Int) (h6 : InR v6) (u0 : Option ev_V) (w0 : nwo u0) (u1 : Option ev_V) (w1 : nwo u1) (u7 : Option ev_V) (w7 : nwo u7), Go Φ pr_P (fQ g) 1 (lC_roomBelow_25 g v2 v4 v5 n v3 v6) d pr_m47 25 [u0, u1, some (sR v2), some (sI v3), some (sR v4), some (sI v5), some (sI v6), u7] [] g 1 6 := by
  intro n
  induction n with
  | zero => intros; exact go_none
  | succ n ih => exact tbC_roomBelow_25 hd hg h2 h4 h5 ih
theorem tfC_roomBelow {Φ : ev_P} {d : Nat} (hd : 2 ≤ d) {g : gH} (hg : HR g) {v0 v1 : Int} (hK0 : kd v0 = 6) (h1 : InR v1) : Go Φ pr_P (fQ g) 1 (fC_roomBelow g v0 v1) d (pr_P 47) 0 (ev_loc (pr_P 47).1 [(sR v0), (sI v1)]) [] g 0 0 := by
  show Go Φ pr_P (fQ g) 1 (fC_roomBelow g v0 v1) d pr_m47 0 [some (sR v0), some (sI v1), none, none, none, none, none, none] [] g 0 0
  unfold fC_roomBelow
  refine go_aload kk47_0.1.1.1.1.1.1 rfl ?_
  refine go_iload kk47_0.1.1.1.1.1.2 rfl ?_
  refine go_callQ2 kk47_0.1.1.1.1.2 rfl rfl rfl ⟨by decide, _, rfl, hK0⟩ ⟨by decide, by decide⟩ (by omega) (tfC_named (by omega) hg hK0  h1) (fun y1 r2 => ?_) (fun e5 E6 => ge_prop rfl ⟨by decide, by decide⟩ e5 rfl)
  refine go_astore kk47_0.1.1.1.2.1 rfl (loc2 := [some (sR v0), some (sI v1), some (sR y1), none, none, none, none, none]) rfl ?_
  refine go_int kk47_0.1.1.1.2.2 0 rfl ?_
  refine go_istore kk47_0.1.1.2.1.1.1 rfl (loc2 := [some (sR v0), some (sI v1), some (sR y1), some (sI 0), none, none, none, none]) rfl ?_
  refine go_aload kk47_0.1.1.2.1.1.2 rfl ?_
  refine go_getR (bI := 0) kk47_0.1.1.2.1.2 hg hK0 (by decide) rfl rfl (fun r7 => ?_)
  refine go_ck (fun q8 => ?_)
  refine go_getR (bI := 1) kk47_0.1.1.2.2.1 hg q8 (by decide) rfl rfl (fun r9 => ?_)
  refine go_astore kk47_0.1.1.2.2.2 rfl (loc2 := [some (sR v0), some (sI v1), some (sR y1), some (sI 0), some (sR (g (g v0 0) 1)), none, none, none]) rfl ?_
  refine go_aload kk47_0.1.2.1.1.1.1 rfl ?_
  refine go_ck (fun q11 => ?_)
  refine go_alen kk47_0.1.2.1.1.1.2 (ka_24 q11) (fun r10 => ?_)
  refine go_istore kk47_0.1.2.1.1.2 rfl (loc2 := [some (sR v0), some (sI v1), some (sR y1), some (sI 0), some (sR (g (g v0 0) 1)), some (sI (sz (g (g v0 0) 1))), none, none]) rfl ?_
  refine go_int kk47_0.1.2.1.2.1 0 rfl ?_
  refine go_istore kk47_0.1.2.1.2.2 rfl (loc2 := [some (sR v0), some (sI v1), some (sR y1), some (sI 0), some (sR (g (g v0 0) 1)), some (sI (sz (g (g v0 0) 1))), some (sI 0), none]) rfl ?_
  exact tlC_roomBelow_25 hd hg r2 r9 r10 fu 0 (inR_b (Or.inl rfl)) 0 (inR_b (Or.inl rfl)) (some (sR v0)) rfl (some (sI v1)) rfl none rfl
theorem tfW_roomBelow {Φ : ev_P} {d : Nat} (hd : 3 ≤ d) {g : gH} (hg : HR g) {v0 v1 v2 : Int} (h0 : RfR v0) (h1 : InR v1) (h2 : RfR v2) : Go Φ pr_P fN 1 (fW_roomBelow g v0 v1 v2) d (pr_P 339) 0 (ev_loc (pr_P 339).1 [(sR v0), (sI v1), (sR v2)]) [] g 0 0 := by
  show Go Φ pr_P fN 1 (fW_roomBelow g v0 v1 v2) d pr_m339 0 [some (sR v0), some (sI v1), some (sR v2), none] [] g 0 0
  unfold fW_roomBelow
  refine go_aload kk339_0.1.1.1.1 rfl ?_
  refine go_int kk339_0.1.1.1.2 0 rfl ?_
  refine go_aload kk339_0.1.1.2.1 rfl ?_
  refine go_iload kk339_0.1.1.2.2 rfl ?_
  refine go_ck (fun q1 => ?_)
  refine go_callQ1 kk339_0.1.2.1.1 rfl rfl rfl ⟨by decide, _, rfl, q1⟩ ⟨by decide, by decide⟩ (by omega) (tfC_roomBelow (by omega) hg q1  h1) (fun y2 r3 => ?_) (fun e6 E7 => ?_)
  · refine go_i2l kk339_0.1.2.1.2 r3 ?_
    refine go_ck (fun q8 => ?_)
    refine go_last kk339_0.1.2.2 hg q8 (inL_R r3) (fun g9 e10 => ?_)
    refine go_goto kk339_0.2.1.1.1 ?_
    refine go_int kk339_0.2.2.1.2 0 rfl ?_
    exact go_iret kk339_0.2.2.2 e10 (inR_b (Or.inl rfl)) ⟨by decide, by decide⟩ rfl
  · refine ge_ite (fun hE9 => ?_) (fun _ => ?_)
    · subst hE9
      refine ge_catch rfl kk339_0.2.1.1.2 rfl (loc2 := [some (sR v0), some (sI v1), some (sR v2), none]) rfl ?_
      refine go_int kk339_0.2.1.2 1 rfl ?_
      exact go_iret kk339_0.2.2.1.1 e6 (inR_b (Or.inr rfl)) ⟨by decide, by decide⟩ rfl
    exact ge_none
theorem tbC_adopters_32 {Φ : ev_P} {d : Nat} (hd : 2 ≤ d) {g : gH} (hg : HR g) {v0 v2 v4 v5 : Int} (hK0 : kd v0 = 6) (h2 : RfR v2) (h4 : RfR v4) (h5 : InR v5) {X32 : Int → Int → Option (Nat × Int)} (HX32 : ∀ (v3 : Int) (h3 : InR v3) (v6 : Int) (h6 : InR v6) (u1 : Option ev_V) (w1 : nwo u1) (u7 : Option ev_V) (w7 : nwo u7), Go Φ pr_P (fQ g) 1 (X32 v3 v6) d pr_m49 32 [some (sR v0), u1, some (sR v2), some (sI v3), some (sR v4), some (sI v5), some (sI v6), u7] [] g 2 12) : ∀ (v3 : Int) (h3 : InR v3) (v6 : Int) (h6 : InR v6) (u1 : Option ev_V) (w1 : nwo u1) (u7 : Option ev_V) (w7 : nwo u7), Go Φ pr_P (fQ g) 1 (bC_adopters_32 g v0 v2 v4 v5 X32 v3 v6) d pr_m49 32 [some (sR v0), u1, some (sR v2), some (sI v3), some (sR v4), some (sI v5), some (sI v6), u7] [] g 2 12 := by
  intro v3 h3 v6 h6 u1 w1 u7 w7
  unfold bC_adopters_32
  refine go_iload kk49_0.2.1.1.1.1.1 rfl ?_
  refine go_iload kk49_0.2.1.1.1.1.2 rfl ?_
  refine go_cmlt kk49_0.2.1.1.1.2 h6 h5 (fun c23 => ?_) (fun c24 => ?_)
  · refine go_aload kk49_0.2.1.1.2.1 rfl ?_
    refine go_iload kk49_0.2.1.1.2.2 rfl ?_
    refine go_ck (fun q26 => ?_)
    refine go_pald kk49_0.2.1.2.1.1 hg q26 (fun r25 => ?_)
    refine go_astore kk49_0.2.1.2.1.2 rfl (loc2 := [some (sR v0), u1, some (sR v2), some (sI v3), some (sR v4), some (sI v5), some (sI v6), some (sR (g v4 v6))]) rfl ?_
    refine go_aload kk49_0.2.1.2.2.1 rfl ?_
    refine go_getR (bI := 0) kk49_0.2.1.2.2.2 hg hK0 (by decide) rfl rfl (fun r27 => ?_)
    refine go_aload kk49_0.2.2.1.1.1.1 rfl ?_
    refine go_aload kk49_0.2.2.1.1.1.2 rfl ?_
    refine go_ck (fun q28 => ?_)
    refine go_callP3 kk49_0.2.2.1.1.2 rfl rfl rfl ⟨by decide, _, rfl, q28⟩ ⟨by decide, by decide⟩ (by omega) (tfT_canAdopt (by omega) hg q28  r25 h2) (fun y29 r30 => ?_)
    refine go_ifeq kk49_0.2.2.1.2.1 (inR_b r30) (fun c33 => ?_) (fun c34 => ?_)
    · refine go_iinc kk49_0.2.2.2.1.1 rfl rfl 1 rfl (loc2 := [some (sR v0), u1, some (sR v2), some (sI v3), some (sR v4), some (sI v5), some (sI (w32 (v6 + 1))), some (sR (g v4 v6))]) rfl ?_
      refine go_goto kk49_0.2.2.2.1.2 ?_
      exact HX32 v3 h3 (w32 (v6 + 1)) (inR_w32 _) u1 w1 (some (sR (g v4 v6))) rfl
    · refine go_iinc kk49_0.2.2.1.2.2 rfl rfl 1 rfl (loc2 := [some (sR v0), u1, some (sR v2), some (sI (w32 (v3 + 1))), some (sR v4), some (sI v5), some (sI v6), some (sR (g v4 v6))]) rfl ?_
      refine go_iinc kk49_0.2.2.2.1.1 rfl rfl 1 rfl (loc2 := [some (sR v0), u1, some (sR v2), some (sI (w32 (v3 + 1))), some (sR v4), some (sI v5), some (sI (w32 (v6 + 1))), some (sR (g v4 v6))]) rfl ?_
      refine go_goto kk49_0.2.2.2.1.2 ?_
      exact HX32 (w32 (v3 + 1)) (inR_w32 _) (w32 (v6 + 1)) (inR_w32 _) u1 w1 (some (sR (g v4 v6))) rfl
  · refine go_iload kk49_0.2.2.2.2.1 rfl ?_
    exact go_iret kk49_0.2.2.2.2.2 hg h3 ⟨by decide, by decide⟩ rfl
theorem tlC_adopters_32 {Φ : ev_P} {d : Nat} (hd : 2 ≤ d) {g : gH} (hg : HR g) {v0 v2 v4 v5 : Int} (hK0 : kd v0 = 6) (h2 : RfR v2) (h4 : RfR v4) (h5 : InR v5) : ∀ n : Nat, ∀ (v3 : Int) (h3 : InR v3) (v6 : Int) (h6 : InR v6) (u1 : Option ev_V) (w1 : nwo u1) (u7 : Option ev_V) (w7 : nwo u7), Go Φ pr_P (fQ g) 1 (lC_adopters_32 g v0 v2 v4 v5 n v3 v6) d pr_m49 32 [some (sR v0), u1, some (sR v2), some (sI v3), some (sR v4), some (sI v5), some (sI v6), u7] [] g 2 12 := by
  intro n
  induction n with
  | zero => intros; exact go_none
  | succ n ih => exact tbC_adopters_32 hd hg hK0 h2 h4 h5 ih
theorem tfC_adopters {Φ : ev_P} {d : Nat} (hd : 2 ≤ d) {g : gH} (hg : HR g) {v0 v1 : Int} (hK0 : kd v0 = 6) (h1 : InR v1) : Go Φ pr_P (fQ g) 1 (fC_adopters g v0 v1) d (pr_P 49) 0 (ev_loc (pr_P 49).1 [(sR v0), (sI v1)]) [] g 0 0 := by
  show Go Φ pr_P (fQ g) 1 (fC_adopters g v0 v1) d pr_m49 0 [some (sR v0), some (sI v1), none, none, none, none, none, none] [] g 0 0
  unfold fC_adopters
  refine go_aload kk49_0.1.1.1.1.1.1 rfl ?_
  refine go_iload kk49_0.1.1.1.1.1.2 rfl ?_
  refine go_callQ2 kk49_0.1.1.1.1.2 rfl rfl rfl ⟨by decide, _, rfl, hK0⟩ ⟨by decide, by decide⟩ (by omega) (tfC_named (by omega) hg hK0  h1) (fun y1 r2 => ?_) (fun e5 E6 => ge_prop rfl ⟨by decide, by decide⟩ e5 rfl)
  refine go_astore kk49_0.1.1.1.2.1 rfl (loc2 := [some (sR v0), some (sI v1), some (sR y1), none, none, none, none, none]) rfl ?_
  refine go_aload kk49_0.1.1.1.2.2 rfl ?_
  refine go_ck (fun q7 => ?_)
  refine go_callP3 kk49_0.1.1.2.1.1 rfl rfl rfl ⟨by decide, _, rfl, q7⟩ ⟨by decide, by decide⟩ (by omega) (tfP_isMortal (by omega) hg q7 ) (fun y8 r9 => ?_)
  refine go_callQ0 kk49_0.1.1.2.1.2 rfl rfl rfl trivial ⟨by decide, by decide⟩ (by omega) (tfC_checkState (by omega) hg  r9) (fun y12 => ?_) (fun e16 E17 => ge_prop rfl ⟨by decide, by decide⟩ e16 rfl)
  refine go_int kk49_0.1.1.2.2.1 0 rfl ?_
  refine go_istore kk49_0.1.1.2.2.2 rfl (loc2 := [some (sR v0), some (sI v1), some (sR y1), some (sI 0), none, none, none, none]) rfl ?_
  refine go_aload kk49_0.1.2.1.1.1.1 rfl ?_
  refine go_getR (bI := 0) kk49_0.1.2.1.1.1.2 hg hK0 (by decide) rfl rfl (fun r18 => ?_)
  refine go_ck (fun q19 => ?_)
  refine go_getR (bI := 1) kk49_0.1.2.1.1.2 hg q19 (by decide) rfl rfl (fun r20 => ?_)
  refine go_astore kk49_0.1.2.1.2.1 rfl (loc2 := [some (sR v0), some (sI v1), some (sR y1), some (sI 0), some (sR (g (g v0 0) 1)), none, none, none]) rfl ?_
  refine go_aload kk49_0.1.2.1.2.2 rfl ?_
  refine go_ck (fun q22 => ?_)
  refine go_alen kk49_0.1.2.2.1.1 (ka_24 q22) (fun r21 => ?_)
  refine go_istore kk49_0.1.2.2.1.2 rfl (loc2 := [some (sR v0), some (sI v1), some (sR y1), some (sI 0), some (sR (g (g v0 0) 1)), some (sI (sz (g (g v0 0) 1))), none, none]) rfl ?_
  refine go_int kk49_0.1.2.2.2.1 0 rfl ?_
  refine go_istore kk49_0.1.2.2.2.2 rfl (loc2 := [some (sR v0), some (sI v1), some (sR y1), some (sI 0), some (sR (g (g v0 0) 1)), some (sI (sz (g (g v0 0) 1))), some (sI 0), none]) rfl ?_
  exact tlC_adopters_32 hd hg hK0 r2 r20 r21 fu 0 (inR_b (Or.inl rfl)) 0 (inR_b (Or.inl rfl)) (some (sI v1)) rfl none rfl
theorem tfW_adopters {Φ : ev_P} {d : Nat} (hd : 3 ≤ d) {g : gH} (hg : HR g) {v0 v1 v2 : Int} (h0 : RfR v0) (h1 : InR v1) (h2 : RfR v2) : Go Φ pr_P fN 1 (fW_adopters g v0 v1 v2) d (pr_P 340) 0 (ev_loc (pr_P 340).1 [(sR v0), (sI v1), (sR v2)]) [] g 0 0 := by
  show Go Φ pr_P fN 1 (fW_adopters g v0 v1 v2) d pr_m340 0 [some (sR v0), some (sI v1), some (sR v2), none] [] g 0 0
  unfold fW_adopters
  refine go_aload kk340_0.1.1.1.1 rfl ?_
  refine go_int kk340_0.1.1.1.2 0 rfl ?_
  refine go_aload kk340_0.1.1.2.1 rfl ?_
  refine go_iload kk340_0.1.1.2.2 rfl ?_
  refine go_ck (fun q1 => ?_)
  refine go_callQ1 kk340_0.1.2.1.1 rfl rfl rfl ⟨by decide, _, rfl, q1⟩ ⟨by decide, by decide⟩ (by omega) (tfC_adopters (by omega) hg q1  h1) (fun y2 r3 => ?_) (fun e6 E7 => ?_)
  · refine go_i2l kk340_0.1.2.1.2 r3 ?_
    refine go_ck (fun q8 => ?_)
    refine go_last kk340_0.1.2.2.1 hg q8 (inL_R r3) (fun g9 e10 => ?_)
    refine go_goto kk340_0.1.2.2.2 ?_
    refine go_int kk340_0.2.2.2.1 0 rfl ?_
    exact go_iret kk340_0.2.2.2.2 e10 (inR_b (Or.inl rfl)) ⟨by decide, by decide⟩ rfl
  · refine ge_ite (fun hE9 => ?_) (fun _ => ?_)
    · subst hE9
      refine ge_catch rfl kk340_0.2.1.1.1 rfl (loc2 := [some (sR v0), some (sI v1), some (sR v2), none]) rfl ?_
      refine go_int kk340_0.2.1.1.2 1 rfl ?_
      exact go_iret kk340_0.2.1.2.1 e6 (inR_b (Or.inr rfl)) ⟨by decide, by decide⟩ rfl
    refine ge_ite (fun hE9 => ?_) (fun _ => ?_)
    · subst hE9
      refine ge_catch rfl kk340_0.2.1.2.2 rfl (loc2 := [some (sR v0), some (sI v1), some (sR v2), none]) rfl ?_
      refine go_int kk340_0.2.2.1.1 2 rfl ?_
      exact go_iret kk340_0.2.2.1.2 e6 (inR_of (by decide)) ⟨by decide, by decide⟩ rfl
    exact ge_none
theorem tfC_betterCode {Φ : ev_P} {d : Nat} (hd : 6 ≤ d) {g : gH} (hg : HR g) {v0 v1 : Int} (hK0 : kd v0 = 6) (h1 : InR v1) : Go Φ pr_P fT 1 (fC_betterCode g v0 v1) d (pr_P 50) 0 (ev_loc (pr_P 50).1 [(sR v0), (sI v1)]) [] g 0 0 := by
  show Go Φ pr_P fT 1 (fC_betterCode g v0 v1) d pr_m50 0 [some (sR v0), some (sI v1)] [] g 0 0
  unfold fC_betterCode
  refine go_aload kk50_0.1.1.1.1.1 rfl ?_
  refine go_iload kk50_0.1.1.1.1.2 rfl ?_
  refine go_callQ2 kk50_0.1.1.1.2 rfl rfl rfl ⟨by decide, _, rfl, hK0⟩ ⟨by decide, by decide⟩ (by omega) (tfC_named (by omega) hg hK0  h1) (fun y1 r2 => ?_) (fun e5 E6 => ge_prop rfl ⟨by decide, by decide⟩ e5 rfl)
  refine go_ck (fun q7 => ?_)
  refine go_callP3 kk50_0.1.1.2.1 rfl rfl rfl ⟨by decide, _, rfl, q7⟩ ⟨by decide, by decide⟩ (by omega) (tfP_isMortal (by omega) hg q7 ) (fun y8 r9 => ?_)
  refine go_callQ0 kk50_0.1.1.2.2 rfl rfl rfl trivial ⟨by decide, by decide⟩ (by omega) (tfC_checkState (by omega) hg  r9) (fun y12 => ?_) (fun e16 E17 => ge_prop rfl ⟨by decide, by decide⟩ e16 rfl)
  refine go_aload kk50_0.1.2.1.1 rfl ?_
  refine go_iload kk50_0.1.2.1.2 rfl ?_
  refine go_int kk50_0.1.2.2.1 1 rfl ?_
  refine go_callN1 kk50_0.1.2.2.2 rfl rfl rfl ⟨by decide, _, rfl, hK0⟩ ⟨by decide, by decide⟩ (by omega) (tfC_exitOfCopy (by omega) hg hK0  h1 (inR_b (Or.inr rfl))) (fun y18 g20 r19 e21 => ?_)
  refine go_aload kk50_0.2.1.1.1.1 rfl ?_
  refine go_iload kk50_0.2.1.1.1.2 rfl ?_
  refine go_int kk50_0.2.1.1.2 0 rfl ?_
  refine go_callN1 kk50_0.2.1.2.1 rfl rfl rfl ⟨by decide, _, rfl, hK0⟩ ⟨by decide, by decide⟩ (by omega) (tfC_exitOfCopy (by omega) e21 hK0  h1 (inR_b (Or.inl rfl))) (fun y22 g24 r23 e25 => ?_)
  refine go_cmlt kk50_0.2.1.2.2 r19 r23 (fun c26 => ?_) (fun c27 => ?_)
  · refine go_int kk50_0.2.2.1.1 1 rfl ?_
    refine go_goto kk50_0.2.2.1.2 ?_
    exact go_iret kk50_0.2.2.2.2 e25 (inR_b (Or.inr rfl)) ⟨by decide, by decide⟩ rfl
  · refine go_int kk50_0.2.2.2.1 0 rfl ?_
    exact go_iret kk50_0.2.2.2.2 e25 (inR_b (Or.inl rfl)) ⟨by decide, by decide⟩ rfl
theorem tfW_betterCode {Φ : ev_P} {d : Nat} (hd : 7 ≤ d) {g : gH} (hg : HR g) {v0 v1 v2 : Int} (h0 : RfR v0) (h1 : InR v1) (h2 : RfR v2) : Go Φ pr_P fN 1 (fW_betterCode g v0 v1 v2) d (pr_P 341) 0 (ev_loc (pr_P 341).1 [(sR v0), (sI v1), (sR v2)]) [] g 0 0 := by
  show Go Φ pr_P fN 1 (fW_betterCode g v0 v1 v2) d pr_m341 0 [some (sR v0), some (sI v1), some (sR v2), none] [] g 0 0
  unfold fW_betterCode
  refine go_aload kk341_0.1.1.1.1 rfl ?_
  refine go_int kk341_0.1.1.1.2 0 rfl ?_
  refine go_aload kk341_0.1.1.2.1 rfl ?_
  refine go_iload kk341_0.1.1.2.2 rfl ?_
  refine go_ck (fun q1 => ?_)
  refine go_callT1 kk341_0.1.2.1.1 rfl rfl rfl ⟨by decide, _, rfl, q1⟩ ⟨by decide, by decide⟩ (by omega) (tfC_betterCode (by omega) hg q1  h1) (fun y2 g4 r3 e5 => ?_) (fun E7 g4 e6 => ?_)
  · refine go_i2l kk341_0.1.2.1.2 r3 ?_
    refine go_ck (fun q8 => ?_)
    refine go_last kk341_0.1.2.2.1 e5 q8 (inL_R r3) (fun g9 e10 => ?_)
    refine go_goto kk341_0.1.2.2.2 ?_
    refine go_int kk341_0.2.2.2.1 0 rfl ?_
    exact go_iret kk341_0.2.2.2.2 e10 (inR_b (Or.inl rfl)) ⟨by decide, by decide⟩ rfl
  · refine ge_ite (fun hE9 => ?_) (fun _ => ?_)
    · subst hE9
      refine ge_catch rfl kk341_0.2.1.1.1 rfl (loc2 := [some (sR v0), some (sI v1), some (sR v2), none]) rfl ?_
      refine go_int kk341_0.2.1.1.2 1 rfl ?_
      exact go_iret kk341_0.2.1.2.1 e6 (inR_b (Or.inr rfl)) ⟨by decide, by decide⟩ rfl
    refine ge_ite (fun hE9 => ?_) (fun _ => ?_)
    · subst hE9
      refine ge_catch rfl kk341_0.2.1.2.2 rfl (loc2 := [some (sR v0), some (sI v1), some (sR v2), none]) rfl ?_
      refine go_int kk341_0.2.2.1.1 2 rfl ?_
      exact go_iret kk341_0.2.2.1.2 e6 (inR_of (by decide)) ⟨by decide, by decide⟩ rfl
    exact ge_none
theorem tfC_wouldRun {Φ : ev_P} {d : Nat} (hd : 6 ≤ d) {g : gH} (hg : HR g) {v0 v1 v2 : Int} (hK0 : kd v0 = 6) (h1 : InR v1) (h2 : InR v2) : Go Φ pr_P fT 1 (fC_wouldRun g v0 v1 v2) d (pr_P 51) 0 (ev_loc (pr_P 51).1 [(sR v0), (sI v1), (sI v2)]) [] g 0 0 := by
  show Go Φ pr_P fT 1 (fC_wouldRun g v0 v1 v2) d pr_m51 0 [some (sR v0), some (sI v1), some (sI v2)] [] g 0 0
  unfold fC_wouldRun
  refine go_iload kk51_0.1.1.1.1.1 rfl ?_
  refine go_iload kk51_0.1.1.1.1.2 rfl ?_
  refine go_callQ0 kk51_0.1.1.1.2 rfl rfl rfl trivial ⟨by decide, by decide⟩ (by omega) (tfC_checkKill (by omega) hg  h1 h2) (fun y1 => ?_) (fun e5 E6 => ge_prop rfl ⟨by decide, by decide⟩ e5 rfl)
  refine go_aload kk51_0.1.1.2.1 rfl ?_
  refine go_getR (bI := 1) kk51_0.1.1.2.2 hg hK0 (by decide) rfl rfl (fun r7 => ?_)
  refine go_aload kk51_0.1.2.1.1.1 rfl ?_
  refine go_getR (bI := 0) kk51_0.1.2.1.1.2 hg hK0 (by decide) rfl rfl (fun r8 => ?_)
  refine go_ck (fun q9 => ?_)
  refine go_callN0 kk51_0.1.2.1.2 rfl rfl rfl ⟨by decide, _, rfl, q9⟩ ⟨by decide, by decide⟩ (by omega) (tfT_take (by omega) hg q9  r8) (fun y10 g12 e13 => ?_)
  refine go_aload kk51_0.1.2.2.1 rfl ?_
  refine go_getR (bI := 1) kk51_0.1.2.2.2 e13 hK0 (by decide) rfl rfl (fun r14 => ?_)
  refine go_iload kk51_0.2.1.1.1.1 rfl ?_
  refine go_iload kk51_0.2.1.1.1.2 rfl ?_
  refine go_ck (fun q15 => ?_)
  refine go_callN1 kk51_0.2.1.1.2 rfl rfl rfl ⟨by decide, _, rfl, q15⟩ ⟨by decide, by decide⟩ (by omega) (tfT_killGroup (by omega) e13 q15  h1 h2) (fun y16 g18 r17 e19 => ?_)
  refine go_popI kk51_0.2.1.2.1 ?_
  refine go_aload kk51_0.2.1.2.2 rfl ?_
  refine go_getR (bI := 1) kk51_0.2.2.1.1 e19 hK0 (by decide) rfl rfl (fun r20 => ?_)
  refine go_int kk51_0.2.2.1.2 0 rfl ?_
  refine go_ck (fun q21 => ?_)
  refine go_callP1 kk51_0.2.2.2.1 rfl rfl rfl ⟨by decide, _, rfl, q21⟩ ⟨by decide, by decide⟩ (by omega) (tfT_countInState (by omega) e19 q21  (inR_b (Or.inl rfl))) (fun y22 r23 => ?_)
  exact go_iret kk51_0.2.2.2.2 e19 r23 ⟨by decide, by decide⟩ rfl
theorem tfW_wouldRun {Φ : ev_P} {d : Nat} (hd : 7 ≤ d) {g : gH} (hg : HR g) {v0 v1 v2 v3 : Int} (h0 : RfR v0) (h1 : InR v1) (h2 : InR v2) (h3 : RfR v3) : Go Φ pr_P fN 1 (fW_wouldRun g v0 v1 v2 v3) d (pr_P 342) 0 (ev_loc (pr_P 342).1 [(sR v0), (sI v1), (sI v2), (sR v3)]) [] g 0 0 := by
  show Go Φ pr_P fN 1 (fW_wouldRun g v0 v1 v2 v3) d pr_m342 0 [some (sR v0), some (sI v1), some (sI v2), some (sR v3), none] [] g 0 0
  unfold fW_wouldRun
  refine go_aload kk342_0.1.1.1.1 rfl ?_
  refine go_int kk342_0.1.1.1.2 0 rfl ?_
  refine go_aload kk342_0.1.1.2.1 rfl ?_
  refine go_iload kk342_0.1.1.2.2 rfl ?_
  refine go_iload kk342_0.1.2.1.1 rfl ?_
  refine go_ck (fun q1 => ?_)
  refine go_callT1 kk342_0.1.2.1.2 rfl rfl rfl ⟨by decide, _, rfl, q1⟩ ⟨by decide, by decide⟩ (by omega) (tfC_wouldRun (by omega) hg q1  h1 h2) (fun y2 g4 r3 e5 => ?_) (fun E7 g4 e6 => ?_)
  · refine go_i2l kk342_0.1.2.2 r3 ?_
    refine go_ck (fun q8 => ?_)
    refine go_last kk342_0.2.1.1.1 e5 q8 (inL_R r3) (fun g9 e10 => ?_)
    refine go_goto kk342_0.2.1.1.2 ?_
    refine go_int kk342_0.2.2.1.2 0 rfl ?_
    exact go_iret kk342_0.2.2.2 e10 (inR_b (Or.inl rfl)) ⟨by decide, by decide⟩ rfl
  · refine ge_ite (fun hE9 => ?_) (fun _ => ?_)
    · subst hE9
      refine ge_catch rfl kk342_0.2.1.2.1 rfl (loc2 := [some (sR v0), some (sI v1), some (sI v2), some (sR v3), none]) rfl ?_
      refine go_int kk342_0.2.1.2.2 1 rfl ?_
      exact go_iret kk342_0.2.2.1.1 e6 (inR_b (Or.inr rfl)) ⟨by decide, by decide⟩ rfl
    exact ge_none
theorem tjC_apart_35 {Φ : ev_P} {d : Nat} (hd : 2 ≤ d) {g : gH} (hg : HR g) {v0 v3 v4 : Int} (hK0 : kd v0 = 6) (h3 : RfR v3) (h4 : RfR v4) {s0 : Int} (z0 : B01 s0) (u1 : Option ev_V) (w1 : nwo u1) (u2 : Option ev_V) (w2 : nwo u2) : Go Φ pr_P (fQ g) 1 (jC_apart_35 g v0 v3 v4 s0 ) d pr_m53 35 [some (sR v0), u1, u2, some (sR v3), some (sR v4)] [(sI s0)] g 2 12 := by
  unfold jC_apart_35
  refine go_callQ0 kk53_0.2.1.1.1.1.2 rfl rfl rfl trivial ⟨by decide, by decide⟩ (by omega) (tfC_checkState (by omega) hg  z0) (fun y21 => ?_) (fun e25 E26 => ge_prop rfl ⟨by decide, by decide⟩ e25 rfl)
  refine go_aload kk53_0.2.1.1.1.2 rfl ?_
  refine go_ck (fun q27 => ?_)
  refine go_callP1 kk53_0.2.1.1.2.1 rfl rfl rfl ⟨by decide, _, rfl, q27⟩ ⟨by decide, by decide⟩ (by omega) (tfP_countAbove (by omega) hg q27 ) (fun y28 r29 => ?_)
  refine go_aload kk53_0.2.1.1.2.2 rfl ?_
  refine go_ck (fun q32 => ?_)
  refine go_callP1 kk53_0.2.1.2.1.1 rfl rfl rfl ⟨by decide, _, rfl, q32⟩ ⟨by decide, by decide⟩ (by omega) (tfP_countAbove (by omega) hg q32 ) (fun y33 r34 => ?_)
  refine go_iadd kk53_0.2.1.2.1.2 ?_
  refine go_int kk53_0.2.1.2.2.1 2 rfl ?_
  refine go_aload kk53_0.2.1.2.2.2 rfl ?_
  refine go_getR (bI := 0) kk53_0.2.2.1.1.1 hg hK0 (by decide) rfl rfl (fun r37 => ?_)
  refine go_aload kk53_0.2.2.1.1.2 rfl ?_
  refine go_aload kk53_0.2.2.1.2.1 rfl ?_
  refine go_ck (fun q38 => ?_)
  refine go_callP2 kk53_0.2.2.1.2.2 rfl rfl rfl ⟨by decide, _, rfl, q38⟩ ⟨by decide, by decide⟩ (by omega) (tfT_lowestOver (by omega) hg q38  h3 h4) (fun y39 r40 => ?_)
  refine go_ck (fun q43 => ?_)
  refine go_callP1 kk53_0.2.2.2.1.1 rfl rfl rfl ⟨by decide, _, rfl, q43⟩ ⟨by decide, by decide⟩ (by omega) (tfP_countAbove (by omega) hg q43 ) (fun y44 r45 => ?_)
  refine go_ibin kk53_0.2.2.2.1.2 ?_
  refine go_isub kk53_0.2.2.2.2.1 ?_
  exact go_iret kk53_0.2.2.2.2.2 hg (inR_w32 _) ⟨by decide, by decide⟩ rfl
theorem tjC_apart_34 {Φ : ev_P} {d : Nat} (hd : 2 ≤ d) {g : gH} (hg : HR g) {v0 v3 v4 : Int} (hK0 : kd v0 = 6) (h3 : RfR v3) (h4 : RfR v4) (u1 : Option ev_V) (w1 : nwo u1) (u2 : Option ev_V) (w2 : nwo u2) : Go Φ pr_P (fQ g) 1 (jC_apart_34 g v0 v3 v4 ) d pr_m53 34 [some (sR v0), u1, u2, some (sR v3), some (sR v4)] [] g 2 12 := by
  unfold jC_apart_34
  refine go_int kk53_0.2.1.1.1.1.1 0 rfl ?_
  exact tjC_apart_35 hd hg hK0 h3 h4 (Or.inl rfl) u1 w1 u2 w2
theorem tfC_apart {Φ : ev_P} {d : Nat} (hd : 2 ≤ d) {g : gH} (hg : HR g) {v0 v1 v2 : Int} (hK0 : kd v0 = 6) (h1 : InR v1) (h2 : InR v2) : Go Φ pr_P (fQ g) 1 (fC_apart g v0 v1 v2) d (pr_P 53) 0 (ev_loc (pr_P 53).1 [(sR v0), (sI v1), (sI v2)]) [] g 0 0 := by
  show Go Φ pr_P (fQ g) 1 (fC_apart g v0 v1 v2) d pr_m53 0 [some (sR v0), some (sI v1), some (sI v2), none, none] [] g 0 0
  unfold fC_apart
  refine go_aload kk53_0.1.1.1.1.1.1 rfl ?_
  refine go_iload kk53_0.1.1.1.1.1.2 rfl ?_
  refine go_callQ2 kk53_0.1.1.1.1.2 rfl rfl rfl ⟨by decide, _, rfl, hK0⟩ ⟨by decide, by decide⟩ (by omega) (tfC_named (by omega) hg hK0  h1) (fun y1 r2 => ?_) (fun e5 E6 => ge_prop rfl ⟨by decide, by decide⟩ e5 rfl)
  refine go_astore kk53_0.1.1.1.2.1 rfl (loc2 := [some (sR v0), some (sI v1), some (sI v2), some (sR y1), none]) rfl ?_
  refine go_aload kk53_0.1.1.1.2.2 rfl ?_
  refine go_iload kk53_0.1.1.2.1.1 rfl ?_
  refine go_callQ2 kk53_0.1.1.2.1.2 rfl rfl rfl ⟨by decide, _, rfl, hK0⟩ ⟨by decide, by decide⟩ (by omega) (tfC_named (by omega) hg hK0  h2) (fun y7 r8 => ?_) (fun e11 E12 => ge_prop rfl ⟨by decide, by decide⟩ e11 rfl)
  refine go_astore kk53_0.1.1.2.2.1 rfl (loc2 := [some (sR v0), some (sI v1), some (sI v2), some (sR y1), some (sR y7)]) rfl ?_
  refine go_aload kk53_0.1.1.2.2.2 rfl ?_
  refine go_ck (fun q13 => ?_)
  refine go_getI (bI := 1) kk53_0.1.2.1.1.1.1 hg q13 (by decide) rfl rfl (fun r14 => ?_)
  refine go_int kk53_0.1.2.1.1.1.2 2 rfl ?_
  refine go_cmeq kk53_0.1.2.1.1.2 r14 (inR_of (by decide)) (fun c15 => ?_) (fun c16 => ?_)
  · exact tjC_apart_34 hd hg hK0 r2 r8 (some (sI v1)) rfl (some (sI v2)) rfl
  · refine go_aload kk53_0.1.2.1.2.1 rfl ?_
    refine go_ck (fun q17 => ?_)
    refine go_getI (bI := 1) kk53_0.1.2.1.2.2 hg q17 (by decide) rfl rfl (fun r18 => ?_)
    refine go_int kk53_0.1.2.2.1.1 2 rfl ?_
    refine go_cmeq kk53_0.1.2.2.1.2 r18 (inR_of (by decide)) (fun c19 => ?_) (fun c20 => ?_)
    · exact tjC_apart_34 hd hg hK0 r2 r8 (some (sI v1)) rfl (some (sI v2)) rfl
    · refine go_int kk53_0.1.2.2.2.1 1 rfl ?_
      refine go_goto kk53_0.1.2.2.2.2 ?_
      exact tjC_apart_35 hd hg hK0 r2 r8 (Or.inr rfl) (some (sI v1)) rfl (some (sI v2)) rfl
theorem tfW_apart {Φ : ev_P} {d : Nat} (hd : 3 ≤ d) {g : gH} (hg : HR g) {v0 v1 v2 v3 : Int} (h0 : RfR v0) (h1 : InR v1) (h2 : InR v2) (h3 : RfR v3) : Go Φ pr_P fN 1 (fW_apart g v0 v1 v2 v3) d (pr_P 343) 0 (ev_loc (pr_P 343).1 [(sR v0), (sI v1), (sI v2), (sR v3)]) [] g 0 0 := by
  show Go Φ pr_P fN 1 (fW_apart g v0 v1 v2 v3) d pr_m343 0 [some (sR v0), some (sI v1), some (sI v2), some (sR v3), none] [] g 0 0
  unfold fW_apart
  refine go_aload kk343_0.1.1.1.1.1 rfl ?_
  refine go_int kk343_0.1.1.1.1.2 0 rfl ?_
  refine go_aload kk343_0.1.1.1.2 rfl ?_
  refine go_iload kk343_0.1.1.2.1 rfl ?_
  refine go_iload kk343_0.1.1.2.2 rfl ?_
  refine go_ck (fun q1 => ?_)
  refine go_callQ1 kk343_0.1.2.1.1 rfl rfl rfl ⟨by decide, _, rfl, q1⟩ ⟨by decide, by decide⟩ (by omega) (tfC_apart (by omega) hg q1  h1 h2) (fun y2 r3 => ?_) (fun e6 E7 => ?_)
  · refine go_i2l kk343_0.1.2.1.2 r3 ?_
    refine go_ck (fun q8 => ?_)
    refine go_last kk343_0.1.2.2.1 hg q8 (inL_R r3) (fun g9 e10 => ?_)
    refine go_goto kk343_0.1.2.2.2 ?_
    refine go_int kk343_0.2.2.2.1 0 rfl ?_
    exact go_iret kk343_0.2.2.2.2 e10 (inR_b (Or.inl rfl)) ⟨by decide, by decide⟩ rfl
  · refine ge_ite (fun hE9 => ?_) (fun _ => ?_)
    · subst hE9
      refine ge_catch rfl kk343_0.2.1.1.1 rfl (loc2 := [some (sR v0), some (sI v1), some (sI v2), some (sR v3), none]) rfl ?_
      refine go_int kk343_0.2.1.1.2 1 rfl ?_
      exact go_iret kk343_0.2.1.2.1 e6 (inR_b (Or.inr rfl)) ⟨by decide, by decide⟩ rfl
    refine ge_ite (fun hE9 => ?_) (fun _ => ?_)
    · subst hE9
      refine ge_catch rfl kk343_0.2.1.2.2 rfl (loc2 := [some (sR v0), some (sI v1), some (sI v2), some (sR v3), none]) rfl ?_
      refine go_int kk343_0.2.2.1.1 2 rfl ?_
      exact go_iret kk343_0.2.2.1.2 e6 (inR_of (by decide)) ⟨by decide, by decide⟩ rfl
    exact ge_none
theorem tbT_loseSurplus_5 {Φ : ev_P} {d : Nat} (hd : 4 ≤ d) {v0 v1 : Int} (hK0 : kd v0 = 5) (h1 : RfR v1) {X5 : Int → Int → gH → Option (Int × gH)} (HX5 : ∀ (v2 : Int) (h2 : InR v2) (v3 : Int) (h3 : InR v3) (g : gH) (hg : HR g), Go Φ pr_P fN 1 (X5 v2 v3 g) d pr_m301 5 [some (sR v0), some (sR v1), some (sI v2), some (sI v3)] [] g 0 0) : ∀ (v2 : Int) (h2 : InR v2) (v3 : Int) (h3 : InR v3) (g : gH) (hg : HR g), Go Φ pr_P fN 1 (bT_loseSurplus_5 v0 v1 X5 v2 v3 g) d pr_m301 5 [some (sR v0), some (sR v1), some (sI v2), some (sI v3)] [] g 0 0 := by
  intro v2 h2 v3 h3 g hg
  unfold bT_loseSurplus_5
  refine go_iload kk301_0.1.1.1.2.2 rfl ?_
  refine go_iflt kk301_0.1.1.2.1.1 h3 (fun c1 => ?_) (fun c2 => ?_)
  · refine go_iload kk301_0.2.2.2.2.1 rfl ?_
    exact go_iret kk301_0.2.2.2.2.2 hg h2 ⟨Nat.zero_le _, Nat.zero_le _⟩ rfl
  · refine go_aload kk301_0.1.1.2.1.2 rfl ?_
    refine go_ck (fun q3 => ?_)
    refine go_getI (bI := 3) kk301_0.1.1.2.2.1 hg q3 (by decide) rfl rfl (fun r4 => ?_)
    refine go_aload kk301_0.1.1.2.2.2 rfl ?_
    refine go_getI (bI := 4) kk301_0.1.2.1.1.1.1 hg q3 (by decide) rfl rfl (fun r5 => ?_)
    refine go_cmgt kk301_0.1.2.1.1.1.2 r4 r5 (fun c6 => ?_) (fun c7 => ?_)
    · refine go_aload kk301_0.1.2.1.1.2 rfl ?_
      refine go_getR (bI := 1) kk301_0.1.2.1.2.1 hg hK0 (by decide) rfl rfl (fun r8 => ?_)
      refine go_iload kk301_0.1.2.1.2.2 rfl ?_
      refine go_ck (fun q10 => ?_)
      refine go_pald kk301_0.1.2.2.1.1 hg q10 (fun r9 => ?_)
      refine go_aload kk301_0.1.2.2.1.2 rfl ?_
      refine go_ck (fun q11 => ?_)
      refine go_callP3 kk301_0.1.2.2.2.1 rfl rfl rfl ⟨by decide, _, rfl, q11⟩ ⟨Nat.zero_le _, Nat.zero_le _⟩ (by omega) (tfP_isRunningChildOf (by omega) hg q11  h1) (fun y12 r13 => ?_)
      refine go_ifeq kk301_0.1.2.2.2.2 (inR_b r13) (fun c16 => ?_) (fun c17 => ?_)
      · refine go_iinc kk301_0.2.2.2.1.1 rfl rfl (-1) rfl (loc2 := [some (sR v0), some (sR v1), some (sI v2), some (sI (w32 (v3 + (-1))))]) rfl ?_
        refine go_goto kk301_0.2.2.2.1.2 ?_
        exact HX5 v2 h2 (w32 (v3 + (-1))) (inR_w32 _) g hg
      · refine go_aload kk301_0.2.1.1.1.1.1 rfl ?_
        refine go_aload kk301_0.2.1.1.1.1.2 rfl ?_
        refine go_getR (bI := 1) kk301_0.2.1.1.1.2 hg hK0 (by decide) rfl rfl (fun r18 => ?_)
        refine go_iload kk301_0.2.1.1.2.1 rfl ?_
        refine go_ck (fun q20 => ?_)
        refine go_pald kk301_0.2.1.1.2.2 hg q20 (fun r19 => ?_)
        refine go_aload kk301_0.2.1.2.1.1 rfl ?_
        refine go_aload kk301_0.2.1.2.1.2 rfl ?_
        refine go_getR (bI := 1) kk301_0.2.1.2.2.1 hg hK0 (by decide) rfl rfl (fun r21 => ?_)
        refine go_iload kk301_0.2.1.2.2.2 rfl ?_
        refine go_ck (fun q23 => ?_)
        refine go_pald kk301_0.2.2.1.1.1 hg q23 (fun r22 => ?_)
        refine go_callP2 kk301_0.2.2.1.1.2 rfl rfl rfl ⟨by decide, _, rfl, hK0⟩ ⟨Nat.zero_le _, Nat.zero_le _⟩ (by omega) (tfT_adopterOf (by omega) hg hK0  r22) (fun y24 r25 => ?_)
        refine go_callN0 kk301_0.2.2.1.2.1 rfl rfl rfl ⟨by decide, _, rfl, hK0⟩ ⟨Nat.zero_le _, Nat.zero_le _⟩ (by omega) (tfT_adopt (by omega) hg hK0  r19 r25) (fun y28 g30 e31 => ?_)
        refine go_iinc kk301_0.2.2.1.2.2 rfl rfl 1 rfl (loc2 := [some (sR v0), some (sR v1), some (sI (w32 (v2 + 1))), some (sI v3)]) rfl ?_
        refine go_iinc kk301_0.2.2.2.1.1 rfl rfl (-1) rfl (loc2 := [some (sR v0), some (sR v1), some (sI (w32 (v2 + 1))), some (sI (w32 (v3 + (-1))))]) rfl ?_
        refine go_goto kk301_0.2.2.2.1.2 ?_
        exact HX5 (w32 (v2 + 1)) (inR_w32 _) (w32 (v3 + (-1))) (inR_w32 _) g30 e31
    · refine go_iinc kk301_0.2.2.2.1.1 rfl rfl (-1) rfl (loc2 := [some (sR v0), some (sR v1), some (sI v2), some (sI (w32 (v3 + (-1))))]) rfl ?_
      refine go_goto kk301_0.2.2.2.1.2 ?_
      exact HX5 v2 h2 (w32 (v3 + (-1))) (inR_w32 _) g hg
theorem tlT_loseSurplus_5 {Φ : ev_P} {d : Nat} (hd : 4 ≤ d) {v0 v1 : Int} (hK0 : kd v0 = 5) (h1 : RfR v1) : ∀ n : Nat, ∀ (v2 : Int) (h2 : InR v2) (v3 : Int) (h3 : InR v3) (g : gH) (hg : HR g), Go Φ pr_P fN 1 (lT_loseSurplus_5 v0 v1 n v2 v3 g) d pr_m301 5 [some (sR v0), some (sR v1), some (sI v2), some (sI v3)] [] g 0 0 := by
  intro n
  induction n with
  | zero => intros; exact go_none
  | succ n ih => exact tbT_loseSurplus_5 hd hK0 h1 ih
theorem tfT_loseSurplus {Φ : ev_P} {d : Nat} (hd : 4 ≤ d) {g : gH} (hg : HR g) {v0 v1 : Int} (hK0 : kd v0 = 5) (h1 : RfR v1) : Go Φ pr_P fN 1 (fT_loseSurplus g v0 v1) d (pr_P 301) 0 (ev_loc (pr_P 301).1 [(sR v0), (sR v1)]) [] g 0 0 := by
  show Go Φ pr_P fN 1 (fT_loseSurplus g v0 v1) d pr_m301 0 [some (sR v0), some (sR v1), none, none] [] g 0 0
  unfold fT_loseSurplus
  refine go_int kk301_0.1.1.1.1.1.1 0 rfl ?_
  refine go_istore kk301_0.1.1.1.1.1.2 rfl (loc2 := [some (sR v0), some (sR v1), some (sI 0), none]) rfl ?_
  refine go_int kk301_0.1.1.1.1.2 39 rfl ?_
  refine go_istore kk301_0.1.1.1.2.1 rfl (loc2 := [some (sR v0), some (sR v1), some (sI 0), some (sI 39)]) rfl ?_
  exact tlT_loseSurplus_5 hd hK0 h1 fu 0 (inR_b (Or.inl rfl)) 39 (inR_of (by decide)) g hg
theorem tfC_relieve {Φ : ev_P} {d : Nat} (hd : 5 ≤ d) {g : gH} (hg : HR g) {v0 v1 : Int} (hK0 : kd v0 = 6) (h1 : InR v1) : Go Φ pr_P fT 1 (fC_relieve g v0 v1) d (pr_P 54) 0 (ev_loc (pr_P 54).1 [(sR v0), (sI v1)]) [] g 0 0 := by
  show Go Φ pr_P fT 1 (fC_relieve g v0 v1) d pr_m54 0 [some (sR v0), some (sI v1), none] [] g 0 0
  unfold fC_relieve
  refine go_aload kk54_0.1.1.1.1.1 rfl ?_
  refine go_iload kk54_0.1.1.1.1.2 rfl ?_
  refine go_callQ2 kk54_0.1.1.1.2 rfl rfl rfl ⟨by decide, _, rfl, hK0⟩ ⟨by decide, by decide⟩ (by omega) (tfC_named (by omega) hg hK0  h1) (fun y1 r2 => ?_) (fun e5 E6 => ge_prop rfl ⟨by decide, by decide⟩ e5 rfl)
  refine go_astore kk54_0.1.1.2.1 rfl (loc2 := [some (sR v0), some (sI v1), some (sR y1)]) rfl ?_
  refine go_aload kk54_0.1.1.2.2 rfl ?_
  refine go_ck (fun q7 => ?_)
  refine go_callP3 kk54_0.1.2.1.1 rfl rfl rfl ⟨by decide, _, rfl, q7⟩ ⟨by decide, by decide⟩ (by omega) (tfP_isMortal (by omega) hg q7 ) (fun y8 r9 => ?_)
  refine go_callQ0 kk54_0.1.2.1.2 rfl rfl rfl trivial ⟨by decide, by decide⟩ (by omega) (tfC_checkState (by omega) hg  r9) (fun y12 => ?_) (fun e16 E17 => ge_prop rfl ⟨by decide, by decide⟩ e16 rfl)
  refine go_aload kk54_0.1.2.2.1 rfl ?_
  refine go_getR (bI := 3) kk54_0.1.2.2.2 hg hK0 (by decide) rfl rfl (fun r18 => ?_)
  refine go_aload kk54_0.2.1.1.1 rfl ?_
  refine go_getR (bI := 0) kk54_0.2.1.1.2 hg hK0 (by decide) rfl rfl (fun r19 => ?_)
  refine go_ck (fun q20 => ?_)
  refine go_callN0 kk54_0.2.1.2.1 rfl rfl rfl ⟨by decide, _, rfl, q20⟩ ⟨by decide, by decide⟩ (by omega) (tfH_push (by omega) hg q20  r19) (fun y21 g23 e24 => ?_)
  refine go_aload kk54_0.2.1.2.2 rfl ?_
  refine go_getR (bI := 0) kk54_0.2.2.1.1 e24 hK0 (by decide) rfl rfl (fun r25 => ?_)
  refine go_aload kk54_0.2.2.1.2 rfl ?_
  refine go_ck (fun q26 => ?_)
  refine go_callN1 kk54_0.2.2.2.1 rfl rfl rfl ⟨by decide, _, rfl, q26⟩ ⟨by decide, by decide⟩ (by omega) (tfT_loseSurplus (by omega) e24 q26  r2) (fun y27 g29 r28 e30 => ?_)
  exact go_iret kk54_0.2.2.2.2 e30 r28 ⟨by decide, by decide⟩ rfl
theorem tfW_relieve {Φ : ev_P} {d : Nat} (hd : 6 ≤ d) {g : gH} (hg : HR g) {v0 v1 v2 : Int} (h0 : RfR v0) (h1 : InR v1) (h2 : RfR v2) : Go Φ pr_P fN 1 (fW_relieve g v0 v1 v2) d (pr_P 344) 0 (ev_loc (pr_P 344).1 [(sR v0), (sI v1), (sR v2)]) [] g 0 0 := by
  show Go Φ pr_P fN 1 (fW_relieve g v0 v1 v2) d pr_m344 0 [some (sR v0), some (sI v1), some (sR v2), none] [] g 0 0
  unfold fW_relieve
  refine go_aload kk344_0.1.1.1.1 rfl ?_
  refine go_int kk344_0.1.1.1.2 0 rfl ?_
  refine go_aload kk344_0.1.1.2.1 rfl ?_
  refine go_iload kk344_0.1.1.2.2 rfl ?_
  refine go_ck (fun q1 => ?_)
  refine go_callT1 kk344_0.1.2.1.1 rfl rfl rfl ⟨by decide, _, rfl, q1⟩ ⟨by decide, by decide⟩ (by omega) (tfC_relieve (by omega) hg q1  h1) (fun y2 g4 r3 e5 => ?_) (fun E7 g4 e6 => ?_)
  · refine go_i2l kk344_0.1.2.1.2 r3 ?_
    refine go_ck (fun q8 => ?_)
    refine go_last kk344_0.1.2.2.1 e5 q8 (inL_R r3) (fun g9 e10 => ?_)
    refine go_goto kk344_0.1.2.2.2 ?_
    refine go_int kk344_0.2.2.2.1 0 rfl ?_
    exact go_iret kk344_0.2.2.2.2 e10 (inR_b (Or.inl rfl)) ⟨by decide, by decide⟩ rfl
  · refine ge_ite (fun hE9 => ?_) (fun _ => ?_)
    · subst hE9
      refine ge_catch rfl kk344_0.2.1.1.1 rfl (loc2 := [some (sR v0), some (sI v1), some (sR v2), none]) rfl ?_
      refine go_int kk344_0.2.1.1.2 1 rfl ?_
      exact go_iret kk344_0.2.1.2.1 e6 (inR_b (Or.inr rfl)) ⟨by decide, by decide⟩ rfl
    refine ge_ite (fun hE9 => ?_) (fun _ => ?_)
    · subst hE9
      refine ge_catch rfl kk344_0.2.1.2.2 rfl (loc2 := [some (sR v0), some (sI v1), some (sR v2), none]) rfl ?_
      refine go_int kk344_0.2.2.1.1 2 rfl ?_
      exact go_iret kk344_0.2.2.1.2 e6 (inR_of (by decide)) ⟨by decide, by decide⟩ rfl
    exact ge_none
theorem tfC_wouldHold {Φ : ev_P} {d : Nat} (hd : 6 ≤ d) {g : gH} (hg : HR g) {v0 v1 v2 v3 : Int} (hK0 : kd v0 = 6) (h1 : InR v1) (h2 : InR v2) (h3 : InR v3) : Go Φ pr_P fT 1 (fC_wouldHold g v0 v1 v2 v3) d (pr_P 55) 0 (ev_loc (pr_P 55).1 [(sR v0), (sI v1), (sI v2), (sI v3)]) [] g 0 0 := by
  show Go Φ pr_P fT 1 (fC_wouldHold g v0 v1 v2 v3) d pr_m55 0 [some (sR v0), some (sI v1), some (sI v2), some (sI v3)] [] g 0 0
  unfold fC_wouldHold
  refine go_aload kk55_0.1.1.1.1.1 rfl ?_
  refine go_iload kk55_0.1.1.1.1.2 rfl ?_
  refine go_callQ2 kk55_0.1.1.1.2 rfl rfl rfl ⟨by decide, _, rfl, hK0⟩ ⟨by decide, by decide⟩ (by omega) (tfC_named (by omega) hg hK0  h2) (fun y1 r2 => ?_) (fun e5 E6 => ge_prop rfl ⟨by decide, by decide⟩ e5 rfl)
  refine go_popR kk55_0.1.1.2.1.1 ?_
  refine go_iload kk55_0.1.1.2.1.2 rfl ?_
  refine go_int kk55_0.1.1.2.2 7 rfl ?_
  refine go_callQ0 kk55_0.1.2.1.1.1 rfl rfl rfl trivial ⟨by decide, by decide⟩ (by omega) (tfC_checkRange (by omega) hg  h1 (inR_of (by decide))) (fun y7 => ?_) (fun e11 E12 => ge_prop rfl ⟨by decide, by decide⟩ e11 rfl)
  refine go_aload kk55_0.1.2.1.1.2 rfl ?_
  refine go_iload kk55_0.1.2.1.2 rfl ?_
  refine go_iload kk55_0.1.2.2.1.1 rfl ?_
  refine go_callQ2 kk55_0.1.2.2.1.2 rfl rfl rfl ⟨by decide, _, rfl, hK0⟩ ⟨by decide, by decide⟩ (by omega) (tfC_namedForExit (by omega) hg hK0  h2 h3) (fun y13 r14 => ?_) (fun e17 E18 => ge_prop rfl ⟨by decide, by decide⟩ e17 rfl)
  refine go_popR kk55_0.1.2.2.2 ?_
  refine go_aload kk55_0.2.1.1.1.1 rfl ?_
  refine go_iload kk55_0.2.1.1.1.2 rfl ?_
  refine go_iload kk55_0.2.1.1.2 rfl ?_
  refine go_callN1 kk55_0.2.1.2.1.1 rfl rfl rfl ⟨by decide, _, rfl, hK0⟩ ⟨by decide, by decide⟩ (by omega) (tfC_exitOfCopy (by omega) hg hK0  h2 h3) (fun y19 g21 r20 e22 => ?_)
  refine go_popI kk55_0.2.1.2.1.2 ?_
  refine go_aload kk55_0.2.1.2.2 rfl ?_
  refine go_getR (bI := 1) kk55_0.2.2.1.1.1 e22 hK0 (by decide) rfl rfl (fun r23 => ?_)
  refine go_iload kk55_0.2.2.1.1.2 rfl ?_
  refine go_ck (fun q24 => ?_)
  refine go_callP2 kk55_0.2.2.1.2 rfl rfl rfl ⟨by decide, _, rfl, q24⟩ ⟨by decide, by decide⟩ (by omega) (tfT_holderOf (by omega) e22 q24  h1) (fun y25 r26 => ?_)
  refine go_ck (fun q29 => ?_)
  refine go_getI (bI := 0) kk55_0.2.2.2.1 e22 q29 (by decide) rfl rfl (fun r30 => ?_)
  exact go_iret kk55_0.2.2.2.2 e22 r30 ⟨by decide, by decide⟩ rfl
theorem tfW_wouldHold {Φ : ev_P} {d : Nat} (hd : 7 ≤ d) {g : gH} (hg : HR g) {v0 v1 v2 v3 v4 : Int} (h0 : RfR v0) (h1 : InR v1) (h2 : InR v2) (h3 : InR v3) (h4 : RfR v4) : Go Φ pr_P fN 1 (fW_wouldHold g v0 v1 v2 v3 v4) d (pr_P 345) 0 (ev_loc (pr_P 345).1 [(sR v0), (sI v1), (sI v2), (sI v3), (sR v4)]) [] g 0 0 := by
  show Go Φ pr_P fN 1 (fW_wouldHold g v0 v1 v2 v3 v4) d pr_m345 0 [some (sR v0), some (sI v1), some (sI v2), some (sI v3), some (sR v4), none] [] g 0 0
  unfold fW_wouldHold
  refine go_aload kk345_0.1.1.1.1.1 rfl ?_
  refine go_int kk345_0.1.1.1.1.2 0 rfl ?_
  refine go_aload kk345_0.1.1.1.2 rfl ?_
  refine go_iload kk345_0.1.1.2.1.1 rfl ?_
  refine go_iload kk345_0.1.1.2.1.2 rfl ?_
  refine go_iload kk345_0.1.1.2.2 rfl ?_
  refine go_ck (fun q1 => ?_)
  refine go_callT1 kk345_0.1.2.1.1.1 rfl rfl rfl ⟨by decide, _, rfl, q1⟩ ⟨by decide, by decide⟩ (by omega) (tfC_wouldHold (by omega) hg q1  h1 h2 h3) (fun y2 g4 r3 e5 => ?_) (fun E7 g4 e6 => ?_)
  · refine go_i2l kk345_0.1.2.1.1.2 r3 ?_
    refine go_ck (fun q8 => ?_)
    refine go_last kk345_0.1.2.1.2 e5 q8 (inL_R r3) (fun g9 e10 => ?_)
    refine go_goto kk345_0.1.2.2.1 ?_
    refine go_int kk345_0.2.2.2.1 0 rfl ?_
    exact go_iret kk345_0.2.2.2.2 e10 (inR_b (Or.inl rfl)) ⟨by decide, by decide⟩ rfl
  · refine ge_ite (fun hE9 => ?_) (fun _ => ?_)
    · subst hE9
      refine ge_catch rfl kk345_0.1.2.2.2 rfl (loc2 := [some (sR v0), some (sI v1), some (sI v2), some (sI v3), some (sR v4), none]) rfl ?_
      refine go_int kk345_0.2.1.1.1.1 1 rfl ?_
      exact go_iret kk345_0.2.1.1.1.2 e6 (inR_b (Or.inr rfl)) ⟨by decide, by decide⟩ rfl
    refine ge_ite (fun hE9 => ?_) (fun _ => ?_)
    · subst hE9
      refine ge_catch rfl kk345_0.2.1.1.2 rfl (loc2 := [some (sR v0), some (sI v1), some (sI v2), some (sI v3), some (sR v4), none]) rfl ?_
      refine go_int kk345_0.2.1.2.1 2 rfl ?_
      exact go_iret kk345_0.2.1.2.2 e6 (inR_of (by decide)) ⟨by decide, by decide⟩ rfl
    refine ge_ite (fun hE9 => ?_) (fun _ => ?_)
    · subst hE9
      refine ge_catch rfl kk345_0.2.2.1.1.1 rfl (loc2 := [some (sR v0), some (sI v1), some (sI v2), some (sI v3), some (sR v4), none]) rfl ?_
      refine go_int kk345_0.2.2.1.1.2 3 rfl ?_
      exact go_iret kk345_0.2.2.1.2 e6 (inR_of (by decide)) ⟨by decide, by decide⟩ rfl
    exact ge_none
theorem tbC_dutyLife_19 {Φ : ev_P} {d : Nat} (hd : 5 ≤ d) {v0 v1 : Int} (hK0 : kd v0 = 6) (h1 : InR v1) {X19 : Int → gH → Option (Nat × (Int × gH))} (HX19 : ∀ (v2 : Int) (h2 : InR v2) (g : gH) (hg : HR g), Go Φ pr_P fT 1 (X19 v2 g) d pr_m56 19 [some (sR v0), some (sI v1), some (sI v2)] [] g 1 6) : ∀ (v2 : Int) (h2 : InR v2) (g : gH) (hg : HR g), Go Φ pr_P fT 1 (bC_dutyLife_19 v0 v1 X19 v2 g) d pr_m56 19 [some (sR v0), some (sI v1), some (sI v2)] [] g 1 6 := by
  intro v2 h2 g hg
  unfold bC_dutyLife_19
  refine go_iload kk56_0.1.2.1.1.2 rfl ?_
  refine go_int kk56_0.1.2.1.2.1 40 rfl ?_
  refine go_cmlt kk56_0.1.2.1.2.2 h2 (inR_of (by decide)) (fun c14 => ?_) (fun c15 => ?_)
  · refine go_aload kk56_0.1.2.2.1.1 rfl ?_
    refine go_getR (bI := 1) kk56_0.1.2.2.1.2 hg hK0 (by decide) rfl rfl (fun r16 => ?_)
    refine go_iload kk56_0.1.2.2.2.1 rfl ?_
    refine go_ck (fun q17 => ?_)
    refine go_callP2 kk56_0.1.2.2.2.2 rfl rfl rfl ⟨by decide, _, rfl, q17⟩ ⟨by decide, by decide⟩ (by omega) (tfT_holderOf (by omega) hg q17  h1) (fun y18 r19 => ?_)
    refine go_aload kk56_0.2.1.1.1.1.1 rfl ?_
    refine go_getR (bI := 1) kk56_0.2.1.1.1.1.2 hg hK0 (by decide) rfl rfl (fun r22 => ?_)
    refine go_getR (bI := 0) kk56_0.2.1.1.1.2 hg q17 (by decide) rfl rfl (fun r23 => ?_)
    refine go_acmp kk56_0.2.1.1.2.1 r19 r23 (fun c24 => ?_) (fun c25 => ?_)
    · refine go_iload kk56_0.2.2.2.2.1 rfl ?_
      exact go_iret kk56_0.2.2.2.2.2 hg h2 ⟨by decide, by decide⟩ rfl
    · refine go_aload kk56_0.2.1.1.2.2 rfl ?_
      refine go_getR (bI := 1) kk56_0.2.1.2.1.1 hg hK0 (by decide) rfl rfl (fun r26 => ?_)
      refine go_aload kk56_0.2.1.2.1.2 rfl ?_
      refine go_getR (bI := 1) kk56_0.2.1.2.2.1 hg hK0 (by decide) rfl rfl (fun r27 => ?_)
      refine go_iload kk56_0.2.1.2.2.2 rfl ?_
      refine go_callP2 kk56_0.2.2.1.1.1 rfl rfl rfl ⟨by decide, _, rfl, q17⟩ ⟨by decide, by decide⟩ (by omega) (tfT_holderOf (by omega) hg q17  h1) (fun y28 r29 => ?_)
      refine go_int kk56_0.2.2.1.1.2 0 rfl ?_
      refine go_callN1 kk56_0.2.2.1.2.1 rfl rfl rfl ⟨by decide, _, rfl, q17⟩ ⟨by decide, by decide⟩ (by omega) (tfT_letExit (by omega) hg q17  r29 (inR_b (Or.inl rfl))) (fun y32 g34 r33 e35 => ?_)
      refine go_popI kk56_0.2.2.1.2.2 ?_
      refine go_iinc kk56_0.2.2.2.1.1 rfl rfl 1 rfl (loc2 := [some (sR v0), some (sI v1), some (sI (w32 (v2 + 1)))]) rfl ?_
      refine go_goto kk56_0.2.2.2.1.2 ?_
      exact HX19 (w32 (v2 + 1)) (inR_w32 _) g34 e35
  · refine go_iload kk56_0.2.2.2.2.1 rfl ?_
    exact go_iret kk56_0.2.2.2.2.2 hg h2 ⟨by decide, by decide⟩ rfl
theorem tlC_dutyLife_19 {Φ : ev_P} {d : Nat} (hd : 5 ≤ d) {v0 v1 : Int} (hK0 : kd v0 = 6) (h1 : InR v1) : ∀ n : Nat, ∀ (v2 : Int) (h2 : InR v2) (g : gH) (hg : HR g), Go Φ pr_P fT 1 (lC_dutyLife_19 v0 v1 n v2 g) d pr_m56 19 [some (sR v0), some (sI v1), some (sI v2)] [] g 1 6 := by
  intro n
  induction n with
  | zero => intros; exact go_none
  | succ n ih => exact tbC_dutyLife_19 hd hK0 h1 ih
theorem tfC_dutyLife {Φ : ev_P} {d : Nat} (hd : 5 ≤ d) {g : gH} (hg : HR g) {v0 v1 : Int} (hK0 : kd v0 = 6) (h1 : InR v1) : Go Φ pr_P fT 1 (fC_dutyLife g v0 v1) d (pr_P 56) 0 (ev_loc (pr_P 56).1 [(sR v0), (sI v1)]) [] g 0 0 := by
  show Go Φ pr_P fT 1 (fC_dutyLife g v0 v1) d pr_m56 0 [some (sR v0), some (sI v1), none] [] g 0 0
  unfold fC_dutyLife
  refine go_iload kk56_0.1.1.1.1.1.1 rfl ?_
  refine go_int kk56_0.1.1.1.1.1.2 7 rfl ?_
  refine go_callQ0 kk56_0.1.1.1.1.2 rfl rfl rfl trivial ⟨by decide, by decide⟩ (by omega) (tfC_checkRange (by omega) hg  h1 (inR_of (by decide))) (fun y1 => ?_) (fun e5 E6 => ge_prop rfl ⟨by decide, by decide⟩ e5 rfl)
  refine go_aload kk56_0.1.1.1.2.1 rfl ?_
  refine go_getR (bI := 1) kk56_0.1.1.1.2.2 hg hK0 (by decide) rfl rfl (fun r7 => ?_)
  refine go_aload kk56_0.1.1.2.1.1 rfl ?_
  refine go_getR (bI := 0) kk56_0.1.1.2.1.2 hg hK0 (by decide) rfl rfl (fun r8 => ?_)
  refine go_ck (fun q9 => ?_)
  refine go_callN0 kk56_0.1.1.2.2.1 rfl rfl rfl ⟨by decide, _, rfl, q9⟩ ⟨by decide, by decide⟩ (by omega) (tfT_take (by omega) hg q9  r8) (fun y10 g12 e13 => ?_)
  refine go_int kk56_0.1.1.2.2.2 0 rfl ?_
  refine go_istore kk56_0.1.2.1.1.1 rfl (loc2 := [some (sR v0), some (sI v1), some (sI 0)]) rfl ?_
  exact tlC_dutyLife_19 hd hK0 h1 fu 0 (inR_b (Or.inl rfl)) g12 e13
theorem tfW_dutyLife {Φ : ev_P} {d : Nat} (hd : 6 ≤ d) {g : gH} (hg : HR g) {v0 v1 v2 : Int} (h0 : RfR v0) (h1 : InR v1) (h2 : RfR v2) : Go Φ pr_P fN 1 (fW_dutyLife g v0 v1 v2) d (pr_P 346) 0 (ev_loc (pr_P 346).1 [(sR v0), (sI v1), (sR v2)]) [] g 0 0 := by
  show Go Φ pr_P fN 1 (fW_dutyLife g v0 v1 v2) d pr_m346 0 [some (sR v0), some (sI v1), some (sR v2), none] [] g 0 0
  unfold fW_dutyLife
  refine go_aload kk346_0.1.1.1.1 rfl ?_
  refine go_int kk346_0.1.1.1.2 0 rfl ?_
  refine go_aload kk346_0.1.1.2.1 rfl ?_
  refine go_iload kk346_0.1.1.2.2 rfl ?_
  refine go_ck (fun q1 => ?_)
  refine go_callT1 kk346_0.1.2.1.1 rfl rfl rfl ⟨by decide, _, rfl, q1⟩ ⟨by decide, by decide⟩ (by omega) (tfC_dutyLife (by omega) hg q1  h1) (fun y2 g4 r3 e5 => ?_) (fun E7 g4 e6 => ?_)
  · refine go_i2l kk346_0.1.2.1.2 r3 ?_
    refine go_ck (fun q8 => ?_)
    refine go_last kk346_0.1.2.2 e5 q8 (inL_R r3) (fun g9 e10 => ?_)
    refine go_goto kk346_0.2.1.1.1 ?_
    refine go_int kk346_0.2.2.1.2 0 rfl ?_
    exact go_iret kk346_0.2.2.2 e10 (inR_b (Or.inl rfl)) ⟨by decide, by decide⟩ rfl
  · refine ge_ite (fun hE9 => ?_) (fun _ => ?_)
    · subst hE9
      refine ge_catch rfl kk346_0.2.1.1.2 rfl (loc2 := [some (sR v0), some (sI v1), some (sR v2), none]) rfl ?_
      refine go_int kk346_0.2.1.2 1 rfl ?_
      exact go_iret kk346_0.2.2.1.1 e6 (inR_b (Or.inr rfl)) ⟨by decide, by decide⟩ rfl
    exact ge_none
theorem tjC_heaviest_65 {Φ : ev_P} {d : Nat} (hd : 2 ≤ d) {X28 : Int → Int → Int → Option (Nat × Int)} {g : gH} (hg : HR g) {v0 v2 v3 v4 v5 v6 v7 v8 : Int} (hK0 : kd v0 = 6) (h2 : RfR v2) (h3 : InR v3) (h4 : InR v4) (h5 : RfR v5) (h6 : InR v6) (h7 : InR v7) (h8 : RfR v8) {s0 : Int} (z0 : InR s0) (HX28 : ∀ (v3 : Int) (h3 : InR v3) (v4 : Int) (h4 : InR v4) (v7 : Int) (h7 : InR v7) (u1 : Option ev_V) (w1 : nwo u1) (u8 : Option ev_V) (w8 : nwo u8) (u9 : Option ev_V) (w9 : nwo u9), Go Φ pr_P (fQ g) 1 (X28 v3 v4 v7) d pr_m57 28 [some (sR v0), u1, some (sR v2), some (sI v3), some (sI v4), some (sR v5), some (sI v6), some (sI v7), u8, u9] [] g 1 6) (u1 : Option ev_V) (w1 : nwo u1) (u9 : Option ev_V) (w9 : nwo u9) : Go Φ pr_P (fQ g) 1 (jC_heaviest_65 X28 g v0 v2 v3 v4 v5 v6 v7 v8 s0 ) d pr_m57 65 [some (sR v0), u1, some (sR v2), some (sI v3), some (sI v4), some (sR v5), some (sI v6), some (sI v7), some (sR v8), u9] [(sI s0)] g 1 6 := by
  unfold jC_heaviest_65
  refine go_istore kk57_0.2.1.2.2.2 rfl (loc2 := [some (sR v0), u1, some (sR v2), some (sI v3), some (sI v4), some (sR v5), some (sI v6), some (sI v7), some (sR v8), some (sI s0)]) rfl ?_
  refine go_iload kk57_0.2.2.1.1.1.1 rfl ?_
  refine go_iload kk57_0.2.2.1.1.1.2 rfl ?_
  refine go_cmgt kk57_0.2.2.1.1.2 z0 h4 (fun c29 => ?_) (fun c30 => ?_)
  · refine go_aload kk57_0.2.2.1.2.1.1 rfl ?_
    refine go_ck (fun q31 => ?_)
    refine go_getI (bI := 0) kk57_0.2.2.1.2.1.2 hg q31 (by decide) rfl rfl (fun r32 => ?_)
    refine go_istore kk57_0.2.2.1.2.2 rfl (loc2 := [some (sR v0), u1, some (sR v2), some (sI (g v8 0)), some (sI v4), some (sR v5), some (sI v6), some (sI v7), some (sR v8), some (sI s0)]) rfl ?_
    refine go_iload kk57_0.2.2.2.1.1.1 rfl ?_
    refine go_istore kk57_0.2.2.2.1.1.2 rfl (loc2 := [some (sR v0), u1, some (sR v2), some (sI (g v8 0)), some (sI s0), some (sR v5), some (sI v6), some (sI v7), some (sR v8), some (sI s0)]) rfl ?_
    refine go_iinc kk57_0.2.2.2.1.2 rfl rfl 1 rfl (loc2 := [some (sR v0), u1, some (sR v2), some (sI (g v8 0)), some (sI s0), some (sR v5), some (sI v6), some (sI (w32 (v7 + 1))), some (sR v8), some (sI s0)]) rfl ?_
    refine go_goto kk57_0.2.2.2.2.1.1 ?_
    exact HX28 (g v8 0) r32 s0 z0 (w32 (v7 + 1)) (inR_w32 _) u1 w1 (some (sR v8)) rfl (some (sI s0)) rfl
  · refine go_iinc kk57_0.2.2.2.1.2 rfl rfl 1 rfl (loc2 := [some (sR v0), u1, some (sR v2), some (sI v3), some (sI v4), some (sR v5), some (sI v6), some (sI (w32 (v7 + 1))), some (sR v8), some (sI s0)]) rfl ?_
    refine go_goto kk57_0.2.2.2.2.1.1 ?_
    exact HX28 v3 h3 v4 h4 (w32 (v7 + 1)) (inR_w32 _) u1 w1 (some (sR v8)) rfl (some (sI s0)) rfl
theorem tbC_heaviest_28 {Φ : ev_P} {d : Nat} (hd : 2 ≤ d) {g : gH} (hg : HR g) {v0 v2 v5 v6 : Int} (hK0 : kd v0 = 6) (h2 : RfR v2) (h5 : RfR v5) (h6 : InR v6) {X28 : Int → Int → Int → Option (Nat × Int)} (HX28 : ∀ (v3 : Int) (h3 : InR v3) (v4 : Int) (h4 : InR v4) (v7 : Int) (h7 : InR v7) (u1 : Option ev_V) (w1 : nwo u1) (u8 : Option ev_V) (w8 : nwo u8) (u9 : Option ev_V) (w9 : nwo u9), Go Φ pr_P (fQ g) 1 (X28 v3 v4 v7) d pr_m57 28 [some (sR v0), u1, some (sR v2), some (sI v3), some (sI v4), some (sR v5), some (sI v6), some (sI v7), u8, u9] [] g 1 6) : ∀ (v3 : Int) (h3 : InR v3) (v4 : Int) (h4 : InR v4) (v7 : Int) (h7 : InR v7) (u1 : Option ev_V) (w1 : nwo u1) (u8 : Option ev_V) (w8 : nwo u8) (u9 : Option ev_V) (w9 : nwo u9), Go Φ pr_P (fQ g) 1 (bC_heaviest_28 g v0 v2 v5 v6 X28 v3 v4 v7) d pr_m57 28 [some (sR v0), u1, some (sR v2), some (sI v3), some (sI v4), some (sR v5), some (sI v6), some (sI v7), u8, u9] [] g 1 6 := by
  intro v3 h3 v4 h4 v7 h7 u1 w1 u8 w8 u9 w9
  unfold bC_heaviest_28
  refine go_iload kk57_0.1.2.1.2.2 rfl ?_
  refine go_iload kk57_0.1.2.2.1.1.1 rfl ?_
  refine go_cmlt kk57_0.1.2.2.1.1.2 h7 h6 (fun c12 => ?_) (fun c13 => ?_)
  · refine go_aload kk57_0.1.2.2.1.2 rfl ?_
    refine go_iload kk57_0.1.2.2.2.1.1 rfl ?_
    refine go_ck (fun q15 => ?_)
    refine go_pald kk57_0.1.2.2.2.1.2 hg q15 (fun r14 => ?_)
    refine go_astore kk57_0.1.2.2.2.2 rfl (loc2 := [some (sR v0), u1, some (sR v2), some (sI v3), some (sI v4), some (sR v5), some (sI v6), some (sI v7), some (sR (g v5 v7)), u9]) rfl ?_
    refine go_aload kk57_0.2.1.1.1.1.1 rfl ?_
    refine go_aload kk57_0.2.1.1.1.1.2 rfl ?_
    refine go_ck (fun q16 => ?_)
    refine go_callP3 kk57_0.2.1.1.1.2 rfl rfl rfl ⟨by decide, _, rfl, q16⟩ ⟨by decide, by decide⟩ (by omega) (tfP_isRunningChildOf (by omega) hg q16  h2) (fun y17 r18 => ?_)
    refine go_ifeq kk57_0.2.1.1.2.1.1 (inR_b r18) (fun c21 => ?_) (fun c22 => ?_)
    · refine go_int kk57_0.2.1.2.2.1.2 (-1) rfl ?_
      exact tjC_heaviest_65 hd hg hK0 h2 h3 h4 h5 h6 h7 r14 (inR_of (by decide)) HX28 u1 w1 u9 w9
    · refine go_aload kk57_0.2.1.1.2.1.2 rfl ?_
      refine go_getR (bI := 0) kk57_0.2.1.1.2.2 hg hK0 (by decide) rfl rfl (fun r23 => ?_)
      refine go_aload kk57_0.2.1.2.1.1.1 rfl ?_
      refine go_int kk57_0.2.1.2.1.1.2 0 rfl ?_
      refine go_ck (fun q24 => ?_)
      refine go_callP1 kk57_0.2.1.2.1.2 rfl rfl rfl ⟨by decide, _, rfl, q24⟩ ⟨by decide, by decide⟩ (by omega) (tfT_countBelow (by omega) hg q24  r14 (inR_b (Or.inl rfl))) (fun y25 r26 => ?_)
      refine go_goto kk57_0.2.1.2.2.1.1 ?_
      exact tjC_heaviest_65 hd hg hK0 h2 h3 h4 h5 h6 h7 r14 r26 HX28 u1 w1 u9 w9
  · refine go_iload kk57_0.2.2.2.2.1.2 rfl ?_
    exact go_iret kk57_0.2.2.2.2.2 hg h3 ⟨by decide, by decide⟩ rfl
theorem tlC_heaviest_28 {Φ : ev_P} {d : Nat} (hd : 2 ≤ d) {g : gH} (hg : HR g) {v0 v2 v5 v6 : Int} (hK0 : kd v0 = 6) (h2 : RfR v2) (h5 : RfR v5) (h6 : InR v6) : ∀ n : Nat, ∀ (v3 : Int) (h3 : InR v3) (v4 : Int) (h4 : InR v4) (v7 : Int) (h7 : InR v7) (u1 : Option ev_V) (w1 : nwo u1) (u8 : Option ev_V) (w8 : nwo u8) (u9 : Option ev_V) (w9 : nwo u9), Go Φ pr_P (fQ g) 1 (lC_heaviest_28 g v0 v2 v5 v6 n v3 v4 v7) d pr_m57 28 [some (sR v0), u1, some (sR v2), some (sI v3), some (sI v4), some (sR v5), some (sI v6), some (sI v7), u8, u9] [] g 1 6 := by
  intro n
  induction n with
  | zero => intros; exact go_none
  | succ n ih => exact tbC_heaviest_28 hd hg hK0 h2 h5 h6 ih
theorem tfC_heaviest {Φ : ev_P} {d : Nat} (hd : 2 ≤ d) {g : gH} (hg : HR g) {v0 v1 : Int} (hK0 : kd v0 = 6) (h1 : InR v1) : Go Φ pr_P (fQ g) 1 (fC_heaviest g v0 v1) d (pr_P 57) 0 (ev_loc (pr_P 57).1 [(sR v0), (sI v1)]) [] g 0 0 := by
  show Go Φ pr_P (fQ g) 1 (fC_heaviest g v0 v1) d pr_m57 0 [some (sR v0), some (sI v1), none, none, none, none, none, none, none, none] [] g 0 0
  unfold fC_heaviest
  refine go_aload kk57_0.1.1.1.1.1.1 rfl ?_
  refine go_iload kk57_0.1.1.1.1.1.2 rfl ?_
  refine go_callQ2 kk57_0.1.1.1.1.2 rfl rfl rfl ⟨by decide, _, rfl, hK0⟩ ⟨by decide, by decide⟩ (by omega) (tfC_named (by omega) hg hK0  h1) (fun y1 r2 => ?_) (fun e5 E6 => ge_prop rfl ⟨by decide, by decide⟩ e5 rfl)
  refine go_astore kk57_0.1.1.1.2.1.1 rfl (loc2 := [some (sR v0), some (sI v1), some (sR y1), none, none, none, none, none, none, none]) rfl ?_
  refine go_int kk57_0.1.1.1.2.1.2 (-1) rfl ?_
  refine go_istore kk57_0.1.1.1.2.2 rfl (loc2 := [some (sR v0), some (sI v1), some (sR y1), some (sI (-1)), none, none, none, none, none, none]) rfl ?_
  refine go_int kk57_0.1.1.2.1.1.1 (-1) rfl ?_
  refine go_istore kk57_0.1.1.2.1.1.2 rfl (loc2 := [some (sR v0), some (sI v1), some (sR y1), some (sI (-1)), some (sI (-1)), none, none, none, none, none]) rfl ?_
  refine go_aload kk57_0.1.1.2.1.2 rfl ?_
  refine go_getR (bI := 0) kk57_0.1.1.2.2.1.1 hg hK0 (by decide) rfl rfl (fun r7 => ?_)
  refine go_ck (fun q8 => ?_)
  refine go_getR (bI := 1) kk57_0.1.1.2.2.1.2 hg q8 (by decide) rfl rfl (fun r9 => ?_)
  refine go_astore kk57_0.1.1.2.2.2 rfl (loc2 := [some (sR v0), some (sI v1), some (sR y1), some (sI (-1)), some (sI (-1)), some (sR (g (g v0 0) 1)), none, none, none, none]) rfl ?_
  refine go_aload kk57_0.1.2.1.1.1.1 rfl ?_
  refine go_ck (fun q11 => ?_)
  refine go_alen kk57_0.1.2.1.1.1.2 (ka_24 q11) (fun r10 => ?_)
  refine go_istore kk57_0.1.2.1.1.2 rfl (loc2 := [some (sR v0), some (sI v1), some (sR y1), some (sI (-1)), some (sI (-1)), some (sR (g (g v0 0) 1)), some (sI (sz (g (g v0 0) 1))), none, none, none]) rfl ?_
  refine go_int kk57_0.1.2.1.2.1.1 0 rfl ?_
  refine go_istore kk57_0.1.2.1.2.1.2 rfl (loc2 := [some (sR v0), some (sI v1), some (sR y1), some (sI (-1)), some (sI (-1)), some (sR (g (g v0 0) 1)), some (sI (sz (g (g v0 0) 1))), some (sI 0), none, none]) rfl ?_
  exact tlC_heaviest_28 hd hg hK0 r2 r9 r10 fu (-1) (inR_of (by decide)) (-1) (inR_of (by decide)) 0 (inR_b (Or.inl rfl)) (some (sI v1)) rfl none rfl none rfl
theorem tfW_heaviest {Φ : ev_P} {d : Nat} (hd : 3 ≤ d) {g : gH} (hg : HR g) {v0 v1 v2 : Int} (h0 : RfR v0) (h1 : InR v1) (h2 : RfR v2) : Go Φ pr_P fN 1 (fW_heaviest g v0 v1 v2) d (pr_P 347) 0 (ev_loc (pr_P 347).1 [(sR v0), (sI v1), (sR v2)]) [] g 0 0 := by
  show Go Φ pr_P fN 1 (fW_heaviest g v0 v1 v2) d pr_m347 0 [some (sR v0), some (sI v1), some (sR v2), none] [] g 0 0
  unfold fW_heaviest
  refine go_aload kk347_0.1.1.1.1 rfl ?_
  refine go_int kk347_0.1.1.1.2 0 rfl ?_
  refine go_aload kk347_0.1.1.2.1 rfl ?_
  refine go_iload kk347_0.1.1.2.2 rfl ?_
  refine go_ck (fun q1 => ?_)
  refine go_callQ1 kk347_0.1.2.1.1 rfl rfl rfl ⟨by decide, _, rfl, q1⟩ ⟨by decide, by decide⟩ (by omega) (tfC_heaviest (by omega) hg q1  h1) (fun y2 r3 => ?_) (fun e6 E7 => ?_)
  · refine go_i2l kk347_0.1.2.1.2 r3 ?_
    refine go_ck (fun q8 => ?_)
    refine go_last kk347_0.1.2.2 hg q8 (inL_R r3) (fun g9 e10 => ?_)
    refine go_goto kk347_0.2.1.1.1 ?_
    refine go_int kk347_0.2.2.1.2 0 rfl ?_
    exact go_iret kk347_0.2.2.2 e10 (inR_b (Or.inl rfl)) ⟨by decide, by decide⟩ rfl
  · refine ge_ite (fun hE9 => ?_) (fun _ => ?_)
    · subst hE9
      refine ge_catch rfl kk347_0.2.1.1.2 rfl (loc2 := [some (sR v0), some (sI v1), some (sR v2), none]) rfl ?_
      refine go_int kk347_0.2.1.2 1 rfl ?_
      exact go_iret kk347_0.2.2.1.1 e6 (inR_b (Or.inr rfl)) ⟨by decide, by decide⟩ rfl
    exact ge_none
theorem tbC_groupsBelow_25 {Φ : ev_P} {d : Nat} (hd : 2 ≤ d) {g : gH} (hg : HR g) {v2 v4 v5 : Int} (h2 : RfR v2) (h4 : RfR v4) (h5 : InR v5) {X25 : Int → Int → Option (Nat × Int)} (HX25 : ∀ (v3 : Int) (h3 : InR v3) (v6 : Int) (h6 : InR v6) (u0 : Option ev_V) (w0 : nwo u0) (u1 : Option ev_V) (w1 : nwo u1) (u7 : Option ev_V) (w7 : nwo u7), Go Φ pr_P (fQ g) 1 (X25 v3 v6) d pr_m58 25 [u0, u1, some (sR v2), some (sI v3), some (sR v4), some (sI v5), some (sI v6), u7] [] g 1 6) : ∀ (v3 : Int) (h3 : InR v3) (v6 : Int) (h6 : InR v6) (u0 : Option ev_V) (w0 : nwo u0) (u1 : Option ev_V) (w1 : nwo u1) (u7 : Option ev_V) (w7 : nwo u7), Go Φ pr_P (fQ g) 1 (bC_groupsBelow_25 g v2 v4 v5 X25 v3 v6) d pr_m58 25 [u0, u1, some (sR v2), some (sI v3), some (sR v4), some (sI v5), some (sI v6), u7] [] g 1 6 := by
  intro v3 h3 v6 h6 u0 w0 u1 w1 u7 w7
  unfold bC_groupsBelow_25
  refine go_iload kk58_0.1.2.2.1.1.1 rfl ?_
  refine go_iload kk58_0.1.2.2.1.1.2 rfl ?_
  refine go_cmlt kk58_0.1.2.2.1.2 h6 h5 (fun c12 => ?_) (fun c13 => ?_)
  · refine go_aload kk58_0.1.2.2.2.1 rfl ?_
    refine go_iload kk58_0.1.2.2.2.2 rfl ?_
    refine go_ck (fun q15 => ?_)
    refine go_pald kk58_0.2.1.1.1.1.1 hg q15 (fun r14 => ?_)
    refine go_astore kk58_0.2.1.1.1.1.2 rfl (loc2 := [u0, u1, some (sR v2), some (sI v3), some (sR v4), some (sI v5), some (sI v6), some (sR (g v4 v6))]) rfl ?_
    refine go_aload kk58_0.2.1.1.1.2 rfl ?_
    refine go_ck (fun q16 => ?_)
    refine go_callP3 kk58_0.2.1.1.2.1 rfl rfl rfl ⟨by decide, _, rfl, q16⟩ ⟨by decide, by decide⟩ (by omega) (tfP_isRunning (by omega) hg q16 ) (fun y17 r18 => ?_)
    refine go_ifeq kk58_0.2.1.1.2.2 (inR_b r18) (fun c21 => ?_) (fun c22 => ?_)
    · refine go_iinc kk58_0.2.2.2.1.1.2 rfl rfl 1 rfl (loc2 := [u0, u1, some (sR v2), some (sI v3), some (sR v4), some (sI v5), some (sI (w32 (v6 + 1))), some (sR (g v4 v6))]) rfl ?_
      refine go_goto kk58_0.2.2.2.1.2 ?_
      exact HX25 v3 h3 (w32 (v6 + 1)) (inR_w32 _) u0 w0 u1 w1 (some (sR (g v4 v6))) rfl
    · refine go_aload kk58_0.2.1.2.1.1.1 rfl ?_
      refine go_aload kk58_0.2.1.2.1.1.2 rfl ?_
      refine go_ck (fun q23 => ?_)
      refine go_callP3 kk58_0.2.1.2.1.2 rfl rfl rfl ⟨by decide, _, rfl, q23⟩ ⟨by decide, by decide⟩ (by omega) (tfP_isOver (by omega) hg q23  r14) (fun y24 r25 => ?_)
      refine go_ifeq kk58_0.2.1.2.2.1 (inR_b r25) (fun c28 => ?_) (fun c29 => ?_)
      · refine go_iinc kk58_0.2.2.2.1.1.2 rfl rfl 1 rfl (loc2 := [u0, u1, some (sR v2), some (sI v3), some (sR v4), some (sI v5), some (sI (w32 (v6 + 1))), some (sR (g v4 v6))]) rfl ?_
        refine go_goto kk58_0.2.2.2.1.2 ?_
        exact HX25 v3 h3 (w32 (v6 + 1)) (inR_w32 _) u0 w0 u1 w1 (some (sR (g v4 v6))) rfl
      · refine go_iload kk58_0.2.1.2.2.2 rfl ?_
        refine go_int kk58_0.2.2.1.1.1.1 1 rfl ?_
        refine go_aload kk58_0.2.2.1.1.1.2 rfl ?_
        refine go_getI (bI := 5) kk58_0.2.2.1.1.2 hg q16 (by decide) rfl rfl (fun r30 => ?_)
        refine go_ibin kk58_0.2.2.1.2.1 ?_
        refine go_ibin kk58_0.2.2.1.2.2 ?_
        refine go_istore kk58_0.2.2.2.1.1.1 rfl (loc2 := [u0, u1, some (sR v2), some (sI (opI 2 v3 (opI 4 1 (g (g v4 v6) 5)))), some (sR v4), some (sI v5), some (sI v6), some (sR (g v4 v6))]) rfl ?_
        refine go_iinc kk58_0.2.2.2.1.1.2 rfl rfl 1 rfl (loc2 := [u0, u1, some (sR v2), some (sI (opI 2 v3 (opI 4 1 (g (g v4 v6) 5)))), some (sR v4), some (sI v5), some (sI (w32 (v6 + 1))), some (sR (g v4 v6))]) rfl ?_
        refine go_goto kk58_0.2.2.2.1.2 ?_
        exact HX25 (opI 2 v3 (opI 4 1 (g (g v4 v6) 5))) (inR_opI _ _ _) (w32 (v6 + 1)) (inR_w32 _) u0 w0 u1 w1 (some (sR (g v4 v6))) rfl
  · refine go_iload kk58_0.2.2.2.2.1 rfl ?_
    exact go_iret kk58_0.2.2.2.2.2 hg h3 ⟨by decide, by decide⟩ rfl
theorem tlC_groupsBelow_25 {Φ : ev_P} {d : Nat} (hd : 2 ≤ d) {g : gH} (hg : HR g) {v2 v4 v5 : Int} (h2 : RfR v2) (h4 : RfR v4) (h5 : InR v5) : ∀ n : Nat, ∀ (v3 : Int) (h3 : InR v3) (v6 : Int) (h6 : InR v6) (u0 : Option ev_V) (w0 : nwo u0) (u1 : Option ev_V) (w1 : nwo u1) (u7 : Option ev_V) (w7 : nwo u7), Go Φ pr_P (fQ g) 1 (lC_groupsBelow_25 g v2 v4 v5 n v3 v6) d pr_m58 25 [u0, u1, some (sR v2), some (sI v3), some (sR v4), some (sI v5), some (sI v6), u7] [] g 1 6 := by
  intro n
  induction n with
  | zero => intros; exact go_none
  | succ n ih => exact tbC_groupsBelow_25 hd hg h2 h4 h5 ih
theorem tfC_groupsBelow {Φ : ev_P} {d : Nat} (hd : 2 ≤ d) {g : gH} (hg : HR g) {v0 v1 : Int} (hK0 : kd v0 = 6) (h1 : InR v1) : Go Φ pr_P (fQ g) 1 (fC_groupsBelow g v0 v1) d (pr_P 58) 0 (ev_loc (pr_P 58).1 [(sR v0), (sI v1)]) [] g 0 0 := by
  show Go Φ pr_P (fQ g) 1 (fC_groupsBelow g v0 v1) d pr_m58 0 [some (sR v0), some (sI v1), none, none, none, none, none, none] [] g 0 0
  unfold fC_groupsBelow
  refine go_aload kk58_0.1.1.1.1.1.1 rfl ?_
  refine go_iload kk58_0.1.1.1.1.1.2 rfl ?_
  refine go_callQ2 kk58_0.1.1.1.1.2 rfl rfl rfl ⟨by decide, _, rfl, hK0⟩ ⟨by decide, by decide⟩ (by omega) (tfC_named (by omega) hg hK0  h1) (fun y1 r2 => ?_) (fun e5 E6 => ge_prop rfl ⟨by decide, by decide⟩ e5 rfl)
  refine go_astore kk58_0.1.1.1.2.1 rfl (loc2 := [some (sR v0), some (sI v1), some (sR y1), none, none, none, none, none]) rfl ?_
  refine go_int kk58_0.1.1.1.2.2 0 rfl ?_
  refine go_istore kk58_0.1.1.2.1.1.1 rfl (loc2 := [some (sR v0), some (sI v1), some (sR y1), some (sI 0), none, none, none, none]) rfl ?_
  refine go_aload kk58_0.1.1.2.1.1.2 rfl ?_
  refine go_getR (bI := 0) kk58_0.1.1.2.1.2 hg hK0 (by decide) rfl rfl (fun r7 => ?_)
  refine go_ck (fun q8 => ?_)
  refine go_getR (bI := 1) kk58_0.1.1.2.2.1 hg q8 (by decide) rfl rfl (fun r9 => ?_)
  refine go_astore kk58_0.1.1.2.2.2 rfl (loc2 := [some (sR v0), some (sI v1), some (sR y1), some (sI 0), some (sR (g (g v0 0) 1)), none, none, none]) rfl ?_
  refine go_aload kk58_0.1.2.1.1.1.1 rfl ?_
  refine go_ck (fun q11 => ?_)
  refine go_alen kk58_0.1.2.1.1.1.2 (ka_24 q11) (fun r10 => ?_)
  refine go_istore kk58_0.1.2.1.1.2 rfl (loc2 := [some (sR v0), some (sI v1), some (sR y1), some (sI 0), some (sR (g (g v0 0) 1)), some (sI (sz (g (g v0 0) 1))), none, none]) rfl ?_
  refine go_int kk58_0.1.2.1.2.1 0 rfl ?_
  refine go_istore kk58_0.1.2.1.2.2 rfl (loc2 := [some (sR v0), some (sI v1), some (sR y1), some (sI 0), some (sR (g (g v0 0) 1)), some (sI (sz (g (g v0 0) 1))), some (sI 0), none]) rfl ?_
  exact tlC_groupsBelow_25 hd hg r2 r9 r10 fu 0 (inR_b (Or.inl rfl)) 0 (inR_b (Or.inl rfl)) (some (sR v0)) rfl (some (sI v1)) rfl none rfl
theorem tfW_groupsBelow {Φ : ev_P} {d : Nat} (hd : 3 ≤ d) {g : gH} (hg : HR g) {v0 v1 v2 : Int} (h0 : RfR v0) (h1 : InR v1) (h2 : RfR v2) : Go Φ pr_P fN 1 (fW_groupsBelow g v0 v1 v2) d (pr_P 348) 0 (ev_loc (pr_P 348).1 [(sR v0), (sI v1), (sR v2)]) [] g 0 0 := by
  show Go Φ pr_P fN 1 (fW_groupsBelow g v0 v1 v2) d pr_m348 0 [some (sR v0), some (sI v1), some (sR v2), none] [] g 0 0
  unfold fW_groupsBelow
  refine go_aload kk348_0.1.1.1.1 rfl ?_
  refine go_int kk348_0.1.1.1.2 0 rfl ?_
  refine go_aload kk348_0.1.1.2.1 rfl ?_
  refine go_iload kk348_0.1.1.2.2 rfl ?_
  refine go_ck (fun q1 => ?_)
  refine go_callQ1 kk348_0.1.2.1.1 rfl rfl rfl ⟨by decide, _, rfl, q1⟩ ⟨by decide, by decide⟩ (by omega) (tfC_groupsBelow (by omega) hg q1  h1) (fun y2 r3 => ?_) (fun e6 E7 => ?_)
  · refine go_i2l kk348_0.1.2.1.2 r3 ?_
    refine go_ck (fun q8 => ?_)
    refine go_last kk348_0.1.2.2 hg q8 (inL_R r3) (fun g9 e10 => ?_)
    refine go_goto kk348_0.2.1.1.1 ?_
    refine go_int kk348_0.2.2.1.2 0 rfl ?_
    exact go_iret kk348_0.2.2.2 e10 (inR_b (Or.inl rfl)) ⟨by decide, by decide⟩ rfl
  · refine ge_ite (fun hE9 => ?_) (fun _ => ?_)
    · subst hE9
      refine ge_catch rfl kk348_0.2.1.1.2 rfl (loc2 := [some (sR v0), some (sI v1), some (sR v2), none]) rfl ?_
      refine go_int kk348_0.2.1.2 1 rfl ?_
      exact go_iret kk348_0.2.2.1.1 e6 (inR_b (Or.inr rfl)) ⟨by decide, by decide⟩ rfl
    exact ge_none
theorem tbC_strangers_25 {Φ : ev_P} {d : Nat} (hd : 2 ≤ d) {g : gH} (hg : HR g) {v2 v4 v5 : Int} (h2 : RfR v2) (h4 : RfR v4) (h5 : InR v5) {X25 : Int → Int → Option (Nat × Int)} (HX25 : ∀ (v3 : Int) (h3 : InR v3) (v6 : Int) (h6 : InR v6) (u0 : Option ev_V) (w0 : nwo u0) (u1 : Option ev_V) (w1 : nwo u1) (u7 : Option ev_V) (w7 : nwo u7), Go Φ pr_P (fQ g) 1 (X25 v3 v6) d pr_m59 25 [u0, u1, some (sR v2), some (sI v3), some (sR v4), some (sI v5), some (sI v6), u7] [] g 1 6) : ∀ (v3 : Int) (h3 : InR v3) (v6 : Int) (h6 : InR v6) (u0 : Option ev_V) (w0 : nwo u0) (u1 : Option ev_V) (w1 : nwo u1) (u7 : Option ev_V) (w7 : nwo u7), Go Φ pr_P (fQ g) 1 (bC_strangers_25 g v2 v4 v5 X25 v3 v6) d pr_m59 25 [u0, u1, some (sR v2), some (sI v3), some (sR v4), some (sI v5), some (sI v6), u7] [] g 1 6 := by
  intro v3 h3 v6 h6 u0 w0 u1 w1 u7 w7
  unfold bC_strangers_25
  refine go_iload kk59_0.1.2.2.1.2 rfl ?_
  refine go_iload kk59_0.1.2.2.2.1 rfl ?_
  refine go_cmlt kk59_0.1.2.2.2.2 h6 h5 (fun c12 => ?_) (fun c13 => ?_)
  · refine go_aload kk59_0.2.1.1.1.1.1 rfl ?_
    refine go_iload kk59_0.2.1.1.1.1.2 rfl ?_
    refine go_ck (fun q15 => ?_)
    refine go_pald kk59_0.2.1.1.1.2 hg q15 (fun r14 => ?_)
    refine go_astore kk59_0.2.1.1.2.1 rfl (loc2 := [u0, u1, some (sR v2), some (sI v3), some (sR v4), some (sI v5), some (sI v6), some (sR (g v4 v6))]) rfl ?_
    refine go_aload kk59_0.2.1.1.2.2 rfl ?_
    refine go_aload kk59_0.2.1.2.1.1 rfl ?_
    refine go_ck (fun q16 => ?_)
    refine go_callP3 kk59_0.2.1.2.1.2 rfl rfl rfl ⟨by decide, _, rfl, q16⟩ ⟨by decide, by decide⟩ (by omega) (tfP_isRunningChildOf (by omega) hg q16  h2) (fun y17 r18 => ?_)
    refine go_ifeq kk59_0.2.1.2.2.1 (inR_b r18) (fun c21 => ?_) (fun c22 => ?_)
    · refine go_iinc kk59_0.2.2.2.1.1 rfl rfl 1 rfl (loc2 := [u0, u1, some (sR v2), some (sI v3), some (sR v4), some (sI v5), some (sI (w32 (v6 + 1))), some (sR (g v4 v6))]) rfl ?_
      refine go_goto kk59_0.2.2.2.1.2 ?_
      exact HX25 v3 h3 (w32 (v6 + 1)) (inR_w32 _) u0 w0 u1 w1 (some (sR (g v4 v6))) rfl
    · refine go_aload kk59_0.2.1.2.2.2 rfl ?_
      refine go_getI (bI := 5) kk59_0.2.2.1.1.1.1 hg q16 (by decide) rfl rfl (fun r23 => ?_)
      refine go_aload kk59_0.2.2.1.1.1.2 rfl ?_
      refine go_ck (fun q24 => ?_)
      refine go_getI (bI := 5) kk59_0.2.2.1.1.2 hg q24 (by decide) rfl rfl (fun r25 => ?_)
      refine go_cmeq kk59_0.2.2.1.2.1 r23 r25 (fun c26 => ?_) (fun c27 => ?_)
      · refine go_iinc kk59_0.2.2.2.1.1 rfl rfl 1 rfl (loc2 := [u0, u1, some (sR v2), some (sI v3), some (sR v4), some (sI v5), some (sI (w32 (v6 + 1))), some (sR (g v4 v6))]) rfl ?_
        refine go_goto kk59_0.2.2.2.1.2 ?_
        exact HX25 v3 h3 (w32 (v6 + 1)) (inR_w32 _) u0 w0 u1 w1 (some (sR (g v4 v6))) rfl
      · refine go_iinc kk59_0.2.2.1.2.2 rfl rfl 1 rfl (loc2 := [u0, u1, some (sR v2), some (sI (w32 (v3 + 1))), some (sR v4), some (sI v5), some (sI v6), some (sR (g v4 v6))]) rfl ?_
        refine go_iinc kk59_0.2.2.2.1.1 rfl rfl 1 rfl (loc2 := [u0, u1, some (sR v2), some (sI (w32 (v3 + 1))), some (sR v4), some (sI v5), some (sI (w32 (v6 + 1))), some (sR (g v4 v6))]) rfl ?_
        refine go_goto kk59_0.2.2.2.1.2 ?_
        exact HX25 (w32 (v3 + 1)) (inR_w32 _) (w32 (v6 + 1)) (inR_w32 _) u0 w0 u1 w1 (some (sR (g v4 v6))) rfl
  · refine go_iload kk59_0.2.2.2.2.1 rfl ?_
    exact go_iret kk59_0.2.2.2.2.2 hg h3 ⟨by decide, by decide⟩ rfl
theorem tlC_strangers_25 {Φ : ev_P} {d : Nat} (hd : 2 ≤ d) {g : gH} (hg : HR g) {v2 v4 v5 : Int} (h2 : RfR v2) (h4 : RfR v4) (h5 : InR v5) : ∀ n : Nat, ∀ (v3 : Int) (h3 : InR v3) (v6 : Int) (h6 : InR v6) (u0 : Option ev_V) (w0 : nwo u0) (u1 : Option ev_V) (w1 : nwo u1) (u7 : Option ev_V) (w7 : nwo u7), Go Φ pr_P (fQ g) 1 (lC_strangers_25 g v2 v4 v5 n v3 v6) d pr_m59 25 [u0, u1, some (sR v2), some (sI v3), some (sR v4), some (sI v5), some (sI v6), u7] [] g 1 6 := by
  intro n
  induction n with
  | zero => intros; exact go_none
  | succ n ih => exact tbC_strangers_25 hd hg h2 h4 h5 ih
theorem tfC_strangers {Φ : ev_P} {d : Nat} (hd : 2 ≤ d) {g : gH} (hg : HR g) {v0 v1 : Int} (hK0 : kd v0 = 6) (h1 : InR v1) : Go Φ pr_P (fQ g) 1 (fC_strangers g v0 v1) d (pr_P 59) 0 (ev_loc (pr_P 59).1 [(sR v0), (sI v1)]) [] g 0 0 := by
  show Go Φ pr_P (fQ g) 1 (fC_strangers g v0 v1) d pr_m59 0 [some (sR v0), some (sI v1), none, none, none, none, none, none] [] g 0 0
  unfold fC_strangers
  refine go_aload kk59_0.1.1.1.1.1.1 rfl ?_
  refine go_iload kk59_0.1.1.1.1.1.2 rfl ?_
  refine go_callQ2 kk59_0.1.1.1.1.2 rfl rfl rfl ⟨by decide, _, rfl, hK0⟩ ⟨by decide, by decide⟩ (by omega) (tfC_named (by omega) hg hK0  h1) (fun y1 r2 => ?_) (fun e5 E6 => ge_prop rfl ⟨by decide, by decide⟩ e5 rfl)
  refine go_astore kk59_0.1.1.1.2.1 rfl (loc2 := [some (sR v0), some (sI v1), some (sR y1), none, none, none, none, none]) rfl ?_
  refine go_int kk59_0.1.1.1.2.2 0 rfl ?_
  refine go_istore kk59_0.1.1.2.1.1 rfl (loc2 := [some (sR v0), some (sI v1), some (sR y1), some (sI 0), none, none, none, none]) rfl ?_
  refine go_aload kk59_0.1.1.2.1.2 rfl ?_
  refine go_getR (bI := 0) kk59_0.1.1.2.2.1 hg hK0 (by decide) rfl rfl (fun r7 => ?_)
  refine go_ck (fun q8 => ?_)
  refine go_getR (bI := 1) kk59_0.1.1.2.2.2 hg q8 (by decide) rfl rfl (fun r9 => ?_)
  refine go_astore kk59_0.1.2.1.1.1.1 rfl (loc2 := [some (sR v0), some (sI v1), some (sR y1), some (sI 0), some (sR (g (g v0 0) 1)), none, none, none]) rfl ?_
  refine go_aload kk59_0.1.2.1.1.1.2 rfl ?_
  refine go_ck (fun q11 => ?_)
  refine go_alen kk59_0.1.2.1.1.2 (ka_24 q11) (fun r10 => ?_)
  refine go_istore kk59_0.1.2.1.2.1 rfl (loc2 := [some (sR v0), some (sI v1), some (sR y1), some (sI 0), some (sR (g (g v0 0) 1)), some (sI (sz (g (g v0 0) 1))), none, none]) rfl ?_
  refine go_int kk59_0.1.2.1.2.2 0 rfl ?_
  refine go_istore kk59_0.1.2.2.1.1 rfl (loc2 := [some (sR v0), some (sI v1), some (sR y1), some (sI 0), some (sR (g (g v0 0) 1)), some (sI (sz (g (g v0 0) 1))), some (sI 0), none]) rfl ?_
  exact tlC_strangers_25 hd hg r2 r9 r10 fu 0 (inR_b (Or.inl rfl)) 0 (inR_b (Or.inl rfl)) (some (sR v0)) rfl (some (sI v1)) rfl none rfl
theorem tfW_strangers {Φ : ev_P} {d : Nat} (hd : 3 ≤ d) {g : gH} (hg : HR g) {v0 v1 v2 : Int} (h0 : RfR v0) (h1 : InR v1) (h2 : RfR v2) : Go Φ pr_P fN 1 (fW_strangers g v0 v1 v2) d (pr_P 349) 0 (ev_loc (pr_P 349).1 [(sR v0), (sI v1), (sR v2)]) [] g 0 0 := by
  show Go Φ pr_P fN 1 (fW_strangers g v0 v1 v2) d pr_m349 0 [some (sR v0), some (sI v1), some (sR v2), none] [] g 0 0
  unfold fW_strangers
  refine go_aload kk349_0.1.1.1.1 rfl ?_
  refine go_int kk349_0.1.1.1.2 0 rfl ?_
  refine go_aload kk349_0.1.1.2.1 rfl ?_
  refine go_iload kk349_0.1.1.2.2 rfl ?_
  refine go_ck (fun q1 => ?_)
  refine go_callQ1 kk349_0.1.2.1.1 rfl rfl rfl ⟨by decide, _, rfl, q1⟩ ⟨by decide, by decide⟩ (by omega) (tfC_strangers (by omega) hg q1  h1) (fun y2 r3 => ?_) (fun e6 E7 => ?_)
  · refine go_i2l kk349_0.1.2.1.2 r3 ?_
    refine go_ck (fun q8 => ?_)
    refine go_last kk349_0.1.2.2 hg q8 (inL_R r3) (fun g9 e10 => ?_)
    refine go_goto kk349_0.2.1.1.1 ?_
    refine go_int kk349_0.2.2.1.2 0 rfl ?_
    exact go_iret kk349_0.2.2.2 e10 (inR_b (Or.inl rfl)) ⟨by decide, by decide⟩ rfl
  · refine ge_ite (fun hE9 => ?_) (fun _ => ?_)
    · subst hE9
      refine ge_catch rfl kk349_0.2.1.1.2 rfl (loc2 := [some (sR v0), some (sI v1), some (sR v2), none]) rfl ?_
      refine go_int kk349_0.2.1.2 1 rfl ?_
      exact go_iret kk349_0.2.2.1.1 e6 (inR_b (Or.inr rfl)) ⟨by decide, by decide⟩ rfl
    exact ge_none
theorem tfO_putSign {Φ : ev_P} {d : Nat} (hd : 0 ≤ d) {g : gH} (hg : HR g) {v0 v1 : Int} (hK0 : kd v0 = 2) (h1 : InR v1) : Go Φ pr_P fN 0 (fO_putSign g v0 v1) d (pr_P 225) 0 (ev_loc (pr_P 225).1 [(sR v0), (sI v1)]) [] g 0 0 := by
  show Go Φ pr_P fN 0 (fO_putSign g v0 v1) d pr_m225 0 [some (sR v0), some (sI v1)] [] g 0 0
  unfold fO_putSign
  refine go_aload kk225_0.1.1.1.1.1 rfl ?_
  refine go_getI (bI := 1) kk225_0.1.1.1.1.2 hg hK0 (by decide) rfl rfl (fun r1 => ?_)
  refine go_iflt kk225_0.1.1.1.2 r1 (fun c2 => ?_) (fun c3 => ?_)
  · exact go_vret kk225_0.2.2.2.2 hg ⟨Nat.zero_le _, Nat.zero_le _⟩ rfl
  · refine go_aload kk225_0.1.1.2.1.1 rfl ?_
    refine go_getI (bI := 1) kk225_0.1.1.2.1.2 hg hK0 (by decide) rfl rfl (fun r4 => ?_)
    refine go_int kk225_0.1.1.2.2 300 rfl ?_
    refine go_cmlt kk225_0.1.2.1.1.1 r4 (inR_of (by decide)) (fun c5 => ?_) (fun c6 => ?_)
    · refine go_aload kk225_0.1.2.1.1.2 rfl ?_
      refine go_getR (bI := 0) kk225_0.1.2.1.2 hg hK0 (by decide) rfl rfl (fun r7 => ?_)
      refine go_aload kk225_0.1.2.2.1 rfl ?_
      refine go_getI (bI := 1) kk225_0.1.2.2.2 hg hK0 (by decide) rfl rfl (fun r8 => ?_)
      refine go_iload kk225_0.2.1.1.1.1 rfl ?_
      refine go_i2b kk225_0.2.1.1.1.2 ?_
      refine go_ck (fun q9 => ?_)
      refine go_bast kk225_0.2.1.1.2 hg q9 (fun g10 e11 => ?_)
      refine go_aload kk225_0.2.1.2.1 rfl ?_
      refine go_dupR kk225_0.2.1.2.2 ?_
      refine go_getI (bI := 1) kk225_0.2.2.1.1.1 e11 hK0 (by decide) rfl rfl (fun r12 => ?_)
      refine go_int kk225_0.2.2.1.1.2 1 rfl ?_
      refine go_iadd kk225_0.2.2.1.2 ?_
      refine go_putI (bI := 1) kk225_0.2.2.2.1 e11 hK0 (by decide) rfl rfl (inR_w32 _) (fun g13 e14 => ?_)
      exact go_vret kk225_0.2.2.2.2 e14 ⟨Nat.zero_le _, Nat.zero_le _⟩ rfl
    · exact go_vret kk225_0.2.2.2.2 hg ⟨Nat.zero_le _, Nat.zero_le _⟩ rfl
theorem tjO_putNumber_18 {Φ : ev_P} {d : Nat} (hd : 1 ≤ d) {g : gH} (hg : HR g) {v0 v1 : Int} (hK0 : kd v0 = 2) (h1 : InR v1) : Go Φ pr_P fN 0 (jO_putNumber_18 g v0 v1 ) d pr_m226 18 [some (sR v0), some (sI v1)] [] g 0 0 := by
  unfold jO_putNumber_18
  refine go_iload kk226_0.1.2.1.2.1 rfl ?_
  refine go_int kk226_0.1.2.1.2.2 10 rfl ?_
  refine go_cmlt kk226_0.1.2.2.1.1 h1 (inR_of (by decide)) (fun c8 => ?_) (fun c9 => ?_)
  · refine go_aload kk226_0.2.1.2.2.2 rfl ?_
    refine go_int kk226_0.2.2.1.1.1 48 rfl ?_
    refine go_iload kk226_0.2.2.1.1.2 rfl ?_
    refine go_int kk226_0.2.2.1.2.1 10 rfl ?_
    refine go_ck (fun q10 => ?_)
    refine go_rem kk226_0.2.2.1.2.2 q10 ?_
    refine go_iadd kk226_0.2.2.2.1.1 ?_
    refine go_i2c kk226_0.2.2.2.1.2 ?_
    refine go_callN0 kk226_0.2.2.2.2.1 rfl rfl rfl ⟨by decide, _, rfl, hK0⟩ ⟨Nat.zero_le _, Nat.zero_le _⟩ (by omega) (tfO_putSign (by omega) hg hK0  (inR_i2c _)) (fun y11 g13 e14 => ?_)
    exact go_vret kk226_0.2.2.2.2.2 e14 ⟨Nat.zero_le _, Nat.zero_le _⟩ rfl
  · refine go_aload kk226_0.1.2.2.1.2 rfl ?_
    refine go_int kk226_0.1.2.2.2.1 48 rfl ?_
    refine go_iload kk226_0.1.2.2.2.2 rfl ?_
    refine go_int kk226_0.2.1.1.1.1 10 rfl ?_
    refine go_ck (fun q15 => ?_)
    refine go_div kk226_0.2.1.1.1.2 q15 ?_
    refine go_int kk226_0.2.1.1.2.1 10 rfl ?_
    refine go_ck (fun q16 => ?_)
    refine go_rem kk226_0.2.1.1.2.2 q16 ?_
    refine go_iadd kk226_0.2.1.2.1.1 ?_
    refine go_i2c kk226_0.2.1.2.1.2 ?_
    refine go_callN0 kk226_0.2.1.2.2.1 rfl rfl rfl ⟨by decide, _, rfl, hK0⟩ ⟨Nat.zero_le _, Nat.zero_le _⟩ (by omega) (tfO_putSign (by omega) hg hK0  (inR_i2c _)) (fun y17 g19 e20 => ?_)
    refine go_aload kk226_0.2.1.2.2.2 rfl ?_
    refine go_int kk226_0.2.2.1.1.1 48 rfl ?_
    refine go_iload kk226_0.2.2.1.1.2 rfl ?_
    refine go_int kk226_0.2.2.1.2.1 10 rfl ?_
    refine go_ck (fun q21 => ?_)
    refine go_rem kk226_0.2.2.1.2.2 q21 ?_
    refine go_iadd kk226_0.2.2.2.1.1 ?_
    refine go_i2c kk226_0.2.2.2.1.2 ?_
    refine go_callN0 kk226_0.2.2.2.2.1 rfl rfl rfl ⟨by decide, _, rfl, hK0⟩ ⟨Nat.zero_le _, Nat.zero_le _⟩ (by omega) (tfO_putSign (by omega) e20 hK0  (inR_i2c _)) (fun y22 g24 e25 => ?_)
    exact go_vret kk226_0.2.2.2.2.2 e25 ⟨Nat.zero_le _, Nat.zero_le _⟩ rfl
theorem tfO_putNumber {Φ : ev_P} {d : Nat} (hd : 1 ≤ d) {g : gH} (hg : HR g) {v0 v1 : Int} (hK0 : kd v0 = 2) (h1 : InR v1) : Go Φ pr_P fN 0 (fO_putNumber g v0 v1) d (pr_P 226) 0 (ev_loc (pr_P 226).1 [(sR v0), (sI v1)]) [] g 0 0 := by
  show Go Φ pr_P fN 0 (fO_putNumber g v0 v1) d pr_m226 0 [some (sR v0), some (sI v1)] [] g 0 0
  unfold fO_putNumber
  refine go_iload kk226_0.1.1.1.1.1.1 rfl ?_
  refine go_int kk226_0.1.1.1.1.1.2 100 rfl ?_
  refine go_cmlt kk226_0.1.1.1.1.2 h1 (inR_of (by decide)) (fun c1 => ?_) (fun c2 => ?_)
  · exact tjO_putNumber_18 hd hg hK0 h1
  · refine go_aload kk226_0.1.1.1.2.1 rfl ?_
    refine go_int kk226_0.1.1.1.2.2 48 rfl ?_
    refine go_iload kk226_0.1.1.2.1.1 rfl ?_
    refine go_int kk226_0.1.1.2.1.2 100 rfl ?_
    refine go_ck (fun q3 => ?_)
    refine go_div kk226_0.1.1.2.2.1 q3 ?_
    refine go_iadd kk226_0.1.1.2.2.2 ?_
    refine go_i2c kk226_0.1.2.1.1.1 ?_
    refine go_callN0 kk226_0.1.2.1.1.2 rfl rfl rfl ⟨by decide, _, rfl, hK0⟩ ⟨Nat.zero_le _, Nat.zero_le _⟩ (by omega) (tfO_putSign (by omega) hg hK0  (inR_i2c _)) (fun y4 g6 e7 => ?_)
    exact tjO_putNumber_18 hd e7 hK0 h1
theorem tbC_putBranch_40 {Φ : ev_P} {d : Nat} (hd : 3 ≤ d) {R : gH → Int → Int → Int → Int → Option (Int × gH)} (HR0 : ∀ (g : gH) (hg : HR g) (v0 : Int) (v1 : Int) (v2 : Int) (v3 : Int) (h0 : RfR v0) (h1 : RfR v1) (h2 : RfR v2) (h3 : InR v3), Go Φ pr_P fN 0 (R g v0 v1 v2 v3) (d - 1) (pr_P 72) 0 (ev_loc (pr_P 72).1 [(sR v0), (sR v1), (sR v2), (sI v3)]) [] g 0 0) {v0 v1 v2 v3 v5 v6 : Int} (h0 : RfR v0) (h1 : RfR v1) (h2 : RfR v2) (h3 : InR v3) (h5 : RfR v5) (h6 : InR v6) {X40 : Int → Int → gH → Option (Int × gH)} (HX40 : ∀ (v4 : Int) (h4 : InR v4) (v7 : Int) (h7 : InR v7) (g : gH) (hg : HR g) (u8 : Option ev_V) (w8 : nwo u8), Go Φ pr_P fN 0 (X40 v4 v7 g) d pr_m72 40 [some (sR v0), some (sR v1), some (sR v2), some (sI v3), some (sI v4), some (sR v5), some (sI v6), some (sI v7), u8] [] g 0 0) : ∀ (v4 : Int) (h4 : InR v4) (v7 : Int) (h7 : InR v7) (g : gH) (hg : HR g) (u8 : Option ev_V) (w8 : nwo u8), Go Φ pr_P fN 0 (bC_putBranch_40 R v0 v1 v2 v3 v5 v6 X40 v4 v7 g) d pr_m72 40 [some (sR v0), some (sR v1), some (sR v2), some (sI v3), some (sI v4), some (sR v5), some (sI v6), some (sI v7), u8] [] g 0 0 := by
  intro v4 h4 v7 h7 g hg u8 w8
  unfold bC_putBranch_40
  refine go_iload kk72_0.1.2.2.1.2 rfl ?_
  refine go_iload kk72_0.1.2.2.2.1.1 rfl ?_
  refine go_cmlt kk72_0.1.2.2.2.1.2 h7 h6 (fun c17 => ?_) (fun c18 => ?_)
  · refine go_aload kk72_0.1.2.2.2.2 rfl ?_
    refine go_iload kk72_0.2.1.1.1.1.1 rfl ?_
    refine go_ck (fun q20 => ?_)
    refine go_pald kk72_0.2.1.1.1.1.2 hg q20 (fun r19 => ?_)
    refine go_astore kk72_0.2.1.1.1.2.1 rfl (loc2 := [some (sR v0), some (sR v1), some (sR v2), some (sI v3), some (sI v4), some (sR v5), some (sI v6), some (sI v7), some (sR (g v5 v7))]) rfl ?_
    refine go_aload kk72_0.2.1.1.1.2.2 rfl ?_
    refine go_aload kk72_0.2.1.1.2.1.1 rfl ?_
    refine go_ck (fun q21 => ?_)
    refine go_callP3 kk72_0.2.1.1.2.1.2 rfl rfl rfl ⟨by decide, _, rfl, q21⟩ ⟨Nat.zero_le _, Nat.zero_le _⟩ (by omega) (tfP_isRunningChildOf (by omega) hg q21  h2) (fun y22 r23 => ?_)
    refine go_ifeq kk72_0.2.1.1.2.2 (inR_b r23) (fun c26 => ?_) (fun c27 => ?_)
    · refine go_iinc kk72_0.2.2.2.1.1.1 rfl rfl 1 rfl (loc2 := [some (sR v0), some (sR v1), some (sR v2), some (sI v3), some (sI v4), some (sR v5), some (sI v6), some (sI (w32 (v7 + 1))), some (sR (g v5 v7))]) rfl ?_
      refine go_goto kk72_0.2.2.2.1.1.2 ?_
      exact HX40 v4 h4 (w32 (v7 + 1)) (inR_w32 _) g hg (some (sR (g v5 v7))) rfl
    · refine go_aload kk72_0.2.1.2.1.1.1 rfl ?_
      refine go_iload kk72_0.2.1.2.1.1.2 rfl ?_
      refine go_ck (fun q28 => ?_)
      refine go_callN0 kk72_0.2.1.2.1.2 rfl rfl rfl ⟨by decide, _, rfl, q28⟩ ⟨Nat.zero_le _, Nat.zero_le _⟩ (by omega) (tfO_putSign (by omega) hg q28  h4) (fun y29 g31 e32 => ?_)
      refine go_aload kk72_0.2.1.2.2.1.1 rfl ?_
      refine go_aload kk72_0.2.1.2.2.1.2 rfl ?_
      refine go_aload kk72_0.2.1.2.2.2 rfl ?_
      refine go_iload kk72_0.2.2.1.1.1.1 rfl ?_
      refine go_int kk72_0.2.2.1.1.1.2 1 rfl ?_
      refine go_iadd kk72_0.2.2.1.1.2 ?_
      refine go_callN0 kk72_0.2.2.1.2.1.1 rfl rfl rfl trivial ⟨Nat.zero_le _, Nat.zero_le _⟩ (by omega) (HR0 g31 e32 v0 v1 (g v5 v7) (w32 (v3 + 1))  h0 h1 r19 (inR_w32 _)) (fun y33 g35 e36 => ?_)
      refine go_int kk72_0.2.2.1.2.1.2 32 rfl ?_
      refine go_istore kk72_0.2.2.1.2.2 rfl (loc2 := [some (sR v0), some (sR v1), some (sR v2), some (sI v3), some (sI 32), some (sR v5), some (sI v6), some (sI v7), some (sR (g v5 v7))]) rfl ?_
      refine go_iinc kk72_0.2.2.2.1.1.1 rfl rfl 1 rfl (loc2 := [some (sR v0), some (sR v1), some (sR v2), some (sI v3), some (sI 32), some (sR v5), some (sI v6), some (sI (w32 (v7 + 1))), some (sR (g v5 v7))]) rfl ?_
      refine go_goto kk72_0.2.2.2.1.1.2 ?_
      exact HX40 32 (inR_of (by decide)) (w32 (v7 + 1)) (inR_w32 _) g35 e36 (some (sR (g v5 v7))) rfl
  · refine go_aload kk72_0.2.2.2.1.2 rfl ?_
    refine go_int kk72_0.2.2.2.2.1.1 41 rfl ?_
    refine go_ck (fun q37 => ?_)
    refine go_callN0 kk72_0.2.2.2.2.1.2 rfl rfl rfl ⟨by decide, _, rfl, q37⟩ ⟨Nat.zero_le _, Nat.zero_le _⟩ (by omega) (tfO_putSign (by omega) hg q37  (inR_of (by decide))) (fun y38 g40 e41 => ?_)
    exact go_vret kk72_0.2.2.2.2.2 e41 ⟨Nat.zero_le _, Nat.zero_le _⟩ rfl
theorem tlC_putBranch_40 {Φ : ev_P} {d : Nat} (hd : 3 ≤ d) {R : gH → Int → Int → Int → Int → Option (Int × gH)} (HR0 : ∀ (g : gH) (hg : HR g) (v0 : Int) (v1 : Int) (v2 : Int) (v3 : Int) (h0 : RfR v0) (h1 : RfR v1) (h2 : RfR v2) (h3 : InR v3), Go Φ pr_P fN 0 (R g v0 v1 v2 v3) (d - 1) (pr_P 72) 0 (ev_loc (pr_P 72).1 [(sR v0), (sR v1), (sR v2), (sI v3)]) [] g 0 0) {v0 v1 v2 v3 v5 v6 : Int} (h0 : RfR v0) (h1 : RfR v1) (h2 : RfR v2) (h3 : InR v3) (h5 : RfR v5) (h6 : InR v6) : ∀ n : Nat, ∀ (v4 : Int) (h4 : InR v4) (v7 : Int) (h7 : InR v7) (g : gH) (hg : HR g) (u8 : Option ev_V) (w8 : nwo u8), Go Φ pr_P fN 0 (lC_putBranch_40 R v0 v1 v2 v3 v5 v6 n v4 v7 g) d pr_m72 40 [some (sR v0), some (sR v1), some (sR v2), some (sI v3), some (sI v4), some (sR v5), some (sI v6), some (sI v7), u8] [] g 0 0 := by
  intro n
  induction n with
  | zero => intros; exact go_none
  | succ n ih => exact tbC_putBranch_40 hd HR0 h0 h1 h2 h3 h5 h6 ih
theorem tfbC_putBranch {Φ : ev_P} {d : Nat} (hd : 3 ≤ d) {R : gH → Int → Int → Int → Int → Option (Int × gH)} (HR0 : ∀ (g : gH) (hg : HR g) (v0 : Int) (v1 : Int) (v2 : Int) (v3 : Int) (h0 : RfR v0) (h1 : RfR v1) (h2 : RfR v2) (h3 : InR v3), Go Φ pr_P fN 0 (R g v0 v1 v2 v3) (d - 1) (pr_P 72) 0 (ev_loc (pr_P 72).1 [(sR v0), (sR v1), (sR v2), (sI v3)]) [] g 0 0) {g : gH} (hg : HR g) {v0 v1 v2 v3 : Int} (h0 : RfR v0) (h1 : RfR v1) (h2 : RfR v2) (h3 : InR v3) : Go Φ pr_P fN 0 (fbC_putBranch R g v0 v1 v2 v3) d (pr_P 72) 0 (ev_loc (pr_P 72).1 [(sR v0), (sR v1), (sR v2), (sI v3)]) [] g 0 0 := by
  show Go Φ pr_P fN 0 (fbC_putBranch R g v0 v1 v2 v3) d pr_m72 0 [some (sR v0), some (sR v1), some (sR v2), some (sI v3), none, none, none, none, none] [] g 0 0
  unfold fbC_putBranch
  refine go_aload kk72_0.1.1.1.1.1.1 rfl ?_
  refine go_aload kk72_0.1.1.1.1.1.2 rfl ?_
  refine go_ck (fun q1 => ?_)
  refine go_getI (bI := 0) kk72_0.1.1.1.1.2.1 hg q1 (by decide) rfl rfl (fun r2 => ?_)
  refine go_ck (fun q3 => ?_)
  refine go_callN0 kk72_0.1.1.1.1.2.2 rfl rfl rfl ⟨by decide, _, rfl, q3⟩ ⟨Nat.zero_le _, Nat.zero_le _⟩ (by omega) (tfO_putNumber (by omega) hg q3  r2) (fun y4 g6 e7 => ?_)
  refine go_aload kk72_0.1.1.1.2.1.1 rfl ?_
  refine go_getI (bI := 3) kk72_0.1.1.1.2.1.2 e7 q1 (by decide) rfl rfl (fun r8 => ?_)
  refine go_ifeq kk72_0.1.1.1.2.2 r8 (fun c9 => ?_) (fun c10 => ?_)
  · exact go_vret kk72_0.1.1.2.2.1.1 e7 ⟨Nat.zero_le _, Nat.zero_le _⟩ rfl
  · refine go_iload kk72_0.1.1.2.1.1.1 rfl ?_
    refine go_int kk72_0.1.1.2.1.1.2 40 rfl ?_
    refine go_cmlt kk72_0.1.1.2.1.2 h3 (inR_of (by decide)) (fun c11 => ?_) (fun c12 => ?_)
    · refine go_int kk72_0.1.1.2.2.1.2 40 rfl ?_
      refine go_istore kk72_0.1.1.2.2.2 rfl (loc2 := [some (sR v0), some (sR v1), some (sR v2), some (sI v3), some (sI 40), none, none, none, none]) rfl ?_
      refine go_aload kk72_0.1.2.1.1.1.1 rfl ?_
      refine go_ck (fun q13 => ?_)
      refine go_getR (bI := 1) kk72_0.1.2.1.1.1.2 e7 q13 (by decide) rfl rfl (fun r14 => ?_)
      refine go_astore kk72_0.1.2.1.1.2 rfl (loc2 := [some (sR v0), some (sR v1), some (sR v2), some (sI v3), some (sI 40), some (sR (g6 v1 1)), none, none, none]) rfl ?_
      refine go_aload kk72_0.1.2.1.2.1.1 rfl ?_
      refine go_ck (fun q16 => ?_)
      refine go_alen kk72_0.1.2.1.2.1.2 (ka_24 q16) (fun r15 => ?_)
      refine go_istore kk72_0.1.2.1.2.2 rfl (loc2 := [some (sR v0), some (sR v1), some (sR v2), some (sI v3), some (sI 40), some (sR (g6 v1 1)), some (sI (sz (g6 v1 1))), none, none]) rfl ?_
      refine go_int kk72_0.1.2.2.1.1.1 0 rfl ?_
      refine go_istore kk72_0.1.2.2.1.1.2 rfl (loc2 := [some (sR v0), some (sR v1), some (sR v2), some (sI v3), some (sI 40), some (sR (g6 v1 1)), some (sI (sz (g6 v1 1))), some (sI 0), none]) rfl ?_
      exact tlC_putBranch_40 hd HR0 h0 h1 h2 h3 r14 r15 fu 40 (inR_of (by decide)) 0 (inR_b (Or.inl rfl)) g6 e7 none rfl
    · exact go_vret kk72_0.1.1.2.2.1.1 e7 ⟨Nat.zero_le _, Nat.zero_le _⟩ rfl
theorem tfnC_putBranch {Φ : ev_P} : ∀ (n d : Nat) (hd : n + 3 ≤ d), ∀ (g : gH) (hg : HR g) (v0 : Int) (v1 : Int) (v2 : Int) (v3 : Int) (h0 : RfR v0) (h1 : RfR v1) (h2 : RfR v2) (h3 : InR v3), Go Φ pr_P fN 0 (fC_putBranch n g v0 v1 v2 v3) d (pr_P 72) 0 (ev_loc (pr_P 72).1 [(sR v0), (sR v1), (sR v2), (sI v3)]) [] g 0 0 := by
  intro n
  induction n with
  | zero => intros; exact go_none
  | succ n ih =>
    intro d hd g hg v0 v1 v2 v3 h0 h1 h2 h3
    exact tfbC_putBranch (by omega) (fun g hg v0 v1 v2 v3 h0 h1 h2 h3 => ih (d - 1) (by omega) g hg v0 v1 v2 v3 h0 h1 h2 h3) hg h0 h1 h2 h3
theorem tfC_putBranch {Φ : ev_P} {d : Nat} (hd : 63 ≤ d) {g : gH} (hg : HR g) {v0 v1 v2 v3 : Int} (h0 : RfR v0) (h1 : RfR v1) (h2 : RfR v2) (h3 : InR v3) : Go Φ pr_P fN 0 (fC_putBranch fr g v0 v1 v2 v3) d (pr_P 72) 0 (ev_loc (pr_P 72).1 [(sR v0), (sR v1), (sR v2), (sI v3)]) [] g 0 0 := tfnC_putBranch fr d (by unfold fr; omega) g hg v0 v1 v2 v3 h0 h1 h2 h3
theorem tjO_putPath_38 {Φ : ev_P} {d : Nat} (hd : 2 ≤ d) {X5 : Int → gH → Option (Int × gH)} {g : gH} (hg : HR g) {v0 v1 v2 v3 : Int} (hK0 : kd v0 = 2) (h1 : RfR v1) (h2 : InR v2) (h3 : RfR v3) (HX5 : ∀ (v2 : Int) (h2 : InR v2) (g : gH) (hg : HR g) (u3 : Option ev_V) (w3 : nwo u3) (u4 : Option ev_V) (w4 : nwo u4), Go Φ pr_P fN 0 (X5 v2 g) d pr_m227 5 [some (sR v0), some (sR v1), some (sI v2), u3, u4] [] g 0 0) (u4 : Option ev_V) (w4 : nwo u4) : Go Φ pr_P fN 0 (jO_putPath_38 X5 g v0 v1 v2 v3 ) d pr_m227 38 [some (sR v0), some (sR v1), some (sI v2), some (sR v3), u4] [] g 0 0 := by
  unfold jO_putPath_38
  refine go_aload kk227_0.2.1.1.2.1 rfl ?_
  refine go_aload kk227_0.2.1.1.2.2 rfl ?_
  refine go_ck (fun q21 => ?_)
  refine go_getI (bI := 0) kk227_0.2.1.2.1.1 hg q21 (by decide) rfl rfl (fun r22 => ?_)
  refine go_callN0 kk227_0.2.1.2.1.2 rfl rfl rfl ⟨by decide, _, rfl, hK0⟩ ⟨Nat.zero_le _, Nat.zero_le _⟩ (by omega) (tfO_putNumber (by omega) hg hK0  r22) (fun y23 g25 e26 => ?_)
  refine go_aload kk227_0.2.1.2.2.1 rfl ?_
  refine go_int kk227_0.2.1.2.2.2 47 rfl ?_
  refine go_callN0 kk227_0.2.2.1.1.1 rfl rfl rfl ⟨by decide, _, rfl, hK0⟩ ⟨Nat.zero_le _, Nat.zero_le _⟩ (by omega) (tfO_putSign (by omega) e26 hK0  (inR_of (by decide))) (fun y27 g29 e30 => ?_)
  refine go_iinc kk227_0.2.2.1.1.2 rfl rfl (-1) rfl (loc2 := [some (sR v0), some (sR v1), some (sI (w32 (v2 + (-1)))), some (sR v3), u4]) rfl ?_
  refine go_goto kk227_0.2.2.1.2.1 ?_
  exact HX5 (w32 (v2 + (-1))) (inR_w32 _) g29 e30 (some (sR v3)) rfl u4 w4
theorem tbO_putPath_14 {Φ : ev_P} {d : Nat} (hd : 2 ≤ d) {X5 : Int → gH → Option (Int × gH)} {g : gH} (hg : HR g) {v0 v1 v2 : Int} (hK0 : kd v0 = 2) (h1 : RfR v1) (h2 : InR v2) (HX5 : ∀ (v2 : Int) (h2 : InR v2) (g : gH) (hg : HR g) (u3 : Option ev_V) (w3 : nwo u3) (u4 : Option ev_V) (w4 : nwo u4), Go Φ pr_P fN 0 (X5 v2 g) d pr_m227 5 [some (sR v0), some (sR v1), some (sI v2), u3, u4] [] g 0 0) {X14 : Int → Int → Option (Int × gH)} (HX14 : ∀ (v3 : Int) (h3 : RfR v3) (v4 : Int) (h4 : InR v4), Go Φ pr_P fN 0 (X14 v3 v4) d pr_m227 14 [some (sR v0), some (sR v1), some (sI v2), some (sR v3), some (sI v4)] [] g 0 0) : ∀ (v3 : Int) (h3 : RfR v3) (v4 : Int) (h4 : InR v4), Go Φ pr_P fN 0 (bO_putPath_14 X5 g v0 v1 v2 X14 v3 v4) d pr_m227 14 [some (sR v0), some (sR v1), some (sI v2), some (sR v3), some (sI v4)] [] g 0 0 := by
  intro v3 h3 v4 h4
  unfold bO_putPath_14
  refine go_iload kk227_0.1.2.1.1.1 rfl ?_
  refine go_iload kk227_0.1.2.1.1.2 rfl ?_
  refine go_cmlt kk227_0.1.2.1.2.1 h4 h2 (fun c14 => ?_) (fun c15 => ?_)
  · refine go_aload kk227_0.1.2.1.2.2 rfl ?_
    refine go_ck (fun q16 => ?_)
    refine go_getR (bI := 2) kk227_0.1.2.2.1.1 hg q16 (by decide) rfl rfl (fun r17 => ?_)
    refine go_isnull kk227_0.1.2.2.1.2  (fun c18 => ?_) (fun c19 => ?_)
    · exact tjO_putPath_38 hd hg hK0 h1 h2 h3 HX5 (some (sI v4)) rfl
    · refine go_aload kk227_0.1.2.2.2.1 rfl ?_
      refine go_getR (bI := 2) kk227_0.1.2.2.2.2 hg q16 (by decide) rfl rfl (fun r20 => ?_)
      refine go_astore kk227_0.2.1.1.1.1.1 rfl (loc2 := [some (sR v0), some (sR v1), some (sI v2), some (sR (g v3 2)), some (sI v4)]) rfl ?_
      refine go_iinc kk227_0.2.1.1.1.1.2 rfl rfl 1 rfl (loc2 := [some (sR v0), some (sR v1), some (sI v2), some (sR (g v3 2)), some (sI (w32 (v4 + 1)))]) rfl ?_
      refine go_goto kk227_0.2.1.1.1.2 ?_
      exact HX14 (g v3 2) r20 (w32 (v4 + 1)) (inR_w32 _)
  · exact tjO_putPath_38 hd hg hK0 h1 h2 h3 HX5 (some (sI v4)) rfl
theorem tlO_putPath_14 {Φ : ev_P} {d : Nat} (hd : 2 ≤ d) {X5 : Int → gH → Option (Int × gH)} {g : gH} (hg : HR g) {v0 v1 v2 : Int} (hK0 : kd v0 = 2) (h1 : RfR v1) (h2 : InR v2) (HX5 : ∀ (v2 : Int) (h2 : InR v2) (g : gH) (hg : HR g) (u3 : Option ev_V) (w3 : nwo u3) (u4 : Option ev_V) (w4 : nwo u4), Go Φ pr_P fN 0 (X5 v2 g) d pr_m227 5 [some (sR v0), some (sR v1), some (sI v2), u3, u4] [] g 0 0) : ∀ n : Nat, ∀ (v3 : Int) (h3 : RfR v3) (v4 : Int) (h4 : InR v4), Go Φ pr_P fN 0 (lO_putPath_14 X5 g v0 v1 v2 n v3 v4) d pr_m227 14 [some (sR v0), some (sR v1), some (sI v2), some (sR v3), some (sI v4)] [] g 0 0 := by
  intro n
  induction n with
  | zero => intros; exact go_none
  | succ n ih => exact tbO_putPath_14 hd hg hK0 h1 h2 HX5 ih
theorem tbO_putPath_5 {Φ : ev_P} {d : Nat} (hd : 2 ≤ d) {v0 v1 : Int} (hK0 : kd v0 = 2) (h1 : RfR v1) {X5 : Int → gH → Option (Int × gH)} (HX5 : ∀ (v2 : Int) (h2 : InR v2) (g : gH) (hg : HR g) (u3 : Option ev_V) (w3 : nwo u3) (u4 : Option ev_V) (w4 : nwo u4), Go Φ pr_P fN 0 (X5 v2 g) d pr_m227 5 [some (sR v0), some (sR v1), some (sI v2), u3, u4] [] g 0 0) : ∀ (v2 : Int) (h2 : InR v2) (g : gH) (hg : HR g) (u3 : Option ev_V) (w3 : nwo u3) (u4 : Option ev_V) (w4 : nwo u4), Go Φ pr_P fN 0 (bO_putPath_5 v0 v1 X5 v2 g) d pr_m227 5 [some (sR v0), some (sR v1), some (sI v2), u3, u4] [] g 0 0 := by
  intro v2 h2 g hg u3 w3 u4 w4
  unfold bO_putPath_5
  refine go_iload kk227_0.1.1.1.2.1 rfl ?_
  refine go_ifgt kk227_0.1.1.1.2.2 h2 (fun c6 => ?_) (fun c7 => ?_)
  · refine go_aload kk227_0.1.1.2.1.1 rfl ?_
    refine go_astore kk227_0.1.1.2.1.2 rfl (loc2 := [some (sR v0), some (sR v1), some (sI v2), some (sR v1), u4]) rfl ?_
    refine go_int kk227_0.1.1.2.2.1 0 rfl ?_
    refine go_istore kk227_0.1.1.2.2.2 rfl (loc2 := [some (sR v0), some (sR v1), some (sI v2), some (sR v1), some (sI 0)]) rfl ?_
    exact tlO_putPath_14 hd hg hK0 h1 h2 HX5 fu v1 h1 0 (inR_b (Or.inl rfl))
  · refine go_aload kk227_0.2.2.1.2.2 rfl ?_
    refine go_aload kk227_0.2.2.2.1.1 rfl ?_
    refine go_ck (fun q8 => ?_)
    refine go_getI (bI := 0) kk227_0.2.2.2.1.2 hg q8 (by decide) rfl rfl (fun r9 => ?_)
    refine go_callN0 kk227_0.2.2.2.2.1 rfl rfl rfl ⟨by decide, _, rfl, hK0⟩ ⟨Nat.zero_le _, Nat.zero_le _⟩ (by omega) (tfO_putNumber (by omega) hg hK0  r9) (fun y10 g12 e13 => ?_)
    exact go_vret kk227_0.2.2.2.2.2 e13 ⟨Nat.zero_le _, Nat.zero_le _⟩ rfl
theorem tlO_putPath_5 {Φ : ev_P} {d : Nat} (hd : 2 ≤ d) {v0 v1 : Int} (hK0 : kd v0 = 2) (h1 : RfR v1) : ∀ n : Nat, ∀ (v2 : Int) (h2 : InR v2) (g : gH) (hg : HR g) (u3 : Option ev_V) (w3 : nwo u3) (u4 : Option ev_V) (w4 : nwo u4), Go Φ pr_P fN 0 (lO_putPath_5 v0 v1 n v2 g) d pr_m227 5 [some (sR v0), some (sR v1), some (sI v2), u3, u4] [] g 0 0 := by
  intro n
  induction n with
  | zero => intros; exact go_none
  | succ n ih => exact tbO_putPath_5 hd hK0 h1 ih
theorem tfO_putPath {Φ : ev_P} {d : Nat} (hd : 2 ≤ d) {g : gH} (hg : HR g) {v0 v1 : Int} (hK0 : kd v0 = 2) (h1 : RfR v1) : Go Φ pr_P fN 0 (fO_putPath g v0 v1) d (pr_P 227) 0 (ev_loc (pr_P 227).1 [(sR v0), (sR v1)]) [] g 0 0 := by
  show Go Φ pr_P fN 0 (fO_putPath g v0 v1) d pr_m227 0 [some (sR v0), some (sR v1), none, none, none] [] g 0 0
  unfold fO_putPath
  refine go_aload kk227_0.1.1.1.1.1.1 rfl ?_
  refine go_ck (fun q1 => ?_)
  refine go_callP1 kk227_0.1.1.1.1.1.2 rfl rfl rfl ⟨by decide, _, rfl, q1⟩ ⟨Nat.zero_le _, Nat.zero_le _⟩ (by omega) (tfP_countAbove (by omega) hg q1 ) (fun y2 r3 => ?_)
  refine go_istore kk227_0.1.1.1.1.2 rfl (loc2 := [some (sR v0), some (sR v1), some (sI y2), none, none]) rfl ?_
  exact tlO_putPath_5 hd hK0 h1 fu y2 r3 g hg none rfl none rfl
