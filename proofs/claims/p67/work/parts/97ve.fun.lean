/-! ===== the law's and the JDK's methods as functions, and that the machine comes to what they tell (own work, by program: wip/p67/gen/lawdec.py) ===== -/
noncomputable def q170_copyOfRange (S : sS) (v0 : Int) (v1 : Int) (v2 : Int) : Option (Int × sS) :=
  if v1 = 0 then (if sK S v0 = 21 then bnd (sZ S v0) (fun r4 => if v2 = r4 then (if sn S < 1000000 then if v0 < 1000000 then bnd (sn S) (fun p8 => bnd (cpS (nS S 21 (sZ S v0)) v0 0 (sn S) 0 (sZ S v0)) (fun S9 => some (p8, S9))) else none else none) else (bdS (q169_copyOfRangeByte S v0 v1 v2) (fun y16 S17 => some (y16, S17)))) else none) else (bdS (q169_copyOfRangeByte S v0 v1 v2) (fun y21 S22 => some (y21, S22)))
theorem tq170_copyOfRange {κ : CX} (hQ : κ.2.2.2.2.2.2.2.2.2 = (ql_I, ql_P)) {n0 s0 : Int} {d : Nat} (hd : 3 ≤ d) {S : sS} (hW : WF2 κ S) {v0 v1 v2 : Int}  (h0 : RfA v0) (h1 : InR v1) (h2 : InR v2) : G2 κ ql_i170 ql_m170 2 d n0 s0 (q170_copyOfRange S v0 v1 v2) 0 (ev_loc ql_m170.1 [(sR v0), (sI v1), (sI v2)]) [] S := by
  unfold q170_copyOfRange
  refine g2_iload qk170_0.1.1.1.1 rfl ?_
  refine g2_ifeq qk170_0.1.1.1.2 h1 (fun c1 => ?_) (fun c2 => ?_)
  · refine g2_iload qk170_0.1.1.2.1 rfl ?_
    refine g2_aload qk170_0.1.1.2.2 rfl ?_
    refine g2_ck (fun q3 => ?_)
    refine g2_kn (ka2 q3 (by decide)) (g2_alen qk170_0.1.2.1.1 hW (fun r4 h5 => ?_))
    refine g2_cmeq qk170_0.1.2.1.2 h2 h5 (fun c6 => ?_) (fun c7 => ?_)
    · refine g2_aload qk170_0.2.1.2.2 rfl ?_
      refine g2_ck (fun q14 => ?_)
      refine g2_ck (fun q15 => ?_)
      refine g2_kn ⟨⟨q3, q15⟩, q14⟩ (g2_clone qk170_0.2.2.1.1 hW rfl (fun p8 S9 h10 k11 w12 e13 => ?_))
      refine g2_kn ⟨k11.1, (rfO_of h10).2⟩ (g2_castB qk170_0.2.2.1.2 w12 ?_)
      exact g2_aret qk170_0.2.2.2 w12 (rfO_of h10)
    · refine g2_aload qk170_0.1.2.2.1 rfl ?_
      refine g2_iload qk170_0.1.2.2.2 rfl ?_
      refine g2_iload qk170_0.2.1.1.1 rfl ?_
      refine g2_callS (t' := 2) qk170_0.2.1.1.2 (by decide) (ql_ip169 hQ) rfl rfl rfl rfl (by omega) (tq169_copyOfRangeByte hQ (by omega) hW h0 h1 h2) (fun y16 S17 h18 w19 e20 => ?_)
      exact g2_aret qk170_0.2.1.2.1 w19 h18
  · refine g2_aload qk170_0.1.2.2.1 rfl ?_
    refine g2_iload qk170_0.1.2.2.2 rfl ?_
    refine g2_iload qk170_0.2.1.1.1 rfl ?_
    refine g2_callS (t' := 2) qk170_0.2.1.1.2 (by decide) (ql_ip169 hQ) rfl rfl rfl rfl (by omega) (tq169_copyOfRangeByte hQ (by omega) hW h0 h1 h2) (fun y21 S22 h23 w24 e25 => ?_)
    exact g2_aret qk170_0.2.1.2.1 w24 h23
noncomputable def j171_79 (v0 : Int) (v3 : Int) (v4 : Int) (S : sS) : Option (Int × sS) :=
  if -128 ≤ 1 ∧ 1 < 128 then bnd (uS S v0 1 1) (fun S38 => bdS (q170_copyOfRange S38 v3 0 (opI 4 v4 1)) (fun y41 S42 => bnd (uS S42 v0 0 y41) (fun S46 => some (0, S46)))) else none
theorem tj171_79 {κ : CX} (hQ : κ.2.2.2.2.2.2.2.2.2 = (ql_I, ql_P)) {n0 s0 : Int} {d : Nat} (hd : 4 ≤ d) {v0 v3 v4 : Int} (h0 : RfO v0) (h3 : RfO v3) (h4 : InR v4) (S : sS) (hW : WF2 κ S) (hK0 : sK S v0 = 12) (u1 : Option ev_V) (w1 : nwo u1) (u2 : Option ev_V) (w2 : nwo u2) : G2 κ ql_i171 ql_m171 0 d n0 s0 (j171_79 v0 v3 v4 S) 79 [some (sR v0), u1, u2, some (sR v3), some (sI v4)] [] S := by
  unfold j171_79
  refine g2_aload qk171_0.2.1.2.2.1 rfl ?_
  refine g2_int qk171_0.2.1.2.2.2 1 rfl ?_
  refine g2_ck (fun q37 => ?_)
  refine g2_kn ⟨⟨hK0, h0.2⟩, q37⟩ (g2_put65 qk171_0.2.2.1.1.1.1 hW ⟨by decide, by decide, rfl⟩ (fun S38 w39 e40 => ?_))
  refine g2_aload qk171_0.2.2.1.1.1.2 rfl ?_
  refine g2_aload qk171_0.2.2.1.1.2 rfl ?_
  refine g2_int qk171_0.2.2.1.2.1 0 rfl ?_
  refine g2_iload qk171_0.2.2.1.2.2 rfl ?_
  refine g2_int qk171_0.2.2.2.1.1.1 1 rfl ?_
  refine g2_ibin qk171_0.2.2.2.1.1.2 ?_
  refine g2_callS (t' := 2) qk171_0.2.2.2.1.2 (by decide) (ql_ip170 hQ) rfl rfl rfl rfl (by omega) (tq170_copyOfRange hQ (by omega) w39 (rfA_of h3) (inR_b (Or.inl rfl)) (inR_opI _ _ _)) (fun y41 S42 h43 w44 e45 => ?_)
  refine g2_kn ⟨(ek e45 (ek e40 hK0 (by decide)) (by decide)), h0.2⟩ (g2_putA qk171_0.2.2.2.2.1 w44 ⟨by decide, by decide, rfl⟩ (rfA_of h43) (fun S46 w47 e48 => ?_))
  exact g2_vret qk171_0.2.2.2.2.2 w47
noncomputable def q171_init (S : sS) (v0 : Int) (v1 : Int) : Option (Int × sS) :=
  if sK S v1 = 11 then bdS (q165_getValue S v1) (fun y2 S3 => bdS (q167_length S3 v1) (fun y7 S8 => bdS (q149_isLatin1 S8 v1) (fun y12 S13 => if y12 = 0 then (if 1 = 0 then (j171_79 v0 y2 y7 S13) else (bnd (sg S13 v1 2) (fun r21 => if r21 = 0 then (j171_79 v0 y2 y7 S13) else (none)))) else (if -128 ≤ 0 ∧ 0 < 128 then bnd (uS S13 v0 1 0) (fun S26 => bdS (q170_copyOfRange S26 y2 0 y7) (fun y29 S30 => bnd (uS S30 v0 0 y29) (fun S34 => some (0, S34)))) else none)))) else none
theorem tq171_init {κ : CX} (hQ : κ.2.2.2.2.2.2.2.2.2 = (ql_I, ql_P)) {n0 s0 : Int} {d : Nat} (hd : 4 ≤ d) {S : sS} (hW : WF2 κ S) {v0 v1 v2 : Int} (hK0 : sK S v0 = 12) (h0 : RfO v0) (h1 : RfO v1) (h2 : RfA v2) : G2 κ ql_i171 ql_m171 0 d n0 s0 (q171_init S v0 v1) 0 (ev_loc ql_m171.1 [(sR v0), (sR v1), (sR v2)]) [] S := by
  unfold q171_init
  refine g2_aload qk171_0.1.1.1.1.1.1 rfl ?_
  refine g2_objinit qk171_0.1.1.1.1.1.2 rfl (kn_pos hW.2.1 hK0 (by decide)) ?_
  refine g2_aload qk171_0.1.1.1.1.2 rfl ?_
  refine g2_ck (fun q1 => ?_)
  refine g2_kn q1 (g2_callU (t' := 2) qk171_0.1.1.1.2.1.1 (by decide) (ql_ip165 hQ) rfl rfl rfl (by omega) hW (tq165_getValue hQ (by omega) hW q1 h1) (fun y2 S3 h4 w5 e6 => ?_))
  refine g2_astore qk171_0.1.1.1.2.1.2 rfl (loc2 := [some (sR v0), some (sR v1), some (sR v2), some (sR y2), none]) rfl ?_
  refine g2_aload qk171_0.1.1.1.2.2 rfl ?_
  refine g2_kn (ek e6 q1 (by decide)) (g2_callU (t' := 1) qk171_0.1.1.2.1.1.1 (by decide) (ql_ip167 hQ) rfl rfl rfl (by omega) w5 (tq167_length hQ (by omega) w5 (ek e6 q1 (by decide)) h1) (fun y7 S8 h9 w10 e11 => ?_))
  refine g2_istore qk171_0.1.1.2.1.1.2 rfl (loc2 := [some (sR v0), some (sR v1), some (sR v2), some (sR y2), some (sI y7)]) rfl ?_
  refine g2_aload qk171_0.1.1.2.1.2 rfl ?_
  refine g2_kn (ek e11 (ek e6 q1 (by decide)) (by decide)) (g2_callU (t' := 3) qk171_0.1.1.2.2.1 (by decide) (ql_ip149 hQ) rfl rfl rfl (by omega) w10 (tq149_isLatin1 hQ (by omega) w10 (ek e11 (ek e6 q1 (by decide)) (by decide)) h1) (fun y12 S13 h14 w15 e16 => ?_))
  refine g2_ifeq qk171_0.1.1.2.2.2 (inR_b h14) (fun c17 => ?_) (fun c18 => ?_)
  · refine g2_gets0 qk171_0.2.1.1.1.1.1 ?_
    refine g2_ifeq qk171_0.2.1.1.1.1.2 (inR_b (Or.inr rfl)) (fun c19 => ?_) (fun c20 => ?_)
    · exact tj171_79 hQ hd h0 h4 h9 S13 w15 (ek e16 (ek e11 (ek e6 hK0 (by decide)) (by decide)) (by decide)) (some (sR v1)) rfl (some (sR v2)) rfl
    · refine g2_aload qk171_0.2.1.1.1.2 rfl ?_
      refine g2_kn (ek e16 (ek e11 (ek e6 q1 (by decide)) (by decide)) (by decide)) (g2_getB qk171_0.2.1.1.2.1.1 w15 ⟨by decide, by decide, by decide, rfl⟩ (fun r21 h22 => ?_))
      refine g2_ifeq qk171_0.2.1.1.2.1.2 (inR_b h22) (fun c23 => ?_) (fun c24 => ?_)
      · exact tj171_79 hQ hd h0 h4 h9 S13 w15 (ek e16 (ek e11 (ek e6 hK0 (by decide)) (by decide)) (by decide)) (some (sR v1)) rfl (some (sR v2)) rfl
      · refine g2_aload qk171_0.2.1.1.2.2 rfl ?_
        refine g2_aload qk171_0.2.1.2.1.1.1 rfl ?_
        refine g2_int qk171_0.2.1.2.1.1.2 0 rfl ?_
        refine g2_iload qk171_0.2.1.2.1.2 rfl ?_
        exact g2_none
  · refine g2_aload qk171_0.1.2.1.1.1.1 rfl ?_
    refine g2_int qk171_0.1.2.1.1.1.2 0 rfl ?_
    refine g2_ck (fun q25 => ?_)
    refine g2_kn ⟨⟨(ek e16 (ek e11 (ek e6 hK0 (by decide)) (by decide)) (by decide)), h0.2⟩, q25⟩ (g2_put65 qk171_0.1.2.1.1.2 w15 ⟨by decide, by decide, rfl⟩ (fun S26 w27 e28 => ?_))
    refine g2_aload qk171_0.1.2.1.2.1 rfl ?_
    refine g2_aload qk171_0.1.2.1.2.2 rfl ?_
    refine g2_int qk171_0.1.2.2.1.1.1 0 rfl ?_
    refine g2_iload qk171_0.1.2.2.1.1.2 rfl ?_
    refine g2_callS (t' := 2) qk171_0.1.2.2.1.2 (by decide) (ql_ip170 hQ) rfl rfl rfl rfl (by omega) (tq170_copyOfRange hQ (by omega) w27 (rfA_of h4) (inR_b (Or.inl rfl)) h9) (fun y29 S30 h31 w32 e33 => ?_)
    refine g2_kn ⟨(ek e33 (ek e28 (ek e16 (ek e11 (ek e6 hK0 (by decide)) (by decide)) (by decide)) (by decide)) (by decide)), h0.2⟩ (g2_putA qk171_0.1.2.2.2.1 w32 ⟨by decide, by decide, rfl⟩ (rfA_of h31) (fun S34 w35 e36 => ?_))
    refine g2_goto qk171_0.1.2.2.2.2 ?_
    exact g2_vret qk171_0.2.2.2.2.2 w35
noncomputable def q172_init (S : sS) (v0 : Int) (v1 : Int) : Option (Int × sS) :=
  bdS (q171_init S v0 v1) (fun y1 S2 => some (0, S2))
theorem tq172_init {κ : CX} (hQ : κ.2.2.2.2.2.2.2.2.2 = (ql_I, ql_P)) {n0 s0 : Int} {d : Nat} (hd : 5 ≤ d) {S : sS} (hW : WF2 κ S) {v0 v1 : Int} (hK0 : sK S v0 = 12) (h0 : RfO v0) (h1 : RfO v1) : G2 κ ql_i172 ql_m172 0 d n0 s0 (q172_init S v0 v1) 0 (ev_loc ql_m172.1 [(sR v0), (sR v1)]) [] S := by
  unfold q172_init
  refine g2_aload qk172_0.1.1.1 rfl ?_
  refine g2_aload qk172_0.1.1.2 rfl ?_
  refine g2_null qk172_0.1.2 ?_
  refine g2_kn (kn_pos hW.2.1 hK0 (by decide)) (g2_callI qk172_0.2.1 (by decide) (ql_ip171 hQ) rfl rfl rfl (by omega) ⟨_, qd_172_3⟩ (tq171_init hQ (by omega) hW hK0 h0 h1 (rfA_of rfO_null)) (fun y1 S2 w4 e5 => ?_))
  exact g2_vret qk172_0.2.2 w4
noncomputable def q173_toString (S : sS) (v0 : Int) : Option (Int × sS) :=
  if sn S < 1000000 then bnd (sn S) (fun p1 => bnd (nS S 12 4) (fun S2 => bdS (q172_init S2 p1 v0) (fun y8 S9 => some (p1, S9)))) else none
theorem tq173_toString {κ : CX} (hQ : κ.2.2.2.2.2.2.2.2.2 = (ql_I, ql_P)) {n0 s0 : Int} {d : Nat} (hd : 6 ≤ d) {S : sS} (hW : WF2 κ S) {v0 : Int} (hK0 : sK S v0 = 11) (h0 : RfO v0) : G2 κ ql_i173 ql_m173 2 d n0 s0 (q173_toString S v0) 0 (ev_loc ql_m173.1 [(sR v0)]) [] S := by
  unfold q173_toString
  refine g2_ck (fun q7 => ?_)
  refine g2_kn q7 (g2_new qk173_0.1.1.1 hW ⟨⟨by decide, by decide⟩, rfl, by decide⟩ rfl (fun p1 S2 h3 k4 w5 e6 => ?_))
  refine g2_dupR qk173_0.1.1.2 ?_
  refine g2_aload qk173_0.1.2 rfl ?_
  refine g2_kn (kn_pos w5.2.1 k4.1 (by decide)) (g2_callI qk173_0.2.1 (by decide) (ql_ip172 hQ) rfl rfl rfl (by omega) ⟨_, qd_173_5⟩ (tq172_init hQ (by omega) w5 k4.1 (rfO_of h3) h0) (fun y8 S9 w11 e12 => ?_))
  exact g2_aret qk173_0.2.2 w11 (rfO_of h3)
noncomputable def b102_353 (X330 : sS → Option (Int × sS)) (v2 : Int) (v3 : Int) (v4 : Int) (X353 : Int → sS → Option (Int × sS)) (v5 : Int) (S : sS) : Option (Int × sS) :=
  if v5 < 8 then (if sK S v4 = 7 then bnd (sg S v4 12) (fun r316 => if sK S r316 = 27 then if 0 ≤ v5 ∧ v5 < sZ S r316 then bnd (sg S r316 v5) (fun r320 => if r320 < 0 then (X353 (w32 (v5 + 1)) S) else (if sK S v2 = 11 then bdS (q154_append S v2 2000110) (fun y325 S326 => bnd (sg S326 v4 0) (fun r330 => if sK S326 y325 = 11 then bdS (q161_append S326 y325 r330) (fun y333 S334 => if sK S334 y333 = 11 then bdS (q164_append S334 y333 32) (fun y339 S340 => if sK S340 y339 = 11 then bdS (q161_append S340 y339 v5) (fun y345 S346 => if sK S346 y345 = 11 then bdS (q164_append S346 y345 32) (fun y351 S352 => bnd (sg S352 v4 12) (fun r356 => if sK S352 r356 = 27 then if 0 ≤ v5 ∧ v5 < sZ S352 r356 then bnd (sg S352 r356 v5) (fun r360 => if sK S352 r360 = 7 then bnd (sg S352 r360 0) (fun r363 => if sK S352 y351 = 11 then bdS (q161_append S352 y351 r363) (fun y366 S367 => if sK S367 y366 = 11 then bdS (q164_append S367 y366 59) (fun y372 S373 => X353 (w32 (v5 + 1)) S373) else none) else none) else none) else none else none)) else none) else none) else none) else none)) else none)) else none else none) else none) else (X330 S)
noncomputable def l102_353 (X330 : sS → Option (Int × sS)) (v2 : Int) (v3 : Int) (v4 : Int) (n : Nat) : Int → sS → Option (Int × sS) := Nat.rec (motive := fun _ => Int → sS → Option (Int × sS)) (fun _ _ => none) (fun _ ih => b102_353 X330 v2 v3 v4 ih) n
theorem tb102_353 {κ : CX} (hQ : κ.2.2.2.2.2.2.2.2.2 = (ql_I, ql_P)) {n0 s0 : Int} {d : Nat} (hd : 10 ≤ d) {v2 v3 v4 : Int} (h2 : RfO v2) (h3 : RfO v3) (h4 : RfO v4) {X330 : sS → Option (Int × sS)} (HX330 : ∀ (S : sS) (hW : WF2 κ S) (u0 : Option ev_V) (w0 : nwo u0) (u1 : Option ev_V) (w1 : nwo u1) (u4 : Option ev_V) (w4 : nwo u4) (u5 : Option ev_V) (w5 : nwo u5) (u6 : Option ev_V) (w6 : nwo u6), G2 κ ql_i102 ql_m102 2 d n0 s0 (X330 S) 330 [u0, u1, some (sR v2), some (sR v3), u4, u5, u6] [] S) {X353 : Int → sS → Option (Int × sS)} (HX353 : ∀ (v5 : Int) (h5 : InR v5) (S : sS) (hW : WF2 κ S) (u0 : Option ev_V) (w0 : nwo u0) (u1 : Option ev_V) (w1 : nwo u1) (u6 : Option ev_V) (w6 : nwo u6), G2 κ ql_i102 ql_m102 2 d n0 s0 (X353 v5 S) 353 [u0, u1, some (sR v2), some (sR v3), some (sR v4), some (sI v5), u6] [] S) : ∀ (v5 : Int) (h5 : InR v5) (S : sS) (hW : WF2 κ S) (u0 : Option ev_V) (w0 : nwo u0) (u1 : Option ev_V) (w1 : nwo u1) (u6 : Option ev_V) (w6 : nwo u6), G2 κ ql_i102 ql_m102 2 d n0 s0 (b102_353 X330 v2 v3 v4 X353 v5 S) 353 [u0, u1, some (sR v2), some (sR v3), some (sR v4), some (sI v5), u6] [] S := by
  intro v5 h5 S hW u0 w0 u1 w1 u6 w6
  unfold b102_353
  refine g2_iload qk102_3.1.2.1.1.2 rfl ?_
  refine g2_int qk102_3.1.2.1.2.1.1 8 rfl ?_
  refine g2_cmlt qk102_3.1.2.1.2.1.2 h5 (inR_of (by decide)) (fun c313 => ?_) (fun c314 => ?_)
  · refine g2_aload qk102_3.1.2.1.2.2 rfl ?_
    refine g2_ck (fun q315 => ?_)
    refine g2_kn q315 (g2_getR qk102_3.1.2.2.1.1.1 hW ⟨by decide, by decide, by decide, rfl⟩ (fun r316 h317 => ?_))
    refine g2_iload qk102_3.1.2.2.1.1.2 rfl ?_
    refine g2_ck (fun q318 => ?_)
    refine g2_ck (fun q319 => ?_)
    refine g2_kn ⟨Or.inr q318, q319⟩ (g2_aald qk102_3.1.2.2.1.2 hW (fun r320 h321 => ?_))
    refine g2_isnull qk102_3.1.2.2.2.1.1 (fun c322 => ?_) (fun c323 => ?_)
    · refine g2_iinc qk102_3.2.2.2.1.1.1 rfl rfl 1 rfl (loc2 := [u0, u1, some (sR v2), some (sR v3), some (sR v4), some (sI (w32 (v5 + 1))), u6]) rfl ?_
      refine g2_goto qk102_3.2.2.2.1.1.2 ?_
      exact HX353 (w32 (v5 + 1)) (inR_w32 _) S hW u0 w0 u1 w1 u6 w6
    · refine g2_aload qk102_3.1.2.2.2.1.2 rfl ?_
      refine g2_ldcs qk102_3.1.2.2.2.2 (v := 2000110) rfl ?_
      refine g2_ck (fun q324 => ?_)
      refine g2_kn q324 (g2_callV (t' := 2) qk102_3.2.1.1.1.1.1 (by decide) (ql_ip154 hQ) (by decide) rfl rfl rfl (by omega) hW (tq154_append hQ (by omega) hW q324 h2 (rfA_of2 (by decide))) (fun y325 S326 h327 w328 e329 => ?_))
      refine g2_aload qk102_3.2.1.1.1.1.2 rfl ?_
      refine g2_kn (ek e329 q315 (by decide)) (g2_getI qk102_3.2.1.1.1.2.1 w328 ⟨by decide, by decide, by decide, rfl⟩ (fun r330 h331 => ?_))
      refine g2_ck (fun q332 => ?_)
      refine g2_kn q332 (g2_callV (t' := 2) qk102_3.2.1.1.1.2.2 (by decide) (ql_ip161 hQ) (by decide) rfl rfl rfl (by omega) w328 (tq161_append hQ (by omega) w328 q332 h327 h331) (fun y333 S334 h335 w336 e337 => ?_))
      refine g2_int qk102_3.2.1.1.2.1.1 32 rfl ?_
      refine g2_ck (fun q338 => ?_)
      refine g2_kn q338 (g2_callV (t' := 2) qk102_3.2.1.1.2.1.2 (by decide) (ql_ip164 hQ) (by decide) rfl rfl rfl (by omega) w336 (tq164_append hQ (by omega) w336 q338 h335 (inR_of (by decide))) (fun y339 S340 h341 w342 e343 => ?_))
      refine g2_iload qk102_3.2.1.1.2.2 rfl ?_
      refine g2_ck (fun q344 => ?_)
      refine g2_kn q344 (g2_callV (t' := 2) qk102_3.2.1.2.1.1.1 (by decide) (ql_ip161 hQ) (by decide) rfl rfl rfl (by omega) w342 (tq161_append hQ (by omega) w342 q344 h341 h5) (fun y345 S346 h347 w348 e349 => ?_))
      refine g2_int qk102_3.2.1.2.1.1.2 32 rfl ?_
      refine g2_ck (fun q350 => ?_)
      refine g2_kn q350 (g2_callV (t' := 2) qk102_3.2.1.2.1.2 (by decide) (ql_ip164 hQ) (by decide) rfl rfl rfl (by omega) w348 (tq164_append hQ (by omega) w348 q350 h347 (inR_of (by decide))) (fun y351 S352 h353 w354 e355 => ?_))
      refine g2_aload qk102_3.2.1.2.2.1.1 rfl ?_
      refine g2_kn (ek e355 (ek e349 (ek e343 (ek e337 (ek e329 q315 (by decide)) (by decide)) (by decide)) (by decide)) (by decide)) (g2_getR qk102_3.2.1.2.2.1.2 w354 ⟨by decide, by decide, by decide, rfl⟩ (fun r356 h357 => ?_))
      refine g2_iload qk102_3.2.1.2.2.2 rfl ?_
      refine g2_ck (fun q358 => ?_)
      refine g2_ck (fun q359 => ?_)
      refine g2_kn ⟨Or.inr q358, q359⟩ (g2_aald qk102_3.2.2.1.1.1.1 w354 (fun r360 h361 => ?_))
      refine g2_ck (fun q362 => ?_)
      refine g2_kn q362 (g2_getI qk102_3.2.2.1.1.1.2 w354 ⟨by decide, by decide, by decide, rfl⟩ (fun r363 h364 => ?_))
      refine g2_ck (fun q365 => ?_)
      refine g2_kn q365 (g2_callV (t' := 2) qk102_3.2.2.1.1.2 (by decide) (ql_ip161 hQ) (by decide) rfl rfl rfl (by omega) w354 (tq161_append hQ (by omega) w354 q365 h353 h364) (fun y366 S367 h368 w369 e370 => ?_))
      refine g2_int qk102_3.2.2.1.2.1.1 59 rfl ?_
      refine g2_ck (fun q371 => ?_)
      refine g2_kn q371 (g2_callV (t' := 2) qk102_3.2.2.1.2.1.2 (by decide) (ql_ip164 hQ) (by decide) rfl rfl rfl (by omega) w369 (tq164_append hQ (by omega) w369 q371 h368 (inR_of (by decide))) (fun y372 S373 h374 w375 e376 => ?_))
      refine g2_popR qk102_3.2.2.1.2.2 ?_
      refine g2_iinc qk102_3.2.2.2.1.1.1 rfl rfl 1 rfl (loc2 := [u0, u1, some (sR v2), some (sR v3), some (sR v4), some (sI (w32 (v5 + 1))), u6]) rfl ?_
      refine g2_goto qk102_3.2.2.2.1.1.2 ?_
      exact HX353 (w32 (v5 + 1)) (inR_w32 _) S373 w375 u0 w0 u1 w1 u6 w6
  · refine g2_goto qk102_3.2.2.2.1.2 ?_
    exact HX330 S hW u0 w0 u1 w1 (some (sR v4)) rfl (some (sI v5)) rfl u6 w6
theorem tl102_353 {κ : CX} (hQ : κ.2.2.2.2.2.2.2.2.2 = (ql_I, ql_P)) {n0 s0 : Int} {d : Nat} (hd : 10 ≤ d) {v2 v3 v4 : Int} (h2 : RfO v2) (h3 : RfO v3) (h4 : RfO v4) {X330 : sS → Option (Int × sS)} (HX330 : ∀ (S : sS) (hW : WF2 κ S) (u0 : Option ev_V) (w0 : nwo u0) (u1 : Option ev_V) (w1 : nwo u1) (u4 : Option ev_V) (w4 : nwo u4) (u5 : Option ev_V) (w5 : nwo u5) (u6 : Option ev_V) (w6 : nwo u6), G2 κ ql_i102 ql_m102 2 d n0 s0 (X330 S) 330 [u0, u1, some (sR v2), some (sR v3), u4, u5, u6] [] S) : ∀ n : Nat, ∀ (v5 : Int) (h5 : InR v5) (S : sS) (hW : WF2 κ S) (u0 : Option ev_V) (w0 : nwo u0) (u1 : Option ev_V) (w1 : nwo u1) (u6 : Option ev_V) (w6 : nwo u6), G2 κ ql_i102 ql_m102 2 d n0 s0 (l102_353 X330 v2 v3 v4 n v5 S) 353 [u0, u1, some (sR v2), some (sR v3), some (sR v4), some (sI v5), u6] [] S := by
  intro n
  induction n with
  | zero =>
    intro v5 h5 S hW u0 w0 u1 w1 u6 w6
    exact g2_none
  | succ n ih =>
    exact tb102_353 hQ hd h2 h3 h4 HX330 ih
noncomputable def b102_330 (v2 : Int) (v3 : Int) (X330 : sS → Option (Int × sS)) (S : sS) : Option (Int × sS) :=
  if sK S v3 = 10 then bdS (q137_hasNext S v3) (fun y294 S295 => if y294 = 0 then (if sK S295 v2 = 11 then bdS (q173_toString S295 v2) (fun y302 S303 => some (y302, S303)) else none) else (bdS (q139_next S295 v3) (fun y307 S308 => if y307 = -1 ∨ sK S308 y307 = 7 then l102_353 X330 v2 v3 y307 fu 0 S308 else none))) else none
noncomputable def l102_330 (v2 : Int) (v3 : Int) (n : Nat) : sS → Option (Int × sS) := Nat.rec (motive := fun _ => sS → Option (Int × sS)) (fun _ => none) (fun _ ih => b102_330 v2 v3 ih) n
theorem tb102_330 {κ : CX} (hQ : κ.2.2.2.2.2.2.2.2.2 = (ql_I, ql_P)) {n0 s0 : Int} {d : Nat} (hd : 10 ≤ d) {v2 v3 : Int} (h2 : RfO v2) (h3 : RfO v3) {X330 : sS → Option (Int × sS)} (HX330 : ∀ (S : sS) (hW : WF2 κ S) (u0 : Option ev_V) (w0 : nwo u0) (u1 : Option ev_V) (w1 : nwo u1) (u4 : Option ev_V) (w4 : nwo u4) (u5 : Option ev_V) (w5 : nwo u5) (u6 : Option ev_V) (w6 : nwo u6), G2 κ ql_i102 ql_m102 2 d n0 s0 (X330 S) 330 [u0, u1, some (sR v2), some (sR v3), u4, u5, u6] [] S) : ∀ (S : sS) (hW : WF2 κ S) (u0 : Option ev_V) (w0 : nwo u0) (u1 : Option ev_V) (w1 : nwo u1) (u4 : Option ev_V) (w4 : nwo u4) (u5 : Option ev_V) (w5 : nwo u5) (u6 : Option ev_V) (w6 : nwo u6), G2 κ ql_i102 ql_m102 2 d n0 s0 (b102_330 v2 v3 X330 S) 330 [u0, u1, some (sR v2), some (sR v3), u4, u5, u6] [] S := by
  intro S hW u0 w0 u1 w1 u4 w4 u5 w5 u6 w6
  unfold b102_330
  refine g2_aload qk102_3.1.1.1.2.2 rfl ?_
  refine g2_ck (fun q293 => ?_)
  refine g2_kn q293 (g2_callF (t' := 3) qk102_3.1.1.2.1.1.1 (by decide) (ql_ip137 hQ) rfl rfl rfl (by omega) hW (tq137_hasNext hQ (by omega) hW q293 h3) (fun y294 S295 h296 w297 e298 => ?_))
  refine g2_ifeq qk102_3.1.1.2.1.1.2 (inR_b h296) (fun c299 => ?_) (fun c300 => ?_)
  · refine g2_aload qk102_3.2.2.2.2.1.1 rfl ?_
    refine g2_ck (fun q301 => ?_)
    refine g2_kn q301 (g2_callV (t' := 2) qk102_3.2.2.2.2.1.2 (by decide) (ql_ip173 hQ) (by decide) rfl rfl rfl (by omega) w297 (tq173_toString hQ (by omega) w297 q301 h2) (fun y302 S303 h304 w305 e306 => ?_))
    exact g2_aret qk102_3.2.2.2.2.2 w305 h304
  · refine g2_aload qk102_3.1.1.2.1.2 rfl ?_
    refine g2_kn (ek e298 q293 (by decide)) (g2_callF (t' := 2) qk102_3.1.1.2.2.1.1 (by decide) (ql_ip139 hQ) rfl rfl rfl (by omega) w297 (tq139_next hQ (by omega) w297 (ek e298 q293 (by decide)) h3) (fun y307 S308 h309 w310 e311 => ?_))
    refine g2_ck (fun q312 => ?_)
    refine g2_kn q312 (g2_cast7 qk102_3.1.1.2.2.1.2 w310 h309 ?_)
    refine g2_astore qk102_3.1.1.2.2.2 rfl (loc2 := [u0, u1, some (sR v2), some (sR v3), some (sR y307), u5, u6]) rfl ?_
    refine g2_int qk102_3.1.2.1.1.1.1 0 rfl ?_
    refine g2_istore qk102_3.1.2.1.1.1.2 rfl (loc2 := [u0, u1, some (sR v2), some (sR v3), some (sR y307), some (sI 0), u6]) rfl ?_
    exact tl102_353 hQ hd h2 h3 h309 HX330 fu 0 (inR_b (Or.inl rfl)) S308 w310 u0 w0 u1 w1 u6 w6
theorem tl102_330 {κ : CX} (hQ : κ.2.2.2.2.2.2.2.2.2 = (ql_I, ql_P)) {n0 s0 : Int} {d : Nat} (hd : 10 ≤ d) {v2 v3 : Int} (h2 : RfO v2) (h3 : RfO v3) : ∀ n : Nat, ∀ (S : sS) (hW : WF2 κ S) (u0 : Option ev_V) (w0 : nwo u0) (u1 : Option ev_V) (w1 : nwo u1) (u4 : Option ev_V) (w4 : nwo u4) (u5 : Option ev_V) (w5 : nwo u5) (u6 : Option ev_V) (w6 : nwo u6), G2 κ ql_i102 ql_m102 2 d n0 s0 (l102_330 v2 v3 n S) 330 [u0, u1, some (sR v2), some (sR v3), u4, u5, u6] [] S := by
  intro n
  induction n with
  | zero =>
    intro S hW u0 w0 u1 w1 u4 w4 u5 w5 u6 w6
    exact g2_none
  | succ n ih =>
    exact tb102_330 hQ hd h2 h3 ih
noncomputable def j102_320 (v0 : Int) (v2 : Int) (S : sS) : Option (Int × sS) :=
  bnd (sg S v0 0) (fun r285 => if sK S r285 = 9 then bdS (q136_iterator S r285) (fun y288 S289 => l102_330 v2 y288 fu S289) else none)
theorem tj102_320 {κ : CX} (hQ : κ.2.2.2.2.2.2.2.2.2 = (ql_I, ql_P)) {n0 s0 : Int} {d : Nat} (hd : 10 ≤ d) {v0 v2 : Int} (h0 : RfO v0) (h2 : RfO v2) (S : sS) (hW : WF2 κ S) (hK0 : sK S v0 = 8) (u1 : Option ev_V) (w1 : nwo u1) (u3 : Option ev_V) (w3 : nwo u3) (u4 : Option ev_V) (w4 : nwo u4) (u5 : Option ev_V) (w5 : nwo u5) (u6 : Option ev_V) (w6 : nwo u6) : G2 κ ql_i102 ql_m102 2 d n0 s0 (j102_320 v0 v2 S) 320 [some (sR v0), u1, some (sR v2), u3, u4, u5, u6] [] S := by
  unfold j102_320
  refine g2_aload qk102_3.1.1.1.1.2.1 rfl ?_
  refine g2_kn hK0 (g2_getR qk102_3.1.1.1.1.2.2 hW ⟨by decide, by decide, by decide, rfl⟩ (fun r285 h286 => ?_))
  refine g2_ck (fun q287 => ?_)
  refine g2_kn q287 (g2_callF (t' := 2) qk102_3.1.1.1.2.1.1 (by decide) (ql_ip136 hQ) rfl rfl rfl (by omega) hW (tq136_iterator hQ (by omega) hW q287 h286) (fun y288 S289 h290 w291 e292 => ?_))
  refine g2_astore qk102_3.1.1.1.2.1.2 rfl (loc2 := [some (sR v0), u1, some (sR v2), some (sR y288), u4, u5, u6]) rfl ?_
  exact tl102_330 hQ hd h2 h290 fu S289 w291 (some (sR v0)) rfl u1 w1 u4 w4 u5 w5 u6 w6
noncomputable def b102_276 (v0 : Int) (v2 : Int) (X276 : Int → sS → Option (Int × sS)) (v3 : Int) (S : sS) : Option (Int × sS) :=
  if v3 < 4 then (if sK S v2 = 11 then bdS (q154_append S v2 2000109) (fun y247 S248 => if sK S248 y247 = 11 then bdS (q161_append S248 y247 v3) (fun y253 S254 => if sK S254 y253 = 11 then bdS (q164_append S254 y253 32) (fun y259 S260 => bnd (sg S260 v0 2) (fun r264 => if sK S260 r264 = 27 then if 0 ≤ v3 ∧ v3 < sZ S260 r264 then bnd (sg S260 r264 v3) (fun r268 => if sK S260 r268 = 7 then bnd (sg S260 r268 0) (fun r271 => if sK S260 y259 = 11 then bdS (q161_append S260 y259 r271) (fun y274 S275 => if sK S275 y274 = 11 then bdS (q164_append S275 y274 59) (fun y280 S281 => X276 (w32 (v3 + 1)) S281) else none) else none) else none) else none else none)) else none) else none) else none) else (j102_320 v0 v2 S)
noncomputable def l102_276 (v0 : Int) (v2 : Int) (n : Nat) : Int → sS → Option (Int × sS) := Nat.rec (motive := fun _ => Int → sS → Option (Int × sS)) (fun _ _ => none) (fun _ ih => b102_276 v0 v2 ih) n
theorem tb102_276 {κ : CX} (hQ : κ.2.2.2.2.2.2.2.2.2 = (ql_I, ql_P)) {n0 s0 : Int} {d : Nat} (hd : 10 ≤ d) {v0 v2 : Int} (h0 : RfO v0) (h2 : RfO v2) {X276 : Int → sS → Option (Int × sS)} (HX276 : ∀ (v3 : Int) (h3 : InR v3) (S : sS) (hW : WF2 κ S) (hK0 : sK S v0 = 8) (u1 : Option ev_V) (w1 : nwo u1) (u4 : Option ev_V) (w4 : nwo u4) (u5 : Option ev_V) (w5 : nwo u5) (u6 : Option ev_V) (w6 : nwo u6), G2 κ ql_i102 ql_m102 2 d n0 s0 (X276 v3 S) 276 [some (sR v0), u1, some (sR v2), some (sI v3), u4, u5, u6] [] S) : ∀ (v3 : Int) (h3 : InR v3) (S : sS) (hW : WF2 κ S) (hK0 : sK S v0 = 8) (u1 : Option ev_V) (w1 : nwo u1) (u4 : Option ev_V) (w4 : nwo u4) (u5 : Option ev_V) (w5 : nwo u5) (u6 : Option ev_V) (w6 : nwo u6), G2 κ ql_i102 ql_m102 2 d n0 s0 (b102_276 v0 v2 X276 v3 S) 276 [some (sR v0), u1, some (sR v2), some (sI v3), u4, u5, u6] [] S := by
  intro v3 h3 S hW hK0 u1 w1 u4 w4 u5 w5 u6 w6
  unfold b102_276
  refine g2_iload qk102_2.2.1.1.2.2 rfl ?_
  refine g2_int qk102_2.2.1.2.1.1.1 4 rfl ?_
  refine g2_cmlt qk102_2.2.1.2.1.1.2 h3 (inR_of (by decide)) (fun c244 => ?_) (fun c245 => ?_)
  · refine g2_aload qk102_2.2.1.2.1.2 rfl ?_
    refine g2_ldcs qk102_2.2.1.2.2.1.1 (v := 2000109) rfl ?_
    refine g2_ck (fun q246 => ?_)
    refine g2_kn q246 (g2_callV (t' := 2) qk102_2.2.1.2.2.1.2 (by decide) (ql_ip154 hQ) (by decide) rfl rfl rfl (by omega) hW (tq154_append hQ (by omega) hW q246 h2 (rfA_of2 (by decide))) (fun y247 S248 h249 w250 e251 => ?_))
    refine g2_iload qk102_2.2.1.2.2.2 rfl ?_
    refine g2_ck (fun q252 => ?_)
    refine g2_kn q252 (g2_callV (t' := 2) qk102_2.2.2.1.1.1.1 (by decide) (ql_ip161 hQ) (by decide) rfl rfl rfl (by omega) w250 (tq161_append hQ (by omega) w250 q252 h249 h3) (fun y253 S254 h255 w256 e257 => ?_))
    refine g2_int qk102_2.2.2.1.1.1.2 32 rfl ?_
    refine g2_ck (fun q258 => ?_)
    refine g2_kn q258 (g2_callV (t' := 2) qk102_2.2.2.1.1.2 (by decide) (ql_ip164 hQ) (by decide) rfl rfl rfl (by omega) w256 (tq164_append hQ (by omega) w256 q258 h255 (inR_of (by decide))) (fun y259 S260 h261 w262 e263 => ?_))
    refine g2_aload qk102_2.2.2.1.2.1.1 rfl ?_
    refine g2_kn (ek e263 (ek e257 (ek e251 hK0 (by decide)) (by decide)) (by decide)) (g2_getR qk102_2.2.2.1.2.1.2 w262 ⟨by decide, by decide, by decide, rfl⟩ (fun r264 h265 => ?_))
    refine g2_iload qk102_2.2.2.1.2.2 rfl ?_
    refine g2_ck (fun q266 => ?_)
    refine g2_ck (fun q267 => ?_)
    refine g2_kn ⟨Or.inr q266, q267⟩ (g2_aald qk102_2.2.2.2.1.1.1 w262 (fun r268 h269 => ?_))
    refine g2_ck (fun q270 => ?_)
    refine g2_kn q270 (g2_getI qk102_2.2.2.2.1.1.2 w262 ⟨by decide, by decide, by decide, rfl⟩ (fun r271 h272 => ?_))
    refine g2_ck (fun q273 => ?_)
    refine g2_kn q273 (g2_callV (t' := 2) qk102_2.2.2.2.1.2 (by decide) (ql_ip161 hQ) (by decide) rfl rfl rfl (by omega) w262 (tq161_append hQ (by omega) w262 q273 h261 h272) (fun y274 S275 h276 w277 e278 => ?_))
    refine g2_int qk102_2.2.2.2.2.1.1 59 rfl ?_
    refine g2_ck (fun q279 => ?_)
    refine g2_kn q279 (g2_callV (t' := 2) qk102_2.2.2.2.2.1.2 (by decide) (ql_ip164 hQ) (by decide) rfl rfl rfl (by omega) w277 (tq164_append hQ (by omega) w277 q279 h276 (inR_of (by decide))) (fun y280 S281 h282 w283 e284 => ?_))
    refine g2_popR qk102_2.2.2.2.2.2 ?_
    refine g2_iinc qk102_3.1.1.1.1.1.1 rfl rfl 1 rfl (loc2 := [some (sR v0), u1, some (sR v2), some (sI (w32 (v3 + 1))), u4, u5, u6]) rfl ?_
    refine g2_goto qk102_3.1.1.1.1.1.2 ?_
    exact HX276 (w32 (v3 + 1)) (inR_w32 _) S281 w283 (ek e284 (ek e278 (ek e263 (ek e257 (ek e251 hK0 (by decide)) (by decide)) (by decide)) (by decide)) (by decide)) u1 w1 u4 w4 u5 w5 u6 w6
  · exact tj102_320 hQ hd h0 h2 S hW hK0 u1 w1 (some (sI v3)) rfl u4 w4 u5 w5 u6 w6
theorem tl102_276 {κ : CX} (hQ : κ.2.2.2.2.2.2.2.2.2 = (ql_I, ql_P)) {n0 s0 : Int} {d : Nat} (hd : 10 ≤ d) {v0 v2 : Int} (h0 : RfO v0) (h2 : RfO v2) : ∀ n : Nat, ∀ (v3 : Int) (h3 : InR v3) (S : sS) (hW : WF2 κ S) (hK0 : sK S v0 = 8) (u1 : Option ev_V) (w1 : nwo u1) (u4 : Option ev_V) (w4 : nwo u4) (u5 : Option ev_V) (w5 : nwo u5) (u6 : Option ev_V) (w6 : nwo u6), G2 κ ql_i102 ql_m102 2 d n0 s0 (l102_276 v0 v2 n v3 S) 276 [some (sR v0), u1, some (sR v2), some (sI v3), u4, u5, u6] [] S := by
  intro n
  induction n with
  | zero =>
    intro v3 h3 S hW hK0 u1 w1 u4 w4 u5 w5 u6 w6
    exact g2_none
  | succ n ih =>
    exact tb102_276 hQ hd h0 h2 ih
noncomputable def b102_149 (v0 : Int) (v2 : Int) (X149 : Int → sS → Option (Int × sS)) (v3 : Int) (S : sS) : Option (Int × sS) :=
  bnd (sg S v0 0) (fun r129 => if sK S r129 = 9 then bdS (q134_size S r129) (fun y132 S133 => if v3 < y132 then (if sK S133 v2 = 11 then bdS (q154_append S133 v2 2000108) (fun y140 S141 => bnd (sg S141 v0 0) (fun r145 => if sK S141 r145 = 9 then bdS (q133_get S141 r145 v3) (fun y148 S149 => if y148 = -1 ∨ sK S149 y148 = 7 then if sK S149 y148 = 7 then bnd (sg S149 y148 2) (fun r155 => if sK S149 r155 = 7 then bnd (sg S149 r155 0) (fun r158 => if sK S149 y140 = 11 then bdS (q161_append S149 y140 r158) (fun y161 S162 => if sK S162 y161 = 11 then bdS (q164_append S162 y161 32) (fun y167 S168 => bnd (sg S168 v0 0) (fun r172 => if sK S168 r172 = 9 then bdS (q133_get S168 r172 v3) (fun y175 S176 => if y175 = -1 ∨ sK S176 y175 = 7 then if sK S176 y175 = 7 then bnd (sg S176 y175 5) (fun r182 => if sK S176 y167 = 11 then bdS (q161_append S176 y167 r182) (fun y185 S186 => if sK S186 y185 = 11 then bdS (q164_append S186 y185 32) (fun y191 S192 => bnd (sg S192 v0 0) (fun r196 => if sK S192 r196 = 9 then bdS (q133_get S192 r196 v3) (fun y199 S200 => if y199 = -1 ∨ sK S200 y199 = 7 then if sK S200 y199 = 7 then bnd (sg S200 y199 1) (fun r206 => if sK S200 y191 = 11 then bdS (q161_append S200 y191 r206) (fun y209 S210 => if sK S210 y209 = 11 then bdS (q164_append S210 y209 32) (fun y215 S216 => bnd (sg S216 v0 0) (fun r220 => if sK S216 r220 = 9 then bdS (q133_get S216 r220 v3) (fun y223 S224 => if y223 = -1 ∨ sK S224 y223 = 7 then if sK S224 y223 = 7 then bnd (sg S224 y223 6) (fun r230 => if sK S224 y215 = 11 then bdS (q161_append S224 y215 r230) (fun y233 S234 => if sK S234 y233 = 11 then bdS (q164_append S234 y233 59) (fun y239 S240 => X149 (w32 (v3 + 1)) S240) else none) else none) else none else none) else none)) else none) else none) else none else none) else none)) else none) else none) else none else none) else none)) else none) else none) else none) else none else none) else none)) else none) else (l102_276 v0 v2 fu 0 S133)) else none)
noncomputable def l102_149 (v0 : Int) (v2 : Int) (n : Nat) : Int → sS → Option (Int × sS) := Nat.rec (motive := fun _ => Int → sS → Option (Int × sS)) (fun _ _ => none) (fun _ ih => b102_149 v0 v2 ih) n
theorem tb102_149 {κ : CX} (hQ : κ.2.2.2.2.2.2.2.2.2 = (ql_I, ql_P)) {n0 s0 : Int} {d : Nat} (hd : 10 ≤ d) {v0 v2 : Int} (h0 : RfO v0) (h2 : RfO v2) {X149 : Int → sS → Option (Int × sS)} (HX149 : ∀ (v3 : Int) (h3 : InR v3) (S : sS) (hW : WF2 κ S) (hK0 : sK S v0 = 8) (u1 : Option ev_V) (w1 : nwo u1) (u4 : Option ev_V) (w4 : nwo u4) (u5 : Option ev_V) (w5 : nwo u5) (u6 : Option ev_V) (w6 : nwo u6), G2 κ ql_i102 ql_m102 2 d n0 s0 (X149 v3 S) 149 [some (sR v0), u1, some (sR v2), some (sI v3), u4, u5, u6] [] S) : ∀ (v3 : Int) (h3 : InR v3) (S : sS) (hW : WF2 κ S) (hK0 : sK S v0 = 8) (u1 : Option ev_V) (w1 : nwo u1) (u4 : Option ev_V) (w4 : nwo u4) (u5 : Option ev_V) (w5 : nwo u5) (u6 : Option ev_V) (w6 : nwo u6), G2 κ ql_i102 ql_m102 2 d n0 s0 (b102_149 v0 v2 X149 v3 S) 149 [some (sR v0), u1, some (sR v2), some (sI v3), u4, u5, u6] [] S := by
  intro v3 h3 S hW hK0 u1 w1 u4 w4 u5 w5 u6 w6
  unfold b102_149
  refine g2_iload qk102_1.2.1.1.2.2 rfl ?_
  refine g2_aload qk102_1.2.1.2.1.1.1 rfl ?_
  refine g2_kn hK0 (g2_getR qk102_1.2.1.2.1.1.2 hW ⟨by decide, by decide, by decide, rfl⟩ (fun r129 h130 => ?_))
  refine g2_ck (fun q131 => ?_)
  refine g2_kn q131 (g2_callF (t' := 1) qk102_1.2.1.2.1.2 (by decide) (ql_ip134 hQ) rfl rfl rfl (by omega) hW (tq134_size hQ (by omega) hW q131 h130) (fun y132 S133 h134 w135 e136 => ?_))
  refine g2_cmlt qk102_1.2.1.2.2.1.1 h3 h134 (fun c137 => ?_) (fun c138 => ?_)
  · refine g2_aload qk102_1.2.1.2.2.1.2 rfl ?_
    refine g2_ldcs qk102_1.2.1.2.2.2 (v := 2000108) rfl ?_
    refine g2_ck (fun q139 => ?_)
    refine g2_kn q139 (g2_callV (t' := 2) qk102_1.2.2.1.1.1.1 (by decide) (ql_ip154 hQ) (by decide) rfl rfl rfl (by omega) w135 (tq154_append hQ (by omega) w135 q139 h2 (rfA_of2 (by decide))) (fun y140 S141 h142 w143 e144 => ?_))
    refine g2_aload qk102_1.2.2.1.1.1.2 rfl ?_
    refine g2_kn (ek e144 (ek e136 hK0 (by decide)) (by decide)) (g2_getR qk102_1.2.2.1.1.2 w143 ⟨by decide, by decide, by decide, rfl⟩ (fun r145 h146 => ?_))
    refine g2_iload qk102_1.2.2.1.2.1.1 rfl ?_
    refine g2_ck (fun q147 => ?_)
    refine g2_kn q147 (g2_callF (t' := 2) qk102_1.2.2.1.2.1.2 (by decide) (ql_ip133 hQ) rfl rfl rfl (by omega) w143 (tq133_get hQ (by omega) w143 q147 h146 h3) (fun y148 S149 h150 w151 e152 => ?_))
    refine g2_ck (fun q153 => ?_)
    refine g2_kn q153 (g2_cast7 qk102_1.2.2.1.2.2 w151 h150 ?_)
    refine g2_ck (fun q154 => ?_)
    refine g2_kn q154 (g2_getR qk102_1.2.2.2.1.1.1 w151 ⟨by decide, by decide, by decide, rfl⟩ (fun r155 h156 => ?_))
    refine g2_ck (fun q157 => ?_)
    refine g2_kn q157 (g2_getI qk102_1.2.2.2.1.1.2 w151 ⟨by decide, by decide, by decide, rfl⟩ (fun r158 h159 => ?_))
    refine g2_ck (fun q160 => ?_)
    refine g2_kn q160 (g2_callV (t' := 2) qk102_1.2.2.2.1.2 (by decide) (ql_ip161 hQ) (by decide) rfl rfl rfl (by omega) w151 (tq161_append hQ (by omega) w151 q160 h142 h159) (fun y161 S162 h163 w164 e165 => ?_))
    refine g2_int qk102_1.2.2.2.2.1.1 32 rfl ?_
    refine g2_ck (fun q166 => ?_)
    refine g2_kn q166 (g2_callV (t' := 2) qk102_1.2.2.2.2.1.2 (by decide) (ql_ip164 hQ) (by decide) rfl rfl rfl (by omega) w164 (tq164_append hQ (by omega) w164 q166 h163 (inR_of (by decide))) (fun y167 S168 h169 w170 e171 => ?_))
    refine g2_aload qk102_1.2.2.2.2.2 rfl ?_
    refine g2_kn (ek e171 (ek e165 (ek e152 (ek e144 (ek e136 hK0 (by decide)) (by decide)) (by decide)) (by decide)) (by decide)) (g2_getR qk102_2.1.1.1.1.1.1 w170 ⟨by decide, by decide, by decide, rfl⟩ (fun r172 h173 => ?_))
    refine g2_iload qk102_2.1.1.1.1.1.2 rfl ?_
    refine g2_ck (fun q174 => ?_)
    refine g2_kn q174 (g2_callF (t' := 2) qk102_2.1.1.1.1.2.1 (by decide) (ql_ip133 hQ) rfl rfl rfl (by omega) w170 (tq133_get hQ (by omega) w170 q174 h173 h3) (fun y175 S176 h177 w178 e179 => ?_))
    refine g2_ck (fun q180 => ?_)
    refine g2_kn q180 (g2_cast7 qk102_2.1.1.1.1.2.2 w178 h177 ?_)
    refine g2_ck (fun q181 => ?_)
    refine g2_kn q181 (g2_getI qk102_2.1.1.1.2.1.1 w178 ⟨by decide, by decide, by decide, rfl⟩ (fun r182 h183 => ?_))
    refine g2_ck (fun q184 => ?_)
    refine g2_kn q184 (g2_callV (t' := 2) qk102_2.1.1.1.2.1.2 (by decide) (ql_ip161 hQ) (by decide) rfl rfl rfl (by omega) w178 (tq161_append hQ (by omega) w178 q184 h169 h183) (fun y185 S186 h187 w188 e189 => ?_))
    refine g2_int qk102_2.1.1.1.2.2 32 rfl ?_
    refine g2_ck (fun q190 => ?_)
    refine g2_kn q190 (g2_callV (t' := 2) qk102_2.1.1.2.1.1.1 (by decide) (ql_ip164 hQ) (by decide) rfl rfl rfl (by omega) w188 (tq164_append hQ (by omega) w188 q190 h187 (inR_of (by decide))) (fun y191 S192 h193 w194 e195 => ?_))
    refine g2_aload qk102_2.1.1.2.1.1.2 rfl ?_
    refine g2_kn (ek e195 (ek e189 (ek e179 (ek e171 (ek e165 (ek e152 (ek e144 (ek e136 hK0 (by decide)) (by decide)) (by decide)) (by decide)) (by decide)) (by decide)) (by decide)) (by decide)) (g2_getR qk102_2.1.1.2.1.2 w194 ⟨by decide, by decide, by decide, rfl⟩ (fun r196 h197 => ?_))
    refine g2_iload qk102_2.1.1.2.2.1.1 rfl ?_
    refine g2_ck (fun q198 => ?_)
    refine g2_kn q198 (g2_callF (t' := 2) qk102_2.1.1.2.2.1.2 (by decide) (ql_ip133 hQ) rfl rfl rfl (by omega) w194 (tq133_get hQ (by omega) w194 q198 h197 h3) (fun y199 S200 h201 w202 e203 => ?_))
    refine g2_ck (fun q204 => ?_)
    refine g2_kn q204 (g2_cast7 qk102_2.1.1.2.2.2 w202 h201 ?_)
    refine g2_ck (fun q205 => ?_)
    refine g2_kn q205 (g2_getI qk102_2.1.2.1.1.1.1 w202 ⟨by decide, by decide, by decide, rfl⟩ (fun r206 h207 => ?_))
    refine g2_ck (fun q208 => ?_)
    refine g2_kn q208 (g2_callV (t' := 2) qk102_2.1.2.1.1.1.2 (by decide) (ql_ip161 hQ) (by decide) rfl rfl rfl (by omega) w202 (tq161_append hQ (by omega) w202 q208 h193 h207) (fun y209 S210 h211 w212 e213 => ?_))
    refine g2_int qk102_2.1.2.1.1.2 32 rfl ?_
    refine g2_ck (fun q214 => ?_)
    refine g2_kn q214 (g2_callV (t' := 2) qk102_2.1.2.1.2.1.1 (by decide) (ql_ip164 hQ) (by decide) rfl rfl rfl (by omega) w212 (tq164_append hQ (by omega) w212 q214 h211 (inR_of (by decide))) (fun y215 S216 h217 w218 e219 => ?_))
    refine g2_aload qk102_2.1.2.1.2.1.2 rfl ?_
    refine g2_kn (ek e219 (ek e213 (ek e203 (ek e195 (ek e189 (ek e179 (ek e171 (ek e165 (ek e152 (ek e144 (ek e136 hK0 (by decide)) (by decide)) (by decide)) (by decide)) (by decide)) (by decide)) (by decide)) (by decide)) (by decide)) (by decide)) (by decide)) (g2_getR qk102_2.1.2.1.2.2 w218 ⟨by decide, by decide, by decide, rfl⟩ (fun r220 h221 => ?_))
    refine g2_iload qk102_2.1.2.2.1.1.1 rfl ?_
    refine g2_ck (fun q222 => ?_)
    refine g2_kn q222 (g2_callF (t' := 2) qk102_2.1.2.2.1.1.2 (by decide) (ql_ip133 hQ) rfl rfl rfl (by omega) w218 (tq133_get hQ (by omega) w218 q222 h221 h3) (fun y223 S224 h225 w226 e227 => ?_))
    refine g2_ck (fun q228 => ?_)
    refine g2_kn q228 (g2_cast7 qk102_2.1.2.2.1.2 w226 h225 ?_)
    refine g2_ck (fun q229 => ?_)
    refine g2_kn q229 (g2_getI qk102_2.1.2.2.2.1.1 w226 ⟨by decide, by decide, by decide, rfl⟩ (fun r230 h231 => ?_))
    refine g2_ck (fun q232 => ?_)
    refine g2_kn q232 (g2_callV (t' := 2) qk102_2.1.2.2.2.1.2 (by decide) (ql_ip161 hQ) (by decide) rfl rfl rfl (by omega) w226 (tq161_append hQ (by omega) w226 q232 h217 h231) (fun y233 S234 h235 w236 e237 => ?_))
    refine g2_int qk102_2.1.2.2.2.2 59 rfl ?_
    refine g2_ck (fun q238 => ?_)
    refine g2_kn q238 (g2_callV (t' := 2) qk102_2.2.1.1.1.1.1 (by decide) (ql_ip164 hQ) (by decide) rfl rfl rfl (by omega) w236 (tq164_append hQ (by omega) w236 q238 h235 (inR_of (by decide))) (fun y239 S240 h241 w242 e243 => ?_))
    refine g2_popR qk102_2.2.1.1.1.1.2 ?_
    refine g2_iinc qk102_2.2.1.1.1.2.1 rfl rfl 1 rfl (loc2 := [some (sR v0), u1, some (sR v2), some (sI (w32 (v3 + 1))), u4, u5, u6]) rfl ?_
    refine g2_goto qk102_2.2.1.1.1.2.2 ?_
    exact HX149 (w32 (v3 + 1)) (inR_w32 _) S240 w242 (ek e243 (ek e237 (ek e227 (ek e219 (ek e213 (ek e203 (ek e195 (ek e189 (ek e179 (ek e171 (ek e165 (ek e152 (ek e144 (ek e136 hK0 (by decide)) (by decide)) (by decide)) (by decide)) (by decide)) (by decide)) (by decide)) (by decide)) (by decide)) (by decide)) (by decide)) (by decide)) (by decide)) (by decide)) u1 w1 u4 w4 u5 w5 u6 w6
  · refine g2_int qk102_2.2.1.1.2.1.1 0 rfl ?_
    refine g2_istore qk102_2.2.1.1.2.1.2 rfl (loc2 := [some (sR v0), u1, some (sR v2), some (sI 0), u4, u5, u6]) rfl ?_
    exact tl102_276 hQ hd h0 h2 fu 0 (inR_b (Or.inl rfl)) S133 w135 (ek e136 hK0 (by decide)) u1 w1 u4 w4 u5 w5 u6 w6
theorem tl102_149 {κ : CX} (hQ : κ.2.2.2.2.2.2.2.2.2 = (ql_I, ql_P)) {n0 s0 : Int} {d : Nat} (hd : 10 ≤ d) {v0 v2 : Int} (h0 : RfO v0) (h2 : RfO v2) : ∀ n : Nat, ∀ (v3 : Int) (h3 : InR v3) (S : sS) (hW : WF2 κ S) (hK0 : sK S v0 = 8) (u1 : Option ev_V) (w1 : nwo u1) (u4 : Option ev_V) (w4 : nwo u4) (u5 : Option ev_V) (w5 : nwo u5) (u6 : Option ev_V) (w6 : nwo u6), G2 κ ql_i102 ql_m102 2 d n0 s0 (l102_149 v0 v2 n v3 S) 149 [some (sR v0), u1, some (sR v2), some (sI v3), u4, u5, u6] [] S := by
  intro n
  induction n with
  | zero =>
    intro v3 h3 S hW hK0 u1 w1 u4 w4 u5 w5 u6 w6
    exact g2_none
  | succ n ih =>
    exact tb102_149 hQ hd h0 h2 ih
noncomputable def j102_80 (v0 : Int) (v2 : Int) (S : sS) : Option (Int × sS) :=
  if sK S v2 = 11 then bdS (q154_append S v2 2000106) (fun y62 S63 => bnd (sg S63 v0 4) (fun r67 => if sK S63 y62 = 11 then bdS (q161_append S63 y62 r67) (fun y70 S71 => if sK S71 y70 = 11 then bdS (q154_append S71 y70 2000107) (fun y76 S77 => bnd (sg S77 v0 0) (fun r81 => if sK S77 r81 = 9 then bdS (q133_get S77 r81 0) (fun y84 S85 => if y84 = -1 ∨ sK S85 y84 = 7 then if sK S85 y84 = 7 then bnd (sg S85 y84 5) (fun r91 => if sK S85 y76 = 11 then bdS (q161_append S85 y76 r91) (fun y94 S95 => if sK S95 y94 = 11 then bdS (q164_append S95 y94 32) (fun y100 S101 => bnd (sg S101 v0 0) (fun r105 => if sK S101 r105 = 9 then bdS (q133_get S101 r105 0) (fun y108 S109 => if y108 = -1 ∨ sK S109 y108 = 7 then if sK S109 y108 = 7 then bnd (sg S109 y108 6) (fun r115 => if sK S109 y100 = 11 then bdS (q161_append S109 y100 r115) (fun y118 S119 => if sK S119 y118 = 11 then bdS (q164_append S119 y118 59) (fun y124 S125 => l102_149 v0 v2 fu 1 S125) else none) else none) else none else none) else none)) else none) else none) else none else none) else none)) else none) else none)) else none
theorem tj102_80 {κ : CX} (hQ : κ.2.2.2.2.2.2.2.2.2 = (ql_I, ql_P)) {n0 s0 : Int} {d : Nat} (hd : 10 ≤ d) {v0 v2 : Int} (h0 : RfO v0) (h2 : RfO v2) (S : sS) (hW : WF2 κ S) (hK0 : sK S v0 = 8) (u1 : Option ev_V) (w1 : nwo u1) (u3 : Option ev_V) (w3 : nwo u3) (u4 : Option ev_V) (w4 : nwo u4) (u5 : Option ev_V) (w5 : nwo u5) (u6 : Option ev_V) (w6 : nwo u6) : G2 κ ql_i102 ql_m102 2 d n0 s0 (j102_80 v0 v2 S) 80 [some (sR v0), u1, some (sR v2), u3, u4, u5, u6] [] S := by
  unfold j102_80
  refine g2_aload qk102_1.1.1.1.1.2.1 rfl ?_
  refine g2_ldcs qk102_1.1.1.1.1.2.2 (v := 2000106) rfl ?_
  refine g2_ck (fun q61 => ?_)
  refine g2_kn q61 (g2_callV (t' := 2) qk102_1.1.1.1.2.1.1 (by decide) (ql_ip154 hQ) (by decide) rfl rfl rfl (by omega) hW (tq154_append hQ (by omega) hW q61 h2 (rfA_of2 (by decide))) (fun y62 S63 h64 w65 e66 => ?_))
  refine g2_aload qk102_1.1.1.1.2.1.2 rfl ?_
  refine g2_kn (ek e66 hK0 (by decide)) (g2_getI qk102_1.1.1.1.2.2 w65 ⟨by decide, by decide, by decide, rfl⟩ (fun r67 h68 => ?_))
  refine g2_ck (fun q69 => ?_)
  refine g2_kn q69 (g2_callV (t' := 2) qk102_1.1.1.2.1.1.1 (by decide) (ql_ip161 hQ) (by decide) rfl rfl rfl (by omega) w65 (tq161_append hQ (by omega) w65 q69 h64 h68) (fun y70 S71 h72 w73 e74 => ?_))
  refine g2_ldcs qk102_1.1.1.2.1.1.2 (v := 2000107) rfl ?_
  refine g2_ck (fun q75 => ?_)
  refine g2_kn q75 (g2_callV (t' := 2) qk102_1.1.1.2.1.2 (by decide) (ql_ip154 hQ) (by decide) rfl rfl rfl (by omega) w73 (tq154_append hQ (by omega) w73 q75 h72 (rfA_of2 (by decide))) (fun y76 S77 h78 w79 e80 => ?_))
  refine g2_aload qk102_1.1.1.2.2.1.1 rfl ?_
  refine g2_kn (ek e80 (ek e74 (ek e66 hK0 (by decide)) (by decide)) (by decide)) (g2_getR qk102_1.1.1.2.2.1.2 w79 ⟨by decide, by decide, by decide, rfl⟩ (fun r81 h82 => ?_))
  refine g2_int qk102_1.1.1.2.2.2 0 rfl ?_
  refine g2_ck (fun q83 => ?_)
  refine g2_kn q83 (g2_callF (t' := 2) qk102_1.1.2.1.1.1.1 (by decide) (ql_ip133 hQ) rfl rfl rfl (by omega) w79 (tq133_get hQ (by omega) w79 q83 h82 (inR_b (Or.inl rfl))) (fun y84 S85 h86 w87 e88 => ?_))
  refine g2_ck (fun q89 => ?_)
  refine g2_kn q89 (g2_cast7 qk102_1.1.2.1.1.1.2 w87 h86 ?_)
  refine g2_ck (fun q90 => ?_)
  refine g2_kn q90 (g2_getI qk102_1.1.2.1.1.2 w87 ⟨by decide, by decide, by decide, rfl⟩ (fun r91 h92 => ?_))
  refine g2_ck (fun q93 => ?_)
  refine g2_kn q93 (g2_callV (t' := 2) qk102_1.1.2.1.2.1.1 (by decide) (ql_ip161 hQ) (by decide) rfl rfl rfl (by omega) w87 (tq161_append hQ (by omega) w87 q93 h78 h92) (fun y94 S95 h96 w97 e98 => ?_))
  refine g2_int qk102_1.1.2.1.2.1.2 32 rfl ?_
  refine g2_ck (fun q99 => ?_)
  refine g2_kn q99 (g2_callV (t' := 2) qk102_1.1.2.1.2.2 (by decide) (ql_ip164 hQ) (by decide) rfl rfl rfl (by omega) w97 (tq164_append hQ (by omega) w97 q99 h96 (inR_of (by decide))) (fun y100 S101 h102 w103 e104 => ?_))
  refine g2_aload qk102_1.1.2.2.1.1.1 rfl ?_
  refine g2_kn (ek e104 (ek e98 (ek e88 (ek e80 (ek e74 (ek e66 hK0 (by decide)) (by decide)) (by decide)) (by decide)) (by decide)) (by decide)) (g2_getR qk102_1.1.2.2.1.1.2 w103 ⟨by decide, by decide, by decide, rfl⟩ (fun r105 h106 => ?_))
  refine g2_int qk102_1.1.2.2.1.2 0 rfl ?_
  refine g2_ck (fun q107 => ?_)
  refine g2_kn q107 (g2_callF (t' := 2) qk102_1.1.2.2.2.1.1 (by decide) (ql_ip133 hQ) rfl rfl rfl (by omega) w103 (tq133_get hQ (by omega) w103 q107 h106 (inR_b (Or.inl rfl))) (fun y108 S109 h110 w111 e112 => ?_))
  refine g2_ck (fun q113 => ?_)
  refine g2_kn q113 (g2_cast7 qk102_1.1.2.2.2.1.2 w111 h110 ?_)
  refine g2_ck (fun q114 => ?_)
  refine g2_kn q114 (g2_getI qk102_1.1.2.2.2.2 w111 ⟨by decide, by decide, by decide, rfl⟩ (fun r115 h116 => ?_))
  refine g2_ck (fun q117 => ?_)
  refine g2_kn q117 (g2_callV (t' := 2) qk102_1.2.1.1.1.1.1 (by decide) (ql_ip161 hQ) (by decide) rfl rfl rfl (by omega) w111 (tq161_append hQ (by omega) w111 q117 h102 h116) (fun y118 S119 h120 w121 e122 => ?_))
  refine g2_int qk102_1.2.1.1.1.1.2 59 rfl ?_
  refine g2_ck (fun q123 => ?_)
  refine g2_kn q123 (g2_callV (t' := 2) qk102_1.2.1.1.1.2.1 (by decide) (ql_ip164 hQ) (by decide) rfl rfl rfl (by omega) w121 (tq164_append hQ (by omega) w121 q123 h120 (inR_of (by decide))) (fun y124 S125 h126 w127 e128 => ?_))
  refine g2_popR qk102_1.2.1.1.1.2.2 ?_
  refine g2_int qk102_1.2.1.1.2.1.1 1 rfl ?_
  refine g2_istore qk102_1.2.1.1.2.1.2 rfl (loc2 := [some (sR v0), u1, some (sR v2), some (sI 1), u4, u5, u6]) rfl ?_
  exact tl102_149 hQ hd h0 h2 fu 1 (inR_b (Or.inr rfl)) S125 w127 (ek e128 (ek e122 (ek e112 (ek e104 (ek e98 (ek e88 (ek e80 (ek e74 (ek e66 hK0 (by decide)) (by decide)) (by decide)) (by decide)) (by decide)) (by decide)) (by decide)) (by decide)) (by decide)) u1 w1 u4 w4 u5 w5 u6 w6
noncomputable def b102_52 (v0 : Int) (v1 : Int) (v2 : Int) (v3 : Int) (v4 : Int) (X52 : Int → sS → Option (Int × sS)) (v5 : Int) (S : sS) : Option (Int × sS) :=
  if v5 < v4 then (if sK S v3 = 20 then if 0 ≤ v5 ∧ v5 < sZ S v3 then bnd (sg S v3 v5) (fun r49 => if sK S v1 = 28 then if 0 ≤ r49 ∧ r49 < sZ S v1 then bnd (sg S v1 r49) (fun r53 => if sK S v2 = 11 then bdS (q154_append S v2 r53) (fun y56 S57 => X52 (w32 (v5 + 1)) S57) else none) else none else none) else none else none) else (j102_80 v0 v2 S)
noncomputable def l102_52 (v0 : Int) (v1 : Int) (v2 : Int) (v3 : Int) (v4 : Int) (n : Nat) : Int → sS → Option (Int × sS) := Nat.rec (motive := fun _ => Int → sS → Option (Int × sS)) (fun _ _ => none) (fun _ ih => b102_52 v0 v1 v2 v3 v4 ih) n
theorem tb102_52 {κ : CX} (hQ : κ.2.2.2.2.2.2.2.2.2 = (ql_I, ql_P)) {n0 s0 : Int} {d : Nat} (hd : 10 ≤ d) {v0 v1 v2 v3 v4 : Int} (h0 : RfO v0) (h1 : RfO v1) (h2 : RfO v2) (h3 : RfO v3) (h4 : InR v4) {X52 : Int → sS → Option (Int × sS)} (HX52 : ∀ (v5 : Int) (h5 : InR v5) (S : sS) (hW : WF2 κ S) (hK0 : sK S v0 = 8) (u6 : Option ev_V) (w6 : nwo u6), G2 κ ql_i102 ql_m102 2 d n0 s0 (X52 v5 S) 52 [some (sR v0), some (sR v1), some (sR v2), some (sR v3), some (sI v4), some (sI v5), u6] [] S) : ∀ (v5 : Int) (h5 : InR v5) (S : sS) (hW : WF2 κ S) (hK0 : sK S v0 = 8) (u6 : Option ev_V) (w6 : nwo u6), G2 κ ql_i102 ql_m102 2 d n0 s0 (b102_52 v0 v1 v2 v3 v4 X52 v5 S) 52 [some (sR v0), some (sR v1), some (sR v2), some (sR v3), some (sI v4), some (sI v5), u6] [] S := by
  intro v5 h5 S hW hK0 u6 w6
  unfold b102_52
  refine g2_iload qk102_0.2.1.2.2.2 rfl ?_
  refine g2_iload qk102_0.2.2.1.1.1.1 rfl ?_
  refine g2_cmlt qk102_0.2.2.1.1.1.2 h5 h4 (fun c45 => ?_) (fun c46 => ?_)
  · refine g2_aload qk102_0.2.2.1.1.2 rfl ?_
    refine g2_iload qk102_0.2.2.1.2.1.1 rfl ?_
    refine g2_ck (fun q47 => ?_)
    refine g2_ck (fun q48 => ?_)
    refine g2_kn ⟨q47, q48⟩ (g2_iald qk102_0.2.2.1.2.1.2 hW (fun r49 h50 => ?_))
    refine g2_istore qk102_0.2.2.1.2.2 rfl (loc2 := [some (sR v0), some (sR v1), some (sR v2), some (sR v3), some (sI v4), some (sI v5), some (sI r49)]) rfl ?_
    refine g2_aload qk102_0.2.2.2.1.1.1 rfl ?_
    refine g2_aload qk102_0.2.2.2.1.1.2 rfl ?_
    refine g2_iload qk102_0.2.2.2.1.2 rfl ?_
    refine g2_ck (fun q51 => ?_)
    refine g2_ck (fun q52 => ?_)
    refine g2_kn ⟨q51, q52⟩ (g2_aalS qk102_0.2.2.2.2.1.1 hW (fun r53 h54 => ?_))
    refine g2_ck (fun q55 => ?_)
    refine g2_kn q55 (g2_callV (t' := 2) qk102_0.2.2.2.2.1.2 (by decide) (ql_ip154 hQ) (by decide) rfl rfl rfl (by omega) hW (tq154_append hQ (by omega) hW q55 h2 h54) (fun y56 S57 h58 w59 e60 => ?_))
    refine g2_popR qk102_0.2.2.2.2.2 ?_
    refine g2_iinc qk102_1.1.1.1.1.1.1 rfl rfl 1 rfl (loc2 := [some (sR v0), some (sR v1), some (sR v2), some (sR v3), some (sI v4), some (sI (w32 (v5 + 1))), some (sI r49)]) rfl ?_
    refine g2_goto qk102_1.1.1.1.1.1.2 ?_
    exact HX52 (w32 (v5 + 1)) (inR_w32 _) S57 w59 (ek e60 hK0 (by decide)) (some (sI r49)) rfl
  · exact tj102_80 hQ hd h0 h2 S hW hK0 (some (sR v1)) rfl (some (sR v3)) rfl (some (sI v4)) rfl (some (sI v5)) rfl u6 w6
theorem tl102_52 {κ : CX} (hQ : κ.2.2.2.2.2.2.2.2.2 = (ql_I, ql_P)) {n0 s0 : Int} {d : Nat} (hd : 10 ≤ d) {v0 v1 v2 v3 v4 : Int} (h0 : RfO v0) (h1 : RfO v1) (h2 : RfO v2) (h3 : RfO v3) (h4 : InR v4) : ∀ n : Nat, ∀ (v5 : Int) (h5 : InR v5) (S : sS) (hW : WF2 κ S) (hK0 : sK S v0 = 8) (u6 : Option ev_V) (w6 : nwo u6), G2 κ ql_i102 ql_m102 2 d n0 s0 (l102_52 v0 v1 v2 v3 v4 n v5 S) 52 [some (sR v0), some (sR v1), some (sR v2), some (sR v3), some (sI v4), some (sI v5), u6] [] S := by
  intro n
  induction n with
  | zero =>
    intro v5 h5 S hW hK0 u6 w6
    exact g2_none
  | succ n ih =>
    exact tb102_52 hQ hd h0 h1 h2 h3 h4 ih
noncomputable def q102_text (S : sS) (v0 : Int) : Option (Int × sS) :=
  if sn S < 1000000 ∧ 0 ≤ 5 ∧ 5 ≤ 65536 then bnd (sn S) (fun p1 => bnd (nS S 28 5) (fun S2 => if 0 ≤ 0 ∧ 0 < sZ S2 p1 then bnd (uS S2 p1 0 2000100) (fun S9 => if 0 ≤ 1 ∧ 1 < sZ S9 p1 then bnd (uS S9 p1 1 2000101) (fun S13 => if 0 ≤ 2 ∧ 2 < sZ S13 p1 then bnd (uS S13 p1 2 2000102) (fun S17 => if 0 ≤ 3 ∧ 3 < sZ S17 p1 then bnd (uS S17 p1 3 2000103) (fun S21 => if 0 ≤ 4 ∧ 4 < sZ S21 p1 then bnd (uS S21 p1 4 2000104) (fun S25 => if sn S25 < 1000000 then bnd (sn S25) (fun p28 => bnd (nS S25 11 4) (fun S29 => bdS (q157_init S29 p28 2000105) (fun y35 S36 => bnd (sg S36 v0 3) (fun r40 => if sK S36 r40 = 20 then bnd (sZ S36 r40) (fun r43 => l102_52 v0 p1 p28 r40 r43 fu 0 S36) else none)))) else none) else none) else none) else none) else none) else none)) else none
theorem tq102_text {κ : CX} (hQ : κ.2.2.2.2.2.2.2.2.2 = (ql_I, ql_P)) {n0 s0 : Int} {d : Nat} (hd : 10 ≤ d) {S : sS} (hW : WF2 κ S) {v0 : Int} (hK0 : sK S v0 = 8) (h0 : RfO v0) : G2 κ ql_i102 ql_m102 2 d n0 s0 (q102_text S v0) 0 (ev_loc ql_m102.1 [(sR v0)]) [] S := by
  unfold q102_text
  refine g2_int qk102_0.1.1.1.1.1.1 5 rfl ?_
  refine g2_ck (fun q7 => ?_)
  refine g2_kn q7 (g2_newa qk102_0.1.1.1.1.1.2 hW ⟨by decide, rfl⟩ (fun p1 S2 h3 k4 w5 e6 => ?_))
  refine g2_dupR qk102_0.1.1.1.1.2.1 ?_
  refine g2_int qk102_0.1.1.1.1.2.2 0 rfl ?_
  refine g2_ldcs qk102_0.1.1.1.2.1.1 (v := 2000100) rfl ?_
  refine g2_ck (fun q8 => ?_)
  refine g2_kn ⟨k4.1, (rfO_of h3).2, q8⟩ (g2_aasS qk102_0.1.1.1.2.1.2 w5 ⟨by decide, by decide⟩ (fun S9 w10 e11 => ?_))
  refine g2_dupR qk102_0.1.1.1.2.2 ?_
  refine g2_int qk102_0.1.1.2.1.1.1 1 rfl ?_
  refine g2_ldcs qk102_0.1.1.2.1.1.2 (v := 2000101) rfl ?_
  refine g2_ck (fun q12 => ?_)
  refine g2_kn ⟨(ek e11 k4.1 (by decide)), (rfO_of h3).2, q12⟩ (g2_aasS qk102_0.1.1.2.1.2 w10 ⟨by decide, by decide⟩ (fun S13 w14 e15 => ?_))
  refine g2_dupR qk102_0.1.1.2.2.1.1 ?_
  refine g2_int qk102_0.1.1.2.2.1.2 2 rfl ?_
  refine g2_ldcs qk102_0.1.1.2.2.2 (v := 2000102) rfl ?_
  refine g2_ck (fun q16 => ?_)
  refine g2_kn ⟨(ek e15 (ek e11 k4.1 (by decide)) (by decide)), (rfO_of h3).2, q16⟩ (g2_aasS qk102_0.1.2.1.1.1.1 w14 ⟨by decide, by decide⟩ (fun S17 w18 e19 => ?_))
  refine g2_dupR qk102_0.1.2.1.1.1.2 ?_
  refine g2_int qk102_0.1.2.1.1.2 3 rfl ?_
  refine g2_ldcs qk102_0.1.2.1.2.1.1 (v := 2000103) rfl ?_
  refine g2_ck (fun q20 => ?_)
  refine g2_kn ⟨(ek e19 (ek e15 (ek e11 k4.1 (by decide)) (by decide)) (by decide)), (rfO_of h3).2, q20⟩ (g2_aasS qk102_0.1.2.1.2.1.2 w18 ⟨by decide, by decide⟩ (fun S21 w22 e23 => ?_))
  refine g2_dupR qk102_0.1.2.1.2.2 ?_
  refine g2_int qk102_0.1.2.2.1.1.1 4 rfl ?_
  refine g2_ldcs qk102_0.1.2.2.1.1.2 (v := 2000104) rfl ?_
  refine g2_ck (fun q24 => ?_)
  refine g2_kn ⟨(ek e23 (ek e19 (ek e15 (ek e11 k4.1 (by decide)) (by decide)) (by decide)) (by decide)), (rfO_of h3).2, q24⟩ (g2_aasS qk102_0.1.2.2.1.2 w22 ⟨by decide, by decide⟩ (fun S25 w26 e27 => ?_))
  refine g2_astore qk102_0.1.2.2.2.1.1 rfl (loc2 := [some (sR v0), some (sR p1), none, none, none, none, none]) rfl ?_
  refine g2_ck (fun q34 => ?_)
  refine g2_kn q34 (g2_new qk102_0.1.2.2.2.1.2 w26 ⟨⟨by decide, by decide⟩, rfl, by decide⟩ rfl (fun p28 S29 h30 k31 w32 e33 => ?_))
  refine g2_dupR qk102_0.1.2.2.2.2 ?_
  refine g2_ldcs qk102_0.2.1.1.1.1.1 (v := 2000105) rfl ?_
  refine g2_kn (kn_pos w32.2.1 k31.1 (by decide)) (g2_callI qk102_0.2.1.1.1.1.2 (by decide) (ql_ip157 hQ) rfl rfl rfl (by omega) ⟨_, qd_102_36⟩ (tq157_init hQ (by omega) w32 k31.1 (rfO_of h30) (rfA_of2 (by decide))) (fun y35 S36 w38 e39 => ?_))
  refine g2_astore qk102_0.2.1.1.1.2 rfl (loc2 := [some (sR v0), some (sR p1), some (sR p28), none, none, none, none]) rfl ?_
  refine g2_aload qk102_0.2.1.1.2.1.1 rfl ?_
  refine g2_kn (ek e39 (ek e33 (ek e27 (ek e23 (ek e19 (ek e15 (ek e11 (ek e6 hK0 (by decide)) (by decide)) (by decide)) (by decide)) (by decide)) (by decide)) (by decide)) (by decide)) (g2_getR qk102_0.2.1.1.2.1.2 w38 ⟨by decide, by decide, by decide, rfl⟩ (fun r40 h41 => ?_))
  refine g2_astore qk102_0.2.1.1.2.2 rfl (loc2 := [some (sR v0), some (sR p1), some (sR p28), some (sR r40), none, none, none]) rfl ?_
  refine g2_aload qk102_0.2.1.2.1.1.1 rfl ?_
  refine g2_ck (fun q42 => ?_)
  refine g2_kn (ka2 q42 (by decide)) (g2_alen qk102_0.2.1.2.1.1.2 w38 (fun r43 h44 => ?_))
  refine g2_istore qk102_0.2.1.2.1.2 rfl (loc2 := [some (sR v0), some (sR p1), some (sR p28), some (sR r40), some (sI r43), none, none]) rfl ?_
  refine g2_int qk102_0.2.1.2.2.1.1 0 rfl ?_
  refine g2_istore qk102_0.2.1.2.2.1.2 rfl (loc2 := [some (sR v0), some (sR p1), some (sR p28), some (sR r40), some (sI r43), some (sI 0), none]) rfl ?_
  exact tl102_52 hQ hd h0 (rfO_of h3) (rfO_of h30) h41 h44 fu 0 (inR_b (Or.inl rfl)) S36 w38 (ek e39 (ek e33 (ek e27 (ek e23 (ek e19 (ek e15 (ek e11 (ek e6 hK0 (by decide)) (by decide)) (by decide)) (by decide)) (by decide)) (by decide)) (by decide)) (by decide)) none rfl
noncomputable def b115_5 (v1 : Int) (X5 : Int → sS → Option (Int × sS)) (v2 : Int) (S : sS) : Option (Int × sS) :=
  if v2 < 0 then (some (0, S)) else (if v2 = v1 then (some (1, S)) else (if sK S v2 = 7 then bnd (sg S v2 2) (fun r8 => X5 r8 S) else none))
noncomputable def l115_5 (v1 : Int) (n : Nat) : Int → sS → Option (Int × sS) := Nat.rec (motive := fun _ => Int → sS → Option (Int × sS)) (fun _ _ => none) (fun _ ih => b115_5 v1 ih) n
theorem tb115_5 {κ : CX} (hQ : κ.2.2.2.2.2.2.2.2.2 = (ql_I, ql_P)) {n0 s0 : Int} {d : Nat} (hd : 1 ≤ d) {v1 : Int} (h1 : RfO v1) {X5 : Int → sS → Option (Int × sS)} (HX5 : ∀ (v2 : Int) (h2 : RfO v2) (S : sS) (hW : WF2 κ S) (u0 : Option ev_V) (w0 : nwo u0), G2 κ ql_i115 ql_m115 3 d n0 s0 (X5 v2 S) 5 [u0, some (sR v1), some (sR v2)] [] S) : ∀ (v2 : Int) (h2 : RfO v2) (S : sS) (hW : WF2 κ S) (u0 : Option ev_V) (w0 : nwo u0), G2 κ ql_i115 ql_m115 3 d n0 s0 (b115_5 v1 X5 v2 S) 5 [u0, some (sR v1), some (sR v2)] [] S := by
  intro v2 h2 S hW u0 w0
  unfold b115_5
  refine g2_aload qk115_0.1.1.2.2 rfl ?_
  refine g2_isnull qk115_0.1.2.1.1 (fun c3 => ?_) (fun c4 => ?_)
  · refine g2_int qk115_0.2.2.2.1 0 rfl ?_
    exact g2_zret qk115_0.2.2.2.2 hW (Or.inl rfl)
  · refine g2_aload qk115_0.1.2.1.2 rfl ?_
    refine g2_aload qk115_0.1.2.2.1 rfl ?_
    refine g2_acmp qk115_0.1.2.2.2 h2 h1 (fun c5 => ?_) (fun c6 => ?_)
    · refine g2_int qk115_0.2.1.1.1 1 rfl ?_
      exact g2_zret qk115_0.2.1.1.2 hW (Or.inr rfl)
    · refine g2_aload qk115_0.2.1.2.1 rfl ?_
      refine g2_ck (fun q7 => ?_)
      refine g2_kn q7 (g2_getR qk115_0.2.1.2.2 hW ⟨by decide, by decide, by decide, rfl⟩ (fun r8 h9 => ?_))
      refine g2_astore qk115_0.2.2.1.1 rfl (loc2 := [u0, some (sR v1), some (sR r8)]) rfl ?_
      refine g2_goto qk115_0.2.2.1.2 ?_
      exact HX5 r8 h9 S hW u0 w0
theorem tl115_5 {κ : CX} (hQ : κ.2.2.2.2.2.2.2.2.2 = (ql_I, ql_P)) {n0 s0 : Int} {d : Nat} (hd : 1 ≤ d) {v1 : Int} (h1 : RfO v1) : ∀ n : Nat, ∀ (v2 : Int) (h2 : RfO v2) (S : sS) (hW : WF2 κ S) (u0 : Option ev_V) (w0 : nwo u0), G2 κ ql_i115 ql_m115 3 d n0 s0 (l115_5 v1 n v2 S) 5 [u0, some (sR v1), some (sR v2)] [] S := by
  intro n
  induction n with
  | zero =>
    intro v2 h2 S hW u0 w0
    exact g2_none
  | succ n ih =>
    exact tb115_5 hQ hd h1 ih
noncomputable def q115_isBelow (S : sS) (v0 : Int) (v1 : Int) : Option (Int × sS) :=
  bnd (sg S v0 2) (fun r1 => l115_5 v1 fu r1 S)
theorem tq115_isBelow {κ : CX} (hQ : κ.2.2.2.2.2.2.2.2.2 = (ql_I, ql_P)) {n0 s0 : Int} {d : Nat} (hd : 1 ≤ d) {S : sS} (hW : WF2 κ S) {v0 v1 : Int} (hK0 : sK S v0 = 7) (h0 : RfO v0) (h1 : RfO v1) : G2 κ ql_i115 ql_m115 3 d n0 s0 (q115_isBelow S v0 v1) 0 (ev_loc ql_m115.1 [(sR v0), (sR v1)]) [] S := by
  unfold q115_isBelow
  refine g2_aload qk115_0.1.1.1.1 rfl ?_
  refine g2_kn hK0 (g2_getR qk115_0.1.1.1.2 hW ⟨by decide, by decide, by decide, rfl⟩ (fun r1 h2 => ?_))
  refine g2_astore qk115_0.1.1.2.1 rfl (loc2 := [some (sR v0), some (sR v1), some (sR r1)]) rfl ?_
  exact tl115_5 hQ hd h1 fu r1 h2 S hW (some (sR v0)) rfl
noncomputable def rq116_depth (R : sS → Int → Option (Int × sS)) (S : sS) (v0 : Int) : Option (Int × sS) :=
  bnd (sg S v0 2) (fun r1 => if r1 < 0 then (some (0, S)) else (bnd (sg S v0 2) (fun r5 => if sK S r5 = 7 then bdS (R S r5) (fun y8 S9 => some ((w32 (y8 + 1)), S9)) else none)))
noncomputable def q116_depth_n (n : Nat) : sS → Int → Option (Int × sS) := Nat.rec (motive := fun _ => sS → Int → Option (Int × sS)) (fun _ _ => none) (fun _ ih => rq116_depth ih) n
noncomputable def q116_depth (S : sS) (v0 : Int) : Option (Int × sS) := q116_depth_n 60 S v0
theorem trq116_depth {κ : CX} (hQ : κ.2.2.2.2.2.2.2.2.2 = (ql_I, ql_P)) {n0 s0 : Int} {d : Nat} (hd : 2 ≤ d) {R : sS → Int → Option (Int × sS)} (HR0 : ∀ (n0 s0 : Int) (_z : Nat) (S : sS) (hW : WF2 κ S) (v0 : Int) (hK0 : sK S v0 = 7) (h0 : RfO v0), G2 κ ql_i116 ql_m116 1 (d - 1) n0 s0 (R S v0) 0 (ev_loc ql_m116.1 [(sR v0)]) [] S) {S : sS} (hW : WF2 κ S) {v0 : Int} (hK0 : sK S v0 = 7) (h0 : RfO v0) : G2 κ ql_i116 ql_m116 1 d n0 s0 (rq116_depth R S v0) 0 (ev_loc ql_m116.1 [(sR v0)]) [] S := by
  unfold rq116_depth
  refine g2_aload qk116_0.1.1.1.1 rfl ?_
  refine g2_kn hK0 (g2_getR qk116_0.1.1.1.2 hW ⟨by decide, by decide, by decide, rfl⟩ (fun r1 h2 => ?_))
  refine g2_isnull qk116_0.1.1.2 (fun c3 => ?_) (fun c4 => ?_)
  · refine g2_int qk116_0.1.2.1.1 0 rfl ?_
    refine g2_goto qk116_0.1.2.1.2 ?_
    exact g2_iret qk116_0.2.2.2 hW (inR_b (Or.inl rfl))
  · refine g2_aload qk116_0.1.2.2 rfl ?_
    refine g2_kn hK0 (g2_getR qk116_0.2.1.1.1 hW ⟨by decide, by decide, by decide, rfl⟩ (fun r5 h6 => ?_))
    refine g2_ck (fun q7 => ?_)
    refine g2_kn q7 (g2_callV (t' := 1) qk116_0.2.1.1.2 (by decide) (ql_ip116 hQ) (by decide) rfl rfl rfl (by omega) hW (HR0 _ _ _ S hW r5 q7 h6) (fun y8 S9 h10 w11 e12 => ?_))
    refine g2_int qk116_0.2.1.2 1 rfl ?_
    refine g2_iadd qk116_0.2.2.1 ?_
    exact g2_iret qk116_0.2.2.2 w11 (inR_w32 _)
theorem tnq116_depth {κ : CX} (hQ : κ.2.2.2.2.2.2.2.2.2 = (ql_I, ql_P)) : ∀ (n : Nat) (n0 s0 : Int) (d : Nat) (hd : 1 + n ≤ d) (S : sS) (hW : WF2 κ S) (v0 : Int) (hK0 : sK S v0 = 7) (h0 : RfO v0), G2 κ ql_i116 ql_m116 1 d n0 s0 (q116_depth_n n S v0) 0 (ev_loc ql_m116.1 [(sR v0)]) [] S := by
  intro n
  induction n with
  | zero =>
    intros
    exact g2_none
  | succ n ih =>
    intro n0 s0 d hd S hW v0 hK0 h0
    exact trq116_depth hQ (by omega) (R := q116_depth_n n) (fun n0 s0 _ S hW v0 hK0 h0 => ih n0 s0 (d - 1) (by omega) S hW v0 hK0 h0) hW hK0 h0
theorem tq116_depth {κ : CX} (hQ : κ.2.2.2.2.2.2.2.2.2 = (ql_I, ql_P)) {n0 s0 : Int} {d : Nat} (hd : 62 ≤ d) {S : sS} (hW : WF2 κ S) {v0 : Int} (hK0 : sK S v0 = 7) (h0 : RfO v0) : G2 κ ql_i116 ql_m116 1 d n0 s0 (q116_depth S v0) 0 (ev_loc ql_m116.1 [(sR v0)]) [] S := tnq116_depth hQ 60 n0 s0 d (by omega) S hW v0 hK0 h0
