/-! ===== the law's and the JDK's methods as functions, and that the machine comes to what they tell (own work, by program: wip/p67/gen/lawdec.py) ===== -/
noncomputable def q169_copyOfRangeByte (S : sS) (v0 : Int) (v1 : Int) (v2 : Int) : Option (Int × sS) :=
  bdS (q168_checkLength S v1 v2) (fun y1 S2 => if sn S2 < 1000000 ∧ 0 ≤ (w32 (v2 - v1)) ∧ (w32 (v2 - v1)) ≤ 65536 then bnd (sn S2) (fun p6 => bnd (nS S2 21 (w32 (v2 - v1))) (fun S7 => if sK S7 v0 = 21 then bnd (sZ S7 v0) (fun r14 => bdS (q122_min S7 (w32 (r14 - v1)) (w32 (v2 - v1))) (fun y16 S17 => if (0 ≤ v1 ∧ 0 ≤ (0 : Int) ∧ 0 ≤ y16) ∧ v1 + y16 ≤ sZ S17 v0 ∧ (0 : Int) + y16 ≤ sZ S17 p6 then bnd (cpS S17 v0 v1 p6 (0 : Int) y16) (fun S22 => some (p6, S22)) else none)) else none)) else none)
theorem tq169_copyOfRangeByte {κ : CX} (hQ : κ.2.2.2.2.2.2.2.2.2 = (ql_I, ql_P)) {n0 s0 : Int} {d : Nat} (hd : 2 ≤ d) {S : sS} (hW : WF2 κ S) {v0 v1 v2 : Int}  (h0 : RfA v0) (h1 : InR v1) (h2 : InR v2) : G2 κ ql_i169 ql_m169 2 d n0 s0 (q169_copyOfRangeByte S v0 v1 v2) 0 (ev_loc ql_m169.1 [(sR v0), (sI v1), (sI v2)]) [] S := by
  unfold q169_copyOfRangeByte
  refine g2_iload qk169_0.1.1.1.1.1 rfl ?_
  refine g2_iload qk169_0.1.1.1.1.2 rfl ?_
  refine g2_callS (t' := 0) qk169_0.1.1.1.2 (by decide) (ql_ip168 hQ) rfl rfl rfl rfl (by omega) (tq168_checkLength hQ (by omega) hW h1 h2) (fun y1 S2 x3 m4 e5 => ?_)
  refine g2_iload qk169_0.1.1.2.1.1 rfl ?_
  refine g2_iload qk169_0.1.1.2.1.2 rfl ?_
  refine g2_isub qk169_0.1.1.2.2 ?_
  refine g2_istore qk169_0.1.2.1.1.1 rfl (loc2 := [some (sR v0), some (sI v1), some (sI v2), some (sI (w32 (v2 - v1))), none]) rfl ?_
  refine g2_iload qk169_0.1.2.1.1.2 rfl ?_
  refine g2_ck (fun q12 => ?_)
  refine g2_kn q12 (g2_newa qk169_0.1.2.1.2 m4 ⟨by decide, rfl⟩ (fun p6 S7 x8 k9 m10 e11 => ?_))
  refine g2_astore qk169_0.1.2.2.1.1 rfl (loc2 := [some (sR v0), some (sI v1), some (sI v2), some (sI (w32 (v2 - v1))), some (sR p6)]) rfl ?_
  refine g2_aload qk169_0.1.2.2.1.2 rfl ?_
  refine g2_iload qk169_0.1.2.2.2 rfl ?_
  refine g2_aload qk169_0.2.1.1.1.1 rfl ?_
  refine g2_int qk169_0.2.1.1.1.2 (0 : Int) rfl ?_
  refine g2_aload qk169_0.2.1.1.2 rfl ?_
  refine g2_ck (fun q13 => ?_)
  refine g2_kn (ka2 q13 (by decide)) (g2_alen qk169_0.2.1.2.1.1 m10 (fun r14 x15 => ?_))
  refine g2_iload qk169_0.2.1.2.1.2 rfl ?_
  refine g2_isub qk169_0.2.1.2.2 ?_
  refine g2_iload qk169_0.2.2.1.1.1 rfl ?_
  refine g2_callS (t' := 1) qk169_0.2.2.1.1.2 (by decide) (ql_ip122 hQ) rfl rfl rfl rfl (by omega) (tq122_min hQ (by omega) m10 (inR_w32 _) (inR_w32 _)) (fun y16 S17 x18 m19 e20 => ?_)
  refine g2_ck (fun q21 => ?_)
  refine g2_kn ⟨(ek e20 q13 (by decide)), ⟨(ek e20 k9.1 (by decide)), (rfO_of x8).2⟩, q21⟩ (g2_copyB qk169_0.2.2.1.2 m19 rfl (fun S22 m23 e24 => ?_))
  refine g2_aload qk169_0.2.2.2.1 rfl ?_
  exact g2_aret qk169_0.2.2.2.2 m23 (rfO_of x8)
noncomputable def q170_copyOfRange (S : sS) (v0 : Int) (v1 : Int) (v2 : Int) : Option (Int × sS) :=
  if v1 = 0 then (if sK S v0 = 21 then bnd (sZ S v0) (fun r4 => if v2 = r4 then (if sn S < 1000000 then if v0 < 1000000 then bnd (sn S) (fun p8 => bnd (cpS (nS S 21 (sZ S v0)) v0 0 (sn S) 0 (sZ S v0)) (fun S9 => some (p8, S9))) else none else none) else (bdS (q169_copyOfRangeByte S v0 v1 v2) (fun y16 S17 => some (y16, S17)))) else none) else (bdS (q169_copyOfRangeByte S v0 v1 v2) (fun y21 S22 => some (y21, S22)))
theorem tq170_copyOfRange {κ : CX} (hQ : κ.2.2.2.2.2.2.2.2.2 = (ql_I, ql_P)) {n0 s0 : Int} {d : Nat} (hd : 3 ≤ d) {S : sS} (hW : WF2 κ S) {v0 v1 v2 : Int}  (h0 : RfA v0) (h1 : InR v1) (h2 : InR v2) : G2 κ ql_i170 ql_m170 2 d n0 s0 (q170_copyOfRange S v0 v1 v2) 0 (ev_loc ql_m170.1 [(sR v0), (sI v1), (sI v2)]) [] S := by
  unfold q170_copyOfRange
  refine g2_iload qk170_0.1.1.1.1 rfl ?_
  refine g2_ifeq qk170_0.1.1.1.2 h1 (fun c1 => ?_) (fun c2 => ?_)
  · refine g2_iload qk170_0.1.1.2.1 rfl ?_
    refine g2_aload qk170_0.1.1.2.2 rfl ?_
    refine g2_ck (fun q3 => ?_)
    refine g2_kn (ka2 q3 (by decide)) (g2_alen qk170_0.1.2.1.1 hW (fun r4 x5 => ?_))
    refine g2_cmeq qk170_0.1.2.1.2 h2 x5 (fun c6 => ?_) (fun c7 => ?_)
    · refine g2_aload qk170_0.2.1.2.2 rfl ?_
      refine g2_ck (fun q14 => ?_)
      refine g2_ck (fun q15 => ?_)
      refine g2_kn ⟨⟨q3, q15⟩, q14⟩ (g2_clone qk170_0.2.2.1.1 hW rfl (fun p8 S9 x10 k11 m12 e13 => ?_))
      refine g2_kn ⟨k11.1, (rfO_of x10).2⟩ (g2_castB qk170_0.2.2.1.2 m12 ?_)
      exact g2_aret qk170_0.2.2.2 m12 (rfO_of x10)
    · refine g2_aload qk170_0.1.2.2.1 rfl ?_
      refine g2_iload qk170_0.1.2.2.2 rfl ?_
      refine g2_iload qk170_0.2.1.1.1 rfl ?_
      refine g2_callS (t' := 2) qk170_0.2.1.1.2 (by decide) (ql_ip169 hQ) rfl rfl rfl rfl (by omega) (tq169_copyOfRangeByte hQ (by omega) hW h0 h1 h2) (fun y16 S17 x18 m19 e20 => ?_)
      exact g2_aret qk170_0.2.1.2.1 m19 x18
  · refine g2_aload qk170_0.1.2.2.1 rfl ?_
    refine g2_iload qk170_0.1.2.2.2 rfl ?_
    refine g2_iload qk170_0.2.1.1.1 rfl ?_
    refine g2_callS (t' := 2) qk170_0.2.1.1.2 (by decide) (ql_ip169 hQ) rfl rfl rfl rfl (by omega) (tq169_copyOfRangeByte hQ (by omega) hW h0 h1 h2) (fun y21 S22 x23 m24 e25 => ?_)
    exact g2_aret qk170_0.2.1.2.1 m24 x23
noncomputable def j171_79 (v0 : Int) (v3 : Int) (v4 : Int) (S : sS) : Option (Int × sS) :=
  if -128 ≤ (1 : Int) ∧ (1 : Int) < 128 then bnd (uS S v0 1 (1 : Int)) (fun S38 => bdS (q170_copyOfRange S38 v3 (0 : Int) (opI 4 v4 (1 : Int))) (fun y41 S42 => bnd (uS S42 v0 0 y41) (fun S46 => some (0, S46)))) else none
theorem tj171_79 {κ : CX} (hQ : κ.2.2.2.2.2.2.2.2.2 = (ql_I, ql_P)) {n0 s0 : Int} {d : Nat} (hd : 4 ≤ d) {v0 v3 v4 : Int} (h0 : RfO v0) (h3 : RfO v3) (h4 : InR v4) (S : sS) (hW : WF2 κ S) (hK0 : sK S v0 = 12) (u1 : Option ev_V) (w1 : nwo u1) (u2 : Option ev_V) (w2 : nwo u2) : G2 κ ql_i171 ql_m171 0 d n0 s0 (j171_79 v0 v3 v4 S) 79 [some (sR v0), u1, u2, some (sR v3), some (sI v4)] [] S := by
  unfold j171_79
  refine g2_aload qk171_0.2.1.2.2.1 rfl ?_
  refine g2_int qk171_0.2.1.2.2.2 (1 : Int) rfl ?_
  refine g2_ck (fun q37 => ?_)
  refine g2_kn ⟨⟨hK0, h0.2⟩, q37⟩ (g2_put65 qk171_0.2.2.1.1.1.1 hW ⟨by decide, by decide, rfl⟩ (fun S38 m39 e40 => ?_))
  refine g2_aload qk171_0.2.2.1.1.1.2 rfl ?_
  refine g2_aload qk171_0.2.2.1.1.2 rfl ?_
  refine g2_int qk171_0.2.2.1.2.1 (0 : Int) rfl ?_
  refine g2_iload qk171_0.2.2.1.2.2 rfl ?_
  refine g2_int qk171_0.2.2.2.1.1.1 (1 : Int) rfl ?_
  refine g2_ibin qk171_0.2.2.2.1.1.2 ?_
  refine g2_callS (t' := 2) qk171_0.2.2.2.1.2 (by decide) (ql_ip170 hQ) rfl rfl rfl rfl (by omega) (tq170_copyOfRange hQ (by omega) m39 (rfA_of h3) (inR_b (Or.inl rfl)) (inR_opI _ _ _)) (fun y41 S42 x43 m44 e45 => ?_)
  refine g2_kn ⟨(ek e45 (ek e40 hK0 (by decide)) (by decide)), h0.2⟩ (g2_putA qk171_0.2.2.2.2.1 m44 ⟨by decide, by decide, rfl⟩ (rfA_of x43) (fun S46 m47 e48 => ?_))
  exact g2_vret qk171_0.2.2.2.2.2 m47
noncomputable def q171_init (S : sS) (v0 : Int) (v1 : Int) : Option (Int × sS) :=
  if sK S v1 = 11 then bdS (q165_getValue S v1) (fun y2 S3 => bdS (q167_length S3 v1) (fun y7 S8 => bdS (q149_isLatin1 S8 v1) (fun y12 S13 => if y12 = 0 then (if (1 : Int) = 0 then (j171_79 v0 y2 y7 S13) else (bnd (sg S13 v1 2) (fun r21 => if r21 = 0 then (j171_79 v0 y2 y7 S13) else (none)))) else (if -128 ≤ (0 : Int) ∧ (0 : Int) < 128 then bnd (uS S13 v0 1 (0 : Int)) (fun S26 => bdS (q170_copyOfRange S26 y2 (0 : Int) y7) (fun y29 S30 => bnd (uS S30 v0 0 y29) (fun S34 => some (0, S34)))) else none)))) else none
theorem tq171_init {κ : CX} (hQ : κ.2.2.2.2.2.2.2.2.2 = (ql_I, ql_P)) {n0 s0 : Int} {d : Nat} (hd : 4 ≤ d) {S : sS} (hW : WF2 κ S) {v0 v1 v2 : Int} (hK0 : sK S v0 = 12) (h0 : RfO v0) (h1 : RfO v1) (h2 : RfA v2) : G2 κ ql_i171 ql_m171 0 d n0 s0 (q171_init S v0 v1) 0 (ev_loc ql_m171.1 [(sR v0), (sR v1), (sR v2)]) [] S := by
  unfold q171_init
  refine g2_aload qk171_0.1.1.1.1.1.1 rfl ?_
  refine g2_objinit qk171_0.1.1.1.1.1.2 rfl (kn_pos hW.2.1 hK0 (by decide)) ?_
  refine g2_aload qk171_0.1.1.1.1.2 rfl ?_
  refine g2_ck (fun q1 => ?_)
  refine g2_kn q1 (g2_callU (t' := 2) qk171_0.1.1.1.2.1.1 (by decide) (ql_ip165 hQ) rfl rfl rfl (by omega) hW (tq165_getValue hQ (by omega) hW q1 h1) (fun y2 S3 x4 m5 e6 => ?_))
  refine g2_astore qk171_0.1.1.1.2.1.2 rfl (loc2 := [some (sR v0), some (sR v1), some (sR v2), some (sR y2), none]) rfl ?_
  refine g2_aload qk171_0.1.1.1.2.2 rfl ?_
  refine g2_kn (ek e6 q1 (by decide)) (g2_callU (t' := 1) qk171_0.1.1.2.1.1.1 (by decide) (ql_ip167 hQ) rfl rfl rfl (by omega) m5 (tq167_length hQ (by omega) m5 (ek e6 q1 (by decide)) h1) (fun y7 S8 x9 m10 e11 => ?_))
  refine g2_istore qk171_0.1.1.2.1.1.2 rfl (loc2 := [some (sR v0), some (sR v1), some (sR v2), some (sR y2), some (sI y7)]) rfl ?_
  refine g2_aload qk171_0.1.1.2.1.2 rfl ?_
  refine g2_kn (ek e11 (ek e6 q1 (by decide)) (by decide)) (g2_callU (t' := 3) qk171_0.1.1.2.2.1 (by decide) (ql_ip149 hQ) rfl rfl rfl (by omega) m10 (tq149_isLatin1 hQ (by omega) m10 (ek e11 (ek e6 q1 (by decide)) (by decide)) h1) (fun y12 S13 x14 m15 e16 => ?_))
  refine g2_ifeq qk171_0.1.1.2.2.2 (inR_b x14) (fun c17 => ?_) (fun c18 => ?_)
  · refine g2_gets0 qk171_0.2.1.1.1.1.1 ?_
    refine g2_ifeq qk171_0.2.1.1.1.1.2 (inR_b (Or.inr rfl)) (fun c19 => ?_) (fun c20 => ?_)
    · exact tj171_79 hQ hd h0 x4 x9 S13 m15 (ek e16 (ek e11 (ek e6 hK0 (by decide)) (by decide)) (by decide)) (some (sR v1)) rfl (some (sR v2)) rfl
    · refine g2_aload qk171_0.2.1.1.1.2 rfl ?_
      refine g2_kn (ek e16 (ek e11 (ek e6 q1 (by decide)) (by decide)) (by decide)) (g2_getB qk171_0.2.1.1.2.1.1 m15 ⟨by decide, by decide, by decide, rfl⟩ (fun r21 x22 => ?_))
      refine g2_ifeq qk171_0.2.1.1.2.1.2 (inR_b x22) (fun c23 => ?_) (fun c24 => ?_)
      · exact tj171_79 hQ hd h0 x4 x9 S13 m15 (ek e16 (ek e11 (ek e6 hK0 (by decide)) (by decide)) (by decide)) (some (sR v1)) rfl (some (sR v2)) rfl
      · refine g2_aload qk171_0.2.1.1.2.2 rfl ?_
        refine g2_aload qk171_0.2.1.2.1.1.1 rfl ?_
        refine g2_int qk171_0.2.1.2.1.1.2 (0 : Int) rfl ?_
        refine g2_iload qk171_0.2.1.2.1.2 rfl ?_
        exact g2_none
  · refine g2_aload qk171_0.1.2.1.1.1.1 rfl ?_
    refine g2_int qk171_0.1.2.1.1.1.2 (0 : Int) rfl ?_
    refine g2_ck (fun q25 => ?_)
    refine g2_kn ⟨⟨(ek e16 (ek e11 (ek e6 hK0 (by decide)) (by decide)) (by decide)), h0.2⟩, q25⟩ (g2_put65 qk171_0.1.2.1.1.2 m15 ⟨by decide, by decide, rfl⟩ (fun S26 m27 e28 => ?_))
    refine g2_aload qk171_0.1.2.1.2.1 rfl ?_
    refine g2_aload qk171_0.1.2.1.2.2 rfl ?_
    refine g2_int qk171_0.1.2.2.1.1.1 (0 : Int) rfl ?_
    refine g2_iload qk171_0.1.2.2.1.1.2 rfl ?_
    refine g2_callS (t' := 2) qk171_0.1.2.2.1.2 (by decide) (ql_ip170 hQ) rfl rfl rfl rfl (by omega) (tq170_copyOfRange hQ (by omega) m27 (rfA_of x4) (inR_b (Or.inl rfl)) x9) (fun y29 S30 x31 m32 e33 => ?_)
    refine g2_kn ⟨(ek e33 (ek e28 (ek e16 (ek e11 (ek e6 hK0 (by decide)) (by decide)) (by decide)) (by decide)) (by decide)), h0.2⟩ (g2_putA qk171_0.1.2.2.2.1 m32 ⟨by decide, by decide, rfl⟩ (rfA_of x31) (fun S34 m35 e36 => ?_))
    refine g2_goto qk171_0.1.2.2.2.2 ?_
    exact g2_vret qk171_0.2.2.2.2.2 m35
noncomputable def q172_init (S : sS) (v0 : Int) (v1 : Int) : Option (Int × sS) :=
  bdS (q171_init S v0 v1) (fun y1 S2 => some (0, S2))
theorem tq172_init {κ : CX} (hQ : κ.2.2.2.2.2.2.2.2.2 = (ql_I, ql_P)) {n0 s0 : Int} {d : Nat} (hd : 5 ≤ d) {S : sS} (hW : WF2 κ S) {v0 v1 : Int} (hK0 : sK S v0 = 12) (h0 : RfO v0) (h1 : RfO v1) : G2 κ ql_i172 ql_m172 0 d n0 s0 (q172_init S v0 v1) 0 (ev_loc ql_m172.1 [(sR v0), (sR v1)]) [] S := by
  unfold q172_init
  refine g2_aload qk172_0.1.1.1 rfl ?_
  refine g2_aload qk172_0.1.1.2 rfl ?_
  refine g2_null qk172_0.1.2 ?_
  refine g2_kn (kn_pos hW.2.1 hK0 (by decide)) (g2_callI qk172_0.2.1 (by decide) (ql_ip171 hQ) rfl rfl rfl (by omega) ⟨_, qd_172_3⟩ (tq171_init hQ (by omega) hW hK0 h0 h1 (rfA_of rfO_null)) (fun y1 S2 m4 e5 => ?_))
  exact g2_vret qk172_0.2.2 m4
noncomputable def q173_toString (S : sS) (v0 : Int) : Option (Int × sS) :=
  if sn S < 1000000 then bnd (sn S) (fun p1 => bnd (nS S 12 4) (fun S2 => bdS (q172_init S2 p1 v0) (fun y8 S9 => some (p1, S9)))) else none
theorem tq173_toString {κ : CX} (hQ : κ.2.2.2.2.2.2.2.2.2 = (ql_I, ql_P)) {n0 s0 : Int} {d : Nat} (hd : 6 ≤ d) {S : sS} (hW : WF2 κ S) {v0 : Int} (hK0 : sK S v0 = 11) (h0 : RfO v0) : G2 κ ql_i173 ql_m173 2 d n0 s0 (q173_toString S v0) 0 (ev_loc ql_m173.1 [(sR v0)]) [] S := by
  unfold q173_toString
  refine g2_ck (fun q7 => ?_)
  refine g2_kn q7 (g2_new qk173_0.1.1.1 hW ⟨⟨by decide, by decide⟩, rfl, by decide⟩ rfl (fun p1 S2 x3 k4 m5 e6 => ?_))
  refine g2_dupR qk173_0.1.1.2 ?_
  refine g2_aload qk173_0.1.2 rfl ?_
  refine g2_kn (kn_pos m5.2.1 k4.1 (by decide)) (g2_callI qk173_0.2.1 (by decide) (ql_ip172 hQ) rfl rfl rfl (by omega) ⟨_, qd_173_5⟩ (tq172_init hQ (by omega) m5 k4.1 (rfO_of x3) h0) (fun y8 S9 m11 e12 => ?_))
  exact g2_aret qk173_0.2.2 m11 (rfO_of x3)
noncomputable def b102_353 (X330 : sS → Option (Int × sS)) (v2 : Int) (v3 : Int) (v4 : Int) (X353 : Int → sS → Option (Int × sS)) (v5 : Int) (S : sS) : Option (Int × sS) :=
  if v5 < (8 : Int) then (if sK S v4 = 7 then bnd (sg S v4 12) (fun r316 => if sK S r316 = 27 then if 0 ≤ v5 ∧ v5 < sZ S r316 then bnd (sg S r316 v5) (fun r320 => if r320 < 0 then (X353 (w32 (v5 + (1 : Int))) S) else (if sK S v2 = 11 then bdS (q154_append S v2 2000110) (fun y325 S326 => bnd (sg S326 v4 0) (fun r330 => if sK S326 y325 = 11 then bdS (q161_append S326 y325 r330) (fun y333 S334 => if sK S334 y333 = 11 then bdS (q164_append S334 y333 (32 : Int)) (fun y339 S340 => if sK S340 y339 = 11 then bdS (q161_append S340 y339 v5) (fun y345 S346 => if sK S346 y345 = 11 then bdS (q164_append S346 y345 (32 : Int)) (fun y351 S352 => bnd (sg S352 v4 12) (fun r356 => if sK S352 r356 = 27 then if 0 ≤ v5 ∧ v5 < sZ S352 r356 then bnd (sg S352 r356 v5) (fun r360 => if sK S352 r360 = 7 then bnd (sg S352 r360 0) (fun r363 => if sK S352 y351 = 11 then bdS (q161_append S352 y351 r363) (fun y366 S367 => if sK S367 y366 = 11 then bdS (q164_append S367 y366 (59 : Int)) (fun y372 S373 => X353 (w32 (v5 + (1 : Int))) S373) else none) else none) else none) else none else none)) else none) else none) else none) else none)) else none)) else none else none) else none) else (X330 S)
noncomputable def l102_353 (X330 : sS → Option (Int × sS)) (v2 : Int) (v3 : Int) (v4 : Int) (n : Nat) : Int → sS → Option (Int × sS) := Nat.rec (motive := fun _ => Int → sS → Option (Int × sS)) (fun _ _ => none) (fun _ ih => b102_353 X330 v2 v3 v4 ih) n
theorem tb102_353 {κ : CX} (hQ : κ.2.2.2.2.2.2.2.2.2 = (ql_I, ql_P)) {n0 s0 : Int} {d : Nat} (hd : 10 ≤ d) {v2 v3 v4 : Int} (h2 : RfO v2) (h3 : RfO v3) (h4 : RfO v4) {X330 : sS → Option (Int × sS)} (HX330 : ∀ (S : sS) (hW : WF2 κ S) (u0 : Option ev_V) (w0 : nwo u0) (u1 : Option ev_V) (w1 : nwo u1) (u4 : Option ev_V) (w4 : nwo u4) (u5 : Option ev_V) (w5 : nwo u5) (u6 : Option ev_V) (w6 : nwo u6), G2 κ ql_i102 ql_m102 2 d n0 s0 (X330 S) 330 [u0, u1, some (sR v2), some (sR v3), u4, u5, u6] [] S) {X353 : Int → sS → Option (Int × sS)} (HX353 : ∀ (v5 : Int) (h5 : InR v5) (S : sS) (hW : WF2 κ S) (u0 : Option ev_V) (w0 : nwo u0) (u1 : Option ev_V) (w1 : nwo u1) (u6 : Option ev_V) (w6 : nwo u6), G2 κ ql_i102 ql_m102 2 d n0 s0 (X353 v5 S) 353 [u0, u1, some (sR v2), some (sR v3), some (sR v4), some (sI v5), u6] [] S) : ∀ (v5 : Int) (h5 : InR v5) (S : sS) (hW : WF2 κ S) (u0 : Option ev_V) (w0 : nwo u0) (u1 : Option ev_V) (w1 : nwo u1) (u6 : Option ev_V) (w6 : nwo u6), G2 κ ql_i102 ql_m102 2 d n0 s0 (b102_353 X330 v2 v3 v4 X353 v5 S) 353 [u0, u1, some (sR v2), some (sR v3), some (sR v4), some (sI v5), u6] [] S := by
  intro v5 h5 S hW u0 w0 u1 w1 u6 w6
  unfold b102_353
  refine g2_iload qk102_3.1.2.1.1.2 rfl ?_
  refine g2_int qk102_3.1.2.1.2.1.1 (8 : Int) rfl ?_
  refine g2_cmlt qk102_3.1.2.1.2.1.2 h5 (inR_of (by decide)) (fun c313 => ?_) (fun c314 => ?_)
  · refine g2_aload qk102_3.1.2.1.2.2 rfl ?_
    refine g2_ck (fun q315 => ?_)
    refine g2_kn q315 (g2_getR qk102_3.1.2.2.1.1.1 hW ⟨by decide, by decide, by decide, rfl⟩ (fun r316 x317 => ?_))
    refine g2_iload qk102_3.1.2.2.1.1.2 rfl ?_
    refine g2_ck (fun q318 => ?_)
    refine g2_ck (fun q319 => ?_)
    refine g2_kn ⟨Or.inr q318, q319⟩ (g2_aald qk102_3.1.2.2.1.2 hW (fun r320 x321 => ?_))
    refine g2_isnull qk102_3.1.2.2.2.1.1 (fun c322 => ?_) (fun c323 => ?_)
    · refine g2_iinc qk102_3.2.2.2.1.1.1 rfl rfl (1 : Int) rfl (loc2 := [u0, u1, some (sR v2), some (sR v3), some (sR v4), some (sI (w32 (v5 + (1 : Int)))), u6]) rfl ?_
      refine g2_goto qk102_3.2.2.2.1.1.2 ?_
      exact HX353 (w32 (v5 + (1 : Int))) (inR_w32 _) S hW u0 w0 u1 w1 u6 w6
    · refine g2_aload qk102_3.1.2.2.2.1.2 rfl ?_
      refine g2_ldcs qk102_3.1.2.2.2.2 (v := 2000110) rfl ?_
      refine g2_ck (fun q324 => ?_)
      refine g2_kn q324 (g2_callV (t' := 2) qk102_3.2.1.1.1.1.1 (by decide) (ql_ip154 hQ) (by decide) rfl rfl rfl (by omega) hW (tq154_append hQ (by omega) hW q324 h2 (rfA_of2 (by decide))) (fun y325 S326 x327 m328 e329 => ?_))
      refine g2_aload qk102_3.2.1.1.1.1.2 rfl ?_
      refine g2_kn (ek e329 q315 (by decide)) (g2_getI qk102_3.2.1.1.1.2.1 m328 ⟨by decide, by decide, by decide, rfl⟩ (fun r330 x331 => ?_))
      refine g2_ck (fun q332 => ?_)
      refine g2_kn q332 (g2_callV (t' := 2) qk102_3.2.1.1.1.2.2 (by decide) (ql_ip161 hQ) (by decide) rfl rfl rfl (by omega) m328 (tq161_append hQ (by omega) m328 q332 x327 x331) (fun y333 S334 x335 m336 e337 => ?_))
      refine g2_int qk102_3.2.1.1.2.1.1 (32 : Int) rfl ?_
      refine g2_ck (fun q338 => ?_)
      refine g2_kn q338 (g2_callV (t' := 2) qk102_3.2.1.1.2.1.2 (by decide) (ql_ip164 hQ) (by decide) rfl rfl rfl (by omega) m336 (tq164_append hQ (by omega) m336 q338 x335 (inR_of (by decide))) (fun y339 S340 x341 m342 e343 => ?_))
      refine g2_iload qk102_3.2.1.1.2.2 rfl ?_
      refine g2_ck (fun q344 => ?_)
      refine g2_kn q344 (g2_callV (t' := 2) qk102_3.2.1.2.1.1.1 (by decide) (ql_ip161 hQ) (by decide) rfl rfl rfl (by omega) m342 (tq161_append hQ (by omega) m342 q344 x341 h5) (fun y345 S346 x347 m348 e349 => ?_))
      refine g2_int qk102_3.2.1.2.1.1.2 (32 : Int) rfl ?_
      refine g2_ck (fun q350 => ?_)
      refine g2_kn q350 (g2_callV (t' := 2) qk102_3.2.1.2.1.2 (by decide) (ql_ip164 hQ) (by decide) rfl rfl rfl (by omega) m348 (tq164_append hQ (by omega) m348 q350 x347 (inR_of (by decide))) (fun y351 S352 x353 m354 e355 => ?_))
      refine g2_aload qk102_3.2.1.2.2.1.1 rfl ?_
      refine g2_kn (ek e355 (ek e349 (ek e343 (ek e337 (ek e329 q315 (by decide)) (by decide)) (by decide)) (by decide)) (by decide)) (g2_getR qk102_3.2.1.2.2.1.2 m354 ⟨by decide, by decide, by decide, rfl⟩ (fun r356 x357 => ?_))
      refine g2_iload qk102_3.2.1.2.2.2 rfl ?_
      refine g2_ck (fun q358 => ?_)
      refine g2_ck (fun q359 => ?_)
      refine g2_kn ⟨Or.inr q358, q359⟩ (g2_aald qk102_3.2.2.1.1.1.1 m354 (fun r360 x361 => ?_))
      refine g2_ck (fun q362 => ?_)
      refine g2_kn q362 (g2_getI qk102_3.2.2.1.1.1.2 m354 ⟨by decide, by decide, by decide, rfl⟩ (fun r363 x364 => ?_))
      refine g2_ck (fun q365 => ?_)
      refine g2_kn q365 (g2_callV (t' := 2) qk102_3.2.2.1.1.2 (by decide) (ql_ip161 hQ) (by decide) rfl rfl rfl (by omega) m354 (tq161_append hQ (by omega) m354 q365 x353 x364) (fun y366 S367 x368 m369 e370 => ?_))
      refine g2_int qk102_3.2.2.1.2.1.1 (59 : Int) rfl ?_
      refine g2_ck (fun q371 => ?_)
      refine g2_kn q371 (g2_callV (t' := 2) qk102_3.2.2.1.2.1.2 (by decide) (ql_ip164 hQ) (by decide) rfl rfl rfl (by omega) m369 (tq164_append hQ (by omega) m369 q371 x368 (inR_of (by decide))) (fun y372 S373 x374 m375 e376 => ?_))
      refine g2_popR qk102_3.2.2.1.2.2 ?_
      refine g2_iinc qk102_3.2.2.2.1.1.1 rfl rfl (1 : Int) rfl (loc2 := [u0, u1, some (sR v2), some (sR v3), some (sR v4), some (sI (w32 (v5 + (1 : Int)))), u6]) rfl ?_
      refine g2_goto qk102_3.2.2.2.1.1.2 ?_
      exact HX353 (w32 (v5 + (1 : Int))) (inR_w32 _) S373 m375 u0 w0 u1 w1 u6 w6
  · refine g2_goto qk102_3.2.2.2.1.2 ?_
    exact HX330 S hW u0 w0 u1 w1 (some (sR v4)) rfl (some (sI v5)) rfl u6 w6
theorem tl102_353 {κ : CX} (hQ : κ.2.2.2.2.2.2.2.2.2 = (ql_I, ql_P)) {n0 s0 : Int} {d : Nat} (hd : 10 ≤ d) {v2 v3 v4 : Int} (h2 : RfO v2) (h3 : RfO v3) (h4 : RfO v4) {X330 : sS → Option (Int × sS)} (HX330 : ∀ (S : sS) (hW : WF2 κ S) (u0 : Option ev_V) (w0 : nwo u0) (u1 : Option ev_V) (w1 : nwo u1) (u4 : Option ev_V) (w4 : nwo u4) (u5 : Option ev_V) (w5 : nwo u5) (u6 : Option ev_V) (w6 : nwo u6), G2 κ ql_i102 ql_m102 2 d n0 s0 (X330 S) 330 [u0, u1, some (sR v2), some (sR v3), u4, u5, u6] [] S) : ∀ n : Nat, ∀ (v5 : Int) (h5 : InR v5) (S : sS) (hW : WF2 κ S) (u0 : Option ev_V) (w0 : nwo u0) (u1 : Option ev_V) (w1 : nwo u1) (u6 : Option ev_V) (w6 : nwo u6), G2 κ ql_i102 ql_m102 2 d n0 s0 (l102_353 X330 v2 v3 v4 n v5 S) 353 [u0, u1, some (sR v2), some (sR v3), some (sR v4), some (sI v5), u6] [] S := by
  intro n
  induction n with
  | zero =>
    intro v5 h5 S hW u0 w0 u1 w1 u6 w6
    exact g2_none
  | succ n ih =>
    exact tb102_353 hQ hd h2 h3 h4 HX330 ih
noncomputable def b102_330 (v2 : Int) (v3 : Int) (X330 : sS → Option (Int × sS)) (S : sS) : Option (Int × sS) :=
  if sK S v3 = 10 then bdS (q137_hasNext S v3) (fun y294 S295 => if y294 = 0 then (if sK S295 v2 = 11 then bdS (q173_toString S295 v2) (fun y302 S303 => some (y302, S303)) else none) else (bdS (q139_next S295 v3) (fun y307 S308 => if y307 = -1 ∨ sK S308 y307 = 7 then l102_353 X330 v2 v3 y307 fu (0 : Int) S308 else none))) else none
noncomputable def l102_330 (v2 : Int) (v3 : Int) (n : Nat) : sS → Option (Int × sS) := Nat.rec (motive := fun _ => sS → Option (Int × sS)) (fun _ => none) (fun _ ih => b102_330 v2 v3 ih) n
theorem tb102_330 {κ : CX} (hQ : κ.2.2.2.2.2.2.2.2.2 = (ql_I, ql_P)) {n0 s0 : Int} {d : Nat} (hd : 10 ≤ d) {v2 v3 : Int} (h2 : RfO v2) (h3 : RfO v3) {X330 : sS → Option (Int × sS)} (HX330 : ∀ (S : sS) (hW : WF2 κ S) (u0 : Option ev_V) (w0 : nwo u0) (u1 : Option ev_V) (w1 : nwo u1) (u4 : Option ev_V) (w4 : nwo u4) (u5 : Option ev_V) (w5 : nwo u5) (u6 : Option ev_V) (w6 : nwo u6), G2 κ ql_i102 ql_m102 2 d n0 s0 (X330 S) 330 [u0, u1, some (sR v2), some (sR v3), u4, u5, u6] [] S) : ∀ (S : sS) (hW : WF2 κ S) (u0 : Option ev_V) (w0 : nwo u0) (u1 : Option ev_V) (w1 : nwo u1) (u4 : Option ev_V) (w4 : nwo u4) (u5 : Option ev_V) (w5 : nwo u5) (u6 : Option ev_V) (w6 : nwo u6), G2 κ ql_i102 ql_m102 2 d n0 s0 (b102_330 v2 v3 X330 S) 330 [u0, u1, some (sR v2), some (sR v3), u4, u5, u6] [] S := by
  intro S hW u0 w0 u1 w1 u4 w4 u5 w5 u6 w6
  unfold b102_330
  refine g2_aload qk102_3.1.1.1.2.2 rfl ?_
  refine g2_ck (fun q293 => ?_)
  refine g2_kn q293 (g2_callF (t' := 3) qk102_3.1.1.2.1.1.1 (by decide) (ql_ip137 hQ) rfl rfl rfl (by omega) hW (tq137_hasNext hQ (by omega) hW q293 h3) (fun y294 S295 x296 m297 e298 => ?_))
  refine g2_ifeq qk102_3.1.1.2.1.1.2 (inR_b x296) (fun c299 => ?_) (fun c300 => ?_)
  · refine g2_aload qk102_3.2.2.2.2.1.1 rfl ?_
    refine g2_ck (fun q301 => ?_)
    refine g2_kn q301 (g2_callV (t' := 2) qk102_3.2.2.2.2.1.2 (by decide) (ql_ip173 hQ) (by decide) rfl rfl rfl (by omega) m297 (tq173_toString hQ (by omega) m297 q301 h2) (fun y302 S303 x304 m305 e306 => ?_))
    exact g2_aret qk102_3.2.2.2.2.2 m305 x304
  · refine g2_aload qk102_3.1.1.2.1.2 rfl ?_
    refine g2_kn (ek e298 q293 (by decide)) (g2_callF (t' := 2) qk102_3.1.1.2.2.1.1 (by decide) (ql_ip139 hQ) rfl rfl rfl (by omega) m297 (tq139_next hQ (by omega) m297 (ek e298 q293 (by decide)) h3) (fun y307 S308 x309 m310 e311 => ?_))
    refine g2_ck (fun q312 => ?_)
    refine g2_kn q312 (g2_cast7 qk102_3.1.1.2.2.1.2 m310 x309 ?_)
    refine g2_astore qk102_3.1.1.2.2.2 rfl (loc2 := [u0, u1, some (sR v2), some (sR v3), some (sR y307), u5, u6]) rfl ?_
    refine g2_int qk102_3.1.2.1.1.1.1 (0 : Int) rfl ?_
    refine g2_istore qk102_3.1.2.1.1.1.2 rfl (loc2 := [u0, u1, some (sR v2), some (sR v3), some (sR y307), some (sI (0 : Int)), u6]) rfl ?_
    exact tl102_353 hQ hd h2 h3 x309 HX330 fu (0 : Int) (inR_b (Or.inl rfl)) S308 m310 u0 w0 u1 w1 u6 w6
theorem tl102_330 {κ : CX} (hQ : κ.2.2.2.2.2.2.2.2.2 = (ql_I, ql_P)) {n0 s0 : Int} {d : Nat} (hd : 10 ≤ d) {v2 v3 : Int} (h2 : RfO v2) (h3 : RfO v3) : ∀ n : Nat, ∀ (S : sS) (hW : WF2 κ S) (u0 : Option ev_V) (w0 : nwo u0) (u1 : Option ev_V) (w1 : nwo u1) (u4 : Option ev_V) (w4 : nwo u4) (u5 : Option ev_V) (w5 : nwo u5) (u6 : Option ev_V) (w6 : nwo u6), G2 κ ql_i102 ql_m102 2 d n0 s0 (l102_330 v2 v3 n S) 330 [u0, u1, some (sR v2), some (sR v3), u4, u5, u6] [] S := by
  intro n
  induction n with
  | zero =>
    intro S hW u0 w0 u1 w1 u4 w4 u5 w5 u6 w6
    exact g2_none
  | succ n ih =>
    exact tb102_330 hQ hd h2 h3 ih
noncomputable def j102_320 (v0 : Int) (v2 : Int) (S : sS) : Option (Int × sS) :=
  bnd (sg S v0 0) (fun r285 => if sK S r285 = 9 then bdS (q136_iterator S r285) (fun y288 S289 => l102_330 v2 y288 fu S289) else none)
theorem tj102_320 {κ : CX} (hQ : κ.2.2.2.2.2.2.2.2.2 = (ql_I, ql_P)) {n0 s0 : Int} {d : Nat} (hd : 10 ≤ d) {v0 v2 : Int} (h0 : RfO v0) (h2 : RfO v2) (S : sS) (hW : WF2 κ S) (hK0 : sK S v0 = 8) (u1 : Option ev_V) (w1 : nwo u1) (u3 : Option ev_V) (w3 : nwo u3) (u4 : Option ev_V) (w4 : nwo u4) (u5 : Option ev_V) (w5 : nwo u5) (u6 : Option ev_V) (w6 : nwo u6) : G2 κ ql_i102 ql_m102 2 d n0 s0 (j102_320 v0 v2 S) 320 [some (sR v0), u1, some (sR v2), u3, u4, u5, u6] [] S := by
  unfold j102_320
  refine g2_aload qk102_3.1.1.1.1.2.1 rfl ?_
  refine g2_kn hK0 (g2_getR qk102_3.1.1.1.1.2.2 hW ⟨by decide, by decide, by decide, rfl⟩ (fun r285 x286 => ?_))
  refine g2_ck (fun q287 => ?_)
  refine g2_kn q287 (g2_callF (t' := 2) qk102_3.1.1.1.2.1.1 (by decide) (ql_ip136 hQ) rfl rfl rfl (by omega) hW (tq136_iterator hQ (by omega) hW q287 x286) (fun y288 S289 x290 m291 e292 => ?_))
  refine g2_astore qk102_3.1.1.1.2.1.2 rfl (loc2 := [some (sR v0), u1, some (sR v2), some (sR y288), u4, u5, u6]) rfl ?_
  exact tl102_330 hQ hd h2 x290 fu S289 m291 (some (sR v0)) rfl u1 w1 u4 w4 u5 w5 u6 w6
noncomputable def b102_276 (v0 : Int) (v2 : Int) (X276 : Int → sS → Option (Int × sS)) (v3 : Int) (S : sS) : Option (Int × sS) :=
  if v3 < (4 : Int) then (if sK S v2 = 11 then bdS (q154_append S v2 2000109) (fun y247 S248 => if sK S248 y247 = 11 then bdS (q161_append S248 y247 v3) (fun y253 S254 => if sK S254 y253 = 11 then bdS (q164_append S254 y253 (32 : Int)) (fun y259 S260 => bnd (sg S260 v0 2) (fun r264 => if sK S260 r264 = 27 then if 0 ≤ v3 ∧ v3 < sZ S260 r264 then bnd (sg S260 r264 v3) (fun r268 => if sK S260 r268 = 7 then bnd (sg S260 r268 0) (fun r271 => if sK S260 y259 = 11 then bdS (q161_append S260 y259 r271) (fun y274 S275 => if sK S275 y274 = 11 then bdS (q164_append S275 y274 (59 : Int)) (fun y280 S281 => X276 (w32 (v3 + (1 : Int))) S281) else none) else none) else none) else none else none)) else none) else none) else none) else (j102_320 v0 v2 S)
noncomputable def l102_276 (v0 : Int) (v2 : Int) (n : Nat) : Int → sS → Option (Int × sS) := Nat.rec (motive := fun _ => Int → sS → Option (Int × sS)) (fun _ _ => none) (fun _ ih => b102_276 v0 v2 ih) n
theorem tb102_276 {κ : CX} (hQ : κ.2.2.2.2.2.2.2.2.2 = (ql_I, ql_P)) {n0 s0 : Int} {d : Nat} (hd : 10 ≤ d) {v0 v2 : Int} (h0 : RfO v0) (h2 : RfO v2) {X276 : Int → sS → Option (Int × sS)} (HX276 : ∀ (v3 : Int) (h3 : InR v3) (S : sS) (hW : WF2 κ S) (hK0 : sK S v0 = 8) (u1 : Option ev_V) (w1 : nwo u1) (u4 : Option ev_V) (w4 : nwo u4) (u5 : Option ev_V) (w5 : nwo u5) (u6 : Option ev_V) (w6 : nwo u6), G2 κ ql_i102 ql_m102 2 d n0 s0 (X276 v3 S) 276 [some (sR v0), u1, some (sR v2), some (sI v3), u4, u5, u6] [] S) : ∀ (v3 : Int) (h3 : InR v3) (S : sS) (hW : WF2 κ S) (hK0 : sK S v0 = 8) (u1 : Option ev_V) (w1 : nwo u1) (u4 : Option ev_V) (w4 : nwo u4) (u5 : Option ev_V) (w5 : nwo u5) (u6 : Option ev_V) (w6 : nwo u6), G2 κ ql_i102 ql_m102 2 d n0 s0 (b102_276 v0 v2 X276 v3 S) 276 [some (sR v0), u1, some (sR v2), some (sI v3), u4, u5, u6] [] S := by
  intro v3 h3 S hW hK0 u1 w1 u4 w4 u5 w5 u6 w6
  unfold b102_276
  refine g2_iload qk102_2.2.1.1.2.2 rfl ?_
  refine g2_int qk102_2.2.1.2.1.1.1 (4 : Int) rfl ?_
  refine g2_cmlt qk102_2.2.1.2.1.1.2 h3 (inR_of (by decide)) (fun c244 => ?_) (fun c245 => ?_)
  · refine g2_aload qk102_2.2.1.2.1.2 rfl ?_
    refine g2_ldcs qk102_2.2.1.2.2.1.1 (v := 2000109) rfl ?_
    refine g2_ck (fun q246 => ?_)
    refine g2_kn q246 (g2_callV (t' := 2) qk102_2.2.1.2.2.1.2 (by decide) (ql_ip154 hQ) (by decide) rfl rfl rfl (by omega) hW (tq154_append hQ (by omega) hW q246 h2 (rfA_of2 (by decide))) (fun y247 S248 x249 m250 e251 => ?_))
    refine g2_iload qk102_2.2.1.2.2.2 rfl ?_
    refine g2_ck (fun q252 => ?_)
    refine g2_kn q252 (g2_callV (t' := 2) qk102_2.2.2.1.1.1.1 (by decide) (ql_ip161 hQ) (by decide) rfl rfl rfl (by omega) m250 (tq161_append hQ (by omega) m250 q252 x249 h3) (fun y253 S254 x255 m256 e257 => ?_))
    refine g2_int qk102_2.2.2.1.1.1.2 (32 : Int) rfl ?_
    refine g2_ck (fun q258 => ?_)
    refine g2_kn q258 (g2_callV (t' := 2) qk102_2.2.2.1.1.2 (by decide) (ql_ip164 hQ) (by decide) rfl rfl rfl (by omega) m256 (tq164_append hQ (by omega) m256 q258 x255 (inR_of (by decide))) (fun y259 S260 x261 m262 e263 => ?_))
    refine g2_aload qk102_2.2.2.1.2.1.1 rfl ?_
    refine g2_kn (ek e263 (ek e257 (ek e251 hK0 (by decide)) (by decide)) (by decide)) (g2_getR qk102_2.2.2.1.2.1.2 m262 ⟨by decide, by decide, by decide, rfl⟩ (fun r264 x265 => ?_))
    refine g2_iload qk102_2.2.2.1.2.2 rfl ?_
    refine g2_ck (fun q266 => ?_)
    refine g2_ck (fun q267 => ?_)
    refine g2_kn ⟨Or.inr q266, q267⟩ (g2_aald qk102_2.2.2.2.1.1.1 m262 (fun r268 x269 => ?_))
    refine g2_ck (fun q270 => ?_)
    refine g2_kn q270 (g2_getI qk102_2.2.2.2.1.1.2 m262 ⟨by decide, by decide, by decide, rfl⟩ (fun r271 x272 => ?_))
    refine g2_ck (fun q273 => ?_)
    refine g2_kn q273 (g2_callV (t' := 2) qk102_2.2.2.2.1.2 (by decide) (ql_ip161 hQ) (by decide) rfl rfl rfl (by omega) m262 (tq161_append hQ (by omega) m262 q273 x261 x272) (fun y274 S275 x276 m277 e278 => ?_))
    refine g2_int qk102_2.2.2.2.2.1.1 (59 : Int) rfl ?_
    refine g2_ck (fun q279 => ?_)
    refine g2_kn q279 (g2_callV (t' := 2) qk102_2.2.2.2.2.1.2 (by decide) (ql_ip164 hQ) (by decide) rfl rfl rfl (by omega) m277 (tq164_append hQ (by omega) m277 q279 x276 (inR_of (by decide))) (fun y280 S281 x282 m283 e284 => ?_))
    refine g2_popR qk102_2.2.2.2.2.2 ?_
    refine g2_iinc qk102_3.1.1.1.1.1.1 rfl rfl (1 : Int) rfl (loc2 := [some (sR v0), u1, some (sR v2), some (sI (w32 (v3 + (1 : Int)))), u4, u5, u6]) rfl ?_
    refine g2_goto qk102_3.1.1.1.1.1.2 ?_
    exact HX276 (w32 (v3 + (1 : Int))) (inR_w32 _) S281 m283 (ek e284 (ek e278 (ek e263 (ek e257 (ek e251 hK0 (by decide)) (by decide)) (by decide)) (by decide)) (by decide)) u1 w1 u4 w4 u5 w5 u6 w6
  · exact tj102_320 hQ hd h0 h2 S hW hK0 u1 w1 (some (sI v3)) rfl u4 w4 u5 w5 u6 w6
theorem tl102_276 {κ : CX} (hQ : κ.2.2.2.2.2.2.2.2.2 = (ql_I, ql_P)) {n0 s0 : Int} {d : Nat} (hd : 10 ≤ d) {v0 v2 : Int} (h0 : RfO v0) (h2 : RfO v2) : ∀ n : Nat, ∀ (v3 : Int) (h3 : InR v3) (S : sS) (hW : WF2 κ S) (hK0 : sK S v0 = 8) (u1 : Option ev_V) (w1 : nwo u1) (u4 : Option ev_V) (w4 : nwo u4) (u5 : Option ev_V) (w5 : nwo u5) (u6 : Option ev_V) (w6 : nwo u6), G2 κ ql_i102 ql_m102 2 d n0 s0 (l102_276 v0 v2 n v3 S) 276 [some (sR v0), u1, some (sR v2), some (sI v3), u4, u5, u6] [] S := by
  intro n
  induction n with
  | zero =>
    intro v3 h3 S hW hK0 u1 w1 u4 w4 u5 w5 u6 w6
    exact g2_none
  | succ n ih =>
    exact tb102_276 hQ hd h0 h2 ih
noncomputable def b102_149 (v0 : Int) (v2 : Int) (X149 : Int → sS → Option (Int × sS)) (v3 : Int) (S : sS) : Option (Int × sS) :=
  bnd (sg S v0 0) (fun r129 => if sK S r129 = 9 then bdS (q134_size S r129) (fun y132 S133 => if v3 < y132 then (if sK S133 v2 = 11 then bdS (q154_append S133 v2 2000108) (fun y140 S141 => bnd (sg S141 v0 0) (fun r145 => if sK S141 r145 = 9 then bdS (q133_get S141 r145 v3) (fun y148 S149 => if y148 = -1 ∨ sK S149 y148 = 7 then if sK S149 y148 = 7 then bnd (sg S149 y148 2) (fun r155 => if sK S149 r155 = 7 then bnd (sg S149 r155 0) (fun r158 => if sK S149 y140 = 11 then bdS (q161_append S149 y140 r158) (fun y161 S162 => if sK S162 y161 = 11 then bdS (q164_append S162 y161 (32 : Int)) (fun y167 S168 => bnd (sg S168 v0 0) (fun r172 => if sK S168 r172 = 9 then bdS (q133_get S168 r172 v3) (fun y175 S176 => if y175 = -1 ∨ sK S176 y175 = 7 then if sK S176 y175 = 7 then bnd (sg S176 y175 5) (fun r182 => if sK S176 y167 = 11 then bdS (q161_append S176 y167 r182) (fun y185 S186 => if sK S186 y185 = 11 then bdS (q164_append S186 y185 (32 : Int)) (fun y191 S192 => bnd (sg S192 v0 0) (fun r196 => if sK S192 r196 = 9 then bdS (q133_get S192 r196 v3) (fun y199 S200 => if y199 = -1 ∨ sK S200 y199 = 7 then if sK S200 y199 = 7 then bnd (sg S200 y199 1) (fun r206 => if sK S200 y191 = 11 then bdS (q161_append S200 y191 r206) (fun y209 S210 => if sK S210 y209 = 11 then bdS (q164_append S210 y209 (32 : Int)) (fun y215 S216 => bnd (sg S216 v0 0) (fun r220 => if sK S216 r220 = 9 then bdS (q133_get S216 r220 v3) (fun y223 S224 => if y223 = -1 ∨ sK S224 y223 = 7 then if sK S224 y223 = 7 then bnd (sg S224 y223 6) (fun r230 => if sK S224 y215 = 11 then bdS (q161_append S224 y215 r230) (fun y233 S234 => if sK S234 y233 = 11 then bdS (q164_append S234 y233 (59 : Int)) (fun y239 S240 => X149 (w32 (v3 + (1 : Int))) S240) else none) else none) else none else none) else none)) else none) else none) else none else none) else none)) else none) else none) else none else none) else none)) else none) else none) else none) else none else none) else none)) else none) else (l102_276 v0 v2 fu (0 : Int) S133)) else none)
noncomputable def l102_149 (v0 : Int) (v2 : Int) (n : Nat) : Int → sS → Option (Int × sS) := Nat.rec (motive := fun _ => Int → sS → Option (Int × sS)) (fun _ _ => none) (fun _ ih => b102_149 v0 v2 ih) n
theorem tb102_149 {κ : CX} (hQ : κ.2.2.2.2.2.2.2.2.2 = (ql_I, ql_P)) {n0 s0 : Int} {d : Nat} (hd : 10 ≤ d) {v0 v2 : Int} (h0 : RfO v0) (h2 : RfO v2) {X149 : Int → sS → Option (Int × sS)} (HX149 : ∀ (v3 : Int) (h3 : InR v3) (S : sS) (hW : WF2 κ S) (hK0 : sK S v0 = 8) (u1 : Option ev_V) (w1 : nwo u1) (u4 : Option ev_V) (w4 : nwo u4) (u5 : Option ev_V) (w5 : nwo u5) (u6 : Option ev_V) (w6 : nwo u6), G2 κ ql_i102 ql_m102 2 d n0 s0 (X149 v3 S) 149 [some (sR v0), u1, some (sR v2), some (sI v3), u4, u5, u6] [] S) : ∀ (v3 : Int) (h3 : InR v3) (S : sS) (hW : WF2 κ S) (hK0 : sK S v0 = 8) (u1 : Option ev_V) (w1 : nwo u1) (u4 : Option ev_V) (w4 : nwo u4) (u5 : Option ev_V) (w5 : nwo u5) (u6 : Option ev_V) (w6 : nwo u6), G2 κ ql_i102 ql_m102 2 d n0 s0 (b102_149 v0 v2 X149 v3 S) 149 [some (sR v0), u1, some (sR v2), some (sI v3), u4, u5, u6] [] S := by
  intro v3 h3 S hW hK0 u1 w1 u4 w4 u5 w5 u6 w6
  unfold b102_149
  refine g2_iload qk102_1.2.1.1.2.2 rfl ?_
  refine g2_aload qk102_1.2.1.2.1.1.1 rfl ?_
  refine g2_kn hK0 (g2_getR qk102_1.2.1.2.1.1.2 hW ⟨by decide, by decide, by decide, rfl⟩ (fun r129 x130 => ?_))
  refine g2_ck (fun q131 => ?_)
  refine g2_kn q131 (g2_callF (t' := 1) qk102_1.2.1.2.1.2 (by decide) (ql_ip134 hQ) rfl rfl rfl (by omega) hW (tq134_size hQ (by omega) hW q131 x130) (fun y132 S133 x134 m135 e136 => ?_))
  refine g2_cmlt qk102_1.2.1.2.2.1.1 h3 x134 (fun c137 => ?_) (fun c138 => ?_)
  · refine g2_aload qk102_1.2.1.2.2.1.2 rfl ?_
    refine g2_ldcs qk102_1.2.1.2.2.2 (v := 2000108) rfl ?_
    refine g2_ck (fun q139 => ?_)
    refine g2_kn q139 (g2_callV (t' := 2) qk102_1.2.2.1.1.1.1 (by decide) (ql_ip154 hQ) (by decide) rfl rfl rfl (by omega) m135 (tq154_append hQ (by omega) m135 q139 h2 (rfA_of2 (by decide))) (fun y140 S141 x142 m143 e144 => ?_))
    refine g2_aload qk102_1.2.2.1.1.1.2 rfl ?_
    refine g2_kn (ek e144 (ek e136 hK0 (by decide)) (by decide)) (g2_getR qk102_1.2.2.1.1.2 m143 ⟨by decide, by decide, by decide, rfl⟩ (fun r145 x146 => ?_))
    refine g2_iload qk102_1.2.2.1.2.1.1 rfl ?_
    refine g2_ck (fun q147 => ?_)
    refine g2_kn q147 (g2_callF (t' := 2) qk102_1.2.2.1.2.1.2 (by decide) (ql_ip133 hQ) rfl rfl rfl (by omega) m143 (tq133_get hQ (by omega) m143 q147 x146 h3) (fun y148 S149 x150 m151 e152 => ?_))
    refine g2_ck (fun q153 => ?_)
    refine g2_kn q153 (g2_cast7 qk102_1.2.2.1.2.2 m151 x150 ?_)
    refine g2_ck (fun q154 => ?_)
    refine g2_kn q154 (g2_getR qk102_1.2.2.2.1.1.1 m151 ⟨by decide, by decide, by decide, rfl⟩ (fun r155 x156 => ?_))
    refine g2_ck (fun q157 => ?_)
    refine g2_kn q157 (g2_getI qk102_1.2.2.2.1.1.2 m151 ⟨by decide, by decide, by decide, rfl⟩ (fun r158 x159 => ?_))
    refine g2_ck (fun q160 => ?_)
    refine g2_kn q160 (g2_callV (t' := 2) qk102_1.2.2.2.1.2 (by decide) (ql_ip161 hQ) (by decide) rfl rfl rfl (by omega) m151 (tq161_append hQ (by omega) m151 q160 x142 x159) (fun y161 S162 x163 m164 e165 => ?_))
    refine g2_int qk102_1.2.2.2.2.1.1 (32 : Int) rfl ?_
    refine g2_ck (fun q166 => ?_)
    refine g2_kn q166 (g2_callV (t' := 2) qk102_1.2.2.2.2.1.2 (by decide) (ql_ip164 hQ) (by decide) rfl rfl rfl (by omega) m164 (tq164_append hQ (by omega) m164 q166 x163 (inR_of (by decide))) (fun y167 S168 x169 m170 e171 => ?_))
    refine g2_aload qk102_1.2.2.2.2.2 rfl ?_
    refine g2_kn (ek e171 (ek e165 (ek e152 (ek e144 (ek e136 hK0 (by decide)) (by decide)) (by decide)) (by decide)) (by decide)) (g2_getR qk102_2.1.1.1.1.1.1 m170 ⟨by decide, by decide, by decide, rfl⟩ (fun r172 x173 => ?_))
    refine g2_iload qk102_2.1.1.1.1.1.2 rfl ?_
    refine g2_ck (fun q174 => ?_)
    refine g2_kn q174 (g2_callF (t' := 2) qk102_2.1.1.1.1.2.1 (by decide) (ql_ip133 hQ) rfl rfl rfl (by omega) m170 (tq133_get hQ (by omega) m170 q174 x173 h3) (fun y175 S176 x177 m178 e179 => ?_))
    refine g2_ck (fun q180 => ?_)
    refine g2_kn q180 (g2_cast7 qk102_2.1.1.1.1.2.2 m178 x177 ?_)
    refine g2_ck (fun q181 => ?_)
    refine g2_kn q181 (g2_getI qk102_2.1.1.1.2.1.1 m178 ⟨by decide, by decide, by decide, rfl⟩ (fun r182 x183 => ?_))
    refine g2_ck (fun q184 => ?_)
    refine g2_kn q184 (g2_callV (t' := 2) qk102_2.1.1.1.2.1.2 (by decide) (ql_ip161 hQ) (by decide) rfl rfl rfl (by omega) m178 (tq161_append hQ (by omega) m178 q184 x169 x183) (fun y185 S186 x187 m188 e189 => ?_))
    refine g2_int qk102_2.1.1.1.2.2 (32 : Int) rfl ?_
    refine g2_ck (fun q190 => ?_)
    refine g2_kn q190 (g2_callV (t' := 2) qk102_2.1.1.2.1.1.1 (by decide) (ql_ip164 hQ) (by decide) rfl rfl rfl (by omega) m188 (tq164_append hQ (by omega) m188 q190 x187 (inR_of (by decide))) (fun y191 S192 x193 m194 e195 => ?_))
    refine g2_aload qk102_2.1.1.2.1.1.2 rfl ?_
    refine g2_kn (ek e195 (ek e189 (ek e179 (ek e171 (ek e165 (ek e152 (ek e144 (ek e136 hK0 (by decide)) (by decide)) (by decide)) (by decide)) (by decide)) (by decide)) (by decide)) (by decide)) (g2_getR qk102_2.1.1.2.1.2 m194 ⟨by decide, by decide, by decide, rfl⟩ (fun r196 x197 => ?_))
    refine g2_iload qk102_2.1.1.2.2.1.1 rfl ?_
    refine g2_ck (fun q198 => ?_)
    refine g2_kn q198 (g2_callF (t' := 2) qk102_2.1.1.2.2.1.2 (by decide) (ql_ip133 hQ) rfl rfl rfl (by omega) m194 (tq133_get hQ (by omega) m194 q198 x197 h3) (fun y199 S200 x201 m202 e203 => ?_))
    refine g2_ck (fun q204 => ?_)
    refine g2_kn q204 (g2_cast7 qk102_2.1.1.2.2.2 m202 x201 ?_)
    refine g2_ck (fun q205 => ?_)
    refine g2_kn q205 (g2_getI qk102_2.1.2.1.1.1.1 m202 ⟨by decide, by decide, by decide, rfl⟩ (fun r206 x207 => ?_))
    refine g2_ck (fun q208 => ?_)
    refine g2_kn q208 (g2_callV (t' := 2) qk102_2.1.2.1.1.1.2 (by decide) (ql_ip161 hQ) (by decide) rfl rfl rfl (by omega) m202 (tq161_append hQ (by omega) m202 q208 x193 x207) (fun y209 S210 x211 m212 e213 => ?_))
    refine g2_int qk102_2.1.2.1.1.2 (32 : Int) rfl ?_
    refine g2_ck (fun q214 => ?_)
    refine g2_kn q214 (g2_callV (t' := 2) qk102_2.1.2.1.2.1.1 (by decide) (ql_ip164 hQ) (by decide) rfl rfl rfl (by omega) m212 (tq164_append hQ (by omega) m212 q214 x211 (inR_of (by decide))) (fun y215 S216 x217 m218 e219 => ?_))
    refine g2_aload qk102_2.1.2.1.2.1.2 rfl ?_
    refine g2_kn (ek e219 (ek e213 (ek e203 (ek e195 (ek e189 (ek e179 (ek e171 (ek e165 (ek e152 (ek e144 (ek e136 hK0 (by decide)) (by decide)) (by decide)) (by decide)) (by decide)) (by decide)) (by decide)) (by decide)) (by decide)) (by decide)) (by decide)) (g2_getR qk102_2.1.2.1.2.2 m218 ⟨by decide, by decide, by decide, rfl⟩ (fun r220 x221 => ?_))
    refine g2_iload qk102_2.1.2.2.1.1.1 rfl ?_
    refine g2_ck (fun q222 => ?_)
    refine g2_kn q222 (g2_callF (t' := 2) qk102_2.1.2.2.1.1.2 (by decide) (ql_ip133 hQ) rfl rfl rfl (by omega) m218 (tq133_get hQ (by omega) m218 q222 x221 h3) (fun y223 S224 x225 m226 e227 => ?_))
    refine g2_ck (fun q228 => ?_)
    refine g2_kn q228 (g2_cast7 qk102_2.1.2.2.1.2 m226 x225 ?_)
    refine g2_ck (fun q229 => ?_)
    refine g2_kn q229 (g2_getI qk102_2.1.2.2.2.1.1 m226 ⟨by decide, by decide, by decide, rfl⟩ (fun r230 x231 => ?_))
    refine g2_ck (fun q232 => ?_)
    refine g2_kn q232 (g2_callV (t' := 2) qk102_2.1.2.2.2.1.2 (by decide) (ql_ip161 hQ) (by decide) rfl rfl rfl (by omega) m226 (tq161_append hQ (by omega) m226 q232 x217 x231) (fun y233 S234 x235 m236 e237 => ?_))
    refine g2_int qk102_2.1.2.2.2.2 (59 : Int) rfl ?_
    refine g2_ck (fun q238 => ?_)
    refine g2_kn q238 (g2_callV (t' := 2) qk102_2.2.1.1.1.1.1 (by decide) (ql_ip164 hQ) (by decide) rfl rfl rfl (by omega) m236 (tq164_append hQ (by omega) m236 q238 x235 (inR_of (by decide))) (fun y239 S240 x241 m242 e243 => ?_))
    refine g2_popR qk102_2.2.1.1.1.1.2 ?_
    refine g2_iinc qk102_2.2.1.1.1.2.1 rfl rfl (1 : Int) rfl (loc2 := [some (sR v0), u1, some (sR v2), some (sI (w32 (v3 + (1 : Int)))), u4, u5, u6]) rfl ?_
    refine g2_goto qk102_2.2.1.1.1.2.2 ?_
    exact HX149 (w32 (v3 + (1 : Int))) (inR_w32 _) S240 m242 (ek e243 (ek e237 (ek e227 (ek e219 (ek e213 (ek e203 (ek e195 (ek e189 (ek e179 (ek e171 (ek e165 (ek e152 (ek e144 (ek e136 hK0 (by decide)) (by decide)) (by decide)) (by decide)) (by decide)) (by decide)) (by decide)) (by decide)) (by decide)) (by decide)) (by decide)) (by decide)) (by decide)) (by decide)) u1 w1 u4 w4 u5 w5 u6 w6
  · refine g2_int qk102_2.2.1.1.2.1.1 (0 : Int) rfl ?_
    refine g2_istore qk102_2.2.1.1.2.1.2 rfl (loc2 := [some (sR v0), u1, some (sR v2), some (sI (0 : Int)), u4, u5, u6]) rfl ?_
    exact tl102_276 hQ hd h0 h2 fu (0 : Int) (inR_b (Or.inl rfl)) S133 m135 (ek e136 hK0 (by decide)) u1 w1 u4 w4 u5 w5 u6 w6
theorem tl102_149 {κ : CX} (hQ : κ.2.2.2.2.2.2.2.2.2 = (ql_I, ql_P)) {n0 s0 : Int} {d : Nat} (hd : 10 ≤ d) {v0 v2 : Int} (h0 : RfO v0) (h2 : RfO v2) : ∀ n : Nat, ∀ (v3 : Int) (h3 : InR v3) (S : sS) (hW : WF2 κ S) (hK0 : sK S v0 = 8) (u1 : Option ev_V) (w1 : nwo u1) (u4 : Option ev_V) (w4 : nwo u4) (u5 : Option ev_V) (w5 : nwo u5) (u6 : Option ev_V) (w6 : nwo u6), G2 κ ql_i102 ql_m102 2 d n0 s0 (l102_149 v0 v2 n v3 S) 149 [some (sR v0), u1, some (sR v2), some (sI v3), u4, u5, u6] [] S := by
  intro n
  induction n with
  | zero =>
    intro v3 h3 S hW hK0 u1 w1 u4 w4 u5 w5 u6 w6
    exact g2_none
  | succ n ih =>
    exact tb102_149 hQ hd h0 h2 ih
noncomputable def j102_80 (v0 : Int) (v2 : Int) (S : sS) : Option (Int × sS) :=
  if sK S v2 = 11 then bdS (q154_append S v2 2000106) (fun y62 S63 => bnd (sg S63 v0 4) (fun r67 => if sK S63 y62 = 11 then bdS (q161_append S63 y62 r67) (fun y70 S71 => if sK S71 y70 = 11 then bdS (q154_append S71 y70 2000107) (fun y76 S77 => bnd (sg S77 v0 0) (fun r81 => if sK S77 r81 = 9 then bdS (q133_get S77 r81 (0 : Int)) (fun y84 S85 => if y84 = -1 ∨ sK S85 y84 = 7 then if sK S85 y84 = 7 then bnd (sg S85 y84 5) (fun r91 => if sK S85 y76 = 11 then bdS (q161_append S85 y76 r91) (fun y94 S95 => if sK S95 y94 = 11 then bdS (q164_append S95 y94 (32 : Int)) (fun y100 S101 => bnd (sg S101 v0 0) (fun r105 => if sK S101 r105 = 9 then bdS (q133_get S101 r105 (0 : Int)) (fun y108 S109 => if y108 = -1 ∨ sK S109 y108 = 7 then if sK S109 y108 = 7 then bnd (sg S109 y108 6) (fun r115 => if sK S109 y100 = 11 then bdS (q161_append S109 y100 r115) (fun y118 S119 => if sK S119 y118 = 11 then bdS (q164_append S119 y118 (59 : Int)) (fun y124 S125 => l102_149 v0 v2 fu (1 : Int) S125) else none) else none) else none else none) else none)) else none) else none) else none else none) else none)) else none) else none)) else none
theorem tj102_80 {κ : CX} (hQ : κ.2.2.2.2.2.2.2.2.2 = (ql_I, ql_P)) {n0 s0 : Int} {d : Nat} (hd : 10 ≤ d) {v0 v2 : Int} (h0 : RfO v0) (h2 : RfO v2) (S : sS) (hW : WF2 κ S) (hK0 : sK S v0 = 8) (u1 : Option ev_V) (w1 : nwo u1) (u3 : Option ev_V) (w3 : nwo u3) (u4 : Option ev_V) (w4 : nwo u4) (u5 : Option ev_V) (w5 : nwo u5) (u6 : Option ev_V) (w6 : nwo u6) : G2 κ ql_i102 ql_m102 2 d n0 s0 (j102_80 v0 v2 S) 80 [some (sR v0), u1, some (sR v2), u3, u4, u5, u6] [] S := by
  unfold j102_80
  refine g2_aload qk102_1.1.1.1.1.2.1 rfl ?_
  refine g2_ldcs qk102_1.1.1.1.1.2.2 (v := 2000106) rfl ?_
  refine g2_ck (fun q61 => ?_)
  refine g2_kn q61 (g2_callV (t' := 2) qk102_1.1.1.1.2.1.1 (by decide) (ql_ip154 hQ) (by decide) rfl rfl rfl (by omega) hW (tq154_append hQ (by omega) hW q61 h2 (rfA_of2 (by decide))) (fun y62 S63 x64 m65 e66 => ?_))
  refine g2_aload qk102_1.1.1.1.2.1.2 rfl ?_
  refine g2_kn (ek e66 hK0 (by decide)) (g2_getI qk102_1.1.1.1.2.2 m65 ⟨by decide, by decide, by decide, rfl⟩ (fun r67 x68 => ?_))
  refine g2_ck (fun q69 => ?_)
  refine g2_kn q69 (g2_callV (t' := 2) qk102_1.1.1.2.1.1.1 (by decide) (ql_ip161 hQ) (by decide) rfl rfl rfl (by omega) m65 (tq161_append hQ (by omega) m65 q69 x64 x68) (fun y70 S71 x72 m73 e74 => ?_))
  refine g2_ldcs qk102_1.1.1.2.1.1.2 (v := 2000107) rfl ?_
  refine g2_ck (fun q75 => ?_)
  refine g2_kn q75 (g2_callV (t' := 2) qk102_1.1.1.2.1.2 (by decide) (ql_ip154 hQ) (by decide) rfl rfl rfl (by omega) m73 (tq154_append hQ (by omega) m73 q75 x72 (rfA_of2 (by decide))) (fun y76 S77 x78 m79 e80 => ?_))
  refine g2_aload qk102_1.1.1.2.2.1.1 rfl ?_
  refine g2_kn (ek e80 (ek e74 (ek e66 hK0 (by decide)) (by decide)) (by decide)) (g2_getR qk102_1.1.1.2.2.1.2 m79 ⟨by decide, by decide, by decide, rfl⟩ (fun r81 x82 => ?_))
  refine g2_int qk102_1.1.1.2.2.2 (0 : Int) rfl ?_
  refine g2_ck (fun q83 => ?_)
  refine g2_kn q83 (g2_callF (t' := 2) qk102_1.1.2.1.1.1.1 (by decide) (ql_ip133 hQ) rfl rfl rfl (by omega) m79 (tq133_get hQ (by omega) m79 q83 x82 (inR_b (Or.inl rfl))) (fun y84 S85 x86 m87 e88 => ?_))
  refine g2_ck (fun q89 => ?_)
  refine g2_kn q89 (g2_cast7 qk102_1.1.2.1.1.1.2 m87 x86 ?_)
  refine g2_ck (fun q90 => ?_)
  refine g2_kn q90 (g2_getI qk102_1.1.2.1.1.2 m87 ⟨by decide, by decide, by decide, rfl⟩ (fun r91 x92 => ?_))
  refine g2_ck (fun q93 => ?_)
  refine g2_kn q93 (g2_callV (t' := 2) qk102_1.1.2.1.2.1.1 (by decide) (ql_ip161 hQ) (by decide) rfl rfl rfl (by omega) m87 (tq161_append hQ (by omega) m87 q93 x78 x92) (fun y94 S95 x96 m97 e98 => ?_))
  refine g2_int qk102_1.1.2.1.2.1.2 (32 : Int) rfl ?_
  refine g2_ck (fun q99 => ?_)
  refine g2_kn q99 (g2_callV (t' := 2) qk102_1.1.2.1.2.2 (by decide) (ql_ip164 hQ) (by decide) rfl rfl rfl (by omega) m97 (tq164_append hQ (by omega) m97 q99 x96 (inR_of (by decide))) (fun y100 S101 x102 m103 e104 => ?_))
  refine g2_aload qk102_1.1.2.2.1.1.1 rfl ?_
  refine g2_kn (ek e104 (ek e98 (ek e88 (ek e80 (ek e74 (ek e66 hK0 (by decide)) (by decide)) (by decide)) (by decide)) (by decide)) (by decide)) (g2_getR qk102_1.1.2.2.1.1.2 m103 ⟨by decide, by decide, by decide, rfl⟩ (fun r105 x106 => ?_))
  refine g2_int qk102_1.1.2.2.1.2 (0 : Int) rfl ?_
  refine g2_ck (fun q107 => ?_)
  refine g2_kn q107 (g2_callF (t' := 2) qk102_1.1.2.2.2.1.1 (by decide) (ql_ip133 hQ) rfl rfl rfl (by omega) m103 (tq133_get hQ (by omega) m103 q107 x106 (inR_b (Or.inl rfl))) (fun y108 S109 x110 m111 e112 => ?_))
  refine g2_ck (fun q113 => ?_)
  refine g2_kn q113 (g2_cast7 qk102_1.1.2.2.2.1.2 m111 x110 ?_)
  refine g2_ck (fun q114 => ?_)
  refine g2_kn q114 (g2_getI qk102_1.1.2.2.2.2 m111 ⟨by decide, by decide, by decide, rfl⟩ (fun r115 x116 => ?_))
  refine g2_ck (fun q117 => ?_)
  refine g2_kn q117 (g2_callV (t' := 2) qk102_1.2.1.1.1.1.1 (by decide) (ql_ip161 hQ) (by decide) rfl rfl rfl (by omega) m111 (tq161_append hQ (by omega) m111 q117 x102 x116) (fun y118 S119 x120 m121 e122 => ?_))
  refine g2_int qk102_1.2.1.1.1.1.2 (59 : Int) rfl ?_
  refine g2_ck (fun q123 => ?_)
  refine g2_kn q123 (g2_callV (t' := 2) qk102_1.2.1.1.1.2.1 (by decide) (ql_ip164 hQ) (by decide) rfl rfl rfl (by omega) m121 (tq164_append hQ (by omega) m121 q123 x120 (inR_of (by decide))) (fun y124 S125 x126 m127 e128 => ?_))
  refine g2_popR qk102_1.2.1.1.1.2.2 ?_
  refine g2_int qk102_1.2.1.1.2.1.1 (1 : Int) rfl ?_
  refine g2_istore qk102_1.2.1.1.2.1.2 rfl (loc2 := [some (sR v0), u1, some (sR v2), some (sI (1 : Int)), u4, u5, u6]) rfl ?_
  exact tl102_149 hQ hd h0 h2 fu (1 : Int) (inR_b (Or.inr rfl)) S125 m127 (ek e128 (ek e122 (ek e112 (ek e104 (ek e98 (ek e88 (ek e80 (ek e74 (ek e66 hK0 (by decide)) (by decide)) (by decide)) (by decide)) (by decide)) (by decide)) (by decide)) (by decide)) (by decide)) u1 w1 u4 w4 u5 w5 u6 w6
noncomputable def b102_52 (v0 : Int) (v1 : Int) (v2 : Int) (v3 : Int) (v4 : Int) (X52 : Int → sS → Option (Int × sS)) (v5 : Int) (S : sS) : Option (Int × sS) :=
  if v5 < v4 then (if sK S v3 = 20 then if 0 ≤ v5 ∧ v5 < sZ S v3 then bnd (sg S v3 v5) (fun r49 => if sK S v1 = 28 then if 0 ≤ r49 ∧ r49 < sZ S v1 then bnd (sg S v1 r49) (fun r53 => if sK S v2 = 11 then bdS (q154_append S v2 r53) (fun y56 S57 => X52 (w32 (v5 + (1 : Int))) S57) else none) else none else none) else none else none) else (j102_80 v0 v2 S)
noncomputable def l102_52 (v0 : Int) (v1 : Int) (v2 : Int) (v3 : Int) (v4 : Int) (n : Nat) : Int → sS → Option (Int × sS) := Nat.rec (motive := fun _ => Int → sS → Option (Int × sS)) (fun _ _ => none) (fun _ ih => b102_52 v0 v1 v2 v3 v4 ih) n
theorem tb102_52 {κ : CX} (hQ : κ.2.2.2.2.2.2.2.2.2 = (ql_I, ql_P)) {n0 s0 : Int} {d : Nat} (hd : 10 ≤ d) {v0 v1 v2 v3 v4 : Int} (h0 : RfO v0) (h1 : RfO v1) (h2 : RfO v2) (h3 : RfO v3) (h4 : InR v4) {X52 : Int → sS → Option (Int × sS)} (HX52 : ∀ (v5 : Int) (h5 : InR v5) (S : sS) (hW : WF2 κ S) (hK0 : sK S v0 = 8) (u6 : Option ev_V) (w6 : nwo u6), G2 κ ql_i102 ql_m102 2 d n0 s0 (X52 v5 S) 52 [some (sR v0), some (sR v1), some (sR v2), some (sR v3), some (sI v4), some (sI v5), u6] [] S) : ∀ (v5 : Int) (h5 : InR v5) (S : sS) (hW : WF2 κ S) (hK0 : sK S v0 = 8) (u6 : Option ev_V) (w6 : nwo u6), G2 κ ql_i102 ql_m102 2 d n0 s0 (b102_52 v0 v1 v2 v3 v4 X52 v5 S) 52 [some (sR v0), some (sR v1), some (sR v2), some (sR v3), some (sI v4), some (sI v5), u6] [] S := by
  intro v5 h5 S hW hK0 u6 w6
  unfold b102_52
  refine g2_iload qk102_0.2.1.2.2.2 rfl ?_
  refine g2_iload qk102_0.2.2.1.1.1.1 rfl ?_
  refine g2_cmlt qk102_0.2.2.1.1.1.2 h5 h4 (fun c45 => ?_) (fun c46 => ?_)
  · refine g2_aload qk102_0.2.2.1.1.2 rfl ?_
    refine g2_iload qk102_0.2.2.1.2.1.1 rfl ?_
    refine g2_ck (fun q47 => ?_)
    refine g2_ck (fun q48 => ?_)
    refine g2_kn ⟨q47, q48⟩ (g2_iald qk102_0.2.2.1.2.1.2 hW (fun r49 x50 => ?_))
    refine g2_istore qk102_0.2.2.1.2.2 rfl (loc2 := [some (sR v0), some (sR v1), some (sR v2), some (sR v3), some (sI v4), some (sI v5), some (sI r49)]) rfl ?_
    refine g2_aload qk102_0.2.2.2.1.1.1 rfl ?_
    refine g2_aload qk102_0.2.2.2.1.1.2 rfl ?_
    refine g2_iload qk102_0.2.2.2.1.2 rfl ?_
    refine g2_ck (fun q51 => ?_)
    refine g2_ck (fun q52 => ?_)
    refine g2_kn ⟨q51, q52⟩ (g2_aalS qk102_0.2.2.2.2.1.1 hW (fun r53 x54 => ?_))
    refine g2_ck (fun q55 => ?_)
    refine g2_kn q55 (g2_callV (t' := 2) qk102_0.2.2.2.2.1.2 (by decide) (ql_ip154 hQ) (by decide) rfl rfl rfl (by omega) hW (tq154_append hQ (by omega) hW q55 h2 x54) (fun y56 S57 x58 m59 e60 => ?_))
    refine g2_popR qk102_0.2.2.2.2.2 ?_
    refine g2_iinc qk102_1.1.1.1.1.1.1 rfl rfl (1 : Int) rfl (loc2 := [some (sR v0), some (sR v1), some (sR v2), some (sR v3), some (sI v4), some (sI (w32 (v5 + (1 : Int)))), some (sI r49)]) rfl ?_
    refine g2_goto qk102_1.1.1.1.1.1.2 ?_
    exact HX52 (w32 (v5 + (1 : Int))) (inR_w32 _) S57 m59 (ek e60 hK0 (by decide)) (some (sI r49)) rfl
  · exact tj102_80 hQ hd h0 h2 S hW hK0 (some (sR v1)) rfl (some (sR v3)) rfl (some (sI v4)) rfl (some (sI v5)) rfl u6 w6
theorem tl102_52 {κ : CX} (hQ : κ.2.2.2.2.2.2.2.2.2 = (ql_I, ql_P)) {n0 s0 : Int} {d : Nat} (hd : 10 ≤ d) {v0 v1 v2 v3 v4 : Int} (h0 : RfO v0) (h1 : RfO v1) (h2 : RfO v2) (h3 : RfO v3) (h4 : InR v4) : ∀ n : Nat, ∀ (v5 : Int) (h5 : InR v5) (S : sS) (hW : WF2 κ S) (hK0 : sK S v0 = 8) (u6 : Option ev_V) (w6 : nwo u6), G2 κ ql_i102 ql_m102 2 d n0 s0 (l102_52 v0 v1 v2 v3 v4 n v5 S) 52 [some (sR v0), some (sR v1), some (sR v2), some (sR v3), some (sI v4), some (sI v5), u6] [] S := by
  intro n
  induction n with
  | zero =>
    intro v5 h5 S hW hK0 u6 w6
    exact g2_none
  | succ n ih =>
    exact tb102_52 hQ hd h0 h1 h2 h3 h4 ih
noncomputable def q102_text (S : sS) (v0 : Int) : Option (Int × sS) :=
  if sn S < 1000000 ∧ 0 ≤ (5 : Int) ∧ (5 : Int) ≤ 65536 then bnd (sn S) (fun p1 => bnd (nS S 28 (5 : Int)) (fun S2 => if 0 ≤ (0 : Int) ∧ (0 : Int) < sZ S2 p1 then bnd (uS S2 p1 (0 : Int) 2000100) (fun S9 => if 0 ≤ (1 : Int) ∧ (1 : Int) < sZ S9 p1 then bnd (uS S9 p1 (1 : Int) 2000101) (fun S13 => if 0 ≤ (2 : Int) ∧ (2 : Int) < sZ S13 p1 then bnd (uS S13 p1 (2 : Int) 2000102) (fun S17 => if 0 ≤ (3 : Int) ∧ (3 : Int) < sZ S17 p1 then bnd (uS S17 p1 (3 : Int) 2000103) (fun S21 => if 0 ≤ (4 : Int) ∧ (4 : Int) < sZ S21 p1 then bnd (uS S21 p1 (4 : Int) 2000104) (fun S25 => if sn S25 < 1000000 then bnd (sn S25) (fun p28 => bnd (nS S25 11 4) (fun S29 => bdS (q157_init S29 p28 2000105) (fun y35 S36 => bnd (sg S36 v0 3) (fun r40 => if sK S36 r40 = 20 then bnd (sZ S36 r40) (fun r43 => l102_52 v0 p1 p28 r40 r43 fu (0 : Int) S36) else none)))) else none) else none) else none) else none) else none) else none)) else none
theorem tq102_text {κ : CX} (hQ : κ.2.2.2.2.2.2.2.2.2 = (ql_I, ql_P)) {n0 s0 : Int} {d : Nat} (hd : 10 ≤ d) {S : sS} (hW : WF2 κ S) {v0 : Int} (hK0 : sK S v0 = 8) (h0 : RfO v0) : G2 κ ql_i102 ql_m102 2 d n0 s0 (q102_text S v0) 0 (ev_loc ql_m102.1 [(sR v0)]) [] S := by
  unfold q102_text
  refine g2_int qk102_0.1.1.1.1.1.1 (5 : Int) rfl ?_
  refine g2_ck (fun q7 => ?_)
  refine g2_kn q7 (g2_newa qk102_0.1.1.1.1.1.2 hW ⟨by decide, rfl⟩ (fun p1 S2 x3 k4 m5 e6 => ?_))
  refine g2_dupR qk102_0.1.1.1.1.2.1 ?_
  refine g2_int qk102_0.1.1.1.1.2.2 (0 : Int) rfl ?_
  refine g2_ldcs qk102_0.1.1.1.2.1.1 (v := 2000100) rfl ?_
  refine g2_ck (fun q8 => ?_)
  refine g2_kn ⟨k4.1, (rfO_of x3).2, q8⟩ (g2_aasS qk102_0.1.1.1.2.1.2 m5 ⟨by decide, by decide⟩ (fun S9 m10 e11 => ?_))
  refine g2_dupR qk102_0.1.1.1.2.2 ?_
  refine g2_int qk102_0.1.1.2.1.1.1 (1 : Int) rfl ?_
  refine g2_ldcs qk102_0.1.1.2.1.1.2 (v := 2000101) rfl ?_
  refine g2_ck (fun q12 => ?_)
  refine g2_kn ⟨(ek e11 k4.1 (by decide)), (rfO_of x3).2, q12⟩ (g2_aasS qk102_0.1.1.2.1.2 m10 ⟨by decide, by decide⟩ (fun S13 m14 e15 => ?_))
  refine g2_dupR qk102_0.1.1.2.2.1.1 ?_
  refine g2_int qk102_0.1.1.2.2.1.2 (2 : Int) rfl ?_
  refine g2_ldcs qk102_0.1.1.2.2.2 (v := 2000102) rfl ?_
  refine g2_ck (fun q16 => ?_)
  refine g2_kn ⟨(ek e15 (ek e11 k4.1 (by decide)) (by decide)), (rfO_of x3).2, q16⟩ (g2_aasS qk102_0.1.2.1.1.1.1 m14 ⟨by decide, by decide⟩ (fun S17 m18 e19 => ?_))
  refine g2_dupR qk102_0.1.2.1.1.1.2 ?_
  refine g2_int qk102_0.1.2.1.1.2 (3 : Int) rfl ?_
  refine g2_ldcs qk102_0.1.2.1.2.1.1 (v := 2000103) rfl ?_
  refine g2_ck (fun q20 => ?_)
  refine g2_kn ⟨(ek e19 (ek e15 (ek e11 k4.1 (by decide)) (by decide)) (by decide)), (rfO_of x3).2, q20⟩ (g2_aasS qk102_0.1.2.1.2.1.2 m18 ⟨by decide, by decide⟩ (fun S21 m22 e23 => ?_))
  refine g2_dupR qk102_0.1.2.1.2.2 ?_
  refine g2_int qk102_0.1.2.2.1.1.1 (4 : Int) rfl ?_
  refine g2_ldcs qk102_0.1.2.2.1.1.2 (v := 2000104) rfl ?_
  refine g2_ck (fun q24 => ?_)
  refine g2_kn ⟨(ek e23 (ek e19 (ek e15 (ek e11 k4.1 (by decide)) (by decide)) (by decide)) (by decide)), (rfO_of x3).2, q24⟩ (g2_aasS qk102_0.1.2.2.1.2 m22 ⟨by decide, by decide⟩ (fun S25 m26 e27 => ?_))
  refine g2_astore qk102_0.1.2.2.2.1.1 rfl (loc2 := [some (sR v0), some (sR p1), none, none, none, none, none]) rfl ?_
  refine g2_ck (fun q34 => ?_)
  refine g2_kn q34 (g2_new qk102_0.1.2.2.2.1.2 m26 ⟨⟨by decide, by decide⟩, rfl, by decide⟩ rfl (fun p28 S29 x30 k31 m32 e33 => ?_))
  refine g2_dupR qk102_0.1.2.2.2.2 ?_
  refine g2_ldcs qk102_0.2.1.1.1.1.1 (v := 2000105) rfl ?_
  refine g2_kn (kn_pos m32.2.1 k31.1 (by decide)) (g2_callI qk102_0.2.1.1.1.1.2 (by decide) (ql_ip157 hQ) rfl rfl rfl (by omega) ⟨_, qd_102_36⟩ (tq157_init hQ (by omega) m32 k31.1 (rfO_of x30) (rfA_of2 (by decide))) (fun y35 S36 m38 e39 => ?_))
  refine g2_astore qk102_0.2.1.1.1.2 rfl (loc2 := [some (sR v0), some (sR p1), some (sR p28), none, none, none, none]) rfl ?_
  refine g2_aload qk102_0.2.1.1.2.1.1 rfl ?_
  refine g2_kn (ek e39 (ek e33 (ek e27 (ek e23 (ek e19 (ek e15 (ek e11 (ek e6 hK0 (by decide)) (by decide)) (by decide)) (by decide)) (by decide)) (by decide)) (by decide)) (by decide)) (g2_getR qk102_0.2.1.1.2.1.2 m38 ⟨by decide, by decide, by decide, rfl⟩ (fun r40 x41 => ?_))
  refine g2_astore qk102_0.2.1.1.2.2 rfl (loc2 := [some (sR v0), some (sR p1), some (sR p28), some (sR r40), none, none, none]) rfl ?_
  refine g2_aload qk102_0.2.1.2.1.1.1 rfl ?_
  refine g2_ck (fun q42 => ?_)
  refine g2_kn (ka2 q42 (by decide)) (g2_alen qk102_0.2.1.2.1.1.2 m38 (fun r43 x44 => ?_))
  refine g2_istore qk102_0.2.1.2.1.2 rfl (loc2 := [some (sR v0), some (sR p1), some (sR p28), some (sR r40), some (sI r43), none, none]) rfl ?_
  refine g2_int qk102_0.2.1.2.2.1.1 (0 : Int) rfl ?_
  refine g2_istore qk102_0.2.1.2.2.1.2 rfl (loc2 := [some (sR v0), some (sR p1), some (sR p28), some (sR r40), some (sI r43), some (sI (0 : Int)), none]) rfl ?_
  exact tl102_52 hQ hd h0 (rfO_of x3) (rfO_of x30) x41 x44 fu (0 : Int) (inR_b (Or.inl rfl)) S36 m38 (ek e39 (ek e33 (ek e27 (ek e23 (ek e19 (ek e15 (ek e11 (ek e6 hK0 (by decide)) (by decide)) (by decide)) (by decide)) (by decide)) (by decide)) (by decide)) (by decide)) none rfl
