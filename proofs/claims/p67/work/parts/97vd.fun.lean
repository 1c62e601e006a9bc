/-! ===== the law's and the JDK's methods as functions, and that the machine comes to what they tell (own work, by program: wip/p67/gen/lawdec.py) ===== -/
noncomputable def q146_copyOf (S : sS) (v0 : Int) (v1 : Int) : Option (Int × sS) :=
  if sK S v0 = 21 then bnd (sZ S v0) (fun r2 => if v1 = r2 then (if sn S < 1000000 then if v0 < 1000000 then bnd (sn S) (fun p6 => bnd (cpS (nS S 21 (sZ S v0)) v0 0 (sn S) 0 (sZ S v0)) (fun S7 => some (p6, S7))) else none else none) else (if sn S < 1000000 ∧ 0 ≤ v1 ∧ v1 ≤ 65536 then bnd (sn S) (fun p14 => bnd (nS S 21 v1) (fun S15 => bnd (sZ S15 v0) (fun r21 => bdS (q122_min S15 r21 v1) (fun y23 S24 => if (0 ≤ (0 : Int) ∧ 0 ≤ (0 : Int) ∧ 0 ≤ y23) ∧ (0 : Int) + y23 ≤ sZ S24 v0 ∧ (0 : Int) + y23 ≤ sZ S24 p14 then bnd (cpS S24 v0 (0 : Int) p14 (0 : Int) y23) (fun S29 => some (p14, S29)) else none)))) else none)) else none
theorem tq146_copyOf {κ : CX} (hQ : κ.2.2.2.2.2.2.2.2.2 = (ql_I, ql_P)) {n0 s0 : Int} {d : Nat} (hd : 2 ≤ d) {S : sS} (hW : WF2 κ S) {v0 v1 : Int}  (h0 : RfA v0) (h1 : InR v1) : G2 κ ql_i146 ql_m146 2 d n0 s0 (q146_copyOf S v0 v1) 0 (ev_loc ql_m146.1 [(sR v0), (sI v1)]) [] S := by
  unfold q146_copyOf
  refine g2_iload qk146_0.1.1.1.1.1 rfl ?_
  refine g2_aload qk146_0.1.1.1.1.2 rfl ?_
  refine g2_ck (fun q1 => ?_)
  refine g2_kn (ka2 q1 (by decide)) (g2_alen qk146_0.1.1.1.2 hW (fun r2 x3 => ?_))
  refine g2_cmeq qk146_0.1.1.2.1.1 h1 x3 (fun c4 => ?_) (fun c5 => ?_)
  · refine g2_aload qk146_0.1.1.2.1.2 rfl ?_
    refine g2_ck (fun q12 => ?_)
    refine g2_ck (fun q13 => ?_)
    refine g2_kn ⟨⟨q1, q13⟩, q12⟩ (g2_clone qk146_0.1.1.2.2 hW rfl (fun p6 S7 x8 k9 m10 e11 => ?_))
    refine g2_kn ⟨k9.1, (rfO_of x8).2⟩ (g2_castB qk146_0.1.2.1.1.1 m10 ?_)
    exact g2_aret qk146_0.1.2.1.1.2 m10 (rfO_of x8)
  · refine g2_iload qk146_0.1.2.1.2 rfl ?_
    refine g2_ck (fun q20 => ?_)
    refine g2_kn q20 (g2_newa qk146_0.1.2.2.1 hW ⟨by decide, rfl⟩ (fun p14 S15 x16 k17 m18 e19 => ?_))
    refine g2_astore qk146_0.1.2.2.2 rfl (loc2 := [some (sR v0), some (sI v1), some (sR p14)]) rfl ?_
    refine g2_aload qk146_0.2.1.1.1.1 rfl ?_
    refine g2_int qk146_0.2.1.1.1.2 (0 : Int) rfl ?_
    refine g2_aload qk146_0.2.1.1.2 rfl ?_
    refine g2_int qk146_0.2.1.2.1.1 (0 : Int) rfl ?_
    refine g2_aload qk146_0.2.1.2.1.2 rfl ?_
    refine g2_kn (ka2 (ek e19 q1 (by decide)) (by decide)) (g2_alen qk146_0.2.1.2.2 m18 (fun r21 x22 => ?_))
    refine g2_iload qk146_0.2.2.1.1.1 rfl ?_
    refine g2_callS (t' := 1) qk146_0.2.2.1.1.2 (by decide) (ql_ip122 hQ) rfl rfl rfl rfl (by omega) (tq122_min hQ (by omega) m18 x22 h1) (fun y23 S24 x25 m26 e27 => ?_)
    refine g2_ck (fun q28 => ?_)
    refine g2_kn ⟨(ek e27 (ek e19 q1 (by decide)) (by decide)), ⟨(ek e27 k17.1 (by decide)), (rfO_of x16).2⟩, q28⟩ (g2_copyB qk146_0.2.2.1.2 m26 rfl (fun S29 m30 e31 => ?_))
    refine g2_aload qk146_0.2.2.2.1 rfl ?_
    exact g2_aret qk146_0.2.2.2.2 m30 (rfO_of x16)
noncomputable def q147_newCapacity (S : sS) (v0 : Int) (v1 : Int) : Option (Int × sS) :=
  bnd (sg S v0 0) (fun r1 => if sK S r1 = 21 then bnd (sZ S r1) (fun r4 => bnd (sg S v0 1) (fun r6 => bnd (sg S v0 1) (fun r8 => bdS (q123_newLength S r4 (w32 ((opI 4 v1 r6) - r4)) (w32 (r4 + (opI 4 (2 : Int) r8)))) (fun y10 S11 => if y10 = (2147483647 : Int) then (none) else (bnd (sg S11 v0 1) (fun r17 => some ((opI 5 y10 r17), S11))))))) else none)
theorem tq147_newCapacity {κ : CX} (hQ : κ.2.2.2.2.2.2.2.2.2 = (ql_I, ql_P)) {n0 s0 : Int} {d : Nat} (hd : 3 ≤ d) {S : sS} (hW : WF2 κ S) {v0 v1 : Int} (hK0 : sK S v0 = 11) (h0 : RfO v0) (h1 : InR v1) : G2 κ ql_i147 ql_m147 1 d n0 s0 (q147_newCapacity S v0 v1) 0 (ev_loc ql_m147.1 [(sR v0), (sI v1)]) [] S := by
  unfold q147_newCapacity
  refine g2_aload qk147_0.1.1.1.1.1 rfl ?_
  refine g2_kn hK0 (g2_getR qk147_0.1.1.1.1.2 hW ⟨by decide, by decide, by decide, rfl⟩ (fun r1 x2 => ?_))
  refine g2_ck (fun q3 => ?_)
  refine g2_kn (ka2 q3 (by decide)) (g2_alen qk147_0.1.1.1.2.1 hW (fun r4 x5 => ?_))
  refine g2_istore qk147_0.1.1.1.2.2 rfl (loc2 := [some (sR v0), some (sI v1), some (sI r4), none, none, none]) rfl ?_
  refine g2_iload qk147_0.1.1.2.1.1 rfl ?_
  refine g2_aload qk147_0.1.1.2.1.2 rfl ?_
  refine g2_kn hK0 (g2_getI qk147_0.1.1.2.2.1 hW ⟨by decide, by decide, by decide, rfl⟩ (fun r6 x7 => ?_))
  refine g2_ibin qk147_0.1.1.2.2.2 ?_
  refine g2_istore qk147_0.1.2.1.1.1 rfl (loc2 := [some (sR v0), some (sI v1), some (sI r4), some (sI (opI 4 v1 r6)), none, none]) rfl ?_
  refine g2_iload qk147_0.1.2.1.1.2 rfl ?_
  refine g2_iload qk147_0.1.2.1.2.1 rfl ?_
  refine g2_isub qk147_0.1.2.1.2.2 ?_
  refine g2_istore qk147_0.1.2.2.1.1 rfl (loc2 := [some (sR v0), some (sI v1), some (sI r4), some (sI (opI 4 v1 r6)), some (sI (w32 ((opI 4 v1 r6) - r4))), none]) rfl ?_
  refine g2_iload qk147_0.1.2.2.1.2 rfl ?_
  refine g2_iload qk147_0.1.2.2.2.1 rfl ?_
  refine g2_iload qk147_0.1.2.2.2.2 rfl ?_
  refine g2_int qk147_0.2.1.1.1.1 (2 : Int) rfl ?_
  refine g2_aload qk147_0.2.1.1.1.2 rfl ?_
  refine g2_kn hK0 (g2_getI qk147_0.2.1.1.2.1 hW ⟨by decide, by decide, by decide, rfl⟩ (fun r8 x9 => ?_))
  refine g2_ibin qk147_0.2.1.1.2.2 ?_
  refine g2_iadd qk147_0.2.1.2.1.1 ?_
  refine g2_callS (t' := 1) qk147_0.2.1.2.1.2 (by decide) (ql_ip123 hQ) rfl rfl rfl rfl (by omega) (tq123_newLength hQ (by omega) hW x5 (inR_w32 _) (inR_w32 _)) (fun y10 S11 x12 m13 e14 => ?_)
  refine g2_istore qk147_0.2.1.2.2.1 rfl (loc2 := [some (sR v0), some (sI v1), some (sI r4), some (sI (opI 4 v1 r6)), some (sI (w32 ((opI 4 v1 r6) - r4))), some (sI y10)]) rfl ?_
  refine g2_iload qk147_0.2.1.2.2.2 rfl ?_
  refine g2_int qk147_0.2.2.1.1.1 (2147483647 : Int) rfl ?_
  refine g2_cmeq qk147_0.2.2.1.1.2 x12 (inR_of (by decide)) (fun c15 => ?_) (fun c16 => ?_)
  · exact g2_none
  · refine g2_iload qk147_0.2.2.1.2.1 rfl ?_
    refine g2_aload qk147_0.2.2.1.2.2 rfl ?_
    refine g2_kn (ek e14 hK0 (by decide)) (g2_getI qk147_0.2.2.2.1.1 m13 ⟨by decide, by decide, by decide, rfl⟩ (fun r17 x18 => ?_))
    refine g2_ibin qk147_0.2.2.2.1.2 ?_
    exact g2_iret qk147_0.2.2.2.2 m13 (inR_opI _ _ _)
noncomputable def q148_ensureCapacityInternal (S : sS) (v0 : Int) (v1 : Int) : Option (Int × sS) :=
  bnd (sg S v0 0) (fun r1 => if sK S r1 = 21 then bnd (sZ S r1) (fun r4 => bnd (sg S v0 1) (fun r6 => if 0 < (w32 (v1 - (opI 5 r4 r6))) then (bnd (sg S v0 0) (fun r10 => bdS (q147_newCapacity S v0 v1) (fun y12 S13 => bnd (sg S13 v0 1) (fun r17 => bdS (q146_copyOf S13 r10 (opI 4 y12 r17)) (fun y19 S20 => bnd (uS S20 v0 0 y19) (fun S24 => some (0, S24))))))) else (some (0, S)))) else none)
theorem tq148_ensureCapacityInternal {κ : CX} (hQ : κ.2.2.2.2.2.2.2.2.2 = (ql_I, ql_P)) {n0 s0 : Int} {d : Nat} (hd : 4 ≤ d) {S : sS} (hW : WF2 κ S) {v0 v1 : Int} (hK0 : sK S v0 = 11) (h0 : RfO v0) (h1 : InR v1) : G2 κ ql_i148 ql_m148 0 d n0 s0 (q148_ensureCapacityInternal S v0 v1) 0 (ev_loc ql_m148.1 [(sR v0), (sI v1)]) [] S := by
  unfold q148_ensureCapacityInternal
  refine g2_aload qk148_0.1.1.1.1.1 rfl ?_
  refine g2_kn hK0 (g2_getR qk148_0.1.1.1.1.2 hW ⟨by decide, by decide, by decide, rfl⟩ (fun r1 x2 => ?_))
  refine g2_ck (fun q3 => ?_)
  refine g2_kn (ka2 q3 (by decide)) (g2_alen qk148_0.1.1.1.2 hW (fun r4 x5 => ?_))
  refine g2_aload qk148_0.1.1.2.1.1 rfl ?_
  refine g2_kn hK0 (g2_getI qk148_0.1.1.2.1.2 hW ⟨by decide, by decide, by decide, rfl⟩ (fun r6 x7 => ?_))
  refine g2_ibin qk148_0.1.1.2.2 ?_
  refine g2_istore qk148_0.1.2.1.1.1 rfl (loc2 := [some (sR v0), some (sI v1), some (sI (opI 5 r4 r6))]) rfl ?_
  refine g2_iload qk148_0.1.2.1.1.2 rfl ?_
  refine g2_iload qk148_0.1.2.1.2 rfl ?_
  refine g2_isub qk148_0.1.2.2.1.1 ?_
  refine g2_ifgt qk148_0.1.2.2.1.2 (inR_w32 _) (fun c8 => ?_) (fun c9 => ?_)
  · refine g2_aload qk148_0.1.2.2.2 rfl ?_
    refine g2_aload qk148_0.2.1.1.1.1 rfl ?_
    refine g2_kn hK0 (g2_getR qk148_0.2.1.1.1.2 hW ⟨by decide, by decide, by decide, rfl⟩ (fun r10 x11 => ?_))
    refine g2_aload qk148_0.2.1.1.2 rfl ?_
    refine g2_iload qk148_0.2.1.2.1.1 rfl ?_
    refine g2_kn hK0 (g2_callU (t' := 1) qk148_0.2.1.2.1.2 (by decide) (ql_ip147 hQ) rfl rfl rfl (by omega) hW (tq147_newCapacity hQ (by omega) hW hK0 h0 h1) (fun y12 S13 x14 m15 e16 => ?_))
    refine g2_aload qk148_0.2.1.2.2 rfl ?_
    refine g2_kn (ek e16 hK0 (by decide)) (g2_getI qk148_0.2.2.1.1.1 m15 ⟨by decide, by decide, by decide, rfl⟩ (fun r17 x18 => ?_))
    refine g2_ibin qk148_0.2.2.1.1.2 ?_
    refine g2_callS (t' := 2) qk148_0.2.2.1.2 (by decide) (ql_ip146 hQ) rfl rfl rfl rfl (by omega) (tq146_copyOf hQ (by omega) m15 (rfA_of x11) (inR_opI _ _ _)) (fun y19 S20 x21 m22 e23 => ?_)
    refine g2_kn ⟨(ek e23 (ek e16 hK0 (by decide)) (by decide)), h0.2⟩ (g2_putR qk148_0.2.2.2.1 m22 ⟨by decide, by decide, rfl⟩ x21 (fun S24 m25 e26 => ?_))
    exact g2_vret qk148_0.2.2.2.2 m25
  · exact g2_vret qk148_0.2.2.2.2 hW
noncomputable def q150_inflateIfNeededFor (S : sS) (v0 : Int) (v1 : Int) : Option (Int × sS) :=
  if (1 : Int) = 0 then (some (0, S)) else (bnd (sg S v0 1) (fun r3 => if sK S v1 = 12 then bdS (q140_coder S v1) (fun y6 S7 => if r3 = y6 then (some (0, S7)) else (none)) else none))
theorem tq150_inflateIfNeededFor {κ : CX} (hQ : κ.2.2.2.2.2.2.2.2.2 = (ql_I, ql_P)) {n0 s0 : Int} {d : Nat} (hd : 2 ≤ d) {S : sS} (hW : WF2 κ S) {v0 v1 : Int} (hK0 : sK S v0 = 11) (h0 : RfO v0) (h1 : RfA v1) : G2 κ ql_i150 ql_m150 0 d n0 s0 (q150_inflateIfNeededFor S v0 v1) 0 (ev_loc ql_m150.1 [(sR v0), (sR v1)]) [] S := by
  unfold q150_inflateIfNeededFor
  refine g2_gets0 qk150_0.1.1.1.1 ?_
  refine g2_ifeq qk150_0.1.1.1.2 (inR_b (Or.inr rfl)) (fun c1 => ?_) (fun c2 => ?_)
  · exact g2_vret qk150_0.2.2.2 hW
  · refine g2_aload qk150_0.1.1.2 rfl ?_
    refine g2_kn hK0 (g2_getI qk150_0.1.2.1 hW ⟨by decide, by decide, by decide, rfl⟩ (fun r3 x4 => ?_))
    refine g2_aload qk150_0.1.2.2 rfl ?_
    refine g2_ck (fun q5 => ?_)
    refine g2_kn q5 (g2_callV (t' := 1) qk150_0.2.1.1 (by decide) (ql_ip140 hQ) (by decide) rfl rfl rfl (by omega) hW (tq140_coder hQ (by omega) hW q5 h1) (fun y6 S7 x8 m9 e10 => ?_))
    refine g2_cmeq qk150_0.2.1.2 x4 x8 (fun c11 => ?_) (fun c12 => ?_)
    · exact g2_vret qk150_0.2.2.2 m9
    · refine g2_aload qk150_0.2.2.1 rfl ?_
      exact g2_none
noncomputable def q151_getBytes (S : sS) (v0 : Int) (v1 : Int) (v2 : Int) (v3 : Int) : Option (Int × sS) :=
  bdS (q140_coder S v0) (fun y1 S2 => if y1 = v3 then (bnd (sg S2 v0 0) (fun r8 => bnd (sg S2 v0 0) (fun r10 => if sK S2 r10 = 21 then bnd (sZ S2 r10) (fun r13 => if sK S2 r8 = 21 then if sK S2 v1 = 21 then if (0 ≤ (0 : Int) ∧ 0 ≤ (opI 4 v2 v3) ∧ 0 ≤ r13) ∧ (0 : Int) + r13 ≤ sZ S2 r8 ∧ (opI 4 v2 v3) + r13 ≤ sZ S2 v1 then if v1 < 1000000 then bnd (cpS S2 r8 (0 : Int) v1 (opI 4 v2 v3) r13) (fun S19 => some (0, S19)) else none else none else none else none) else none))) else (bnd (sg S2 v0 0) (fun r22 => bnd (sg S2 v0 0) (fun r24 => if sK S2 r24 = 21 then bnd (sZ S2 r24) (fun r27 => none) else none))))
theorem tq151_getBytes {κ : CX} (hQ : κ.2.2.2.2.2.2.2.2.2 = (ql_I, ql_P)) {n0 s0 : Int} {d : Nat} (hd : 2 ≤ d) {S : sS} (hW : WF2 κ S) {v0 v1 v2 v3 : Int} (hK0 : sK S v0 = 12) (h0 : RfA v0) (h1 : RfA v1) (h2 : InR v2) (h3 : InR v3) : G2 κ ql_i151 ql_m151 0 d n0 s0 (q151_getBytes S v0 v1 v2 v3) 0 (ev_loc ql_m151.1 [(sR v0), (sR v1), (sI v2), (sI v3)]) [] S := by
  unfold q151_getBytes
  refine g2_aload qk151_0.1.1.1.1.1 rfl ?_
  refine g2_kn hK0 (g2_callV (t' := 1) qk151_0.1.1.1.1.2 (by decide) (ql_ip140 hQ) (by decide) rfl rfl rfl (by omega) hW (tq140_coder hQ (by omega) hW hK0 h0) (fun y1 S2 x3 m4 e5 => ?_))
  refine g2_iload qk151_0.1.1.1.2.1 rfl ?_
  refine g2_cmeq qk151_0.1.1.1.2.2 x3 h3 (fun c6 => ?_) (fun c7 => ?_)
  · refine g2_aload qk151_0.1.1.2.1.1 rfl ?_
    refine g2_kn (ek e5 hK0 (by decide)) (g2_getA qk151_0.1.1.2.1.2 m4 ⟨by decide, by decide, by decide, rfl⟩ (fun r8 x9 => ?_))
    refine g2_int qk151_0.1.1.2.2 (0 : Int) rfl ?_
    refine g2_aload qk151_0.1.2.1.1.1 rfl ?_
    refine g2_iload qk151_0.1.2.1.1.2 rfl ?_
    refine g2_iload qk151_0.1.2.1.2 rfl ?_
    refine g2_ibin qk151_0.1.2.2.1.1 ?_
    refine g2_aload qk151_0.1.2.2.1.2 rfl ?_
    refine g2_kn (ek e5 hK0 (by decide)) (g2_getA qk151_0.1.2.2.2 m4 ⟨by decide, by decide, by decide, rfl⟩ (fun r10 x11 => ?_))
    refine g2_ck (fun q12 => ?_)
    refine g2_kn (ka2 q12 (by decide)) (g2_alen qk151_0.2.1.1.1.1 m4 (fun r13 x14 => ?_))
    refine g2_ck (fun q15 => ?_)
    refine g2_ck (fun q16 => ?_)
    refine g2_ck (fun q17 => ?_)
    refine g2_ck (fun q18 => ?_)
    refine g2_kn ⟨q15, ⟨q16, q18⟩, q17⟩ (g2_copyB qk151_0.2.1.1.1.2 m4 rfl (fun S19 m20 e21 => ?_))
    refine g2_goto qk151_0.2.1.1.2 ?_
    exact g2_vret qk151_0.2.2.2.2 m20
  · refine g2_aload qk151_0.2.1.2.1.1 rfl ?_
    refine g2_kn (ek e5 hK0 (by decide)) (g2_getA qk151_0.2.1.2.1.2 m4 ⟨by decide, by decide, by decide, rfl⟩ (fun r22 x23 => ?_))
    refine g2_int qk151_0.2.1.2.2 (0 : Int) rfl ?_
    refine g2_aload qk151_0.2.2.1.1.1 rfl ?_
    refine g2_iload qk151_0.2.2.1.1.2 rfl ?_
    refine g2_aload qk151_0.2.2.1.2 rfl ?_
    refine g2_kn (ek e5 hK0 (by decide)) (g2_getA qk151_0.2.2.2.1.1 m4 ⟨by decide, by decide, by decide, rfl⟩ (fun r24 x25 => ?_))
    refine g2_ck (fun q26 => ?_)
    refine g2_kn (ka2 q26 (by decide)) (g2_alen qk151_0.2.2.2.1.2 m4 (fun r27 x28 => ?_))
    exact g2_none
noncomputable def q152_putStringAt (S : sS) (v0 : Int) (v1 : Int) (v2 : Int) : Option (Int × sS) :=
  bdS (q150_inflateIfNeededFor S v0 v2) (fun y1 S2 => bnd (sg S2 v0 0) (fun r6 => bnd (sg S2 v0 1) (fun r8 => if sK S2 v2 = 12 then bdS (q151_getBytes S2 v2 r6 v1 r8) (fun y11 S12 => some (0, S12)) else none)))
theorem tq152_putStringAt {κ : CX} (hQ : κ.2.2.2.2.2.2.2.2.2 = (ql_I, ql_P)) {n0 s0 : Int} {d : Nat} (hd : 3 ≤ d) {S : sS} (hW : WF2 κ S) {v0 v1 v2 : Int} (hK0 : sK S v0 = 11) (h0 : RfO v0) (h1 : InR v1) (h2 : RfA v2) : G2 κ ql_i152 ql_m152 0 d n0 s0 (q152_putStringAt S v0 v1 v2) 0 (ev_loc ql_m152.1 [(sR v0), (sI v1), (sR v2)]) [] S := by
  unfold q152_putStringAt
  refine g2_aload qk152_0.1.1.1.1 rfl ?_
  refine g2_aload qk152_0.1.1.1.2 rfl ?_
  refine g2_kn hK0 (g2_callU (t' := 0) qk152_0.1.1.2 (by decide) (ql_ip150 hQ) rfl rfl rfl (by omega) hW (tq150_inflateIfNeededFor hQ (by omega) hW hK0 h0 h2) (fun y1 S2 x3 m4 e5 => ?_))
  refine g2_aload qk152_0.1.2.1.1 rfl ?_
  refine g2_aload qk152_0.1.2.1.2 rfl ?_
  refine g2_kn (ek e5 hK0 (by decide)) (g2_getR qk152_0.1.2.2 m4 ⟨by decide, by decide, by decide, rfl⟩ (fun r6 x7 => ?_))
  refine g2_iload qk152_0.2.1.1.1 rfl ?_
  refine g2_aload qk152_0.2.1.1.2 rfl ?_
  refine g2_kn (ek e5 hK0 (by decide)) (g2_getI qk152_0.2.1.2 m4 ⟨by decide, by decide, by decide, rfl⟩ (fun r8 x9 => ?_))
  refine g2_ck (fun q10 => ?_)
  refine g2_kn q10 (g2_callV (t' := 0) qk152_0.2.2.1 (by decide) (ql_ip151 hQ) (by decide) rfl rfl rfl (by omega) m4 (tq151_getBytes hQ (by omega) m4 q10 h2 (rfA_of x7) h1 x9) (fun y11 S12 x13 m14 e15 => ?_))
  exact g2_vret qk152_0.2.2.2 m14
noncomputable def q153_append (S : sS) (v0 : Int) (v1 : Int) : Option (Int × sS) :=
  if v1 < 0 then (none) else (if sK S v1 = 12 then bdS (q141_length S v1) (fun y4 S5 => bnd (sg S5 v0 3) (fun r9 => bdS (q148_ensureCapacityInternal S5 v0 (w32 (r9 + y4))) (fun y11 S12 => bnd (sg S12 v0 3) (fun r16 => bdS (q152_putStringAt S12 v0 r16 v1) (fun y18 S19 => bnd (sg S19 v0 3) (fun r23 => bnd (uS S19 v0 3 (w32 (r23 + y4))) (fun S25 => some (v0, S25)))))))) else none)
theorem tq153_append {κ : CX} (hQ : κ.2.2.2.2.2.2.2.2.2 = (ql_I, ql_P)) {n0 s0 : Int} {d : Nat} (hd : 5 ≤ d) {S : sS} (hW : WF2 κ S) {v0 v1 : Int} (hK0 : sK S v0 = 11) (h0 : RfO v0) (h1 : RfA v1) : G2 κ ql_i153 ql_m153 2 d n0 s0 (q153_append S v0 v1) 0 (ev_loc ql_m153.1 [(sR v0), (sR v1)]) [] S := by
  unfold q153_append
  refine g2_aload qk153_0.1.1.1.1.1 rfl ?_
  refine g2_isnull qk153_0.1.1.1.1.2 (fun c1 => ?_) (fun c2 => ?_)
  · refine g2_aload qk153_0.1.1.1.2.1 rfl ?_
    exact g2_none
  · refine g2_aload qk153_0.1.1.1.2.2 rfl ?_
    refine g2_ck (fun q3 => ?_)
    refine g2_kn q3 (g2_callV (t' := 1) qk153_0.1.1.2.1.1 (by decide) (ql_ip141 hQ) (by decide) rfl rfl rfl (by omega) hW (tq141_length hQ (by omega) hW q3 h1) (fun y4 S5 x6 m7 e8 => ?_))
    refine g2_istore qk153_0.1.1.2.1.2 rfl (loc2 := [some (sR v0), some (sR v1), some (sI y4)]) rfl ?_
    refine g2_aload qk153_0.1.1.2.2 rfl ?_
    refine g2_aload qk153_0.1.2.1.1.1 rfl ?_
    refine g2_kn (ek e8 hK0 (by decide)) (g2_getI qk153_0.1.2.1.1.2 m7 ⟨by decide, by decide, by decide, rfl⟩ (fun r9 x10 => ?_))
    refine g2_iload qk153_0.1.2.1.2 rfl ?_
    refine g2_iadd qk153_0.1.2.2.1.1 ?_
    refine g2_kn (ek e8 hK0 (by decide)) (g2_callU (t' := 0) qk153_0.1.2.2.1.2 (by decide) (ql_ip148 hQ) rfl rfl rfl (by omega) m7 (tq148_ensureCapacityInternal hQ (by omega) m7 (ek e8 hK0 (by decide)) h0 (inR_w32 _)) (fun y11 S12 x13 m14 e15 => ?_))
    refine g2_aload qk153_0.1.2.2.2 rfl ?_
    refine g2_aload qk153_0.2.1.1.1.1 rfl ?_
    refine g2_kn (ek e15 (ek e8 hK0 (by decide)) (by decide)) (g2_getI qk153_0.2.1.1.1.2 m14 ⟨by decide, by decide, by decide, rfl⟩ (fun r16 x17 => ?_))
    refine g2_aload qk153_0.2.1.1.2 rfl ?_
    refine g2_kn (ek e15 (ek e8 hK0 (by decide)) (by decide)) (g2_callU (t' := 0) qk153_0.2.1.2.1.1 (by decide) (ql_ip152 hQ) rfl rfl rfl (by omega) m14 (tq152_putStringAt hQ (by omega) m14 (ek e15 (ek e8 hK0 (by decide)) (by decide)) h0 x17 h1) (fun y18 S19 x20 m21 e22 => ?_))
    refine g2_aload qk153_0.2.1.2.1.2 rfl ?_
    refine g2_dupR qk153_0.2.1.2.2 ?_
    refine g2_kn (ek e22 (ek e15 (ek e8 hK0 (by decide)) (by decide)) (by decide)) (g2_getI qk153_0.2.2.1.1.1 m21 ⟨by decide, by decide, by decide, rfl⟩ (fun r23 x24 => ?_))
    refine g2_iload qk153_0.2.2.1.1.2 rfl ?_
    refine g2_iadd qk153_0.2.2.1.2 ?_
    refine g2_kn ⟨(ek e22 (ek e15 (ek e8 hK0 (by decide)) (by decide)) (by decide)), h0.2⟩ (g2_putI qk153_0.2.2.2.1.1 m21 ⟨by decide, by decide, rfl⟩ (inR_w32 _) (fun S25 m26 e27 => ?_))
    refine g2_aload qk153_0.2.2.2.1.2 rfl ?_
    exact g2_aret qk153_0.2.2.2.2 m26 h0
noncomputable def q154_append (S : sS) (v0 : Int) (v1 : Int) : Option (Int × sS) :=
  bdS (q153_append S v0 v1) (fun y1 S2 => some (v0, S2))
theorem tq154_append {κ : CX} (hQ : κ.2.2.2.2.2.2.2.2.2 = (ql_I, ql_P)) {n0 s0 : Int} {d : Nat} (hd : 6 ≤ d) {S : sS} (hW : WF2 κ S) {v0 v1 : Int} (hK0 : sK S v0 = 11) (h0 : RfO v0) (h1 : RfA v1) : G2 κ ql_i154 ql_m154 2 d n0 s0 (q154_append S v0 v1) 0 (ev_loc ql_m154.1 [(sR v0), (sR v1)]) [] S := by
  unfold q154_append
  refine g2_aload qk154_0.1.1.1 rfl ?_
  refine g2_aload qk154_0.1.1.2 rfl ?_
  refine g2_kn hK0 (g2_callP (t' := 2) qk154_0.1.2 (by decide) (ql_ip153 hQ) rfl rfl rfl (by omega) hW (tq153_append hQ (by omega) hW hK0 h0 h1) (fun y1 S2 x3 m4 e5 => ?_))
  refine g2_popR qk154_0.2.1.1 ?_
  refine g2_aload qk154_0.2.1.2 rfl ?_
  exact g2_aret qk154_0.2.2 m4 h0
noncomputable def q155_append (S : sS) (v0 : Int) (v1 : Int) : Option (Int × sS) :=
  bdS (q154_append S v0 v1) (fun y1 S2 => some (y1, S2))
theorem tq155_append {κ : CX} (hQ : κ.2.2.2.2.2.2.2.2.2 = (ql_I, ql_P)) {n0 s0 : Int} {d : Nat} (hd : 7 ≤ d) {S : sS} (hW : WF2 κ S) {v0 v1 : Int} (hK0 : sK S v0 = 11) (h0 : RfO v0) (h1 : RfA v1) : G2 κ ql_i155 ql_m155 2 d n0 s0 (q155_append S v0 v1) 0 (ev_loc ql_m155.1 [(sR v0), (sR v1)]) [] S := by
  unfold q155_append
  refine g2_aload qk155_0.1.1 rfl ?_
  refine g2_aload qk155_0.1.2 rfl ?_
  refine g2_kn hK0 (g2_callV (t' := 2) qk155_0.2.1 (by decide) (ql_ip154 hQ) (by decide) rfl rfl rfl (by omega) hW (tq154_append hQ (by omega) hW hK0 h0 h1) (fun y1 S2 x3 m4 e5 => ?_))
  exact g2_aret qk155_0.2.2 m4 x3
noncomputable def j156_24 (v0 : Int) (v1 : Int) (a0 : Int) (S : sS) : Option (Int × sS) :=
  if sK S v1 = 12 then bdS (q140_coder S v1) (fun y10 S11 => if -128 ≤ y10 ∧ y10 < 128 then bnd (uS S11 v0 1 y10) (fun S16 => if y10 = 0 then (if sn S16 < 1000000 ∧ 0 ≤ a0 ∧ a0 ≤ 65536 then bnd (sn S16) (fun p21 => bnd (nS S16 21 a0) (fun S22 => bnd (uS S22 v0 0 p21) (fun S28 => bdS (q155_append S28 v0 v1) (fun y31 S32 => some (0, S32))))) else none) else (none)) else none) else none
theorem tj156_24 {κ : CX} (hQ : κ.2.2.2.2.2.2.2.2.2 = (ql_I, ql_P)) {n0 s0 : Int} {d : Nat} (hd : 8 ≤ d) {v0 v1 : Int} {a0 : Int} (h0 : RfO v0) (h1 : RfA v1) (z0 : InR a0) (S : sS) (hW : WF2 κ S) (hK0 : sK S v0 = 11) (u2 : Option ev_V) (w2 : nwo u2) (u3 : Option ev_V) (w3 : nwo u3) (u4 : Option ev_V) (w4 : nwo u4) : G2 κ ql_i156 ql_m156 0 d n0 s0 (j156_24 v0 v1 a0 S) 24 [some (sR v0), some (sR v1), u2, u3, u4] [(sI a0)] S := by
  unfold j156_24
  refine g2_istore qk156_0.1.2.2.1.1 w2 (loc2 := [some (sR v0), some (sR v1), u2, some (sI a0), u4]) rfl ?_
  refine g2_aload qk156_0.1.2.2.1.2 rfl ?_
  refine g2_ck (fun q9 => ?_)
  refine g2_kn q9 (g2_callV (t' := 1) qk156_0.1.2.2.2.1 (by decide) (ql_ip140 hQ) (by decide) rfl rfl rfl (by omega) hW (tq140_coder hQ (by omega) hW q9 h1) (fun y10 S11 x12 m13 e14 => ?_))
  refine g2_istore qk156_0.1.2.2.2.2 rfl (loc2 := [some (sR v0), some (sR v1), u2, some (sI a0), some (sI y10)]) rfl ?_
  refine g2_aload qk156_0.2.1.1.1.1 rfl ?_
  refine g2_iload qk156_0.2.1.1.1.2 rfl ?_
  refine g2_ck (fun q15 => ?_)
  refine g2_kn ⟨⟨(ek e14 hK0 (by decide)), h0.2⟩, q15⟩ (g2_put65 qk156_0.2.1.1.2.1 m13 ⟨by decide, by decide, rfl⟩ (fun S16 m17 e18 => ?_))
  refine g2_aload qk156_0.2.1.1.2.2 rfl ?_
  refine g2_iload qk156_0.2.1.2.1.1 rfl ?_
  refine g2_ifeq qk156_0.2.1.2.1.2 x12 (fun c19 => ?_) (fun c20 => ?_)
  · refine g2_iload qk156_0.2.1.2.2.1 rfl ?_
    refine g2_ck (fun q27 => ?_)
    refine g2_kn q27 (g2_newa qk156_0.2.1.2.2.2 m17 ⟨by decide, rfl⟩ (fun p21 S22 x23 k24 m25 e26 => ?_))
    refine g2_goto qk156_0.2.2.1.1.1 ?_
    refine g2_kn ⟨(ek e26 (ek e18 (ek e14 hK0 (by decide)) (by decide)) (by decide)), h0.2⟩ (g2_putR qk156_0.2.2.1.2.1 m25 ⟨by decide, by decide, rfl⟩ (rfO_of x23) (fun S28 m29 e30 => ?_))
    refine g2_aload qk156_0.2.2.1.2.2 rfl ?_
    refine g2_aload qk156_0.2.2.2.1.1 rfl ?_
    refine g2_kn (ek e30 (ek e26 (ek e18 (ek e14 hK0 (by decide)) (by decide)) (by decide)) (by decide)) (g2_callU (t' := 2) qk156_0.2.2.2.1.2 (by decide) (ql_ip155 hQ) rfl rfl rfl (by omega) m29 (tq155_append hQ (by omega) m29 (ek e30 (ek e26 (ek e18 (ek e14 hK0 (by decide)) (by decide)) (by decide)) (by decide)) h0 h1) (fun y31 S32 x33 m34 e35 => ?_))
    refine g2_popR qk156_0.2.2.2.2.1 ?_
    exact g2_vret qk156_0.2.2.2.2.2 m34
  · refine g2_iload qk156_0.2.2.1.1.2 rfl ?_
    exact g2_none
noncomputable def q156_init (S : sS) (v0 : Int) (v1 : Int) : Option (Int × sS) :=
  if sK S v1 = 12 then bdS (q141_length S v1) (fun y2 S3 => if y2 < (2147483631 : Int) then (j156_24 v0 v1 (w32 (y2 + (16 : Int))) S3) else (j156_24 v0 v1 (2147483647 : Int) S3)) else none
theorem tq156_init {κ : CX} (hQ : κ.2.2.2.2.2.2.2.2.2 = (ql_I, ql_P)) {n0 s0 : Int} {d : Nat} (hd : 8 ≤ d) {S : sS} (hW : WF2 κ S) {v0 v1 : Int} (hK0 : sK S v0 = 11) (h0 : RfO v0) (h1 : RfA v1) : G2 κ ql_i156 ql_m156 0 d n0 s0 (q156_init S v0 v1) 0 (ev_loc ql_m156.1 [(sR v0), (sR v1)]) [] S := by
  unfold q156_init
  refine g2_aload qk156_0.1.1.1.1.1.1 rfl ?_
  refine g2_objinit qk156_0.1.1.1.1.1.2 rfl (kn_pos hW.2.1 hK0 (by decide)) ?_
  refine g2_aload qk156_0.1.1.1.1.2 rfl ?_
  refine g2_ck (fun q1 => ?_)
  refine g2_kn q1 (g2_callV (t' := 1) qk156_0.1.1.1.2.1 (by decide) (ql_ip141 hQ) (by decide) rfl rfl rfl (by omega) hW (tq141_length hQ (by omega) hW q1 h1) (fun y2 S3 x4 m5 e6 => ?_))
  refine g2_istore qk156_0.1.1.1.2.2 rfl (loc2 := [some (sR v0), some (sR v1), some (sI y2), none, none]) rfl ?_
  refine g2_iload qk156_0.1.1.2.1.1 rfl ?_
  refine g2_int qk156_0.1.1.2.1.2 (2147483631 : Int) rfl ?_
  refine g2_cmlt qk156_0.1.1.2.2.1 x4 (inR_of (by decide)) (fun c7 => ?_) (fun c8 => ?_)
  · refine g2_iload qk156_0.1.1.2.2.2 rfl ?_
    refine g2_int qk156_0.1.2.1.1.1 (16 : Int) rfl ?_
    refine g2_iadd qk156_0.1.2.1.1.2 ?_
    refine g2_goto qk156_0.1.2.1.2.1 ?_
    exact tj156_24 hQ hd h0 h1 (inR_w32 _) S3 m5 (ek e6 hK0 (by decide)) (some (sI y2)) rfl none rfl none rfl
  · refine g2_int qk156_0.1.2.1.2.2 (2147483647 : Int) rfl ?_
    exact tj156_24 hQ hd h0 h1 (inR_of (by decide)) S3 m5 (ek e6 hK0 (by decide)) (some (sI y2)) rfl none rfl none rfl
noncomputable def q157_init (S : sS) (v0 : Int) (v1 : Int) : Option (Int × sS) :=
  bdS (q156_init S v0 v1) (fun y1 S2 => some (0, S2))
theorem tq157_init {κ : CX} (hQ : κ.2.2.2.2.2.2.2.2.2 = (ql_I, ql_P)) {n0 s0 : Int} {d : Nat} (hd : 9 ≤ d) {S : sS} (hW : WF2 κ S) {v0 v1 : Int} (hK0 : sK S v0 = 11) (h0 : RfO v0) (h1 : RfA v1) : G2 κ ql_i157 ql_m157 0 d n0 s0 (q157_init S v0 v1) 0 (ev_loc ql_m157.1 [(sR v0), (sR v1)]) [] S := by
  unfold q157_init
  refine g2_aload qk157_0.1.1 rfl ?_
  refine g2_aload qk157_0.1.2 rfl ?_
  refine g2_kn (kn_pos hW.2.1 hK0 (by decide)) (g2_callI qk157_0.2.1 (by decide) (ql_ip156 hQ) rfl rfl rfl (by omega) ⟨_, qd_157_2⟩ (tq156_init hQ (by omega) hW hK0 h0 h1) (fun y1 S2 m4 e5 => ?_))
  exact g2_vret qk157_0.2.2 m4
noncomputable def q149_isLatin1 (S : sS) (v0 : Int) : Option (Int × sS) :=
  if (1 : Int) = 0 then (some ((0 : Int), S)) else (bnd (sg S v0 1) (fun r3 => if r3 = 0 then (some ((1 : Int), S)) else (some ((0 : Int), S))))
theorem tq149_isLatin1 {κ : CX} (hQ : κ.2.2.2.2.2.2.2.2.2 = (ql_I, ql_P)) {n0 s0 : Int} {d : Nat} (hd : 1 ≤ d) {S : sS} (hW : WF2 κ S) {v0 : Int} (hK0 : sK S v0 = 11) (h0 : RfO v0) : G2 κ ql_i149 ql_m149 3 d n0 s0 (q149_isLatin1 S v0) 0 (ev_loc ql_m149.1 [(sR v0)]) [] S := by
  unfold q149_isLatin1
  refine g2_gets0 qk149_0.1.1.1.1 ?_
  refine g2_ifeq qk149_0.1.1.1.2 (inR_b (Or.inr rfl)) (fun c1 => ?_) (fun c2 => ?_)
  · refine g2_int qk149_0.2.2.1 (0 : Int) rfl ?_
    exact g2_zret qk149_0.2.2.2 hW (Or.inl rfl)
  · refine g2_aload qk149_0.1.1.2 rfl ?_
    refine g2_kn hK0 (g2_getI qk149_0.1.2.1 hW ⟨by decide, by decide, by decide, rfl⟩ (fun r3 x4 => ?_))
    refine g2_ifeq qk149_0.1.2.2 x4 (fun c5 => ?_) (fun c6 => ?_)
    · refine g2_int qk149_0.2.1.1 (1 : Int) rfl ?_
      refine g2_goto qk149_0.2.1.2 ?_
      exact g2_zret qk149_0.2.2.2 hW (Or.inr rfl)
    · refine g2_int qk149_0.2.2.1 (0 : Int) rfl ?_
      exact g2_zret qk149_0.2.2.2 hW (Or.inl rfl)
noncomputable def b158_16 (v0 : Int) (v1 : Int) (X16 : Int → Int → sS → Option (Int × sS)) (v2 : Int) (v3 : Int) (S : sS) : Option (Int × sS) :=
  if v3 < (10 : Int) then (if v2 < v0 then (some ((w32 (v3 + v1)), S)) else (X16 (opI 0 (10 : Int) v2) (w32 (v3 + (1 : Int))) S)) else (some ((w32 ((10 : Int) + v1)), S))
noncomputable def l158_16 (v0 : Int) (v1 : Int) (n : Nat) : Int → Int → sS → Option (Int × sS) := Nat.rec (motive := fun _ => Int → Int → sS → Option (Int × sS)) (fun _ _ _ => none) (fun _ ih => b158_16 v0 v1 ih) n
theorem tb158_16 {κ : CX} (hQ : κ.2.2.2.2.2.2.2.2.2 = (ql_I, ql_P)) {n0 s0 : Int} {d : Nat} (hd : 1 ≤ d) {v0 v1 : Int} (h0 : InR v0) (h1 : B01 v1) {X16 : Int → Int → sS → Option (Int × sS)} (HX16 : ∀ (v2 : Int) (h2 : InR v2) (v3 : Int) (h3 : InR v3) (S : sS) (hW : WF2 κ S), G2 κ ql_i158 ql_m158 1 d n0 s0 (X16 v2 v3 S) 16 [some (sI v0), some (sI v1), some (sI v2), some (sI v3)] [] S) : ∀ (v2 : Int) (h2 : InR v2) (v3 : Int) (h3 : InR v3) (S : sS) (hW : WF2 κ S), G2 κ ql_i158 ql_m158 1 d n0 s0 (b158_16 v0 v1 X16 v2 v3 S) 16 [some (sI v0), some (sI v1), some (sI v2), some (sI v3)] [] S := by
  intro v2 h2 v3 h3 S hW
  unfold b158_16
  refine g2_iload qk158_0.1.2.2.1.1 rfl ?_
  refine g2_int qk158_0.1.2.2.1.2 (10 : Int) rfl ?_
  refine g2_cmlt qk158_0.1.2.2.2.1 h3 (inR_of (by decide)) (fun c3 => ?_) (fun c4 => ?_)
  · refine g2_iload qk158_0.1.2.2.2.2 rfl ?_
    refine g2_iload qk158_0.2.1.1.1.1 rfl ?_
    refine g2_cmgt qk158_0.2.1.1.1.2 h0 h2 (fun c5 => ?_) (fun c6 => ?_)
    · refine g2_iload qk158_0.2.1.1.2.1 rfl ?_
      refine g2_iload qk158_0.2.1.1.2.2 rfl ?_
      refine g2_iadd qk158_0.2.1.2.1.1 ?_
      exact g2_iret qk158_0.2.1.2.1.2 hW (inR_w32 _)
    · refine g2_int qk158_0.2.1.2.2.1 (10 : Int) rfl ?_
      refine g2_iload qk158_0.2.1.2.2.2 rfl ?_
      refine g2_ibin qk158_0.2.2.1.1.1 ?_
      refine g2_istore qk158_0.2.2.1.1.2 rfl (loc2 := [some (sI v0), some (sI v1), some (sI (opI 0 (10 : Int) v2)), some (sI v3)]) rfl ?_
      refine g2_iinc qk158_0.2.2.1.2.1 rfl rfl (1 : Int) rfl (loc2 := [some (sI v0), some (sI v1), some (sI (opI 0 (10 : Int) v2)), some (sI (w32 (v3 + (1 : Int))))]) rfl ?_
      refine g2_goto qk158_0.2.2.1.2.2 ?_
      exact HX16 (opI 0 (10 : Int) v2) (inR_opI _ _ _) (w32 (v3 + (1 : Int))) (inR_w32 _) S hW
  · refine g2_int qk158_0.2.2.2.1.1 (10 : Int) rfl ?_
    refine g2_iload qk158_0.2.2.2.1.2 rfl ?_
    refine g2_iadd qk158_0.2.2.2.2.1 ?_
    exact g2_iret qk158_0.2.2.2.2.2 hW (inR_w32 _)
theorem tl158_16 {κ : CX} (hQ : κ.2.2.2.2.2.2.2.2.2 = (ql_I, ql_P)) {n0 s0 : Int} {d : Nat} (hd : 1 ≤ d) {v0 v1 : Int} (h0 : InR v0) (h1 : B01 v1) : ∀ n : Nat, ∀ (v2 : Int) (h2 : InR v2) (v3 : Int) (h3 : InR v3) (S : sS) (hW : WF2 κ S), G2 κ ql_i158 ql_m158 1 d n0 s0 (l158_16 v0 v1 n v2 v3 S) 16 [some (sI v0), some (sI v1), some (sI v2), some (sI v3)] [] S := by
  intro n
  induction n with
  | zero =>
    intro v2 h2 v3 h3 S hW
    exact g2_none
  | succ n ih =>
    exact tb158_16 hQ hd h0 h1 ih
noncomputable def q158_stringSize (S : sS) (v0 : Int) : Option (Int × sS) :=
  if v0 < 0 then (l158_16 v0 (1 : Int) fu (-10 : Int) (1 : Int) S) else (l158_16 (w32 (-v0)) (0 : Int) fu (-10 : Int) (1 : Int) S)
theorem tq158_stringSize {κ : CX} (hQ : κ.2.2.2.2.2.2.2.2.2 = (ql_I, ql_P)) {n0 s0 : Int} {d : Nat} (hd : 1 ≤ d) {S : sS} (hW : WF2 κ S) {v0 : Int}  (h0 : InR v0) : G2 κ ql_i158 ql_m158 1 d n0 s0 (q158_stringSize S v0) 0 (ev_loc ql_m158.1 [(sI v0)]) [] S := by
  unfold q158_stringSize
  refine g2_int qk158_0.1.1.1.1.1.1 (1 : Int) rfl ?_
  refine g2_istore qk158_0.1.1.1.1.1.2 rfl (loc2 := [some (sI v0), some (sI (1 : Int)), none, none]) rfl ?_
  refine g2_iload qk158_0.1.1.1.1.2 rfl ?_
  refine g2_iflt qk158_0.1.1.1.2.1 h0 (fun c1 => ?_) (fun c2 => ?_)
  · refine g2_int qk158_0.1.2.1.1.1 (-10 : Int) rfl ?_
    refine g2_istore qk158_0.1.2.1.1.2 rfl (loc2 := [some (sI v0), some (sI (1 : Int)), some (sI (-10 : Int)), none]) rfl ?_
    refine g2_int qk158_0.1.2.1.2.1 (1 : Int) rfl ?_
    refine g2_istore qk158_0.1.2.1.2.2 rfl (loc2 := [some (sI v0), some (sI (1 : Int)), some (sI (-10 : Int)), some (sI (1 : Int))]) rfl ?_
    exact tl158_16 hQ hd h0 (Or.inr rfl) fu (-10 : Int) (inR_of (by decide)) (1 : Int) (inR_b (Or.inr rfl)) S hW
  · refine g2_int qk158_0.1.1.1.2.2 (0 : Int) rfl ?_
    refine g2_istore qk158_0.1.1.2.1.1 rfl (loc2 := [some (sI v0), some (sI (0 : Int)), none, none]) rfl ?_
    refine g2_iload qk158_0.1.1.2.1.2 rfl ?_
    refine g2_ineg qk158_0.1.1.2.2.1 ?_
    refine g2_istore qk158_0.1.1.2.2.2 rfl (loc2 := [some (sI (w32 (-v0))), some (sI (0 : Int)), none, none]) rfl ?_
    refine g2_int qk158_0.1.2.1.1.1 (-10 : Int) rfl ?_
    refine g2_istore qk158_0.1.2.1.1.2 rfl (loc2 := [some (sI (w32 (-v0))), some (sI (0 : Int)), some (sI (-10 : Int)), none]) rfl ?_
    refine g2_int qk158_0.1.2.1.2.1 (1 : Int) rfl ?_
    refine g2_istore qk158_0.1.2.1.2.2 rfl (loc2 := [some (sI (w32 (-v0))), some (sI (0 : Int)), some (sI (-10 : Int)), some (sI (1 : Int))]) rfl ?_
    exact tl158_16 hQ hd (inR_w32 _) (Or.inl rfl) fu (-10 : Int) (inR_of (by decide)) (1 : Int) (inR_b (Or.inr rfl)) S hW
noncomputable def j159_104 (v2 : Int) (v5 : Int) (v6 : Int) (S : sS) : Option (Int × sS) :=
  if v6 = 0 then (some (v5, S)) else (if sK S v2 = 21 then if 0 ≤ (w32 (v5 + (-1 : Int))) ∧ (w32 (v5 + (-1 : Int))) < sZ S v2 then if v2 < 1000000 then bnd (uS S v2 (w32 (v5 + (-1 : Int))) (i2b (45 : Int))) (fun S53 => some ((w32 (v5 + (-1 : Int))), S53)) else none else none else none)
theorem tj159_104 {κ : CX} (hQ : κ.2.2.2.2.2.2.2.2.2 = (ql_I, ql_P)) {n0 s0 : Int} {d : Nat} (hd : 1 ≤ d) {v2 v5 v6 : Int} (h2 : RfA v2) (h5 : InR v5) (h6 : B01 v6) (S : sS) (hW : WF2 κ S) (u0 : Option ev_V) (w0 : nwo u0) (u1 : Option ev_V) (w1 : nwo u1) (u3 : Option ev_V) (w3 : nwo u3) (u4 : Option ev_V) (w4 : nwo u4) : G2 κ ql_i159 ql_m159 1 d n0 s0 (j159_104 v2 v5 v6 S) 104 [u0, u1, some (sR v2), u3, u4, some (sI v5), some (sI v6)] [] S := by
  unfold j159_104
  refine g2_iload qk159_1.2.2.1.1.1.1 rfl ?_
  refine g2_ifeq qk159_1.2.2.1.1.1.2 (inR_b h6) (fun c48 => ?_) (fun c49 => ?_)
  · refine g2_iload qk159_1.2.2.2.2.1 rfl ?_
    exact g2_iret qk159_1.2.2.2.2.2 hW h5
  · refine g2_aload qk159_1.2.2.1.1.2 rfl ?_
    refine g2_iinc qk159_1.2.2.1.2.1 rfl w4 (-1 : Int) rfl (loc2 := [u0, u1, some (sR v2), u3, u4, some (sI (w32 (v5 + (-1 : Int)))), some (sI v6)]) rfl ?_
    refine g2_iload qk159_1.2.2.1.2.2 rfl ?_
    refine g2_int qk159_1.2.2.2.1.1 (45 : Int) rfl ?_
    refine g2_ck (fun q50 => ?_)
    refine g2_ck (fun q51 => ?_)
    refine g2_ck (fun q52 => ?_)
    refine g2_kn ⟨q50, q52, q51⟩ (g2_bast qk159_1.2.2.2.1.2 hW (fun S53 m54 e55 => ?_))
    refine g2_iload qk159_1.2.2.2.2.1 rfl ?_
    exact g2_iret qk159_1.2.2.2.2.2 m54 (inR_w32 _)
noncomputable def j159_72 (v0 : Int) (v2 : Int) (v5 : Int) (v6 : Int) (S : sS) : Option (Int × sS) :=
  if sK S 2200000 = 21 then if 0 ≤ (w32 (-v0)) ∧ (w32 (-v0)) < sZ S 2200000 then bnd (sg S 2200000 (w32 (-v0))) (fun r29 => if sK S v2 = 21 then if 0 ≤ (w32 (v5 + (-1 : Int))) ∧ (w32 (v5 + (-1 : Int))) < sZ S v2 then if v2 < 1000000 then bnd (uS S v2 (w32 (v5 + (-1 : Int))) (i2b r29)) (fun S34 => if v0 < (-9 : Int) then (if sK S34 2200001 = 21 then if 0 ≤ (w32 (-v0)) ∧ (w32 (-v0)) < sZ S34 2200001 then bnd (sg S34 2200001 (w32 (-v0))) (fun r41 => if 0 ≤ (w32 ((w32 (v5 + (-1 : Int))) + (-1 : Int))) ∧ (w32 ((w32 (v5 + (-1 : Int))) + (-1 : Int))) < sZ S34 v2 then if v2 < 1000000 then bnd (uS S34 v2 (w32 ((w32 (v5 + (-1 : Int))) + (-1 : Int))) (i2b r41)) (fun S45 => j159_104 v2 (w32 ((w32 (v5 + (-1 : Int))) + (-1 : Int))) v6 S45) else none else none) else none else none) else (j159_104 v2 (w32 (v5 + (-1 : Int))) v6 S34)) else none else none else none) else none else none
theorem tj159_72 {κ : CX} (hQ : κ.2.2.2.2.2.2.2.2.2 = (ql_I, ql_P)) {n0 s0 : Int} {d : Nat} (hd : 1 ≤ d) {v0 v2 v5 v6 : Int} (h0 : InR v0) (h2 : RfA v2) (h5 : InR v5) (h6 : B01 v6) (S : sS) (hW : WF2 κ S) (u1 : Option ev_V) (w1 : nwo u1) (u3 : Option ev_V) (w3 : nwo u3) (u4 : Option ev_V) (w4 : nwo u4) : G2 κ ql_i159 ql_m159 1 d n0 s0 (j159_72 v0 v2 v5 v6 S) 72 [some (sI v0), u1, some (sR v2), u3, u4, some (sI v5), some (sI v6)] [] S := by
  unfold j159_72
  refine g2_aload qk159_1.1.1.2.2.2 rfl ?_
  refine g2_iinc qk159_1.1.2.1.1.1.1 rfl w4 (-1 : Int) rfl (loc2 := [some (sI v0), u1, some (sR v2), u3, u4, some (sI (w32 (v5 + (-1 : Int)))), some (sI v6)]) rfl ?_
  refine g2_iload qk159_1.1.2.1.1.1.2 rfl ?_
  refine g2_gets2 qk159_1.1.2.1.1.2 ?_
  refine g2_iload qk159_1.1.2.1.2.1 rfl ?_
  refine g2_ineg qk159_1.1.2.1.2.2 ?_
  refine g2_ck (fun q27 => ?_)
  refine g2_ck (fun q28 => ?_)
  refine g2_kn ⟨q27, q28⟩ (g2_bald qk159_1.1.2.2.1.1 hW (fun r29 x30 => ?_))
  refine g2_ck (fun q31 => ?_)
  refine g2_ck (fun q32 => ?_)
  refine g2_ck (fun q33 => ?_)
  refine g2_kn ⟨q31, q33, q32⟩ (g2_bast qk159_1.1.2.2.1.2 hW (fun S34 m35 e36 => ?_))
  refine g2_iload qk159_1.1.2.2.2.1 rfl ?_
  refine g2_int qk159_1.1.2.2.2.2 (-9 : Int) rfl ?_
  refine g2_cmlt qk159_1.2.1.1.1.1.1 h0 (inR_of (by decide)) (fun c37 => ?_) (fun c38 => ?_)
  · refine g2_aload qk159_1.2.1.1.1.1.2 rfl ?_
    refine g2_iinc qk159_1.2.1.1.1.2 rfl w4 (-1 : Int) rfl (loc2 := [some (sI v0), u1, some (sR v2), u3, u4, some (sI (w32 ((w32 (v5 + (-1 : Int))) + (-1 : Int)))), some (sI v6)]) rfl ?_
    refine g2_iload qk159_1.2.1.1.2.1 rfl ?_
    refine g2_gets3 qk159_1.2.1.1.2.2 ?_
    refine g2_iload qk159_1.2.1.2.1.1 rfl ?_
    refine g2_ineg qk159_1.2.1.2.1.2 ?_
    refine g2_ck (fun q39 => ?_)
    refine g2_ck (fun q40 => ?_)
    refine g2_kn ⟨q39, q40⟩ (g2_bald qk159_1.2.1.2.2.1 m35 (fun r41 x42 => ?_))
    refine g2_ck (fun q43 => ?_)
    refine g2_ck (fun q44 => ?_)
    refine g2_kn ⟨(ek e36 q31 (by decide)), q44, q43⟩ (g2_bast qk159_1.2.1.2.2.2 m35 (fun S45 m46 e47 => ?_))
    exact tj159_104 hQ hd h2 (inR_w32 _) h6 S45 m46 (some (sI v0)) rfl u1 w1 u3 w3 u4 w4
  · exact tj159_104 hQ hd h2 (inR_w32 _) h6 S34 m35 (some (sI v0)) rfl u1 w1 u3 w3 u4 w4
noncomputable def b159_22 (v2 : Int) (v6 : Int) (X22 : Int → Int → sS → Option (Int × sS)) (v0 : Int) (v5 : Int) (S : sS) : Option (Int × sS) :=
  if (-100 : Int) < v0 then (j159_72 v0 v2 v5 v6 S) else (if (1 : Int) ≤ (100 : Int) ∧ (100 : Int) < (2147483648 : Int) ∧ (0 : Int) ≤ v0 ∧ v0 < 2147483648 then if sK S 2200000 = 21 then if 0 ≤ (w32 ((opI 0 (v0 / (100 : Int)) (100 : Int)) - v0)) ∧ (w32 ((opI 0 (v0 / (100 : Int)) (100 : Int)) - v0)) < sZ S 2200000 then bnd (sg S 2200000 (w32 ((opI 0 (v0 / (100 : Int)) (100 : Int)) - v0))) (fun r10 => if sK S v2 = 21 then if 0 ≤ (w32 (v5 + (-1 : Int))) ∧ (w32 (v5 + (-1 : Int))) < sZ S v2 then if v2 < 1000000 then bnd (uS S v2 (w32 (v5 + (-1 : Int))) (i2b r10)) (fun S15 => if sK S15 2200001 = 21 then if 0 ≤ (w32 ((opI 0 (v0 / (100 : Int)) (100 : Int)) - v0)) ∧ (w32 ((opI 0 (v0 / (100 : Int)) (100 : Int)) - v0)) < sZ S15 2200001 then bnd (sg S15 2200001 (w32 ((opI 0 (v0 / (100 : Int)) (100 : Int)) - v0))) (fun r20 => if 0 ≤ (w32 ((w32 (v5 + (-1 : Int))) + (-1 : Int))) ∧ (w32 ((w32 (v5 + (-1 : Int))) + (-1 : Int))) < sZ S15 v2 then if v2 < 1000000 then bnd (uS S15 v2 (w32 ((w32 (v5 + (-1 : Int))) + (-1 : Int))) (i2b r20)) (fun S24 => X22 (v0 / (100 : Int)) (w32 ((w32 (v5 + (-1 : Int))) + (-1 : Int))) S24) else none else none) else none else none) else none else none else none) else none else none else none)
noncomputable def l159_22 (v2 : Int) (v6 : Int) (n : Nat) : Int → Int → sS → Option (Int × sS) := Nat.rec (motive := fun _ => Int → Int → sS → Option (Int × sS)) (fun _ _ _ => none) (fun _ ih => b159_22 v2 v6 ih) n
theorem tb159_22 {κ : CX} (hQ : κ.2.2.2.2.2.2.2.2.2 = (ql_I, ql_P)) {n0 s0 : Int} {d : Nat} (hd : 1 ≤ d) {v2 v6 : Int} (h2 : RfA v2) (h6 : B01 v6) {X22 : Int → Int → sS → Option (Int × sS)} (HX22 : ∀ (v0 : Int) (h0 : InR v0) (v5 : Int) (h5 : InR v5) (S : sS) (hW : WF2 κ S) (u1 : Option ev_V) (w1 : nwo u1) (u3 : Option ev_V) (w3 : nwo u3) (u4 : Option ev_V) (w4 : nwo u4), G2 κ ql_i159 ql_m159 1 d n0 s0 (X22 v0 v5 S) 22 [some (sI v0), u1, some (sR v2), u3, u4, some (sI v5), some (sI v6)] [] S) : ∀ (v0 : Int) (h0 : InR v0) (v5 : Int) (h5 : InR v5) (S : sS) (hW : WF2 κ S) (u1 : Option ev_V) (w1 : nwo u1) (u3 : Option ev_V) (w3 : nwo u3) (u4 : Option ev_V) (w4 : nwo u4), G2 κ ql_i159 ql_m159 1 d n0 s0 (b159_22 v2 v6 X22 v0 v5 S) 22 [some (sI v0), u1, some (sR v2), u3, u4, some (sI v5), some (sI v6)] [] S := by
  intro v0 h0 v5 h5 S hW u1 w1 u3 w3 u4 w4
  unfold b159_22
  refine g2_iload qk159_0.1.2.1.2.2 rfl ?_
  refine g2_int qk159_0.1.2.2.1.1 (-100 : Int) rfl ?_
  refine g2_cmgt qk159_0.1.2.2.1.2 h0 (inR_of (by decide)) (fun c5 => ?_) (fun c6 => ?_)
  · exact tj159_72 hQ hd h0 h2 h5 h6 S hW u1 w1 u3 w3 u4 w4
  · refine g2_iload qk159_0.1.2.2.2.1 rfl ?_
    refine g2_int qk159_0.1.2.2.2.2 (100 : Int) rfl ?_
    refine g2_ck (fun q7 => ?_)
    refine g2_div qk159_0.2.1.1.1.1.1 q7 ?_
    refine g2_istore qk159_0.2.1.1.1.1.2 rfl (loc2 := [some (sI v0), u1, some (sR v2), some (sI (v0 / (100 : Int))), u4, some (sI v5), some (sI v6)]) rfl ?_
    refine g2_iload qk159_0.2.1.1.1.2 rfl ?_
    refine g2_int qk159_0.2.1.1.2.1 (100 : Int) rfl ?_
    refine g2_ibin qk159_0.2.1.1.2.2 ?_
    refine g2_iload qk159_0.2.1.2.1.1 rfl ?_
    refine g2_isub qk159_0.2.1.2.1.2 ?_
    refine g2_istore qk159_0.2.1.2.2.1 rfl (loc2 := [some (sI v0), u1, some (sR v2), some (sI (v0 / (100 : Int))), some (sI (w32 ((opI 0 (v0 / (100 : Int)) (100 : Int)) - v0))), some (sI v5), some (sI v6)]) rfl ?_
    refine g2_iload qk159_0.2.1.2.2.2 rfl ?_
    refine g2_istore qk159_0.2.2.1.1.1 rfl (loc2 := [some (sI (v0 / (100 : Int))), u1, some (sR v2), some (sI (v0 / (100 : Int))), some (sI (w32 ((opI 0 (v0 / (100 : Int)) (100 : Int)) - v0))), some (sI v5), some (sI v6)]) rfl ?_
    refine g2_aload qk159_0.2.2.1.1.2 rfl ?_
    refine g2_iinc qk159_0.2.2.1.2.1 rfl rfl (-1 : Int) rfl (loc2 := [some (sI (v0 / (100 : Int))), u1, some (sR v2), some (sI (v0 / (100 : Int))), some (sI (w32 ((opI 0 (v0 / (100 : Int)) (100 : Int)) - v0))), some (sI (w32 (v5 + (-1 : Int)))), some (sI v6)]) rfl ?_
    refine g2_iload qk159_0.2.2.1.2.2 rfl ?_
    refine g2_gets2 qk159_0.2.2.2.1.1 ?_
    refine g2_iload qk159_0.2.2.2.1.2 rfl ?_
    refine g2_ck (fun q8 => ?_)
    refine g2_ck (fun q9 => ?_)
    refine g2_kn ⟨q8, q9⟩ (g2_bald qk159_0.2.2.2.2.1 hW (fun r10 x11 => ?_))
    refine g2_ck (fun q12 => ?_)
    refine g2_ck (fun q13 => ?_)
    refine g2_ck (fun q14 => ?_)
    refine g2_kn ⟨q12, q14, q13⟩ (g2_bast qk159_0.2.2.2.2.2 hW (fun S15 m16 e17 => ?_))
    refine g2_aload qk159_1.1.1.1.1.1.1 rfl ?_
    refine g2_iinc qk159_1.1.1.1.1.1.2 rfl rfl (-1 : Int) rfl (loc2 := [some (sI (v0 / (100 : Int))), u1, some (sR v2), some (sI (v0 / (100 : Int))), some (sI (w32 ((opI 0 (v0 / (100 : Int)) (100 : Int)) - v0))), some (sI (w32 ((w32 (v5 + (-1 : Int))) + (-1 : Int)))), some (sI v6)]) rfl ?_
    refine g2_iload qk159_1.1.1.1.1.2 rfl ?_
    refine g2_gets3 qk159_1.1.1.1.2.1 ?_
    refine g2_iload qk159_1.1.1.1.2.2 rfl ?_
    refine g2_ck (fun q18 => ?_)
    refine g2_ck (fun q19 => ?_)
    refine g2_kn ⟨q18, q19⟩ (g2_bald qk159_1.1.1.2.1.1 m16 (fun r20 x21 => ?_))
    refine g2_ck (fun q22 => ?_)
    refine g2_ck (fun q23 => ?_)
    refine g2_kn ⟨(ek e17 q12 (by decide)), q23, q22⟩ (g2_bast qk159_1.1.1.2.1.2 m16 (fun S24 m25 e26 => ?_))
    refine g2_goto qk159_1.1.1.2.2.1 ?_
    exact HX22 (v0 / (100 : Int)) (inR_div q7) (w32 ((w32 (v5 + (-1 : Int))) + (-1 : Int))) (inR_w32 _) S24 m25 u1 w1 (some (sI (v0 / (100 : Int)))) rfl (some (sI (w32 ((opI 0 (v0 / (100 : Int)) (100 : Int)) - v0)))) rfl
theorem tl159_22 {κ : CX} (hQ : κ.2.2.2.2.2.2.2.2.2 = (ql_I, ql_P)) {n0 s0 : Int} {d : Nat} (hd : 1 ≤ d) {v2 v6 : Int} (h2 : RfA v2) (h6 : B01 v6) : ∀ n : Nat, ∀ (v0 : Int) (h0 : InR v0) (v5 : Int) (h5 : InR v5) (S : sS) (hW : WF2 κ S) (u1 : Option ev_V) (w1 : nwo u1) (u3 : Option ev_V) (w3 : nwo u3) (u4 : Option ev_V) (w4 : nwo u4), G2 κ ql_i159 ql_m159 1 d n0 s0 (l159_22 v2 v6 n v0 v5 S) 22 [some (sI v0), u1, some (sR v2), u3, u4, some (sI v5), some (sI v6)] [] S := by
  intro n
  induction n with
  | zero =>
    intro v0 h0 v5 h5 S hW u1 w1 u3 w3 u4 w4
    exact g2_none
  | succ n ih =>
    exact tb159_22 hQ hd h2 h6 ih
noncomputable def j159_12 (v0 : Int) (v2 : Int) (v5 : Int) (a0 : Int) (S : sS) : Option (Int × sS) :=
  if a0 = 0 then (l159_22 v2 a0 fu (w32 (-v0)) v5 S) else (l159_22 v2 a0 fu v0 v5 S)
theorem tj159_12 {κ : CX} (hQ : κ.2.2.2.2.2.2.2.2.2 = (ql_I, ql_P)) {n0 s0 : Int} {d : Nat} (hd : 1 ≤ d) {v0 v2 v5 : Int} {a0 : Int} (h0 : InR v0) (h2 : RfA v2) (h5 : InR v5) (z0 : B01 a0) (S : sS) (hW : WF2 κ S) (u1 : Option ev_V) (w1 : nwo u1) (u3 : Option ev_V) (w3 : nwo u3) (u4 : Option ev_V) (w4 : nwo u4) (u6 : Option ev_V) (w6 : nwo u6) : G2 κ ql_i159 ql_m159 1 d n0 s0 (j159_12 v0 v2 v5 a0 S) 12 [some (sI v0), u1, some (sR v2), u3, u4, some (sI v5), u6] [(sI a0)] S := by
  unfold j159_12
  refine g2_istore qk159_0.1.1.2.2.1 rfl (loc2 := [some (sI v0), u1, some (sR v2), u3, u4, some (sI v5), some (sI a0)]) rfl ?_
  refine g2_iload qk159_0.1.1.2.2.2 rfl ?_
  refine g2_ifeq qk159_0.1.2.1.1.1.1 (inR_b z0) (fun c3 => ?_) (fun c4 => ?_)
  · refine g2_iload qk159_0.1.2.1.1.1.2 rfl ?_
    refine g2_ineg qk159_0.1.2.1.1.2 ?_
    refine g2_istore qk159_0.1.2.1.2.1 rfl (loc2 := [some (sI (w32 (-v0))), u1, some (sR v2), u3, u4, some (sI v5), some (sI a0)]) rfl ?_
    exact tl159_22 hQ hd h2 z0 fu (w32 (-v0)) (inR_w32 _) v5 h5 S hW u1 w1 u3 w3 u4 w4
  · exact tl159_22 hQ hd h2 z0 fu v0 h0 v5 h5 S hW u1 w1 u3 w3 u4 w4
noncomputable def q159_getChars (S : sS) (v0 : Int) (v1 : Int) (v2 : Int) : Option (Int × sS) :=
  if v0 < 0 then (j159_12 v0 v2 v1 (1 : Int) S) else (j159_12 v0 v2 v1 (0 : Int) S)
theorem tq159_getChars {κ : CX} (hQ : κ.2.2.2.2.2.2.2.2.2 = (ql_I, ql_P)) {n0 s0 : Int} {d : Nat} (hd : 1 ≤ d) {S : sS} (hW : WF2 κ S) {v0 v1 v2 : Int}  (h0 : InR v0) (h1 : InR v1) (h2 : RfA v2) : G2 κ ql_i159 ql_m159 1 d n0 s0 (q159_getChars S v0 v1 v2) 0 (ev_loc ql_m159.1 [(sI v0), (sI v1), (sR v2)]) [] S := by
  unfold q159_getChars
  refine g2_iload qk159_0.1.1.1.1.1.1 rfl ?_
  refine g2_istore qk159_0.1.1.1.1.1.2 rfl (loc2 := [some (sI v0), some (sI v1), some (sR v2), none, none, some (sI v1), none]) rfl ?_
  refine g2_iload qk159_0.1.1.1.1.2 rfl ?_
  refine g2_iflt qk159_0.1.1.1.2.1 h0 (fun c1 => ?_) (fun c2 => ?_)
  · refine g2_int qk159_0.1.1.1.2.2 (1 : Int) rfl ?_
    refine g2_goto qk159_0.1.1.2.1.1 ?_
    exact tj159_12 hQ hd h0 h2 h1 (Or.inr rfl) S hW (some (sI v1)) rfl none rfl none rfl none rfl
  · refine g2_int qk159_0.1.1.2.1.2 (0 : Int) rfl ?_
    exact tj159_12 hQ hd h0 h2 h1 (Or.inl rfl) S hW (some (sI v1)) rfl none rfl none rfl none rfl
noncomputable def q160_append (S : sS) (v0 : Int) (v1 : Int) : Option (Int × sS) :=
  bnd (sg S v0 3) (fun r1 => bdS (q158_stringSize S v1) (fun y3 S4 => bdS (q148_ensureCapacityInternal S4 v0 (w32 (r1 + y3))) (fun y8 S9 => bdS (q149_isLatin1 S9 v0) (fun y13 S14 => if y13 = 0 then (bnd (sg S14 v0 0) (fun r20 => none)) else (bnd (sg S14 v0 0) (fun r22 => bdS (q159_getChars S14 v1 (w32 (r1 + y3)) r22) (fun y24 S25 => bnd (uS S25 v0 3 (w32 (r1 + y3))) (fun S29 => some (v0, S29)))))))))
theorem tq160_append {κ : CX} (hQ : κ.2.2.2.2.2.2.2.2.2 = (ql_I, ql_P)) {n0 s0 : Int} {d : Nat} (hd : 5 ≤ d) {S : sS} (hW : WF2 κ S) {v0 v1 : Int} (hK0 : sK S v0 = 11) (h0 : RfO v0) (h1 : InR v1) : G2 κ ql_i160 ql_m160 2 d n0 s0 (q160_append S v0 v1) 0 (ev_loc ql_m160.1 [(sR v0), (sI v1)]) [] S := by
  unfold q160_append
  refine g2_aload qk160_0.1.1.1.1.1 rfl ?_
  refine g2_kn hK0 (g2_getI qk160_0.1.1.1.1.2 hW ⟨by decide, by decide, by decide, rfl⟩ (fun r1 x2 => ?_))
  refine g2_istore qk160_0.1.1.1.2.1 rfl (loc2 := [some (sR v0), some (sI v1), some (sI r1), none]) rfl ?_
  refine g2_iload qk160_0.1.1.1.2.2 rfl ?_
  refine g2_iload qk160_0.1.1.2.1.1 rfl ?_
  refine g2_callS (t' := 1) qk160_0.1.1.2.1.2 (by decide) (ql_ip158 hQ) rfl rfl rfl rfl (by omega) (tq158_stringSize hQ (by omega) hW h1) (fun y3 S4 x5 m6 e7 => ?_)
  refine g2_iadd qk160_0.1.1.2.2.1 ?_
  refine g2_istore qk160_0.1.1.2.2.2 rfl (loc2 := [some (sR v0), some (sI v1), some (sI r1), some (sI (w32 (r1 + y3)))]) rfl ?_
  refine g2_aload qk160_0.1.2.1.1.1 rfl ?_
  refine g2_iload qk160_0.1.2.1.1.2 rfl ?_
  refine g2_kn (ek e7 hK0 (by decide)) (g2_callU (t' := 0) qk160_0.1.2.1.2.1 (by decide) (ql_ip148 hQ) rfl rfl rfl (by omega) m6 (tq148_ensureCapacityInternal hQ (by omega) m6 (ek e7 hK0 (by decide)) h0 (inR_w32 _)) (fun y8 S9 x10 m11 e12 => ?_))
  refine g2_aload qk160_0.1.2.1.2.2 rfl ?_
  refine g2_kn (ek e12 (ek e7 hK0 (by decide)) (by decide)) (g2_callU (t' := 3) qk160_0.1.2.2.1.1 (by decide) (ql_ip149 hQ) rfl rfl rfl (by omega) m11 (tq149_isLatin1 hQ (by omega) m11 (ek e12 (ek e7 hK0 (by decide)) (by decide)) h0) (fun y13 S14 x15 m16 e17 => ?_))
  refine g2_ifeq qk160_0.1.2.2.1.2 (inR_b x15) (fun c18 => ?_) (fun c19 => ?_)
  · refine g2_iload qk160_0.2.1.2.1.2 rfl ?_
    refine g2_iload qk160_0.2.1.2.2.1 rfl ?_
    refine g2_iload qk160_0.2.1.2.2.2 rfl ?_
    refine g2_aload qk160_0.2.2.1.1.1 rfl ?_
    refine g2_kn (ek e17 (ek e12 (ek e7 hK0 (by decide)) (by decide)) (by decide)) (g2_getR qk160_0.2.2.1.1.2 m16 ⟨by decide, by decide, by decide, rfl⟩ (fun r20 x21 => ?_))
    exact g2_none
  · refine g2_iload qk160_0.1.2.2.2.1 rfl ?_
    refine g2_iload qk160_0.1.2.2.2.2 rfl ?_
    refine g2_aload qk160_0.2.1.1.1.1 rfl ?_
    refine g2_kn (ek e17 (ek e12 (ek e7 hK0 (by decide)) (by decide)) (by decide)) (g2_getR qk160_0.2.1.1.1.2 m16 ⟨by decide, by decide, by decide, rfl⟩ (fun r22 x23 => ?_))
    refine g2_callS (t' := 1) qk160_0.2.1.1.2.1 (by decide) (ql_ip159 hQ) rfl rfl rfl rfl (by omega) (tq159_getChars hQ (by omega) m16 h1 (inR_w32 _) (rfA_of x23)) (fun y24 S25 x26 m27 e28 => ?_)
    refine g2_popI qk160_0.2.1.1.2.2 ?_
    refine g2_goto qk160_0.2.1.2.1.1 ?_
    refine g2_aload qk160_0.2.2.1.2.1 rfl ?_
    refine g2_iload qk160_0.2.2.1.2.2 rfl ?_
    refine g2_kn ⟨(ek e28 (ek e17 (ek e12 (ek e7 hK0 (by decide)) (by decide)) (by decide)) (by decide)), h0.2⟩ (g2_putI qk160_0.2.2.2.1.1 m27 ⟨by decide, by decide, rfl⟩ (inR_w32 _) (fun S29 m30 e31 => ?_))
    refine g2_aload qk160_0.2.2.2.1.2 rfl ?_
    exact g2_aret qk160_0.2.2.2.2 m30 h0
noncomputable def q161_append (S : sS) (v0 : Int) (v1 : Int) : Option (Int × sS) :=
  bdS (q160_append S v0 v1) (fun y1 S2 => some (v0, S2))
theorem tq161_append {κ : CX} (hQ : κ.2.2.2.2.2.2.2.2.2 = (ql_I, ql_P)) {n0 s0 : Int} {d : Nat} (hd : 6 ≤ d) {S : sS} (hW : WF2 κ S) {v0 v1 : Int} (hK0 : sK S v0 = 11) (h0 : RfO v0) (h1 : InR v1) : G2 κ ql_i161 ql_m161 2 d n0 s0 (q161_append S v0 v1) 0 (ev_loc ql_m161.1 [(sR v0), (sI v1)]) [] S := by
  unfold q161_append
  refine g2_aload qk161_0.1.1.1 rfl ?_
  refine g2_iload qk161_0.1.1.2 rfl ?_
  refine g2_kn hK0 (g2_callP (t' := 2) qk161_0.1.2 (by decide) (ql_ip160 hQ) rfl rfl rfl (by omega) hW (tq160_append hQ (by omega) hW hK0 h0 h1) (fun y1 S2 x3 m4 e5 => ?_))
  refine g2_popR qk161_0.2.1.1 ?_
  refine g2_aload qk161_0.2.1.2 rfl ?_
  exact g2_aret qk161_0.2.2 m4 h0
noncomputable def q162_canEncode (S : sS) (v0 : Int) : Option (Int × sS) :=
  if (255 : Int) < v0 then (some ((0 : Int), S)) else (some ((1 : Int), S))
theorem tq162_canEncode {κ : CX} (hQ : κ.2.2.2.2.2.2.2.2.2 = (ql_I, ql_P)) {n0 s0 : Int} {d : Nat} (hd : 1 ≤ d) {S : sS} (hW : WF2 κ S) {v0 : Int}  (h0 : InR v0) : G2 κ ql_i162 ql_m162 3 d n0 s0 (q162_canEncode S v0) 0 (ev_loc ql_m162.1 [(sI v0)]) [] S := by
  unfold q162_canEncode
  refine g2_iload qk162_0.1.1.1 rfl ?_
  refine g2_int qk162_0.1.1.2 (255 : Int) rfl ?_
  refine g2_cmgt qk162_0.1.2.1 h0 (inR_of (by decide)) (fun c1 => ?_) (fun c2 => ?_)
  · refine g2_int qk162_0.2.1.2 (0 : Int) rfl ?_
    exact g2_zret qk162_0.2.2 hW (Or.inl rfl)
  · refine g2_int qk162_0.1.2.2 (1 : Int) rfl ?_
    refine g2_goto qk162_0.2.1.1 ?_
    exact g2_zret qk162_0.2.2 hW (Or.inr rfl)
noncomputable def j163_45 (v0 : Int) (v1 : Int) (S : sS) : Option (Int × sS) :=
  bdS (q149_isLatin1 S v0) (fun y34 S35 => if y34 = 0 then (bnd (sg S35 v0 0) (fun r41 => bnd (sg S35 v0 3) (fun r43 => bnd (uS S35 v0 3 (w32 (r43 + (1 : Int)))) (fun S45 => none)))) else (none))
theorem tj163_45 {κ : CX} (hQ : κ.2.2.2.2.2.2.2.2.2 = (ql_I, ql_P)) {n0 s0 : Int} {d : Nat} (hd : 5 ≤ d) {v0 v1 : Int} (h0 : RfO v0) (h1 : InR v1) (S : sS) (hW : WF2 κ S) (hK0 : sK S v0 = 11) : G2 κ ql_i163 ql_m163 2 d n0 s0 (j163_45 v0 v1 S) 45 [some (sR v0), some (sI v1)] [] S := by
  unfold j163_45
  refine g2_aload qk163_0.2.1.1.2.2 rfl ?_
  refine g2_kn hK0 (g2_callU (t' := 3) qk163_0.2.1.2.1.1.1 (by decide) (ql_ip149 hQ) rfl rfl rfl (by omega) hW (tq149_isLatin1 hQ (by omega) hW hK0 h0) (fun y34 S35 x36 m37 e38 => ?_))
  refine g2_ifeq qk163_0.2.1.2.1.1.2 (inR_b x36) (fun c39 => ?_) (fun c40 => ?_)
  · refine g2_aload qk163_0.2.1.2.2.1 rfl ?_
    refine g2_kn (ek e38 hK0 (by decide)) (g2_getR qk163_0.2.1.2.2.2 m37 ⟨by decide, by decide, by decide, rfl⟩ (fun r41 x42 => ?_))
    refine g2_aload qk163_0.2.2.1.1.1.1 rfl ?_
    refine g2_dupR qk163_0.2.2.1.1.1.2 ?_
    refine g2_kn (ek e38 hK0 (by decide)) (g2_getI qk163_0.2.2.1.1.2 m37 ⟨by decide, by decide, by decide, rfl⟩ (fun r43 x44 => ?_))
    refine g2_dupx qk163_0.2.2.1.2.1 rfl rfl ?_
    refine g2_int qk163_0.2.2.1.2.2 (1 : Int) rfl ?_
    refine g2_iadd qk163_0.2.2.2.1.1.1 ?_
    refine g2_kn ⟨(ek e38 hK0 (by decide)), h0.2⟩ (g2_putI qk163_0.2.2.2.1.1.2 m37 ⟨by decide, by decide, rfl⟩ (inR_w32 _) (fun S45 m46 e47 => ?_))
    refine g2_iload qk163_0.2.2.2.1.2 rfl ?_
    exact g2_none
  · refine g2_aload qk163_0.2.1.2.1.2 rfl ?_
    exact g2_none
noncomputable def q163_append (S : sS) (v0 : Int) (v1 : Int) : Option (Int × sS) :=
  bnd (sg S v0 3) (fun r1 => bdS (q148_ensureCapacityInternal S v0 (w32 (r1 + (1 : Int)))) (fun y3 S4 => bdS (q149_isLatin1 S4 v0) (fun y8 S9 => if y8 = 0 then (j163_45 v0 v1 S9) else (bdS (q162_canEncode S9 v1) (fun y15 S16 => if y15 = 0 then (j163_45 v0 v1 S16) else (bnd (sg S16 v0 0) (fun r22 => bnd (sg S16 v0 3) (fun r24 => bnd (uS S16 v0 3 (w32 (r24 + (1 : Int)))) (fun S26 => if sK S26 r22 = 21 then if 0 ≤ r24 ∧ r24 < sZ S26 r22 then bnd (uS S26 r22 r24 (i2b (i2b v1))) (fun S31 => some (v0, S31)) else none else none)))))))))
theorem tq163_append {κ : CX} (hQ : κ.2.2.2.2.2.2.2.2.2 = (ql_I, ql_P)) {n0 s0 : Int} {d : Nat} (hd : 5 ≤ d) {S : sS} (hW : WF2 κ S) {v0 v1 : Int} (hK0 : sK S v0 = 11) (h0 : RfO v0) (h1 : InR v1) : G2 κ ql_i163 ql_m163 2 d n0 s0 (q163_append S v0 v1) 0 (ev_loc ql_m163.1 [(sR v0), (sI v1)]) [] S := by
  unfold q163_append
  refine g2_aload qk163_0.1.1.1.1.1.1 rfl ?_
  refine g2_aload qk163_0.1.1.1.1.1.2 rfl ?_
  refine g2_kn hK0 (g2_getI qk163_0.1.1.1.1.2 hW ⟨by decide, by decide, by decide, rfl⟩ (fun r1 x2 => ?_))
  refine g2_int qk163_0.1.1.1.2.1.1 (1 : Int) rfl ?_
  refine g2_iadd qk163_0.1.1.1.2.1.2 ?_
  refine g2_kn hK0 (g2_callU (t' := 0) qk163_0.1.1.1.2.2 (by decide) (ql_ip148 hQ) rfl rfl rfl (by omega) hW (tq148_ensureCapacityInternal hQ (by omega) hW hK0 h0 (inR_w32 _)) (fun y3 S4 x5 m6 e7 => ?_))
  refine g2_aload qk163_0.1.1.2.1.1.1 rfl ?_
  refine g2_kn (ek e7 hK0 (by decide)) (g2_callU (t' := 3) qk163_0.1.1.2.1.1.2 (by decide) (ql_ip149 hQ) rfl rfl rfl (by omega) m6 (tq149_isLatin1 hQ (by omega) m6 (ek e7 hK0 (by decide)) h0) (fun y8 S9 x10 m11 e12 => ?_))
  refine g2_ifeq qk163_0.1.1.2.1.2 (inR_b x10) (fun c13 => ?_) (fun c14 => ?_)
  · exact tj163_45 hQ hd h0 h1 S9 m11 (ek e12 (ek e7 hK0 (by decide)) (by decide))
  · refine g2_iload qk163_0.1.1.2.2.1 rfl ?_
    refine g2_callS (t' := 3) qk163_0.1.1.2.2.2 (by decide) (ql_ip162 hQ) rfl rfl rfl rfl (by omega) (tq162_canEncode hQ (by omega) m11 h1) (fun y15 S16 x17 m18 e19 => ?_)
    refine g2_ifeq qk163_0.1.2.1.1.1.1 (inR_b x17) (fun c20 => ?_) (fun c21 => ?_)
    · exact tj163_45 hQ hd h0 h1 S16 m18 (ek e19 (ek e12 (ek e7 hK0 (by decide)) (by decide)) (by decide))
    · refine g2_aload qk163_0.1.2.1.1.1.2 rfl ?_
      refine g2_kn (ek e19 (ek e12 (ek e7 hK0 (by decide)) (by decide)) (by decide)) (g2_getR qk163_0.1.2.1.1.2 m18 ⟨by decide, by decide, by decide, rfl⟩ (fun r22 x23 => ?_))
      refine g2_aload qk163_0.1.2.1.2.1 rfl ?_
      refine g2_dupR qk163_0.1.2.1.2.2 ?_
      refine g2_kn (ek e19 (ek e12 (ek e7 hK0 (by decide)) (by decide)) (by decide)) (g2_getI qk163_0.1.2.2.1.1.1 m18 ⟨by decide, by decide, by decide, rfl⟩ (fun r24 x25 => ?_))
      refine g2_dupx qk163_0.1.2.2.1.1.2 rfl rfl ?_
      refine g2_int qk163_0.1.2.2.1.2 (1 : Int) rfl ?_
      refine g2_iadd qk163_0.1.2.2.2.1 ?_
      refine g2_kn ⟨(ek e19 (ek e12 (ek e7 hK0 (by decide)) (by decide)) (by decide)), h0.2⟩ (g2_putI qk163_0.1.2.2.2.2 m18 ⟨by decide, by decide, rfl⟩ (inR_w32 _) (fun S26 m27 e28 => ?_))
      refine g2_iload qk163_0.2.1.1.1.1.1 rfl ?_
      refine g2_i2b qk163_0.2.1.1.1.1.2 ?_
      refine g2_ck (fun q29 => ?_)
      refine g2_ck (fun q30 => ?_)
      refine g2_kn ⟨q29, x23.2, q30⟩ (g2_bast qk163_0.2.1.1.1.2 m27 (fun S31 m32 e33 => ?_))
      refine g2_goto qk163_0.2.1.1.2.1 ?_
      refine g2_aload qk163_0.2.2.2.2.1 rfl ?_
      exact g2_aret qk163_0.2.2.2.2.2 m32 h0
noncomputable def q164_append (S : sS) (v0 : Int) (v1 : Int) : Option (Int × sS) :=
  bdS (q163_append S v0 v1) (fun y1 S2 => some (v0, S2))
theorem tq164_append {κ : CX} (hQ : κ.2.2.2.2.2.2.2.2.2 = (ql_I, ql_P)) {n0 s0 : Int} {d : Nat} (hd : 6 ≤ d) {S : sS} (hW : WF2 κ S) {v0 v1 : Int} (hK0 : sK S v0 = 11) (h0 : RfO v0) (h1 : InR v1) : G2 κ ql_i164 ql_m164 2 d n0 s0 (q164_append S v0 v1) 0 (ev_loc ql_m164.1 [(sR v0), (sI v1)]) [] S := by
  unfold q164_append
  refine g2_aload qk164_0.1.1.1 rfl ?_
  refine g2_iload qk164_0.1.1.2 rfl ?_
  refine g2_kn hK0 (g2_callP (t' := 2) qk164_0.1.2 (by decide) (ql_ip163 hQ) rfl rfl rfl (by omega) hW (tq163_append hQ (by omega) hW hK0 h0 h1) (fun y1 S2 x3 m4 e5 => ?_))
  refine g2_popR qk164_0.2.1.1 ?_
  refine g2_aload qk164_0.2.1.2 rfl ?_
  exact g2_aret qk164_0.2.2 m4 h0
noncomputable def q165_getValue (S : sS) (v0 : Int) : Option (Int × sS) :=
  bnd (sg S v0 0) (fun r1 => some (r1, S))
theorem tq165_getValue {κ : CX} (hQ : κ.2.2.2.2.2.2.2.2.2 = (ql_I, ql_P)) {n0 s0 : Int} {d : Nat} (hd : 1 ≤ d) {S : sS} (hW : WF2 κ S) {v0 : Int} (hK0 : sK S v0 = 11) (h0 : RfO v0) : G2 κ ql_i165 ql_m165 2 d n0 s0 (q165_getValue S v0) 0 (ev_loc ql_m165.1 [(sR v0)]) [] S := by
  unfold q165_getValue
  refine g2_aload qk165_0.1.1 rfl ?_
  refine g2_kn hK0 (g2_getR qk165_0.1.2 hW ⟨by decide, by decide, by decide, rfl⟩ (fun r1 x2 => ?_))
  exact g2_aret qk165_0.2 hW x2
noncomputable def q166_length (S : sS) (v0 : Int) : Option (Int × sS) :=
  bnd (sg S v0 3) (fun r1 => some (r1, S))
theorem tq166_length {κ : CX} (hQ : κ.2.2.2.2.2.2.2.2.2 = (ql_I, ql_P)) {n0 s0 : Int} {d : Nat} (hd : 1 ≤ d) {S : sS} (hW : WF2 κ S) {v0 : Int} (hK0 : sK S v0 = 11) (h0 : RfO v0) : G2 κ ql_i166 ql_m166 1 d n0 s0 (q166_length S v0) 0 (ev_loc ql_m166.1 [(sR v0)]) [] S := by
  unfold q166_length
  refine g2_aload qk166_0.1.1 rfl ?_
  refine g2_kn hK0 (g2_getI qk166_0.1.2 hW ⟨by decide, by decide, by decide, rfl⟩ (fun r1 x2 => ?_))
  exact g2_iret qk166_0.2 hW x2
noncomputable def q167_length (S : sS) (v0 : Int) : Option (Int × sS) :=
  bdS (q166_length S v0) (fun y1 S2 => some (y1, S2))
theorem tq167_length {κ : CX} (hQ : κ.2.2.2.2.2.2.2.2.2 = (ql_I, ql_P)) {n0 s0 : Int} {d : Nat} (hd : 2 ≤ d) {S : sS} (hW : WF2 κ S) {v0 : Int} (hK0 : sK S v0 = 11) (h0 : RfO v0) : G2 κ ql_i167 ql_m167 1 d n0 s0 (q167_length S v0) 0 (ev_loc ql_m167.1 [(sR v0)]) [] S := by
  unfold q167_length
  refine g2_aload qk167_0.1.1 rfl ?_
  refine g2_kn hK0 (g2_callP (t' := 1) qk167_0.1.2 (by decide) (ql_ip166 hQ) rfl rfl rfl (by omega) hW (tq166_length hQ (by omega) hW hK0 h0) (fun y1 S2 x3 m4 e5 => ?_))
  exact g2_iret qk167_0.2 m4 x3
noncomputable def q168_checkLength (S : sS) (v0 : Int) (v1 : Int) : Option (Int × sS) :=
  if v1 < v0 then (none) else (some (0, S))
theorem tq168_checkLength {κ : CX} (hQ : κ.2.2.2.2.2.2.2.2.2 = (ql_I, ql_P)) {n0 s0 : Int} {d : Nat} (hd : 1 ≤ d) {S : sS} (hW : WF2 κ S) {v0 v1 : Int}  (h0 : InR v0) (h1 : InR v1) : G2 κ ql_i168 ql_m168 0 d n0 s0 (q168_checkLength S v0 v1) 0 (ev_loc ql_m168.1 [(sI v0), (sI v1)]) [] S := by
  unfold q168_checkLength
  refine g2_iload qk168_0.1.1 rfl ?_
  refine g2_iload qk168_0.1.2 rfl ?_
  refine g2_cmlt qk168_0.2.1 h1 h0 (fun c1 => ?_) (fun c2 => ?_)
  · exact g2_none
  · exact g2_vret qk168_0.2.2 hW
