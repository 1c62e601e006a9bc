/-! ===== the law's and the JDK's methods as functions, and that the machine comes to what they tell (own work, by program: wip/p67/gen/lawdec.py) ===== -/
noncomputable def q104_room (S : sS) (v0 : Int) (v1 : Int) : Option (Int × sS) :=
  bnd (sg S v1 7) (fun r1 => if r1 = 0 then (bnd (sg S v1 5) (fun r5 => bdS (q103_children S v0 v1 (0 : Int)) (fun y7 S8 => if sK S8 y7 = 9 then bdS (q134_size S8 y7) (fun y13 S14 => bdS (q121_max S14 (0 : Int) (w32 (r5 - y13))) (fun y18 S19 => some (y18, S19))) else none))) else (some ((0 : Int), S)))
theorem tq104_room {κ : CX} (hQ : κ.2.2.2.2.2.2.2.2.2 = (ql_I, ql_P)) {n0 s0 : Int} {d : Nat} (hd : 9 ≤ d) {S : sS} (hW : WF2 κ S) {v0 v1 : Int} (hK0 : sK S v0 = 8) (hK1 : sK S v1 = 7) (h0 : RfO v0) (h1 : RfO v1) : G2 κ ql_i104 ql_m104 1 d n0 s0 (q104_room S v0 v1) 0 (ev_loc ql_m104.1 [(sR v0), (sR v1)]) [] S := by
  unfold q104_room
  refine g2_aload qk104_0.1.1.1.1 rfl ?_
  refine g2_kn hK1 (g2_getI qk104_0.1.1.1.2 hW ⟨by decide, by decide, by decide, rfl⟩ (fun r1 x2 => ?_))
  refine g2_ifeq qk104_0.1.1.2.1 x2 (fun c3 => ?_) (fun c4 => ?_)
  · refine g2_int qk104_0.1.1.2.2 (0 : Int) rfl ?_
    refine g2_aload qk104_0.1.2.1.1 rfl ?_
    refine g2_kn hK1 (g2_getI qk104_0.1.2.1.2 hW ⟨by decide, by decide, by decide, rfl⟩ (fun r5 x6 => ?_))
    refine g2_aload qk104_0.1.2.2.1 rfl ?_
    refine g2_aload qk104_0.1.2.2.2 rfl ?_
    refine g2_int qk104_0.2.1.1.1 (0 : Int) rfl ?_
    refine g2_kn hK0 (g2_callV (t' := 2) qk104_0.2.1.1.2 (by decide) (ql_ip103 hQ) (by decide) rfl rfl rfl (by omega) hW (tq103_children hQ (by omega) hW hK0 h0 h1 (inR_b (Or.inl rfl))) (fun y7 S8 x9 m10 e11 => ?_))
    refine g2_ck (fun q12 => ?_)
    refine g2_kn q12 (g2_callF (t' := 1) qk104_0.2.1.2.1 (by decide) (ql_ip134 hQ) rfl rfl rfl (by omega) m10 (tq134_size hQ (by omega) m10 q12 x9) (fun y13 S14 x15 m16 e17 => ?_))
    refine g2_isub qk104_0.2.1.2.2 ?_
    refine g2_callS (t' := 1) qk104_0.2.2.1.1 (by decide) (ql_ip121 hQ) rfl rfl rfl rfl (by omega) (tq121_max hQ (by omega) m16 (inR_b (Or.inl rfl)) (inR_w32 _)) (fun y18 S19 x20 m21 e22 => ?_)
    refine g2_goto qk104_0.2.2.1.2 ?_
    exact g2_iret qk104_0.2.2.2.2 m21 x20
  · refine g2_int qk104_0.2.2.2.1 (0 : Int) rfl ?_
    exact g2_iret qk104_0.2.2.2.2 hW (inR_b (Or.inl rfl))
noncomputable def q114_init (S : sS) (v0 : Int) (v1 : Int) (v2 : Int) (v3 : Int) (v4 : Int) (v5 : Int) : Option (Int × sS) :=
  bnd (uS S v0 8 (-1 : Int)) (fun S1 => if sn S1 < 1000000 ∧ 0 ≤ (8 : Int) ∧ (8 : Int) ≤ 65536 then bnd (sn S1) (fun p4 => bnd (nS S1 27 (8 : Int)) (fun S5 => bnd (uS S5 v0 12 p4) (fun S11 => bnd (uS S11 v0 0 v1) (fun S14 => bnd (uS S14 v0 2 v2) (fun S17 => bnd (uS S17 v0 5 v3) (fun S20 => bnd (uS S20 v0 1 v4) (fun S23 => bnd (uS S23 v0 6 v5) (fun S26 => some (0, S26))))))))) else none)
theorem tq114_init {κ : CX} (hQ : κ.2.2.2.2.2.2.2.2.2 = (ql_I, ql_P)) {n0 s0 : Int} {d : Nat} (hd : 1 ≤ d) {S : sS} (hW : WF2 κ S) {v0 v1 v2 v3 v4 v5 : Int} (hK0 : sK S v0 = 7) (h0 : RfO v0) (h1 : InR v1) (h2 : RfO v2) (h3 : InR v3) (h4 : InR v4) (h5 : InR v5) : G2 κ ql_i114 ql_m114 0 d n0 s0 (q114_init S v0 v1 v2 v3 v4 v5) 0 (ev_loc ql_m114.1 [(sR v0), (sI v1), (sR v2), (sI v3), (sI v4), (sI v5)]) [] S := by
  unfold q114_init
  refine g2_aload qk114_0.1.1.1.1.1 rfl ?_
  refine g2_objinit qk114_0.1.1.1.1.2 rfl (kn_pos hW.2.1 hK0 (by decide)) ?_
  refine g2_aload qk114_0.1.1.1.2.1 rfl ?_
  refine g2_int qk114_0.1.1.1.2.2 (-1 : Int) rfl ?_
  refine g2_kn ⟨hK0, h0.2⟩ (g2_putI qk114_0.1.1.2.1.1 hW ⟨by decide, by decide, rfl⟩ (inR_of (by decide)) (fun S1 m2 e3 => ?_))
  refine g2_aload qk114_0.1.1.2.1.2 rfl ?_
  refine g2_int qk114_0.1.1.2.2 (8 : Int) rfl ?_
  refine g2_ck (fun q10 => ?_)
  refine g2_kn q10 (g2_newa qk114_0.1.2.1.1.1 m2 ⟨by decide, rfl⟩ (fun p4 S5 x6 k7 m8 e9 => ?_))
  refine g2_kn ⟨(ek e9 (ek e3 hK0 (by decide)) (by decide)), h0.2⟩ (g2_putR qk114_0.1.2.1.1.2 m8 ⟨by decide, by decide, rfl⟩ (rfO_of x6) (fun S11 m12 e13 => ?_))
  refine g2_aload qk114_0.1.2.1.2 rfl ?_
  refine g2_iload qk114_0.1.2.2.1.1 rfl ?_
  refine g2_kn ⟨(ek e13 (ek e9 (ek e3 hK0 (by decide)) (by decide)) (by decide)), h0.2⟩ (g2_putI qk114_0.1.2.2.1.2 m12 ⟨by decide, by decide, rfl⟩ h1 (fun S14 m15 e16 => ?_))
  refine g2_aload qk114_0.1.2.2.2 rfl ?_
  refine g2_aload qk114_0.2.1.1.1.1 rfl ?_
  refine g2_kn ⟨(ek e16 (ek e13 (ek e9 (ek e3 hK0 (by decide)) (by decide)) (by decide)) (by decide)), h0.2⟩ (g2_putR qk114_0.2.1.1.1.2 m15 ⟨by decide, by decide, rfl⟩ h2 (fun S17 m18 e19 => ?_))
  refine g2_aload qk114_0.2.1.1.2 rfl ?_
  refine g2_iload qk114_0.2.1.2.1.1 rfl ?_
  refine g2_kn ⟨(ek e19 (ek e16 (ek e13 (ek e9 (ek e3 hK0 (by decide)) (by decide)) (by decide)) (by decide)) (by decide)), h0.2⟩ (g2_putI qk114_0.2.1.2.1.2 m18 ⟨by decide, by decide, rfl⟩ h3 (fun S20 m21 e22 => ?_))
  refine g2_aload qk114_0.2.1.2.2 rfl ?_
  refine g2_iload qk114_0.2.2.1.1.1 rfl ?_
  refine g2_kn ⟨(ek e22 (ek e19 (ek e16 (ek e13 (ek e9 (ek e3 hK0 (by decide)) (by decide)) (by decide)) (by decide)) (by decide)) (by decide)), h0.2⟩ (g2_putI qk114_0.2.2.1.1.2 m21 ⟨by decide, by decide, rfl⟩ h4 (fun S23 m24 e25 => ?_))
  refine g2_aload qk114_0.2.2.1.2 rfl ?_
  refine g2_iload qk114_0.2.2.2.1.1 rfl ?_
  refine g2_kn ⟨(ek e25 (ek e22 (ek e19 (ek e16 (ek e13 (ek e9 (ek e3 hK0 (by decide)) (by decide)) (by decide)) (by decide)) (by decide)) (by decide)) (by decide)), h0.2⟩ (g2_putI qk114_0.2.2.2.1.2 m24 ⟨by decide, by decide, rfl⟩ h5 (fun S26 m27 e28 => ?_))
  exact g2_vret qk114_0.2.2.2.2 m27
noncomputable def q131_checkIndex (S : sS) (v0 : Int) (v1 : Int) : Option (Int × sS) :=
  bdS (q130_checkIndex S v0 v1) (fun y1 S2 => some (y1, S2))
theorem tq131_checkIndex {κ : CX} (hQ : κ.2.2.2.2.2.2.2.2.2 = (ql_I, ql_P)) {n0 s0 : Int} {d : Nat} (hd : 2 ≤ d) {S : sS} (hW : WF2 κ S) {v0 v1 : Int}  (h0 : InR v0) (h1 : InR v1) : G2 κ ql_i131 ql_m131 1 d n0 s0 (q131_checkIndex S v0 v1) 0 (ev_loc ql_m131.1 [(sI v0), (sI v1)]) [] S := by
  unfold q131_checkIndex
  refine g2_iload qk131_0.1.1.1 rfl ?_
  refine g2_iload qk131_0.1.1.2 rfl ?_
  refine g2_null qk131_0.1.2 ?_
  refine g2_callS (t' := 1) qk131_0.2.1 (by decide) (ql_ip130 hQ) rfl rfl rfl rfl (by omega) (tq130_checkIndex hQ (by omega) hW h0 h1 (rfA_of rfO_null)) (fun y1 S2 x3 m4 e5 => ?_)
  exact g2_iret qk131_0.2.2 m4 x3
noncomputable def q132_elementData (S : sS) (v0 : Int) (v1 : Int) : Option (Int × sS) :=
  bnd (sg S v0 1) (fun r1 => if sK S r1 = 26 then if 0 ≤ v1 ∧ v1 < sZ S r1 then bnd (sg S r1 v1) (fun r5 => some (r5, S)) else none else none)
theorem tq132_elementData {κ : CX} (hQ : κ.2.2.2.2.2.2.2.2.2 = (ql_I, ql_P)) {n0 s0 : Int} {d : Nat} (hd : 1 ≤ d) {S : sS} (hW : WF2 κ S) {v0 v1 : Int} (hK0 : sK S v0 = 9) (h0 : RfO v0) (h1 : InR v1) : G2 κ ql_i132 ql_m132 2 d n0 s0 (q132_elementData S v0 v1) 0 (ev_loc ql_m132.1 [(sR v0), (sI v1)]) [] S := by
  unfold q132_elementData
  refine g2_aload qk132_0.1.1.1 rfl ?_
  refine g2_kn hK0 (g2_getA qk132_0.1.1.2 hW ⟨by decide, by decide, by decide, rfl⟩ (fun r1 x2 => ?_))
  refine g2_iload qk132_0.1.2 rfl ?_
  refine g2_ck (fun q3 => ?_)
  refine g2_ck (fun q4 => ?_)
  refine g2_kn ⟨Or.inl q3, q4⟩ (g2_aald qk132_0.2.1 hW (fun r5 x6 => ?_))
  exact g2_aret qk132_0.2.2 hW x6
noncomputable def q133_get (S : sS) (v0 : Int) (v1 : Int) : Option (Int × sS) :=
  bnd (sg S v0 2) (fun r1 => bdS (q131_checkIndex S v1 r1) (fun y3 S4 => bdS (q132_elementData S4 v0 v1) (fun y8 S9 => some (y8, S9))))
theorem tq133_get {κ : CX} (hQ : κ.2.2.2.2.2.2.2.2.2 = (ql_I, ql_P)) {n0 s0 : Int} {d : Nat} (hd : 3 ≤ d) {S : sS} (hW : WF2 κ S) {v0 v1 : Int} (hK0 : sK S v0 = 9) (h0 : RfO v0) (h1 : InR v1) : G2 κ ql_i133 ql_m133 2 d n0 s0 (q133_get S v0 v1) 0 (ev_loc ql_m133.1 [(sR v0), (sI v1)]) [] S := by
  unfold q133_get
  refine g2_iload qk133_0.1.1.1.1 rfl ?_
  refine g2_aload qk133_0.1.1.1.2 rfl ?_
  refine g2_kn hK0 (g2_getI qk133_0.1.1.2 hW ⟨by decide, by decide, by decide, rfl⟩ (fun r1 x2 => ?_))
  refine g2_callS (t' := 1) qk133_0.1.2.1 (by decide) (ql_ip131 hQ) rfl rfl rfl rfl (by omega) (tq131_checkIndex hQ (by omega) hW h1 x2) (fun y3 S4 x5 m6 e7 => ?_)
  refine g2_popI qk133_0.1.2.2 ?_
  refine g2_aload qk133_0.2.1.1 rfl ?_
  refine g2_iload qk133_0.2.1.2 rfl ?_
  refine g2_kn (ek e7 hK0 (by decide)) (g2_callV (t' := 2) qk133_0.2.2.1 (by decide) (ql_ip132 hQ) (by decide) rfl rfl rfl (by omega) m6 (tq132_elementData hQ (by omega) m6 (ek e7 hK0 (by decide)) h0 h1) (fun y8 S9 x10 m11 e12 => ?_))
  exact g2_aret qk133_0.2.2.2 m11 x10
