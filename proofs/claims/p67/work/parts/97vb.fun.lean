/-! ===== the law's and the JDK's methods as functions, and that the machine comes to what they tell (own work, by program: wip/p67/gen/lawdec.py) ===== -/
noncomputable def q114_init (S : sS) (v0 : Int) (v1 : Int) (v2 : Int) (v3 : Int) (v4 : Int) (v5 : Int) : Option (Int × sS) :=
  bnd (uS S v0 8 (-1)) (fun S1 => if sn S1 < 1000000 ∧ 0 ≤ 8 ∧ 8 ≤ 65536 then bnd (sn S1) (fun p4 => bnd (nS S1 27 8) (fun S5 => bnd (uS S5 v0 12 p4) (fun S11 => bnd (uS S11 v0 0 v1) (fun S14 => bnd (uS S14 v0 2 v2) (fun S17 => bnd (uS S17 v0 5 v3) (fun S20 => bnd (uS S20 v0 1 v4) (fun S23 => bnd (uS S23 v0 6 v5) (fun S26 => some (0, S26))))))))) else none)
theorem tq114_init {κ : CX} (hQ : κ.2.2.2.2.2.2.2.2.2 = (ql_I, ql_P)) {n0 s0 : Int} {d : Nat} (hd : 1 ≤ d) {S : sS} (hW : WF2 κ S) {v0 v1 v2 v3 v4 v5 : Int} (hK0 : sK S v0 = 7) (h0 : RfO v0) (h1 : InR v1) (h2 : RfO v2) (h3 : InR v3) (h4 : InR v4) (h5 : InR v5) : G2 κ ql_i114 ql_m114 0 d n0 s0 (q114_init S v0 v1 v2 v3 v4 v5) 0 (ev_loc ql_m114.1 [(sR v0), (sI v1), (sR v2), (sI v3), (sI v4), (sI v5)]) [] S := by
  unfold q114_init
  refine g2_aload qk114_0.1.1.1.1.1 rfl ?_
  refine g2_objinit qk114_0.1.1.1.1.2 rfl (kn_pos hW.2.1 hK0 (by decide)) ?_
  refine g2_aload qk114_0.1.1.1.2.1 rfl ?_
  refine g2_int qk114_0.1.1.1.2.2 (-1) rfl ?_
  refine g2_kn ⟨hK0, h0.2⟩ (g2_putI qk114_0.1.1.2.1.1 hW ⟨by decide, by decide, rfl⟩ (inR_of (by decide)) (fun S1 w2 e3 => ?_))
  refine g2_aload qk114_0.1.1.2.1.2 rfl ?_
  refine g2_int qk114_0.1.1.2.2 8 rfl ?_
  refine g2_ck (fun q10 => ?_)
  refine g2_kn q10 (g2_newa qk114_0.1.2.1.1.1 w2 ⟨by decide, rfl⟩ (fun p4 S5 h6 k7 w8 e9 => ?_))
  refine g2_kn ⟨(ek e9 (ek e3 hK0 (by decide)) (by decide)), h0.2⟩ (g2_putR qk114_0.1.2.1.1.2 w8 ⟨by decide, by decide, rfl⟩ (rfO_of h6) (fun S11 w12 e13 => ?_))
  refine g2_aload qk114_0.1.2.1.2 rfl ?_
  refine g2_iload qk114_0.1.2.2.1.1 rfl ?_
  refine g2_kn ⟨(ek e13 (ek e9 (ek e3 hK0 (by decide)) (by decide)) (by decide)), h0.2⟩ (g2_putI qk114_0.1.2.2.1.2 w12 ⟨by decide, by decide, rfl⟩ h1 (fun S14 w15 e16 => ?_))
  refine g2_aload qk114_0.1.2.2.2 rfl ?_
  refine g2_aload qk114_0.2.1.1.1.1 rfl ?_
  refine g2_kn ⟨(ek e16 (ek e13 (ek e9 (ek e3 hK0 (by decide)) (by decide)) (by decide)) (by decide)), h0.2⟩ (g2_putR qk114_0.2.1.1.1.2 w15 ⟨by decide, by decide, rfl⟩ h2 (fun S17 w18 e19 => ?_))
  refine g2_aload qk114_0.2.1.1.2 rfl ?_
  refine g2_iload qk114_0.2.1.2.1.1 rfl ?_
  refine g2_kn ⟨(ek e19 (ek e16 (ek e13 (ek e9 (ek e3 hK0 (by decide)) (by decide)) (by decide)) (by decide)) (by decide)), h0.2⟩ (g2_putI qk114_0.2.1.2.1.2 w18 ⟨by decide, by decide, rfl⟩ h3 (fun S20 w21 e22 => ?_))
  refine g2_aload qk114_0.2.1.2.2 rfl ?_
  refine g2_iload qk114_0.2.2.1.1.1 rfl ?_
  refine g2_kn ⟨(ek e22 (ek e19 (ek e16 (ek e13 (ek e9 (ek e3 hK0 (by decide)) (by decide)) (by decide)) (by decide)) (by decide)) (by decide)), h0.2⟩ (g2_putI qk114_0.2.2.1.1.2 w21 ⟨by decide, by decide, rfl⟩ h4 (fun S23 w24 e25 => ?_))
  refine g2_aload qk114_0.2.2.1.2 rfl ?_
  refine g2_iload qk114_0.2.2.2.1.1 rfl ?_
  refine g2_kn ⟨(ek e25 (ek e22 (ek e19 (ek e16 (ek e13 (ek e9 (ek e3 hK0 (by decide)) (by decide)) (by decide)) (by decide)) (by decide)) (by decide)) (by decide)), h0.2⟩ (g2_putI qk114_0.2.2.2.1.2 w24 ⟨by decide, by decide, rfl⟩ h5 (fun S26 w27 e28 => ?_))
  exact g2_vret qk114_0.2.2.2.2 w27
noncomputable def q131_checkIndex (S : sS) (v0 : Int) (v1 : Int) : Option (Int × sS) :=
  bdS (q130_checkIndex S v0 v1) (fun y1 S2 => some (y1, S2))
theorem tq131_checkIndex {κ : CX} (hQ : κ.2.2.2.2.2.2.2.2.2 = (ql_I, ql_P)) {n0 s0 : Int} {d : Nat} (hd : 2 ≤ d) {S : sS} (hW : WF2 κ S) {v0 v1 : Int}  (h0 : InR v0) (h1 : InR v1) : G2 κ ql_i131 ql_m131 1 d n0 s0 (q131_checkIndex S v0 v1) 0 (ev_loc ql_m131.1 [(sI v0), (sI v1)]) [] S := by
  unfold q131_checkIndex
  refine g2_iload qk131_0.1.1.1 rfl ?_
  refine g2_iload qk131_0.1.1.2 rfl ?_
  refine g2_null qk131_0.1.2 ?_
  refine g2_callS (t' := 1) qk131_0.2.1 (by decide) (ql_ip130 hQ) rfl rfl rfl rfl (by omega) (tq130_checkIndex hQ (by omega) hW h0 h1 (rfA_of rfO_null)) (fun y1 S2 h3 w4 e5 => ?_)
  exact g2_iret qk131_0.2.2 w4 h3
noncomputable def q132_elementData (S : sS) (v0 : Int) (v1 : Int) : Option (Int × sS) :=
  bnd (sg S v0 1) (fun r1 => if sK S r1 = 26 then if 0 ≤ v1 ∧ v1 < sZ S r1 then bnd (sg S r1 v1) (fun r5 => some (r5, S)) else none else none)
theorem tq132_elementData {κ : CX} (hQ : κ.2.2.2.2.2.2.2.2.2 = (ql_I, ql_P)) {n0 s0 : Int} {d : Nat} (hd : 1 ≤ d) {S : sS} (hW : WF2 κ S) {v0 v1 : Int} (hK0 : sK S v0 = 9) (h0 : RfO v0) (h1 : InR v1) : G2 κ ql_i132 ql_m132 2 d n0 s0 (q132_elementData S v0 v1) 0 (ev_loc ql_m132.1 [(sR v0), (sI v1)]) [] S := by
  unfold q132_elementData
  refine g2_aload qk132_0.1.1.1 rfl ?_
  refine g2_kn hK0 (g2_getA qk132_0.1.1.2 hW ⟨by decide, by decide, by decide, rfl⟩ (fun r1 h2 => ?_))
  refine g2_iload qk132_0.1.2 rfl ?_
  refine g2_ck (fun q3 => ?_)
  refine g2_ck (fun q4 => ?_)
  refine g2_kn ⟨Or.inl q3, q4⟩ (g2_aald qk132_0.2.1 hW (fun r5 h6 => ?_))
  exact g2_aret qk132_0.2.2 hW h6
noncomputable def q133_get (S : sS) (v0 : Int) (v1 : Int) : Option (Int × sS) :=
  bnd (sg S v0 2) (fun r1 => bdS (q131_checkIndex S v1 r1) (fun y3 S4 => bdS (q132_elementData S4 v0 v1) (fun y8 S9 => some (y8, S9))))
theorem tq133_get {κ : CX} (hQ : κ.2.2.2.2.2.2.2.2.2 = (ql_I, ql_P)) {n0 s0 : Int} {d : Nat} (hd : 3 ≤ d) {S : sS} (hW : WF2 κ S) {v0 v1 : Int} (hK0 : sK S v0 = 9) (h0 : RfO v0) (h1 : InR v1) : G2 κ ql_i133 ql_m133 2 d n0 s0 (q133_get S v0 v1) 0 (ev_loc ql_m133.1 [(sR v0), (sI v1)]) [] S := by
  unfold q133_get
  refine g2_iload qk133_0.1.1.1.1 rfl ?_
  refine g2_aload qk133_0.1.1.1.2 rfl ?_
  refine g2_kn hK0 (g2_getI qk133_0.1.1.2 hW ⟨by decide, by decide, by decide, rfl⟩ (fun r1 h2 => ?_))
  refine g2_callS (t' := 1) qk133_0.1.2.1 (by decide) (ql_ip131 hQ) rfl rfl rfl rfl (by omega) (tq131_checkIndex hQ (by omega) hW h1 h2) (fun y3 S4 h5 w6 e7 => ?_)
  refine g2_popI qk133_0.1.2.2 ?_
  refine g2_aload qk133_0.2.1.1 rfl ?_
  refine g2_iload qk133_0.2.1.2 rfl ?_
  refine g2_kn (ek e7 hK0 (by decide)) (g2_callV (t' := 2) qk133_0.2.2.1 (by decide) (ql_ip132 hQ) (by decide) rfl rfl rfl (by omega) w6 (tq132_elementData hQ (by omega) w6 (ek e7 hK0 (by decide)) h0 h1) (fun y8 S9 h10 w11 e12 => ?_))
  exact g2_aret qk133_0.2.2.2 w11 h10
