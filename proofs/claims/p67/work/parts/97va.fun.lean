/-! ===== the law's and the JDK's methods as functions, and that the machine comes to what they tell (own work, by program: wip/p67/gen/lawdec.py) ===== -/
noncomputable def q98_cell (S : sS) (v0 : Int) (v1 : Int) : Option (Int × sS) :=
  if sK S v0 = 20 then bnd (sZ S v0) (fun r2 => if v1 < r2 then (if 0 ≤ v1 ∧ v1 < sZ S v0 then bnd (sg S v0 v1) (fun r7 => some (r7, S)) else none) else (some ((w32 ((opI 0 (113 : Int) v1) + (67 : Int))), S))) else none
theorem tq98_cell {κ : CX} (hQ : κ.2.2.2.2.2.2.2.2.2 = (ql_I, ql_P)) {n0 s0 : Int} {d : Nat} (hd : 1 ≤ d) {S : sS} (hW : WF2 κ S) {v0 v1 : Int}  (h0 : RfA v0) (h1 : InR v1) : G2 κ ql_i98 ql_m98 1 d n0 s0 (q98_cell S v0 v1) 0 (ev_loc ql_m98.1 [(sR v0), (sI v1)]) [] S := by
  unfold q98_cell
  refine g2_iload qk98_0.1.1.1.1 rfl ?_
  refine g2_aload qk98_0.1.1.1.2 rfl ?_
  refine g2_ck (fun q1 => ?_)
  refine g2_kn (ka2 q1 (by decide)) (g2_alen qk98_0.1.1.2.1 hW (fun r2 x3 => ?_))
  refine g2_cmlt qk98_0.1.1.2.2 h1 x3 (fun c4 => ?_) (fun c5 => ?_)
  · refine g2_aload qk98_0.1.2.1.1 rfl ?_
    refine g2_iload qk98_0.1.2.1.2 rfl ?_
    refine g2_ck (fun q6 => ?_)
    refine g2_kn ⟨q1, q6⟩ (g2_iald qk98_0.1.2.2 hW (fun r7 x8 => ?_))
    refine g2_goto qk98_0.2.1.1.1 ?_
    exact g2_iret qk98_0.2.2.2 hW x8
  · refine g2_int qk98_0.2.1.1.2 (113 : Int) rfl ?_
    refine g2_iload qk98_0.2.1.2.1 rfl ?_
    refine g2_ibin qk98_0.2.1.2.2 ?_
    refine g2_int qk98_0.2.2.1.1 (67 : Int) rfl ?_
    refine g2_iadd qk98_0.2.2.1.2 ?_
    exact g2_iret qk98_0.2.2.2 hW (inR_w32 _)
noncomputable def q140_coder (S : sS) (v0 : Int) : Option (Int × sS) :=
  if (1 : Int) = 0 then (if -128 ≤ (1 : Int) ∧ (1 : Int) < 128 then some ((1 : Int), S) else none) else (bnd (sg S v0 1) (fun r3 => if -128 ≤ r3 ∧ r3 < 128 then some (r3, S) else none))
theorem tq140_coder {κ : CX} (hQ : κ.2.2.2.2.2.2.2.2.2 = (ql_I, ql_P)) {n0 s0 : Int} {d : Nat} (hd : 1 ≤ d) {S : sS} (hW : WF2 κ S) {v0 : Int} (hK0 : sK S v0 = 12) (h0 : RfA v0) : G2 κ ql_i140 ql_m140 1 d n0 s0 (q140_coder S v0) 0 (ev_loc ql_m140.1 [(sR v0)]) [] S := by
  unfold q140_coder
  refine g2_gets0 qk140_0.1.1.1 ?_
  refine g2_ifeq qk140_0.1.1.2 (inR_b (Or.inr rfl)) (fun c1 => ?_) (fun c2 => ?_)
  · refine g2_int qk140_0.2.1.2 (1 : Int) rfl ?_
    exact g2_bret qk140_0.2.2 hW
  · refine g2_aload qk140_0.1.2.1 rfl ?_
    refine g2_kn hK0 (g2_getI qk140_0.1.2.2 hW ⟨by decide, by decide, by decide, rfl⟩ (fun r3 x4 => ?_))
    refine g2_goto qk140_0.2.1.1 ?_
    exact g2_bret qk140_0.2.2 hW
noncomputable def q141_length (S : sS) (v0 : Int) : Option (Int × sS) :=
  bnd (sg S v0 0) (fun r1 => if sK S r1 = 21 then bnd (sZ S r1) (fun r4 => bdS (q140_coder S v0) (fun y6 S7 => some ((opI 5 r4 y6), S7))) else none)
theorem tq141_length {κ : CX} (hQ : κ.2.2.2.2.2.2.2.2.2 = (ql_I, ql_P)) {n0 s0 : Int} {d : Nat} (hd : 2 ≤ d) {S : sS} (hW : WF2 κ S) {v0 : Int} (hK0 : sK S v0 = 12) (h0 : RfA v0) : G2 κ ql_i141 ql_m141 1 d n0 s0 (q141_length S v0) 0 (ev_loc ql_m141.1 [(sR v0)]) [] S := by
  unfold q141_length
  refine g2_aload qk141_0.1.1.1 rfl ?_
  refine g2_kn hK0 (g2_getA qk141_0.1.1.2 hW ⟨by decide, by decide, by decide, rfl⟩ (fun r1 x2 => ?_))
  refine g2_ck (fun q3 => ?_)
  refine g2_kn (ka2 q3 (by decide)) (g2_alen qk141_0.1.2.1 hW (fun r4 x5 => ?_))
  refine g2_aload qk141_0.1.2.2 rfl ?_
  refine g2_kn hK0 (g2_callV (t' := 1) qk141_0.2.1.1 (by decide) (ql_ip140 hQ) (by decide) rfl rfl rfl (by omega) hW (tq140_coder hQ (by omega) hW hK0 h0) (fun y6 S7 x8 m9 e10 => ?_))
  refine g2_ibin qk141_0.2.1.2 ?_
  exact g2_iret qk141_0.2.2 m9 (inR_opI _ _ _)
noncomputable def q142_isLatin1 (S : sS) (v0 : Int) : Option (Int × sS) :=
  if (1 : Int) = 0 then (some ((0 : Int), S)) else (bnd (sg S v0 1) (fun r3 => if r3 = 0 then (some ((1 : Int), S)) else (some ((0 : Int), S))))
theorem tq142_isLatin1 {κ : CX} (hQ : κ.2.2.2.2.2.2.2.2.2 = (ql_I, ql_P)) {n0 s0 : Int} {d : Nat} (hd : 1 ≤ d) {S : sS} (hW : WF2 κ S) {v0 : Int} (hK0 : sK S v0 = 12) (h0 : RfA v0) : G2 κ ql_i142 ql_m142 3 d n0 s0 (q142_isLatin1 S v0) 0 (ev_loc ql_m142.1 [(sR v0)]) [] S := by
  unfold q142_isLatin1
  refine g2_gets0 qk142_0.1.1.1.1 ?_
  refine g2_ifeq qk142_0.1.1.1.2 (inR_b (Or.inr rfl)) (fun c1 => ?_) (fun c2 => ?_)
  · refine g2_int qk142_0.2.2.1 (0 : Int) rfl ?_
    exact g2_zret qk142_0.2.2.2 hW (Or.inl rfl)
  · refine g2_aload qk142_0.1.1.2 rfl ?_
    refine g2_kn hK0 (g2_getI qk142_0.1.2.1 hW ⟨by decide, by decide, by decide, rfl⟩ (fun r3 x4 => ?_))
    refine g2_ifeq qk142_0.1.2.2 x4 (fun c5 => ?_) (fun c6 => ?_)
    · refine g2_int qk142_0.2.1.1 (1 : Int) rfl ?_
      refine g2_goto qk142_0.2.1.2 ?_
      exact g2_zret qk142_0.2.2.2 hW (Or.inr rfl)
    · refine g2_int qk142_0.2.2.1 (0 : Int) rfl ?_
      exact g2_zret qk142_0.2.2.2 hW (Or.inl rfl)
noncomputable def q130_checkIndex (S : sS) (v0 : Int) (v1 : Int) : Option (Int × sS) :=
  if v0 < 0 then (none) else (if v0 < v1 then (some (v0, S)) else (none))
theorem tq130_checkIndex {κ : CX} (hQ : κ.2.2.2.2.2.2.2.2.2 = (ql_I, ql_P)) {n0 s0 : Int} {d : Nat} (hd : 1 ≤ d) {S : sS} (hW : WF2 κ S) {v0 v1 v2 : Int}  (h0 : InR v0) (h1 : InR v1) (h2 : RfA v2) : G2 κ ql_i130 ql_m130 1 d n0 s0 (q130_checkIndex S v0 v1) 0 (ev_loc ql_m130.1 [(sI v0), (sI v1), (sR v2)]) [] S := by
  unfold q130_checkIndex
  refine g2_iload qk130_0.1.1.1.1 rfl ?_
  refine g2_iflt qk130_0.1.1.1.2 h0 (fun c1 => ?_) (fun c2 => ?_)
  · refine g2_aload qk130_0.2.1.1.1 rfl ?_
    refine g2_iload qk130_0.2.1.1.2 rfl ?_
    refine g2_iload qk130_0.2.1.2 rfl ?_
    exact g2_none
  · refine g2_iload qk130_0.1.1.2 rfl ?_
    refine g2_iload qk130_0.1.2.1 rfl ?_
    refine g2_cmlt qk130_0.1.2.2 h0 h1 (fun c3 => ?_) (fun c4 => ?_)
    · refine g2_iload qk130_0.2.2.1 rfl ?_
      exact g2_iret qk130_0.2.2.2 hW h0
    · refine g2_aload qk130_0.2.1.1.1 rfl ?_
      refine g2_iload qk130_0.2.1.1.2 rfl ?_
      refine g2_iload qk130_0.2.1.2 rfl ?_
      exact g2_none
noncomputable def q143_checkIndex (S : sS) (v0 : Int) (v1 : Int) : Option (Int × sS) :=
  bdS (q130_checkIndex S v0 v1) (fun y3 S4 => some (0, S4))
theorem tq143_checkIndex {κ : CX} (hQ : κ.2.2.2.2.2.2.2.2.2 = (ql_I, ql_P)) {n0 s0 : Int} {d : Nat} (hd : 2 ≤ d) {S : sS} (hW : WF2 κ S) {v0 v1 : Int}  (h0 : InR v0) (h1 : InR v1) : G2 κ ql_i143 ql_m143 0 d n0 s0 (q143_checkIndex S v0 v1) 0 (ev_loc ql_m143.1 [(sI v0), (sI v1)]) [] S := by
  unfold q143_checkIndex
  refine g2_iload qk143_0.1.1.1 rfl ?_
  refine g2_iload qk143_0.1.1.2 rfl ?_
  refine g2_gets4 qk143_0.1.2 (fun f1 x2 => ?_)
  refine g2_callS (t' := 1) qk143_0.2.1.1 (by decide) (ql_ip130 hQ) rfl rfl rfl rfl (by omega) (tq130_checkIndex hQ (by omega) hW h0 h1 x2) (fun y3 S4 x5 m6 e7 => ?_)
  refine g2_popI qk143_0.2.1.2 ?_
  exact g2_vret qk143_0.2.2 m6
noncomputable def q144_charAt (S : sS) (v0 : Int) (v1 : Int) : Option (Int × sS) :=
  if sK S v0 = 21 then bnd (sZ S v0) (fun r2 => bdS (q143_checkIndex S v1 r2) (fun y4 S5 => if 0 ≤ v1 ∧ v1 < sZ S5 v0 then bnd (sg S5 v0 v1) (fun r10 => if 0 ≤ ((opI 1 r10 (255 : Int)) % 65536) ∧ ((opI 1 r10 (255 : Int)) % 65536) < 256 then some (((opI 1 r10 (255 : Int)) % 65536), S5) else none) else none)) else none
theorem tq144_charAt {κ : CX} (hQ : κ.2.2.2.2.2.2.2.2.2 = (ql_I, ql_P)) {n0 s0 : Int} {d : Nat} (hd : 3 ≤ d) {S : sS} (hW : WF2 κ S) {v0 v1 : Int}  (h0 : RfA v0) (h1 : InR v1) : G2 κ ql_i144 ql_m144 1 d n0 s0 (q144_charAt S v0 v1) 0 (ev_loc ql_m144.1 [(sR v0), (sI v1)]) [] S := by
  unfold q144_charAt
  refine g2_iload qk144_0.1.1.1.1 rfl ?_
  refine g2_aload qk144_0.1.1.1.2 rfl ?_
  refine g2_ck (fun q1 => ?_)
  refine g2_kn (ka2 q1 (by decide)) (g2_alen qk144_0.1.1.2 hW (fun r2 x3 => ?_))
  refine g2_callS (t' := 0) qk144_0.1.2.1.1 (by decide) (ql_ip143 hQ) rfl rfl rfl rfl (by omega) (tq143_checkIndex hQ (by omega) hW h1 x3) (fun y4 S5 x6 m7 e8 => ?_)
  refine g2_aload qk144_0.1.2.1.2 rfl ?_
  refine g2_iload qk144_0.1.2.2 rfl ?_
  refine g2_ck (fun q9 => ?_)
  refine g2_kn ⟨(ek e8 q1 (by decide)), q9⟩ (g2_bald qk144_0.2.1.1.1 m7 (fun r10 x11 => ?_))
  refine g2_int qk144_0.2.1.1.2 (255 : Int) rfl ?_
  refine g2_ibin qk144_0.2.1.2 ?_
  refine g2_i2c qk144_0.2.2.1 ?_
  exact g2_cret qk144_0.2.2.2 m7
noncomputable def q145_charAt (S : sS) (v0 : Int) (v1 : Int) : Option (Int × sS) :=
  bdS (q142_isLatin1 S v0) (fun y1 S2 => if y1 = 0 then (bnd (sg S2 v0 0) (fun r8 => none)) else (bnd (sg S2 v0 0) (fun r10 => bdS (q144_charAt S2 r10 v1) (fun y12 S13 => if 0 ≤ y12 ∧ y12 < 256 then some (y12, S13) else none))))
theorem tq145_charAt {κ : CX} (hQ : κ.2.2.2.2.2.2.2.2.2 = (ql_I, ql_P)) {n0 s0 : Int} {d : Nat} (hd : 4 ≤ d) {S : sS} (hW : WF2 κ S) {v0 v1 : Int} (hK0 : sK S v0 = 12) (h0 : RfA v0) (h1 : InR v1) : G2 κ ql_i145 ql_m145 1 d n0 s0 (q145_charAt S v0 v1) 0 (ev_loc ql_m145.1 [(sR v0), (sI v1)]) [] S := by
  unfold q145_charAt
  refine g2_aload qk145_0.1.1.1.1 rfl ?_
  refine g2_kn hK0 (g2_callV (t' := 3) qk145_0.1.1.1.2 (by decide) (ql_ip142 hQ) (by decide) rfl rfl rfl (by omega) hW (tq142_isLatin1 hQ (by omega) hW hK0 h0) (fun y1 S2 x3 m4 e5 => ?_))
  refine g2_ifeq qk145_0.1.1.2 (inR_b x3) (fun c6 => ?_) (fun c7 => ?_)
  · refine g2_aload qk145_0.2.1.2 rfl ?_
    refine g2_kn (ek e5 hK0 (by decide)) (g2_getA qk145_0.2.2.1 m4 ⟨by decide, by decide, by decide, rfl⟩ (fun r8 x9 => ?_))
    refine g2_iload qk145_0.2.2.2 rfl ?_
    exact g2_none
  · refine g2_aload qk145_0.1.2.1.1 rfl ?_
    refine g2_kn (ek e5 hK0 (by decide)) (g2_getA qk145_0.1.2.1.2 m4 ⟨by decide, by decide, by decide, rfl⟩ (fun r10 x11 => ?_))
    refine g2_iload qk145_0.1.2.2 rfl ?_
    refine g2_callS (t' := 1) qk145_0.2.1.1.1 (by decide) (ql_ip144 hQ) rfl rfl rfl rfl (by omega) (tq144_charAt hQ (by omega) m4 x11 h1) (fun y12 S13 x14 m15 e16 => ?_)
    exact g2_cret qk145_0.2.1.1.2 m15
noncomputable def j100_70 (X2 : Int → sS → Option (Int × sS)) (v0 : Int) (v1 : Int) (v2 : Int) (v3 : Int) (S : sS) : Option (Int × sS) :=
  if sK S v3 = 20 then if 0 ≤ (0 : Int) ∧ (0 : Int) < sZ S v3 then bnd (sg S v3 (0 : Int)) (fun r47 => if 0 ≤ (1 : Int) ∧ (1 : Int) < sZ S v3 then bnd (sg S v3 (1 : Int)) (fun r50 => if 0 ≤ (2 : Int) ∧ (2 : Int) < sZ S v3 then bnd (sg S v3 (2 : Int)) (fun r53 => if 0 ≤ (3 : Int) ∧ (3 : Int) < sZ S v3 then bnd (sg S v3 (3 : Int)) (fun r56 => if 0 ≤ (4 : Int) ∧ (4 : Int) < sZ S v3 then bnd (sg S v3 (4 : Int)) (fun r59 => if v0 = sb S ∧ 0 ≤ v0 then bdC (fN) (fC_appendInput (sc S) 0 r47 r50 r53 r56 r59) (fun y62 c63 => bnd (cS S c63) (fun S64 => X2 (w32 (v2 + (20 : Int))) S64)) else none) else none) else none) else none) else none) else none else none
theorem tj100_70 {κ : CX} (hQ : κ.2.2.2.2.2.2.2.2.2 = (ql_I, ql_P)) {n0 s0 : Int} {d : Nat} (hd : 70 ≤ d) {v0 v1 v2 v3 : Int} (h0 : RfO v0) (h1 : RfA v1) (h2 : InR v2) (h3 : RfO v3) {X2 : Int → sS → Option (Int × sS)} (HX2 : ∀ (v2 : Int) (h2 : InR v2) (S : sS) (hW : WF2 κ S) (u3 : Option ev_V) (w3 : nwo u3) (u4 : Option ev_V) (w4 : nwo u4), G2 κ ql_i100 ql_m100 0 d n0 s0 (X2 v2 S) 2 [some (sR v0), some (sR v1), some (sI v2), u3, u4] [] S) (S : sS) (hW : WF2 κ S) (u4 : Option ev_V) (w4 : nwo u4) : G2 κ ql_i100 ql_m100 0 d n0 s0 (j100_70 X2 v0 v1 v2 v3 S) 70 [some (sR v0), some (sR v1), some (sI v2), some (sR v3), u4] [] S := by
  unfold j100_70
  refine g2_aload qk100_1.1.1.2.2.2 rfl ?_
  refine g2_aload qk100_1.1.2.1.1.1 rfl ?_
  refine g2_int qk100_1.1.2.1.1.2 (0 : Int) rfl ?_
  refine g2_ck (fun q45 => ?_)
  refine g2_ck (fun q46 => ?_)
  refine g2_kn ⟨q45, q46⟩ (g2_iald qk100_1.1.2.1.2.1 hW (fun r47 x48 => ?_))
  refine g2_aload qk100_1.1.2.1.2.2 rfl ?_
  refine g2_int qk100_1.1.2.2.1.1 (1 : Int) rfl ?_
  refine g2_ck (fun q49 => ?_)
  refine g2_kn ⟨q45, q49⟩ (g2_iald qk100_1.1.2.2.1.2 hW (fun r50 x51 => ?_))
  refine g2_aload qk100_1.1.2.2.2.1 rfl ?_
  refine g2_int qk100_1.1.2.2.2.2 (2 : Int) rfl ?_
  refine g2_ck (fun q52 => ?_)
  refine g2_kn ⟨q45, q52⟩ (g2_iald qk100_1.2.1.1.1.1.1 hW (fun r53 x54 => ?_))
  refine g2_aload qk100_1.2.1.1.1.1.2 rfl ?_
  refine g2_int qk100_1.2.1.1.1.2 (3 : Int) rfl ?_
  refine g2_ck (fun q55 => ?_)
  refine g2_kn ⟨q45, q55⟩ (g2_iald qk100_1.2.1.1.2.1 hW (fun r56 x57 => ?_))
  refine g2_aload qk100_1.2.1.1.2.2 rfl ?_
  refine g2_int qk100_1.2.1.2.1.1 (4 : Int) rfl ?_
  refine g2_ck (fun q58 => ?_)
  refine g2_kn ⟨q45, q58⟩ (g2_iald qk100_1.2.1.2.1.2 hW (fun r59 x60 => ?_))
  refine g2_ck (fun q61 => ?_)
  refine g2_kn q61 (g2_callC (t' := 1) (Is := [r47, r50, r53, r56, r59]) qk100_1.2.1.2.2.1 (by decide) rfl rfl (by omega) hW (Or.inl rfl) (by decide) ⟨rfl, rfl⟩ (tfC_appendInput (by omega) hW.1.2 kd_c0 x48 x51 x54 x57 x60) (fun y62 S64 x65 m66 e67 => ?_))
  refine g2_popI qk100_1.2.1.2.2.2 ?_
  refine g2_iinc qk100_1.2.2.1.1.1 rfl rfl (20 : Int) rfl (loc2 := [some (sR v0), some (sR v1), some (sI (w32 (v2 + (20 : Int)))), some (sR v3), u4]) rfl ?_
  refine g2_goto qk100_1.2.2.1.1.2 ?_
  exact HX2 (w32 (v2 + (20 : Int))) (inR_w32 _) S64 m66 (some (sR v3)) rfl u4 w4
noncomputable def b100_17 (X2 : Int → sS → Option (Int × sS)) (v0 : Int) (v1 : Int) (v2 : Int) (v3 : Int) (X17 : Int → sS → Option (Int × sS)) (v4 : Int) (S : sS) : Option (Int × sS) :=
  if v4 < (20 : Int) then (if (1 : Int) ≤ (4 : Int) ∧ (4 : Int) < (2147483648 : Int) ∧ (0 : Int) ≤ v4 ∧ v4 < 2147483648 then if (1 : Int) ≤ (4 : Int) ∧ (4 : Int) < (2147483648 : Int) ∧ (0 : Int) ≤ v4 ∧ v4 < 2147483648 then if sK S v3 = 20 then if 0 ≤ (v4 / (4 : Int)) ∧ (v4 / (4 : Int)) < sZ S v3 then bnd (sg S v3 (v4 / (4 : Int))) (fun r22 => if sK S v1 = 12 then bdS (q141_length S v1) (fun y25 S26 => if (w32 (v2 + v4)) < y25 then (bdS (q145_charAt S26 v1 (w32 (v2 + v4))) (fun y32 S33 => if 0 ≤ (v4 / (4 : Int)) ∧ (v4 / (4 : Int)) < sZ S33 v3 then bnd (uS S33 v3 (v4 / (4 : Int)) (opI 2 (opI 4 r22 (8 : Int)) y32)) (fun S38 => X17 (w32 (v4 + (1 : Int))) S38) else none)) else (if 0 ≤ (v4 / (4 : Int)) ∧ (v4 / (4 : Int)) < sZ S26 v3 then bnd (uS S26 v3 (v4 / (4 : Int)) (opI 2 (opI 4 r22 (8 : Int)) (32 : Int))) (fun S42 => X17 (w32 (v4 + (1 : Int))) S42) else none)) else none) else none else none else none else none) else (j100_70 X2 v0 v1 v2 v3 S)
noncomputable def l100_17 (X2 : Int → sS → Option (Int × sS)) (v0 : Int) (v1 : Int) (v2 : Int) (v3 : Int) (n : Nat) : Int → sS → Option (Int × sS) := Nat.rec (motive := fun _ => Int → sS → Option (Int × sS)) (fun _ _ => none) (fun _ ih => b100_17 X2 v0 v1 v2 v3 ih) n
theorem tb100_17 {κ : CX} (hQ : κ.2.2.2.2.2.2.2.2.2 = (ql_I, ql_P)) {n0 s0 : Int} {d : Nat} (hd : 70 ≤ d) {v0 v1 v2 v3 : Int} (h0 : RfO v0) (h1 : RfA v1) (h2 : InR v2) (h3 : RfO v3) {X2 : Int → sS → Option (Int × sS)} (HX2 : ∀ (v2 : Int) (h2 : InR v2) (S : sS) (hW : WF2 κ S) (u3 : Option ev_V) (w3 : nwo u3) (u4 : Option ev_V) (w4 : nwo u4), G2 κ ql_i100 ql_m100 0 d n0 s0 (X2 v2 S) 2 [some (sR v0), some (sR v1), some (sI v2), u3, u4] [] S) {X17 : Int → sS → Option (Int × sS)} (HX17 : ∀ (v4 : Int) (h4 : InR v4) (S : sS) (hW : WF2 κ S), G2 κ ql_i100 ql_m100 0 d n0 s0 (X17 v4 S) 17 [some (sR v0), some (sR v1), some (sI v2), some (sR v3), some (sI v4)] [] S) : ∀ (v4 : Int) (h4 : InR v4) (S : sS) (hW : WF2 κ S), G2 κ ql_i100 ql_m100 0 d n0 s0 (b100_17 X2 v0 v1 v2 v3 X17 v4 S) 17 [some (sR v0), some (sR v1), some (sI v2), some (sR v3), some (sI v4)] [] S := by
  intro v4 h4 S hW
  unfold b100_17
  refine g2_iload qk100_0.1.2.1.2.1 rfl ?_
  refine g2_int qk100_0.1.2.1.2.2 (20 : Int) rfl ?_
  refine g2_cmlt qk100_0.1.2.2.1.1 h4 (inR_of (by decide)) (fun c16 => ?_) (fun c17 => ?_)
  · refine g2_aload qk100_0.1.2.2.1.2 rfl ?_
    refine g2_iload qk100_0.1.2.2.2.1 rfl ?_
    refine g2_int qk100_0.1.2.2.2.2 (4 : Int) rfl ?_
    refine g2_ck (fun q18 => ?_)
    refine g2_div qk100_0.2.1.1.1.1.1 q18 ?_
    refine g2_aload qk100_0.2.1.1.1.1.2 rfl ?_
    refine g2_iload qk100_0.2.1.1.1.2 rfl ?_
    refine g2_int qk100_0.2.1.1.2.1 (4 : Int) rfl ?_
    refine g2_ck (fun q19 => ?_)
    refine g2_div qk100_0.2.1.1.2.2 q19 ?_
    refine g2_ck (fun q20 => ?_)
    refine g2_ck (fun q21 => ?_)
    refine g2_kn ⟨q20, q21⟩ (g2_iald qk100_0.2.1.2.1.1 hW (fun r22 x23 => ?_))
    refine g2_int qk100_0.2.1.2.1.2 (8 : Int) rfl ?_
    refine g2_ibin qk100_0.2.1.2.2.1 ?_
    refine g2_iload qk100_0.2.1.2.2.2 rfl ?_
    refine g2_iload qk100_0.2.2.1.1.1 rfl ?_
    refine g2_iadd qk100_0.2.2.1.1.2 ?_
    refine g2_aload qk100_0.2.2.1.2.1 rfl ?_
    refine g2_ck (fun q24 => ?_)
    refine g2_kn q24 (g2_callV (t' := 1) qk100_0.2.2.1.2.2 (by decide) (ql_ip141 hQ) (by decide) rfl rfl rfl (by omega) hW (tq141_length hQ (by omega) hW q24 h1) (fun y25 S26 x27 m28 e29 => ?_))
    refine g2_cmlt qk100_0.2.2.2.1.1 (inR_w32 _) x27 (fun c30 => ?_) (fun c31 => ?_)
    · refine g2_aload qk100_0.2.2.2.1.2 rfl ?_
      refine g2_iload qk100_0.2.2.2.2.1 rfl ?_
      refine g2_iload qk100_0.2.2.2.2.2 rfl ?_
      refine g2_iadd qk100_1.1.1.1.1.1.1 ?_
      refine g2_kn (ek e29 q24 (by decide)) (g2_callV (t' := 1) qk100_1.1.1.1.1.1.2 (by decide) (ql_ip145 hQ) (by decide) rfl rfl rfl (by omega) m28 (tq145_charAt hQ (by omega) m28 (ek e29 q24 (by decide)) h1 (inR_w32 _)) (fun y32 S33 x34 m35 e36 => ?_))
      refine g2_goto qk100_1.1.1.1.1.2 ?_
      refine g2_ibin qk100_1.1.1.1.2.2 ?_
      refine g2_ck (fun q37 => ?_)
      refine g2_kn ⟨(ek e36 (ek e29 q20 (by decide)) (by decide)), h3.2, q37⟩ (g2_iast qk100_1.1.1.2.1.1 m35 (inR_opI _ _ _) (fun S38 m39 e40 => ?_))
      refine g2_iinc qk100_1.1.1.2.1.2 rfl rfl (1 : Int) rfl (loc2 := [some (sR v0), some (sR v1), some (sI v2), some (sR v3), some (sI (w32 (v4 + (1 : Int))))]) rfl ?_
      refine g2_goto qk100_1.1.1.2.2.1 ?_
      exact HX17 (w32 (v4 + (1 : Int))) (inR_w32 _) S38 m39
    · refine g2_int qk100_1.1.1.1.2.1 (32 : Int) rfl ?_
      refine g2_ibin qk100_1.1.1.1.2.2 ?_
      refine g2_ck (fun q41 => ?_)
      refine g2_kn ⟨(ek e29 q20 (by decide)), h3.2, q41⟩ (g2_iast qk100_1.1.1.2.1.1 m28 (inR_opI _ _ _) (fun S42 m43 e44 => ?_))
      refine g2_iinc qk100_1.1.1.2.1.2 rfl rfl (1 : Int) rfl (loc2 := [some (sR v0), some (sR v1), some (sI v2), some (sR v3), some (sI (w32 (v4 + (1 : Int))))]) rfl ?_
      refine g2_goto qk100_1.1.1.2.2.1 ?_
      exact HX17 (w32 (v4 + (1 : Int))) (inR_w32 _) S42 m43
  · exact tj100_70 hQ hd h0 h1 h2 h3 HX2 S hW (some (sI v4)) rfl
theorem tl100_17 {κ : CX} (hQ : κ.2.2.2.2.2.2.2.2.2 = (ql_I, ql_P)) {n0 s0 : Int} {d : Nat} (hd : 70 ≤ d) {v0 v1 v2 v3 : Int} (h0 : RfO v0) (h1 : RfA v1) (h2 : InR v2) (h3 : RfO v3) {X2 : Int → sS → Option (Int × sS)} (HX2 : ∀ (v2 : Int) (h2 : InR v2) (S : sS) (hW : WF2 κ S) (u3 : Option ev_V) (w3 : nwo u3) (u4 : Option ev_V) (w4 : nwo u4), G2 κ ql_i100 ql_m100 0 d n0 s0 (X2 v2 S) 2 [some (sR v0), some (sR v1), some (sI v2), u3, u4] [] S) : ∀ n : Nat, ∀ (v4 : Int) (h4 : InR v4) (S : sS) (hW : WF2 κ S), G2 κ ql_i100 ql_m100 0 d n0 s0 (l100_17 X2 v0 v1 v2 v3 n v4 S) 17 [some (sR v0), some (sR v1), some (sI v2), some (sR v3), some (sI v4)] [] S := by
  intro n
  induction n with
  | zero =>
    intro v4 h4 S hW
    exact g2_none
  | succ n ih =>
    exact tb100_17 hQ hd h0 h1 h2 h3 HX2 ih
noncomputable def j100_96 (v0 : Int) (v1 : Int) (S : sS) : Option (Int × sS) :=
  if sK S v1 = 12 then bdS (q141_length S v1) (fun y69 S70 => if v0 = sb S70 ∧ 0 ≤ v0 then bdC (fN) (fC_truncateInput (sc S70) 0 y69) (fun y75 c76 => bnd (cS S70 c76) (fun S77 => some (0, S77))) else none) else none
theorem tj100_96 {κ : CX} (hQ : κ.2.2.2.2.2.2.2.2.2 = (ql_I, ql_P)) {n0 s0 : Int} {d : Nat} (hd : 70 ≤ d) {v0 v1 : Int} (h0 : RfO v0) (h1 : RfA v1) (S : sS) (hW : WF2 κ S) (u2 : Option ev_V) (w2 : nwo u2) (u3 : Option ev_V) (w3 : nwo u3) (u4 : Option ev_V) (w4 : nwo u4) : G2 κ ql_i100 ql_m100 0 d n0 s0 (j100_96 v0 v1 S) 96 [some (sR v0), some (sR v1), u2, u3, u4] [] S := by
  unfold j100_96
  refine g2_aload qk100_1.2.2.1.2.1 rfl ?_
  refine g2_aload qk100_1.2.2.1.2.2 rfl ?_
  refine g2_ck (fun q68 => ?_)
  refine g2_kn q68 (g2_callV (t' := 1) qk100_1.2.2.2.1.1 (by decide) (ql_ip141 hQ) (by decide) rfl rfl rfl (by omega) hW (tq141_length hQ (by omega) hW q68 h1) (fun y69 S70 x71 m72 e73 => ?_))
  refine g2_ck (fun q74 => ?_)
  refine g2_kn q74 (g2_callC (t' := 3) (Is := [y69]) qk100_1.2.2.2.1.2 (by decide) rfl rfl (by omega) m72 (Or.inr rfl) (by decide) ⟨rfl, rfl⟩ (tfC_truncateInput (by omega) m72.1.2 kd_c0 x71) (fun y75 S77 x78 m79 e80 => ?_))
  refine g2_popI qk100_1.2.2.2.2.1 ?_
  exact g2_vret qk100_1.2.2.2.2.2 m79
noncomputable def b100_2 (v0 : Int) (v1 : Int) (X2 : Int → sS → Option (Int × sS)) (v2 : Int) (S : sS) : Option (Int × sS) :=
  if sK S v1 = 12 then bdS (q141_length S v1) (fun y2 S3 => if v2 < y2 then (if sn S3 < 1000000 ∧ 0 ≤ (5 : Int) ∧ (5 : Int) ≤ 65536 then bnd (sn S3) (fun p9 => bnd (nS S3 20 (5 : Int)) (fun S10 => l100_17 X2 v0 v1 v2 p9 fu (0 : Int) S10)) else none) else (j100_96 v0 v1 S3)) else none
noncomputable def l100_2 (v0 : Int) (v1 : Int) (n : Nat) : Int → sS → Option (Int × sS) := Nat.rec (motive := fun _ => Int → sS → Option (Int × sS)) (fun _ _ => none) (fun _ ih => b100_2 v0 v1 ih) n
theorem tb100_2 {κ : CX} (hQ : κ.2.2.2.2.2.2.2.2.2 = (ql_I, ql_P)) {n0 s0 : Int} {d : Nat} (hd : 70 ≤ d) {v0 v1 : Int} (h0 : RfO v0) (h1 : RfA v1) {X2 : Int → sS → Option (Int × sS)} (HX2 : ∀ (v2 : Int) (h2 : InR v2) (S : sS) (hW : WF2 κ S) (u3 : Option ev_V) (w3 : nwo u3) (u4 : Option ev_V) (w4 : nwo u4), G2 κ ql_i100 ql_m100 0 d n0 s0 (X2 v2 S) 2 [some (sR v0), some (sR v1), some (sI v2), u3, u4] [] S) : ∀ (v2 : Int) (h2 : InR v2) (S : sS) (hW : WF2 κ S) (u3 : Option ev_V) (w3 : nwo u3) (u4 : Option ev_V) (w4 : nwo u4), G2 κ ql_i100 ql_m100 0 d n0 s0 (b100_2 v0 v1 X2 v2 S) 2 [some (sR v0), some (sR v1), some (sI v2), u3, u4] [] S := by
  intro v2 h2 S hW u3 w3 u4 w4
  unfold b100_2
  refine g2_iload qk100_0.1.1.1.1.2 rfl ?_
  refine g2_aload qk100_0.1.1.1.2.1 rfl ?_
  refine g2_ck (fun q1 => ?_)
  refine g2_kn q1 (g2_callV (t' := 1) qk100_0.1.1.1.2.2 (by decide) (ql_ip141 hQ) (by decide) rfl rfl rfl (by omega) hW (tq141_length hQ (by omega) hW q1 h1) (fun y2 S3 x4 m5 e6 => ?_))
  refine g2_cmlt qk100_0.1.1.2.1.1 h2 x4 (fun c7 => ?_) (fun c8 => ?_)
  · refine g2_int qk100_0.1.1.2.1.2 (5 : Int) rfl ?_
    refine g2_ck (fun q15 => ?_)
    refine g2_kn q15 (g2_newa qk100_0.1.1.2.2.1 m5 ⟨by decide, rfl⟩ (fun p9 S10 x11 k12 m13 e14 => ?_))
    refine g2_astore qk100_0.1.1.2.2.2 rfl (loc2 := [some (sR v0), some (sR v1), some (sI v2), some (sR p9), u4]) rfl ?_
    refine g2_int qk100_0.1.2.1.1.1 (0 : Int) rfl ?_
    refine g2_istore qk100_0.1.2.1.1.2 rfl (loc2 := [some (sR v0), some (sR v1), some (sI v2), some (sR p9), some (sI (0 : Int))]) rfl ?_
    exact tl100_17 hQ hd h0 h1 h2 (rfO_of x11) HX2 fu (0 : Int) (inR_b (Or.inl rfl)) S10 m13
  · exact tj100_96 hQ hd h0 h1 S3 m5 (some (sI v2)) rfl u3 w3 u4 w4
theorem tl100_2 {κ : CX} (hQ : κ.2.2.2.2.2.2.2.2.2 = (ql_I, ql_P)) {n0 s0 : Int} {d : Nat} (hd : 70 ≤ d) {v0 v1 : Int} (h0 : RfO v0) (h1 : RfA v1) : ∀ n : Nat, ∀ (v2 : Int) (h2 : InR v2) (S : sS) (hW : WF2 κ S) (u3 : Option ev_V) (w3 : nwo u3) (u4 : Option ev_V) (w4 : nwo u4), G2 κ ql_i100 ql_m100 0 d n0 s0 (l100_2 v0 v1 n v2 S) 2 [some (sR v0), some (sR v1), some (sI v2), u3, u4] [] S := by
  intro n
  induction n with
  | zero =>
    intro v2 h2 S hW u3 w3 u4 w4
    exact g2_none
  | succ n ih =>
    exact tb100_2 hQ hd h0 h1 ih
noncomputable def q100_told (S : sS) (v0 : Int) (v1 : Int) : Option (Int × sS) :=
  l100_2 v0 v1 fu (0 : Int) S
theorem tq100_told {κ : CX} (hQ : κ.2.2.2.2.2.2.2.2.2 = (ql_I, ql_P)) {n0 s0 : Int} {d : Nat} (hd : 70 ≤ d) {S : sS} (hW : WF2 κ S) {v0 v1 : Int}  (h0 : RfO v0) (h1 : RfA v1) : G2 κ ql_i100 ql_m100 0 d n0 s0 (q100_told S v0 v1) 0 (ev_loc ql_m100.1 [(sR v0), (sR v1)]) [] S := by
  unfold q100_told
  refine g2_int qk100_0.1.1.1.1.1.1 (0 : Int) rfl ?_
  refine g2_istore qk100_0.1.1.1.1.1.2 rfl (loc2 := [some (sR v0), some (sR v1), some (sI (0 : Int)), none, none]) rfl ?_
  exact tl100_2 hQ hd h0 h1 fu (0 : Int) (inR_b (Or.inl rfl)) S hW none rfl none rfl
noncomputable def q99_bits (S : sS) (v0 : Int) (v1 : Int) (v2 : Int) : Option (Int × sS) :=
  some ((opI 1 (opI 6 v0 v1) (w32 ((opI 4 (1 : Int) v2) - (1 : Int)))), S)
theorem tq99_bits {κ : CX} (hQ : κ.2.2.2.2.2.2.2.2.2 = (ql_I, ql_P)) {n0 s0 : Int} {d : Nat} (hd : 1 ≤ d) {S : sS} (hW : WF2 κ S) {v0 v1 v2 : Int}  (h0 : InR v0) (h1 : InR v1) (h2 : InR v2) : G2 κ ql_i99 ql_m99 1 d n0 s0 (q99_bits S v0 v1 v2) 0 (ev_loc ql_m99.1 [(sI v0), (sI v1), (sI v2)]) [] S := by
  unfold q99_bits
  refine g2_iload qk99_0.1.1.1.1 rfl ?_
  refine g2_iload qk99_0.1.1.1.2 rfl ?_
  refine g2_ibin qk99_0.1.1.2 ?_
  refine g2_int qk99_0.1.2.1 (1 : Int) rfl ?_
  refine g2_iload qk99_0.1.2.2 rfl ?_
  refine g2_ibin qk99_0.2.1.1.1 ?_
  refine g2_int qk99_0.2.1.1.2 (1 : Int) rfl ?_
  refine g2_isub qk99_0.2.1.2 ?_
  refine g2_ibin qk99_0.2.2.1 ?_
  exact g2_iret qk99_0.2.2.2 hW (inR_opI _ _ _)
noncomputable def q118_init (S : sS) (v0 : Int) : Option (Int × sS) :=
  some (0, S)
theorem tq118_init {κ : CX} (hQ : κ.2.2.2.2.2.2.2.2.2 = (ql_I, ql_P)) {n0 s0 : Int} {d : Nat} (hd : 1 ≤ d) {S : sS} (hW : WF2 κ S) {v0 : Int} (hK0 : sK S v0 = 9) (h0 : RfO v0) : G2 κ ql_i118 ql_m118 0 d n0 s0 (q118_init S v0) 0 (ev_loc ql_m118.1 [(sR v0)]) [] S := by
  unfold q118_init
  refine g2_aload qk118_0.1.1 rfl ?_
  refine g2_objinit qk118_0.1.2 rfl (kn_pos hW.2.1 hK0 (by decide)) ?_
  exact g2_vret qk118_0.2 hW
noncomputable def q119_init (S : sS) (v0 : Int) : Option (Int × sS) :=
  bdS (q118_init S v0) (fun y1 S2 => bnd (uS S2 v0 0 (0 : Int)) (fun S6 => some (0, S6)))
theorem tq119_init {κ : CX} (hQ : κ.2.2.2.2.2.2.2.2.2 = (ql_I, ql_P)) {n0 s0 : Int} {d : Nat} (hd : 2 ≤ d) {S : sS} (hW : WF2 κ S) {v0 : Int} (hK0 : sK S v0 = 9) (h0 : RfO v0) : G2 κ ql_i119 ql_m119 0 d n0 s0 (q119_init S v0) 0 (ev_loc ql_m119.1 [(sR v0)]) [] S := by
  unfold q119_init
  refine g2_aload qk119_0.1.1.1 rfl ?_
  refine g2_kn (kn_pos hW.2.1 hK0 (by decide)) (g2_callI qk119_0.1.1.2 (by decide) (ql_ip118 hQ) rfl rfl rfl (by omega) ⟨_, qd_119_1⟩ (tq118_init hQ (by omega) hW hK0 h0) (fun y1 S2 m4 e5 => ?_))
  refine g2_aload qk119_0.1.2 rfl ?_
  refine g2_int qk119_0.2.1.1 (0 : Int) rfl ?_
  refine g2_kn ⟨(ek e5 hK0 (by decide)), h0.2⟩ (g2_putI qk119_0.2.1.2 m4 ⟨by decide, by decide, rfl⟩ (inR_b (Or.inl rfl)) (fun S6 m7 e8 => ?_))
  exact g2_vret qk119_0.2.2 m7
noncomputable def q120_init (S : sS) (v0 : Int) : Option (Int × sS) :=
  bdS (q119_init S v0) (fun y1 S2 => bnd (uS S2 v0 1 2200002) (fun S6 => some (0, S6)))
theorem tq120_init {κ : CX} (hQ : κ.2.2.2.2.2.2.2.2.2 = (ql_I, ql_P)) {n0 s0 : Int} {d : Nat} (hd : 3 ≤ d) {S : sS} (hW : WF2 κ S) {v0 : Int} (hK0 : sK S v0 = 9) (h0 : RfO v0) : G2 κ ql_i120 ql_m120 0 d n0 s0 (q120_init S v0) 0 (ev_loc ql_m120.1 [(sR v0)]) [] S := by
  unfold q120_init
  refine g2_aload qk120_0.1.1.1 rfl ?_
  refine g2_kn (kn_pos hW.2.1 hK0 (by decide)) (g2_callI qk120_0.1.1.2 (by decide) (ql_ip119 hQ) rfl rfl rfl (by omega) ⟨_, qd_120_1⟩ (tq119_init hQ (by omega) hW hK0 h0) (fun y1 S2 m4 e5 => ?_))
  refine g2_aload qk120_0.1.2 rfl ?_
  refine g2_gets1 qk120_0.2.1.1 ?_
  refine g2_kn ⟨(ek e5 hK0 (by decide)), h0.2⟩ (g2_putA qk120_0.2.1.2 m4 ⟨by decide, by decide, rfl⟩ (rfA_of2 (by decide)) (fun S6 m7 e8 => ?_))
  exact g2_vret qk120_0.2.2 m7
noncomputable def q121_max (S : sS) (v0 : Int) (v1 : Int) : Option (Int × sS) :=
  if v0 < v1 then (some (v1, S)) else (some (v0, S))
theorem tq121_max {κ : CX} (hQ : κ.2.2.2.2.2.2.2.2.2 = (ql_I, ql_P)) {n0 s0 : Int} {d : Nat} (hd : 1 ≤ d) {S : sS} (hW : WF2 κ S) {v0 v1 : Int}  (h0 : InR v0) (h1 : InR v1) : G2 κ ql_i121 ql_m121 1 d n0 s0 (q121_max S v0 v1) 0 (ev_loc ql_m121.1 [(sI v0), (sI v1)]) [] S := by
  unfold q121_max
  refine g2_iload qk121_0.1.1.1 rfl ?_
  refine g2_iload qk121_0.1.1.2 rfl ?_
  refine g2_cmlt qk121_0.1.2.1 h0 h1 (fun c1 => ?_) (fun c2 => ?_)
  · refine g2_iload qk121_0.2.1.2 rfl ?_
    exact g2_iret qk121_0.2.2 hW h1
  · refine g2_iload qk121_0.1.2.2 rfl ?_
    refine g2_goto qk121_0.2.1.1 ?_
    exact g2_iret qk121_0.2.2 hW h0
noncomputable def q123_newLength (S : sS) (v0 : Int) (v1 : Int) (v2 : Int) : Option (Int × sS) :=
  bdS (q121_max S v1 v2) (fun y1 S2 => if (0 : Int) < (w32 (v0 + y1)) then (if (2147483639 : Int) < (w32 (v0 + y1)) then (none) else (some ((w32 (v0 + y1)), S2))) else (none))
theorem tq123_newLength {κ : CX} (hQ : κ.2.2.2.2.2.2.2.2.2 = (ql_I, ql_P)) {n0 s0 : Int} {d : Nat} (hd : 2 ≤ d) {S : sS} (hW : WF2 κ S) {v0 v1 v2 : Int}  (h0 : InR v0) (h1 : InR v1) (h2 : InR v2) : G2 κ ql_i123 ql_m123 1 d n0 s0 (q123_newLength S v0 v1 v2) 0 (ev_loc ql_m123.1 [(sI v0), (sI v1), (sI v2)]) [] S := by
  unfold q123_newLength
  refine g2_iload qk123_0.1.1.1.1 rfl ?_
  refine g2_iload qk123_0.1.1.1.2 rfl ?_
  refine g2_iload qk123_0.1.1.2.1 rfl ?_
  refine g2_callS (t' := 1) qk123_0.1.1.2.2 (by decide) (ql_ip121 hQ) rfl rfl rfl rfl (by omega) (tq121_max hQ (by omega) hW h1 h2) (fun y1 S2 x3 m4 e5 => ?_)
  refine g2_iadd qk123_0.1.2.1.1 ?_
  refine g2_istore qk123_0.1.2.1.2 rfl (loc2 := [some (sI v0), some (sI v1), some (sI v2), some (sI (w32 (v0 + y1)))]) rfl ?_
  refine g2_int qk123_0.1.2.2.1 (0 : Int) rfl ?_
  refine g2_iload qk123_0.1.2.2.2 rfl ?_
  refine g2_cmlt qk123_0.2.1.1.1 (inR_b (Or.inl rfl)) (inR_w32 _) (fun c6 => ?_) (fun c7 => ?_)
  · refine g2_iload qk123_0.2.1.1.2 rfl ?_
    refine g2_int qk123_0.2.1.2.1 (2147483639 : Int) rfl ?_
    refine g2_cmgt qk123_0.2.1.2.2 (inR_w32 _) (inR_of (by decide)) (fun c8 => ?_) (fun c9 => ?_)
    · refine g2_iload qk123_0.2.2.2.1 rfl ?_
      refine g2_iload qk123_0.2.2.2.2 rfl ?_
      exact g2_none
    · refine g2_iload qk123_0.2.2.1.1 rfl ?_
      exact g2_iret qk123_0.2.2.1.2 m4 (inR_w32 _)
  · refine g2_iload qk123_0.2.2.2.1 rfl ?_
    refine g2_iload qk123_0.2.2.2.2 rfl ?_
    exact g2_none
noncomputable def q122_min (S : sS) (v0 : Int) (v1 : Int) : Option (Int × sS) :=
  if v1 < v0 then (some (v1, S)) else (some (v0, S))
theorem tq122_min {κ : CX} (hQ : κ.2.2.2.2.2.2.2.2.2 = (ql_I, ql_P)) {n0 s0 : Int} {d : Nat} (hd : 1 ≤ d) {S : sS} (hW : WF2 κ S) {v0 v1 : Int}  (h0 : InR v0) (h1 : InR v1) : G2 κ ql_i122 ql_m122 1 d n0 s0 (q122_min S v0 v1) 0 (ev_loc ql_m122.1 [(sI v0), (sI v1)]) [] S := by
  unfold q122_min
  refine g2_iload qk122_0.1.1.1 rfl ?_
  refine g2_iload qk122_0.1.1.2 rfl ?_
  refine g2_cmgt qk122_0.1.2.1 h0 h1 (fun c1 => ?_) (fun c2 => ?_)
  · refine g2_iload qk122_0.2.1.2 rfl ?_
    exact g2_iret qk122_0.2.2 hW h1
  · refine g2_iload qk122_0.1.2.2 rfl ?_
    refine g2_goto qk122_0.2.1.1 ?_
    exact g2_iret qk122_0.2.2 hW h0
noncomputable def q124_copyOf (S : sS) (v0 : Int) (v1 : Int) : Option (Int × sS) :=
  if sn S < 1000000 ∧ 0 ≤ v1 ∧ v1 ≤ 65536 then bnd (sn S) (fun p3 => bnd (nS S 26 v1) (fun S4 => if sK S4 v0 = 26 then bnd (sZ S4 v0) (fun r11 => bdS (q122_min S4 r11 v1) (fun y13 S14 => if (0 ≤ (0 : Int) ∧ 0 ≤ (0 : Int) ∧ 0 ≤ y13) ∧ (0 : Int) + y13 ≤ sZ S14 v0 ∧ (0 : Int) + y13 ≤ sZ S14 p3 then if v0 < 1000000 then if ∀ i : Nat, i < (y13).toNat → sg S14 v0 ((0 : Int) + i) = -1 ∨ sK S14 (sg S14 v0 ((0 : Int) + i)) = 7 then bnd (cpS S14 v0 (0 : Int) p3 (0 : Int) y13) (fun S21 => some (p3, S21)) else none else none else none)) else none)) else none
theorem tq124_copyOf {κ : CX} (hQ : κ.2.2.2.2.2.2.2.2.2 = (ql_I, ql_P)) {n0 s0 : Int} {d : Nat} (hd : 2 ≤ d) {S : sS} (hW : WF2 κ S) {v0 v1 : Int}  (h0 : RfA v0) (h1 : InR v1) : G2 κ ql_i124 ql_m124 2 d n0 s0 (q124_copyOf S v0 v1) 0 (ev_loc ql_m124.1 [(sR v0), (sI v1), sR 2200003]) [] S := by
  unfold q124_copyOf
  refine g2_aload qk124_0.1.1.1.1.1 rfl ?_
  refine g2_ldcC qk124_0.1.1.1.1.2 ?_
  refine g2_acmpC qk124_0.1.1.1.2 ?_
  refine g2_iload qk124_0.1.1.2.1 rfl ?_
  refine g2_ck (fun q9 => ?_)
  refine g2_kn q9 (g2_newa qk124_0.1.1.2.2 hW ⟨by decide, rfl⟩ (fun p3 S4 x5 k6 m7 e8 => ?_))
  refine g2_goto qk124_0.1.2.1.1.1 ?_
  refine g2_astore qk124_0.1.2.1.2 rfl (loc2 := [some (sR v0), some (sI v1), some (sR 2200003), some (sR p3)]) rfl ?_
  refine g2_aload qk124_0.1.2.2.1 rfl ?_
  refine g2_int qk124_0.1.2.2.2 (0 : Int) rfl ?_
  refine g2_aload qk124_0.2.1.1.1.1 rfl ?_
  refine g2_int qk124_0.2.1.1.1.2 (0 : Int) rfl ?_
  refine g2_aload qk124_0.2.1.1.2 rfl ?_
  refine g2_ck (fun q10 => ?_)
  refine g2_kn (ka2 q10 (by decide)) (g2_alen qk124_0.2.1.2.1 m7 (fun r11 x12 => ?_))
  refine g2_iload qk124_0.2.1.2.2 rfl ?_
  refine g2_callS (t' := 1) qk124_0.2.2.1.1 (by decide) (ql_ip122 hQ) rfl rfl rfl rfl (by omega) (tq122_min hQ (by omega) m7 x12 h1) (fun y13 S14 x15 m16 e17 => ?_)
  refine g2_ck (fun q18 => ?_)
  refine g2_ck (fun q19 => ?_)
  refine g2_ck (fun q20 => ?_)
  refine g2_kn ⟨⟨(ek e17 q10 (by decide)), q19⟩, ⟨(ek e17 k6.1 (by decide)), (rfO_of x5).2⟩, q18.1, q18.2.1, q18.2.2, q20⟩ (g2_copyA qk124_0.2.2.1.2 lw_cast7 m16 rfl (fun S21 m22 e23 => ?_))
  refine g2_aload qk124_0.2.2.2.1 rfl ?_
  exact g2_aret qk124_0.2.2.2.2 m22 (rfO_of x5)
noncomputable def q125_copyOf (S : sS) (v0 : Int) (v1 : Int) : Option (Int × sS) :=
  if sK S v0 = 26 then if v0 < 1000000 then bdS (q124_copyOf S v0 v1) (fun y3 S4 => some (y3, S4)) else none else none
theorem tq125_copyOf {κ : CX} (hQ : κ.2.2.2.2.2.2.2.2.2 = (ql_I, ql_P)) {n0 s0 : Int} {d : Nat} (hd : 3 ≤ d) {S : sS} (hW : WF2 κ S) {v0 v1 : Int}  (h0 : RfA v0) (h1 : InR v1) : G2 κ ql_i125 ql_m125 2 d n0 s0 (q125_copyOf S v0 v1) 0 (ev_loc ql_m125.1 [(sR v0), (sI v1)]) [] S := by
  unfold q125_copyOf
  refine g2_aload qk125_0.1.1.1 rfl ?_
  refine g2_iload qk125_0.1.1.2 rfl ?_
  refine g2_aload qk125_0.1.2 rfl ?_
  refine g2_ck (fun q1 => ?_)
  refine g2_ck (fun q2 => ?_)
  refine g2_kn ⟨q1, q2⟩ (g2_getC qk125_0.2.1.1 hW rfl ?_)
  refine g2_callS (t' := 2) qk125_0.2.1.2 (by decide) (ql_ip124 hQ) rfl rfl rfl rfl (by omega) (tq124_copyOf hQ (by omega) hW h0 h1) (fun y3 S4 x5 m6 e7 => ?_)
  exact g2_aret qk125_0.2.2 m6 x5
noncomputable def j126_20 (v0 : Int) (v1 : Int) (v2 : Int) (S : sS) : Option (Int × sS) :=
  bdS (q123_newLength S v2 (w32 (v1 - v2)) (opI 5 v2 (1 : Int))) (fun y27 S28 => bnd (sg S28 v0 1) (fun r32 => bdS (q125_copyOf S28 r32 y27) (fun y34 S35 => bnd (uS S35 v0 1 y34) (fun S39 => some (y34, S39)))))
theorem tj126_20 {κ : CX} (hQ : κ.2.2.2.2.2.2.2.2.2 = (ql_I, ql_P)) {n0 s0 : Int} {d : Nat} (hd : 4 ≤ d) {v0 v1 v2 : Int} (h0 : RfO v0) (h1 : InR v1) (h2 : InR v2) (S : sS) (hW : WF2 κ S) (hK0 : sK S v0 = 9) (u3 : Option ev_V) (w3 : nwo u3) : G2 κ ql_i126 ql_m126 2 d n0 s0 (j126_20 v0 v1 v2 S) 20 [some (sR v0), some (sI v1), some (sI v2), u3] [] S := by
  unfold j126_20
  refine g2_iload qk126_0.1.2.1.1.1.2 rfl ?_
  refine g2_iload qk126_0.1.2.1.1.2 rfl ?_
  refine g2_iload qk126_0.1.2.1.2.1 rfl ?_
  refine g2_isub qk126_0.1.2.1.2.2 ?_
  refine g2_iload qk126_0.1.2.2.1.1 rfl ?_
  refine g2_int qk126_0.1.2.2.1.2 (1 : Int) rfl ?_
  refine g2_ibin qk126_0.1.2.2.2.1 ?_
  refine g2_callS (t' := 1) qk126_0.1.2.2.2.2 (by decide) (ql_ip123 hQ) rfl rfl rfl rfl (by omega) (tq123_newLength hQ (by omega) hW h2 (inR_w32 _) (inR_opI _ _ _)) (fun y27 S28 x29 m30 e31 => ?_)
  refine g2_istore qk126_0.2.1.1.1.1.1 rfl (loc2 := [some (sR v0), some (sI v1), some (sI v2), some (sI y27)]) rfl ?_
  refine g2_aload qk126_0.2.1.1.1.1.2 rfl ?_
  refine g2_aload qk126_0.2.1.1.1.2 rfl ?_
  refine g2_kn (ek e31 hK0 (by decide)) (g2_getA qk126_0.2.1.1.2.1 m30 ⟨by decide, by decide, by decide, rfl⟩ (fun r32 x33 => ?_))
  refine g2_iload qk126_0.2.1.1.2.2 rfl ?_
  refine g2_callS (t' := 2) qk126_0.2.1.2.1.1 (by decide) (ql_ip125 hQ) rfl rfl rfl rfl (by omega) (tq125_copyOf hQ (by omega) m30 x33 x29) (fun y34 S35 x36 m37 e38 => ?_)
  refine g2_dupx qk126_0.2.1.2.1.2 rfl rfl ?_
  refine g2_kn ⟨(ek e38 (ek e31 hK0 (by decide)) (by decide)), h0.2⟩ (g2_putA qk126_0.2.1.2.2.1 m37 ⟨by decide, by decide, rfl⟩ (rfA_of x36) (fun S39 m40 e41 => ?_))
  exact g2_aret qk126_0.2.1.2.2.2 m40 x36
noncomputable def q126_grow (S : sS) (v0 : Int) (v1 : Int) : Option (Int × sS) :=
  bnd (sg S v0 1) (fun r1 => if sK S r1 = 26 then bnd (sZ S r1) (fun r4 => if 0 < r4 then (j126_20 v0 v1 r4 S) else (bnd (sg S v0 1) (fun r8 => if r8 = 2200002 then (bdS (q121_max S (10 : Int) v1) (fun y12 S13 => if sn S13 < 1000000 ∧ 0 ≤ y12 ∧ y12 ≤ 65536 then bnd (sn S13) (fun p17 => bnd (nS S13 26 y12) (fun S18 => bnd (uS S18 v0 1 p17) (fun S24 => some (p17, S24)))) else none)) else if 0 ≤ r8 ∧ r8 < 1000000 then (j126_20 v0 v1 r4 S) else none))) else none)
theorem tq126_grow {κ : CX} (hQ : κ.2.2.2.2.2.2.2.2.2 = (ql_I, ql_P)) {n0 s0 : Int} {d : Nat} (hd : 4 ≤ d) {S : sS} (hW : WF2 κ S) {v0 v1 : Int} (hK0 : sK S v0 = 9) (h0 : RfO v0) (h1 : InR v1) : G2 κ ql_i126 ql_m126 2 d n0 s0 (q126_grow S v0 v1) 0 (ev_loc ql_m126.1 [(sR v0), (sI v1)]) [] S := by
  unfold q126_grow
  refine g2_aload qk126_0.1.1.1.1.1.1 rfl ?_
  refine g2_kn hK0 (g2_getA qk126_0.1.1.1.1.1.2 hW ⟨by decide, by decide, by decide, rfl⟩ (fun r1 x2 => ?_))
  refine g2_ck (fun q3 => ?_)
  refine g2_kn (ka2 q3 (by decide)) (g2_alen qk126_0.1.1.1.1.2 hW (fun r4 x5 => ?_))
  refine g2_istore qk126_0.1.1.1.2.1 rfl (loc2 := [some (sR v0), some (sI v1), some (sI r4), none]) rfl ?_
  refine g2_iload qk126_0.1.1.1.2.2 rfl ?_
  refine g2_ifgt qk126_0.1.1.2.1.1 x5 (fun c6 => ?_) (fun c7 => ?_)
  · exact tj126_20 hQ hd h0 h1 x5 S hW hK0 none rfl
  · refine g2_aload qk126_0.1.1.2.1.2 rfl ?_
    refine g2_kn hK0 (g2_getA qk126_0.1.1.2.2.1 hW ⟨by decide, by decide, by decide, rfl⟩ (fun r8 x9 => ?_))
    refine g2_gets1 qk126_0.1.1.2.2.2 ?_
    refine g2_acmpK qk126_0.1.2.1.1.1.1 (fun c10 => ?_) (fun c11 => ?_)
    · refine g2_aload qk126_0.2.2.1.1.1 rfl ?_
      refine g2_int qk126_0.2.2.1.1.2 (10 : Int) rfl ?_
      refine g2_iload qk126_0.2.2.1.2.1 rfl ?_
      refine g2_callS (t' := 1) qk126_0.2.2.1.2.2 (by decide) (ql_ip121 hQ) rfl rfl rfl rfl (by omega) (tq121_max hQ (by omega) hW (inR_of (by decide)) h1) (fun y12 S13 x14 m15 e16 => ?_)
      refine g2_ck (fun q23 => ?_)
      refine g2_kn q23 (g2_newa qk126_0.2.2.2.1.1 m15 ⟨by decide, rfl⟩ (fun p17 S18 x19 k20 m21 e22 => ?_))
      refine g2_dupx qk126_0.2.2.2.1.2 rfl rfl ?_
      refine g2_kn ⟨(ek e22 (ek e16 hK0 (by decide)) (by decide)), h0.2⟩ (g2_putA qk126_0.2.2.2.2.1 m21 ⟨by decide, by decide, rfl⟩ (rfA_of (rfO_of x19)) (fun S24 m25 e26 => ?_))
      exact g2_aret qk126_0.2.2.2.2.2 m25 (rfO_of x19)
    · exact tj126_20 hQ hd h0 h1 x5 S hW hK0 none rfl
noncomputable def q127_grow (S : sS) (v0 : Int) : Option (Int × sS) :=
  bnd (sg S v0 2) (fun r1 => bdS (q126_grow S v0 (w32 (r1 + (1 : Int)))) (fun y3 S4 => some (y3, S4)))
theorem tq127_grow {κ : CX} (hQ : κ.2.2.2.2.2.2.2.2.2 = (ql_I, ql_P)) {n0 s0 : Int} {d : Nat} (hd : 5 ≤ d) {S : sS} (hW : WF2 κ S) {v0 : Int} (hK0 : sK S v0 = 9) (h0 : RfO v0) : G2 κ ql_i127 ql_m127 2 d n0 s0 (q127_grow S v0) 0 (ev_loc ql_m127.1 [(sR v0)]) [] S := by
  unfold q127_grow
  refine g2_aload qk127_0.1.1.1 rfl ?_
  refine g2_aload qk127_0.1.1.2 rfl ?_
  refine g2_kn hK0 (g2_getI qk127_0.1.2.1 hW ⟨by decide, by decide, by decide, rfl⟩ (fun r1 x2 => ?_))
  refine g2_int qk127_0.1.2.2 (1 : Int) rfl ?_
  refine g2_iadd qk127_0.2.1.1 ?_
  refine g2_kn hK0 (g2_callV (t' := 2) qk127_0.2.1.2 (by decide) (ql_ip126 hQ) (by decide) rfl rfl rfl (by omega) hW (tq126_grow hQ (by omega) hW hK0 h0 (inR_w32 _)) (fun y3 S4 x5 m6 e7 => ?_))
  exact g2_aret qk127_0.2.2 m6 x5
noncomputable def q128_add (S : sS) (v0 : Int) (v1 : Int) (v2 : Int) (v3 : Int) : Option (Int × sS) :=
  if sK S v2 = 26 then bnd (sZ S v2) (fun r2 => if v3 = r2 then (bdS (q127_grow S v0) (fun y6 S7 => if sK S7 y6 = 26 then if 0 ≤ v3 ∧ v3 < sZ S7 y6 then if v1 = -1 ∨ sK S7 v1 = 7 then bnd (uS S7 y6 v3 v1) (fun S14 => bnd (uS S14 v0 2 (w32 (v3 + (1 : Int)))) (fun S17 => some (0, S17))) else none else none else none)) else (if 0 ≤ v3 ∧ v3 < sZ S v2 then if v2 < 1000000 then if v1 = -1 ∨ sK S v1 = 7 then bnd (uS S v2 v3 v1) (fun S23 => bnd (uS S23 v0 2 (w32 (v3 + (1 : Int)))) (fun S26 => some (0, S26))) else none else none else none)) else none
theorem tq128_add {κ : CX} (hQ : κ.2.2.2.2.2.2.2.2.2 = (ql_I, ql_P)) {n0 s0 : Int} {d : Nat} (hd : 6 ≤ d) {S : sS} (hW : WF2 κ S) {v0 v1 v2 v3 : Int} (hK0 : sK S v0 = 9) (h0 : RfO v0) (h1 : RfO v1) (h2 : RfA v2) (h3 : InR v3) : G2 κ ql_i128 ql_m128 0 d n0 s0 (q128_add S v0 v1 v2 v3) 0 (ev_loc ql_m128.1 [(sR v0), (sR v1), (sR v2), (sI v3)]) [] S := by
  unfold q128_add
  refine g2_iload qk128_0.1.1.1.1.1 rfl ?_
  refine g2_aload qk128_0.1.1.1.1.2 rfl ?_
  refine g2_ck (fun q1 => ?_)
  refine g2_kn (ka2 q1 (by decide)) (g2_alen qk128_0.1.1.1.2 hW (fun r2 x3 => ?_))
  refine g2_cmeq qk128_0.1.1.2.1 h3 x3 (fun c4 => ?_) (fun c5 => ?_)
  · refine g2_aload qk128_0.1.1.2.2 rfl ?_
    refine g2_kn hK0 (g2_callV (t' := 2) qk128_0.1.2.1.1 (by decide) (ql_ip127 hQ) (by decide) rfl rfl rfl (by omega) hW (tq127_grow hQ (by omega) hW hK0 h0) (fun y6 S7 x8 m9 e10 => ?_))
    refine g2_astore qk128_0.1.2.1.2 rfl (loc2 := [some (sR v0), some (sR v1), some (sR y6), some (sI v3)]) rfl ?_
    refine g2_aload qk128_0.1.2.2.1 rfl ?_
    refine g2_iload qk128_0.1.2.2.2 rfl ?_
    refine g2_aload qk128_0.2.1.1.1 rfl ?_
    refine g2_ck (fun q11 => ?_)
    refine g2_ck (fun q12 => ?_)
    refine g2_ck (fun q13 => ?_)
    refine g2_kn ⟨Or.inl q11, x8.2, q12, q13⟩ (g2_aast qk128_0.2.1.1.2 m9 h1 (fun S14 m15 e16 => ?_))
    refine g2_aload qk128_0.2.1.2.1 rfl ?_
    refine g2_iload qk128_0.2.1.2.2 rfl ?_
    refine g2_int qk128_0.2.2.1.1 (1 : Int) rfl ?_
    refine g2_iadd qk128_0.2.2.1.2 ?_
    refine g2_kn ⟨(ek e16 (ek e10 hK0 (by decide)) (by decide)), h0.2⟩ (g2_putI qk128_0.2.2.2.1 m15 ⟨by decide, by decide, rfl⟩ (inR_w32 _) (fun S17 m18 e19 => ?_))
    exact g2_vret qk128_0.2.2.2.2 m18
  · refine g2_aload qk128_0.1.2.2.1 rfl ?_
    refine g2_iload qk128_0.1.2.2.2 rfl ?_
    refine g2_aload qk128_0.2.1.1.1 rfl ?_
    refine g2_ck (fun q20 => ?_)
    refine g2_ck (fun q21 => ?_)
    refine g2_ck (fun q22 => ?_)
    refine g2_kn ⟨Or.inl q1, q21, q20, q22⟩ (g2_aast qk128_0.2.1.1.2 hW h1 (fun S23 m24 e25 => ?_))
    refine g2_aload qk128_0.2.1.2.1 rfl ?_
    refine g2_iload qk128_0.2.1.2.2 rfl ?_
    refine g2_int qk128_0.2.2.1.1 (1 : Int) rfl ?_
    refine g2_iadd qk128_0.2.2.1.2 ?_
    refine g2_kn ⟨(ek e25 hK0 (by decide)), h0.2⟩ (g2_putI qk128_0.2.2.2.1 m24 ⟨by decide, by decide, rfl⟩ (inR_w32 _) (fun S26 m27 e28 => ?_))
    exact g2_vret qk128_0.2.2.2.2 m27
noncomputable def q129_add (S : sS) (v0 : Int) (v1 : Int) : Option (Int × sS) :=
  bnd (sg S v0 0) (fun r1 => bnd (uS S v0 0 (w32 (r1 + (1 : Int)))) (fun S3 => bnd (sg S3 v0 1) (fun r6 => bnd (sg S3 v0 2) (fun r8 => bdS (q128_add S3 v0 v1 r6 r8) (fun y10 S11 => some ((1 : Int), S11))))))
theorem tq129_add {κ : CX} (hQ : κ.2.2.2.2.2.2.2.2.2 = (ql_I, ql_P)) {n0 s0 : Int} {d : Nat} (hd : 7 ≤ d) {S : sS} (hW : WF2 κ S) {v0 v1 : Int} (hK0 : sK S v0 = 9) (h0 : RfO v0) (h1 : RfO v1) : G2 κ ql_i129 ql_m129 3 d n0 s0 (q129_add S v0 v1) 0 (ev_loc ql_m129.1 [(sR v0), (sR v1)]) [] S := by
  unfold q129_add
  refine g2_aload qk129_0.1.1.1.1 rfl ?_
  refine g2_dupR qk129_0.1.1.1.2 ?_
  refine g2_kn hK0 (g2_get66 qk129_0.1.1.2.1 hW ⟨by decide, by decide, rfl⟩ (fun r1 x2 => ?_))
  refine g2_int qk129_0.1.1.2.2 (1 : Int) rfl ?_
  refine g2_iadd qk129_0.1.2.1.1 ?_
  refine g2_kn ⟨hK0, h0.2⟩ (g2_put67 qk129_0.1.2.1.2 hW ⟨by decide, by decide, rfl⟩ (inR_w32 _) (fun S3 m4 e5 => ?_))
  refine g2_aload qk129_0.1.2.2.1 rfl ?_
  refine g2_aload qk129_0.1.2.2.2 rfl ?_
  refine g2_aload qk129_0.2.1.1.1 rfl ?_
  refine g2_kn (ek e5 hK0 (by decide)) (g2_getA qk129_0.2.1.1.2 m4 ⟨by decide, by decide, by decide, rfl⟩ (fun r6 x7 => ?_))
  refine g2_aload qk129_0.2.1.2.1 rfl ?_
  refine g2_kn (ek e5 hK0 (by decide)) (g2_getI qk129_0.2.1.2.2 m4 ⟨by decide, by decide, by decide, rfl⟩ (fun r8 x9 => ?_))
  refine g2_kn (ek e5 hK0 (by decide)) (g2_callV (t' := 0) qk129_0.2.2.1.1 (by decide) (ql_ip128 hQ) (by decide) rfl rfl rfl (by omega) m4 (tq128_add hQ (by omega) m4 (ek e5 hK0 (by decide)) h0 h1 x7 x9) (fun y10 S11 x12 m13 e14 => ?_))
  refine g2_int qk129_0.2.2.1.2 (1 : Int) rfl ?_
  exact g2_zret qk129_0.2.2.2 m13 (Or.inr rfl)
noncomputable def q135_init (S : sS) (v0 : Int) (v1 : Int) : Option (Int × sS) :=
  bnd (uS S v0 3 v1) (fun S1 => bnd (uS S1 v0 1 (-1 : Int)) (fun S4 => bnd (sg S4 v0 3) (fun r7 => if sK S4 r7 = 9 then bnd (sg S4 r7 0) (fun r10 => bnd (uS S4 v0 2 r10) (fun S12 => some (0, S12))) else none)))
theorem tq135_init {κ : CX} (hQ : κ.2.2.2.2.2.2.2.2.2 = (ql_I, ql_P)) {n0 s0 : Int} {d : Nat} (hd : 1 ≤ d) {S : sS} (hW : WF2 κ S) {v0 v1 : Int} (hK0 : sK S v0 = 10) (h0 : RfO v0) (h1 : RfO v1) : G2 κ ql_i135 ql_m135 0 d n0 s0 (q135_init S v0 v1) 0 (ev_loc ql_m135.1 [(sR v0), (sR v1)]) [] S := by
  unfold q135_init
  refine g2_aload qk135_0.1.1.1.1 rfl ?_
  refine g2_aload qk135_0.1.1.1.2 rfl ?_
  refine g2_kn ⟨hK0, h0.2⟩ (g2_putR qk135_0.1.1.2.1 hW ⟨by decide, by decide, rfl⟩ h1 (fun S1 m2 e3 => ?_))
  refine g2_aload qk135_0.1.1.2.2 rfl ?_
  refine g2_objinit qk135_0.1.2.1.1 rfl (kn_pos m2.2.1 (ek e3 hK0 (by decide)) (by decide)) ?_
  refine g2_aload qk135_0.1.2.1.2 rfl ?_
  refine g2_int qk135_0.1.2.2 (-1 : Int) rfl ?_
  refine g2_kn ⟨(ek e3 hK0 (by decide)), h0.2⟩ (g2_putI qk135_0.2.1.1.1 m2 ⟨by decide, by decide, rfl⟩ (inR_of (by decide)) (fun S4 m5 e6 => ?_))
  refine g2_aload qk135_0.2.1.1.2 rfl ?_
  refine g2_aload qk135_0.2.1.2.1 rfl ?_
  refine g2_kn (ek e6 (ek e3 hK0 (by decide)) (by decide)) (g2_getR qk135_0.2.1.2.2 m5 ⟨by decide, by decide, by decide, rfl⟩ (fun r7 x8 => ?_))
  refine g2_ck (fun q9 => ?_)
  refine g2_kn q9 (g2_get66 qk135_0.2.2.1.1 m5 ⟨by decide, by decide, rfl⟩ (fun r10 x11 => ?_))
  refine g2_kn ⟨(ek e6 (ek e3 hK0 (by decide)) (by decide)), h0.2⟩ (g2_putI qk135_0.2.2.1.2 m5 ⟨by decide, by decide, rfl⟩ x11 (fun S12 m13 e14 => ?_))
  exact g2_vret qk135_0.2.2.2 m13
noncomputable def q136_iterator (S : sS) (v0 : Int) : Option (Int × sS) :=
  if sn S < 1000000 then bnd (sn S) (fun p1 => bnd (nS S 10 4) (fun S2 => bdS (q135_init S2 p1 v0) (fun y8 S9 => some (p1, S9)))) else none
theorem tq136_iterator {κ : CX} (hQ : κ.2.2.2.2.2.2.2.2.2 = (ql_I, ql_P)) {n0 s0 : Int} {d : Nat} (hd : 2 ≤ d) {S : sS} (hW : WF2 κ S) {v0 : Int} (hK0 : sK S v0 = 9) (h0 : RfO v0) : G2 κ ql_i136 ql_m136 2 d n0 s0 (q136_iterator S v0) 0 (ev_loc ql_m136.1 [(sR v0)]) [] S := by
  unfold q136_iterator
  refine g2_ck (fun q7 => ?_)
  refine g2_kn q7 (g2_new qk136_0.1.1.1 hW ⟨⟨by decide, by decide⟩, rfl, by decide⟩ rfl (fun p1 S2 x3 k4 m5 e6 => ?_))
  refine g2_dupR qk136_0.1.1.2 ?_
  refine g2_aload qk136_0.1.2 rfl ?_
  refine g2_kn (kn_pos m5.2.1 k4.1 (by decide)) (g2_callI qk136_0.2.1 (by decide) (ql_ip135 hQ) rfl rfl rfl (by omega) ⟨_, qd_136_5⟩ (tq135_init hQ (by omega) m5 k4.1 (rfO_of x3) h0) (fun y8 S9 m11 e12 => ?_))
  exact g2_aret qk136_0.2.2 m11 (rfO_of x3)
noncomputable def q137_hasNext (S : sS) (v0 : Int) : Option (Int × sS) :=
  bnd (sg S v0 0) (fun r1 => bnd (sg S v0 3) (fun r3 => if sK S r3 = 9 then bnd (sg S r3 2) (fun r6 => if r1 = r6 then (some ((0 : Int), S)) else (some ((1 : Int), S))) else none))
theorem tq137_hasNext {κ : CX} (hQ : κ.2.2.2.2.2.2.2.2.2 = (ql_I, ql_P)) {n0 s0 : Int} {d : Nat} (hd : 1 ≤ d) {S : sS} (hW : WF2 κ S) {v0 : Int} (hK0 : sK S v0 = 10) (h0 : RfO v0) : G2 κ ql_i137 ql_m137 3 d n0 s0 (q137_hasNext S v0) 0 (ev_loc ql_m137.1 [(sR v0)]) [] S := by
  unfold q137_hasNext
  refine g2_aload qk137_0.1.1.1.1 rfl ?_
  refine g2_kn hK0 (g2_getI qk137_0.1.1.1.2 hW ⟨by decide, by decide, by decide, rfl⟩ (fun r1 x2 => ?_))
  refine g2_aload qk137_0.1.1.2 rfl ?_
  refine g2_kn hK0 (g2_getR qk137_0.1.2.1 hW ⟨by decide, by decide, by decide, rfl⟩ (fun r3 x4 => ?_))
  refine g2_ck (fun q5 => ?_)
  refine g2_kn q5 (g2_getI qk137_0.1.2.2 hW ⟨by decide, by decide, by decide, rfl⟩ (fun r6 x7 => ?_))
  refine g2_cmeq qk137_0.2.1.1.1 x2 x7 (fun c8 => ?_) (fun c9 => ?_)
  · refine g2_int qk137_0.2.2.1 (0 : Int) rfl ?_
    exact g2_zret qk137_0.2.2.2 hW (Or.inl rfl)
  · refine g2_int qk137_0.2.1.1.2 (1 : Int) rfl ?_
    refine g2_goto qk137_0.2.1.2 ?_
    exact g2_zret qk137_0.2.2.2 hW (Or.inr rfl)
noncomputable def q138_checkForComodification (S : sS) (v0 : Int) : Option (Int × sS) :=
  bnd (sg S v0 3) (fun r1 => if sK S r1 = 9 then bnd (sg S r1 0) (fun r4 => bnd (sg S v0 2) (fun r6 => if r4 = r6 then (some (0, S)) else (none))) else none)
theorem tq138_checkForComodification {κ : CX} (hQ : κ.2.2.2.2.2.2.2.2.2 = (ql_I, ql_P)) {n0 s0 : Int} {d : Nat} (hd : 1 ≤ d) {S : sS} (hW : WF2 κ S) {v0 : Int} (hK0 : sK S v0 = 10) (h0 : RfO v0) : G2 κ ql_i138 ql_m138 0 d n0 s0 (q138_checkForComodification S v0) 0 (ev_loc ql_m138.1 [(sR v0)]) [] S := by
  unfold q138_checkForComodification
  refine g2_aload qk138_0.1.1.1 rfl ?_
  refine g2_kn hK0 (g2_getR qk138_0.1.1.2 hW ⟨by decide, by decide, by decide, rfl⟩ (fun r1 x2 => ?_))
  refine g2_ck (fun q3 => ?_)
  refine g2_kn q3 (g2_get66 qk138_0.1.2.1 hW ⟨by decide, by decide, rfl⟩ (fun r4 x5 => ?_))
  refine g2_aload qk138_0.1.2.2 rfl ?_
  refine g2_kn hK0 (g2_getI qk138_0.2.1.1 hW ⟨by decide, by decide, by decide, rfl⟩ (fun r6 x7 => ?_))
  refine g2_cmeq qk138_0.2.1.2 x5 x7 (fun c8 => ?_) (fun c9 => ?_)
  · exact g2_vret qk138_0.2.2 hW
  · exact g2_none
noncomputable def q139_next (S : sS) (v0 : Int) : Option (Int × sS) :=
  bdS (q138_checkForComodification S v0) (fun y1 S2 => bnd (sg S2 v0 0) (fun r6 => bnd (sg S2 v0 3) (fun r8 => if sK S2 r8 = 9 then bnd (sg S2 r8 2) (fun r11 => if r6 < r11 then (bnd (sg S2 v0 3) (fun r15 => if sK S2 r15 = 9 then bnd (sg S2 r15 1) (fun r18 => if sK S2 r18 = 26 then bnd (sZ S2 r18) (fun r21 => if r6 < r21 then (bnd (uS S2 v0 0 (w32 (r6 + (1 : Int)))) (fun S25 => bnd (uS S25 v0 1 r6) (fun S28 => if 0 ≤ r6 ∧ r6 < sZ S28 r18 then bnd (sg S28 r18 r6) (fun r32 => some (r32, S28)) else none))) else (none)) else none) else none)) else (none)) else none)))
theorem tq139_next {κ : CX} (hQ : κ.2.2.2.2.2.2.2.2.2 = (ql_I, ql_P)) {n0 s0 : Int} {d : Nat} (hd : 2 ≤ d) {S : sS} (hW : WF2 κ S) {v0 : Int} (hK0 : sK S v0 = 10) (h0 : RfO v0) : G2 κ ql_i139 ql_m139 2 d n0 s0 (q139_next S v0) 0 (ev_loc ql_m139.1 [(sR v0)]) [] S := by
  unfold q139_next
  refine g2_aload qk139_0.1.1.1.1.1 rfl ?_
  refine g2_kn hK0 (g2_callV (t' := 0) qk139_0.1.1.1.1.2 (by decide) (ql_ip138 hQ) (by decide) rfl rfl rfl (by omega) hW (tq138_checkForComodification hQ (by omega) hW hK0 h0) (fun y1 S2 x3 m4 e5 => ?_))
  refine g2_aload qk139_0.1.1.1.2.1 rfl ?_
  refine g2_kn (ek e5 hK0 (by decide)) (g2_getI qk139_0.1.1.1.2.2 m4 ⟨by decide, by decide, by decide, rfl⟩ (fun r6 x7 => ?_))
  refine g2_istore qk139_0.1.1.2.1.1 rfl (loc2 := [some (sR v0), some (sI r6), none]) rfl ?_
  refine g2_iload qk139_0.1.1.2.1.2 rfl ?_
  refine g2_aload qk139_0.1.1.2.2.1 rfl ?_
  refine g2_kn (ek e5 hK0 (by decide)) (g2_getR qk139_0.1.1.2.2.2 m4 ⟨by decide, by decide, by decide, rfl⟩ (fun r8 x9 => ?_))
  refine g2_ck (fun q10 => ?_)
  refine g2_kn q10 (g2_getI qk139_0.1.2.1.1.1 m4 ⟨by decide, by decide, by decide, rfl⟩ (fun r11 x12 => ?_))
  refine g2_cmlt qk139_0.1.2.1.1.2 x7 x12 (fun c13 => ?_) (fun c14 => ?_)
  · refine g2_aload qk139_0.1.2.1.2.1 rfl ?_
    refine g2_kn (ek e5 hK0 (by decide)) (g2_getR qk139_0.1.2.1.2.2 m4 ⟨by decide, by decide, by decide, rfl⟩ (fun r15 x16 => ?_))
    refine g2_ck (fun q17 => ?_)
    refine g2_kn q17 (g2_getA qk139_0.1.2.2.1.1 m4 ⟨by decide, by decide, by decide, rfl⟩ (fun r18 x19 => ?_))
    refine g2_astore qk139_0.1.2.2.1.2 rfl (loc2 := [some (sR v0), some (sI r6), some (sR r18)]) rfl ?_
    refine g2_iload qk139_0.1.2.2.2 rfl ?_
    refine g2_aload qk139_0.2.1.1.1.1 rfl ?_
    refine g2_ck (fun q20 => ?_)
    refine g2_kn (ka2 q20 (by decide)) (g2_alen qk139_0.2.1.1.1.2 m4 (fun r21 x22 => ?_))
    refine g2_cmlt qk139_0.2.1.1.2.1 x7 x22 (fun c23 => ?_) (fun c24 => ?_)
    · refine g2_aload qk139_0.2.1.1.2.2 rfl ?_
      refine g2_iload qk139_0.2.1.2.1.1 rfl ?_
      refine g2_int qk139_0.2.1.2.1.2 (1 : Int) rfl ?_
      refine g2_iadd qk139_0.2.1.2.2.1 ?_
      refine g2_kn ⟨(ek e5 hK0 (by decide)), h0.2⟩ (g2_putI qk139_0.2.1.2.2.2 m4 ⟨by decide, by decide, rfl⟩ (inR_w32 _) (fun S25 m26 e27 => ?_))
      refine g2_aload qk139_0.2.2.1.1.1 rfl ?_
      refine g2_aload qk139_0.2.2.1.1.2 rfl ?_
      refine g2_iload qk139_0.2.2.1.2.1 rfl ?_
      refine g2_dupx qk139_0.2.2.1.2.2 rfl rfl ?_
      refine g2_kn ⟨(ek e27 (ek e5 hK0 (by decide)) (by decide)), h0.2⟩ (g2_putI qk139_0.2.2.2.1.1 m26 ⟨by decide, by decide, rfl⟩ x7 (fun S28 m29 e30 => ?_))
      refine g2_ck (fun q31 => ?_)
      refine g2_kn ⟨Or.inl (ek e30 (ek e27 q20 (by decide)) (by decide)), q31⟩ (g2_aald qk139_0.2.2.2.1.2 m29 (fun r32 x33 => ?_))
      exact g2_aret qk139_0.2.2.2.2 m29 x33
    · exact g2_none
  · exact g2_none
noncomputable def b103_19 (v1 : Int) (v2 : Int) (v3 : Int) (v4 : Int) (X19 : sS → Option (Int × sS)) (S : sS) : Option (Int × sS) :=
  if sK S v4 = 10 then bdS (q137_hasNext S v4) (fun y22 S23 => if y22 = 0 then (some (v3, S23)) else (bdS (q139_next S23 v4) (fun y29 S30 => if y29 = -1 ∨ sK S30 y29 = 7 then if sK S30 y29 = 7 then bnd (sg S30 y29 2) (fun r36 => if r36 = v1 then (bnd (sg S30 y29 7) (fun r40 => if r40 = v2 then (if sK S30 v3 = 9 then bdS (q129_add S30 v3 y29) (fun y45 S46 => X19 S46) else none) else (X19 S30))) else (X19 S30)) else none else none))) else none
noncomputable def l103_19 (v1 : Int) (v2 : Int) (v3 : Int) (v4 : Int) (n : Nat) : sS → Option (Int × sS) := Nat.rec (motive := fun _ => sS → Option (Int × sS)) (fun _ => none) (fun _ ih => b103_19 v1 v2 v3 v4 ih) n
theorem tb103_19 {κ : CX} (hQ : κ.2.2.2.2.2.2.2.2.2 = (ql_I, ql_P)) {n0 s0 : Int} {d : Nat} (hd : 8 ≤ d) {v1 v2 v3 v4 : Int} (h1 : RfO v1) (h2 : InR v2) (h3 : RfO v3) (h4 : RfO v4) {X19 : sS → Option (Int × sS)} (HX19 : ∀ (S : sS) (hW : WF2 κ S) (u0 : Option ev_V) (w0 : nwo u0) (u5 : Option ev_V) (w5 : nwo u5), G2 κ ql_i103 ql_m103 2 d n0 s0 (X19 S) 19 [u0, some (sR v1), some (sI v2), some (sR v3), some (sR v4), u5] [] S) : ∀ (S : sS) (hW : WF2 κ S) (u0 : Option ev_V) (w0 : nwo u0) (u5 : Option ev_V) (w5 : nwo u5), G2 κ ql_i103 ql_m103 2 d n0 s0 (b103_19 v1 v2 v3 v4 X19 S) 19 [u0, some (sR v1), some (sI v2), some (sR v3), some (sR v4), u5] [] S := by
  intro S hW u0 w0 u5 w5
  unfold b103_19
  refine g2_aload qk103_0.1.2.1.1.1 rfl ?_
  refine g2_ck (fun q21 => ?_)
  refine g2_kn q21 (g2_callF (t' := 3) qk103_0.1.2.1.1.2 (by decide) (ql_ip137 hQ) rfl rfl rfl (by omega) hW (tq137_hasNext hQ (by omega) hW q21 h4) (fun y22 S23 x24 m25 e26 => ?_))
  refine g2_ifeq qk103_0.1.2.1.2.1 (inR_b x24) (fun c27 => ?_) (fun c28 => ?_)
  · refine g2_aload qk103_0.2.2.2.1.2 rfl ?_
    exact g2_aret qk103_0.2.2.2.2 m25 h3
  · refine g2_aload qk103_0.1.2.1.2.2 rfl ?_
    refine g2_kn (ek e26 q21 (by decide)) (g2_callF (t' := 2) qk103_0.1.2.2.1.1 (by decide) (ql_ip139 hQ) rfl rfl rfl (by omega) m25 (tq139_next hQ (by omega) m25 (ek e26 q21 (by decide)) h4) (fun y29 S30 x31 m32 e33 => ?_))
    refine g2_ck (fun q34 => ?_)
    refine g2_kn q34 (g2_cast7 qk103_0.1.2.2.1.2 m32 x31 ?_)
    refine g2_astore qk103_0.1.2.2.2 rfl (loc2 := [u0, some (sR v1), some (sI v2), some (sR v3), some (sR v4), some (sR y29)]) rfl ?_
    refine g2_aload qk103_0.2.1.1.1.1 rfl ?_
    refine g2_ck (fun q35 => ?_)
    refine g2_kn q35 (g2_getR qk103_0.2.1.1.1.2 m32 ⟨by decide, by decide, by decide, rfl⟩ (fun r36 x37 => ?_))
    refine g2_aload qk103_0.2.1.1.2.1 rfl ?_
    refine g2_acmp qk103_0.2.1.1.2.2 x37 h1 (fun c38 => ?_) (fun c39 => ?_)
    · refine g2_aload qk103_0.2.1.2.1.1 rfl ?_
      refine g2_kn q35 (g2_getI qk103_0.2.1.2.1.2 m32 ⟨by decide, by decide, by decide, rfl⟩ (fun r40 x41 => ?_))
      refine g2_iload qk103_0.2.1.2.2.1 rfl ?_
      refine g2_cmeq qk103_0.2.1.2.2.2 x41 h2 (fun c42 => ?_) (fun c43 => ?_)
      · refine g2_aload qk103_0.2.2.1.1.1 rfl ?_
        refine g2_aload qk103_0.2.2.1.1.2 rfl ?_
        refine g2_ck (fun q44 => ?_)
        refine g2_kn q44 (g2_callF (t' := 3) qk103_0.2.2.1.2.1 (by decide) (ql_ip129 hQ) rfl rfl rfl (by omega) m32 (tq129_add hQ (by omega) m32 q44 h3 x31) (fun y45 S46 x47 m48 e49 => ?_))
        refine g2_popI qk103_0.2.2.1.2.2 ?_
        refine g2_goto qk103_0.2.2.2.1.1 ?_
        exact HX19 S46 m48 u0 w0 (some (sR y29)) rfl
      · refine g2_goto qk103_0.2.2.2.1.1 ?_
        exact HX19 S30 m32 u0 w0 (some (sR y29)) rfl
    · refine g2_goto qk103_0.2.2.2.1.1 ?_
      exact HX19 S30 m32 u0 w0 (some (sR y29)) rfl
theorem tl103_19 {κ : CX} (hQ : κ.2.2.2.2.2.2.2.2.2 = (ql_I, ql_P)) {n0 s0 : Int} {d : Nat} (hd : 8 ≤ d) {v1 v2 v3 v4 : Int} (h1 : RfO v1) (h2 : InR v2) (h3 : RfO v3) (h4 : RfO v4) : ∀ n : Nat, ∀ (S : sS) (hW : WF2 κ S) (u0 : Option ev_V) (w0 : nwo u0) (u5 : Option ev_V) (w5 : nwo u5), G2 κ ql_i103 ql_m103 2 d n0 s0 (l103_19 v1 v2 v3 v4 n S) 19 [u0, some (sR v1), some (sI v2), some (sR v3), some (sR v4), u5] [] S := by
  intro n
  induction n with
  | zero =>
    intro S hW u0 w0 u5 w5
    exact g2_none
  | succ n ih =>
    exact tb103_19 hQ hd h1 h2 h3 h4 ih
noncomputable def q103_children (S : sS) (v0 : Int) (v1 : Int) (v2 : Int) : Option (Int × sS) :=
  if sn S < 1000000 then bnd (sn S) (fun p1 => bnd (nS S 9 3) (fun S2 => bdS (q120_init S2 p1) (fun y8 S9 => bnd (sg S9 v0 0) (fun r13 => if sK S9 r13 = 9 then bdS (q136_iterator S9 r13) (fun y16 S17 => l103_19 v1 v2 p1 y16 fu S17) else none)))) else none
theorem tq103_children {κ : CX} (hQ : κ.2.2.2.2.2.2.2.2.2 = (ql_I, ql_P)) {n0 s0 : Int} {d : Nat} (hd : 8 ≤ d) {S : sS} (hW : WF2 κ S) {v0 v1 v2 : Int} (hK0 : sK S v0 = 8) (h0 : RfO v0) (h1 : RfO v1) (h2 : InR v2) : G2 κ ql_i103 ql_m103 2 d n0 s0 (q103_children S v0 v1 v2) 0 (ev_loc ql_m103.1 [(sR v0), (sR v1), (sI v2)]) [] S := by
  unfold q103_children
  refine g2_ck (fun q7 => ?_)
  refine g2_kn q7 (g2_new qk103_0.1.1.1.1.1 hW ⟨⟨by decide, by decide⟩, rfl, by decide⟩ rfl (fun p1 S2 x3 k4 m5 e6 => ?_))
  refine g2_dupR qk103_0.1.1.1.1.2 ?_
  refine g2_kn (kn_pos m5.2.1 k4.1 (by decide)) (g2_callI qk103_0.1.1.1.2.1 (by decide) (ql_ip120 hQ) rfl rfl rfl (by omega) ⟨_, qd_103_4⟩ (tq120_init hQ (by omega) m5 k4.1 (rfO_of x3)) (fun y8 S9 m11 e12 => ?_))
  refine g2_astore qk103_0.1.1.1.2.2 rfl (loc2 := [some (sR v0), some (sR v1), some (sI v2), some (sR p1), none, none]) rfl ?_
  refine g2_aload qk103_0.1.1.2.1.1 rfl ?_
  refine g2_kn (ek e12 (ek e6 hK0 (by decide)) (by decide)) (g2_getR qk103_0.1.1.2.1.2 m11 ⟨by decide, by decide, by decide, rfl⟩ (fun r13 x14 => ?_))
  refine g2_ck (fun q15 => ?_)
  refine g2_kn q15 (g2_callF (t' := 2) qk103_0.1.1.2.2.1 (by decide) (ql_ip136 hQ) rfl rfl rfl (by omega) m11 (tq136_iterator hQ (by omega) m11 q15 x14) (fun y16 S17 x18 m19 e20 => ?_))
  refine g2_astore qk103_0.1.1.2.2.2 rfl (loc2 := [some (sR v0), some (sR v1), some (sI v2), some (sR p1), some (sR y16), none]) rfl ?_
  exact tl103_19 hQ hd h1 h2 (rfO_of x3) x18 fu S17 m19 (some (sR v0)) rfl none rfl
noncomputable def q134_size (S : sS) (v0 : Int) : Option (Int × sS) :=
  bnd (sg S v0 2) (fun r1 => some (r1, S))
theorem tq134_size {κ : CX} (hQ : κ.2.2.2.2.2.2.2.2.2 = (ql_I, ql_P)) {n0 s0 : Int} {d : Nat} (hd : 1 ≤ d) {S : sS} (hW : WF2 κ S) {v0 : Int} (hK0 : sK S v0 = 9) (h0 : RfO v0) : G2 κ ql_i134 ql_m134 1 d n0 s0 (q134_size S v0) 0 (ev_loc ql_m134.1 [(sR v0)]) [] S := by
  unfold q134_size
  refine g2_aload qk134_0.1.1 rfl ?_
  refine g2_kn hK0 (g2_getI qk134_0.1.2 hW ⟨by decide, by decide, by decide, rfl⟩ (fun r1 x2 => ?_))
  exact g2_iret qk134_0.2 hW x2
