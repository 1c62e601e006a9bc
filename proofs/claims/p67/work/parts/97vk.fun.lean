/-! ===== the law's and the JDK's methods as functions, and that the machine comes to what they tell (own work, by program: wip/p67/gen/lawdec.py) ===== -/
noncomputable def b113_53 (v0 : Int) (v1 : Int) (v2 : Int) (X53 : Int → sS → Option (Int × sS)) (v3 : Int) (S : sS) : Option (Int × sS) :=
  if v3 < (36 : Int) then (if (1 : Int) ≤ (12 : Int) ∧ (12 : Int) < (2147483648 : Int) ∧ (0 : Int) ≤ v3 ∧ v3 < 2147483648 then bdS (q98_cell S v0 (w32 ((11 : Int) + (v3 % (12 : Int))))) (fun y56 S57 => if (1 : Int) ≤ (12 : Int) ∧ (12 : Int) < (2147483648 : Int) ∧ (0 : Int) ≤ v3 ∧ v3 < 2147483648 then if sK S57 v1 = 8 then bdS (q112_act S57 v1 v2 (opI 6 y56 (opI 0 (v3 / (12 : Int)) (5 : Int)))) (fun y63 S64 => if y63 = 0 then (some ((0 : Int), S64)) else (bdS (q111_isSame S64 v1 v2) (fun y70 S71 => if y70 = 0 then (some ((0 : Int), S71)) else (X53 (w32 (v3 + (1 : Int))) S71)))) else none else none) else none) else (some ((1 : Int), S))
noncomputable def l113_53 (v0 : Int) (v1 : Int) (v2 : Int) (n : Nat) : Int → sS → Option (Int × sS) := Nat.rec (motive := fun _ => Int → sS → Option (Int × sS)) (fun _ _ => none) (fun _ ih => b113_53 v0 v1 v2 ih) n
theorem tb113_53 {κ : CX} (hQ : κ.2.2.2.2.2.2.2.2.2 = (ql_I, ql_P)) {n0 s0 : Int} {d : Nat} (hd : 71 ≤ d) {v0 v1 v2 : Int} (h0 : RfA v0) (h1 : RfO v1) (h2 : RfO v2) {X53 : Int → sS → Option (Int × sS)} (HX53 : ∀ (v3 : Int) (h3 : InR v3) (S : sS) (hW : WF2 κ S) (u4 : Option ev_V) (w4 : nwo u4) (u5 : Option ev_V) (w5 : nwo u5) (u6 : Option ev_V) (w6 : nwo u6) (u7 : Option ev_V) (w7 : nwo u7) (u8 : Option ev_V) (w8 : nwo u8), G2 κ ql_i113 ql_m113 3 d n0 s0 (X53 v3 S) 53 [some (sR v0), some (sR v1), some (sR v2), some (sI v3), u4, u5, u6, u7, u8] [] S) : ∀ (v3 : Int) (h3 : InR v3) (S : sS) (hW : WF2 κ S) (u4 : Option ev_V) (w4 : nwo u4) (u5 : Option ev_V) (w5 : nwo u5) (u6 : Option ev_V) (w6 : nwo u6) (u7 : Option ev_V) (w7 : nwo u7) (u8 : Option ev_V) (w8 : nwo u8), G2 κ ql_i113 ql_m113 3 d n0 s0 (b113_53 v0 v1 v2 X53 v3 S) 53 [some (sR v0), some (sR v1), some (sR v2), some (sI v3), u4, u5, u6, u7, u8] [] S := by
  intro v3 h3 S hW u4 w4 u5 w5 u6 w6 u7 w7 u8 w8
  unfold b113_53
  refine g2_iload qk113_0.1.2.2.2.1.2 rfl ?_
  refine g2_int qk113_0.1.2.2.2.2 (36 : Int) rfl ?_
  refine g2_cmlt qk113_0.2.1.1.1.1.1 h3 (inR_of (by decide)) (fun c53 => ?_) (fun c54 => ?_)
  · refine g2_aload qk113_0.2.1.1.1.1.2 rfl ?_
    refine g2_aload qk113_0.2.1.1.1.2.1 rfl ?_
    refine g2_aload qk113_0.2.1.1.1.2.2 rfl ?_
    refine g2_int qk113_0.2.1.1.2.1.1 (11 : Int) rfl ?_
    refine g2_iload qk113_0.2.1.1.2.1.2 rfl ?_
    refine g2_int qk113_0.2.1.1.2.2 (12 : Int) rfl ?_
    refine g2_ck (fun q55 => ?_)
    refine g2_rem qk113_0.2.1.2.1.1.1 q55 ?_
    refine g2_iadd qk113_0.2.1.2.1.1.2 ?_
    refine g2_callS (t' := 1) qk113_0.2.1.2.1.2.1 (by decide) (ql_ip98 hQ) rfl rfl rfl rfl (by omega) (tq98_cell hQ (by omega) hW h0 (inR_w32 _)) (fun y56 S57 x58 m59 e60 => ?_)
    refine g2_iload qk113_0.2.1.2.1.2.2 rfl ?_
    refine g2_int qk113_0.2.1.2.2.1.1 (12 : Int) rfl ?_
    refine g2_ck (fun q61 => ?_)
    refine g2_div qk113_0.2.1.2.2.1.2 q61 ?_
    refine g2_int qk113_0.2.1.2.2.2 (5 : Int) rfl ?_
    refine g2_ibin qk113_0.2.2.1.1.1.1 ?_
    refine g2_ibin qk113_0.2.2.1.1.1.2 ?_
    refine g2_ck (fun q62 => ?_)
    refine g2_kn q62 (g2_callV (t' := 3) qk113_0.2.2.1.1.2.1 (by decide) (ql_ip112 hQ) (by decide) rfl rfl rfl (by omega) m59 (tq112_act hQ (by omega) m59 q62 h1 h2 (inR_opI _ _ _)) (fun y63 S64 x65 m66 e67 => ?_))
    refine g2_ifeq qk113_0.2.2.1.1.2.2 (inR_b x65) (fun c68 => ?_) (fun c69 => ?_)
    · refine g2_int qk113_0.2.2.2.1.1.2 (0 : Int) rfl ?_
      exact g2_zret qk113_0.2.2.2.1.2.1 m66 (Or.inl rfl)
    · refine g2_aload qk113_0.2.2.1.2.1.1 rfl ?_
      refine g2_aload qk113_0.2.2.1.2.1.2 rfl ?_
      refine g2_kn (ek e67 q62 (by decide)) (g2_callV (t' := 3) qk113_0.2.2.1.2.2 (by decide) (ql_ip111 hQ) (by decide) rfl rfl rfl (by omega) m66 (tq111_isSame hQ (by omega) m66 (ek e67 q62 (by decide)) h1 h2) (fun y70 S71 x72 m73 e74 => ?_))
      refine g2_ifeq qk113_0.2.2.2.1.1.1 (inR_b x72) (fun c75 => ?_) (fun c76 => ?_)
      · refine g2_int qk113_0.2.2.2.1.1.2 (0 : Int) rfl ?_
        exact g2_zret qk113_0.2.2.2.1.2.1 m73 (Or.inl rfl)
      · refine g2_iinc qk113_0.2.2.2.1.2.2 rfl rfl (1 : Int) rfl (loc2 := [some (sR v0), some (sR v1), some (sR v2), some (sI (w32 (v3 + (1 : Int)))), u4, u5, u6, u7, u8]) rfl ?_
        refine g2_goto qk113_0.2.2.2.2.1.1 ?_
        exact HX53 (w32 (v3 + (1 : Int))) (inR_w32 _) S71 m73 u4 w4 u5 w5 u6 w6 u7 w7 u8 w8
  · refine g2_int qk113_0.2.2.2.2.1.2 (1 : Int) rfl ?_
    exact g2_zret qk113_0.2.2.2.2.2 hW (Or.inr rfl)
theorem tl113_53 {κ : CX} (hQ : κ.2.2.2.2.2.2.2.2.2 = (ql_I, ql_P)) {n0 s0 : Int} {d : Nat} (hd : 71 ≤ d) {v0 v1 v2 : Int} (h0 : RfA v0) (h1 : RfO v1) (h2 : RfO v2) : ∀ n : Nat, ∀ (v3 : Int) (h3 : InR v3) (S : sS) (hW : WF2 κ S) (u4 : Option ev_V) (w4 : nwo u4) (u5 : Option ev_V) (w5 : nwo u5) (u6 : Option ev_V) (w6 : nwo u6) (u7 : Option ev_V) (w7 : nwo u7) (u8 : Option ev_V) (w8 : nwo u8), G2 κ ql_i113 ql_m113 3 d n0 s0 (l113_53 v0 v1 v2 n v3 S) 53 [some (sR v0), some (sR v1), some (sR v2), some (sI v3), u4, u5, u6, u7, u8] [] S := by
  intro n
  induction n with
  | zero =>
    intro v3 h3 S hW u4 w4 u5 w5 u6 w6 u7 w7 u8 w8
    exact g2_none
  | succ n ih =>
    exact tb113_53 hQ hd h0 h1 h2 ih
noncomputable def q113_law (S : sS) (v0 : Int) : Option (Int × sS) :=
  if sn S < 1000000 then bnd (sn S) (fun p1 => bnd (nS S 8 8) (fun S2 => bdS (q101_init S2 p1 v0) (fun y8 S9 => if sb S9 = -1 ∧ sn S9 + 624 ≤ 1000000 then bnd (sn S9) (fun p14 => bnd (mS S9) (fun S15 => bdS (q102_text S15 p1) (fun y19 S20 => bdS (q100_told S20 p14 y19) (fun y24 S25 => if p14 = sb S25 ∧ 0 ≤ p14 then bdC (fN) (fC_loadTree (sc S25) 0) (fun y30 c31 => bnd (cS S25 c31) (fun S32 => bnd (sg S32 p1 0) (fun r36 => if sK S32 r36 = 9 then bdS (q134_size S32 r36) (fun y39 S40 => if y30 = y39 then (bdS (q111_isSame S40 p1 p14) (fun y46 S47 => if y46 = 0 then (some ((0 : Int), S47)) else (l113_53 v0 p1 p14 fu (0 : Int) S47))) else (some ((0 : Int), S40))) else none))) else none)))) else none))) else none
theorem tq113_law {κ : CX} (hQ : κ.2.2.2.2.2.2.2.2.2 = (ql_I, ql_P)) {n0 s0 : Int} {d : Nat} (hd : 71 ≤ d) {S : sS} (hW : WF2 κ S) {v0 : Int}  (h0 : RfA v0) : G2 κ ql_i113 ql_m113 3 d n0 s0 (q113_law S v0) 0 (ev_loc ql_m113.1 [(sR v0)]) [] S := by
  unfold q113_law
  refine g2_ck (fun q7 => ?_)
  refine g2_kn q7 (g2_new qk113_0.1.1.1.1.1.1 hW ⟨⟨by decide, by decide⟩, rfl, by decide⟩ rfl (fun p1 S2 x3 k4 m5 e6 => ?_))
  refine g2_dupR qk113_0.1.1.1.1.1.2 ?_
  refine g2_aload qk113_0.1.1.1.1.2.1 rfl ?_
  refine g2_kn (kn_pos m5.2.1 k4.1 (by decide)) (g2_callI qk113_0.1.1.1.1.2.2 (by decide) (ql_ip101 hQ) rfl rfl rfl (by omega) ⟨_, qd_113_5⟩ (tq101_init hQ (by omega) m5 k4.1 (rfO_of x3) h0) (fun y8 S9 m11 e12 => ?_))
  refine g2_astore qk113_0.1.1.1.2.1.1 rfl (loc2 := [some (sR v0), some (sR p1), none, none, none, none, none, none, none]) rfl ?_
  refine g2_ck (fun q13 => ?_)
  refine g2_kn q13 (g2_ctor rfl qk113_0.1.1.1.2.1.2 qk113_0.1.1.1.2.2.1 qk113_0.1.1.1.2.2.2 m11 (by omega) rfl ⟨_, qd_113_13⟩ (fun p14 S15 x16 m17 e18 => ?_))
  refine g2_astore qk113_0.1.1.2.1.1.1 rfl (loc2 := [some (sR v0), some (sR p1), some (sR p14), none, none, none, none, none, none]) rfl ?_
  refine g2_aload qk113_0.1.1.2.1.1.2 rfl ?_
  refine g2_aload qk113_0.1.1.2.1.2.1 rfl ?_
  refine g2_kn (ek e18 (ek e12 k4.1 (by decide)) (by decide)) (g2_callV (t' := 2) qk113_0.1.1.2.1.2.2 (by decide) (ql_ip102 hQ) (by decide) rfl rfl rfl (by omega) m17 (tq102_text hQ (by omega) m17 (ek e18 (ek e12 k4.1 (by decide)) (by decide)) (rfO_of x3)) (fun y19 S20 x21 m22 e23 => ?_))
  refine g2_callS (t' := 0) qk113_0.1.1.2.2.1.1 (by decide) (ql_ip100 hQ) rfl rfl rfl rfl (by omega) (tq100_told hQ (by omega) m22 (rfO_of x16) (rfA_of x21)) (fun y24 S25 x26 m27 e28 => ?_)
  refine g2_aload qk113_0.1.1.2.2.1.2 rfl ?_
  refine g2_ck (fun q29 => ?_)
  refine g2_kn q29 (g2_callC (t' := 1) (Is := []) qk113_0.1.1.2.2.2 (by decide) rfl rfl (by omega) m27 (Or.inl rfl) (by decide) ⟨rfl, rfl⟩ (tfC_loadTree (by omega) m27.1.2 kd_c0) (fun y30 S32 x33 m34 e35 => ?_))
  refine g2_aload qk113_0.1.2.1.1.1.1 rfl ?_
  refine g2_kn (ek e35 (ek e28 (ek e23 (ek e18 (ek e12 k4.1 (by decide)) (by decide)) (by decide)) (by decide)) (by decide)) (g2_getR qk113_0.1.2.1.1.1.2 m34 ⟨by decide, by decide, by decide, rfl⟩ (fun r36 x37 => ?_))
  refine g2_ck (fun q38 => ?_)
  refine g2_kn q38 (g2_callF (t' := 1) qk113_0.1.2.1.1.2.1 (by decide) (ql_ip134 hQ) rfl rfl rfl (by omega) m34 (tq134_size hQ (by omega) m34 q38 x37) (fun y39 S40 x41 m42 e43 => ?_))
  refine g2_cmeq qk113_0.1.2.1.1.2.2 x33 x41 (fun c44 => ?_) (fun c45 => ?_)
  · refine g2_aload qk113_0.1.2.1.2.1.1 rfl ?_
    refine g2_aload qk113_0.1.2.1.2.1.2 rfl ?_
    refine g2_kn (ek e43 (ek e35 (ek e28 (ek e23 (ek e18 (ek e12 k4.1 (by decide)) (by decide)) (by decide)) (by decide)) (by decide)) (by decide)) (g2_callV (t' := 3) qk113_0.1.2.1.2.2 (by decide) (ql_ip111 hQ) (by decide) rfl rfl rfl (by omega) m42 (tq111_isSame hQ (by omega) m42 (ek e43 (ek e35 (ek e28 (ek e23 (ek e18 (ek e12 k4.1 (by decide)) (by decide)) (by decide)) (by decide)) (by decide)) (by decide)) (rfO_of x3) (rfO_of x16)) (fun y46 S47 x48 m49 e50 => ?_))
    refine g2_ifeq qk113_0.1.2.2.1.1.1 (inR_b x48) (fun c51 => ?_) (fun c52 => ?_)
    · refine g2_int qk113_0.1.2.2.1.1.2 (0 : Int) rfl ?_
      exact g2_zret qk113_0.1.2.2.1.2.1 m49 (Or.inl rfl)
    · refine g2_int qk113_0.1.2.2.1.2.2 (0 : Int) rfl ?_
      refine g2_istore qk113_0.1.2.2.2.1.1 rfl (loc2 := [some (sR v0), some (sR p1), some (sR p14), some (sI (0 : Int)), none, none, none, none, none]) rfl ?_
      exact tl113_53 hQ hd h0 (rfO_of x3) (rfO_of x16) fu (0 : Int) (inR_b (Or.inl rfl)) S47 m49 none rfl none rfl none rfl none rfl none rfl
  · refine g2_int qk113_0.1.2.2.1.1.2 (0 : Int) rfl ?_
    exact g2_zret qk113_0.1.2.2.1.2.1 m42 (Or.inl rfl)
