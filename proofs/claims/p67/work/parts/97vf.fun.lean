/-! ===== the law's and the JDK's methods as functions, and that the machine comes to what they tell (own work, by program: wip/p67/gen/lawdec.py) ===== -/
noncomputable def b115_5 (v1 : Int) (X5 : Int → sS → Option (Int × sS)) (v2 : Int) (S : sS) : Option (Int × sS) :=
  if v2 < 0 then (some ((0 : Int), S)) else (if v2 = v1 then (some ((1 : Int), S)) else (if sK S v2 = 7 then bnd (sg S v2 2) (fun r8 => X5 r8 S) else none))
noncomputable def l115_5 (v1 : Int) (n : Nat) : Int → sS → Option (Int × sS) := Nat.rec (motive := fun _ => Int → sS → Option (Int × sS)) (fun _ _ => none) (fun _ ih => b115_5 v1 ih) n
theorem tb115_5 {κ : CX} (hQ : κ.2.2.2.2.2.2.2.2.2 = (ql_I, ql_P)) {n0 s0 : Int} {d : Nat} (hd : 1 ≤ d) {v1 : Int} (h1 : RfO v1) {X5 : Int → sS → Option (Int × sS)} (HX5 : ∀ (v2 : Int) (h2 : RfO v2) (S : sS) (hW : WF2 κ S) (u0 : Option ev_V) (w0 : nwo u0), G2 κ ql_i115 ql_m115 3 d n0 s0 (X5 v2 S) 5 [u0, some (sR v1), some (sR v2)] [] S) : ∀ (v2 : Int) (h2 : RfO v2) (S : sS) (hW : WF2 κ S) (u0 : Option ev_V) (w0 : nwo u0), G2 κ ql_i115 ql_m115 3 d n0 s0 (b115_5 v1 X5 v2 S) 5 [u0, some (sR v1), some (sR v2)] [] S := by
  intro v2 h2 S hW u0 w0
  unfold b115_5
  refine g2_aload qk115_0.1.1.2.2 rfl ?_
  refine g2_isnull qk115_0.1.2.1.1 (fun c3 => ?_) (fun c4 => ?_)
  · refine g2_int qk115_0.2.2.2.1 (0 : Int) rfl ?_
    exact g2_zret qk115_0.2.2.2.2 hW (Or.inl rfl)
  · refine g2_aload qk115_0.1.2.1.2 rfl ?_
    refine g2_aload qk115_0.1.2.2.1 rfl ?_
    refine g2_acmp qk115_0.1.2.2.2 h2 h1 (fun c5 => ?_) (fun c6 => ?_)
    · refine g2_int qk115_0.2.1.1.1 (1 : Int) rfl ?_
      exact g2_zret qk115_0.2.1.1.2 hW (Or.inr rfl)
    · refine g2_aload qk115_0.2.1.2.1 rfl ?_
      refine g2_ck (fun q7 => ?_)
      refine g2_kn q7 (g2_getR qk115_0.2.1.2.2 hW ⟨by decide, by decide, by decide, rfl⟩ (fun r8 x9 => ?_))
      refine g2_astore qk115_0.2.2.1.1 rfl (loc2 := [u0, some (sR v1), some (sR r8)]) rfl ?_
      refine g2_goto qk115_0.2.2.1.2 ?_
      exact HX5 r8 x9 S hW u0 w0
theorem tl115_5 {κ : CX} (hQ : κ.2.2.2.2.2.2.2.2.2 = (ql_I, ql_P)) {n0 s0 : Int} {d : Nat} (hd : 1 ≤ d) {v1 : Int} (h1 : RfO v1) : ∀ n : Nat, ∀ (v2 : Int) (h2 : RfO v2) (S : sS) (hW : WF2 κ S) (u0 : Option ev_V) (w0 : nwo u0), G2 κ ql_i115 ql_m115 3 d n0 s0 (l115_5 v1 n v2 S) 5 [u0, some (sR v1), some (sR v2)] [] S := by
  intro n
  induction n with
  | zero =>
    intro v2 h2 S hW u0 w0
    exact g2_none
  | succ n ih =>
    exact tb115_5 hQ hd h1 ih
noncomputable def q115_isBelow (S : sS) (v0 : Int) (v1 : Int) : Option (Int × sS) :=
  bnd (sg S v0 2) (fun r1 => l115_5 v1 fu r1 S)
theorem tq115_isBelow {κ : CX} (hQ : κ.2.2.2.2.2.2.2.2.2 = (ql_I, ql_P)) {n0 s0 : Int} {d : Nat} (hd : 1 ≤ d) {S : sS} (hW : WF2 κ S) {v0 v1 : Int} (hK0 : sK S v0 = 7) (h0 : RfO v0) (h1 : RfO v1) : G2 κ ql_i115 ql_m115 3 d n0 s0 (q115_isBelow S v0 v1) 0 (ev_loc ql_m115.1 [(sR v0), (sR v1)]) [] S := by
  unfold q115_isBelow
  refine g2_aload qk115_0.1.1.1.1 rfl ?_
  refine g2_kn hK0 (g2_getR qk115_0.1.1.1.2 hW ⟨by decide, by decide, by decide, rfl⟩ (fun r1 x2 => ?_))
  refine g2_astore qk115_0.1.1.2.1 rfl (loc2 := [some (sR v0), some (sR v1), some (sR r1)]) rfl ?_
  exact tl115_5 hQ hd h1 fu r1 x2 S hW (some (sR v0)) rfl
noncomputable def rq116_depth (R : sS → Int → Option (Int × sS)) (S : sS) (v0 : Int) : Option (Int × sS) :=
  bnd (sg S v0 2) (fun r1 => if r1 < 0 then (some ((0 : Int), S)) else (bnd (sg S v0 2) (fun r5 => if sK S r5 = 7 then bdS (R S r5) (fun y8 S9 => some ((w32 (y8 + (1 : Int))), S9)) else none)))
noncomputable def q116_depth_n (n : Nat) : sS → Int → Option (Int × sS) := Nat.rec (motive := fun _ => sS → Int → Option (Int × sS)) (fun _ _ => none) (fun _ ih => rq116_depth ih) n
noncomputable def q116_depth (S : sS) (v0 : Int) : Option (Int × sS) := q116_depth_n 60 S v0
theorem trq116_depth {κ : CX} (hQ : κ.2.2.2.2.2.2.2.2.2 = (ql_I, ql_P)) {n0 s0 : Int} {d : Nat} (hd : 2 ≤ d) {R : sS → Int → Option (Int × sS)} (HR0 : ∀ (n0 s0 : Int) (S : sS) (hW : WF2 κ S) (v0 : Int) (hK0 : sK S v0 = 7) (h0 : RfO v0), G2 κ ql_i116 ql_m116 1 (d - 1) n0 s0 (R S v0) 0 (ev_loc ql_m116.1 [(sR v0)]) [] S) {S : sS} (hW : WF2 κ S) {v0 : Int} (hK0 : sK S v0 = 7) (h0 : RfO v0) : G2 κ ql_i116 ql_m116 1 d n0 s0 (rq116_depth R S v0) 0 (ev_loc ql_m116.1 [(sR v0)]) [] S := by
  unfold rq116_depth
  refine g2_aload qk116_0.1.1.1.1 rfl ?_
  refine g2_kn hK0 (g2_getR qk116_0.1.1.1.2 hW ⟨by decide, by decide, by decide, rfl⟩ (fun r1 x2 => ?_))
  refine g2_isnull qk116_0.1.1.2 (fun c3 => ?_) (fun c4 => ?_)
  · refine g2_int qk116_0.1.2.1.1 (0 : Int) rfl ?_
    refine g2_goto qk116_0.1.2.1.2 ?_
    exact g2_iret qk116_0.2.2.2 hW (inR_b (Or.inl rfl))
  · refine g2_aload qk116_0.1.2.2 rfl ?_
    refine g2_kn hK0 (g2_getR qk116_0.2.1.1.1 hW ⟨by decide, by decide, by decide, rfl⟩ (fun r5 x6 => ?_))
    refine g2_ck (fun q7 => ?_)
    refine g2_kn q7 (g2_callV (t' := 1) qk116_0.2.1.1.2 (by decide) (ql_ip116 hQ) (by decide) rfl rfl rfl (by omega) hW (HR0 _ _ S hW r5 q7 x6) (fun y8 S9 x10 m11 e12 => ?_))
    refine g2_int qk116_0.2.1.2 (1 : Int) rfl ?_
    refine g2_iadd qk116_0.2.2.1 ?_
    exact g2_iret qk116_0.2.2.2 m11 (inR_w32 _)
theorem tnq116_depth {κ : CX} (hQ : κ.2.2.2.2.2.2.2.2.2 = (ql_I, ql_P)) : ∀ (n : Nat) (n0 s0 : Int) (d : Nat) (hd : 1 + n ≤ d) (S : sS) (hW : WF2 κ S) (v0 : Int) (hK0 : sK S v0 = 7) (h0 : RfO v0), G2 κ ql_i116 ql_m116 1 d n0 s0 (q116_depth_n n S v0) 0 (ev_loc ql_m116.1 [(sR v0)]) [] S := by
  intro n
  induction n with
  | zero =>
    intros
    exact g2_none
  | succ n ih =>
    intro n0 s0 d hd S hW v0 hK0 h0
    exact trq116_depth hQ (by omega) (R := q116_depth_n n) (fun n0 s0 S hW v0 hK0 h0 => ih n0 s0 (d - 1) (by omega) S hW v0 hK0 h0) hW hK0 h0
theorem tq116_depth {κ : CX} (hQ : κ.2.2.2.2.2.2.2.2.2 = (ql_I, ql_P)) {n0 s0 : Int} {d : Nat} (hd : 62 ≤ d) {S : sS} (hW : WF2 κ S) {v0 : Int} (hK0 : sK S v0 = 7) (h0 : RfO v0) : G2 κ ql_i116 ql_m116 1 d n0 s0 (q116_depth S v0) 0 (ev_loc ql_m116.1 [(sR v0)]) [] S := tnq116_depth hQ 60 n0 s0 d (by omega) S hW v0 hK0 h0
noncomputable def q105_can (S : sS) (v0 : Int) (v1 : Int) (v2 : Int) : Option (Int × sS) :=
  bnd (sg S v1 7) (fun r1 => if r1 = 0 then (if v1 = v2 then (some ((0 : Int), S)) else (bdS (q115_isBelow S v1 v2) (fun y7 S8 => if y7 = 0 then (bnd (sg S8 v1 11) (fun r14 => if r14 = 0 then (bdS (q104_room S8 v0 v1) (fun y18 S19 => if 0 < y18 then (bdS (q116_depth S19 v1) (fun y25 S26 => bnd (sg S26 v0 4) (fun r30 => if y25 < r30 then (bnd (sg S26 v1 9) (fun r34 => bnd (sg S26 v2 1) (fun r36 => if (opI 1 (opI 5 r34 r36) (1 : Int)) = 0 then (some ((1 : Int), S26)) else (some ((0 : Int), S26))))) else (some ((0 : Int), S26))))) else (some ((0 : Int), S19)))) else (some ((0 : Int), S8)))) else (some ((0 : Int), S8))))) else (some ((0 : Int), S)))
theorem tq105_can {κ : CX} (hQ : κ.2.2.2.2.2.2.2.2.2 = (ql_I, ql_P)) {n0 s0 : Int} {d : Nat} (hd : 63 ≤ d) {S : sS} (hW : WF2 κ S) {v0 v1 v2 : Int} (hK0 : sK S v0 = 8) (hK1 : sK S v1 = 7) (hK2 : sK S v2 = 7) (h0 : RfO v0) (h1 : RfO v1) (h2 : RfO v2) : G2 κ ql_i105 ql_m105 3 d n0 s0 (q105_can S v0 v1 v2) 0 (ev_loc ql_m105.1 [(sR v0), (sR v1), (sR v2)]) [] S := by
  unfold q105_can
  refine g2_aload qk105_0.1.1.1.1.1.1 rfl ?_
  refine g2_kn hK1 (g2_getI qk105_0.1.1.1.1.1.2 hW ⟨by decide, by decide, by decide, rfl⟩ (fun r1 x2 => ?_))
  refine g2_ifeq qk105_0.1.1.1.1.2 x2 (fun c3 => ?_) (fun c4 => ?_)
  · refine g2_aload qk105_0.1.1.1.2.1 rfl ?_
    refine g2_aload qk105_0.1.1.1.2.2 rfl ?_
    refine g2_acmp qk105_0.1.1.2.1.1 h1 h2 (fun c5 => ?_) (fun c6 => ?_)
    · refine g2_int qk105_0.2.2.2.2.1 (0 : Int) rfl ?_
      exact g2_zret qk105_0.2.2.2.2.2 hW (Or.inl rfl)
    · refine g2_aload qk105_0.1.1.2.1.2 rfl ?_
      refine g2_aload qk105_0.1.1.2.2.1 rfl ?_
      refine g2_kn hK1 (g2_callV (t' := 3) qk105_0.1.1.2.2.2 (by decide) (ql_ip115 hQ) (by decide) rfl rfl rfl (by omega) hW (tq115_isBelow hQ (by omega) hW hK1 h1 h2) (fun y7 S8 x9 m10 e11 => ?_))
      refine g2_ifeq qk105_0.1.2.1.1.1 (inR_b x9) (fun c12 => ?_) (fun c13 => ?_)
      · refine g2_aload qk105_0.1.2.1.1.2 rfl ?_
        refine g2_kn (ek e11 hK1 (by decide)) (g2_getB qk105_0.1.2.1.2.1 m10 ⟨by decide, by decide, by decide, rfl⟩ (fun r14 x15 => ?_))
        refine g2_ifeq qk105_0.1.2.1.2.2 (inR_b x15) (fun c16 => ?_) (fun c17 => ?_)
        · refine g2_aload qk105_0.1.2.2.1.1 rfl ?_
          refine g2_aload qk105_0.1.2.2.1.2 rfl ?_
          refine g2_kn (ek e11 hK0 (by decide)) (g2_callV (t' := 1) qk105_0.1.2.2.2.1 (by decide) (ql_ip104 hQ) (by decide) rfl rfl rfl (by omega) m10 (tq104_room hQ (by omega) m10 (ek e11 hK0 (by decide)) (ek e11 hK1 (by decide)) h0 h1) (fun y18 S19 x20 m21 e22 => ?_))
          refine g2_ifgt qk105_0.1.2.2.2.2 x20 (fun c23 => ?_) (fun c24 => ?_)
          · refine g2_aload qk105_0.2.1.1.1.1.1 rfl ?_
            refine g2_kn (ek e22 (ek e11 hK1 (by decide)) (by decide)) (g2_callV (t' := 1) qk105_0.2.1.1.1.1.2 (by decide) (ql_ip116 hQ) (by decide) rfl rfl rfl (by omega) m21 (tq116_depth hQ (by omega) m21 (ek e22 (ek e11 hK1 (by decide)) (by decide)) h1) (fun y25 S26 x27 m28 e29 => ?_))
            refine g2_aload qk105_0.2.1.1.1.2 rfl ?_
            refine g2_kn (ek e29 (ek e22 (ek e11 hK0 (by decide)) (by decide)) (by decide)) (g2_getI qk105_0.2.1.1.2.1 m28 ⟨by decide, by decide, by decide, rfl⟩ (fun r30 x31 => ?_))
            refine g2_cmlt qk105_0.2.1.1.2.2 x27 x31 (fun c32 => ?_) (fun c33 => ?_)
            · refine g2_aload qk105_0.2.1.2.1.1 rfl ?_
              refine g2_kn (ek e29 (ek e22 (ek e11 hK1 (by decide)) (by decide)) (by decide)) (g2_getI qk105_0.2.1.2.1.2 m28 ⟨by decide, by decide, by decide, rfl⟩ (fun r34 x35 => ?_))
              refine g2_aload qk105_0.2.1.2.2.1 rfl ?_
              refine g2_kn (ek e29 (ek e22 (ek e11 hK2 (by decide)) (by decide)) (by decide)) (g2_getI qk105_0.2.1.2.2.2 m28 ⟨by decide, by decide, by decide, rfl⟩ (fun r36 x37 => ?_))
              refine g2_ibin qk105_0.2.2.1.1.1 ?_
              refine g2_int qk105_0.2.2.1.1.2 (1 : Int) rfl ?_
              refine g2_ibin qk105_0.2.2.1.2.1 ?_
              refine g2_ifeq qk105_0.2.2.1.2.2 (inR_opI _ _ _) (fun c38 => ?_) (fun c39 => ?_)
              · refine g2_int qk105_0.2.2.2.1.1 (1 : Int) rfl ?_
                refine g2_goto qk105_0.2.2.2.1.2 ?_
                exact g2_zret qk105_0.2.2.2.2.2 m28 (Or.inr rfl)
              · refine g2_int qk105_0.2.2.2.2.1 (0 : Int) rfl ?_
                exact g2_zret qk105_0.2.2.2.2.2 m28 (Or.inl rfl)
            · refine g2_int qk105_0.2.2.2.2.1 (0 : Int) rfl ?_
              exact g2_zret qk105_0.2.2.2.2.2 m28 (Or.inl rfl)
          · refine g2_int qk105_0.2.2.2.2.1 (0 : Int) rfl ?_
            exact g2_zret qk105_0.2.2.2.2.2 m21 (Or.inl rfl)
        · refine g2_int qk105_0.2.2.2.2.1 (0 : Int) rfl ?_
          exact g2_zret qk105_0.2.2.2.2.2 m10 (Or.inl rfl)
      · refine g2_int qk105_0.2.2.2.2.1 (0 : Int) rfl ?_
        exact g2_zret qk105_0.2.2.2.2.2 m10 (Or.inl rfl)
  · refine g2_int qk105_0.2.2.2.2.1 (0 : Int) rfl ?_
    exact g2_zret qk105_0.2.2.2.2.2 hW (Or.inl rfl)
noncomputable def j106_282 (X12 : Int → sS → Option (Int × sS)) (v0 : Int) (v1 : Int) (v2 : Int) (v3 : Int) (v4 : Int) (v5 : Int) (v7 : Int) (S : sS) : Option (Int × sS) :=
  if v7 < 0 then (X12 (w32 (v5 + (1 : Int))) S) else (some (v7, S))
theorem tj106_282 {κ : CX} (hQ : κ.2.2.2.2.2.2.2.2.2 = (ql_I, ql_P)) {n0 s0 : Int} {d : Nat} (hd : 64 ≤ d) {v0 v1 v2 v3 v4 v5 v7 : Int} (h0 : RfO v0) (h1 : RfO v1) (h2 : RfO v2) (h3 : RfO v3) (h4 : InR v4) (h5 : InR v5) (h7 : RfO v7) {X12 : Int → sS → Option (Int × sS)} (HX12 : ∀ (v5 : Int) (h5 : InR v5) (S : sS) (hW : WF2 κ S) (hK0 : sK S v0 = 8) (hK1 : sK S v1 = 7) (hK2 : sK S v2 = 7) (u6 : Option ev_V) (w6 : nwo u6) (u7 : Option ev_V) (w7 : nwo u7) (u8 : Option ev_V) (w8 : nwo u8) (u9 : Option ev_V) (w9 : nwo u9), G2 κ ql_i106 ql_m106 2 d n0 s0 (X12 v5 S) 12 [some (sR v0), some (sR v1), some (sR v2), some (sR v3), some (sI v4), some (sI v5), u6, u7, u8, u9] [] S) (S : sS) (hW : WF2 κ S) (hK0 : sK S v0 = 8) (hK1 : sK S v1 = 7) (hK2 : sK S v2 = 7) (u6 : Option ev_V) (w6 : nwo u6) (u8 : Option ev_V) (w8 : nwo u8) (u9 : Option ev_V) (w9 : nwo u9) : G2 κ ql_i106 ql_m106 2 d n0 s0 (j106_282 X12 v0 v1 v2 v3 v4 v5 v7 S) 282 [some (sR v0), some (sR v1), some (sR v2), some (sR v3), some (sI v4), some (sI v5), u6, some (sR v7), u8, u9] [] S := by
  unfold j106_282
  refine g2_aload qk106_2.2.1.2.2.2 rfl ?_
  refine g2_isnull qk106_2.2.2.1.1.1.1 (fun c54 => ?_) (fun c55 => ?_)
  · refine g2_iinc qk106_2.2.2.1.2.1.1 rfl rfl (1 : Int) rfl (loc2 := [some (sR v0), some (sR v1), some (sR v2), some (sR v3), some (sI v4), some (sI (w32 (v5 + (1 : Int)))), u6, some (sR v7), u8, u9]) rfl ?_
    refine g2_goto qk106_2.2.2.1.2.1.2 ?_
    exact HX12 (w32 (v5 + (1 : Int))) (inR_w32 _) S hW hK0 hK1 hK2 u6 w6 (some (sR v7)) rfl u8 w8 u9 w9
  · refine g2_aload qk106_2.2.2.1.1.1.2 rfl ?_
    exact g2_aret qk106_2.2.2.1.1.2 hW h7
noncomputable def j106_81 (X12 : Int → sS → Option (Int × sS)) (v0 : Int) (v1 : Int) (v2 : Int) (v3 : Int) (v4 : Int) (v5 : Int) (v7 : Int) (S : sS) : Option (Int × sS) :=
  j106_282 X12 v0 v1 v2 v3 v4 v5 v7 S
theorem tj106_81 {κ : CX} (hQ : κ.2.2.2.2.2.2.2.2.2 = (ql_I, ql_P)) {n0 s0 : Int} {d : Nat} (hd : 64 ≤ d) {v0 v1 v2 v3 v4 v5 v7 : Int} (h0 : RfO v0) (h1 : RfO v1) (h2 : RfO v2) (h3 : RfO v3) (h4 : InR v4) (h5 : InR v5) (h7 : RfO v7) {X12 : Int → sS → Option (Int × sS)} (HX12 : ∀ (v5 : Int) (h5 : InR v5) (S : sS) (hW : WF2 κ S) (hK0 : sK S v0 = 8) (hK1 : sK S v1 = 7) (hK2 : sK S v2 = 7) (u6 : Option ev_V) (w6 : nwo u6) (u7 : Option ev_V) (w7 : nwo u7) (u8 : Option ev_V) (w8 : nwo u8) (u9 : Option ev_V) (w9 : nwo u9), G2 κ ql_i106 ql_m106 2 d n0 s0 (X12 v5 S) 12 [some (sR v0), some (sR v1), some (sR v2), some (sR v3), some (sI v4), some (sI v5), u6, u7, u8, u9] [] S) (S : sS) (hW : WF2 κ S) (hK0 : sK S v0 = 8) (hK1 : sK S v1 = 7) (hK2 : sK S v2 = 7) (u6 : Option ev_V) (w6 : nwo u6) (u8 : Option ev_V) (w8 : nwo u8) (u9 : Option ev_V) (w9 : nwo u9) : G2 κ ql_i106 ql_m106 2 d n0 s0 (j106_81 X12 v0 v1 v2 v3 v4 v5 v7 S) 81 [some (sR v0), some (sR v1), some (sR v2), some (sR v3), some (sI v4), some (sI v5), u6, some (sR v7), u8, u9] [] S := by
  unfold j106_81
  refine g2_goto qk106_0.2.2.2.1.1.2 ?_
  exact tj106_282 hQ hd h0 h1 h2 h3 h4 h5 h7 HX12 S hW hK0 hK1 hK2 u6 w6 u8 w8 u9 w9
noncomputable def b106_39 (X12 : Int → sS → Option (Int × sS)) (v0 : Int) (v1 : Int) (v2 : Int) (v3 : Int) (v4 : Int) (v5 : Int) (X39 : Int → Int → sS → Option (Int × sS)) (v7 : Int) (v8 : Int) (S : sS) : Option (Int × sS) :=
  if v8 < 0 then (j106_81 X12 v0 v1 v2 v3 v4 v5 v7 S) else (if sK S v8 = 7 then bnd (sg S v8 2) (fun r37 => if r37 < 0 then (j106_81 X12 v0 v1 v2 v3 v4 v5 v7 S) else (if v7 < 0 then (bdS (q105_can S v0 v8 v1) (fun y43 S44 => if y43 = 0 then (bnd (sg S44 v8 2) (fun r50 => X39 v7 r50 S44)) else (bnd (sg S44 v8 2) (fun r52 => X39 v8 r52 S44)))) else (j106_81 X12 v0 v1 v2 v3 v4 v5 v7 S))) else none)
noncomputable def l106_39 (X12 : Int → sS → Option (Int × sS)) (v0 : Int) (v1 : Int) (v2 : Int) (v3 : Int) (v4 : Int) (v5 : Int) (n : Nat) : Int → Int → sS → Option (Int × sS) := Nat.rec (motive := fun _ => Int → Int → sS → Option (Int × sS)) (fun _ _ _ => none) (fun _ ih => b106_39 X12 v0 v1 v2 v3 v4 v5 ih) n
theorem tb106_39 {κ : CX} (hQ : κ.2.2.2.2.2.2.2.2.2 = (ql_I, ql_P)) {n0 s0 : Int} {d : Nat} (hd : 64 ≤ d) {v0 v1 v2 v3 v4 v5 : Int} (h0 : RfO v0) (h1 : RfO v1) (h2 : RfO v2) (h3 : RfO v3) (h4 : InR v4) (h5 : InR v5) {X12 : Int → sS → Option (Int × sS)} (HX12 : ∀ (v5 : Int) (h5 : InR v5) (S : sS) (hW : WF2 κ S) (hK0 : sK S v0 = 8) (hK1 : sK S v1 = 7) (hK2 : sK S v2 = 7) (u6 : Option ev_V) (w6 : nwo u6) (u7 : Option ev_V) (w7 : nwo u7) (u8 : Option ev_V) (w8 : nwo u8) (u9 : Option ev_V) (w9 : nwo u9), G2 κ ql_i106 ql_m106 2 d n0 s0 (X12 v5 S) 12 [some (sR v0), some (sR v1), some (sR v2), some (sR v3), some (sI v4), some (sI v5), u6, u7, u8, u9] [] S) {X39 : Int → Int → sS → Option (Int × sS)} (HX39 : ∀ (v7 : Int) (h7 : RfO v7) (v8 : Int) (h8 : RfO v8) (S : sS) (hW : WF2 κ S) (hK0 : sK S v0 = 8) (hK1 : sK S v1 = 7) (hK2 : sK S v2 = 7) (u6 : Option ev_V) (w6 : nwo u6) (u9 : Option ev_V) (w9 : nwo u9), G2 κ ql_i106 ql_m106 2 d n0 s0 (X39 v7 v8 S) 39 [some (sR v0), some (sR v1), some (sR v2), some (sR v3), some (sI v4), some (sI v5), u6, some (sR v7), some (sR v8), u9] [] S) : ∀ (v7 : Int) (h7 : RfO v7) (v8 : Int) (h8 : RfO v8) (S : sS) (hW : WF2 κ S) (hK0 : sK S v0 = 8) (hK1 : sK S v1 = 7) (hK2 : sK S v2 = 7) (u6 : Option ev_V) (w6 : nwo u6) (u9 : Option ev_V) (w9 : nwo u9), G2 κ ql_i106 ql_m106 2 d n0 s0 (b106_39 X12 v0 v1 v2 v3 v4 v5 X39 v7 v8 S) 39 [some (sR v0), some (sR v1), some (sR v2), some (sR v3), some (sI v4), some (sI v5), u6, some (sR v7), some (sR v8), u9] [] S := by
  intro v7 h7 v8 h8 S hW hK0 hK1 hK2 u6 w6 u9 w9
  unfold b106_39
  refine g2_aload qk106_0.2.1.1.1.1.1 rfl ?_
  refine g2_isnull qk106_0.2.1.1.1.1.2 (fun c34 => ?_) (fun c35 => ?_)
  · exact tj106_81 hQ hd h0 h1 h2 h3 h4 h5 h7 HX12 S hW hK0 hK1 hK2 u6 w6 (some (sR v8)) rfl u9 w9
  · refine g2_aload qk106_0.2.1.1.1.2 rfl ?_
    refine g2_ck (fun q36 => ?_)
    refine g2_kn q36 (g2_getR qk106_0.2.1.1.2.1.1 hW ⟨by decide, by decide, by decide, rfl⟩ (fun r37 x38 => ?_))
    refine g2_isnull qk106_0.2.1.1.2.1.2 (fun c39 => ?_) (fun c40 => ?_)
    · exact tj106_81 hQ hd h0 h1 h2 h3 h4 h5 h7 HX12 S hW hK0 hK1 hK2 u6 w6 (some (sR v8)) rfl u9 w9
    · refine g2_aload qk106_0.2.1.1.2.2 rfl ?_
      refine g2_isnull qk106_0.2.1.2.1.1.1 (fun c41 => ?_) (fun c42 => ?_)
      · refine g2_aload qk106_0.2.1.2.1.1.2 rfl ?_
        refine g2_aload qk106_0.2.1.2.1.2 rfl ?_
        refine g2_aload qk106_0.2.1.2.2.1 rfl ?_
        refine g2_kn hK0 (g2_callV (t' := 3) qk106_0.2.1.2.2.2 (by decide) (ql_ip105 hQ) (by decide) rfl rfl rfl (by omega) hW (tq105_can hQ (by omega) hW hK0 q36 hK1 h0 h8 h1) (fun y43 S44 x45 m46 e47 => ?_))
        refine g2_ifeq qk106_0.2.2.1.1.1.1 (inR_b x45) (fun c48 => ?_) (fun c49 => ?_)
        · refine g2_aload qk106_0.2.2.1.2.1.1 rfl ?_
          refine g2_kn (ek e47 q36 (by decide)) (g2_getR qk106_0.2.2.1.2.1.2 m46 ⟨by decide, by decide, by decide, rfl⟩ (fun r50 x51 => ?_))
          refine g2_astore qk106_0.2.2.1.2.2 rfl (loc2 := [some (sR v0), some (sR v1), some (sR v2), some (sR v3), some (sI v4), some (sI v5), u6, some (sR v7), some (sR r50), u9]) rfl ?_
          refine g2_goto qk106_0.2.2.2.1.1.1 ?_
          exact HX39 v7 h7 r50 x51 S44 m46 (ek e47 hK0 (by decide)) (ek e47 hK1 (by decide)) (ek e47 hK2 (by decide)) u6 w6 u9 w9
        · refine g2_aload qk106_0.2.2.1.1.1.2 rfl ?_
          refine g2_astore qk106_0.2.2.1.1.2 w6 (loc2 := [some (sR v0), some (sR v1), some (sR v2), some (sR v3), some (sI v4), some (sI v5), u6, some (sR v8), some (sR v8), u9]) rfl ?_
          refine g2_aload qk106_0.2.2.1.2.1.1 rfl ?_
          refine g2_kn (ek e47 q36 (by decide)) (g2_getR qk106_0.2.2.1.2.1.2 m46 ⟨by decide, by decide, by decide, rfl⟩ (fun r52 x53 => ?_))
          refine g2_astore qk106_0.2.2.1.2.2 rfl (loc2 := [some (sR v0), some (sR v1), some (sR v2), some (sR v3), some (sI v4), some (sI v5), u6, some (sR v8), some (sR r52), u9]) rfl ?_
          refine g2_goto qk106_0.2.2.2.1.1.1 ?_
          exact HX39 v8 h8 r52 x53 S44 m46 (ek e47 hK0 (by decide)) (ek e47 hK1 (by decide)) (ek e47 hK2 (by decide)) u6 w6 u9 w9
      · exact tj106_81 hQ hd h0 h1 h2 h3 h4 h5 h7 HX12 S hW hK0 hK1 hK2 u6 w6 (some (sR v8)) rfl u9 w9
theorem tl106_39 {κ : CX} (hQ : κ.2.2.2.2.2.2.2.2.2 = (ql_I, ql_P)) {n0 s0 : Int} {d : Nat} (hd : 64 ≤ d) {v0 v1 v2 v3 v4 v5 : Int} (h0 : RfO v0) (h1 : RfO v1) (h2 : RfO v2) (h3 : RfO v3) (h4 : InR v4) (h5 : InR v5) {X12 : Int → sS → Option (Int × sS)} (HX12 : ∀ (v5 : Int) (h5 : InR v5) (S : sS) (hW : WF2 κ S) (hK0 : sK S v0 = 8) (hK1 : sK S v1 = 7) (hK2 : sK S v2 = 7) (u6 : Option ev_V) (w6 : nwo u6) (u7 : Option ev_V) (w7 : nwo u7) (u8 : Option ev_V) (w8 : nwo u8) (u9 : Option ev_V) (w9 : nwo u9), G2 κ ql_i106 ql_m106 2 d n0 s0 (X12 v5 S) 12 [some (sR v0), some (sR v1), some (sR v2), some (sR v3), some (sI v4), some (sI v5), u6, u7, u8, u9] [] S) : ∀ n : Nat, ∀ (v7 : Int) (h7 : RfO v7) (v8 : Int) (h8 : RfO v8) (S : sS) (hW : WF2 κ S) (hK0 : sK S v0 = 8) (hK1 : sK S v1 = 7) (hK2 : sK S v2 = 7) (u6 : Option ev_V) (w6 : nwo u6) (u9 : Option ev_V) (w9 : nwo u9), G2 κ ql_i106 ql_m106 2 d n0 s0 (l106_39 X12 v0 v1 v2 v3 v4 v5 n v7 v8 S) 39 [some (sR v0), some (sR v1), some (sR v2), some (sR v3), some (sI v4), some (sI v5), u6, some (sR v7), some (sR v8), u9] [] S := by
  intro n
  induction n with
  | zero =>
    intro v7 h7 v8 h8 S hW hK0 hK1 hK2 u6 w6 u9 w9
    exact g2_none
  | succ n ih =>
    exact tb106_39 hQ hd h0 h1 h2 h3 h4 h5 HX12 ih
noncomputable def j106_160 (X12 : Int → sS → Option (Int × sS)) (X101 : Int → sS → Option (Int × sS)) (v0 : Int) (v1 : Int) (v2 : Int) (v3 : Int) (v4 : Int) (v5 : Int) (v6 : Int) (v7 : Int) (v8 : Int) (v9 : Int) (S : sS) : Option (Int × sS) :=
  if sK S v9 = 7 then bdS (q105_can S v0 v9 v1) (fun y88 S89 => if y88 = 0 then (X101 v7 S89) else (X101 v9 S89)) else none
theorem tj106_160 {κ : CX} (hQ : κ.2.2.2.2.2.2.2.2.2 = (ql_I, ql_P)) {n0 s0 : Int} {d : Nat} (hd : 64 ≤ d) {v0 v1 v2 v3 v4 v5 v6 v7 v8 v9 : Int} (h0 : RfO v0) (h1 : RfO v1) (h2 : RfO v2) (h3 : RfO v3) (h4 : InR v4) (h5 : InR v5) (h6 : InR v6) (h7 : RfO v7) (h8 : RfO v8) (h9 : RfO v9) {X12 : Int → sS → Option (Int × sS)} {X101 : Int → sS → Option (Int × sS)} (HX12 : ∀ (v5 : Int) (h5 : InR v5) (S : sS) (hW : WF2 κ S) (hK0 : sK S v0 = 8) (hK1 : sK S v1 = 7) (hK2 : sK S v2 = 7) (u6 : Option ev_V) (w6 : nwo u6) (u7 : Option ev_V) (w7 : nwo u7) (u8 : Option ev_V) (w8 : nwo u8) (u9 : Option ev_V) (w9 : nwo u9), G2 κ ql_i106 ql_m106 2 d n0 s0 (X12 v5 S) 12 [some (sR v0), some (sR v1), some (sR v2), some (sR v3), some (sI v4), some (sI v5), u6, u7, u8, u9] [] S) (HX101 : ∀ (v7 : Int) (h7 : RfO v7) (S : sS) (hW : WF2 κ S) (hK0 : sK S v0 = 8) (hK1 : sK S v1 = 7) (hK2 : sK S v2 = 7) (u9 : Option ev_V) (w9 : nwo u9), G2 κ ql_i106 ql_m106 2 d n0 s0 (X101 v7 S) 101 [some (sR v0), some (sR v1), some (sR v2), some (sR v3), some (sI v4), some (sI v5), some (sI v6), some (sR v7), some (sR v8), u9] [] S) (S : sS) (hW : WF2 κ S) (hK0 : sK S v0 = 8) (hK1 : sK S v1 = 7) (hK2 : sK S v2 = 7) : G2 κ ql_i106 ql_m106 2 d n0 s0 (j106_160 X12 X101 v0 v1 v2 v3 v4 v5 v6 v7 v8 v9 S) 160 [some (sR v0), some (sR v1), some (sR v2), some (sR v3), some (sI v4), some (sI v5), some (sI v6), some (sR v7), some (sR v8), some (sR v9)] [] S := by
  unfold j106_160
  refine g2_aload qk106_1.2.1.1.2.1.2 rfl ?_
  refine g2_aload qk106_1.2.1.1.2.2 rfl ?_
  refine g2_aload qk106_1.2.1.2.1.1.1 rfl ?_
  refine g2_ck (fun q87 => ?_)
  refine g2_kn hK0 (g2_callV (t' := 3) qk106_1.2.1.2.1.1.2 (by decide) (ql_ip105 hQ) (by decide) rfl rfl rfl (by omega) hW (tq105_can hQ (by omega) hW hK0 q87 hK1 h0 h9 h1) (fun y88 S89 x90 m91 e92 => ?_))
  refine g2_ifeq qk106_1.2.1.2.1.2 (inR_b x90) (fun c93 => ?_) (fun c94 => ?_)
  · refine g2_goto qk106_1.2.2.1.1.1.1 ?_
    exact HX101 v7 h7 S89 m91 (ek e92 hK0 (by decide)) (ek e92 hK1 (by decide)) (ek e92 hK2 (by decide)) (some (sR v9)) rfl
  · refine g2_aload qk106_1.2.1.2.2.1 rfl ?_
    refine g2_astore qk106_1.2.1.2.2.2 rfl (loc2 := [some (sR v0), some (sR v1), some (sR v2), some (sR v3), some (sI v4), some (sI v5), some (sI v6), some (sR v9), some (sR v8), some (sR v9)]) rfl ?_
    refine g2_goto qk106_1.2.2.1.1.1.1 ?_
    exact HX101 v9 h9 S89 m91 (ek e92 hK0 (by decide)) (ek e92 hK1 (by decide)) (ek e92 hK2 (by decide)) (some (sR v9)) rfl
noncomputable def j106_177 (X12 : Int → sS → Option (Int × sS)) (v0 : Int) (v1 : Int) (v2 : Int) (v3 : Int) (v4 : Int) (v5 : Int) (v7 : Int) (S : sS) : Option (Int × sS) :=
  j106_282 X12 v0 v1 v2 v3 v4 v5 v7 S
theorem tj106_177 {κ : CX} (hQ : κ.2.2.2.2.2.2.2.2.2 = (ql_I, ql_P)) {n0 s0 : Int} {d : Nat} (hd : 64 ≤ d) {v0 v1 v2 v3 v4 v5 v7 : Int} (h0 : RfO v0) (h1 : RfO v1) (h2 : RfO v2) (h3 : RfO v3) (h4 : InR v4) (h5 : InR v5) (h7 : RfO v7) {X12 : Int → sS → Option (Int × sS)} (HX12 : ∀ (v5 : Int) (h5 : InR v5) (S : sS) (hW : WF2 κ S) (hK0 : sK S v0 = 8) (hK1 : sK S v1 = 7) (hK2 : sK S v2 = 7) (u6 : Option ev_V) (w6 : nwo u6) (u7 : Option ev_V) (w7 : nwo u7) (u8 : Option ev_V) (w8 : nwo u8) (u9 : Option ev_V) (w9 : nwo u9), G2 κ ql_i106 ql_m106 2 d n0 s0 (X12 v5 S) 12 [some (sR v0), some (sR v1), some (sR v2), some (sR v3), some (sI v4), some (sI v5), u6, u7, u8, u9] [] S) (S : sS) (hW : WF2 κ S) (hK0 : sK S v0 = 8) (hK1 : sK S v1 = 7) (hK2 : sK S v2 = 7) (u6 : Option ev_V) (w6 : nwo u6) (u8 : Option ev_V) (w8 : nwo u8) (u9 : Option ev_V) (w9 : nwo u9) : G2 κ ql_i106 ql_m106 2 d n0 s0 (j106_177 X12 v0 v1 v2 v3 v4 v5 v7 S) 177 [some (sR v0), some (sR v1), some (sR v2), some (sR v3), some (sI v4), some (sI v5), u6, some (sR v7), u8, u9] [] S := by
  unfold j106_177
  refine g2_goto qk106_1.2.2.1.1.1.2 ?_
  exact tj106_282 hQ hd h0 h1 h2 h3 h4 h5 h7 HX12 S hW hK0 hK1 hK2 u6 w6 u8 w8 u9 w9
noncomputable def b106_101 (X12 : Int → sS → Option (Int × sS)) (v0 : Int) (v1 : Int) (v2 : Int) (v3 : Int) (v4 : Int) (v5 : Int) (v6 : Int) (v8 : Int) (X101 : Int → sS → Option (Int × sS)) (v7 : Int) (S : sS) : Option (Int × sS) :=
  if sK S v8 = 10 then bdS (q137_hasNext S v8) (fun y57 S58 => if y57 = 0 then (j106_177 X12 v0 v1 v2 v3 v4 v5 v7 S58) else (bdS (q139_next S58 v8) (fun y64 S65 => if y64 = -1 ∨ sK S65 y64 = 7 then if v7 < 0 then (if sK S65 y64 = 7 then bnd (sg S65 y64 2) (fun r73 => if r73 < 0 then (X101 v7 S65) else (if y64 = v2 then (X101 v7 S65) else (if v6 = (4 : Int) then (j106_160 X12 X101 v0 v1 v2 v3 v4 v5 v6 v7 v8 y64 S65) else (bnd (sg S65 y64 2) (fun r81 => bnd (sg S65 v2 2) (fun r83 => if r81 = r83 then (j106_160 X12 X101 v0 v1 v2 v3 v4 v5 v6 v7 v8 y64 S65) else (X101 v7 S65))))))) else none) else (X101 v7 S65) else none))) else none
noncomputable def l106_101 (X12 : Int → sS → Option (Int × sS)) (v0 : Int) (v1 : Int) (v2 : Int) (v3 : Int) (v4 : Int) (v5 : Int) (v6 : Int) (v8 : Int) (n : Nat) : Int → sS → Option (Int × sS) := Nat.rec (motive := fun _ => Int → sS → Option (Int × sS)) (fun _ _ => none) (fun _ ih => b106_101 X12 v0 v1 v2 v3 v4 v5 v6 v8 ih) n
theorem tb106_101 {κ : CX} (hQ : κ.2.2.2.2.2.2.2.2.2 = (ql_I, ql_P)) {n0 s0 : Int} {d : Nat} (hd : 64 ≤ d) {v0 v1 v2 v3 v4 v5 v6 v8 : Int} (h0 : RfO v0) (h1 : RfO v1) (h2 : RfO v2) (h3 : RfO v3) (h4 : InR v4) (h5 : InR v5) (h6 : InR v6) (h8 : RfO v8) {X12 : Int → sS → Option (Int × sS)} (HX12 : ∀ (v5 : Int) (h5 : InR v5) (S : sS) (hW : WF2 κ S) (hK0 : sK S v0 = 8) (hK1 : sK S v1 = 7) (hK2 : sK S v2 = 7) (u6 : Option ev_V) (w6 : nwo u6) (u7 : Option ev_V) (w7 : nwo u7) (u8 : Option ev_V) (w8 : nwo u8) (u9 : Option ev_V) (w9 : nwo u9), G2 κ ql_i106 ql_m106 2 d n0 s0 (X12 v5 S) 12 [some (sR v0), some (sR v1), some (sR v2), some (sR v3), some (sI v4), some (sI v5), u6, u7, u8, u9] [] S) {X101 : Int → sS → Option (Int × sS)} (HX101 : ∀ (v7 : Int) (h7 : RfO v7) (S : sS) (hW : WF2 κ S) (hK0 : sK S v0 = 8) (hK1 : sK S v1 = 7) (hK2 : sK S v2 = 7) (u9 : Option ev_V) (w9 : nwo u9), G2 κ ql_i106 ql_m106 2 d n0 s0 (X101 v7 S) 101 [some (sR v0), some (sR v1), some (sR v2), some (sR v3), some (sI v4), some (sI v5), some (sI v6), some (sR v7), some (sR v8), u9] [] S) : ∀ (v7 : Int) (h7 : RfO v7) (S : sS) (hW : WF2 κ S) (hK0 : sK S v0 = 8) (hK1 : sK S v1 = 7) (hK2 : sK S v2 = 7) (u9 : Option ev_V) (w9 : nwo u9), G2 κ ql_i106 ql_m106 2 d n0 s0 (b106_101 X12 v0 v1 v2 v3 v4 v5 v6 v8 X101 v7 S) 101 [some (sR v0), some (sR v1), some (sR v2), some (sR v3), some (sI v4), some (sI v5), some (sI v6), some (sR v7), some (sR v8), u9] [] S := by
  intro v7 h7 S hW hK0 hK1 hK2 u9 w9
  unfold b106_101
  refine g2_aload qk106_1.1.1.1.2.1.2 rfl ?_
  refine g2_ck (fun q56 => ?_)
  refine g2_kn q56 (g2_callF (t' := 3) qk106_1.1.1.1.2.2 (by decide) (ql_ip137 hQ) rfl rfl rfl (by omega) hW (tq137_hasNext hQ (by omega) hW q56 h8) (fun y57 S58 x59 m60 e61 => ?_))
  refine g2_ifeq qk106_1.1.1.2.1.1.1 (inR_b x59) (fun c62 => ?_) (fun c63 => ?_)
  · exact tj106_177 hQ hd h0 h1 h2 h3 h4 h5 h7 HX12 S58 m60 (ek e61 hK0 (by decide)) (ek e61 hK1 (by decide)) (ek e61 hK2 (by decide)) (some (sI v6)) rfl (some (sR v8)) rfl u9 w9
  · refine g2_aload qk106_1.1.1.2.1.1.2 rfl ?_
    refine g2_kn (ek e61 q56 (by decide)) (g2_callF (t' := 2) qk106_1.1.1.2.1.2 (by decide) (ql_ip139 hQ) rfl rfl rfl (by omega) m60 (tq139_next hQ (by omega) m60 (ek e61 q56 (by decide)) h8) (fun y64 S65 x66 m67 e68 => ?_))
    refine g2_ck (fun q69 => ?_)
    refine g2_kn q69 (g2_cast7 qk106_1.1.1.2.2.1.1 m67 x66 ?_)
    refine g2_astore qk106_1.1.1.2.2.1.2 rfl (loc2 := [some (sR v0), some (sR v1), some (sR v2), some (sR v3), some (sI v4), some (sI v5), some (sI v6), some (sR v7), some (sR v8), some (sR y64)]) rfl ?_
    refine g2_aload qk106_1.1.1.2.2.2 rfl ?_
    refine g2_isnull qk106_1.1.2.1.1.1.1 (fun c70 => ?_) (fun c71 => ?_)
    · refine g2_aload qk106_1.1.2.1.1.1.2 rfl ?_
      refine g2_ck (fun q72 => ?_)
      refine g2_kn q72 (g2_getR qk106_1.1.2.1.1.2 m67 ⟨by decide, by decide, by decide, rfl⟩ (fun r73 x74 => ?_))
      refine g2_isnull qk106_1.1.2.1.2.1.1 (fun c75 => ?_) (fun c76 => ?_)
      · refine g2_goto qk106_1.2.2.1.1.1.1 ?_
        exact HX101 v7 h7 S65 m67 (ek e68 (ek e61 hK0 (by decide)) (by decide)) (ek e68 (ek e61 hK1 (by decide)) (by decide)) (ek e68 (ek e61 hK2 (by decide)) (by decide)) (some (sR y64)) rfl
      · refine g2_aload qk106_1.1.2.1.2.1.2 rfl ?_
        refine g2_aload qk106_1.1.2.1.2.2 rfl ?_
        refine g2_acmp qk106_1.1.2.2.1.1.1 x66 h2 (fun c77 => ?_) (fun c78 => ?_)
        · refine g2_goto qk106_1.2.2.1.1.1.1 ?_
          exact HX101 v7 h7 S65 m67 (ek e68 (ek e61 hK0 (by decide)) (by decide)) (ek e68 (ek e61 hK1 (by decide)) (by decide)) (ek e68 (ek e61 hK2 (by decide)) (by decide)) (some (sR y64)) rfl
        · refine g2_iload qk106_1.1.2.2.1.1.2 rfl ?_
          refine g2_int qk106_1.1.2.2.1.2 (4 : Int) rfl ?_
          refine g2_cmeq qk106_1.1.2.2.2.1 h6 (inR_of (by decide)) (fun c79 => ?_) (fun c80 => ?_)
          · exact tj106_160 hQ hd h0 h1 h2 h3 h4 h5 h6 h7 h8 x66 HX12 HX101 S65 m67 (ek e68 (ek e61 hK0 (by decide)) (by decide)) (ek e68 (ek e61 hK1 (by decide)) (by decide)) (ek e68 (ek e61 hK2 (by decide)) (by decide))
          · refine g2_aload qk106_1.1.2.2.2.2 rfl ?_
            refine g2_kn q72 (g2_getR qk106_1.2.1.1.1.1.1 m67 ⟨by decide, by decide, by decide, rfl⟩ (fun r81 x82 => ?_))
            refine g2_aload qk106_1.2.1.1.1.1.2 rfl ?_
            refine g2_kn (ek e68 (ek e61 hK2 (by decide)) (by decide)) (g2_getR qk106_1.2.1.1.1.2 m67 ⟨by decide, by decide, by decide, rfl⟩ (fun r83 x84 => ?_))
            refine g2_acmp qk106_1.2.1.1.2.1.1 x82 x84 (fun c85 => ?_) (fun c86 => ?_)
            · exact tj106_160 hQ hd h0 h1 h2 h3 h4 h5 h6 h7 h8 x66 HX12 HX101 S65 m67 (ek e68 (ek e61 hK0 (by decide)) (by decide)) (ek e68 (ek e61 hK1 (by decide)) (by decide)) (ek e68 (ek e61 hK2 (by decide)) (by decide))
            · refine g2_goto qk106_1.2.2.1.1.1.1 ?_
              exact HX101 v7 h7 S65 m67 (ek e68 (ek e61 hK0 (by decide)) (by decide)) (ek e68 (ek e61 hK1 (by decide)) (by decide)) (ek e68 (ek e61 hK2 (by decide)) (by decide)) (some (sR y64)) rfl
    · refine g2_goto qk106_1.2.2.1.1.1.1 ?_
      exact HX101 v7 h7 S65 m67 (ek e68 (ek e61 hK0 (by decide)) (by decide)) (ek e68 (ek e61 hK1 (by decide)) (by decide)) (ek e68 (ek e61 hK2 (by decide)) (by decide)) (some (sR y64)) rfl
theorem tl106_101 {κ : CX} (hQ : κ.2.2.2.2.2.2.2.2.2 = (ql_I, ql_P)) {n0 s0 : Int} {d : Nat} (hd : 64 ≤ d) {v0 v1 v2 v3 v4 v5 v6 v8 : Int} (h0 : RfO v0) (h1 : RfO v1) (h2 : RfO v2) (h3 : RfO v3) (h4 : InR v4) (h5 : InR v5) (h6 : InR v6) (h8 : RfO v8) {X12 : Int → sS → Option (Int × sS)} (HX12 : ∀ (v5 : Int) (h5 : InR v5) (S : sS) (hW : WF2 κ S) (hK0 : sK S v0 = 8) (hK1 : sK S v1 = 7) (hK2 : sK S v2 = 7) (u6 : Option ev_V) (w6 : nwo u6) (u7 : Option ev_V) (w7 : nwo u7) (u8 : Option ev_V) (w8 : nwo u8) (u9 : Option ev_V) (w9 : nwo u9), G2 κ ql_i106 ql_m106 2 d n0 s0 (X12 v5 S) 12 [some (sR v0), some (sR v1), some (sR v2), some (sR v3), some (sI v4), some (sI v5), u6, u7, u8, u9] [] S) : ∀ n : Nat, ∀ (v7 : Int) (h7 : RfO v7) (S : sS) (hW : WF2 κ S) (hK0 : sK S v0 = 8) (hK1 : sK S v1 = 7) (hK2 : sK S v2 = 7) (u9 : Option ev_V) (w9 : nwo u9), G2 κ ql_i106 ql_m106 2 d n0 s0 (l106_101 X12 v0 v1 v2 v3 v4 v5 v6 v8 n v7 S) 101 [some (sR v0), some (sR v1), some (sR v2), some (sR v3), some (sI v4), some (sI v5), some (sI v6), some (sR v7), some (sR v8), u9] [] S := by
  intro n
  induction n with
  | zero =>
    intro v7 h7 S hW hK0 hK1 hK2 u9 w9
    exact g2_none
  | succ n ih =>
    exact tb106_101 hQ hd h0 h1 h2 h3 h4 h5 h6 h8 HX12 ih
noncomputable def j106_245 (X12 : Int → sS → Option (Int × sS)) (X191 : Int → sS → Option (Int × sS)) (v0 : Int) (v1 : Int) (v2 : Int) (v3 : Int) (v4 : Int) (v5 : Int) (v6 : Int) (v7 : Int) (v8 : Int) (v9 : Int) (S : sS) : Option (Int × sS) :=
  if sK S v9 = 7 then bdS (q105_can S v0 v9 v1) (fun y125 S126 => if y125 = 0 then (X191 v7 S126) else (if v7 < 0 then (X191 v9 S126) else (bdS (q104_room S126 v0 v9) (fun y134 S135 => if sK S135 v7 = 7 then bdS (q104_room S135 v0 v7) (fun y140 S141 => if y140 < y134 then (X191 v9 S141) else (X191 v7 S141)) else none)))) else none
theorem tj106_245 {κ : CX} (hQ : κ.2.2.2.2.2.2.2.2.2 = (ql_I, ql_P)) {n0 s0 : Int} {d : Nat} (hd : 64 ≤ d) {v0 v1 v2 v3 v4 v5 v6 v7 v8 v9 : Int} (h0 : RfO v0) (h1 : RfO v1) (h2 : RfO v2) (h3 : RfO v3) (h4 : InR v4) (h5 : InR v5) (h6 : InR v6) (h7 : RfO v7) (h8 : RfO v8) (h9 : RfO v9) {X12 : Int → sS → Option (Int × sS)} {X191 : Int → sS → Option (Int × sS)} (HX12 : ∀ (v5 : Int) (h5 : InR v5) (S : sS) (hW : WF2 κ S) (hK0 : sK S v0 = 8) (hK1 : sK S v1 = 7) (hK2 : sK S v2 = 7) (u6 : Option ev_V) (w6 : nwo u6) (u7 : Option ev_V) (w7 : nwo u7) (u8 : Option ev_V) (w8 : nwo u8) (u9 : Option ev_V) (w9 : nwo u9), G2 κ ql_i106 ql_m106 2 d n0 s0 (X12 v5 S) 12 [some (sR v0), some (sR v1), some (sR v2), some (sR v3), some (sI v4), some (sI v5), u6, u7, u8, u9] [] S) (HX191 : ∀ (v7 : Int) (h7 : RfO v7) (S : sS) (hW : WF2 κ S) (hK0 : sK S v0 = 8) (hK1 : sK S v1 = 7) (hK2 : sK S v2 = 7) (u9 : Option ev_V) (w9 : nwo u9), G2 κ ql_i106 ql_m106 2 d n0 s0 (X191 v7 S) 191 [some (sR v0), some (sR v1), some (sR v2), some (sR v3), some (sI v4), some (sI v5), some (sI v6), some (sR v7), some (sR v8), u9] [] S) (S : sS) (hW : WF2 κ S) (hK0 : sK S v0 = 8) (hK1 : sK S v1 = 7) (hK2 : sK S v2 = 7) : G2 κ ql_i106 ql_m106 2 d n0 s0 (j106_245 X12 X191 v0 v1 v2 v3 v4 v5 v6 v7 v8 v9 S) 245 [some (sR v0), some (sR v1), some (sR v2), some (sR v3), some (sI v4), some (sI v5), some (sI v6), some (sR v7), some (sR v8), some (sR v9)] [] S := by
  unfold j106_245
  refine g2_aload qk106_2.1.2.1.2.1.2 rfl ?_
  refine g2_aload qk106_2.1.2.1.2.2 rfl ?_
  refine g2_aload qk106_2.1.2.2.1.1.1 rfl ?_
  refine g2_ck (fun q124 => ?_)
  refine g2_kn hK0 (g2_callV (t' := 3) qk106_2.1.2.2.1.1.2 (by decide) (ql_ip105 hQ) (by decide) rfl rfl rfl (by omega) hW (tq105_can hQ (by omega) hW hK0 q124 hK1 h0 h9 h1) (fun y125 S126 x127 m128 e129 => ?_))
  refine g2_ifeq qk106_2.1.2.2.1.2 (inR_b x127) (fun c130 => ?_) (fun c131 => ?_)
  · refine g2_goto qk106_2.2.1.2.2.1 ?_
    exact HX191 v7 h7 S126 m128 (ek e129 hK0 (by decide)) (ek e129 hK1 (by decide)) (ek e129 hK2 (by decide)) (some (sR v9)) rfl
  · refine g2_aload qk106_2.1.2.2.2.1 rfl ?_
    refine g2_isnull qk106_2.1.2.2.2.2 (fun c132 => ?_) (fun c133 => ?_)
    · refine g2_aload qk106_2.2.1.2.1.1.2 rfl ?_
      refine g2_astore qk106_2.2.1.2.1.2 rfl (loc2 := [some (sR v0), some (sR v1), some (sR v2), some (sR v3), some (sI v4), some (sI v5), some (sI v6), some (sR v9), some (sR v8), some (sR v9)]) rfl ?_
      refine g2_goto qk106_2.2.1.2.2.1 ?_
      exact HX191 v9 h9 S126 m128 (ek e129 hK0 (by decide)) (ek e129 hK1 (by decide)) (ek e129 hK2 (by decide)) (some (sR v9)) rfl
    · refine g2_aload qk106_2.2.1.1.1.1.1 rfl ?_
      refine g2_aload qk106_2.2.1.1.1.1.2 rfl ?_
      refine g2_kn (ek e129 hK0 (by decide)) (g2_callV (t' := 1) qk106_2.2.1.1.1.2 (by decide) (ql_ip104 hQ) (by decide) rfl rfl rfl (by omega) m128 (tq104_room hQ (by omega) m128 (ek e129 hK0 (by decide)) (ek e129 q124 (by decide)) h0 h9) (fun y134 S135 x136 m137 e138 => ?_))
      refine g2_aload qk106_2.2.1.1.2.1.1 rfl ?_
      refine g2_aload qk106_2.2.1.1.2.1.2 rfl ?_
      refine g2_ck (fun q139 => ?_)
      refine g2_kn (ek e138 (ek e129 hK0 (by decide)) (by decide)) (g2_callV (t' := 1) qk106_2.2.1.1.2.2 (by decide) (ql_ip104 hQ) (by decide) rfl rfl rfl (by omega) m137 (tq104_room hQ (by omega) m137 (ek e138 (ek e129 hK0 (by decide)) (by decide)) q139 h0 h7) (fun y140 S141 x142 m143 e144 => ?_))
      refine g2_cmgt qk106_2.2.1.2.1.1.1 x136 x142 (fun c145 => ?_) (fun c146 => ?_)
      · refine g2_aload qk106_2.2.1.2.1.1.2 rfl ?_
        refine g2_astore qk106_2.2.1.2.1.2 rfl (loc2 := [some (sR v0), some (sR v1), some (sR v2), some (sR v3), some (sI v4), some (sI v5), some (sI v6), some (sR v9), some (sR v8), some (sR v9)]) rfl ?_
        refine g2_goto qk106_2.2.1.2.2.1 ?_
        exact HX191 v9 h9 S141 m143 (ek e144 (ek e138 (ek e129 hK0 (by decide)) (by decide)) (by decide)) (ek e144 (ek e138 (ek e129 hK1 (by decide)) (by decide)) (by decide)) (ek e144 (ek e138 (ek e129 hK2 (by decide)) (by decide)) (by decide)) (some (sR v9)) rfl
      · refine g2_goto qk106_2.2.1.2.2.1 ?_
        exact HX191 v7 h7 S141 m143 (ek e144 (ek e138 (ek e129 hK0 (by decide)) (by decide)) (by decide)) (ek e144 (ek e138 (ek e129 hK1 (by decide)) (by decide)) (by decide)) (ek e144 (ek e138 (ek e129 hK2 (by decide)) (by decide)) (by decide)) (some (sR v9)) rfl
noncomputable def b106_191 (X12 : Int → sS → Option (Int × sS)) (v0 : Int) (v1 : Int) (v2 : Int) (v3 : Int) (v4 : Int) (v5 : Int) (v6 : Int) (v8 : Int) (X191 : Int → sS → Option (Int × sS)) (v7 : Int) (S : sS) : Option (Int × sS) :=
  if sK S v8 = 10 then bdS (q137_hasNext S v8) (fun y96 S97 => if y96 = 0 then (j106_282 X12 v0 v1 v2 v3 v4 v5 v7 S97) else (bdS (q139_next S97 v8) (fun y103 S104 => if y103 = -1 ∨ sK S104 y103 = 7 then if sK S104 y103 = 7 then bnd (sg S104 y103 2) (fun r110 => if r110 < 0 then (X191 v7 S104) else (if y103 = v2 then (X191 v7 S104) else (if v6 = (2 : Int) then (j106_245 X12 X191 v0 v1 v2 v3 v4 v5 v6 v7 v8 y103 S104) else (bnd (sg S104 y103 1) (fun r118 => bnd (sg S104 v1 1) (fun r120 => if r118 = r120 then (j106_245 X12 X191 v0 v1 v2 v3 v4 v5 v6 v7 v8 y103 S104) else (X191 v7 S104))))))) else none else none))) else none
noncomputable def l106_191 (X12 : Int → sS → Option (Int × sS)) (v0 : Int) (v1 : Int) (v2 : Int) (v3 : Int) (v4 : Int) (v5 : Int) (v6 : Int) (v8 : Int) (n : Nat) : Int → sS → Option (Int × sS) := Nat.rec (motive := fun _ => Int → sS → Option (Int × sS)) (fun _ _ => none) (fun _ ih => b106_191 X12 v0 v1 v2 v3 v4 v5 v6 v8 ih) n
theorem tb106_191 {κ : CX} (hQ : κ.2.2.2.2.2.2.2.2.2 = (ql_I, ql_P)) {n0 s0 : Int} {d : Nat} (hd : 64 ≤ d) {v0 v1 v2 v3 v4 v5 v6 v8 : Int} (h0 : RfO v0) (h1 : RfO v1) (h2 : RfO v2) (h3 : RfO v3) (h4 : InR v4) (h5 : InR v5) (h6 : InR v6) (h8 : RfO v8) {X12 : Int → sS → Option (Int × sS)} (HX12 : ∀ (v5 : Int) (h5 : InR v5) (S : sS) (hW : WF2 κ S) (hK0 : sK S v0 = 8) (hK1 : sK S v1 = 7) (hK2 : sK S v2 = 7) (u6 : Option ev_V) (w6 : nwo u6) (u7 : Option ev_V) (w7 : nwo u7) (u8 : Option ev_V) (w8 : nwo u8) (u9 : Option ev_V) (w9 : nwo u9), G2 κ ql_i106 ql_m106 2 d n0 s0 (X12 v5 S) 12 [some (sR v0), some (sR v1), some (sR v2), some (sR v3), some (sI v4), some (sI v5), u6, u7, u8, u9] [] S) {X191 : Int → sS → Option (Int × sS)} (HX191 : ∀ (v7 : Int) (h7 : RfO v7) (S : sS) (hW : WF2 κ S) (hK0 : sK S v0 = 8) (hK1 : sK S v1 = 7) (hK2 : sK S v2 = 7) (u9 : Option ev_V) (w9 : nwo u9), G2 κ ql_i106 ql_m106 2 d n0 s0 (X191 v7 S) 191 [some (sR v0), some (sR v1), some (sR v2), some (sR v3), some (sI v4), some (sI v5), some (sI v6), some (sR v7), some (sR v8), u9] [] S) : ∀ (v7 : Int) (h7 : RfO v7) (S : sS) (hW : WF2 κ S) (hK0 : sK S v0 = 8) (hK1 : sK S v1 = 7) (hK2 : sK S v2 = 7) (u9 : Option ev_V) (w9 : nwo u9), G2 κ ql_i106 ql_m106 2 d n0 s0 (b106_191 X12 v0 v1 v2 v3 v4 v5 v6 v8 X191 v7 S) 191 [some (sR v0), some (sR v1), some (sR v2), some (sR v3), some (sI v4), some (sI v5), some (sI v6), some (sR v7), some (sR v8), u9] [] S := by
  intro v7 h7 S hW hK0 hK1 hK2 u9 w9
  unfold b106_191
  refine g2_aload qk106_1.2.2.2.1.1.1 rfl ?_
  refine g2_ck (fun q95 => ?_)
  refine g2_kn q95 (g2_callF (t' := 3) qk106_1.2.2.2.1.1.2 (by decide) (ql_ip137 hQ) rfl rfl rfl (by omega) hW (tq137_hasNext hQ (by omega) hW q95 h8) (fun y96 S97 x98 m99 e100 => ?_))
  refine g2_ifeq qk106_1.2.2.2.1.2 (inR_b x98) (fun c101 => ?_) (fun c102 => ?_)
  · exact tj106_282 hQ hd h0 h1 h2 h3 h4 h5 h7 HX12 S97 m99 (ek e100 hK0 (by decide)) (ek e100 hK1 (by decide)) (ek e100 hK2 (by decide)) (some (sI v6)) rfl (some (sR v8)) rfl u9 w9
  · refine g2_aload qk106_1.2.2.2.2.1 rfl ?_
    refine g2_kn (ek e100 q95 (by decide)) (g2_callF (t' := 2) qk106_1.2.2.2.2.2 (by decide) (ql_ip139 hQ) rfl rfl rfl (by omega) m99 (tq139_next hQ (by omega) m99 (ek e100 q95 (by decide)) h8) (fun y103 S104 x105 m106 e107 => ?_))
    refine g2_ck (fun q108 => ?_)
    refine g2_kn q108 (g2_cast7 qk106_2.1.1.1.1.1.1 m106 x105 ?_)
    refine g2_astore qk106_2.1.1.1.1.1.2 rfl (loc2 := [some (sR v0), some (sR v1), some (sR v2), some (sR v3), some (sI v4), some (sI v5), some (sI v6), some (sR v7), some (sR v8), some (sR y103)]) rfl ?_
    refine g2_aload qk106_2.1.1.1.1.2 rfl ?_
    refine g2_ck (fun q109 => ?_)
    refine g2_kn q109 (g2_getR qk106_2.1.1.1.2.1.1 m106 ⟨by decide, by decide, by decide, rfl⟩ (fun r110 x111 => ?_))
    refine g2_isnull qk106_2.1.1.1.2.1.2 (fun c112 => ?_) (fun c113 => ?_)
    · refine g2_goto qk106_2.2.1.2.2.1 ?_
      exact HX191 v7 h7 S104 m106 (ek e107 (ek e100 hK0 (by decide)) (by decide)) (ek e107 (ek e100 hK1 (by decide)) (by decide)) (ek e107 (ek e100 hK2 (by decide)) (by decide)) (some (sR y103)) rfl
    · refine g2_aload qk106_2.1.1.1.2.2 rfl ?_
      refine g2_aload qk106_2.1.1.2.1.1.1 rfl ?_
      refine g2_acmp qk106_2.1.1.2.1.1.2 x105 h2 (fun c114 => ?_) (fun c115 => ?_)
      · refine g2_goto qk106_2.2.1.2.2.1 ?_
        exact HX191 v7 h7 S104 m106 (ek e107 (ek e100 hK0 (by decide)) (by decide)) (ek e107 (ek e100 hK1 (by decide)) (by decide)) (ek e107 (ek e100 hK2 (by decide)) (by decide)) (some (sR y103)) rfl
      · refine g2_iload qk106_2.1.1.2.1.2 rfl ?_
        refine g2_int qk106_2.1.1.2.2.1.1 (2 : Int) rfl ?_
        refine g2_cmeq qk106_2.1.1.2.2.1.2 h6 (inR_of (by decide)) (fun c116 => ?_) (fun c117 => ?_)
        · exact tj106_245 hQ hd h0 h1 h2 h3 h4 h5 h6 h7 h8 x105 HX12 HX191 S104 m106 (ek e107 (ek e100 hK0 (by decide)) (by decide)) (ek e107 (ek e100 hK1 (by decide)) (by decide)) (ek e107 (ek e100 hK2 (by decide)) (by decide))
        · refine g2_aload qk106_2.1.1.2.2.2 rfl ?_
          refine g2_kn q109 (g2_getI qk106_2.1.2.1.1.1.1 m106 ⟨by decide, by decide, by decide, rfl⟩ (fun r118 x119 => ?_))
          refine g2_aload qk106_2.1.2.1.1.1.2 rfl ?_
          refine g2_kn (ek e107 (ek e100 hK1 (by decide)) (by decide)) (g2_getI qk106_2.1.2.1.1.2 m106 ⟨by decide, by decide, by decide, rfl⟩ (fun r120 x121 => ?_))
          refine g2_cmeq qk106_2.1.2.1.2.1.1 x119 x121 (fun c122 => ?_) (fun c123 => ?_)
          · exact tj106_245 hQ hd h0 h1 h2 h3 h4 h5 h6 h7 h8 x105 HX12 HX191 S104 m106 (ek e107 (ek e100 hK0 (by decide)) (by decide)) (ek e107 (ek e100 hK1 (by decide)) (by decide)) (ek e107 (ek e100 hK2 (by decide)) (by decide))
          · refine g2_goto qk106_2.2.1.2.2.1 ?_
            exact HX191 v7 h7 S104 m106 (ek e107 (ek e100 hK0 (by decide)) (by decide)) (ek e107 (ek e100 hK1 (by decide)) (by decide)) (ek e107 (ek e100 hK2 (by decide)) (by decide)) (some (sR y103)) rfl
theorem tl106_191 {κ : CX} (hQ : κ.2.2.2.2.2.2.2.2.2 = (ql_I, ql_P)) {n0 s0 : Int} {d : Nat} (hd : 64 ≤ d) {v0 v1 v2 v3 v4 v5 v6 v8 : Int} (h0 : RfO v0) (h1 : RfO v1) (h2 : RfO v2) (h3 : RfO v3) (h4 : InR v4) (h5 : InR v5) (h6 : InR v6) (h8 : RfO v8) {X12 : Int → sS → Option (Int × sS)} (HX12 : ∀ (v5 : Int) (h5 : InR v5) (S : sS) (hW : WF2 κ S) (hK0 : sK S v0 = 8) (hK1 : sK S v1 = 7) (hK2 : sK S v2 = 7) (u6 : Option ev_V) (w6 : nwo u6) (u7 : Option ev_V) (w7 : nwo u7) (u8 : Option ev_V) (w8 : nwo u8) (u9 : Option ev_V) (w9 : nwo u9), G2 κ ql_i106 ql_m106 2 d n0 s0 (X12 v5 S) 12 [some (sR v0), some (sR v1), some (sR v2), some (sR v3), some (sI v4), some (sI v5), u6, u7, u8, u9] [] S) : ∀ n : Nat, ∀ (v7 : Int) (h7 : RfO v7) (S : sS) (hW : WF2 κ S) (hK0 : sK S v0 = 8) (hK1 : sK S v1 = 7) (hK2 : sK S v2 = 7) (u9 : Option ev_V) (w9 : nwo u9), G2 κ ql_i106 ql_m106 2 d n0 s0 (l106_191 X12 v0 v1 v2 v3 v4 v5 v6 v8 n v7 S) 191 [some (sR v0), some (sR v1), some (sR v2), some (sR v3), some (sI v4), some (sI v5), some (sI v6), some (sR v7), some (sR v8), u9] [] S := by
  intro n
  induction n with
  | zero =>
    intro v7 h7 S hW hK0 hK1 hK2 u9 w9
    exact g2_none
  | succ n ih =>
    exact tb106_191 hQ hd h0 h1 h2 h3 h4 h5 h6 h8 HX12 ih
noncomputable def j106_296 (v0 : Int) (S : sS) : Option (Int × sS) :=
  bnd (sg S v0 0) (fun r147 => if sK S r147 = 9 then bdS (q133_get S r147 (0 : Int)) (fun y150 S151 => if y150 = -1 ∨ sK S151 y150 = 7 then some (y150, S151) else none) else none)
theorem tj106_296 {κ : CX} (hQ : κ.2.2.2.2.2.2.2.2.2 = (ql_I, ql_P)) {n0 s0 : Int} {d : Nat} (hd : 64 ≤ d) {v0 : Int} (h0 : RfO v0) (S : sS) (hW : WF2 κ S) (hK0 : sK S v0 = 8) (u1 : Option ev_V) (w1 : nwo u1) (u2 : Option ev_V) (w2 : nwo u2) (u3 : Option ev_V) (w3 : nwo u3) (u4 : Option ev_V) (w4 : nwo u4) (u5 : Option ev_V) (w5 : nwo u5) (u6 : Option ev_V) (w6 : nwo u6) (u7 : Option ev_V) (w7 : nwo u7) (u8 : Option ev_V) (w8 : nwo u8) (u9 : Option ev_V) (w9 : nwo u9) : G2 κ ql_i106 ql_m106 2 d n0 s0 (j106_296 v0 S) 296 [some (sR v0), u1, u2, u3, u4, u5, u6, u7, u8, u9] [] S := by
  unfold j106_296
  refine g2_aload qk106_2.2.2.1.2.2 rfl ?_
  refine g2_kn hK0 (g2_getR qk106_2.2.2.2.1.1.1 hW ⟨by decide, by decide, by decide, rfl⟩ (fun r147 x148 => ?_))
  refine g2_int qk106_2.2.2.2.1.1.2 (0 : Int) rfl ?_
  refine g2_ck (fun q149 => ?_)
  refine g2_kn q149 (g2_callF (t' := 2) qk106_2.2.2.2.1.2 (by decide) (ql_ip133 hQ) rfl rfl rfl (by omega) hW (tq133_get hQ (by omega) hW q149 x148 (inR_b (Or.inl rfl))) (fun y150 S151 x152 m153 e154 => ?_))
  refine g2_ck (fun q155 => ?_)
  refine g2_kn q155 (g2_cast7 qk106_2.2.2.2.2.1 m153 x152 ?_)
  exact g2_aret qk106_2.2.2.2.2.2 m153 x152
noncomputable def b106_12 (v0 : Int) (v1 : Int) (v2 : Int) (v3 : Int) (v4 : Int) (X12 : Int → sS → Option (Int × sS)) (v5 : Int) (S : sS) : Option (Int × sS) :=
  if v5 < v4 then (if sK S v3 = 20 then if 0 ≤ v5 ∧ v5 < sZ S v3 then bnd (sg S v3 v5) (fun r10 => if r10 = 0 then (bnd (sg S v2 2) (fun r14 => l106_39 X12 v0 v1 v2 v3 v4 v5 fu (-1) r14 S)) else (if (2 : Int) < r10 then (bnd (sg S v0 0) (fun r18 => if sK S r18 = 9 then bdS (q136_iterator S r18) (fun y21 S22 => l106_101 X12 v0 v1 v2 v3 v4 v5 r10 y21 fu (-1) S22) else none)) else (bnd (sg S v0 0) (fun r26 => if sK S r26 = 9 then bdS (q136_iterator S r26) (fun y29 S30 => l106_191 X12 v0 v1 v2 v3 v4 v5 r10 y29 fu (-1) S30) else none)))) else none else none) else (j106_296 v0 S)
noncomputable def l106_12 (v0 : Int) (v1 : Int) (v2 : Int) (v3 : Int) (v4 : Int) (n : Nat) : Int → sS → Option (Int × sS) := Nat.rec (motive := fun _ => Int → sS → Option (Int × sS)) (fun _ _ => none) (fun _ ih => b106_12 v0 v1 v2 v3 v4 ih) n
theorem tb106_12 {κ : CX} (hQ : κ.2.2.2.2.2.2.2.2.2 = (ql_I, ql_P)) {n0 s0 : Int} {d : Nat} (hd : 64 ≤ d) {v0 v1 v2 v3 v4 : Int} (h0 : RfO v0) (h1 : RfO v1) (h2 : RfO v2) (h3 : RfO v3) (h4 : InR v4) {X12 : Int → sS → Option (Int × sS)} (HX12 : ∀ (v5 : Int) (h5 : InR v5) (S : sS) (hW : WF2 κ S) (hK0 : sK S v0 = 8) (hK1 : sK S v1 = 7) (hK2 : sK S v2 = 7) (u6 : Option ev_V) (w6 : nwo u6) (u7 : Option ev_V) (w7 : nwo u7) (u8 : Option ev_V) (w8 : nwo u8) (u9 : Option ev_V) (w9 : nwo u9), G2 κ ql_i106 ql_m106 2 d n0 s0 (X12 v5 S) 12 [some (sR v0), some (sR v1), some (sR v2), some (sR v3), some (sI v4), some (sI v5), u6, u7, u8, u9] [] S) : ∀ (v5 : Int) (h5 : InR v5) (S : sS) (hW : WF2 κ S) (hK0 : sK S v0 = 8) (hK1 : sK S v1 = 7) (hK2 : sK S v2 = 7) (u6 : Option ev_V) (w6 : nwo u6) (u7 : Option ev_V) (w7 : nwo u7) (u8 : Option ev_V) (w8 : nwo u8) (u9 : Option ev_V) (w9 : nwo u9), G2 κ ql_i106 ql_m106 2 d n0 s0 (b106_12 v0 v1 v2 v3 v4 X12 v5 S) 12 [some (sR v0), some (sR v1), some (sR v2), some (sR v3), some (sI v4), some (sI v5), u6, u7, u8, u9] [] S := by
  intro v5 h5 S hW hK0 hK1 hK2 u6 w6 u7 w7 u8 w8 u9 w9
  unfold b106_12
  refine g2_iload qk106_0.1.1.2.1.2 rfl ?_
  refine g2_iload qk106_0.1.1.2.2.1 rfl ?_
  refine g2_cmlt qk106_0.1.1.2.2.2 h5 h4 (fun c6 => ?_) (fun c7 => ?_)
  · refine g2_aload qk106_0.1.2.1.1.1.1 rfl ?_
    refine g2_iload qk106_0.1.2.1.1.1.2 rfl ?_
    refine g2_ck (fun q8 => ?_)
    refine g2_ck (fun q9 => ?_)
    refine g2_kn ⟨q8, q9⟩ (g2_iald qk106_0.1.2.1.1.2 hW (fun r10 x11 => ?_))
    refine g2_istore qk106_0.1.2.1.2.1.1 rfl (loc2 := [some (sR v0), some (sR v1), some (sR v2), some (sR v3), some (sI v4), some (sI v5), some (sI r10), u7, u8, u9]) rfl ?_
    refine g2_null qk106_0.1.2.1.2.1.2 ?_
    refine g2_astore qk106_0.1.2.1.2.2 rfl (loc2 := [some (sR v0), some (sR v1), some (sR v2), some (sR v3), some (sI v4), some (sI v5), some (sI r10), some (sR (-1)), u8, u9]) rfl ?_
    refine g2_iload qk106_0.1.2.2.1.1.1 rfl ?_
    refine g2_ifeq qk106_0.1.2.2.1.1.2 x11 (fun c12 => ?_) (fun c13 => ?_)
    · refine g2_aload qk106_0.1.2.2.1.2 rfl ?_
      refine g2_kn hK2 (g2_getR qk106_0.1.2.2.2.1 hW ⟨by decide, by decide, by decide, rfl⟩ (fun r14 x15 => ?_))
      refine g2_astore qk106_0.1.2.2.2.2 rfl (loc2 := [some (sR v0), some (sR v1), some (sR v2), some (sR v3), some (sI v4), some (sI v5), some (sI r10), some (sR (-1)), some (sR r14), u9]) rfl ?_
      exact tl106_39 hQ hd h0 h1 h2 h3 h4 h5 HX12 fu (-1) rfO_null r14 x15 S hW hK0 hK1 hK2 (some (sI r10)) rfl u9 w9
    · refine g2_iload qk106_0.2.2.2.1.2 rfl ?_
      refine g2_int qk106_0.2.2.2.2.1 (2 : Int) rfl ?_
      refine g2_cmgt qk106_0.2.2.2.2.2 x11 (inR_of (by decide)) (fun c16 => ?_) (fun c17 => ?_)
      · refine g2_aload qk106_1.1.1.1.1.1.1 rfl ?_
        refine g2_kn hK0 (g2_getR qk106_1.1.1.1.1.1.2 hW ⟨by decide, by decide, by decide, rfl⟩ (fun r18 x19 => ?_))
        refine g2_ck (fun q20 => ?_)
        refine g2_kn q20 (g2_callF (t' := 2) qk106_1.1.1.1.1.2 (by decide) (ql_ip136 hQ) rfl rfl rfl (by omega) hW (tq136_iterator hQ (by omega) hW q20 x19) (fun y21 S22 x23 m24 e25 => ?_))
        refine g2_astore qk106_1.1.1.1.2.1.1 rfl (loc2 := [some (sR v0), some (sR v1), some (sR v2), some (sR v3), some (sI v4), some (sI v5), some (sI r10), some (sR (-1)), some (sR y21), u9]) rfl ?_
        exact tl106_101 hQ hd h0 h1 h2 h3 h4 h5 x11 x23 HX12 fu (-1) rfO_null S22 m24 (ek e25 hK0 (by decide)) (ek e25 hK1 (by decide)) (ek e25 hK2 (by decide)) u9 w9
      · refine g2_aload qk106_1.2.2.1.1.2 rfl ?_
        refine g2_kn hK0 (g2_getR qk106_1.2.2.1.2.1.1 hW ⟨by decide, by decide, by decide, rfl⟩ (fun r26 x27 => ?_))
        refine g2_ck (fun q28 => ?_)
        refine g2_kn q28 (g2_callF (t' := 2) qk106_1.2.2.1.2.1.2 (by decide) (ql_ip136 hQ) rfl rfl rfl (by omega) hW (tq136_iterator hQ (by omega) hW q28 x27) (fun y29 S30 x31 m32 e33 => ?_))
        refine g2_astore qk106_1.2.2.1.2.2 rfl (loc2 := [some (sR v0), some (sR v1), some (sR v2), some (sR v3), some (sI v4), some (sI v5), some (sI r10), some (sR (-1)), some (sR y29), u9]) rfl ?_
        exact tl106_191 hQ hd h0 h1 h2 h3 h4 h5 x11 x31 HX12 fu (-1) rfO_null S30 m32 (ek e33 hK0 (by decide)) (ek e33 hK1 (by decide)) (ek e33 hK2 (by decide)) u9 w9
  · exact tj106_296 hQ hd h0 S hW hK0 (some (sR v1)) rfl (some (sR v2)) rfl (some (sR v3)) rfl (some (sI v4)) rfl (some (sI v5)) rfl u6 w6 u7 w7 u8 w8 u9 w9
theorem tl106_12 {κ : CX} (hQ : κ.2.2.2.2.2.2.2.2.2 = (ql_I, ql_P)) {n0 s0 : Int} {d : Nat} (hd : 64 ≤ d) {v0 v1 v2 v3 v4 : Int} (h0 : RfO v0) (h1 : RfO v1) (h2 : RfO v2) (h3 : RfO v3) (h4 : InR v4) : ∀ n : Nat, ∀ (v5 : Int) (h5 : InR v5) (S : sS) (hW : WF2 κ S) (hK0 : sK S v0 = 8) (hK1 : sK S v1 = 7) (hK2 : sK S v2 = 7) (u6 : Option ev_V) (w6 : nwo u6) (u7 : Option ev_V) (w7 : nwo u7) (u8 : Option ev_V) (w8 : nwo u8) (u9 : Option ev_V) (w9 : nwo u9), G2 κ ql_i106 ql_m106 2 d n0 s0 (l106_12 v0 v1 v2 v3 v4 n v5 S) 12 [some (sR v0), some (sR v1), some (sR v2), some (sR v3), some (sI v4), some (sI v5), u6, u7, u8, u9] [] S := by
  intro n
  induction n with
  | zero =>
    intro v5 h5 S hW hK0 hK1 hK2 u6 w6 u7 w7 u8 w8 u9 w9
    exact g2_none
  | succ n ih =>
    exact tb106_12 hQ hd h0 h1 h2 h3 h4 ih
noncomputable def q106_adopter (S : sS) (v0 : Int) (v1 : Int) (v2 : Int) : Option (Int × sS) :=
  bnd (sg S v0 3) (fun r1 => if sK S r1 = 20 then bnd (sZ S r1) (fun r4 => l106_12 v0 v1 v2 r1 r4 fu (0 : Int) S) else none)
theorem tq106_adopter {κ : CX} (hQ : κ.2.2.2.2.2.2.2.2.2 = (ql_I, ql_P)) {n0 s0 : Int} {d : Nat} (hd : 64 ≤ d) {S : sS} (hW : WF2 κ S) {v0 v1 v2 : Int} (hK0 : sK S v0 = 8) (hK1 : sK S v1 = 7) (hK2 : sK S v2 = 7) (h0 : RfO v0) (h1 : RfO v1) (h2 : RfO v2) : G2 κ ql_i106 ql_m106 2 d n0 s0 (q106_adopter S v0 v1 v2) 0 (ev_loc ql_m106.1 [(sR v0), (sR v1), (sR v2)]) [] S := by
  unfold q106_adopter
  refine g2_aload qk106_0.1.1.1.1.1.1 rfl ?_
  refine g2_kn hK0 (g2_getR qk106_0.1.1.1.1.1.2 hW ⟨by decide, by decide, by decide, rfl⟩ (fun r1 x2 => ?_))
  refine g2_astore qk106_0.1.1.1.1.2 rfl (loc2 := [some (sR v0), some (sR v1), some (sR v2), some (sR r1), none, none, none, none, none, none]) rfl ?_
  refine g2_aload qk106_0.1.1.1.2.1.1 rfl ?_
  refine g2_ck (fun q3 => ?_)
  refine g2_kn (ka2 q3 (by decide)) (g2_alen qk106_0.1.1.1.2.1.2 hW (fun r4 x5 => ?_))
  refine g2_istore qk106_0.1.1.1.2.2 rfl (loc2 := [some (sR v0), some (sR v1), some (sR v2), some (sR r1), some (sI r4), none, none, none, none, none]) rfl ?_
  refine g2_int qk106_0.1.1.2.1.1.1 (0 : Int) rfl ?_
  refine g2_istore qk106_0.1.1.2.1.1.2 rfl (loc2 := [some (sR v0), some (sR v1), some (sR v2), some (sR r1), some (sI r4), some (sI (0 : Int)), none, none, none, none]) rfl ?_
  exact tl106_12 hQ hd h0 h1 h2 x2 x5 fu (0 : Int) (inR_b (Or.inl rfl)) S hW hK0 hK1 hK2 none rfl none rfl none rfl none rfl
