/-! ===== the law's and the JDK's methods as functions, and that the machine comes to what they tell (own work, by program: wip/p67/gen/lawdec.py) ===== -/
noncomputable def b109_44 (v1 : Int) (v2 : Int) (X44 : sS → Option (Int × sS)) (S : sS) : Option (Int × sS) :=
  if sK S v2 = 10 then bdS (q137_hasNext S v2) (fun y33 S34 => if y33 = 0 then (bnd (sg S34 v1 2) (fun r40 => some (r40, S34))) else (bdS (q139_next S34 v2) (fun y42 S43 => if y42 = -1 ∨ sK S43 y42 = 7 then if sK S43 y42 = 7 then bnd (sg S43 y42 11) (fun r49 => if r49 = 0 then (some (y42, S43)) else (X44 S43)) else none else none))) else none
noncomputable def l109_44 (v1 : Int) (v2 : Int) (n : Nat) : sS → Option (Int × sS) := Nat.rec (motive := fun _ => sS → Option (Int × sS)) (fun _ => none) (fun _ ih => b109_44 v1 v2 ih) n
theorem tb109_44 {κ : CX} (hQ : κ.2.2.2.2.2.2.2.2.2 = (ql_I, ql_P)) {n0 s0 : Int} {d : Nat} (hd : 9 ≤ d) {v1 v2 : Int} (h1 : RfO v1) (h2 : RfO v2) {X44 : sS → Option (Int × sS)} (HX44 : ∀ (S : sS) (hW : WF2 κ S) (hK1 : sK S v1 = 7) (u0 : Option ev_V) (w0 : nwo u0) (u3 : Option ev_V) (w3 : nwo u3), G2 κ ql_i109 ql_m109 2 d n0 s0 (X44 S) 44 [u0, some (sR v1), some (sR v2), u3] [] S) : ∀ (S : sS) (hW : WF2 κ S) (hK1 : sK S v1 = 7) (u0 : Option ev_V) (w0 : nwo u0) (u3 : Option ev_V) (w3 : nwo u3), G2 κ ql_i109 ql_m109 2 d n0 s0 (b109_44 v1 v2 X44 S) 44 [u0, some (sR v1), some (sR v2), u3] [] S := by
  intro S hW hK1 u0 w0 u3 w3
  unfold b109_44
  refine g2_aload qk109_0.2.1.1.1.2 rfl ?_
  refine g2_ck (fun q32 => ?_)
  refine g2_kn q32 (g2_callF (t' := 3) qk109_0.2.1.1.2.1 (by decide) (ql_ip137 hQ) rfl rfl rfl (by omega) hW (tq137_hasNext hQ (by omega) hW q32 h2) (fun y33 S34 x35 m36 e37 => ?_))
  refine g2_ifeq qk109_0.2.1.1.2.2 (inR_b x35) (fun c38 => ?_) (fun c39 => ?_)
  · refine g2_aload qk109_0.2.2.2.1.2 rfl ?_
    refine g2_kn (ek e37 hK1 (by decide)) (g2_getR qk109_0.2.2.2.2.1 m36 ⟨by decide, by decide, by decide, rfl⟩ (fun r40 x41 => ?_))
    exact g2_aret qk109_0.2.2.2.2.2 m36 x41
  · refine g2_aload qk109_0.2.1.2.1.1 rfl ?_
    refine g2_kn (ek e37 q32 (by decide)) (g2_callF (t' := 2) qk109_0.2.1.2.1.2 (by decide) (ql_ip139 hQ) rfl rfl rfl (by omega) m36 (tq139_next hQ (by omega) m36 (ek e37 q32 (by decide)) h2) (fun y42 S43 x44 m45 e46 => ?_))
    refine g2_ck (fun q47 => ?_)
    refine g2_kn q47 (g2_cast7 qk109_0.2.1.2.2.1 m45 x44 ?_)
    refine g2_astore qk109_0.2.1.2.2.2 rfl (loc2 := [u0, some (sR v1), some (sR v2), some (sR y42)]) rfl ?_
    refine g2_aload qk109_0.2.2.1.1.1.1 rfl ?_
    refine g2_ck (fun q48 => ?_)
    refine g2_kn q48 (g2_getB qk109_0.2.2.1.1.1.2 m45 ⟨by decide, by decide, by decide, rfl⟩ (fun r49 x50 => ?_))
    refine g2_ifeq qk109_0.2.2.1.1.2 (inR_b x50) (fun c51 => ?_) (fun c52 => ?_)
    · refine g2_aload qk109_0.2.2.1.2.1 rfl ?_
      exact g2_aret qk109_0.2.2.1.2.2 m45 x44
    · refine g2_goto qk109_0.2.2.2.1.1 ?_
      exact HX44 S43 m45 (ek e46 (ek e37 hK1 (by decide)) (by decide)) u0 w0 (some (sR y42)) rfl
theorem tl109_44 {κ : CX} (hQ : κ.2.2.2.2.2.2.2.2.2 = (ql_I, ql_P)) {n0 s0 : Int} {d : Nat} (hd : 9 ≤ d) {v1 v2 : Int} (h1 : RfO v1) (h2 : RfO v2) : ∀ n : Nat, ∀ (S : sS) (hW : WF2 κ S) (hK1 : sK S v1 = 7) (u0 : Option ev_V) (w0 : nwo u0) (u3 : Option ev_V) (w3 : nwo u3), G2 κ ql_i109 ql_m109 2 d n0 s0 (l109_44 v1 v2 n S) 44 [u0, some (sR v1), some (sR v2), u3] [] S := by
  intro n
  induction n with
  | zero =>
    intro S hW hK1 u0 w0 u3 w3
    exact g2_none
  | succ n ih =>
    exact tb109_44 hQ hd h1 h2 ih
noncomputable def j109_32 (v0 : Int) (v1 : Int) (S : sS) : Option (Int × sS) :=
  bdS (q103_children S v0 v1 (0 : Int)) (fun y21 S22 => if sK S22 y21 = 9 then bdS (q136_iterator S22 y21) (fun y27 S28 => l109_44 v1 y27 fu S28) else none)
theorem tj109_32 {κ : CX} (hQ : κ.2.2.2.2.2.2.2.2.2 = (ql_I, ql_P)) {n0 s0 : Int} {d : Nat} (hd : 9 ≤ d) {v0 v1 : Int} (h0 : RfO v0) (h1 : RfO v1) (S : sS) (hW : WF2 κ S) (hK0 : sK S v0 = 8) (hK1 : sK S v1 = 7) (u2 : Option ev_V) (w2 : nwo u2) (u3 : Option ev_V) (w3 : nwo u3) : G2 κ ql_i109 ql_m109 2 d n0 s0 (j109_32 v0 v1 S) 32 [some (sR v0), some (sR v1), u2, u3] [] S := by
  unfold j109_32
  refine g2_aload qk109_0.1.2.2.1.1 rfl ?_
  refine g2_aload qk109_0.1.2.2.1.2 rfl ?_
  refine g2_int qk109_0.1.2.2.2.1 (0 : Int) rfl ?_
  refine g2_kn hK0 (g2_callV (t' := 2) qk109_0.1.2.2.2.2 (by decide) (ql_ip103 hQ) (by decide) rfl rfl rfl (by omega) hW (tq103_children hQ (by omega) hW hK0 h0 h1 (inR_b (Or.inl rfl))) (fun y21 S22 x23 m24 e25 => ?_))
  refine g2_ck (fun q26 => ?_)
  refine g2_kn q26 (g2_callF (t' := 2) qk109_0.2.1.1.1.1.1 (by decide) (ql_ip136 hQ) rfl rfl rfl (by omega) m24 (tq136_iterator hQ (by omega) m24 q26 x23) (fun y27 S28 x29 m30 e31 => ?_))
  refine g2_astore qk109_0.2.1.1.1.1.2 rfl (loc2 := [some (sR v0), some (sR v1), some (sR y27), u3]) rfl ?_
  exact tl109_44 hQ hd h1 x29 fu S28 m30 (ek e31 (ek e25 hK1 (by decide)) (by decide)) (some (sR v0)) rfl u3 w3
noncomputable def q109_heir (S : sS) (v0 : Int) (v1 : Int) : Option (Int × sS) :=
  bnd (sg S v1 3) (fun r1 => if r1 < 0 then (j109_32 v0 v1 S) else (bnd (sg S v1 3) (fun r5 => if sK S r5 = 7 then bnd (sg S r5 7) (fun r8 => if r8 = 0 then (bnd (sg S v1 3) (fun r12 => if sK S r12 = 7 then bnd (sg S r12 11) (fun r15 => if r15 = 0 then (bnd (sg S v1 3) (fun r19 => some (r19, S))) else (j109_32 v0 v1 S)) else none)) else (j109_32 v0 v1 S)) else none)))
theorem tq109_heir {κ : CX} (hQ : κ.2.2.2.2.2.2.2.2.2 = (ql_I, ql_P)) {n0 s0 : Int} {d : Nat} (hd : 9 ≤ d) {S : sS} (hW : WF2 κ S) {v0 v1 : Int} (hK0 : sK S v0 = 8) (hK1 : sK S v1 = 7) (h0 : RfO v0) (h1 : RfO v1) : G2 κ ql_i109 ql_m109 2 d n0 s0 (q109_heir S v0 v1) 0 (ev_loc ql_m109.1 [(sR v0), (sR v1)]) [] S := by
  unfold q109_heir
  refine g2_aload qk109_0.1.1.1.1.1.1 rfl ?_
  refine g2_kn hK1 (g2_getR qk109_0.1.1.1.1.1.2 hW ⟨by decide, by decide, by decide, rfl⟩ (fun r1 x2 => ?_))
  refine g2_isnull qk109_0.1.1.1.1.2 (fun c3 => ?_) (fun c4 => ?_)
  · exact tj109_32 hQ hd h0 h1 S hW hK0 hK1 none rfl none rfl
  · refine g2_aload qk109_0.1.1.1.2.1 rfl ?_
    refine g2_kn hK1 (g2_getR qk109_0.1.1.1.2.2 hW ⟨by decide, by decide, by decide, rfl⟩ (fun r5 x6 => ?_))
    refine g2_ck (fun q7 => ?_)
    refine g2_kn q7 (g2_getI qk109_0.1.1.2.1.1 hW ⟨by decide, by decide, by decide, rfl⟩ (fun r8 x9 => ?_))
    refine g2_ifeq qk109_0.1.1.2.1.2 x9 (fun c10 => ?_) (fun c11 => ?_)
    · refine g2_aload qk109_0.1.1.2.2.1 rfl ?_
      refine g2_kn hK1 (g2_getR qk109_0.1.1.2.2.2 hW ⟨by decide, by decide, by decide, rfl⟩ (fun r12 x13 => ?_))
      refine g2_ck (fun q14 => ?_)
      refine g2_kn q14 (g2_getB qk109_0.1.2.1.1.1.1 hW ⟨by decide, by decide, by decide, rfl⟩ (fun r15 x16 => ?_))
      refine g2_ifeq qk109_0.1.2.1.1.1.2 (inR_b x16) (fun c17 => ?_) (fun c18 => ?_)
      · refine g2_aload qk109_0.1.2.1.1.2 rfl ?_
        refine g2_kn hK1 (g2_getR qk109_0.1.2.1.2.1 hW ⟨by decide, by decide, by decide, rfl⟩ (fun r19 x20 => ?_))
        exact g2_aret qk109_0.1.2.1.2.2 hW x20
      · exact tj109_32 hQ hd h0 h1 S hW hK0 hK1 none rfl none rfl
    · exact tj109_32 hQ hd h0 h1 S hW hK0 hK1 none rfl none rfl
