/-! ===== the law's and the JDK's methods as functions, and that the machine comes to what they tell (own work, by program: wip/p67/gen/lawdec.py) ===== -/
noncomputable def q107_adopt (S : sS) (v0 : Int) (v1 : Int) (v2 : Int) : Option (Int × sS) :=
  bnd (uS S v2 2 v1) (fun S1 => bnd (sg S1 v2 10) (fun r4 => bnd (uS S1 v2 10 (w32 (r4 + (1 : Int)))) (fun S6 => bnd (sg S6 v0 5) (fun r9 => bnd (uS S6 v0 5 (w32 (r9 + (1 : Int)))) (fun S11 => bnd (sg S11 v1 0) (fun r14 => if r14 = 0 then (bnd (sg S11 v0 6) (fun r18 => bnd (uS S11 v0 6 (w32 (r18 + (1 : Int)))) (fun S20 => some (0, S20)))) else (some (0, S11))))))))
theorem tq107_adopt {κ : CX} (hQ : κ.2.2.2.2.2.2.2.2.2 = (ql_I, ql_P)) {n0 s0 : Int} {d : Nat} (hd : 1 ≤ d) {S : sS} (hW : WF2 κ S) {v0 v1 v2 : Int} (hK0 : sK S v0 = 8) (hK1 : sK S v1 = 7) (hK2 : sK S v2 = 7) (h0 : RfO v0) (h1 : RfO v1) (h2 : RfO v2) : G2 κ ql_i107 ql_m107 0 d n0 s0 (q107_adopt S v0 v1 v2) 0 (ev_loc ql_m107.1 [(sR v0), (sR v1), (sR v2)]) [] S := by
  unfold q107_adopt
  refine g2_aload qk107_0.1.1.1.1.1 rfl ?_
  refine g2_aload qk107_0.1.1.1.1.2 rfl ?_
  refine g2_kn ⟨hK2, h2.2⟩ (g2_putR qk107_0.1.1.1.2.1 hW ⟨by decide, by decide, rfl⟩ h1 (fun S1 m2 e3 => ?_))
  refine g2_aload qk107_0.1.1.1.2.2 rfl ?_
  refine g2_dupR qk107_0.1.1.2.1.1 ?_
  refine g2_kn (ek e3 hK2 (by decide)) (g2_getI qk107_0.1.1.2.1.2 m2 ⟨by decide, by decide, by decide, rfl⟩ (fun r4 x5 => ?_))
  refine g2_int qk107_0.1.1.2.2 (1 : Int) rfl ?_
  refine g2_iadd qk107_0.1.2.1.1.1 ?_
  refine g2_kn ⟨(ek e3 hK2 (by decide)), h2.2⟩ (g2_putI qk107_0.1.2.1.1.2 m2 ⟨by decide, by decide, rfl⟩ (inR_w32 _) (fun S6 m7 e8 => ?_))
  refine g2_aload qk107_0.1.2.1.2 rfl ?_
  refine g2_dupR qk107_0.1.2.2.1.1 ?_
  refine g2_kn (ek e8 (ek e3 hK0 (by decide)) (by decide)) (g2_getI qk107_0.1.2.2.1.2 m7 ⟨by decide, by decide, by decide, rfl⟩ (fun r9 x10 => ?_))
  refine g2_int qk107_0.1.2.2.2 (1 : Int) rfl ?_
  refine g2_iadd qk107_0.2.1.1.1.1 ?_
  refine g2_kn ⟨(ek e8 (ek e3 hK0 (by decide)) (by decide)), h0.2⟩ (g2_putI qk107_0.2.1.1.1.2 m7 ⟨by decide, by decide, rfl⟩ (inR_w32 _) (fun S11 m12 e13 => ?_))
  refine g2_aload qk107_0.2.1.1.2 rfl ?_
  refine g2_kn (ek e13 (ek e8 (ek e3 hK1 (by decide)) (by decide)) (by decide)) (g2_getI qk107_0.2.1.2.1.1 m12 ⟨by decide, by decide, by decide, rfl⟩ (fun r14 x15 => ?_))
  refine g2_ifeq qk107_0.2.1.2.1.2 x15 (fun c16 => ?_) (fun c17 => ?_)
  · refine g2_aload qk107_0.2.1.2.2 rfl ?_
    refine g2_dupR qk107_0.2.2.1.1.1 ?_
    refine g2_kn (ek e13 (ek e8 (ek e3 hK0 (by decide)) (by decide)) (by decide)) (g2_getI qk107_0.2.2.1.1.2 m12 ⟨by decide, by decide, by decide, rfl⟩ (fun r18 x19 => ?_))
    refine g2_int qk107_0.2.2.1.2 (1 : Int) rfl ?_
    refine g2_iadd qk107_0.2.2.2.1.1 ?_
    refine g2_kn ⟨(ek e13 (ek e8 (ek e3 hK0 (by decide)) (by decide)) (by decide)), h0.2⟩ (g2_putI qk107_0.2.2.2.1.2 m12 ⟨by decide, by decide, rfl⟩ (inR_w32 _) (fun S20 m21 e22 => ?_))
    exact g2_vret qk107_0.2.2.2.2 m21
  · exact g2_vret qk107_0.2.2.2.2 m12
noncomputable def b108_12 (v1 : Int) (v3 : Int) (X12 : Int → sS → Option (Int × sS)) (v2 : Int) (S : sS) : Option (Int × sS) :=
  if sK S v3 = 10 then bdS (q137_hasNext S v3) (fun y10 S11 => if y10 = 0 then (some (v2, S11)) else (bdS (q139_next S11 v3) (fun y17 S18 => if y17 = -1 ∨ sK S18 y17 = 7 then if sK S18 y17 = 7 then bnd (sg S18 y17 2) (fun r24 => if r24 = v1 then (bnd (sg S18 y17 7) (fun r28 => if r28 = (1 : Int) then (bnd (uS S18 y17 7 (2 : Int)) (fun S32 => bnd (sg S32 y17 8) (fun r35 => X12 (w32 (v2 + r35)) S32))) else (X12 v2 S18))) else (X12 v2 S18)) else none else none))) else none
noncomputable def l108_12 (v1 : Int) (v3 : Int) (n : Nat) : Int → sS → Option (Int × sS) := Nat.rec (motive := fun _ => Int → sS → Option (Int × sS)) (fun _ _ => none) (fun _ ih => b108_12 v1 v3 ih) n
theorem tb108_12 {κ : CX} (hQ : κ.2.2.2.2.2.2.2.2.2 = (ql_I, ql_P)) {n0 s0 : Int} {d : Nat} (hd : 3 ≤ d) {v1 v3 : Int} (h1 : RfO v1) (h3 : RfO v3) {X12 : Int → sS → Option (Int × sS)} (HX12 : ∀ (v2 : Int) (h2 : InR v2) (S : sS) (hW : WF2 κ S) (u0 : Option ev_V) (w0 : nwo u0) (u4 : Option ev_V) (w4 : nwo u4), G2 κ ql_i108 ql_m108 1 d n0 s0 (X12 v2 S) 12 [u0, some (sR v1), some (sI v2), some (sR v3), u4] [] S) : ∀ (v2 : Int) (h2 : InR v2) (S : sS) (hW : WF2 κ S) (u0 : Option ev_V) (w0 : nwo u0) (u4 : Option ev_V) (w4 : nwo u4), G2 κ ql_i108 ql_m108 1 d n0 s0 (b108_12 v1 v3 X12 v2 S) 12 [u0, some (sR v1), some (sI v2), some (sR v3), u4] [] S := by
  intro v2 h2 S hW u0 w0 u4 w4
  unfold b108_12
  refine g2_aload qk108_0.1.1.2.1.2 rfl ?_
  refine g2_ck (fun q9 => ?_)
  refine g2_kn q9 (g2_callF (t' := 3) qk108_0.1.1.2.2.1 (by decide) (ql_ip137 hQ) rfl rfl rfl (by omega) hW (tq137_hasNext hQ (by omega) hW q9 h3) (fun y10 S11 x12 m13 e14 => ?_))
  refine g2_ifeq qk108_0.1.1.2.2.2 (inR_b x12) (fun c15 => ?_) (fun c16 => ?_)
  · refine g2_iload qk108_0.2.2.2.2.1 rfl ?_
    exact g2_iret qk108_0.2.2.2.2.2 m13 h2
  · refine g2_aload qk108_0.1.2.1.1.1 rfl ?_
    refine g2_kn (ek e14 q9 (by decide)) (g2_callF (t' := 2) qk108_0.1.2.1.1.2 (by decide) (ql_ip139 hQ) rfl rfl rfl (by omega) m13 (tq139_next hQ (by omega) m13 (ek e14 q9 (by decide)) h3) (fun y17 S18 x19 m20 e21 => ?_))
    refine g2_ck (fun q22 => ?_)
    refine g2_kn q22 (g2_cast7 qk108_0.1.2.1.2.1 m20 x19 ?_)
    refine g2_astore qk108_0.1.2.1.2.2 rfl (loc2 := [u0, some (sR v1), some (sI v2), some (sR v3), some (sR y17)]) rfl ?_
    refine g2_aload qk108_0.1.2.2.1.1 rfl ?_
    refine g2_ck (fun q23 => ?_)
    refine g2_kn q23 (g2_getR qk108_0.1.2.2.1.2 m20 ⟨by decide, by decide, by decide, rfl⟩ (fun r24 x25 => ?_))
    refine g2_aload qk108_0.1.2.2.2.1 rfl ?_
    refine g2_acmp qk108_0.1.2.2.2.2 x25 h1 (fun c26 => ?_) (fun c27 => ?_)
    · refine g2_aload qk108_0.2.1.1.1.1 rfl ?_
      refine g2_kn q23 (g2_getI qk108_0.2.1.1.1.2 m20 ⟨by decide, by decide, by decide, rfl⟩ (fun r28 x29 => ?_))
      refine g2_int qk108_0.2.1.1.2.1 (1 : Int) rfl ?_
      refine g2_cmeq qk108_0.2.1.1.2.2 x29 (inR_b (Or.inr rfl)) (fun c30 => ?_) (fun c31 => ?_)
      · refine g2_aload qk108_0.2.1.2.1.2 rfl ?_
        refine g2_int qk108_0.2.1.2.2.1 (2 : Int) rfl ?_
        refine g2_kn ⟨q23, x19.2⟩ (g2_putI qk108_0.2.1.2.2.2 m20 ⟨by decide, by decide, rfl⟩ (inR_of (by decide)) (fun S32 m33 e34 => ?_))
        refine g2_iload qk108_0.2.2.1.1.1 rfl ?_
        refine g2_aload qk108_0.2.2.1.1.2 rfl ?_
        refine g2_kn (ek e34 q23 (by decide)) (g2_getI qk108_0.2.2.1.2.1 m33 ⟨by decide, by decide, by decide, rfl⟩ (fun r35 x36 => ?_))
        refine g2_iadd qk108_0.2.2.1.2.2 ?_
        refine g2_istore qk108_0.2.2.2.1.1 rfl (loc2 := [u0, some (sR v1), some (sI (w32 (v2 + r35))), some (sR v3), some (sR y17)]) rfl ?_
        refine g2_goto qk108_0.2.2.2.1.2 ?_
        exact HX12 (w32 (v2 + r35)) (inR_w32 _) S32 m33 u0 w0 (some (sR y17)) rfl
      · refine g2_goto qk108_0.2.1.2.1.1 ?_
        exact HX12 v2 h2 S18 m20 u0 w0 (some (sR y17)) rfl
    · exact HX12 v2 h2 S18 m20 u0 w0 (some (sR y17)) rfl
theorem tl108_12 {κ : CX} (hQ : κ.2.2.2.2.2.2.2.2.2 = (ql_I, ql_P)) {n0 s0 : Int} {d : Nat} (hd : 3 ≤ d) {v1 v3 : Int} (h1 : RfO v1) (h3 : RfO v3) : ∀ n : Nat, ∀ (v2 : Int) (h2 : InR v2) (S : sS) (hW : WF2 κ S) (u0 : Option ev_V) (w0 : nwo u0) (u4 : Option ev_V) (w4 : nwo u4), G2 κ ql_i108 ql_m108 1 d n0 s0 (l108_12 v1 v3 n v2 S) 12 [u0, some (sR v1), some (sI v2), some (sR v3), u4] [] S := by
  intro n
  induction n with
  | zero =>
    intro v2 h2 S hW u0 w0 u4 w4
    exact g2_none
  | succ n ih =>
    exact tb108_12 hQ hd h1 h3 ih
noncomputable def q108_readAll (S : sS) (v0 : Int) (v1 : Int) : Option (Int × sS) :=
  bnd (sg S v0 1) (fun r1 => if sK S r1 = 9 then bdS (q136_iterator S r1) (fun y4 S5 => l108_12 v1 y4 fu (0 : Int) S5) else none)
theorem tq108_readAll {κ : CX} (hQ : κ.2.2.2.2.2.2.2.2.2 = (ql_I, ql_P)) {n0 s0 : Int} {d : Nat} (hd : 3 ≤ d) {S : sS} (hW : WF2 κ S) {v0 v1 : Int} (hK0 : sK S v0 = 8) (h0 : RfO v0) (h1 : RfO v1) : G2 κ ql_i108 ql_m108 1 d n0 s0 (q108_readAll S v0 v1) 0 (ev_loc ql_m108.1 [(sR v0), (sR v1)]) [] S := by
  unfold q108_readAll
  refine g2_int qk108_0.1.1.1.1.1.1 (0 : Int) rfl ?_
  refine g2_istore qk108_0.1.1.1.1.1.2 rfl (loc2 := [some (sR v0), some (sR v1), some (sI (0 : Int)), none, none]) rfl ?_
  refine g2_aload qk108_0.1.1.1.1.2 rfl ?_
  refine g2_kn hK0 (g2_getR qk108_0.1.1.1.2.1 hW ⟨by decide, by decide, by decide, rfl⟩ (fun r1 x2 => ?_))
  refine g2_ck (fun q3 => ?_)
  refine g2_kn q3 (g2_callF (t' := 2) qk108_0.1.1.1.2.2 (by decide) (ql_ip136 hQ) rfl rfl rfl (by omega) hW (tq136_iterator hQ (by omega) hW q3 x2) (fun y4 S5 x6 m7 e8 => ?_))
  refine g2_astore qk108_0.1.1.2.1.1 rfl (loc2 := [some (sR v0), some (sR v1), some (sI (0 : Int)), some (sR y4), none]) rfl ?_
  exact tl108_12 hQ hd h1 x6 fu (0 : Int) (inR_b (Or.inl rfl)) S5 m7 (some (sR v0)) rfl none rfl
noncomputable def j110_286 (X244 : sS → Option (Int × sS)) (v0 : Int) (v1 : Int) (v3 : Int) (v4 : Int) (v5 : Int) (v6 : Int) (v7 : Int) (a0 : Int) (S : sS) : Option (Int × sS) :=
  if sK S v7 = 7 then bdS (q106_adopter S v0 v7 v1) (fun y224 S225 => if sK S225 a0 = 8 then if sK S225 y224 = 7 then bdS (q107_adopt S225 a0 y224 v7) (fun y231 S232 => X244 S232) else none else none) else none
theorem tj110_286 {κ : CX} (hQ : κ.2.2.2.2.2.2.2.2.2 = (ql_I, ql_P)) {n0 s0 : Int} {d : Nat} (hd : 65 ≤ d) {v0 v1 v3 v4 v5 v6 v7 : Int} {a0 : Int} (h0 : RfO v0) (h1 : RfO v1) (h3 : RfO v3) (h4 : InR v4) (h5 : RfO v5) (h6 : RfO v6) (h7 : RfO v7) (z0 : RfO a0) {X244 : sS → Option (Int × sS)} (HX244 : ∀ (S : sS) (hW : WF2 κ S) (hK0 : sK S v0 = 8) (hK1 : sK S v1 = 7) (u2 : Option ev_V) (w2 : nwo u2) (u7 : Option ev_V) (w7 : nwo u7), G2 κ ql_i110 ql_m110 1 d n0 s0 (X244 S) 244 [some (sR v0), some (sR v1), u2, some (sR v3), some (sI v4), some (sR v5), some (sR v6), u7] [] S) (S : sS) (hW : WF2 κ S) (hK0 : sK S v0 = 8) (hK1 : sK S v1 = 7) (u2 : Option ev_V) (w2 : nwo u2) : G2 κ ql_i110 ql_m110 1 d n0 s0 (j110_286 X244 v0 v1 v3 v4 v5 v6 v7 a0 S) 286 [some (sR v0), some (sR v1), u2, some (sR v3), some (sI v4), some (sR v5), some (sR v6), some (sR v7)] [(sR a0)] S := by
  unfold j110_286
  refine g2_aload qk110_2.1.2.1.1.2.1 rfl ?_
  refine g2_aload qk110_2.1.2.1.1.2.2 rfl ?_
  refine g2_aload qk110_2.1.2.1.2.1.1 rfl ?_
  refine g2_ck (fun q223 => ?_)
  refine g2_kn hK0 (g2_callV (t' := 2) qk110_2.1.2.1.2.1.2 (by decide) (ql_ip106 hQ) (by decide) rfl rfl rfl (by omega) hW (tq106_adopter hQ (by omega) hW hK0 q223 hK1 h0 h7 h1) (fun y224 S225 x226 m227 e228 => ?_))
  refine g2_aload qk110_2.1.2.1.2.2.1 rfl ?_
  refine g2_ck (fun q229 => ?_)
  refine g2_ck (fun q230 => ?_)
  refine g2_kn q229 (g2_callV (t' := 0) qk110_2.1.2.1.2.2.2 (by decide) (ql_ip107 hQ) (by decide) rfl rfl rfl (by omega) m227 (tq107_adopt hQ (by omega) m227 q229 q230 (ek e228 q223 (by decide)) z0 x226 h7) (fun y231 S232 x233 m234 e235 => ?_))
  refine g2_goto qk110_2.1.2.2.1.1.1 ?_
  exact HX244 S232 m234 (ek e235 (ek e228 hK0 (by decide)) (by decide)) (ek e235 (ek e228 hK1 (by decide)) (by decide)) u2 w2 (some (sR v7)) rfl
noncomputable def j110_361 (v0 : Int) (v4 : Int) (a0 : Int) (S : sS) : Option (Int × sS) :=
  if a0 < 0 then (some ((-1 : Int), S)) else (bnd (sg S v0 6) (fun r277 => some ((w32 (r277 - v4)), S)))
theorem tj110_361 {κ : CX} (hQ : κ.2.2.2.2.2.2.2.2.2 = (ql_I, ql_P)) {n0 s0 : Int} {d : Nat} (hd : 65 ≤ d) {v0 v4 : Int} {a0 : Int} (h0 : RfO v0) (h4 : InR v4) (z0 : InR a0) (S : sS) (hW : WF2 κ S) (hK0 : sK S v0 = 8) (u1 : Option ev_V) (w1 : nwo u1) (u2 : Option ev_V) (w2 : nwo u2) (u3 : Option ev_V) (w3 : nwo u3) (u5 : Option ev_V) (w5 : nwo u5) (u6 : Option ev_V) (w6 : nwo u6) (u7 : Option ev_V) (w7 : nwo u7) : G2 κ ql_i110 ql_m110 1 d n0 s0 (j110_361 v0 v4 a0 S) 361 [some (sR v0), u1, u2, u3, some (sI v4), u5, u6, u7] [(sI a0)] S := by
  unfold j110_361
  refine g2_istore qk110_2.2.2.1.2.1.1 w5 (loc2 := [some (sR v0), u1, u2, u3, some (sI v4), u5, some (sI a0), u7]) rfl ?_
  refine g2_iload qk110_2.2.2.1.2.1.2 rfl ?_
  refine g2_iflt qk110_2.2.2.1.2.2 z0 (fun c275 => ?_) (fun c276 => ?_)
  · refine g2_int qk110_2.2.2.2.1.1.1 (-1 : Int) rfl ?_
    refine g2_goto qk110_2.2.2.2.1.1.2 ?_
    exact g2_iret qk110_2.2.2.2.2.2 hW (inR_of (by decide))
  · refine g2_aload qk110_2.2.2.2.1.2.1 rfl ?_
    refine g2_kn hK0 (g2_getI qk110_2.2.2.2.1.2.2 hW ⟨by decide, by decide, by decide, rfl⟩ (fun r277 x278 => ?_))
    refine g2_iload qk110_2.2.2.2.2.1.1 rfl ?_
    refine g2_isub qk110_2.2.2.2.2.1.2 ?_
    exact g2_iret qk110_2.2.2.2.2.2 hW (inR_w32 _)
noncomputable def j110_345 (v0 : Int) (v3 : Int) (v4 : Int) (S : sS) : Option (Int × sS) :=
  if sK S v3 = 7 then bnd (sg S v3 0) (fun r266 => if r266 = 0 then (bdS (q108_readAll S v0 v3) (fun y270 S271 => j110_361 v0 v4 y270 S271)) else (j110_361 v0 v4 (0 : Int) S)) else none
theorem tj110_345 {κ : CX} (hQ : κ.2.2.2.2.2.2.2.2.2 = (ql_I, ql_P)) {n0 s0 : Int} {d : Nat} (hd : 65 ≤ d) {v0 v3 v4 : Int} (h0 : RfO v0) (h3 : RfO v3) (h4 : InR v4) (S : sS) (hW : WF2 κ S) (hK0 : sK S v0 = 8) (u1 : Option ev_V) (w1 : nwo u1) (u2 : Option ev_V) (w2 : nwo u2) (u5 : Option ev_V) (w5 : nwo u5) (u6 : Option ev_V) (w6 : nwo u6) (u7 : Option ev_V) (w7 : nwo u7) : G2 κ ql_i110 ql_m110 1 d n0 s0 (j110_345 v0 v3 v4 S) 345 [some (sR v0), u1, u2, some (sR v3), some (sI v4), u5, u6, u7] [] S := by
  unfold j110_345
  refine g2_aload qk110_2.2.1.2.1.2.2 rfl ?_
  refine g2_ck (fun q265 => ?_)
  refine g2_kn q265 (g2_getI qk110_2.2.1.2.2.1.1 hW ⟨by decide, by decide, by decide, rfl⟩ (fun r266 x267 => ?_))
  refine g2_ifeq qk110_2.2.1.2.2.1.2 x267 (fun c268 => ?_) (fun c269 => ?_)
  · refine g2_aload qk110_2.2.1.2.2.2 rfl ?_
    refine g2_aload qk110_2.2.2.1.1.1.1 rfl ?_
    refine g2_kn hK0 (g2_callV (t' := 1) qk110_2.2.2.1.1.1.2 (by decide) (ql_ip108 hQ) (by decide) rfl rfl rfl (by omega) hW (tq108_readAll hQ (by omega) hW hK0 h0 h3) (fun y270 S271 x272 m273 e274 => ?_))
    refine g2_goto qk110_2.2.2.1.1.2.1 ?_
    exact tj110_361 hQ hd h0 h4 x272 S271 m273 (ek e274 hK0 (by decide)) u1 w1 u2 w2 (some (sR v3)) rfl u5 w5 u6 w6 u7 w7
  · refine g2_int qk110_2.2.2.1.1.2.2 (0 : Int) rfl ?_
    exact tj110_361 hQ hd h0 h4 (inR_b (Or.inl rfl)) S hW hK0 u1 w1 u2 w2 (some (sR v3)) rfl u5 w5 u6 w6 u7 w7
noncomputable def b110_314 (v0 : Int) (v3 : Int) (v4 : Int) (v6 : Int) (X314 : sS → Option (Int × sS)) (S : sS) : Option (Int × sS) :=
  if sK S v6 = 10 then bdS (q137_hasNext S v6) (fun y248 S249 => if y248 = 0 then (j110_345 v0 v3 v4 S249) else (bdS (q139_next S249 v6) (fun y255 S256 => if y255 = -1 ∨ sK S256 y255 = 7 then if sK S256 y255 = 7 then bnd (uS S256 y255 2 v3) (fun S262 => X314 S262) else none else none))) else none
noncomputable def l110_314 (v0 : Int) (v3 : Int) (v4 : Int) (v6 : Int) (n : Nat) : sS → Option (Int × sS) := Nat.rec (motive := fun _ => sS → Option (Int × sS)) (fun _ => none) (fun _ ih => b110_314 v0 v3 v4 v6 ih) n
theorem tb110_314 {κ : CX} (hQ : κ.2.2.2.2.2.2.2.2.2 = (ql_I, ql_P)) {n0 s0 : Int} {d : Nat} (hd : 65 ≤ d) {v0 v3 v4 v6 : Int} (h0 : RfO v0) (h3 : RfO v3) (h4 : InR v4) (h6 : RfO v6) {X314 : sS → Option (Int × sS)} (HX314 : ∀ (S : sS) (hW : WF2 κ S) (hK0 : sK S v0 = 8) (u1 : Option ev_V) (w1 : nwo u1) (u2 : Option ev_V) (w2 : nwo u2) (u5 : Option ev_V) (w5 : nwo u5) (u7 : Option ev_V) (w7 : nwo u7), G2 κ ql_i110 ql_m110 1 d n0 s0 (X314 S) 314 [some (sR v0), u1, u2, some (sR v3), some (sI v4), u5, some (sR v6), u7] [] S) : ∀ (S : sS) (hW : WF2 κ S) (hK0 : sK S v0 = 8) (u1 : Option ev_V) (w1 : nwo u1) (u2 : Option ev_V) (w2 : nwo u2) (u5 : Option ev_V) (w5 : nwo u5) (u7 : Option ev_V) (w7 : nwo u7), G2 κ ql_i110 ql_m110 1 d n0 s0 (b110_314 v0 v3 v4 v6 X314 S) 314 [some (sR v0), u1, u2, some (sR v3), some (sI v4), u5, some (sR v6), u7] [] S := by
  intro S hW hK0 u1 w1 u2 w2 u5 w5 u7 w7
  unfold b110_314
  refine g2_aload qk110_2.2.1.1.1.1.1 rfl ?_
  refine g2_ck (fun q247 => ?_)
  refine g2_kn q247 (g2_callF (t' := 3) qk110_2.2.1.1.1.1.2 (by decide) (ql_ip137 hQ) rfl rfl rfl (by omega) hW (tq137_hasNext hQ (by omega) hW q247 h6) (fun y248 S249 x250 m251 e252 => ?_))
  refine g2_ifeq qk110_2.2.1.1.1.2.1 (inR_b x250) (fun c253 => ?_) (fun c254 => ?_)
  · exact tj110_345 hQ hd h0 h3 h4 S249 m251 (ek e252 hK0 (by decide)) u1 w1 u2 w2 u5 w5 (some (sR v6)) rfl u7 w7
  · refine g2_aload qk110_2.2.1.1.1.2.2 rfl ?_
    refine g2_kn (ek e252 q247 (by decide)) (g2_callF (t' := 2) qk110_2.2.1.1.2.1.1 (by decide) (ql_ip139 hQ) rfl rfl rfl (by omega) m251 (tq139_next hQ (by omega) m251 (ek e252 q247 (by decide)) h6) (fun y255 S256 x257 m258 e259 => ?_))
    refine g2_ck (fun q260 => ?_)
    refine g2_kn q260 (g2_cast7 qk110_2.2.1.1.2.1.2 m258 x257 ?_)
    refine g2_astore qk110_2.2.1.1.2.2.1 rfl (loc2 := [some (sR v0), u1, u2, some (sR v3), some (sI v4), u5, some (sR v6), some (sR y255)]) rfl ?_
    refine g2_aload qk110_2.2.1.1.2.2.2 rfl ?_
    refine g2_aload qk110_2.2.1.2.1.1.1 rfl ?_
    refine g2_ck (fun q261 => ?_)
    refine g2_kn ⟨q261, x257.2⟩ (g2_putR qk110_2.2.1.2.1.1.2 m258 ⟨by decide, by decide, rfl⟩ h3 (fun S262 m263 e264 => ?_))
    refine g2_goto qk110_2.2.1.2.1.2.1 ?_
    exact HX314 S262 m263 (ek e264 (ek e259 (ek e252 hK0 (by decide)) (by decide)) (by decide)) u1 w1 u2 w2 u5 w5 (some (sR y255)) rfl
theorem tl110_314 {κ : CX} (hQ : κ.2.2.2.2.2.2.2.2.2 = (ql_I, ql_P)) {n0 s0 : Int} {d : Nat} (hd : 65 ≤ d) {v0 v3 v4 v6 : Int} (h0 : RfO v0) (h3 : RfO v3) (h4 : InR v4) (h6 : RfO v6) : ∀ n : Nat, ∀ (S : sS) (hW : WF2 κ S) (hK0 : sK S v0 = 8) (u1 : Option ev_V) (w1 : nwo u1) (u2 : Option ev_V) (w2 : nwo u2) (u5 : Option ev_V) (w5 : nwo u5) (u7 : Option ev_V) (w7 : nwo u7), G2 κ ql_i110 ql_m110 1 d n0 s0 (l110_314 v0 v3 v4 v6 n S) 314 [some (sR v0), u1, u2, some (sR v3), some (sI v4), u5, some (sR v6), u7] [] S := by
  intro n
  induction n with
  | zero =>
    intro S hW hK0 u1 w1 u2 w2 u5 w5 u7 w7
    exact g2_none
  | succ n ih =>
    exact tb110_314 hQ hd h0 h3 h4 h6 ih
noncomputable def j110_301 (v0 : Int) (v1 : Int) (v3 : Int) (v4 : Int) (S : sS) : Option (Int × sS) :=
  bdS (q103_children S v0 v1 (1 : Int)) (fun y236 S237 => if sK S237 y236 = 9 then bdS (q136_iterator S237 y236) (fun y242 S243 => l110_314 v0 v3 v4 y242 fu S243) else none)
theorem tj110_301 {κ : CX} (hQ : κ.2.2.2.2.2.2.2.2.2 = (ql_I, ql_P)) {n0 s0 : Int} {d : Nat} (hd : 65 ≤ d) {v0 v1 v3 v4 : Int} (h0 : RfO v0) (h1 : RfO v1) (h3 : RfO v3) (h4 : InR v4) (S : sS) (hW : WF2 κ S) (hK0 : sK S v0 = 8) (hK1 : sK S v1 = 7) (u2 : Option ev_V) (w2 : nwo u2) (u5 : Option ev_V) (w5 : nwo u5) (u6 : Option ev_V) (w6 : nwo u6) (u7 : Option ev_V) (w7 : nwo u7) : G2 κ ql_i110 ql_m110 1 d n0 s0 (j110_301 v0 v1 v3 v4 S) 301 [some (sR v0), some (sR v1), u2, some (sR v3), some (sI v4), u5, u6, u7] [] S := by
  unfold j110_301
  refine g2_aload qk110_2.1.2.2.1.1.2 rfl ?_
  refine g2_aload qk110_2.1.2.2.1.2.1 rfl ?_
  refine g2_int qk110_2.1.2.2.1.2.2 (1 : Int) rfl ?_
  refine g2_kn hK0 (g2_callV (t' := 2) qk110_2.1.2.2.2.1.1 (by decide) (ql_ip103 hQ) (by decide) rfl rfl rfl (by omega) hW (tq103_children hQ (by omega) hW hK0 h0 h1 (inR_b (Or.inr rfl))) (fun y236 S237 x238 m239 e240 => ?_))
  refine g2_ck (fun q241 => ?_)
  refine g2_kn q241 (g2_callF (t' := 2) qk110_2.1.2.2.2.1.2 (by decide) (ql_ip136 hQ) rfl rfl rfl (by omega) m239 (tq136_iterator hQ (by omega) m239 q241 x238) (fun y242 S243 x244 m245 e246 => ?_))
  refine g2_astore qk110_2.1.2.2.2.2 w5 (loc2 := [some (sR v0), some (sR v1), u2, some (sR v3), some (sI v4), u5, some (sR y242), u7]) rfl ?_
  exact tl110_314 hQ hd h0 h3 h4 x244 fu S243 m245 (ek e246 (ek e240 hK0 (by decide)) (by decide)) (some (sR v1)) rfl u2 w2 u5 w5 u7 w7
noncomputable def b110_244 (v0 : Int) (v1 : Int) (v3 : Int) (v4 : Int) (v5 : Int) (v6 : Int) (X244 : sS → Option (Int × sS)) (S : sS) : Option (Int × sS) :=
  if sK S v6 = 10 then bdS (q137_hasNext S v6) (fun y194 S195 => if y194 = 0 then (j110_301 v0 v1 v3 v4 S195) else (bdS (q139_next S195 v6) (fun y201 S202 => if y201 = -1 ∨ sK S202 y201 = 7 then if v5 < 0 then (j110_286 X244 v0 v1 v3 v4 v5 v6 y201 v0 S202) else (if sK S202 v5 = 7 then bdS (q104_room S202 v0 v5) (fun y210 S211 => if 0 < y210 then (if sK S211 y201 = 7 then bdS (q107_adopt S211 v0 v5 y201) (fun y218 S219 => X244 S219) else none) else (j110_286 X244 v0 v1 v3 v4 v5 v6 y201 v0 S211)) else none) else none))) else none
noncomputable def l110_244 (v0 : Int) (v1 : Int) (v3 : Int) (v4 : Int) (v5 : Int) (v6 : Int) (n : Nat) : sS → Option (Int × sS) := Nat.rec (motive := fun _ => sS → Option (Int × sS)) (fun _ => none) (fun _ ih => b110_244 v0 v1 v3 v4 v5 v6 ih) n
theorem tb110_244 {κ : CX} (hQ : κ.2.2.2.2.2.2.2.2.2 = (ql_I, ql_P)) {n0 s0 : Int} {d : Nat} (hd : 65 ≤ d) {v0 v1 v3 v4 v5 v6 : Int} (h0 : RfO v0) (h1 : RfO v1) (h3 : RfO v3) (h4 : InR v4) (h5 : RfO v5) (h6 : RfO v6) {X244 : sS → Option (Int × sS)} (HX244 : ∀ (S : sS) (hW : WF2 κ S) (hK0 : sK S v0 = 8) (hK1 : sK S v1 = 7) (u2 : Option ev_V) (w2 : nwo u2) (u7 : Option ev_V) (w7 : nwo u7), G2 κ ql_i110 ql_m110 1 d n0 s0 (X244 S) 244 [some (sR v0), some (sR v1), u2, some (sR v3), some (sI v4), some (sR v5), some (sR v6), u7] [] S) : ∀ (S : sS) (hW : WF2 κ S) (hK0 : sK S v0 = 8) (hK1 : sK S v1 = 7) (u2 : Option ev_V) (w2 : nwo u2) (u7 : Option ev_V) (w7 : nwo u7), G2 κ ql_i110 ql_m110 1 d n0 s0 (b110_244 v0 v1 v3 v4 v5 v6 X244 S) 244 [some (sR v0), some (sR v1), u2, some (sR v3), some (sI v4), some (sR v5), some (sR v6), u7] [] S := by
  intro S hW hK0 hK1 u2 w2 u7 w7
  unfold b110_244
  refine g2_aload qk110_2.1.1.1.1.1.2 rfl ?_
  refine g2_ck (fun q193 => ?_)
  refine g2_kn q193 (g2_callF (t' := 3) qk110_2.1.1.1.1.2.1 (by decide) (ql_ip137 hQ) rfl rfl rfl (by omega) hW (tq137_hasNext hQ (by omega) hW q193 h6) (fun y194 S195 x196 m197 e198 => ?_))
  refine g2_ifeq qk110_2.1.1.1.1.2.2 (inR_b x196) (fun c199 => ?_) (fun c200 => ?_)
  · exact tj110_301 hQ hd h0 h1 h3 h4 S195 m197 (ek e198 hK0 (by decide)) (ek e198 hK1 (by decide)) u2 w2 (some (sR v5)) rfl (some (sR v6)) rfl u7 w7
  · refine g2_aload qk110_2.1.1.1.2.1.1 rfl ?_
    refine g2_kn (ek e198 q193 (by decide)) (g2_callF (t' := 2) qk110_2.1.1.1.2.1.2 (by decide) (ql_ip139 hQ) rfl rfl rfl (by omega) m197 (tq139_next hQ (by omega) m197 (ek e198 q193 (by decide)) h6) (fun y201 S202 x203 m204 e205 => ?_))
    refine g2_ck (fun q206 => ?_)
    refine g2_kn q206 (g2_cast7 qk110_2.1.1.1.2.2.1 m204 x203 ?_)
    refine g2_astore qk110_2.1.1.1.2.2.2 rfl (loc2 := [some (sR v0), some (sR v1), u2, some (sR v3), some (sI v4), some (sR v5), some (sR v6), some (sR y201)]) rfl ?_
    refine g2_aload qk110_2.1.1.2.1.1.1 rfl ?_
    refine g2_aload qk110_2.1.1.2.1.1.2 rfl ?_
    refine g2_isnull qk110_2.1.1.2.1.2.1 (fun c207 => ?_) (fun c208 => ?_)
    · exact tj110_286 hQ hd h0 h1 h3 h4 h5 h6 x203 h0 HX244 S202 m204 (ek e205 (ek e198 hK0 (by decide)) (by decide)) (ek e205 (ek e198 hK1 (by decide)) (by decide)) u2 w2
    · refine g2_aload qk110_2.1.1.2.1.2.2 rfl ?_
      refine g2_aload qk110_2.1.1.2.2.1.1 rfl ?_
      refine g2_ck (fun q209 => ?_)
      refine g2_kn (ek e205 (ek e198 hK0 (by decide)) (by decide)) (g2_callV (t' := 1) qk110_2.1.1.2.2.1.2 (by decide) (ql_ip104 hQ) (by decide) rfl rfl rfl (by omega) m204 (tq104_room hQ (by omega) m204 (ek e205 (ek e198 hK0 (by decide)) (by decide)) q209 h0 h5) (fun y210 S211 x212 m213 e214 => ?_))
      refine g2_ifgt qk110_2.1.1.2.2.2 x212 (fun c215 => ?_) (fun c216 => ?_)
      · refine g2_aload qk110_2.1.2.1.1.1.1 rfl ?_
        refine g2_goto qk110_2.1.2.1.1.1.2 ?_
        refine g2_aload qk110_2.1.2.1.2.2.1 rfl ?_
        refine g2_ck (fun q217 => ?_)
        refine g2_kn (ek e214 (ek e205 (ek e198 hK0 (by decide)) (by decide)) (by decide)) (g2_callV (t' := 0) qk110_2.1.2.1.2.2.2 (by decide) (ql_ip107 hQ) (by decide) rfl rfl rfl (by omega) m213 (tq107_adopt hQ (by omega) m213 (ek e214 (ek e205 (ek e198 hK0 (by decide)) (by decide)) (by decide)) (ek e214 q209 (by decide)) q217 h0 h5 x203) (fun y218 S219 x220 m221 e222 => ?_))
        refine g2_goto qk110_2.1.2.2.1.1.1 ?_
        exact HX244 S219 m221 (ek e222 (ek e214 (ek e205 (ek e198 hK0 (by decide)) (by decide)) (by decide)) (by decide)) (ek e222 (ek e214 (ek e205 (ek e198 hK1 (by decide)) (by decide)) (by decide)) (by decide)) u2 w2 (some (sR y201)) rfl
      · exact tj110_286 hQ hd h0 h1 h3 h4 h5 h6 x203 h0 HX244 S211 m213 (ek e214 (ek e205 (ek e198 hK0 (by decide)) (by decide)) (by decide)) (ek e214 (ek e205 (ek e198 hK1 (by decide)) (by decide)) (by decide)) u2 w2
theorem tl110_244 {κ : CX} (hQ : κ.2.2.2.2.2.2.2.2.2 = (ql_I, ql_P)) {n0 s0 : Int} {d : Nat} (hd : 65 ≤ d) {v0 v1 v3 v4 v5 v6 : Int} (h0 : RfO v0) (h1 : RfO v1) (h3 : RfO v3) (h4 : InR v4) (h5 : RfO v5) (h6 : RfO v6) : ∀ n : Nat, ∀ (S : sS) (hW : WF2 κ S) (hK0 : sK S v0 = 8) (hK1 : sK S v1 = 7) (u2 : Option ev_V) (w2 : nwo u2) (u7 : Option ev_V) (w7 : nwo u7), G2 κ ql_i110 ql_m110 1 d n0 s0 (l110_244 v0 v1 v3 v4 v5 v6 n S) 244 [some (sR v0), some (sR v1), u2, some (sR v3), some (sI v4), some (sR v5), some (sR v6), u7] [] S := by
  intro n
  induction n with
  | zero =>
    intro S hW hK0 hK1 u2 w2 u7 w7
    exact g2_none
  | succ n ih =>
    exact tb110_244 hQ hd h0 h1 h3 h4 h5 h6 ih
noncomputable def j110_231 (v0 : Int) (v1 : Int) (v3 : Int) (v4 : Int) (v5 : Int) (S : sS) : Option (Int × sS) :=
  bdS (q103_children S v0 v1 (0 : Int)) (fun y182 S183 => if sK S183 y182 = 9 then bdS (q136_iterator S183 y182) (fun y188 S189 => l110_244 v0 v1 v3 v4 v5 y188 fu S189) else none)
theorem tj110_231 {κ : CX} (hQ : κ.2.2.2.2.2.2.2.2.2 = (ql_I, ql_P)) {n0 s0 : Int} {d : Nat} (hd : 65 ≤ d) {v0 v1 v3 v4 v5 : Int} (h0 : RfO v0) (h1 : RfO v1) (h3 : RfO v3) (h4 : InR v4) (h5 : RfO v5) (S : sS) (hW : WF2 κ S) (hK0 : sK S v0 = 8) (hK1 : sK S v1 = 7) (u2 : Option ev_V) (w2 : nwo u2) (u6 : Option ev_V) (w6 : nwo u6) (u7 : Option ev_V) (w7 : nwo u7) : G2 κ ql_i110 ql_m110 1 d n0 s0 (j110_231 v0 v1 v3 v4 v5 S) 231 [some (sR v0), some (sR v1), u2, some (sR v3), some (sI v4), some (sR v5), u6, u7] [] S := by
  unfold j110_231
  refine g2_aload qk110_1.2.2.2.1.2.1 rfl ?_
  refine g2_aload qk110_1.2.2.2.1.2.2 rfl ?_
  refine g2_int qk110_1.2.2.2.2.1.1 (0 : Int) rfl ?_
  refine g2_kn hK0 (g2_callV (t' := 2) qk110_1.2.2.2.2.1.2 (by decide) (ql_ip103 hQ) (by decide) rfl rfl rfl (by omega) hW (tq103_children hQ (by omega) hW hK0 h0 h1 (inR_b (Or.inl rfl))) (fun y182 S183 x184 m185 e186 => ?_))
  refine g2_ck (fun q187 => ?_)
  refine g2_kn q187 (g2_callF (t' := 2) qk110_1.2.2.2.2.2 (by decide) (ql_ip136 hQ) rfl rfl rfl (by omega) m185 (tq136_iterator hQ (by omega) m185 q187 x184) (fun y188 S189 x190 m191 e192 => ?_))
  refine g2_astore qk110_2.1.1.1.1.1.1 rfl (loc2 := [some (sR v0), some (sR v1), u2, some (sR v3), some (sI v4), some (sR v5), some (sR y188), u7]) rfl ?_
  exact tl110_244 hQ hd h0 h1 h3 h4 h5 x190 fu S189 m191 (ek e192 (ek e186 hK0 (by decide)) (by decide)) (ek e192 (ek e186 hK1 (by decide)) (by decide)) u2 w2 u7 w7
noncomputable def b110_139 (v0 : Int) (v1 : Int) (v3 : Int) (v4 : Int) (v5 : Int) (X139 : Int → sS → Option (Int × sS)) (v6 : Int) (S : sS) : Option (Int × sS) :=
  if v6 < (8 : Int) then (bnd (sg S v0 2) (fun r89 => if sK S r89 = 27 then if 0 ≤ v6 ∧ v6 < sZ S r89 then bnd (sg S r89 v6) (fun r93 => if r93 = v1 then (bnd (sg S v0 2) (fun r97 => if v5 < 0 then (bnd (sg S v1 12) (fun r101 => if sK S r101 = 27 then if 0 ≤ v6 ∧ v6 < sZ S r101 then bnd (sg S r101 v6) (fun r105 => if r105 < 0 then (bdS (q109_heir S v0 v1) (fun y109 S110 => if sK S110 r97 = 27 then if 0 ≤ v6 ∧ v6 < sZ S110 r97 then if y109 = -1 ∨ sK S110 y109 = 7 then bnd (uS S110 r97 v6 y109) (fun S117 => X139 (w32 (v6 + (1 : Int))) S117) else none else none else none)) else (bnd (sg S v1 12) (fun r120 => if sK S r120 = 27 then if 0 ≤ v6 ∧ v6 < sZ S r120 then bnd (sg S r120 v6) (fun r124 => if sK S r124 = 7 then bnd (sg S r124 7) (fun r127 => if r127 = 0 then (bnd (sg S v1 12) (fun r131 => if sK S r131 = 27 then if 0 ≤ v6 ∧ v6 < sZ S r131 then bnd (sg S r131 v6) (fun r135 => if sK S r135 = 7 then bnd (sg S r135 11) (fun r138 => if r138 = 0 then (bnd (sg S v1 12) (fun r142 => if sK S r142 = 27 then if 0 ≤ v6 ∧ v6 < sZ S r142 then bnd (sg S r142 v6) (fun r146 => if sK S r97 = 27 then if 0 ≤ v6 ∧ v6 < sZ S r97 then if r146 = -1 ∨ sK S r146 = 7 then bnd (uS S r97 v6 r146) (fun S151 => X139 (w32 (v6 + (1 : Int))) S151) else none else none else none) else none else none)) else (bdS (q109_heir S v0 v1) (fun y154 S155 => if sK S155 r97 = 27 then if 0 ≤ v6 ∧ v6 < sZ S155 r97 then if y154 = -1 ∨ sK S155 y154 = 7 then bnd (uS S155 r97 v6 y154) (fun S162 => X139 (w32 (v6 + (1 : Int))) S162) else none else none else none))) else none) else none else none)) else (bdS (q109_heir S v0 v1) (fun y165 S166 => if sK S166 r97 = 27 then if 0 ≤ v6 ∧ v6 < sZ S166 r97 then if y165 = -1 ∨ sK S166 y165 = 7 then bnd (uS S166 r97 v6 y165) (fun S173 => X139 (w32 (v6 + (1 : Int))) S173) else none else none else none))) else none) else none else none))) else none else none)) else (if sK S r97 = 27 then if 0 ≤ v6 ∧ v6 < sZ S r97 then if v5 = -1 ∨ sK S v5 = 7 then bnd (uS S r97 v6 v5) (fun S179 => X139 (w32 (v6 + (1 : Int))) S179) else none else none else none))) else (X139 (w32 (v6 + (1 : Int))) S)) else none else none)) else (j110_231 v0 v1 v3 v4 v5 S)
noncomputable def l110_139 (v0 : Int) (v1 : Int) (v3 : Int) (v4 : Int) (v5 : Int) (n : Nat) : Int → sS → Option (Int × sS) := Nat.rec (motive := fun _ => Int → sS → Option (Int × sS)) (fun _ _ => none) (fun _ ih => b110_139 v0 v1 v3 v4 v5 ih) n
theorem tb110_139 {κ : CX} (hQ : κ.2.2.2.2.2.2.2.2.2 = (ql_I, ql_P)) {n0 s0 : Int} {d : Nat} (hd : 65 ≤ d) {v0 v1 v3 v4 v5 : Int} (h0 : RfO v0) (h1 : RfO v1) (h3 : RfO v3) (h4 : InR v4) (h5 : RfO v5) {X139 : Int → sS → Option (Int × sS)} (HX139 : ∀ (v6 : Int) (h6 : InR v6) (S : sS) (hW : WF2 κ S) (hK0 : sK S v0 = 8) (hK1 : sK S v1 = 7) (u2 : Option ev_V) (w2 : nwo u2) (u7 : Option ev_V) (w7 : nwo u7), G2 κ ql_i110 ql_m110 1 d n0 s0 (X139 v6 S) 139 [some (sR v0), some (sR v1), u2, some (sR v3), some (sI v4), some (sR v5), some (sI v6), u7] [] S) : ∀ (v6 : Int) (h6 : InR v6) (S : sS) (hW : WF2 κ S) (hK0 : sK S v0 = 8) (hK1 : sK S v1 = 7) (u2 : Option ev_V) (w2 : nwo u2) (u7 : Option ev_V) (w7 : nwo u7), G2 κ ql_i110 ql_m110 1 d n0 s0 (b110_139 v0 v1 v3 v4 v5 X139 v6 S) 139 [some (sR v0), some (sR v1), u2, some (sR v3), some (sI v4), some (sR v5), some (sI v6), u7] [] S := by
  intro v6 h6 S hW hK0 hK1 u2 w2 u7 w7
  unfold b110_139
  refine g2_iload qk110_1.1.1.2.1.2.1 rfl ?_
  refine g2_int qk110_1.1.1.2.1.2.2 (8 : Int) rfl ?_
  refine g2_cmlt qk110_1.1.1.2.2.1.1 h6 (inR_of (by decide)) (fun c87 => ?_) (fun c88 => ?_)
  · refine g2_aload qk110_1.1.1.2.2.1.2 rfl ?_
    refine g2_kn hK0 (g2_getR qk110_1.1.1.2.2.2 hW ⟨by decide, by decide, by decide, rfl⟩ (fun r89 x90 => ?_))
    refine g2_iload qk110_1.1.2.1.1.1.1 rfl ?_
    refine g2_ck (fun q91 => ?_)
    refine g2_ck (fun q92 => ?_)
    refine g2_kn ⟨Or.inr q91, q92⟩ (g2_aald qk110_1.1.2.1.1.1.2 hW (fun r93 x94 => ?_))
    refine g2_aload qk110_1.1.2.1.1.2.1 rfl ?_
    refine g2_acmp qk110_1.1.2.1.1.2.2 x94 h1 (fun c95 => ?_) (fun c96 => ?_)
    · refine g2_aload qk110_1.1.2.1.2.1.1 rfl ?_
      refine g2_kn hK0 (g2_getR qk110_1.1.2.1.2.1.2 hW ⟨by decide, by decide, by decide, rfl⟩ (fun r97 x98 => ?_))
      refine g2_iload qk110_1.1.2.1.2.2.1 rfl ?_
      refine g2_aload qk110_1.1.2.1.2.2.2 rfl ?_
      refine g2_isnull qk110_1.1.2.2.1.1.1 (fun c99 => ?_) (fun c100 => ?_)
      · refine g2_aload qk110_1.1.2.2.1.2.2 rfl ?_
        refine g2_kn hK1 (g2_getR qk110_1.1.2.2.2.1.1 hW ⟨by decide, by decide, by decide, rfl⟩ (fun r101 x102 => ?_))
        refine g2_iload qk110_1.1.2.2.2.1.2 rfl ?_
        refine g2_ck (fun q103 => ?_)
        refine g2_ck (fun q104 => ?_)
        refine g2_kn ⟨Or.inr q103, q104⟩ (g2_aald qk110_1.1.2.2.2.2 hW (fun r105 x106 => ?_))
        refine g2_isnull qk110_1.2.1.1.1.1.1 (fun c107 => ?_) (fun c108 => ?_)
        · refine g2_aload qk110_1.2.2.1.1.2.2 rfl ?_
          refine g2_aload qk110_1.2.2.1.2.1.1 rfl ?_
          refine g2_kn hK0 (g2_callV (t' := 2) qk110_1.2.2.1.2.1.2 (by decide) (ql_ip109 hQ) (by decide) rfl rfl rfl (by omega) hW (tq109_heir hQ (by omega) hW hK0 hK1 h0 h1) (fun y109 S110 x111 m112 e113 => ?_))
          refine g2_ck (fun q114 => ?_)
          refine g2_ck (fun q115 => ?_)
          refine g2_ck (fun q116 => ?_)
          refine g2_kn ⟨Or.inr q114, x98.2, q115, q116⟩ (g2_aast qk110_1.2.2.1.2.2 m112 x111 (fun S117 m118 e119 => ?_))
          refine g2_iinc qk110_1.2.2.2.1.1.1 rfl rfl (1 : Int) rfl (loc2 := [some (sR v0), some (sR v1), u2, some (sR v3), some (sI v4), some (sR v5), some (sI (w32 (v6 + (1 : Int)))), u7]) rfl ?_
          refine g2_goto qk110_1.2.2.2.1.1.2 ?_
          exact HX139 (w32 (v6 + (1 : Int))) (inR_w32 _) S117 m118 (ek e119 (ek e113 hK0 (by decide)) (by decide)) (ek e119 (ek e113 hK1 (by decide)) (by decide)) u2 w2 u7 w7
        · refine g2_aload qk110_1.2.1.1.1.1.2 rfl ?_
          refine g2_kn hK1 (g2_getR qk110_1.2.1.1.1.2.1 hW ⟨by decide, by decide, by decide, rfl⟩ (fun r120 x121 => ?_))
          refine g2_iload qk110_1.2.1.1.1.2.2 rfl ?_
          refine g2_ck (fun q122 => ?_)
          refine g2_ck (fun q123 => ?_)
          refine g2_kn ⟨Or.inr q122, q123⟩ (g2_aald qk110_1.2.1.1.2.1.1 hW (fun r124 x125 => ?_))
          refine g2_ck (fun q126 => ?_)
          refine g2_kn q126 (g2_getI qk110_1.2.1.1.2.1.2 hW ⟨by decide, by decide, by decide, rfl⟩ (fun r127 x128 => ?_))
          refine g2_ifeq qk110_1.2.1.1.2.2.1 x128 (fun c129 => ?_) (fun c130 => ?_)
          · refine g2_aload qk110_1.2.1.1.2.2.2 rfl ?_
            refine g2_kn hK1 (g2_getR qk110_1.2.1.2.1.1.1 hW ⟨by decide, by decide, by decide, rfl⟩ (fun r131 x132 => ?_))
            refine g2_iload qk110_1.2.1.2.1.1.2 rfl ?_
            refine g2_ck (fun q133 => ?_)
            refine g2_ck (fun q134 => ?_)
            refine g2_kn ⟨Or.inr q133, q134⟩ (g2_aald qk110_1.2.1.2.1.2.1 hW (fun r135 x136 => ?_))
            refine g2_ck (fun q137 => ?_)
            refine g2_kn q137 (g2_getB qk110_1.2.1.2.1.2.2 hW ⟨by decide, by decide, by decide, rfl⟩ (fun r138 x139 => ?_))
            refine g2_ifeq qk110_1.2.1.2.2.1.1 (inR_b x139) (fun c140 => ?_) (fun c141 => ?_)
            · refine g2_aload qk110_1.2.1.2.2.1.2 rfl ?_
              refine g2_kn hK1 (g2_getR qk110_1.2.1.2.2.2 hW ⟨by decide, by decide, by decide, rfl⟩ (fun r142 x143 => ?_))
              refine g2_iload qk110_1.2.2.1.1.1.1 rfl ?_
              refine g2_ck (fun q144 => ?_)
              refine g2_ck (fun q145 => ?_)
              refine g2_kn ⟨Or.inr q144, q145⟩ (g2_aald qk110_1.2.2.1.1.1.2 hW (fun r146 x147 => ?_))
              refine g2_goto qk110_1.2.2.1.1.2.1 ?_
              refine g2_ck (fun q148 => ?_)
              refine g2_ck (fun q149 => ?_)
              refine g2_ck (fun q150 => ?_)
              refine g2_kn ⟨Or.inr q148, x98.2, q149, q150⟩ (g2_aast qk110_1.2.2.1.2.2 hW x147 (fun S151 m152 e153 => ?_))
              refine g2_iinc qk110_1.2.2.2.1.1.1 rfl rfl (1 : Int) rfl (loc2 := [some (sR v0), some (sR v1), u2, some (sR v3), some (sI v4), some (sR v5), some (sI (w32 (v6 + (1 : Int)))), u7]) rfl ?_
              refine g2_goto qk110_1.2.2.2.1.1.2 ?_
              exact HX139 (w32 (v6 + (1 : Int))) (inR_w32 _) S151 m152 (ek e153 hK0 (by decide)) (ek e153 hK1 (by decide)) u2 w2 u7 w7
            · refine g2_aload qk110_1.2.2.1.1.2.2 rfl ?_
              refine g2_aload qk110_1.2.2.1.2.1.1 rfl ?_
              refine g2_kn hK0 (g2_callV (t' := 2) qk110_1.2.2.1.2.1.2 (by decide) (ql_ip109 hQ) (by decide) rfl rfl rfl (by omega) hW (tq109_heir hQ (by omega) hW hK0 hK1 h0 h1) (fun y154 S155 x156 m157 e158 => ?_))
              refine g2_ck (fun q159 => ?_)
              refine g2_ck (fun q160 => ?_)
              refine g2_ck (fun q161 => ?_)
              refine g2_kn ⟨Or.inr q159, x98.2, q160, q161⟩ (g2_aast qk110_1.2.2.1.2.2 m157 x156 (fun S162 m163 e164 => ?_))
              refine g2_iinc qk110_1.2.2.2.1.1.1 rfl rfl (1 : Int) rfl (loc2 := [some (sR v0), some (sR v1), u2, some (sR v3), some (sI v4), some (sR v5), some (sI (w32 (v6 + (1 : Int)))), u7]) rfl ?_
              refine g2_goto qk110_1.2.2.2.1.1.2 ?_
              exact HX139 (w32 (v6 + (1 : Int))) (inR_w32 _) S162 m163 (ek e164 (ek e158 hK0 (by decide)) (by decide)) (ek e164 (ek e158 hK1 (by decide)) (by decide)) u2 w2 u7 w7
          · refine g2_aload qk110_1.2.2.1.1.2.2 rfl ?_
            refine g2_aload qk110_1.2.2.1.2.1.1 rfl ?_
            refine g2_kn hK0 (g2_callV (t' := 2) qk110_1.2.2.1.2.1.2 (by decide) (ql_ip109 hQ) (by decide) rfl rfl rfl (by omega) hW (tq109_heir hQ (by omega) hW hK0 hK1 h0 h1) (fun y165 S166 x167 m168 e169 => ?_))
            refine g2_ck (fun q170 => ?_)
            refine g2_ck (fun q171 => ?_)
            refine g2_ck (fun q172 => ?_)
            refine g2_kn ⟨Or.inr q170, x98.2, q171, q172⟩ (g2_aast qk110_1.2.2.1.2.2 m168 x167 (fun S173 m174 e175 => ?_))
            refine g2_iinc qk110_1.2.2.2.1.1.1 rfl rfl (1 : Int) rfl (loc2 := [some (sR v0), some (sR v1), u2, some (sR v3), some (sI v4), some (sR v5), some (sI (w32 (v6 + (1 : Int)))), u7]) rfl ?_
            refine g2_goto qk110_1.2.2.2.1.1.2 ?_
            exact HX139 (w32 (v6 + (1 : Int))) (inR_w32 _) S173 m174 (ek e175 (ek e169 hK0 (by decide)) (by decide)) (ek e175 (ek e169 hK1 (by decide)) (by decide)) u2 w2 u7 w7
      · refine g2_aload qk110_1.1.2.2.1.1.2 rfl ?_
        refine g2_goto qk110_1.1.2.2.1.2.1 ?_
        refine g2_ck (fun q176 => ?_)
        refine g2_ck (fun q177 => ?_)
        refine g2_ck (fun q178 => ?_)
        refine g2_kn ⟨Or.inr q176, x98.2, q177, q178⟩ (g2_aast qk110_1.2.2.1.2.2 hW h5 (fun S179 m180 e181 => ?_))
        refine g2_iinc qk110_1.2.2.2.1.1.1 rfl rfl (1 : Int) rfl (loc2 := [some (sR v0), some (sR v1), u2, some (sR v3), some (sI v4), some (sR v5), some (sI (w32 (v6 + (1 : Int)))), u7]) rfl ?_
        refine g2_goto qk110_1.2.2.2.1.1.2 ?_
        exact HX139 (w32 (v6 + (1 : Int))) (inR_w32 _) S179 m180 (ek e181 hK0 (by decide)) (ek e181 hK1 (by decide)) u2 w2 u7 w7
    · refine g2_iinc qk110_1.2.2.2.1.1.1 rfl rfl (1 : Int) rfl (loc2 := [some (sR v0), some (sR v1), u2, some (sR v3), some (sI v4), some (sR v5), some (sI (w32 (v6 + (1 : Int)))), u7]) rfl ?_
      refine g2_goto qk110_1.2.2.2.1.1.2 ?_
      exact HX139 (w32 (v6 + (1 : Int))) (inR_w32 _) S hW hK0 hK1 u2 w2 u7 w7
  · exact tj110_231 hQ hd h0 h1 h3 h4 h5 S hW hK0 hK1 u2 w2 (some (sI v6)) rfl u7 w7
theorem tl110_139 {κ : CX} (hQ : κ.2.2.2.2.2.2.2.2.2 = (ql_I, ql_P)) {n0 s0 : Int} {d : Nat} (hd : 65 ≤ d) {v0 v1 v3 v4 v5 : Int} (h0 : RfO v0) (h1 : RfO v1) (h3 : RfO v3) (h4 : InR v4) (h5 : RfO v5) : ∀ n : Nat, ∀ (v6 : Int) (h6 : InR v6) (S : sS) (hW : WF2 κ S) (hK0 : sK S v0 = 8) (hK1 : sK S v1 = 7) (u2 : Option ev_V) (w2 : nwo u2) (u7 : Option ev_V) (w7 : nwo u7), G2 κ ql_i110 ql_m110 1 d n0 s0 (l110_139 v0 v1 v3 v4 v5 n v6 S) 139 [some (sR v0), some (sR v1), u2, some (sR v3), some (sI v4), some (sR v5), some (sI v6), u7] [] S := by
  intro n
  induction n with
  | zero =>
    intro v6 h6 S hW hK0 hK1 u2 w2 u7 w7
    exact g2_none
  | succ n ih =>
    exact tb110_139 hQ hd h0 h1 h3 h4 h5 ih
noncomputable def q110_exit (S : sS) (v0 : Int) (v1 : Int) (v2 : Int) : Option (Int × sS) :=
  bnd (sg S v1 2) (fun r1 => bnd (sg S v0 6) (fun r3 => bnd (uS S v1 7 (1 : Int)) (fun S5 => bnd (uS S5 v1 8 v2) (fun S8 => bnd (sg S8 v0 1) (fun r11 => if sK S8 r11 = 9 then bdS (q129_add S8 r11 v1) (fun y14 S15 => if v2 = 0 then (l110_139 v0 v1 r1 r3 (-1) fu (0 : Int) S15) else (if sK S15 r1 = 7 then bnd (sg S15 r1 11) (fun r22 => if r22 = 0 then (bnd (sg S15 r1 6) (fun r26 => if 0 < r26 then (bnd (sg S15 v0 0) (fun r30 => if sK S15 r30 = 9 then bdS (q134_size S15 r30) (fun y33 S34 => if y33 < (40 : Int) then (bnd (sg S34 r1 6) (fun r40 => bnd (uS S34 r1 6 (w32 (r40 - (1 : Int)))) (fun S42 => if sn S42 < 1000000 then bnd (sn S42) (fun p45 => bnd (nS S42 7 13) (fun S46 => bnd (sg S46 v0 0) (fun r52 => if sK S46 r52 = 9 then bdS (q134_size S46 r52) (fun y55 S56 => bnd (sg S56 v1 5) (fun r60 => bnd (sg S56 v1 1) (fun r62 => bnd (sg S56 v1 6) (fun r64 => bdS (q114_init S56 p45 y55 r1 r60 r62 r64) (fun y66 S67 => bnd (sg S67 v0 0) (fun r71 => if sK S67 r71 = 9 then bdS (q129_add S67 r71 p45) (fun y74 S75 => bnd (uS S75 v1 4 p45) (fun S79 => bnd (sg S79 v0 7) (fun r82 => bnd (uS S79 v0 7 (w32 (r82 + (1 : Int)))) (fun S84 => l110_139 v0 v1 r1 r3 p45 fu (0 : Int) S84)))) else none)))))) else none))) else none))) else (l110_139 v0 v1 r1 r3 (-1) fu (0 : Int) S34)) else none)) else (l110_139 v0 v1 r1 r3 (-1) fu (0 : Int) S15))) else (l110_139 v0 v1 r1 r3 (-1) fu (0 : Int) S15)) else none)) else none)))))
theorem tq110_exit {κ : CX} (hQ : κ.2.2.2.2.2.2.2.2.2 = (ql_I, ql_P)) {n0 s0 : Int} {d : Nat} (hd : 65 ≤ d) {S : sS} (hW : WF2 κ S) {v0 v1 v2 : Int} (hK0 : sK S v0 = 8) (hK1 : sK S v1 = 7) (h0 : RfO v0) (h1 : RfO v1) (h2 : InR v2) : G2 κ ql_i110 ql_m110 1 d n0 s0 (q110_exit S v0 v1 v2) 0 (ev_loc ql_m110.1 [(sR v0), (sR v1), (sI v2)]) [] S := by
  unfold q110_exit
  refine g2_aload qk110_0.1.1.1.1.1.1 rfl ?_
  refine g2_kn hK1 (g2_getR qk110_0.1.1.1.1.1.2 hW ⟨by decide, by decide, by decide, rfl⟩ (fun r1 x2 => ?_))
  refine g2_astore qk110_0.1.1.1.1.2.1 rfl (loc2 := [some (sR v0), some (sR v1), some (sI v2), some (sR r1), none, none, none, none]) rfl ?_
  refine g2_aload qk110_0.1.1.1.1.2.2 rfl ?_
  refine g2_kn hK0 (g2_getI qk110_0.1.1.1.2.1.1 hW ⟨by decide, by decide, by decide, rfl⟩ (fun r3 x4 => ?_))
  refine g2_istore qk110_0.1.1.1.2.1.2 rfl (loc2 := [some (sR v0), some (sR v1), some (sI v2), some (sR r1), some (sI r3), none, none, none]) rfl ?_
  refine g2_aload qk110_0.1.1.1.2.2.1 rfl ?_
  refine g2_int qk110_0.1.1.1.2.2.2 (1 : Int) rfl ?_
  refine g2_kn ⟨hK1, h1.2⟩ (g2_putI qk110_0.1.1.2.1.1.1 hW ⟨by decide, by decide, rfl⟩ (inR_b (Or.inr rfl)) (fun S5 m6 e7 => ?_))
  refine g2_aload qk110_0.1.1.2.1.1.2 rfl ?_
  refine g2_iload qk110_0.1.1.2.1.2.1 rfl ?_
  refine g2_kn ⟨(ek e7 hK1 (by decide)), h1.2⟩ (g2_putI qk110_0.1.1.2.1.2.2 m6 ⟨by decide, by decide, rfl⟩ h2 (fun S8 m9 e10 => ?_))
  refine g2_aload qk110_0.1.1.2.2.1.1 rfl ?_
  refine g2_kn (ek e10 (ek e7 hK0 (by decide)) (by decide)) (g2_getR qk110_0.1.1.2.2.1.2 m9 ⟨by decide, by decide, by decide, rfl⟩ (fun r11 x12 => ?_))
  refine g2_aload qk110_0.1.1.2.2.2 rfl ?_
  refine g2_ck (fun q13 => ?_)
  refine g2_kn q13 (g2_callF (t' := 3) qk110_0.1.2.1.1.1.1 (by decide) (ql_ip129 hQ) rfl rfl rfl (by omega) m9 (tq129_add hQ (by omega) m9 q13 x12 h1) (fun y14 S15 x16 m17 e18 => ?_))
  refine g2_popI qk110_0.1.2.1.1.1.2 ?_
  refine g2_null qk110_0.1.2.1.1.2.1 ?_
  refine g2_astore qk110_0.1.2.1.1.2.2 rfl (loc2 := [some (sR v0), some (sR v1), some (sI v2), some (sR r1), some (sI r3), some (sR (-1)), none, none]) rfl ?_
  refine g2_iload qk110_0.1.2.1.2.1.1 rfl ?_
  refine g2_ifeq qk110_0.1.2.1.2.1.2 h2 (fun c19 => ?_) (fun c20 => ?_)
  · refine g2_int qk110_1.1.1.2.1.1.1 (0 : Int) rfl ?_
    refine g2_istore qk110_1.1.1.2.1.1.2 rfl (loc2 := [some (sR v0), some (sR v1), some (sI v2), some (sR r1), some (sI r3), some (sR (-1)), some (sI (0 : Int)), none]) rfl ?_
    exact tl110_139 hQ hd h0 h1 x2 x4 rfO_null fu (0 : Int) (inR_b (Or.inl rfl)) S15 m17 (ek e18 (ek e10 (ek e7 hK0 (by decide)) (by decide)) (by decide)) (ek e18 (ek e10 (ek e7 hK1 (by decide)) (by decide)) (by decide)) (some (sI v2)) rfl none rfl
  · refine g2_aload qk110_0.1.2.1.2.2 rfl ?_
    refine g2_ck (fun q21 => ?_)
    refine g2_kn q21 (g2_getB qk110_0.1.2.2.1.1.1 m17 ⟨by decide, by decide, by decide, rfl⟩ (fun r22 x23 => ?_))
    refine g2_ifeq qk110_0.1.2.2.1.1.2 (inR_b x23) (fun c24 => ?_) (fun c25 => ?_)
    · refine g2_aload qk110_0.1.2.2.1.2.1 rfl ?_
      refine g2_kn q21 (g2_getI qk110_0.1.2.2.1.2.2 m17 ⟨by decide, by decide, by decide, rfl⟩ (fun r26 x27 => ?_))
      refine g2_ifgt qk110_0.1.2.2.2.1.1 x27 (fun c28 => ?_) (fun c29 => ?_)
      · refine g2_aload qk110_0.1.2.2.2.1.2 rfl ?_
        refine g2_kn (ek e18 (ek e10 (ek e7 hK0 (by decide)) (by decide)) (by decide)) (g2_getR qk110_0.1.2.2.2.2 m17 ⟨by decide, by decide, by decide, rfl⟩ (fun r30 x31 => ?_))
        refine g2_ck (fun q32 => ?_)
        refine g2_kn q32 (g2_callF (t' := 1) qk110_0.2.1.1.1.1.1 (by decide) (ql_ip134 hQ) rfl rfl rfl (by omega) m17 (tq134_size hQ (by omega) m17 q32 x31) (fun y33 S34 x35 m36 e37 => ?_))
        refine g2_int qk110_0.2.1.1.1.1.2 (40 : Int) rfl ?_
        refine g2_cmlt qk110_0.2.1.1.1.2.1 x35 (inR_of (by decide)) (fun c38 => ?_) (fun c39 => ?_)
        · refine g2_aload qk110_0.2.1.1.1.2.2 rfl ?_
          refine g2_dupR qk110_0.2.1.1.2.1.1 ?_
          refine g2_kn (ek e37 q21 (by decide)) (g2_getI qk110_0.2.1.1.2.1.2 m36 ⟨by decide, by decide, by decide, rfl⟩ (fun r40 x41 => ?_))
          refine g2_int qk110_0.2.1.1.2.2.1 (1 : Int) rfl ?_
          refine g2_isub qk110_0.2.1.1.2.2.2 ?_
          refine g2_kn ⟨(ek e37 q21 (by decide)), x2.2⟩ (g2_putI qk110_0.2.1.2.1.1.1 m36 ⟨by decide, by decide, rfl⟩ (inR_w32 _) (fun S42 m43 e44 => ?_))
          refine g2_ck (fun q51 => ?_)
          refine g2_kn q51 (g2_new qk110_0.2.1.2.1.1.2 m43 ⟨⟨by decide, by decide⟩, rfl, by decide⟩ rfl (fun p45 S46 x47 k48 m49 e50 => ?_))
          refine g2_dupR qk110_0.2.1.2.1.2.1 ?_
          refine g2_aload qk110_0.2.1.2.1.2.2 rfl ?_
          refine g2_kn (ek e50 (ek e44 (ek e37 (ek e18 (ek e10 (ek e7 hK0 (by decide)) (by decide)) (by decide)) (by decide)) (by decide)) (by decide)) (g2_getR qk110_0.2.1.2.2.1.1 m49 ⟨by decide, by decide, by decide, rfl⟩ (fun r52 x53 => ?_))
          refine g2_ck (fun q54 => ?_)
          refine g2_kn q54 (g2_callF (t' := 1) qk110_0.2.1.2.2.1.2 (by decide) (ql_ip134 hQ) rfl rfl rfl (by omega) m49 (tq134_size hQ (by omega) m49 q54 x53) (fun y55 S56 x57 m58 e59 => ?_))
          refine g2_aload qk110_0.2.1.2.2.2 rfl ?_
          refine g2_aload qk110_0.2.2.1.1.1.1 rfl ?_
          refine g2_kn (ek e59 (ek e50 (ek e44 (ek e37 (ek e18 (ek e10 (ek e7 hK1 (by decide)) (by decide)) (by decide)) (by decide)) (by decide)) (by decide)) (by decide)) (g2_getI qk110_0.2.2.1.1.1.2 m58 ⟨by decide, by decide, by decide, rfl⟩ (fun r60 x61 => ?_))
          refine g2_aload qk110_0.2.2.1.1.2.1 rfl ?_
          refine g2_kn (ek e59 (ek e50 (ek e44 (ek e37 (ek e18 (ek e10 (ek e7 hK1 (by decide)) (by decide)) (by decide)) (by decide)) (by decide)) (by decide)) (by decide)) (g2_getI qk110_0.2.2.1.1.2.2 m58 ⟨by decide, by decide, by decide, rfl⟩ (fun r62 x63 => ?_))
          refine g2_aload qk110_0.2.2.1.2.1.1 rfl ?_
          refine g2_kn (ek e59 (ek e50 (ek e44 (ek e37 (ek e18 (ek e10 (ek e7 hK1 (by decide)) (by decide)) (by decide)) (by decide)) (by decide)) (by decide)) (by decide)) (g2_getI qk110_0.2.2.1.2.1.2 m58 ⟨by decide, by decide, by decide, rfl⟩ (fun r64 x65 => ?_))
          refine g2_kn (kn_pos m58.2.1 (ek e59 k48.1 (by decide)) (by decide)) (g2_callI qk110_0.2.2.1.2.2 (by decide) (ql_ip114 hQ) rfl rfl rfl (by omega) ⟨_, qd_110_103⟩ (tq114_init hQ (by omega) m58 (ek e59 k48.1 (by decide)) (rfO_of x47) x57 x2 x61 x63 x65) (fun y66 S67 m69 e70 => ?_))
          refine g2_astore qk110_0.2.2.2.1.1.1 rfl (loc2 := [some (sR v0), some (sR v1), some (sI v2), some (sR r1), some (sI r3), some (sR p45), none, none]) rfl ?_
          refine g2_aload qk110_0.2.2.2.1.1.2 rfl ?_
          refine g2_kn (ek e70 (ek e59 (ek e50 (ek e44 (ek e37 (ek e18 (ek e10 (ek e7 hK0 (by decide)) (by decide)) (by decide)) (by decide)) (by decide)) (by decide)) (by decide)) (by decide)) (g2_getR qk110_0.2.2.2.1.2.1 m69 ⟨by decide, by decide, by decide, rfl⟩ (fun r71 x72 => ?_))
          refine g2_aload qk110_0.2.2.2.1.2.2 rfl ?_
          refine g2_ck (fun q73 => ?_)
          refine g2_kn q73 (g2_callF (t' := 3) qk110_0.2.2.2.2.1.1 (by decide) (ql_ip129 hQ) rfl rfl rfl (by omega) m69 (tq129_add hQ (by omega) m69 q73 x72 (rfO_of x47)) (fun y74 S75 x76 m77 e78 => ?_))
          refine g2_popI qk110_0.2.2.2.2.1.2 ?_
          refine g2_aload qk110_0.2.2.2.2.2 rfl ?_
          refine g2_aload qk110_1.1.1.1.1.1.1 rfl ?_
          refine g2_kn ⟨(ek e78 (ek e70 (ek e59 (ek e50 (ek e44 (ek e37 (ek e18 (ek e10 (ek e7 hK1 (by decide)) (by decide)) (by decide)) (by decide)) (by decide)) (by decide)) (by decide)) (by decide)) (by decide)), h1.2⟩ (g2_putR qk110_1.1.1.1.1.1.2 m77 ⟨by decide, by decide, rfl⟩ (rfO_of x47) (fun S79 m80 e81 => ?_))
          refine g2_aload qk110_1.1.1.1.1.2.1 rfl ?_
          refine g2_dupR qk110_1.1.1.1.1.2.2 ?_
          refine g2_kn (ek e81 (ek e78 (ek e70 (ek e59 (ek e50 (ek e44 (ek e37 (ek e18 (ek e10 (ek e7 hK0 (by decide)) (by decide)) (by decide)) (by decide)) (by decide)) (by decide)) (by decide)) (by decide)) (by decide)) (by decide)) (g2_getI qk110_1.1.1.1.2.1.1 m80 ⟨by decide, by decide, by decide, rfl⟩ (fun r82 x83 => ?_))
          refine g2_int qk110_1.1.1.1.2.1.2 (1 : Int) rfl ?_
          refine g2_iadd qk110_1.1.1.1.2.2.1 ?_
          refine g2_kn ⟨(ek e81 (ek e78 (ek e70 (ek e59 (ek e50 (ek e44 (ek e37 (ek e18 (ek e10 (ek e7 hK0 (by decide)) (by decide)) (by decide)) (by decide)) (by decide)) (by decide)) (by decide)) (by decide)) (by decide)) (by decide)), h0.2⟩ (g2_putI qk110_1.1.1.1.2.2.2 m80 ⟨by decide, by decide, rfl⟩ (inR_w32 _) (fun S84 m85 e86 => ?_))
          refine g2_int qk110_1.1.1.2.1.1.1 (0 : Int) rfl ?_
          refine g2_istore qk110_1.1.1.2.1.1.2 rfl (loc2 := [some (sR v0), some (sR v1), some (sI v2), some (sR r1), some (sI r3), some (sR p45), some (sI (0 : Int)), none]) rfl ?_
          exact tl110_139 hQ hd h0 h1 x2 x4 (rfO_of x47) fu (0 : Int) (inR_b (Or.inl rfl)) S84 m85 (ek e86 (ek e81 (ek e78 (ek e70 (ek e59 (ek e50 (ek e44 (ek e37 (ek e18 (ek e10 (ek e7 hK0 (by decide)) (by decide)) (by decide)) (by decide)) (by decide)) (by decide)) (by decide)) (by decide)) (by decide)) (by decide)) (by decide)) (ek e86 (ek e81 (ek e78 (ek e70 (ek e59 (ek e50 (ek e44 (ek e37 (ek e18 (ek e10 (ek e7 hK1 (by decide)) (by decide)) (by decide)) (by decide)) (by decide)) (by decide)) (by decide)) (by decide)) (by decide)) (by decide)) (by decide)) (some (sI v2)) rfl none rfl
        · refine g2_int qk110_1.1.1.2.1.1.1 (0 : Int) rfl ?_
          refine g2_istore qk110_1.1.1.2.1.1.2 rfl (loc2 := [some (sR v0), some (sR v1), some (sI v2), some (sR r1), some (sI r3), some (sR (-1)), some (sI (0 : Int)), none]) rfl ?_
          exact tl110_139 hQ hd h0 h1 x2 x4 rfO_null fu (0 : Int) (inR_b (Or.inl rfl)) S34 m36 (ek e37 (ek e18 (ek e10 (ek e7 hK0 (by decide)) (by decide)) (by decide)) (by decide)) (ek e37 (ek e18 (ek e10 (ek e7 hK1 (by decide)) (by decide)) (by decide)) (by decide)) (some (sI v2)) rfl none rfl
      · refine g2_int qk110_1.1.1.2.1.1.1 (0 : Int) rfl ?_
        refine g2_istore qk110_1.1.1.2.1.1.2 rfl (loc2 := [some (sR v0), some (sR v1), some (sI v2), some (sR r1), some (sI r3), some (sR (-1)), some (sI (0 : Int)), none]) rfl ?_
        exact tl110_139 hQ hd h0 h1 x2 x4 rfO_null fu (0 : Int) (inR_b (Or.inl rfl)) S15 m17 (ek e18 (ek e10 (ek e7 hK0 (by decide)) (by decide)) (by decide)) (ek e18 (ek e10 (ek e7 hK1 (by decide)) (by decide)) (by decide)) (some (sI v2)) rfl none rfl
    · refine g2_int qk110_1.1.1.2.1.1.1 (0 : Int) rfl ?_
      refine g2_istore qk110_1.1.1.2.1.1.2 rfl (loc2 := [some (sR v0), some (sR v1), some (sI v2), some (sR r1), some (sI r3), some (sR (-1)), some (sI (0 : Int)), none]) rfl ?_
      exact tl110_139 hQ hd h0 h1 x2 x4 rfO_null fu (0 : Int) (inR_b (Or.inl rfl)) S15 m17 (ek e18 (ek e10 (ek e7 hK0 (by decide)) (by decide)) (by decide)) (ek e18 (ek e10 (ek e7 hK1 (by decide)) (by decide)) (by decide)) (some (sI v2)) rfl none rfl
