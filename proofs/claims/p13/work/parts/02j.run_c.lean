/-! ===== the evaluator comes to what the functions tell (own work, by program: wip/p2/dec.py) ===== -/
theorem tbM_willsOf_4 {Φ : ev_P} {d : Nat} (hd : 0 ≤ d) {g : gH} (hg : HR g) {v0 v1 : Int} (hK0 : kd v0 = 7) (h1 : InR v1) {X4 : Int → Int → Option Int} (HX4 : ∀ (v2 : Int) (h2 : InR v2) (v3 : Int) (h3 : InR v3), Go Φ pr_P (fP g) 1 (X4 v2 v3) d pr_m133 4 [some (sR v0), some (sI v1), some (sI v2), some (sI v3)] [] g 0 0) : ∀ (v2 : Int) (h2 : InR v2) (v3 : Int) (h3 : InR v3), Go Φ pr_P (fP g) 1 (bM_willsOf_4 g v0 v1 X4 v2 v3) d pr_m133 4 [some (sR v0), some (sI v1), some (sI v2), some (sI v3)] [] g 0 0 := by
  intro v2 h2 v3 h3
  unfold bM_willsOf_4
  refine go_iload k133_4 rfl ?_
  refine go_int k133_5 8 rfl ?_
  refine go_cmlt k133_7 h3 (inR_of (by decide)) (fun c1 => ?_) (fun c2 => ?_)
  · refine go_iload k133_10 rfl ?_
    refine go_aload k133_11 rfl ?_
    refine go_getR (bI := 0) k133_12 hg hK0 (by decide) rfl rfl (fun r3 => ?_)
    refine go_int k133_15 460 rfl ?_
    refine go_int k133_18 8 rfl ?_
    refine go_iload k133_20 rfl ?_
    refine go_ibin k133_21 ?_
    refine go_iadd k133_22 ?_
    refine go_iload k133_23 rfl ?_
    refine go_iadd k133_24 ?_
    refine go_ck (fun q5 => ?_)
    refine go_iald k133_25 hg q5 (fun r4 => ?_)
    refine go_int k133_26 (-1) rfl ?_
    refine go_cmeq k133_27 r4 (inR_of (by decide)) (fun c6 => ?_) (fun c7 => ?_)
    · refine go_int k133_36 0 rfl ?_
      refine go_ibin k133_37 ?_
      refine go_istore k133_38 rfl (loc2 := [some (sR v0), some (sI v1), some (sI (opI 2 v2 0)), some (sI v3)]) rfl ?_
      refine go_iinc k133_39 rfl rfl 1 rfl (loc2 := [some (sR v0), some (sI v1), some (sI (opI 2 v2 0)), some (sI (w32 (v3 + 1)))]) rfl ?_
      refine go_goto k133_42 ?_
      exact HX4 (opI 2 v2 0) (inR_opI _ _ _) (w32 (v3 + 1)) (inR_w32 _)
    · refine go_int k133_30 1 rfl ?_
      refine go_iload k133_31 rfl ?_
      refine go_ibin k133_32 ?_
      refine go_goto k133_33 ?_
      refine go_ibin k133_37 ?_
      refine go_istore k133_38 rfl (loc2 := [some (sR v0), some (sI v1), some (sI (opI 2 v2 (opI 4 1 v3))), some (sI v3)]) rfl ?_
      refine go_iinc k133_39 rfl rfl 1 rfl (loc2 := [some (sR v0), some (sI v1), some (sI (opI 2 v2 (opI 4 1 v3))), some (sI (w32 (v3 + 1)))]) rfl ?_
      refine go_goto k133_42 ?_
      exact HX4 (opI 2 v2 (opI 4 1 v3)) (inR_opI _ _ _) (w32 (v3 + 1)) (inR_w32 _)
  · refine go_iload k133_45 rfl ?_
    exact go_iret k133_46 hg h2 ⟨Nat.zero_le _, Nat.zero_le _⟩ rfl
theorem tlM_willsOf_4 {Φ : ev_P} {d : Nat} (hd : 0 ≤ d) {g : gH} (hg : HR g) {v0 v1 : Int} (hK0 : kd v0 = 7) (h1 : InR v1) : ∀ n : Nat, ∀ (v2 : Int) (h2 : InR v2) (v3 : Int) (h3 : InR v3), Go Φ pr_P (fP g) 1 (lM_willsOf_4 g v0 v1 n v2 v3) d pr_m133 4 [some (sR v0), some (sI v1), some (sI v2), some (sI v3)] [] g 0 0 := by
  intro n
  induction n with
  | zero => intros; exact go_none
  | succ n ih => exact tbM_willsOf_4 hd hg hK0 h1 ih
theorem tfM_willsOf {Φ : ev_P} {d : Nat} (hd : 0 ≤ d) {g : gH} (hg : HR g) {v0 v1 : Int} (hK0 : kd v0 = 7) (h1 : InR v1) : Go Φ pr_P (fP g) 1 (fM_willsOf g v0 v1) d (pr_P 133) 0 (ev_loc (pr_P 133).1 [(sR v0), (sI v1)]) [] g 0 0 := by
  show Go Φ pr_P (fP g) 1 (fM_willsOf g v0 v1) d pr_m133 0 [some (sR v0), some (sI v1), none, none] [] g 0 0
  unfold fM_willsOf
  refine go_int k133_0 0 rfl ?_
  refine go_istore k133_1 rfl (loc2 := [some (sR v0), some (sI v1), some (sI 0), none]) rfl ?_
  refine go_int k133_2 0 rfl ?_
  refine go_istore k133_3 rfl (loc2 := [some (sR v0), some (sI v1), some (sI 0), some (sI 0)]) rfl ?_
  exact tlM_willsOf_4 hd hg hK0 h1 fu 0 (inR_b (Or.inl rfl)) 0 (inR_b (Or.inl rfl))
theorem tfM_noProcess {Φ : ev_P} {d : Nat} (hd : 1 ≤ d) {g : gH} (hg : HR g) {v0 v1 : Int} (hK0 : kd v0 = 7) (h1 : InR v1) : Go Φ pr_P fN 3 (fM_noProcess g v0 v1) d (pr_P 135) 0 (ev_loc (pr_P 135).1 [(sR v0), (sI v1)]) [] g 0 0 := by
  show Go Φ pr_P fN 3 (fM_noProcess g v0 v1) d pr_m135 0 [some (sR v0), some (sI v1)] [] g 0 0
  unfold fM_noProcess
  refine go_aload k135_0 rfl ?_
  refine go_int k135_1 0 rfl ?_
  refine go_putI (bI := 8) k135_2 hg hK0 (by decide) rfl rfl (inR_b (Or.inl rfl)) (fun g1 e2 => ?_)
  refine go_aload k135_5 rfl ?_
  refine go_iload k135_6 rfl ?_
  refine go_int k135_7 0 rfl ?_
  refine go_aload k135_8 rfl ?_
  refine go_getR (bI := 0) k135_9 e2 hK0 (by decide) rfl rfl (fun r3 => ?_)
  refine go_int k135_12 0 rfl ?_
  refine go_ck (fun q5 => ?_)
  refine go_iald k135_13 e2 q5 (fun r4 => ?_)
  refine go_int k135_14 1 rfl ?_
  refine go_isub k135_15 ?_
  refine go_callP3 k135_16 rfl rfl rfl trivial ⟨Nat.zero_le _, Nat.zero_le _⟩ (by omega) (tfM_inRange (by omega) e2  h1 (inR_b (Or.inl rfl)) (inR_w32 _)) (fun y6 r7 => ?_)
  refine go_ifeq k135_19 (inR_b r7) (fun c10 => ?_) (fun c11 => ?_)
  · refine go_int k135_22 1 rfl ?_
    refine go_goto k135_23 ?_
    refine go_int k135_27 1 rfl ?_
    refine go_callN3 k135_28 rfl rfl rfl ⟨by decide, _, rfl, hK0⟩ ⟨Nat.zero_le _, Nat.zero_le _⟩ (by omega) (tfM_fails (by omega) e2 hK0  (Or.inr rfl) (inR_b (Or.inr rfl))) (fun y12 g14 r13 e15 => ?_)
    exact go_bret k135_31 e15 r13 ⟨Nat.zero_le _, Nat.zero_le _⟩ rfl
  · refine go_int k135_26 0 rfl ?_
    refine go_int k135_27 1 rfl ?_
    refine go_callN3 k135_28 rfl rfl rfl ⟨by decide, _, rfl, hK0⟩ ⟨Nat.zero_le _, Nat.zero_le _⟩ (by omega) (tfM_fails (by omega) e2 hK0  (Or.inl rfl) (inR_b (Or.inr rfl))) (fun y16 g18 r17 e19 => ?_)
    exact go_bret k135_31 e19 r17 ⟨Nat.zero_le _, Nat.zero_le _⟩ rfl
theorem tjM_process_24 {Φ : ev_P} {d : Nat} (hd : 3 ≤ d) {g : gH} (hg : HR g) {v0 v1 v2 : Int} (hK0 : kd v0 = 7) (h1 : InR v1) (h2 : InR v2) {s0 s1 : Int} (z0 : RfR s0) (z1 : B01 s1) : Go Φ pr_P fN 1 (jM_process_24 g v0 v1 v2 s0 s1 ) d pr_m138 24 [some (sR v0), some (sI v1), some (sI v2)] [(sI s1), (sR s0)] g 0 0 := by
  unfold jM_process_24
  refine go_int k138_24 2 rfl ?_
  refine go_ck (fun q13 => ?_)
  refine go_callN3 k138_25 rfl rfl rfl ⟨by decide, _, rfl, q13⟩ ⟨Nat.zero_le _, Nat.zero_le _⟩ (by omega) (tfM_fails (by omega) hg q13  z1 (inR_of (by decide))) (fun y14 g16 r15 e17 => ?_)
  refine go_ifeq k138_28 (inR_b r15) (fun c18 => ?_) (fun c19 => ?_)
  · refine go_iload k138_33 rfl ?_
    refine go_ite (fun c20 => ?_) (fun c21 => ?_)
    · refine go_swh (lo := 0) (hi := 13) (i := 0) k138_34 rfl rfl (by omega) (by omega) rfl ?_
      refine go_aload k138_104 rfl ?_
      refine go_getR (bI := 0) k138_105 e17 hK0 (by decide) rfl rfl (fun r22 => ?_)
      refine go_int k138_108 60 rfl ?_
      refine go_iload k138_110 rfl ?_
      refine go_iadd k138_111 ?_
      refine go_ck (fun q24 => ?_)
      refine go_iald k138_112 e17 q24 (fun r23 => ?_)
      exact go_iret k138_113 e17 r23 ⟨Nat.zero_le _, Nat.zero_le _⟩ rfl
    refine go_ite (fun c25 => ?_) (fun c26 => ?_)
    · refine go_swh (lo := 0) (hi := 13) (i := 1) k138_34 rfl rfl (by omega) (by omega) rfl ?_
      refine go_aload k138_114 rfl ?_
      refine go_getR (bI := 0) k138_115 e17 hK0 (by decide) rfl rfl (fun r27 => ?_)
      refine go_int k138_118 100 rfl ?_
      refine go_iload k138_120 rfl ?_
      refine go_iadd k138_121 ?_
      refine go_ck (fun q29 => ?_)
      refine go_iald k138_122 e17 q29 (fun r28 => ?_)
      exact go_iret k138_123 e17 r28 ⟨Nat.zero_le _, Nat.zero_le _⟩ rfl
    refine go_ite (fun c30 => ?_) (fun c31 => ?_)
    · refine go_swh (lo := 0) (hi := 13) (i := 2) k138_34 rfl rfl (by omega) (by omega) rfl ?_
      refine go_aload k138_124 rfl ?_
      refine go_iload k138_125 rfl ?_
      refine go_callP1 k138_126 rfl rfl rfl ⟨by decide, _, rfl, hK0⟩ ⟨Nat.zero_le _, Nat.zero_le _⟩ (by omega) (tfM_roomOf (by omega) e17 hK0  h1) (fun y32 r33 => ?_)
      exact go_iret k138_129 e17 r33 ⟨Nat.zero_le _, Nat.zero_le _⟩ rfl
    refine go_ite (fun c36 => ?_) (fun c37 => ?_)
    · refine go_swh (lo := 0) (hi := 13) (i := 3) k138_34 rfl rfl (by omega) (by omega) rfl ?_
      refine go_aload k138_130 rfl ?_
      refine go_iload k138_131 rfl ?_
      refine go_int k138_132 0 rfl ?_
      refine go_callP1 k138_133 rfl rfl rfl ⟨by decide, _, rfl, hK0⟩ ⟨Nat.zero_le _, Nat.zero_le _⟩ (by omega) (tfM_childrenOf (by omega) e17 hK0  h1 (inR_b (Or.inl rfl))) (fun y38 r39 => ?_)
      exact go_iret k138_136 e17 r39 ⟨Nat.zero_le _, Nat.zero_le _⟩ rfl
    refine go_ite (fun c42 => ?_) (fun c43 => ?_)
    · refine go_swh (lo := 0) (hi := 13) (i := 4) k138_34 rfl rfl (by omega) (by omega) rfl ?_
      refine go_aload k138_137 rfl ?_
      refine go_iload k138_138 rfl ?_
      refine go_int k138_139 1 rfl ?_
      refine go_callP1 k138_140 rfl rfl rfl ⟨by decide, _, rfl, hK0⟩ ⟨Nat.zero_le _, Nat.zero_le _⟩ (by omega) (tfM_childrenOf (by omega) e17 hK0  h1 (inR_b (Or.inr rfl))) (fun y44 r45 => ?_)
      exact go_iret k138_143 e17 r45 ⟨Nat.zero_le _, Nat.zero_le _⟩ rfl
    refine go_ite (fun c48 => ?_) (fun c49 => ?_)
    · refine go_swh (lo := 0) (hi := 13) (i := 5) k138_34 rfl rfl (by omega) (by omega) rfl ?_
      refine go_aload k138_144 rfl ?_
      refine go_getR (bI := 0) k138_145 e17 hK0 (by decide) rfl rfl (fun r50 => ?_)
      refine go_int k138_148 140 rfl ?_
      refine go_iload k138_151 rfl ?_
      refine go_iadd k138_152 ?_
      refine go_ck (fun q52 => ?_)
      refine go_iald k138_153 e17 q52 (fun r51 => ?_)
      exact go_iret k138_154 e17 r51 ⟨Nat.zero_le _, Nat.zero_le _⟩ rfl
    refine go_ite (fun c53 => ?_) (fun c54 => ?_)
    · refine go_swh (lo := 0) (hi := 13) (i := 6) k138_34 rfl rfl (by omega) (by omega) rfl ?_
      refine go_aload k138_155 rfl ?_
      refine go_getR (bI := 0) k138_156 e17 hK0 (by decide) rfl rfl (fun r55 => ?_)
      refine go_int k138_159 180 rfl ?_
      refine go_iload k138_162 rfl ?_
      refine go_iadd k138_163 ?_
      refine go_ck (fun q57 => ?_)
      refine go_iald k138_164 e17 q57 (fun r56 => ?_)
      exact go_iret k138_165 e17 r56 ⟨Nat.zero_le _, Nat.zero_le _⟩ rfl
    refine go_ite (fun c58 => ?_) (fun c59 => ?_)
    · refine go_swh (lo := 0) (hi := 13) (i := 7) k138_34 rfl rfl (by omega) (by omega) rfl ?_
      refine go_aload k138_166 rfl ?_
      refine go_getR (bI := 0) k138_167 e17 hK0 (by decide) rfl rfl (fun r60 => ?_)
      refine go_int k138_170 220 rfl ?_
      refine go_iload k138_173 rfl ?_
      refine go_iadd k138_174 ?_
      refine go_ck (fun q62 => ?_)
      refine go_iald k138_175 e17 q62 (fun r61 => ?_)
      exact go_iret k138_176 e17 r61 ⟨Nat.zero_le _, Nat.zero_le _⟩ rfl
    refine go_ite (fun c63 => ?_) (fun c64 => ?_)
    · refine go_swh (lo := 0) (hi := 13) (i := 8) k138_34 rfl rfl (by omega) (by omega) rfl ?_
      refine go_aload k138_177 rfl ?_
      refine go_getR (bI := 0) k138_178 e17 hK0 (by decide) rfl rfl (fun r65 => ?_)
      refine go_int k138_181 260 rfl ?_
      refine go_iload k138_184 rfl ?_
      refine go_iadd k138_185 ?_
      refine go_ck (fun q67 => ?_)
      refine go_iald k138_186 e17 q67 (fun r66 => ?_)
      exact go_iret k138_187 e17 r66 ⟨Nat.zero_le _, Nat.zero_le _⟩ rfl
    refine go_ite (fun c68 => ?_) (fun c69 => ?_)
    · refine go_swh (lo := 0) (hi := 13) (i := 9) k138_34 rfl rfl (by omega) (by omega) rfl ?_
      refine go_aload k138_188 rfl ?_
      refine go_iload k138_189 rfl ?_
      refine go_callP1 k138_190 rfl rfl rfl ⟨by decide, _, rfl, hK0⟩ ⟨Nat.zero_le _, Nat.zero_le _⟩ (by omega) (tfM_dutiesOf (by omega) e17 hK0  h1) (fun y70 r71 => ?_)
      exact go_iret k138_193 e17 r71 ⟨Nat.zero_le _, Nat.zero_le _⟩ rfl
    refine go_ite (fun c74 => ?_) (fun c75 => ?_)
    · refine go_swh (lo := 0) (hi := 13) (i := 10) k138_34 rfl rfl (by omega) (by omega) rfl ?_
      refine go_aload k138_194 rfl ?_
      refine go_getR (bI := 0) k138_195 e17 hK0 (by decide) rfl rfl (fun r76 => ?_)
      refine go_int k138_198 300 rfl ?_
      refine go_iload k138_201 rfl ?_
      refine go_iadd k138_202 ?_
      refine go_ck (fun q78 => ?_)
      refine go_iald k138_203 e17 q78 (fun r77 => ?_)
      exact go_iret k138_204 e17 r77 ⟨Nat.zero_le _, Nat.zero_le _⟩ rfl
    refine go_ite (fun c79 => ?_) (fun c80 => ?_)
    · refine go_swh (lo := 0) (hi := 13) (i := 11) k138_34 rfl rfl (by omega) (by omega) rfl ?_
      refine go_aload k138_205 rfl ?_
      refine go_getR (bI := 0) k138_206 e17 hK0 (by decide) rfl rfl (fun r81 => ?_)
      refine go_int k138_209 340 rfl ?_
      refine go_iload k138_212 rfl ?_
      refine go_iadd k138_213 ?_
      refine go_ck (fun q83 => ?_)
      refine go_iald k138_214 e17 q83 (fun r82 => ?_)
      exact go_iret k138_215 e17 r82 ⟨Nat.zero_le _, Nat.zero_le _⟩ rfl
    refine go_ite (fun c84 => ?_) (fun c85 => ?_)
    · refine go_swh (lo := 0) (hi := 13) (i := 12) k138_34 rfl rfl (by omega) (by omega) rfl ?_
      refine go_aload k138_216 rfl ?_
      refine go_getR (bI := 0) k138_217 e17 hK0 (by decide) rfl rfl (fun r86 => ?_)
      refine go_int k138_220 380 rfl ?_
      refine go_iload k138_223 rfl ?_
      refine go_iadd k138_224 ?_
      refine go_ck (fun q88 => ?_)
      refine go_iald k138_225 e17 q88 (fun r87 => ?_)
      exact go_iret k138_226 e17 r87 ⟨Nat.zero_le _, Nat.zero_le _⟩ rfl
    refine go_ite (fun c89 => ?_) (fun c90 => ?_)
    · refine go_swh (lo := 0) (hi := 13) (i := 13) k138_34 rfl rfl (by omega) (by omega) rfl ?_
      refine go_aload k138_227 rfl ?_
      refine go_getR (bI := 0) k138_228 e17 hK0 (by decide) rfl rfl (fun r91 => ?_)
      refine go_int k138_231 420 rfl ?_
      refine go_iload k138_234 rfl ?_
      refine go_iadd k138_235 ?_
      refine go_ck (fun q93 => ?_)
      refine go_iald k138_236 e17 q93 (fun r92 => ?_)
      exact go_iret k138_237 e17 r92 ⟨Nat.zero_le _, Nat.zero_le _⟩ rfl
    refine go_swd (lo := 0) (hi := 13) k138_34 rfl rfl h2 (by omega) (by omega) ?_
    refine go_aload k138_238 rfl ?_
    refine go_iload k138_239 rfl ?_
    refine go_callP1 k138_240 rfl rfl rfl ⟨by decide, _, rfl, hK0⟩ ⟨Nat.zero_le _, Nat.zero_le _⟩ (by omega) (tfM_willsOf (by omega) e17 hK0  h1) (fun y94 r95 => ?_)
    exact go_iret k138_243 e17 r95 ⟨Nat.zero_le _, Nat.zero_le _⟩ rfl
  · refine go_int k138_31 0 rfl ?_
    exact go_iret k138_32 e17 (inR_b (Or.inl rfl)) ⟨Nat.zero_le _, Nat.zero_le _⟩ rfl
theorem tfM_process {Φ : ev_P} {d : Nat} (hd : 3 ≤ d) {g : gH} (hg : HR g) {v0 v1 v2 : Int} (hK0 : kd v0 = 7) (h1 : InR v1) (h2 : InR v2) : Go Φ pr_P fN 1 (fM_process g v0 v1 v2) d (pr_P 138) 0 (ev_loc (pr_P 138).1 [(sR v0), (sI v1), (sI v2)]) [] g 0 0 := by
  show Go Φ pr_P fN 1 (fM_process g v0 v1 v2) d pr_m138 0 [some (sR v0), some (sI v1), some (sI v2)] [] g 0 0
  unfold fM_process
  refine go_aload k138_0 rfl ?_
  refine go_iload k138_1 rfl ?_
  refine go_callN3 k138_2 rfl rfl rfl ⟨by decide, _, rfl, hK0⟩ ⟨Nat.zero_le _, Nat.zero_le _⟩ (by omega) (tfM_noProcess (by omega) hg hK0  h1) (fun y1 g3 r2 e4 => ?_)
  refine go_ifeq k138_5 (inR_b r2) (fun c5 => ?_) (fun c6 => ?_)
  · refine go_aload k138_8 rfl ?_
    refine go_iload k138_9 rfl ?_
    refine go_int k138_10 0 rfl ?_
    refine go_int k138_11 14 rfl ?_
    refine go_callP3 k138_13 rfl rfl rfl trivial ⟨Nat.zero_le _, Nat.zero_le _⟩ (by omega) (tfM_inRange (by omega) e4  h2 (inR_b (Or.inl rfl)) (inR_of (by decide))) (fun y7 r8 => ?_)
    refine go_ifeq k138_16 (inR_b r8) (fun c11 => ?_) (fun c12 => ?_)
    · refine go_int k138_19 1 rfl ?_
      refine go_goto k138_20 ?_
      exact tjM_process_24 hd e4 hK0 h1 h2 (rfR_kd hK0 (by decide)) (Or.inr rfl)
    · refine go_int k138_23 0 rfl ?_
      exact tjM_process_24 hd e4 hK0 h1 h2 (rfR_kd hK0 (by decide)) (Or.inl rfl)
  · refine go_int k138_31 0 rfl ?_
    exact go_iret k138_32 e4 (inR_b (Or.inl rfl)) ⟨Nat.zero_le _, Nat.zero_le _⟩ rfl
theorem tfM_noDuty {Φ : ev_P} {d : Nat} (hd : 1 ≤ d) {g : gH} (hg : HR g) {v0 v1 v2 : Int} (hK0 : kd v0 = 7) (h1 : InR v1) (h2 : InR v2) : Go Φ pr_P fN 3 (fM_noDuty g v0 v1 v2) d (pr_P 139) 0 (ev_loc (pr_P 139).1 [(sR v0), (sI v1), (sI v2)]) [] g 0 0 := by
  show Go Φ pr_P fN 3 (fM_noDuty g v0 v1 v2) d pr_m139 0 [some (sR v0), some (sI v1), some (sI v2)] [] g 0 0
  unfold fM_noDuty
  refine go_aload k139_0 rfl ?_
  refine go_iload k139_1 rfl ?_
  refine go_int k139_2 0 rfl ?_
  refine go_int k139_3 7 rfl ?_
  refine go_callP3 k139_5 rfl rfl rfl trivial ⟨Nat.zero_le _, Nat.zero_le _⟩ (by omega) (tfM_inRange (by omega) hg  h1 (inR_b (Or.inl rfl)) (inR_of (by decide))) (fun y1 r2 => ?_)
  refine go_ifeq k139_8 (inR_b r2) (fun c5 => ?_) (fun c6 => ?_)
  · refine go_int k139_11 1 rfl ?_
    refine go_goto k139_12 ?_
    refine go_iload k139_16 rfl ?_
    refine go_callN3 k139_17 rfl rfl rfl ⟨by decide, _, rfl, hK0⟩ ⟨Nat.zero_le _, Nat.zero_le _⟩ (by omega) (tfM_fails (by omega) hg hK0  (Or.inr rfl) h2) (fun y7 g9 r8 e10 => ?_)
    exact go_bret k139_20 e10 r8 ⟨Nat.zero_le _, Nat.zero_le _⟩ rfl
  · refine go_int k139_15 0 rfl ?_
    refine go_iload k139_16 rfl ?_
    refine go_callN3 k139_17 rfl rfl rfl ⟨by decide, _, rfl, hK0⟩ ⟨Nat.zero_le _, Nat.zero_le _⟩ (by omega) (tfM_fails (by omega) hg hK0  (Or.inl rfl) h2) (fun y11 g13 r12 e14 => ?_)
    exact go_bret k139_20 e14 r12 ⟨Nat.zero_le _, Nat.zero_le _⟩ rfl
theorem tfM_holder {Φ : ev_P} {d : Nat} (hd : 2 ≤ d) {g : gH} (hg : HR g) {v0 v1 : Int} (hK0 : kd v0 = 7) (h1 : InR v1) : Go Φ pr_P fN 1 (fM_holder g v0 v1) d (pr_P 140) 0 (ev_loc (pr_P 140).1 [(sR v0), (sI v1)]) [] g 0 0 := by
  show Go Φ pr_P fN 1 (fM_holder g v0 v1) d pr_m140 0 [some (sR v0), some (sI v1)] [] g 0 0
  unfold fM_holder
  refine go_aload k140_0 rfl ?_
  refine go_int k140_1 0 rfl ?_
  refine go_putI (bI := 8) k140_2 hg hK0 (by decide) rfl rfl (inR_b (Or.inl rfl)) (fun g1 e2 => ?_)
  refine go_aload k140_5 rfl ?_
  refine go_iload k140_6 rfl ?_
  refine go_int k140_7 1 rfl ?_
  refine go_callN3 k140_8 rfl rfl rfl ⟨by decide, _, rfl, hK0⟩ ⟨Nat.zero_le _, Nat.zero_le _⟩ (by omega) (tfM_noDuty (by omega) e2 hK0  h1 (inR_b (Or.inr rfl))) (fun y3 g5 r4 e6 => ?_)
  refine go_ifeq k140_11 (inR_b r4) (fun c7 => ?_) (fun c8 => ?_)
  · refine go_aload k140_18 rfl ?_
    refine go_getR (bI := 0) k140_19 e6 hK0 (by decide) rfl rfl (fun r9 => ?_)
    refine go_int k140_22 11 rfl ?_
    refine go_iload k140_24 rfl ?_
    refine go_iadd k140_25 ?_
    refine go_ck (fun q11 => ?_)
    refine go_iald k140_26 e6 q11 (fun r10 => ?_)
    exact go_iret k140_27 e6 r10 ⟨Nat.zero_le _, Nat.zero_le _⟩ rfl
  · refine go_int k140_14 0 rfl ?_
    refine go_goto k140_15 ?_
    exact go_iret k140_27 e6 (inR_b (Or.inl rfl)) ⟨Nat.zero_le _, Nat.zero_le _⟩ rfl
theorem tfM_rule {Φ : ev_P} {d : Nat} (hd : 1 ≤ d) {g : gH} (hg : HR g) {v0 v1 : Int} (hK0 : kd v0 = 7) (h1 : InR v1) : Go Φ pr_P fN 1 (fM_rule g v0 v1) d (pr_P 141) 0 (ev_loc (pr_P 141).1 [(sR v0), (sI v1)]) [] g 0 0 := by
  show Go Φ pr_P fN 1 (fM_rule g v0 v1) d pr_m141 0 [some (sR v0), some (sI v1)] [] g 0 0
  unfold fM_rule
  refine go_aload k141_0 rfl ?_
  refine go_int k141_1 0 rfl ?_
  refine go_putI (bI := 8) k141_2 hg hK0 (by decide) rfl rfl (inR_b (Or.inl rfl)) (fun g1 e2 => ?_)
  refine go_iload k141_5 rfl ?_
  refine go_int k141_6 0 rfl ?_
  refine go_aload k141_7 rfl ?_
  refine go_getR (bI := 0) k141_8 e2 hK0 (by decide) rfl rfl (fun r3 => ?_)
  refine go_int k141_11 5 rfl ?_
  refine go_ck (fun q5 => ?_)
  refine go_iald k141_12 e2 q5 (fun r4 => ?_)
  refine go_int k141_13 1 rfl ?_
  refine go_isub k141_14 ?_
  refine go_callP3 k141_15 rfl rfl rfl trivial ⟨Nat.zero_le _, Nat.zero_le _⟩ (by omega) (tfM_inRange (by omega) e2  h1 (inR_b (Or.inl rfl)) (inR_w32 _)) (fun y6 r7 => ?_)
  refine go_ifeq k141_18 (inR_b r7) (fun c10 => ?_) (fun c11 => ?_)
  · refine go_int k141_33 (-1) rfl ?_
    exact go_iret k141_34 e2 (inR_of (by decide)) ⟨Nat.zero_le _, Nat.zero_le _⟩ rfl
  · refine go_aload k141_21 rfl ?_
    refine go_getR (bI := 0) k141_22 e2 hK0 (by decide) rfl rfl (fun r12 => ?_)
    refine go_int k141_25 6 rfl ?_
    refine go_iload k141_27 rfl ?_
    refine go_iadd k141_28 ?_
    refine go_ck (fun q14 => ?_)
    refine go_iald k141_29 e2 q14 (fun r13 => ?_)
    refine go_goto k141_30 ?_
    exact go_iret k141_34 e2 r13 ⟨Nat.zero_le _, Nat.zero_le _⟩ rfl
theorem tbM_deep_4 {Φ : ev_P} {d : Nat} (hd : 0 ≤ d) {g : gH} (hg : HR g) {v0 : Int} (hK0 : kd v0 = 7) {X4 : Int → Int → Option Int} (HX4 : ∀ (v2 : Int) (h2 : InR v2) (v3 : Int) (h3 : InR v3) (u1 : Option ev_V) (w1 : nwo u1), Go Φ pr_P (fP g) 1 (X4 v2 v3) d pr_m89 4 [some (sR v0), u1, some (sI v2), some (sI v3)] [] g 0 0) : ∀ (v2 : Int) (h2 : InR v2) (v3 : Int) (h3 : InR v3) (u1 : Option ev_V) (w1 : nwo u1), Go Φ pr_P (fP g) 1 (bM_deep_4 g v0 X4 v2 v3) d pr_m89 4 [some (sR v0), u1, some (sI v2), some (sI v3)] [] g 0 0 := by
  intro v2 h2 v3 h3 u1 w1
  unfold bM_deep_4
  refine go_iload k89_4 rfl ?_
  refine go_ifeq k89_5 h3 (fun c1 => ?_) (fun c2 => ?_)
  · refine go_iload k89_24 rfl ?_
    exact go_iret k89_25 hg h2 ⟨Nat.zero_le _, Nat.zero_le _⟩ rfl
  · refine go_iinc k89_8 rfl w1 1 rfl (loc2 := [some (sR v0), u1, some (sI (w32 (v2 + 1))), some (sI v3)]) rfl ?_
    refine go_aload k89_11 rfl ?_
    refine go_getR (bI := 0) k89_12 hg hK0 (by decide) rfl rfl (fun r3 => ?_)
    refine go_int k89_15 60 rfl ?_
    refine go_iload k89_17 rfl ?_
    refine go_iadd k89_18 ?_
    refine go_ck (fun q5 => ?_)
    refine go_iald k89_19 hg q5 (fun r4 => ?_)
    refine go_istore k89_20 rfl (loc2 := [some (sR v0), u1, some (sI (w32 (v2 + 1))), some (sI (g (g v0 0) (w32 (60 + v3))))]) rfl ?_
    refine go_goto k89_21 ?_
    exact HX4 (w32 (v2 + 1)) (inR_w32 _) (g (g v0 0) (w32 (60 + v3))) r4 u1 w1
theorem tlM_deep_4 {Φ : ev_P} {d : Nat} (hd : 0 ≤ d) {g : gH} (hg : HR g) {v0 : Int} (hK0 : kd v0 = 7) : ∀ n : Nat, ∀ (v2 : Int) (h2 : InR v2) (v3 : Int) (h3 : InR v3) (u1 : Option ev_V) (w1 : nwo u1), Go Φ pr_P (fP g) 1 (lM_deep_4 g v0 n v2 v3) d pr_m89 4 [some (sR v0), u1, some (sI v2), some (sI v3)] [] g 0 0 := by
  intro n
  induction n with
  | zero => intros; exact go_none
  | succ n ih => exact tbM_deep_4 hd hg hK0 ih
theorem tfM_deep {Φ : ev_P} {d : Nat} (hd : 0 ≤ d) {g : gH} (hg : HR g) {v0 v1 : Int} (hK0 : kd v0 = 7) (h1 : InR v1) : Go Φ pr_P (fP g) 1 (fM_deep g v0 v1) d (pr_P 89) 0 (ev_loc (pr_P 89).1 [(sR v0), (sI v1)]) [] g 0 0 := by
  show Go Φ pr_P (fP g) 1 (fM_deep g v0 v1) d pr_m89 0 [some (sR v0), some (sI v1), none, none] [] g 0 0
  unfold fM_deep
  refine go_int k89_0 0 rfl ?_
  refine go_istore k89_1 rfl (loc2 := [some (sR v0), some (sI v1), some (sI 0), none]) rfl ?_
  refine go_iload k89_2 rfl ?_
  refine go_istore k89_3 rfl (loc2 := [some (sR v0), some (sI v1), some (sI 0), some (sI v1)]) rfl ?_
  exact tlM_deep_4 hd hg hK0 fu 0 (inR_b (Or.inl rfl)) v1 h1 (some (sI v1)) rfl
theorem tfM_isGone {Φ : ev_P} {d : Nat} (hd : 0 ≤ d) {g : gH} (hg : HR g) {v0 v1 : Int} (hK0 : kd v0 = 7) (h1 : InR v1) : Go Φ pr_P (fP g) 3 (fM_isGone g v0 v1) d (pr_P 142) 0 (ev_loc (pr_P 142).1 [(sR v0), (sI v1)]) [] g 0 0 := by
  show Go Φ pr_P (fP g) 3 (fM_isGone g v0 v1) d pr_m142 0 [some (sR v0), some (sI v1)] [] g 0 0
  unfold fM_isGone
  refine go_aload k142_0 rfl ?_
  refine go_getR (bI := 0) k142_1 hg hK0 (by decide) rfl rfl (fun r1 => ?_)
  refine go_int k142_4 140 rfl ?_
  refine go_iload k142_7 rfl ?_
  refine go_iadd k142_8 ?_
  refine go_ck (fun q3 => ?_)
  refine go_iald k142_9 hg q3 (fun r2 => ?_)
  refine go_int k142_10 2 rfl ?_
  refine go_cmeq k142_11 r2 (inR_of (by decide)) (fun c4 => ?_) (fun c5 => ?_)
  · refine go_int k142_14 1 rfl ?_
    refine go_goto k142_15 ?_
    exact go_bret k142_19 hg (Or.inr rfl) ⟨Nat.zero_le _, Nat.zero_le _⟩ rfl
  · refine go_int k142_18 0 rfl ?_
    exact go_bret k142_19 hg (Or.inl rfl) ⟨Nat.zero_le _, Nat.zero_le _⟩ rfl
theorem tfM_depth {Φ : ev_P} {d : Nat} (hd : 2 ≤ d) {g : gH} (hg : HR g) {v0 v1 : Int} (hK0 : kd v0 = 7) (h1 : InR v1) : Go Φ pr_P fN 1 (fM_depth g v0 v1) d (pr_P 143) 0 (ev_loc (pr_P 143).1 [(sR v0), (sI v1)]) [] g 0 0 := by
  show Go Φ pr_P fN 1 (fM_depth g v0 v1) d pr_m143 0 [some (sR v0), some (sI v1)] [] g 0 0
  unfold fM_depth
  refine go_aload k143_0 rfl ?_
  refine go_iload k143_1 rfl ?_
  refine go_callN3 k143_2 rfl rfl rfl ⟨by decide, _, rfl, hK0⟩ ⟨Nat.zero_le _, Nat.zero_le _⟩ (by omega) (tfM_noProcess (by omega) hg hK0  h1) (fun y1 g3 r2 e4 => ?_)
  refine go_ifeq k143_5 (inR_b r2) (fun c5 => ?_) (fun c6 => ?_)
  · refine go_aload k143_8 rfl ?_
    refine go_aload k143_9 rfl ?_
    refine go_iload k143_10 rfl ?_
    refine go_callP3 k143_11 rfl rfl rfl ⟨by decide, _, rfl, hK0⟩ ⟨Nat.zero_le _, Nat.zero_le _⟩ (by omega) (tfM_isGone (by omega) e4 hK0  h1) (fun y7 r8 => ?_)
    refine go_int k143_14 2 rfl ?_
    refine go_callN3 k143_15 rfl rfl rfl ⟨by decide, _, rfl, hK0⟩ ⟨Nat.zero_le _, Nat.zero_le _⟩ (by omega) (tfM_fails (by omega) e4 hK0  r8 (inR_of (by decide))) (fun y11 g13 r12 e14 => ?_)
    refine go_ifeq k143_18 (inR_b r12) (fun c15 => ?_) (fun c16 => ?_)
    · refine go_aload k143_25 rfl ?_
      refine go_iload k143_26 rfl ?_
      refine go_callP1 k143_27 rfl rfl rfl ⟨by decide, _, rfl, hK0⟩ ⟨Nat.zero_le _, Nat.zero_le _⟩ (by omega) (tfM_deep (by omega) e14 hK0  h1) (fun y17 r18 => ?_)
      exact go_iret k143_30 e14 r18 ⟨Nat.zero_le _, Nat.zero_le _⟩ rfl
    · refine go_int k143_21 0 rfl ?_
      refine go_goto k143_22 ?_
      exact go_iret k143_30 e14 (inR_b (Or.inl rfl)) ⟨Nat.zero_le _, Nat.zero_le _⟩ rfl
  · refine go_int k143_21 0 rfl ?_
    refine go_goto k143_22 ?_
    exact go_iret k143_30 e4 (inR_b (Or.inl rfl)) ⟨Nat.zero_le _, Nat.zero_le _⟩ rfl
theorem tjM_isOver_32 {Φ : ev_P} {d : Nat} (hd : 0 ≤ d) {g : gH} (hg : HR g) {v3 : Int} (h3 : InR v3) (u0 : Option ev_V) (w0 : nwo u0) (u1 : Option ev_V) (w1 : nwo u1) (u2 : Option ev_V) (w2 : nwo u2) : Go Φ pr_P (fP g) 3 (jM_isOver_32 g v3 ) d pr_m88 32 [u0, u1, u2, some (sI v3)] [] g 0 0 := by
  unfold jM_isOver_32
  refine go_iload k88_32 rfl ?_
  refine go_ifeq k88_33 h3 (fun c11 => ?_) (fun c12 => ?_)
  · refine go_int k88_40 0 rfl ?_
    exact go_bret k88_41 hg (Or.inl rfl) ⟨Nat.zero_le _, Nat.zero_le _⟩ rfl
  · refine go_int k88_36 1 rfl ?_
    refine go_goto k88_37 ?_
    exact go_bret k88_41 hg (Or.inr rfl) ⟨Nat.zero_le _, Nat.zero_le _⟩ rfl
theorem tbM_isOver_2 {Φ : ev_P} {d : Nat} (hd : 0 ≤ d) {g : gH} (hg : HR g) {v0 v1 : Int} (hK0 : kd v0 = 7) (h1 : InR v1) {X2 : Int → Option Int} (HX2 : ∀ (v3 : Int) (h3 : InR v3) (u2 : Option ev_V) (w2 : nwo u2), Go Φ pr_P (fP g) 3 (X2 v3) d pr_m88 2 [some (sR v0), some (sI v1), u2, some (sI v3)] [] g 0 0) : ∀ (v3 : Int) (h3 : InR v3) (u2 : Option ev_V) (w2 : nwo u2), Go Φ pr_P (fP g) 3 (bM_isOver_2 g v0 v1 X2 v3) d pr_m88 2 [some (sR v0), some (sI v1), u2, some (sI v3)] [] g 0 0 := by
  intro v3 h3 u2 w2
  unfold bM_isOver_2
  refine go_iload k88_2 rfl ?_
  refine go_ifeq k88_3 h3 (fun c1 => ?_) (fun c2 => ?_)
  · exact tjM_isOver_32 hd hg h3 (some (sR v0)) rfl (some (sI v1)) rfl u2 w2
  · refine go_aload k88_6 rfl ?_
    refine go_getR (bI := 0) k88_7 hg hK0 (by decide) rfl rfl (fun r3 => ?_)
    refine go_int k88_10 60 rfl ?_
    refine go_iload k88_12 rfl ?_
    refine go_iadd k88_13 ?_
    refine go_ck (fun q5 => ?_)
    refine go_iald k88_14 hg q5 (fun r4 => ?_)
    refine go_iload k88_15 rfl ?_
    refine go_cmeq k88_16 r4 h1 (fun c6 => ?_) (fun c7 => ?_)
    · exact tjM_isOver_32 hd hg h3 (some (sR v0)) rfl (some (sI v1)) rfl u2 w2
    · refine go_aload k88_19 rfl ?_
      refine go_getR (bI := 0) k88_20 hg hK0 (by decide) rfl rfl (fun r8 => ?_)
      refine go_int k88_23 60 rfl ?_
      refine go_iload k88_25 rfl ?_
      refine go_iadd k88_26 ?_
      refine go_ck (fun q10 => ?_)
      refine go_iald k88_27 hg q10 (fun r9 => ?_)
      refine go_istore k88_28 w2 (loc2 := [some (sR v0), some (sI v1), u2, some (sI (g (g v0 0) (w32 (60 + v3))))]) rfl ?_
      refine go_goto k88_29 ?_
      exact HX2 (g (g v0 0) (w32 (60 + v3))) r9 u2 w2
theorem tlM_isOver_2 {Φ : ev_P} {d : Nat} (hd : 0 ≤ d) {g : gH} (hg : HR g) {v0 v1 : Int} (hK0 : kd v0 = 7) (h1 : InR v1) : ∀ n : Nat, ∀ (v3 : Int) (h3 : InR v3) (u2 : Option ev_V) (w2 : nwo u2), Go Φ pr_P (fP g) 3 (lM_isOver_2 g v0 v1 n v3) d pr_m88 2 [some (sR v0), some (sI v1), u2, some (sI v3)] [] g 0 0 := by
  intro n
  induction n with
  | zero => intros; exact go_none
  | succ n ih => exact tbM_isOver_2 hd hg hK0 h1 ih
theorem tfM_isOver {Φ : ev_P} {d : Nat} (hd : 0 ≤ d) {g : gH} (hg : HR g) {v0 v1 v2 : Int} (hK0 : kd v0 = 7) (h1 : InR v1) (h2 : InR v2) : Go Φ pr_P (fP g) 3 (fM_isOver g v0 v1 v2) d (pr_P 88) 0 (ev_loc (pr_P 88).1 [(sR v0), (sI v1), (sI v2)]) [] g 0 0 := by
  show Go Φ pr_P (fP g) 3 (fM_isOver g v0 v1 v2) d pr_m88 0 [some (sR v0), some (sI v1), some (sI v2), none] [] g 0 0
  unfold fM_isOver
  refine go_iload k88_0 rfl ?_
  refine go_istore k88_1 rfl (loc2 := [some (sR v0), some (sI v1), some (sI v2), some (sI v2)]) rfl ?_
  exact tlM_isOver_2 hd hg hK0 h1 fu v2 h2 (some (sI v2)) rfl
theorem tfM_isAbove {Φ : ev_P} {d : Nat} (hd : 2 ≤ d) {g : gH} (hg : HR g) {v0 v1 v2 : Int} (hK0 : kd v0 = 7) (h1 : InR v1) (h2 : InR v2) : Go Φ pr_P fN 3 (fM_isAbove g v0 v1 v2) d (pr_P 144) 0 (ev_loc (pr_P 144).1 [(sR v0), (sI v1), (sI v2)]) [] g 0 0 := by
  show Go Φ pr_P fN 3 (fM_isAbove g v0 v1 v2) d pr_m144 0 [some (sR v0), some (sI v1), some (sI v2)] [] g 0 0
  unfold fM_isAbove
  refine go_aload k144_0 rfl ?_
  refine go_iload k144_1 rfl ?_
  refine go_callN3 k144_2 rfl rfl rfl ⟨by decide, _, rfl, hK0⟩ ⟨Nat.zero_le _, Nat.zero_le _⟩ (by omega) (tfM_noProcess (by omega) hg hK0  h1) (fun y1 g3 r2 e4 => ?_)
  refine go_ifeq k144_5 (inR_b r2) (fun c5 => ?_) (fun c6 => ?_)
  · refine go_aload k144_8 rfl ?_
    refine go_iload k144_9 rfl ?_
    refine go_callN3 k144_10 rfl rfl rfl ⟨by decide, _, rfl, hK0⟩ ⟨Nat.zero_le _, Nat.zero_le _⟩ (by omega) (tfM_noProcess (by omega) e4 hK0  h2) (fun y7 g9 r8 e10 => ?_)
    refine go_ifeq k144_13 (inR_b r8) (fun c11 => ?_) (fun c12 => ?_)
    · refine go_aload k144_18 rfl ?_
      refine go_iload k144_19 rfl ?_
      refine go_callP3 k144_20 rfl rfl rfl ⟨by decide, _, rfl, hK0⟩ ⟨Nat.zero_le _, Nat.zero_le _⟩ (by omega) (tfM_isGone (by omega) e10 hK0  h1) (fun y13 r14 => ?_)
      refine go_ifeq k144_23 (inR_b r14) (fun c17 => ?_) (fun c18 => ?_)
      · refine go_aload k144_26 rfl ?_
        refine go_iload k144_27 rfl ?_
        refine go_callP3 k144_28 rfl rfl rfl ⟨by decide, _, rfl, hK0⟩ ⟨Nat.zero_le _, Nat.zero_le _⟩ (by omega) (tfM_isGone (by omega) e10 hK0  h2) (fun y19 r20 => ?_)
        refine go_ifeq k144_31 (inR_b r20) (fun c23 => ?_) (fun c24 => ?_)
        · refine go_iload k144_34 rfl ?_
          refine go_iload k144_35 rfl ?_
          refine go_cmeq k144_36 h1 h2 (fun c25 => ?_) (fun c26 => ?_)
          · refine go_int k144_52 0 rfl ?_
            exact go_bret k144_53 e10 (Or.inl rfl) ⟨Nat.zero_le _, Nat.zero_le _⟩ rfl
          · refine go_aload k144_39 rfl ?_
            refine go_iload k144_40 rfl ?_
            refine go_iload k144_41 rfl ?_
            refine go_callP3 k144_42 rfl rfl rfl ⟨by decide, _, rfl, hK0⟩ ⟨Nat.zero_le _, Nat.zero_le _⟩ (by omega) (tfM_isOver (by omega) e10 hK0  h1 h2) (fun y27 r28 => ?_)
            refine go_ifeq k144_45 (inR_b r28) (fun c31 => ?_) (fun c32 => ?_)
            · refine go_int k144_52 0 rfl ?_
              exact go_bret k144_53 e10 (Or.inl rfl) ⟨Nat.zero_le _, Nat.zero_le _⟩ rfl
            · refine go_int k144_48 1 rfl ?_
              refine go_goto k144_49 ?_
              exact go_bret k144_53 e10 (Or.inr rfl) ⟨Nat.zero_le _, Nat.zero_le _⟩ rfl
        · refine go_int k144_52 0 rfl ?_
          exact go_bret k144_53 e10 (Or.inl rfl) ⟨Nat.zero_le _, Nat.zero_le _⟩ rfl
      · refine go_int k144_52 0 rfl ?_
        exact go_bret k144_53 e10 (Or.inl rfl) ⟨Nat.zero_le _, Nat.zero_le _⟩ rfl
    · refine go_int k144_16 0 rfl ?_
      exact go_bret k144_17 e10 (Or.inl rfl) ⟨Nat.zero_le _, Nat.zero_le _⟩ rfl
  · refine go_int k144_16 0 rfl ?_
    exact go_bret k144_17 e4 (Or.inl rfl) ⟨Nat.zero_le _, Nat.zero_le _⟩ rfl
theorem tbM_meets_2 {Φ : ev_P} {d : Nat} (hd : 1 ≤ d) {g : gH} (hg : HR g) {v0 v2 : Int} (hK0 : kd v0 = 7) (h2 : InR v2) {X2 : Int → Option Int} (HX2 : ∀ (v3 : Int) (h3 : InR v3) (u1 : Option ev_V) (w1 : nwo u1), Go Φ pr_P (fP g) 1 (X2 v3) d pr_m145 2 [some (sR v0), u1, some (sI v2), some (sI v3)] [] g 0 0) : ∀ (v3 : Int) (h3 : InR v3) (u1 : Option ev_V) (w1 : nwo u1), Go Φ pr_P (fP g) 1 (bM_meets_2 g v0 v2 X2 v3) d pr_m145 2 [some (sR v0), u1, some (sI v2), some (sI v3)] [] g 0 0 := by
  intro v3 h3 u1 w1
  unfold bM_meets_2
  refine go_iload k145_2 rfl ?_
  refine go_iload k145_3 rfl ?_
  refine go_cmeq k145_4 h3 h2 (fun c1 => ?_) (fun c2 => ?_)
  · refine go_iload k145_29 rfl ?_
    exact go_iret k145_30 hg h3 ⟨Nat.zero_le _, Nat.zero_le _⟩ rfl
  · refine go_aload k145_7 rfl ?_
    refine go_iload k145_8 rfl ?_
    refine go_iload k145_9 rfl ?_
    refine go_callP3 k145_10 rfl rfl rfl ⟨by decide, _, rfl, hK0⟩ ⟨Nat.zero_le _, Nat.zero_le _⟩ (by omega) (tfM_isOver (by omega) hg hK0  h3 h2) (fun y3 r4 => ?_)
    refine go_ifeq k145_13 (inR_b r4) (fun c7 => ?_) (fun c8 => ?_)
    · refine go_aload k145_16 rfl ?_
      refine go_getR (bI := 0) k145_17 hg hK0 (by decide) rfl rfl (fun r9 => ?_)
      refine go_int k145_20 60 rfl ?_
      refine go_iload k145_22 rfl ?_
      refine go_iadd k145_23 ?_
      refine go_ck (fun q11 => ?_)
      refine go_iald k145_24 hg q11 (fun r10 => ?_)
      refine go_istore k145_25 rfl (loc2 := [some (sR v0), u1, some (sI v2), some (sI (g (g v0 0) (w32 (60 + v3))))]) rfl ?_
      refine go_goto k145_26 ?_
      exact HX2 (g (g v0 0) (w32 (60 + v3))) r10 u1 w1
    · refine go_iload k145_29 rfl ?_
      exact go_iret k145_30 hg h3 ⟨Nat.zero_le _, Nat.zero_le _⟩ rfl
theorem tlM_meets_2 {Φ : ev_P} {d : Nat} (hd : 1 ≤ d) {g : gH} (hg : HR g) {v0 v2 : Int} (hK0 : kd v0 = 7) (h2 : InR v2) : ∀ n : Nat, ∀ (v3 : Int) (h3 : InR v3) (u1 : Option ev_V) (w1 : nwo u1), Go Φ pr_P (fP g) 1 (lM_meets_2 g v0 v2 n v3) d pr_m145 2 [some (sR v0), u1, some (sI v2), some (sI v3)] [] g 0 0 := by
  intro n
  induction n with
  | zero => intros; exact go_none
  | succ n ih => exact tbM_meets_2 hd hg hK0 h2 ih
theorem tfM_meets {Φ : ev_P} {d : Nat} (hd : 1 ≤ d) {g : gH} (hg : HR g) {v0 v1 v2 : Int} (hK0 : kd v0 = 7) (h1 : InR v1) (h2 : InR v2) : Go Φ pr_P (fP g) 1 (fM_meets g v0 v1 v2) d (pr_P 145) 0 (ev_loc (pr_P 145).1 [(sR v0), (sI v1), (sI v2)]) [] g 0 0 := by
  show Go Φ pr_P (fP g) 1 (fM_meets g v0 v1 v2) d pr_m145 0 [some (sR v0), some (sI v1), some (sI v2), none] [] g 0 0
  unfold fM_meets
  refine go_iload k145_0 rfl ?_
  refine go_istore k145_1 rfl (loc2 := [some (sR v0), some (sI v1), some (sI v2), some (sI v1)]) rfl ?_
  exact tlM_meets_2 hd hg hK0 h2 fu v1 h1 (some (sI v1)) rfl
theorem tjM_anyGone_38 {Φ : ev_P} {d : Nat} (hd : 2 ≤ d) {g : gH} (hg : HR g) {s0 s1 : Int} (z0 : RfR s0) (z1 : B01 s1) (u0 : Option ev_V) (w0 : nwo u0) (u1 : Option ev_V) (w1 : nwo u1) (u2 : Option ev_V) (w2 : nwo u2) : Go Φ pr_P fN 3 (jM_anyGone_38 g s0 s1 ) d pr_m146 38 [u0, u1, u2] [(sI s1), (sR s0)] g 0 0 := by
  unfold jM_anyGone_38
  refine go_int k146_38 2 rfl ?_
  refine go_ck (fun q25 => ?_)
  refine go_callN3 k146_39 rfl rfl rfl ⟨by decide, _, rfl, q25⟩ ⟨Nat.zero_le _, Nat.zero_le _⟩ (by omega) (tfM_fails (by omega) hg q25  z1 (inR_of (by decide))) (fun y26 g28 r27 e29 => ?_)
  refine go_ifeq k146_42 (inR_b r27) (fun c30 => ?_) (fun c31 => ?_)
  · refine go_int k146_49 0 rfl ?_
    exact go_bret k146_50 e29 (Or.inl rfl) ⟨Nat.zero_le _, Nat.zero_le _⟩ rfl
  · refine go_int k146_45 1 rfl ?_
    refine go_goto k146_46 ?_
    exact go_bret k146_50 e29 (Or.inr rfl) ⟨Nat.zero_le _, Nat.zero_le _⟩ rfl
theorem tjM_anyGone_33 {Φ : ev_P} {d : Nat} (hd : 2 ≤ d) {g : gH} (hg : HR g) {s0 : Int} (z0 : RfR s0) (u0 : Option ev_V) (w0 : nwo u0) (u1 : Option ev_V) (w1 : nwo u1) (u2 : Option ev_V) (w2 : nwo u2) : Go Φ pr_P fN 3 (jM_anyGone_33 g s0 ) d pr_m146 33 [u0, u1, u2] [(sR s0)] g 0 0 := by
  unfold jM_anyGone_33
  refine go_int k146_33 1 rfl ?_
  refine go_goto k146_34 ?_
  exact tjM_anyGone_38 hd hg z0 (Or.inr rfl) u0 w0 u1 w1 u2 w2
theorem tfM_anyGone {Φ : ev_P} {d : Nat} (hd : 2 ≤ d) {g : gH} (hg : HR g) {v0 v1 v2 : Int} (hK0 : kd v0 = 7) (h1 : InR v1) (h2 : InR v2) : Go Φ pr_P fN 3 (fM_anyGone g v0 v1 v2) d (pr_P 146) 0 (ev_loc (pr_P 146).1 [(sR v0), (sI v1), (sI v2)]) [] g 0 0 := by
  show Go Φ pr_P fN 3 (fM_anyGone g v0 v1 v2) d pr_m146 0 [some (sR v0), some (sI v1), some (sI v2)] [] g 0 0
  unfold fM_anyGone
  refine go_aload k146_0 rfl ?_
  refine go_iload k146_1 rfl ?_
  refine go_callN3 k146_2 rfl rfl rfl ⟨by decide, _, rfl, hK0⟩ ⟨Nat.zero_le _, Nat.zero_le _⟩ (by omega) (tfM_noProcess (by omega) hg hK0  h1) (fun y1 g3 r2 e4 => ?_)
  refine go_ifeq k146_5 (inR_b r2) (fun c5 => ?_) (fun c6 => ?_)
  · refine go_aload k146_8 rfl ?_
    refine go_iload k146_9 rfl ?_
    refine go_callN3 k146_10 rfl rfl rfl ⟨by decide, _, rfl, hK0⟩ ⟨Nat.zero_le _, Nat.zero_le _⟩ (by omega) (tfM_noProcess (by omega) e4 hK0  h2) (fun y7 g9 r8 e10 => ?_)
    refine go_ifeq k146_13 (inR_b r8) (fun c11 => ?_) (fun c12 => ?_)
    · refine go_aload k146_16 rfl ?_
      refine go_aload k146_17 rfl ?_
      refine go_iload k146_18 rfl ?_
      refine go_callP3 k146_19 rfl rfl rfl ⟨by decide, _, rfl, hK0⟩ ⟨Nat.zero_le _, Nat.zero_le _⟩ (by omega) (tfM_isGone (by omega) e10 hK0  h1) (fun y13 r14 => ?_)
      refine go_ifeq k146_22 (inR_b r14) (fun c17 => ?_) (fun c18 => ?_)
      · refine go_aload k146_25 rfl ?_
        refine go_iload k146_26 rfl ?_
        refine go_callP3 k146_27 rfl rfl rfl ⟨by decide, _, rfl, hK0⟩ ⟨Nat.zero_le _, Nat.zero_le _⟩ (by omega) (tfM_isGone (by omega) e10 hK0  h2) (fun y19 r20 => ?_)
        refine go_ifeq k146_30 (inR_b r20) (fun c23 => ?_) (fun c24 => ?_)
        · refine go_int k146_37 0 rfl ?_
          exact tjM_anyGone_38 hd e10 (rfR_kd hK0 (by decide)) (Or.inl rfl) (some (sR v0)) rfl (some (sI v1)) rfl (some (sI v2)) rfl
        · exact tjM_anyGone_33 hd e10 (rfR_kd hK0 (by decide)) (some (sR v0)) rfl (some (sI v1)) rfl (some (sI v2)) rfl
      · exact tjM_anyGone_33 hd e10 (rfR_kd hK0 (by decide)) (some (sR v0)) rfl (some (sI v1)) rfl (some (sI v2)) rfl
    · refine go_int k146_45 1 rfl ?_
      refine go_goto k146_46 ?_
      exact go_bret k146_50 e10 (Or.inr rfl) ⟨Nat.zero_le _, Nat.zero_le _⟩ rfl
  · refine go_int k146_45 1 rfl ?_
    refine go_goto k146_46 ?_
    exact go_bret k146_50 e4 (Or.inr rfl) ⟨Nat.zero_le _, Nat.zero_le _⟩ rfl
theorem tfM_meet {Φ : ev_P} {d : Nat} (hd : 3 ≤ d) {g : gH} (hg : HR g) {v0 v1 v2 : Int} (hK0 : kd v0 = 7) (h1 : InR v1) (h2 : InR v2) : Go Φ pr_P fN 1 (fM_meet g v0 v1 v2) d (pr_P 147) 0 (ev_loc (pr_P 147).1 [(sR v0), (sI v1), (sI v2)]) [] g 0 0 := by
  show Go Φ pr_P fN 1 (fM_meet g v0 v1 v2) d pr_m147 0 [some (sR v0), some (sI v1), some (sI v2)] [] g 0 0
  unfold fM_meet
  refine go_aload k147_0 rfl ?_
  refine go_iload k147_1 rfl ?_
  refine go_iload k147_2 rfl ?_
  refine go_callN3 k147_3 rfl rfl rfl ⟨by decide, _, rfl, hK0⟩ ⟨Nat.zero_le _, Nat.zero_le _⟩ (by omega) (tfM_anyGone (by omega) hg hK0  h1 h2) (fun y1 g3 r2 e4 => ?_)
  refine go_ifeq k147_6 (inR_b r2) (fun c5 => ?_) (fun c6 => ?_)
  · refine go_aload k147_13 rfl ?_
    refine go_iload k147_14 rfl ?_
    refine go_iload k147_15 rfl ?_
    refine go_callP1 k147_16 rfl rfl rfl ⟨by decide, _, rfl, hK0⟩ ⟨Nat.zero_le _, Nat.zero_le _⟩ (by omega) (tfM_meets (by omega) e4 hK0  h1 h2) (fun y7 r8 => ?_)
    exact go_iret k147_19 e4 r8 ⟨Nat.zero_le _, Nat.zero_le _⟩ rfl
  · refine go_int k147_9 0 rfl ?_
    refine go_goto k147_10 ?_
    exact go_iret k147_19 e4 (inR_b (Or.inl rfl)) ⟨Nat.zero_le _, Nat.zero_le _⟩ rfl
theorem tfM_apart {Φ : ev_P} {d : Nat} (hd : 3 ≤ d) {g : gH} (hg : HR g) {v0 v1 v2 : Int} (hK0 : kd v0 = 7) (h1 : InR v1) (h2 : InR v2) : Go Φ pr_P fN 1 (fM_apart g v0 v1 v2) d (pr_P 148) 0 (ev_loc (pr_P 148).1 [(sR v0), (sI v1), (sI v2)]) [] g 0 0 := by
  show Go Φ pr_P fN 1 (fM_apart g v0 v1 v2) d pr_m148 0 [some (sR v0), some (sI v1), some (sI v2)] [] g 0 0
  unfold fM_apart
  refine go_aload k148_0 rfl ?_
  refine go_iload k148_1 rfl ?_
  refine go_iload k148_2 rfl ?_
  refine go_callN3 k148_3 rfl rfl rfl ⟨by decide, _, rfl, hK0⟩ ⟨Nat.zero_le _, Nat.zero_le _⟩ (by omega) (tfM_anyGone (by omega) hg hK0  h1 h2) (fun y1 g3 r2 e4 => ?_)
  refine go_ifeq k148_6 (inR_b r2) (fun c5 => ?_) (fun c6 => ?_)
  · refine go_aload k148_13 rfl ?_
    refine go_iload k148_14 rfl ?_
    refine go_callP1 k148_15 rfl rfl rfl ⟨by decide, _, rfl, hK0⟩ ⟨Nat.zero_le _, Nat.zero_le _⟩ (by omega) (tfM_deep (by omega) e4 hK0  h1) (fun y7 r8 => ?_)
    refine go_aload k148_18 rfl ?_
    refine go_iload k148_19 rfl ?_
    refine go_callP1 k148_20 rfl rfl rfl ⟨by decide, _, rfl, hK0⟩ ⟨Nat.zero_le _, Nat.zero_le _⟩ (by omega) (tfM_deep (by omega) e4 hK0  h2) (fun y11 r12 => ?_)
    refine go_iadd k148_23 ?_
    refine go_int k148_24 2 rfl ?_
    refine go_aload k148_25 rfl ?_
    refine go_aload k148_26 rfl ?_
    refine go_iload k148_27 rfl ?_
    refine go_iload k148_28 rfl ?_
    refine go_callP1 k148_29 rfl rfl rfl ⟨by decide, _, rfl, hK0⟩ ⟨Nat.zero_le _, Nat.zero_le _⟩ (by omega) (tfM_meets (by omega) e4 hK0  h1 h2) (fun y15 r16 => ?_)
    refine go_callP1 k148_32 rfl rfl rfl ⟨by decide, _, rfl, hK0⟩ ⟨Nat.zero_le _, Nat.zero_le _⟩ (by omega) (tfM_deep (by omega) e4 hK0  r16) (fun y19 r20 => ?_)
    refine go_ibin k148_35 ?_
    refine go_isub k148_36 ?_
    exact go_iret k148_37 e4 (inR_w32 _) ⟨Nat.zero_le _, Nat.zero_le _⟩ rfl
  · refine go_int k148_9 0 rfl ?_
    refine go_goto k148_10 ?_
    exact go_iret k148_37 e4 (inR_b (Or.inl rfl)) ⟨Nat.zero_le _, Nat.zero_le _⟩ rfl
theorem tbM_belowOf_4 {Φ : ev_P} {d : Nat} (hd : 1 ≤ d) {g : gH} (hg : HR g) {v0 v1 : Int} (hK0 : kd v0 = 7) (h1 : InR v1) {X4 : Int → Int → Option Int} (HX4 : ∀ (v2 : Int) (h2 : InR v2) (v3 : Int) (h3 : InR v3), Go Φ pr_P (fP g) 1 (X4 v2 v3) d pr_m149 4 [some (sR v0), some (sI v1), some (sI v2), some (sI v3)] [] g 0 0) : ∀ (v2 : Int) (h2 : InR v2) (v3 : Int) (h3 : InR v3), Go Φ pr_P (fP g) 1 (bM_belowOf_4 g v0 v1 X4 v2 v3) d pr_m149 4 [some (sR v0), some (sI v1), some (sI v2), some (sI v3)] [] g 0 0 := by
  intro v2 h2 v3 h3
  unfold bM_belowOf_4
  refine go_iload k149_4 rfl ?_
  refine go_aload k149_5 rfl ?_
  refine go_getR (bI := 0) k149_6 hg hK0 (by decide) rfl rfl (fun r1 => ?_)
  refine go_int k149_9 0 rfl ?_
  refine go_ck (fun q3 => ?_)
  refine go_iald k149_10 hg q3 (fun r2 => ?_)
  refine go_cmlt k149_11 h3 r2 (fun c4 => ?_) (fun c5 => ?_)
  · refine go_iload k149_14 rfl ?_
    refine go_aload k149_15 rfl ?_
    refine go_iload k149_16 rfl ?_
    refine go_callP3 k149_17 rfl rfl rfl ⟨by decide, _, rfl, hK0⟩ ⟨Nat.zero_le _, Nat.zero_le _⟩ (by omega) (tfM_runs (by omega) hg hK0  h3) (fun y6 r7 => ?_)
    refine go_ifeq k149_20 (inR_b r7) (fun c10 => ?_) (fun c11 => ?_)
    · refine go_int k149_36 0 rfl ?_
      refine go_iadd k149_37 ?_
      refine go_istore k149_38 rfl (loc2 := [some (sR v0), some (sI v1), some (sI (w32 (v2 + 0))), some (sI v3)]) rfl ?_
      refine go_iinc k149_39 rfl rfl 1 rfl (loc2 := [some (sR v0), some (sI v1), some (sI (w32 (v2 + 0))), some (sI (w32 (v3 + 1)))]) rfl ?_
      refine go_goto k149_42 ?_
      exact HX4 (w32 (v2 + 0)) (inR_w32 _) (w32 (v3 + 1)) (inR_w32 _)
    · refine go_aload k149_23 rfl ?_
      refine go_iload k149_24 rfl ?_
      refine go_iload k149_25 rfl ?_
      refine go_callP3 k149_26 rfl rfl rfl ⟨by decide, _, rfl, hK0⟩ ⟨Nat.zero_le _, Nat.zero_le _⟩ (by omega) (tfM_isOver (by omega) hg hK0  h1 h3) (fun y12 r13 => ?_)
      refine go_ifeq k149_29 (inR_b r13) (fun c16 => ?_) (fun c17 => ?_)
      · refine go_int k149_36 0 rfl ?_
        refine go_iadd k149_37 ?_
        refine go_istore k149_38 rfl (loc2 := [some (sR v0), some (sI v1), some (sI (w32 (v2 + 0))), some (sI v3)]) rfl ?_
        refine go_iinc k149_39 rfl rfl 1 rfl (loc2 := [some (sR v0), some (sI v1), some (sI (w32 (v2 + 0))), some (sI (w32 (v3 + 1)))]) rfl ?_
        refine go_goto k149_42 ?_
        exact HX4 (w32 (v2 + 0)) (inR_w32 _) (w32 (v3 + 1)) (inR_w32 _)
      · refine go_int k149_32 1 rfl ?_
        refine go_goto k149_33 ?_
        refine go_iadd k149_37 ?_
        refine go_istore k149_38 rfl (loc2 := [some (sR v0), some (sI v1), some (sI (w32 (v2 + 1))), some (sI v3)]) rfl ?_
        refine go_iinc k149_39 rfl rfl 1 rfl (loc2 := [some (sR v0), some (sI v1), some (sI (w32 (v2 + 1))), some (sI (w32 (v3 + 1)))]) rfl ?_
        refine go_goto k149_42 ?_
        exact HX4 (w32 (v2 + 1)) (inR_w32 _) (w32 (v3 + 1)) (inR_w32 _)
  · refine go_iload k149_45 rfl ?_
    exact go_iret k149_46 hg h2 ⟨Nat.zero_le _, Nat.zero_le _⟩ rfl
theorem tlM_belowOf_4 {Φ : ev_P} {d : Nat} (hd : 1 ≤ d) {g : gH} (hg : HR g) {v0 v1 : Int} (hK0 : kd v0 = 7) (h1 : InR v1) : ∀ n : Nat, ∀ (v2 : Int) (h2 : InR v2) (v3 : Int) (h3 : InR v3), Go Φ pr_P (fP g) 1 (lM_belowOf_4 g v0 v1 n v2 v3) d pr_m149 4 [some (sR v0), some (sI v1), some (sI v2), some (sI v3)] [] g 0 0 := by
  intro n
  induction n with
  | zero => intros; exact go_none
  | succ n ih => exact tbM_belowOf_4 hd hg hK0 h1 ih
theorem tfM_belowOf {Φ : ev_P} {d : Nat} (hd : 1 ≤ d) {g : gH} (hg : HR g) {v0 v1 : Int} (hK0 : kd v0 = 7) (h1 : InR v1) : Go Φ pr_P (fP g) 1 (fM_belowOf g v0 v1) d (pr_P 149) 0 (ev_loc (pr_P 149).1 [(sR v0), (sI v1)]) [] g 0 0 := by
  show Go Φ pr_P (fP g) 1 (fM_belowOf g v0 v1) d pr_m149 0 [some (sR v0), some (sI v1), none, none] [] g 0 0
  unfold fM_belowOf
  refine go_int k149_0 0 rfl ?_
  refine go_istore k149_1 rfl (loc2 := [some (sR v0), some (sI v1), some (sI 0), none]) rfl ?_
  refine go_int k149_2 1 rfl ?_
  refine go_istore k149_3 rfl (loc2 := [some (sR v0), some (sI v1), some (sI 0), some (sI 1)]) rfl ?_
  exact tlM_belowOf_4 hd hg hK0 h1 fu 0 (inR_b (Or.inl rfl)) 1 (inR_b (Or.inr rfl))
theorem tfM_below {Φ : ev_P} {d : Nat} (hd : 2 ≤ d) {g : gH} (hg : HR g) {v0 v1 : Int} (hK0 : kd v0 = 7) (h1 : InR v1) : Go Φ pr_P fN 1 (fM_below g v0 v1) d (pr_P 150) 0 (ev_loc (pr_P 150).1 [(sR v0), (sI v1)]) [] g 0 0 := by
  show Go Φ pr_P fN 1 (fM_below g v0 v1) d pr_m150 0 [some (sR v0), some (sI v1)] [] g 0 0
  unfold fM_below
  refine go_aload k150_0 rfl ?_
  refine go_iload k150_1 rfl ?_
  refine go_callN3 k150_2 rfl rfl rfl ⟨by decide, _, rfl, hK0⟩ ⟨Nat.zero_le _, Nat.zero_le _⟩ (by omega) (tfM_noProcess (by omega) hg hK0  h1) (fun y1 g3 r2 e4 => ?_)
  refine go_ifeq k150_5 (inR_b r2) (fun c5 => ?_) (fun c6 => ?_)
  · refine go_aload k150_8 rfl ?_
    refine go_iload k150_9 rfl ?_
    refine go_callP3 k150_10 rfl rfl rfl ⟨by decide, _, rfl, hK0⟩ ⟨Nat.zero_le _, Nat.zero_le _⟩ (by omega) (tfM_runs (by omega) e4 hK0  h1) (fun y7 r8 => ?_)
    refine go_ifeq k150_13 (inR_b r8) (fun c11 => ?_) (fun c12 => ?_)
    · refine go_int k150_16 0 rfl ?_
      refine go_goto k150_17 ?_
      exact go_iret k150_25 e4 (inR_b (Or.inl rfl)) ⟨Nat.zero_le _, Nat.zero_le _⟩ rfl
    · refine go_aload k150_20 rfl ?_
      refine go_iload k150_21 rfl ?_
      refine go_callP1 k150_22 rfl rfl rfl ⟨by decide, _, rfl, hK0⟩ ⟨Nat.zero_le _, Nat.zero_le _⟩ (by omega) (tfM_belowOf (by omega) e4 hK0  h1) (fun y13 r14 => ?_)
      exact go_iret k150_25 e4 r14 ⟨Nat.zero_le _, Nat.zero_le _⟩ rfl
  · refine go_int k150_16 0 rfl ?_
    refine go_goto k150_17 ?_
    exact go_iret k150_25 e4 (inR_b (Or.inl rfl)) ⟨Nat.zero_le _, Nat.zero_le _⟩ rfl
theorem tbM_runningMany_4 {Φ : ev_P} {d : Nat} (hd : 1 ≤ d) {g : gH} (hg : HR g) {v0 : Int} (hK0 : kd v0 = 7) {X4 : Int → Int → Option Int} (HX4 : ∀ (v1 : Int) (h1 : InR v1) (v2 : Int) (h2 : InR v2), Go Φ pr_P (fP g) 1 (X4 v1 v2) d pr_m90 4 [some (sR v0), some (sI v1), some (sI v2)] [] g 0 0) : ∀ (v1 : Int) (h1 : InR v1) (v2 : Int) (h2 : InR v2), Go Φ pr_P (fP g) 1 (bM_runningMany_4 g v0 X4 v1 v2) d pr_m90 4 [some (sR v0), some (sI v1), some (sI v2)] [] g 0 0 := by
  intro v1 h1 v2 h2
  unfold bM_runningMany_4
  refine go_iload k90_4 rfl ?_
  refine go_aload k90_5 rfl ?_
  refine go_getR (bI := 0) k90_6 hg hK0 (by decide) rfl rfl (fun r1 => ?_)
  refine go_int k90_9 0 rfl ?_
  refine go_ck (fun q3 => ?_)
  refine go_iald k90_10 hg q3 (fun r2 => ?_)
  refine go_cmlt k90_11 h2 r2 (fun c4 => ?_) (fun c5 => ?_)
  · refine go_iload k90_14 rfl ?_
    refine go_aload k90_15 rfl ?_
    refine go_iload k90_16 rfl ?_
    refine go_callP3 k90_17 rfl rfl rfl ⟨by decide, _, rfl, hK0⟩ ⟨Nat.zero_le _, Nat.zero_le _⟩ (by omega) (tfM_runs (by omega) hg hK0  h2) (fun y6 r7 => ?_)
    refine go_ifeq k90_20 (inR_b r7) (fun c10 => ?_) (fun c11 => ?_)
    · refine go_int k90_27 0 rfl ?_
      refine go_iadd k90_28 ?_
      refine go_istore k90_29 rfl (loc2 := [some (sR v0), some (sI (w32 (v1 + 0))), some (sI v2)]) rfl ?_
      refine go_iinc k90_30 rfl rfl 1 rfl (loc2 := [some (sR v0), some (sI (w32 (v1 + 0))), some (sI (w32 (v2 + 1)))]) rfl ?_
      refine go_goto k90_33 ?_
      exact HX4 (w32 (v1 + 0)) (inR_w32 _) (w32 (v2 + 1)) (inR_w32 _)
    · refine go_int k90_23 1 rfl ?_
      refine go_goto k90_24 ?_
      refine go_iadd k90_28 ?_
      refine go_istore k90_29 rfl (loc2 := [some (sR v0), some (sI (w32 (v1 + 1))), some (sI v2)]) rfl ?_
      refine go_iinc k90_30 rfl rfl 1 rfl (loc2 := [some (sR v0), some (sI (w32 (v1 + 1))), some (sI (w32 (v2 + 1)))]) rfl ?_
      refine go_goto k90_33 ?_
      exact HX4 (w32 (v1 + 1)) (inR_w32 _) (w32 (v2 + 1)) (inR_w32 _)
  · refine go_iload k90_36 rfl ?_
    exact go_iret k90_37 hg h1 ⟨Nat.zero_le _, Nat.zero_le _⟩ rfl
theorem tlM_runningMany_4 {Φ : ev_P} {d : Nat} (hd : 1 ≤ d) {g : gH} (hg : HR g) {v0 : Int} (hK0 : kd v0 = 7) : ∀ n : Nat, ∀ (v1 : Int) (h1 : InR v1) (v2 : Int) (h2 : InR v2), Go Φ pr_P (fP g) 1 (lM_runningMany_4 g v0 n v1 v2) d pr_m90 4 [some (sR v0), some (sI v1), some (sI v2)] [] g 0 0 := by
  intro n
  induction n with
  | zero => intros; exact go_none
  | succ n ih => exact tbM_runningMany_4 hd hg hK0 ih
theorem tfM_runningMany {Φ : ev_P} {d : Nat} (hd : 1 ≤ d) {g : gH} (hg : HR g) {v0 : Int} (hK0 : kd v0 = 7) : Go Φ pr_P (fP g) 1 (fM_runningMany g v0) d (pr_P 90) 0 (ev_loc (pr_P 90).1 [(sR v0)]) [] g 0 0 := by
  show Go Φ pr_P (fP g) 1 (fM_runningMany g v0) d pr_m90 0 [some (sR v0), none, none] [] g 0 0
  unfold fM_runningMany
  refine go_int k90_0 0 rfl ?_
  refine go_istore k90_1 rfl (loc2 := [some (sR v0), some (sI 0), none]) rfl ?_
  refine go_int k90_2 0 rfl ?_
  refine go_istore k90_3 rfl (loc2 := [some (sR v0), some (sI 0), some (sI 0)]) rfl ?_
  exact tlM_runningMany_4 hd hg hK0 fu 0 (inR_b (Or.inl rfl)) 0 (inR_b (Or.inl rfl))
theorem tjM_nextChild_28 {Φ : ev_P} {d : Nat} (hd : 1 ≤ d) {g : gH} (hg : HR g) {v0 v3 : Int} (hK0 : kd v0 = 7) (h3 : InR v3) (u1 : Option ev_V) (w1 : nwo u1) (u2 : Option ev_V) (w2 : nwo u2) : Go Φ pr_P (fP g) 1 (jM_nextChild_28 g v0 v3 ) d pr_m152 28 [some (sR v0), u1, u2, some (sI v3)] [] g 0 0 := by
  unfold jM_nextChild_28
  refine go_iload k152_28 rfl ?_
  refine go_aload k152_29 rfl ?_
  refine go_getR (bI := 0) k152_30 hg hK0 (by decide) rfl rfl (fun r12 => ?_)
  refine go_int k152_33 0 rfl ?_
  refine go_ck (fun q14 => ?_)
  refine go_iald k152_34 hg q14 (fun r13 => ?_)
  refine go_cmlt k152_35 h3 r13 (fun c15 => ?_) (fun c16 => ?_)
  · refine go_iload k152_38 rfl ?_
    refine go_goto k152_39 ?_
    exact go_iret k152_43 hg h3 ⟨Nat.zero_le _, Nat.zero_le _⟩ rfl
  · refine go_int k152_42 (-1) rfl ?_
    exact go_iret k152_43 hg (inR_of (by decide)) ⟨Nat.zero_le _, Nat.zero_le _⟩ rfl
theorem tbM_nextChild_2 {Φ : ev_P} {d : Nat} (hd : 1 ≤ d) {g : gH} (hg : HR g) {v0 v1 : Int} (hK0 : kd v0 = 7) (h1 : InR v1) {X2 : Int → Option Int} (HX2 : ∀ (v3 : Int) (h3 : InR v3) (u2 : Option ev_V) (w2 : nwo u2), Go Φ pr_P (fP g) 1 (X2 v3) d pr_m152 2 [some (sR v0), some (sI v1), u2, some (sI v3)] [] g 0 0) : ∀ (v3 : Int) (h3 : InR v3) (u2 : Option ev_V) (w2 : nwo u2), Go Φ pr_P (fP g) 1 (bM_nextChild_2 g v0 v1 X2 v3) d pr_m152 2 [some (sR v0), some (sI v1), u2, some (sI v3)] [] g 0 0 := by
  intro v3 h3 u2 w2
  unfold bM_nextChild_2
  refine go_iload k152_2 rfl ?_
  refine go_aload k152_3 rfl ?_
  refine go_getR (bI := 0) k152_4 hg hK0 (by decide) rfl rfl (fun r1 => ?_)
  refine go_int k152_7 0 rfl ?_
  refine go_ck (fun q3 => ?_)
  refine go_iald k152_8 hg q3 (fun r2 => ?_)
  refine go_cmlt k152_9 h3 r2 (fun c4 => ?_) (fun c5 => ?_)
  · refine go_aload k152_12 rfl ?_
    refine go_iload k152_13 rfl ?_
    refine go_iload k152_14 rfl ?_
    refine go_int k152_15 0 rfl ?_
    refine go_callP3 k152_16 rfl rfl rfl ⟨by decide, _, rfl, hK0⟩ ⟨Nat.zero_le _, Nat.zero_le _⟩ (by omega) (tfM_isChild (by omega) hg hK0  h3 h1 (inR_b (Or.inl rfl))) (fun y6 r7 => ?_)
    refine go_ifeq k152_19 (inR_b r7) (fun c10 => ?_) (fun c11 => ?_)
    · refine go_iinc k152_22 rfl w2 1 rfl (loc2 := [some (sR v0), some (sI v1), u2, some (sI (w32 (v3 + 1)))]) rfl ?_
      refine go_goto k152_25 ?_
      exact HX2 (w32 (v3 + 1)) (inR_w32 _) u2 w2
    · exact tjM_nextChild_28 hd hg hK0 h3 (some (sI v1)) rfl u2 w2
  · exact tjM_nextChild_28 hd hg hK0 h3 (some (sI v1)) rfl u2 w2
theorem tlM_nextChild_2 {Φ : ev_P} {d : Nat} (hd : 1 ≤ d) {g : gH} (hg : HR g) {v0 v1 : Int} (hK0 : kd v0 = 7) (h1 : InR v1) : ∀ n : Nat, ∀ (v3 : Int) (h3 : InR v3) (u2 : Option ev_V) (w2 : nwo u2), Go Φ pr_P (fP g) 1 (lM_nextChild_2 g v0 v1 n v3) d pr_m152 2 [some (sR v0), some (sI v1), u2, some (sI v3)] [] g 0 0 := by
  intro n
  induction n with
  | zero => intros; exact go_none
  | succ n ih => exact tbM_nextChild_2 hd hg hK0 h1 ih
theorem tfM_nextChild {Φ : ev_P} {d : Nat} (hd : 1 ≤ d) {g : gH} (hg : HR g) {v0 v1 v2 : Int} (hK0 : kd v0 = 7) (h1 : InR v1) (h2 : InR v2) : Go Φ pr_P (fP g) 1 (fM_nextChild g v0 v1 v2) d (pr_P 152) 0 (ev_loc (pr_P 152).1 [(sR v0), (sI v1), (sI v2)]) [] g 0 0 := by
  show Go Φ pr_P (fP g) 1 (fM_nextChild g v0 v1 v2) d pr_m152 0 [some (sR v0), some (sI v1), some (sI v2), none] [] g 0 0
  unfold fM_nextChild
  refine go_iload k152_0 rfl ?_
  refine go_istore k152_1 rfl (loc2 := [some (sR v0), some (sI v1), some (sI v2), some (sI v2)]) rfl ?_
  exact tlM_nextChild_2 hd hg hK0 h1 fu v2 h2 (some (sI v2)) rfl
theorem tbM_walkOn_9 {Φ : ev_P} {d : Nat} (hd : 2 ≤ d) {g : gH} (hg : HR g) {v0 : Int} (hK0 : kd v0 = 7) {X9 : Int → Int → Option Int} (HX9 : ∀ (v2 : Int) (h2 : InR v2) (v3 : Int) (h3 : InR v3) (u1 : Option ev_V) (w1 : nwo u1), Go Φ pr_P (fP g) 1 (X9 v2 v3) d pr_m151 9 [some (sR v0), u1, some (sI v2), some (sI v3)] [] g 0 0) : ∀ (v2 : Int) (h2 : InR v2) (v3 : Int) (h3 : InR v3) (u1 : Option ev_V) (w1 : nwo u1), Go Φ pr_P (fP g) 1 (bM_walkOn_9 g v0 X9 v2 v3) d pr_m151 9 [some (sR v0), u1, some (sI v2), some (sI v3)] [] g 0 0 := by
  intro v2 h2 v3 h3 u1 w1
  unfold bM_walkOn_9
  refine go_iload k151_9 rfl ?_
  refine go_int k151_10 (-1) rfl ?_
  refine go_cmeq k151_11 h2 (inR_of (by decide)) (fun c5 => ?_) (fun c6 => ?_)
  · refine go_iload k151_14 rfl ?_
    refine go_ifeq k151_15 h3 (fun c7 => ?_) (fun c8 => ?_)
    · refine go_iload k151_48 rfl ?_
      exact go_iret k151_49 hg h2 ⟨Nat.zero_le _, Nat.zero_le _⟩ rfl
    · refine go_aload k151_18 rfl ?_
      refine go_aload k151_19 rfl ?_
      refine go_getR (bI := 0) k151_20 hg hK0 (by decide) rfl rfl (fun r9 => ?_)
      refine go_int k151_23 60 rfl ?_
      refine go_iload k151_25 rfl ?_
      refine go_iadd k151_26 ?_
      refine go_ck (fun q11 => ?_)
      refine go_iald k151_27 hg q11 (fun r10 => ?_)
      refine go_iload k151_28 rfl ?_
      refine go_int k151_29 1 rfl ?_
      refine go_iadd k151_30 ?_
      refine go_callP1 k151_31 rfl rfl rfl ⟨by decide, _, rfl, hK0⟩ ⟨Nat.zero_le _, Nat.zero_le _⟩ (by omega) (tfM_nextChild (by omega) hg hK0  r10 (inR_w32 _)) (fun y12 r13 => ?_)
      refine go_istore k151_34 w1 (loc2 := [some (sR v0), u1, some (sI y12), some (sI v3)]) rfl ?_
      refine go_aload k151_35 rfl ?_
      refine go_getR (bI := 0) k151_36 hg hK0 (by decide) rfl rfl (fun r16 => ?_)
      refine go_int k151_39 60 rfl ?_
      refine go_iload k151_41 rfl ?_
      refine go_iadd k151_42 ?_
      refine go_ck (fun q18 => ?_)
      refine go_iald k151_43 hg q18 (fun r17 => ?_)
      refine go_istore k151_44 rfl (loc2 := [some (sR v0), u1, some (sI y12), some (sI (g (g v0 0) (w32 (60 + v3))))]) rfl ?_
      refine go_goto k151_45 ?_
      exact HX9 y12 r13 (g (g v0 0) (w32 (60 + v3))) r17 u1 w1
  · refine go_iload k151_48 rfl ?_
    exact go_iret k151_49 hg h2 ⟨Nat.zero_le _, Nat.zero_le _⟩ rfl
theorem tlM_walkOn_9 {Φ : ev_P} {d : Nat} (hd : 2 ≤ d) {g : gH} (hg : HR g) {v0 : Int} (hK0 : kd v0 = 7) : ∀ n : Nat, ∀ (v2 : Int) (h2 : InR v2) (v3 : Int) (h3 : InR v3) (u1 : Option ev_V) (w1 : nwo u1), Go Φ pr_P (fP g) 1 (lM_walkOn_9 g v0 n v2 v3) d pr_m151 9 [some (sR v0), u1, some (sI v2), some (sI v3)] [] g 0 0 := by
  intro n
  induction n with
  | zero => intros; exact go_none
  | succ n ih => exact tbM_walkOn_9 hd hg hK0 ih
theorem tfM_walkOn {Φ : ev_P} {d : Nat} (hd : 2 ≤ d) {g : gH} (hg : HR g) {v0 v1 : Int} (hK0 : kd v0 = 7) (h1 : InR v1) : Go Φ pr_P (fP g) 1 (fM_walkOn g v0 v1) d (pr_P 151) 0 (ev_loc (pr_P 151).1 [(sR v0), (sI v1)]) [] g 0 0 := by
  show Go Φ pr_P (fP g) 1 (fM_walkOn g v0 v1) d pr_m151 0 [some (sR v0), some (sI v1), none, none] [] g 0 0
  unfold fM_walkOn
  refine go_aload k151_0 rfl ?_
  refine go_iload k151_1 rfl ?_
  refine go_int k151_2 0 rfl ?_
  refine go_callP1 k151_3 rfl rfl rfl ⟨by decide, _, rfl, hK0⟩ ⟨Nat.zero_le _, Nat.zero_le _⟩ (by omega) (tfM_nextChild (by omega) hg hK0  h1 (inR_b (Or.inl rfl))) (fun y1 r2 => ?_)
  refine go_istore k151_6 rfl (loc2 := [some (sR v0), some (sI v1), some (sI y1), none]) rfl ?_
  refine go_iload k151_7 rfl ?_
  refine go_istore k151_8 rfl (loc2 := [some (sR v0), some (sI v1), some (sI y1), some (sI v1)]) rfl ?_
  exact tlM_walkOn_9 hd hg hK0 fu y1 r2 v1 h1 (some (sI v1)) rfl
theorem tbM_walked_38 {Φ : ev_P} {d : Nat} (hd : 3 ≤ d) {g : gH} (hg : HR g) {v0 v1 : Int} (hK0 : kd v0 = 7) (h1 : InR v1) {X38 : Int → Int → Option (Int × gH)} (HX38 : ∀ (v2 : Int) (h2 : InR v2) (v3 : Int) (h3 : InR v3), Go Φ pr_P fN 1 (X38 v2 v3) d pr_m153 38 [some (sR v0), some (sI v1), some (sI v2), some (sI v3)] [] g 0 0) : ∀ (v2 : Int) (h2 : InR v2) (v3 : Int) (h3 : InR v3), Go Φ pr_P fN 1 (bM_walked_38 g v0 v1 X38 v2 v3) d pr_m153 38 [some (sR v0), some (sI v1), some (sI v2), some (sI v3)] [] g 0 0 := by
  intro v2 h2 v3 h3
  unfold bM_walked_38
  refine go_iload k153_38 rfl ?_
  refine go_iload k153_39 rfl ?_
  refine go_cmlt k153_40 h3 h1 (fun c20 => ?_) (fun c21 => ?_)
  · refine go_aload k153_43 rfl ?_
    refine go_iload k153_44 rfl ?_
    refine go_callP1 k153_45 rfl rfl rfl ⟨by decide, _, rfl, hK0⟩ ⟨Nat.zero_le _, Nat.zero_le _⟩ (by omega) (tfM_walkOn (by omega) hg hK0  h2) (fun y22 r23 => ?_)
    refine go_istore k153_48 rfl (loc2 := [some (sR v0), some (sI v1), some (sI y22), some (sI v3)]) rfl ?_
    refine go_iinc k153_49 rfl rfl 1 rfl (loc2 := [some (sR v0), some (sI v1), some (sI y22), some (sI (w32 (v3 + 1)))]) rfl ?_
    refine go_goto k153_52 ?_
    exact HX38 y22 r23 (w32 (v3 + 1)) (inR_w32 _)
  · refine go_iload k153_55 rfl ?_
    exact go_iret k153_56 hg h2 ⟨Nat.zero_le _, Nat.zero_le _⟩ rfl
theorem tlM_walked_38 {Φ : ev_P} {d : Nat} (hd : 3 ≤ d) {g : gH} (hg : HR g) {v0 v1 : Int} (hK0 : kd v0 = 7) (h1 : InR v1) : ∀ n : Nat, ∀ (v2 : Int) (h2 : InR v2) (v3 : Int) (h3 : InR v3), Go Φ pr_P fN 1 (lM_walked_38 g v0 v1 n v2 v3) d pr_m153 38 [some (sR v0), some (sI v1), some (sI v2), some (sI v3)] [] g 0 0 := by
  intro n
  induction n with
  | zero => intros; exact go_none
  | succ n ih => exact tbM_walked_38 hd hg hK0 h1 ih
theorem tjM_walked_25 {Φ : ev_P} {d : Nat} (hd : 3 ≤ d) {g : gH} (hg : HR g) {v0 v1 : Int} (hK0 : kd v0 = 7) (h1 : InR v1) {s0 s1 : Int} (z0 : RfR s0) (z1 : B01 s1) (u2 : Option ev_V) (w2 : nwo u2) (u3 : Option ev_V) (w3 : nwo u3) : Go Φ pr_P fN 1 (jM_walked_25 g v0 v1 s0 s1 ) d pr_m153 25 [some (sR v0), some (sI v1), u2, u3] [(sI s1), (sR s0)] g 0 0 := by
  unfold jM_walked_25
  refine go_int k153_25 1 rfl ?_
  refine go_ck (fun q13 => ?_)
  refine go_callN3 k153_26 rfl rfl rfl ⟨by decide, _, rfl, q13⟩ ⟨Nat.zero_le _, Nat.zero_le _⟩ (by omega) (tfM_fails (by omega) hg q13  z1 (inR_b (Or.inr rfl))) (fun y14 g16 r15 e17 => ?_)
  refine go_ifeq k153_29 (inR_b r15) (fun c18 => ?_) (fun c19 => ?_)
  · refine go_int k153_34 0 rfl ?_
    refine go_istore k153_35 rfl (loc2 := [some (sR v0), some (sI v1), some (sI 0), u3]) rfl ?_
    refine go_int k153_36 0 rfl ?_
    refine go_istore k153_37 rfl (loc2 := [some (sR v0), some (sI v1), some (sI 0), some (sI 0)]) rfl ?_
    exact tlM_walked_38 hd e17 hK0 h1 fu 0 (inR_b (Or.inl rfl)) 0 (inR_b (Or.inl rfl))
  · refine go_int k153_32 0 rfl ?_
    exact go_iret k153_33 e17 (inR_b (Or.inl rfl)) ⟨Nat.zero_le _, Nat.zero_le _⟩ rfl
theorem tfM_walked {Φ : ev_P} {d : Nat} (hd : 3 ≤ d) {g : gH} (hg : HR g) {v0 v1 : Int} (hK0 : kd v0 = 7) (h1 : InR v1) : Go Φ pr_P fN 1 (fM_walked g v0 v1) d (pr_P 153) 0 (ev_loc (pr_P 153).1 [(sR v0), (sI v1)]) [] g 0 0 := by
  show Go Φ pr_P fN 1 (fM_walked g v0 v1) d pr_m153 0 [some (sR v0), some (sI v1), none, none] [] g 0 0
  unfold fM_walked
  refine go_aload k153_0 rfl ?_
  refine go_int k153_1 0 rfl ?_
  refine go_putI (bI := 8) k153_2 hg hK0 (by decide) rfl rfl (inR_b (Or.inl rfl)) (fun g1 e2 => ?_)
  refine go_aload k153_5 rfl ?_
  refine go_iload k153_6 rfl ?_
  refine go_int k153_7 0 rfl ?_
  refine go_aload k153_8 rfl ?_
  refine go_callP1 k153_9 rfl rfl rfl ⟨by decide, _, rfl, hK0⟩ ⟨Nat.zero_le _, Nat.zero_le _⟩ (by omega) (tfM_runningMany (by omega) e2 hK0 ) (fun y3 r4 => ?_)
  refine go_int k153_12 1 rfl ?_
  refine go_isub k153_13 ?_
  refine go_callP3 k153_14 rfl rfl rfl trivial ⟨Nat.zero_le _, Nat.zero_le _⟩ (by omega) (tfM_inRange (by omega) e2  h1 (inR_b (Or.inl rfl)) (inR_w32 _)) (fun y7 r8 => ?_)
  refine go_ifeq k153_17 (inR_b r8) (fun c11 => ?_) (fun c12 => ?_)
  · refine go_int k153_20 1 rfl ?_
    refine go_goto k153_21 ?_
    exact tjM_walked_25 hd e2 hK0 h1 (rfR_kd hK0 (by decide)) (Or.inr rfl) none rfl none rfl
  · refine go_int k153_24 0 rfl ?_
    exact tjM_walked_25 hd e2 hK0 h1 (rfR_kd hK0 (by decide)) (Or.inl rfl) none rfl none rfl
theorem tbM_atDepth_9 {Φ : ev_P} {d : Nat} (hd : 1 ≤ d) {g : gH} (hg : HR g) {v0 v1 : Int} (hK0 : kd v0 = 7) (h1 : InR v1) {X9 : Int → Int → Option (Int × gH)} (HX9 : ∀ (v2 : Int) (h2 : InR v2) (v3 : Int) (h3 : InR v3), Go Φ pr_P fN 1 (X9 v2 v3) d pr_m154 9 [some (sR v0), some (sI v1), some (sI v2), some (sI v3)] [] g 0 0) : ∀ (v2 : Int) (h2 : InR v2) (v3 : Int) (h3 : InR v3), Go Φ pr_P fN 1 (bM_atDepth_9 g v0 v1 X9 v2 v3) d pr_m154 9 [some (sR v0), some (sI v1), some (sI v2), some (sI v3)] [] g 0 0 := by
  intro v2 h2 v3 h3
  unfold bM_atDepth_9
  refine go_iload k154_9 rfl ?_
  refine go_aload k154_10 rfl ?_
  refine go_getR (bI := 0) k154_11 hg hK0 (by decide) rfl rfl (fun r3 => ?_)
  refine go_int k154_14 0 rfl ?_
  refine go_ck (fun q5 => ?_)
  refine go_iald k154_15 hg q5 (fun r4 => ?_)
  refine go_cmlt k154_16 h3 r4 (fun c6 => ?_) (fun c7 => ?_)
  · refine go_iload k154_19 rfl ?_
    refine go_aload k154_20 rfl ?_
    refine go_iload k154_21 rfl ?_
    refine go_callP3 k154_22 rfl rfl rfl ⟨by decide, _, rfl, hK0⟩ ⟨Nat.zero_le _, Nat.zero_le _⟩ (by omega) (tfM_runs (by omega) hg hK0  h3) (fun y8 r9 => ?_)
    refine go_ifeq k154_25 (inR_b r9) (fun c12 => ?_) (fun c13 => ?_)
    · refine go_int k154_41 0 rfl ?_
      refine go_iadd k154_42 ?_
      refine go_istore k154_43 rfl (loc2 := [some (sR v0), some (sI v1), some (sI (w32 (v2 + 0))), some (sI v3)]) rfl ?_
      refine go_iinc k154_44 rfl rfl 1 rfl (loc2 := [some (sR v0), some (sI v1), some (sI (w32 (v2 + 0))), some (sI (w32 (v3 + 1)))]) rfl ?_
      refine go_goto k154_47 ?_
      exact HX9 (w32 (v2 + 0)) (inR_w32 _) (w32 (v3 + 1)) (inR_w32 _)
    · refine go_aload k154_28 rfl ?_
      refine go_iload k154_29 rfl ?_
      refine go_callP1 k154_30 rfl rfl rfl ⟨by decide, _, rfl, hK0⟩ ⟨Nat.zero_le _, Nat.zero_le _⟩ (by omega) (tfM_deep (by omega) hg hK0  h3) (fun y14 r15 => ?_)
      refine go_iload k154_33 rfl ?_
      refine go_cmeq k154_34 r15 h1 (fun c18 => ?_) (fun c19 => ?_)
      · refine go_int k154_37 1 rfl ?_
        refine go_goto k154_38 ?_
        refine go_iadd k154_42 ?_
        refine go_istore k154_43 rfl (loc2 := [some (sR v0), some (sI v1), some (sI (w32 (v2 + 1))), some (sI v3)]) rfl ?_
        refine go_iinc k154_44 rfl rfl 1 rfl (loc2 := [some (sR v0), some (sI v1), some (sI (w32 (v2 + 1))), some (sI (w32 (v3 + 1)))]) rfl ?_
        refine go_goto k154_47 ?_
        exact HX9 (w32 (v2 + 1)) (inR_w32 _) (w32 (v3 + 1)) (inR_w32 _)
      · refine go_int k154_41 0 rfl ?_
        refine go_iadd k154_42 ?_
        refine go_istore k154_43 rfl (loc2 := [some (sR v0), some (sI v1), some (sI (w32 (v2 + 0))), some (sI v3)]) rfl ?_
        refine go_iinc k154_44 rfl rfl 1 rfl (loc2 := [some (sR v0), some (sI v1), some (sI (w32 (v2 + 0))), some (sI (w32 (v3 + 1)))]) rfl ?_
        refine go_goto k154_47 ?_
        exact HX9 (w32 (v2 + 0)) (inR_w32 _) (w32 (v3 + 1)) (inR_w32 _)
  · refine go_iload k154_50 rfl ?_
    exact go_iret k154_51 hg h2 ⟨Nat.zero_le _, Nat.zero_le _⟩ rfl
theorem tlM_atDepth_9 {Φ : ev_P} {d : Nat} (hd : 1 ≤ d) {g : gH} (hg : HR g) {v0 v1 : Int} (hK0 : kd v0 = 7) (h1 : InR v1) : ∀ n : Nat, ∀ (v2 : Int) (h2 : InR v2) (v3 : Int) (h3 : InR v3), Go Φ pr_P fN 1 (lM_atDepth_9 g v0 v1 n v2 v3) d pr_m154 9 [some (sR v0), some (sI v1), some (sI v2), some (sI v3)] [] g 0 0 := by
  intro n
  induction n with
  | zero => intros; exact go_none
  | succ n ih => exact tbM_atDepth_9 hd hg hK0 h1 ih
theorem tfM_atDepth {Φ : ev_P} {d : Nat} (hd : 1 ≤ d) {g : gH} (hg : HR g) {v0 v1 : Int} (hK0 : kd v0 = 7) (h1 : InR v1) : Go Φ pr_P fN 1 (fM_atDepth g v0 v1) d (pr_P 154) 0 (ev_loc (pr_P 154).1 [(sR v0), (sI v1)]) [] g 0 0 := by
  show Go Φ pr_P fN 1 (fM_atDepth g v0 v1) d pr_m154 0 [some (sR v0), some (sI v1), none, none] [] g 0 0
  unfold fM_atDepth
  refine go_aload k154_0 rfl ?_
  refine go_int k154_1 0 rfl ?_
  refine go_putI (bI := 8) k154_2 hg hK0 (by decide) rfl rfl (inR_b (Or.inl rfl)) (fun g1 e2 => ?_)
  refine go_int k154_5 0 rfl ?_
  refine go_istore k154_6 rfl (loc2 := [some (sR v0), some (sI v1), some (sI 0), none]) rfl ?_
  refine go_int k154_7 0 rfl ?_
  refine go_istore k154_8 rfl (loc2 := [some (sR v0), some (sI v1), some (sI 0), some (sI 0)]) rfl ?_
  exact tlM_atDepth_9 hd e2 hK0 h1 fu 0 (inR_b (Or.inl rfl)) 0 (inR_b (Or.inl rfl))
theorem tbM_highest_4 {Φ : ev_P} {d : Nat} (hd : 1 ≤ d) {g : gH} (hg : HR g) {v0 : Int} (hK0 : kd v0 = 7) {X4 : Int → Int → Option Int} (HX4 : ∀ (v1 : Int) (h1 : InR v1) (v2 : Int) (h2 : InR v2), Go Φ pr_P (fP g) 1 (X4 v1 v2) d pr_m155 4 [some (sR v0), some (sI v1), some (sI v2)] [] g 0 0) : ∀ (v1 : Int) (h1 : InR v1) (v2 : Int) (h2 : InR v2), Go Φ pr_P (fP g) 1 (bM_highest_4 g v0 X4 v1 v2) d pr_m155 4 [some (sR v0), some (sI v1), some (sI v2)] [] g 0 0 := by
  intro v1 h1 v2 h2
  unfold bM_highest_4
  refine go_iload k155_4 rfl ?_
  refine go_aload k155_5 rfl ?_
  refine go_getR (bI := 0) k155_6 hg hK0 (by decide) rfl rfl (fun r1 => ?_)
  refine go_int k155_9 0 rfl ?_
  refine go_ck (fun q3 => ?_)
  refine go_iald k155_10 hg q3 (fun r2 => ?_)
  refine go_cmlt k155_11 h2 r2 (fun c4 => ?_) (fun c5 => ?_)
  · refine go_aload k155_14 rfl ?_
    refine go_iload k155_15 rfl ?_
    refine go_callP3 k155_16 rfl rfl rfl ⟨by decide, _, rfl, hK0⟩ ⟨Nat.zero_le _, Nat.zero_le _⟩ (by omega) (tfM_runs (by omega) hg hK0  h2) (fun y6 r7 => ?_)
    refine go_ifeq k155_19 (inR_b r7) (fun c10 => ?_) (fun c11 => ?_)
    · refine go_iinc k155_32 rfl rfl 1 rfl (loc2 := [some (sR v0), some (sI v1), some (sI (w32 (v2 + 1)))]) rfl ?_
      refine go_goto k155_35 ?_
      exact HX4 v1 h1 (w32 (v2 + 1)) (inR_w32 _)
    · refine go_iload k155_22 rfl ?_
      refine go_aload k155_23 rfl ?_
      refine go_iload k155_24 rfl ?_
      refine go_callP1 k155_25 rfl rfl rfl ⟨by decide, _, rfl, hK0⟩ ⟨Nat.zero_le _, Nat.zero_le _⟩ (by omega) (tfM_deep (by omega) hg hK0  h2) (fun y12 r13 => ?_)
      refine go_max k155_28 h1 r13 rfl ⟨Nat.zero_le _, Nat.zero_le _⟩ ?_
      refine go_istore k155_31 rfl (loc2 := [some (sR v0), some (sI (gmax v1 y12)), some (sI v2)]) rfl ?_
      refine go_iinc k155_32 rfl rfl 1 rfl (loc2 := [some (sR v0), some (sI (gmax v1 y12)), some (sI (w32 (v2 + 1)))]) rfl ?_
      refine go_goto k155_35 ?_
      exact HX4 (gmax v1 y12) (inR_gmax h1 r13) (w32 (v2 + 1)) (inR_w32 _)
  · refine go_iload k155_38 rfl ?_
    exact go_iret k155_39 hg h1 ⟨Nat.zero_le _, Nat.zero_le _⟩ rfl
theorem tlM_highest_4 {Φ : ev_P} {d : Nat} (hd : 1 ≤ d) {g : gH} (hg : HR g) {v0 : Int} (hK0 : kd v0 = 7) : ∀ n : Nat, ∀ (v1 : Int) (h1 : InR v1) (v2 : Int) (h2 : InR v2), Go Φ pr_P (fP g) 1 (lM_highest_4 g v0 n v1 v2) d pr_m155 4 [some (sR v0), some (sI v1), some (sI v2)] [] g 0 0 := by
  intro n
  induction n with
  | zero => intros; exact go_none
  | succ n ih => exact tbM_highest_4 hd hg hK0 ih
theorem tfM_highest {Φ : ev_P} {d : Nat} (hd : 1 ≤ d) {g : gH} (hg : HR g) {v0 : Int} (hK0 : kd v0 = 7) : Go Φ pr_P (fP g) 1 (fM_highest g v0) d (pr_P 155) 0 (ev_loc (pr_P 155).1 [(sR v0)]) [] g 0 0 := by
  show Go Φ pr_P (fP g) 1 (fM_highest g v0) d pr_m155 0 [some (sR v0), none, none] [] g 0 0
  unfold fM_highest
  refine go_int k155_0 0 rfl ?_
  refine go_istore k155_1 rfl (loc2 := [some (sR v0), some (sI 0), none]) rfl ?_
  refine go_int k155_2 0 rfl ?_
  refine go_istore k155_3 rfl (loc2 := [some (sR v0), some (sI 0), some (sI 0)]) rfl ?_
  exact tlM_highest_4 hd hg hK0 fu 0 (inR_b (Or.inl rfl)) 0 (inR_b (Or.inl rfl))
theorem tfM_height {Φ : ev_P} {d : Nat} (hd : 2 ≤ d) {g : gH} (hg : HR g) {v0 : Int} (hK0 : kd v0 = 7) : Go Φ pr_P fN 1 (fM_height g v0) d (pr_P 156) 0 (ev_loc (pr_P 156).1 [(sR v0)]) [] g 0 0 := by
  show Go Φ pr_P fN 1 (fM_height g v0) d pr_m156 0 [some (sR v0)] [] g 0 0
  unfold fM_height
  refine go_aload k156_0 rfl ?_
  refine go_int k156_1 0 rfl ?_
  refine go_putI (bI := 8) k156_2 hg hK0 (by decide) rfl rfl (inR_b (Or.inl rfl)) (fun g1 e2 => ?_)
  refine go_aload k156_5 rfl ?_
  refine go_callP1 k156_6 rfl rfl rfl ⟨by decide, _, rfl, hK0⟩ ⟨Nat.zero_le _, Nat.zero_le _⟩ (by omega) (tfM_highest (by omega) e2 hK0 ) (fun y3 r4 => ?_)
  exact go_iret k156_9 e2 r4 ⟨Nat.zero_le _, Nat.zero_le _⟩ rfl
theorem tjM_remembers_37 {Φ : ev_P} {d : Nat} (hd : 1 ≤ d) {g : gH} (hg : HR g) {v0 : Int} (hK0 : kd v0 = 7) : Go Φ pr_P fN 0 (jM_remembers_37 g v0 ) d pr_m80 37 [some (sR v0)] [] g 0 0 := by
  unfold jM_remembers_37
  refine go_aload k80_37 rfl ?_
  refine go_getR (bI := 0) k80_38 hg hK0 (by decide) rfl rfl (fun r13 => ?_)
  refine go_int k80_41 0 rfl ?_
  refine go_aload k80_42 rfl ?_
  refine go_getR (bI := 4) k80_43 hg hK0 (by decide) rfl rfl (fun r14 => ?_)
  refine go_int k80_46 780 rfl ?_
  refine go_aload k80_49 rfl ?_
  refine go_getI (bI := 6) k80_50 hg hK0 (by decide) rfl rfl (fun r15 => ?_)
  refine go_ibin k80_53 ?_
  refine go_int k80_54 780 rfl ?_
  refine go_callN0 k80_57 rfl rfl rfl trivial ⟨Nat.zero_le _, Nat.zero_le _⟩ (by omega) (tfM_copies (by omega) hg  r13 (inR_b (Or.inl rfl)) r14 (inR_opI _ _ _) (inR_of (by decide))) (fun y16 g18 e19 => ?_)
  refine go_aload k80_60 rfl ?_
  refine go_dupR k80_61 ?_
  refine go_getI (bI := 6) k80_62 e19 hK0 (by decide) rfl rfl (fun r20 => ?_)
  refine go_int k80_65 1 rfl ?_
  refine go_iadd k80_66 ?_
  refine go_putI (bI := 6) k80_67 e19 hK0 (by decide) rfl rfl (inR_w32 _) (fun g21 e22 => ?_)
  exact go_vret k80_70 e22 ⟨Nat.zero_le _, Nat.zero_le _⟩ rfl
theorem tfM_remembers {Φ : ev_P} {d : Nat} (hd : 1 ≤ d) {g : gH} (hg : HR g) {v0 : Int} (hK0 : kd v0 = 7) : Go Φ pr_P fN 0 (fM_remembers g v0) d (pr_P 80) 0 (ev_loc (pr_P 80).1 [(sR v0)]) [] g 0 0 := by
  show Go Φ pr_P fN 0 (fM_remembers g v0) d pr_m80 0 [some (sR v0)] [] g 0 0
  unfold fM_remembers
  refine go_aload k80_0 rfl ?_
  refine go_getI (bI := 6) k80_1 hg hK0 (by decide) rfl rfl (fun r1 => ?_)
  refine go_int k80_4 10 rfl ?_
  refine go_cmeq k80_6 r1 (inR_of (by decide)) (fun c2 => ?_) (fun c3 => ?_)
  · refine go_aload k80_9 rfl ?_
    refine go_getR (bI := 4) k80_10 hg hK0 (by decide) rfl rfl (fun r4 => ?_)
    refine go_int k80_13 780 rfl ?_
    refine go_aload k80_16 rfl ?_
    refine go_getR (bI := 4) k80_17 hg hK0 (by decide) rfl rfl (fun r5 => ?_)
    refine go_int k80_20 0 rfl ?_
    refine go_int k80_21 7020 rfl ?_
    refine go_callN0 k80_24 rfl rfl rfl trivial ⟨Nat.zero_le _, Nat.zero_le _⟩ (by omega) (tfM_copies (by omega) hg  r4 (inR_of (by decide)) r5 (inR_b (Or.inl rfl)) (inR_of (by decide))) (fun y6 g8 e9 => ?_)
    refine go_aload k80_27 rfl ?_
    refine go_dupR k80_28 ?_
    refine go_getI (bI := 6) k80_29 e9 hK0 (by decide) rfl rfl (fun r10 => ?_)
    refine go_int k80_32 1 rfl ?_
    refine go_isub k80_33 ?_
    refine go_putI (bI := 6) k80_34 e9 hK0 (by decide) rfl rfl (inR_w32 _) (fun g11 e12 => ?_)
    exact tjM_remembers_37 hd e12 hK0
  · exact tjM_remembers_37 hd hg hK0
theorem tfM_isSmall {Φ : ev_P} {d : Nat} (hd : 1 ≤ d) {g : gH} (hg : HR g) {v0 : Int} (h0 : InR v0) : Go Φ pr_P (fP g) 3 (fM_isSmall g v0) d (pr_P 157) 0 (ev_loc (pr_P 157).1 [(sI v0)]) [] g 0 0 := by
  show Go Φ pr_P (fP g) 3 (fM_isSmall g v0) d pr_m157 0 [some (sI v0)] [] g 0 0
  unfold fM_isSmall
  refine go_iload k157_0 rfl ?_
  refine go_int k157_1 0 rfl ?_
  refine go_int k157_2 9 rfl ?_
  refine go_callP3 k157_4 rfl rfl rfl trivial ⟨Nat.zero_le _, Nat.zero_le _⟩ (by omega) (tfM_inRange (by omega) hg  h0 (inR_b (Or.inl rfl)) (inR_of (by decide))) (fun y1 r2 => ?_)
  exact go_bret k157_7 hg r2 ⟨Nat.zero_le _, Nat.zero_le _⟩ rfl
theorem tjM_spawn_70 {Φ : ev_P} {d : Nat} (hd : 3 ≤ d) {g : gH} (hg : HR g) {v0 v1 v2 v3 v4 : Int} (hK0 : kd v0 = 7) (h1 : InR v1) (h2 : InR v2) (h3 : InR v3) (h4 : InR v4) {s0 s1 : Int} (z0 : RfR s0) (z1 : B01 s1) : Go Φ pr_P fN 1 (jM_spawn_70 g v0 v1 v2 v3 v4 s0 s1 ) d pr_m158 70 [some (sR v0), some (sI v1), some (sI v2), some (sI v3), some (sI v4)] [(sI s1), (sR s0)] g 0 0 := by
  unfold jM_spawn_70
  refine go_int k158_70 3 rfl ?_
  refine go_ck (fun q43 => ?_)
  refine go_callN3 k158_71 rfl rfl rfl ⟨by decide, _, rfl, q43⟩ ⟨Nat.zero_le _, Nat.zero_le _⟩ (by omega) (tfM_fails (by omega) hg q43  z1 (inR_of (by decide))) (fun y44 g46 r45 e47 => ?_)
  refine go_ifeq k158_74 (inR_b r45) (fun c48 => ?_) (fun c49 => ?_)
  · refine go_aload k158_79 rfl ?_
    refine go_callN0 k158_80 rfl rfl rfl ⟨by decide, _, rfl, hK0⟩ ⟨Nat.zero_le _, Nat.zero_le _⟩ (by omega) (tfM_remembers (by omega) e47 hK0 ) (fun y50 g52 e53 => ?_)
    refine go_aload k158_83 rfl ?_
    refine go_iload k158_84 rfl ?_
    refine go_iload k158_85 rfl ?_
    refine go_iload k158_86 rfl ?_
    refine go_iload k158_87 rfl ?_
    refine go_callN1 k158_89 rfl rfl rfl ⟨by decide, _, rfl, hK0⟩ ⟨Nat.zero_le _, Nat.zero_le _⟩ (by omega) (tfM_comes (by omega) e53 hK0  h1 h2 h3 h4) (fun y54 g56 r55 e57 => ?_)
    exact go_iret k158_92 e57 r55 ⟨Nat.zero_le _, Nat.zero_le _⟩ rfl
  · refine go_int k158_77 0 rfl ?_
    exact go_iret k158_78 e47 (inR_b (Or.inl rfl)) ⟨Nat.zero_le _, Nat.zero_le _⟩ rfl
theorem tjM_spawn_65 {Φ : ev_P} {d : Nat} (hd : 3 ≤ d) {g : gH} (hg : HR g) {v0 v1 v2 v3 v4 : Int} (hK0 : kd v0 = 7) (h1 : InR v1) (h2 : InR v2) (h3 : InR v3) (h4 : InR v4) {s0 : Int} (z0 : RfR s0) : Go Φ pr_P fN 1 (jM_spawn_65 g v0 v1 v2 v3 v4 s0 ) d pr_m158 65 [some (sR v0), some (sI v1), some (sI v2), some (sI v3), some (sI v4)] [(sR s0)] g 0 0 := by
  unfold jM_spawn_65
  refine go_int k158_65 1 rfl ?_
  refine go_goto k158_66 ?_
  exact tjM_spawn_70 hd hg hK0 h1 h2 h3 h4 z0 (Or.inr rfl)
theorem tjM_spawn_36 {Φ : ev_P} {d : Nat} (hd : 3 ≤ d) {g : gH} (hg : HR g) {v0 v1 v2 v3 v4 : Int} (hK0 : kd v0 = 7) (h1 : InR v1) (h2 : InR v2) (h3 : InR v3) (h4 : InR v4) {s0 s1 : Int} (z0 : RfR s0) (z1 : B01 s1) : Go Φ pr_P fN 1 (jM_spawn_36 g v0 v1 v2 v3 v4 s0 s1 ) d pr_m158 36 [some (sR v0), some (sI v1), some (sI v2), some (sI v3), some (sI v4)] [(sI s1), (sR s0)] g 0 0 := by
  unfold jM_spawn_36
  refine go_int k158_36 2 rfl ?_
  refine go_ck (fun q25 => ?_)
  refine go_callN3 k158_37 rfl rfl rfl ⟨by decide, _, rfl, q25⟩ ⟨Nat.zero_le _, Nat.zero_le _⟩ (by omega) (tfM_fails (by omega) hg q25  z1 (inR_of (by decide))) (fun y26 g28 r27 e29 => ?_)
  refine go_ifeq k158_40 (inR_b r27) (fun c30 => ?_) (fun c31 => ?_)
  · refine go_aload k158_45 rfl ?_
    refine go_aload k158_46 rfl ?_
    refine go_iload k158_47 rfl ?_
    refine go_callP1 k158_48 rfl rfl rfl ⟨by decide, _, rfl, hK0⟩ ⟨Nat.zero_le _, Nat.zero_le _⟩ (by omega) (tfM_roomOf (by omega) e29 hK0  h1) (fun y32 r33 => ?_)
    refine go_ifeq k158_51 r33 (fun c36 => ?_) (fun c37 => ?_)
    · exact tjM_spawn_65 hd e29 hK0 h1 h2 h3 h4 (rfR_kd hK0 (by decide))
    · refine go_aload k158_54 rfl ?_
      refine go_getR (bI := 0) k158_55 e29 hK0 (by decide) rfl rfl (fun r38 => ?_)
      refine go_int k158_58 0 rfl ?_
      refine go_ck (fun q40 => ?_)
      refine go_iald k158_59 e29 q40 (fun r39 => ?_)
      refine go_int k158_60 40 rfl ?_
      refine go_cmeq k158_62 r39 (inR_of (by decide)) (fun c41 => ?_) (fun c42 => ?_)
      · exact tjM_spawn_65 hd e29 hK0 h1 h2 h3 h4 (rfR_kd hK0 (by decide))
      · refine go_int k158_69 0 rfl ?_
        exact tjM_spawn_70 hd e29 hK0 h1 h2 h3 h4 (rfR_kd hK0 (by decide)) (Or.inl rfl)
  · refine go_int k158_43 0 rfl ?_
    exact go_iret k158_44 e29 (inR_b (Or.inl rfl)) ⟨Nat.zero_le _, Nat.zero_le _⟩ rfl
theorem tjM_spawn_31 {Φ : ev_P} {d : Nat} (hd : 3 ≤ d) {g : gH} (hg : HR g) {v0 v1 v2 v3 v4 : Int} (hK0 : kd v0 = 7) (h1 : InR v1) (h2 : InR v2) (h3 : InR v3) (h4 : InR v4) {s0 : Int} (z0 : RfR s0) : Go Φ pr_P fN 1 (jM_spawn_31 g v0 v1 v2 v3 v4 s0 ) d pr_m158 31 [some (sR v0), some (sI v1), some (sI v2), some (sI v3), some (sI v4)] [(sR s0)] g 0 0 := by
  unfold jM_spawn_31
  refine go_int k158_31 1 rfl ?_
  refine go_goto k158_32 ?_
  exact tjM_spawn_36 hd hg hK0 h1 h2 h3 h4 z0 (Or.inr rfl)
theorem tfM_spawn {Φ : ev_P} {d : Nat} (hd : 3 ≤ d) {g : gH} (hg : HR g) {v0 v1 v2 v3 v4 : Int} (hK0 : kd v0 = 7) (h1 : InR v1) (h2 : InR v2) (h3 : InR v3) (h4 : InR v4) : Go Φ pr_P fN 1 (fM_spawn g v0 v1 v2 v3 v4) d (pr_P 158) 0 (ev_loc (pr_P 158).1 [(sR v0), (sI v1), (sI v2), (sI v3), (sI v4)]) [] g 0 0 := by
  show Go Φ pr_P fN 1 (fM_spawn g v0 v1 v2 v3 v4) d pr_m158 0 [some (sR v0), some (sI v1), some (sI v2), some (sI v3), some (sI v4)] [] g 0 0
  unfold fM_spawn
  refine go_aload k158_0 rfl ?_
  refine go_iload k158_1 rfl ?_
  refine go_callN3 k158_2 rfl rfl rfl ⟨by decide, _, rfl, hK0⟩ ⟨Nat.zero_le _, Nat.zero_le _⟩ (by omega) (tfM_noProcess (by omega) hg hK0  h1) (fun y1 g3 r2 e4 => ?_)
  refine go_ifeq k158_5 (inR_b r2) (fun c5 => ?_) (fun c6 => ?_)
  · refine go_aload k158_8 rfl ?_
    refine go_iload k158_9 rfl ?_
    refine go_callP3 k158_10 rfl rfl rfl trivial ⟨Nat.zero_le _, Nat.zero_le _⟩ (by omega) (tfM_isSmall (by omega) e4  h2) (fun y7 r8 => ?_)
    refine go_ifeq k158_13 (inR_b r8) (fun c11 => ?_) (fun c12 => ?_)
    · exact tjM_spawn_31 hd e4 hK0 h1 h2 h3 h4 (rfR_kd hK0 (by decide))
    · refine go_iload k158_16 rfl ?_
      refine go_callP3 k158_17 rfl rfl rfl trivial ⟨Nat.zero_le _, Nat.zero_le _⟩ (by omega) (tfM_isSmall (by omega) e4  h3) (fun y13 r14 => ?_)
      refine go_ifeq k158_20 (inR_b r14) (fun c17 => ?_) (fun c18 => ?_)
      · exact tjM_spawn_31 hd e4 hK0 h1 h2 h3 h4 (rfR_kd hK0 (by decide))
      · refine go_iload k158_23 rfl ?_
        refine go_callP3 k158_25 rfl rfl rfl trivial ⟨Nat.zero_le _, Nat.zero_le _⟩ (by omega) (tfM_isSmall (by omega) e4  h4) (fun y19 r20 => ?_)
        refine go_ifeq k158_28 (inR_b r20) (fun c23 => ?_) (fun c24 => ?_)
        · exact tjM_spawn_31 hd e4 hK0 h1 h2 h3 h4 (rfR_kd hK0 (by decide))
        · refine go_int k158_35 0 rfl ?_
          exact tjM_spawn_36 hd e4 hK0 h1 h2 h3 h4 (rfR_kd hK0 (by decide)) (Or.inl rfl)
  · refine go_int k158_43 0 rfl ?_
    exact go_iret k158_44 e4 (inR_b (Or.inl rfl)) ⟨Nat.zero_le _, Nat.zero_le _⟩ rfl
theorem tfM_canAdopt {Φ : ev_P} {d : Nat} (hd : 3 ≤ d) {g : gH} (hg : HR g) {v0 v1 v2 : Int} (hK0 : kd v0 = 7) (h1 : InR v1) (h2 : InR v2) : Go Φ pr_P (fP g) 3 (fM_canAdopt g v0 v1 v2) d (pr_P 91) 0 (ev_loc (pr_P 91).1 [(sR v0), (sI v1), (sI v2)]) [] g 0 0 := by
  show Go Φ pr_P (fP g) 3 (fM_canAdopt g v0 v1 v2) d pr_m91 0 [some (sR v0), some (sI v1), some (sI v2)] [] g 0 0
  unfold fM_canAdopt
  refine go_aload k91_0 rfl ?_
  refine go_iload k91_1 rfl ?_
  refine go_callP3 k91_2 rfl rfl rfl ⟨by decide, _, rfl, hK0⟩ ⟨Nat.zero_le _, Nat.zero_le _⟩ (by omega) (tfM_runs (by omega) hg hK0  h1) (fun y1 r2 => ?_)
  refine go_ifeq k91_5 (inR_b r2) (fun c5 => ?_) (fun c6 => ?_)
  · refine go_int k91_76 0 rfl ?_
    exact go_bret k91_77 hg (Or.inl rfl) ⟨Nat.zero_le _, Nat.zero_le _⟩ rfl
  · refine go_iload k91_8 rfl ?_
    refine go_iload k91_9 rfl ?_
    refine go_cmeq k91_10 h1 h2 (fun c7 => ?_) (fun c8 => ?_)
    · refine go_int k91_76 0 rfl ?_
      exact go_bret k91_77 hg (Or.inl rfl) ⟨Nat.zero_le _, Nat.zero_le _⟩ rfl
    · refine go_aload k91_13 rfl ?_
      refine go_iload k91_14 rfl ?_
      refine go_iload k91_15 rfl ?_
      refine go_callP3 k91_16 rfl rfl rfl ⟨by decide, _, rfl, hK0⟩ ⟨Nat.zero_le _, Nat.zero_le _⟩ (by omega) (tfM_isOver (by omega) hg hK0  h2 h1) (fun y9 r10 => ?_)
      refine go_ifeq k91_19 (inR_b r10) (fun c13 => ?_) (fun c14 => ?_)
      · refine go_aload k91_22 rfl ?_
        refine go_getR (bI := 5) k91_23 hg hK0 (by decide) rfl rfl (fun r15 => ?_)
        refine go_iload k91_26 rfl ?_
        refine go_ck (fun q17 => ?_)
        refine go_zald k91_27 hg q17 (fun r16 => ?_)
        refine go_ifeq k91_28 (inR_b r16) (fun c18 => ?_) (fun c19 => ?_)
        · refine go_aload k91_31 rfl ?_
          refine go_iload k91_32 rfl ?_
          refine go_callP1 k91_33 rfl rfl rfl ⟨by decide, _, rfl, hK0⟩ ⟨Nat.zero_le _, Nat.zero_le _⟩ (by omega) (tfM_roomOf (by omega) hg hK0  h1) (fun y20 r21 => ?_)
          refine go_ifgt k91_36 r21 (fun c24 => ?_) (fun c25 => ?_)
          · refine go_aload k91_39 rfl ?_
            refine go_iload k91_40 rfl ?_
            refine go_callP1 k91_41 rfl rfl rfl ⟨by decide, _, rfl, hK0⟩ ⟨Nat.zero_le _, Nat.zero_le _⟩ (by omega) (tfM_deep (by omega) hg hK0  h1) (fun y26 r27 => ?_)
            refine go_aload k91_44 rfl ?_
            refine go_getR (bI := 0) k91_45 hg hK0 (by decide) rfl rfl (fun r30 => ?_)
            refine go_int k91_48 59 rfl ?_
            refine go_ck (fun q32 => ?_)
            refine go_iald k91_50 hg q32 (fun r31 => ?_)
            refine go_cmlt k91_51 r27 r31 (fun c33 => ?_) (fun c34 => ?_)
            · refine go_aload k91_54 rfl ?_
              refine go_iload k91_55 rfl ?_
              refine go_aload k91_56 rfl ?_
              refine go_getR (bI := 0) k91_57 hg hK0 (by decide) rfl rfl (fun r35 => ?_)
              refine go_int k91_60 180 rfl ?_
              refine go_iload k91_63 rfl ?_
              refine go_iadd k91_64 ?_
              refine go_ck (fun q37 => ?_)
              refine go_iald k91_65 hg q37 (fun r36 => ?_)
              refine go_callP3 k91_66 rfl rfl rfl ⟨by decide, _, rfl, hK0⟩ ⟨Nat.zero_le _, Nat.zero_le _⟩ (by omega) (tfM_refusesGroup (by omega) hg hK0  h1 r36) (fun y38 r39 => ?_)
              refine go_ifeq k91_69 (inR_b r39) (fun c42 => ?_) (fun c43 => ?_)
              · refine go_int k91_72 1 rfl ?_
                refine go_goto k91_73 ?_
                exact go_bret k91_77 hg (Or.inr rfl) ⟨Nat.zero_le _, Nat.zero_le _⟩ rfl
              · refine go_int k91_76 0 rfl ?_
                exact go_bret k91_77 hg (Or.inl rfl) ⟨Nat.zero_le _, Nat.zero_le _⟩ rfl
            · refine go_int k91_76 0 rfl ?_
              exact go_bret k91_77 hg (Or.inl rfl) ⟨Nat.zero_le _, Nat.zero_le _⟩ rfl
          · refine go_int k91_76 0 rfl ?_
            exact go_bret k91_77 hg (Or.inl rfl) ⟨Nat.zero_le _, Nat.zero_le _⟩ rfl
        · refine go_int k91_76 0 rfl ?_
          exact go_bret k91_77 hg (Or.inl rfl) ⟨Nat.zero_le _, Nat.zero_le _⟩ rfl
      · refine go_int k91_76 0 rfl ?_
        exact go_bret k91_77 hg (Or.inl rfl) ⟨Nat.zero_le _, Nat.zero_le _⟩ rfl
theorem tbM_nearest_2 {Φ : ev_P} {d : Nat} (hd : 4 ≤ d) {g : gH} (hg : HR g) {v0 v1 v2 : Int} (hK0 : kd v0 = 7) (h1 : InR v1) (h2 : InR v2) {X2 : Int → Option Int} (HX2 : ∀ (v3 : Int) (h3 : InR v3), Go Φ pr_P (fP g) 1 (X2 v3) d pr_m92 2 [some (sR v0), some (sI v1), some (sI v2), some (sI v3)] [] g 0 0) : ∀ (v3 : Int) (h3 : InR v3), Go Φ pr_P (fP g) 1 (bM_nearest_2 g v0 v1 v2 X2 v3) d pr_m92 2 [some (sR v0), some (sI v1), some (sI v2), some (sI v3)] [] g 0 0 := by
  intro v3 h3
  unfold bM_nearest_2
  refine go_iload k92_2 rfl ?_
  refine go_ifeq k92_3 h3 (fun c1 => ?_) (fun c2 => ?_)
  · refine go_int k92_35 (-1) rfl ?_
    exact go_iret k92_36 hg (inR_of (by decide)) ⟨Nat.zero_le _, Nat.zero_le _⟩ rfl
  · refine go_iload k92_6 rfl ?_
    refine go_iload k92_7 rfl ?_
    refine go_cmeq k92_8 h3 h2 (fun c3 => ?_) (fun c4 => ?_)
    · refine go_aload k92_22 rfl ?_
      refine go_getR (bI := 0) k92_23 hg hK0 (by decide) rfl rfl (fun r5 => ?_)
      refine go_int k92_26 60 rfl ?_
      refine go_iload k92_28 rfl ?_
      refine go_iadd k92_29 ?_
      refine go_ck (fun q7 => ?_)
      refine go_iald k92_30 hg q7 (fun r6 => ?_)
      refine go_istore k92_31 rfl (loc2 := [some (sR v0), some (sI v1), some (sI v2), some (sI (g (g v0 0) (w32 (60 + v3))))]) rfl ?_
      refine go_goto k92_32 ?_
      exact HX2 (g (g v0 0) (w32 (60 + v3))) r6
    · refine go_aload k92_11 rfl ?_
      refine go_iload k92_12 rfl ?_
      refine go_iload k92_13 rfl ?_
      refine go_callP3 k92_14 rfl rfl rfl ⟨by decide, _, rfl, hK0⟩ ⟨Nat.zero_le _, Nat.zero_le _⟩ (by omega) (tfM_canAdopt (by omega) hg hK0  h3 h1) (fun y8 r9 => ?_)
      refine go_ifeq k92_17 (inR_b r9) (fun c12 => ?_) (fun c13 => ?_)
      · refine go_aload k92_22 rfl ?_
        refine go_getR (bI := 0) k92_23 hg hK0 (by decide) rfl rfl (fun r14 => ?_)
        refine go_int k92_26 60 rfl ?_
        refine go_iload k92_28 rfl ?_
        refine go_iadd k92_29 ?_
        refine go_ck (fun q16 => ?_)
        refine go_iald k92_30 hg q16 (fun r15 => ?_)
        refine go_istore k92_31 rfl (loc2 := [some (sR v0), some (sI v1), some (sI v2), some (sI (g (g v0 0) (w32 (60 + v3))))]) rfl ?_
        refine go_goto k92_32 ?_
        exact HX2 (g (g v0 0) (w32 (60 + v3))) r15
      · refine go_iload k92_20 rfl ?_
        exact go_iret k92_21 hg h3 ⟨Nat.zero_le _, Nat.zero_le _⟩ rfl
theorem tlM_nearest_2 {Φ : ev_P} {d : Nat} (hd : 4 ≤ d) {g : gH} (hg : HR g) {v0 v1 v2 : Int} (hK0 : kd v0 = 7) (h1 : InR v1) (h2 : InR v2) : ∀ n : Nat, ∀ (v3 : Int) (h3 : InR v3), Go Φ pr_P (fP g) 1 (lM_nearest_2 g v0 v1 v2 n v3) d pr_m92 2 [some (sR v0), some (sI v1), some (sI v2), some (sI v3)] [] g 0 0 := by
  intro n
  induction n with
  | zero => intros; exact go_none
  | succ n ih => exact tbM_nearest_2 hd hg hK0 h1 h2 ih
theorem tfM_nearest {Φ : ev_P} {d : Nat} (hd : 4 ≤ d) {g : gH} (hg : HR g) {v0 v1 v2 : Int} (hK0 : kd v0 = 7) (h1 : InR v1) (h2 : InR v2) : Go Φ pr_P (fP g) 1 (fM_nearest g v0 v1 v2) d (pr_P 92) 0 (ev_loc (pr_P 92).1 [(sR v0), (sI v1), (sI v2)]) [] g 0 0 := by
  show Go Φ pr_P (fP g) 1 (fM_nearest g v0 v1 v2) d pr_m92 0 [some (sR v0), some (sI v1), some (sI v2), none] [] g 0 0
  unfold fM_nearest
  refine go_iload k92_0 rfl ?_
  refine go_istore k92_1 rfl (loc2 := [some (sR v0), some (sI v1), some (sI v2), some (sI v2)]) rfl ?_
  exact tlM_nearest_2 hd hg hK0 h1 h2 fu v2 h2
theorem tjM_roomiestFor_51 {Φ : ev_P} {d : Nat} (hd : 4 ≤ d) {X6 : Int → Int → Option Int} {g : gH} (hg : HR g) {v0 v1 v2 v3 v4 v5 : Int} (hK0 : kd v0 = 7) (h1 : InR v1) (h2 : InR v2) (h3 : B01 v3) (h4 : InR v4) (h5 : InR v5) (HX6 : ∀ (v4 : Int) (h4 : InR v4) (v5 : Int) (h5 : InR v5), Go Φ pr_P (fP g) 1 (X6 v4 v5) d pr_m93 6 [some (sR v0), some (sI v1), some (sI v2), some (sI v3), some (sI v4), some (sI v5)] [] g 0 0) : Go Φ pr_P (fP g) 1 (jM_roomiestFor_51 X6 g v0 v1 v2 v3 v4 v5 ) d pr_m93 51 [some (sR v0), some (sI v1), some (sI v2), some (sI v3), some (sI v4), some (sI v5)] [] g 0 0 := by
  unfold jM_roomiestFor_51
  refine go_aload k93_51 rfl ?_
  refine go_iload k93_52 rfl ?_
  refine go_iload k93_54 rfl ?_
  refine go_callP3 k93_55 rfl rfl rfl ⟨by decide, _, rfl, hK0⟩ ⟨Nat.zero_le _, Nat.zero_le _⟩ (by omega) (tfM_canAdopt (by omega) hg hK0  h5 h1) (fun y18 r19 => ?_)
  refine go_ifeq k93_58 (inR_b r19) (fun c22 => ?_) (fun c23 => ?_)
  · refine go_goto k93_61 ?_
    refine go_iinc k93_89 rfl rfl 1 rfl (loc2 := [some (sR v0), some (sI v1), some (sI v2), some (sI v3), some (sI v4), some (sI (w32 (v5 + 1)))]) rfl ?_
    refine go_goto k93_92 ?_
    exact HX6 v4 h4 (w32 (v5 + 1)) (inR_w32 _)
  · refine go_iload k93_64 rfl ?_
    refine go_int k93_66 (-1) rfl ?_
    refine go_cmeq k93_67 h4 (inR_of (by decide)) (fun c24 => ?_) (fun c25 => ?_)
    · refine go_iload k93_85 rfl ?_
      refine go_istore k93_87 rfl (loc2 := [some (sR v0), some (sI v1), some (sI v2), some (sI v3), some (sI v5), some (sI v5)]) rfl ?_
      refine go_iinc k93_89 rfl rfl 1 rfl (loc2 := [some (sR v0), some (sI v1), some (sI v2), some (sI v3), some (sI v5), some (sI (w32 (v5 + 1)))]) rfl ?_
      refine go_goto k93_92 ?_
      exact HX6 v5 h5 (w32 (v5 + 1)) (inR_w32 _)
    · refine go_aload k93_70 rfl ?_
      refine go_iload k93_71 rfl ?_
      refine go_callP1 k93_73 rfl rfl rfl ⟨by decide, _, rfl, hK0⟩ ⟨Nat.zero_le _, Nat.zero_le _⟩ (by omega) (tfM_roomOf (by omega) hg hK0  h5) (fun y26 r27 => ?_)
      refine go_aload k93_76 rfl ?_
      refine go_iload k93_77 rfl ?_
      refine go_callP1 k93_79 rfl rfl rfl ⟨by decide, _, rfl, hK0⟩ ⟨Nat.zero_le _, Nat.zero_le _⟩ (by omega) (tfM_roomOf (by omega) hg hK0  h4) (fun y30 r31 => ?_)
      refine go_cmgt k93_82 r27 r31 (fun c34 => ?_) (fun c35 => ?_)
      · refine go_iload k93_85 rfl ?_
        refine go_istore k93_87 rfl (loc2 := [some (sR v0), some (sI v1), some (sI v2), some (sI v3), some (sI v5), some (sI v5)]) rfl ?_
        refine go_iinc k93_89 rfl rfl 1 rfl (loc2 := [some (sR v0), some (sI v1), some (sI v2), some (sI v3), some (sI v5), some (sI (w32 (v5 + 1)))]) rfl ?_
        refine go_goto k93_92 ?_
        exact HX6 v5 h5 (w32 (v5 + 1)) (inR_w32 _)
      · refine go_iinc k93_89 rfl rfl 1 rfl (loc2 := [some (sR v0), some (sI v1), some (sI v2), some (sI v3), some (sI v4), some (sI (w32 (v5 + 1)))]) rfl ?_
        refine go_goto k93_92 ?_
        exact HX6 v4 h4 (w32 (v5 + 1)) (inR_w32 _)
theorem tbM_roomiestFor_6 {Φ : ev_P} {d : Nat} (hd : 4 ≤ d) {g : gH} (hg : HR g) {v0 v1 v2 v3 : Int} (hK0 : kd v0 = 7) (h1 : InR v1) (h2 : InR v2) (h3 : B01 v3) {X6 : Int → Int → Option Int} (HX6 : ∀ (v4 : Int) (h4 : InR v4) (v5 : Int) (h5 : InR v5), Go Φ pr_P (fP g) 1 (X6 v4 v5) d pr_m93 6 [some (sR v0), some (sI v1), some (sI v2), some (sI v3), some (sI v4), some (sI v5)] [] g 0 0) : ∀ (v4 : Int) (h4 : InR v4) (v5 : Int) (h5 : InR v5), Go Φ pr_P (fP g) 1 (bM_roomiestFor_6 g v0 v1 v2 v3 X6 v4 v5) d pr_m93 6 [some (sR v0), some (sI v1), some (sI v2), some (sI v3), some (sI v4), some (sI v5)] [] g 0 0 := by
  intro v4 h4 v5 h5
  unfold bM_roomiestFor_6
  refine go_iload k93_6 rfl ?_
  refine go_aload k93_8 rfl ?_
  refine go_getR (bI := 0) k93_9 hg hK0 (by decide) rfl rfl (fun r1 => ?_)
  refine go_int k93_12 0 rfl ?_
  refine go_ck (fun q3 => ?_)
  refine go_iald k93_13 hg q3 (fun r2 => ?_)
  refine go_cmlt k93_14 h5 r2 (fun c4 => ?_) (fun c5 => ?_)
  · refine go_iload k93_17 rfl ?_
    refine go_iload k93_19 rfl ?_
    refine go_cmeq k93_20 h5 h2 (fun c6 => ?_) (fun c7 => ?_)
    · refine go_iinc k93_89 rfl rfl 1 rfl (loc2 := [some (sR v0), some (sI v1), some (sI v2), some (sI v3), some (sI v4), some (sI (w32 (v5 + 1)))]) rfl ?_
      refine go_goto k93_92 ?_
      exact HX6 v4 h4 (w32 (v5 + 1)) (inR_w32 _)
    · refine go_iload k93_23 rfl ?_
      refine go_ifeq k93_24 (inR_b h3) (fun c8 => ?_) (fun c9 => ?_)
      · exact tjM_roomiestFor_51 hd hg hK0 h1 h2 h3 h4 h5 HX6
      · refine go_aload k93_27 rfl ?_
        refine go_getR (bI := 0) k93_28 hg hK0 (by decide) rfl rfl (fun r10 => ?_)
        refine go_int k93_31 180 rfl ?_
        refine go_iload k93_34 rfl ?_
        refine go_iadd k93_36 ?_
        refine go_ck (fun q12 => ?_)
        refine go_iald k93_37 hg q12 (fun r11 => ?_)
        refine go_aload k93_38 rfl ?_
        refine go_getR (bI := 0) k93_39 hg hK0 (by decide) rfl rfl (fun r13 => ?_)
        refine go_int k93_42 180 rfl ?_
        refine go_iload k93_45 rfl ?_
        refine go_iadd k93_46 ?_
        refine go_ck (fun q15 => ?_)
        refine go_iald k93_47 hg q15 (fun r14 => ?_)
        refine go_cmeq k93_48 r11 r14 (fun c16 => ?_) (fun c17 => ?_)
        · exact tjM_roomiestFor_51 hd hg hK0 h1 h2 h3 h4 h5 HX6
        · refine go_iinc k93_89 rfl rfl 1 rfl (loc2 := [some (sR v0), some (sI v1), some (sI v2), some (sI v3), some (sI v4), some (sI (w32 (v5 + 1)))]) rfl ?_
          refine go_goto k93_92 ?_
          exact HX6 v4 h4 (w32 (v5 + 1)) (inR_w32 _)
  · refine go_iload k93_95 rfl ?_
    exact go_iret k93_97 hg h4 ⟨Nat.zero_le _, Nat.zero_le _⟩ rfl
theorem tlM_roomiestFor_6 {Φ : ev_P} {d : Nat} (hd : 4 ≤ d) {g : gH} (hg : HR g) {v0 v1 v2 v3 : Int} (hK0 : kd v0 = 7) (h1 : InR v1) (h2 : InR v2) (h3 : B01 v3) : ∀ n : Nat, ∀ (v4 : Int) (h4 : InR v4) (v5 : Int) (h5 : InR v5), Go Φ pr_P (fP g) 1 (lM_roomiestFor_6 g v0 v1 v2 v3 n v4 v5) d pr_m93 6 [some (sR v0), some (sI v1), some (sI v2), some (sI v3), some (sI v4), some (sI v5)] [] g 0 0 := by
  intro n
  induction n with
  | zero => intros; exact go_none
  | succ n ih => exact tbM_roomiestFor_6 hd hg hK0 h1 h2 h3 ih
theorem tfM_roomiestFor {Φ : ev_P} {d : Nat} (hd : 4 ≤ d) {g : gH} (hg : HR g) {v0 v1 v2 v3 : Int} (hK0 : kd v0 = 7) (h1 : InR v1) (h2 : InR v2) (h3 : B01 v3) : Go Φ pr_P (fP g) 1 (fM_roomiestFor g v0 v1 v2 v3) d (pr_P 93) 0 (ev_loc (pr_P 93).1 [(sR v0), (sI v1), (sI v2), (sI v3)]) [] g 0 0 := by
  show Go Φ pr_P (fP g) 1 (fM_roomiestFor g v0 v1 v2 v3) d pr_m93 0 [some (sR v0), some (sI v1), some (sI v2), some (sI v3), none, none] [] g 0 0
  unfold fM_roomiestFor
  refine go_int k93_0 (-1) rfl ?_
  refine go_istore k93_1 rfl (loc2 := [some (sR v0), some (sI v1), some (sI v2), some (sI v3), some (sI (-1)), none]) rfl ?_
  refine go_int k93_3 1 rfl ?_
  refine go_istore k93_4 rfl (loc2 := [some (sR v0), some (sI v1), some (sI v2), some (sI v3), some (sI (-1)), some (sI 1)]) rfl ?_
  exact tlM_roomiestFor_6 hd hg hK0 h1 h2 h3 fu (-1) (inR_of (by decide)) 1 (inR_b (Or.inr rfl))
theorem tbM_kinOf_8 {Φ : ev_P} {d : Nat} (hd : 4 ≤ d) {g : gH} (hg : HR g) {v0 v1 v2 : Int} (hK0 : kd v0 = 7) (h1 : InR v1) (h2 : InR v2) {X8 : Int → Option Int} (HX8 : ∀ (v3 : Int) (h3 : InR v3), Go Φ pr_P (fP g) 1 (X8 v3) d pr_m94 8 [some (sR v0), some (sI v1), some (sI v2), some (sI v3)] [] g 0 0) : ∀ (v3 : Int) (h3 : InR v3), Go Φ pr_P (fP g) 1 (bM_kinOf_8 g v0 v1 v2 X8 v3) d pr_m94 8 [some (sR v0), some (sI v1), some (sI v2), some (sI v3)] [] g 0 0 := by
  intro v3 h3
  unfold bM_kinOf_8
  refine go_iload k94_8 rfl ?_
  refine go_aload k94_9 rfl ?_
  refine go_getR (bI := 0) k94_10 hg hK0 (by decide) rfl rfl (fun r3 => ?_)
  refine go_int k94_13 0 rfl ?_
  refine go_ck (fun q5 => ?_)
  refine go_iald k94_14 hg q5 (fun r4 => ?_)
  refine go_cmlt k94_15 h3 r4 (fun c6 => ?_) (fun c7 => ?_)
  · refine go_iload k94_18 rfl ?_
    refine go_iload k94_19 rfl ?_
    refine go_cmeq k94_20 h3 h2 (fun c8 => ?_) (fun c9 => ?_)
    · refine go_iinc k94_52 rfl rfl 1 rfl (loc2 := [some (sR v0), some (sI v1), some (sI v2), some (sI (w32 (v3 + 1)))]) rfl ?_
      refine go_goto k94_55 ?_
      exact HX8 (w32 (v3 + 1)) (inR_w32 _)
    · refine go_aload k94_23 rfl ?_
      refine go_iload k94_24 rfl ?_
      refine go_aload k94_25 rfl ?_
      refine go_getR (bI := 0) k94_26 hg hK0 (by decide) rfl rfl (fun r10 => ?_)
      refine go_int k94_29 60 rfl ?_
      refine go_iload k94_31 rfl ?_
      refine go_iadd k94_32 ?_
      refine go_ck (fun q12 => ?_)
      refine go_iald k94_33 hg q12 (fun r11 => ?_)
      refine go_int k94_34 0 rfl ?_
      refine go_callP3 k94_35 rfl rfl rfl ⟨by decide, _, rfl, hK0⟩ ⟨Nat.zero_le _, Nat.zero_le _⟩ (by omega) (tfM_isChild (by omega) hg hK0  h3 r11 (inR_b (Or.inl rfl))) (fun y13 r14 => ?_)
      refine go_ifeq k94_38 (inR_b r14) (fun c17 => ?_) (fun c18 => ?_)
      · refine go_iinc k94_52 rfl rfl 1 rfl (loc2 := [some (sR v0), some (sI v1), some (sI v2), some (sI (w32 (v3 + 1)))]) rfl ?_
        refine go_goto k94_55 ?_
        exact HX8 (w32 (v3 + 1)) (inR_w32 _)
      · refine go_aload k94_41 rfl ?_
        refine go_iload k94_42 rfl ?_
        refine go_iload k94_43 rfl ?_
        refine go_callP3 k94_44 rfl rfl rfl ⟨by decide, _, rfl, hK0⟩ ⟨Nat.zero_le _, Nat.zero_le _⟩ (by omega) (tfM_canAdopt (by omega) hg hK0  h3 h1) (fun y19 r20 => ?_)
        refine go_ifeq k94_47 (inR_b r20) (fun c23 => ?_) (fun c24 => ?_)
        · refine go_iinc k94_52 rfl rfl 1 rfl (loc2 := [some (sR v0), some (sI v1), some (sI v2), some (sI (w32 (v3 + 1)))]) rfl ?_
          refine go_goto k94_55 ?_
          exact HX8 (w32 (v3 + 1)) (inR_w32 _)
        · refine go_iload k94_50 rfl ?_
          exact go_iret k94_51 hg h3 ⟨Nat.zero_le _, Nat.zero_le _⟩ rfl
  · refine go_int k94_58 (-1) rfl ?_
    exact go_iret k94_59 hg (inR_of (by decide)) ⟨Nat.zero_le _, Nat.zero_le _⟩ rfl
theorem tlM_kinOf_8 {Φ : ev_P} {d : Nat} (hd : 4 ≤ d) {g : gH} (hg : HR g) {v0 v1 v2 : Int} (hK0 : kd v0 = 7) (h1 : InR v1) (h2 : InR v2) : ∀ n : Nat, ∀ (v3 : Int) (h3 : InR v3), Go Φ pr_P (fP g) 1 (lM_kinOf_8 g v0 v1 v2 n v3) d pr_m94 8 [some (sR v0), some (sI v1), some (sI v2), some (sI v3)] [] g 0 0 := by
  intro n
  induction n with
  | zero => intros; exact go_none
  | succ n ih => exact tbM_kinOf_8 hd hg hK0 h1 h2 ih
theorem tfM_kinOf {Φ : ev_P} {d : Nat} (hd : 4 ≤ d) {g : gH} (hg : HR g) {v0 v1 v2 : Int} (hK0 : kd v0 = 7) (h1 : InR v1) (h2 : InR v2) : Go Φ pr_P (fP g) 1 (fM_kinOf g v0 v1 v2) d (pr_P 94) 0 (ev_loc (pr_P 94).1 [(sR v0), (sI v1), (sI v2)]) [] g 0 0 := by
  show Go Φ pr_P (fP g) 1 (fM_kinOf g v0 v1 v2) d pr_m94 0 [some (sR v0), some (sI v1), some (sI v2), none] [] g 0 0
  unfold fM_kinOf
  refine go_iload k94_0 rfl ?_
  refine go_ifeq k94_1 h2 (fun c1 => ?_) (fun c2 => ?_)
  · refine go_int k94_4 (-1) rfl ?_
    exact go_iret k94_5 hg (inR_of (by decide)) ⟨Nat.zero_le _, Nat.zero_le _⟩ rfl
  · refine go_int k94_6 1 rfl ?_
    refine go_istore k94_7 rfl (loc2 := [some (sR v0), some (sI v1), some (sI v2), some (sI 1)]) rfl ?_
    exact tlM_kinOf_8 hd hg hK0 h1 h2 fu 1 (inR_b (Or.inr rfl))
theorem tbM_oldest_2 {Φ : ev_P} {d : Nat} (hd : 4 ≤ d) {g : gH} (hg : HR g) {v0 v1 v2 : Int} (hK0 : kd v0 = 7) (h1 : InR v1) (h2 : InR v2) {X2 : Int → Option Int} (HX2 : ∀ (v3 : Int) (h3 : InR v3), Go Φ pr_P (fP g) 1 (X2 v3) d pr_m95 2 [some (sR v0), some (sI v1), some (sI v2), some (sI v3)] [] g 0 0) : ∀ (v3 : Int) (h3 : InR v3), Go Φ pr_P (fP g) 1 (bM_oldest_2 g v0 v1 v2 X2 v3) d pr_m95 2 [some (sR v0), some (sI v1), some (sI v2), some (sI v3)] [] g 0 0 := by
  intro v3 h3
  unfold bM_oldest_2
  refine go_iload k95_2 rfl ?_
  refine go_aload k95_3 rfl ?_
  refine go_getR (bI := 0) k95_4 hg hK0 (by decide) rfl rfl (fun r1 => ?_)
  refine go_int k95_7 0 rfl ?_
  refine go_ck (fun q3 => ?_)
  refine go_iald k95_8 hg q3 (fun r2 => ?_)
  refine go_cmlt k95_9 h3 r2 (fun c4 => ?_) (fun c5 => ?_)
  · refine go_iload k95_12 rfl ?_
    refine go_iload k95_13 rfl ?_
    refine go_cmeq k95_14 h3 h2 (fun c6 => ?_) (fun c7 => ?_)
    · refine go_iinc k95_28 rfl rfl 1 rfl (loc2 := [some (sR v0), some (sI v1), some (sI v2), some (sI (w32 (v3 + 1)))]) rfl ?_
      refine go_goto k95_31 ?_
      exact HX2 (w32 (v3 + 1)) (inR_w32 _)
    · refine go_aload k95_17 rfl ?_
      refine go_iload k95_18 rfl ?_
      refine go_iload k95_19 rfl ?_
      refine go_callP3 k95_20 rfl rfl rfl ⟨by decide, _, rfl, hK0⟩ ⟨Nat.zero_le _, Nat.zero_le _⟩ (by omega) (tfM_canAdopt (by omega) hg hK0  h3 h1) (fun y8 r9 => ?_)
      refine go_ifeq k95_23 (inR_b r9) (fun c12 => ?_) (fun c13 => ?_)
      · refine go_iinc k95_28 rfl rfl 1 rfl (loc2 := [some (sR v0), some (sI v1), some (sI v2), some (sI (w32 (v3 + 1)))]) rfl ?_
        refine go_goto k95_31 ?_
        exact HX2 (w32 (v3 + 1)) (inR_w32 _)
      · refine go_iload k95_26 rfl ?_
        exact go_iret k95_27 hg h3 ⟨Nat.zero_le _, Nat.zero_le _⟩ rfl
  · refine go_int k95_34 (-1) rfl ?_
    exact go_iret k95_35 hg (inR_of (by decide)) ⟨Nat.zero_le _, Nat.zero_le _⟩ rfl
theorem tlM_oldest_2 {Φ : ev_P} {d : Nat} (hd : 4 ≤ d) {g : gH} (hg : HR g) {v0 v1 v2 : Int} (hK0 : kd v0 = 7) (h1 : InR v1) (h2 : InR v2) : ∀ n : Nat, ∀ (v3 : Int) (h3 : InR v3), Go Φ pr_P (fP g) 1 (lM_oldest_2 g v0 v1 v2 n v3) d pr_m95 2 [some (sR v0), some (sI v1), some (sI v2), some (sI v3)] [] g 0 0 := by
  intro n
  induction n with
  | zero => intros; exact go_none
  | succ n ih => exact tbM_oldest_2 hd hg hK0 h1 h2 ih
theorem tfM_oldest {Φ : ev_P} {d : Nat} (hd : 4 ≤ d) {g : gH} (hg : HR g) {v0 v1 v2 : Int} (hK0 : kd v0 = 7) (h1 : InR v1) (h2 : InR v2) : Go Φ pr_P (fP g) 1 (fM_oldest g v0 v1 v2) d (pr_P 95) 0 (ev_loc (pr_P 95).1 [(sR v0), (sI v1), (sI v2)]) [] g 0 0 := by
  show Go Φ pr_P (fP g) 1 (fM_oldest g v0 v1 v2) d pr_m95 0 [some (sR v0), some (sI v1), some (sI v2), none] [] g 0 0
  unfold fM_oldest
  refine go_int k95_0 1 rfl ?_
  refine go_istore k95_1 rfl (loc2 := [some (sR v0), some (sI v1), some (sI v2), some (sI 1)]) rfl ?_
  exact tlM_oldest_2 hd hg hK0 h1 h2 fu 1 (inR_b (Or.inr rfl))
theorem tfM_findsBy {Φ : ev_P} {d : Nat} (hd : 5 ≤ d) {g : gH} (hg : HR g) {v0 v1 v2 v3 : Int} (hK0 : kd v0 = 7) (h1 : InR v1) (h2 : InR v2) (h3 : InR v3) : Go Φ pr_P (fP g) 1 (fM_findsBy g v0 v1 v2 v3) d (pr_P 96) 0 (ev_loc (pr_P 96).1 [(sR v0), (sI v1), (sI v2), (sI v3)]) [] g 0 0 := by
  show Go Φ pr_P (fP g) 1 (fM_findsBy g v0 v1 v2 v3) d pr_m96 0 [some (sR v0), some (sI v1), some (sI v2), some (sI v3)] [] g 0 0
  unfold fM_findsBy
  refine go_iload k96_0 rfl ?_
  refine go_ite (fun c1 => ?_) (fun c2 => ?_)
  · refine go_swh (lo := 0) (hi := 3) (i := 0) k96_1 rfl rfl (by omega) (by omega) rfl ?_
    refine go_aload k96_32 rfl ?_
    refine go_iload k96_33 rfl ?_
    refine go_iload k96_34 rfl ?_
    refine go_callP1 k96_35 rfl rfl rfl ⟨by decide, _, rfl, hK0⟩ ⟨Nat.zero_le _, Nat.zero_le _⟩ (by omega) (tfM_nearest (by omega) hg hK0  h2 h3) (fun y3 r4 => ?_)
    exact go_iret k96_38 hg r4 ⟨Nat.zero_le _, Nat.zero_le _⟩ rfl
  refine go_ite (fun c7 => ?_) (fun c8 => ?_)
  · refine go_swh (lo := 0) (hi := 3) (i := 1) k96_1 rfl rfl (by omega) (by omega) rfl ?_
    refine go_aload k96_39 rfl ?_
    refine go_iload k96_40 rfl ?_
    refine go_iload k96_41 rfl ?_
    refine go_int k96_42 1 rfl ?_
    refine go_callP1 k96_43 rfl rfl rfl ⟨by decide, _, rfl, hK0⟩ ⟨Nat.zero_le _, Nat.zero_le _⟩ (by omega) (tfM_roomiestFor (by omega) hg hK0  h2 h3 (Or.inr rfl)) (fun y9 r10 => ?_)
    exact go_iret k96_46 hg r10 ⟨Nat.zero_le _, Nat.zero_le _⟩ rfl
  refine go_ite (fun c13 => ?_) (fun c14 => ?_)
  · refine go_swh (lo := 0) (hi := 3) (i := 2) k96_1 rfl rfl (by omega) (by omega) rfl ?_
    refine go_aload k96_47 rfl ?_
    refine go_iload k96_48 rfl ?_
    refine go_iload k96_49 rfl ?_
    refine go_int k96_50 0 rfl ?_
    refine go_callP1 k96_51 rfl rfl rfl ⟨by decide, _, rfl, hK0⟩ ⟨Nat.zero_le _, Nat.zero_le _⟩ (by omega) (tfM_roomiestFor (by omega) hg hK0  h2 h3 (Or.inl rfl)) (fun y15 r16 => ?_)
    exact go_iret k96_54 hg r16 ⟨Nat.zero_le _, Nat.zero_le _⟩ rfl
  refine go_ite (fun c19 => ?_) (fun c20 => ?_)
  · refine go_swh (lo := 0) (hi := 3) (i := 3) k96_1 rfl rfl (by omega) (by omega) rfl ?_
    refine go_aload k96_55 rfl ?_
    refine go_iload k96_56 rfl ?_
    refine go_iload k96_57 rfl ?_
    refine go_callP1 k96_58 rfl rfl rfl ⟨by decide, _, rfl, hK0⟩ ⟨Nat.zero_le _, Nat.zero_le _⟩ (by omega) (tfM_kinOf (by omega) hg hK0  h2 h3) (fun y21 r22 => ?_)
    exact go_iret k96_61 hg r22 ⟨Nat.zero_le _, Nat.zero_le _⟩ rfl
  refine go_swd (lo := 0) (hi := 3) k96_1 rfl rfl h1 (by omega) (by omega) ?_
  refine go_aload k96_62 rfl ?_
  refine go_iload k96_63 rfl ?_
  refine go_iload k96_64 rfl ?_
  refine go_callP1 k96_65 rfl rfl rfl ⟨by decide, _, rfl, hK0⟩ ⟨Nat.zero_le _, Nat.zero_le _⟩ (by omega) (tfM_oldest (by omega) hg hK0  h2 h3) (fun y25 r26 => ?_)
  exact go_iret k96_68 hg r26 ⟨Nat.zero_le _, Nat.zero_le _⟩ rfl
theorem tbM_adopterOf_2 {Φ : ev_P} {d : Nat} (hd : 6 ≤ d) {g : gH} (hg : HR g) {v0 v1 v2 : Int} (hK0 : kd v0 = 7) (h1 : InR v1) (h2 : InR v2) {X2 : Int → Option Int} (HX2 : ∀ (v3 : Int) (h3 : InR v3) (u4 : Option ev_V) (w4 : nwo u4), Go Φ pr_P (fP g) 1 (X2 v3) d pr_m97 2 [some (sR v0), some (sI v1), some (sI v2), some (sI v3), u4] [] g 0 0) : ∀ (v3 : Int) (h3 : InR v3) (u4 : Option ev_V) (w4 : nwo u4), Go Φ pr_P (fP g) 1 (bM_adopterOf_2 g v0 v1 v2 X2 v3) d pr_m97 2 [some (sR v0), some (sI v1), some (sI v2), some (sI v3), u4] [] g 0 0 := by
  intro v3 h3 u4 w4
  unfold bM_adopterOf_2
  refine go_iload k97_2 rfl ?_
  refine go_aload k97_3 rfl ?_
  refine go_getR (bI := 0) k97_4 hg hK0 (by decide) rfl rfl (fun r1 => ?_)
  refine go_int k97_7 5 rfl ?_
  refine go_ck (fun q3 => ?_)
  refine go_iald k97_8 hg q3 (fun r2 => ?_)
  refine go_cmlt k97_9 h3 r2 (fun c4 => ?_) (fun c5 => ?_)
  · refine go_aload k97_12 rfl ?_
    refine go_aload k97_13 rfl ?_
    refine go_getR (bI := 0) k97_14 hg hK0 (by decide) rfl rfl (fun r6 => ?_)
    refine go_int k97_17 6 rfl ?_
    refine go_iload k97_19 rfl ?_
    refine go_iadd k97_20 ?_
    refine go_ck (fun q8 => ?_)
    refine go_iald k97_21 hg q8 (fun r7 => ?_)
    refine go_iload k97_22 rfl ?_
    refine go_iload k97_23 rfl ?_
    refine go_callP1 k97_24 rfl rfl rfl ⟨by decide, _, rfl, hK0⟩ ⟨Nat.zero_le _, Nat.zero_le _⟩ (by omega) (tfM_findsBy (by omega) hg hK0  r7 h1 h2) (fun y9 r10 => ?_)
    refine go_istore k97_27 rfl (loc2 := [some (sR v0), some (sI v1), some (sI v2), some (sI v3), some (sI y9)]) rfl ?_
    refine go_iload k97_29 rfl ?_
    refine go_int k97_31 (-1) rfl ?_
    refine go_cmeq k97_32 r10 (inR_of (by decide)) (fun c13 => ?_) (fun c14 => ?_)
    · refine go_iinc k97_38 rfl rfl 1 rfl (loc2 := [some (sR v0), some (sI v1), some (sI v2), some (sI (w32 (v3 + 1))), some (sI y9)]) rfl ?_
      refine go_goto k97_41 ?_
      exact HX2 (w32 (v3 + 1)) (inR_w32 _) (some (sI y9)) rfl
    · refine go_iload k97_35 rfl ?_
      exact go_iret k97_37 hg r10 ⟨Nat.zero_le _, Nat.zero_le _⟩ rfl
  · refine go_int k97_44 0 rfl ?_
    exact go_iret k97_45 hg (inR_b (Or.inl rfl)) ⟨Nat.zero_le _, Nat.zero_le _⟩ rfl
theorem tlM_adopterOf_2 {Φ : ev_P} {d : Nat} (hd : 6 ≤ d) {g : gH} (hg : HR g) {v0 v1 v2 : Int} (hK0 : kd v0 = 7) (h1 : InR v1) (h2 : InR v2) : ∀ n : Nat, ∀ (v3 : Int) (h3 : InR v3) (u4 : Option ev_V) (w4 : nwo u4), Go Φ pr_P (fP g) 1 (lM_adopterOf_2 g v0 v1 v2 n v3) d pr_m97 2 [some (sR v0), some (sI v1), some (sI v2), some (sI v3), u4] [] g 0 0 := by
  intro n
  induction n with
  | zero => intros; exact go_none
  | succ n ih => exact tbM_adopterOf_2 hd hg hK0 h1 h2 ih
theorem tfM_adopterOf {Φ : ev_P} {d : Nat} (hd : 6 ≤ d) {g : gH} (hg : HR g) {v0 v1 v2 : Int} (hK0 : kd v0 = 7) (h1 : InR v1) (h2 : InR v2) : Go Φ pr_P (fP g) 1 (fM_adopterOf g v0 v1 v2) d (pr_P 97) 0 (ev_loc (pr_P 97).1 [(sR v0), (sI v1), (sI v2)]) [] g 0 0 := by
  show Go Φ pr_P (fP g) 1 (fM_adopterOf g v0 v1 v2) d pr_m97 0 [some (sR v0), some (sI v1), some (sI v2), none, none] [] g 0 0
  unfold fM_adopterOf
  refine go_int k97_0 0 rfl ?_
  refine go_istore k97_1 rfl (loc2 := [some (sR v0), some (sI v1), some (sI v2), some (sI 0), none]) rfl ?_
  exact tlM_adopterOf_2 hd hg hK0 h1 h2 fu 0 (inR_b (Or.inl rfl)) none rfl
theorem tfM_adopts {Φ : ev_P} {d : Nat} (hd : 0 ≤ d) {g : gH} (hg : HR g) {v0 v1 v2 : Int} (hK0 : kd v0 = 7) (h1 : InR v1) (h2 : InR v2) : Go Φ pr_P fN 0 (fM_adopts g v0 v1 v2) d (pr_P 98) 0 (ev_loc (pr_P 98).1 [(sR v0), (sI v1), (sI v2)]) [] g 0 0 := by
  show Go Φ pr_P fN 0 (fM_adopts g v0 v1 v2) d pr_m98 0 [some (sR v0), some (sI v1), some (sI v2)] [] g 0 0
  unfold fM_adopts
  refine go_aload k98_0 rfl ?_
  refine go_getR (bI := 0) k98_1 hg hK0 (by decide) rfl rfl (fun r1 => ?_)
  refine go_int k98_4 60 rfl ?_
  refine go_iload k98_6 rfl ?_
  refine go_iadd k98_7 ?_
  refine go_iload k98_8 rfl ?_
  refine go_ck (fun q2 => ?_)
  refine go_iast k98_9 hg q2 h1 (fun g3 e4 => ?_)
  refine go_aload k98_10 rfl ?_
  refine go_getR (bI := 0) k98_11 e4 hK0 (by decide) rfl rfl (fun r5 => ?_)
  refine go_int k98_14 380 rfl ?_
  refine go_iload k98_17 rfl ?_
  refine go_iadd k98_18 ?_
  refine go_dup2 k98_19 ?_
  refine go_ck (fun q7 => ?_)
  refine go_iald k98_20 e4 q7 (fun r6 => ?_)
  refine go_int k98_21 1 rfl ?_
  refine go_iadd k98_22 ?_
  refine go_ck (fun q8 => ?_)
  refine go_iast k98_23 e4 q8 (inR_w32 _) (fun g9 e10 => ?_)
  refine go_aload k98_24 rfl ?_
  refine go_getR (bI := 0) k98_25 e10 hK0 (by decide) rfl rfl (fun r11 => ?_)
  refine go_int k98_28 2 rfl ?_
  refine go_dup2 k98_29 ?_
  refine go_ck (fun q13 => ?_)
  refine go_iald k98_30 e10 q13 (fun r12 => ?_)
  refine go_int k98_31 1 rfl ?_
  refine go_iadd k98_32 ?_
  refine go_ck (fun q14 => ?_)
  refine go_iast k98_33 e10 q14 (inR_w32 _) (fun g15 e16 => ?_)
  refine go_aload k98_34 rfl ?_
  refine go_getR (bI := 0) k98_35 e16 hK0 (by decide) rfl rfl (fun r17 => ?_)
  refine go_int k98_38 3 rfl ?_
  refine go_dup2 k98_39 ?_
  refine go_ck (fun q19 => ?_)
  refine go_iald k98_40 e16 q19 (fun r18 => ?_)
  refine go_iload k98_41 rfl ?_
  refine go_ifeq k98_42 h1 (fun c20 => ?_) (fun c21 => ?_)
  · refine go_int k98_45 1 rfl ?_
    refine go_goto k98_46 ?_
    refine go_iadd k98_50 ?_
    refine go_ck (fun q22 => ?_)
    refine go_iast k98_51 e16 q22 (inR_w32 _) (fun g23 e24 => ?_)
    exact go_vret k98_52 e24 ⟨Nat.zero_le _, Nat.zero_le _⟩ rfl
  · refine go_int k98_49 0 rfl ?_
    refine go_iadd k98_50 ?_
    refine go_ck (fun q25 => ?_)
    refine go_iast k98_51 e16 q25 (inR_w32 _) (fun g26 e27 => ?_)
    exact go_vret k98_52 e27 ⟨Nat.zero_le _, Nat.zero_le _⟩ rfl
theorem tfM_replaces {Φ : ev_P} {d : Nat} (hd : 1 ≤ d) {g : gH} (hg : HR g) {v0 v1 v2 : Int} (hK0 : kd v0 = 7) (h1 : InR v1) (h2 : InR v2) : Go Φ pr_P fN 1 (fM_replaces g v0 v1 v2) d (pr_P 99) 0 (ev_loc (pr_P 99).1 [(sR v0), (sI v1), (sI v2)]) [] g 0 0 := by
  show Go Φ pr_P fN 1 (fM_replaces g v0 v1 v2) d pr_m99 0 [some (sR v0), some (sI v1), some (sI v2), none, none] [] g 0 0
  unfold fM_replaces
  refine go_aload k99_0 rfl ?_
  refine go_getR (bI := 0) k99_1 hg hK0 (by decide) rfl rfl (fun r1 => ?_)
  refine go_int k99_4 60 rfl ?_
  refine go_iload k99_6 rfl ?_
  refine go_iadd k99_7 ?_
  refine go_ck (fun q3 => ?_)
  refine go_iald k99_8 hg q3 (fun r2 => ?_)
  refine go_istore k99_9 rfl (loc2 := [some (sR v0), some (sI v1), some (sI v2), some (sI (g (g v0 0) (w32 (60 + v1)))), none]) rfl ?_
  refine go_iload k99_10 rfl ?_
  refine go_ifeq k99_11 h2 (fun c4 => ?_) (fun c5 => ?_)
  · refine go_int k99_47 (-1) rfl ?_
    exact go_iret k99_48 hg (inR_of (by decide)) ⟨Nat.zero_le _, Nat.zero_le _⟩ rfl
  · refine go_aload k99_14 rfl ?_
    refine go_getR (bI := 5) k99_15 hg hK0 (by decide) rfl rfl (fun r6 => ?_)
    refine go_iload k99_18 rfl ?_
    refine go_ck (fun q8 => ?_)
    refine go_zald k99_19 hg q8 (fun r7 => ?_)
    refine go_ifeq k99_20 (inR_b r7) (fun c9 => ?_) (fun c10 => ?_)
    · refine go_aload k99_23 rfl ?_
      refine go_getR (bI := 0) k99_24 hg hK0 (by decide) rfl rfl (fun r11 => ?_)
      refine go_int k99_27 220 rfl ?_
      refine go_iload k99_30 rfl ?_
      refine go_iadd k99_31 ?_
      refine go_ck (fun q13 => ?_)
      refine go_iald k99_32 hg q13 (fun r12 => ?_)
      refine go_ifeq k99_33 r12 (fun c14 => ?_) (fun c15 => ?_)
      · refine go_int k99_47 (-1) rfl ?_
        exact go_iret k99_48 hg (inR_of (by decide)) ⟨Nat.zero_le _, Nat.zero_le _⟩ rfl
      · refine go_aload k99_36 rfl ?_
        refine go_getR (bI := 0) k99_37 hg hK0 (by decide) rfl rfl (fun r16 => ?_)
        refine go_int k99_40 0 rfl ?_
        refine go_ck (fun q18 => ?_)
        refine go_iald k99_41 hg q18 (fun r17 => ?_)
        refine go_int k99_42 40 rfl ?_
        refine go_cmeq k99_44 r17 (inR_of (by decide)) (fun c19 => ?_) (fun c20 => ?_)
        · refine go_int k99_47 (-1) rfl ?_
          exact go_iret k99_48 hg (inR_of (by decide)) ⟨Nat.zero_le _, Nat.zero_le _⟩ rfl
        · refine go_aload k99_49 rfl ?_
          refine go_getR (bI := 0) k99_50 hg hK0 (by decide) rfl rfl (fun r21 => ?_)
          refine go_int k99_53 220 rfl ?_
          refine go_iload k99_56 rfl ?_
          refine go_iadd k99_57 ?_
          refine go_dup2 k99_58 ?_
          refine go_ck (fun q23 => ?_)
          refine go_iald k99_59 hg q23 (fun r22 => ?_)
          refine go_int k99_60 1 rfl ?_
          refine go_isub k99_61 ?_
          refine go_ck (fun q24 => ?_)
          refine go_iast k99_62 hg q24 (inR_w32 _) (fun g25 e26 => ?_)
          refine go_aload k99_63 rfl ?_
          refine go_getR (bI := 0) k99_64 e26 hK0 (by decide) rfl rfl (fun r27 => ?_)
          refine go_int k99_67 4 rfl ?_
          refine go_dup2 k99_68 ?_
          refine go_ck (fun q29 => ?_)
          refine go_iald k99_69 e26 q29 (fun r28 => ?_)
          refine go_int k99_70 1 rfl ?_
          refine go_iadd k99_71 ?_
          refine go_ck (fun q30 => ?_)
          refine go_iast k99_72 e26 q30 (inR_w32 _) (fun g31 e32 => ?_)
          refine go_aload k99_73 rfl ?_
          refine go_iload k99_74 rfl ?_
          refine go_aload k99_75 rfl ?_
          refine go_getR (bI := 0) k99_76 e32 hK0 (by decide) rfl rfl (fun r33 => ?_)
          refine go_int k99_79 100 rfl ?_
          refine go_iload k99_81 rfl ?_
          refine go_iadd k99_82 ?_
          refine go_ck (fun q35 => ?_)
          refine go_iald k99_83 e32 q35 (fun r34 => ?_)
          refine go_aload k99_84 rfl ?_
          refine go_getR (bI := 0) k99_85 e32 hK0 (by decide) rfl rfl (fun r36 => ?_)
          refine go_int k99_88 180 rfl ?_
          refine go_iload k99_91 rfl ?_
          refine go_iadd k99_92 ?_
          refine go_ck (fun q38 => ?_)
          refine go_iald k99_93 e32 q38 (fun r37 => ?_)
          refine go_aload k99_94 rfl ?_
          refine go_getR (bI := 0) k99_95 e32 hK0 (by decide) rfl rfl (fun r39 => ?_)
          refine go_int k99_98 220 rfl ?_
          refine go_iload k99_101 rfl ?_
          refine go_iadd k99_102 ?_
          refine go_ck (fun q41 => ?_)
          refine go_iald k99_103 e32 q41 (fun r40 => ?_)
          refine go_callN1 k99_104 rfl rfl rfl ⟨by decide, _, rfl, hK0⟩ ⟨Nat.zero_le _, Nat.zero_le _⟩ (by omega) (tfM_comes (by omega) e32 hK0  r2 r34 r37 r40) (fun y42 g44 r43 e45 => ?_)
          refine go_istore k99_107 rfl (loc2 := [some (sR v0), some (sI v1), some (sI v2), some (sI (g (g v0 0) (w32 (60 + v1)))), some (sI y42)]) rfl ?_
          refine go_aload k99_109 rfl ?_
          refine go_getR (bI := 5) k99_110 e45 hK0 (by decide) rfl rfl (fun r46 => ?_)
          refine go_iload k99_113 rfl ?_
          refine go_int k99_115 0 rfl ?_
          refine go_ck (fun q47 => ?_)
          refine go_zast k99_116 e45 q47 (Or.inl rfl) (fun g48 e49 => ?_)
          refine go_aload k99_117 rfl ?_
          refine go_getR (bI := 0) k99_118 e49 hK0 (by decide) rfl rfl (fun r50 => ?_)
          refine go_int k99_121 420 rfl ?_
          refine go_iload k99_124 rfl ?_
          refine go_iadd k99_125 ?_
          refine go_iload k99_126 rfl ?_
          refine go_ck (fun q51 => ?_)
          refine go_iast k99_128 e49 q51 r43 (fun g52 e53 => ?_)
          refine go_iload k99_129 rfl ?_
          exact go_iret k99_131 e53 r43 ⟨Nat.zero_le _, Nat.zero_le _⟩ rfl
    · refine go_int k99_47 (-1) rfl ?_
      exact go_iret k99_48 hg (inR_of (by decide)) ⟨Nat.zero_le _, Nat.zero_le _⟩ rfl
theorem tbM_inheritor_37 {Φ : ev_P} {d : Nat} (hd : 1 ≤ d) {g : gH} (hg : HR g) {v0 v1 : Int} (hK0 : kd v0 = 7) (h1 : InR v1) {X37 : Int → Option Int} (HX37 : ∀ (v3 : Int) (h3 : InR v3) (u2 : Option ev_V) (w2 : nwo u2), Go Φ pr_P (fP g) 1 (X37 v3) d pr_m101 37 [some (sR v0), some (sI v1), u2, some (sI v3)] [] g 0 0) : ∀ (v3 : Int) (h3 : InR v3) (u2 : Option ev_V) (w2 : nwo u2), Go Φ pr_P (fP g) 1 (bM_inheritor_37 g v0 v1 X37 v3) d pr_m101 37 [some (sR v0), some (sI v1), u2, some (sI v3)] [] g 0 0 := by
  intro v3 h3 u2 w2
  unfold bM_inheritor_37
  refine go_iload k101_37 rfl ?_
  refine go_aload k101_38 rfl ?_
  refine go_getR (bI := 0) k101_39 hg hK0 (by decide) rfl rfl (fun r17 => ?_)
  refine go_int k101_42 0 rfl ?_
  refine go_ck (fun q19 => ?_)
  refine go_iald k101_43 hg q19 (fun r18 => ?_)
  refine go_cmlt k101_44 h3 r18 (fun c20 => ?_) (fun c21 => ?_)
  · refine go_aload k101_47 rfl ?_
    refine go_iload k101_48 rfl ?_
    refine go_iload k101_49 rfl ?_
    refine go_int k101_50 0 rfl ?_
    refine go_callP3 k101_51 rfl rfl rfl ⟨by decide, _, rfl, hK0⟩ ⟨Nat.zero_le _, Nat.zero_le _⟩ (by omega) (tfM_isChild (by omega) hg hK0  h3 h1 (inR_b (Or.inl rfl))) (fun y22 r23 => ?_)
    refine go_ifeq k101_54 (inR_b r23) (fun c26 => ?_) (fun c27 => ?_)
    · refine go_iinc k101_68 rfl w2 1 rfl (loc2 := [some (sR v0), some (sI v1), u2, some (sI (w32 (v3 + 1)))]) rfl ?_
      refine go_goto k101_71 ?_
      exact HX37 (w32 (v3 + 1)) (inR_w32 _) u2 w2
    · refine go_aload k101_57 rfl ?_
      refine go_getR (bI := 5) k101_58 hg hK0 (by decide) rfl rfl (fun r28 => ?_)
      refine go_iload k101_61 rfl ?_
      refine go_ck (fun q30 => ?_)
      refine go_zald k101_62 hg q30 (fun r29 => ?_)
      refine go_ifeq k101_63 (inR_b r29) (fun c31 => ?_) (fun c32 => ?_)
      · refine go_iload k101_66 rfl ?_
        exact go_iret k101_67 hg h3 ⟨Nat.zero_le _, Nat.zero_le _⟩ rfl
      · refine go_iinc k101_68 rfl w2 1 rfl (loc2 := [some (sR v0), some (sI v1), u2, some (sI (w32 (v3 + 1)))]) rfl ?_
        refine go_goto k101_71 ?_
        exact HX37 (w32 (v3 + 1)) (inR_w32 _) u2 w2
  · refine go_aload k101_74 rfl ?_
    refine go_getR (bI := 0) k101_75 hg hK0 (by decide) rfl rfl (fun r33 => ?_)
    refine go_int k101_78 60 rfl ?_
    refine go_iload k101_80 rfl ?_
    refine go_iadd k101_81 ?_
    refine go_ck (fun q35 => ?_)
    refine go_iald k101_82 hg q35 (fun r34 => ?_)
    exact go_iret k101_83 hg r34 ⟨Nat.zero_le _, Nat.zero_le _⟩ rfl
theorem tlM_inheritor_37 {Φ : ev_P} {d : Nat} (hd : 1 ≤ d) {g : gH} (hg : HR g) {v0 v1 : Int} (hK0 : kd v0 = 7) (h1 : InR v1) : ∀ n : Nat, ∀ (v3 : Int) (h3 : InR v3) (u2 : Option ev_V) (w2 : nwo u2), Go Φ pr_P (fP g) 1 (lM_inheritor_37 g v0 v1 n v3) d pr_m101 37 [some (sR v0), some (sI v1), u2, some (sI v3)] [] g 0 0 := by
  intro n
  induction n with
  | zero => intros; exact go_none
  | succ n ih => exact tbM_inheritor_37 hd hg hK0 h1 ih
theorem tfM_inheritor {Φ : ev_P} {d : Nat} (hd : 1 ≤ d) {g : gH} (hg : HR g) {v0 v1 : Int} (hK0 : kd v0 = 7) (h1 : InR v1) : Go Φ pr_P (fP g) 1 (fM_inheritor g v0 v1) d (pr_P 101) 0 (ev_loc (pr_P 101).1 [(sR v0), (sI v1)]) [] g 0 0 := by
  show Go Φ pr_P (fP g) 1 (fM_inheritor g v0 v1) d pr_m101 0 [some (sR v0), some (sI v1), none, none] [] g 0 0
  unfold fM_inheritor
  refine go_aload k101_0 rfl ?_
  refine go_getR (bI := 0) k101_1 hg hK0 (by decide) rfl rfl (fun r1 => ?_)
  refine go_int k101_4 260 rfl ?_
  refine go_iload k101_7 rfl ?_
  refine go_iadd k101_8 ?_
  refine go_ck (fun q3 => ?_)
  refine go_iald k101_9 hg q3 (fun r2 => ?_)
  refine go_istore k101_10 rfl (loc2 := [some (sR v0), some (sI v1), some (sI (g (g v0 0) (w32 (260 + v1)))), none]) rfl ?_
  refine go_iload k101_11 rfl ?_
  refine go_int k101_12 (-1) rfl ?_
  refine go_cmeq k101_13 r2 (inR_of (by decide)) (fun c4 => ?_) (fun c5 => ?_)
  · refine go_int k101_35 0 rfl ?_
    refine go_istore k101_36 rfl (loc2 := [some (sR v0), some (sI v1), some (sI (g (g v0 0) (w32 (260 + v1)))), some (sI 0)]) rfl ?_
    exact tlM_inheritor_37 hd hg hK0 h1 fu 0 (inR_b (Or.inl rfl)) (some (sI (g (g v0 0) (w32 (260 + v1))))) rfl
  · refine go_aload k101_16 rfl ?_
    refine go_iload k101_17 rfl ?_
    refine go_callP3 k101_18 rfl rfl rfl ⟨by decide, _, rfl, hK0⟩ ⟨Nat.zero_le _, Nat.zero_le _⟩ (by omega) (tfM_runs (by omega) hg hK0  r2) (fun y6 r7 => ?_)
    refine go_ifeq k101_21 (inR_b r7) (fun c10 => ?_) (fun c11 => ?_)
    · refine go_int k101_35 0 rfl ?_
      refine go_istore k101_36 rfl (loc2 := [some (sR v0), some (sI v1), some (sI (g (g v0 0) (w32 (260 + v1)))), some (sI 0)]) rfl ?_
      exact tlM_inheritor_37 hd hg hK0 h1 fu 0 (inR_b (Or.inl rfl)) (some (sI (g (g v0 0) (w32 (260 + v1))))) rfl
    · refine go_aload k101_24 rfl ?_
      refine go_getR (bI := 5) k101_25 hg hK0 (by decide) rfl rfl (fun r12 => ?_)
      refine go_iload k101_28 rfl ?_
      refine go_ck (fun q14 => ?_)
      refine go_zald k101_29 hg q14 (fun r13 => ?_)
      refine go_ifeq k101_30 (inR_b r13) (fun c15 => ?_) (fun c16 => ?_)
      · refine go_iload k101_33 rfl ?_
        exact go_iret k101_34 hg r2 ⟨Nat.zero_le _, Nat.zero_le _⟩ rfl
      · refine go_int k101_35 0 rfl ?_
        refine go_istore k101_36 rfl (loc2 := [some (sR v0), some (sI v1), some (sI (g (g v0 0) (w32 (260 + v1)))), some (sI 0)]) rfl ?_
        exact tlM_inheritor_37 hd hg hK0 h1 fu 0 (inR_b (Or.inl rfl)) (some (sI (g (g v0 0) (w32 (260 + v1))))) rfl
theorem tfM_heirOf {Φ : ev_P} {d : Nat} (hd : 2 ≤ d) {g : gH} (hg : HR g) {v0 v1 v2 : Int} (hK0 : kd v0 = 7) (h1 : InR v1) (h2 : InR v2) : Go Φ pr_P (fP g) 1 (fM_heirOf g v0 v1 v2) d (pr_P 100) 0 (ev_loc (pr_P 100).1 [(sR v0), (sI v1), (sI v2)]) [] g 0 0 := by
  show Go Φ pr_P (fP g) 1 (fM_heirOf g v0 v1 v2) d pr_m100 0 [some (sR v0), some (sI v1), some (sI v2), none] [] g 0 0
  unfold fM_heirOf
  refine go_aload k100_0 rfl ?_
  refine go_getR (bI := 0) k100_1 hg hK0 (by decide) rfl rfl (fun r1 => ?_)
  refine go_int k100_4 460 rfl ?_
  refine go_int k100_7 8 rfl ?_
  refine go_iload k100_9 rfl ?_
  refine go_ibin k100_10 ?_
  refine go_iadd k100_11 ?_
  refine go_iload k100_12 rfl ?_
  refine go_iadd k100_13 ?_
  refine go_ck (fun q3 => ?_)
  refine go_iald k100_14 hg q3 (fun r2 => ?_)
  refine go_istore k100_15 rfl (loc2 := [some (sR v0), some (sI v1), some (sI v2), some (sI (g (g v0 0) (w32 ((w32 (460 + (opI 0 8 v1))) + v2))))]) rfl ?_
  refine go_iload k100_16 rfl ?_
  refine go_int k100_17 (-1) rfl ?_
  refine go_cmeq k100_18 r2 (inR_of (by decide)) (fun c4 => ?_) (fun c5 => ?_)
  · refine go_aload k100_42 rfl ?_
    refine go_iload k100_43 rfl ?_
    refine go_callP1 k100_44 rfl rfl rfl ⟨by decide, _, rfl, hK0⟩ ⟨Nat.zero_le _, Nat.zero_le _⟩ (by omega) (tfM_inheritor (by omega) hg hK0  h1) (fun y6 r7 => ?_)
    exact go_iret k100_47 hg r7 ⟨Nat.zero_le _, Nat.zero_le _⟩ rfl
  · refine go_aload k100_21 rfl ?_
    refine go_iload k100_22 rfl ?_
    refine go_callP3 k100_23 rfl rfl rfl ⟨by decide, _, rfl, hK0⟩ ⟨Nat.zero_le _, Nat.zero_le _⟩ (by omega) (tfM_runs (by omega) hg hK0  r2) (fun y10 r11 => ?_)
    refine go_ifeq k100_26 (inR_b r11) (fun c14 => ?_) (fun c15 => ?_)
    · refine go_aload k100_42 rfl ?_
      refine go_iload k100_43 rfl ?_
      refine go_callP1 k100_44 rfl rfl rfl ⟨by decide, _, rfl, hK0⟩ ⟨Nat.zero_le _, Nat.zero_le _⟩ (by omega) (tfM_inheritor (by omega) hg hK0  h1) (fun y16 r17 => ?_)
      exact go_iret k100_47 hg r17 ⟨Nat.zero_le _, Nat.zero_le _⟩ rfl
    · refine go_aload k100_29 rfl ?_
      refine go_getR (bI := 5) k100_30 hg hK0 (by decide) rfl rfl (fun r20 => ?_)
      refine go_iload k100_33 rfl ?_
      refine go_ck (fun q22 => ?_)
      refine go_zald k100_34 hg q22 (fun r21 => ?_)
      refine go_ifeq k100_35 (inR_b r21) (fun c23 => ?_) (fun c24 => ?_)
      · refine go_iload k100_38 rfl ?_
        refine go_goto k100_39 ?_
        exact go_iret k100_47 hg r2 ⟨Nat.zero_le _, Nat.zero_le _⟩ rfl
      · refine go_aload k100_42 rfl ?_
        refine go_iload k100_43 rfl ?_
        refine go_callP1 k100_44 rfl rfl rfl ⟨by decide, _, rfl, hK0⟩ ⟨Nat.zero_le _, Nat.zero_le _⟩ (by omega) (tfM_inheritor (by omega) hg hK0  h1) (fun y25 r26 => ?_)
        exact go_iret k100_47 hg r26 ⟨Nat.zero_le _, Nat.zero_le _⟩ rfl
theorem tbM_firstZombie_2 {Φ : ev_P} {d : Nat} (hd : 1 ≤ d) {g : gH} (hg : HR g) {v0 v1 : Int} (hK0 : kd v0 = 7) (h1 : InR v1) {X2 : Int → Option Int} (HX2 : ∀ (v2 : Int) (h2 : InR v2), Go Φ pr_P (fP g) 1 (X2 v2) d pr_m102 2 [some (sR v0), some (sI v1), some (sI v2)] [] g 0 0) : ∀ (v2 : Int) (h2 : InR v2), Go Φ pr_P (fP g) 1 (bM_firstZombie_2 g v0 v1 X2 v2) d pr_m102 2 [some (sR v0), some (sI v1), some (sI v2)] [] g 0 0 := by
  intro v2 h2
  unfold bM_firstZombie_2
  refine go_iload k102_2 rfl ?_
  refine go_aload k102_3 rfl ?_
  refine go_getR (bI := 0) k102_4 hg hK0 (by decide) rfl rfl (fun r1 => ?_)
  refine go_int k102_7 1 rfl ?_
  refine go_ck (fun q3 => ?_)
  refine go_iald k102_8 hg q3 (fun r2 => ?_)
  refine go_cmlt k102_9 h2 r2 (fun c4 => ?_) (fun c5 => ?_)
  · refine go_aload k102_12 rfl ?_
    refine go_aload k102_13 rfl ?_
    refine go_getR (bI := 0) k102_14 hg hK0 (by decide) rfl rfl (fun r6 => ?_)
    refine go_int k102_17 19 rfl ?_
    refine go_iload k102_19 rfl ?_
    refine go_iadd k102_20 ?_
    refine go_ck (fun q8 => ?_)
    refine go_iald k102_21 hg q8 (fun r7 => ?_)
    refine go_iload k102_22 rfl ?_
    refine go_int k102_23 1 rfl ?_
    refine go_callP3 k102_24 rfl rfl rfl ⟨by decide, _, rfl, hK0⟩ ⟨Nat.zero_le _, Nat.zero_le _⟩ (by omega) (tfM_isChild (by omega) hg hK0  r7 h1 (inR_b (Or.inr rfl))) (fun y9 r10 => ?_)
    refine go_ifeq k102_27 (inR_b r10) (fun c13 => ?_) (fun c14 => ?_)
    · refine go_iinc k102_40 rfl rfl 1 rfl (loc2 := [some (sR v0), some (sI v1), some (sI (w32 (v2 + 1)))]) rfl ?_
      refine go_goto k102_43 ?_
      exact HX2 (w32 (v2 + 1)) (inR_w32 _)
    · refine go_aload k102_30 rfl ?_
      refine go_getR (bI := 0) k102_31 hg hK0 (by decide) rfl rfl (fun r15 => ?_)
      refine go_int k102_34 19 rfl ?_
      refine go_iload k102_36 rfl ?_
      refine go_iadd k102_37 ?_
      refine go_ck (fun q17 => ?_)
      refine go_iald k102_38 hg q17 (fun r16 => ?_)
      exact go_iret k102_39 hg r16 ⟨Nat.zero_le _, Nat.zero_le _⟩ rfl
  · refine go_int k102_46 (-1) rfl ?_
    exact go_iret k102_47 hg (inR_of (by decide)) ⟨Nat.zero_le _, Nat.zero_le _⟩ rfl
theorem tlM_firstZombie_2 {Φ : ev_P} {d : Nat} (hd : 1 ≤ d) {g : gH} (hg : HR g) {v0 v1 : Int} (hK0 : kd v0 = 7) (h1 : InR v1) : ∀ n : Nat, ∀ (v2 : Int) (h2 : InR v2), Go Φ pr_P (fP g) 1 (lM_firstZombie_2 g v0 v1 n v2) d pr_m102 2 [some (sR v0), some (sI v1), some (sI v2)] [] g 0 0 := by
  intro n
  induction n with
  | zero => intros; exact go_none
  | succ n ih => exact tbM_firstZombie_2 hd hg hK0 h1 ih
theorem tfM_firstZombie {Φ : ev_P} {d : Nat} (hd : 1 ≤ d) {g : gH} (hg : HR g) {v0 v1 : Int} (hK0 : kd v0 = 7) (h1 : InR v1) : Go Φ pr_P (fP g) 1 (fM_firstZombie g v0 v1) d (pr_P 102) 0 (ev_loc (pr_P 102).1 [(sR v0), (sI v1)]) [] g 0 0 := by
  show Go Φ pr_P (fP g) 1 (fM_firstZombie g v0 v1) d pr_m102 0 [some (sR v0), some (sI v1), none] [] g 0 0
  unfold fM_firstZombie
  refine go_int k102_0 0 rfl ?_
  refine go_istore k102_1 rfl (loc2 := [some (sR v0), some (sI v1), some (sI 0)]) rfl ?_
  exact tlM_firstZombie_2 hd hg hK0 h1 fu 0 (inR_b (Or.inl rfl))
theorem tbM_readsAll_8 {Φ : ev_P} {d : Nat} (hd : 2 ≤ d) {v0 v1 : Int} (hK0 : kd v0 = 7) (h1 : InR v1) {X8 : Int → Int → gH → Option (Int × gH)} (HX8 : ∀ (v2 : Int) (h2 : InR v2) (v3 : Int) (h3 : InR v3) (g : gH) (hg : HR g), Go Φ pr_P fN 1 (X8 v2 v3 g) d pr_m103 8 [some (sR v0), some (sI v1), some (sI v2), some (sI v3)] [] g 0 0) : ∀ (v2 : Int) (h2 : InR v2) (v3 : Int) (h3 : InR v3) (g : gH) (hg : HR g), Go Φ pr_P fN 1 (bM_readsAll_8 v0 v1 X8 v2 v3 g) d pr_m103 8 [some (sR v0), some (sI v1), some (sI v2), some (sI v3)] [] g 0 0 := by
  intro v2 h2 v3 h3 g hg
  unfold bM_readsAll_8
  refine go_iload k103_8 rfl ?_
  refine go_int k103_9 (-1) rfl ?_
  refine go_cmeq k103_10 h3 (inR_of (by decide)) (fun c5 => ?_) (fun c6 => ?_)
  · refine go_iload k103_46 rfl ?_
    exact go_iret k103_47 hg h2 ⟨Nat.zero_le _, Nat.zero_le _⟩ rfl
  · refine go_aload k103_13 rfl ?_
    refine go_getR (bI := 0) k103_14 hg hK0 (by decide) rfl rfl (fun r7 => ?_)
    refine go_int k103_17 140 rfl ?_
    refine go_iload k103_20 rfl ?_
    refine go_iadd k103_21 ?_
    refine go_int k103_22 2 rfl ?_
    refine go_ck (fun q8 => ?_)
    refine go_iast k103_23 hg q8 (inR_of (by decide)) (fun g9 e10 => ?_)
    refine go_iload k103_24 rfl ?_
    refine go_aload k103_25 rfl ?_
    refine go_getR (bI := 0) k103_26 e10 hK0 (by decide) rfl rfl (fun r11 => ?_)
    refine go_int k103_29 300 rfl ?_
    refine go_iload k103_32 rfl ?_
    refine go_iadd k103_33 ?_
    refine go_ck (fun q13 => ?_)
    refine go_iald k103_34 e10 q13 (fun r12 => ?_)
    refine go_iadd k103_35 ?_
    refine go_istore k103_36 rfl (loc2 := [some (sR v0), some (sI v1), some (sI (w32 (v2 + (g9 (g9 v0 0) (w32 (300 + v3)))))), some (sI v3)]) rfl ?_
    refine go_aload k103_37 rfl ?_
    refine go_iload k103_38 rfl ?_
    refine go_callP1 k103_39 rfl rfl rfl ⟨by decide, _, rfl, hK0⟩ ⟨Nat.zero_le _, Nat.zero_le _⟩ (by omega) (tfM_firstZombie (by omega) e10 hK0  h1) (fun y14 r15 => ?_)
    refine go_istore k103_42 rfl (loc2 := [some (sR v0), some (sI v1), some (sI (w32 (v2 + (g9 (g9 v0 0) (w32 (300 + v3)))))), some (sI y14)]) rfl ?_
    refine go_goto k103_43 ?_
    exact HX8 (w32 (v2 + (g9 (g9 v0 0) (w32 (300 + v3))))) (inR_w32 _) y14 r15 g9 e10
theorem tlM_readsAll_8 {Φ : ev_P} {d : Nat} (hd : 2 ≤ d) {v0 v1 : Int} (hK0 : kd v0 = 7) (h1 : InR v1) : ∀ n : Nat, ∀ (v2 : Int) (h2 : InR v2) (v3 : Int) (h3 : InR v3) (g : gH) (hg : HR g), Go Φ pr_P fN 1 (lM_readsAll_8 v0 v1 n v2 v3 g) d pr_m103 8 [some (sR v0), some (sI v1), some (sI v2), some (sI v3)] [] g 0 0 := by
  intro n
  induction n with
  | zero => intros; exact go_none
  | succ n ih => exact tbM_readsAll_8 hd hK0 h1 ih
theorem tfM_readsAll {Φ : ev_P} {d : Nat} (hd : 2 ≤ d) {g : gH} (hg : HR g) {v0 v1 : Int} (hK0 : kd v0 = 7) (h1 : InR v1) : Go Φ pr_P fN 1 (fM_readsAll g v0 v1) d (pr_P 103) 0 (ev_loc (pr_P 103).1 [(sR v0), (sI v1)]) [] g 0 0 := by
  show Go Φ pr_P fN 1 (fM_readsAll g v0 v1) d pr_m103 0 [some (sR v0), some (sI v1), none, none] [] g 0 0
  unfold fM_readsAll
  refine go_int k103_0 0 rfl ?_
  refine go_istore k103_1 rfl (loc2 := [some (sR v0), some (sI v1), some (sI 0), none]) rfl ?_
  refine go_aload k103_2 rfl ?_
  refine go_iload k103_3 rfl ?_
  refine go_callP1 k103_4 rfl rfl rfl ⟨by decide, _, rfl, hK0⟩ ⟨Nat.zero_le _, Nat.zero_le _⟩ (by omega) (tfM_firstZombie (by omega) hg hK0  h1) (fun y1 r2 => ?_)
  refine go_istore k103_7 rfl (loc2 := [some (sR v0), some (sI v1), some (sI 0), some (sI y1)]) rfl ?_
  exact tlM_readsAll_8 hd hK0 h1 fu 0 (inR_b (Or.inl rfl)) y1 r2 g hg
theorem tjM_exits_253 {Φ : ev_P} {d : Nat} (hd : 7 ≤ d) {g : gH} (hg : HR g) {v0 v4 : Int} (hK0 : kd v0 = 7) (h4 : InR v4) {s0 : Int} (z0 : InR s0) (u1 : Option ev_V) (w1 : nwo u1) (u2 : Option ev_V) (w2 : nwo u2) (u3 : Option ev_V) (w3 : nwo u3) (u5 : Option ev_V) (w5 : nwo u5) (u6 : Option ev_V) (w6 : nwo u6) : Go Φ pr_P fN 1 (jM_exits_253 g v0 v4 s0 ) d pr_m104 253 [some (sR v0), u1, u2, u3, some (sI v4), u5, u6] [(sI s0)] g 0 0 := by
  unfold jM_exits_253
  refine go_istore k104_253 w5 (loc2 := [some (sR v0), u1, u2, u3, some (sI v4), u5, some (sI s0)]) rfl ?_
  refine go_iload k104_255 rfl ?_
  refine go_iflt k104_257 z0 (fun c112 => ?_) (fun c113 => ?_)
  · refine go_int k104_260 (-1) rfl ?_
    refine go_goto k104_261 ?_
    exact go_iret k104_273 hg (inR_of (by decide)) ⟨Nat.zero_le _, Nat.zero_le _⟩ rfl
  · refine go_aload k104_264 rfl ?_
    refine go_getR (bI := 0) k104_265 hg hK0 (by decide) rfl rfl (fun r114 => ?_)
    refine go_int k104_268 3 rfl ?_
    refine go_ck (fun q116 => ?_)
    refine go_iald k104_269 hg q116 (fun r115 => ?_)
    refine go_iload k104_270 rfl ?_
    refine go_isub k104_272 ?_
    exact go_iret k104_273 hg (inR_w32 _) ⟨Nat.zero_le _, Nat.zero_le _⟩ rfl
theorem tjM_exits_240 {Φ : ev_P} {d : Nat} (hd : 7 ≤ d) {g : gH} (hg : HR g) {v0 v3 v4 : Int} (hK0 : kd v0 = 7) (h3 : InR v3) (h4 : InR v4) (u1 : Option ev_V) (w1 : nwo u1) (u2 : Option ev_V) (w2 : nwo u2) (u5 : Option ev_V) (w5 : nwo u5) (u6 : Option ev_V) (w6 : nwo u6) : Go Φ pr_P fN 1 (jM_exits_240 g v0 v3 v4 ) d pr_m104 240 [some (sR v0), u1, u2, some (sI v3), some (sI v4), u5, u6] [] g 0 0 := by
  unfold jM_exits_240
  refine go_iload k104_240 rfl ?_
  refine go_ifeq k104_241 h3 (fun c106 => ?_) (fun c107 => ?_)
  · refine go_aload k104_244 rfl ?_
    refine go_int k104_245 0 rfl ?_
    refine go_callN1 k104_246 rfl rfl rfl ⟨by decide, _, rfl, hK0⟩ ⟨Nat.zero_le _, Nat.zero_le _⟩ (by omega) (tfM_readsAll (by omega) hg hK0  (inR_b (Or.inl rfl))) (fun y108 g110 r109 e111 => ?_)
    refine go_goto k104_249 ?_
    exact tjM_exits_253 hd e111 hK0 h4 r109 u1 w1 u2 w2 (some (sI v3)) rfl u5 w5 u6 w6
  · refine go_int k104_252 0 rfl ?_
    exact tjM_exits_253 hd hg hK0 h4 (inR_b (Or.inl rfl)) u1 w1 u2 w2 (some (sI v3)) rfl u5 w5 u6 w6
theorem tbM_exits_201 {Φ : ev_P} {d : Nat} (hd : 7 ≤ d) {v0 v1 v3 v4 : Int} (hK0 : kd v0 = 7) (h1 : InR v1) (h3 : InR v3) (h4 : InR v4) {X201 : Int → gH → Option (Int × gH)} (HX201 : ∀ (v6 : Int) (h6 : InR v6) (g : gH) (hg : HR g) (u2 : Option ev_V) (w2 : nwo u2) (u5 : Option ev_V) (w5 : nwo u5), Go Φ pr_P fN 1 (X201 v6 g) d pr_m104 201 [some (sR v0), some (sI v1), u2, some (sI v3), some (sI v4), u5, some (sI v6)] [] g 0 0) : ∀ (v6 : Int) (h6 : InR v6) (g : gH) (hg : HR g) (u2 : Option ev_V) (w2 : nwo u2) (u5 : Option ev_V) (w5 : nwo u5), Go Φ pr_P fN 1 (bM_exits_201 v0 v1 v3 v4 X201 v6 g) d pr_m104 201 [some (sR v0), some (sI v1), u2, some (sI v3), some (sI v4), u5, some (sI v6)] [] g 0 0 := by
  intro v6 h6 g hg u2 w2 u5 w5
  unfold bM_exits_201
  refine go_iload k104_201 rfl ?_
  refine go_aload k104_203 rfl ?_
  refine go_getR (bI := 0) k104_204 hg hK0 (by decide) rfl rfl (fun r91 => ?_)
  refine go_int k104_207 0 rfl ?_
  refine go_ck (fun q93 => ?_)
  refine go_iald k104_208 hg q93 (fun r92 => ?_)
  refine go_cmlt k104_209 h6 r92 (fun c94 => ?_) (fun c95 => ?_)
  · refine go_aload k104_212 rfl ?_
    refine go_iload k104_213 rfl ?_
    refine go_iload k104_215 rfl ?_
    refine go_int k104_216 1 rfl ?_
    refine go_callP3 k104_217 rfl rfl rfl ⟨by decide, _, rfl, hK0⟩ ⟨Nat.zero_le _, Nat.zero_le _⟩ (by omega) (tfM_isChild (by omega) hg hK0  h6 h1 (inR_b (Or.inr rfl))) (fun y96 r97 => ?_)
    refine go_ifeq k104_220 (inR_b r97) (fun c100 => ?_) (fun c101 => ?_)
    · refine go_iinc k104_234 rfl w5 1 rfl (loc2 := [some (sR v0), some (sI v1), u2, some (sI v3), some (sI v4), u5, some (sI (w32 (v6 + 1)))]) rfl ?_
      refine go_goto k104_237 ?_
      exact HX201 (w32 (v6 + 1)) (inR_w32 _) g hg u2 w2 u5 w5
    · refine go_aload k104_223 rfl ?_
      refine go_getR (bI := 0) k104_224 hg hK0 (by decide) rfl rfl (fun r102 => ?_)
      refine go_int k104_227 60 rfl ?_
      refine go_iload k104_229 rfl ?_
      refine go_iadd k104_231 ?_
      refine go_iload k104_232 rfl ?_
      refine go_ck (fun q103 => ?_)
      refine go_iast k104_233 hg q103 h3 (fun g104 e105 => ?_)
      refine go_iinc k104_234 rfl w5 1 rfl (loc2 := [some (sR v0), some (sI v1), u2, some (sI v3), some (sI v4), u5, some (sI (w32 (v6 + 1)))]) rfl ?_
      refine go_goto k104_237 ?_
      exact HX201 (w32 (v6 + 1)) (inR_w32 _) g104 e105 u2 w2 u5 w5
  · exact tjM_exits_240 hd hg hK0 h3 h4 (some (sI v1)) rfl u2 w2 u5 w5 (some (sI v6)) rfl
theorem tlM_exits_201 {Φ : ev_P} {d : Nat} (hd : 7 ≤ d) {v0 v1 v3 v4 : Int} (hK0 : kd v0 = 7) (h1 : InR v1) (h3 : InR v3) (h4 : InR v4) : ∀ n : Nat, ∀ (v6 : Int) (h6 : InR v6) (g : gH) (hg : HR g) (u2 : Option ev_V) (w2 : nwo u2) (u5 : Option ev_V) (w5 : nwo u5), Go Φ pr_P fN 1 (lM_exits_201 v0 v1 v3 v4 n v6 g) d pr_m104 201 [some (sR v0), some (sI v1), u2, some (sI v3), some (sI v4), u5, some (sI v6)] [] g 0 0 := by
  intro n
  induction n with
  | zero => intros; exact go_none
  | succ n ih => exact tbM_exits_201 hd hK0 h1 h3 h4 ih
theorem tbM_exits_134 {Φ : ev_P} {d : Nat} (hd : 7 ≤ d) {v0 v1 v3 v4 v5 : Int} (hK0 : kd v0 = 7) (h1 : InR v1) (h3 : InR v3) (h4 : InR v4) (h5 : InR v5) {X134 : Int → gH → Option (Int × gH)} (HX134 : ∀ (v6 : Int) (h6 : InR v6) (g : gH) (hg : HR g) (u2 : Option ev_V) (w2 : nwo u2), Go Φ pr_P fN 1 (X134 v6 g) d pr_m104 134 [some (sR v0), some (sI v1), u2, some (sI v3), some (sI v4), some (sI v5), some (sI v6)] [] g 0 0) : ∀ (v6 : Int) (h6 : InR v6) (g : gH) (hg : HR g) (u2 : Option ev_V) (w2 : nwo u2), Go Φ pr_P fN 1 (bM_exits_134 v0 v1 v3 v4 v5 X134 v6 g) d pr_m104 134 [some (sR v0), some (sI v1), u2, some (sI v3), some (sI v4), some (sI v5), some (sI v6)] [] g 0 0 := by
  intro v6 h6 g hg u2 w2
  unfold bM_exits_134
  refine go_iload k104_134 rfl ?_
  refine go_aload k104_136 rfl ?_
  refine go_getR (bI := 0) k104_137 hg hK0 (by decide) rfl rfl (fun r52 => ?_)
  refine go_int k104_140 0 rfl ?_
  refine go_ck (fun q54 => ?_)
  refine go_iald k104_141 hg q54 (fun r53 => ?_)
  refine go_cmlt k104_142 h6 r53 (fun c55 => ?_) (fun c56 => ?_)
  · refine go_aload k104_145 rfl ?_
    refine go_iload k104_146 rfl ?_
    refine go_iload k104_148 rfl ?_
    refine go_int k104_149 0 rfl ?_
    refine go_callP3 k104_150 rfl rfl rfl ⟨by decide, _, rfl, hK0⟩ ⟨Nat.zero_le _, Nat.zero_le _⟩ (by omega) (tfM_isChild (by omega) hg hK0  h6 h1 (inR_b (Or.inl rfl))) (fun y57 r58 => ?_)
    refine go_ifeq k104_153 (inR_b r58) (fun c61 => ?_) (fun c62 => ?_)
    · refine go_goto k104_156 ?_
      refine go_iinc k104_192 rfl rfl 1 rfl (loc2 := [some (sR v0), some (sI v1), u2, some (sI v3), some (sI v4), some (sI v5), some (sI (w32 (v6 + 1)))]) rfl ?_
      refine go_goto k104_195 ?_
      exact HX134 (w32 (v6 + 1)) (inR_w32 _) g hg u2 w2
    · refine go_aload k104_159 rfl ?_
      refine go_iload k104_160 rfl ?_
      refine go_int k104_162 (-1) rfl ?_
      refine go_cmeq k104_163 h5 (inR_of (by decide)) (fun c63 => ?_) (fun c64 => ?_)
      · refine go_aload k104_180 rfl ?_
        refine go_iload k104_181 rfl ?_
        refine go_iload k104_183 rfl ?_
        refine go_callP1 k104_184 rfl rfl rfl ⟨by decide, _, rfl, hK0⟩ ⟨Nat.zero_le _, Nat.zero_le _⟩ (by omega) (tfM_adopterOf (by omega) hg hK0  h6 h1) (fun y65 r66 => ?_)
        refine go_iload k104_187 rfl ?_
        refine go_callN0 k104_189 rfl rfl rfl ⟨by decide, _, rfl, hK0⟩ ⟨Nat.zero_le _, Nat.zero_le _⟩ (by omega) (tfM_adopts (by omega) hg hK0  r66 h6) (fun y69 g71 e72 => ?_)
        refine go_iinc k104_192 rfl rfl 1 rfl (loc2 := [some (sR v0), some (sI v1), u2, some (sI v3), some (sI v4), some (sI v5), some (sI (w32 (v6 + 1)))]) rfl ?_
        refine go_goto k104_195 ?_
        exact HX134 (w32 (v6 + 1)) (inR_w32 _) g71 e72 u2 w2
      · refine go_aload k104_166 rfl ?_
        refine go_iload k104_167 rfl ?_
        refine go_callP1 k104_169 rfl rfl rfl ⟨by decide, _, rfl, hK0⟩ ⟨Nat.zero_le _, Nat.zero_le _⟩ (by omega) (tfM_roomOf (by omega) hg hK0  h5) (fun y73 r74 => ?_)
        refine go_ifgt k104_172 r74 (fun c77 => ?_) (fun c78 => ?_)
        · refine go_iload k104_175 rfl ?_
          refine go_goto k104_177 ?_
          refine go_iload k104_187 rfl ?_
          refine go_callN0 k104_189 rfl rfl rfl ⟨by decide, _, rfl, hK0⟩ ⟨Nat.zero_le _, Nat.zero_le _⟩ (by omega) (tfM_adopts (by omega) hg hK0  h5 h6) (fun y79 g81 e82 => ?_)
          refine go_iinc k104_192 rfl rfl 1 rfl (loc2 := [some (sR v0), some (sI v1), u2, some (sI v3), some (sI v4), some (sI v5), some (sI (w32 (v6 + 1)))]) rfl ?_
          refine go_goto k104_195 ?_
          exact HX134 (w32 (v6 + 1)) (inR_w32 _) g81 e82 u2 w2
        · refine go_aload k104_180 rfl ?_
          refine go_iload k104_181 rfl ?_
          refine go_iload k104_183 rfl ?_
          refine go_callP1 k104_184 rfl rfl rfl ⟨by decide, _, rfl, hK0⟩ ⟨Nat.zero_le _, Nat.zero_le _⟩ (by omega) (tfM_adopterOf (by omega) hg hK0  h6 h1) (fun y83 r84 => ?_)
          refine go_iload k104_187 rfl ?_
          refine go_callN0 k104_189 rfl rfl rfl ⟨by decide, _, rfl, hK0⟩ ⟨Nat.zero_le _, Nat.zero_le _⟩ (by omega) (tfM_adopts (by omega) hg hK0  r84 h6) (fun y87 g89 e90 => ?_)
          refine go_iinc k104_192 rfl rfl 1 rfl (loc2 := [some (sR v0), some (sI v1), u2, some (sI v3), some (sI v4), some (sI v5), some (sI (w32 (v6 + 1)))]) rfl ?_
          refine go_goto k104_195 ?_
          exact HX134 (w32 (v6 + 1)) (inR_w32 _) g89 e90 u2 w2
  · refine go_int k104_198 1 rfl ?_
    refine go_istore k104_199 rfl (loc2 := [some (sR v0), some (sI v1), u2, some (sI v3), some (sI v4), some (sI v5), some (sI 1)]) rfl ?_
    exact tlM_exits_201 hd hK0 h1 h3 h4 fu 1 (inR_b (Or.inr rfl)) g hg u2 w2 (some (sI v5)) rfl
theorem tlM_exits_134 {Φ : ev_P} {d : Nat} (hd : 7 ≤ d) {v0 v1 v3 v4 v5 : Int} (hK0 : kd v0 = 7) (h1 : InR v1) (h3 : InR v3) (h4 : InR v4) (h5 : InR v5) : ∀ n : Nat, ∀ (v6 : Int) (h6 : InR v6) (g : gH) (hg : HR g) (u2 : Option ev_V) (w2 : nwo u2), Go Φ pr_P fN 1 (lM_exits_134 v0 v1 v3 v4 v5 n v6 g) d pr_m104 134 [some (sR v0), some (sI v1), u2, some (sI v3), some (sI v4), some (sI v5), some (sI v6)] [] g 0 0 := by
  intro n
  induction n with
  | zero => intros; exact go_none
  | succ n ih => exact tbM_exits_134 hd hK0 h1 h3 h4 h5 ih
theorem tbM_exits_76 {Φ : ev_P} {d : Nat} (hd : 7 ≤ d) {v0 v1 v3 v4 v5 : Int} (hK0 : kd v0 = 7) (h1 : InR v1) (h3 : InR v3) (h4 : InR v4) (h5 : InR v5) {X76 : Int → gH → Option (Int × gH)} (HX76 : ∀ (v6 : Int) (h6 : InR v6) (g : gH) (hg : HR g) (u2 : Option ev_V) (w2 : nwo u2), Go Φ pr_P fN 1 (X76 v6 g) d pr_m104 76 [some (sR v0), some (sI v1), u2, some (sI v3), some (sI v4), some (sI v5), some (sI v6)] [] g 0 0) : ∀ (v6 : Int) (h6 : InR v6) (g : gH) (hg : HR g) (u2 : Option ev_V) (w2 : nwo u2), Go Φ pr_P fN 1 (bM_exits_76 v0 v1 v3 v4 v5 X76 v6 g) d pr_m104 76 [some (sR v0), some (sI v1), u2, some (sI v3), some (sI v4), some (sI v5), some (sI v6)] [] g 0 0 := by
  intro v6 h6 g hg u2 w2
  unfold bM_exits_76
  refine go_iload k104_76 rfl ?_
  refine go_int k104_78 8 rfl ?_
  refine go_cmlt k104_80 h6 (inR_of (by decide)) (fun c32 => ?_) (fun c33 => ?_)
  · refine go_aload k104_83 rfl ?_
    refine go_getR (bI := 0) k104_84 hg hK0 (by decide) rfl rfl (fun r34 => ?_)
    refine go_int k104_87 11 rfl ?_
    refine go_iload k104_89 rfl ?_
    refine go_iadd k104_91 ?_
    refine go_ck (fun q36 => ?_)
    refine go_iald k104_92 hg q36 (fun r35 => ?_)
    refine go_iload k104_93 rfl ?_
    refine go_cmeq k104_94 r35 h1 (fun c37 => ?_) (fun c38 => ?_)
    · refine go_aload k104_97 rfl ?_
      refine go_getR (bI := 0) k104_98 hg hK0 (by decide) rfl rfl (fun r39 => ?_)
      refine go_int k104_101 11 rfl ?_
      refine go_iload k104_103 rfl ?_
      refine go_iadd k104_105 ?_
      refine go_iload k104_106 rfl ?_
      refine go_int k104_108 (-1) rfl ?_
      refine go_cmeq k104_109 h5 (inR_of (by decide)) (fun c40 => ?_) (fun c41 => ?_)
      · refine go_aload k104_117 rfl ?_
        refine go_iload k104_118 rfl ?_
        refine go_iload k104_119 rfl ?_
        refine go_callP1 k104_121 rfl rfl rfl ⟨by decide, _, rfl, hK0⟩ ⟨Nat.zero_le _, Nat.zero_le _⟩ (by omega) (tfM_heirOf (by omega) hg hK0  h1 h6) (fun y42 r43 => ?_)
        refine go_ck (fun q46 => ?_)
        refine go_iast k104_124 hg q46 r43 (fun g47 e48 => ?_)
        refine go_iinc k104_125 rfl rfl 1 rfl (loc2 := [some (sR v0), some (sI v1), u2, some (sI v3), some (sI v4), some (sI v5), some (sI (w32 (v6 + 1)))]) rfl ?_
        refine go_goto k104_128 ?_
        exact HX76 (w32 (v6 + 1)) (inR_w32 _) g47 e48 u2 w2
      · refine go_iload k104_112 rfl ?_
        refine go_goto k104_114 ?_
        refine go_ck (fun q49 => ?_)
        refine go_iast k104_124 hg q49 h5 (fun g50 e51 => ?_)
        refine go_iinc k104_125 rfl rfl 1 rfl (loc2 := [some (sR v0), some (sI v1), u2, some (sI v3), some (sI v4), some (sI v5), some (sI (w32 (v6 + 1)))]) rfl ?_
        refine go_goto k104_128 ?_
        exact HX76 (w32 (v6 + 1)) (inR_w32 _) g50 e51 u2 w2
    · refine go_iinc k104_125 rfl rfl 1 rfl (loc2 := [some (sR v0), some (sI v1), u2, some (sI v3), some (sI v4), some (sI v5), some (sI (w32 (v6 + 1)))]) rfl ?_
      refine go_goto k104_128 ?_
      exact HX76 (w32 (v6 + 1)) (inR_w32 _) g hg u2 w2
  · refine go_int k104_131 1 rfl ?_
    refine go_istore k104_132 rfl (loc2 := [some (sR v0), some (sI v1), u2, some (sI v3), some (sI v4), some (sI v5), some (sI 1)]) rfl ?_
    exact tlM_exits_134 hd hK0 h1 h3 h4 h5 fu 1 (inR_b (Or.inr rfl)) g hg u2 w2
theorem tlM_exits_76 {Φ : ev_P} {d : Nat} (hd : 7 ≤ d) {v0 v1 v3 v4 v5 : Int} (hK0 : kd v0 = 7) (h1 : InR v1) (h3 : InR v3) (h4 : InR v4) (h5 : InR v5) : ∀ n : Nat, ∀ (v6 : Int) (h6 : InR v6) (g : gH) (hg : HR g) (u2 : Option ev_V) (w2 : nwo u2), Go Φ pr_P fN 1 (lM_exits_76 v0 v1 v3 v4 v5 n v6 g) d pr_m104 76 [some (sR v0), some (sI v1), u2, some (sI v3), some (sI v4), some (sI v5), some (sI v6)] [] g 0 0 := by
  intro n
  induction n with
  | zero => intros; exact go_none
  | succ n ih => exact tbM_exits_76 hd hK0 h1 h3 h4 h5 ih
theorem tfM_exits {Φ : ev_P} {d : Nat} (hd : 7 ≤ d) {g : gH} (hg : HR g) {v0 v1 v2 : Int} (hK0 : kd v0 = 7) (h1 : InR v1) (h2 : InR v2) : Go Φ pr_P fN 1 (fM_exits g v0 v1 v2) d (pr_P 104) 0 (ev_loc (pr_P 104).1 [(sR v0), (sI v1), (sI v2)]) [] g 0 0 := by
  show Go Φ pr_P fN 1 (fM_exits g v0 v1 v2) d pr_m104 0 [some (sR v0), some (sI v1), some (sI v2), none, none, none, none] [] g 0 0
  unfold fM_exits
  refine go_aload k104_0 rfl ?_
  refine go_getR (bI := 0) k104_1 hg hK0 (by decide) rfl rfl (fun r1 => ?_)
  refine go_int k104_4 60 rfl ?_
  refine go_iload k104_6 rfl ?_
  refine go_iadd k104_7 ?_
  refine go_ck (fun q3 => ?_)
  refine go_iald k104_8 hg q3 (fun r2 => ?_)
  refine go_istore k104_9 rfl (loc2 := [some (sR v0), some (sI v1), some (sI v2), some (sI (g (g v0 0) (w32 (60 + v1)))), none, none, none]) rfl ?_
  refine go_aload k104_10 rfl ?_
  refine go_getR (bI := 0) k104_11 hg hK0 (by decide) rfl rfl (fun r4 => ?_)
  refine go_int k104_14 3 rfl ?_
  refine go_ck (fun q6 => ?_)
  refine go_iald k104_15 hg q6 (fun r5 => ?_)
  refine go_istore k104_16 rfl (loc2 := [some (sR v0), some (sI v1), some (sI v2), some (sI (g (g v0 0) (w32 (60 + v1)))), some (sI (g (g v0 0) 3)), none, none]) rfl ?_
  refine go_aload k104_18 rfl ?_
  refine go_getR (bI := 0) k104_19 hg hK0 (by decide) rfl rfl (fun r7 => ?_)
  refine go_int k104_22 140 rfl ?_
  refine go_iload k104_25 rfl ?_
  refine go_iadd k104_26 ?_
  refine go_int k104_27 1 rfl ?_
  refine go_ck (fun q8 => ?_)
  refine go_iast k104_28 hg q8 (inR_b (Or.inr rfl)) (fun g9 e10 => ?_)
  refine go_aload k104_29 rfl ?_
  refine go_getR (bI := 0) k104_30 e10 hK0 (by decide) rfl rfl (fun r11 => ?_)
  refine go_int k104_33 300 rfl ?_
  refine go_iload k104_36 rfl ?_
  refine go_iadd k104_37 ?_
  refine go_iload k104_38 rfl ?_
  refine go_ck (fun q12 => ?_)
  refine go_iast k104_39 e10 q12 h2 (fun g13 e14 => ?_)
  refine go_aload k104_40 rfl ?_
  refine go_getR (bI := 0) k104_41 e14 hK0 (by decide) rfl rfl (fun r15 => ?_)
  refine go_int k104_44 19 rfl ?_
  refine go_aload k104_46 rfl ?_
  refine go_getR (bI := 0) k104_47 e14 hK0 (by decide) rfl rfl (fun r16 => ?_)
  refine go_int k104_50 1 rfl ?_
  refine go_ck (fun q18 => ?_)
  refine go_iald k104_51 e14 q18 (fun r17 => ?_)
  refine go_iadd k104_52 ?_
  refine go_iload k104_53 rfl ?_
  refine go_ck (fun q19 => ?_)
  refine go_iast k104_54 e14 q19 h1 (fun g20 e21 => ?_)
  refine go_aload k104_55 rfl ?_
  refine go_getR (bI := 0) k104_56 e21 hK0 (by decide) rfl rfl (fun r22 => ?_)
  refine go_int k104_59 1 rfl ?_
  refine go_dup2 k104_60 ?_
  refine go_ck (fun q24 => ?_)
  refine go_iald k104_61 e21 q24 (fun r23 => ?_)
  refine go_int k104_62 1 rfl ?_
  refine go_iadd k104_63 ?_
  refine go_ck (fun q25 => ?_)
  refine go_iast k104_64 e21 q25 (inR_w32 _) (fun g26 e27 => ?_)
  refine go_aload k104_65 rfl ?_
  refine go_iload k104_66 rfl ?_
  refine go_iload k104_67 rfl ?_
  refine go_callN1 k104_68 rfl rfl rfl ⟨by decide, _, rfl, hK0⟩ ⟨Nat.zero_le _, Nat.zero_le _⟩ (by omega) (tfM_replaces (by omega) e27 hK0  h1 h2) (fun y28 g30 r29 e31 => ?_)
  refine go_istore k104_71 rfl (loc2 := [some (sR v0), some (sI v1), some (sI v2), some (sI (g (g v0 0) (w32 (60 + v1)))), some (sI (g (g v0 0) 3)), some (sI y28), none]) rfl ?_
  refine go_int k104_73 0 rfl ?_
  refine go_istore k104_74 rfl (loc2 := [some (sR v0), some (sI v1), some (sI v2), some (sI (g (g v0 0) (w32 (60 + v1)))), some (sI (g (g v0 0) 3)), some (sI y28), some (sI 0)]) rfl ?_
  exact tlM_exits_76 hd hK0 h1 r2 r5 r29 fu 0 (inR_b (Or.inl rfl)) g30 e31 (some (sI v2)) rfl
theorem tjM_noExit_50 {Φ : ev_P} {d : Nat} (hd : 2 ≤ d) {g : gH} (hg : HR g) {s0 s1 : Int} (z0 : RfR s0) (z1 : B01 s1) (u0 : Option ev_V) (w0 : nwo u0) (u1 : Option ev_V) (w1 : nwo u1) (u2 : Option ev_V) (w2 : nwo u2) : Go Φ pr_P fN 3 (jM_noExit_50 g s0 s1 ) d pr_m159 50 [u0, u1, u2] [(sI s1), (sR s0)] g 0 0 := by
  unfold jM_noExit_50
  refine go_int k159_50 3 rfl ?_
  refine go_ck (fun q28 => ?_)
  refine go_callN3 k159_51 rfl rfl rfl ⟨by decide, _, rfl, q28⟩ ⟨Nat.zero_le _, Nat.zero_le _⟩ (by omega) (tfM_fails (by omega) hg q28  z1 (inR_of (by decide))) (fun y29 g31 r30 e32 => ?_)
  refine go_ifeq k159_54 (inR_b r30) (fun c33 => ?_) (fun c34 => ?_)
  · refine go_int k159_61 0 rfl ?_
    exact go_bret k159_62 e32 (Or.inl rfl) ⟨Nat.zero_le _, Nat.zero_le _⟩ rfl
  · refine go_int k159_57 1 rfl ?_
    refine go_goto k159_58 ?_
    exact go_bret k159_62 e32 (Or.inr rfl) ⟨Nat.zero_le _, Nat.zero_le _⟩ rfl
theorem tjM_noExit_45 {Φ : ev_P} {d : Nat} (hd : 2 ≤ d) {g : gH} (hg : HR g) {s0 : Int} (z0 : RfR s0) (u0 : Option ev_V) (w0 : nwo u0) (u1 : Option ev_V) (w1 : nwo u1) (u2 : Option ev_V) (w2 : nwo u2) : Go Φ pr_P fN 3 (jM_noExit_45 g s0 ) d pr_m159 45 [u0, u1, u2] [(sR s0)] g 0 0 := by
  unfold jM_noExit_45
  refine go_int k159_45 1 rfl ?_
  refine go_goto k159_46 ?_
  exact tjM_noExit_50 hd hg z0 (Or.inr rfl) u0 w0 u1 w1 u2 w2
theorem tjM_noExit_25 {Φ : ev_P} {d : Nat} (hd : 2 ≤ d) {g : gH} (hg : HR g) {v0 v1 : Int} (hK0 : kd v0 = 7) (h1 : InR v1) {s0 s1 : Int} (z0 : RfR s0) (z1 : B01 s1) (u2 : Option ev_V) (w2 : nwo u2) : Go Φ pr_P fN 3 (jM_noExit_25 g v0 v1 s0 s1 ) d pr_m159 25 [some (sR v0), some (sI v1), u2] [(sI s1), (sR s0)] g 0 0 := by
  unfold jM_noExit_25
  refine go_int k159_25 2 rfl ?_
  refine go_ck (fun q13 => ?_)
  refine go_callN3 k159_26 rfl rfl rfl ⟨by decide, _, rfl, q13⟩ ⟨Nat.zero_le _, Nat.zero_le _⟩ (by omega) (tfM_fails (by omega) hg q13  z1 (inR_of (by decide))) (fun y14 g16 r15 e17 => ?_)
  refine go_ifeq k159_29 (inR_b r15) (fun c18 => ?_) (fun c19 => ?_)
  · refine go_aload k159_32 rfl ?_
    refine go_iload k159_33 rfl ?_
    refine go_ifeq k159_34 h1 (fun c20 => ?_) (fun c21 => ?_)
    · exact tjM_noExit_45 hd e17 (rfR_kd hK0 (by decide)) (some (sR v0)) rfl (some (sI v1)) rfl u2 w2
    · refine go_aload k159_37 rfl ?_
      refine go_iload k159_38 rfl ?_
      refine go_callP3 k159_39 rfl rfl rfl ⟨by decide, _, rfl, hK0⟩ ⟨Nat.zero_le _, Nat.zero_le _⟩ (by omega) (tfM_runs (by omega) e17 hK0  h1) (fun y22 r23 => ?_)
      refine go_ifeq k159_42 (inR_b r23) (fun c26 => ?_) (fun c27 => ?_)
      · exact tjM_noExit_45 hd e17 (rfR_kd hK0 (by decide)) (some (sR v0)) rfl (some (sI v1)) rfl u2 w2
      · refine go_int k159_49 0 rfl ?_
        exact tjM_noExit_50 hd e17 (rfR_kd hK0 (by decide)) (Or.inl rfl) (some (sR v0)) rfl (some (sI v1)) rfl u2 w2
  · refine go_int k159_57 1 rfl ?_
    refine go_goto k159_58 ?_
    exact go_bret k159_62 e17 (Or.inr rfl) ⟨Nat.zero_le _, Nat.zero_le _⟩ rfl
theorem tfM_noExit {Φ : ev_P} {d : Nat} (hd : 2 ≤ d) {g : gH} (hg : HR g) {v0 v1 v2 : Int} (hK0 : kd v0 = 7) (h1 : InR v1) (h2 : InR v2) : Go Φ pr_P fN 3 (fM_noExit g v0 v1 v2) d (pr_P 159) 0 (ev_loc (pr_P 159).1 [(sR v0), (sI v1), (sI v2)]) [] g 0 0 := by
  show Go Φ pr_P fN 3 (fM_noExit g v0 v1 v2) d pr_m159 0 [some (sR v0), some (sI v1), some (sI v2)] [] g 0 0
  unfold fM_noExit
  refine go_aload k159_0 rfl ?_
  refine go_iload k159_1 rfl ?_
  refine go_callN3 k159_2 rfl rfl rfl ⟨by decide, _, rfl, hK0⟩ ⟨Nat.zero_le _, Nat.zero_le _⟩ (by omega) (tfM_noProcess (by omega) hg hK0  h1) (fun y1 g3 r2 e4 => ?_)
  refine go_ifeq k159_5 (inR_b r2) (fun c5 => ?_) (fun c6 => ?_)
  · refine go_aload k159_8 rfl ?_
    refine go_iload k159_9 rfl ?_
    refine go_int k159_10 0 rfl ?_
    refine go_int k159_11 255 rfl ?_
    refine go_callP3 k159_14 rfl rfl rfl trivial ⟨Nat.zero_le _, Nat.zero_le _⟩ (by omega) (tfM_inRange (by omega) e4  h2 (inR_b (Or.inl rfl)) (inR_of (by decide))) (fun y7 r8 => ?_)
    refine go_ifeq k159_17 (inR_b r8) (fun c11 => ?_) (fun c12 => ?_)
    · refine go_int k159_20 1 rfl ?_
      refine go_goto k159_21 ?_
      exact tjM_noExit_25 hd e4 hK0 h1 (rfR_kd hK0 (by decide)) (Or.inr rfl) (some (sI v2)) rfl
    · refine go_int k159_24 0 rfl ?_
      exact tjM_noExit_25 hd e4 hK0 h1 (rfR_kd hK0 (by decide)) (Or.inl rfl) (some (sI v2)) rfl
  · refine go_int k159_57 1 rfl ?_
    refine go_goto k159_58 ?_
    exact go_bret k159_62 e4 (Or.inr rfl) ⟨Nat.zero_le _, Nat.zero_le _⟩ rfl
