/-! ===== the law's and the JDK's methods as functions, and that the machine comes to what they tell (own work, by program: wip/p67/gen/lawdec.py) ===== -/
noncomputable def j111_470 (X17 : Int → sS → Option (Int × sS)) (v0 : Int) (v1 : Int) (v2 : Int) (v3 : Int) (v4 : Int) (v5 : Int) (v6 : Int) (S : sS) : Option (Int × sS) :=
  if sK S v5 = 7 then bnd (sg S v5 7) (fun r295 => if r295 = 0 then (if 0 < v6 then (if v1 = sb S ∧ 0 ≤ v1 then bdC (fQ (sc S)) (fC_adopter (sc S) 0 v6) (fun y302 c303 => bnd (cS S c303) (fun S304 => bnd (sg S304 v5 2) (fun r308 => if sK S304 r308 = 7 then bdS (q106_adopter S304 v0 v5 r308) (fun y311 S312 => if sK S312 y311 = 7 then bnd (sg S312 y311 0) (fun r317 => if y302 = r317 then (if v1 = sb S312 ∧ 0 ≤ v1 then bdC (fQ (sc S312)) (fC_heirNow (sc S312) 0 v6) (fun y322 c323 => bnd (cS S312 c323) (fun S324 => bdS (q109_heir S324 v0 v5) (fun y328 S329 => if sK S329 y328 = 7 then bnd (sg S329 y328 0) (fun r334 => if y322 = r334 then (X17 v3 S329) else (some ((0 : Int), S329))) else none))) else none) else (some ((0 : Int), S312))) else none) else none))) else none) else (X17 v3 S)) else (X17 v3 S)) else none
theorem tj111_470 {κ : CX} (hQ : κ.2.2.2.2.2.2.2.2.2 = (ql_I, ql_P)) {n0 s0 : Int} {d : Nat} (hd : 70 ≤ d) {v0 v1 v2 v3 v4 v5 v6 : Int} (h0 : RfO v0) (h1 : RfO v1) (h2 : RfO v2) (h3 : InR v3) (h4 : RfO v4) (h5 : RfO v5) (h6 : InR v6) {X17 : Int → sS → Option (Int × sS)} (HX17 : ∀ (v3 : Int) (h3 : InR v3) (S : sS) (hW : WF2 κ S) (hK0 : sK S v0 = 8) (u5 : Option ev_V) (w5 : nwo u5) (u6 : Option ev_V) (w6 : nwo u6) (u7 : Option ev_V) (w7 : nwo u7) (u8 : Option ev_V) (w8 : nwo u8) (u9 : Option ev_V) (w9 : nwo u9), G2 κ ql_i111 ql_m111 3 d n0 s0 (X17 v3 S) 17 [some (sR v0), some (sR v1), some (sR v2), some (sI v3), some (sR v4), u5, u6, u7, u8, u9] [] S) (S : sS) (hW : WF2 κ S) (hK0 : sK S v0 = 8) (u7 : Option ev_V) (w7 : nwo u7) (u8 : Option ev_V) (w8 : nwo u8) (u9 : Option ev_V) (w9 : nwo u9) : G2 κ ql_i111 ql_m111 3 d n0 s0 (j111_470 X17 v0 v1 v2 v3 v4 v5 v6 S) 470 [some (sR v0), some (sR v1), some (sR v2), some (sI v3), some (sR v4), some (sR v5), some (sI v6), u7, u8, u9] [] S := by
  unfold j111_470
  refine g2_aload qk111_3.2.1.1.1.1.2 rfl ?_
  refine g2_ck (fun q294 => ?_)
  refine g2_kn q294 (g2_getI qk111_3.2.1.1.1.2.1 hW ⟨by decide, by decide, by decide, rfl⟩ (fun r295 x296 => ?_))
  refine g2_ifeq qk111_3.2.1.1.1.2.2 x296 (fun c297 => ?_) (fun c298 => ?_)
  · refine g2_iload qk111_3.2.1.1.2.1.1 rfl ?_
    refine g2_ifgt qk111_3.2.1.1.2.1.2 h6 (fun c299 => ?_) (fun c300 => ?_)
    · refine g2_aload qk111_3.2.1.1.2.2.1 rfl ?_
      refine g2_iload qk111_3.2.1.1.2.2.2 rfl ?_
      refine g2_ck (fun q301 => ?_)
      refine g2_kn q301 (g2_callC (t' := 1) (Is := [v6]) qk111_3.2.1.2.1.1.1 (by decide) rfl rfl (by omega) hW (Or.inl rfl) (by decide) ⟨rfl, rfl⟩ (tfC_adopter (by omega) hW.1.2 kd_c0 h6) (fun y302 S304 x305 m306 e307 => ?_))
      refine g2_aload qk111_3.2.1.2.1.1.2 rfl ?_
      refine g2_aload qk111_3.2.1.2.1.2.1 rfl ?_
      refine g2_aload qk111_3.2.1.2.1.2.2 rfl ?_
      refine g2_kn (ek e307 q294 (by decide)) (g2_getR qk111_3.2.1.2.2.1.1 m306 ⟨by decide, by decide, by decide, rfl⟩ (fun r308 x309 => ?_))
      refine g2_ck (fun q310 => ?_)
      refine g2_kn (ek e307 hK0 (by decide)) (g2_callV (t' := 2) qk111_3.2.1.2.2.1.2 (by decide) (ql_ip106 hQ) (by decide) rfl rfl rfl (by omega) m306 (tq106_adopter hQ (by omega) m306 (ek e307 hK0 (by decide)) (ek e307 q294 (by decide)) q310 h0 h5 x309) (fun y311 S312 x313 m314 e315 => ?_))
      refine g2_ck (fun q316 => ?_)
      refine g2_kn q316 (g2_getI qk111_3.2.1.2.2.2.1 m314 ⟨by decide, by decide, by decide, rfl⟩ (fun r317 x318 => ?_))
      refine g2_cmeq qk111_3.2.1.2.2.2.2 x305 x318 (fun c319 => ?_) (fun c320 => ?_)
      · refine g2_aload qk111_3.2.2.1.1.1.1 rfl ?_
        refine g2_iload qk111_3.2.2.1.1.1.2 rfl ?_
        refine g2_ck (fun q321 => ?_)
        refine g2_kn q321 (g2_callC (t' := 1) (Is := [v6]) qk111_3.2.2.1.1.2.1 (by decide) rfl rfl (by omega) m314 (Or.inl rfl) (by decide) ⟨rfl, rfl⟩ (tfC_heirNow (by omega) m314.1.2 kd_c0 h6) (fun y322 S324 x325 m326 e327 => ?_))
        refine g2_aload qk111_3.2.2.1.1.2.2 rfl ?_
        refine g2_aload qk111_3.2.2.1.2.1.1 rfl ?_
        refine g2_kn (ek e327 (ek e315 (ek e307 hK0 (by decide)) (by decide)) (by decide)) (g2_callV (t' := 2) qk111_3.2.2.1.2.1.2 (by decide) (ql_ip109 hQ) (by decide) rfl rfl rfl (by omega) m326 (tq109_heir hQ (by omega) m326 (ek e327 (ek e315 (ek e307 hK0 (by decide)) (by decide)) (by decide)) (ek e327 (ek e315 (ek e307 q294 (by decide)) (by decide)) (by decide)) h0 h5) (fun y328 S329 x330 m331 e332 => ?_))
        refine g2_ck (fun q333 => ?_)
        refine g2_kn q333 (g2_getI qk111_3.2.2.1.2.2.1 m331 ⟨by decide, by decide, by decide, rfl⟩ (fun r334 x335 => ?_))
        refine g2_cmeq qk111_3.2.2.1.2.2.2 x325 x335 (fun c336 => ?_) (fun c337 => ?_)
        · refine g2_goto qk111_3.2.2.2.1.2.1 ?_
          exact HX17 v3 h3 S329 m331 (ek e332 (ek e327 (ek e315 (ek e307 hK0 (by decide)) (by decide)) (by decide)) (by decide)) (some (sR v5)) rfl (some (sI v6)) rfl u7 w7 u8 w8 u9 w9
        · refine g2_int qk111_3.2.2.2.1.1.1 (0 : Int) rfl ?_
          exact g2_zret qk111_3.2.2.2.1.1.2 m331 (Or.inl rfl)
      · refine g2_int qk111_3.2.2.2.1.1.1 (0 : Int) rfl ?_
        exact g2_zret qk111_3.2.2.2.1.1.2 m314 (Or.inl rfl)
    · refine g2_goto qk111_3.2.2.2.1.2.1 ?_
      exact HX17 v3 h3 S hW hK0 (some (sR v5)) rfl (some (sI v6)) rfl u7 w7 u8 w8 u9 w9
  · refine g2_goto qk111_3.2.2.2.1.2.1 ?_
    exact HX17 v3 h3 S hW hK0 (some (sR v5)) rfl (some (sI v6)) rfl u7 w7 u8 w8 u9 w9
noncomputable def j111_427 (X17 : Int → sS → Option (Int × sS)) (v0 : Int) (v1 : Int) (v2 : Int) (v3 : Int) (v4 : Int) (v5 : Int) (v6 : Int) (v8 : Int) (a0 : Int) (a1 : Int) (S : sS) : Option (Int × sS) :=
  if a0 = a1 then (if v1 = sb S ∧ 0 ≤ v1 then bdC (fQ (sc S)) (fC_process (sc S) 0 v6 (14 : Int)) (fun y267 c268 => bnd (cS S c268) (fun S269 => if y267 = v8 then (if sK S269 v5 = 7 then bnd (sg S269 v5 7) (fun r276 => if r276 < (2 : Int) then (if v1 = sb S269 ∧ 0 ≤ v1 then bdC (fQ (sc S269)) (fC_depth (sc S269) 0 v6) (fun y281 c282 => bnd (cS S269 c282) (fun S283 => bdS (q116_depth S283 v5) (fun y287 S288 => if y281 = y287 then (j111_470 X17 v0 v1 v2 v3 v4 v5 v6 S288) else (some ((0 : Int), S288))))) else none) else (j111_470 X17 v0 v1 v2 v3 v4 v5 v6 S269)) else none) else (some ((0 : Int), S269)))) else none) else (some ((0 : Int), S))
theorem tj111_427 {κ : CX} (hQ : κ.2.2.2.2.2.2.2.2.2 = (ql_I, ql_P)) {n0 s0 : Int} {d : Nat} (hd : 70 ≤ d) {v0 v1 v2 v3 v4 v5 v6 v8 : Int} {a0 a1 : Int} (h0 : RfO v0) (h1 : RfO v1) (h2 : RfO v2) (h3 : InR v3) (h4 : RfO v4) (h5 : RfO v5) (h6 : InR v6) (h8 : InR v8) (z0 : InR a0) (z1 : InR a1) {X17 : Int → sS → Option (Int × sS)} (HX17 : ∀ (v3 : Int) (h3 : InR v3) (S : sS) (hW : WF2 κ S) (hK0 : sK S v0 = 8) (u5 : Option ev_V) (w5 : nwo u5) (u6 : Option ev_V) (w6 : nwo u6) (u7 : Option ev_V) (w7 : nwo u7) (u8 : Option ev_V) (w8 : nwo u8) (u9 : Option ev_V) (w9 : nwo u9), G2 κ ql_i111 ql_m111 3 d n0 s0 (X17 v3 S) 17 [some (sR v0), some (sR v1), some (sR v2), some (sI v3), some (sR v4), u5, u6, u7, u8, u9] [] S) (S : sS) (hW : WF2 κ S) (hK0 : sK S v0 = 8) (u7 : Option ev_V) (w7 : nwo u7) (u9 : Option ev_V) (w9 : nwo u9) : G2 κ ql_i111 ql_m111 3 d n0 s0 (j111_427 X17 v0 v1 v2 v3 v4 v5 v6 v8 a0 a1 S) 427 [some (sR v0), some (sR v1), some (sR v2), some (sI v3), some (sR v4), some (sR v5), some (sI v6), u7, some (sI v8), u9] [(sI a1), (sI a0)] S := by
  unfold j111_427
  refine g2_cmeq qk111_3.1.1.2.2.1.1 z0 z1 (fun c264 => ?_) (fun c265 => ?_)
  · refine g2_aload qk111_3.1.1.2.2.1.2 rfl ?_
    refine g2_iload qk111_3.1.1.2.2.2.1 rfl ?_
    refine g2_int qk111_3.1.1.2.2.2.2 (14 : Int) rfl ?_
    refine g2_ck (fun q266 => ?_)
    refine g2_kn q266 (g2_callC (t' := 1) (Is := [v6, (14 : Int)]) qk111_3.1.2.1.1.1.1 (by decide) rfl rfl (by omega) hW (Or.inl rfl) (by decide) ⟨rfl, rfl⟩ (tfC_process (by omega) hW.1.2 kd_c0 h6 (inR_of (by decide))) (fun y267 S269 x270 m271 e272 => ?_))
    refine g2_iload qk111_3.1.2.1.1.1.2 rfl ?_
    refine g2_cmeq qk111_3.1.2.1.1.2.1 x270 h8 (fun c273 => ?_) (fun c274 => ?_)
    · refine g2_aload qk111_3.1.2.1.2.1.2 rfl ?_
      refine g2_ck (fun q275 => ?_)
      refine g2_kn q275 (g2_getI qk111_3.1.2.1.2.2.1 m271 ⟨by decide, by decide, by decide, rfl⟩ (fun r276 x277 => ?_))
      refine g2_int qk111_3.1.2.1.2.2.2 (2 : Int) rfl ?_
      refine g2_cmlt qk111_3.1.2.2.1.1.1 x277 (inR_of (by decide)) (fun c278 => ?_) (fun c279 => ?_)
      · refine g2_aload qk111_3.1.2.2.1.1.2 rfl ?_
        refine g2_iload qk111_3.1.2.2.1.2.1 rfl ?_
        refine g2_ck (fun q280 => ?_)
        refine g2_kn q280 (g2_callC (t' := 1) (Is := [v6]) qk111_3.1.2.2.1.2.2 (by decide) rfl rfl (by omega) m271 (Or.inl rfl) (by decide) ⟨rfl, rfl⟩ (tfC_depth (by omega) m271.1.2 kd_c0 h6) (fun y281 S283 x284 m285 e286 => ?_))
        refine g2_aload qk111_3.1.2.2.2.1.1 rfl ?_
        refine g2_kn (ek e286 q275 (by decide)) (g2_callV (t' := 1) qk111_3.1.2.2.2.1.2 (by decide) (ql_ip116 hQ) (by decide) rfl rfl rfl (by omega) m285 (tq116_depth hQ (by omega) m285 (ek e286 q275 (by decide)) h5) (fun y287 S288 x289 m290 e291 => ?_))
        refine g2_cmeq qk111_3.1.2.2.2.2.1 x284 x289 (fun c292 => ?_) (fun c293 => ?_)
        · exact tj111_470 hQ hd h0 h1 h2 h3 h4 h5 h6 HX17 S288 m290 (ek e291 (ek e286 (ek e272 hK0 (by decide)) (by decide)) (by decide)) u7 w7 (some (sI v8)) rfl u9 w9
        · refine g2_int qk111_3.1.2.2.2.2.2 (0 : Int) rfl ?_
          exact g2_zret qk111_3.2.1.1.1.1.1 m290 (Or.inl rfl)
      · exact tj111_470 hQ hd h0 h1 h2 h3 h4 h5 h6 HX17 S269 m271 (ek e272 hK0 (by decide)) u7 w7 (some (sI v8)) rfl u9 w9
    · refine g2_int qk111_3.1.2.1.1.2.2 (0 : Int) rfl ?_
      exact g2_zret qk111_3.1.2.1.2.1.1 m271 (Or.inl rfl)
  · refine g2_int qk111_3.1.2.1.1.2.2 (0 : Int) rfl ?_
    exact g2_zret qk111_3.1.2.1.2.1.1 hW (Or.inl rfl)
noncomputable def j111_335 (X17 : Int → sS → Option (Int × sS)) (v0 : Int) (v1 : Int) (v2 : Int) (v3 : Int) (v4 : Int) (v5 : Int) (v6 : Int) (v7 : Int) (v8 : Int) (a0 : Int) (a1 : Int) (S : sS) : Option (Int × sS) :=
  if a0 = a1 then (if v1 = sb S ∧ 0 ≤ v1 then bdC (fQ (sc S)) (fC_process (sc S) 0 v6 (9 : Int)) (fun y206 c207 => bnd (cS S c207) (fun S208 => if y206 = v7 then (if v1 = sb S208 ∧ 0 ≤ v1 then bdC (fQ (sc S208)) (fC_process (sc S208) 0 v6 (10 : Int)) (fun y215 c216 => bnd (cS S208 c216) (fun S217 => if sK S217 v5 = 7 then bnd (sg S217 v5 8) (fun r222 => if y215 = r222 then (if v1 = sb S217 ∧ 0 ≤ v1 then bdC (fQ (sc S217)) (fC_process (sc S217) 0 v6 (11 : Int)) (fun y227 c228 => bnd (cS S217 c228) (fun S229 => bnd (sg S229 v5 9) (fun r233 => if y227 = r233 then (if v1 = sb S229 ∧ 0 ≤ v1 then bdC (fQ (sc S229)) (fC_process (sc S229) 0 v6 (12 : Int)) (fun y238 c239 => bnd (cS S229 c239) (fun S240 => bnd (sg S240 v5 10) (fun r244 => if y238 = r244 then (if v1 = sb S240 ∧ 0 ≤ v1 then bdC (fQ (sc S240)) (fC_process (sc S240) 0 v6 (13 : Int)) (fun y249 c250 => bnd (cS S240 c250) (fun S251 => bnd (sg S251 v5 4) (fun r255 => if r255 < 0 then (j111_427 X17 v0 v1 v2 v3 v4 v5 v6 v8 y249 (-1 : Int) S251) else (bnd (sg S251 v5 4) (fun r259 => if sK S251 r259 = 7 then bnd (sg S251 r259 0) (fun r262 => j111_427 X17 v0 v1 v2 v3 v4 v5 v6 v8 y249 r262 S251) else none))))) else none) else (some ((0 : Int), S240))))) else none) else (some ((0 : Int), S229))))) else none) else (some ((0 : Int), S217))) else none)) else none) else (some ((0 : Int), S208)))) else none) else (some ((0 : Int), S))
theorem tj111_335 {κ : CX} (hQ : κ.2.2.2.2.2.2.2.2.2 = (ql_I, ql_P)) {n0 s0 : Int} {d : Nat} (hd : 70 ≤ d) {v0 v1 v2 v3 v4 v5 v6 v7 v8 : Int} {a0 a1 : Int} (h0 : RfO v0) (h1 : RfO v1) (h2 : RfO v2) (h3 : InR v3) (h4 : RfO v4) (h5 : RfO v5) (h6 : InR v6) (h7 : InR v7) (h8 : InR v8) (z0 : InR a0) (z1 : InR a1) {X17 : Int → sS → Option (Int × sS)} (HX17 : ∀ (v3 : Int) (h3 : InR v3) (S : sS) (hW : WF2 κ S) (hK0 : sK S v0 = 8) (u5 : Option ev_V) (w5 : nwo u5) (u6 : Option ev_V) (w6 : nwo u6) (u7 : Option ev_V) (w7 : nwo u7) (u8 : Option ev_V) (w8 : nwo u8) (u9 : Option ev_V) (w9 : nwo u9), G2 κ ql_i111 ql_m111 3 d n0 s0 (X17 v3 S) 17 [some (sR v0), some (sR v1), some (sR v2), some (sI v3), some (sR v4), u5, u6, u7, u8, u9] [] S) (S : sS) (hW : WF2 κ S) (hK0 : sK S v0 = 8) (u9 : Option ev_V) (w9 : nwo u9) : G2 κ ql_i111 ql_m111 3 d n0 s0 (j111_335 X17 v0 v1 v2 v3 v4 v5 v6 v7 v8 a0 a1 S) 335 [some (sR v0), some (sR v1), some (sR v2), some (sI v3), some (sR v4), some (sR v5), some (sI v6), some (sI v7), some (sI v8), u9] [(sI a1), (sI a0)] S := by
  unfold j111_335
  refine g2_cmeq qk111_2.2.1.1.1.2.2 z0 z1 (fun c203 => ?_) (fun c204 => ?_)
  · refine g2_aload qk111_2.2.1.1.2.1.1 rfl ?_
    refine g2_iload qk111_2.2.1.1.2.1.2 rfl ?_
    refine g2_int qk111_2.2.1.1.2.2.1 (9 : Int) rfl ?_
    refine g2_ck (fun q205 => ?_)
    refine g2_kn q205 (g2_callC (t' := 1) (Is := [v6, (9 : Int)]) qk111_2.2.1.1.2.2.2 (by decide) rfl rfl (by omega) hW (Or.inl rfl) (by decide) ⟨rfl, rfl⟩ (tfC_process (by omega) hW.1.2 kd_c0 h6 (inR_of (by decide))) (fun y206 S208 x209 m210 e211 => ?_))
    refine g2_iload qk111_2.2.1.2.1.1.1 rfl ?_
    refine g2_cmeq qk111_2.2.1.2.1.1.2 x209 h7 (fun c212 => ?_) (fun c213 => ?_)
    · refine g2_aload qk111_2.2.1.2.1.2.1 rfl ?_
      refine g2_iload qk111_2.2.1.2.1.2.2 rfl ?_
      refine g2_int qk111_2.2.1.2.2.1.1 (10 : Int) rfl ?_
      refine g2_ck (fun q214 => ?_)
      refine g2_kn q214 (g2_callC (t' := 1) (Is := [v6, (10 : Int)]) qk111_2.2.1.2.2.1.2 (by decide) rfl rfl (by omega) m210 (Or.inl rfl) (by decide) ⟨rfl, rfl⟩ (tfC_process (by omega) m210.1.2 kd_c0 h6 (inR_of (by decide))) (fun y215 S217 x218 m219 e220 => ?_))
      refine g2_aload qk111_2.2.1.2.2.2.1 rfl ?_
      refine g2_ck (fun q221 => ?_)
      refine g2_kn q221 (g2_getI qk111_2.2.1.2.2.2.2 m219 ⟨by decide, by decide, by decide, rfl⟩ (fun r222 x223 => ?_))
      refine g2_cmeq qk111_2.2.2.1.1.1.1 x218 x223 (fun c224 => ?_) (fun c225 => ?_)
      · refine g2_aload qk111_2.2.2.1.1.1.2 rfl ?_
        refine g2_iload qk111_2.2.2.1.1.2.1 rfl ?_
        refine g2_int qk111_2.2.2.1.1.2.2 (11 : Int) rfl ?_
        refine g2_ck (fun q226 => ?_)
        refine g2_kn q226 (g2_callC (t' := 1) (Is := [v6, (11 : Int)]) qk111_2.2.2.1.2.1.1 (by decide) rfl rfl (by omega) m219 (Or.inl rfl) (by decide) ⟨rfl, rfl⟩ (tfC_process (by omega) m219.1.2 kd_c0 h6 (inR_of (by decide))) (fun y227 S229 x230 m231 e232 => ?_))
        refine g2_aload qk111_2.2.2.1.2.1.2 rfl ?_
        refine g2_kn (ek e232 q221 (by decide)) (g2_getI qk111_2.2.2.1.2.2.1 m231 ⟨by decide, by decide, by decide, rfl⟩ (fun r233 x234 => ?_))
        refine g2_cmeq qk111_2.2.2.1.2.2.2 x230 x234 (fun c235 => ?_) (fun c236 => ?_)
        · refine g2_aload qk111_2.2.2.2.1.1.1 rfl ?_
          refine g2_iload qk111_2.2.2.2.1.1.2 rfl ?_
          refine g2_int qk111_2.2.2.2.1.2.1 (12 : Int) rfl ?_
          refine g2_ck (fun q237 => ?_)
          refine g2_kn q237 (g2_callC (t' := 1) (Is := [v6, (12 : Int)]) qk111_2.2.2.2.1.2.2 (by decide) rfl rfl (by omega) m231 (Or.inl rfl) (by decide) ⟨rfl, rfl⟩ (tfC_process (by omega) m231.1.2 kd_c0 h6 (inR_of (by decide))) (fun y238 S240 x241 m242 e243 => ?_))
          refine g2_aload qk111_2.2.2.2.2.1.1 rfl ?_
          refine g2_kn (ek e243 (ek e232 q221 (by decide)) (by decide)) (g2_getI qk111_2.2.2.2.2.1.2 m242 ⟨by decide, by decide, by decide, rfl⟩ (fun r244 x245 => ?_))
          refine g2_cmeq qk111_2.2.2.2.2.2 x241 x245 (fun c246 => ?_) (fun c247 => ?_)
          · refine g2_aload qk111_3.1.1.1.1.1.1 rfl ?_
            refine g2_iload qk111_3.1.1.1.1.1.2 rfl ?_
            refine g2_int qk111_3.1.1.1.1.2.1 (13 : Int) rfl ?_
            refine g2_ck (fun q248 => ?_)
            refine g2_kn q248 (g2_callC (t' := 1) (Is := [v6, (13 : Int)]) qk111_3.1.1.1.1.2.2 (by decide) rfl rfl (by omega) m242 (Or.inl rfl) (by decide) ⟨rfl, rfl⟩ (tfC_process (by omega) m242.1.2 kd_c0 h6 (inR_of (by decide))) (fun y249 S251 x252 m253 e254 => ?_))
            refine g2_aload qk111_3.1.1.1.2.1.1 rfl ?_
            refine g2_kn (ek e254 (ek e243 (ek e232 q221 (by decide)) (by decide)) (by decide)) (g2_getR qk111_3.1.1.1.2.1.2 m253 ⟨by decide, by decide, by decide, rfl⟩ (fun r255 x256 => ?_))
            refine g2_isnull qk111_3.1.1.1.2.2.1 (fun c257 => ?_) (fun c258 => ?_)
            · refine g2_int qk111_3.1.1.1.2.2.2 (-1 : Int) rfl ?_
              refine g2_goto qk111_3.1.1.2.1.1.1 ?_
              exact tj111_427 hQ hd h0 h1 h2 h3 h4 h5 h6 h8 x252 (inR_of (by decide)) HX17 S251 m253 (ek e254 (ek e243 (ek e232 (ek e220 (ek e211 hK0 (by decide)) (by decide)) (by decide)) (by decide)) (by decide)) (some (sI v7)) rfl u9 w9
            · refine g2_aload qk111_3.1.1.2.1.1.2 rfl ?_
              refine g2_kn (ek e254 (ek e243 (ek e232 q221 (by decide)) (by decide)) (by decide)) (g2_getR qk111_3.1.1.2.1.2.1 m253 ⟨by decide, by decide, by decide, rfl⟩ (fun r259 x260 => ?_))
              refine g2_ck (fun q261 => ?_)
              refine g2_kn q261 (g2_getI qk111_3.1.1.2.1.2.2 m253 ⟨by decide, by decide, by decide, rfl⟩ (fun r262 x263 => ?_))
              exact tj111_427 hQ hd h0 h1 h2 h3 h4 h5 h6 h8 x252 x263 HX17 S251 m253 (ek e254 (ek e243 (ek e232 (ek e220 (ek e211 hK0 (by decide)) (by decide)) (by decide)) (by decide)) (by decide)) (some (sI v7)) rfl u9 w9
          · refine g2_int qk111_3.1.2.1.1.2.2 (0 : Int) rfl ?_
            exact g2_zret qk111_3.1.2.1.2.1.1 m242 (Or.inl rfl)
        · refine g2_int qk111_3.1.2.1.1.2.2 (0 : Int) rfl ?_
          exact g2_zret qk111_3.1.2.1.2.1.1 m231 (Or.inl rfl)
      · refine g2_int qk111_3.1.2.1.1.2.2 (0 : Int) rfl ?_
        exact g2_zret qk111_3.1.2.1.2.1.1 m219 (Or.inl rfl)
    · refine g2_int qk111_3.1.2.1.1.2.2 (0 : Int) rfl ?_
      exact g2_zret qk111_3.1.2.1.2.1.1 m210 (Or.inl rfl)
  · refine g2_int qk111_3.1.2.1.1.2.2 (0 : Int) rfl ?_
    exact g2_zret qk111_3.1.2.1.2.1.1 hW (Or.inl rfl)
noncomputable def j111_180 (X17 : Int → sS → Option (Int × sS)) (v0 : Int) (v1 : Int) (v2 : Int) (v3 : Int) (v4 : Int) (v5 : Int) (v6 : Int) (v7 : Int) (v8 : Int) (a0 : Int) (a1 : Int) (S : sS) : Option (Int × sS) :=
  if a0 = a1 then (if v1 = sb S ∧ 0 ≤ v1 then bdC (fQ (sc S)) (fC_process (sc S) 0 v6 (1 : Int)) (fun y89 c90 => bnd (cS S c90) (fun S91 => if sK S91 v5 = 7 then bnd (sg S91 v5 5) (fun r96 => if y89 = r96 then (if v1 = sb S91 ∧ 0 ≤ v1 then bdC (fQ (sc S91)) (fC_process (sc S91) 0 v6 (2 : Int)) (fun y101 c102 => bnd (cS S91 c102) (fun S103 => bdS (q104_room S103 v0 v5) (fun y107 S108 => if y101 = y107 then (if v1 = sb S108 ∧ 0 ≤ v1 then bdC (fQ (sc S108)) (fC_process (sc S108) 0 v6 (3 : Int)) (fun y115 c116 => bnd (cS S108 c116) (fun S117 => bdS (q103_children S117 v0 v5 (0 : Int)) (fun y121 S122 => if sK S122 y121 = 9 then bdS (q134_size S122 y121) (fun y127 S128 => if y115 = y127 then (if v1 = sb S128 ∧ 0 ≤ v1 then bdC (fQ (sc S128)) (fC_process (sc S128) 0 v6 (4 : Int)) (fun y135 c136 => bnd (cS S128 c136) (fun S137 => bdS (q103_children S137 v0 v5 (1 : Int)) (fun y141 S142 => if sK S142 y141 = 9 then bdS (q134_size S142 y141) (fun y147 S148 => if y135 = y147 then (if v1 = sb S148 ∧ 0 ≤ v1 then bdC (fQ (sc S148)) (fC_process (sc S148) 0 v6 (5 : Int)) (fun y155 c156 => bnd (cS S148 c156) (fun S157 => bnd (sg S157 v5 7) (fun r161 => if y155 = r161 then (if v1 = sb S157 ∧ 0 ≤ v1 then bdC (fQ (sc S157)) (fC_process (sc S157) 0 v6 (6 : Int)) (fun y166 c167 => bnd (cS S157 c167) (fun S168 => bnd (sg S168 v5 1) (fun r172 => if y166 = r172 then (if v1 = sb S168 ∧ 0 ≤ v1 then bdC (fQ (sc S168)) (fC_process (sc S168) 0 v6 (7 : Int)) (fun y177 c178 => bnd (cS S168 c178) (fun S179 => bnd (sg S179 v5 6) (fun r183 => if y177 = r183 then (if v1 = sb S179 ∧ 0 ≤ v1 then bdC (fQ (sc S179)) (fC_process (sc S179) 0 v6 (8 : Int)) (fun y188 c189 => bnd (cS S179 c189) (fun S190 => bnd (sg S190 v5 3) (fun r194 => if r194 < 0 then (j111_335 X17 v0 v1 v2 v3 v4 v5 v6 v7 v8 y188 (-1 : Int) S190) else (bnd (sg S190 v5 3) (fun r198 => if sK S190 r198 = 7 then bnd (sg S190 r198 0) (fun r201 => j111_335 X17 v0 v1 v2 v3 v4 v5 v6 v7 v8 y188 r201 S190) else none))))) else none) else (some ((0 : Int), S179))))) else none) else (some ((0 : Int), S168))))) else none) else (some ((0 : Int), S157))))) else none) else (some ((0 : Int), S148))) else none))) else none) else (some ((0 : Int), S128))) else none))) else none) else (some ((0 : Int), S108))))) else none) else (some ((0 : Int), S91))) else none)) else none) else (some ((0 : Int), S))
theorem tj111_180 {κ : CX} (hQ : κ.2.2.2.2.2.2.2.2.2 = (ql_I, ql_P)) {n0 s0 : Int} {d : Nat} (hd : 70 ≤ d) {v0 v1 v2 v3 v4 v5 v6 v7 v8 : Int} {a0 a1 : Int} (h0 : RfO v0) (h1 : RfO v1) (h2 : RfO v2) (h3 : InR v3) (h4 : RfO v4) (h5 : RfO v5) (h6 : InR v6) (h7 : InR v7) (h8 : InR v8) (z0 : InR a0) (z1 : InR a1) {X17 : Int → sS → Option (Int × sS)} (HX17 : ∀ (v3 : Int) (h3 : InR v3) (S : sS) (hW : WF2 κ S) (hK0 : sK S v0 = 8) (u5 : Option ev_V) (w5 : nwo u5) (u6 : Option ev_V) (w6 : nwo u6) (u7 : Option ev_V) (w7 : nwo u7) (u8 : Option ev_V) (w8 : nwo u8) (u9 : Option ev_V) (w9 : nwo u9), G2 κ ql_i111 ql_m111 3 d n0 s0 (X17 v3 S) 17 [some (sR v0), some (sR v1), some (sR v2), some (sI v3), some (sR v4), u5, u6, u7, u8, u9] [] S) (S : sS) (hW : WF2 κ S) (hK0 : sK S v0 = 8) (u9 : Option ev_V) (w9 : nwo u9) : G2 κ ql_i111 ql_m111 3 d n0 s0 (j111_180 X17 v0 v1 v2 v3 v4 v5 v6 v7 v8 a0 a1 S) 180 [some (sR v0), some (sR v1), some (sR v2), some (sI v3), some (sR v4), some (sR v5), some (sI v6), some (sI v7), some (sI v8), u9] [(sI a1), (sI a0)] S := by
  unfold j111_180
  refine g2_cmeq qk111_1.1.2.2.1.2.2 z0 z1 (fun c86 => ?_) (fun c87 => ?_)
  · refine g2_aload qk111_1.1.2.2.2.1.1 rfl ?_
    refine g2_iload qk111_1.1.2.2.2.1.2 rfl ?_
    refine g2_int qk111_1.1.2.2.2.2.1 (1 : Int) rfl ?_
    refine g2_ck (fun q88 => ?_)
    refine g2_kn q88 (g2_callC (t' := 1) (Is := [v6, (1 : Int)]) qk111_1.1.2.2.2.2.2 (by decide) rfl rfl (by omega) hW (Or.inl rfl) (by decide) ⟨rfl, rfl⟩ (tfC_process (by omega) hW.1.2 kd_c0 h6 (inR_b (Or.inr rfl))) (fun y89 S91 x92 m93 e94 => ?_))
    refine g2_aload qk111_1.2.1.1.1.1.1 rfl ?_
    refine g2_ck (fun q95 => ?_)
    refine g2_kn q95 (g2_getI qk111_1.2.1.1.1.1.2 m93 ⟨by decide, by decide, by decide, rfl⟩ (fun r96 x97 => ?_))
    refine g2_cmeq qk111_1.2.1.1.1.2.1 x92 x97 (fun c98 => ?_) (fun c99 => ?_)
    · refine g2_aload qk111_1.2.1.1.1.2.2 rfl ?_
      refine g2_iload qk111_1.2.1.1.2.1.1 rfl ?_
      refine g2_int qk111_1.2.1.1.2.1.2 (2 : Int) rfl ?_
      refine g2_ck (fun q100 => ?_)
      refine g2_kn q100 (g2_callC (t' := 1) (Is := [v6, (2 : Int)]) qk111_1.2.1.1.2.2.1 (by decide) rfl rfl (by omega) m93 (Or.inl rfl) (by decide) ⟨rfl, rfl⟩ (tfC_process (by omega) m93.1.2 kd_c0 h6 (inR_of (by decide))) (fun y101 S103 x104 m105 e106 => ?_))
      refine g2_aload qk111_1.2.1.1.2.2.2 rfl ?_
      refine g2_aload qk111_1.2.1.2.1.1.1 rfl ?_
      refine g2_kn (ek e106 (ek e94 hK0 (by decide)) (by decide)) (g2_callV (t' := 1) qk111_1.2.1.2.1.1.2 (by decide) (ql_ip104 hQ) (by decide) rfl rfl rfl (by omega) m105 (tq104_room hQ (by omega) m105 (ek e106 (ek e94 hK0 (by decide)) (by decide)) (ek e106 q95 (by decide)) h0 h5) (fun y107 S108 x109 m110 e111 => ?_))
      refine g2_cmeq qk111_1.2.1.2.1.2.1 x104 x109 (fun c112 => ?_) (fun c113 => ?_)
      · refine g2_aload qk111_1.2.1.2.1.2.2 rfl ?_
        refine g2_iload qk111_1.2.1.2.2.1.1 rfl ?_
        refine g2_int qk111_1.2.1.2.2.1.2 (3 : Int) rfl ?_
        refine g2_ck (fun q114 => ?_)
        refine g2_kn q114 (g2_callC (t' := 1) (Is := [v6, (3 : Int)]) qk111_1.2.1.2.2.2.1 (by decide) rfl rfl (by omega) m110 (Or.inl rfl) (by decide) ⟨rfl, rfl⟩ (tfC_process (by omega) m110.1.2 kd_c0 h6 (inR_of (by decide))) (fun y115 S117 x118 m119 e120 => ?_))
        refine g2_aload qk111_1.2.1.2.2.2.2 rfl ?_
        refine g2_aload qk111_1.2.2.1.1.1.1 rfl ?_
        refine g2_int qk111_1.2.2.1.1.1.2 (0 : Int) rfl ?_
        refine g2_kn (ek e120 (ek e111 (ek e106 (ek e94 hK0 (by decide)) (by decide)) (by decide)) (by decide)) (g2_callV (t' := 2) qk111_1.2.2.1.1.2.1 (by decide) (ql_ip103 hQ) (by decide) rfl rfl rfl (by omega) m119 (tq103_children hQ (by omega) m119 (ek e120 (ek e111 (ek e106 (ek e94 hK0 (by decide)) (by decide)) (by decide)) (by decide)) h0 h5 (inR_b (Or.inl rfl))) (fun y121 S122 x123 m124 e125 => ?_))
        refine g2_ck (fun q126 => ?_)
        refine g2_kn q126 (g2_callF (t' := 1) qk111_1.2.2.1.1.2.2 (by decide) (ql_ip134 hQ) rfl rfl rfl (by omega) m124 (tq134_size hQ (by omega) m124 q126 x123) (fun y127 S128 x129 m130 e131 => ?_))
        refine g2_cmeq qk111_1.2.2.1.2.1.1 x118 x129 (fun c132 => ?_) (fun c133 => ?_)
        · refine g2_aload qk111_1.2.2.1.2.1.2 rfl ?_
          refine g2_iload qk111_1.2.2.1.2.2.1 rfl ?_
          refine g2_int qk111_1.2.2.1.2.2.2 (4 : Int) rfl ?_
          refine g2_ck (fun q134 => ?_)
          refine g2_kn q134 (g2_callC (t' := 1) (Is := [v6, (4 : Int)]) qk111_1.2.2.2.1.1.1 (by decide) rfl rfl (by omega) m130 (Or.inl rfl) (by decide) ⟨rfl, rfl⟩ (tfC_process (by omega) m130.1.2 kd_c0 h6 (inR_of (by decide))) (fun y135 S137 x138 m139 e140 => ?_))
          refine g2_aload qk111_1.2.2.2.1.1.2 rfl ?_
          refine g2_aload qk111_1.2.2.2.1.2.1 rfl ?_
          refine g2_int qk111_1.2.2.2.1.2.2 (1 : Int) rfl ?_
          refine g2_kn (ek e140 (ek e131 (ek e125 (ek e120 (ek e111 (ek e106 (ek e94 hK0 (by decide)) (by decide)) (by decide)) (by decide)) (by decide)) (by decide)) (by decide)) (g2_callV (t' := 2) qk111_1.2.2.2.2.1.1 (by decide) (ql_ip103 hQ) (by decide) rfl rfl rfl (by omega) m139 (tq103_children hQ (by omega) m139 (ek e140 (ek e131 (ek e125 (ek e120 (ek e111 (ek e106 (ek e94 hK0 (by decide)) (by decide)) (by decide)) (by decide)) (by decide)) (by decide)) (by decide)) h0 h5 (inR_b (Or.inr rfl))) (fun y141 S142 x143 m144 e145 => ?_))
          refine g2_ck (fun q146 => ?_)
          refine g2_kn q146 (g2_callF (t' := 1) qk111_1.2.2.2.2.1.2 (by decide) (ql_ip134 hQ) rfl rfl rfl (by omega) m144 (tq134_size hQ (by omega) m144 q146 x143) (fun y147 S148 x149 m150 e151 => ?_))
          refine g2_cmeq qk111_1.2.2.2.2.2 x138 x149 (fun c152 => ?_) (fun c153 => ?_)
          · refine g2_aload qk111_2.1.1.1.1.1.1 rfl ?_
            refine g2_iload qk111_2.1.1.1.1.1.2 rfl ?_
            refine g2_int qk111_2.1.1.1.1.2.1 (5 : Int) rfl ?_
            refine g2_ck (fun q154 => ?_)
            refine g2_kn q154 (g2_callC (t' := 1) (Is := [v6, (5 : Int)]) qk111_2.1.1.1.1.2.2 (by decide) rfl rfl (by omega) m150 (Or.inl rfl) (by decide) ⟨rfl, rfl⟩ (tfC_process (by omega) m150.1.2 kd_c0 h6 (inR_of (by decide))) (fun y155 S157 x158 m159 e160 => ?_))
            refine g2_aload qk111_2.1.1.1.2.1.1 rfl ?_
            refine g2_kn (ek e160 (ek e151 (ek e145 (ek e140 (ek e131 (ek e125 (ek e120 (ek e111 (ek e106 q95 (by decide)) (by decide)) (by decide)) (by decide)) (by decide)) (by decide)) (by decide)) (by decide)) (by decide)) (g2_getI qk111_2.1.1.1.2.1.2 m159 ⟨by decide, by decide, by decide, rfl⟩ (fun r161 x162 => ?_))
            refine g2_cmeq qk111_2.1.1.1.2.2.1 x158 x162 (fun c163 => ?_) (fun c164 => ?_)
            · refine g2_aload qk111_2.1.1.1.2.2.2 rfl ?_
              refine g2_iload qk111_2.1.1.2.1.1.1 rfl ?_
              refine g2_int qk111_2.1.1.2.1.1.2 (6 : Int) rfl ?_
              refine g2_ck (fun q165 => ?_)
              refine g2_kn q165 (g2_callC (t' := 1) (Is := [v6, (6 : Int)]) qk111_2.1.1.2.1.2.1 (by decide) rfl rfl (by omega) m159 (Or.inl rfl) (by decide) ⟨rfl, rfl⟩ (tfC_process (by omega) m159.1.2 kd_c0 h6 (inR_of (by decide))) (fun y166 S168 x169 m170 e171 => ?_))
              refine g2_aload qk111_2.1.1.2.1.2.2 rfl ?_
              refine g2_kn (ek e171 (ek e160 (ek e151 (ek e145 (ek e140 (ek e131 (ek e125 (ek e120 (ek e111 (ek e106 q95 (by decide)) (by decide)) (by decide)) (by decide)) (by decide)) (by decide)) (by decide)) (by decide)) (by decide)) (by decide)) (g2_getI qk111_2.1.1.2.2.1.1 m170 ⟨by decide, by decide, by decide, rfl⟩ (fun r172 x173 => ?_))
              refine g2_cmeq qk111_2.1.1.2.2.1.2 x169 x173 (fun c174 => ?_) (fun c175 => ?_)
              · refine g2_aload qk111_2.1.1.2.2.2.1 rfl ?_
                refine g2_iload qk111_2.1.1.2.2.2.2 rfl ?_
                refine g2_int qk111_2.1.2.1.1.1.1 (7 : Int) rfl ?_
                refine g2_ck (fun q176 => ?_)
                refine g2_kn q176 (g2_callC (t' := 1) (Is := [v6, (7 : Int)]) qk111_2.1.2.1.1.1.2 (by decide) rfl rfl (by omega) m170 (Or.inl rfl) (by decide) ⟨rfl, rfl⟩ (tfC_process (by omega) m170.1.2 kd_c0 h6 (inR_of (by decide))) (fun y177 S179 x180 m181 e182 => ?_))
                refine g2_aload qk111_2.1.2.1.1.2.1 rfl ?_
                refine g2_kn (ek e182 (ek e171 (ek e160 (ek e151 (ek e145 (ek e140 (ek e131 (ek e125 (ek e120 (ek e111 (ek e106 q95 (by decide)) (by decide)) (by decide)) (by decide)) (by decide)) (by decide)) (by decide)) (by decide)) (by decide)) (by decide)) (by decide)) (g2_getI qk111_2.1.2.1.1.2.2 m181 ⟨by decide, by decide, by decide, rfl⟩ (fun r183 x184 => ?_))
                refine g2_cmeq qk111_2.1.2.1.2.1.1 x180 x184 (fun c185 => ?_) (fun c186 => ?_)
                · refine g2_aload qk111_2.1.2.1.2.2.2 rfl ?_
                  refine g2_iload qk111_2.1.2.2.1.1.1 rfl ?_
                  refine g2_int qk111_2.1.2.2.1.1.2 (8 : Int) rfl ?_
                  refine g2_ck (fun q187 => ?_)
                  refine g2_kn q187 (g2_callC (t' := 1) (Is := [v6, (8 : Int)]) qk111_2.1.2.2.1.2.1 (by decide) rfl rfl (by omega) m181 (Or.inl rfl) (by decide) ⟨rfl, rfl⟩ (tfC_process (by omega) m181.1.2 kd_c0 h6 (inR_of (by decide))) (fun y188 S190 x191 m192 e193 => ?_))
                  refine g2_aload qk111_2.1.2.2.1.2.2 rfl ?_
                  refine g2_kn (ek e193 (ek e182 (ek e171 (ek e160 (ek e151 (ek e145 (ek e140 (ek e131 (ek e125 (ek e120 (ek e111 (ek e106 q95 (by decide)) (by decide)) (by decide)) (by decide)) (by decide)) (by decide)) (by decide)) (by decide)) (by decide)) (by decide)) (by decide)) (by decide)) (g2_getR qk111_2.1.2.2.2.1.1 m192 ⟨by decide, by decide, by decide, rfl⟩ (fun r194 x195 => ?_))
                  refine g2_isnull qk111_2.1.2.2.2.1.2 (fun c196 => ?_) (fun c197 => ?_)
                  · refine g2_int qk111_2.1.2.2.2.2.1 (-1 : Int) rfl ?_
                    refine g2_goto qk111_2.1.2.2.2.2.2 ?_
                    exact tj111_335 hQ hd h0 h1 h2 h3 h4 h5 h6 h7 h8 x191 (inR_of (by decide)) HX17 S190 m192 (ek e193 (ek e182 (ek e171 (ek e160 (ek e151 (ek e145 (ek e140 (ek e131 (ek e125 (ek e120 (ek e111 (ek e106 (ek e94 hK0 (by decide)) (by decide)) (by decide)) (by decide)) (by decide)) (by decide)) (by decide)) (by decide)) (by decide)) (by decide)) (by decide)) (by decide)) (by decide)) u9 w9
                  · refine g2_aload qk111_2.2.1.1.1.1.1 rfl ?_
                    refine g2_kn (ek e193 (ek e182 (ek e171 (ek e160 (ek e151 (ek e145 (ek e140 (ek e131 (ek e125 (ek e120 (ek e111 (ek e106 q95 (by decide)) (by decide)) (by decide)) (by decide)) (by decide)) (by decide)) (by decide)) (by decide)) (by decide)) (by decide)) (by decide)) (by decide)) (g2_getR qk111_2.2.1.1.1.1.2 m192 ⟨by decide, by decide, by decide, rfl⟩ (fun r198 x199 => ?_))
                    refine g2_ck (fun q200 => ?_)
                    refine g2_kn q200 (g2_getI qk111_2.2.1.1.1.2.1 m192 ⟨by decide, by decide, by decide, rfl⟩ (fun r201 x202 => ?_))
                    exact tj111_335 hQ hd h0 h1 h2 h3 h4 h5 h6 h7 h8 x191 x202 HX17 S190 m192 (ek e193 (ek e182 (ek e171 (ek e160 (ek e151 (ek e145 (ek e140 (ek e131 (ek e125 (ek e120 (ek e111 (ek e106 (ek e94 hK0 (by decide)) (by decide)) (by decide)) (by decide)) (by decide)) (by decide)) (by decide)) (by decide)) (by decide)) (by decide)) (by decide)) (by decide)) (by decide)) u9 w9
                · refine g2_int qk111_2.1.2.1.2.1.2 (0 : Int) rfl ?_
                  exact g2_zret qk111_2.1.2.1.2.2.1 m181 (Or.inl rfl)
              · refine g2_int qk111_2.1.2.1.2.1.2 (0 : Int) rfl ?_
                exact g2_zret qk111_2.1.2.1.2.2.1 m170 (Or.inl rfl)
            · refine g2_int qk111_2.1.2.1.2.1.2 (0 : Int) rfl ?_
              exact g2_zret qk111_2.1.2.1.2.2.1 m159 (Or.inl rfl)
          · refine g2_int qk111_2.1.2.1.2.1.2 (0 : Int) rfl ?_
            exact g2_zret qk111_2.1.2.1.2.2.1 m150 (Or.inl rfl)
        · refine g2_int qk111_2.1.2.1.2.1.2 (0 : Int) rfl ?_
          exact g2_zret qk111_2.1.2.1.2.2.1 m130 (Or.inl rfl)
      · refine g2_int qk111_2.1.2.1.2.1.2 (0 : Int) rfl ?_
        exact g2_zret qk111_2.1.2.1.2.2.1 m110 (Or.inl rfl)
    · refine g2_int qk111_2.1.2.1.2.1.2 (0 : Int) rfl ?_
      exact g2_zret qk111_2.1.2.1.2.2.1 m93 (Or.inl rfl)
  · refine g2_int qk111_2.1.2.1.2.1.2 (0 : Int) rfl ?_
    exact g2_zret qk111_2.1.2.1.2.2.1 hW (Or.inl rfl)
noncomputable def j111_153 (X17 : Int → sS → Option (Int × sS)) (v0 : Int) (v1 : Int) (v2 : Int) (v3 : Int) (v4 : Int) (v5 : Int) (v6 : Int) (v7 : Int) (v8 : Int) (S : sS) : Option (Int × sS) :=
  if v1 = sb S ∧ 0 ≤ v1 then bdC (fQ (sc S)) (fC_process (sc S) 0 v6 (0 : Int)) (fun y70 c71 => bnd (cS S c71) (fun S72 => if sK S72 v5 = 7 then bnd (sg S72 v5 2) (fun r77 => if r77 < 0 then (j111_180 X17 v0 v1 v2 v3 v4 v5 v6 v7 v8 y70 (-1 : Int) S72) else (bnd (sg S72 v5 2) (fun r81 => if sK S72 r81 = 7 then bnd (sg S72 r81 0) (fun r84 => j111_180 X17 v0 v1 v2 v3 v4 v5 v6 v7 v8 y70 r84 S72) else none))) else none)) else none
theorem tj111_153 {κ : CX} (hQ : κ.2.2.2.2.2.2.2.2.2 = (ql_I, ql_P)) {n0 s0 : Int} {d : Nat} (hd : 70 ≤ d) {v0 v1 v2 v3 v4 v5 v6 v7 v8 : Int} (h0 : RfO v0) (h1 : RfO v1) (h2 : RfO v2) (h3 : InR v3) (h4 : RfO v4) (h5 : RfO v5) (h6 : InR v6) (h7 : InR v7) (h8 : InR v8) {X17 : Int → sS → Option (Int × sS)} (HX17 : ∀ (v3 : Int) (h3 : InR v3) (S : sS) (hW : WF2 κ S) (hK0 : sK S v0 = 8) (u5 : Option ev_V) (w5 : nwo u5) (u6 : Option ev_V) (w6 : nwo u6) (u7 : Option ev_V) (w7 : nwo u7) (u8 : Option ev_V) (w8 : nwo u8) (u9 : Option ev_V) (w9 : nwo u9), G2 κ ql_i111 ql_m111 3 d n0 s0 (X17 v3 S) 17 [some (sR v0), some (sR v1), some (sR v2), some (sI v3), some (sR v4), u5, u6, u7, u8, u9] [] S) (S : sS) (hW : WF2 κ S) (hK0 : sK S v0 = 8) (u9 : Option ev_V) (w9 : nwo u9) : G2 κ ql_i111 ql_m111 3 d n0 s0 (j111_153 X17 v0 v1 v2 v3 v4 v5 v6 v7 v8 S) 153 [some (sR v0), some (sR v1), some (sR v2), some (sI v3), some (sR v4), some (sR v5), some (sI v6), some (sI v7), some (sI v8), u9] [] S := by
  unfold j111_153
  refine g2_aload qk111_1.1.1.2.2.2.2 rfl ?_
  refine g2_iload qk111_1.1.2.1.1.1.1 rfl ?_
  refine g2_int qk111_1.1.2.1.1.1.2 (0 : Int) rfl ?_
  refine g2_ck (fun q69 => ?_)
  refine g2_kn q69 (g2_callC (t' := 1) (Is := [v6, (0 : Int)]) qk111_1.1.2.1.1.2.1 (by decide) rfl rfl (by omega) hW (Or.inl rfl) (by decide) ⟨rfl, rfl⟩ (tfC_process (by omega) hW.1.2 kd_c0 h6 (inR_b (Or.inl rfl))) (fun y70 S72 x73 m74 e75 => ?_))
  refine g2_aload qk111_1.1.2.1.1.2.2 rfl ?_
  refine g2_ck (fun q76 => ?_)
  refine g2_kn q76 (g2_getR qk111_1.1.2.1.2.1.1 m74 ⟨by decide, by decide, by decide, rfl⟩ (fun r77 x78 => ?_))
  refine g2_isnull qk111_1.1.2.1.2.1.2 (fun c79 => ?_) (fun c80 => ?_)
  · refine g2_int qk111_1.1.2.1.2.2.1 (-1 : Int) rfl ?_
    refine g2_goto qk111_1.1.2.1.2.2.2 ?_
    exact tj111_180 hQ hd h0 h1 h2 h3 h4 h5 h6 h7 h8 x73 (inR_of (by decide)) HX17 S72 m74 (ek e75 hK0 (by decide)) u9 w9
  · refine g2_aload qk111_1.1.2.2.1.1.1 rfl ?_
    refine g2_kn q76 (g2_getR qk111_1.1.2.2.1.1.2 m74 ⟨by decide, by decide, by decide, rfl⟩ (fun r81 x82 => ?_))
    refine g2_ck (fun q83 => ?_)
    refine g2_kn q83 (g2_getI qk111_1.1.2.2.1.2.1 m74 ⟨by decide, by decide, by decide, rfl⟩ (fun r84 x85 => ?_))
    exact tj111_180 hQ hd h0 h1 h2 h3 h4 h5 h6 h7 h8 x73 x85 HX17 S72 m74 (ek e75 hK0 (by decide)) u9 w9
noncomputable def b111_115 (X17 : Int → sS → Option (Int × sS)) (v0 : Int) (v1 : Int) (v2 : Int) (v3 : Int) (v4 : Int) (v5 : Int) (v6 : Int) (v8 : Int) (X115 : Int → Int → sS → Option (Int × sS)) (v7 : Int) (v9 : Int) (S : sS) : Option (Int × sS) :=
  if v9 < (8 : Int) then (bnd (sg S v0 2) (fun r61 => if sK S r61 = 27 then if 0 ≤ v9 ∧ v9 < sZ S r61 then bnd (sg S r61 v9) (fun r65 => if r65 = v5 then (X115 (opI 2 v7 (opI 4 (1 : Int) v9)) (w32 (v9 + (1 : Int))) S) else (X115 (opI 2 v7 (0 : Int)) (w32 (v9 + (1 : Int))) S)) else none else none)) else (j111_153 X17 v0 v1 v2 v3 v4 v5 v6 v7 v8 S)
noncomputable def l111_115 (X17 : Int → sS → Option (Int × sS)) (v0 : Int) (v1 : Int) (v2 : Int) (v3 : Int) (v4 : Int) (v5 : Int) (v6 : Int) (v8 : Int) (n : Nat) : Int → Int → sS → Option (Int × sS) := Nat.rec (motive := fun _ => Int → Int → sS → Option (Int × sS)) (fun _ _ _ => none) (fun _ ih => b111_115 X17 v0 v1 v2 v3 v4 v5 v6 v8 ih) n
theorem tb111_115 {κ : CX} (hQ : κ.2.2.2.2.2.2.2.2.2 = (ql_I, ql_P)) {n0 s0 : Int} {d : Nat} (hd : 70 ≤ d) {v0 v1 v2 v3 v4 v5 v6 v8 : Int} (h0 : RfO v0) (h1 : RfO v1) (h2 : RfO v2) (h3 : InR v3) (h4 : RfO v4) (h5 : RfO v5) (h6 : InR v6) (h8 : InR v8) {X17 : Int → sS → Option (Int × sS)} (HX17 : ∀ (v3 : Int) (h3 : InR v3) (S : sS) (hW : WF2 κ S) (hK0 : sK S v0 = 8) (u5 : Option ev_V) (w5 : nwo u5) (u6 : Option ev_V) (w6 : nwo u6) (u7 : Option ev_V) (w7 : nwo u7) (u8 : Option ev_V) (w8 : nwo u8) (u9 : Option ev_V) (w9 : nwo u9), G2 κ ql_i111 ql_m111 3 d n0 s0 (X17 v3 S) 17 [some (sR v0), some (sR v1), some (sR v2), some (sI v3), some (sR v4), u5, u6, u7, u8, u9] [] S) {X115 : Int → Int → sS → Option (Int × sS)} (HX115 : ∀ (v7 : Int) (h7 : InR v7) (v9 : Int) (h9 : InR v9) (S : sS) (hW : WF2 κ S) (hK0 : sK S v0 = 8), G2 κ ql_i111 ql_m111 3 d n0 s0 (X115 v7 v9 S) 115 [some (sR v0), some (sR v1), some (sR v2), some (sI v3), some (sR v4), some (sR v5), some (sI v6), some (sI v7), some (sI v8), some (sI v9)] [] S) : ∀ (v7 : Int) (h7 : InR v7) (v9 : Int) (h9 : InR v9) (S : sS) (hW : WF2 κ S) (hK0 : sK S v0 = 8), G2 κ ql_i111 ql_m111 3 d n0 s0 (b111_115 X17 v0 v1 v2 v3 v4 v5 v6 v8 X115 v7 v9 S) 115 [some (sR v0), some (sR v1), some (sR v2), some (sI v3), some (sR v4), some (sR v5), some (sI v6), some (sI v7), some (sI v8), some (sI v9)] [] S := by
  intro v7 h7 v9 h9 S hW hK0
  unfold b111_115
  refine g2_iload qk111_0.2.2.2.1.2.2 rfl ?_
  refine g2_int qk111_0.2.2.2.2.1.1 (8 : Int) rfl ?_
  refine g2_cmlt qk111_0.2.2.2.2.1.2 h9 (inR_of (by decide)) (fun c59 => ?_) (fun c60 => ?_)
  · refine g2_iload qk111_0.2.2.2.2.2 rfl ?_
    refine g2_aload qk111_1.1.1.1.1.1.1 rfl ?_
    refine g2_kn hK0 (g2_getR qk111_1.1.1.1.1.1.2 hW ⟨by decide, by decide, by decide, rfl⟩ (fun r61 x62 => ?_))
    refine g2_iload qk111_1.1.1.1.1.2.1 rfl ?_
    refine g2_ck (fun q63 => ?_)
    refine g2_ck (fun q64 => ?_)
    refine g2_kn ⟨Or.inr q63, q64⟩ (g2_aald qk111_1.1.1.1.1.2.2 hW (fun r65 x66 => ?_))
    refine g2_aload qk111_1.1.1.1.2.1.1 rfl ?_
    refine g2_acmp qk111_1.1.1.1.2.1.2 x66 h5 (fun c67 => ?_) (fun c68 => ?_)
    · refine g2_int qk111_1.1.1.1.2.2.1 (1 : Int) rfl ?_
      refine g2_iload qk111_1.1.1.1.2.2.2 rfl ?_
      refine g2_ibin qk111_1.1.1.2.1.1.1 ?_
      refine g2_goto qk111_1.1.1.2.1.1.2 ?_
      refine g2_ibin qk111_1.1.1.2.1.2.2 ?_
      refine g2_istore qk111_1.1.1.2.2.1.1 rfl (loc2 := [some (sR v0), some (sR v1), some (sR v2), some (sI v3), some (sR v4), some (sR v5), some (sI v6), some (sI (opI 2 v7 (opI 4 (1 : Int) v9))), some (sI v8), some (sI v9)]) rfl ?_
      refine g2_iinc qk111_1.1.1.2.2.1.2 rfl rfl (1 : Int) rfl (loc2 := [some (sR v0), some (sR v1), some (sR v2), some (sI v3), some (sR v4), some (sR v5), some (sI v6), some (sI (opI 2 v7 (opI 4 (1 : Int) v9))), some (sI v8), some (sI (w32 (v9 + (1 : Int))))]) rfl ?_
      refine g2_goto qk111_1.1.1.2.2.2.1 ?_
      exact HX115 (opI 2 v7 (opI 4 (1 : Int) v9)) (inR_opI _ _ _) (w32 (v9 + (1 : Int))) (inR_w32 _) S hW hK0
    · refine g2_int qk111_1.1.1.2.1.2.1 (0 : Int) rfl ?_
      refine g2_ibin qk111_1.1.1.2.1.2.2 ?_
      refine g2_istore qk111_1.1.1.2.2.1.1 rfl (loc2 := [some (sR v0), some (sR v1), some (sR v2), some (sI v3), some (sR v4), some (sR v5), some (sI v6), some (sI (opI 2 v7 (0 : Int))), some (sI v8), some (sI v9)]) rfl ?_
      refine g2_iinc qk111_1.1.1.2.2.1.2 rfl rfl (1 : Int) rfl (loc2 := [some (sR v0), some (sR v1), some (sR v2), some (sI v3), some (sR v4), some (sR v5), some (sI v6), some (sI (opI 2 v7 (0 : Int))), some (sI v8), some (sI (w32 (v9 + (1 : Int))))]) rfl ?_
      refine g2_goto qk111_1.1.1.2.2.2.1 ?_
      exact HX115 (opI 2 v7 (0 : Int)) (inR_opI _ _ _) (w32 (v9 + (1 : Int))) (inR_w32 _) S hW hK0
  · exact tj111_153 hQ hd h0 h1 h2 h3 h4 h5 h6 h7 h8 HX17 S hW hK0 (some (sI v9)) rfl
theorem tl111_115 {κ : CX} (hQ : κ.2.2.2.2.2.2.2.2.2 = (ql_I, ql_P)) {n0 s0 : Int} {d : Nat} (hd : 70 ≤ d) {v0 v1 v2 v3 v4 v5 v6 v8 : Int} (h0 : RfO v0) (h1 : RfO v1) (h2 : RfO v2) (h3 : InR v3) (h4 : RfO v4) (h5 : RfO v5) (h6 : InR v6) (h8 : InR v8) {X17 : Int → sS → Option (Int × sS)} (HX17 : ∀ (v3 : Int) (h3 : InR v3) (S : sS) (hW : WF2 κ S) (hK0 : sK S v0 = 8) (u5 : Option ev_V) (w5 : nwo u5) (u6 : Option ev_V) (w6 : nwo u6) (u7 : Option ev_V) (w7 : nwo u7) (u8 : Option ev_V) (w8 : nwo u8) (u9 : Option ev_V) (w9 : nwo u9), G2 κ ql_i111 ql_m111 3 d n0 s0 (X17 v3 S) 17 [some (sR v0), some (sR v1), some (sR v2), some (sI v3), some (sR v4), u5, u6, u7, u8, u9] [] S) : ∀ n : Nat, ∀ (v7 : Int) (h7 : InR v7) (v9 : Int) (h9 : InR v9) (S : sS) (hW : WF2 κ S) (hK0 : sK S v0 = 8), G2 κ ql_i111 ql_m111 3 d n0 s0 (l111_115 X17 v0 v1 v2 v3 v4 v5 v6 v8 n v7 v9 S) 115 [some (sR v0), some (sR v1), some (sR v2), some (sI v3), some (sR v4), some (sR v5), some (sI v6), some (sI v7), some (sI v8), some (sI v9)] [] S := by
  intro n
  induction n with
  | zero =>
    intro v7 h7 v9 h9 S hW hK0
    exact g2_none
  | succ n ih =>
    exact tb111_115 hQ hd h0 h1 h2 h3 h4 h5 h6 h8 HX17 ih
noncomputable def b111_75 (X17 : Int → sS → Option (Int × sS)) (v0 : Int) (v1 : Int) (v2 : Int) (v3 : Int) (v4 : Int) (v5 : Int) (v6 : Int) (v7 : Int) (X75 : Int → Int → sS → Option (Int × sS)) (v8 : Int) (v9 : Int) (S : sS) : Option (Int × sS) :=
  if v9 < (8 : Int) then (if sK S v5 = 7 then bnd (sg S v5 12) (fun r51 => if sK S r51 = 27 then if 0 ≤ v9 ∧ v9 < sZ S r51 then bnd (sg S r51 v9) (fun r55 => if r55 < 0 then (X75 (opI 2 v8 (0 : Int)) (w32 (v9 + (1 : Int))) S) else (X75 (opI 2 v8 (opI 4 (1 : Int) v9)) (w32 (v9 + (1 : Int))) S)) else none else none) else none) else (l111_115 X17 v0 v1 v2 v3 v4 v5 v6 v8 fu v7 (0 : Int) S)
noncomputable def l111_75 (X17 : Int → sS → Option (Int × sS)) (v0 : Int) (v1 : Int) (v2 : Int) (v3 : Int) (v4 : Int) (v5 : Int) (v6 : Int) (v7 : Int) (n : Nat) : Int → Int → sS → Option (Int × sS) := Nat.rec (motive := fun _ => Int → Int → sS → Option (Int × sS)) (fun _ _ _ => none) (fun _ ih => b111_75 X17 v0 v1 v2 v3 v4 v5 v6 v7 ih) n
theorem tb111_75 {κ : CX} (hQ : κ.2.2.2.2.2.2.2.2.2 = (ql_I, ql_P)) {n0 s0 : Int} {d : Nat} (hd : 70 ≤ d) {v0 v1 v2 v3 v4 v5 v6 v7 : Int} (h0 : RfO v0) (h1 : RfO v1) (h2 : RfO v2) (h3 : InR v3) (h4 : RfO v4) (h5 : RfO v5) (h6 : InR v6) (h7 : B01 v7) {X17 : Int → sS → Option (Int × sS)} (HX17 : ∀ (v3 : Int) (h3 : InR v3) (S : sS) (hW : WF2 κ S) (hK0 : sK S v0 = 8) (u5 : Option ev_V) (w5 : nwo u5) (u6 : Option ev_V) (w6 : nwo u6) (u7 : Option ev_V) (w7 : nwo u7) (u8 : Option ev_V) (w8 : nwo u8) (u9 : Option ev_V) (w9 : nwo u9), G2 κ ql_i111 ql_m111 3 d n0 s0 (X17 v3 S) 17 [some (sR v0), some (sR v1), some (sR v2), some (sI v3), some (sR v4), u5, u6, u7, u8, u9] [] S) {X75 : Int → Int → sS → Option (Int × sS)} (HX75 : ∀ (v8 : Int) (h8 : InR v8) (v9 : Int) (h9 : InR v9) (S : sS) (hW : WF2 κ S) (hK0 : sK S v0 = 8), G2 κ ql_i111 ql_m111 3 d n0 s0 (X75 v8 v9 S) 75 [some (sR v0), some (sR v1), some (sR v2), some (sI v3), some (sR v4), some (sR v5), some (sI v6), some (sI v7), some (sI v8), some (sI v9)] [] S) : ∀ (v8 : Int) (h8 : InR v8) (v9 : Int) (h9 : InR v9) (S : sS) (hW : WF2 κ S) (hK0 : sK S v0 = 8), G2 κ ql_i111 ql_m111 3 d n0 s0 (b111_75 X17 v0 v1 v2 v3 v4 v5 v6 v7 X75 v8 v9 S) 75 [some (sR v0), some (sR v1), some (sR v2), some (sI v3), some (sR v4), some (sR v5), some (sI v6), some (sI v7), some (sI v8), some (sI v9)] [] S := by
  intro v8 h8 v9 h9 S hW hK0
  unfold b111_75
  refine g2_iload qk111_0.2.1.1.2.2.2 rfl ?_
  refine g2_int qk111_0.2.1.2.1.1.1 (8 : Int) rfl ?_
  refine g2_cmlt qk111_0.2.1.2.1.1.2 h9 (inR_of (by decide)) (fun c48 => ?_) (fun c49 => ?_)
  · refine g2_iload qk111_0.2.1.2.1.2.1 rfl ?_
    refine g2_aload qk111_0.2.1.2.1.2.2 rfl ?_
    refine g2_ck (fun q50 => ?_)
    refine g2_kn q50 (g2_getR qk111_0.2.1.2.2.1.1 hW ⟨by decide, by decide, by decide, rfl⟩ (fun r51 x52 => ?_))
    refine g2_iload qk111_0.2.1.2.2.1.2 rfl ?_
    refine g2_ck (fun q53 => ?_)
    refine g2_ck (fun q54 => ?_)
    refine g2_kn ⟨Or.inr q53, q54⟩ (g2_aald qk111_0.2.1.2.2.2.1 hW (fun r55 x56 => ?_))
    refine g2_isnull qk111_0.2.1.2.2.2.2 (fun c57 => ?_) (fun c58 => ?_)
    · refine g2_int qk111_0.2.2.1.2.1.1 (0 : Int) rfl ?_
      refine g2_ibin qk111_0.2.2.1.2.1.2 ?_
      refine g2_istore qk111_0.2.2.1.2.2.1 rfl (loc2 := [some (sR v0), some (sR v1), some (sR v2), some (sI v3), some (sR v4), some (sR v5), some (sI v6), some (sI v7), some (sI (opI 2 v8 (0 : Int))), some (sI v9)]) rfl ?_
      refine g2_iinc qk111_0.2.2.1.2.2.2 rfl rfl (1 : Int) rfl (loc2 := [some (sR v0), some (sR v1), some (sR v2), some (sI v3), some (sR v4), some (sR v5), some (sI v6), some (sI v7), some (sI (opI 2 v8 (0 : Int))), some (sI (w32 (v9 + (1 : Int))))]) rfl ?_
      refine g2_goto qk111_0.2.2.2.1.1.1 ?_
      exact HX75 (opI 2 v8 (0 : Int)) (inR_opI _ _ _) (w32 (v9 + (1 : Int))) (inR_w32 _) S hW hK0
    · refine g2_int qk111_0.2.2.1.1.1.1 (1 : Int) rfl ?_
      refine g2_iload qk111_0.2.2.1.1.1.2 rfl ?_
      refine g2_ibin qk111_0.2.2.1.1.2.1 ?_
      refine g2_goto qk111_0.2.2.1.1.2.2 ?_
      refine g2_ibin qk111_0.2.2.1.2.1.2 ?_
      refine g2_istore qk111_0.2.2.1.2.2.1 rfl (loc2 := [some (sR v0), some (sR v1), some (sR v2), some (sI v3), some (sR v4), some (sR v5), some (sI v6), some (sI v7), some (sI (opI 2 v8 (opI 4 (1 : Int) v9))), some (sI v9)]) rfl ?_
      refine g2_iinc qk111_0.2.2.1.2.2.2 rfl rfl (1 : Int) rfl (loc2 := [some (sR v0), some (sR v1), some (sR v2), some (sI v3), some (sR v4), some (sR v5), some (sI v6), some (sI v7), some (sI (opI 2 v8 (opI 4 (1 : Int) v9))), some (sI (w32 (v9 + (1 : Int))))]) rfl ?_
      refine g2_goto qk111_0.2.2.2.1.1.1 ?_
      exact HX75 (opI 2 v8 (opI 4 (1 : Int) v9)) (inR_opI _ _ _) (w32 (v9 + (1 : Int))) (inR_w32 _) S hW hK0
  · refine g2_int qk111_0.2.2.2.1.1.2 (0 : Int) rfl ?_
    refine g2_istore qk111_0.2.2.2.1.2.1 rfl (loc2 := [some (sR v0), some (sR v1), some (sR v2), some (sI v3), some (sR v4), some (sR v5), some (sI v6), some (sI v7), some (sI v8), some (sI (0 : Int))]) rfl ?_
    exact tl111_115 hQ hd h0 h1 h2 h3 h4 h5 h6 h8 HX17 fu v7 (inR_b h7) (0 : Int) (inR_b (Or.inl rfl)) S hW hK0
theorem tl111_75 {κ : CX} (hQ : κ.2.2.2.2.2.2.2.2.2 = (ql_I, ql_P)) {n0 s0 : Int} {d : Nat} (hd : 70 ≤ d) {v0 v1 v2 v3 v4 v5 v6 v7 : Int} (h0 : RfO v0) (h1 : RfO v1) (h2 : RfO v2) (h3 : InR v3) (h4 : RfO v4) (h5 : RfO v5) (h6 : InR v6) (h7 : B01 v7) {X17 : Int → sS → Option (Int × sS)} (HX17 : ∀ (v3 : Int) (h3 : InR v3) (S : sS) (hW : WF2 κ S) (hK0 : sK S v0 = 8) (u5 : Option ev_V) (w5 : nwo u5) (u6 : Option ev_V) (w6 : nwo u6) (u7 : Option ev_V) (w7 : nwo u7) (u8 : Option ev_V) (w8 : nwo u8) (u9 : Option ev_V) (w9 : nwo u9), G2 κ ql_i111 ql_m111 3 d n0 s0 (X17 v3 S) 17 [some (sR v0), some (sR v1), some (sR v2), some (sI v3), some (sR v4), u5, u6, u7, u8, u9] [] S) : ∀ n : Nat, ∀ (v8 : Int) (h8 : InR v8) (v9 : Int) (h9 : InR v9) (S : sS) (hW : WF2 κ S) (hK0 : sK S v0 = 8), G2 κ ql_i111 ql_m111 3 d n0 s0 (l111_75 X17 v0 v1 v2 v3 v4 v5 v6 v7 n v8 v9 S) 75 [some (sR v0), some (sR v1), some (sR v2), some (sI v3), some (sR v4), some (sR v5), some (sI v6), some (sI v7), some (sI v8), some (sI v9)] [] S := by
  intro n
  induction n with
  | zero =>
    intro v8 h8 v9 h9 S hW hK0
    exact g2_none
  | succ n ih =>
    exact tb111_75 hQ hd h0 h1 h2 h3 h4 h5 h6 h7 HX17 ih
noncomputable def j111_529 (v0 : Int) (v1 : Int) (v2 : Int) (v3 : Int) (S : sS) : Option (Int × sS) :=
  if v1 = sb S ∧ 0 ≤ v1 then bdC (fQ (sc S)) (fC_count (sc S) 0 (0 : Int)) (fun y339 c340 => bnd (cS S c340) (fun S341 => bnd (sg S341 v0 0) (fun r345 => if sK S341 r345 = 9 then bdS (q134_size S341 r345) (fun y348 S349 => if y339 = y348 then (if v1 = sb S349 ∧ 0 ≤ v1 then bdC (fQ (sc S349)) (fC_count (sc S349) 0 (1 : Int)) (fun y356 c357 => bnd (cS S349 c357) (fun S358 => if sK S358 v2 = 20 then if 0 ≤ (0 : Int) ∧ (0 : Int) < sZ S358 v2 then bnd (sg S358 v2 (0 : Int)) (fun r364 => if y356 = r364 then (if v1 = sb S358 ∧ 0 ≤ v1 then bdC (fQ (sc S358)) (fC_count (sc S358) 0 (2 : Int)) (fun y369 c370 => bnd (cS S358 c370) (fun S371 => if 0 ≤ (1 : Int) ∧ (1 : Int) < sZ S371 v2 then bnd (sg S371 v2 (1 : Int)) (fun r376 => if y369 = r376 then (if v1 = sb S371 ∧ 0 ≤ v1 then bdC (fQ (sc S371)) (fC_count (sc S371) 0 (3 : Int)) (fun y381 c382 => bnd (cS S371 c382) (fun S383 => if 0 ≤ (2 : Int) ∧ (2 : Int) < sZ S383 v2 then bnd (sg S383 v2 (2 : Int)) (fun r388 => if y381 = r388 then (if v1 = sb S383 ∧ 0 ≤ v1 then bdC (fQ (sc S383)) (fC_count (sc S383) 0 (4 : Int)) (fun y393 c394 => bnd (cS S383 c394) (fun S395 => bnd (sg S395 v0 1) (fun r399 => if sK S395 r399 = 9 then bdS (q134_size S395 r399) (fun y402 S403 => if y393 = y402 then (if v1 = sb S403 ∧ 0 ≤ v1 then bdC (fQ (sc S403)) (fC_count (sc S403) 0 (5 : Int)) (fun y410 c411 => bnd (cS S403 c411) (fun S412 => bnd (sg S412 v0 5) (fun r416 => if y410 = r416 then (if v1 = sb S412 ∧ 0 ≤ v1 then bdC (fQ (sc S412)) (fC_count (sc S412) 0 (6 : Int)) (fun y421 c422 => bnd (cS S412 c422) (fun S423 => bnd (sg S423 v0 6) (fun r427 => if y421 = r427 then (if v1 = sb S423 ∧ 0 ≤ v1 then bdC (fQ (sc S423)) (fC_count (sc S423) 0 (7 : Int)) (fun y432 c433 => bnd (cS S423 c433) (fun S434 => bnd (sg S434 v0 7) (fun r438 => if y432 = r438 then (if v1 = sb S434 ∧ 0 ≤ v1 then bdC (fP (sc S434)) (fC_allRoom (sc S434) 0) (fun y443 c444 => bnd (cS S434 c444) (fun S445 => if y443 = v3 then (if v1 = sb S445 ∧ 0 ≤ v1 then bdC (fQ (sc S445)) (fC_count (sc S445) 0 (10 : Int)) (fun y452 c453 => bnd (cS S445 c453) (fun S454 => bnd (sg S454 v0 4) (fun r458 => if y452 = r458 then (some ((1 : Int), S454)) else (some ((0 : Int), S454))))) else none) else (some ((0 : Int), S445)))) else none) else (some ((0 : Int), S434))))) else none) else (some ((0 : Int), S423))))) else none) else (some ((0 : Int), S412))))) else none) else (some ((0 : Int), S403))) else none))) else none) else (some ((0 : Int), S383))) else none)) else none) else (some ((0 : Int), S371))) else none)) else none) else (some ((0 : Int), S358))) else none else none)) else none) else (some ((0 : Int), S349))) else none))) else none
theorem tj111_529 {κ : CX} (hQ : κ.2.2.2.2.2.2.2.2.2 = (ql_I, ql_P)) {n0 s0 : Int} {d : Nat} (hd : 70 ≤ d) {v0 v1 v2 v3 : Int} (h0 : RfO v0) (h1 : RfO v1) (h2 : RfO v2) (h3 : InR v3) (S : sS) (hW : WF2 κ S) (hK0 : sK S v0 = 8) (u4 : Option ev_V) (w4 : nwo u4) (u5 : Option ev_V) (w5 : nwo u5) (u6 : Option ev_V) (w6 : nwo u6) (u7 : Option ev_V) (w7 : nwo u7) (u8 : Option ev_V) (w8 : nwo u8) (u9 : Option ev_V) (w9 : nwo u9) : G2 κ ql_i111 ql_m111 3 d n0 s0 (j111_529 v0 v1 v2 v3 S) 529 [some (sR v0), some (sR v1), some (sR v2), some (sI v3), u4, u5, u6, u7, u8, u9] [] S := by
  unfold j111_529
  refine g2_aload qk111_3.2.2.2.1.2.2 rfl ?_
  refine g2_int qk111_3.2.2.2.2.1.1 (0 : Int) rfl ?_
  refine g2_ck (fun q338 => ?_)
  refine g2_kn q338 (g2_callC (t' := 1) (Is := [(0 : Int)]) qk111_3.2.2.2.2.1.2 (by decide) rfl rfl (by omega) hW (Or.inl rfl) (by decide) ⟨rfl, rfl⟩ (tfC_count (by omega) hW.1.2 kd_c0 (inR_b (Or.inl rfl))) (fun y339 S341 x342 m343 e344 => ?_))
  refine g2_aload qk111_3.2.2.2.2.2 rfl ?_
  refine g2_kn (ek e344 hK0 (by decide)) (g2_getR qk111_4.1.1.1.1.1.1 m343 ⟨by decide, by decide, by decide, rfl⟩ (fun r345 x346 => ?_))
  refine g2_ck (fun q347 => ?_)
  refine g2_kn q347 (g2_callF (t' := 1) qk111_4.1.1.1.1.1.2 (by decide) (ql_ip134 hQ) rfl rfl rfl (by omega) m343 (tq134_size hQ (by omega) m343 q347 x346) (fun y348 S349 x350 m351 e352 => ?_))
  refine g2_cmeq qk111_4.1.1.1.1.2.1 x342 x350 (fun c353 => ?_) (fun c354 => ?_)
  · refine g2_aload qk111_4.1.1.1.1.2.2 rfl ?_
    refine g2_int qk111_4.1.1.1.2.1.1 (1 : Int) rfl ?_
    refine g2_ck (fun q355 => ?_)
    refine g2_kn q355 (g2_callC (t' := 1) (Is := [(1 : Int)]) qk111_4.1.1.1.2.1.2 (by decide) rfl rfl (by omega) m351 (Or.inl rfl) (by decide) ⟨rfl, rfl⟩ (tfC_count (by omega) m351.1.2 kd_c0 (inR_b (Or.inr rfl))) (fun y356 S358 x359 m360 e361 => ?_))
    refine g2_aload qk111_4.1.1.1.2.2.1 rfl ?_
    refine g2_int qk111_4.1.1.1.2.2.2 (0 : Int) rfl ?_
    refine g2_ck (fun q362 => ?_)
    refine g2_ck (fun q363 => ?_)
    refine g2_kn ⟨q362, q363⟩ (g2_iald qk111_4.1.1.2.1.1.1 m360 (fun r364 x365 => ?_))
    refine g2_cmeq qk111_4.1.1.2.1.1.2 x359 x365 (fun c366 => ?_) (fun c367 => ?_)
    · refine g2_aload qk111_4.1.1.2.1.2.1 rfl ?_
      refine g2_int qk111_4.1.1.2.1.2.2 (2 : Int) rfl ?_
      refine g2_ck (fun q368 => ?_)
      refine g2_kn q368 (g2_callC (t' := 1) (Is := [(2 : Int)]) qk111_4.1.1.2.2.1.1 (by decide) rfl rfl (by omega) m360 (Or.inl rfl) (by decide) ⟨rfl, rfl⟩ (tfC_count (by omega) m360.1.2 kd_c0 (inR_of (by decide))) (fun y369 S371 x372 m373 e374 => ?_))
      refine g2_aload qk111_4.1.1.2.2.1.2 rfl ?_
      refine g2_int qk111_4.1.1.2.2.2.1 (1 : Int) rfl ?_
      refine g2_ck (fun q375 => ?_)
      refine g2_kn ⟨(ek e374 q362 (by decide)), q375⟩ (g2_iald qk111_4.1.1.2.2.2.2 m373 (fun r376 x377 => ?_))
      refine g2_cmeq qk111_4.1.2.1.1.1.1 x372 x377 (fun c378 => ?_) (fun c379 => ?_)
      · refine g2_aload qk111_4.1.2.1.1.1.2 rfl ?_
        refine g2_int qk111_4.1.2.1.1.2.1 (3 : Int) rfl ?_
        refine g2_ck (fun q380 => ?_)
        refine g2_kn q380 (g2_callC (t' := 1) (Is := [(3 : Int)]) qk111_4.1.2.1.1.2.2 (by decide) rfl rfl (by omega) m373 (Or.inl rfl) (by decide) ⟨rfl, rfl⟩ (tfC_count (by omega) m373.1.2 kd_c0 (inR_of (by decide))) (fun y381 S383 x384 m385 e386 => ?_))
        refine g2_aload qk111_4.1.2.1.2.1.1 rfl ?_
        refine g2_int qk111_4.1.2.1.2.1.2 (2 : Int) rfl ?_
        refine g2_ck (fun q387 => ?_)
        refine g2_kn ⟨(ek e386 (ek e374 q362 (by decide)) (by decide)), q387⟩ (g2_iald qk111_4.1.2.1.2.2.1 m385 (fun r388 x389 => ?_))
        refine g2_cmeq qk111_4.1.2.1.2.2.2 x384 x389 (fun c390 => ?_) (fun c391 => ?_)
        · refine g2_aload qk111_4.1.2.2.1.1.1 rfl ?_
          refine g2_int qk111_4.1.2.2.1.1.2 (4 : Int) rfl ?_
          refine g2_ck (fun q392 => ?_)
          refine g2_kn q392 (g2_callC (t' := 1) (Is := [(4 : Int)]) qk111_4.1.2.2.1.2.1 (by decide) rfl rfl (by omega) m385 (Or.inl rfl) (by decide) ⟨rfl, rfl⟩ (tfC_count (by omega) m385.1.2 kd_c0 (inR_of (by decide))) (fun y393 S395 x396 m397 e398 => ?_))
          refine g2_aload qk111_4.1.2.2.1.2.2 rfl ?_
          refine g2_kn (ek e398 (ek e386 (ek e374 (ek e361 (ek e352 (ek e344 hK0 (by decide)) (by decide)) (by decide)) (by decide)) (by decide)) (by decide)) (g2_getR qk111_4.1.2.2.2.1.1 m397 ⟨by decide, by decide, by decide, rfl⟩ (fun r399 x400 => ?_))
          refine g2_ck (fun q401 => ?_)
          refine g2_kn q401 (g2_callF (t' := 1) qk111_4.1.2.2.2.1.2 (by decide) (ql_ip134 hQ) rfl rfl rfl (by omega) m397 (tq134_size hQ (by omega) m397 q401 x400) (fun y402 S403 x404 m405 e406 => ?_))
          refine g2_cmeq qk111_4.1.2.2.2.2.1 x396 x404 (fun c407 => ?_) (fun c408 => ?_)
          · refine g2_aload qk111_4.1.2.2.2.2.2 rfl ?_
            refine g2_int qk111_4.2.1.1.1.1.1 (5 : Int) rfl ?_
            refine g2_ck (fun q409 => ?_)
            refine g2_kn q409 (g2_callC (t' := 1) (Is := [(5 : Int)]) qk111_4.2.1.1.1.1.2 (by decide) rfl rfl (by omega) m405 (Or.inl rfl) (by decide) ⟨rfl, rfl⟩ (tfC_count (by omega) m405.1.2 kd_c0 (inR_of (by decide))) (fun y410 S412 x413 m414 e415 => ?_))
            refine g2_aload qk111_4.2.1.1.1.2.1 rfl ?_
            refine g2_kn (ek e415 (ek e406 (ek e398 (ek e386 (ek e374 (ek e361 (ek e352 (ek e344 hK0 (by decide)) (by decide)) (by decide)) (by decide)) (by decide)) (by decide)) (by decide)) (by decide)) (g2_getI qk111_4.2.1.1.1.2.2 m414 ⟨by decide, by decide, by decide, rfl⟩ (fun r416 x417 => ?_))
            refine g2_cmeq qk111_4.2.1.1.2.1.1 x413 x417 (fun c418 => ?_) (fun c419 => ?_)
            · refine g2_aload qk111_4.2.1.1.2.1.2 rfl ?_
              refine g2_int qk111_4.2.1.1.2.2.1 (6 : Int) rfl ?_
              refine g2_ck (fun q420 => ?_)
              refine g2_kn q420 (g2_callC (t' := 1) (Is := [(6 : Int)]) qk111_4.2.1.1.2.2.2 (by decide) rfl rfl (by omega) m414 (Or.inl rfl) (by decide) ⟨rfl, rfl⟩ (tfC_count (by omega) m414.1.2 kd_c0 (inR_of (by decide))) (fun y421 S423 x424 m425 e426 => ?_))
              refine g2_aload qk111_4.2.1.2.1.1.1 rfl ?_
              refine g2_kn (ek e426 (ek e415 (ek e406 (ek e398 (ek e386 (ek e374 (ek e361 (ek e352 (ek e344 hK0 (by decide)) (by decide)) (by decide)) (by decide)) (by decide)) (by decide)) (by decide)) (by decide)) (by decide)) (g2_getI qk111_4.2.1.2.1.1.2 m425 ⟨by decide, by decide, by decide, rfl⟩ (fun r427 x428 => ?_))
              refine g2_cmeq qk111_4.2.1.2.1.2.1 x424 x428 (fun c429 => ?_) (fun c430 => ?_)
              · refine g2_aload qk111_4.2.1.2.1.2.2 rfl ?_
                refine g2_int qk111_4.2.1.2.2.1.1 (7 : Int) rfl ?_
                refine g2_ck (fun q431 => ?_)
                refine g2_kn q431 (g2_callC (t' := 1) (Is := [(7 : Int)]) qk111_4.2.1.2.2.1.2 (by decide) rfl rfl (by omega) m425 (Or.inl rfl) (by decide) ⟨rfl, rfl⟩ (tfC_count (by omega) m425.1.2 kd_c0 (inR_of (by decide))) (fun y432 S434 x435 m436 e437 => ?_))
                refine g2_aload qk111_4.2.1.2.2.2.1 rfl ?_
                refine g2_kn (ek e437 (ek e426 (ek e415 (ek e406 (ek e398 (ek e386 (ek e374 (ek e361 (ek e352 (ek e344 hK0 (by decide)) (by decide)) (by decide)) (by decide)) (by decide)) (by decide)) (by decide)) (by decide)) (by decide)) (by decide)) (g2_getI qk111_4.2.1.2.2.2.2 m436 ⟨by decide, by decide, by decide, rfl⟩ (fun r438 x439 => ?_))
                refine g2_cmeq qk111_4.2.2.1.1.1.1 x435 x439 (fun c440 => ?_) (fun c441 => ?_)
                · refine g2_aload qk111_4.2.2.1.1.1.2 rfl ?_
                  refine g2_ck (fun q442 => ?_)
                  refine g2_kn q442 (g2_callC (t' := 1) (Is := []) qk111_4.2.2.1.1.2.1 (by decide) rfl rfl (by omega) m436 (Or.inl rfl) (by decide) ⟨rfl, rfl⟩ (tfC_allRoom (by omega) m436.1.2 kd_c0) (fun y443 S445 x446 m447 e448 => ?_))
                  refine g2_iload qk111_4.2.2.1.1.2.2 rfl ?_
                  refine g2_cmeq qk111_4.2.2.1.2.1.1 x446 h3 (fun c449 => ?_) (fun c450 => ?_)
                  · refine g2_aload qk111_4.2.2.1.2.1.2 rfl ?_
                    refine g2_int qk111_4.2.2.1.2.2.1 (10 : Int) rfl ?_
                    refine g2_ck (fun q451 => ?_)
                    refine g2_kn q451 (g2_callC (t' := 1) (Is := [(10 : Int)]) qk111_4.2.2.1.2.2.2 (by decide) rfl rfl (by omega) m447 (Or.inl rfl) (by decide) ⟨rfl, rfl⟩ (tfC_count (by omega) m447.1.2 kd_c0 (inR_of (by decide))) (fun y452 S454 x455 m456 e457 => ?_))
                    refine g2_aload qk111_4.2.2.2.1.1.1 rfl ?_
                    refine g2_kn (ek e457 (ek e448 (ek e437 (ek e426 (ek e415 (ek e406 (ek e398 (ek e386 (ek e374 (ek e361 (ek e352 (ek e344 hK0 (by decide)) (by decide)) (by decide)) (by decide)) (by decide)) (by decide)) (by decide)) (by decide)) (by decide)) (by decide)) (by decide)) (by decide)) (g2_getI qk111_4.2.2.2.1.1.2 m456 ⟨by decide, by decide, by decide, rfl⟩ (fun r458 x459 => ?_))
                    refine g2_cmeq qk111_4.2.2.2.1.2.1 x455 x459 (fun c460 => ?_) (fun c461 => ?_)
                    · refine g2_int qk111_4.2.2.2.1.2.2 (1 : Int) rfl ?_
                      refine g2_goto qk111_4.2.2.2.2.1.1 ?_
                      exact g2_zret qk111_4.2.2.2.2.2 m456 (Or.inr rfl)
                    · refine g2_int qk111_4.2.2.2.2.1.2 (0 : Int) rfl ?_
                      exact g2_zret qk111_4.2.2.2.2.2 m456 (Or.inl rfl)
                  · refine g2_int qk111_4.2.2.2.2.1.2 (0 : Int) rfl ?_
                    exact g2_zret qk111_4.2.2.2.2.2 m447 (Or.inl rfl)
                · refine g2_int qk111_4.2.2.2.2.1.2 (0 : Int) rfl ?_
                  exact g2_zret qk111_4.2.2.2.2.2 m436 (Or.inl rfl)
              · refine g2_int qk111_4.2.2.2.2.1.2 (0 : Int) rfl ?_
                exact g2_zret qk111_4.2.2.2.2.2 m425 (Or.inl rfl)
            · refine g2_int qk111_4.2.2.2.2.1.2 (0 : Int) rfl ?_
              exact g2_zret qk111_4.2.2.2.2.2 m414 (Or.inl rfl)
          · refine g2_int qk111_4.2.2.2.2.1.2 (0 : Int) rfl ?_
            exact g2_zret qk111_4.2.2.2.2.2 m405 (Or.inl rfl)
        · refine g2_int qk111_4.2.2.2.2.1.2 (0 : Int) rfl ?_
          exact g2_zret qk111_4.2.2.2.2.2 m385 (Or.inl rfl)
      · refine g2_int qk111_4.2.2.2.2.1.2 (0 : Int) rfl ?_
        exact g2_zret qk111_4.2.2.2.2.2 m373 (Or.inl rfl)
    · refine g2_int qk111_4.2.2.2.2.1.2 (0 : Int) rfl ?_
      exact g2_zret qk111_4.2.2.2.2.2 m360 (Or.inl rfl)
  · refine g2_int qk111_4.2.2.2.2.1.2 (0 : Int) rfl ?_
    exact g2_zret qk111_4.2.2.2.2.2 m351 (Or.inl rfl)
noncomputable def b111_17 (v0 : Int) (v1 : Int) (v2 : Int) (v4 : Int) (X17 : Int → sS → Option (Int × sS)) (v3 : Int) (S : sS) : Option (Int × sS) :=
  if sK S v4 = 10 then bdS (q137_hasNext S v4) (fun y17 S18 => if y17 = 0 then (j111_529 v0 v1 v2 v3 S18) else (bdS (q139_next S18 v4) (fun y24 S25 => if y24 = -1 ∨ sK S25 y24 = 7 then if sK S25 y24 = 7 then bnd (sg S25 y24 0) (fun r31 => bnd (sg S25 y24 7) (fun r33 => if sK S25 v2 = 20 then if 0 ≤ r33 ∧ r33 < sZ S25 v2 then bnd (sg S25 v2 r33) (fun r37 => if 0 ≤ r33 ∧ r33 < sZ S25 v2 then bnd (uS S25 v2 r33 (w32 (r37 + (1 : Int)))) (fun S40 => bdS (q104_room S40 v0 y24) (fun y43 S44 => l111_75 X17 v0 v1 v2 (w32 (v3 + y43)) v4 y24 r31 (0 : Int) fu (0 : Int) (0 : Int) S44)) else none) else none else none)) else none else none))) else none
noncomputable def l111_17 (v0 : Int) (v1 : Int) (v2 : Int) (v4 : Int) (n : Nat) : Int → sS → Option (Int × sS) := Nat.rec (motive := fun _ => Int → sS → Option (Int × sS)) (fun _ _ => none) (fun _ ih => b111_17 v0 v1 v2 v4 ih) n
theorem tb111_17 {κ : CX} (hQ : κ.2.2.2.2.2.2.2.2.2 = (ql_I, ql_P)) {n0 s0 : Int} {d : Nat} (hd : 70 ≤ d) {v0 v1 v2 v4 : Int} (h0 : RfO v0) (h1 : RfO v1) (h2 : RfO v2) (h4 : RfO v4) {X17 : Int → sS → Option (Int × sS)} (HX17 : ∀ (v3 : Int) (h3 : InR v3) (S : sS) (hW : WF2 κ S) (hK0 : sK S v0 = 8) (u5 : Option ev_V) (w5 : nwo u5) (u6 : Option ev_V) (w6 : nwo u6) (u7 : Option ev_V) (w7 : nwo u7) (u8 : Option ev_V) (w8 : nwo u8) (u9 : Option ev_V) (w9 : nwo u9), G2 κ ql_i111 ql_m111 3 d n0 s0 (X17 v3 S) 17 [some (sR v0), some (sR v1), some (sR v2), some (sI v3), some (sR v4), u5, u6, u7, u8, u9] [] S) : ∀ (v3 : Int) (h3 : InR v3) (S : sS) (hW : WF2 κ S) (hK0 : sK S v0 = 8) (u5 : Option ev_V) (w5 : nwo u5) (u6 : Option ev_V) (w6 : nwo u6) (u7 : Option ev_V) (w7 : nwo u7) (u8 : Option ev_V) (w8 : nwo u8) (u9 : Option ev_V) (w9 : nwo u9), G2 κ ql_i111 ql_m111 3 d n0 s0 (b111_17 v0 v1 v2 v4 X17 v3 S) 17 [some (sR v0), some (sR v1), some (sR v2), some (sI v3), some (sR v4), u5, u6, u7, u8, u9] [] S := by
  intro v3 h3 S hW hK0 u5 w5 u6 w6 u7 w7 u8 w8 u9 w9
  unfold b111_17
  refine g2_aload qk111_0.1.1.2.1.1.2 rfl ?_
  refine g2_ck (fun q16 => ?_)
  refine g2_kn q16 (g2_callF (t' := 3) qk111_0.1.1.2.1.2.1 (by decide) (ql_ip137 hQ) rfl rfl rfl (by omega) hW (tq137_hasNext hQ (by omega) hW q16 h4) (fun y17 S18 x19 m20 e21 => ?_))
  refine g2_ifeq qk111_0.1.1.2.1.2.2 (inR_b x19) (fun c22 => ?_) (fun c23 => ?_)
  · exact tj111_529 hQ hd h0 h1 h2 h3 S18 m20 (ek e21 hK0 (by decide)) (some (sR v4)) rfl u5 w5 u6 w6 u7 w7 u8 w8 u9 w9
  · refine g2_aload qk111_0.1.1.2.2.1.1 rfl ?_
    refine g2_kn (ek e21 q16 (by decide)) (g2_callF (t' := 2) qk111_0.1.1.2.2.1.2 (by decide) (ql_ip139 hQ) rfl rfl rfl (by omega) m20 (tq139_next hQ (by omega) m20 (ek e21 q16 (by decide)) h4) (fun y24 S25 x26 m27 e28 => ?_))
    refine g2_ck (fun q29 => ?_)
    refine g2_kn q29 (g2_cast7 qk111_0.1.1.2.2.2.1 m27 x26 ?_)
    refine g2_astore qk111_0.1.1.2.2.2.2 rfl (loc2 := [some (sR v0), some (sR v1), some (sR v2), some (sI v3), some (sR v4), some (sR y24), u6, u7, u8, u9]) rfl ?_
    refine g2_aload qk111_0.1.2.1.1.1.1 rfl ?_
    refine g2_ck (fun q30 => ?_)
    refine g2_kn q30 (g2_getI qk111_0.1.2.1.1.1.2 m27 ⟨by decide, by decide, by decide, rfl⟩ (fun r31 x32 => ?_))
    refine g2_istore qk111_0.1.2.1.1.2.1 rfl (loc2 := [some (sR v0), some (sR v1), some (sR v2), some (sI v3), some (sR v4), some (sR y24), some (sI r31), u7, u8, u9]) rfl ?_
    refine g2_aload qk111_0.1.2.1.1.2.2 rfl ?_
    refine g2_aload qk111_0.1.2.1.2.1.1 rfl ?_
    refine g2_kn q30 (g2_getI qk111_0.1.2.1.2.1.2 m27 ⟨by decide, by decide, by decide, rfl⟩ (fun r33 x34 => ?_))
    refine g2_dup2 qk111_0.1.2.1.2.2.1 ?_
    refine g2_ck (fun q35 => ?_)
    refine g2_ck (fun q36 => ?_)
    refine g2_kn ⟨q35, q36⟩ (g2_iald qk111_0.1.2.1.2.2.2 m27 (fun r37 x38 => ?_))
    refine g2_int qk111_0.1.2.2.1.1.1 (1 : Int) rfl ?_
    refine g2_iadd qk111_0.1.2.2.1.1.2 ?_
    refine g2_ck (fun q39 => ?_)
    refine g2_kn ⟨q35, h2.2, q39⟩ (g2_iast qk111_0.1.2.2.1.2.1 m27 (inR_w32 _) (fun S40 m41 e42 => ?_))
    refine g2_iload qk111_0.1.2.2.1.2.2 rfl ?_
    refine g2_aload qk111_0.1.2.2.2.1.1 rfl ?_
    refine g2_aload qk111_0.1.2.2.2.1.2 rfl ?_
    refine g2_kn (ek e42 (ek e28 (ek e21 hK0 (by decide)) (by decide)) (by decide)) (g2_callV (t' := 1) qk111_0.1.2.2.2.2.1 (by decide) (ql_ip104 hQ) (by decide) rfl rfl rfl (by omega) m41 (tq104_room hQ (by omega) m41 (ek e42 (ek e28 (ek e21 hK0 (by decide)) (by decide)) (by decide)) (ek e42 q30 (by decide)) h0 x26) (fun y43 S44 x45 m46 e47 => ?_))
    refine g2_iadd qk111_0.1.2.2.2.2.2 ?_
    refine g2_istore qk111_0.2.1.1.1.1.1 rfl (loc2 := [some (sR v0), some (sR v1), some (sR v2), some (sI (w32 (v3 + y43))), some (sR v4), some (sR y24), some (sI r31), u7, u8, u9]) rfl ?_
    refine g2_int qk111_0.2.1.1.1.1.2 (0 : Int) rfl ?_
    refine g2_istore qk111_0.2.1.1.1.2.1 rfl (loc2 := [some (sR v0), some (sR v1), some (sR v2), some (sI (w32 (v3 + y43))), some (sR v4), some (sR y24), some (sI r31), some (sI (0 : Int)), u8, u9]) rfl ?_
    refine g2_int qk111_0.2.1.1.1.2.2 (0 : Int) rfl ?_
    refine g2_istore qk111_0.2.1.1.2.1.1 rfl (loc2 := [some (sR v0), some (sR v1), some (sR v2), some (sI (w32 (v3 + y43))), some (sR v4), some (sR y24), some (sI r31), some (sI (0 : Int)), some (sI (0 : Int)), u9]) rfl ?_
    refine g2_int qk111_0.2.1.1.2.1.2 (0 : Int) rfl ?_
    refine g2_istore qk111_0.2.1.1.2.2.1 rfl (loc2 := [some (sR v0), some (sR v1), some (sR v2), some (sI (w32 (v3 + y43))), some (sR v4), some (sR y24), some (sI r31), some (sI (0 : Int)), some (sI (0 : Int)), some (sI (0 : Int))]) rfl ?_
    exact tl111_75 hQ hd h0 h1 h2 (inR_w32 _) h4 x26 x32 (Or.inl rfl) HX17 fu (0 : Int) (inR_b (Or.inl rfl)) (0 : Int) (inR_b (Or.inl rfl)) S44 m46 (ek e47 (ek e42 (ek e28 (ek e21 hK0 (by decide)) (by decide)) (by decide)) (by decide))
theorem tl111_17 {κ : CX} (hQ : κ.2.2.2.2.2.2.2.2.2 = (ql_I, ql_P)) {n0 s0 : Int} {d : Nat} (hd : 70 ≤ d) {v0 v1 v2 v4 : Int} (h0 : RfO v0) (h1 : RfO v1) (h2 : RfO v2) (h4 : RfO v4) : ∀ n : Nat, ∀ (v3 : Int) (h3 : InR v3) (S : sS) (hW : WF2 κ S) (hK0 : sK S v0 = 8) (u5 : Option ev_V) (w5 : nwo u5) (u6 : Option ev_V) (w6 : nwo u6) (u7 : Option ev_V) (w7 : nwo u7) (u8 : Option ev_V) (w8 : nwo u8) (u9 : Option ev_V) (w9 : nwo u9), G2 κ ql_i111 ql_m111 3 d n0 s0 (l111_17 v0 v1 v2 v4 n v3 S) 17 [some (sR v0), some (sR v1), some (sR v2), some (sI v3), some (sR v4), u5, u6, u7, u8, u9] [] S := by
  intro n
  induction n with
  | zero =>
    intro v3 h3 S hW hK0 u5 w5 u6 w6 u7 w7 u8 w8 u9 w9
    exact g2_none
  | succ n ih =>
    exact tb111_17 hQ hd h0 h1 h2 h4 ih
noncomputable def q111_isSame (S : sS) (v0 : Int) (v1 : Int) : Option (Int × sS) :=
  if sn S < 1000000 ∧ 0 ≤ (3 : Int) ∧ (3 : Int) ≤ 65536 then bnd (sn S) (fun p1 => bnd (nS S 20 (3 : Int)) (fun S2 => bnd (sg S2 v0 0) (fun r8 => if sK S2 r8 = 9 then bdS (q136_iterator S2 r8) (fun y11 S12 => l111_17 v0 v1 p1 y11 fu (0 : Int) S12) else none))) else none
theorem tq111_isSame {κ : CX} (hQ : κ.2.2.2.2.2.2.2.2.2 = (ql_I, ql_P)) {n0 s0 : Int} {d : Nat} (hd : 70 ≤ d) {S : sS} (hW : WF2 κ S) {v0 v1 : Int} (hK0 : sK S v0 = 8) (h0 : RfO v0) (h1 : RfO v1) : G2 κ ql_i111 ql_m111 3 d n0 s0 (q111_isSame S v0 v1) 0 (ev_loc ql_m111.1 [(sR v0), (sR v1)]) [] S := by
  unfold q111_isSame
  refine g2_int qk111_0.1.1.1.1.1.1 (3 : Int) rfl ?_
  refine g2_ck (fun q7 => ?_)
  refine g2_kn q7 (g2_newa qk111_0.1.1.1.1.1.2 hW ⟨by decide, rfl⟩ (fun p1 S2 x3 k4 m5 e6 => ?_))
  refine g2_astore qk111_0.1.1.1.1.2.1 rfl (loc2 := [some (sR v0), some (sR v1), some (sR p1), none, none, none, none, none, none, none]) rfl ?_
  refine g2_int qk111_0.1.1.1.1.2.2 (0 : Int) rfl ?_
  refine g2_istore qk111_0.1.1.1.2.1.1 rfl (loc2 := [some (sR v0), some (sR v1), some (sR p1), some (sI (0 : Int)), none, none, none, none, none, none]) rfl ?_
  refine g2_aload qk111_0.1.1.1.2.1.2 rfl ?_
  refine g2_kn (ek e6 hK0 (by decide)) (g2_getR qk111_0.1.1.1.2.2.1 m5 ⟨by decide, by decide, by decide, rfl⟩ (fun r8 x9 => ?_))
  refine g2_ck (fun q10 => ?_)
  refine g2_kn q10 (g2_callF (t' := 2) qk111_0.1.1.1.2.2.2 (by decide) (ql_ip136 hQ) rfl rfl rfl (by omega) m5 (tq136_iterator hQ (by omega) m5 q10 x9) (fun y11 S12 x13 m14 e15 => ?_))
  refine g2_astore qk111_0.1.1.2.1.1.1 rfl (loc2 := [some (sR v0), some (sR v1), some (sR p1), some (sI (0 : Int)), some (sR y11), none, none, none, none, none]) rfl ?_
  exact tl111_17 hQ hd h0 h1 (rfO_of x3) x13 fu (0 : Int) (inR_b (Or.inl rfl)) S12 m14 (ek e15 (ek e6 hK0 (by decide)) (by decide)) none rfl none rfl none rfl none rfl none rfl
