/-! ===== what the calls take of them (own work, by program: wip/p2/gen3.py) ===== -/
section PGV
variable {i n ml9 mc ms ci k : Nat} {M : ev_M} {x : ev_Im} {rr : vw_C}
theorem pG_of (e : pr_P i = M) (q : pr_I i = x) (h1 : M.1 = ml9) (h2 : M.2.1 = mc) (h3 : M.2.2.1 = ms) (h4 : Nat.ble ml9 51 = true) (h5 : ev_cw (pr_I i) (pr_P i).1 ∈ ev_UW) (h6 : Cond.initialized x.1.cls ∈ ev_UW) (h7 : x.1.cls ≠ "java/lang/invoke/MethodHandle" ∧ x.1.cls ≠ "java/lang/invoke/VarHandle") (h8 : (parseMethodDescriptor x.1.desc).map (fun d => d.parameters.length) = some n) : pr_G i n ml9 mc ms := by
  unfold pr_G
  refine ⟨?_, ?_, ?_, Nat.le_of_ble_eq_true h4, h5, ?_, ?_, ?_, ?_⟩
  · rw [e]; exact h1
  · rw [e]; exact h2
  · rw [e]; exact h3
  · rw [q]; exact h6
  · rw [q]; exact h7.1
  · rw [q]; exact h7.2
  · rw [q]; exact h8
theorem pV_of (q : pr_I i = x) (h1 : vwCl[ci]? = some rr) (h2 : rr.1 = x.1.cls) (h3 : x.2.2.2 = []) (h4 : Cond.instanceMethod (pr_I i).1 ∈ ev_UW) (h5 : Cond.selects (pr_I i).1.cls (pr_I i).1 (pr_I i).1 ∈ ev_UW) : pr_GV i ci := by
  unfold pr_GV
  refine ⟨⟨rr, h1, ?_⟩, ?_, h4, h5⟩
  · rw [q]; exact h2
  · rw [q]; exact h3
end PGV

theorem ds_0 : (parseMethodDescriptor "()V").map (fun d => d.parameters.length) = some 0 := by decide +kernel
theorem ds_1 : (parseMethodDescriptor "(I)V").map (fun d => d.parameters.length) = some 1 := by decide +kernel
theorem ds_2 : (parseMethodDescriptor "()Z").map (fun d => d.parameters.length) = some 0 := by decide +kernel
theorem ds_3 : (parseMethodDescriptor "(LOrphanTree$Tree;)V").map (fun d => d.parameters.length) = some 1 := by decide +kernel
theorem ds_4 : (parseMethodDescriptor "(I)I").map (fun d => d.parameters.length) = some 1 := by decide +kernel
theorem ds_5 : (parseMethodDescriptor "(LOrphanTree$Proc;)I").map (fun d => d.parameters.length) = some 1 := by decide +kernel
theorem ds_6 : (parseMethodDescriptor "(I)LOrphanTree$Proc;").map (fun d => d.parameters.length) = some 1 := by decide +kernel
theorem ds_7 : (parseMethodDescriptor "()I").map (fun d => d.parameters.length) = some 0 := by decide +kernel
theorem ds_8 : (parseMethodDescriptor "(II)V").map (fun d => d.parameters.length) = some 2 := by decide +kernel
theorem ds_9 : (parseMethodDescriptor "(Z)V").map (fun d => d.parameters.length) = some 1 := by decide +kernel
theorem ds_10 : (parseMethodDescriptor "(LOrphanTree$Proc;)Z").map (fun d => d.parameters.length) = some 1 := by decide +kernel
theorem ds_11 : (parseMethodDescriptor "(LOrphanTree$Proc;LOrphanTree$Proc;)LOrphanTree$Proc;").map (fun d => d.parameters.length) = some 2 := by decide +kernel
theorem ds_12 : (parseMethodDescriptor "(LOrphanTree$Proc;I)I").map (fun d => d.parameters.length) = some 2 := by decide +kernel
theorem ds_13 : (parseMethodDescriptor "(LOrphanTree$Proc;)LOrphanTree$Proc;").map (fun d => d.parameters.length) = some 1 := by decide +kernel
theorem ds_14 : (parseMethodDescriptor "(LOrphanTree$Proc;III)LOrphanTree$Proc;").map (fun d => d.parameters.length) = some 4 := by decide +kernel
theorem ds_15 : (parseMethodDescriptor "(II)LOrphanTree$Proc;").map (fun d => d.parameters.length) = some 2 := by decide +kernel
theorem ds_16 : (parseMethodDescriptor "(II)I").map (fun d => d.parameters.length) = some 2 := by decide +kernel
theorem ds_17 : (parseMethodDescriptor "(LOrphanTree$Proc;I)LOrphanTree$Proc;").map (fun d => d.parameters.length) = some 2 := by decide +kernel
theorem ds_18 : (parseMethodDescriptor "(I)Z").map (fun d => d.parameters.length) = some 1 := by decide +kernel
theorem ds_19 : (parseMethodDescriptor "(LOrphanTree$Proc;)V").map (fun d => d.parameters.length) = some 1 := by decide +kernel
theorem ds_20 : (parseMethodDescriptor "(ILOrphanTree$Proc;)V").map (fun d => d.parameters.length) = some 2 := by decide +kernel
theorem ds_21 : (parseMethodDescriptor "(LOrphanTree$Proc;LOrphanTree$Proc;)Z").map (fun d => d.parameters.length) = some 2 := by decide +kernel
theorem ds_22 : (parseMethodDescriptor "(LOrphanTree$Tree;LOrphanTree$Proc;)V").map (fun d => d.parameters.length) = some 2 := by decide +kernel
theorem ds_23 : (parseMethodDescriptor "(LOrphanTree$Output;LOrphanTree$Tree;LOrphanTree$Proc;I)V").map (fun d => d.parameters.length) = some 4 := by decide +kernel
theorem ds_24 : (parseMethodDescriptor "(C)V").map (fun d => d.parameters.length) = some 1 := by decide +kernel
theorem ds_25 : (parseMethodDescriptor "(LOrphanTree$Tree;)Z").map (fun d => d.parameters.length) = some 1 := by decide +kernel
theorem ds_26 : (parseMethodDescriptor "(IIII)I").map (fun d => d.parameters.length) = some 4 := by decide +kernel
theorem ds_27 : (parseMethodDescriptor "([II[III)V").map (fun d => d.parameters.length) = some 5 := by decide +kernel
theorem ds_28 : (parseMethodDescriptor "(III)Z").map (fun d => d.parameters.length) = some 3 := by decide +kernel
theorem ds_29 : (parseMethodDescriptor "(II)Z").map (fun d => d.parameters.length) = some 2 := by decide +kernel
theorem ds_30 : (parseMethodDescriptor "(IIZ)I").map (fun d => d.parameters.length) = some 3 := by decide +kernel
theorem ds_31 : (parseMethodDescriptor "(III)I").map (fun d => d.parameters.length) = some 3 := by decide +kernel
theorem ds_32 : (parseMethodDescriptor "(Ljava/lang/String;)Z").map (fun d => d.parameters.length) = some 1 := by decide +kernel
theorem ds_33 : (parseMethodDescriptor "(ZI)Z").map (fun d => d.parameters.length) = some 2 := by decide +kernel
theorem ds_34 : (parseMethodDescriptor "(IIII)V").map (fun d => d.parameters.length) = some 4 := by decide +kernel
theorem ds_35 : (parseMethodDescriptor "(LOrphanTree$Proc;LOrphanTree$Proc;)V").map (fun d => d.parameters.length) = some 2 := by decide +kernel
theorem ds_36 : (parseMethodDescriptor "(LOrphanTree$Proc;LOrphanTree$Proc;Z)LOrphanTree$Proc;").map (fun d => d.parameters.length) = some 3 := by decide +kernel
theorem ds_37 : (parseMethodDescriptor "(IIIII)I").map (fun d => d.parameters.length) = some 5 := by decide +kernel
theorem ds_38 : (parseMethodDescriptor "(LOrphanTree;I[J)I").map (fun d => d.parameters.length) = some 3 := by decide +kernel
theorem ds_39 : (parseMethodDescriptor "(LOrphanTree;II[J)I").map (fun d => d.parameters.length) = some 4 := by decide +kernel
theorem ds_40 : (parseMethodDescriptor "(LOrphanTree;IIII[J)I").map (fun d => d.parameters.length) = some 6 := by decide +kernel
theorem ds_41 : (parseMethodDescriptor "(LOrphanTree;III[J)I").map (fun d => d.parameters.length) = some 5 := by decide +kernel
theorem ds_42 : (parseMethodDescriptor "()D").map (fun d => d.parameters.length) = some 0 := by decide +kernel
theorem ds_43 : (parseMethodDescriptor "()F").map (fun d => d.parameters.length) = some 0 := by decide +kernel
theorem ds_44 : (parseMethodDescriptor "(LOrphanTree;[J)I").map (fun d => d.parameters.length) = some 2 := by decide +kernel
theorem pg_269 : pr_G 269 0 2 43 653 := pG_of (M := pr_m269) rfl qI_269 rfl rfl rfl rfl pw_c_269 pw_i_q1 nh_q1 ds_0
theorem pg_218 : pr_G 218 0 2 441 6640 := pG_of (M := pr_m218) rfl qI_218 rfl rfl rfl rfl pw_c_218 pw_i_q2 nh_q2 ds_0
theorem pg_249 : pr_G 249 0 1 46 1165 := pG_of (M := pr_m249) rfl qI_249 rfl rfl rfl rfl pw_c_249 pw_i_q3 nh_q3 ds_0
theorem pg_224 : pr_G 224 0 1 1 300 := pG_of (M := pr_m224) rfl qI_224 rfl rfl rfl rfl pw_c_224 pw_i_q4 nh_q4 ds_0
theorem pg_222 : pr_G 222 1 3 0 0 := pG_of (M := pr_m222) rfl qI_222 rfl rfl rfl rfl pw_c_222 pw_i_q5 nh_q5 ds_1
theorem pg_250 : pr_G 250 0 1 0 0 := pG_of (M := pr_m250) rfl qI_250 rfl rfl rfl rfl pw_c_250 pw_i_q3 nh_q3 ds_0
theorem pg_251 : pr_G 251 0 1 0 0 := pG_of (M := pr_m251) rfl qI_251 rfl rfl rfl rfl pw_c_251 pw_i_q3 nh_q3 ds_2
theorem pg_273 : pr_G 273 1 4 0 0 := pG_of (M := pr_m273) rfl qI_273 rfl rfl rfl rfl pw_c_273 pw_i_q1 nh_q1 ds_3
theorem pg_275 : pr_G 275 1 7 0 0 := pG_of (M := pr_m275) rfl qI_275 rfl rfl rfl rfl pw_c_275 pw_i_q1 nh_q1 ds_4
theorem pg_285 : pr_G 285 1 4 0 0 := pG_of (M := pr_m285) rfl qI_285 rfl rfl rfl rfl pw_c_285 pw_i_q1 nh_q1 ds_5
theorem pg_353 : pr_G 353 1 1 0 0 := pG_of (M := pr_m353) rfl qI_353 rfl rfl rfl rfl pw_c_353 pw_i_q6 nh_q6 ds_4
theorem pg_65 : pr_G 65 1 3 1 6 := pG_of (M := pr_m65) rfl qI_65 rfl rfl rfl rfl pw_c_65 pw_i_q0 nh_q0 ds_6
theorem pg_68 : pr_G 68 1 1 0 0 := pG_of (M := pr_m68) rfl qI_68 rfl rfl rfl rfl pw_c_68 pw_i_q0 nh_q0 ds_5
theorem pg_242 : pr_G 242 0 1 0 0 := pG_of (M := pr_m242) rfl qI_242 rfl rfl rfl rfl pw_c_242 pw_i_q8 nh_q8 ds_7
theorem pg_277 : pr_G 277 1 7 0 0 := pG_of (M := pr_m277) rfl qI_277 rfl rfl rfl rfl pw_c_277 pw_i_q1 nh_q1 ds_5
theorem pg_248 : pr_G 248 0 3 0 0 := pG_of (M := pr_m248) rfl qI_248 rfl rfl rfl rfl pw_c_248 pw_i_q8 nh_q8 ds_7
theorem pg_66 : pr_G 66 2 2 1 6 := pG_of (M := pr_m66) rfl qI_66 rfl rfl rfl rfl pw_c_66 pw_i_q0 nh_q0 ds_8
theorem pg_283 : pr_G 283 1 3 0 0 := pG_of (M := pr_m283) rfl qI_283 rfl rfl rfl rfl pw_c_283 pw_i_q1 nh_q1 ds_6
theorem pg_67 : pr_G 67 1 1 1 6 := pG_of (M := pr_m67) rfl qI_67 rfl rfl rfl rfl pw_c_67 pw_i_q0 nh_q0 ds_9
theorem pg_243 : pr_G 243 0 3 0 0 := pG_of (M := pr_m243) rfl qI_243 rfl rfl rfl rfl pw_c_243 pw_i_q8 nh_q8 ds_7
theorem pg_244 : pr_G 244 1 3 0 0 := pG_of (M := pr_m244) rfl qI_244 rfl rfl rfl rfl pw_c_244 pw_i_q8 nh_q8 ds_10
theorem pg_279 : pr_G 279 2 4 0 0 := pG_of (M := pr_m279) rfl qI_279 rfl rfl rfl rfl pw_c_279 pw_i_q1 nh_q1 ds_11
theorem pg_276 : pr_G 276 2 8 0 0 := pG_of (M := pr_m276) rfl qI_276 rfl rfl rfl rfl pw_c_276 pw_i_q1 nh_q1 ds_12
theorem pg_282 : pr_G 282 1 4 0 0 := pG_of (M := pr_m282) rfl qI_282 rfl rfl rfl rfl pw_c_282 pw_i_q1 nh_q1 ds_13
theorem pg_235 : pr_G 235 0 1 0 0 := pG_of (M := pr_m235) rfl qI_235 rfl rfl rfl rfl pw_c_235 pw_i_q8 nh_q8 ds_2
theorem pg_278 : pr_G 278 0 6 0 0 := pG_of (M := pr_m278) rfl qI_278 rfl rfl rfl rfl pw_c_278 pw_i_q1 nh_q1 ds_7
theorem pg_219 : pr_G 219 1 2 0 0 := pG_of (M := pr_m219) rfl qI_219 rfl rfl rfl rfl pw_c_219 pw_i_q2 nh_q2 ds_3
theorem pg_286 : pr_G 286 4 6 0 0 := pG_of (M := pr_m286) rfl qI_286 rfl rfl rfl rfl pw_c_286 pw_i_q1 nh_q1 ds_14
theorem pg_69 : pr_G 69 2 4 3 18 := pG_of (M := pr_m69) rfl qI_69 rfl rfl rfl rfl pw_c_69 pw_i_q0 nh_q0 ds_15
theorem pg_287 : pr_G 287 2 11 0 0 := pG_of (M := pr_m287) rfl qI_287 rfl rfl rfl rfl pw_c_287 pw_i_q1 nh_q1 ds_12
theorem pg_70 : pr_G 70 2 2 2 12 := pG_of (M := pr_m70) rfl qI_70 rfl rfl rfl rfl pw_c_70 pw_i_q0 nh_q0 ds_8
theorem pg_299 : pr_G 299 2 8 0 0 := pG_of (M := pr_m299) rfl qI_299 rfl rfl rfl rfl pw_c_299 pw_i_q1 nh_q1 ds_16
theorem pg_281 : pr_G 281 2 8 0 0 := pG_of (M := pr_m281) rfl qI_281 rfl rfl rfl rfl pw_c_281 pw_i_q1 nh_q1 ds_17
theorem pg_236 : pr_G 236 0 1 0 0 := pG_of (M := pr_m236) rfl qI_236 rfl rfl rfl rfl pw_c_236 pw_i_q8 nh_q8 ds_2
theorem pg_300 : pr_G 300 2 8 0 0 := pG_of (M := pr_m300) rfl qI_300 rfl rfl rfl rfl pw_c_300 pw_i_q1 nh_q1 ds_12
theorem pg_241 : pr_G 241 1 2 0 0 := pG_of (M := pr_m241) rfl qI_241 rfl rfl rfl rfl pw_c_241 pw_i_q8 nh_q8 ds_18
theorem pg_245 : pr_G 245 1 2 0 0 := pG_of (M := pr_m245) rfl qI_245 rfl rfl rfl rfl pw_c_245 pw_i_q8 nh_q8 ds_19
theorem pg_284 : pr_G 284 2 3 0 0 := pG_of (M := pr_m284) rfl qI_284 rfl rfl rfl rfl pw_c_284 pw_i_q1 nh_q1 ds_20
theorem pg_293 : pr_G 293 1 5 0 0 := pG_of (M := pr_m293) rfl qI_293 rfl rfl rfl rfl pw_c_293 pw_i_q1 nh_q1 ds_13
theorem pg_291 : pr_G 291 1 7 0 0 := pG_of (M := pr_m291) rfl qI_291 rfl rfl rfl rfl pw_c_291 pw_i_q1 nh_q1 ds_13
theorem pg_71 : pr_G 71 2 4 0 0 := pG_of (M := pr_m71) rfl qI_71 rfl rfl rfl rfl pw_c_71 pw_i_q0 nh_q0 ds_16
theorem pg_274 : pr_G 274 1 2 0 0 := pG_of (M := pr_m274) rfl qI_274 rfl rfl rfl rfl pw_c_274 pw_i_q1 nh_q1 ds_6
theorem pg_237 : pr_G 237 0 1 0 0 := pG_of (M := pr_m237) rfl qI_237 rfl rfl rfl rfl pw_c_237 pw_i_q8 nh_q8 ds_2
theorem pg_303 : pr_G 303 2 5 0 0 := pG_of (M := pr_m303) rfl qI_303 rfl rfl rfl rfl pw_c_303 pw_i_q1 nh_q1 ds_12
theorem pg_302 : pr_G 302 1 7 0 0 := pG_of (M := pr_m302) rfl qI_302 rfl rfl rfl rfl pw_c_302 pw_i_q1 nh_q1 ds_5
theorem pg_298 : pr_G 298 2 3 0 0 := pG_of (M := pr_m298) rfl qI_298 rfl rfl rfl rfl pw_c_298 pw_i_q1 nh_q1 ds_21
theorem pg_301 : pr_G 301 1 4 0 0 := pG_of (M := pr_m301) rfl qI_301 rfl rfl rfl rfl pw_c_301 pw_i_q1 nh_q1 ds_5
theorem pg_238 : pr_G 238 1 2 0 0 := pG_of (M := pr_m238) rfl qI_238 rfl rfl rfl rfl pw_c_238 pw_i_q8 nh_q8 ds_10
theorem pg_227 : pr_G 227 1 5 0 0 := pG_of (M := pr_m227) rfl qI_227 rfl rfl rfl rfl pw_c_227 pw_i_q4 nh_q4 ds_19
theorem pg_228 : pr_G 228 2 7 0 0 := pG_of (M := pr_m228) rfl qI_228 rfl rfl rfl rfl pw_c_228 pw_i_q4 nh_q4 ds_22
theorem pg_72 : pr_G 72 4 9 0 0 := pG_of (M := pr_m72) rfl qI_72 rfl rfl rfl rfl pw_c_72 pw_i_q0 nh_q0 ds_23
theorem pg_229 : pr_G 229 2 5 0 0 := pG_of (M := pr_m229) rfl qI_229 rfl rfl rfl rfl pw_c_229 pw_i_q4 nh_q4 ds_22
theorem pg_230 : pr_G 230 2 5 0 0 := pG_of (M := pr_m230) rfl qI_230 rfl rfl rfl rfl pw_c_230 pw_i_q4 nh_q4 ds_22
theorem pg_225 : pr_G 225 1 2 0 0 := pG_of (M := pr_m225) rfl qI_225 rfl rfl rfl rfl pw_c_225 pw_i_q4 nh_q4 ds_24
theorem pg_220 : pr_G 220 1 2 0 0 := pG_of (M := pr_m220) rfl qI_220 rfl rfl rfl rfl pw_c_220 pw_i_q2 nh_q2 ds_25
theorem pg_226 : pr_G 226 1 2 0 0 := pG_of (M := pr_m226) rfl qI_226 rfl rfl rfl rfl pw_c_226 pw_i_q4 nh_q4 ds_1
theorem pg_78 : pr_G 78 0 2 0 0 := pG_of (M := pr_m78) rfl qI_78 rfl rfl rfl rfl pw_c_78 pw_i_q12 nh_q12 ds_0
theorem pg_79 : pr_G 79 4 7 0 0 := pG_of (M := pr_m79) rfl qI_79 rfl rfl rfl rfl pw_c_79 pw_i_q12 nh_q12 ds_26
theorem pg_77 : pr_G 77 5 6 0 0 := pG_of (M := pr_m77) rfl qI_77 rfl rfl rfl rfl pw_c_77 pw_i_q12 nh_q12 ds_27
theorem pg_84 : pr_G 84 3 4 0 0 := pG_of (M := pr_m84) rfl qI_84 rfl rfl rfl rfl pw_c_84 pw_i_q12 nh_q12 ds_28
theorem pg_83 : pr_G 83 1 2 0 0 := pG_of (M := pr_m83) rfl qI_83 rfl rfl rfl rfl pw_c_83 pw_i_q12 nh_q12 ds_18
theorem pg_85 : pr_G 85 2 5 0 0 := pG_of (M := pr_m85) rfl qI_85 rfl rfl rfl rfl pw_c_85 pw_i_q12 nh_q12 ds_16
theorem pg_88 : pr_G 88 2 4 0 0 := pG_of (M := pr_m88) rfl qI_88 rfl rfl rfl rfl pw_c_88 pw_i_q12 nh_q12 ds_29
theorem pg_86 : pr_G 86 1 2 0 0 := pG_of (M := pr_m86) rfl qI_86 rfl rfl rfl rfl pw_c_86 pw_i_q12 nh_q12 ds_4
theorem pg_89 : pr_G 89 1 4 0 0 := pG_of (M := pr_m89) rfl qI_89 rfl rfl rfl rfl pw_c_89 pw_i_q12 nh_q12 ds_4
theorem pg_87 : pr_G 87 2 3 0 0 := pG_of (M := pr_m87) rfl qI_87 rfl rfl rfl rfl pw_c_87 pw_i_q12 nh_q12 ds_29
theorem pg_91 : pr_G 91 2 3 0 0 := pG_of (M := pr_m91) rfl qI_91 rfl rfl rfl rfl pw_c_91 pw_i_q12 nh_q12 ds_29
theorem pg_92 : pr_G 92 2 4 0 0 := pG_of (M := pr_m92) rfl qI_92 rfl rfl rfl rfl pw_c_92 pw_i_q12 nh_q12 ds_16
theorem pg_93 : pr_G 93 3 6 0 0 := pG_of (M := pr_m93) rfl qI_93 rfl rfl rfl rfl pw_c_93 pw_i_q12 nh_q12 ds_30
theorem pg_94 : pr_G 94 2 4 0 0 := pG_of (M := pr_m94) rfl qI_94 rfl rfl rfl rfl pw_c_94 pw_i_q12 nh_q12 ds_16
theorem pg_95 : pr_G 95 2 4 0 0 := pG_of (M := pr_m95) rfl qI_95 rfl rfl rfl rfl pw_c_95 pw_i_q12 nh_q12 ds_16
theorem pg_96 : pr_G 96 3 4 0 0 := pG_of (M := pr_m96) rfl qI_96 rfl rfl rfl rfl pw_c_96 pw_i_q12 nh_q12 ds_31
theorem pg_101 : pr_G 101 1 4 0 0 := pG_of (M := pr_m101) rfl qI_101 rfl rfl rfl rfl pw_c_101 pw_i_q12 nh_q12 ds_4
theorem pg_102 : pr_G 102 1 3 0 0 := pG_of (M := pr_m102) rfl qI_102 rfl rfl rfl rfl pw_c_102 pw_i_q12 nh_q12 ds_4
theorem pg_99 : pr_G 99 2 5 0 0 := pG_of (M := pr_m99) rfl qI_99 rfl rfl rfl rfl pw_c_99 pw_i_q12 nh_q12 ds_16
theorem pg_100 : pr_G 100 2 4 0 0 := pG_of (M := pr_m100) rfl qI_100 rfl rfl rfl rfl pw_c_100 pw_i_q12 nh_q12 ds_16
theorem pg_97 : pr_G 97 2 5 0 0 := pG_of (M := pr_m97) rfl qI_97 rfl rfl rfl rfl pw_c_97 pw_i_q12 nh_q12 ds_16
theorem pg_98 : pr_G 98 2 3 0 0 := pG_of (M := pr_m98) rfl qI_98 rfl rfl rfl rfl pw_c_98 pw_i_q12 nh_q12 ds_8
theorem pg_103 : pr_G 103 1 4 0 0 := pG_of (M := pr_m103) rfl qI_103 rfl rfl rfl rfl pw_c_103 pw_i_q12 nh_q12 ds_4
theorem pg_104 : pr_G 104 2 7 0 0 := pG_of (M := pr_m104) rfl qI_104 rfl rfl rfl rfl pw_c_104 pw_i_q12 nh_q12 ds_16
theorem pg_106 : pr_G 106 1 3 0 0 := pG_of (M := pr_m106) rfl qI_106 rfl rfl rfl rfl pw_c_106 pw_i_q12 nh_q12 ds_1
theorem pg_75 : pr_G 75 3 3 0 0 := pG_of (M := pr_m75) rfl qI_75 rfl rfl rfl rfl pw_c_75 pw_i_q12 nh_q12 ds_28
theorem pg_109 : pr_G 109 1 2 0 0 := pG_of (M := pr_m109) rfl qI_109 rfl rfl rfl rfl pw_c_109 pw_i_q12 nh_q12 ds_4
theorem pg_111 : pr_G 111 0 1 0 0 := pG_of (M := pr_m111) rfl qI_111 rfl rfl rfl rfl pw_c_111 pw_i_q12 nh_q12 ds_7
theorem pg_112 : pr_G 112 1 2 0 0 := pG_of (M := pr_m112) rfl qI_112 rfl rfl rfl rfl pw_c_112 pw_i_q12 nh_q12 ds_18
theorem pg_114 : pr_G 114 2 3 0 0 := pG_of (M := pr_m114) rfl qI_114 rfl rfl rfl rfl pw_c_114 pw_i_q12 nh_q12 ds_29
theorem pg_110 : pr_G 110 0 2 0 0 := pG_of (M := pr_m110) rfl qI_110 rfl rfl rfl rfl pw_c_110 pw_i_q12 nh_q12 ds_0
theorem pg_113 : pr_G 113 1 3 0 0 := pG_of (M := pr_m113) rfl qI_113 rfl rfl rfl rfl pw_c_113 pw_i_q12 nh_q12 ds_32
theorem pg_116 : pr_G 116 1 2 0 0 := pG_of (M := pr_m116) rfl qI_116 rfl rfl rfl rfl pw_c_116 pw_i_q12 nh_q12 ds_18
theorem pg_115 : pr_G 115 3 4 0 0 := pG_of (M := pr_m115) rfl qI_115 rfl rfl rfl rfl pw_c_115 pw_i_q12 nh_q12 ds_28
theorem pg_117 : pr_G 117 0 1 0 0 := pG_of (M := pr_m117) rfl qI_117 rfl rfl rfl rfl pw_c_117 pw_i_q12 nh_q12 ds_7
theorem pg_121 : pr_G 121 0 3 0 0 := pG_of (M := pr_m121) rfl qI_121 rfl rfl rfl rfl pw_c_121 pw_i_q12 nh_q12 ds_2
theorem pg_118 : pr_G 118 0 1 0 0 := pG_of (M := pr_m118) rfl qI_118 rfl rfl rfl rfl pw_c_118 pw_i_q12 nh_q12 ds_2
theorem pg_119 : pr_G 119 0 1 0 0 := pG_of (M := pr_m119) rfl qI_119 rfl rfl rfl rfl pw_c_119 pw_i_q12 nh_q12 ds_2
theorem pg_120 : pr_G 120 0 1 0 0 := pG_of (M := pr_m120) rfl qI_120 rfl rfl rfl rfl pw_c_120 pw_i_q12 nh_q12 ds_2
theorem pg_122 : pr_G 122 0 1 0 0 := pG_of (M := pr_m122) rfl qI_122 rfl rfl rfl rfl pw_c_122 pw_i_q12 nh_q12 ds_2
theorem pg_123 : pr_G 123 0 1 0 0 := pG_of (M := pr_m123) rfl qI_123 rfl rfl rfl rfl pw_c_123 pw_i_q12 nh_q12 ds_2
theorem pg_124 : pr_G 124 0 1 0 0 := pG_of (M := pr_m124) rfl qI_124 rfl rfl rfl rfl pw_c_124 pw_i_q12 nh_q12 ds_2
theorem pg_125 : pr_G 125 0 1 0 0 := pG_of (M := pr_m125) rfl qI_125 rfl rfl rfl rfl pw_c_125 pw_i_q12 nh_q12 ds_2
theorem pg_126 : pr_G 126 0 1 0 0 := pG_of (M := pr_m126) rfl qI_126 rfl rfl rfl rfl pw_c_126 pw_i_q12 nh_q12 ds_2
theorem pg_127 : pr_G 127 0 1 0 0 := pG_of (M := pr_m127) rfl qI_127 rfl rfl rfl rfl pw_c_127 pw_i_q12 nh_q12 ds_2
theorem pg_76 : pr_G 76 2 3 0 0 := pG_of (M := pr_m76) rfl qI_76 rfl rfl rfl rfl pw_c_76 pw_i_q12 nh_q12 ds_33
theorem pg_131 : pr_G 131 1 4 0 0 := pG_of (M := pr_m131) rfl qI_131 rfl rfl rfl rfl pw_c_131 pw_i_q12 nh_q12 ds_4
theorem pg_132 : pr_G 132 1 4 0 0 := pG_of (M := pr_m132) rfl qI_132 rfl rfl rfl rfl pw_c_132 pw_i_q12 nh_q12 ds_4
theorem pg_135 : pr_G 135 1 2 0 0 := pG_of (M := pr_m135) rfl qI_135 rfl rfl rfl rfl pw_c_135 pw_i_q12 nh_q12 ds_18
theorem pg_133 : pr_G 133 1 4 0 0 := pG_of (M := pr_m133) rfl qI_133 rfl rfl rfl rfl pw_c_133 pw_i_q12 nh_q12 ds_4
theorem pg_139 : pr_G 139 2 3 0 0 := pG_of (M := pr_m139) rfl qI_139 rfl rfl rfl rfl pw_c_139 pw_i_q12 nh_q12 ds_29
theorem pg_142 : pr_G 142 1 2 0 0 := pG_of (M := pr_m142) rfl qI_142 rfl rfl rfl rfl pw_c_142 pw_i_q12 nh_q12 ds_18
theorem pg_146 : pr_G 146 2 3 0 0 := pG_of (M := pr_m146) rfl qI_146 rfl rfl rfl rfl pw_c_146 pw_i_q12 nh_q12 ds_29
theorem pg_145 : pr_G 145 2 4 0 0 := pG_of (M := pr_m145) rfl qI_145 rfl rfl rfl rfl pw_c_145 pw_i_q12 nh_q12 ds_16
theorem pg_149 : pr_G 149 1 4 0 0 := pG_of (M := pr_m149) rfl qI_149 rfl rfl rfl rfl pw_c_149 pw_i_q12 nh_q12 ds_4
theorem pg_152 : pr_G 152 2 4 0 0 := pG_of (M := pr_m152) rfl qI_152 rfl rfl rfl rfl pw_c_152 pw_i_q12 nh_q12 ds_16
theorem pg_90 : pr_G 90 0 3 0 0 := pG_of (M := pr_m90) rfl qI_90 rfl rfl rfl rfl pw_c_90 pw_i_q12 nh_q12 ds_7
theorem pg_151 : pr_G 151 1 4 0 0 := pG_of (M := pr_m151) rfl qI_151 rfl rfl rfl rfl pw_c_151 pw_i_q12 nh_q12 ds_4
theorem pg_155 : pr_G 155 0 3 0 0 := pG_of (M := pr_m155) rfl qI_155 rfl rfl rfl rfl pw_c_155 pw_i_q12 nh_q12 ds_7
theorem pg_157 : pr_G 157 1 1 0 0 := pG_of (M := pr_m157) rfl qI_157 rfl rfl rfl rfl pw_c_157 pw_i_q12 nh_q12 ds_18
theorem pg_80 : pr_G 80 0 1 0 0 := pG_of (M := pr_m80) rfl qI_80 rfl rfl rfl rfl pw_c_80 pw_i_q12 nh_q12 ds_0
theorem pg_159 : pr_G 159 2 3 0 0 := pG_of (M := pr_m159) rfl qI_159 rfl rfl rfl rfl pw_c_159 pw_i_q12 nh_q12 ds_29
theorem pg_161 : pr_G 161 2 3 0 0 := pG_of (M := pr_m161) rfl qI_161 rfl rfl rfl rfl pw_c_161 pw_i_q12 nh_q12 ds_29
theorem pg_105 : pr_G 105 2 7 0 0 := pG_of (M := pr_m105) rfl qI_105 rfl rfl rfl rfl pw_c_105 pw_i_q12 nh_q12 ds_16
theorem pg_136 : pr_G 136 2 3 0 0 := pG_of (M := pr_m136) rfl qI_136 rfl rfl rfl rfl pw_c_136 pw_i_q12 nh_q12 ds_29
theorem pg_168 : pr_G 168 3 5 0 0 := pG_of (M := pr_m168) rfl qI_168 rfl rfl rfl rfl pw_c_168 pw_i_q12 nh_q12 ds_31
theorem pg_173 : pr_G 173 1 4 0 0 := pG_of (M := pr_m173) rfl qI_173 rfl rfl rfl rfl pw_c_173 pw_i_q12 nh_q12 ds_4
theorem pg_137 : pr_G 137 2 3 0 0 := pG_of (M := pr_m137) rfl qI_137 rfl rfl rfl rfl pw_c_137 pw_i_q12 nh_q12 ds_29
theorem pg_81 : pr_G 81 0 1 0 0 := pG_of (M := pr_m81) rfl qI_81 rfl rfl rfl rfl pw_c_81 pw_i_q12 nh_q12 ds_0
theorem pg_82 : pr_G 82 0 1 0 0 := pG_of (M := pr_m82) rfl qI_82 rfl rfl rfl rfl pw_c_82 pw_i_q12 nh_q12 ds_0
theorem pg_180 : pr_G 180 2 4 0 0 := pG_of (M := pr_m180) rfl qI_180 rfl rfl rfl rfl pw_c_180 pw_i_q12 nh_q12 ds_16
theorem pg_205 : pr_G 205 1 2 0 0 := pG_of (M := pr_m205) rfl qI_205 rfl rfl rfl rfl pw_c_205 pw_i_q12 nh_q12 ds_1
theorem pg_208 : pr_G 208 1 2 0 0 := pG_of (M := pr_m208) rfl qI_208 rfl rfl rfl rfl pw_c_208 pw_i_q12 nh_q12 ds_1
theorem pg_206 : pr_G 206 2 4 0 0 := pG_of (M := pr_m206) rfl qI_206 rfl rfl rfl rfl pw_c_206 pw_i_q12 nh_q12 ds_16
theorem pg_207 : pr_G 207 1 3 0 0 := pG_of (M := pr_m207) rfl qI_207 rfl rfl rfl rfl pw_c_207 pw_i_q12 nh_q12 ds_1
theorem pg_211 : pr_G 211 1 4 0 0 := pG_of (M := pr_m211) rfl qI_211 rfl rfl rfl rfl pw_c_211 pw_i_q12 nh_q12 ds_1
theorem pg_209 : pr_G 209 1 3 0 0 := pG_of (M := pr_m209) rfl qI_209 rfl rfl rfl rfl pw_c_209 pw_i_q12 nh_q12 ds_1
theorem pg_210 : pr_G 210 1 3 0 0 := pG_of (M := pr_m210) rfl qI_210 rfl rfl rfl rfl pw_c_210 pw_i_q12 nh_q12 ds_1
theorem pg_212 : pr_G 212 1 4 0 0 := pG_of (M := pr_m212) rfl qI_212 rfl rfl rfl rfl pw_c_212 pw_i_q12 nh_q12 ds_1
theorem pg_231 : pr_G 231 0 1 0 0 := pG_of (M := pr_m231) rfl qI_231 rfl rfl rfl rfl pw_c_231 pw_i_q4 nh_q4 ds_0
theorem pg_246 : pr_G 246 1 2 0 0 := pG_of (M := pr_m246) rfl qI_246 rfl rfl rfl rfl pw_c_246 pw_i_q8 nh_q8 ds_4
theorem pg_221 : pr_G 221 0 1 1 500 := pG_of (M := pr_m221) rfl qI_221 rfl rfl rfl rfl pw_c_221 pw_i_q5 nh_q5 ds_0
theorem pg_270 : pr_G 270 0 5 0 0 := pG_of (M := pr_m270) rfl qI_270 rfl rfl rfl rfl pw_c_270 pw_i_q1 nh_q1 ds_0
theorem pg_265 : pr_G 265 0 1 0 0 := pG_of (M := pr_m265) rfl qI_265 rfl rfl rfl rfl pw_c_265 pw_i_q3 nh_q3 ds_0
theorem pg_268 : pr_G 268 1 4 0 0 := pG_of (M := pr_m268) rfl qI_268 rfl rfl rfl rfl pw_c_268 pw_i_q3 nh_q3 ds_32
theorem pg_252 : pr_G 252 0 3 0 0 := pG_of (M := pr_m252) rfl qI_252 rfl rfl rfl rfl pw_c_252 pw_i_q3 nh_q3 ds_2
theorem pg_254 : pr_G 254 0 1 0 0 := pG_of (M := pr_m254) rfl qI_254 rfl rfl rfl rfl pw_c_254 pw_i_q3 nh_q3 ds_2
theorem pg_255 : pr_G 255 0 1 0 0 := pG_of (M := pr_m255) rfl qI_255 rfl rfl rfl rfl pw_c_255 pw_i_q3 nh_q3 ds_2
theorem pg_256 : pr_G 256 0 4 0 0 := pG_of (M := pr_m256) rfl qI_256 rfl rfl rfl rfl pw_c_256 pw_i_q3 nh_q3 ds_2
theorem pg_257 : pr_G 257 0 3 0 0 := pG_of (M := pr_m257) rfl qI_257 rfl rfl rfl rfl pw_c_257 pw_i_q3 nh_q3 ds_2
theorem pg_258 : pr_G 258 0 3 0 0 := pG_of (M := pr_m258) rfl qI_258 rfl rfl rfl rfl pw_c_258 pw_i_q3 nh_q3 ds_2
theorem pg_259 : pr_G 259 0 2 0 0 := pG_of (M := pr_m259) rfl qI_259 rfl rfl rfl rfl pw_c_259 pw_i_q3 nh_q3 ds_2
theorem pg_260 : pr_G 260 0 4 0 0 := pG_of (M := pr_m260) rfl qI_260 rfl rfl rfl rfl pw_c_260 pw_i_q3 nh_q3 ds_2
theorem pg_264 : pr_G 264 1 2 0 0 := pG_of (M := pr_m264) rfl qI_264 rfl rfl rfl rfl pw_c_264 pw_i_q3 nh_q3 ds_18
theorem pg_272 : pr_G 272 0 2 0 0 := pG_of (M := pr_m272) rfl qI_272 rfl rfl rfl rfl pw_c_272 pw_i_q1 nh_q1 ds_0
theorem pg_253 : pr_G 253 0 1 0 0 := pG_of (M := pr_m253) rfl qI_253 rfl rfl rfl rfl pw_c_253 pw_i_q3 nh_q3 ds_7
theorem pg_271 : pr_G 271 1 6 0 0 := pG_of (M := pr_m271) rfl qI_271 rfl rfl rfl rfl pw_c_271 pw_i_q1 nh_q1 ds_18
theorem pg_262 : pr_G 262 2 3 0 0 := pG_of (M := pr_m262) rfl qI_262 rfl rfl rfl rfl pw_c_262 pw_i_q3 nh_q3 ds_29
theorem pg_263 : pr_G 263 0 1 0 0 := pG_of (M := pr_m263) rfl qI_263 rfl rfl rfl rfl pw_c_263 pw_i_q3 nh_q3 ds_2
theorem pg_261 : pr_G 261 1 2 0 0 := pG_of (M := pr_m261) rfl qI_261 rfl rfl rfl rfl pw_c_261 pw_i_q3 nh_q3 ds_6
theorem pg_247 : pr_G 247 2 3 0 0 := pG_of (M := pr_m247) rfl qI_247 rfl rfl rfl rfl pw_c_247 pw_i_q8 nh_q8 ds_8
theorem pg_223 : pr_G 223 1 2 0 0 := pG_of (M := pr_m223) rfl qI_223 rfl rfl rfl rfl pw_c_223 pw_i_q5 nh_q5 ds_4
theorem pg_266 : pr_G 266 1 1 0 0 := pG_of (M := pr_m266) rfl qI_266 rfl rfl rfl rfl pw_c_266 pw_i_q3 nh_q3 ds_18
theorem pg_267 : pr_G 267 1 1 0 0 := pG_of (M := pr_m267) rfl qI_267 rfl rfl rfl rfl pw_c_267 pw_i_q3 nh_q3 ds_4
theorem pg_232 : pr_G 232 1 2 0 0 := pG_of (M := pr_m232) rfl qI_232 rfl rfl rfl rfl pw_c_232 pw_i_q8 nh_q8 ds_1
theorem pg_233 : pr_G 233 4 5 0 0 := pG_of (M := pr_m233) rfl qI_233 rfl rfl rfl rfl pw_c_233 pw_i_q8 nh_q8 ds_34
theorem pg_234 : pr_G 234 1 2 0 0 := pG_of (M := pr_m234) rfl qI_234 rfl rfl rfl rfl pw_c_234 pw_i_q8 nh_q8 ds_19
theorem pg_239 : pr_G 239 1 2 0 0 := pG_of (M := pr_m239) rfl qI_239 rfl rfl rfl rfl pw_c_239 pw_i_q8 nh_q8 ds_10
theorem pg_280 : pr_G 280 2 7 0 0 := pG_of (M := pr_m280) rfl qI_280 rfl rfl rfl rfl pw_c_280 pw_i_q1 nh_q1 ds_17
theorem pg_288 : pr_G 288 2 4 0 0 := pG_of (M := pr_m288) rfl qI_288 rfl rfl rfl rfl pw_c_288 pw_i_q1 nh_q1 ds_11
theorem pg_289 : pr_G 289 2 5 0 0 := pG_of (M := pr_m289) rfl qI_289 rfl rfl rfl rfl pw_c_289 pw_i_q1 nh_q1 ds_35
theorem pg_292 : pr_G 292 2 3 0 0 := pG_of (M := pr_m292) rfl qI_292 rfl rfl rfl rfl pw_c_292 pw_i_q1 nh_q1 ds_35
theorem pg_290 : pr_G 290 2 4 0 0 := pG_of (M := pr_m290) rfl qI_290 rfl rfl rfl rfl pw_c_290 pw_i_q1 nh_q1 ds_17
theorem pg_240 : pr_G 240 0 1 0 0 := pG_of (M := pr_m240) rfl qI_240 rfl rfl rfl rfl pw_c_240 pw_i_q8 nh_q8 ds_2
theorem pg_294 : pr_G 294 2 4 0 0 := pG_of (M := pr_m294) rfl qI_294 rfl rfl rfl rfl pw_c_294 pw_i_q1 nh_q1 ds_11
theorem pg_295 : pr_G 295 3 11 0 0 := pG_of (M := pr_m295) rfl qI_295 rfl rfl rfl rfl pw_c_295 pw_i_q1 nh_q1 ds_36
theorem pg_296 : pr_G 296 2 8 0 0 := pG_of (M := pr_m296) rfl qI_296 rfl rfl rfl rfl pw_c_296 pw_i_q1 nh_q1 ds_11
theorem pg_297 : pr_G 297 2 7 0 0 := pG_of (M := pr_m297) rfl qI_297 rfl rfl rfl rfl pw_c_297 pw_i_q1 nh_q1 ds_11
theorem pg_304 : pr_G 304 1 7 0 0 := pG_of (M := pr_m304) rfl qI_304 rfl rfl rfl rfl pw_c_304 pw_i_q1 nh_q1 ds_13
theorem pg_6 : pr_G 6 1 2 1 6 := pG_of (M := pr_m6) rfl qI_6 rfl rfl rfl rfl pw_c_6 pw_i_q0 nh_q0 ds_4
theorem pg_7 : pr_G 7 2 4 2 12 := pG_of (M := pr_m7) rfl qI_7 rfl rfl rfl rfl pw_c_7 pw_i_q0 nh_q0 ds_16
theorem pg_8 : pr_G 8 1 2 1 6 := pG_of (M := pr_m8) rfl qI_8 rfl rfl rfl rfl pw_c_8 pw_i_q0 nh_q0 ds_4
theorem pg_10 : pr_G 10 1 3 2 12 := pG_of (M := pr_m10) rfl qI_10 rfl rfl rfl rfl pw_c_10 pw_i_q0 nh_q0 ds_4
theorem pg_11 : pr_G 11 2 5 2 12 := pG_of (M := pr_m11) rfl qI_11 rfl rfl rfl rfl pw_c_11 pw_i_q0 nh_q0 ds_29
theorem pg_12 : pr_G 12 2 5 3 18 := pG_of (M := pr_m12) rfl qI_12 rfl rfl rfl rfl pw_c_12 pw_i_q0 nh_q0 ds_16
theorem pg_13 : pr_G 13 1 2 1 6 := pG_of (M := pr_m13) rfl qI_13 rfl rfl rfl rfl pw_c_13 pw_i_q0 nh_q0 ds_4
theorem pg_14 : pr_G 14 1 4 1 6 := pG_of (M := pr_m14) rfl qI_14 rfl rfl rfl rfl pw_c_14 pw_i_q0 nh_q0 ds_4
theorem pg_17 : pr_G 17 4 6 5 30 := pG_of (M := pr_m17) rfl qI_17 rfl rfl rfl rfl pw_c_17 pw_i_q0 nh_q0 ds_26
theorem pg_18 : pr_G 18 2 4 3 18 := pG_of (M := pr_m18) rfl qI_18 rfl rfl rfl rfl pw_c_18 pw_i_q0 nh_q0 ds_16
theorem pg_19 : pr_G 19 2 3 2 12 := pG_of (M := pr_m19) rfl qI_19 rfl rfl rfl rfl pw_c_19 pw_i_q0 nh_q0 ds_16
theorem pg_20 : pr_G 20 1 4 3 18 := pG_of (M := pr_m20) rfl qI_20 rfl rfl rfl rfl pw_c_20 pw_i_q0 nh_q0 ds_4
theorem pg_21 : pr_G 21 2 4 3 18 := pG_of (M := pr_m21) rfl qI_21 rfl rfl rfl rfl pw_c_21 pw_i_q0 nh_q0 ds_16
theorem pg_22 : pr_G 22 2 5 3 18 := pG_of (M := pr_m22) rfl qI_22 rfl rfl rfl rfl pw_c_22 pw_i_q0 nh_q0 ds_29
theorem pg_23 : pr_G 23 2 6 3 18 := pG_of (M := pr_m23) rfl qI_23 rfl rfl rfl rfl pw_c_23 pw_i_q0 nh_q0 ds_16
theorem pg_24 : pr_G 24 2 5 3 18 := pG_of (M := pr_m24) rfl qI_24 rfl rfl rfl rfl pw_c_24 pw_i_q0 nh_q0 ds_16
theorem pg_25 : pr_G 25 2 5 3 18 := pG_of (M := pr_m25) rfl qI_25 rfl rfl rfl rfl pw_c_25 pw_i_q0 nh_q0 ds_16
theorem pg_26 : pr_G 26 2 5 4 24 := pG_of (M := pr_m26) rfl qI_26 rfl rfl rfl rfl pw_c_26 pw_i_q0 nh_q0 ds_16
theorem pg_27 : pr_G 27 2 5 3 18 := pG_of (M := pr_m27) rfl qI_27 rfl rfl rfl rfl pw_c_27 pw_i_q0 nh_q0 ds_16
theorem pg_28 : pr_G 28 1 3 2 12 := pG_of (M := pr_m28) rfl qI_28 rfl rfl rfl rfl pw_c_28 pw_i_q0 nh_q0 ds_4
theorem pg_29 : pr_G 29 1 3 2 12 := pG_of (M := pr_m29) rfl qI_29 rfl rfl rfl rfl pw_c_29 pw_i_q0 nh_q0 ds_4
theorem pg_30 : pr_G 30 2 3 3 18 := pG_of (M := pr_m30) rfl qI_30 rfl rfl rfl rfl pw_c_30 pw_i_q0 nh_q0 ds_16
theorem pg_31 : pr_G 31 2 3 3 18 := pG_of (M := pr_m31) rfl qI_31 rfl rfl rfl rfl pw_c_31 pw_i_q0 nh_q0 ds_16
theorem pg_32 : pr_G 32 3 5 4 24 := pG_of (M := pr_m32) rfl qI_32 rfl rfl rfl rfl pw_c_32 pw_i_q0 nh_q0 ds_31
theorem pg_33 : pr_G 33 2 3 2 12 := pG_of (M := pr_m33) rfl qI_33 rfl rfl rfl rfl pw_c_33 pw_i_q0 nh_q0 ds_16
theorem pg_34 : pr_G 34 1 9 1 6 := pG_of (M := pr_m34) rfl qI_34 rfl rfl rfl rfl pw_c_34 pw_i_q0 nh_q0 ds_4
theorem pg_35 : pr_G 35 1 8 1 6 := pG_of (M := pr_m35) rfl qI_35 rfl rfl rfl rfl pw_c_35 pw_i_q0 nh_q0 ds_4
theorem pg_38 : pr_G 38 1 7 1 6 := pG_of (M := pr_m38) rfl qI_38 rfl rfl rfl rfl pw_c_38 pw_i_q0 nh_q0 ds_4
theorem pg_39 : pr_G 39 1 2 1 6 := pG_of (M := pr_m39) rfl qI_39 rfl rfl rfl rfl pw_c_39 pw_i_q0 nh_q0 ds_4
theorem pg_40 : pr_G 40 1 7 1 6 := pG_of (M := pr_m40) rfl qI_40 rfl rfl rfl rfl pw_c_40 pw_i_q0 nh_q0 ds_4
theorem pg_43 : pr_G 43 2 4 3 18 := pG_of (M := pr_m43) rfl qI_43 rfl rfl rfl rfl pw_c_43 pw_i_q0 nh_q0 ds_16
theorem pg_44 : pr_G 44 2 8 3 18 := pG_of (M := pr_m44) rfl qI_44 rfl rfl rfl rfl pw_c_44 pw_i_q0 nh_q0 ds_16
theorem pg_45 : pr_G 45 1 3 2 12 := pG_of (M := pr_m45) rfl qI_45 rfl rfl rfl rfl pw_c_45 pw_i_q0 nh_q0 ds_4
theorem pg_46 : pr_G 46 1 2 1 6 := pG_of (M := pr_m46) rfl qI_46 rfl rfl rfl rfl pw_c_46 pw_i_q0 nh_q0 ds_4
theorem pg_47 : pr_G 47 1 8 1 6 := pG_of (M := pr_m47) rfl qI_47 rfl rfl rfl rfl pw_c_47 pw_i_q0 nh_q0 ds_4
theorem pg_49 : pr_G 49 1 8 2 12 := pG_of (M := pr_m49) rfl qI_49 rfl rfl rfl rfl pw_c_49 pw_i_q0 nh_q0 ds_4
theorem pg_50 : pr_G 50 1 2 2 12 := pG_of (M := pr_m50) rfl qI_50 rfl rfl rfl rfl pw_c_50 pw_i_q0 nh_q0 ds_4
theorem pg_51 : pr_G 51 2 3 2 12 := pG_of (M := pr_m51) rfl qI_51 rfl rfl rfl rfl pw_c_51 pw_i_q0 nh_q0 ds_16
theorem pg_53 : pr_G 53 2 5 3 18 := pG_of (M := pr_m53) rfl qI_53 rfl rfl rfl rfl pw_c_53 pw_i_q0 nh_q0 ds_16
theorem pg_54 : pr_G 54 1 3 2 12 := pG_of (M := pr_m54) rfl qI_54 rfl rfl rfl rfl pw_c_54 pw_i_q0 nh_q0 ds_4
theorem pg_55 : pr_G 55 3 4 5 30 := pG_of (M := pr_m55) rfl qI_55 rfl rfl rfl rfl pw_c_55 pw_i_q0 nh_q0 ds_31
theorem pg_56 : pr_G 56 1 3 1 6 := pG_of (M := pr_m56) rfl qI_56 rfl rfl rfl rfl pw_c_56 pw_i_q0 nh_q0 ds_4
theorem pg_57 : pr_G 57 1 10 1 6 := pG_of (M := pr_m57) rfl qI_57 rfl rfl rfl rfl pw_c_57 pw_i_q0 nh_q0 ds_4
theorem pg_58 : pr_G 58 1 8 1 6 := pG_of (M := pr_m58) rfl qI_58 rfl rfl rfl rfl pw_c_58 pw_i_q0 nh_q0 ds_4
theorem pg_59 : pr_G 59 1 8 1 6 := pG_of (M := pr_m59) rfl qI_59 rfl rfl rfl rfl pw_c_59 pw_i_q0 nh_q0 ds_4
theorem pg_60 : pr_G 60 2 4 3 18 := pG_of (M := pr_m60) rfl qI_60 rfl rfl rfl rfl pw_c_60 pw_i_q0 nh_q0 ds_16
theorem pg_64 : pr_G 64 0 1 1 6 := pG_of (M := pr_m64) rfl qI_64 rfl rfl rfl rfl pw_c_64 pw_i_q0 nh_q0 ds_7
theorem pg_0 : pr_G 0 0 1 623 10110 := pG_of (M := pr_m0) rfl qI_0 rfl rfl rfl rfl pw_c_0 pw_i_q0 nh_q0 ds_0
theorem pg_73 : pr_G 73 0 1 10 11904 := pG_of (M := pr_m73) rfl qI_73 rfl rfl rfl rfl pw_c_73 pw_i_q12 nh_q12 ds_0
theorem pg_1 : pr_G 1 5 7 0 0 := pG_of (M := pr_m1) rfl qI_1 rfl rfl rfl rfl pw_c_1 pw_i_q0 nh_q0 ds_37
theorem pg_107 : pr_G 107 5 6 0 0 := pG_of (M := pr_m107) rfl qI_107 rfl rfl rfl rfl pw_c_107 pw_i_q12 nh_q12 ds_37
theorem pg_2 : pr_G 2 1 2 0 0 := pG_of (M := pr_m2) rfl qI_2 rfl rfl rfl rfl pw_c_2 pw_i_q0 nh_q0 ds_18
theorem pg_108 : pr_G 108 1 2 0 0 := pG_of (M := pr_m108) rfl qI_108 rfl rfl rfl rfl pw_c_108 pw_i_q12 nh_q12 ds_18
theorem pg_3 : pr_G 3 0 3 0 0 := pG_of (M := pr_m3) rfl qI_3 rfl rfl rfl rfl pw_c_3 pw_i_q0 nh_q0 ds_7
theorem pg_128 : pr_G 128 0 2 0 0 := pG_of (M := pr_m128) rfl qI_128 rfl rfl rfl rfl pw_c_128 pw_i_q12 nh_q12 ds_7
theorem pg_4 : pr_G 4 0 1 0 0 := pG_of (M := pr_m4) rfl qI_4 rfl rfl rfl rfl pw_c_4 pw_i_q0 nh_q0 ds_7
theorem pg_129 : pr_G 129 0 1 0 0 := pG_of (M := pr_m129) rfl qI_129 rfl rfl rfl rfl pw_c_129 pw_i_q12 nh_q12 ds_7
theorem pg_5 : pr_G 5 0 1 0 0 := pG_of (M := pr_m5) rfl qI_5 rfl rfl rfl rfl pw_c_5 pw_i_q0 nh_q0 ds_7
theorem pg_130 : pr_G 130 0 1 0 0 := pG_of (M := pr_m130) rfl qI_130 rfl rfl rfl rfl pw_c_130 pw_i_q12 nh_q12 ds_7
theorem pg_305 : pr_G 305 3 4 1 6 := pG_of (M := pr_m305) rfl qI_305 rfl rfl rfl rfl pw_c_305 pw_i_q15 nh_q15 ds_38
theorem pg_134 : pr_G 134 1 2 0 0 := pG_of (M := pr_m134) rfl qI_134 rfl rfl rfl rfl pw_c_134 pw_i_q12 nh_q12 ds_4
theorem pg_306 : pr_G 306 4 5 2 12 := pG_of (M := pr_m306) rfl qI_306 rfl rfl rfl rfl pw_c_306 pw_i_q15 nh_q15 ds_39
theorem pg_138 : pr_G 138 2 3 0 0 := pG_of (M := pr_m138) rfl qI_138 rfl rfl rfl rfl pw_c_138 pw_i_q12 nh_q12 ds_16
theorem pg_307 : pr_G 307 3 4 1 6 := pG_of (M := pr_m307) rfl qI_307 rfl rfl rfl rfl pw_c_307 pw_i_q15 nh_q15 ds_38
theorem pg_140 : pr_G 140 1 2 0 0 := pG_of (M := pr_m140) rfl qI_140 rfl rfl rfl rfl pw_c_140 pw_i_q12 nh_q12 ds_4
theorem pg_9 : pr_G 9 1 2 0 0 := pG_of (M := pr_m9) rfl qI_9 rfl rfl rfl rfl pw_c_9 pw_i_q0 nh_q0 ds_4
theorem pg_141 : pr_G 141 1 2 0 0 := pG_of (M := pr_m141) rfl qI_141 rfl rfl rfl rfl pw_c_141 pw_i_q12 nh_q12 ds_4
theorem pg_308 : pr_G 308 3 4 2 12 := pG_of (M := pr_m308) rfl qI_308 rfl rfl rfl rfl pw_c_308 pw_i_q15 nh_q15 ds_38
theorem pg_143 : pr_G 143 1 2 0 0 := pG_of (M := pr_m143) rfl qI_143 rfl rfl rfl rfl pw_c_143 pw_i_q12 nh_q12 ds_4
theorem pg_309 : pr_G 309 4 5 2 12 := pG_of (M := pr_m309) rfl qI_309 rfl rfl rfl rfl pw_c_309 pw_i_q15 nh_q15 ds_39
theorem pg_144 : pr_G 144 2 3 0 0 := pG_of (M := pr_m144) rfl qI_144 rfl rfl rfl rfl pw_c_144 pw_i_q12 nh_q12 ds_29
theorem pg_310 : pr_G 310 4 5 3 18 := pG_of (M := pr_m310) rfl qI_310 rfl rfl rfl rfl pw_c_310 pw_i_q15 nh_q15 ds_39
theorem pg_147 : pr_G 147 2 3 0 0 := pG_of (M := pr_m147) rfl qI_147 rfl rfl rfl rfl pw_c_147 pw_i_q12 nh_q12 ds_16
theorem pg_311 : pr_G 311 3 4 1 6 := pG_of (M := pr_m311) rfl qI_311 rfl rfl rfl rfl pw_c_311 pw_i_q15 nh_q15 ds_38
theorem pg_150 : pr_G 150 1 2 0 0 := pG_of (M := pr_m150) rfl qI_150 rfl rfl rfl rfl pw_c_150 pw_i_q12 nh_q12 ds_4
theorem pg_312 : pr_G 312 3 4 1 6 := pG_of (M := pr_m312) rfl qI_312 rfl rfl rfl rfl pw_c_312 pw_i_q15 nh_q15 ds_38
theorem pg_153 : pr_G 153 1 4 0 0 := pG_of (M := pr_m153) rfl qI_153 rfl rfl rfl rfl pw_c_153 pw_i_q12 nh_q12 ds_4
theorem pg_74 : pr_G 74 0 1 0 0 := pG_of (M := pr_m74) rfl qI_74 rfl rfl rfl rfl pw_c_74 pw_i_q12 nh_q12 ds_7
theorem pg_15 : pr_G 15 1 7 0 0 := pG_of (M := pr_m15) rfl qI_15 rfl rfl rfl rfl pw_c_15 pw_i_q0 nh_q0 ds_4
theorem pg_154 : pr_G 154 1 4 0 0 := pG_of (M := pr_m154) rfl qI_154 rfl rfl rfl rfl pw_c_154 pw_i_q12 nh_q12 ds_4
theorem pg_16 : pr_G 16 0 1 0 0 := pG_of (M := pr_m16) rfl qI_16 rfl rfl rfl rfl pw_c_16 pw_i_q0 nh_q0 ds_7
theorem pg_156 : pr_G 156 0 1 0 0 := pG_of (M := pr_m156) rfl qI_156 rfl rfl rfl rfl pw_c_156 pw_i_q12 nh_q12 ds_7
theorem pg_313 : pr_G 313 6 7 5 30 := pG_of (M := pr_m313) rfl qI_313 rfl rfl rfl rfl pw_c_313 pw_i_q15 nh_q15 ds_40
theorem pg_158 : pr_G 158 4 5 0 0 := pG_of (M := pr_m158) rfl qI_158 rfl rfl rfl rfl pw_c_158 pw_i_q12 nh_q12 ds_26
theorem pg_314 : pr_G 314 4 5 3 18 := pG_of (M := pr_m314) rfl qI_314 rfl rfl rfl rfl pw_c_314 pw_i_q15 nh_q15 ds_39
theorem pg_160 : pr_G 160 2 3 0 0 := pG_of (M := pr_m160) rfl qI_160 rfl rfl rfl rfl pw_c_160 pw_i_q12 nh_q12 ds_16
theorem pg_315 : pr_G 315 4 5 2 12 := pG_of (M := pr_m315) rfl qI_315 rfl rfl rfl rfl pw_c_315 pw_i_q15 nh_q15 ds_39
theorem pg_162 : pr_G 162 2 3 0 0 := pG_of (M := pr_m162) rfl qI_162 rfl rfl rfl rfl pw_c_162 pw_i_q12 nh_q12 ds_16
theorem pg_316 : pr_G 316 3 4 3 18 := pG_of (M := pr_m316) rfl qI_316 rfl rfl rfl rfl pw_c_316 pw_i_q15 nh_q15 ds_38
theorem pg_163 : pr_G 163 1 3 0 0 := pG_of (M := pr_m163) rfl qI_163 rfl rfl rfl rfl pw_c_163 pw_i_q12 nh_q12 ds_4
theorem pg_317 : pr_G 317 4 5 3 18 := pG_of (M := pr_m317) rfl qI_317 rfl rfl rfl rfl pw_c_317 pw_i_q15 nh_q15 ds_39
theorem pg_165 : pr_G 165 2 5 0 0 := pG_of (M := pr_m165) rfl qI_165 rfl rfl rfl rfl pw_c_165 pw_i_q12 nh_q12 ds_16
theorem pg_318 : pr_G 318 4 5 3 18 := pG_of (M := pr_m318) rfl qI_318 rfl rfl rfl rfl pw_c_318 pw_i_q15 nh_q15 ds_39
theorem pg_166 : pr_G 166 2 4 0 0 := pG_of (M := pr_m166) rfl qI_166 rfl rfl rfl rfl pw_c_166 pw_i_q12 nh_q12 ds_29
theorem pg_319 : pr_G 319 4 5 3 18 := pG_of (M := pr_m319) rfl qI_319 rfl rfl rfl rfl pw_c_319 pw_i_q15 nh_q15 ds_39
theorem pg_167 : pr_G 167 2 4 0 0 := pG_of (M := pr_m167) rfl qI_167 rfl rfl rfl rfl pw_c_167 pw_i_q12 nh_q12 ds_16
theorem pg_320 : pr_G 320 4 5 3 18 := pG_of (M := pr_m320) rfl qI_320 rfl rfl rfl rfl pw_c_320 pw_i_q15 nh_q15 ds_39
theorem pg_169 : pr_G 169 2 3 0 0 := pG_of (M := pr_m169) rfl qI_169 rfl rfl rfl rfl pw_c_169 pw_i_q12 nh_q12 ds_16
theorem pg_321 : pr_G 321 4 5 3 18 := pG_of (M := pr_m321) rfl qI_321 rfl rfl rfl rfl pw_c_321 pw_i_q15 nh_q15 ds_39
theorem pg_170 : pr_G 170 2 3 0 0 := pG_of (M := pr_m170) rfl qI_170 rfl rfl rfl rfl pw_c_170 pw_i_q12 nh_q12 ds_16
theorem pg_322 : pr_G 322 4 5 4 24 := pG_of (M := pr_m322) rfl qI_322 rfl rfl rfl rfl pw_c_322 pw_i_q15 nh_q15 ds_39
theorem pg_171 : pr_G 171 2 4 0 0 := pG_of (M := pr_m171) rfl qI_171 rfl rfl rfl rfl pw_c_171 pw_i_q12 nh_q12 ds_16
theorem pg_323 : pr_G 323 4 5 3 18 := pG_of (M := pr_m323) rfl qI_323 rfl rfl rfl rfl pw_c_323 pw_i_q15 nh_q15 ds_39
theorem pg_172 : pr_G 172 2 4 0 0 := pG_of (M := pr_m172) rfl qI_172 rfl rfl rfl rfl pw_c_172 pw_i_q12 nh_q12 ds_16
theorem pg_324 : pr_G 324 3 4 2 12 := pG_of (M := pr_m324) rfl qI_324 rfl rfl rfl rfl pw_c_324 pw_i_q15 nh_q15 ds_38
theorem pg_177 : pr_G 177 1 2 0 0 := pG_of (M := pr_m177) rfl qI_177 rfl rfl rfl rfl pw_c_177 pw_i_q12 nh_q12 ds_4
theorem pg_325 : pr_G 325 3 4 2 12 := pG_of (M := pr_m325) rfl qI_325 rfl rfl rfl rfl pw_c_325 pw_i_q15 nh_q15 ds_38
theorem pg_179 : pr_G 179 1 2 0 0 := pG_of (M := pr_m179) rfl qI_179 rfl rfl rfl rfl pw_c_179 pw_i_q12 nh_q12 ds_4
theorem pg_326 : pr_G 326 4 5 3 18 := pG_of (M := pr_m326) rfl qI_326 rfl rfl rfl rfl pw_c_326 pw_i_q15 nh_q15 ds_39
theorem pg_181 : pr_G 181 2 3 0 0 := pG_of (M := pr_m181) rfl qI_181 rfl rfl rfl rfl pw_c_181 pw_i_q12 nh_q12 ds_16
theorem pg_327 : pr_G 327 4 5 3 18 := pG_of (M := pr_m327) rfl qI_327 rfl rfl rfl rfl pw_c_327 pw_i_q15 nh_q15 ds_39
theorem pg_182 : pr_G 182 2 5 0 0 := pG_of (M := pr_m182) rfl qI_182 rfl rfl rfl rfl pw_c_182 pw_i_q12 nh_q12 ds_16
theorem pg_328 : pr_G 328 5 6 4 24 := pG_of (M := pr_m328) rfl qI_328 rfl rfl rfl rfl pw_c_328 pw_i_q15 nh_q15 ds_41
theorem pg_183 : pr_G 183 3 6 0 0 := pG_of (M := pr_m183) rfl qI_183 rfl rfl rfl rfl pw_c_183 pw_i_q12 nh_q12 ds_31
theorem pg_329 : pr_G 329 4 5 2 12 := pG_of (M := pr_m329) rfl qI_329 rfl rfl rfl rfl pw_c_329 pw_i_q15 nh_q15 ds_39
theorem pg_185 : pr_G 185 2 6 0 0 := pG_of (M := pr_m185) rfl qI_185 rfl rfl rfl rfl pw_c_185 pw_i_q12 nh_q12 ds_16
theorem pg_330 : pr_G 330 3 4 1 6 := pG_of (M := pr_m330) rfl qI_330 rfl rfl rfl rfl pw_c_330 pw_i_q15 nh_q15 ds_38
theorem pg_187 : pr_G 187 1 6 0 0 := pG_of (M := pr_m187) rfl qI_187 rfl rfl rfl rfl pw_c_187 pw_i_q12 nh_q12 ds_4
theorem pg_331 : pr_G 331 3 4 1 6 := pG_of (M := pr_m331) rfl qI_331 rfl rfl rfl rfl pw_c_331 pw_i_q15 nh_q15 ds_38
theorem pg_190 : pr_G 190 1 4 0 0 := pG_of (M := pr_m190) rfl qI_190 rfl rfl rfl rfl pw_c_190 pw_i_q12 nh_q12 ds_4
theorem pg_36 : pr_G 36 0 6 0 0 := pG_of (M := pr_m36) rfl qI_36 rfl rfl rfl rfl pw_c_36 pw_i_q0 nh_q0 ds_7
theorem pg_191 : pr_G 191 0 3 0 0 := pG_of (M := pr_m191) rfl qI_191 rfl rfl rfl rfl pw_c_191 pw_i_q12 nh_q12 ds_7
theorem pg_37 : pr_G 37 0 6 0 0 := pG_of (M := pr_m37) rfl qI_37 rfl rfl rfl rfl pw_c_37 pw_i_q0 nh_q0 ds_7
theorem pg_192 : pr_G 192 0 3 0 0 := pG_of (M := pr_m192) rfl qI_192 rfl rfl rfl rfl pw_c_192 pw_i_q12 nh_q12 ds_7
theorem pg_332 : pr_G 332 3 4 1 6 := pG_of (M := pr_m332) rfl qI_332 rfl rfl rfl rfl pw_c_332 pw_i_q15 nh_q15 ds_38
theorem pg_193 : pr_G 193 1 4 0 0 := pG_of (M := pr_m193) rfl qI_193 rfl rfl rfl rfl pw_c_193 pw_i_q12 nh_q12 ds_4
theorem pg_333 : pr_G 333 3 4 1 6 := pG_of (M := pr_m333) rfl qI_333 rfl rfl rfl rfl pw_c_333 pw_i_q15 nh_q15 ds_38
theorem pg_194 : pr_G 194 1 2 0 0 := pG_of (M := pr_m194) rfl qI_194 rfl rfl rfl rfl pw_c_194 pw_i_q12 nh_q12 ds_4
theorem pg_334 : pr_G 334 3 4 1 6 := pG_of (M := pr_m334) rfl qI_334 rfl rfl rfl rfl pw_c_334 pw_i_q15 nh_q15 ds_38
theorem pg_195 : pr_G 195 1 2 0 0 := pG_of (M := pr_m195) rfl qI_195 rfl rfl rfl rfl pw_c_195 pw_i_q12 nh_q12 ds_4
theorem pg_41 : pr_G 41 0 7 0 0 := pG_of (M := pr_m41) rfl qI_41 rfl rfl rfl rfl pw_c_41 pw_i_q0 nh_q0 ds_42
theorem pg_196 : pr_G 196 0 3 0 0 := pG_of (M := pr_m196) rfl qI_196 rfl rfl rfl rfl pw_c_196 pw_i_q12 nh_q12 ds_42
theorem pg_42 : pr_G 42 0 1 0 0 := pG_of (M := pr_m42) rfl qI_42 rfl rfl rfl rfl pw_c_42 pw_i_q0 nh_q0 ds_43
theorem pg_197 : pr_G 197 0 1 0 0 := pG_of (M := pr_m197) rfl qI_197 rfl rfl rfl rfl pw_c_197 pw_i_q12 nh_q12 ds_43
theorem pg_335 : pr_G 335 4 5 3 18 := pG_of (M := pr_m335) rfl qI_335 rfl rfl rfl rfl pw_c_335 pw_i_q15 nh_q15 ds_39
theorem pg_174 : pr_G 174 2 6 0 0 := pG_of (M := pr_m174) rfl qI_174 rfl rfl rfl rfl pw_c_174 pw_i_q12 nh_q12 ds_16
theorem pg_336 : pr_G 336 4 5 3 18 := pG_of (M := pr_m336) rfl qI_336 rfl rfl rfl rfl pw_c_336 pw_i_q15 nh_q15 ds_39
theorem pg_175 : pr_G 175 2 6 0 0 := pG_of (M := pr_m175) rfl qI_175 rfl rfl rfl rfl pw_c_175 pw_i_q12 nh_q12 ds_16
theorem pg_337 : pr_G 337 3 4 2 12 := pG_of (M := pr_m337) rfl qI_337 rfl rfl rfl rfl pw_c_337 pw_i_q15 nh_q15 ds_38
theorem pg_164 : pr_G 164 1 2 0 0 := pG_of (M := pr_m164) rfl qI_164 rfl rfl rfl rfl pw_c_164 pw_i_q12 nh_q12 ds_4
theorem pg_338 : pr_G 338 3 4 1 6 := pG_of (M := pr_m338) rfl qI_338 rfl rfl rfl rfl pw_c_338 pw_i_q15 nh_q15 ds_38
theorem pg_199 : pr_G 199 1 4 0 0 := pG_of (M := pr_m199) rfl qI_199 rfl rfl rfl rfl pw_c_199 pw_i_q12 nh_q12 ds_4
theorem pg_339 : pr_G 339 3 4 1 6 := pG_of (M := pr_m339) rfl qI_339 rfl rfl rfl rfl pw_c_339 pw_i_q15 nh_q15 ds_38
theorem pg_200 : pr_G 200 1 4 0 0 := pG_of (M := pr_m200) rfl qI_200 rfl rfl rfl rfl pw_c_200 pw_i_q12 nh_q12 ds_4
theorem pg_48 : pr_G 48 0 7 0 0 := pG_of (M := pr_m48) rfl qI_48 rfl rfl rfl rfl pw_c_48 pw_i_q0 nh_q0 ds_7
theorem pg_201 : pr_G 201 0 3 0 0 := pG_of (M := pr_m201) rfl qI_201 rfl rfl rfl rfl pw_c_201 pw_i_q12 nh_q12 ds_7
theorem pg_340 : pr_G 340 3 4 2 12 := pG_of (M := pr_m340) rfl qI_340 rfl rfl rfl rfl pw_c_340 pw_i_q15 nh_q15 ds_38
theorem pg_178 : pr_G 178 1 4 0 0 := pG_of (M := pr_m178) rfl qI_178 rfl rfl rfl rfl pw_c_178 pw_i_q12 nh_q12 ds_4
theorem pg_341 : pr_G 341 3 4 2 12 := pG_of (M := pr_m341) rfl qI_341 rfl rfl rfl rfl pw_c_341 pw_i_q15 nh_q15 ds_38
theorem pg_188 : pr_G 188 1 2 0 0 := pG_of (M := pr_m188) rfl qI_188 rfl rfl rfl rfl pw_c_188 pw_i_q12 nh_q12 ds_4
theorem pg_342 : pr_G 342 4 5 2 12 := pG_of (M := pr_m342) rfl qI_342 rfl rfl rfl rfl pw_c_342 pw_i_q15 nh_q15 ds_39
theorem pg_186 : pr_G 186 2 5 0 0 := pG_of (M := pr_m186) rfl qI_186 rfl rfl rfl rfl pw_c_186 pw_i_q12 nh_q12 ds_16
theorem pg_52 : pr_G 52 0 1 0 0 := pG_of (M := pr_m52) rfl qI_52 rfl rfl rfl rfl pw_c_52 pw_i_q0 nh_q0 ds_42
theorem pg_198 : pr_G 198 0 1 0 0 := pG_of (M := pr_m198) rfl qI_198 rfl rfl rfl rfl pw_c_198 pw_i_q12 nh_q12 ds_42
theorem pg_343 : pr_G 343 4 5 3 18 := pG_of (M := pr_m343) rfl qI_343 rfl rfl rfl rfl pw_c_343 pw_i_q15 nh_q15 ds_39
theorem pg_148 : pr_G 148 2 3 0 0 := pG_of (M := pr_m148) rfl qI_148 rfl rfl rfl rfl pw_c_148 pw_i_q12 nh_q12 ds_16
theorem pg_344 : pr_G 344 3 4 2 12 := pG_of (M := pr_m344) rfl qI_344 rfl rfl rfl rfl pw_c_344 pw_i_q15 nh_q15 ds_38
theorem pg_176 : pr_G 176 1 4 0 0 := pG_of (M := pr_m176) rfl qI_176 rfl rfl rfl rfl pw_c_176 pw_i_q12 nh_q12 ds_4
theorem pg_345 : pr_G 345 5 6 5 30 := pG_of (M := pr_m345) rfl qI_345 rfl rfl rfl rfl pw_c_345 pw_i_q15 nh_q15 ds_41
theorem pg_184 : pr_G 184 3 6 0 0 := pG_of (M := pr_m184) rfl qI_184 rfl rfl rfl rfl pw_c_184 pw_i_q12 nh_q12 ds_31
theorem pg_346 : pr_G 346 3 4 1 6 := pG_of (M := pr_m346) rfl qI_346 rfl rfl rfl rfl pw_c_346 pw_i_q15 nh_q15 ds_38
theorem pg_189 : pr_G 189 1 4 0 0 := pG_of (M := pr_m189) rfl qI_189 rfl rfl rfl rfl pw_c_189 pw_i_q12 nh_q12 ds_4
theorem pg_347 : pr_G 347 3 4 1 6 := pG_of (M := pr_m347) rfl qI_347 rfl rfl rfl rfl pw_c_347 pw_i_q15 nh_q15 ds_38
theorem pg_202 : pr_G 202 1 4 0 0 := pG_of (M := pr_m202) rfl qI_202 rfl rfl rfl rfl pw_c_202 pw_i_q12 nh_q12 ds_4
theorem pg_348 : pr_G 348 3 4 1 6 := pG_of (M := pr_m348) rfl qI_348 rfl rfl rfl rfl pw_c_348 pw_i_q15 nh_q15 ds_38
theorem pg_203 : pr_G 203 1 4 0 0 := pG_of (M := pr_m203) rfl qI_203 rfl rfl rfl rfl pw_c_203 pw_i_q12 nh_q12 ds_4
theorem pg_349 : pr_G 349 3 4 1 6 := pG_of (M := pr_m349) rfl qI_349 rfl rfl rfl rfl pw_c_349 pw_i_q15 nh_q15 ds_38
theorem pg_204 : pr_G 204 1 4 0 0 := pG_of (M := pr_m204) rfl qI_204 rfl rfl rfl rfl pw_c_204 pw_i_q12 nh_q12 ds_4
theorem pg_350 : pr_G 350 4 5 3 18 := pG_of (M := pr_m350) rfl qI_350 rfl rfl rfl rfl pw_c_350 pw_i_q15 nh_q15 ds_39
theorem pg_213 : pr_G 213 2 4 0 0 := pG_of (M := pr_m213) rfl qI_213 rfl rfl rfl rfl pw_c_213 pw_i_q12 nh_q12 ds_16
theorem pg_61 : pr_G 61 1 2 0 0 := pG_of (M := pr_m61) rfl qI_61 rfl rfl rfl rfl pw_c_61 pw_i_q0 nh_q0 ds_4
theorem pg_214 : pr_G 214 1 2 0 0 := pG_of (M := pr_m214) rfl qI_214 rfl rfl rfl rfl pw_c_214 pw_i_q12 nh_q12 ds_4
theorem pg_62 : pr_G 62 0 1 0 0 := pG_of (M := pr_m62) rfl qI_62 rfl rfl rfl rfl pw_c_62 pw_i_q0 nh_q0 ds_7
theorem pg_215 : pr_G 215 0 1 0 0 := pG_of (M := pr_m215) rfl qI_215 rfl rfl rfl rfl pw_c_215 pw_i_q12 nh_q12 ds_7
theorem pg_63 : pr_G 63 0 1 0 0 := pG_of (M := pr_m63) rfl qI_63 rfl rfl rfl rfl pw_c_63 pw_i_q0 nh_q0 ds_7
theorem pg_216 : pr_G 216 0 1 0 0 := pG_of (M := pr_m216) rfl qI_216 rfl rfl rfl rfl pw_c_216 pw_i_q12 nh_q12 ds_7
theorem pg_351 : pr_G 351 2 3 1 6 := pG_of (M := pr_m351) rfl qI_351 rfl rfl rfl rfl pw_c_351 pw_i_q15 nh_q15 ds_44
theorem pg_217 : pr_G 217 0 1 0 0 := pG_of (M := pr_m217) rfl qI_217 rfl rfl rfl rfl pw_c_217 pw_i_q12 nh_q12 ds_7
theorem pv_222 : pr_GV 222 1 := pV_of qI_222 vw_c1 rfl rfl pw_v_222 pw_s_222
theorem pv_250 : pr_GV 250 4 := pV_of qI_250 vw_c4 rfl rfl pw_v_250 pw_s_250
theorem pv_251 : pr_GV 251 4 := pV_of qI_251 vw_c4 rfl rfl pw_v_251 pw_s_251
theorem pv_273 : pr_GV 273 5 := pV_of qI_273 vw_c5 rfl rfl pw_v_273 pw_s_273
theorem pv_275 : pr_GV 275 5 := pV_of qI_275 vw_c5 rfl rfl pw_v_275 pw_s_275
theorem pv_285 : pr_GV 285 5 := pV_of qI_285 vw_c5 rfl rfl pw_v_285 pw_s_285
theorem pv_65 : pr_GV 65 6 := pV_of qI_65 vw_c6 rfl rfl pw_v_65 pw_s_65
theorem pv_242 : pr_GV 242 3 := pV_of qI_242 vw_c3 rfl rfl pw_v_242 pw_s_242
theorem pv_277 : pr_GV 277 5 := pV_of qI_277 vw_c5 rfl rfl pw_v_277 pw_s_277
theorem pv_248 : pr_GV 248 3 := pV_of qI_248 vw_c3 rfl rfl pw_v_248 pw_s_248
theorem pv_283 : pr_GV 283 5 := pV_of qI_283 vw_c5 rfl rfl pw_v_283 pw_s_283
theorem pv_243 : pr_GV 243 3 := pV_of qI_243 vw_c3 rfl rfl pw_v_243 pw_s_243
theorem pv_244 : pr_GV 244 3 := pV_of qI_244 vw_c3 rfl rfl pw_v_244 pw_s_244
theorem pv_279 : pr_GV 279 5 := pV_of qI_279 vw_c5 rfl rfl pw_v_279 pw_s_279
theorem pv_276 : pr_GV 276 5 := pV_of qI_276 vw_c5 rfl rfl pw_v_276 pw_s_276
theorem pv_282 : pr_GV 282 5 := pV_of qI_282 vw_c5 rfl rfl pw_v_282 pw_s_282
theorem pv_235 : pr_GV 235 3 := pV_of qI_235 vw_c3 rfl rfl pw_v_235 pw_s_235
theorem pv_278 : pr_GV 278 5 := pV_of qI_278 vw_c5 rfl rfl pw_v_278 pw_s_278
theorem pv_219 : pr_GV 219 0 := pV_of qI_219 vw_c0 rfl rfl pw_v_219 pw_s_219
theorem pv_286 : pr_GV 286 5 := pV_of qI_286 vw_c5 rfl rfl pw_v_286 pw_s_286
theorem pv_69 : pr_GV 69 6 := pV_of qI_69 vw_c6 rfl rfl pw_v_69 pw_s_69
theorem pv_287 : pr_GV 287 5 := pV_of qI_287 vw_c5 rfl rfl pw_v_287 pw_s_287
theorem pv_299 : pr_GV 299 5 := pV_of qI_299 vw_c5 rfl rfl pw_v_299 pw_s_299
theorem pv_281 : pr_GV 281 5 := pV_of qI_281 vw_c5 rfl rfl pw_v_281 pw_s_281
theorem pv_236 : pr_GV 236 3 := pV_of qI_236 vw_c3 rfl rfl pw_v_236 pw_s_236
theorem pv_300 : pr_GV 300 5 := pV_of qI_300 vw_c5 rfl rfl pw_v_300 pw_s_300
theorem pv_241 : pr_GV 241 3 := pV_of qI_241 vw_c3 rfl rfl pw_v_241 pw_s_241
theorem pv_245 : pr_GV 245 3 := pV_of qI_245 vw_c3 rfl rfl pw_v_245 pw_s_245
theorem pv_284 : pr_GV 284 5 := pV_of qI_284 vw_c5 rfl rfl pw_v_284 pw_s_284
theorem pv_293 : pr_GV 293 5 := pV_of qI_293 vw_c5 rfl rfl pw_v_293 pw_s_293
theorem pv_291 : pr_GV 291 5 := pV_of qI_291 vw_c5 rfl rfl pw_v_291 pw_s_291
theorem pv_71 : pr_GV 71 6 := pV_of qI_71 vw_c6 rfl rfl pw_v_71 pw_s_71
theorem pv_274 : pr_GV 274 5 := pV_of qI_274 vw_c5 rfl rfl pw_v_274 pw_s_274
theorem pv_237 : pr_GV 237 3 := pV_of qI_237 vw_c3 rfl rfl pw_v_237 pw_s_237
theorem pv_303 : pr_GV 303 5 := pV_of qI_303 vw_c5 rfl rfl pw_v_303 pw_s_303
theorem pv_302 : pr_GV 302 5 := pV_of qI_302 vw_c5 rfl rfl pw_v_302 pw_s_302
theorem pv_298 : pr_GV 298 5 := pV_of qI_298 vw_c5 rfl rfl pw_v_298 pw_s_298
theorem pv_301 : pr_GV 301 5 := pV_of qI_301 vw_c5 rfl rfl pw_v_301 pw_s_301
theorem pv_238 : pr_GV 238 3 := pV_of qI_238 vw_c3 rfl rfl pw_v_238 pw_s_238
theorem pv_227 : pr_GV 227 2 := pV_of qI_227 vw_c2 rfl rfl pw_v_227 pw_s_227
theorem pv_228 : pr_GV 228 2 := pV_of qI_228 vw_c2 rfl rfl pw_v_228 pw_s_228
theorem pv_229 : pr_GV 229 2 := pV_of qI_229 vw_c2 rfl rfl pw_v_229 pw_s_229
theorem pv_230 : pr_GV 230 2 := pV_of qI_230 vw_c2 rfl rfl pw_v_230 pw_s_230
theorem pv_225 : pr_GV 225 2 := pV_of qI_225 vw_c2 rfl rfl pw_v_225 pw_s_225
theorem pv_220 : pr_GV 220 0 := pV_of qI_220 vw_c0 rfl rfl pw_v_220 pw_s_220
theorem pv_226 : pr_GV 226 2 := pV_of qI_226 vw_c2 rfl rfl pw_v_226 pw_s_226
theorem pv_78 : pr_GV 78 7 := pV_of qI_78 vw_c7 rfl rfl pw_v_78 pw_s_78
theorem pv_79 : pr_GV 79 7 := pV_of qI_79 vw_c7 rfl rfl pw_v_79 pw_s_79
theorem pv_84 : pr_GV 84 7 := pV_of qI_84 vw_c7 rfl rfl pw_v_84 pw_s_84
theorem pv_83 : pr_GV 83 7 := pV_of qI_83 vw_c7 rfl rfl pw_v_83 pw_s_83
theorem pv_85 : pr_GV 85 7 := pV_of qI_85 vw_c7 rfl rfl pw_v_85 pw_s_85
theorem pv_88 : pr_GV 88 7 := pV_of qI_88 vw_c7 rfl rfl pw_v_88 pw_s_88
theorem pv_86 : pr_GV 86 7 := pV_of qI_86 vw_c7 rfl rfl pw_v_86 pw_s_86
theorem pv_89 : pr_GV 89 7 := pV_of qI_89 vw_c7 rfl rfl pw_v_89 pw_s_89
theorem pv_87 : pr_GV 87 7 := pV_of qI_87 vw_c7 rfl rfl pw_v_87 pw_s_87
theorem pv_91 : pr_GV 91 7 := pV_of qI_91 vw_c7 rfl rfl pw_v_91 pw_s_91
theorem pv_92 : pr_GV 92 7 := pV_of qI_92 vw_c7 rfl rfl pw_v_92 pw_s_92
theorem pv_93 : pr_GV 93 7 := pV_of qI_93 vw_c7 rfl rfl pw_v_93 pw_s_93
theorem pv_94 : pr_GV 94 7 := pV_of qI_94 vw_c7 rfl rfl pw_v_94 pw_s_94
theorem pv_95 : pr_GV 95 7 := pV_of qI_95 vw_c7 rfl rfl pw_v_95 pw_s_95
theorem pv_96 : pr_GV 96 7 := pV_of qI_96 vw_c7 rfl rfl pw_v_96 pw_s_96
theorem pv_101 : pr_GV 101 7 := pV_of qI_101 vw_c7 rfl rfl pw_v_101 pw_s_101
theorem pv_102 : pr_GV 102 7 := pV_of qI_102 vw_c7 rfl rfl pw_v_102 pw_s_102
theorem pv_99 : pr_GV 99 7 := pV_of qI_99 vw_c7 rfl rfl pw_v_99 pw_s_99
theorem pv_100 : pr_GV 100 7 := pV_of qI_100 vw_c7 rfl rfl pw_v_100 pw_s_100
theorem pv_97 : pr_GV 97 7 := pV_of qI_97 vw_c7 rfl rfl pw_v_97 pw_s_97
theorem pv_98 : pr_GV 98 7 := pV_of qI_98 vw_c7 rfl rfl pw_v_98 pw_s_98
theorem pv_103 : pr_GV 103 7 := pV_of qI_103 vw_c7 rfl rfl pw_v_103 pw_s_103
theorem pv_104 : pr_GV 104 7 := pV_of qI_104 vw_c7 rfl rfl pw_v_104 pw_s_104
theorem pv_106 : pr_GV 106 7 := pV_of qI_106 vw_c7 rfl rfl pw_v_106 pw_s_106
theorem pv_109 : pr_GV 109 7 := pV_of qI_109 vw_c7 rfl rfl pw_v_109 pw_s_109
theorem pv_111 : pr_GV 111 7 := pV_of qI_111 vw_c7 rfl rfl pw_v_111 pw_s_111
theorem pv_112 : pr_GV 112 7 := pV_of qI_112 vw_c7 rfl rfl pw_v_112 pw_s_112
theorem pv_114 : pr_GV 114 7 := pV_of qI_114 vw_c7 rfl rfl pw_v_114 pw_s_114
theorem pv_110 : pr_GV 110 7 := pV_of qI_110 vw_c7 rfl rfl pw_v_110 pw_s_110
theorem pv_113 : pr_GV 113 7 := pV_of qI_113 vw_c7 rfl rfl pw_v_113 pw_s_113
theorem pv_116 : pr_GV 116 7 := pV_of qI_116 vw_c7 rfl rfl pw_v_116 pw_s_116
theorem pv_115 : pr_GV 115 7 := pV_of qI_115 vw_c7 rfl rfl pw_v_115 pw_s_115
theorem pv_117 : pr_GV 117 7 := pV_of qI_117 vw_c7 rfl rfl pw_v_117 pw_s_117
theorem pv_121 : pr_GV 121 7 := pV_of qI_121 vw_c7 rfl rfl pw_v_121 pw_s_121
theorem pv_118 : pr_GV 118 7 := pV_of qI_118 vw_c7 rfl rfl pw_v_118 pw_s_118
theorem pv_119 : pr_GV 119 7 := pV_of qI_119 vw_c7 rfl rfl pw_v_119 pw_s_119
theorem pv_120 : pr_GV 120 7 := pV_of qI_120 vw_c7 rfl rfl pw_v_120 pw_s_120
theorem pv_122 : pr_GV 122 7 := pV_of qI_122 vw_c7 rfl rfl pw_v_122 pw_s_122
theorem pv_123 : pr_GV 123 7 := pV_of qI_123 vw_c7 rfl rfl pw_v_123 pw_s_123
theorem pv_124 : pr_GV 124 7 := pV_of qI_124 vw_c7 rfl rfl pw_v_124 pw_s_124
theorem pv_125 : pr_GV 125 7 := pV_of qI_125 vw_c7 rfl rfl pw_v_125 pw_s_125
theorem pv_126 : pr_GV 126 7 := pV_of qI_126 vw_c7 rfl rfl pw_v_126 pw_s_126
theorem pv_127 : pr_GV 127 7 := pV_of qI_127 vw_c7 rfl rfl pw_v_127 pw_s_127
theorem pv_76 : pr_GV 76 7 := pV_of qI_76 vw_c7 rfl rfl pw_v_76 pw_s_76
theorem pv_131 : pr_GV 131 7 := pV_of qI_131 vw_c7 rfl rfl pw_v_131 pw_s_131
theorem pv_132 : pr_GV 132 7 := pV_of qI_132 vw_c7 rfl rfl pw_v_132 pw_s_132
theorem pv_135 : pr_GV 135 7 := pV_of qI_135 vw_c7 rfl rfl pw_v_135 pw_s_135
theorem pv_133 : pr_GV 133 7 := pV_of qI_133 vw_c7 rfl rfl pw_v_133 pw_s_133
theorem pv_139 : pr_GV 139 7 := pV_of qI_139 vw_c7 rfl rfl pw_v_139 pw_s_139
theorem pv_142 : pr_GV 142 7 := pV_of qI_142 vw_c7 rfl rfl pw_v_142 pw_s_142
theorem pv_146 : pr_GV 146 7 := pV_of qI_146 vw_c7 rfl rfl pw_v_146 pw_s_146
theorem pv_145 : pr_GV 145 7 := pV_of qI_145 vw_c7 rfl rfl pw_v_145 pw_s_145
theorem pv_149 : pr_GV 149 7 := pV_of qI_149 vw_c7 rfl rfl pw_v_149 pw_s_149
theorem pv_152 : pr_GV 152 7 := pV_of qI_152 vw_c7 rfl rfl pw_v_152 pw_s_152
theorem pv_90 : pr_GV 90 7 := pV_of qI_90 vw_c7 rfl rfl pw_v_90 pw_s_90
theorem pv_151 : pr_GV 151 7 := pV_of qI_151 vw_c7 rfl rfl pw_v_151 pw_s_151
theorem pv_155 : pr_GV 155 7 := pV_of qI_155 vw_c7 rfl rfl pw_v_155 pw_s_155
theorem pv_80 : pr_GV 80 7 := pV_of qI_80 vw_c7 rfl rfl pw_v_80 pw_s_80
theorem pv_159 : pr_GV 159 7 := pV_of qI_159 vw_c7 rfl rfl pw_v_159 pw_s_159
theorem pv_161 : pr_GV 161 7 := pV_of qI_161 vw_c7 rfl rfl pw_v_161 pw_s_161
theorem pv_105 : pr_GV 105 7 := pV_of qI_105 vw_c7 rfl rfl pw_v_105 pw_s_105
theorem pv_136 : pr_GV 136 7 := pV_of qI_136 vw_c7 rfl rfl pw_v_136 pw_s_136
theorem pv_168 : pr_GV 168 7 := pV_of qI_168 vw_c7 rfl rfl pw_v_168 pw_s_168
theorem pv_173 : pr_GV 173 7 := pV_of qI_173 vw_c7 rfl rfl pw_v_173 pw_s_173
theorem pv_137 : pr_GV 137 7 := pV_of qI_137 vw_c7 rfl rfl pw_v_137 pw_s_137
theorem pv_81 : pr_GV 81 7 := pV_of qI_81 vw_c7 rfl rfl pw_v_81 pw_s_81
theorem pv_82 : pr_GV 82 7 := pV_of qI_82 vw_c7 rfl rfl pw_v_82 pw_s_82
theorem pv_180 : pr_GV 180 7 := pV_of qI_180 vw_c7 rfl rfl pw_v_180 pw_s_180
theorem pv_205 : pr_GV 205 7 := pV_of qI_205 vw_c7 rfl rfl pw_v_205 pw_s_205
theorem pv_208 : pr_GV 208 7 := pV_of qI_208 vw_c7 rfl rfl pw_v_208 pw_s_208
theorem pv_206 : pr_GV 206 7 := pV_of qI_206 vw_c7 rfl rfl pw_v_206 pw_s_206
theorem pv_207 : pr_GV 207 7 := pV_of qI_207 vw_c7 rfl rfl pw_v_207 pw_s_207
theorem pv_211 : pr_GV 211 7 := pV_of qI_211 vw_c7 rfl rfl pw_v_211 pw_s_211
theorem pv_209 : pr_GV 209 7 := pV_of qI_209 vw_c7 rfl rfl pw_v_209 pw_s_209
theorem pv_210 : pr_GV 210 7 := pV_of qI_210 vw_c7 rfl rfl pw_v_210 pw_s_210
theorem pv_212 : pr_GV 212 7 := pV_of qI_212 vw_c7 rfl rfl pw_v_212 pw_s_212
theorem pv_231 : pr_GV 231 2 := pV_of qI_231 vw_c2 rfl rfl pw_v_231 pw_s_231
theorem pv_246 : pr_GV 246 3 := pV_of qI_246 vw_c3 rfl rfl pw_v_246 pw_s_246
theorem pv_270 : pr_GV 270 5 := pV_of qI_270 vw_c5 rfl rfl pw_v_270 pw_s_270
theorem pv_265 : pr_GV 265 4 := pV_of qI_265 vw_c4 rfl rfl pw_v_265 pw_s_265
theorem pv_268 : pr_GV 268 4 := pV_of qI_268 vw_c4 rfl rfl pw_v_268 pw_s_268
theorem pv_252 : pr_GV 252 4 := pV_of qI_252 vw_c4 rfl rfl pw_v_252 pw_s_252
theorem pv_254 : pr_GV 254 4 := pV_of qI_254 vw_c4 rfl rfl pw_v_254 pw_s_254
theorem pv_255 : pr_GV 255 4 := pV_of qI_255 vw_c4 rfl rfl pw_v_255 pw_s_255
theorem pv_256 : pr_GV 256 4 := pV_of qI_256 vw_c4 rfl rfl pw_v_256 pw_s_256
theorem pv_257 : pr_GV 257 4 := pV_of qI_257 vw_c4 rfl rfl pw_v_257 pw_s_257
theorem pv_258 : pr_GV 258 4 := pV_of qI_258 vw_c4 rfl rfl pw_v_258 pw_s_258
theorem pv_259 : pr_GV 259 4 := pV_of qI_259 vw_c4 rfl rfl pw_v_259 pw_s_259
theorem pv_260 : pr_GV 260 4 := pV_of qI_260 vw_c4 rfl rfl pw_v_260 pw_s_260
theorem pv_264 : pr_GV 264 4 := pV_of qI_264 vw_c4 rfl rfl pw_v_264 pw_s_264
theorem pv_272 : pr_GV 272 5 := pV_of qI_272 vw_c5 rfl rfl pw_v_272 pw_s_272
theorem pv_253 : pr_GV 253 4 := pV_of qI_253 vw_c4 rfl rfl pw_v_253 pw_s_253
theorem pv_271 : pr_GV 271 5 := pV_of qI_271 vw_c5 rfl rfl pw_v_271 pw_s_271
theorem pv_262 : pr_GV 262 4 := pV_of qI_262 vw_c4 rfl rfl pw_v_262 pw_s_262
theorem pv_263 : pr_GV 263 4 := pV_of qI_263 vw_c4 rfl rfl pw_v_263 pw_s_263
theorem pv_261 : pr_GV 261 4 := pV_of qI_261 vw_c4 rfl rfl pw_v_261 pw_s_261
theorem pv_247 : pr_GV 247 3 := pV_of qI_247 vw_c3 rfl rfl pw_v_247 pw_s_247
theorem pv_223 : pr_GV 223 1 := pV_of qI_223 vw_c1 rfl rfl pw_v_223 pw_s_223
theorem pv_233 : pr_GV 233 3 := pV_of qI_233 vw_c3 rfl rfl pw_v_233 pw_s_233
theorem pv_234 : pr_GV 234 3 := pV_of qI_234 vw_c3 rfl rfl pw_v_234 pw_s_234
theorem pv_239 : pr_GV 239 3 := pV_of qI_239 vw_c3 rfl rfl pw_v_239 pw_s_239
theorem pv_280 : pr_GV 280 5 := pV_of qI_280 vw_c5 rfl rfl pw_v_280 pw_s_280
theorem pv_288 : pr_GV 288 5 := pV_of qI_288 vw_c5 rfl rfl pw_v_288 pw_s_288
theorem pv_289 : pr_GV 289 5 := pV_of qI_289 vw_c5 rfl rfl pw_v_289 pw_s_289
theorem pv_292 : pr_GV 292 5 := pV_of qI_292 vw_c5 rfl rfl pw_v_292 pw_s_292
theorem pv_290 : pr_GV 290 5 := pV_of qI_290 vw_c5 rfl rfl pw_v_290 pw_s_290
theorem pv_240 : pr_GV 240 3 := pV_of qI_240 vw_c3 rfl rfl pw_v_240 pw_s_240
theorem pv_294 : pr_GV 294 5 := pV_of qI_294 vw_c5 rfl rfl pw_v_294 pw_s_294
theorem pv_295 : pr_GV 295 5 := pV_of qI_295 vw_c5 rfl rfl pw_v_295 pw_s_295
theorem pv_296 : pr_GV 296 5 := pV_of qI_296 vw_c5 rfl rfl pw_v_296 pw_s_296
theorem pv_297 : pr_GV 297 5 := pV_of qI_297 vw_c5 rfl rfl pw_v_297 pw_s_297
theorem pv_304 : pr_GV 304 5 := pV_of qI_304 vw_c5 rfl rfl pw_v_304 pw_s_304
theorem pv_6 : pr_GV 6 6 := pV_of qI_6 vw_c6 rfl rfl pw_v_6 pw_s_6
theorem pv_7 : pr_GV 7 6 := pV_of qI_7 vw_c6 rfl rfl pw_v_7 pw_s_7
theorem pv_8 : pr_GV 8 6 := pV_of qI_8 vw_c6 rfl rfl pw_v_8 pw_s_8
theorem pv_10 : pr_GV 10 6 := pV_of qI_10 vw_c6 rfl rfl pw_v_10 pw_s_10
theorem pv_11 : pr_GV 11 6 := pV_of qI_11 vw_c6 rfl rfl pw_v_11 pw_s_11
theorem pv_12 : pr_GV 12 6 := pV_of qI_12 vw_c6 rfl rfl pw_v_12 pw_s_12
theorem pv_13 : pr_GV 13 6 := pV_of qI_13 vw_c6 rfl rfl pw_v_13 pw_s_13
theorem pv_14 : pr_GV 14 6 := pV_of qI_14 vw_c6 rfl rfl pw_v_14 pw_s_14
theorem pv_17 : pr_GV 17 6 := pV_of qI_17 vw_c6 rfl rfl pw_v_17 pw_s_17
theorem pv_18 : pr_GV 18 6 := pV_of qI_18 vw_c6 rfl rfl pw_v_18 pw_s_18
theorem pv_19 : pr_GV 19 6 := pV_of qI_19 vw_c6 rfl rfl pw_v_19 pw_s_19
theorem pv_20 : pr_GV 20 6 := pV_of qI_20 vw_c6 rfl rfl pw_v_20 pw_s_20
theorem pv_21 : pr_GV 21 6 := pV_of qI_21 vw_c6 rfl rfl pw_v_21 pw_s_21
theorem pv_22 : pr_GV 22 6 := pV_of qI_22 vw_c6 rfl rfl pw_v_22 pw_s_22
theorem pv_23 : pr_GV 23 6 := pV_of qI_23 vw_c6 rfl rfl pw_v_23 pw_s_23
theorem pv_24 : pr_GV 24 6 := pV_of qI_24 vw_c6 rfl rfl pw_v_24 pw_s_24
theorem pv_25 : pr_GV 25 6 := pV_of qI_25 vw_c6 rfl rfl pw_v_25 pw_s_25
theorem pv_26 : pr_GV 26 6 := pV_of qI_26 vw_c6 rfl rfl pw_v_26 pw_s_26
theorem pv_27 : pr_GV 27 6 := pV_of qI_27 vw_c6 rfl rfl pw_v_27 pw_s_27
theorem pv_28 : pr_GV 28 6 := pV_of qI_28 vw_c6 rfl rfl pw_v_28 pw_s_28
theorem pv_29 : pr_GV 29 6 := pV_of qI_29 vw_c6 rfl rfl pw_v_29 pw_s_29
theorem pv_30 : pr_GV 30 6 := pV_of qI_30 vw_c6 rfl rfl pw_v_30 pw_s_30
theorem pv_31 : pr_GV 31 6 := pV_of qI_31 vw_c6 rfl rfl pw_v_31 pw_s_31
theorem pv_32 : pr_GV 32 6 := pV_of qI_32 vw_c6 rfl rfl pw_v_32 pw_s_32
theorem pv_33 : pr_GV 33 6 := pV_of qI_33 vw_c6 rfl rfl pw_v_33 pw_s_33
theorem pv_34 : pr_GV 34 6 := pV_of qI_34 vw_c6 rfl rfl pw_v_34 pw_s_34
theorem pv_35 : pr_GV 35 6 := pV_of qI_35 vw_c6 rfl rfl pw_v_35 pw_s_35
theorem pv_38 : pr_GV 38 6 := pV_of qI_38 vw_c6 rfl rfl pw_v_38 pw_s_38
theorem pv_39 : pr_GV 39 6 := pV_of qI_39 vw_c6 rfl rfl pw_v_39 pw_s_39
theorem pv_40 : pr_GV 40 6 := pV_of qI_40 vw_c6 rfl rfl pw_v_40 pw_s_40
theorem pv_43 : pr_GV 43 6 := pV_of qI_43 vw_c6 rfl rfl pw_v_43 pw_s_43
theorem pv_44 : pr_GV 44 6 := pV_of qI_44 vw_c6 rfl rfl pw_v_44 pw_s_44
theorem pv_45 : pr_GV 45 6 := pV_of qI_45 vw_c6 rfl rfl pw_v_45 pw_s_45
theorem pv_46 : pr_GV 46 6 := pV_of qI_46 vw_c6 rfl rfl pw_v_46 pw_s_46
theorem pv_47 : pr_GV 47 6 := pV_of qI_47 vw_c6 rfl rfl pw_v_47 pw_s_47
theorem pv_49 : pr_GV 49 6 := pV_of qI_49 vw_c6 rfl rfl pw_v_49 pw_s_49
theorem pv_50 : pr_GV 50 6 := pV_of qI_50 vw_c6 rfl rfl pw_v_50 pw_s_50
theorem pv_51 : pr_GV 51 6 := pV_of qI_51 vw_c6 rfl rfl pw_v_51 pw_s_51
theorem pv_53 : pr_GV 53 6 := pV_of qI_53 vw_c6 rfl rfl pw_v_53 pw_s_53
theorem pv_54 : pr_GV 54 6 := pV_of qI_54 vw_c6 rfl rfl pw_v_54 pw_s_54
theorem pv_55 : pr_GV 55 6 := pV_of qI_55 vw_c6 rfl rfl pw_v_55 pw_s_55
theorem pv_56 : pr_GV 56 6 := pV_of qI_56 vw_c6 rfl rfl pw_v_56 pw_s_56
theorem pv_57 : pr_GV 57 6 := pV_of qI_57 vw_c6 rfl rfl pw_v_57 pw_s_57
theorem pv_58 : pr_GV 58 6 := pV_of qI_58 vw_c6 rfl rfl pw_v_58 pw_s_58
theorem pv_59 : pr_GV 59 6 := pV_of qI_59 vw_c6 rfl rfl pw_v_59 pw_s_59
theorem pv_60 : pr_GV 60 6 := pV_of qI_60 vw_c6 rfl rfl pw_v_60 pw_s_60
theorem pv_64 : pr_GV 64 6 := pV_of qI_64 vw_c6 rfl rfl pw_v_64 pw_s_64
theorem pv_1 : pr_GV 1 6 := pV_of qI_1 vw_c6 rfl rfl pw_v_1 pw_s_1
theorem pv_107 : pr_GV 107 7 := pV_of qI_107 vw_c7 rfl rfl pw_v_107 pw_s_107
theorem pv_2 : pr_GV 2 6 := pV_of qI_2 vw_c6 rfl rfl pw_v_2 pw_s_2
theorem pv_108 : pr_GV 108 7 := pV_of qI_108 vw_c7 rfl rfl pw_v_108 pw_s_108
theorem pv_3 : pr_GV 3 6 := pV_of qI_3 vw_c6 rfl rfl pw_v_3 pw_s_3
theorem pv_128 : pr_GV 128 7 := pV_of qI_128 vw_c7 rfl rfl pw_v_128 pw_s_128
theorem pv_4 : pr_GV 4 6 := pV_of qI_4 vw_c6 rfl rfl pw_v_4 pw_s_4
theorem pv_129 : pr_GV 129 7 := pV_of qI_129 vw_c7 rfl rfl pw_v_129 pw_s_129
theorem pv_5 : pr_GV 5 6 := pV_of qI_5 vw_c6 rfl rfl pw_v_5 pw_s_5
theorem pv_130 : pr_GV 130 7 := pV_of qI_130 vw_c7 rfl rfl pw_v_130 pw_s_130
theorem pv_134 : pr_GV 134 7 := pV_of qI_134 vw_c7 rfl rfl pw_v_134 pw_s_134
theorem pv_138 : pr_GV 138 7 := pV_of qI_138 vw_c7 rfl rfl pw_v_138 pw_s_138
theorem pv_140 : pr_GV 140 7 := pV_of qI_140 vw_c7 rfl rfl pw_v_140 pw_s_140
theorem pv_9 : pr_GV 9 6 := pV_of qI_9 vw_c6 rfl rfl pw_v_9 pw_s_9
theorem pv_141 : pr_GV 141 7 := pV_of qI_141 vw_c7 rfl rfl pw_v_141 pw_s_141
theorem pv_143 : pr_GV 143 7 := pV_of qI_143 vw_c7 rfl rfl pw_v_143 pw_s_143
theorem pv_144 : pr_GV 144 7 := pV_of qI_144 vw_c7 rfl rfl pw_v_144 pw_s_144
theorem pv_147 : pr_GV 147 7 := pV_of qI_147 vw_c7 rfl rfl pw_v_147 pw_s_147
theorem pv_150 : pr_GV 150 7 := pV_of qI_150 vw_c7 rfl rfl pw_v_150 pw_s_150
theorem pv_153 : pr_GV 153 7 := pV_of qI_153 vw_c7 rfl rfl pw_v_153 pw_s_153
theorem pv_74 : pr_GV 74 7 := pV_of qI_74 vw_c7 rfl rfl pw_v_74 pw_s_74
theorem pv_15 : pr_GV 15 6 := pV_of qI_15 vw_c6 rfl rfl pw_v_15 pw_s_15
theorem pv_154 : pr_GV 154 7 := pV_of qI_154 vw_c7 rfl rfl pw_v_154 pw_s_154
theorem pv_16 : pr_GV 16 6 := pV_of qI_16 vw_c6 rfl rfl pw_v_16 pw_s_16
theorem pv_156 : pr_GV 156 7 := pV_of qI_156 vw_c7 rfl rfl pw_v_156 pw_s_156
theorem pv_158 : pr_GV 158 7 := pV_of qI_158 vw_c7 rfl rfl pw_v_158 pw_s_158
theorem pv_160 : pr_GV 160 7 := pV_of qI_160 vw_c7 rfl rfl pw_v_160 pw_s_160
theorem pv_162 : pr_GV 162 7 := pV_of qI_162 vw_c7 rfl rfl pw_v_162 pw_s_162
theorem pv_163 : pr_GV 163 7 := pV_of qI_163 vw_c7 rfl rfl pw_v_163 pw_s_163
theorem pv_165 : pr_GV 165 7 := pV_of qI_165 vw_c7 rfl rfl pw_v_165 pw_s_165
theorem pv_166 : pr_GV 166 7 := pV_of qI_166 vw_c7 rfl rfl pw_v_166 pw_s_166
theorem pv_167 : pr_GV 167 7 := pV_of qI_167 vw_c7 rfl rfl pw_v_167 pw_s_167
theorem pv_169 : pr_GV 169 7 := pV_of qI_169 vw_c7 rfl rfl pw_v_169 pw_s_169
theorem pv_170 : pr_GV 170 7 := pV_of qI_170 vw_c7 rfl rfl pw_v_170 pw_s_170
theorem pv_171 : pr_GV 171 7 := pV_of qI_171 vw_c7 rfl rfl pw_v_171 pw_s_171
theorem pv_172 : pr_GV 172 7 := pV_of qI_172 vw_c7 rfl rfl pw_v_172 pw_s_172
theorem pv_177 : pr_GV 177 7 := pV_of qI_177 vw_c7 rfl rfl pw_v_177 pw_s_177
theorem pv_179 : pr_GV 179 7 := pV_of qI_179 vw_c7 rfl rfl pw_v_179 pw_s_179
theorem pv_181 : pr_GV 181 7 := pV_of qI_181 vw_c7 rfl rfl pw_v_181 pw_s_181
theorem pv_182 : pr_GV 182 7 := pV_of qI_182 vw_c7 rfl rfl pw_v_182 pw_s_182
theorem pv_183 : pr_GV 183 7 := pV_of qI_183 vw_c7 rfl rfl pw_v_183 pw_s_183
theorem pv_185 : pr_GV 185 7 := pV_of qI_185 vw_c7 rfl rfl pw_v_185 pw_s_185
theorem pv_187 : pr_GV 187 7 := pV_of qI_187 vw_c7 rfl rfl pw_v_187 pw_s_187
theorem pv_190 : pr_GV 190 7 := pV_of qI_190 vw_c7 rfl rfl pw_v_190 pw_s_190
theorem pv_36 : pr_GV 36 6 := pV_of qI_36 vw_c6 rfl rfl pw_v_36 pw_s_36
theorem pv_191 : pr_GV 191 7 := pV_of qI_191 vw_c7 rfl rfl pw_v_191 pw_s_191
theorem pv_37 : pr_GV 37 6 := pV_of qI_37 vw_c6 rfl rfl pw_v_37 pw_s_37
theorem pv_192 : pr_GV 192 7 := pV_of qI_192 vw_c7 rfl rfl pw_v_192 pw_s_192
theorem pv_193 : pr_GV 193 7 := pV_of qI_193 vw_c7 rfl rfl pw_v_193 pw_s_193
theorem pv_194 : pr_GV 194 7 := pV_of qI_194 vw_c7 rfl rfl pw_v_194 pw_s_194
theorem pv_195 : pr_GV 195 7 := pV_of qI_195 vw_c7 rfl rfl pw_v_195 pw_s_195
theorem pv_41 : pr_GV 41 6 := pV_of qI_41 vw_c6 rfl rfl pw_v_41 pw_s_41
theorem pv_196 : pr_GV 196 7 := pV_of qI_196 vw_c7 rfl rfl pw_v_196 pw_s_196
theorem pv_42 : pr_GV 42 6 := pV_of qI_42 vw_c6 rfl rfl pw_v_42 pw_s_42
theorem pv_197 : pr_GV 197 7 := pV_of qI_197 vw_c7 rfl rfl pw_v_197 pw_s_197
theorem pv_174 : pr_GV 174 7 := pV_of qI_174 vw_c7 rfl rfl pw_v_174 pw_s_174
theorem pv_175 : pr_GV 175 7 := pV_of qI_175 vw_c7 rfl rfl pw_v_175 pw_s_175
theorem pv_164 : pr_GV 164 7 := pV_of qI_164 vw_c7 rfl rfl pw_v_164 pw_s_164
theorem pv_199 : pr_GV 199 7 := pV_of qI_199 vw_c7 rfl rfl pw_v_199 pw_s_199
theorem pv_200 : pr_GV 200 7 := pV_of qI_200 vw_c7 rfl rfl pw_v_200 pw_s_200
theorem pv_48 : pr_GV 48 6 := pV_of qI_48 vw_c6 rfl rfl pw_v_48 pw_s_48
theorem pv_201 : pr_GV 201 7 := pV_of qI_201 vw_c7 rfl rfl pw_v_201 pw_s_201
theorem pv_178 : pr_GV 178 7 := pV_of qI_178 vw_c7 rfl rfl pw_v_178 pw_s_178
theorem pv_188 : pr_GV 188 7 := pV_of qI_188 vw_c7 rfl rfl pw_v_188 pw_s_188
theorem pv_186 : pr_GV 186 7 := pV_of qI_186 vw_c7 rfl rfl pw_v_186 pw_s_186
theorem pv_52 : pr_GV 52 6 := pV_of qI_52 vw_c6 rfl rfl pw_v_52 pw_s_52
theorem pv_198 : pr_GV 198 7 := pV_of qI_198 vw_c7 rfl rfl pw_v_198 pw_s_198
theorem pv_148 : pr_GV 148 7 := pV_of qI_148 vw_c7 rfl rfl pw_v_148 pw_s_148
theorem pv_176 : pr_GV 176 7 := pV_of qI_176 vw_c7 rfl rfl pw_v_176 pw_s_176
theorem pv_184 : pr_GV 184 7 := pV_of qI_184 vw_c7 rfl rfl pw_v_184 pw_s_184
theorem pv_189 : pr_GV 189 7 := pV_of qI_189 vw_c7 rfl rfl pw_v_189 pw_s_189
theorem pv_202 : pr_GV 202 7 := pV_of qI_202 vw_c7 rfl rfl pw_v_202 pw_s_202
theorem pv_203 : pr_GV 203 7 := pV_of qI_203 vw_c7 rfl rfl pw_v_203 pw_s_203
theorem pv_204 : pr_GV 204 7 := pV_of qI_204 vw_c7 rfl rfl pw_v_204 pw_s_204
theorem pv_213 : pr_GV 213 7 := pV_of qI_213 vw_c7 rfl rfl pw_v_213 pw_s_213
theorem pv_61 : pr_GV 61 6 := pV_of qI_61 vw_c6 rfl rfl pw_v_61 pw_s_61
theorem pv_214 : pr_GV 214 7 := pV_of qI_214 vw_c7 rfl rfl pw_v_214 pw_s_214
theorem pv_62 : pr_GV 62 6 := pV_of qI_62 vw_c6 rfl rfl pw_v_62 pw_s_62
theorem pv_215 : pr_GV 215 7 := pV_of qI_215 vw_c7 rfl rfl pw_v_215 pw_s_215
theorem pv_63 : pr_GV 63 6 := pV_of qI_63 vw_c6 rfl rfl pw_v_63 pw_s_63
theorem pv_216 : pr_GV 216 7 := pV_of qI_216 vw_c7 rfl rfl pw_v_216 pw_s_216
theorem pv_217 : pr_GV 217 7 := pV_of qI_217 vw_c7 rfl rfl pw_v_217 pw_s_217
theorem pn_269 : pr_GI 269 5 := ⟨⟨_, vw_c5⟩, rfl, rfl, rfl, pw_v_269⟩
theorem pn_218 : pr_GI 218 0 := ⟨⟨_, vw_c0⟩, rfl, rfl, rfl, pw_v_218⟩
theorem pn_249 : pr_GI 249 4 := ⟨⟨_, vw_c4⟩, rfl, rfl, rfl, pw_v_249⟩
theorem pn_224 : pr_GI 224 2 := ⟨⟨_, vw_c2⟩, rfl, rfl, rfl, pw_v_224⟩
theorem pn_221 : pr_GI 221 1 := ⟨⟨_, vw_c1⟩, rfl, rfl, rfl, pw_v_221⟩
theorem pn_232 : pr_GI 232 3 := ⟨⟨_, vw_c3⟩, rfl, rfl, rfl, pw_v_232⟩
theorem pn_0 : pr_GI 0 6 := ⟨⟨_, vw_c6⟩, rfl, rfl, rfl, pw_v_0⟩
theorem pn_73 : pr_GI 73 7 := ⟨⟨_, vw_c7⟩, rfl, rfl, rfl, pw_v_73⟩
theorem xl_px_q0_118_122 : ∀ x ∈ ev_xat "OrphanTree" 122 0, x ∈ lw_tbl := xs_in pt_PP [(1, 16), (3, 148), (3, 157), (3, 162), (3, 165), (3, 167), (3, 149), (3, 150), (1, 29), (1, 30), (3, 151), (3, 156), (3, 163), (3, 183), (3, 138), (3, 184), (3, 140), (3, 185), (3, 142), (3, 152), (3, 154), (3, 144), (3, 179), (3, 180), (3, 182), (3, 144), (3, 170), (3, 171), (3, 172), (3, 173), (3, 130), (3, 173), (3, 174), (3, 175), (3, 176), (3, 132), (3, 176), (3, 177), (3, 178), (3, 179), (3, 134), (3, 169), (3, 127), (3, 128), (3, 135), (3, 136), (3, 137), (3, 139), (3, 141), (3, 143), (3, 147), (3, 146), (3, 145)] (by decide +kernel)
theorem px_q0_118_122 : pr_X "OrphanTree" 118 122 0 := ⟨pw_cl_q0_118, pw_i_q7, xs_g xl_px_q0_118_122, xs_b xl_px_q0_118_122 (by decide +kernel), by decide +kernel⟩
theorem xl_px_q0_216_220 : ∀ x ∈ ev_xat "OrphanTree" 220 3, x ∈ lw_tbl := xs_in pt_PP [(1, 16), (3, 148), (3, 157), (3, 162), (3, 165), (3, 167), (3, 149), (3, 150), (1, 29), (1, 30), (3, 151), (3, 156), (3, 163), (3, 183), (3, 138), (3, 184), (3, 140), (3, 185), (3, 142), (3, 152), (3, 154), (3, 144), (3, 179), (3, 180), (3, 182), (3, 144), (4, 107), (4, 108), (4, 109), (3, 173), (3, 130), (3, 173), (3, 174), (3, 175), (3, 176), (3, 132), (3, 176), (3, 177), (3, 178), (3, 179), (3, 134), (4, 106), (4, 97), (4, 98), (4, 99), (3, 161), (4, 100), (4, 101), (4, 102), (4, 103), (3, 147), (3, 146), (4, 104)] (by decide +kernel)
theorem px_q0_216_220 : pr_X "OrphanTree" 216 220 3 := ⟨pw_cl_q0_216, pw_i_q9, xs_g xl_px_q0_216_220, xs_b xl_px_q0_216_220 (by decide +kernel), by decide +kernel⟩
theorem xl_px_q0_343_347 : ∀ x ∈ ev_xat "OrphanTree" 347 2, x ∈ lw_tbl := xs_in pt_PP [(1, 16), (3, 148), (3, 157), (3, 162), (3, 165), (3, 167), (3, 149), (3, 150), (1, 29), (1, 30), (3, 151), (3, 156), (3, 163), (3, 183), (3, 138), (3, 184), (3, 140), (3, 185), (3, 142), (3, 152), (3, 154), (3, 144), (3, 179), (3, 180), (3, 182), (3, 144), (3, 218), (3, 219), (3, 220), (3, 173), (3, 130), (3, 173), (3, 174), (3, 175), (3, 176), (3, 132), (3, 176), (3, 177), (3, 178), (3, 179), (3, 134), (3, 217), (3, 208), (3, 209), (3, 210), (3, 160), (3, 211), (3, 212), (3, 213), (3, 214), (3, 147), (3, 146), (3, 215)] (by decide +kernel)
theorem px_q0_343_347 : pr_X "OrphanTree" 343 347 2 := ⟨pw_cl_q0_343, pw_i_q10, xs_g xl_px_q0_343_347, xs_b xl_px_q0_343_347 (by decide +kernel), by decide +kernel⟩
theorem xl_px_q0_350_354 : ∀ x ∈ ev_xat "OrphanTree" 354 1, x ∈ lw_tbl := xs_in pt_PP [(1, 16), (3, 148), (3, 157), (3, 162), (3, 165), (3, 167), (3, 149), (3, 150), (1, 29), (1, 30), (3, 151), (3, 156), (3, 163), (3, 183), (3, 138), (3, 184), (3, 140), (3, 185), (3, 142), (3, 152), (3, 154), (3, 144), (3, 179), (3, 180), (3, 182), (3, 144), (4, 37), (4, 38), (4, 39), (3, 173), (3, 130), (3, 173), (3, 174), (3, 175), (3, 176), (3, 132), (3, 176), (3, 177), (3, 178), (3, 179), (3, 134), (4, 36), (4, 27), (4, 28), (4, 29), (3, 159), (4, 30), (4, 31), (4, 32), (4, 33), (3, 147), (3, 146), (4, 34)] (by decide +kernel)
theorem px_q0_350_354 : pr_X "OrphanTree" 350 354 1 := ⟨pw_cl_q0_350, pw_i_q11, xs_g xl_px_q0_350_354, xs_b xl_px_q0_350_354 (by decide +kernel), by decide +kernel⟩
