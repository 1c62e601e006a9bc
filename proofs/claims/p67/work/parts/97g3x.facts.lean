/-! ===== what the calls take of them (own work, by program: wip/p2/gen3.py) ===== -/
section PGV
variable {i n ml9 mc ms ci k : Nat} {M : ev_M} {x : ev_Im} {rr : vw_C}
theorem pG_of (e : pr_P i = M) (q : pr_I i = x) (h1 : M.1 = ml9) (h2 : M.2.1 = mc) (h3 : M.2.2.1 = ms) (h4 : Nat.ble ml9 51 = true) (h5 : ev_cw (pr_I i) (pr_P i).1 ∈ ev_UW) (h6 : Cond.initialized x.1.cls ∈ ev_UW) (h7 : x.1.cls ≠ "java/lang/invoke/MethodHandle" ∧ x.1.cls ≠ "java/lang/invoke/VarHandle") (h8 : (parseMethodDescriptor x.1.desc).map (fun d => d.parameters.length) = some n) : pr_G i n ml9 mc ms := by
  unfold pr_G
  refine ⟨?_, ?_, ?_, Nat.le_of_ble_eq_true h4, h5, ?_, ?_, ?_, ?_⟩
  · rw [e]; exact h1
  · rw [e]; exact h2
  · rw [e]; exact h3
  · rw [q]; exact h6
  · rw [q]; exact h7.1
  · rw [q]; exact h7.2
  · rw [q]; exact h8
theorem pV_of (q : pr_I i = x) (h1 : vwCl[ci]? = some rr) (h2 : rr.1 = x.1.cls) (h3 : x.2.2.2 = []) (h4 : Cond.instanceMethod (pr_I i).1 ∈ ev_UW) (h5 : Cond.selects (pr_I i).1.cls (pr_I i).1 (pr_I i).1 ∈ ev_UW) : pr_GV i ci := by
  unfold pr_GV
  refine ⟨⟨rr, h1, ?_⟩, ?_, h4, h5⟩
  · rw [q]; exact h2
  · rw [q]; exact h3
end PGV

theorem ds_0 : (parseMethodDescriptor "()V").map (fun d => d.parameters.length) = some 0 := by decide +kernel
theorem ds_1 : (parseMethodDescriptor "(I)V").map (fun d => d.parameters.length) = some 1 := by decide +kernel
theorem ds_2 : (parseMethodDescriptor "()Z").map (fun d => d.parameters.length) = some 0 := by decide +kernel
theorem ds_3 : (parseMethodDescriptor "(LOrphanTree$Tree;)V").map (fun d => d.parameters.length) = some 1 := by decide +kernel
theorem ds_4 : (parseMethodDescriptor "(I)I").map (fun d => d.parameters.length) = some 1 := by decide +kernel
theorem ds_5 : (parseMethodDescriptor "(LOrphanTree$Proc;)I").map (fun d => d.parameters.length) = some 1 := by decide +kernel
theorem ds_6 : (parseMethodDescriptor "(I)LOrphanTree$Proc;").map (fun d => d.parameters.length) = some 1 := by decide +kernel
theorem ds_7 : (parseMethodDescriptor "()I").map (fun d => d.parameters.length) = some 0 := by decide +kernel
theorem ds_8 : (parseMethodDescriptor "(Z)V").map (fun d => d.parameters.length) = some 1 := by decide +kernel
theorem ds_9 : (parseMethodDescriptor "(II)V").map (fun d => d.parameters.length) = some 2 := by decide +kernel
theorem ds_10 : (parseMethodDescriptor "(LOrphanTree$Proc;III)LOrphanTree$Proc;").map (fun d => d.parameters.length) = some 4 := by decide +kernel
theorem ds_11 : (parseMethodDescriptor "(II)LOrphanTree$Proc;").map (fun d => d.parameters.length) = some 2 := by decide +kernel
theorem ds_12 : (parseMethodDescriptor "(LOrphanTree$Proc;I)I").map (fun d => d.parameters.length) = some 2 := by decide +kernel
theorem ds_13 : (parseMethodDescriptor "(II)I").map (fun d => d.parameters.length) = some 2 := by decide +kernel
theorem ds_14 : (parseMethodDescriptor "(I)Z").map (fun d => d.parameters.length) = some 1 := by decide +kernel
theorem ds_15 : (parseMethodDescriptor "(LOrphanTree$Proc;)Z").map (fun d => d.parameters.length) = some 1 := by decide +kernel
theorem ds_16 : (parseMethodDescriptor "(LOrphanTree$Proc;)V").map (fun d => d.parameters.length) = some 1 := by decide +kernel
theorem ds_17 : (parseMethodDescriptor "(ILOrphanTree$Proc;)V").map (fun d => d.parameters.length) = some 2 := by decide +kernel
theorem ds_18 : (parseMethodDescriptor "(LOrphanTree$Proc;)LOrphanTree$Proc;").map (fun d => d.parameters.length) = some 1 := by decide +kernel
theorem ds_19 : (parseMethodDescriptor "(Ljava/lang/String;)Z").map (fun d => d.parameters.length) = some 1 := by decide +kernel
theorem ds_20 : (parseMethodDescriptor "(II)Z").map (fun d => d.parameters.length) = some 2 := by decide +kernel
theorem ds_21 : (parseMethodDescriptor "(IIII)V").map (fun d => d.parameters.length) = some 4 := by decide +kernel
theorem ds_22 : (parseMethodDescriptor "(LOrphanTree$Proc;LOrphanTree$Proc;)LOrphanTree$Proc;").map (fun d => d.parameters.length) = some 2 := by decide +kernel
theorem ds_23 : (parseMethodDescriptor "(LOrphanTree$Proc;LOrphanTree$Proc;)V").map (fun d => d.parameters.length) = some 2 := by decide +kernel
theorem ds_24 : (parseMethodDescriptor "(LOrphanTree$Proc;I)LOrphanTree$Proc;").map (fun d => d.parameters.length) = some 2 := by decide +kernel
theorem ds_25 : (parseMethodDescriptor "(LOrphanTree$Proc;LOrphanTree$Proc;Z)LOrphanTree$Proc;").map (fun d => d.parameters.length) = some 3 := by decide +kernel
theorem ds_26 : (parseMethodDescriptor "(LOrphanTree$Proc;LOrphanTree$Proc;)Z").map (fun d => d.parameters.length) = some 2 := by decide +kernel
theorem pg_70 : pr_G 70 0 2 43 653 := pG_of (M := pr_m70) rfl qI_70 rfl rfl rfl rfl pw_c_70 pw_i_q1 nh_q1 ds_0
theorem pg_28 : pr_G 28 0 2 441 6640 := pG_of (M := pr_m28) rfl qI_28 rfl rfl rfl rfl pw_c_28 pw_i_q2 nh_q2 ds_0
theorem pg_50 : pr_G 50 0 1 46 1165 := pG_of (M := pr_m50) rfl qI_50 rfl rfl rfl rfl pw_c_50 pw_i_q3 nh_q3 ds_0
theorem pg_33 : pr_G 33 0 1 1 300 := pG_of (M := pr_m33) rfl qI_33 rfl rfl rfl rfl pw_c_33 pw_i_q4 nh_q4 ds_0
theorem pg_31 : pr_G 31 1 3 0 0 := pG_of (M := pr_m31) rfl qI_31 rfl rfl rfl rfl pw_c_31 pw_i_q5 nh_q5 ds_1
theorem pg_51 : pr_G 51 0 1 0 0 := pG_of (M := pr_m51) rfl qI_51 rfl rfl rfl rfl pw_c_51 pw_i_q3 nh_q3 ds_0
theorem pg_52 : pr_G 52 0 1 0 0 := pG_of (M := pr_m52) rfl qI_52 rfl rfl rfl rfl pw_c_52 pw_i_q3 nh_q3 ds_2
theorem pg_74 : pr_G 74 1 4 0 0 := pG_of (M := pr_m74) rfl qI_74 rfl rfl rfl rfl pw_c_74 pw_i_q1 nh_q1 ds_3
theorem pg_76 : pr_G 76 1 7 0 0 := pG_of (M := pr_m76) rfl qI_76 rfl rfl rfl rfl pw_c_76 pw_i_q1 nh_q1 ds_4
theorem pg_80 : pr_G 80 1 4 0 0 := pG_of (M := pr_m80) rfl qI_80 rfl rfl rfl rfl pw_c_80 pw_i_q1 nh_q1 ds_5
theorem pg_117 : pr_G 117 1 1 0 0 := pG_of (M := pr_m117) rfl qI_117 rfl rfl rfl rfl pw_c_117 pw_i_q6 nh_q6 ds_4
theorem pg_22 : pr_G 22 1 3 0 0 := pG_of (M := pr_m22) rfl qI_22 rfl rfl rfl rfl pw_c_22 pw_i_q0 nh_q0 ds_6
theorem pg_25 : pr_G 25 1 1 0 0 := pG_of (M := pr_m25) rfl qI_25 rfl rfl rfl rfl pw_c_25 pw_i_q0 nh_q0 ds_5
theorem pg_43 : pr_G 43 0 1 0 0 := pG_of (M := pr_m43) rfl qI_43 rfl rfl rfl rfl pw_c_43 pw_i_q8 nh_q8 ds_7
theorem pg_77 : pr_G 77 1 7 0 0 := pG_of (M := pr_m77) rfl qI_77 rfl rfl rfl rfl pw_c_77 pw_i_q1 nh_q1 ds_5
theorem pg_49 : pr_G 49 0 3 0 0 := pG_of (M := pr_m49) rfl qI_49 rfl rfl rfl rfl pw_c_49 pw_i_q8 nh_q8 ds_7
theorem pg_24 : pr_G 24 1 1 0 0 := pG_of (M := pr_m24) rfl qI_24 rfl rfl rfl rfl pw_c_24 pw_i_q0 nh_q0 ds_8
theorem pg_44 : pr_G 44 0 3 0 0 := pG_of (M := pr_m44) rfl qI_44 rfl rfl rfl rfl pw_c_44 pw_i_q8 nh_q8 ds_7
theorem pg_23 : pr_G 23 2 2 0 0 := pG_of (M := pr_m23) rfl qI_23 rfl rfl rfl rfl pw_c_23 pw_i_q0 nh_q0 ds_9
theorem pg_29 : pr_G 29 1 2 0 0 := pG_of (M := pr_m29) rfl qI_29 rfl rfl rfl rfl pw_c_29 pw_i_q2 nh_q2 ds_3
theorem pg_81 : pr_G 81 4 6 0 0 := pG_of (M := pr_m81) rfl qI_81 rfl rfl rfl rfl pw_c_81 pw_i_q1 nh_q1 ds_10
theorem pg_26 : pr_G 26 2 4 0 0 := pG_of (M := pr_m26) rfl qI_26 rfl rfl rfl rfl pw_c_26 pw_i_q0 nh_q0 ds_11
theorem pg_82 : pr_G 82 2 11 0 0 := pG_of (M := pr_m82) rfl qI_82 rfl rfl rfl rfl pw_c_82 pw_i_q1 nh_q1 ds_12
theorem pg_27 : pr_G 27 2 2 0 0 := pG_of (M := pr_m27) rfl qI_27 rfl rfl rfl rfl pw_c_27 pw_i_q0 nh_q0 ds_9
theorem pg_94 : pr_G 94 2 8 0 0 := pG_of (M := pr_m94) rfl qI_94 rfl rfl rfl rfl pw_c_94 pw_i_q1 nh_q1 ds_13
theorem pg_38 : pr_G 38 0 1 0 0 := pG_of (M := pr_m38) rfl qI_38 rfl rfl rfl rfl pw_c_38 pw_i_q8 nh_q8 ds_2
theorem pg_95 : pr_G 95 2 8 0 0 := pG_of (M := pr_m95) rfl qI_95 rfl rfl rfl rfl pw_c_95 pw_i_q1 nh_q1 ds_12
theorem pg_37 : pr_G 37 0 1 0 0 := pG_of (M := pr_m37) rfl qI_37 rfl rfl rfl rfl pw_c_37 pw_i_q8 nh_q8 ds_2
theorem pg_42 : pr_G 42 1 2 0 0 := pG_of (M := pr_m42) rfl qI_42 rfl rfl rfl rfl pw_c_42 pw_i_q8 nh_q8 ds_14
theorem pg_45 : pr_G 45 1 3 0 0 := pG_of (M := pr_m45) rfl qI_45 rfl rfl rfl rfl pw_c_45 pw_i_q8 nh_q8 ds_15
theorem pg_46 : pr_G 46 1 2 0 0 := pG_of (M := pr_m46) rfl qI_46 rfl rfl rfl rfl pw_c_46 pw_i_q8 nh_q8 ds_16
theorem pg_78 : pr_G 78 1 3 0 0 := pG_of (M := pr_m78) rfl qI_78 rfl rfl rfl rfl pw_c_78 pw_i_q1 nh_q1 ds_6
theorem pg_79 : pr_G 79 2 3 0 0 := pG_of (M := pr_m79) rfl qI_79 rfl rfl rfl rfl pw_c_79 pw_i_q1 nh_q1 ds_17
theorem pg_88 : pr_G 88 1 5 0 0 := pG_of (M := pr_m88) rfl qI_88 rfl rfl rfl rfl pw_c_88 pw_i_q1 nh_q1 ds_18
theorem pg_86 : pr_G 86 1 7 0 0 := pG_of (M := pr_m86) rfl qI_86 rfl rfl rfl rfl pw_c_86 pw_i_q1 nh_q1 ds_18
theorem pg_97 : pr_G 97 1 7 0 0 := pG_of (M := pr_m97) rfl qI_97 rfl rfl rfl rfl pw_c_97 pw_i_q1 nh_q1 ds_5
theorem pg_96 : pr_G 96 1 4 0 0 := pG_of (M := pr_m96) rfl qI_96 rfl rfl rfl rfl pw_c_96 pw_i_q1 nh_q1 ds_5
theorem pg_75 : pr_G 75 1 2 0 0 := pG_of (M := pr_m75) rfl qI_75 rfl rfl rfl rfl pw_c_75 pw_i_q1 nh_q1 ds_6
theorem pg_47 : pr_G 47 1 2 0 0 := pG_of (M := pr_m47) rfl qI_47 rfl rfl rfl rfl pw_c_47 pw_i_q8 nh_q8 ds_4
theorem pg_30 : pr_G 30 0 1 1 500 := pG_of (M := pr_m30) rfl qI_30 rfl rfl rfl rfl pw_c_30 pw_i_q5 nh_q5 ds_0
theorem pg_71 : pr_G 71 0 5 0 0 := pG_of (M := pr_m71) rfl qI_71 rfl rfl rfl rfl pw_c_71 pw_i_q1 nh_q1 ds_0
theorem pg_66 : pr_G 66 0 1 0 0 := pG_of (M := pr_m66) rfl qI_66 rfl rfl rfl rfl pw_c_66 pw_i_q3 nh_q3 ds_0
theorem pg_69 : pr_G 69 1 4 0 0 := pG_of (M := pr_m69) rfl qI_69 rfl rfl rfl rfl pw_c_69 pw_i_q3 nh_q3 ds_19
theorem pg_53 : pr_G 53 0 3 0 0 := pG_of (M := pr_m53) rfl qI_53 rfl rfl rfl rfl pw_c_53 pw_i_q3 nh_q3 ds_2
theorem pg_55 : pr_G 55 0 1 0 0 := pG_of (M := pr_m55) rfl qI_55 rfl rfl rfl rfl pw_c_55 pw_i_q3 nh_q3 ds_2
theorem pg_56 : pr_G 56 0 1 0 0 := pG_of (M := pr_m56) rfl qI_56 rfl rfl rfl rfl pw_c_56 pw_i_q3 nh_q3 ds_2
theorem pg_57 : pr_G 57 0 4 0 0 := pG_of (M := pr_m57) rfl qI_57 rfl rfl rfl rfl pw_c_57 pw_i_q3 nh_q3 ds_2
theorem pg_58 : pr_G 58 0 3 0 0 := pG_of (M := pr_m58) rfl qI_58 rfl rfl rfl rfl pw_c_58 pw_i_q3 nh_q3 ds_2
theorem pg_59 : pr_G 59 0 3 0 0 := pG_of (M := pr_m59) rfl qI_59 rfl rfl rfl rfl pw_c_59 pw_i_q3 nh_q3 ds_2
theorem pg_60 : pr_G 60 0 2 0 0 := pG_of (M := pr_m60) rfl qI_60 rfl rfl rfl rfl pw_c_60 pw_i_q3 nh_q3 ds_2
theorem pg_61 : pr_G 61 0 4 0 0 := pG_of (M := pr_m61) rfl qI_61 rfl rfl rfl rfl pw_c_61 pw_i_q3 nh_q3 ds_2
theorem pg_65 : pr_G 65 1 2 0 0 := pG_of (M := pr_m65) rfl qI_65 rfl rfl rfl rfl pw_c_65 pw_i_q3 nh_q3 ds_14
theorem pg_73 : pr_G 73 0 2 0 0 := pG_of (M := pr_m73) rfl qI_73 rfl rfl rfl rfl pw_c_73 pw_i_q1 nh_q1 ds_0
theorem pg_54 : pr_G 54 0 1 0 0 := pG_of (M := pr_m54) rfl qI_54 rfl rfl rfl rfl pw_c_54 pw_i_q3 nh_q3 ds_7
theorem pg_72 : pr_G 72 1 6 0 0 := pG_of (M := pr_m72) rfl qI_72 rfl rfl rfl rfl pw_c_72 pw_i_q1 nh_q1 ds_14
theorem pg_63 : pr_G 63 2 3 0 0 := pG_of (M := pr_m63) rfl qI_63 rfl rfl rfl rfl pw_c_63 pw_i_q3 nh_q3 ds_20
theorem pg_64 : pr_G 64 0 1 0 0 := pG_of (M := pr_m64) rfl qI_64 rfl rfl rfl rfl pw_c_64 pw_i_q3 nh_q3 ds_2
theorem pg_62 : pr_G 62 1 2 0 0 := pG_of (M := pr_m62) rfl qI_62 rfl rfl rfl rfl pw_c_62 pw_i_q3 nh_q3 ds_6
theorem pg_48 : pr_G 48 2 3 0 0 := pG_of (M := pr_m48) rfl qI_48 rfl rfl rfl rfl pw_c_48 pw_i_q8 nh_q8 ds_9
theorem pg_32 : pr_G 32 1 2 0 0 := pG_of (M := pr_m32) rfl qI_32 rfl rfl rfl rfl pw_c_32 pw_i_q5 nh_q5 ds_4
theorem pg_67 : pr_G 67 1 1 0 0 := pG_of (M := pr_m67) rfl qI_67 rfl rfl rfl rfl pw_c_67 pw_i_q3 nh_q3 ds_14
theorem pg_68 : pr_G 68 1 1 0 0 := pG_of (M := pr_m68) rfl qI_68 rfl rfl rfl rfl pw_c_68 pw_i_q3 nh_q3 ds_4
theorem pg_34 : pr_G 34 1 2 0 0 := pG_of (M := pr_m34) rfl qI_34 rfl rfl rfl rfl pw_c_34 pw_i_q8 nh_q8 ds_1
theorem pg_35 : pr_G 35 4 5 0 0 := pG_of (M := pr_m35) rfl qI_35 rfl rfl rfl rfl pw_c_35 pw_i_q8 nh_q8 ds_21
theorem pg_36 : pr_G 36 1 2 0 0 := pG_of (M := pr_m36) rfl qI_36 rfl rfl rfl rfl pw_c_36 pw_i_q8 nh_q8 ds_16
theorem pg_40 : pr_G 40 1 2 0 0 := pG_of (M := pr_m40) rfl qI_40 rfl rfl rfl rfl pw_c_40 pw_i_q8 nh_q8 ds_15
theorem pg_83 : pr_G 83 2 4 0 0 := pG_of (M := pr_m83) rfl qI_83 rfl rfl rfl rfl pw_c_83 pw_i_q1 nh_q1 ds_22
theorem pg_84 : pr_G 84 2 5 0 0 := pG_of (M := pr_m84) rfl qI_84 rfl rfl rfl rfl pw_c_84 pw_i_q1 nh_q1 ds_23
theorem pg_39 : pr_G 39 1 2 0 0 := pG_of (M := pr_m39) rfl qI_39 rfl rfl rfl rfl pw_c_39 pw_i_q8 nh_q8 ds_15
theorem pg_87 : pr_G 87 2 3 0 0 := pG_of (M := pr_m87) rfl qI_87 rfl rfl rfl rfl pw_c_87 pw_i_q1 nh_q1 ds_23
theorem pg_85 : pr_G 85 2 4 0 0 := pG_of (M := pr_m85) rfl qI_85 rfl rfl rfl rfl pw_c_85 pw_i_q1 nh_q1 ds_24
theorem pg_41 : pr_G 41 0 1 0 0 := pG_of (M := pr_m41) rfl qI_41 rfl rfl rfl rfl pw_c_41 pw_i_q8 nh_q8 ds_2
theorem pg_89 : pr_G 89 2 4 0 0 := pG_of (M := pr_m89) rfl qI_89 rfl rfl rfl rfl pw_c_89 pw_i_q1 nh_q1 ds_22
theorem pg_90 : pr_G 90 3 11 0 0 := pG_of (M := pr_m90) rfl qI_90 rfl rfl rfl rfl pw_c_90 pw_i_q1 nh_q1 ds_25
theorem pg_91 : pr_G 91 2 8 0 0 := pG_of (M := pr_m91) rfl qI_91 rfl rfl rfl rfl pw_c_91 pw_i_q1 nh_q1 ds_22
theorem pg_92 : pr_G 92 2 7 0 0 := pG_of (M := pr_m92) rfl qI_92 rfl rfl rfl rfl pw_c_92 pw_i_q1 nh_q1 ds_22
theorem pg_93 : pr_G 93 2 3 0 0 := pG_of (M := pr_m93) rfl qI_93 rfl rfl rfl rfl pw_c_93 pw_i_q1 nh_q1 ds_26
theorem pv_31 : pr_GV 31 1 := pV_of qI_31 vw_c1 rfl rfl pw_v_31 pw_s_31
theorem pv_51 : pr_GV 51 4 := pV_of qI_51 vw_c4 rfl rfl pw_v_51 pw_s_51
theorem pv_52 : pr_GV 52 4 := pV_of qI_52 vw_c4 rfl rfl pw_v_52 pw_s_52
theorem pv_74 : pr_GV 74 5 := pV_of qI_74 vw_c5 rfl rfl pw_v_74 pw_s_74
theorem pv_76 : pr_GV 76 5 := pV_of qI_76 vw_c5 rfl rfl pw_v_76 pw_s_76
theorem pv_80 : pr_GV 80 5 := pV_of qI_80 vw_c5 rfl rfl pw_v_80 pw_s_80
theorem pv_22 : pr_GV 22 6 := pV_of qI_22 vw_c6 rfl rfl pw_v_22 pw_s_22
theorem pv_43 : pr_GV 43 3 := pV_of qI_43 vw_c3 rfl rfl pw_v_43 pw_s_43
theorem pv_77 : pr_GV 77 5 := pV_of qI_77 vw_c5 rfl rfl pw_v_77 pw_s_77
theorem pv_49 : pr_GV 49 3 := pV_of qI_49 vw_c3 rfl rfl pw_v_49 pw_s_49
theorem pv_44 : pr_GV 44 3 := pV_of qI_44 vw_c3 rfl rfl pw_v_44 pw_s_44
theorem pv_29 : pr_GV 29 0 := pV_of qI_29 vw_c0 rfl rfl pw_v_29 pw_s_29
theorem pv_81 : pr_GV 81 5 := pV_of qI_81 vw_c5 rfl rfl pw_v_81 pw_s_81
theorem pv_26 : pr_GV 26 6 := pV_of qI_26 vw_c6 rfl rfl pw_v_26 pw_s_26
theorem pv_82 : pr_GV 82 5 := pV_of qI_82 vw_c5 rfl rfl pw_v_82 pw_s_82
theorem pv_94 : pr_GV 94 5 := pV_of qI_94 vw_c5 rfl rfl pw_v_94 pw_s_94
theorem pv_38 : pr_GV 38 3 := pV_of qI_38 vw_c3 rfl rfl pw_v_38 pw_s_38
theorem pv_95 : pr_GV 95 5 := pV_of qI_95 vw_c5 rfl rfl pw_v_95 pw_s_95
theorem pv_37 : pr_GV 37 3 := pV_of qI_37 vw_c3 rfl rfl pw_v_37 pw_s_37
theorem pv_42 : pr_GV 42 3 := pV_of qI_42 vw_c3 rfl rfl pw_v_42 pw_s_42
theorem pv_45 : pr_GV 45 3 := pV_of qI_45 vw_c3 rfl rfl pw_v_45 pw_s_45
theorem pv_46 : pr_GV 46 3 := pV_of qI_46 vw_c3 rfl rfl pw_v_46 pw_s_46
theorem pv_78 : pr_GV 78 5 := pV_of qI_78 vw_c5 rfl rfl pw_v_78 pw_s_78
theorem pv_79 : pr_GV 79 5 := pV_of qI_79 vw_c5 rfl rfl pw_v_79 pw_s_79
theorem pv_88 : pr_GV 88 5 := pV_of qI_88 vw_c5 rfl rfl pw_v_88 pw_s_88
theorem pv_86 : pr_GV 86 5 := pV_of qI_86 vw_c5 rfl rfl pw_v_86 pw_s_86
theorem pv_97 : pr_GV 97 5 := pV_of qI_97 vw_c5 rfl rfl pw_v_97 pw_s_97
theorem pv_96 : pr_GV 96 5 := pV_of qI_96 vw_c5 rfl rfl pw_v_96 pw_s_96
theorem pv_75 : pr_GV 75 5 := pV_of qI_75 vw_c5 rfl rfl pw_v_75 pw_s_75
theorem pv_47 : pr_GV 47 3 := pV_of qI_47 vw_c3 rfl rfl pw_v_47 pw_s_47
theorem pv_71 : pr_GV 71 5 := pV_of qI_71 vw_c5 rfl rfl pw_v_71 pw_s_71
theorem pv_66 : pr_GV 66 4 := pV_of qI_66 vw_c4 rfl rfl pw_v_66 pw_s_66
theorem pv_69 : pr_GV 69 4 := pV_of qI_69 vw_c4 rfl rfl pw_v_69 pw_s_69
theorem pv_53 : pr_GV 53 4 := pV_of qI_53 vw_c4 rfl rfl pw_v_53 pw_s_53
theorem pv_55 : pr_GV 55 4 := pV_of qI_55 vw_c4 rfl rfl pw_v_55 pw_s_55
theorem pv_56 : pr_GV 56 4 := pV_of qI_56 vw_c4 rfl rfl pw_v_56 pw_s_56
theorem pv_57 : pr_GV 57 4 := pV_of qI_57 vw_c4 rfl rfl pw_v_57 pw_s_57
theorem pv_58 : pr_GV 58 4 := pV_of qI_58 vw_c4 rfl rfl pw_v_58 pw_s_58
theorem pv_59 : pr_GV 59 4 := pV_of qI_59 vw_c4 rfl rfl pw_v_59 pw_s_59
theorem pv_60 : pr_GV 60 4 := pV_of qI_60 vw_c4 rfl rfl pw_v_60 pw_s_60
theorem pv_61 : pr_GV 61 4 := pV_of qI_61 vw_c4 rfl rfl pw_v_61 pw_s_61
theorem pv_65 : pr_GV 65 4 := pV_of qI_65 vw_c4 rfl rfl pw_v_65 pw_s_65
theorem pv_73 : pr_GV 73 5 := pV_of qI_73 vw_c5 rfl rfl pw_v_73 pw_s_73
theorem pv_54 : pr_GV 54 4 := pV_of qI_54 vw_c4 rfl rfl pw_v_54 pw_s_54
theorem pv_72 : pr_GV 72 5 := pV_of qI_72 vw_c5 rfl rfl pw_v_72 pw_s_72
theorem pv_63 : pr_GV 63 4 := pV_of qI_63 vw_c4 rfl rfl pw_v_63 pw_s_63
theorem pv_64 : pr_GV 64 4 := pV_of qI_64 vw_c4 rfl rfl pw_v_64 pw_s_64
theorem pv_62 : pr_GV 62 4 := pV_of qI_62 vw_c4 rfl rfl pw_v_62 pw_s_62
theorem pv_48 : pr_GV 48 3 := pV_of qI_48 vw_c3 rfl rfl pw_v_48 pw_s_48
theorem pv_32 : pr_GV 32 1 := pV_of qI_32 vw_c1 rfl rfl pw_v_32 pw_s_32
theorem pv_35 : pr_GV 35 3 := pV_of qI_35 vw_c3 rfl rfl pw_v_35 pw_s_35
theorem pv_36 : pr_GV 36 3 := pV_of qI_36 vw_c3 rfl rfl pw_v_36 pw_s_36
theorem pv_40 : pr_GV 40 3 := pV_of qI_40 vw_c3 rfl rfl pw_v_40 pw_s_40
theorem pv_83 : pr_GV 83 5 := pV_of qI_83 vw_c5 rfl rfl pw_v_83 pw_s_83
theorem pv_84 : pr_GV 84 5 := pV_of qI_84 vw_c5 rfl rfl pw_v_84 pw_s_84
theorem pv_39 : pr_GV 39 3 := pV_of qI_39 vw_c3 rfl rfl pw_v_39 pw_s_39
theorem pv_87 : pr_GV 87 5 := pV_of qI_87 vw_c5 rfl rfl pw_v_87 pw_s_87
theorem pv_85 : pr_GV 85 5 := pV_of qI_85 vw_c5 rfl rfl pw_v_85 pw_s_85
theorem pv_41 : pr_GV 41 3 := pV_of qI_41 vw_c3 rfl rfl pw_v_41 pw_s_41
theorem pv_89 : pr_GV 89 5 := pV_of qI_89 vw_c5 rfl rfl pw_v_89 pw_s_89
theorem pv_90 : pr_GV 90 5 := pV_of qI_90 vw_c5 rfl rfl pw_v_90 pw_s_90
theorem pv_91 : pr_GV 91 5 := pV_of qI_91 vw_c5 rfl rfl pw_v_91 pw_s_91
theorem pv_92 : pr_GV 92 5 := pV_of qI_92 vw_c5 rfl rfl pw_v_92 pw_s_92
theorem pv_93 : pr_GV 93 5 := pV_of qI_93 vw_c5 rfl rfl pw_v_93 pw_s_93
theorem pn_70 : pr_GI 70 5 := ⟨⟨_, vw_c5⟩, rfl, rfl, rfl, pw_v_70⟩
theorem pn_28 : pr_GI 28 0 := ⟨⟨_, vw_c0⟩, rfl, rfl, rfl, pw_v_28⟩
theorem pn_50 : pr_GI 50 4 := ⟨⟨_, vw_c4⟩, rfl, rfl, rfl, pw_v_50⟩
theorem pn_33 : pr_GI 33 2 := ⟨⟨_, vw_c2⟩, rfl, rfl, rfl, pw_v_33⟩
theorem pn_30 : pr_GI 30 1 := ⟨⟨_, vw_c1⟩, rfl, rfl, rfl, pw_v_30⟩
theorem pn_34 : pr_GI 34 3 := ⟨⟨_, vw_c3⟩, rfl, rfl, rfl, pw_v_34⟩
theorem xl_px_q0_118_122 : ∀ x ∈ ev_xat "OrphanTree" 122 0, x ∈ lw_tbl := xs_in pt_PP [(1, 26), (5, 97), (5, 106), (5, 110), (5, 113), (5, 115), (5, 98), (5, 99), (1, 38), (1, 39), (5, 100), (5, 105), (5, 111), (5, 131), (5, 87), (5, 132), (5, 89), (5, 133), (5, 91), (5, 101), (5, 103), (5, 93), (5, 127), (5, 128), (5, 130), (5, 93), (5, 174), (5, 175), (5, 176), (5, 121), (5, 79), (5, 121), (5, 122), (5, 123), (5, 124), (5, 81), (5, 124), (5, 125), (5, 126), (5, 127), (5, 83), (5, 173), (5, 164), (5, 165), (5, 166), (5, 108), (5, 167), (5, 168), (5, 169), (5, 170), (5, 96), (5, 95), (5, 171)] (by decide +kernel)
theorem px_q0_118_122 : pr_X "OrphanTree" 118 122 0 := ⟨pw_cl_q0_118, pw_i_q7, xs_g xl_px_q0_118_122, xs_b xl_px_q0_118_122 (by decide +kernel), by decide +kernel⟩
theorem xl_px_q0_343_347 : ∀ x ∈ ev_xat "OrphanTree" 347 2, x ∈ lw_tbl := xs_in pt_PP [(1, 26), (5, 97), (5, 106), (5, 110), (5, 113), (5, 115), (5, 98), (5, 99), (1, 38), (1, 39), (5, 100), (5, 105), (5, 111), (5, 131), (5, 87), (5, 132), (5, 89), (5, 133), (5, 91), (5, 101), (5, 103), (5, 93), (5, 127), (5, 128), (5, 130), (5, 93), (5, 118), (5, 119), (5, 120), (5, 121), (5, 79), (5, 121), (5, 122), (5, 123), (5, 124), (5, 81), (5, 124), (5, 125), (5, 126), (5, 127), (5, 83), (5, 117), (5, 76), (5, 77), (5, 84), (5, 85), (5, 86), (5, 88), (5, 90), (5, 92), (5, 96), (5, 95), (5, 94)] (by decide +kernel)
theorem px_q0_343_347 : pr_X "OrphanTree" 343 347 2 := ⟨pw_cl_q0_343, pw_i_q9, xs_g xl_px_q0_343_347, xs_b xl_px_q0_343_347 (by decide +kernel), by decide +kernel⟩
theorem xl_px_q0_350_354 : ∀ x ∈ ev_xat "OrphanTree" 354 1, x ∈ lw_tbl := xs_in pt_PP [(1, 26), (5, 97), (5, 106), (5, 110), (5, 113), (5, 115), (5, 98), (5, 99), (1, 38), (1, 39), (5, 100), (5, 105), (5, 111), (5, 131), (5, 87), (5, 132), (5, 89), (5, 133), (5, 91), (5, 101), (5, 103), (5, 93), (5, 127), (5, 128), (5, 130), (5, 93), (5, 197), (5, 198), (5, 199), (5, 121), (5, 79), (5, 121), (5, 122), (5, 123), (5, 124), (5, 81), (5, 124), (5, 125), (5, 126), (5, 127), (5, 83), (5, 196), (5, 187), (5, 188), (5, 189), (5, 109), (5, 190), (5, 191), (5, 192), (5, 193), (5, 96), (5, 95), (5, 194)] (by decide +kernel)
theorem px_q0_350_354 : pr_X "OrphanTree" 350 354 1 := ⟨pw_cl_q0_350, pw_i_q10, xs_g xl_px_q0_350_354, xs_b xl_px_q0_350_354 (by decide +kernel), by decide +kernel⟩
