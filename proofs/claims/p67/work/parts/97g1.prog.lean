/-! ===== the program's methods as the class files have them; the law up to its loop (own work, by program: wip/p2/gen98.py) ===== -/
def pr_y0 : MethodName := ⟨"OrphanTree", "<init>", "()V"⟩
def pr_i0 : ev_Im := (pr_y0, (prog_1_method_1_code, (none, [])))
def pr_y1 : MethodName := ⟨"OrphanTree", "appendInput", "(IIIII)I"⟩
def pr_i1 : ev_Im := (pr_y1, (prog_1_method_2_code, ((some .int), [])))
def pr_y2 : MethodName := ⟨"OrphanTree", "truncateInput", "(I)Z"⟩
def pr_i2 : ev_Im := (pr_y2, (prog_1_method_3_code, ((some .boolean), [])))
def pr_y3 : MethodName := ⟨"OrphanTree", "loadTree", "()I"⟩
def pr_i3 : ev_Im := (pr_y3, (prog_1_method_4_code, ((some .int), [])))
def pr_y4 : MethodName := ⟨"OrphanTree", "count", "(I)I"⟩
def pr_i4 : ev_Im := (pr_y4, (prog_1_method_7_code, ((some .int), [])))
def pr_y5 : MethodName := ⟨"OrphanTree", "process", "(II)I"⟩
def pr_i5 : ev_Im := (pr_y5, (prog_1_method_8_code, ((some .int), [])))
def pr_y6 : MethodName := ⟨"OrphanTree", "depth", "(I)I"⟩
def pr_i6 : ev_Im := (pr_y6, (prog_1_method_11_code, ((some .int), [])))
def pr_y7 : MethodName := ⟨"OrphanTree", "spawn", "(IIII)I"⟩
def pr_i7 : ev_Im := (pr_y7, (prog_1_method_18_code, ((some .int), [])))
def pr_y8 : MethodName := ⟨"OrphanTree", "exit", "(II)I"⟩
def pr_i8 : ev_Im := (pr_y8, (prog_1_method_19_code, ((some .int), [])))
def pr_y9 : MethodName := ⟨"OrphanTree", "kill", "(II)I"⟩
def pr_i9 : ev_Im := (pr_y9, (prog_1_method_20_code, ((some .int), [])))
def pr_y10 : MethodName := ⟨"OrphanTree", "refuse", "(II)I"⟩
def pr_i10 : ev_Im := (pr_y10, (prog_1_method_22_code, ((some .int), [])))
def pr_y11 : MethodName := ⟨"OrphanTree", "accept", "(II)Z"⟩
def pr_i11 : ev_Im := (pr_y11, (prog_1_method_23_code, ((some .boolean), [])))
def pr_y12 : MethodName := ⟨"OrphanTree", "move", "(II)I"⟩
def pr_i12 : ev_Im := (pr_y12, (prog_1_method_24_code, ((some .int), [])))
def pr_y13 : MethodName := ⟨"OrphanTree", "setCapacity", "(II)I"⟩
def pr_i13 : ev_Im := (pr_y13, (prog_1_method_25_code, ((some .int), [])))
def pr_y14 : MethodName := ⟨"OrphanTree", "setBudget", "(II)I"⟩
def pr_i14 : ev_Im := (pr_y14, (prog_1_method_26_code, ((some .int), [])))
def pr_y15 : MethodName := ⟨"OrphanTree", "setHeir", "(II)I"⟩
def pr_i15 : ev_Im := (pr_y15, (prog_1_method_27_code, ((some .int), [])))
def pr_y16 : MethodName := ⟨"OrphanTree", "give", "(II)I"⟩
def pr_i16 : ev_Im := (pr_y16, (prog_1_method_28_code, ((some .int), [])))
def pr_y17 : MethodName := ⟨"OrphanTree", "adopter", "(I)I"⟩
def pr_i17 : ev_Im := (pr_y17, (prog_1_method_29_code, ((some .int), [])))
def pr_y18 : MethodName := ⟨"OrphanTree", "heirNow", "(I)I"⟩
def pr_i18 : ev_Im := (pr_y18, (prog_1_method_30_code, ((some .int), [])))
def pr_y19 : MethodName := ⟨"OrphanTree", "allRoom", "()I"⟩
def pr_i19 : ev_Im := (pr_y19, (prog_1_method_37_code, ((some .int), [])))
def pr_y20 : MethodName := ⟨"OrphanTree", "readAll", "(I)I"⟩
def pr_i20 : ev_Im := (pr_y20, (prog_1_method_46_code, ((some .int), [])))
def pr_y21 : MethodName := ⟨"OrphanTree", "relieve", "(I)I"⟩
def pr_i21 : ev_Im := (pr_y21, (prog_1_method_55_code, ((some .int), [])))
def pr_y22 : MethodName := ⟨"OrphanTree", "named", "(I)LOrphanTree$Proc;"⟩
def pr_i22 : ev_Im := (pr_y22, (prog_1_method_66_code, ((some (.object "OrphanTree$Proc")), [])))
def pr_y23 : MethodName := ⟨"OrphanTree", "checkRange", "(II)V"⟩
def pr_i23 : ev_Im := (pr_y23, (prog_1_method_67_code, (none, [])))
def pr_y24 : MethodName := ⟨"OrphanTree", "checkState", "(Z)V"⟩
def pr_i24 : ev_Im := (pr_y24, (prog_1_method_68_code, (none, [])))
def pr_y25 : MethodName := ⟨"OrphanTree", "numberOf", "(LOrphanTree$Proc;)I"⟩
def pr_i25 : ev_Im := (pr_y25, (prog_1_method_69_code, ((some .int), [])))
def pr_y26 : MethodName := ⟨"OrphanTree", "namedForExit", "(II)LOrphanTree$Proc;"⟩
def pr_i26 : ev_Im := (pr_y26, (prog_1_method_70_code, ((some (.object "OrphanTree$Proc")), [])))
def pr_y27 : MethodName := ⟨"OrphanTree", "checkKill", "(II)V"⟩
def pr_i27 : ev_Im := (pr_y27, (prog_1_method_71_code, (none, [])))
def pr_y28 : MethodName := ⟨"OrphanTree$History", "<init>", "()V"⟩
def pr_i28 : ev_Im := (pr_y28, (prog_2_method_1_code, (none, [])))
def pr_y29 : MethodName := ⟨"OrphanTree$History", "push", "(LOrphanTree$Tree;)V"⟩
def pr_i29 : ev_Im := (pr_y29, (prog_2_method_2_code, (none, [])))
def pr_y30 : MethodName := ⟨"OrphanTree$Input", "<init>", "()V"⟩
def pr_i30 : ev_Im := (pr_y30, (prog_3_method_1_code, (none, [])))
def pr_y31 : MethodName := ⟨"OrphanTree$Input", "append", "(I)V"⟩
def pr_i31 : ev_Im := (pr_y31, (prog_3_method_2_code, (none, [])))
def pr_y32 : MethodName := ⟨"OrphanTree$Input", "at", "(I)I"⟩
def pr_i32 : ev_Im := (pr_y32, (prog_3_method_3_code, ((some .int), [])))
def pr_y33 : MethodName := ⟨"OrphanTree$Output", "<init>", "()V"⟩
def pr_i33 : ev_Im := (pr_y33, (prog_4_method_1_code, (none, [])))
def pr_y34 : MethodName := ⟨"OrphanTree$Proc", "<init>", "(I)V"⟩
def pr_i34 : ev_Im := (pr_y34, (prog_5_method_1_code, (none, [])))
def pr_y35 : MethodName := ⟨"OrphanTree$Proc", "become", "(IIII)V"⟩
def pr_i35 : ev_Im := (pr_y35, (prog_5_method_2_code, (none, [])))
def pr_y36 : MethodName := ⟨"OrphanTree$Proc", "take", "(LOrphanTree$Proc;)V"⟩
def pr_i36 : ev_Im := (pr_y36, (prog_5_method_3_code, (none, [])))
def pr_y37 : MethodName := ⟨"OrphanTree$Proc", "isRunning", "()Z"⟩
def pr_i37 : ev_Im := (pr_y37, (prog_5_method_4_code, ((some .boolean), [])))
def pr_y38 : MethodName := ⟨"OrphanTree$Proc", "isMortal", "()Z"⟩
def pr_i38 : ev_Im := (pr_y38, (prog_5_method_5_code, ((some .boolean), [])))
def pr_y39 : MethodName := ⟨"OrphanTree$Proc", "isRunningChildOf", "(LOrphanTree$Proc;)Z"⟩
def pr_i39 : ev_Im := (pr_y39, (prog_5_method_7_code, ((some .boolean), [])))
def pr_y40 : MethodName := ⟨"OrphanTree$Proc", "isZombieOf", "(LOrphanTree$Proc;)Z"⟩
def pr_i40 : ev_Im := (pr_y40, (prog_5_method_8_code, ((some .boolean), [])))
def pr_y41 : MethodName := ⟨"OrphanTree$Proc", "canInherit", "()Z"⟩
def pr_i41 : ev_Im := (pr_y41, (prog_5_method_9_code, ((some .boolean), [])))
def pr_y42 : MethodName := ⟨"OrphanTree$Proc", "refuses", "(I)Z"⟩
def pr_i42 : ev_Im := (pr_y42, (prog_5_method_10_code, ((some .boolean), [])))
def pr_y43 : MethodName := ⟨"OrphanTree$Proc", "room", "()I"⟩
def pr_i43 : ev_Im := (pr_y43, (prog_5_method_11_code, ((some .int), [])))
def pr_y44 : MethodName := ⟨"OrphanTree$Proc", "countAbove", "()I"⟩
def pr_i44 : ev_Im := (pr_y44, (prog_5_method_12_code, ((some .int), [])))
def pr_y45 : MethodName := ⟨"OrphanTree$Proc", "isOver", "(LOrphanTree$Proc;)Z"⟩
def pr_i45 : ev_Im := (pr_y45, (prog_5_method_13_code, ((some .boolean), [])))
def pr_y46 : MethodName := ⟨"OrphanTree$Proc", "putUnder", "(LOrphanTree$Proc;)V"⟩
def pr_i46 : ev_Im := (pr_y46, (prog_5_method_14_code, (none, [])))
def pr_y47 : MethodName := ⟨"OrphanTree$Proc", "willFor", "(I)I"⟩
def pr_i47 : ev_Im := (pr_y47, (prog_5_method_15_code, ((some .int), [])))
def pr_y48 : MethodName := ⟨"OrphanTree$Proc", "addWill", "(II)V"⟩
def pr_i48 : ev_Im := (pr_y48, (prog_5_method_16_code, (none, [])))
def pr_y49 : MethodName := ⟨"OrphanTree$Proc", "willMask", "()I"⟩
def pr_i49 : ev_Im := (pr_y49, (prog_5_method_17_code, ((some .int), [])))
def pr_y50 : MethodName := ⟨"OrphanTree$SetupReader", "<init>", "()V"⟩
def pr_i50 : ev_Im := (pr_y50, (prog_6_method_1_code, (none, [])))
def pr_y51 : MethodName := ⟨"OrphanTree$SetupReader", "begin", "()V"⟩
def pr_i51 : ev_Im := (pr_y51, (prog_6_method_2_code, (none, [])))
def pr_y52 : MethodName := ⟨"OrphanTree$SetupReader", "takeStatement", "()Z"⟩
def pr_i52 : ev_Im := (pr_y52, (prog_6_method_3_code, ((some .boolean), [])))
def pr_y53 : MethodName := ⟨"OrphanTree$SetupReader", "takeOrder", "()Z"⟩
def pr_i53 : ev_Im := (pr_y53, (prog_6_method_4_code, ((some .boolean), [])))
def pr_y54 : MethodName := ⟨"OrphanTree$SetupReader", "ruleOfWord", "()I"⟩
def pr_i54 : ev_Im := (pr_y54, (prog_6_method_5_code, ((some .int), [])))
def pr_y55 : MethodName := ⟨"OrphanTree$SetupReader", "takeDeep", "()Z"⟩
def pr_i55 : ev_Im := (pr_y55, (prog_6_method_6_code, ((some .boolean), [])))
def pr_y56 : MethodName := ⟨"OrphanTree$SetupReader", "takeRoot", "()Z"⟩
def pr_i56 : ev_Im := (pr_y56, (prog_6_method_7_code, ((some .boolean), [])))
def pr_y57 : MethodName := ⟨"OrphanTree$SetupReader", "takeProcess", "()Z"⟩
def pr_i57 : ev_Im := (pr_y57, (prog_6_method_8_code, ((some .boolean), [])))
def pr_y58 : MethodName := ⟨"OrphanTree$SetupReader", "takeHeir", "()Z"⟩
def pr_i58 : ev_Im := (pr_y58, (prog_6_method_9_code, ((some .boolean), [])))
def pr_y59 : MethodName := ⟨"OrphanTree$SetupReader", "takeDuty", "()Z"⟩
def pr_i59 : ev_Im := (pr_y59, (prog_6_method_10_code, ((some .boolean), [])))
def pr_y60 : MethodName := ⟨"OrphanTree$SetupReader", "takeRefusal", "()Z"⟩
def pr_i60 : ev_Im := (pr_y60, (prog_6_method_11_code, ((some .boolean), [])))
def pr_y61 : MethodName := ⟨"OrphanTree$SetupReader", "takeWill", "()Z"⟩
def pr_i61 : ev_Im := (pr_y61, (prog_6_method_12_code, ((some .boolean), [])))
def pr_y62 : MethodName := ⟨"OrphanTree$SetupReader", "takeNamed", "(I)LOrphanTree$Proc;"⟩
def pr_i62 : ev_Im := (pr_y62, (prog_6_method_13_code, ((some (.object "OrphanTree$Proc")), [])))
def pr_y63 : MethodName := ⟨"OrphanTree$SetupReader", "takeNumber", "(II)Z"⟩
def pr_i63 : ev_Im := (pr_y63, (prog_6_method_14_code, ((some .boolean), [])))
def pr_y64 : MethodName := ⟨"OrphanTree$SetupReader", "takeSemicolon", "()Z"⟩
def pr_i64 : ev_Im := (pr_y64, (prog_6_method_15_code, ((some .boolean), [])))
def pr_y65 : MethodName := ⟨"OrphanTree$SetupReader", "fail", "(I)Z"⟩
def pr_i65 : ev_Im := (pr_y65, (prog_6_method_16_code, ((some .boolean), [])))
def pr_y66 : MethodName := ⟨"OrphanTree$SetupReader", "advance", "()V"⟩
def pr_i66 : ev_Im := (pr_y66, (prog_6_method_17_code, (none, [])))
def pr_y67 : MethodName := ⟨"OrphanTree$SetupReader", "isBlank", "(I)Z"⟩
def pr_i67 : ev_Im := (pr_y67, (prog_6_method_18_code, ((some .boolean), [])))
def pr_y68 : MethodName := ⟨"OrphanTree$SetupReader", "kindOf", "(I)I"⟩
def pr_i68 : ev_Im := (pr_y68, (prog_6_method_19_code, ((some .int), [])))
def pr_y69 : MethodName := ⟨"OrphanTree$SetupReader", "isWord", "(Ljava/lang/String;)Z"⟩
def pr_i69 : ev_Im := (pr_y69, (prog_6_method_20_code, ((some .boolean), [])))
def pr_y70 : MethodName := ⟨"OrphanTree$Tree", "<init>", "()V"⟩
def pr_i70 : ev_Im := (pr_y70, (prog_7_method_1_code, (none, [])))
def pr_y71 : MethodName := ⟨"OrphanTree$Tree", "reset", "()V"⟩
def pr_i71 : ev_Im := (pr_y71, (prog_7_method_2_code, (none, [])))
def pr_y72 : MethodName := ⟨"OrphanTree$Tree", "hasRule", "(I)Z"⟩
def pr_i72 : ev_Im := (pr_y72, (prog_7_method_3_code, ((some .boolean), [])))
def pr_y73 : MethodName := ⟨"OrphanTree$Tree", "clearRules", "()V"⟩
def pr_i73 : ev_Im := (pr_y73, (prog_7_method_4_code, (none, [])))
def pr_y74 : MethodName := ⟨"OrphanTree$Tree", "take", "(LOrphanTree$Tree;)V"⟩
def pr_i74 : ev_Im := (pr_y74, (prog_7_method_5_code, (none, [])))
def pr_y75 : MethodName := ⟨"OrphanTree$Tree", "at", "(I)LOrphanTree$Proc;"⟩
def pr_i75 : ev_Im := (pr_y75, (prog_7_method_6_code, ((some (.object "OrphanTree$Proc")), [])))
def pr_y76 : MethodName := ⟨"OrphanTree$Tree", "countInState", "(I)I"⟩
def pr_i76 : ev_Im := (pr_y76, (prog_7_method_7_code, ((some .int), [])))
def pr_y77 : MethodName := ⟨"OrphanTree$Tree", "countZombiesOf", "(LOrphanTree$Proc;)I"⟩
def pr_i77 : ev_Im := (pr_y77, (prog_7_method_9_code, ((some .int), [])))
def pr_y78 : MethodName := ⟨"OrphanTree$Tree", "holderOf", "(I)LOrphanTree$Proc;"⟩
def pr_i78 : ev_Im := (pr_y78, (prog_7_method_15_code, ((some (.object "OrphanTree$Proc")), [])))
def pr_y79 : MethodName := ⟨"OrphanTree$Tree", "giveDuty", "(ILOrphanTree$Proc;)V"⟩
def pr_i79 : ev_Im := (pr_y79, (prog_7_method_16_code, (none, [])))
def pr_y80 : MethodName := ⟨"OrphanTree$Tree", "dutiesOf", "(LOrphanTree$Proc;)I"⟩
def pr_i80 : ev_Im := (pr_y80, (prog_7_method_17_code, ((some .int), [])))
def pr_y81 : MethodName := ⟨"OrphanTree$Tree", "arrive", "(LOrphanTree$Proc;III)LOrphanTree$Proc;"⟩
def pr_i81 : ev_Im := (pr_y81, (prog_7_method_18_code, ((some (.object "OrphanTree$Proc")), [])))
def pr_y82 : MethodName := ⟨"OrphanTree$Tree", "letExit", "(LOrphanTree$Proc;I)I"⟩
def pr_i82 : ev_Im := (pr_y82, (prog_7_method_19_code, ((some .int), [])))
def pr_y83 : MethodName := ⟨"OrphanTree$Tree", "replace", "(LOrphanTree$Proc;LOrphanTree$Proc;)LOrphanTree$Proc;"⟩
def pr_i83 : ev_Im := (pr_y83, (prog_7_method_20_code, ((some (.object "OrphanTree$Proc")), [])))
def pr_y84 : MethodName := ⟨"OrphanTree$Tree", "passDuties", "(LOrphanTree$Proc;LOrphanTree$Proc;)V"⟩
def pr_i84 : ev_Im := (pr_y84, (prog_7_method_21_code, (none, [])))
def pr_y85 : MethodName := ⟨"OrphanTree$Tree", "inheritorOf", "(LOrphanTree$Proc;I)LOrphanTree$Proc;"⟩
def pr_i85 : ev_Im := (pr_y85, (prog_7_method_22_code, ((some (.object "OrphanTree$Proc")), [])))
def pr_y86 : MethodName := ⟨"OrphanTree$Tree", "heirOf", "(LOrphanTree$Proc;)LOrphanTree$Proc;"⟩
def pr_i86 : ev_Im := (pr_y86, (prog_7_method_23_code, ((some (.object "OrphanTree$Proc")), [])))
def pr_y87 : MethodName := ⟨"OrphanTree$Tree", "adopt", "(LOrphanTree$Proc;LOrphanTree$Proc;)V"⟩
def pr_i87 : ev_Im := (pr_y87, (prog_7_method_24_code, (none, [])))
def pr_y88 : MethodName := ⟨"OrphanTree$Tree", "adopterOf", "(LOrphanTree$Proc;)LOrphanTree$Proc;"⟩
def pr_i88 : ev_Im := (pr_y88, (prog_7_method_25_code, ((some (.object "OrphanTree$Proc")), [])))
def pr_y89 : MethodName := ⟨"OrphanTree$Tree", "nearest", "(LOrphanTree$Proc;LOrphanTree$Proc;)LOrphanTree$Proc;"⟩
def pr_i89 : ev_Im := (pr_y89, (prog_7_method_26_code, ((some (.object "OrphanTree$Proc")), [])))
def pr_y90 : MethodName := ⟨"OrphanTree$Tree", "roomiestFor", "(LOrphanTree$Proc;LOrphanTree$Proc;Z)LOrphanTree$Proc;"⟩
def pr_i90 : ev_Im := (pr_y90, (prog_7_method_27_code, ((some (.object "OrphanTree$Proc")), [])))
def pr_y91 : MethodName := ⟨"OrphanTree$Tree", "firstKin", "(LOrphanTree$Proc;LOrphanTree$Proc;)LOrphanTree$Proc;"⟩
def pr_i91 : ev_Im := (pr_y91, (prog_7_method_28_code, ((some (.object "OrphanTree$Proc")), [])))
def pr_y92 : MethodName := ⟨"OrphanTree$Tree", "oldest", "(LOrphanTree$Proc;LOrphanTree$Proc;)LOrphanTree$Proc;"⟩
def pr_i92 : ev_Im := (pr_y92, (prog_7_method_29_code, ((some (.object "OrphanTree$Proc")), [])))
def pr_y93 : MethodName := ⟨"OrphanTree$Tree", "canAdopt", "(LOrphanTree$Proc;LOrphanTree$Proc;)Z"⟩
def pr_i93 : ev_Im := (pr_y93, (prog_7_method_30_code, ((some .boolean), [])))
def pr_y94 : MethodName := ⟨"OrphanTree$Tree", "killGroup", "(II)I"⟩
def pr_i94 : ev_Im := (pr_y94, (prog_7_method_31_code, ((some .int), [])))
def pr_y95 : MethodName := ⟨"OrphanTree$Tree", "loseGroup", "(LOrphanTree$Proc;I)I"⟩
def pr_i95 : ev_Im := (pr_y95, (prog_7_method_32_code, ((some .int), [])))
def pr_y96 : MethodName := ⟨"OrphanTree$Tree", "loseSurplus", "(LOrphanTree$Proc;)I"⟩
def pr_i96 : ev_Im := (pr_y96, (prog_7_method_33_code, ((some .int), [])))
def pr_y97 : MethodName := ⟨"OrphanTree$Tree", "readZombiesOf", "(LOrphanTree$Proc;)I"⟩
def pr_i97 : ev_Im := (pr_y97, (prog_7_method_34_code, ((some .int), [])))
def pr_y117 : MethodName := ⟨"java/lang/Integer", "bitCount", "(I)I"⟩
def pr_i117 : ev_Im := (pr_y117, (prog_21_method_49_code, ((some .int), [])))
def pr_id : ev_Im := (⟨"", "", ""⟩, (⟨#[]⟩, (none, [])))
noncomputable def ev_it (n : Nat) (f g : Nat → ev_Im) : Nat → ev_Im := fun i => Bool.rec (motive := fun _ => ev_Im) (g i) (f i) (Nat.ble i n)
noncomputable def pr_jf (n : Nat) (x : ev_Im) : Nat → ev_Im := fun i => Bool.rec (motive := fun _ => ev_Im) pr_id x (Nat.beq i n)
noncomputable def pr_I : Nat → ev_Im := (ev_it 49 (ev_it 24 (ev_it 12 (ev_it 6 (ev_it 3 (ev_it 1 (ev_it 0 (pr_jf 0 pr_i0) (pr_jf 1 pr_i1)) (ev_it 2 (pr_jf 2 pr_i2) (pr_jf 3 pr_i3))) (ev_it 5 (ev_it 4 (pr_jf 4 pr_i4) (pr_jf 5 pr_i5)) (pr_jf 6 pr_i6))) (ev_it 9 (ev_it 8 (ev_it 7 (pr_jf 7 pr_i7) (pr_jf 8 pr_i8)) (pr_jf 9 pr_i9)) (ev_it 11 (ev_it 10 (pr_jf 10 pr_i10) (pr_jf 11 pr_i11)) (pr_jf 12 pr_i12)))) (ev_it 18 (ev_it 15 (ev_it 14 (ev_it 13 (pr_jf 13 pr_i13) (pr_jf 14 pr_i14)) (pr_jf 15 pr_i15)) (ev_it 17 (ev_it 16 (pr_jf 16 pr_i16) (pr_jf 17 pr_i17)) (pr_jf 18 pr_i18))) (ev_it 21 (ev_it 20 (ev_it 19 (pr_jf 19 pr_i19) (pr_jf 20 pr_i20)) (pr_jf 21 pr_i21)) (ev_it 23 (ev_it 22 (pr_jf 22 pr_i22) (pr_jf 23 pr_i23)) (pr_jf 24 pr_i24))))) (ev_it 37 (ev_it 31 (ev_it 28 (ev_it 26 (ev_it 25 (pr_jf 25 pr_i25) (pr_jf 26 pr_i26)) (ev_it 27 (pr_jf 27 pr_i27) (pr_jf 28 pr_i28))) (ev_it 30 (ev_it 29 (pr_jf 29 pr_i29) (pr_jf 30 pr_i30)) (pr_jf 31 pr_i31))) (ev_it 34 (ev_it 33 (ev_it 32 (pr_jf 32 pr_i32) (pr_jf 33 pr_i33)) (pr_jf 34 pr_i34)) (ev_it 36 (ev_it 35 (pr_jf 35 pr_i35) (pr_jf 36 pr_i36)) (pr_jf 37 pr_i37)))) (ev_it 43 (ev_it 40 (ev_it 39 (ev_it 38 (pr_jf 38 pr_i38) (pr_jf 39 pr_i39)) (pr_jf 40 pr_i40)) (ev_it 42 (ev_it 41 (pr_jf 41 pr_i41) (pr_jf 42 pr_i42)) (pr_jf 43 pr_i43))) (ev_it 46 (ev_it 45 (ev_it 44 (pr_jf 44 pr_i44) (pr_jf 45 pr_i45)) (pr_jf 46 pr_i46)) (ev_it 48 (ev_it 47 (pr_jf 47 pr_i47) (pr_jf 48 pr_i48)) (pr_jf 49 pr_i49)))))) (ev_it 74 (ev_it 62 (ev_it 56 (ev_it 53 (ev_it 51 (ev_it 50 (pr_jf 50 pr_i50) (pr_jf 51 pr_i51)) (ev_it 52 (pr_jf 52 pr_i52) (pr_jf 53 pr_i53))) (ev_it 55 (ev_it 54 (pr_jf 54 pr_i54) (pr_jf 55 pr_i55)) (pr_jf 56 pr_i56))) (ev_it 59 (ev_it 58 (ev_it 57 (pr_jf 57 pr_i57) (pr_jf 58 pr_i58)) (pr_jf 59 pr_i59)) (ev_it 61 (ev_it 60 (pr_jf 60 pr_i60) (pr_jf 61 pr_i61)) (pr_jf 62 pr_i62)))) (ev_it 68 (ev_it 65 (ev_it 64 (ev_it 63 (pr_jf 63 pr_i63) (pr_jf 64 pr_i64)) (pr_jf 65 pr_i65)) (ev_it 67 (ev_it 66 (pr_jf 66 pr_i66) (pr_jf 67 pr_i67)) (pr_jf 68 pr_i68))) (ev_it 71 (ev_it 70 (ev_it 69 (pr_jf 69 pr_i69) (pr_jf 70 pr_i70)) (pr_jf 71 pr_i71)) (ev_it 73 (ev_it 72 (pr_jf 72 pr_i72) (pr_jf 73 pr_i73)) (pr_jf 74 pr_i74))))) (ev_it 86 (ev_it 80 (ev_it 77 (ev_it 76 (ev_it 75 (pr_jf 75 pr_i75) (pr_jf 76 pr_i76)) (pr_jf 77 pr_i77)) (ev_it 79 (ev_it 78 (pr_jf 78 pr_i78) (pr_jf 79 pr_i79)) (pr_jf 80 pr_i80))) (ev_it 83 (ev_it 82 (ev_it 81 (pr_jf 81 pr_i81) (pr_jf 82 pr_i82)) (pr_jf 83 pr_i83)) (ev_it 85 (ev_it 84 (pr_jf 84 pr_i84) (pr_jf 85 pr_i85)) (pr_jf 86 pr_i86)))) (ev_it 92 (ev_it 89 (ev_it 88 (ev_it 87 (pr_jf 87 pr_i87) (pr_jf 88 pr_i88)) (pr_jf 89 pr_i89)) (ev_it 91 (ev_it 90 (pr_jf 90 pr_i90) (pr_jf 91 pr_i91)) (pr_jf 92 pr_i92))) (ev_it 95 (ev_it 94 (ev_it 93 (pr_jf 93 pr_i93) (pr_jf 94 pr_i94)) (pr_jf 95 pr_i95)) (ev_it 97 (ev_it 96 (pr_jf 96 pr_i96) (pr_jf 97 pr_i97)) (pr_jf 117 pr_i117)))))))
def pr_S : List (String × (Nat × String)) := [("OrphanTree", (120, "no such number")), ("OrphanTree", (177, "no such property")), ("OrphanTree", (272, "its own heir")), ("OrphanTree", (345, "no such process")), ("OrphanTree", (348, "out of range")), ("OrphanTree", (352, "the tree does not let it"))]
theorem qI_0 : pr_I 0 = pr_i0 := rfl
theorem qI_1 : pr_I 1 = pr_i1 := rfl
theorem qI_2 : pr_I 2 = pr_i2 := rfl
theorem qI_3 : pr_I 3 = pr_i3 := rfl
theorem qI_4 : pr_I 4 = pr_i4 := rfl
theorem qI_5 : pr_I 5 = pr_i5 := rfl
theorem qI_6 : pr_I 6 = pr_i6 := rfl
theorem qI_7 : pr_I 7 = pr_i7 := rfl
theorem qI_8 : pr_I 8 = pr_i8 := rfl
theorem qI_9 : pr_I 9 = pr_i9 := rfl
theorem qI_10 : pr_I 10 = pr_i10 := rfl
theorem qI_11 : pr_I 11 = pr_i11 := rfl
theorem qI_12 : pr_I 12 = pr_i12 := rfl
theorem qI_13 : pr_I 13 = pr_i13 := rfl
theorem qI_14 : pr_I 14 = pr_i14 := rfl
theorem qI_15 : pr_I 15 = pr_i15 := rfl
theorem qI_16 : pr_I 16 = pr_i16 := rfl
theorem qI_17 : pr_I 17 = pr_i17 := rfl
theorem qI_18 : pr_I 18 = pr_i18 := rfl
theorem qI_19 : pr_I 19 = pr_i19 := rfl
theorem qI_20 : pr_I 20 = pr_i20 := rfl
theorem qI_21 : pr_I 21 = pr_i21 := rfl
theorem qI_22 : pr_I 22 = pr_i22 := rfl
theorem qI_23 : pr_I 23 = pr_i23 := rfl
theorem qI_24 : pr_I 24 = pr_i24 := rfl
theorem qI_25 : pr_I 25 = pr_i25 := rfl
theorem qI_26 : pr_I 26 = pr_i26 := rfl
theorem qI_27 : pr_I 27 = pr_i27 := rfl
theorem qI_28 : pr_I 28 = pr_i28 := rfl
theorem qI_29 : pr_I 29 = pr_i29 := rfl
theorem qI_30 : pr_I 30 = pr_i30 := rfl
theorem qI_31 : pr_I 31 = pr_i31 := rfl
theorem qI_32 : pr_I 32 = pr_i32 := rfl
theorem qI_33 : pr_I 33 = pr_i33 := rfl
theorem qI_34 : pr_I 34 = pr_i34 := rfl
theorem qI_35 : pr_I 35 = pr_i35 := rfl
theorem qI_36 : pr_I 36 = pr_i36 := rfl
theorem qI_37 : pr_I 37 = pr_i37 := rfl
theorem qI_38 : pr_I 38 = pr_i38 := rfl
theorem qI_39 : pr_I 39 = pr_i39 := rfl
theorem qI_40 : pr_I 40 = pr_i40 := rfl
theorem qI_41 : pr_I 41 = pr_i41 := rfl
theorem qI_42 : pr_I 42 = pr_i42 := rfl
theorem qI_43 : pr_I 43 = pr_i43 := rfl
theorem qI_44 : pr_I 44 = pr_i44 := rfl
theorem qI_45 : pr_I 45 = pr_i45 := rfl
theorem qI_46 : pr_I 46 = pr_i46 := rfl
theorem qI_47 : pr_I 47 = pr_i47 := rfl
theorem qI_48 : pr_I 48 = pr_i48 := rfl
theorem qI_49 : pr_I 49 = pr_i49 := rfl
theorem qI_50 : pr_I 50 = pr_i50 := rfl
theorem qI_51 : pr_I 51 = pr_i51 := rfl
theorem qI_52 : pr_I 52 = pr_i52 := rfl
theorem qI_53 : pr_I 53 = pr_i53 := rfl
theorem qI_54 : pr_I 54 = pr_i54 := rfl
theorem qI_55 : pr_I 55 = pr_i55 := rfl
theorem qI_56 : pr_I 56 = pr_i56 := rfl
theorem qI_57 : pr_I 57 = pr_i57 := rfl
theorem qI_58 : pr_I 58 = pr_i58 := rfl
theorem qI_59 : pr_I 59 = pr_i59 := rfl
theorem qI_60 : pr_I 60 = pr_i60 := rfl
theorem qI_61 : pr_I 61 = pr_i61 := rfl
theorem qI_62 : pr_I 62 = pr_i62 := rfl
theorem qI_63 : pr_I 63 = pr_i63 := rfl
theorem qI_64 : pr_I 64 = pr_i64 := rfl
theorem qI_65 : pr_I 65 = pr_i65 := rfl
theorem qI_66 : pr_I 66 = pr_i66 := rfl
theorem qI_67 : pr_I 67 = pr_i67 := rfl
theorem qI_68 : pr_I 68 = pr_i68 := rfl
theorem qI_69 : pr_I 69 = pr_i69 := rfl
theorem qI_70 : pr_I 70 = pr_i70 := rfl
theorem qI_71 : pr_I 71 = pr_i71 := rfl
theorem qI_72 : pr_I 72 = pr_i72 := rfl
theorem qI_73 : pr_I 73 = pr_i73 := rfl
theorem qI_74 : pr_I 74 = pr_i74 := rfl
theorem qI_75 : pr_I 75 = pr_i75 := rfl
theorem qI_76 : pr_I 76 = pr_i76 := rfl
theorem qI_77 : pr_I 77 = pr_i77 := rfl
theorem qI_78 : pr_I 78 = pr_i78 := rfl
theorem qI_79 : pr_I 79 = pr_i79 := rfl
theorem qI_80 : pr_I 80 = pr_i80 := rfl
theorem qI_81 : pr_I 81 = pr_i81 := rfl
theorem qI_82 : pr_I 82 = pr_i82 := rfl
theorem qI_83 : pr_I 83 = pr_i83 := rfl
theorem qI_84 : pr_I 84 = pr_i84 := rfl
theorem qI_85 : pr_I 85 = pr_i85 := rfl
theorem qI_86 : pr_I 86 = pr_i86 := rfl
theorem qI_87 : pr_I 87 = pr_i87 := rfl
theorem qI_88 : pr_I 88 = pr_i88 := rfl
theorem qI_89 : pr_I 89 = pr_i89 := rfl
theorem qI_90 : pr_I 90 = pr_i90 := rfl
theorem qI_91 : pr_I 91 = pr_i91 := rfl
theorem qI_92 : pr_I 92 = pr_i92 := rfl
theorem qI_93 : pr_I 93 = pr_i93 := rfl
theorem qI_94 : pr_I 94 = pr_i94 := rfl
theorem qI_95 : pr_I 95 = pr_i95 := rfl
theorem qI_96 : pr_I 96 = pr_i96 := rfl
theorem qI_97 : pr_I 97 = pr_i97 := rfl
theorem qI_117 : pr_I 117 = pr_i117 := rfl
theorem qP_0 : pr_P 0 = pr_m0 := rfl
theorem qP_1 : pr_P 1 = pr_m1 := rfl
theorem qP_2 : pr_P 2 = pr_m2 := rfl
theorem qP_3 : pr_P 3 = pr_m3 := rfl
theorem qP_4 : pr_P 4 = pr_m4 := rfl
theorem qP_5 : pr_P 5 = pr_m5 := rfl
theorem qP_6 : pr_P 6 = pr_m6 := rfl
theorem qP_7 : pr_P 7 = pr_m7 := rfl
theorem qP_8 : pr_P 8 = pr_m8 := rfl
theorem qP_9 : pr_P 9 = pr_m9 := rfl
theorem qP_10 : pr_P 10 = pr_m10 := rfl
theorem qP_11 : pr_P 11 = pr_m11 := rfl
theorem qP_12 : pr_P 12 = pr_m12 := rfl
theorem qP_13 : pr_P 13 = pr_m13 := rfl
theorem qP_14 : pr_P 14 = pr_m14 := rfl
theorem qP_15 : pr_P 15 = pr_m15 := rfl
theorem qP_16 : pr_P 16 = pr_m16 := rfl
theorem qP_17 : pr_P 17 = pr_m17 := rfl
theorem qP_18 : pr_P 18 = pr_m18 := rfl
theorem qP_19 : pr_P 19 = pr_m19 := rfl
theorem qP_20 : pr_P 20 = pr_m20 := rfl
theorem qP_21 : pr_P 21 = pr_m21 := rfl
theorem qP_22 : pr_P 22 = pr_m22 := rfl
theorem qP_23 : pr_P 23 = pr_m23 := rfl
theorem qP_24 : pr_P 24 = pr_m24 := rfl
theorem qP_25 : pr_P 25 = pr_m25 := rfl
theorem qP_26 : pr_P 26 = pr_m26 := rfl
theorem qP_27 : pr_P 27 = pr_m27 := rfl
theorem qP_28 : pr_P 28 = pr_m28 := rfl
theorem qP_29 : pr_P 29 = pr_m29 := rfl
theorem qP_30 : pr_P 30 = pr_m30 := rfl
theorem qP_31 : pr_P 31 = pr_m31 := rfl
theorem qP_32 : pr_P 32 = pr_m32 := rfl
theorem qP_33 : pr_P 33 = pr_m33 := rfl
theorem qP_34 : pr_P 34 = pr_m34 := rfl
theorem qP_35 : pr_P 35 = pr_m35 := rfl
theorem qP_36 : pr_P 36 = pr_m36 := rfl
theorem qP_37 : pr_P 37 = pr_m37 := rfl
theorem qP_38 : pr_P 38 = pr_m38 := rfl
theorem qP_39 : pr_P 39 = pr_m39 := rfl
theorem qP_40 : pr_P 40 = pr_m40 := rfl
theorem qP_41 : pr_P 41 = pr_m41 := rfl
theorem qP_42 : pr_P 42 = pr_m42 := rfl
theorem qP_43 : pr_P 43 = pr_m43 := rfl
theorem qP_44 : pr_P 44 = pr_m44 := rfl
theorem qP_45 : pr_P 45 = pr_m45 := rfl
theorem qP_46 : pr_P 46 = pr_m46 := rfl
theorem qP_47 : pr_P 47 = pr_m47 := rfl
theorem qP_48 : pr_P 48 = pr_m48 := rfl
theorem qP_49 : pr_P 49 = pr_m49 := rfl
theorem qP_50 : pr_P 50 = pr_m50 := rfl
theorem qP_51 : pr_P 51 = pr_m51 := rfl
theorem qP_52 : pr_P 52 = pr_m52 := rfl
theorem qP_53 : pr_P 53 = pr_m53 := rfl
theorem qP_54 : pr_P 54 = pr_m54 := rfl
theorem qP_55 : pr_P 55 = pr_m55 := rfl
theorem qP_56 : pr_P 56 = pr_m56 := rfl
theorem qP_57 : pr_P 57 = pr_m57 := rfl
theorem qP_58 : pr_P 58 = pr_m58 := rfl
theorem qP_59 : pr_P 59 = pr_m59 := rfl
theorem qP_60 : pr_P 60 = pr_m60 := rfl
theorem qP_61 : pr_P 61 = pr_m61 := rfl
theorem qP_62 : pr_P 62 = pr_m62 := rfl
theorem qP_63 : pr_P 63 = pr_m63 := rfl
theorem qP_64 : pr_P 64 = pr_m64 := rfl
theorem qP_65 : pr_P 65 = pr_m65 := rfl
theorem qP_66 : pr_P 66 = pr_m66 := rfl
theorem qP_67 : pr_P 67 = pr_m67 := rfl
theorem qP_68 : pr_P 68 = pr_m68 := rfl
theorem qP_69 : pr_P 69 = pr_m69 := rfl
theorem qP_70 : pr_P 70 = pr_m70 := rfl
theorem qP_71 : pr_P 71 = pr_m71 := rfl
theorem qP_72 : pr_P 72 = pr_m72 := rfl
theorem qP_73 : pr_P 73 = pr_m73 := rfl
theorem qP_74 : pr_P 74 = pr_m74 := rfl
theorem qP_75 : pr_P 75 = pr_m75 := rfl
theorem qP_76 : pr_P 76 = pr_m76 := rfl
theorem qP_77 : pr_P 77 = pr_m77 := rfl
theorem qP_78 : pr_P 78 = pr_m78 := rfl
theorem qP_79 : pr_P 79 = pr_m79 := rfl
theorem qP_80 : pr_P 80 = pr_m80 := rfl
theorem qP_81 : pr_P 81 = pr_m81 := rfl
theorem qP_82 : pr_P 82 = pr_m82 := rfl
theorem qP_83 : pr_P 83 = pr_m83 := rfl
theorem qP_84 : pr_P 84 = pr_m84 := rfl
theorem qP_85 : pr_P 85 = pr_m85 := rfl
theorem qP_86 : pr_P 86 = pr_m86 := rfl
theorem qP_87 : pr_P 87 = pr_m87 := rfl
theorem qP_88 : pr_P 88 = pr_m88 := rfl
theorem qP_89 : pr_P 89 = pr_m89 := rfl
theorem qP_90 : pr_P 90 = pr_m90 := rfl
theorem qP_91 : pr_P 91 = pr_m91 := rfl
theorem qP_92 : pr_P 92 = pr_m92 := rfl
theorem qP_93 : pr_P 93 = pr_m93 := rfl
theorem qP_94 : pr_P 94 = pr_m94 := rfl
theorem qP_95 : pr_P 95 = pr_m95 := rfl
theorem qP_96 : pr_P 96 = pr_m96 := rfl
theorem qP_97 : pr_P 97 = pr_m97 := rfl
theorem qP_117 : pr_P 117 = pr_m117 := rfl
