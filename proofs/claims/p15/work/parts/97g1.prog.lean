/-! ===== the program's methods as the class files have them; the law up to its loop (own work, by program: wip/p2/gen98.py) ===== -/
def pr_y0 : MethodName := ⟨"OrphanTree", "<init>", "()V"⟩
def pr_i0 : ev_Im := (pr_y0, (prog_1_method_1_code, (none, [])))
def pr_y1 : MethodName := ⟨"OrphanTree", "appendInput", "(IIIII)I"⟩
def pr_i1 : ev_Im := (pr_y1, (prog_1_method_2_code, ((some .int), [])))
def pr_y2 : MethodName := ⟨"OrphanTree", "truncateInput", "(I)Z"⟩
def pr_i2 : ev_Im := (pr_y2, (prog_1_method_3_code, ((some .boolean), [])))
def pr_y3 : MethodName := ⟨"OrphanTree", "loadTree", "()I"⟩
def pr_i3 : ev_Im := (pr_y3, (prog_1_method_4_code, ((some .int), [])))
def pr_y4 : MethodName := ⟨"OrphanTree", "errorCode", "()I"⟩
def pr_i4 : ev_Im := (pr_y4, (prog_1_method_5_code, ((some .int), [])))
def pr_y5 : MethodName := ⟨"OrphanTree", "errorOffset", "()I"⟩
def pr_i5 : ev_Im := (pr_y5, (prog_1_method_6_code, ((some .int), [])))
def pr_y6 : MethodName := ⟨"OrphanTree", "count", "(I)I"⟩
def pr_i6 : ev_Im := (pr_y6, (prog_1_method_7_code, ((some .int), [])))
def pr_y7 : MethodName := ⟨"OrphanTree", "process", "(II)I"⟩
def pr_i7 : ev_Im := (pr_y7, (prog_1_method_8_code, ((some .int), [])))
def pr_y8 : MethodName := ⟨"OrphanTree", "holder", "(I)I"⟩
def pr_i8 : ev_Im := (pr_y8, (prog_1_method_9_code, ((some .int), [])))
def pr_y9 : MethodName := ⟨"OrphanTree", "rule", "(I)I"⟩
def pr_i9 : ev_Im := (pr_y9, (prog_1_method_10_code, ((some .int), [])))
def pr_y10 : MethodName := ⟨"OrphanTree", "depth", "(I)I"⟩
def pr_i10 : ev_Im := (pr_y10, (prog_1_method_11_code, ((some .int), [])))
def pr_y11 : MethodName := ⟨"OrphanTree", "isAbove", "(II)Z"⟩
def pr_i11 : ev_Im := (pr_y11, (prog_1_method_12_code, ((some .boolean), [])))
def pr_y12 : MethodName := ⟨"OrphanTree", "meet", "(II)I"⟩
def pr_i12 : ev_Im := (pr_y12, (prog_1_method_13_code, ((some .int), [])))
def pr_y13 : MethodName := ⟨"OrphanTree", "below", "(I)I"⟩
def pr_i13 : ev_Im := (pr_y13, (prog_1_method_14_code, ((some .int), [])))
def pr_y14 : MethodName := ⟨"OrphanTree", "walked", "(I)I"⟩
def pr_i14 : ev_Im := (pr_y14, (prog_1_method_15_code, ((some .int), [])))
def pr_y15 : MethodName := ⟨"OrphanTree", "atDepth", "(I)I"⟩
def pr_i15 : ev_Im := (pr_y15, (prog_1_method_16_code, ((some .int), [])))
def pr_y16 : MethodName := ⟨"OrphanTree", "height", "()I"⟩
def pr_i16 : ev_Im := (pr_y16, (prog_1_method_17_code, ((some .int), [])))
def pr_y17 : MethodName := ⟨"OrphanTree", "spawn", "(IIII)I"⟩
def pr_i17 : ev_Im := (pr_y17, (prog_1_method_18_code, ((some .int), [])))
def pr_y18 : MethodName := ⟨"OrphanTree", "exit", "(II)I"⟩
def pr_i18 : ev_Im := (pr_y18, (prog_1_method_19_code, ((some .int), [])))
def pr_y19 : MethodName := ⟨"OrphanTree", "kill", "(II)I"⟩
def pr_i19 : ev_Im := (pr_y19, (prog_1_method_20_code, ((some .int), [])))
def pr_y20 : MethodName := ⟨"OrphanTree", "read", "(I)I"⟩
def pr_i20 : ev_Im := (pr_y20, (prog_1_method_21_code, ((some .int), [])))
def pr_y21 : MethodName := ⟨"OrphanTree", "refuse", "(II)I"⟩
def pr_i21 : ev_Im := (pr_y21, (prog_1_method_22_code, ((some .int), [])))
def pr_y22 : MethodName := ⟨"OrphanTree", "accept", "(II)Z"⟩
def pr_i22 : ev_Im := (pr_y22, (prog_1_method_23_code, ((some .boolean), [])))
def pr_y23 : MethodName := ⟨"OrphanTree", "move", "(II)I"⟩
def pr_i23 : ev_Im := (pr_y23, (prog_1_method_24_code, ((some .int), [])))
def pr_y24 : MethodName := ⟨"OrphanTree", "setCapacity", "(II)I"⟩
def pr_i24 : ev_Im := (pr_y24, (prog_1_method_25_code, ((some .int), [])))
def pr_y25 : MethodName := ⟨"OrphanTree", "setBudget", "(II)I"⟩
def pr_i25 : ev_Im := (pr_y25, (prog_1_method_26_code, ((some .int), [])))
def pr_y26 : MethodName := ⟨"OrphanTree", "setHeir", "(II)I"⟩
def pr_i26 : ev_Im := (pr_y26, (prog_1_method_27_code, ((some .int), [])))
def pr_y27 : MethodName := ⟨"OrphanTree", "give", "(II)I"⟩
def pr_i27 : ev_Im := (pr_y27, (prog_1_method_28_code, ((some .int), [])))
def pr_y28 : MethodName := ⟨"OrphanTree", "adopter", "(I)I"⟩
def pr_i28 : ev_Im := (pr_y28, (prog_1_method_29_code, ((some .int), [])))
def pr_y29 : MethodName := ⟨"OrphanTree", "heirNow", "(I)I"⟩
def pr_i29 : ev_Im := (pr_y29, (prog_1_method_30_code, ((some .int), [])))
def pr_y30 : MethodName := ⟨"OrphanTree", "wouldFall", "(II)I"⟩
def pr_i30 : ev_Im := (pr_y30, (prog_1_method_31_code, ((some .int), [])))
def pr_y31 : MethodName := ⟨"OrphanTree", "wouldStand", "(II)I"⟩
def pr_i31 : ev_Im := (pr_y31, (prog_1_method_32_code, ((some .int), [])))
def pr_y32 : MethodName := ⟨"OrphanTree", "wouldHave", "(III)I"⟩
def pr_i32 : ev_Im := (pr_y32, (prog_1_method_33_code, ((some .int), [])))
def pr_y33 : MethodName := ⟨"OrphanTree", "wouldFallBy", "(II)I"⟩
def pr_i33 : ev_Im := (pr_y33, (prog_1_method_34_code, ((some .int), [])))
def pr_y34 : MethodName := ⟨"OrphanTree", "weakest", "(I)I"⟩
def pr_i34 : ev_Im := (pr_y34, (prog_1_method_35_code, ((some .int), [])))
def pr_y35 : MethodName := ⟨"OrphanTree", "roomiest", "(I)I"⟩
def pr_i35 : ev_Im := (pr_y35, (prog_1_method_36_code, ((some .int), [])))
def pr_y36 : MethodName := ⟨"OrphanTree", "allRoom", "()I"⟩
def pr_i36 : ev_Im := (pr_y36, (prog_1_method_37_code, ((some .int), [])))
def pr_y37 : MethodName := ⟨"OrphanTree", "overfull", "()I"⟩
def pr_i37 : ev_Im := (pr_y37, (prog_1_method_38_code, ((some .int), [])))
def pr_y38 : MethodName := ⟨"OrphanTree", "ofGroup", "(I)I"⟩
def pr_i38 : ev_Im := (pr_y38, (prog_1_method_39_code, ((some .int), [])))
def pr_y39 : MethodName := ⟨"OrphanTree", "nextTestament", "(I)I"⟩
def pr_i39 : ev_Im := (pr_y39, (prog_1_method_40_code, ((some .int), [])))
def pr_y40 : MethodName := ⟨"OrphanTree", "exited", "(I)I"⟩
def pr_i40 : ev_Im := (pr_y40, (prog_1_method_41_code, ((some .int), [])))
def pr_y41 : MethodName := ⟨"OrphanTree", "meanDepth", "()D"⟩
def pr_i41 : ev_Im := (pr_y41, (prog_1_method_42_code, ((some .double), [])))
def pr_y42 : MethodName := ⟨"OrphanTree", "rootShare", "()F"⟩
def pr_i42 : ev_Im := (pr_y42, (prog_1_method_43_code, ((some .float), [])))
def pr_y43 : MethodName := ⟨"OrphanTree", "prune", "(II)I"⟩
def pr_i43 : ev_Im := (pr_y43, (prog_1_method_44_code, ((some .int), [])))
def pr_y44 : MethodName := ⟨"OrphanTree", "exchange", "(II)I"⟩
def pr_i44 : ev_Im := (pr_y44, (prog_1_method_45_code, ((some .int), [])))
def pr_y45 : MethodName := ⟨"OrphanTree", "readAll", "(I)I"⟩
def pr_i45 : ev_Im := (pr_y45, (prog_1_method_46_code, ((some .int), [])))
def pr_y46 : MethodName := ⟨"OrphanTree", "testamentsBelow", "(I)I"⟩
def pr_i46 : ev_Im := (pr_y46, (prog_1_method_47_code, ((some .int), [])))
def pr_y47 : MethodName := ⟨"OrphanTree", "roomBelow", "(I)I"⟩
def pr_i47 : ev_Im := (pr_y47, (prog_1_method_48_code, ((some .int), [])))
def pr_y48 : MethodName := ⟨"OrphanTree", "mostAdopted", "()I"⟩
def pr_i48 : ev_Im := (pr_y48, (prog_1_method_49_code, ((some .int), [])))
def pr_y49 : MethodName := ⟨"OrphanTree", "adopters", "(I)I"⟩
def pr_i49 : ev_Im := (pr_y49, (prog_1_method_50_code, ((some .int), [])))
def pr_y50 : MethodName := ⟨"OrphanTree", "betterCode", "(I)I"⟩
def pr_i50 : ev_Im := (pr_y50, (prog_1_method_51_code, ((some .int), [])))
def pr_y51 : MethodName := ⟨"OrphanTree", "wouldRun", "(II)I"⟩
def pr_i51 : ev_Im := (pr_y51, (prog_1_method_52_code, ((some .int), [])))
def pr_y52 : MethodName := ⟨"OrphanTree", "readShare", "()D"⟩
def pr_i52 : ev_Im := (pr_y52, (prog_1_method_53_code, ((some .double), [])))
def pr_y53 : MethodName := ⟨"OrphanTree", "apart", "(II)I"⟩
def pr_i53 : ev_Im := (pr_y53, (prog_1_method_54_code, ((some .int), [])))
def pr_y54 : MethodName := ⟨"OrphanTree", "relieve", "(I)I"⟩
def pr_i54 : ev_Im := (pr_y54, (prog_1_method_55_code, ((some .int), [])))
def pr_y55 : MethodName := ⟨"OrphanTree", "wouldHold", "(III)I"⟩
def pr_i55 : ev_Im := (pr_y55, (prog_1_method_56_code, ((some .int), [])))
def pr_y56 : MethodName := ⟨"OrphanTree", "dutyLife", "(I)I"⟩
def pr_i56 : ev_Im := (pr_y56, (prog_1_method_57_code, ((some .int), [])))
def pr_y57 : MethodName := ⟨"OrphanTree", "heaviest", "(I)I"⟩
def pr_i57 : ev_Im := (pr_y57, (prog_1_method_58_code, ((some .int), [])))
def pr_y58 : MethodName := ⟨"OrphanTree", "groupsBelow", "(I)I"⟩
def pr_i58 : ev_Im := (pr_y58, (prog_1_method_59_code, ((some .int), [])))
def pr_y59 : MethodName := ⟨"OrphanTree", "strangers", "(I)I"⟩
def pr_i59 : ev_Im := (pr_y59, (prog_1_method_60_code, ((some .int), [])))
def pr_y60 : MethodName := ⟨"OrphanTree", "print", "(II)I"⟩
def pr_i60 : ev_Im := (pr_y60, (prog_1_method_61_code, ((some .int), [])))
def pr_y61 : MethodName := ⟨"OrphanTree", "outputByte", "(I)I"⟩
def pr_i61 : ev_Im := (pr_y61, (prog_1_method_62_code, ((some .int), [])))
def pr_y62 : MethodName := ⟨"OrphanTree", "undo", "()I"⟩
def pr_i62 : ev_Im := (pr_y62, (prog_1_method_63_code, ((some .int), [])))
def pr_y63 : MethodName := ⟨"OrphanTree", "saveState", "()I"⟩
def pr_i63 : ev_Im := (pr_y63, (prog_1_method_64_code, ((some .int), [])))
def pr_y64 : MethodName := ⟨"OrphanTree", "restoreState", "()I"⟩
def pr_i64 : ev_Im := (pr_y64, (prog_1_method_65_code, ((some .int), [])))
def pr_y65 : MethodName := ⟨"OrphanTree", "named", "(I)LOrphanTree$Proc;"⟩
def pr_i65 : ev_Im := (pr_y65, (prog_1_method_66_code, ((some (.object "OrphanTree$Proc")), [])))
def pr_y66 : MethodName := ⟨"OrphanTree", "checkRange", "(II)V"⟩
def pr_i66 : ev_Im := (pr_y66, (prog_1_method_67_code, (none, [])))
def pr_y67 : MethodName := ⟨"OrphanTree", "checkState", "(Z)V"⟩
def pr_i67 : ev_Im := (pr_y67, (prog_1_method_68_code, (none, [])))
def pr_y68 : MethodName := ⟨"OrphanTree", "numberOf", "(LOrphanTree$Proc;)I"⟩
def pr_i68 : ev_Im := (pr_y68, (prog_1_method_69_code, ((some .int), [])))
def pr_y69 : MethodName := ⟨"OrphanTree", "namedForExit", "(II)LOrphanTree$Proc;"⟩
def pr_i69 : ev_Im := (pr_y69, (prog_1_method_70_code, ((some (.object "OrphanTree$Proc")), [])))
def pr_y70 : MethodName := ⟨"OrphanTree", "checkKill", "(II)V"⟩
def pr_i70 : ev_Im := (pr_y70, (prog_1_method_71_code, (none, [])))
def pr_y71 : MethodName := ⟨"OrphanTree", "exitOfCopy", "(II)I"⟩
def pr_i71 : ev_Im := (pr_y71, (prog_1_method_72_code, ((some .int), [])))
def pr_y72 : MethodName := ⟨"OrphanTree", "putBranch", "(LOrphanTree$Output;LOrphanTree$Tree;LOrphanTree$Proc;I)V"⟩
def pr_i72 : ev_Im := (pr_y72, (prog_1_method_73_code, (none, [])))
def pr_y73 : MethodName := ⟨"OrphanTreeModel", "<init>", "()V"⟩
def pr_i73 : ev_Im := (pr_y73, (prog_9_method_1_code, (none, [])))
def pr_y74 : MethodName := ⟨"OrphanTreeModel", "thrown", "()I"⟩
def pr_i74 : ev_Im := (pr_y74, (prog_9_method_2_code, ((some .int), [])))
def pr_y75 : MethodName := ⟨"OrphanTreeModel", "inRange", "(III)Z"⟩
def pr_i75 : ev_Im := (pr_y75, (prog_9_method_3_code, ((some .boolean), [])))
def pr_y76 : MethodName := ⟨"OrphanTreeModel", "fails", "(ZI)Z"⟩
def pr_i76 : ev_Im := (pr_y76, (prog_9_method_4_code, ((some .boolean), [])))
def pr_y77 : MethodName := ⟨"OrphanTreeModel", "copies", "([II[III)V"⟩
def pr_i77 : ev_Im := (pr_y77, (prog_9_method_5_code, (none, [])))
def pr_y78 : MethodName := ⟨"OrphanTreeModel", "clear", "()V"⟩
def pr_i78 : ev_Im := (pr_y78, (prog_9_method_6_code, (none, [])))
def pr_y79 : MethodName := ⟨"OrphanTreeModel", "comes", "(IIII)I"⟩
def pr_i79 : ev_Im := (pr_y79, (prog_9_method_7_code, ((some .int), [])))
def pr_y80 : MethodName := ⟨"OrphanTreeModel", "remembers", "()V"⟩
def pr_i80 : ev_Im := (pr_y80, (prog_9_method_8_code, (none, [])))
def pr_y81 : MethodName := ⟨"OrphanTreeModel", "begins", "()V"⟩
def pr_i81 : ev_Im := (pr_y81, (prog_9_method_9_code, (none, [])))
def pr_y82 : MethodName := ⟨"OrphanTreeModel", "ends", "()V"⟩
def pr_i82 : ev_Im := (pr_y82, (prog_9_method_10_code, (none, [])))
def pr_y83 : MethodName := ⟨"OrphanTreeModel", "runs", "(I)Z"⟩
def pr_i83 : ev_Im := (pr_y83, (prog_9_method_11_code, ((some .boolean), [])))
def pr_y84 : MethodName := ⟨"OrphanTreeModel", "isChild", "(III)Z"⟩
def pr_i84 : ev_Im := (pr_y84, (prog_9_method_12_code, ((some .boolean), [])))
def pr_y85 : MethodName := ⟨"OrphanTreeModel", "childrenOf", "(II)I"⟩
def pr_i85 : ev_Im := (pr_y85, (prog_9_method_13_code, ((some .int), [])))
def pr_y86 : MethodName := ⟨"OrphanTreeModel", "roomOf", "(I)I"⟩
def pr_i86 : ev_Im := (pr_y86, (prog_9_method_14_code, ((some .int), [])))
def pr_y87 : MethodName := ⟨"OrphanTreeModel", "refusesGroup", "(II)Z"⟩
def pr_i87 : ev_Im := (pr_y87, (prog_9_method_15_code, ((some .boolean), [])))
def pr_y88 : MethodName := ⟨"OrphanTreeModel", "isOver", "(II)Z"⟩
def pr_i88 : ev_Im := (pr_y88, (prog_9_method_16_code, ((some .boolean), [])))
def pr_y89 : MethodName := ⟨"OrphanTreeModel", "deep", "(I)I"⟩
def pr_i89 : ev_Im := (pr_y89, (prog_9_method_17_code, ((some .int), [])))
def pr_y90 : MethodName := ⟨"OrphanTreeModel", "runningMany", "()I"⟩
def pr_i90 : ev_Im := (pr_y90, (prog_9_method_18_code, ((some .int), [])))
def pr_y91 : MethodName := ⟨"OrphanTreeModel", "canAdopt", "(II)Z"⟩
def pr_i91 : ev_Im := (pr_y91, (prog_9_method_19_code, ((some .boolean), [])))
def pr_y92 : MethodName := ⟨"OrphanTreeModel", "nearest", "(II)I"⟩
def pr_i92 : ev_Im := (pr_y92, (prog_9_method_20_code, ((some .int), [])))
def pr_y93 : MethodName := ⟨"OrphanTreeModel", "roomiestFor", "(IIZ)I"⟩
def pr_i93 : ev_Im := (pr_y93, (prog_9_method_21_code, ((some .int), [])))
def pr_y94 : MethodName := ⟨"OrphanTreeModel", "kinOf", "(II)I"⟩
def pr_i94 : ev_Im := (pr_y94, (prog_9_method_22_code, ((some .int), [])))
def pr_y95 : MethodName := ⟨"OrphanTreeModel", "oldest", "(II)I"⟩
def pr_i95 : ev_Im := (pr_y95, (prog_9_method_23_code, ((some .int), [])))
def pr_y96 : MethodName := ⟨"OrphanTreeModel", "findsBy", "(III)I"⟩
def pr_i96 : ev_Im := (pr_y96, (prog_9_method_24_code, ((some .int), [])))
def pr_y97 : MethodName := ⟨"OrphanTreeModel", "adopterOf", "(II)I"⟩
def pr_i97 : ev_Im := (pr_y97, (prog_9_method_25_code, ((some .int), [])))
def pr_y98 : MethodName := ⟨"OrphanTreeModel", "adopts", "(II)V"⟩
def pr_i98 : ev_Im := (pr_y98, (prog_9_method_26_code, (none, [])))
def pr_y99 : MethodName := ⟨"OrphanTreeModel", "replaces", "(II)I"⟩
def pr_i99 : ev_Im := (pr_y99, (prog_9_method_27_code, ((some .int), [])))
def pr_y100 : MethodName := ⟨"OrphanTreeModel", "heirOf", "(II)I"⟩
def pr_i100 : ev_Im := (pr_y100, (prog_9_method_28_code, ((some .int), [])))
def pr_y101 : MethodName := ⟨"OrphanTreeModel", "inheritor", "(I)I"⟩
def pr_i101 : ev_Im := (pr_y101, (prog_9_method_29_code, ((some .int), [])))
def pr_y102 : MethodName := ⟨"OrphanTreeModel", "firstZombie", "(I)I"⟩
def pr_i102 : ev_Im := (pr_y102, (prog_9_method_30_code, ((some .int), [])))
def pr_y103 : MethodName := ⟨"OrphanTreeModel", "readsAll", "(I)I"⟩
def pr_i103 : ev_Im := (pr_y103, (prog_9_method_31_code, ((some .int), [])))
def pr_y104 : MethodName := ⟨"OrphanTreeModel", "exits", "(II)I"⟩
def pr_i104 : ev_Im := (pr_y104, (prog_9_method_32_code, ((some .int), [])))
def pr_y105 : MethodName := ⟨"OrphanTreeModel", "kills", "(II)I"⟩
def pr_i105 : ev_Im := (pr_y105, (prog_9_method_33_code, ((some .int), [])))
def pr_y106 : MethodName := ⟨"OrphanTreeModel", "appendWord", "(I)V"⟩
def pr_i106 : ev_Im := (pr_y106, (prog_9_method_34_code, (none, [])))
def pr_y107 : MethodName := ⟨"OrphanTreeModel", "appendInput", "(IIIII)I"⟩
def pr_i107 : ev_Im := (pr_y107, (prog_9_method_35_code, ((some .int), [])))
def pr_y108 : MethodName := ⟨"OrphanTreeModel", "truncateInput", "(I)Z"⟩
def pr_i108 : ev_Im := (pr_y108, (prog_9_method_36_code, ((some .boolean), [])))
def pr_y109 : MethodName := ⟨"OrphanTreeModel", "byteAt", "(I)I"⟩
def pr_i109 : ev_Im := (pr_y109, (prog_9_method_37_code, ((some .int), [])))
def pr_y110 : MethodName := ⟨"OrphanTreeModel", "advanceToken", "()V"⟩
def pr_i110 : ev_Im := (pr_y110, (prog_9_method_38_code, (none, [])))
def pr_y111 : MethodName := ⟨"OrphanTreeModel", "tokenLength", "()I"⟩
def pr_i111 : ev_Im := (pr_y111, (prog_9_method_39_code, ((some .int), [])))
def pr_y112 : MethodName := ⟨"OrphanTreeModel", "failsAt", "(I)Z"⟩
def pr_i112 : ev_Im := (pr_y112, (prog_9_method_40_code, ((some .boolean), [])))
def pr_y113 : MethodName := ⟨"OrphanTreeModel", "isWord", "(Ljava/lang/String;)Z"⟩
def pr_i113 : ev_Im := (pr_y113, (prog_9_method_41_code, ((some .boolean), [])))
def pr_y114 : MethodName := ⟨"OrphanTreeModel", "isNumber", "(II)Z"⟩
def pr_i114 : ev_Im := (pr_y114, (prog_9_method_42_code, ((some .boolean), [])))
def pr_y115 : MethodName := ⟨"OrphanTreeModel", "takes", "(III)Z"⟩
def pr_i115 : ev_Im := (pr_y115, (prog_9_method_43_code, ((some .boolean), [])))
def pr_y116 : MethodName := ⟨"OrphanTreeModel", "startsOnce", "(I)Z"⟩
def pr_i116 : ev_Im := (pr_y116, (prog_9_method_44_code, ((some .boolean), [])))
def pr_y117 : MethodName := ⟨"OrphanTreeModel", "ruleHere", "()I"⟩
def pr_i117 : ev_Im := (pr_y117, (prog_9_method_45_code, ((some .int), [])))
def pr_y118 : MethodName := ⟨"OrphanTreeModel", "readDeep", "()Z"⟩
def pr_i118 : ev_Im := (pr_y118, (prog_9_method_46_code, ((some .boolean), [])))
def pr_y119 : MethodName := ⟨"OrphanTreeModel", "readRoot", "()Z"⟩
def pr_i119 : ev_Im := (pr_y119, (prog_9_method_47_code, ((some .boolean), [])))
def pr_y120 : MethodName := ⟨"OrphanTreeModel", "readWill", "()Z"⟩
def pr_i120 : ev_Im := (pr_y120, (prog_9_method_48_code, ((some .boolean), [])))
def pr_y121 : MethodName := ⟨"OrphanTreeModel", "readOrder", "()Z"⟩
def pr_i121 : ev_Im := (pr_y121, (prog_9_method_49_code, ((some .boolean), [])))
def pr_y122 : MethodName := ⟨"OrphanTreeModel", "readProcess", "()Z"⟩
def pr_i122 : ev_Im := (pr_y122, (prog_9_method_50_code, ((some .boolean), [])))
def pr_y123 : MethodName := ⟨"OrphanTreeModel", "readHeir", "()Z"⟩
def pr_i123 : ev_Im := (pr_y123, (prog_9_method_51_code, ((some .boolean), [])))
def pr_y124 : MethodName := ⟨"OrphanTreeModel", "readDuty", "()Z"⟩
def pr_i124 : ev_Im := (pr_y124, (prog_9_method_52_code, ((some .boolean), [])))
def pr_y125 : MethodName := ⟨"OrphanTreeModel", "readRefusal", "()Z"⟩
def pr_i125 : ev_Im := (pr_y125, (prog_9_method_53_code, ((some .boolean), [])))
def pr_y126 : MethodName := ⟨"OrphanTreeModel", "readStatement", "()Z"⟩
def pr_i126 : ev_Im := (pr_y126, (prog_9_method_54_code, ((some .boolean), [])))
def pr_y127 : MethodName := ⟨"OrphanTreeModel", "readText", "()Z"⟩
def pr_i127 : ev_Im := (pr_y127, (prog_9_method_55_code, ((some .boolean), [])))
def pr_y128 : MethodName := ⟨"OrphanTreeModel", "loadTree", "()I"⟩
def pr_i128 : ev_Im := (pr_y128, (prog_9_method_56_code, ((some .int), [])))
def pr_y129 : MethodName := ⟨"OrphanTreeModel", "errorCode", "()I"⟩
def pr_i129 : ev_Im := (pr_y129, (prog_9_method_57_code, ((some .int), [])))
def pr_y130 : MethodName := ⟨"OrphanTreeModel", "errorOffset", "()I"⟩
def pr_i130 : ev_Im := (pr_y130, (prog_9_method_58_code, ((some .int), [])))
def pr_y131 : MethodName := ⟨"OrphanTreeModel", "inState", "(I)I"⟩
def pr_i131 : ev_Im := (pr_y131, (prog_9_method_59_code, ((some .int), [])))
def pr_y132 : MethodName := ⟨"OrphanTreeModel", "dutiesOf", "(I)I"⟩
def pr_i132 : ev_Im := (pr_y132, (prog_9_method_60_code, ((some .int), [])))
def pr_y133 : MethodName := ⟨"OrphanTreeModel", "willsOf", "(I)I"⟩
def pr_i133 : ev_Im := (pr_y133, (prog_9_method_61_code, ((some .int), [])))
def pr_y134 : MethodName := ⟨"OrphanTreeModel", "count", "(I)I"⟩
def pr_i134 : ev_Im := (pr_y134, (prog_9_method_62_code, ((some .int), [])))
def pr_y135 : MethodName := ⟨"OrphanTreeModel", "noProcess", "(I)Z"⟩
def pr_i135 : ev_Im := (pr_y135, (prog_9_method_63_code, ((some .boolean), [])))
def pr_y136 : MethodName := ⟨"OrphanTreeModel", "notRunning", "(II)Z"⟩
def pr_i136 : ev_Im := (pr_y136, (prog_9_method_64_code, ((some .boolean), [])))
def pr_y137 : MethodName := ⟨"OrphanTreeModel", "notExiting", "(II)Z"⟩
def pr_i137 : ev_Im := (pr_y137, (prog_9_method_65_code, ((some .boolean), [])))
def pr_y138 : MethodName := ⟨"OrphanTreeModel", "process", "(II)I"⟩
def pr_i138 : ev_Im := (pr_y138, (prog_9_method_66_code, ((some .int), [])))
def pr_y139 : MethodName := ⟨"OrphanTreeModel", "noDuty", "(II)Z"⟩
def pr_i139 : ev_Im := (pr_y139, (prog_9_method_67_code, ((some .boolean), [])))
def pr_y140 : MethodName := ⟨"OrphanTreeModel", "holder", "(I)I"⟩
def pr_i140 : ev_Im := (pr_y140, (prog_9_method_68_code, ((some .int), [])))
def pr_y141 : MethodName := ⟨"OrphanTreeModel", "rule", "(I)I"⟩
def pr_i141 : ev_Im := (pr_y141, (prog_9_method_69_code, ((some .int), [])))
def pr_y142 : MethodName := ⟨"OrphanTreeModel", "isGone", "(I)Z"⟩
def pr_i142 : ev_Im := (pr_y142, (prog_9_method_70_code, ((some .boolean), [])))
def pr_y143 : MethodName := ⟨"OrphanTreeModel", "depth", "(I)I"⟩
def pr_i143 : ev_Im := (pr_y143, (prog_9_method_71_code, ((some .int), [])))
def pr_y144 : MethodName := ⟨"OrphanTreeModel", "isAbove", "(II)Z"⟩
def pr_i144 : ev_Im := (pr_y144, (prog_9_method_72_code, ((some .boolean), [])))
def pr_y145 : MethodName := ⟨"OrphanTreeModel", "meets", "(II)I"⟩
def pr_i145 : ev_Im := (pr_y145, (prog_9_method_73_code, ((some .int), [])))
def pr_y146 : MethodName := ⟨"OrphanTreeModel", "anyGone", "(II)Z"⟩
def pr_i146 : ev_Im := (pr_y146, (prog_9_method_74_code, ((some .boolean), [])))
def pr_y147 : MethodName := ⟨"OrphanTreeModel", "meet", "(II)I"⟩
def pr_i147 : ev_Im := (pr_y147, (prog_9_method_75_code, ((some .int), [])))
def pr_y148 : MethodName := ⟨"OrphanTreeModel", "apart", "(II)I"⟩
def pr_i148 : ev_Im := (pr_y148, (prog_9_method_76_code, ((some .int), [])))
def pr_y149 : MethodName := ⟨"OrphanTreeModel", "belowOf", "(I)I"⟩
def pr_i149 : ev_Im := (pr_y149, (prog_9_method_77_code, ((some .int), [])))
def pr_y150 : MethodName := ⟨"OrphanTreeModel", "below", "(I)I"⟩
def pr_i150 : ev_Im := (pr_y150, (prog_9_method_78_code, ((some .int), [])))
def pr_y151 : MethodName := ⟨"OrphanTreeModel", "walkOn", "(I)I"⟩
def pr_i151 : ev_Im := (pr_y151, (prog_9_method_79_code, ((some .int), [])))
def pr_y152 : MethodName := ⟨"OrphanTreeModel", "nextChild", "(II)I"⟩
def pr_i152 : ev_Im := (pr_y152, (prog_9_method_80_code, ((some .int), [])))
def pr_y153 : MethodName := ⟨"OrphanTreeModel", "walked", "(I)I"⟩
def pr_i153 : ev_Im := (pr_y153, (prog_9_method_81_code, ((some .int), [])))
def pr_y154 : MethodName := ⟨"OrphanTreeModel", "atDepth", "(I)I"⟩
def pr_i154 : ev_Im := (pr_y154, (prog_9_method_82_code, ((some .int), [])))
def pr_y155 : MethodName := ⟨"OrphanTreeModel", "highest", "()I"⟩
def pr_i155 : ev_Im := (pr_y155, (prog_9_method_83_code, ((some .int), [])))
def pr_y156 : MethodName := ⟨"OrphanTreeModel", "height", "()I"⟩
def pr_i156 : ev_Im := (pr_y156, (prog_9_method_84_code, ((some .int), [])))
def pr_y157 : MethodName := ⟨"OrphanTreeModel", "isSmall", "(I)Z"⟩
def pr_i157 : ev_Im := (pr_y157, (prog_9_method_85_code, ((some .boolean), [])))
def pr_y158 : MethodName := ⟨"OrphanTreeModel", "spawn", "(IIII)I"⟩
def pr_i158 : ev_Im := (pr_y158, (prog_9_method_86_code, ((some .int), [])))
def pr_y159 : MethodName := ⟨"OrphanTreeModel", "noExit", "(II)Z"⟩
def pr_i159 : ev_Im := (pr_y159, (prog_9_method_87_code, ((some .boolean), [])))
def pr_y160 : MethodName := ⟨"OrphanTreeModel", "exit", "(II)I"⟩
def pr_i160 : ev_Im := (pr_y160, (prog_9_method_88_code, ((some .int), [])))
def pr_y161 : MethodName := ⟨"OrphanTreeModel", "noKill", "(II)Z"⟩
def pr_i161 : ev_Im := (pr_y161, (prog_9_method_89_code, ((some .boolean), [])))
def pr_y162 : MethodName := ⟨"OrphanTreeModel", "kill", "(II)I"⟩
def pr_i162 : ev_Im := (pr_y162, (prog_9_method_90_code, ((some .int), [])))
def pr_y163 : MethodName := ⟨"OrphanTreeModel", "read", "(I)I"⟩
def pr_i163 : ev_Im := (pr_y163, (prog_9_method_91_code, ((some .int), [])))
def pr_y164 : MethodName := ⟨"OrphanTreeModel", "readAll", "(I)I"⟩
def pr_i164 : ev_Im := (pr_y164, (prog_9_method_92_code, ((some .int), [])))
def pr_y165 : MethodName := ⟨"OrphanTreeModel", "refuse", "(II)I"⟩
def pr_i165 : ev_Im := (pr_y165, (prog_9_method_93_code, ((some .int), [])))
def pr_y166 : MethodName := ⟨"OrphanTreeModel", "accept", "(II)Z"⟩
def pr_i166 : ev_Im := (pr_y166, (prog_9_method_94_code, ((some .boolean), [])))
def pr_y167 : MethodName := ⟨"OrphanTreeModel", "move", "(II)I"⟩
def pr_i167 : ev_Im := (pr_y167, (prog_9_method_95_code, ((some .int), [])))
def pr_y168 : MethodName := ⟨"OrphanTreeModel", "sets", "(III)I"⟩
def pr_i168 : ev_Im := (pr_y168, (prog_9_method_96_code, ((some .int), [])))
def pr_y169 : MethodName := ⟨"OrphanTreeModel", "setCapacity", "(II)I"⟩
def pr_i169 : ev_Im := (pr_y169, (prog_9_method_97_code, ((some .int), [])))
def pr_y170 : MethodName := ⟨"OrphanTreeModel", "setBudget", "(II)I"⟩
def pr_i170 : ev_Im := (pr_y170, (prog_9_method_98_code, ((some .int), [])))
def pr_y171 : MethodName := ⟨"OrphanTreeModel", "setHeir", "(II)I"⟩
def pr_i171 : ev_Im := (pr_y171, (prog_9_method_99_code, ((some .int), [])))
def pr_y172 : MethodName := ⟨"OrphanTreeModel", "give", "(II)I"⟩
def pr_i172 : ev_Im := (pr_y172, (prog_9_method_100_code, ((some .int), [])))
def pr_y173 : MethodName := ⟨"OrphanTreeModel", "lowestBelow", "(I)I"⟩
def pr_i173 : ev_Im := (pr_y173, (prog_9_method_101_code, ((some .int), [])))
def pr_y174 : MethodName := ⟨"OrphanTreeModel", "prune", "(II)I"⟩
def pr_i174 : ev_Im := (pr_y174, (prog_9_method_102_code, ((some .int), [])))
def pr_y175 : MethodName := ⟨"OrphanTreeModel", "exchange", "(II)I"⟩
def pr_i175 : ev_Im := (pr_y175, (prog_9_method_103_code, ((some .int), [])))
def pr_y176 : MethodName := ⟨"OrphanTreeModel", "relieve", "(I)I"⟩
def pr_i176 : ev_Im := (pr_y176, (prog_9_method_104_code, ((some .int), [])))
def pr_y177 : MethodName := ⟨"OrphanTreeModel", "adopter", "(I)I"⟩
def pr_i177 : ev_Im := (pr_y177, (prog_9_method_105_code, ((some .int), [])))
def pr_y178 : MethodName := ⟨"OrphanTreeModel", "adopters", "(I)I"⟩
def pr_i178 : ev_Im := (pr_y178, (prog_9_method_106_code, ((some .int), [])))
def pr_y179 : MethodName := ⟨"OrphanTreeModel", "heirNow", "(I)I"⟩
def pr_i179 : ev_Im := (pr_y179, (prog_9_method_107_code, ((some .int), [])))
def pr_y180 : MethodName := ⟨"OrphanTreeModel", "fallsBy", "(II)I"⟩
def pr_i180 : ev_Im := (pr_y180, (prog_9_method_108_code, ((some .int), [])))
def pr_y181 : MethodName := ⟨"OrphanTreeModel", "wouldFall", "(II)I"⟩
def pr_i181 : ev_Im := (pr_y181, (prog_9_method_109_code, ((some .int), [])))
def pr_y182 : MethodName := ⟨"OrphanTreeModel", "wouldStand", "(II)I"⟩
def pr_i182 : ev_Im := (pr_y182, (prog_9_method_110_code, ((some .int), [])))
def pr_y183 : MethodName := ⟨"OrphanTreeModel", "wouldHave", "(III)I"⟩
def pr_i183 : ev_Im := (pr_y183, (prog_9_method_111_code, ((some .int), [])))
def pr_y184 : MethodName := ⟨"OrphanTreeModel", "wouldHold", "(III)I"⟩
def pr_i184 : ev_Im := (pr_y184, (prog_9_method_112_code, ((some .int), [])))
def pr_y185 : MethodName := ⟨"OrphanTreeModel", "wouldFallBy", "(II)I"⟩
def pr_i185 : ev_Im := (pr_y185, (prog_9_method_113_code, ((some .int), [])))
def pr_y186 : MethodName := ⟨"OrphanTreeModel", "wouldRun", "(II)I"⟩
def pr_i186 : ev_Im := (pr_y186, (prog_9_method_114_code, ((some .int), [])))
def pr_y187 : MethodName := ⟨"OrphanTreeModel", "weakest", "(I)I"⟩
def pr_i187 : ev_Im := (pr_y187, (prog_9_method_115_code, ((some .int), [])))
def pr_y188 : MethodName := ⟨"OrphanTreeModel", "betterCode", "(I)I"⟩
def pr_i188 : ev_Im := (pr_y188, (prog_9_method_116_code, ((some .int), [])))
def pr_y189 : MethodName := ⟨"OrphanTreeModel", "dutyLife", "(I)I"⟩
def pr_i189 : ev_Im := (pr_y189, (prog_9_method_117_code, ((some .int), [])))
def pr_y190 : MethodName := ⟨"OrphanTreeModel", "roomiest", "(I)I"⟩
def pr_i190 : ev_Im := (pr_y190, (prog_9_method_118_code, ((some .int), [])))
def pr_y191 : MethodName := ⟨"OrphanTreeModel", "allRoom", "()I"⟩
def pr_i191 : ev_Im := (pr_y191, (prog_9_method_119_code, ((some .int), [])))
def pr_y192 : MethodName := ⟨"OrphanTreeModel", "overfull", "()I"⟩
def pr_i192 : ev_Im := (pr_y192, (prog_9_method_120_code, ((some .int), [])))
def pr_y193 : MethodName := ⟨"OrphanTreeModel", "ofGroup", "(I)I"⟩
def pr_i193 : ev_Im := (pr_y193, (prog_9_method_121_code, ((some .int), [])))
def pr_y194 : MethodName := ⟨"OrphanTreeModel", "nextTestament", "(I)I"⟩
def pr_i194 : ev_Im := (pr_y194, (prog_9_method_122_code, ((some .int), [])))
def pr_y195 : MethodName := ⟨"OrphanTreeModel", "exited", "(I)I"⟩
def pr_i195 : ev_Im := (pr_y195, (prog_9_method_123_code, ((some .int), [])))
def pr_y196 : MethodName := ⟨"OrphanTreeModel", "meanDepth", "()D"⟩
def pr_i196 : ev_Im := (pr_y196, (prog_9_method_124_code, ((some .double), [])))
def pr_y197 : MethodName := ⟨"OrphanTreeModel", "rootShare", "()F"⟩
def pr_i197 : ev_Im := (pr_y197, (prog_9_method_125_code, ((some .float), [])))
def pr_y198 : MethodName := ⟨"OrphanTreeModel", "readShare", "()D"⟩
def pr_i198 : ev_Im := (pr_y198, (prog_9_method_126_code, ((some .double), [])))
def pr_y199 : MethodName := ⟨"OrphanTreeModel", "testamentsBelow", "(I)I"⟩
def pr_i199 : ev_Im := (pr_y199, (prog_9_method_127_code, ((some .int), [])))
def pr_y200 : MethodName := ⟨"OrphanTreeModel", "roomBelow", "(I)I"⟩
def pr_i200 : ev_Im := (pr_y200, (prog_9_method_128_code, ((some .int), [])))
def pr_y201 : MethodName := ⟨"OrphanTreeModel", "mostAdopted", "()I"⟩
def pr_i201 : ev_Im := (pr_y201, (prog_9_method_129_code, ((some .int), [])))
def pr_y202 : MethodName := ⟨"OrphanTreeModel", "heaviest", "(I)I"⟩
def pr_i202 : ev_Im := (pr_y202, (prog_9_method_130_code, ((some .int), [])))
def pr_y203 : MethodName := ⟨"OrphanTreeModel", "groupsBelow", "(I)I"⟩
def pr_i203 : ev_Im := (pr_y203, (prog_9_method_131_code, ((some .int), [])))
def pr_y204 : MethodName := ⟨"OrphanTreeModel", "strangers", "(I)I"⟩
def pr_i204 : ev_Im := (pr_y204, (prog_9_method_132_code, ((some .int), [])))
def pr_y205 : MethodName := ⟨"OrphanTreeModel", "write", "(I)V"⟩
def pr_i205 : ev_Im := (pr_y205, (prog_9_method_133_code, (none, [])))
def pr_y206 : MethodName := ⟨"OrphanTreeModel", "onPath", "(II)I"⟩
def pr_i206 : ev_Im := (pr_y206, (prog_9_method_134_code, ((some .int), [])))
def pr_y207 : MethodName := ⟨"OrphanTreeModel", "writeNumber", "(I)V"⟩
def pr_i207 : ev_Im := (pr_y207, (prog_9_method_135_code, (none, [])))
def pr_y208 : MethodName := ⟨"OrphanTreeModel", "writeBetween", "(I)V"⟩
def pr_i208 : ev_Im := (pr_y208, (prog_9_method_136_code, (none, [])))
def pr_y209 : MethodName := ⟨"OrphanTreeModel", "writePath", "(I)V"⟩
def pr_i209 : ev_Im := (pr_y209, (prog_9_method_137_code, (none, [])))
def pr_y210 : MethodName := ⟨"OrphanTreeModel", "writeChildren", "(I)V"⟩
def pr_i210 : ev_Im := (pr_y210, (prog_9_method_138_code, (none, [])))
def pr_y211 : MethodName := ⟨"OrphanTreeModel", "writeTree", "(I)V"⟩
def pr_i211 : ev_Im := (pr_y211, (prog_9_method_139_code, (none, [])))
def pr_y212 : MethodName := ⟨"OrphanTreeModel", "writeZombies", "(I)V"⟩
def pr_i212 : ev_Im := (pr_y212, (prog_9_method_140_code, (none, [])))
def pr_y213 : MethodName := ⟨"OrphanTreeModel", "print", "(II)I"⟩
def pr_i213 : ev_Im := (pr_y213, (prog_9_method_141_code, ((some .int), [])))
def pr_y214 : MethodName := ⟨"OrphanTreeModel", "outputByte", "(I)I"⟩
def pr_i214 : ev_Im := (pr_y214, (prog_9_method_142_code, ((some .int), [])))
def pr_y215 : MethodName := ⟨"OrphanTreeModel", "undo", "()I"⟩
def pr_i215 : ev_Im := (pr_y215, (prog_9_method_143_code, ((some .int), [])))
def pr_y216 : MethodName := ⟨"OrphanTreeModel", "saveState", "()I"⟩
def pr_i216 : ev_Im := (pr_y216, (prog_9_method_144_code, ((some .int), [])))
def pr_y217 : MethodName := ⟨"OrphanTreeModel", "restoreState", "()I"⟩
def pr_i217 : ev_Im := (pr_y217, (prog_9_method_145_code, ((some .int), [])))
def pr_y218 : MethodName := ⟨"OrphanTree$History", "<init>", "()V"⟩
def pr_i218 : ev_Im := (pr_y218, (prog_2_method_1_code, (none, [])))
def pr_y219 : MethodName := ⟨"OrphanTree$History", "push", "(LOrphanTree$Tree;)V"⟩
def pr_i219 : ev_Im := (pr_y219, (prog_2_method_2_code, (none, [])))
def pr_y220 : MethodName := ⟨"OrphanTree$History", "pop", "(LOrphanTree$Tree;)Z"⟩
def pr_i220 : ev_Im := (pr_y220, (prog_2_method_3_code, ((some .boolean), [])))
def pr_y221 : MethodName := ⟨"OrphanTree$Input", "<init>", "()V"⟩
def pr_i221 : ev_Im := (pr_y221, (prog_3_method_1_code, (none, [])))
def pr_y222 : MethodName := ⟨"OrphanTree$Input", "append", "(I)V"⟩
def pr_i222 : ev_Im := (pr_y222, (prog_3_method_2_code, (none, [])))
def pr_y223 : MethodName := ⟨"OrphanTree$Input", "at", "(I)I"⟩
def pr_i223 : ev_Im := (pr_y223, (prog_3_method_3_code, ((some .int), [])))
def pr_y224 : MethodName := ⟨"OrphanTree$Output", "<init>", "()V"⟩
def pr_i224 : ev_Im := (pr_y224, (prog_4_method_1_code, (none, [])))
def pr_y225 : MethodName := ⟨"OrphanTree$Output", "putSign", "(C)V"⟩
def pr_i225 : ev_Im := (pr_y225, (prog_4_method_2_code, (none, [])))
def pr_y226 : MethodName := ⟨"OrphanTree$Output", "putNumber", "(I)V"⟩
def pr_i226 : ev_Im := (pr_y226, (prog_4_method_3_code, (none, [])))
def pr_y227 : MethodName := ⟨"OrphanTree$Output", "putPath", "(LOrphanTree$Proc;)V"⟩
def pr_i227 : ev_Im := (pr_y227, (prog_4_method_4_code, (none, [])))
def pr_y228 : MethodName := ⟨"OrphanTree$Output", "putChildren", "(LOrphanTree$Tree;LOrphanTree$Proc;)V"⟩
def pr_i228 : ev_Im := (pr_y228, (prog_4_method_5_code, (none, [])))
def pr_y229 : MethodName := ⟨"OrphanTree$Output", "putDuties", "(LOrphanTree$Tree;LOrphanTree$Proc;)V"⟩
def pr_i229 : ev_Im := (pr_y229, (prog_4_method_6_code, (none, [])))
def pr_y230 : MethodName := ⟨"OrphanTree$Output", "putZombies", "(LOrphanTree$Tree;LOrphanTree$Proc;)V"⟩
def pr_i230 : ev_Im := (pr_y230, (prog_4_method_7_code, (none, [])))
def pr_y231 : MethodName := ⟨"OrphanTree$Output", "putComma", "()V"⟩
def pr_i231 : ev_Im := (pr_y231, (prog_4_method_8_code, (none, [])))
def pr_y232 : MethodName := ⟨"OrphanTree$Proc", "<init>", "(I)V"⟩
def pr_i232 : ev_Im := (pr_y232, (prog_5_method_1_code, (none, [])))
def pr_y233 : MethodName := ⟨"OrphanTree$Proc", "become", "(IIII)V"⟩
def pr_i233 : ev_Im := (pr_y233, (prog_5_method_2_code, (none, [])))
def pr_y234 : MethodName := ⟨"OrphanTree$Proc", "take", "(LOrphanTree$Proc;)V"⟩
def pr_i234 : ev_Im := (pr_y234, (prog_5_method_3_code, (none, [])))
def pr_y235 : MethodName := ⟨"OrphanTree$Proc", "isRunning", "()Z"⟩
def pr_i235 : ev_Im := (pr_y235, (prog_5_method_4_code, ((some .boolean), [])))
def pr_y236 : MethodName := ⟨"OrphanTree$Proc", "isMortal", "()Z"⟩
def pr_i236 : ev_Im := (pr_y236, (prog_5_method_5_code, ((some .boolean), [])))
def pr_y237 : MethodName := ⟨"OrphanTree$Proc", "hasExited", "()Z"⟩
def pr_i237 : ev_Im := (pr_y237, (prog_5_method_6_code, ((some .boolean), [])))
def pr_y238 : MethodName := ⟨"OrphanTree$Proc", "isRunningChildOf", "(LOrphanTree$Proc;)Z"⟩
def pr_i238 : ev_Im := (pr_y238, (prog_5_method_7_code, ((some .boolean), [])))
def pr_y239 : MethodName := ⟨"OrphanTree$Proc", "isZombieOf", "(LOrphanTree$Proc;)Z"⟩
def pr_i239 : ev_Im := (pr_y239, (prog_5_method_8_code, ((some .boolean), [])))
def pr_y240 : MethodName := ⟨"OrphanTree$Proc", "canInherit", "()Z"⟩
def pr_i240 : ev_Im := (pr_y240, (prog_5_method_9_code, ((some .boolean), [])))
def pr_y241 : MethodName := ⟨"OrphanTree$Proc", "refuses", "(I)Z"⟩
def pr_i241 : ev_Im := (pr_y241, (prog_5_method_10_code, ((some .boolean), [])))
def pr_y242 : MethodName := ⟨"OrphanTree$Proc", "room", "()I"⟩
def pr_i242 : ev_Im := (pr_y242, (prog_5_method_11_code, ((some .int), [])))
def pr_y243 : MethodName := ⟨"OrphanTree$Proc", "countAbove", "()I"⟩
def pr_i243 : ev_Im := (pr_y243, (prog_5_method_12_code, ((some .int), [])))
def pr_y244 : MethodName := ⟨"OrphanTree$Proc", "isOver", "(LOrphanTree$Proc;)Z"⟩
def pr_i244 : ev_Im := (pr_y244, (prog_5_method_13_code, ((some .boolean), [])))
def pr_y245 : MethodName := ⟨"OrphanTree$Proc", "putUnder", "(LOrphanTree$Proc;)V"⟩
def pr_i245 : ev_Im := (pr_y245, (prog_5_method_14_code, (none, [])))
def pr_y246 : MethodName := ⟨"OrphanTree$Proc", "willFor", "(I)I"⟩
def pr_i246 : ev_Im := (pr_y246, (prog_5_method_15_code, ((some .int), [])))
def pr_y247 : MethodName := ⟨"OrphanTree$Proc", "addWill", "(II)V"⟩
def pr_i247 : ev_Im := (pr_y247, (prog_5_method_16_code, (none, [])))
def pr_y248 : MethodName := ⟨"OrphanTree$Proc", "willMask", "()I"⟩
def pr_i248 : ev_Im := (pr_y248, (prog_5_method_17_code, ((some .int), [])))
def pr_y249 : MethodName := ⟨"OrphanTree$SetupReader", "<init>", "()V"⟩
def pr_i249 : ev_Im := (pr_y249, (prog_6_method_1_code, (none, [])))
def pr_y250 : MethodName := ⟨"OrphanTree$SetupReader", "begin", "()V"⟩
def pr_i250 : ev_Im := (pr_y250, (prog_6_method_2_code, (none, [])))
def pr_y251 : MethodName := ⟨"OrphanTree$SetupReader", "takeStatement", "()Z"⟩
def pr_i251 : ev_Im := (pr_y251, (prog_6_method_3_code, ((some .boolean), [])))
def pr_y252 : MethodName := ⟨"OrphanTree$SetupReader", "takeOrder", "()Z"⟩
def pr_i252 : ev_Im := (pr_y252, (prog_6_method_4_code, ((some .boolean), [])))
def pr_y253 : MethodName := ⟨"OrphanTree$SetupReader", "ruleOfWord", "()I"⟩
def pr_i253 : ev_Im := (pr_y253, (prog_6_method_5_code, ((some .int), [])))
def pr_y254 : MethodName := ⟨"OrphanTree$SetupReader", "takeDeep", "()Z"⟩
def pr_i254 : ev_Im := (pr_y254, (prog_6_method_6_code, ((some .boolean), [])))
def pr_y255 : MethodName := ⟨"OrphanTree$SetupReader", "takeRoot", "()Z"⟩
def pr_i255 : ev_Im := (pr_y255, (prog_6_method_7_code, ((some .boolean), [])))
def pr_y256 : MethodName := ⟨"OrphanTree$SetupReader", "takeProcess", "()Z"⟩
def pr_i256 : ev_Im := (pr_y256, (prog_6_method_8_code, ((some .boolean), [])))
def pr_y257 : MethodName := ⟨"OrphanTree$SetupReader", "takeHeir", "()Z"⟩
def pr_i257 : ev_Im := (pr_y257, (prog_6_method_9_code, ((some .boolean), [])))
def pr_y258 : MethodName := ⟨"OrphanTree$SetupReader", "takeDuty", "()Z"⟩
def pr_i258 : ev_Im := (pr_y258, (prog_6_method_10_code, ((some .boolean), [])))
def pr_y259 : MethodName := ⟨"OrphanTree$SetupReader", "takeRefusal", "()Z"⟩
def pr_i259 : ev_Im := (pr_y259, (prog_6_method_11_code, ((some .boolean), [])))
def pr_y260 : MethodName := ⟨"OrphanTree$SetupReader", "takeWill", "()Z"⟩
def pr_i260 : ev_Im := (pr_y260, (prog_6_method_12_code, ((some .boolean), [])))
def pr_y261 : MethodName := ⟨"OrphanTree$SetupReader", "takeNamed", "(I)LOrphanTree$Proc;"⟩
def pr_i261 : ev_Im := (pr_y261, (prog_6_method_13_code, ((some (.object "OrphanTree$Proc")), [])))
def pr_y262 : MethodName := ⟨"OrphanTree$SetupReader", "takeNumber", "(II)Z"⟩
def pr_i262 : ev_Im := (pr_y262, (prog_6_method_14_code, ((some .boolean), [])))
def pr_y263 : MethodName := ⟨"OrphanTree$SetupReader", "takeSemicolon", "()Z"⟩
def pr_i263 : ev_Im := (pr_y263, (prog_6_method_15_code, ((some .boolean), [])))
def pr_y264 : MethodName := ⟨"OrphanTree$SetupReader", "fail", "(I)Z"⟩
def pr_i264 : ev_Im := (pr_y264, (prog_6_method_16_code, ((some .boolean), [])))
def pr_y265 : MethodName := ⟨"OrphanTree$SetupReader", "advance", "()V"⟩
def pr_i265 : ev_Im := (pr_y265, (prog_6_method_17_code, (none, [])))
def pr_y266 : MethodName := ⟨"OrphanTree$SetupReader", "isBlank", "(I)Z"⟩
def pr_i266 : ev_Im := (pr_y266, (prog_6_method_18_code, ((some .boolean), [])))
def pr_y267 : MethodName := ⟨"OrphanTree$SetupReader", "kindOf", "(I)I"⟩
def pr_i267 : ev_Im := (pr_y267, (prog_6_method_19_code, ((some .int), [])))
def pr_y268 : MethodName := ⟨"OrphanTree$SetupReader", "isWord", "(Ljava/lang/String;)Z"⟩
def pr_i268 : ev_Im := (pr_y268, (prog_6_method_20_code, ((some .boolean), [])))
def pr_y269 : MethodName := ⟨"OrphanTree$Tree", "<init>", "()V"⟩
def pr_i269 : ev_Im := (pr_y269, (prog_7_method_1_code, (none, [])))
def pr_y270 : MethodName := ⟨"OrphanTree$Tree", "reset", "()V"⟩
def pr_i270 : ev_Im := (pr_y270, (prog_7_method_2_code, (none, [])))
def pr_y271 : MethodName := ⟨"OrphanTree$Tree", "hasRule", "(I)Z"⟩
def pr_i271 : ev_Im := (pr_y271, (prog_7_method_3_code, ((some .boolean), [])))
def pr_y272 : MethodName := ⟨"OrphanTree$Tree", "clearRules", "()V"⟩
def pr_i272 : ev_Im := (pr_y272, (prog_7_method_4_code, (none, [])))
def pr_y273 : MethodName := ⟨"OrphanTree$Tree", "take", "(LOrphanTree$Tree;)V"⟩
def pr_i273 : ev_Im := (pr_y273, (prog_7_method_5_code, (none, [])))
def pr_y274 : MethodName := ⟨"OrphanTree$Tree", "at", "(I)LOrphanTree$Proc;"⟩
def pr_i274 : ev_Im := (pr_y274, (prog_7_method_6_code, ((some (.object "OrphanTree$Proc")), [])))
def pr_y275 : MethodName := ⟨"OrphanTree$Tree", "countInState", "(I)I"⟩
def pr_i275 : ev_Im := (pr_y275, (prog_7_method_7_code, ((some .int), [])))
def pr_y276 : MethodName := ⟨"OrphanTree$Tree", "countBelow", "(LOrphanTree$Proc;I)I"⟩
def pr_i276 : ev_Im := (pr_y276, (prog_7_method_8_code, ((some .int), [])))
def pr_y277 : MethodName := ⟨"OrphanTree$Tree", "countZombiesOf", "(LOrphanTree$Proc;)I"⟩
def pr_i277 : ev_Im := (pr_y277, (prog_7_method_9_code, ((some .int), [])))
def pr_y278 : MethodName := ⟨"OrphanTree$Tree", "greatestDepth", "()I"⟩
def pr_i278 : ev_Im := (pr_y278, (prog_7_method_10_code, ((some .int), [])))
def pr_y279 : MethodName := ⟨"OrphanTree$Tree", "lowestOver", "(LOrphanTree$Proc;LOrphanTree$Proc;)LOrphanTree$Proc;"⟩
def pr_i279 : ev_Im := (pr_y279, (prog_7_method_11_code, ((some (.object "OrphanTree$Proc")), [])))
def pr_y280 : MethodName := ⟨"OrphanTree$Tree", "childBehind", "(LOrphanTree$Proc;I)LOrphanTree$Proc;"⟩
def pr_i280 : ev_Im := (pr_y280, (prog_7_method_12_code, ((some (.object "OrphanTree$Proc")), [])))
def pr_y281 : MethodName := ⟨"OrphanTree$Tree", "zombieBehind", "(LOrphanTree$Proc;I)LOrphanTree$Proc;"⟩
def pr_i281 : ev_Im := (pr_y281, (prog_7_method_13_code, ((some (.object "OrphanTree$Proc")), [])))
def pr_y282 : MethodName := ⟨"OrphanTree$Tree", "nextOfWalk", "(LOrphanTree$Proc;)LOrphanTree$Proc;"⟩
def pr_i282 : ev_Im := (pr_y282, (prog_7_method_14_code, ((some (.object "OrphanTree$Proc")), [])))
def pr_y283 : MethodName := ⟨"OrphanTree$Tree", "holderOf", "(I)LOrphanTree$Proc;"⟩
def pr_i283 : ev_Im := (pr_y283, (prog_7_method_15_code, ((some (.object "OrphanTree$Proc")), [])))
def pr_y284 : MethodName := ⟨"OrphanTree$Tree", "giveDuty", "(ILOrphanTree$Proc;)V"⟩
def pr_i284 : ev_Im := (pr_y284, (prog_7_method_16_code, (none, [])))
def pr_y285 : MethodName := ⟨"OrphanTree$Tree", "dutiesOf", "(LOrphanTree$Proc;)I"⟩
def pr_i285 : ev_Im := (pr_y285, (prog_7_method_17_code, ((some .int), [])))
def pr_y286 : MethodName := ⟨"OrphanTree$Tree", "arrive", "(LOrphanTree$Proc;III)LOrphanTree$Proc;"⟩
def pr_i286 : ev_Im := (pr_y286, (prog_7_method_18_code, ((some (.object "OrphanTree$Proc")), [])))
def pr_y287 : MethodName := ⟨"OrphanTree$Tree", "letExit", "(LOrphanTree$Proc;I)I"⟩
def pr_i287 : ev_Im := (pr_y287, (prog_7_method_19_code, ((some .int), [])))
def pr_y288 : MethodName := ⟨"OrphanTree$Tree", "replace", "(LOrphanTree$Proc;LOrphanTree$Proc;)LOrphanTree$Proc;"⟩
def pr_i288 : ev_Im := (pr_y288, (prog_7_method_20_code, ((some (.object "OrphanTree$Proc")), [])))
def pr_y289 : MethodName := ⟨"OrphanTree$Tree", "passDuties", "(LOrphanTree$Proc;LOrphanTree$Proc;)V"⟩
def pr_i289 : ev_Im := (pr_y289, (prog_7_method_21_code, (none, [])))
def pr_y290 : MethodName := ⟨"OrphanTree$Tree", "inheritorOf", "(LOrphanTree$Proc;I)LOrphanTree$Proc;"⟩
def pr_i290 : ev_Im := (pr_y290, (prog_7_method_22_code, ((some (.object "OrphanTree$Proc")), [])))
def pr_y291 : MethodName := ⟨"OrphanTree$Tree", "heirOf", "(LOrphanTree$Proc;)LOrphanTree$Proc;"⟩
def pr_i291 : ev_Im := (pr_y291, (prog_7_method_23_code, ((some (.object "OrphanTree$Proc")), [])))
def pr_y292 : MethodName := ⟨"OrphanTree$Tree", "adopt", "(LOrphanTree$Proc;LOrphanTree$Proc;)V"⟩
def pr_i292 : ev_Im := (pr_y292, (prog_7_method_24_code, (none, [])))
def pr_y293 : MethodName := ⟨"OrphanTree$Tree", "adopterOf", "(LOrphanTree$Proc;)LOrphanTree$Proc;"⟩
def pr_i293 : ev_Im := (pr_y293, (prog_7_method_25_code, ((some (.object "OrphanTree$Proc")), [])))
def pr_y294 : MethodName := ⟨"OrphanTree$Tree", "nearest", "(LOrphanTree$Proc;LOrphanTree$Proc;)LOrphanTree$Proc;"⟩
def pr_i294 : ev_Im := (pr_y294, (prog_7_method_26_code, ((some (.object "OrphanTree$Proc")), [])))
def pr_y295 : MethodName := ⟨"OrphanTree$Tree", "roomiestFor", "(LOrphanTree$Proc;LOrphanTree$Proc;Z)LOrphanTree$Proc;"⟩
def pr_i295 : ev_Im := (pr_y295, (prog_7_method_27_code, ((some (.object "OrphanTree$Proc")), [])))
def pr_y296 : MethodName := ⟨"OrphanTree$Tree", "firstKin", "(LOrphanTree$Proc;LOrphanTree$Proc;)LOrphanTree$Proc;"⟩
def pr_i296 : ev_Im := (pr_y296, (prog_7_method_28_code, ((some (.object "OrphanTree$Proc")), [])))
def pr_y297 : MethodName := ⟨"OrphanTree$Tree", "oldest", "(LOrphanTree$Proc;LOrphanTree$Proc;)LOrphanTree$Proc;"⟩
def pr_i297 : ev_Im := (pr_y297, (prog_7_method_29_code, ((some (.object "OrphanTree$Proc")), [])))
def pr_y298 : MethodName := ⟨"OrphanTree$Tree", "canAdopt", "(LOrphanTree$Proc;LOrphanTree$Proc;)Z"⟩
def pr_i298 : ev_Im := (pr_y298, (prog_7_method_30_code, ((some .boolean), [])))
def pr_y299 : MethodName := ⟨"OrphanTree$Tree", "killGroup", "(II)I"⟩
def pr_i299 : ev_Im := (pr_y299, (prog_7_method_31_code, ((some .int), [])))
def pr_y300 : MethodName := ⟨"OrphanTree$Tree", "loseGroup", "(LOrphanTree$Proc;I)I"⟩
def pr_i300 : ev_Im := (pr_y300, (prog_7_method_32_code, ((some .int), [])))
def pr_y301 : MethodName := ⟨"OrphanTree$Tree", "loseSurplus", "(LOrphanTree$Proc;)I"⟩
def pr_i301 : ev_Im := (pr_y301, (prog_7_method_33_code, ((some .int), [])))
def pr_y302 : MethodName := ⟨"OrphanTree$Tree", "readZombiesOf", "(LOrphanTree$Proc;)I"⟩
def pr_i302 : ev_Im := (pr_y302, (prog_7_method_34_code, ((some .int), [])))
def pr_y303 : MethodName := ⟨"OrphanTree$Tree", "pruneBelow", "(LOrphanTree$Proc;I)I"⟩
def pr_i303 : ev_Im := (pr_y303, (prog_7_method_35_code, ((some .int), [])))
def pr_y304 : MethodName := ⟨"OrphanTree$Tree", "deepestBelow", "(LOrphanTree$Proc;)LOrphanTree$Proc;"⟩
def pr_i304 : ev_Im := (pr_y304, (prog_7_method_36_code, ((some (.object "OrphanTree$Proc")), [])))
def pr_y305 : MethodName := ⟨"OrphanTreeLaw", "count", "(LOrphanTree;I[J)I"⟩
def pr_i305 : ev_Im := (pr_y305, (method_3_code, ((some .int), [(0, (9, (12, 13)))])))
def pr_y306 : MethodName := ⟨"OrphanTreeLaw", "process", "(LOrphanTree;II[J)I"⟩
def pr_i306 : ev_Im := (pr_y306, (method_4_code, ((some .int), [(0, (10, (13, 19))), (0, (10, (17, 13)))])))
def pr_y307 : MethodName := ⟨"OrphanTreeLaw", "holder", "(LOrphanTree;I[J)I"⟩
def pr_i307 : ev_Im := (pr_y307, (method_5_code, ((some .int), [(0, (9, (12, 13)))])))
def pr_y308 : MethodName := ⟨"OrphanTreeLaw", "depth", "(LOrphanTree;I[J)I"⟩
def pr_i308 : ev_Im := (pr_y308, (method_6_code, ((some .int), [(0, (9, (12, 19))), (0, (9, (15, 27)))])))
def pr_y309 : MethodName := ⟨"OrphanTreeLaw", "isAbove", "(LOrphanTree;II[J)I"⟩
def pr_i309 : ev_Im := (pr_y309, (method_7_code, ((some .int), [(0, (17, (20, 19)))])))
def pr_y310 : MethodName := ⟨"OrphanTreeLaw", "meet", "(LOrphanTree;II[J)I"⟩
def pr_i310 : ev_Im := (pr_y310, (method_8_code, ((some .int), [(0, (10, (13, 19))), (0, (10, (17, 27)))])))
def pr_y311 : MethodName := ⟨"OrphanTreeLaw", "below", "(LOrphanTree;I[J)I"⟩
def pr_i311 : ev_Im := (pr_y311, (method_9_code, ((some .int), [(0, (9, (12, 19)))])))
def pr_y312 : MethodName := ⟨"OrphanTreeLaw", "walked", "(LOrphanTree;I[J)I"⟩
def pr_i312 : ev_Im := (pr_y312, (method_10_code, ((some .int), [(0, (9, (12, 42)))])))
def pr_y313 : MethodName := ⟨"OrphanTreeLaw", "spawn", "(LOrphanTree;IIII[J)I"⟩
def pr_i313 : ev_Im := (pr_y313, (method_11_code, ((some .int), [(0, (14, (17, 19))), (0, (14, (21, 13))), (0, (14, (25, 27)))])))
def pr_y314 : MethodName := ⟨"OrphanTreeLaw", "exit", "(LOrphanTree;II[J)I"⟩
def pr_i314 : ev_Im := (pr_y314, (method_12_code, ((some .int), [(0, (10, (13, 19))), (0, (10, (17, 13))), (0, (10, (21, 27)))])))
def pr_y315 : MethodName := ⟨"OrphanTreeLaw", "kill", "(LOrphanTree;II[J)I"⟩
def pr_i315 : ev_Im := (pr_y315, (method_13_code, ((some .int), [(0, (10, (13, 13)))])))
def pr_y316 : MethodName := ⟨"OrphanTreeLaw", "read", "(LOrphanTree;I[J)I"⟩
def pr_i316 : ev_Im := (pr_y316, (method_14_code, ((some .int), [(0, (9, (12, 19))), (0, (9, (15, 27))), (0, (9, (18, 42)))])))
def pr_y317 : MethodName := ⟨"OrphanTreeLaw", "refuse", "(LOrphanTree;II[J)I"⟩
def pr_i317 : ev_Im := (pr_y317, (method_15_code, ((some .int), [(0, (10, (13, 19))), (0, (10, (17, 13))), (0, (10, (21, 27)))])))
def pr_y318 : MethodName := ⟨"OrphanTreeLaw", "accept", "(LOrphanTree;II[J)I"⟩
def pr_i318 : ev_Im := (pr_y318, (method_16_code, ((some .int), [(0, (17, (20, 19))), (0, (17, (24, 13))), (0, (17, (28, 27)))])))
def pr_y319 : MethodName := ⟨"OrphanTreeLaw", "move", "(LOrphanTree;II[J)I"⟩
def pr_i319 : ev_Im := (pr_y319, (method_17_code, ((some .int), [(0, (10, (13, 19))), (0, (10, (17, 27)))])))
def pr_y320 : MethodName := ⟨"OrphanTreeLaw", "setCapacity", "(LOrphanTree;II[J)I"⟩
def pr_i320 : ev_Im := (pr_y320, (method_18_code, ((some .int), [(0, (10, (13, 19))), (0, (10, (17, 13))), (0, (10, (21, 27)))])))
def pr_y321 : MethodName := ⟨"OrphanTreeLaw", "setBudget", "(LOrphanTree;II[J)I"⟩
def pr_i321 : ev_Im := (pr_y321, (method_19_code, ((some .int), [(0, (10, (13, 19))), (0, (10, (17, 13))), (0, (10, (21, 27)))])))
def pr_y322 : MethodName := ⟨"OrphanTreeLaw", "setHeir", "(LOrphanTree;II[J)I"⟩
def pr_i322 : ev_Im := (pr_y322, (method_20_code, ((some .int), [(0, (10, (13, 19))), (0, (10, (17, 13))), (0, (10, (21, 27)))])))
def pr_y323 : MethodName := ⟨"OrphanTreeLaw", "give", "(LOrphanTree;II[J)I"⟩
def pr_i323 : ev_Im := (pr_y323, (method_21_code, ((some .int), [(0, (10, (13, 13))), (0, (10, (17, 19))), (0, (10, (21, 27)))])))
def pr_y324 : MethodName := ⟨"OrphanTreeLaw", "adopter", "(LOrphanTree;I[J)I"⟩
def pr_i324 : ev_Im := (pr_y324, (method_22_code, ((some .int), [(0, (9, (12, 19))), (0, (9, (15, 27)))])))
def pr_y325 : MethodName := ⟨"OrphanTreeLaw", "heirNow", "(LOrphanTree;I[J)I"⟩
def pr_i325 : ev_Im := (pr_y325, (method_23_code, ((some .int), [(0, (9, (12, 19))), (0, (9, (15, 27)))])))
def pr_y326 : MethodName := ⟨"OrphanTreeLaw", "wouldFall", "(LOrphanTree;II[J)I"⟩
def pr_i326 : ev_Im := (pr_y326, (method_24_code, ((some .int), [(0, (10, (13, 19))), (0, (10, (17, 13))), (0, (10, (21, 27)))])))
def pr_y327 : MethodName := ⟨"OrphanTreeLaw", "wouldStand", "(LOrphanTree;II[J)I"⟩
def pr_i327 : ev_Im := (pr_y327, (method_25_code, ((some .int), [(0, (10, (13, 19))), (0, (10, (17, 13))), (0, (10, (21, 27)))])))
def pr_y328 : MethodName := ⟨"OrphanTreeLaw", "wouldHave", "(LOrphanTree;III[J)I"⟩
def pr_i328 : ev_Im := (pr_y328, (method_26_code, ((some .int), [(0, (12, (15, 19))), (0, (12, (19, 13))), (0, (12, (23, 27)))])))
def pr_y329 : MethodName := ⟨"OrphanTreeLaw", "wouldFallBy", "(LOrphanTree;II[J)I"⟩
def pr_i329 : ev_Im := (pr_y329, (method_27_code, ((some .int), [(0, (10, (13, 13)))])))
def pr_y330 : MethodName := ⟨"OrphanTreeLaw", "weakest", "(LOrphanTree;I[J)I"⟩
def pr_i330 : ev_Im := (pr_y330, (method_28_code, ((some .int), [(0, (9, (12, 13)))])))
def pr_y331 : MethodName := ⟨"OrphanTreeLaw", "roomiest", "(LOrphanTree;I[J)I"⟩
def pr_i331 : ev_Im := (pr_y331, (method_29_code, ((some .int), [(0, (9, (12, 13)))])))
def pr_y332 : MethodName := ⟨"OrphanTreeLaw", "ofGroup", "(LOrphanTree;I[J)I"⟩
def pr_i332 : ev_Im := (pr_y332, (method_30_code, ((some .int), [(0, (9, (12, 13)))])))
def pr_y333 : MethodName := ⟨"OrphanTreeLaw", "nextTestament", "(LOrphanTree;I[J)I"⟩
def pr_i333 : ev_Im := (pr_y333, (method_31_code, ((some .int), [(0, (9, (12, 19)))])))
def pr_y334 : MethodName := ⟨"OrphanTreeLaw", "exited", "(LOrphanTree;I[J)I"⟩
def pr_i334 : ev_Im := (pr_y334, (method_32_code, ((some .int), [(0, (9, (12, 42)))])))
def pr_y335 : MethodName := ⟨"OrphanTreeLaw", "prune", "(LOrphanTree;II[J)I"⟩
def pr_i335 : ev_Im := (pr_y335, (method_33_code, ((some .int), [(0, (10, (13, 19))), (0, (10, (17, 13))), (0, (10, (21, 27)))])))
def pr_y336 : MethodName := ⟨"OrphanTreeLaw", "exchange", "(LOrphanTree;II[J)I"⟩
def pr_i336 : ev_Im := (pr_y336, (method_34_code, ((some .int), [(0, (10, (13, 19))), (0, (10, (17, 27)))])))
def pr_y337 : MethodName := ⟨"OrphanTreeLaw", "readAll", "(LOrphanTree;I[J)I"⟩
def pr_i337 : ev_Im := (pr_y337, (method_35_code, ((some .int), [(0, (9, (12, 19))), (0, (9, (15, 27)))])))
def pr_y338 : MethodName := ⟨"OrphanTreeLaw", "testamentsBelow", "(LOrphanTree;I[J)I"⟩
def pr_i338 : ev_Im := (pr_y338, (method_36_code, ((some .int), [(0, (9, (12, 19)))])))
def pr_y339 : MethodName := ⟨"OrphanTreeLaw", "roomBelow", "(LOrphanTree;I[J)I"⟩
def pr_i339 : ev_Im := (pr_y339, (method_37_code, ((some .int), [(0, (9, (12, 19)))])))
def pr_y340 : MethodName := ⟨"OrphanTreeLaw", "adopters", "(LOrphanTree;I[J)I"⟩
def pr_i340 : ev_Im := (pr_y340, (method_38_code, ((some .int), [(0, (9, (12, 19))), (0, (9, (15, 27)))])))
def pr_y341 : MethodName := ⟨"OrphanTreeLaw", "betterCode", "(LOrphanTree;I[J)I"⟩
def pr_i341 : ev_Im := (pr_y341, (method_39_code, ((some .int), [(0, (9, (12, 19))), (0, (9, (15, 27)))])))
def pr_y342 : MethodName := ⟨"OrphanTreeLaw", "wouldRun", "(LOrphanTree;II[J)I"⟩
def pr_i342 : ev_Im := (pr_y342, (method_40_code, ((some .int), [(0, (10, (13, 13)))])))
def pr_y343 : MethodName := ⟨"OrphanTreeLaw", "apart", "(LOrphanTree;II[J)I"⟩
def pr_i343 : ev_Im := (pr_y343, (method_41_code, ((some .int), [(0, (10, (13, 19))), (0, (10, (17, 27)))])))
def pr_y344 : MethodName := ⟨"OrphanTreeLaw", "relieve", "(LOrphanTree;I[J)I"⟩
def pr_i344 : ev_Im := (pr_y344, (method_42_code, ((some .int), [(0, (9, (12, 19))), (0, (9, (15, 27)))])))
def pr_y345 : MethodName := ⟨"OrphanTreeLaw", "wouldHold", "(LOrphanTree;III[J)I"⟩
def pr_i345 : ev_Im := (pr_y345, (method_43_code, ((some .int), [(0, (12, (15, 19))), (0, (12, (19, 13))), (0, (12, (23, 27)))])))
def pr_y346 : MethodName := ⟨"OrphanTreeLaw", "dutyLife", "(LOrphanTree;I[J)I"⟩
def pr_i346 : ev_Im := (pr_y346, (method_44_code, ((some .int), [(0, (9, (12, 13)))])))
def pr_y347 : MethodName := ⟨"OrphanTreeLaw", "heaviest", "(LOrphanTree;I[J)I"⟩
def pr_i347 : ev_Im := (pr_y347, (method_45_code, ((some .int), [(0, (9, (12, 19)))])))
def pr_y348 : MethodName := ⟨"OrphanTreeLaw", "groupsBelow", "(LOrphanTree;I[J)I"⟩
def pr_i348 : ev_Im := (pr_y348, (method_46_code, ((some .int), [(0, (9, (12, 19)))])))
def pr_y349 : MethodName := ⟨"OrphanTreeLaw", "strangers", "(LOrphanTree;I[J)I"⟩
def pr_i349 : ev_Im := (pr_y349, (method_47_code, ((some .int), [(0, (9, (12, 19)))])))
def pr_y350 : MethodName := ⟨"OrphanTreeLaw", "print", "(LOrphanTree;II[J)I"⟩
def pr_i350 : ev_Im := (pr_y350, (method_48_code, ((some .int), [(0, (10, (13, 19))), (0, (10, (17, 13))), (0, (10, (21, 27)))])))
def pr_y351 : MethodName := ⟨"OrphanTreeLaw", "restoreState", "(LOrphanTree;[J)I"⟩
def pr_i351 : ev_Im := (pr_y351, (method_49_code, ((some .int), [(0, (8, (11, 27)))])))
def pr_y353 : MethodName := ⟨"java/lang/Integer", "bitCount", "(I)I"⟩
def pr_i353 : ev_Im := (pr_y353, (prog_17_method_49_code, ((some .int), [])))
def pr_y352 : MethodName := ⟨"OrphanTreeLaw", "law", "([I)Z"⟩
def pr_id : ev_Im := (⟨"", "", ""⟩, (⟨#[]⟩, (none, [])))
noncomputable def ev_it (n : Nat) (f g : Nat → ev_Im) : Nat → ev_Im := fun i => Bool.rec (motive := fun _ => ev_Im) (g i) (f i) (Nat.ble i n)
noncomputable def pr_jf (n : Nat) (x : ev_Im) : Nat → ev_Im := fun i => Bool.rec (motive := fun _ => ev_Im) pr_id x (Nat.beq i n)
noncomputable def pr_I : Nat → ev_Im := (ev_it 176 (ev_it 88 (ev_it 44 (ev_it 22 (ev_it 11 (ev_it 5 (ev_it 2 (ev_it 1 (ev_it 0 (pr_jf 0 pr_i0) (pr_jf 1 pr_i1)) (pr_jf 2 pr_i2)) (ev_it 4 (ev_it 3 (pr_jf 3 pr_i3) (pr_jf 4 pr_i4)) (pr_jf 5 pr_i5))) (ev_it 8 (ev_it 7 (ev_it 6 (pr_jf 6 pr_i6) (pr_jf 7 pr_i7)) (pr_jf 8 pr_i8)) (ev_it 10 (ev_it 9 (pr_jf 9 pr_i9) (pr_jf 10 pr_i10)) (pr_jf 11 pr_i11)))) (ev_it 17 (ev_it 14 (ev_it 13 (ev_it 12 (pr_jf 12 pr_i12) (pr_jf 13 pr_i13)) (pr_jf 14 pr_i14)) (ev_it 16 (ev_it 15 (pr_jf 15 pr_i15) (pr_jf 16 pr_i16)) (pr_jf 17 pr_i17))) (ev_it 20 (ev_it 19 (ev_it 18 (pr_jf 18 pr_i18) (pr_jf 19 pr_i19)) (pr_jf 20 pr_i20)) (ev_it 21 (pr_jf 21 pr_i21) (pr_jf 22 pr_i22))))) (ev_it 33 (ev_it 28 (ev_it 25 (ev_it 24 (ev_it 23 (pr_jf 23 pr_i23) (pr_jf 24 pr_i24)) (pr_jf 25 pr_i25)) (ev_it 27 (ev_it 26 (pr_jf 26 pr_i26) (pr_jf 27 pr_i27)) (pr_jf 28 pr_i28))) (ev_it 31 (ev_it 30 (ev_it 29 (pr_jf 29 pr_i29) (pr_jf 30 pr_i30)) (pr_jf 31 pr_i31)) (ev_it 32 (pr_jf 32 pr_i32) (pr_jf 33 pr_i33)))) (ev_it 39 (ev_it 36 (ev_it 35 (ev_it 34 (pr_jf 34 pr_i34) (pr_jf 35 pr_i35)) (pr_jf 36 pr_i36)) (ev_it 38 (ev_it 37 (pr_jf 37 pr_i37) (pr_jf 38 pr_i38)) (pr_jf 39 pr_i39))) (ev_it 42 (ev_it 41 (ev_it 40 (pr_jf 40 pr_i40) (pr_jf 41 pr_i41)) (pr_jf 42 pr_i42)) (ev_it 43 (pr_jf 43 pr_i43) (pr_jf 44 pr_i44)))))) (ev_it 66 (ev_it 55 (ev_it 50 (ev_it 47 (ev_it 46 (ev_it 45 (pr_jf 45 pr_i45) (pr_jf 46 pr_i46)) (pr_jf 47 pr_i47)) (ev_it 49 (ev_it 48 (pr_jf 48 pr_i48) (pr_jf 49 pr_i49)) (pr_jf 50 pr_i50))) (ev_it 53 (ev_it 52 (ev_it 51 (pr_jf 51 pr_i51) (pr_jf 52 pr_i52)) (pr_jf 53 pr_i53)) (ev_it 54 (pr_jf 54 pr_i54) (pr_jf 55 pr_i55)))) (ev_it 61 (ev_it 58 (ev_it 57 (ev_it 56 (pr_jf 56 pr_i56) (pr_jf 57 pr_i57)) (pr_jf 58 pr_i58)) (ev_it 60 (ev_it 59 (pr_jf 59 pr_i59) (pr_jf 60 pr_i60)) (pr_jf 61 pr_i61))) (ev_it 64 (ev_it 63 (ev_it 62 (pr_jf 62 pr_i62) (pr_jf 63 pr_i63)) (pr_jf 64 pr_i64)) (ev_it 65 (pr_jf 65 pr_i65) (pr_jf 66 pr_i66))))) (ev_it 77 (ev_it 72 (ev_it 69 (ev_it 68 (ev_it 67 (pr_jf 67 pr_i67) (pr_jf 68 pr_i68)) (pr_jf 69 pr_i69)) (ev_it 71 (ev_it 70 (pr_jf 70 pr_i70) (pr_jf 71 pr_i71)) (pr_jf 72 pr_i72))) (ev_it 75 (ev_it 74 (ev_it 73 (pr_jf 73 pr_i73) (pr_jf 74 pr_i74)) (pr_jf 75 pr_i75)) (ev_it 76 (pr_jf 76 pr_i76) (pr_jf 77 pr_i77)))) (ev_it 83 (ev_it 80 (ev_it 79 (ev_it 78 (pr_jf 78 pr_i78) (pr_jf 79 pr_i79)) (pr_jf 80 pr_i80)) (ev_it 82 (ev_it 81 (pr_jf 81 pr_i81) (pr_jf 82 pr_i82)) (pr_jf 83 pr_i83))) (ev_it 86 (ev_it 85 (ev_it 84 (pr_jf 84 pr_i84) (pr_jf 85 pr_i85)) (pr_jf 86 pr_i86)) (ev_it 87 (pr_jf 87 pr_i87) (pr_jf 88 pr_i88))))))) (ev_it 132 (ev_it 110 (ev_it 99 (ev_it 94 (ev_it 91 (ev_it 90 (ev_it 89 (pr_jf 89 pr_i89) (pr_jf 90 pr_i90)) (pr_jf 91 pr_i91)) (ev_it 93 (ev_it 92 (pr_jf 92 pr_i92) (pr_jf 93 pr_i93)) (pr_jf 94 pr_i94))) (ev_it 97 (ev_it 96 (ev_it 95 (pr_jf 95 pr_i95) (pr_jf 96 pr_i96)) (pr_jf 97 pr_i97)) (ev_it 98 (pr_jf 98 pr_i98) (pr_jf 99 pr_i99)))) (ev_it 105 (ev_it 102 (ev_it 101 (ev_it 100 (pr_jf 100 pr_i100) (pr_jf 101 pr_i101)) (pr_jf 102 pr_i102)) (ev_it 104 (ev_it 103 (pr_jf 103 pr_i103) (pr_jf 104 pr_i104)) (pr_jf 105 pr_i105))) (ev_it 108 (ev_it 107 (ev_it 106 (pr_jf 106 pr_i106) (pr_jf 107 pr_i107)) (pr_jf 108 pr_i108)) (ev_it 109 (pr_jf 109 pr_i109) (pr_jf 110 pr_i110))))) (ev_it 121 (ev_it 116 (ev_it 113 (ev_it 112 (ev_it 111 (pr_jf 111 pr_i111) (pr_jf 112 pr_i112)) (pr_jf 113 pr_i113)) (ev_it 115 (ev_it 114 (pr_jf 114 pr_i114) (pr_jf 115 pr_i115)) (pr_jf 116 pr_i116))) (ev_it 119 (ev_it 118 (ev_it 117 (pr_jf 117 pr_i117) (pr_jf 118 pr_i118)) (pr_jf 119 pr_i119)) (ev_it 120 (pr_jf 120 pr_i120) (pr_jf 121 pr_i121)))) (ev_it 127 (ev_it 124 (ev_it 123 (ev_it 122 (pr_jf 122 pr_i122) (pr_jf 123 pr_i123)) (pr_jf 124 pr_i124)) (ev_it 126 (ev_it 125 (pr_jf 125 pr_i125) (pr_jf 126 pr_i126)) (pr_jf 127 pr_i127))) (ev_it 130 (ev_it 129 (ev_it 128 (pr_jf 128 pr_i128) (pr_jf 129 pr_i129)) (pr_jf 130 pr_i130)) (ev_it 131 (pr_jf 131 pr_i131) (pr_jf 132 pr_i132)))))) (ev_it 154 (ev_it 143 (ev_it 138 (ev_it 135 (ev_it 134 (ev_it 133 (pr_jf 133 pr_i133) (pr_jf 134 pr_i134)) (pr_jf 135 pr_i135)) (ev_it 137 (ev_it 136 (pr_jf 136 pr_i136) (pr_jf 137 pr_i137)) (pr_jf 138 pr_i138))) (ev_it 141 (ev_it 140 (ev_it 139 (pr_jf 139 pr_i139) (pr_jf 140 pr_i140)) (pr_jf 141 pr_i141)) (ev_it 142 (pr_jf 142 pr_i142) (pr_jf 143 pr_i143)))) (ev_it 149 (ev_it 146 (ev_it 145 (ev_it 144 (pr_jf 144 pr_i144) (pr_jf 145 pr_i145)) (pr_jf 146 pr_i146)) (ev_it 148 (ev_it 147 (pr_jf 147 pr_i147) (pr_jf 148 pr_i148)) (pr_jf 149 pr_i149))) (ev_it 152 (ev_it 151 (ev_it 150 (pr_jf 150 pr_i150) (pr_jf 151 pr_i151)) (pr_jf 152 pr_i152)) (ev_it 153 (pr_jf 153 pr_i153) (pr_jf 154 pr_i154))))) (ev_it 165 (ev_it 160 (ev_it 157 (ev_it 156 (ev_it 155 (pr_jf 155 pr_i155) (pr_jf 156 pr_i156)) (pr_jf 157 pr_i157)) (ev_it 159 (ev_it 158 (pr_jf 158 pr_i158) (pr_jf 159 pr_i159)) (pr_jf 160 pr_i160))) (ev_it 163 (ev_it 162 (ev_it 161 (pr_jf 161 pr_i161) (pr_jf 162 pr_i162)) (pr_jf 163 pr_i163)) (ev_it 164 (pr_jf 164 pr_i164) (pr_jf 165 pr_i165)))) (ev_it 171 (ev_it 168 (ev_it 167 (ev_it 166 (pr_jf 166 pr_i166) (pr_jf 167 pr_i167)) (pr_jf 168 pr_i168)) (ev_it 170 (ev_it 169 (pr_jf 169 pr_i169) (pr_jf 170 pr_i170)) (pr_jf 171 pr_i171))) (ev_it 174 (ev_it 173 (ev_it 172 (pr_jf 172 pr_i172) (pr_jf 173 pr_i173)) (pr_jf 174 pr_i174)) (ev_it 175 (pr_jf 175 pr_i175) (pr_jf 176 pr_i176)))))))) (ev_it 264 (ev_it 220 (ev_it 198 (ev_it 187 (ev_it 182 (ev_it 179 (ev_it 178 (ev_it 177 (pr_jf 177 pr_i177) (pr_jf 178 pr_i178)) (pr_jf 179 pr_i179)) (ev_it 181 (ev_it 180 (pr_jf 180 pr_i180) (pr_jf 181 pr_i181)) (pr_jf 182 pr_i182))) (ev_it 185 (ev_it 184 (ev_it 183 (pr_jf 183 pr_i183) (pr_jf 184 pr_i184)) (pr_jf 185 pr_i185)) (ev_it 186 (pr_jf 186 pr_i186) (pr_jf 187 pr_i187)))) (ev_it 193 (ev_it 190 (ev_it 189 (ev_it 188 (pr_jf 188 pr_i188) (pr_jf 189 pr_i189)) (pr_jf 190 pr_i190)) (ev_it 192 (ev_it 191 (pr_jf 191 pr_i191) (pr_jf 192 pr_i192)) (pr_jf 193 pr_i193))) (ev_it 196 (ev_it 195 (ev_it 194 (pr_jf 194 pr_i194) (pr_jf 195 pr_i195)) (pr_jf 196 pr_i196)) (ev_it 197 (pr_jf 197 pr_i197) (pr_jf 198 pr_i198))))) (ev_it 209 (ev_it 204 (ev_it 201 (ev_it 200 (ev_it 199 (pr_jf 199 pr_i199) (pr_jf 200 pr_i200)) (pr_jf 201 pr_i201)) (ev_it 203 (ev_it 202 (pr_jf 202 pr_i202) (pr_jf 203 pr_i203)) (pr_jf 204 pr_i204))) (ev_it 207 (ev_it 206 (ev_it 205 (pr_jf 205 pr_i205) (pr_jf 206 pr_i206)) (pr_jf 207 pr_i207)) (ev_it 208 (pr_jf 208 pr_i208) (pr_jf 209 pr_i209)))) (ev_it 215 (ev_it 212 (ev_it 211 (ev_it 210 (pr_jf 210 pr_i210) (pr_jf 211 pr_i211)) (pr_jf 212 pr_i212)) (ev_it 214 (ev_it 213 (pr_jf 213 pr_i213) (pr_jf 214 pr_i214)) (pr_jf 215 pr_i215))) (ev_it 218 (ev_it 217 (ev_it 216 (pr_jf 216 pr_i216) (pr_jf 217 pr_i217)) (pr_jf 218 pr_i218)) (ev_it 219 (pr_jf 219 pr_i219) (pr_jf 220 pr_i220)))))) (ev_it 242 (ev_it 231 (ev_it 226 (ev_it 223 (ev_it 222 (ev_it 221 (pr_jf 221 pr_i221) (pr_jf 222 pr_i222)) (pr_jf 223 pr_i223)) (ev_it 225 (ev_it 224 (pr_jf 224 pr_i224) (pr_jf 225 pr_i225)) (pr_jf 226 pr_i226))) (ev_it 229 (ev_it 228 (ev_it 227 (pr_jf 227 pr_i227) (pr_jf 228 pr_i228)) (pr_jf 229 pr_i229)) (ev_it 230 (pr_jf 230 pr_i230) (pr_jf 231 pr_i231)))) (ev_it 237 (ev_it 234 (ev_it 233 (ev_it 232 (pr_jf 232 pr_i232) (pr_jf 233 pr_i233)) (pr_jf 234 pr_i234)) (ev_it 236 (ev_it 235 (pr_jf 235 pr_i235) (pr_jf 236 pr_i236)) (pr_jf 237 pr_i237))) (ev_it 240 (ev_it 239 (ev_it 238 (pr_jf 238 pr_i238) (pr_jf 239 pr_i239)) (pr_jf 240 pr_i240)) (ev_it 241 (pr_jf 241 pr_i241) (pr_jf 242 pr_i242))))) (ev_it 253 (ev_it 248 (ev_it 245 (ev_it 244 (ev_it 243 (pr_jf 243 pr_i243) (pr_jf 244 pr_i244)) (pr_jf 245 pr_i245)) (ev_it 247 (ev_it 246 (pr_jf 246 pr_i246) (pr_jf 247 pr_i247)) (pr_jf 248 pr_i248))) (ev_it 251 (ev_it 250 (ev_it 249 (pr_jf 249 pr_i249) (pr_jf 250 pr_i250)) (pr_jf 251 pr_i251)) (ev_it 252 (pr_jf 252 pr_i252) (pr_jf 253 pr_i253)))) (ev_it 259 (ev_it 256 (ev_it 255 (ev_it 254 (pr_jf 254 pr_i254) (pr_jf 255 pr_i255)) (pr_jf 256 pr_i256)) (ev_it 258 (ev_it 257 (pr_jf 257 pr_i257) (pr_jf 258 pr_i258)) (pr_jf 259 pr_i259))) (ev_it 262 (ev_it 261 (ev_it 260 (pr_jf 260 pr_i260) (pr_jf 261 pr_i261)) (pr_jf 262 pr_i262)) (ev_it 263 (pr_jf 263 pr_i263) (pr_jf 264 pr_i264))))))) (ev_it 308 (ev_it 286 (ev_it 275 (ev_it 270 (ev_it 267 (ev_it 266 (ev_it 265 (pr_jf 265 pr_i265) (pr_jf 266 pr_i266)) (pr_jf 267 pr_i267)) (ev_it 269 (ev_it 268 (pr_jf 268 pr_i268) (pr_jf 269 pr_i269)) (pr_jf 270 pr_i270))) (ev_it 273 (ev_it 272 (ev_it 271 (pr_jf 271 pr_i271) (pr_jf 272 pr_i272)) (pr_jf 273 pr_i273)) (ev_it 274 (pr_jf 274 pr_i274) (pr_jf 275 pr_i275)))) (ev_it 281 (ev_it 278 (ev_it 277 (ev_it 276 (pr_jf 276 pr_i276) (pr_jf 277 pr_i277)) (pr_jf 278 pr_i278)) (ev_it 280 (ev_it 279 (pr_jf 279 pr_i279) (pr_jf 280 pr_i280)) (pr_jf 281 pr_i281))) (ev_it 284 (ev_it 283 (ev_it 282 (pr_jf 282 pr_i282) (pr_jf 283 pr_i283)) (pr_jf 284 pr_i284)) (ev_it 285 (pr_jf 285 pr_i285) (pr_jf 286 pr_i286))))) (ev_it 297 (ev_it 292 (ev_it 289 (ev_it 288 (ev_it 287 (pr_jf 287 pr_i287) (pr_jf 288 pr_i288)) (pr_jf 289 pr_i289)) (ev_it 291 (ev_it 290 (pr_jf 290 pr_i290) (pr_jf 291 pr_i291)) (pr_jf 292 pr_i292))) (ev_it 295 (ev_it 294 (ev_it 293 (pr_jf 293 pr_i293) (pr_jf 294 pr_i294)) (pr_jf 295 pr_i295)) (ev_it 296 (pr_jf 296 pr_i296) (pr_jf 297 pr_i297)))) (ev_it 303 (ev_it 300 (ev_it 299 (ev_it 298 (pr_jf 298 pr_i298) (pr_jf 299 pr_i299)) (pr_jf 300 pr_i300)) (ev_it 302 (ev_it 301 (pr_jf 301 pr_i301) (pr_jf 302 pr_i302)) (pr_jf 303 pr_i303))) (ev_it 306 (ev_it 305 (ev_it 304 (pr_jf 304 pr_i304) (pr_jf 305 pr_i305)) (pr_jf 306 pr_i306)) (ev_it 307 (pr_jf 307 pr_i307) (pr_jf 308 pr_i308)))))) (ev_it 330 (ev_it 319 (ev_it 314 (ev_it 311 (ev_it 310 (ev_it 309 (pr_jf 309 pr_i309) (pr_jf 310 pr_i310)) (pr_jf 311 pr_i311)) (ev_it 313 (ev_it 312 (pr_jf 312 pr_i312) (pr_jf 313 pr_i313)) (pr_jf 314 pr_i314))) (ev_it 317 (ev_it 316 (ev_it 315 (pr_jf 315 pr_i315) (pr_jf 316 pr_i316)) (pr_jf 317 pr_i317)) (ev_it 318 (pr_jf 318 pr_i318) (pr_jf 319 pr_i319)))) (ev_it 325 (ev_it 322 (ev_it 321 (ev_it 320 (pr_jf 320 pr_i320) (pr_jf 321 pr_i321)) (pr_jf 322 pr_i322)) (ev_it 324 (ev_it 323 (pr_jf 323 pr_i323) (pr_jf 324 pr_i324)) (pr_jf 325 pr_i325))) (ev_it 328 (ev_it 327 (ev_it 326 (pr_jf 326 pr_i326) (pr_jf 327 pr_i327)) (pr_jf 328 pr_i328)) (ev_it 329 (pr_jf 329 pr_i329) (pr_jf 330 pr_i330))))) (ev_it 341 (ev_it 336 (ev_it 333 (ev_it 332 (ev_it 331 (pr_jf 331 pr_i331) (pr_jf 332 pr_i332)) (pr_jf 333 pr_i333)) (ev_it 335 (ev_it 334 (pr_jf 334 pr_i334) (pr_jf 335 pr_i335)) (pr_jf 336 pr_i336))) (ev_it 339 (ev_it 338 (ev_it 337 (pr_jf 337 pr_i337) (pr_jf 338 pr_i338)) (pr_jf 339 pr_i339)) (ev_it 340 (pr_jf 340 pr_i340) (pr_jf 341 pr_i341)))) (ev_it 347 (ev_it 344 (ev_it 343 (ev_it 342 (pr_jf 342 pr_i342) (pr_jf 343 pr_i343)) (pr_jf 344 pr_i344)) (ev_it 346 (ev_it 345 (pr_jf 345 pr_i345) (pr_jf 346 pr_i346)) (pr_jf 347 pr_i347))) (ev_it 350 (ev_it 349 (ev_it 348 (pr_jf 348 pr_i348) (pr_jf 349 pr_i349)) (pr_jf 350 pr_i350)) (ev_it 351 (pr_jf 351 pr_i351) (pr_jf 353 pr_i353)))))))))
def pr_S : List (String × (Nat × String)) := [("OrphanTree", (120, "no such number")), ("OrphanTree", (177, "no such property")), ("OrphanTree", (218, "not so many processes")), ("OrphanTree", (256, "no testament")), ("OrphanTree", (272, "its own heir")), ("OrphanTree", (296, "no such exit")), ("OrphanTree", (345, "no such process")), ("OrphanTree", (348, "out of range")), ("OrphanTree", (352, "the tree does not let it"))]
noncomputable def pr_cS : Nat → ev_E := (ev_ct 12 (ev_ct 7 (ev_ct 3 (ev_ct 0 (pr_q 0 (qe 33 3 6 7 0 [1, 1, 1, 1, 1, 1, 0])) (pr_q 3 (qe 21 4 0 0 0 []))) (ev_ct 4 (pr_q 4 (qe 35 7 0 1 7 [623, 10110])) (pr_q 7 (qe 10 8 1 0 0 [])))) (ev_ct 11 (ev_ct 8 (pr_q 8 (qe 33 11 7 24 0 [1, 1, 1, 1, 1, 1, 0, 0, 0, 1, 0, 0, 0, 0, 0, 0, 0, 0, 0, 0, 1, 1, 1, 0])) (pr_q 11 (qe 21 12 0 0 0 []))) (pr_q 12 (qe 35 15 73 1 8 [10, 11904])))) (ev_ct 19 (ev_ct 16 (ev_ct 15 (pr_q 15 (qe 10 16 2 0 0 [])) (pr_q 16 (qe 1 17 1 0 0 []))) (ev_ct 17 (pr_q 17 (qe 34 19 23 2 0 [])) (pr_q 19 (qe 10 20 3 0 0 [])))) (ev_ct 21 (ev_ct 20 (pr_q 20 (qe 1 21 0 0 0 [])) (pr_q 21 (qe 9 23 4 0 0 []))) (pr_q 23 (qe 46 0 0 0 0 [])))))
noncomputable def pr_mS : ev_M := (9, (100000, (1000000, ([], pr_cS))))
/-- the world at the start: nothing yet -/
def pr_w0 : ev_W := (List.replicate 11 (List.replicate 8 (List.replicate 8 (99, (0, [])))), (0, (true, (0, 0))))
def pr_l0 : ev_L := [some (.inr (.inl (some 1000000))), none, none, none, none, none, none, none, none]
theorem qI_0 : pr_I 0 = pr_i0 := (rfl)
theorem qI_1 : pr_I 1 = pr_i1 := (rfl)
theorem qI_2 : pr_I 2 = pr_i2 := (rfl)
theorem qI_3 : pr_I 3 = pr_i3 := (rfl)
theorem qI_4 : pr_I 4 = pr_i4 := (rfl)
theorem qI_5 : pr_I 5 = pr_i5 := (rfl)
theorem qI_6 : pr_I 6 = pr_i6 := (rfl)
theorem qI_7 : pr_I 7 = pr_i7 := (rfl)
theorem qI_8 : pr_I 8 = pr_i8 := (rfl)
theorem qI_9 : pr_I 9 = pr_i9 := (rfl)
theorem qI_10 : pr_I 10 = pr_i10 := (rfl)
theorem qI_11 : pr_I 11 = pr_i11 := (rfl)
theorem qI_12 : pr_I 12 = pr_i12 := (rfl)
theorem qI_13 : pr_I 13 = pr_i13 := (rfl)
theorem qI_14 : pr_I 14 = pr_i14 := (rfl)
theorem qI_15 : pr_I 15 = pr_i15 := (rfl)
theorem qI_16 : pr_I 16 = pr_i16 := (rfl)
theorem qI_17 : pr_I 17 = pr_i17 := (rfl)
theorem qI_18 : pr_I 18 = pr_i18 := (rfl)
theorem qI_19 : pr_I 19 = pr_i19 := (rfl)
theorem qI_20 : pr_I 20 = pr_i20 := (rfl)
theorem qI_21 : pr_I 21 = pr_i21 := (rfl)
theorem qI_22 : pr_I 22 = pr_i22 := (rfl)
theorem qI_23 : pr_I 23 = pr_i23 := (rfl)
theorem qI_24 : pr_I 24 = pr_i24 := (rfl)
theorem qI_25 : pr_I 25 = pr_i25 := (rfl)
theorem qI_26 : pr_I 26 = pr_i26 := (rfl)
theorem qI_27 : pr_I 27 = pr_i27 := (rfl)
theorem qI_28 : pr_I 28 = pr_i28 := (rfl)
theorem qI_29 : pr_I 29 = pr_i29 := (rfl)
theorem qI_30 : pr_I 30 = pr_i30 := (rfl)
theorem qI_31 : pr_I 31 = pr_i31 := (rfl)
theorem qI_32 : pr_I 32 = pr_i32 := (rfl)
theorem qI_33 : pr_I 33 = pr_i33 := (rfl)
theorem qI_34 : pr_I 34 = pr_i34 := (rfl)
theorem qI_35 : pr_I 35 = pr_i35 := (rfl)
theorem qI_36 : pr_I 36 = pr_i36 := (rfl)
theorem qI_37 : pr_I 37 = pr_i37 := (rfl)
theorem qI_38 : pr_I 38 = pr_i38 := (rfl)
theorem qI_39 : pr_I 39 = pr_i39 := (rfl)
theorem qI_40 : pr_I 40 = pr_i40 := (rfl)
theorem qI_41 : pr_I 41 = pr_i41 := (rfl)
theorem qI_42 : pr_I 42 = pr_i42 := (rfl)
theorem qI_43 : pr_I 43 = pr_i43 := (rfl)
theorem qI_44 : pr_I 44 = pr_i44 := (rfl)
theorem qI_45 : pr_I 45 = pr_i45 := (rfl)
theorem qI_46 : pr_I 46 = pr_i46 := (rfl)
theorem qI_47 : pr_I 47 = pr_i47 := (rfl)
theorem qI_48 : pr_I 48 = pr_i48 := (rfl)
theorem qI_49 : pr_I 49 = pr_i49 := (rfl)
theorem qI_50 : pr_I 50 = pr_i50 := (rfl)
theorem qI_51 : pr_I 51 = pr_i51 := (rfl)
theorem qI_52 : pr_I 52 = pr_i52 := (rfl)
theorem qI_53 : pr_I 53 = pr_i53 := (rfl)
theorem qI_54 : pr_I 54 = pr_i54 := (rfl)
theorem qI_55 : pr_I 55 = pr_i55 := (rfl)
theorem qI_56 : pr_I 56 = pr_i56 := (rfl)
theorem qI_57 : pr_I 57 = pr_i57 := (rfl)
theorem qI_58 : pr_I 58 = pr_i58 := (rfl)
theorem qI_59 : pr_I 59 = pr_i59 := (rfl)
theorem qI_60 : pr_I 60 = pr_i60 := (rfl)
theorem qI_61 : pr_I 61 = pr_i61 := (rfl)
theorem qI_62 : pr_I 62 = pr_i62 := (rfl)
theorem qI_63 : pr_I 63 = pr_i63 := (rfl)
theorem qI_64 : pr_I 64 = pr_i64 := (rfl)
theorem qI_65 : pr_I 65 = pr_i65 := (rfl)
theorem qI_66 : pr_I 66 = pr_i66 := (rfl)
theorem qI_67 : pr_I 67 = pr_i67 := (rfl)
theorem qI_68 : pr_I 68 = pr_i68 := (rfl)
theorem qI_69 : pr_I 69 = pr_i69 := (rfl)
theorem qI_70 : pr_I 70 = pr_i70 := (rfl)
theorem qI_71 : pr_I 71 = pr_i71 := (rfl)
theorem qI_72 : pr_I 72 = pr_i72 := (rfl)
theorem qI_73 : pr_I 73 = pr_i73 := (rfl)
theorem qI_74 : pr_I 74 = pr_i74 := (rfl)
theorem qI_75 : pr_I 75 = pr_i75 := (rfl)
theorem qI_76 : pr_I 76 = pr_i76 := (rfl)
theorem qI_77 : pr_I 77 = pr_i77 := (rfl)
theorem qI_78 : pr_I 78 = pr_i78 := (rfl)
theorem qI_79 : pr_I 79 = pr_i79 := (rfl)
theorem qI_80 : pr_I 80 = pr_i80 := (rfl)
theorem qI_81 : pr_I 81 = pr_i81 := (rfl)
theorem qI_82 : pr_I 82 = pr_i82 := (rfl)
theorem qI_83 : pr_I 83 = pr_i83 := (rfl)
theorem qI_84 : pr_I 84 = pr_i84 := (rfl)
theorem qI_85 : pr_I 85 = pr_i85 := (rfl)
theorem qI_86 : pr_I 86 = pr_i86 := (rfl)
theorem qI_87 : pr_I 87 = pr_i87 := (rfl)
theorem qI_88 : pr_I 88 = pr_i88 := (rfl)
theorem qI_89 : pr_I 89 = pr_i89 := (rfl)
theorem qI_90 : pr_I 90 = pr_i90 := (rfl)
theorem qI_91 : pr_I 91 = pr_i91 := (rfl)
theorem qI_92 : pr_I 92 = pr_i92 := (rfl)
theorem qI_93 : pr_I 93 = pr_i93 := (rfl)
theorem qI_94 : pr_I 94 = pr_i94 := (rfl)
theorem qI_95 : pr_I 95 = pr_i95 := (rfl)
theorem qI_96 : pr_I 96 = pr_i96 := (rfl)
theorem qI_97 : pr_I 97 = pr_i97 := (rfl)
theorem qI_98 : pr_I 98 = pr_i98 := (rfl)
theorem qI_99 : pr_I 99 = pr_i99 := (rfl)
theorem qI_100 : pr_I 100 = pr_i100 := (rfl)
theorem qI_101 : pr_I 101 = pr_i101 := (rfl)
theorem qI_102 : pr_I 102 = pr_i102 := (rfl)
theorem qI_103 : pr_I 103 = pr_i103 := (rfl)
theorem qI_104 : pr_I 104 = pr_i104 := (rfl)
theorem qI_105 : pr_I 105 = pr_i105 := (rfl)
theorem qI_106 : pr_I 106 = pr_i106 := (rfl)
theorem qI_107 : pr_I 107 = pr_i107 := (rfl)
theorem qI_108 : pr_I 108 = pr_i108 := (rfl)
theorem qI_109 : pr_I 109 = pr_i109 := (rfl)
theorem qI_110 : pr_I 110 = pr_i110 := (rfl)
theorem qI_111 : pr_I 111 = pr_i111 := (rfl)
theorem qI_112 : pr_I 112 = pr_i112 := (rfl)
theorem qI_113 : pr_I 113 = pr_i113 := (rfl)
theorem qI_114 : pr_I 114 = pr_i114 := (rfl)
theorem qI_115 : pr_I 115 = pr_i115 := (rfl)
theorem qI_116 : pr_I 116 = pr_i116 := (rfl)
theorem qI_117 : pr_I 117 = pr_i117 := (rfl)
theorem qI_118 : pr_I 118 = pr_i118 := (rfl)
theorem qI_119 : pr_I 119 = pr_i119 := (rfl)
theorem qI_120 : pr_I 120 = pr_i120 := (rfl)
theorem qI_121 : pr_I 121 = pr_i121 := (rfl)
theorem qI_122 : pr_I 122 = pr_i122 := (rfl)
theorem qI_123 : pr_I 123 = pr_i123 := (rfl)
theorem qI_124 : pr_I 124 = pr_i124 := (rfl)
theorem qI_125 : pr_I 125 = pr_i125 := (rfl)
theorem qI_126 : pr_I 126 = pr_i126 := (rfl)
theorem qI_127 : pr_I 127 = pr_i127 := (rfl)
theorem qI_128 : pr_I 128 = pr_i128 := (rfl)
theorem qI_129 : pr_I 129 = pr_i129 := (rfl)
theorem qI_130 : pr_I 130 = pr_i130 := (rfl)
theorem qI_131 : pr_I 131 = pr_i131 := (rfl)
theorem qI_132 : pr_I 132 = pr_i132 := (rfl)
theorem qI_133 : pr_I 133 = pr_i133 := (rfl)
theorem qI_134 : pr_I 134 = pr_i134 := (rfl)
theorem qI_135 : pr_I 135 = pr_i135 := (rfl)
theorem qI_136 : pr_I 136 = pr_i136 := (rfl)
theorem qI_137 : pr_I 137 = pr_i137 := (rfl)
theorem qI_138 : pr_I 138 = pr_i138 := (rfl)
theorem qI_139 : pr_I 139 = pr_i139 := (rfl)
theorem qI_140 : pr_I 140 = pr_i140 := (rfl)
theorem qI_141 : pr_I 141 = pr_i141 := (rfl)
theorem qI_142 : pr_I 142 = pr_i142 := (rfl)
theorem qI_143 : pr_I 143 = pr_i143 := (rfl)
theorem qI_144 : pr_I 144 = pr_i144 := (rfl)
theorem qI_145 : pr_I 145 = pr_i145 := (rfl)
theorem qI_146 : pr_I 146 = pr_i146 := (rfl)
theorem qI_147 : pr_I 147 = pr_i147 := (rfl)
theorem qI_148 : pr_I 148 = pr_i148 := (rfl)
theorem qI_149 : pr_I 149 = pr_i149 := (rfl)
theorem qI_150 : pr_I 150 = pr_i150 := (rfl)
theorem qI_151 : pr_I 151 = pr_i151 := (rfl)
theorem qI_152 : pr_I 152 = pr_i152 := (rfl)
theorem qI_153 : pr_I 153 = pr_i153 := (rfl)
theorem qI_154 : pr_I 154 = pr_i154 := (rfl)
theorem qI_155 : pr_I 155 = pr_i155 := (rfl)
theorem qI_156 : pr_I 156 = pr_i156 := (rfl)
theorem qI_157 : pr_I 157 = pr_i157 := (rfl)
theorem qI_158 : pr_I 158 = pr_i158 := (rfl)
theorem qI_159 : pr_I 159 = pr_i159 := (rfl)
theorem qI_160 : pr_I 160 = pr_i160 := (rfl)
theorem qI_161 : pr_I 161 = pr_i161 := (rfl)
theorem qI_162 : pr_I 162 = pr_i162 := (rfl)
theorem qI_163 : pr_I 163 = pr_i163 := (rfl)
theorem qI_164 : pr_I 164 = pr_i164 := (rfl)
theorem qI_165 : pr_I 165 = pr_i165 := (rfl)
theorem qI_166 : pr_I 166 = pr_i166 := (rfl)
theorem qI_167 : pr_I 167 = pr_i167 := (rfl)
theorem qI_168 : pr_I 168 = pr_i168 := (rfl)
theorem qI_169 : pr_I 169 = pr_i169 := (rfl)
theorem qI_170 : pr_I 170 = pr_i170 := (rfl)
theorem qI_171 : pr_I 171 = pr_i171 := (rfl)
theorem qI_172 : pr_I 172 = pr_i172 := (rfl)
theorem qI_173 : pr_I 173 = pr_i173 := (rfl)
theorem qI_174 : pr_I 174 = pr_i174 := (rfl)
theorem qI_175 : pr_I 175 = pr_i175 := (rfl)
theorem qI_176 : pr_I 176 = pr_i176 := (rfl)
theorem qI_177 : pr_I 177 = pr_i177 := (rfl)
theorem qI_178 : pr_I 178 = pr_i178 := (rfl)
theorem qI_179 : pr_I 179 = pr_i179 := (rfl)
theorem qI_180 : pr_I 180 = pr_i180 := (rfl)
theorem qI_181 : pr_I 181 = pr_i181 := (rfl)
theorem qI_182 : pr_I 182 = pr_i182 := (rfl)
theorem qI_183 : pr_I 183 = pr_i183 := (rfl)
theorem qI_184 : pr_I 184 = pr_i184 := (rfl)
theorem qI_185 : pr_I 185 = pr_i185 := (rfl)
theorem qI_186 : pr_I 186 = pr_i186 := (rfl)
theorem qI_187 : pr_I 187 = pr_i187 := (rfl)
theorem qI_188 : pr_I 188 = pr_i188 := (rfl)
theorem qI_189 : pr_I 189 = pr_i189 := (rfl)
theorem qI_190 : pr_I 190 = pr_i190 := (rfl)
theorem qI_191 : pr_I 191 = pr_i191 := (rfl)
theorem qI_192 : pr_I 192 = pr_i192 := (rfl)
theorem qI_193 : pr_I 193 = pr_i193 := (rfl)
theorem qI_194 : pr_I 194 = pr_i194 := (rfl)
theorem qI_195 : pr_I 195 = pr_i195 := (rfl)
theorem qI_196 : pr_I 196 = pr_i196 := (rfl)
theorem qI_197 : pr_I 197 = pr_i197 := (rfl)
theorem qI_198 : pr_I 198 = pr_i198 := (rfl)
theorem qI_199 : pr_I 199 = pr_i199 := (rfl)
theorem qI_200 : pr_I 200 = pr_i200 := (rfl)
theorem qI_201 : pr_I 201 = pr_i201 := (rfl)
theorem qI_202 : pr_I 202 = pr_i202 := (rfl)
theorem qI_203 : pr_I 203 = pr_i203 := (rfl)
theorem qI_204 : pr_I 204 = pr_i204 := (rfl)
theorem qI_205 : pr_I 205 = pr_i205 := (rfl)
theorem qI_206 : pr_I 206 = pr_i206 := (rfl)
theorem qI_207 : pr_I 207 = pr_i207 := (rfl)
theorem qI_208 : pr_I 208 = pr_i208 := (rfl)
theorem qI_209 : pr_I 209 = pr_i209 := (rfl)
theorem qI_210 : pr_I 210 = pr_i210 := (rfl)
theorem qI_211 : pr_I 211 = pr_i211 := (rfl)
theorem qI_212 : pr_I 212 = pr_i212 := (rfl)
theorem qI_213 : pr_I 213 = pr_i213 := (rfl)
theorem qI_214 : pr_I 214 = pr_i214 := (rfl)
theorem qI_215 : pr_I 215 = pr_i215 := (rfl)
theorem qI_216 : pr_I 216 = pr_i216 := (rfl)
theorem qI_217 : pr_I 217 = pr_i217 := (rfl)
theorem qI_218 : pr_I 218 = pr_i218 := (rfl)
theorem qI_219 : pr_I 219 = pr_i219 := (rfl)
theorem qI_220 : pr_I 220 = pr_i220 := (rfl)
theorem qI_221 : pr_I 221 = pr_i221 := (rfl)
theorem qI_222 : pr_I 222 = pr_i222 := (rfl)
theorem qI_223 : pr_I 223 = pr_i223 := (rfl)
theorem qI_224 : pr_I 224 = pr_i224 := (rfl)
theorem qI_225 : pr_I 225 = pr_i225 := (rfl)
theorem qI_226 : pr_I 226 = pr_i226 := (rfl)
theorem qI_227 : pr_I 227 = pr_i227 := (rfl)
theorem qI_228 : pr_I 228 = pr_i228 := (rfl)
theorem qI_229 : pr_I 229 = pr_i229 := (rfl)
theorem qI_230 : pr_I 230 = pr_i230 := (rfl)
theorem qI_231 : pr_I 231 = pr_i231 := (rfl)
theorem qI_232 : pr_I 232 = pr_i232 := (rfl)
theorem qI_233 : pr_I 233 = pr_i233 := (rfl)
theorem qI_234 : pr_I 234 = pr_i234 := (rfl)
theorem qI_235 : pr_I 235 = pr_i235 := (rfl)
theorem qI_236 : pr_I 236 = pr_i236 := (rfl)
theorem qI_237 : pr_I 237 = pr_i237 := (rfl)
theorem qI_238 : pr_I 238 = pr_i238 := (rfl)
theorem qI_239 : pr_I 239 = pr_i239 := (rfl)
theorem qI_240 : pr_I 240 = pr_i240 := (rfl)
theorem qI_241 : pr_I 241 = pr_i241 := (rfl)
theorem qI_242 : pr_I 242 = pr_i242 := (rfl)
theorem qI_243 : pr_I 243 = pr_i243 := (rfl)
theorem qI_244 : pr_I 244 = pr_i244 := (rfl)
theorem qI_245 : pr_I 245 = pr_i245 := (rfl)
theorem qI_246 : pr_I 246 = pr_i246 := (rfl)
theorem qI_247 : pr_I 247 = pr_i247 := (rfl)
theorem qI_248 : pr_I 248 = pr_i248 := (rfl)
theorem qI_249 : pr_I 249 = pr_i249 := (rfl)
theorem qI_250 : pr_I 250 = pr_i250 := (rfl)
theorem qI_251 : pr_I 251 = pr_i251 := (rfl)
theorem qI_252 : pr_I 252 = pr_i252 := (rfl)
theorem qI_253 : pr_I 253 = pr_i253 := (rfl)
theorem qI_254 : pr_I 254 = pr_i254 := (rfl)
theorem qI_255 : pr_I 255 = pr_i255 := (rfl)
theorem qI_256 : pr_I 256 = pr_i256 := (rfl)
theorem qI_257 : pr_I 257 = pr_i257 := (rfl)
theorem qI_258 : pr_I 258 = pr_i258 := (rfl)
theorem qI_259 : pr_I 259 = pr_i259 := (rfl)
theorem qI_260 : pr_I 260 = pr_i260 := (rfl)
theorem qI_261 : pr_I 261 = pr_i261 := (rfl)
theorem qI_262 : pr_I 262 = pr_i262 := (rfl)
theorem qI_263 : pr_I 263 = pr_i263 := (rfl)
theorem qI_264 : pr_I 264 = pr_i264 := (rfl)
theorem qI_265 : pr_I 265 = pr_i265 := (rfl)
theorem qI_266 : pr_I 266 = pr_i266 := (rfl)
theorem qI_267 : pr_I 267 = pr_i267 := (rfl)
theorem qI_268 : pr_I 268 = pr_i268 := (rfl)
theorem qI_269 : pr_I 269 = pr_i269 := (rfl)
theorem qI_270 : pr_I 270 = pr_i270 := (rfl)
theorem qI_271 : pr_I 271 = pr_i271 := (rfl)
theorem qI_272 : pr_I 272 = pr_i272 := (rfl)
theorem qI_273 : pr_I 273 = pr_i273 := (rfl)
theorem qI_274 : pr_I 274 = pr_i274 := (rfl)
theorem qI_275 : pr_I 275 = pr_i275 := (rfl)
theorem qI_276 : pr_I 276 = pr_i276 := (rfl)
theorem qI_277 : pr_I 277 = pr_i277 := (rfl)
theorem qI_278 : pr_I 278 = pr_i278 := (rfl)
theorem qI_279 : pr_I 279 = pr_i279 := (rfl)
theorem qI_280 : pr_I 280 = pr_i280 := (rfl)
theorem qI_281 : pr_I 281 = pr_i281 := (rfl)
theorem qI_282 : pr_I 282 = pr_i282 := (rfl)
theorem qI_283 : pr_I 283 = pr_i283 := (rfl)
theorem qI_284 : pr_I 284 = pr_i284 := (rfl)
theorem qI_285 : pr_I 285 = pr_i285 := (rfl)
theorem qI_286 : pr_I 286 = pr_i286 := (rfl)
theorem qI_287 : pr_I 287 = pr_i287 := (rfl)
theorem qI_288 : pr_I 288 = pr_i288 := (rfl)
theorem qI_289 : pr_I 289 = pr_i289 := (rfl)
theorem qI_290 : pr_I 290 = pr_i290 := (rfl)
theorem qI_291 : pr_I 291 = pr_i291 := (rfl)
theorem qI_292 : pr_I 292 = pr_i292 := (rfl)
theorem qI_293 : pr_I 293 = pr_i293 := (rfl)
theorem qI_294 : pr_I 294 = pr_i294 := (rfl)
theorem qI_295 : pr_I 295 = pr_i295 := (rfl)
theorem qI_296 : pr_I 296 = pr_i296 := (rfl)
theorem qI_297 : pr_I 297 = pr_i297 := (rfl)
theorem qI_298 : pr_I 298 = pr_i298 := (rfl)
theorem qI_299 : pr_I 299 = pr_i299 := (rfl)
theorem qI_300 : pr_I 300 = pr_i300 := (rfl)
theorem qI_301 : pr_I 301 = pr_i301 := (rfl)
theorem qI_302 : pr_I 302 = pr_i302 := (rfl)
theorem qI_303 : pr_I 303 = pr_i303 := (rfl)
theorem qI_304 : pr_I 304 = pr_i304 := (rfl)
theorem qI_305 : pr_I 305 = pr_i305 := (rfl)
theorem qI_306 : pr_I 306 = pr_i306 := (rfl)
theorem qI_307 : pr_I 307 = pr_i307 := (rfl)
theorem qI_308 : pr_I 308 = pr_i308 := (rfl)
theorem qI_309 : pr_I 309 = pr_i309 := (rfl)
theorem qI_310 : pr_I 310 = pr_i310 := (rfl)
theorem qI_311 : pr_I 311 = pr_i311 := (rfl)
theorem qI_312 : pr_I 312 = pr_i312 := (rfl)
theorem qI_313 : pr_I 313 = pr_i313 := (rfl)
theorem qI_314 : pr_I 314 = pr_i314 := (rfl)
theorem qI_315 : pr_I 315 = pr_i315 := (rfl)
theorem qI_316 : pr_I 316 = pr_i316 := (rfl)
theorem qI_317 : pr_I 317 = pr_i317 := (rfl)
theorem qI_318 : pr_I 318 = pr_i318 := (rfl)
theorem qI_319 : pr_I 319 = pr_i319 := (rfl)
theorem qI_320 : pr_I 320 = pr_i320 := (rfl)
theorem qI_321 : pr_I 321 = pr_i321 := (rfl)
theorem qI_322 : pr_I 322 = pr_i322 := (rfl)
theorem qI_323 : pr_I 323 = pr_i323 := (rfl)
theorem qI_324 : pr_I 324 = pr_i324 := (rfl)
theorem qI_325 : pr_I 325 = pr_i325 := (rfl)
theorem qI_326 : pr_I 326 = pr_i326 := (rfl)
theorem qI_327 : pr_I 327 = pr_i327 := (rfl)
theorem qI_328 : pr_I 328 = pr_i328 := (rfl)
theorem qI_329 : pr_I 329 = pr_i329 := (rfl)
theorem qI_330 : pr_I 330 = pr_i330 := (rfl)
theorem qI_331 : pr_I 331 = pr_i331 := (rfl)
theorem qI_332 : pr_I 332 = pr_i332 := (rfl)
theorem qI_333 : pr_I 333 = pr_i333 := (rfl)
theorem qI_334 : pr_I 334 = pr_i334 := (rfl)
theorem qI_335 : pr_I 335 = pr_i335 := (rfl)
theorem qI_336 : pr_I 336 = pr_i336 := (rfl)
theorem qI_337 : pr_I 337 = pr_i337 := (rfl)
theorem qI_338 : pr_I 338 = pr_i338 := (rfl)
theorem qI_339 : pr_I 339 = pr_i339 := (rfl)
theorem qI_340 : pr_I 340 = pr_i340 := (rfl)
theorem qI_341 : pr_I 341 = pr_i341 := (rfl)
theorem qI_342 : pr_I 342 = pr_i342 := (rfl)
theorem qI_343 : pr_I 343 = pr_i343 := (rfl)
theorem qI_344 : pr_I 344 = pr_i344 := (rfl)
theorem qI_345 : pr_I 345 = pr_i345 := (rfl)
theorem qI_346 : pr_I 346 = pr_i346 := (rfl)
theorem qI_347 : pr_I 347 = pr_i347 := (rfl)
theorem qI_348 : pr_I 348 = pr_i348 := (rfl)
theorem qI_349 : pr_I 349 = pr_i349 := (rfl)
theorem qI_350 : pr_I 350 = pr_i350 := (rfl)
theorem qI_351 : pr_I 351 = pr_i351 := (rfl)
theorem qI_353 : pr_I 353 = pr_i353 := (rfl)
theorem qP_0 : pr_P 0 = pr_m0 := rfl
theorem qP_1 : pr_P 1 = pr_m1 := rfl
theorem qP_2 : pr_P 2 = pr_m2 := rfl
theorem qP_3 : pr_P 3 = pr_m3 := rfl
theorem qP_4 : pr_P 4 = pr_m4 := rfl
theorem qP_5 : pr_P 5 = pr_m5 := rfl
theorem qP_6 : pr_P 6 = pr_m6 := rfl
theorem qP_7 : pr_P 7 = pr_m7 := rfl
theorem qP_8 : pr_P 8 = pr_m8 := rfl
theorem qP_9 : pr_P 9 = pr_m9 := rfl
theorem qP_10 : pr_P 10 = pr_m10 := rfl
theorem qP_11 : pr_P 11 = pr_m11 := rfl
theorem qP_12 : pr_P 12 = pr_m12 := rfl
theorem qP_13 : pr_P 13 = pr_m13 := rfl
theorem qP_14 : pr_P 14 = pr_m14 := rfl
theorem qP_15 : pr_P 15 = pr_m15 := rfl
theorem qP_16 : pr_P 16 = pr_m16 := rfl
theorem qP_17 : pr_P 17 = pr_m17 := rfl
theorem qP_18 : pr_P 18 = pr_m18 := rfl
theorem qP_19 : pr_P 19 = pr_m19 := rfl
theorem qP_20 : pr_P 20 = pr_m20 := rfl
theorem qP_21 : pr_P 21 = pr_m21 := rfl
theorem qP_22 : pr_P 22 = pr_m22 := rfl
theorem qP_23 : pr_P 23 = pr_m23 := rfl
theorem qP_24 : pr_P 24 = pr_m24 := rfl
theorem qP_25 : pr_P 25 = pr_m25 := rfl
theorem qP_26 : pr_P 26 = pr_m26 := rfl
theorem qP_27 : pr_P 27 = pr_m27 := rfl
theorem qP_28 : pr_P 28 = pr_m28 := rfl
theorem qP_29 : pr_P 29 = pr_m29 := rfl
theorem qP_30 : pr_P 30 = pr_m30 := rfl
theorem qP_31 : pr_P 31 = pr_m31 := rfl
theorem qP_32 : pr_P 32 = pr_m32 := rfl
theorem qP_33 : pr_P 33 = pr_m33 := rfl
theorem qP_34 : pr_P 34 = pr_m34 := rfl
theorem qP_35 : pr_P 35 = pr_m35 := rfl
theorem qP_36 : pr_P 36 = pr_m36 := rfl
theorem qP_37 : pr_P 37 = pr_m37 := rfl
theorem qP_38 : pr_P 38 = pr_m38 := rfl
theorem qP_39 : pr_P 39 = pr_m39 := rfl
theorem qP_40 : pr_P 40 = pr_m40 := rfl
theorem qP_41 : pr_P 41 = pr_m41 := rfl
theorem qP_42 : pr_P 42 = pr_m42 := rfl
theorem qP_43 : pr_P 43 = pr_m43 := rfl
theorem qP_44 : pr_P 44 = pr_m44 := rfl
theorem qP_45 : pr_P 45 = pr_m45 := rfl
theorem qP_46 : pr_P 46 = pr_m46 := rfl
theorem qP_47 : pr_P 47 = pr_m47 := rfl
theorem qP_48 : pr_P 48 = pr_m48 := rfl
theorem qP_49 : pr_P 49 = pr_m49 := rfl
theorem qP_50 : pr_P 50 = pr_m50 := rfl
theorem qP_51 : pr_P 51 = pr_m51 := rfl
theorem qP_52 : pr_P 52 = pr_m52 := rfl
theorem qP_53 : pr_P 53 = pr_m53 := rfl
theorem qP_54 : pr_P 54 = pr_m54 := rfl
theorem qP_55 : pr_P 55 = pr_m55 := rfl
theorem qP_56 : pr_P 56 = pr_m56 := rfl
theorem qP_57 : pr_P 57 = pr_m57 := rfl
theorem qP_58 : pr_P 58 = pr_m58 := rfl
theorem qP_59 : pr_P 59 = pr_m59 := rfl
theorem qP_60 : pr_P 60 = pr_m60 := rfl
theorem qP_61 : pr_P 61 = pr_m61 := rfl
theorem qP_62 : pr_P 62 = pr_m62 := rfl
theorem qP_63 : pr_P 63 = pr_m63 := rfl
theorem qP_64 : pr_P 64 = pr_m64 := rfl
theorem qP_65 : pr_P 65 = pr_m65 := rfl
theorem qP_66 : pr_P 66 = pr_m66 := rfl
theorem qP_67 : pr_P 67 = pr_m67 := rfl
theorem qP_68 : pr_P 68 = pr_m68 := rfl
theorem qP_69 : pr_P 69 = pr_m69 := rfl
theorem qP_70 : pr_P 70 = pr_m70 := rfl
theorem qP_71 : pr_P 71 = pr_m71 := rfl
theorem qP_72 : pr_P 72 = pr_m72 := rfl
theorem qP_73 : pr_P 73 = pr_m73 := rfl
theorem qP_74 : pr_P 74 = pr_m74 := rfl
theorem qP_75 : pr_P 75 = pr_m75 := rfl
theorem qP_76 : pr_P 76 = pr_m76 := rfl
theorem qP_77 : pr_P 77 = pr_m77 := rfl
theorem qP_78 : pr_P 78 = pr_m78 := rfl
theorem qP_79 : pr_P 79 = pr_m79 := rfl
theorem qP_80 : pr_P 80 = pr_m80 := rfl
theorem qP_81 : pr_P 81 = pr_m81 := rfl
theorem qP_82 : pr_P 82 = pr_m82 := rfl
theorem qP_83 : pr_P 83 = pr_m83 := rfl
theorem qP_84 : pr_P 84 = pr_m84 := rfl
theorem qP_85 : pr_P 85 = pr_m85 := rfl
theorem qP_86 : pr_P 86 = pr_m86 := rfl
theorem qP_87 : pr_P 87 = pr_m87 := rfl
theorem qP_88 : pr_P 88 = pr_m88 := rfl
theorem qP_89 : pr_P 89 = pr_m89 := rfl
theorem qP_90 : pr_P 90 = pr_m90 := rfl
theorem qP_91 : pr_P 91 = pr_m91 := rfl
theorem qP_92 : pr_P 92 = pr_m92 := rfl
theorem qP_93 : pr_P 93 = pr_m93 := rfl
theorem qP_94 : pr_P 94 = pr_m94 := rfl
theorem qP_95 : pr_P 95 = pr_m95 := rfl
theorem qP_96 : pr_P 96 = pr_m96 := rfl
theorem qP_97 : pr_P 97 = pr_m97 := rfl
theorem qP_98 : pr_P 98 = pr_m98 := rfl
theorem qP_99 : pr_P 99 = pr_m99 := rfl
theorem qP_100 : pr_P 100 = pr_m100 := rfl
theorem qP_101 : pr_P 101 = pr_m101 := rfl
theorem qP_102 : pr_P 102 = pr_m102 := rfl
theorem qP_103 : pr_P 103 = pr_m103 := rfl
theorem qP_104 : pr_P 104 = pr_m104 := rfl
theorem qP_105 : pr_P 105 = pr_m105 := rfl
theorem qP_106 : pr_P 106 = pr_m106 := rfl
theorem qP_107 : pr_P 107 = pr_m107 := rfl
theorem qP_108 : pr_P 108 = pr_m108 := rfl
theorem qP_109 : pr_P 109 = pr_m109 := rfl
theorem qP_110 : pr_P 110 = pr_m110 := rfl
theorem qP_111 : pr_P 111 = pr_m111 := rfl
theorem qP_112 : pr_P 112 = pr_m112 := rfl
theorem qP_113 : pr_P 113 = pr_m113 := rfl
theorem qP_114 : pr_P 114 = pr_m114 := rfl
theorem qP_115 : pr_P 115 = pr_m115 := rfl
theorem qP_116 : pr_P 116 = pr_m116 := rfl
theorem qP_117 : pr_P 117 = pr_m117 := rfl
theorem qP_118 : pr_P 118 = pr_m118 := rfl
theorem qP_119 : pr_P 119 = pr_m119 := rfl
theorem qP_120 : pr_P 120 = pr_m120 := rfl
theorem qP_121 : pr_P 121 = pr_m121 := rfl
theorem qP_122 : pr_P 122 = pr_m122 := rfl
theorem qP_123 : pr_P 123 = pr_m123 := rfl
theorem qP_124 : pr_P 124 = pr_m124 := rfl
theorem qP_125 : pr_P 125 = pr_m125 := rfl
theorem qP_126 : pr_P 126 = pr_m126 := rfl
theorem qP_127 : pr_P 127 = pr_m127 := rfl
theorem qP_128 : pr_P 128 = pr_m128 := rfl
theorem qP_129 : pr_P 129 = pr_m129 := rfl
theorem qP_130 : pr_P 130 = pr_m130 := rfl
theorem qP_131 : pr_P 131 = pr_m131 := rfl
theorem qP_132 : pr_P 132 = pr_m132 := rfl
theorem qP_133 : pr_P 133 = pr_m133 := rfl
theorem qP_134 : pr_P 134 = pr_m134 := rfl
theorem qP_135 : pr_P 135 = pr_m135 := rfl
theorem qP_136 : pr_P 136 = pr_m136 := rfl
theorem qP_137 : pr_P 137 = pr_m137 := rfl
theorem qP_138 : pr_P 138 = pr_m138 := rfl
theorem qP_139 : pr_P 139 = pr_m139 := rfl
theorem qP_140 : pr_P 140 = pr_m140 := rfl
theorem qP_141 : pr_P 141 = pr_m141 := rfl
theorem qP_142 : pr_P 142 = pr_m142 := rfl
theorem qP_143 : pr_P 143 = pr_m143 := rfl
theorem qP_144 : pr_P 144 = pr_m144 := rfl
theorem qP_145 : pr_P 145 = pr_m145 := rfl
theorem qP_146 : pr_P 146 = pr_m146 := rfl
theorem qP_147 : pr_P 147 = pr_m147 := rfl
theorem qP_148 : pr_P 148 = pr_m148 := rfl
theorem qP_149 : pr_P 149 = pr_m149 := rfl
theorem qP_150 : pr_P 150 = pr_m150 := rfl
theorem qP_151 : pr_P 151 = pr_m151 := rfl
theorem qP_152 : pr_P 152 = pr_m152 := rfl
theorem qP_153 : pr_P 153 = pr_m153 := rfl
theorem qP_154 : pr_P 154 = pr_m154 := rfl
theorem qP_155 : pr_P 155 = pr_m155 := rfl
theorem qP_156 : pr_P 156 = pr_m156 := rfl
theorem qP_157 : pr_P 157 = pr_m157 := rfl
theorem qP_158 : pr_P 158 = pr_m158 := rfl
theorem qP_159 : pr_P 159 = pr_m159 := rfl
theorem qP_160 : pr_P 160 = pr_m160 := rfl
theorem qP_161 : pr_P 161 = pr_m161 := rfl
theorem qP_162 : pr_P 162 = pr_m162 := rfl
theorem qP_163 : pr_P 163 = pr_m163 := rfl
theorem qP_164 : pr_P 164 = pr_m164 := rfl
theorem qP_165 : pr_P 165 = pr_m165 := rfl
theorem qP_166 : pr_P 166 = pr_m166 := rfl
theorem qP_167 : pr_P 167 = pr_m167 := rfl
theorem qP_168 : pr_P 168 = pr_m168 := rfl
theorem qP_169 : pr_P 169 = pr_m169 := rfl
theorem qP_170 : pr_P 170 = pr_m170 := rfl
theorem qP_171 : pr_P 171 = pr_m171 := rfl
theorem qP_172 : pr_P 172 = pr_m172 := rfl
theorem qP_173 : pr_P 173 = pr_m173 := rfl
theorem qP_174 : pr_P 174 = pr_m174 := rfl
theorem qP_175 : pr_P 175 = pr_m175 := rfl
theorem qP_176 : pr_P 176 = pr_m176 := rfl
theorem qP_177 : pr_P 177 = pr_m177 := rfl
theorem qP_178 : pr_P 178 = pr_m178 := rfl
theorem qP_179 : pr_P 179 = pr_m179 := rfl
theorem qP_180 : pr_P 180 = pr_m180 := rfl
theorem qP_181 : pr_P 181 = pr_m181 := rfl
theorem qP_182 : pr_P 182 = pr_m182 := rfl
theorem qP_183 : pr_P 183 = pr_m183 := rfl
theorem qP_184 : pr_P 184 = pr_m184 := rfl
theorem qP_185 : pr_P 185 = pr_m185 := rfl
theorem qP_186 : pr_P 186 = pr_m186 := rfl
theorem qP_187 : pr_P 187 = pr_m187 := rfl
theorem qP_188 : pr_P 188 = pr_m188 := rfl
theorem qP_189 : pr_P 189 = pr_m189 := rfl
theorem qP_190 : pr_P 190 = pr_m190 := rfl
theorem qP_191 : pr_P 191 = pr_m191 := rfl
theorem qP_192 : pr_P 192 = pr_m192 := rfl
theorem qP_193 : pr_P 193 = pr_m193 := rfl
theorem qP_194 : pr_P 194 = pr_m194 := rfl
theorem qP_195 : pr_P 195 = pr_m195 := rfl
theorem qP_196 : pr_P 196 = pr_m196 := rfl
theorem qP_197 : pr_P 197 = pr_m197 := rfl
theorem qP_198 : pr_P 198 = pr_m198 := rfl
theorem qP_199 : pr_P 199 = pr_m199 := rfl
theorem qP_200 : pr_P 200 = pr_m200 := rfl
theorem qP_201 : pr_P 201 = pr_m201 := rfl
theorem qP_202 : pr_P 202 = pr_m202 := rfl
theorem qP_203 : pr_P 203 = pr_m203 := rfl
theorem qP_204 : pr_P 204 = pr_m204 := rfl
theorem qP_205 : pr_P 205 = pr_m205 := rfl
theorem qP_206 : pr_P 206 = pr_m206 := rfl
theorem qP_207 : pr_P 207 = pr_m207 := rfl
theorem qP_208 : pr_P 208 = pr_m208 := rfl
theorem qP_209 : pr_P 209 = pr_m209 := rfl
theorem qP_210 : pr_P 210 = pr_m210 := rfl
theorem qP_211 : pr_P 211 = pr_m211 := rfl
theorem qP_212 : pr_P 212 = pr_m212 := rfl
theorem qP_213 : pr_P 213 = pr_m213 := rfl
theorem qP_214 : pr_P 214 = pr_m214 := rfl
theorem qP_215 : pr_P 215 = pr_m215 := rfl
theorem qP_216 : pr_P 216 = pr_m216 := rfl
theorem qP_217 : pr_P 217 = pr_m217 := rfl
theorem qP_218 : pr_P 218 = pr_m218 := rfl
theorem qP_219 : pr_P 219 = pr_m219 := rfl
theorem qP_220 : pr_P 220 = pr_m220 := rfl
theorem qP_221 : pr_P 221 = pr_m221 := rfl
theorem qP_222 : pr_P 222 = pr_m222 := rfl
theorem qP_223 : pr_P 223 = pr_m223 := rfl
theorem qP_224 : pr_P 224 = pr_m224 := rfl
theorem qP_225 : pr_P 225 = pr_m225 := rfl
theorem qP_226 : pr_P 226 = pr_m226 := rfl
theorem qP_227 : pr_P 227 = pr_m227 := rfl
theorem qP_228 : pr_P 228 = pr_m228 := rfl
theorem qP_229 : pr_P 229 = pr_m229 := rfl
theorem qP_230 : pr_P 230 = pr_m230 := rfl
theorem qP_231 : pr_P 231 = pr_m231 := rfl
theorem qP_232 : pr_P 232 = pr_m232 := rfl
theorem qP_233 : pr_P 233 = pr_m233 := rfl
theorem qP_234 : pr_P 234 = pr_m234 := rfl
theorem qP_235 : pr_P 235 = pr_m235 := rfl
theorem qP_236 : pr_P 236 = pr_m236 := rfl
theorem qP_237 : pr_P 237 = pr_m237 := rfl
theorem qP_238 : pr_P 238 = pr_m238 := rfl
theorem qP_239 : pr_P 239 = pr_m239 := rfl
theorem qP_240 : pr_P 240 = pr_m240 := rfl
theorem qP_241 : pr_P 241 = pr_m241 := rfl
theorem qP_242 : pr_P 242 = pr_m242 := rfl
theorem qP_243 : pr_P 243 = pr_m243 := rfl
theorem qP_244 : pr_P 244 = pr_m244 := rfl
theorem qP_245 : pr_P 245 = pr_m245 := rfl
theorem qP_246 : pr_P 246 = pr_m246 := rfl
theorem qP_247 : pr_P 247 = pr_m247 := rfl
theorem qP_248 : pr_P 248 = pr_m248 := rfl
theorem qP_249 : pr_P 249 = pr_m249 := rfl
theorem qP_250 : pr_P 250 = pr_m250 := rfl
theorem qP_251 : pr_P 251 = pr_m251 := rfl
theorem qP_252 : pr_P 252 = pr_m252 := rfl
theorem qP_253 : pr_P 253 = pr_m253 := rfl
theorem qP_254 : pr_P 254 = pr_m254 := rfl
theorem qP_255 : pr_P 255 = pr_m255 := rfl
theorem qP_256 : pr_P 256 = pr_m256 := rfl
theorem qP_257 : pr_P 257 = pr_m257 := rfl
theorem qP_258 : pr_P 258 = pr_m258 := rfl
theorem qP_259 : pr_P 259 = pr_m259 := rfl
theorem qP_260 : pr_P 260 = pr_m260 := rfl
theorem qP_261 : pr_P 261 = pr_m261 := rfl
theorem qP_262 : pr_P 262 = pr_m262 := rfl
theorem qP_263 : pr_P 263 = pr_m263 := rfl
theorem qP_264 : pr_P 264 = pr_m264 := rfl
theorem qP_265 : pr_P 265 = pr_m265 := rfl
theorem qP_266 : pr_P 266 = pr_m266 := rfl
theorem qP_267 : pr_P 267 = pr_m267 := rfl
theorem qP_268 : pr_P 268 = pr_m268 := rfl
theorem qP_269 : pr_P 269 = pr_m269 := rfl
theorem qP_270 : pr_P 270 = pr_m270 := rfl
theorem qP_271 : pr_P 271 = pr_m271 := rfl
theorem qP_272 : pr_P 272 = pr_m272 := rfl
theorem qP_273 : pr_P 273 = pr_m273 := rfl
theorem qP_274 : pr_P 274 = pr_m274 := rfl
theorem qP_275 : pr_P 275 = pr_m275 := rfl
theorem qP_276 : pr_P 276 = pr_m276 := rfl
theorem qP_277 : pr_P 277 = pr_m277 := rfl
theorem qP_278 : pr_P 278 = pr_m278 := rfl
theorem qP_279 : pr_P 279 = pr_m279 := rfl
theorem qP_280 : pr_P 280 = pr_m280 := rfl
theorem qP_281 : pr_P 281 = pr_m281 := rfl
theorem qP_282 : pr_P 282 = pr_m282 := rfl
theorem qP_283 : pr_P 283 = pr_m283 := rfl
theorem qP_284 : pr_P 284 = pr_m284 := rfl
theorem qP_285 : pr_P 285 = pr_m285 := rfl
theorem qP_286 : pr_P 286 = pr_m286 := rfl
theorem qP_287 : pr_P 287 = pr_m287 := rfl
theorem qP_288 : pr_P 288 = pr_m288 := rfl
theorem qP_289 : pr_P 289 = pr_m289 := rfl
theorem qP_290 : pr_P 290 = pr_m290 := rfl
theorem qP_291 : pr_P 291 = pr_m291 := rfl
theorem qP_292 : pr_P 292 = pr_m292 := rfl
theorem qP_293 : pr_P 293 = pr_m293 := rfl
theorem qP_294 : pr_P 294 = pr_m294 := rfl
theorem qP_295 : pr_P 295 = pr_m295 := rfl
theorem qP_296 : pr_P 296 = pr_m296 := rfl
theorem qP_297 : pr_P 297 = pr_m297 := rfl
theorem qP_298 : pr_P 298 = pr_m298 := rfl
theorem qP_299 : pr_P 299 = pr_m299 := rfl
theorem qP_300 : pr_P 300 = pr_m300 := rfl
theorem qP_301 : pr_P 301 = pr_m301 := rfl
theorem qP_302 : pr_P 302 = pr_m302 := rfl
theorem qP_303 : pr_P 303 = pr_m303 := rfl
theorem qP_304 : pr_P 304 = pr_m304 := rfl
theorem qP_305 : pr_P 305 = pr_m305 := rfl
theorem qP_306 : pr_P 306 = pr_m306 := rfl
theorem qP_307 : pr_P 307 = pr_m307 := rfl
theorem qP_308 : pr_P 308 = pr_m308 := rfl
theorem qP_309 : pr_P 309 = pr_m309 := rfl
theorem qP_310 : pr_P 310 = pr_m310 := rfl
theorem qP_311 : pr_P 311 = pr_m311 := rfl
theorem qP_312 : pr_P 312 = pr_m312 := rfl
theorem qP_313 : pr_P 313 = pr_m313 := rfl
theorem qP_314 : pr_P 314 = pr_m314 := rfl
theorem qP_315 : pr_P 315 = pr_m315 := rfl
theorem qP_316 : pr_P 316 = pr_m316 := rfl
theorem qP_317 : pr_P 317 = pr_m317 := rfl
theorem qP_318 : pr_P 318 = pr_m318 := rfl
theorem qP_319 : pr_P 319 = pr_m319 := rfl
theorem qP_320 : pr_P 320 = pr_m320 := rfl
theorem qP_321 : pr_P 321 = pr_m321 := rfl
theorem qP_322 : pr_P 322 = pr_m322 := rfl
theorem qP_323 : pr_P 323 = pr_m323 := rfl
theorem qP_324 : pr_P 324 = pr_m324 := rfl
theorem qP_325 : pr_P 325 = pr_m325 := rfl
theorem qP_326 : pr_P 326 = pr_m326 := rfl
theorem qP_327 : pr_P 327 = pr_m327 := rfl
theorem qP_328 : pr_P 328 = pr_m328 := rfl
theorem qP_329 : pr_P 329 = pr_m329 := rfl
theorem qP_330 : pr_P 330 = pr_m330 := rfl
theorem qP_331 : pr_P 331 = pr_m331 := rfl
theorem qP_332 : pr_P 332 = pr_m332 := rfl
theorem qP_333 : pr_P 333 = pr_m333 := rfl
theorem qP_334 : pr_P 334 = pr_m334 := rfl
theorem qP_335 : pr_P 335 = pr_m335 := rfl
theorem qP_336 : pr_P 336 = pr_m336 := rfl
theorem qP_337 : pr_P 337 = pr_m337 := rfl
theorem qP_338 : pr_P 338 = pr_m338 := rfl
theorem qP_339 : pr_P 339 = pr_m339 := rfl
theorem qP_340 : pr_P 340 = pr_m340 := rfl
theorem qP_341 : pr_P 341 = pr_m341 := rfl
theorem qP_342 : pr_P 342 = pr_m342 := rfl
theorem qP_343 : pr_P 343 = pr_m343 := rfl
theorem qP_344 : pr_P 344 = pr_m344 := rfl
theorem qP_345 : pr_P 345 = pr_m345 := rfl
theorem qP_346 : pr_P 346 = pr_m346 := rfl
theorem qP_347 : pr_P 347 = pr_m347 := rfl
theorem qP_348 : pr_P 348 = pr_m348 := rfl
theorem qP_349 : pr_P 349 = pr_m349 := rfl
theorem qP_350 : pr_P 350 = pr_m350 := rfl
theorem qP_351 : pr_P 351 = pr_m351 := rfl
theorem qP_353 : pr_P 353 = pr_m353 := rfl
