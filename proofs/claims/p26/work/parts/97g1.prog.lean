/-! ===== the program's methods as the class files have them; the law up to its loop (own work, by program: wip/p2/gen98.py) ===== -/
def pr_y0 : MethodName := ⟨"OrphanTree", "<init>", "()V"⟩
def pr_i0 : ev_Im := (pr_y0, (prog_1_method_1_code, (none, [])))
def pr_y1 : MethodName := ⟨"OrphanTree", "appendInput", "(IIIII)I"⟩
def pr_i1 : ev_Im := (pr_y1, (prog_1_method_2_code, ((some .int), [])))
def pr_y2 : MethodName := ⟨"OrphanTree", "truncateInput", "(I)Z"⟩
def pr_i2 : ev_Im := (pr_y2, (prog_1_method_3_code, ((some .boolean), [])))
def pr_y3 : MethodName := ⟨"OrphanTree", "loadTree", "()I"⟩
def pr_i3 : ev_Im := (pr_y3, (prog_1_method_4_code, ((some .int), [])))
def pr_y4 : MethodName := ⟨"OrphanTree", "errorCode", "()I"⟩
def pr_i4 : ev_Im := (pr_y4, (prog_1_method_5_code, ((some .int), [])))
def pr_y5 : MethodName := ⟨"OrphanTree", "errorOffset", "()I"⟩
def pr_i5 : ev_Im := (pr_y5, (prog_1_method_6_code, ((some .int), [])))
def pr_y6 : MethodName := ⟨"OrphanTree", "count", "(I)I"⟩
def pr_i6 : ev_Im := (pr_y6, (prog_1_method_7_code, ((some .int), [])))
def pr_y7 : MethodName := ⟨"OrphanTree", "process", "(II)I"⟩
def pr_i7 : ev_Im := (pr_y7, (prog_1_method_8_code, ((some .int), [])))
def pr_y8 : MethodName := ⟨"OrphanTree", "holder", "(I)I"⟩
def pr_i8 : ev_Im := (pr_y8, (prog_1_method_9_code, ((some .int), [])))
def pr_y9 : MethodName := ⟨"OrphanTree", "rule", "(I)I"⟩
def pr_i9 : ev_Im := (pr_y9, (prog_1_method_10_code, ((some .int), [])))
def pr_y10 : MethodName := ⟨"OrphanTree", "depth", "(I)I"⟩
def pr_i10 : ev_Im := (pr_y10, (prog_1_method_11_code, ((some .int), [])))
def pr_y11 : MethodName := ⟨"OrphanTree", "isAbove", "(II)Z"⟩
def pr_i11 : ev_Im := (pr_y11, (prog_1_method_12_code, ((some .boolean), [])))
def pr_y12 : MethodName := ⟨"OrphanTree", "meet", "(II)I"⟩
def pr_i12 : ev_Im := (pr_y12, (prog_1_method_13_code, ((some .int), [])))
def pr_y13 : MethodName := ⟨"OrphanTree", "below", "(I)I"⟩
def pr_i13 : ev_Im := (pr_y13, (prog_1_method_14_code, ((some .int), [])))
def pr_y14 : MethodName := ⟨"OrphanTree", "walked", "(I)I"⟩
def pr_i14 : ev_Im := (pr_y14, (prog_1_method_15_code, ((some .int), [])))
def pr_y15 : MethodName := ⟨"OrphanTree", "atDepth", "(I)I"⟩
def pr_i15 : ev_Im := (pr_y15, (prog_1_method_16_code, ((some .int), [])))
def pr_y16 : MethodName := ⟨"OrphanTree", "height", "()I"⟩
def pr_i16 : ev_Im := (pr_y16, (prog_1_method_17_code, ((some .int), [])))
def pr_y17 : MethodName := ⟨"OrphanTree", "spawn", "(IIII)I"⟩
def pr_i17 : ev_Im := (pr_y17, (prog_1_method_18_code, ((some .int), [])))
def pr_y18 : MethodName := ⟨"OrphanTree", "exit", "(II)I"⟩
def pr_i18 : ev_Im := (pr_y18, (prog_1_method_19_code, ((some .int), [])))
def pr_y19 : MethodName := ⟨"OrphanTree", "kill", "(II)I"⟩
def pr_i19 : ev_Im := (pr_y19, (prog_1_method_20_code, ((some .int), [])))
def pr_y20 : MethodName := ⟨"OrphanTree", "read", "(I)I"⟩
def pr_i20 : ev_Im := (pr_y20, (prog_1_method_21_code, ((some .int), [])))
def pr_y21 : MethodName := ⟨"OrphanTree", "refuse", "(II)I"⟩
def pr_i21 : ev_Im := (pr_y21, (prog_1_method_22_code, ((some .int), [])))
def pr_y22 : MethodName := ⟨"OrphanTree", "accept", "(II)Z"⟩
def pr_i22 : ev_Im := (pr_y22, (prog_1_method_23_code, ((some .boolean), [])))
def pr_y23 : MethodName := ⟨"OrphanTree", "move", "(II)I"⟩
def pr_i23 : ev_Im := (pr_y23, (prog_1_method_24_code, ((some .int), [])))
def pr_y24 : MethodName := ⟨"OrphanTree", "setCapacity", "(II)I"⟩
def pr_i24 : ev_Im := (pr_y24, (prog_1_method_25_code, ((some .int), [])))
def pr_y25 : MethodName := ⟨"OrphanTree", "setBudget", "(II)I"⟩
def pr_i25 : ev_Im := (pr_y25, (prog_1_method_26_code, ((some .int), [])))
def pr_y26 : MethodName := ⟨"OrphanTree", "setHeir", "(II)I"⟩
def pr_i26 : ev_Im := (pr_y26, (prog_1_method_27_code, ((some .int), [])))
def pr_y27 : MethodName := ⟨"OrphanTree", "give", "(II)I"⟩
def pr_i27 : ev_Im := (pr_y27, (prog_1_method_28_code, ((some .int), [])))
def pr_y28 : MethodName := ⟨"OrphanTree", "adopter", "(I)I"⟩
def pr_i28 : ev_Im := (pr_y28, (prog_1_method_29_code, ((some .int), [])))
def pr_y29 : MethodName := ⟨"OrphanTree", "heirNow", "(I)I"⟩
def pr_i29 : ev_Im := (pr_y29, (prog_1_method_30_code, ((some .int), [])))
def pr_y30 : MethodName := ⟨"OrphanTree", "wouldFall", "(II)I"⟩
def pr_i30 : ev_Im := (pr_y30, (prog_1_method_31_code, ((some .int), [])))
def pr_y31 : MethodName := ⟨"OrphanTree", "wouldStand", "(II)I"⟩
def pr_i31 : ev_Im := (pr_y31, (prog_1_method_32_code, ((some .int), [])))
def pr_y32 : MethodName := ⟨"OrphanTree", "wouldHave", "(III)I"⟩
def pr_i32 : ev_Im := (pr_y32, (prog_1_method_33_code, ((some .int), [])))
def pr_y33 : MethodName := ⟨"OrphanTree", "wouldFallBy", "(II)I"⟩
def pr_i33 : ev_Im := (pr_y33, (prog_1_method_34_code, ((some .int), [])))
def pr_y34 : MethodName := ⟨"OrphanTree", "weakest", "(I)I"⟩
def pr_i34 : ev_Im := (pr_y34, (prog_1_method_35_code, ((some .int), [])))
def pr_y35 : MethodName := ⟨"OrphanTree", "roomiest", "(I)I"⟩
def pr_i35 : ev_Im := (pr_y35, (prog_1_method_36_code, ((some .int), [])))
def pr_y36 : MethodName := ⟨"OrphanTree", "allRoom", "()I"⟩
def pr_i36 : ev_Im := (pr_y36, (prog_1_method_37_code, ((some .int), [])))
def pr_y37 : MethodName := ⟨"OrphanTree", "overfull", "()I"⟩
def pr_i37 : ev_Im := (pr_y37, (prog_1_method_38_code, ((some .int), [])))
def pr_y38 : MethodName := ⟨"OrphanTree", "ofGroup", "(I)I"⟩
def pr_i38 : ev_Im := (pr_y38, (prog_1_method_39_code, ((some .int), [])))
def pr_y39 : MethodName := ⟨"OrphanTree", "nextTestament", "(I)I"⟩
def pr_i39 : ev_Im := (pr_y39, (prog_1_method_40_code, ((some .int), [])))
def pr_y40 : MethodName := ⟨"OrphanTree", "exited", "(I)I"⟩
def pr_i40 : ev_Im := (pr_y40, (prog_1_method_41_code, ((some .int), [])))
def pr_y41 : MethodName := ⟨"OrphanTree", "meanDepth", "()D"⟩
def pr_i41 : ev_Im := (pr_y41, (prog_1_method_42_code, ((some .double), [])))
def pr_y42 : MethodName := ⟨"OrphanTree", "rootShare", "()F"⟩
def pr_i42 : ev_Im := (pr_y42, (prog_1_method_43_code, ((some .float), [])))
def pr_y43 : MethodName := ⟨"OrphanTree", "prune", "(II)I"⟩
def pr_i43 : ev_Im := (pr_y43, (prog_1_method_44_code, ((some .int), [])))
def pr_y44 : MethodName := ⟨"OrphanTree", "exchange", "(II)I"⟩
def pr_i44 : ev_Im := (pr_y44, (prog_1_method_45_code, ((some .int), [])))
def pr_y45 : MethodName := ⟨"OrphanTree", "readAll", "(I)I"⟩
def pr_i45 : ev_Im := (pr_y45, (prog_1_method_46_code, ((some .int), [])))
def pr_y46 : MethodName := ⟨"OrphanTree", "testamentsBelow", "(I)I"⟩
def pr_i46 : ev_Im := (pr_y46, (prog_1_method_47_code, ((some .int), [])))
def pr_y47 : MethodName := ⟨"OrphanTree", "roomBelow", "(I)I"⟩
def pr_i47 : ev_Im := (pr_y47, (prog_1_method_48_code, ((some .int), [])))
def pr_y48 : MethodName := ⟨"OrphanTree", "mostAdopted", "()I"⟩
def pr_i48 : ev_Im := (pr_y48, (prog_1_method_49_code, ((some .int), [])))
def pr_y49 : MethodName := ⟨"OrphanTree", "adopters", "(I)I"⟩
def pr_i49 : ev_Im := (pr_y49, (prog_1_method_50_code, ((some .int), [])))
def pr_y50 : MethodName := ⟨"OrphanTree", "betterCode", "(I)I"⟩
def pr_i50 : ev_Im := (pr_y50, (prog_1_method_51_code, ((some .int), [])))
def pr_y51 : MethodName := ⟨"OrphanTree", "wouldRun", "(II)I"⟩
def pr_i51 : ev_Im := (pr_y51, (prog_1_method_52_code, ((some .int), [])))
def pr_y52 : MethodName := ⟨"OrphanTree", "readShare", "()D"⟩
def pr_i52 : ev_Im := (pr_y52, (prog_1_method_53_code, ((some .double), [])))
def pr_y53 : MethodName := ⟨"OrphanTree", "apart", "(II)I"⟩
def pr_i53 : ev_Im := (pr_y53, (prog_1_method_54_code, ((some .int), [])))
def pr_y54 : MethodName := ⟨"OrphanTree", "relieve", "(I)I"⟩
def pr_i54 : ev_Im := (pr_y54, (prog_1_method_55_code, ((some .int), [])))
def pr_y55 : MethodName := ⟨"OrphanTree", "wouldHold", "(III)I"⟩
def pr_i55 : ev_Im := (pr_y55, (prog_1_method_56_code, ((some .int), [])))
def pr_y56 : MethodName := ⟨"OrphanTree", "dutyLife", "(I)I"⟩
def pr_i56 : ev_Im := (pr_y56, (prog_1_method_57_code, ((some .int), [])))
def pr_y57 : MethodName := ⟨"OrphanTree", "heaviest", "(I)I"⟩
def pr_i57 : ev_Im := (pr_y57, (prog_1_method_58_code, ((some .int), [])))
def pr_y58 : MethodName := ⟨"OrphanTree", "groupsBelow", "(I)I"⟩
def pr_i58 : ev_Im := (pr_y58, (prog_1_method_59_code, ((some .int), [])))
def pr_y59 : MethodName := ⟨"OrphanTree", "strangers", "(I)I"⟩
def pr_i59 : ev_Im := (pr_y59, (prog_1_method_60_code, ((some .int), [])))
def pr_y60 : MethodName := ⟨"OrphanTree", "print", "(II)I"⟩
def pr_i60 : ev_Im := (pr_y60, (prog_1_method_61_code, ((some .int), [])))
def pr_y61 : MethodName := ⟨"OrphanTree", "outputByte", "(I)I"⟩
def pr_i61 : ev_Im := (pr_y61, (prog_1_method_62_code, ((some .int), [])))
def pr_y62 : MethodName := ⟨"OrphanTree", "undo", "()I"⟩
def pr_i62 : ev_Im := (pr_y62, (prog_1_method_63_code, ((some .int), [])))
def pr_y63 : MethodName := ⟨"OrphanTree", "saveState", "()I"⟩
def pr_i63 : ev_Im := (pr_y63, (prog_1_method_64_code, ((some .int), [])))
def pr_y64 : MethodName := ⟨"OrphanTree", "restoreState", "()I"⟩
def pr_i64 : ev_Im := (pr_y64, (prog_1_method_65_code, ((some .int), [])))
def pr_y65 : MethodName := ⟨"OrphanTree", "named", "(I)LOrphanTree$Proc;"⟩
def pr_i65 : ev_Im := (pr_y65, (prog_1_method_66_code, ((some (.object "OrphanTree$Proc")), [])))
def pr_y66 : MethodName := ⟨"OrphanTree", "checkRange", "(II)V"⟩
def pr_i66 : ev_Im := (pr_y66, (prog_1_method_67_code, (none, [])))
def pr_y67 : MethodName := ⟨"OrphanTree", "checkState", "(Z)V"⟩
def pr_i67 : ev_Im := (pr_y67, (prog_1_method_68_code, (none, [])))
def pr_y68 : MethodName := ⟨"OrphanTree", "numberOf", "(LOrphanTree$Proc;)I"⟩
def pr_i68 : ev_Im := (pr_y68, (prog_1_method_69_code, ((some .int), [])))
def pr_y69 : MethodName := ⟨"OrphanTree", "namedForExit", "(II)LOrphanTree$Proc;"⟩
def pr_i69 : ev_Im := (pr_y69, (prog_1_method_70_code, ((some (.object "OrphanTree$Proc")), [])))
def pr_y70 : MethodName := ⟨"OrphanTree", "checkKill", "(II)V"⟩
def pr_i70 : ev_Im := (pr_y70, (prog_1_method_71_code, (none, [])))
def pr_y71 : MethodName := ⟨"OrphanTree", "exitOfCopy", "(II)I"⟩
def pr_i71 : ev_Im := (pr_y71, (prog_1_method_72_code, ((some .int), [])))
def pr_y72 : MethodName := ⟨"OrphanTree", "putBranch", "(LOrphanTree$Output;LOrphanTree$Tree;LOrphanTree$Proc;I)V"⟩
def pr_i72 : ev_Im := (pr_y72, (prog_1_method_73_code, (none, [])))
def pr_y73 : MethodName := ⟨"OrphanTreeModel", "<init>", "()V"⟩
def pr_i73 : ev_Im := (pr_y73, (prog_9_method_1_code, (none, [])))
def pr_y74 : MethodName := ⟨"OrphanTreeModel", "thrown", "()I"⟩
def pr_i74 : ev_Im := (pr_y74, (prog_9_method_2_code, ((some .int), [])))
def pr_y75 : MethodName := ⟨"OrphanTreeModel", "inRange", "(III)Z"⟩
def pr_i75 : ev_Im := (pr_y75, (prog_9_method_3_code, ((some .boolean), [])))
def pr_y76 : MethodName := ⟨"OrphanTreeModel", "fails", "(ZI)Z"⟩
def pr_i76 : ev_Im := (pr_y76, (prog_9_method_4_code, ((some .boolean), [])))
def pr_y77 : MethodName := ⟨"OrphanTreeModel", "copies", "([II[III)V"⟩
def pr_i77 : ev_Im := (pr_y77, (prog_9_method_5_code, (none, [])))
def pr_y78 : MethodName := ⟨"OrphanTreeModel", "clear", "()V"⟩
def pr_i78 : ev_Im := (pr_y78, (prog_9_method_6_code, (none, [])))
def pr_y79 : MethodName := ⟨"OrphanTreeModel", "comes", "(IIII)I"⟩
def pr_i79 : ev_Im := (pr_y79, (prog_9_method_7_code, ((some .int), [])))
def pr_y80 : MethodName := ⟨"OrphanTreeModel", "remembers", "()V"⟩
def pr_i80 : ev_Im := (pr_y80, (prog_9_method_8_code, (none, [])))
def pr_y81 : MethodName := ⟨"OrphanTreeModel", "begins", "()V"⟩
def pr_i81 : ev_Im := (pr_y81, (prog_9_method_9_code, (none, [])))
def pr_y82 : MethodName := ⟨"OrphanTreeModel", "ends", "()V"⟩
def pr_i82 : ev_Im := (pr_y82, (prog_9_method_10_code, (none, [])))
def pr_y83 : MethodName := ⟨"OrphanTreeModel", "runs", "(I)Z"⟩
def pr_i83 : ev_Im := (pr_y83, (prog_9_method_11_code, ((some .boolean), [])))
def pr_y84 : MethodName := ⟨"OrphanTreeModel", "isChild", "(III)Z"⟩
def pr_i84 : ev_Im := (pr_y84, (prog_9_method_12_code, ((some .boolean), [])))
def pr_y85 : MethodName := ⟨"OrphanTreeModel", "childrenOf", "(II)I"⟩
def pr_i85 : ev_Im := (pr_y85, (prog_9_method_13_code, ((some .int), [])))
def pr_y86 : MethodName := ⟨"OrphanTreeModel", "roomOf", "(I)I"⟩
def pr_i86 : ev_Im := (pr_y86, (prog_9_method_14_code, ((some .int), [])))
def pr_y87 : MethodName := ⟨"OrphanTreeModel", "refusesGroup", "(II)Z"⟩
def pr_i87 : ev_Im := (pr_y87, (prog_9_method_15_code, ((some .boolean), [])))
def pr_y88 : MethodName := ⟨"OrphanTreeModel", "isOver", "(II)Z"⟩
def pr_i88 : ev_Im := (pr_y88, (prog_9_method_16_code, ((some .boolean), [])))
def pr_y89 : MethodName := ⟨"OrphanTreeModel", "deep", "(I)I"⟩
def pr_i89 : ev_Im := (pr_y89, (prog_9_method_17_code, ((some .int), [])))
def pr_y90 : MethodName := ⟨"OrphanTreeModel", "runningMany", "()I"⟩
def pr_i90 : ev_Im := (pr_y90, (prog_9_method_18_code, ((some .int), [])))
def pr_y91 : MethodName := ⟨"OrphanTreeModel", "canAdopt", "(II)Z"⟩
def pr_i91 : ev_Im := (pr_y91, (prog_9_method_19_code, ((some .boolean), [])))
def pr_y92 : MethodName := ⟨"OrphanTreeModel", "nearest", "(II)I"⟩
def pr_i92 : ev_Im := (pr_y92, (prog_9_method_20_code, ((some .int), [])))
def pr_y93 : MethodName := ⟨"OrphanTreeModel", "roomiestFor", "(IIZ)I"⟩
def pr_i93 : ev_Im := (pr_y93, (prog_9_method_21_code, ((some .int), [])))
def pr_y94 : MethodName := ⟨"OrphanTreeModel", "kinOf", "(II)I"⟩
def pr_i94 : ev_Im := (pr_y94, (prog_9_method_22_code, ((some .int), [])))
def pr_y95 : MethodName := ⟨"OrphanTreeModel", "oldest", "(II)I"⟩
def pr_i95 : ev_Im := (pr_y95, (prog_9_method_23_code, ((some .int), [])))
def pr_y96 : MethodName := ⟨"OrphanTreeModel", "findsBy", "(III)I"⟩
def pr_i96 : ev_Im := (pr_y96, (prog_9_method_24_code, ((some .int), [])))
def pr_y97 : MethodName := ⟨"OrphanTreeModel", "adopterOf", "(II)I"⟩
def pr_i97 : ev_Im := (pr_y97, (prog_9_method_25_code, ((some .int), [])))
def pr_y98 : MethodName := ⟨"OrphanTreeModel", "adopts", "(II)V"⟩
def pr_i98 : ev_Im := (pr_y98, (prog_9_method_26_code, (none, [])))
def pr_y99 : MethodName := ⟨"OrphanTreeModel", "replaces", "(II)I"⟩
def pr_i99 : ev_Im := (pr_y99, (prog_9_method_27_code, ((some .int), [])))
def pr_y100 : MethodName := ⟨"OrphanTreeModel", "heirOf", "(II)I"⟩
def pr_i100 : ev_Im := (pr_y100, (prog_9_method_28_code, ((some .int), [])))
def pr_y101 : MethodName := ⟨"OrphanTreeModel", "inheritor", "(I)I"⟩
def pr_i101 : ev_Im := (pr_y101, (prog_9_method_29_code, ((some .int), [])))
def pr_y102 : MethodName := ⟨"OrphanTreeModel", "firstZombie", "(I)I"⟩
def pr_i102 : ev_Im := (pr_y102, (prog_9_method_30_code, ((some .int), [])))
def pr_y103 : MethodName := ⟨"OrphanTreeModel", "readsAll", "(I)I"⟩
def pr_i103 : ev_Im := (pr_y103, (prog_9_method_31_code, ((some .int), [])))
def pr_y104 : MethodName := ⟨"OrphanTreeModel", "exits", "(II)I"⟩
def pr_i104 : ev_Im := (pr_y104, (prog_9_method_32_code, ((some .int), [])))
def pr_y105 : MethodName := ⟨"OrphanTreeModel", "kills", "(II)I"⟩
def pr_i105 : ev_Im := (pr_y105, (prog_9_method_33_code, ((some .int), [])))
def pr_y106 : MethodName := ⟨"OrphanTreeModel", "appendWord", "(I)V"⟩
def pr_i106 : ev_Im := (pr_y106, (prog_9_method_34_code, (none, [])))
def pr_y107 : MethodName := ⟨"OrphanTreeModel", "appendInput", "(IIIII)I"⟩
def pr_i107 : ev_Im := (pr_y107, (prog_9_method_35_code, ((some .int), [])))
def pr_y108 : MethodName := ⟨"OrphanTreeModel", "truncateInput", "(I)Z"⟩
def pr_i108 : ev_Im := (pr_y108, (prog_9_method_36_code, ((some .boolean), [])))
def pr_y109 : MethodName := ⟨"OrphanTreeModel", "byteAt", "(I)I"⟩
def pr_i109 : ev_Im := (pr_y109, (prog_9_method_37_code, ((some .int), [])))
def pr_y110 : MethodName := ⟨"OrphanTreeModel", "advanceToken", "()V"⟩
def pr_i110 : ev_Im := (pr_y110, (prog_9_method_38_code, (none, [])))
def pr_y111 : MethodName := ⟨"OrphanTreeModel", "tokenLength", "()I"⟩
def pr_i111 : ev_Im := (pr_y111, (prog_9_method_39_code, ((some .int), [])))
def pr_y112 : MethodName := ⟨"OrphanTreeModel", "failsAt", "(I)Z"⟩
def pr_i112 : ev_Im := (pr_y112, (prog_9_method_40_code, ((some .boolean), [])))
def pr_y113 : MethodName := ⟨"OrphanTreeModel", "isWord", "(Ljava/lang/String;)Z"⟩
def pr_i113 : ev_Im := (pr_y113, (prog_9_method_41_code, ((some .boolean), [])))
def pr_y114 : MethodName := ⟨"OrphanTreeModel", "isNumber", "(II)Z"⟩
def pr_i114 : ev_Im := (pr_y114, (prog_9_method_42_code, ((some .boolean), [])))
def pr_y115 : MethodName := ⟨"OrphanTreeModel", "takes", "(III)Z"⟩
def pr_i115 : ev_Im := (pr_y115, (prog_9_method_43_code, ((some .boolean), [])))
def pr_y116 : MethodName := ⟨"OrphanTreeModel", "startsOnce", "(I)Z"⟩
def pr_i116 : ev_Im := (pr_y116, (prog_9_method_44_code, ((some .boolean), [])))
def pr_y117 : MethodName := ⟨"OrphanTreeModel", "ruleHere", "()I"⟩
def pr_i117 : ev_Im := (pr_y117, (prog_9_method_45_code, ((some .int), [])))
def pr_y118 : MethodName := ⟨"OrphanTreeModel", "readDeep", "()Z"⟩
def pr_i118 : ev_Im := (pr_y118, (prog_9_method_46_code, ((some .boolean), [])))
def pr_y119 : MethodName := ⟨"OrphanTreeModel", "readRoot", "()Z"⟩
def pr_i119 : ev_Im := (pr_y119, (prog_9_method_47_code, ((some .boolean), [])))
def pr_y120 : MethodName := ⟨"OrphanTreeModel", "readWill", "()Z"⟩
def pr_i120 : ev_Im := (pr_y120, (prog_9_method_48_code, ((some .boolean), [])))
def pr_y121 : MethodName := ⟨"OrphanTreeModel", "readOrder", "()Z"⟩
def pr_i121 : ev_Im := (pr_y121, (prog_9_method_49_code, ((some .boolean), [])))
def pr_y122 : MethodName := ⟨"OrphanTreeModel", "readProcess", "()Z"⟩
def pr_i122 : ev_Im := (pr_y122, (prog_9_method_50_code, ((some .boolean), [])))
def pr_y123 : MethodName := ⟨"OrphanTreeModel", "readHeir", "()Z"⟩
def pr_i123 : ev_Im := (pr_y123, (prog_9_method_51_code, ((some .boolean), [])))
def pr_y124 : MethodName := ⟨"OrphanTreeModel", "readDuty", "()Z"⟩
def pr_i124 : ev_Im := (pr_y124, (prog_9_method_52_code, ((some .boolean), [])))
def pr_y125 : MethodName := ⟨"OrphanTreeModel", "readRefusal", "()Z"⟩
def pr_i125 : ev_Im := (pr_y125, (prog_9_method_53_code, ((some .boolean), [])))
def pr_y126 : MethodName := ⟨"OrphanTreeModel", "readStatement", "()Z"⟩
def pr_i126 : ev_Im := (pr_y126, (prog_9_method_54_code, ((some .boolean), [])))
def pr_y127 : MethodName := ⟨"OrphanTreeModel", "readText", "()Z"⟩
def pr_i127 : ev_Im := (pr_y127, (prog_9_method_55_code, ((some .boolean), [])))
def pr_y128 : MethodName := ⟨"OrphanTreeModel", "loadTree", "()I"⟩
def pr_i128 : ev_Im := (pr_y128, (prog_9_method_56_code, ((some .int), [])))
def pr_y129 : MethodName := ⟨"OrphanTreeModel", "errorCode", "()I"⟩
def pr_i129 : ev_Im := (pr_y129, (prog_9_method_57_code, ((some .int), [])))
def pr_y130 : MethodName := ⟨"OrphanTreeModel", "errorOffset", "()I"⟩
def pr_i130 : ev_Im := (pr_y130, (prog_9_method_58_code, ((some .int), [])))
def pr_y131 : MethodName := ⟨"OrphanTreeModel", "inState", "(I)I"⟩
def pr_i131 : ev_Im := (pr_y131, (prog_9_method_59_code, ((some .int), [])))
def pr_y132 : MethodName := ⟨"OrphanTreeModel", "dutiesOf", "(I)I"⟩
def pr_i132 : ev_Im := (pr_y132, (prog_9_method_60_code, ((some .int), [])))
def pr_y133 : MethodName := ⟨"OrphanTreeModel", "willsOf", "(I)I"⟩
def pr_i133 : ev_Im := (pr_y133, (prog_9_method_61_code, ((some .int), [])))
def pr_y134 : MethodName := ⟨"OrphanTreeModel", "count", "(I)I"⟩
def pr_i134 : ev_Im := (pr_y134, (prog_9_method_62_code, ((some .int), [])))
def pr_y135 : MethodName := ⟨"OrphanTreeModel", "noProcess", "(I)Z"⟩
def pr_i135 : ev_Im := (pr_y135, (prog_9_method_63_code, ((some .boolean), [])))
def pr_y136 : MethodName := ⟨"OrphanTreeModel", "notRunning", "(II)Z"⟩
def pr_i136 : ev_Im := (pr_y136, (prog_9_method_64_code, ((some .boolean), [])))
def pr_y137 : MethodName := ⟨"OrphanTreeModel", "notExiting", "(II)Z"⟩
def pr_i137 : ev_Im := (pr_y137, (prog_9_method_65_code, ((some .boolean), [])))
def pr_y138 : MethodName := ⟨"OrphanTreeModel", "process", "(II)I"⟩
def pr_i138 : ev_Im := (pr_y138, (prog_9_method_66_code, ((some .int), [])))
def pr_y139 : MethodName := ⟨"OrphanTreeModel", "noDuty", "(II)Z"⟩
def pr_i139 : ev_Im := (pr_y139, (prog_9_method_67_code, ((some .boolean), [])))
def pr_y140 : MethodName := ⟨"OrphanTreeModel", "holder", "(I)I"⟩
def pr_i140 : ev_Im := (pr_y140, (prog_9_method_68_code, ((some .int), [])))
def pr_y141 : MethodName := ⟨"OrphanTreeModel", "rule", "(I)I"⟩
def pr_i141 : ev_Im := (pr_y141, (prog_9_method_69_code, ((some .int), [])))
def pr_y142 : MethodName := ⟨"OrphanTreeModel", "isGone", "(I)Z"⟩
def pr_i142 : ev_Im := (pr_y142, (prog_9_method_70_code, ((some .boolean), [])))
def pr_y143 : MethodName := ⟨"OrphanTreeModel", "depth", "(I)I"⟩
def pr_i143 : ev_Im := (pr_y143, (prog_9_method_71_code, ((some .int), [])))
def pr_y144 : MethodName := ⟨"OrphanTreeModel", "isAbove", "(II)Z"⟩
def pr_i144 : ev_Im := (pr_y144, (prog_9_method_72_code, ((some .boolean), [])))
def pr_y145 : MethodName := ⟨"OrphanTreeModel", "meets", "(II)I"⟩
def pr_i145 : ev_Im := (pr_y145, (prog_9_method_73_code, ((some .int), [])))
def pr_y146 : MethodName := ⟨"OrphanTreeModel", "anyGone", "(II)Z"⟩
def pr_i146 : ev_Im := (pr_y146, (prog_9_method_74_code, ((some .boolean), [])))
def pr_y147 : MethodName := ⟨"OrphanTreeModel", "meet", "(II)I"⟩
def pr_i147 : ev_Im := (pr_y147, (prog_9_method_75_code, ((some .int), [])))
def pr_y148 : MethodName := ⟨"OrphanTreeModel", "apart", "(II)I"⟩
def pr_i148 : ev_Im := (pr_y148, (prog_9_method_76_code, ((some .int), [])))
def pr_y149 : MethodName := ⟨"OrphanTreeModel", "belowOf", "(I)I"⟩
def pr_i149 : ev_Im := (pr_y149, (prog_9_method_77_code, ((some .int), [])))
def pr_y150 : MethodName := ⟨"OrphanTreeModel", "below", "(I)I"⟩
def pr_i150 : ev_Im := (pr_y150, (prog_9_method_78_code, ((some .int), [])))
def pr_y151 : MethodName := ⟨"OrphanTreeModel", "walkOn", "(I)I"⟩
def pr_i151 : ev_Im := (pr_y151, (prog_9_method_79_code, ((some .int), [])))
def pr_y152 : MethodName := ⟨"OrphanTreeModel", "nextChild", "(II)I"⟩
def pr_i152 : ev_Im := (pr_y152, (prog_9_method_80_code, ((some .int), [])))
def pr_y153 : MethodName := ⟨"OrphanTreeModel", "walked", "(I)I"⟩
def pr_i153 : ev_Im := (pr_y153, (prog_9_method_81_code, ((some .int), [])))
def pr_y154 : MethodName := ⟨"OrphanTreeModel", "atDepth", "(I)I"⟩
def pr_i154 : ev_Im := (pr_y154, (prog_9_method_82_code, ((some .int), [])))
def pr_y155 : MethodName := ⟨"OrphanTreeModel", "highest", "()I"⟩
def pr_i155 : ev_Im := (pr_y155, (prog_9_method_83_code, ((some .int), [])))
def pr_y156 : MethodName := ⟨"OrphanTreeModel", "height", "()I"⟩
def pr_i156 : ev_Im := (pr_y156, (prog_9_method_84_code, ((some .int), [])))
def pr_y157 : MethodName := ⟨"OrphanTreeModel", "isSmall", "(I)Z"⟩
def pr_i157 : ev_Im := (pr_y157, (prog_9_method_85_code, ((some .boolean), [])))
def pr_y158 : MethodName := ⟨"OrphanTreeModel", "spawn", "(IIII)I"⟩
def pr_i158 : ev_Im := (pr_y158, (prog_9_method_86_code, ((some .int), [])))
def pr_y159 : MethodName := ⟨"OrphanTreeModel", "noExit", "(II)Z"⟩
def pr_i159 : ev_Im := (pr_y159, (prog_9_method_87_code, ((some .boolean), [])))
def pr_y160 : MethodName := ⟨"OrphanTreeModel", "exit", "(II)I"⟩
def pr_i160 : ev_Im := (pr_y160, (prog_9_method_88_code, ((some .int), [])))
def pr_y161 : MethodName := ⟨"OrphanTreeModel", "noKill", "(II)Z"⟩
def pr_i161 : ev_Im := (pr_y161, (prog_9_method_89_code, ((some .boolean), [])))
def pr_y162 : MethodName := ⟨"OrphanTreeModel", "kill", "(II)I"⟩
def pr_i162 : ev_Im := (pr_y162, (prog_9_method_90_code, ((some .int), [])))
def pr_y163 : MethodName := ⟨"OrphanTreeModel", "read", "(I)I"⟩
def pr_i163 : ev_Im := (pr_y163, (prog_9_method_91_code, ((some .int), [])))
def pr_y164 : MethodName := ⟨"OrphanTreeModel", "readAll", "(I)I"⟩
def pr_i164 : ev_Im := (pr_y164, (prog_9_method_92_code, ((some .int), [])))
def pr_y165 : MethodName := ⟨"OrphanTreeModel", "refuse", "(II)I"⟩
def pr_i165 : ev_Im := (pr_y165, (prog_9_method_93_code, ((some .int), [])))
def pr_y166 : MethodName := ⟨"OrphanTreeModel", "accept", "(II)Z"⟩
def pr_i166 : ev_Im := (pr_y166, (prog_9_method_94_code, ((some .boolean), [])))
def pr_y167 : MethodName := ⟨"OrphanTreeModel", "move", "(II)I"⟩
def pr_i167 : ev_Im := (pr_y167, (prog_9_method_95_code, ((some .int), [])))
def pr_y168 : MethodName := ⟨"OrphanTreeModel", "sets", "(III)I"⟩
def pr_i168 : ev_Im := (pr_y168, (prog_9_method_96_code, ((some .int), [])))
def pr_y169 : MethodName := ⟨"OrphanTreeModel", "setCapacity", "(II)I"⟩
def pr_i169 : ev_Im := (pr_y169, (prog_9_method_97_code, ((some .int), [])))
def pr_y170 : MethodName := ⟨"OrphanTreeModel", "setBudget", "(II)I"⟩
def pr_i170 : ev_Im := (pr_y170, (prog_9_method_98_code, ((some .int), [])))
def pr_y171 : MethodName := ⟨"OrphanTreeModel", "setHeir", "(II)I"⟩
def pr_i171 : ev_Im := (pr_y171, (prog_9_method_99_code, ((some .int), [])))
def pr_y172 : MethodName := ⟨"OrphanTreeModel", "give", "(II)I"⟩
def pr_i172 : ev_Im := (pr_y172, (prog_9_method_100_code, ((some .int), [])))
def pr_y173 : MethodName := ⟨"OrphanTreeModel", "lowestBelow", "(I)I"⟩
def pr_i173 : ev_Im := (pr_y173, (prog_9_method_101_code, ((some .int), [])))
def pr_y174 : MethodName := ⟨"OrphanTreeModel", "prune", "(II)I"⟩
def pr_i174 : ev_Im := (pr_y174, (prog_9_method_102_code, ((some .int), [])))
def pr_y175 : MethodName := ⟨"OrphanTreeModel", "exchange", "(II)I"⟩
def pr_i175 : ev_Im := (pr_y175, (prog_9_method_103_code, ((some .int), [])))
def pr_y176 : MethodName := ⟨"OrphanTreeModel", "relieve", "(I)I"⟩
def pr_i176 : ev_Im := (pr_y176, (prog_9_method_104_code, ((some .int), [])))
def pr_y177 : MethodName := ⟨"OrphanTreeModel", "adopter", "(I)I"⟩
def pr_i177 : ev_Im := (pr_y177, (prog_9_method_105_code, ((some .int), [])))
def pr_y178 : MethodName := ⟨"OrphanTreeModel", "adopters", "(I)I"⟩
def pr_i178 : ev_Im := (pr_y178, (prog_9_method_106_code, ((some .int), [])))
def pr_y179 : MethodName := ⟨"OrphanTreeModel", "heirNow", "(I)I"⟩
def pr_i179 : ev_Im := (pr_y179, (prog_9_method_107_code, ((some .int), [])))
def pr_y180 : MethodName := ⟨"OrphanTreeModel", "fallsBy", "(II)I"⟩
def pr_i180 : ev_Im := (pr_y180, (prog_9_method_108_code, ((some .int), [])))
def pr_y181 : MethodName := ⟨"OrphanTreeModel", "wouldFall", "(II)I"⟩
def pr_i181 : ev_Im := (pr_y181, (prog_9_method_109_code, ((some .int), [])))
def pr_y182 : MethodName := ⟨"OrphanTreeModel", "wouldStand", "(II)I"⟩
def pr_i182 : ev_Im := (pr_y182, (prog_9_method_110_code, ((some .int), [])))
def pr_y183 : MethodName := ⟨"OrphanTreeModel", "wouldHave", "(III)I"⟩
def pr_i183 : ev_Im := (pr_y183, (prog_9_method_111_code, ((some .int), [])))
def pr_y184 : MethodName := ⟨"OrphanTreeModel", "wouldHold", "(III)I"⟩
def pr_i184 : ev_Im := (pr_y184, (prog_9_method_112_code, ((some .int), [])))
def pr_y185 : MethodName := ⟨"OrphanTreeModel", "wouldFallBy", "(II)I"⟩
def pr_i185 : ev_Im := (pr_y185, (prog_9_method_113_code, ((some .int), [])))
def pr_y186 : MethodName := ⟨"OrphanTreeModel", "wouldRun", "(II)I"⟩
def pr_i186 : ev_Im := (pr_y186, (prog_9_method_114_code, ((some .int), [])))
def pr_y187 : MethodName := ⟨"OrphanTreeModel", "weakest", "(I)I"⟩
def pr_i187 : ev_Im := (pr_y187, (prog_9_method_115_code, ((some .int), [])))
def pr_y188 : MethodName := ⟨"OrphanTreeModel", "betterCode", "(I)I"⟩
def pr_i188 : ev_Im := (pr_y188, (prog_9_method_116_code, ((some .int), [])))
def pr_y189 : MethodName := ⟨"OrphanTreeModel", "dutyLife", "(I)I"⟩
def pr_i189 : ev_Im := (pr_y189, (prog_9_method_117_code, ((some .int), [])))
def pr_y190 : MethodName := ⟨"OrphanTreeModel", "roomiest", "(I)I"⟩
def pr_i190 : ev_Im := (pr_y190, (prog_9_method_118_code, ((some .int), [])))
def pr_y191 : MethodName := ⟨"OrphanTreeModel", "allRoom", "()I"⟩
def pr_i191 : ev_Im := (pr_y191, (prog_9_method_119_code, ((some .int), [])))
def pr_y192 : MethodName := ⟨"OrphanTreeModel", "overfull", "()I"⟩
def pr_i192 : ev_Im := (pr_y192, (prog_9_method_120_code, ((some .int), [])))
def pr_y193 : MethodName := ⟨"OrphanTreeModel", "ofGroup", "(I)I"⟩
def pr_i193 : ev_Im := (pr_y193, (prog_9_method_121_code, ((some .int), [])))
def pr_y194 : MethodName := ⟨"OrphanTreeModel", "nextTestament", "(I)I"⟩
def pr_i194 : ev_Im := (pr_y194, (prog_9_method_122_code, ((some .int), [])))
def pr_y195 : MethodName := ⟨"OrphanTreeModel", "exited", "(I)I"⟩
def pr_i195 : ev_Im := (pr_y195, (prog_9_method_123_code, ((some .int), [])))
def pr_y196 : MethodName := ⟨"OrphanTreeModel", "meanDepth", "()D"⟩
def pr_i196 : ev_Im := (pr_y196, (prog_9_method_124_code, ((some .double), [])))
def pr_y197 : MethodName := ⟨"OrphanTreeModel", "rootShare", "()F"⟩
def pr_i197 : ev_Im := (pr_y197, (prog_9_method_125_code, ((some .float), [])))
def pr_y198 : MethodName := ⟨"OrphanTreeModel", "readShare", "()D"⟩
def pr_i198 : ev_Im := (pr_y198, (prog_9_method_126_code, ((some .double), [])))
def pr_y199 : MethodName := ⟨"OrphanTreeModel", "testamentsBelow", "(I)I"⟩
def pr_i199 : ev_Im := (pr_y199, (prog_9_method_127_code, ((some .int), [])))
def pr_y200 : MethodName := ⟨"OrphanTreeModel", "roomBelow", "(I)I"⟩
def pr_i200 : ev_Im := (pr_y200, (prog_9_method_128_code, ((some .int), [])))
def pr_y201 : MethodName := ⟨"OrphanTreeModel", "mostAdopted", "()I"⟩
def pr_i201 : ev_Im := (pr_y201, (prog_9_method_129_code, ((some .int), [])))
def pr_y202 : MethodName := ⟨"OrphanTreeModel", "heaviest", "(I)I"⟩
def pr_i202 : ev_Im := (pr_y202, (prog_9_method_130_code, ((some .int), [])))
def pr_y203 : MethodName := ⟨"OrphanTreeModel", "groupsBelow", "(I)I"⟩
def pr_i203 : ev_Im := (pr_y203, (prog_9_method_131_code, ((some .int), [])))
def pr_y204 : MethodName := ⟨"OrphanTreeModel", "strangers", "(I)I"⟩
def pr_i204 : ev_Im := (pr_y204, (prog_9_method_132_code, ((some .int), [])))
def pr_y205 : MethodName := ⟨"OrphanTreeModel", "write", "(I)V"⟩
def pr_i205 : ev_Im := (pr_y205, (prog_9_method_133_code, (none, [])))
def pr_y206 : MethodName := ⟨"OrphanTreeModel", "onPath", "(II)I"⟩
def pr_i206 : ev_Im := (pr_y206, (prog_9_method_134_code, ((some .int), [])))
def pr_y207 : MethodName := ⟨"OrphanTreeModel", "writeNumber", "(I)V"⟩
def pr_i207 : ev_Im := (pr_y207, (prog_9_method_135_code, (none, [])))
def pr_y208 : MethodName := ⟨"OrphanTreeModel", "writeBetween", "(I)V"⟩
def pr_i208 : ev_Im := (pr_y208, (prog_9_method_136_code, (none, [])))
def pr_y209 : MethodName := ⟨"OrphanTreeModel", "writePath", "(I)V"⟩
def pr_i209 : ev_Im := (pr_y209, (prog_9_method_137_code, (none, [])))
def pr_y210 : MethodName := ⟨"OrphanTreeModel", "writeChildren", "(I)V"⟩
def pr_i210 : ev_Im := (pr_y210, (prog_9_method_138_code, (none, [])))
def pr_y211 : MethodName := ⟨"OrphanTreeModel", "writeTree", "(I)V"⟩
def pr_i211 : ev_Im := (pr_y211, (prog_9_method_139_code, (none, [])))
def pr_y212 : MethodName := ⟨"OrphanTreeModel", "writeZombies", "(I)V"⟩
def pr_i212 : ev_Im := (pr_y212, (prog_9_method_140_code, (none, [])))
def pr_y213 : MethodName := ⟨"OrphanTreeModel", "print", "(II)I"⟩
def pr_i213 : ev_Im := (pr_y213, (prog_9_method_141_code, ((some .int), [])))
def pr_y214 : MethodName := ⟨"OrphanTreeModel", "outputByte", "(I)I"⟩
def pr_i214 : ev_Im := (pr_y214, (prog_9_method_142_code, ((some .int), [])))
def pr_y215 : MethodName := ⟨"OrphanTreeModel", "undo", "()I"⟩
def pr_i215 : ev_Im := (pr_y215, (prog_9_method_143_code, ((some .int), [])))
def pr_y216 : MethodName := ⟨"OrphanTreeModel", "saveState", "()I"⟩
def pr_i216 : ev_Im := (pr_y216, (prog_9_method_144_code, ((some .int), [])))
def pr_y217 : MethodName := ⟨"OrphanTreeModel", "restoreState", "()I"⟩
def pr_i217 : ev_Im := (pr_y217, (prog_9_method_145_code, ((some .int), [])))
def pr_y218 : MethodName := ⟨"OrphanTree$History", "<init>", "()V"⟩
def pr_i218 : ev_Im := (pr_y218, (prog_2_method_1_code, (none, [])))
def pr_y219 : MethodName := ⟨"OrphanTree$History", "push", "(LOrphanTree$Tree;)V"⟩
def pr_i219 : ev_Im := (pr_y219, (prog_2_method_2_code, (none, [])))
def pr_y220 : MethodName := ⟨"OrphanTree$History", "pop", "(LOrphanTree$Tree;)Z"⟩
def pr_i220 : ev_Im := (pr_y220, (prog_2_method_3_code, ((some .boolean), [])))
def pr_y221 : MethodName := ⟨"OrphanTree$Input", "<init>", "()V"⟩
def pr_i221 : ev_Im := (pr_y221, (prog_3_method_1_code, (none, [])))
def pr_y222 : MethodName := ⟨"OrphanTree$Input", "append", "(I)V"⟩
def pr_i222 : ev_Im := (pr_y222, (prog_3_method_2_code, (none, [])))
def pr_y223 : MethodName := ⟨"OrphanTree$Input", "at", "(I)I"⟩
def pr_i223 : ev_Im := (pr_y223, (prog_3_method_3_code, ((some .int), [])))
def pr_y224 : MethodName := ⟨"OrphanTree$Output", "<init>", "()V"⟩
def pr_i224 : ev_Im := (pr_y224, (prog_4_method_1_code, (none, [])))
def pr_y225 : MethodName := ⟨"OrphanTree$Output", "putSign", "(C)V"⟩
def pr_i225 : ev_Im := (pr_y225, (prog_4_method_2_code, (none, [])))
def pr_y226 : MethodName := ⟨"OrphanTree$Output", "putNumber", "(I)V"⟩
def pr_i226 : ev_Im := (pr_y226, (prog_4_method_3_code, (none, [])))
def pr_y227 : MethodName := ⟨"OrphanTree$Output", "putPath", "(LOrphanTree$Proc;)V"⟩
def pr_i227 : ev_Im := (pr_y227, (prog_4_method_4_code, (none, [])))
def pr_y228 : MethodName := ⟨"OrphanTree$Output", "putChildren", "(LOrphanTree$Tree;LOrphanTree$Proc;)V"⟩
def pr_i228 : ev_Im := (pr_y228, (prog_4_method_5_code, (none, [])))
def pr_y229 : MethodName := ⟨"OrphanTree$Output", "putDuties", "(LOrphanTree$Tree;LOrphanTree$Proc;)V"⟩
def pr_i229 : ev_Im := (pr_y229, (prog_4_method_6_code, (none, [])))
def pr_y230 : MethodName := ⟨"OrphanTree$Output", "putZombies", "(LOrphanTree$Tree;LOrphanTree$Proc;)V"⟩
def pr_i230 : ev_Im := (pr_y230, (prog_4_method_7_code, (none, [])))
def pr_y231 : MethodName := ⟨"OrphanTree$Output", "putComma", "()V"⟩
def pr_i231 : ev_Im := (pr_y231, (prog_4_method_8_code, (none, [])))
def pr_y232 : MethodName := ⟨"OrphanTree$Proc", "<init>", "(I)V"⟩
def pr_i232 : ev_Im := (pr_y232, (prog_5_method_1_code, (none, [])))
def pr_y233 : MethodName := ⟨"OrphanTree$Proc", "become", "(IIII)V"⟩
def pr_i233 : ev_Im := (pr_y233, (prog_5_method_2_code, (none, [])))
def pr_y234 : MethodName := ⟨"OrphanTree$Proc", "take", "(LOrphanTree$Proc;)V"⟩
def pr_i234 : ev_Im := (pr_y234, (prog_5_method_3_code, (none, [])))
def pr_y235 : MethodName := ⟨"OrphanTree$Proc", "isRunning", "()Z"⟩
def pr_i235 : ev_Im := (pr_y235, (prog_5_method_4_code, ((some .boolean), [])))
def pr_y236 : MethodName := ⟨"OrphanTree$Proc", "isMortal", "()Z"⟩
def pr_i236 : ev_Im := (pr_y236, (prog_5_method_5_code, ((some .boolean), [])))
def pr_y237 : MethodName := ⟨"OrphanTree$Proc", "hasExited", "()Z"⟩
def pr_i237 : ev_Im := (pr_y237, (prog_5_method_6_code, ((some .boolean), [])))
def pr_y238 : MethodName := ⟨"OrphanTree$Proc", "isRunningChildOf", "(LOrphanTree$Proc;)Z"⟩
def pr_i238 : ev_Im := (pr_y238, (prog_5_method_7_code, ((some .boolean), [])))
def pr_y239 : MethodName := ⟨"OrphanTree$Proc", "isZombieOf", "(LOrphanTree$Proc;)Z"⟩
def pr_i239 : ev_Im := (pr_y239, (prog_5_method_8_code, ((some .boolean), [])))
def pr_y240 : MethodName := ⟨"OrphanTree$Proc", "canInherit", "()Z"⟩
def pr_i240 : ev_Im := (pr_y240, (prog_5_method_9_code, ((some .boolean), [])))
def pr_y241 : MethodName := ⟨"OrphanTree$Proc", "refuses", "(I)Z"⟩
def pr_i241 : ev_Im := (pr_y241, (prog_5_method_10_code, ((some .boolean), [])))
def pr_y242 : MethodName := ⟨"OrphanTree$Proc", "room", "()I"⟩
def pr_i242 : ev_Im := (pr_y242, (prog_5_method_11_code, ((some .int), [])))
def pr_y243 : MethodName := ⟨"OrphanTree$Proc", "countAbove", "()I"⟩
def pr_i243 : ev_Im := (pr_y243, (prog_5_method_12_code, ((some .int), [])))
def pr_y244 : MethodName := ⟨"OrphanTree$Proc", "isOver", "(LOrphanTree$Proc;)Z"⟩
def pr_i244 : ev_Im := (pr_y244, (prog_5_method_13_code, ((some .boolean), [])))
def pr_y245 : MethodName := ⟨"OrphanTree$Proc", "putUnder", "(LOrphanTree$Proc;)V"⟩
def pr_i245 : ev_Im := (pr_y245, (prog_5_method_14_code, (none, [])))
def pr_y246 : MethodName := ⟨"OrphanTree$Proc", "willFor", "(I)I"⟩
def pr_i246 : ev_Im := (pr_y246, (prog_5_method_15_code, ((some .int), [])))
def pr_y247 : MethodName := ⟨"OrphanTree$Proc", "addWill", "(II)V"⟩
def pr_i247 : ev_Im := (pr_y247, (prog_5_method_16_code, (none, [])))
def pr_y248 : MethodName := ⟨"OrphanTree$Proc", "willMask", "()I"⟩
def pr_i248 : ev_Im := (pr_y248, (prog_5_method_17_code, ((some .int), [])))
def pr_y249 : MethodName := ⟨"OrphanTree$SetupReader", "<init>", "()V"⟩
def pr_i249 : ev_Im := (pr_y249, (prog_6_method_1_code, (none, [])))
def pr_y250 : MethodName := ⟨"OrphanTree$SetupReader", "begin", "()V"⟩
def pr_i250 : ev_Im := (pr_y250, (prog_6_method_2_code, (none, [])))
def pr_y251 : MethodName := ⟨"OrphanTree$SetupReader", "takeStatement", "()Z"⟩
def pr_i251 : ev_Im := (pr_y251, (prog_6_method_3_code, ((some .boolean), [])))
def pr_y252 : MethodName := ⟨"OrphanTree$SetupReader", "takeOrder", "()Z"⟩
def pr_i252 : ev_Im := (pr_y252, (prog_6_method_4_code, ((some .boolean), [])))
def pr_y253 : MethodName := ⟨"OrphanTree$SetupReader", "ruleOfWord", "()I"⟩
def pr_i253 : ev_Im := (pr_y253, (prog_6_method_5_code, ((some .int), [])))
def pr_y254 : MethodName := ⟨"OrphanTree$SetupReader", "takeDeep", "()Z"⟩
def pr_i254 : ev_Im := (pr_y254, (prog_6_method_6_code, ((some .boolean), [])))
def pr_y255 : MethodName := ⟨"OrphanTree$SetupReader", "takeRoot", "()Z"⟩
def pr_i255 : ev_Im := (pr_y255, (prog_6_method_7_code, ((some .boolean), [])))
def pr_y256 : MethodName := ⟨"OrphanTree$SetupReader", "takeProcess", "()Z"⟩
def pr_i256 : ev_Im := (pr_y256, (prog_6_method_8_code, ((some .boolean), [])))
def pr_y257 : MethodName := ⟨"OrphanTree$SetupReader", "takeHeir", "()Z"⟩
def pr_i257 : ev_Im := (pr_y257, (prog_6_method_9_code, ((some .boolean), [])))
def pr_y258 : MethodName := ⟨"OrphanTree$SetupReader", "takeDuty", "()Z"⟩
def pr_i258 : ev_Im := (pr_y258, (prog_6_method_10_code, ((some .boolean), [])))
def pr_y259 : MethodName := ⟨"OrphanTree$SetupReader", "takeRefusal", "()Z"⟩
def pr_i259 : ev_Im := (pr_y259, (prog_6_method_11_code, ((some .boolean), [])))
def pr_y260 : MethodName := ⟨"OrphanTree$SetupReader", "takeWill", "()Z"⟩
def pr_i260 : ev_Im := (pr_y260, (prog_6_method_12_code, ((some .boolean), [])))
def pr_y261 : MethodName := ⟨"OrphanTree$SetupReader", "takeNamed", "(I)LOrphanTree$Proc;"⟩
def pr_i261 : ev_Im := (pr_y261, (prog_6_method_13_code, ((some (.object "OrphanTree$Proc")), [])))
def pr_y262 : MethodName := ⟨"OrphanTree$SetupReader", "takeNumber", "(II)Z"⟩
def pr_i262 : ev_Im := (pr_y262, (prog_6_method_14_code, ((some .boolean), [])))
def pr_y263 : MethodName := ⟨"OrphanTree$SetupReader", "takeSemicolon", "()Z"⟩
def pr_i263 : ev_Im := (pr_y263, (prog_6_method_15_code, ((some .boolean), [])))
def pr_y264 : MethodName := ⟨"OrphanTree$SetupReader", "fail", "(I)Z"⟩
def pr_i264 : ev_Im := (pr_y264, (prog_6_method_16_code, ((some .boolean), [])))
def pr_y265 : MethodName := ⟨"OrphanTree$SetupReader", "advance", "()V"⟩
def pr_i265 : ev_Im := (pr_y265, (prog_6_method_17_code, (none, [])))
def pr_y266 : MethodName := ⟨"OrphanTree$SetupReader", "isBlank", "(I)Z"⟩
def pr_i266 : ev_Im := (pr_y266, (prog_6_method_18_code, ((some .boolean), [])))
def pr_y267 : MethodName := ⟨"OrphanTree$SetupReader", "kindOf", "(I)I"⟩
def pr_i267 : ev_Im := (pr_y267, (prog_6_method_19_code, ((some .int), [])))
def pr_y268 : MethodName := ⟨"OrphanTree$SetupReader", "isWord", "(Ljava/lang/String;)Z"⟩
def pr_i268 : ev_Im := (pr_y268, (prog_6_method_20_code, ((some .boolean), [])))
def pr_y269 : MethodName := ⟨"OrphanTree$Tree", "<init>", "()V"⟩
def pr_i269 : ev_Im := (pr_y269, (prog_7_method_1_code, (none, [])))
def pr_y270 : MethodName := ⟨"OrphanTree$Tree", "reset", "()V"⟩
def pr_i270 : ev_Im := (pr_y270, (prog_7_method_2_code, (none, [])))
def pr_y271 : MethodName := ⟨"OrphanTree$Tree", "hasRule", "(I)Z"⟩
def pr_i271 : ev_Im := (pr_y271, (prog_7_method_3_code, ((some .boolean), [])))
def pr_y272 : MethodName := ⟨"OrphanTree$Tree", "clearRules", "()V"⟩
def pr_i272 : ev_Im := (pr_y272, (prog_7_method_4_code, (none, [])))
def pr_y273 : MethodName := ⟨"OrphanTree$Tree", "take", "(LOrphanTree$Tree;)V"⟩
def pr_i273 : ev_Im := (pr_y273, (prog_7_method_5_code, (none, [])))
def pr_y274 : MethodName := ⟨"OrphanTree$Tree", "at", "(I)LOrphanTree$Proc;"⟩
def pr_i274 : ev_Im := (pr_y274, (prog_7_method_6_code, ((some (.object "OrphanTree$Proc")), [])))
def pr_y275 : MethodName := ⟨"OrphanTree$Tree", "countInState", "(I)I"⟩
def pr_i275 : ev_Im := (pr_y275, (prog_7_method_7_code, ((some .int), [])))
def pr_y276 : MethodName := ⟨"OrphanTree$Tree", "countBelow", "(LOrphanTree$Proc;I)I"⟩
def pr_i276 : ev_Im := (pr_y276, (prog_7_method_8_code, ((some .int), [])))
def pr_y277 : MethodName := ⟨"OrphanTree$Tree", "countZombiesOf", "(LOrphanTree$Proc;)I"⟩
def pr_i277 : ev_Im := (pr_y277, (prog_7_method_9_code, ((some .int), [])))
def pr_y278 : MethodName := ⟨"OrphanTree$Tree", "greatestDepth", "()I"⟩
def pr_i278 : ev_Im := (pr_y278, (prog_7_method_10_code, ((some .int), [])))
def pr_y279 : MethodName := ⟨"OrphanTree$Tree", "lowestOver", "(LOrphanTree$Proc;LOrphanTree$Proc;)LOrphanTree$Proc;"⟩
def pr_i279 : ev_Im := (pr_y279, (prog_7_method_11_code, ((some (.object "OrphanTree$Proc")), [])))
def pr_y280 : MethodName := ⟨"OrphanTree$Tree", "childBehind", "(LOrphanTree$Proc;I)LOrphanTree$Proc;"⟩
def pr_i280 : ev_Im := (pr_y280, (prog_7_method_12_code, ((some (.object "OrphanTree$Proc")), [])))
def pr_y281 : MethodName := ⟨"OrphanTree$Tree", "zombieBehind", "(LOrphanTree$Proc;I)LOrphanTree$Proc;"⟩
def pr_i281 : ev_Im := (pr_y281, (prog_7_method_13_code, ((some (.object "OrphanTree$Proc")), [])))
def pr_y282 : MethodName := ⟨"OrphanTree$Tree", "nextOfWalk", "(LOrphanTree$Proc;)LOrphanTree$Proc;"⟩
def pr_i282 : ev_Im := (pr_y282, (prog_7_method_14_code, ((some (.object "OrphanTree$Proc")), [])))
def pr_y283 : MethodName := ⟨"OrphanTree$Tree", "holderOf", "(I)LOrphanTree$Proc;"⟩
def pr_i283 : ev_Im := (pr_y283, (prog_7_method_15_code, ((some (.object "OrphanTree$Proc")), [])))
def pr_y284 : MethodName := ⟨"OrphanTree$Tree", "giveDuty", "(ILOrphanTree$Proc;)V"⟩
def pr_i284 : ev_Im := (pr_y284, (prog_7_method_16_code, (none, [])))
def pr_y285 : MethodName := ⟨"OrphanTree$Tree", "dutiesOf", "(LOrphanTree$Proc;)I"⟩
def pr_i285 : ev_Im := (pr_y285, (prog_7_method_17_code, ((some .int), [])))
def pr_y286 : MethodName := ⟨"OrphanTree$Tree", "arrive", "(LOrphanTree$Proc;III)LOrphanTree$Proc;"⟩
def pr_i286 : ev_Im := (pr_y286, (prog_7_method_18_code, ((some (.object "OrphanTree$Proc")), [])))
def pr_y287 : MethodName := ⟨"OrphanTree$Tree", "letExit", "(LOrphanTree$Proc;I)I"⟩
def pr_i287 : ev_Im := (pr_y287, (prog_7_method_19_code, ((some .int), [])))
def pr_y288 : MethodName := ⟨"OrphanTree$Tree", "replace", "(LOrphanTree$Proc;LOrphanTree$Proc;)LOrphanTree$Proc;"⟩
def pr_i288 : ev_Im := (pr_y288, (prog_7_method_20_code, ((some (.object "OrphanTree$Proc")), [])))
def pr_y289 : MethodName := ⟨"OrphanTree$Tree", "passDuties", "(LOrphanTree$Proc;LOrphanTree$Proc;)V"⟩
def pr_i289 : ev_Im := (pr_y289, (prog_7_method_21_code, (none, [])))
def pr_y290 : MethodName := ⟨"OrphanTree$Tree", "inheritorOf", "(LOrphanTree$Proc;I)LOrphanTree$Proc;"⟩
def pr_i290 : ev_Im := (pr_y290, (prog_7_method_22_code, ((some (.object "OrphanTree$Proc")), [])))
def pr_y291 : MethodName := ⟨"OrphanTree$Tree", "heirOf", "(LOrphanTree$Proc;)LOrphanTree$Proc;"⟩
def pr_i291 : ev_Im := (pr_y291, (prog_7_method_23_code, ((some (.object "OrphanTree$Proc")), [])))
def pr_y292 : MethodName := ⟨"OrphanTree$Tree", "adopt", "(LOrphanTree$Proc;LOrphanTree$Proc;)V"⟩
def pr_i292 : ev_Im := (pr_y292, (prog_7_method_24_code, (none, [])))
def pr_y293 : MethodName := ⟨"OrphanTree$Tree", "adopterOf", "(LOrphanTree$Proc;)LOrphanTree$Proc;"⟩
def pr_i293 : ev_Im := (pr_y293, (prog_7_method_25_code, ((some (.object "OrphanTree$Proc")), [])))
def pr_y294 : MethodName := ⟨"OrphanTree$Tree", "nearest", "(LOrphanTree$Proc;LOrphanTree$Proc;)LOrphanTree$Proc;"⟩
def pr_i294 : ev_Im := (pr_y294, (prog_7_method_26_code, ((some (.object "OrphanTree$Proc")), [])))
def pr_y295 : MethodName := ⟨"OrphanTree$Tree", "roomiestFor", "(LOrphanTree$Proc;LOrphanTree$Proc;Z)LOrphanTree$Proc;"⟩
def pr_i295 : ev_Im := (pr_y295, (prog_7_method_27_code, ((some (.object "OrphanTree$Proc")), [])))
def pr_y296 : MethodName := ⟨"OrphanTree$Tree", "firstKin", "(LOrphanTree$Proc;LOrphanTree$Proc;)LOrphanTree$Proc;"⟩
def pr_i296 : ev_Im := (pr_y296, (prog_7_method_28_code, ((some (.object "OrphanTree$Proc")), [])))
def pr_y297 : MethodName := ⟨"OrphanTree$Tree", "oldest", "(LOrphanTree$Proc;LOrphanTree$Proc;)LOrphanTree$Proc;"⟩
def pr_i297 : ev_Im := (pr_y297, (prog_7_method_29_code, ((some (.object "OrphanTree$Proc")), [])))
def pr_y298 : MethodName := ⟨"OrphanTree$Tree", "canAdopt", "(LOrphanTree$Proc;LOrphanTree$Proc;)Z"⟩
def pr_i298 : ev_Im := (pr_y298, (prog_7_method_30_code, ((some .boolean), [])))
def pr_y299 : MethodName := ⟨"OrphanTree$Tree", "killGroup", "(II)I"⟩
def pr_i299 : ev_Im := (pr_y299, (prog_7_method_31_code, ((some .int), [])))
def pr_y300 : MethodName := ⟨"OrphanTree$Tree", "loseGroup", "(LOrphanTree$Proc;I)I"⟩
def pr_i300 : ev_Im := (pr_y300, (prog_7_method_32_code, ((some .int), [])))
def pr_y301 : MethodName := ⟨"OrphanTree$Tree", "loseSurplus", "(LOrphanTree$Proc;)I"⟩
def pr_i301 : ev_Im := (pr_y301, (prog_7_method_33_code, ((some .int), [])))
def pr_y302 : MethodName := ⟨"OrphanTree$Tree", "readZombiesOf", "(LOrphanTree$Proc;)I"⟩
def pr_i302 : ev_Im := (pr_y302, (prog_7_method_34_code, ((some .int), [])))
def pr_y303 : MethodName := ⟨"OrphanTree$Tree", "pruneBelow", "(LOrphanTree$Proc;I)I"⟩
def pr_i303 : ev_Im := (pr_y303, (prog_7_method_35_code, ((some .int), [])))
def pr_y304 : MethodName := ⟨"OrphanTree$Tree", "deepestBelow", "(LOrphanTree$Proc;)LOrphanTree$Proc;"⟩
def pr_i304 : ev_Im := (pr_y304, (prog_7_method_36_code, ((some (.object "OrphanTree$Proc")), [])))
def pr_y305 : MethodName := ⟨"OrphanTreeLaw", "count", "(LOrphanTree;I[J)I"⟩
def pr_i305 : ev_Im := (pr_y305, (method_3_code, ((some .int), [(0, (9, (12, 13)))])))
def pr_y306 : MethodName := ⟨"OrphanTreeLaw", "process", "(LOrphanTree;II[J)I"⟩
def pr_i306 : ev_Im := (pr_y306, (method_4_code, ((some .int), [(0, (10, (13, 19))), (0, (10, (17, 13)))])))
def pr_y307 : MethodName := ⟨"OrphanTreeLaw", "holder", "(LOrphanTree;I[J)I"⟩
def pr_i307 : ev_Im := (pr_y307, (method_5_code, ((some .int), [(0, (9, (12, 13)))])))
def pr_y308 : MethodName := ⟨"OrphanTreeLaw", "depth", "(LOrphanTree;I[J)I"⟩
def pr_i308 : ev_Im := (pr_y308, (method_6_code, ((some .int), [(0, (9, (12, 19))), (0, (9, (15, 27)))])))
def pr_y309 : MethodName := ⟨"OrphanTreeLaw", "isAbove", "(LOrphanTree;II[J)I"⟩
def pr_i309 : ev_Im := (pr_y309, (method_7_code, ((some .int), [(0, (17, (20, 19)))])))
def pr_y310 : MethodName := ⟨"OrphanTreeLaw", "meet", "(LOrphanTree;II[J)I"⟩
def pr_i310 : ev_Im := (pr_y310, (method_8_code, ((some .int), [(0, (10, (13, 19))), (0, (10, (17, 27)))])))
def pr_y311 : MethodName := ⟨"OrphanTreeLaw", "below", "(LOrphanTree;I[J)I"⟩
def pr_i311 : ev_Im := (pr_y311, (method_9_code, ((some .int), [(0, (9, (12, 19)))])))
def pr_y312 : MethodName := ⟨"OrphanTreeLaw", "walked", "(LOrphanTree;I[J)I"⟩
def pr_i312 : ev_Im := (pr_y312, (method_10_code, ((some .int), [(0, (9, (12, 42)))])))
def pr_y313 : MethodName := ⟨"OrphanTreeLaw", "spawn", "(LOrphanTree;IIII[J)I"⟩
def pr_i313 : ev_Im := (pr_y313, (method_11_code, ((some .int), [(0, (14, (17, 19))), (0, (14, (21, 13))), (0, (14, (25, 27)))])))
def pr_y314 : MethodName := ⟨"OrphanTreeLaw", "exit", "(LOrphanTree;II[J)I"⟩
def pr_i314 : ev_Im := (pr_y314, (method_12_code, ((some .int), [(0, (10, (13, 19))), (0, (10, (17, 13))), (0, (10, (21, 27)))])))
def pr_y315 : MethodName := ⟨"OrphanTreeLaw", "kill", "(LOrphanTree;II[J)I"⟩
def pr_i315 : ev_Im := (pr_y315, (method_13_code, ((some .int), [(0, (10, (13, 13)))])))
def pr_y316 : MethodName := ⟨"OrphanTreeLaw", "read", "(LOrphanTree;I[J)I"⟩
def pr_i316 : ev_Im := (pr_y316, (method_14_code, ((some .int), [(0, (9, (12, 19))), (0, (9, (15, 27))), (0, (9, (18, 42)))])))
def pr_y317 : MethodName := ⟨"OrphanTreeLaw", "refuse", "(LOrphanTree;II[J)I"⟩
def pr_i317 : ev_Im := (pr_y317, (method_15_code, ((some .int), [(0, (10, (13, 19))), (0, (10, (17, 13))), (0, (10, (21, 27)))])))
def pr_y318 : MethodName := ⟨"OrphanTreeLaw", "accept", "(LOrphanTree;II[J)I"⟩
def pr_i318 : ev_Im := (pr_y318, (method_16_code, ((some .int), [(0, (17, (20, 19))), (0, (17, (24, 13))), (0, (17, (28, 27)))])))
def pr_y319 : MethodName := ⟨"OrphanTreeLaw", "move", "(LOrphanTree;II[J)I"⟩
def pr_i319 : ev_Im := (pr_y319, (method_17_code, ((some .int), [(0, (10, (13, 19))), (0, (10, (17, 27)))])))
def pr_y320 : MethodName := ⟨"OrphanTreeLaw", "setCapacity", "(LOrphanTree;II[J)I"⟩
def pr_i320 : ev_Im := (pr_y320, (method_18_code, ((some .int), [(0, (10, (13, 19))), (0, (10, (17, 13))), (0, (10, (21, 27)))])))
def pr_y321 : MethodName := ⟨"OrphanTreeLaw", "setBudget", "(LOrphanTree;II[J)I"⟩
def pr_i321 : ev_Im := (pr_y321, (method_19_code, ((some .int), [(0, (10, (13, 19))), (0, (10, (17, 13))), (0, (10, (21, 27)))])))
def pr_y322 : MethodName := ⟨"OrphanTreeLaw", "setHeir", "(LOrphanTree;II[J)I"⟩
def pr_i322 : ev_Im := (pr_y322, (method_20_code, ((some .int), [(0, (10, (13, 19))), (0, (10, (17, 13))), (0, (10, (21, 27)))])))
def pr_y323 : MethodName := ⟨"OrphanTreeLaw", "give", "(LOrphanTree;II[J)I"⟩
def pr_i323 : ev_Im := (pr_y323, (method_21_code, ((some .int), [(0, (10, (13, 13))), (0, (10, (17, 19))), (0, (10, (21, 27)))])))
def pr_y324 : MethodName := ⟨"OrphanTreeLaw", "adopter", "(LOrphanTree;I[J)I"⟩
def pr_i324 : ev_Im := (pr_y324, (method_22_code, ((some .int), [(0, (9, (12, 19))), (0, (9, (15, 27)))])))
def pr_y325 : MethodName := ⟨"OrphanTreeLaw", "heirNow", "(LOrphanTree;I[J)I"⟩
def pr_i325 : ev_Im := (pr_y325, (method_23_code, ((some .int), [(0, (9, (12, 19))), (0, (9, (15, 27)))])))
def pr_y326 : MethodName := ⟨"OrphanTreeLaw", "wouldFall", "(LOrphanTree;II[J)I"⟩
def pr_i326 : ev_Im := (pr_y326, (method_24_code, ((some .int), [(0, (10, (13, 19))), (0, (10, (17, 13))), (0, (10, (21, 27)))])))
def pr_y327 : MethodName := ⟨"OrphanTreeLaw", "wouldStand", "(LOrphanTree;II[J)I"⟩
def pr_i327 : ev_Im := (pr_y327, (method_25_code, ((some .int), [(0, (10, (13, 19))), (0, (10, (17, 13))), (0, (10, (21, 27)))])))
def pr_y328 : MethodName := ⟨"OrphanTreeLaw", "wouldHave", "(LOrphanTree;III[J)I"⟩
def pr_i328 : ev_Im := (pr_y328, (method_26_code, ((some .int), [(0, (12, (15, 19))), (0, (12, (19, 13))), (0, (12, (23, 27)))])))
def pr_y329 : MethodName := ⟨"OrphanTreeLaw", "wouldFallBy", "(LOrphanTree;II[J)I"⟩
def pr_i329 : ev_Im := (pr_y329, (method_27_code, ((some .int), [(0, (10, (13, 13)))])))
def pr_y330 : MethodName := ⟨"OrphanTreeLaw", "weakest", "(LOrphanTree;I[J)I"⟩
def pr_i330 : ev_Im := (pr_y330, (method_28_code, ((some .int), [(0, (9, (12, 13)))])))
def pr_y331 : MethodName := ⟨"OrphanTreeLaw", "roomiest", "(LOrphanTree;I[J)I"⟩
def pr_i331 : ev_Im := (pr_y331, (method_29_code, ((some .int), [(0, (9, (12, 13)))])))
def pr_y332 : MethodName := ⟨"OrphanTreeLaw", "ofGroup", "(LOrphanTree;I[J)I"⟩
def pr_i332 : ev_Im := (pr_y332, (method_30_code, ((some .int), [(0, (9, (12, 13)))])))
def pr_y333 : MethodName := ⟨"OrphanTreeLaw", "nextTestament", "(LOrphanTree;I[J)I"⟩
def pr_i333 : ev_Im := (pr_y333, (method_31_code, ((some .int), [(0, (9, (12, 19)))])))
def pr_y334 : MethodName := ⟨"OrphanTreeLaw", "exited", "(LOrphanTree;I[J)I"⟩
def pr_i334 : ev_Im := (pr_y334, (method_32_code, ((some .int), [(0, (9, (12, 42)))])))
def pr_y335 : MethodName := ⟨"OrphanTreeLaw", "prune", "(LOrphanTree;II[J)I"⟩
def pr_i335 : ev_Im := (pr_y335, (method_33_code, ((some .int), [(0, (10, (13, 19))), (0, (10, (17, 13))), (0, (10, (21, 27)))])))
def pr_y336 : MethodName := ⟨"OrphanTreeLaw", "exchange", "(LOrphanTree;II[J)I"⟩
def pr_i336 : ev_Im := (pr_y336, (method_34_code, ((some .int), [(0, (10, (13, 19))), (0, (10, (17, 27)))])))
def pr_y337 : MethodName := ⟨"OrphanTreeLaw", "readAll", "(LOrphanTree;I[J)I"⟩
def pr_i337 : ev_Im := (pr_y337, (method_35_code, ((some .int), [(0, (9, (12, 19))), (0, (9, (15, 27)))])))
def pr_y338 : MethodName := ⟨"OrphanTreeLaw", "testamentsBelow", "(LOrphanTree;I[J)I"⟩
def pr_i338 : ev_Im := (pr_y338, (method_36_code, ((some .int), [(0, (9, (12, 19)))])))
def pr_y339 : MethodName := ⟨"OrphanTreeLaw", "roomBelow", "(LOrphanTree;I[J)I"⟩
def pr_i339 : ev_Im := (pr_y339, (method_37_code, ((some .int), [(0, (9, (12, 19)))])))
def pr_y340 : MethodName := ⟨"OrphanTreeLaw", "adopters", "(LOrphanTree;I[J)I"⟩
def pr_i340 : ev_Im := (pr_y340, (method_38_code, ((some .int), [(0, (9, (12, 19))), (0, (9, (15, 27)))])))
def pr_y341 : MethodName := ⟨"OrphanTreeLaw", "betterCode", "(LOrphanTree;I[J)I"⟩
def pr_i341 : ev_Im := (pr_y341, (method_39_code, ((some .int), [(0, (9, (12, 19))), (0, (9, (15, 27)))])))
def pr_y342 : MethodName := ⟨"OrphanTreeLaw", "wouldRun", "(LOrphanTree;II[J)I"⟩
def pr_i342 : ev_Im := (pr_y342, (method_40_code, ((some .int), [(0, (10, (13, 13)))])))
def pr_y343 : MethodName := ⟨"OrphanTreeLaw", "apart", "(LOrphanTree;II[J)I"⟩
def pr_i343 : ev_Im := (pr_y343, (method_41_code, ((some .int), [(0, (10, (13, 19))), (0, (10, (17, 27)))])))
def pr_y344 : MethodName := ⟨"OrphanTreeLaw", "relieve", "(LOrphanTree;I[J)I"⟩
def pr_i344 : ev_Im := (pr_y344, (method_42_code, ((some .int), [(0, (9, (12, 19))), (0, (9, (15, 27)))])))
def pr_y345 : MethodName := ⟨"OrphanTreeLaw", "wouldHold", "(LOrphanTree;III[J)I"⟩
def pr_i345 : ev_Im := (pr_y345, (method_43_code, ((some .int), [(0, (12, (15, 19))), (0, (12, (19, 13))), (0, (12, (23, 27)))])))
def pr_y346 : MethodName := ⟨"OrphanTreeLaw", "dutyLife", "(LOrphanTree;I[J)I"⟩
def pr_i346 : ev_Im := (pr_y346, (method_44_code, ((some .int), [(0, (9, (12, 13)))])))
def pr_y347 : MethodName := ⟨"OrphanTreeLaw", "heaviest", "(LOrphanTree;I[J)I"⟩
def pr_i347 : ev_Im := (pr_y347, (method_45_code, ((some .int), [(0, (9, (12, 19)))])))
def pr_y348 : MethodName := ⟨"OrphanTreeLaw", "groupsBelow", "(LOrphanTree;I[J)I"⟩
def pr_i348 : ev_Im := (pr_y348, (method_46_code, ((some .int), [(0, (9, (12, 19)))])))
def pr_y349 : MethodName := ⟨"OrphanTreeLaw", "strangers", "(LOrphanTree;I[J)I"⟩
def pr_i349 : ev_Im := (pr_y349, (method_47_code, ((some .int), [(0, (9, (12, 19)))])))
def pr_y350 : MethodName := ⟨"OrphanTreeLaw", "print", "(LOrphanTree;II[J)I"⟩
def pr_i350 : ev_Im := (pr_y350, (method_48_code, ((some .int), [(0, (10, (13, 19))), (0, (10, (17, 13))), (0, (10, (21, 27)))])))
def pr_y351 : MethodName := ⟨"OrphanTreeLaw", "restoreState", "(LOrphanTree;[J)I"⟩
def pr_i351 : ev_Im := (pr_y351, (method_49_code, ((some .int), [(0, (8, (11, 27)))])))
def pr_y353 : MethodName := ⟨"java/lang/Integer", "bitCount", "(I)I"⟩
def pr_i353 : ev_Im := (pr_y353, (prog_17_method_49_code, ((some .int), [])))
def pr_y352 : MethodName := ⟨"OrphanTreeLaw", "law", "([I)Z"⟩
def pr_id : ev_Im := (⟨"", "", ""⟩, (⟨#[]⟩, (none, [])))
noncomputable def ev_it (n : Nat) (f g : Nat → ev_Im) : Nat → ev_Im := fun i => Bool.rec (motive := fun _ => ev_Im) (g i) (f i) (Nat.ble i n)
noncomputable def pr_jf (n : Nat) (x : ev_Im) : Nat → ev_Im := fun i => Bool.rec (motive := fun _ => ev_Im) pr_id x (Nat.beq i n)
noncomputable def pr_I : Nat → ev_Im := (ev_it 176 (ev_it 88 (ev_it 44 (ev_it 22 (ev_it 11 (ev_it 5 (ev_it 2 (ev_it 1 (ev_it 0 (pr_jf 0 pr_i0) (pr_jf 1 pr_i1)) (pr_jf 2 pr_i2)) (ev_it 4 (ev_it 3 (pr_jf 3 pr_i3) (pr_jf 4 pr_i4)) (pr_jf 5 pr_i5))) (ev_it 8 (ev_it 7 (ev_it 6 (pr_jf 6 pr_i6) (pr_jf 7 pr_i7)) (pr_jf 8 pr_i8)) (ev_it 10 (ev_it 9 (pr_jf 9 pr_i9) (pr_jf 10 pr_i10)) (pr_jf 11 pr_i11)))) (ev_it 17 (ev_it 14 (ev_it 13 (ev_it 12 (pr_jf 12 pr_i12) (pr_jf 13 pr_i13)) (pr_jf 14 pr_i14)) (ev_it 16 (ev_it 15 (pr_jf 15 pr_i15) (pr_jf 16 pr_i16)) (pr_jf 17 pr_i17))) (ev_it 20 (ev_it 19 (ev_it 18 (pr_jf 18 pr_i18) (pr_jf 19 pr_i19)) (pr_jf 20 pr_i20)) (ev_it 21 (pr_jf 21 pr_i21) (pr_jf 22 pr_i22))))) (ev_it 33 (ev_it 28 (ev_it 25 (ev_it 24 (ev_it 23 (pr_jf 23 pr_i23) (pr_jf 24 pr_i24)) (pr_jf 25 pr_i25)) (ev_it 27 (ev_it 26 (pr_jf 26 pr_i26) (pr_jf 27 pr_i27)) (pr_jf 28 pr_i28))) (ev_it 31 (ev_it 30 (ev_it 29 (pr_jf 29 pr_i29) (pr_jf 30 pr_i30)) (pr_jf 31 pr_i31)) (ev_it 32 (pr_jf 32 pr_i32) (pr_jf 33 pr_i33)))) (ev_it 39 (ev_it 36 (ev_it 35 (ev_it 34 (pr_jf 34 pr_i34) (pr_jf 35 pr_i35)) (pr_jf 36 pr_i36)) (ev_it 38 (ev_it 37 (pr_jf 37 pr_i37) (pr_jf 38 pr_i38)) (pr_jf 39 pr_i39))) (ev_it 42 (ev_it 41 (ev_it 40 (pr_jf 40 pr_i40) (pr_jf 41 pr_i41)) (pr_jf 42 pr_i42)) (ev_it 43 (pr_jf 43 pr_i43) (pr_jf 44 pr_i44)))))) (ev_it 66 (ev_it 55 (ev_it 50 (ev_it 47 (ev_it 46 (ev_it 45 (pr_jf 45 pr_i45) (pr_jf 46 pr_i46)) (pr_jf 47 pr_i47)) (ev_it 49 (ev_it 48 (pr_jf 48 pr_i48) (pr_jf 49 pr_i49)) (pr_jf 50 pr_i50))) (ev_it 53 (ev_it 52 (ev_it 51 (pr_jf 51 pr_i51) (pr_jf 52 pr_i52)) (pr_jf 53 pr_i53)) (ev_it 54 (pr_jf 54 pr_i54) (pr_jf 55 pr_i55)))) (ev_it 61 (ev_it 58 (ev_it 57 (ev_it 56 (pr_jf 56 pr_i56) (pr_jf 57 pr_i57)) (pr_jf 58 pr_i58)) (ev_it 60 (ev_it 59 (pr_jf 59 pr_i59) (pr_jf 60 pr_i60)) (pr_jf 61 pr_i61))) (ev_it 64 (ev_it 63 (ev_it 62 (pr_jf 62 pr_i62) (pr_jf 63 pr_i63)) (pr_jf 64 pr_i64)) (ev_it 65 (pr_jf 65 pr_i65) (pr_jf 66 pr_i66))))) (ev_it 77 (ev_it 72 (ev_it 69 (ev_it 68 (ev_it 67 (pr_jf 67 pr_i67) (pr_jf 68 pr_i68)) (pr_jf 69 pr_i69)) (ev_it 71 (ev_it 70 (pr_jf 70 pr_i70) (pr_jf 71 pr_i71)) (pr_jf 72 pr_i72))) (ev_it 75 (ev_it 74 (ev_it 73 (pr_jf 73 pr_i73) (pr_jf 74 pr_i74)) (pr_jf 75 pr_i75)) (ev_it 76 (pr_jf 76 pr_i76) (pr_jf 77 pr_i77)))) (ev_it 83 (ev_it 80 (ev_it 79 (ev_it 78 (pr_jf 78 pr_i78) (pr_jf 79 pr_i79)) (pr_jf 80 pr_i80)) (ev_it 82 (ev_it 81 (pr_jf 81 pr_i81) (pr_jf 82 pr_i82)) (pr_jf 83 pr_i83))) (ev_it 86 (ev_it 85 (ev_it 84 (pr_jf 84 pr_i84) (pr_jf 85 pr_i85)) (pr_jf 86 pr_i86)) (ev_it 87 (pr_jf 87 pr_i87) (pr_jf 88 pr_i88))))))) (ev_it 132 (ev_it 110 (ev_it 99 (ev_it 94 (ev_it 91 (ev_it 90 (ev_it 89 (pr_jf 89 pr_i89) (pr_jf 90 pr_i90)) (pr_jf 91 pr_i91)) (ev_it 93 (ev_it 92 (pr_jf 92 pr_i92) (pr_jf 93 pr_i93)) (pr_jf 94 pr_i94))) (ev_it 97 (ev_it 96 (ev_it 95 (pr_jf 95 pr_i95) (pr_jf 96 pr_i96)) (pr_jf 97 pr_i97)) (ev_it 98 (pr_jf 98 pr_i98) (pr_jf 99 pr_i99)))) (ev_it 105 (ev_it 102 (ev_it 101 (ev_it 100 (pr_jf 100 pr_i100) (pr_jf 101 pr_i101)) (pr_jf 102 pr_i102)) (ev_it 104 (ev_it 103 (pr_jf 103 pr_i103) (pr_jf 104 pr_i104)) (pr_jf 105 pr_i105))) (ev_it 108 (ev_it 107 (ev_it 106 (pr_jf 106 pr_i106) (pr_jf 107 pr_i107)) (pr_jf 108 pr_i108)) (ev_it 109 (pr_jf 109 pr_i109) (pr_jf 110 pr_i110))))) (ev_it 121 (ev_it 116 (ev_it 113 (ev_it 112 (ev_it 111 (pr_jf 111 pr_i111) (pr_jf 112 pr_i112)) (pr_jf 113 pr_i113)) (ev_it 115 (ev_it 114 (pr_jf 114 pr_i114) (pr_jf 115 pr_i115)) (pr_jf 116 pr_i116))) (ev_it 119 (ev_it 118 (ev_it 117 (pr_jf 117 pr_i117) (pr_jf 118 pr_i118)) (pr_jf 119 pr_i119)) (ev_it 120 (pr_jf 120 pr_i120) (pr_jf 121 pr_i121)))) (ev_it 127 (ev_it 124 (ev_it 123 (ev_it 122 (pr_jf 122 pr_i122) (pr_jf 123 pr_i123)) (pr_jf 124 pr_i124)) (ev_it 126 (ev_it 125 (pr_jf 125 pr_i125) (pr_jf 126 pr_i126)) (pr_jf 127 pr_i127))) (ev_it 130 (ev_it 129 (ev_it 128 (pr_jf 128 pr_i128) (pr_jf 129 pr_i129)) (pr_jf 130 pr_i130)) (ev_it 131 (pr_jf 131 pr_i131) (pr_jf 132 pr_i132)))))) (ev_it 154 (ev_it 143 (ev_it 138 (ev_it 135 (ev_it 134 (ev_it 133 (pr_jf 133 pr_i133) (pr_jf 134 pr_i134)) (pr_jf 135 pr_i135)) (ev_it 137 (ev_it 136 (pr_jf 136 pr_i136) (pr_jf 137 pr_i137)) (pr_jf 138 pr_i138))) (ev_it 141 (ev_it 140 (ev_it 139 (pr_jf 139 pr_i139) (pr_jf 140 pr_i140)) (pr_jf 141 pr_i141)) (ev_it 142 (pr_jf 142 pr_i142) (pr_jf 143 pr_i143)))) (ev_it 149 (ev_it 146 (ev_it 145 (ev_it 144 (pr_jf 144 pr_i144) (pr_jf 145 pr_i145)) (pr_jf 146 pr_i146)) (ev_it 148 (ev_it 147 (pr_jf 147 pr_i147) (pr_jf 148 pr_i148)) (pr_jf 149 pr_i149))) (ev_it 152 (ev_it 151 (ev_it 150 (pr_jf 150 pr_i150) (pr_jf 151 pr_i151)) (pr_jf 152 pr_i152)) (ev_it 153 (pr_jf 153 pr_i153) (pr_jf 154 pr_i154))))) (ev_it 165 (ev_it 160 (ev_it 157 (ev_it 156 (ev_it 155 (pr_jf 155 pr_i155) (pr_jf 156 pr_i156)) (pr_jf 157 pr_i157)) (ev_it 159 (ev_it 158 (pr_jf 158 pr_i158) (pr_jf 159 pr_i159)) (pr_jf 160 pr_i160))) (ev_it 163 (ev_it 162 (ev_it 161 (pr_jf 161 pr_i161) (pr_jf 162 pr_i162)) (pr_jf 163 pr_i163)) (ev_it 164 (pr_jf 164 pr_i164) (pr_jf 165 pr_i165)))) (ev_it 171 (ev_it 168 (ev_it 167 (ev_it 166 (pr_jf 166 pr_i166) (pr_jf 167 pr_i167)) (pr_jf 168 pr_i168)) (ev_it 170 (ev_it 169 (pr_jf 169 pr_i169) (pr_jf 170 pr_i170)) (pr_jf 171 pr_i171))) (ev_it 174 (ev_it 173 (ev_it 172 (pr_jf 172 pr_i172) (pr_jf 173 pr_i173)) (pr_jf 174 pr_i174)) (ev_it 175 (pr_jf 175 pr_i175) (pr_jf 176 pr_i176)))))))) (ev_it 264 (ev_it 220 (ev_it 198 (ev_it 187 (ev_it 182 (ev_it 179 (ev_it 178 (ev_it 177 (pr_jf 177 pr_i177) (pr_jf 178 pr_i178)) (pr_jf 179 pr_i179)) (ev_it 181 (ev_it 180 (pr_jf 180 pr_i180) (pr_jf 181 pr_i181)) (pr_jf 182 pr_i182))) (ev_it 185 (ev_it 184 (ev_it 183 (pr_jf 183 pr_i183) (pr_jf 184 pr_i184)) (pr_jf 185 pr_i185)) (ev_it 186 (pr_jf 186 pr_i186) (pr_jf 187 pr_i187)))) (ev_it 193 (ev_it 190 (ev_it 189 (ev_it 188 (pr_jf 188 pr_i188) (pr_jf 189 pr_i189)) (pr_jf 190 pr_i190)) (ev_it 192 (ev_it 191 (pr_jf 191 pr_i191) (pr_jf 192 pr_i192)) (pr_jf 193 pr_i193))) (ev_it 196 (ev_it 195 (ev_it 194 (pr_jf 194 pr_i194) (pr_jf 195 pr_i195)) (pr_jf 196 pr_i196)) (ev_it 197 (pr_jf 197 pr_i197) (pr_jf 198 pr_i198))))) (ev_it 209 (ev_it 204 (ev_it 201 (ev_it 200 (ev_it 199 (pr_jf 199 pr_i199) (pr_jf 200 pr_i200)) (pr_jf 201 pr_i201)) (ev_it 203 (ev_it 202 (pr_jf 202 pr_i202) (pr_jf 203 pr_i203)) (pr_jf 204 pr_i204))) (ev_it 207 (ev_it 206 (ev_it 205 (pr_jf 205 pr_i205) (pr_jf 206 pr_i206)) (pr_jf 207 pr_i207)) (ev_it 208 (pr_jf 208 pr_i208) (pr_jf 209 pr_i209)))) (ev_it 215 (ev_it 212 (ev_it 211 (ev_it 210 (pr_jf 210 pr_i210) (pr_jf 211 pr_i211)) (pr_jf 212 pr_i212)) (ev_it 214 (ev_it 213 (pr_jf 213 pr_i213) (pr_jf 214 pr_i214)) (pr_jf 215 pr_i215))) (ev_it 218 (ev_it 217 (ev_it 216 (pr_jf 216 pr_i216) (pr_jf 217 pr_i217)) (pr_jf 218 pr_i218)) (ev_it 219 (pr_jf 219 pr_i219) (pr_jf 220 pr_i220)))))) (ev_it 242 (ev_it 231 (ev_it 226 (ev_it 223 (ev_it 222 (ev_it 221 (pr_jf 221 pr_i221) (pr_jf 222 pr_i222)) (pr_jf 223 pr_i223)) (ev_it 225 (ev_it 224 (pr_jf 224 pr_i224) (pr_jf 225 pr_i225)) (pr_jf 226 pr_i226))) (ev_it 229 (ev_it 228 (ev_it 227 (pr_jf 227 pr_i227) (pr_jf 228 pr_i228)) (pr_jf 229 pr_i229)) (ev_it 230 (pr_jf 230 pr_i230) (pr_jf 231 pr_i231)))) (ev_it 237 (ev_it 234 (ev_it 233 (ev_it 232 (pr_jf 232 pr_i232) (pr_jf 233 pr_i233)) (pr_jf 234 pr_i234)) (ev_it 236 (ev_it 235 (pr_jf 235 pr_i235) (pr_jf 236 pr_i236)) (pr_jf 237 pr_i237))) (ev_it 240 (ev_it 239 (ev_it 238 (pr_jf 238 pr_i238) (pr_jf 239 pr_i239)) (pr_jf 240 pr_i240)) (ev_it 241 (pr_jf 241 pr_i241) (pr_jf 242 pr_i242))))) (ev_it 253 (ev_it 248 (ev_it 245 (ev_it 244 (ev_it 243 (pr_jf 243 pr_i243) (pr_jf 244 pr_i244)) (pr_jf 245 pr_i245)) (ev_it 247 (ev_it 246 (pr_jf 246 pr_i246) (pr_jf 247 pr_i247)) (pr_jf 248 pr_i248))) (ev_it 251 (ev_it 250 (ev_it 249 (pr_jf 249 pr_i249) (pr_jf 250 pr_i250)) (pr_jf 251 pr_i251)) (ev_it 252 (pr_jf 252 pr_i252) (pr_jf 253 pr_i253)))) (ev_it 259 (ev_it 256 (ev_it 255 (ev_it 254 (pr_jf 254 pr_i254) (pr_jf 255 pr_i255)) (pr_jf 256 pr_i256)) (ev_it 258 (ev_it 257 (pr_jf 257 pr_i257) (pr_jf 258 pr_i258)) (pr_jf 259 pr_i259))) (ev_it 262 (ev_it 261 (ev_it 260 (pr_jf 260 pr_i260) (pr_jf 261 pr_i261)) (pr_jf 262 pr_i262)) (ev_it 263 (pr_jf 263 pr_i263) (pr_jf 264 pr_i264))))))) (ev_it 308 (ev_it 286 (ev_it 275 (ev_it 270 (ev_it 267 (ev_it 266 (ev_it 265 (pr_jf 265 pr_i265) (pr_jf 266 pr_i266)) (pr_jf 267 pr_i267)) (ev_it 269 (ev_it 268 (pr_jf 268 pr_i268) (pr_jf 269 pr_i269)) (pr_jf 270 pr_i270))) (ev_it 273 (ev_it 272 (ev_it 271 (pr_jf 271 pr_i271) (pr_jf 272 pr_i272)) (pr_jf 273 pr_i273)) (ev_it 274 (pr_jf 274 pr_i274) (pr_jf 275 pr_i275)))) (ev_it 281 (ev_it 278 (ev_it 277 (ev_it 276 (pr_jf 276 pr_i276) (pr_jf 277 pr_i277)) (pr_jf 278 pr_i278)) (ev_it 280 (ev_it 279 (pr_jf 279 pr_i279) (pr_jf 280 pr_i280)) (pr_jf 281 pr_i281))) (ev_it 284 (ev_it 283 (ev_it 282 (pr_jf 282 pr_i282) (pr_jf 283 pr_i283)) (pr_jf 284 pr_i284)) (ev_it 285 (pr_jf 285 pr_i285) (pr_jf 286 pr_i286))))) (ev_it 297 (ev_it 292 (ev_it 289 (ev_it 288 (ev_it 287 (pr_jf 287 pr_i287) (pr_jf 288 pr_i288)) (pr_jf 289 pr_i289)) (ev_it 291 (ev_it 290 (pr_jf 290 pr_i290) (pr_jf 291 pr_i291)) (pr_jf 292 pr_i292))) (ev_it 295 (ev_it 294 (ev_it 293 (pr_jf 293 pr_i293) (pr_jf 294 pr_i294)) (pr_jf 295 pr_i295)) (ev_it 296 (pr_jf 296 pr_i296) (pr_jf 297 pr_i297)))) (ev_it 303 (ev_it 300 (ev_it 299 (ev_it 298 (pr_jf 298 pr_i298) (pr_jf 299 pr_i299)) (pr_jf 300 pr_i300)) (ev_it 302 (ev_it 301 (pr_jf 301 pr_i301) (pr_jf 302 pr_i302)) (pr_jf 303 pr_i303))) (ev_it 306 (ev_it 305 (ev_it 304 (pr_jf 304 pr_i304) (pr_jf 305 pr_i305)) (pr_jf 306 pr_i306)) (ev_it 307 (pr_jf 307 pr_i307) (pr_jf 308 pr_i308)))))) (ev_it 330 (ev_it 319 (ev_it 314 (ev_it 311 (ev_it 310 (ev_it 309 (pr_jf 309 pr_i309) (pr_jf 310 pr_i310)) (pr_jf 311 pr_i311)) (ev_it 313 (ev_it 312 (pr_jf 312 pr_i312) (pr_jf 313 pr_i313)) (pr_jf 314 pr_i314))) (ev_it 317 (ev_it 316 (ev_it 315 (pr_jf 315 pr_i315) (pr_jf 316 pr_i316)) (pr_jf 317 pr_i317)) (ev_it 318 (pr_jf 318 pr_i318) (pr_jf 319 pr_i319)))) (ev_it 325 (ev_it 322 (ev_it 321 (ev_it 320 (pr_jf 320 pr_i320) (pr_jf 321 pr_i321)) (pr_jf 322 pr_i322)) (ev_it 324 (ev_it 323 (pr_jf 323 pr_i323) (pr_jf 324 pr_i324)) (pr_jf 325 pr_i325))) (ev_it 328 (ev_it 327 (ev_it 326 (pr_jf 326 pr_i326) (pr_jf 327 pr_i327)) (pr_jf 328 pr_i328)) (ev_it 329 (pr_jf 329 pr_i329) (pr_jf 330 pr_i330))))) (ev_it 341 (ev_it 336 (ev_it 333 (ev_it 332 (ev_it 331 (pr_jf 331 pr_i331) (pr_jf 332 pr_i332)) (pr_jf 333 pr_i333)) (ev_it 335 (ev_it 334 (pr_jf 334 pr_i334) (pr_jf 335 pr_i335)) (pr_jf 336 pr_i336))) (ev_it 339 (ev_it 338 (ev_it 337 (pr_jf 337 pr_i337) (pr_jf 338 pr_i338)) (pr_jf 339 pr_i339)) (ev_it 340 (pr_jf 340 pr_i340) (pr_jf 341 pr_i341)))) (ev_it 347 (ev_it 344 (ev_it 343 (ev_it 342 (pr_jf 342 pr_i342) (pr_jf 343 pr_i343)) (pr_jf 344 pr_i344)) (ev_it 346 (ev_it 345 (pr_jf 345 pr_i345) (pr_jf 346 pr_i346)) (pr_jf 347 pr_i347))) (ev_it 350 (ev_it 349 (ev_it 348 (pr_jf 348 pr_i348) (pr_jf 349 pr_i349)) (pr_jf 350 pr_i350)) (ev_it 351 (pr_jf 351 pr_i351) (pr_jf 353 pr_i353)))))))))
def pr_S : List (String × (Nat × String)) := [("OrphanTree", (120, "no such number")), ("OrphanTree", (177, "no such property")), ("OrphanTree", (218, "not so many processes")), ("OrphanTree", (256, "no testament")), ("OrphanTree", (272, "its own heir")), ("OrphanTree", (296, "no such exit")), ("OrphanTree", (345, "no such process")), ("OrphanTree", (348, "out of range")), ("OrphanTree", (352, "the tree does not let it"))]
noncomputable def pr_cS : Nat → ev_E := (ev_ct 12 (ev_ct 7 (ev_ct 3 (ev_ct 0 (pr_q 0 (qe 33 3 6 7 0 [1, 1, 1, 1, 1, 1, 0])) (pr_q 3 (qe 21 4 0 0 0 []))) (ev_ct 4 (pr_q 4 (qe 35 7 0 1 7 [623, 10110])) (pr_q 7 (qe 10 8 1 0 0 [])))) (ev_ct 11 (ev_ct 8 (pr_q 8 (qe 33 11 7 24 0 [1, 1, 1, 1, 1, 1, 0, 0, 0, 1, 0, 0, 0, 0, 0, 0, 0, 0, 0, 0, 1, 1, 1, 0])) (pr_q 11 (qe 21 12 0 0 0 []))) (pr_q 12 (qe 35 15 73 1 8 [10, 11904])))) (ev_ct 19 (ev_ct 16 (ev_ct 15 (pr_q 15 (qe 10 16 2 0 0 [])) (pr_q 16 (qe 1 17 1 0 0 []))) (ev_ct 17 (pr_q 17 (qe 34 19 23 2 0 [])) (pr_q 19 (qe 10 20 3 0 0 [])))) (ev_ct 21 (ev_ct 20 (pr_q 20 (qe 1 21 0 0 0 [])) (pr_q 21 (qe 9 23 4 0 0 []))) (pr_q 23 (qe 46 0 0 0 0 [])))))
noncomputable def pr_mS : ev_M := (9, (100000, (1000000, ([], pr_cS))))
/-- the world at the start: nothing yet -/
def pr_w0 : ev_W := (List.replicate 11 (List.replicate 8 (List.replicate 8 (99, (0, [])))), (0, (true, (0, 0))))
def pr_l0 : ev_L := [some (.inr (.inl (some 1000000))), none, none, none, none, none, none, none, none]
theorem qI_0 : pr_I 0 = pr_i0 := (rfl)
theorem qI_1 : pr_I 1 = pr_i1 := (rfl)
theorem qI_2 : pr_I 2 = pr_i2 := (rfl)
theorem qI_3 : pr_I 3 = pr_i3 := (rfl)
theorem qI_4 : pr_I 4 = pr_i4 := (rfl)
theorem qI_5 : pr_I 5 = pr_i5 := (rfl)
theorem qI_6 : pr_I 6 = pr_i6 := (rfl)
theorem qI_7 : pr_I 7 = pr_i7 := (rfl)
theorem qI_8 : pr_I 8 = pr_i8 := (rfl)
theorem qI_9 : pr_I 9 = pr_i9 := (rfl)
theorem qI_10 : pr_I 10 = pr_i10 := (rfl)
theorem qI_11 : pr_I 11 = pr_i11 := (rfl)
theorem qI_12 : pr_I 12 = pr_i12 := (rfl)
theorem qI_13 : pr_I 13 = pr_i13 := (rfl)
theorem qI_14 : pr_I 14 = pr_i14 := (rfl)
theorem qI_15 : pr_I 15 = pr_i15 := (rfl)
theorem qI_16 : pr_I 16 = pr_i16 := (rfl)
theorem qI_17 : pr_I 17 = pr_i17 := (rfl)
theorem qI_18 : pr_I 18 = pr_i18 := (rfl)
theorem qI_19 : pr_I 19 = pr_i19 := (rfl)
theorem qI_20 : pr_I 20 = pr_i20 := (rfl)
theorem qI_21 : pr_I 21 = pr_i21 := (rfl)
theorem qI_22 : pr_I 22 = pr_i22 := (rfl)
theorem qI_23 : pr_I 23 = pr_i23 := (rfl)
theorem qI_24 : pr_I 24 = pr_i24 := (rfl)
theorem qI_25 : pr_I 25 = pr_i25 := (rfl)
theorem qI_26 : pr_I 26 = pr_i26 := (rfl)
theorem qI_27 : pr_I 27 = pr_i27 := (rfl)
theorem qI_28 : pr_I 28 = pr_i28 := (rfl)
theorem qI_29 : pr_I 29 = pr_i29 := (rfl)
theorem qI_30 : pr_I 30 = pr_i30 := (rfl)
theorem qI_31 : pr_I 31 = pr_i31 := (rfl)
theorem qI_32 : pr_I 32 = pr_i32 := (rfl)
theorem qI_33 : pr_I 33 = pr_i33 := (rfl)
theorem qI_34 : pr_I 34 = pr_i34 := (rfl)
theorem qI_35 : pr_I 35 = pr_i35 := (rfl)
theorem qI_36 : pr_I 36 = pr_i36 := (rfl)
theorem qI_37 : pr_I 37 = pr_i37 := (rfl)
theorem qI_38 : pr_I 38 = pr_i38 := (rfl)
theorem qI_39 : pr_I 39 = pr_i39 := (rfl)
theorem qI_40 : pr_I 40 = pr_i40 := (rfl)
theorem qI_41 : pr_I 41 = pr_i41 := (rfl)
theorem qI_42 : pr_I 42 = pr_i42 := (rfl)
theorem qI_43 : pr_I 43 = pr_i43 := (rfl)
theorem qI_44 : pr_I 44 = pr_i44 := (rfl)
theorem qI_45 : pr_I 45 = pr_i45 := (rfl)
theorem qI_46 : pr_I 46 = pr_i46 := (rfl)
theorem qI_47 : pr_I 47 = pr_i47 := (rfl)
theorem qI_48 : pr_I 48 = pr_i48 := (rfl)
theorem qI_49 : pr_I 49 = pr_i49 := (rfl)
theorem qI_50 : pr_I 50 = pr_i50 := (rfl)
theorem qI_51 : pr_I 51 = pr_i51 := (rfl)
theorem qI_52 : pr_I 52 = pr_i52 := (rfl)
theorem qI_53 : pr_I 53 = pr_i53 := (rfl)
theorem qI_54 : pr_I 54 = pr_i54 := (rfl)
theorem qI_55 : pr_I 55 = pr_i55 := (rfl)
theorem qI_56 : pr_I 56 = pr_i56 := (rfl)
theorem qI_57 : pr_I 57 = pr_i57 := (rfl)
theorem qI_58 : pr_I 58 = pr_i58 := (rfl)
theorem qI_59 : pr_I 59 = pr_i59 := (rfl)
theorem qI_60 : pr_I 60 = pr_i60 := (rfl)
theorem qI_61 : pr_I 61 = pr_i61 := (rfl)
theorem qI_62 : pr_I 62 = pr_i62 := (rfl)
theorem qI_63 : pr_I 63 = pr_i63 := (rfl)
theorem qI_64 : pr_I 64 = pr_i64 := (rfl)
theorem qI_65 : pr_I 65 = pr_i65 := (rfl)
theorem qI_66 : pr_I 66 = pr_i66 := (rfl)
theorem qI_67 : pr_I 67 = pr_i67 := (rfl)
theorem qI_68 : pr_I 68 = pr_i68 := (rfl)
theorem qI_69 : pr_I 69 = pr_i69 := (rfl)
theorem qI_70 : pr_I 70 = pr_i70 := (rfl)
theorem qI_71 : pr_I 71 = pr_i71 := (rfl)
theorem qI_72 : pr_I 72 = pr_i72 := (rfl)
theorem qI_73 : pr_I 73 = pr_i73 := (rfl)
theorem qI_74 : pr_I 74 = pr_i74 := (rfl)
theorem qI_75 : pr_I 75 = pr_i75 := (rfl)
theorem qI_76 : pr_I 76 = pr_i76 := (rfl)
theorem qI_77 : pr_I 77 = pr_i77 := (rfl)
theorem qI_78 : pr_I 78 = pr_i78 := (rfl)
theorem qI_79 : pr_I 79 = pr_i79 := (rfl)
theorem qI_80 : pr_I 80 = pr_i80 := (rfl)
theorem qI_81 : pr_I 81 = pr_i81 := (rfl)
theorem qI_82 : pr_I 82 = pr_i82 := (rfl)
theorem qI_83 : pr_I 83 = pr_i83 := (rfl)
theorem qI_84 : pr_I 84 = pr_i84 := (rfl)
theorem qI_85 : pr_I 85 = pr_i85 := (rfl)
theorem qI_86 : pr_I 86 = pr_i86 := (rfl)
theorem qI_87 : pr_I 87 = pr_i87 := (rfl)
theorem qI_88 : pr_I 88 = pr_i88 := (rfl)
theorem qI_89 : pr_I 89 = pr_i89 := (rfl)
theorem qI_90 : pr_I 90 = pr_i90 := (rfl)
theorem qI_91 : pr_I 91 = pr_i91 := (rfl)
theorem qI_92 : pr_I 92 = pr_i92 := (rfl)
theorem qI_93 : pr_I 93 = pr_i93 := (rfl)
theorem qI_94 : pr_I 94 = pr_i94 := (rfl)
theorem qI_95 : pr_I 95 = pr_i95 := (rfl)
theorem qI_96 : pr_I 96 = pr_i96 := (rfl)
theorem qI_97 : pr_I 97 = pr_i97 := (rfl)
theorem qI_98 : pr_I 98 = pr_i98 := (rfl)
theorem qI_99 : pr_I 99 = pr_i99 := (rfl)
theorem qI_100 : pr_I 100 = pr_i100 := (rfl)
theorem qI_101 : pr_I 101 = pr_i101 := (rfl)
theorem qI_102 : pr_I 102 = pr_i102 := (rfl)
theorem qI_103 : pr_I 103 = pr_i103 := (rfl)
theorem qI_104 : pr_I 104 = pr_i104 := (rfl)
theorem qI_105 : pr_I 105 = pr_i105 := (rfl)
theorem qI_106 : pr_I 106 = pr_i106 := (rfl)
theorem qI_107 : pr_I 107 = pr_i107 := (rfl)
theorem qI_108 : pr_I 108 = pr_i108 := (rfl)
theorem qI_109 : pr_I 109 = pr_i109 := (rfl)
theorem qI_110 : pr_I 110 = pr_i110 := (rfl)
theorem qI_111 : pr_I 111 = pr_i111 := (rfl)
theorem qI_112 : pr_I 112 = pr_i112 := (rfl)
theorem qI_113 : pr_I 113 = pr_i113 := (rfl)
theorem qI_114 : pr_I 114 = pr_i114 := (rfl)
theorem qI_115 : pr_I 115 = pr_i115 := (rfl)
theorem qI_116 : pr_I 116 = pr_i116 := (rfl)
theorem qI_117 : pr_I 117 = pr_i117 := (rfl)
theorem qI_118 : pr_I 118 = pr_i118 := (rfl)
theorem qI_119 : pr_I 119 = pr_i119 := (rfl)
theorem qI_120 : pr_I 120 = pr_i120 := (rfl)
theorem qI_121 : pr_I 121 = pr_i121 := (rfl)
theorem qI_122 : pr_I 122 = pr_i122 := (rfl)
theorem qI_123 : pr_I 123 = pr_i123 := (rfl)
theorem qI_124 : pr_I 124 = pr_i124 := (rfl)
theorem qI_125 : pr_I 125 = pr_i125 := (rfl)
theorem qI_126 : pr_I 126 = pr_i126 := (rfl)
theorem qI_127 : pr_I 127 = pr_i127 := (rfl)
theorem qI_128 : pr_I 128 = pr_i128 := (rfl)
theorem qI_129 : pr_I 129 = pr_i129 := (rfl)
theorem qI_130 : pr_I 130 = pr_i130 := (rfl)
theorem qI_131 : pr_I 131 = pr_i131 := (rfl)
theorem qI_132 : pr_I 132 = pr_i132 := (rfl)
theorem qI_133 : pr_I 133 = pr_i133 := (rfl)
theorem qI_134 : pr_I 134 = pr_i134 := (rfl)
theorem qI_135 : pr_I 135 = pr_i135 := (rfl)
theorem qI_136 : pr_I 136 = pr_i136 := (rfl)
theorem qI_137 : pr_I 137 = pr_i137 := (rfl)
theorem qI_138 : pr_I 138 = pr_i138 := (rfl)
theorem qI_139 : pr_I 139 = pr_i139 := (rfl)
theorem qI_140 : pr_I 140 = pr_i140 := (rfl)
theorem qI_141 : pr_I 141 = pr_i141 := (rfl)
theorem qI_142 : pr_I 142 = pr_i142 := (rfl)
theorem qI_143 : pr_I 143 = pr_i143 := (rfl)
theorem qI_144 : pr_I 144 = pr_i144 := (rfl)
theorem qI_145 : pr_I 145 = pr_i145 := (rfl)
theorem qI_146 : pr_I 146 = pr_i146 := (rfl)
theorem qI_147 : pr_I 147 = pr_i147 := (rfl)
theorem qI_148 : pr_I 148 = pr_i148 := (rfl)
theorem qI_149 : pr_I 149 = pr_i149 := (rfl)
theorem qI_150 : pr_I 150 = pr_i150 := (rfl)
theorem qI_151 : pr_I 151 = pr_i151 := (rfl)
theorem qI_152 : pr_I 152 = pr_i152 := (rfl)
theorem qI_153 : pr_I 153 = pr_i153 := (rfl)
theorem qI_154 : pr_I 154 = pr_i154 := (rfl)
theorem qI_155 : pr_I 155 = pr_i155 := (rfl)
theorem qI_156 : pr_I 156 = pr_i156 := (rfl)
theorem qI_157 : pr_I 157 = pr_i157 := (rfl)
theorem qI_158 : pr_I 158 = pr_i158 := (rfl)
theorem qI_159 : pr_I 159 = pr_i159 := (rfl)
theorem qI_160 : pr_I 160 = pr_i160 := (rfl)
theorem qI_161 : pr_I 161 = pr_i161 := (rfl)
theorem qI_162 : pr_I 162 = pr_i162 := (rfl)
theorem qI_163 : pr_I 163 = pr_i163 := (rfl)
theorem qI_164 : pr_I 164 = pr_i164 := (rfl)
theorem qI_165 : pr_I 165 = pr_i165 := (rfl)
theorem qI_166 : pr_I 166 = pr_i166 := (rfl)
theorem qI_167 : pr_I 167 = pr_i167 := (rfl)
theorem qI_168 : pr_I 168 = pr_i168 := (rfl)
theorem qI_169 : pr_I 169 = pr_i169 := (rfl)
theorem qI_170 : pr_I 170 = pr_i170 := (rfl)
theorem qI_171 : pr_I 171 = pr_i171 := (rfl)
theorem qI_172 : pr_I 172 = pr_i172 := (rfl)
theorem qI_173 : pr_I 173 = pr_i173 := (rfl)
theorem qI_174 : pr_I 174 = pr_i174 := (rfl)
theorem qI_175 : pr_I 175 = pr_i175 := (rfl)
theorem qI_176 : pr_I 176 = pr_i176 := (rfl)
theorem qI_177 : pr_I 177 = pr_i177 := (rfl)
theorem qI_178 : pr_I 178 = pr_i178 := (rfl)
theorem qI_179 : pr_I 179 = pr_i179 := (rfl)
theorem qI_180 : pr_I 180 = pr_i180 := (rfl)
theorem qI_181 : pr_I 181 = pr_i181 := (rfl)
theorem qI_182 : pr_I 182 = pr_i182 := (rfl)
theorem qI_183 : pr_I 183 = pr_i183 := (rfl)
theorem qI_184 : pr_I 184 = pr_i184 := (rfl)
theorem qI_185 : pr_I 185 = pr_i185 := (rfl)
theorem qI_186 : pr_I 186 = pr_i186 := (rfl)
theorem qI_187 : pr_I 187 = pr_i187 := (rfl)
theorem qI_188 : pr_I 188 = pr_i188 := (rfl)
theorem qI_189 : pr_I 189 = pr_i189 := (rfl)
theorem qI_190 : pr_I 190 = pr_i190 := (rfl)
theorem qI_191 : pr_I 191 = pr_i191 := (rfl)
theorem qI_192 : pr_I 192 = pr_i192 := (rfl)
theorem qI_193 : pr_I 193 = pr_i193 := (rfl)
theorem qI_194 : pr_I 194 = pr_i194 := (rfl)
theorem qI_195 : pr_I 195 = pr_i195 := (rfl)
theorem qI_196 : pr_I 196 = pr_i196 := (rfl)
theorem qI_197 : pr_I 197 = pr_i197 := (rfl)
theorem qI_198 : pr_I 198 = pr_i198 := (rfl)
theorem qI_199 : pr_I 199 = pr_i199 := (rfl)
theorem qI_200 : pr_I 200 = pr_i200 := (rfl)
theorem qI_201 : pr_I 201 = pr_i201 := (rfl)
theorem qI_202 : pr_I 202 = pr_i202 := (rfl)
theorem qI_203 : pr_I 203 = pr_i203 := (rfl)
theorem qI_204 : pr_I 204 = pr_i204 := (rfl)
theorem qI_205 : pr_I 205 = pr_i205 := (rfl)
theorem qI_206 : pr_I 206 = pr_i206 := (rfl)
theorem qI_207 : pr_I 207 = pr_i207 := (rfl)
theorem qI_208 : pr_I 208 = pr_i208 := (rfl)
theorem qI_209 : pr_I 209 = pr_i209 := (rfl)
theorem qI_210 : pr_I 210 = pr_i210 := (rfl)
theorem qI_211 : pr_I 211 = pr_i211 := (rfl)
theorem qI_212 : pr_I 212 = pr_i212 := (rfl)
theorem qI_213 : pr_I 213 = pr_i213 := (rfl)
theorem qI_214 : pr_I 214 = pr_i214 := (rfl)
theorem qI_215 : pr_I 215 = pr_i215 := (rfl)
theorem qI_216 : pr_I 216 = pr_i216 := (rfl)
theorem qI_217 : pr_I 217 = pr_i217 := (rfl)
theorem qI_218 : pr_I 218 = pr_i218 := (rfl)
theorem qI_219 : pr_I 219 = pr_i219 := (rfl)
theorem qI_220 : pr_I 220 = pr_i220 := (rfl)
theorem qI_221 : pr_I 221 = pr_i221 := (rfl)
theorem qI_222 : pr_I 222 = pr_i222 := (rfl)
theorem qI_223 : pr_I 223 = pr_i223 := (rfl)
theorem qI_224 : pr_I 224 = pr_i224 := (rfl)
theorem qI_225 : pr_I 225 = pr_i225 := (rfl)
theorem qI_226 : pr_I 226 = pr_i226 := (rfl)
theorem qI_227 : pr_I 227 = pr_i227 := (rfl)
theorem qI_228 : pr_I 228 = pr_i228 := (rfl)
theorem qI_229 : pr_I 229 = pr_i229 := (rfl)
theorem qI_230 : pr_I 230 = pr_i230 := (rfl)
theorem qI_231 : pr_I 231 = pr_i231 := (rfl)
theorem qI_232 : pr_I 232 = pr_i232 := (rfl)
theorem qI_233 : pr_I 233 = pr_i233 := (rfl)
theorem qI_234 : pr_I 234 = pr_i234 := (rfl)
theorem qI_235 : pr_I 235 = pr_i235 := (rfl)
theorem qI_236 : pr_I 236 = pr_i236 := (rfl)
theorem qI_237 : pr_I 237 = pr_i237 := (rfl)
theorem qI_238 : pr_I 238 = pr_i238 := (rfl)
theorem qI_239 : pr_I 239 = pr_i239 := (rfl)
theorem qI_240 : pr_I 240 = pr_i240 := (rfl)
theorem qI_241 : pr_I 241 = pr_i241 := (rfl)
theorem qI_242 : pr_I 242 = pr_i242 := (rfl)
theorem qI_243 : pr_I 243 = pr_i243 := (rfl)
theorem qI_244 : pr_I 244 = pr_i244 := (rfl)
theorem qI_245 : pr_I 245 = pr_i245 := (rfl)
theorem qI_246 : pr_I 246 = pr_i246 := (rfl)
theorem qI_247 : pr_I 247 = pr_i247 := (rfl)
theorem qI_248 : pr_I 248 = pr_i248 := (rfl)
theorem qI_249 : pr_I 249 = pr_i249 := (rfl)
theorem qI_250 : pr_I 250 = pr_i250 := (rfl)
theorem qI_251 : pr_I 251 = pr_i251 := (rfl)
theorem qI_252 : pr_I 252 = pr_i252 := (rfl)
theorem qI_253 : pr_I 253 = pr_i253 := (rfl)
theorem qI_254 : pr_I 254 = pr_i254 := (rfl)
theorem qI_255 : pr_I 255 = pr_i255 := (rfl)
theorem qI_256 : pr_I 256 = pr_i256 := (rfl)
theorem qI_257 : pr_I 257 = pr_i257 := (rfl)
theorem qI_258 : pr_I 258 = pr_i258 := (rfl)
theorem qI_259 : pr_I 259 = pr_i259 := (rfl)
theorem qI_260 : pr_I 260 = pr_i260 := (rfl)
theorem qI_261 : pr_I 261 = pr_i261 := (rfl)
theorem qI_262 : pr_I 262 = pr_i262 := (rfl)
theorem qI_263 : pr_I 263 = pr_i263 := (rfl)
theorem qI_264 : pr_I 264 = pr_i264 := (rfl)
theorem qI_265 : pr_I 265 = pr_i265 := (rfl)
theorem qI_266 : pr_I 266 = pr_i266 := (rfl)
theorem qI_267 : pr_I 267 = pr_i267 := (rfl)
theorem qI_268 : pr_I 268 = pr_i268 := (rfl)
theorem qI_269 : pr_I 269 = pr_i269 := (rfl)
theorem qI_270 : pr_I 270 = pr_i270 := (rfl)
theorem qI_271 : pr_I 271 = pr_i271 := (rfl)
theorem qI_272 : pr_I 272 = pr_i272 := (rfl)
theorem qI_273 : pr_I 273 = pr_i273 := (rfl)
theorem qI_274 : pr_I 274 = pr_i274 := (rfl)
theorem qI_275 : pr_I 275 = pr_i275 := (rfl)
theorem qI_276 : pr_I 276 = pr_i276 := (rfl)
theorem qI_277 : pr_I 277 = pr_i277 := (rfl)
theorem qI_278 : pr_I 278 = pr_i278 := (rfl)
theorem qI_279 : pr_I 279 = pr_i279 := (rfl)
theorem qI_280 : pr_I 280 = pr_i280 := (rfl)
theorem qI_281 : pr_I 281 = pr_i281 := (rfl)
theorem qI_282 : pr_I 282 = pr_i282 := (rfl)
theorem qI_283 : pr_I 283 = pr_i283 := (rfl)
theorem qI_284 : pr_I 284 = pr_i284 := (rfl)
theorem qI_285 : pr_I 285 = pr_i285 := (rfl)
theorem qI_286 : pr_I 286 = pr_i286 := (rfl)
theorem qI_287 : pr_I 287 = pr_i287 := (rfl)
theorem qI_288 : pr_I 288 = pr_i288 := (rfl)
theorem qI_289 : pr_I 289 = pr_i289 := (rfl)
theorem qI_290 : pr_I 290 = pr_i290 := (rfl)
theorem qI_291 : pr_I 291 = pr_i291 := (rfl)
theorem qI_292 : pr_I 292 = pr_i292 := (rfl)
theorem qI_293 : pr_I 293 = pr_i293 := (rfl)
theorem qI_294 : pr_I 294 = pr_i294 := (rfl)
theorem qI_295 : pr_I 295 = pr_i295 := (rfl)
theorem qI_296 : pr_I 296 = pr_i296 := (rfl)
theorem qI_297 : pr_I 297 = pr_i297 := (rfl)
theorem qI_298 : pr_I 298 = pr_i298 := (rfl)
theorem qI_299 : pr_I 299 = pr_i299 := (rfl)
theorem qI_300 : pr_I 300 = pr_i300 := (rfl)
theorem qI_301 : pr_I 301 = pr_i301 := (rfl)
theorem qI_302 : pr_I 302 = pr_i302 := (rfl)
theorem qI_303 : pr_I 303 = pr_i303 := (rfl)
theorem qI_304 : pr_I 304 = pr_i304 := (rfl)
theorem qI_305 : pr_I 305 = pr_i305 := (rfl)
theorem qI_306 : pr_I 306 = pr_i306 := (rfl)
theorem qI_307 : pr_I 307 = pr_i307 := (rfl)
theorem qI_308 : pr_I 308 = pr_i308 := (rfl)
theorem qI_309 : pr_I 309 = pr_i309 := (rfl)
theorem qI_310 : pr_I 310 = pr_i310 := (rfl)
theorem qI_311 : pr_I 311 = pr_i311 := (rfl)
theorem qI_312 : pr_I 312 = pr_i312 := (rfl)
theorem qI_313 : pr_I 313 = pr_i313 := (rfl)
theorem qI_314 : pr_I 314 = pr_i314 := (rfl)
theorem qI_315 : pr_I 315 = pr_i315 := (rfl)
theorem qI_316 : pr_I 316 = pr_i316 := (rfl)
theorem qI_317 : pr_I 317 = pr_i317 := (rfl)
theorem qI_318 : pr_I 318 = pr_i318 := (rfl)
theorem qI_319 : pr_I 319 = pr_i319 := (rfl)
theorem qI_320 : pr_I 320 = pr_i320 := (rfl)
theorem qI_321 : pr_I 321 = pr_i321 := (rfl)
theorem qI_322 : pr_I 322 = pr_i322 := (rfl)
theorem qI_323 : pr_I 323 = pr_i323 := (rfl)
theorem qI_324 : pr_I 324 = pr_i324 := (rfl)
theorem qI_325 : pr_I 325 = pr_i325 := (rfl)
theorem qI_326 : pr_I 326 = pr_i326 := (rfl)
theorem qI_327 : pr_I 327 = pr_i327 := (rfl)
theorem qI_328 : pr_I 328 = pr_i328 := (rfl)
theorem qI_329 : pr_I 329 = pr_i329 := (rfl)
theorem qI_330 : pr_I 330 = pr_i330 := (rfl)
theorem qI_331 : pr_I 331 = pr_i331 := (rfl)
theorem qI_332 : pr_I 332 = pr_i332 := (rfl)
theorem qI_333 : pr_I 333 = pr_i333 := (rfl)
theorem qI_334 : pr_I 334 = pr_i334 := (rfl)
theorem qI_335 : pr_I 335 = pr_i335 := (rfl)
theorem qI_336 : pr_I 336 = pr_i336 := (rfl)
theorem qI_337 : pr_I 337 = pr_i337 := (rfl)
theorem qI_338 : pr_I 338 = pr_i338 := (rfl)
theorem qI_339 : pr_I 339 = pr_i339 := (rfl)
theorem qI_340 : pr_I 340 = pr_i340 := (rfl)
theorem qI_341 : pr_I 341 = pr_i341 := (rfl)
theorem qI_342 : pr_I 342 = pr_i342 := (rfl)
theorem qI_343 : pr_I 343 = pr_i343 := (rfl)
theorem qI_344 : pr_I 344 = pr_i344 := (rfl)
theorem qI_345 : pr_I 345 = pr_i345 := (rfl)
theorem qI_346 : pr_I 346 = pr_i346 := (rfl)
theorem qI_347 : pr_I 347 = pr_i347 := (rfl)
theorem qI_348 : pr_I 348 = pr_i348 := (rfl)
theorem qI_349 : pr_I 349 = pr_i349 := (rfl)
theorem qI_350 : pr_I 350 = pr_i350 := (rfl)
theorem qI_351 : pr_I 351 = pr_i351 := (rfl)
theorem qI_353 : pr_I 353 = pr_i353 := (rfl)
theorem qP_0 : pr_P 0 = pr_m0 := rfl
theorem qP_1 : pr_P 1 = pr_m1 := rfl
theorem qP_2 : pr_P 2 = pr_m2 := rfl
theorem qP_3 : pr_P 3 = pr_m3 := rfl
theorem qP_4 : pr_P 4 = pr_m4 := rfl
theorem qP_5 : pr_P 5 = pr_m5 := rfl
theorem qP_6 : pr_P 6 = pr_m6 := rfl
theorem qP_7 : pr_P 7 = pr_m7 := rfl
theorem qP_8 : pr_P 8 = pr_m8 := rfl
theorem qP_9 : pr_P 9 = pr_m9 := rfl
theorem qP_10 : pr_P 10 = pr_m10 := rfl
theorem qP_11 : pr_P 11 = pr_m11 := rfl
theorem qP_12 : pr_P 12 = pr_m12 := rfl
theorem qP_13 : pr_P 13 = pr_m13 := rfl
theorem qP_14 : pr_P 14 = pr_m14 := rfl
theorem qP_15 : pr_P 15 = pr_m15 := rfl
theorem qP_16 : pr_P 16 = pr_m16 := rfl
theorem qP_17 : pr_P 17 = pr_m17 := rfl
theorem qP_18 : pr_P 18 = pr_m18 := rfl
theorem qP_19 : pr_P 19 = pr_m19 := rfl
theorem qP_20 : pr_P 20 = pr_m20 := rfl
theorem qP_21 : pr_P 21 = pr_m21 := rfl
theorem qP_22 : pr_P 22 = pr_m22 := rfl
theorem qP_23 : pr_P 23 = pr_m23 := rfl
theorem qP_24 : pr_P 24 = pr_m24 := rfl
theorem qP_25 : pr_P 25 = pr_m25 := rfl
theorem qP_26 : pr_P 26 = pr_m26 := rfl
theorem qP_27 : pr_P 27 = pr_m27 := rfl
theorem qP_28 : pr_P 28 = pr_m28 := rfl
theorem qP_29 : pr_P 29 = pr_m29 := rfl
theorem qP_30 : pr_P 30 = pr_m30 := rfl
theorem qP_31 : pr_P 31 = pr_m31 := rfl
theorem qP_32 : pr_P 32 = pr_m32 := rfl
theorem qP_33 : pr_P 33 = pr_m33 := rfl
theorem qP_34 : pr_P 34 = pr_m34 := rfl
theorem qP_35 : pr_P 35 = pr_m35 := rfl
theorem qP_36 : pr_P 36 = pr_m36 := rfl
theorem qP_37 : pr_P 37 = pr_m37 := rfl
theorem qP_38 : pr_P 38 = pr_m38 := rfl
theorem qP_39 : pr_P 39 = pr_m39 := rfl
theorem qP_40 : pr_P 40 = pr_m40 := rfl
theorem qP_41 : pr_P 41 = pr_m41 := rfl
theorem qP_42 : pr_P 42 = pr_m42 := rfl
theorem qP_43 : pr_P 43 = pr_m43 := rfl
theorem qP_44 : pr_P 44 = pr_m44 := rfl
theorem qP_45 : pr_P 45 = pr_m45 := rfl
theorem qP_46 : pr_P 46 = pr_m46 := rfl
theorem qP_47 : pr_P 47 = pr_m47 := rfl
theorem qP_48 : pr_P 48 = pr_m48 := rfl
theorem qP_49 : pr_P 49 = pr_m49 := rfl
theorem qP_50 : pr_P 50 = pr_m50 := rfl
theorem qP_51 : pr_P 51 = pr_m51 := rfl
theorem qP_52 : pr_P 52 = pr_m52 := rfl
theorem qP_53 : pr_P 53 = pr_m53 := rfl
theorem qP_54 : pr_P 54 = pr_m54 := rfl
theorem qP_55 : pr_P 55 = pr_m55 := rfl
theorem qP_56 : pr_P 56 = pr_m56 := rfl
theorem qP_57 : pr_P 57 = pr_m57 := rfl
theorem qP_58 : pr_P 58 = pr_m58 := rfl
theorem qP_59 : pr_P 59 = pr_m59 := rfl
theorem qP_60 : pr_P 60 = pr_m60 := rfl
theorem qP_61 : pr_P 61 = pr_m61 := rfl
theorem qP_62 : pr_P 62 = pr_m62 := rfl
theorem qP_63 : pr_P 63 = pr_m63 := rfl
theorem qP_64 : pr_P 64 = pr_m64 := rfl
theorem qP_65 : pr_P 65 = pr_m65 := rfl
theorem qP_66 : pr_P 66 = pr_m66 := rfl
theorem qP_67 : pr_P 67 = pr_m67 := rfl
theorem qP_68 : pr_P 68 = pr_m68 := rfl
theorem qP_69 : pr_P 69 = pr_m69 := rfl
theorem qP_70 : pr_P 70 = pr_m70 := rfl
theorem qP_71 : pr_P 71 = pr_m71 := rfl
theorem qP_72 : pr_P 72 = pr_m72 := rfl
theorem qP_73 : pr_P 73 = pr_m73 := rfl
theorem qP_74 : pr_P 74 = pr_m74 := rfl
theorem qP_75 : pr_P 75 = pr_m75 := rfl
theorem qP_76 : pr_P 76 = pr_m76 := rfl
theorem qP_77 : pr_P 77 = pr_m77 := rfl
theorem qP_78 : pr_P 78 = pr_m78 := rfl
theorem qP_79 : pr_P 79 = pr_m79 := rfl
theorem qP_80 : pr_P 80 = pr_m80 := rfl
theorem qP_81 : pr_P 81 = pr_m81 := rfl
theorem qP_82 : pr_P 82 = pr_m82 := rfl
theorem qP_83 : pr_P 83 = pr_m83 := rfl
theorem qP_84 : pr_P 84 = pr_m84 := rfl
theorem qP_85 : pr_P 85 = pr_m85 := rfl
theorem qP_86 : pr_P 86 = pr_m86 := rfl
theorem qP_87 : pr_P 87 = pr_m87 := rfl
theorem qP_88 : pr_P 88 = pr_m88 := rfl
theorem qP_89 : pr_P 89 = pr_m89 := rfl
theorem qP_90 : pr_P 90 = pr_m90 := rfl
theorem qP_91 : pr_P 91 = pr_m91 := rfl
theorem qP_92 : pr_P 92 = pr_m92 := rfl
theorem qP_93 : pr_P 93 = pr_m93 := rfl
theorem qP_94 : pr_P 94 = pr_m94 := rfl
theorem qP_95 : pr_P 95 = pr_m95 := rfl
theorem qP_96 : pr_P 96 = pr_m96 := rfl
theorem qP_97 : pr_P 97 = pr_m97 := rfl
theorem qP_98 : pr_P 98 = pr_m98 := rfl
theorem qP_99 : pr_P 99 = pr_m99 := rfl
theorem qP_100 : pr_P 100 = pr_m100 := rfl
theorem qP_101 : pr_P 101 = pr_m101 := rfl
theorem qP_102 : pr_P 102 = pr_m102 := rfl
theorem qP_103 : pr_P 103 = pr_m103 := rfl
theorem qP_104 : pr_P 104 = pr_m104 := rfl
theorem qP_105 : pr_P 105 = pr_m105 := rfl
theorem qP_106 : pr_P 106 = pr_m106 := rfl
theorem qP_107 : pr_P 107 = pr_m107 := rfl
theorem qP_108 : pr_P 108 = pr_m108 := rfl
theorem qP_109 : pr_P 109 = pr_m109 := rfl
theorem qP_110 : pr_P 110 = pr_m110 := rfl
theorem qP_111 : pr_P 111 = pr_m111 := rfl
theorem qP_112 : pr_P 112 = pr_m112 := rfl
theorem qP_113 : pr_P 113 = pr_m113 := rfl
theorem qP_114 : pr_P 114 = pr_m114 := rfl
theorem qP_115 : pr_P 115 = pr_m115 := rfl
theorem qP_116 : pr_P 116 = pr_m116 := rfl
theorem qP_117 : pr_P 117 = pr_m117 := rfl
theorem qP_118 : pr_P 118 = pr_m118 := rfl
theorem qP_119 : pr_P 119 = pr_m119 := rfl
theorem qP_120 : pr_P 120 = pr_m120 := rfl
theorem qP_121 : pr_P 121 = pr_m121 := rfl
theorem qP_122 : pr_P 122 = pr_m122 := rfl
theorem qP_123 : pr_P 123 = pr_m123 := rfl
theorem qP_124 : pr_P 124 = pr_m124 := rfl
theorem qP_125 : pr_P 125 = pr_m125 := rfl
theorem qP_126 : pr_P 126 = pr_m126 := rfl
theorem qP_127 : pr_P 127 = pr_m127 := rfl
theorem qP_128 : pr_P 128 = pr_m128 := rfl
theorem qP_129 : pr_P 129 = pr_m129 := rfl
theorem qP_130 : pr_P 130 = pr_m130 := rfl
theorem qP_131 : pr_P 131 = pr_m131 := rfl
theorem qP_132 : pr_P 132 = pr_m132 := rfl
theorem qP_133 : pr_P 133 = pr_m133 := rfl
theorem qP_134 : pr_P 134 = pr_m134 := rfl
theorem qP_135 : pr_P 135 = pr_m135 := rfl
theorem qP_136 : pr_P 136 = pr_m136 := rfl
theorem qP_137 : pr_P 137 = pr_m137 := rfl
theorem qP_138 : pr_P 138 = pr_m138 := rfl
theorem qP_139 : pr_P 139 = pr_m139 := rfl
theorem qP_140 : pr_P 140 = pr_m140 := rfl
theorem qP_141 : pr_P 141 = pr_m141 := rfl
theorem qP_142 : pr_P 142 = pr_m142 := rfl
theorem qP_143 : pr_P 143 = pr_m143 := rfl
theorem qP_144 : pr_P 144 = pr_m144 := rfl
theorem qP_145 : pr_P 145 = pr_m145 := rfl
theorem qP_146 : pr_P 146 = pr_m146 := rfl
theorem qP_147 : pr_P 147 = pr_m147 := rfl
theorem qP_148 : pr_P 148 = pr_m148 := rfl
theorem qP_149 : pr_P 149 = pr_m149 := rfl
theorem qP_150 : pr_P 150 = pr_m150 := rfl
theorem qP_151 : pr_P 151 = pr_m151 := rfl
theorem qP_152 : pr_P 152 = pr_m152 := rfl
theorem qP_153 : pr_P 153 = pr_m153 := rfl
theorem qP_154 : pr_P 154 = pr_m154 := rfl
theorem qP_155 : pr_P 155 = pr_m155 := rfl
theorem qP_156 : pr_P 156 = pr_m156 := rfl
theorem qP_157 : pr_P 157 = pr_m157 := rfl
theorem qP_158 : pr_P 158 = pr_m158 := rfl
theorem qP_159 : pr_P 159 = pr_m159 := rfl
theorem qP_160 : pr_P 160 = pr_m160 := rfl
theorem qP_161 : pr_P 161 = pr_m161 := rfl
theorem qP_162 : pr_P 162 = pr_m162 := rfl
theorem qP_163 : pr_P 163 = pr_m163 := rfl
theorem qP_164 : pr_P 164 = pr_m164 := rfl
theorem qP_165 : pr_P 165 = pr_m165 := rfl
theorem qP_166 : pr_P 166 = pr_m166 := rfl
theorem qP_167 : pr_P 167 = pr_m167 := rfl
theorem qP_168 : pr_P 168 = pr_m168 := rfl
theorem qP_169 : pr_P 169 = pr_m169 := rfl
theorem qP_170 : pr_P 170 = pr_m170 := rfl
theorem qP_171 : pr_P 171 = pr_m171 := rfl
theorem qP_172 : pr_P 172 = pr_m172 := rfl
theorem qP_173 : pr_P 173 = pr_m173 := rfl
theorem qP_174 : pr_P 174 = pr_m174 := rfl
theorem qP_175 : pr_P 175 = pr_m175 := rfl
theorem qP_176 : pr_P 176 = pr_m176 := rfl
theorem qP_177 : pr_P 177 = pr_m177 := rfl
theorem qP_178 : pr_P 178 = pr_m178 := rfl
theorem qP_179 : pr_P 179 = pr_m179 := rfl
theorem qP_180 : pr_P 180 = pr_m180 := rfl
theorem qP_181 : pr_P 181 = pr_m181 := rfl
theorem qP_182 : pr_P 182 = pr_m182 := rfl
theorem qP_183 : pr_P 183 = pr_m183 := rfl
theorem qP_184 : pr_P 184 = pr_m184 := rfl
theorem qP_185 : pr_P 185 = pr_m185 := rfl
theorem qP_186 : pr_P 186 = pr_m186 := rfl
theorem qP_187 : pr_P 187 = pr_m187 := rfl
theorem qP_188 : pr_P 188 = pr_m188 := rfl
theorem qP_189 : pr_P 189 = pr_m189 := rfl
theorem qP_190 : pr_P 190 = pr_m190 := rfl
theorem qP_191 : pr_P 191 = pr_m191 := rfl
theorem qP_192 : pr_P 192 = pr_m192 := rfl
theorem qP_193 : pr_P 193 = pr_m193 := rfl
theorem qP_194 : pr_P 194 = pr_m194 := rfl
theorem qP_195 : pr_P 195 = pr_m195 := rfl
theorem qP_196 : pr_P 196 = pr_m196 := rfl
theorem qP_197 : pr_P 197 = pr_m197 := rfl
theorem qP_198 : pr_P 198 = pr_m198 := rfl
theorem qP_199 : pr_P 199 = pr_m199 := rfl
theorem qP_200 : pr_P 200 = pr_m200 := rfl
theorem qP_201 : pr_P 201 = pr_m201 := rfl
theorem qP_202 : pr_P 202 = pr_m202 := rfl
theorem qP_203 : pr_P 203 = pr_m203 := rfl
theorem qP_204 : pr_P 204 = pr_m204 := rfl
theorem qP_205 : pr_P 205 = pr_m205 := rfl
theorem qP_206 : pr_P 206 = pr_m206 := rfl
theorem qP_207 : pr_P 207 = pr_m207 := rfl
theorem qP_208 : pr_P 208 = pr_m208 := rfl
theorem qP_209 : pr_P 209 = pr_m209 := rfl
theorem qP_210 : pr_P 210 = pr_m210 := rfl
theorem qP_211 : pr_P 211 = pr_m211 := rfl
theorem qP_212 : pr_P 212 = pr_m212 := rfl
theorem qP_213 : pr_P 213 = pr_m213 := rfl
theorem qP_214 : pr_P 214 = pr_m214 := rfl
theorem qP_215 : pr_P 215 = pr_m215 := rfl
theorem qP_216 : pr_P 216 = pr_m216 := rfl
theorem qP_217 : pr_P 217 = pr_m217 := rfl
theorem qP_218 : pr_P 218 = pr_m218 := rfl
theorem qP_219 : pr_P 219 = pr_m219 := rfl
theorem qP_220 : pr_P 220 = pr_m220 := rfl
theorem qP_221 : pr_P 221 = pr_m221 := rfl
theorem qP_222 : pr_P 222 = pr_m222 := rfl
theorem qP_223 : pr_P 223 = pr_m223 := rfl
theorem qP_224 : pr_P 224 = pr_m224 := rfl
theorem qP_225 : pr_P 225 = pr_m225 := rfl
theorem qP_226 : pr_P 226 = pr_m226 := rfl
theorem qP_227 : pr_P 227 = pr_m227 := rfl
theorem qP_228 : pr_P 228 = pr_m228 := rfl
theorem qP_229 : pr_P 229 = pr_m229 := rfl
theorem qP_230 : pr_P 230 = pr_m230 := rfl
theorem qP_231 : pr_P 231 = pr_m231 := rfl
theorem qP_232 : pr_P 232 = pr_m232 := rfl
theorem qP_233 : pr_P 233 = pr_m233 := rfl
theorem qP_234 : pr_P 234 = pr_m234 := rfl
theorem qP_235 : pr_P 235 = pr_m235 := rfl
theorem qP_236 : pr_P 236 = pr_m236 := rfl
theorem qP_237 : pr_P 237 = pr_m237 := rfl
theorem qP_238 : pr_P 238 = pr_m238 := rfl
theorem qP_239 : pr_P 239 = pr_m239 := rfl
theorem qP_240 : pr_P 240 = pr_m240 := rfl
theorem qP_241 : pr_P 241 = pr_m241 := rfl
theorem qP_242 : pr_P 242 = pr_m242 := rfl
theorem qP_243 : pr_P 243 = pr_m243 := rfl
theorem qP_244 : pr_P 244 = pr_m244 := rfl
theorem qP_245 : pr_P 245 = pr_m245 := rfl
theorem qP_246 : pr_P 246 = pr_m246 := rfl
theorem qP_247 : pr_P 247 = pr_m247 := rfl
theorem qP_248 : pr_P 248 = pr_m248 := rfl
theorem qP_249 : pr_P 249 = pr_m249 := rfl
theorem qP_250 : pr_P 250 = pr_m250 := rfl
theorem qP_251 : pr_P 251 = pr_m251 := rfl
theorem qP_252 : pr_P 252 = pr_m252 := rfl
theorem qP_253 : pr_P 253 = pr_m253 := rfl
theorem qP_254 : pr_P 254 = pr_m254 := rfl
theorem qP_255 : pr_P 255 = pr_m255 := rfl
theorem qP_256 : pr_P 256 = pr_m256 := rfl
theorem qP_257 : pr_P 257 = pr_m257 := rfl
theorem qP_258 : pr_P 258 = pr_m258 := rfl
theorem qP_259 : pr_P 259 = pr_m259 := rfl
theorem qP_260 : pr_P 260 = pr_m260 := rfl
theorem qP_261 : pr_P 261 = pr_m261 := rfl
theorem qP_262 : pr_P 262 = pr_m262 := rfl
theorem qP_263 : pr_P 263 = pr_m263 := rfl
theorem qP_264 : pr_P 264 = pr_m264 := rfl
theorem qP_265 : pr_P 265 = pr_m265 := rfl
theorem qP_266 : pr_P 266 = pr_m266 := rfl
theorem qP_267 : pr_P 267 = pr_m267 := rfl
theorem qP_268 : pr_P 268 = pr_m268 := rfl
theorem qP_269 : pr_P 269 = pr_m269 := rfl
theorem qP_270 : pr_P 270 = pr_m270 := rfl
theorem qP_271 : pr_P 271 = pr_m271 := rfl
theorem qP_272 : pr_P 272 = pr_m272 := rfl
theorem qP_273 : pr_P 273 = pr_m273 := rfl
theorem qP_274 : pr_P 274 = pr_m274 := rfl
theorem qP_275 : pr_P 275 = pr_m275 := rfl
theorem qP_276 : pr_P 276 = pr_m276 := rfl
theorem qP_277 : pr_P 277 = pr_m277 := rfl
theorem qP_278 : pr_P 278 = pr_m278 := rfl
theorem qP_279 : pr_P 279 = pr_m279 := rfl
theorem qP_280 : pr_P 280 = pr_m280 := rfl
theorem qP_281 : pr_P 281 = pr_m281 := rfl
theorem qP_282 : pr_P 282 = pr_m282 := rfl
theorem qP_283 : pr_P 283 = pr_m283 := rfl
theorem qP_284 : pr_P 284 = pr_m284 := rfl
theorem qP_285 : pr_P 285 = pr_m285 := rfl
theorem qP_286 : pr_P 286 = pr_m286 := rfl
theorem qP_287 : pr_P 287 = pr_m287 := rfl
theorem qP_288 : pr_P 288 = pr_m288 := rfl
theorem qP_289 : pr_P 289 = pr_m289 := rfl
theorem qP_290 : pr_P 290 = pr_m290 := rfl
theorem qP_291 : pr_P 291 = pr_m291 := rfl
theorem qP_292 : pr_P 292 = pr_m292 := rfl
theorem qP_293 : pr_P 293 = pr_m293 := rfl
theorem qP_294 : pr_P 294 = pr_m294 := rfl
theorem qP_295 : pr_P 295 = pr_m295 := rfl
theorem qP_296 : pr_P 296 = pr_m296 := rfl
theorem qP_297 : pr_P 297 = pr_m297 := rfl
theorem qP_298 : pr_P 298 = pr_m298 := rfl
theorem qP_299 : pr_P 299 = pr_m299 := rfl
theorem qP_300 : pr_P 300 = pr_m300 := rfl
theorem qP_301 : pr_P 301 = pr_m301 := rfl
theorem qP_302 : pr_P 302 = pr_m302 := rfl
theorem qP_303 : pr_P 303 = pr_m303 := rfl
theorem qP_304 : pr_P 304 = pr_m304 := rfl
theorem qP_305 : pr_P 305 = pr_m305 := rfl
theorem qP_306 : pr_P 306 = pr_m306 := rfl
theorem qP_307 : pr_P 307 = pr_m307 := rfl
theorem qP_308 : pr_P 308 = pr_m308 := rfl
theorem qP_309 : pr_P 309 = pr_m309 := rfl
theorem qP_310 : pr_P 310 = pr_m310 := rfl
theorem qP_311 : pr_P 311 = pr_m311 := rfl
theorem qP_312 : pr_P 312 = pr_m312 := rfl
theorem qP_313 : pr_P 313 = pr_m313 := rfl
theorem qP_314 : pr_P 314 = pr_m314 := rfl
theorem qP_315 : pr_P 315 = pr_m315 := rfl
theorem qP_316 : pr_P 316 = pr_m316 := rfl
theorem qP_317 : pr_P 317 = pr_m317 := rfl
theorem qP_318 : pr_P 318 = pr_m318 := rfl
theorem qP_319 : pr_P 319 = pr_m319 := rfl
theorem qP_320 : pr_P 320 = pr_m320 := rfl
theorem qP_321 : pr_P 321 = pr_m321 := rfl
theorem qP_322 : pr_P 322 = pr_m322 := rfl
theorem qP_323 : pr_P 323 = pr_m323 := rfl
theorem qP_324 : pr_P 324 = pr_m324 := rfl
theorem qP_325 : pr_P 325 = pr_m325 := rfl
theorem qP_326 : pr_P 326 = pr_m326 := rfl
theorem qP_327 : pr_P 327 = pr_m327 := rfl
theorem qP_328 : pr_P 328 = pr_m328 := rfl
theorem qP_329 : pr_P 329 = pr_m329 := rfl
theorem qP_330 : pr_P 330 = pr_m330 := rfl
theorem qP_331 : pr_P 331 = pr_m331 := rfl
theorem qP_332 : pr_P 332 = pr_m332 := rfl
theorem qP_333 : pr_P 333 = pr_m333 := rfl
theorem qP_334 : pr_P 334 = pr_m334 := rfl
theorem qP_335 : pr_P 335 = pr_m335 := rfl
theorem qP_336 : pr_P 336 = pr_m336 := rfl
theorem qP_337 : pr_P 337 = pr_m337 := rfl
theorem qP_338 : pr_P 338 = pr_m338 := rfl
theorem qP_339 : pr_P 339 = pr_m339 := rfl
theorem qP_340 : pr_P 340 = pr_m340 := rfl
theorem qP_341 : pr_P 341 = pr_m341 := rfl
theorem qP_342 : pr_P 342 = pr_m342 := rfl
theorem qP_343 : pr_P 343 = pr_m343 := rfl
theorem qP_344 : pr_P 344 = pr_m344 := rfl
theorem qP_345 : pr_P 345 = pr_m345 := rfl
theorem qP_346 : pr_P 346 = pr_m346 := rfl
theorem qP_347 : pr_P 347 = pr_m347 := rfl
theorem qP_348 : pr_P 348 = pr_m348 := rfl
theorem qP_349 : pr_P 349 = pr_m349 := rfl
theorem qP_350 : pr_P 350 = pr_m350 := rfl
theorem qP_351 : pr_P 351 = pr_m351 := rfl
theorem qP_353 : pr_P 353 = pr_m353 := rfl
/-! ===== entries of the program, one lemma a kind (own work) ===== -/
def pr_E (Ts : List Cond) (y : MethodName) (cc : ByteArray) (ret : Option FieldType) (nL : Nat) (pc : Nat) (x : ev_E) : Prop :=
  ev_eok pr_I pr_P pr_S Ts y cc ret nL pc x.1 x.2.1 x.2.2.1 x.2.2.2.1 x.2.2.2.2.1 x.2.2.2.2.2
theorem ev_uwat {x : Cond} (i : Nat) (h : lw_tbl[i]? = some x) (hg : goodWord x = true) : x ∈ ev_UW := List.mem_filter.mpr ⟨List.mem_of_getElem? h, hg⟩
theorem ev_twat {x : Cond} (i : Nat) (h : lw_tbl[i]? = some x) : x ∈ lw_tbl := List.mem_of_getElem? h
section ENT
variable {y : MethodName} {cc : ByteArray} {ret : Option FieldType} {nL pc nx a b c : Nat} {tg : List Nat} {im : ev_Im} {ml : Nat}
theorem et_0 {Ts : List Cond} : ∀ pc, pr_E Ts y cc ret nL pc pr_e0 := fun _ => trivial
theorem et_ct {E : Nat → ev_E → Prop} {n : Nat} {f g : Nat → ev_E} (hf : ∀ pc, E pc (f pc)) (hg : ∀ pc, E pc (g pc)) : ∀ pc, E pc (ev_ct n f g pc) := by
  intro pc
  unfold ev_ct
  cases Nat.ble pc n
  · exact hg pc
  · exact hf pc
theorem et_q {Ts : List Cond} {n : Nat} {x : ev_E} (h : pr_E Ts y cc ret nL n x) : ∀ pc, pr_E Ts y cc ret nL pc (pr_q n x pc) := by
  intro pc
  unfold pr_q
  cases e : Nat.beq pc n with
  | false => exact et_0 pc
  | true =>
    have := Nat.eq_of_beq_eq_true e
    subst this
    exact h
theorem et_up {x : Cond} (h : x ∈ ev_UW) : x ∈ ev_wm im ml := List.mem_cons_of_mem _ h
theorem et_iconst {n : Int} (hd : decode cc pc = .ok (.iconst n, 1)) (h : Int32.ofInt n = nI a) : pr_E (ev_wm im ml) y cc ret nL pc (1, (pc + 1, (a, (0, (0, []))))) := by
  show ev_i_int cc y.cls (ev_wm im ml) pc (pc + 1) a
  exact Or.inl ⟨n, hd, h, rfl⟩
theorem et_bipush {n : Int} (hd : decode cc pc = .ok (.bipush n, 2)) (h : (Int8.ofInt n).toInt32 = nI a) : pr_E (ev_wm im ml) y cc ret nL pc (1, (pc + 2, (a, (0, (0, []))))) := by
  show ev_i_int cc y.cls (ev_wm im ml) pc (pc + 2) a
  exact Or.inr (Or.inl ⟨n, hd, h, rfl⟩)
theorem et_sipush {n : Int} (hd : decode cc pc = .ok (.sipush n, 3)) (h : (Int16.ofInt n).toInt32 = nI a) : pr_E (ev_wm im ml) y cc ret nL pc (1, (pc + 3, (a, (0, (0, []))))) := by
  show ev_i_int cc y.cls (ev_wm im ml) pc (pc + 3) a
  exact Or.inr (Or.inr (Or.inl ⟨n, hd, h, rfl⟩))
theorem et_ldc {ix : Nat} {v : Int32} (hd : decode cc pc = .ok (.ldc ix, 2)) (h : v = nI a) (hw : Cond.constant y.cls ix v ∈ ev_UW) : pr_E (ev_wm im ml) y cc ret nL pc (1, (pc + 2, (a, (0, (0, []))))) := by
  show ev_i_int cc y.cls (ev_wm im ml) pc (pc + 2) a
  exact Or.inr (Or.inr (Or.inr (Or.inl ⟨ix, v, hd, h, rfl, et_up hw⟩)))
theorem et_ldcw {ix : Nat} {v : Int32} (hd : decode cc pc = .ok (.ldc_w ix, 3)) (h : v = nI a) (hw : Cond.constant y.cls ix v ∈ ev_UW) : pr_E (ev_wm im ml) y cc ret nL pc (1, (pc + 3, (a, (0, (0, []))))) := by
  show ev_i_int cc y.cls (ev_wm im ml) pc (pc + 3) a
  exact Or.inr (Or.inr (Or.inr (Or.inr ⟨ix, v, hd, h, rfl, et_up hw⟩)))
theorem et_null (hd : decode cc pc = .ok (.aconst_null, 1)) : pr_E (ev_wm im ml) y cc ret nL pc (2, (pc + 1, (0, (0, (0, []))))) := by
  exact ⟨hd, rfl⟩
theorem et_lconst {n : Fin 2} (hd : decode cc pc = .ok (.lconst n, 1)) (h : Int64.ofNat (n : Nat) = lN b) : pr_E (ev_wm im ml) y cc ret nL pc (3, (pc + 1, (0, (b, (0, []))))) := by
  show ev_i_wide cc y.cls (ev_wm im ml) pc (pc + 1) 0 b
  exact Or.inl (Or.inl ⟨n, hd, rfl, h, rfl⟩)
theorem et_dconst (hd : decode cc pc = .ok (.dconst 0, 1)) (h : FP.dconst0 = UInt64.ofNat b) : pr_E (ev_wm im ml) y cc ret nL pc (3, (pc + 1, (2, (b, (0, []))))) := by
  show ev_i_wide cc y.cls (ev_wm im ml) pc (pc + 1) 2 b
  exact Or.inl (Or.inr ⟨hd, rfl, h, rfl⟩)
theorem et_fconst (hd : decode cc pc = .ok (.fconst 0, 1)) (h : FP.fconst0 = UInt32.ofNat b) : pr_E (ev_wm im ml) y cc ret nL pc (3, (pc + 1, (1, (b, (0, []))))) := by
  show ev_i_wide cc y.cls (ev_wm im ml) pc (pc + 1) 1 b
  exact Or.inr (Or.inl ⟨hd, rfl, h, rfl⟩)
theorem et_ldc2 {ix : Nat} {v : Int64} (hd : decode cc pc = .ok (.ldc2_w ix, 3)) (h : v = lN b) (hw : Cond.constantLong y.cls ix v ∈ ev_UW) : pr_E (ev_wm im ml) y cc ret nL pc (3, (pc + 3, (0, (b, (0, []))))) := by
  show ev_i_wide cc y.cls (ev_wm im ml) pc (pc + 3) 0 b
  exact Or.inr (Or.inr ⟨ix, v, hd, rfl, h, rfl, et_up hw⟩)
theorem et_iload (hd : decode cc pc = .ok (.iload a, 2)) : pr_E (ev_wm im ml) y cc ret nL pc (6, (pc + 2, (a, (0, (0, []))))) := by
  show ev_i_ld cc pc (pc + 2) a .iload .iload_n
  exact Or.inl ⟨hd, rfl⟩
theorem et_iloadn {n : Fin 4} (hd : decode cc pc = .ok (.iload_n n, 1)) (h : (n : Nat) = a) : pr_E (ev_wm im ml) y cc ret nL pc (6, (pc + 1, (a, (0, (0, []))))) := by
  show ev_i_ld cc pc (pc + 1) a .iload .iload_n
  exact Or.inr ⟨n, hd, h, rfl⟩
theorem et_aload (hd : decode cc pc = .ok (.aload a, 2)) : pr_E (ev_wm im ml) y cc ret nL pc (7, (pc + 2, (a, (0, (0, []))))) := by
  show ev_i_ld cc pc (pc + 2) a .aload .aload_n
  exact Or.inl ⟨hd, rfl⟩
theorem et_aloadn {n : Fin 4} (hd : decode cc pc = .ok (.aload_n n, 1)) (h : (n : Nat) = a) : pr_E (ev_wm im ml) y cc ret nL pc (7, (pc + 1, (a, (0, (0, []))))) := by
  show ev_i_ld cc pc (pc + 1) a .aload .aload_n
  exact Or.inr ⟨n, hd, h, rfl⟩
theorem et_dload (hd : decode cc pc = .ok (.dload a, 2)) : pr_E (ev_wm im ml) y cc ret nL pc (8, (pc + 2, (a, (0, (0, []))))) := by
  exact ⟨hd, rfl⟩
theorem et_istore (hd : decode cc pc = .ok (.istore a, 2)) (hl : a < nL) : pr_E (ev_wm im ml) y cc ret nL pc (9, (pc + 2, (a, (0, (0, []))))) := by
  show ev_i_st cc nL pc (pc + 2) a .istore .istore_n
  exact ⟨Or.inl ⟨hd, rfl⟩, hl⟩
theorem et_istoren {n : Fin 4} (hd : decode cc pc = .ok (.istore_n n, 1)) (h : (n : Nat) = a) (hl : a < nL) : pr_E (ev_wm im ml) y cc ret nL pc (9, (pc + 1, (a, (0, (0, []))))) := by
  show ev_i_st cc nL pc (pc + 1) a .istore .istore_n
  exact ⟨Or.inr ⟨n, hd, h, rfl⟩, hl⟩
theorem et_astore (hd : decode cc pc = .ok (.astore a, 2)) (hl : a < nL) : pr_E (ev_wm im ml) y cc ret nL pc (10, (pc + 2, (a, (0, (0, []))))) := by
  show ev_i_st cc nL pc (pc + 2) a .astore .astore_n
  exact ⟨Or.inl ⟨hd, rfl⟩, hl⟩
theorem et_astoren {n : Fin 4} (hd : decode cc pc = .ok (.astore_n n, 1)) (h : (n : Nat) = a) (hl : a < nL) : pr_E (ev_wm im ml) y cc ret nL pc (10, (pc + 1, (a, (0, (0, []))))) := by
  show ev_i_st cc nL pc (pc + 1) a .astore .astore_n
  exact ⟨Or.inr ⟨n, hd, h, rfl⟩, hl⟩
theorem et_dstore (hd : decode cc pc = .ok (.dstore a, 2)) (hl : a + 1 < nL) : pr_E (ev_wm im ml) y cc ret nL pc (11, (pc + 2, (a, (0, (0, []))))) := by
  exact ⟨hd, rfl, hl⟩
theorem et_iinc {n : Int} (hd : decode cc pc = .ok (.iinc a n, 3)) (h : Int32.ofInt n = nI b) (hl : a < nL) : pr_E (ev_wm im ml) y cc ret nL pc (12, (pc + 3, (a, (b, (0, []))))) := by
  exact ⟨n, hd, h, rfl, hl⟩
theorem et_iadd (hd : decode cc pc = .ok (.iadd, 1)) : pr_E (ev_wm im ml) y cc ret nL pc (13, (pc + 1, (0, (0, (0, []))))) := by
  exact ⟨hd, rfl⟩
theorem et_isub (hd : decode cc pc = .ok (.isub, 1)) : pr_E (ev_wm im ml) y cc ret nL pc (14, (pc + 1, (0, (0, (0, []))))) := by
  exact ⟨hd, rfl⟩
theorem et_imul (hd : decode cc pc = .ok (.imul, 1)) : pr_E (ev_wm im ml) y cc ret nL pc (15, (pc + 1, (0, (0, (0, []))))) := by
  show ev_i_bin cc pc (pc + 1) 0
  exact ⟨Or.inl ⟨rfl, hd⟩, rfl⟩
theorem et_iand (hd : decode cc pc = .ok (.iand, 1)) : pr_E (ev_wm im ml) y cc ret nL pc (15, (pc + 1, (1, (0, (0, []))))) := by
  show ev_i_bin cc pc (pc + 1) 1
  exact ⟨Or.inr (Or.inl ⟨rfl, hd⟩), rfl⟩
theorem et_ior (hd : decode cc pc = .ok (.ior, 1)) : pr_E (ev_wm im ml) y cc ret nL pc (15, (pc + 1, (2, (0, (0, []))))) := by
  show ev_i_bin cc pc (pc + 1) 2
  exact ⟨Or.inr (Or.inr (Or.inl ⟨rfl, hd⟩)), rfl⟩
theorem et_ixor (hd : decode cc pc = .ok (.ixor, 1)) : pr_E (ev_wm im ml) y cc ret nL pc (15, (pc + 1, (3, (0, (0, []))))) := by
  show ev_i_bin cc pc (pc + 1) 3
  exact ⟨Or.inr (Or.inr (Or.inr (Or.inl ⟨rfl, hd⟩))), rfl⟩
theorem et_ishl (hd : decode cc pc = .ok (.ishl, 1)) : pr_E (ev_wm im ml) y cc ret nL pc (15, (pc + 1, (4, (0, (0, []))))) := by
  show ev_i_bin cc pc (pc + 1) 4
  exact ⟨Or.inr (Or.inr (Or.inr (Or.inr (Or.inl ⟨rfl, hd⟩)))), rfl⟩
theorem et_ishr (hd : decode cc pc = .ok (.ishr, 1)) : pr_E (ev_wm im ml) y cc ret nL pc (15, (pc + 1, (5, (0, (0, []))))) := by
  show ev_i_bin cc pc (pc + 1) 5
  exact ⟨Or.inr (Or.inr (Or.inr (Or.inr (Or.inr (Or.inl ⟨rfl, hd⟩))))), rfl⟩
theorem et_iushr (hd : decode cc pc = .ok (.iushr, 1)) : pr_E (ev_wm im ml) y cc ret nL pc (15, (pc + 1, (6, (0, (0, []))))) := by
  show ev_i_bin cc pc (pc + 1) 6
  exact ⟨Or.inr (Or.inr (Or.inr (Or.inr (Or.inr (Or.inr (⟨rfl, hd⟩)))))), rfl⟩
theorem et_ifeq {off : Int} (hd : decode cc pc = .ok (.ifCond .eq off, 3)) (h : (pc : Int) + off = (b : Int)) : pr_E (ev_wm im ml) y cc ret nL pc (16, (pc + 3, (0, (b, (pc + 3, []))))) := by
  show ev_i_if cc pc 0 b (pc + 3) .ifCond
  exact ⟨off, Or.inl (Or.inl ⟨rfl, hd, h, rfl⟩)⟩
theorem et_ifne {off : Int} (hd : decode cc pc = .ok (.ifCond .ne off, 3)) (h : (pc : Int) + off = (c : Int)) : pr_E (ev_wm im ml) y cc ret nL pc (16, (pc + 3, (0, (pc + 3, (c, []))))) := by
  show ev_i_if cc pc 0 (pc + 3) c .ifCond
  exact ⟨off, Or.inl (Or.inr ⟨rfl, hd, h, rfl⟩)⟩
theorem et_iflt {off : Int} (hd : decode cc pc = .ok (.ifCond .lt off, 3)) (h : (pc : Int) + off = (b : Int)) : pr_E (ev_wm im ml) y cc ret nL pc (16, (pc + 3, (1, (b, (pc + 3, []))))) := by
  show ev_i_if cc pc 1 b (pc + 3) .ifCond
  exact ⟨off, Or.inr (Or.inl (Or.inl ⟨rfl, hd, h, rfl⟩))⟩
theorem et_ifge {off : Int} (hd : decode cc pc = .ok (.ifCond .ge off, 3)) (h : (pc : Int) + off = (c : Int)) : pr_E (ev_wm im ml) y cc ret nL pc (16, (pc + 3, (1, (pc + 3, (c, []))))) := by
  show ev_i_if cc pc 1 (pc + 3) c .ifCond
  exact ⟨off, Or.inr (Or.inl (Or.inr ⟨rfl, hd, h, rfl⟩))⟩
theorem et_ifgt {off : Int} (hd : decode cc pc = .ok (.ifCond .gt off, 3)) (h : (pc : Int) + off = (b : Int)) : pr_E (ev_wm im ml) y cc ret nL pc (16, (pc + 3, (2, (b, (pc + 3, []))))) := by
  show ev_i_if cc pc 2 b (pc + 3) .ifCond
  exact ⟨off, Or.inr (Or.inr (Or.inl ⟨rfl, hd, h, rfl⟩))⟩
theorem et_ifle {off : Int} (hd : decode cc pc = .ok (.ifCond .le off, 3)) (h : (pc : Int) + off = (c : Int)) : pr_E (ev_wm im ml) y cc ret nL pc (16, (pc + 3, (2, (pc + 3, (c, []))))) := by
  show ev_i_if cc pc 2 (pc + 3) c .ifCond
  exact ⟨off, Or.inr (Or.inr (Or.inr ⟨rfl, hd, h, rfl⟩))⟩
theorem et_icmpeq {off : Int} (hd : decode cc pc = .ok (.if_icmp .eq off, 3)) (h : (pc : Int) + off = (b : Int)) : pr_E (ev_wm im ml) y cc ret nL pc (17, (pc + 3, (0, (b, (pc + 3, []))))) := by
  show ev_i_if cc pc 0 b (pc + 3) .if_icmp
  exact ⟨off, Or.inl (Or.inl ⟨rfl, hd, h, rfl⟩)⟩
theorem et_icmpne {off : Int} (hd : decode cc pc = .ok (.if_icmp .ne off, 3)) (h : (pc : Int) + off = (c : Int)) : pr_E (ev_wm im ml) y cc ret nL pc (17, (pc + 3, (0, (pc + 3, (c, []))))) := by
  show ev_i_if cc pc 0 (pc + 3) c .if_icmp
  exact ⟨off, Or.inl (Or.inr ⟨rfl, hd, h, rfl⟩)⟩
theorem et_icmplt {off : Int} (hd : decode cc pc = .ok (.if_icmp .lt off, 3)) (h : (pc : Int) + off = (b : Int)) : pr_E (ev_wm im ml) y cc ret nL pc (17, (pc + 3, (1, (b, (pc + 3, []))))) := by
  show ev_i_if cc pc 1 b (pc + 3) .if_icmp
  exact ⟨off, Or.inr (Or.inl (Or.inl ⟨rfl, hd, h, rfl⟩))⟩
theorem et_icmpge {off : Int} (hd : decode cc pc = .ok (.if_icmp .ge off, 3)) (h : (pc : Int) + off = (c : Int)) : pr_E (ev_wm im ml) y cc ret nL pc (17, (pc + 3, (1, (pc + 3, (c, []))))) := by
  show ev_i_if cc pc 1 (pc + 3) c .if_icmp
  exact ⟨off, Or.inr (Or.inl (Or.inr ⟨rfl, hd, h, rfl⟩))⟩
theorem et_icmpgt {off : Int} (hd : decode cc pc = .ok (.if_icmp .gt off, 3)) (h : (pc : Int) + off = (b : Int)) : pr_E (ev_wm im ml) y cc ret nL pc (17, (pc + 3, (2, (b, (pc + 3, []))))) := by
  show ev_i_if cc pc 2 b (pc + 3) .if_icmp
  exact ⟨off, Or.inr (Or.inr (Or.inl ⟨rfl, hd, h, rfl⟩))⟩
theorem et_icmple {off : Int} (hd : decode cc pc = .ok (.if_icmp .le off, 3)) (h : (pc : Int) + off = (c : Int)) : pr_E (ev_wm im ml) y cc ret nL pc (17, (pc + 3, (2, (pc + 3, (c, []))))) := by
  show ev_i_if cc pc 2 (pc + 3) c .if_icmp
  exact ⟨off, Or.inr (Or.inr (Or.inr ⟨rfl, hd, h, rfl⟩))⟩
theorem et_acmpeq {off : Int} (hd : decode cc pc = .ok (.if_acmp .eq off, 3)) (h : (pc : Int) + off = (b : Int)) : pr_E (ev_wm im ml) y cc ret nL pc (18, (pc + 3, (0, (b, (pc + 3, []))))) := by
  show ev_i_acmp cc pc b (pc + 3)
  exact ⟨off, Or.inl ⟨hd, h, rfl⟩⟩
theorem et_acmpne {off : Int} (hd : decode cc pc = .ok (.if_acmp .ne off, 3)) (h : (pc : Int) + off = (c : Int)) : pr_E (ev_wm im ml) y cc ret nL pc (18, (pc + 3, (0, (pc + 3, (c, []))))) := by
  show ev_i_acmp cc pc (pc + 3) c
  exact ⟨off, Or.inr ⟨hd, h, rfl⟩⟩
theorem et_ifnull {off : Int} (hd : decode cc pc = .ok (.ifnull off, 3)) (h : (pc : Int) + off = (b : Int)) : pr_E (ev_wm im ml) y cc ret nL pc (19, (pc + 3, (0, (b, (pc + 3, []))))) := by
  show ev_i_isnull cc pc b (pc + 3)
  exact ⟨off, Or.inl ⟨hd, h, rfl⟩⟩
theorem et_ifnonnull {off : Int} (hd : decode cc pc = .ok (.ifnonnull off, 3)) (h : (pc : Int) + off = (c : Int)) : pr_E (ev_wm im ml) y cc ret nL pc (19, (pc + 3, (0, (pc + 3, (c, []))))) := by
  show ev_i_isnull cc pc (pc + 3) c
  exact ⟨off, Or.inr ⟨hd, h, rfl⟩⟩
theorem et_goto {off : Int} (hd : decode cc pc = .ok (.goto off, 3)) (h : (pc : Int) + off = (nx : Int)) : pr_E (ev_wm im ml) y cc ret nL pc (20, (nx, (0, (0, (0, []))))) := by
  exact ⟨off, hd, h⟩
theorem et_dup (hd : decode cc pc = .ok (.dup, 1)) : pr_E (ev_wm im ml) y cc ret nL pc (21, (pc + 1, (0, (0, (0, []))))) := by
  exact ⟨hd, rfl⟩
theorem et_dup2 (hd : decode cc pc = .ok (.dup2, 1)) : pr_E (ev_wm im ml) y cc ret nL pc (22, (pc + 1, (0, (0, (0, []))))) := by
  exact ⟨hd, rfl⟩
theorem et_pop (hd : decode cc pc = .ok (.pop, 1)) : pr_E (ev_wm im ml) y cc ret nL pc (23, (pc + 1, (0, (0, (0, []))))) := by
  exact ⟨hd, rfl⟩
theorem et_alen (hd : decode cc pc = .ok (.arraylength, 1)) : pr_E (ev_wm im ml) y cc ret nL pc (26, (pc + 1, (0, (0, (0, []))))) := by
  exact ⟨hd, rfl⟩
/-- what the tables give of a class -/
def et_Tm (C : String) (T : u_T) (N : Nat) (ty0 : Nat → FieldType) : Prop := (∀ x ∈ u_ws C T N, x ∈ ev_UW) ∧ (∀ k, k < N → parseFieldDescriptor (T k).2.2.1 = some (ty0 k)) ∧ (∀ x, x < N → ∀ y, y < N → x ≠ y → (T x).2.1 ≠ (T y).2.1)
def et_tc (c : Nat) (t : FieldType) : Prop := (c = 0 ∧ t = .int) ∨ (c = 1 ∧ t = .boolean) ∨ (c = 2 ∧ ((∃ C, t = .object C) ∨ ∃ t9, t = .array t9)) ∨ (c = 3 ∧ t = .long)
theorem et_getf {C : String} {T : u_T} {N ix : Nat} {ty0 : Nat → FieldType} (hT : et_Tm C T N ty0) (hc : vwCl[a]? = some (C, T, N)) (hN : b < N) (hd : decode cc pc = .ok (.getfield ix, 3)) (hf : Cond.fieldLink y.cls ix (T b).1 (T b).2.1 (T b).2.2.1 ∈ ev_UW) : pr_E (ev_wm im ml) y cc ret nL pc (24, (pc + 3, (a, (b, (0, []))))) := by
  show ev_i_getf cc y.cls (ev_wm im ml) pc (pc + 3) a b
  exact ⟨ix, C, T, N, hd, rfl, hc, hN, fun x hx => et_up (hT.1 x hx), Or.inl (et_up hf)⟩
theorem et_getfN {C : String} {T : u_T} {N ix : Nat} {ty0 : Nat → FieldType} (hT : et_Tm C T N ty0) (hc : vwCl[a]? = some (C, T, N)) (hN : b < N) {host : String} (hd : decode cc pc = .ok (.getfield ix, 3)) (hf : Cond.fieldLinkNest y.cls ix (T b).1 (T b).2.1 (T b).2.2.1 host ∈ lw_tbl) : pr_E (ev_wm im ml) y cc ret nL pc (24, (pc + 3, (a, (b, (0, []))))) := by
  show ev_i_getf cc y.cls (ev_wm im ml) pc (pc + 3) a b
  exact ⟨ix, C, T, N, hd, rfl, hc, hN, fun x hx => et_up (hT.1 x hx), Or.inr ⟨host, hf⟩⟩
theorem et_putf {C : String} {T : u_T} {N ix : Nat} {ty0 : Nat → FieldType} (hT : et_Tm C T N ty0) (hc : vwCl[a]? = some (C, T, N)) (hN : b < N) (ht : et_tc c (ty0 b)) (hd : decode cc pc = .ok (.putfield ix, 3)) (hfi : (T b).2.2.2 = false) (hf : Cond.fieldLink y.cls ix (T b).1 (T b).2.1 (T b).2.2.1 ∈ ev_UW) : pr_E (ev_wm im ml) y cc ret nL pc (25, (pc + 3, (a, (b, (c, []))))) := by
  show ev_i_putf cc y.cls y.name (ev_wm im ml) pc (pc + 3) a b c
  exact ⟨ix, C, T, N, ty0, hd, rfl, hc, hN, fun x hx => et_up (hT.1 x hx), hT.2.1, hT.2.2, ht, Or.inl ⟨hfi, Or.inl (et_up hf)⟩⟩
theorem et_putfN {C : String} {T : u_T} {N ix : Nat} {ty0 : Nat → FieldType} (hT : et_Tm C T N ty0) (hc : vwCl[a]? = some (C, T, N)) (hN : b < N) (ht : et_tc c (ty0 b)) (hd : decode cc pc = .ok (.putfield ix, 3)) (hfi : (T b).2.2.2 = false) {host : String} (hf : Cond.fieldLinkNest y.cls ix (T b).1 (T b).2.1 (T b).2.2.1 host ∈ lw_tbl) : pr_E (ev_wm im ml) y cc ret nL pc (25, (pc + 3, (a, (b, (c, []))))) := by
  show ev_i_putf cc y.cls y.name (ev_wm im ml) pc (pc + 3) a b c
  exact ⟨ix, C, T, N, ty0, hd, rfl, hc, hN, fun x hx => et_up (hT.1 x hx), hT.2.1, hT.2.2, ht, Or.inl ⟨hfi, Or.inr ⟨host, hf⟩⟩⟩
theorem et_putfF {C : String} {T : u_T} {N ix : Nat} {ty0 : Nat → FieldType} (hT : et_Tm C T N ty0) (hc : vwCl[a]? = some (C, T, N)) (hN : b < N) (ht : et_tc c (ty0 b)) (hd : decode cc pc = .ok (.putfield ix, 3)) (hfi : (T b).2.2.2 = true) (hm : y.name = "<init>") (ho : (T b).1 = y.cls) (hf : Cond.fieldLink y.cls ix (T b).1 (T b).2.1 (T b).2.2.1 ∈ ev_UW) : pr_E (ev_wm im ml) y cc ret nL pc (25, (pc + 3, (a, (b, (c, []))))) := by
  show ev_i_putf cc y.cls y.name (ev_wm im ml) pc (pc + 3) a b c
  exact ⟨ix, C, T, N, ty0, hd, rfl, hc, hN, fun x hx => et_up (hT.1 x hx), hT.2.1, hT.2.2, ht, Or.inr ⟨hfi, hm, ho, et_up hf⟩⟩
theorem et_iald (hd : decode cc pc = .ok (.iaload, 1)) : pr_E (ev_wm im ml) y cc ret nL pc (27, (pc + 1, (20, (20, (0, []))))) := by
  exact ⟨rfl, rfl, hd, rfl⟩
theorem et_iast (hd : decode cc pc = .ok (.iastore, 1)) : pr_E (ev_wm im ml) y cc ret nL pc (28, (pc + 1, (0, (0, (0, []))))) := by
  exact ⟨hd, rfl⟩
theorem et_bast (hd : decode cc pc = .ok (.bastore, 1)) : pr_E (ev_wm im ml) y cc ret nL pc (30, (pc + 1, (0, (0, (0, []))))) := by
  exact ⟨hd, rfl⟩
theorem et_last (hd : decode cc pc = .ok (.lastore, 1)) : pr_E (ev_wm im ml) y cc ret nL pc (31, (pc + 1, (0, (0, (0, []))))) := by
  exact ⟨hd, rfl⟩
theorem et_aast (hd : decode cc pc = .ok (.aastore, 1)) : pr_E (ev_wm im ml) y cc ret nL pc (32, (pc + 1, (0, (0, (0, []))))) := by
  exact ⟨hd, rfl⟩
theorem et_bald (hd : decode cc pc = .ok (.baload, 1)) : pr_E (ev_wm im ml) y cc ret nL pc (29, (pc + 1, (21, (22, (0, []))))) := by
  show ev_i_ald cc pc (pc + 1) 21 22
  exact ⟨Or.inr (Or.inl ⟨rfl, rfl, hd⟩), rfl⟩
theorem et_lald (hd : decode cc pc = .ok (.laload, 1)) : pr_E (ev_wm im ml) y cc ret nL pc (29, (pc + 1, (23, (23, (0, []))))) := by
  show ev_i_ald cc pc (pc + 1) 23 23
  exact ⟨Or.inr (Or.inr (Or.inl ⟨rfl, rfl, hd⟩)), rfl⟩
theorem et_aald (hd : decode cc pc = .ok (.aaload, 1)) : pr_E (ev_wm im ml) y cc ret nL pc (29, (pc + 1, (24, (25, (0, []))))) := by
  show ev_i_ald cc pc (pc + 1) 24 25
  exact ⟨Or.inr (Or.inr (Or.inr ⟨rfl, rfl, hd⟩)), rfl⟩
theorem et_new {C : String} {T : u_T} {N ix : Nat} {ty0 : Nat → FieldType} (hT : et_Tm C T N ty0) (hc : vwCl[a]? = some (C, T, N)) (hd : decode cc pc = .ok (.new ix, 3)) (h32 : N ≤ 32) (h3 : ∀ k, k < N → ev_dc (ty0 k) < 3) (htg : tg = (List.range N).map (fun k => ev_dc (ty0 k))) (h1 : Cond.classLink y.cls ix C ∈ ev_UW) (h2 : Cond.instantiable C N ∈ ev_UW) (h4 : Cond.initialized C ∈ ev_UW) : pr_E (ev_wm im ml) y cc ret nL pc (33, (pc + 3, (a, (N, (0, tg))))) := by
  show ev_i_new cc y.cls (ev_wm im ml) pc (pc + 3) a N tg
  exact ⟨ix, C, T, N, ty0, hd, rfl, hc, rfl, h32, fun x hx => et_up (hT.1 x hx), hT.2.1, h3, htg, et_up h1, et_up h2, et_up h4⟩
theorem et_newa {at9 : ArrayType} (hd : decode cc pc = .ok (.newarray at9, 2)) (h1 : newarray.typeOf at9 = ev_ty a) (h2 : 20 ≤ a) (h3 : a ≤ 23) (h4 : b = ev_dc (ev_ty a)) (hw : Cond.arrayClass (newarray.typeOf at9) ∈ ev_UW) : pr_E (ev_wm im ml) y cc ret nL pc (34, (pc + 2, (a, (b, (0, []))))) := by
  show ev_i_newa cc y.cls (ev_wm im ml) pc (pc + 2) a b
  exact Or.inl ⟨at9, hd, rfl, h1, h2, h3, h4, et_up hw⟩
theorem et_anewa {ix : Nat} {C : String} (hd : decode cc pc = .ok (.anewarray ix, 3)) (h1 : 24 ≤ a) (h2 : a ≤ 25) (h3 : ev_ty a = .object C) (hw : Cond.classLink y.cls ix C ∈ ev_UW) (hv : Cond.arrayOver (.object C) ∈ lw_tbl) : pr_E (ev_wm im ml) y cc ret nL pc (34, (pc + 3, (a, (1, (0, []))))) := by
  show ev_i_newa cc y.cls (ev_wm im ml) pc (pc + 3) a 1
  exact Or.inr ⟨ix, C, hd, rfl, h1, h2, h3, rfl, et_up hw, hv⟩
/-- what the tables give of a called method i, n arguments, most locals ml9, what it makes at the most -/
def pr_G (i n ml9 mc ms : Nat) : Prop := (pr_P i).1 = ml9 ∧ (pr_P i).2.1 = mc ∧ (pr_P i).2.2.1 = ms ∧ ml9 ≤ 51 ∧ ev_cw (pr_I i) (pr_P i).1 ∈ ev_UW ∧ Cond.initialized (pr_I i).1.cls ∈ ev_UW ∧ ((pr_I i).1.cls ≠ "java/lang/invoke/MethodHandle" ∧ (pr_I i).1.cls ≠ "java/lang/invoke/VarHandle" ∧ (parseMethodDescriptor (pr_I i).1.desc).map (fun d => d.parameters.length) = some n)
def pr_GV (i ci : Nat) : Prop := (∃ rr : vw_C, vwCl[ci]? = some rr ∧ rr.1 = (pr_I i).1.cls) ∧ (pr_I i).2.2.2 = [] ∧ Cond.instanceMethod (pr_I i).1 ∈ ev_UW ∧ Cond.selects (pr_I i).1.cls (pr_I i).1 (pr_I i).1 ∈ ev_UW
def pr_GI (i ci : Nat) : Prop := (∃ rr : vw_C, vwCl[ci]? = some rr) ∧ (pr_I i).2.2.2 = [] ∧ (pr_I i).1.name = "<init>" ∧ (pr_I i).2.2.1 = none ∧ Cond.instanceMethod (pr_I i).1 ∈ ev_UW
theorem et_callV {ix n ml9 mc ms ci : Nat} (hG : pr_G a n ml9 mc ms) (hmb : n + 1 ≤ ml9) (ho : Cond.initialized y.cls ∈ ev_UW) (hV : pr_GV a ci) (hd : decode cc pc = .ok (.invokevirtual ix, 3)) (hl : Cond.methodLink y.cls ix (pr_I a).1 ∈ ev_UW) : pr_E (ev_wm im ml) y cc ret nL pc (35, (pc + 3, (a, (n + 1, (ci + 1, [mc, ms]))))) := by
  show ev_i_call pr_I pr_P cc y.cls pc (pc + 3) a (n + 1) (ci + 1) [mc, ms]
  exact ⟨ix, n, rfl, by rw [hG.2.1, hG.2.2.1], by rw [hG.1]; exact hG.2.2.2.1, by rw [hG.1]; exact hmb, hG.2.2.2.2.1, hG.2.2.2.2.2.1, hG.2.2.2.2.2.2, ho, Or.inl ⟨hd, rfl, ⟨ci, hV.1.choose, rfl, hV.1.choose_spec.1, hV.1.choose_spec.2⟩, hV.2.1, hl, hV.2.2.1, hV.2.2.2⟩⟩
theorem et_callS {ix n ml9 mc ms : Nat} (hG : pr_G a n ml9 mc ms) (hmb : n ≤ ml9) (ho : Cond.initialized y.cls ∈ ev_UW) (hd : decode cc pc = .ok (.invokestatic ix, 3)) (hl : Cond.methodLink y.cls ix (pr_I a).1 ∈ ev_UW) (hs : Cond.static (pr_I a).1 ∈ ev_UW) : pr_E (ev_wm im ml) y cc ret nL pc (35, (pc + 3, (a, (n, (0, [mc, ms]))))) := by
  show ev_i_call pr_I pr_P cc y.cls pc (pc + 3) a n 0 [mc, ms]
  exact ⟨ix, n, rfl, by rw [hG.2.1, hG.2.2.1], by rw [hG.1]; exact hG.2.2.2.1, by rw [hG.1]; exact hmb, hG.2.2.2.2.1, hG.2.2.2.2.2.1, hG.2.2.2.2.2.2, ho, Or.inr (Or.inl ⟨hd, rfl, rfl, hl, hs⟩)⟩
theorem et_callI {ix n ml9 mc ms ci : Nat} (hG : pr_G a n ml9 mc ms) (hmb : n + 1 ≤ ml9) (ho : Cond.initialized y.cls ∈ ev_UW) (hI : pr_GI a ci) (hd : decode cc pc = .ok (.invokespecial ix, 3)) (hl : Cond.methodLink y.cls ix (pr_I a).1 ∈ ev_UW) : pr_E (ev_wm im ml) y cc ret nL pc (35, (pc + 3, (a, (n + 1, (ci + 1, [mc, ms]))))) := by
  show ev_i_call pr_I pr_P cc y.cls pc (pc + 3) a (n + 1) (ci + 1) [mc, ms]
  exact ⟨ix, n, rfl, by rw [hG.2.1, hG.2.2.1], by rw [hG.1]; exact hG.2.2.2.1, by rw [hG.1]; exact hmb, hG.2.2.2.2.1, hG.2.2.2.2.2.1, hG.2.2.2.2.2.2, ho, Or.inr (Or.inr ⟨hd, rfl, ⟨ci, hI.1.choose, rfl, hI.1.choose_spec⟩, hI.2.1, hI.2.2.1, hI.2.2.2.1, hI.2.2.2.2, Or.inl hl⟩)⟩
theorem et_callN {ix n ml9 mc ms ci : Nat} (hG : pr_G a n ml9 mc ms) (hmb : n + 1 ≤ ml9) (ho : Cond.initialized y.cls ∈ ev_UW) {host : String} (hI : pr_GI a ci) (hd : decode cc pc = .ok (.invokespecial ix, 3)) (hl : Cond.methodLinkNest y.cls ix (pr_I a).1 host ∈ lw_tbl) : pr_E (ev_wm im ml) y cc ret nL pc (35, (pc + 3, (a, (n + 1, (ci + 1, [mc, ms]))))) := by
  show ev_i_call pr_I pr_P cc y.cls pc (pc + 3) a (n + 1) (ci + 1) [mc, ms]
  exact ⟨ix, n, rfl, by rw [hG.2.1, hG.2.2.1], by rw [hG.1]; exact hG.2.2.2.1, by rw [hG.1]; exact hmb, hG.2.2.2.2.1, hG.2.2.2.2.2.1, hG.2.2.2.2.2.2, ho, Or.inr (Or.inr ⟨hd, rfl, ⟨ci, hI.1.choose, rfl, hI.1.choose_spec⟩, hI.2.1, hI.2.2.1, hI.2.2.2.1, hI.2.2.2.2, Or.inr ⟨host, hl⟩⟩)⟩
theorem et_objinit {ix : Nat} (hd : decode cc pc = .ok (.invokespecial ix, 3)) (h1 : Cond.methodLink y.cls ix Lib.objectInit ∈ ev_UW) (h2 : Cond.instanceMethod Lib.objectInit ∈ ev_UW) (h3 : Cond.code Lib.objectInit ⟨#[0xb1]⟩ 1 none ∈ ev_UW) : pr_E (ev_wm im ml) y cc ret nL pc (36, (pc + 3, (0, (0, (0, []))))) := by
  show ev_i_objinit cc y.cls (ev_wm im ml) pc (pc + 3)
  exact ⟨ix, hd, rfl, et_up h1, et_up h2, et_up h3⟩
/-- what the tables give of a throw -/
def pr_X (own : String) (ik ic a : Nat) : Prop := Cond.classLink own ik (ev_ex a) ∈ ev_UW ∧ Cond.initialized (ev_ex a) ∈ ev_UW ∧ (∀ x ∈ (ev_xat own ic a).filter goodWord, x ∈ ev_UW) ∧
      (∀ x ∈ (ev_xat own ic a).filter (fun w => !goodWord w), x ∈ lw_tbl ∧ ev_bw x = true ∧ x.onTables = true) ∧
      (∀ x ∈ Cond.classLink own ik (ev_ex a) :: Cond.initialized (ev_ex a) :: ev_xat own ic a, vx_ot x = true)
theorem et_throw {ik is9 ic : Nat} {text : String} (hX : pr_X y.cls ik ic a) (ha : a < 4) (hd : decode cc pc = .ok (.new ik, 3)) (hd2 : decode cc (pc + 3) = .ok (.dup, 1)) (hd3 : decode cc (pc + 4) = .ok (.ldc is9, 2)) (hd4 : decode cc (pc + 6) = .ok (.invokespecial ic, 3)) (hd5 : decode cc (pc + 9) = .ok (.athrow, 1)) (hS : (y.cls, (is9, text)) ∈ pr_S) : pr_E (ev_wm im ml) y cc ret nL pc (37, (0, (a, (0, (0, []))))) := by
  show ev_i_throw cc y.cls (ev_wm im ml) pr_S pc a
  exact ⟨ik, is9, ic, text, ha, hd, hd2, Or.inl ⟨hd3, hd4, hd5⟩, et_up hX.1, et_up hX.2.1, hS, fun x hx => et_up (hX.2.2.1 x hx), hX.2.2.2.1, hX.2.2.2.2⟩
theorem et_throwW {ik is9 ic : Nat} {text : String} (hX : pr_X y.cls ik ic a) (ha : a < 4) (hd : decode cc pc = .ok (.new ik, 3)) (hd2 : decode cc (pc + 3) = .ok (.dup, 1)) (hd3 : decode cc (pc + 4) = .ok (.ldc_w is9, 3)) (hd4 : decode cc (pc + 7) = .ok (.invokespecial ic, 3)) (hd5 : decode cc (pc + 10) = .ok (.athrow, 1)) (hS : (y.cls, (is9, text)) ∈ pr_S) : pr_E (ev_wm im ml) y cc ret nL pc (37, (0, (a, (0, (0, []))))) := by
  show ev_i_throw cc y.cls (ev_wm im ml) pr_S pc a
  exact ⟨ik, is9, ic, text, ha, hd, hd2, Or.inr ⟨hd3, hd4, hd5⟩, et_up hX.1, et_up hX.2.1, hS, fun x hx => et_up (hX.2.2.1 x hx), hX.2.2.2.1, hX.2.2.2.2⟩
theorem et_vret (hd : decode cc pc = .ok (.return_, 1)) (h : ret = none) : pr_E (ev_wm im ml) y cc ret nL pc (38, (nx, (0, (0, (0, []))))) := by
  exact ⟨hd, h⟩
theorem et_iret (hd : decode cc pc = .ok (.ireturn, 1)) (h : ret = some .int) : pr_E (ev_wm im ml) y cc ret nL pc (39, (nx, (0, (0, (0, []))))) := by
  exact ⟨hd, Or.inl ⟨rfl, h⟩⟩
theorem et_zret (hd : decode cc pc = .ok (.ireturn, 1)) (h : ret = some .boolean) : pr_E (ev_wm im ml) y cc ret nL pc (39, (nx, (1, (0, (0, []))))) := by
  exact ⟨hd, Or.inr ⟨rfl, h⟩⟩
theorem et_aretO {C : String} (hd : decode cc pc = .ok (.areturn, 1)) (h : ret = some (.object C)) : pr_E (ev_wm im ml) y cc ret nL pc (40, (nx, (0, (0, (0, []))))) := by
  exact ⟨hd, _, h, Or.inl ⟨C, rfl⟩⟩
theorem et_fret (hd : decode cc pc = .ok (.freturn, 1)) (h : ret = some .float) : pr_E (ev_wm im ml) y cc ret nL pc (41, (nx, (1, (0, (0, []))))) := by
  exact Or.inl ⟨rfl, hd, h⟩
theorem et_dret (hd : decode cc pc = .ok (.dreturn, 1)) (h : ret = some .double) : pr_E (ev_wm im ml) y cc ret nL pc (41, (nx, (2, (0, (0, []))))) := by
  exact Or.inr ⟨rfl, hd, h⟩
def et_tg (pc : Nat) (tg : List Nat) (offs : List Int) : Prop := tg.map (fun (t : Nat) => (t : Int)) = offs.map (fun off => (pc : Int) + off)
theorem et_tg_d {pc : Nat} {tg : List Nat} {offs : List Int} (h : tg.map (fun (t : Nat) => (t : Int)) = offs.map (fun off => (pc : Int) + off)) : et_tg pc tg offs := h
theorem et_tg_ok {pc : Nat} {tg : List Nat} {offs : List Int} (h : et_tg pc tg offs) : ∀ (j t : Nat), tg[j]? = some t → ∃ off, offs.toArray[j]? = some off ∧ (pc : Int) + off = (t : Int) := by
  intro j t hj
  have h1 : (tg.map (fun (t : Nat) => (t : Int)))[j]? = some (t : Int) := by rw [List.getElem?_map, hj]; rfl
  unfold et_tg at h
  rw [h, List.getElem?_map] at h1
  cases h2 : offs[j]? with
  | none => rw [h2] at h1; cases h1
  | some off =>
    rw [h2] at h1
    refine ⟨off, ?_, Option.some.inj h1⟩
    rw [List.getElem?_toArray, h2]
theorem et_switch {df lo hi9 : Int} {offs : List Int} {len : Nat} (hd : decode cc pc = .ok (.tableswitch df lo hi9 offs.toArray, len)) (h1 : -2147483648 ≤ lo) (h2 : -2147483648 ≤ hi9) (h3 : a = (lo + 2147483648).toNat) (h4 : b = (hi9 + 2147483648).toNat) (h5 : (pc : Int) + df = (c : Int)) (h6 : et_tg pc tg offs) : pr_E (ev_wm im ml) y cc ret nL pc (42, (nx, (a, (b, (c, tg))))) := by
  show ev_i_switch cc pc a b c tg
  exact ⟨df, lo, hi9, offs.toArray, len, hd, h1, h2, h3, h4, h5, et_tg_ok h6⟩
theorem et_i2l (hd : decode cc pc = .ok (.i2l, 1)) : pr_E (ev_wm im ml) y cc ret nL pc (43, (pc + 1, (0, (0, (0, []))))) := by
  show ev_i_cv cc pc (pc + 1) 0
  exact ⟨Or.inl ⟨rfl, hd⟩, rfl⟩
theorem et_l2i (hd : decode cc pc = .ok (.l2i, 1)) : pr_E (ev_wm im ml) y cc ret nL pc (43, (pc + 1, (1, (0, (0, []))))) := by
  show ev_i_cv cc pc (pc + 1) 1
  exact ⟨Or.inr (Or.inl ⟨rfl, hd⟩), rfl⟩
theorem et_i2d (hd : decode cc pc = .ok (.i2d, 1)) : pr_E (ev_wm im ml) y cc ret nL pc (43, (pc + 1, (2, (0, (0, []))))) := by
  show ev_i_cv cc pc (pc + 1) 2
  exact ⟨Or.inr (Or.inr (Or.inl ⟨rfl, hd⟩)), rfl⟩
theorem et_i2f (hd : decode cc pc = .ok (.i2f, 1)) : pr_E (ev_wm im ml) y cc ret nL pc (43, (pc + 1, (3, (0, (0, []))))) := by
  show ev_i_cv cc pc (pc + 1) 3
  exact ⟨Or.inr (Or.inr (Or.inr (Or.inl ⟨rfl, hd⟩))), rfl⟩
theorem et_f2d (hd : decode cc pc = .ok (.f2d, 1)) : pr_E (ev_wm im ml) y cc ret nL pc (43, (pc + 1, (4, (0, (0, []))))) := by
  show ev_i_cv cc pc (pc + 1) 4
  exact ⟨Or.inr (Or.inr (Or.inr (Or.inr (Or.inl ⟨rfl, hd⟩)))), rfl⟩
theorem et_i2b (hd : decode cc pc = .ok (.i2b, 1)) : pr_E (ev_wm im ml) y cc ret nL pc (43, (pc + 1, (5, (0, (0, []))))) := by
  show ev_i_cv cc pc (pc + 1) 5
  exact ⟨Or.inr (Or.inr (Or.inr (Or.inr (Or.inr (Or.inl ⟨rfl, hd⟩))))), rfl⟩
theorem et_i2c (hd : decode cc pc = .ok (.i2c, 1)) : pr_E (ev_wm im ml) y cc ret nL pc (43, (pc + 1, (6, (0, (0, []))))) := by
  show ev_i_cv cc pc (pc + 1) 6
  exact ⟨Or.inr (Or.inr (Or.inr (Or.inr (Or.inr (Or.inr (⟨rfl, hd⟩)))))), rfl⟩
theorem et_w2_0 (hd : decode cc pc = .ok (.ddiv, 1)) : pr_E (ev_wm im ml) y cc ret nL pc (44, (pc + 1, (0, (0, (0, []))))) := by
  show ev_i_w2 cc y.cls (ev_wm im ml) pc (pc + 1) 0
  exact Or.inl ⟨Or.inl ⟨rfl, hd⟩, rfl⟩
theorem et_w2_1 (hd : decode cc pc = .ok (.fdiv, 1)) : pr_E (ev_wm im ml) y cc ret nL pc (44, (pc + 1, (1, (0, (0, []))))) := by
  show ev_i_w2 cc y.cls (ev_wm im ml) pc (pc + 1) 1
  exact Or.inl ⟨Or.inr (Or.inl ⟨rfl, hd⟩), rfl⟩
theorem et_w2_2 (hd : decode cc pc = .ok (.dcmp .l, 1)) : pr_E (ev_wm im ml) y cc ret nL pc (44, (pc + 1, (2, (0, (0, []))))) := by
  show ev_i_w2 cc y.cls (ev_wm im ml) pc (pc + 1) 2
  exact Or.inl ⟨Or.inr (Or.inr (Or.inl ⟨rfl, hd⟩)), rfl⟩
theorem et_w2_3 (hd : decode cc pc = .ok (.dcmp .g, 1)) : pr_E (ev_wm im ml) y cc ret nL pc (44, (pc + 1, (3, (0, (0, []))))) := by
  show ev_i_w2 cc y.cls (ev_wm im ml) pc (pc + 1) 3
  exact Or.inl ⟨Or.inr (Or.inr (Or.inr (Or.inl ⟨rfl, hd⟩))), rfl⟩
theorem et_w2_4 (hd : decode cc pc = .ok (.lcmp, 1)) : pr_E (ev_wm im ml) y cc ret nL pc (44, (pc + 1, (4, (0, (0, []))))) := by
  show ev_i_w2 cc y.cls (ev_wm im ml) pc (pc + 1) 4
  exact Or.inl ⟨Or.inr (Or.inr (Or.inr (Or.inr (Or.inl ⟨rfl, hd⟩)))), rfl⟩
theorem et_w2_5 (hd : decode cc pc = .ok (.lshr, 1)) : pr_E (ev_wm im ml) y cc ret nL pc (44, (pc + 1, (5, (0, (0, []))))) := by
  show ev_i_w2 cc y.cls (ev_wm im ml) pc (pc + 1) 5
  exact Or.inl ⟨Or.inr (Or.inr (Or.inr (Or.inr (Or.inr (Or.inl ⟨rfl, hd⟩))))), rfl⟩
theorem et_w2_6 (hd : decode cc pc = .ok (.lshl, 1)) : pr_E (ev_wm im ml) y cc ret nL pc (44, (pc + 1, (6, (0, (0, []))))) := by
  show ev_i_w2 cc y.cls (ev_wm im ml) pc (pc + 1) 6
  exact Or.inl ⟨Or.inr (Or.inr (Or.inr (Or.inr (Or.inr (Or.inr (Or.inl ⟨rfl, hd⟩)))))), rfl⟩
theorem et_w2_7 (hd : decode cc pc = .ok (.land, 1)) : pr_E (ev_wm im ml) y cc ret nL pc (44, (pc + 1, (7, (0, (0, []))))) := by
  show ev_i_w2 cc y.cls (ev_wm im ml) pc (pc + 1) 7
  exact Or.inl ⟨Or.inr (Or.inr (Or.inr (Or.inr (Or.inr (Or.inr (Or.inr (Or.inl ⟨rfl, hd⟩))))))), rfl⟩
theorem et_w2_8 (hd : decode cc pc = .ok (.lor, 1)) : pr_E (ev_wm im ml) y cc ret nL pc (44, (pc + 1, (8, (0, (0, []))))) := by
  show ev_i_w2 cc y.cls (ev_wm im ml) pc (pc + 1) 8
  exact Or.inl ⟨Or.inr (Or.inr (Or.inr (Or.inr (Or.inr (Or.inr (Or.inr (Or.inr (⟨rfl, hd⟩)))))))), rfl⟩
theorem et_max {ix : Nat} (hd : decode cc pc = .ok (.invokestatic ix, 3)) (h1 : Cond.methodLink y.cls ix Lib.Math.max.name ∈ ev_UW) (h2 : Cond.static Lib.Math.max.name ∈ ev_UW) (h3 : Cond.initialized "java/lang/Math" ∈ ev_UW) (h4 : Cond.code Lib.Math.max.name Lib.Math.max.code 2 (some .int) ∈ ev_UW) : pr_E (ev_wm im ml) y cc ret nL pc (44, (pc + 3, (9, (0, (0, []))))) := by
  show ev_i_w2 cc y.cls (ev_wm im ml) pc (pc + 3) 9
  exact Or.inr ⟨ix, rfl, hd, rfl, et_up h1, et_up h2, et_up h3, et_up h4⟩
theorem et_copy {ix : Nat} (hd : decode cc pc = .ok (.invokestatic ix, 3)) (h1 : Cond.methodLink y.cls ix arraycopyName ∈ ev_UW) (h2 : Cond.native arraycopyName ∈ ev_UW) (h3 : Cond.static arraycopyName ∈ ev_UW) (h4 : Cond.initialized "java/lang/System" ∈ ev_UW) : pr_E (ev_wm im ml) y cc ret nL pc (45, (pc + 3, (0, (0, (0, []))))) := by
  show ev_i_copy cc y.cls (ev_wm im ml) pc (pc + 3)
  exact ⟨ix, hd, rfl, et_up h1, et_up h2, et_up h3, et_up h4⟩
theorem et_idiv (hd : decode cc pc = .ok (.idiv, 1)) : pr_E (ev_wm im ml) y cc ret nL pc (47, (pc + 1, (0, (0, (0, []))))) := by
  show ev_i_idiv cc pc (pc + 1) 0
  exact ⟨Or.inl ⟨rfl, hd⟩, rfl⟩
theorem et_irem (hd : decode cc pc = .ok (.irem, 1)) : pr_E (ev_wm im ml) y cc ret nL pc (47, (pc + 1, (1, (0, (0, []))))) := by
  show ev_i_idiv cc pc (pc + 1) 1
  exact ⟨Or.inr ⟨rfl, hd⟩, rfl⟩
theorem et_stop : pr_E (ev_wm im ml) y cc ret nL pc (46, (0, (0, (0, (0, []))))) := trivial
theorem et_iand63 (hd : decode cc pc = .ok (.iand, 1)) : pr_E (ev_wm im ml) y cc ret nL pc (48, (pc + 1, (1, (0, (0, []))))) := by
  show (1 : Nat) = 1 ∧ decode cc pc = .ok (.iand, 1) ∧ pc + 1 = pc + 1
  exact ⟨rfl, hd, rfl⟩
theorem et_ldcs (hd : decode cc pc = .ok (.ldc (ev_sk a).2.1, 2)) (h : y.cls = (ev_sk a).1) (ha : a < 26) : pr_E (ev_wm im ml) y cc ret nL pc (49, (pc + 2, (a, (0, (0, []))))) := by
  show ev_i_ldcs cc y.cls pc (pc + 2) a
  exact ⟨ha, h, hd, rfl⟩
theorem et_slen {ix : Nat} (hd : decode cc pc = .ok (.invokevirtual ix, 3)) (hw : Cond.methodLink y.cls ix js_ln ∈ ev_UW) (hJ : ∀ x ∈ js_ws, x ∈ ev_UW) : pr_E (ev_wm im ml) y cc ret nL pc (50, (pc + 3, (0, (0, (0, []))))) := by
  show ev_i_str cc y.cls pc (pc + 3) js_ln
  exact ⟨ix, hd, rfl, hw, hJ⟩
theorem et_chat {ix : Nat} (hd : decode cc pc = .ok (.invokevirtual ix, 3)) (hw : Cond.methodLink y.cls ix js_ch ∈ ev_UW) (hJ : ∀ x ∈ js_ws, x ∈ ev_UW) : pr_E (ev_wm im ml) y cc ret nL pc (51, (pc + 3, (0, (0, (0, []))))) := by
  show ev_i_str cc y.cls pc (pc + 3) js_ch
  exact ⟨ix, hd, rfl, hw, hJ⟩
end ENT
/-! ===== the law's own bytes by rows of 64, its commonest instructions decoded from them (own work, by program: wip/p7/gen_dk.py) ===== -/
def dk_R : List (List Nat) := [[187, 0, 8, 89, 183, 0, 164, 76, 187, 0, 165, 89, 183, 0, 167, 77, 4, 188, 11, 78, 3, 54, 4, 21, 4, 42, 190, 16, 6, 100, 163, 8, 233, 42, 21, 4, 46, 16, 63, 126, 170, 0, 0, 0, 0, 0, 8, 217, 0, 0, 0, 0, 0, 0, 0, 63, 0, 0, 1, 16, 0, 0, 1, 89], [0, 0, 1, 114, 0, 0, 1, 127, 0, 0, 1, 140, 0, 0, 1, 153, 0, 0, 1, 181, 0, 0, 1, 221, 0, 0, 1, 249, 0, 0, 2, 18, 0, 0, 2, 46, 0, 0, 2, 86, 0, 0, 2, 126, 0, 0, 2, 154, 0, 0, 2, 182, 0, 0, 2, 207, 0, 0, 2, 220, 0, 0, 3, 28], [0, 0, 3, 68, 0, 0, 3, 108, 0, 0, 3, 136, 0, 0, 3, 176, 0, 0, 3, 216, 0, 0, 4, 0, 0, 0, 4, 40, 0, 0, 4, 108, 0, 0, 4, 148, 0, 0, 4, 188, 0, 0, 4, 216, 0, 0, 4, 244, 0, 0, 5, 28, 0, 0, 5, 68, 0, 0, 5, 120, 0, 0, 5, 160], [0, 0, 5, 188, 0, 0, 5, 216, 0, 0, 5, 229, 0, 0, 5, 242, 0, 0, 6, 14, 0, 0, 6, 42, 0, 0, 6, 70, 0, 0, 6, 85, 0, 0, 6, 102, 0, 0, 6, 142, 0, 0, 6, 182, 0, 0, 6, 210, 0, 0, 6, 238, 0, 0, 7, 10, 0, 0, 7, 23, 0, 0, 7, 51], [0, 0, 7, 79, 0, 0, 7, 119, 0, 0, 7, 134, 0, 0, 7, 174, 0, 0, 7, 202, 0, 0, 7, 254, 0, 0, 8, 26, 0, 0, 8, 54, 0, 0, 8, 82, 0, 0, 8, 110, 0, 0, 8, 150, 0, 0, 8, 175, 0, 0, 8, 188, 0, 0, 8, 201, 43, 42, 21, 4, 4, 96, 46, 42], [21, 4, 5, 96, 46, 42, 21, 4, 6, 96, 46, 42, 21, 4, 7, 96, 46, 42, 21, 4, 8, 96, 46, 182, 0, 168, 87, 44, 42, 21, 4, 4, 96, 46, 42, 21, 4, 5, 96, 46, 42, 21, 4, 6, 96, 46, 42, 21, 4, 7, 96, 46, 42, 21, 4, 8, 96, 46, 182, 0, 172, 87, 167, 7], [131, 43, 42, 21, 4, 4, 96, 46, 182, 0, 173, 87, 44, 42, 21, 4, 4, 96, 46, 182, 0, 177, 87, 167, 7, 106, 43, 182, 0, 178, 87, 44, 182, 0, 181, 87, 167, 7, 93, 43, 182, 0, 182, 87, 44, 182, 0, 185, 87, 167, 7, 80, 43, 182, 0, 186, 87, 44, 182, 0, 189, 87, 167, 7], [67, 43, 42, 21, 4, 4, 96, 46, 45, 184, 0, 190, 54, 5, 44, 42, 21, 4, 4, 96, 46, 182, 0, 195, 54, 6, 167, 7, 39, 43, 42, 21, 4, 4, 96, 46, 42, 21, 4, 5, 96, 46, 45, 184, 0, 196, 54, 5, 44, 42, 21, 4, 4, 96, 46, 42, 21, 4, 5, 96, 46, 182, 0, 199], [54, 6, 167, 6, 255, 43, 42, 21, 4, 4, 96, 46, 45, 184, 0, 200, 54, 5, 44, 42, 21, 4, 4, 96, 46, 182, 0, 202, 54, 6, 167, 6, 227, 43, 42, 21, 4, 4, 96, 46, 182, 0, 203, 87, 44, 42, 21, 4, 4, 96, 46, 182, 0, 206, 87, 167, 6, 202, 43, 42, 21, 4, 4, 96], [46, 45, 184, 0, 207, 54, 5, 44, 42, 21, 4, 4, 96, 46, 182, 0, 209, 54, 6, 167, 6, 174, 43, 42, 21, 4, 4, 96, 46, 42, 21, 4, 5, 96, 46, 45, 184, 0, 210, 54, 5, 44, 42, 21, 4, 4, 96, 46, 42, 21, 4, 5, 96, 46, 182, 0, 212, 54, 6, 167, 6, 134, 43, 42], [21, 4, 4, 96, 46, 42, 21, 4, 5, 96, 46, 45, 184, 0, 213, 54, 5, 44, 42, 21, 4, 4, 96, 46, 42, 21, 4, 5, 96, 46, 182, 0, 215, 54, 6, 167, 6, 94, 43, 42, 21, 4, 4, 96, 46, 45, 184, 0, 216, 54, 5, 44, 42, 21, 4, 4, 96, 46, 182, 0, 218, 54, 6, 167], [6, 66, 43, 42, 21, 4, 4, 96, 46, 45, 184, 0, 219, 54, 5, 44, 42, 21, 4, 4, 96, 46, 182, 0, 221, 54, 6, 167, 6, 38, 43, 42, 21, 4, 4, 96, 46, 182, 0, 222, 87, 44, 42, 21, 4, 4, 96, 46, 182, 0, 225, 87, 167, 6, 13, 43, 182, 0, 226, 87, 44, 182, 0, 229], [87, 167, 6, 0, 43, 42, 21, 4, 4, 96, 46, 42, 21, 4, 5, 96, 46, 42, 21, 4, 6, 96, 46, 42, 21, 4, 7, 96, 46, 45, 184, 0, 230, 54, 5, 44, 42, 21, 4, 4, 96, 46, 42, 21, 4, 5, 96, 46, 42, 21, 4, 6, 96, 46, 42, 21, 4, 7, 96, 46, 182, 0, 233, 54], [6, 167, 5, 192, 43, 42, 21, 4, 4, 96, 46, 42, 21, 4, 5, 96, 46, 45, 184, 0, 234, 54, 5, 44, 42, 21, 4, 4, 96, 46, 42, 21, 4, 5, 96, 46, 182, 0, 236, 54, 6, 167, 5, 152, 43, 42, 21, 4, 4, 96, 46, 42, 21, 4, 5, 96, 46, 45, 184, 0, 237, 54, 5, 44], [42, 21, 4, 4, 96, 46, 42, 21, 4, 5, 96, 46, 182, 0, 239, 54, 6, 167, 5, 112, 43, 42, 21, 4, 4, 96, 46, 45, 184, 0, 240, 54, 5, 44, 42, 21, 4, 4, 96, 46, 182, 0, 242, 54, 6, 167, 5, 84, 43, 42, 21, 4, 4, 96, 46, 42, 21, 4, 5, 96, 46, 45, 184, 0], [243, 54, 5, 44, 42, 21, 4, 4, 96, 46, 42, 21, 4, 5, 96, 46, 182, 0, 245, 54, 6, 167, 5, 44, 43, 42, 21, 4, 4, 96, 46, 42, 21, 4, 5, 96, 46, 45, 184, 0, 246, 54, 5, 44, 42, 21, 4, 4, 96, 46, 42, 21, 4, 5, 96, 46, 182, 0, 248, 54, 6, 167, 5, 4], [43, 42, 21, 4, 4, 96, 46, 42, 21, 4, 5, 96, 46, 45, 184, 0, 249, 54, 5, 44, 42, 21, 4, 4, 96, 46, 42, 21, 4, 5, 96, 46, 182, 0, 251, 54, 6, 167, 4, 220, 43, 42, 21, 4, 4, 96, 46, 42, 21, 4, 5, 96, 46, 45, 184, 0, 252, 54, 5, 44, 42, 21, 4, 4], [96, 46, 42, 21, 4, 5, 96, 46, 182, 0, 254, 54, 6, 167, 4, 180, 43, 42, 21, 4, 4, 96, 46, 42, 21, 4, 5, 96, 46, 45, 184, 0, 255, 54, 5, 44, 42, 21, 4, 4, 96, 46, 42, 21, 4, 5, 96, 46, 182, 1, 1, 54, 6, 44, 182, 1, 2, 21, 5, 159, 0, 5, 3, 172], [21, 5, 154, 0, 15, 45, 3, 47, 21, 6, 133, 148, 153, 0, 5, 3, 172, 167, 4, 112, 43, 42, 21, 4, 4, 96, 46, 42, 21, 4, 5, 96, 46, 45, 184, 1, 5, 54, 5, 44, 42, 21, 4, 4, 96, 46, 42, 21, 4, 5, 96, 46, 182, 1, 7, 54, 6, 167, 4, 72, 43, 42, 21, 4], [4, 96, 46, 42, 21, 4, 5, 96, 46, 45, 184, 1, 8, 54, 5, 44, 42, 21, 4, 4, 96, 46, 42, 21, 4, 5, 96, 46, 182, 1, 10, 54, 6, 167, 4, 32, 43, 42, 21, 4, 4, 96, 46, 45, 184, 1, 11, 54, 5, 44, 42, 21, 4, 4, 96, 46, 182, 1, 13, 54, 6, 167, 4, 4], [43, 42, 21, 4, 4, 96, 46, 45, 184, 1, 14, 54, 5, 44, 42, 21, 4, 4, 96, 46, 182, 1, 16, 54, 6, 167, 3, 232, 43, 42, 21, 4, 4, 96, 46, 42, 21, 4, 5, 96, 46, 45, 184, 1, 17, 54, 5, 44, 42, 21, 4, 4, 96, 46, 42, 21, 4, 5, 96, 46, 182, 1, 19, 54], [6, 167, 3, 192, 43, 42, 21, 4, 4, 96, 46, 42, 21, 4, 5, 96, 46, 45, 184, 1, 20, 54, 5, 44, 42, 21, 4, 4, 96, 46, 42, 21, 4, 5, 96, 46, 182, 1, 22, 54, 6, 167, 3, 152, 43, 42, 21, 4, 4, 96, 46, 42, 21, 4, 5, 96, 46, 42, 21, 4, 6, 96, 46, 45], [184, 1, 23, 54, 5, 44, 42, 21, 4, 4, 96, 46, 42, 21, 4, 5, 96, 46, 42, 21, 4, 6, 96, 46, 182, 1, 26, 54, 6, 167, 3, 100, 43, 42, 21, 4, 4, 96, 46, 42, 21, 4, 5, 96, 46, 45, 184, 1, 27, 54, 5, 44, 42, 21, 4, 4, 96, 46, 42, 21, 4, 5, 96, 46], [182, 1, 29, 54, 6, 167, 3, 60, 43, 42, 21, 4, 4, 96, 46, 45, 184, 1, 30, 54, 5, 44, 42, 21, 4, 4, 96, 46, 182, 1, 32, 54, 6, 167, 3, 32, 43, 42, 21, 4, 4, 96, 46, 45, 184, 1, 33, 54, 5, 44, 42, 21, 4, 4, 96, 46, 182, 1, 35, 54, 6, 167, 3, 4], [43, 182, 1, 36, 87, 44, 182, 1, 39, 87, 167, 2, 247, 43, 182, 1, 40, 87, 44, 182, 1, 43, 87, 167, 2, 234, 43, 42, 21, 4, 4, 96, 46, 45, 184, 1, 44, 54, 5, 44, 42, 21, 4, 4, 96, 46, 182, 1, 46, 54, 6, 167, 2, 206, 43, 42, 21, 4, 4, 96, 46, 45, 184, 1], [47, 54, 5, 44, 42, 21, 4, 4, 96, 46, 182, 1, 49, 54, 6, 167, 2, 178, 43, 42, 21, 4, 4, 96, 46, 45, 184, 1, 50, 54, 5, 44, 42, 21, 4, 4, 96, 46, 182, 1, 52, 54, 6, 167, 2, 150, 43, 182, 1, 53, 57, 5, 44, 182, 1, 57, 57, 7, 167, 2, 135, 43, 182, 1], [58, 141, 57, 5, 44, 182, 1, 62, 141, 57, 7, 167, 2, 118, 43, 42, 21, 4, 4, 96, 46, 42, 21, 4, 5, 96, 46, 45, 184, 1, 63, 54, 5, 44, 42, 21, 4, 4, 96, 46, 42, 21, 4, 5, 96, 46, 182, 1, 65, 54, 6, 167, 2, 78, 43, 42, 21, 4, 4, 96, 46, 42, 21, 4], [5, 96, 46, 45, 184, 1, 66, 54, 5, 44, 42, 21, 4, 4, 96, 46, 42, 21, 4, 5, 96, 46, 182, 1, 68, 54, 6, 167, 2, 38, 43, 42, 21, 4, 4, 96, 46, 45, 184, 1, 69, 54, 5, 44, 42, 21, 4, 4, 96, 46, 182, 1, 71, 54, 6, 167, 2, 10, 43, 42, 21, 4, 4, 96], [46, 45, 184, 1, 72, 54, 5, 44, 42, 21, 4, 4, 96, 46, 182, 1, 74, 54, 6, 167, 1, 238, 43, 42, 21, 4, 4, 96, 46, 45, 184, 1, 75, 54, 5, 44, 42, 21, 4, 4, 96, 46, 182, 1, 77, 54, 6, 167, 1, 210, 43, 182, 1, 78, 87, 44, 182, 1, 81, 87, 167, 1, 197, 43], [42, 21, 4, 4, 96, 46, 45, 184, 1, 82, 54, 5, 44, 42, 21, 4, 4, 96, 46, 182, 1, 84, 54, 6, 167, 1, 169, 43, 42, 21, 4, 4, 96, 46, 45, 184, 1, 85, 54, 5, 44, 42, 21, 4, 4, 96, 46, 182, 1, 87, 54, 6, 167, 1, 141, 43, 42, 21, 4, 4, 96, 46, 42, 21], [4, 5, 96, 46, 45, 184, 1, 88, 54, 5, 44, 42, 21, 4, 4, 96, 46, 42, 21, 4, 5, 96, 46, 182, 1, 90, 54, 6, 167, 1, 101, 43, 182, 1, 91, 57, 5, 44, 182, 1, 94, 57, 7, 167, 1, 86, 43, 42, 21, 4, 4, 96, 46, 42, 21, 4, 5, 96, 46, 45, 184, 1, 95, 54], [5, 44, 42, 21, 4, 4, 96, 46, 42, 21, 4, 5, 96, 46, 182, 1, 97, 54, 6, 167, 1, 46, 43, 42, 21, 4, 4, 96, 46, 45, 184, 1, 98, 54, 5, 44, 42, 21, 4, 4, 96, 46, 182, 1, 100, 54, 6, 167, 1, 18, 43, 42, 21, 4, 4, 96, 46, 42, 21, 4, 5, 96, 46, 42], [21, 4, 6, 96, 46, 45, 184, 1, 101, 54, 5, 44, 42, 21, 4, 4, 96, 46, 42, 21, 4, 5, 96, 46, 42, 21, 4, 6, 96, 46, 182, 1, 103, 54, 6, 167, 0, 222, 43, 42, 21, 4, 4, 96, 46, 45, 184, 1, 104, 54, 5, 44, 42, 21, 4, 4, 96, 46, 182, 1, 106, 54, 6, 167], [0, 194, 43, 42, 21, 4, 4, 96, 46, 45, 184, 1, 107, 54, 5, 44, 42, 21, 4, 4, 96, 46, 182, 1, 109, 54, 6, 167, 0, 166, 43, 42, 21, 4, 4, 96, 46, 45, 184, 1, 110, 54, 5, 44, 42, 21, 4, 4, 96, 46, 182, 1, 112, 54, 6, 167, 0, 138, 43, 42, 21, 4, 4, 96], [46, 45, 184, 1, 113, 54, 5, 44, 42, 21, 4, 4, 96, 46, 182, 1, 115, 54, 6, 167, 0, 110, 43, 42, 21, 4, 4, 96, 46, 42, 21, 4, 5, 96, 46, 45, 184, 1, 116, 54, 5, 44, 42, 21, 4, 4, 96, 46, 42, 21, 4, 5, 96, 46, 182, 1, 118, 54, 6, 167, 0, 70, 43, 42], [21, 4, 4, 96, 46, 182, 1, 119, 87, 44, 42, 21, 4, 4, 96, 46, 182, 1, 122, 87, 167, 0, 45, 43, 182, 1, 123, 87, 44, 182, 1, 126, 87, 167, 0, 32, 43, 182, 1, 127, 87, 44, 182, 1, 130, 87, 167, 0, 19, 43, 45, 184, 1, 131, 54, 5, 44, 182, 1, 134, 54, 6, 167, 0], [3, 132, 4, 6, 167, 247, 19, 4, 172]]
/-- rows of 64 -/
def dk_ok : List (List Nat) → Bool
  | [] => true
  | [_] => true
  | r :: s :: t => decide (r.length = 64) && dk_ok (s :: t)
theorem dk_fl : ∀ (L : List (List Nat)) (a b x : Nat) (row : List Nat), dk_ok L = true → L[a]? = some row → row[b]? = some x → L.flatten[64 * a + b]? = some x := by
  intro L
  induction L with
  | nil => intro a b x row _ h _; cases h
  | cons r t ih =>
    intro a b x row hk h hx
    cases a with
    | zero =>
      cases h
      have hb : b < r.length := (List.getElem?_eq_some_iff.mp hx).1
      show (r ++ t.flatten)[64 * 0 + b]? = some x
      rw [show 64 * 0 + b = b by omega, List.getElem?_append_left hb]
      exact hx
    | succ a =>
      cases t with
      | nil => cases h
      | cons s t =>
        have hk : (decide (r.length = 64) && dk_ok (s :: t)) = true := hk
        rw [Bool.and_eq_true] at hk
        have hr := of_decide_eq_true hk.1
        show (r ++ (s :: t).flatten)[64 * (a + 1) + b]? = some x
        rw [List.getElem?_append_right (by omega), show 64 * (a + 1) + b - r.length = 64 * a + b by omega]
        exact ih a b x row hk.2 h hx
/-- the byte at a place -/
def DB (c : ByteArray) (i b : Nat) : Prop := ∃ h : i < c.size, (c[i]'h).toNat = b
theorem dk_bt {c : ByteArray} {L : List Nat} (hL : c.data.toList.map UInt8.toNat = L) {i b : Nat} (h : L[i]? = some b) : DB c i b := by
  rw [← hL, List.getElem?_map] at h
  cases hu : c.data.toList[i]? with
  | none => rw [hu] at h; cases h
  | some u =>
    rw [hu] at h
    cases h
    obtain ⟨hi, hv⟩ := List.getElem?_eq_some_iff.mp hu
    have hs : i < c.data.size := by rw [← Array.length_toList]; exact hi
    refine ⟨hs, ?_⟩
    show (c.data[i]'hs).toNat = u.toNat
    rw [← hv, Array.getElem_toList]
/-- two lists of numbers, compared from the front -/
def dk_eq : List Nat → List Nat → Bool
  | [], [] => true
  | a :: l, b :: m => Nat.beq a b && dk_eq l m
  | _, _ => false
theorem dk_eq_t : ∀ l m : List Nat, dk_eq l m = true → l = m := by
  intro l
  induction l with
  | nil =>
    intro m h
    cases m with
    | nil => rfl
    | cons b m => cases h
  | cons a l ih =>
    intro m h
    cases m with
    | nil => cases h
    | cons b m =>
      have h : (Nat.beq a b && dk_eq l m) = true := h
      rw [Bool.and_eq_true] at h
      rw [Nat.eq_of_beq_eq_true h.1, ih m h.2]
theorem dk_all : code.data.toList.map UInt8.toNat = dk_R.flatten := dk_eq_t _ _ (by decide +kernel)
theorem dk_k : dk_ok dk_R = true := by decide +kernel
theorem dk_at {i b : Nat} (a : Nat) {e : Nat} (h : (dk_R[a]?.bind (fun r => r[e]?)) = some b) (hi : 64 * a + e = i) : DB code i b := by
  cases hr : dk_R[a]? with
  | none => rw [hr] at h; cases h
  | some row =>
    rw [hr] at h
    subst hi
    exact dk_bt dk_all (dk_fl dk_R a e b row dk_k hr h)
section DKB
variable {c : ByteArray} {pc i j a b ix : Nat}
theorem dk_u1 (h : DB c i b) : (Jvm.ClassFile.Reader.u1 : Jvm.ClassFile.Decoder Nat) c i = .ok (b, i + 1) := by
  obtain ⟨h, e⟩ := h
  show (if h : i < c.size then (do set (i + 1); pure (c[i]'h).toNat : Jvm.ClassFile.Decoder Nat) else throw (Jvm.ClassFile.HasTruncated.truncated i)) c i = _
  rw [dif_pos h, e]
  rfl
theorem dk_bind {α β : Type} {x : α} {r : Jvm.ClassFile.Decoder α} {f : α → Jvm.ClassFile.Decoder β} (h : r c i = .ok (x, j)) : (r >>= f) c i = f x c j := by
  show Except.bind (r c i) (fun z => f z.1 c z.2) = _
  rw [h]
  rfl
theorem dk_u2 (h0 : DB c i a) (h1 : DB c (i + 1) b) : (Jvm.ClassFile.Reader.u2 : Jvm.ClassFile.Decoder Nat) c i = .ok (a * 256 + b, i + 2) := by
  unfold Jvm.ClassFile.Reader.u2
  rw [dk_bind (dk_u1 h0), dk_bind (dk_u1 h1)]
  rfl
theorem dk_s2 (h0 : DB c i a) (h1 : DB c (i + 1) b) : (Jvm.ClassFile.Reader.s2 : Jvm.ClassFile.Decoder Int) c i = .ok (Jvm.ClassFile.Reader.signed 16 (a * 256 + b), i + 2) := by
  show Except.bind ((Jvm.ClassFile.Reader.u2 : Jvm.ClassFile.Decoder Nat) c i) (fun z => Except.ok (Jvm.ClassFile.Reader.signed 16 z.1, z.2)) = _
  rw [dk_u2 h0 h1]
  rfl
theorem dk_dec {x : Jvm.ClassFile.Instr} {n : Nat} (h : Jvm.ClassFile.Decoder.instr pc c pc = .ok (x, n)) : decode c pc = .ok (x, n - pc) := by
  show Except.bind (Jvm.ClassFile.Decoder.instr pc c pc) (fun z => Except.ok (z.1, z.2 - pc)) = _
  rw [h]
  rfl
set_option maxRecDepth 100000 in
theorem dk_iconst_0 (h0 : DB c pc 3) : decode c pc = .ok (.iconst 0, 1) := by
  have e : Jvm.ClassFile.Decoder.instr pc c pc = .ok (.iconst 0, pc + 1) := by
    unfold Jvm.ClassFile.Decoder.instr
    refine (dk_bind (dk_u1 h0)).trans ?_
    rfl
  rw [dk_dec e, show pc + 1 - pc = 1 by omega]
set_option maxRecDepth 100000 in
theorem dk_iconst_1 (h0 : DB c pc 4) : decode c pc = .ok (.iconst 1, 1) := by
  have e : Jvm.ClassFile.Decoder.instr pc c pc = .ok (.iconst 1, pc + 1) := by
    unfold Jvm.ClassFile.Decoder.instr
    refine (dk_bind (dk_u1 h0)).trans ?_
    rfl
  rw [dk_dec e, show pc + 1 - pc = 1 by omega]
set_option maxRecDepth 100000 in
theorem dk_iconst_2 (h0 : DB c pc 5) : decode c pc = .ok (.iconst 2, 1) := by
  have e : Jvm.ClassFile.Decoder.instr pc c pc = .ok (.iconst 2, pc + 1) := by
    unfold Jvm.ClassFile.Decoder.instr
    refine (dk_bind (dk_u1 h0)).trans ?_
    rfl
  rw [dk_dec e, show pc + 1 - pc = 1 by omega]
set_option maxRecDepth 100000 in
theorem dk_iconst_3 (h0 : DB c pc 6) : decode c pc = .ok (.iconst 3, 1) := by
  have e : Jvm.ClassFile.Decoder.instr pc c pc = .ok (.iconst 3, pc + 1) := by
    unfold Jvm.ClassFile.Decoder.instr
    refine (dk_bind (dk_u1 h0)).trans ?_
    rfl
  rw [dk_dec e, show pc + 1 - pc = 1 by omega]
set_option maxRecDepth 100000 in
theorem dk_iconst_4 (h0 : DB c pc 7) : decode c pc = .ok (.iconst 4, 1) := by
  have e : Jvm.ClassFile.Decoder.instr pc c pc = .ok (.iconst 4, pc + 1) := by
    unfold Jvm.ClassFile.Decoder.instr
    refine (dk_bind (dk_u1 h0)).trans ?_
    rfl
  rw [dk_dec e, show pc + 1 - pc = 1 by omega]
set_option maxRecDepth 100000 in
theorem dk_iconst_5 (h0 : DB c pc 8) : decode c pc = .ok (.iconst 5, 1) := by
  have e : Jvm.ClassFile.Decoder.instr pc c pc = .ok (.iconst 5, pc + 1) := by
    unfold Jvm.ClassFile.Decoder.instr
    refine (dk_bind (dk_u1 h0)).trans ?_
    rfl
  rw [dk_dec e, show pc + 1 - pc = 1 by omega]
set_option maxRecDepth 100000 in
theorem dk_aload_0 (h0 : DB c pc 42) : decode c pc = .ok (.aload_n 0, 1) := by
  have e : Jvm.ClassFile.Decoder.instr pc c pc = .ok (.aload_n 0, pc + 1) := by
    unfold Jvm.ClassFile.Decoder.instr
    refine (dk_bind (dk_u1 h0)).trans ?_
    rfl
  rw [dk_dec e, show pc + 1 - pc = 1 by omega]
set_option maxRecDepth 100000 in
theorem dk_aload_1 (h0 : DB c pc 43) : decode c pc = .ok (.aload_n 1, 1) := by
  have e : Jvm.ClassFile.Decoder.instr pc c pc = .ok (.aload_n 1, pc + 1) := by
    unfold Jvm.ClassFile.Decoder.instr
    refine (dk_bind (dk_u1 h0)).trans ?_
    rfl
  rw [dk_dec e, show pc + 1 - pc = 1 by omega]
set_option maxRecDepth 100000 in
theorem dk_aload_2 (h0 : DB c pc 44) : decode c pc = .ok (.aload_n 2, 1) := by
  have e : Jvm.ClassFile.Decoder.instr pc c pc = .ok (.aload_n 2, pc + 1) := by
    unfold Jvm.ClassFile.Decoder.instr
    refine (dk_bind (dk_u1 h0)).trans ?_
    rfl
  rw [dk_dec e, show pc + 1 - pc = 1 by omega]
set_option maxRecDepth 100000 in
theorem dk_aload_3 (h0 : DB c pc 45) : decode c pc = .ok (.aload_n 3, 1) := by
  have e : Jvm.ClassFile.Decoder.instr pc c pc = .ok (.aload_n 3, pc + 1) := by
    unfold Jvm.ClassFile.Decoder.instr
    refine (dk_bind (dk_u1 h0)).trans ?_
    rfl
  rw [dk_dec e, show pc + 1 - pc = 1 by omega]
set_option maxRecDepth 100000 in
theorem dk_iaload (h0 : DB c pc 46) : decode c pc = .ok (.iaload, 1) := by
  have e : Jvm.ClassFile.Decoder.instr pc c pc = .ok (.iaload, pc + 1) := by
    unfold Jvm.ClassFile.Decoder.instr
    refine (dk_bind (dk_u1 h0)).trans ?_
    rfl
  rw [dk_dec e, show pc + 1 - pc = 1 by omega]
set_option maxRecDepth 100000 in
theorem dk_iadd (h0 : DB c pc 96) : decode c pc = .ok (.iadd, 1) := by
  have e : Jvm.ClassFile.Decoder.instr pc c pc = .ok (.iadd, pc + 1) := by
    unfold Jvm.ClassFile.Decoder.instr
    refine (dk_bind (dk_u1 h0)).trans ?_
    rfl
  rw [dk_dec e, show pc + 1 - pc = 1 by omega]
set_option maxRecDepth 100000 in
theorem dk_pop (h0 : DB c pc 87) : decode c pc = .ok (.pop, 1) := by
  have e : Jvm.ClassFile.Decoder.instr pc c pc = .ok (.pop, pc + 1) := by
    unfold Jvm.ClassFile.Decoder.instr
    refine (dk_bind (dk_u1 h0)).trans ?_
    rfl
  rw [dk_dec e, show pc + 1 - pc = 1 by omega]
set_option maxRecDepth 100000 in
theorem dk_iload (h0 : DB c pc 21) (h1 : DB c (pc + 1) a) : decode c pc = .ok (.iload a, 2) := by
  have e : Jvm.ClassFile.Decoder.instr pc c pc = .ok (.iload a, pc + 1 + 1) := by
    unfold Jvm.ClassFile.Decoder.instr
    refine (dk_bind (dk_u1 h0)).trans ?_
    show ((Jvm.ClassFile.Reader.u1 >>= fun x => pure (.iload x)) : Jvm.ClassFile.Decoder Jvm.ClassFile.Instr) c (pc + 1) = _
    rw [dk_bind (dk_u1 h1)]
    rfl
  rw [dk_dec e, show pc + 1 + 1 - pc = 2 by omega]
set_option maxRecDepth 100000 in
theorem dk_istore (h0 : DB c pc 54) (h1 : DB c (pc + 1) a) : decode c pc = .ok (.istore a, 2) := by
  have e : Jvm.ClassFile.Decoder.instr pc c pc = .ok (.istore a, pc + 1 + 1) := by
    unfold Jvm.ClassFile.Decoder.instr
    refine (dk_bind (dk_u1 h0)).trans ?_
    show ((Jvm.ClassFile.Reader.u1 >>= fun x => pure (.istore x)) : Jvm.ClassFile.Decoder Jvm.ClassFile.Instr) c (pc + 1) = _
    rw [dk_bind (dk_u1 h1)]
    rfl
  rw [dk_dec e, show pc + 1 + 1 - pc = 2 by omega]
set_option maxRecDepth 100000 in
theorem dk_dstore (h0 : DB c pc 57) (h1 : DB c (pc + 1) a) : decode c pc = .ok (.dstore a, 2) := by
  have e : Jvm.ClassFile.Decoder.instr pc c pc = .ok (.dstore a, pc + 1 + 1) := by
    unfold Jvm.ClassFile.Decoder.instr
    refine (dk_bind (dk_u1 h0)).trans ?_
    show ((Jvm.ClassFile.Reader.u1 >>= fun x => pure (.dstore x)) : Jvm.ClassFile.Decoder Jvm.ClassFile.Instr) c (pc + 1) = _
    rw [dk_bind (dk_u1 h1)]
    rfl
  rw [dk_dec e, show pc + 1 + 1 - pc = 2 by omega]
set_option maxRecDepth 100000 in
theorem dk_invokevirtual {ix : Nat} (h0 : DB c pc 182) (h1 : DB c (pc + 1) a) (h2 : DB c (pc + 1 + 1) b) (hx : a * 256 + b = ix) : decode c pc = .ok (.invokevirtual ix, 3) := by
  have e : Jvm.ClassFile.Decoder.instr pc c pc = .ok (.invokevirtual ix, pc + 1 + 2) := by
    unfold Jvm.ClassFile.Decoder.instr
    refine (dk_bind (dk_u1 h0)).trans ?_
    show ((Jvm.ClassFile.Reader.u2 >>= fun x => pure (.invokevirtual x)) : Jvm.ClassFile.Decoder Jvm.ClassFile.Instr) c (pc + 1) = _
    rw [dk_bind (dk_u2 h1 h2), hx]
    rfl
  rw [dk_dec e, show pc + 1 + 2 - pc = 3 by omega]
set_option maxRecDepth 100000 in
theorem dk_invokestatic {ix : Nat} (h0 : DB c pc 184) (h1 : DB c (pc + 1) a) (h2 : DB c (pc + 1 + 1) b) (hx : a * 256 + b = ix) : decode c pc = .ok (.invokestatic ix, 3) := by
  have e : Jvm.ClassFile.Decoder.instr pc c pc = .ok (.invokestatic ix, pc + 1 + 2) := by
    unfold Jvm.ClassFile.Decoder.instr
    refine (dk_bind (dk_u1 h0)).trans ?_
    show ((Jvm.ClassFile.Reader.u2 >>= fun x => pure (.invokestatic x)) : Jvm.ClassFile.Decoder Jvm.ClassFile.Instr) c (pc + 1) = _
    rw [dk_bind (dk_u2 h1 h2), hx]
    rfl
  rw [dk_dec e, show pc + 1 + 2 - pc = 3 by omega]
set_option maxRecDepth 100000 in
theorem dk_goto {ix : Int} (h0 : DB c pc 167) (h1 : DB c (pc + 1) a) (h2 : DB c (pc + 1 + 1) b) (hx : Jvm.ClassFile.Reader.signed 16 (a * 256 + b) = ix) : decode c pc = .ok (.goto ix, 3) := by
  have e : Jvm.ClassFile.Decoder.instr pc c pc = .ok (.goto ix, pc + 1 + 2) := by
    unfold Jvm.ClassFile.Decoder.instr
    refine (dk_bind (dk_u1 h0)).trans ?_
    show ((Jvm.ClassFile.Reader.s2 >>= fun x => pure (.goto x)) : Jvm.ClassFile.Decoder Jvm.ClassFile.Instr) c (pc + 1) = _
    rw [dk_bind (dk_s2 h1 h2), hx]
    rfl
  rw [dk_dec e, show pc + 1 + 2 - pc = 3 by omega]
end DKB
/-! ===== instructions decoded from a method's bytes, all of a method by one yes or no (own work, by program: wip/p2/gen3.py) ===== -/
noncomputable def bx (L : List Nat) : Nat → Nat → Bool :=
  List.rec (motive := fun _ => Nat → Nat → Bool) (fun _ _ => false) (fun x _ ih i b => Nat.rec (motive := fun _ => Bool) (Nat.beq x b) (fun k _ => ih k b) i) L
theorem bx_t {L : List Nat} : ∀ {i b : Nat}, bx L i b = true → L[i]? = some b := by
  induction L with
  | nil => intro i b h; exact absurd h (fun z => by cases z)
  | cons x t ih =>
    intro i b h
    cases i with
    | zero =>
      have h : Nat.beq x b = true := h
      rw [Nat.eq_of_beq_eq_true h]
      rfl
    | succ k =>
      have h : bx t k b = true := h
      rw [List.getElem?_cons_succ]
      exact ih h
theorem bx_2 {a b : Prop} {x y : Bool} (ha : x = true → a) (hb : y = true → b) (h : (x && y) = true) : a ∧ b := by
  rw [Bool.and_eq_true] at h
  exact ⟨ha h.1, hb h.2⟩
section DQB
variable {c : ByteArray} {L : List Nat} {pc a i : Nat}
theorem dk_s1 (h0 : DB c i a) : (Jvm.ClassFile.Reader.s1 : Jvm.ClassFile.Decoder Int) c i = .ok (Jvm.ClassFile.Reader.signed 8 a, i + 1) := by
  show Except.bind ((Jvm.ClassFile.Reader.u1 : Jvm.ClassFile.Decoder Nat) c i) (fun z => Except.ok (Jvm.ClassFile.Reader.signed 8 z.1, z.2)) = _
  rw [dk_u1 h0]
  rfl
set_option maxRecDepth 100000 in
theorem dq_42 (hL : c.data.toList.map UInt8.toNat = L) (h : bx L pc 42 = true) : decode c pc = .ok (.aload_n 0, 1) := by
  have h0 : DB c pc 42 := dk_bt hL (bx_t h)
  have e : Jvm.ClassFile.Decoder.instr pc c pc = .ok (.aload_n 0, pc + 1) := by
    unfold Jvm.ClassFile.Decoder.instr
    refine (dk_bind (dk_u1 h0)).trans ?_
    rfl
  rw [dk_dec e, show pc + 1 - pc = 1 by omega]
set_option maxRecDepth 100000 in
theorem dq_183 {b : Nat} {ix : Nat} (hL : c.data.toList.map UInt8.toNat = L) (h : (bx L pc 183 && (bx L (pc + 1) a && (bx L (pc + 1 + 1) b && decide (a * 256 + b = ix)))) = true) : decode c pc = .ok (.invokespecial ix, 3) := by
  simp only [Bool.and_eq_true, decide_eq_true_eq] at h
  have h0 : DB c pc 183 := dk_bt hL (bx_t h.1)
  have h1 : DB c (pc + 1) a := dk_bt hL (bx_t h.2.1)
  have h2 : DB c (pc + 1 + 1) b := dk_bt hL (bx_t h.2.2.1)
  have e : Jvm.ClassFile.Decoder.instr pc c pc = .ok (.invokespecial ix, pc + 1 + 2) := by
    unfold Jvm.ClassFile.Decoder.instr
    refine (dk_bind (dk_u1 h0)).trans ?_
    show ((Jvm.ClassFile.Reader.u2 >>= fun x => pure (.invokespecial x)) : Jvm.ClassFile.Decoder Jvm.ClassFile.Instr) c (pc + 1) = _
    rw [dk_bind (dk_u2 h1 h2), h.2.2.2]
    rfl
  rw [dk_dec e, show pc + 1 + 2 - pc = 3 by omega]
set_option maxRecDepth 100000 in
theorem dq_89 (hL : c.data.toList.map UInt8.toNat = L) (h : bx L pc 89 = true) : decode c pc = .ok (.dup, 1) := by
  have h0 : DB c pc 89 := dk_bt hL (bx_t h)
  have e : Jvm.ClassFile.Decoder.instr pc c pc = .ok (.dup, pc + 1) := by
    unfold Jvm.ClassFile.Decoder.instr
    refine (dk_bind (dk_u1 h0)).trans ?_
    rfl
  rw [dk_dec e, show pc + 1 - pc = 1 by omega]
set_option maxRecDepth 100000 in
theorem dq_181 {b : Nat} {ix : Nat} (hL : c.data.toList.map UInt8.toNat = L) (h : (bx L pc 181 && (bx L (pc + 1) a && (bx L (pc + 1 + 1) b && decide (a * 256 + b = ix)))) = true) : decode c pc = .ok (.putfield ix, 3) := by
  simp only [Bool.and_eq_true, decide_eq_true_eq] at h
  have h0 : DB c pc 181 := dk_bt hL (bx_t h.1)
  have h1 : DB c (pc + 1) a := dk_bt hL (bx_t h.2.1)
  have h2 : DB c (pc + 1 + 1) b := dk_bt hL (bx_t h.2.2.1)
  have e : Jvm.ClassFile.Decoder.instr pc c pc = .ok (.putfield ix, pc + 1 + 2) := by
    unfold Jvm.ClassFile.Decoder.instr
    refine (dk_bind (dk_u1 h0)).trans ?_
    show ((Jvm.ClassFile.Reader.u2 >>= fun x => pure (.putfield x)) : Jvm.ClassFile.Decoder Jvm.ClassFile.Instr) c (pc + 1) = _
    rw [dk_bind (dk_u2 h1 h2), h.2.2.2]
    rfl
  rw [dk_dec e, show pc + 1 + 2 - pc = 3 by omega]
set_option maxRecDepth 100000 in
theorem dq_3 (hL : c.data.toList.map UInt8.toNat = L) (h : bx L pc 3 = true) : decode c pc = .ok (.iconst 0, 1) := by
  have h0 : DB c pc 3 := dk_bt hL (bx_t h)
  have e : Jvm.ClassFile.Decoder.instr pc c pc = .ok (.iconst 0, pc + 1) := by
    unfold Jvm.ClassFile.Decoder.instr
    refine (dk_bind (dk_u1 h0)).trans ?_
    rfl
  rw [dk_dec e, show pc + 1 - pc = 1 by omega]
set_option maxRecDepth 100000 in
theorem dq_177 (hL : c.data.toList.map UInt8.toNat = L) (h : bx L pc 177 = true) : decode c pc = .ok (.return_, 1) := by
  have h0 : DB c pc 177 := dk_bt hL (bx_t h)
  have e : Jvm.ClassFile.Decoder.instr pc c pc = .ok (.return_, pc + 1) := by
    unfold Jvm.ClassFile.Decoder.instr
    refine (dk_bind (dk_u1 h0)).trans ?_
    rfl
  rw [dk_dec e, show pc + 1 - pc = 1 by omega]
set_option maxRecDepth 100000 in
theorem dq_180 {b : Nat} {ix : Nat} (hL : c.data.toList.map UInt8.toNat = L) (h : (bx L pc 180 && (bx L (pc + 1) a && (bx L (pc + 1 + 1) b && decide (a * 256 + b = ix)))) = true) : decode c pc = .ok (.getfield ix, 3) := by
  simp only [Bool.and_eq_true, decide_eq_true_eq] at h
  have h0 : DB c pc 180 := dk_bt hL (bx_t h.1)
  have h1 : DB c (pc + 1) a := dk_bt hL (bx_t h.2.1)
  have h2 : DB c (pc + 1 + 1) b := dk_bt hL (bx_t h.2.2.1)
  have e : Jvm.ClassFile.Decoder.instr pc c pc = .ok (.getfield ix, pc + 1 + 2) := by
    unfold Jvm.ClassFile.Decoder.instr
    refine (dk_bind (dk_u1 h0)).trans ?_
    show ((Jvm.ClassFile.Reader.u2 >>= fun x => pure (.getfield x)) : Jvm.ClassFile.Decoder Jvm.ClassFile.Instr) c (pc + 1) = _
    rw [dk_bind (dk_u2 h1 h2), h.2.2.2]
    rfl
  rw [dk_dec e, show pc + 1 + 2 - pc = 3 by omega]
set_option maxRecDepth 100000 in
theorem dq_58 (hL : c.data.toList.map UInt8.toNat = L) (h : (bx L pc 58 && bx L (pc + 1) a) = true) : decode c pc = .ok (.astore a, 2) := by
  simp only [Bool.and_eq_true] at h
  have h0 : DB c pc 58 := dk_bt hL (bx_t h.1)
  have h1 : DB c (pc + 1) a := dk_bt hL (bx_t h.2)
  have e : Jvm.ClassFile.Decoder.instr pc c pc = .ok (.astore a, pc + 1 + 1) := by
    unfold Jvm.ClassFile.Decoder.instr
    refine (dk_bind (dk_u1 h0)).trans ?_
    show ((Jvm.ClassFile.Reader.u1 >>= fun x => pure (.astore x)) : Jvm.ClassFile.Decoder Jvm.ClassFile.Instr) c (pc + 1) = _
    rw [dk_bind (dk_u1 h1)]
    rfl
  rw [dk_dec e, show pc + 1 + 1 - pc = 2 by omega]
set_option maxRecDepth 100000 in
theorem dq_25 (hL : c.data.toList.map UInt8.toNat = L) (h : (bx L pc 25 && bx L (pc + 1) a) = true) : decode c pc = .ok (.aload a, 2) := by
  simp only [Bool.and_eq_true] at h
  have h0 : DB c pc 25 := dk_bt hL (bx_t h.1)
  have h1 : DB c (pc + 1) a := dk_bt hL (bx_t h.2)
  have e : Jvm.ClassFile.Decoder.instr pc c pc = .ok (.aload a, pc + 1 + 1) := by
    unfold Jvm.ClassFile.Decoder.instr
    refine (dk_bind (dk_u1 h0)).trans ?_
    show ((Jvm.ClassFile.Reader.u1 >>= fun x => pure (.aload x)) : Jvm.ClassFile.Decoder Jvm.ClassFile.Instr) c (pc + 1) = _
    rw [dk_bind (dk_u1 h1)]
    rfl
  rw [dk_dec e, show pc + 1 + 1 - pc = 2 by omega]
set_option maxRecDepth 100000 in
theorem dq_16 {ix : Int} (hL : c.data.toList.map UInt8.toNat = L) (h : (bx L pc 16 && (bx L (pc + 1) a && decide (Jvm.ClassFile.Reader.signed 8 a = ix))) = true) : decode c pc = .ok (.bipush ix, 2) := by
  simp only [Bool.and_eq_true, decide_eq_true_eq] at h
  have h0 : DB c pc 16 := dk_bt hL (bx_t h.1)
  have h1 : DB c (pc + 1) a := dk_bt hL (bx_t h.2.1)
  have e : Jvm.ClassFile.Decoder.instr pc c pc = .ok (.bipush ix, pc + 1 + 1) := by
    unfold Jvm.ClassFile.Decoder.instr
    refine (dk_bind (dk_u1 h0)).trans ?_
    show ((Jvm.ClassFile.Reader.s1 >>= fun x => pure (.bipush x)) : Jvm.ClassFile.Decoder Jvm.ClassFile.Instr) c (pc + 1) = _
    rw [dk_bind (dk_s1 h1), h.2.2]
    rfl
  rw [dk_dec e, show pc + 1 + 1 - pc = 2 by omega]
set_option maxRecDepth 100000 in
theorem dq_96 (hL : c.data.toList.map UInt8.toNat = L) (h : bx L pc 96 = true) : decode c pc = .ok (.iadd, 1) := by
  have h0 : DB c pc 96 := dk_bt hL (bx_t h)
  have e : Jvm.ClassFile.Decoder.instr pc c pc = .ok (.iadd, pc + 1) := by
    unfold Jvm.ClassFile.Decoder.instr
    refine (dk_bind (dk_u1 h0)).trans ?_
    rfl
  rw [dk_dec e, show pc + 1 - pc = 1 by omega]
set_option maxRecDepth 100000 in
theorem dq_17 {b : Nat} {ix : Int} (hL : c.data.toList.map UInt8.toNat = L) (h : (bx L pc 17 && (bx L (pc + 1) a && (bx L (pc + 1 + 1) b && decide (Jvm.ClassFile.Reader.signed 16 (a * 256 + b) = ix)))) = true) : decode c pc = .ok (.sipush ix, 3) := by
  simp only [Bool.and_eq_true, decide_eq_true_eq] at h
  have h0 : DB c pc 17 := dk_bt hL (bx_t h.1)
  have h1 : DB c (pc + 1) a := dk_bt hL (bx_t h.2.1)
  have h2 : DB c (pc + 1 + 1) b := dk_bt hL (bx_t h.2.2.1)
  have e : Jvm.ClassFile.Decoder.instr pc c pc = .ok (.sipush ix, pc + 1 + 2) := by
    unfold Jvm.ClassFile.Decoder.instr
    refine (dk_bind (dk_u1 h0)).trans ?_
    show ((Jvm.ClassFile.Reader.s2 >>= fun x => pure (.sipush x)) : Jvm.ClassFile.Decoder Jvm.ClassFile.Instr) c (pc + 1) = _
    rw [dk_bind (dk_s2 h1 h2), h.2.2.2]
    rfl
  rw [dk_dec e, show pc + 1 + 2 - pc = 3 by omega]
set_option maxRecDepth 100000 in
theorem dq_164 {b : Nat} {ix : Int} (hL : c.data.toList.map UInt8.toNat = L) (h : (bx L pc 164 && (bx L (pc + 1) a && (bx L (pc + 1 + 1) b && decide (Jvm.ClassFile.Reader.signed 16 (a * 256 + b) = ix)))) = true) : decode c pc = .ok (.if_icmp .le ix, 3) := by
  simp only [Bool.and_eq_true, decide_eq_true_eq] at h
  have h0 : DB c pc 164 := dk_bt hL (bx_t h.1)
  have h1 : DB c (pc + 1) a := dk_bt hL (bx_t h.2.1)
  have h2 : DB c (pc + 1 + 1) b := dk_bt hL (bx_t h.2.2.1)
  have e : Jvm.ClassFile.Decoder.instr pc c pc = .ok (.if_icmp .le ix, pc + 1 + 2) := by
    unfold Jvm.ClassFile.Decoder.instr
    refine (dk_bind (dk_u1 h0)).trans ?_
    show ((Jvm.ClassFile.Reader.s2 >>= fun x => pure (.if_icmp .le x)) : Jvm.ClassFile.Decoder Jvm.ClassFile.Instr) c (pc + 1) = _
    rw [dk_bind (dk_s2 h1 h2), h.2.2.2]
    rfl
  rw [dk_dec e, show pc + 1 + 2 - pc = 3 by omega]
set_option maxRecDepth 100000 in
theorem dq_2 (hL : c.data.toList.map UInt8.toNat = L) (h : bx L pc 2 = true) : decode c pc = .ok (.iconst (-1), 1) := by
  have h0 : DB c pc 2 := dk_bt hL (bx_t h)
  have e : Jvm.ClassFile.Decoder.instr pc c pc = .ok (.iconst (-1), pc + 1) := by
    unfold Jvm.ClassFile.Decoder.instr
    refine (dk_bind (dk_u1 h0)).trans ?_
    rfl
  rw [dk_dec e, show pc + 1 - pc = 1 by omega]
set_option maxRecDepth 100000 in
theorem dq_172 (hL : c.data.toList.map UInt8.toNat = L) (h : bx L pc 172 = true) : decode c pc = .ok (.ireturn, 1) := by
  have h0 : DB c pc 172 := dk_bt hL (bx_t h)
  have e : Jvm.ClassFile.Decoder.instr pc c pc = .ok (.ireturn, pc + 1) := by
    unfold Jvm.ClassFile.Decoder.instr
    refine (dk_bind (dk_u1 h0)).trans ?_
    rfl
  rw [dk_dec e, show pc + 1 - pc = 1 by omega]
set_option maxRecDepth 100000 in
theorem dq_27 (hL : c.data.toList.map UInt8.toNat = L) (h : bx L pc 27 = true) : decode c pc = .ok (.iload_n 1, 1) := by
  have h0 : DB c pc 27 := dk_bt hL (bx_t h)
  have e : Jvm.ClassFile.Decoder.instr pc c pc = .ok (.iload_n 1, pc + 1) := by
    unfold Jvm.ClassFile.Decoder.instr
    refine (dk_bind (dk_u1 h0)).trans ?_
    rfl
  rw [dk_dec e, show pc + 1 - pc = 1 by omega]
set_option maxRecDepth 100000 in
theorem dq_182 {b : Nat} {ix : Nat} (hL : c.data.toList.map UInt8.toNat = L) (h : (bx L pc 182 && (bx L (pc + 1) a && (bx L (pc + 1 + 1) b && decide (a * 256 + b = ix)))) = true) : decode c pc = .ok (.invokevirtual ix, 3) := by
  simp only [Bool.and_eq_true, decide_eq_true_eq] at h
  have h0 : DB c pc 182 := dk_bt hL (bx_t h.1)
  have h1 : DB c (pc + 1) a := dk_bt hL (bx_t h.2.1)
  have h2 : DB c (pc + 1 + 1) b := dk_bt hL (bx_t h.2.2.1)
  have e : Jvm.ClassFile.Decoder.instr pc c pc = .ok (.invokevirtual ix, pc + 1 + 2) := by
    unfold Jvm.ClassFile.Decoder.instr
    refine (dk_bind (dk_u1 h0)).trans ?_
    show ((Jvm.ClassFile.Reader.u2 >>= fun x => pure (.invokevirtual x)) : Jvm.ClassFile.Decoder Jvm.ClassFile.Instr) c (pc + 1) = _
    rw [dk_bind (dk_u2 h1 h2), h.2.2.2]
    rfl
  rw [dk_dec e, show pc + 1 + 2 - pc = 3 by omega]
set_option maxRecDepth 100000 in
theorem dq_28 (hL : c.data.toList.map UInt8.toNat = L) (h : bx L pc 28 = true) : decode c pc = .ok (.iload_n 2, 1) := by
  have h0 : DB c pc 28 := dk_bt hL (bx_t h)
  have e : Jvm.ClassFile.Decoder.instr pc c pc = .ok (.iload_n 2, pc + 1) := by
    unfold Jvm.ClassFile.Decoder.instr
    refine (dk_bind (dk_u1 h0)).trans ?_
    rfl
  rw [dk_dec e, show pc + 1 - pc = 1 by omega]
set_option maxRecDepth 100000 in
theorem dq_29 (hL : c.data.toList.map UInt8.toNat = L) (h : bx L pc 29 = true) : decode c pc = .ok (.iload_n 3, 1) := by
  have h0 : DB c pc 29 := dk_bt hL (bx_t h)
  have e : Jvm.ClassFile.Decoder.instr pc c pc = .ok (.iload_n 3, pc + 1) := by
    unfold Jvm.ClassFile.Decoder.instr
    refine (dk_bind (dk_u1 h0)).trans ?_
    rfl
  rw [dk_dec e, show pc + 1 - pc = 1 by omega]
set_option maxRecDepth 100000 in
theorem dq_21 (hL : c.data.toList.map UInt8.toNat = L) (h : (bx L pc 21 && bx L (pc + 1) a) = true) : decode c pc = .ok (.iload a, 2) := by
  simp only [Bool.and_eq_true] at h
  have h0 : DB c pc 21 := dk_bt hL (bx_t h.1)
  have h1 : DB c (pc + 1) a := dk_bt hL (bx_t h.2)
  have e : Jvm.ClassFile.Decoder.instr pc c pc = .ok (.iload a, pc + 1 + 1) := by
    unfold Jvm.ClassFile.Decoder.instr
    refine (dk_bind (dk_u1 h0)).trans ?_
    show ((Jvm.ClassFile.Reader.u1 >>= fun x => pure (.iload x)) : Jvm.ClassFile.Decoder Jvm.ClassFile.Instr) c (pc + 1) = _
    rw [dk_bind (dk_u1 h1)]
    rfl
  rw [dk_dec e, show pc + 1 + 1 - pc = 2 by omega]
set_option maxRecDepth 100000 in
theorem dq_155 {b : Nat} {ix : Int} (hL : c.data.toList.map UInt8.toNat = L) (h : (bx L pc 155 && (bx L (pc + 1) a && (bx L (pc + 1 + 1) b && decide (Jvm.ClassFile.Reader.signed 16 (a * 256 + b) = ix)))) = true) : decode c pc = .ok (.ifCond .lt ix, 3) := by
  simp only [Bool.and_eq_true, decide_eq_true_eq] at h
  have h0 : DB c pc 155 := dk_bt hL (bx_t h.1)
  have h1 : DB c (pc + 1) a := dk_bt hL (bx_t h.2.1)
  have h2 : DB c (pc + 1 + 1) b := dk_bt hL (bx_t h.2.2.1)
  have e : Jvm.ClassFile.Decoder.instr pc c pc = .ok (.ifCond .lt ix, pc + 1 + 2) := by
    unfold Jvm.ClassFile.Decoder.instr
    refine (dk_bind (dk_u1 h0)).trans ?_
    show ((Jvm.ClassFile.Reader.s2 >>= fun x => pure (.ifCond .lt x)) : Jvm.ClassFile.Decoder Jvm.ClassFile.Instr) c (pc + 1) = _
    rw [dk_bind (dk_s2 h1 h2), h.2.2.2]
    rfl
  rw [dk_dec e, show pc + 1 + 2 - pc = 3 by omega]
set_option maxRecDepth 100000 in
theorem dq_4 (hL : c.data.toList.map UInt8.toNat = L) (h : bx L pc 4 = true) : decode c pc = .ok (.iconst 1, 1) := by
  have h0 : DB c pc 4 := dk_bt hL (bx_t h)
  have e : Jvm.ClassFile.Decoder.instr pc c pc = .ok (.iconst 1, pc + 1) := by
    unfold Jvm.ClassFile.Decoder.instr
    refine (dk_bind (dk_u1 h0)).trans ?_
    rfl
  rw [dk_dec e, show pc + 1 - pc = 1 by omega]
set_option maxRecDepth 100000 in
theorem dq_60 (hL : c.data.toList.map UInt8.toNat = L) (h : bx L pc 60 = true) : decode c pc = .ok (.istore_n 1, 1) := by
  have h0 : DB c pc 60 := dk_bt hL (bx_t h)
  have e : Jvm.ClassFile.Decoder.instr pc c pc = .ok (.istore_n 1, pc + 1) := by
    unfold Jvm.ClassFile.Decoder.instr
    refine (dk_bind (dk_u1 h0)).trans ?_
    rfl
  rw [dk_dec e, show pc + 1 - pc = 1 by omega]
set_option maxRecDepth 100000 in
theorem dq_61 (hL : c.data.toList.map UInt8.toNat = L) (h : bx L pc 61 = true) : decode c pc = .ok (.istore_n 2, 1) := by
  have h0 : DB c pc 61 := dk_bt hL (bx_t h)
  have e : Jvm.ClassFile.Decoder.instr pc c pc = .ok (.istore_n 2, pc + 1) := by
    unfold Jvm.ClassFile.Decoder.instr
    refine (dk_bind (dk_u1 h0)).trans ?_
    rfl
  rw [dk_dec e, show pc + 1 - pc = 1 by omega]
set_option maxRecDepth 100000 in
theorem dq_162 {b : Nat} {ix : Int} (hL : c.data.toList.map UInt8.toNat = L) (h : (bx L pc 162 && (bx L (pc + 1) a && (bx L (pc + 1 + 1) b && decide (Jvm.ClassFile.Reader.signed 16 (a * 256 + b) = ix)))) = true) : decode c pc = .ok (.if_icmp .ge ix, 3) := by
  simp only [Bool.and_eq_true, decide_eq_true_eq] at h
  have h0 : DB c pc 162 := dk_bt hL (bx_t h.1)
  have h1 : DB c (pc + 1) a := dk_bt hL (bx_t h.2.1)
  have h2 : DB c (pc + 1 + 1) b := dk_bt hL (bx_t h.2.2.1)
  have e : Jvm.ClassFile.Decoder.instr pc c pc = .ok (.if_icmp .ge ix, pc + 1 + 2) := by
    unfold Jvm.ClassFile.Decoder.instr
    refine (dk_bind (dk_u1 h0)).trans ?_
    show ((Jvm.ClassFile.Reader.s2 >>= fun x => pure (.if_icmp .ge x)) : Jvm.ClassFile.Decoder Jvm.ClassFile.Instr) c (pc + 1) = _
    rw [dk_bind (dk_s2 h1 h2), h.2.2.2]
    rfl
  rw [dk_dec e, show pc + 1 + 2 - pc = 3 by omega]
set_option maxRecDepth 100000 in
theorem dq_153 {b : Nat} {ix : Int} (hL : c.data.toList.map UInt8.toNat = L) (h : (bx L pc 153 && (bx L (pc + 1) a && (bx L (pc + 1 + 1) b && decide (Jvm.ClassFile.Reader.signed 16 (a * 256 + b) = ix)))) = true) : decode c pc = .ok (.ifCond .eq ix, 3) := by
  simp only [Bool.and_eq_true, decide_eq_true_eq] at h
  have h0 : DB c pc 153 := dk_bt hL (bx_t h.1)
  have h1 : DB c (pc + 1) a := dk_bt hL (bx_t h.2.1)
  have h2 : DB c (pc + 1 + 1) b := dk_bt hL (bx_t h.2.2.1)
  have e : Jvm.ClassFile.Decoder.instr pc c pc = .ok (.ifCond .eq ix, pc + 1 + 2) := by
    unfold Jvm.ClassFile.Decoder.instr
    refine (dk_bind (dk_u1 h0)).trans ?_
    show ((Jvm.ClassFile.Reader.s2 >>= fun x => pure (.ifCond .eq x)) : Jvm.ClassFile.Decoder Jvm.ClassFile.Instr) c (pc + 1) = _
    rw [dk_bind (dk_s2 h1 h2), h.2.2.2]
    rfl
  rw [dk_dec e, show pc + 1 + 2 - pc = 3 by omega]
set_option maxRecDepth 100000 in
theorem dq_132 {b : Nat} {ix : Int} (hL : c.data.toList.map UInt8.toNat = L) (h : (bx L pc 132 && (bx L (pc + 1) a && (bx L (pc + 1 + 1) b && decide (Jvm.ClassFile.Reader.signed 8 b = ix)))) = true) : decode c pc = .ok (.iinc a ix, 3) := by
  simp only [Bool.and_eq_true, decide_eq_true_eq] at h
  have h0 : DB c pc 132 := dk_bt hL (bx_t h.1)
  have h1 : DB c (pc + 1) a := dk_bt hL (bx_t h.2.1)
  have h2 : DB c (pc + 1 + 1) b := dk_bt hL (bx_t h.2.2.1)
  have e : Jvm.ClassFile.Decoder.instr pc c pc = .ok (.iinc a ix, pc + 1 + 1 + 1) := by
    unfold Jvm.ClassFile.Decoder.instr
    refine (dk_bind (dk_u1 h0)).trans ?_
    show ((Jvm.ClassFile.Reader.u1 >>= fun x => (Jvm.ClassFile.Reader.s1 >>= fun y => pure (.iinc x y))) : Jvm.ClassFile.Decoder Jvm.ClassFile.Instr) c (pc + 1) = _
    rw [dk_bind (dk_u1 h1), dk_bind (dk_s1 h2), h.2.2.2]
    rfl
  rw [dk_dec e, show pc + 1 + 1 + 1 - pc = 3 by omega]
set_option maxRecDepth 100000 in
theorem dq_167 {b : Nat} {ix : Int} (hL : c.data.toList.map UInt8.toNat = L) (h : (bx L pc 167 && (bx L (pc + 1) a && (bx L (pc + 1 + 1) b && decide (Jvm.ClassFile.Reader.signed 16 (a * 256 + b) = ix)))) = true) : decode c pc = .ok (.goto ix, 3) := by
  simp only [Bool.and_eq_true, decide_eq_true_eq] at h
  have h0 : DB c pc 167 := dk_bt hL (bx_t h.1)
  have h1 : DB c (pc + 1) a := dk_bt hL (bx_t h.2.1)
  have h2 : DB c (pc + 1 + 1) b := dk_bt hL (bx_t h.2.2.1)
  have e : Jvm.ClassFile.Decoder.instr pc c pc = .ok (.goto ix, pc + 1 + 2) := by
    unfold Jvm.ClassFile.Decoder.instr
    refine (dk_bind (dk_u1 h0)).trans ?_
    show ((Jvm.ClassFile.Reader.s2 >>= fun x => pure (.goto x)) : Jvm.ClassFile.Decoder Jvm.ClassFile.Instr) c (pc + 1) = _
    rw [dk_bind (dk_s2 h1 h2), h.2.2.2]
    rfl
  rw [dk_dec e, show pc + 1 + 2 - pc = 3 by omega]
set_option maxRecDepth 100000 in
theorem dq_5 (hL : c.data.toList.map UInt8.toNat = L) (h : bx L pc 5 = true) : decode c pc = .ok (.iconst 2, 1) := by
  have h0 : DB c pc 5 := dk_bt hL (bx_t h)
  have e : Jvm.ClassFile.Decoder.instr pc c pc = .ok (.iconst 2, pc + 1) := by
    unfold Jvm.ClassFile.Decoder.instr
    refine (dk_bind (dk_u1 h0)).trans ?_
    rfl
  rw [dk_dec e, show pc + 1 - pc = 1 by omega]
set_option maxRecDepth 100000 in
theorem dq_184 {b : Nat} {ix : Nat} (hL : c.data.toList.map UInt8.toNat = L) (h : (bx L pc 184 && (bx L (pc + 1) a && (bx L (pc + 1 + 1) b && decide (a * 256 + b = ix)))) = true) : decode c pc = .ok (.invokestatic ix, 3) := by
  simp only [Bool.and_eq_true, decide_eq_true_eq] at h
  have h0 : DB c pc 184 := dk_bt hL (bx_t h.1)
  have h1 : DB c (pc + 1) a := dk_bt hL (bx_t h.2.1)
  have h2 : DB c (pc + 1 + 1) b := dk_bt hL (bx_t h.2.2.1)
  have e : Jvm.ClassFile.Decoder.instr pc c pc = .ok (.invokestatic ix, pc + 1 + 2) := by
    unfold Jvm.ClassFile.Decoder.instr
    refine (dk_bind (dk_u1 h0)).trans ?_
    show ((Jvm.ClassFile.Reader.u2 >>= fun x => pure (.invokestatic x)) : Jvm.ClassFile.Decoder Jvm.ClassFile.Instr) c (pc + 1) = _
    rw [dk_bind (dk_u2 h1 h2), h.2.2.2]
    rfl
  rw [dk_dec e, show pc + 1 + 2 - pc = 3 by omega]
set_option maxRecDepth 100000 in
theorem dq_78 (hL : c.data.toList.map UInt8.toNat = L) (h : bx L pc 78 = true) : decode c pc = .ok (.astore_n 3, 1) := by
  have h0 : DB c pc 78 := dk_bt hL (bx_t h)
  have e : Jvm.ClassFile.Decoder.instr pc c pc = .ok (.astore_n 3, pc + 1) := by
    unfold Jvm.ClassFile.Decoder.instr
    refine (dk_bind (dk_u1 h0)).trans ?_
    rfl
  rw [dk_dec e, show pc + 1 - pc = 1 by omega]
set_option maxRecDepth 100000 in
theorem dq_45 (hL : c.data.toList.map UInt8.toNat = L) (h : bx L pc 45 = true) : decode c pc = .ok (.aload_n 3, 1) := by
  have h0 : DB c pc 45 := dk_bt hL (bx_t h)
  have e : Jvm.ClassFile.Decoder.instr pc c pc = .ok (.aload_n 3, pc + 1) := by
    unfold Jvm.ClassFile.Decoder.instr
    refine (dk_bind (dk_u1 h0)).trans ?_
    rfl
  rw [dk_dec e, show pc + 1 - pc = 1 by omega]
set_option maxRecDepth 100000 in
theorem dq_8 (hL : c.data.toList.map UInt8.toNat = L) (h : bx L pc 8 = true) : decode c pc = .ok (.iconst 5, 1) := by
  have h0 : DB c pc 8 := dk_bt hL (bx_t h)
  have e : Jvm.ClassFile.Decoder.instr pc c pc = .ok (.iconst 5, pc + 1) := by
    unfold Jvm.ClassFile.Decoder.instr
    refine (dk_bind (dk_u1 h0)).trans ?_
    rfl
  rw [dk_dec e, show pc + 1 - pc = 1 by omega]
set_option maxRecDepth 100000 in
theorem dq_161 {b : Nat} {ix : Int} (hL : c.data.toList.map UInt8.toNat = L) (h : (bx L pc 161 && (bx L (pc + 1) a && (bx L (pc + 1 + 1) b && decide (Jvm.ClassFile.Reader.signed 16 (a * 256 + b) = ix)))) = true) : decode c pc = .ok (.if_icmp .lt ix, 3) := by
  simp only [Bool.and_eq_true, decide_eq_true_eq] at h
  have h0 : DB c pc 161 := dk_bt hL (bx_t h.1)
  have h1 : DB c (pc + 1) a := dk_bt hL (bx_t h.2.1)
  have h2 : DB c (pc + 1 + 1) b := dk_bt hL (bx_t h.2.2.1)
  have e : Jvm.ClassFile.Decoder.instr pc c pc = .ok (.if_icmp .lt ix, pc + 1 + 2) := by
    unfold Jvm.ClassFile.Decoder.instr
    refine (dk_bind (dk_u1 h0)).trans ?_
    show ((Jvm.ClassFile.Reader.s2 >>= fun x => pure (.if_icmp .lt x)) : Jvm.ClassFile.Decoder Jvm.ClassFile.Instr) c (pc + 1) = _
    rw [dk_bind (dk_s2 h1 h2), h.2.2.2]
    rfl
  rw [dk_dec e, show pc + 1 + 2 - pc = 3 by omega]
set_option maxRecDepth 100000 in
theorem dq_46 (hL : c.data.toList.map UInt8.toNat = L) (h : bx L pc 46 = true) : decode c pc = .ok (.iaload, 1) := by
  have h0 : DB c pc 46 := dk_bt hL (bx_t h)
  have e : Jvm.ClassFile.Decoder.instr pc c pc = .ok (.iaload, pc + 1) := by
    unfold Jvm.ClassFile.Decoder.instr
    refine (dk_bind (dk_u1 h0)).trans ?_
    rfl
  rw [dk_dec e, show pc + 1 - pc = 1 by omega]
set_option maxRecDepth 100000 in
theorem dq_77 (hL : c.data.toList.map UInt8.toNat = L) (h : bx L pc 77 = true) : decode c pc = .ok (.astore_n 2, 1) := by
  have h0 : DB c pc 77 := dk_bt hL (bx_t h)
  have e : Jvm.ClassFile.Decoder.instr pc c pc = .ok (.astore_n 2, pc + 1) := by
    unfold Jvm.ClassFile.Decoder.instr
    refine (dk_bind (dk_u1 h0)).trans ?_
    rfl
  rw [dk_dec e, show pc + 1 - pc = 1 by omega]
set_option maxRecDepth 100000 in
theorem dq_44 (hL : c.data.toList.map UInt8.toNat = L) (h : bx L pc 44 = true) : decode c pc = .ok (.aload_n 2, 1) := by
  have h0 : DB c pc 44 := dk_bt hL (bx_t h)
  have e : Jvm.ClassFile.Decoder.instr pc c pc = .ok (.aload_n 2, pc + 1) := by
    unfold Jvm.ClassFile.Decoder.instr
    refine (dk_bind (dk_u1 h0)).trans ?_
    rfl
  rw [dk_dec e, show pc + 1 - pc = 1 by omega]
set_option maxRecDepth 100000 in
theorem dq_159 {b : Nat} {ix : Int} (hL : c.data.toList.map UInt8.toNat = L) (h : (bx L pc 159 && (bx L (pc + 1) a && (bx L (pc + 1 + 1) b && decide (Jvm.ClassFile.Reader.signed 16 (a * 256 + b) = ix)))) = true) : decode c pc = .ok (.if_icmp .eq ix, 3) := by
  simp only [Bool.and_eq_true, decide_eq_true_eq] at h
  have h0 : DB c pc 159 := dk_bt hL (bx_t h.1)
  have h1 : DB c (pc + 1) a := dk_bt hL (bx_t h.2.1)
  have h2 : DB c (pc + 1 + 1) b := dk_bt hL (bx_t h.2.2.1)
  have e : Jvm.ClassFile.Decoder.instr pc c pc = .ok (.if_icmp .eq ix, pc + 1 + 2) := by
    unfold Jvm.ClassFile.Decoder.instr
    refine (dk_bind (dk_u1 h0)).trans ?_
    show ((Jvm.ClassFile.Reader.s2 >>= fun x => pure (.if_icmp .eq x)) : Jvm.ClassFile.Decoder Jvm.ClassFile.Instr) c (pc + 1) = _
    rw [dk_bind (dk_s2 h1 h2), h.2.2.2]
    rfl
  rw [dk_dec e, show pc + 1 + 2 - pc = 3 by omega]
set_option maxRecDepth 100000 in
theorem dq_1 (hL : c.data.toList.map UInt8.toNat = L) (h : bx L pc 1 = true) : decode c pc = .ok (.aconst_null, 1) := by
  have h0 : DB c pc 1 := dk_bt hL (bx_t h)
  have e : Jvm.ClassFile.Decoder.instr pc c pc = .ok (.aconst_null, pc + 1) := by
    unfold Jvm.ClassFile.Decoder.instr
    refine (dk_bind (dk_u1 h0)).trans ?_
    rfl
  rw [dk_dec e, show pc + 1 - pc = 1 by omega]
set_option maxRecDepth 100000 in
theorem dq_62 (hL : c.data.toList.map UInt8.toNat = L) (h : bx L pc 62 = true) : decode c pc = .ok (.istore_n 3, 1) := by
  have h0 : DB c pc 62 := dk_bt hL (bx_t h)
  have e : Jvm.ClassFile.Decoder.instr pc c pc = .ok (.istore_n 3, pc + 1) := by
    unfold Jvm.ClassFile.Decoder.instr
    refine (dk_bind (dk_u1 h0)).trans ?_
    rfl
  rw [dk_dec e, show pc + 1 - pc = 1 by omega]
set_option maxRecDepth 100000 in
theorem dq_198 {b : Nat} {ix : Int} (hL : c.data.toList.map UInt8.toNat = L) (h : (bx L pc 198 && (bx L (pc + 1) a && (bx L (pc + 1 + 1) b && decide (Jvm.ClassFile.Reader.signed 16 (a * 256 + b) = ix)))) = true) : decode c pc = .ok (.ifnull ix, 3) := by
  simp only [Bool.and_eq_true, decide_eq_true_eq] at h
  have h0 : DB c pc 198 := dk_bt hL (bx_t h.1)
  have h1 : DB c (pc + 1) a := dk_bt hL (bx_t h.2.1)
  have h2 : DB c (pc + 1 + 1) b := dk_bt hL (bx_t h.2.2.1)
  have e : Jvm.ClassFile.Decoder.instr pc c pc = .ok (.ifnull ix, pc + 1 + 2) := by
    unfold Jvm.ClassFile.Decoder.instr
    refine (dk_bind (dk_u1 h0)).trans ?_
    show ((Jvm.ClassFile.Reader.s2 >>= fun x => pure (.ifnull x)) : Jvm.ClassFile.Decoder Jvm.ClassFile.Instr) c (pc + 1) = _
    rw [dk_bind (dk_s2 h1 h2), h.2.2.2]
    rfl
  rw [dk_dec e, show pc + 1 + 2 - pc = 3 by omega]
set_option maxRecDepth 100000 in
theorem dq_199 {b : Nat} {ix : Int} (hL : c.data.toList.map UInt8.toNat = L) (h : (bx L pc 199 && (bx L (pc + 1) a && (bx L (pc + 1 + 1) b && decide (Jvm.ClassFile.Reader.signed 16 (a * 256 + b) = ix)))) = true) : decode c pc = .ok (.ifnonnull ix, 3) := by
  simp only [Bool.and_eq_true, decide_eq_true_eq] at h
  have h0 : DB c pc 199 := dk_bt hL (bx_t h.1)
  have h1 : DB c (pc + 1) a := dk_bt hL (bx_t h.2.1)
  have h2 : DB c (pc + 1 + 1) b := dk_bt hL (bx_t h.2.2.1)
  have e : Jvm.ClassFile.Decoder.instr pc c pc = .ok (.ifnonnull ix, pc + 1 + 2) := by
    unfold Jvm.ClassFile.Decoder.instr
    refine (dk_bind (dk_u1 h0)).trans ?_
    show ((Jvm.ClassFile.Reader.s2 >>= fun x => pure (.ifnonnull x)) : Jvm.ClassFile.Decoder Jvm.ClassFile.Instr) c (pc + 1) = _
    rw [dk_bind (dk_s2 h1 h2), h.2.2.2]
    rfl
  rw [dk_dec e, show pc + 1 + 2 - pc = 3 by omega]
set_option maxRecDepth 100000 in
theorem dq_190 (hL : c.data.toList.map UInt8.toNat = L) (h : bx L pc 190 = true) : decode c pc = .ok (.arraylength, 1) := by
  have h0 : DB c pc 190 := dk_bt hL (bx_t h)
  have e : Jvm.ClassFile.Decoder.instr pc c pc = .ok (.arraylength, pc + 1) := by
    unfold Jvm.ClassFile.Decoder.instr
    refine (dk_bind (dk_u1 h0)).trans ?_
    rfl
  rw [dk_dec e, show pc + 1 - pc = 1 by omega]
set_option maxRecDepth 100000 in
theorem dq_54 (hL : c.data.toList.map UInt8.toNat = L) (h : (bx L pc 54 && bx L (pc + 1) a) = true) : decode c pc = .ok (.istore a, 2) := by
  simp only [Bool.and_eq_true] at h
  have h0 : DB c pc 54 := dk_bt hL (bx_t h.1)
  have h1 : DB c (pc + 1) a := dk_bt hL (bx_t h.2)
  have e : Jvm.ClassFile.Decoder.instr pc c pc = .ok (.istore a, pc + 1 + 1) := by
    unfold Jvm.ClassFile.Decoder.instr
    refine (dk_bind (dk_u1 h0)).trans ?_
    show ((Jvm.ClassFile.Reader.u1 >>= fun x => pure (.istore x)) : Jvm.ClassFile.Decoder Jvm.ClassFile.Instr) c (pc + 1) = _
    rw [dk_bind (dk_u1 h1)]
    rfl
  rw [dk_dec e, show pc + 1 + 1 - pc = 2 by omega]
set_option maxRecDepth 100000 in
theorem dq_50 (hL : c.data.toList.map UInt8.toNat = L) (h : bx L pc 50 = true) : decode c pc = .ok (.aaload, 1) := by
  have h0 : DB c pc 50 := dk_bt hL (bx_t h)
  have e : Jvm.ClassFile.Decoder.instr pc c pc = .ok (.aaload, pc + 1) := by
    unfold Jvm.ClassFile.Decoder.instr
    refine (dk_bind (dk_u1 h0)).trans ?_
    rfl
  rw [dk_dec e, show pc + 1 - pc = 1 by omega]
set_option maxRecDepth 100000 in
theorem dq_160 {b : Nat} {ix : Int} (hL : c.data.toList.map UInt8.toNat = L) (h : (bx L pc 160 && (bx L (pc + 1) a && (bx L (pc + 1 + 1) b && decide (Jvm.ClassFile.Reader.signed 16 (a * 256 + b) = ix)))) = true) : decode c pc = .ok (.if_icmp .ne ix, 3) := by
  simp only [Bool.and_eq_true, decide_eq_true_eq] at h
  have h0 : DB c pc 160 := dk_bt hL (bx_t h.1)
  have h1 : DB c (pc + 1) a := dk_bt hL (bx_t h.2.1)
  have h2 : DB c (pc + 1 + 1) b := dk_bt hL (bx_t h.2.2.1)
  have e : Jvm.ClassFile.Decoder.instr pc c pc = .ok (.if_icmp .ne ix, pc + 1 + 2) := by
    unfold Jvm.ClassFile.Decoder.instr
    refine (dk_bind (dk_u1 h0)).trans ?_
    show ((Jvm.ClassFile.Reader.s2 >>= fun x => pure (.if_icmp .ne x)) : Jvm.ClassFile.Decoder Jvm.ClassFile.Instr) c (pc + 1) = _
    rw [dk_bind (dk_s2 h1 h2), h.2.2.2]
    rfl
  rw [dk_dec e, show pc + 1 + 2 - pc = 3 by omega]
set_option maxRecDepth 100000 in
theorem dq_158 {b : Nat} {ix : Int} (hL : c.data.toList.map UInt8.toNat = L) (h : (bx L pc 158 && (bx L (pc + 1) a && (bx L (pc + 1 + 1) b && decide (Jvm.ClassFile.Reader.signed 16 (a * 256 + b) = ix)))) = true) : decode c pc = .ok (.ifCond .le ix, 3) := by
  simp only [Bool.and_eq_true, decide_eq_true_eq] at h
  have h0 : DB c pc 158 := dk_bt hL (bx_t h.1)
  have h1 : DB c (pc + 1) a := dk_bt hL (bx_t h.2.1)
  have h2 : DB c (pc + 1 + 1) b := dk_bt hL (bx_t h.2.2.1)
  have e : Jvm.ClassFile.Decoder.instr pc c pc = .ok (.ifCond .le ix, pc + 1 + 2) := by
    unfold Jvm.ClassFile.Decoder.instr
    refine (dk_bind (dk_u1 h0)).trans ?_
    show ((Jvm.ClassFile.Reader.s2 >>= fun x => pure (.ifCond .le x)) : Jvm.ClassFile.Decoder Jvm.ClassFile.Instr) c (pc + 1) = _
    rw [dk_bind (dk_s2 h1 h2), h.2.2.2]
    rfl
  rw [dk_dec e, show pc + 1 + 2 - pc = 3 by omega]
set_option maxRecDepth 100000 in
theorem dq_104 (hL : c.data.toList.map UInt8.toNat = L) (h : bx L pc 104 = true) : decode c pc = .ok (.imul, 1) := by
  have h0 : DB c pc 104 := dk_bt hL (bx_t h)
  have e : Jvm.ClassFile.Decoder.instr pc c pc = .ok (.imul, pc + 1) := by
    unfold Jvm.ClassFile.Decoder.instr
    refine (dk_bind (dk_u1 h0)).trans ?_
    rfl
  rw [dk_dec e, show pc + 1 - pc = 1 by omega]
set_option maxRecDepth 100000 in
theorem dq_120 (hL : c.data.toList.map UInt8.toNat = L) (h : bx L pc 120 = true) : decode c pc = .ok (.ishl, 1) := by
  have h0 : DB c pc 120 := dk_bt hL (bx_t h)
  have e : Jvm.ClassFile.Decoder.instr pc c pc = .ok (.ishl, pc + 1) := by
    unfold Jvm.ClassFile.Decoder.instr
    refine (dk_bind (dk_u1 h0)).trans ?_
    rfl
  rw [dk_dec e, show pc + 1 - pc = 1 by omega]
set_option maxRecDepth 100000 in
theorem dq_128 (hL : c.data.toList.map UInt8.toNat = L) (h : bx L pc 128 = true) : decode c pc = .ok (.ior, 1) := by
  have h0 : DB c pc 128 := dk_bt hL (bx_t h)
  have e : Jvm.ClassFile.Decoder.instr pc c pc = .ok (.ior, pc + 1) := by
    unfold Jvm.ClassFile.Decoder.instr
    refine (dk_bind (dk_u1 h0)).trans ?_
    rfl
  rw [dk_dec e, show pc + 1 - pc = 1 by omega]
set_option maxRecDepth 100000 in
theorem dq_130 (hL : c.data.toList.map UInt8.toNat = L) (h : bx L pc 130 = true) : decode c pc = .ok (.ixor, 1) := by
  have h0 : DB c pc 130 := dk_bt hL (bx_t h)
  have e : Jvm.ClassFile.Decoder.instr pc c pc = .ok (.ixor, pc + 1) := by
    unfold Jvm.ClassFile.Decoder.instr
    refine (dk_bind (dk_u1 h0)).trans ?_
    rfl
  rw [dk_dec e, show pc + 1 - pc = 1 by omega]
set_option maxRecDepth 100000 in
theorem dq_126 (hL : c.data.toList.map UInt8.toNat = L) (h : bx L pc 126 = true) : decode c pc = .ok (.iand, 1) := by
  have h0 : DB c pc 126 := dk_bt hL (bx_t h)
  have e : Jvm.ClassFile.Decoder.instr pc c pc = .ok (.iand, pc + 1) := by
    unfold Jvm.ClassFile.Decoder.instr
    refine (dk_bind (dk_u1 h0)).trans ?_
    rfl
  rw [dk_dec e, show pc + 1 - pc = 1 by omega]
set_option maxRecDepth 100000 in
theorem dq_165 {b : Nat} {ix : Int} (hL : c.data.toList.map UInt8.toNat = L) (h : (bx L pc 165 && (bx L (pc + 1) a && (bx L (pc + 1 + 1) b && decide (Jvm.ClassFile.Reader.signed 16 (a * 256 + b) = ix)))) = true) : decode c pc = .ok (.if_acmp .eq ix, 3) := by
  simp only [Bool.and_eq_true, decide_eq_true_eq] at h
  have h0 : DB c pc 165 := dk_bt hL (bx_t h.1)
  have h1 : DB c (pc + 1) a := dk_bt hL (bx_t h.2.1)
  have h2 : DB c (pc + 1 + 1) b := dk_bt hL (bx_t h.2.2.1)
  have e : Jvm.ClassFile.Decoder.instr pc c pc = .ok (.if_acmp .eq ix, pc + 1 + 2) := by
    unfold Jvm.ClassFile.Decoder.instr
    refine (dk_bind (dk_u1 h0)).trans ?_
    show ((Jvm.ClassFile.Reader.s2 >>= fun x => pure (.if_acmp .eq x)) : Jvm.ClassFile.Decoder Jvm.ClassFile.Instr) c (pc + 1) = _
    rw [dk_bind (dk_s2 h1 h2), h.2.2.2]
    rfl
  rw [dk_dec e, show pc + 1 + 2 - pc = 3 by omega]
set_option maxRecDepth 100000 in
theorem dq_154 {b : Nat} {ix : Int} (hL : c.data.toList.map UInt8.toNat = L) (h : (bx L pc 154 && (bx L (pc + 1) a && (bx L (pc + 1 + 1) b && decide (Jvm.ClassFile.Reader.signed 16 (a * 256 + b) = ix)))) = true) : decode c pc = .ok (.ifCond .ne ix, 3) := by
  simp only [Bool.and_eq_true, decide_eq_true_eq] at h
  have h0 : DB c pc 154 := dk_bt hL (bx_t h.1)
  have h1 : DB c (pc + 1) a := dk_bt hL (bx_t h.2.1)
  have h2 : DB c (pc + 1 + 1) b := dk_bt hL (bx_t h.2.2.1)
  have e : Jvm.ClassFile.Decoder.instr pc c pc = .ok (.ifCond .ne ix, pc + 1 + 2) := by
    unfold Jvm.ClassFile.Decoder.instr
    refine (dk_bind (dk_u1 h0)).trans ?_
    show ((Jvm.ClassFile.Reader.s2 >>= fun x => pure (.ifCond .ne x)) : Jvm.ClassFile.Decoder Jvm.ClassFile.Instr) c (pc + 1) = _
    rw [dk_bind (dk_s2 h1 h2), h.2.2.2]
    rfl
  rw [dk_dec e, show pc + 1 + 2 - pc = 3 by omega]
set_option maxRecDepth 100000 in
theorem dq_166 {b : Nat} {ix : Int} (hL : c.data.toList.map UInt8.toNat = L) (h : (bx L pc 166 && (bx L (pc + 1) a && (bx L (pc + 1 + 1) b && decide (Jvm.ClassFile.Reader.signed 16 (a * 256 + b) = ix)))) = true) : decode c pc = .ok (.if_acmp .ne ix, 3) := by
  simp only [Bool.and_eq_true, decide_eq_true_eq] at h
  have h0 : DB c pc 166 := dk_bt hL (bx_t h.1)
  have h1 : DB c (pc + 1) a := dk_bt hL (bx_t h.2.1)
  have h2 : DB c (pc + 1 + 1) b := dk_bt hL (bx_t h.2.2.1)
  have e : Jvm.ClassFile.Decoder.instr pc c pc = .ok (.if_acmp .ne ix, pc + 1 + 2) := by
    unfold Jvm.ClassFile.Decoder.instr
    refine (dk_bind (dk_u1 h0)).trans ?_
    show ((Jvm.ClassFile.Reader.s2 >>= fun x => pure (.if_acmp .ne x)) : Jvm.ClassFile.Decoder Jvm.ClassFile.Instr) c (pc + 1) = _
    rw [dk_bind (dk_s2 h1 h2), h.2.2.2]
    rfl
  rw [dk_dec e, show pc + 1 + 2 - pc = 3 by omega]
set_option maxRecDepth 100000 in
theorem dq_87 (hL : c.data.toList.map UInt8.toNat = L) (h : bx L pc 87 = true) : decode c pc = .ok (.pop, 1) := by
  have h0 : DB c pc 87 := dk_bt hL (bx_t h)
  have e : Jvm.ClassFile.Decoder.instr pc c pc = .ok (.pop, pc + 1) := by
    unfold Jvm.ClassFile.Decoder.instr
    refine (dk_bind (dk_u1 h0)).trans ?_
    rfl
  rw [dk_dec e, show pc + 1 - pc = 1 by omega]
set_option maxRecDepth 100000 in
theorem dq_100 (hL : c.data.toList.map UInt8.toNat = L) (h : bx L pc 100 = true) : decode c pc = .ok (.isub, 1) := by
  have h0 : DB c pc 100 := dk_bt hL (bx_t h)
  have e : Jvm.ClassFile.Decoder.instr pc c pc = .ok (.isub, pc + 1) := by
    unfold Jvm.ClassFile.Decoder.instr
    refine (dk_bind (dk_u1 h0)).trans ?_
    rfl
  rw [dk_dec e, show pc + 1 - pc = 1 by omega]
set_option maxRecDepth 100000 in
theorem dq_135 (hL : c.data.toList.map UInt8.toNat = L) (h : bx L pc 135 = true) : decode c pc = .ok (.i2d, 1) := by
  have h0 : DB c pc 135 := dk_bt hL (bx_t h)
  have e : Jvm.ClassFile.Decoder.instr pc c pc = .ok (.i2d, pc + 1) := by
    unfold Jvm.ClassFile.Decoder.instr
    refine (dk_bind (dk_u1 h0)).trans ?_
    rfl
  rw [dk_dec e, show pc + 1 - pc = 1 by omega]
set_option maxRecDepth 100000 in
theorem dq_175 (hL : c.data.toList.map UInt8.toNat = L) (h : bx L pc 175 = true) : decode c pc = .ok (.dreturn, 1) := by
  have h0 : DB c pc 175 := dk_bt hL (bx_t h)
  have e : Jvm.ClassFile.Decoder.instr pc c pc = .ok (.dreturn, pc + 1) := by
    unfold Jvm.ClassFile.Decoder.instr
    refine (dk_bind (dk_u1 h0)).trans ?_
    rfl
  rw [dk_dec e, show pc + 1 - pc = 1 by omega]
set_option maxRecDepth 100000 in
theorem dq_134 (hL : c.data.toList.map UInt8.toNat = L) (h : bx L pc 134 = true) : decode c pc = .ok (.i2f, 1) := by
  have h0 : DB c pc 134 := dk_bt hL (bx_t h)
  have e : Jvm.ClassFile.Decoder.instr pc c pc = .ok (.i2f, pc + 1) := by
    unfold Jvm.ClassFile.Decoder.instr
    refine (dk_bind (dk_u1 h0)).trans ?_
    rfl
  rw [dk_dec e, show pc + 1 - pc = 1 by omega]
set_option maxRecDepth 100000 in
theorem dq_174 (hL : c.data.toList.map UInt8.toNat = L) (h : bx L pc 174 = true) : decode c pc = .ok (.freturn, 1) := by
  have h0 : DB c pc 174 := dk_bt hL (bx_t h)
  have e : Jvm.ClassFile.Decoder.instr pc c pc = .ok (.freturn, pc + 1) := by
    unfold Jvm.ClassFile.Decoder.instr
    refine (dk_bind (dk_u1 h0)).trans ?_
    rfl
  rw [dk_dec e, show pc + 1 - pc = 1 by omega]
set_option maxRecDepth 100000 in
theorem dq_7 (hL : c.data.toList.map UInt8.toNat = L) (h : bx L pc 7 = true) : decode c pc = .ok (.iconst 4, 1) := by
  have h0 : DB c pc 7 := dk_bt hL (bx_t h)
  have e : Jvm.ClassFile.Decoder.instr pc c pc = .ok (.iconst 4, pc + 1) := by
    unfold Jvm.ClassFile.Decoder.instr
    refine (dk_bind (dk_u1 h0)).trans ?_
    rfl
  rw [dk_dec e, show pc + 1 - pc = 1 by omega]
set_option maxRecDepth 100000 in
theorem dq_51 (hL : c.data.toList.map UInt8.toNat = L) (h : bx L pc 51 = true) : decode c pc = .ok (.baload, 1) := by
  have h0 : DB c pc 51 := dk_bt hL (bx_t h)
  have e : Jvm.ClassFile.Decoder.instr pc c pc = .ok (.baload, pc + 1) := by
    unfold Jvm.ClassFile.Decoder.instr
    refine (dk_bind (dk_u1 h0)).trans ?_
    rfl
  rw [dk_dec e, show pc + 1 - pc = 1 by omega]
set_option maxRecDepth 100000 in
theorem dq_176 (hL : c.data.toList.map UInt8.toNat = L) (h : bx L pc 176 = true) : decode c pc = .ok (.areturn, 1) := by
  have h0 : DB c pc 176 := dk_bt hL (bx_t h)
  have e : Jvm.ClassFile.Decoder.instr pc c pc = .ok (.areturn, pc + 1) := by
    unfold Jvm.ClassFile.Decoder.instr
    refine (dk_bind (dk_u1 h0)).trans ?_
    rfl
  rw [dk_dec e, show pc + 1 - pc = 1 by omega]
set_option maxRecDepth 100000 in
theorem dq_26 (hL : c.data.toList.map UInt8.toNat = L) (h : bx L pc 26 = true) : decode c pc = .ok (.iload_n 0, 1) := by
  have h0 : DB c pc 26 := dk_bt hL (bx_t h)
  have e : Jvm.ClassFile.Decoder.instr pc c pc = .ok (.iload_n 0, pc + 1) := by
    unfold Jvm.ClassFile.Decoder.instr
    refine (dk_bind (dk_u1 h0)).trans ?_
    rfl
  rw [dk_dec e, show pc + 1 - pc = 1 by omega]
set_option maxRecDepth 100000 in
theorem dq_43 (hL : c.data.toList.map UInt8.toNat = L) (h : bx L pc 43 = true) : decode c pc = .ok (.aload_n 1, 1) := by
  have h0 : DB c pc 43 := dk_bt hL (bx_t h)
  have e : Jvm.ClassFile.Decoder.instr pc c pc = .ok (.aload_n 1, pc + 1) := by
    unfold Jvm.ClassFile.Decoder.instr
    refine (dk_bind (dk_u1 h0)).trans ?_
    rfl
  rw [dk_dec e, show pc + 1 - pc = 1 by omega]
set_option maxRecDepth 100000 in
theorem dq_163 {b : Nat} {ix : Int} (hL : c.data.toList.map UInt8.toNat = L) (h : (bx L pc 163 && (bx L (pc + 1) a && (bx L (pc + 1 + 1) b && decide (Jvm.ClassFile.Reader.signed 16 (a * 256 + b) = ix)))) = true) : decode c pc = .ok (.if_icmp .gt ix, 3) := by
  simp only [Bool.and_eq_true, decide_eq_true_eq] at h
  have h0 : DB c pc 163 := dk_bt hL (bx_t h.1)
  have h1 : DB c (pc + 1) a := dk_bt hL (bx_t h.2.1)
  have h2 : DB c (pc + 1 + 1) b := dk_bt hL (bx_t h.2.2.1)
  have e : Jvm.ClassFile.Decoder.instr pc c pc = .ok (.if_icmp .gt ix, pc + 1 + 2) := by
    unfold Jvm.ClassFile.Decoder.instr
    refine (dk_bind (dk_u1 h0)).trans ?_
    show ((Jvm.ClassFile.Reader.s2 >>= fun x => pure (.if_icmp .gt x)) : Jvm.ClassFile.Decoder Jvm.ClassFile.Instr) c (pc + 1) = _
    rw [dk_bind (dk_s2 h1 h2), h.2.2.2]
    rfl
  rw [dk_dec e, show pc + 1 + 2 - pc = 3 by omega]
set_option maxRecDepth 100000 in
theorem dq_79 (hL : c.data.toList.map UInt8.toNat = L) (h : bx L pc 79 = true) : decode c pc = .ok (.iastore, 1) := by
  have h0 : DB c pc 79 := dk_bt hL (bx_t h)
  have e : Jvm.ClassFile.Decoder.instr pc c pc = .ok (.iastore, pc + 1) := by
    unfold Jvm.ClassFile.Decoder.instr
    refine (dk_bind (dk_u1 h0)).trans ?_
    rfl
  rw [dk_dec e, show pc + 1 - pc = 1 by omega]
set_option maxRecDepth 100000 in
theorem dq_6 (hL : c.data.toList.map UInt8.toNat = L) (h : bx L pc 6 = true) : decode c pc = .ok (.iconst 3, 1) := by
  have h0 : DB c pc 6 := dk_bt hL (bx_t h)
  have e : Jvm.ClassFile.Decoder.instr pc c pc = .ok (.iconst 3, pc + 1) := by
    unfold Jvm.ClassFile.Decoder.instr
    refine (dk_bind (dk_u1 h0)).trans ?_
    rfl
  rw [dk_dec e, show pc + 1 - pc = 1 by omega]
set_option maxRecDepth 100000 in
theorem dq_92 (hL : c.data.toList.map UInt8.toNat = L) (h : bx L pc 92 = true) : decode c pc = .ok (.dup2, 1) := by
  have h0 : DB c pc 92 := dk_bt hL (bx_t h)
  have e : Jvm.ClassFile.Decoder.instr pc c pc = .ok (.dup2, pc + 1) := by
    unfold Jvm.ClassFile.Decoder.instr
    refine (dk_bind (dk_u1 h0)).trans ?_
    rfl
  rw [dk_dec e, show pc + 1 - pc = 1 by omega]
set_option maxRecDepth 100000 in
theorem dq_122 (hL : c.data.toList.map UInt8.toNat = L) (h : bx L pc 122 = true) : decode c pc = .ok (.ishr, 1) := by
  have h0 : DB c pc 122 := dk_bt hL (bx_t h)
  have e : Jvm.ClassFile.Decoder.instr pc c pc = .ok (.ishr, pc + 1) := by
    unfold Jvm.ClassFile.Decoder.instr
    refine (dk_bind (dk_u1 h0)).trans ?_
    rfl
  rw [dk_dec e, show pc + 1 - pc = 1 by omega]
set_option maxRecDepth 100000 in
theorem dq_84 (hL : c.data.toList.map UInt8.toNat = L) (h : bx L pc 84 = true) : decode c pc = .ok (.bastore, 1) := by
  have h0 : DB c pc 84 := dk_bt hL (bx_t h)
  have e : Jvm.ClassFile.Decoder.instr pc c pc = .ok (.bastore, pc + 1) := by
    unfold Jvm.ClassFile.Decoder.instr
    refine (dk_bind (dk_u1 h0)).trans ?_
    rfl
  rw [dk_dec e, show pc + 1 - pc = 1 by omega]
set_option maxRecDepth 100000 in
theorem dq_156 {b : Nat} {ix : Int} (hL : c.data.toList.map UInt8.toNat = L) (h : (bx L pc 156 && (bx L (pc + 1) a && (bx L (pc + 1 + 1) b && decide (Jvm.ClassFile.Reader.signed 16 (a * 256 + b) = ix)))) = true) : decode c pc = .ok (.ifCond .ge ix, 3) := by
  simp only [Bool.and_eq_true, decide_eq_true_eq] at h
  have h0 : DB c pc 156 := dk_bt hL (bx_t h.1)
  have h1 : DB c (pc + 1) a := dk_bt hL (bx_t h.2.1)
  have h2 : DB c (pc + 1 + 1) b := dk_bt hL (bx_t h.2.2.1)
  have e : Jvm.ClassFile.Decoder.instr pc c pc = .ok (.ifCond .ge ix, pc + 1 + 2) := by
    unfold Jvm.ClassFile.Decoder.instr
    refine (dk_bind (dk_u1 h0)).trans ?_
    show ((Jvm.ClassFile.Reader.s2 >>= fun x => pure (.ifCond .ge x)) : Jvm.ClassFile.Decoder Jvm.ClassFile.Instr) c (pc + 1) = _
    rw [dk_bind (dk_s2 h1 h2), h.2.2.2]
    rfl
  rw [dk_dec e, show pc + 1 + 2 - pc = 3 by omega]
set_option maxRecDepth 100000 in
theorem dq_189 {b : Nat} {ix : Nat} (hL : c.data.toList.map UInt8.toNat = L) (h : (bx L pc 189 && (bx L (pc + 1) a && (bx L (pc + 1 + 1) b && decide (a * 256 + b = ix)))) = true) : decode c pc = .ok (.anewarray ix, 3) := by
  simp only [Bool.and_eq_true, decide_eq_true_eq] at h
  have h0 : DB c pc 189 := dk_bt hL (bx_t h.1)
  have h1 : DB c (pc + 1) a := dk_bt hL (bx_t h.2.1)
  have h2 : DB c (pc + 1 + 1) b := dk_bt hL (bx_t h.2.2.1)
  have e : Jvm.ClassFile.Decoder.instr pc c pc = .ok (.anewarray ix, pc + 1 + 2) := by
    unfold Jvm.ClassFile.Decoder.instr
    refine (dk_bind (dk_u1 h0)).trans ?_
    show ((Jvm.ClassFile.Reader.u2 >>= fun x => pure (.anewarray x)) : Jvm.ClassFile.Decoder Jvm.ClassFile.Instr) c (pc + 1) = _
    rw [dk_bind (dk_u2 h1 h2), h.2.2.2]
    rfl
  rw [dk_dec e, show pc + 1 + 2 - pc = 3 by omega]
set_option maxRecDepth 100000 in
theorem dq_83 (hL : c.data.toList.map UInt8.toNat = L) (h : bx L pc 83 = true) : decode c pc = .ok (.aastore, 1) := by
  have h0 : DB c pc 83 := dk_bt hL (bx_t h)
  have e : Jvm.ClassFile.Decoder.instr pc c pc = .ok (.aastore, pc + 1) := by
    unfold Jvm.ClassFile.Decoder.instr
    refine (dk_bind (dk_u1 h0)).trans ?_
    rfl
  rw [dk_dec e, show pc + 1 - pc = 1 by omega]
set_option maxRecDepth 100000 in
theorem dq_145 (hL : c.data.toList.map UInt8.toNat = L) (h : bx L pc 145 = true) : decode c pc = .ok (.i2b, 1) := by
  have h0 : DB c pc 145 := dk_bt hL (bx_t h)
  have e : Jvm.ClassFile.Decoder.instr pc c pc = .ok (.i2b, pc + 1) := by
    unfold Jvm.ClassFile.Decoder.instr
    refine (dk_bind (dk_u1 h0)).trans ?_
    rfl
  rw [dk_dec e, show pc + 1 - pc = 1 by omega]
set_option maxRecDepth 100000 in
theorem dq_146 (hL : c.data.toList.map UInt8.toNat = L) (h : bx L pc 146 = true) : decode c pc = .ok (.i2c, 1) := by
  have h0 : DB c pc 146 := dk_bt hL (bx_t h)
  have e : Jvm.ClassFile.Decoder.instr pc c pc = .ok (.i2c, pc + 1) := by
    unfold Jvm.ClassFile.Decoder.instr
    refine (dk_bind (dk_u1 h0)).trans ?_
    rfl
  rw [dk_dec e, show pc + 1 - pc = 1 by omega]
set_option maxRecDepth 100000 in
theorem dq_136 (hL : c.data.toList.map UInt8.toNat = L) (h : bx L pc 136 = true) : decode c pc = .ok (.l2i, 1) := by
  have h0 : DB c pc 136 := dk_bt hL (bx_t h)
  have e : Jvm.ClassFile.Decoder.instr pc c pc = .ok (.l2i, pc + 1) := by
    unfold Jvm.ClassFile.Decoder.instr
    refine (dk_bind (dk_u1 h0)).trans ?_
    rfl
  rw [dk_dec e, show pc + 1 - pc = 1 by omega]
set_option maxRecDepth 100000 in
theorem dq_133 (hL : c.data.toList.map UInt8.toNat = L) (h : bx L pc 133 = true) : decode c pc = .ok (.i2l, 1) := by
  have h0 : DB c pc 133 := dk_bt hL (bx_t h)
  have e : Jvm.ClassFile.Decoder.instr pc c pc = .ok (.i2l, pc + 1) := by
    unfold Jvm.ClassFile.Decoder.instr
    refine (dk_bind (dk_u1 h0)).trans ?_
    rfl
  rw [dk_dec e, show pc + 1 - pc = 1 by omega]
set_option maxRecDepth 100000 in
theorem dq_76 (hL : c.data.toList.map UInt8.toNat = L) (h : bx L pc 76 = true) : decode c pc = .ok (.astore_n 1, 1) := by
  have h0 : DB c pc 76 := dk_bt hL (bx_t h)
  have e : Jvm.ClassFile.Decoder.instr pc c pc = .ok (.astore_n 1, pc + 1) := by
    unfold Jvm.ClassFile.Decoder.instr
    refine (dk_bind (dk_u1 h0)).trans ?_
    rfl
  rw [dk_dec e, show pc + 1 - pc = 1 by omega]
set_option maxRecDepth 100000 in
theorem dq_157 {b : Nat} {ix : Int} (hL : c.data.toList.map UInt8.toNat = L) (h : (bx L pc 157 && (bx L (pc + 1) a && (bx L (pc + 1 + 1) b && decide (Jvm.ClassFile.Reader.signed 16 (a * 256 + b) = ix)))) = true) : decode c pc = .ok (.ifCond .gt ix, 3) := by
  simp only [Bool.and_eq_true, decide_eq_true_eq] at h
  have h0 : DB c pc 157 := dk_bt hL (bx_t h.1)
  have h1 : DB c (pc + 1) a := dk_bt hL (bx_t h.2.1)
  have h2 : DB c (pc + 1 + 1) b := dk_bt hL (bx_t h.2.2.1)
  have e : Jvm.ClassFile.Decoder.instr pc c pc = .ok (.ifCond .gt ix, pc + 1 + 2) := by
    unfold Jvm.ClassFile.Decoder.instr
    refine (dk_bind (dk_u1 h0)).trans ?_
    show ((Jvm.ClassFile.Reader.s2 >>= fun x => pure (.ifCond .gt x)) : Jvm.ClassFile.Decoder Jvm.ClassFile.Instr) c (pc + 1) = _
    rw [dk_bind (dk_s2 h1 h2), h.2.2.2]
    rfl
  rw [dk_dec e, show pc + 1 + 2 - pc = 3 by omega]
set_option maxRecDepth 100000 in
theorem dq_80 (hL : c.data.toList.map UInt8.toNat = L) (h : bx L pc 80 = true) : decode c pc = .ok (.lastore, 1) := by
  have h0 : DB c pc 80 := dk_bt hL (bx_t h)
  have e : Jvm.ClassFile.Decoder.instr pc c pc = .ok (.lastore, pc + 1) := by
    unfold Jvm.ClassFile.Decoder.instr
    refine (dk_bind (dk_u1 h0)).trans ?_
    rfl
  rw [dk_dec e, show pc + 1 - pc = 1 by omega]
set_option maxRecDepth 100000 in
theorem dq_124 (hL : c.data.toList.map UInt8.toNat = L) (h : bx L pc 124 = true) : decode c pc = .ok (.iushr, 1) := by
  have h0 : DB c pc 124 := dk_bt hL (bx_t h)
  have e : Jvm.ClassFile.Decoder.instr pc c pc = .ok (.iushr, pc + 1) := by
    unfold Jvm.ClassFile.Decoder.instr
    refine (dk_bind (dk_u1 h0)).trans ?_
    rfl
  rw [dk_dec e, show pc + 1 - pc = 1 by omega]
set_option maxRecDepth 100000 in
theorem dq_59 (hL : c.data.toList.map UInt8.toNat = L) (h : bx L pc 59 = true) : decode c pc = .ok (.istore_n 0, 1) := by
  have h0 : DB c pc 59 := dk_bt hL (bx_t h)
  have e : Jvm.ClassFile.Decoder.instr pc c pc = .ok (.istore_n 0, pc + 1) := by
    unfold Jvm.ClassFile.Decoder.instr
    refine (dk_bind (dk_u1 h0)).trans ?_
    rfl
  rw [dk_dec e, show pc + 1 - pc = 1 by omega]
end DQB
def bl_0 : List Nat := [42, 183, 0, 1, 42, 187, 0, 7, 89, 183, 0, 9, 181, 0, 10, 42, 187, 0, 7, 89, 183, 0, 9, 181, 0, 16, 42, 187, 0, 7, 89, 183, 0, 9, 181, 0, 19, 42, 187, 0, 22, 89, 183, 0, 24, 181, 0, 25, 42, 187, 0, 29, 89, 183, 0, 31, 181, 0, 32, 42, 187, 0, 36, 89, 183, 0, 38, 181, 0, 39, 42, 3, 181, 0, 43, 177]
theorem hb_0 : prog_1_method_1_code.data.toList.map UInt8.toNat = bl_0 := dk_eq_t _ _ (by decide +kernel)
def bl_1 : List Nat := [42, 180, 0, 32, 180, 0, 47, 58, 6, 25, 6, 180, 0, 51, 16, 20, 96, 17, 1, 244, 164, 0, 5, 2, 172, 25, 6, 27, 182, 0, 57, 25, 6, 28, 182, 0, 57, 25, 6, 29, 182, 0, 57, 25, 6, 21, 4, 182, 0, 57, 25, 6, 21, 5, 182, 0, 57, 25, 6, 180, 0, 51, 172]
theorem hb_1 : prog_1_method_2_code.data.toList.map UInt8.toNat = bl_1 := dk_eq_t _ _ (by decide +kernel)
def bl_2 : List Nat := [27, 155, 0, 17, 27, 42, 180, 0, 32, 180, 0, 47, 180, 0, 51, 164, 0, 5, 3, 172, 42, 180, 0, 32, 180, 0, 47, 27, 181, 0, 51, 4, 172]
theorem hb_2 : prog_1_method_3_code.data.toList.map UInt8.toNat = bl_2 := dk_eq_t _ _ (by decide +kernel)
def bl_3 : List Nat := [42, 180, 0, 32, 182, 0, 61, 4, 60, 3, 61, 28, 17, 1, 244, 162, 0, 21, 27, 153, 0, 17, 42, 180, 0, 32, 182, 0, 64, 60, 132, 2, 1, 167, 255, 234, 42, 180, 0, 32, 180, 0, 47, 3, 181, 0, 51, 42, 180, 0, 32, 180, 0, 68, 153, 0, 5, 2, 172, 42, 180, 0, 10, 42, 180, 0, 32, 180, 0, 71, 182, 0, 72, 42, 180, 0, 25, 3, 181, 0, 76, 42, 3, 181, 0, 43, 42, 180, 0, 39, 3, 181, 0, 79, 42, 180, 0, 10, 180, 0, 80, 172]
theorem hb_3 : prog_1_method_4_code.data.toList.map UInt8.toNat = bl_3 := dk_eq_t _ _ (by decide +kernel)
def bl_4 : List Nat := [42, 180, 0, 32, 180, 0, 68, 172]
theorem hb_4 : prog_1_method_5_code.data.toList.map UInt8.toNat = bl_4 := dk_eq_t _ _ (by decide +kernel)
def bl_5 : List Nat := [42, 180, 0, 32, 180, 0, 83, 172]
theorem hb_5 : prog_1_method_6_code.data.toList.map UInt8.toNat = bl_5 := dk_eq_t _ _ (by decide +kernel)
def bl_6 : List Nat := [27, 170, 0, 0, 0, 0, 0, 160, 0, 0, 0, 0, 0, 0, 0, 10, 0, 0, 0, 59, 0, 0, 0, 67, 0, 0, 0, 76, 0, 0, 0, 85, 0, 0, 0, 94, 0, 0, 0, 102, 0, 0, 0, 110, 0, 0, 0, 118, 0, 0, 0, 126, 0, 0, 0, 144, 0, 0, 0, 152, 42, 180, 0, 10, 180, 0, 80, 172, 42, 180, 0, 10, 3, 182, 0, 86, 172, 42, 180, 0, 10, 4, 182, 0, 86, 172, 42, 180, 0, 10, 5, 182, 0, 86, 172, 42, 180, 0, 10, 180, 0, 90, 172, 42, 180, 0, 10, 180, 0, 93, 172, 42, 180, 0, 10, 180, 0, 96, 172, 42, 180, 0, 10, 180, 0, 99, 172, 42, 180, 0, 10, 42, 180, 0, 10, 180, 0, 102, 182, 0, 106, 184, 0, 110, 172, 42, 180, 0, 25, 180, 0, 76, 172, 42, 180, 0, 10, 180, 0, 115, 172, 187, 0, 118, 89, 18, 120, 183, 0, 122, 191]
theorem hb_6 : prog_1_method_7_code.data.toList.map UInt8.toNat = bl_6 := dk_eq_t _ _ (by decide +kernel)
def bl_7 : List Nat := [42, 27, 182, 0, 125, 78, 28, 170, 0, 0, 0, 159, 0, 0, 0, 0, 0, 0, 0, 14, 0, 0, 0, 73, 0, 0, 0, 81, 0, 0, 0, 86, 0, 0, 0, 91, 0, 0, 0, 96, 0, 0, 0, 105, 0, 0, 0, 110, 0, 0, 0, 115, 0, 0, 0, 120, 0, 0, 0, 125, 0, 0, 0, 134, 0, 0, 0, 139, 0, 0, 0, 144, 0, 0, 0, 149, 0, 0, 0, 154, 45, 180, 0, 129, 184, 0, 134, 172, 45, 180, 0, 137, 172, 45, 182, 0, 140, 172, 45, 180, 0, 144, 172, 42, 180, 0, 10, 45, 182, 0, 147, 172, 45, 180, 0, 150, 172, 45, 180, 0, 153, 172, 45, 180, 0, 156, 172, 45, 180, 0, 159, 172, 42, 180, 0, 10, 45, 182, 0, 106, 172, 45, 180, 0, 162, 172, 45, 180, 0, 165, 172, 45, 180, 0, 168, 172, 45, 180, 0, 171, 172, 45, 182, 0, 174, 172, 187, 0, 118, 89, 18, 177, 183, 0, 122, 191]
theorem hb_7 : prog_1_method_8_code.data.toList.map UInt8.toNat = bl_7 := dk_eq_t _ _ (by decide +kernel)
def bl_8 : List Nat := [27, 16, 7, 184, 0, 179, 42, 180, 0, 10, 27, 182, 0, 183, 180, 0, 186, 172]
theorem hb_8 : prog_1_method_9_code.data.toList.map UInt8.toNat = bl_8 := dk_eq_t _ _ (by decide +kernel)
def bl_9 : List Nat := [27, 155, 0, 8, 27, 8, 161, 0, 7, 2, 167, 0, 12, 42, 180, 0, 10, 180, 0, 189, 27, 46, 172]
theorem hb_9 : prog_1_method_10_code.data.toList.map UInt8.toNat = bl_9 := dk_eq_t _ _ (by decide +kernel)
def bl_10 : List Nat := [42, 27, 182, 0, 125, 77, 44, 180, 0, 150, 5, 159, 0, 7, 4, 167, 0, 4, 3, 184, 0, 193, 44, 182, 0, 197, 172]
theorem hb_10 : prog_1_method_11_code.data.toList.map UInt8.toNat = bl_10 := dk_eq_t _ _ (by decide +kernel)
def bl_11 : List Nat := [42, 27, 182, 0, 125, 78, 42, 28, 182, 0, 125, 58, 4, 45, 180, 0, 150, 5, 159, 0, 25, 25, 4, 180, 0, 150, 5, 159, 0, 16, 45, 25, 4, 182, 0, 200, 153, 0, 7, 4, 167, 0, 4, 3, 172]
theorem hb_11 : prog_1_method_12_code.data.toList.map UInt8.toNat = bl_11 := dk_eq_t _ _ (by decide +kernel)
def bl_12 : List Nat := [42, 27, 182, 0, 125, 78, 42, 28, 182, 0, 125, 58, 4, 45, 180, 0, 150, 5, 159, 0, 16, 25, 4, 180, 0, 150, 5, 159, 0, 7, 4, 167, 0, 4, 3, 184, 0, 193, 42, 180, 0, 10, 45, 25, 4, 182, 0, 204, 180, 0, 186, 172]
theorem hb_12 : prog_1_method_13_code.data.toList.map UInt8.toNat = bl_12 := dk_eq_t _ _ (by decide +kernel)
def bl_13 : List Nat := [42, 180, 0, 10, 42, 27, 182, 0, 125, 3, 182, 0, 208, 172]
theorem hb_13 : prog_1_method_14_code.data.toList.map UInt8.toNat = bl_13 := dk_eq_t _ _ (by decide +kernel)
def bl_14 : List Nat := [27, 155, 0, 9, 27, 16, 40, 161, 0, 7, 1, 167, 0, 10, 42, 180, 0, 10, 180, 0, 102, 77, 3, 62, 29, 27, 162, 0, 22, 44, 198, 0, 18, 42, 180, 0, 10, 44, 182, 0, 212, 77, 132, 3, 1, 167, 255, 235, 44, 199, 0, 13, 187, 0, 216, 89, 18, 218, 183, 0, 220, 191, 44, 180, 0, 186, 172]
theorem hb_14 : prog_1_method_15_code.data.toList.map UInt8.toNat = bl_14 := dk_eq_t _ _ (by decide +kernel)
def bl_15 : List Nat := [3, 61, 42, 180, 0, 10, 180, 0, 221, 78, 45, 190, 54, 4, 3, 54, 5, 21, 5, 21, 4, 162, 0, 35, 45, 21, 5, 50, 58, 6, 25, 6, 182, 0, 225, 153, 0, 15, 25, 6, 182, 0, 197, 27, 160, 0, 6, 132, 2, 1, 132, 5, 1, 167, 255, 220, 28, 172]
theorem hb_15 : prog_1_method_16_code.data.toList.map UInt8.toNat = bl_15 := dk_eq_t _ _ (by decide +kernel)
def bl_16 : List Nat := [42, 180, 0, 10, 182, 0, 228, 172]
theorem hb_16 : prog_1_method_17_code.data.toList.map UInt8.toNat = bl_16 := dk_eq_t _ _ (by decide +kernel)
def bl_17 : List Nat := [42, 27, 182, 0, 125, 58, 5, 28, 16, 9, 184, 0, 179, 29, 16, 9, 184, 0, 179, 21, 4, 16, 9, 184, 0, 179, 25, 5, 182, 0, 140, 158, 0, 19, 42, 180, 0, 10, 180, 0, 80, 16, 40, 162, 0, 7, 4, 167, 0, 4, 3, 184, 0, 193, 42, 180, 0, 25, 42, 180, 0, 10, 182, 0, 231, 42, 180, 0, 10, 25, 5, 28, 29, 21, 4, 182, 0, 234, 184, 0, 134, 172]
theorem hb_17 : prog_1_method_18_code.data.toList.map UInt8.toNat = bl_17 := dk_eq_t _ _ (by decide +kernel)
def bl_18 : List Nat := [42, 27, 28, 182, 0, 238, 78, 42, 180, 0, 25, 42, 180, 0, 10, 182, 0, 231, 42, 180, 0, 10, 45, 28, 182, 0, 242, 172]
theorem hb_18 : prog_1_method_19_code.data.toList.map UInt8.toNat = bl_18 := dk_eq_t _ _ (by decide +kernel)
def bl_19 : List Nat := [27, 28, 184, 0, 245, 42, 180, 0, 25, 42, 180, 0, 10, 182, 0, 231, 42, 180, 0, 10, 27, 28, 182, 0, 248, 172]
theorem hb_19 : prog_1_method_20_code.data.toList.map UInt8.toNat = bl_19 := dk_eq_t _ _ (by decide +kernel)
def bl_20 : List Nat := [42, 27, 182, 0, 125, 77, 44, 182, 0, 225, 184, 0, 193, 42, 180, 0, 10, 44, 2, 182, 0, 252, 78, 45, 199, 0, 14, 187, 0, 216, 89, 19, 1, 0, 183, 0, 220, 191, 42, 180, 0, 25, 42, 180, 0, 10, 182, 0, 231, 45, 5, 181, 0, 150, 17, 3, 232, 45, 180, 0, 186, 104, 45, 180, 0, 162, 96, 172]
theorem hb_20 : prog_1_method_21_code.data.toList.map UInt8.toNat = bl_20 := dk_eq_t _ _ (by decide +kernel)
def bl_21 : List Nat := [42, 27, 182, 0, 125, 78, 28, 16, 9, 184, 0, 179, 45, 182, 1, 2, 184, 0, 193, 42, 180, 0, 25, 42, 180, 0, 10, 182, 0, 231, 45, 89, 180, 0, 165, 4, 28, 120, 128, 181, 0, 165, 42, 180, 0, 10, 45, 28, 182, 1, 5, 172]
theorem hb_21 : prog_1_method_22_code.data.toList.map UInt8.toNat = bl_21 := dk_eq_t _ _ (by decide +kernel)
def bl_22 : List Nat := [42, 27, 182, 0, 125, 78, 28, 16, 9, 184, 0, 179, 45, 182, 0, 225, 184, 0, 193, 42, 180, 0, 25, 42, 180, 0, 10, 182, 0, 231, 45, 28, 182, 1, 8, 54, 4, 45, 89, 180, 0, 165, 4, 28, 120, 2, 130, 126, 181, 0, 165, 21, 4, 172]
theorem hb_22 : prog_1_method_23_code.data.toList.map UInt8.toNat = bl_22 := dk_eq_t _ _ (by decide +kernel)
def bl_23 : List Nat := [42, 27, 182, 0, 125, 78, 42, 28, 182, 0, 125, 58, 4, 45, 182, 1, 2, 153, 0, 42, 25, 4, 182, 0, 140, 158, 0, 34, 25, 4, 45, 165, 0, 28, 45, 25, 4, 182, 0, 200, 154, 0, 19, 25, 4, 45, 180, 0, 153, 182, 1, 8, 154, 0, 7, 4, 167, 0, 4, 3, 184, 0, 193, 42, 180, 0, 25, 42, 180, 0, 10, 182, 0, 231, 45, 180, 0, 129, 184, 0, 134, 54, 5, 45, 25, 4, 182, 1, 12, 21, 5, 172]
theorem hb_23 : prog_1_method_24_code.data.toList.map UInt8.toNat = bl_23 := dk_eq_t _ _ (by decide +kernel)
def bl_24 : List Nat := [42, 27, 182, 0, 125, 78, 28, 16, 9, 184, 0, 179, 45, 182, 0, 225, 184, 0, 193, 42, 180, 0, 25, 42, 180, 0, 10, 182, 0, 231, 45, 180, 0, 137, 54, 4, 45, 28, 181, 0, 137, 21, 4, 172]
theorem hb_24 : prog_1_method_25_code.data.toList.map UInt8.toNat = bl_24 := dk_eq_t _ _ (by decide +kernel)
def bl_25 : List Nat := [42, 27, 182, 0, 125, 78, 28, 16, 9, 184, 0, 179, 45, 182, 0, 225, 184, 0, 193, 42, 180, 0, 25, 42, 180, 0, 10, 182, 0, 231, 45, 180, 0, 156, 54, 4, 45, 28, 181, 0, 156, 21, 4, 172]
theorem hb_25 : prog_1_method_26_code.data.toList.map UInt8.toNat = bl_25 := dk_eq_t _ _ (by decide +kernel)
def bl_26 : List Nat := [42, 27, 182, 0, 125, 78, 28, 2, 159, 0, 23, 42, 28, 182, 0, 125, 45, 166, 0, 14, 187, 0, 118, 89, 19, 1, 16, 183, 0, 122, 191, 45, 182, 1, 2, 184, 0, 193, 42, 180, 0, 25, 42, 180, 0, 10, 182, 0, 231, 45, 180, 0, 159, 54, 4, 45, 28, 181, 0, 159, 21, 4, 172]
theorem hb_26 : prog_1_method_27_code.data.toList.map UInt8.toNat = bl_26 := dk_eq_t _ _ (by decide +kernel)
def bl_27 : List Nat := [27, 16, 7, 184, 0, 179, 42, 28, 182, 0, 125, 78, 45, 182, 0, 225, 184, 0, 193, 42, 180, 0, 25, 42, 180, 0, 10, 182, 0, 231, 42, 180, 0, 10, 27, 182, 0, 183, 180, 0, 186, 54, 4, 42, 180, 0, 10, 27, 45, 182, 1, 18, 21, 4, 172]
theorem hb_27 : prog_1_method_28_code.data.toList.map UInt8.toNat = bl_27 := dk_eq_t _ _ (by decide +kernel)
def bl_28 : List Nat := [42, 27, 182, 0, 125, 77, 44, 182, 1, 2, 184, 0, 193, 42, 180, 0, 10, 44, 182, 1, 22, 180, 0, 186, 172]
theorem hb_28 : prog_1_method_29_code.data.toList.map UInt8.toNat = bl_28 := dk_eq_t _ _ (by decide +kernel)
def bl_29 : List Nat := [42, 27, 182, 0, 125, 77, 44, 182, 1, 2, 184, 0, 193, 42, 180, 0, 10, 44, 182, 1, 25, 180, 0, 186, 172]
theorem hb_29 : prog_1_method_30_code.data.toList.map UInt8.toNat = bl_29 := dk_eq_t _ _ (by decide +kernel)
def bl_30 : List Nat := [42, 27, 28, 182, 0, 238, 87, 42, 27, 28, 182, 1, 28, 172]
theorem hb_30 : prog_1_method_31_code.data.toList.map UInt8.toNat = bl_30 := dk_eq_t _ _ (by decide +kernel)
def bl_31 : List Nat := [42, 27, 28, 182, 0, 238, 87, 42, 27, 28, 182, 1, 28, 87, 42, 180, 0, 16, 182, 0, 228, 172]
theorem hb_31 : prog_1_method_32_code.data.toList.map UInt8.toNat = bl_31 := dk_eq_t _ _ (by decide +kernel)
def bl_32 : List Nat := [42, 27, 182, 0, 125, 87, 42, 28, 29, 182, 0, 238, 87, 42, 28, 29, 182, 1, 28, 87, 42, 180, 0, 16, 27, 182, 1, 31, 58, 4, 25, 4, 199, 0, 7, 2, 167, 0, 11, 25, 4, 180, 0, 129, 184, 0, 134, 172]
theorem hb_32 : prog_1_method_33_code.data.toList.map UInt8.toNat = bl_32 := dk_eq_t _ _ (by decide +kernel)
def bl_33 : List Nat := [27, 28, 184, 0, 245, 42, 180, 0, 16, 42, 180, 0, 10, 182, 0, 72, 42, 180, 0, 16, 27, 28, 182, 0, 248, 87, 42, 180, 0, 16, 180, 0, 96, 42, 180, 0, 10, 180, 0, 96, 100, 172]
theorem hb_33 : prog_1_method_34_code.data.toList.map UInt8.toNat = bl_33 := dk_eq_t _ _ (by decide +kernel)
def bl_34 : List Nat := [27, 17, 0, 255, 184, 0, 179, 2, 61, 2, 62, 42, 180, 0, 10, 180, 0, 221, 58, 4, 25, 4, 190, 54, 5, 3, 54, 6, 21, 6, 21, 5, 162, 0, 55, 25, 4, 21, 6, 50, 58, 7, 25, 7, 182, 1, 2, 153, 0, 16, 42, 25, 7, 180, 0, 186, 27, 182, 1, 28, 167, 0, 4, 2, 54, 8, 21, 8, 29, 164, 0, 12, 25, 7, 180, 0, 186, 61, 21, 8, 62, 132, 6, 1, 167, 255, 200, 28, 172]
theorem hb_34 : prog_1_method_35_code.data.toList.map UInt8.toNat = bl_34 := dk_eq_t _ _ (by decide +kernel)
def bl_35 : List Nat := [27, 16, 9, 184, 0, 179, 2, 61, 3, 62, 42, 180, 0, 10, 180, 0, 221, 58, 4, 25, 4, 190, 54, 5, 3, 54, 6, 21, 6, 21, 5, 162, 0, 54, 25, 4, 21, 6, 50, 58, 7, 25, 7, 182, 1, 2, 153, 0, 33, 25, 7, 27, 182, 1, 8, 154, 0, 24, 25, 7, 182, 0, 140, 29, 164, 0, 15, 25, 7, 180, 0, 186, 61, 25, 7, 182, 0, 140, 62, 132, 6, 1, 167, 255, 201, 28, 172]
theorem hb_35 : prog_1_method_36_code.data.toList.map UInt8.toNat = bl_35 := dk_eq_t _ _ (by decide +kernel)
def bl_36 : List Nat := [3, 60, 42, 180, 0, 10, 180, 0, 221, 77, 44, 190, 62, 3, 54, 4, 21, 4, 29, 162, 0, 23, 44, 21, 4, 50, 58, 5, 27, 25, 5, 182, 0, 140, 96, 60, 132, 4, 1, 167, 255, 233, 27, 172]
theorem hb_36 : prog_1_method_37_code.data.toList.map UInt8.toNat = bl_36 := dk_eq_t _ _ (by decide +kernel)
def bl_37 : List Nat := [3, 60, 42, 180, 0, 10, 180, 0, 221, 77, 44, 190, 62, 3, 54, 4, 21, 4, 29, 162, 0, 39, 44, 21, 4, 50, 58, 5, 25, 5, 182, 0, 225, 153, 0, 19, 25, 5, 180, 0, 144, 25, 5, 180, 0, 137, 164, 0, 6, 132, 1, 1, 132, 4, 1, 167, 255, 217, 27, 172]
theorem hb_37 : prog_1_method_38_code.data.toList.map UInt8.toNat = bl_37 := dk_eq_t _ _ (by decide +kernel)
def bl_38 : List Nat := [27, 16, 9, 184, 0, 179, 3, 61, 42, 180, 0, 10, 180, 0, 221, 78, 45, 190, 54, 4, 3, 54, 5, 21, 5, 21, 4, 162, 0, 35, 45, 21, 5, 50, 58, 6, 25, 6, 182, 0, 225, 153, 0, 15, 25, 6, 180, 0, 153, 27, 160, 0, 6, 132, 2, 1, 132, 5, 1, 167, 255, 220, 28, 172]
theorem hb_38 : prog_1_method_39_code.data.toList.map UInt8.toNat = bl_38 := dk_eq_t _ _ (by decide +kernel)
def bl_39 : List Nat := [42, 180, 0, 10, 42, 27, 182, 0, 125, 2, 182, 0, 252, 184, 0, 134, 172]
theorem hb_39 : prog_1_method_40_code.data.toList.map UInt8.toNat = bl_39 := dk_eq_t _ _ (by decide +kernel)
def bl_40 : List Nat := [1, 77, 42, 180, 0, 10, 180, 0, 221, 78, 45, 190, 54, 4, 3, 54, 5, 21, 5, 21, 4, 162, 0, 35, 45, 21, 5, 50, 58, 6, 25, 6, 182, 1, 34, 153, 0, 15, 25, 6, 180, 1, 37, 27, 160, 0, 6, 25, 6, 77, 132, 5, 1, 167, 255, 220, 44, 199, 0, 14, 187, 0, 216, 89, 19, 1, 40, 183, 0, 220, 191, 44, 180, 0, 186, 172]
theorem hb_40 : prog_1_method_41_code.data.toList.map UInt8.toNat = bl_40 := dk_eq_t _ _ (by decide +kernel)
def bl_41 : List Nat := [3, 60, 3, 61, 42, 180, 0, 10, 180, 0, 221, 78, 45, 190, 54, 4, 3, 54, 5, 21, 5, 21, 4, 162, 0, 34, 45, 21, 5, 50, 58, 6, 25, 6, 182, 0, 225, 153, 0, 14, 27, 25, 6, 182, 0, 197, 96, 60, 132, 2, 1, 132, 5, 1, 167, 255, 221, 28, 154, 0, 7, 14, 167, 0, 8, 27, 135, 28, 135, 111, 175]
theorem hb_41 : prog_1_method_42_code.data.toList.map UInt8.toNat = bl_41 := dk_eq_t _ _ (by decide +kernel)
def bl_42 : List Nat := [42, 180, 0, 10, 180, 0, 93, 154, 0, 7, 11, 167, 0, 20, 42, 180, 0, 10, 180, 0, 96, 134, 42, 180, 0, 10, 180, 0, 93, 134, 110, 174]
theorem hb_42 : prog_1_method_43_code.data.toList.map UInt8.toNat = bl_42 := dk_eq_t _ _ (by decide +kernel)
def bl_43 : List Nat := [42, 27, 182, 0, 125, 78, 28, 17, 0, 255, 184, 0, 179, 45, 182, 0, 225, 184, 0, 193, 42, 180, 0, 25, 42, 180, 0, 10, 182, 0, 231, 42, 180, 0, 10, 45, 28, 182, 1, 42, 172]
theorem hb_43 : prog_1_method_44_code.data.toList.map UInt8.toNat = bl_43 := dk_eq_t _ _ (by decide +kernel)
def bl_44 : List Nat := [42, 27, 182, 0, 125, 78, 42, 28, 182, 0, 125, 58, 4, 45, 182, 1, 2, 153, 0, 39, 25, 4, 182, 1, 2, 153, 0, 31, 45, 25, 4, 165, 0, 25, 45, 25, 4, 182, 0, 200, 154, 0, 16, 25, 4, 45, 182, 0, 200, 154, 0, 7, 4, 167, 0, 4, 3, 184, 0, 193, 42, 180, 0, 25, 42, 180, 0, 10, 182, 0, 231, 45, 182, 0, 197, 25, 4, 182, 0, 197, 160, 0, 7, 4, 167, 0, 4, 3, 54, 5, 5, 42, 180, 0, 10, 45, 3, 182, 0, 208, 96, 42, 180, 0, 10, 25, 4, 3, 182, 0, 208, 96, 54, 6, 45, 180, 0, 129, 58, 7, 45, 25, 4, 180, 0, 129, 182, 1, 12, 25, 4, 25, 7, 182, 1, 12, 21, 5, 153, 0, 7, 3, 167, 0, 5, 21, 6, 172]
theorem hb_44 : prog_1_method_45_code.data.toList.map UInt8.toNat = bl_44 := dk_eq_t _ _ (by decide +kernel)
def bl_45 : List Nat := [42, 27, 182, 0, 125, 77, 44, 182, 0, 225, 184, 0, 193, 42, 180, 0, 25, 42, 180, 0, 10, 182, 0, 231, 42, 180, 0, 10, 44, 182, 1, 45, 172]
theorem hb_45 : prog_1_method_46_code.data.toList.map UInt8.toNat = bl_45 := dk_eq_t _ _ (by decide +kernel)
def bl_46 : List Nat := [42, 180, 0, 10, 42, 27, 182, 0, 125, 4, 182, 0, 208, 172]
theorem hb_46 : prog_1_method_47_code.data.toList.map UInt8.toNat = bl_46 := dk_eq_t _ _ (by decide +kernel)
def bl_47 : List Nat := [42, 27, 182, 0, 125, 77, 3, 62, 42, 180, 0, 10, 180, 0, 221, 58, 4, 25, 4, 190, 54, 5, 3, 54, 6, 21, 6, 21, 5, 162, 0, 41, 25, 4, 21, 6, 50, 58, 7, 25, 7, 182, 0, 225, 153, 0, 20, 44, 25, 7, 182, 0, 200, 153, 0, 11, 29, 25, 7, 182, 0, 140, 96, 62, 132, 6, 1, 167, 255, 214, 29, 172]
theorem hb_47 : prog_1_method_48_code.data.toList.map UInt8.toNat = bl_47 := dk_eq_t _ _ (by decide +kernel)
def bl_48 : List Nat := [2, 60, 3, 61, 42, 180, 0, 10, 180, 0, 221, 78, 45, 190, 54, 4, 3, 54, 5, 21, 5, 21, 4, 162, 0, 44, 45, 21, 5, 50, 58, 6, 25, 6, 182, 0, 225, 153, 0, 24, 25, 6, 180, 0, 168, 28, 164, 0, 15, 25, 6, 180, 0, 186, 60, 25, 6, 180, 0, 168, 61, 132, 5, 1, 167, 255, 211, 27, 172]
theorem hb_48 : prog_1_method_49_code.data.toList.map UInt8.toNat = bl_48 := dk_eq_t _ _ (by decide +kernel)
def bl_49 : List Nat := [42, 27, 182, 0, 125, 77, 44, 182, 1, 2, 184, 0, 193, 3, 62, 42, 180, 0, 10, 180, 0, 221, 58, 4, 25, 4, 190, 54, 5, 3, 54, 6, 21, 6, 21, 5, 162, 0, 32, 25, 4, 21, 6, 50, 58, 7, 42, 180, 0, 10, 25, 7, 44, 182, 1, 48, 153, 0, 6, 132, 3, 1, 132, 6, 1, 167, 255, 223, 29, 172]
theorem hb_49 : prog_1_method_50_code.data.toList.map UInt8.toNat = bl_49 := dk_eq_t _ _ (by decide +kernel)
def bl_50 : List Nat := [42, 27, 182, 0, 125, 182, 1, 2, 184, 0, 193, 42, 27, 4, 182, 1, 28, 42, 27, 3, 182, 1, 28, 162, 0, 7, 4, 167, 0, 4, 3, 172]
theorem hb_50 : prog_1_method_51_code.data.toList.map UInt8.toNat = bl_50 := dk_eq_t _ _ (by decide +kernel)
def bl_51 : List Nat := [27, 28, 184, 0, 245, 42, 180, 0, 16, 42, 180, 0, 10, 182, 0, 72, 42, 180, 0, 16, 27, 28, 182, 0, 248, 87, 42, 180, 0, 16, 3, 182, 0, 86, 172]
theorem hb_51 : prog_1_method_52_code.data.toList.map UInt8.toNat = bl_51 := dk_eq_t _ _ (by decide +kernel)
def bl_52 : List Nat := [42, 180, 0, 10, 180, 0, 90, 154, 0, 7, 14, 167, 0, 21, 42, 180, 0, 10, 5, 182, 0, 86, 135, 42, 180, 0, 10, 180, 0, 90, 135, 111, 175]
theorem hb_52 : prog_1_method_53_code.data.toList.map UInt8.toNat = bl_52 := dk_eq_t _ _ (by decide +kernel)
def bl_53 : List Nat := [42, 27, 182, 0, 125, 78, 42, 28, 182, 0, 125, 58, 4, 45, 180, 0, 150, 5, 159, 0, 16, 25, 4, 180, 0, 150, 5, 159, 0, 7, 4, 167, 0, 4, 3, 184, 0, 193, 45, 182, 0, 197, 25, 4, 182, 0, 197, 96, 5, 42, 180, 0, 10, 45, 25, 4, 182, 0, 204, 182, 0, 197, 104, 100, 172]
theorem hb_53 : prog_1_method_54_code.data.toList.map UInt8.toNat = bl_53 := dk_eq_t _ _ (by decide +kernel)
def bl_54 : List Nat := [42, 27, 182, 0, 125, 77, 44, 182, 1, 2, 184, 0, 193, 42, 180, 0, 25, 42, 180, 0, 10, 182, 0, 231, 42, 180, 0, 10, 44, 182, 1, 52, 172]
theorem hb_54 : prog_1_method_55_code.data.toList.map UInt8.toNat = bl_54 := dk_eq_t _ _ (by decide +kernel)
def bl_55 : List Nat := [42, 28, 182, 0, 125, 87, 27, 16, 7, 184, 0, 179, 42, 28, 29, 182, 0, 238, 87, 42, 28, 29, 182, 1, 28, 87, 42, 180, 0, 16, 27, 182, 0, 183, 180, 0, 186, 172]
theorem hb_55 : prog_1_method_56_code.data.toList.map UInt8.toNat = bl_55 := dk_eq_t _ _ (by decide +kernel)
def bl_56 : List Nat := [27, 16, 7, 184, 0, 179, 42, 180, 0, 16, 42, 180, 0, 10, 182, 0, 72, 3, 61, 28, 16, 40, 162, 0, 44, 42, 180, 0, 16, 27, 182, 0, 183, 42, 180, 0, 16, 180, 0, 102, 165, 0, 26, 42, 180, 0, 16, 42, 180, 0, 16, 27, 182, 0, 183, 3, 182, 0, 242, 87, 132, 2, 1, 167, 255, 212, 28, 172]
theorem hb_56 : prog_1_method_57_code.data.toList.map UInt8.toNat = bl_56 := dk_eq_t _ _ (by decide +kernel)
def bl_57 : List Nat := [42, 27, 182, 0, 125, 77, 2, 62, 2, 54, 4, 42, 180, 0, 10, 180, 0, 221, 58, 5, 25, 5, 190, 54, 6, 3, 54, 7, 21, 7, 21, 6, 162, 0, 58, 25, 5, 21, 7, 50, 58, 8, 25, 8, 44, 182, 1, 55, 153, 0, 16, 42, 180, 0, 10, 25, 8, 3, 182, 0, 208, 167, 0, 4, 2, 54, 9, 21, 9, 21, 4, 164, 0, 13, 25, 8, 180, 0, 186, 62, 21, 9, 54, 4, 132, 7, 1, 167, 255, 197, 29, 172]
theorem hb_57 : prog_1_method_58_code.data.toList.map UInt8.toNat = bl_57 := dk_eq_t _ _ (by decide +kernel)
def bl_58 : List Nat := [42, 27, 182, 0, 125, 77, 3, 62, 42, 180, 0, 10, 180, 0, 221, 58, 4, 25, 4, 190, 54, 5, 3, 54, 6, 21, 6, 21, 5, 162, 0, 43, 25, 4, 21, 6, 50, 58, 7, 25, 7, 182, 0, 225, 153, 0, 22, 44, 25, 7, 182, 0, 200, 153, 0, 13, 29, 4, 25, 7, 180, 0, 153, 120, 128, 62, 132, 6, 1, 167, 255, 212, 29, 172]
theorem hb_58 : prog_1_method_59_code.data.toList.map UInt8.toNat = bl_58 := dk_eq_t _ _ (by decide +kernel)
def bl_59 : List Nat := [42, 27, 182, 0, 125, 77, 3, 62, 42, 180, 0, 10, 180, 0, 221, 58, 4, 25, 4, 190, 54, 5, 3, 54, 6, 21, 6, 21, 5, 162, 0, 40, 25, 4, 21, 6, 50, 58, 7, 25, 7, 44, 182, 1, 55, 153, 0, 18, 25, 7, 180, 0, 153, 44, 180, 0, 153, 159, 0, 6, 132, 3, 1, 132, 6, 1, 167, 255, 215, 29, 172]
theorem hb_59 : prog_1_method_60_code.data.toList.map UInt8.toNat = bl_59 := dk_eq_t _ _ (by decide +kernel)
def bl_60 : List Nat := [42, 27, 182, 0, 125, 78, 28, 7, 184, 0, 179, 45, 180, 0, 150, 5, 159, 0, 7, 4, 167, 0, 4, 3, 184, 0, 193, 42, 180, 0, 39, 3, 181, 0, 79, 28, 170, 0, 0, 0, 0, 0, 0, 89, 0, 0, 0, 0, 0, 0, 0, 3, 0, 0, 0, 32, 0, 0, 0, 43, 0, 0, 0, 58, 0, 0, 0, 74, 42, 180, 0, 39, 45, 182, 1, 58, 167, 0, 61, 42, 180, 0, 39, 42, 180, 0, 10, 45, 182, 1, 61, 167, 0, 46, 42, 180, 0, 39, 42, 180, 0, 10, 45, 3, 184, 1, 65, 167, 0, 30, 42, 180, 0, 39, 42, 180, 0, 10, 45, 182, 1, 69, 167, 0, 15, 42, 180, 0, 39, 42, 180, 0, 10, 45, 182, 1, 72, 42, 180, 0, 39, 180, 0, 79, 154, 0, 12, 42, 180, 0, 39, 16, 45, 182, 1, 75, 42, 180, 0, 39, 180, 0, 79, 172]
theorem hb_60 : prog_1_method_61_code.data.toList.map UInt8.toNat = bl_60 := dk_eq_t _ _ (by decide +kernel)
def bl_61 : List Nat := [27, 155, 0, 21, 27, 42, 180, 0, 39, 180, 0, 79, 162, 0, 10, 27, 17, 1, 44, 161, 0, 7, 2, 167, 0, 12, 42, 180, 0, 39, 180, 1, 79, 27, 51, 172]
theorem hb_61 : prog_1_method_62_code.data.toList.map UInt8.toNat = bl_61 := dk_eq_t _ _ (by decide +kernel)
def bl_62 : List Nat := [42, 180, 0, 25, 42, 180, 0, 10, 182, 1, 83, 153, 0, 13, 42, 180, 0, 25, 180, 0, 76, 167, 0, 4, 2, 172]
theorem hb_62 : prog_1_method_63_code.data.toList.map UInt8.toNat = bl_62 := dk_eq_t _ _ (by decide +kernel)
def bl_63 : List Nat := [42, 180, 0, 19, 42, 180, 0, 10, 182, 0, 72, 42, 4, 181, 0, 43, 42, 180, 0, 10, 3, 182, 0, 86, 172]
theorem hb_63 : prog_1_method_64_code.data.toList.map UInt8.toNat = bl_63 := dk_eq_t _ _ (by decide +kernel)
def bl_64 : List Nat := [42, 180, 0, 43, 184, 0, 193, 42, 180, 0, 10, 42, 180, 0, 19, 182, 0, 72, 42, 180, 0, 25, 3, 181, 0, 76, 42, 180, 0, 10, 3, 182, 0, 86, 172]
theorem hb_64 : prog_1_method_65_code.data.toList.map UInt8.toNat = bl_64 := dk_eq_t _ _ (by decide +kernel)
def bl_65 : List Nat := [42, 180, 0, 10, 27, 182, 1, 31, 77, 44, 199, 0, 14, 187, 1, 87, 89, 19, 1, 89, 183, 1, 91, 191, 44, 176]
theorem hb_65 : prog_1_method_66_code.data.toList.map UInt8.toNat = bl_65 := dk_eq_t _ _ (by decide +kernel)
def bl_66 : List Nat := [26, 155, 0, 8, 26, 27, 164, 0, 14, 187, 0, 118, 89, 19, 1, 92, 183, 0, 122, 191, 177]
theorem hb_66 : prog_1_method_67_code.data.toList.map UInt8.toNat = bl_66 := dk_eq_t _ _ (by decide +kernel)
def bl_67 : List Nat := [26, 154, 0, 14, 187, 1, 94, 89, 19, 1, 96, 183, 1, 98, 191, 177]
theorem hb_67 : prog_1_method_68_code.data.toList.map UInt8.toNat = bl_67 := dk_eq_t _ _ (by decide +kernel)
def bl_68 : List Nat := [42, 199, 0, 7, 2, 167, 0, 7, 42, 180, 0, 186, 172]
theorem hb_68 : prog_1_method_69_code.data.toList.map UInt8.toNat = bl_68 := dk_eq_t _ _ (by decide +kernel)
def bl_69 : List Nat := [42, 27, 182, 0, 125, 78, 28, 17, 0, 255, 184, 0, 179, 45, 182, 1, 2, 184, 0, 193, 45, 176]
theorem hb_69 : prog_1_method_70_code.data.toList.map UInt8.toNat = bl_69 := dk_eq_t _ _ (by decide +kernel)
def bl_70 : List Nat := [26, 16, 9, 184, 0, 179, 27, 17, 0, 255, 184, 0, 179, 177]
theorem hb_70 : prog_1_method_71_code.data.toList.map UInt8.toNat = bl_70 := dk_eq_t _ _ (by decide +kernel)
def bl_71 : List Nat := [42, 180, 0, 16, 42, 180, 0, 10, 182, 0, 72, 42, 180, 0, 16, 27, 182, 1, 31, 78, 45, 199, 0, 7, 3, 167, 0, 12, 42, 180, 0, 16, 45, 28, 182, 0, 242, 172]
theorem hb_71 : prog_1_method_72_code.data.toList.map UInt8.toNat = bl_71 := dk_eq_t _ _ (by decide +kernel)
def bl_72 : List Nat := [42, 44, 180, 0, 186, 182, 1, 99, 44, 180, 0, 144, 153, 0, 9, 29, 16, 40, 161, 0, 4, 177, 16, 40, 54, 4, 43, 180, 0, 221, 58, 5, 25, 5, 190, 54, 6, 3, 54, 7, 21, 7, 21, 6, 162, 0, 45, 25, 5, 21, 7, 50, 58, 8, 25, 8, 44, 182, 1, 55, 153, 0, 23, 42, 21, 4, 182, 1, 75, 42, 43, 25, 8, 29, 4, 96, 184, 1, 65, 16, 32, 54, 4, 132, 7, 1, 167, 255, 210, 42, 16, 41, 182, 1, 75, 177]
theorem hb_72 : prog_1_method_73_code.data.toList.map UInt8.toNat = bl_72 := dk_eq_t _ _ (by decide +kernel)
def bl_73 : List Nat := [42, 183, 0, 1, 42, 17, 3, 12, 188, 10, 181, 0, 7, 42, 17, 3, 12, 188, 10, 181, 0, 13, 42, 17, 3, 12, 188, 10, 181, 0, 16, 42, 17, 3, 12, 188, 10, 181, 0, 19, 42, 17, 30, 120, 188, 10, 181, 0, 22, 42, 16, 40, 188, 4, 181, 0, 25, 42, 17, 1, 244, 188, 10, 181, 0, 29, 42, 2, 181, 0, 32, 42, 7, 188, 10, 181, 0, 36, 42, 16, 40, 188, 10, 181, 0, 39, 42, 17, 1, 144, 188, 10, 181, 0, 42, 42, 182, 0, 45, 177]
theorem hb_73 : prog_9_method_1_code.data.toList.map UInt8.toNat = bl_73 := dk_eq_t _ _ (by decide +kernel)
def bl_74 : List Nat := [42, 180, 0, 48, 172]
theorem hb_74 : prog_9_method_2_code.data.toList.map UInt8.toNat = bl_74 := dk_eq_t _ _ (by decide +kernel)
def bl_75 : List Nat := [26, 27, 161, 0, 12, 26, 28, 163, 0, 7, 4, 167, 0, 4, 3, 172]
theorem hb_75 : prog_9_method_3_code.data.toList.map UInt8.toNat = bl_75 := dk_eq_t _ _ (by decide +kernel)
def bl_76 : List Nat := [27, 153, 0, 8, 42, 28, 181, 0, 48, 27, 172]
theorem hb_76 : prog_9_method_4_code.data.toList.map UInt8.toNat = bl_76 := dk_eq_t _ _ (by decide +kernel)
def bl_77 : List Nat := [3, 54, 5, 21, 5, 21, 4, 162, 0, 21, 44, 29, 21, 5, 96, 42, 27, 21, 5, 96, 46, 79, 132, 5, 1, 167, 255, 234, 177]
theorem hb_77 : prog_9_method_5_code.data.toList.map UInt8.toNat = bl_77 := dk_eq_t _ _ (by decide +kernel)
def bl_78 : List Nat := [3, 60, 27, 17, 3, 12, 162, 0, 16, 42, 180, 0, 7, 27, 3, 79, 132, 1, 1, 167, 255, 239, 42, 180, 0, 7, 8, 6, 79, 3, 60, 27, 6, 162, 0, 19, 42, 180, 0, 7, 16, 6, 27, 96, 27, 79, 132, 1, 1, 167, 255, 238, 42, 180, 0, 7, 16, 59, 16, 20, 79, 42, 2, 16, 9, 3, 3, 182, 0, 51, 87, 177]
theorem hb_78 : prog_9_method_6_code.data.toList.map UInt8.toNat = bl_78 := dk_eq_t _ _ (by decide +kernel)
def bl_79 : List Nat := [42, 180, 0, 7, 3, 46, 54, 5, 42, 180, 0, 7, 16, 60, 21, 5, 96, 27, 79, 42, 180, 0, 7, 16, 100, 21, 5, 96, 28, 79, 42, 180, 0, 7, 17, 0, 140, 21, 5, 96, 3, 79, 42, 180, 0, 7, 17, 0, 180, 21, 5, 96, 29, 79, 42, 180, 0, 7, 17, 0, 220, 21, 5, 96, 21, 4, 79, 42, 180, 0, 7, 17, 1, 4, 21, 5, 96, 2, 79, 42, 180, 0, 7, 17, 1, 44, 21, 5, 96, 2, 79, 42, 180, 0, 7, 17, 1, 84, 21, 5, 96, 3, 79, 42, 180, 0, 7, 17, 1, 124, 21, 5, 96, 3, 79, 42, 180, 0, 7, 17, 1, 164, 21, 5, 96, 2, 79, 3, 54, 6, 21, 6, 16, 8, 162, 0, 27, 42, 180, 0, 7, 17, 1, 204, 16, 8, 21, 5, 104, 96, 21, 6, 96, 2, 79, 132, 6, 1, 167, 255, 228, 42, 180, 0, 7, 3, 92, 46, 4, 96, 79, 21, 5, 172]
theorem hb_79 : prog_9_method_7_code.data.toList.map UInt8.toNat = bl_79 := dk_eq_t _ _ (by decide +kernel)
def bl_80 : List Nat := [42, 180, 0, 55, 16, 10, 160, 0, 31, 42, 180, 0, 22, 17, 3, 12, 42, 180, 0, 22, 3, 17, 27, 108, 184, 0, 58, 42, 89, 180, 0, 55, 4, 100, 181, 0, 55, 42, 180, 0, 7, 3, 42, 180, 0, 22, 17, 3, 12, 42, 180, 0, 55, 104, 17, 3, 12, 184, 0, 58, 42, 89, 180, 0, 55, 4, 96, 181, 0, 55, 177]
theorem hb_80 : prog_9_method_8_code.data.toList.map UInt8.toNat = bl_80 := dk_eq_t _ _ (by decide +kernel)
def bl_81 : List Nat := [42, 180, 0, 7, 3, 42, 180, 0, 16, 3, 17, 3, 12, 184, 0, 58, 177]
theorem hb_81 : prog_9_method_9_code.data.toList.map UInt8.toNat = bl_81 := dk_eq_t _ _ (by decide +kernel)
def bl_82 : List Nat := [42, 180, 0, 16, 3, 42, 180, 0, 7, 3, 17, 3, 12, 184, 0, 58, 177]
theorem hb_82 : prog_9_method_10_code.data.toList.map UInt8.toNat = bl_82 := dk_eq_t _ _ (by decide +kernel)
def bl_83 : List Nat := [42, 180, 0, 7, 17, 0, 140, 27, 96, 46, 154, 0, 7, 4, 167, 0, 4, 3, 172]
theorem hb_83 : prog_9_method_11_code.data.toList.map UInt8.toNat = bl_83 := dk_eq_t _ _ (by decide +kernel)
def bl_84 : List Nat := [42, 180, 0, 7, 17, 0, 140, 27, 96, 46, 29, 160, 0, 24, 42, 180, 0, 7, 16, 60, 27, 96, 46, 28, 160, 0, 11, 27, 153, 0, 7, 4, 167, 0, 4, 3, 172]
theorem hb_84 : prog_9_method_12_code.data.toList.map UInt8.toNat = bl_84 := dk_eq_t _ _ (by decide +kernel)
def bl_85 : List Nat := [3, 62, 3, 54, 4, 21, 4, 42, 180, 0, 7, 3, 46, 162, 0, 28, 29, 42, 21, 4, 27, 28, 182, 0, 62, 153, 0, 7, 4, 167, 0, 4, 3, 96, 62, 132, 4, 1, 167, 255, 223, 29, 172]
theorem hb_85 : prog_9_method_13_code.data.toList.map UInt8.toNat = bl_85 := dk_eq_t _ _ (by decide +kernel)
def bl_86 : List Nat := [42, 27, 182, 0, 66, 153, 0, 26, 3, 42, 180, 0, 7, 16, 100, 27, 96, 46, 42, 27, 3, 182, 0, 70, 100, 184, 0, 74, 167, 0, 4, 3, 172]
theorem hb_86 : prog_9_method_14_code.data.toList.map UInt8.toNat = bl_86 := dk_eq_t _ _ (by decide +kernel)
def bl_87 : List Nat := [42, 180, 0, 7, 17, 1, 84, 27, 96, 46, 28, 122, 4, 126, 4, 160, 0, 7, 4, 167, 0, 4, 3, 172]
theorem hb_87 : prog_9_method_15_code.data.toList.map UInt8.toNat = bl_87 := dk_eq_t _ _ (by decide +kernel)
def bl_88 : List Nat := [28, 62, 29, 153, 0, 29, 42, 180, 0, 7, 16, 60, 29, 96, 46, 27, 159, 0, 16, 42, 180, 0, 7, 16, 60, 29, 96, 46, 62, 167, 255, 229, 29, 153, 0, 7, 4, 167, 0, 4, 3, 172]
theorem hb_88 : prog_9_method_16_code.data.toList.map UInt8.toNat = bl_88 := dk_eq_t _ _ (by decide +kernel)
def bl_89 : List Nat := [3, 61, 27, 62, 29, 153, 0, 19, 132, 2, 1, 42, 180, 0, 7, 16, 60, 29, 96, 46, 62, 167, 255, 239, 28, 172]
theorem hb_89 : prog_9_method_17_code.data.toList.map UInt8.toNat = bl_89 := dk_eq_t _ _ (by decide +kernel)
def bl_90 : List Nat := [3, 60, 3, 61, 28, 42, 180, 0, 7, 3, 46, 162, 0, 25, 27, 42, 28, 182, 0, 66, 153, 0, 7, 4, 167, 0, 4, 3, 96, 60, 132, 2, 1, 167, 255, 227, 27, 172]
theorem hb_90 : prog_9_method_18_code.data.toList.map UInt8.toNat = bl_90 := dk_eq_t _ _ (by decide +kernel)
def bl_91 : List Nat := [42, 27, 182, 0, 66, 153, 0, 71, 27, 28, 159, 0, 66, 42, 28, 27, 182, 0, 79, 154, 0, 57, 42, 180, 0, 25, 27, 51, 154, 0, 48, 42, 27, 182, 0, 83, 158, 0, 40, 42, 27, 182, 0, 87, 42, 180, 0, 7, 16, 59, 46, 162, 0, 25, 42, 27, 42, 180, 0, 7, 17, 0, 180, 28, 96, 46, 182, 0, 90, 154, 0, 7, 4, 167, 0, 4, 3, 172]
theorem hb_91 : prog_9_method_19_code.data.toList.map UInt8.toNat = bl_91 := dk_eq_t _ _ (by decide +kernel)
def bl_92 : List Nat := [28, 62, 29, 153, 0, 32, 29, 28, 159, 0, 14, 42, 29, 27, 182, 0, 93, 153, 0, 5, 29, 172, 42, 180, 0, 7, 16, 60, 29, 96, 46, 62, 167, 255, 226, 2, 172]
theorem hb_92 : prog_9_method_20_code.data.toList.map UInt8.toNat = bl_92 := dk_eq_t _ _ (by decide +kernel)
def bl_93 : List Nat := [2, 54, 4, 4, 54, 5, 21, 5, 42, 180, 0, 7, 3, 46, 162, 0, 81, 21, 5, 28, 159, 0, 69, 29, 153, 0, 27, 42, 180, 0, 7, 17, 0, 180, 21, 5, 96, 46, 42, 180, 0, 7, 17, 0, 180, 27, 96, 46, 160, 0, 41, 42, 21, 5, 27, 182, 0, 93, 154, 0, 6, 167, 0, 28, 21, 4, 2, 159, 0, 18, 42, 21, 5, 182, 0, 83, 42, 21, 4, 182, 0, 83, 164, 0, 7, 21, 5, 54, 4, 132, 5, 1, 167, 255, 170, 21, 4, 172]
theorem hb_93 : prog_9_method_21_code.data.toList.map UInt8.toNat = bl_93 := dk_eq_t _ _ (by decide +kernel)
def bl_94 : List Nat := [28, 154, 0, 5, 2, 172, 4, 62, 29, 42, 180, 0, 7, 3, 46, 162, 0, 43, 29, 28, 159, 0, 32, 42, 29, 42, 180, 0, 7, 16, 60, 28, 96, 46, 3, 182, 0, 62, 153, 0, 14, 42, 29, 27, 182, 0, 93, 153, 0, 5, 29, 172, 132, 3, 1, 167, 255, 209, 2, 172]
theorem hb_94 : prog_9_method_22_code.data.toList.map UInt8.toNat = bl_94 := dk_eq_t _ _ (by decide +kernel)
def bl_95 : List Nat := [4, 62, 29, 42, 180, 0, 7, 3, 46, 162, 0, 25, 29, 28, 159, 0, 14, 42, 29, 27, 182, 0, 93, 153, 0, 5, 29, 172, 132, 3, 1, 167, 255, 227, 2, 172]
theorem hb_95 : prog_9_method_23_code.data.toList.map UInt8.toNat = bl_95 := dk_eq_t _ _ (by decide +kernel)
def bl_96 : List Nat := [27, 170, 0, 0, 0, 0, 0, 61, 0, 0, 0, 0, 0, 0, 0, 3, 0, 0, 0, 31, 0, 0, 0, 38, 0, 0, 0, 46, 0, 0, 0, 54, 42, 28, 29, 182, 0, 96, 172, 42, 28, 29, 4, 182, 0, 99, 172, 42, 28, 29, 3, 182, 0, 99, 172, 42, 28, 29, 182, 0, 103, 172, 42, 28, 29, 182, 0, 106, 172]
theorem hb_96 : prog_9_method_24_code.data.toList.map UInt8.toNat = bl_96 := dk_eq_t _ _ (by decide +kernel)
def bl_97 : List Nat := [3, 62, 29, 42, 180, 0, 7, 8, 46, 162, 0, 35, 42, 42, 180, 0, 7, 16, 6, 29, 96, 46, 27, 28, 182, 0, 109, 54, 4, 21, 4, 2, 159, 0, 6, 21, 4, 172, 132, 3, 1, 167, 255, 217, 3, 172]
theorem hb_97 : prog_9_method_25_code.data.toList.map UInt8.toNat = bl_97 := dk_eq_t _ _ (by decide +kernel)
def bl_98 : List Nat := [42, 180, 0, 7, 16, 60, 28, 96, 27, 79, 42, 180, 0, 7, 17, 1, 124, 28, 96, 92, 46, 4, 96, 79, 42, 180, 0, 7, 5, 92, 46, 4, 96, 79, 42, 180, 0, 7, 6, 92, 46, 27, 154, 0, 7, 4, 167, 0, 4, 3, 96, 79, 177]
theorem hb_98 : prog_9_method_26_code.data.toList.map UInt8.toNat = bl_98 := dk_eq_t _ _ (by decide +kernel)
def bl_99 : List Nat := [42, 180, 0, 7, 16, 60, 27, 96, 46, 62, 28, 153, 0, 36, 42, 180, 0, 25, 29, 51, 154, 0, 27, 42, 180, 0, 7, 17, 0, 220, 29, 96, 46, 153, 0, 14, 42, 180, 0, 7, 3, 46, 16, 40, 160, 0, 5, 2, 172, 42, 180, 0, 7, 17, 0, 220, 29, 96, 92, 46, 4, 100, 79, 42, 180, 0, 7, 7, 92, 46, 4, 96, 79, 42, 29, 42, 180, 0, 7, 16, 100, 27, 96, 46, 42, 180, 0, 7, 17, 0, 180, 27, 96, 46, 42, 180, 0, 7, 17, 0, 220, 27, 96, 46, 182, 0, 51, 54, 4, 42, 180, 0, 25, 21, 4, 3, 84, 42, 180, 0, 7, 17, 1, 164, 27, 96, 21, 4, 79, 21, 4, 172]
theorem hb_99 : prog_9_method_27_code.data.toList.map UInt8.toNat = bl_99 := dk_eq_t _ _ (by decide +kernel)
def bl_100 : List Nat := [42, 180, 0, 7, 17, 1, 204, 16, 8, 27, 104, 96, 28, 96, 46, 62, 29, 2, 159, 0, 24, 42, 29, 182, 0, 66, 153, 0, 16, 42, 180, 0, 25, 29, 51, 154, 0, 7, 29, 167, 0, 8, 42, 27, 182, 0, 113, 172]
theorem hb_100 : prog_9_method_28_code.data.toList.map UInt8.toNat = bl_100 := dk_eq_t _ _ (by decide +kernel)
def bl_101 : List Nat := [42, 180, 0, 7, 17, 1, 4, 27, 96, 46, 61, 28, 2, 159, 0, 22, 42, 28, 182, 0, 66, 153, 0, 14, 42, 180, 0, 25, 28, 51, 154, 0, 5, 28, 172, 3, 62, 29, 42, 180, 0, 7, 3, 46, 162, 0, 30, 42, 29, 27, 3, 182, 0, 62, 153, 0, 14, 42, 180, 0, 25, 29, 51, 154, 0, 5, 29, 172, 132, 3, 1, 167, 255, 222, 42, 180, 0, 7, 16, 60, 27, 96, 46, 172]
theorem hb_101 : prog_9_method_29_code.data.toList.map UInt8.toNat = bl_101 := dk_eq_t _ _ (by decide +kernel)
def bl_102 : List Nat := [3, 61, 28, 42, 180, 0, 7, 4, 46, 162, 0, 37, 42, 42, 180, 0, 7, 16, 19, 28, 96, 46, 27, 4, 182, 0, 62, 153, 0, 13, 42, 180, 0, 7, 16, 19, 28, 96, 46, 172, 132, 2, 1, 167, 255, 215, 2, 172]
theorem hb_102 : prog_9_method_30_code.data.toList.map UInt8.toNat = bl_102 := dk_eq_t _ _ (by decide +kernel)
def bl_103 : List Nat := [3, 61, 42, 27, 182, 0, 116, 62, 29, 2, 159, 0, 36, 42, 180, 0, 7, 17, 0, 140, 29, 96, 5, 79, 28, 42, 180, 0, 7, 17, 1, 44, 29, 96, 46, 96, 61, 42, 27, 182, 0, 116, 62, 167, 255, 221, 28, 172]
theorem hb_103 : prog_9_method_31_code.data.toList.map UInt8.toNat = bl_103 := dk_eq_t _ _ (by decide +kernel)
def bl_104 : List Nat := [42, 180, 0, 7, 16, 60, 27, 96, 46, 62, 42, 180, 0, 7, 6, 46, 54, 4, 42, 180, 0, 7, 17, 0, 140, 27, 96, 4, 79, 42, 180, 0, 7, 17, 1, 44, 27, 96, 28, 79, 42, 180, 0, 7, 16, 19, 42, 180, 0, 7, 4, 46, 96, 27, 79, 42, 180, 0, 7, 4, 92, 46, 4, 96, 79, 42, 27, 28, 182, 0, 119, 54, 5, 3, 54, 6, 21, 6, 16, 8, 162, 0, 51, 42, 180, 0, 7, 16, 11, 21, 6, 96, 46, 27, 160, 0, 31, 42, 180, 0, 7, 16, 11, 21, 6, 96, 21, 5, 2, 159, 0, 8, 21, 5, 167, 0, 10, 42, 27, 21, 6, 182, 0, 122, 79, 132, 6, 1, 167, 255, 204, 4, 54, 6, 21, 6, 42, 180, 0, 7, 3, 46, 162, 0, 56, 42, 21, 6, 27, 3, 182, 0, 62, 154, 0, 6, 167, 0, 36, 42, 21, 5, 2, 159, 0, 17, 42, 21, 5, 182, 0, 83, 158, 0, 8, 21, 5, 167, 0, 10, 42, 21, 6, 27, 182, 0, 125, 21, 6, 182, 0, 128, 132, 6, 1, 167, 255, 195, 4, 54, 6, 21, 6, 42, 180, 0, 7, 3, 46, 162, 0, 31, 42, 21, 6, 27, 4, 182, 0, 62, 153, 0, 14, 42, 180, 0, 7, 16, 60, 21, 6, 96, 29, 79, 132, 6, 1, 167, 255, 220, 29, 154, 0, 11, 42, 3, 182, 0, 132, 167, 0, 4, 3, 54, 6, 21, 6, 156, 0, 7, 2, 167, 0, 12, 42, 180, 0, 7, 6, 46, 21, 4, 100, 172]
theorem hb_104 : prog_9_method_32_code.data.toList.map UInt8.toNat = bl_104 := dk_eq_t _ _ (by decide +kernel)
def bl_105 : List Nat := [42, 180, 0, 7, 3, 46, 62, 3, 54, 4, 3, 54, 5, 21, 5, 16, 40, 162, 0, 56, 42, 180, 0, 25, 21, 5, 21, 5, 158, 0, 37, 21, 5, 29, 162, 0, 31, 42, 21, 5, 182, 0, 66, 153, 0, 22, 42, 180, 0, 7, 17, 0, 180, 21, 5, 96, 46, 27, 160, 0, 7, 4, 167, 0, 4, 3, 84, 132, 5, 1, 167, 255, 199, 4, 54, 5, 21, 5, 29, 162, 0, 46, 42, 180, 0, 25, 21, 5, 51, 154, 0, 6, 167, 0, 27, 42, 21, 5, 28, 182, 0, 135, 54, 6, 21, 4, 21, 6, 156, 0, 7, 3, 167, 0, 4, 4, 96, 54, 4, 132, 5, 1, 167, 255, 210, 3, 54, 5, 21, 5, 16, 40, 162, 0, 17, 42, 180, 0, 25, 21, 5, 3, 84, 132, 5, 1, 167, 255, 238, 21, 4, 172]
theorem hb_105 : prog_9_method_33_code.data.toList.map UInt8.toNat = bl_105 := dk_eq_t _ _ (by decide +kernel)
def bl_106 : List Nat := [16, 24, 61, 28, 155, 0, 35, 42, 180, 0, 29, 42, 180, 0, 138, 27, 28, 122, 17, 0, 255, 126, 79, 42, 89, 180, 0, 138, 4, 96, 181, 0, 138, 132, 2, 248, 167, 255, 223, 177]
theorem hb_106 : prog_9_method_34_code.data.toList.map UInt8.toNat = bl_106 := dk_eq_t _ _ (by decide +kernel)
def bl_107 : List Nat := [42, 3, 181, 0, 48, 42, 180, 0, 138, 16, 20, 96, 17, 1, 244, 164, 0, 5, 2, 172, 42, 27, 182, 0, 141, 42, 28, 182, 0, 141, 42, 29, 182, 0, 141, 42, 21, 4, 182, 0, 141, 42, 21, 5, 182, 0, 141, 42, 180, 0, 138, 172]
theorem hb_107 : prog_9_method_35_code.data.toList.map UInt8.toNat = bl_107 := dk_eq_t _ _ (by decide +kernel)
def bl_108 : List Nat := [42, 3, 181, 0, 48, 27, 3, 42, 180, 0, 138, 184, 0, 145, 154, 0, 5, 3, 172, 42, 27, 181, 0, 138, 4, 172]
theorem hb_108 : prog_9_method_36_code.data.toList.map UInt8.toNat = bl_108 := dk_eq_t _ _ (by decide +kernel)
def bl_109 : List Nat := [27, 42, 180, 0, 138, 162, 0, 12, 42, 180, 0, 29, 27, 46, 167, 0, 4, 2, 172]
theorem hb_109 : prog_9_method_37_code.data.toList.map UInt8.toNat = bl_109 := dk_eq_t _ _ (by decide +kernel)
def bl_110 : List Nat := [42, 42, 180, 0, 148, 182, 0, 151, 16, 32, 159, 0, 16, 42, 42, 180, 0, 148, 182, 0, 151, 16, 10, 160, 0, 16, 42, 89, 180, 0, 148, 4, 96, 181, 0, 148, 167, 255, 220, 42, 42, 180, 0, 148, 181, 0, 154, 42, 42, 180, 0, 148, 182, 0, 151, 60, 42, 3, 181, 0, 157, 27, 2, 160, 0, 11, 42, 3, 181, 0, 160, 167, 0, 158, 27, 16, 97, 16, 122, 184, 0, 145, 153, 0, 39, 42, 4, 181, 0, 160, 42, 42, 180, 0, 148, 182, 0, 151, 16, 97, 16, 122, 184, 0, 145, 153, 0, 124, 42, 89, 180, 0, 148, 4, 96, 181, 0, 148, 167, 255, 228, 27, 16, 48, 16, 57, 184, 0, 145, 153, 0, 75, 42, 5, 181, 0, 160, 42, 42, 180, 0, 148, 182, 0, 151, 16, 48, 16, 57, 184, 0, 145, 153, 0, 77, 42, 180, 0, 148, 42, 180, 0, 154, 100, 5, 162, 0, 26, 42, 16, 10, 42, 180, 0, 157, 104, 42, 42, 180, 0, 148, 182, 0, 151, 96, 16, 48, 100, 181, 0, 157, 42, 89, 180, 0, 148, 4, 96, 181, 0, 148, 167, 255, 192, 42, 27, 16, 59, 160, 0, 7, 6, 167, 0, 4, 7, 181, 0, 160, 42, 89, 180, 0, 148, 4, 96, 181, 0, 148, 177]
theorem hb_110 : prog_9_method_38_code.data.toList.map UInt8.toNat = bl_110 := dk_eq_t _ _ (by decide +kernel)
def bl_111 : List Nat := [42, 180, 0, 148, 42, 180, 0, 154, 100, 172]
theorem hb_111 : prog_9_method_39_code.data.toList.map UInt8.toNat = bl_111 := dk_eq_t _ _ (by decide +kernel)
def bl_112 : List Nat := [42, 180, 0, 163, 154, 0, 16, 42, 27, 181, 0, 163, 42, 42, 180, 0, 154, 181, 0, 166, 3, 172]
theorem hb_112 : prog_9_method_40_code.data.toList.map UInt8.toNat = bl_112 := dk_eq_t _ _ (by decide +kernel)
def bl_113 : List Nat := [42, 180, 0, 160, 4, 160, 0, 14, 42, 182, 0, 169, 43, 182, 0, 173, 159, 0, 5, 3, 172, 3, 61, 28, 43, 182, 0, 173, 162, 0, 30, 42, 180, 0, 29, 42, 180, 0, 154, 28, 96, 46, 43, 28, 182, 0, 178, 159, 0, 5, 3, 172, 132, 2, 1, 167, 255, 224, 4, 172]
theorem hb_113 : prog_9_method_41_code.data.toList.map UInt8.toNat = bl_113 := dk_eq_t _ _ (by decide +kernel)
def bl_114 : List Nat := [42, 180, 0, 160, 5, 160, 0, 11, 42, 182, 0, 169, 5, 164, 0, 9, 42, 4, 182, 0, 182, 172, 42, 180, 0, 157, 27, 28, 184, 0, 145, 154, 0, 11, 42, 5, 182, 0, 182, 153, 0, 7, 4, 167, 0, 4, 3, 172]
theorem hb_114 : prog_9_method_42_code.data.toList.map UInt8.toNat = bl_114 := dk_eq_t _ _ (by decide +kernel)
def bl_115 : List Nat := [42, 28, 29, 182, 0, 185, 154, 0, 5, 3, 172, 42, 180, 0, 36, 27, 42, 180, 0, 157, 79, 42, 182, 0, 188, 4, 172]
theorem hb_115 : prog_9_method_43_code.data.toList.map UInt8.toNat = bl_115 := dk_eq_t _ _ (by decide +kernel)
def bl_116 : List Nat := [42, 180, 0, 191, 27, 126, 153, 0, 9, 42, 6, 182, 0, 182, 172, 42, 89, 180, 0, 191, 27, 128, 181, 0, 191, 42, 182, 0, 188, 4, 172]
theorem hb_116 : prog_9_method_44_code.data.toList.map UInt8.toNat = bl_116 := dk_eq_t _ _ (by decide +kernel)
def bl_117 : List Nat := [42, 18, 194, 182, 0, 196, 153, 0, 5, 3, 172, 42, 18, 200, 182, 0, 196, 153, 0, 5, 4, 172, 42, 18, 202, 182, 0, 196, 153, 0, 5, 5, 172, 42, 18, 204, 182, 0, 196, 153, 0, 5, 6, 172, 42, 18, 206, 182, 0, 196, 153, 0, 7, 7, 167, 0, 4, 2, 172]
theorem hb_117 : prog_9_method_45_code.data.toList.map UInt8.toNat = bl_117 := dk_eq_t _ _ (by decide +kernel)
def bl_118 : List Nat := [42, 5, 182, 0, 208, 153, 0, 14, 42, 3, 4, 16, 20, 182, 0, 211, 154, 0, 5, 3, 172, 42, 180, 0, 7, 16, 59, 42, 180, 0, 36, 3, 46, 79, 4, 172]
theorem hb_118 : prog_9_method_46_code.data.toList.map UInt8.toNat = bl_118 := dk_eq_t _ _ (by decide +kernel)
def bl_119 : List Nat := [42, 7, 182, 0, 208, 153, 0, 25, 42, 3, 3, 16, 9, 182, 0, 211, 153, 0, 14, 42, 4, 3, 16, 9, 182, 0, 211, 154, 0, 5, 3, 172, 42, 180, 0, 7, 16, 100, 42, 180, 0, 36, 3, 46, 79, 42, 180, 0, 7, 17, 0, 220, 42, 180, 0, 36, 4, 46, 79, 4, 172]
theorem hb_119 : prog_9_method_47_code.data.toList.map UInt8.toNat = bl_119 := dk_eq_t _ _ (by decide +kernel)
def bl_120 : List Nat := [42, 182, 0, 188, 42, 3, 4, 42, 180, 0, 7, 3, 46, 4, 100, 182, 0, 211, 153, 0, 13, 42, 3, 16, 7, 182, 0, 185, 154, 0, 5, 3, 172, 42, 180, 0, 7, 17, 1, 204, 16, 8, 42, 180, 0, 36, 3, 46, 104, 96, 42, 180, 0, 157, 96, 46, 2, 159, 0, 9, 42, 6, 182, 0, 182, 172, 42, 4, 3, 16, 7, 182, 0, 211, 153, 0, 19, 42, 3, 42, 180, 0, 7, 3, 46, 4, 100, 182, 0, 185, 154, 0, 5, 3, 172, 42, 180, 0, 157, 42, 180, 0, 36, 3, 46, 160, 0, 9, 42, 5, 182, 0, 182, 172, 42, 5, 3, 42, 180, 0, 7, 3, 46, 4, 100, 182, 0, 211, 154, 0, 5, 3, 172, 42, 180, 0, 7, 17, 1, 204, 16, 8, 42, 180, 0, 36, 3, 46, 104, 96, 42, 180, 0, 36, 4, 46, 96, 42, 180, 0, 36, 5, 46, 79, 4, 172]
theorem hb_120 : prog_9_method_48_code.data.toList.map UInt8.toNat = bl_120 := dk_eq_t _ _ (by decide +kernel)
def bl_121 : List Nat := [42, 4, 182, 0, 208, 154, 0, 5, 3, 172, 42, 180, 0, 7, 8, 3, 79, 3, 60, 42, 180, 0, 160, 4, 160, 0, 72, 42, 182, 0, 214, 61, 28, 2, 160, 0, 9, 42, 4, 182, 0, 182, 172, 27, 28, 122, 4, 126, 4, 160, 0, 9, 42, 6, 182, 0, 182, 172, 27, 4, 28, 120, 128, 60, 42, 180, 0, 7, 16, 6, 42, 180, 0, 7, 8, 46, 96, 28, 79, 42, 180, 0, 7, 8, 92, 46, 4, 96, 79, 42, 182, 0, 188, 167, 255, 182, 4, 172]
theorem hb_121 : prog_9_method_49_code.data.toList.map UInt8.toNat = bl_121 := dk_eq_t _ _ (by decide +kernel)
def bl_122 : List Nat := [42, 180, 0, 7, 3, 46, 16, 24, 164, 0, 9, 42, 7, 182, 0, 182, 172, 42, 182, 0, 188, 42, 3, 42, 180, 0, 7, 3, 46, 4, 100, 182, 0, 185, 154, 0, 5, 3, 172, 42, 42, 180, 0, 157, 182, 0, 83, 154, 0, 9, 42, 5, 182, 0, 182, 172, 42, 3, 3, 42, 180, 0, 7, 3, 46, 4, 100, 182, 0, 211, 153, 0, 36, 42, 4, 3, 16, 9, 182, 0, 211, 153, 0, 25, 42, 5, 3, 16, 9, 182, 0, 211, 153, 0, 14, 42, 6, 3, 16, 9, 182, 0, 211, 154, 0, 5, 3, 172, 42, 42, 180, 0, 36, 3, 46, 42, 180, 0, 36, 4, 46, 42, 180, 0, 36, 5, 46, 42, 180, 0, 36, 6, 46, 182, 0, 51, 87, 4, 172]
theorem hb_122 : prog_9_method_50_code.data.toList.map UInt8.toNat = bl_122 := dk_eq_t _ _ (by decide +kernel)
def bl_123 : List Nat := [42, 182, 0, 188, 42, 4, 42, 180, 0, 7, 3, 46, 4, 100, 182, 0, 185, 154, 0, 5, 3, 172, 42, 180, 0, 7, 17, 1, 4, 42, 180, 0, 157, 96, 46, 2, 159, 0, 9, 42, 6, 182, 0, 182, 172, 42, 3, 4, 42, 180, 0, 7, 3, 46, 4, 100, 182, 0, 211, 154, 0, 5, 3, 172, 42, 3, 42, 180, 0, 7, 3, 46, 4, 100, 182, 0, 185, 154, 0, 5, 3, 172, 42, 180, 0, 157, 42, 180, 0, 36, 3, 46, 160, 0, 9, 42, 5, 182, 0, 182, 172, 42, 4, 3, 42, 180, 0, 7, 3, 46, 4, 100, 182, 0, 211, 154, 0, 5, 3, 172, 42, 180, 0, 7, 17, 1, 4, 42, 180, 0, 36, 3, 46, 96, 42, 180, 0, 36, 4, 46, 79, 4, 172]
theorem hb_123 : prog_9_method_51_code.data.toList.map UInt8.toNat = bl_123 := dk_eq_t _ _ (by decide +kernel)
def bl_124 : List Nat := [42, 182, 0, 188, 42, 3, 3, 16, 7, 182, 0, 211, 153, 0, 20, 42, 4, 3, 42, 180, 0, 7, 3, 46, 4, 100, 182, 0, 211, 154, 0, 5, 3, 172, 42, 180, 0, 7, 16, 11, 42, 180, 0, 36, 3, 46, 96, 42, 180, 0, 36, 4, 46, 79, 4, 172]
theorem hb_124 : prog_9_method_52_code.data.toList.map UInt8.toNat = bl_124 := dk_eq_t _ _ (by decide +kernel)
def bl_125 : List Nat := [42, 182, 0, 188, 42, 3, 4, 42, 180, 0, 7, 3, 46, 4, 100, 182, 0, 211, 153, 0, 13, 42, 3, 16, 9, 182, 0, 185, 154, 0, 5, 3, 172, 42, 42, 180, 0, 36, 3, 46, 42, 180, 0, 157, 182, 0, 90, 153, 0, 9, 42, 6, 182, 0, 182, 172, 42, 4, 3, 16, 9, 182, 0, 211, 154, 0, 5, 3, 172, 42, 180, 0, 7, 17, 1, 84, 42, 180, 0, 36, 3, 46, 96, 92, 46, 4, 42, 180, 0, 36, 4, 46, 120, 128, 79, 4, 172]
theorem hb_125 : prog_9_method_53_code.data.toList.map UInt8.toNat = bl_125 := dk_eq_t _ _ (by decide +kernel)
def bl_126 : List Nat := [42, 18, 217, 182, 0, 196, 153, 0, 8, 42, 182, 0, 219, 172, 42, 18, 223, 182, 0, 196, 153, 0, 8, 42, 182, 0, 224, 172, 42, 18, 227, 182, 0, 196, 153, 0, 8, 42, 182, 0, 229, 172, 42, 18, 232, 182, 0, 196, 153, 0, 8, 42, 182, 0, 234, 172, 42, 18, 237, 182, 0, 196, 153, 0, 8, 42, 182, 0, 239, 172, 42, 18, 242, 182, 0, 196, 153, 0, 8, 42, 182, 0, 244, 172, 42, 18, 247, 182, 0, 196, 153, 0, 8, 42, 182, 0, 249, 172, 42, 18, 252, 182, 0, 196, 153, 0, 10, 42, 182, 0, 254, 167, 0, 8, 42, 4, 182, 0, 182, 172]
theorem hb_126 : prog_9_method_54_code.data.toList.map UInt8.toNat = bl_126 := dk_eq_t _ _ (by decide +kernel)
def bl_127 : List Nat := [42, 180, 0, 160, 153, 0, 33, 42, 182, 1, 1, 154, 0, 5, 3, 172, 42, 180, 0, 160, 6, 159, 0, 9, 42, 4, 182, 0, 182, 172, 42, 182, 0, 188, 167, 255, 222, 4, 172]
theorem hb_127 : prog_9_method_55_code.data.toList.map UInt8.toNat = bl_127 := dk_eq_t _ _ (by decide +kernel)
def bl_128 : List Nat := [42, 3, 181, 0, 48, 42, 180, 0, 7, 3, 42, 180, 0, 13, 3, 17, 3, 12, 184, 0, 58, 42, 182, 0, 45, 42, 3, 181, 0, 163, 42, 2, 181, 0, 166, 42, 3, 181, 0, 148, 42, 3, 181, 0, 191, 42, 182, 0, 188, 42, 182, 1, 4, 60, 42, 3, 181, 0, 138, 42, 42, 180, 0, 163, 181, 1, 7, 42, 42, 180, 0, 166, 181, 0, 32, 27, 154, 0, 21, 42, 180, 0, 13, 3, 42, 180, 0, 7, 3, 17, 3, 12, 184, 0, 58, 2, 172, 42, 3, 181, 0, 55, 42, 3, 181, 1, 10, 42, 180, 0, 7, 3, 46, 172]
theorem hb_128 : prog_9_method_56_code.data.toList.map UInt8.toNat = bl_128 := dk_eq_t _ _ (by decide +kernel)
def bl_129 : List Nat := [42, 3, 181, 0, 48, 42, 180, 1, 7, 172]
theorem hb_129 : prog_9_method_57_code.data.toList.map UInt8.toNat = bl_129 := dk_eq_t _ _ (by decide +kernel)
def bl_130 : List Nat := [42, 3, 181, 0, 48, 42, 180, 0, 32, 172]
theorem hb_130 : prog_9_method_58_code.data.toList.map UInt8.toNat = bl_130 := dk_eq_t _ _ (by decide +kernel)
def bl_131 : List Nat := [3, 61, 3, 62, 29, 42, 180, 0, 7, 3, 46, 162, 0, 31, 28, 42, 180, 0, 7, 17, 0, 140, 29, 96, 46, 27, 160, 0, 7, 4, 167, 0, 4, 3, 96, 61, 132, 3, 1, 167, 255, 221, 28, 172]
theorem hb_131 : prog_9_method_59_code.data.toList.map UInt8.toNat = bl_131 := dk_eq_t _ _ (by decide +kernel)
def bl_132 : List Nat := [3, 61, 3, 62, 29, 16, 8, 162, 0, 32, 28, 42, 180, 0, 7, 16, 11, 29, 96, 46, 27, 160, 0, 9, 4, 29, 120, 167, 0, 4, 3, 128, 61, 132, 3, 1, 167, 255, 224, 28, 172]
theorem hb_132 : prog_9_method_60_code.data.toList.map UInt8.toNat = bl_132 := dk_eq_t _ _ (by decide +kernel)
def bl_133 : List Nat := [3, 61, 3, 62, 29, 16, 8, 162, 0, 38, 28, 42, 180, 0, 7, 17, 1, 204, 16, 8, 27, 104, 96, 29, 96, 46, 2, 159, 0, 9, 4, 29, 120, 167, 0, 4, 3, 128, 61, 132, 3, 1, 167, 255, 218, 28, 172]
theorem hb_133 : prog_9_method_61_code.data.toList.map UInt8.toNat = bl_133 := dk_eq_t _ _ (by decide +kernel)
def bl_134 : List Nat := [42, 3, 181, 0, 48, 42, 27, 3, 16, 10, 184, 0, 145, 154, 0, 7, 4, 167, 0, 4, 3, 4, 182, 1, 14, 153, 0, 5, 3, 172, 27, 170, 0, 0, 0, 94, 0, 0, 0, 0, 0, 0, 0, 10, 0, 0, 0, 57, 0, 0, 0, 64, 0, 0, 0, 64, 0, 0, 0, 64, 0, 0, 0, 94, 0, 0, 0, 94, 0, 0, 0, 94, 0, 0, 0, 94, 0, 0, 0, 72, 0, 0, 0, 81, 0, 0, 0, 86, 42, 180, 0, 7, 3, 46, 172, 42, 27, 4, 100, 182, 1, 18, 172, 42, 3, 182, 1, 21, 184, 1, 24, 172, 42, 180, 0, 55, 172, 42, 180, 0, 7, 16, 59, 46, 172, 42, 180, 0, 7, 4, 27, 96, 7, 100, 46, 172]
theorem hb_134 : prog_9_method_62_code.data.toList.map UInt8.toNat = bl_134 := dk_eq_t _ _ (by decide +kernel)
def bl_135 : List Nat := [42, 3, 181, 0, 48, 42, 27, 3, 42, 180, 0, 7, 3, 46, 4, 100, 184, 0, 145, 154, 0, 7, 4, 167, 0, 4, 3, 4, 182, 1, 14, 172]
theorem hb_135 : prog_9_method_63_code.data.toList.map UInt8.toNat = bl_135 := dk_eq_t _ _ (by decide +kernel)
def bl_136 : List Nat := [42, 27, 182, 1, 29, 154, 0, 24, 42, 42, 27, 182, 0, 66, 154, 0, 7, 4, 167, 0, 4, 3, 28, 182, 1, 14, 153, 0, 7, 4, 167, 0, 4, 3, 172]
theorem hb_136 : prog_9_method_64_code.data.toList.map UInt8.toNat = bl_136 := dk_eq_t _ _ (by decide +kernel)
def bl_137 : List Nat := [42, 27, 182, 1, 29, 154, 0, 28, 42, 27, 153, 0, 11, 42, 27, 182, 0, 66, 154, 0, 7, 4, 167, 0, 4, 3, 28, 182, 1, 14, 153, 0, 7, 4, 167, 0, 4, 3, 172]
theorem hb_137 : prog_9_method_65_code.data.toList.map UInt8.toNat = bl_137 := dk_eq_t _ _ (by decide +kernel)
def bl_138 : List Nat := [42, 27, 182, 1, 29, 154, 0, 26, 42, 28, 3, 16, 14, 184, 0, 145, 154, 0, 7, 4, 167, 0, 4, 3, 5, 182, 1, 14, 153, 0, 5, 3, 172, 28, 170, 0, 0, 0, 0, 204, 0, 0, 0, 0, 0, 0, 0, 13, 0, 0, 0, 70, 0, 0, 0, 80, 0, 0, 0, 90, 0, 0, 0, 96, 0, 0, 0, 103, 0, 0, 0, 110, 0, 0, 0, 121, 0, 0, 0, 132, 0, 0, 0, 143, 0, 0, 0, 154, 0, 0, 0, 160, 0, 0, 0, 171, 0, 0, 0, 182, 0, 0, 0, 193, 42, 180, 0, 7, 16, 60, 27, 96, 46, 172, 42, 180, 0, 7, 16, 100, 27, 96, 46, 172, 42, 27, 182, 0, 83, 172, 42, 27, 3, 182, 0, 70, 172, 42, 27, 4, 182, 0, 70, 172, 42, 180, 0, 7, 17, 0, 140, 27, 96, 46, 172, 42, 180, 0, 7, 17, 0, 180, 27, 96, 46, 172, 42, 180, 0, 7, 17, 0, 220, 27, 96, 46, 172, 42, 180, 0, 7, 17, 1, 4, 27, 96, 46, 172, 42, 27, 182, 1, 21, 172, 42, 180, 0, 7, 17, 1, 44, 27, 96, 46, 172, 42, 180, 0, 7, 17, 1, 84, 27, 96, 46, 172, 42, 180, 0, 7, 17, 1, 124, 27, 96, 46, 172, 42, 180, 0, 7, 17, 1, 164, 27, 96, 46, 172, 42, 27, 182, 1, 32, 172]
theorem hb_138 : prog_9_method_66_code.data.toList.map UInt8.toNat = bl_138 := dk_eq_t _ _ (by decide +kernel)
def bl_139 : List Nat := [42, 27, 3, 16, 7, 184, 0, 145, 154, 0, 7, 4, 167, 0, 4, 3, 28, 182, 1, 14, 172]
theorem hb_139 : prog_9_method_67_code.data.toList.map UInt8.toNat = bl_139 := dk_eq_t _ _ (by decide +kernel)
def bl_140 : List Nat := [42, 3, 181, 0, 48, 42, 27, 4, 182, 1, 35, 153, 0, 7, 3, 167, 0, 12, 42, 180, 0, 7, 16, 11, 27, 96, 46, 172]
theorem hb_140 : prog_9_method_68_code.data.toList.map UInt8.toNat = bl_140 := dk_eq_t _ _ (by decide +kernel)
def bl_141 : List Nat := [42, 3, 181, 0, 48, 27, 3, 42, 180, 0, 7, 8, 46, 4, 100, 184, 0, 145, 153, 0, 15, 42, 180, 0, 7, 16, 6, 27, 96, 46, 167, 0, 4, 2, 172]
theorem hb_141 : prog_9_method_69_code.data.toList.map UInt8.toNat = bl_141 := dk_eq_t _ _ (by decide +kernel)
def bl_142 : List Nat := [42, 180, 0, 7, 17, 0, 140, 27, 96, 46, 5, 160, 0, 7, 4, 167, 0, 4, 3, 172]
theorem hb_142 : prog_9_method_70_code.data.toList.map UInt8.toNat = bl_142 := dk_eq_t _ _ (by decide +kernel)
def bl_143 : List Nat := [42, 27, 182, 1, 29, 154, 0, 16, 42, 42, 27, 182, 1, 38, 5, 182, 1, 14, 153, 0, 7, 3, 167, 0, 8, 42, 27, 182, 0, 87, 172]
theorem hb_143 : prog_9_method_71_code.data.toList.map UInt8.toNat = bl_143 := dk_eq_t _ _ (by decide +kernel)
def bl_144 : List Nat := [42, 27, 182, 1, 29, 154, 0, 11, 42, 28, 182, 1, 29, 153, 0, 5, 3, 172, 42, 27, 182, 1, 38, 154, 0, 29, 42, 28, 182, 1, 38, 154, 0, 21, 27, 28, 159, 0, 16, 42, 27, 28, 182, 0, 79, 153, 0, 7, 4, 167, 0, 4, 3, 172]
theorem hb_144 : prog_9_method_72_code.data.toList.map UInt8.toNat = bl_144 := dk_eq_t _ _ (by decide +kernel)
def bl_145 : List Nat := [27, 62, 29, 28, 159, 0, 25, 42, 29, 28, 182, 0, 79, 154, 0, 16, 42, 180, 0, 7, 16, 60, 29, 96, 46, 62, 167, 255, 232, 29, 172]
theorem hb_145 : prog_9_method_73_code.data.toList.map UInt8.toNat = bl_145 := dk_eq_t _ _ (by decide +kernel)
def bl_146 : List Nat := [42, 27, 182, 1, 29, 154, 0, 40, 42, 28, 182, 1, 29, 154, 0, 32, 42, 42, 27, 182, 1, 38, 154, 0, 11, 42, 28, 182, 1, 38, 153, 0, 7, 4, 167, 0, 4, 3, 5, 182, 1, 14, 153, 0, 7, 4, 167, 0, 4, 3, 172]
theorem hb_146 : prog_9_method_74_code.data.toList.map UInt8.toNat = bl_146 := dk_eq_t _ _ (by decide +kernel)
def bl_147 : List Nat := [42, 27, 28, 182, 1, 41, 153, 0, 7, 3, 167, 0, 9, 42, 27, 28, 182, 1, 44, 172]
theorem hb_147 : prog_9_method_75_code.data.toList.map UInt8.toNat = bl_147 := dk_eq_t _ _ (by decide +kernel)
def bl_148 : List Nat := [42, 27, 28, 182, 1, 41, 153, 0, 7, 3, 167, 0, 27, 42, 27, 182, 0, 87, 42, 28, 182, 0, 87, 96, 5, 42, 42, 27, 28, 182, 1, 44, 182, 0, 87, 104, 100, 172]
theorem hb_148 : prog_9_method_76_code.data.toList.map UInt8.toNat = bl_148 := dk_eq_t _ _ (by decide +kernel)
def bl_149 : List Nat := [3, 61, 4, 62, 29, 42, 180, 0, 7, 3, 46, 162, 0, 34, 28, 42, 29, 182, 0, 66, 153, 0, 16, 42, 27, 29, 182, 0, 79, 153, 0, 7, 4, 167, 0, 4, 3, 96, 61, 132, 3, 1, 167, 255, 218, 28, 172]
theorem hb_149 : prog_9_method_77_code.data.toList.map UInt8.toNat = bl_149 := dk_eq_t _ _ (by decide +kernel)
def bl_150 : List Nat := [42, 27, 182, 1, 29, 154, 0, 11, 42, 27, 182, 0, 66, 154, 0, 7, 3, 167, 0, 8, 42, 27, 182, 1, 47, 172]
theorem hb_150 : prog_9_method_78_code.data.toList.map UInt8.toNat = bl_150 := dk_eq_t _ _ (by decide +kernel)
def bl_151 : List Nat := [42, 27, 3, 182, 1, 50, 61, 27, 62, 28, 2, 160, 0, 37, 29, 153, 0, 33, 42, 42, 180, 0, 7, 16, 60, 29, 96, 46, 29, 4, 96, 182, 1, 50, 61, 42, 180, 0, 7, 16, 60, 29, 96, 46, 62, 167, 255, 220, 28, 172]
theorem hb_151 : prog_9_method_79_code.data.toList.map UInt8.toNat = bl_151 := dk_eq_t _ _ (by decide +kernel)
def bl_152 : List Nat := [28, 62, 29, 42, 180, 0, 7, 3, 46, 162, 0, 19, 42, 29, 27, 3, 182, 0, 62, 154, 0, 9, 132, 3, 1, 167, 255, 233, 29, 42, 180, 0, 7, 3, 46, 162, 0, 7, 29, 167, 0, 4, 2, 172]
theorem hb_152 : prog_9_method_80_code.data.toList.map UInt8.toNat = bl_152 := dk_eq_t _ _ (by decide +kernel)
def bl_153 : List Nat := [42, 3, 181, 0, 48, 42, 27, 3, 42, 182, 1, 53, 4, 100, 184, 0, 145, 154, 0, 7, 4, 167, 0, 4, 3, 4, 182, 1, 14, 153, 0, 5, 3, 172, 3, 61, 3, 62, 29, 27, 162, 0, 15, 42, 28, 182, 1, 56, 61, 132, 3, 1, 167, 255, 242, 28, 172]
theorem hb_153 : prog_9_method_81_code.data.toList.map UInt8.toNat = bl_153 := dk_eq_t _ _ (by decide +kernel)
def bl_154 : List Nat := [42, 3, 181, 0, 48, 3, 61, 3, 62, 29, 42, 180, 0, 7, 3, 46, 162, 0, 34, 28, 42, 29, 182, 0, 66, 153, 0, 16, 42, 29, 182, 0, 87, 27, 160, 0, 7, 4, 167, 0, 4, 3, 96, 61, 132, 3, 1, 167, 255, 218, 28, 172]
theorem hb_154 : prog_9_method_82_code.data.toList.map UInt8.toNat = bl_154 := dk_eq_t _ _ (by decide +kernel)
def bl_155 : List Nat := [3, 60, 3, 61, 28, 42, 180, 0, 7, 3, 46, 162, 0, 27, 42, 28, 182, 0, 66, 153, 0, 13, 27, 42, 28, 182, 0, 87, 184, 0, 74, 60, 132, 2, 1, 167, 255, 225, 27, 172]
theorem hb_155 : prog_9_method_83_code.data.toList.map UInt8.toNat = bl_155 := dk_eq_t _ _ (by decide +kernel)
def bl_156 : List Nat := [42, 3, 181, 0, 48, 42, 182, 1, 59, 172]
theorem hb_156 : prog_9_method_84_code.data.toList.map UInt8.toNat = bl_156 := dk_eq_t _ _ (by decide +kernel)
def bl_157 : List Nat := [26, 3, 16, 9, 184, 0, 145, 172]
theorem hb_157 : prog_9_method_85_code.data.toList.map UInt8.toNat = bl_157 := dk_eq_t _ _ (by decide +kernel)
def bl_158 : List Nat := [42, 27, 182, 1, 29, 154, 0, 38, 42, 28, 184, 1, 62, 153, 0, 18, 29, 184, 1, 62, 153, 0, 11, 21, 4, 184, 1, 62, 154, 0, 7, 4, 167, 0, 4, 3, 5, 182, 1, 14, 153, 0, 5, 3, 172, 42, 42, 27, 182, 0, 83, 153, 0, 14, 42, 180, 0, 7, 3, 46, 16, 40, 160, 0, 7, 4, 167, 0, 4, 3, 6, 182, 1, 14, 153, 0, 5, 3, 172, 42, 182, 1, 65, 42, 27, 28, 29, 21, 4, 182, 0, 51, 172]
theorem hb_158 : prog_9_method_86_code.data.toList.map UInt8.toNat = bl_158 := dk_eq_t _ _ (by decide +kernel)
def bl_159 : List Nat := [42, 27, 182, 1, 29, 154, 0, 52, 42, 28, 3, 17, 0, 255, 184, 0, 145, 154, 0, 7, 4, 167, 0, 4, 3, 5, 182, 1, 14, 154, 0, 28, 42, 27, 153, 0, 11, 42, 27, 182, 0, 66, 154, 0, 7, 4, 167, 0, 4, 3, 6, 182, 1, 14, 153, 0, 7, 4, 167, 0, 4, 3, 172]
theorem hb_159 : prog_9_method_87_code.data.toList.map UInt8.toNat = bl_159 := dk_eq_t _ _ (by decide +kernel)
def bl_160 : List Nat := [42, 27, 28, 182, 1, 68, 153, 0, 5, 3, 172, 42, 182, 1, 65, 42, 27, 28, 182, 0, 135, 172]
theorem hb_160 : prog_9_method_88_code.data.toList.map UInt8.toNat = bl_160 := dk_eq_t _ _ (by decide +kernel)
def bl_161 : List Nat := [42, 3, 181, 0, 48, 42, 27, 184, 1, 62, 153, 0, 14, 28, 3, 17, 0, 255, 184, 0, 145, 154, 0, 7, 4, 167, 0, 4, 3, 4, 182, 1, 14, 172]
theorem hb_161 : prog_9_method_89_code.data.toList.map UInt8.toNat = bl_161 := dk_eq_t _ _ (by decide +kernel)
def bl_162 : List Nat := [42, 27, 28, 182, 1, 71, 153, 0, 5, 3, 172, 42, 182, 1, 65, 42, 27, 28, 182, 1, 74, 172]
theorem hb_162 : prog_9_method_90_code.data.toList.map UInt8.toNat = bl_162 := dk_eq_t _ _ (by decide +kernel)
def bl_163 : List Nat := [42, 27, 5, 182, 1, 77, 153, 0, 5, 3, 172, 42, 27, 182, 0, 116, 61, 42, 28, 2, 160, 0, 7, 4, 167, 0, 4, 3, 6, 182, 1, 14, 153, 0, 5, 3, 172, 42, 182, 1, 65, 42, 180, 0, 7, 17, 0, 140, 28, 96, 5, 79, 17, 3, 232, 28, 104, 42, 180, 0, 7, 17, 1, 44, 28, 96, 46, 96, 172]
theorem hb_163 : prog_9_method_91_code.data.toList.map UInt8.toNat = bl_163 := dk_eq_t _ _ (by decide +kernel)
def bl_164 : List Nat := [42, 27, 5, 182, 1, 77, 153, 0, 5, 3, 172, 42, 182, 1, 65, 42, 27, 182, 0, 132, 172]
theorem hb_164 : prog_9_method_92_code.data.toList.map UInt8.toNat = bl_164 := dk_eq_t _ _ (by decide +kernel)
def bl_165 : List Nat := [42, 27, 182, 1, 29, 154, 0, 48, 42, 28, 184, 1, 62, 154, 0, 7, 4, 167, 0, 4, 3, 5, 182, 1, 14, 154, 0, 28, 42, 27, 153, 0, 11, 42, 27, 182, 0, 66, 154, 0, 7, 4, 167, 0, 4, 3, 6, 182, 1, 14, 153, 0, 5, 3, 172, 42, 182, 1, 65, 42, 180, 0, 7, 17, 1, 84, 27, 96, 92, 46, 4, 28, 120, 128, 79, 3, 62, 4, 54, 4, 21, 4, 42, 180, 0, 7, 3, 46, 162, 0, 54, 42, 21, 4, 27, 3, 182, 0, 62, 153, 0, 37, 42, 180, 0, 7, 17, 0, 180, 21, 4, 96, 46, 28, 159, 0, 6, 167, 0, 19, 42, 42, 21, 4, 27, 182, 0, 125, 21, 4, 182, 0, 128, 132, 3, 1, 132, 4, 1, 167, 255, 197, 29, 172]
theorem hb_165 : prog_9_method_93_code.data.toList.map UInt8.toNat = bl_165 := dk_eq_t _ _ (by decide +kernel)
def bl_166 : List Nat := [42, 27, 182, 1, 29, 154, 0, 44, 42, 28, 184, 1, 62, 154, 0, 7, 4, 167, 0, 4, 3, 5, 182, 1, 14, 154, 0, 24, 42, 42, 27, 182, 0, 66, 154, 0, 7, 4, 167, 0, 4, 3, 6, 182, 1, 14, 153, 0, 5, 3, 172, 42, 182, 1, 65, 42, 27, 28, 182, 0, 90, 62, 42, 180, 0, 7, 17, 1, 84, 27, 96, 92, 46, 4, 28, 120, 2, 130, 126, 79, 29, 172]
theorem hb_166 : prog_9_method_94_code.data.toList.map UInt8.toNat = bl_166 := dk_eq_t _ _ (by decide +kernel)
def bl_167 : List Nat := [42, 27, 182, 1, 29, 154, 0, 11, 42, 28, 182, 1, 29, 153, 0, 5, 3, 172, 42, 27, 153, 0, 59, 42, 27, 182, 0, 66, 153, 0, 51, 42, 28, 182, 0, 66, 153, 0, 43, 27, 28, 159, 0, 38, 42, 27, 28, 182, 0, 79, 154, 0, 29, 42, 28, 182, 0, 83, 153, 0, 21, 42, 28, 42, 180, 0, 7, 17, 0, 180, 27, 96, 46, 182, 0, 90, 153, 0, 7, 4, 167, 0, 4, 3, 5, 182, 1, 14, 153, 0, 5, 3, 172, 42, 182, 1, 65, 42, 180, 0, 7, 16, 60, 27, 96, 46, 62, 42, 180, 0, 7, 16, 60, 27, 96, 28, 79, 29, 172]
theorem hb_167 : prog_9_method_95_code.data.toList.map UInt8.toNat = bl_167 := dk_eq_t _ _ (by decide +kernel)
def bl_168 : List Nat := [42, 28, 182, 1, 29, 154, 0, 44, 42, 29, 184, 1, 62, 154, 0, 7, 4, 167, 0, 4, 3, 5, 182, 1, 14, 154, 0, 24, 42, 42, 28, 182, 0, 66, 154, 0, 7, 4, 167, 0, 4, 3, 6, 182, 1, 14, 153, 0, 5, 3, 172, 42, 182, 1, 65, 42, 180, 0, 7, 27, 28, 96, 46, 54, 4, 42, 180, 0, 7, 27, 28, 96, 29, 79, 21, 4, 172]
theorem hb_168 : prog_9_method_96_code.data.toList.map UInt8.toNat = bl_168 := dk_eq_t _ _ (by decide +kernel)
def bl_169 : List Nat := [42, 16, 100, 27, 28, 182, 1, 80, 172]
theorem hb_169 : prog_9_method_97_code.data.toList.map UInt8.toNat = bl_169 := dk_eq_t _ _ (by decide +kernel)
def bl_170 : List Nat := [42, 17, 0, 220, 27, 28, 182, 1, 80, 172]
theorem hb_170 : prog_9_method_98_code.data.toList.map UInt8.toNat = bl_170 := dk_eq_t _ _ (by decide +kernel)
def bl_171 : List Nat := [42, 27, 182, 1, 29, 154, 0, 75, 42, 28, 2, 42, 180, 0, 7, 3, 46, 4, 100, 184, 0, 145, 154, 0, 7, 4, 167, 0, 4, 3, 4, 182, 1, 14, 154, 0, 46, 42, 27, 28, 160, 0, 7, 4, 167, 0, 4, 3, 5, 182, 1, 14, 154, 0, 28, 42, 27, 153, 0, 11, 42, 27, 182, 0, 66, 154, 0, 7, 4, 167, 0, 4, 3, 6, 182, 1, 14, 153, 0, 5, 3, 172, 42, 182, 1, 65, 42, 180, 0, 7, 17, 1, 4, 27, 96, 46, 62, 42, 180, 0, 7, 17, 1, 4, 27, 96, 28, 79, 29, 172]
theorem hb_171 : prog_9_method_99_code.data.toList.map UInt8.toNat = bl_171 := dk_eq_t _ _ (by decide +kernel)
def bl_172 : List Nat := [42, 3, 181, 0, 48, 42, 27, 4, 182, 1, 35, 154, 0, 53, 42, 28, 3, 42, 180, 0, 7, 3, 46, 4, 100, 184, 0, 145, 154, 0, 7, 4, 167, 0, 4, 3, 5, 182, 1, 14, 154, 0, 24, 42, 42, 28, 182, 0, 66, 154, 0, 7, 4, 167, 0, 4, 3, 6, 182, 1, 14, 153, 0, 5, 3, 172, 42, 182, 1, 65, 42, 180, 0, 7, 16, 11, 27, 96, 46, 62, 42, 180, 0, 7, 16, 11, 27, 96, 28, 79, 29, 172]
theorem hb_172 : prog_9_method_100_code.data.toList.map UInt8.toNat = bl_172 := dk_eq_t _ _ (by decide +kernel)
def bl_173 : List Nat := [2, 61, 4, 62, 29, 42, 180, 0, 7, 3, 46, 162, 0, 46, 42, 29, 182, 0, 66, 153, 0, 32, 42, 27, 29, 182, 0, 79, 153, 0, 23, 28, 2, 159, 0, 16, 42, 29, 182, 0, 87, 42, 28, 182, 0, 87, 161, 0, 5, 29, 61, 132, 3, 1, 167, 255, 206, 28, 172]
theorem hb_173 : prog_9_method_101_code.data.toList.map UInt8.toNat = bl_173 := dk_eq_t _ _ (by decide +kernel)
def bl_174 : List Nat := [42, 27, 182, 1, 29, 154, 0, 48, 42, 28, 3, 17, 0, 255, 184, 0, 145, 154, 0, 7, 4, 167, 0, 4, 3, 5, 182, 1, 14, 154, 0, 24, 42, 42, 27, 182, 0, 66, 154, 0, 7, 4, 167, 0, 4, 3, 6, 182, 1, 14, 153, 0, 5, 3, 172, 42, 182, 1, 65, 3, 62, 42, 27, 182, 1, 83, 54, 4, 21, 4, 2, 159, 0, 35, 42, 21, 4, 28, 182, 0, 135, 54, 5, 29, 21, 5, 156, 0, 7, 3, 167, 0, 4, 4, 96, 62, 42, 27, 182, 1, 83, 54, 4, 167, 255, 221, 29, 172]
theorem hb_174 : prog_9_method_102_code.data.toList.map UInt8.toNat = bl_174 := dk_eq_t _ _ (by decide +kernel)
def bl_175 : List Nat := [42, 27, 182, 1, 29, 154, 0, 11, 42, 28, 182, 1, 29, 153, 0, 5, 3, 172, 42, 27, 153, 0, 46, 28, 153, 0, 42, 42, 27, 182, 0, 66, 153, 0, 34, 42, 28, 182, 0, 66, 153, 0, 26, 27, 28, 159, 0, 21, 42, 27, 28, 182, 0, 79, 154, 0, 12, 42, 28, 27, 182, 0, 79, 153, 0, 7, 4, 167, 0, 4, 3, 5, 182, 1, 14, 153, 0, 5, 3, 172, 42, 182, 1, 65, 3, 62, 29, 42, 180, 0, 7, 3, 46, 162, 0, 32, 42, 180, 0, 39, 29, 42, 29, 182, 0, 66, 153, 0, 11, 42, 29, 182, 0, 87, 167, 0, 4, 2, 79, 132, 3, 1, 167, 255, 220, 42, 180, 0, 7, 16, 60, 27, 96, 46, 62, 42, 180, 0, 7, 16, 60, 27, 96, 42, 180, 0, 7, 16, 60, 28, 96, 46, 79, 42, 180, 0, 7, 16, 60, 28, 96, 29, 79, 3, 54, 4, 3, 54, 5, 21, 5, 42, 180, 0, 7, 3, 46, 162, 0, 44, 21, 4, 42, 21, 5, 182, 0, 66, 153, 0, 23, 42, 21, 5, 182, 0, 87, 42, 180, 0, 39, 21, 5, 46, 159, 0, 7, 4, 167, 0, 4, 3, 96, 54, 4, 132, 5, 1, 167, 255, 207, 21, 4, 172]
theorem hb_175 : prog_9_method_103_code.data.toList.map UInt8.toNat = bl_175 := dk_eq_t _ _ (by decide +kernel)
def bl_176 : List Nat := [42, 27, 5, 182, 1, 86, 153, 0, 5, 3, 172, 42, 182, 1, 65, 3, 61, 42, 180, 0, 7, 3, 46, 4, 100, 62, 29, 158, 0, 54, 42, 29, 27, 3, 182, 0, 62, 153, 0, 38, 42, 27, 3, 182, 0, 70, 42, 180, 0, 7, 16, 100, 27, 96, 46, 163, 0, 6, 167, 0, 17, 42, 42, 29, 27, 182, 0, 125, 29, 182, 0, 128, 132, 2, 1, 132, 3, 255, 167, 255, 204, 28, 172]
theorem hb_176 : prog_9_method_104_code.data.toList.map UInt8.toNat = bl_176 := dk_eq_t _ _ (by decide +kernel)
def bl_177 : List Nat := [42, 27, 5, 182, 1, 86, 153, 0, 7, 3, 167, 0, 17, 42, 27, 42, 180, 0, 7, 16, 60, 27, 96, 46, 182, 0, 125, 172]
theorem hb_177 : prog_9_method_105_code.data.toList.map UInt8.toNat = bl_177 := dk_eq_t _ _ (by decide +kernel)
def bl_178 : List Nat := [42, 27, 5, 182, 1, 86, 153, 0, 5, 3, 172, 3, 61, 4, 62, 29, 42, 180, 0, 7, 3, 46, 162, 0, 26, 28, 42, 29, 27, 182, 0, 93, 153, 0, 7, 4, 167, 0, 4, 3, 96, 61, 132, 3, 1, 167, 255, 226, 28, 172]
theorem hb_178 : prog_9_method_106_code.data.toList.map UInt8.toNat = bl_178 := dk_eq_t _ _ (by decide +kernel)
def bl_179 : List Nat := [42, 27, 5, 182, 1, 86, 153, 0, 7, 3, 167, 0, 8, 42, 27, 182, 0, 113, 172]
theorem hb_179 : prog_9_method_107_code.data.toList.map UInt8.toNat = bl_179 := dk_eq_t _ _ (by decide +kernel)
def bl_180 : List Nat := [42, 182, 1, 89, 42, 27, 28, 182, 0, 135, 62, 42, 182, 1, 92, 29, 172]
theorem hb_180 : prog_9_method_108_code.data.toList.map UInt8.toNat = bl_180 := dk_eq_t _ _ (by decide +kernel)
def bl_181 : List Nat := [42, 27, 28, 182, 1, 68, 153, 0, 7, 3, 167, 0, 9, 42, 27, 28, 182, 1, 95, 172]
theorem hb_181 : prog_9_method_109_code.data.toList.map UInt8.toNat = bl_181 := dk_eq_t _ _ (by decide +kernel)
def bl_182 : List Nat := [42, 27, 28, 182, 1, 68, 153, 0, 5, 3, 172, 42, 182, 1, 89, 42, 27, 28, 182, 0, 135, 62, 29, 156, 0, 7, 2, 167, 0, 7, 42, 182, 1, 59, 54, 4, 42, 182, 1, 92, 21, 4, 172]
theorem hb_182 : prog_9_method_110_code.data.toList.map UInt8.toNat = bl_182 := dk_eq_t _ _ (by decide +kernel)
def bl_183 : List Nat := [42, 27, 182, 1, 29, 154, 0, 12, 42, 28, 29, 182, 1, 68, 153, 0, 5, 3, 172, 42, 182, 1, 89, 42, 28, 29, 182, 0, 135, 54, 4, 21, 4, 156, 0, 7, 2, 167, 0, 12, 42, 180, 0, 7, 16, 60, 27, 96, 46, 54, 5, 42, 182, 1, 92, 21, 5, 172]
theorem hb_183 : prog_9_method_111_code.data.toList.map UInt8.toNat = bl_183 := dk_eq_t _ _ (by decide +kernel)
def bl_184 : List Nat := [42, 28, 182, 1, 29, 154, 0, 21, 42, 27, 5, 182, 1, 35, 154, 0, 12, 42, 28, 29, 182, 1, 68, 153, 0, 5, 3, 172, 42, 182, 1, 89, 42, 28, 29, 182, 0, 135, 54, 4, 21, 4, 156, 0, 7, 2, 167, 0, 12, 42, 180, 0, 7, 16, 11, 27, 96, 46, 54, 5, 42, 182, 1, 92, 21, 5, 172]
theorem hb_184 : prog_9_method_112_code.data.toList.map UInt8.toNat = bl_184 := dk_eq_t _ _ (by decide +kernel)
def bl_185 : List Nat := [42, 27, 28, 182, 1, 71, 153, 0, 5, 3, 172, 42, 180, 0, 7, 6, 46, 62, 42, 182, 1, 89, 42, 27, 28, 182, 1, 74, 54, 4, 21, 4, 156, 0, 7, 2, 167, 0, 11, 42, 180, 0, 7, 6, 46, 29, 100, 54, 5, 42, 182, 1, 92, 21, 5, 172]
theorem hb_185 : prog_9_method_113_code.data.toList.map UInt8.toNat = bl_185 := dk_eq_t _ _ (by decide +kernel)
def bl_186 : List Nat := [42, 27, 28, 182, 1, 71, 153, 0, 5, 3, 172, 42, 182, 1, 89, 42, 27, 28, 182, 1, 74, 62, 29, 156, 0, 7, 2, 167, 0, 7, 42, 182, 1, 53, 54, 4, 42, 182, 1, 92, 21, 4, 172]
theorem hb_186 : prog_9_method_114_code.data.toList.map UInt8.toNat = bl_186 := dk_eq_t _ _ (by decide +kernel)
def bl_187 : List Nat := [42, 3, 181, 0, 48, 42, 27, 3, 17, 0, 255, 184, 0, 145, 154, 0, 7, 4, 167, 0, 4, 3, 4, 182, 1, 14, 153, 0, 5, 3, 172, 2, 61, 2, 62, 4, 54, 4, 21, 4, 42, 180, 0, 7, 3, 46, 162, 0, 47, 42, 21, 4, 182, 0, 66, 153, 0, 13, 42, 21, 4, 27, 182, 1, 95, 167, 0, 4, 2, 54, 5, 21, 5, 29, 164, 0, 6, 21, 4, 61, 29, 21, 5, 184, 0, 74, 62, 132, 4, 1, 167, 255, 204, 28, 172]
theorem hb_187 : prog_9_method_115_code.data.toList.map UInt8.toNat = bl_187 := dk_eq_t _ _ (by decide +kernel)
def bl_188 : List Nat := [42, 27, 5, 182, 1, 86, 153, 0, 7, 3, 167, 0, 23, 42, 27, 4, 182, 1, 95, 42, 27, 3, 182, 1, 95, 162, 0, 7, 4, 167, 0, 4, 3, 172]
theorem hb_188 : prog_9_method_116_code.data.toList.map UInt8.toNat = bl_188 := dk_eq_t _ _ (by decide +kernel)
def bl_189 : List Nat := [42, 3, 181, 0, 48, 42, 27, 4, 182, 1, 35, 153, 0, 5, 3, 172, 42, 182, 1, 89, 3, 61, 42, 180, 0, 7, 16, 11, 27, 96, 46, 153, 0, 33, 42, 42, 180, 0, 7, 16, 11, 27, 96, 46, 3, 182, 0, 135, 62, 28, 29, 156, 0, 7, 3, 167, 0, 4, 4, 96, 61, 167, 255, 217, 42, 182, 1, 92, 28, 172]
theorem hb_189 : prog_9_method_117_code.data.toList.map UInt8.toNat = bl_189 := dk_eq_t _ _ (by decide +kernel)
def bl_190 : List Nat := [42, 3, 181, 0, 48, 42, 27, 184, 1, 62, 154, 0, 7, 4, 167, 0, 4, 3, 4, 182, 1, 14, 153, 0, 5, 3, 172, 2, 61, 4, 62, 29, 42, 180, 0, 7, 3, 46, 162, 0, 49, 42, 29, 182, 0, 83, 153, 0, 35, 42, 29, 27, 182, 0, 90, 153, 0, 6, 167, 0, 23, 28, 2, 159, 0, 16, 42, 29, 182, 0, 83, 42, 28, 182, 0, 83, 164, 0, 5, 29, 61, 132, 3, 1, 167, 255, 203, 28, 172]
theorem hb_190 : prog_9_method_118_code.data.toList.map UInt8.toNat = bl_190 := dk_eq_t _ _ (by decide +kernel)
def bl_191 : List Nat := [42, 3, 181, 0, 48, 3, 60, 3, 61, 28, 42, 180, 0, 7, 3, 46, 162, 0, 17, 27, 42, 28, 182, 0, 83, 96, 60, 132, 2, 1, 167, 255, 235, 27, 172]
theorem hb_191 : prog_9_method_119_code.data.toList.map UInt8.toNat = bl_191 := dk_eq_t _ _ (by decide +kernel)
def bl_192 : List Nat := [42, 3, 181, 0, 48, 3, 60, 3, 61, 28, 42, 180, 0, 7, 3, 46, 162, 0, 43, 27, 42, 28, 182, 0, 66, 153, 0, 25, 42, 28, 3, 182, 0, 70, 42, 180, 0, 7, 16, 100, 28, 96, 46, 164, 0, 7, 4, 167, 0, 4, 3, 96, 60, 132, 2, 1, 167, 255, 209, 27, 172]
theorem hb_192 : prog_9_method_120_code.data.toList.map UInt8.toNat = bl_192 := dk_eq_t _ _ (by decide +kernel)
def bl_193 : List Nat := [42, 3, 181, 0, 48, 42, 27, 184, 1, 62, 154, 0, 7, 4, 167, 0, 4, 3, 4, 182, 1, 14, 153, 0, 5, 3, 172, 3, 61, 3, 62, 29, 42, 180, 0, 7, 3, 46, 162, 0, 39, 28, 42, 29, 182, 0, 66, 153, 0, 21, 42, 180, 0, 7, 17, 0, 180, 29, 96, 46, 27, 160, 0, 7, 4, 167, 0, 4, 3, 96, 61, 132, 3, 1, 167, 255, 213, 28, 172]
theorem hb_193 : prog_9_method_121_code.data.toList.map UInt8.toNat = bl_193 := dk_eq_t _ _ (by decide +kernel)
def bl_194 : List Nat := [42, 27, 182, 1, 29, 153, 0, 7, 3, 167, 0, 8, 42, 27, 182, 0, 116, 172]
theorem hb_194 : prog_9_method_122_code.data.toList.map UInt8.toNat = bl_194 := dk_eq_t _ _ (by decide +kernel)
def bl_195 : List Nat := [42, 3, 181, 0, 48, 42, 27, 3, 42, 180, 0, 7, 4, 46, 4, 100, 184, 0, 145, 154, 0, 7, 4, 167, 0, 4, 3, 4, 182, 1, 14, 153, 0, 7, 3, 167, 0, 12, 42, 180, 0, 7, 16, 19, 27, 96, 46, 172]
theorem hb_195 : prog_9_method_123_code.data.toList.map UInt8.toNat = bl_195 := dk_eq_t _ _ (by decide +kernel)
def bl_196 : List Nat := [42, 3, 181, 0, 48, 3, 60, 3, 61, 28, 42, 180, 0, 7, 3, 46, 162, 0, 29, 27, 42, 28, 182, 0, 66, 153, 0, 11, 42, 28, 182, 0, 87, 167, 0, 4, 3, 96, 60, 132, 2, 1, 167, 255, 223, 27, 135, 42, 182, 1, 53, 135, 111, 175]
theorem hb_196 : prog_9_method_124_code.data.toList.map UInt8.toNat = bl_196 := dk_eq_t _ _ (by decide +kernel)
def bl_197 : List Nat := [42, 3, 181, 0, 48, 42, 180, 0, 7, 5, 46, 154, 0, 7, 11, 167, 0, 18, 42, 180, 0, 7, 6, 46, 134, 42, 180, 0, 7, 5, 46, 134, 110, 174]
theorem hb_197 : prog_9_method_125_code.data.toList.map UInt8.toNat = bl_197 := dk_eq_t _ _ (by decide +kernel)
def bl_198 : List Nat := [42, 3, 181, 0, 48, 42, 180, 0, 7, 4, 46, 154, 0, 7, 14, 167, 0, 17, 42, 5, 182, 1, 18, 135, 42, 180, 0, 7, 4, 46, 135, 111, 175]
theorem hb_198 : prog_9_method_126_code.data.toList.map UInt8.toNat = bl_198 := dk_eq_t _ _ (by decide +kernel)
def bl_199 : List Nat := [42, 27, 182, 1, 29, 154, 0, 11, 42, 27, 182, 0, 66, 154, 0, 5, 3, 172, 3, 61, 4, 62, 29, 42, 180, 0, 7, 3, 46, 162, 0, 40, 28, 42, 180, 0, 7, 17, 0, 140, 29, 96, 46, 4, 160, 0, 16, 42, 27, 29, 182, 0, 79, 153, 0, 7, 4, 167, 0, 4, 3, 96, 61, 132, 3, 1, 167, 255, 212, 28, 172]
theorem hb_199 : prog_9_method_127_code.data.toList.map UInt8.toNat = bl_199 := dk_eq_t _ _ (by decide +kernel)
def bl_200 : List Nat := [42, 27, 182, 1, 29, 154, 0, 11, 42, 27, 182, 0, 66, 154, 0, 5, 3, 172, 3, 61, 4, 62, 29, 42, 180, 0, 7, 3, 46, 162, 0, 38, 28, 42, 29, 182, 0, 66, 153, 0, 20, 42, 27, 29, 182, 0, 79, 153, 0, 11, 42, 29, 182, 0, 83, 167, 0, 4, 3, 96, 61, 132, 3, 1, 167, 255, 214, 28, 172]
theorem hb_200 : prog_9_method_128_code.data.toList.map UInt8.toNat = bl_200 := dk_eq_t _ _ (by decide +kernel)
def bl_201 : List Nat := [42, 3, 181, 0, 48, 2, 60, 4, 61, 28, 42, 180, 0, 7, 3, 46, 162, 0, 51, 42, 28, 182, 0, 66, 153, 0, 37, 42, 180, 0, 7, 17, 1, 124, 28, 96, 46, 27, 2, 160, 0, 7, 3, 167, 0, 13, 42, 180, 0, 7, 17, 1, 124, 27, 96, 46, 164, 0, 5, 28, 60, 132, 2, 1, 167, 255, 201, 27, 172]
theorem hb_201 : prog_9_method_129_code.data.toList.map UInt8.toNat = bl_201 := dk_eq_t _ _ (by decide +kernel)
def bl_202 : List Nat := [42, 27, 182, 1, 29, 153, 0, 5, 3, 172, 2, 61, 4, 62, 29, 42, 180, 0, 7, 3, 46, 162, 0, 39, 42, 29, 27, 3, 182, 0, 62, 153, 0, 23, 28, 2, 159, 0, 16, 42, 29, 182, 1, 47, 42, 28, 182, 1, 47, 164, 0, 5, 29, 61, 132, 3, 1, 167, 255, 213, 28, 172]
theorem hb_202 : prog_9_method_130_code.data.toList.map UInt8.toNat = bl_202 := dk_eq_t _ _ (by decide +kernel)
def bl_203 : List Nat := [42, 27, 182, 1, 29, 154, 0, 11, 42, 27, 182, 0, 66, 154, 0, 5, 3, 172, 3, 61, 4, 62, 29, 42, 180, 0, 7, 3, 46, 162, 0, 45, 28, 42, 29, 182, 0, 66, 153, 0, 27, 42, 27, 29, 182, 0, 79, 153, 0, 18, 4, 42, 180, 0, 7, 17, 0, 180, 29, 96, 46, 120, 167, 0, 4, 3, 128, 61, 132, 3, 1, 167, 255, 207, 28, 172]
theorem hb_203 : prog_9_method_131_code.data.toList.map UInt8.toNat = bl_203 := dk_eq_t _ _ (by decide +kernel)
def bl_204 : List Nat := [42, 27, 182, 1, 29, 153, 0, 5, 3, 172, 3, 61, 4, 62, 29, 42, 180, 0, 7, 3, 46, 162, 0, 50, 28, 42, 29, 27, 3, 182, 0, 62, 153, 0, 30, 42, 180, 0, 7, 17, 0, 180, 29, 96, 46, 42, 180, 0, 7, 17, 0, 180, 27, 96, 46, 159, 0, 7, 4, 167, 0, 4, 3, 96, 61, 132, 3, 1, 167, 255, 202, 28, 172]
theorem hb_204 : prog_9_method_132_code.data.toList.map UInt8.toNat = bl_204 := dk_eq_t _ _ (by decide +kernel)
def bl_205 : List Nat := [42, 180, 0, 42, 42, 180, 1, 98, 27, 79, 42, 89, 180, 1, 98, 4, 96, 181, 1, 98, 177]
theorem hb_205 : prog_9_method_133_code.data.toList.map UInt8.toNat = bl_205 := dk_eq_t _ _ (by decide +kernel)
def bl_206 : List Nat := [27, 62, 42, 29, 182, 0, 87, 28, 164, 0, 16, 42, 180, 0, 7, 16, 60, 29, 96, 46, 62, 167, 255, 237, 29, 172]
theorem hb_206 : prog_9_method_134_code.data.toList.map UInt8.toNat = bl_206 := dk_eq_t _ _ (by decide +kernel)
def bl_207 : List Nat := [4, 61, 27, 28, 108, 16, 9, 164, 0, 11, 28, 16, 10, 104, 61, 167, 255, 243, 28, 158, 0, 24, 42, 16, 48, 27, 28, 108, 16, 10, 112, 96, 182, 1, 101, 28, 16, 10, 108, 61, 167, 255, 234, 177]
theorem hb_207 : prog_9_method_135_code.data.toList.map UInt8.toNat = bl_207 := dk_eq_t _ _ (by decide +kernel)
def bl_208 : List Nat := [42, 180, 1, 98, 158, 0, 8, 42, 27, 182, 1, 101, 177]
theorem hb_208 : prog_9_method_136_code.data.toList.map UInt8.toNat = bl_208 := dk_eq_t _ _ (by decide +kernel)
def bl_209 : List Nat := [3, 61, 28, 42, 27, 182, 0, 87, 163, 0, 25, 42, 16, 47, 182, 1, 104, 42, 42, 27, 28, 182, 1, 107, 182, 1, 110, 132, 2, 1, 167, 255, 228, 177]
theorem hb_209 : prog_9_method_137_code.data.toList.map UInt8.toNat = bl_209 := dk_eq_t _ _ (by decide +kernel)
def bl_210 : List Nat := [42, 27, 3, 182, 1, 50, 61, 28, 2, 159, 0, 26, 42, 16, 44, 182, 1, 104, 42, 28, 182, 1, 110, 42, 27, 28, 4, 96, 182, 1, 50, 61, 167, 255, 231, 177]
theorem hb_210 : prog_9_method_138_code.data.toList.map UInt8.toNat = bl_210 := dk_eq_t _ _ (by decide +kernel)
def bl_211 : List Nat := [42, 27, 182, 1, 110, 42, 27, 3, 182, 1, 50, 61, 28, 2, 160, 0, 4, 177, 42, 16, 40, 182, 1, 101, 28, 62, 29, 2, 159, 0, 31, 29, 28, 159, 0, 9, 42, 16, 32, 182, 1, 101, 42, 29, 182, 1, 113, 42, 27, 29, 4, 96, 182, 1, 50, 62, 167, 255, 226, 42, 16, 41, 182, 1, 101, 177]
theorem hb_211 : prog_9_method_139_code.data.toList.map UInt8.toNat = bl_211 := dk_eq_t _ _ (by decide +kernel)
def bl_212 : List Nat := [3, 61, 28, 42, 180, 0, 7, 4, 46, 162, 0, 63, 42, 180, 0, 7, 16, 19, 28, 96, 46, 62, 42, 29, 27, 4, 182, 0, 62, 154, 0, 6, 167, 0, 34, 42, 16, 44, 182, 1, 104, 42, 29, 182, 1, 110, 42, 16, 58, 182, 1, 101, 42, 42, 180, 0, 7, 17, 1, 44, 29, 96, 46, 182, 1, 110, 132, 2, 1, 167, 255, 189, 177]
theorem hb_212 : prog_9_method_140_code.data.toList.map UInt8.toNat = bl_212 := dk_eq_t _ _ (by decide +kernel)
def bl_213 : List Nat := [42, 27, 182, 1, 29, 154, 0, 38, 42, 28, 3, 7, 184, 0, 145, 154, 0, 7, 4, 167, 0, 4, 3, 5, 182, 1, 14, 154, 0, 16, 42, 42, 27, 182, 1, 38, 6, 182, 1, 14, 153, 0, 5, 3, 172, 42, 3, 181, 1, 98, 28, 154, 0, 8, 42, 27, 182, 1, 116, 28, 4, 160, 0, 8, 42, 27, 182, 1, 119, 28, 5, 160, 0, 8, 42, 27, 182, 1, 113, 3, 62, 29, 16, 8, 162, 0, 32, 28, 6, 160, 0, 27, 42, 180, 0, 7, 16, 11, 29, 96, 46, 27, 160, 0, 8, 42, 29, 182, 1, 110, 132, 3, 1, 167, 255, 224, 28, 7, 160, 0, 8, 42, 27, 182, 1, 122, 42, 180, 1, 98, 154, 0, 9, 42, 16, 45, 182, 1, 101, 42, 180, 1, 98, 172]
theorem hb_213 : prog_9_method_141_code.data.toList.map UInt8.toNat = bl_213 := dk_eq_t _ _ (by decide +kernel)
def bl_214 : List Nat := [42, 3, 181, 0, 48, 27, 3, 42, 180, 1, 98, 4, 100, 184, 0, 145, 153, 0, 12, 42, 180, 0, 42, 27, 46, 167, 0, 4, 2, 172]
theorem hb_214 : prog_9_method_142_code.data.toList.map UInt8.toNat = bl_214 := dk_eq_t _ _ (by decide +kernel)
def bl_215 : List Nat := [42, 3, 181, 0, 48, 42, 180, 0, 55, 154, 0, 5, 2, 172, 42, 89, 180, 0, 55, 4, 100, 181, 0, 55, 42, 180, 0, 22, 17, 3, 12, 42, 180, 0, 55, 104, 42, 180, 0, 7, 3, 17, 3, 12, 184, 0, 58, 42, 180, 0, 55, 172]
theorem hb_215 : prog_9_method_143_code.data.toList.map UInt8.toNat = bl_215 := dk_eq_t _ _ (by decide +kernel)
def bl_216 : List Nat := [42, 3, 181, 0, 48, 42, 180, 0, 7, 3, 42, 180, 0, 19, 3, 17, 3, 12, 184, 0, 58, 42, 4, 181, 1, 10, 42, 182, 1, 53, 172]
theorem hb_216 : prog_9_method_144_code.data.toList.map UInt8.toNat = bl_216 := dk_eq_t _ _ (by decide +kernel)
def bl_217 : List Nat := [42, 3, 181, 0, 48, 42, 42, 180, 1, 10, 154, 0, 7, 4, 167, 0, 4, 3, 4, 182, 1, 14, 153, 0, 5, 3, 172, 42, 180, 0, 19, 3, 42, 180, 0, 7, 3, 17, 3, 12, 184, 0, 58, 42, 3, 181, 0, 55, 42, 182, 1, 53, 172]
theorem hb_217 : prog_9_method_145_code.data.toList.map UInt8.toNat = bl_217 := dk_eq_t _ _ (by decide +kernel)
def bl_218 : List Nat := [42, 183, 0, 3, 42, 16, 10, 189, 0, 9, 181, 0, 11, 42, 3, 181, 0, 17, 42, 3, 181, 0, 21, 3, 60, 27, 16, 10, 162, 0, 22, 42, 180, 0, 11, 27, 187, 0, 9, 89, 183, 0, 24, 83, 132, 1, 1, 167, 255, 234, 177]
theorem hb_218 : prog_2_method_1_code.data.toList.map UInt8.toNat = bl_218 := dk_eq_t _ _ (by decide +kernel)
def bl_219 : List Nat := [42, 180, 0, 21, 155, 0, 12, 42, 180, 0, 21, 16, 10, 161, 0, 8, 42, 3, 181, 0, 21, 42, 180, 0, 11, 42, 180, 0, 21, 50, 43, 182, 0, 25, 42, 89, 180, 0, 21, 4, 96, 181, 0, 21, 42, 180, 0, 17, 16, 10, 162, 0, 13, 42, 89, 180, 0, 17, 4, 96, 181, 0, 17, 177]
theorem hb_219 : prog_2_method_2_code.data.toList.map UInt8.toNat = bl_219 := dk_eq_t _ _ (by decide +kernel)
def bl_220 : List Nat := [42, 180, 0, 17, 154, 0, 5, 3, 172, 42, 180, 0, 21, 158, 0, 12, 42, 180, 0, 21, 16, 10, 164, 0, 9, 42, 16, 10, 181, 0, 21, 42, 89, 180, 0, 21, 4, 100, 181, 0, 21, 42, 89, 180, 0, 17, 4, 100, 181, 0, 17, 43, 42, 180, 0, 11, 42, 180, 0, 21, 50, 182, 0, 25, 4, 172]
theorem hb_220 : prog_2_method_3_code.data.toList.map UInt8.toNat = bl_220 := dk_eq_t _ _ (by decide +kernel)
def bl_221 : List Nat := [42, 183, 0, 3, 42, 17, 1, 244, 188, 8, 181, 0, 9, 42, 3, 181, 0, 15, 177]
theorem hb_221 : prog_3_method_1_code.data.toList.map UInt8.toNat = bl_221 := dk_eq_t _ _ (by decide +kernel)
def bl_222 : List Nat := [16, 24, 61, 28, 155, 0, 49, 42, 180, 0, 15, 155, 0, 36, 42, 180, 0, 15, 17, 1, 244, 162, 0, 26, 42, 180, 0, 9, 42, 180, 0, 15, 27, 28, 122, 145, 84, 42, 89, 180, 0, 15, 4, 96, 181, 0, 15, 132, 2, 248, 167, 255, 209, 177]
theorem hb_222 : prog_3_method_2_code.data.toList.map UInt8.toNat = bl_222 := dk_eq_t _ _ (by decide +kernel)
def bl_223 : List Nat := [27, 155, 0, 18, 27, 42, 180, 0, 15, 162, 0, 10, 27, 17, 1, 244, 161, 0, 7, 3, 167, 0, 9, 42, 180, 0, 9, 27, 51, 172]
theorem hb_223 : prog_3_method_3_code.data.toList.map UInt8.toNat = bl_223 := dk_eq_t _ _ (by decide +kernel)
def bl_224 : List Nat := [42, 183, 0, 3, 42, 17, 1, 44, 188, 8, 181, 0, 9, 42, 3, 181, 0, 15, 177]
theorem hb_224 : prog_4_method_1_code.data.toList.map UInt8.toNat = bl_224 := dk_eq_t _ _ (by decide +kernel)
def bl_225 : List Nat := [42, 180, 0, 15, 155, 0, 34, 42, 180, 0, 15, 17, 1, 44, 162, 0, 24, 42, 180, 0, 9, 42, 180, 0, 15, 27, 145, 84, 42, 89, 180, 0, 15, 4, 96, 181, 0, 15, 177]
theorem hb_225 : prog_4_method_2_code.data.toList.map UInt8.toNat = bl_225 := dk_eq_t _ _ (by decide +kernel)
def bl_226 : List Nat := [27, 16, 100, 161, 0, 15, 42, 16, 48, 27, 16, 100, 108, 96, 146, 182, 0, 19, 27, 16, 10, 161, 0, 18, 42, 16, 48, 27, 16, 10, 108, 16, 10, 112, 96, 146, 182, 0, 19, 42, 16, 48, 27, 16, 10, 112, 96, 146, 182, 0, 19, 177]
theorem hb_226 : prog_4_method_3_code.data.toList.map UInt8.toNat = bl_226 := dk_eq_t _ _ (by decide +kernel)
def bl_227 : List Nat := [43, 182, 0, 23, 61, 28, 158, 0, 52, 43, 78, 3, 54, 4, 21, 4, 28, 162, 0, 21, 45, 180, 0, 29, 198, 0, 14, 45, 180, 0, 29, 78, 132, 4, 1, 167, 255, 235, 42, 45, 180, 0, 33, 182, 0, 36, 42, 16, 47, 182, 0, 19, 132, 2, 255, 167, 255, 206, 42, 43, 180, 0, 33, 182, 0, 36, 177]
theorem hb_227 : prog_4_method_4_code.data.toList.map UInt8.toNat = bl_227 := dk_eq_t _ _ (by decide +kernel)
def bl_228 : List Nat := [43, 180, 0, 40, 78, 45, 190, 54, 4, 3, 54, 5, 21, 5, 21, 4, 162, 0, 37, 45, 21, 5, 50, 58, 6, 25, 6, 44, 182, 0, 46, 153, 0, 16, 42, 182, 0, 50, 42, 25, 6, 180, 0, 33, 182, 0, 36, 132, 5, 1, 167, 255, 218, 177]
theorem hb_228 : prog_4_method_5_code.data.toList.map UInt8.toNat = bl_228 := dk_eq_t _ _ (by decide +kernel)
def bl_229 : List Nat := [43, 44, 182, 0, 53, 62, 3, 54, 4, 21, 4, 16, 8, 162, 0, 24, 29, 21, 4, 122, 4, 126, 153, 0, 9, 42, 21, 4, 182, 0, 36, 132, 4, 1, 167, 255, 231, 177]
theorem hb_229 : prog_4_method_6_code.data.toList.map UInt8.toNat = bl_229 := dk_eq_t _ _ (by decide +kernel)
def bl_230 : List Nat := [43, 44, 2, 182, 0, 57, 78, 3, 54, 4, 21, 4, 16, 40, 162, 0, 49, 45, 198, 0, 45, 42, 182, 0, 50, 42, 45, 180, 0, 33, 182, 0, 36, 42, 16, 58, 182, 0, 19, 42, 45, 180, 0, 61, 182, 0, 36, 43, 44, 45, 180, 0, 64, 182, 0, 57, 78, 132, 4, 1, 167, 255, 206, 177]
theorem hb_230 : prog_4_method_7_code.data.toList.map UInt8.toNat = bl_230 := dk_eq_t _ _ (by decide +kernel)
def bl_231 : List Nat := [42, 180, 0, 15, 158, 0, 9, 42, 16, 44, 182, 0, 19, 177]
theorem hb_231 : prog_4_method_8_code.data.toList.map UInt8.toNat = bl_231 := dk_eq_t _ _ (by decide +kernel)
def bl_232 : List Nat := [42, 183, 0, 3, 42, 6, 181, 0, 9, 42, 1, 181, 0, 15, 42, 3, 181, 0, 19, 42, 3, 181, 0, 22, 42, 3, 181, 0, 25, 42, 3, 181, 0, 28, 42, 2, 181, 0, 31, 42, 3, 181, 0, 34, 42, 2, 181, 0, 37, 42, 2, 181, 0, 40, 42, 3, 181, 0, 43, 42, 2, 181, 0, 46, 42, 3, 181, 0, 49, 42, 9, 181, 0, 53, 42, 27, 181, 0, 57, 177]
theorem hb_232 : prog_5_method_1_code.data.toList.map UInt8.toNat = bl_232 := dk_eq_t _ _ (by decide +kernel)
def bl_233 : List Nat := [42, 27, 181, 0, 9, 42, 1, 181, 0, 15, 42, 3, 181, 0, 19, 42, 28, 181, 0, 22, 42, 29, 181, 0, 25, 42, 21, 4, 181, 0, 28, 42, 2, 181, 0, 31, 42, 3, 181, 0, 34, 42, 2, 181, 0, 37, 42, 2, 181, 0, 40, 42, 3, 181, 0, 43, 42, 2, 181, 0, 46, 42, 3, 181, 0, 49, 42, 9, 181, 0, 53, 177]
theorem hb_233 : prog_5_method_2_code.data.toList.map UInt8.toNat = bl_233 := dk_eq_t _ _ (by decide +kernel)
def bl_234 : List Nat := [42, 43, 180, 0, 9, 181, 0, 9, 42, 43, 180, 0, 19, 181, 0, 19, 42, 43, 180, 0, 22, 181, 0, 22, 42, 43, 180, 0, 25, 181, 0, 25, 42, 43, 180, 0, 28, 181, 0, 28, 42, 43, 180, 0, 31, 181, 0, 31, 42, 43, 180, 0, 34, 181, 0, 34, 42, 43, 180, 0, 37, 181, 0, 37, 42, 43, 180, 0, 40, 181, 0, 40, 42, 43, 180, 0, 43, 181, 0, 43, 42, 43, 180, 0, 46, 181, 0, 46, 42, 43, 180, 0, 49, 181, 0, 49, 42, 43, 180, 0, 53, 181, 0, 53, 177]
theorem hb_234 : prog_5_method_3_code.data.toList.map UInt8.toNat = bl_234 := dk_eq_t _ _ (by decide +kernel)
def bl_235 : List Nat := [42, 180, 0, 9, 154, 0, 7, 4, 167, 0, 4, 3, 172]
theorem hb_235 : prog_5_method_4_code.data.toList.map UInt8.toNat = bl_235 := dk_eq_t _ _ (by decide +kernel)
def bl_236 : List Nat := [42, 180, 0, 9, 154, 0, 14, 42, 180, 0, 15, 198, 0, 7, 4, 167, 0, 4, 3, 172]
theorem hb_236 : prog_5_method_5_code.data.toList.map UInt8.toNat = bl_236 := dk_eq_t _ _ (by decide +kernel)
def bl_237 : List Nat := [42, 180, 0, 9, 4, 159, 0, 11, 42, 180, 0, 9, 5, 160, 0, 7, 4, 167, 0, 4, 3, 172]
theorem hb_237 : prog_5_method_6_code.data.toList.map UInt8.toNat = bl_237 := dk_eq_t _ _ (by decide +kernel)
def bl_238 : List Nat := [42, 180, 0, 9, 154, 0, 15, 42, 180, 0, 15, 43, 166, 0, 7, 4, 167, 0, 4, 3, 172]
theorem hb_238 : prog_5_method_7_code.data.toList.map UInt8.toNat = bl_238 := dk_eq_t _ _ (by decide +kernel)
def bl_239 : List Nat := [42, 180, 0, 9, 4, 160, 0, 15, 42, 180, 0, 15, 43, 166, 0, 7, 4, 167, 0, 4, 3, 172]
theorem hb_239 : prog_5_method_8_code.data.toList.map UInt8.toNat = bl_239 := dk_eq_t _ _ (by decide +kernel)
def bl_240 : List Nat := [42, 180, 0, 9, 154, 0, 14, 42, 180, 0, 49, 154, 0, 7, 4, 167, 0, 4, 3, 172]
theorem hb_240 : prog_5_method_9_code.data.toList.map UInt8.toNat = bl_240 := dk_eq_t _ _ (by decide +kernel)
def bl_241 : List Nat := [42, 180, 0, 34, 27, 122, 4, 126, 153, 0, 7, 4, 167, 0, 4, 3, 172]
theorem hb_241 : prog_5_method_10_code.data.toList.map UInt8.toNat = bl_241 := dk_eq_t _ _ (by decide +kernel)
def bl_242 : List Nat := [42, 180, 0, 9, 154, 0, 26, 42, 180, 0, 22, 42, 180, 0, 19, 164, 0, 15, 42, 180, 0, 22, 42, 180, 0, 19, 100, 167, 0, 4, 3, 172]
theorem hb_242 : prog_5_method_11_code.data.toList.map UInt8.toNat = bl_242 := dk_eq_t _ _ (by decide +kernel)
def bl_243 : List Nat := [3, 60, 42, 180, 0, 15, 77, 44, 198, 0, 14, 132, 1, 1, 44, 180, 0, 15, 77, 167, 255, 244, 27, 172]
theorem hb_243 : prog_5_method_12_code.data.toList.map UInt8.toNat = bl_243 := dk_eq_t _ _ (by decide +kernel)
def bl_244 : List Nat := [43, 180, 0, 15, 77, 44, 198, 0, 18, 44, 42, 166, 0, 5, 4, 172, 44, 180, 0, 15, 77, 167, 255, 240, 3, 172]
theorem hb_244 : prog_5_method_13_code.data.toList.map UInt8.toNat = bl_244 := dk_eq_t _ _ (by decide +kernel)
def bl_245 : List Nat := [42, 180, 0, 15, 198, 0, 16, 42, 180, 0, 15, 89, 180, 0, 19, 4, 100, 181, 0, 19, 42, 43, 181, 0, 15, 43, 89, 180, 0, 19, 4, 96, 181, 0, 19, 177]
theorem hb_245 : prog_5_method_14_code.data.toList.map UInt8.toNat = bl_245 := dk_eq_t _ _ (by decide +kernel)
def bl_246 : List Nat := [42, 180, 0, 53, 16, 8, 27, 104, 123, 20, 0, 60, 127, 136, 4, 100, 172]
theorem hb_246 : prog_5_method_15_code.data.toList.map UInt8.toNat = bl_246 := dk_eq_t _ _ (by decide +kernel)
def bl_247 : List Nat := [42, 89, 180, 0, 53, 28, 4, 96, 133, 16, 8, 27, 104, 121, 129, 181, 0, 53, 177]
theorem hb_247 : prog_5_method_16_code.data.toList.map UInt8.toNat = bl_247 := dk_eq_t _ _ (by decide +kernel)
def bl_248 : List Nat := [3, 60, 3, 61, 28, 16, 8, 162, 0, 24, 42, 28, 182, 0, 62, 2, 159, 0, 9, 27, 4, 28, 120, 128, 60, 132, 2, 1, 167, 255, 232, 27, 172]
theorem hb_248 : prog_5_method_17_code.data.toList.map UInt8.toNat = bl_248 := dk_eq_t _ _ (by decide +kernel)
def bl_249 : List Nat := [42, 183, 0, 3, 42, 187, 0, 9, 89, 183, 0, 11, 181, 0, 12, 42, 187, 0, 18, 89, 183, 0, 20, 181, 0, 21, 42, 3, 181, 0, 25, 42, 2, 181, 0, 29, 42, 3, 181, 0, 32, 42, 3, 181, 0, 35, 42, 3, 181, 0, 38, 42, 3, 181, 0, 41, 42, 3, 181, 0, 44, 42, 3, 181, 0, 48, 42, 3, 181, 0, 51, 177]
theorem hb_249 : prog_6_method_1_code.data.toList.map UInt8.toNat = bl_249 := dk_eq_t _ _ (by decide +kernel)
def bl_250 : List Nat := [42, 180, 0, 21, 182, 0, 54, 42, 3, 181, 0, 25, 42, 2, 181, 0, 29, 42, 3, 181, 0, 44, 42, 3, 181, 0, 48, 42, 3, 181, 0, 51, 42, 3, 181, 0, 38, 177]
theorem hb_250 : prog_6_method_2_code.data.toList.map UInt8.toNat = bl_250 := dk_eq_t _ _ (by decide +kernel)
def bl_251 : List Nat := [42, 182, 0, 57, 42, 180, 0, 32, 154, 0, 5, 3, 172, 42, 18, 60, 182, 0, 62, 153, 0, 8, 42, 182, 0, 66, 172, 42, 18, 70, 182, 0, 62, 153, 0, 8, 42, 182, 0, 72, 172, 42, 18, 75, 182, 0, 62, 153, 0, 8, 42, 182, 0, 77, 172, 42, 18, 80, 182, 0, 62, 153, 0, 8, 42, 182, 0, 82, 172, 42, 18, 85, 182, 0, 62, 153, 0, 8, 42, 182, 0, 87, 172, 42, 18, 90, 182, 0, 62, 153, 0, 8, 42, 182, 0, 92, 172, 42, 18, 95, 182, 0, 62, 153, 0, 8, 42, 182, 0, 97, 172, 42, 18, 100, 182, 0, 62, 153, 0, 10, 42, 182, 0, 102, 167, 0, 8, 42, 4, 182, 0, 105, 172]
theorem hb_251 : prog_6_method_3_code.data.toList.map UInt8.toNat = bl_251 := dk_eq_t _ _ (by decide +kernel)
def bl_252 : List Nat := [42, 180, 0, 44, 153, 0, 9, 42, 6, 182, 0, 105, 172, 42, 4, 181, 0, 44, 42, 180, 0, 21, 182, 0, 109, 42, 182, 0, 57, 3, 60, 27, 8, 162, 0, 64, 42, 180, 0, 32, 4, 160, 0, 56, 42, 182, 0, 112, 61, 28, 2, 160, 0, 9, 42, 4, 182, 0, 105, 172, 42, 180, 0, 21, 28, 182, 0, 116, 153, 0, 9, 42, 6, 182, 0, 105, 172, 42, 180, 0, 21, 180, 0, 119, 27, 28, 79, 42, 182, 0, 57, 132, 1, 1, 167, 255, 193, 42, 180, 0, 32, 6, 159, 0, 23, 42, 42, 182, 0, 112, 2, 160, 0, 7, 4, 167, 0, 4, 6, 182, 0, 105, 153, 0, 7, 4, 167, 0, 4, 3, 172]
theorem hb_252 : prog_6_method_4_code.data.toList.map UInt8.toNat = bl_252 := dk_eq_t _ _ (by decide +kernel)
def bl_253 : List Nat := [42, 18, 123, 182, 0, 62, 153, 0, 5, 3, 172, 42, 18, 125, 182, 0, 62, 153, 0, 5, 4, 172, 42, 18, 127, 182, 0, 62, 153, 0, 5, 5, 172, 42, 18, 129, 182, 0, 62, 153, 0, 5, 6, 172, 42, 18, 131, 182, 0, 62, 153, 0, 7, 7, 167, 0, 4, 2, 172]
theorem hb_253 : prog_6_method_5_code.data.toList.map UInt8.toNat = bl_253 := dk_eq_t _ _ (by decide +kernel)
def bl_254 : List Nat := [42, 180, 0, 48, 153, 0, 9, 42, 6, 182, 0, 105, 172, 42, 4, 181, 0, 48, 42, 4, 16, 20, 182, 0, 133, 154, 0, 5, 3, 172, 42, 180, 0, 21, 42, 180, 0, 41, 181, 0, 137, 42, 182, 0, 139, 172]
theorem hb_254 : prog_6_method_6_code.data.toList.map UInt8.toNat = bl_254 := dk_eq_t _ _ (by decide +kernel)
def bl_255 : List Nat := [42, 180, 0, 51, 153, 0, 9, 42, 6, 182, 0, 105, 172, 42, 4, 181, 0, 51, 42, 3, 16, 9, 182, 0, 133, 154, 0, 5, 3, 172, 42, 180, 0, 21, 180, 0, 142, 42, 180, 0, 41, 181, 0, 145, 42, 3, 16, 9, 182, 0, 133, 154, 0, 5, 3, 172, 42, 180, 0, 21, 180, 0, 142, 42, 180, 0, 41, 181, 0, 150, 42, 182, 0, 139, 172]
theorem hb_255 : prog_6_method_7_code.data.toList.map UInt8.toNat = bl_255 := dk_eq_t _ _ (by decide +kernel)
def bl_256 : List Nat := [42, 180, 0, 21, 180, 0, 153, 16, 24, 164, 0, 9, 42, 7, 182, 0, 105, 172, 42, 3, 182, 0, 156, 76, 43, 199, 0, 5, 3, 172, 43, 182, 0, 160, 154, 0, 9, 42, 5, 182, 0, 105, 172, 42, 3, 16, 9, 182, 0, 133, 154, 0, 5, 3, 172, 42, 180, 0, 41, 61, 42, 3, 16, 9, 182, 0, 133, 154, 0, 5, 3, 172, 42, 180, 0, 41, 62, 42, 3, 16, 9, 182, 0, 133, 154, 0, 5, 3, 172, 42, 180, 0, 21, 43, 28, 29, 42, 180, 0, 41, 182, 0, 162, 87, 42, 182, 0, 139, 172]
theorem hb_256 : prog_6_method_8_code.data.toList.map UInt8.toNat = bl_256 := dk_eq_t _ _ (by decide +kernel)
def bl_257 : List Nat := [42, 4, 182, 0, 156, 76, 43, 199, 0, 5, 3, 172, 43, 180, 0, 166, 2, 159, 0, 9, 42, 6, 182, 0, 105, 172, 42, 3, 182, 0, 156, 77, 44, 199, 0, 5, 3, 172, 44, 43, 166, 0, 9, 42, 5, 182, 0, 105, 172, 43, 44, 180, 0, 168, 181, 0, 166, 42, 182, 0, 139, 172]
theorem hb_257 : prog_6_method_9_code.data.toList.map UInt8.toNat = bl_257 := dk_eq_t _ _ (by decide +kernel)
def bl_258 : List Nat := [42, 3, 16, 7, 182, 0, 133, 154, 0, 5, 3, 172, 42, 180, 0, 41, 60, 42, 3, 182, 0, 156, 77, 44, 199, 0, 5, 3, 172, 42, 180, 0, 21, 27, 44, 182, 0, 171, 42, 182, 0, 139, 172]
theorem hb_258 : prog_6_method_10_code.data.toList.map UInt8.toNat = bl_258 := dk_eq_t _ _ (by decide +kernel)
def bl_259 : List Nat := [42, 4, 182, 0, 156, 76, 43, 198, 0, 13, 42, 3, 16, 9, 182, 0, 133, 154, 0, 5, 3, 172, 43, 42, 180, 0, 41, 182, 0, 175, 153, 0, 9, 42, 6, 182, 0, 105, 172, 43, 89, 180, 0, 178, 4, 42, 180, 0, 41, 120, 128, 181, 0, 178, 42, 182, 0, 139, 172]
theorem hb_259 : prog_6_method_11_code.data.toList.map UInt8.toNat = bl_259 := dk_eq_t _ _ (by decide +kernel)
def bl_260 : List Nat := [42, 4, 182, 0, 156, 76, 43, 198, 0, 13, 42, 3, 16, 7, 182, 0, 133, 154, 0, 5, 3, 172, 42, 180, 0, 41, 61, 43, 28, 182, 0, 181, 2, 159, 0, 9, 42, 6, 182, 0, 105, 172, 42, 3, 182, 0, 156, 78, 45, 199, 0, 5, 3, 172, 45, 43, 166, 0, 9, 42, 5, 182, 0, 105, 172, 43, 28, 45, 180, 0, 168, 182, 0, 185, 42, 182, 0, 139, 172]
theorem hb_260 : prog_6_method_12_code.data.toList.map UInt8.toNat = bl_260 := dk_eq_t _ _ (by decide +kernel)
def bl_261 : List Nat := [42, 27, 42, 180, 0, 21, 180, 0, 153, 4, 100, 182, 0, 133, 153, 0, 17, 42, 180, 0, 21, 42, 180, 0, 41, 182, 0, 189, 167, 0, 4, 1, 176]
theorem hb_261 : prog_6_method_13_code.data.toList.map UInt8.toNat = bl_261 := dk_eq_t _ _ (by decide +kernel)
def bl_262 : List Nat := [42, 182, 0, 57, 42, 180, 0, 32, 5, 159, 0, 9, 42, 4, 182, 0, 105, 172, 42, 180, 0, 41, 27, 161, 0, 11, 42, 180, 0, 41, 28, 164, 0, 11, 42, 5, 182, 0, 105, 153, 0, 7, 4, 167, 0, 4, 3, 172]
theorem hb_262 : prog_6_method_14_code.data.toList.map UInt8.toNat = bl_262 := dk_eq_t _ _ (by decide +kernel)
def bl_263 : List Nat := [42, 182, 0, 57, 42, 180, 0, 32, 6, 159, 0, 11, 42, 4, 182, 0, 105, 153, 0, 7, 4, 167, 0, 4, 3, 172]
theorem hb_263 : prog_6_method_15_code.data.toList.map UInt8.toNat = bl_263 := dk_eq_t _ _ (by decide +kernel)
def bl_264 : List Nat := [42, 27, 181, 0, 25, 42, 42, 180, 0, 35, 181, 0, 29, 3, 172]
theorem hb_264 : prog_6_method_16_code.data.toList.map UInt8.toNat = bl_264 := dk_eq_t _ _ (by decide +kernel)
def bl_265 : List Nat := [42, 42, 180, 0, 38, 181, 0, 35, 42, 180, 0, 35, 42, 180, 0, 12, 180, 0, 192, 162, 0, 33, 42, 180, 0, 12, 42, 180, 0, 35, 182, 0, 195, 184, 0, 197, 153, 0, 16, 42, 89, 180, 0, 35, 4, 96, 181, 0, 35, 167, 255, 215, 42, 42, 180, 0, 35, 181, 0, 38, 42, 3, 181, 0, 32, 42, 180, 0, 35, 42, 180, 0, 12, 180, 0, 192, 162, 0, 31, 42, 42, 180, 0, 12, 42, 180, 0, 35, 182, 0, 195, 184, 0, 200, 181, 0, 32, 42, 89, 180, 0, 38, 4, 96, 181, 0, 38, 42, 42, 180, 0, 12, 42, 180, 0, 35, 182, 0, 195, 16, 48, 100, 181, 0, 41, 42, 180, 0, 32, 4, 159, 0, 11, 42, 180, 0, 32, 5, 160, 0, 77, 42, 180, 0, 38, 42, 180, 0, 12, 180, 0, 192, 162, 0, 63, 42, 180, 0, 12, 42, 180, 0, 38, 182, 0, 195, 184, 0, 200, 42, 180, 0, 32, 160, 0, 42, 42, 16, 10, 42, 180, 0, 41, 104, 42, 180, 0, 12, 42, 180, 0, 38, 182, 0, 195, 96, 16, 48, 100, 181, 0, 41, 42, 89, 180, 0, 38, 4, 96, 181, 0, 38, 167, 255, 169, 42, 180, 0, 32, 5, 160, 0, 21, 42, 180, 0, 38, 42, 180, 0, 35, 100, 5, 164, 0, 8, 42, 7, 181, 0, 32, 177]
theorem hb_265 : prog_6_method_17_code.data.toList.map UInt8.toNat = bl_265 := dk_eq_t _ _ (by decide +kernel)
def bl_266 : List Nat := [26, 16, 32, 159, 0, 9, 26, 16, 10, 160, 0, 7, 4, 167, 0, 4, 3, 172]
theorem hb_266 : prog_6_method_18_code.data.toList.map UInt8.toNat = bl_266 := dk_eq_t _ _ (by decide +kernel)
def bl_267 : List Nat := [26, 16, 97, 161, 0, 11, 26, 16, 122, 163, 0, 5, 4, 172, 26, 16, 48, 161, 0, 11, 26, 16, 57, 163, 0, 5, 5, 172, 26, 16, 59, 160, 0, 7, 6, 167, 0, 4, 7, 172]
theorem hb_267 : prog_6_method_19_code.data.toList.map UInt8.toNat = bl_267 := dk_eq_t _ _ (by decide +kernel)
def bl_268 : List Nat := [42, 180, 0, 38, 42, 180, 0, 35, 100, 43, 182, 0, 203, 160, 0, 7, 4, 167, 0, 4, 3, 61, 3, 62, 28, 153, 0, 44, 29, 43, 182, 0, 203, 162, 0, 36, 42, 180, 0, 12, 42, 180, 0, 35, 29, 96, 182, 0, 195, 43, 29, 182, 0, 207, 160, 0, 7, 4, 167, 0, 4, 3, 61, 132, 3, 1, 167, 255, 214, 28, 172]
theorem hb_268 : prog_6_method_20_code.data.toList.map UInt8.toNat = bl_268 := dk_eq_t _ _ (by decide +kernel)
def bl_269 : List Nat := [42, 183, 0, 3, 42, 187, 0, 9, 89, 3, 183, 0, 11, 181, 0, 14, 42, 16, 40, 189, 0, 9, 181, 0, 20, 42, 16, 8, 188, 10, 181, 0, 24, 42, 8, 188, 10, 181, 0, 28, 42, 16, 20, 181, 0, 31, 42, 3, 181, 0, 35, 42, 3, 181, 0, 38, 42, 3, 181, 0, 41, 42, 3, 181, 0, 44, 42, 3, 181, 0, 47, 3, 60, 27, 16, 40, 162, 0, 34, 42, 180, 0, 20, 27, 27, 154, 0, 10, 42, 180, 0, 14, 167, 0, 11, 187, 0, 9, 89, 27, 183, 0, 11, 83, 132, 1, 1, 167, 255, 222, 42, 182, 0, 50, 177]
theorem hb_269 : prog_7_method_1_code.data.toList.map UInt8.toNat = bl_269 := dk_eq_t _ _ (by decide +kernel)
def bl_270 : List Nat := [42, 180, 0, 20, 76, 43, 190, 61, 3, 62, 29, 28, 162, 0, 23, 43, 29, 50, 58, 4, 25, 4, 6, 3, 3, 3, 182, 0, 53, 132, 3, 1, 167, 255, 234, 42, 180, 0, 14, 3, 16, 9, 3, 3, 182, 0, 53, 3, 60, 27, 16, 8, 162, 0, 16, 42, 180, 0, 24, 27, 3, 79, 132, 1, 1, 167, 255, 240, 42, 182, 0, 57, 42, 180, 0, 28, 3, 3, 79, 42, 180, 0, 28, 4, 4, 79, 42, 180, 0, 28, 5, 5, 79, 42, 16, 20, 181, 0, 31, 42, 4, 181, 0, 35, 42, 3, 181, 0, 38, 42, 3, 181, 0, 41, 42, 3, 181, 0, 44, 42, 3, 181, 0, 47, 177]
theorem hb_270 : prog_7_method_2_code.data.toList.map UInt8.toNat = bl_270 := dk_eq_t _ _ (by decide +kernel)
def bl_271 : List Nat := [42, 180, 0, 28, 77, 44, 190, 62, 3, 54, 4, 21, 4, 29, 162, 0, 23, 44, 21, 4, 46, 54, 5, 21, 5, 27, 160, 0, 5, 4, 172, 132, 4, 1, 167, 255, 233, 3, 172]
theorem hb_271 : prog_7_method_3_code.data.toList.map UInt8.toNat = bl_271 := dk_eq_t _ _ (by decide +kernel)
def bl_272 : List Nat := [3, 60, 27, 8, 162, 0, 16, 42, 180, 0, 28, 27, 2, 79, 132, 1, 1, 167, 255, 241, 177]
theorem hb_272 : prog_7_method_4_code.data.toList.map UInt8.toNat = bl_272 := dk_eq_t _ _ (by decide +kernel)
def bl_273 : List Nat := [42, 43, 180, 0, 35, 181, 0, 35, 3, 61, 28, 16, 40, 162, 0, 57, 43, 180, 0, 20, 28, 50, 78, 42, 180, 0, 20, 28, 50, 45, 182, 0, 60, 42, 180, 0, 20, 28, 50, 45, 180, 0, 64, 199, 0, 7, 1, 167, 0, 14, 42, 45, 180, 0, 64, 180, 0, 67, 182, 0, 70, 181, 0, 64, 132, 2, 1, 167, 255, 199, 43, 180, 0, 24, 3, 42, 180, 0, 24, 3, 16, 8, 184, 0, 74, 43, 180, 0, 28, 3, 42, 180, 0, 28, 3, 8, 184, 0, 74, 42, 43, 180, 0, 31, 181, 0, 31, 42, 43, 180, 0, 38, 181, 0, 38, 42, 43, 180, 0, 41, 181, 0, 41, 42, 43, 180, 0, 44, 181, 0, 44, 42, 43, 180, 0, 47, 181, 0, 47, 177]
theorem hb_273 : prog_7_method_5_code.data.toList.map UInt8.toNat = bl_273 := dk_eq_t _ _ (by decide +kernel)
def bl_274 : List Nat := [27, 155, 0, 17, 27, 42, 180, 0, 35, 162, 0, 9, 27, 16, 40, 161, 0, 7, 1, 167, 0, 9, 42, 180, 0, 20, 27, 50, 176]
theorem hb_274 : prog_7_method_6_code.data.toList.map UInt8.toNat = bl_274 := dk_eq_t _ _ (by decide +kernel)
def bl_275 : List Nat := [3, 61, 42, 180, 0, 20, 78, 45, 190, 54, 4, 3, 54, 5, 21, 5, 21, 4, 162, 0, 27, 45, 21, 5, 50, 58, 6, 25, 6, 180, 0, 80, 27, 160, 0, 6, 132, 2, 1, 132, 5, 1, 167, 255, 228, 28, 172]
theorem hb_275 : prog_7_method_7_code.data.toList.map UInt8.toNat = bl_275 := dk_eq_t _ _ (by decide +kernel)
def bl_276 : List Nat := [3, 62, 42, 180, 0, 20, 58, 4, 25, 4, 190, 54, 5, 3, 54, 6, 21, 6, 21, 5, 162, 0, 37, 25, 4, 21, 6, 50, 58, 7, 25, 7, 180, 0, 80, 28, 160, 0, 15, 43, 25, 7, 182, 0, 83, 153, 0, 6, 132, 3, 1, 132, 6, 1, 167, 255, 218, 29, 172]
theorem hb_276 : prog_7_method_8_code.data.toList.map UInt8.toNat = bl_276 := dk_eq_t _ _ (by decide +kernel)
def bl_277 : List Nat := [3, 61, 42, 180, 0, 20, 78, 45, 190, 54, 4, 3, 54, 5, 21, 5, 21, 4, 162, 0, 27, 45, 21, 5, 50, 58, 6, 25, 6, 43, 182, 0, 87, 153, 0, 6, 132, 2, 1, 132, 5, 1, 167, 255, 228, 28, 172]
theorem hb_277 : prog_7_method_9_code.data.toList.map UInt8.toNat = bl_277 := dk_eq_t _ _ (by decide +kernel)
def bl_278 : List Nat := [3, 60, 42, 180, 0, 20, 77, 44, 190, 62, 3, 54, 4, 21, 4, 29, 162, 0, 38, 44, 21, 4, 50, 58, 5, 25, 5, 182, 0, 90, 153, 0, 18, 25, 5, 182, 0, 94, 27, 164, 0, 9, 25, 5, 182, 0, 94, 60, 132, 4, 1, 167, 255, 218, 27, 172]
theorem hb_278 : prog_7_method_10_code.data.toList.map UInt8.toNat = bl_278 := dk_eq_t _ _ (by decide +kernel)
def bl_279 : List Nat := [43, 78, 45, 198, 0, 26, 45, 44, 165, 0, 11, 45, 44, 182, 0, 83, 153, 0, 5, 45, 176, 45, 180, 0, 64, 78, 167, 255, 232, 42, 180, 0, 14, 176]
theorem hb_279 : prog_7_method_11_code.data.toList.map UInt8.toNat = bl_279 := dk_eq_t _ _ (by decide +kernel)
def bl_280 : List Nat := [42, 180, 0, 20, 78, 45, 190, 54, 4, 3, 54, 5, 21, 5, 21, 4, 162, 0, 36, 45, 21, 5, 50, 58, 6, 25, 6, 180, 0, 67, 28, 164, 0, 15, 25, 6, 43, 182, 0, 98, 153, 0, 6, 25, 6, 176, 132, 5, 1, 167, 255, 219, 1, 176]
theorem hb_280 : prog_7_method_12_code.data.toList.map UInt8.toNat = bl_280 := dk_eq_t _ _ (by decide +kernel)
def bl_281 : List Nat := [1, 78, 42, 180, 0, 20, 58, 4, 25, 4, 190, 54, 5, 3, 54, 6, 21, 6, 21, 5, 162, 0, 53, 25, 4, 21, 6, 50, 58, 7, 25, 7, 43, 182, 0, 87, 153, 0, 31, 25, 7, 180, 0, 101, 28, 164, 0, 22, 45, 198, 0, 15, 25, 7, 180, 0, 101, 45, 180, 0, 101, 162, 0, 6, 25, 7, 78, 132, 6, 1, 167, 255, 202, 45, 176]
theorem hb_281 : prog_7_method_13_code.data.toList.map UInt8.toNat = bl_281 := dk_eq_t _ _ (by decide +kernel)
def bl_282 : List Nat := [42, 43, 2, 182, 0, 104, 77, 43, 78, 44, 199, 0, 31, 45, 180, 0, 64, 198, 0, 24, 42, 45, 180, 0, 64, 45, 180, 0, 67, 182, 0, 104, 77, 45, 180, 0, 64, 78, 167, 255, 227, 44, 176]
theorem hb_282 : prog_7_method_14_code.data.toList.map UInt8.toNat = bl_282 := dk_eq_t _ _ (by decide +kernel)
def bl_283 : List Nat := [27, 155, 0, 9, 27, 16, 8, 161, 0, 7, 1, 167, 0, 13, 42, 42, 180, 0, 24, 27, 46, 182, 0, 70, 77, 44, 199, 0, 10, 42, 180, 0, 14, 167, 0, 4, 44, 176]
theorem hb_283 : prog_7_method_15_code.data.toList.map UInt8.toNat = bl_283 := dk_eq_t _ _ (by decide +kernel)
def bl_284 : List Nat := [27, 155, 0, 19, 27, 16, 8, 162, 0, 13, 42, 180, 0, 24, 27, 44, 180, 0, 67, 79, 177]
theorem hb_284 : prog_7_method_16_code.data.toList.map UInt8.toNat = bl_284 := dk_eq_t _ _ (by decide +kernel)
def bl_285 : List Nat := [3, 61, 3, 62, 29, 16, 8, 162, 0, 28, 42, 180, 0, 24, 29, 46, 43, 180, 0, 67, 160, 0, 9, 28, 4, 29, 120, 128, 61, 132, 3, 1, 167, 255, 228, 28, 172]
theorem hb_285 : prog_7_method_17_code.data.toList.map UInt8.toNat = bl_285 := dk_eq_t _ _ (by decide +kernel)
def bl_286 : List Nat := [42, 180, 0, 35, 155, 0, 12, 42, 180, 0, 35, 16, 40, 161, 0, 5, 1, 176, 42, 180, 0, 20, 42, 180, 0, 35, 50, 58, 5, 42, 89, 180, 0, 35, 4, 96, 181, 0, 35, 25, 5, 3, 28, 29, 21, 4, 182, 0, 53, 25, 5, 43, 182, 0, 108, 25, 5, 176]
theorem hb_286 : prog_7_method_18_code.data.toList.map UInt8.toNat = bl_286 := dk_eq_t _ _ (by decide +kernel)
def bl_287 : List Nat := [43, 180, 0, 64, 78, 45, 199, 0, 5, 3, 172, 42, 180, 0, 44, 54, 4, 43, 4, 181, 0, 80, 43, 28, 181, 0, 111, 43, 42, 180, 0, 38, 181, 0, 101, 42, 89, 180, 0, 38, 4, 96, 181, 0, 38, 45, 89, 180, 0, 114, 4, 100, 181, 0, 114, 28, 154, 0, 7, 1, 167, 0, 9, 42, 43, 45, 182, 0, 117, 58, 5, 42, 43, 25, 5, 182, 0, 121, 42, 180, 0, 20, 58, 6, 25, 6, 190, 54, 7, 3, 54, 8, 21, 8, 21, 7, 162, 0, 67, 25, 6, 21, 8, 50, 58, 9, 25, 9, 43, 182, 0, 98, 153, 0, 45, 25, 5, 198, 0, 15, 25, 5, 182, 0, 125, 158, 0, 7, 4, 167, 0, 4, 3, 54, 10, 42, 25, 9, 21, 10, 153, 0, 8, 25, 5, 167, 0, 9, 42, 25, 9, 182, 0, 128, 182, 0, 132, 132, 8, 1, 167, 255, 188, 42, 180, 0, 20, 58, 6, 25, 6, 190, 54, 7, 3, 54, 8, 21, 8, 21, 7, 162, 0, 31, 25, 6, 21, 8, 50, 58, 9, 25, 9, 43, 182, 0, 87, 153, 0, 9, 25, 9, 45, 181, 0, 64, 132, 8, 1, 167, 255, 224, 45, 42, 180, 0, 14, 166, 0, 12, 42, 42, 180, 0, 14, 182, 0, 135, 87, 42, 180, 0, 44, 21, 4, 100, 172]
theorem hb_287 : prog_7_method_19_code.data.toList.map UInt8.toNat = bl_287 := dk_eq_t _ _ (by decide +kernel)
def bl_288 : List Nat := [44, 180, 0, 139, 154, 0, 10, 44, 180, 0, 143, 157, 0, 5, 1, 176, 42, 44, 43, 180, 0, 146, 43, 180, 0, 149, 43, 180, 0, 143, 182, 0, 152, 78, 45, 198, 0, 31, 44, 89, 180, 0, 143, 4, 100, 181, 0, 143, 43, 45, 180, 0, 67, 181, 0, 156, 42, 89, 180, 0, 47, 4, 96, 181, 0, 47, 45, 176]
theorem hb_288 : prog_7_method_20_code.data.toList.map UInt8.toNat = bl_288 := dk_eq_t _ _ (by decide +kernel)
def bl_289 : List Nat := [3, 62, 29, 16, 8, 162, 0, 49, 42, 180, 0, 24, 29, 46, 43, 180, 0, 67, 160, 0, 30, 44, 198, 0, 7, 44, 167, 0, 9, 42, 43, 29, 182, 0, 159, 58, 4, 42, 180, 0, 24, 29, 25, 4, 180, 0, 67, 79, 132, 3, 1, 167, 255, 207, 177]
theorem hb_289 : prog_7_method_21_code.data.toList.map UInt8.toNat = bl_289 := dk_eq_t _ _ (by decide +kernel)
def bl_290 : List Nat := [42, 43, 28, 182, 0, 162, 182, 0, 70, 78, 45, 198, 0, 14, 45, 182, 0, 166, 153, 0, 7, 45, 167, 0, 8, 42, 43, 182, 0, 169, 176]
theorem hb_290 : prog_7_method_22_code.data.toList.map UInt8.toNat = bl_290 := dk_eq_t _ _ (by decide +kernel)
def bl_291 : List Nat := [42, 43, 180, 0, 172, 182, 0, 70, 77, 44, 198, 0, 12, 44, 182, 0, 166, 153, 0, 5, 44, 176, 42, 180, 0, 20, 78, 45, 190, 54, 4, 3, 54, 5, 21, 5, 21, 4, 162, 0, 35, 45, 21, 5, 50, 58, 6, 25, 6, 43, 182, 0, 98, 153, 0, 14, 25, 6, 182, 0, 166, 153, 0, 6, 25, 6, 176, 132, 5, 1, 167, 255, 220, 43, 180, 0, 64, 199, 0, 10, 42, 180, 0, 14, 167, 0, 7, 43, 180, 0, 64, 176]
theorem hb_291 : prog_7_method_23_code.data.toList.map UInt8.toNat = bl_291 := dk_eq_t _ _ (by decide +kernel)
def bl_292 : List Nat := [43, 44, 182, 0, 108, 43, 89, 180, 0, 175, 4, 96, 181, 0, 175, 42, 89, 180, 0, 41, 4, 96, 181, 0, 41, 44, 42, 180, 0, 14, 166, 0, 13, 42, 89, 180, 0, 44, 4, 96, 181, 0, 44, 177]
theorem hb_292 : prog_7_method_24_code.data.toList.map UInt8.toNat = bl_292 := dk_eq_t _ _ (by decide +kernel)
def bl_293 : List Nat := [43, 180, 0, 64, 77, 44, 199, 0, 8, 42, 180, 0, 14, 176, 1, 78, 3, 54, 4, 21, 4, 8, 162, 0, 108, 45, 199, 0, 104, 42, 180, 0, 28, 21, 4, 46, 170, 0, 0, 0, 0, 0, 0, 88, 0, 0, 0, 0, 0, 0, 0, 4, 0, 0, 0, 36, 0, 0, 0, 46, 0, 0, 0, 57, 0, 0, 0, 68, 0, 0, 0, 78, 42, 43, 44, 182, 0, 178, 78, 167, 0, 45, 42, 43, 44, 4, 182, 0, 181, 78, 167, 0, 34, 42, 43, 44, 3, 182, 0, 181, 78, 167, 0, 23, 42, 43, 44, 182, 0, 185, 78, 167, 0, 13, 42, 43, 44, 182, 0, 188, 78, 167, 0, 3, 132, 4, 1, 167, 255, 148, 45, 199, 0, 10, 42, 180, 0, 14, 167, 0, 4, 45, 176]
theorem hb_293 : prog_7_method_25_code.data.toList.map UInt8.toNat = bl_293 := dk_eq_t _ _ (by decide +kernel)
def bl_294 : List Nat := [44, 180, 0, 64, 78, 45, 198, 0, 22, 42, 45, 43, 182, 0, 191, 153, 0, 5, 45, 176, 45, 180, 0, 64, 78, 167, 255, 236, 1, 176]
theorem hb_294 : prog_7_method_26_code.data.toList.map UInt8.toNat = bl_294 := dk_eq_t _ _ (by decide +kernel)
def bl_295 : List Nat := [1, 58, 4, 42, 180, 0, 20, 58, 5, 25, 5, 190, 54, 6, 3, 54, 7, 21, 7, 21, 6, 162, 0, 94, 25, 5, 21, 7, 50, 58, 8, 25, 8, 44, 165, 0, 23, 29, 153, 0, 15, 25, 8, 180, 0, 149, 43, 180, 0, 149, 160, 0, 7, 4, 167, 0, 4, 3, 54, 9, 25, 4, 198, 0, 16, 25, 8, 182, 0, 125, 25, 4, 182, 0, 125, 164, 0, 7, 4, 167, 0, 4, 3, 54, 10, 21, 9, 153, 0, 22, 21, 10, 153, 0, 17, 42, 25, 8, 43, 182, 0, 191, 153, 0, 7, 25, 8, 58, 4, 132, 7, 1, 167, 255, 161, 25, 4, 176]
theorem hb_295 : prog_7_method_27_code.data.toList.map UInt8.toNat = bl_295 := dk_eq_t _ _ (by decide +kernel)
def bl_296 : List Nat := [44, 180, 0, 64, 78, 42, 180, 0, 20, 58, 4, 25, 4, 190, 54, 5, 3, 54, 6, 21, 6, 21, 5, 162, 0, 48, 25, 4, 21, 6, 50, 58, 7, 45, 198, 0, 31, 25, 7, 44, 165, 0, 25, 25, 7, 45, 182, 0, 98, 153, 0, 16, 42, 25, 7, 43, 182, 0, 191, 153, 0, 6, 25, 7, 176, 132, 6, 1, 167, 255, 207, 1, 176]
theorem hb_296 : prog_7_method_28_code.data.toList.map UInt8.toNat = bl_296 := dk_eq_t _ _ (by decide +kernel)
def bl_297 : List Nat := [42, 180, 0, 20, 78, 45, 190, 54, 4, 3, 54, 5, 21, 5, 21, 4, 162, 0, 34, 45, 21, 5, 50, 58, 6, 25, 6, 44, 165, 0, 16, 42, 25, 6, 43, 182, 0, 191, 153, 0, 6, 25, 6, 176, 132, 5, 1, 167, 255, 221, 1, 176]
theorem hb_297 : prog_7_method_29_code.data.toList.map UInt8.toNat = bl_297 := dk_eq_t _ _ (by decide +kernel)
def bl_298 : List Nat := [43, 182, 0, 195, 153, 0, 33, 43, 180, 0, 139, 154, 0, 26, 43, 44, 165, 0, 21, 43, 44, 180, 0, 149, 182, 0, 198, 154, 0, 10, 43, 182, 0, 125, 154, 0, 5, 3, 172, 43, 182, 0, 94, 42, 180, 0, 31, 162, 0, 15, 44, 43, 182, 0, 83, 154, 0, 7, 4, 167, 0, 4, 3, 172]
theorem hb_298 : prog_7_method_30_code.data.toList.map UInt8.toNat = bl_298 := dk_eq_t _ _ (by decide +kernel)
def bl_299 : List Nat := [42, 180, 0, 20, 78, 45, 190, 54, 4, 3, 54, 5, 21, 5, 21, 4, 162, 0, 42, 45, 21, 5, 50, 58, 6, 25, 6, 25, 6, 182, 0, 195, 153, 0, 16, 25, 6, 180, 0, 149, 27, 160, 0, 7, 4, 167, 0, 4, 3, 181, 0, 139, 132, 5, 1, 167, 255, 213, 3, 62, 42, 180, 0, 20, 58, 4, 25, 4, 190, 54, 5, 3, 54, 6, 21, 6, 21, 5, 162, 0, 35, 25, 4, 21, 6, 50, 58, 7, 25, 7, 180, 0, 139, 153, 0, 14, 42, 25, 7, 28, 182, 0, 202, 87, 132, 3, 1, 132, 6, 1, 167, 255, 220, 42, 180, 0, 20, 58, 4, 25, 4, 190, 54, 5, 3, 54, 6, 21, 6, 21, 5, 162, 0, 22, 25, 4, 21, 6, 50, 58, 7, 25, 7, 3, 181, 0, 139, 132, 6, 1, 167, 255, 233, 29, 172]
theorem hb_299 : prog_7_method_31_code.data.toList.map UInt8.toNat = bl_299 := dk_eq_t _ _ (by decide +kernel)
def bl_300 : List Nat := [3, 62, 42, 180, 0, 20, 58, 4, 25, 4, 190, 54, 5, 3, 54, 6, 21, 6, 21, 5, 162, 0, 49, 25, 4, 21, 6, 50, 58, 7, 25, 7, 43, 182, 0, 98, 153, 0, 27, 25, 7, 180, 0, 149, 28, 160, 0, 18, 42, 25, 7, 42, 25, 7, 182, 0, 128, 182, 0, 132, 132, 3, 1, 132, 6, 1, 167, 255, 206, 29, 172]
theorem hb_300 : prog_7_method_32_code.data.toList.map UInt8.toNat = bl_300 := dk_eq_t _ _ (by decide +kernel)
def bl_301 : List Nat := [3, 61, 16, 39, 62, 29, 155, 0, 56, 43, 180, 0, 114, 43, 180, 0, 146, 164, 0, 39, 42, 180, 0, 20, 29, 50, 43, 182, 0, 98, 153, 0, 26, 42, 42, 180, 0, 20, 29, 50, 42, 42, 180, 0, 20, 29, 50, 182, 0, 128, 182, 0, 132, 132, 2, 1, 132, 3, 255, 167, 255, 202, 28, 172]
theorem hb_301 : prog_7_method_33_code.data.toList.map UInt8.toNat = bl_301 := dk_eq_t _ _ (by decide +kernel)
def bl_302 : List Nat := [3, 61, 42, 180, 0, 20, 78, 45, 190, 54, 4, 3, 54, 5, 21, 5, 21, 4, 162, 0, 38, 45, 21, 5, 50, 58, 6, 25, 6, 43, 182, 0, 87, 153, 0, 17, 25, 6, 5, 181, 0, 80, 28, 25, 6, 180, 0, 111, 96, 61, 132, 5, 1, 167, 255, 217, 28, 172]
theorem hb_302 : prog_7_method_34_code.data.toList.map UInt8.toNat = bl_302 := dk_eq_t _ _ (by decide +kernel)
def bl_303 : List Nat := [3, 62, 42, 43, 182, 0, 206, 58, 4, 25, 4, 198, 0, 30, 29, 16, 40, 162, 0, 24, 42, 25, 4, 28, 182, 0, 202, 87, 132, 3, 1, 42, 43, 182, 0, 206, 58, 4, 167, 255, 227, 29, 172]
theorem hb_303 : prog_7_method_35_code.data.toList.map UInt8.toNat = bl_303 := dk_eq_t _ _ (by decide +kernel)
def bl_304 : List Nat := [1, 77, 42, 180, 0, 20, 78, 45, 190, 54, 4, 3, 54, 5, 21, 5, 21, 4, 162, 0, 51, 45, 21, 5, 50, 58, 6, 25, 6, 182, 0, 90, 153, 0, 31, 43, 25, 6, 182, 0, 83, 153, 0, 22, 44, 198, 0, 15, 25, 6, 182, 0, 94, 44, 182, 0, 94, 161, 0, 6, 25, 6, 77, 132, 5, 1, 167, 255, 204, 44, 176]
theorem hb_304 : prog_7_method_36_code.data.toList.map UInt8.toNat = bl_304 := dk_eq_t _ _ (by decide +kernel)
def bl_305 : List Nat := [44, 3, 42, 27, 182, 0, 7, 133, 80, 167, 0, 6, 78, 4, 172, 3, 172]
theorem hb_305 : method_3_code.data.toList.map UInt8.toNat = bl_305 := dk_eq_t _ _ (by decide +kernel)
def bl_306 : List Nat := [45, 3, 42, 27, 28, 182, 0, 15, 133, 80, 167, 0, 11, 58, 4, 4, 172, 58, 4, 5, 172, 3, 172]
theorem hb_306 : method_4_code.data.toList.map UInt8.toNat = bl_306 := dk_eq_t _ _ (by decide +kernel)
def bl_307 : List Nat := [44, 3, 42, 27, 182, 0, 21, 133, 80, 167, 0, 6, 78, 4, 172, 3, 172]
theorem hb_307 : method_5_code.data.toList.map UInt8.toNat = bl_307 := dk_eq_t _ _ (by decide +kernel)
def bl_308 : List Nat := [44, 3, 42, 27, 182, 0, 24, 133, 80, 167, 0, 9, 78, 4, 172, 78, 5, 172, 3, 172]
theorem hb_308 : method_6_code.data.toList.map UInt8.toNat = bl_308 := dk_eq_t _ _ (by decide +kernel)
def bl_309 : List Nat := [45, 3, 42, 27, 28, 182, 0, 29, 153, 0, 7, 10, 167, 0, 4, 9, 80, 167, 0, 7, 58, 4, 4, 172, 3, 172]
theorem hb_309 : method_7_code.data.toList.map UInt8.toNat = bl_309 := dk_eq_t _ _ (by decide +kernel)
def bl_310 : List Nat := [45, 3, 42, 27, 28, 182, 0, 33, 133, 80, 167, 0, 11, 58, 4, 4, 172, 58, 4, 5, 172, 3, 172]
theorem hb_310 : method_8_code.data.toList.map UInt8.toNat = bl_310 := dk_eq_t _ _ (by decide +kernel)
def bl_311 : List Nat := [44, 3, 42, 27, 182, 0, 36, 133, 80, 167, 0, 6, 78, 4, 172, 3, 172]
theorem hb_311 : method_9_code.data.toList.map UInt8.toNat = bl_311 := dk_eq_t _ _ (by decide +kernel)
def bl_312 : List Nat := [44, 3, 42, 27, 182, 0, 39, 133, 80, 167, 0, 6, 78, 4, 172, 3, 172]
theorem hb_312 : method_10_code.data.toList.map UInt8.toNat = bl_312 := dk_eq_t _ _ (by decide +kernel)
def bl_313 : List Nat := [25, 5, 3, 42, 27, 28, 29, 21, 4, 182, 0, 44, 133, 80, 167, 0, 15, 58, 6, 4, 172, 58, 6, 5, 172, 58, 6, 6, 172, 3, 172]
theorem hb_313 : method_11_code.data.toList.map UInt8.toNat = bl_313 := dk_eq_t _ _ (by decide +kernel)
def bl_314 : List Nat := [45, 3, 42, 27, 28, 182, 0, 48, 133, 80, 167, 0, 15, 58, 4, 4, 172, 58, 4, 5, 172, 58, 4, 6, 172, 3, 172]
theorem hb_314 : method_12_code.data.toList.map UInt8.toNat = bl_314 := dk_eq_t _ _ (by decide +kernel)
def bl_315 : List Nat := [45, 3, 42, 27, 28, 182, 0, 51, 133, 80, 167, 0, 7, 58, 4, 4, 172, 3, 172]
theorem hb_315 : method_13_code.data.toList.map UInt8.toNat = bl_315 := dk_eq_t _ _ (by decide +kernel)
def bl_316 : List Nat := [44, 3, 42, 27, 182, 0, 54, 133, 80, 167, 0, 12, 78, 4, 172, 78, 5, 172, 78, 6, 172, 3, 172]
theorem hb_316 : method_14_code.data.toList.map UInt8.toNat = bl_316 := dk_eq_t _ _ (by decide +kernel)
def bl_317 : List Nat := [45, 3, 42, 27, 28, 182, 0, 57, 133, 80, 167, 0, 15, 58, 4, 4, 172, 58, 4, 5, 172, 58, 4, 6, 172, 3, 172]
theorem hb_317 : method_15_code.data.toList.map UInt8.toNat = bl_317 := dk_eq_t _ _ (by decide +kernel)
def bl_318 : List Nat := [45, 3, 42, 27, 28, 182, 0, 60, 153, 0, 7, 10, 167, 0, 4, 9, 80, 167, 0, 15, 58, 4, 4, 172, 58, 4, 5, 172, 58, 4, 6, 172, 3, 172]
theorem hb_318 : method_16_code.data.toList.map UInt8.toNat = bl_318 := dk_eq_t _ _ (by decide +kernel)
def bl_319 : List Nat := [45, 3, 42, 27, 28, 182, 0, 63, 133, 80, 167, 0, 11, 58, 4, 4, 172, 58, 4, 5, 172, 3, 172]
theorem hb_319 : method_17_code.data.toList.map UInt8.toNat = bl_319 := dk_eq_t _ _ (by decide +kernel)
def bl_320 : List Nat := [45, 3, 42, 27, 28, 182, 0, 66, 133, 80, 167, 0, 15, 58, 4, 4, 172, 58, 4, 5, 172, 58, 4, 6, 172, 3, 172]
theorem hb_320 : method_18_code.data.toList.map UInt8.toNat = bl_320 := dk_eq_t _ _ (by decide +kernel)
def bl_321 : List Nat := [45, 3, 42, 27, 28, 182, 0, 69, 133, 80, 167, 0, 15, 58, 4, 4, 172, 58, 4, 5, 172, 58, 4, 6, 172, 3, 172]
theorem hb_321 : method_19_code.data.toList.map UInt8.toNat = bl_321 := dk_eq_t _ _ (by decide +kernel)
def bl_322 : List Nat := [45, 3, 42, 27, 28, 182, 0, 72, 133, 80, 167, 0, 15, 58, 4, 4, 172, 58, 4, 5, 172, 58, 4, 6, 172, 3, 172]
theorem hb_322 : method_20_code.data.toList.map UInt8.toNat = bl_322 := dk_eq_t _ _ (by decide +kernel)
def bl_323 : List Nat := [45, 3, 42, 27, 28, 182, 0, 75, 133, 80, 167, 0, 15, 58, 4, 4, 172, 58, 4, 5, 172, 58, 4, 6, 172, 3, 172]
theorem hb_323 : method_21_code.data.toList.map UInt8.toNat = bl_323 := dk_eq_t _ _ (by decide +kernel)
def bl_324 : List Nat := [44, 3, 42, 27, 182, 0, 78, 133, 80, 167, 0, 9, 78, 4, 172, 78, 5, 172, 3, 172]
theorem hb_324 : method_22_code.data.toList.map UInt8.toNat = bl_324 := dk_eq_t _ _ (by decide +kernel)
def bl_325 : List Nat := [44, 3, 42, 27, 182, 0, 81, 133, 80, 167, 0, 9, 78, 4, 172, 78, 5, 172, 3, 172]
theorem hb_325 : method_23_code.data.toList.map UInt8.toNat = bl_325 := dk_eq_t _ _ (by decide +kernel)
def bl_326 : List Nat := [45, 3, 42, 27, 28, 182, 0, 84, 133, 80, 167, 0, 15, 58, 4, 4, 172, 58, 4, 5, 172, 58, 4, 6, 172, 3, 172]
theorem hb_326 : method_24_code.data.toList.map UInt8.toNat = bl_326 := dk_eq_t _ _ (by decide +kernel)
def bl_327 : List Nat := [45, 3, 42, 27, 28, 182, 0, 87, 133, 80, 167, 0, 15, 58, 4, 4, 172, 58, 4, 5, 172, 58, 4, 6, 172, 3, 172]
theorem hb_327 : method_25_code.data.toList.map UInt8.toNat = bl_327 := dk_eq_t _ _ (by decide +kernel)
def bl_328 : List Nat := [25, 4, 3, 42, 27, 28, 29, 182, 0, 90, 133, 80, 167, 0, 15, 58, 5, 4, 172, 58, 5, 5, 172, 58, 5, 6, 172, 3, 172]
theorem hb_328 : method_26_code.data.toList.map UInt8.toNat = bl_328 := dk_eq_t _ _ (by decide +kernel)
def bl_329 : List Nat := [45, 3, 42, 27, 28, 182, 0, 94, 133, 80, 167, 0, 7, 58, 4, 4, 172, 3, 172]
theorem hb_329 : method_27_code.data.toList.map UInt8.toNat = bl_329 := dk_eq_t _ _ (by decide +kernel)
def bl_330 : List Nat := [44, 3, 42, 27, 182, 0, 97, 133, 80, 167, 0, 6, 78, 4, 172, 3, 172]
theorem hb_330 : method_28_code.data.toList.map UInt8.toNat = bl_330 := dk_eq_t _ _ (by decide +kernel)
def bl_331 : List Nat := [44, 3, 42, 27, 182, 0, 100, 133, 80, 167, 0, 6, 78, 4, 172, 3, 172]
theorem hb_331 : method_29_code.data.toList.map UInt8.toNat = bl_331 := dk_eq_t _ _ (by decide +kernel)
def bl_332 : List Nat := [44, 3, 42, 27, 182, 0, 103, 133, 80, 167, 0, 6, 78, 4, 172, 3, 172]
theorem hb_332 : method_30_code.data.toList.map UInt8.toNat = bl_332 := dk_eq_t _ _ (by decide +kernel)
def bl_333 : List Nat := [44, 3, 42, 27, 182, 0, 106, 133, 80, 167, 0, 6, 78, 4, 172, 3, 172]
theorem hb_333 : method_31_code.data.toList.map UInt8.toNat = bl_333 := dk_eq_t _ _ (by decide +kernel)
def bl_334 : List Nat := [44, 3, 42, 27, 182, 0, 109, 133, 80, 167, 0, 6, 78, 4, 172, 3, 172]
theorem hb_334 : method_32_code.data.toList.map UInt8.toNat = bl_334 := dk_eq_t _ _ (by decide +kernel)
def bl_335 : List Nat := [45, 3, 42, 27, 28, 182, 0, 112, 133, 80, 167, 0, 15, 58, 4, 4, 172, 58, 4, 5, 172, 58, 4, 6, 172, 3, 172]
theorem hb_335 : method_33_code.data.toList.map UInt8.toNat = bl_335 := dk_eq_t _ _ (by decide +kernel)
def bl_336 : List Nat := [45, 3, 42, 27, 28, 182, 0, 115, 133, 80, 167, 0, 11, 58, 4, 4, 172, 58, 4, 5, 172, 3, 172]
theorem hb_336 : method_34_code.data.toList.map UInt8.toNat = bl_336 := dk_eq_t _ _ (by decide +kernel)
def bl_337 : List Nat := [44, 3, 42, 27, 182, 0, 118, 133, 80, 167, 0, 9, 78, 4, 172, 78, 5, 172, 3, 172]
theorem hb_337 : method_35_code.data.toList.map UInt8.toNat = bl_337 := dk_eq_t _ _ (by decide +kernel)
def bl_338 : List Nat := [44, 3, 42, 27, 182, 0, 121, 133, 80, 167, 0, 6, 78, 4, 172, 3, 172]
theorem hb_338 : method_36_code.data.toList.map UInt8.toNat = bl_338 := dk_eq_t _ _ (by decide +kernel)
def bl_339 : List Nat := [44, 3, 42, 27, 182, 0, 124, 133, 80, 167, 0, 6, 78, 4, 172, 3, 172]
theorem hb_339 : method_37_code.data.toList.map UInt8.toNat = bl_339 := dk_eq_t _ _ (by decide +kernel)
def bl_340 : List Nat := [44, 3, 42, 27, 182, 0, 127, 133, 80, 167, 0, 9, 78, 4, 172, 78, 5, 172, 3, 172]
theorem hb_340 : method_38_code.data.toList.map UInt8.toNat = bl_340 := dk_eq_t _ _ (by decide +kernel)
def bl_341 : List Nat := [44, 3, 42, 27, 182, 0, 130, 133, 80, 167, 0, 9, 78, 4, 172, 78, 5, 172, 3, 172]
theorem hb_341 : method_39_code.data.toList.map UInt8.toNat = bl_341 := dk_eq_t _ _ (by decide +kernel)
def bl_342 : List Nat := [45, 3, 42, 27, 28, 182, 0, 133, 133, 80, 167, 0, 7, 58, 4, 4, 172, 3, 172]
theorem hb_342 : method_40_code.data.toList.map UInt8.toNat = bl_342 := dk_eq_t _ _ (by decide +kernel)
def bl_343 : List Nat := [45, 3, 42, 27, 28, 182, 0, 136, 133, 80, 167, 0, 11, 58, 4, 4, 172, 58, 4, 5, 172, 3, 172]
theorem hb_343 : method_41_code.data.toList.map UInt8.toNat = bl_343 := dk_eq_t _ _ (by decide +kernel)
def bl_344 : List Nat := [44, 3, 42, 27, 182, 0, 139, 133, 80, 167, 0, 9, 78, 4, 172, 78, 5, 172, 3, 172]
theorem hb_344 : method_42_code.data.toList.map UInt8.toNat = bl_344 := dk_eq_t _ _ (by decide +kernel)
def bl_345 : List Nat := [25, 4, 3, 42, 27, 28, 29, 182, 0, 142, 133, 80, 167, 0, 15, 58, 5, 4, 172, 58, 5, 5, 172, 58, 5, 6, 172, 3, 172]
theorem hb_345 : method_43_code.data.toList.map UInt8.toNat = bl_345 := dk_eq_t _ _ (by decide +kernel)
def bl_346 : List Nat := [44, 3, 42, 27, 182, 0, 145, 133, 80, 167, 0, 6, 78, 4, 172, 3, 172]
theorem hb_346 : method_44_code.data.toList.map UInt8.toNat = bl_346 := dk_eq_t _ _ (by decide +kernel)
def bl_347 : List Nat := [44, 3, 42, 27, 182, 0, 148, 133, 80, 167, 0, 6, 78, 4, 172, 3, 172]
theorem hb_347 : method_45_code.data.toList.map UInt8.toNat = bl_347 := dk_eq_t _ _ (by decide +kernel)
def bl_348 : List Nat := [44, 3, 42, 27, 182, 0, 151, 133, 80, 167, 0, 6, 78, 4, 172, 3, 172]
theorem hb_348 : method_46_code.data.toList.map UInt8.toNat = bl_348 := dk_eq_t _ _ (by decide +kernel)
def bl_349 : List Nat := [44, 3, 42, 27, 182, 0, 154, 133, 80, 167, 0, 6, 78, 4, 172, 3, 172]
theorem hb_349 : method_47_code.data.toList.map UInt8.toNat = bl_349 := dk_eq_t _ _ (by decide +kernel)
def bl_350 : List Nat := [45, 3, 42, 27, 28, 182, 0, 157, 133, 80, 167, 0, 15, 58, 4, 4, 172, 58, 4, 5, 172, 58, 4, 6, 172, 3, 172]
theorem hb_350 : method_48_code.data.toList.map UInt8.toNat = bl_350 := dk_eq_t _ _ (by decide +kernel)
def bl_351 : List Nat := [43, 3, 42, 182, 0, 160, 133, 80, 167, 0, 6, 77, 4, 172, 3, 172]
theorem hb_351 : method_49_code.data.toList.map UInt8.toNat = bl_351 := dk_eq_t _ _ (by decide +kernel)
def bl_353 : List Nat := [26, 26, 4, 124, 19, 1, 9, 126, 100, 59, 26, 19, 1, 10, 126, 26, 5, 124, 19, 1, 10, 126, 96, 59, 26, 26, 7, 124, 96, 19, 1, 11, 126, 59, 26, 26, 16, 8, 124, 96, 59, 26, 26, 16, 16, 124, 96, 59, 26, 16, 63, 126, 172]
theorem hb_353 : prog_17_method_49_code.data.toList.map UInt8.toNat = bl_353 := dk_eq_t _ _ (by decide +kernel)
