section
-- ===== PART A: goes FIRST, ahead of the names: the tables' words, and 'selects' of the private methods out of them =====
/-- a private method of a class that the tables say can be made, by its rows of tables_1 -/
def lw_okq (q : MethodName × Nat) : Prop := (q.1.cls ≠ "java/lang/invoke/MethodHandle" ∧ q.1.cls ≠ "java/lang/invoke/VarHandle") ∧ Cond.instantiable q.1.cls q.2 ∈ tables_1 ∧ Cond.privateMethod q.1 ∈ tables_1 ∧ Cond.instanceMethod q.1 ∈ tables_1
theorem lw_p0 : lw_okq (⟨"OrphanTree$SetupReader", "advance", "()V"⟩, 11) := ⟨⟨by decide +kernel, by decide +kernel⟩, List.mem_of_getElem? (i := 204) (by decide +kernel), List.mem_of_getElem? (i := 328) (by decide +kernel), List.mem_of_getElem? (i := 329) (by decide +kernel)⟩
theorem lw_p1 : lw_okq (⟨"OrphanTree$SetupReader", "isWord", "(Ljava/lang/String;)Z"⟩, 11) := ⟨⟨by decide +kernel, by decide +kernel⟩, List.mem_of_getElem? (i := 204) (by decide +kernel), List.mem_of_getElem? (i := 343) (by decide +kernel), List.mem_of_getElem? (i := 344) (by decide +kernel)⟩
theorem lw_p2 : lw_okq (⟨"OrphanTree$SetupReader", "takeOrder", "()Z"⟩, 11) := ⟨⟨by decide +kernel, by decide +kernel⟩, List.mem_of_getElem? (i := 204) (by decide +kernel), List.mem_of_getElem? (i := 395) (by decide +kernel), List.mem_of_getElem? (i := 396) (by decide +kernel)⟩
theorem lw_p3 : lw_okq (⟨"OrphanTree$SetupReader", "fail", "(I)Z"⟩, 11) := ⟨⟨by decide +kernel, by decide +kernel⟩, List.mem_of_getElem? (i := 204) (by decide +kernel), List.mem_of_getElem? (i := 399) (by decide +kernel), List.mem_of_getElem? (i := 400) (by decide +kernel)⟩
theorem lw_p4 : lw_okq (⟨"OrphanTree$SetupReader", "ruleOfWord", "()I"⟩, 11) := ⟨⟨by decide +kernel, by decide +kernel⟩, List.mem_of_getElem? (i := 204) (by decide +kernel), List.mem_of_getElem? (i := 404) (by decide +kernel), List.mem_of_getElem? (i := 405) (by decide +kernel)⟩
theorem lw_p5 : lw_okq (⟨"OrphanTree$SetupReader", "takeDeep", "()Z"⟩, 11) := ⟨⟨by decide +kernel, by decide +kernel⟩, List.mem_of_getElem? (i := 204) (by decide +kernel), List.mem_of_getElem? (i := 418) (by decide +kernel), List.mem_of_getElem? (i := 419) (by decide +kernel)⟩
theorem lw_p6 : lw_okq (⟨"OrphanTree$SetupReader", "takeNumber", "(II)Z"⟩, 11) := ⟨⟨by decide +kernel, by decide +kernel⟩, List.mem_of_getElem? (i := 204) (by decide +kernel), List.mem_of_getElem? (i := 422) (by decide +kernel), List.mem_of_getElem? (i := 423) (by decide +kernel)⟩
theorem lw_p7 : lw_okq (⟨"OrphanTree$SetupReader", "takeSemicolon", "()Z"⟩, 11) := ⟨⟨by decide +kernel, by decide +kernel⟩, List.mem_of_getElem? (i := 204) (by decide +kernel), List.mem_of_getElem? (i := 426) (by decide +kernel), List.mem_of_getElem? (i := 427) (by decide +kernel)⟩
theorem lw_p8 : lw_okq (⟨"OrphanTree$SetupReader", "takeRoot", "()Z"⟩, 11) := ⟨⟨by decide +kernel, by decide +kernel⟩, List.mem_of_getElem? (i := 204) (by decide +kernel), List.mem_of_getElem? (i := 431) (by decide +kernel), List.mem_of_getElem? (i := 432) (by decide +kernel)⟩
theorem lw_p9 : lw_okq (⟨"OrphanTree$SetupReader", "takeProcess", "()Z"⟩, 11) := ⟨⟨by decide +kernel, by decide +kernel⟩, List.mem_of_getElem? (i := 204) (by decide +kernel), List.mem_of_getElem? (i := 436) (by decide +kernel), List.mem_of_getElem? (i := 437) (by decide +kernel)⟩
theorem lw_p10 : lw_okq (⟨"OrphanTree$SetupReader", "takeNamed", "(I)LOrphanTree$Proc;"⟩, 11) := ⟨⟨by decide +kernel, by decide +kernel⟩, List.mem_of_getElem? (i := 204) (by decide +kernel), List.mem_of_getElem? (i := 440) (by decide +kernel), List.mem_of_getElem? (i := 441) (by decide +kernel)⟩
theorem lw_p11 : lw_okq (⟨"OrphanTree$SetupReader", "takeHeir", "()Z"⟩, 11) := ⟨⟨by decide +kernel, by decide +kernel⟩, List.mem_of_getElem? (i := 204) (by decide +kernel), List.mem_of_getElem? (i := 461) (by decide +kernel), List.mem_of_getElem? (i := 462) (by decide +kernel)⟩
theorem lw_p12 : lw_okq (⟨"OrphanTree$SetupReader", "takeDuty", "()Z"⟩, 11) := ⟨⟨by decide +kernel, by decide +kernel⟩, List.mem_of_getElem? (i := 204) (by decide +kernel), List.mem_of_getElem? (i := 466) (by decide +kernel), List.mem_of_getElem? (i := 467) (by decide +kernel)⟩
theorem lw_p13 : lw_okq (⟨"OrphanTree$SetupReader", "takeRefusal", "()Z"⟩, 11) := ⟨⟨by decide +kernel, by decide +kernel⟩, List.mem_of_getElem? (i := 204) (by decide +kernel), List.mem_of_getElem? (i := 475) (by decide +kernel), List.mem_of_getElem? (i := 476) (by decide +kernel)⟩
theorem lw_p14 : lw_okq (⟨"OrphanTree$SetupReader", "takeWill", "()Z"⟩, 11) := ⟨⟨by decide +kernel, by decide +kernel⟩, List.mem_of_getElem? (i := 204) (by decide +kernel), List.mem_of_getElem? (i := 484) (by decide +kernel), List.mem_of_getElem? (i := 485) (by decide +kernel)⟩
theorem lw_p15 : lw_okq (⟨"java/lang/Throwable", "fillInStackTrace", "(I)Ljava/lang/Throwable;"⟩, 6) := ⟨⟨by decide +kernel, by decide +kernel⟩, List.mem_of_getElem? (i := 646) (by decide +kernel), List.mem_of_getElem? (i := 644) (by decide +kernel), List.mem_of_getElem? (i := 645) (by decide +kernel)⟩
def lw_privs_1 : List (MethodName × Nat) := [(⟨"OrphanTree$SetupReader", "advance", "()V"⟩, 11), (⟨"OrphanTree$SetupReader", "isWord", "(Ljava/lang/String;)Z"⟩, 11), (⟨"OrphanTree$SetupReader", "takeOrder", "()Z"⟩, 11), (⟨"OrphanTree$SetupReader", "fail", "(I)Z"⟩, 11), (⟨"OrphanTree$SetupReader", "ruleOfWord", "()I"⟩, 11), (⟨"OrphanTree$SetupReader", "takeDeep", "()Z"⟩, 11), (⟨"OrphanTree$SetupReader", "takeNumber", "(II)Z"⟩, 11), (⟨"OrphanTree$SetupReader", "takeSemicolon", "()Z"⟩, 11), (⟨"OrphanTree$SetupReader", "takeRoot", "()Z"⟩, 11), (⟨"OrphanTree$SetupReader", "takeProcess", "()Z"⟩, 11), (⟨"OrphanTree$SetupReader", "takeNamed", "(I)LOrphanTree$Proc;"⟩, 11), (⟨"OrphanTree$SetupReader", "takeHeir", "()Z"⟩, 11), (⟨"OrphanTree$SetupReader", "takeDuty", "()Z"⟩, 11), (⟨"OrphanTree$SetupReader", "takeRefusal", "()Z"⟩, 11), (⟨"OrphanTree$SetupReader", "takeWill", "()Z"⟩, 11), (⟨"java/lang/Throwable", "fillInStackTrace", "(I)Ljava/lang/Throwable;"⟩, 6)]
theorem lw_r1 : ∀ q ∈ lw_privs_1, lw_okq q := List.forall_mem_cons.mpr ⟨lw_p0, List.forall_mem_cons.mpr ⟨lw_p1, List.forall_mem_cons.mpr ⟨lw_p2, List.forall_mem_cons.mpr ⟨lw_p3, List.forall_mem_cons.mpr ⟨lw_p4, List.forall_mem_cons.mpr ⟨lw_p5, List.forall_mem_cons.mpr ⟨lw_p6, List.forall_mem_cons.mpr ⟨lw_p7, List.forall_mem_cons.mpr ⟨lw_p8, List.forall_mem_cons.mpr ⟨lw_p9, List.forall_mem_cons.mpr ⟨lw_p10, List.forall_mem_cons.mpr ⟨lw_p11, List.forall_mem_cons.mpr ⟨lw_p12, List.forall_mem_cons.mpr ⟨lw_p13, List.forall_mem_cons.mpr ⟨lw_p14, List.forall_mem_cons.mpr ⟨lw_p15, fun _ h => absurd h List.not_mem_nil⟩⟩⟩⟩⟩⟩⟩⟩⟩⟩⟩⟩⟩⟩⟩⟩
theorem lw_p16 : lw_okq (⟨"OrphanTree", "named", "(I)LOrphanTree$Proc;"⟩, 7) := ⟨⟨by decide +kernel, by decide +kernel⟩, List.mem_of_getElem? (i := 24) (by decide +kernel), List.mem_of_getElem? (i := 683) (by decide +kernel), List.mem_of_getElem? (i := 684) (by decide +kernel)⟩
theorem lw_p17 : lw_okq (⟨"OrphanTree", "namedForExit", "(II)LOrphanTree$Proc;"⟩, 7) := ⟨⟨by decide +kernel, by decide +kernel⟩, List.mem_of_getElem? (i := 24) (by decide +kernel), List.mem_of_getElem? (i := 852) (by decide +kernel), List.mem_of_getElem? (i := 853) (by decide +kernel)⟩
theorem lw_p18 : lw_okq (⟨"OrphanTree$Tree", "replace", "(LOrphanTree$Proc;LOrphanTree$Proc;)LOrphanTree$Proc;"⟩, 10) := ⟨⟨by decide +kernel, by decide +kernel⟩, List.mem_of_getElem? (i := 32) (by decide +kernel), List.mem_of_getElem? (i := 864) (by decide +kernel), List.mem_of_getElem? (i := 865) (by decide +kernel)⟩
theorem lw_p19 : lw_okq (⟨"OrphanTree$Tree", "passDuties", "(LOrphanTree$Proc;LOrphanTree$Proc;)V"⟩, 10) := ⟨⟨by decide +kernel, by decide +kernel⟩, List.mem_of_getElem? (i := 32) (by decide +kernel), List.mem_of_getElem? (i := 869) (by decide +kernel), List.mem_of_getElem? (i := 870) (by decide +kernel)⟩
theorem lw_p20 : lw_okq (⟨"OrphanTree$Tree", "inheritorOf", "(LOrphanTree$Proc;I)LOrphanTree$Proc;"⟩, 10) := ⟨⟨by decide +kernel, by decide +kernel⟩, List.mem_of_getElem? (i := 32) (by decide +kernel), List.mem_of_getElem? (i := 873) (by decide +kernel), List.mem_of_getElem? (i := 874) (by decide +kernel)⟩
theorem lw_p21 : lw_okq (⟨"OrphanTree$Tree", "nearest", "(LOrphanTree$Proc;LOrphanTree$Proc;)LOrphanTree$Proc;"⟩, 10) := ⟨⟨by decide +kernel, by decide +kernel⟩, List.mem_of_getElem? (i := 32) (by decide +kernel), List.mem_of_getElem? (i := 891) (by decide +kernel), List.mem_of_getElem? (i := 892) (by decide +kernel)⟩
theorem lw_p22 : lw_okq (⟨"OrphanTree$Tree", "roomiestFor", "(LOrphanTree$Proc;LOrphanTree$Proc;Z)LOrphanTree$Proc;"⟩, 10) := ⟨⟨by decide +kernel, by decide +kernel⟩, List.mem_of_getElem? (i := 32) (by decide +kernel), List.mem_of_getElem? (i := 901) (by decide +kernel), List.mem_of_getElem? (i := 902) (by decide +kernel)⟩
theorem lw_p23 : lw_okq (⟨"OrphanTree$Tree", "firstKin", "(LOrphanTree$Proc;LOrphanTree$Proc;)LOrphanTree$Proc;"⟩, 10) := ⟨⟨by decide +kernel, by decide +kernel⟩, List.mem_of_getElem? (i := 32) (by decide +kernel), List.mem_of_getElem? (i := 905) (by decide +kernel), List.mem_of_getElem? (i := 906) (by decide +kernel)⟩
theorem lw_p24 : lw_okq (⟨"OrphanTree$Tree", "oldest", "(LOrphanTree$Proc;LOrphanTree$Proc;)LOrphanTree$Proc;"⟩, 10) := ⟨⟨by decide +kernel, by decide +kernel⟩, List.mem_of_getElem? (i := 32) (by decide +kernel), List.mem_of_getElem? (i := 909) (by decide +kernel), List.mem_of_getElem? (i := 910) (by decide +kernel)⟩
theorem lw_p25 : lw_okq (⟨"OrphanTree$Tree", "adopt", "(LOrphanTree$Proc;LOrphanTree$Proc;)V"⟩, 10) := ⟨⟨by decide +kernel, by decide +kernel⟩, List.mem_of_getElem? (i := 32) (by decide +kernel), List.mem_of_getElem? (i := 913) (by decide +kernel), List.mem_of_getElem? (i := 914) (by decide +kernel)⟩
theorem lw_p26 : lw_okq (⟨"OrphanTree", "exitOfCopy", "(II)I"⟩, 7) := ⟨⟨by decide +kernel, by decide +kernel⟩, List.mem_of_getElem? (i := 24) (by decide +kernel), List.mem_of_getElem? (i := 1028) (by decide +kernel), List.mem_of_getElem? (i := 1029) (by decide +kernel)⟩
theorem lw_p27 : lw_okq (⟨"OrphanTree$Tree", "deepestBelow", "(LOrphanTree$Proc;)LOrphanTree$Proc;"⟩, 10) := ⟨⟨by decide +kernel, by decide +kernel⟩, List.mem_of_getElem? (i := 32) (by decide +kernel), List.mem_of_getElem? (i := 1104) (by decide +kernel), List.mem_of_getElem? (i := 1105) (by decide +kernel)⟩
theorem lw_p28 : lw_okq (⟨"OrphanTree$Output", "putComma", "()V"⟩, 2) := ⟨⟨by decide +kernel, by decide +kernel⟩, List.mem_of_getElem? (i := 266) (by decide +kernel), List.mem_of_getElem? (i := 1238) (by decide +kernel), List.mem_of_getElem? (i := 1239) (by decide +kernel)⟩
theorem lw_p29 : lw_okq (⟨"OrphanTreeModel", "clear", "()V"⟩, 24) := ⟨⟨by decide +kernel, by decide +kernel⟩, List.mem_of_getElem? (i := 1264) (by decide +kernel), List.mem_of_getElem? (i := 1270) (by decide +kernel), List.mem_of_getElem? (i := 1271) (by decide +kernel)⟩
theorem lw_p30 : lw_okq (⟨"OrphanTreeModel", "comes", "(IIII)I"⟩, 24) := ⟨⟨by decide +kernel, by decide +kernel⟩, List.mem_of_getElem? (i := 1264) (by decide +kernel), List.mem_of_getElem? (i := 1274) (by decide +kernel), List.mem_of_getElem? (i := 1275) (by decide +kernel)⟩
theorem lw_p31 : lw_okq (⟨"OrphanTreeModel", "appendWord", "(I)V"⟩, 24) := ⟨⟨by decide +kernel, by decide +kernel⟩, List.mem_of_getElem? (i := 1264) (by decide +kernel), List.mem_of_getElem? (i := 1360) (by decide +kernel), List.mem_of_getElem? (i := 1361) (by decide +kernel)⟩
def lw_privs_2 : List (MethodName × Nat) := [(⟨"OrphanTree", "named", "(I)LOrphanTree$Proc;"⟩, 7), (⟨"OrphanTree", "namedForExit", "(II)LOrphanTree$Proc;"⟩, 7), (⟨"OrphanTree$Tree", "replace", "(LOrphanTree$Proc;LOrphanTree$Proc;)LOrphanTree$Proc;"⟩, 10), (⟨"OrphanTree$Tree", "passDuties", "(LOrphanTree$Proc;LOrphanTree$Proc;)V"⟩, 10), (⟨"OrphanTree$Tree", "inheritorOf", "(LOrphanTree$Proc;I)LOrphanTree$Proc;"⟩, 10), (⟨"OrphanTree$Tree", "nearest", "(LOrphanTree$Proc;LOrphanTree$Proc;)LOrphanTree$Proc;"⟩, 10), (⟨"OrphanTree$Tree", "roomiestFor", "(LOrphanTree$Proc;LOrphanTree$Proc;Z)LOrphanTree$Proc;"⟩, 10), (⟨"OrphanTree$Tree", "firstKin", "(LOrphanTree$Proc;LOrphanTree$Proc;)LOrphanTree$Proc;"⟩, 10), (⟨"OrphanTree$Tree", "oldest", "(LOrphanTree$Proc;LOrphanTree$Proc;)LOrphanTree$Proc;"⟩, 10), (⟨"OrphanTree$Tree", "adopt", "(LOrphanTree$Proc;LOrphanTree$Proc;)V"⟩, 10), (⟨"OrphanTree", "exitOfCopy", "(II)I"⟩, 7), (⟨"OrphanTree$Tree", "deepestBelow", "(LOrphanTree$Proc;)LOrphanTree$Proc;"⟩, 10), (⟨"OrphanTree$Output", "putComma", "()V"⟩, 2), (⟨"OrphanTreeModel", "clear", "()V"⟩, 24), (⟨"OrphanTreeModel", "comes", "(IIII)I"⟩, 24), (⟨"OrphanTreeModel", "appendWord", "(I)V"⟩, 24)]
theorem lw_r2 : ∀ q ∈ lw_privs_2, lw_okq q := List.forall_mem_cons.mpr ⟨lw_p16, List.forall_mem_cons.mpr ⟨lw_p17, List.forall_mem_cons.mpr ⟨lw_p18, List.forall_mem_cons.mpr ⟨lw_p19, List.forall_mem_cons.mpr ⟨lw_p20, List.forall_mem_cons.mpr ⟨lw_p21, List.forall_mem_cons.mpr ⟨lw_p22, List.forall_mem_cons.mpr ⟨lw_p23, List.forall_mem_cons.mpr ⟨lw_p24, List.forall_mem_cons.mpr ⟨lw_p25, List.forall_mem_cons.mpr ⟨lw_p26, List.forall_mem_cons.mpr ⟨lw_p27, List.forall_mem_cons.mpr ⟨lw_p28, List.forall_mem_cons.mpr ⟨lw_p29, List.forall_mem_cons.mpr ⟨lw_p30, List.forall_mem_cons.mpr ⟨lw_p31, fun _ h => absurd h List.not_mem_nil⟩⟩⟩⟩⟩⟩⟩⟩⟩⟩⟩⟩⟩⟩⟩⟩
theorem lw_p32 : lw_okq (⟨"OrphanTreeModel", "advanceToken", "()V"⟩, 24) := ⟨⟨by decide +kernel, by decide +kernel⟩, List.mem_of_getElem? (i := 1264) (by decide +kernel), List.mem_of_getElem? (i := 1378) (by decide +kernel), List.mem_of_getElem? (i := 1379) (by decide +kernel)⟩
theorem lw_p33 : lw_okq (⟨"OrphanTreeModel", "byteAt", "(I)I"⟩, 24) := ⟨⟨by decide +kernel, by decide +kernel⟩, List.mem_of_getElem? (i := 1264) (by decide +kernel), List.mem_of_getElem? (i := 1382) (by decide +kernel), List.mem_of_getElem? (i := 1383) (by decide +kernel)⟩
theorem lw_p34 : lw_okq (⟨"OrphanTreeModel", "readText", "()Z"⟩, 24) := ⟨⟨by decide +kernel, by decide +kernel⟩, List.mem_of_getElem? (i := 1264) (by decide +kernel), List.mem_of_getElem? (i := 1386) (by decide +kernel), List.mem_of_getElem? (i := 1387) (by decide +kernel)⟩
theorem lw_p35 : lw_okq (⟨"OrphanTreeModel", "readStatement", "()Z"⟩, 24) := ⟨⟨by decide +kernel, by decide +kernel⟩, List.mem_of_getElem? (i := 1264) (by decide +kernel), List.mem_of_getElem? (i := 1390) (by decide +kernel), List.mem_of_getElem? (i := 1391) (by decide +kernel)⟩
theorem lw_p36 : lw_okq (⟨"OrphanTreeModel", "isWord", "(Ljava/lang/String;)Z"⟩, 24) := ⟨⟨by decide +kernel, by decide +kernel⟩, List.mem_of_getElem? (i := 1264) (by decide +kernel), List.mem_of_getElem? (i := 1395) (by decide +kernel), List.mem_of_getElem? (i := 1396) (by decide +kernel)⟩
theorem lw_p37 : lw_okq (⟨"OrphanTreeModel", "tokenLength", "()I"⟩, 24) := ⟨⟨by decide +kernel, by decide +kernel⟩, List.mem_of_getElem? (i := 1264) (by decide +kernel), List.mem_of_getElem? (i := 1399) (by decide +kernel), List.mem_of_getElem? (i := 1400) (by decide +kernel)⟩
theorem lw_p38 : lw_okq (⟨"OrphanTreeModel", "readOrder", "()Z"⟩, 24) := ⟨⟨by decide +kernel, by decide +kernel⟩, List.mem_of_getElem? (i := 1264) (by decide +kernel), List.mem_of_getElem? (i := 1405) (by decide +kernel), List.mem_of_getElem? (i := 1406) (by decide +kernel)⟩
theorem lw_p39 : lw_okq (⟨"OrphanTreeModel", "startsOnce", "(I)Z"⟩, 24) := ⟨⟨by decide +kernel, by decide +kernel⟩, List.mem_of_getElem? (i := 1264) (by decide +kernel), List.mem_of_getElem? (i := 1409) (by decide +kernel), List.mem_of_getElem? (i := 1410) (by decide +kernel)⟩
theorem lw_p40 : lw_okq (⟨"OrphanTreeModel", "failsAt", "(I)Z"⟩, 24) := ⟨⟨by decide +kernel, by decide +kernel⟩, List.mem_of_getElem? (i := 1264) (by decide +kernel), List.mem_of_getElem? (i := 1413) (by decide +kernel), List.mem_of_getElem? (i := 1414) (by decide +kernel)⟩
theorem lw_p41 : lw_okq (⟨"OrphanTreeModel", "ruleHere", "()I"⟩, 24) := ⟨⟨by decide +kernel, by decide +kernel⟩, List.mem_of_getElem? (i := 1264) (by decide +kernel), List.mem_of_getElem? (i := 1417) (by decide +kernel), List.mem_of_getElem? (i := 1418) (by decide +kernel)⟩
theorem lw_p42 : lw_okq (⟨"OrphanTreeModel", "readDeep", "()Z"⟩, 24) := ⟨⟨by decide +kernel, by decide +kernel⟩, List.mem_of_getElem? (i := 1264) (by decide +kernel), List.mem_of_getElem? (i := 1427) (by decide +kernel), List.mem_of_getElem? (i := 1428) (by decide +kernel)⟩
theorem lw_p43 : lw_okq (⟨"OrphanTreeModel", "takes", "(III)Z"⟩, 24) := ⟨⟨by decide +kernel, by decide +kernel⟩, List.mem_of_getElem? (i := 1264) (by decide +kernel), List.mem_of_getElem? (i := 1431) (by decide +kernel), List.mem_of_getElem? (i := 1432) (by decide +kernel)⟩
theorem lw_p44 : lw_okq (⟨"OrphanTreeModel", "isNumber", "(II)Z"⟩, 24) := ⟨⟨by decide +kernel, by decide +kernel⟩, List.mem_of_getElem? (i := 1264) (by decide +kernel), List.mem_of_getElem? (i := 1435) (by decide +kernel), List.mem_of_getElem? (i := 1436) (by decide +kernel)⟩
theorem lw_p45 : lw_okq (⟨"OrphanTreeModel", "readRoot", "()Z"⟩, 24) := ⟨⟨by decide +kernel, by decide +kernel⟩, List.mem_of_getElem? (i := 1264) (by decide +kernel), List.mem_of_getElem? (i := 1440) (by decide +kernel), List.mem_of_getElem? (i := 1441) (by decide +kernel)⟩
theorem lw_p46 : lw_okq (⟨"OrphanTreeModel", "readWill", "()Z"⟩, 24) := ⟨⟨by decide +kernel, by decide +kernel⟩, List.mem_of_getElem? (i := 1264) (by decide +kernel), List.mem_of_getElem? (i := 1445) (by decide +kernel), List.mem_of_getElem? (i := 1446) (by decide +kernel)⟩
theorem lw_p47 : lw_okq (⟨"OrphanTreeModel", "readProcess", "()Z"⟩, 24) := ⟨⟨by decide +kernel, by decide +kernel⟩, List.mem_of_getElem? (i := 1264) (by decide +kernel), List.mem_of_getElem? (i := 1450) (by decide +kernel), List.mem_of_getElem? (i := 1451) (by decide +kernel)⟩
def lw_privs_3 : List (MethodName × Nat) := [(⟨"OrphanTreeModel", "advanceToken", "()V"⟩, 24), (⟨"OrphanTreeModel", "byteAt", "(I)I"⟩, 24), (⟨"OrphanTreeModel", "readText", "()Z"⟩, 24), (⟨"OrphanTreeModel", "readStatement", "()Z"⟩, 24), (⟨"OrphanTreeModel", "isWord", "(Ljava/lang/String;)Z"⟩, 24), (⟨"OrphanTreeModel", "tokenLength", "()I"⟩, 24), (⟨"OrphanTreeModel", "readOrder", "()Z"⟩, 24), (⟨"OrphanTreeModel", "startsOnce", "(I)Z"⟩, 24), (⟨"OrphanTreeModel", "failsAt", "(I)Z"⟩, 24), (⟨"OrphanTreeModel", "ruleHere", "()I"⟩, 24), (⟨"OrphanTreeModel", "readDeep", "()Z"⟩, 24), (⟨"OrphanTreeModel", "takes", "(III)Z"⟩, 24), (⟨"OrphanTreeModel", "isNumber", "(II)Z"⟩, 24), (⟨"OrphanTreeModel", "readRoot", "()Z"⟩, 24), (⟨"OrphanTreeModel", "readWill", "()Z"⟩, 24), (⟨"OrphanTreeModel", "readProcess", "()Z"⟩, 24)]
theorem lw_r3 : ∀ q ∈ lw_privs_3, lw_okq q := List.forall_mem_cons.mpr ⟨lw_p32, List.forall_mem_cons.mpr ⟨lw_p33, List.forall_mem_cons.mpr ⟨lw_p34, List.forall_mem_cons.mpr ⟨lw_p35, List.forall_mem_cons.mpr ⟨lw_p36, List.forall_mem_cons.mpr ⟨lw_p37, List.forall_mem_cons.mpr ⟨lw_p38, List.forall_mem_cons.mpr ⟨lw_p39, List.forall_mem_cons.mpr ⟨lw_p40, List.forall_mem_cons.mpr ⟨lw_p41, List.forall_mem_cons.mpr ⟨lw_p42, List.forall_mem_cons.mpr ⟨lw_p43, List.forall_mem_cons.mpr ⟨lw_p44, List.forall_mem_cons.mpr ⟨lw_p45, List.forall_mem_cons.mpr ⟨lw_p46, List.forall_mem_cons.mpr ⟨lw_p47, fun _ h => absurd h List.not_mem_nil⟩⟩⟩⟩⟩⟩⟩⟩⟩⟩⟩⟩⟩⟩⟩⟩
theorem lw_p48 : lw_okq (⟨"OrphanTreeModel", "roomOf", "(I)I"⟩, 24) := ⟨⟨by decide +kernel, by decide +kernel⟩, List.mem_of_getElem? (i := 1264) (by decide +kernel), List.mem_of_getElem? (i := 1454) (by decide +kernel), List.mem_of_getElem? (i := 1455) (by decide +kernel)⟩
theorem lw_p49 : lw_okq (⟨"OrphanTreeModel", "runs", "(I)Z"⟩, 24) := ⟨⟨by decide +kernel, by decide +kernel⟩, List.mem_of_getElem? (i := 1264) (by decide +kernel), List.mem_of_getElem? (i := 1458) (by decide +kernel), List.mem_of_getElem? (i := 1459) (by decide +kernel)⟩
theorem lw_p50 : lw_okq (⟨"OrphanTreeModel", "childrenOf", "(II)I"⟩, 24) := ⟨⟨by decide +kernel, by decide +kernel⟩, List.mem_of_getElem? (i := 1264) (by decide +kernel), List.mem_of_getElem? (i := 1462) (by decide +kernel), List.mem_of_getElem? (i := 1463) (by decide +kernel)⟩
theorem lw_p51 : lw_okq (⟨"OrphanTreeModel", "isChild", "(III)Z"⟩, 24) := ⟨⟨by decide +kernel, by decide +kernel⟩, List.mem_of_getElem? (i := 1264) (by decide +kernel), List.mem_of_getElem? (i := 1466) (by decide +kernel), List.mem_of_getElem? (i := 1467) (by decide +kernel)⟩
theorem lw_p52 : lw_okq (⟨"OrphanTreeModel", "readHeir", "()Z"⟩, 24) := ⟨⟨by decide +kernel, by decide +kernel⟩, List.mem_of_getElem? (i := 1264) (by decide +kernel), List.mem_of_getElem? (i := 1474) (by decide +kernel), List.mem_of_getElem? (i := 1475) (by decide +kernel)⟩
theorem lw_p53 : lw_okq (⟨"OrphanTreeModel", "readDuty", "()Z"⟩, 24) := ⟨⟨by decide +kernel, by decide +kernel⟩, List.mem_of_getElem? (i := 1264) (by decide +kernel), List.mem_of_getElem? (i := 1479) (by decide +kernel), List.mem_of_getElem? (i := 1480) (by decide +kernel)⟩
theorem lw_p54 : lw_okq (⟨"OrphanTreeModel", "readRefusal", "()Z"⟩, 24) := ⟨⟨by decide +kernel, by decide +kernel⟩, List.mem_of_getElem? (i := 1264) (by decide +kernel), List.mem_of_getElem? (i := 1484) (by decide +kernel), List.mem_of_getElem? (i := 1485) (by decide +kernel)⟩
theorem lw_p55 : lw_okq (⟨"OrphanTreeModel", "refusesGroup", "(II)Z"⟩, 24) := ⟨⟨by decide +kernel, by decide +kernel⟩, List.mem_of_getElem? (i := 1264) (by decide +kernel), List.mem_of_getElem? (i := 1488) (by decide +kernel), List.mem_of_getElem? (i := 1489) (by decide +kernel)⟩
theorem lw_p56 : lw_okq (⟨"OrphanTreeModel", "fails", "(ZI)Z"⟩, 24) := ⟨⟨by decide +kernel, by decide +kernel⟩, List.mem_of_getElem? (i := 1264) (by decide +kernel), List.mem_of_getElem? (i := 1504) (by decide +kernel), List.mem_of_getElem? (i := 1505) (by decide +kernel)⟩
theorem lw_p57 : lw_okq (⟨"OrphanTreeModel", "inState", "(I)I"⟩, 24) := ⟨⟨by decide +kernel, by decide +kernel⟩, List.mem_of_getElem? (i := 1264) (by decide +kernel), List.mem_of_getElem? (i := 1508) (by decide +kernel), List.mem_of_getElem? (i := 1509) (by decide +kernel)⟩
theorem lw_p58 : lw_okq (⟨"OrphanTreeModel", "dutiesOf", "(I)I"⟩, 24) := ⟨⟨by decide +kernel, by decide +kernel⟩, List.mem_of_getElem? (i := 1264) (by decide +kernel), List.mem_of_getElem? (i := 1512) (by decide +kernel), List.mem_of_getElem? (i := 1513) (by decide +kernel)⟩
theorem lw_p59 : lw_okq (⟨"OrphanTreeModel", "noProcess", "(I)Z"⟩, 24) := ⟨⟨by decide +kernel, by decide +kernel⟩, List.mem_of_getElem? (i := 1264) (by decide +kernel), List.mem_of_getElem? (i := 1521) (by decide +kernel), List.mem_of_getElem? (i := 1522) (by decide +kernel)⟩
theorem lw_p60 : lw_okq (⟨"OrphanTreeModel", "willsOf", "(I)I"⟩, 24) := ⟨⟨by decide +kernel, by decide +kernel⟩, List.mem_of_getElem? (i := 1264) (by decide +kernel), List.mem_of_getElem? (i := 1525) (by decide +kernel), List.mem_of_getElem? (i := 1526) (by decide +kernel)⟩
theorem lw_p61 : lw_okq (⟨"OrphanTreeModel", "noDuty", "(II)Z"⟩, 24) := ⟨⟨by decide +kernel, by decide +kernel⟩, List.mem_of_getElem? (i := 1264) (by decide +kernel), List.mem_of_getElem? (i := 1533) (by decide +kernel), List.mem_of_getElem? (i := 1534) (by decide +kernel)⟩
theorem lw_p62 : lw_okq (⟨"OrphanTreeModel", "isGone", "(I)Z"⟩, 24) := ⟨⟨by decide +kernel, by decide +kernel⟩, List.mem_of_getElem? (i := 1264) (by decide +kernel), List.mem_of_getElem? (i := 1545) (by decide +kernel), List.mem_of_getElem? (i := 1546) (by decide +kernel)⟩
theorem lw_p63 : lw_okq (⟨"OrphanTreeModel", "deep", "(I)I"⟩, 24) := ⟨⟨by decide +kernel, by decide +kernel⟩, List.mem_of_getElem? (i := 1264) (by decide +kernel), List.mem_of_getElem? (i := 1549) (by decide +kernel), List.mem_of_getElem? (i := 1550) (by decide +kernel)⟩
def lw_privs_4 : List (MethodName × Nat) := [(⟨"OrphanTreeModel", "roomOf", "(I)I"⟩, 24), (⟨"OrphanTreeModel", "runs", "(I)Z"⟩, 24), (⟨"OrphanTreeModel", "childrenOf", "(II)I"⟩, 24), (⟨"OrphanTreeModel", "isChild", "(III)Z"⟩, 24), (⟨"OrphanTreeModel", "readHeir", "()Z"⟩, 24), (⟨"OrphanTreeModel", "readDuty", "()Z"⟩, 24), (⟨"OrphanTreeModel", "readRefusal", "()Z"⟩, 24), (⟨"OrphanTreeModel", "refusesGroup", "(II)Z"⟩, 24), (⟨"OrphanTreeModel", "fails", "(ZI)Z"⟩, 24), (⟨"OrphanTreeModel", "inState", "(I)I"⟩, 24), (⟨"OrphanTreeModel", "dutiesOf", "(I)I"⟩, 24), (⟨"OrphanTreeModel", "noProcess", "(I)Z"⟩, 24), (⟨"OrphanTreeModel", "willsOf", "(I)I"⟩, 24), (⟨"OrphanTreeModel", "noDuty", "(II)Z"⟩, 24), (⟨"OrphanTreeModel", "isGone", "(I)Z"⟩, 24), (⟨"OrphanTreeModel", "deep", "(I)I"⟩, 24)]
theorem lw_r4 : ∀ q ∈ lw_privs_4, lw_okq q := List.forall_mem_cons.mpr ⟨lw_p48, List.forall_mem_cons.mpr ⟨lw_p49, List.forall_mem_cons.mpr ⟨lw_p50, List.forall_mem_cons.mpr ⟨lw_p51, List.forall_mem_cons.mpr ⟨lw_p52, List.forall_mem_cons.mpr ⟨lw_p53, List.forall_mem_cons.mpr ⟨lw_p54, List.forall_mem_cons.mpr ⟨lw_p55, List.forall_mem_cons.mpr ⟨lw_p56, List.forall_mem_cons.mpr ⟨lw_p57, List.forall_mem_cons.mpr ⟨lw_p58, List.forall_mem_cons.mpr ⟨lw_p59, List.forall_mem_cons.mpr ⟨lw_p60, List.forall_mem_cons.mpr ⟨lw_p61, List.forall_mem_cons.mpr ⟨lw_p62, List.forall_mem_cons.mpr ⟨lw_p63, fun _ h => absurd h List.not_mem_nil⟩⟩⟩⟩⟩⟩⟩⟩⟩⟩⟩⟩⟩⟩⟩⟩
theorem lw_p64 : lw_okq (⟨"OrphanTreeModel", "isOver", "(II)Z"⟩, 24) := ⟨⟨by decide +kernel, by decide +kernel⟩, List.mem_of_getElem? (i := 1264) (by decide +kernel), List.mem_of_getElem? (i := 1557) (by decide +kernel), List.mem_of_getElem? (i := 1558) (by decide +kernel)⟩
theorem lw_p65 : lw_okq (⟨"OrphanTreeModel", "anyGone", "(II)Z"⟩, 24) := ⟨⟨by decide +kernel, by decide +kernel⟩, List.mem_of_getElem? (i := 1264) (by decide +kernel), List.mem_of_getElem? (i := 1565) (by decide +kernel), List.mem_of_getElem? (i := 1566) (by decide +kernel)⟩
theorem lw_p66 : lw_okq (⟨"OrphanTreeModel", "meets", "(II)I"⟩, 24) := ⟨⟨by decide +kernel, by decide +kernel⟩, List.mem_of_getElem? (i := 1264) (by decide +kernel), List.mem_of_getElem? (i := 1569) (by decide +kernel), List.mem_of_getElem? (i := 1570) (by decide +kernel)⟩
theorem lw_p67 : lw_okq (⟨"OrphanTreeModel", "belowOf", "(I)I"⟩, 24) := ⟨⟨by decide +kernel, by decide +kernel⟩, List.mem_of_getElem? (i := 1264) (by decide +kernel), List.mem_of_getElem? (i := 1581) (by decide +kernel), List.mem_of_getElem? (i := 1582) (by decide +kernel)⟩
theorem lw_p68 : lw_okq (⟨"OrphanTreeModel", "runningMany", "()I"⟩, 24) := ⟨⟨by decide +kernel, by decide +kernel⟩, List.mem_of_getElem? (i := 1264) (by decide +kernel), List.mem_of_getElem? (i := 1589) (by decide +kernel), List.mem_of_getElem? (i := 1590) (by decide +kernel)⟩
theorem lw_p69 : lw_okq (⟨"OrphanTreeModel", "walkOn", "(I)I"⟩, 24) := ⟨⟨by decide +kernel, by decide +kernel⟩, List.mem_of_getElem? (i := 1264) (by decide +kernel), List.mem_of_getElem? (i := 1593) (by decide +kernel), List.mem_of_getElem? (i := 1594) (by decide +kernel)⟩
theorem lw_p70 : lw_okq (⟨"OrphanTreeModel", "nextChild", "(II)I"⟩, 24) := ⟨⟨by decide +kernel, by decide +kernel⟩, List.mem_of_getElem? (i := 1264) (by decide +kernel), List.mem_of_getElem? (i := 1597) (by decide +kernel), List.mem_of_getElem? (i := 1598) (by decide +kernel)⟩
theorem lw_p71 : lw_okq (⟨"OrphanTreeModel", "highest", "()I"⟩, 24) := ⟨⟨by decide +kernel, by decide +kernel⟩, List.mem_of_getElem? (i := 1264) (by decide +kernel), List.mem_of_getElem? (i := 1609) (by decide +kernel), List.mem_of_getElem? (i := 1610) (by decide +kernel)⟩
theorem lw_p72 : lw_okq (⟨"OrphanTreeModel", "remembers", "()V"⟩, 24) := ⟨⟨by decide +kernel, by decide +kernel⟩, List.mem_of_getElem? (i := 1264) (by decide +kernel), List.mem_of_getElem? (i := 1620) (by decide +kernel), List.mem_of_getElem? (i := 1621) (by decide +kernel)⟩
theorem lw_p73 : lw_okq (⟨"OrphanTreeModel", "noExit", "(II)Z"⟩, 24) := ⟨⟨by decide +kernel, by decide +kernel⟩, List.mem_of_getElem? (i := 1264) (by decide +kernel), List.mem_of_getElem? (i := 1628) (by decide +kernel), List.mem_of_getElem? (i := 1629) (by decide +kernel)⟩
theorem lw_p74 : lw_okq (⟨"OrphanTreeModel", "exits", "(II)I"⟩, 24) := ⟨⟨by decide +kernel, by decide +kernel⟩, List.mem_of_getElem? (i := 1264) (by decide +kernel), List.mem_of_getElem? (i := 1632) (by decide +kernel), List.mem_of_getElem? (i := 1633) (by decide +kernel)⟩
theorem lw_p75 : lw_okq (⟨"OrphanTreeModel", "replaces", "(II)I"⟩, 24) := ⟨⟨by decide +kernel, by decide +kernel⟩, List.mem_of_getElem? (i := 1264) (by decide +kernel), List.mem_of_getElem? (i := 1636) (by decide +kernel), List.mem_of_getElem? (i := 1637) (by decide +kernel)⟩
theorem lw_p76 : lw_okq (⟨"OrphanTreeModel", "heirOf", "(II)I"⟩, 24) := ⟨⟨by decide +kernel, by decide +kernel⟩, List.mem_of_getElem? (i := 1264) (by decide +kernel), List.mem_of_getElem? (i := 1640) (by decide +kernel), List.mem_of_getElem? (i := 1641) (by decide +kernel)⟩
theorem lw_p77 : lw_okq (⟨"OrphanTreeModel", "inheritor", "(I)I"⟩, 24) := ⟨⟨by decide +kernel, by decide +kernel⟩, List.mem_of_getElem? (i := 1264) (by decide +kernel), List.mem_of_getElem? (i := 1644) (by decide +kernel), List.mem_of_getElem? (i := 1645) (by decide +kernel)⟩
theorem lw_p78 : lw_okq (⟨"OrphanTreeModel", "adopterOf", "(II)I"⟩, 24) := ⟨⟨by decide +kernel, by decide +kernel⟩, List.mem_of_getElem? (i := 1264) (by decide +kernel), List.mem_of_getElem? (i := 1648) (by decide +kernel), List.mem_of_getElem? (i := 1649) (by decide +kernel)⟩
theorem lw_p79 : lw_okq (⟨"OrphanTreeModel", "findsBy", "(III)I"⟩, 24) := ⟨⟨by decide +kernel, by decide +kernel⟩, List.mem_of_getElem? (i := 1264) (by decide +kernel), List.mem_of_getElem? (i := 1652) (by decide +kernel), List.mem_of_getElem? (i := 1653) (by decide +kernel)⟩
def lw_privs_5 : List (MethodName × Nat) := [(⟨"OrphanTreeModel", "isOver", "(II)Z"⟩, 24), (⟨"OrphanTreeModel", "anyGone", "(II)Z"⟩, 24), (⟨"OrphanTreeModel", "meets", "(II)I"⟩, 24), (⟨"OrphanTreeModel", "belowOf", "(I)I"⟩, 24), (⟨"OrphanTreeModel", "runningMany", "()I"⟩, 24), (⟨"OrphanTreeModel", "walkOn", "(I)I"⟩, 24), (⟨"OrphanTreeModel", "nextChild", "(II)I"⟩, 24), (⟨"OrphanTreeModel", "highest", "()I"⟩, 24), (⟨"OrphanTreeModel", "remembers", "()V"⟩, 24), (⟨"OrphanTreeModel", "noExit", "(II)Z"⟩, 24), (⟨"OrphanTreeModel", "exits", "(II)I"⟩, 24), (⟨"OrphanTreeModel", "replaces", "(II)I"⟩, 24), (⟨"OrphanTreeModel", "heirOf", "(II)I"⟩, 24), (⟨"OrphanTreeModel", "inheritor", "(I)I"⟩, 24), (⟨"OrphanTreeModel", "adopterOf", "(II)I"⟩, 24), (⟨"OrphanTreeModel", "findsBy", "(III)I"⟩, 24)]
theorem lw_r5 : ∀ q ∈ lw_privs_5, lw_okq q := List.forall_mem_cons.mpr ⟨lw_p64, List.forall_mem_cons.mpr ⟨lw_p65, List.forall_mem_cons.mpr ⟨lw_p66, List.forall_mem_cons.mpr ⟨lw_p67, List.forall_mem_cons.mpr ⟨lw_p68, List.forall_mem_cons.mpr ⟨lw_p69, List.forall_mem_cons.mpr ⟨lw_p70, List.forall_mem_cons.mpr ⟨lw_p71, List.forall_mem_cons.mpr ⟨lw_p72, List.forall_mem_cons.mpr ⟨lw_p73, List.forall_mem_cons.mpr ⟨lw_p74, List.forall_mem_cons.mpr ⟨lw_p75, List.forall_mem_cons.mpr ⟨lw_p76, List.forall_mem_cons.mpr ⟨lw_p77, List.forall_mem_cons.mpr ⟨lw_p78, List.forall_mem_cons.mpr ⟨lw_p79, fun _ h => absurd h List.not_mem_nil⟩⟩⟩⟩⟩⟩⟩⟩⟩⟩⟩⟩⟩⟩⟩⟩
theorem lw_p80 : lw_okq (⟨"OrphanTreeModel", "nearest", "(II)I"⟩, 24) := ⟨⟨by decide +kernel, by decide +kernel⟩, List.mem_of_getElem? (i := 1264) (by decide +kernel), List.mem_of_getElem? (i := 1656) (by decide +kernel), List.mem_of_getElem? (i := 1657) (by decide +kernel)⟩
theorem lw_p81 : lw_okq (⟨"OrphanTreeModel", "canAdopt", "(II)Z"⟩, 24) := ⟨⟨by decide +kernel, by decide +kernel⟩, List.mem_of_getElem? (i := 1264) (by decide +kernel), List.mem_of_getElem? (i := 1660) (by decide +kernel), List.mem_of_getElem? (i := 1661) (by decide +kernel)⟩
theorem lw_p82 : lw_okq (⟨"OrphanTreeModel", "roomiestFor", "(IIZ)I"⟩, 24) := ⟨⟨by decide +kernel, by decide +kernel⟩, List.mem_of_getElem? (i := 1264) (by decide +kernel), List.mem_of_getElem? (i := 1664) (by decide +kernel), List.mem_of_getElem? (i := 1665) (by decide +kernel)⟩
theorem lw_p83 : lw_okq (⟨"OrphanTreeModel", "kinOf", "(II)I"⟩, 24) := ⟨⟨by decide +kernel, by decide +kernel⟩, List.mem_of_getElem? (i := 1264) (by decide +kernel), List.mem_of_getElem? (i := 1668) (by decide +kernel), List.mem_of_getElem? (i := 1669) (by decide +kernel)⟩
theorem lw_p84 : lw_okq (⟨"OrphanTreeModel", "oldest", "(II)I"⟩, 24) := ⟨⟨by decide +kernel, by decide +kernel⟩, List.mem_of_getElem? (i := 1264) (by decide +kernel), List.mem_of_getElem? (i := 1672) (by decide +kernel), List.mem_of_getElem? (i := 1673) (by decide +kernel)⟩
theorem lw_p85 : lw_okq (⟨"OrphanTreeModel", "adopts", "(II)V"⟩, 24) := ⟨⟨by decide +kernel, by decide +kernel⟩, List.mem_of_getElem? (i := 1264) (by decide +kernel), List.mem_of_getElem? (i := 1676) (by decide +kernel), List.mem_of_getElem? (i := 1677) (by decide +kernel)⟩
theorem lw_p86 : lw_okq (⟨"OrphanTreeModel", "readsAll", "(I)I"⟩, 24) := ⟨⟨by decide +kernel, by decide +kernel⟩, List.mem_of_getElem? (i := 1264) (by decide +kernel), List.mem_of_getElem? (i := 1680) (by decide +kernel), List.mem_of_getElem? (i := 1681) (by decide +kernel)⟩
theorem lw_p87 : lw_okq (⟨"OrphanTreeModel", "firstZombie", "(I)I"⟩, 24) := ⟨⟨by decide +kernel, by decide +kernel⟩, List.mem_of_getElem? (i := 1264) (by decide +kernel), List.mem_of_getElem? (i := 1684) (by decide +kernel), List.mem_of_getElem? (i := 1685) (by decide +kernel)⟩
theorem lw_p88 : lw_okq (⟨"OrphanTreeModel", "noKill", "(II)Z"⟩, 24) := ⟨⟨by decide +kernel, by decide +kernel⟩, List.mem_of_getElem? (i := 1264) (by decide +kernel), List.mem_of_getElem? (i := 1692) (by decide +kernel), List.mem_of_getElem? (i := 1693) (by decide +kernel)⟩
theorem lw_p89 : lw_okq (⟨"OrphanTreeModel", "kills", "(II)I"⟩, 24) := ⟨⟨by decide +kernel, by decide +kernel⟩, List.mem_of_getElem? (i := 1264) (by decide +kernel), List.mem_of_getElem? (i := 1696) (by decide +kernel), List.mem_of_getElem? (i := 1697) (by decide +kernel)⟩
theorem lw_p90 : lw_okq (⟨"OrphanTreeModel", "notRunning", "(II)Z"⟩, 24) := ⟨⟨by decide +kernel, by decide +kernel⟩, List.mem_of_getElem? (i := 1264) (by decide +kernel), List.mem_of_getElem? (i := 1704) (by decide +kernel), List.mem_of_getElem? (i := 1705) (by decide +kernel)⟩
theorem lw_p91 : lw_okq (⟨"OrphanTreeModel", "sets", "(III)I"⟩, 24) := ⟨⟨by decide +kernel, by decide +kernel⟩, List.mem_of_getElem? (i := 1264) (by decide +kernel), List.mem_of_getElem? (i := 1728) (by decide +kernel), List.mem_of_getElem? (i := 1729) (by decide +kernel)⟩
theorem lw_p92 : lw_okq (⟨"OrphanTreeModel", "lowestBelow", "(I)I"⟩, 24) := ⟨⟨by decide +kernel, by decide +kernel⟩, List.mem_of_getElem? (i := 1264) (by decide +kernel), List.mem_of_getElem? (i := 1748) (by decide +kernel), List.mem_of_getElem? (i := 1749) (by decide +kernel)⟩
theorem lw_p93 : lw_okq (⟨"OrphanTreeModel", "notExiting", "(II)Z"⟩, 24) := ⟨⟨by decide +kernel, by decide +kernel⟩, List.mem_of_getElem? (i := 1264) (by decide +kernel), List.mem_of_getElem? (i := 1760) (by decide +kernel), List.mem_of_getElem? (i := 1761) (by decide +kernel)⟩
theorem lw_p94 : lw_okq (⟨"OrphanTreeModel", "fallsBy", "(II)I"⟩, 24) := ⟨⟨by decide +kernel, by decide +kernel⟩, List.mem_of_getElem? (i := 1264) (by decide +kernel), List.mem_of_getElem? (i := 1780) (by decide +kernel), List.mem_of_getElem? (i := 1781) (by decide +kernel)⟩
theorem lw_p95 : lw_okq (⟨"OrphanTreeModel", "begins", "()V"⟩, 24) := ⟨⟨by decide +kernel, by decide +kernel⟩, List.mem_of_getElem? (i := 1264) (by decide +kernel), List.mem_of_getElem? (i := 1784) (by decide +kernel), List.mem_of_getElem? (i := 1785) (by decide +kernel)⟩
def lw_privs_6 : List (MethodName × Nat) := [(⟨"OrphanTreeModel", "nearest", "(II)I"⟩, 24), (⟨"OrphanTreeModel", "canAdopt", "(II)Z"⟩, 24), (⟨"OrphanTreeModel", "roomiestFor", "(IIZ)I"⟩, 24), (⟨"OrphanTreeModel", "kinOf", "(II)I"⟩, 24), (⟨"OrphanTreeModel", "oldest", "(II)I"⟩, 24), (⟨"OrphanTreeModel", "adopts", "(II)V"⟩, 24), (⟨"OrphanTreeModel", "readsAll", "(I)I"⟩, 24), (⟨"OrphanTreeModel", "firstZombie", "(I)I"⟩, 24), (⟨"OrphanTreeModel", "noKill", "(II)Z"⟩, 24), (⟨"OrphanTreeModel", "kills", "(II)I"⟩, 24), (⟨"OrphanTreeModel", "notRunning", "(II)Z"⟩, 24), (⟨"OrphanTreeModel", "sets", "(III)I"⟩, 24), (⟨"OrphanTreeModel", "lowestBelow", "(I)I"⟩, 24), (⟨"OrphanTreeModel", "notExiting", "(II)Z"⟩, 24), (⟨"OrphanTreeModel", "fallsBy", "(II)I"⟩, 24), (⟨"OrphanTreeModel", "begins", "()V"⟩, 24)]
theorem lw_r6 : ∀ q ∈ lw_privs_6, lw_okq q := List.forall_mem_cons.mpr ⟨lw_p80, List.forall_mem_cons.mpr ⟨lw_p81, List.forall_mem_cons.mpr ⟨lw_p82, List.forall_mem_cons.mpr ⟨lw_p83, List.forall_mem_cons.mpr ⟨lw_p84, List.forall_mem_cons.mpr ⟨lw_p85, List.forall_mem_cons.mpr ⟨lw_p86, List.forall_mem_cons.mpr ⟨lw_p87, List.forall_mem_cons.mpr ⟨lw_p88, List.forall_mem_cons.mpr ⟨lw_p89, List.forall_mem_cons.mpr ⟨lw_p90, List.forall_mem_cons.mpr ⟨lw_p91, List.forall_mem_cons.mpr ⟨lw_p92, List.forall_mem_cons.mpr ⟨lw_p93, List.forall_mem_cons.mpr ⟨lw_p94, List.forall_mem_cons.mpr ⟨lw_p95, fun _ h => absurd h List.not_mem_nil⟩⟩⟩⟩⟩⟩⟩⟩⟩⟩⟩⟩⟩⟩⟩⟩
theorem lw_p96 : lw_okq (⟨"OrphanTreeModel", "ends", "()V"⟩, 24) := ⟨⟨by decide +kernel, by decide +kernel⟩, List.mem_of_getElem? (i := 1264) (by decide +kernel), List.mem_of_getElem? (i := 1788) (by decide +kernel), List.mem_of_getElem? (i := 1789) (by decide +kernel)⟩
theorem lw_p97 : lw_okq (⟨"OrphanTreeModel", "writePath", "(I)V"⟩, 24) := ⟨⟨by decide +kernel, by decide +kernel⟩, List.mem_of_getElem? (i := 1264) (by decide +kernel), List.mem_of_getElem? (i := 1888) (by decide +kernel), List.mem_of_getElem? (i := 1889) (by decide +kernel)⟩
theorem lw_p98 : lw_okq (⟨"OrphanTreeModel", "writeBetween", "(I)V"⟩, 24) := ⟨⟨by decide +kernel, by decide +kernel⟩, List.mem_of_getElem? (i := 1264) (by decide +kernel), List.mem_of_getElem? (i := 1892) (by decide +kernel), List.mem_of_getElem? (i := 1893) (by decide +kernel)⟩
theorem lw_p99 : lw_okq (⟨"OrphanTreeModel", "write", "(I)V"⟩, 24) := ⟨⟨by decide +kernel, by decide +kernel⟩, List.mem_of_getElem? (i := 1264) (by decide +kernel), List.mem_of_getElem? (i := 1896) (by decide +kernel), List.mem_of_getElem? (i := 1897) (by decide +kernel)⟩
theorem lw_p100 : lw_okq (⟨"OrphanTreeModel", "onPath", "(II)I"⟩, 24) := ⟨⟨by decide +kernel, by decide +kernel⟩, List.mem_of_getElem? (i := 1264) (by decide +kernel), List.mem_of_getElem? (i := 1900) (by decide +kernel), List.mem_of_getElem? (i := 1901) (by decide +kernel)⟩
theorem lw_p101 : lw_okq (⟨"OrphanTreeModel", "writeNumber", "(I)V"⟩, 24) := ⟨⟨by decide +kernel, by decide +kernel⟩, List.mem_of_getElem? (i := 1264) (by decide +kernel), List.mem_of_getElem? (i := 1904) (by decide +kernel), List.mem_of_getElem? (i := 1905) (by decide +kernel)⟩
theorem lw_p102 : lw_okq (⟨"OrphanTreeModel", "writeChildren", "(I)V"⟩, 24) := ⟨⟨by decide +kernel, by decide +kernel⟩, List.mem_of_getElem? (i := 1264) (by decide +kernel), List.mem_of_getElem? (i := 1908) (by decide +kernel), List.mem_of_getElem? (i := 1909) (by decide +kernel)⟩
theorem lw_p103 : lw_okq (⟨"OrphanTreeModel", "writeTree", "(I)V"⟩, 24) := ⟨⟨by decide +kernel, by decide +kernel⟩, List.mem_of_getElem? (i := 1264) (by decide +kernel), List.mem_of_getElem? (i := 1912) (by decide +kernel), List.mem_of_getElem? (i := 1913) (by decide +kernel)⟩
theorem lw_p104 : lw_okq (⟨"OrphanTreeModel", "writeZombies", "(I)V"⟩, 24) := ⟨⟨by decide +kernel, by decide +kernel⟩, List.mem_of_getElem? (i := 1264) (by decide +kernel), List.mem_of_getElem? (i := 1916) (by decide +kernel), List.mem_of_getElem? (i := 1917) (by decide +kernel)⟩
def lw_privs_7 : List (MethodName × Nat) := [(⟨"OrphanTreeModel", "ends", "()V"⟩, 24), (⟨"OrphanTreeModel", "writePath", "(I)V"⟩, 24), (⟨"OrphanTreeModel", "writeBetween", "(I)V"⟩, 24), (⟨"OrphanTreeModel", "write", "(I)V"⟩, 24), (⟨"OrphanTreeModel", "onPath", "(II)I"⟩, 24), (⟨"OrphanTreeModel", "writeNumber", "(I)V"⟩, 24), (⟨"OrphanTreeModel", "writeChildren", "(I)V"⟩, 24), (⟨"OrphanTreeModel", "writeTree", "(I)V"⟩, 24), (⟨"OrphanTreeModel", "writeZombies", "(I)V"⟩, 24)]
theorem lw_r7 : ∀ q ∈ lw_privs_7, lw_okq q := List.forall_mem_cons.mpr ⟨lw_p96, List.forall_mem_cons.mpr ⟨lw_p97, List.forall_mem_cons.mpr ⟨lw_p98, List.forall_mem_cons.mpr ⟨lw_p99, List.forall_mem_cons.mpr ⟨lw_p100, List.forall_mem_cons.mpr ⟨lw_p101, List.forall_mem_cons.mpr ⟨lw_p102, List.forall_mem_cons.mpr ⟨lw_p103, List.forall_mem_cons.mpr ⟨lw_p104, fun _ h => absurd h List.not_mem_nil⟩⟩⟩⟩⟩⟩⟩⟩⟩
def lw_privs : List (MethodName × Nat) := lw_privs_1 ++ (lw_privs_2 ++ (lw_privs_3 ++ (lw_privs_4 ++ (lw_privs_5 ++ (lw_privs_6 ++ (lw_privs_7))))))
def lw_tbl : List Cond := k2_sels lw_privs ++ tables_1
theorem lw_privs_ok : ∀ q ∈ lw_privs, lw_okq q := by
  show ∀ q ∈ lw_privs_1 ++ (lw_privs_2 ++ (lw_privs_3 ++ (lw_privs_4 ++ (lw_privs_5 ++ (lw_privs_6 ++ (lw_privs_7)))))), lw_okq q
  exact List.forall_mem_append.mpr ⟨lw_r1, List.forall_mem_append.mpr ⟨lw_r2, List.forall_mem_append.mpr ⟨lw_r3, List.forall_mem_append.mpr ⟨lw_r4, List.forall_mem_append.mpr ⟨lw_r5, List.forall_mem_append.mpr ⟨lw_r6, lw_r7⟩⟩⟩⟩⟩⟩
/-- the streams that the claim lets the run draw from -/
abbrev lw_cs : List Choice := [Jvm.Choice.named "NaN.bits"]
theorem lw_bits : nanBits ∈ lw_cs := by first | decide | exact List.mem_cons_self | simp [lw_cs, nanBits]
-- ===== end of PART A; then your names; then what follows =====
/-! ===== BEGIN words of one list among another's, by their places ===== -/
theorem goodIn_r {big : List Cond} (ws : List Cond) (ps : List Nat) (hp : ws = ps.filterMap (fun i => big[i]?)) (h : ws.all goodWord = true) : GoodIn big ws := by
  intro w hw
  have h1 := List.all_eq_true.mp h w hw
  rw [hp] at hw
  obtain ⟨i, -, hi⟩ := List.mem_filterMap.mp hw
  have hm : w ∈ big := by first | exact List.mem_of_getElem? hi | exact List.getElem?_mem hi
  exact ⟨hm, good_of_word h1⟩
theorem goodIn_app {big a b : List Cond} (ha : GoodIn big a) (hb : GoodIn big b) : GoodIn big (a ++ b) := fun w h => (List.mem_append.mp h).elim (ha w) (hb w)
theorem goodIn_ca {big a b : List Cond} {c : Cond} (ha : GoodIn big (c :: a)) (hb : GoodIn big b) : GoodIn big (c :: (a ++ b)) := fun w h => (List.mem_cons.mp h).elim (fun e => ha w (List.mem_cons.mpr (Or.inl e))) (fun h => (List.mem_append.mp h).elim (fun h => ha w (List.mem_cons.mpr (Or.inr h))) (hb w))
theorem goodIn_sub {big ws : List Cond} (hm : ∀ w ∈ ws, w ∈ big) (h : ws.all goodWord = true) : GoodIn big ws := fun w hw => ⟨hm w hw, good_of_word (List.all_eq_true.mp h w hw)⟩
/-! ===== END ===== -/

/-! ===== BEGIN exceptions that leave a method, and their catching by the caller (launches without stack traces) ===== -/
section VXA
/-! The laws vx_back, vx_callV, vx_callS, vx_callSW, vx_throw0, vx_throwS follow proofs of the library, with one case more: JvmDerived/Free/Laws.lean (Back.of_free), Shelf42/LK1.lean (callV, callS), Shelf/KitTraced.lean (throwNew0V, throwNewS). -/
/-- where a method has thrown q: the class by its name, the cell, what was written, the world -/
def vx_T (XC : String → State → State → Prop) (st : State) (q : Addr) (t : State) (mc ms : Nat) (free : Addr → Prop) : Prop :=
  ∃ (E : String) (ce : Cell) (L : List Loc), XC E st t ∧ t.heap[q]? = some ce ∧ ce.vm = .none ∧ st.vm.findClass E = some ce.cls ∧ st.WarmedH t.vm ∧ st.sameButNew ({ t with vm := st.vm } : State) L mc ms ∧ ∀ z ∈ L, free z.base
def vx_Q (Qc : Array Value → State → Outcome → State → Prop) (XC : String → State → State → Prop) (mc ms : Nat) (free : Addr → Prop) : Array Value → State → Outcome → State → Prop := fun a st o t =>
  (Qc a st o t ∧ ∃ L, FrameEnd st o t L mc ms ∧ ∀ q ∈ L, free q.base) ∨ ∃ q, o = .threw q ∧ vx_T XC st q t mc ms free
/-- a callee that returns or throws -/
def vx_Met (l : Launch) (y : MethodName) (ws : List Cond) (rm : Room) (Pc : Array Value → State → Prop) (Qc : Array Value → State → Outcome → State → Prop) (XC : String → State → State → Prop) (mc ms : Nat) (free : Addr → Prop) : Prop :=
  MetFree l y (headSpec ws rm) Pc (fun _ _ _ _ _ => True) (vx_Q Qc XC mc ms free)
def vx_Post (XC : String → State → State → Prop) (mc ms : Nat) (free : Addr → Prop) : Pt → Array Value → Addr → Pt → Prop := fun A a q B =>
  ∃ (g : JFrame) (mk : MethodId) (t : State) (L : List Loc) (E : String) (ce : Cell), B.U.heap = t.heap ∧ B.U.vm = t.vm ∧ XC E (A.U.calling g mk a) t ∧ t.heap[q]? = some ce ∧ ce.vm = .none ∧ A.U.vm.findClass E = some ce.cls ∧ B.locs = A.locs ++ L ∧ (∀ z ∈ L, free z.base) ∧ B.cells = A.cells + mc ∧ B.slots = A.slots + ms
def vx_Back (l : Launch) (R : Room) (p : Program) (e : Env) (below : List Frame) (s : State) (sargs : Array Value) (y : MethodName) (len W9 : Nat)
    (Pre : Pt → Array Value → Prop) (Post : Pt → Array Value → Option Value → Pt → Prop) (PostX : Pt → Array Value → Addr → Pt → Prop) : Prop :=
  ∀ (m : MethodId) (meth : Method) (c : Code) (A : Pt) (g : JFrame) (ig : Instr) (mk : MethodId) (a : Array Value),
    Stand p l e R s m sargs below meth c A.U A.locs A.cells A.slots → g.method = m → g.locals.size = c.maxLocals → decode c.code g.pc = .ok (ig, len) →
    2 * g.monitorRoom + (g.stack.map fun v => v.category).sum ≤ W9 → A.U.methodNamed? y = some mk → Pre A a →
    (∃ (v : Option Value) (B : Pt), Stand p l e R s m sargs below meth c B.U B.locs B.cells B.slots ∧ Post A a v B ∧
      Steps p.tables e below (doInvoke e (A.U.setTop g) [] mk a).1 (B.U.setTop { g with pc := g.pc + len, stack := v.toList ++ g.stack })) ∨
    (∃ (q : Addr) (B : Pt), Stand p l e R s m sargs below meth c B.U B.locs B.cells B.slots ∧ PostX A a q B ∧
      Steps p.tables e below (doInvoke e (A.U.setTop g) [] mk a).1 ((B.U.setTop g).pushFrame (.throwing q)))
section Payer
variable {l : Launch} {R : Room} {p : Program} {e : Env} {below : List Frame} {s : State} {sargs : Array Value} {y : MethodName} {len W9 : Nat}
theorem vx_back {ws : List Cond} {rm : Room} {Pc : Array Value → State → Prop} {Qc : Array Value → State → Outcome → State → Prop} {XC : String → State → State → Prop} {mc ms : Nat} {free : Addr → Prop} {bytes : ByteArray} {maxL : Nat} {ret : Option FieldType}
    (hM : vx_Met l y ws rm Pc Qc XC mc ms free) (hblind : FrameBlind Pc) (hrc : rm.cells = mc) (hrs : rm.slots = ms)
    (hframes : rm.frames + 1 ≤ R.frames) (hlocals : W9 + (maxL + 11) + rm.locals ≤ R.locals)
    (hws : ∀ w ∈ ws, ∀ a' U, s.WarmedH U.vm → w.before a' U = true) (hcode : Cond.code y bytes maxL ret ∈ ws) (hinit : ∀ a' U, s.WarmedH U.vm → (Cond.initialized y.cls).before a' U = true) :
    vx_Back l R p e below s sargs y len W9 (PreOf R mc ms Pc) (PostOf Qc mc ms free) (vx_Post XC mc ms free) := by
  intro m meth c A g ig mk a X hg hsize hdg hW hn hp
  have h1 : (headSpec ws rm).pre.before a A.U = true := atoms_intro fun w hw => hws w hw _ _ X.warmed
  have h2 : (Cond.code y bytes maxL ret).before a A.U = true := hws _ hcode _ _ X.warmed
  have h3 : (Cond.initialized y.cls).before a A.U = true := hinit _ _ X.warmed
  have h4 : A.cells + (headSpec ws rm).room.cells ≤ R.cells := by rw [show (headSpec ws rm).room.cells = mc from hrc]; exact hp.1
  have h5 : A.slots + (headSpec ws rm).room.slots ≤ R.slots := by rw [show (headSpec ws rm).room.slots = ms from hrs]; exact hp.2.1
  have hPc : Pc a (A.U.calling g mk a) := hblind _ _ _ _ hp.2.2
  obtain ⟨U, Ls, c0, s0⟩ := A
  dsimp only [Pt.U, Pt.locs, Pt.cells, Pt.slots] at h1 h2 h3 h4 h5 X hn hPc ⊢
  obtain ⟨methY, cY, hmY, hcY, -, hlY, -, -, -, -⟩ := Cond.code_spec hn h2
  obtain ⟨kY, hkY, -⟩ := className_of_methodNamed hn
  have hinitY : kY.init = .initialized := Cond.initialized_spec (findClass_of_methodNamed hn) hkY h3
  have h : At U g.method c below := by rw [hg]; exact X.here
  have hlocals9 : W9 + (maxL + 11) + (headSpec ws rm).room.locals ≤ R.locals := hlocals
  have happ : (headSpec ws rm).appliesLoose y e.platform (U.calling g mk a) = true :=
    Spec.appliesLoose_calling (g := g) h hdg hn hkY hinitY
      (X.room_calling (g := g) (R' := (headSpec ws rm).room) hsize hmY hcY hframes (by rw [hlY]; omega) h4 h5) h1
  obtain ⟨mid, hmid⟩ := h.above
  have hfr : (U.setTop g).frames = (.java g :: mid) ++ below := by rw [State.frames_setTop' g h.top, hmid]; rfl
  obtain ⟨o, s₂, hsteps, -, hend, hq⟩ := Steps.callFree hM p X.admits X.cas X.clock (acts := []) hfr happ hPc trivial
  have hq' : vx_Q Qc XC mc ms free a (U.calling g mk a) o s₂ := hq
  rw [State.frames_setTop' g h.top] at hend
  obtain ⟨g₀, hg0⟩ := Option.isSome_iff_exists.mp h.top
  obtain ⟨r, hr⟩ := State.topJava?_eq_some.mp hg0
  have hr' : (({ U with heap := s₂.heap, slotsUsed := s₂.slotsUsed } : State).setVm s₂.vm).frames = .java g₀ :: r := hr
  rcases hq' with ⟨hqc, L, hfe, hL⟩ | ⟨q, rfl, E, ce, L, hx, hce, hcv, hcl, hW₂, hsm, hL⟩
  · obtain ⟨⟨v, rfl⟩, hW₂, e2, q2, q3, q4, q5, q6⟩ := id hfe
    have e3 : s₂ = ({ (U.calling g mk a).setFrames s₂.frames with heap := s₂.heap, slotsUsed := s₂.slotsUsed } : State).setVm s₂.vm := by
      have : s₂ = ({ s₂ with vm := (U.calling g mk a).vm } : State).setVm s₂.vm := rfl
      rw [e2] at this
      exact this
    obtain ⟨c₂, i₂, len₂, hc₂, hd₂, hf₂⟩ := hend
    have hW' : U.WarmedH s₂.vm := hW₂
    have hcc : c₂ = c := by
      have h1 : s₂.code? g.method = U.code? g.method := by
        rw [State.code?_eq, State.code?_eq, hW'.alike.method?]
      exact Option.some.inj (hc₂.symm.trans (h1.trans h.code))
    subst hcc
    have hlen : len₂ = len := by rw [hdg] at hd₂; cases hd₂; rfl
    subst hlen
    have hs₂ : s₂ = (({ U with heap := s₂.heap, slotsUsed := s₂.slotsUsed } : State).setVm s₂.vm).setTop { g with pc := g.pc + len₂, stack := v.toList ++ g.stack } := by
      refine e3.trans ?_
      rw [hf₂, State.calling_eq h.top, State.setFrames_setFrames, State.setTop_of_frames _ hr', hr]
      rfl
    have hsame : U.sameButNew ({ U with heap := s₂.heap, slotsUsed := s₂.slotsUsed } : State) L mc ms := by
      refine ⟨?_, q2, q3, q4, q5, q6⟩
      obtain ⟨t, ht, -⟩ := State.frames_cons hr
      show ({ U with heap := s₂.heap, slotsUsed := s₂.slotsUsed } : State) = { U.setFrames U.frames with heap := s₂.heap, slotsUsed := s₂.slotsUsed }
      rw [State.setFrames_self ht]
    subst hg
    refine Or.inl ⟨v, ⟨(({ U with heap := s₂.heap, slotsUsed := s₂.slotsUsed } : State).setVm s₂.vm), Ls ++ L, c0 + mc, s0 + ms⟩,
      ⟨X.admits, X.cas, X.clock, X.frames, X.room, X.hears, X.method, X.code, (X.here.setHeapUsed s₂.heap s₂.slotsUsed).setVm hW'.alike, X.tail, State.WarmedH.trans X.warmed hW', X.limits, X.bytes, X.same.trans (hsame.setVm s.vm)⟩,
      ⟨g, mk, s₂, L, rfl, rfl, hqc, rfl, hL, rfl, rfl⟩, ?_⟩
    show Steps p.tables e below _ ((({ U with heap := s₂.heap, slotsUsed := s₂.slotsUsed } : State).setVm s₂.vm).setTop { g with pc := g.pc + len₂, stack := v.toList ++ g.stack })
    rw [← hs₂]
    exact hsteps
  · obtain ⟨e2, q2, q3, q4, q5, q6⟩ := id hsm
    have e3 : s₂ = ({ (U.calling g mk a).setFrames s₂.frames with heap := s₂.heap, slotsUsed := s₂.slotsUsed } : State).setVm s₂.vm := by
      have : s₂ = ({ s₂ with vm := (U.calling g mk a).vm } : State).setVm s₂.vm := rfl
      rw [e2] at this
      exact this
    have hf₂ : s₂.frames = .throwing q :: .java g :: U.frames.tail := hend
    have hW' : U.WarmedH s₂.vm := hW₂
    have hs₂ : s₂ = ((({ U with heap := s₂.heap, slotsUsed := s₂.slotsUsed } : State).setVm s₂.vm).setTop g).pushFrame (.throwing q) := by
      refine e3.trans ?_
      rw [hf₂, State.calling_eq h.top, State.setFrames_setFrames, State.pushFrame, State.frames_setTop _ hr', State.setTop_of_frames _ hr', State.setFrames_setFrames, hr]
      rfl
    have hsame : U.sameButNew ({ U with heap := s₂.heap, slotsUsed := s₂.slotsUsed } : State) L mc ms := by
      refine ⟨?_, q2, q3, q4, q5, q6⟩
      obtain ⟨t, ht, -⟩ := State.frames_cons hr
      show ({ U with heap := s₂.heap, slotsUsed := s₂.slotsUsed } : State) = { U.setFrames U.frames with heap := s₂.heap, slotsUsed := s₂.slotsUsed }
      rw [State.setFrames_self ht]
    subst hg
    refine Or.inr ⟨q, ⟨(({ U with heap := s₂.heap, slotsUsed := s₂.slotsUsed } : State).setVm s₂.vm), Ls ++ L, c0 + mc, s0 + ms⟩,
      ⟨X.admits, X.cas, X.clock, X.frames, X.room, X.hears, X.method, X.code, (X.here.setHeapUsed s₂.heap s₂.slotsUsed).setVm hW'.alike, X.tail, State.WarmedH.trans X.warmed hW', X.limits, X.bytes, X.same.trans (hsame.setVm s.vm)⟩,
      ⟨g, mk, s₂, L, E, ce, rfl, rfl, hx, hce, hcv, hcl, rfl, hL, rfl, rfl⟩, ?_⟩
    show Steps p.tables e below _ (((({ U with heap := s₂.heap, slotsUsed := s₂.slotsUsed } : State).setVm s₂.vm).setTop g).pushFrame (.throwing q))
    rw [← hs₂]
    exact hsteps
end Payer
section Calls
variable {p : Program} {l : Launch} {e : Env} {R : Room} {s : State} {m : MethodId} {args : Array Value} {below : List Frame} {meth : Method} {c : Code} {T : State} {locs : List Loc} {cells slots : Nat}
theorem vx_callV (X : Stand p l e R s m args below meth c T locs cells slots) (hexec : p.tables.exec = Jvm.exec) {own C : String} {index : Nat} {y : MethodName} {bytes : ByteArray} {maxL : Nat} {ret : Option FieldType}
    (hown : s.vm.findClass own = some m.cls) (hlink : (Cond.methodLink own index y).before args s = true) (hinst : (Cond.instanceMethod y).before args s = true) (hsel : (Cond.selects C y y).before args s = true)
    (hcode : (Cond.code y bytes maxL ret).before args s = true) (hy : y.cls ≠ "java/lang/invoke/MethodHandle" ∧ y.cls ≠ "java/lang/invoke/VarHandle")
    {W9 : Nat} {Pre : Pt → Array Value → Prop} {Post : Pt → Array Value → Option Value → Pt → Prop} {PostX : Pt → Array Value → Addr → Pt → Prop} (hK : vx_Back l R p e below s args y 3 W9 Pre Post PostX)
    {b : Addr} {cellB : Cell} (hcell : T.heap[b]? = some cellB) (hobj : cellB.vm.isStatics = false) (hcls : s.vm.findClass C = some cellB.cls)
    {g : JFrame} (hg : g.method = m) (hsize : g.locals.size = c.maxLocals) {argsL rest : List Value} (hlen : ∀ sig, parseMethodDescriptor y.desc = some sig → argsL.length = sig.parameters.length)
    (hstack : g.stack = argsL.reverse ++ .ref b :: rest) (hW : 2 * g.monitorRoom + (rest.map fun v => v.category).sum ≤ W9) (hdg : decode c.code g.pc = .ok (.invokevirtual index, 3))
    (hpre : ∀ vm₁, s.WarmedH vm₁ → Pre ⟨T.setVm vm₁, locs, cells, slots⟩ (Value.ref b :: argsL).toArray) :
    (∃ (v : Option Value) (vm₁ : Vm) (B : Pt), s.WarmedH vm₁ ∧ Stand p l e R s m args below meth c B.U B.locs B.cells B.slots ∧ Post ⟨T.setVm vm₁, locs, cells, slots⟩ (Value.ref b :: argsL).toArray v B ∧
      ∀ target, Steps p.tables e below (B.U.setTop { g with pc := g.pc + 3, stack := v.toList ++ rest }) target → Steps p.tables e below (T.setTop g) target) ∨
    (∃ (q : Addr) (vm₁ : Vm) (B : Pt), s.WarmedH vm₁ ∧ Stand p l e R s m args below meth c B.U B.locs B.cells B.slots ∧ PostX ⟨T.setVm vm₁, locs, cells, slots⟩ (Value.ref b :: argsL).toArray q B ∧
      Steps p.tables e below (T.setTop g) ((B.U.setTop { g with stack := rest }).pushFrame (.throwing q))) := by
  obtain ⟨mk, methM, hnamed, hmethM, hstM, habM⟩ := Cond.instanceMethod_spec hinst
  obtain ⟨methM', cM, hmethM', -, -, -, -, -, -, hsigM⟩ := Cond.code_spec hnamed hcode
  cases hmethM.symm.trans hmethM'
  obtain ⟨c2, r2, m2, q1, q2, q3, q4, kP, hkP, hkPi⟩ := Cond.selects_spec hsel
  cases hcls.symm.trans q1
  cases (State.methodFound?_of_named hnamed hy).symm.trans q2
  cases hnamed.symm.trans q3
  have hselP : selectMethod e.platform s.vm cellB.cls mk = .method mk := by rw [Launch.admits_selectMethod X.admits]; exact q4
  obtain ⟨vm₁, X₁, hstep₁⟩ := X.invokevirtual hexec hown hlink hnamed hmethM hstM hkP hkPi hy (a := b) (cell := cellB) hcell
    (fun z h => by rw [h] at hobj; cases hobj) hselP hmethM habM hkP hkPi (g := g) hg (argsL := argsL) (rest := rest) (hlen _ hsigM) hstack hdg
  rcases hK m meth c ⟨T.setVm vm₁, locs, cells, slots⟩ { g with stack := rest } (.invokevirtual index) mk (Value.ref b :: argsL).toArray X₁ hg hsize hdg hW (X₁.named hnamed) (hpre vm₁ X₁.warmed) with ⟨v, B, X', hpost, hsteps⟩ | ⟨q, B, X', hpost, hsteps⟩
  · exact Or.inl ⟨v, vm₁, B, X₁.warmed, X', hpost, fun target h => hstep₁ _ fun acts => by rw [doInvoke_state]; exact hsteps.trans h⟩
  · exact Or.inr ⟨q, vm₁, B, X₁.warmed, X', hpost, hstep₁ _ fun acts => by rw [doInvoke_state]; exact hsteps⟩
theorem vx_callS (X : Stand p l e R s m args below meth c T locs cells slots) (hexec : p.tables.exec = Jvm.exec) {own : String} {index : Nat} {y : MethodName} {bytes : ByteArray} {maxL : Nat} {ret : Option FieldType}
    (hown : s.vm.findClass own = some m.cls) (hlink : (Cond.methodLink own index y).before args s = true) (hstat : (Cond.static y).before args s = true) (hinit : (Cond.initialized y.cls).before args s = true)
    (hcode : (Cond.code y bytes maxL ret).before args s = true) (hy : y.cls ≠ "java/lang/invoke/MethodHandle" ∧ y.cls ≠ "java/lang/invoke/VarHandle")
    {W9 : Nat} {Pre : Pt → Array Value → Prop} {Post : Pt → Array Value → Option Value → Pt → Prop} {PostX : Pt → Array Value → Addr → Pt → Prop} (hK : vx_Back l R p e below s args y 3 W9 Pre Post PostX)
    {g : JFrame} (hg : g.method = m) (hsize : g.locals.size = c.maxLocals) {argsL rest : List Value} (hlen : ∀ sig, parseMethodDescriptor y.desc = some sig → argsL.length = sig.parameters.length)
    (hstack : g.stack = argsL.reverse ++ rest) (hW : 2 * g.monitorRoom + (rest.map fun v => v.category).sum ≤ W9) (hdg : decode c.code g.pc = .ok (.invokestatic index, 3))
    (hpre : ∀ vm₁, s.WarmedH vm₁ → Pre ⟨T.setVm vm₁, locs, cells, slots⟩ argsL.toArray) :
    (∃ (v : Option Value) (vm₁ : Vm) (B : Pt), s.WarmedH vm₁ ∧ Stand p l e R s m args below meth c B.U B.locs B.cells B.slots ∧ Post ⟨T.setVm vm₁, locs, cells, slots⟩ argsL.toArray v B ∧
      ∀ target, Steps p.tables e below (B.U.setTop { g with pc := g.pc + 3, stack := v.toList ++ rest }) target → Steps p.tables e below (T.setTop g) target) ∨
    (∃ (q : Addr) (vm₁ : Vm) (B : Pt), s.WarmedH vm₁ ∧ Stand p l e R s m args below meth c B.U B.locs B.cells B.slots ∧ PostX ⟨T.setVm vm₁, locs, cells, slots⟩ argsL.toArray q B ∧
      Steps p.tables e below (T.setTop g) ((B.U.setTop { g with stack := rest }).pushFrame (.throwing q))) := by
  obtain ⟨mk, hnamed⟩ := Cond.code_named hcode
  obtain ⟨methM, cM, hmethM, -, -, -, -, -, -, hsigM⟩ := Cond.code_spec hnamed hcode
  have hstatic : methM.isStatic = true := Cond.static_spec hnamed hmethM hstat
  obtain ⟨kP, hkP, -⟩ := className_of_methodNamed hnamed
  have hinitP : kP.init = .initialized := Cond.initialized_spec (findClass_of_methodNamed hnamed) hkP hinit
  obtain ⟨vm₁, X₁, hstep₁⟩ := X.invokestatic hexec hown hlink hnamed hmethM hstatic hkP hinitP hy (g := g) hg (argsL := argsL) (rest := rest) (hlen _ hsigM) hstack hdg
  rcases hK m meth c ⟨T.setVm vm₁, locs, cells, slots⟩ { g with stack := rest } (.invokestatic index) mk argsL.toArray X₁ hg hsize hdg hW (X₁.named hnamed) (hpre vm₁ X₁.warmed) with ⟨v, B, X', hpost, hsteps⟩ | ⟨q, B, X', hpost, hsteps⟩
  · exact Or.inl ⟨v, vm₁, B, X₁.warmed, X', hpost, fun target h => hstep₁ _ fun acts => by rw [doInvoke_state]; exact hsteps.trans h⟩
  · exact Or.inr ⟨q, vm₁, B, X₁.warmed, X', hpost, hstep₁ _ fun acts => by rw [doInvoke_state]; exact hsteps⟩
end Calls
theorem vx_cls {s : State} {T : State} {vm₁ : Vm} {E : String} {k : ClassId} (hW : s.WarmedH vm₁) (h : (T.setVm vm₁).vm.findClass E = some k) : s.vm.findClass E = some k := by
  have h1 : vm₁.findClass E = some k := h
  rw [hW.alike.findClass] at h1
  exact h1
/-- the method's frame g, with q thrown over it -/
def vx_W (p : Program) (l : Launch) (e : Env) (R : Room) (s : State) (m : MethodId) (args : Array Value) (below : List Frame) (meth : Method) (c : Code) (H : Heap) (locs : List Loc) (cells slots : Nat) (Q : State → Prop) (g : JFrame) (q : Addr) : Prop :=
  ∀ T : State, T.heap = H → Stand p l e R s m args below meth c T locs cells slots → ∃ t, Steps p.tables e below ((T.setTop g).pushFrame (.throwing q)) t ∧ Q t
def vx_Run (p : Program) (l : Launch) (e : Env) (R : Room) (s : State) (m : MethodId) (args : Array Value) (below : List Frame) (meth : Method) (c : Code) (H : Heap) (locs : List Loc) (cells slots mc ms : Nat) (g : JFrame) (rest : List Value) (Qa : State → Outcome → State → Prop) (XC : String → State → State → Prop) (free : Addr → Prop) : Prop :=
  ∀ T : State, T.heap = H → Stand p l e R s m args below meth c T locs cells slots →
    (∃ (v : Option Value) (st₀ t T' : State) (L : List Loc), st₀.heap = H ∧ Stand p l e R s m args below meth c T' (locs ++ L) (cells + mc) (slots + ms) ∧ (∀ q ∈ L, free q.base) ∧ T'.heap = t.heap ∧ T'.vm = t.vm ∧ Qa st₀ (.returned v) t ∧
      Goes p e below T g T' { g with pc := g.pc + 3, stack := v.toList ++ rest }) ∨
    (∃ (q : Addr) (st₀ t T' : State) (L : List Loc) (E : String) (ce : Cell), st₀.heap = H ∧ Stand p l e R s m args below meth c T' (locs ++ L) (cells + mc) (slots + ms) ∧ (∀ z ∈ L, free z.base) ∧ T'.heap = t.heap ∧ T'.vm = t.vm ∧ XC E st₀ t ∧ t.heap[q]? = some ce ∧ ce.vm = .none ∧ s.vm.findClass E = some ce.cls ∧
      Steps p.tables e below (T.setTop g) ((T'.setTop { g with stack := rest }).pushFrame (.throwing q)))
def vx_X {S : Type} (px : S → Prop) (B : String → S → State → Prop) (A : Nat → Prop) : String → State → State → Prop := fun E st t => ∃ u : S, px u ∧ B E u t ∧ va_F A st t
section Runs
variable {p : Program} {l : Launch} {e : Env} {R : Room} {s : State} {m : MethodId} {args : Array Value} {below : List Frame} {meth : Method} {c : Code} {H : Heap} {locs : List Loc} {cells slots : Nat}
variable {y : MethodName} {bytes cc : ByteArray} {maxL nL mc ms n index : Nat} {ret : Option FieldType} {ws : List Cond} {rm : Room} {Pc : Array Value → State → Prop} {Qc : Array Value → State → Outcome → State → Prop} {XC : String → State → State → Prop} {free : Addr → Prop} {Ts : List Cond} {own C : String} {b : Addr} {As rest : List Value} {g : JFrame}
theorem vx_callBack (cb : CallB R s args own index y bytes maxL ret ws rm mc ms n) (hM : vx_Met l y ws rm Pc Qc XC mc ms free) (hbl : FrameBlind Pc) : vx_Back l R p e below s args y 3 8 (PreOf R mc ms Pc) (PostOf Qc mc ms free) (vx_Post XC mc ms free) := by
  obtain ⟨hrc, hrs, hfr, hlo, hws, hcw, -, hini, -⟩ := cb
  exact vx_back (bytes := bytes) (maxL := maxL) (ret := ret) hM hbl hrc hrs hfr hlo hws hcw (fun a' U hW => word_at hW (Or.inl (by first | rfl | simp [Cond.onTables, Cond.keeps, Cond.steady])) hini)
theorem vx_runV (S : CallFix p m c cc nL s args Ts own) (hM : vx_Met l y ws rm Pc Qc XC mc ms free) (cw : CallW R s args own C index y bytes maxL ret ws rm mc ms n) (hp : PreV s H C b Pc As)
    (hg : g.method = m) (hn : As.length = n) (hsize : g.locals.size = nL) (hstack : g.stack = As.reverse ++ .ref b :: rest) (hW : 2 * g.monitorRoom + (rest.map fun v => v.category).sum ≤ 8) (hdg : decode cc g.pc = .ok (.invokevirtual index, 3)) (hf : cells + mc ≤ R.cells ∧ slots + ms ≤ R.slots) :
    vx_Run p l e R s m args below meth c H locs cells slots mc ms g rest (Qc (Value.ref b :: As).toArray) XC free := by
  have hK : vx_Back l R p e below s args y 3 8 (PreOf R mc ms Pc) (PostOf Qc mc ms free) (vx_Post XC mc ms free) := vx_callBack cw.1 hM hp.1
  obtain ⟨⟨-, -, -, -, -, -, hcode, -, hy, hlen, hl⟩, hin, hse⟩ := cw
  obtain ⟨hx, hb, hml, ho, -⟩ := S
  obtain ⟨-, ⟨cellB, hcB, hoB, hclB⟩, hPc⟩ := hp
  intro T hT X
  rcases vx_callV X hx (C := C) (bytes := bytes) (maxL := maxL) (ret := ret) ho hl hin hse hcode hy hK (by rw [hT]; exact hcB) hoB hclB hg (hsize.trans hml.symm) (argsL := As) (rest := rest) (fun sig h => hn.trans (hlen sig h)) hstack hW (by rw [hb]; exact hdg)
    (fun vm₁ hW₁ => ⟨hf.1, hf.2, hPc (T.setVm vm₁) hT hW₁⟩) with ⟨v, vm₁, ⟨U', l2, c2, s2⟩, hW₁, X', ⟨g', mk, t, L, e1, e2, hq, h1, hL, h2, h3⟩, st⟩ | ⟨q, vm₁, ⟨U', l2, c2, s2⟩, hW₁, X', ⟨g', mk, t, L, E, ce, e1, e2, hq, hce, hcv, hcl, h1, hL, h2, h3⟩, st⟩
  · dsimp only [Pt.U, Pt.locs, Pt.cells, Pt.slots] at X' e1 e2 h1 h2 h3 st
    subst h1; subst h2; subst h3
    exact Or.inl ⟨v, (T.setVm vm₁).calling g' mk (Value.ref b :: As).toArray, t, U', L, hT, X', hL, e1, e2, hq, st⟩
  · dsimp only [Pt.U, Pt.locs, Pt.cells, Pt.slots] at X' e1 e2 h1 h2 h3 st hcl
    subst h1; subst h2; subst h3
    exact Or.inr ⟨q, (T.setVm vm₁).calling g' mk (Value.ref b :: As).toArray, t, U', L, E, ce, hT, X', hL, e1, e2, hq, hce, hcv, vx_cls hW₁ hcl, st⟩
theorem vx_runS (S : CallFix p m c cc nL s args Ts own) (hM : vx_Met l y ws rm Pc Qc XC mc ms free) (cw : CallB R s args own index y bytes maxL ret ws rm mc ms n ∧ (Cond.static y).before args s = true) (hp : PreS s H Pc As)
    (hg : g.method = m) (hn : As.length = n) (hsize : g.locals.size = nL) (hstack : g.stack = As.reverse ++ rest) (hW : 2 * g.monitorRoom + (rest.map fun v => v.category).sum ≤ 8) (hdg : decode cc g.pc = .ok (.invokestatic index, 3)) (hf : cells + mc ≤ R.cells ∧ slots + ms ≤ R.slots) :
    vx_Run p l e R s m args below meth c H locs cells slots mc ms g rest (Qc As.toArray) XC free := by
  have hK : vx_Back l R p e below s args y 3 8 (PreOf R mc ms Pc) (PostOf Qc mc ms free) (vx_Post XC mc ms free) := vx_callBack cw.1 hM hp.1
  obtain ⟨⟨-, -, -, -, -, -, hcode, hini, hy, hlen, hl⟩, hstt⟩ := cw
  obtain ⟨hx, hb, hml, ho, -⟩ := S
  intro T hT X
  rcases vx_callS X hx (bytes := bytes) (maxL := maxL) (ret := ret) ho hl hstt hini hcode hy hK hg (hsize.trans hml.symm) (argsL := As) (rest := rest) (fun sig h => hn.trans (hlen sig h)) hstack hW (by rw [hb]; exact hdg)
    (fun vm₁ hW₁ => ⟨hf.1, hf.2, hp.2 (T.setVm vm₁) hT hW₁⟩) with ⟨v, vm₁, ⟨U', l2, c2, s2⟩, hW₁, X', ⟨g', mk, t, L, e1, e2, hq, h1, hL, h2, h3⟩, st⟩ | ⟨q, vm₁, ⟨U', l2, c2, s2⟩, hW₁, X', ⟨g', mk, t, L, E, ce, e1, e2, hq, hce, hcv, hcl, h1, hL, h2, h3⟩, st⟩
  · dsimp only [Pt.U, Pt.locs, Pt.cells, Pt.slots] at X' e1 e2 h1 h2 h3 st
    subst h1; subst h2; subst h3
    exact Or.inl ⟨v, (T.setVm vm₁).calling g' mk As.toArray, t, U', L, hT, X', hL, e1, e2, hq, st⟩
  · dsimp only [Pt.U, Pt.locs, Pt.cells, Pt.slots] at X' e1 e2 h1 h2 h3 st hcl
    subst h1; subst h2; subst h3
    exact Or.inr ⟨q, (T.setVm vm₁).calling g' mk As.toArray, t, U', L, E, ce, hT, X', hL, e1, e2, hq, hce, hcv, vx_cls hW₁ hcl, st⟩
end Runs
section Rows
variable {p : Program} {l : Launch} {e : Env} {R : Room} {s : State} {m : MethodId} {args : Array Value} {below : List Frame} {meth : Method} {c : Code} {H : Heap} {locs : List Loc} {cells slots : Nat} {Q : State → Prop}
variable {mc ms : Nat} {free : Addr → Prop} {A0 A1 : Nat → Prop} {H0 : Heap} {a : Array Value} {pc : Nat} {ls : Array Slot} {st0 rest : List Value}
theorem vx_keep {st₀ t T' : State} {L : List Loc} (h0 : st₀.heap = H) (e1 : T'.heap = t.heap) (hS : va_S A0 H0 H locs) (hA : ∀ q, q < H.size → A1 q → A0 q) (hf : ∀ q, free q → A0 q) (hL : ∀ q ∈ L, free q.base) (hF : va_F A1 st₀ t) :
    H.size ≤ T'.heap.size ∧ (∀ q : Nat, q < H.size → ¬ A1 q → T'.heap[q]? = H[q]?) ∧ va_S A0 H0 T'.heap (locs ++ L) := by
  obtain ⟨hz, hk⟩ := hF
  rw [h0] at hz hk
  exact ⟨by rw [e1]; exact hz, fun q h1 h2 => by rw [e1]; exact hk q h1 h2,
    ⟨Nat.le_trans hS.1 (by rw [e1]; exact hz), fun q h1 h2 => by rw [e1, hk q (Nat.lt_of_lt_of_le h1 hS.1) (fun z => h2 (hA q (Nat.lt_of_lt_of_le h1 hS.1) z))]; exact hS.2.1 q h1 h2, fun q hq => by
      rcases List.mem_append.mp hq with h | h
      · exact hS.2.2 q h
      · exact hf _ (hL q h)⟩⟩
theorem vx_calli {S SX : Type} {post : Int32 → S → Prop} {px : SX → Prop} {B : S → State → Prop} {BX : String → SX → State → Prop} {AX : Nat → Prop} (hr : vx_Run p l e R s m args below meth c H locs cells slots mc ms (F0 m pc ls st0) rest (va_Qi post B A1 a) (vx_X px BX AX) free) (hS : va_S A0 H0 H locs) (hA : ∀ q, q < H.size → A1 q → A0 q) (hf : ∀ q, free q → A0 q) (hAX : ∀ q, q < H.size → AX q → A0 q)
    (kx : ∀ (E : String) (ce : Cell) (q9 : Addr) (u : SX) (t : State) (H1 : Heap) (locs1 : List Loc), t.heap = H1 → s.vm.Alike t.vm → px u → BX E u t → H.size ≤ H1.size → (∀ q : Nat, q < H.size → ¬ AX q → H1[q]? = H[q]?) → va_S A0 H0 H1 locs1 → H1[q9]? = some ce → ce.vm = .none → s.vm.findClass E = some ce.cls → vx_W p l e R s m args below meth c H1 locs1 (cells + mc) (slots + ms) Q (F0 m pc ls rest) q9)
    (kk : ∀ (r : Int32) (u : S) (t : State) (H1 : Heap) (locs1 : List Loc), t.heap = H1 → s.vm.Alike t.vm → post r u → B u t → H.size ≤ H1.size → (∀ q : Nat, q < H.size → ¬ A1 q → H1[q]? = H[q]?) → va_S A0 H0 H1 locs1 → W p l e R s m args below meth c H1 locs1 (cells + mc) (slots + ms) Q (F0 m (pc + 3) ls (.int r :: rest))) : W p l e R s m args below meth c H locs cells slots Q (F0 m pc ls st0) := by
  intro T hT X
  rcases hr T hT X with ⟨v, st₀, t, T', L, h0, X', hL, e1, e2, ⟨⟨r, u, hv, hp, hb⟩, hF⟩, st⟩ | ⟨q, st₀, t, T', L, E, ce, h0, X', hL, e1, e2, ⟨u, hp, hb, hF⟩, hce, hcv, hcl, st⟩
  · cases hv
    obtain ⟨k1, k2, k3⟩ := vx_keep h0 e1 hS hA hf hL hF
    obtain ⟨t2, a1, b1⟩ := kk r u t T'.heap (locs ++ L) e1.symm (by rw [← e2]; exact X'.warmed.alike) hp hb k1 k2 k3 T' rfl X'
    exact ⟨t2, st t2 a1, b1⟩
  · obtain ⟨k1, k2, k3⟩ := vx_keep h0 e1 hS hAX hf hL hF
    obtain ⟨t2, a1, b1⟩ := kx E ce q u t T'.heap (locs ++ L) e1.symm (by rw [← e2]; exact X'.warmed.alike) hp hb k1 k2 k3 (by rw [e1]; exact hce) hcv hcl T' rfl X'
    exact ⟨t2, st.trans a1, b1⟩
theorem vx_calll {S SX : Type} {post : Int64 → S → Prop} {px : SX → Prop} {B : S → State → Prop} {BX : String → SX → State → Prop} {AX : Nat → Prop} (hr : vx_Run p l e R s m args below meth c H locs cells slots mc ms (F0 m pc ls st0) rest (va_Ql post B A1 a) (vx_X px BX AX) free) (hS : va_S A0 H0 H locs) (hA : ∀ q, q < H.size → A1 q → A0 q) (hf : ∀ q, free q → A0 q) (hAX : ∀ q, q < H.size → AX q → A0 q)
    (kx : ∀ (E : String) (ce : Cell) (q9 : Addr) (u : SX) (t : State) (H1 : Heap) (locs1 : List Loc), t.heap = H1 → s.vm.Alike t.vm → px u → BX E u t → H.size ≤ H1.size → (∀ q : Nat, q < H.size → ¬ AX q → H1[q]? = H[q]?) → va_S A0 H0 H1 locs1 → H1[q9]? = some ce → ce.vm = .none → s.vm.findClass E = some ce.cls → vx_W p l e R s m args below meth c H1 locs1 (cells + mc) (slots + ms) Q (F0 m pc ls rest) q9)
    (kk : ∀ (r : Int64) (u : S) (t : State) (H1 : Heap) (locs1 : List Loc), t.heap = H1 → s.vm.Alike t.vm → post r u → B u t → H.size ≤ H1.size → (∀ q : Nat, q < H.size → ¬ A1 q → H1[q]? = H[q]?) → va_S A0 H0 H1 locs1 → W p l e R s m args below meth c H1 locs1 (cells + mc) (slots + ms) Q (F0 m (pc + 3) ls (.long r :: rest))) : W p l e R s m args below meth c H locs cells slots Q (F0 m pc ls st0) := by
  intro T hT X
  rcases hr T hT X with ⟨v, st₀, t, T', L, h0, X', hL, e1, e2, ⟨⟨r, u, hv, hp, hb⟩, hF⟩, st⟩ | ⟨q, st₀, t, T', L, E, ce, h0, X', hL, e1, e2, ⟨u, hp, hb, hF⟩, hce, hcv, hcl, st⟩
  · cases hv
    obtain ⟨k1, k2, k3⟩ := vx_keep h0 e1 hS hA hf hL hF
    obtain ⟨t2, a1, b1⟩ := kk r u t T'.heap (locs ++ L) e1.symm (by rw [← e2]; exact X'.warmed.alike) hp hb k1 k2 k3 T' rfl X'
    exact ⟨t2, st t2 a1, b1⟩
  · obtain ⟨k1, k2, k3⟩ := vx_keep h0 e1 hS hAX hf hL hF
    obtain ⟨t2, a1, b1⟩ := kx E ce q u t T'.heap (locs ++ L) e1.symm (by rw [← e2]; exact X'.warmed.alike) hp hb k1 k2 k3 (by rw [e1]; exact hce) hcv hcl T' rfl X'
    exact ⟨t2, st.trans a1, b1⟩
theorem vx_callf {S SX : Type} {post : UInt32 → S → Prop} {px : SX → Prop} {B : S → State → Prop} {BX : String → SX → State → Prop} {AX : Nat → Prop} (hr : vx_Run p l e R s m args below meth c H locs cells slots mc ms (F0 m pc ls st0) rest (va_Qf post B A1 a) (vx_X px BX AX) free) (hS : va_S A0 H0 H locs) (hA : ∀ q, q < H.size → A1 q → A0 q) (hf : ∀ q, free q → A0 q) (hAX : ∀ q, q < H.size → AX q → A0 q)
    (kx : ∀ (E : String) (ce : Cell) (q9 : Addr) (u : SX) (t : State) (H1 : Heap) (locs1 : List Loc), t.heap = H1 → s.vm.Alike t.vm → px u → BX E u t → H.size ≤ H1.size → (∀ q : Nat, q < H.size → ¬ AX q → H1[q]? = H[q]?) → va_S A0 H0 H1 locs1 → H1[q9]? = some ce → ce.vm = .none → s.vm.findClass E = some ce.cls → vx_W p l e R s m args below meth c H1 locs1 (cells + mc) (slots + ms) Q (F0 m pc ls rest) q9)
    (kk : ∀ (r : UInt32) (u : S) (t : State) (H1 : Heap) (locs1 : List Loc), t.heap = H1 → s.vm.Alike t.vm → post r u → B u t → H.size ≤ H1.size → (∀ q : Nat, q < H.size → ¬ A1 q → H1[q]? = H[q]?) → va_S A0 H0 H1 locs1 → W p l e R s m args below meth c H1 locs1 (cells + mc) (slots + ms) Q (F0 m (pc + 3) ls (.float r :: rest))) : W p l e R s m args below meth c H locs cells slots Q (F0 m pc ls st0) := by
  intro T hT X
  rcases hr T hT X with ⟨v, st₀, t, T', L, h0, X', hL, e1, e2, ⟨⟨r, u, hv, hp, hb⟩, hF⟩, st⟩ | ⟨q, st₀, t, T', L, E, ce, h0, X', hL, e1, e2, ⟨u, hp, hb, hF⟩, hce, hcv, hcl, st⟩
  · cases hv
    obtain ⟨k1, k2, k3⟩ := vx_keep h0 e1 hS hA hf hL hF
    obtain ⟨t2, a1, b1⟩ := kk r u t T'.heap (locs ++ L) e1.symm (by rw [← e2]; exact X'.warmed.alike) hp hb k1 k2 k3 T' rfl X'
    exact ⟨t2, st t2 a1, b1⟩
  · obtain ⟨k1, k2, k3⟩ := vx_keep h0 e1 hS hAX hf hL hF
    obtain ⟨t2, a1, b1⟩ := kx E ce q u t T'.heap (locs ++ L) e1.symm (by rw [← e2]; exact X'.warmed.alike) hp hb k1 k2 k3 (by rw [e1]; exact hce) hcv hcl T' rfl X'
    exact ⟨t2, st.trans a1, b1⟩
theorem vx_calld {S SX : Type} {post : UInt64 → S → Prop} {px : SX → Prop} {B : S → State → Prop} {BX : String → SX → State → Prop} {AX : Nat → Prop} (hr : vx_Run p l e R s m args below meth c H locs cells slots mc ms (F0 m pc ls st0) rest (va_Qd post B A1 a) (vx_X px BX AX) free) (hS : va_S A0 H0 H locs) (hA : ∀ q, q < H.size → A1 q → A0 q) (hf : ∀ q, free q → A0 q) (hAX : ∀ q, q < H.size → AX q → A0 q)
    (kx : ∀ (E : String) (ce : Cell) (q9 : Addr) (u : SX) (t : State) (H1 : Heap) (locs1 : List Loc), t.heap = H1 → s.vm.Alike t.vm → px u → BX E u t → H.size ≤ H1.size → (∀ q : Nat, q < H.size → ¬ AX q → H1[q]? = H[q]?) → va_S A0 H0 H1 locs1 → H1[q9]? = some ce → ce.vm = .none → s.vm.findClass E = some ce.cls → vx_W p l e R s m args below meth c H1 locs1 (cells + mc) (slots + ms) Q (F0 m pc ls rest) q9)
    (kk : ∀ (r : UInt64) (u : S) (t : State) (H1 : Heap) (locs1 : List Loc), t.heap = H1 → s.vm.Alike t.vm → post r u → B u t → H.size ≤ H1.size → (∀ q : Nat, q < H.size → ¬ A1 q → H1[q]? = H[q]?) → va_S A0 H0 H1 locs1 → W p l e R s m args below meth c H1 locs1 (cells + mc) (slots + ms) Q (F0 m (pc + 3) ls (.double r :: rest))) : W p l e R s m args below meth c H locs cells slots Q (F0 m pc ls st0) := by
  intro T hT X
  rcases hr T hT X with ⟨v, st₀, t, T', L, h0, X', hL, e1, e2, ⟨⟨r, u, hv, hp, hb⟩, hF⟩, st⟩ | ⟨q, st₀, t, T', L, E, ce, h0, X', hL, e1, e2, ⟨u, hp, hb, hF⟩, hce, hcv, hcl, st⟩
  · cases hv
    obtain ⟨k1, k2, k3⟩ := vx_keep h0 e1 hS hA hf hL hF
    obtain ⟨t2, a1, b1⟩ := kk r u t T'.heap (locs ++ L) e1.symm (by rw [← e2]; exact X'.warmed.alike) hp hb k1 k2 k3 T' rfl X'
    exact ⟨t2, st t2 a1, b1⟩
  · obtain ⟨k1, k2, k3⟩ := vx_keep h0 e1 hS hAX hf hL hF
    obtain ⟨t2, a1, b1⟩ := kx E ce q u t T'.heap (locs ++ L) e1.symm (by rw [← e2]; exact X'.warmed.alike) hp hb k1 k2 k3 (by rw [e1]; exact hce) hcv hcl T' rfl X'
    exact ⟨t2, st.trans a1, b1⟩
theorem vx_callv {S SX : Type} {post : S → Prop} {px : SX → Prop} {B : S → State → Prop} {BX : String → SX → State → Prop} {AX : Nat → Prop} (hr : vx_Run p l e R s m args below meth c H locs cells slots mc ms (F0 m pc ls st0) rest (va_Qv post B A1 a) (vx_X px BX AX) free) (hS : va_S A0 H0 H locs) (hA : ∀ q, q < H.size → A1 q → A0 q) (hf : ∀ q, free q → A0 q) (hAX : ∀ q, q < H.size → AX q → A0 q)
    (kx : ∀ (E : String) (ce : Cell) (q9 : Addr) (u : SX) (t : State) (H1 : Heap) (locs1 : List Loc), t.heap = H1 → s.vm.Alike t.vm → px u → BX E u t → H.size ≤ H1.size → (∀ q : Nat, q < H.size → ¬ AX q → H1[q]? = H[q]?) → va_S A0 H0 H1 locs1 → H1[q9]? = some ce → ce.vm = .none → s.vm.findClass E = some ce.cls → vx_W p l e R s m args below meth c H1 locs1 (cells + mc) (slots + ms) Q (F0 m pc ls rest) q9)
    (kk : ∀ (u : S) (t : State) (H1 : Heap) (locs1 : List Loc), t.heap = H1 → s.vm.Alike t.vm → post u → B u t → H.size ≤ H1.size → (∀ q : Nat, q < H.size → ¬ A1 q → H1[q]? = H[q]?) → va_S A0 H0 H1 locs1 → W p l e R s m args below meth c H1 locs1 (cells + mc) (slots + ms) Q (F0 m (pc + 3) ls (rest))) : W p l e R s m args below meth c H locs cells slots Q (F0 m pc ls st0) := by
  intro T hT X
  rcases hr T hT X with ⟨v, st₀, t, T', L, h0, X', hL, e1, e2, ⟨⟨u, hv, hp, hb⟩, hF⟩, st⟩ | ⟨q, st₀, t, T', L, E, ce, h0, X', hL, e1, e2, ⟨u, hp, hb, hF⟩, hce, hcv, hcl, st⟩
  · cases hv
    obtain ⟨k1, k2, k3⟩ := vx_keep h0 e1 hS hA hf hL hF
    obtain ⟨t2, a1, b1⟩ := kk u t T'.heap (locs ++ L) e1.symm (by rw [← e2]; exact X'.warmed.alike) hp hb k1 k2 k3 T' rfl X'
    exact ⟨t2, st t2 a1, b1⟩
  · obtain ⟨k1, k2, k3⟩ := vx_keep h0 e1 hS hAX hf hL hF
    obtain ⟨t2, a1, b1⟩ := kx E ce q u t T'.heap (locs ++ L) e1.symm (by rw [← e2]; exact X'.warmed.alike) hp hb k1 k2 k3 (by rw [e1]; exact hce) hcv hcl T' rfl X'
    exact ⟨t2, st.trans a1, b1⟩
/-- caught by the row x of this method's table; the rows ahead don't take it -/
theorem vx_catch {own name : String} {E : String} {ce : Cell} {q : Addr} (hown : s.vm.findClass own = some m.cls) (pre : List ExceptionTableEntry) (x : ExceptionTableEntry) (suf : List ExceptionTableEntry) (hsplit : c.exceptionTable.toList = pre ++ x :: suf)
    (hpass : ∀ z ∈ pre, covers z pc = false ∨ (z.catchType ≠ 0 ∧ ∃ nm : String, (Cond.classLink own z.catchType nm).before args s = true ∧ va_Nc E nm s)) (hx : covers x pc = true) (h0 : x.catchType ≠ 0)
    (hlink : (Cond.classLink own x.catchType name).before args s = true) (hcast : (Cond.castable E name).before args s = true) (hcell : H[q]? = some ce) (hv : ce.vm = .none) (hcl : s.vm.findClass E = some ce.cls)
    (kk : W p l e R s m args below meth c H locs cells slots Q (F0 m x.handlerPc ls [.ref q])) : vx_W p l e R s m args below meth c H locs cells slots Q (F0 m pc ls rest) q := by
  intro T hT X
  have hpl : e.platform.magicAccessors = ({} : Platform).magicAccessors := by rw [X.admits.platform]
  obtain ⟨c3, c4, hc3, hc4, hasg⟩ := Cond.castable_spec hcast
  cases Option.some.inj (hc3.symm.trans hcl)
  obtain ⟨c5, hc5, hcl5⟩ := Cond.classLink_spec hown hlink e.platform hpl
  cases Option.some.inj (hc4.symm.trans hc5)
  obtain ⟨vm', X', st⟩ := X.thenCaughtThrough q (g := F0 m pc ls rest) rfl (Steps.refl _) (by rw [hT]; exact hcell) (by rw [hv]; rfl) (by obtain ⟨k9, h9, -⟩ := Vm.findClass_spec hcl; exact ⟨k9, h9⟩) pre x suf hsplit
    (fun z hz => by
      rcases hpass z hz with h | ⟨hz0, nm, hl1, hn1⟩
      · exact Or.inl h
      · obtain ⟨c6, hc6, hcl6⟩ := Cond.classLink_spec hown hl1 e.platform hpl
        obtain ⟨a8, b8, h1, h2, h3⟩ := hn1
        cases Option.some.inj (h1.symm.trans hcl)
        cases Option.some.inj (h2.symm.trans hc6)
        exact Or.inr ⟨hz0, _, hcl6, h3⟩) hx (Or.inr ⟨h0, c4, hcl5, hasg⟩)
  obtain ⟨t, a1, b1⟩ := kk (T.setVm vm') hT X'
  exact ⟨t, st.trans a1, b1⟩
end Rows
section Ends
variable {p : Program} {l : Launch} {e : Env} {R : Room} {s : State} {m : MethodId} {args : Array Value} {below : List Frame} {meth : Method} {c : Code} {H : Heap} {locs : List Loc} {cells slots : Nat} {Q : State → Prop}
variable {mc ms : Nat} {free : Addr → Prop} {A0 A1 : Nat → Prop} {H0 : Heap} {a : Array Value} {ls : Array Slot} {st0 rest : List Value}
variable {Qc : Array Value → State → Outcome → State → Prop} {XC : String → State → State → Prop}
/-- what a body that may throw owes at its end -/
def vx_MQ (below : List Frame) (Qc : Array Value → State → Outcome → State → Prop) (XC : String → State → State → Prop) (a : Array Value) (s : State) (mc ms : Nat) (free : Addr → Prop) : State → Prop := fun t =>
  ∃ o, t.status = .running ∧ Ended t below o ∧ vx_Q Qc XC mc ms free a s o t
theorem vx_ret {g : JFrame} {mc ms : Nat} (k : W p l e R s m args below meth c H locs cells slots (MQ below Qc args s mc ms free) g) : W p l e R s m args below meth c H locs cells slots (vx_MQ below Qc XC args s mc ms free) g := by
  intro T hT X
  obtain ⟨t, a1, o, b1, b2, b3, b4⟩ := k T hT X
  exact ⟨t, a1, o, b1, b2, Or.inl ⟨b3, b4⟩⟩
/-- not caught here: it goes on to the caller -/
theorem vx_widen {g : JFrame} {q : Addr} {k n : Nat} (h1 : cells ≤ k) (h2 : slots ≤ n) (kk : vx_W p l e R s m args below meth c H locs k n Q g q) : vx_W p l e R s m args below meth c H locs cells slots Q g q := fun T hT X => kk T hT (stand_widen X h1 h2)
theorem vx_out {pc : Nat} {E : String} {ce : Cell} {q : Addr} {mc ms : Nat} (hout : ∀ x ∈ c.exceptionTable.toList, covers x pc = false) (hlocks : meth.locks = false) (hcell : H[q]? = some ce) (hv : ce.vm = .none) (hcl : s.vm.findClass E = some ce.cls)
    (hx : ∀ t : State, t.heap = H → s.vm.Alike t.vm → XC E s t) (hf : ∀ z ∈ locs, free z.base) (hc : cells ≤ mc) (hs : slots ≤ ms) :
    vx_W p l e R s m args below meth c H locs cells slots (vx_MQ below Qc XC args s mc ms free) (F0 m pc ls rest) q := by
  intro T hT X
  obtain ⟨st1, hrun, hend, hW, hsm⟩ := X.leaveThrown q (g := F0 m pc ls rest) rfl rfl rfl hout hlocks
  have hcell9 : (T.setFrames (.throwing q :: below)).heap[q]? = some ce := by
    show T.heap[q]? = some ce
    rw [hT]; exact hcell
  exact ⟨_, st1, .threw q, hrun, hend, Or.inr ⟨q, rfl, E, ce, locs, hx _ hT hW.alike, hcell9, hv, hcl, hW, hsm.mono hc hs, hf⟩⟩
theorem vx_frame {U : State} {k n : Nat} (h : s.sameButNew ({ U with vm := s.vm } : State) locs k n) : s.heap.size ≤ U.heap.size ∧ ∀ q : Nat, q < s.heap.size → (∀ z ∈ locs, z.base ≠ q) → U.heap[q]? = s.heap[q]? := by
  obtain ⟨-, h2, -, -, -, h6⟩ := h
  refine ⟨h2, fun q hq hz => ?_⟩
  obtain ⟨c9, e1, e2, e3, e4⟩ := h6 q _ (Array.getElem?_eq_getElem hq)
  have hs : c9.slots = (s.heap[q]).slots := Array.ext_getElem? fun i => e4 i fun hm => hz _ hm rfl
  have h9 : c9 = s.heap[q] := by
    rw [hs] at e2
    exact e2
  have e5 : U.heap[q]? = some c9 := e1
  rw [e5, h9, Array.getElem?_eq_getElem hq]
/-- the words of a throw but the four that speak of the heap -/
def vx_no (w : Cond) : Bool := decide (w ≠ .isRef (.static Bundle.tN "UNASSIGNED_STACK" Bundle.steD)) && decide (w ≠ .isRef (.static Bundle.tN "SUPPRESSED_SENTINEL" Bundle.listD)) && decide (w ≠ .laysStatic Bundle.tN "UNASSIGNED_STACK" Bundle.steD) && decide (w ≠ .laysStatic Bundle.tN "SUPPRESSED_SENTINEL" Bundle.listD)
def vx_at0 (own : String) (ic : Nat) (X : String) (names : List String) : List Cond := (Bundle.ownAtoms0 own ic X names).filter vx_no
def vx_atS (own : String) (ic : Nat) (X : String) (names : List String) : List Cond := (Bundle.ownAtoms own ic X names).filter vx_no
/-- a word that the tables alone decide, or a good one -/
def vx_ot (w : Cond) : Bool := w.onTables || goodWord w
theorem vx_ot_at {args a' : Array Value} {s U : State} {w : Cond} (hW : s.WarmedH U.vm) (hvm : s.vm = U.vm) (hg : vx_ot w = true) (h : w.before args s = true) : w.before a' U = true := by
  simp only [vx_ot, Bool.or_eq_true] at hg
  rcases hg with hg | hg
  · exact va_tabs hg hvm h
  · exact word_at hW (good_of_word hg) h
/-- a list's words: the good ones out of the method's own list, the others by premises of their own -/
theorem vx_hat {args : Array Value} {s : State} {L B : List Cond} (h1 : ∀ w ∈ L.filter goodWord, w.before args s = true) (h2 : ∀ w ∈ L.filter (fun w => !goodWord w), w ∈ B) (h3 : ∀ w ∈ B, w.before args s = true) : ∀ w ∈ L, w.before args s = true := by
  intro w hw
  by_cases g : goodWord w = true
  · exact h1 w (List.mem_filter.mpr ⟨hw, g⟩)
  · refine h3 w (h2 w (List.mem_filter.mpr ⟨hw, ?_⟩))
    show (!goodWord w) = true
    cases hgw : goodWord w
    · rfl
    · exact absurd hgw g
theorem vx_c {args : Array Value} {s : State} {w : Cond} {B : List Cond} (h : w.before args s = true) (t : ∀ w ∈ B, w.before args s = true) : ∀ w' ∈ w :: B, w'.before args s = true := fun w' h' => (List.mem_cons.mp h').elim (fun e => by rw [e]; exact h) (t w')
theorem vx_n {args : Array Value} {s : State} : ∀ w ∈ ([] : List Cond), w.before args s = true := fun _ h => nomatch h
theorem vx_own {args : Array Value} {s : State} {L : List Cond} (h1 : ∀ w ∈ L.filter vx_no, w.before args s = true)
    (hU : (Cond.isRef (.static Bundle.tN "UNASSIGNED_STACK" Bundle.steD)).before args s = true) (hN : (Cond.isRef (.static Bundle.tN "SUPPRESSED_SENTINEL" Bundle.listD)).before args s = true)
    (lU : (Cond.laysStatic Bundle.tN "UNASSIGNED_STACK" Bundle.steD).before args s = true) (lN : (Cond.laysStatic Bundle.tN "SUPPRESSED_SENTINEL" Bundle.listD).before args s = true) : ∀ w ∈ L, w.before args s = true := by
  intro w hw
  by_cases e1 : w = .isRef (.static Bundle.tN "UNASSIGNED_STACK" Bundle.steD)
  · rw [e1]; exact hU
  · by_cases e2 : w = .isRef (.static Bundle.tN "SUPPRESSED_SENTINEL" Bundle.listD)
    · rw [e2]; exact hN
    · by_cases e3 : w = .laysStatic Bundle.tN "UNASSIGNED_STACK" Bundle.steD
      · rw [e3]; exact lU
      · by_cases e4 : w = .laysStatic Bundle.tN "SUPPRESSED_SENTINEL" Bundle.listD
        · rw [e4]; exact lN
        · exact h1 w (List.mem_filter.mpr ⟨hw, by unfold vx_no; rw [decide_eq_true e1, decide_eq_true e2, decide_eq_true e3, decide_eq_true e4]; rfl⟩)
/-- where a static field lies, its class's statics cell in H -/
def vx_L (C n d : String) (A : Nat → Prop) (U : State) (H : Heap) : Prop := ∃ (c : ClassId) (k : Class) (i : Nat) (f : Field) (a : Nat) (cell : Cell), U.vm.findClass C = some c ∧ U.fieldFound? C n d = some (c, k, i, f) ∧ f.isStatic = true ∧ k.statics = some a ∧ H[a]? = some cell ∧ cell.vm.isStatics = true ∧ cell.cls = c ∧ f.slot < cell.slots.size ∧ k.staticTypes[f.slot]? = some f.type ∧ ¬ A a
theorem vx_L.moved {C n d : String} {A : Nat → Prop} {u U : State} {H : Heap} (hvm : u.vm.Alike U.vm) (h : vx_L C n d A u H) : vx_L C n d A U H := by
  obtain ⟨c, k, i, f, a, cell, h1, h2, h3, h4, h5, h6, h7, h8, h9, h10⟩ := h
  obtain ⟨k', hi', he⟩ := State.fieldFound?_setVm hvm h2
  exact ⟨c, k', i, f, a, cell, by rw [hvm.findClass]; exact h1, hi', h3, by rw [he]; exact h4, h5, h6, h7, h8, by rw [he]; exact h9, h10⟩
theorem vx_L.kept {C n d : String} {A : Nat → Prop} {U : State} {H H1 : Heap} (h : vx_L C n d A U H) (hq : ∀ a : Nat, a < H.size → ¬ A a → H1[a]? = H[a]?) : vx_L C n d A U H1 := by
  obtain ⟨c, k, i, f, a, cell, h1, h2, h3, h4, h5, h6, h7, h8, h9, h10⟩ := h
  exact ⟨c, k, i, f, a, cell, h1, h2, h3, h4, by rw [hq a (Array.getElem?_eq_some_iff.mp h5).1 h10]; exact h5, h6, h7, h8, h9, h10⟩
theorem vx_L.narrow {C n d : String} {A B : Nat → Prop} {U : State} {H : Heap} (h : vx_L C n d A U H) (hAB : ∀ q, B q → A q) : vx_L C n d B U H := by
  obtain ⟨c, k, i, f, a, cell, h1, h2, h3, h4, h5, h6, h7, h8, h9, h10⟩ := h
  exact ⟨c, k, i, f, a, cell, h1, h2, h3, h4, h5, h6, h7, h8, h9, fun z => h10 (hAB _ z)⟩
theorem vx_L.word {C n d : String} {A : Nat → Prop} {s : State} {args : Array Value} (h : vx_L C n d A s s.heap) : (Cond.laysStatic C n d).before args s = true := by
  obtain ⟨c, k, i, f, a, cell, h1, h2, h3, h4, h5, h6, h7, h8, h9, -⟩ := h
  show (Cond.laysStatic C n d).holds args s none s [] = true
  exact Cond.laysStatic_of h1 h2 h3 h4 h5 h6 h7 h8 h9
/-- .. and what it holds: null or some reference -/
def vx_Zq (C n d : String) (A : Nat → Prop) (U : State) (H : Heap) : Prop := va_Zq C n d A U H ∧ vx_L C n d A U H
theorem vx_Zq.moved {C n d : String} {A : Nat → Prop} {u U : State} {H : Heap} (hvm : u.vm.Alike U.vm) (h : vx_Zq C n d A u H) : vx_Zq C n d A U H := ⟨va_Zq.moved hvm h.1, vx_L.moved hvm h.2⟩
theorem vx_Zq.kept {C n d : String} {A : Nat → Prop} {U : State} {H H1 : Heap} (h : vx_Zq C n d A U H) (hq : ∀ a : Nat, a < H.size → ¬ A a → H1[a]? = H[a]?) : vx_Zq C n d A U H1 := ⟨va_Zq.kept h.1 hq, vx_L.kept h.2 hq⟩
theorem vx_Zq.narrow {C n d : String} {A B : Nat → Prop} {U : State} {H : Heap} (h : vx_Zq C n d A U H) (hAB : ∀ q, B q → A q) : vx_Zq C n d B U H := ⟨va_Zq.narrow h.1 hAB, vx_L.narrow h.2 hAB⟩
theorem vx_Zqof {args : Array Value} {s : State} {C n d : String} {A : Nat → Prop} (hl : (Cond.laysStatic C n d).before args s = true) (hini : (Cond.initialized C).before args s = true) (h : (Cond.isRef (.static C n d)).before args s = true) (hA : ∀ a : Nat, a < s.heap.size → ¬ A a) : vx_Zq C n d A s s.heap := by
  refine ⟨va_Zqof hl hini h hA, ?_⟩
  obtain ⟨c, k, i, f, a, cell, h1, h2, h3, h4, h5, h6, h7, h8, h9⟩ := Cond.laysStatic_spec hl
  exact ⟨c, k, i, f, a, cell, h1, h2, h3, h4, h5, h6, h7, h8, h9, hA a (Array.getElem?_eq_some_iff.mp h5).1⟩
theorem vx_isRef {C n d : String} {v : Value} {A : Nat → Prop} {s : State} {args : Array Value} (h : va_Z C n d v A s s.heap) (hv : v.isRef = true) : (Cond.isRef (.static C n d)).before args s = true := by
  obtain ⟨cf, kf, fi, f, a, cell, h1, h2, h3, h4, h5, h6, h7, -⟩ := h
  have he : (Term.static C n d).eval args s none [] s = some v := by
    simp [Term.eval, State.fieldNamed?, h1, h2, h4, h5, h6, h7]
  simp only [Cond.before, Cond.holds, Cond.value, he]
  cases v <;> simp_all [Value.isRef]
theorem vx_isRefq {C n d : String} {A : Nat → Prop} {s : State} {args : Array Value} (h : va_Zq C n d A s s.heap) : (Cond.isRef (.static C n d)).before args s = true := by
  rcases h with h | ⟨t, h⟩
  · exact vx_isRef h rfl
  · exact vx_isRef h rfl
/-- the same frame, seen from here: as if the method were called anew in this heap -/
theorem vx_rebase {T : State} (X : Stand p l e R s m args below meth c T locs cells slots) {R' : Room} (hf : R'.frames ≤ R.frames) (hl : R'.locals ≤ R.locals) (hc : cells + R'.cells ≤ R.cells) (hs : slots + R'.slots ≤ R.slots) :
    Stand p l e R' ((T.setVm s.vm).setFrames (.invoking m args :: below)) m args below meth c T [] 0 0 := by
  have htop : (T.setVm s.vm).topJava?.isSome := X.here.top
  have hF : ((T.setVm s.vm).setFrames (.invoking m args :: below)).frames = .invoking m args :: below := State.frames_setFrames _ (State.cur_lt_of_top htop)
  obtain ⟨g₀, hg0⟩ := Option.isSome_iff_exists.mp htop
  obtain ⟨r, hr⟩ := State.topJava?_eq_some.mp hg0
  have hl9 : e.platform.stackLimits (T.setVm s.vm).me = e.platform.stackLimits s.me := X.limits
  have hb9 : (T.setVm s.vm).me.stackBytes = s.me.stackBytes := X.bytes
  refine ⟨X.admits, X.cas, X.clock, hF, ?_, X.hears, X.method, X.code, X.here, X.tail, X.warmed, ?_, ?_, ?_⟩
  · have h := X.room
    have hU : ((T.setVm s.vm).setFrames (.invoking m args :: below)).localsInUse = s.localsInUse := by
      rw [State.localsInUse_invoking hF (meth := meth) (c := c) X.method X.code, State.localsInUse_invoking X.frames X.method X.code]
    simp only [State.hasRoom, Bool.and_eq_true, decide_eq_true_eq] at h ⊢
    obtain ⟨⟨⟨⟨h1, h2, h3, h4, h5, h6⟩, h7⟩, h8⟩, h9⟩ := h
    rw [X.frames, List.length_cons] at h2 h3
    have q1 := X.heapSize
    have q2 := X.used
    simp only [hF, hU, List.length_cons, State.stackLimits_setFrames, State.stackBytes_setFrames, hl9, hb9]
    refine ⟨⟨⟨⟨by omega, by omega, by omega, by omega, by omega, h6⟩, ?_⟩, ?_⟩, X.book⟩
    · show T.heap.size + R'.cells ≤ e.platform.maxCells
      omega
    · show T.slotsUsed + R'.slots ≤ e.platform.maxSlots
      omega
  · rw [State.stackLimits_setFrames]; rfl
  · rw [State.stackBytes_setFrames]; rfl
  · refine ⟨?_, Nat.le_refl _, Nat.le_refl _, ?_, ?_, fun a c9 h9 => ⟨c9, h9, rfl, rfl, fun _ _ => rfl⟩⟩
    · obtain ⟨t, ht, -⟩ := State.frames_cons hr
      show T.setVm s.vm = { ((T.setVm s.vm).setFrames (.invoking m args :: below)).setFrames (T.setVm s.vm).frames with heap := T.heap, slotsUsed := T.slotsUsed }
      rw [State.setFrames_setFrames, State.setFrames_self ht]
      rfl
    · show T.slotsUsed = T.slotsUsed + ((T.heap.toList.drop T.heap.size).map (·.slots.size)).sum
      rw [List.drop_eq_nil_of_le (Nat.le_of_eq Array.length_toList)]
      rfl
    · show ((T.heap.toList.drop T.heap.size).map (·.slots.size)).sum ≤ 0
      rw [List.drop_eq_nil_of_le (Nat.le_of_eq Array.length_toList)]
      exact Nat.le_refl _
/-- 'throw new E()': new; dup; invokespecial; athrow -/
theorem vx_throw0 {cc : ByteArray} {pc : Nat} (hexec : p.tables.exec = Jvm.exec) (hb : c.code = cc) (hl : l.stackTraces = false) {own cls : String} {names : List String} {ik ic mc ms : Nat} {A : Nat → Prop}
    (hown : s.vm.findClass own = some m.cls) (hcls : Bundle.fit cls = true) (hnames : ∀ n ∈ names, Bundle.fit n = true)
    (hk : (Cond.classLink own ik cls).before args s = true) (hini : (Cond.initialized cls).before args s = true) (hat : ∀ w ∈ vx_at0 own ic cls names, w.before args s = true)
    (hgood : ∀ w ∈ Cond.classLink own ik cls :: Cond.initialized cls :: vx_at0 own ic cls names, vx_ot w = true)
    (hU : vx_Zq Bundle.tN "UNASSIGNED_STACK" Bundle.steD A s s.heap) (hN : vx_Zq Bundle.tN "SUPPRESSED_SENTINEL" Bundle.listD A s s.heap) (hS : va_S A s.heap H locs) (hsize : ls.size = c.maxLocals)
    (d0 : decode cc pc = .ok (.new ik, 3)) (d3 : decode cc (pc + 3) = .ok (.dup, 1)) (d4 : decode cc (pc + 4) = .ok (.invokespecial ic, 3)) (d7 : decode cc (pc + 7) = .ok (.athrow, 1))
    (hout : ∀ x ∈ c.exceptionTable.toList, covers x (pc + 7) = false)
    (hRframes : names.length + 3 < R.frames) (hRlocals : (rest.map fun v => v.category).sum + (13 * (names.length + 1) + 42) ≤ R.locals) (hRcells : cells + 1 ≤ R.cells) (hRslots : slots + 6 ≤ R.slots) (hlocks : meth.locks = false)
    (hx : ∀ t : State, s.vm.Alike t.vm → H.size ≤ t.heap.size → (∀ q : Nat, q < H.size → t.heap[q]? = H[q]?) → XC cls s t)
    (hf : ∀ z ∈ locs, free z.base) (hc : cells + 1 ≤ mc) (hs : slots + 6 ≤ ms) :
    W p l e R s m args below meth c H locs cells slots (vx_MQ below Qc XC args s mc ms free) (F0 m pc ls rest) := by
  intro T hT X
  have htr : e.platform.stackTraces = false := (show e.platform.stackTraces = l.stackTraces by rw [X.admits.platform]).trans hl
  have Y := vx_rebase X (R' := { frames := R.frames, locals := R.locals, cells := 1, slots := 6 }) (Nat.le_refl _) (Nat.le_refl _) hRcells hRslots
  obtain ⟨s', hA⟩ : ∃ z, z = (T.setVm s.vm).setFrames (.invoking m args :: below) := ⟨_, rfl⟩
  rw [← hA] at Y
  have hvm : s'.vm = s.vm := by rw [hA]; rfl
  have hhp : s'.heap = H := by rw [hA]; exact hT
  have hW0 : s.WarmedH s'.vm := by rw [hvm]; exact State.WarmedH.refl s
  have hat' : ∀ w ∈ vx_at0 own ic cls names, w.before args s' = true := fun w hw => vx_ot_at hW0 hvm.symm (hgood w (List.mem_cons_of_mem _ (List.mem_cons_of_mem _ hw))) (hat w hw)
  have hk' : (Cond.classLink own ik cls).before args s' = true := vx_ot_at hW0 hvm.symm (hgood _ List.mem_cons_self) hk
  have hini' : (Cond.initialized cls).before args s' = true := vx_ot_at hW0 hvm.symm (hgood _ (List.mem_cons_of_mem _ List.mem_cons_self)) hini
  have hU' : vx_Zq Bundle.tN "UNASSIGNED_STACK" Bundle.steD A s' s'.heap := by rw [hhp]; exact vx_Zq.moved hW0.alike (hU.kept hS.2.1)
  have hN' : vx_Zq Bundle.tN "SUPPRESSED_SENTINEL" Bundle.listD A s' s'.heap := by rw [hhp]; exact vx_Zq.moved hW0.alike (hN.kept hS.2.1)
  have h : ∀ w ∈ Bundle.ownAtoms0 own ic cls names, w.before args s' = true := vx_own hat' (vx_isRefq hU'.1) (vx_isRefq hN'.1) hU'.2.word hN'.2.word
  have hown' : s'.vm.findClass own = some m.cls := by rw [hvm]; exact hown
  have hins : (Cond.instantiable cls 6).before args s' = true := h _ (by simp [Bundle.ownAtoms0])
  obtain ⟨vm₁, cX, kX, hfX, hkX, -, -, X₁, st1⟩ := Y.newCold hexec (own := own) (C := cls) (index := ik) (n := 6) hown' hk' hins hini'
    (g := F0 m pc ls rest) rfl (by rw [hb]; exact d0) (Nat.le_refl _) (Nat.le_refl _)
  generalize hT1 : (T.setVm vm₁).pushCell { cls := cX, slots := kX.instanceTypes.map defaultValue, vm := .none } = T1 at X₁ st1
  have hcat : (Value.ref T.heap.size).category = 1 := rfl
  have hcellA : T1.heap[T.heap.size]? = some (freshCell cX kX) := by rw [← hT1]; exact State.heap_pushCell_size _ _
  have d3' : decode c.code (pc + 3) = .ok (.dup, 1) := by rw [hb]; exact d3
  obtain ⟨U, hsteps, hrun, hend, hW, hsame, ce, hce, hO⟩ := X₁.ctorThrow0 hexec htr (own := own) (cls := cls) (names := names) (ic := ic) hown' hcls hnames h (fun x hx => nomatch hx) hfX hkX hcellA (by rw [hhp, hT]; exact Nat.le_refl _)
    (g := { method := m, pc := pc + 4, locals := ls, stack := .ref T.heap.size :: .ref T.heap.size :: rest, locked := none }) rfl hsize rfl rfl (rest := rest) rfl
    (by rw [hb]; exact d4) (by rw [hb]; exact d7) hout hRframes (by simp only [List.map_cons, List.sum_cons, hcat]; omega) hlocks
  obtain ⟨f1, f2⟩ := vx_frame hsame
  rw [hhp] at f1 f2
  have hWs : s.WarmedH U.vm := State.WarmedH.trans hW0 hW
  have hcl : s.vm.findClass cls = some ce.cls := by
    have h9 := hO.cls
    rw [hvm] at h9
    exact h9
  have hall : s.sameButNew ({ U with vm := s.vm } : State) locs mc ms := by
    subst hA
    obtain ⟨e1, e2⟩ := hsame
    rw [State.setFrames_setFrames] at e1
    have h2 : (T.setVm s.vm).sameButNew ({ U with vm := s.vm } : State) [] (0 + 1) (0 + 6) := ⟨e1, e2⟩
    have h3 := X.same.trans h2
    rw [List.append_nil] at h3
    exact h3.mono hc hs
  refine ⟨U, ?_, .threw T.heap.size, hrun, hend, Or.inr ⟨T.heap.size, rfl, cls, ce, locs, hx U hWs.alike f1 (fun q hq => f2 q hq (fun z hz => nomatch hz)), hce, hO.vm, hcl, hWs, hall, hf⟩⟩
  refine st1 _ ?_
  show Steps p.tables e below (T1.setTop { method := m, pc := pc + 3, locals := ls, stack := .ref T.heap.size :: rest, locked := none }) _
  jvm_step X₁.here [X₁.here.top, hexec, d3', Value.category]
  exact hsteps
/-- 'throw new E("text")': new; dup; ldc; invokespecial; athrow -/
theorem vx_throwS {cc : ByteArray} {pc : Nat} (hexec : p.tables.exec = Jvm.exec) (hb : c.code = cc) (hl : l.stackTraces = false) {own cls text : String} {names : List String} {ik is ic mc ms sa : Nat} {A : Nat → Prop}
    (hown : s.vm.findClass own = some m.cls) (hcls : Bundle.fit cls = true) (hnames : ∀ n ∈ names, Bundle.fit n = true)
    (hk : (Cond.classLink own ik cls).before args s = true) (hini : (Cond.initialized cls).before args s = true) (hstr : vk_R own is text sa s) (hat : ∀ w ∈ vx_atS own ic cls names, w.before args s = true)
    (hgood : ∀ w ∈ Cond.classLink own ik cls :: Cond.initialized cls :: vx_atS own ic cls names, vx_ot w = true)
    (hU : vx_Zq Bundle.tN "UNASSIGNED_STACK" Bundle.steD A s s.heap) (hN : vx_Zq Bundle.tN "SUPPRESSED_SENTINEL" Bundle.listD A s s.heap) (hS : va_S A s.heap H locs) (hsize : ls.size = c.maxLocals)
    (d0 : decode cc pc = .ok (.new ik, 3)) (d3 : decode cc (pc + 3) = .ok (.dup, 1)) (d4 : decode cc (pc + 4) = .ok (.ldc is, 2)) (d6 : decode cc (pc + 6) = .ok (.invokespecial ic, 3)) (d9 : decode cc (pc + 9) = .ok (.athrow, 1))
    (hout : ∀ x ∈ c.exceptionTable.toList, covers x (pc + 9) = false)
    (hRframes : names.length + 3 < R.frames) (hRlocals : (rest.map fun v => v.category).sum + (13 * (names.length + 1) + 43) ≤ R.locals) (hRcells : cells + 1 ≤ R.cells) (hRslots : slots + 6 ≤ R.slots) (hlocks : meth.locks = false)
    (hx : ∀ t : State, s.vm.Alike t.vm → H.size ≤ t.heap.size → (∀ q : Nat, q < H.size → t.heap[q]? = H[q]?) → XC cls s t)
    (hf : ∀ z ∈ locs, free z.base) (hc : cells + 1 ≤ mc) (hs : slots + 6 ≤ ms) :
    W p l e R s m args below meth c H locs cells slots (vx_MQ below Qc XC args s mc ms free) (F0 m pc ls rest) := by
  intro T hT X
  have htr : e.platform.stackTraces = false := (show e.platform.stackTraces = l.stackTraces by rw [X.admits.platform]).trans hl
  have Y := vx_rebase X (R' := { frames := R.frames, locals := R.locals, cells := 1, slots := 6 }) (Nat.le_refl _) (Nat.le_refl _) hRcells hRslots
  obtain ⟨s', hA⟩ : ∃ z, z = (T.setVm s.vm).setFrames (.invoking m args :: below) := ⟨_, rfl⟩
  rw [← hA] at Y
  have hvm : s'.vm = s.vm := by rw [hA]; rfl
  have hhp : s'.heap = H := by rw [hA]; exact hT
  have hW0 : s.WarmedH s'.vm := by rw [hvm]; exact State.WarmedH.refl s
  have hat' : ∀ w ∈ vx_atS own ic cls names, w.before args s' = true := fun w hw => vx_ot_at hW0 hvm.symm (hgood w (List.mem_cons_of_mem _ (List.mem_cons_of_mem _ hw))) (hat w hw)
  have hk' : (Cond.classLink own ik cls).before args s' = true := vx_ot_at hW0 hvm.symm (hgood _ List.mem_cons_self) hk
  have hini' : (Cond.initialized cls).before args s' = true := vx_ot_at hW0 hvm.symm (hgood _ (List.mem_cons_of_mem _ List.mem_cons_self)) hini
  have hU' : vx_Zq Bundle.tN "UNASSIGNED_STACK" Bundle.steD A s' s'.heap := by rw [hhp]; exact vx_Zq.moved hW0.alike (hU.kept hS.2.1)
  have hN' : vx_Zq Bundle.tN "SUPPRESSED_SENTINEL" Bundle.listD A s' s'.heap := by rw [hhp]; exact vx_Zq.moved hW0.alike (hN.kept hS.2.1)
  have h : ∀ w ∈ Bundle.ownAtoms own ic cls names, w.before args s' = true := vx_own hat' (vx_isRefq hU'.1) (vx_isRefq hN'.1) hU'.2.word hN'.2.word
  have hown' : s'.vm.findClass own = some m.cls := by rw [hvm]; exact hown
  have hins : (Cond.instantiable cls 6).before args s' = true := h _ (by simp [Bundle.ownAtoms])
  obtain ⟨vm₁, cX, kX, hfX, hkX, -, -, X₁, st1⟩ := Y.newCold hexec (own := own) (C := cls) (index := ik) (n := 6) hown' hk' hins hini'
    (g := F0 m pc ls rest) rfl (by rw [hb]; exact d0) (Nat.le_refl _) (Nat.le_refl _)
  generalize hT1 : (T.setVm vm₁).pushCell { cls := cX, slots := kX.instanceTypes.map defaultValue, vm := .none } = T1 at X₁ st1
  have hcat : (Value.ref T.heap.size).category = 1 := rfl
  have hcellA : T1.heap[T.heap.size]? = some (freshCell cX kX) := by rw [← hT1]; exact State.heap_pushCell_size _ _
  have d3' : decode c.code (pc + 3) = .ok (.dup, 1) := by rw [hb]; exact d3
  have d4' : decode c.code (pc + 4) = .ok (.ldc is, 2) := by rw [hb]; exact d4
  have hstr' : vk_R own is text sa s' := vk_R.warm hW0 hstr
  obtain ⟨U, hsteps, hrun, hend, hW, hsame, ce, hce, hO⟩ := X₁.ctorThrowS hexec htr (own := own) (cls := cls) (names := names) (ic := ic) hown' hcls hnames h (fun x hx => nomatch hx) hfX hkX hcellA (by rw [hhp, hT]; exact Nat.le_refl _) (msg := .ref sa) rfl
    (g := { method := m, pc := pc + 6, locals := ls, stack := .ref sa :: .ref T.heap.size :: .ref T.heap.size :: rest, locked := none }) rfl hsize rfl rfl (rest := rest) rfl
    (by rw [hb]; exact d6) (by rw [hb]; exact d9) hout hRframes (by simp only [List.map_cons, List.sum_cons, hcat]; omega) hlocks
  obtain ⟨f1, f2⟩ := vx_frame hsame
  rw [hhp] at f1 f2
  have hWs : s.WarmedH U.vm := State.WarmedH.trans hW0 hW
  have hcl : s.vm.findClass cls = some ce.cls := by
    have h9 := hO.cls
    rw [hvm] at h9
    exact h9
  have hall : s.sameButNew ({ U with vm := s.vm } : State) locs mc ms := by
    subst hA
    obtain ⟨e1, e2⟩ := hsame
    rw [State.setFrames_setFrames] at e1
    have h2 : (T.setVm s.vm).sameButNew ({ U with vm := s.vm } : State) [] (0 + 1) (0 + 6) := ⟨e1, e2⟩
    have h3 := X.same.trans h2
    rw [List.append_nil] at h3
    exact h3.mono hc hs
  refine ⟨U, ?_, .threw T.heap.size, hrun, hend, Or.inr ⟨T.heap.size, rfl, cls, ce, locs, hx U hWs.alike f1 (fun q hq => f2 q hq (fun z hz => nomatch hz)), hce, hO.vm, hcl, hWs, hall, hf⟩⟩
  refine st1 _ ?_
  show Steps p.tables e below (T1.setTop { method := m, pc := pc + 3, locals := ls, stack := .ref T.heap.size :: rest, locked := none }) _
  jvm_step X₁.here [X₁.here.top, hexec, d3', Value.category]
  exact X₁.ldcString hexec (own := own) (text := text) (index := is) (a := sa) hown' hstr'.1 hstr'.2
    (g := { method := m, pc := pc + 4, locals := ls, stack := .ref T.heap.size :: .ref T.heap.size :: rest, locked := none }) rfl d4' _ hsteps
/-- 'throw new E("text")', the text by a wide index -/
theorem vx_throwSW {cc : ByteArray} {pc : Nat} (hexec : p.tables.exec = Jvm.exec) (hb : c.code = cc) (hl : l.stackTraces = false) {own cls text : String} {names : List String} {ik is ic mc ms sa : Nat} {A : Nat → Prop}
    (hown : s.vm.findClass own = some m.cls) (hcls : Bundle.fit cls = true) (hnames : ∀ n ∈ names, Bundle.fit n = true)
    (hk : (Cond.classLink own ik cls).before args s = true) (hini : (Cond.initialized cls).before args s = true) (hstr : vk_R own is text sa s) (hat : ∀ w ∈ vx_atS own ic cls names, w.before args s = true)
    (hgood : ∀ w ∈ Cond.classLink own ik cls :: Cond.initialized cls :: vx_atS own ic cls names, vx_ot w = true)
    (hU : vx_Zq Bundle.tN "UNASSIGNED_STACK" Bundle.steD A s s.heap) (hN : vx_Zq Bundle.tN "SUPPRESSED_SENTINEL" Bundle.listD A s s.heap) (hS : va_S A s.heap H locs) (hsize : ls.size = c.maxLocals)
    (d0 : decode cc pc = .ok (.new ik, 3)) (d3 : decode cc (pc + 3) = .ok (.dup, 1)) (d4 : decode cc (pc + 4) = .ok (.ldc_w is, 3)) (d7 : decode cc (pc + 7) = .ok (.invokespecial ic, 3)) (d10 : decode cc (pc + 10) = .ok (.athrow, 1))
    (hout : ∀ x ∈ c.exceptionTable.toList, covers x (pc + 10) = false)
    (hRframes : names.length + 3 < R.frames) (hRlocals : (rest.map fun v => v.category).sum + (13 * (names.length + 1) + 43) ≤ R.locals) (hRcells : cells + 1 ≤ R.cells) (hRslots : slots + 6 ≤ R.slots) (hlocks : meth.locks = false)
    (hx : ∀ t : State, s.vm.Alike t.vm → H.size ≤ t.heap.size → (∀ q : Nat, q < H.size → t.heap[q]? = H[q]?) → XC cls s t)
    (hf : ∀ z ∈ locs, free z.base) (hc : cells + 1 ≤ mc) (hs : slots + 6 ≤ ms) :
    W p l e R s m args below meth c H locs cells slots (vx_MQ below Qc XC args s mc ms free) (F0 m pc ls rest) := by
  intro T hT X
  have htr : e.platform.stackTraces = false := (show e.platform.stackTraces = l.stackTraces by rw [X.admits.platform]).trans hl
  have Y := vx_rebase X (R' := { frames := R.frames, locals := R.locals, cells := 1, slots := 6 }) (Nat.le_refl _) (Nat.le_refl _) hRcells hRslots
  obtain ⟨s', hA⟩ : ∃ z, z = (T.setVm s.vm).setFrames (.invoking m args :: below) := ⟨_, rfl⟩
  rw [← hA] at Y
  have hvm : s'.vm = s.vm := by rw [hA]; rfl
  have hhp : s'.heap = H := by rw [hA]; exact hT
  have hW0 : s.WarmedH s'.vm := by rw [hvm]; exact State.WarmedH.refl s
  have hat' : ∀ w ∈ vx_atS own ic cls names, w.before args s' = true := fun w hw => vx_ot_at hW0 hvm.symm (hgood w (List.mem_cons_of_mem _ (List.mem_cons_of_mem _ hw))) (hat w hw)
  have hk' : (Cond.classLink own ik cls).before args s' = true := vx_ot_at hW0 hvm.symm (hgood _ List.mem_cons_self) hk
  have hini' : (Cond.initialized cls).before args s' = true := vx_ot_at hW0 hvm.symm (hgood _ (List.mem_cons_of_mem _ List.mem_cons_self)) hini
  have hU' : vx_Zq Bundle.tN "UNASSIGNED_STACK" Bundle.steD A s' s'.heap := by rw [hhp]; exact vx_Zq.moved hW0.alike (hU.kept hS.2.1)
  have hN' : vx_Zq Bundle.tN "SUPPRESSED_SENTINEL" Bundle.listD A s' s'.heap := by rw [hhp]; exact vx_Zq.moved hW0.alike (hN.kept hS.2.1)
  have h : ∀ w ∈ Bundle.ownAtoms own ic cls names, w.before args s' = true := vx_own hat' (vx_isRefq hU'.1) (vx_isRefq hN'.1) hU'.2.word hN'.2.word
  have hown' : s'.vm.findClass own = some m.cls := by rw [hvm]; exact hown
  have hins : (Cond.instantiable cls 6).before args s' = true := h _ (by simp [Bundle.ownAtoms])
  obtain ⟨vm₁, cX, kX, hfX, hkX, -, -, X₁, st1⟩ := Y.newCold hexec (own := own) (C := cls) (index := ik) (n := 6) hown' hk' hins hini'
    (g := F0 m pc ls rest) rfl (by rw [hb]; exact d0) (Nat.le_refl _) (Nat.le_refl _)
  generalize hT1 : (T.setVm vm₁).pushCell { cls := cX, slots := kX.instanceTypes.map defaultValue, vm := .none } = T1 at X₁ st1
  have hcat : (Value.ref T.heap.size).category = 1 := rfl
  have hcellA : T1.heap[T.heap.size]? = some (freshCell cX kX) := by rw [← hT1]; exact State.heap_pushCell_size _ _
  have d3' : decode c.code (pc + 3) = .ok (.dup, 1) := by rw [hb]; exact d3
  have d4' : decode c.code (pc + 4) = .ok (.ldc_w is, 3) := by rw [hb]; exact d4
  have hstr' : vk_R own is text sa s' := vk_R.warm hW0 hstr
  obtain ⟨U, hsteps, hrun, hend, hW, hsame, ce, hce, hO⟩ := X₁.ctorThrowS hexec htr (own := own) (cls := cls) (names := names) (ic := ic) hown' hcls hnames h (fun x hx => nomatch hx) hfX hkX hcellA (by rw [hhp, hT]; exact Nat.le_refl _) (msg := .ref sa) rfl
    (g := { method := m, pc := pc + 7, locals := ls, stack := .ref sa :: .ref T.heap.size :: .ref T.heap.size :: rest, locked := none }) rfl hsize rfl rfl (rest := rest) rfl
    (by rw [hb]; exact d7) (by rw [hb]; exact d10) hout hRframes (by simp only [List.map_cons, List.sum_cons, hcat]; omega) hlocks
  obtain ⟨f1, f2⟩ := vx_frame hsame
  rw [hhp] at f1 f2
  have hWs : s.WarmedH U.vm := State.WarmedH.trans hW0 hW
  have hcl : s.vm.findClass cls = some ce.cls := by
    have h9 := hO.cls
    rw [hvm] at h9
    exact h9
  have hall : s.sameButNew ({ U with vm := s.vm } : State) locs mc ms := by
    subst hA
    obtain ⟨e1, e2⟩ := hsame
    rw [State.setFrames_setFrames] at e1
    have h2 : (T.setVm s.vm).sameButNew ({ U with vm := s.vm } : State) [] (0 + 1) (0 + 6) := ⟨e1, e2⟩
    have h3 := X.same.trans h2
    rw [List.append_nil] at h3
    exact h3.mono hc hs
  refine ⟨U, ?_, .threw T.heap.size, hrun, hend, Or.inr ⟨T.heap.size, rfl, cls, ce, locs, hx U hWs.alike f1 (fun q hq => f2 q hq (fun z hz => nomatch hz)), hce, hO.vm, hcl, hWs, hall, hf⟩⟩
  refine st1 _ ?_
  show Steps p.tables e below (T1.setTop { method := m, pc := pc + 3, locals := ls, stack := .ref T.heap.size :: rest, locked := none }) _
  jvm_step X₁.here [X₁.here.top, hexec, d3', Value.category]
  exact X₁.ldcStringW hexec (own := own) (text := text) (index := is) (a := sa) hown' hstr'.1 hstr'.2
    (g := { method := m, pc := pc + 4, locals := ls, stack := .ref T.heap.size :: .ref T.heap.size :: rest, locked := none }) rfl d4' _ hsteps
end Ends
section Bodies
variable {l : Launch}
theorem vx_ofW {y : MethodName} {ws ws' : List Cond} {rm : Room} {Pc : Array Value → State → Prop} {Qc : Array Value → State → Outcome → State → Prop} {XC : String → State → State → Prop} {mc ms : Nat} {free : Addr → Prop} {cc : ByteArray} {maxL : Nat} {ret : Option FieldType}
    (hy : plainName y.cls = true) (hw : ws = Cond.code y cc maxL ret :: ws')
    (body : ∀ p e s m args below meth c s₁, BodyLoose p l y (headSpec ws rm) cc maxL ret e s m args below meth c s₁ → c.maxLocals = maxL → (∀ x ∈ c.exceptionTable.toList, False) → Pc args s →
      W p l e (headSpec ws rm).room s m args below meth c s.heap [] 0 0 (vx_MQ below Qc XC args s mc ms free) (entryFrame m args maxL)) : vx_Met l y ws rm Pc Qc XC mc ms free := by
  refine MetFree.of_bodyS (code := cc) (maxLocals := maxL) (ret := ret) hy ?_ ?_
  · intro args s m h hn
    obtain ⟨meth, c, h1, h2, h3, h4, h5, h6, -, -⟩ := Cond.code_spec hn (atoms_spec (ws := ws) h _ (by rw [hw]; exact List.mem_cons_self))
    exact ⟨meth, c, h1, h2, h3, h4, h5, h6⟩
  · intro p e s m args below meth c s₁ B hml hP _
    have hh0 : s₁.heap = s.heap := by rw [B.state]; rfl
    have ht : ∀ x ∈ c.exceptionTable.toList, False := by
      obtain ⟨meth9, c9, h1, h2, -, -, -, -, h7, -⟩ := Cond.code_spec B.named (atoms_spec (ws := ws) B.pre _ (by rw [hw]; exact List.mem_cons_self))
      cases Option.some.inj (h1.symm.trans B.method)
      cases Option.some.inj (h2.symm.trans (Stand.of_body B).code)
      intro x hx
      rw [Array.isEmpty_iff.mp h7] at hx
      cases hx
    obtain ⟨t, a1, o, b1, b2, b3⟩ := body p e s m args below meth c s₁ B hml ht hP s₁ hh0 (Stand.of_body B)
    exact ⟨t, o, a1, b1, b2, b3⟩
/-- the table of a body with handlers -/
theorem vx_table {p : Program} {x y : MethodName} {S : Spec} {cc bytes : ByteArray} {maxL maxL' : Nat} {ret ret' : Option FieldType} {e : Env} {s s₁ : State} {m : MethodId} {args : Array Value} {below : List Frame} {meth : Method} {c : Code} {hh : List (Nat × Nat × Nat × Nat)}
    (B : BodyLoose p l y S cc maxL ret e s m args below meth c s₁) (h : (Cond.codeWith y bytes maxL' ret' hh).before args s = true) : c.exceptionTable.toList = tableOf hh := by
  obtain ⟨m9, meth9, c9, hn9, h1, h2, -, -, h6, -⟩ := Cond.codeWith_spec h
  cases Option.some.inj (hn9.symm.trans B.named)
  cases Option.some.inj (h1.symm.trans B.method)
  cases Option.some.inj (h2.symm.trans (Stand.of_body B).code)
  rw [← h6, table_eq]
end Bodies
end VXA
/-! ===== END ===== -/
/-! ===== BEGIN a static call of a method with an exception table ===== -/
section VXS
variable {p : Program} {l : Launch} {e : Env} {R : Room} {s : State} {m : MethodId} {args : Array Value} {below : List Frame} {meth : Method} {c : Code} {T : State} {H : Heap} {locs : List Loc} {cells slots : Nat}
abbrev vx_CSW (R : Room) (s : State) (args : Array Value) (own : String) (index : Nat) (y : MethodName) (bytes : ByteArray) (maxL : Nat) (ret : Option FieldType) (hh : List (Nat × Nat × Nat × Nat)) (ws : List Cond) (rm : Room) (mc ms n : Nat) : Prop :=
  (rm.cells = mc ∧ rm.slots = ms ∧ rm.frames + 1 ≤ R.frames ∧ 8 + (maxL + 11) + rm.locals ≤ R.locals ∧ (∀ w ∈ ws, ∀ (a' : Array Value) (U : State), s.WarmedH U.vm → w.before a' U = true) ∧ Cond.codeWith y bytes maxL ret hh ∈ ws) ∧
  (Cond.codeWith y bytes maxL ret hh).before args s = true ∧ (Cond.initialized y.cls).before args s = true ∧ (y.cls ≠ "java/lang/invoke/MethodHandle" ∧ y.cls ≠ "java/lang/invoke/VarHandle") ∧
  (∀ sig, parseMethodDescriptor y.desc = some sig → n = sig.parameters.length) ∧ (Cond.methodLink own index y).before args s = true ∧ (Cond.static y).before args s = true
theorem vx_cwSW {own : String} {index maxL mc ms : Nat} {y : MethodName} {bytes : ByteArray} {ret : Option FieldType} {hh : List (Nat × Nat × Nat × Nat)} {Ts ws ws' : List Cond} {rm : Room} (n : Nat) (ht : ∀ w ∈ Ts, w.before args s = true) (hT : GoodIn Ts (va_wsS own index y ws)) (hw : ws = Cond.codeWith y bytes maxL ret hh :: ws') (hrc : rm.cells = mc) (hrs : rm.slots = ms)
    (hd : y.cls ≠ "java/lang/invoke/MethodHandle" ∧ y.cls ≠ "java/lang/invoke/VarHandle" ∧ (parseMethodDescriptor y.desc).map (fun d => d.parameters.length) = some n) (hR : rm.frames + 1 ≤ R.frames ∧ 8 + (maxL + 11) + rm.locals ≤ R.locals) :
    vx_CSW R s args own index y bytes maxL ret hh ws rm mc ms n := by
  have ok : ∀ w ∈ va_wsS own index y ws, w.before args s = true := fun w h => ht w (hT w h).1
  have hG : GoodIn Ts ws := fun w h => hT w (by unfold va_wsS; exact List.mem_append_right _ h)
  have hc : Cond.codeWith y bytes maxL ret hh ∈ ws := by rw [hw]; exact List.mem_cons_self
  refine ⟨⟨hrc, hrs, hR.1, hR.2, pay_in ht hG, hc⟩, ht _ (hG _ hc).1, ok _ (by simp [va_wsS]), ⟨hd.1, hd.2.1⟩, fun sig h => ?_, ok _ (by simp [va_wsS]), ok _ (by simp [va_wsS])⟩
  have h2 := hd.2.2
  rw [h] at h2
  exact (Option.some.inj h2).symm
theorem vx_callSW (X : Stand p l e R s m args below meth c T locs cells slots) (hexec : p.tables.exec = Jvm.exec) {own : String} {index : Nat} {y : MethodName} {bytes : ByteArray} {maxL : Nat} {ret : Option FieldType} {hh : List (Nat × Nat × Nat × Nat)}
    (hown : s.vm.findClass own = some m.cls) (hlink : (Cond.methodLink own index y).before args s = true) (hstat : (Cond.static y).before args s = true) (hinit : (Cond.initialized y.cls).before args s = true)
    (hcode : (Cond.codeWith y bytes maxL ret hh).before args s = true) (hy : y.cls ≠ "java/lang/invoke/MethodHandle" ∧ y.cls ≠ "java/lang/invoke/VarHandle")
    {W9 : Nat} {Pre : Pt → Array Value → Prop} {Post : Pt → Array Value → Option Value → Pt → Prop} (hK : Back l R p e below s args y 3 W9 Pre Post)
    {g : JFrame} (hg : g.method = m) (hsize : g.locals.size = c.maxLocals) {argsL rest : List Value} (hlen : ∀ sig, parseMethodDescriptor y.desc = some sig → argsL.length = sig.parameters.length)
    (hstack : g.stack = argsL.reverse ++ rest) (hW : 2 * g.monitorRoom + (rest.map fun v => v.category).sum ≤ W9) (hdg : decode c.code g.pc = .ok (.invokestatic index, 3))
    (hpre : ∀ vm₁, s.WarmedH vm₁ → Pre ⟨T.setVm vm₁, locs, cells, slots⟩ argsL.toArray) :
    ∃ (v : Option Value) (vm₁ : Vm) (B : Pt), s.WarmedH vm₁ ∧ Stand p l e R s m args below meth c B.U B.locs B.cells B.slots ∧ Post ⟨T.setVm vm₁, locs, cells, slots⟩ argsL.toArray v B ∧
      ∀ target, Steps p.tables e below (B.U.setTop { g with pc := g.pc + 3, stack := v.toList ++ rest }) target → Steps p.tables e below (T.setTop g) target := by
  obtain ⟨mk, methM, cM, hnamed, hmethM, -, -, -, -, -, -, hsigM⟩ := Cond.codeWith_spec hcode
  have hstatic : methM.isStatic = true := Cond.static_spec hnamed hmethM hstat
  obtain ⟨kP, hkP, -⟩ := className_of_methodNamed hnamed
  have hinitP : kP.init = .initialized := Cond.initialized_spec (findClass_of_methodNamed hnamed) hkP hinit
  obtain ⟨vm₁, X₁, hstep₁⟩ := X.invokestatic hexec hown hlink hnamed hmethM hstatic hkP hinitP hy (g := g) hg (argsL := argsL) (rest := rest) (hlen _ hsigM) hstack hdg
  obtain ⟨v, B, X', hpost, hsteps⟩ := hK m meth c ⟨T.setVm vm₁, locs, cells, slots⟩ { g with stack := rest } (.invokestatic index) mk argsL.toArray X₁ hg hsize hdg hW (X₁.named hnamed) (hpre vm₁ X₁.warmed)
  exact ⟨v, vm₁, B, X₁.warmed, X', hpost, fun target h => hstep₁ _ fun acts => by rw [doInvoke_state]; exact hsteps.trans h⟩
theorem vx_runSW {y : MethodName} {bytes cc : ByteArray} {maxL nL mc ms n index : Nat} {ret : Option FieldType} {hh : List (Nat × Nat × Nat × Nat)} {ws : List Cond} {rm : Room} {Pc : Array Value → State → Prop} {Qc : Array Value → State → Outcome → State → Prop} {free : Addr → Prop} {Ts : List Cond} {own : String} {As rest : List Value} {g : JFrame}
    (S : CallFix p m c cc nL s args Ts own) (hM : Met l y ws rm Pc Qc mc ms free) (cw : vx_CSW R s args own index y bytes maxL ret hh ws rm mc ms n) (hp : PreS s H Pc As)
    (hg : g.method = m) (hn : As.length = n) (hsize : g.locals.size = nL) (hstack : g.stack = As.reverse ++ rest) (hW : 2 * g.monitorRoom + (rest.map fun v => v.category).sum ≤ 8) (hdg : decode cc g.pc = .ok (.invokestatic index, 3)) (hf : cells + mc ≤ R.cells ∧ slots + ms ≤ R.slots) :
    va_Run p l e R s m args below meth c H locs cells slots mc ms g rest (Qc As.toArray) (free) := by
  obtain ⟨⟨hrc, hrs, hfr, hlo, hws, hcw⟩, hcode, hini, hy, hlen, hl, hstt⟩ := cw
  have hK : Back l R p e below s args y 3 8 (PreOf R mc ms Pc) (PostOf Qc mc ms free) := va_backW (hh := hh) (bytes := bytes) (maxL := maxL) (ret := ret) hM hp.1 hrc hrs hfr hlo hws hcw (fun a' U hW => word_at hW (Or.inl (by first | rfl | simp [Cond.onTables, Cond.keeps, Cond.steady])) hini)
  obtain ⟨hx, hb, hml, ho, -⟩ := S
  intro T hT X
  obtain ⟨v, vm₁, ⟨U', l2, c2, s2⟩, hW₁, X', ⟨g', mk, t, L, e1, e2, hq, h1, hL, h2, h3⟩, st⟩ := vx_callSW X hx (hh := hh) (bytes := bytes) (maxL := maxL) (ret := ret) ho hl hstt hini hcode hy hK hg (hsize.trans hml.symm) (argsL := As) (rest := rest) (fun sig h => hn.trans (hlen sig h)) hstack hW (by rw [hb]; exact hdg)
    (fun vm₁ hW₁ => ⟨hf.1, hf.2, hp.2 (T.setVm vm₁) hT hW₁⟩)
  dsimp only [Pt.U, Pt.locs, Pt.cells, Pt.slots] at X' e1 e2 h1 h2 h3 st
  subst h1; subst h2; subst h3
  exact ⟨v, (T.setVm vm₁).calling g' mk As.toArray, t, U', L, hT, X', hL, e1, e2, hq, st⟩
/-- not caught here, past rows that name other classes: it goes on to the caller -/
theorem vx_outP {p : Program} {l : Launch} {e : Env} {R : Room} {s : State} {m : MethodId} {args : Array Value} {below : List Frame} {meth : Method} {c : Code} {H : Heap} {locs : List Loc} {cells slots : Nat} {free : Addr → Prop} {ls : Array Slot} {rest : List Value} {Qc : Array Value → State → Outcome → State → Prop} {XC : String → State → State → Prop}
    {pc : Nat} {own E : String} {ce : Cell} {q : Addr} {mc ms : Nat} (hown : s.vm.findClass own = some m.cls) (hlocks : meth.locks = false)
    (hpass : ∀ z ∈ c.exceptionTable.toList, covers z pc = false ∨ (z.catchType ≠ 0 ∧ ∃ nm : String, (Cond.classLink own z.catchType nm).before args s = true ∧ va_Nc E nm s)) (hcell : H[q]? = some ce) (hv : ce.vm = .none) (hcl : s.vm.findClass E = some ce.cls)
    (hx : ∀ t : State, t.heap = H → s.vm.Alike t.vm → XC E s t) (hf : ∀ z ∈ locs, free z.base) (hc : cells ≤ mc) (hs : slots ≤ ms) :
    vx_W p l e R s m args below meth c H locs cells slots (vx_MQ below Qc XC args s mc ms free) (F0 m pc ls rest) q := by
  intro T hT X
  have hpl : e.platform.magicAccessors = ({} : Platform).magicAccessors := by rw [X.admits.platform]
  obtain ⟨vm', hW', X', st⟩ := X.outThrough hlocks q (g := F0 m pc ls rest) rfl rfl rfl (cell := ce) (by rw [hT]; exact hcell) (by rw [hv]; rfl)
    (by obtain ⟨k9, h9, -⟩ := Vm.findClass_spec hcl; exact ⟨k9, h9⟩) (fun z hz => by
      rcases hpass z hz with h | ⟨hz0, nm, hl1, hn1⟩
      · exact Or.inl h
      · obtain ⟨c6, hc6, hcl6⟩ := Cond.classLink_spec hown hl1 e.platform hpl
        obtain ⟨a8, b8, h1, h2, h3⟩ := hn1
        cases Option.some.inj (h1.symm.trans hcl)
        cases Option.some.inj (h2.symm.trans hc6)
        exact Or.inr ⟨hz0, _, hcl6, h3⟩)
  obtain ⟨g₀, hfr⟩ := X'.frames_eq
  have hcell9 : ((T.setVm vm').setFrames (.throwing q :: below)).heap[q]? = some ce := by
    show T.heap[q]? = some ce
    rw [hT]; exact hcell
  have hend : Ended ((T.setVm vm').setFrames (.throwing q :: below)) below (.threw q) := State.frames_setFrames _ (State.cur_lt_of_frames hfr)
  refine ⟨(T.setVm vm').setFrames (.throwing q :: below), ?_, .threw q, X'.here.running, hend, Or.inr ⟨q, rfl, E, ce, locs, hx _ hT (X'.ends _).1.alike, hcell9, hv, hcl, (X'.ends _).1, (X'.ends _).2.mono hc hs, hf⟩⟩
  rw [X.pushThrowing_eq]
  exact st
/-- a thing of a world lies in the heap -/
theorem vx_lt {D : va_G} {cl : List vw_C} {ws : va_W} {H1 : Heap} (h : va_P D cl ws H1) {k : Nat} {q : Nat × va_E} (hk : ws[k]? = some q) : q.1 < H1.size := (h k q hk).lt
end VXS
/-! ===== END ===== -/
/-! ===== BEGIN methods with a table of their own: called by a name, returning or throwing ===== -/
section VXH
/-! vx_backW, vx_callVX, vx_callSX, vx_callVW, vx_runVW, vx_runVX, vx_runSX, vx_ofWH follow the same proofs as their sisters above (Free/Laws.lean, Shelf42/LK1.lean); vx_outP calls Shelf42/NT130.lean (outThrough). -/
section
variable {l : Launch} {R : Room} {p : Program} {e : Env} {below : List Frame} {s : State} {sargs : Array Value} {y : MethodName} {len W9 : Nat}
theorem vx_backW {ws : List Cond} {rm : Room} {Pc : Array Value → State → Prop} {Qc : Array Value → State → Outcome → State → Prop} {XC : String → State → State → Prop} {mc ms : Nat} {free : Addr → Prop} {bytes : ByteArray} {maxL : Nat} {ret : Option FieldType} {hh : List (Nat × Nat × Nat × Nat)}
    (hM : vx_Met l y ws rm Pc Qc XC mc ms free) (hblind : FrameBlind Pc) (hrc : rm.cells = mc) (hrs : rm.slots = ms)
    (hframes : rm.frames + 1 ≤ R.frames) (hlocals : W9 + (maxL + 11) + rm.locals ≤ R.locals)
    (hws : ∀ w ∈ ws, ∀ a' U, s.WarmedH U.vm → w.before a' U = true) (hcode : Cond.codeWith y bytes maxL ret hh ∈ ws) (hinit : ∀ a' U, s.WarmedH U.vm → (Cond.initialized y.cls).before a' U = true) :
    vx_Back l R p e below s sargs y len W9 (PreOf R mc ms Pc) (PostOf Qc mc ms free) (vx_Post XC mc ms free) := by
  intro m meth c A g ig mk a X hg hsize hdg hW hn hp
  have h1 : (headSpec ws rm).pre.before a A.U = true := atoms_intro fun w hw => hws w hw _ _ X.warmed
  have h2 : (Cond.codeWith y bytes maxL ret hh).before a A.U = true := hws _ hcode _ _ X.warmed
  have h3 : (Cond.initialized y.cls).before a A.U = true := hinit _ _ X.warmed
  have h4 : A.cells + (headSpec ws rm).room.cells ≤ R.cells := by rw [show (headSpec ws rm).room.cells = mc from hrc]; exact hp.1
  have h5 : A.slots + (headSpec ws rm).room.slots ≤ R.slots := by rw [show (headSpec ws rm).room.slots = ms from hrs]; exact hp.2.1
  have hPc : Pc a (A.U.calling g mk a) := hblind _ _ _ _ hp.2.2
  obtain ⟨U, Ls, c0, s0⟩ := A
  dsimp only [Pt.U, Pt.locs, Pt.cells, Pt.slots] at h1 h2 h3 h4 h5 X hn hPc ⊢
  obtain ⟨m9, methY, cY, hn9, hmY, hcY, -, hlY, -⟩ := Cond.codeWith_spec h2
  cases Option.some.inj (hn9.symm.trans hn)
  obtain ⟨kY, hkY, -⟩ := className_of_methodNamed hn
  have hinitY : kY.init = .initialized := Cond.initialized_spec (findClass_of_methodNamed hn) hkY h3
  have h : At U g.method c below := by rw [hg]; exact X.here
  have hlocals9 : W9 + (maxL + 11) + (headSpec ws rm).room.locals ≤ R.locals := hlocals
  have happ : (headSpec ws rm).appliesLoose y e.platform (U.calling g mk a) = true :=
    Spec.appliesLoose_calling (g := g) h hdg hn hkY hinitY
      (X.room_calling (g := g) (R' := (headSpec ws rm).room) hsize hmY hcY hframes (by rw [hlY]; omega) h4 h5) h1
  obtain ⟨mid, hmid⟩ := h.above
  have hfr : (U.setTop g).frames = (.java g :: mid) ++ below := by rw [State.frames_setTop' g h.top, hmid]; rfl
  obtain ⟨o, s₂, hsteps, -, hend, hq⟩ := Steps.callFree hM p X.admits X.cas X.clock (acts := []) hfr happ hPc trivial
  have hq' : vx_Q Qc XC mc ms free a (U.calling g mk a) o s₂ := hq
  rw [State.frames_setTop' g h.top] at hend
  obtain ⟨g₀, hg0⟩ := Option.isSome_iff_exists.mp h.top
  obtain ⟨r, hr⟩ := State.topJava?_eq_some.mp hg0
  have hr' : (({ U with heap := s₂.heap, slotsUsed := s₂.slotsUsed } : State).setVm s₂.vm).frames = .java g₀ :: r := hr
  rcases hq' with ⟨hqc, L, hfe, hL⟩ | ⟨q, rfl, E, ce, L, hx, hce, hcv, hcl, hW₂, hsm, hL⟩
  · obtain ⟨⟨v, rfl⟩, hW₂, e2, q2, q3, q4, q5, q6⟩ := id hfe
    have e3 : s₂ = ({ (U.calling g mk a).setFrames s₂.frames with heap := s₂.heap, slotsUsed := s₂.slotsUsed } : State).setVm s₂.vm := by
      have : s₂ = ({ s₂ with vm := (U.calling g mk a).vm } : State).setVm s₂.vm := rfl
      rw [e2] at this
      exact this
    obtain ⟨c₂, i₂, len₂, hc₂, hd₂, hf₂⟩ := hend
    have hW' : U.WarmedH s₂.vm := hW₂
    have hcc : c₂ = c := by
      have h1 : s₂.code? g.method = U.code? g.method := by
        rw [State.code?_eq, State.code?_eq, hW'.alike.method?]
      exact Option.some.inj (hc₂.symm.trans (h1.trans h.code))
    subst hcc
    have hlen : len₂ = len := by rw [hdg] at hd₂; cases hd₂; rfl
    subst hlen
    have hs₂ : s₂ = (({ U with heap := s₂.heap, slotsUsed := s₂.slotsUsed } : State).setVm s₂.vm).setTop { g with pc := g.pc + len₂, stack := v.toList ++ g.stack } := by
      refine e3.trans ?_
      rw [hf₂, State.calling_eq h.top, State.setFrames_setFrames, State.setTop_of_frames _ hr', hr]
      rfl
    have hsame : U.sameButNew ({ U with heap := s₂.heap, slotsUsed := s₂.slotsUsed } : State) L mc ms := by
      refine ⟨?_, q2, q3, q4, q5, q6⟩
      obtain ⟨t, ht, -⟩ := State.frames_cons hr
      show ({ U with heap := s₂.heap, slotsUsed := s₂.slotsUsed } : State) = { U.setFrames U.frames with heap := s₂.heap, slotsUsed := s₂.slotsUsed }
      rw [State.setFrames_self ht]
    subst hg
    refine Or.inl ⟨v, ⟨(({ U with heap := s₂.heap, slotsUsed := s₂.slotsUsed } : State).setVm s₂.vm), Ls ++ L, c0 + mc, s0 + ms⟩,
      ⟨X.admits, X.cas, X.clock, X.frames, X.room, X.hears, X.method, X.code, (X.here.setHeapUsed s₂.heap s₂.slotsUsed).setVm hW'.alike, X.tail, State.WarmedH.trans X.warmed hW', X.limits, X.bytes, X.same.trans (hsame.setVm s.vm)⟩,
      ⟨g, mk, s₂, L, rfl, rfl, hqc, rfl, hL, rfl, rfl⟩, ?_⟩
    show Steps p.tables e below _ ((({ U with heap := s₂.heap, slotsUsed := s₂.slotsUsed } : State).setVm s₂.vm).setTop { g with pc := g.pc + len₂, stack := v.toList ++ g.stack })
    rw [← hs₂]
    exact hsteps
  · obtain ⟨e2, q2, q3, q4, q5, q6⟩ := id hsm
    have e3 : s₂ = ({ (U.calling g mk a).setFrames s₂.frames with heap := s₂.heap, slotsUsed := s₂.slotsUsed } : State).setVm s₂.vm := by
      have : s₂ = ({ s₂ with vm := (U.calling g mk a).vm } : State).setVm s₂.vm := rfl
      rw [e2] at this
      exact this
    have hf₂ : s₂.frames = .throwing q :: .java g :: U.frames.tail := hend
    have hW' : U.WarmedH s₂.vm := hW₂
    have hs₂ : s₂ = ((({ U with heap := s₂.heap, slotsUsed := s₂.slotsUsed } : State).setVm s₂.vm).setTop g).pushFrame (.throwing q) := by
      refine e3.trans ?_
      rw [hf₂, State.calling_eq h.top, State.setFrames_setFrames, State.pushFrame, State.frames_setTop _ hr', State.setTop_of_frames _ hr', State.setFrames_setFrames, hr]
      rfl
    have hsame : U.sameButNew ({ U with heap := s₂.heap, slotsUsed := s₂.slotsUsed } : State) L mc ms := by
      refine ⟨?_, q2, q3, q4, q5, q6⟩
      obtain ⟨t, ht, -⟩ := State.frames_cons hr
      show ({ U with heap := s₂.heap, slotsUsed := s₂.slotsUsed } : State) = { U.setFrames U.frames with heap := s₂.heap, slotsUsed := s₂.slotsUsed }
      rw [State.setFrames_self ht]
    subst hg
    refine Or.inr ⟨q, ⟨(({ U with heap := s₂.heap, slotsUsed := s₂.slotsUsed } : State).setVm s₂.vm), Ls ++ L, c0 + mc, s0 + ms⟩,
      ⟨X.admits, X.cas, X.clock, X.frames, X.room, X.hears, X.method, X.code, (X.here.setHeapUsed s₂.heap s₂.slotsUsed).setVm hW'.alike, X.tail, State.WarmedH.trans X.warmed hW', X.limits, X.bytes, X.same.trans (hsame.setVm s.vm)⟩,
      ⟨g, mk, s₂, L, E, ce, rfl, rfl, hx, hce, hcv, hcl, rfl, hL, rfl, rfl⟩, ?_⟩
    show Steps p.tables e below _ (((({ U with heap := s₂.heap, slotsUsed := s₂.slotsUsed } : State).setVm s₂.vm).setTop g).pushFrame (.throwing q))
    rw [← hs₂]
    exact hsteps
end
variable {p : Program} {l : Launch} {e : Env} {R : Room} {s : State} {m : MethodId} {args : Array Value} {below : List Frame} {meth : Method} {c : Code} {T : State} {H : Heap} {locs : List Loc} {cells slots : Nat}
theorem vx_callVX (X : Stand p l e R s m args below meth c T locs cells slots) (hexec : p.tables.exec = Jvm.exec) {own C : String} {index : Nat} {y : MethodName} {bytes : ByteArray} {maxL : Nat} {ret : Option FieldType} {hh : List (Nat × Nat × Nat × Nat)}
    (hown : s.vm.findClass own = some m.cls) (hlink : (Cond.methodLink own index y).before args s = true) (hinst : (Cond.instanceMethod y).before args s = true) (hsel : (Cond.selects C y y).before args s = true)
    (hcode : (Cond.codeWith y bytes maxL ret hh).before args s = true) (hy : y.cls ≠ "java/lang/invoke/MethodHandle" ∧ y.cls ≠ "java/lang/invoke/VarHandle")
    {W9 : Nat} {Pre : Pt → Array Value → Prop} {Post : Pt → Array Value → Option Value → Pt → Prop} {PostX : Pt → Array Value → Addr → Pt → Prop} (hK : vx_Back l R p e below s args y 3 W9 Pre Post PostX)
    {b : Addr} {cellB : Cell} (hcell : T.heap[b]? = some cellB) (hobj : cellB.vm.isStatics = false) (hcls : s.vm.findClass C = some cellB.cls)
    {g : JFrame} (hg : g.method = m) (hsize : g.locals.size = c.maxLocals) {argsL rest : List Value} (hlen : ∀ sig, parseMethodDescriptor y.desc = some sig → argsL.length = sig.parameters.length)
    (hstack : g.stack = argsL.reverse ++ .ref b :: rest) (hW : 2 * g.monitorRoom + (rest.map fun v => v.category).sum ≤ W9) (hdg : decode c.code g.pc = .ok (.invokevirtual index, 3))
    (hpre : ∀ vm₁, s.WarmedH vm₁ → Pre ⟨T.setVm vm₁, locs, cells, slots⟩ (Value.ref b :: argsL).toArray) :
    (∃ (v : Option Value) (vm₁ : Vm) (B : Pt), s.WarmedH vm₁ ∧ Stand p l e R s m args below meth c B.U B.locs B.cells B.slots ∧ Post ⟨T.setVm vm₁, locs, cells, slots⟩ (Value.ref b :: argsL).toArray v B ∧
      ∀ target, Steps p.tables e below (B.U.setTop { g with pc := g.pc + 3, stack := v.toList ++ rest }) target → Steps p.tables e below (T.setTop g) target) ∨
    (∃ (q : Addr) (vm₁ : Vm) (B : Pt), s.WarmedH vm₁ ∧ Stand p l e R s m args below meth c B.U B.locs B.cells B.slots ∧ PostX ⟨T.setVm vm₁, locs, cells, slots⟩ (Value.ref b :: argsL).toArray q B ∧
      Steps p.tables e below (T.setTop g) ((B.U.setTop { g with stack := rest }).pushFrame (.throwing q))) := by
  obtain ⟨mk, methM, hnamed, hmethM, hstM, habM⟩ := Cond.instanceMethod_spec hinst
  obtain ⟨m8, methM', cM, hn8, hmethM', -, -, -, -, -, -, hsigM⟩ := Cond.codeWith_spec hcode
  cases Option.some.inj (hn8.symm.trans hnamed)
  cases hmethM.symm.trans hmethM'
  obtain ⟨c2, r2, m2, q1, q2, q3, q4, kP, hkP, hkPi⟩ := Cond.selects_spec hsel
  cases hcls.symm.trans q1
  cases (State.methodFound?_of_named hnamed hy).symm.trans q2
  cases hnamed.symm.trans q3
  have hselP : selectMethod e.platform s.vm cellB.cls mk = .method mk := by rw [Launch.admits_selectMethod X.admits]; exact q4
  obtain ⟨vm₁, X₁, hstep₁⟩ := X.invokevirtual hexec hown hlink hnamed hmethM hstM hkP hkPi hy (a := b) (cell := cellB) hcell
    (fun z h => by rw [h] at hobj; cases hobj) hselP hmethM habM hkP hkPi (g := g) hg (argsL := argsL) (rest := rest) (hlen _ hsigM) hstack hdg
  rcases hK m meth c ⟨T.setVm vm₁, locs, cells, slots⟩ { g with stack := rest } (.invokevirtual index) mk (Value.ref b :: argsL).toArray X₁ hg hsize hdg hW (X₁.named hnamed) (hpre vm₁ X₁.warmed) with ⟨v, B, X', hpost, hsteps⟩ | ⟨q, B, X', hpost, hsteps⟩
  · exact Or.inl ⟨v, vm₁, B, X₁.warmed, X', hpost, fun target h => hstep₁ _ fun acts => by rw [doInvoke_state]; exact hsteps.trans h⟩
  · exact Or.inr ⟨q, vm₁, B, X₁.warmed, X', hpost, hstep₁ _ fun acts => by rw [doInvoke_state]; exact hsteps⟩
theorem vx_callSX (X : Stand p l e R s m args below meth c T locs cells slots) (hexec : p.tables.exec = Jvm.exec) {own : String} {index : Nat} {y : MethodName} {bytes : ByteArray} {maxL : Nat} {ret : Option FieldType} {hh : List (Nat × Nat × Nat × Nat)}
    (hown : s.vm.findClass own = some m.cls) (hlink : (Cond.methodLink own index y).before args s = true) (hstat : (Cond.static y).before args s = true) (hinit : (Cond.initialized y.cls).before args s = true)
    (hcode : (Cond.codeWith y bytes maxL ret hh).before args s = true) (hy : y.cls ≠ "java/lang/invoke/MethodHandle" ∧ y.cls ≠ "java/lang/invoke/VarHandle")
    {W9 : Nat} {Pre : Pt → Array Value → Prop} {Post : Pt → Array Value → Option Value → Pt → Prop} {PostX : Pt → Array Value → Addr → Pt → Prop} (hK : vx_Back l R p e below s args y 3 W9 Pre Post PostX)
    {g : JFrame} (hg : g.method = m) (hsize : g.locals.size = c.maxLocals) {argsL rest : List Value} (hlen : ∀ sig, parseMethodDescriptor y.desc = some sig → argsL.length = sig.parameters.length)
    (hstack : g.stack = argsL.reverse ++ rest) (hW : 2 * g.monitorRoom + (rest.map fun v => v.category).sum ≤ W9) (hdg : decode c.code g.pc = .ok (.invokestatic index, 3))
    (hpre : ∀ vm₁, s.WarmedH vm₁ → Pre ⟨T.setVm vm₁, locs, cells, slots⟩ argsL.toArray) :
    (∃ (v : Option Value) (vm₁ : Vm) (B : Pt), s.WarmedH vm₁ ∧ Stand p l e R s m args below meth c B.U B.locs B.cells B.slots ∧ Post ⟨T.setVm vm₁, locs, cells, slots⟩ argsL.toArray v B ∧
      ∀ target, Steps p.tables e below (B.U.setTop { g with pc := g.pc + 3, stack := v.toList ++ rest }) target → Steps p.tables e below (T.setTop g) target) ∨
    (∃ (q : Addr) (vm₁ : Vm) (B : Pt), s.WarmedH vm₁ ∧ Stand p l e R s m args below meth c B.U B.locs B.cells B.slots ∧ PostX ⟨T.setVm vm₁, locs, cells, slots⟩ argsL.toArray q B ∧
      Steps p.tables e below (T.setTop g) ((B.U.setTop { g with stack := rest }).pushFrame (.throwing q))) := by
  obtain ⟨mk, methM, cM, hnamed, hmethM, -, -, -, -, -, -, hsigM⟩ := Cond.codeWith_spec hcode
  have hstatic : methM.isStatic = true := Cond.static_spec hnamed hmethM hstat
  obtain ⟨kP, hkP, -⟩ := className_of_methodNamed hnamed
  have hinitP : kP.init = .initialized := Cond.initialized_spec (findClass_of_methodNamed hnamed) hkP hinit
  obtain ⟨vm₁, X₁, hstep₁⟩ := X.invokestatic hexec hown hlink hnamed hmethM hstatic hkP hinitP hy (g := g) hg (argsL := argsL) (rest := rest) (hlen _ hsigM) hstack hdg
  rcases hK m meth c ⟨T.setVm vm₁, locs, cells, slots⟩ { g with stack := rest } (.invokestatic index) mk argsL.toArray X₁ hg hsize hdg hW (X₁.named hnamed) (hpre vm₁ X₁.warmed) with ⟨v, B, X', hpost, hsteps⟩ | ⟨q, B, X', hpost, hsteps⟩
  · exact Or.inl ⟨v, vm₁, B, X₁.warmed, X', hpost, fun target h => hstep₁ _ fun acts => by rw [doInvoke_state]; exact hsteps.trans h⟩
  · exact Or.inr ⟨q, vm₁, B, X₁.warmed, X', hpost, hstep₁ _ fun acts => by rw [doInvoke_state]; exact hsteps⟩
theorem vx_callVW (X : Stand p l e R s m args below meth c T locs cells slots) (hexec : p.tables.exec = Jvm.exec) {own C : String} {index : Nat} {y : MethodName} {bytes : ByteArray} {maxL : Nat} {ret : Option FieldType} {hh : List (Nat × Nat × Nat × Nat)}
    (hown : s.vm.findClass own = some m.cls) (hlink : (Cond.methodLink own index y).before args s = true) (hinst : (Cond.instanceMethod y).before args s = true) (hsel : (Cond.selects C y y).before args s = true)
    (hcode : (Cond.codeWith y bytes maxL ret hh).before args s = true) (hy : y.cls ≠ "java/lang/invoke/MethodHandle" ∧ y.cls ≠ "java/lang/invoke/VarHandle")
    {W9 : Nat} {Pre : Pt → Array Value → Prop} {Post : Pt → Array Value → Option Value → Pt → Prop} (hK : Back l R p e below s args y 3 W9 Pre Post)
    {b : Addr} {cellB : Cell} (hcell : T.heap[b]? = some cellB) (hobj : cellB.vm.isStatics = false) (hcls : s.vm.findClass C = some cellB.cls)
    {g : JFrame} (hg : g.method = m) (hsize : g.locals.size = c.maxLocals) {argsL rest : List Value} (hlen : ∀ sig, parseMethodDescriptor y.desc = some sig → argsL.length = sig.parameters.length)
    (hstack : g.stack = argsL.reverse ++ .ref b :: rest) (hW : 2 * g.monitorRoom + (rest.map fun v => v.category).sum ≤ W9) (hdg : decode c.code g.pc = .ok (.invokevirtual index, 3))
    (hpre : ∀ vm₁, s.WarmedH vm₁ → Pre ⟨T.setVm vm₁, locs, cells, slots⟩ (Value.ref b :: argsL).toArray) :
    ∃ (v : Option Value) (vm₁ : Vm) (B : Pt), s.WarmedH vm₁ ∧ Stand p l e R s m args below meth c B.U B.locs B.cells B.slots ∧ Post ⟨T.setVm vm₁, locs, cells, slots⟩ (Value.ref b :: argsL).toArray v B ∧
      ∀ target, Steps p.tables e below (B.U.setTop { g with pc := g.pc + 3, stack := v.toList ++ rest }) target → Steps p.tables e below (T.setTop g) target := by
  obtain ⟨mk, methM, hnamed, hmethM, hstM, habM⟩ := Cond.instanceMethod_spec hinst
  obtain ⟨m8, methM', cM, hn8, hmethM', -, -, -, -, -, -, hsigM⟩ := Cond.codeWith_spec hcode
  cases Option.some.inj (hn8.symm.trans hnamed)
  cases hmethM.symm.trans hmethM'
  obtain ⟨c2, r2, m2, q1, q2, q3, q4, kP, hkP, hkPi⟩ := Cond.selects_spec hsel
  cases hcls.symm.trans q1
  cases (State.methodFound?_of_named hnamed hy).symm.trans q2
  cases hnamed.symm.trans q3
  have hselP : selectMethod e.platform s.vm cellB.cls mk = .method mk := by rw [Launch.admits_selectMethod X.admits]; exact q4
  obtain ⟨vm₁, X₁, hstep₁⟩ := X.invokevirtual hexec hown hlink hnamed hmethM hstM hkP hkPi hy (a := b) (cell := cellB) hcell
    (fun z h => by rw [h] at hobj; cases hobj) hselP hmethM habM hkP hkPi (g := g) hg (argsL := argsL) (rest := rest) (hlen _ hsigM) hstack hdg
  obtain ⟨v, B, X', hpost, hsteps⟩ := hK m meth c ⟨T.setVm vm₁, locs, cells, slots⟩ { g with stack := rest } (.invokevirtual index) mk (Value.ref b :: argsL).toArray X₁ hg hsize hdg hW (X₁.named hnamed) (hpre vm₁ X₁.warmed)
  exact ⟨v, vm₁, B, X₁.warmed, X', hpost, fun target h => hstep₁ _ fun acts => by rw [doInvoke_state]; exact hsteps.trans h⟩
abbrev vx_CVW (R : Room) (s : State) (args : Array Value) (own C : String) (index : Nat) (y : MethodName) (bytes : ByteArray) (maxL : Nat) (ret : Option FieldType) (hh : List (Nat × Nat × Nat × Nat)) (ws : List Cond) (rm : Room) (mc ms n : Nat) : Prop :=
  (rm.cells = mc ∧ rm.slots = ms ∧ rm.frames + 1 ≤ R.frames ∧ 8 + (maxL + 11) + rm.locals ≤ R.locals ∧ (∀ w ∈ ws, ∀ (a' : Array Value) (U : State), s.WarmedH U.vm → w.before a' U = true) ∧ Cond.codeWith y bytes maxL ret hh ∈ ws) ∧
  (Cond.codeWith y bytes maxL ret hh).before args s = true ∧ (Cond.initialized y.cls).before args s = true ∧ (y.cls ≠ "java/lang/invoke/MethodHandle" ∧ y.cls ≠ "java/lang/invoke/VarHandle") ∧
  (∀ sig, parseMethodDescriptor y.desc = some sig → n = sig.parameters.length) ∧ (Cond.methodLink own index y).before args s = true ∧ (Cond.instanceMethod y).before args s = true ∧ (Cond.selects C y y).before args s = true
theorem vx_cwVW {own C : String} {index maxL mc ms : Nat} {y : MethodName} {bytes : ByteArray} {ret : Option FieldType} {hh : List (Nat × Nat × Nat × Nat)} {Ts ws ws' : List Cond} {rm : Room} (n : Nat) (ht : ∀ w ∈ Ts, w.before args s = true) (hT : GoodIn Ts (wsV own index C y ws)) (hw : ws = Cond.codeWith y bytes maxL ret hh :: ws') (hrc : rm.cells = mc) (hrs : rm.slots = ms)
    (hd : y.cls = C ∧ y.cls ≠ "java/lang/invoke/MethodHandle" ∧ y.cls ≠ "java/lang/invoke/VarHandle" ∧ (parseMethodDescriptor y.desc).map (fun d => d.parameters.length) = some n) (hR : rm.frames + 1 ≤ R.frames ∧ 8 + (maxL + 11) + rm.locals ≤ R.locals) :
    vx_CVW R s args own C index y bytes maxL ret hh ws rm mc ms n := by
  obtain ⟨hC, hd⟩ := hd
  subst hC
  have ok : ∀ w ∈ wsV own index y.cls y ws, w.before args s = true := fun w h => ht w (hT w h).1
  have hG : GoodIn Ts ws := fun w h => hT w (by unfold wsV; exact List.mem_append_right _ h)
  have hc : Cond.codeWith y bytes maxL ret hh ∈ ws := by rw [hw]; exact List.mem_cons_self
  refine ⟨⟨hrc, hrs, hR.1, hR.2, pay_in ht hG, hc⟩, ht _ (hG _ hc).1, ok _ (by simp [wsV]), ⟨hd.1, hd.2.1⟩, fun sig h => ?_, ok _ (by simp [wsV]), ok _ (by simp [wsV]), ok _ (by simp [wsV])⟩
  have h2 := hd.2.2
  rw [h] at h2
  exact (Option.some.inj h2).symm
theorem vx_runVW {y : MethodName} {bytes cc : ByteArray} {maxL nL mc ms n index : Nat} {ret : Option FieldType} {hh : List (Nat × Nat × Nat × Nat)} {ws : List Cond} {rm : Room} {Pc : Array Value → State → Prop} {Qc : Array Value → State → Outcome → State → Prop} {free : Addr → Prop} {Ts : List Cond} {own C : String} {b : Addr} {As rest : List Value} {g : JFrame}
    (S : CallFix p m c cc nL s args Ts own) (hM : Met l y ws rm Pc Qc mc ms free) (cw : vx_CVW R s args own C index y bytes maxL ret hh ws rm mc ms n) (hp : PreV s H C b Pc As)
    (hg : g.method = m) (hn : As.length = n) (hsize : g.locals.size = nL) (hstack : g.stack = As.reverse ++ .ref b :: rest) (hW : 2 * g.monitorRoom + (rest.map fun v => v.category).sum ≤ 8) (hdg : decode cc g.pc = .ok (.invokevirtual index, 3)) (hf : cells + mc ≤ R.cells ∧ slots + ms ≤ R.slots) :
    va_Run p l e R s m args below meth c H locs cells slots mc ms g rest (Qc (Value.ref b :: As).toArray) free := by
  obtain ⟨⟨hrc, hrs, hfr, hlo, hws, hcw⟩, hcode, hini, hy, hlen, hl, hin, hse⟩ := cw
  have hK : Back l R p e below s args y 3 8 (PreOf R mc ms Pc) (PostOf Qc mc ms free) := va_backW (hh := hh) (bytes := bytes) (maxL := maxL) (ret := ret) hM hp.1 hrc hrs hfr hlo hws hcw (fun a' U hW => word_at hW (Or.inl (by first | rfl | simp [Cond.onTables, Cond.keeps, Cond.steady])) hini)
  obtain ⟨hx, hb, hml, ho, -⟩ := S
  obtain ⟨-, ⟨cellB, hcB, hoB, hclB⟩, hPc⟩ := hp
  intro T hT X
  obtain ⟨v, vm₁, ⟨U', l2, c2, s2⟩, hW₁, X', ⟨g', mk, t, L, e1, e2, hq, h1, hL, h2, h3⟩, st⟩ := vx_callVW X hx (C := C) (hh := hh) (bytes := bytes) (maxL := maxL) (ret := ret) ho hl hin hse hcode hy hK (by rw [hT]; exact hcB) hoB hclB hg (hsize.trans hml.symm) (argsL := As) (rest := rest) (fun sig h => hn.trans (hlen sig h)) hstack hW (by rw [hb]; exact hdg)
    (fun vm₁ hW₁ => ⟨hf.1, hf.2, hPc (T.setVm vm₁) hT hW₁⟩)
  dsimp only [Pt.U, Pt.locs, Pt.cells, Pt.slots] at X' e1 e2 h1 h2 h3 st
  subst h1; subst h2; subst h3
  exact ⟨v, (T.setVm vm₁).calling g' mk (Value.ref b :: As).toArray, t, U', L, hT, X', hL, e1, e2, hq, st⟩
section
variable {y : MethodName} {bytes cc : ByteArray} {maxL nL mc ms n index : Nat} {ret : Option FieldType} {ws : List Cond} {rm : Room} {Pc : Array Value → State → Prop} {Qc : Array Value → State → Outcome → State → Prop} {XC : String → State → State → Prop} {free : Addr → Prop} {Ts : List Cond} {own C : String} {b : Addr} {As rest : List Value} {g : JFrame}
theorem vx_runVX {hh : List (Nat × Nat × Nat × Nat)} (S : CallFix p m c cc nL s args Ts own) (hM : vx_Met l y ws rm Pc Qc XC mc ms free) (cw : vx_CVW R s args own C index y bytes maxL ret hh ws rm mc ms n) (hp : PreV s H C b Pc As)
    (hg : g.method = m) (hn : As.length = n) (hsize : g.locals.size = nL) (hstack : g.stack = As.reverse ++ .ref b :: rest) (hW : 2 * g.monitorRoom + (rest.map fun v => v.category).sum ≤ 8) (hdg : decode cc g.pc = .ok (.invokevirtual index, 3)) (hf : cells + mc ≤ R.cells ∧ slots + ms ≤ R.slots) :
    vx_Run p l e R s m args below meth c H locs cells slots mc ms g rest (Qc (Value.ref b :: As).toArray) XC free := by
  obtain ⟨⟨hrc, hrs, hfr, hlo, hws, hcw⟩, hcode, hini, hy, hlen, hl, hin, hse⟩ := cw
  have hK : vx_Back l R p e below s args y 3 8 (PreOf R mc ms Pc) (PostOf Qc mc ms free) (vx_Post XC mc ms free) := vx_backW (hh := hh) (bytes := bytes) (maxL := maxL) (ret := ret) hM hp.1 hrc hrs hfr hlo hws hcw (fun a' U hW => word_at hW (Or.inl (by first | rfl | simp [Cond.onTables, Cond.keeps, Cond.steady])) hini)
  obtain ⟨hx, hb, hml, ho, -⟩ := S
  obtain ⟨-, ⟨cellB, hcB, hoB, hclB⟩, hPc⟩ := hp
  intro T hT X
  rcases vx_callVX X hx (C := C) (hh := hh) (bytes := bytes) (maxL := maxL) (ret := ret) ho hl hin hse hcode hy hK (by rw [hT]; exact hcB) hoB hclB hg (hsize.trans hml.symm) (argsL := As) (rest := rest) (fun sig h => hn.trans (hlen sig h)) hstack hW (by rw [hb]; exact hdg)
    (fun vm₁ hW₁ => ⟨hf.1, hf.2, hPc (T.setVm vm₁) hT hW₁⟩) with ⟨v, vm₁, ⟨U', l2, c2, s2⟩, hW₁, X', ⟨g', mk, t, L, e1, e2, hq, h1, hL, h2, h3⟩, st⟩ | ⟨q, vm₁, ⟨U', l2, c2, s2⟩, hW₁, X', ⟨g', mk, t, L, E, ce, e1, e2, hq, hce, hcv, hcl, h1, hL, h2, h3⟩, st⟩
  · dsimp only [Pt.U, Pt.locs, Pt.cells, Pt.slots] at X' e1 e2 h1 h2 h3 st
    subst h1; subst h2; subst h3
    exact Or.inl ⟨v, (T.setVm vm₁).calling g' mk (Value.ref b :: As).toArray, t, U', L, hT, X', hL, e1, e2, hq, st⟩
  · dsimp only [Pt.U, Pt.locs, Pt.cells, Pt.slots] at X' e1 e2 h1 h2 h3 st hcl
    subst h1; subst h2; subst h3
    exact Or.inr ⟨q, (T.setVm vm₁).calling g' mk (Value.ref b :: As).toArray, t, U', L, E, ce, hT, X', hL, e1, e2, hq, hce, hcv, vx_cls hW₁ hcl, st⟩
theorem vx_runSX {hh : List (Nat × Nat × Nat × Nat)} (S : CallFix p m c cc nL s args Ts own) (hM : vx_Met l y ws rm Pc Qc XC mc ms free) (cw : vx_CSW R s args own index y bytes maxL ret hh ws rm mc ms n) (hp : PreS s H Pc As)
    (hg : g.method = m) (hn : As.length = n) (hsize : g.locals.size = nL) (hstack : g.stack = As.reverse ++ rest) (hW : 2 * g.monitorRoom + (rest.map fun v => v.category).sum ≤ 8) (hdg : decode cc g.pc = .ok (.invokestatic index, 3)) (hf : cells + mc ≤ R.cells ∧ slots + ms ≤ R.slots) :
    vx_Run p l e R s m args below meth c H locs cells slots mc ms g rest (Qc As.toArray) XC free := by
  obtain ⟨⟨hrc, hrs, hfr, hlo, hws, hcw⟩, hcode, hini, hy, hlen, hl, hstt⟩ := cw
  have hK : vx_Back l R p e below s args y 3 8 (PreOf R mc ms Pc) (PostOf Qc mc ms free) (vx_Post XC mc ms free) := vx_backW (hh := hh) (bytes := bytes) (maxL := maxL) (ret := ret) hM hp.1 hrc hrs hfr hlo hws hcw (fun a' U hW => word_at hW (Or.inl (by first | rfl | simp [Cond.onTables, Cond.keeps, Cond.steady])) hini)
  obtain ⟨hx, hb, hml, ho, -⟩ := S
  intro T hT X
  rcases vx_callSX X hx (hh := hh) (bytes := bytes) (maxL := maxL) (ret := ret) ho hl hstt hini hcode hy hK hg (hsize.trans hml.symm) (argsL := As) (rest := rest) (fun sig h => hn.trans (hlen sig h)) hstack hW (by rw [hb]; exact hdg)
    (fun vm₁ hW₁ => ⟨hf.1, hf.2, hp.2 (T.setVm vm₁) hT hW₁⟩) with ⟨v, vm₁, ⟨U', l2, c2, s2⟩, hW₁, X', ⟨g', mk, t, L, e1, e2, hq, h1, hL, h2, h3⟩, st⟩ | ⟨q, vm₁, ⟨U', l2, c2, s2⟩, hW₁, X', ⟨g', mk, t, L, E, ce, e1, e2, hq, hce, hcv, hcl, h1, hL, h2, h3⟩, st⟩
  · dsimp only [Pt.U, Pt.locs, Pt.cells, Pt.slots] at X' e1 e2 h1 h2 h3 st
    subst h1; subst h2; subst h3
    exact Or.inl ⟨v, (T.setVm vm₁).calling g' mk As.toArray, t, U', L, hT, X', hL, e1, e2, hq, st⟩
  · dsimp only [Pt.U, Pt.locs, Pt.cells, Pt.slots] at X' e1 e2 h1 h2 h3 st hcl
    subst h1; subst h2; subst h3
    exact Or.inr ⟨q, (T.setVm vm₁).calling g' mk As.toArray, t, U', L, E, ce, hT, X', hL, e1, e2, hq, hce, hcv, vx_cls hW₁ hcl, st⟩
end
end VXH
theorem vx_ofWH {l : Launch} {y : MethodName} {ws ws' : List Cond} {rm : Room} {Pc : Array Value → State → Prop} {Qc : Array Value → State → Outcome → State → Prop} {XC : String → State → State → Prop} {mc ms : Nat} {free : Addr → Prop} {cc : ByteArray} {maxL : Nat} {ret : Option FieldType} {hh : List (Nat × Nat × Nat × Nat)}
    (hy : plainName y.cls = true) (hw : ws = Cond.codeWith y cc maxL ret hh :: ws')
    (body : ∀ p e s m args below meth c s₁, BodyLoose p l y (headSpec ws rm) cc maxL ret e s m args below meth c s₁ → c.maxLocals = maxL → Pc args s →
      W p l e (headSpec ws rm).room s m args below meth c s.heap [] 0 0 (vx_MQ below Qc XC args s mc ms free) (entryFrame m args maxL)) : vx_Met l y ws rm Pc Qc XC mc ms free := by
  refine MetFree.of_bodyS (code := cc) (maxLocals := maxL) (ret := ret) hy ?_ ?_
  · intro args s m h hn
    obtain ⟨m9, meth, c, hn9, h1, h2, h3, h4, -, h5, h6, -⟩ := Cond.codeWith_spec (atoms_spec (ws := ws) h _ (by rw [hw]; exact List.mem_cons_self))
    cases hn.symm.trans hn9
    exact ⟨meth, c, h1, h2, h3, h4, h5, h6⟩
  · intro p e s m args below meth c s₁ B hml hP _
    have hh0 : s₁.heap = s.heap := by rw [B.state]; rfl
    obtain ⟨t, a1, o, b1, b2, b3⟩ := body p e s m args below meth c s₁ B hml hP s₁ hh0 (Stand.of_body B)
    exact ⟨t, o, a1, b1, b2, b3⟩
/-! ===== END ===== -/

/-! ===== BEGIN a constructor that throws (launches without stack traces) ===== -/
section VXIA
variable {p : Program} {l : Launch} {e : Env} {R : Room} {s : State} {m : MethodId} {args : Array Value} {below : List Frame} {meth : Method} {c : Code} {T : State} {locs : List Loc} {cells slots : Nat}
theorem vx_callI (X : Stand p l e R s m args below meth c T locs cells slots) (hexec : p.tables.exec = Jvm.exec) {own : String} {index : Nat} {y : MethodName} {bytes : ByteArray} {maxL : Nat}
    (hown : s.vm.findClass own = some m.cls) (hy1 : y.name = "<init>") (hlink : (Cond.methodLink own index y).before args s = true) (hinst : (Cond.instanceMethod y).before args s = true)
    (hcode : (Cond.code y bytes maxL none).before args s = true) (hy : y.cls ≠ "java/lang/invoke/MethodHandle" ∧ y.cls ≠ "java/lang/invoke/VarHandle")
    {W9 : Nat} {Pre : Pt → Array Value → Prop} {Post : Pt → Array Value → Option Value → Pt → Prop} {PostX : Pt → Array Value → Addr → Pt → Prop} (hK : vx_Back l R p e below s args y 3 W9 Pre Post PostX)
    {g : JFrame} (hg : g.method = m) (hsize : g.locals.size = c.maxLocals) {a : Addr} {argsL rest : List Value} (hlen : ∀ sig, parseMethodDescriptor y.desc = some sig → argsL.length = sig.parameters.length)
    (hstack : g.stack = argsL.reverse ++ .ref a :: rest) (hW : 2 * g.monitorRoom + (rest.map fun v => v.category).sum ≤ W9) (hdg : decode c.code g.pc = .ok (.invokespecial index, 3))
    (hpre : ∀ vm₁, s.WarmedH vm₁ → Pre ⟨T.setVm vm₁, locs, cells, slots⟩ (Value.ref a :: argsL).toArray) :
    (∃ (v : Option Value) (vm₁ : Vm) (B : Pt), s.WarmedH vm₁ ∧ Stand p l e R s m args below meth c B.U B.locs B.cells B.slots ∧ Post ⟨T.setVm vm₁, locs, cells, slots⟩ (Value.ref a :: argsL).toArray v B ∧
      ∀ target, Steps p.tables e below (B.U.setTop { g with pc := g.pc + 3, stack := v.toList ++ rest }) target → Steps p.tables e below (T.setTop g) target) ∨
    (∃ (q : Addr) (vm₁ : Vm) (B : Pt), s.WarmedH vm₁ ∧ Stand p l e R s m args below meth c B.U B.locs B.cells B.slots ∧ PostX ⟨T.setVm vm₁, locs, cells, slots⟩ (Value.ref a :: argsL).toArray q B ∧
      Steps p.tables e below (T.setTop g) ((B.U.setTop { g with stack := rest }).pushFrame (.throwing q))) := by
  subst hg
  have hpl : e.platform.magicAccessors = ({} : Platform).magicAccessors := by rw [X.admits.platform]
  obtain ⟨mk, methM, cM, kP, vm₁, hnamed, hmethM, hcodeM, -, hlocalsM, -, hkP, -, hW₁, hstep₁⟩ := Steps.initColdArgs (e := e) X.here hexec X.warmed hpl hown hy1 hy hlink hinst hcode (f := g) rfl hlen hstack hdg
  have X₁ := X.noted hW₁
  rcases hK g.method meth c ⟨T.setVm vm₁, locs, cells, slots⟩ { g with stack := rest } (.invokespecial index) mk (Value.ref a :: argsL).toArray X₁ rfl hsize hdg hW (X₁.named hnamed) (hpre vm₁ X₁.warmed) with ⟨v, B, X', hpost, hsteps⟩ | ⟨q, B, X', hpost, hsteps⟩
  · exact Or.inl ⟨v, vm₁, B, X₁.warmed, X', hpost, fun target h => hstep₁ _ fun acts => by rw [doInvoke_state]; exact hsteps.trans h⟩
  · exact Or.inr ⟨q, vm₁, B, X₁.warmed, X', hpost, hstep₁ _ fun acts => by rw [doInvoke_state]; exact hsteps⟩
end VXIA
section VXIB
variable {p : Program} {l : Launch} {e : Env} {R : Room} {s : State} {m : MethodId} {args : Array Value} {below : List Frame} {meth : Method} {c : Code} {H : Heap} {locs : List Loc} {cells slots : Nat}
variable {y : MethodName} {bytes cc : ByteArray} {maxL nL mc ms n index : Nat} {ret : Option FieldType} {ws : List Cond} {rm : Room} {Pc : Array Value → State → Prop} {Qc : Array Value → State → Outcome → State → Prop} {XC : String → State → State → Prop} {free : Addr → Prop} {Ts : List Cond} {own C : String} {b : Addr} {As rest : List Value} {g : JFrame}
theorem vx_runI (S : CallFix p m c cc nL s args Ts own) (hM : vx_Met l y ws rm Pc Qc XC mc ms free) (cw : CallB R s args own index y bytes maxL none ws rm mc ms n ∧ y.name = "<init>" ∧ (Cond.instanceMethod y).before args s = true) (hp : PreS s H Pc (.ref b :: As))
    (hg : g.method = m) (hn : As.length = n) (hsize : g.locals.size = nL) (hstack : g.stack = As.reverse ++ .ref b :: rest) (hW : 2 * g.monitorRoom + (rest.map fun v => v.category).sum ≤ 8) (hdg : decode cc g.pc = .ok (.invokespecial index, 3)) (hf : cells + mc ≤ R.cells ∧ slots + ms ≤ R.slots) :
    vx_Run p l e R s m args below meth c H locs cells slots mc ms g rest (Qc (Value.ref b :: As).toArray) XC free := by
  have hK : vx_Back l R p e below s args y 3 8 (PreOf R mc ms Pc) (PostOf Qc mc ms free) (vx_Post XC mc ms free) := vx_callBack cw.1 hM hp.1
  obtain ⟨⟨-, -, -, -, -, -, hcode, -, hy, hlen, hl⟩, hy1, hin⟩ := cw
  obtain ⟨hx, hb, hml, ho, -⟩ := S
  have hPc := hp.2
  intro T hT X
  rcases vx_callI X hx (bytes := bytes) (maxL := maxL) ho hy1 hl hin hcode hy hK hg (hsize.trans hml.symm) (a := b) (argsL := As) (rest := rest) (fun sig h => hn.trans (hlen sig h)) hstack hW (by rw [hb]; exact hdg)
    (fun vm₁ hW₁ => ⟨hf.1, hf.2, hPc (T.setVm vm₁) hT hW₁⟩) with ⟨v, vm₁, ⟨U', l2, c2, s2⟩, hW₁, X', ⟨g', mk, t, L, e1, e2, hq, h1, hL, h2, h3⟩, st⟩ | ⟨q, vm₁, ⟨U', l2, c2, s2⟩, hW₁, X', ⟨g', mk, t, L, E, ce, e1, e2, hq, hce, hcv, hcl, h1, hL, h2, h3⟩, st⟩
  · dsimp only [Pt.U, Pt.locs, Pt.cells, Pt.slots] at X' e1 e2 h1 h2 h3 st
    subst h1; subst h2; subst h3
    exact Or.inl ⟨v, (T.setVm vm₁).calling g' mk (Value.ref b :: As).toArray, t, U', L, hT, X', hL, e1, e2, hq, st⟩
  · dsimp only [Pt.U, Pt.locs, Pt.cells, Pt.slots] at X' e1 e2 h1 h2 h3 st hcl
    subst h1; subst h2; subst h3
    exact Or.inr ⟨q, (T.setVm vm₁).calling g' mk (Value.ref b :: As).toArray, t, U', L, E, ce, hT, X', hL, e1, e2, hq, hce, hcv, vx_cls hW₁ hcl, st⟩
end VXIB
/-! ===== END ===== -/
/-! ===== BEGIN a private constructor of a nest mate that throws ===== -/
section VXIC
variable {p : Program} {l : Launch} {e : Env} {R : Room} {s : State} {m : MethodId} {args : Array Value} {below : List Frame} {meth : Method} {c : Code} {T : State} {locs : List Loc} {cells slots : Nat}
theorem vx_callIN (X : Stand p l e R s m args below meth c T locs cells slots) (hexec : p.tables.exec = Jvm.exec) {own : String} {index : Nat} {host : String} {y : MethodName} {bytes : ByteArray} {maxL : Nat}
    (hown : s.vm.findClass own = some m.cls) (hy1 : y.name = "<init>") (hlink : (Cond.methodLinkNest own index y host).before args s = true) (hinst : (Cond.instanceMethod y).before args s = true)
    (hcode : (Cond.code y bytes maxL none).before args s = true) (hy : y.cls ≠ "java/lang/invoke/MethodHandle" ∧ y.cls ≠ "java/lang/invoke/VarHandle")
    {W9 : Nat} {Pre : Pt → Array Value → Prop} {Post : Pt → Array Value → Option Value → Pt → Prop} {PostX : Pt → Array Value → Addr → Pt → Prop} (hK : vx_Back l R p e below s args y 3 W9 Pre Post PostX)
    {g : JFrame} (hg : g.method = m) (hsize : g.locals.size = c.maxLocals) {a : Addr} {argsL rest : List Value} (hlen : ∀ sig, parseMethodDescriptor y.desc = some sig → argsL.length = sig.parameters.length)
    (hstack : g.stack = argsL.reverse ++ .ref a :: rest) (hW : 2 * g.monitorRoom + (rest.map fun v => v.category).sum ≤ W9) (hdg : decode c.code g.pc = .ok (.invokespecial index, 3))
    (hpre : ∀ vm₁, s.WarmedH vm₁ → Pre ⟨T.setVm vm₁, locs, cells, slots⟩ (Value.ref a :: argsL).toArray) :
    (∃ (v : Option Value) (vm₁ : Vm) (B : Pt), s.WarmedH vm₁ ∧ Stand p l e R s m args below meth c B.U B.locs B.cells B.slots ∧ Post ⟨T.setVm vm₁, locs, cells, slots⟩ (Value.ref a :: argsL).toArray v B ∧
      ∀ target, Steps p.tables e below (B.U.setTop { g with pc := g.pc + 3, stack := v.toList ++ rest }) target → Steps p.tables e below (T.setTop g) target) ∨
    (∃ (q : Addr) (vm₁ : Vm) (B : Pt), s.WarmedH vm₁ ∧ Stand p l e R s m args below meth c B.U B.locs B.cells B.slots ∧ PostX ⟨T.setVm vm₁, locs, cells, slots⟩ (Value.ref a :: argsL).toArray q B ∧
      Steps p.tables e below (T.setTop g) ((B.U.setTop { g with stack := rest }).pushFrame (.throwing q))) := by
  subst hg
  have hpl : e.platform.magicAccessors = ({} : Platform).magicAccessors := by rw [X.admits.platform]
  obtain ⟨mk, methM, cM, kP, vm₁, hnamed, hmethM, hcodeM, -, hlocalsM, -, hkP, -, hW₁, hstep₁⟩ := Steps.initColdArgsNest (e := e) X.here hexec X.warmed hpl hown hy1 hy hlink hinst hcode (f := g) rfl hlen hstack hdg
  have X₁ := X.noted hW₁
  rcases hK g.method meth c ⟨T.setVm vm₁, locs, cells, slots⟩ { g with stack := rest } (.invokespecial index) mk (Value.ref a :: argsL).toArray X₁ rfl hsize hdg hW (X₁.named hnamed) (hpre vm₁ X₁.warmed) with ⟨v, B, X', hpost, hsteps⟩ | ⟨q, B, X', hpost, hsteps⟩
  · exact Or.inl ⟨v, vm₁, B, X₁.warmed, X', hpost, fun target h => hstep₁ _ fun acts => by rw [doInvoke_state]; exact hsteps.trans h⟩
  · exact Or.inr ⟨q, vm₁, B, X₁.warmed, X', hpost, hstep₁ _ fun acts => by rw [doInvoke_state]; exact hsteps⟩
end VXIC
section VXID
variable {p : Program} {l : Launch} {e : Env} {R : Room} {s : State} {m : MethodId} {args : Array Value} {below : List Frame} {meth : Method} {c : Code} {H : Heap} {locs : List Loc} {cells slots : Nat}
theorem vx_runIN {y : MethodName} {bytes cc : ByteArray} {maxL nL mc ms n index : Nat} {ws : List Cond} {rm : Room} {Pc : Array Value → State → Prop} {Qc : Array Value → State → Outcome → State → Prop} {XC : String → State → State → Prop} {free : Addr → Prop} {Ts : List Cond} {own host : String} {b : Addr} {As rest : List Value} {g : JFrame}
    (S : CallFix p m c cc nL s args Ts own) (hM : vx_Met l y ws rm Pc Qc XC mc ms free) (cw : va_CN R s args own index y host bytes maxL none ws rm mc ms n ∧ y.name = "<init>" ∧ (Cond.instanceMethod y).before args s = true) (hp : PreS s H Pc (.ref b :: As))
    (hg : g.method = m) (hn : As.length = n) (hsize : g.locals.size = nL) (hstack : g.stack = As.reverse ++ .ref b :: rest) (hW : 2 * g.monitorRoom + (rest.map fun v => v.category).sum ≤ 8) (hdg : decode cc g.pc = .ok (.invokespecial index, 3)) (hf : cells + mc ≤ R.cells ∧ slots + ms ≤ R.slots) :
    vx_Run p l e R s m args below meth c H locs cells slots mc ms g rest (Qc (Value.ref b :: As).toArray) XC free := by
  obtain ⟨⟨⟨hrc, hrs, hfr, hlo, hws, hcw⟩, hcode, hini, hy, hlen, hl⟩, hx1, hx2⟩ := cw
  have hK : vx_Back l R p e below s args y 3 8 (PreOf R mc ms Pc) (PostOf Qc mc ms free) (vx_Post XC mc ms free) := vx_back (bytes := bytes) (maxL := maxL) (ret := none) hM hp.1 hrc hrs hfr hlo hws hcw (fun a' U hW => word_at hW (Or.inl (by first | rfl | simp [Cond.onTables, Cond.keeps, Cond.steady])) hini)
  obtain ⟨hx, hb, hml, ho, -⟩ := S
  have hPc := hp.2
  intro T hT X
  rcases vx_callIN X hx (bytes := bytes) (maxL := maxL) ho hx1 hl hx2 hcode hy hK hg (hsize.trans hml.symm) (a := b) (argsL := As) (rest := rest) (fun sig h => hn.trans (hlen sig h)) hstack hW (by rw [hb]; exact hdg)
    (fun vm₁ hW₁ => ⟨hf.1, hf.2, hPc (T.setVm vm₁) hT hW₁⟩) with ⟨v, vm₁, ⟨U', l2, c2, s2⟩, hW₁, X', ⟨g', mk, t, L, e1, e2, hq, h1, hL, h2, h3⟩, st⟩ | ⟨q, vm₁, ⟨U', l2, c2, s2⟩, hW₁, X', ⟨g', mk, t, L, E, ce, e1, e2, hq, hce, hcv, hcl, h1, hL, h2, h3⟩, st⟩
  · dsimp only [Pt.U, Pt.locs, Pt.cells, Pt.slots] at X' e1 e2 h1 h2 h3 st
    subst h1; subst h2; subst h3
    exact Or.inl ⟨v, (T.setVm vm₁).calling g' mk (Value.ref b :: As).toArray, t, U', L, hT, X', hL, e1, e2, hq, st⟩
  · dsimp only [Pt.U, Pt.locs, Pt.cells, Pt.slots] at X' e1 e2 h1 h2 h3 st hcl
    subst h1; subst h2; subst h3
    exact Or.inr ⟨q, (T.setVm vm₁).calling g' mk (Value.ref b :: As).toArray, t, U', L, E, ce, hT, X', hL, e1, e2, hq, hce, hcv, vx_cls hW₁ hcl, st⟩
end VXID
/-! ===== END ===== -/
def RX0 : String := "OrphanTree$History"
def TX0 : u_T := fun k => match k with
  | 0 => ("OrphanTree$History", "past", "[LOrphanTree$Tree;", true)
  | 1 => ("OrphanTree$History", "size", "I", false)
  | _ => ("OrphanTree$History", "next", "I", false)
def tyX0 : Nat → FieldType := fun k => match k with
  | 0 => .array (.object "OrphanTree$Tree")
  | 1 => .int
  | _ => .int
abbrev wsX00 : List Cond := u_ws RX0 TX0 3
theorem nmX0 : ∀ a, a < 3 → ∀ b, b < 3 → a ≠ b → (TX0 a).2.1 ≠ (TX0 b).2.1 := by decide +kernel
theorem tyX0_ok : ∀ k, k < 3 → parseFieldDescriptor (TX0 k).2.2.1 = some (tyX0 k) := by decide +kernel
def RX1 : String := "OrphanTree$Input"
def TX1 : u_T := fun k => match k with
  | 0 => ("OrphanTree$Input", "bytes", "[B", true)
  | _ => ("OrphanTree$Input", "length", "I", false)
def tyX1 : Nat → FieldType := fun k => match k with
  | 0 => .array .byte
  | _ => .int
abbrev wsX10 : List Cond := u_ws RX1 TX1 2
theorem nmX1 : ∀ a, a < 2 → ∀ b, b < 2 → a ≠ b → (TX1 a).2.1 ≠ (TX1 b).2.1 := by decide +kernel
theorem tyX1_ok : ∀ k, k < 2 → parseFieldDescriptor (TX1 k).2.2.1 = some (tyX1 k) := by decide +kernel
def RX2 : String := "OrphanTree$Output"
def TX2 : u_T := fun k => match k with
  | 0 => ("OrphanTree$Output", "bytes", "[B", true)
  | _ => ("OrphanTree$Output", "length", "I", false)
def tyX2 : Nat → FieldType := fun k => match k with
  | 0 => .array .byte
  | _ => .int
abbrev wsX20 : List Cond := u_ws RX2 TX2 2
theorem nmX2 : ∀ a, a < 2 → ∀ b, b < 2 → a ≠ b → (TX2 a).2.1 ≠ (TX2 b).2.1 := by decide +kernel
theorem tyX2_ok : ∀ k, k < 2 → parseFieldDescriptor (TX2 k).2.2.1 = some (tyX2 k) := by decide +kernel
def RX3 : String := "OrphanTree$Proc"
def TX3 : u_T := fun k => match k with
  | 0 => ("OrphanTree$Proc", "number", "I", true)
  | 1 => ("OrphanTree$Proc", "state", "I", false)
  | 2 => ("OrphanTree$Proc", "supervisor", "LOrphanTree$Proc;", false)
  | 3 => ("OrphanTree$Proc", "children", "I", false)
  | 4 => ("OrphanTree$Proc", "capacity", "I", false)
  | 5 => ("OrphanTree$Proc", "group", "I", false)
  | 6 => ("OrphanTree$Proc", "budget", "I", false)
  | 7 => ("OrphanTree$Proc", "heir", "I", false)
  | 8 => ("OrphanTree$Proc", "refused", "I", false)
  | 9 => ("OrphanTree$Proc", "exitCode", "I", false)
  | 10 => ("OrphanTree$Proc", "exitOrder", "I", false)
  | 11 => ("OrphanTree$Proc", "adopted", "I", false)
  | 12 => ("OrphanTree$Proc", "replacement", "I", false)
  | 13 => ("OrphanTree$Proc", "doomed", "Z", false)
  | _ => ("OrphanTree$Proc", "wills", "J", false)
def tyX3 : Nat → FieldType := fun k => match k with
  | 0 => .int
  | 1 => .int
  | 2 => .object "OrphanTree$Proc"
  | 3 => .int
  | 4 => .int
  | 5 => .int
  | 6 => .int
  | 7 => .int
  | 8 => .int
  | 9 => .int
  | 10 => .int
  | 11 => .int
  | 12 => .int
  | 13 => .boolean
  | _ => .long
abbrev wsX30 : List Cond := u_ws RX3 TX3 15
theorem nmX3 : ∀ a, a < 15 → ∀ b, b < 15 → a ≠ b → (TX3 a).2.1 ≠ (TX3 b).2.1 := by decide +kernel
theorem tyX3_ok : ∀ k, k < 15 → parseFieldDescriptor (TX3 k).2.2.1 = some (tyX3 k) := by decide +kernel
def RX4 : String := "OrphanTree$SetupReader"
def TX4 : u_T := fun k => match k with
  | 0 => ("OrphanTree$SetupReader", "input", "LOrphanTree$Input;", true)
  | 1 => ("OrphanTree$SetupReader", "tree", "LOrphanTree$Tree;", true)
  | 2 => ("OrphanTree$SetupReader", "error", "I", false)
  | 3 => ("OrphanTree$SetupReader", "errorStart", "I", false)
  | 4 => ("OrphanTree$SetupReader", "kind", "I", false)
  | 5 => ("OrphanTree$SetupReader", "start", "I", false)
  | 6 => ("OrphanTree$SetupReader", "end", "I", false)
  | 7 => ("OrphanTree$SetupReader", "value", "I", false)
  | 8 => ("OrphanTree$SetupReader", "orderTold", "Z", false)
  | 9 => ("OrphanTree$SetupReader", "deepTold", "Z", false)
  | _ => ("OrphanTree$SetupReader", "rootTold", "Z", false)
def tyX4 : Nat → FieldType := fun k => match k with
  | 0 => .object "OrphanTree$Input"
  | 1 => .object "OrphanTree$Tree"
  | 2 => .int
  | 3 => .int
  | 4 => .int
  | 5 => .int
  | 6 => .int
  | 7 => .int
  | 8 => .boolean
  | 9 => .boolean
  | _ => .boolean
abbrev wsX40 : List Cond := u_ws RX4 TX4 11
theorem nmX4 : ∀ a, a < 11 → ∀ b, b < 11 → a ≠ b → (TX4 a).2.1 ≠ (TX4 b).2.1 := by decide +kernel
theorem tyX4_ok : ∀ k, k < 11 → parseFieldDescriptor (TX4 k).2.2.1 = some (tyX4 k) := by decide +kernel
def RX5 : String := "OrphanTree$Tree"
def TX5 : u_T := fun k => match k with
  | 0 => ("OrphanTree$Tree", "root", "LOrphanTree$Proc;", true)
  | 1 => ("OrphanTree$Tree", "procs", "[LOrphanTree$Proc;", true)
  | 2 => ("OrphanTree$Tree", "holders", "[I", true)
  | 3 => ("OrphanTree$Tree", "rules", "[I", true)
  | 4 => ("OrphanTree$Tree", "deep", "I", false)
  | 5 => ("OrphanTree$Tree", "come", "I", false)
  | 6 => ("OrphanTree$Tree", "exits", "I", false)
  | 7 => ("OrphanTree$Tree", "adoptions", "I", false)
  | 8 => ("OrphanTree$Tree", "rootAdoptions", "I", false)
  | _ => ("OrphanTree$Tree", "replacements", "I", false)
def tyX5 : Nat → FieldType := fun k => match k with
  | 0 => .object "OrphanTree$Proc"
  | 1 => .array (.object "OrphanTree$Proc")
  | 2 => .array .int
  | 3 => .array .int
  | 4 => .int
  | 5 => .int
  | 6 => .int
  | 7 => .int
  | 8 => .int
  | _ => .int
abbrev wsX50 : List Cond := u_ws RX5 TX5 10
theorem nmX5 : ∀ a, a < 10 → ∀ b, b < 10 → a ≠ b → (TX5 a).2.1 ≠ (TX5 b).2.1 := by decide +kernel
theorem tyX5_ok : ∀ k, k < 10 → parseFieldDescriptor (TX5 k).2.2.1 = some (tyX5 k) := by decide +kernel
def RX6 : String := "OrphanTree"
def TX6 : u_T := fun k => match k with
  | 0 => ("OrphanTree", "tree", "LOrphanTree$Tree;", true)
  | 1 => ("OrphanTree", "copy", "LOrphanTree$Tree;", true)
  | 2 => ("OrphanTree", "saved", "LOrphanTree$Tree;", true)
  | 3 => ("OrphanTree", "history", "LOrphanTree$History;", true)
  | 4 => ("OrphanTree", "reader", "LOrphanTree$SetupReader;", true)
  | 5 => ("OrphanTree", "output", "LOrphanTree$Output;", true)
  | _ => ("OrphanTree", "isSaved", "Z", false)
def tyX6 : Nat → FieldType := fun k => match k with
  | 0 => .object "OrphanTree$Tree"
  | 1 => .object "OrphanTree$Tree"
  | 2 => .object "OrphanTree$Tree"
  | 3 => .object "OrphanTree$History"
  | 4 => .object "OrphanTree$SetupReader"
  | 5 => .object "OrphanTree$Output"
  | _ => .boolean
abbrev wsX60 : List Cond := u_ws RX6 TX6 7
theorem nmX6 : ∀ a, a < 7 → ∀ b, b < 7 → a ≠ b → (TX6 a).2.1 ≠ (TX6 b).2.1 := by decide +kernel
theorem tyX6_ok : ∀ k, k < 7 → parseFieldDescriptor (TX6 k).2.2.1 = some (tyX6 k) := by decide +kernel
def RX7 : String := "OrphanTreeModel"
def TX7 : u_T := fun k => match k with
  | 0 => ("OrphanTreeModel", "w", "[I", true)
  | 1 => ("OrphanTreeModel", "wKept", "[I", true)
  | 2 => ("OrphanTreeModel", "aside", "[I", true)
  | 3 => ("OrphanTreeModel", "savedRow", "[I", true)
  | 4 => ("OrphanTreeModel", "past", "[I", true)
  | 5 => ("OrphanTreeModel", "doomed", "[Z", true)
  | 6 => ("OrphanTreeModel", "pastMany", "I", false)
  | 7 => ("OrphanTreeModel", "isSaved", "Z", false)
  | 8 => ("OrphanTreeModel", "thrown", "I", false)
  | 9 => ("OrphanTreeModel", "input", "[I", true)
  | 10 => ("OrphanTreeModel", "inputMany", "I", false)
  | 11 => ("OrphanTreeModel", "lastError", "I", false)
  | 12 => ("OrphanTreeModel", "lastOffset", "I", false)
  | 13 => ("OrphanTreeModel", "error", "I", false)
  | 14 => ("OrphanTreeModel", "offset", "I", false)
  | 15 => ("OrphanTreeModel", "nextByte", "I", false)
  | 16 => ("OrphanTreeModel", "begin", "I", false)
  | 17 => ("OrphanTreeModel", "value", "I", false)
  | 18 => ("OrphanTreeModel", "token", "I", false)
  | 19 => ("OrphanTreeModel", "once", "I", false)
  | 20 => ("OrphanTreeModel", "read", "[I", true)
  | 21 => ("OrphanTreeModel", "deepBefore", "[I", true)
  | 22 => ("OrphanTreeModel", "output", "[I", true)
  | _ => ("OrphanTreeModel", "outputMany", "I", false)
def tyX7 : Nat → FieldType := fun k => match k with
  | 0 => .array .int
  | 1 => .array .int
  | 2 => .array .int
  | 3 => .array .int
  | 4 => .array .int
  | 5 => .array .boolean
  | 6 => .int
  | 7 => .boolean
  | 8 => .int
  | 9 => .array .int
  | 10 => .int
  | 11 => .int
  | 12 => .int
  | 13 => .int
  | 14 => .int
  | 15 => .int
  | 16 => .int
  | 17 => .int
  | 18 => .int
  | 19 => .int
  | 20 => .array .int
  | 21 => .array .int
  | 22 => .array .int
  | _ => .int
abbrev wsX70 : List Cond := u_ws RX7 TX7 24
theorem nmX7 : ∀ a, a < 24 → ∀ b, b < 24 → a ≠ b → (TX7 a).2.1 ≠ (TX7 b).2.1 := by decide +kernel
theorem tyX7_ok : ∀ k, k < 24 → parseFieldDescriptor (TX7 k).2.2.1 = some (tyX7 k) := by decide +kernel
def RL : String := "OrphanTreeLaw"
abbrev vwCl : List vw_C := [(RX0, TX0, 3), (RX1, TX1, 2), (RX2, TX2, 2), (RX3, TX3, 15), (RX4, TX4, 11), (RX5, TX5, 10), (RX6, TX6, 7), (RX7, TX7, 24)]
end
section
/-! ===== an evaluator of the claim's bytecode over a picture of the heap (own work) =====
A value: a number below 2^32, or null or the number of a thing, or a number that depends on the script (which cell of it, if it is one), or a wide one or a float (0: long, 1: float, 2: double).
A thing: its kind (below 20: a class of vwCl; 20 int[], 21 byte[], 22 boolean[], 23 long[], 24 Proc[], 25 Tree[]; 99 nothing yet), how many fields or elements, and these.
A world: the things, how many there are, whether no cell of the heap lies behind them, what this frame has made (cells, slots). -/
abbrev ev_V : Type := Nat ⊕ (Option Nat ⊕ ((Option Nat × ((Nat → Int32) → Int32)) ⊕ (Nat × Nat)))
abbrev ev_C : Type := Nat × (Nat × List (List ev_V))
abbrev ev_W : Type := List (List ev_C) × (Nat × (Bool × (Nat × Nat)))
/-- an instruction: what it does, where it goes on, three operands, a list of operands -/
abbrev ev_E : Type := Nat × (Nat × (Nat × (Nat × (Nat × List Nat))))
/-- a method: its locals, the cells and slots that it may make, its handlers (from, to, handler, class), its code -/
abbrev ev_M : Type := Nat × (Nat × (Nat × (List (Nat × (Nat × (Nat × Nat))) × (Nat → ev_E))))
abbrev ev_L : Type := List (Option ev_V)
/-- an end: an answer; an exception by its number; a stop -/
abbrev ev_S : Type := (Option ev_V × ev_W) ⊕ ((Nat × ev_W) ⊕ (Nat × (ev_L × (List ev_V × ev_W))))
abbrev ev_R : Type := Option ev_S
/-- the script's length, and what is known of its cells (which, from, to; the least number counts as nought) -/
abbrev ev_P : Type := Nat × List (Nat × (Nat × Nat))
abbrev ev_N : Type := Nat → ev_L → List ev_V → ev_W → ev_R
abbrev ev_F : Type := Nat → List ev_V → ev_W → ev_R
abbrev ev_H : Type := ev_P → ev_M → ev_N → ev_F → Nat → Nat → Nat → Nat → List Nat → Nat → ev_L → List ev_V → ev_W → ev_R
noncomputable def ev_lg {α : Type} (l : List α) : Nat → Option α :=
  List.rec (motive := fun _ => Nat → Option α) (fun _ => none) (fun a _ ih n => Nat.rec (motive := fun _ => Option α) (some a) (fun m _ => ih m) n) l
noncomputable def ev_ls {α : Type} (l : List α) : Nat → α → List α :=
  List.rec (motive := fun _ => Nat → α → List α) (fun _ _ => []) (fun a t ih n v => Nat.rec (motive := fun _ => List α) (v :: t) (fun m _ => a :: ih m v) n) l
noncomputable def ev_if {α : Type} (c : Bool) (t e : α) : α := Bool.rec (motive := fun _ => α) e t c
noncomputable def ev_get {α : Type} (t : List (List α)) (i : Nat) : Option α :=
  Option.rec (motive := fun _ => Option α) none (fun c => ev_lg c (i % 32)) (ev_lg t (i / 32))
noncomputable def ev_lso {α : Type} (l : List α) : Nat → α → Option (List α) :=
  List.rec (motive := fun _ => Nat → α → Option (List α)) (fun _ _ => none) (fun a t ih n v => Nat.rec (motive := fun _ => Option (List α)) (some (v :: t)) (fun m _ => Option.rec (motive := fun _ => Option (List α)) none (fun z => some (a :: z)) (ih m v)) n) l
noncomputable def ev_sto {α : Type} (t : List (List α)) (i : Nat) (v : α) : Option (List (List α)) :=
  Option.rec (motive := fun _ => Option (List (List α))) none (fun c => Option.rec (motive := fun _ => Option (List (List α))) none (fun c' => ev_lso t (i / 32) c') (ev_lso c (i % 32) v)) (ev_lg t (i / 32))
/-- element b of the thing q at i becomes v -/
noncomputable def ev_upd (w : ev_W) (i : Nat) (q : ev_C) (b : Nat) (v : ev_V) (kt : ev_W → ev_R) : ev_R :=
  match ev_sto q.2.2 b v with
  | some d => match ev_sto w.1 i (q.1, (q.2.1, d)) with
    | some x => kt (x, w.2)
    | none => none
  | none => none
/-- kinds of values -/
def ev_ii : ev_V → Bool
  | .inl _ => true
  | .inr (.inr (.inl _)) => true
  | _ => false
def ev_ir : ev_V → Bool
  | .inr (.inl _) => true
  | _ => false
def ev_ik (k : Nat) : ev_V → Bool
  | .inr (.inr (.inr (j, _))) => Nat.beq j k
  | _ => false
def ev_wide : ev_V → Bool
  | .inr (.inr (.inr _)) => true
  | _ => false
/-- a value's biased bounds -/
def ev_bi (n : Nat) : Nat := (n + 2147483648) % 4294967296
noncomputable def ev_fl (l : List (Nat × (Nat × Nat))) (i : Nat) : Nat × Nat :=
  List.rec (motive := fun _ => Nat × Nat) (0, 4294967295) (fun q _ ih => ev_if (Nat.beq q.1 i) q.2 ih) l
noncomputable def ev_itv (Φ : ev_P) : ev_V → Option (Nat × Nat)
  | .inl n => some (ev_bi n, ev_bi n)
  | .inr (.inr (.inl (some i, _))) => some (ev_fl Φ.2 i)
  | .inr (.inr (.inl (none, _))) => some (0, 4294967295)
  | _ => none
noncomputable def ev_lt (Φ : ev_P) (x y : ev_V) : Option Bool :=
  match ev_itv Φ x, ev_itv Φ y with
  | some p, some q => ev_if (Nat.ble (p.2 + 1) q.1) (some true) (ev_if (Nat.ble q.2 p.1) (some false) none)
  | _, _ => none
noncomputable def ev_eq (Φ : ev_P) (x y : ev_V) : Option Bool :=
  match ev_itv Φ x, ev_itv Φ y with
  | some p, some q => ev_if (Nat.ble (p.2 + 1) q.1) (some false) (ev_if (Nat.ble (q.2 + 1) p.1) (some false) (ev_if (Nat.beq p.1 p.2 && (Nat.beq q.1 q.2 && Nat.beq p.1 q.1)) (some true) none))
  | _, _ => none
/-- 0: equal, 1: less, 2: greater -/
noncomputable def ev_cmp (Φ : ev_P) (j : Nat) (x y : ev_V) : Option Bool :=
  ev_if (Nat.beq j 0) (ev_eq Φ x y) (ev_if (Nat.beq j 1) (ev_lt Φ x y) (ev_lt Φ y x))
/-- numbers as functions of the script -/
noncomputable def ev_sv (σ : Nat → Int32) (i : Nat) : Int32 := if i < 1000 then σ i else σ (i - 1000) &&& 63
noncomputable def ev_iv : ev_V → Option ((Nat → Int32) → Int32)
  | .inl n => some (fun _ => nI n)
  | .inr (.inr (.inl (some i, _))) => some (fun σ => ev_sv σ i)
  | .inr (.inr (.inl (none, f))) => some f
  | _ => none
noncomputable def ev_b2 (G : Nat → Nat → Nat) (F : Int32 → Int32 → Int32) (x y : ev_V) : Option ev_V :=
  match x, y with
  | .inl m, .inl n => some (.inl (G m n))
  | x, y => match ev_iv x, ev_iv y with
    | some f, some g => some (.inr (.inr (.inl (none, fun σ => F (f σ) (g σ)))))
    | _, _ => none
def ev_n (x : Int32) : Nat := x.toBitVec.toNat
def ev_nl (x : Int64) : Nat := x.toBitVec.toNat
def ev_opI (j : Nat) (x y : Int32) : Int32 :=
  match j with
  | 0 => x * y
  | 1 => x &&& y
  | 2 => x ||| y
  | 3 => x ^^^ y
  | 4 => x <<< (y &&& 31)
  | 5 => x >>> (y &&& 31)
  | 6 => (x.toUInt32 >>> (y.toUInt32 &&& Int32.toUInt32 31)).toInt32
  | _ => 0
def ev_opL (j : Nat) (x y : Int64) : Int64 :=
  match j with
  | 0 => x &&& y
  | _ => x ||| y
def ev_opS (j : Nat) (x : Int64) (y : Int32) : Int64 :=
  match j with
  | 0 => x >>> (y.toInt64 &&& 63)
  | _ => x <<< (y.toInt64 &&& 63)
/-- the local ahead isn't of two slots -/
noncomputable def ev_nw (loc : ev_L) (a : Nat) : Bool :=
  match a with
  | 0 => true
  | k + 1 => match ev_lg loc k with
    | some (some v) => !ev_wide v
    | _ => true
/-- units of a stack -/
noncomputable def ev_cs : List ev_V → Nat
  | [] => 0
  | v :: r => ev_if (ev_wide v) 2 1 + ev_cs r
noncomputable def ev_sp (n : Nat) : List ev_V → List ev_V → Option (List ev_V × List ev_V) :=
  Nat.rec (motive := fun _ => List ev_V → List ev_V → Option (List ev_V × List ev_V)) (fun acc st => some (acc, st)) (fun _ ih acc st => match st with
    | [] => none
    | v :: r => ih (v :: acc) r) n
def ev_dv (c : Nat) : ev_V := match c with
  | 0 => .inl 0
  | 1 => .inr (.inl none)
  | _ => .inr (.inr (.inr (0, 0)))
/-- may a value stand in a field of this type: 0 int, 1 boolean, 2 reference, 3 long -/
def ev_fits (c : Nat) (v : ev_V) : Bool := match c with
  | 0 => ev_ii v
  | 1 => match v with
    | .inl n => Nat.ble n 1
    | _ => false
  | 2 => ev_ir v
  | _ => ev_ik 0 v
/-- may so many cells and slots be made -/
noncomputable def ev_may (M : ev_M) (w : ev_W) (c s : Nat) : Bool := Nat.ble (w.2.2.2.1 + c) M.2.1 && Nat.ble (w.2.2.2.2 + s) M.2.2.1
/-! the instructions -/
noncomputable def ev_h_none : ev_H := fun _ _ _ _ _ _ _ _ _ _ _ _ _ => none
noncomputable def ev_h_int : ev_H := fun _ _ k _ nx a _ _ _ _ loc st w => k nx loc (.inl a :: st) w
noncomputable def ev_h_null : ev_H := fun _ _ k _ nx _ _ _ _ _ loc st w => k nx loc (.inr (.inl none) :: st) w
noncomputable def ev_h_wide : ev_H := fun _ _ k _ nx a b _ _ _ loc st w => k nx loc (.inr (.inr (.inr (a, b))) :: st) w
noncomputable def ev_h_iload : ev_H := fun _ _ k _ nx a _ _ _ _ loc st w =>
  match ev_lg loc a with
  | some (some v) => ev_if (ev_ii v) (k nx loc (v :: st) w) none
  | _ => none
noncomputable def ev_h_aload : ev_H := fun _ _ k _ nx a _ _ _ _ loc st w =>
  match ev_lg loc a with
  | some (some v) => ev_if (ev_ir v) (k nx loc (v :: st) w) none
  | _ => none
noncomputable def ev_h_dload : ev_H := fun _ _ k _ nx a _ _ _ _ loc st w =>
  match ev_lg loc a with
  | some (some v) => ev_if (ev_ik 2 v) (k nx loc (v :: st) w) none
  | _ => none
noncomputable def ev_h_istore : ev_H := fun _ _ k _ nx a _ _ _ _ loc st w =>
  match st with
  | v :: r => ev_if (ev_ii v && ev_nw loc a) (k nx (ev_ls loc a (some v)) r w) none
  | _ => none
noncomputable def ev_h_astore : ev_H := fun _ _ k _ nx a _ _ _ _ loc st w =>
  match st with
  | v :: r => ev_if (ev_ir v && ev_nw loc a) (k nx (ev_ls loc a (some v)) r w) none
  | _ => none
noncomputable def ev_h_dstore : ev_H := fun _ _ k _ nx a _ _ _ _ loc st w =>
  match st with
  | v :: r => ev_if (ev_ik 2 v && ev_nw loc a) (k nx (ev_ls (ev_ls loc a (some v)) (a + 1) none) r w) none
  | _ => none
noncomputable def ev_h_iinc : ev_H := fun _ _ k _ nx a b _ _ _ loc st w =>
  match ev_lg loc a with
  | some (some (.inl n)) => ev_if (ev_nw loc a) (k nx (ev_ls loc a (some (.inl ((n + b) % 4294967296)))) st w) none
  | _ => none
noncomputable def ev_h_iadd : ev_H := fun _ _ k _ nx _ _ _ _ _ loc st w =>
  match st with
  | y :: x :: r => match ev_b2 (fun m n => (m + n) % 4294967296) (fun p q => p + q) x y with
    | some z => k nx loc (z :: r) w
    | none => none
  | _ => none
noncomputable def ev_h_isub : ev_H := fun _ _ k _ nx _ _ _ _ _ loc st w =>
  match st with
  | y :: x :: r => match ev_b2 (fun m n => (m + (4294967296 - n % 4294967296)) % 4294967296) (fun p q => p - q) x y with
    | some z => k nx loc (z :: r) w
    | none => none
  | _ => none
noncomputable def ev_h_ibin : ev_H := fun _ _ k _ nx a _ _ _ _ loc st w =>
  match st with
  | y :: x :: r => match ev_b2 (fun m n => ev_n (ev_opI a (nI m) (nI n))) (ev_opI a) x y with
    | some z => k nx loc (z :: r) w
    | none => none
  | _ => none
/-- a cell of the script, its last six bits -/
noncomputable def ev_h_iand63 : ev_H := fun Φ M k cl nx a b c tg pc loc st w =>
  match st with
  | .inl 63 :: .inr (.inr (.inl (some i, _))) :: r => ev_if (Nat.ble (i + 1) 1000) (k nx loc (.inr (.inr (.inl (some (i + 1000), fun _ => 0))) :: r) w) none
  | _ => ev_h_ibin Φ M k cl nx a b c tg pc loc st w
noncomputable def ev_h_idiv : ev_H := fun _ _ k _ nx a _ _ _ _ loc st w =>
  match st with
  | .inl y :: .inl x :: r => ev_if (Nat.ble 1 y && (Nat.ble (y + 1) 2147483648 && Nat.ble (x + 1) 2147483648)) (k nx loc (.inl (ev_if (Nat.beq a 0) (x / y) (x % y)) :: r) w) none
  | _ => none
noncomputable def ev_br (o : Option Bool) (t f : ev_R) : ev_R := match o with
  | some true => t
  | some false => f
  | none => none
noncomputable def ev_h_if0 : ev_H := fun Φ _ k _ _ a b c _ _ loc st w =>
  match st with
  | x :: r => ev_br (ev_cmp Φ a x (.inl 0)) (k b loc r w) (k c loc r w)
  | _ => none
noncomputable def ev_h_icmp : ev_H := fun Φ _ k _ _ a b c _ _ loc st w =>
  match st with
  | y :: x :: r => ev_br (ev_cmp Φ a x y) (k b loc r w) (k c loc r w)
  | _ => none
noncomputable def ev_oeq (x y : Option Nat) : Bool := match x, y with
  | some m, some n => Nat.beq m n
  | none, none => true
  | _, _ => false
noncomputable def ev_own (x : Option Nat) : Bool := match x with
  | some m => Nat.ble (m + 1) 1000000
  | none => true
noncomputable def ev_h_acmp : ev_H := fun _ _ k _ _ _ b c _ _ loc st w =>
  match st with
  | .inr (.inl y) :: .inr (.inl x) :: r => ev_if (ev_own x && ev_own y) (ev_if (ev_oeq x y) (k b loc r w) (k c loc r w)) none
  | _ => none
noncomputable def ev_h_isnull : ev_H := fun _ _ k _ _ _ b c _ _ loc st w =>
  match st with
  | .inr (.inl none) :: r => k b loc r w
  | .inr (.inl (some _)) :: r => k c loc r w
  | _ => none
noncomputable def ev_h_goto : ev_H := fun _ _ k _ nx _ _ _ _ _ loc st w => k nx loc st w
noncomputable def ev_h_dup : ev_H := fun _ _ k _ nx _ _ _ _ _ loc st w =>
  match st with
  | x :: r => ev_if (!ev_wide x) (k nx loc (x :: x :: r) w) none
  | _ => none
noncomputable def ev_h_dup2 : ev_H := fun _ _ k _ nx _ _ _ _ _ loc st w =>
  match st with
  | x :: y :: r => ev_if (!ev_wide x && !ev_wide y) (k nx loc (x :: y :: x :: y :: r) w) none
  | _ => none
noncomputable def ev_h_pop : ev_H := fun _ _ k _ nx _ _ _ _ _ loc st w =>
  match st with
  | x :: r => ev_if (!ev_wide x) (k nx loc r w) none
  | _ => none
noncomputable def ev_h_getf : ev_H := fun _ _ k _ nx a b _ _ _ loc st w =>
  match st with
  | .inr (.inl (some i)) :: r => match ev_get w.1 i with
    | some q => ev_if (Nat.beq q.1 a) (match ev_get q.2.2 b with
      | some v => k nx loc (v :: r) w
      | none => none) none
    | none => none
  | _ => none
noncomputable def ev_h_putf : ev_H := fun _ _ k _ nx a b c _ _ loc st w =>
  match st with
  | v :: .inr (.inl (some i)) :: r => match ev_get w.1 i with
    | some q => ev_if (Nat.beq q.1 a && ev_fits c v) (ev_upd w i q b v (k nx loc r)) none
    | none => none
  | _ => none
noncomputable def ev_h_alen : ev_H := fun Φ _ k _ nx _ _ _ _ _ loc st w =>
  match st with
  | .inr (.inl (some i)) :: r => ev_if (Nat.beq i 1000000) (k nx loc (.inl Φ.1 :: r) w) (match ev_get w.1 i with
    | some q => ev_if (Nat.ble 20 q.1 && Nat.ble q.1 25) (k nx loc (.inl q.2.1 :: r) w) none
    | none => none)
  | _ => none
/-- from an array of a kind from a to b -/
noncomputable def ev_h_ald : ev_H := fun _ _ k _ nx a b _ _ _ loc st w =>
  match st with
  | .inl j :: .inr (.inl (some i)) :: r => match ev_get w.1 i with
    | some q => ev_if (Nat.ble a q.1 && (Nat.ble q.1 b && (Nat.ble (j + 1) q.2.1 && Nat.ble q.2.1 65536))) (match ev_get q.2.2 j with
      | some v => k nx loc (v :: r) w
      | none => none) none
    | none => none
  | _ => none
/-- the same for ints: from the script, too -/
noncomputable def ev_h_iald : ev_H := fun Φ M k cl nx a b c tg pc loc st w =>
  match st with
  | .inl j :: .inr (.inl (some i)) :: r => ev_if (Nat.beq i 1000000) (ev_if (Nat.ble (j + 1) Φ.1 && Nat.ble Φ.1 1000) (k nx loc (.inr (.inr (.inl (some j, fun _ => 0))) :: r) w) none) (ev_h_ald Φ M k cl nx a b c tg pc loc st w)
  | _ => none
noncomputable def ev_h_iast : ev_H := fun _ _ k _ nx _ _ _ _ _ loc st w =>
  match st with
  | v :: .inl j :: .inr (.inl (some i)) :: r => match ev_get w.1 i with
    | some q => ev_if (Nat.beq q.1 20 && (ev_ii v && (Nat.ble (j + 1) q.2.1 && Nat.ble q.2.1 65536))) (ev_upd w i q j v (k nx loc r)) none
    | none => none
  | _ => none
def ev_nb : ev_V → Option ev_V
  | .inl n => some (.inl (ev_n (nI n).toInt8.toInt32))
  | .inr (.inr (.inl (none, f))) => some (.inr (.inr (.inl (none, fun σ => (f σ).toInt8.toInt32))))
  | _ => none
/-- into a byte[] what is a byte, into a boolean[] 0 or 1 -/
noncomputable def ev_h_bast : ev_H := fun _ _ k _ nx _ _ _ _ _ loc st w =>
  match st with
  | v :: .inl j :: .inr (.inl (some i)) :: r => match ev_get w.1 i with
    | some q => ev_if (Nat.ble (j + 1) q.2.1 && Nat.ble q.2.1 65536)
      (ev_if (Nat.beq q.1 21) (match ev_nb v with
        | some z => ev_upd w i q j z (k nx loc r)
        | none => none) (ev_if (Nat.beq q.1 22 && ev_fits 1 v) (ev_upd w i q j v (k nx loc r)) none)) none
    | none => none
  | _ => none
noncomputable def ev_h_last : ev_H := fun _ _ k _ nx _ _ _ _ _ loc st w =>
  match st with
  | v :: .inl j :: .inr (.inl (some i)) :: r => match ev_get w.1 i with
    | some q => ev_if (Nat.beq q.1 23 && (ev_ik 0 v && (Nat.ble (j + 1) q.2.1 && Nat.ble q.2.1 65536))) (ev_upd w i q j v (k nx loc r)) none
    | none => none
  | _ => none
/-- a Proc (3) into a Proc[] (24), a Tree (5) into a Tree[] (25): the class is asked of the program -/
noncomputable def ev_h_aast (cP cT : Nat) : ev_H := fun _ _ k _ nx _ _ _ _ _ loc st w =>
  match st with
  | .inr (.inl (some x)) :: .inl j :: .inr (.inl (some i)) :: r => match ev_get w.1 i, ev_get w.1 x with
    | some q, some u => ev_if ((ev_if (Nat.beq q.1 24) (Nat.beq u.1 cP) (Nat.beq q.1 25 && Nat.beq u.1 cT)) && (Nat.ble (j + 1) q.2.1 && Nat.ble q.2.1 65536)) (ev_upd w i q j (.inr (.inl (some x))) (k nx loc r)) none
    | _, _ => none
  | _ => none
/-- a new thing q of s slots -/
noncomputable def ev_mk (w : ev_W) (q : ev_C) (s : Nat) (kt : ev_W → ev_R) : ev_R :=
  ev_if w.2.2.1 (match ev_sto w.1 w.2.1 q with
    | some x => kt (x, (w.2.1 + 1, (true, (w.2.2.2.1 + 1, w.2.2.2.2 + s))))
    | none => none) none
noncomputable def ev_h_new : ev_H := fun _ M k _ nx a b _ tg _ loc st w =>
  ev_if (ev_may M w 1 b) (ev_mk w (a, (b, [tg.map ev_dv])) b (k nx loc (.inr (.inl (some w.2.1)) :: st))) none
noncomputable def ev_rows (n : Nat) (v : ev_V) : List (List ev_V) := List.replicate (n / 32 + 1) (List.replicate 32 v)
noncomputable def ev_h_newa : ev_H := fun _ M k _ nx a b _ _ _ loc st w =>
  match st with
  | .inl n :: r => ev_if (ev_may M w 1 n && Nat.ble n 65536) (ev_mk w (a, (n, ev_rows n (ev_dv b))) n (k nx loc (.inr (.inl (some w.2.1)) :: r))) none
  | _ => none
/-- behind a call -/
noncomputable def ev_back (w w2 : ev_W) (c s : Nat) : ev_W := (w2.1, (w2.2.1, (w2.2.2.1, (w.2.2.2.1 + c, w.2.2.2.2 + s))))
/-- which handler takes exception E over pc -/
noncomputable def ev_hd (l : List (Nat × (Nat × (Nat × Nat)))) (pc E : Nat) : Option Nat :=
  List.rec (motive := fun _ => Option Nat) none (fun q _ ih => ev_if (Nat.ble q.1 pc && Nat.ble (pc + 1) q.2.1) (ev_if (Nat.beq q.2.2.2 E) (some q.2.2.1) ih) ih) l
/-- an exception over pc: caught by a handler that begins with a store of it, or on to the caller -/
noncomputable def ev_exc (M : ev_M) (k : ev_N) (pc E : Nat) (loc : ev_L) (w : ev_W) : ev_R :=
  match ev_hd M.2.2.2.1 pc E with
  | none => ev_if (ev_may M w 0 0) (some (.inr (.inl (E, w)))) none
  | some h => match M.2.2.2.2 h with
    | (op, (nx, (a, _))) => ev_if (Nat.beq op 10 && ev_nw loc a) (k nx (ev_ls loc a none) [] w) none
/-- the receiver's class is asked (its number + 1; 0: not asked) -/
noncomputable def ev_rc (c : Nat) (As : List ev_V) (w : ev_W) : Bool := match c, As with
  | 0, _ => true
  | ci + 1, .inr (.inl (some i)) :: _ => match ev_get w.1 i with
    | some q => Nat.beq q.1 ci
    | none => false
  | _, _ => false
noncomputable def ev_cont (M : ev_M) (k : ev_N) (nx pc : Nat) (loc : ev_L) (r : List ev_V) (w : ev_W) (mc ms : Nat) (o : ev_R) : ev_R := match o with
  | some (.inl (some v, w2)) => k nx loc (v :: r) (ev_back w w2 mc ms)
  | some (.inl (none, w2)) => k nx loc r (ev_back w w2 mc ms)
  | some (.inr (.inl (E, w2))) => ev_exc M k pc E loc (ev_back w w2 mc ms)
  | _ => none
/-- a call: a which method, b how many things come off the stack, c the receiver's class + 1 (0: not asked) -/
noncomputable def ev_h_call : ev_H := fun _ M k cl nx a b c tg pc loc st w =>
  match ev_sp b [] st with
  | some (As, r) => match tg with
    | [mc, ms] => ev_if (Nat.ble (ev_cs r) 8 && (ev_may M w mc ms && As.all (fun v => !ev_wide v))) (ev_if (ev_rc c As w) (ev_cont M k nx pc loc r w mc ms (cl a As (w.1, (w.2.1, (w.2.2.1, (0, 0)))))) none) none
    | _ => none
  | none => none
noncomputable def ev_h_objinit : ev_H := fun _ _ k _ nx _ _ _ _ _ loc st w =>
  match st with
  | .inr (.inl (some _)) :: r => ev_if (Nat.ble (ev_cs r) 8) (k nx loc r w) none
  | _ => none
noncomputable def ev_h_throw : ev_H := fun _ M _ _ _ a _ _ _ _ _ st w =>
  ev_if (ev_may M w 1 6 && Nat.ble (ev_cs st) 8) (some (.inr (.inl (a, (w.1, (w.2.1, (false, (w.2.2.2.1 + 1, w.2.2.2.2 + 6)))))))) none
noncomputable def ev_h_vret : ev_H := fun _ M _ _ _ _ _ _ _ _ _ st w =>
  match st with
  | [] => ev_if (ev_may M w 0 0) (some (.inl (none, w))) none
  | _ => none
/-- a: 0 int, 1 boolean -/
noncomputable def ev_h_iret : ev_H := fun _ M _ _ _ a _ _ _ _ _ st w =>
  match st with
  | [v] => ev_if (ev_fits a v && ev_may M w 0 0) (some (.inl (some v, w))) none
  | _ => none
noncomputable def ev_h_aret : ev_H := fun _ M _ _ _ _ _ _ _ _ _ st w =>
  match st with
  | [v] => ev_if (ev_ir v && ev_may M w 0 0) (some (.inl (some v, w))) none
  | _ => none
noncomputable def ev_h_wret : ev_H := fun _ M _ _ _ a _ _ _ _ _ st w =>
  match st with
  | [v] => ev_if (ev_ik a v && ev_may M w 0 0) (some (.inl (some v, w))) none
  | _ => none
/-- a, b: the least and the greatest case, biased; c: the default -/
noncomputable def ev_h_switch : ev_H := fun Φ _ k _ _ a b c tg _ loc st w =>
  match st with
  | x :: r => match ev_itv Φ x with
    | some p => ev_if (Nat.ble (p.2 + 1) a || Nat.ble (b + 1) p.1) (k c loc r w) (ev_if (Nat.beq p.1 p.2 && (Nat.ble a p.1 && Nat.ble p.1 b)) (match ev_lg tg (p.1 - a) with
      | some t => k t loc r w
      | none => none) none)
    | none => none
  | _ => none
/-- from one value to another: 0 i2l, 1 l2i, 2 i2d, 3 i2f, 4 f2d, 5 i2b, 6 i2c -/
def ev_n64 (r : UInt64) : Bool := decide (r &&& 0x7fffffffffffffff ≤ 0x7ff0000000000000)
def ev_n32 (r : UInt32) : Bool := decide (r &&& 0x7fffffff ≤ 0x7f800000)
noncomputable def ev_cv (j : Nat) (v : ev_V) : Option ev_V :=
  match j, v with
  | 0, .inl n => some (.inr (.inr (.inr (0, ev_nl (nI n).toInt64))))
  | 1, .inr (.inr (.inr (0, n))) => some (.inl (ev_n (lN n).toInt32))
  | 2, .inl n => some (.inr (.inr (.inr (2, (FP.i2d (nI n)).toNat))))
  | 3, .inl n => some (.inr (.inr (.inr (1, (FP.i2f (nI n)).toNat))))
  | 4, .inr (.inr (.inr (1, n))) => ev_if (ev_n64 (FP.f2d (UInt32.ofNat n))) (some (.inr (.inr (.inr (2, (FP.f2d (UInt32.ofNat n)).toNat))))) none
  | 5, .inl n => some (.inl (ev_n (nI n).toInt8.toInt32))
  | 5, .inr (.inr (.inl (none, f))) => some (.inr (.inr (.inl (none, fun σ => (f σ).toInt8.toInt32))))
  | 6, .inl n => some (.inl (n % 65536))
  | _, _ => none
noncomputable def ev_h_cv : ev_H := fun _ _ k _ nx a _ _ _ _ loc st w =>
  match st with
  | x :: r => match ev_cv a x with
    | some z => k nx loc (z :: r) w
    | none => none
  | _ => none
/-- two values to one: 0 ddiv, 1 fdiv, 2 dcmpl, 3 dcmpg, 4 lcmp, 5 lshr, 6 lshl, 7 land, 8 lor, 9 Math.max -/
noncomputable def ev_w2 (j : Nat) (x y : ev_V) : Option ev_V :=
  match j, x, y with
  | 0, .inr (.inr (.inr (2, m))), .inr (.inr (.inr (2, n))) => ev_if (ev_n64 (FP.ddiv (UInt64.ofNat m) (UInt64.ofNat n))) (some (.inr (.inr (.inr (2, (FP.ddiv (UInt64.ofNat m) (UInt64.ofNat n)).toNat))))) none
  | 1, .inr (.inr (.inr (1, m))), .inr (.inr (.inr (1, n))) => ev_if (ev_n32 (FP.fdiv (UInt32.ofNat m) (UInt32.ofNat n))) (some (.inr (.inr (.inr (1, (FP.fdiv (UInt32.ofNat m) (UInt32.ofNat n)).toNat))))) none
  | 2, .inr (.inr (.inr (2, m))), .inr (.inr (.inr (2, n))) => some (.inl (ev_n (Op.cmpValue (FP.dcmp (UInt64.ofNat m) (UInt64.ofNat n)) .l)))
  | 3, .inr (.inr (.inr (2, m))), .inr (.inr (.inr (2, n))) => some (.inl (ev_n (Op.cmpValue (FP.dcmp (UInt64.ofNat m) (UInt64.ofNat n)) .g)))
  | 4, .inr (.inr (.inr (0, m))), .inr (.inr (.inr (0, n))) => some (.inl (ev_n (lg_cmp (lN m) (lN n))))
  | 5, .inr (.inr (.inr (0, m))), .inl n => some (.inr (.inr (.inr (0, ev_nl (ev_opS 0 (lN m) (nI n))))))
  | 6, .inr (.inr (.inr (0, m))), .inl n => some (.inr (.inr (.inr (0, ev_nl (ev_opS 1 (lN m) (nI n))))))
  | 7, .inr (.inr (.inr (0, m))), .inr (.inr (.inr (0, n))) => some (.inr (.inr (.inr (0, ev_nl (ev_opL 0 (lN m) (lN n))))))
  | 8, .inr (.inr (.inr (0, m))), .inr (.inr (.inr (0, n))) => some (.inr (.inr (.inr (0, ev_nl (ev_opL 1 (lN m) (lN n))))))
  | 9, .inl m, .inl n => some (.inl (ev_if (Nat.ble (ev_bi m + 1) (ev_bi n)) n m))
  | _, _, _ => none
noncomputable def ev_h_w2 : ev_H := fun _ M k _ nx a _ _ _ _ loc st w =>
  match st with
  | y :: x :: r => match ev_w2 a x y with
    | some z => ev_if (Nat.ble (ev_cs r) 8 && ev_may M w 0 0) (k nx loc (z :: r) w) none
    | none => none
  | _ => none
/-- System.arraycopy between int[]s, from their beginnings -/
noncomputable def ev_cpy (n : Nat) (f g : List (List ev_V)) : Option (List (List ev_V)) :=
  Nat.rec (motive := fun _ => Option (List (List ev_V))) (some g) (fun i ih => match ih, ev_get f i with
    | some h, some v => ev_if (ev_ii v) (ev_sto h i v) none
    | _, _ => none) n
noncomputable def ev_h_copy : ev_H := fun _ _ k _ nx _ _ _ _ _ loc st w =>
  match st with
  | .inl n :: .inl 0 :: .inr (.inl (some i)) :: .inl 0 :: .inr (.inl (some i0)) :: r => match ev_get w.1 i, ev_get w.1 i0 with
    | some q, some q0 => ev_if (Nat.beq q.1 20 && (Nat.beq q0.1 20 && (Nat.ble n q.2.1 && (Nat.ble n q0.2.1 && (Nat.ble q.2.1 65536 && (Nat.ble q0.2.1 65536 && Nat.ble (ev_cs r) 8)))))) (match ev_cpy n q0.2.2 q.2.2 with
      | some z => match ev_sto w.1 i (q.1, (q.2.1, z)) with
        | some x => k nx loc r (x, w.2)
        | none => none
      | none => none) none
    | _, _ => none
  | _ => none
noncomputable def ev_h_stop : ev_H := fun _ _ _ _ _ a _ _ _ _ loc st w => some (.inr (.inr (a, (loc, (st, w)))))
/-! which is which: two digits, eight to each -/
noncomputable def ev_sw (n : Nat) (f g : Nat → ev_H) : Nat → ev_H := fun op => Bool.rec (motive := fun _ => ev_H) (g op) (f op) (Nat.ble op n)
noncomputable def ev_k (h : ev_H) : Nat → ev_H := fun _ => h
noncomputable def ev_sel : Nat → ev_H := (ev_sw 25 (ev_sw 13 (ev_sw 7 (ev_sw 2 (ev_sw 1 (ev_sw 0 (ev_k ev_h_none) (ev_k ev_h_int)) (ev_k ev_h_null)) (ev_sw 6 (ev_sw 3 (ev_k ev_h_wide) (ev_k ev_h_iload)) (ev_k ev_h_aload))) (ev_sw 10 (ev_sw 9 (ev_sw 8 (ev_k ev_h_dload) (ev_k ev_h_istore)) (ev_k ev_h_astore)) (ev_sw 12 (ev_sw 11 (ev_k ev_h_dstore) (ev_k ev_h_iinc)) (ev_k ev_h_iadd)))) (ev_sw 19 (ev_sw 16 (ev_sw 15 (ev_sw 14 (ev_k ev_h_isub) (ev_k ev_h_ibin)) (ev_k ev_h_if0)) (ev_sw 18 (ev_sw 17 (ev_k ev_h_icmp) (ev_k ev_h_acmp)) (ev_k ev_h_isnull))) (ev_sw 22 (ev_sw 21 (ev_sw 20 (ev_k ev_h_goto) (ev_k ev_h_dup)) (ev_k ev_h_dup2)) (ev_sw 24 (ev_sw 23 (ev_k ev_h_pop) (ev_k ev_h_getf)) (ev_k ev_h_putf))))) (ev_sw 37 (ev_sw 31 (ev_sw 28 (ev_sw 27 (ev_sw 26 (ev_k ev_h_alen) (ev_k ev_h_iald)) (ev_k ev_h_iast)) (ev_sw 30 (ev_sw 29 (ev_k ev_h_ald) (ev_k ev_h_bast)) (ev_k ev_h_last))) (ev_sw 34 (ev_sw 33 (ev_sw 32 (ev_k (ev_h_aast 3 5)) (ev_k ev_h_new)) (ev_k ev_h_newa)) (ev_sw 36 (ev_sw 35 (ev_k ev_h_call) (ev_k ev_h_objinit)) (ev_k ev_h_throw)))) (ev_sw 43 (ev_sw 40 (ev_sw 39 (ev_sw 38 (ev_k ev_h_vret) (ev_k ev_h_iret)) (ev_k ev_h_aret)) (ev_sw 42 (ev_sw 41 (ev_k ev_h_wret) (ev_k ev_h_switch)) (ev_k ev_h_cv))) (ev_sw 46 (ev_sw 45 (ev_sw 44 (ev_k ev_h_w2) (ev_k ev_h_copy)) (ev_k ev_h_stop)) (ev_sw 47 (ev_k ev_h_idiv) (ev_k ev_h_iand63))))))
/-- one instruction -/
noncomputable def ev_exec (Φ : ev_P) (M : ev_M) (k : ev_N) (cl : ev_F) (x : ev_E) (pc : Nat) (loc : ev_L) (st : List ev_V) (w : ev_W) : ev_R :=
  Prod.rec (motive := fun _ => ev_R) (fun op x => Prod.rec (motive := fun _ => ev_R) (fun nx x => Prod.rec (motive := fun _ => ev_R) (fun a x => Prod.rec (motive := fun _ => ev_R) (fun b x => Prod.rec (motive := fun _ => ev_R) (fun c tg => ev_sel op Φ M k cl nx a b c tg pc loc st w) x) x) x) x) x
/-- the locals at a method's start -/
noncomputable def ev_loc (n : Nat) (As : List ev_V) : ev_L := As.map some ++ List.replicate (n - As.length) none
/-- d: how many calls deep it may still go -/
noncomputable def ev_run (Φ : ev_P) (P : Nat → ev_M) (n : Nat) : Nat → ev_M → ev_N :=
  Nat.rec (motive := fun _ => Nat → ev_M → ev_N) (fun _ _ _ _ _ _ => none)
    (fun _ ih d M pc loc st w => ev_exec Φ M (ih d M) (fun mi As w => Nat.rec (motive := fun _ => ev_R) none (fun d' _ => ih d' (P mi) 0 (ev_loc (P mi).1 As) [] w) d) (M.2.2.2.2 pc) pc loc st w) n
/-- a method's code as a tree -/
noncomputable def ev_ct (n : Nat) (f g : Nat → ev_E) : Nat → ev_E := fun pc => Bool.rec (motive := fun _ => ev_E) (g pc) (f pc) (Nat.ble pc n)
noncomputable def ev_cl (x : ev_E) : Nat → ev_E := fun _ => x
noncomputable def ev_mt (n : Nat) (f g : Nat → ev_M) : Nat → ev_M := fun i => Bool.rec (motive := fun _ => ev_M) (g i) (f i) (Nat.ble i n)
noncomputable def ev_ml (x : ev_M) : Nat → ev_M := fun _ => x
end
section
/-! ===== what the evaluator's values, things and worlds say of the machine (own work) ===== -/
theorem ev_lg_eq {α : Type} (l : List α) : ∀ n, ev_lg l n = l[n]? := by
  induction l with
  | nil => intro n; rfl
  | cons a t ih =>
    intro n
    cases n with
    | zero => rfl
    | succ m => exact (ih m).trans (by simp)
theorem ev_ls_eq {α : Type} (l : List α) : ∀ n v, ev_ls l n v = l.set n v := by
  induction l with
  | nil => intro n v; rfl
  | cons a t ih =>
    intro n v
    cases n with
    | zero => rfl
    | succ m =>
      show a :: ev_ls t m v = _
      rw [ih]
      rfl
theorem ev_if_t {α : Type} {t e : α} : ev_if true t e = t := rfl
theorem ev_if_f {α : Type} {t e : α} : ev_if false t e = e := rfl
theorem ev_if_n {α : Type} {c : Bool} {t : Option α} {r : α} (h : ev_if c t none = some r) : c = true ∧ t = some r := by
  cases c
  · cases h
  · exact ⟨rfl, h⟩
theorem ev_get_eq {α : Type} (t : List (List α)) (i : Nat) : ev_get t i = (t[i / 32]?).bind (fun c => c[i % 32]?) := by
  unfold ev_get
  rw [ev_lg_eq]
  cases h : t[i / 32]? with
  | none => rfl
  | some c => exact ev_lg_eq c _
theorem ev_lso_eq {α : Type} (l : List α) : ∀ n v l', ev_lso l n v = some l' → n < l.length ∧ l' = l.set n v := by
  induction l with
  | nil => intro n v l' h; exact absurd h (fun z => by cases z)
  | cons a t ih =>
    intro n v l' h
    cases n with
    | zero =>
      have h : some (v :: t) = some l' := h
      cases h
      exact ⟨by simp, rfl⟩
    | succ m =>
      have h : (Option.rec none (fun z => some (a :: z)) (ev_lso t m v) : Option (List α)) = some l' := h
      cases hz : ev_lso t m v with
      | none => rw [hz] at h; exact absurd h (fun z => by cases z)
      | some z =>
        rw [hz] at h
        have h : some (a :: z) = some l' := h
        cases h
        obtain ⟨h1, h2⟩ := ih m v z hz
        exact ⟨by simpa using h1, by rw [h2]; rfl⟩
theorem ev_sto_ok {α : Type} {t t' : List (List α)} {i : Nat} {v : α} (h : ev_sto t i v = some t') : (∃ u, ev_get t i = some u) ∧ ∀ j, ev_get t' j = if j = i then some v else ev_get t j := by
  unfold ev_sto at h
  rw [ev_lg_eq] at h
  cases hc : t[i / 32]? with
  | none => rw [hc] at h; exact absurd h (fun z => by cases z)
  | some c =>
    rw [hc] at h
    have h : (Option.rec none (fun c' => ev_lso t (i / 32) c') (ev_lso c (i % 32) v) : Option (List (List α))) = some t' := h
    cases hz : ev_lso c (i % 32) v with
    | none => rw [hz] at h; exact absurd h (fun z => by cases z)
    | some c' =>
      rw [hz] at h
      obtain ⟨hl2, rfl⟩ := ev_lso_eq c _ _ _ hz
      obtain ⟨hl1, rfl⟩ := ev_lso_eq t _ _ _ h
      refine ⟨⟨c[i % 32], ?_⟩, fun j => ?_⟩
      · rw [ev_get_eq, hc]
        exact List.getElem?_eq_getElem hl2
      · rw [ev_get_eq, ev_get_eq]
        by_cases h1 : j / 32 = i / 32
        · rw [h1, List.getElem?_set_self hl1, hc]
          show (c.set (i % 32) v)[j % 32]? = _
          by_cases h2 : j % 32 = i % 32
          · have : j = i := by omega
            rw [if_pos this, h2, List.getElem?_set_self hl2]
          · have : ¬ j = i := fun q => h2 (by rw [q])
            rw [if_neg this, List.getElem?_set_ne (fun q => h2 q.symm)]
            rfl
        · have : ¬ j = i := fun q => h1 (by rw [q])
          rw [if_neg this, List.getElem?_set_ne (fun q => h1 q.symm)]
theorem ev_upd_ok {w : ev_W} {i b : Nat} {q : ev_C} {v : ev_V} {kt : ev_W → ev_R} {r : ev_S} (h : ev_upd w i q b v kt = some r) :
    ∃ (d : List (List ev_V)) (x : List (List ev_C)) (u : ev_V), ev_get q.2.2 b = some u ∧ (∀ j, ev_get d j = if j = b then some v else ev_get q.2.2 j) ∧ (∀ j, ev_get x j = if j = i then some (q.1, (q.2.1, d)) else ev_get w.1 j) ∧ kt (x, w.2) = some r := by
  unfold ev_upd at h
  split at h
  · next d hd =>
    split at h
    · next x hx =>
      obtain ⟨⟨u, hu⟩, h1⟩ := ev_sto_ok hd
      exact ⟨d, x, u, hu, h1, (ev_sto_ok hx).2, h⟩
    · cases h
  · cases h
/-! numbers -/
def ev_bb (x : Int32) : Nat := (x.toInt + 2147483648).toNat
theorem ev_bb_ge (x : Int32) : -2147483648 ≤ x.toInt ∧ x.toInt < 2147483648 := ⟨by have := x.le_toInt; simpa using this, by have := x.toInt_lt; simpa using this⟩
theorem ev_bb_lt (x y : Int32) : x < y ↔ ev_bb x < ev_bb y := by
  rw [Int32.lt_iff_toInt_lt]
  have h1 := ev_bb_ge x
  have h2 := ev_bb_ge y
  unfold ev_bb
  omega
theorem ev_bb_inj {x y : Int32} (h : ev_bb x = ev_bb y) : x = y := by
  have h1 := ev_bb_ge x
  have h2 := ev_bb_ge y
  unfold ev_bb at h
  exact Int32.toInt_inj.mp (by omega)
theorem ev_bb_max (x : Int32) : ev_bb x ≤ 4294967295 := by
  have h1 := ev_bb_ge x
  unfold ev_bb
  omega
theorem ev_nI_toInt (n : Nat) : (nI n).toInt = ((n : Int) + 2147483648) % 4294967296 - 2147483648 := by
  unfold nI
  rw [Int32.toInt_ofNat', Int.bmod_def]
  have e : (Int32.size : Int) = 4294967296 := by rfl
  rw [e]
  omega
theorem ev_bi_ok (n : Nat) : ev_bi n = ev_bb (nI n) := by
  unfold ev_bi ev_bb
  rw [ev_nI_toInt]
  omega
theorem ev_nI_eq {m n : Nat} (h : m % 4294967296 = n % 4294967296) : nI m = nI n := by
  apply ev_bb_inj
  rw [← ev_bi_ok, ← ev_bi_ok]
  unfold ev_bi
  omega
theorem ev_nI_mod (n : Nat) : nI (n % 4294967296) = nI n := ev_nI_eq (by omega)
theorem ev_nI_n (x : Int32) : nI (ev_n x) = x := by
  unfold ev_n nI
  exact Int32.toBitVec_inj.mp (by simp)
theorem ev_lN_n (x : Int64) : lN (ev_nl x) = x := by
  unfold ev_nl lN
  exact Int64.toBitVec_inj.mp (by simp)
theorem ev_nI_add (m n : Nat) : nI ((m + n) % 4294967296) = nI m + nI n := by rw [ev_nI_mod, nI_add]
theorem ev_nI_sub (m n : Nat) : nI ((m + (4294967296 - n % 4294967296)) % 4294967296) = nI m - nI n := by
  have h : nI ((m + (4294967296 - n % 4294967296)) % 4294967296) + nI n = nI m := by
    rw [nI_add]
    exact ev_nI_eq (by omega)
  rw [← h, Int32.add_sub_cancel]
theorem ev_nI_small {n : Nat} (h : n < 2147483648) : (nI n).toNatClampNeg = n ∧ ¬ nI n < 0 := ⟨nI_clamp (by omega), nI_pos (by omega)⟩
/-! values -/
def ev_ad (b B0 k : Nat) : Nat := if k = 1000000 then b else B0 + k
noncomputable def ev_dn (b B0 : Nat) (σ : Nat → Int32) : ev_V → Value
  | .inl n => .int (nI n)
  | .inr (.inl none) => .null
  | .inr (.inl (some k)) => .ref (ev_ad b B0 k)
  | .inr (.inr (.inl (some i, _))) => .int (ev_sv σ i)
  | .inr (.inr (.inl (none, f))) => .int (f σ)
  | .inr (.inr (.inr (0, n))) => .long (lN n)
  | .inr (.inr (.inr (1, n))) => .float (UInt32.ofNat n)
  | .inr (.inr (.inr (_, n))) => .double (UInt64.ofNat n)
section EVV
variable {b B0 : Nat} {σ : Nat → Int32}
theorem ev_dn_i {v : ev_V} (h : ev_ii v = true) : ∃ x, ev_dn b B0 σ v = .int x := by
  rcases v with n | r | ⟨t, f⟩ | ⟨k, n⟩
  · exact ⟨_, rfl⟩
  · cases h
  · cases t
    · exact ⟨_, rfl⟩
    · exact ⟨_, rfl⟩
  · cases h
theorem ev_dn_r {v : ev_V} (h : ev_ir v = true) : ∃ r : Option Nat, v = .inr (.inl r) ∧ ev_dn b B0 σ v = va_rf (r.map (ev_ad b B0)) := by
  rcases v with n | r | ⟨t, f⟩ | ⟨k, n⟩
  · cases h
  · refine ⟨r, rfl, ?_⟩
    cases r <;> rfl
  · cases h
  · cases h
theorem ev_dn_k {v : ev_V} {k : Nat} (h : ev_ik k v = true) : ∃ n, v = .inr (.inr (.inr (k, n))) := by
  rcases v with n | r | ⟨t, f⟩ | ⟨j, n⟩
  · cases h
  · cases h
  · cases h
  · have : j = k := Nat.eq_of_beq_eq_true h
    subst this
    exact ⟨n, rfl⟩
theorem ev_dn_c {v : ev_V} (h : ev_wide v = false) : (ev_dn b B0 σ v).category = 1 := by
  rcases v with n | r | ⟨t, f⟩ | ⟨j, n⟩
  · rfl
  · cases r <;> rfl
  · cases t <;> rfl
  · cases h
theorem ev_cs_ok (st : List ev_V) : ((st.map (ev_dn b B0 σ)).map fun v => v.category).sum ≤ ev_cs st := by
  induction st with
  | nil => exact Nat.le_refl _
  | cons v r ih =>
    simp only [List.map_cons, List.sum_cons, ev_cs]
    cases h : ev_wide v with
    | false =>
      rw [ev_dn_c h, ev_if_f]
      omega
    | true =>
      rw [ev_if_t]
      have : (ev_dn b B0 σ v).category ≤ 2 := by rcases lv_cat (ev_dn b B0 σ v) with q | q <;> omega
      omega
/-- what is known of the script's cells is true -/
def ev_FO (Φ : ev_P) (σ : Nat → Int32) : Prop := ∀ i, (ev_fl Φ.2 i).1 ≤ ev_bb (ev_sv σ i) ∧ ev_bb (ev_sv σ i) ≤ (ev_fl Φ.2 i).2
theorem ev_itv_ok {Φ : ev_P} (hΦ : ev_FO Φ σ) {v : ev_V} {q : Nat × Nat} (h : ev_itv Φ v = some q) : ∃ x, ev_dn b B0 σ v = .int x ∧ q.1 ≤ ev_bb x ∧ ev_bb x ≤ q.2 := by
  rcases v with n | r | ⟨t, f⟩ | ⟨j, n⟩
  · have e : q = (ev_bi n, ev_bi n) := (Option.some.inj h).symm
    rw [e]
    exact ⟨nI n, rfl, by rw [← ev_bi_ok]; exact Nat.le_refl _, by rw [← ev_bi_ok]; exact Nat.le_refl _⟩
  · exact absurd h (fun z => by cases z)
  · cases t with
    | none =>
      have e : q = (0, 4294967295) := (Option.some.inj h).symm
      rw [e]
      exact ⟨f σ, rfl, Nat.zero_le _, ev_bb_max _⟩
    | some i =>
      have e : q = ev_fl Φ.2 i := (Option.some.inj h).symm
      rw [e]
      exact ⟨ev_sv σ i, rfl, hΦ i⟩
  · exact absurd h (fun z => by cases z)
theorem ev_lt_ok {Φ : ev_P} (hΦ : ev_FO Φ σ) {x y : ev_V} {r : Bool} (h : ev_lt Φ x y = some r) : ∃ a d, ev_dn b B0 σ x = .int a ∧ ev_dn b B0 σ y = .int d ∧ (a < d ↔ r = true) := by
  unfold ev_lt at h
  cases hx : ev_itv Φ x with
  | none => rw [hx] at h; cases h
  | some p1 =>
    cases hy : ev_itv Φ y with
    | none => rw [hx, hy] at h; cases h
    | some p2 =>
      rw [hx, hy] at h
      obtain ⟨a, ha, a1, a2⟩ := ev_itv_ok (b := b) (B0 := B0) hΦ hx
      obtain ⟨d, hd, d1, d2⟩ := ev_itv_ok (b := b) (B0 := B0) hΦ hy
      refine ⟨a, d, ha, hd, ?_⟩
      rw [ev_bb_lt]
      dsimp only at h
      cases c1 : Nat.ble (p1.2 + 1) p2.1 with
      | true =>
        rw [c1] at h
        cases h
        have := Nat.le_of_ble_eq_true c1
        exact ⟨fun _ => rfl, fun _ => by omega⟩
      | false =>
        rw [c1, ev_if_f] at h
        cases c2 : Nat.ble p2.2 p1.1 with
        | true =>
          rw [c2] at h
          cases h
          have := Nat.le_of_ble_eq_true c2
          exact ⟨fun q => by omega, fun q => by cases q⟩
        | false =>
          rw [c2] at h
          cases h
theorem ev_eq_ok {Φ : ev_P} (hΦ : ev_FO Φ σ) {x y : ev_V} {r : Bool} (h : ev_eq Φ x y = some r) : ∃ a d, ev_dn b B0 σ x = .int a ∧ ev_dn b B0 σ y = .int d ∧ (a = d ↔ r = true) := by
  unfold ev_eq at h
  cases hx : ev_itv Φ x with
  | none => rw [hx] at h; cases h
  | some p1 =>
    cases hy : ev_itv Φ y with
    | none => rw [hx, hy] at h; cases h
    | some p2 =>
      rw [hx, hy] at h
      obtain ⟨a, ha, a1, a2⟩ := ev_itv_ok (b := b) (B0 := B0) hΦ hx
      obtain ⟨d, hd, d1, d2⟩ := ev_itv_ok (b := b) (B0 := B0) hΦ hy
      refine ⟨a, d, ha, hd, ?_⟩
      dsimp only at h
      cases c1 : Nat.ble (p1.2 + 1) p2.1 with
      | true =>
        rw [c1] at h
        cases h
        have := Nat.le_of_ble_eq_true c1
        exact ⟨fun q => by rw [q] at a2; omega, fun q => by cases q⟩
      | false =>
        rw [c1, ev_if_f] at h
        cases c2 : Nat.ble (p2.2 + 1) p1.1 with
        | true =>
          rw [c2] at h
          cases h
          have := Nat.le_of_ble_eq_true c2
          exact ⟨fun q => by rw [q] at a1; omega, fun q => by cases q⟩
        | false =>
          rw [c2, ev_if_f] at h
          obtain ⟨c3, h⟩ := ev_if_n h
          cases h
          simp only [Bool.and_eq_true] at c3
          have e1 := Nat.eq_of_beq_eq_true c3.1
          have e2 := Nat.eq_of_beq_eq_true c3.2.1
          have e3 := Nat.eq_of_beq_eq_true c3.2.2
          exact ⟨fun _ => rfl, fun _ => ev_bb_inj (by omega)⟩
def ev_rel (j : Nat) (a d : Int32) : Prop := if j = 0 then a = d else if j = 1 then a < d else d < a
theorem ev_cmp_ok {Φ : ev_P} (hΦ : ev_FO Φ σ) {j : Nat} {x y : ev_V} {r : Bool} (h : ev_cmp Φ j x y = some r) : ∃ a d, ev_dn b B0 σ x = .int a ∧ ev_dn b B0 σ y = .int d ∧ (ev_rel j a d ↔ r = true) := by
  unfold ev_cmp at h
  cases c1 : Nat.beq j 0 with
  | true =>
    rw [c1, ev_if_t] at h
    obtain ⟨a, d, h1, h2, h3⟩ := ev_eq_ok (b := b) (B0 := B0) hΦ h
    refine ⟨a, d, h1, h2, ?_⟩
    unfold ev_rel
    rw [if_pos (Nat.eq_of_beq_eq_true c1)]
    exact h3
  | false =>
    rw [c1, ev_if_f] at h
    cases c2 : Nat.beq j 1 with
    | true =>
      rw [c2, ev_if_t] at h
      obtain ⟨a, d, h1, h2, h3⟩ := ev_lt_ok (b := b) (B0 := B0) hΦ h
      refine ⟨a, d, h1, h2, ?_⟩
      unfold ev_rel
      rw [if_neg (Nat.ne_of_beq_eq_false c1), if_pos (Nat.eq_of_beq_eq_true c2)]
      exact h3
    | false =>
      rw [c2, ev_if_f] at h
      obtain ⟨a, d, h1, h2, h3⟩ := ev_lt_ok (b := b) (B0 := B0) hΦ h
      refine ⟨d, a, h2, h1, ?_⟩
      unfold ev_rel
      rw [if_neg (Nat.ne_of_beq_eq_false c1), if_neg (Nat.ne_of_beq_eq_false c2)]
      exact h3
theorem ev_iv_ok {v : ev_V} {f : (Nat → Int32) → Int32} (h : ev_iv v = some f) : ev_dn b B0 σ v = .int (f σ) := by
  rcases v with n | r | ⟨t, g⟩ | ⟨j, n⟩
  · cases h; rfl
  · cases h
  · cases t
    · cases h; rfl
    · cases h; rfl
  · cases h
theorem ev_b2_ok {G : Nat → Nat → Nat} {F : Int32 → Int32 → Int32} (hG : ∀ m n, nI (G m n) = F (nI m) (nI n)) {x y z : ev_V} (h : ev_b2 G F x y = some z) : ∃ a d, ev_dn b B0 σ x = .int a ∧ ev_dn b B0 σ y = .int d ∧ ev_dn b B0 σ z = .int (F a d) := by
  have gen : ∀ x y : ev_V, (match ev_iv x, ev_iv y with
    | some f, some g => some (.inr (.inr (.inl (none, fun σ => F (f σ) (g σ)))))
    | _, _ => none) = some z → ∃ a d, ev_dn b B0 σ x = .int a ∧ ev_dn b B0 σ y = .int d ∧ ev_dn b B0 σ z = .int (F a d) := by
    intro x y h
    cases hx : ev_iv x with
    | none => rw [hx] at h; cases h
    | some f =>
      cases hy : ev_iv y with
      | none => rw [hx, hy] at h; cases h
      | some g =>
        rw [hx, hy] at h
        cases h
        exact ⟨f σ, g σ, ev_iv_ok hx, ev_iv_ok hy, rfl⟩
  unfold ev_b2 at h
  split at h
  · cases h
    rename_i m n
    exact ⟨nI m, nI n, rfl, rfl, by show Value.int _ = _; rw [hG]⟩
  · exact gen _ _ h
end EVV
end
section
/-! ===== a frame: what the evaluator's state says of the machine's; the instructions without the heap (own work) ===== -/
noncomputable def ev_fv (b B0 : Nat) (σ : Nat → Int32) (d : List (List ev_V)) (k : Nat) : Value := match ev_get d k with
  | some v => ev_dn b B0 σ v
  | none => .null
def ev_ty (k : Nat) : FieldType := match k with
  | 20 => .int
  | 21 => .byte
  | 22 => .boolean
  | 23 => .long
  | 24 => .object RX3
  | _ => .object RX5
def ev_tys (aC : Nat → ClassId) : List (ClassId × FieldType) := [(aC 20, ev_ty 20), (aC 21, ev_ty 21), (aC 22, ev_ty 22), (aC 23, ev_ty 23), (aC 24, ev_ty 24), (aC 25, ev_ty 25)]
/-- a thing lies at a -/
def ev_at (D : va_G) (aC : Nat → ClassId) (b B0 : Nat) (σ : Nat → Int32) (a : Nat) (q : ev_C) (H : Heap) : Prop :=
  q.1 = 99 ∨ (∃ r, vwCl[q.1]? = some r ∧ t_OB a (D.1 q.1) r.2.2 (D.2 q.1) H (ev_fv b B0 σ q.2.2)) ∨ (20 ≤ q.1 ∧ q.1 ≤ 25 ∧ H[a]? = some (arrV (aC q.1) q.2.1 (ev_fv b B0 σ q.2.2)))
/-- the world's things lie in the heap -/
def ev_J (D : va_G) (aC : Nat → ClassId) (b B0 : Nat) (σ : Nat → Int32) (w : ev_W) (H : Heap) : Prop :=
  (∀ i q, ev_get w.1 i = some q → i < 1000000 ∧ ev_at D aC b B0 σ (B0 + i) q H) ∧ B0 + w.2.1 ≤ H.size ∧ (w.2.2.1 = true → H.size = B0 + w.2.1)
/-- the words that aren't good ones, but go along -/
def ev_bw : Cond → Bool
  | .castable _ _ => true
  | .fieldLinkNest _ _ _ _ _ _ => true
  | .methodLinkNest _ _ _ _ => true
  | .arrayOver (.object _) => true
  | .declares _ => true
  | _ => false
/-- the exceptions: class, and the classes above it but Throwable -/
def ev_ex (E : Nat) : String := match E with
  | 0 => "java/lang/IllegalArgumentException"
  | 1 => "java/lang/IllegalStateException"
  | 2 => "java/lang/IndexOutOfBoundsException"
  | _ => "java/util/NoSuchElementException"
/-- what a frame takes from the tables -/
def ev_VF (D : va_G) (aC : Nat → ClassId) (Sg : List (String × (Nat × String))) (U : State) : Prop :=
  va_K D vwCl (ev_tys aC) U ∧ (∀ w ∈ lw_tbl, ev_bw w = true → w.before #[] U = true) ∧ (∀ q ∈ Sg, ∃ sa, vk_R q.1 q.2.1 q.2.2 sa U) ∧ (∀ i j, i < 4 → j < 4 → i ≠ j → va_Nc (ev_ex i) (ev_ex j) U)
/-- .. and from the heap below the world -/
def ev_ZF (b B0 L : Nat) (σ : Nat → Int32) (U : State) (H : Heap) : Prop :=
  va_X b L σ U H ∧ vx_Zq Bundle.tN "UNASSIGNED_STACK" Bundle.steD (fun q => B0 ≤ q) U H ∧ vx_Zq Bundle.tN "SUPPRESSED_SENTINEL" Bundle.listD (fun q => B0 ≤ q) U H
def ev_lh (b B0 : Nat) (σ : Nat → Int32) (nL : Nat) (loc : ev_L) (ls : Array Slot) : Prop :=
  ls.size = nL ∧ lv_wf ls ∧ ∀ i v, ev_lg loc i = some (some v) → ls[i]? = some (.val (ev_dn b B0 σ v))
/-- the known locals as a list -/
noncomputable def ev_ll (b B0 : Nat) (σ : Nat → Int32) (loc : ev_L) : List (Nat × Value) := (List.range loc.length).filterMap (fun i => match ev_lg loc i with
  | some (some v) => some (i, ev_dn b B0 σ v)
  | _ => none)
section EVF
variable {D : va_G} {aC : Nat → ClassId} {b B0 L : Nat} {σ : Nat → Int32}
theorem ev_ll_in {loc : ev_L} {q : Nat × Value} : q ∈ ev_ll b B0 σ loc ↔ ∃ v, ev_lg loc q.1 = some (some v) ∧ q.2 = ev_dn b B0 σ v := by
  unfold ev_ll
  rw [List.mem_filterMap]
  constructor
  · rintro ⟨i, -, h⟩
    split at h
    · next v hv =>
      cases h
      exact ⟨v, hv, rfl⟩
    · cases h
  · rintro ⟨v, h1, h2⟩
    refine ⟨q.1, ?_, ?_⟩
    · rw [ev_lg_eq] at h1
      exact List.mem_range.mpr (List.getElem?_eq_some_iff.mp h1).1
    · rw [h1]
      show some (q.1, ev_dn b B0 σ v) = some q
      rw [← h2]
theorem ev_lh_has {nL : Nat} {loc : ev_L} {ls : Array Slot} (h : ev_lh b B0 σ nL loc ls) : lv_has ls nL (ev_ll b B0 σ loc) := by
  refine ⟨h.1, h.2.1, fun q hq => ?_⟩
  obtain ⟨v, h1, h2⟩ := ev_ll_in.mp hq
  rw [h2]
  exact h.2.2 _ _ h1
theorem ev_lh_st1 {nL a : Nat} {loc : ev_L} {ls' : Array Slot} {o : Option ev_V} {x : Value} (hw : ev_nw loc a = true) (hx : ∀ v, o = some v → ev_dn b B0 σ v = x)
    (h : lv_has ls' nL ((a, x) :: (ev_ll b B0 σ loc).filter (fun q => !(q.1 == a) && !(q.1 + 1 == a && q.2.category == 2)))) : ev_lh b B0 σ nL (ev_ls loc a o) ls' := by
  refine ⟨h.1, h.2.1, fun j v hj => ?_⟩
  rw [ev_lg_eq, ev_ls_eq, List.getElem?_set] at hj
  by_cases e : a = j
  · subst e
    rw [if_pos rfl] at hj
    split at hj
    · cases hj
      rw [hx v rfl]
      exact h.2.2 _ List.mem_cons_self
    · cases hj
  · rw [if_neg e, ← ev_lg_eq] at hj
    refine h.2.2 (j, ev_dn b B0 σ v) (List.mem_cons_of_mem _ (List.mem_filter.mpr ⟨ev_ll_in.mpr ⟨v, hj, rfl⟩, ?_⟩))
    have e1 : (j == a) = false := by simpa using fun q : j = a => e q.symm
    simp only [e1, Bool.not_false, Bool.true_and, Bool.not_eq_true']
    by_cases e2 : j + 1 = a
    · subst e2
      unfold ev_nw at hw
      simp only [hj] at hw
      have hv : ev_wide v = false := by simpa using hw
      rw [ev_dn_c hv]
      simp
    · simp [e2]
theorem ev_lh_st2 {nL a : Nat} {loc : ev_L} {ls' : Array Slot} {v : ev_V} {x : Value} (hw : ev_nw loc a = true) (hx : ev_dn b B0 σ v = x)
    (h : lv_has ls' nL ((a, x) :: (ev_ll b B0 σ loc).filter (fun q => !(q.1 == a) && (!(q.1 == a + 1) && !(q.1 + 1 == a && q.2.category == 2))))) : ev_lh b B0 σ nL (ev_ls (ev_ls loc a (some v)) (a + 1) none) ls' := by
  refine ⟨h.1, h.2.1, fun j v' hj => ?_⟩
  rw [ev_lg_eq, ev_ls_eq, List.getElem?_set] at hj
  by_cases e0 : a + 1 = j
  · rw [if_pos e0] at hj
    split at hj
    · cases hj
    · cases hj
  · rw [if_neg e0, ev_ls_eq, List.getElem?_set] at hj
    by_cases e : a = j
    · subst e
      rw [if_pos rfl] at hj
      split at hj
      · cases hj
        rw [hx]
        exact h.2.2 _ List.mem_cons_self
      · cases hj
    · rw [if_neg e, ← ev_lg_eq] at hj
      refine h.2.2 (j, ev_dn b B0 σ v') (List.mem_cons_of_mem _ (List.mem_filter.mpr ⟨ev_ll_in.mpr ⟨v', hj, rfl⟩, ?_⟩))
      have e1 : (j == a) = false := by simpa using fun q : j = a => e q.symm
      have e3 : (j == a + 1) = false := by simpa using fun q : j = a + 1 => e0 q.symm
      simp only [e1, e3, Bool.not_false, Bool.true_and, Bool.not_eq_true']
      by_cases e2 : j + 1 = a
      · subst e2
        unfold ev_nw at hw
        simp only [hj] at hw
        have hv : ev_wide v' = false := by simpa using hw
        rw [ev_dn_c hv]
        simp
      · simp [e2]
theorem ev_at.kept {a : Nat} {q : ev_C} {H H1 : Heap} (h : ev_at D aC b B0 σ a q H) (e : H1[a]? = H[a]?) : ev_at D aC b B0 σ a q H1 := by
  rcases h with h | ⟨r, h1, h2⟩ | ⟨h1, h2, h3⟩
  · exact Or.inl h
  · exact Or.inr (Or.inl ⟨r, h1, h2.kept e⟩)
  · exact Or.inr (Or.inr ⟨h1, h2, e.trans h3⟩)
theorem ev_J_set {w : ev_W} {H H1 : Heap} {i : Nat} {q q' : ev_C} {x : List (List ev_C)} (h : ev_J D aC b B0 σ w H) (hq : ev_get w.1 i = some q) (hx : ∀ j, ev_get x j = if j = i then some q' else ev_get w.1 j) (h1 : ev_at D aC b B0 σ (B0 + i) q' H1) (hz : H1.size = H.size) (ho : ∀ x, x ≠ B0 + i → H1[x]? = H[x]?) : ev_J D aC b B0 σ (x, w.2) H1 := by
  refine ⟨fun j u hj => ?_, by rw [hz]; exact h.2.1, by rw [hz]; exact h.2.2⟩
  have hj : ev_get x j = some u := hj
  rw [hx] at hj
  by_cases e : j = i
  · subst e
    rw [if_pos rfl] at hj
    cases hj
    exact ⟨(h.1 j q hq).1, h1⟩
  · rw [if_neg e] at hj
    exact ⟨(h.1 j u hj).1, (h.1 j u hj).2.kept (ho _ (by omega))⟩
variable {p : Program} {l : Launch} {e : Env} {R : Room} {s : State} {m : MethodId} {args : Array Value} {below : List Frame} {meth : Method} {c : Code} {Q : State → Prop}
variable {cc : ByteArray} {nL : Nat} {Ts : List Cond} {own : String} {Sg : List (String × (Nat × String))}
/-- the machine goes on well from here -/
def ev_Go (D : va_G) (aC : Nat → ClassId) (b B0 : Nat) (σ : Nat → Int32) (p : Program) (l : Launch) (e : Env) (R : Room) (s : State) (m : MethodId) (args : Array Value) (below : List Frame) (meth : Method) (c : Code) (Q : State → Prop) (nL : Nat) (pc : Nat) (loc : ev_L) (st : List ev_V) (w : ev_W) : Prop :=
  ∀ (H : Heap) (locs : List Loc) (ls : Array Slot), ev_lh b B0 σ nL loc ls → ev_J D aC b B0 σ w H → va_S (fun q => B0 ≤ q) s.heap H locs →
    W p l e R s m args below meth c H locs w.2.2.2.1 w.2.2.2.2 Q (F0 m pc ls (st.map (ev_dn b B0 σ)))
/-- what holds in a frame -/
def ev_Fx (D : va_G) (aC : Nat → ClassId) (b B0 L : Nat) (σ : Nat → Int32) (p : Program) (s : State) (m : MethodId) (args : Array Value) (meth : Method) (c : Code) (cc : ByteArray) (nL : Nat) (Ts : List Cond) (own : String) (Sg : List (String × (Nat × String))) : Prop :=
  p.tables.exec = Jvm.exec ∧ c.code = cc ∧ c.maxLocals = nL ∧ s.vm.findClass own = some m.cls ∧ (∀ w ∈ Ts, w.before args s = true) ∧ ev_VF D aC Sg s ∧ ev_ZF b B0 L σ s s.heap ∧ b < B0 ∧ B0 ≤ s.heap.size ∧ meth.locks = false
variable {Φ : ev_P} {M : ev_M} {k : ev_N} {cl : ev_F} {nx a b' c' pc : Nat} {tg : List Nat} {loc : ev_L} {st : List ev_V} {w : ev_W} {r : ev_S}
/-- a pure step of the stack -/
theorem ev_pure {nx : Nat} {st st' : List ev_V} (hk : ∀ pc loc st w, k pc loc st w = some r → ev_Go D aC b B0 σ p l e R s m args below meth c Q nL pc loc st w) (h : k nx loc st' w = some r)
    (hr : ∀ (H : Heap) (locs : List Loc) (ls : Array Slot), ev_lh b B0 σ nL loc ls → W p l e R s m args below meth c H locs w.2.2.2.1 w.2.2.2.2 Q (F0 m nx ls (st'.map (ev_dn b B0 σ))) → W p l e R s m args below meth c H locs w.2.2.2.1 w.2.2.2.2 Q (F0 m pc ls (st.map (ev_dn b B0 σ)))) : ev_Go D aC b B0 σ p l e R s m args below meth c Q nL pc loc st w :=
  fun H locs ls hl hJ hS => hr H locs ls hl (hk _ _ _ _ h H locs ls hl hJ hS)
theorem ev_o_int (hF : ev_Fx D aC b B0 L σ p s m args meth c cc nL Ts own Sg) (hk : ∀ pc loc st w, k pc loc st w = some r → ev_Go D aC b B0 σ p l e R s m args below meth c Q nL pc loc st w) (h : ev_h_int Φ M k cl nx a b' c' tg pc loc st w = some r)
    (hi : (∃ n, decode cc pc = .ok (.iconst n, 1) ∧ Int32.ofInt n = nI a ∧ nx = pc + 1) ∨ (∃ n, decode cc pc = .ok (.bipush n, 2) ∧ (Int8.ofInt n).toInt32 = nI a ∧ nx = pc + 2) ∨ (∃ n, decode cc pc = .ok (.sipush n, 3) ∧ (Int16.ofInt n).toInt32 = nI a ∧ nx = pc + 3) ∨ (∃ (ix : Nat) (v : Int32), decode cc pc = .ok (.ldc ix, 2) ∧ v = nI a ∧ nx = pc + 2 ∧ Cond.constant own ix v ∈ Ts) ∨ (∃ (ix : Nat) (v : Int32), decode cc pc = .ok (.ldc_w ix, 3) ∧ v = nI a ∧ nx = pc + 3 ∧ Cond.constant own ix v ∈ Ts)) :
    ev_Go D aC b B0 σ p l e R s m args below meth c Q nL pc loc st w := by
  obtain ⟨hx, hb, -, ho, ht, -⟩ := hF
  refine ev_pure hk h fun H locs ls _ g => ?_
  rcases hi with ⟨n, d, v, rfl⟩ | ⟨n, d, v, rfl⟩ | ⟨n, d, v, rfl⟩ | ⟨ix, v, d, rfl, rfl, hw⟩ | ⟨ix, v, d, rfl, rfl, hw⟩
  · exact lv_iconst hx hb d v g
  · exact lv_bipush hx hb d v g
  · exact lv_sipush hx hb d v g
  · exact lv_ldc hx hb ho (ht _ hw) d g
  · exact lv_ldcw hx hb ho (ht _ hw) d g
theorem ev_o_null (hF : ev_Fx D aC b B0 L σ p s m args meth c cc nL Ts own Sg) (hk : ∀ pc loc st w, k pc loc st w = some r → ev_Go D aC b B0 σ p l e R s m args below meth c Q nL pc loc st w) (h : ev_h_null Φ M k cl nx a b' c' tg pc loc st w = some r)
    (hi : decode cc pc = .ok (.aconst_null, 1) ∧ nx = pc + 1) : ev_Go D aC b B0 σ p l e R s m args below meth c Q nL pc loc st w := by
  obtain ⟨hx, hb, -⟩ := hF
  obtain ⟨d, rfl⟩ := hi
  exact ev_pure hk h fun H locs ls _ g => lv_null hx hb d g
theorem ev_o_wide (hF : ev_Fx D aC b B0 L σ p s m args meth c cc nL Ts own Sg) (hk : ∀ pc loc st w, k pc loc st w = some r → ev_Go D aC b B0 σ p l e R s m args below meth c Q nL pc loc st w) (h : ev_h_wide Φ M k cl nx a b' c' tg pc loc st w = some r)
    (hi : ((∃ n : Fin 2, decode cc pc = .ok (.lconst n, 1) ∧ a = 0 ∧ Int64.ofNat (n : Nat) = lN b' ∧ nx = pc + 1) ∨ (decode cc pc = .ok (.dconst 0, 1) ∧ a = 2 ∧ FP.dconst0 = UInt64.ofNat b' ∧ nx = pc + 1)) ∨ ((decode cc pc = .ok (.fconst 0, 1) ∧ a = 1 ∧ FP.fconst0 = UInt32.ofNat b' ∧ nx = pc + 1) ∨ (∃ (ix : Nat) (v : Int64), decode cc pc = .ok (.ldc2_w ix, 3) ∧ a = 0 ∧ v = lN b' ∧ nx = pc + 3 ∧ Cond.constantLong own ix v ∈ Ts))) :
    ev_Go D aC b B0 σ p l e R s m args below meth c Q nL pc loc st w := by
  obtain ⟨hx, hb, -, ho, ht, -⟩ := hF
  refine ev_pure hk h fun H locs ls _ g => ?_
  rcases hi with (⟨n, d, rfl, v, rfl⟩ | ⟨d, rfl, v, rfl⟩) | (⟨d, rfl, v, rfl⟩ | ⟨ix, v, d, rfl, rfl, rfl, hw⟩)
  · exact lv_lconst hx hb d v g
  · refine lv_dconst0 hx hb d ?_
    rw [v]
    exact g
  · refine lv_fconst0 hx hb d ?_
    rw [v]
    exact g
  · exact lv_ldc2 hx hb ho (ht _ hw) d g
theorem ev_o_iload (hF : ev_Fx D aC b B0 L σ p s m args meth c cc nL Ts own Sg) (hk : ∀ pc loc st w, k pc loc st w = some r → ev_Go D aC b B0 σ p l e R s m args below meth c Q nL pc loc st w) (h : ev_h_iload Φ M k cl nx a b' c' tg pc loc st w = some r)
    (hi : (decode cc pc = .ok (.iload a, 2) ∧ nx = pc + 2) ∨ (∃ n : Fin 4, decode cc pc = .ok (.iload_n n, 1) ∧ (n : Nat) = a ∧ nx = pc + 1)) : ev_Go D aC b B0 σ p l e R s m args below meth c Q nL pc loc st w := by
  obtain ⟨hx, hb, -⟩ := hF
  unfold ev_h_iload at h
  split at h
  · next v hv =>
    obtain ⟨h1, h⟩ := ev_if_n h
    obtain ⟨x, ex⟩ := ev_dn_i (b := b) (B0 := B0) (σ := σ) h1
    refine ev_pure hk h fun H locs ls hl g => ?_
    have e := hl.2.2 _ _ hv
    rw [List.map_cons, ex] at g
    rw [ex] at e
    rcases hi with ⟨d, rfl⟩ | ⟨n, d, hn, rfl⟩
    · exact lv_iload hx hb d e g
    · exact lv_iload_n hx hb d hn e g
  · cases h
theorem ev_o_aload (hF : ev_Fx D aC b B0 L σ p s m args meth c cc nL Ts own Sg) (hk : ∀ pc loc st w, k pc loc st w = some r → ev_Go D aC b B0 σ p l e R s m args below meth c Q nL pc loc st w) (h : ev_h_aload Φ M k cl nx a b' c' tg pc loc st w = some r)
    (hi : (decode cc pc = .ok (.aload a, 2) ∧ nx = pc + 2) ∨ (∃ n : Fin 4, decode cc pc = .ok (.aload_n n, 1) ∧ (n : Nat) = a ∧ nx = pc + 1)) : ev_Go D aC b B0 σ p l e R s m args below meth c Q nL pc loc st w := by
  obtain ⟨hx, hb, -⟩ := hF
  unfold ev_h_aload at h
  split at h
  · next v hv =>
    obtain ⟨h1, h⟩ := ev_if_n h
    obtain ⟨x, -, ex⟩ := ev_dn_r (b := b) (B0 := B0) (σ := σ) h1
    refine ev_pure hk h fun H locs ls hl g => ?_
    have e := hl.2.2 _ _ hv
    rw [List.map_cons, ex] at g
    rw [ex] at e
    cases x with
    | none =>
      rcases hi with ⟨d, rfl⟩ | ⟨n, d, hn, rfl⟩
      · exact lv_aloadN hx hb d e g
      · exact lv_aload_nN hx hb d hn e g
    | some y =>
      rcases hi with ⟨d, rfl⟩ | ⟨n, d, hn, rfl⟩
      · exact lv_aload hx hb d e g
      · exact lv_aload_n hx hb d hn e g
  · cases h
theorem ev_o_dload (hF : ev_Fx D aC b B0 L σ p s m args meth c cc nL Ts own Sg) (hk : ∀ pc loc st w, k pc loc st w = some r → ev_Go D aC b B0 σ p l e R s m args below meth c Q nL pc loc st w) (h : ev_h_dload Φ M k cl nx a b' c' tg pc loc st w = some r)
    (hi : decode cc pc = .ok (.dload a, 2) ∧ nx = pc + 2) : ev_Go D aC b B0 σ p l e R s m args below meth c Q nL pc loc st w := by
  obtain ⟨hx, hb, -⟩ := hF
  obtain ⟨d, rfl⟩ := hi
  unfold ev_h_dload at h
  split at h
  · next v hv =>
    obtain ⟨h1, h⟩ := ev_if_n h
    obtain ⟨x, rfl⟩ := ev_dn_k h1
    exact ev_pure hk h fun H locs ls hl g => lv_dload hx hb d (hl.2.2 _ _ hv) g
  · cases h
theorem ev_o_istore (hF : ev_Fx D aC b B0 L σ p s m args meth c cc nL Ts own Sg) (hk : ∀ pc loc st w, k pc loc st w = some r → ev_Go D aC b B0 σ p l e R s m args below meth c Q nL pc loc st w) (h : ev_h_istore Φ M k cl nx a b' c' tg pc loc st w = some r)
    (hi : ((decode cc pc = .ok (.istore a, 2) ∧ nx = pc + 2) ∨ (∃ n : Fin 4, decode cc pc = .ok (.istore_n n, 1) ∧ (n : Nat) = a ∧ nx = pc + 1)) ∧ a < nL) : ev_Go D aC b B0 σ p l e R s m args below meth c Q nL pc loc st w := by
  obtain ⟨hx, hb, -⟩ := hF
  obtain ⟨hi, ha⟩ := hi
  unfold ev_h_istore at h
  split at h
  · next v rr =>
    obtain ⟨h1, h⟩ := ev_if_n h
    simp only [Bool.and_eq_true] at h1
    obtain ⟨x, ex⟩ := ev_dn_i (b := b) (B0 := B0) (σ := σ) h1.1
    intro H locs ls hl hJ hS
    rw [List.map_cons, ex]
    have go : ∀ ls' : Array Slot, lv_has ls' nL ((a, Value.int x) :: (ev_ll b B0 σ loc).filter (fun q => !(q.1 == a) && !(q.1 + 1 == a && q.2.category == 2))) → W p l e R s m args below meth c H locs w.2.2.2.1 w.2.2.2.2 Q (F0 m nx ls' (rr.map (ev_dn b B0 σ))) :=
      fun ls' h' => hk _ _ _ _ h H locs ls' (ev_lh_st1 h1.2 (fun v' e' => by cases e'; exact ex) h') hJ hS
    rcases hi with ⟨d, rfl⟩ | ⟨n, d, hn, rfl⟩
    · exact lv_istore hx hb d (ev_lh_has hl) ha rfl go
    · exact lv_istore_n hx hb d hn (ev_lh_has hl) ha rfl go
  · cases h
theorem ev_o_astore (hF : ev_Fx D aC b B0 L σ p s m args meth c cc nL Ts own Sg) (hk : ∀ pc loc st w, k pc loc st w = some r → ev_Go D aC b B0 σ p l e R s m args below meth c Q nL pc loc st w) (h : ev_h_astore Φ M k cl nx a b' c' tg pc loc st w = some r)
    (hi : ((decode cc pc = .ok (.astore a, 2) ∧ nx = pc + 2) ∨ (∃ n : Fin 4, decode cc pc = .ok (.astore_n n, 1) ∧ (n : Nat) = a ∧ nx = pc + 1)) ∧ a < nL) : ev_Go D aC b B0 σ p l e R s m args below meth c Q nL pc loc st w := by
  obtain ⟨hx, hb, -⟩ := hF
  obtain ⟨hi, ha⟩ := hi
  unfold ev_h_astore at h
  split at h
  · next v rr =>
    obtain ⟨h1, h⟩ := ev_if_n h
    simp only [Bool.and_eq_true] at h1
    obtain ⟨x, -, ex⟩ := ev_dn_r (b := b) (B0 := B0) (σ := σ) h1.1
    intro H locs ls hl hJ hS
    rw [List.map_cons, ex]
    have go : ∀ ls' : Array Slot, lv_has ls' nL ((a, va_rf (x.map (ev_ad b B0))) :: (ev_ll b B0 σ loc).filter (fun q => !(q.1 == a) && !(q.1 + 1 == a && q.2.category == 2))) → W p l e R s m args below meth c H locs w.2.2.2.1 w.2.2.2.2 Q (F0 m nx ls' (rr.map (ev_dn b B0 σ))) :=
      fun ls' h' => hk _ _ _ _ h H locs ls' (ev_lh_st1 h1.2 (fun v' e' => by cases e'; exact ex) h') hJ hS
    cases x with
    | none =>
      rcases hi with ⟨d, rfl⟩ | ⟨n, d, hn, rfl⟩
      · exact lv_astoreN hx hb d (ev_lh_has hl) ha rfl go
      · exact lv_astore_nN hx hb d hn (ev_lh_has hl) ha rfl go
    | some y =>
      rcases hi with ⟨d, rfl⟩ | ⟨n, d, hn, rfl⟩
      · exact lv_astore hx hb d (ev_lh_has hl) ha rfl go
      · exact lv_astore_n hx hb d hn (ev_lh_has hl) ha rfl go
  · cases h
theorem ev_o_dstore (hF : ev_Fx D aC b B0 L σ p s m args meth c cc nL Ts own Sg) (hk : ∀ pc loc st w, k pc loc st w = some r → ev_Go D aC b B0 σ p l e R s m args below meth c Q nL pc loc st w) (h : ev_h_dstore Φ M k cl nx a b' c' tg pc loc st w = some r)
    (hi : decode cc pc = .ok (.dstore a, 2) ∧ nx = pc + 2 ∧ a + 1 < nL) : ev_Go D aC b B0 σ p l e R s m args below meth c Q nL pc loc st w := by
  obtain ⟨hx, hb, -⟩ := hF
  obtain ⟨d, rfl, ha⟩ := hi
  unfold ev_h_dstore at h
  split at h
  · next v rr =>
    obtain ⟨h1, h⟩ := ev_if_n h
    simp only [Bool.and_eq_true] at h1
    obtain ⟨x, rfl⟩ := ev_dn_k h1.1
    intro H locs ls hl hJ hS
    exact lv_dstore hx hb d (ev_lh_has hl) ha rfl fun ls' h' => hk _ _ _ _ h H locs ls' (ev_lh_st2 h1.2 rfl h') hJ hS
  · cases h
theorem ev_o_iinc (hF : ev_Fx D aC b B0 L σ p s m args meth c cc nL Ts own Sg) (hk : ∀ pc loc st w, k pc loc st w = some r → ev_Go D aC b B0 σ p l e R s m args below meth c Q nL pc loc st w) (h : ev_h_iinc Φ M k cl nx a b' c' tg pc loc st w = some r)
    (hi : ∃ n : Int, decode cc pc = .ok (.iinc a n, 3) ∧ Int32.ofInt n = nI b' ∧ nx = pc + 3 ∧ a < nL) : ev_Go D aC b B0 σ p l e R s m args below meth c Q nL pc loc st w := by
  obtain ⟨hx, hb, -⟩ := hF
  obtain ⟨n, d, en, rfl, ha⟩ := hi
  unfold ev_h_iinc at h
  split at h
  · next v hv =>
    obtain ⟨h1, h⟩ := ev_if_n h
    intro H locs ls hl hJ hS
    obtain ⟨j, hj⟩ := List.getElem?_of_mem (ev_ll_in (b := b) (B0 := B0) (σ := σ) (q := (a, .int (nI v))).mpr ⟨_, hv, rfl⟩)
    refine lv_iinc (k := j) (x := nI v) (v := nI ((v + b') % 4294967296)) hx hb d (ev_lh_has hl) hj (by rw [en, ev_nI_add]) ha rfl fun ls' h' => ?_
    exact hk _ _ _ _ h H locs ls' (ev_lh_st1 h1 (fun v' e' => by cases e'; rfl) h') hJ hS
  · cases h
theorem ev_o_iadd (hF : ev_Fx D aC b B0 L σ p s m args meth c cc nL Ts own Sg) (hk : ∀ pc loc st w, k pc loc st w = some r → ev_Go D aC b B0 σ p l e R s m args below meth c Q nL pc loc st w) (h : ev_h_iadd Φ M k cl nx a b' c' tg pc loc st w = some r)
    (hi : decode cc pc = .ok (.iadd, 1) ∧ nx = pc + 1) : ev_Go D aC b B0 σ p l e R s m args below meth c Q nL pc loc st w := by
  obtain ⟨hx, hb, -⟩ := hF
  obtain ⟨d, rfl⟩ := hi
  unfold ev_h_iadd at h
  split at h
  · split at h
    · next y x rr z hz =>
      obtain ⟨u, v, e1, e2, e3⟩ := ev_b2_ok (b := b) (B0 := B0) (σ := σ) ev_nI_add hz
      refine ev_pure hk h fun H locs ls hl g => ?_
      simp only [List.map_cons, e1, e2, e3] at g ⊢
      exact lv_iadd hx hb d g
    · cases h
  · cases h
theorem ev_o_isub (hF : ev_Fx D aC b B0 L σ p s m args meth c cc nL Ts own Sg) (hk : ∀ pc loc st w, k pc loc st w = some r → ev_Go D aC b B0 σ p l e R s m args below meth c Q nL pc loc st w) (h : ev_h_isub Φ M k cl nx a b' c' tg pc loc st w = some r)
    (hi : decode cc pc = .ok (.isub, 1) ∧ nx = pc + 1) : ev_Go D aC b B0 σ p l e R s m args below meth c Q nL pc loc st w := by
  obtain ⟨hx, hb, -⟩ := hF
  obtain ⟨d, rfl⟩ := hi
  unfold ev_h_isub at h
  split at h
  · split at h
    · next y x rr z hz =>
      obtain ⟨u, v, e1, e2, e3⟩ := ev_b2_ok (b := b) (B0 := B0) (σ := σ) ev_nI_sub hz
      refine ev_pure hk h fun H locs ls hl g => ?_
      simp only [List.map_cons, e1, e2, e3] at g ⊢
      exact lv_isub hx hb d g
    · cases h
  · cases h
theorem ev_o_ibin (hF : ev_Fx D aC b B0 L σ p s m args meth c cc nL Ts own Sg) (hk : ∀ pc loc st w, k pc loc st w = some r → ev_Go D aC b B0 σ p l e R s m args below meth c Q nL pc loc st w) (h : ev_h_ibin Φ M k cl nx a b' c' tg pc loc st w = some r)
    (hi : ((a = 0 ∧ decode cc pc = .ok (.imul, 1)) ∨ (a = 1 ∧ decode cc pc = .ok (.iand, 1)) ∨ (a = 2 ∧ decode cc pc = .ok (.ior, 1)) ∨ (a = 3 ∧ decode cc pc = .ok (.ixor, 1)) ∨ (a = 4 ∧ decode cc pc = .ok (.ishl, 1)) ∨ (a = 5 ∧ decode cc pc = .ok (.ishr, 1)) ∨ (a = 6 ∧ decode cc pc = .ok (.iushr, 1))) ∧ nx = pc + 1) : ev_Go D aC b B0 σ p l e R s m args below meth c Q nL pc loc st w := by
  obtain ⟨hx, hb, -⟩ := hF
  obtain ⟨hi, rfl⟩ := hi
  unfold ev_h_ibin at h
  split at h
  · split at h
    · next y x rr z hz =>
      obtain ⟨u, v, e1, e2, e3⟩ := ev_b2_ok (b := b) (B0 := B0) (σ := σ) (fun m n => ev_nI_n _) hz
      refine ev_pure hk h fun H locs ls hl g => ?_
      simp only [List.map_cons, e1, e2, e3] at g ⊢
      rcases hi with ⟨rfl, d⟩ | ⟨rfl, d⟩ | ⟨rfl, d⟩ | ⟨rfl, d⟩ | ⟨rfl, d⟩ | ⟨rfl, d⟩ | ⟨rfl, d⟩
      · exact lv_imul hx hb d g
      · exact lv_iand hx hb d g
      · exact lv_ior hx hb d g
      · exact lv_ixor hx hb d g
      · exact lv_ishl hx hb d g
      · exact lv_ishr hx hb d g
      · exact lv_iushr hx hb d rfl g
    · cases h
  · cases h
theorem ev_o_iand63 (hF : ev_Fx D aC b B0 L σ p s m args meth c cc nL Ts own Sg) (hk : ∀ pc loc st w, k pc loc st w = some r → ev_Go D aC b B0 σ p l e R s m args below meth c Q nL pc loc st w) (h : ev_h_iand63 Φ M k cl nx a b' c' tg pc loc st w = some r)
    (hi : a = 1 ∧ decode cc pc = .ok (.iand, 1) ∧ nx = pc + 1) : ev_Go D aC b B0 σ p l e R s m args below meth c Q nL pc loc st w := by
  obtain ⟨hx, hb, -⟩ := id hF
  obtain ⟨rfl, d, rfl⟩ := hi
  unfold ev_h_iand63 at h
  split at h
  · next i f rr =>
    obtain ⟨h1, h⟩ := ev_if_n h
    have h1 := Nat.le_of_ble_eq_true h1
    refine ev_pure hk h fun H locs ls hl g => ?_
    have e1 : ev_sv σ (i + 1000) = ev_sv σ i &&& nI 63 := by
      unfold ev_sv
      rw [if_neg (by omega), if_pos (by omega), Nat.add_sub_cancel]
      rfl
    have g : W p l e R s m args below meth c H locs w.2.2.2.1 w.2.2.2.2 Q (F0 m (pc + 1) ls (.int (ev_sv σ (i + 1000)) :: rr.map (ev_dn b B0 σ))) := g
    rw [e1] at g
    exact lv_iand hx hb d g
  · exact ev_o_ibin hF hk h ⟨Or.inr (Or.inl ⟨rfl, d⟩), rfl⟩
theorem ev_o_idiv (hF : ev_Fx D aC b B0 L σ p s m args meth c cc nL Ts own Sg) (hk : ∀ pc loc st w, k pc loc st w = some r → ev_Go D aC b B0 σ p l e R s m args below meth c Q nL pc loc st w) (h : ev_h_idiv Φ M k cl nx a b' c' tg pc loc st w = some r)
    (hi : ((a = 0 ∧ decode cc pc = .ok (.idiv, 1)) ∨ (a = 1 ∧ decode cc pc = .ok (.irem, 1))) ∧ nx = pc + 1) : ev_Go D aC b B0 σ p l e R s m args below meth c Q nL pc loc st w := by
  obtain ⟨hx, hb, -⟩ := hF
  obtain ⟨hi, rfl⟩ := hi
  unfold ev_h_idiv at h
  split at h
  · next y x rr =>
    obtain ⟨h1, h⟩ := ev_if_n h
    simp only [Bool.and_eq_true] at h1
    have g1 := Nat.le_of_ble_eq_true h1.1
    have g2 := Nat.le_of_ble_eq_true h1.2.1
    have g3 := Nat.le_of_ble_eq_true h1.2.2
    refine ev_pure hk h fun H locs ls hl g => ?_
    rcases hi with ⟨rfl, d⟩ | ⟨rfl, d⟩
    · refine lv_idiv hx hb d (nI_ne0 (by omega) (by omega)) ?_
      rw [pk_div (by omega) (by omega) (by omega)]
      exact g
    · refine lv_irem hx hb d (nI_ne0 (by omega) (by omega)) ?_
      rw [pk_rem (by omega) (by omega) (by omega)]
      exact g
  · cases h
theorem ev_br_ok {o : Option Bool} {t f : ev_R} (h : ev_br o t f = some r) : ∃ z, o = some z ∧ (z = true → t = some r) ∧ (z = false → f = some r) := by
  unfold ev_br at h
  split at h
  · exact ⟨true, rfl, fun _ => h, (fun q => absurd q (by decide))⟩
  · exact ⟨false, rfl, (fun q => absurd q (by decide)), fun _ => h⟩
  · cases h
theorem ev_o_if0 (hF : ev_Fx D aC b B0 L σ p s m args meth c cc nL Ts own Sg) (hΦ : ev_FO Φ σ) (hk : ∀ pc loc st w, k pc loc st w = some r → ev_Go D aC b B0 σ p l e R s m args below meth c Q nL pc loc st w) (h : ev_h_if0 Φ M k cl nx a b' c' tg pc loc st w = some r)
    (hi : ∃ off : Int, ((a = 0 ∧ decode cc pc = .ok (.ifCond .eq off, 3) ∧ (pc : Int) + off = (b' : Int) ∧ c' = pc + 3) ∨ (a = 0 ∧ decode cc pc = .ok (.ifCond .ne off, 3) ∧ (pc : Int) + off = (c' : Int) ∧ b' = pc + 3)) ∨ ((a = 1 ∧ decode cc pc = .ok (.ifCond .lt off, 3) ∧ (pc : Int) + off = (b' : Int) ∧ c' = pc + 3) ∨ (a = 1 ∧ decode cc pc = .ok (.ifCond .ge off, 3) ∧ (pc : Int) + off = (c' : Int) ∧ b' = pc + 3)) ∨ ((a = 2 ∧ decode cc pc = .ok (.ifCond .gt off, 3) ∧ (pc : Int) + off = (b' : Int) ∧ c' = pc + 3) ∨ (a = 2 ∧ decode cc pc = .ok (.ifCond .le off, 3) ∧ (pc : Int) + off = (c' : Int) ∧ b' = pc + 3))) :
    ev_Go D aC b B0 σ p l e R s m args below meth c Q nL pc loc st w := by
  obtain ⟨hx, hb, -⟩ := hF
  unfold ev_h_if0 at h
  split at h
  · next x rr =>
    obtain ⟨z, hz, ht, hf⟩ := ev_br_ok h
    obtain ⟨u, v, e1, e2, e3⟩ := ev_cmp_ok (b := b) (B0 := B0) hΦ hz
    have e2 : v = 0 := by cases e2; rfl
    subst e2
    intro H locs ls hl hJ hS
    rw [List.map_cons, e1]
    have gt : ev_rel a u 0 → W p l e R s m args below meth c H locs w.2.2.2.1 w.2.2.2.2 Q (F0 m b' ls (rr.map (ev_dn b B0 σ))) := fun q => hk _ _ _ _ (ht (e3.mp q)) H locs ls hl hJ hS
    have gf : ¬ ev_rel a u 0 → W p l e R s m args below meth c H locs w.2.2.2.1 w.2.2.2.2 Q (F0 m c' ls (rr.map (ev_dn b B0 σ))) := fun q => hk _ _ _ _ (hf (Bool.eq_false_iff.mpr (fun y => q (e3.mpr y)))) H locs ls hl hJ hS
    obtain ⟨off, (⟨rfl, d, t, rfl⟩ | ⟨rfl, d, t, rfl⟩) | (⟨rfl, d, t, rfl⟩ | ⟨rfl, d, t, rfl⟩) | (⟨rfl, d, t, rfl⟩ | ⟨rfl, d, t, rfl⟩)⟩ := hi
    · exact lv_if_eq hx hb d t (fun q => gt q) (fun q => gf q)
    · exact lv_if_ne hx hb d t (fun q => gf q) (fun q => gt q)
    · exact lv_if_lt hx hb d t (fun q => gt q) (fun q => gf q)
    · exact lv_if_ge hx hb d t (fun q => gf (Int32.not_lt.mpr q)) (fun q => gt (Int32.not_le.mp q))
    · exact lv_if_gt hx hb d t (fun q => gt q) (fun q => gf q)
    · exact lv_if_le hx hb d t (fun q => gf (Int32.not_lt.mpr q)) (fun q => gt (Int32.not_le.mp q))
  · cases h
theorem ev_o_icmp (hF : ev_Fx D aC b B0 L σ p s m args meth c cc nL Ts own Sg) (hΦ : ev_FO Φ σ) (hk : ∀ pc loc st w, k pc loc st w = some r → ev_Go D aC b B0 σ p l e R s m args below meth c Q nL pc loc st w) (h : ev_h_icmp Φ M k cl nx a b' c' tg pc loc st w = some r)
    (hi : ∃ off : Int, ((a = 0 ∧ decode cc pc = .ok (.if_icmp .eq off, 3) ∧ (pc : Int) + off = (b' : Int) ∧ c' = pc + 3) ∨ (a = 0 ∧ decode cc pc = .ok (.if_icmp .ne off, 3) ∧ (pc : Int) + off = (c' : Int) ∧ b' = pc + 3)) ∨ ((a = 1 ∧ decode cc pc = .ok (.if_icmp .lt off, 3) ∧ (pc : Int) + off = (b' : Int) ∧ c' = pc + 3) ∨ (a = 1 ∧ decode cc pc = .ok (.if_icmp .ge off, 3) ∧ (pc : Int) + off = (c' : Int) ∧ b' = pc + 3)) ∨ ((a = 2 ∧ decode cc pc = .ok (.if_icmp .gt off, 3) ∧ (pc : Int) + off = (b' : Int) ∧ c' = pc + 3) ∨ (a = 2 ∧ decode cc pc = .ok (.if_icmp .le off, 3) ∧ (pc : Int) + off = (c' : Int) ∧ b' = pc + 3))) :
    ev_Go D aC b B0 σ p l e R s m args below meth c Q nL pc loc st w := by
  obtain ⟨hx, hb, -⟩ := hF
  unfold ev_h_icmp at h
  split at h
  · next y x rr =>
    obtain ⟨z, hz, ht, hf⟩ := ev_br_ok h
    obtain ⟨u, v, e1, e2, e3⟩ := ev_cmp_ok (b := b) (B0 := B0) hΦ hz
    intro H locs ls hl hJ hS
    rw [List.map_cons, List.map_cons, e1, e2]
    have gt : ev_rel a u v → W p l e R s m args below meth c H locs w.2.2.2.1 w.2.2.2.2 Q (F0 m b' ls (rr.map (ev_dn b B0 σ))) := fun q => hk _ _ _ _ (ht (e3.mp q)) H locs ls hl hJ hS
    have gf : ¬ ev_rel a u v → W p l e R s m args below meth c H locs w.2.2.2.1 w.2.2.2.2 Q (F0 m c' ls (rr.map (ev_dn b B0 σ))) := fun q => hk _ _ _ _ (hf (Bool.eq_false_iff.mpr (fun y => q (e3.mpr y)))) H locs ls hl hJ hS
    obtain ⟨off, (⟨rfl, d, t, rfl⟩ | ⟨rfl, d, t, rfl⟩) | (⟨rfl, d, t, rfl⟩ | ⟨rfl, d, t, rfl⟩) | (⟨rfl, d, t, rfl⟩ | ⟨rfl, d, t, rfl⟩)⟩ := hi
    · exact lv_icmp_eq hx hb d t (fun q => gt q) (fun q => gf q)
    · exact lv_icmp_ne hx hb d t (fun q => gf q) (fun q => gt q)
    · exact lv_icmp_lt hx hb d t (fun q => gt q) (fun q => gf q)
    · exact lv_icmp_ge hx hb d t (fun q => gf (Int32.not_lt.mpr q)) (fun q => gt (Int32.not_le.mp q))
    · exact lv_icmp_gt hx hb d t (fun q => gt q) (fun q => gf q)
    · exact lv_icmp_le hx hb d t (fun q => gf (Int32.not_lt.mpr q)) (fun q => gt (Int32.not_le.mp q))
  · cases h
theorem ev_oeq_ok {x y : Option Nat} (h : (ev_own x && ev_own y) = true) : x.map (ev_ad b B0) = y.map (ev_ad b B0) ↔ ev_oeq x y = true := by
  simp only [Bool.and_eq_true] at h
  cases x with
  | none => cases y with
    | none => exact ⟨fun _ => rfl, fun _ => rfl⟩
    | some n => exact ⟨fun q => (by cases q), fun q => (by cases q)⟩
  | some m => cases y with
    | none => exact ⟨fun q => (by cases q), fun q => (by cases q)⟩
    | some n =>
      have h1 := Nat.le_of_ble_eq_true h.1
      have h2 := Nat.le_of_ble_eq_true h.2
      constructor
      · intro q
        have q : ev_ad b B0 m = ev_ad b B0 n := Option.some.inj q
        unfold ev_ad at q
        rw [if_neg (by omega), if_neg (by omega)] at q
        have : m = n := by omega
        subst this
        exact Nat.beq_refl m
      · intro q
        have : m = n := Nat.eq_of_beq_eq_true q
        rw [this]
theorem ev_o_acmp (hF : ev_Fx D aC b B0 L σ p s m args meth c cc nL Ts own Sg) (hk : ∀ pc loc st w, k pc loc st w = some r → ev_Go D aC b B0 σ p l e R s m args below meth c Q nL pc loc st w) (h : ev_h_acmp Φ M k cl nx a b' c' tg pc loc st w = some r)
    (hi : ∃ off : Int, (decode cc pc = .ok (.if_acmp .eq off, 3) ∧ (pc : Int) + off = (b' : Int) ∧ c' = pc + 3) ∨ (decode cc pc = .ok (.if_acmp .ne off, 3) ∧ (pc : Int) + off = (c' : Int) ∧ b' = pc + 3)) : ev_Go D aC b B0 σ p l e R s m args below meth c Q nL pc loc st w := by
  obtain ⟨hx, hb, -⟩ := hF
  unfold ev_h_acmp at h
  split at h
  · next y x rr =>
    obtain ⟨h1, h⟩ := ev_if_n h
    have h2 := ev_oeq_ok (b := b) (B0 := B0) h1
    intro H locs ls hl hJ hS
    have dn : ∀ z : Option Nat, ev_dn b B0 σ (.inr (.inl z)) = va_rf (z.map (ev_ad b B0)) := fun z => by cases z <;> rfl
    rw [List.map_cons, List.map_cons, dn, dn]
    have gt : x.map (ev_ad b B0) = y.map (ev_ad b B0) → W p l e R s m args below meth c H locs w.2.2.2.1 w.2.2.2.2 Q (F0 m b' ls (rr.map (ev_dn b B0 σ))) := fun q => by
      rw [h2.mp q] at h
      exact hk _ _ _ _ h H locs ls hl hJ hS
    have gf : ¬ x.map (ev_ad b B0) = y.map (ev_ad b B0) → W p l e R s m args below meth c H locs w.2.2.2.1 w.2.2.2.2 Q (F0 m c' ls (rr.map (ev_dn b B0 σ))) := fun q => by
      rw [Bool.eq_false_iff.mpr (fun y => q (h2.mpr y))] at h
      exact hk _ _ _ _ h H locs ls hl hJ hS
    obtain ⟨off, ⟨d, t, rfl⟩ | ⟨d, t, rfl⟩⟩ := hi
    · exact lv_acmp_eq hx hb d t (fun q => gt q) (fun q => gf q)
    · exact lv_acmp_ne hx hb d t (fun q => gf q) (fun q => gt q)
  · cases h
theorem ev_o_isnull (hF : ev_Fx D aC b B0 L σ p s m args meth c cc nL Ts own Sg) (hk : ∀ pc loc st w, k pc loc st w = some r → ev_Go D aC b B0 σ p l e R s m args below meth c Q nL pc loc st w) (h : ev_h_isnull Φ M k cl nx a b' c' tg pc loc st w = some r)
    (hi : ∃ off : Int, (decode cc pc = .ok (.ifnull off, 3) ∧ (pc : Int) + off = (b' : Int) ∧ c' = pc + 3) ∨ (decode cc pc = .ok (.ifnonnull off, 3) ∧ (pc : Int) + off = (c' : Int) ∧ b' = pc + 3)) : ev_Go D aC b B0 σ p l e R s m args below meth c Q nL pc loc st w := by
  obtain ⟨hx, hb, -⟩ := hF
  unfold ev_h_isnull at h
  split at h
  · next rr =>
    refine ev_pure hk h fun H locs ls hl g => ?_
    obtain ⟨off, ⟨d, t, rfl⟩ | ⟨d, t, rfl⟩⟩ := hi
    · exact lv_ifnullN hx hb d t g
    · exact lv_ifnonnullN hx hb d g
  · next y rr =>
    refine ev_pure hk h fun H locs ls hl g => ?_
    obtain ⟨off, ⟨d, t, rfl⟩ | ⟨d, t, rfl⟩⟩ := hi
    · exact lv_ifnull hx hb d g
    · exact lv_ifnonnull hx hb d t g
  · cases h
theorem ev_o_goto (hF : ev_Fx D aC b B0 L σ p s m args meth c cc nL Ts own Sg) (hk : ∀ pc loc st w, k pc loc st w = some r → ev_Go D aC b B0 σ p l e R s m args below meth c Q nL pc loc st w) (h : ev_h_goto Φ M k cl nx a b' c' tg pc loc st w = some r)
    (hi : ∃ off : Int, decode cc pc = .ok (.goto off, 3) ∧ (pc : Int) + off = (nx : Int)) : ev_Go D aC b B0 σ p l e R s m args below meth c Q nL pc loc st w := by
  obtain ⟨hx, hb, -⟩ := hF
  obtain ⟨off, d, t⟩ := hi
  exact ev_pure hk h fun H locs ls hl g => lv_goto hx hb d t g
theorem ev_o_dup (hF : ev_Fx D aC b B0 L σ p s m args meth c cc nL Ts own Sg) (hk : ∀ pc loc st w, k pc loc st w = some r → ev_Go D aC b B0 σ p l e R s m args below meth c Q nL pc loc st w) (h : ev_h_dup Φ M k cl nx a b' c' tg pc loc st w = some r)
    (hi : decode cc pc = .ok (.dup, 1) ∧ nx = pc + 1) : ev_Go D aC b B0 σ p l e R s m args below meth c Q nL pc loc st w := by
  obtain ⟨hx, hb, -⟩ := hF
  obtain ⟨d, rfl⟩ := hi
  unfold ev_h_dup at h
  split at h
  · next x rr =>
    obtain ⟨h1, h⟩ := ev_if_n h
    exact ev_pure hk h fun H locs ls hl g => lv_dup hx hb d (ev_dn_c (by simpa using h1)) g
  · cases h
theorem ev_o_dup2 (hF : ev_Fx D aC b B0 L σ p s m args meth c cc nL Ts own Sg) (hk : ∀ pc loc st w, k pc loc st w = some r → ev_Go D aC b B0 σ p l e R s m args below meth c Q nL pc loc st w) (h : ev_h_dup2 Φ M k cl nx a b' c' tg pc loc st w = some r)
    (hi : decode cc pc = .ok (.dup2, 1) ∧ nx = pc + 1) : ev_Go D aC b B0 σ p l e R s m args below meth c Q nL pc loc st w := by
  obtain ⟨hx, hb, -⟩ := hF
  obtain ⟨d, rfl⟩ := hi
  unfold ev_h_dup2 at h
  split at h
  · next x y rr =>
    obtain ⟨h1, h⟩ := ev_if_n h
    simp only [Bool.and_eq_true, Bool.not_eq_true'] at h1
    exact ev_pure hk h fun H locs ls hl g => lv_dup2_11 hx hb d (ev_dn_c h1.1) (ev_dn_c h1.2) g
  · cases h
theorem ev_o_pop (hF : ev_Fx D aC b B0 L σ p s m args meth c cc nL Ts own Sg) (hk : ∀ pc loc st w, k pc loc st w = some r → ev_Go D aC b B0 σ p l e R s m args below meth c Q nL pc loc st w) (h : ev_h_pop Φ M k cl nx a b' c' tg pc loc st w = some r)
    (hi : decode cc pc = .ok (.pop, 1) ∧ nx = pc + 1) : ev_Go D aC b B0 σ p l e R s m args below meth c Q nL pc loc st w := by
  obtain ⟨hx, hb, -⟩ := hF
  obtain ⟨d, rfl⟩ := hi
  unfold ev_h_pop at h
  split at h
  · next x rr =>
    obtain ⟨h1, h⟩ := ev_if_n h
    exact ev_pure hk h fun H locs ls hl g => lv_pop hx hb d (ev_dn_c (by simpa using h1)) g
  · cases h
end EVF
end
section
/-! ===== the instructions that reach the heap (own work) ===== -/
section EVH
variable {D : va_G} {aC : Nat → ClassId} {b B0 L : Nat} {σ : Nat → Int32}
variable {p : Program} {l : Launch} {e : Env} {R : Room} {s : State} {m : MethodId} {args : Array Value} {below : List Frame} {meth : Method} {c : Code} {Q : State → Prop}
variable {cc : ByteArray} {nL : Nat} {Ts : List Cond} {own : String} {Sg : List (String × (Nat × String))}
variable {Φ : ev_P} {M : ev_M} {k : ev_N} {cl : ev_F} {nx a b' c' pc : Nat} {tg : List Nat} {loc : ev_L} {st : List ev_V} {w : ev_W} {r : ev_S}
theorem ev_S_put {A : Nat → Prop} {H0 H H1 : Heap} {locs : List Loc} {x y : Nat} (hS : va_S A H0 H locs) (hz : H1.size = H.size) (ho : ∀ q, q ≠ x → H1[q]? = H[q]?) (hx : A x) : va_S A H0 H1 (locs ++ [⟨x, y⟩]) := by
  refine ⟨by rw [hz]; exact hS.1, fun q h1 h2 => ?_, fun q hq => ?_⟩
  · rw [ho q (fun z => h2 (by rw [z]; exact hx))]
    exact hS.2.1 q h1 h2
  · rcases List.mem_append.mp hq with h | h
    · exact hS.2.2 q h
    · rcases List.mem_singleton.mp h with rfl
      exact hx
theorem ev_fv_set {d d' : List (List ev_V)} {k : Nat} {v : ev_V} (h : ∀ j, ev_get d' j = if j = k then some v else ev_get d j) : ev_fv b B0 σ d' = updV (ev_fv b B0 σ d) k (ev_dn b B0 σ v) := by
  funext j
  unfold ev_fv updV
  rw [h]
  by_cases e : j = k
  · rw [if_pos e, if_pos e]
  · rw [if_neg e, if_neg e]
/-- an object among the world's things -/
theorem ev_J_obj {w : ev_W} {H : Heap} {i : Nat} {q : ev_C} (h : ev_J D aC b B0 σ w H) (hq : ev_get w.1 i = some q) {rr : vw_C} (hc : vwCl[q.1]? = some rr) : i < 1000000 ∧ t_OB (B0 + i) (D.1 q.1) rr.2.2 (D.2 q.1) H (ev_fv b B0 σ q.2.2) := by
  obtain ⟨h1, h2⟩ := h.1 i q hq
  refine ⟨h1, ?_⟩
  have hl : q.1 < 8 := (List.getElem?_eq_some_iff.mp hc).1
  rcases h2 with h | ⟨r, h2, h3⟩ | ⟨h2, -⟩
  · omega
  · cases hc.symm.trans h2
    exact h3
  · omega
theorem ev_J_arr {w : ev_W} {H : Heap} {i : Nat} {q : ev_C} (h : ev_J D aC b B0 σ w H) (hq : ev_get w.1 i = some q) (h20 : 20 ≤ q.1) (h25 : q.1 ≤ 25) : i < 1000000 ∧ H[B0 + i]? = some (arrV (aC q.1) q.2.1 (ev_fv b B0 σ q.2.2)) := by
  obtain ⟨h1, h2⟩ := h.1 i q hq
  refine ⟨h1, ?_⟩
  rcases h2 with h | ⟨r, h2, -⟩ | ⟨-, -, h3⟩
  · omega
  · have : q.1 < 8 := (List.getElem?_eq_some_iff.mp h2).1
    omega
  · exact h3
theorem ev_ad_w {i : Nat} (h : i < 1000000) : ev_ad b B0 i = B0 + i := by
  unfold ev_ad
  rw [if_neg (by omega)]
theorem ev_tys_of (hV : ev_VF D aC Sg s) {k : Nat} (h20 : 20 ≤ k) (h25 : k ≤ 25) : ArrOfT s (aC k) (ev_ty k) ∧ va_RA s (aC k) (ev_ty k) := by
  have : k = 20 ∨ k = 21 ∨ k = 22 ∨ k = 23 ∨ k = 24 ∨ k = 25 := by omega
  rcases this with rfl | rfl | rfl | rfl | rfl | rfl
  · exact hV.1.2 0 _ rfl
  · exact hV.1.2 1 _ rfl
  · exact hV.1.2 2 _ rfl
  · exact hV.1.2 3 _ rfl
  · exact hV.1.2 4 _ rfl
  · exact hV.1.2 5 _ rfl
/-- a link to a field: of the class itself, or of a nest mate -/
def ev_fl_ok (own ref n d : String) (index : Nat) (Ts : List Cond) : Prop := Cond.fieldLink own index ref n d ∈ Ts ∨ ∃ host, Cond.fieldLinkNest own index ref n d host ∈ lw_tbl
theorem ev_o_getf (hF : ev_Fx D aC b B0 L σ p s m args meth c cc nL Ts own Sg) (hk : ∀ pc loc st w, k pc loc st w = some r → ev_Go D aC b B0 σ p l e R s m args below meth c Q nL pc loc st w) (h : ev_h_getf Φ M k cl nx a b' c' tg pc loc st w = some r)
    (hi : ∃ (index : Nat) (C : String) (T : u_T) (N : Nat), decode cc pc = .ok (.getfield index, 3) ∧ nx = pc + 3 ∧ vwCl[a]? = some (C, T, N) ∧ b' < N ∧ (∀ x ∈ u_ws C T N, x ∈ Ts) ∧ ev_fl_ok own (T b').1 (T b').2.1 (T b').2.2.1 index Ts) : ev_Go D aC b B0 σ p l e R s m args below meth c Q nL pc loc st w := by
  obtain ⟨hx, hb, -, ho, ht, hV, -⟩ := hF
  obtain ⟨index, C, T, N, d, rfl, hc, hN, hin, hlk⟩ := hi
  unfold ev_h_getf at h
  split at h
  · next i rr =>
    split at h
    · next q hq =>
      obtain ⟨h1, h⟩ := ev_if_n h
      have h1 := Nat.eq_of_beq_eq_true h1
      split at h
      · next v hv =>
        intro H locs ls hl hJ hS
        have hc' : vwCl[q.1]? = some (C, T, N) := by rw [h1]; exact hc
        obtain ⟨hi, cell, q1, q2, q3, q4⟩ := ev_J_obj hJ hq hc'
        obtain ⟨hS9, hfc, kC, hkC, hkind⟩ := hV.1.1 q.1 _ hc'
        obtain ⟨cf, kf, fi, f, hif, hsl⟩ := hS9 b' hN
        have hst := (u_facts hfc hkC (u_lays ht hin hN) hif).1
        have go := hk _ _ _ _ h H locs ls hl hJ hS
        rw [List.map_cons] at go ⊢
        have e1 : ev_dn b B0 σ (.inr (.inl (some i))) = .ref (B0 + i) := by
          show Value.ref _ = _
          rw [ev_ad_w hi]
        rw [e1]
        have e2 : cell.slots[f.slot]? = some (ev_dn b B0 σ v) := by
          rw [hsl, q4 b' hN]
          unfold ev_fv
          rw [hv]
        rcases hlk with hlk | ⟨host, hlk⟩
        · exact W.getf hx hb ho (ht _ hlk) hif hst q1 (by rw [q3]; exact fun h => by cases h) e2 rfl rfl d go
        · exact va_Wgetf hx hb ho (va_Nw.use rfl (hV.2.1 _ hlk rfl)) hif hst q1 (by rw [q3]; exact fun h => by cases h) e2 rfl rfl d go
      · cases h
    · cases h
  · cases h
theorem ev_fits_ok {c : Nat} {v : ev_V} (h : ev_fits c v = true) {ty : FieldType} (hty : (c = 0 ∧ ty = .int) ∨ (c = 1 ∧ ty = .boolean) ∨ (c = 2 ∧ ((∃ C, ty = .object C) ∨ ∃ t, ty = .array t)) ∨ (c = 3 ∧ ty = .long)) : narrow ty (ev_dn b B0 σ v) = ev_dn b B0 σ v ∧ fits ty (ev_dn b B0 σ v) = true := by
  rcases hty with ⟨rfl, rfl⟩ | ⟨rfl, rfl⟩ | ⟨rfl, hty⟩ | ⟨rfl, rfl⟩
  · obtain ⟨x, ex⟩ := ev_dn_i (b := b) (B0 := B0) (σ := σ) (show ev_ii v = true from h)
    rw [ex]
    exact ⟨rfl, rfl⟩
  · rcases v with n | z | ⟨t, f⟩ | ⟨j, n⟩
    · have h : Nat.ble n 1 = true := h
      have h := Nat.le_of_ble_eq_true h
      have : n = 0 ∨ n = 1 := by omega
      rcases this with rfl | rfl
      · exact (by decide +kernel : narrow FieldType.boolean (.int (nI 0)) = .int (nI 0) ∧ fits FieldType.boolean (.int (nI 0)) = true)
      · exact (by decide +kernel : narrow FieldType.boolean (.int (nI 1)) = .int (nI 1) ∧ fits FieldType.boolean (.int (nI 1)) = true)
    · cases h
    · cases h
    · cases h
  · obtain ⟨x, -, ex⟩ := ev_dn_r (b := b) (B0 := B0) (σ := σ) (show ev_ir v = true from h)
    rw [ex]
    rcases hty with ⟨C, rfl⟩ | ⟨t, rfl⟩ <;> cases x <;> exact ⟨rfl, rfl⟩
  · obtain ⟨n, rfl⟩ := ev_dn_k (show ev_ik 0 v = true from h)
    exact ⟨rfl, rfl⟩
theorem ev_o_putf (hF : ev_Fx D aC b B0 L σ p s m args meth c cc nL Ts own Sg) (hk : ∀ pc loc st w, k pc loc st w = some r → ev_Go D aC b B0 σ p l e R s m args below meth c Q nL pc loc st w) (h : ev_h_putf Φ M k cl nx a b' c' tg pc loc st w = some r)
    (hi : ∃ (index : Nat) (C : String) (T : u_T) (N : Nat) (ty0 : Nat → FieldType), decode cc pc = .ok (.putfield index, 3) ∧ nx = pc + 3 ∧ vwCl[a]? = some (C, T, N) ∧ b' < N ∧ (∀ x ∈ u_ws C T N, x ∈ Ts) ∧ (∀ k, k < N → parseFieldDescriptor (T k).2.2.1 = some (ty0 k)) ∧ (∀ x, x < N → ∀ y, y < N → x ≠ y → (T x).2.1 ≠ (T y).2.1) ∧
      ((c' = 0 ∧ ty0 b' = .int) ∨ (c' = 1 ∧ ty0 b' = .boolean) ∨ (c' = 2 ∧ ((∃ C, ty0 b' = .object C) ∨ ∃ t, ty0 b' = .array t)) ∨ (c' = 3 ∧ ty0 b' = .long)) ∧
      (((T b').2.2.2 = false ∧ ev_fl_ok own (T b').1 (T b').2.1 (T b').2.2.1 index Ts) ∨ ((T b').2.2.2 = true ∧ meth.name = "<init>" ∧ (T b').1 = own ∧ Cond.fieldLink own index (T b').1 (T b').2.1 (T b').2.2.1 ∈ Ts))) : ev_Go D aC b B0 σ p l e R s m args below meth c Q nL pc loc st w := by
  obtain ⟨hx, hb, -, ho, ht, hV, -⟩ := hF
  obtain ⟨index, C, T, N, ty0, d, rfl, hc, hN, hin, hty, hnm, hty9, hlk⟩ := hi
  unfold ev_h_putf at h
  split at h
  · next v i rr =>
    split at h
    · next q hq =>
      obtain ⟨h1, h⟩ := ev_if_n h
      simp only [Bool.and_eq_true] at h1
      obtain ⟨h1, h2⟩ := h1
      have h1 := Nat.eq_of_beq_eq_true h1
      obtain ⟨d9, x9, u9, hu9, hd9, hx9, h⟩ := ev_upd_ok h
      intro H locs ls hl hJ hS
      have hc' : vwCl[q.1]? = some (C, T, N) := by rw [h1]; exact hc
      obtain ⟨hi, cell, q1, q2, q3, q4⟩ := ev_J_obj hJ hq hc'
      have hap := va_apart (own := own) ht hin ty0 hty hnm hV.1 hc'
      obtain ⟨hS9, hfc, kC, hkC, hkind⟩ := hV.1.1 q.1 _ hc'
      obtain ⟨cf, kf, fi, f, hif, hsl⟩ := hS9 b' hN
      have hst := (u_facts hfc hkC (u_lays ht hin hN) hif).1
      obtain ⟨hn, hfit⟩ := ev_fits_ok (b := b) (B0 := B0) (σ := σ) h2 hty9
      have hd := hty b' hN
      have hlay := ht _ (hin _ (u_in_lay hN))
      unfold u_lay at hlay
      have e1 : ev_dn b B0 σ (.inr (.inl (some i))) = .ref (B0 + i) := by
        show Value.ref _ = _
        rw [ev_ad_w hi]
      rw [List.map_cons, List.map_cons, e1]
      have hslot : f.slot < cell.slots.size := by rw [hsl]; exact k2_hasslot (q4 b' hN)
      have go : ∀ H' : Heap, H'[B0 + i]? = some (cell.setSlot f.slot (ev_dn b B0 σ v)) → H'.size = H.size → (∀ q, q ≠ B0 + i → H'[q]? = H[q]?) →
          W p l e R s m args below meth c H' (locs ++ [⟨B0 + i, f.slot⟩]) w.2.2.2.1 w.2.2.2.2 Q (F0 m (pc + 3) ls (rr.map (ev_dn b B0 σ))) := by
        intro H' g1 g2 g3
        rw [hsl] at g1
        refine hk _ _ _ _ h H' _ ls hl (ev_J_set hJ hq hx9 (Or.inr (Or.inl ⟨_, hc', ?_⟩)) g2 g3) (ev_S_put hS g2 g3 (Nat.le_add_right _ _))
        rw [ev_fv_set hd9]
        exact ⟨_, g1, q2, q3, t_set q4 hap hN _⟩
      rcases hlk with ⟨hfin, hlk⟩ | ⟨hfin, hini, hown2, hlk⟩
      · rw [if_neg (by rw [hfin]; decide)] at hlay
        have h6 := u_store hfc hkC hkind hlay hif hd hn hfit
        rcases hlk with hlk | ⟨host, hlk⟩
        · exact W.putK hx hb (f := f) ⟨ho, ht _ hlk, ⟨_, _, _, hif⟩, hst⟩ (by rw [q2]; exact h6) q1 q3 hslot rfl rfl d go
        · exact va_WputK hx hb (f := f) ho (va_Nw.use rfl (hV.2.1 _ hlk rfl)) hif hst (by rw [q2]; exact h6) q1 q3 hslot rfl rfl d go
      · rw [if_pos hfin] at hlay
        have hcf : m.cls = cf := by
          obtain ⟨_, _, c', _, _, _, -, -, hf', -, -, -, hown3, -⟩ := Cond.laysFinal_spec hlay
          have e1 : c' = cf := by have := hif.symm.trans hf'; simp at this; exact this.1.symm
          rw [hown2] at hown3
          rw [← e1]; exact Option.some.inj (ho.symm.trans hown3)
        have h6 := u_fits hfc hkC hkind (Or.inr hlay) hif hd hn hfit
        exact W.putFinK hx hb ho (ht _ hlk) hif hst hcf hini (by rw [q2]; exact h6) q1 q3 hslot rfl rfl d go
    · cases h
  · cases h
/-- what a frame has of the script -/
theorem ev_scr (hF : ev_Fx D aC b B0 L σ p s m args meth c cc nL Ts own Sg) {H : Heap} {locs : List Loc} (hS : va_S (fun q => B0 ≤ q) s.heap H locs) : va_X b L σ s H := by
  obtain ⟨-, -, -, -, -, -, ⟨hX, -⟩, hbB, -⟩ := hF
  obtain ⟨scr, h1, h2⟩ := hX
  exact ⟨scr, by rw [hS.2.1 b (Array.getElem?_eq_some_iff.mp h1).1 (by omega)]; exact h1, h2⟩
theorem ev_o_alen (hF : ev_Fx D aC b B0 L σ p s m args meth c cc nL Ts own Sg) (hL : Φ.1 = L) (hk : ∀ pc loc st w, k pc loc st w = some r → ev_Go D aC b B0 σ p l e R s m args below meth c Q nL pc loc st w) (h : ev_h_alen Φ M k cl nx a b' c' tg pc loc st w = some r)
    (hi : decode cc pc = .ok (.arraylength, 1) ∧ nx = pc + 1) : ev_Go D aC b B0 σ p l e R s m args below meth c Q nL pc loc st w := by
  obtain ⟨hx, hb, -, ho, ht, hV, -⟩ := id hF
  obtain ⟨d, rfl⟩ := hi
  unfold ev_h_alen at h
  split at h
  · next i rr =>
    intro H locs ls hl hJ hS
    cases c1 : Nat.beq i 1000000 with
    | true =>
      rw [c1, ev_if_t] at h
      have c1 := Nat.eq_of_beq_eq_true c1
      subst c1
      obtain ⟨scr, g1, g2, g3, g4, -⟩ := ev_scr hF hS
      have go := hk _ _ _ _ h H locs ls hl hJ hS
      exact W.alen (n := nI Φ.1) hx hb (a := b) g1 g2 (by rw [g4, hL]; rfl) rfl rfl d go
    | false =>
      rw [c1, ev_if_f] at h
      split at h
      · next q hq =>
        obtain ⟨h1, h⟩ := ev_if_n h
        simp only [Bool.and_eq_true] at h1
        have k1 := Nat.le_of_ble_eq_true h1.1
        have k2 := Nat.le_of_ble_eq_true h1.2
        obtain ⟨hi, g1⟩ := ev_J_arr hJ hq k1 k2
        have go := hk _ _ _ _ h H locs ls hl hJ hS
        rw [List.map_cons] at go ⊢
        have e1 : ev_dn b B0 σ (.inr (.inl (some i))) = .ref (B0 + i) := by
          show Value.ref _ = _
          rw [ev_ad_w hi]
        rw [e1]
        exact W.alen (n := nI q.2.1) hx hb g1 ((ev_tys_of hV k1 k2).1 _ _) (by rw [arrV_size]; rfl) rfl rfl d go
      · cases h
  · cases h
theorem ev_ix {j N : Nat} (h : (Nat.ble (j + 1) N && Nat.ble N 65536) = true) : j < N ∧ (nI j).toNatClampNeg = j ∧ ¬ (nI j < 0 ∨ N ≤ (nI j).toNatClampNeg) := by
  simp only [Bool.and_eq_true] at h
  have h1 := Nat.le_of_ble_eq_true h.1
  have h2 := Nat.le_of_ble_eq_true h.2
  have e : (nI j).toNatClampNeg = j := nI_clamp (by omega)
  refine ⟨by omega, e, ?_⟩
  rw [e]
  rintro (q | q)
  · exact nI_pos (by omega) q
  · omega
theorem ev_o_ald (hF : ev_Fx D aC b B0 L σ p s m args meth c cc nL Ts own Sg) (hk : ∀ pc loc st w, k pc loc st w = some r → ev_Go D aC b B0 σ p l e R s m args below meth c Q nL pc loc st w) (h : ev_h_ald Φ M k cl nx a b' c' tg pc loc st w = some r)
    (hi : ((a = 20 ∧ b' = 20 ∧ decode cc pc = .ok (.iaload, 1)) ∨ (a = 21 ∧ b' = 22 ∧ decode cc pc = .ok (.baload, 1)) ∨ (a = 23 ∧ b' = 23 ∧ decode cc pc = .ok (.laload, 1)) ∨ (a = 24 ∧ b' = 25 ∧ decode cc pc = .ok (.aaload, 1))) ∧ nx = pc + 1) : ev_Go D aC b B0 σ p l e R s m args below meth c Q nL pc loc st w := by
  obtain ⟨hx, hb, -, ho, ht, hV, -⟩ := id hF
  obtain ⟨hi, rfl⟩ := hi
  unfold ev_h_ald at h
  split at h
  · next j i rr =>
    split at h
    · next q hq =>
      obtain ⟨h1, h⟩ := ev_if_n h
      simp only [Bool.and_eq_true] at h1
      have k1 := Nat.le_of_ble_eq_true h1.1
      have k2 := Nat.le_of_ble_eq_true h1.2.1
      obtain ⟨g4, g5, g6⟩ := ev_ix (j := j) (N := q.2.1) (by rw [Bool.and_eq_true]; exact h1.2.2)
      split at h
      · next v hv =>
        intro H locs ls hl hJ hS
        have hab : 20 ≤ a ∧ b' ≤ 25 := by rcases hi with ⟨rfl, rfl, -⟩ | ⟨rfl, rfl, -⟩ | ⟨rfl, rfl, -⟩ | ⟨rfl, rfl, -⟩ <;> omega
        obtain ⟨hi9, g1⟩ := ev_J_arr hJ hq (by omega) (by omega)
        have hA := (ev_tys_of hV (k := q.1) (by omega) (by omega)).1 q.2.1 (ev_fv b B0 σ q.2.2)
        have go := hk _ _ _ _ h H locs ls hl hJ hS
        rw [List.map_cons] at go
        rw [List.map_cons, List.map_cons]
        have e1 : ev_dn b B0 σ (.inr (.inl (some i))) = .ref (B0 + i) := by
          show Value.ref _ = _
          rw [ev_ad_w hi9]
        rw [e1]
        have hin : ¬ (nI j < 0 ∨ (arrV (aC q.1) q.2.1 (ev_fv b B0 σ q.2.2)).slots.size ≤ (nI j).toNatClampNeg) := by rw [arrV_size]; exact g6
        have hv9 : (arrV (aC q.1) q.2.1 (ev_fv b B0 σ q.2.2)).slots[(nI j).toNatClampNeg]? = some (ev_dn b B0 σ v) := by
          rw [g5, arrV_read _ _ g4]
          unfold ev_fv
          rw [hv]
        have hkn : (arrV (aC q.1) q.2.1 (ev_fv b B0 σ q.2.2)).vm ≠ .unknown := fun z => by cases z
        rcases hi with ⟨rfl, rfl, d⟩ | ⟨rfl, rfl, d⟩ | ⟨rfl, rfl, d⟩ | ⟨rfl, rfl, d⟩
        · have e9 : q.1 = 20 := by omega
          rw [e9] at g1 hA hin hv9 hkn
          exact W.iald hx hb g1 hA hkn hin hv9 rfl rfl d go
        · have e9 : q.1 = 21 ∨ q.1 = 22 := by omega
          rcases e9 with e9 | e9
          · rw [e9] at g1 hA hin hv9 hkn
            exact W.bald hx hb g1 hA hkn hin hv9 rfl rfl d go
          · rw [e9] at g1 hA hin hv9 hkn
            exact W.zald hx hb g1 hA hkn hin hv9 rfl rfl d go
        · have e9 : q.1 = 23 := by omega
          rw [e9] at g1 hA hin hv9 hkn
          exact W.lald hx hb g1 hA hkn hin hv9 rfl rfl d go
        · have e9 : q.1 = 24 ∨ q.1 = 25 := by omega
          rcases e9 with e9 | e9
          · rw [e9] at g1 hA hin hv9 hkn
            exact W.aald (ty := .object RX3) hx hb g1 hA rfl hkn hin hv9 rfl rfl d go
          · rw [e9] at g1 hA hin hv9 hkn
            exact W.aald (ty := .object RX5) hx hb g1 hA rfl hkn hin hv9 rfl rfl d go
      · cases h
    · cases h
  · cases h
theorem ev_o_iald (hF : ev_Fx D aC b B0 L σ p s m args meth c cc nL Ts own Sg) (hL : Φ.1 = L) (hk : ∀ pc loc st w, k pc loc st w = some r → ev_Go D aC b B0 σ p l e R s m args below meth c Q nL pc loc st w) (h : ev_h_iald Φ M k cl nx a b' c' tg pc loc st w = some r)
    (hi : a = 20 ∧ b' = 20 ∧ decode cc pc = .ok (.iaload, 1) ∧ nx = pc + 1) : ev_Go D aC b B0 σ p l e R s m args below meth c Q nL pc loc st w := by
  obtain ⟨hx, hb, -, ho, ht, hV, -⟩ := id hF
  unfold ev_h_iald at h
  split at h
  · next j i rr =>
    cases c1 : Nat.beq i 1000000 with
    | true =>
      rw [c1, ev_if_t] at h
      have c1 := Nat.eq_of_beq_eq_true c1
      subst c1
      obtain ⟨h1, h⟩ := ev_if_n h
      simp only [Bool.and_eq_true] at h1
      have k1 := Nat.le_of_ble_eq_true h1.1
      have k2 := Nat.le_of_ble_eq_true h1.2
      obtain ⟨rfl, rfl, d, rfl⟩ := hi
      intro H locs ls hl hJ hS
      obtain ⟨scr, g1, g2, g3, g4, g5⟩ := ev_scr hF hS
      have e5 : (nI j).toNatClampNeg = j := nI_clamp (by omega)
      have go := hk _ _ _ _ h H locs ls hl hJ hS
      have e9 : ev_dn b B0 σ (.inr (.inr (.inl (some j, fun _ => 0)))) = .int (σ j) := by
        show Value.int (ev_sv σ j) = _
        unfold ev_sv
        rw [if_pos (by omega)]
      rw [List.map_cons, e9] at go
      exact W.iald hx hb (a := b) g1 g2 g3 (by rw [g4, e5]; rintro (q | q); exact nI_pos (by omega) q; omega) (by rw [e5]; exact g5 j (by omega)) rfl rfl d go
    | false =>
      rw [c1, ev_if_f] at h
      exact ev_o_ald hF hk h ⟨Or.inl ⟨hi.1, hi.2.1, hi.2.2.1⟩, hi.2.2.2⟩
  · cases h
/-- an element of an array was written -/
theorem ev_J_ast {w : ev_W} {H H1 : Heap} {i j : Nat} {q : ev_C} {x : List (List ev_C)} {d : List (List ev_V)} {v : ev_V} (h : ev_J D aC b B0 σ w H) (hq : ev_get w.1 i = some q) (hd : ∀ n, ev_get d n = if n = j then some v else ev_get q.2.2 n) (hx : ∀ n, ev_get x n = if n = i then some (q.1, (q.2.1, d)) else ev_get w.1 n)
    (h20 : 20 ≤ q.1) (h25 : q.1 ≤ 25) (h1 : H1[B0 + i]? = some ((arrV (aC q.1) q.2.1 (ev_fv b B0 σ q.2.2)).setSlot j (ev_dn b B0 σ v))) (hz : H1.size = H.size) (ho : ∀ x, x ≠ B0 + i → H1[x]? = H[x]?) : ev_J D aC b B0 σ (x, w.2) H1 := by
  refine ev_J_set h hq hx (Or.inr (Or.inr ⟨h20, h25, ?_⟩)) hz ho
  rw [h1, arrV_store, ev_fv_set hd]
theorem ev_o_iast (hF : ev_Fx D aC b B0 L σ p s m args meth c cc nL Ts own Sg) (hk : ∀ pc loc st w, k pc loc st w = some r → ev_Go D aC b B0 σ p l e R s m args below meth c Q nL pc loc st w) (h : ev_h_iast Φ M k cl nx a b' c' tg pc loc st w = some r)
    (hi : decode cc pc = .ok (.iastore, 1) ∧ nx = pc + 1) : ev_Go D aC b B0 σ p l e R s m args below meth c Q nL pc loc st w := by
  obtain ⟨hx, hb, -, ho, ht, hV, -⟩ := id hF
  obtain ⟨d, rfl⟩ := hi
  unfold ev_h_iast at h
  split at h
  · next v j i rr =>
    split at h
    · next q hq =>
      obtain ⟨h1, h⟩ := ev_if_n h
      rw [Bool.and_eq_true, Bool.and_eq_true] at h1
      have k1 := Nat.eq_of_beq_eq_true h1.1
      obtain ⟨g4, g5, g6⟩ := ev_ix h1.2.2
      obtain ⟨xv, ex⟩ := ev_dn_i (b := b) (B0 := B0) (σ := σ) h1.2.1
      obtain ⟨d9, x9, u9, hu9, hd9, hx9, h⟩ := ev_upd_ok h
      intro H locs ls hl hJ hS
      obtain ⟨hi9, g1⟩ := ev_J_arr hJ hq (by omega) (by omega)
      have hA := (ev_tys_of hV (k := q.1) (by omega) (by omega)).1 q.2.1 (ev_fv b B0 σ q.2.2)
      have e1 : ev_dn b B0 σ (.inr (.inl (some i))) = .ref (B0 + i) := by
        show Value.ref _ = _
        rw [ev_ad_w hi9]
      rw [List.map_cons, List.map_cons, List.map_cons, e1, ex]
      refine W.iast hx hb g1 (by rw [k1] at hA ⊢; exact hA) (fun z => by cases z) (by rw [arrV_size]; exact g6) rfl rfl d fun H1 z1 z2 z3 => ?_
      rw [g5, ← ex] at z1
      exact hk _ _ _ _ h H1 _ ls hl (ev_J_ast hJ hq hd9 hx9 (by omega) (by omega) z1 z2 z3) (ev_S_put hS z2 z3 (Nat.le_add_right _ _))
    · cases h
  · cases h
theorem ev_nb_ok {v z : ev_V} (h : ev_nb v = some z) : ∃ x : Int32, ev_dn b B0 σ v = .int x ∧ ev_dn b B0 σ z = .int x.toInt8.toInt32 := by
  rcases v with n | q | ⟨t, f⟩ | ⟨j, n⟩
  · have h : some (.inl (ev_n (nI n).toInt8.toInt32)) = some z := h
    cases h
    exact ⟨nI n, rfl, by show Value.int _ = _; rw [ev_nI_n]⟩
  · cases h
  · cases t with
    | none => cases h; exact ⟨f σ, rfl, rfl⟩
    | some i => cases h
  · cases h
theorem ev_o_bast (hF : ev_Fx D aC b B0 L σ p s m args meth c cc nL Ts own Sg) (hk : ∀ pc loc st w, k pc loc st w = some r → ev_Go D aC b B0 σ p l e R s m args below meth c Q nL pc loc st w) (h : ev_h_bast Φ M k cl nx a b' c' tg pc loc st w = some r)
    (hi : decode cc pc = .ok (.bastore, 1) ∧ nx = pc + 1) : ev_Go D aC b B0 σ p l e R s m args below meth c Q nL pc loc st w := by
  obtain ⟨hx, hb, -, ho, ht, hV, -⟩ := id hF
  obtain ⟨d, rfl⟩ := hi
  unfold ev_h_bast at h
  split at h
  · next v j i rr =>
    split at h
    · next q hq =>
      obtain ⟨h1, h⟩ := ev_if_n h
      obtain ⟨g4, g5, g6⟩ := ev_ix h1
      cases c1 : Nat.beq q.1 21 with
      | true =>
        rw [c1, ev_if_t] at h
        have k1 := Nat.eq_of_beq_eq_true c1
        split at h
        · next z hz =>
          obtain ⟨xv, ex, ez⟩ := ev_nb_ok (b := b) (B0 := B0) (σ := σ) hz
          obtain ⟨d9, x9, u9, hu9, hd9, hx9, h⟩ := ev_upd_ok h
          intro H locs ls hl hJ hS
          obtain ⟨hi9, g1⟩ := ev_J_arr hJ hq (by omega) (by omega)
          have hA := (ev_tys_of hV (k := q.1) (by omega) (by omega)).1 q.2.1 (ev_fv b B0 σ q.2.2)
          have e1 : ev_dn b B0 σ (.inr (.inl (some i))) = .ref (B0 + i) := by
            show Value.ref _ = _
            rw [ev_ad_w hi9]
          rw [List.map_cons, List.map_cons, List.map_cons, e1, ex]
          refine W.bast hx hb g1 (by rw [k1] at hA ⊢; exact hA) (fun z => by cases z) (by rw [arrV_size]; exact g6) rfl rfl d fun H1 z1 z2 z3 => ?_
          rw [g5, narrow_byte, ← ez] at z1
          exact hk _ _ _ _ h H1 _ ls hl (ev_J_ast hJ hq hd9 hx9 (by omega) (by omega) z1 z2 z3) (ev_S_put hS z2 z3 (Nat.le_add_right _ _))
        · cases h
      | false =>
        rw [c1, ev_if_f] at h
        obtain ⟨h2, h⟩ := ev_if_n h
        rw [Bool.and_eq_true] at h2
        have k1 := Nat.eq_of_beq_eq_true h2.1
        obtain ⟨hn, -⟩ := ev_fits_ok (b := b) (B0 := B0) (σ := σ) h2.2 (ty := .boolean) (Or.inr (Or.inl ⟨rfl, rfl⟩))
        have hii : ev_ii v = true := by
          rcases v with n | q | ⟨t, f⟩ | ⟨j, n⟩
          · rfl
          · exact absurd h2.2 (fun z => by cases z)
          · rfl
          · exact absurd h2.2 (fun z => by cases z)
        obtain ⟨xv, ex⟩ := ev_dn_i (b := b) (B0 := B0) (σ := σ) hii
        obtain ⟨d9, x9, u9, hu9, hd9, hx9, h⟩ := ev_upd_ok h
        intro H locs ls hl hJ hS
        obtain ⟨hi9, g1⟩ := ev_J_arr hJ hq (by omega) (by omega)
        have hA := (ev_tys_of hV (k := q.1) (by omega) (by omega)).1 q.2.1 (ev_fv b B0 σ q.2.2)
        have e1 : ev_dn b B0 σ (.inr (.inl (some i))) = .ref (B0 + i) := by
          show Value.ref _ = _
          rw [ev_ad_w hi9]
        rw [List.map_cons, List.map_cons, List.map_cons, e1, ex]
        refine W.zast hx hb g1 (by rw [k1] at hA ⊢; exact hA) (fun z => by cases z) (by rw [arrV_size]; exact g6) rfl rfl d fun H1 z1 z2 z3 => ?_
        rw [g5, ← ex, hn] at z1
        exact hk _ _ _ _ h H1 _ ls hl (ev_J_ast hJ hq hd9 hx9 (by omega) (by omega) z1 z2 z3) (ev_S_put hS z2 z3 (Nat.le_add_right _ _))
    · cases h
  · cases h
theorem ev_o_last (hF : ev_Fx D aC b B0 L σ p s m args meth c cc nL Ts own Sg) (hk : ∀ pc loc st w, k pc loc st w = some r → ev_Go D aC b B0 σ p l e R s m args below meth c Q nL pc loc st w) (h : ev_h_last Φ M k cl nx a b' c' tg pc loc st w = some r)
    (hi : decode cc pc = .ok (.lastore, 1) ∧ nx = pc + 1) : ev_Go D aC b B0 σ p l e R s m args below meth c Q nL pc loc st w := by
  obtain ⟨hx, hb, -, ho, ht, hV, -⟩ := id hF
  obtain ⟨d, rfl⟩ := hi
  unfold ev_h_last at h
  split at h
  · next v j i rr =>
    split at h
    · next q hq =>
      obtain ⟨h1, h⟩ := ev_if_n h
      rw [Bool.and_eq_true, Bool.and_eq_true] at h1
      have k1 := Nat.eq_of_beq_eq_true h1.1
      obtain ⟨g4, g5, g6⟩ := ev_ix h1.2.2
      obtain ⟨nv, rfl⟩ := ev_dn_k h1.2.1
      obtain ⟨d9, x9, u9, hu9, hd9, hx9, h⟩ := ev_upd_ok h
      intro H locs ls hl hJ hS
      obtain ⟨hi9, g1⟩ := ev_J_arr hJ hq (by omega) (by omega)
      have hA := (ev_tys_of hV (k := q.1) (by omega) (by omega)).1 q.2.1 (ev_fv b B0 σ q.2.2)
      have e1 : ev_dn b B0 σ (.inr (.inl (some i))) = .ref (B0 + i) := by
        show Value.ref _ = _
        rw [ev_ad_w hi9]
      rw [List.map_cons, List.map_cons, List.map_cons, e1]
      refine W.last (x := lN nv) hx hb g1 (by rw [k1] at hA ⊢; exact hA) (fun z => by cases z) (by rw [arrV_size]; exact g6) rfl rfl d fun H1 z1 z2 z3 => ?_
      rw [g5] at z1
      exact hk _ _ _ _ h H1 _ ls hl (ev_J_ast hJ hq hd9 hx9 (by omega) (by omega) z1 z2 z3) (ev_S_put hS z2 z3 (Nat.le_add_right _ _))
    · cases h
  · cases h
theorem ev_o_aast (hF : ev_Fx D aC b B0 L σ p s m args meth c cc nL Ts own Sg) (hk : ∀ pc loc st w, k pc loc st w = some r → ev_Go D aC b B0 σ p l e R s m args below meth c Q nL pc loc st w) (h : ev_h_aast 3 5 Φ M k cl nx a b' c' tg pc loc st w = some r)
    (hi : decode cc pc = .ok (.aastore, 1) ∧ nx = pc + 1) : ev_Go D aC b B0 σ p l e R s m args below meth c Q nL pc loc st w := by
  obtain ⟨hx, hb, -, ho, ht, hV, -⟩ := id hF
  obtain ⟨d, rfl⟩ := hi
  unfold ev_h_aast at h
  split at h
  · next x j i rr =>
    split at h
    · next q u hq hu =>
      obtain ⟨h1, h⟩ := ev_if_n h
      rw [Bool.and_eq_true] at h1
      obtain ⟨g4, g5, g6⟩ := ev_ix h1.2
      obtain ⟨d9, x9, u9, hu9, hd9, hx9, h⟩ := ev_upd_ok h
      have kk : (q.1 = 24 ∧ u.1 = 3) ∨ (q.1 = 25 ∧ u.1 = 5) := by
        have h1 := h1.1
        cases c1 : Nat.beq q.1 24 with
        | true =>
          rw [c1, ev_if_t] at h1
          exact Or.inl ⟨Nat.eq_of_beq_eq_true c1, Nat.eq_of_beq_eq_true h1⟩
        | false =>
          rw [c1, ev_if_f, Bool.and_eq_true] at h1
          exact Or.inr ⟨Nat.eq_of_beq_eq_true h1.1, Nat.eq_of_beq_eq_true h1.2⟩
      intro H locs ls hl hJ hS
      obtain ⟨hi9, g1⟩ := ev_J_arr hJ hq (by omega) (by omega)
      obtain ⟨-, hRA⟩ := ev_tys_of hV (k := q.1) (by omega) (by omega)
      have e1 : ∀ {n : Nat}, n < 1000000 → ev_dn b B0 σ (.inr (.inl (some n))) = .ref (B0 + n) := fun hn => by
        show Value.ref _ = _
        rw [ev_ad_w hn]
      have main : ∀ (ci : Nat) (rr9 : vw_C), u.1 = ci → vwCl[ci]? = some rr9 → va_RA s (aC q.1) (.object rr9.1) → W p l e R s m args below meth c H locs w.2.2.2.1 w.2.2.2.2 Q (F0 m pc ls ((.inr (.inl (some x)) :: .inl j :: .inr (.inl (some i)) :: rr).map (ev_dn b B0 σ))) := by
        intro ci rr9 eu hci hra
        obtain ⟨hx9', cellV, f1, f2, f3, -⟩ := ev_J_obj hJ hu (rr := rr9) (by rw [eu]; exact hci)
        have hcls := (hV.1.1 ci rr9 hci).2
        obtain ⟨kA, comp, k1, k2, k3, -⟩ := hra
        have hcomp : comp = D.1 ci := Option.some.inj (k3.symm.trans hcls.1)
        subst hcomp
        obtain ⟨kC, hkC, -⟩ := hcls.2
        rw [List.map_cons, List.map_cons, List.map_cons, e1 hi9, e1 hx9']
        refine W.aast hx hb g1 (fun q h => by cases h) (fun h => by cases h) k1 k2 rfl hkC ⟨fun z => g6 (Or.inl z), by rw [arrV_size, g5]; exact g4⟩ f1 (fun q h => by rw [f3] at h; cases h) (by rw [f2, eu]; exact hkC) (by rw [f2, eu]; exact va_assign hcls) rfl rfl d fun H1 z1 z2 z3 => ?_
        rw [g5, ← e1 hx9'] at z1
        exact hk _ _ _ _ h H1 _ ls hl (ev_J_ast hJ hq hd9 hx9 (by omega) (by omega) z1 z2 z3) (ev_S_put hS z2 z3 (Nat.le_add_right _ _))
      rcases kk with ⟨k1, k2⟩ | ⟨k1, k2⟩
      · rw [k1] at hRA
        exact main 3 (RX3, TX3, 15) k2 rfl (by rw [k1]; exact hRA)
      · rw [k1] at hRA
        exact main 5 (RX5, TX5, 10) k2 rfl (by rw [k1]; exact hRA)
    · cases h
  · cases h
end EVH
end
section
/-! ===== new things, conversions, switches, the JDK's own (own work) ===== -/
section EVM
variable {D : va_G} {aC : Nat → ClassId} {b B0 L : Nat} {σ : Nat → Int32}
variable {p : Program} {l : Launch} {e : Env} {R : Room} {s : State} {m : MethodId} {args : Array Value} {below : List Frame} {meth : Method} {c : Code} {Q : State → Prop}
variable {cc : ByteArray} {nL : Nat} {Ts : List Cond} {own : String} {Sg : List (String × (Nat × String))}
variable {Φ : ev_P} {M : ev_M} {k : ev_N} {cl : ev_F} {nx a b' c' pc : Nat} {tg : List Nat} {loc : ev_L} {st : List ev_V} {w : ev_W} {r : ev_S}
theorem ev_mk_ok {q : ev_C} {n : Nat} {kt : ev_W → ev_R} (h : ev_mk w q n kt = some r) :
    ∃ (x : List (List ev_C)) (u : ev_C), w.2.2.1 = true ∧ ev_get w.1 w.2.1 = some u ∧ (∀ j, ev_get x j = if j = w.2.1 then some q else ev_get w.1 j) ∧ kt (x, (w.2.1 + 1, (true, (w.2.2.2.1 + 1, w.2.2.2.2 + n)))) = some r := by
  unfold ev_mk at h
  obtain ⟨h1, h⟩ := ev_if_n h
  split at h
  · next x hx =>
    obtain ⟨⟨u, hu⟩, h2⟩ := ev_sto_ok hx
    exact ⟨x, u, h1, hu, h2, h⟩
  · cases h
theorem ev_J_new {H H1 : Heap} {q u : ev_C} {x : List (List ev_C)} {y : Nat × Nat} (h : ev_J D aC b B0 σ w H) (he : w.2.2.1 = true) (hu : ev_get w.1 w.2.1 = some u) (hx : ∀ j, ev_get x j = if j = w.2.1 then some q else ev_get w.1 j)
    (h1 : ev_at D aC b B0 σ H.size q H1) (hz : H1.size = H.size + 1) (ho : ∀ x, x < H.size → H1[x]? = H[x]?) : ev_J D aC b B0 σ (x, (w.2.1 + 1, (true, y))) H1 := by
  have e := h.2.2 he
  refine ⟨fun j v hj => ?_, ?_, fun _ => ?_⟩
  · have hj : ev_get x j = some v := hj
    rw [hx] at hj
    by_cases ej : j = w.2.1
    · rw [if_pos ej] at hj
      cases hj
      rw [ej, ← e]
      exact ⟨(h.1 _ _ hu).1, h1⟩
    · rw [if_neg ej] at hj
      obtain ⟨g1, g2⟩ := h.1 j v hj
      refine ⟨g1, ?_⟩
      rcases g2 with g | ⟨rr, g2, g3⟩ | ⟨g2, g3, g4⟩
      · exact Or.inl g
      · obtain ⟨cell, k1, k2⟩ := id g3
        exact Or.inr (Or.inl ⟨rr, g2, g3.kept (ho _ (Array.getElem?_eq_some_iff.mp k1).1)⟩)
      · exact Or.inr (Or.inr ⟨g2, g3, (ho _ (Array.getElem?_eq_some_iff.mp g4).1).trans g4⟩)
  · show B0 + (w.2.1 + 1) ≤ H1.size
    omega
  · show H1.size = B0 + (w.2.1 + 1)
    omega
theorem ev_S_new {A : Nat → Prop} {H0 H H1 : Heap} {locs : List Loc} (hS : va_S A H0 H locs) (hz : H1.size = H.size + 1) (ho : ∀ q, q < H.size → H1[q]? = H[q]?) : va_S A H0 H1 locs :=
  ⟨Nat.le_trans hS.1 (by omega), fun q h1 h2 => (ho q (Nat.lt_of_lt_of_le h1 hS.1)).trans (hS.2.1 q h1 h2), hS.2.2⟩
theorem ev_may_ok {x y : Nat} (h : ev_may M w x y = true) (hR : M.2.1 ≤ R.cells ∧ M.2.2.1 ≤ R.slots) : w.2.2.2.1 + x ≤ R.cells ∧ w.2.2.2.2 + y ≤ R.slots := by
  unfold ev_may at h
  rw [Bool.and_eq_true] at h
  have h1 := Nat.le_of_ble_eq_true h.1
  have h2 := Nat.le_of_ble_eq_true h.2
  omega
def ev_dc (t : FieldType) : Nat := match t with
  | .object _ => 1
  | .array _ => 1
  | .long => 2
  | .float => 3
  | .double => 3
  | _ => 0
theorem ev_dv_ok {t : FieldType} (h : ev_dc t < 3) : ev_dn b B0 σ (ev_dv (ev_dc t)) = defaultValue t := by
  cases t <;> first | rfl | (exact absurd h (by decide))
theorem ev_fv_new {N : Nat} {ty : Nat → FieldType} (hN : N ≤ 32) (ht : ∀ k, k < N → ev_dc (ty k) < 3) {k : Nat} (hk : k < N) : defaultValue (ty k) = ev_fv b B0 σ [((List.range N).map (fun k => ev_dc (ty k))).map ev_dv] k := by
  unfold ev_fv
  rw [ev_get_eq]
  have e1 : k / 32 = 0 := by omega
  have e2 : k % 32 = k := by omega
  rw [e1, e2]
  show defaultValue (ty k) = match (((List.range N).map (fun k => ev_dc (ty k))).map ev_dv)[k]? with
    | some v => ev_dn b B0 σ v
    | none => .null
  rw [List.getElem?_map, List.getElem?_map, List.getElem?_range hk]
  exact (ev_dv_ok (ht k hk)).symm
theorem ev_o_new (hF : ev_Fx D aC b B0 L σ p s m args meth c cc nL Ts own Sg) (hR : M.2.1 ≤ R.cells ∧ M.2.2.1 ≤ R.slots) (hk : ∀ pc loc st w, k pc loc st w = some r → ev_Go D aC b B0 σ p l e R s m args below meth c Q nL pc loc st w) (h : ev_h_new Φ M k cl nx a b' c' tg pc loc st w = some r)
    (hi : ∃ (index : Nat) (C : String) (T : u_T) (N : Nat) (ty0 : Nat → FieldType), decode cc pc = .ok (.new index, 3) ∧ nx = pc + 3 ∧ vwCl[a]? = some (C, T, N) ∧ b' = N ∧ N ≤ 32 ∧ (∀ x ∈ u_ws C T N, x ∈ Ts) ∧ (∀ k, k < N → parseFieldDescriptor (T k).2.2.1 = some (ty0 k)) ∧ (∀ k, k < N → ev_dc (ty0 k) < 3) ∧ tg = (List.range N).map (fun k => ev_dc (ty0 k)) ∧
      Cond.classLink own index C ∈ Ts ∧ Cond.instantiable C N ∈ Ts ∧ Cond.initialized C ∈ Ts) : ev_Go D aC b B0 σ p l e R s m args below meth c Q nL pc loc st w := by
  obtain ⟨hx, hb, -, ho, ht, hV, -⟩ := id hF
  obtain ⟨index, C, T, N, ty0, d, rfl, hc, rfl, hN, hin, hty, hdc, rfl, w1, w2, w3⟩ := hi
  unfold ev_h_new at h
  obtain ⟨h1, h⟩ := ev_if_n h
  obtain ⟨x, u, he, hu, hx9, h⟩ := ev_mk_ok h
  intro H locs ls hl hJ hS
  have hKn := hV.1.1 a _ hc
  obtain ⟨r1, r2⟩ := ev_may_ok h1 hR
  refine W.newcK hx hb ho (ht _ w1) (ht _ w2) (ht _ w3) rfl d r1 r2 hKn.2.1 rfl fun H1 kC hkC e1 z1 o1 => ?_
  have e9 := hJ.2.2 he
  have go := hk _ _ _ _ h H1 locs ls hl (ev_J_new hJ he hu hx9 (Or.inr (Or.inl ⟨_, hc, (u_born ty0 ht hin hKn hkC e1 hty).to (fun k hk9 => ev_fv_new hN hdc hk9)⟩)) z1 o1) (ev_S_new hS z1 o1)
  have e2 : ev_dn b B0 σ (.inr (.inl (some w.2.1))) = .ref H.size := by
    show Value.ref _ = _
    rw [ev_ad_w (hJ.1 _ _ hu).1, e9]
  rw [List.map_cons, e2] at go
  exact go
theorem ev_rows_get {n j : Nat} {v : ev_V} (h : j < n) : ev_get (ev_rows n v) j = some v := by
  rw [ev_get_eq]
  unfold ev_rows
  rw [List.getElem?_replicate, if_pos (by omega)]
  show (List.replicate 32 v)[j % 32]? = _
  rw [List.getElem?_replicate, if_pos (by omega)]
theorem ev_arr_to {cA : ClassId} {N : Nat} {f g : Nat → Value} (h : ∀ j, j < N → f j = g j) : arrV cA N f = arrV cA N g := by
  unfold arrV
  congr 1
  apply Array.ext
  · simp
  · intro j h1 h2
    simp only [Array.getElem_ofFn]
    exact h j (by simpa using h1)
theorem ev_o_newa (hF : ev_Fx D aC b B0 L σ p s m args meth c cc nL Ts own Sg) (hR : M.2.1 ≤ R.cells ∧ M.2.2.1 ≤ R.slots) (hk : ∀ pc loc st w, k pc loc st w = some r → ev_Go D aC b B0 σ p l e R s m args below meth c Q nL pc loc st w) (h : ev_h_newa Φ M k cl nx a b' c' tg pc loc st w = some r)
    (hi : (∃ at9 : ArrayType, decode cc pc = .ok (.newarray at9, 2) ∧ nx = pc + 2 ∧ newarray.typeOf at9 = ev_ty a ∧ 20 ≤ a ∧ a ≤ 23 ∧ b' = ev_dc (ev_ty a) ∧ Cond.arrayClass (newarray.typeOf at9) ∈ Ts) ∨
      (∃ (ix : Nat) (C : String), decode cc pc = .ok (.anewarray ix, 3) ∧ nx = pc + 3 ∧ 24 ≤ a ∧ a ≤ 25 ∧ ev_ty a = .object C ∧ b' = 1 ∧ Cond.classLink own ix C ∈ Ts ∧ Cond.arrayOver (.object C) ∈ lw_tbl)) : ev_Go D aC b B0 σ p l e R s m args below meth c Q nL pc loc st w := by
  obtain ⟨hx, hb, -, ho, ht, hV, -⟩ := id hF
  unfold ev_h_newa at h
  split at h
  · next n rr =>
    obtain ⟨h1, h⟩ := ev_if_n h
    rw [Bool.and_eq_true] at h1
    have hn := Nat.le_of_ble_eq_true h1.2
    obtain ⟨r1, r2⟩ := ev_may_ok h1.1 hR
    obtain ⟨x, u, he, hu, hx9, h9⟩ := ev_mk_ok h
    intro H locs ls hl hJ hS
    have e9 := hJ.2.2 he
    have e2 : ev_dn b B0 σ (.inr (.inl (some w.2.1))) = .ref H.size := by
      show Value.ref _ = _
      rw [ev_ad_w (hJ.1 _ _ hu).1, e9]
    have e5 : (nI n).toNatClampNeg = n := nI_clamp (by omega)
    have e6 : ¬ nI n < 0 := nI_pos (by omega)
    rw [List.map_cons]
    rcases hi with ⟨at9, d, rfl, hty, ha, ha2, rfl, hw⟩ | ⟨ix, C, d, rfl, ha, ha2, hty, rfl, hw, hw2⟩
    · have hz : componentBytes (newarray.typeOf at9) ≤ 8 := by cases at9 <;> decide
      refine va_newaK (N := n) hx hb (ht _ hw) rfl d rfl e6 e5 (Nat.le_trans (Nat.mul_le_mul hn hz) (by decide)) r1 r2 rfl fun H1 cA e1 z1 o1 hAr hNm => ?_
      obtain ⟨-, hRA⟩ := ev_tys_of hV (k := a) (by omega) (by omega)
      have hcA : cA = aC a := by
        have ha9 : a = 20 ∨ a = 21 ∨ a = 22 ∨ a = 23 := by omega
        rw [hty] at hNm
        rcases ha9 with rfl | rfl | rfl | rfl <;> exact Option.some.inj (hNm.symm.trans hRA)
      have hdc : ev_dc (ev_ty a) < 3 := by
        have ha9 : a = 20 ∨ a = 21 ∨ a = 22 ∨ a = 23 := by omega
        rcases ha9 with rfl | rfl | rfl | rfl <;> decide
      have go := hk _ _ _ _ h9 H1 locs ls hl (ev_J_new hJ he hu hx9 (Or.inr (Or.inr ⟨by show 20 ≤ a; omega, by show a ≤ 25; omega, by
        rw [e1, hcA, hty]
        refine congrArg some (ev_arr_to fun j hj => ?_)
        unfold ev_fv
        rw [ev_rows_get hj]
        exact (ev_dv_ok hdc).symm⟩)) z1 o1) (ev_S_new hS z1 o1)
      rw [List.map_cons, e2] at go
      exact go
    · refine W.anew hx hb ho (ht _ hw) (show (Cond.arrayOver (.object C)).before args s = true from va_AO.use (C := C) (hV.2.1 _ hw2 rfl)) rfl d rfl e6 (by rw [e5]; omega) r1 (by rw [e5]; exact r2) fun cA kA comp f1 f2 f3 f4 => ?_
      obtain ⟨-, hRA⟩ := ev_tys_of hV (k := a) (by omega) (by omega)
      rw [hty] at hRA
      obtain ⟨kA', comp', g1, g2, g3, g4⟩ := hRA
      have hcA : cA = aC a := Option.some.inj (f1.symm.trans g4)
      rw [arrV_new, e5]
      have z1 : (H.push (arrV cA n (fun _ => Value.null))).size = H.size + 1 := by simp
      have o1 : ∀ q, q < H.size → (H.push (arrV cA n (fun _ => Value.null)))[q]? = H[q]? := fun q hq => by rw [Array.getElem?_push, if_neg (Nat.ne_of_lt hq)]
      have e1 : (H.push (arrV cA n (fun _ => Value.null)))[H.size]? = some (arrV cA n (fun _ => Value.null)) := by simp
      have go := hk _ _ _ _ h9 _ locs ls hl (ev_J_new hJ he hu hx9 (Or.inr (Or.inr ⟨by show 20 ≤ a; omega, by show a ≤ 25; omega, by
        rw [e1, hcA]
        refine congrArg some (ev_arr_to fun j hj => ?_)
        unfold ev_fv
        rw [ev_rows_get hj]
        rfl⟩)) z1 o1) (ev_S_new hS z1 o1)
      rw [List.map_cons, e2] at go
      exact go
  · cases h
theorem ev_o_objinit (hF : ev_Fx D aC b B0 L σ p s m args meth c cc nL Ts own Sg) (hR : 1 ≤ R.frames ∧ 100 ≤ R.locals) (hk : ∀ pc loc st w, k pc loc st w = some r → ev_Go D aC b B0 σ p l e R s m args below meth c Q nL pc loc st w) (h : ev_h_objinit Φ M k cl nx a b' c' tg pc loc st w = some r)
    (hi : ∃ ix : Nat, decode cc pc = .ok (.invokespecial ix, 3) ∧ nx = pc + 3 ∧ Cond.methodLink own ix Lib.objectInit ∈ Ts ∧ Cond.instanceMethod Lib.objectInit ∈ Ts ∧ Cond.code Lib.objectInit ⟨#[0xb1]⟩ 1 none ∈ Ts) : ev_Go D aC b B0 σ p l e R s m args below meth c Q nL pc loc st w := by
  obtain ⟨hx, hb, hml, ho, ht, hV, -⟩ := id hF
  obtain ⟨ix, d, rfl, w1, w2, w3⟩ := hi
  unfold ev_h_objinit at h
  split at h
  · next i rr =>
    obtain ⟨h1, h⟩ := ev_if_n h
    have h1 := Nat.le_of_ble_eq_true h1
    have h2 := ev_cs_ok (b := b) (B0 := B0) (σ := σ) rr
    exact ev_pure hk h fun H locs ls hl g => W.objInit hx hb ho (ht _ w1) (ht _ w2) (ht _ w3) rfl (by rw [hml]; exact hl.1) rfl d hR.1 (by show 2 * 0 + _ + 12 ≤ _; omega) g
  · cases h
theorem ev_bb_z {x : Int32} {z : Int} (hz : -2147483648 ≤ z) : (ev_bb x < (z + 2147483648).toNat ↔ x.toInt < z) ∧ ((z + 2147483648).toNat < ev_bb x ↔ z < x.toInt) ∧ (ev_bb x - (z + 2147483648).toNat = (x.toInt - z).toNat) := by
  have h1 := ev_bb_ge x
  unfold ev_bb
  refine ⟨?_, ?_, ?_⟩ <;> omega
theorem ev_o_switch (hF : ev_Fx D aC b B0 L σ p s m args meth c cc nL Ts own Sg) (hΦ : ev_FO Φ σ) (hk : ∀ pc loc st w, k pc loc st w = some r → ev_Go D aC b B0 σ p l e R s m args below meth c Q nL pc loc st w) (h : ev_h_switch Φ M k cl nx a b' c' tg pc loc st w = some r)
    (hi : ∃ (df lo hi9 : Int) (offs : Array Int) (len : Nat), decode cc pc = .ok (.tableswitch df lo hi9 offs, len) ∧ -2147483648 ≤ lo ∧ -2147483648 ≤ hi9 ∧ a = (lo + 2147483648).toNat ∧ b' = (hi9 + 2147483648).toNat ∧ (pc : Int) + df = (c' : Int) ∧ (∀ (j t : Nat), tg[j]? = some t → ∃ off, offs[j]? = some off ∧ (pc : Int) + off = (t : Int))) :
    ev_Go D aC b B0 σ p l e R s m args below meth c Q nL pc loc st w := by
  obtain ⟨hx, hb, -⟩ := id hF
  obtain ⟨df, lo, hi9, offs, len, d, hlo, hhi, rfl, rfl, hdf, htg⟩ := hi
  unfold ev_h_switch at h
  split at h
  · next x rr =>
    split at h
    · next q hq =>
      obtain ⟨u, eu, u1, u2⟩ := ev_itv_ok (b := b) (B0 := B0) hΦ hq
      obtain ⟨l1, l2, l3⟩ := ev_bb_z (x := u) hlo
      obtain ⟨m1, m2, -⟩ := ev_bb_z (x := u) hhi
      cases c1 : (Nat.ble (q.2 + 1) (lo + 2147483648).toNat || Nat.ble ((hi9 + 2147483648).toNat + 1) q.1) with
      | true =>
        rw [c1, ev_if_t] at h
        refine ev_pure hk h fun H locs ls hl g => ?_
        rw [List.map_cons, eu]
        rw [Bool.or_eq_true] at c1
        refine lv_tableOut hx hb d ?_ hdf g
        rcases c1 with c1 | c1
        · have := Nat.le_of_ble_eq_true c1
          exact Or.inl (l1.mp (by omega))
        · have := Nat.le_of_ble_eq_true c1
          exact Or.inr (m2.mp (by omega))
      | false =>
        rw [c1, ev_if_f] at h
        obtain ⟨h1, h⟩ := ev_if_n h
        rw [Bool.and_eq_true, Bool.and_eq_true] at h1
        have k1 := Nat.eq_of_beq_eq_true h1.1
        have k2 := Nat.le_of_ble_eq_true h1.2.1
        have k3 := Nat.le_of_ble_eq_true h1.2.2
        split at h
        · next t ht =>
          rw [ev_lg_eq] at ht
          obtain ⟨off, o1, o2⟩ := htg _ _ ht
          refine ev_pure hk h fun H locs ls hl g => ?_
          rw [List.map_cons, eu]
          have eb : ev_bb u = q.1 := by omega
          refine lv_tableIn hx hb d (fun z => ?_) (fun z => ?_) (off := off) ?_ o2 g
          · have := l1.mpr z
            omega
          · have := m2.mpr z
            omega
          · rw [← l3, eb]
            exact o1
        · cases h
    · cases h
  · cases h
theorem ev_u32 (x : UInt32) : UInt32.ofNat x.toNat = x := by simp
theorem ev_u64 (x : UInt64) : UInt64.ofNat x.toNat = x := by simp
theorem ev_o_cv (hF : ev_Fx D aC b B0 L σ p s m args meth c cc nL Ts own Sg) (hk : ∀ pc loc st w, k pc loc st w = some r → ev_Go D aC b B0 σ p l e R s m args below meth c Q nL pc loc st w) (h : ev_h_cv Φ M k cl nx a b' c' tg pc loc st w = some r)
    (hi : ((a = 0 ∧ decode cc pc = .ok (.i2l, 1)) ∨ (a = 1 ∧ decode cc pc = .ok (.l2i, 1)) ∨ (a = 2 ∧ decode cc pc = .ok (.i2d, 1)) ∨ (a = 3 ∧ decode cc pc = .ok (.i2f, 1)) ∨ (a = 4 ∧ decode cc pc = .ok (.f2d, 1)) ∨ (a = 5 ∧ decode cc pc = .ok (.i2b, 1)) ∨ (a = 6 ∧ decode cc pc = .ok (.i2c, 1))) ∧ nx = pc + 1) : ev_Go D aC b B0 σ p l e R s m args below meth c Q nL pc loc st w := by
  obtain ⟨hx, hb, -⟩ := id hF
  obtain ⟨hi, rfl⟩ := hi
  unfold ev_h_cv at h
  split at h
  · next x rr =>
    split at h
    · next z hz =>
      refine ev_pure hk h fun H locs ls hl g => ?_
      rw [List.map_cons] at g ⊢
      rcases hi with ⟨rfl, d⟩ | ⟨rfl, d⟩ | ⟨rfl, d⟩ | ⟨rfl, d⟩ | ⟨rfl, d⟩ | ⟨rfl, d⟩ | ⟨rfl, d⟩
      · rcases x with n | q | ⟨t, f⟩ | ⟨j, n⟩
        · have e := (Option.some.inj hz).symm
          subst e
          refine lv_i2l hx hb d rfl ?_
          have e : ev_dn b B0 σ (.inr (.inr (.inr (0, ev_nl (nI n).toInt64)))) = .long (nI n).toInt64 := by
            show Value.long _ = _
            rw [ev_lN_n]
          rw [e] at g
          exact g
        · exact absurd hz (fun z => by cases z)
        · exact absurd hz (fun z => by cases z)
        · exact absurd hz (fun z => by cases z)
      · rcases x with n | q | ⟨t, f⟩ | ⟨j, n⟩
        · exact absurd hz (fun z => by cases z)
        · exact absurd hz (fun z => by cases z)
        · exact absurd hz (fun z => by cases z)
        · match j, hz, g with
          | 0, hz, g =>
            have e := (Option.some.inj hz).symm
            subst e
            refine lv_l2i hx hb d rfl ?_
            have e : ev_dn b B0 σ (.inl (ev_n (lN n).toInt32)) = .int (lN n).toInt32 := by
              show Value.int _ = _
              rw [ev_nI_n]
            rw [e] at g
            exact g
          | j + 1, hz, g => exact absurd hz (fun z => by cases z)
      · rcases x with n | q | ⟨t, f⟩ | ⟨j, n⟩
        · have e := (Option.some.inj hz).symm
          subst e
          refine lv_i2d hx hb d ?_
          have e : ev_dn b B0 σ (.inr (.inr (.inr (2, (FP.i2d (nI n)).toNat)))) = .double (FP.i2d (nI n)) := by
            show Value.double _ = _
            rw [ev_u64]
          rw [e] at g
          exact g
        · exact absurd hz (fun z => by cases z)
        · exact absurd hz (fun z => by cases z)
        · exact absurd hz (fun z => by cases z)
      · rcases x with n | q | ⟨t, f⟩ | ⟨j, n⟩
        · have e := (Option.some.inj hz).symm
          subst e
          refine lv_i2f hx hb d ?_
          have e : ev_dn b B0 σ (.inr (.inr (.inr (1, (FP.i2f (nI n)).toNat)))) = .float (FP.i2f (nI n)) := by
            show Value.float _ = _
            rw [ev_u32]
          rw [e] at g
          exact g
        · exact absurd hz (fun z => by cases z)
        · exact absurd hz (fun z => by cases z)
        · exact absurd hz (fun z => by cases z)
      · rcases x with n | q | ⟨t, f⟩ | ⟨j, n⟩
        · exact absurd hz (fun z => by cases z)
        · exact absurd hz (fun z => by cases z)
        · exact absurd hz (fun z => by cases z)
        · match j, hz, g with
          | 0, hz, g => exact absurd hz (fun z => by cases z)
          | 1, hz, g =>
            have hz : ev_if (ev_n64 (FP.f2d (UInt32.ofNat n))) (some (.inr (.inr (.inr (2, (FP.f2d (UInt32.ofNat n)).toNat))))) none = some z := hz
            obtain ⟨h1, hz⟩ := ev_if_n hz
            have e := (Option.some.inj hz).symm
            subst e
            refine lv_f2d hx hb d (by unfold vf_n64; exact of_decide_eq_true h1) ?_
            have e : ev_dn b B0 σ (.inr (.inr (.inr (2, (FP.f2d (UInt32.ofNat n)).toNat)))) = .double (FP.f2d (UInt32.ofNat n)) := by
              show Value.double _ = _
              rw [ev_u64]
            rw [e] at g
            exact g
          | j + 2, hz, g => exact absurd hz (fun z => by cases z)
      · rcases x with n | q | ⟨t, f⟩ | ⟨j, n⟩
        · have e := (Option.some.inj hz).symm
          subst e
          refine lv_i2b hx hb d rfl ?_
          have e : ev_dn b B0 σ (.inl (ev_n (nI n).toInt8.toInt32)) = .int (nI n).toInt8.toInt32 := by
            show Value.int _ = _
            rw [ev_nI_n]
          rw [e] at g
          exact g
        · exact absurd hz (fun z => by cases z)
        · cases t with
          | none =>
            have e := (Option.some.inj hz).symm
            subst e
            exact lv_i2b hx hb d rfl g
          | some i => exact absurd hz (fun z => by cases z)
        · exact absurd hz (fun z => by cases z)
      · rcases x with n | q | ⟨t, f⟩ | ⟨j, n⟩
        · have e := (Option.some.inj hz).symm
          subst e
          refine lv_i2c hx hb d rfl ?_
          have e : ev_dn b B0 σ (.inl (n % 65536)) = .int ((nI n).toUInt32 % 65536).toInt32 := by
            show Value.int _ = _
            rw [pk_char]
            refine congrArg Value.int (ev_nI_eq ?_)
            have e2 : (nI n).toBitVec.toNat = n % 4294967296 := by
              rw [← ev_nI_mod, pk_tn (by omega)]
            rw [e2]
            omega
          rw [e] at g
          exact g
        · exact absurd hz (fun z => by cases z)
        · exact absurd hz (fun z => by cases z)
        · exact absurd hz (fun z => by cases z)
    · cases h
  · cases h
theorem ev_o_w2 (hF : ev_Fx D aC b B0 L σ p s m args meth c cc nL Ts own Sg) (hR : 1 ≤ R.frames ∧ 100 ≤ R.locals) (hMR0 : M.2.1 ≤ R.cells ∧ M.2.2.1 ≤ R.slots) (hk : ∀ pc loc st w, k pc loc st w = some r → ev_Go D aC b B0 σ p l e R s m args below meth c Q nL pc loc st w) (h : ev_h_w2 Φ M k cl nx a b' c' tg pc loc st w = some r)
    (hi : (((a = 0 ∧ decode cc pc = .ok (.ddiv, 1)) ∨ (a = 1 ∧ decode cc pc = .ok (.fdiv, 1)) ∨ (a = 2 ∧ decode cc pc = .ok (.dcmp .l, 1)) ∨ (a = 3 ∧ decode cc pc = .ok (.dcmp .g, 1)) ∨ (a = 4 ∧ decode cc pc = .ok (.lcmp, 1)) ∨ (a = 5 ∧ decode cc pc = .ok (.lshr, 1)) ∨ (a = 6 ∧ decode cc pc = .ok (.lshl, 1)) ∨ (a = 7 ∧ decode cc pc = .ok (.land, 1)) ∨ (a = 8 ∧ decode cc pc = .ok (.lor, 1))) ∧ nx = pc + 1) ∨
      (∃ ix : Nat, a = 9 ∧ decode cc pc = .ok (.invokestatic ix, 3) ∧ nx = pc + 3 ∧ Cond.methodLink own ix Lib.Math.max.name ∈ Ts ∧ Cond.static Lib.Math.max.name ∈ Ts ∧ Cond.initialized "java/lang/Math" ∈ Ts ∧ Cond.code Lib.Math.max.name Lib.Math.max.code 2 (some .int) ∈ Ts)) : ev_Go D aC b B0 σ p l e R s m args below meth c Q nL pc loc st w := by
  obtain ⟨hx, hb, hml, ho, ht, -⟩ := id hF
  unfold ev_h_w2 at h
  split at h
  · next y x rr =>
    split at h
    · next z hz =>
      obtain ⟨h1, h⟩ := ev_if_n h
      rw [Bool.and_eq_true] at h1
      have hMR := ev_may_ok h1.2 hMR0
      have h1 := Nat.le_of_ble_eq_true h1.1
      have h2 := ev_cs_ok (b := b) (B0 := B0) (σ := σ) rr
      refine ev_pure hk h fun H locs ls hl g => ?_
      rw [List.map_cons] at g
      rw [List.map_cons, List.map_cons]
      unfold ev_w2 at hz
      split at hz
      · obtain ⟨h9, hz⟩ := ev_if_n hz
        have e := (Option.some.inj hz).symm
        subst e
        rcases hi with ⟨hi, rfl⟩ | ⟨ix, h0, -⟩
        · have d : decode cc pc = .ok (.ddiv, 1) := by
            rcases hi with ⟨-, d⟩ | ⟨h0, -⟩ | ⟨h0, -⟩ | ⟨h0, -⟩ | ⟨h0, -⟩ | ⟨h0, -⟩ | ⟨h0, -⟩ | ⟨h0, -⟩ | ⟨h0, -⟩
            · exact d
            all_goals exact absurd h0 (by decide)
          refine lv_ddiv hx hb d (by unfold vf_n64; exact of_decide_eq_true h9) ?_
          simp only [ev_dn, ev_u64] at g
          exact g
        · exact absurd h0 (by decide)
      · obtain ⟨h9, hz⟩ := ev_if_n hz
        have e := (Option.some.inj hz).symm
        subst e
        rcases hi with ⟨hi, rfl⟩ | ⟨ix, h0, -⟩
        · have d : decode cc pc = .ok (.fdiv, 1) := by
            rcases hi with ⟨h0, -⟩ | ⟨-, d⟩ | ⟨h0, -⟩ | ⟨h0, -⟩ | ⟨h0, -⟩ | ⟨h0, -⟩ | ⟨h0, -⟩ | ⟨h0, -⟩ | ⟨h0, -⟩
            · exact absurd h0 (by decide)
            · exact d
            all_goals exact absurd h0 (by decide)
          refine lv_fdiv hx hb d (by unfold vf_n32; exact of_decide_eq_true h9) ?_
          simp only [ev_dn, ev_u32] at g
          exact g
        · exact absurd h0 (by decide)
      · have e := (Option.some.inj hz).symm
        subst e
        rcases hi with ⟨hi, rfl⟩ | ⟨ix, h0, -⟩
        · have d : decode cc pc = .ok (.dcmp .l, 1) := by
            rcases hi with ⟨h0, -⟩ | ⟨h0, -⟩ | ⟨-, d⟩ | ⟨h0, -⟩ | ⟨h0, -⟩ | ⟨h0, -⟩ | ⟨h0, -⟩ | ⟨h0, -⟩ | ⟨h0, -⟩
            · exact absurd h0 (by decide)
            · exact absurd h0 (by decide)
            · exact d
            all_goals exact absurd h0 (by decide)
          refine lv_dcmp hx hb d ?_
          simp only [ev_dn, ev_nI_n] at g
          exact g
        · exact absurd h0 (by decide)
      · have e := (Option.some.inj hz).symm
        subst e
        rcases hi with ⟨hi, rfl⟩ | ⟨ix, h0, -⟩
        · have d : decode cc pc = .ok (.dcmp .g, 1) := by
            rcases hi with ⟨h0, -⟩ | ⟨h0, -⟩ | ⟨h0, -⟩ | ⟨-, d⟩ | ⟨h0, -⟩ | ⟨h0, -⟩ | ⟨h0, -⟩ | ⟨h0, -⟩ | ⟨h0, -⟩
            · exact absurd h0 (by decide)
            · exact absurd h0 (by decide)
            · exact absurd h0 (by decide)
            · exact d
            all_goals exact absurd h0 (by decide)
          refine lv_dcmp hx hb d ?_
          simp only [ev_dn, ev_nI_n] at g
          exact g
        · exact absurd h0 (by decide)
      · have e := (Option.some.inj hz).symm
        subst e
        rcases hi with ⟨hi, rfl⟩ | ⟨ix, h0, -⟩
        · have d : decode cc pc = .ok (.lcmp, 1) := by
            rcases hi with ⟨h0, -⟩ | ⟨h0, -⟩ | ⟨h0, -⟩ | ⟨h0, -⟩ | ⟨-, d⟩ | ⟨h0, -⟩ | ⟨h0, -⟩ | ⟨h0, -⟩ | ⟨h0, -⟩
            · exact absurd h0 (by decide)
            · exact absurd h0 (by decide)
            · exact absurd h0 (by decide)
            · exact absurd h0 (by decide)
            · exact d
            all_goals exact absurd h0 (by decide)
          refine W.lcmp hx hb d ?_
          simp only [ev_dn, ev_nI_n] at g
          exact g
        · exact absurd h0 (by decide)
      · have e := (Option.some.inj hz).symm
        subst e
        rcases hi with ⟨hi, rfl⟩ | ⟨ix, h0, -⟩
        · have d : decode cc pc = .ok (.lshr, 1) := by
            rcases hi with ⟨h0, -⟩ | ⟨h0, -⟩ | ⟨h0, -⟩ | ⟨h0, -⟩ | ⟨h0, -⟩ | ⟨-, d⟩ | ⟨h0, -⟩ | ⟨h0, -⟩ | ⟨h0, -⟩
            · exact absurd h0 (by decide)
            · exact absurd h0 (by decide)
            · exact absurd h0 (by decide)
            · exact absurd h0 (by decide)
            · exact absurd h0 (by decide)
            · exact d
            all_goals exact absurd h0 (by decide)
          refine lv_lshr hx hb d rfl ?_
          simp only [ev_dn, ev_lN_n] at g
          exact g
        · exact absurd h0 (by decide)
      · have e := (Option.some.inj hz).symm
        subst e
        rcases hi with ⟨hi, rfl⟩ | ⟨ix, h0, -⟩
        · have d : decode cc pc = .ok (.lshl, 1) := by
            rcases hi with ⟨h0, -⟩ | ⟨h0, -⟩ | ⟨h0, -⟩ | ⟨h0, -⟩ | ⟨h0, -⟩ | ⟨h0, -⟩ | ⟨-, d⟩ | ⟨h0, -⟩ | ⟨h0, -⟩
            · exact absurd h0 (by decide)
            · exact absurd h0 (by decide)
            · exact absurd h0 (by decide)
            · exact absurd h0 (by decide)
            · exact absurd h0 (by decide)
            · exact absurd h0 (by decide)
            · exact d
            all_goals exact absurd h0 (by decide)
          refine lv_lshl hx hb d rfl ?_
          simp only [ev_dn, ev_lN_n] at g
          exact g
        · exact absurd h0 (by decide)
      · have e := (Option.some.inj hz).symm
        subst e
        rcases hi with ⟨hi, rfl⟩ | ⟨ix, h0, -⟩
        · have d : decode cc pc = .ok (.land, 1) := by
            rcases hi with ⟨h0, -⟩ | ⟨h0, -⟩ | ⟨h0, -⟩ | ⟨h0, -⟩ | ⟨h0, -⟩ | ⟨h0, -⟩ | ⟨h0, -⟩ | ⟨-, d⟩ | ⟨h0, -⟩
            · exact absurd h0 (by decide)
            · exact absurd h0 (by decide)
            · exact absurd h0 (by decide)
            · exact absurd h0 (by decide)
            · exact absurd h0 (by decide)
            · exact absurd h0 (by decide)
            · exact absurd h0 (by decide)
            · exact d
            all_goals exact absurd h0 (by decide)
          refine lv_land hx hb d ?_
          simp only [ev_dn, ev_lN_n] at g
          exact g
        · exact absurd h0 (by decide)
      · have e := (Option.some.inj hz).symm
        subst e
        rcases hi with ⟨hi, rfl⟩ | ⟨ix, h0, -⟩
        · have d : decode cc pc = .ok (.lor, 1) := by
            rcases hi with ⟨h0, -⟩ | ⟨h0, -⟩ | ⟨h0, -⟩ | ⟨h0, -⟩ | ⟨h0, -⟩ | ⟨h0, -⟩ | ⟨h0, -⟩ | ⟨h0, -⟩ | ⟨-, d⟩
            · exact absurd h0 (by decide)
            · exact absurd h0 (by decide)
            · exact absurd h0 (by decide)
            · exact absurd h0 (by decide)
            · exact absurd h0 (by decide)
            · exact absurd h0 (by decide)
            · exact absurd h0 (by decide)
            · exact absurd h0 (by decide)
            · exact d
          refine lv_lor hx hb d ?_
          simp only [ev_dn, ev_lN_n] at g
          exact g
        · exact absurd h0 (by decide)
      · next m9 n9 =>
        have e := (Option.some.inj hz).symm
        subst e
        rcases hi with ⟨hi, -⟩ | ⟨ix, -, d, rfl, w1, w2, w3, w4⟩
        · rcases hi with ⟨h0, -⟩ | ⟨h0, -⟩ | ⟨h0, -⟩ | ⟨h0, -⟩ | ⟨h0, -⟩ | ⟨h0, -⟩ | ⟨h0, -⟩ | ⟨h0, -⟩ | ⟨h0, -⟩
          all_goals exact absurd h0 (by decide)
        · refine va_mmax hx hb (by rw [hml]; exact hl.1.symm) ho (ht _ w1) (ht _ w2) (ht _ w3) (ht _ w4) hR.1 (by omega) hMR.1 hMR.2 d ?_
          have e : ev_dn b B0 σ (.inl (ev_if (Nat.ble (ev_bi m9 + 1) (ev_bi n9)) n9 m9)) = .int (if nI m9 < nI n9 then nI n9 else nI m9) := by
            show Value.int _ = _
            refine congrArg Value.int ?_
            cases c1 : Nat.ble (ev_bi m9 + 1) (ev_bi n9) with
            | true =>
              have := Nat.le_of_ble_eq_true c1
              rw [ev_if_t, if_pos (by rw [ev_bb_lt, ← ev_bi_ok, ← ev_bi_ok]; omega)]
            | false =>
              have : ¬ ev_bi m9 + 1 ≤ ev_bi n9 := fun q => by rw [Nat.ble_eq_true_of_le q] at c1; cases c1
              rw [ev_if_f, if_neg (by rw [ev_bb_lt, ← ev_bi_ok, ← ev_bi_ok]; omega)]
          rw [e] at g
          exact g
      · cases hz
    · cases h
  · cases h
end EVM
end
section
/-! ===== a throw whose class's constructor calls the one above by another place of its pool (turned from the task's laws vx_ctorMadeS, vx_throwS) ===== -/
/-- a throw's words: the first constructor is rx, its link stands at ix -/
def ev_xA (own : String) (ic : Nat) (X : String) (ix : Nat) (rx : ByteArray) (Y0 : String) (names : List String) : List Cond :=
  (Bundle.throwableAtoms ++ Bundle.throwableSAtoms ++ (Bundle.passSAtoms X Y0 ix rx ++ Bundle.chainSAtoms Y0 names)) ++
  (Bundle.ownAtoms own ic X []).drop (Bundle.throwableAtoms ++ Bundle.throwableSAtoms ++ Bundle.chainSAtoms X []).length
theorem ev_xA_in {own : String} {ic : Nat} {X : String} {ix : Nat} {rx : ByteArray} {Y0 : String} {names : List String} {x : Cond} (h : x ∈ [Cond.methodLink own ic (Bundle.initS X), .instantiable X 6, .castable X X, .selects X Bundle.tFill0 Bundle.tFill0, .selects X Bundle.tFill Bundle.tFill,
    .lays X Bundle.tN "cause" "Ljava/lang/Throwable;", .lays X Bundle.tN "stackTrace" Bundle.steD, .lays X Bundle.tN "suppressedExceptions" Bundle.listD, .lays X Bundle.tN "detailMessage" "Ljava/lang/String;",
    .isRef (.static Bundle.tN "UNASSIGNED_STACK" Bundle.steD), .isRef (.static Bundle.tN "SUPPRESSED_SENTINEL" Bundle.listD),
    .fieldLink Bundle.tN 198 Bundle.tN "backtrace" "Ljava/lang/Object;", .lays Bundle.tN Bundle.tN "backtrace" "Ljava/lang/Object;", .lays X Bundle.tN "backtrace" "Ljava/lang/Object;"]) : x ∈ ev_xA own ic X ix rx Y0 names := by
  unfold ev_xA Bundle.ownAtoms
  rw [List.drop_left]
  exact List.mem_append.mpr (Or.inr h)
theorem ev_xA_t {own : String} {ic : Nat} {X : String} {ix : Nat} {rx : ByteArray} {Y0 : String} {names : List String} {x : Cond} (h : x ∈ Bundle.throwableAtoms) : x ∈ ev_xA own ic X ix rx Y0 names :=
  List.mem_append.mpr (Or.inl (List.mem_append.mpr (Or.inl (List.mem_append.mpr (Or.inl h)))))
theorem ev_xA_s {own : String} {ic : Nat} {X : String} {ix : Nat} {rx : ByteArray} {Y0 : String} {names : List String} {x : Cond} (h : x ∈ Bundle.throwableSAtoms) : x ∈ ev_xA own ic X ix rx Y0 names :=
  List.mem_append.mpr (Or.inl (List.mem_append.mpr (Or.inl (List.mem_append.mpr (Or.inr h)))))
theorem ev_xA_c {own : String} {ic : Nat} {X : String} {ix : Nat} {rx : ByteArray} {Y0 : String} {names : List String} {x : Cond} (h : x ∈ Bundle.passSAtoms X Y0 ix rx ++ Bundle.chainSAtoms Y0 names) : x ∈ ev_xA own ic X ix rx Y0 names :=
  List.mem_append.mpr (Or.inl (List.mem_append.mpr (Or.inr h)))
theorem ev_xA_p {own : String} {ic : Nat} {X : String} {ix : Nat} {rx : ByteArray} {Y0 : String} {names : List String} {x : Cond} (h : x ∈ Bundle.passSAtoms X Y0 ix rx) : x ∈ ev_xA own ic X ix rx Y0 names :=
  ev_xA_c (List.mem_append.mpr (Or.inl h))
theorem ev_chain {args : Array Value} {s : State} {pl : Platform} (hpl : pl.magicAccessors = ({} : Platform).magicAccessors) {top : MethodId} (htop : s.methodNamed? (Bundle.initS Bundle.tN) = some top)
    {ix : Nat} {rx : ByteArray} (x0 : decode rx 0 = .ok (.aload_n 0, 1)) (x1 : decode rx 1 = .ok (.aload_n 1, 1)) (x2 : decode rx 2 = .ok (.invokespecial ix, 3)) (x5 : decode rx 5 = .ok (.return_, 1))
    (names : List String) (Y X : String) (hX : Bundle.fit X = true) (hY : Bundle.fit Y = true) (hn : ∀ n ∈ names, Bundle.fit n = true) (h : ∀ c ∈ Bundle.passSAtoms X Y ix rx ++ Bundle.chainSAtoms Y names, c.before args s = true) :
    ∃ (P1 : PassC) (Ps : List PassC), Ps.length = names.length + 1 ∧ P1.LinksS pl s ∧ (∀ P, P ∈ Ps → P.LinksS pl s) ∧ s.methodNamed? (Bundle.initS X) = some P1.m ∧
      P1.sup = firstOf top (Ps.map (·.toPassT)) ∧ PassesOn top (Ps.map (·.toPassT)) := by
  obtain ⟨P, L, hm, hs⟩ := PassC.ofS_atoms (args := args) (s := s) hpl (X := X) (Y := Y) (Bundle.fit_spec hX).1 (Bundle.fit_spec hY).2 x0 x1 x2 x5 (fun c hc => h c (List.mem_append.mpr (Or.inl hc)))
  obtain ⟨P', Ps, hlen, L', hL, hm', hsup, hpass⟩ := Bundle.chainS (args := args) hpl htop names Y hY hn (fun c hc => h c (List.mem_append.mpr (Or.inr hc)))
  refine ⟨P, P' :: Ps, by simp [hlen], L, fun Q hQ => ?_, hm, Option.some.inj (hs.symm.trans hm'), hsup, hpass⟩
  rcases List.mem_cons.mp hQ with rfl | hQ
  · exact L'
  · exact hL Q hQ
section EVK
variable {p : Program} {l : Launch} {e : Env} {R : Room} {s : State} {m₀ : MethodId} {args : Array Value} {below : List Frame} {meth : Method} {c : Code} {W : State} {locs : List Loc} {cells slots : Nat}
set_option maxHeartbeats 1000000 in
theorem ev_ctorMade (X : Stand p l e R s m₀ args below meth c W locs cells slots) (hexec : p.tables.exec = Jvm.exec) (htr : e.platform.stackTraces = false) {own cls : String} {Y0 : String} {names : List String} {ic ix : Nat} {rx : ByteArray} (x0 : decode rx 0 = .ok (.aload_n 0, 1)) (x1 : decode rx 1 = .ok (.aload_n 1, 1)) (x2 : decode rx 2 = .ok (.invokespecial ix, 3)) (x5 : decode rx 5 = .ok (.return_, 1))
    (hown : s.vm.findClass own = some m₀.cls) (hcls : Bundle.fit cls = true) (hY0 : Bundle.fit Y0 = true) (hnames : ∀ n ∈ names, Bundle.fit n = true)
    (h : ∀ a ∈ ev_xA own ic cls ix rx Y0 names, a.before args s = true)
    (hlocs : ∀ x ∈ locs, ∀ cell, s.heap[x.base]? = some cell → cell.vm.isStatics = false)
    {a : Addr} {cX : ClassId} {kX : Class} (hfoundX : s.vm.findClass cls = some cX) (hkX : s.vm.classes[cX]? = some kX) (hcell : W.heap[a]? = some (freshCell cX kX)) (hnew : s.heap.size ≤ a)
    {msg : Value} (hmsg : msg.isRef = true)
    {g : JFrame} (hg : g.method = m₀) (hsize : g.locals.size = c.maxLocals) {rest : List Value} (hstack : g.stack = msg :: .ref a :: .ref a :: rest)
    (hd6 : decode c.code g.pc = .ok (.invokespecial ic, 3))
    (hRframes : names.length + 4 < R.frames) (hRlocals : 2 * g.monitorRoom + ((Value.ref a :: rest).map fun v => v.category).sum + (13 * (names.length + 2) + 42) ≤ R.locals) :
    ∃ (V : State) (ce : Cell) (L : List Loc), Stand p l e R s m₀ args below meth c (V.setCell a ce) (locs ++ L) cells slots ∧ (∀ y ∈ L, y.base = a) ∧ a < V.heap.size ∧ ce.cls = cX ∧ ce.vm = .none ∧
      ∀ target, Steps p.tables e below ((V.setCell a ce).setTop { g with stack := .ref a :: rest, pc := g.pc + 3 }) target → Steps p.tables e below (W.setTop g) target := by
  have howns : e.platform.frameOwnsMonitors = true := by rw [X.admits.platform]
  have hfin : e.platform.finalization = false := by rw [X.admits.platform]
  have hpl : e.platform.magicAccessors = ({} : Platform).magicAccessors := by rw [X.admits.platform]
  have a' : ∀ x, x ∈ ev_xA own ic cls ix rx Y0 names → x.holds args s none s [] = true := fun x hx => h x hx
  obtain ⟨T, Z0, L, -, Y⟩ := ThrowableC.of_atoms (args := args) howns hfin hpl (fun x hx => h x (ev_xA_t hx))
  obtain ⟨Z, M, LZ, LM, hnZ⟩ := Init0T.ofS_atoms (args := args) hpl L Y (fun x hx => h x (ev_xA_s hx))
  obtain ⟨P1, Ps, hlen, L1, hL, hP1m, hlink1, hlink⟩ := ev_chain (args := args) hpl hnZ x0 x1 x2 x5 names Y0 cls hcls hY0 hnames (fun x hx => h x (ev_xA_c hx))
  have hfound : s.vm.findClass cls = some P1.m.cls := findClass_of_methodNamed hP1m
  cases Option.some.inj (hfoundX.symm.trans hfound)
  obtain ⟨c1, kX', hc1, hk, hord, -, -, hn6⟩ := Cond.instantiable_spec (a' (.instantiable cls 6) (ev_xA_in (by simp)))
  cases Option.some.inj (hc1.symm.trans hfound)
  cases Option.some.inj (hkX.symm.trans hk)
  have hsel0 : selectMethod e.platform s.vm P1.m.cls T.fill0 = .method T.fill0 := by
    obtain ⟨c2, r2, m2, q1, q2, q3, q4, -⟩ := Cond.selects_spec (a' (.selects cls Bundle.tFill0 Bundle.tFill0) (ev_xA_in (by simp)))
    cases Option.some.inj (q1.symm.trans hfound)
    cases Option.some.inj (q2.symm.trans (State.methodFound?_of_named Y.fill0 (by decide)))
    cases Option.some.inj (q3.symm.trans Y.fill0)
    rw [Launch.admits_selectMethod X.admits]; exact q4
  have hselF : selectMethod e.platform s.vm P1.m.cls T.fill = .method T.fill := by
    obtain ⟨c2, r2, m2, q1, q2, q3, q4, -⟩ := Cond.selects_spec (a' (.selects cls Bundle.tFill Bundle.tFill) (ev_xA_in (by simp)))
    cases Option.some.inj (q1.symm.trans hfound)
    cases Option.some.inj (q2.symm.trans (State.methodFound?_of_named Y.fill (by decide)))
    cases Option.some.inj (q3.symm.trans Y.fill)
    rw [Launch.admits_selectMethod X.admits]; exact q4
  obtain ⟨cellS0, hcS0, hiss⟩ := Y.statics
  obtain ⟨u0, hu0⟩ := Cond.staticRefV Y.unassigned L.unassignedStatic L.statics hcS0 hiss (a' (.isRef (.static Bundle.tN "UNASSIGNED_STACK" Bundle.steD)) (ev_xA_in (by simp)))
  obtain ⟨sen, hsen⟩ := Cond.staticRefV Y.sentinel L.sentinelStatic L.statics hcS0 hiss (a' (.isRef (.static Bundle.tN "SUPPRESSED_SENTINEL" Bundle.listD)) (ev_xA_in (by simp)))
  obtain ⟨ci198, i198, fB, hk198, hg198, ha198, hsB, -, hnB, htB, hffB⟩ := Cond.ownField (t := .object "java/lang/Object") Y.found L.cls (by decide +kernel) (a' (.fieldLink Bundle.tN 198 Bundle.tN "backtrace" "Ljava/lang/Object;") (ev_xA_in (by simp))) (a' (.lays Bundle.tN Bundle.tN "backtrace" "Ljava/lang/Object;") (ev_xA_in (by simp))) e.platform hpl
  obtain ⟨cellS, hcS', heS, -, hkeep⟩ := X.same.2.2.2.2.2 T.aS cellS0 hcS0
  have hcellS : W.heap[T.aS]? = some cellS := hcS'
  have hout' : ∀ i, (⟨T.aS, i⟩ : Loc) ∉ locs := fun i hmem => by
    have := hlocs _ hmem cellS0 hcS0
    rw [hiss] at this; cases this
  have hknownS : cellS.vm ≠ .unknown := by
    rw [heS]; intro hu
    rw [show cellS0.vm = .unknown from hu] at hiss
    cases hiss
  have hneS : T.aS ≠ a := Nat.ne_of_lt (Nat.lt_of_lt_of_le (Array.getElem?_eq_some_iff.mp hcS0).1 hnew)
  obtain ⟨iM, hffM⟩ := Y.msg
  obtain ⟨tyC, dC, hdC, hdnC⟩ := Cond.laysAt hfound hk Y.cause (a' (.lays cls Bundle.tN "cause" "Ljava/lang/Throwable;") (ev_xA_in (by simp)))
  obtain ⟨tyS, dS, hdS, hdnS⟩ := Cond.laysAt hfound hk Y.stack (a' (.lays cls Bundle.tN "stackTrace" Bundle.steD) (ev_xA_in (by simp)))
  obtain ⟨tyP, dP, hdP, hdnP⟩ := Cond.laysAt hfound hk Y.supp (a' (.lays cls Bundle.tN "suppressedExceptions" Bundle.listD) (ev_xA_in (by simp)))
  obtain ⟨tyM, dM, hdM, hdnM⟩ := Cond.laysAt hfound hk hffM (a' (.lays cls Bundle.tN "detailMessage" "Ljava/lang/String;") (ev_xA_in (by simp)))
  obtain ⟨tyB, dB, hdB, hdnB⟩ := Cond.laysAt hfound hk hffB (a' (.lays cls Bundle.tN "backtrace" "Ljava/lang/Object;") (ev_xA_in (by simp)))
  have bC := Cond.laysApart hdB hdC hdnB hdnC (by rw [hnB, Y.causeName]; decide)
  have bS := Cond.laysApart hdB hdS hdnB hdnS (by rw [hnB, Y.stackName]; decide)
  have bP := Cond.laysApart hdB hdP hdnB hdnP (by rw [hnB, Y.suppName]; decide)
  have hskip : SkipFacts T e.platform s (fun u => u) u0 ((preparedCellV T.toThrowableT (freshCell P1.m.cls kX) a u0 sen).withEntry W.cur) :=
    ⟨{ ci198 := ci198, i198 := i198, fBack := fB }, ⟨hk198, hg198, ha198, hsB⟩, by
      have := fresh_default (c := P1.m.cls) tyB
      rw [htB] at this
      simpa [preparedCellV, Cell.setSlot, Cell.withEntry, Array.getElem?_setIfInBounds, bC, bS, bP, bC.symm, bS.symm, bP.symm, defaultValue] using this, fun _ _ => rfl⟩
  obtain ⟨tm, methC, cdC, kC, vm₁, hnC, -, -, -, -, -, -, -, hW₁, st1⟩ := Steps.initColdS (tb := p.tables) (e := e) (below := below) (s := s) (U := W) X.here hexec X.warmed hpl hown (t := Bundle.initS cls) rfl rfl (Bundle.fit_spec hcls).2
    (a' (.methodLink own ic (Bundle.initS cls)) (ev_xA_in (by simp))) (h (.instanceMethod (Bundle.initS cls)) (ev_xA_p (by simp [Bundle.passSAtoms]))) (bytes := rx) (maxL := 2) (h (.code (Bundle.initS cls) rx 2 none) (ev_xA_p (by simp [Bundle.passSAtoms])))
    (f := g) hg (a := a) (msg := msg) (rest := .ref a :: rest) hstack hd6
  cases Option.some.inj (hnC.symm.trans hP1m)
  have X₁ := X.noted hW₁
  obtain ⟨vm₂, X₂, st2⟩ := X₁.ctorMessageOffV hexec (g := { g with stack := .ref a :: rest }) hg hsize T L Z LZ M LM (P1 :: Ps)
    (fun P hP => by rcases List.mem_cons.mp hP with rfl | hP; exact L1; exact hL P hP) ⟨hlink1, hlink⟩ (u0 := u0) (sen := sen) (self := a) hmsg (cell := freshCell P1.m.cls kX) (cellS := cellS)
    hcell (fun _ => by simp) (by simp) rfl rfl hsel0 hselF hcellS hneS hknownS (by rw [hkeep _ (hout' _)]; exact hu0) (by rw [hkeep _ (hout' _)]; exact hsen)
    (Takes.of_laid hk hord tyC (by rw [Y.causeType]; rfl)) (Takes.of_laid hk hord tyS (by rw [Y.stackType]; exact fits_refV_array _ u0)) (Takes.of_laid hk hord tyP (by rw [Y.suppType]; exact fits_refV_object _ sen))
    (Takes.of_laid hk hord tyM (by rw [Y.msgType]; exact fits_refV_object _ ⟨msg, hmsg⟩)) Y.objLocals hskip htr [] hd6
    (by simp only [List.length_cons, hlen]; omega) (by simp only [List.length_cons, hlen]; exact hRlocals)
  have hlt : a < ((W.setVm vm₁).setVm vm₂).heap.size := (Array.getElem?_eq_some_iff.mp hcell).1
  refine ⟨(W.setVm vm₁).setVm vm₂, _, _, X₂, fun y hy => ?_, hlt, rfl, rfl, fun target hwalk => st1 _ (fun acts => ?_)⟩
  · simp only [List.mem_cons, List.not_mem_nil, or_false] at hy
    rcases hy with rfl | rfl | rfl | rfl | rfl <;> rfl
  · rw [doInvoke_state]
    exact st2 _ hwalk
end EVK
section EVT
variable {p : Program} {l : Launch} {e : Env} {R : Room} {s : State} {m : MethodId} {args : Array Value} {below : List Frame} {meth : Method} {c : Code} {H : Heap} {locs : List Loc} {cells slots : Nat} {Q : State → Prop}
variable {mc ms : Nat} {free : Addr → Prop} {A0 A1 : Nat → Prop} {H0 : Heap} {a : Array Value} {ls : Array Slot} {st0 rest : List Value}
variable {Qc : Array Value → State → Outcome → State → Prop} {XC : String → State → State → Prop}
theorem ev_throwX {cc : ByteArray} {pc : Nat} (hexec : p.tables.exec = Jvm.exec) (hb : c.code = cc) (hl : l.stackTraces = false) {own cls text : String} {Y0 : String} {names : List String} {ik is ic ix mc ms sa : Nat} {rx : ByteArray} (x0 : decode rx 0 = .ok (.aload_n 0, 1)) (x1 : decode rx 1 = .ok (.aload_n 1, 1)) (x2 : decode rx 2 = .ok (.invokespecial ix, 3)) (x5 : decode rx 5 = .ok (.return_, 1)) {A : Nat → Prop}
    (hown : s.vm.findClass own = some m.cls) (hcls : Bundle.fit cls = true) (hY0 : Bundle.fit Y0 = true) (hnames : ∀ n ∈ names, Bundle.fit n = true)
    (hk : (Cond.classLink own ik cls).before args s = true) (hini : (Cond.initialized cls).before args s = true) (hstr : vk_R own is text sa s) (hat : ∀ w ∈ (ev_xA own ic cls ix rx Y0 names).filter vx_no, w.before args s = true)
    (hgood : ∀ w ∈ Cond.classLink own ik cls :: Cond.initialized cls :: (ev_xA own ic cls ix rx Y0 names).filter vx_no, vx_ot w = true)
    (hU : vx_Zq Bundle.tN "UNASSIGNED_STACK" Bundle.steD A s s.heap) (hN : vx_Zq Bundle.tN "SUPPRESSED_SENTINEL" Bundle.listD A s s.heap) (hS : va_S A s.heap H locs) (hsize : ls.size = c.maxLocals)
    (d0 : decode cc pc = .ok (.new ik, 3)) (d3 : decode cc (pc + 3) = .ok (.dup, 1)) (d4 : decode cc (pc + 4) = .ok (.ldc is, 2)) (d6 : decode cc (pc + 6) = .ok (.invokespecial ic, 3)) (d9 : decode cc (pc + 9) = .ok (.athrow, 1))
    (hout : ∀ x ∈ c.exceptionTable.toList, covers x (pc + 9) = false)
    (hRframes : names.length + 4 < R.frames) (hRlocals : (rest.map fun v => v.category).sum + (13 * (names.length + 2) + 43) ≤ R.locals) (hRcells : cells + 1 ≤ R.cells) (hRslots : slots + 6 ≤ R.slots) (hlocks : meth.locks = false)
    (hx : ∀ t : State, s.vm.Alike t.vm → H.size ≤ t.heap.size → (∀ q : Nat, q < H.size → t.heap[q]? = H[q]?) → XC cls s t)
    (hf : ∀ z ∈ locs, free z.base) (hc : cells + 1 ≤ mc) (hs : slots + 6 ≤ ms) :
    W p l e R s m args below meth c H locs cells slots (vx_MQ below Qc XC args s mc ms free) (F0 m pc ls rest) := by
  intro T hT X
  have htr : e.platform.stackTraces = false := (show e.platform.stackTraces = l.stackTraces by rw [X.admits.platform]).trans hl
  have Y := vx_rebase X (R' := { frames := R.frames, locals := R.locals, cells := 1, slots := 6 }) (Nat.le_refl _) (Nat.le_refl _) hRcells hRslots
  obtain ⟨s', hA⟩ : ∃ z, z = (T.setVm s.vm).setFrames (.invoking m args :: below) := ⟨_, rfl⟩
  rw [← hA] at Y
  have hvm : s'.vm = s.vm := by rw [hA]; rfl
  have hhp : s'.heap = H := by rw [hA]; exact hT
  have hW0 : s.WarmedH s'.vm := by rw [hvm]; exact State.WarmedH.refl s
  have hat' : ∀ w ∈ (ev_xA own ic cls ix rx Y0 names).filter vx_no, w.before args s' = true := fun w hw => vx_ot_at hW0 hvm.symm (hgood w (List.mem_cons_of_mem _ (List.mem_cons_of_mem _ hw))) (hat w hw)
  have hk' : (Cond.classLink own ik cls).before args s' = true := vx_ot_at hW0 hvm.symm (hgood _ List.mem_cons_self) hk
  have hini' : (Cond.initialized cls).before args s' = true := vx_ot_at hW0 hvm.symm (hgood _ (List.mem_cons_of_mem _ List.mem_cons_self)) hini
  have hU' : vx_Zq Bundle.tN "UNASSIGNED_STACK" Bundle.steD A s' s'.heap := by rw [hhp]; exact vx_Zq.moved hW0.alike (hU.kept hS.2.1)
  have hN' : vx_Zq Bundle.tN "SUPPRESSED_SENTINEL" Bundle.listD A s' s'.heap := by rw [hhp]; exact vx_Zq.moved hW0.alike (hN.kept hS.2.1)
  have h : ∀ w ∈ ev_xA own ic cls ix rx Y0 names, w.before args s' = true := vx_own hat' (vx_isRefq hU'.1) (vx_isRefq hN'.1) hU'.2.word hN'.2.word
  have hown' : s'.vm.findClass own = some m.cls := by rw [hvm]; exact hown
  have hins : (Cond.instantiable cls 6).before args s' = true := h _ (ev_xA_in (by simp))
  obtain ⟨vm₁, cX, kX, hfX, hkX, -, -, X₁, st1⟩ := Y.newCold hexec (own := own) (C := cls) (index := ik) (n := 6) hown' hk' hins hini'
    (g := F0 m pc ls rest) rfl (by rw [hb]; exact d0) (Nat.le_refl _) (Nat.le_refl _)
  generalize hT1 : (T.setVm vm₁).pushCell { cls := cX, slots := kX.instanceTypes.map defaultValue, vm := .none } = T1 at X₁ st1
  have hcat : (Value.ref T.heap.size).category = 1 := rfl
  have hcellA : T1.heap[T.heap.size]? = some (freshCell cX kX) := by rw [← hT1]; exact State.heap_pushCell_size _ _
  have d3' : decode c.code (pc + 3) = .ok (.dup, 1) := by rw [hb]; exact d3
  have d4' : decode c.code (pc + 4) = .ok (.ldc is, 2) := by rw [hb]; exact d4
  have hstr' : vk_R own is text sa s' := vk_R.warm hW0 hstr
  obtain ⟨V, ce, L, Z, hL, hlt, hcl9, hvm9, st⟩ := ev_ctorMade X₁ hexec htr x0 x1 x2 x5 (own := own) (cls := cls) (Y0 := Y0) (names := names) (ic := ic) hown' hcls hY0 hnames h (fun x hx => nomatch hx) hfX hkX hcellA (by rw [hhp, hT]; exact Nat.le_refl _) (msg := .ref sa) rfl
    (g := { method := m, pc := pc + 6, locals := ls, stack := .ref sa :: .ref T.heap.size :: .ref T.heap.size :: rest, locked := none }) rfl hsize (rest := rest) rfl
    (by rw [hb]; exact d6) hRframes (by simp only [List.map_cons, List.sum_cons, hcat]; omega)
  have Z0 := Stand.forget (locs := []) Z (fun y hy => by rw [hL y hy, hhp, hT]; exact Nat.le_refl _)
  obtain ⟨hwalk, hrun, hend, hW, hsame⟩ := Z0.athrowLeaves hexec (g := { method := m, pc := pc + 6 + 3, locals := ls, stack := .ref T.heap.size :: rest, locked := none }) rfl rfl rfl hout (a := T.heap.size) (rest := rest) rfl (by rw [hb]; exact d9) hlocks
  obtain ⟨U, hU9⟩ : ∃ z, z = (V.setCell T.heap.size ce).setFrames (.throwing T.heap.size :: below) := ⟨_, rfl⟩
  rw [← hU9] at hwalk hrun hend hW hsame
  have hce : U.heap[T.heap.size]? = some ce := by rw [hU9]; exact heapAt_setCell_self (s := V) ce hlt
  have hsteps := st _ hwalk
  obtain ⟨f1, f2⟩ := vx_frame hsame
  rw [hhp] at f1 f2
  have hWs : s.WarmedH U.vm := State.WarmedH.trans hW0 hW
  have hcl : s.vm.findClass cls = some ce.cls := by
    rw [hvm] at hfX
    rw [hcl9]
    exact hfX
  have hall : s.sameButNew ({ U with vm := s.vm } : State) locs mc ms := by
    subst hA
    obtain ⟨e1, e2⟩ := hsame
    rw [State.setFrames_setFrames] at e1
    have h2 : (T.setVm s.vm).sameButNew ({ U with vm := s.vm } : State) [] (0 + 1) (0 + 6) := ⟨e1, e2⟩
    have h3 := X.same.trans h2
    rw [List.append_nil] at h3
    exact h3.mono hc hs
  refine ⟨U, ?_, .threw T.heap.size, hrun, hend, Or.inr ⟨T.heap.size, rfl, cls, ce, locs, hx U hWs.alike f1 (fun q hq => f2 q hq (fun z hz => nomatch hz)), hce, hvm9, hcl, hWs, hall, hf⟩⟩
  refine st1 _ ?_
  show Steps p.tables e below (T1.setTop { method := m, pc := pc + 3, locals := ls, stack := .ref T.heap.size :: rest, locked := none }) _
  jvm_step X₁.here [X₁.here.top, hexec, d3', Value.category]
  exact X₁.ldcString hexec (own := own) (text := text) (index := is) (a := sa) hown' hstr'.1 hstr'.2
    (g := { method := m, pc := pc + 4, locals := ls, stack := .ref T.heap.size :: .ref T.heap.size :: rest, locked := none }) rfl d4' _ hsteps
theorem ev_throwXW {cc : ByteArray} {pc : Nat} (hexec : p.tables.exec = Jvm.exec) (hb : c.code = cc) (hl : l.stackTraces = false) {own cls text : String} {Y0 : String} {names : List String} {ik is ic ix mc ms sa : Nat} {rx : ByteArray} (x0 : decode rx 0 = .ok (.aload_n 0, 1)) (x1 : decode rx 1 = .ok (.aload_n 1, 1)) (x2 : decode rx 2 = .ok (.invokespecial ix, 3)) (x5 : decode rx 5 = .ok (.return_, 1)) {A : Nat → Prop}
    (hown : s.vm.findClass own = some m.cls) (hcls : Bundle.fit cls = true) (hY0 : Bundle.fit Y0 = true) (hnames : ∀ n ∈ names, Bundle.fit n = true)
    (hk : (Cond.classLink own ik cls).before args s = true) (hini : (Cond.initialized cls).before args s = true) (hstr : vk_R own is text sa s) (hat : ∀ w ∈ (ev_xA own ic cls ix rx Y0 names).filter vx_no, w.before args s = true)
    (hgood : ∀ w ∈ Cond.classLink own ik cls :: Cond.initialized cls :: (ev_xA own ic cls ix rx Y0 names).filter vx_no, vx_ot w = true)
    (hU : vx_Zq Bundle.tN "UNASSIGNED_STACK" Bundle.steD A s s.heap) (hN : vx_Zq Bundle.tN "SUPPRESSED_SENTINEL" Bundle.listD A s s.heap) (hS : va_S A s.heap H locs) (hsize : ls.size = c.maxLocals)
    (d0 : decode cc pc = .ok (.new ik, 3)) (d3 : decode cc (pc + 3) = .ok (.dup, 1)) (d4 : decode cc (pc + 4) = .ok (.ldc_w is, 3)) (d7 : decode cc (pc + 7) = .ok (.invokespecial ic, 3)) (d10 : decode cc (pc + 10) = .ok (.athrow, 1))
    (hout : ∀ x ∈ c.exceptionTable.toList, covers x (pc + 10) = false)
    (hRframes : names.length + 4 < R.frames) (hRlocals : (rest.map fun v => v.category).sum + (13 * (names.length + 2) + 43) ≤ R.locals) (hRcells : cells + 1 ≤ R.cells) (hRslots : slots + 6 ≤ R.slots) (hlocks : meth.locks = false)
    (hx : ∀ t : State, s.vm.Alike t.vm → H.size ≤ t.heap.size → (∀ q : Nat, q < H.size → t.heap[q]? = H[q]?) → XC cls s t)
    (hf : ∀ z ∈ locs, free z.base) (hc : cells + 1 ≤ mc) (hs : slots + 6 ≤ ms) :
    W p l e R s m args below meth c H locs cells slots (vx_MQ below Qc XC args s mc ms free) (F0 m pc ls rest) := by
  intro T hT X
  have htr : e.platform.stackTraces = false := (show e.platform.stackTraces = l.stackTraces by rw [X.admits.platform]).trans hl
  have Y := vx_rebase X (R' := { frames := R.frames, locals := R.locals, cells := 1, slots := 6 }) (Nat.le_refl _) (Nat.le_refl _) hRcells hRslots
  obtain ⟨s', hA⟩ : ∃ z, z = (T.setVm s.vm).setFrames (.invoking m args :: below) := ⟨_, rfl⟩
  rw [← hA] at Y
  have hvm : s'.vm = s.vm := by rw [hA]; rfl
  have hhp : s'.heap = H := by rw [hA]; exact hT
  have hW0 : s.WarmedH s'.vm := by rw [hvm]; exact State.WarmedH.refl s
  have hat' : ∀ w ∈ (ev_xA own ic cls ix rx Y0 names).filter vx_no, w.before args s' = true := fun w hw => vx_ot_at hW0 hvm.symm (hgood w (List.mem_cons_of_mem _ (List.mem_cons_of_mem _ hw))) (hat w hw)
  have hk' : (Cond.classLink own ik cls).before args s' = true := vx_ot_at hW0 hvm.symm (hgood _ List.mem_cons_self) hk
  have hini' : (Cond.initialized cls).before args s' = true := vx_ot_at hW0 hvm.symm (hgood _ (List.mem_cons_of_mem _ List.mem_cons_self)) hini
  have hU' : vx_Zq Bundle.tN "UNASSIGNED_STACK" Bundle.steD A s' s'.heap := by rw [hhp]; exact vx_Zq.moved hW0.alike (hU.kept hS.2.1)
  have hN' : vx_Zq Bundle.tN "SUPPRESSED_SENTINEL" Bundle.listD A s' s'.heap := by rw [hhp]; exact vx_Zq.moved hW0.alike (hN.kept hS.2.1)
  have h : ∀ w ∈ ev_xA own ic cls ix rx Y0 names, w.before args s' = true := vx_own hat' (vx_isRefq hU'.1) (vx_isRefq hN'.1) hU'.2.word hN'.2.word
  have hown' : s'.vm.findClass own = some m.cls := by rw [hvm]; exact hown
  have hins : (Cond.instantiable cls 6).before args s' = true := h _ (ev_xA_in (by simp))
  obtain ⟨vm₁, cX, kX, hfX, hkX, -, -, X₁, st1⟩ := Y.newCold hexec (own := own) (C := cls) (index := ik) (n := 6) hown' hk' hins hini'
    (g := F0 m pc ls rest) rfl (by rw [hb]; exact d0) (Nat.le_refl _) (Nat.le_refl _)
  generalize hT1 : (T.setVm vm₁).pushCell { cls := cX, slots := kX.instanceTypes.map defaultValue, vm := .none } = T1 at X₁ st1
  have hcat : (Value.ref T.heap.size).category = 1 := rfl
  have hcellA : T1.heap[T.heap.size]? = some (freshCell cX kX) := by rw [← hT1]; exact State.heap_pushCell_size _ _
  have d3' : decode c.code (pc + 3) = .ok (.dup, 1) := by rw [hb]; exact d3
  have d4' : decode c.code (pc + 4) = .ok (.ldc_w is, 3) := by rw [hb]; exact d4
  have hstr' : vk_R own is text sa s' := vk_R.warm hW0 hstr
  obtain ⟨V, ce, L, Z, hL, hlt, hcl9, hvm9, st⟩ := ev_ctorMade X₁ hexec htr x0 x1 x2 x5 (own := own) (cls := cls) (Y0 := Y0) (names := names) (ic := ic) hown' hcls hY0 hnames h (fun x hx => nomatch hx) hfX hkX hcellA (by rw [hhp, hT]; exact Nat.le_refl _) (msg := .ref sa) rfl
    (g := { method := m, pc := pc + 7, locals := ls, stack := .ref sa :: .ref T.heap.size :: .ref T.heap.size :: rest, locked := none }) rfl hsize (rest := rest) rfl
    (by rw [hb]; exact d7) hRframes (by simp only [List.map_cons, List.sum_cons, hcat]; omega)
  have Z0 := Stand.forget (locs := []) Z (fun y hy => by rw [hL y hy, hhp, hT]; exact Nat.le_refl _)
  obtain ⟨hwalk, hrun, hend, hW, hsame⟩ := Z0.athrowLeaves hexec (g := { method := m, pc := pc + 7 + 3, locals := ls, stack := .ref T.heap.size :: rest, locked := none }) rfl rfl rfl hout (a := T.heap.size) (rest := rest) rfl (by rw [hb]; exact d10) hlocks
  obtain ⟨U, hU9⟩ : ∃ z, z = (V.setCell T.heap.size ce).setFrames (.throwing T.heap.size :: below) := ⟨_, rfl⟩
  rw [← hU9] at hwalk hrun hend hW hsame
  have hce : U.heap[T.heap.size]? = some ce := by rw [hU9]; exact heapAt_setCell_self (s := V) ce hlt
  have hsteps := st _ hwalk
  obtain ⟨f1, f2⟩ := vx_frame hsame
  rw [hhp] at f1 f2
  have hWs : s.WarmedH U.vm := State.WarmedH.trans hW0 hW
  have hcl : s.vm.findClass cls = some ce.cls := by
    rw [hvm] at hfX
    rw [hcl9]
    exact hfX
  have hall : s.sameButNew ({ U with vm := s.vm } : State) locs mc ms := by
    subst hA
    obtain ⟨e1, e2⟩ := hsame
    rw [State.setFrames_setFrames] at e1
    have h2 : (T.setVm s.vm).sameButNew ({ U with vm := s.vm } : State) [] (0 + 1) (0 + 6) := ⟨e1, e2⟩
    have h3 := X.same.trans h2
    rw [List.append_nil] at h3
    exact h3.mono hc hs
  refine ⟨U, ?_, .threw T.heap.size, hrun, hend, Or.inr ⟨T.heap.size, rfl, cls, ce, locs, hx U hWs.alike f1 (fun q hq => f2 q hq (fun z hz => nomatch hz)), hce, hvm9, hcl, hWs, hall, hf⟩⟩
  refine st1 _ ?_
  show Steps p.tables e below (T1.setTop { method := m, pc := pc + 3, locals := ls, stack := .ref T.heap.size :: rest, locked := none }) _
  jvm_step X₁.here [X₁.here.top, hexec, d3', Value.category]
  exact X₁.ldcStringW hexec (own := own) (text := text) (index := is) (a := sa) hown' hstr'.1 hstr'.2
    (g := { method := m, pc := pc + 4, locals := ls, stack := .ref T.heap.size :: .ref T.heap.size :: rest, locked := none }) rfl d4' _ hsteps
end EVT
/-- of the four exceptions: the place of the link in the constructor, its code -/
def ev_xi (a : Nat) : Nat × ByteArray := match a with
  | 3 => (13, ⟨#[0x2a, 0x2b, 0xb7, 0x00, 0x0d, 0xb1]⟩)
  | _ => (7, Bundle.six)
theorem ev_xi_ok (a : Nat) : decode (ev_xi a).2 0 = .ok (.aload_n 0, 1) ∧ decode (ev_xi a).2 1 = .ok (.aload_n 1, 1) ∧ decode (ev_xi a).2 2 = .ok (.invokespecial (ev_xi a).1, 3) ∧ decode (ev_xi a).2 5 = .ok (.return_, 1) := by
  unfold ev_xi
  split
  · decide +kernel
  · decide +kernel
def ev_xat (own : String) (ic a : Nat) : List Cond := (ev_xA own ic (ev_ex a) (ev_xi a).1 (ev_xi a).2 "java/lang/RuntimeException" ["java/lang/Exception"]).filter vx_no
end
section
/-! ===== answers, exceptions, calls (own work) ===== -/
section EVC
variable {D : va_G} {aC : Nat → ClassId} {b B0 L : Nat} {σ : Nat → Int32}
variable {p : Program} {l : Launch} {e : Env} {R : Room} {s : State} {m : MethodId} {args : Array Value} {below : List Frame} {meth : Method} {c : Code} {Q : State → Prop}
variable {cc : ByteArray} {nL : Nat} {Ts : List Cond} {own : String} {Sg : List (String × (Nat × String))}
variable {Φ : ev_P} {M : ev_M} {k : ev_N} {cl : ev_F} {nx a b' c' pc : Nat} {tg : List Nat} {loc : ev_L} {st : List ev_V} {w : ev_W} {r : ev_S}
theorem ev_bw_warm {U : State} (hW : s.WarmedH U.vm) {x : Cond} (hx : ev_bw x = true) (h : x.before #[] s = true) : x.before #[] U = true := by
  match x, hx, h with
  | .castable C T, _, h => exact va_Nw.warmC hW h
  | .fieldLinkNest _ _ _ _ _ _, _, h => exact va_Nw.warmF hW h
  | .methodLinkNest _ _ _ _, _, h => exact va_Nw.warmM hW h
  | .arrayOver (.object C), _, h => exact va_AO.moved (C := C) hW.alike h
  | .declares x, _, h => exact va_Nw.warmD hW h
theorem ev_VF_warm {U : State} (hW : s.WarmedH U.vm) (h : ev_VF D aC Sg s) : ev_VF D aC Sg U := by
  obtain ⟨h1, h2, h3, h4⟩ := h
  refine ⟨va_K.moved hW.alike h1, fun x hx hb => ev_bw_warm hW hb (h2 x hx hb), fun q hq => ?_, fun i j hi hj hij => (h4 i j hi hj hij).moved hW.alike⟩
  obtain ⟨sa, h⟩ := h3 q hq
  exact ⟨sa, vk_R.warm hW h⟩
theorem ev_ZF_to {U : State} {H : Heap} {locs : List Loc} (hb : b < B0) (hv : s.vm.Alike U.vm) (h : ev_ZF b B0 L σ s s.heap) (hS : va_S (fun q => B0 ≤ q) s.heap H locs) : ev_ZF b B0 L σ U H := by
  obtain ⟨h1, h2, h3⟩ := h
  refine ⟨va_X.moved hv ?_, (h2.kept fun a h1 h2 => hS.2.1 a h1 h2).moved hv, (h3.kept fun a h1 h2 => hS.2.1 a h1 h2).moved hv⟩
  obtain ⟨scr, g1, g2⟩ := h1
  exact ⟨scr, by rw [hS.2.1 b (Array.getElem?_eq_some_iff.mp g1).1 (by omega)]; exact g1, g2⟩
/-- a method's start, its answer, its exception -/
def ev_Pc (D : va_G) (aC : Nat → ClassId) (b B0 L : Nat) (σ : Nat → Int32) (Sg : List (String × (Nat × String))) (As : List ev_V) (w : ev_W) : Array Value → State → Prop :=
  fun v U => v = (As.map (ev_dn b B0 σ)).toArray ∧ ev_J D aC b B0 σ w U.heap ∧ ev_VF D aC Sg U ∧ ev_ZF b B0 L σ U U.heap ∧ b < B0 ∧ B0 ≤ U.heap.size
def ev_Qc (D : va_G) (aC : Nat → ClassId) (b B0 : Nat) (σ : Nat → Int32) (r : ev_S) : Array Value → State → Outcome → State → Prop :=
  fun _ st o t => ∃ vo w2, r = .inl (vo, w2) ∧ o = .returned (vo.map (ev_dn b B0 σ)) ∧ ev_J D aC b B0 σ w2 t.heap ∧ va_F (fun q => B0 ≤ q) st t
def ev_Xc (D : va_G) (aC : Nat → ClassId) (b B0 : Nat) (σ : Nat → Int32) (r : ev_S) : String → State → State → Prop :=
  fun E st t => ∃ n w2, r = .inr (.inl (n, w2)) ∧ E = ev_ex n ∧ n < 4 ∧ ev_J D aC b B0 σ w2 t.heap ∧ va_F (fun q => B0 ≤ q) st t
theorem ev_Pc_blind {As : List ev_V} : FrameBlind (ev_Pc D aC b B0 L σ Sg As w) := by
  intro v U g mk h
  obtain ⟨h1, h2, h3, h4, h5, h6⟩ := h
  have hv : U.vm.Alike (U.calling g mk v).vm := Vm.Alike.refl U.vm
  exact ⟨h1, h2, ev_VF_warm (s := U) (U := U.calling g mk v) (State.WarmedH.refl U) h3, ⟨va_X.moved hv h4.1, h4.2.1.moved hv, h4.2.2.moved hv⟩, h5, h6⟩
theorem ev_may0 (h : ev_may M w 0 0 = true) : w.2.2.2.1 ≤ M.2.1 ∧ w.2.2.2.2 ≤ M.2.2.1 := by
  unfold ev_may at h
  rw [Bool.and_eq_true] at h
  have h1 := Nat.le_of_ble_eq_true h.1
  have h2 := Nat.le_of_ble_eq_true h.2
  exact ⟨by omega, by omega⟩
theorem ev_o_vret (hF : ev_Fx D aC b B0 L σ p s m args meth c cc nL Ts own Sg) (hQ : Q = vx_MQ below (ev_Qc D aC b B0 σ r) (ev_Xc D aC b B0 σ r) args s M.2.1 M.2.2.1 (fun q => B0 ≤ q)) (h : ev_h_vret Φ M k cl nx a b' c' tg pc loc st w = some r)
    (hi : decode cc pc = .ok (.return_, 1) ∧ meth.sig.returnType = none) : ev_Go D aC b B0 σ p l e R s m args below meth c Q nL pc loc st w := by
  obtain ⟨hx, hb, -, -, -, -, -, -, -, hlk⟩ := id hF
  unfold ev_h_vret at h
  split at h
  · obtain ⟨h1, h⟩ := ev_if_n h
    have e := (Option.some.inj h).symm
    intro H locs ls hl hJ hS
    subst hQ
    obtain ⟨m1, m2⟩ := ev_may0 h1
    refine W.widen m1 m2 (vx_ret (W.vret hx hb hi.2 (fun t ht hW => ?_) hS.2.2 hi.1 (hlocks := hlk)))
    exact ⟨none, w, e, rfl, by rw [ht]; exact hJ, hS.F ht⟩
  · cases h
theorem ev_o_iret (hF : ev_Fx D aC b B0 L σ p s m args meth c cc nL Ts own Sg) (hQ : Q = vx_MQ below (ev_Qc D aC b B0 σ r) (ev_Xc D aC b B0 σ r) args s M.2.1 M.2.2.1 (fun q => B0 ≤ q)) (h : ev_h_iret Φ M k cl nx a b' c' tg pc loc st w = some r)
    (hi : decode cc pc = .ok (.ireturn, 1) ∧ ((a = 0 ∧ meth.sig.returnType = some .int) ∨ (a = 1 ∧ meth.sig.returnType = some .boolean))) : ev_Go D aC b B0 σ p l e R s m args below meth c Q nL pc loc st w := by
  obtain ⟨hx, hb, -, -, -, -, -, -, -, hlk⟩ := id hF
  unfold ev_h_iret at h
  split at h
  · next v =>
    obtain ⟨h1, h⟩ := ev_if_n h
    rw [Bool.and_eq_true] at h1
    have e := (Option.some.inj h).symm
    intro H locs ls hl hJ hS
    subst hQ
    obtain ⟨m1, m2⟩ := ev_may0 h1.2
    refine W.widen m1 m2 (vx_ret ?_)
    have hii : ev_ii v = true := by
      rcases hi.2 with ⟨rfl, -⟩ | ⟨rfl, -⟩
      · exact h1.1
      · rcases v with n | q | ⟨t, f⟩ | ⟨j, n⟩
        · rfl
        · exact absurd h1.1 (fun z => by cases z)
        · rfl
        · exact absurd h1.1 (fun z => by cases z)
    obtain ⟨x, ex⟩ := ev_dn_i (b := b) (B0 := B0) (σ := σ) hii
    have hn : ∃ ty, meth.sig.returnType = some ty ∧ narrow ty (.int x) = .int x := by
      rcases hi.2 with ⟨-, hr⟩ | ⟨rfl, hr⟩
      · exact ⟨_, hr, rfl⟩
      · have := (ev_fits_ok (b := b) (B0 := B0) (σ := σ) h1.1 (ty := .boolean) (Or.inr (Or.inl ⟨rfl, rfl⟩))).1
        rw [ex] at this
        exact ⟨_, hr, this⟩
    obtain ⟨ty, hr, hn⟩ := hn
    rw [List.map_cons, List.map_nil, ex]
    exact W.zret hx hb hr hn (fun t ht hW => ⟨some v, w, e, by rw [Option.map_some, ex], by rw [ht]; exact hJ, hS.F ht⟩) hS.2.2 hi.1 (hlocks := hlk)
  · cases h
theorem ev_o_aret (hF : ev_Fx D aC b B0 L σ p s m args meth c cc nL Ts own Sg) (hQ : Q = vx_MQ below (ev_Qc D aC b B0 σ r) (ev_Xc D aC b B0 σ r) args s M.2.1 M.2.2.1 (fun q => B0 ≤ q)) (h : ev_h_aret Φ M k cl nx a b' c' tg pc loc st w = some r)
    (hi : decode cc pc = .ok (.areturn, 1) ∧ ∃ rt, meth.sig.returnType = some rt ∧ ((∃ n, rt = .object n) ∨ ∃ t, rt = .array t)) : ev_Go D aC b B0 σ p l e R s m args below meth c Q nL pc loc st w := by
  obtain ⟨hx, hb, -, -, -, -, -, -, -, hlk⟩ := id hF
  obtain ⟨d, rt, hr, hrt⟩ := hi
  unfold ev_h_aret at h
  split at h
  · next v =>
    obtain ⟨h1, h⟩ := ev_if_n h
    rw [Bool.and_eq_true] at h1
    have e := (Option.some.inj h).symm
    intro H locs ls hl hJ hS
    subst hQ
    obtain ⟨m1, m2⟩ := ev_may0 h1.2
    refine W.widen m1 m2 (vx_ret ?_)
    obtain ⟨x, -, ex⟩ := ev_dn_r (b := b) (B0 := B0) (σ := σ) h1.1
    rw [List.map_cons, List.map_nil, ex]
    refine W.aret hx hb hr hrt ?_ (fun t ht hW => ⟨some v, w, e, by rw [Option.map_some, ex], by rw [ht]; exact hJ, hS.F ht⟩) hS.2.2 d (hlocks := hlk)
    cases x with
    | none => exact Or.inl rfl
    | some y => exact Or.inr ⟨_, rfl⟩
  · cases h
theorem ev_o_wret (hF : ev_Fx D aC b B0 L σ p s m args meth c cc nL Ts own Sg) (hQ : Q = vx_MQ below (ev_Qc D aC b B0 σ r) (ev_Xc D aC b B0 σ r) args s M.2.1 M.2.2.1 (fun q => B0 ≤ q)) (h : ev_h_wret Φ M k cl nx a b' c' tg pc loc st w = some r)
    (hi : (a = 1 ∧ decode cc pc = .ok (.freturn, 1) ∧ meth.sig.returnType = some .float) ∨ (a = 2 ∧ decode cc pc = .ok (.dreturn, 1) ∧ meth.sig.returnType = some .double)) : ev_Go D aC b B0 σ p l e R s m args below meth c Q nL pc loc st w := by
  obtain ⟨hx, hb, -, -, -, -, -, -, -, hlk⟩ := id hF
  unfold ev_h_wret at h
  split at h
  · next v =>
    obtain ⟨h1, h⟩ := ev_if_n h
    rw [Bool.and_eq_true] at h1
    have e := (Option.some.inj h).symm
    intro H locs ls hl hJ hS
    subst hQ
    obtain ⟨m1, m2⟩ := ev_may0 h1.2
    refine W.widen m1 m2 (vx_ret ?_)
    obtain ⟨n, rfl⟩ := ev_dn_k h1.1
    rcases hi with ⟨rfl, d, hr⟩ | ⟨rfl, d, hr⟩
    · exact W.fret hx hb hr (fun t ht hW => ⟨_, w, e, rfl, by rw [ht]; exact hJ, hS.F ht⟩) hS.2.2 d (hlocks := hlk)
    · exact W.dret hx hb hr (fun t ht hW => ⟨_, w, e, rfl, by rw [ht]; exact hJ, hS.F ht⟩) hS.2.2 d (hlocks := hlk)
  · cases h
theorem ev_ad_lt {i : Nat} {q : ev_C} {H : Heap} (hJ : ev_J D aC b B0 σ w H) (hq : ev_get w.1 i = some q) (h99 : q.1 ≠ 99) : B0 + i < H.size := by
  rcases (hJ.1 i q hq).2 with h | ⟨rr, -, cell, k1, -⟩ | ⟨-, -, k1⟩
  · exact absurd h h99
  · exact (Array.getElem?_eq_some_iff.mp k1).1
  · exact (Array.getElem?_eq_some_iff.mp k1).1
/-- the world stays behind what only makes new cells -/
theorem ev_J_more {H H1 : Heap} (hJ : ev_J D aC b B0 σ w H) (hz : H.size ≤ H1.size) (ho : ∀ q, q < H.size → H1[q]? = H[q]?) {y : Nat × Nat} : ev_J D aC b B0 σ (w.1, (w.2.1, (false, y))) H1 := by
  refine ⟨fun i q hq => ⟨(hJ.1 i q hq).1, ?_⟩, Nat.le_trans hJ.2.1 hz, fun z => by cases z⟩
  by_cases h : q.1 = 99
  · exact Or.inl h
  · exact (hJ.1 i q hq).2.kept (ho _ (ev_ad_lt hJ hq h))
theorem ev_o_throw (hF : ev_Fx D aC b B0 L σ p s m args meth c cc nL Ts own Sg) (hl9 : l.stackTraces = false) (hR : 10 ≤ R.frames ∧ 100 ≤ R.locals) (hMR : M.2.1 ≤ R.cells ∧ M.2.2.1 ≤ R.slots) (hT : ∀ x ∈ c.exceptionTable.toList, False)
    (hQ : Q = vx_MQ below (ev_Qc D aC b B0 σ r) (ev_Xc D aC b B0 σ r) args s M.2.1 M.2.2.1 (fun q => B0 ≤ q)) (h : ev_h_throw Φ M k cl nx a b' c' tg pc loc st w = some r)
    (hi : ∃ (ik is9 ic : Nat) (text : String), a < 4 ∧ decode cc pc = .ok (.new ik, 3) ∧ decode cc (pc + 3) = .ok (.dup, 1) ∧ ((decode cc (pc + 4) = .ok (.ldc is9, 2) ∧ decode cc (pc + 6) = .ok (.invokespecial ic, 3) ∧ decode cc (pc + 9) = .ok (.athrow, 1)) ∨ (decode cc (pc + 4) = .ok (.ldc_w is9, 3) ∧ decode cc (pc + 7) = .ok (.invokespecial ic, 3) ∧ decode cc (pc + 10) = .ok (.athrow, 1))) ∧
      Cond.classLink own ik (ev_ex a) ∈ Ts ∧ Cond.initialized (ev_ex a) ∈ Ts ∧ (own, (is9, text)) ∈ Sg ∧ (∀ x ∈ (ev_xat own ic a).filter goodWord, x ∈ Ts) ∧
      (∀ x ∈ (ev_xat own ic a).filter (fun w => !goodWord w), x ∈ lw_tbl ∧ ev_bw x = true ∧ x.onTables = true) ∧
      (∀ x ∈ Cond.classLink own ik (ev_ex a) :: Cond.initialized (ev_ex a) :: ev_xat own ic a, vx_ot x = true)) : ev_Go D aC b B0 σ p l e R s m args below meth c Q nL pc loc st w := by
  obtain ⟨hx, hb, hml, ho, ht, hV, hZ, hbB, hB, hlk⟩ := id hF
  obtain ⟨ik, is9, ic, text, ha, d0, d3, d9, w1, w2, w3, w4, w5, w6⟩ := hi
  unfold ev_h_throw at h
  obtain ⟨h1, h⟩ := ev_if_n h
  rw [Bool.and_eq_true] at h1
  have e := (Option.some.inj h).symm
  have h2 := Nat.le_of_ble_eq_true h1.2
  have h3 := ev_cs_ok (b := b) (B0 := B0) (σ := σ) st
  intro H locs ls hl hJ hS
  subst hQ
  obtain ⟨sa, hstr⟩ := hV.2.2.1 _ w3
  have hm : w.2.2.2.1 + 1 ≤ M.2.1 ∧ w.2.2.2.2 + 6 ≤ M.2.2.1 := by
    have h9 := h1.1
    unfold ev_may at h9
    rw [Bool.and_eq_true] at h9
    exact ⟨Nat.le_of_ble_eq_true h9.1, Nat.le_of_ble_eq_true h9.2⟩
  have hfit : Bundle.fit (ev_ex a) = true := by
    have : a = 0 ∨ a = 1 ∨ a = 2 ∨ a = 3 := by omega
    rcases this with rfl | rfl | rfl | rfl <;> decide +kernel
  have hnm : ∀ n ∈ ["java/lang/Exception"], Bundle.fit n = true := by decide +kernel
  have hat : ∀ x ∈ ev_xat own ic a, x.before args s = true := by
    refine vx_hat (B := (ev_xat own ic a).filter (fun w => !goodWord w)) (fun x hx => ht _ (w4 x hx)) (fun x hx => hx) (fun x hx => ?_)
    obtain ⟨g1, g2, g3⟩ := w5 x hx
    exact va_Nw.use g3 (hV.2.1 x g1 g2)
  have hxx : ∀ t : State, s.vm.Alike t.vm → H.size ≤ t.heap.size → (∀ q : Nat, q < H.size → t.heap[q]? = H[q]?) → ev_Xc D aC b B0 σ r (ev_ex a) s t := fun t hv hz hq =>
    ⟨a, _, e, rfl, ha, ev_J_more hJ hz hq, ⟨Nat.le_trans hS.1 hz, fun q g1 g2 => (hq q (Nat.lt_of_lt_of_le g1 hS.1)).trans (hS.2.1 q g1 g2)⟩⟩
  rcases d9 with ⟨d4, d6, d9⟩ | ⟨d4, d6, d9⟩
  · exact ev_throwX (Y0 := "java/lang/RuntimeException") (names := ["java/lang/Exception"]) (A := fun q => B0 ≤ q) hx hb hl9 (ev_xi_ok a).1 (ev_xi_ok a).2.1 (ev_xi_ok a).2.2.1 (ev_xi_ok a).2.2.2 ho hfit (by decide +kernel) hnm (ht _ w1) (ht _ w2) hstr hat w6 hZ.2.1 hZ.2.2 hS (by rw [hml]; exact hl.1) d0 d3 d4 d6 d9 (fun x hx => (hT x hx).elim) (by simp only [List.length_cons, List.length_nil]; omega) (by simp only [List.length_cons, List.length_nil]; omega) (by omega) (by omega) hlk hxx hS.2.2 hm.1 hm.2
  · exact ev_throwXW (Y0 := "java/lang/RuntimeException") (names := ["java/lang/Exception"]) (A := fun q => B0 ≤ q) hx hb hl9 (ev_xi_ok a).1 (ev_xi_ok a).2.1 (ev_xi_ok a).2.2.1 (ev_xi_ok a).2.2.2 ho hfit (by decide +kernel) hnm (ht _ w1) (ht _ w2) hstr hat w6 hZ.2.1 hZ.2.2 hS (by rw [hml]; exact hl.1) d0 d3 d4 d6 d9 (fun x hx => (hT x hx).elim) (by simp only [List.length_cons, List.length_nil]; omega) (by simp only [List.length_cons, List.length_nil]; omega) (by omega) (by omega) hlk hxx hS.2.2 hm.1 hm.2
/-- behind a call -/
theorem ev_call_end {r2 : ev_S} {H : Heap} {locs : List Loc} {ls : Array Slot} {st0 rest : List Value} {a9 : Array Value} {mc ms : Nat} (hS : va_S (fun q => B0 ≤ q) s.heap H locs)
    (hrun : vx_Run p l e R s m args below meth c H locs w.2.2.2.1 w.2.2.2.2 mc ms (F0 m pc ls st0) rest (ev_Qc D aC b B0 σ r2 a9) (ev_Xc D aC b B0 σ r2) (fun q => B0 ≤ q))
    (hret : ∀ vo w2 (H1 : Heap) (locs1 : List Loc), r2 = .inl (vo, w2) → ev_J D aC b B0 σ w2 H1 → va_S (fun q => B0 ≤ q) s.heap H1 locs1 → W p l e R s m args below meth c H1 locs1 (w.2.2.2.1 + mc) (w.2.2.2.2 + ms) Q (F0 m (pc + 3) ls ((vo.map (ev_dn b B0 σ)).toList ++ rest)))
    (hthr : ∀ n w2 (H1 : Heap) (locs1 : List Loc) (q : Nat) (ce : Cell), r2 = .inr (.inl (n, w2)) → n < 4 → ev_J D aC b B0 σ w2 H1 → va_S (fun q => B0 ≤ q) s.heap H1 locs1 → H1[q]? = some ce → ce.vm = .none → s.vm.findClass (ev_ex n) = some ce.cls → vx_W p l e R s m args below meth c H1 locs1 (w.2.2.2.1 + mc) (w.2.2.2.2 + ms) Q (F0 m pc ls rest) q) :
    W p l e R s m args below meth c H locs w.2.2.2.1 w.2.2.2.2 Q (F0 m pc ls st0) := by
  intro T hT X
  rcases hrun T hT X with ⟨v, st₀, t, T', L9, h0, X', hL, e1, e2, ⟨vo, w2, g1, g2, g3, g4⟩, stp⟩ | ⟨q, st₀, t, T', L9, E, ce, h0, X', hL, e1, e2, ⟨n, w2, g1, g2, g3, g4, g5⟩, hce, hcv, hcl, stp⟩
  · obtain ⟨-, -, k3⟩ := vx_keep h0 e1 hS (fun q _ h => h) (fun q h => h) hL g4
    have g2 := Outcome.returned.inj g2
    subst g2
    obtain ⟨t2, a1, b1⟩ := hret vo w2 T'.heap (locs ++ L9) g1 (by rw [e1]; exact g3) k3 T' rfl X'
    exact ⟨t2, stp t2 a1, b1⟩
  · obtain ⟨-, -, k3⟩ := vx_keep h0 e1 hS (fun q _ h => h) (fun q h => h) hL g5
    subst g2
    obtain ⟨t2, a1, b1⟩ := hthr n w2 T'.heap (locs ++ L9) q ce g1 g3 (by rw [e1]; exact g4) k3 (by rw [e1]; exact hce) hcv hcl T' rfl X'
    exact ⟨t2, stp.trans a1, b1⟩
end EVC
end
section
/-! ===== a method's frame, from its entry to its end (own work) ===== -/
/-- a method: its name, its code, what it answers, its handlers as the class file has them -/
abbrev ev_Im : Type := MethodName × (ByteArray × (Option FieldType × List (Nat × Nat × Nat × Nat)))
def ev_UW : List Cond := lw_tbl.filter goodWord
def ev_cw (x : ev_Im) (n : Nat) : Cond := match x.2.2.2 with
  | [] => .code x.1 x.2.1 n x.2.2.1
  | q :: t => .codeWith x.1 x.2.1 n x.2.2.1 (q :: t)
def ev_wm (x : ev_Im) (n : Nat) : List Cond := ev_cw x n :: ev_UW
def ev_rm (d mc ms : Nat) : Room := { frames := 10 + d, cells := mc, slots := ms, locals := 100 + 70 * d }
section EVE
/-! what an entry of the evaluator's program must be, by what stands in the class file -/
def ev_i_int (cc : ByteArray) (own : String) (Ts : List Cond) (pc nx a : Nat) : Prop :=
  (∃ n, decode cc pc = .ok (.iconst n, 1) ∧ Int32.ofInt n = nI a ∧ nx = pc + 1) ∨ (∃ n, decode cc pc = .ok (.bipush n, 2) ∧ (Int8.ofInt n).toInt32 = nI a ∧ nx = pc + 2) ∨ (∃ n, decode cc pc = .ok (.sipush n, 3) ∧ (Int16.ofInt n).toInt32 = nI a ∧ nx = pc + 3) ∨ (∃ (ix : Nat) (v : Int32), decode cc pc = .ok (.ldc ix, 2) ∧ v = nI a ∧ nx = pc + 2 ∧ Cond.constant own ix v ∈ Ts) ∨ (∃ (ix : Nat) (v : Int32), decode cc pc = .ok (.ldc_w ix, 3) ∧ v = nI a ∧ nx = pc + 3 ∧ Cond.constant own ix v ∈ Ts)
def ev_i_wide (cc : ByteArray) (own : String) (Ts : List Cond) (pc nx a b' : Nat) : Prop :=
  ((∃ n : Fin 2, decode cc pc = .ok (.lconst n, 1) ∧ a = 0 ∧ Int64.ofNat (n : Nat) = lN b' ∧ nx = pc + 1) ∨ (decode cc pc = .ok (.dconst 0, 1) ∧ a = 2 ∧ FP.dconst0 = UInt64.ofNat b' ∧ nx = pc + 1)) ∨ ((decode cc pc = .ok (.fconst 0, 1) ∧ a = 1 ∧ FP.fconst0 = UInt32.ofNat b' ∧ nx = pc + 1) ∨ (∃ (ix : Nat) (v : Int64), decode cc pc = .ok (.ldc2_w ix, 3) ∧ a = 0 ∧ v = lN b' ∧ nx = pc + 3 ∧ Cond.constantLong own ix v ∈ Ts))
def ev_i_if (cc : ByteArray) (pc a b' c' : Nat) (f : Jvm.ClassFile.Cond → Int → Instr) : Prop :=
  ∃ off : Int, ((a = 0 ∧ decode cc pc = .ok (f .eq off, 3) ∧ (pc : Int) + off = (b' : Int) ∧ c' = pc + 3) ∨ (a = 0 ∧ decode cc pc = .ok (f .ne off, 3) ∧ (pc : Int) + off = (c' : Int) ∧ b' = pc + 3)) ∨ ((a = 1 ∧ decode cc pc = .ok (f .lt off, 3) ∧ (pc : Int) + off = (b' : Int) ∧ c' = pc + 3) ∨ (a = 1 ∧ decode cc pc = .ok (f .ge off, 3) ∧ (pc : Int) + off = (c' : Int) ∧ b' = pc + 3)) ∨ ((a = 2 ∧ decode cc pc = .ok (f .gt off, 3) ∧ (pc : Int) + off = (b' : Int) ∧ c' = pc + 3) ∨ (a = 2 ∧ decode cc pc = .ok (f .le off, 3) ∧ (pc : Int) + off = (c' : Int) ∧ b' = pc + 3))
def ev_i_st (cc : ByteArray) (nL pc nx a : Nat) (f : Nat → Instr) (g : Fin 4 → Instr) : Prop :=
  ((decode cc pc = .ok (f a, 2) ∧ nx = pc + 2) ∨ (∃ n : Fin 4, decode cc pc = .ok (g n, 1) ∧ (n : Nat) = a ∧ nx = pc + 1)) ∧ a < nL
def ev_i_ld (cc : ByteArray) (pc nx a : Nat) (f : Nat → Instr) (g : Fin 4 → Instr) : Prop :=
  (decode cc pc = .ok (f a, 2) ∧ nx = pc + 2) ∨ (∃ n : Fin 4, decode cc pc = .ok (g n, 1) ∧ (n : Nat) = a ∧ nx = pc + 1)
def ev_i_bin (cc : ByteArray) (pc nx a : Nat) : Prop :=
  ((a = 0 ∧ decode cc pc = .ok (.imul, 1)) ∨ (a = 1 ∧ decode cc pc = .ok (.iand, 1)) ∨ (a = 2 ∧ decode cc pc = .ok (.ior, 1)) ∨ (a = 3 ∧ decode cc pc = .ok (.ixor, 1)) ∨ (a = 4 ∧ decode cc pc = .ok (.ishl, 1)) ∨ (a = 5 ∧ decode cc pc = .ok (.ishr, 1)) ∨ (a = 6 ∧ decode cc pc = .ok (.iushr, 1))) ∧ nx = pc + 1
def ev_i_acmp (cc : ByteArray) (pc b' c' : Nat) : Prop :=
  ∃ off : Int, (decode cc pc = .ok (.if_acmp .eq off, 3) ∧ (pc : Int) + off = (b' : Int) ∧ c' = pc + 3) ∨ (decode cc pc = .ok (.if_acmp .ne off, 3) ∧ (pc : Int) + off = (c' : Int) ∧ b' = pc + 3)
def ev_i_isnull (cc : ByteArray) (pc b' c' : Nat) : Prop :=
  ∃ off : Int, (decode cc pc = .ok (.ifnull off, 3) ∧ (pc : Int) + off = (b' : Int) ∧ c' = pc + 3) ∨ (decode cc pc = .ok (.ifnonnull off, 3) ∧ (pc : Int) + off = (c' : Int) ∧ b' = pc + 3)
def ev_i_getf (cc : ByteArray) (own : String) (Ts : List Cond) (pc nx a b' : Nat) : Prop :=
  ∃ (index : Nat) (C : String) (T : u_T) (N : Nat), decode cc pc = .ok (.getfield index, 3) ∧ nx = pc + 3 ∧ vwCl[a]? = some (C, T, N) ∧ b' < N ∧ (∀ x ∈ u_ws C T N, x ∈ Ts) ∧ ev_fl_ok own (T b').1 (T b').2.1 (T b').2.2.1 index Ts
def ev_i_putf (cc : ByteArray) (own mn : String) (Ts : List Cond) (pc nx a b' c' : Nat) : Prop :=
  ∃ (index : Nat) (C : String) (T : u_T) (N : Nat) (ty0 : Nat → FieldType), decode cc pc = .ok (.putfield index, 3) ∧ nx = pc + 3 ∧ vwCl[a]? = some (C, T, N) ∧ b' < N ∧ (∀ x ∈ u_ws C T N, x ∈ Ts) ∧ (∀ k, k < N → parseFieldDescriptor (T k).2.2.1 = some (ty0 k)) ∧ (∀ x, x < N → ∀ y, y < N → x ≠ y → (T x).2.1 ≠ (T y).2.1) ∧
      ((c' = 0 ∧ ty0 b' = .int) ∨ (c' = 1 ∧ ty0 b' = .boolean) ∨ (c' = 2 ∧ ((∃ C, ty0 b' = .object C) ∨ ∃ t, ty0 b' = .array t)) ∨ (c' = 3 ∧ ty0 b' = .long)) ∧
      (((T b').2.2.2 = false ∧ ev_fl_ok own (T b').1 (T b').2.1 (T b').2.2.1 index Ts) ∨ ((T b').2.2.2 = true ∧ mn = "<init>" ∧ (T b').1 = own ∧ Cond.fieldLink own index (T b').1 (T b').2.1 (T b').2.2.1 ∈ Ts))
def ev_i_ald (cc : ByteArray) (pc nx a b' : Nat) : Prop :=
  ((a = 20 ∧ b' = 20 ∧ decode cc pc = .ok (.iaload, 1)) ∨ (a = 21 ∧ b' = 22 ∧ decode cc pc = .ok (.baload, 1)) ∨ (a = 23 ∧ b' = 23 ∧ decode cc pc = .ok (.laload, 1)) ∨ (a = 24 ∧ b' = 25 ∧ decode cc pc = .ok (.aaload, 1))) ∧ nx = pc + 1
def ev_i_new (cc : ByteArray) (own : String) (Ts : List Cond) (pc nx a b' : Nat) (tg : List Nat) : Prop :=
  ∃ (index : Nat) (C : String) (T : u_T) (N : Nat) (ty0 : Nat → FieldType), decode cc pc = .ok (.new index, 3) ∧ nx = pc + 3 ∧ vwCl[a]? = some (C, T, N) ∧ b' = N ∧ N ≤ 32 ∧ (∀ x ∈ u_ws C T N, x ∈ Ts) ∧ (∀ k, k < N → parseFieldDescriptor (T k).2.2.1 = some (ty0 k)) ∧ (∀ k, k < N → ev_dc (ty0 k) < 3) ∧ tg = (List.range N).map (fun k => ev_dc (ty0 k)) ∧
      Cond.classLink own index C ∈ Ts ∧ Cond.instantiable C N ∈ Ts ∧ Cond.initialized C ∈ Ts
def ev_i_newa (cc : ByteArray) (own : String) (Ts : List Cond) (pc nx a b' : Nat) : Prop :=
  (∃ at9 : ArrayType, decode cc pc = .ok (.newarray at9, 2) ∧ nx = pc + 2 ∧ newarray.typeOf at9 = ev_ty a ∧ 20 ≤ a ∧ a ≤ 23 ∧ b' = ev_dc (ev_ty a) ∧ Cond.arrayClass (newarray.typeOf at9) ∈ Ts) ∨
      (∃ (ix : Nat) (C : String), decode cc pc = .ok (.anewarray ix, 3) ∧ nx = pc + 3 ∧ 24 ≤ a ∧ a ≤ 25 ∧ ev_ty a = .object C ∧ b' = 1 ∧ Cond.classLink own ix C ∈ Ts ∧ Cond.arrayOver (.object C) ∈ lw_tbl)
def ev_i_call (I : Nat → ev_Im) (P : Nat → ev_M) (cc : ByteArray) (own : String) (pc nx a b' c' : Nat) (tg : List Nat) : Prop :=
  ∃ (ix n : Nat), nx = pc + 3 ∧ tg = [(P a).2.1, (P a).2.2.1] ∧ (P a).1 ≤ 51 ∧ b' ≤ (P a).1 ∧ ev_cw (I a) (P a).1 ∈ ev_UW ∧ Cond.initialized (I a).1.cls ∈ ev_UW ∧
    ((I a).1.cls ≠ "java/lang/invoke/MethodHandle" ∧ (I a).1.cls ≠ "java/lang/invoke/VarHandle" ∧ (parseMethodDescriptor (I a).1.desc).map (fun d => d.parameters.length) = some n) ∧ Cond.initialized own ∈ ev_UW ∧
    ((decode cc pc = .ok (.invokevirtual ix, 3) ∧ b' = n + 1 ∧ (∃ (ci : Nat) (rr : vw_C), c' = ci + 1 ∧ vwCl[ci]? = some rr ∧ rr.1 = (I a).1.cls) ∧ (I a).2.2.2 = [] ∧ Cond.methodLink own ix (I a).1 ∈ ev_UW ∧ Cond.instanceMethod (I a).1 ∈ ev_UW ∧ Cond.selects (I a).1.cls (I a).1 (I a).1 ∈ ev_UW) ∨
     (decode cc pc = .ok (.invokestatic ix, 3) ∧ b' = n ∧ c' = 0 ∧ Cond.methodLink own ix (I a).1 ∈ ev_UW ∧ Cond.static (I a).1 ∈ ev_UW) ∨
     (decode cc pc = .ok (.invokespecial ix, 3) ∧ b' = n + 1 ∧ (∃ (ci : Nat) (rr : vw_C), c' = ci + 1 ∧ vwCl[ci]? = some rr) ∧ (I a).2.2.2 = [] ∧ (I a).1.name = "<init>" ∧ (I a).2.2.1 = none ∧ Cond.instanceMethod (I a).1 ∈ ev_UW ∧ (Cond.methodLink own ix (I a).1 ∈ ev_UW ∨ ∃ host, Cond.methodLinkNest own ix (I a).1 host ∈ lw_tbl)))
def ev_i_throw (cc : ByteArray) (own : String) (Ts : List Cond) (Sg : List (String × (Nat × String))) (pc a : Nat) : Prop :=
  ∃ (ik is9 ic : Nat) (text : String), a < 4 ∧ decode cc pc = .ok (.new ik, 3) ∧ decode cc (pc + 3) = .ok (.dup, 1) ∧ ((decode cc (pc + 4) = .ok (.ldc is9, 2) ∧ decode cc (pc + 6) = .ok (.invokespecial ic, 3) ∧ decode cc (pc + 9) = .ok (.athrow, 1)) ∨ (decode cc (pc + 4) = .ok (.ldc_w is9, 3) ∧ decode cc (pc + 7) = .ok (.invokespecial ic, 3) ∧ decode cc (pc + 10) = .ok (.athrow, 1))) ∧
      Cond.classLink own ik (ev_ex a) ∈ Ts ∧ Cond.initialized (ev_ex a) ∈ Ts ∧ (own, (is9, text)) ∈ Sg ∧ (∀ x ∈ (ev_xat own ic a).filter goodWord, x ∈ Ts) ∧
      (∀ x ∈ (ev_xat own ic a).filter (fun w => !goodWord w), x ∈ lw_tbl ∧ ev_bw x = true ∧ x.onTables = true) ∧
      (∀ x ∈ Cond.classLink own ik (ev_ex a) :: Cond.initialized (ev_ex a) :: ev_xat own ic a, vx_ot x = true)
def ev_i_switch (cc : ByteArray) (pc a b' c' : Nat) (tg : List Nat) : Prop :=
  ∃ (df lo hi9 : Int) (offs : Array Int) (len : Nat), decode cc pc = .ok (.tableswitch df lo hi9 offs, len) ∧ -2147483648 ≤ lo ∧ -2147483648 ≤ hi9 ∧ a = (lo + 2147483648).toNat ∧ b' = (hi9 + 2147483648).toNat ∧ (pc : Int) + df = (c' : Int) ∧ (∀ (j t : Nat), tg[j]? = some t → ∃ off, offs[j]? = some off ∧ (pc : Int) + off = (t : Int))
def ev_i_cv (cc : ByteArray) (pc nx a : Nat) : Prop :=
  ((a = 0 ∧ decode cc pc = .ok (.i2l, 1)) ∨ (a = 1 ∧ decode cc pc = .ok (.l2i, 1)) ∨ (a = 2 ∧ decode cc pc = .ok (.i2d, 1)) ∨ (a = 3 ∧ decode cc pc = .ok (.i2f, 1)) ∨ (a = 4 ∧ decode cc pc = .ok (.f2d, 1)) ∨ (a = 5 ∧ decode cc pc = .ok (.i2b, 1)) ∨ (a = 6 ∧ decode cc pc = .ok (.i2c, 1))) ∧ nx = pc + 1
def ev_i_w2 (cc : ByteArray) (own : String) (Ts : List Cond) (pc nx a : Nat) : Prop :=
  (((a = 0 ∧ decode cc pc = .ok (.ddiv, 1)) ∨ (a = 1 ∧ decode cc pc = .ok (.fdiv, 1)) ∨ (a = 2 ∧ decode cc pc = .ok (.dcmp .l, 1)) ∨ (a = 3 ∧ decode cc pc = .ok (.dcmp .g, 1)) ∨ (a = 4 ∧ decode cc pc = .ok (.lcmp, 1)) ∨ (a = 5 ∧ decode cc pc = .ok (.lshr, 1)) ∨ (a = 6 ∧ decode cc pc = .ok (.lshl, 1)) ∨ (a = 7 ∧ decode cc pc = .ok (.land, 1)) ∨ (a = 8 ∧ decode cc pc = .ok (.lor, 1))) ∧ nx = pc + 1) ∨
      (∃ ix : Nat, a = 9 ∧ decode cc pc = .ok (.invokestatic ix, 3) ∧ nx = pc + 3 ∧ Cond.methodLink own ix Lib.Math.max.name ∈ Ts ∧ Cond.static Lib.Math.max.name ∈ Ts ∧ Cond.initialized "java/lang/Math" ∈ Ts ∧ Cond.code Lib.Math.max.name Lib.Math.max.code 2 (some .int) ∈ Ts)
def ev_i_objinit (cc : ByteArray) (own : String) (Ts : List Cond) (pc nx : Nat) : Prop :=
  ∃ ix : Nat, decode cc pc = .ok (.invokespecial ix, 3) ∧ nx = pc + 3 ∧ Cond.methodLink own ix Lib.objectInit ∈ Ts ∧ Cond.instanceMethod Lib.objectInit ∈ Ts ∧ Cond.code Lib.objectInit ⟨#[0xb1]⟩ 1 none ∈ Ts
def ev_i_copy (cc : ByteArray) (own : String) (Ts : List Cond) (pc nx : Nat) : Prop :=
  ∃ ix : Nat, decode cc pc = .ok (.invokestatic ix, 3) ∧ nx = pc + 3 ∧ Cond.methodLink own ix arraycopyName ∈ Ts ∧ Cond.native arraycopyName ∈ Ts ∧ Cond.static arraycopyName ∈ Ts ∧ Cond.initialized "java/lang/System" ∈ Ts
def ev_i_idiv (cc : ByteArray) (pc nx a : Nat) : Prop := ((a = 0 ∧ decode cc pc = .ok (.idiv, 1)) ∨ (a = 1 ∧ decode cc pc = .ok (.irem, 1))) ∧ nx = pc + 1
/-- an entry is what the class file has there -/
def ev_eok (I : Nat → ev_Im) (P : Nat → ev_M) (Sg : List (String × (Nat × String))) (Ts : List Cond) (y : MethodName) (cc : ByteArray) (ret : Option FieldType) (nL pc op nx a b' c' : Nat) (tg : List Nat) : Prop :=
  match op with
  | 0 => True
  | 1 => ev_i_int cc y.cls Ts pc nx a
  | 2 => decode cc pc = .ok (.aconst_null, 1) ∧ nx = pc + 1
  | 3 => ev_i_wide cc y.cls Ts pc nx a b'
  | 6 => ev_i_ld cc pc nx a .iload .iload_n
  | 7 => ev_i_ld cc pc nx a .aload .aload_n
  | 8 => decode cc pc = .ok (.dload a, 2) ∧ nx = pc + 2
  | 9 => ev_i_st cc nL pc nx a .istore .istore_n
  | 10 => ev_i_st cc nL pc nx a .astore .astore_n
  | 11 => decode cc pc = .ok (.dstore a, 2) ∧ nx = pc + 2 ∧ a + 1 < nL
  | 12 => ∃ n : Int, decode cc pc = .ok (.iinc a n, 3) ∧ Int32.ofInt n = nI b' ∧ nx = pc + 3 ∧ a < nL
  | 13 => decode cc pc = .ok (.iadd, 1) ∧ nx = pc + 1
  | 14 => decode cc pc = .ok (.isub, 1) ∧ nx = pc + 1
  | 15 => ev_i_bin cc pc nx a
  | 16 => ev_i_if cc pc a b' c' .ifCond
  | 17 => ev_i_if cc pc a b' c' .if_icmp
  | 18 => ev_i_acmp cc pc b' c'
  | 19 => ev_i_isnull cc pc b' c'
  | 20 => ∃ off : Int, decode cc pc = .ok (.goto off, 3) ∧ (pc : Int) + off = (nx : Int)
  | 21 => decode cc pc = .ok (.dup, 1) ∧ nx = pc + 1
  | 22 => decode cc pc = .ok (.dup2, 1) ∧ nx = pc + 1
  | 23 => decode cc pc = .ok (.pop, 1) ∧ nx = pc + 1
  | 24 => ev_i_getf cc y.cls Ts pc nx a b'
  | 25 => ev_i_putf cc y.cls y.name Ts pc nx a b' c'
  | 26 => decode cc pc = .ok (.arraylength, 1) ∧ nx = pc + 1
  | 27 => a = 20 ∧ b' = 20 ∧ decode cc pc = .ok (.iaload, 1) ∧ nx = pc + 1
  | 28 => decode cc pc = .ok (.iastore, 1) ∧ nx = pc + 1
  | 29 => ev_i_ald cc pc nx a b'
  | 30 => decode cc pc = .ok (.bastore, 1) ∧ nx = pc + 1
  | 31 => decode cc pc = .ok (.lastore, 1) ∧ nx = pc + 1
  | 32 => decode cc pc = .ok (.aastore, 1) ∧ nx = pc + 1
  | 33 => ev_i_new cc y.cls Ts pc nx a b' tg
  | 34 => ev_i_newa cc y.cls Ts pc nx a b'
  | 35 => ev_i_call I P cc y.cls pc nx a b' c' tg
  | 36 => ev_i_objinit cc y.cls Ts pc nx
  | 37 => ev_i_throw cc y.cls Ts Sg pc a
  | 38 => decode cc pc = .ok (.return_, 1) ∧ ret = none
  | 39 => decode cc pc = .ok (.ireturn, 1) ∧ ((a = 0 ∧ ret = some .int) ∨ (a = 1 ∧ ret = some .boolean))
  | 40 => decode cc pc = .ok (.areturn, 1) ∧ ∃ rt, ret = some rt ∧ ((∃ n, rt = .object n) ∨ ∃ t, rt = .array t)
  | 41 => (a = 1 ∧ decode cc pc = .ok (.freturn, 1) ∧ ret = some .float) ∨ (a = 2 ∧ decode cc pc = .ok (.dreturn, 1) ∧ ret = some .double)
  | 42 => ev_i_switch cc pc a b' c' tg
  | 43 => ev_i_cv cc pc nx a
  | 44 => ev_i_w2 cc y.cls Ts pc nx a
  | 45 => ev_i_copy cc y.cls Ts pc nx
  | 46 => True
  | 47 => ev_i_idiv cc pc nx a
  | 48 => a = 1 ∧ decode cc pc = .ok (.iand, 1) ∧ nx = pc + 1
  | _ => False
/-- .. wherever the program counter stands -/
def ev_cok (I : Nat → ev_Im) (P : Nat → ev_M) (Sg : List (String × (Nat × String))) (Ts : List Cond) (y : MethodName) (cc : ByteArray) (ret : Option FieldType) (nL : Nat) (code : Nat → ev_E) : Prop :=
  ∀ pc, ev_eok I P Sg Ts y cc ret nL pc (code pc).1 (code pc).2.1 (code pc).2.2.1 (code pc).2.2.2.1 (code pc).2.2.2.2.1 (code pc).2.2.2.2.2
/-- the handlers, with the exceptions' numbers for the places in the class's pool -/
def ev_hok (own : String) (Ts : List Cond) (hh : List (Nat × Nat × Nat × Nat)) (hs : List (Nat × (Nat × (Nat × Nat)))) : Prop :=
  ∃ cn : Nat → Nat, hs = hh.map (fun q => (q.1, (q.2.1, (q.2.2.1, cn q.2.2.2)))) ∧ ∀ q ∈ hh, cn q.2.2.2 < 4 ∧ q.2.2.2 ≠ 0 ∧ Cond.classLink own q.2.2.2 (ev_ex (cn q.2.2.2)) ∈ Ts
/-- a method of the program is what the class file has -/
def ev_mok (I : Nat → ev_Im) (P : Nat → ev_M) (Sg : List (String × (Nat × String))) (i : Nat) : Prop :=
  plainName (I i).1.cls = true ∧ ev_cok I P Sg (ev_wm (I i) (P i).1) (I i).1 (I i).2.1 (I i).2.2.1 (P i).1 (P i).2.2.2.2 ∧ ev_hok (I i).1.cls (ev_wm (I i) (P i).1) (I i).2.2.2 (P i).2.2.2.1 ∧
    ((I i).2.2.2 ≠ [] → ∀ pc, ((P i).2.2.2.2 pc).1 ≠ 37) ∧ ∀ pc, ((P i).2.2.2.2 pc).1 ≠ 46
end EVE
section EVX
variable {D : va_G} {aC : Nat → ClassId} {b B0 L : Nat} {σ : Nat → Int32}
variable {p : Program} {l : Launch} {e : Env} {R : Room} {s : State} {m : MethodId} {args : Array Value} {below : List Frame} {meth : Method} {c : Code} {Q : State → Prop}
variable {cc : ByteArray} {nL : Nat} {Ts : List Cond} {own : String} {Sg : List (String × (Nat × String))}
variable {Φ : ev_P} {M : ev_M} {k : ev_N} {cl : ev_F} {nx a b' c' pc : Nat} {tg : List Nat} {loc : ev_L} {st : List ev_V} {w : ev_W} {r : ev_S}
theorem ev_dle (x y : Nat) : decide (x ≤ y) = Nat.ble x y := by
  cases h : Nat.ble x y with
  | true => exact decide_eq_true (Nat.le_of_ble_eq_true h)
  | false => exact decide_eq_false (fun q => by rw [Nat.ble_eq_true_of_le q] at h; cases h)
theorem ev_sp_ok : ∀ (n : Nat) (acc st As r : List ev_V), ev_sp n acc st = some (As, r) → ∃ t, st = t ++ r ∧ t.length = n ∧ As = t.reverse ++ acc := by
  intro n
  induction n with
  | zero =>
    intro acc st As r h
    have h : some (acc, st) = some (As, r) := h
    cases h
    exact ⟨[], rfl, rfl, rfl⟩
  | succ n ih =>
    intro acc st As r h
    cases st with
    | nil => exact absurd h (fun z => by cases z)
    | cons v t =>
      obtain ⟨t9, h1, h2, h3⟩ := ih (v :: acc) t As r h
      exact ⟨v :: t9, by rw [h1]; rfl, by rw [List.length_cons, h2], by rw [h3]; simp⟩
theorem ev_hd_ok {args : Array Value} {s : State} {own : String} {Ts : List Cond} {cn : Nat → Nat} {E pc : Nat} (hE : E < 4) (ht : ∀ w ∈ Ts, w.before args s = true) (hV : ev_VF D aC Sg s) : ∀ (hh : List (Nat × Nat × Nat × Nat)), (∀ q ∈ hh, cn q.2.2.2 < 4 ∧ q.2.2.2 ≠ 0 ∧ Cond.classLink own q.2.2.2 (ev_ex (cn q.2.2.2)) ∈ Ts) →
    (ev_hd (hh.map (fun q => (q.1, (q.2.1, (q.2.2.1, cn q.2.2.2))))) pc E = none → ∀ z ∈ tableOf hh, covers z pc = false ∨ (z.catchType ≠ 0 ∧ ∃ nm : String, (Cond.classLink own z.catchType nm).before args s = true ∧ va_Nc (ev_ex E) nm s)) ∧
    (∀ hp, ev_hd (hh.map (fun q => (q.1, (q.2.1, (q.2.2.1, cn q.2.2.2))))) pc E = some hp → ∃ (pre : List ExceptionTableEntry) (x : ExceptionTableEntry) (suf : List ExceptionTableEntry), tableOf hh = pre ++ x :: suf ∧ (∀ z ∈ pre, covers z pc = false ∨ (z.catchType ≠ 0 ∧ ∃ nm : String, (Cond.classLink own z.catchType nm).before args s = true ∧ va_Nc (ev_ex E) nm s)) ∧ covers x pc = true ∧ x.catchType ≠ 0 ∧ (Cond.classLink own x.catchType (ev_ex E)).before args s = true ∧ x.handlerPc = hp) := by
  intro hh
  induction hh with
  | nil => exact fun _ => ⟨fun _ z hz => absurd hz List.not_mem_nil, fun hp h => absurd h (fun z => by cases z)⟩
  | cons q t ih =>
    intro hq
    obtain ⟨i1, i2⟩ := ih (fun x hx => hq x (List.mem_cons_of_mem _ hx))
    obtain ⟨q1, q2, q3⟩ := hq q List.mem_cons_self
    have ecov : covers (⟨q.1, q.2.1, q.2.2.1, q.2.2.2⟩ : ExceptionTableEntry) pc = (Nat.ble q.1 pc && Nat.ble (pc + 1) q.2.1) := by
      show (decide (q.1 ≤ pc) && decide (pc + 1 ≤ q.2.1)) = _
      rw [ev_dle, ev_dle]
    have hun : ev_hd ((q :: t).map (fun q => (q.1, (q.2.1, (q.2.2.1, cn q.2.2.2))))) pc E = ev_if (Nat.ble q.1 pc && Nat.ble (pc + 1) q.2.1) (ev_if (Nat.beq (cn q.2.2.2) E) (some q.2.2.1) (ev_hd (t.map (fun q => (q.1, (q.2.1, (q.2.2.1, cn q.2.2.2))))) pc E)) (ev_hd (t.map (fun q => (q.1, (q.2.1, (q.2.2.1, cn q.2.2.2))))) pc E) := rfl
    rw [hun]
    have htab : tableOf (q :: t) = (⟨q.1, q.2.1, q.2.2.1, q.2.2.2⟩ : ExceptionTableEntry) :: tableOf t := rfl
    rw [htab]
    have cons9 : ∀ hp, (covers (⟨q.1, q.2.1, q.2.2.1, q.2.2.2⟩ : ExceptionTableEntry) pc = false ∨ (q.2.2.2 ≠ 0 ∧ ∃ nm : String, (Cond.classLink own q.2.2.2 nm).before args s = true ∧ va_Nc (ev_ex E) nm s)) → ev_hd (t.map (fun q => (q.1, (q.2.1, (q.2.2.1, cn q.2.2.2))))) pc E = some hp →
        ∃ (pre : List ExceptionTableEntry) (x : ExceptionTableEntry) (suf : List ExceptionTableEntry), (⟨q.1, q.2.1, q.2.2.1, q.2.2.2⟩ : ExceptionTableEntry) :: tableOf t = pre ++ x :: suf ∧ (∀ z ∈ pre, covers z pc = false ∨ (z.catchType ≠ 0 ∧ ∃ nm : String, (Cond.classLink own z.catchType nm).before args s = true ∧ va_Nc (ev_ex E) nm s)) ∧ covers x pc = true ∧ x.catchType ≠ 0 ∧ (Cond.classLink own x.catchType (ev_ex E)).before args s = true ∧ x.handlerPc = hp := by
      intro hp h0 h1
      obtain ⟨pre, x, suf, g1, g2, g3⟩ := i2 hp h1
      refine ⟨_ :: pre, x, suf, by rw [g1]; rfl, fun z hz => ?_, g3⟩
      rcases List.mem_cons.mp hz with rfl | hz
      · exact h0
      · exact g2 z hz
    cases c1 : (Nat.ble q.1 pc && Nat.ble (pc + 1) q.2.1) with
    | false =>
      rw [c1] at ecov
      rw [ev_if_f]
      refine ⟨fun h z hz => ?_, fun hp h => cons9 hp (Or.inl ecov) h⟩
      rcases List.mem_cons.mp hz with rfl | hz
      · exact Or.inl ecov
      · exact i1 h z hz
    | true =>
      rw [c1] at ecov
      rw [ev_if_t]
      cases c2 : Nat.beq (cn q.2.2.2) E with
      | true =>
        rw [ev_if_t]
        have c2 := Nat.eq_of_beq_eq_true c2
        refine ⟨fun h => absurd h (fun z => by cases z), fun hp h => ?_⟩
        have h := Option.some.inj h
        refine ⟨[], _, tableOf t, rfl, fun z hz => absurd hz List.not_mem_nil, ecov, q2, ?_, h⟩
        rw [← c2]
        exact ht _ q3
      | false =>
        rw [ev_if_f]
        have c2 := Nat.ne_of_beq_eq_false c2
        have h0 : covers (⟨q.1, q.2.1, q.2.2.1, q.2.2.2⟩ : ExceptionTableEntry) pc = false ∨ (q.2.2.2 ≠ 0 ∧ ∃ nm : String, (Cond.classLink own q.2.2.2 nm).before args s = true ∧ va_Nc (ev_ex E) nm s) := Or.inr ⟨q2, _, ht _ q3, hV.2.2.2 E _ hE q1 (fun z => c2 z.symm)⟩
        refine ⟨fun h z hz => ?_, fun hp h => cons9 hp h0 h⟩
        rcases List.mem_cons.mp hz with rfl | hz
        · exact h0
        · exact i1 h z hz
end EVX
end
section
/-! ===== System.arraycopy, the call of a method, a whole frame (own work) ===== -/
section EVY
variable {D : va_G} {aC : Nat → ClassId} {b B0 L : Nat} {σ : Nat → Int32}
variable {p : Program} {l : Launch} {e : Env} {R : Room} {s : State} {m : MethodId} {args : Array Value} {below : List Frame} {meth : Method} {c : Code} {Q : State → Prop}
variable {cc : ByteArray} {nL : Nat} {Ts : List Cond} {own : String} {Sg : List (String × (Nat × String))}
variable {Φ : ev_P} {M : ev_M} {k : ev_N} {cl : ev_F} {nx a b' c' pc : Nat} {tg : List Nat} {loc : ev_L} {st : List ev_V} {w : ev_W} {r : ev_S}
theorem ev_cpy_ok {f g : List (List ev_V)} : ∀ (n : Nat) (h : List (List ev_V)), ev_cpy n f g = some h → (∀ i, i < n → ∃ v, ev_get f i = some v ∧ ev_ii v = true) ∧ ∀ j, ev_get h j = if j < n then ev_get f j else ev_get g j := by
  intro n
  induction n with
  | zero =>
    intro h hh
    have hh : some g = some h := hh
    cases hh
    exact ⟨fun i hi => absurd hi (Nat.not_lt_zero i), fun j => by rw [if_neg (Nat.not_lt_zero j)]⟩
  | succ n ih =>
    intro h hh
    have hh : (match ev_cpy n f g, ev_get f n with
      | some h, some v => ev_if (ev_ii v) (ev_sto h n v) none
      | _, _ => none) = some h := hh
    split at hh
    · next h9 v h1 h2 =>
      obtain ⟨h3, hh⟩ := ev_if_n hh
      obtain ⟨i1, i2⟩ := ih h9 h1
      obtain ⟨-, i3⟩ := ev_sto_ok hh
      refine ⟨fun i hi => ?_, fun j => ?_⟩
      · by_cases e : i = n
        · subst e
          exact ⟨v, h2, h3⟩
        · exact i1 i (by omega)
      · rw [i3, i2]
        by_cases e : j = n
        · subst e
          rw [if_pos rfl, if_pos (Nat.lt_succ_self j), h2]
        · rw [if_neg e]
          by_cases e2 : j < n
          · rw [if_pos e2, if_pos (by omega)]
          · rw [if_neg e2, if_neg (by omega)]
    · cases hh
theorem ev_o_copy (hF : ev_Fx D aC b B0 L σ p s m args meth c cc nL Ts own Sg) (hR : 1 ≤ R.frames ∧ 100 ≤ R.locals) (hk : ∀ pc loc st w, k pc loc st w = some r → ev_Go D aC b B0 σ p l e R s m args below meth c Q nL pc loc st w) (h : ev_h_copy Φ M k cl nx a b' c' tg pc loc st w = some r)
    (hi : ev_i_copy cc own Ts pc nx) : ev_Go D aC b B0 σ p l e R s m args below meth c Q nL pc loc st w := by
  obtain ⟨hx, hb, hml, ho, ht, hV, -⟩ := id hF
  obtain ⟨ix, d, rfl, w1, w2, w3, w4⟩ := hi
  unfold ev_h_copy at h
  split at h
  · next n i i0 rr =>
    split at h
    · next q q0 hq hq0 =>
      obtain ⟨h1, h⟩ := ev_if_n h
      simp only [Bool.and_eq_true] at h1
      obtain ⟨h1, h2, h3, h4, h5, h6, h7⟩ := h1
      have k1 := Nat.eq_of_beq_eq_true h1
      have k2 := Nat.eq_of_beq_eq_true h2
      have k3 := Nat.le_of_ble_eq_true h3
      have k4 := Nat.le_of_ble_eq_true h4
      have k5 := Nat.le_of_ble_eq_true h5
      have k6 := Nat.le_of_ble_eq_true h6
      have k7 := Nat.le_of_ble_eq_true h7
      have k8 := ev_cs_ok (b := b) (B0 := B0) (σ := σ) rr
      split at h
      · next z hz =>
        split at h
        · next x hx9 =>
          obtain ⟨c1, c2⟩ := ev_cpy_ok n z hz
          obtain ⟨-, hx9⟩ := ev_sto_ok hx9
          intro H locs ls hl hJ hS
          obtain ⟨hi9, g1⟩ := ev_J_arr hJ hq (by omega) (by omega)
          obtain ⟨hi0, g0⟩ := ev_J_arr hJ hq0 (by omega) (by omega)
          have e1 : ∀ {n : Nat}, n < 1000000 → ev_dn b B0 σ (.inr (.inl (some n))) = .ref (B0 + n) := fun hn => by
            show Value.ref _ = _
            rw [ev_ad_w hn]
          simp only [List.map_cons]
          rw [e1 hi9, e1 hi0]
          have e5 : (nI n).toNatClampNeg = n := nI_clamp (by omega)
          have e50 : (nI 0).toNatClampNeg = 0 := nI_clamp (by omega)
          have e6 : (nI n).toInt = n := nI_toInt (by omega)
          have e60 : (nI 0).toInt = 0 := nI_toInt (n := 0) (by omega)
          intro T hT X
          obtain ⟨-, kk0, hk0, cm0, hkk0⟩ := (ev_tys_of hV (k := 20) (by omega) (by omega)).1 q0.2.1 (ev_fv b B0 σ q0.2.2)
          obtain ⟨-, kk1, hk1, cm1, hkk1⟩ := (ev_tys_of hV (k := 20) (by omega) (by omega)).1 q.2.1 (ev_fv b B0 σ q.2.2)
          rw [k1] at g1
          rw [k2] at g0
          have hread : ∀ i, i < n → (arrV (aC 20) q0.2.1 (ev_fv b B0 σ q0.2.2)).slots.getD ((nI 0).toNatClampNeg + i) .null = ev_fv b B0 σ q0.2.2 i := fun i hi => by
            rw [e50, Nat.zero_add, Array.getD_eq_getD_getElem?, arrV_read _ _ (by omega)]
            rfl
          have hint : ∀ i, i < n → ∃ y, ev_fv b B0 σ q0.2.2 i = .int y := fun i hi => by
            obtain ⟨v, v1, v2⟩ := c1 i hi
            obtain ⟨y, ey⟩ := ev_dn_i (b := b) (B0 := B0) (σ := σ) v2
            refine ⟨y, ?_⟩
            unfold ev_fv
            rw [v1]
            exact ey
          obtain ⟨vm', X', step⟩ := X.arraycopy hx ho (ht _ w1) (ht _ w2) (ht _ w3) (ht _ w4) (src := B0 + i0) (dst := B0 + i) (cs := arrV (aC 20) q0.2.1 (ev_fv b B0 σ q0.2.2)) (cd := arrV (aC 20) q.2.1 (ev_fv b B0 σ q.2.2)) (srcPos := nI 0) (destPos := nI 0) (n := nI n) (by rw [hT]; exact g0) (by rw [hT]; exact g1)
            (fun _ h => by cases h) (fun _ h => by cases h) (fun h => by cases h) (fun h => by cases h) hk0 hk1 hkk0 hkk1 (by rfl) (nI_pos (n := 0) (by omega)) (nI_pos (n := 0) (by omega)) (nI_pos (n := n) (by omega))
            (by rw [e60, e6, arrV_size]; omega) (by rw [e60, e6, arrV_size]; omega)
            (fun vm₁ _ i hi => by
              rw [e5] at hi
              obtain ⟨y, ey⟩ := hint i hi
              rw [hread i hi, ey]
              exact ⟨rfl, trivial⟩)
            (g := F0 m pc ls (.int (nI n) :: .int (nI 0) :: .ref (B0 + i) :: .int (nI 0) :: .ref (B0 + i0) :: rr.map (ev_dn b B0 σ))) rfl (by rw [hml]; exact hl.1) (rest := rr.map (ev_dn b B0 σ)) rfl (by rw [hb]; exact d) hR.1 (by
              have : nativeFrameWords "java/lang/System" "arraycopy" 5 + 11 ≤ 90 := by decide +kernel
              show 2 * 0 + _ + _ ≤ _
              omega)
          have ecop : copied (arrV (aC 20) q0.2.1 (ev_fv b B0 σ q0.2.2)) (arrV (aC 20) q.2.1 (ev_fv b B0 σ q.2.2)) (nI 0) (nI 0) (nI n) = arrV (aC 20) q.2.1 (ev_fv b B0 σ z) := by
            have h9 := va_copied (fun v : Value => v) (aC 20) (aC 20) (n0 := q0.2.1) (n1 := q.2.1) (sp := (nI 0).toNatClampNeg) (dp := (nI 0).toNatClampNeg) (n := (nI n).toNatClampNeg) (ev_fv b B0 σ q0.2.2) (ev_fv b B0 σ q.2.2) (by rw [e50, e5]; omega)
            refine h9.trans (ev_arr_to fun j hj => ?_)
            show va_cpy _ _ _ _ _ j = _
            unfold va_cpy
            rw [e50, e5]
            unfold ev_fv
            rw [c2]
            by_cases hjn : j < n
            · rw [if_pos ⟨Nat.zero_le j, by omega⟩, if_pos hjn, Nat.zero_add, Nat.sub_zero]
            · rw [if_neg (by omega), if_neg hjn]
          rw [ecop] at X' step
          have hlt : B0 + i < H.size := (Array.getElem?_eq_some_iff.mp g1).1
          have hheap : ((T.setVm vm').setCell (B0 + i) (arrV (aC 20) q.2.1 (ev_fv b B0 σ z))).heap = H.setIfInBounds (B0 + i) (arrV (aC 20) q.2.1 (ev_fv b B0 σ z)) := by rw [← hT]; rfl
          have oq : ∀ y : Nat, y ≠ B0 + i → (H.setIfInBounds (B0 + i) (arrV (aC 20) q.2.1 (ev_fv b B0 σ z)))[y]? = H[y]? := fun y hy => by simp [Array.getElem?_setIfInBounds, Ne.symm hy]
          have hself : (H.setIfInBounds (B0 + i) (arrV (aC 20) q.2.1 (ev_fv b B0 σ z)))[B0 + i]? = some (arrV (aC 20) q.2.1 (ev_fv b B0 σ z)) := by simp [Array.getElem?_setIfInBounds, hlt]
          have hzz : (H.setIfInBounds (B0 + i) (arrV (aC 20) q.2.1 (ev_fv b B0 σ z))).size = H.size := by simp
          obtain ⟨t, a1, b1⟩ := hk _ _ _ _ h _ _ ls hl (ev_J_set hJ hq hx9 (Or.inr (Or.inr ⟨by show 20 ≤ q.1; omega, by show q.1 ≤ 25; omega, by rw [hself, k1]⟩)) hzz oq)
            ⟨by rw [hzz]; exact hS.1, fun y g1 g2 => by
              rw [oq y (fun e => g2 (by rw [e]; exact Nat.le_add_right _ _))]
              exact hS.2.1 y g1 g2, fun y hy => by
              rcases List.mem_append.mp hy with h | h
              · exact hS.2.2 y h
              · obtain ⟨z, -, hz⟩ := List.mem_map.mp h
                rw [← hz]
                exact Nat.le_add_right _ _⟩ _ hheap X'
          exact ⟨t, step t a1, b1⟩
        · cases h
      · cases h
    · cases h
  · cases h
end EVY
end
section
/-! ===== the evaluator is right: a run of it is a run of the machine (own work) ===== -/
section EVZ
variable {D : va_G} {aC : Nat → ClassId} {b B0 L : Nat} {σ : Nat → Int32}
variable {p : Program} {l : Launch} {e : Env} {R : Room} {s : State} {m : MethodId} {args : Array Value} {below : List Frame} {meth : Method} {c : Code} {Q : State → Prop}
variable {cc : ByteArray} {nL : Nat} {Ts : List Cond} {own : String} {Sg : List (String × (Nat × String))}
variable {Φ : ev_P} {M : ev_M} {k : ev_N} {cl : ev_F} {nx a b' c' pc : Nat} {tg : List Nat} {loc : ev_L} {st : List ev_V} {w : ev_W} {r : ev_S}
variable {I : Nat → ev_Im} {P : Nat → ev_M}
/-- an exception leaves this frame well -/
def ev_Out (D : va_G) (aC : Nat → ClassId) (b B0 : Nat) (σ : Nat → Int32) (p : Program) (l : Launch) (e : Env) (R : Room) (s : State) (m : MethodId) (args : Array Value) (below : List Frame) (meth : Method) (c : Code) (Q : State → Prop) (own : String) (M : ev_M) (r : ev_S) : Prop :=
  ∀ (E : Nat) (w : ev_W) (H : Heap) (locs : List Loc) (ls : Array Slot) (rest : List Value) (pc q : Nat) (ce : Cell), E < 4 → r = .inr (.inl (E, w)) → ev_may M w 0 0 = true → ev_J D aC b B0 σ w H → va_S (fun q => B0 ≤ q) s.heap H locs →
    (∀ z ∈ c.exceptionTable.toList, covers z pc = false ∨ (z.catchType ≠ 0 ∧ ∃ nm : String, (Cond.classLink own z.catchType nm).before args s = true ∧ va_Nc (ev_ex E) nm s)) → H[q]? = some ce → ce.vm = .none → s.vm.findClass (ev_ex E) = some ce.cls →
    vx_W p l e R s m args below meth c H locs w.2.2.2.1 w.2.2.2.2 Q (F0 m pc ls rest) q
theorem ev_exc_ok {hh : List (Nat × Nat × Nat × Nat)} {E : Nat} {H : Heap} {locs : List Loc} {ls : Array Slot} {rest : List Value} {q : Nat} {ce : Cell} (hF : ev_Fx D aC b B0 L σ p s m args meth c cc nL Ts own Sg) (hcast : ∀ i, i < 4 → Cond.castable (ev_ex i) (ev_ex i) ∈ lw_tbl)
    (hk : ∀ pc loc st w, k pc loc st w = some r → ev_Go D aC b B0 σ p l e R s m args below meth c Q nL pc loc st w) (hst : ∀ pc nx a tg, (M.2.2.2.2 pc) = (10, (nx, (a, tg))) → ev_i_st cc nL pc nx a .astore .astore_n) (hh9 : ev_hok own Ts hh M.2.2.2.1) (hT : c.exceptionTable.toList = tableOf hh)
    (hOut : ev_Out D aC b B0 σ p l e R s m args below meth c Q own M r) (h : ev_exc M k pc E loc w = some r) (hE : E < 4) (hl : ev_lh b B0 σ nL loc ls) (hJ : ev_J D aC b B0 σ w H) (hS : va_S (fun q => B0 ≤ q) s.heap H locs) (hq : H[q]? = some ce) (hv : ce.vm = .none) (hcl : s.vm.findClass (ev_ex E) = some ce.cls) :
    vx_W p l e R s m args below meth c H locs w.2.2.2.1 w.2.2.2.2 Q (F0 m pc ls rest) q := by
  obtain ⟨hx, hb, hml, ho, ht, hV, -⟩ := id hF
  obtain ⟨cn, e1, e2⟩ := hh9
  obtain ⟨f1, f2⟩ := ev_hd_ok (cn := cn) (E := E) (pc := pc) hE ht hV hh e2
  unfold ev_exc at h
  rw [e1] at h
  split at h
  · next hn =>
    obtain ⟨h1, h⟩ := ev_if_n h
    exact hOut E w H locs ls rest pc q ce hE (Option.some.inj h).symm h1 hJ hS (by rw [hT]; exact f1 hn) hq hv hcl
  · next hp hn =>
    split at h
    next op nx9 a9 tg9 hcode =>
    obtain ⟨h1, h9⟩ := ev_if_n h
    rw [Bool.and_eq_true] at h1
    have hop := Nat.eq_of_beq_eq_true h1.1
    subst hop
    obtain ⟨hi, ha⟩ := hst hp nx9 a9 tg9 hcode
    obtain ⟨pre, x, suf, g1, g2, g3, g4, g5, g6⟩ := f2 hp hn
    refine vx_catch ho pre x suf (by rw [hT]; exact g1) g2 g3 g4 g5 (va_Nw.use rfl (hV.2.1 _ (hcast E hE) rfl)) hq hv hcl ?_
    rw [g6]
    have go : ∀ ls' : Array Slot, lv_has ls' nL ((a9, Value.ref q) :: (ev_ll b B0 σ loc).filter (fun q => !(q.1 == a9) && !(q.1 + 1 == a9 && q.2.category == 2))) → W p l e R s m args below meth c H locs w.2.2.2.1 w.2.2.2.2 Q (F0 m nx9 ls' []) :=
      fun ls' h' => hk _ _ _ _ h9 H locs ls' (ev_lh_st1 (o := none) h1.2 (fun v' e' => by cases e') h') hJ hS
    rcases hi with ⟨d, rfl⟩ | ⟨n, d, hn, rfl⟩
    · exact lv_astore hx hb d (ev_lh_has hl) ha rfl go
    · exact lv_astore_n hx hb d hn (ev_lh_has hl) ha rfl go
theorem ev_rc_ok {ci : Nat} {As : List ev_V} (h : ev_rc (ci + 1) As w = true) : ∃ i As' q, As = .inr (.inl (some i)) :: As' ∧ ev_get w.1 i = some q ∧ q.1 = ci := by
  match As, h with
  | .inr (.inl (some i)) :: As', h =>
    have h : (match ev_get w.1 i with
      | some q => Nat.beq q.1 ci
      | none => false) = true := h
    cases hq : ev_get w.1 i with
    | none => rw [hq] at h; cases h
    | some q => rw [hq] at h; exact ⟨i, As', q, rfl, hq, Nat.eq_of_beq_eq_true h⟩
  | [], h => exact absurd h (fun z => by cases z)
  | .inl _ :: _, h => exact absurd h (fun z => by cases z)
  | .inr (.inl none) :: _, h => exact absurd h (fun z => by cases z)
  | .inr (.inr _) :: _, h => exact absurd h (fun z => by cases z)
theorem ev_uw {x : Cond} (h : x ∈ ev_UW) : x ∈ lw_tbl ∧ goodWord x = true := List.mem_filter.mp h
theorem ev_good {ws : List Cond} (hTs : ∀ x ∈ ev_UW, x ∈ Ts) (h : ∀ x ∈ ws, x ∈ ev_UW) : GoodIn Ts ws := fun x hx => ⟨hTs x (h x hx), good_of_word (ev_uw (h x hx)).2⟩
theorem ev_wm_in {x : ev_Im} {n : Nat} (h : ev_cw x n ∈ ev_UW) : ∀ y ∈ ev_wm x n, y ∈ ev_UW := fun y hy => by
  rcases List.mem_cons.mp hy with rfl | hy
  · exact h
  · exact hy
theorem ev_o_call {hh : List (Nat × Nat × Nat × Nat)} {d : Nat} (hF : ev_Fx D aC b B0 L σ p s m args meth c cc nL Ts own Sg) (hcast : ∀ i, i < 4 → Cond.castable (ev_ex i) (ev_ex i) ∈ lw_tbl) (hTs : ∀ x ∈ ev_UW, x ∈ Ts) (hR : 11 + d ≤ R.frames ∧ 170 + 70 * d ≤ R.locals) (hMR : M.2.1 ≤ R.cells ∧ M.2.2.1 ≤ R.slots)
    (hk : ∀ pc loc st w, k pc loc st w = some r → ev_Go D aC b B0 σ p l e R s m args below meth c Q nL pc loc st w) (hst : ∀ pc nx a tg, (M.2.2.2.2 pc) = (10, (nx, (a, tg))) → ev_i_st cc nL pc nx a .astore .astore_n) (hh9 : ev_hok own Ts hh M.2.2.2.1) (hT : c.exceptionTable.toList = tableOf hh)
    (hOut : ev_Out D aC b B0 σ p l e R s m args below meth c Q own M r)
    (hM : ∀ (As : List ev_V) (w : ev_W) (r2 : ev_S), cl a As w = some r2 → As.length ≤ (P a).1 → As.all (fun v => !ev_wide v) = true → w.2.2.2 = (0, 0) → vx_Met l (I a).1 (ev_wm (I a) (P a).1) (ev_rm d (P a).2.1 (P a).2.2.1) (ev_Pc D aC b B0 L σ Sg As w) (ev_Qc D aC b B0 σ r2) (ev_Xc D aC b B0 σ r2) (P a).2.1 (P a).2.2.1 (fun q => B0 ≤ q))
    (h : ev_h_call Φ M k cl nx a b' c' tg pc loc st w = some r) (hi : ev_i_call I P cc own pc nx a b' c' tg) : ev_Go D aC b B0 σ p l e R s m args below meth c Q nL pc loc st w := by
  obtain ⟨hx, hb, hml, ho, ht, hV, hZ, hbB, hB, hlk⟩ := id hF
  obtain ⟨ix, n, rfl, rfl, hm51, hbP, hcw, hini, hnm, hown9, hi⟩ := hi
  unfold ev_h_call at h
  split at h
  · next As rr hsp =>
    obtain ⟨tk, t1, t2, t3⟩ := ev_sp_ok _ _ _ _ _ hsp
    rw [List.append_nil] at t3
    have h : ev_if (Nat.ble (ev_cs rr) 8 && (ev_may M w (P a).2.1 (P a).2.2.1 && As.all (fun v => !ev_wide v))) (ev_if (ev_rc c' As w) (ev_cont M k (pc + 3) pc loc rr w (P a).2.1 (P a).2.2.1 (cl a As (w.1, (w.2.1, (w.2.2.1, (0, 0)))))) none) none = some r := h
    obtain ⟨h1, h⟩ := ev_if_n h
    obtain ⟨h2, h⟩ := ev_if_n h
    rw [Bool.and_eq_true, Bool.and_eq_true] at h1
    have k1 := Nat.le_of_ble_eq_true h1.1
    have k2 := ev_cs_ok (b := b) (B0 := B0) (σ := σ) rr
    have k3 := ev_may_ok h1.2.1 hMR
    obtain ⟨r2, hr2⟩ : ∃ r2, cl a As (w.1, (w.2.1, (w.2.2.1, (0, 0)))) = some r2 := by
      cases hc : cl a As (w.1, (w.2.1, (w.2.2.1, (0, 0)))) with
      | none => rw [hc] at h; cases h
      | some r2 => exact ⟨r2, rfl⟩
    rw [hr2] at h
    have hlen : As.length = b' := by rw [t3, List.length_reverse, t2]
    have hMet := hM As _ r2 hr2 (by rw [hlen]; exact hbP) h1.2.2 rfl
    intro H locs ls hl hJ hS
    have hPc : ∀ U : State, U.heap = H → s.WarmedH U.vm → ev_Pc D aC b B0 L σ Sg As (w.1, (w.2.1, (w.2.2.1, (0, 0)))) (As.map (ev_dn b B0 σ)).toArray U := fun U hU hW =>
      ⟨rfl, by rw [hU]; exact hJ, ev_VF_warm hW hV, by rw [hU]; exact ev_ZF_to hbB hW.alike hZ hS, hbB, by rw [hU]; exact Nat.le_trans (Nat.le_add_right _ _) hJ.2.1⟩
    have hret : ∀ vo w2 (H1 : Heap) (locs1 : List Loc), r2 = .inl (vo, w2) → ev_J D aC b B0 σ w2 H1 → va_S (fun q => B0 ≤ q) s.heap H1 locs1 → W p l e R s m args below meth c H1 locs1 (w.2.2.2.1 + (P a).2.1) (w.2.2.2.2 + (P a).2.2.1) Q (F0 m (pc + 3) ls ((vo.map (ev_dn b B0 σ)).toList ++ rr.map (ev_dn b B0 σ))) := by
      intro vo w2 H1 locs1 e1 g1 g2
      subst e1
      cases vo with
      | none => exact hk _ _ _ _ h H1 locs1 ls hl g1 g2
      | some v => exact hk _ _ _ _ h H1 locs1 ls hl g1 g2
    have hthr : ∀ n w2 (H1 : Heap) (locs1 : List Loc) (q : Nat) (ce : Cell), r2 = .inr (.inl (n, w2)) → n < 4 → ev_J D aC b B0 σ w2 H1 → va_S (fun q => B0 ≤ q) s.heap H1 locs1 → H1[q]? = some ce → ce.vm = .none → s.vm.findClass (ev_ex n) = some ce.cls → vx_W p l e R s m args below meth c H1 locs1 (w.2.2.2.1 + (P a).2.1) (w.2.2.2.2 + (P a).2.2.1) Q (F0 m pc ls (rr.map (ev_dn b B0 σ))) q := by
      intro n w2 H1 locs1 q ce e1 hn4 g1 g2 g3 g4 g5
      subst e1
      exact ev_exc_ok (w := ev_back w w2 (P a).2.1 (P a).2.2.1) hF hcast hk hst hh9 hT hOut h hn4 hl g1 g2 g3 g4 g5
    have hstack : st.map (ev_dn b B0 σ) = (As.map (ev_dn b B0 σ)).reverse ++ rr.map (ev_dn b B0 σ) := by
      rw [t1, t3, List.map_append, List.map_reverse, List.reverse_reverse]
    have hW9 : 2 * (F0 m pc ls (st.map (ev_dn b B0 σ))).monitorRoom + ((rr.map (ev_dn b B0 σ)).map fun v => v.category).sum ≤ 8 := by
      show 2 * 0 + _ ≤ 8
      omega
    have hGood : GoodIn Ts (ev_wm (I a) (P a).1) := ev_good hTs (ev_wm_in hcw)
    have hroom : (ev_rm d (P a).2.1 (P a).2.2.1).frames + 1 ≤ R.frames ∧ 8 + ((P a).1 + 11) + (ev_rm d (P a).2.1 (P a).2.2.1).locals ≤ R.locals := by
      show 10 + d + 1 ≤ _ ∧ 8 + ((P a).1 + 11) + (100 + 70 * d) ≤ _
      omega
    have hsize : ls.size = nL := hl.1
    have hini9 := ht _ (hTs _ hini)
    have hfix : CallFix p m c cc nL s args Ts own := ⟨hx, hb, hml, ho, ht⟩
    have hrecv : ∀ ci rr9, c' = ci + 1 → vwCl[ci]? = some rr9 → ∃ i As', As = .inr (.inl (some i)) :: As' ∧ i < 1000000 ∧ ∃ cell : Cell, H[B0 + i]? = some cell ∧ cell.cls = D.1 ci ∧ cell.vm = .none := by
      intro ci rr9 e1 e2
      subst e1
      obtain ⟨i, As', q, rfl, hq, e3⟩ := ev_rc_ok h2
      subst e3
      obtain ⟨g1, cell, g2, g3, g4, -⟩ := ev_J_obj hJ hq e2
      exact ⟨i, As', rfl, g1, cell, g2, g3, g4⟩
    have e1 : ∀ {n : Nat}, n < 1000000 → ev_dn b B0 σ (.inr (.inl (some n))) = .ref (B0 + n) := fun hn => by
      show Value.ref _ = _
      rw [ev_ad_w hn]
    have hparam : ∀ sig, parseMethodDescriptor (I a).1.desc = some sig → n = sig.parameters.length := fun sig h9 => by
      have h8 := hnm.2.2
      rw [h9] at h8
      exact (Option.some.inj h8).symm
    rcases hi with ⟨dd, hb1, ⟨ci, rr9, hc1, hci, hcn⟩, hhe, w1, w2, w3⟩ | ⟨dd, hb1, hc1, w1, w2⟩ | ⟨dd, hb1, ⟨ci, rr9, hc1, hci⟩, hhe, hn1, hn2, w2, w1⟩
    · obtain ⟨i, As', rfl, hi6, cell, g2, g3, g4⟩ := hrecv ci rr9 hc1 hci
      have hlen' : As'.length = n := by
        have := hlen
        rw [List.length_cons] at this
        omega
      have hcw9 : ev_wm (I a) (P a).1 = Cond.code (I a).1 (I a).2.1 (P a).1 (I a).2.2.1 :: ev_UW := by
        unfold ev_wm ev_cw
        rw [hhe]
      have hfc : s.vm.findClass (I a).1.cls = some cell.cls := by
        rw [g3, ← hcn]
        exact (hV.1.1 ci _ hci).2.1
      have hrun := vx_runV (R := R) (l := l) (e := e) (below := below) (meth := meth) (H := H) (locs := locs) (cells := w.2.2.2.1) (slots := w.2.2.2.2) (g := F0 m pc ls (st.map (ev_dn b B0 σ))) (As := As'.map (ev_dn b B0 σ)) (rest := rr.map (ev_dn b B0 σ)) (b := B0 + i) (C := (I a).1.cls) (index := ix) (n := n) (bytes := (I a).2.1) (maxL := (P a).1) (ret := (I a).2.2.1) hfix hMet
        ⟨callB_of n ht hGood hcw9 rfl rfl hini9 (ht _ (hTs _ w1)) hnm hroom, ht _ (hTs _ w2), ht _ (hTs _ w3)⟩
        ⟨ev_Pc_blind, ⟨cell, g2, by rw [g4]; rfl, hfc⟩, fun U hU hW => by
          have := hPc U hU hW
          rw [List.map_cons, e1 hi6] at this
          exact this⟩ rfl (by rw [List.length_map]; exact hlen') hsize (by
          show st.map (ev_dn b B0 σ) = _
          rw [hstack, List.map_cons, e1 hi6, List.reverse_cons, List.append_assoc]
          rfl) hW9 dd k3
      exact ev_call_end hS hrun hret hthr
    · have hlen' : As.length = n := hlen.trans hb1
      by_cases hhe : (I a).2.2.2 = []
      · have hcw9 : ev_wm (I a) (P a).1 = Cond.code (I a).1 (I a).2.1 (P a).1 (I a).2.2.1 :: ev_UW := by
          unfold ev_wm ev_cw
          rw [hhe]
        have hrun := vx_runS (R := R) (l := l) (e := e) (below := below) (meth := meth) (H := H) (locs := locs) (cells := w.2.2.2.1) (slots := w.2.2.2.2) (g := F0 m pc ls (st.map (ev_dn b B0 σ))) (As := As.map (ev_dn b B0 σ)) (rest := rr.map (ev_dn b B0 σ)) (index := ix) (n := n) (bytes := (I a).2.1) (maxL := (P a).1) (ret := (I a).2.2.1) hfix hMet
          ⟨callB_of n ht hGood hcw9 rfl rfl hini9 (ht _ (hTs _ w1)) hnm hroom, ht _ (hTs _ w2)⟩
          ⟨ev_Pc_blind, hPc⟩ rfl (by rw [List.length_map]; exact hlen') hsize hstack hW9 dd k3
        exact ev_call_end hS hrun hret hthr
      · obtain ⟨q9, t9, hq9⟩ : ∃ q t, (I a).2.2.2 = q :: t := by
          cases hz : (I a).2.2.2 with
          | nil => exact absurd hz hhe
          | cons q t => exact ⟨q, t, rfl⟩
        have hcw9 : ev_wm (I a) (P a).1 = Cond.codeWith (I a).1 (I a).2.1 (P a).1 (I a).2.2.1 (q9 :: t9) :: ev_UW := by
          unfold ev_wm ev_cw
          rw [hq9]
        have hc9 : Cond.codeWith (I a).1 (I a).2.1 (P a).1 (I a).2.2.1 (q9 :: t9) ∈ ev_wm (I a) (P a).1 := by rw [hcw9]; exact List.mem_cons_self
        have hrun := vx_runSX (R := R) (l := l) (e := e) (below := below) (meth := meth) (H := H) (locs := locs) (cells := w.2.2.2.1) (slots := w.2.2.2.2) (g := F0 m pc ls (st.map (ev_dn b B0 σ))) (As := As.map (ev_dn b B0 σ)) (rest := rr.map (ev_dn b B0 σ)) (index := ix) (n := n) (bytes := (I a).2.1) (maxL := (P a).1) (ret := (I a).2.2.1) (hh := q9 :: t9) hfix hMet
          ⟨⟨rfl, rfl, hroom.1, hroom.2, pay_in ht hGood, hc9⟩, ht _ (hGood _ hc9).1, hini9, ⟨hnm.1, hnm.2.1⟩, hparam, ht _ (hTs _ w1), ht _ (hTs _ w2)⟩
          ⟨ev_Pc_blind, hPc⟩ rfl (by rw [List.length_map]; exact hlen') hsize hstack hW9 dd k3
        exact ev_call_end hS hrun hret hthr
    · obtain ⟨i, As', rfl, hi6, cell, g2, g3, g4⟩ := hrecv ci rr9 hc1 hci
      have hlen' : As'.length = n := by
        have := hlen
        rw [List.length_cons] at this
        omega
      have hcw9 : ev_wm (I a) (P a).1 = Cond.code (I a).1 (I a).2.1 (P a).1 none :: ev_UW := by
        unfold ev_wm ev_cw
        rw [hhe, hn2]
      have hpre : PreS s H (ev_Pc D aC b B0 L σ Sg (.inr (.inl (some i)) :: As') (w.1, (w.2.1, (w.2.2.1, (0, 0))))) (.ref (B0 + i) :: As'.map (ev_dn b B0 σ)) := ⟨ev_Pc_blind, fun U hU hW => by
          have := hPc U hU hW
          rw [List.map_cons, e1 hi6] at this
          exact this⟩
      have hst9 : (F0 m pc ls (st.map (ev_dn b B0 σ))).stack = (As'.map (ev_dn b B0 σ)).reverse ++ .ref (B0 + i) :: rr.map (ev_dn b B0 σ) := by
        show st.map (ev_dn b B0 σ) = _
        rw [hstack, List.map_cons, e1 hi6, List.reverse_cons, List.append_assoc]
        rfl
      rcases w1 with w1 | ⟨host, w1⟩
      · have hrun := vx_runI (R := R) (l := l) (e := e) (below := below) (meth := meth) (H := H) (locs := locs) (cells := w.2.2.2.1) (slots := w.2.2.2.2) (g := F0 m pc ls (st.map (ev_dn b B0 σ))) (As := As'.map (ev_dn b B0 σ)) (rest := rr.map (ev_dn b B0 σ)) (b := B0 + i) (index := ix) (n := n) (bytes := (I a).2.1) (maxL := (P a).1) hfix hMet
          ⟨callB_of n ht hGood hcw9 rfl rfl hini9 (ht _ (hTs _ w1)) hnm hroom, hn1, ht _ (hTs _ w2)⟩ hpre rfl (by rw [List.length_map]; exact hlen') hsize hst9 hW9 dd k3
        exact ev_call_end hS hrun hret hthr
      · have hrun := vx_runIN (R := R) (l := l) (e := e) (below := below) (meth := meth) (H := H) (locs := locs) (cells := w.2.2.2.1) (slots := w.2.2.2.2) (g := F0 m pc ls (st.map (ev_dn b B0 σ))) (As := As'.map (ev_dn b B0 σ)) (rest := rr.map (ev_dn b B0 σ)) (b := B0 + i) (index := ix) (n := n) (bytes := (I a).2.1) (maxL := (P a).1) (host := host) hfix hMet
          ⟨va_cnB n ht hGood hcw9 rfl rfl (hV.2.1 _ w1 rfl) hini9 hnm hroom, hn1, ht _ (hTs _ w2)⟩ hpre rfl (by rw [List.length_map]; exact hlen') hsize hst9 hW9 dd k3
        exact ev_call_end hS hrun hret hthr
  · cases h
end EVZ
end
section
/-! ===== runs of the evaluator, whole (own work) ===== -/
section EVW
variable {D : va_G} {aC : Nat → ClassId} {b B0 L : Nat} {σ : Nat → Int32}
variable {Φ : ev_P} {Sg : List (String × (Nat × String))} {I : Nat → ev_Im} {P : Nat → ev_M} {l : Launch}
/-- the answers and throws of a frame -/
def ev_Ret (I : Nat → ev_Im) (P : Nat → ev_M) (Sg : List (String × (Nat × String))) (Φ : ev_P) (D : va_G) (aC : Nat → ClassId) (b B0 : Nat) (σ : Nat → Int32) (p : Program) (l : Launch) (e : Env) (R : Room) (s : State) (m : MethodId) (args : Array Value) (below : List Frame) (meth : Method) (c : Code) (Q : State → Prop) (Ts : List Cond) (y : MethodName) (cc : ByteArray) (ret : Option FieldType) (nL : Nat) (M : ev_M) (r : ev_S) : Prop :=
  ∀ (op nx a b' c' : Nat) (tg : List Nat) (pc : Nat) (loc : ev_L) (st : List ev_V) (w : ev_W) (k : ev_N) (cl : ev_F), (op = 37 ∨ op = 38 ∨ op = 39 ∨ op = 40 ∨ op = 41 ∨ op = 46) → M.2.2.2.2 pc = (op, (nx, (a, (b', (c', tg))))) → ev_eok I P Sg Ts y cc ret nL pc op nx a b' c' tg → ev_sel op Φ M k cl nx a b' c' tg pc loc st w = some r →
    ev_Go D aC b B0 σ p l e R s m args below meth c Q nL pc loc st w
/-- a frame of the machine that follows the evaluator's method M with the end r -/
def ev_Fr (I : Nat → ev_Im) (P : Nat → ev_M) (Sg : List (String × (Nat × String))) (Φ : ev_P) (D : va_G) (aC : Nat → ClassId) (b B0 L : Nat) (σ : Nat → Int32) (p : Program) (l : Launch) (e : Env) (R : Room) (s : State) (m : MethodId) (args : Array Value) (below : List Frame) (meth : Method) (c : Code) (Q : State → Prop) (Ts : List Cond) (y : MethodName) (cc : ByteArray) (ret : Option FieldType) (hh : List (Nat × Nat × Nat × Nat)) (nL d : Nat) (M : ev_M) (r : ev_S) : Prop :=
  ev_Fx D aC b B0 L σ p s m args meth c cc nL Ts y.cls Sg ∧ (∀ x ∈ ev_UW, x ∈ Ts) ∧ ev_cok I P Sg Ts y cc ret nL M.2.2.2.2 ∧ meth.name = y.name ∧ ev_hok y.cls Ts hh M.2.2.2.1 ∧ c.exceptionTable.toList = tableOf hh ∧ (M.2.1 ≤ R.cells ∧ M.2.2.1 ≤ R.slots) ∧ (10 + d ≤ R.frames ∧ 100 + 70 * d ≤ R.locals) ∧
  ev_Ret I P Sg Φ D aC b B0 σ p l e R s m args below meth c Q Ts y cc ret nL M r ∧ ev_Out D aC b B0 σ p l e R s m args below meth c Q y.cls M r
/-- n steps of the evaluator are right, in any frame -/
def ev_Ok (I : Nat → ev_Im) (P : Nat → ev_M) (Sg : List (String × (Nat × String))) (Φ : ev_P) (D : va_G) (aC : Nat → ClassId) (b B0 L : Nat) (σ : Nat → Int32) (l : Launch) (n : Nat) : Prop :=
  ∀ (p : Program) (e : Env) (R : Room) (s : State) (m : MethodId) (args : Array Value) (below : List Frame) (meth : Method) (c : Code) (Q : State → Prop) (Ts : List Cond) (y : MethodName) (cc : ByteArray) (ret : Option FieldType) (hh : List (Nat × Nat × Nat × Nat)) (nL d : Nat) (M : ev_M) (r : ev_S),
    ev_Fr I P Sg Φ D aC b B0 L σ p l e R s m args below meth c Q Ts y cc ret hh nL d M r → ∀ pc loc st w, ev_run Φ P n d M pc loc st w = some r → ev_Go D aC b B0 σ p l e R s m args below meth c Q nL pc loc st w
theorem ev_args_in {vs : List Value} (h : ∀ v ∈ vs, v.category = 1) : ∀ (i k : Nat) (v : Value), vs[k]? = some v → (i + k, v) ∈ lv_args i vs := by
  induction vs with
  | nil => intro i k v hk; simp at hk
  | cons x t ih =>
    intro i k v hk
    have hx : ¬ x.category = 2 := by
      rw [h x List.mem_cons_self]
      decide
    show (i + k, v) ∈ (i, x) :: lv_args (if x.category = 2 then i + 2 else i + 1) t
    rw [if_neg hx]
    cases k with
    | zero =>
      have hk : some x = some v := hk
      cases hk
      exact List.mem_cons_self
    | succ k =>
      have hk : t[k]? = some v := by simpa using hk
      have := ih (fun v hv => h v (List.mem_cons_of_mem _ hv)) (i + 1) k v hk
      rw [show i + (k + 1) = i + 1 + k by omega]
      exact List.mem_cons_of_mem _ this
theorem ev_sl_len {vs : List Value} (h : ∀ v ∈ vs, v.category = 1) : (lg_sl vs).length = vs.length := by
  induction vs with
  | nil => rfl
  | cons x t ih =>
    have hx : ¬ x.category = 2 := by
      rw [h x List.mem_cons_self]
      decide
    unfold lg_sl at ih ⊢
    rw [List.flatMap_cons, if_neg hx, List.length_append, ih (fun v hv => h v (List.mem_cons_of_mem _ hv))]
    simp only [List.length_cons, List.length_nil]
    omega
theorem ev_entry {As : List ev_V} {nL : Nat} {ls : Array Slot} (hw : As.all (fun v => !ev_wide v) = true) (hn : As.length ≤ nL) (h : lv_has ls nL (lv_args 0 (As.map (ev_dn b B0 σ)))) : ev_lh b B0 σ nL (ev_loc nL As) ls := by
  have hc : ∀ v ∈ As.map (ev_dn b B0 σ), v.category = 1 := fun v hv => by
    obtain ⟨a, ha, rfl⟩ := List.mem_map.mp hv
    exact ev_dn_c (by simpa using List.all_eq_true.mp hw a ha)
  refine ⟨h.1, h.2.1, fun i v hi => ?_⟩
  rw [ev_lg_eq] at hi
  unfold ev_loc at hi
  by_cases hl : i < As.length
  · rw [List.getElem?_append_left (by rw [List.length_map]; exact hl), List.getElem?_map] at hi
    cases hv : As[i]? with
    | none => rw [hv] at hi; cases hi
    | some a =>
      rw [hv] at hi
      have hi : some (some a) = some (some v) := hi
      have e := Option.some.inj (Option.some.inj hi)
      subst e
      have := ev_args_in hc 0 i (ev_dn b B0 σ a) (by rw [List.getElem?_map, hv]; rfl)
      rw [Nat.zero_add] at this
      exact h.2.2 _ this
  · rw [List.getElem?_append_right (by rw [List.length_map]; omega), List.getElem?_replicate] at hi
    split at hi <;> cases hi
/-- a method's contract out of the evaluator's run of it -/
theorem ev_met {n : Nat} (ih : ev_Ok I P Sg Φ D aC b B0 L σ l n) (hP : ∀ i, ev_mok I P Sg i) (hl9 : l.stackTraces = false) {i d : Nat} {As : List ev_V} {w : ev_W} {r2 : ev_S} (hr : ev_run Φ P n d (P i) 0 (ev_loc (P i).1 As) [] w = some r2) (hn : As.length ≤ (P i).1) (hw : As.all (fun v => !ev_wide v) = true) (hw0 : w.2.2.2 = (0, 0)) :
    vx_Met l (I i).1 (ev_wm (I i) (P i).1) (ev_rm d (P i).2.1 (P i).2.2.1) (ev_Pc D aC b B0 L σ Sg As w) (ev_Qc D aC b B0 σ r2) (ev_Xc D aC b B0 σ r2) (P i).2.1 (P i).2.2.1 (fun q => B0 ≤ q) := by
  obtain ⟨hpl, hcok, hhok, hno, hno2⟩ := hP i
  have hc : ∀ v ∈ As.map (ev_dn b B0 σ), v.category = 1 := fun v hv => by
    obtain ⟨a, ha, rfl⟩ := List.mem_map.mp hv
    exact ev_dn_c (by simpa using List.all_eq_true.mp hw a ha)
  have main : ∀ (p : Program) (e : Env) (s : State) (m : MethodId) (args : Array Value) (below : List Frame) (meth : Method) (c : Code) (s₁ : State), BodyLoose p l (I i).1 (headSpec (ev_wm (I i) (P i).1) (ev_rm d (P i).2.1 (P i).2.2.1)) (I i).2.1 (P i).1 (I i).2.2.1 e s m args below meth c s₁ → c.maxLocals = (P i).1 → c.exceptionTable.toList = tableOf (I i).2.2.2 → ev_Pc D aC b B0 L σ Sg As w args s →
      W p l e (headSpec (ev_wm (I i) (P i).1) (ev_rm d (P i).2.1 (P i).2.2.1)).room s m args below meth c s.heap [] 0 0 (vx_MQ below (ev_Qc D aC b B0 σ r2) (ev_Xc D aC b B0 σ r2) args s (P i).2.1 (P i).2.2.1 (fun q => B0 ≤ q)) (entryFrame m args (P i).1) := by
    intro p e s m args below meth c s₁ B hml hT hv
    obtain ⟨rfl, hJ, hV, hZ, hbB, hB⟩ := hv
    have hF : ev_Fx D aC b B0 L σ p s m (As.map (ev_dn b B0 σ)).toArray meth c (I i).2.1 (P i).1 (ev_wm (I i) (P i).1) (I i).1.cls Sg :=
      ⟨B.exec, B.bytes, hml, findClass_of_methodNamed B.named, atoms_spec (ws := ev_wm (I i) (P i).1) B.pre, hV, hZ, hbB, hB, B.notSynchronized⟩
    have hname : meth.name = (I i).1.name := (name_of_methodNamed B.named B.method).1
    have hret : meth.sig.returnType = (I i).2.2.1 := B.returns
    have hl0 := lv_entry (As.map (ev_dn b B0 σ)) (n := (P i).1) (by rw [ev_sl_len hc, List.length_map]; exact hn)
    rw [lg_entry_eq]
    generalize (lg_sl (As.map (ev_dn b B0 σ)) ++ List.replicate ((P i).1 - (lg_sl (As.map (ev_dn b B0 σ))).length) Slot.unset).toArray = ls at hl0 ⊢
    have hl := ev_entry hw hn hl0
    have hR : (10 ≤ (ev_rm d (P i).2.1 (P i).2.2.1).frames ∧ 100 ≤ (ev_rm d (P i).2.1 (P i).2.2.1).locals) := ⟨Nat.le_add_right _ _, Nat.le_add_right _ _⟩
    have hMR : (P i).2.1 ≤ (ev_rm d (P i).2.1 (P i).2.2.1).cells ∧ (P i).2.2.1 ≤ (ev_rm d (P i).2.1 (P i).2.2.1).slots := ⟨Nat.le_refl _, Nat.le_refl _⟩
    have hRet : ev_Ret I P Sg Φ D aC b B0 σ p l e (ev_rm d (P i).2.1 (P i).2.2.1) s m (As.map (ev_dn b B0 σ)).toArray below meth c (vx_MQ below (ev_Qc D aC b B0 σ r2) (ev_Xc D aC b B0 σ r2) (As.map (ev_dn b B0 σ)).toArray s (P i).2.1 (P i).2.2.1 (fun q => B0 ≤ q)) (ev_wm (I i) (P i).1) (I i).1 (I i).2.1 (I i).2.2.1 (P i).1 (P i) r2 := by
      intro op nx a b' c' tg pc loc st w k cl hop hcode hok h
      rcases hop with rfl | rfl | rfl | rfl | rfl | rfl
      · have hh0 : (I i).2.2.2 = [] := by
          cases hz : (I i).2.2.2 with
          | nil => rfl
          | cons q t => exact absurd (by rw [hcode]) (hno (by rw [hz]; exact fun z => by cases z) pc)
        exact ev_o_throw hF hl9 hR hMR (fun x hx => by rw [hT, hh0] at hx; cases hx) rfl (show ev_h_throw Φ (P i) k cl nx a b' c' tg pc loc st w = some r2 from h) hok
      · exact ev_o_vret hF rfl (show ev_h_vret Φ (P i) k cl nx a b' c' tg pc loc st w = some r2 from h) ⟨hok.1, hret.trans hok.2⟩
      · refine ev_o_iret hF rfl (show ev_h_iret Φ (P i) k cl nx a b' c' tg pc loc st w = some r2 from h) ⟨hok.1, ?_⟩
        rw [hret]
        exact hok.2
      · refine ev_o_aret hF rfl (show ev_h_aret Φ (P i) k cl nx a b' c' tg pc loc st w = some r2 from h) ⟨hok.1, ?_⟩
        rw [hret]
        exact hok.2
      · refine ev_o_wret hF rfl (show ev_h_wret Φ (P i) k cl nx a b' c' tg pc loc st w = some r2 from h) ?_
        rw [hret]
        exact hok
      · exact absurd (by rw [hcode]) (hno2 pc)
    have hOut : ev_Out D aC b B0 σ p l e (ev_rm d (P i).2.1 (P i).2.2.1) s m (As.map (ev_dn b B0 σ)).toArray below meth c (vx_MQ below (ev_Qc D aC b B0 σ r2) (ev_Xc D aC b B0 σ r2) (As.map (ev_dn b B0 σ)).toArray s (P i).2.1 (P i).2.2.1 (fun q => B0 ≤ q)) (I i).1.cls (P i) r2 := by
      intro E w H locs ls rest pc q ce hE hr2 hmay hJ hS hpass hq hv hcl
      obtain ⟨m1, m2⟩ := ev_may0 hmay
      exact vx_outP hF.2.2.2.1 B.notSynchronized hpass hq hv hcl (fun t ht hv => ⟨E, w, hr2, rfl, hE, by rw [ht]; exact hJ, hS.F ht⟩) hS.2.2 m1 m2
    have go := ih p e (ev_rm d (P i).2.1 (P i).2.2.1) s m (As.map (ev_dn b B0 σ)).toArray below meth c _ (ev_wm (I i) (P i).1) (I i).1 (I i).2.1 (I i).2.2.1 (I i).2.2.2 (P i).1 d (P i) r2
      ⟨hF, fun x hx => List.mem_cons_of_mem _ hx, hcok, hname, hhok, hT, hMR, ⟨Nat.le_refl _, Nat.le_refl _⟩, hRet, hOut⟩ 0 (ev_loc (P i).1 As) [] w hr s.heap [] ls hl hJ va_S.rf
    rw [hw0] at go
    exact go
  cases hz : (I i).2.2.2 with
  | nil =>
    have hcw : ev_wm (I i) (P i).1 = Cond.code (I i).1 (I i).2.1 (P i).1 (I i).2.2.1 :: ev_UW := by
      unfold ev_wm ev_cw
      rw [hz]
    refine vx_ofW hpl hcw fun p e s m args below meth c s₁ B hml hT hv => main p e s m args below meth c s₁ B hml ?_ hv
    rw [hz]
    cases ht : c.exceptionTable.toList with
    | nil => rfl
    | cons x t => exact (hT x (by rw [ht]; exact List.mem_cons_self)).elim
  | cons q t =>
    have hcw : ev_wm (I i) (P i).1 = Cond.codeWith (I i).1 (I i).2.1 (P i).1 (I i).2.2.1 (q :: t) :: ev_UW := by
      unfold ev_wm ev_cw
      rw [hz]
    refine vx_ofWH hpl hcw fun p e s m args below meth c s₁ B hml hv => main p e s m args below meth c s₁ B hml ?_ hv
    rw [hz]
    exact vx_table (x := (I i).1) B (atoms_spec (ws := ev_wm (I i) (P i).1) B.pre _ (by rw [hcw]; exact List.mem_cons_self))
theorem ev_exec_eq (Φ : ev_P) (M : ev_M) (k : ev_N) (cl : ev_F) (x : ev_E) (pc : Nat) (loc : ev_L) (st : List ev_V) (w : ev_W) : ev_exec Φ M k cl x pc loc st w = ev_sel x.1 Φ M k cl x.2.1 x.2.2.1 x.2.2.2.1 x.2.2.2.2.1 x.2.2.2.2.2 pc loc st w := rfl
theorem ev_call_none {M : ev_M} {k : ev_N} {cl : ev_F} {nx a b' c' pc : Nat} {tg : List Nat} {loc : ev_L} {st : List ev_V} {w : ev_W} {r : ev_S} (hcl : ∀ a As w, cl a As w = none) (h : ev_h_call Φ M k cl nx a b' c' tg pc loc st w = some r) : False := by
  unfold ev_h_call at h
  split at h
  · split at h
    · obtain ⟨h1, h⟩ := ev_if_n h
      obtain ⟨h2, h⟩ := ev_if_n h
      rw [hcl] at h
      cases h
    · cases h
  · cases h
theorem ev_main (hP : ∀ i, ev_mok I P Sg i) (hl9 : l.stackTraces = false) (hcast : ∀ i, i < 4 → Cond.castable (ev_ex i) (ev_ex i) ∈ lw_tbl) (hΦ : ev_FO Φ σ) (hL : Φ.1 = L) : ∀ n, ev_Ok I P Sg Φ D aC b B0 L σ l n := by
  intro n
  induction n with
  | zero => exact fun p e R s m args below meth c Q Ts y cc ret hh nL d M r _ pc loc st w h => absurd h (fun z => by cases z)
  | succ n ih =>
    intro p e R s m args below meth c Q Ts y cc ret hh nL d M r hFr pc loc st w h
    obtain ⟨hF, hTs, hcok, hname, hhok, hT, hMR, hRd, hRet, hOut⟩ := id hFr
    have hk : ∀ pc loc st w, ev_run Φ P n d M pc loc st w = some r → ev_Go D aC b B0 σ p l e R s m args below meth c Q nL pc loc st w := ih p e R s m args below meth c Q Ts y cc ret hh nL d M r hFr
    have h : ev_exec Φ M (ev_run Φ P n d M) (fun mi As w => Nat.rec (motive := fun _ => ev_R) none (fun d' _ => ev_run Φ P n d' (P mi) 0 (ev_loc (P mi).1 As) [] w) d) (M.2.2.2.2 pc) pc loc st w = some r := h
    rw [ev_exec_eq] at h
    have hst : ∀ pc nx a tg, (M.2.2.2.2 pc) = (10, (nx, (a, tg))) → ev_i_st cc nL pc nx a .astore .astore_n := fun pc nx a tg hc => by
      have := hcok pc
      rw [hc] at this
      exact this
    have hok := hcok pc
    have hR1 : 1 ≤ R.frames ∧ 100 ≤ R.locals := ⟨by omega, by omega⟩
    generalize hx : M.2.2.2.2 pc = x at h hok
    obtain ⟨op, nx, a, b', c', tg⟩ := x
    dsimp only at h hok
    match op, h, hok, hx with
    | 0, h, _, _ => exact absurd h (fun z => by cases z)
    | 1, h, hok, _ => exact ev_o_int hF hk (show ev_h_int Φ M (ev_run Φ P n d M) (fun mi As w => Nat.rec (motive := fun _ => ev_R) none (fun d' _ => ev_run Φ P n d' (P mi) 0 (ev_loc (P mi).1 As) [] w) d) nx a b' c' tg pc loc st w = some r from h) hok
    | 2, h, hok, _ => exact ev_o_null hF hk (show ev_h_null Φ M (ev_run Φ P n d M) (fun mi As w => Nat.rec (motive := fun _ => ev_R) none (fun d' _ => ev_run Φ P n d' (P mi) 0 (ev_loc (P mi).1 As) [] w) d) nx a b' c' tg pc loc st w = some r from h) hok
    | 3, h, hok, _ => exact ev_o_wide hF hk (show ev_h_wide Φ M (ev_run Φ P n d M) (fun mi As w => Nat.rec (motive := fun _ => ev_R) none (fun d' _ => ev_run Φ P n d' (P mi) 0 (ev_loc (P mi).1 As) [] w) d) nx a b' c' tg pc loc st w = some r from h) hok
    | 6, h, hok, _ => exact ev_o_iload hF hk (show ev_h_iload Φ M (ev_run Φ P n d M) (fun mi As w => Nat.rec (motive := fun _ => ev_R) none (fun d' _ => ev_run Φ P n d' (P mi) 0 (ev_loc (P mi).1 As) [] w) d) nx a b' c' tg pc loc st w = some r from h) hok
    | 7, h, hok, _ => exact ev_o_aload hF hk (show ev_h_aload Φ M (ev_run Φ P n d M) (fun mi As w => Nat.rec (motive := fun _ => ev_R) none (fun d' _ => ev_run Φ P n d' (P mi) 0 (ev_loc (P mi).1 As) [] w) d) nx a b' c' tg pc loc st w = some r from h) hok
    | 8, h, hok, _ => exact ev_o_dload hF hk (show ev_h_dload Φ M (ev_run Φ P n d M) (fun mi As w => Nat.rec (motive := fun _ => ev_R) none (fun d' _ => ev_run Φ P n d' (P mi) 0 (ev_loc (P mi).1 As) [] w) d) nx a b' c' tg pc loc st w = some r from h) hok
    | 9, h, hok, _ => exact ev_o_istore hF hk (show ev_h_istore Φ M (ev_run Φ P n d M) (fun mi As w => Nat.rec (motive := fun _ => ev_R) none (fun d' _ => ev_run Φ P n d' (P mi) 0 (ev_loc (P mi).1 As) [] w) d) nx a b' c' tg pc loc st w = some r from h) hok
    | 10, h, hok, _ => exact ev_o_astore hF hk (show ev_h_astore Φ M (ev_run Φ P n d M) (fun mi As w => Nat.rec (motive := fun _ => ev_R) none (fun d' _ => ev_run Φ P n d' (P mi) 0 (ev_loc (P mi).1 As) [] w) d) nx a b' c' tg pc loc st w = some r from h) hok
    | 11, h, hok, _ => exact ev_o_dstore hF hk (show ev_h_dstore Φ M (ev_run Φ P n d M) (fun mi As w => Nat.rec (motive := fun _ => ev_R) none (fun d' _ => ev_run Φ P n d' (P mi) 0 (ev_loc (P mi).1 As) [] w) d) nx a b' c' tg pc loc st w = some r from h) hok
    | 12, h, hok, _ => exact ev_o_iinc hF hk (show ev_h_iinc Φ M (ev_run Φ P n d M) (fun mi As w => Nat.rec (motive := fun _ => ev_R) none (fun d' _ => ev_run Φ P n d' (P mi) 0 (ev_loc (P mi).1 As) [] w) d) nx a b' c' tg pc loc st w = some r from h) hok
    | 13, h, hok, _ => exact ev_o_iadd hF hk (show ev_h_iadd Φ M (ev_run Φ P n d M) (fun mi As w => Nat.rec (motive := fun _ => ev_R) none (fun d' _ => ev_run Φ P n d' (P mi) 0 (ev_loc (P mi).1 As) [] w) d) nx a b' c' tg pc loc st w = some r from h) hok
    | 14, h, hok, _ => exact ev_o_isub hF hk (show ev_h_isub Φ M (ev_run Φ P n d M) (fun mi As w => Nat.rec (motive := fun _ => ev_R) none (fun d' _ => ev_run Φ P n d' (P mi) 0 (ev_loc (P mi).1 As) [] w) d) nx a b' c' tg pc loc st w = some r from h) hok
    | 15, h, hok, _ => exact ev_o_ibin hF hk (show ev_h_ibin Φ M (ev_run Φ P n d M) (fun mi As w => Nat.rec (motive := fun _ => ev_R) none (fun d' _ => ev_run Φ P n d' (P mi) 0 (ev_loc (P mi).1 As) [] w) d) nx a b' c' tg pc loc st w = some r from h) hok
    | 16, h, hok, _ => exact ev_o_if0 hF hΦ hk (show ev_h_if0 Φ M (ev_run Φ P n d M) (fun mi As w => Nat.rec (motive := fun _ => ev_R) none (fun d' _ => ev_run Φ P n d' (P mi) 0 (ev_loc (P mi).1 As) [] w) d) nx a b' c' tg pc loc st w = some r from h) hok
    | 17, h, hok, _ => exact ev_o_icmp hF hΦ hk (show ev_h_icmp Φ M (ev_run Φ P n d M) (fun mi As w => Nat.rec (motive := fun _ => ev_R) none (fun d' _ => ev_run Φ P n d' (P mi) 0 (ev_loc (P mi).1 As) [] w) d) nx a b' c' tg pc loc st w = some r from h) hok
    | 18, h, hok, _ => exact ev_o_acmp hF hk (show ev_h_acmp Φ M (ev_run Φ P n d M) (fun mi As w => Nat.rec (motive := fun _ => ev_R) none (fun d' _ => ev_run Φ P n d' (P mi) 0 (ev_loc (P mi).1 As) [] w) d) nx a b' c' tg pc loc st w = some r from h) hok
    | 19, h, hok, _ => exact ev_o_isnull hF hk (show ev_h_isnull Φ M (ev_run Φ P n d M) (fun mi As w => Nat.rec (motive := fun _ => ev_R) none (fun d' _ => ev_run Φ P n d' (P mi) 0 (ev_loc (P mi).1 As) [] w) d) nx a b' c' tg pc loc st w = some r from h) hok
    | 20, h, hok, _ => exact ev_o_goto hF hk (show ev_h_goto Φ M (ev_run Φ P n d M) (fun mi As w => Nat.rec (motive := fun _ => ev_R) none (fun d' _ => ev_run Φ P n d' (P mi) 0 (ev_loc (P mi).1 As) [] w) d) nx a b' c' tg pc loc st w = some r from h) hok
    | 21, h, hok, _ => exact ev_o_dup hF hk (show ev_h_dup Φ M (ev_run Φ P n d M) (fun mi As w => Nat.rec (motive := fun _ => ev_R) none (fun d' _ => ev_run Φ P n d' (P mi) 0 (ev_loc (P mi).1 As) [] w) d) nx a b' c' tg pc loc st w = some r from h) hok
    | 22, h, hok, _ => exact ev_o_dup2 hF hk (show ev_h_dup2 Φ M (ev_run Φ P n d M) (fun mi As w => Nat.rec (motive := fun _ => ev_R) none (fun d' _ => ev_run Φ P n d' (P mi) 0 (ev_loc (P mi).1 As) [] w) d) nx a b' c' tg pc loc st w = some r from h) hok
    | 23, h, hok, _ => exact ev_o_pop hF hk (show ev_h_pop Φ M (ev_run Φ P n d M) (fun mi As w => Nat.rec (motive := fun _ => ev_R) none (fun d' _ => ev_run Φ P n d' (P mi) 0 (ev_loc (P mi).1 As) [] w) d) nx a b' c' tg pc loc st w = some r from h) hok
    | 24, h, hok, _ => exact ev_o_getf hF hk (show ev_h_getf Φ M (ev_run Φ P n d M) (fun mi As w => Nat.rec (motive := fun _ => ev_R) none (fun d' _ => ev_run Φ P n d' (P mi) 0 (ev_loc (P mi).1 As) [] w) d) nx a b' c' tg pc loc st w = some r from h) hok
    | 25, h, hok, _ =>
      refine ev_o_putf hF hk (show ev_h_putf Φ M (ev_run Φ P n d M) (fun mi As w => Nat.rec (motive := fun _ => ev_R) none (fun d' _ => ev_run Φ P n d' (P mi) 0 (ev_loc (P mi).1 As) [] w) d) nx a b' c' tg pc loc st w = some r from h) ?_
      rw [hname]
      exact hok
    | 26, h, hok, _ => exact ev_o_alen hF hL hk (show ev_h_alen Φ M (ev_run Φ P n d M) (fun mi As w => Nat.rec (motive := fun _ => ev_R) none (fun d' _ => ev_run Φ P n d' (P mi) 0 (ev_loc (P mi).1 As) [] w) d) nx a b' c' tg pc loc st w = some r from h) hok
    | 27, h, hok, _ => exact ev_o_iald hF hL hk (show ev_h_iald Φ M (ev_run Φ P n d M) (fun mi As w => Nat.rec (motive := fun _ => ev_R) none (fun d' _ => ev_run Φ P n d' (P mi) 0 (ev_loc (P mi).1 As) [] w) d) nx a b' c' tg pc loc st w = some r from h) hok
    | 28, h, hok, _ => exact ev_o_iast hF hk (show ev_h_iast Φ M (ev_run Φ P n d M) (fun mi As w => Nat.rec (motive := fun _ => ev_R) none (fun d' _ => ev_run Φ P n d' (P mi) 0 (ev_loc (P mi).1 As) [] w) d) nx a b' c' tg pc loc st w = some r from h) hok
    | 29, h, hok, _ => exact ev_o_ald hF hk (show ev_h_ald Φ M (ev_run Φ P n d M) (fun mi As w => Nat.rec (motive := fun _ => ev_R) none (fun d' _ => ev_run Φ P n d' (P mi) 0 (ev_loc (P mi).1 As) [] w) d) nx a b' c' tg pc loc st w = some r from h) hok
    | 30, h, hok, _ => exact ev_o_bast hF hk (show ev_h_bast Φ M (ev_run Φ P n d M) (fun mi As w => Nat.rec (motive := fun _ => ev_R) none (fun d' _ => ev_run Φ P n d' (P mi) 0 (ev_loc (P mi).1 As) [] w) d) nx a b' c' tg pc loc st w = some r from h) hok
    | 31, h, hok, _ => exact ev_o_last hF hk (show ev_h_last Φ M (ev_run Φ P n d M) (fun mi As w => Nat.rec (motive := fun _ => ev_R) none (fun d' _ => ev_run Φ P n d' (P mi) 0 (ev_loc (P mi).1 As) [] w) d) nx a b' c' tg pc loc st w = some r from h) hok
    | 32, h, hok, _ => exact ev_o_aast hF hk (show ev_h_aast 3 5 Φ M (ev_run Φ P n d M) (fun mi As w => Nat.rec (motive := fun _ => ev_R) none (fun d' _ => ev_run Φ P n d' (P mi) 0 (ev_loc (P mi).1 As) [] w) d) nx a b' c' tg pc loc st w = some r from h) hok
    | 33, h, hok, _ => exact ev_o_new hF hMR hk (show ev_h_new Φ M (ev_run Φ P n d M) (fun mi As w => Nat.rec (motive := fun _ => ev_R) none (fun d' _ => ev_run Φ P n d' (P mi) 0 (ev_loc (P mi).1 As) [] w) d) nx a b' c' tg pc loc st w = some r from h) hok
    | 34, h, hok, _ => exact ev_o_newa hF hMR hk (show ev_h_newa Φ M (ev_run Φ P n d M) (fun mi As w => Nat.rec (motive := fun _ => ev_R) none (fun d' _ => ev_run Φ P n d' (P mi) 0 (ev_loc (P mi).1 As) [] w) d) nx a b' c' tg pc loc st w = some r from h) hok
    | 35, h, hok, _ =>
      cases d with
      | zero => exact (ev_call_none (fun _ _ _ => rfl) (show ev_h_call Φ M (ev_run Φ P n 0 M) (fun mi As w => Nat.rec (motive := fun _ => ev_R) none (fun d' _ => ev_run Φ P n d' (P mi) 0 (ev_loc (P mi).1 As) [] w) 0) nx a b' c' tg pc loc st w = some r from h)).elim
      | succ d =>
        exact ev_o_call (d := d) hF hcast hTs ⟨by omega, by omega⟩ hMR hk hst hhok hT hOut (fun As w r2 h2 h3 h4 h5 => ev_met ih hP hl9 h2 h3 h4 h5) (show ev_h_call Φ M (ev_run Φ P n (d + 1) M) (fun mi As w => Nat.rec (motive := fun _ => ev_R) none (fun d' _ => ev_run Φ P n d' (P mi) 0 (ev_loc (P mi).1 As) [] w) (d + 1)) nx a b' c' tg pc loc st w = some r from h) hok
    | 36, h, hok, _ => exact ev_o_objinit hF hR1 hk (show ev_h_objinit Φ M (ev_run Φ P n d M) (fun mi As w => Nat.rec (motive := fun _ => ev_R) none (fun d' _ => ev_run Φ P n d' (P mi) 0 (ev_loc (P mi).1 As) [] w) d) nx a b' c' tg pc loc st w = some r from h) hok
    | 37, h, hok, hx => exact hRet _ _ _ _ _ _ _ _ _ _ _ _ (Or.inl rfl) hx hok h
    | 38, h, hok, hx => exact hRet _ _ _ _ _ _ _ _ _ _ _ _ (Or.inr (Or.inl rfl)) hx hok h
    | 39, h, hok, hx => exact hRet _ _ _ _ _ _ _ _ _ _ _ _ (Or.inr (Or.inr (Or.inl rfl))) hx hok h
    | 40, h, hok, hx => exact hRet _ _ _ _ _ _ _ _ _ _ _ _ (Or.inr (Or.inr (Or.inr (Or.inl rfl)))) hx hok h
    | 41, h, hok, hx => exact hRet _ _ _ _ _ _ _ _ _ _ _ _ (Or.inr (Or.inr (Or.inr (Or.inr (Or.inl rfl))))) hx hok h
    | 42, h, hok, _ => exact ev_o_switch hF hΦ hk (show ev_h_switch Φ M (ev_run Φ P n d M) (fun mi As w => Nat.rec (motive := fun _ => ev_R) none (fun d' _ => ev_run Φ P n d' (P mi) 0 (ev_loc (P mi).1 As) [] w) d) nx a b' c' tg pc loc st w = some r from h) hok
    | 43, h, hok, _ => exact ev_o_cv hF hk (show ev_h_cv Φ M (ev_run Φ P n d M) (fun mi As w => Nat.rec (motive := fun _ => ev_R) none (fun d' _ => ev_run Φ P n d' (P mi) 0 (ev_loc (P mi).1 As) [] w) d) nx a b' c' tg pc loc st w = some r from h) hok
    | 44, h, hok, _ => exact ev_o_w2 hF hR1 hMR hk (show ev_h_w2 Φ M (ev_run Φ P n d M) (fun mi As w => Nat.rec (motive := fun _ => ev_R) none (fun d' _ => ev_run Φ P n d' (P mi) 0 (ev_loc (P mi).1 As) [] w) d) nx a b' c' tg pc loc st w = some r from h) hok
    | 45, h, hok, _ => exact ev_o_copy hF hR1 hk (show ev_h_copy Φ M (ev_run Φ P n d M) (fun mi As w => Nat.rec (motive := fun _ => ev_R) none (fun d' _ => ev_run Φ P n d' (P mi) 0 (ev_loc (P mi).1 As) [] w) d) nx a b' c' tg pc loc st w = some r from h) hok
    | 46, h, hok, hx => exact hRet _ _ _ _ _ _ _ _ _ _ _ _ (Or.inr (Or.inr (Or.inr (Or.inr (Or.inr rfl))))) hx hok h
    | 47, h, hok, _ => exact ev_o_idiv hF hk (show ev_h_idiv Φ M (ev_run Φ P n d M) (fun mi As w => Nat.rec (motive := fun _ => ev_R) none (fun d' _ => ev_run Φ P n d' (P mi) 0 (ev_loc (P mi).1 As) [] w) d) nx a b' c' tg pc loc st w = some r from h) hok
    | 48, h, hok, _ => exact ev_o_iand63 hF hk (show ev_h_iand63 Φ M (ev_run Φ P n d M) (fun mi As w => Nat.rec (motive := fun _ => ev_R) none (fun d' _ => ev_run Φ P n d' (P mi) 0 (ev_loc (P mi).1 As) [] w) d) nx a b' c' tg pc loc st w = some r from h) hok
    | 4, _, hok, _ => exact hok.elim
    | 5, _, hok, _ => exact hok.elim
    | k + 49, _, hok, _ => exact hok.elim
end EVW
end
section
/-! ===== the program: the methods that the runs reach, by program out of javap's listing and the Statement's words (own work: wip/p1/gen2.py) ===== -/
def pr_e0 : ev_E := (0, (0, (0, (0, (0, [])))))
noncomputable def pr_q (n : Nat) (x : ev_E) : Nat → ev_E := fun pc => Bool.rec (motive := fun _ => ev_E) pr_e0 x (Nat.beq pc n)
/-- OrphanTree.<init>()V -/
noncomputable def pr_c0 : Nat → ev_E := (ev_ct 37 (ev_ct 16 (ev_ct 8 (ev_ct 4 (ev_ct 1 (ev_ct 0 (pr_q 0 (7, (1, (0, (0, (0, [])))))) (pr_q 1 (36, (4, (0, (0, (0, []))))))) (pr_q 4 (7, (5, (0, (0, (0, []))))))) (ev_ct 5 (pr_q 5 (33, (8, (5, (10, (0, [1, 1, 1, 1, 0, 0, 0, 0, 0, 0])))))) (pr_q 8 (21, (9, (0, (0, (0, [])))))))) (ev_ct 12 (ev_ct 9 (pr_q 9 (35, (12, (269, (1, (6, [43, 653])))))) (pr_q 12 (25, (15, (6, (0, (2, []))))))) (ev_ct 15 (pr_q 15 (7, (16, (0, (0, (0, [])))))) (pr_q 16 (33, (19, (5, (10, (0, [1, 1, 1, 1, 0, 0, 0, 0, 0, 0]))))))))) (ev_ct 27 (ev_ct 23 (ev_ct 20 (ev_ct 19 (pr_q 19 (21, (20, (0, (0, (0, [])))))) (pr_q 20 (35, (23, (269, (1, (6, [43, 653]))))))) (pr_q 23 (25, (26, (6, (1, (2, []))))))) (ev_ct 26 (pr_q 26 (7, (27, (0, (0, (0, [])))))) (pr_q 27 (33, (30, (5, (10, (0, [1, 1, 1, 1, 0, 0, 0, 0, 0, 0])))))))) (ev_ct 31 (ev_ct 30 (pr_q 30 (21, (31, (0, (0, (0, [])))))) (pr_q 31 (35, (34, (269, (1, (6, [43, 653]))))))) (ev_ct 34 (pr_q 34 (25, (37, (6, (2, (2, [])))))) (pr_q 37 (7, (38, (0, (0, (0, [])))))))))) (ev_ct 56 (ev_ct 48 (ev_ct 42 (ev_ct 41 (ev_ct 38 (pr_q 38 (33, (41, (0, (3, (0, [1, 0, 0])))))) (pr_q 41 (21, (42, (0, (0, (0, []))))))) (pr_q 42 (35, (45, (218, (1, (1, [441, 6640]))))))) (ev_ct 45 (pr_q 45 (25, (48, (6, (3, (2, [])))))) (pr_q 48 (7, (49, (0, (0, (0, [])))))))) (ev_ct 52 (ev_ct 49 (pr_q 49 (33, (52, (4, (11, (0, [1, 1, 0, 0, 0, 0, 0, 0, 0, 0, 0])))))) (pr_q 52 (21, (53, (0, (0, (0, []))))))) (ev_ct 53 (pr_q 53 (35, (56, (249, (1, (5, [46, 1165])))))) (pr_q 56 (25, (59, (6, (4, (2, []))))))))) (ev_ct 67 (ev_ct 63 (ev_ct 60 (ev_ct 59 (pr_q 59 (7, (60, (0, (0, (0, [])))))) (pr_q 60 (33, (63, (2, (2, (0, [1, 0]))))))) (pr_q 63 (21, (64, (0, (0, (0, []))))))) (ev_ct 64 (pr_q 64 (35, (67, (224, (1, (3, [1, 300])))))) (pr_q 67 (25, (70, (6, (5, (2, [])))))))) (ev_ct 71 (ev_ct 70 (pr_q 70 (7, (71, (0, (0, (0, [])))))) (pr_q 71 (1, (72, (0, (0, (0, []))))))) (ev_ct 72 (pr_q 72 (25, (75, (6, (6, (1, [])))))) (pr_q 75 (38, (76, (0, (0, (0, [])))))))))))
def pr_y0 : MethodName := ⟨"OrphanTree", "<init>", "()V"⟩
def pr_i0 : ev_Im := (pr_y0, (prog_1_method_1_code, (none, [])))
noncomputable def pr_m0 : ev_M := (1, (623, (10110, ([], pr_c0))))
/-- OrphanTree.appendInput(IIIII)I -/
noncomputable def pr_c1 : Nat → ev_E := (ev_ct 31 (ev_ct 14 (ev_ct 7 (ev_ct 1 (ev_ct 0 (pr_q 0 (7, (1, (0, (0, (0, [])))))) (pr_q 1 (24, (4, (6, (4, (0, []))))))) (ev_ct 4 (pr_q 4 (24, (7, (4, (0, (0, [])))))) (pr_q 7 (10, (9, (6, (0, (0, [])))))))) (ev_ct 11 (ev_ct 9 (pr_q 9 (7, (11, (6, (0, (0, [])))))) (pr_q 11 (24, (14, (1, (1, (0, []))))))) (pr_q 14 (1, (16, (20, (0, (0, [])))))))) (ev_ct 25 (ev_ct 17 (ev_ct 16 (pr_q 16 (13, (17, (0, (0, (0, [])))))) (pr_q 17 (1, (20, (500, (0, (0, []))))))) (ev_ct 20 (pr_q 20 (17, (23, (2, (23, (25, [])))))) (pr_q 25 (7, (27, (6, (0, (0, [])))))))) (ev_ct 28 (ev_ct 27 (pr_q 27 (6, (28, (1, (0, (0, [])))))) (pr_q 28 (35, (31, (222, (2, (2, [0, 0]))))))) (pr_q 31 (7, (33, (6, (0, (0, []))))))))) (ev_ct 45 (ev_ct 39 (ev_ct 34 (ev_ct 33 (pr_q 33 (6, (34, (2, (0, (0, [])))))) (pr_q 34 (35, (37, (222, (2, (2, [0, 0]))))))) (ev_ct 37 (pr_q 37 (7, (39, (6, (0, (0, [])))))) (pr_q 39 (6, (40, (3, (0, (0, [])))))))) (ev_ct 43 (ev_ct 40 (pr_q 40 (35, (43, (222, (2, (2, [0, 0])))))) (pr_q 43 (7, (45, (6, (0, (0, []))))))) (pr_q 45 (6, (47, (4, (0, (0, [])))))))) (ev_ct 54 (ev_ct 50 (ev_ct 47 (pr_q 47 (35, (50, (222, (2, (2, [0, 0])))))) (pr_q 50 (7, (52, (6, (0, (0, []))))))) (ev_ct 52 (pr_q 52 (6, (54, (5, (0, (0, [])))))) (pr_q 54 (35, (57, (222, (2, (2, [0, 0])))))))) (ev_ct 59 (ev_ct 57 (pr_q 57 (7, (59, (6, (0, (0, [])))))) (pr_q 59 (24, (62, (1, (1, (0, []))))))) (pr_q 62 (39, (63, (0, (0, (0, []))))))))))
def pr_y1 : MethodName := ⟨"OrphanTree", "appendInput", "(IIIII)I"⟩
def pr_i1 : ev_Im := (pr_y1, (prog_1_method_2_code, ((some .int), [])))
noncomputable def pr_m1 : ev_M := (7, (0, (0, ([], pr_c1))))
/-- OrphanTree.truncateInput(I)Z -/
noncomputable def pr_c2 : Nat → ev_E := (ev_ct 18 (ev_ct 6 (ev_ct 4 (ev_ct 1 (ev_ct 0 (pr_q 0 (6, (1, (1, (0, (0, [])))))) (pr_q 1 (16, (4, (1, (18, (4, []))))))) (pr_q 4 (6, (5, (1, (0, (0, []))))))) (ev_ct 5 (pr_q 5 (7, (6, (0, (0, (0, [])))))) (pr_q 6 (24, (9, (6, (4, (0, [])))))))) (ev_ct 12 (ev_ct 9 (pr_q 9 (24, (12, (4, (0, (0, [])))))) (pr_q 12 (24, (15, (1, (1, (0, []))))))) (ev_ct 15 (pr_q 15 (17, (18, (2, (18, (20, [])))))) (pr_q 18 (1, (19, (0, (0, (0, []))))))))) (ev_ct 24 (ev_ct 20 (ev_ct 19 (pr_q 19 (39, (20, (1, (0, (0, [])))))) (pr_q 20 (7, (21, (0, (0, (0, []))))))) (ev_ct 21 (pr_q 21 (24, (24, (6, (4, (0, [])))))) (pr_q 24 (24, (27, (4, (0, (0, [])))))))) (ev_ct 28 (ev_ct 27 (pr_q 27 (6, (28, (1, (0, (0, [])))))) (pr_q 28 (25, (31, (1, (1, (0, []))))))) (ev_ct 31 (pr_q 31 (1, (32, (1, (0, (0, [])))))) (pr_q 32 (39, (33, (1, (0, (0, []))))))))))
def pr_y2 : MethodName := ⟨"OrphanTree", "truncateInput", "(I)Z"⟩
def pr_i2 : ev_Im := (pr_y2, (prog_1_method_3_code, ((some .boolean), [])))
noncomputable def pr_m2 : ev_M := (2, (0, (0, ([], pr_c2))))
/-- OrphanTree.loadTree()I -/
noncomputable def pr_c3 : Nat → ev_E := (ev_ct 47 (ev_ct 19 (ev_ct 9 (ev_ct 4 (ev_ct 1 (ev_ct 0 (pr_q 0 (7, (1, (0, (0, (0, [])))))) (pr_q 1 (24, (4, (6, (4, (0, []))))))) (pr_q 4 (35, (7, (250, (1, (5, [0, 0]))))))) (ev_ct 8 (ev_ct 7 (pr_q 7 (1, (8, (1, (0, (0, [])))))) (pr_q 8 (9, (9, (1, (0, (0, []))))))) (pr_q 9 (1, (10, (0, (0, (0, [])))))))) (ev_ct 12 (ev_ct 11 (ev_ct 10 (pr_q 10 (9, (11, (2, (0, (0, [])))))) (pr_q 11 (6, (12, (2, (0, (0, []))))))) (pr_q 12 (1, (15, (500, (0, (0, []))))))) (ev_ct 18 (ev_ct 15 (pr_q 15 (17, (18, (1, (18, (36, [])))))) (pr_q 18 (6, (19, (1, (0, (0, []))))))) (pr_q 19 (16, (22, (0, (36, (22, []))))))))) (ev_ct 33 (ev_ct 26 (ev_ct 23 (ev_ct 22 (pr_q 22 (7, (23, (0, (0, (0, [])))))) (pr_q 23 (24, (26, (6, (4, (0, []))))))) (pr_q 26 (35, (29, (251, (1, (5, [0, 0]))))))) (ev_ct 30 (ev_ct 29 (pr_q 29 (9, (30, (1, (0, (0, [])))))) (pr_q 30 (12, (33, (2, (1, (0, []))))))) (pr_q 33 (20, (11, (0, (0, (0, [])))))))) (ev_ct 40 (ev_ct 37 (ev_ct 36 (pr_q 36 (7, (37, (0, (0, (0, [])))))) (pr_q 37 (24, (40, (6, (4, (0, []))))))) (pr_q 40 (24, (43, (4, (0, (0, []))))))) (ev_ct 44 (ev_ct 43 (pr_q 43 (1, (44, (0, (0, (0, [])))))) (pr_q 44 (25, (47, (1, (1, (0, []))))))) (pr_q 47 (7, (48, (0, (0, (0, [])))))))))) (ev_ct 77 (ev_ct 63 (ev_ct 54 (ev_ct 51 (ev_ct 48 (pr_q 48 (24, (51, (6, (4, (0, [])))))) (pr_q 51 (24, (54, (4, (2, (0, []))))))) (pr_q 54 (16, (57, (0, (59, (57, []))))))) (ev_ct 60 (ev_ct 59 (pr_q 59 (7, (60, (0, (0, (0, [])))))) (pr_q 60 (24, (63, (6, (0, (0, []))))))) (pr_q 63 (7, (64, (0, (0, (0, [])))))))) (ev_ct 70 (ev_ct 67 (ev_ct 64 (pr_q 64 (24, (67, (6, (4, (0, [])))))) (pr_q 67 (24, (70, (4, (1, (0, []))))))) (pr_q 70 (35, (73, (273, (2, (6, [0, 0]))))))) (ev_ct 74 (ev_ct 73 (pr_q 73 (7, (74, (0, (0, (0, [])))))) (pr_q 74 (24, (77, (6, (3, (0, []))))))) (pr_q 77 (1, (78, (0, (0, (0, []))))))))) (ev_ct 87 (ev_ct 82 (ev_ct 81 (ev_ct 78 (pr_q 78 (25, (81, (0, (1, (0, [])))))) (pr_q 81 (7, (82, (0, (0, (0, []))))))) (pr_q 82 (1, (83, (0, (0, (0, []))))))) (ev_ct 86 (ev_ct 83 (pr_q 83 (25, (86, (6, (6, (1, [])))))) (pr_q 86 (7, (87, (0, (0, (0, []))))))) (pr_q 87 (24, (90, (6, (5, (0, [])))))))) (ev_ct 94 (ev_ct 91 (ev_ct 90 (pr_q 90 (1, (91, (0, (0, (0, [])))))) (pr_q 91 (25, (94, (2, (1, (0, []))))))) (pr_q 94 (7, (95, (0, (0, (0, []))))))) (ev_ct 98 (ev_ct 95 (pr_q 95 (24, (98, (6, (0, (0, [])))))) (pr_q 98 (24, (101, (5, (5, (0, []))))))) (pr_q 101 (39, (102, (0, (0, (0, [])))))))))))
def pr_y3 : MethodName := ⟨"OrphanTree", "loadTree", "()I"⟩
def pr_i3 : ev_Im := (pr_y3, (prog_1_method_4_code, ((some .int), [])))
noncomputable def pr_m3 : ev_M := (3, (0, (0, ([], pr_c3))))
/-- OrphanTree.errorCode()I -/
noncomputable def pr_c4 : Nat → ev_E := (ev_ct 1 (ev_ct 0 (pr_q 0 (7, (1, (0, (0, (0, [])))))) (pr_q 1 (24, (4, (6, (4, (0, []))))))) (ev_ct 4 (pr_q 4 (24, (7, (4, (2, (0, [])))))) (pr_q 7 (39, (8, (0, (0, (0, []))))))))
def pr_y4 : MethodName := ⟨"OrphanTree", "errorCode", "()I"⟩
def pr_i4 : ev_Im := (pr_y4, (prog_1_method_5_code, ((some .int), [])))
noncomputable def pr_m4 : ev_M := (1, (0, (0, ([], pr_c4))))
/-- OrphanTree.errorOffset()I -/
noncomputable def pr_c5 : Nat → ev_E := (ev_ct 1 (ev_ct 0 (pr_q 0 (7, (1, (0, (0, (0, [])))))) (pr_q 1 (24, (4, (6, (4, (0, []))))))) (ev_ct 4 (pr_q 4 (24, (7, (4, (3, (0, [])))))) (pr_q 7 (39, (8, (0, (0, (0, []))))))))
def pr_y5 : MethodName := ⟨"OrphanTree", "errorOffset", "()I"⟩
def pr_i5 : ev_Im := (pr_y5, (prog_1_method_6_code, ((some .int), [])))
noncomputable def pr_m5 : ev_M := (1, (0, (0, ([], pr_c5))))
/-- OrphanTree.count(I)I -/
noncomputable def pr_c6 : Nat → ev_E := (ev_ct 104 (ev_ct 81 (ev_ct 68 (ev_ct 61 (ev_ct 1 (ev_ct 0 (pr_q 0 (6, (1, (1, (0, (0, [])))))) (pr_q 1 (42, (0, (2147483648, (2147483658, (161, [60, 68, 77, 86, 95, 103, 111, 119, 127, 145, 153]))))))) (ev_ct 60 (pr_q 60 (7, (61, (0, (0, (0, [])))))) (pr_q 61 (24, (64, (6, (0, (0, [])))))))) (ev_ct 67 (ev_ct 64 (pr_q 64 (24, (67, (5, (5, (0, [])))))) (pr_q 67 (39, (68, (0, (0, (0, []))))))) (pr_q 68 (7, (69, (0, (0, (0, [])))))))) (ev_ct 76 (ev_ct 72 (ev_ct 69 (pr_q 69 (24, (72, (6, (0, (0, [])))))) (pr_q 72 (1, (73, (0, (0, (0, []))))))) (ev_ct 73 (pr_q 73 (35, (76, (275, (2, (6, [0, 0])))))) (pr_q 76 (39, (77, (0, (0, (0, [])))))))) (ev_ct 78 (ev_ct 77 (pr_q 77 (7, (78, (0, (0, (0, [])))))) (pr_q 78 (24, (81, (6, (0, (0, []))))))) (pr_q 81 (1, (82, (1, (0, (0, []))))))))) (ev_ct 94 (ev_ct 87 (ev_ct 85 (ev_ct 82 (pr_q 82 (35, (85, (275, (2, (6, [0, 0])))))) (pr_q 85 (39, (86, (0, (0, (0, []))))))) (ev_ct 86 (pr_q 86 (7, (87, (0, (0, (0, [])))))) (pr_q 87 (24, (90, (6, (0, (0, [])))))))) (ev_ct 91 (ev_ct 90 (pr_q 90 (1, (91, (2, (0, (0, [])))))) (pr_q 91 (35, (94, (275, (2, (6, [0, 0]))))))) (pr_q 94 (39, (95, (0, (0, (0, [])))))))) (ev_ct 99 (ev_ct 96 (ev_ct 95 (pr_q 95 (7, (96, (0, (0, (0, [])))))) (pr_q 96 (24, (99, (6, (0, (0, []))))))) (pr_q 99 (24, (102, (5, (6, (0, []))))))) (ev_ct 103 (ev_ct 102 (pr_q 102 (39, (103, (0, (0, (0, [])))))) (pr_q 103 (7, (104, (0, (0, (0, []))))))) (pr_q 104 (24, (107, (6, (0, (0, [])))))))))) (ev_ct 132 (ev_ct 119 (ev_ct 112 (ev_ct 110 (ev_ct 107 (pr_q 107 (24, (110, (5, (7, (0, [])))))) (pr_q 110 (39, (111, (0, (0, (0, []))))))) (ev_ct 111 (pr_q 111 (7, (112, (0, (0, (0, [])))))) (pr_q 112 (24, (115, (6, (0, (0, [])))))))) (ev_ct 118 (ev_ct 115 (pr_q 115 (24, (118, (5, (8, (0, [])))))) (pr_q 118 (39, (119, (0, (0, (0, []))))))) (pr_q 119 (7, (120, (0, (0, (0, [])))))))) (ev_ct 127 (ev_ct 123 (ev_ct 120 (pr_q 120 (24, (123, (6, (0, (0, [])))))) (pr_q 123 (24, (126, (5, (9, (0, []))))))) (ev_ct 126 (pr_q 126 (39, (127, (0, (0, (0, [])))))) (pr_q 127 (7, (128, (0, (0, (0, [])))))))) (ev_ct 131 (ev_ct 128 (pr_q 128 (24, (131, (6, (0, (0, [])))))) (pr_q 131 (7, (132, (0, (0, (0, []))))))) (pr_q 132 (24, (135, (6, (0, (0, []))))))))) (ev_ct 149 (ev_ct 144 (ev_ct 138 (ev_ct 135 (pr_q 135 (24, (138, (5, (0, (0, [])))))) (pr_q 138 (35, (141, (285, (2, (6, [0, 0]))))))) (ev_ct 141 (pr_q 141 (35, (144, (353, (1, (0, [0, 0])))))) (pr_q 144 (39, (145, (0, (0, (0, [])))))))) (ev_ct 146 (ev_ct 145 (pr_q 145 (7, (146, (0, (0, (0, [])))))) (pr_q 146 (24, (149, (6, (3, (0, []))))))) (pr_q 149 (24, (152, (0, (1, (0, [])))))))) (ev_ct 154 (ev_ct 153 (ev_ct 152 (pr_q 152 (39, (153, (0, (0, (0, [])))))) (pr_q 153 (7, (154, (0, (0, (0, []))))))) (pr_q 154 (24, (157, (6, (0, (0, []))))))) (ev_ct 160 (ev_ct 157 (pr_q 157 (24, (160, (5, (4, (0, [])))))) (pr_q 160 (39, (161, (0, (0, (0, []))))))) (pr_q 161 (37, (0, (0, (0, (0, [])))))))))))
def pr_y6 : MethodName := ⟨"OrphanTree", "count", "(I)I"⟩
def pr_i6 : ev_Im := (pr_y6, (prog_1_method_7_code, ((some .int), [])))
noncomputable def pr_m6 : ev_M := (2, (1, (6, ([], pr_c6))))
/-- OrphanTree.process(II)I -/
noncomputable def pr_c7 : Nat → ev_E := (ev_ct 118 (ev_ct 94 (ev_ct 81 (ev_ct 5 (ev_ct 1 (ev_ct 0 (pr_q 0 (7, (1, (0, (0, (0, [])))))) (pr_q 1 (6, (2, (1, (0, (0, []))))))) (ev_ct 2 (pr_q 2 (35, (5, (65, (2, (7, [1, 6])))))) (pr_q 5 (10, (6, (3, (0, (0, [])))))))) (ev_ct 7 (ev_ct 6 (pr_q 6 (6, (7, (2, (0, (0, [])))))) (pr_q 7 (42, (0, (2147483648, (2147483662, (166, [80, 88, 93, 98, 103, 112, 117, 122, 127, 132, 141, 146, 151, 156, 161]))))))) (ev_ct 80 (pr_q 80 (7, (81, (3, (0, (0, [])))))) (pr_q 81 (24, (84, (3, (2, (0, []))))))))) (ev_ct 89 (ev_ct 87 (ev_ct 84 (pr_q 84 (35, (87, (68, (1, (0, [0, 0])))))) (pr_q 87 (39, (88, (0, (0, (0, []))))))) (ev_ct 88 (pr_q 88 (7, (89, (3, (0, (0, [])))))) (pr_q 89 (24, (92, (3, (4, (0, [])))))))) (ev_ct 93 (ev_ct 92 (pr_q 92 (39, (93, (0, (0, (0, [])))))) (pr_q 93 (7, (94, (3, (0, (0, []))))))) (pr_q 94 (35, (97, (242, (1, (4, [0, 0]))))))))) (ev_ct 107 (ev_ct 102 (ev_ct 98 (ev_ct 97 (pr_q 97 (39, (98, (0, (0, (0, [])))))) (pr_q 98 (7, (99, (3, (0, (0, []))))))) (ev_ct 99 (pr_q 99 (24, (102, (3, (3, (0, [])))))) (pr_q 102 (39, (103, (0, (0, (0, [])))))))) (ev_ct 104 (ev_ct 103 (pr_q 103 (7, (104, (0, (0, (0, [])))))) (pr_q 104 (24, (107, (6, (0, (0, []))))))) (pr_q 107 (7, (108, (3, (0, (0, [])))))))) (ev_ct 113 (ev_ct 111 (ev_ct 108 (pr_q 108 (35, (111, (277, (2, (6, [0, 0])))))) (pr_q 111 (39, (112, (0, (0, (0, []))))))) (ev_ct 112 (pr_q 112 (7, (113, (3, (0, (0, [])))))) (pr_q 113 (24, (116, (3, (1, (0, [])))))))) (ev_ct 117 (ev_ct 116 (pr_q 116 (39, (117, (0, (0, (0, [])))))) (pr_q 117 (7, (118, (3, (0, (0, []))))))) (pr_q 118 (24, (121, (3, (5, (0, [])))))))))) (ev_ct 142 (ev_ct 131 (ev_ct 126 (ev_ct 122 (ev_ct 121 (pr_q 121 (39, (122, (0, (0, (0, [])))))) (pr_q 122 (7, (123, (3, (0, (0, []))))))) (ev_ct 123 (pr_q 123 (24, (126, (3, (6, (0, [])))))) (pr_q 126 (39, (127, (0, (0, (0, [])))))))) (ev_ct 128 (ev_ct 127 (pr_q 127 (7, (128, (3, (0, (0, [])))))) (pr_q 128 (24, (131, (3, (7, (0, []))))))) (pr_q 131 (39, (132, (0, (0, (0, [])))))))) (ev_ct 137 (ev_ct 133 (ev_ct 132 (pr_q 132 (7, (133, (0, (0, (0, [])))))) (pr_q 133 (24, (136, (6, (0, (0, []))))))) (ev_ct 136 (pr_q 136 (7, (137, (3, (0, (0, [])))))) (pr_q 137 (35, (140, (285, (2, (6, [0, 0])))))))) (ev_ct 141 (ev_ct 140 (pr_q 140 (39, (141, (0, (0, (0, [])))))) (pr_q 141 (7, (142, (3, (0, (0, []))))))) (pr_q 142 (24, (145, (3, (9, (0, []))))))))) (ev_ct 155 (ev_ct 150 (ev_ct 146 (ev_ct 145 (pr_q 145 (39, (146, (0, (0, (0, [])))))) (pr_q 146 (7, (147, (3, (0, (0, []))))))) (ev_ct 147 (pr_q 147 (24, (150, (3, (8, (0, [])))))) (pr_q 150 (39, (151, (0, (0, (0, [])))))))) (ev_ct 152 (ev_ct 151 (pr_q 151 (7, (152, (3, (0, (0, [])))))) (pr_q 152 (24, (155, (3, (11, (0, []))))))) (pr_q 155 (39, (156, (0, (0, (0, [])))))))) (ev_ct 161 (ev_ct 157 (ev_ct 156 (pr_q 156 (7, (157, (3, (0, (0, [])))))) (pr_q 157 (24, (160, (3, (12, (0, []))))))) (ev_ct 160 (pr_q 160 (39, (161, (0, (0, (0, [])))))) (pr_q 161 (7, (162, (3, (0, (0, [])))))))) (ev_ct 165 (ev_ct 162 (pr_q 162 (35, (165, (248, (1, (4, [0, 0])))))) (pr_q 165 (39, (166, (0, (0, (0, []))))))) (pr_q 166 (37, (0, (0, (0, (0, [])))))))))))
def pr_y7 : MethodName := ⟨"OrphanTree", "process", "(II)I"⟩
def pr_i7 : ev_Im := (pr_y7, (prog_1_method_8_code, ((some .int), [])))
noncomputable def pr_m7 : ev_M := (4, (2, (12, ([], pr_c7))))
/-- OrphanTree.holder(I)I -/
noncomputable def pr_c8 : Nat → ev_E := (ev_ct 7 (ev_ct 3 (ev_ct 1 (ev_ct 0 (pr_q 0 (6, (1, (1, (0, (0, [])))))) (pr_q 1 (1, (3, (7, (0, (0, []))))))) (pr_q 3 (35, (6, (66, (2, (0, [1, 6]))))))) (ev_ct 6 (pr_q 6 (7, (7, (0, (0, (0, [])))))) (pr_q 7 (24, (10, (6, (0, (0, [])))))))) (ev_ct 11 (ev_ct 10 (pr_q 10 (6, (11, (1, (0, (0, [])))))) (pr_q 11 (35, (14, (283, (2, (6, [0, 0]))))))) (ev_ct 14 (pr_q 14 (24, (17, (3, (0, (0, [])))))) (pr_q 17 (39, (18, (0, (0, (0, [])))))))))
def pr_y8 : MethodName := ⟨"OrphanTree", "holder", "(I)I"⟩
def pr_i8 : ev_Im := (pr_y8, (prog_1_method_9_code, ((some .int), [])))
noncomputable def pr_m8 : ev_M := (2, (1, (6, ([], pr_c8))))
/-- OrphanTree.rule(I)I -/
noncomputable def pr_c9 : Nat → ev_E := (ev_ct 10 (ev_ct 5 (ev_ct 1 (ev_ct 0 (pr_q 0 (6, (1, (1, (0, (0, [])))))) (pr_q 1 (16, (4, (1, (9, (4, []))))))) (ev_ct 4 (pr_q 4 (6, (5, (1, (0, (0, [])))))) (pr_q 5 (1, (6, (5, (0, (0, [])))))))) (ev_ct 9 (ev_ct 6 (pr_q 6 (17, (9, (1, (13, (9, [])))))) (pr_q 9 (1, (10, (4294967295, (0, (0, []))))))) (pr_q 10 (20, (22, (0, (0, (0, [])))))))) (ev_ct 17 (ev_ct 14 (ev_ct 13 (pr_q 13 (7, (14, (0, (0, (0, [])))))) (pr_q 14 (24, (17, (6, (0, (0, []))))))) (pr_q 17 (24, (20, (5, (3, (0, []))))))) (ev_ct 21 (ev_ct 20 (pr_q 20 (6, (21, (1, (0, (0, [])))))) (pr_q 21 (27, (22, (20, (20, (0, []))))))) (pr_q 22 (39, (23, (0, (0, (0, [])))))))))
def pr_y9 : MethodName := ⟨"OrphanTree", "rule", "(I)I"⟩
def pr_i9 : ev_Im := (pr_y9, (prog_1_method_10_code, ((some .int), [])))
noncomputable def pr_m9 : ev_M := (2, (0, (0, ([], pr_c9))))
/-- OrphanTree.depth(I)I -/
noncomputable def pr_c10 : Nat → ev_E := (ev_ct 10 (ev_ct 5 (ev_ct 1 (ev_ct 0 (pr_q 0 (7, (1, (0, (0, (0, [])))))) (pr_q 1 (6, (2, (1, (0, (0, []))))))) (ev_ct 2 (pr_q 2 (35, (5, (65, (2, (7, [1, 6])))))) (pr_q 5 (10, (6, (2, (0, (0, [])))))))) (ev_ct 7 (ev_ct 6 (pr_q 6 (7, (7, (2, (0, (0, [])))))) (pr_q 7 (24, (10, (3, (1, (0, []))))))) (pr_q 10 (1, (11, (2, (0, (0, [])))))))) (ev_ct 19 (ev_ct 14 (ev_ct 11 (pr_q 11 (17, (14, (0, (18, (14, [])))))) (pr_q 14 (1, (15, (1, (0, (0, []))))))) (ev_ct 15 (pr_q 15 (20, (19, (0, (0, (0, [])))))) (pr_q 19 (35, (22, (67, (1, (0, [1, 6])))))))) (ev_ct 23 (ev_ct 22 (pr_q 22 (7, (23, (2, (0, (0, [])))))) (pr_q 23 (35, (26, (243, (1, (4, [0, 0]))))))) (pr_q 26 (39, (27, (0, (0, (0, [])))))))))
def pr_y10 : MethodName := ⟨"OrphanTree", "depth", "(I)I"⟩
def pr_i10 : ev_Im := (pr_y10, (prog_1_method_11_code, ((some .int), [])))
noncomputable def pr_m10 : ev_M := (3, (2, (12, ([], pr_c10))))
/-- OrphanTree.isAbove(II)Z -/
noncomputable def pr_c11 : Nat → ev_E := (ev_ct 17 (ev_ct 7 (ev_ct 2 (ev_ct 1 (ev_ct 0 (pr_q 0 (7, (1, (0, (0, (0, [])))))) (pr_q 1 (6, (2, (1, (0, (0, []))))))) (pr_q 2 (35, (5, (65, (2, (7, [1, 6]))))))) (ev_ct 6 (ev_ct 5 (pr_q 5 (10, (6, (3, (0, (0, [])))))) (pr_q 6 (7, (7, (0, (0, (0, []))))))) (pr_q 7 (6, (8, (2, (0, (0, [])))))))) (ev_ct 13 (ev_ct 11 (ev_ct 8 (pr_q 8 (35, (11, (65, (2, (7, [1, 6])))))) (pr_q 11 (10, (13, (4, (0, (0, []))))))) (pr_q 13 (7, (14, (3, (0, (0, []))))))) (ev_ct 14 (pr_q 14 (24, (17, (3, (1, (0, [])))))) (pr_q 17 (1, (18, (2, (0, (0, []))))))))) (ev_ct 30 (ev_ct 23 (ev_ct 21 (ev_ct 18 (pr_q 18 (17, (21, (0, (43, (21, [])))))) (pr_q 21 (7, (23, (4, (0, (0, []))))))) (pr_q 23 (24, (26, (3, (1, (0, []))))))) (ev_ct 27 (ev_ct 26 (pr_q 26 (1, (27, (2, (0, (0, [])))))) (pr_q 27 (17, (30, (0, (43, (30, []))))))) (pr_q 30 (7, (31, (3, (0, (0, [])))))))) (ev_ct 36 (ev_ct 33 (ev_ct 31 (pr_q 31 (7, (33, (4, (0, (0, [])))))) (pr_q 33 (35, (36, (244, (2, (4, [0, 0]))))))) (pr_q 36 (16, (39, (0, (43, (39, []))))))) (ev_ct 43 (pr_q 43 (1, (44, (0, (0, (0, [])))))) (pr_q 44 (39, (45, (1, (0, (0, []))))))))))
def pr_y11 : MethodName := ⟨"OrphanTree", "isAbove", "(II)Z"⟩
def pr_i11 : ev_Im := (pr_y11, (prog_1_method_12_code, ((some .boolean), [])))
noncomputable def pr_m11 : ev_M := (5, (2, (12, ([], pr_c11))))
/-- OrphanTree.meet(II)I -/
noncomputable def pr_c12 : Nat → ev_E := (ev_ct 21 (ev_ct 8 (ev_ct 5 (ev_ct 1 (ev_ct 0 (pr_q 0 (7, (1, (0, (0, (0, [])))))) (pr_q 1 (6, (2, (1, (0, (0, []))))))) (ev_ct 2 (pr_q 2 (35, (5, (65, (2, (7, [1, 6])))))) (pr_q 5 (10, (6, (3, (0, (0, [])))))))) (ev_ct 7 (ev_ct 6 (pr_q 6 (7, (7, (0, (0, (0, [])))))) (pr_q 7 (6, (8, (2, (0, (0, []))))))) (pr_q 8 (35, (11, (65, (2, (7, [1, 6])))))))) (ev_ct 14 (ev_ct 13 (ev_ct 11 (pr_q 11 (10, (13, (4, (0, (0, [])))))) (pr_q 13 (7, (14, (3, (0, (0, []))))))) (pr_q 14 (24, (17, (3, (1, (0, []))))))) (ev_ct 18 (ev_ct 17 (pr_q 17 (1, (18, (2, (0, (0, [])))))) (pr_q 18 (17, (21, (0, (34, (21, []))))))) (pr_q 21 (7, (23, (4, (0, (0, []))))))))) (ev_ct 38 (ev_ct 30 (ev_ct 26 (ev_ct 23 (pr_q 23 (24, (26, (3, (1, (0, [])))))) (pr_q 26 (1, (27, (2, (0, (0, []))))))) (ev_ct 27 (pr_q 27 (17, (30, (0, (34, (30, [])))))) (pr_q 30 (1, (31, (1, (0, (0, [])))))))) (ev_ct 35 (ev_ct 31 (pr_q 31 (20, (35, (0, (0, (0, [])))))) (pr_q 35 (35, (38, (67, (1, (0, [1, 6]))))))) (pr_q 38 (7, (39, (0, (0, (0, [])))))))) (ev_ct 43 (ev_ct 42 (ev_ct 39 (pr_q 39 (24, (42, (6, (0, (0, [])))))) (pr_q 42 (7, (43, (3, (0, (0, []))))))) (pr_q 43 (7, (45, (4, (0, (0, []))))))) (ev_ct 48 (ev_ct 45 (pr_q 45 (35, (48, (279, (3, (6, [0, 0])))))) (pr_q 48 (24, (51, (3, (0, (0, []))))))) (pr_q 51 (39, (52, (0, (0, (0, []))))))))))
def pr_y12 : MethodName := ⟨"OrphanTree", "meet", "(II)I"⟩
def pr_i12 : ev_Im := (pr_y12, (prog_1_method_13_code, ((some .int), [])))
noncomputable def pr_m12 : ev_M := (5, (3, (18, ([], pr_c12))))
/-- OrphanTree.below(I)I -/
noncomputable def pr_c13 : Nat → ev_E := (ev_ct 5 (ev_ct 1 (ev_ct 0 (pr_q 0 (7, (1, (0, (0, (0, [])))))) (pr_q 1 (24, (4, (6, (0, (0, []))))))) (ev_ct 4 (pr_q 4 (7, (5, (0, (0, (0, [])))))) (pr_q 5 (6, (6, (1, (0, (0, [])))))))) (ev_ct 9 (ev_ct 6 (pr_q 6 (35, (9, (65, (2, (7, [1, 6])))))) (pr_q 9 (1, (10, (0, (0, (0, []))))))) (ev_ct 10 (pr_q 10 (35, (13, (276, (3, (6, [0, 0])))))) (pr_q 13 (39, (14, (0, (0, (0, [])))))))))
def pr_y13 : MethodName := ⟨"OrphanTree", "below", "(I)I"⟩
def pr_i13 : ev_Im := (pr_y13, (prog_1_method_14_code, ((some .int), [])))
noncomputable def pr_m13 : ev_M := (2, (1, (6, ([], pr_c13))))
/-- OrphanTree.walked(I)I -/
noncomputable def pr_c14 : Nat → ev_E := (ev_ct 26 (ev_ct 14 (ev_ct 5 (ev_ct 1 (ev_ct 0 (pr_q 0 (6, (1, (1, (0, (0, [])))))) (pr_q 1 (16, (4, (1, (10, (4, []))))))) (ev_ct 4 (pr_q 4 (6, (5, (1, (0, (0, [])))))) (pr_q 5 (1, (7, (40, (0, (0, [])))))))) (ev_ct 10 (ev_ct 7 (pr_q 7 (17, (10, (1, (14, (10, [])))))) (pr_q 10 (2, (11, (0, (0, (0, []))))))) (ev_ct 11 (pr_q 11 (20, (21, (0, (0, (0, [])))))) (pr_q 14 (7, (15, (0, (0, (0, []))))))))) (ev_ct 22 (ev_ct 18 (ev_ct 15 (pr_q 15 (24, (18, (6, (0, (0, [])))))) (pr_q 18 (24, (21, (5, (0, (0, []))))))) (ev_ct 21 (pr_q 21 (10, (22, (2, (0, (0, [])))))) (pr_q 22 (1, (23, (0, (0, (0, [])))))))) (ev_ct 24 (ev_ct 23 (pr_q 23 (9, (24, (3, (0, (0, [])))))) (pr_q 24 (6, (25, (3, (0, (0, []))))))) (ev_ct 25 (pr_q 25 (6, (26, (1, (0, (0, [])))))) (pr_q 26 (17, (29, (1, (29, (48, [])))))))))) (ev_ct 42 (ev_ct 34 (ev_ct 30 (ev_ct 29 (pr_q 29 (7, (30, (2, (0, (0, [])))))) (pr_q 30 (19, (33, (0, (48, (33, []))))))) (ev_ct 33 (pr_q 33 (7, (34, (0, (0, (0, [])))))) (pr_q 34 (24, (37, (6, (0, (0, [])))))))) (ev_ct 38 (ev_ct 37 (pr_q 37 (7, (38, (2, (0, (0, [])))))) (pr_q 38 (35, (41, (282, (2, (6, [0, 0]))))))) (ev_ct 41 (pr_q 41 (10, (42, (2, (0, (0, [])))))) (pr_q 42 (12, (45, (3, (1, (0, []))))))))) (ev_ct 52 (ev_ct 48 (ev_ct 45 (pr_q 45 (20, (24, (0, (0, (0, [])))))) (pr_q 48 (7, (49, (2, (0, (0, []))))))) (ev_ct 49 (pr_q 49 (19, (52, (0, (52, (62, [])))))) (pr_q 52 (37, (0, (3, (0, (0, [])))))))) (ev_ct 63 (ev_ct 62 (pr_q 62 (7, (63, (2, (0, (0, [])))))) (pr_q 63 (24, (66, (3, (0, (0, []))))))) (pr_q 66 (39, (67, (0, (0, (0, []))))))))))
def pr_y14 : MethodName := ⟨"OrphanTree", "walked", "(I)I"⟩
def pr_i14 : ev_Im := (pr_y14, (prog_1_method_15_code, ((some .int), [])))
noncomputable def pr_m14 : ev_M := (4, (1, (6, ([], pr_c14))))
/-- OrphanTree.atDepth(I)I -/
noncomputable def pr_c15 : Nat → ev_E := (ev_ct 24 (ev_ct 11 (ev_ct 3 (ev_ct 1 (ev_ct 0 (pr_q 0 (1, (1, (0, (0, (0, [])))))) (pr_q 1 (9, (2, (2, (0, (0, []))))))) (ev_ct 2 (pr_q 2 (7, (3, (0, (0, (0, [])))))) (pr_q 3 (24, (6, (6, (0, (0, [])))))))) (ev_ct 9 (ev_ct 6 (pr_q 6 (24, (9, (5, (1, (0, [])))))) (pr_q 9 (10, (10, (3, (0, (0, []))))))) (ev_ct 10 (pr_q 10 (7, (11, (3, (0, (0, [])))))) (pr_q 11 (26, (12, (0, (0, (0, []))))))))) (ev_ct 17 (ev_ct 14 (ev_ct 12 (pr_q 12 (9, (14, (4, (0, (0, [])))))) (pr_q 14 (1, (15, (0, (0, (0, []))))))) (ev_ct 15 (pr_q 15 (9, (17, (5, (0, (0, [])))))) (pr_q 17 (6, (19, (5, (0, (0, [])))))))) (ev_ct 21 (ev_ct 19 (pr_q 19 (6, (21, (4, (0, (0, [])))))) (pr_q 21 (17, (24, (1, (24, (56, []))))))) (pr_q 24 (7, (25, (3, (0, (0, []))))))))) (ev_ct 40 (ev_ct 30 (ev_ct 27 (ev_ct 25 (pr_q 25 (6, (27, (5, (0, (0, [])))))) (pr_q 27 (29, (28, (24, (25, (0, []))))))) (ev_ct 28 (pr_q 28 (10, (30, (6, (0, (0, [])))))) (pr_q 30 (7, (32, (6, (0, (0, [])))))))) (ev_ct 35 (ev_ct 32 (pr_q 32 (35, (35, (235, (1, (4, [0, 0])))))) (pr_q 35 (16, (38, (0, (50, (38, []))))))) (ev_ct 38 (pr_q 38 (7, (40, (6, (0, (0, [])))))) (pr_q 40 (35, (43, (243, (1, (4, [0, 0]))))))))) (ev_ct 50 (ev_ct 44 (ev_ct 43 (pr_q 43 (6, (44, (1, (0, (0, [])))))) (pr_q 44 (17, (47, (0, (47, (50, []))))))) (ev_ct 47 (pr_q 47 (12, (50, (2, (1, (0, [])))))) (pr_q 50 (12, (53, (5, (1, (0, [])))))))) (ev_ct 56 (ev_ct 53 (pr_q 53 (20, (17, (0, (0, (0, [])))))) (pr_q 56 (6, (57, (2, (0, (0, []))))))) (pr_q 57 (39, (58, (0, (0, (0, []))))))))))
def pr_y15 : MethodName := ⟨"OrphanTree", "atDepth", "(I)I"⟩
def pr_i15 : ev_Im := (pr_y15, (prog_1_method_16_code, ((some .int), [])))
noncomputable def pr_m15 : ev_M := (7, (0, (0, ([], pr_c15))))
/-- OrphanTree.height()I -/
noncomputable def pr_c16 : Nat → ev_E := (ev_ct 1 (ev_ct 0 (pr_q 0 (7, (1, (0, (0, (0, [])))))) (pr_q 1 (24, (4, (6, (0, (0, []))))))) (ev_ct 4 (pr_q 4 (35, (7, (278, (1, (6, [0, 0])))))) (pr_q 7 (39, (8, (0, (0, (0, []))))))))
def pr_y16 : MethodName := ⟨"OrphanTree", "height", "()I"⟩
def pr_i16 : ev_Im := (pr_y16, (prog_1_method_17_code, ((some .int), [])))
noncomputable def pr_m16 : ev_M := (1, (0, (0, ([], pr_c16))))
/-- OrphanTree.spawn(IIII)I -/
noncomputable def pr_c17 : Nat → ev_E := (ev_ct 38 (ev_ct 16 (ev_ct 7 (ev_ct 2 (ev_ct 1 (ev_ct 0 (pr_q 0 (7, (1, (0, (0, (0, [])))))) (pr_q 1 (6, (2, (1, (0, (0, []))))))) (pr_q 2 (35, (5, (65, (2, (7, [1, 6]))))))) (ev_ct 5 (pr_q 5 (10, (7, (5, (0, (0, [])))))) (pr_q 7 (6, (8, (2, (0, (0, [])))))))) (ev_ct 13 (ev_ct 10 (ev_ct 8 (pr_q 8 (1, (10, (9, (0, (0, [])))))) (pr_q 10 (35, (13, (66, (2, (0, [1, 6]))))))) (pr_q 13 (6, (14, (3, (0, (0, []))))))) (ev_ct 14 (pr_q 14 (1, (16, (9, (0, (0, [])))))) (pr_q 16 (35, (19, (66, (2, (0, [1, 6]))))))))) (ev_ct 28 (ev_ct 23 (ev_ct 21 (ev_ct 19 (pr_q 19 (6, (21, (4, (0, (0, [])))))) (pr_q 21 (1, (23, (9, (0, (0, []))))))) (pr_q 23 (35, (26, (66, (2, (0, [1, 6]))))))) (ev_ct 26 (pr_q 26 (7, (28, (5, (0, (0, [])))))) (pr_q 28 (35, (31, (242, (1, (4, [0, 0])))))))) (ev_ct 34 (ev_ct 31 (pr_q 31 (16, (34, (2, (34, (50, [])))))) (pr_q 34 (7, (35, (0, (0, (0, []))))))) (ev_ct 35 (pr_q 35 (24, (38, (6, (0, (0, [])))))) (pr_q 38 (24, (41, (5, (5, (0, [])))))))))) (ev_ct 62 (ev_ct 51 (ev_ct 46 (ev_ct 43 (ev_ct 41 (pr_q 41 (1, (43, (40, (0, (0, [])))))) (pr_q 43 (17, (46, (1, (46, (50, []))))))) (pr_q 46 (1, (47, (1, (0, (0, []))))))) (ev_ct 47 (pr_q 47 (20, (51, (0, (0, (0, [])))))) (pr_q 51 (35, (54, (67, (1, (0, [1, 6])))))))) (ev_ct 58 (ev_ct 55 (ev_ct 54 (pr_q 54 (7, (55, (0, (0, (0, [])))))) (pr_q 55 (24, (58, (6, (3, (0, []))))))) (pr_q 58 (7, (59, (0, (0, (0, []))))))) (ev_ct 59 (pr_q 59 (24, (62, (6, (0, (0, [])))))) (pr_q 62 (35, (65, (219, (2, (1, [0, 0]))))))))) (ev_ct 72 (ev_ct 69 (ev_ct 66 (ev_ct 65 (pr_q 65 (7, (66, (0, (0, (0, [])))))) (pr_q 66 (24, (69, (6, (0, (0, []))))))) (pr_q 69 (7, (71, (5, (0, (0, []))))))) (ev_ct 71 (pr_q 71 (6, (72, (2, (0, (0, [])))))) (pr_q 72 (6, (73, (3, (0, (0, [])))))))) (ev_ct 75 (ev_ct 73 (pr_q 73 (6, (75, (4, (0, (0, [])))))) (pr_q 75 (35, (78, (286, (5, (6, [0, 0]))))))) (ev_ct 78 (pr_q 78 (35, (81, (68, (1, (0, [0, 0])))))) (pr_q 81 (39, (82, (0, (0, (0, [])))))))))))
def pr_y17 : MethodName := ⟨"OrphanTree", "spawn", "(IIII)I"⟩
def pr_i17 : ev_Im := (pr_y17, (prog_1_method_18_code, ((some .int), [])))
noncomputable def pr_m17 : ev_M := (6, (5, (30, ([], pr_c17))))
/-- OrphanTree.exit(II)I -/
noncomputable def pr_c18 : Nat → ev_E := (ev_ct 1 (ev_ct 0 (pr_q 0 (7, (1, (0, (0, (0, [])))))) (pr_q 1 (6, (2, (1, (0, (0, []))))))) (ev_ct 2 (pr_q 2 (6, (3, (2, (0, (0, [])))))) (pr_q 3 (35, (6, (69, (3, (7, [3, 18]))))))))
def pr_y18 : MethodName := ⟨"OrphanTree", "exit", "(II)I"⟩
def pr_i18 : ev_Im := (pr_y18, (prog_1_method_19_code, ((some .int), [])))
noncomputable def pr_m18 : ev_M := (4, (3, (18, ([], pr_c18))))
/-- OrphanTree.kill(II)I -/
noncomputable def pr_c19 : Nat → ev_E := (ev_ct 10 (ev_ct 5 (ev_ct 1 (ev_ct 0 (pr_q 0 (6, (1, (1, (0, (0, [])))))) (pr_q 1 (6, (2, (2, (0, (0, []))))))) (ev_ct 2 (pr_q 2 (35, (5, (70, (2, (0, [2, 12])))))) (pr_q 5 (7, (6, (0, (0, (0, [])))))))) (ev_ct 9 (ev_ct 6 (pr_q 6 (24, (9, (6, (3, (0, [])))))) (pr_q 9 (7, (10, (0, (0, (0, []))))))) (pr_q 10 (24, (13, (6, (0, (0, [])))))))) (ev_ct 20 (ev_ct 16 (ev_ct 13 (pr_q 13 (35, (16, (219, (2, (1, [0, 0])))))) (pr_q 16 (7, (17, (0, (0, (0, []))))))) (ev_ct 17 (pr_q 17 (24, (20, (6, (0, (0, [])))))) (pr_q 20 (6, (21, (1, (0, (0, [])))))))) (ev_ct 22 (ev_ct 21 (pr_q 21 (6, (22, (2, (0, (0, [])))))) (pr_q 22 (35, (25, (299, (3, (6, [0, 0]))))))) (pr_q 25 (39, (26, (0, (0, (0, [])))))))))
def pr_y19 : MethodName := ⟨"OrphanTree", "kill", "(II)I"⟩
def pr_i19 : ev_Im := (pr_y19, (prog_1_method_20_code, ((some .int), [])))
noncomputable def pr_m19 : ev_M := (3, (2, (12, ([], pr_c19))))
/-- OrphanTree.read(I)I -/
noncomputable def pr_c20 : Nat → ev_E := (ev_ct 13 (ev_ct 5 (ev_ct 1 (ev_ct 0 (pr_q 0 (7, (1, (0, (0, (0, [])))))) (pr_q 1 (6, (2, (1, (0, (0, []))))))) (ev_ct 2 (pr_q 2 (35, (5, (65, (2, (7, [1, 6])))))) (pr_q 5 (10, (6, (2, (0, (0, [])))))))) (ev_ct 7 (ev_ct 6 (pr_q 6 (7, (7, (2, (0, (0, [])))))) (pr_q 7 (35, (10, (235, (1, (4, [0, 0]))))))) (ev_ct 10 (pr_q 10 (35, (13, (67, (1, (0, [1, 6])))))) (pr_q 13 (7, (14, (0, (0, (0, []))))))))) (ev_ct 19 (ev_ct 17 (ev_ct 14 (pr_q 14 (24, (17, (6, (0, (0, [])))))) (pr_q 17 (7, (18, (2, (0, (0, []))))))) (ev_ct 18 (pr_q 18 (1, (19, (4294967295, (0, (0, [])))))) (pr_q 19 (35, (22, (281, (3, (6, [0, 0])))))))) (ev_ct 23 (ev_ct 22 (pr_q 22 (10, (23, (3, (0, (0, [])))))) (pr_q 23 (7, (24, (3, (0, (0, []))))))) (ev_ct 24 (pr_q 24 (19, (27, (0, (27, (38, [])))))) (pr_q 27 (37, (0, (3, (0, (0, []))))))))))
def pr_y20 : MethodName := ⟨"OrphanTree", "read", "(I)I"⟩
def pr_i20 : ev_Im := (pr_y20, (prog_1_method_21_code, ((some .int), [])))
noncomputable def pr_m20 : ev_M := (4, (3, (18, ([], pr_c20))))
/-- OrphanTree.refuse(II)I -/
noncomputable def pr_c21 : Nat → ev_E := (ev_ct 6 (ev_ct 2 (ev_ct 1 (ev_ct 0 (pr_q 0 (7, (1, (0, (0, (0, [])))))) (pr_q 1 (6, (2, (1, (0, (0, []))))))) (pr_q 2 (35, (5, (65, (2, (7, [1, 6]))))))) (ev_ct 5 (pr_q 5 (10, (6, (3, (0, (0, [])))))) (pr_q 6 (6, (7, (2, (0, (0, [])))))))) (ev_ct 12 (ev_ct 9 (ev_ct 7 (pr_q 7 (1, (9, (9, (0, (0, [])))))) (pr_q 9 (35, (12, (66, (2, (0, [1, 6]))))))) (pr_q 12 (7, (13, (3, (0, (0, []))))))) (ev_ct 13 (pr_q 13 (35, (16, (236, (1, (4, [0, 0])))))) (pr_q 16 (35, (19, (67, (1, (0, [1, 6])))))))))
def pr_y21 : MethodName := ⟨"OrphanTree", "refuse", "(II)I"⟩
def pr_i21 : ev_Im := (pr_y21, (prog_1_method_22_code, ((some .int), [])))
noncomputable def pr_m21 : ev_M := (4, (3, (18, ([], pr_c21))))
/-- OrphanTree.accept(II)Z -/
noncomputable def pr_c22 : Nat → ev_E := (ev_ct 30 (ev_ct 12 (ev_ct 5 (ev_ct 1 (ev_ct 0 (pr_q 0 (7, (1, (0, (0, (0, [])))))) (pr_q 1 (6, (2, (1, (0, (0, []))))))) (ev_ct 2 (pr_q 2 (35, (5, (65, (2, (7, [1, 6])))))) (pr_q 5 (10, (6, (3, (0, (0, [])))))))) (ev_ct 7 (ev_ct 6 (pr_q 6 (6, (7, (2, (0, (0, [])))))) (pr_q 7 (1, (9, (9, (0, (0, []))))))) (ev_ct 9 (pr_q 9 (35, (12, (66, (2, (0, [1, 6])))))) (pr_q 12 (7, (13, (3, (0, (0, []))))))))) (ev_ct 20 (ev_ct 16 (ev_ct 13 (pr_q 13 (35, (16, (235, (1, (4, [0, 0])))))) (pr_q 16 (35, (19, (67, (1, (0, [1, 6]))))))) (ev_ct 19 (pr_q 19 (7, (20, (0, (0, (0, [])))))) (pr_q 20 (24, (23, (6, (3, (0, [])))))))) (ev_ct 24 (ev_ct 23 (pr_q 23 (7, (24, (0, (0, (0, [])))))) (pr_q 24 (24, (27, (6, (0, (0, []))))))) (ev_ct 27 (pr_q 27 (35, (30, (219, (2, (1, [0, 0])))))) (pr_q 30 (7, (31, (3, (0, (0, [])))))))))) (ev_ct 43 (ev_ct 37 (ev_ct 32 (ev_ct 31 (pr_q 31 (6, (32, (2, (0, (0, [])))))) (pr_q 32 (35, (35, (241, (2, (4, [0, 0]))))))) (ev_ct 35 (pr_q 35 (9, (37, (4, (0, (0, [])))))) (pr_q 37 (7, (38, (3, (0, (0, [])))))))) (ev_ct 39 (ev_ct 38 (pr_q 38 (21, (39, (0, (0, (0, [])))))) (pr_q 39 (24, (42, (3, (8, (0, []))))))) (ev_ct 42 (pr_q 42 (1, (43, (1, (0, (0, [])))))) (pr_q 43 (6, (44, (2, (0, (0, []))))))))) (ev_ct 47 (ev_ct 45 (ev_ct 44 (pr_q 44 (15, (45, (4, (0, (0, [])))))) (pr_q 45 (1, (46, (4294967295, (0, (0, []))))))) (ev_ct 46 (pr_q 46 (15, (47, (3, (0, (0, [])))))) (pr_q 47 (15, (48, (1, (0, (0, [])))))))) (ev_ct 51 (ev_ct 48 (pr_q 48 (25, (51, (3, (8, (0, [])))))) (pr_q 51 (6, (53, (4, (0, (0, []))))))) (pr_q 53 (39, (54, (1, (0, (0, []))))))))))
def pr_y22 : MethodName := ⟨"OrphanTree", "accept", "(II)Z"⟩
def pr_i22 : ev_Im := (pr_y22, (prog_1_method_23_code, ((some .boolean), [])))
noncomputable def pr_m22 : ev_M := (5, (3, (18, ([], pr_c22))))
/-- OrphanTree.move(II)I -/
noncomputable def pr_c23 : Nat → ev_E := (ev_ct 8 (ev_ct 5 (ev_ct 1 (ev_ct 0 (pr_q 0 (7, (1, (0, (0, (0, [])))))) (pr_q 1 (6, (2, (1, (0, (0, []))))))) (ev_ct 2 (pr_q 2 (35, (5, (65, (2, (7, [1, 6])))))) (pr_q 5 (10, (6, (3, (0, (0, [])))))))) (ev_ct 7 (ev_ct 6 (pr_q 6 (7, (7, (0, (0, (0, [])))))) (pr_q 7 (6, (8, (2, (0, (0, []))))))) (pr_q 8 (35, (11, (65, (2, (7, [1, 6])))))))) (ev_ct 14 (ev_ct 13 (ev_ct 11 (pr_q 11 (10, (13, (4, (0, (0, [])))))) (pr_q 13 (7, (14, (3, (0, (0, []))))))) (pr_q 14 (35, (17, (236, (1, (4, [0, 0]))))))) (ev_ct 59 (ev_ct 17 (pr_q 17 (16, (20, (0, (59, (20, [])))))) (pr_q 59 (1, (60, (0, (0, (0, []))))))) (pr_q 60 (35, (63, (67, (1, (0, [1, 6])))))))))
def pr_y23 : MethodName := ⟨"OrphanTree", "move", "(II)I"⟩
def pr_i23 : ev_Im := (pr_y23, (prog_1_method_24_code, ((some .int), [])))
noncomputable def pr_m23 : ev_M := (6, (3, (18, ([], pr_c23))))
/-- OrphanTree.setCapacity(II)I -/
noncomputable def pr_c24 : Nat → ev_E := (ev_ct 20 (ev_ct 7 (ev_ct 2 (ev_ct 1 (ev_ct 0 (pr_q 0 (7, (1, (0, (0, (0, [])))))) (pr_q 1 (6, (2, (1, (0, (0, []))))))) (pr_q 2 (35, (5, (65, (2, (7, [1, 6]))))))) (ev_ct 6 (ev_ct 5 (pr_q 5 (10, (6, (3, (0, (0, [])))))) (pr_q 6 (6, (7, (2, (0, (0, []))))))) (pr_q 7 (1, (9, (9, (0, (0, [])))))))) (ev_ct 13 (ev_ct 12 (ev_ct 9 (pr_q 9 (35, (12, (66, (2, (0, [1, 6])))))) (pr_q 12 (7, (13, (3, (0, (0, []))))))) (pr_q 13 (35, (16, (235, (1, (4, [0, 0]))))))) (ev_ct 19 (ev_ct 16 (pr_q 16 (35, (19, (67, (1, (0, [1, 6])))))) (pr_q 19 (7, (20, (0, (0, (0, []))))))) (pr_q 20 (24, (23, (6, (3, (0, []))))))))) (ev_ct 34 (ev_ct 27 (ev_ct 24 (ev_ct 23 (pr_q 23 (7, (24, (0, (0, (0, [])))))) (pr_q 24 (24, (27, (6, (0, (0, []))))))) (pr_q 27 (35, (30, (219, (2, (1, [0, 0]))))))) (ev_ct 31 (ev_ct 30 (pr_q 30 (7, (31, (3, (0, (0, [])))))) (pr_q 31 (24, (34, (3, (4, (0, []))))))) (pr_q 34 (9, (36, (4, (0, (0, [])))))))) (ev_ct 38 (ev_ct 37 (ev_ct 36 (pr_q 36 (7, (37, (3, (0, (0, [])))))) (pr_q 37 (6, (38, (2, (0, (0, []))))))) (pr_q 38 (25, (41, (3, (4, (0, []))))))) (ev_ct 41 (pr_q 41 (6, (43, (4, (0, (0, [])))))) (pr_q 43 (39, (44, (0, (0, (0, []))))))))))
def pr_y24 : MethodName := ⟨"OrphanTree", "setCapacity", "(II)I"⟩
def pr_i24 : ev_Im := (pr_y24, (prog_1_method_25_code, ((some .int), [])))
noncomputable def pr_m24 : ev_M := (5, (3, (18, ([], pr_c24))))
/-- OrphanTree.setBudget(II)I -/
noncomputable def pr_c25 : Nat → ev_E := (ev_ct 20 (ev_ct 7 (ev_ct 2 (ev_ct 1 (ev_ct 0 (pr_q 0 (7, (1, (0, (0, (0, [])))))) (pr_q 1 (6, (2, (1, (0, (0, []))))))) (pr_q 2 (35, (5, (65, (2, (7, [1, 6]))))))) (ev_ct 6 (ev_ct 5 (pr_q 5 (10, (6, (3, (0, (0, [])))))) (pr_q 6 (6, (7, (2, (0, (0, []))))))) (pr_q 7 (1, (9, (9, (0, (0, [])))))))) (ev_ct 13 (ev_ct 12 (ev_ct 9 (pr_q 9 (35, (12, (66, (2, (0, [1, 6])))))) (pr_q 12 (7, (13, (3, (0, (0, []))))))) (pr_q 13 (35, (16, (235, (1, (4, [0, 0]))))))) (ev_ct 19 (ev_ct 16 (pr_q 16 (35, (19, (67, (1, (0, [1, 6])))))) (pr_q 19 (7, (20, (0, (0, (0, []))))))) (pr_q 20 (24, (23, (6, (3, (0, []))))))))) (ev_ct 34 (ev_ct 27 (ev_ct 24 (ev_ct 23 (pr_q 23 (7, (24, (0, (0, (0, [])))))) (pr_q 24 (24, (27, (6, (0, (0, []))))))) (pr_q 27 (35, (30, (219, (2, (1, [0, 0]))))))) (ev_ct 31 (ev_ct 30 (pr_q 30 (7, (31, (3, (0, (0, [])))))) (pr_q 31 (24, (34, (3, (6, (0, []))))))) (pr_q 34 (9, (36, (4, (0, (0, [])))))))) (ev_ct 38 (ev_ct 37 (ev_ct 36 (pr_q 36 (7, (37, (3, (0, (0, [])))))) (pr_q 37 (6, (38, (2, (0, (0, []))))))) (pr_q 38 (25, (41, (3, (6, (0, []))))))) (ev_ct 41 (pr_q 41 (6, (43, (4, (0, (0, [])))))) (pr_q 43 (39, (44, (0, (0, (0, []))))))))))
def pr_y25 : MethodName := ⟨"OrphanTree", "setBudget", "(II)I"⟩
def pr_i25 : ev_Im := (pr_y25, (prog_1_method_26_code, ((some .int), [])))
noncomputable def pr_m25 : ev_M := (5, (3, (18, ([], pr_c25))))
/-- OrphanTree.setHeir(II)I -/
noncomputable def pr_c26 : Nat → ev_E := (ev_ct 11 (ev_ct 5 (ev_ct 1 (ev_ct 0 (pr_q 0 (7, (1, (0, (0, (0, [])))))) (pr_q 1 (6, (2, (1, (0, (0, []))))))) (ev_ct 2 (pr_q 2 (35, (5, (65, (2, (7, [1, 6])))))) (pr_q 5 (10, (6, (3, (0, (0, [])))))))) (ev_ct 7 (ev_ct 6 (pr_q 6 (6, (7, (2, (0, (0, [])))))) (pr_q 7 (1, (8, (4294967295, (0, (0, []))))))) (ev_ct 8 (pr_q 8 (17, (11, (0, (31, (11, [])))))) (pr_q 11 (7, (12, (0, (0, (0, []))))))))) (ev_ct 17 (ev_ct 13 (ev_ct 12 (pr_q 12 (6, (13, (2, (0, (0, [])))))) (pr_q 13 (35, (16, (65, (2, (7, [1, 6]))))))) (ev_ct 16 (pr_q 16 (7, (17, (3, (0, (0, [])))))) (pr_q 17 (18, (20, (0, (20, (31, [])))))))) (ev_ct 31 (ev_ct 20 (pr_q 20 (37, (0, (0, (0, (0, [])))))) (pr_q 31 (7, (32, (3, (0, (0, []))))))) (ev_ct 32 (pr_q 32 (35, (35, (236, (1, (4, [0, 0])))))) (pr_q 35 (35, (38, (67, (1, (0, [1, 6]))))))))))
def pr_y26 : MethodName := ⟨"OrphanTree", "setHeir", "(II)I"⟩
def pr_i26 : ev_Im := (pr_y26, (prog_1_method_27_code, ((some .int), [])))
noncomputable def pr_m26 : ev_M := (5, (3, (18, ([], pr_c26))))
/-- OrphanTree.give(II)I -/
noncomputable def pr_c27 : Nat → ev_E := (ev_ct 24 (ev_ct 11 (ev_ct 6 (ev_ct 1 (ev_ct 0 (pr_q 0 (6, (1, (1, (0, (0, [])))))) (pr_q 1 (1, (3, (7, (0, (0, []))))))) (ev_ct 3 (pr_q 3 (35, (6, (66, (2, (0, [1, 6])))))) (pr_q 6 (7, (7, (0, (0, (0, [])))))))) (ev_ct 8 (ev_ct 7 (pr_q 7 (6, (8, (2, (0, (0, [])))))) (pr_q 8 (35, (11, (65, (2, (7, [1, 6]))))))) (pr_q 11 (10, (12, (3, (0, (0, [])))))))) (ev_ct 19 (ev_ct 13 (ev_ct 12 (pr_q 12 (7, (13, (3, (0, (0, [])))))) (pr_q 13 (35, (16, (235, (1, (4, [0, 0]))))))) (ev_ct 16 (pr_q 16 (35, (19, (67, (1, (0, [1, 6])))))) (pr_q 19 (7, (20, (0, (0, (0, [])))))))) (ev_ct 23 (ev_ct 20 (pr_q 20 (24, (23, (6, (3, (0, [])))))) (pr_q 23 (7, (24, (0, (0, (0, []))))))) (pr_q 24 (24, (27, (6, (0, (0, []))))))))) (ev_ct 41 (ev_ct 34 (ev_ct 30 (ev_ct 27 (pr_q 27 (35, (30, (219, (2, (1, [0, 0])))))) (pr_q 30 (7, (31, (0, (0, (0, []))))))) (ev_ct 31 (pr_q 31 (24, (34, (6, (0, (0, [])))))) (pr_q 34 (6, (35, (1, (0, (0, [])))))))) (ev_ct 38 (ev_ct 35 (pr_q 35 (35, (38, (283, (2, (6, [0, 0])))))) (pr_q 38 (24, (41, (3, (0, (0, []))))))) (pr_q 41 (9, (43, (4, (0, (0, [])))))))) (ev_ct 48 (ev_ct 44 (ev_ct 43 (pr_q 43 (7, (44, (0, (0, (0, [])))))) (pr_q 44 (24, (47, (6, (0, (0, []))))))) (ev_ct 47 (pr_q 47 (6, (48, (1, (0, (0, [])))))) (pr_q 48 (7, (49, (3, (0, (0, [])))))))) (ev_ct 52 (ev_ct 49 (pr_q 49 (35, (52, (284, (3, (6, [0, 0])))))) (pr_q 52 (6, (54, (4, (0, (0, []))))))) (pr_q 54 (39, (55, (0, (0, (0, []))))))))))
def pr_y27 : MethodName := ⟨"OrphanTree", "give", "(II)I"⟩
def pr_i27 : ev_Im := (pr_y27, (prog_1_method_28_code, ((some .int), [])))
noncomputable def pr_m27 : ev_M := (5, (3, (18, ([], pr_c27))))
/-- OrphanTree.adopter(I)I -/
noncomputable def pr_c28 : Nat → ev_E := (ev_ct 5 (ev_ct 1 (ev_ct 0 (pr_q 0 (7, (1, (0, (0, (0, [])))))) (pr_q 1 (6, (2, (1, (0, (0, []))))))) (ev_ct 2 (pr_q 2 (35, (5, (65, (2, (7, [1, 6])))))) (pr_q 5 (10, (6, (2, (0, (0, [])))))))) (ev_ct 7 (ev_ct 6 (pr_q 6 (7, (7, (2, (0, (0, [])))))) (pr_q 7 (35, (10, (236, (1, (4, [0, 0]))))))) (pr_q 10 (35, (13, (67, (1, (0, [1, 6]))))))))
def pr_y28 : MethodName := ⟨"OrphanTree", "adopter", "(I)I"⟩
def pr_i28 : ev_Im := (pr_y28, (prog_1_method_29_code, ((some .int), [])))
noncomputable def pr_m28 : ev_M := (3, (2, (12, ([], pr_c28))))
/-- OrphanTree.heirNow(I)I -/
noncomputable def pr_c29 : Nat → ev_E := (ev_ct 5 (ev_ct 1 (ev_ct 0 (pr_q 0 (7, (1, (0, (0, (0, [])))))) (pr_q 1 (6, (2, (1, (0, (0, []))))))) (ev_ct 2 (pr_q 2 (35, (5, (65, (2, (7, [1, 6])))))) (pr_q 5 (10, (6, (2, (0, (0, [])))))))) (ev_ct 7 (ev_ct 6 (pr_q 6 (7, (7, (2, (0, (0, [])))))) (pr_q 7 (35, (10, (236, (1, (4, [0, 0]))))))) (pr_q 10 (35, (13, (67, (1, (0, [1, 6]))))))))
def pr_y29 : MethodName := ⟨"OrphanTree", "heirNow", "(I)I"⟩
def pr_i29 : ev_Im := (pr_y29, (prog_1_method_30_code, ((some .int), [])))
noncomputable def pr_m29 : ev_M := (3, (2, (12, ([], pr_c29))))
/-- OrphanTree.wouldFall(II)I -/
noncomputable def pr_c30 : Nat → ev_E := (ev_ct 1 (ev_ct 0 (pr_q 0 (7, (1, (0, (0, (0, [])))))) (pr_q 1 (6, (2, (1, (0, (0, []))))))) (ev_ct 2 (pr_q 2 (6, (3, (2, (0, (0, [])))))) (pr_q 3 (35, (6, (69, (3, (7, [3, 18]))))))))
def pr_y30 : MethodName := ⟨"OrphanTree", "wouldFall", "(II)I"⟩
def pr_i30 : ev_Im := (pr_y30, (prog_1_method_31_code, ((some .int), [])))
noncomputable def pr_m30 : ev_M := (3, (3, (18, ([], pr_c30))))
/-- OrphanTree.wouldStand(II)I -/
noncomputable def pr_c31 : Nat → ev_E := (ev_ct 1 (ev_ct 0 (pr_q 0 (7, (1, (0, (0, (0, [])))))) (pr_q 1 (6, (2, (1, (0, (0, []))))))) (ev_ct 2 (pr_q 2 (6, (3, (2, (0, (0, [])))))) (pr_q 3 (35, (6, (69, (3, (7, [3, 18]))))))))
def pr_y31 : MethodName := ⟨"OrphanTree", "wouldStand", "(II)I"⟩
def pr_i31 : ev_Im := (pr_y31, (prog_1_method_32_code, ((some .int), [])))
noncomputable def pr_m31 : ev_M := (3, (3, (18, ([], pr_c31))))
/-- OrphanTree.wouldHave(III)I -/
noncomputable def pr_c32 : Nat → ev_E := (ev_ct 5 (ev_ct 1 (ev_ct 0 (pr_q 0 (7, (1, (0, (0, (0, [])))))) (pr_q 1 (6, (2, (1, (0, (0, []))))))) (ev_ct 2 (pr_q 2 (35, (5, (65, (2, (7, [1, 6])))))) (pr_q 5 (23, (6, (0, (0, (0, [])))))))) (ev_ct 7 (ev_ct 6 (pr_q 6 (7, (7, (0, (0, (0, [])))))) (pr_q 7 (6, (8, (2, (0, (0, []))))))) (ev_ct 8 (pr_q 8 (6, (9, (3, (0, (0, [])))))) (pr_q 9 (35, (12, (69, (3, (7, [3, 18])))))))))
def pr_y32 : MethodName := ⟨"OrphanTree", "wouldHave", "(III)I"⟩
def pr_i32 : ev_Im := (pr_y32, (prog_1_method_33_code, ((some .int), [])))
noncomputable def pr_m32 : ev_M := (5, (4, (24, ([], pr_c32))))
/-- OrphanTree.wouldFallBy(II)I -/
noncomputable def pr_c33 : Nat → ev_E := (ev_ct 20 (ev_ct 9 (ev_ct 2 (ev_ct 1 (ev_ct 0 (pr_q 0 (6, (1, (1, (0, (0, [])))))) (pr_q 1 (6, (2, (2, (0, (0, []))))))) (pr_q 2 (35, (5, (70, (2, (0, [2, 12]))))))) (ev_ct 6 (ev_ct 5 (pr_q 5 (7, (6, (0, (0, (0, [])))))) (pr_q 6 (24, (9, (6, (1, (0, []))))))) (pr_q 9 (7, (10, (0, (0, (0, [])))))))) (ev_ct 16 (ev_ct 13 (ev_ct 10 (pr_q 10 (24, (13, (6, (0, (0, [])))))) (pr_q 13 (35, (16, (273, (2, (6, [0, 0]))))))) (pr_q 16 (7, (17, (0, (0, (0, []))))))) (ev_ct 17 (pr_q 17 (24, (20, (6, (1, (0, [])))))) (pr_q 20 (6, (21, (1, (0, (0, []))))))))) (ev_ct 30 (ev_ct 25 (ev_ct 22 (ev_ct 21 (pr_q 21 (6, (22, (2, (0, (0, [])))))) (pr_q 22 (35, (25, (299, (3, (6, [0, 0]))))))) (pr_q 25 (23, (26, (0, (0, (0, []))))))) (ev_ct 27 (ev_ct 26 (pr_q 26 (7, (27, (0, (0, (0, [])))))) (pr_q 27 (24, (30, (6, (1, (0, []))))))) (pr_q 30 (24, (33, (5, (8, (0, [])))))))) (ev_ct 37 (ev_ct 34 (ev_ct 33 (pr_q 33 (7, (34, (0, (0, (0, [])))))) (pr_q 34 (24, (37, (6, (0, (0, []))))))) (pr_q 37 (24, (40, (5, (8, (0, []))))))) (ev_ct 40 (pr_q 40 (14, (41, (0, (0, (0, [])))))) (pr_q 41 (39, (42, (0, (0, (0, []))))))))))
def pr_y33 : MethodName := ⟨"OrphanTree", "wouldFallBy", "(II)I"⟩
def pr_i33 : ev_Im := (pr_y33, (prog_1_method_34_code, ((some .int), [])))
noncomputable def pr_m33 : ev_M := (3, (2, (12, ([], pr_c33))))
/-- OrphanTree.weakest(I)I -/
noncomputable def pr_c34 : Nat → ev_E := (ev_ct 30 (ev_ct 12 (ev_ct 8 (ev_ct 4 (ev_ct 1 (ev_ct 0 (pr_q 0 (6, (1, (1, (0, (0, [])))))) (pr_q 1 (1, (4, (255, (0, (0, []))))))) (pr_q 4 (35, (7, (66, (2, (0, [1, 6]))))))) (ev_ct 7 (pr_q 7 (1, (8, (4294967295, (0, (0, [])))))) (pr_q 8 (9, (9, (2, (0, (0, [])))))))) (ev_ct 10 (ev_ct 9 (pr_q 9 (1, (10, (4294967295, (0, (0, [])))))) (pr_q 10 (9, (11, (3, (0, (0, []))))))) (ev_ct 11 (pr_q 11 (7, (12, (0, (0, (0, [])))))) (pr_q 12 (24, (15, (6, (0, (0, []))))))))) (ev_ct 23 (ev_ct 20 (ev_ct 18 (ev_ct 15 (pr_q 15 (24, (18, (5, (1, (0, [])))))) (pr_q 18 (10, (20, (4, (0, (0, []))))))) (pr_q 20 (7, (22, (4, (0, (0, []))))))) (ev_ct 22 (pr_q 22 (26, (23, (0, (0, (0, [])))))) (pr_q 23 (9, (25, (5, (0, (0, [])))))))) (ev_ct 26 (ev_ct 25 (pr_q 25 (1, (26, (0, (0, (0, [])))))) (pr_q 26 (9, (28, (6, (0, (0, []))))))) (ev_ct 28 (pr_q 28 (6, (30, (6, (0, (0, [])))))) (pr_q 30 (6, (32, (5, (0, (0, [])))))))))) (ev_ct 63 (ev_ct 40 (ev_ct 37 (ev_ct 35 (ev_ct 32 (pr_q 32 (17, (35, (1, (35, (87, [])))))) (pr_q 35 (7, (37, (4, (0, (0, []))))))) (pr_q 37 (6, (39, (6, (0, (0, []))))))) (ev_ct 39 (pr_q 39 (29, (40, (24, (25, (0, [])))))) (pr_q 40 (10, (42, (7, (0, (0, [])))))))) (ev_ct 44 (ev_ct 42 (pr_q 42 (7, (44, (7, (0, (0, [])))))) (pr_q 44 (35, (47, (236, (1, (4, [0, 0]))))))) (ev_ct 47 (pr_q 47 (16, (50, (0, (63, (50, [])))))) (pr_q 63 (1, (64, (4294967295, (0, (0, []))))))))) (ev_ct 69 (ev_ct 66 (ev_ct 64 (pr_q 64 (9, (66, (8, (0, (0, [])))))) (pr_q 66 (6, (68, (8, (0, (0, []))))))) (ev_ct 68 (pr_q 68 (6, (69, (3, (0, (0, [])))))) (pr_q 69 (17, (72, (2, (72, (81, [])))))))) (ev_ct 84 (ev_ct 81 (pr_q 81 (12, (84, (6, (1, (0, [])))))) (pr_q 84 (20, (28, (0, (0, (0, []))))))) (ev_ct 87 (pr_q 87 (6, (88, (2, (0, (0, [])))))) (pr_q 88 (39, (89, (0, (0, (0, [])))))))))))
def pr_y34 : MethodName := ⟨"OrphanTree", "weakest", "(I)I"⟩
def pr_i34 : ev_Im := (pr_y34, (prog_1_method_35_code, ((some .int), [])))
noncomputable def pr_m34 : ev_M := (9, (1, (6, ([], pr_c34))))
/-- OrphanTree.roomiest(I)I -/
noncomputable def pr_c35 : Nat → ev_E := (ev_ct 24 (ev_ct 10 (ev_ct 6 (ev_ct 1 (ev_ct 0 (pr_q 0 (6, (1, (1, (0, (0, [])))))) (pr_q 1 (1, (3, (9, (0, (0, []))))))) (ev_ct 3 (pr_q 3 (35, (6, (66, (2, (0, [1, 6])))))) (pr_q 6 (1, (7, (4294967295, (0, (0, [])))))))) (ev_ct 8 (ev_ct 7 (pr_q 7 (9, (8, (2, (0, (0, [])))))) (pr_q 8 (1, (9, (0, (0, (0, []))))))) (ev_ct 9 (pr_q 9 (9, (10, (3, (0, (0, [])))))) (pr_q 10 (7, (11, (0, (0, (0, []))))))))) (ev_ct 19 (ev_ct 14 (ev_ct 11 (pr_q 11 (24, (14, (6, (0, (0, [])))))) (pr_q 14 (24, (17, (5, (1, (0, []))))))) (ev_ct 17 (pr_q 17 (10, (19, (4, (0, (0, [])))))) (pr_q 19 (7, (21, (4, (0, (0, [])))))))) (ev_ct 22 (ev_ct 21 (pr_q 21 (26, (22, (0, (0, (0, [])))))) (pr_q 22 (9, (24, (5, (0, (0, []))))))) (pr_q 24 (1, (25, (0, (0, (0, []))))))))) (ev_ct 39 (ev_ct 31 (ev_ct 27 (ev_ct 25 (pr_q 25 (9, (27, (6, (0, (0, [])))))) (pr_q 27 (6, (29, (6, (0, (0, []))))))) (ev_ct 29 (pr_q 29 (6, (31, (5, (0, (0, [])))))) (pr_q 31 (17, (34, (1, (34, (85, [])))))))) (ev_ct 36 (ev_ct 34 (pr_q 34 (7, (36, (4, (0, (0, [])))))) (pr_q 36 (6, (38, (6, (0, (0, []))))))) (ev_ct 38 (pr_q 38 (29, (39, (24, (25, (0, [])))))) (pr_q 39 (10, (41, (7, (0, (0, []))))))))) (ev_ct 79 (ev_ct 43 (ev_ct 41 (pr_q 41 (7, (43, (7, (0, (0, [])))))) (pr_q 43 (35, (46, (236, (1, (4, [0, 0]))))))) (ev_ct 46 (pr_q 46 (16, (49, (0, (79, (49, [])))))) (pr_q 79 (12, (82, (6, (1, (0, [])))))))) (ev_ct 85 (ev_ct 82 (pr_q 82 (20, (27, (0, (0, (0, [])))))) (pr_q 85 (6, (86, (2, (0, (0, []))))))) (pr_q 86 (39, (87, (0, (0, (0, []))))))))))
def pr_y35 : MethodName := ⟨"OrphanTree", "roomiest", "(I)I"⟩
def pr_i35 : ev_Im := (pr_y35, (prog_1_method_36_code, ((some .int), [])))
noncomputable def pr_m35 : ev_M := (8, (1, (6, ([], pr_c35))))
/-- OrphanTree.allRoom()I -/
noncomputable def pr_c36 : Nat → ev_E := (ev_ct 19 (ev_ct 10 (ev_ct 3 (ev_ct 1 (ev_ct 0 (pr_q 0 (1, (1, (0, (0, (0, [])))))) (pr_q 1 (9, (2, (1, (0, (0, []))))))) (ev_ct 2 (pr_q 2 (7, (3, (0, (0, (0, [])))))) (pr_q 3 (24, (6, (6, (0, (0, [])))))))) (ev_ct 9 (ev_ct 6 (pr_q 6 (24, (9, (5, (1, (0, [])))))) (pr_q 9 (10, (10, (2, (0, (0, []))))))) (pr_q 10 (7, (11, (2, (0, (0, [])))))))) (ev_ct 14 (ev_ct 12 (ev_ct 11 (pr_q 11 (26, (12, (0, (0, (0, [])))))) (pr_q 12 (9, (13, (3, (0, (0, []))))))) (ev_ct 13 (pr_q 13 (1, (14, (0, (0, (0, [])))))) (pr_q 14 (9, (16, (4, (0, (0, [])))))))) (ev_ct 18 (ev_ct 16 (pr_q 16 (6, (18, (4, (0, (0, [])))))) (pr_q 18 (6, (19, (3, (0, (0, []))))))) (pr_q 19 (17, (22, (1, (22, (42, []))))))))) (ev_ct 31 (ev_ct 26 (ev_ct 23 (ev_ct 22 (pr_q 22 (7, (23, (2, (0, (0, [])))))) (pr_q 23 (6, (25, (4, (0, (0, []))))))) (ev_ct 25 (pr_q 25 (29, (26, (24, (25, (0, [])))))) (pr_q 26 (10, (28, (5, (0, (0, [])))))))) (ev_ct 29 (ev_ct 28 (pr_q 28 (6, (29, (1, (0, (0, [])))))) (pr_q 29 (7, (31, (5, (0, (0, []))))))) (pr_q 31 (35, (34, (242, (1, (4, [0, 0])))))))) (ev_ct 36 (ev_ct 35 (ev_ct 34 (pr_q 34 (13, (35, (0, (0, (0, [])))))) (pr_q 35 (9, (36, (1, (0, (0, []))))))) (pr_q 36 (12, (39, (4, (1, (0, []))))))) (ev_ct 42 (ev_ct 39 (pr_q 39 (20, (16, (0, (0, (0, [])))))) (pr_q 42 (6, (43, (1, (0, (0, []))))))) (pr_q 43 (39, (44, (0, (0, (0, []))))))))))
def pr_y36 : MethodName := ⟨"OrphanTree", "allRoom", "()I"⟩
def pr_i36 : ev_Im := (pr_y36, (prog_1_method_37_code, ((some .int), [])))
noncomputable def pr_m36 : ev_M := (6, (0, (0, ([], pr_c36))))
/-- OrphanTree.overfull()I -/
noncomputable def pr_c37 : Nat → ev_E := (ev_ct 22 (ev_ct 11 (ev_ct 3 (ev_ct 1 (ev_ct 0 (pr_q 0 (1, (1, (0, (0, (0, [])))))) (pr_q 1 (9, (2, (1, (0, (0, []))))))) (ev_ct 2 (pr_q 2 (7, (3, (0, (0, (0, [])))))) (pr_q 3 (24, (6, (6, (0, (0, [])))))))) (ev_ct 9 (ev_ct 6 (pr_q 6 (24, (9, (5, (1, (0, [])))))) (pr_q 9 (10, (10, (2, (0, (0, []))))))) (ev_ct 10 (pr_q 10 (7, (11, (2, (0, (0, [])))))) (pr_q 11 (26, (12, (0, (0, (0, []))))))))) (ev_ct 16 (ev_ct 13 (ev_ct 12 (pr_q 12 (9, (13, (3, (0, (0, [])))))) (pr_q 13 (1, (14, (0, (0, (0, []))))))) (ev_ct 14 (pr_q 14 (9, (16, (4, (0, (0, [])))))) (pr_q 16 (6, (18, (4, (0, (0, [])))))))) (ev_ct 19 (ev_ct 18 (pr_q 18 (6, (19, (3, (0, (0, [])))))) (pr_q 19 (17, (22, (1, (22, (58, []))))))) (pr_q 22 (7, (23, (2, (0, (0, []))))))))) (ev_ct 38 (ev_ct 28 (ev_ct 25 (ev_ct 23 (pr_q 23 (6, (25, (4, (0, (0, [])))))) (pr_q 25 (29, (26, (24, (25, (0, []))))))) (ev_ct 26 (pr_q 26 (10, (28, (5, (0, (0, [])))))) (pr_q 28 (7, (30, (5, (0, (0, [])))))))) (ev_ct 33 (ev_ct 30 (pr_q 30 (35, (33, (235, (1, (4, [0, 0])))))) (pr_q 33 (16, (36, (0, (52, (36, []))))))) (ev_ct 36 (pr_q 36 (7, (38, (5, (0, (0, [])))))) (pr_q 38 (24, (41, (3, (3, (0, []))))))))) (ev_ct 52 (ev_ct 43 (ev_ct 41 (pr_q 41 (7, (43, (5, (0, (0, [])))))) (pr_q 43 (24, (46, (3, (4, (0, []))))))) (ev_ct 46 (pr_q 46 (17, (49, (2, (49, (52, [])))))) (pr_q 52 (12, (55, (4, (1, (0, [])))))))) (ev_ct 58 (ev_ct 55 (pr_q 55 (20, (16, (0, (0, (0, [])))))) (pr_q 58 (6, (59, (1, (0, (0, []))))))) (pr_q 59 (39, (60, (0, (0, (0, []))))))))))
def pr_y37 : MethodName := ⟨"OrphanTree", "overfull", "()I"⟩
def pr_i37 : ev_Im := (pr_y37, (prog_1_method_38_code, ((some .int), [])))
noncomputable def pr_m37 : ev_M := (6, (0, (0, ([], pr_c37))))
/-- OrphanTree.ofGroup(I)I -/
noncomputable def pr_c38 : Nat → ev_E := (ev_ct 27 (ev_ct 15 (ev_ct 7 (ev_ct 3 (ev_ct 1 (ev_ct 0 (pr_q 0 (6, (1, (1, (0, (0, [])))))) (pr_q 1 (1, (3, (9, (0, (0, []))))))) (pr_q 3 (35, (6, (66, (2, (0, [1, 6]))))))) (ev_ct 6 (pr_q 6 (1, (7, (0, (0, (0, [])))))) (pr_q 7 (9, (8, (2, (0, (0, [])))))))) (ev_ct 9 (ev_ct 8 (pr_q 8 (7, (9, (0, (0, (0, [])))))) (pr_q 9 (24, (12, (6, (0, (0, []))))))) (ev_ct 12 (pr_q 12 (24, (15, (5, (1, (0, [])))))) (pr_q 15 (10, (16, (3, (0, (0, []))))))))) (ev_ct 20 (ev_ct 17 (ev_ct 16 (pr_q 16 (7, (17, (3, (0, (0, [])))))) (pr_q 17 (26, (18, (0, (0, (0, []))))))) (ev_ct 18 (pr_q 18 (9, (20, (4, (0, (0, [])))))) (pr_q 20 (1, (21, (0, (0, (0, [])))))))) (ev_ct 23 (ev_ct 21 (pr_q 21 (9, (23, (5, (0, (0, [])))))) (pr_q 23 (6, (25, (5, (0, (0, []))))))) (ev_ct 25 (pr_q 25 (6, (27, (4, (0, (0, [])))))) (pr_q 27 (17, (30, (1, (30, (62, [])))))))))) (ev_ct 44 (ev_ct 34 (ev_ct 31 (ev_ct 30 (pr_q 30 (7, (31, (3, (0, (0, [])))))) (pr_q 31 (6, (33, (5, (0, (0, []))))))) (ev_ct 33 (pr_q 33 (29, (34, (24, (25, (0, [])))))) (pr_q 34 (10, (36, (6, (0, (0, [])))))))) (ev_ct 38 (ev_ct 36 (pr_q 36 (7, (38, (6, (0, (0, [])))))) (pr_q 38 (35, (41, (235, (1, (4, [0, 0]))))))) (ev_ct 41 (pr_q 41 (16, (44, (0, (56, (44, [])))))) (pr_q 44 (7, (46, (6, (0, (0, []))))))))) (ev_ct 53 (ev_ct 49 (ev_ct 46 (pr_q 46 (24, (49, (3, (5, (0, [])))))) (pr_q 49 (6, (50, (1, (0, (0, []))))))) (ev_ct 50 (pr_q 50 (17, (53, (0, (53, (56, [])))))) (pr_q 53 (12, (56, (2, (1, (0, [])))))))) (ev_ct 59 (ev_ct 56 (pr_q 56 (12, (59, (5, (1, (0, [])))))) (pr_q 59 (20, (23, (0, (0, (0, []))))))) (ev_ct 62 (pr_q 62 (6, (63, (2, (0, (0, [])))))) (pr_q 63 (39, (64, (0, (0, (0, [])))))))))))
def pr_y38 : MethodName := ⟨"OrphanTree", "ofGroup", "(I)I"⟩
def pr_i38 : ev_Im := (pr_y38, (prog_1_method_39_code, ((some .int), [])))
noncomputable def pr_m38 : ev_M := (7, (1, (6, ([], pr_c38))))
/-- OrphanTree.nextTestament(I)I -/
noncomputable def pr_c39 : Nat → ev_E := (ev_ct 6 (ev_ct 4 (ev_ct 1 (ev_ct 0 (pr_q 0 (7, (1, (0, (0, (0, [])))))) (pr_q 1 (24, (4, (6, (0, (0, []))))))) (pr_q 4 (7, (5, (0, (0, (0, []))))))) (ev_ct 5 (pr_q 5 (6, (6, (1, (0, (0, [])))))) (pr_q 6 (35, (9, (65, (2, (7, [1, 6])))))))) (ev_ct 10 (ev_ct 9 (pr_q 9 (1, (10, (4294967295, (0, (0, [])))))) (pr_q 10 (35, (13, (281, (3, (6, [0, 0]))))))) (ev_ct 13 (pr_q 13 (35, (16, (68, (1, (0, [0, 0])))))) (pr_q 16 (39, (17, (0, (0, (0, [])))))))))
def pr_y39 : MethodName := ⟨"OrphanTree", "nextTestament", "(I)I"⟩
def pr_i39 : ev_Im := (pr_y39, (prog_1_method_40_code, ((some .int), [])))
noncomputable def pr_m39 : ev_M := (2, (1, (6, ([], pr_c39))))
/-- OrphanTree.exited(I)I -/
noncomputable def pr_c40 : Nat → ev_E := (ev_ct 19 (ev_ct 10 (ev_ct 3 (ev_ct 1 (ev_ct 0 (pr_q 0 (2, (1, (0, (0, (0, [])))))) (pr_q 1 (10, (2, (2, (0, (0, []))))))) (ev_ct 2 (pr_q 2 (7, (3, (0, (0, (0, [])))))) (pr_q 3 (24, (6, (6, (0, (0, [])))))))) (ev_ct 9 (ev_ct 6 (pr_q 6 (24, (9, (5, (1, (0, [])))))) (pr_q 9 (10, (10, (3, (0, (0, []))))))) (pr_q 10 (7, (11, (3, (0, (0, [])))))))) (ev_ct 14 (ev_ct 12 (ev_ct 11 (pr_q 11 (26, (12, (0, (0, (0, [])))))) (pr_q 12 (9, (14, (4, (0, (0, []))))))) (pr_q 14 (1, (15, (0, (0, (0, []))))))) (ev_ct 17 (ev_ct 15 (pr_q 15 (9, (17, (5, (0, (0, [])))))) (pr_q 17 (6, (19, (5, (0, (0, []))))))) (pr_q 19 (6, (21, (4, (0, (0, []))))))))) (ev_ct 32 (ev_ct 27 (ev_ct 24 (ev_ct 21 (pr_q 21 (17, (24, (1, (24, (56, [])))))) (pr_q 24 (7, (25, (3, (0, (0, []))))))) (ev_ct 25 (pr_q 25 (6, (27, (5, (0, (0, [])))))) (pr_q 27 (29, (28, (24, (25, (0, [])))))))) (ev_ct 30 (ev_ct 28 (pr_q 28 (10, (30, (6, (0, (0, [])))))) (pr_q 30 (7, (32, (6, (0, (0, []))))))) (pr_q 32 (35, (35, (237, (1, (4, [0, 0])))))))) (ev_ct 53 (ev_ct 50 (ev_ct 35 (pr_q 35 (16, (38, (0, (50, (38, [])))))) (pr_q 50 (12, (53, (5, (1, (0, []))))))) (pr_q 53 (20, (17, (0, (0, (0, []))))))) (ev_ct 57 (ev_ct 56 (pr_q 56 (7, (57, (2, (0, (0, [])))))) (pr_q 57 (19, (60, (0, (60, (71, []))))))) (pr_q 60 (37, (0, (3, (0, (0, []))))))))))
def pr_y40 : MethodName := ⟨"OrphanTree", "exited", "(I)I"⟩
def pr_i40 : ev_Im := (pr_y40, (prog_1_method_41_code, ((some .int), [])))
noncomputable def pr_m40 : ev_M := (7, (1, (6, ([], pr_c40))))
/-- OrphanTree.meanDepth()D -/
noncomputable def pr_c41 : Nat → ev_E := (ev_ct 30 (ev_ct 13 (ev_ct 4 (ev_ct 2 (ev_ct 1 (ev_ct 0 (pr_q 0 (1, (1, (0, (0, (0, [])))))) (pr_q 1 (9, (2, (1, (0, (0, []))))))) (pr_q 2 (1, (3, (0, (0, (0, []))))))) (ev_ct 3 (pr_q 3 (9, (4, (2, (0, (0, [])))))) (pr_q 4 (7, (5, (0, (0, (0, [])))))))) (ev_ct 11 (ev_ct 8 (ev_ct 5 (pr_q 5 (24, (8, (6, (0, (0, [])))))) (pr_q 8 (24, (11, (5, (1, (0, []))))))) (pr_q 11 (10, (12, (3, (0, (0, []))))))) (ev_ct 12 (pr_q 12 (7, (13, (3, (0, (0, [])))))) (pr_q 13 (26, (14, (0, (0, (0, []))))))))) (ev_ct 21 (ev_ct 17 (ev_ct 16 (ev_ct 14 (pr_q 14 (9, (16, (4, (0, (0, [])))))) (pr_q 16 (1, (17, (0, (0, (0, []))))))) (pr_q 17 (9, (19, (5, (0, (0, []))))))) (ev_ct 19 (pr_q 19 (6, (21, (5, (0, (0, [])))))) (pr_q 21 (6, (23, (4, (0, (0, [])))))))) (ev_ct 27 (ev_ct 26 (ev_ct 23 (pr_q 23 (17, (26, (1, (26, (57, [])))))) (pr_q 26 (7, (27, (3, (0, (0, []))))))) (pr_q 27 (6, (29, (5, (0, (0, []))))))) (ev_ct 29 (pr_q 29 (29, (30, (24, (25, (0, [])))))) (pr_q 30 (10, (32, (6, (0, (0, [])))))))))) (ev_ct 51 (ev_ct 41 (ev_ct 37 (ev_ct 34 (ev_ct 32 (pr_q 32 (7, (34, (6, (0, (0, [])))))) (pr_q 34 (35, (37, (235, (1, (4, [0, 0]))))))) (pr_q 37 (16, (40, (0, (51, (40, []))))))) (ev_ct 40 (pr_q 40 (6, (41, (1, (0, (0, [])))))) (pr_q 41 (7, (43, (6, (0, (0, [])))))))) (ev_ct 47 (ev_ct 46 (ev_ct 43 (pr_q 43 (35, (46, (243, (1, (4, [0, 0])))))) (pr_q 46 (13, (47, (0, (0, (0, []))))))) (pr_q 47 (9, (48, (1, (0, (0, []))))))) (ev_ct 48 (pr_q 48 (12, (51, (2, (1, (0, [])))))) (pr_q 51 (12, (54, (5, (1, (0, []))))))))) (ev_ct 66 (ev_ct 58 (ev_ct 57 (ev_ct 54 (pr_q 54 (20, (19, (0, (0, (0, [])))))) (pr_q 57 (6, (58, (2, (0, (0, []))))))) (pr_q 58 (16, (61, (0, (61, (65, []))))))) (ev_ct 65 (pr_q 65 (6, (66, (1, (0, (0, [])))))) (pr_q 66 (43, (67, (2, (0, (0, [])))))))) (ev_ct 68 (ev_ct 67 (pr_q 67 (6, (68, (2, (0, (0, [])))))) (pr_q 68 (43, (69, (2, (0, (0, []))))))) (ev_ct 69 (pr_q 69 (44, (70, (0, (0, (0, [])))))) (pr_q 70 (41, (71, (2, (0, (0, [])))))))))))
def pr_y41 : MethodName := ⟨"OrphanTree", "meanDepth", "()D"⟩
def pr_i41 : ev_Im := (pr_y41, (prog_1_method_42_code, ((some .double), [])))
noncomputable def pr_m41 : ev_M := (7, (0, (0, ([], pr_c41))))
/-- OrphanTree.rootShare()F -/
noncomputable def pr_c42 : Nat → ev_E := (ev_ct 7 (ev_ct 1 (ev_ct 0 (pr_q 0 (7, (1, (0, (0, (0, [])))))) (pr_q 1 (24, (4, (6, (0, (0, []))))))) (ev_ct 4 (pr_q 4 (24, (7, (5, (7, (0, [])))))) (pr_q 7 (16, (10, (0, (10, (14, [])))))))) (ev_ct 11 (ev_ct 10 (pr_q 10 (3, (11, (1, (0, (0, [])))))) (pr_q 11 (20, (31, (0, (0, (0, []))))))) (pr_q 31 (41, (32, (1, (0, (0, []))))))))
def pr_y42 : MethodName := ⟨"OrphanTree", "rootShare", "()F"⟩
def pr_i42 : ev_Im := (pr_y42, (prog_1_method_43_code, ((some .float), [])))
noncomputable def pr_m42 : ev_M := (1, (0, (0, ([], pr_c42))))
/-- OrphanTree.prune(II)I -/
noncomputable def pr_c43 : Nat → ev_E := (ev_ct 20 (ev_ct 7 (ev_ct 2 (ev_ct 1 (ev_ct 0 (pr_q 0 (7, (1, (0, (0, (0, [])))))) (pr_q 1 (6, (2, (1, (0, (0, []))))))) (pr_q 2 (35, (5, (65, (2, (7, [1, 6]))))))) (ev_ct 6 (ev_ct 5 (pr_q 5 (10, (6, (3, (0, (0, [])))))) (pr_q 6 (6, (7, (2, (0, (0, []))))))) (pr_q 7 (1, (10, (255, (0, (0, [])))))))) (ev_ct 14 (ev_ct 13 (ev_ct 10 (pr_q 10 (35, (13, (66, (2, (0, [1, 6])))))) (pr_q 13 (7, (14, (3, (0, (0, []))))))) (pr_q 14 (35, (17, (235, (1, (4, [0, 0]))))))) (ev_ct 17 (pr_q 17 (35, (20, (67, (1, (0, [1, 6])))))) (pr_q 20 (7, (21, (0, (0, (0, []))))))))) (ev_ct 31 (ev_ct 25 (ev_ct 24 (ev_ct 21 (pr_q 21 (24, (24, (6, (3, (0, [])))))) (pr_q 24 (7, (25, (0, (0, (0, []))))))) (pr_q 25 (24, (28, (6, (0, (0, []))))))) (ev_ct 28 (pr_q 28 (35, (31, (219, (2, (1, [0, 0])))))) (pr_q 31 (7, (32, (0, (0, (0, [])))))))) (ev_ct 36 (ev_ct 35 (ev_ct 32 (pr_q 32 (24, (35, (6, (0, (0, [])))))) (pr_q 35 (7, (36, (3, (0, (0, []))))))) (pr_q 36 (6, (37, (2, (0, (0, []))))))) (ev_ct 37 (pr_q 37 (35, (40, (303, (3, (6, [0, 0])))))) (pr_q 40 (39, (41, (0, (0, (0, []))))))))))
def pr_y43 : MethodName := ⟨"OrphanTree", "prune", "(II)I"⟩
def pr_i43 : ev_Im := (pr_y43, (prog_1_method_44_code, ((some .int), [])))
noncomputable def pr_m43 : ev_M := (4, (3, (18, ([], pr_c43))))
/-- OrphanTree.exchange(II)I -/
noncomputable def pr_c44 : Nat → ev_E := (ev_ct 8 (ev_ct 5 (ev_ct 1 (ev_ct 0 (pr_q 0 (7, (1, (0, (0, (0, [])))))) (pr_q 1 (6, (2, (1, (0, (0, []))))))) (ev_ct 2 (pr_q 2 (35, (5, (65, (2, (7, [1, 6])))))) (pr_q 5 (10, (6, (3, (0, (0, [])))))))) (ev_ct 7 (ev_ct 6 (pr_q 6 (7, (7, (0, (0, (0, [])))))) (pr_q 7 (6, (8, (2, (0, (0, []))))))) (pr_q 8 (35, (11, (65, (2, (7, [1, 6])))))))) (ev_ct 14 (ev_ct 13 (ev_ct 11 (pr_q 11 (10, (13, (4, (0, (0, [])))))) (pr_q 13 (7, (14, (3, (0, (0, []))))))) (pr_q 14 (35, (17, (236, (1, (4, [0, 0]))))))) (ev_ct 56 (ev_ct 17 (pr_q 17 (16, (20, (0, (56, (20, [])))))) (pr_q 56 (1, (57, (0, (0, (0, []))))))) (pr_q 57 (35, (60, (67, (1, (0, [1, 6])))))))))
def pr_y44 : MethodName := ⟨"OrphanTree", "exchange", "(II)I"⟩
def pr_i44 : ev_Im := (pr_y44, (prog_1_method_45_code, ((some .int), [])))
noncomputable def pr_m44 : ev_M := (8, (3, (18, ([], pr_c44))))
/-- OrphanTree.readAll(I)I -/
noncomputable def pr_c45 : Nat → ev_E := (ev_ct 14 (ev_ct 6 (ev_ct 2 (ev_ct 1 (ev_ct 0 (pr_q 0 (7, (1, (0, (0, (0, [])))))) (pr_q 1 (6, (2, (1, (0, (0, []))))))) (pr_q 2 (35, (5, (65, (2, (7, [1, 6]))))))) (ev_ct 5 (pr_q 5 (10, (6, (2, (0, (0, [])))))) (pr_q 6 (7, (7, (2, (0, (0, [])))))))) (ev_ct 10 (ev_ct 7 (pr_q 7 (35, (10, (235, (1, (4, [0, 0])))))) (pr_q 10 (35, (13, (67, (1, (0, [1, 6]))))))) (ev_ct 13 (pr_q 13 (7, (14, (0, (0, (0, [])))))) (pr_q 14 (24, (17, (6, (3, (0, []))))))))) (ev_ct 24 (ev_ct 18 (ev_ct 17 (pr_q 17 (7, (18, (0, (0, (0, [])))))) (pr_q 18 (24, (21, (6, (0, (0, []))))))) (ev_ct 21 (pr_q 21 (35, (24, (219, (2, (1, [0, 0])))))) (pr_q 24 (7, (25, (0, (0, (0, [])))))))) (ev_ct 28 (ev_ct 25 (pr_q 25 (24, (28, (6, (0, (0, [])))))) (pr_q 28 (7, (29, (2, (0, (0, []))))))) (ev_ct 29 (pr_q 29 (35, (32, (302, (2, (6, [0, 0])))))) (pr_q 32 (39, (33, (0, (0, (0, []))))))))))
def pr_y45 : MethodName := ⟨"OrphanTree", "readAll", "(I)I"⟩
def pr_i45 : ev_Im := (pr_y45, (prog_1_method_46_code, ((some .int), [])))
noncomputable def pr_m45 : ev_M := (3, (2, (12, ([], pr_c45))))
/-- OrphanTree.testamentsBelow(I)I -/
noncomputable def pr_c46 : Nat → ev_E := (ev_ct 5 (ev_ct 1 (ev_ct 0 (pr_q 0 (7, (1, (0, (0, (0, [])))))) (pr_q 1 (24, (4, (6, (0, (0, []))))))) (ev_ct 4 (pr_q 4 (7, (5, (0, (0, (0, [])))))) (pr_q 5 (6, (6, (1, (0, (0, [])))))))) (ev_ct 9 (ev_ct 6 (pr_q 6 (35, (9, (65, (2, (7, [1, 6])))))) (pr_q 9 (1, (10, (1, (0, (0, []))))))) (ev_ct 10 (pr_q 10 (35, (13, (276, (3, (6, [0, 0])))))) (pr_q 13 (39, (14, (0, (0, (0, [])))))))))
def pr_y46 : MethodName := ⟨"OrphanTree", "testamentsBelow", "(I)I"⟩
def pr_i46 : ev_Im := (pr_y46, (prog_1_method_47_code, ((some .int), [])))
noncomputable def pr_m46 : ev_M := (2, (1, (6, ([], pr_c46))))
/-- OrphanTree.roomBelow(I)I -/
noncomputable def pr_c47 : Nat → ev_E := (ev_ct 27 (ev_ct 12 (ev_ct 6 (ev_ct 2 (ev_ct 1 (ev_ct 0 (pr_q 0 (7, (1, (0, (0, (0, [])))))) (pr_q 1 (6, (2, (1, (0, (0, []))))))) (pr_q 2 (35, (5, (65, (2, (7, [1, 6]))))))) (ev_ct 5 (pr_q 5 (10, (6, (2, (0, (0, [])))))) (pr_q 6 (1, (7, (0, (0, (0, [])))))))) (ev_ct 8 (ev_ct 7 (pr_q 7 (9, (8, (3, (0, (0, [])))))) (pr_q 8 (7, (9, (0, (0, (0, []))))))) (ev_ct 9 (pr_q 9 (24, (12, (6, (0, (0, [])))))) (pr_q 12 (24, (15, (5, (1, (0, []))))))))) (ev_ct 20 (ev_ct 17 (ev_ct 15 (pr_q 15 (10, (17, (4, (0, (0, [])))))) (pr_q 17 (7, (19, (4, (0, (0, []))))))) (ev_ct 19 (pr_q 19 (26, (20, (0, (0, (0, [])))))) (pr_q 20 (9, (22, (5, (0, (0, [])))))))) (ev_ct 23 (ev_ct 22 (pr_q 22 (1, (23, (0, (0, (0, [])))))) (pr_q 23 (9, (25, (6, (0, (0, []))))))) (ev_ct 25 (pr_q 25 (6, (27, (6, (0, (0, [])))))) (pr_q 27 (6, (29, (5, (0, (0, [])))))))))) (ev_ct 44 (ev_ct 36 (ev_ct 32 (ev_ct 29 (pr_q 29 (17, (32, (1, (32, (70, [])))))) (pr_q 32 (7, (34, (4, (0, (0, []))))))) (ev_ct 34 (pr_q 34 (6, (36, (6, (0, (0, [])))))) (pr_q 36 (29, (37, (24, (25, (0, [])))))))) (ev_ct 39 (ev_ct 37 (pr_q 37 (10, (39, (7, (0, (0, [])))))) (pr_q 39 (7, (41, (7, (0, (0, []))))))) (ev_ct 41 (pr_q 41 (35, (44, (235, (1, (4, [0, 0])))))) (pr_q 44 (16, (47, (0, (64, (47, []))))))))) (ev_ct 53 (ev_ct 48 (ev_ct 47 (pr_q 47 (7, (48, (2, (0, (0, [])))))) (pr_q 48 (7, (50, (7, (0, (0, []))))))) (ev_ct 50 (pr_q 50 (35, (53, (244, (2, (4, [0, 0])))))) (pr_q 53 (16, (56, (0, (64, (56, [])))))))) (ev_ct 67 (ev_ct 64 (pr_q 64 (12, (67, (6, (1, (0, [])))))) (pr_q 67 (20, (25, (0, (0, (0, []))))))) (ev_ct 70 (pr_q 70 (6, (71, (3, (0, (0, [])))))) (pr_q 71 (39, (72, (0, (0, (0, [])))))))))))
def pr_y47 : MethodName := ⟨"OrphanTree", "roomBelow", "(I)I"⟩
def pr_i47 : ev_Im := (pr_y47, (prog_1_method_48_code, ((some .int), [])))
noncomputable def pr_m47 : ev_M := (8, (1, (6, ([], pr_c47))))
/-- OrphanTree.mostAdopted()I -/
noncomputable def pr_c48 : Nat → ev_E := (ev_ct 23 (ev_ct 11 (ev_ct 3 (ev_ct 1 (ev_ct 0 (pr_q 0 (1, (1, (4294967295, (0, (0, [])))))) (pr_q 1 (9, (2, (1, (0, (0, []))))))) (ev_ct 2 (pr_q 2 (1, (3, (0, (0, (0, [])))))) (pr_q 3 (9, (4, (2, (0, (0, [])))))))) (ev_ct 5 (ev_ct 4 (pr_q 4 (7, (5, (0, (0, (0, [])))))) (pr_q 5 (24, (8, (6, (0, (0, []))))))) (ev_ct 8 (pr_q 8 (24, (11, (5, (1, (0, [])))))) (pr_q 11 (10, (12, (3, (0, (0, []))))))))) (ev_ct 16 (ev_ct 13 (ev_ct 12 (pr_q 12 (7, (13, (3, (0, (0, [])))))) (pr_q 13 (26, (14, (0, (0, (0, []))))))) (ev_ct 14 (pr_q 14 (9, (16, (4, (0, (0, [])))))) (pr_q 16 (1, (17, (0, (0, (0, [])))))))) (ev_ct 19 (ev_ct 17 (pr_q 17 (9, (19, (5, (0, (0, [])))))) (pr_q 19 (6, (21, (5, (0, (0, []))))))) (ev_ct 21 (pr_q 21 (6, (23, (4, (0, (0, [])))))) (pr_q 23 (17, (26, (1, (26, (67, [])))))))))) (ev_ct 40 (ev_ct 30 (ev_ct 27 (ev_ct 26 (pr_q 26 (7, (27, (3, (0, (0, [])))))) (pr_q 27 (6, (29, (5, (0, (0, []))))))) (ev_ct 29 (pr_q 29 (29, (30, (24, (25, (0, [])))))) (pr_q 30 (10, (32, (6, (0, (0, [])))))))) (ev_ct 34 (ev_ct 32 (pr_q 32 (7, (34, (6, (0, (0, [])))))) (pr_q 34 (35, (37, (235, (1, (4, [0, 0]))))))) (ev_ct 37 (pr_q 37 (16, (40, (0, (61, (40, [])))))) (pr_q 40 (7, (42, (6, (0, (0, []))))))))) (ev_ct 61 (ev_ct 45 (ev_ct 42 (pr_q 42 (24, (45, (3, (11, (0, [])))))) (pr_q 45 (6, (46, (2, (0, (0, []))))))) (ev_ct 46 (pr_q 46 (17, (49, (2, (49, (61, [])))))) (pr_q 61 (12, (64, (5, (1, (0, [])))))))) (ev_ct 67 (ev_ct 64 (pr_q 64 (20, (19, (0, (0, (0, [])))))) (pr_q 67 (6, (68, (1, (0, (0, []))))))) (pr_q 68 (39, (69, (0, (0, (0, []))))))))))
def pr_y48 : MethodName := ⟨"OrphanTree", "mostAdopted", "()I"⟩
def pr_i48 : ev_Im := (pr_y48, (prog_1_method_49_code, ((some .int), [])))
noncomputable def pr_m48 : ev_M := (7, (0, (0, ([], pr_c48))))
/-- OrphanTree.adopters(I)I -/
noncomputable def pr_c49 : Nat → ev_E := (ev_ct 5 (ev_ct 1 (ev_ct 0 (pr_q 0 (7, (1, (0, (0, (0, [])))))) (pr_q 1 (6, (2, (1, (0, (0, []))))))) (ev_ct 2 (pr_q 2 (35, (5, (65, (2, (7, [1, 6])))))) (pr_q 5 (10, (6, (2, (0, (0, [])))))))) (ev_ct 7 (ev_ct 6 (pr_q 6 (7, (7, (2, (0, (0, [])))))) (pr_q 7 (35, (10, (236, (1, (4, [0, 0]))))))) (pr_q 10 (35, (13, (67, (1, (0, [1, 6]))))))))
def pr_y49 : MethodName := ⟨"OrphanTree", "adopters", "(I)I"⟩
def pr_i49 : ev_Im := (pr_y49, (prog_1_method_50_code, ((some .int), [])))
noncomputable def pr_m49 : ev_M := (8, (2, (12, ([], pr_c49))))
/-- OrphanTree.betterCode(I)I -/
noncomputable def pr_c50 : Nat → ev_E := (ev_ct 2 (ev_ct 1 (ev_ct 0 (pr_q 0 (7, (1, (0, (0, (0, [])))))) (pr_q 1 (6, (2, (1, (0, (0, []))))))) (pr_q 2 (35, (5, (65, (2, (7, [1, 6]))))))) (ev_ct 5 (pr_q 5 (35, (8, (236, (1, (4, [0, 0])))))) (pr_q 8 (35, (11, (67, (1, (0, [1, 6]))))))))
def pr_y50 : MethodName := ⟨"OrphanTree", "betterCode", "(I)I"⟩
def pr_i50 : ev_Im := (pr_y50, (prog_1_method_51_code, ((some .int), [])))
noncomputable def pr_m50 : ev_M := (2, (2, (12, ([], pr_c50))))
/-- OrphanTree.wouldRun(II)I -/
noncomputable def pr_c51 : Nat → ev_E := (ev_ct 17 (ev_ct 6 (ev_ct 2 (ev_ct 1 (ev_ct 0 (pr_q 0 (6, (1, (1, (0, (0, [])))))) (pr_q 1 (6, (2, (2, (0, (0, []))))))) (pr_q 2 (35, (5, (70, (2, (0, [2, 12]))))))) (ev_ct 5 (pr_q 5 (7, (6, (0, (0, (0, [])))))) (pr_q 6 (24, (9, (6, (1, (0, [])))))))) (ev_ct 13 (ev_ct 10 (ev_ct 9 (pr_q 9 (7, (10, (0, (0, (0, [])))))) (pr_q 10 (24, (13, (6, (0, (0, []))))))) (pr_q 13 (35, (16, (273, (2, (6, [0, 0]))))))) (ev_ct 16 (pr_q 16 (7, (17, (0, (0, (0, [])))))) (pr_q 17 (24, (20, (6, (1, (0, []))))))))) (ev_ct 26 (ev_ct 22 (ev_ct 21 (ev_ct 20 (pr_q 20 (6, (21, (1, (0, (0, [])))))) (pr_q 21 (6, (22, (2, (0, (0, []))))))) (pr_q 22 (35, (25, (299, (3, (6, [0, 0]))))))) (ev_ct 25 (pr_q 25 (23, (26, (0, (0, (0, [])))))) (pr_q 26 (7, (27, (0, (0, (0, [])))))))) (ev_ct 30 (ev_ct 27 (pr_q 27 (24, (30, (6, (1, (0, [])))))) (pr_q 30 (1, (31, (0, (0, (0, []))))))) (ev_ct 31 (pr_q 31 (35, (34, (275, (2, (6, [0, 0])))))) (pr_q 34 (39, (35, (0, (0, (0, []))))))))))
def pr_y51 : MethodName := ⟨"OrphanTree", "wouldRun", "(II)I"⟩
def pr_i51 : ev_Im := (pr_y51, (prog_1_method_52_code, ((some .int), [])))
noncomputable def pr_m51 : ev_M := (3, (2, (12, ([], pr_c51))))
/-- OrphanTree.readShare()D -/
noncomputable def pr_c52 : Nat → ev_E := (ev_ct 7 (ev_ct 1 (ev_ct 0 (pr_q 0 (7, (1, (0, (0, (0, [])))))) (pr_q 1 (24, (4, (6, (0, (0, []))))))) (ev_ct 4 (pr_q 4 (24, (7, (5, (6, (0, [])))))) (pr_q 7 (16, (10, (0, (10, (14, [])))))))) (ev_ct 11 (ev_ct 10 (pr_q 10 (3, (11, (2, (0, (0, [])))))) (pr_q 11 (20, (32, (0, (0, (0, []))))))) (pr_q 32 (41, (33, (2, (0, (0, []))))))))
def pr_y52 : MethodName := ⟨"OrphanTree", "readShare", "()D"⟩
def pr_i52 : ev_Im := (pr_y52, (prog_1_method_53_code, ((some .double), [])))
noncomputable def pr_m52 : ev_M := (1, (0, (0, ([], pr_c52))))
/-- OrphanTree.apart(II)I -/
noncomputable def pr_c53 : Nat → ev_E := (ev_ct 30 (ev_ct 13 (ev_ct 6 (ev_ct 2 (ev_ct 1 (ev_ct 0 (pr_q 0 (7, (1, (0, (0, (0, [])))))) (pr_q 1 (6, (2, (1, (0, (0, []))))))) (pr_q 2 (35, (5, (65, (2, (7, [1, 6]))))))) (ev_ct 5 (pr_q 5 (10, (6, (3, (0, (0, [])))))) (pr_q 6 (7, (7, (0, (0, (0, [])))))))) (ev_ct 8 (ev_ct 7 (pr_q 7 (6, (8, (2, (0, (0, [])))))) (pr_q 8 (35, (11, (65, (2, (7, [1, 6]))))))) (ev_ct 11 (pr_q 11 (10, (13, (4, (0, (0, [])))))) (pr_q 13 (7, (14, (3, (0, (0, []))))))))) (ev_ct 21 (ev_ct 17 (ev_ct 14 (pr_q 14 (24, (17, (3, (1, (0, [])))))) (pr_q 17 (1, (18, (2, (0, (0, []))))))) (ev_ct 18 (pr_q 18 (17, (21, (0, (34, (21, [])))))) (pr_q 21 (7, (23, (4, (0, (0, [])))))))) (ev_ct 26 (ev_ct 23 (pr_q 23 (24, (26, (3, (1, (0, [])))))) (pr_q 26 (1, (27, (2, (0, (0, []))))))) (ev_ct 27 (pr_q 27 (17, (30, (0, (34, (30, [])))))) (pr_q 30 (1, (31, (1, (0, (0, [])))))))))) (ev_ct 49 (ev_ct 42 (ev_ct 38 (ev_ct 35 (ev_ct 31 (pr_q 31 (20, (35, (0, (0, (0, [])))))) (pr_q 35 (35, (38, (67, (1, (0, [1, 6]))))))) (pr_q 38 (7, (39, (3, (0, (0, []))))))) (ev_ct 39 (pr_q 39 (35, (42, (243, (1, (4, [0, 0])))))) (pr_q 42 (7, (44, (4, (0, (0, [])))))))) (ev_ct 47 (ev_ct 44 (pr_q 44 (35, (47, (243, (1, (4, [0, 0])))))) (pr_q 47 (13, (48, (0, (0, (0, []))))))) (ev_ct 48 (pr_q 48 (1, (49, (2, (0, (0, [])))))) (pr_q 49 (7, (50, (0, (0, (0, []))))))))) (ev_ct 56 (ev_ct 53 (ev_ct 50 (pr_q 50 (24, (53, (6, (0, (0, [])))))) (pr_q 53 (7, (54, (3, (0, (0, []))))))) (ev_ct 54 (pr_q 54 (7, (56, (4, (0, (0, [])))))) (pr_q 56 (35, (59, (279, (3, (6, [0, 0])))))))) (ev_ct 62 (ev_ct 59 (pr_q 59 (35, (62, (243, (1, (4, [0, 0])))))) (pr_q 62 (15, (63, (0, (0, (0, []))))))) (ev_ct 63 (pr_q 63 (14, (64, (0, (0, (0, [])))))) (pr_q 64 (39, (65, (0, (0, (0, [])))))))))))
def pr_y53 : MethodName := ⟨"OrphanTree", "apart", "(II)I"⟩
def pr_i53 : ev_Im := (pr_y53, (prog_1_method_54_code, ((some .int), [])))
noncomputable def pr_m53 : ev_M := (5, (3, (18, ([], pr_c53))))
/-- OrphanTree.relieve(I)I -/
noncomputable def pr_c54 : Nat → ev_E := (ev_ct 5 (ev_ct 1 (ev_ct 0 (pr_q 0 (7, (1, (0, (0, (0, [])))))) (pr_q 1 (6, (2, (1, (0, (0, []))))))) (ev_ct 2 (pr_q 2 (35, (5, (65, (2, (7, [1, 6])))))) (pr_q 5 (10, (6, (2, (0, (0, [])))))))) (ev_ct 7 (ev_ct 6 (pr_q 6 (7, (7, (2, (0, (0, [])))))) (pr_q 7 (35, (10, (236, (1, (4, [0, 0]))))))) (pr_q 10 (35, (13, (67, (1, (0, [1, 6]))))))))
def pr_y54 : MethodName := ⟨"OrphanTree", "relieve", "(I)I"⟩
def pr_i54 : ev_Im := (pr_y54, (prog_1_method_55_code, ((some .int), [])))
noncomputable def pr_m54 : ev_M := (3, (2, (12, ([], pr_c54))))
/-- OrphanTree.wouldHold(III)I -/
noncomputable def pr_c55 : Nat → ev_E := (ev_ct 7 (ev_ct 2 (ev_ct 1 (ev_ct 0 (pr_q 0 (7, (1, (0, (0, (0, [])))))) (pr_q 1 (6, (2, (2, (0, (0, []))))))) (pr_q 2 (35, (5, (65, (2, (7, [1, 6]))))))) (ev_ct 6 (ev_ct 5 (pr_q 5 (23, (6, (0, (0, (0, [])))))) (pr_q 6 (6, (7, (1, (0, (0, []))))))) (pr_q 7 (1, (9, (7, (0, (0, [])))))))) (ev_ct 13 (ev_ct 12 (ev_ct 9 (pr_q 9 (35, (12, (66, (2, (0, [1, 6])))))) (pr_q 12 (7, (13, (0, (0, (0, []))))))) (pr_q 13 (6, (14, (2, (0, (0, []))))))) (ev_ct 14 (pr_q 14 (6, (15, (3, (0, (0, [])))))) (pr_q 15 (35, (18, (69, (3, (7, [3, 18])))))))))
def pr_y55 : MethodName := ⟨"OrphanTree", "wouldHold", "(III)I"⟩
def pr_i55 : ev_Im := (pr_y55, (prog_1_method_56_code, ((some .int), [])))
noncomputable def pr_m55 : ev_M := (4, (5, (30, ([], pr_c55))))
/-- OrphanTree.dutyLife(I)I -/
noncomputable def pr_c56 : Nat → ev_E := (ev_ct 20 (ev_ct 10 (ev_ct 3 (ev_ct 1 (ev_ct 0 (pr_q 0 (6, (1, (1, (0, (0, [])))))) (pr_q 1 (1, (3, (7, (0, (0, []))))))) (pr_q 3 (35, (6, (66, (2, (0, [1, 6]))))))) (ev_ct 7 (ev_ct 6 (pr_q 6 (7, (7, (0, (0, (0, [])))))) (pr_q 7 (24, (10, (6, (1, (0, []))))))) (pr_q 10 (7, (11, (0, (0, (0, [])))))))) (ev_ct 17 (ev_ct 14 (ev_ct 11 (pr_q 11 (24, (14, (6, (0, (0, [])))))) (pr_q 14 (35, (17, (273, (2, (6, [0, 0]))))))) (pr_q 17 (1, (18, (0, (0, (0, []))))))) (ev_ct 19 (ev_ct 18 (pr_q 18 (9, (19, (2, (0, (0, [])))))) (pr_q 19 (6, (20, (2, (0, (0, []))))))) (pr_q 20 (1, (22, (40, (0, (0, []))))))))) (ev_ct 33 (ev_ct 26 (ev_ct 25 (ev_ct 22 (pr_q 22 (17, (25, (1, (25, (66, [])))))) (pr_q 25 (7, (26, (0, (0, (0, []))))))) (pr_q 26 (24, (29, (6, (1, (0, []))))))) (ev_ct 30 (ev_ct 29 (pr_q 29 (6, (30, (1, (0, (0, [])))))) (pr_q 30 (35, (33, (283, (2, (6, [0, 0]))))))) (pr_q 33 (7, (34, (0, (0, (0, [])))))))) (ev_ct 40 (ev_ct 37 (ev_ct 34 (pr_q 34 (24, (37, (6, (1, (0, [])))))) (pr_q 37 (24, (40, (5, (0, (0, []))))))) (pr_q 40 (18, (43, (0, (66, (43, []))))))) (ev_ct 66 (pr_q 66 (6, (67, (2, (0, (0, [])))))) (pr_q 67 (39, (68, (0, (0, (0, []))))))))))
def pr_y56 : MethodName := ⟨"OrphanTree", "dutyLife", "(I)I"⟩
def pr_i56 : ev_Im := (pr_y56, (prog_1_method_57_code, ((some .int), [])))
noncomputable def pr_m56 : ev_M := (3, (1, (6, ([], pr_c56))))
/-- OrphanTree.heaviest(I)I -/
noncomputable def pr_c57 : Nat → ev_E := (ev_ct 30 (ev_ct 12 (ev_ct 6 (ev_ct 2 (ev_ct 1 (ev_ct 0 (pr_q 0 (7, (1, (0, (0, (0, [])))))) (pr_q 1 (6, (2, (1, (0, (0, []))))))) (pr_q 2 (35, (5, (65, (2, (7, [1, 6]))))))) (ev_ct 5 (pr_q 5 (10, (6, (2, (0, (0, [])))))) (pr_q 6 (1, (7, (4294967295, (0, (0, [])))))))) (ev_ct 9 (ev_ct 8 (ev_ct 7 (pr_q 7 (9, (8, (3, (0, (0, [])))))) (pr_q 8 (1, (9, (4294967295, (0, (0, []))))))) (pr_q 9 (9, (11, (4, (0, (0, []))))))) (ev_ct 11 (pr_q 11 (7, (12, (0, (0, (0, [])))))) (pr_q 12 (24, (15, (6, (0, (0, []))))))))) (ev_ct 23 (ev_ct 20 (ev_ct 18 (ev_ct 15 (pr_q 15 (24, (18, (5, (1, (0, [])))))) (pr_q 18 (10, (20, (5, (0, (0, []))))))) (pr_q 20 (7, (22, (5, (0, (0, []))))))) (ev_ct 22 (pr_q 22 (26, (23, (0, (0, (0, [])))))) (pr_q 23 (9, (25, (6, (0, (0, [])))))))) (ev_ct 26 (ev_ct 25 (pr_q 25 (1, (26, (0, (0, (0, [])))))) (pr_q 26 (9, (28, (7, (0, (0, []))))))) (ev_ct 28 (pr_q 28 (6, (30, (7, (0, (0, [])))))) (pr_q 30 (6, (32, (6, (0, (0, [])))))))))) (ev_ct 48 (ev_ct 40 (ev_ct 37 (ev_ct 35 (ev_ct 32 (pr_q 32 (17, (35, (1, (35, (90, [])))))) (pr_q 35 (7, (37, (5, (0, (0, []))))))) (pr_q 37 (6, (39, (7, (0, (0, []))))))) (ev_ct 39 (pr_q 39 (29, (40, (24, (25, (0, [])))))) (pr_q 40 (10, (42, (8, (0, (0, [])))))))) (ev_ct 44 (ev_ct 42 (pr_q 42 (7, (44, (8, (0, (0, [])))))) (pr_q 44 (7, (45, (2, (0, (0, []))))))) (ev_ct 45 (pr_q 45 (35, (48, (238, (2, (4, [0, 0])))))) (pr_q 48 (16, (51, (0, (64, (51, []))))))))) (ev_ct 71 (ev_ct 67 (ev_ct 65 (ev_ct 64 (pr_q 64 (1, (65, (4294967295, (0, (0, [])))))) (pr_q 65 (9, (67, (9, (0, (0, []))))))) (pr_q 67 (6, (69, (9, (0, (0, []))))))) (ev_ct 69 (pr_q 69 (6, (71, (4, (0, (0, [])))))) (pr_q 71 (17, (74, (2, (74, (84, [])))))))) (ev_ct 87 (ev_ct 84 (pr_q 84 (12, (87, (7, (1, (0, [])))))) (pr_q 87 (20, (28, (0, (0, (0, []))))))) (ev_ct 90 (pr_q 90 (6, (91, (3, (0, (0, [])))))) (pr_q 91 (39, (92, (0, (0, (0, [])))))))))))
def pr_y57 : MethodName := ⟨"OrphanTree", "heaviest", "(I)I"⟩
def pr_i57 : ev_Im := (pr_y57, (prog_1_method_58_code, ((some .int), [])))
noncomputable def pr_m57 : ev_M := (10, (1, (6, ([], pr_c57))))
/-- OrphanTree.groupsBelow(I)I -/
noncomputable def pr_c58 : Nat → ev_E := (ev_ct 27 (ev_ct 12 (ev_ct 6 (ev_ct 2 (ev_ct 1 (ev_ct 0 (pr_q 0 (7, (1, (0, (0, (0, [])))))) (pr_q 1 (6, (2, (1, (0, (0, []))))))) (pr_q 2 (35, (5, (65, (2, (7, [1, 6]))))))) (ev_ct 5 (pr_q 5 (10, (6, (2, (0, (0, [])))))) (pr_q 6 (1, (7, (0, (0, (0, [])))))))) (ev_ct 8 (ev_ct 7 (pr_q 7 (9, (8, (3, (0, (0, [])))))) (pr_q 8 (7, (9, (0, (0, (0, []))))))) (ev_ct 9 (pr_q 9 (24, (12, (6, (0, (0, [])))))) (pr_q 12 (24, (15, (5, (1, (0, []))))))))) (ev_ct 20 (ev_ct 17 (ev_ct 15 (pr_q 15 (10, (17, (4, (0, (0, [])))))) (pr_q 17 (7, (19, (4, (0, (0, []))))))) (ev_ct 19 (pr_q 19 (26, (20, (0, (0, (0, [])))))) (pr_q 20 (9, (22, (5, (0, (0, [])))))))) (ev_ct 23 (ev_ct 22 (pr_q 22 (1, (23, (0, (0, (0, [])))))) (pr_q 23 (9, (25, (6, (0, (0, []))))))) (ev_ct 25 (pr_q 25 (6, (27, (6, (0, (0, [])))))) (pr_q 27 (6, (29, (5, (0, (0, [])))))))))) (ev_ct 44 (ev_ct 36 (ev_ct 32 (ev_ct 29 (pr_q 29 (17, (32, (1, (32, (72, [])))))) (pr_q 32 (7, (34, (4, (0, (0, []))))))) (ev_ct 34 (pr_q 34 (6, (36, (6, (0, (0, [])))))) (pr_q 36 (29, (37, (24, (25, (0, [])))))))) (ev_ct 39 (ev_ct 37 (pr_q 37 (10, (39, (7, (0, (0, [])))))) (pr_q 39 (7, (41, (7, (0, (0, []))))))) (ev_ct 41 (pr_q 41 (35, (44, (235, (1, (4, [0, 0])))))) (pr_q 44 (16, (47, (0, (66, (47, []))))))))) (ev_ct 53 (ev_ct 48 (ev_ct 47 (pr_q 47 (7, (48, (2, (0, (0, [])))))) (pr_q 48 (7, (50, (7, (0, (0, []))))))) (ev_ct 50 (pr_q 50 (35, (53, (244, (2, (4, [0, 0])))))) (pr_q 53 (16, (56, (0, (66, (56, [])))))))) (ev_ct 69 (ev_ct 66 (pr_q 66 (12, (69, (6, (1, (0, [])))))) (pr_q 69 (20, (25, (0, (0, (0, []))))))) (ev_ct 72 (pr_q 72 (6, (73, (3, (0, (0, [])))))) (pr_q 73 (39, (74, (0, (0, (0, [])))))))))))
def pr_y58 : MethodName := ⟨"OrphanTree", "groupsBelow", "(I)I"⟩
def pr_i58 : ev_Im := (pr_y58, (prog_1_method_59_code, ((some .int), [])))
noncomputable def pr_m58 : ev_M := (8, (1, (6, ([], pr_c58))))
/-- OrphanTree.strangers(I)I -/
noncomputable def pr_c59 : Nat → ev_E := (ev_ct 23 (ev_ct 9 (ev_ct 5 (ev_ct 1 (ev_ct 0 (pr_q 0 (7, (1, (0, (0, (0, [])))))) (pr_q 1 (6, (2, (1, (0, (0, []))))))) (ev_ct 2 (pr_q 2 (35, (5, (65, (2, (7, [1, 6])))))) (pr_q 5 (10, (6, (2, (0, (0, [])))))))) (ev_ct 7 (ev_ct 6 (pr_q 6 (1, (7, (0, (0, (0, [])))))) (pr_q 7 (9, (8, (3, (0, (0, []))))))) (ev_ct 8 (pr_q 8 (7, (9, (0, (0, (0, [])))))) (pr_q 9 (24, (12, (6, (0, (0, []))))))))) (ev_ct 19 (ev_ct 15 (ev_ct 12 (pr_q 12 (24, (15, (5, (1, (0, [])))))) (pr_q 15 (10, (17, (4, (0, (0, []))))))) (ev_ct 17 (pr_q 17 (7, (19, (4, (0, (0, [])))))) (pr_q 19 (26, (20, (0, (0, (0, [])))))))) (ev_ct 22 (ev_ct 20 (pr_q 20 (9, (22, (5, (0, (0, [])))))) (pr_q 22 (1, (23, (0, (0, (0, []))))))) (pr_q 23 (9, (25, (6, (0, (0, []))))))))) (ev_ct 39 (ev_ct 32 (ev_ct 27 (ev_ct 25 (pr_q 25 (6, (27, (6, (0, (0, [])))))) (pr_q 27 (6, (29, (5, (0, (0, []))))))) (ev_ct 29 (pr_q 29 (17, (32, (1, (32, (69, [])))))) (pr_q 32 (7, (34, (4, (0, (0, [])))))))) (ev_ct 36 (ev_ct 34 (pr_q 34 (6, (36, (6, (0, (0, [])))))) (pr_q 36 (29, (37, (24, (25, (0, []))))))) (ev_ct 37 (pr_q 37 (10, (39, (7, (0, (0, [])))))) (pr_q 39 (7, (41, (7, (0, (0, []))))))))) (ev_ct 63 (ev_ct 42 (ev_ct 41 (pr_q 41 (7, (42, (2, (0, (0, [])))))) (pr_q 42 (35, (45, (238, (2, (4, [0, 0]))))))) (ev_ct 45 (pr_q 45 (16, (48, (0, (63, (48, [])))))) (pr_q 63 (12, (66, (6, (1, (0, [])))))))) (ev_ct 69 (ev_ct 66 (pr_q 66 (20, (25, (0, (0, (0, [])))))) (pr_q 69 (6, (70, (3, (0, (0, []))))))) (pr_q 70 (39, (71, (0, (0, (0, []))))))))))
def pr_y59 : MethodName := ⟨"OrphanTree", "strangers", "(I)I"⟩
def pr_i59 : ev_Im := (pr_y59, (prog_1_method_60_code, ((some .int), [])))
noncomputable def pr_m59 : ev_M := (8, (1, (6, ([], pr_c59))))
/-- OrphanTree.print(II)I -/
noncomputable def pr_c60 : Nat → ev_E := (ev_ct 94 (ev_ct 31 (ev_ct 12 (ev_ct 6 (ev_ct 2 (ev_ct 1 (ev_ct 0 (pr_q 0 (7, (1, (0, (0, (0, [])))))) (pr_q 1 (6, (2, (1, (0, (0, []))))))) (pr_q 2 (35, (5, (65, (2, (7, [1, 6]))))))) (ev_ct 5 (pr_q 5 (10, (6, (3, (0, (0, [])))))) (pr_q 6 (6, (7, (2, (0, (0, [])))))))) (ev_ct 8 (ev_ct 7 (pr_q 7 (1, (8, (4, (0, (0, [])))))) (pr_q 8 (35, (11, (66, (2, (0, [1, 6]))))))) (ev_ct 11 (pr_q 11 (7, (12, (3, (0, (0, [])))))) (pr_q 12 (24, (15, (3, (1, (0, []))))))))) (ev_ct 20 (ev_ct 16 (ev_ct 15 (pr_q 15 (1, (16, (2, (0, (0, [])))))) (pr_q 16 (17, (19, (0, (23, (19, []))))))) (ev_ct 19 (pr_q 19 (1, (20, (1, (0, (0, [])))))) (pr_q 20 (20, (24, (0, (0, (0, [])))))))) (ev_ct 27 (ev_ct 24 (pr_q 24 (35, (27, (67, (1, (0, [1, 6])))))) (pr_q 27 (7, (28, (0, (0, (0, []))))))) (ev_ct 28 (pr_q 28 (24, (31, (6, (5, (0, [])))))) (pr_q 31 (1, (32, (0, (0, (0, [])))))))))) (ev_ct 76 (ev_ct 68 (ev_ct 35 (ev_ct 32 (pr_q 32 (25, (35, (2, (1, (0, [])))))) (pr_q 35 (6, (36, (2, (0, (0, []))))))) (ev_ct 36 (pr_q 36 (42, (0, (2147483648, (2147483651, (125, [68, 79, 94, 110])))))) (pr_q 68 (7, (69, (0, (0, (0, [])))))))) (ev_ct 72 (ev_ct 69 (pr_q 69 (24, (72, (6, (5, (0, [])))))) (pr_q 72 (7, (73, (3, (0, (0, []))))))) (ev_ct 73 (pr_q 73 (35, (76, (227, (2, (3, [0, 0])))))) (pr_q 76 (20, (137, (0, (0, (0, []))))))))) (ev_ct 84 (ev_ct 80 (ev_ct 79 (pr_q 79 (7, (80, (0, (0, (0, [])))))) (pr_q 80 (24, (83, (6, (5, (0, []))))))) (ev_ct 83 (pr_q 83 (7, (84, (0, (0, (0, [])))))) (pr_q 84 (24, (87, (6, (0, (0, [])))))))) (ev_ct 88 (ev_ct 87 (pr_q 87 (7, (88, (3, (0, (0, [])))))) (pr_q 88 (35, (91, (228, (3, (3, [0, 0]))))))) (ev_ct 91 (pr_q 91 (20, (137, (0, (0, (0, [])))))) (pr_q 94 (7, (95, (0, (0, (0, []))))))))))) (ev_ct 126 (ev_ct 110 (ev_ct 102 (ev_ct 98 (ev_ct 95 (pr_q 95 (24, (98, (6, (5, (0, [])))))) (pr_q 98 (7, (99, (0, (0, (0, []))))))) (ev_ct 99 (pr_q 99 (24, (102, (6, (0, (0, [])))))) (pr_q 102 (7, (103, (3, (0, (0, [])))))))) (ev_ct 104 (ev_ct 103 (pr_q 103 (1, (104, (0, (0, (0, [])))))) (pr_q 104 (35, (107, (72, (4, (0, [0, 0]))))))) (ev_ct 107 (pr_q 107 (20, (137, (0, (0, (0, [])))))) (pr_q 110 (7, (111, (0, (0, (0, []))))))))) (ev_ct 118 (ev_ct 114 (ev_ct 111 (pr_q 111 (24, (114, (6, (5, (0, [])))))) (pr_q 114 (7, (115, (0, (0, (0, []))))))) (ev_ct 115 (pr_q 115 (24, (118, (6, (0, (0, [])))))) (pr_q 118 (7, (119, (3, (0, (0, [])))))))) (ev_ct 122 (ev_ct 119 (pr_q 119 (35, (122, (229, (3, (3, [0, 0])))))) (pr_q 122 (20, (137, (0, (0, (0, []))))))) (ev_ct 125 (pr_q 125 (7, (126, (0, (0, (0, [])))))) (pr_q 126 (24, (129, (6, (5, (0, [])))))))))) (ev_ct 144 (ev_ct 134 (ev_ct 130 (ev_ct 129 (pr_q 129 (7, (130, (0, (0, (0, [])))))) (pr_q 130 (24, (133, (6, (0, (0, []))))))) (ev_ct 133 (pr_q 133 (7, (134, (3, (0, (0, [])))))) (pr_q 134 (35, (137, (230, (3, (3, [0, 0])))))))) (ev_ct 138 (ev_ct 137 (pr_q 137 (7, (138, (0, (0, (0, [])))))) (pr_q 138 (24, (141, (6, (5, (0, []))))))) (ev_ct 141 (pr_q 141 (24, (144, (2, (1, (0, [])))))) (pr_q 144 (16, (147, (0, (147, (156, []))))))))) (ev_ct 153 (ev_ct 148 (ev_ct 147 (pr_q 147 (7, (148, (0, (0, (0, [])))))) (pr_q 148 (24, (151, (6, (5, (0, []))))))) (ev_ct 151 (pr_q 151 (1, (153, (45, (0, (0, [])))))) (pr_q 153 (35, (156, (225, (2, (3, [0, 0])))))))) (ev_ct 157 (ev_ct 156 (pr_q 156 (7, (157, (0, (0, (0, [])))))) (pr_q 157 (24, (160, (6, (5, (0, []))))))) (ev_ct 160 (pr_q 160 (24, (163, (2, (1, (0, [])))))) (pr_q 163 (39, (164, (0, (0, (0, []))))))))))))
def pr_y60 : MethodName := ⟨"OrphanTree", "print", "(II)I"⟩
def pr_i60 : ev_Im := (pr_y60, (prog_1_method_61_code, ((some .int), [])))
noncomputable def pr_m60 : ev_M := (4, (3, (18, ([], pr_c60))))
/-- OrphanTree.outputByte(I)I -/
noncomputable def pr_c61 : Nat → ev_E := (ev_ct 6 (ev_ct 4 (ev_ct 1 (ev_ct 0 (pr_q 0 (6, (1, (1, (0, (0, [])))))) (pr_q 1 (16, (4, (1, (22, (4, []))))))) (pr_q 4 (6, (5, (1, (0, (0, []))))))) (ev_ct 5 (pr_q 5 (7, (6, (0, (0, (0, [])))))) (pr_q 6 (24, (9, (6, (5, (0, [])))))))) (ev_ct 22 (ev_ct 12 (ev_ct 9 (pr_q 9 (24, (12, (2, (1, (0, [])))))) (pr_q 12 (17, (15, (1, (15, (22, []))))))) (pr_q 22 (1, (23, (4294967295, (0, (0, []))))))) (ev_ct 23 (pr_q 23 (20, (35, (0, (0, (0, [])))))) (pr_q 35 (39, (36, (0, (0, (0, [])))))))))
def pr_y61 : MethodName := ⟨"OrphanTree", "outputByte", "(I)I"⟩
def pr_i61 : ev_Im := (pr_y61, (prog_1_method_62_code, ((some .int), [])))
noncomputable def pr_m61 : ev_M := (2, (0, (0, ([], pr_c61))))
/-- OrphanTree.undo()I -/
noncomputable def pr_c62 : Nat → ev_E := (ev_ct 5 (ev_ct 1 (ev_ct 0 (pr_q 0 (7, (1, (0, (0, (0, [])))))) (pr_q 1 (24, (4, (6, (3, (0, []))))))) (ev_ct 4 (pr_q 4 (7, (5, (0, (0, (0, [])))))) (pr_q 5 (24, (8, (6, (0, (0, [])))))))) (ev_ct 11 (ev_ct 8 (pr_q 8 (35, (11, (220, (2, (1, [0, 0])))))) (pr_q 11 (16, (14, (0, (24, (14, []))))))) (ev_ct 24 (pr_q 24 (1, (25, (4294967295, (0, (0, [])))))) (pr_q 25 (39, (26, (0, (0, (0, [])))))))))
def pr_y62 : MethodName := ⟨"OrphanTree", "undo", "()I"⟩
def pr_i62 : ev_Im := (pr_y62, (prog_1_method_63_code, ((some .int), [])))
noncomputable def pr_m62 : ev_M := (1, (0, (0, ([], pr_c62))))
/-- OrphanTree.saveState()I -/
noncomputable def pr_c63 : Nat → ev_E := (ev_ct 12 (ev_ct 5 (ev_ct 1 (ev_ct 0 (pr_q 0 (7, (1, (0, (0, (0, [])))))) (pr_q 1 (24, (4, (6, (2, (0, []))))))) (ev_ct 4 (pr_q 4 (7, (5, (0, (0, (0, [])))))) (pr_q 5 (24, (8, (6, (0, (0, [])))))))) (ev_ct 11 (ev_ct 8 (pr_q 8 (35, (11, (273, (2, (6, [0, 0])))))) (pr_q 11 (7, (12, (0, (0, (0, []))))))) (pr_q 12 (1, (13, (1, (0, (0, [])))))))) (ev_ct 17 (ev_ct 16 (ev_ct 13 (pr_q 13 (25, (16, (6, (6, (1, [])))))) (pr_q 16 (7, (17, (0, (0, (0, []))))))) (pr_q 17 (24, (20, (6, (0, (0, []))))))) (ev_ct 21 (ev_ct 20 (pr_q 20 (1, (21, (0, (0, (0, [])))))) (pr_q 21 (35, (24, (275, (2, (6, [0, 0]))))))) (pr_q 24 (39, (25, (0, (0, (0, [])))))))))
def pr_y63 : MethodName := ⟨"OrphanTree", "saveState", "()I"⟩
def pr_i63 : ev_Im := (pr_y63, (prog_1_method_64_code, ((some .int), [])))
noncomputable def pr_m63 : ev_M := (1, (0, (0, ([], pr_c63))))
/-- OrphanTree.restoreState()I -/
noncomputable def pr_c64 : Nat → ev_E := (ev_ct 1 (ev_ct 0 (pr_q 0 (7, (1, (0, (0, (0, [])))))) (pr_q 1 (24, (4, (6, (6, (0, []))))))) (pr_q 4 (35, (7, (67, (1, (0, [1, 6])))))))
def pr_y64 : MethodName := ⟨"OrphanTree", "restoreState", "()I"⟩
def pr_i64 : ev_Im := (pr_y64, (prog_1_method_65_code, ((some .int), [])))
noncomputable def pr_m64 : ev_M := (1, (1, (6, ([], pr_c64))))
/-- OrphanTree.named(I)LOrphanTree$Proc; -/
noncomputable def pr_c65 : Nat → ev_E := (ev_ct 8 (ev_ct 4 (ev_ct 1 (ev_ct 0 (pr_q 0 (7, (1, (0, (0, (0, [])))))) (pr_q 1 (24, (4, (6, (0, (0, []))))))) (pr_q 4 (6, (5, (1, (0, (0, []))))))) (ev_ct 5 (pr_q 5 (35, (8, (274, (2, (6, [0, 0])))))) (pr_q 8 (10, (9, (2, (0, (0, [])))))))) (ev_ct 13 (ev_ct 10 (ev_ct 9 (pr_q 9 (7, (10, (2, (0, (0, [])))))) (pr_q 10 (19, (13, (0, (13, (24, []))))))) (pr_q 13 (37, (0, (2, (0, (0, []))))))) (ev_ct 24 (pr_q 24 (7, (25, (2, (0, (0, [])))))) (pr_q 25 (40, (26, (0, (0, (0, [])))))))))
def pr_y65 : MethodName := ⟨"OrphanTree", "named", "(I)LOrphanTree$Proc;"⟩
def pr_i65 : ev_Im := (pr_y65, (prog_1_method_66_code, ((some (.object "OrphanTree$Proc")), [])))
noncomputable def pr_m65 : ev_M := (3, (1, (6, ([], pr_c65))))
/-- OrphanTree.checkRange(II)V -/
noncomputable def pr_c66 : Nat → ev_E := (ev_ct 5 (ev_ct 1 (ev_ct 0 (pr_q 0 (6, (1, (0, (0, (0, [])))))) (pr_q 1 (16, (4, (1, (9, (4, []))))))) (ev_ct 4 (pr_q 4 (6, (5, (0, (0, (0, [])))))) (pr_q 5 (6, (6, (1, (0, (0, [])))))))) (ev_ct 9 (ev_ct 6 (pr_q 6 (17, (9, (2, (9, (20, [])))))) (pr_q 9 (37, (0, (0, (0, (0, []))))))) (pr_q 20 (38, (21, (0, (0, (0, []))))))))
def pr_y66 : MethodName := ⟨"OrphanTree", "checkRange", "(II)V"⟩
def pr_i66 : ev_Im := (pr_y66, (prog_1_method_67_code, (none, [])))
noncomputable def pr_m66 : ev_M := (2, (1, (6, ([], pr_c66))))
/-- OrphanTree.checkState(Z)V -/
noncomputable def pr_c67 : Nat → ev_E := (ev_ct 1 (ev_ct 0 (pr_q 0 (6, (1, (0, (0, (0, [])))))) (pr_q 1 (16, (4, (0, (4, (15, []))))))) (ev_ct 4 (pr_q 4 (37, (0, (1, (0, (0, [])))))) (pr_q 15 (38, (16, (0, (0, (0, []))))))))
def pr_y67 : MethodName := ⟨"OrphanTree", "checkState", "(Z)V"⟩
def pr_i67 : ev_Im := (pr_y67, (prog_1_method_68_code, (none, [])))
noncomputable def pr_m67 : ev_M := (1, (1, (6, ([], pr_c67))))
/-- OrphanTree.numberOf(LOrphanTree$Proc;)I -/
noncomputable def pr_c68 : Nat → ev_E := (ev_ct 5 (ev_ct 1 (ev_ct 0 (pr_q 0 (7, (1, (0, (0, (0, [])))))) (pr_q 1 (19, (4, (0, (4, (8, []))))))) (ev_ct 4 (pr_q 4 (1, (5, (4294967295, (0, (0, [])))))) (pr_q 5 (20, (12, (0, (0, (0, [])))))))) (ev_ct 9 (ev_ct 8 (pr_q 8 (7, (9, (0, (0, (0, [])))))) (pr_q 9 (24, (12, (3, (0, (0, []))))))) (pr_q 12 (39, (13, (0, (0, (0, []))))))))
def pr_y68 : MethodName := ⟨"OrphanTree", "numberOf", "(LOrphanTree$Proc;)I"⟩
def pr_i68 : ev_Im := (pr_y68, (prog_1_method_69_code, ((some .int), [])))
noncomputable def pr_m68 : ev_M := (1, (0, (0, ([], pr_c68))))
/-- OrphanTree.namedForExit(II)LOrphanTree$Proc; -/
noncomputable def pr_c69 : Nat → ev_E := (ev_ct 6 (ev_ct 2 (ev_ct 1 (ev_ct 0 (pr_q 0 (7, (1, (0, (0, (0, [])))))) (pr_q 1 (6, (2, (1, (0, (0, []))))))) (pr_q 2 (35, (5, (65, (2, (7, [1, 6]))))))) (ev_ct 5 (pr_q 5 (10, (6, (3, (0, (0, [])))))) (pr_q 6 (6, (7, (2, (0, (0, [])))))))) (ev_ct 13 (ev_ct 10 (ev_ct 7 (pr_q 7 (1, (10, (255, (0, (0, [])))))) (pr_q 10 (35, (13, (66, (2, (0, [1, 6]))))))) (pr_q 13 (7, (14, (3, (0, (0, []))))))) (ev_ct 14 (pr_q 14 (35, (17, (236, (1, (4, [0, 0])))))) (pr_q 17 (35, (20, (67, (1, (0, [1, 6])))))))))
def pr_y69 : MethodName := ⟨"OrphanTree", "namedForExit", "(II)LOrphanTree$Proc;"⟩
def pr_i69 : ev_Im := (pr_y69, (prog_1_method_70_code, ((some (.object "OrphanTree$Proc")), [])))
noncomputable def pr_m69 : ev_M := (4, (3, (18, ([], pr_c69))))
/-- OrphanTree.checkKill(II)V -/
noncomputable def pr_c70 : Nat → ev_E := (ev_ct 6 (ev_ct 1 (ev_ct 0 (pr_q 0 (6, (1, (0, (0, (0, [])))))) (pr_q 1 (1, (3, (9, (0, (0, []))))))) (ev_ct 3 (pr_q 3 (35, (6, (66, (2, (0, [1, 6])))))) (pr_q 6 (6, (7, (1, (0, (0, [])))))))) (ev_ct 10 (ev_ct 7 (pr_q 7 (1, (10, (255, (0, (0, [])))))) (pr_q 10 (35, (13, (66, (2, (0, [1, 6]))))))) (pr_q 13 (38, (14, (0, (0, (0, []))))))))
def pr_y70 : MethodName := ⟨"OrphanTree", "checkKill", "(II)V"⟩
def pr_i70 : ev_Im := (pr_y70, (prog_1_method_71_code, (none, [])))
noncomputable def pr_m70 : ev_M := (2, (2, (12, ([], pr_c70))))
/-- OrphanTree.putBranch(LOrphanTree$Output;LOrphanTree$Tree;LOrphanTree$Proc;I)V -/
noncomputable def pr_c72 : Nat → ev_E := (ev_ct 5 (ev_ct 1 (ev_ct 0 (pr_q 0 (7, (1, (0, (0, (0, [])))))) (pr_q 1 (7, (2, (2, (0, (0, []))))))) (ev_ct 2 (pr_q 2 (24, (5, (3, (0, (0, [])))))) (pr_q 5 (35, (8, (226, (2, (3, [0, 0])))))))) (ev_ct 9 (ev_ct 8 (pr_q 8 (7, (9, (2, (0, (0, [])))))) (pr_q 9 (24, (12, (3, (3, (0, []))))))) (ev_ct 12 (pr_q 12 (16, (15, (0, (21, (15, [])))))) (pr_q 21 (38, (22, (0, (0, (0, [])))))))))
def pr_y72 : MethodName := ⟨"OrphanTree", "putBranch", "(LOrphanTree$Output;LOrphanTree$Tree;LOrphanTree$Proc;I)V"⟩
def pr_i72 : ev_Im := (pr_y72, (prog_1_method_73_code, (none, [])))
noncomputable def pr_m72 : ev_M := (9, (0, (0, ([], pr_c72))))
/-- OrphanTreeModel.<init>()V -/
noncomputable def pr_c73 : Nat → ev_E := (ev_ct 50 (ev_ct 23 (ev_ct 10 (ev_ct 4 (ev_ct 1 (ev_ct 0 (pr_q 0 (7, (1, (0, (0, (0, [])))))) (pr_q 1 (36, (4, (0, (0, (0, []))))))) (pr_q 4 (7, (5, (0, (0, (0, []))))))) (ev_ct 8 (ev_ct 5 (pr_q 5 (1, (8, (780, (0, (0, [])))))) (pr_q 8 (34, (10, (20, (0, (0, []))))))) (pr_q 10 (25, (13, (7, (0, (2, [])))))))) (ev_ct 17 (ev_ct 14 (ev_ct 13 (pr_q 13 (7, (14, (0, (0, (0, [])))))) (pr_q 14 (1, (17, (780, (0, (0, []))))))) (pr_q 17 (34, (19, (20, (0, (0, []))))))) (ev_ct 22 (ev_ct 19 (pr_q 19 (25, (22, (7, (1, (2, [])))))) (pr_q 22 (7, (23, (0, (0, (0, []))))))) (pr_q 23 (1, (26, (780, (0, (0, []))))))))) (ev_ct 37 (ev_ct 31 (ev_ct 28 (ev_ct 26 (pr_q 26 (34, (28, (20, (0, (0, [])))))) (pr_q 28 (25, (31, (7, (2, (2, []))))))) (pr_q 31 (7, (32, (0, (0, (0, []))))))) (ev_ct 35 (ev_ct 32 (pr_q 32 (1, (35, (780, (0, (0, [])))))) (pr_q 35 (34, (37, (20, (0, (0, []))))))) (pr_q 37 (25, (40, (7, (3, (2, [])))))))) (ev_ct 44 (ev_ct 41 (ev_ct 40 (pr_q 40 (7, (41, (0, (0, (0, [])))))) (pr_q 41 (1, (44, (7800, (0, (0, []))))))) (pr_q 44 (34, (46, (20, (0, (0, []))))))) (ev_ct 49 (ev_ct 46 (pr_q 46 (25, (49, (7, (4, (2, [])))))) (pr_q 49 (7, (50, (0, (0, (0, []))))))) (pr_q 50 (1, (52, (40, (0, (0, [])))))))))) (ev_ct 73 (ev_ct 63 (ev_ct 57 (ev_ct 54 (ev_ct 52 (pr_q 52 (34, (54, (22, (0, (0, [])))))) (pr_q 54 (25, (57, (7, (5, (2, []))))))) (pr_q 57 (7, (58, (0, (0, (0, []))))))) (ev_ct 61 (ev_ct 58 (pr_q 58 (1, (61, (500, (0, (0, [])))))) (pr_q 61 (34, (63, (20, (0, (0, []))))))) (pr_q 63 (25, (66, (7, (9, (2, [])))))))) (ev_ct 68 (ev_ct 67 (ev_ct 66 (pr_q 66 (7, (67, (0, (0, (0, [])))))) (pr_q 67 (1, (68, (4294967295, (0, (0, []))))))) (pr_q 68 (25, (71, (7, (12, (0, []))))))) (ev_ct 72 (ev_ct 71 (pr_q 71 (7, (72, (0, (0, (0, [])))))) (pr_q 72 (1, (73, (4, (0, (0, []))))))) (pr_q 73 (34, (75, (20, (0, (0, []))))))))) (ev_ct 86 (ev_ct 79 (ev_ct 78 (ev_ct 75 (pr_q 75 (25, (78, (7, (20, (2, [])))))) (pr_q 78 (7, (79, (0, (0, (0, []))))))) (pr_q 79 (1, (81, (40, (0, (0, []))))))) (ev_ct 83 (ev_ct 81 (pr_q 81 (34, (83, (20, (0, (0, [])))))) (pr_q 83 (25, (86, (7, (21, (2, []))))))) (pr_q 86 (7, (87, (0, (0, (0, [])))))))) (ev_ct 92 (ev_ct 90 (ev_ct 87 (pr_q 87 (1, (90, (400, (0, (0, [])))))) (pr_q 90 (34, (92, (20, (0, (0, []))))))) (pr_q 92 (25, (95, (7, (22, (2, []))))))) (ev_ct 96 (ev_ct 95 (pr_q 95 (7, (96, (0, (0, (0, [])))))) (pr_q 96 (35, (99, (78, (1, (8, [0, 0]))))))) (pr_q 99 (38, (100, (0, (0, (0, [])))))))))))
def pr_y73 : MethodName := ⟨"OrphanTreeModel", "<init>", "()V"⟩
def pr_i73 : ev_Im := (pr_y73, (prog_9_method_1_code, (none, [])))
noncomputable def pr_m73 : ev_M := (1, (10, (11904, ([], pr_c73))))
/-- OrphanTreeModel.thrown()I -/
noncomputable def pr_c74 : Nat → ev_E := (ev_ct 1 (ev_ct 0 (pr_q 0 (7, (1, (0, (0, (0, [])))))) (pr_q 1 (24, (4, (7, (8, (0, []))))))) (pr_q 4 (39, (5, (0, (0, (0, [])))))))
def pr_y74 : MethodName := ⟨"OrphanTreeModel", "thrown", "()I"⟩
def pr_i74 : ev_Im := (pr_y74, (prog_9_method_2_code, ((some .int), [])))
noncomputable def pr_m74 : ev_M := (1, (0, (0, ([], pr_c74))))
/-- OrphanTreeModel.inRange(III)Z -/
noncomputable def pr_c75 : Nat → ev_E := (ev_ct 6 (ev_ct 2 (ev_ct 1 (ev_ct 0 (pr_q 0 (6, (1, (0, (0, (0, [])))))) (pr_q 1 (6, (2, (1, (0, (0, []))))))) (pr_q 2 (17, (5, (1, (14, (5, []))))))) (ev_ct 5 (pr_q 5 (6, (6, (0, (0, (0, [])))))) (pr_q 6 (6, (7, (2, (0, (0, [])))))))) (ev_ct 11 (ev_ct 10 (ev_ct 7 (pr_q 7 (17, (10, (2, (14, (10, [])))))) (pr_q 10 (1, (11, (1, (0, (0, []))))))) (pr_q 11 (20, (15, (0, (0, (0, []))))))) (ev_ct 14 (pr_q 14 (1, (15, (0, (0, (0, [])))))) (pr_q 15 (39, (16, (1, (0, (0, [])))))))))
def pr_y75 : MethodName := ⟨"OrphanTreeModel", "inRange", "(III)Z"⟩
def pr_i75 : ev_Im := (pr_y75, (prog_9_method_3_code, ((some .boolean), [])))
noncomputable def pr_m75 : ev_M := (3, (0, (0, ([], pr_c75))))
/-- OrphanTreeModel.fails(ZI)Z -/
noncomputable def pr_c76 : Nat → ev_E := (ev_ct 5 (ev_ct 1 (ev_ct 0 (pr_q 0 (6, (1, (1, (0, (0, [])))))) (pr_q 1 (16, (4, (0, (9, (4, []))))))) (ev_ct 4 (pr_q 4 (7, (5, (0, (0, (0, [])))))) (pr_q 5 (6, (6, (2, (0, (0, [])))))))) (ev_ct 9 (ev_ct 6 (pr_q 6 (25, (9, (7, (8, (0, [])))))) (pr_q 9 (6, (10, (1, (0, (0, []))))))) (pr_q 10 (39, (11, (1, (0, (0, []))))))))
def pr_y76 : MethodName := ⟨"OrphanTreeModel", "fails", "(ZI)Z"⟩
def pr_i76 : ev_Im := (pr_y76, (prog_9_method_4_code, ((some .boolean), [])))
noncomputable def pr_m76 : ev_M := (3, (0, (0, ([], pr_c76))))
/-- OrphanTreeModel.copies([II[III)V -/
noncomputable def pr_c77 : Nat → ev_E := (ev_ct 14 (ev_ct 7 (ev_ct 3 (ev_ct 1 (ev_ct 0 (pr_q 0 (1, (1, (0, (0, (0, [])))))) (pr_q 1 (9, (3, (5, (0, (0, []))))))) (pr_q 3 (6, (5, (5, (0, (0, []))))))) (ev_ct 5 (pr_q 5 (6, (7, (4, (0, (0, [])))))) (pr_q 7 (17, (10, (1, (10, (28, [])))))))) (ev_ct 11 (ev_ct 10 (pr_q 10 (7, (11, (2, (0, (0, [])))))) (pr_q 11 (6, (12, (3, (0, (0, []))))))) (ev_ct 12 (pr_q 12 (6, (14, (5, (0, (0, [])))))) (pr_q 14 (13, (15, (0, (0, (0, []))))))))) (ev_ct 20 (ev_ct 17 (ev_ct 16 (ev_ct 15 (pr_q 15 (7, (16, (0, (0, (0, [])))))) (pr_q 16 (6, (17, (1, (0, (0, []))))))) (pr_q 17 (6, (19, (5, (0, (0, []))))))) (ev_ct 19 (pr_q 19 (13, (20, (0, (0, (0, [])))))) (pr_q 20 (27, (21, (20, (20, (0, [])))))))) (ev_ct 22 (ev_ct 21 (pr_q 21 (28, (22, (0, (0, (0, [])))))) (pr_q 22 (12, (25, (5, (1, (0, []))))))) (ev_ct 25 (pr_q 25 (20, (3, (0, (0, (0, [])))))) (pr_q 28 (38, (29, (0, (0, (0, []))))))))))
def pr_y77 : MethodName := ⟨"OrphanTreeModel", "copies", "([II[III)V"⟩
def pr_i77 : ev_Im := (pr_y77, (prog_9_method_5_code, (none, [])))
noncomputable def pr_m77 : ev_M := (6, (0, (0, ([], pr_c77))))
/-- OrphanTreeModel.clear()V -/
noncomputable def pr_c78 : Nat → ev_E := (ev_ct 33 (ev_ct 16 (ev_ct 9 (ev_ct 2 (ev_ct 1 (ev_ct 0 (pr_q 0 (1, (1, (0, (0, (0, [])))))) (pr_q 1 (9, (2, (1, (0, (0, []))))))) (pr_q 2 (6, (3, (1, (0, (0, []))))))) (ev_ct 6 (ev_ct 3 (pr_q 3 (1, (6, (780, (0, (0, [])))))) (pr_q 6 (17, (9, (1, (9, (22, []))))))) (pr_q 9 (7, (10, (0, (0, (0, [])))))))) (ev_ct 14 (ev_ct 13 (ev_ct 10 (pr_q 10 (24, (13, (7, (0, (0, [])))))) (pr_q 13 (6, (14, (1, (0, (0, []))))))) (pr_q 14 (1, (15, (0, (0, (0, []))))))) (ev_ct 15 (pr_q 15 (28, (16, (0, (0, (0, [])))))) (pr_q 16 (12, (19, (1, (1, (0, []))))))))) (ev_ct 28 (ev_ct 23 (ev_ct 22 (ev_ct 19 (pr_q 19 (20, (2, (0, (0, (0, [])))))) (pr_q 22 (7, (23, (0, (0, (0, []))))))) (pr_q 23 (24, (26, (7, (0, (0, []))))))) (ev_ct 27 (ev_ct 26 (pr_q 26 (1, (27, (5, (0, (0, [])))))) (pr_q 27 (1, (28, (3, (0, (0, []))))))) (pr_q 28 (28, (29, (0, (0, (0, [])))))))) (ev_ct 31 (ev_ct 30 (ev_ct 29 (pr_q 29 (1, (30, (0, (0, (0, [])))))) (pr_q 30 (9, (31, (1, (0, (0, []))))))) (pr_q 31 (6, (32, (1, (0, (0, []))))))) (ev_ct 32 (pr_q 32 (1, (33, (3, (0, (0, [])))))) (pr_q 33 (17, (36, (1, (36, (52, [])))))))))) (ev_ct 53 (ev_ct 44 (ev_ct 40 (ev_ct 37 (ev_ct 36 (pr_q 36 (7, (37, (0, (0, (0, [])))))) (pr_q 37 (24, (40, (7, (0, (0, []))))))) (pr_q 40 (1, (42, (6, (0, (0, []))))))) (ev_ct 43 (ev_ct 42 (pr_q 42 (6, (43, (1, (0, (0, [])))))) (pr_q 43 (13, (44, (0, (0, (0, []))))))) (pr_q 44 (6, (45, (1, (0, (0, [])))))))) (ev_ct 49 (ev_ct 46 (ev_ct 45 (pr_q 45 (28, (46, (0, (0, (0, [])))))) (pr_q 46 (12, (49, (1, (1, (0, []))))))) (pr_q 49 (20, (31, (0, (0, (0, []))))))) (ev_ct 52 (pr_q 52 (7, (53, (0, (0, (0, [])))))) (pr_q 53 (24, (56, (7, (0, (0, []))))))))) (ev_ct 63 (ev_ct 60 (ev_ct 58 (ev_ct 56 (pr_q 56 (1, (58, (59, (0, (0, [])))))) (pr_q 58 (1, (60, (20, (0, (0, []))))))) (pr_q 60 (28, (61, (0, (0, (0, []))))))) (ev_ct 62 (ev_ct 61 (pr_q 61 (7, (62, (0, (0, (0, [])))))) (pr_q 62 (1, (63, (4294967295, (0, (0, []))))))) (pr_q 63 (1, (65, (9, (0, (0, [])))))))) (ev_ct 67 (ev_ct 66 (ev_ct 65 (pr_q 65 (1, (66, (0, (0, (0, [])))))) (pr_q 66 (1, (67, (0, (0, (0, []))))))) (pr_q 67 (35, (70, (79, (5, (8, [0, 0]))))))) (ev_ct 70 (pr_q 70 (23, (71, (0, (0, (0, [])))))) (pr_q 71 (38, (72, (0, (0, (0, [])))))))))))
def pr_y78 : MethodName := ⟨"OrphanTreeModel", "clear", "()V"⟩
def pr_i78 : ev_Im := (pr_y78, (prog_9_method_6_code, (none, [])))
noncomputable def pr_m78 : ev_M := (2, (0, (0, ([], pr_c78))))
/-- OrphanTreeModel.comes(IIII)I -/
noncomputable def pr_c79 : Nat → ev_E := (ev_ct 88 (ev_ct 41 (ev_ct 19 (ev_ct 9 (ev_ct 5 (ev_ct 1 (ev_ct 0 (pr_q 0 (7, (1, (0, (0, (0, [])))))) (pr_q 1 (24, (4, (7, (0, (0, []))))))) (ev_ct 4 (pr_q 4 (1, (5, (0, (0, (0, [])))))) (pr_q 5 (27, (6, (20, (20, (0, [])))))))) (ev_ct 8 (ev_ct 6 (pr_q 6 (9, (8, (5, (0, (0, [])))))) (pr_q 8 (7, (9, (0, (0, (0, []))))))) (pr_q 9 (24, (12, (7, (0, (0, [])))))))) (ev_ct 16 (ev_ct 14 (ev_ct 12 (pr_q 12 (1, (14, (60, (0, (0, [])))))) (pr_q 14 (6, (16, (5, (0, (0, []))))))) (pr_q 16 (13, (17, (0, (0, (0, []))))))) (ev_ct 18 (ev_ct 17 (pr_q 17 (6, (18, (1, (0, (0, [])))))) (pr_q 18 (28, (19, (0, (0, (0, []))))))) (pr_q 19 (7, (20, (0, (0, (0, []))))))))) (ev_ct 30 (ev_ct 27 (ev_ct 23 (ev_ct 20 (pr_q 20 (24, (23, (7, (0, (0, [])))))) (pr_q 23 (1, (25, (100, (0, (0, []))))))) (ev_ct 25 (pr_q 25 (6, (27, (5, (0, (0, [])))))) (pr_q 27 (13, (28, (0, (0, (0, [])))))))) (ev_ct 29 (ev_ct 28 (pr_q 28 (6, (29, (2, (0, (0, [])))))) (pr_q 29 (28, (30, (0, (0, (0, []))))))) (pr_q 30 (7, (31, (0, (0, (0, [])))))))) (ev_ct 37 (ev_ct 34 (ev_ct 31 (pr_q 31 (24, (34, (7, (0, (0, [])))))) (pr_q 34 (1, (37, (140, (0, (0, []))))))) (pr_q 37 (6, (39, (5, (0, (0, []))))))) (ev_ct 40 (ev_ct 39 (pr_q 39 (13, (40, (0, (0, (0, [])))))) (pr_q 40 (1, (41, (0, (0, (0, []))))))) (pr_q 41 (28, (42, (0, (0, (0, [])))))))))) (ev_ct 64 (ev_ct 53 (ev_ct 49 (ev_ct 43 (ev_ct 42 (pr_q 42 (7, (43, (0, (0, (0, [])))))) (pr_q 43 (24, (46, (7, (0, (0, []))))))) (ev_ct 46 (pr_q 46 (1, (49, (180, (0, (0, [])))))) (pr_q 49 (6, (51, (5, (0, (0, [])))))))) (ev_ct 52 (ev_ct 51 (pr_q 51 (13, (52, (0, (0, (0, [])))))) (pr_q 52 (6, (53, (3, (0, (0, []))))))) (pr_q 53 (28, (54, (0, (0, (0, [])))))))) (ev_ct 58 (ev_ct 55 (ev_ct 54 (pr_q 54 (7, (55, (0, (0, (0, [])))))) (pr_q 55 (24, (58, (7, (0, (0, []))))))) (pr_q 58 (1, (61, (220, (0, (0, []))))))) (ev_ct 63 (ev_ct 61 (pr_q 61 (6, (63, (5, (0, (0, [])))))) (pr_q 63 (13, (64, (0, (0, (0, []))))))) (pr_q 64 (6, (66, (4, (0, (0, []))))))))) (ev_ct 77 (ev_ct 71 (ev_ct 67 (ev_ct 66 (pr_q 66 (28, (67, (0, (0, (0, [])))))) (pr_q 67 (7, (68, (0, (0, (0, []))))))) (ev_ct 68 (pr_q 68 (24, (71, (7, (0, (0, [])))))) (pr_q 71 (1, (74, (260, (0, (0, [])))))))) (ev_ct 76 (ev_ct 74 (pr_q 74 (6, (76, (5, (0, (0, [])))))) (pr_q 76 (13, (77, (0, (0, (0, []))))))) (pr_q 77 (1, (78, (4294967295, (0, (0, [])))))))) (ev_ct 80 (ev_ct 79 (ev_ct 78 (pr_q 78 (28, (79, (0, (0, (0, [])))))) (pr_q 79 (7, (80, (0, (0, (0, []))))))) (pr_q 80 (24, (83, (7, (0, (0, []))))))) (ev_ct 86 (ev_ct 83 (pr_q 83 (1, (86, (300, (0, (0, [])))))) (pr_q 86 (6, (88, (5, (0, (0, []))))))) (pr_q 88 (13, (89, (0, (0, (0, []))))))))))) (ev_ct 130 (ev_ct 110 (ev_ct 100 (ev_ct 92 (ev_ct 90 (ev_ct 89 (pr_q 89 (1, (90, (4294967295, (0, (0, [])))))) (pr_q 90 (28, (91, (0, (0, (0, []))))))) (ev_ct 91 (pr_q 91 (7, (92, (0, (0, (0, [])))))) (pr_q 92 (24, (95, (7, (0, (0, [])))))))) (ev_ct 98 (ev_ct 95 (pr_q 95 (1, (98, (340, (0, (0, [])))))) (pr_q 98 (6, (100, (5, (0, (0, []))))))) (pr_q 100 (13, (101, (0, (0, (0, [])))))))) (ev_ct 103 (ev_ct 102 (ev_ct 101 (pr_q 101 (1, (102, (0, (0, (0, [])))))) (pr_q 102 (28, (103, (0, (0, (0, []))))))) (pr_q 103 (7, (104, (0, (0, (0, []))))))) (ev_ct 107 (ev_ct 104 (pr_q 104 (24, (107, (7, (0, (0, [])))))) (pr_q 107 (1, (110, (380, (0, (0, []))))))) (pr_q 110 (6, (112, (5, (0, (0, []))))))))) (ev_ct 122 (ev_ct 115 (ev_ct 113 (ev_ct 112 (pr_q 112 (13, (113, (0, (0, (0, [])))))) (pr_q 113 (1, (114, (0, (0, (0, []))))))) (ev_ct 114 (pr_q 114 (28, (115, (0, (0, (0, [])))))) (pr_q 115 (7, (116, (0, (0, (0, [])))))))) (ev_ct 119 (ev_ct 116 (pr_q 116 (24, (119, (7, (0, (0, [])))))) (pr_q 119 (1, (122, (420, (0, (0, []))))))) (pr_q 122 (6, (124, (5, (0, (0, [])))))))) (ev_ct 126 (ev_ct 125 (ev_ct 124 (pr_q 124 (13, (125, (0, (0, (0, [])))))) (pr_q 125 (1, (126, (4294967295, (0, (0, []))))))) (pr_q 126 (28, (127, (0, (0, (0, []))))))) (ev_ct 128 (ev_ct 127 (pr_q 127 (1, (128, (0, (0, (0, [])))))) (pr_q 128 (9, (130, (6, (0, (0, []))))))) (pr_q 130 (6, (132, (6, (0, (0, [])))))))))) (ev_ct 154 (ev_ct 146 (ev_ct 138 (ev_ct 134 (ev_ct 132 (pr_q 132 (1, (134, (8, (0, (0, [])))))) (pr_q 134 (17, (137, (1, (137, (161, []))))))) (ev_ct 137 (pr_q 137 (7, (138, (0, (0, (0, [])))))) (pr_q 138 (24, (141, (7, (0, (0, [])))))))) (ev_ct 144 (ev_ct 141 (pr_q 141 (1, (144, (460, (0, (0, [])))))) (pr_q 144 (1, (146, (8, (0, (0, []))))))) (pr_q 146 (6, (148, (5, (0, (0, [])))))))) (ev_ct 150 (ev_ct 149 (ev_ct 148 (pr_q 148 (15, (149, (0, (0, (0, [])))))) (pr_q 149 (13, (150, (0, (0, (0, []))))))) (pr_q 150 (6, (152, (6, (0, (0, []))))))) (ev_ct 153 (ev_ct 152 (pr_q 152 (13, (153, (0, (0, (0, [])))))) (pr_q 153 (1, (154, (4294967295, (0, (0, []))))))) (pr_q 154 (28, (155, (0, (0, (0, []))))))))) (ev_ct 166 (ev_ct 161 (ev_ct 158 (ev_ct 155 (pr_q 155 (12, (158, (6, (1, (0, [])))))) (pr_q 158 (20, (130, (0, (0, (0, []))))))) (pr_q 161 (7, (162, (0, (0, (0, []))))))) (ev_ct 165 (ev_ct 162 (pr_q 162 (24, (165, (7, (0, (0, [])))))) (pr_q 165 (1, (166, (0, (0, (0, []))))))) (pr_q 166 (22, (167, (0, (0, (0, [])))))))) (ev_ct 169 (ev_ct 168 (ev_ct 167 (pr_q 167 (27, (168, (20, (20, (0, [])))))) (pr_q 168 (1, (169, (1, (0, (0, []))))))) (pr_q 169 (13, (170, (0, (0, (0, []))))))) (ev_ct 171 (ev_ct 170 (pr_q 170 (28, (171, (0, (0, (0, [])))))) (pr_q 171 (6, (173, (5, (0, (0, []))))))) (pr_q 173 (39, (174, (0, (0, (0, []))))))))))))
def pr_y79 : MethodName := ⟨"OrphanTreeModel", "comes", "(IIII)I"⟩
def pr_i79 : ev_Im := (pr_y79, (prog_9_method_7_code, ((some .int), [])))
noncomputable def pr_m79 : ev_M := (7, (0, (0, ([], pr_c79))))
/-- OrphanTreeModel.remembers()V -/
noncomputable def pr_c80 : Nat → ev_E := (ev_ct 49 (ev_ct 38 (ev_ct 4 (ev_ct 1 (ev_ct 0 (pr_q 0 (7, (1, (0, (0, (0, [])))))) (pr_q 1 (24, (4, (7, (6, (0, []))))))) (pr_q 4 (1, (6, (10, (0, (0, []))))))) (ev_ct 37 (ev_ct 6 (pr_q 6 (17, (9, (0, (9, (37, [])))))) (pr_q 37 (7, (38, (0, (0, (0, []))))))) (pr_q 38 (24, (41, (7, (0, (0, [])))))))) (ev_ct 43 (ev_ct 42 (ev_ct 41 (pr_q 41 (1, (42, (0, (0, (0, [])))))) (pr_q 42 (7, (43, (0, (0, (0, []))))))) (pr_q 43 (24, (46, (7, (4, (0, []))))))) (ev_ct 46 (pr_q 46 (1, (49, (780, (0, (0, [])))))) (pr_q 49 (7, (50, (0, (0, (0, []))))))))) (ev_ct 61 (ev_ct 54 (ev_ct 53 (ev_ct 50 (pr_q 50 (24, (53, (7, (6, (0, [])))))) (pr_q 53 (15, (54, (0, (0, (0, []))))))) (pr_q 54 (1, (57, (780, (0, (0, []))))))) (ev_ct 60 (ev_ct 57 (pr_q 57 (35, (60, (77, (5, (0, [0, 0])))))) (pr_q 60 (7, (61, (0, (0, (0, []))))))) (pr_q 61 (21, (62, (0, (0, (0, [])))))))) (ev_ct 66 (ev_ct 65 (ev_ct 62 (pr_q 62 (24, (65, (7, (6, (0, [])))))) (pr_q 65 (1, (66, (1, (0, (0, []))))))) (pr_q 66 (13, (67, (0, (0, (0, []))))))) (ev_ct 67 (pr_q 67 (25, (70, (7, (6, (0, [])))))) (pr_q 70 (38, (71, (0, (0, (0, []))))))))))
def pr_y80 : MethodName := ⟨"OrphanTreeModel", "remembers", "()V"⟩
def pr_i80 : ev_Im := (pr_y80, (prog_9_method_8_code, (none, [])))
noncomputable def pr_m80 : ev_M := (1, (0, (0, ([], pr_c80))))
/-- OrphanTreeModel.begins()V -/
noncomputable def pr_c81 : Nat → ev_E := (ev_ct 6 (ev_ct 4 (ev_ct 1 (ev_ct 0 (pr_q 0 (7, (1, (0, (0, (0, [])))))) (pr_q 1 (24, (4, (7, (0, (0, []))))))) (pr_q 4 (1, (5, (0, (0, (0, []))))))) (ev_ct 5 (pr_q 5 (7, (6, (0, (0, (0, [])))))) (pr_q 6 (24, (9, (7, (2, (0, [])))))))) (ev_ct 10 (ev_ct 9 (pr_q 9 (1, (10, (0, (0, (0, [])))))) (pr_q 10 (1, (13, (780, (0, (0, []))))))) (ev_ct 13 (pr_q 13 (35, (16, (77, (5, (0, [0, 0])))))) (pr_q 16 (38, (17, (0, (0, (0, [])))))))))
def pr_y81 : MethodName := ⟨"OrphanTreeModel", "begins", "()V"⟩
def pr_i81 : ev_Im := (pr_y81, (prog_9_method_9_code, (none, [])))
noncomputable def pr_m81 : ev_M := (1, (0, (0, ([], pr_c81))))
/-- OrphanTreeModel.ends()V -/
noncomputable def pr_c82 : Nat → ev_E := (ev_ct 6 (ev_ct 4 (ev_ct 1 (ev_ct 0 (pr_q 0 (7, (1, (0, (0, (0, [])))))) (pr_q 1 (24, (4, (7, (2, (0, []))))))) (pr_q 4 (1, (5, (0, (0, (0, []))))))) (ev_ct 5 (pr_q 5 (7, (6, (0, (0, (0, [])))))) (pr_q 6 (24, (9, (7, (0, (0, [])))))))) (ev_ct 10 (ev_ct 9 (pr_q 9 (1, (10, (0, (0, (0, [])))))) (pr_q 10 (1, (13, (780, (0, (0, []))))))) (ev_ct 13 (pr_q 13 (35, (16, (77, (5, (0, [0, 0])))))) (pr_q 16 (38, (17, (0, (0, (0, [])))))))))
def pr_y82 : MethodName := ⟨"OrphanTreeModel", "ends", "()V"⟩
def pr_i82 : ev_Im := (pr_y82, (prog_9_method_10_code, (none, [])))
noncomputable def pr_m82 : ev_M := (1, (0, (0, ([], pr_c82))))
/-- OrphanTreeModel.runs(I)Z -/
noncomputable def pr_c83 : Nat → ev_E := (ev_ct 8 (ev_ct 4 (ev_ct 1 (ev_ct 0 (pr_q 0 (7, (1, (0, (0, (0, [])))))) (pr_q 1 (24, (4, (7, (0, (0, []))))))) (pr_q 4 (1, (7, (140, (0, (0, []))))))) (ev_ct 7 (pr_q 7 (6, (8, (1, (0, (0, [])))))) (pr_q 8 (13, (9, (0, (0, (0, [])))))))) (ev_ct 13 (ev_ct 10 (ev_ct 9 (pr_q 9 (27, (10, (20, (20, (0, [])))))) (pr_q 10 (16, (13, (0, (13, (17, []))))))) (pr_q 13 (1, (14, (1, (0, (0, []))))))) (ev_ct 14 (pr_q 14 (20, (18, (0, (0, (0, [])))))) (pr_q 18 (39, (19, (1, (0, (0, [])))))))))
def pr_y83 : MethodName := ⟨"OrphanTreeModel", "runs", "(I)Z"⟩
def pr_i83 : ev_Im := (pr_y83, (prog_9_method_11_code, ((some .boolean), [])))
noncomputable def pr_m83 : ev_M := (2, (0, (0, ([], pr_c83))))
/-- OrphanTreeModel.isChild(III)Z -/
noncomputable def pr_c84 : Nat → ev_E := (ev_ct 14 (ev_ct 8 (ev_ct 4 (ev_ct 1 (ev_ct 0 (pr_q 0 (7, (1, (0, (0, (0, [])))))) (pr_q 1 (24, (4, (7, (0, (0, []))))))) (pr_q 4 (1, (7, (140, (0, (0, []))))))) (ev_ct 7 (pr_q 7 (6, (8, (1, (0, (0, [])))))) (pr_q 8 (13, (9, (0, (0, (0, [])))))))) (ev_ct 10 (ev_ct 9 (pr_q 9 (27, (10, (20, (20, (0, [])))))) (pr_q 10 (6, (11, (3, (0, (0, []))))))) (ev_ct 11 (pr_q 11 (17, (14, (0, (14, (35, [])))))) (pr_q 14 (7, (15, (0, (0, (0, []))))))))) (ev_ct 22 (ev_ct 20 (ev_ct 18 (ev_ct 15 (pr_q 15 (24, (18, (7, (0, (0, [])))))) (pr_q 18 (1, (20, (60, (0, (0, []))))))) (pr_q 20 (6, (21, (1, (0, (0, []))))))) (ev_ct 21 (pr_q 21 (13, (22, (0, (0, (0, [])))))) (pr_q 22 (27, (23, (20, (20, (0, [])))))))) (ev_ct 24 (ev_ct 23 (pr_q 23 (6, (24, (2, (0, (0, [])))))) (pr_q 24 (17, (27, (0, (27, (35, []))))))) (ev_ct 35 (pr_q 35 (1, (36, (0, (0, (0, [])))))) (pr_q 36 (39, (37, (1, (0, (0, []))))))))))
def pr_y84 : MethodName := ⟨"OrphanTreeModel", "isChild", "(III)Z"⟩
def pr_i84 : ev_Im := (pr_y84, (prog_9_method_12_code, ((some .boolean), [])))
noncomputable def pr_m84 : ev_M := (4, (0, (0, ([], pr_c84))))
/-- OrphanTreeModel.childrenOf(II)I -/
noncomputable def pr_c85 : Nat → ev_E := (ev_ct 17 (ev_ct 7 (ev_ct 2 (ev_ct 1 (ev_ct 0 (pr_q 0 (1, (1, (0, (0, (0, [])))))) (pr_q 1 (9, (2, (3, (0, (0, []))))))) (pr_q 2 (1, (3, (0, (0, (0, []))))))) (ev_ct 5 (ev_ct 3 (pr_q 3 (9, (5, (4, (0, (0, [])))))) (pr_q 5 (6, (7, (4, (0, (0, []))))))) (pr_q 7 (7, (8, (0, (0, (0, [])))))))) (ev_ct 12 (ev_ct 11 (ev_ct 8 (pr_q 8 (24, (11, (7, (0, (0, [])))))) (pr_q 11 (1, (12, (0, (0, (0, []))))))) (pr_q 12 (27, (13, (20, (20, (0, []))))))) (ev_ct 16 (ev_ct 13 (pr_q 13 (17, (16, (1, (16, (41, [])))))) (pr_q 16 (6, (17, (3, (0, (0, []))))))) (pr_q 17 (7, (18, (0, (0, (0, []))))))))) (ev_ct 32 (ev_ct 21 (ev_ct 20 (ev_ct 18 (pr_q 18 (6, (20, (4, (0, (0, [])))))) (pr_q 20 (6, (21, (1, (0, (0, []))))))) (pr_q 21 (6, (22, (2, (0, (0, []))))))) (ev_ct 25 (ev_ct 22 (pr_q 22 (35, (25, (84, (4, (8, [0, 0])))))) (pr_q 25 (16, (28, (0, (32, (28, []))))))) (pr_q 32 (1, (33, (0, (0, (0, [])))))))) (ev_ct 35 (ev_ct 34 (ev_ct 33 (pr_q 33 (13, (34, (0, (0, (0, [])))))) (pr_q 34 (9, (35, (3, (0, (0, []))))))) (pr_q 35 (12, (38, (4, (1, (0, []))))))) (ev_ct 41 (ev_ct 38 (pr_q 38 (20, (5, (0, (0, (0, [])))))) (pr_q 41 (6, (42, (3, (0, (0, []))))))) (pr_q 42 (39, (43, (0, (0, (0, []))))))))))
def pr_y85 : MethodName := ⟨"OrphanTreeModel", "childrenOf", "(II)I"⟩
def pr_i85 : ev_Im := (pr_y85, (prog_9_method_13_code, ((some .int), [])))
noncomputable def pr_m85 : ev_M := (5, (0, (0, ([], pr_c85))))
/-- OrphanTreeModel.roomOf(I)I -/
noncomputable def pr_c86 : Nat → ev_E := (ev_ct 16 (ev_ct 8 (ev_ct 2 (ev_ct 1 (ev_ct 0 (pr_q 0 (7, (1, (0, (0, (0, [])))))) (pr_q 1 (6, (2, (1, (0, (0, []))))))) (pr_q 2 (35, (5, (83, (2, (8, [0, 0]))))))) (ev_ct 5 (pr_q 5 (16, (8, (0, (31, (8, [])))))) (pr_q 8 (1, (9, (0, (0, (0, [])))))))) (ev_ct 13 (ev_ct 10 (ev_ct 9 (pr_q 9 (7, (10, (0, (0, (0, [])))))) (pr_q 10 (24, (13, (7, (0, (0, []))))))) (pr_q 13 (1, (15, (100, (0, (0, []))))))) (ev_ct 15 (pr_q 15 (6, (16, (1, (0, (0, [])))))) (pr_q 16 (13, (17, (0, (0, (0, []))))))))) (ev_ct 21 (ev_ct 19 (ev_ct 18 (ev_ct 17 (pr_q 17 (27, (18, (20, (20, (0, [])))))) (pr_q 18 (7, (19, (0, (0, (0, []))))))) (pr_q 19 (6, (20, (1, (0, (0, []))))))) (ev_ct 20 (pr_q 20 (1, (21, (0, (0, (0, [])))))) (pr_q 21 (35, (24, (85, (3, (8, [0, 0])))))))) (ev_ct 25 (ev_ct 24 (pr_q 24 (14, (25, (0, (0, (0, [])))))) (pr_q 25 (44, (28, (9, (0, (0, []))))))) (ev_ct 28 (pr_q 28 (20, (32, (0, (0, (0, [])))))) (pr_q 32 (39, (33, (0, (0, (0, []))))))))))
def pr_y86 : MethodName := ⟨"OrphanTreeModel", "roomOf", "(I)I"⟩
def pr_i86 : ev_Im := (pr_y86, (prog_9_method_14_code, ((some .int), [])))
noncomputable def pr_m86 : ev_M := (2, (0, (0, ([], pr_c86))))
/-- OrphanTreeModel.refusesGroup(II)Z -/
noncomputable def pr_c87 : Nat → ev_E := (ev_ct 10 (ev_ct 7 (ev_ct 1 (ev_ct 0 (pr_q 0 (7, (1, (0, (0, (0, [])))))) (pr_q 1 (24, (4, (7, (0, (0, []))))))) (ev_ct 4 (pr_q 4 (1, (7, (340, (0, (0, [])))))) (pr_q 7 (6, (8, (1, (0, (0, [])))))))) (ev_ct 9 (ev_ct 8 (pr_q 8 (13, (9, (0, (0, (0, [])))))) (pr_q 9 (27, (10, (20, (20, (0, []))))))) (pr_q 10 (6, (11, (2, (0, (0, [])))))))) (ev_ct 14 (ev_ct 12 (ev_ct 11 (pr_q 11 (15, (12, (5, (0, (0, [])))))) (pr_q 12 (1, (13, (1, (0, (0, []))))))) (ev_ct 13 (pr_q 13 (15, (14, (1, (0, (0, [])))))) (pr_q 14 (1, (15, (1, (0, (0, [])))))))) (ev_ct 22 (ev_ct 15 (pr_q 15 (17, (18, (0, (18, (22, [])))))) (pr_q 22 (1, (23, (0, (0, (0, []))))))) (pr_q 23 (39, (24, (1, (0, (0, [])))))))))
def pr_y87 : MethodName := ⟨"OrphanTreeModel", "refusesGroup", "(II)Z"⟩
def pr_i87 : ev_Im := (pr_y87, (prog_9_method_15_code, ((some .boolean), [])))
noncomputable def pr_m87 : ev_M := (3, (0, (0, ([], pr_c87))))
/-- OrphanTreeModel.deep(I)I -/
noncomputable def pr_c89 : Nat → ev_E := (ev_ct 3 (ev_ct 1 (ev_ct 0 (pr_q 0 (1, (1, (0, (0, (0, [])))))) (pr_q 1 (9, (2, (2, (0, (0, []))))))) (ev_ct 2 (pr_q 2 (6, (3, (1, (0, (0, [])))))) (pr_q 3 (9, (4, (3, (0, (0, [])))))))) (ev_ct 5 (ev_ct 4 (pr_q 4 (6, (5, (3, (0, (0, [])))))) (pr_q 5 (16, (8, (0, (24, (8, []))))))) (ev_ct 24 (pr_q 24 (6, (25, (2, (0, (0, [])))))) (pr_q 25 (39, (26, (0, (0, (0, [])))))))))
def pr_y89 : MethodName := ⟨"OrphanTreeModel", "deep", "(I)I"⟩
def pr_i89 : ev_Im := (pr_y89, (prog_9_method_17_code, ((some .int), [])))
noncomputable def pr_m89 : ev_M := (4, (0, (0, ([], pr_c89))))
/-- OrphanTreeModel.runningMany()I -/
noncomputable def pr_c90 : Nat → ev_E := (ev_ct 15 (ev_ct 5 (ev_ct 2 (ev_ct 1 (ev_ct 0 (pr_q 0 (1, (1, (0, (0, (0, [])))))) (pr_q 1 (9, (2, (1, (0, (0, []))))))) (pr_q 2 (1, (3, (0, (0, (0, []))))))) (ev_ct 4 (ev_ct 3 (pr_q 3 (9, (4, (2, (0, (0, [])))))) (pr_q 4 (6, (5, (2, (0, (0, []))))))) (pr_q 5 (7, (6, (0, (0, (0, [])))))))) (ev_ct 10 (ev_ct 9 (ev_ct 6 (pr_q 6 (24, (9, (7, (0, (0, [])))))) (pr_q 9 (1, (10, (0, (0, (0, []))))))) (pr_q 10 (27, (11, (20, (20, (0, []))))))) (ev_ct 14 (ev_ct 11 (pr_q 11 (17, (14, (1, (14, (36, [])))))) (pr_q 14 (6, (15, (1, (0, (0, []))))))) (pr_q 15 (7, (16, (0, (0, (0, []))))))))) (ev_ct 28 (ev_ct 20 (ev_ct 17 (ev_ct 16 (pr_q 16 (6, (17, (2, (0, (0, [])))))) (pr_q 17 (35, (20, (83, (2, (8, [0, 0]))))))) (pr_q 20 (16, (23, (0, (27, (23, []))))))) (ev_ct 24 (ev_ct 23 (pr_q 23 (1, (24, (1, (0, (0, [])))))) (pr_q 24 (20, (28, (0, (0, (0, []))))))) (pr_q 28 (13, (29, (0, (0, (0, [])))))))) (ev_ct 33 (ev_ct 30 (ev_ct 29 (pr_q 29 (9, (30, (1, (0, (0, [])))))) (pr_q 30 (12, (33, (2, (1, (0, []))))))) (pr_q 33 (20, (4, (0, (0, (0, []))))))) (ev_ct 36 (pr_q 36 (6, (37, (1, (0, (0, [])))))) (pr_q 37 (39, (38, (0, (0, (0, []))))))))))
def pr_y90 : MethodName := ⟨"OrphanTreeModel", "runningMany", "()I"⟩
def pr_i90 : ev_Im := (pr_y90, (prog_9_method_18_code, ((some .int), [])))
noncomputable def pr_m90 : ev_M := (3, (0, (0, ([], pr_c90))))
/-- OrphanTreeModel.firstZombie(I)I -/
noncomputable def pr_c102 : Nat → ev_E := (ev_ct 4 (ev_ct 2 (ev_ct 1 (ev_ct 0 (pr_q 0 (1, (1, (0, (0, (0, [])))))) (pr_q 1 (9, (2, (2, (0, (0, []))))))) (pr_q 2 (6, (3, (2, (0, (0, []))))))) (ev_ct 3 (pr_q 3 (7, (4, (0, (0, (0, [])))))) (pr_q 4 (24, (7, (7, (0, (0, [])))))))) (ev_ct 9 (ev_ct 8 (ev_ct 7 (pr_q 7 (1, (8, (1, (0, (0, [])))))) (pr_q 8 (27, (9, (20, (20, (0, []))))))) (pr_q 9 (17, (12, (1, (12, (46, []))))))) (ev_ct 46 (pr_q 46 (1, (47, (4294967295, (0, (0, [])))))) (pr_q 47 (39, (48, (0, (0, (0, [])))))))))
def pr_y102 : MethodName := ⟨"OrphanTreeModel", "firstZombie", "(I)I"⟩
def pr_i102 : ev_Im := (pr_y102, (prog_9_method_30_code, ((some .int), [])))
noncomputable def pr_m102 : ev_M := (3, (0, (0, ([], pr_c102))))
/-- OrphanTreeModel.readsAll(I)I -/
noncomputable def pr_c103 : Nat → ev_E := (ev_ct 7 (ev_ct 2 (ev_ct 1 (ev_ct 0 (pr_q 0 (1, (1, (0, (0, (0, [])))))) (pr_q 1 (9, (2, (2, (0, (0, []))))))) (pr_q 2 (7, (3, (0, (0, (0, []))))))) (ev_ct 4 (ev_ct 3 (pr_q 3 (6, (4, (1, (0, (0, [])))))) (pr_q 4 (35, (7, (102, (2, (8, [0, 0]))))))) (pr_q 7 (9, (8, (3, (0, (0, [])))))))) (ev_ct 10 (ev_ct 9 (ev_ct 8 (pr_q 8 (6, (9, (3, (0, (0, [])))))) (pr_q 9 (1, (10, (4294967295, (0, (0, []))))))) (pr_q 10 (17, (13, (0, (46, (13, []))))))) (ev_ct 46 (pr_q 46 (6, (47, (2, (0, (0, [])))))) (pr_q 47 (39, (48, (0, (0, (0, [])))))))))
def pr_y103 : MethodName := ⟨"OrphanTreeModel", "readsAll", "(I)I"⟩
def pr_i103 : ev_Im := (pr_y103, (prog_9_method_31_code, ((some .int), [])))
noncomputable def pr_m103 : ev_M := (4, (0, (0, ([], pr_c103))))
/-- OrphanTreeModel.kills(II)I -/
noncomputable def pr_c105 : Nat → ev_E := (ev_ct 66 (ev_ct 15 (ev_ct 7 (ev_ct 4 (ev_ct 1 (ev_ct 0 (pr_q 0 (7, (1, (0, (0, (0, [])))))) (pr_q 1 (24, (4, (7, (0, (0, []))))))) (pr_q 4 (1, (5, (0, (0, (0, []))))))) (ev_ct 6 (ev_ct 5 (pr_q 5 (27, (6, (20, (20, (0, [])))))) (pr_q 6 (9, (7, (3, (0, (0, []))))))) (pr_q 7 (1, (8, (0, (0, (0, [])))))))) (ev_ct 11 (ev_ct 10 (ev_ct 8 (pr_q 8 (9, (10, (4, (0, (0, [])))))) (pr_q 10 (1, (11, (0, (0, (0, []))))))) (pr_q 11 (9, (13, (5, (0, (0, []))))))) (ev_ct 13 (pr_q 13 (6, (15, (5, (0, (0, [])))))) (pr_q 15 (1, (17, (40, (0, (0, []))))))))) (ev_ct 28 (ev_ct 21 (ev_ct 20 (ev_ct 17 (pr_q 17 (17, (20, (1, (20, (73, [])))))) (pr_q 20 (7, (21, (0, (0, (0, []))))))) (pr_q 21 (24, (24, (7, (5, (0, []))))))) (ev_ct 26 (ev_ct 24 (pr_q 24 (6, (26, (5, (0, (0, [])))))) (pr_q 26 (6, (28, (5, (0, (0, []))))))) (pr_q 28 (16, (31, (2, (31, (65, [])))))))) (ev_ct 34 (ev_ct 33 (ev_ct 31 (pr_q 31 (6, (33, (5, (0, (0, [])))))) (pr_q 33 (6, (34, (3, (0, (0, []))))))) (pr_q 34 (17, (37, (1, (37, (65, []))))))) (ev_ct 65 (pr_q 65 (1, (66, (0, (0, (0, [])))))) (pr_q 66 (30, (67, (0, (0, (0, [])))))))))) (ev_ct 130 (ev_ct 78 (ev_ct 73 (ev_ct 70 (ev_ct 67 (pr_q 67 (12, (70, (5, (1, (0, [])))))) (pr_q 70 (20, (13, (0, (0, (0, []))))))) (pr_q 73 (1, (74, (1, (0, (0, []))))))) (ev_ct 76 (ev_ct 74 (pr_q 74 (9, (76, (5, (0, (0, [])))))) (pr_q 76 (6, (78, (5, (0, (0, []))))))) (pr_q 78 (6, (79, (3, (0, (0, [])))))))) (ev_ct 126 (ev_ct 125 (ev_ct 79 (pr_q 79 (17, (82, (1, (82, (125, [])))))) (pr_q 125 (1, (126, (0, (0, (0, []))))))) (pr_q 126 (9, (128, (5, (0, (0, []))))))) (ev_ct 128 (pr_q 128 (6, (130, (5, (0, (0, [])))))) (pr_q 130 (1, (132, (40, (0, (0, []))))))))) (ev_ct 141 (ev_ct 136 (ev_ct 135 (ev_ct 132 (pr_q 132 (17, (135, (1, (135, (149, [])))))) (pr_q 135 (7, (136, (0, (0, (0, []))))))) (pr_q 136 (24, (139, (7, (5, (0, []))))))) (ev_ct 139 (pr_q 139 (6, (141, (5, (0, (0, [])))))) (pr_q 141 (1, (142, (0, (0, (0, [])))))))) (ev_ct 146 (ev_ct 143 (ev_ct 142 (pr_q 142 (30, (143, (0, (0, (0, [])))))) (pr_q 143 (12, (146, (5, (1, (0, []))))))) (pr_q 146 (20, (128, (0, (0, (0, []))))))) (ev_ct 149 (pr_q 149 (6, (151, (4, (0, (0, [])))))) (pr_q 151 (39, (152, (0, (0, (0, [])))))))))))
def pr_y105 : MethodName := ⟨"OrphanTreeModel", "kills", "(II)I"⟩
def pr_i105 : ev_Im := (pr_y105, (prog_9_method_33_code, ((some .int), [])))
noncomputable def pr_m105 : ev_M := (7, (0, (0, ([], pr_c105))))
/-- OrphanTreeModel.appendWord(I)V -/
noncomputable def pr_c106 : Nat → ev_E := (ev_ct 18 (ev_ct 8 (ev_ct 3 (ev_ct 2 (ev_ct 0 (pr_q 0 (1, (2, (24, (0, (0, [])))))) (pr_q 2 (9, (3, (2, (0, (0, []))))))) (pr_q 3 (6, (4, (2, (0, (0, []))))))) (ev_ct 7 (ev_ct 4 (pr_q 4 (16, (7, (1, (39, (7, [])))))) (pr_q 7 (7, (8, (0, (0, (0, []))))))) (pr_q 8 (24, (11, (7, (9, (0, [])))))))) (ev_ct 15 (ev_ct 12 (ev_ct 11 (pr_q 11 (7, (12, (0, (0, (0, [])))))) (pr_q 12 (24, (15, (7, (10, (0, []))))))) (pr_q 15 (6, (16, (1, (0, (0, []))))))) (ev_ct 17 (ev_ct 16 (pr_q 16 (6, (17, (2, (0, (0, [])))))) (pr_q 17 (15, (18, (5, (0, (0, []))))))) (pr_q 18 (1, (21, (255, (0, (0, []))))))))) (ev_ct 28 (ev_ct 23 (ev_ct 22 (ev_ct 21 (pr_q 21 (15, (22, (1, (0, (0, [])))))) (pr_q 22 (28, (23, (0, (0, (0, []))))))) (pr_q 23 (7, (24, (0, (0, (0, []))))))) (ev_ct 25 (ev_ct 24 (pr_q 24 (21, (25, (0, (0, (0, [])))))) (pr_q 25 (24, (28, (7, (10, (0, []))))))) (pr_q 28 (1, (29, (1, (0, (0, [])))))))) (ev_ct 33 (ev_ct 30 (ev_ct 29 (pr_q 29 (13, (30, (0, (0, (0, [])))))) (pr_q 30 (25, (33, (7, (10, (0, []))))))) (pr_q 33 (12, (36, (2, (4294967288, (0, []))))))) (ev_ct 36 (pr_q 36 (20, (3, (0, (0, (0, [])))))) (pr_q 39 (38, (40, (0, (0, (0, []))))))))))
def pr_y106 : MethodName := ⟨"OrphanTreeModel", "appendWord", "(I)V"⟩
def pr_i106 : ev_Im := (pr_y106, (prog_9_method_34_code, (none, [])))
noncomputable def pr_m106 : ev_M := (3, (0, (0, ([], pr_c106))))
/-- OrphanTreeModel.appendInput(IIIII)I -/
noncomputable def pr_c107 : Nat → ev_E := (ev_ct 26 (ev_ct 11 (ev_ct 5 (ev_ct 1 (ev_ct 0 (pr_q 0 (7, (1, (0, (0, (0, [])))))) (pr_q 1 (1, (2, (0, (0, (0, []))))))) (ev_ct 2 (pr_q 2 (25, (5, (7, (8, (0, [])))))) (pr_q 5 (7, (6, (0, (0, (0, [])))))))) (ev_ct 9 (ev_ct 6 (pr_q 6 (24, (9, (7, (10, (0, [])))))) (pr_q 9 (1, (11, (20, (0, (0, []))))))) (pr_q 11 (13, (12, (0, (0, (0, [])))))))) (ev_ct 21 (ev_ct 15 (ev_ct 12 (pr_q 12 (1, (15, (500, (0, (0, [])))))) (pr_q 15 (17, (18, (2, (18, (20, []))))))) (ev_ct 20 (pr_q 20 (7, (21, (0, (0, (0, [])))))) (pr_q 21 (6, (22, (1, (0, (0, [])))))))) (ev_ct 25 (ev_ct 22 (pr_q 22 (35, (25, (106, (2, (8, [0, 0])))))) (pr_q 25 (7, (26, (0, (0, (0, []))))))) (pr_q 26 (6, (27, (2, (0, (0, []))))))))) (ev_ct 38 (ev_ct 32 (ev_ct 30 (ev_ct 27 (pr_q 27 (35, (30, (106, (2, (8, [0, 0])))))) (pr_q 30 (7, (31, (0, (0, (0, []))))))) (ev_ct 31 (pr_q 31 (6, (32, (3, (0, (0, [])))))) (pr_q 32 (35, (35, (106, (2, (8, [0, 0])))))))) (ev_ct 36 (ev_ct 35 (pr_q 35 (7, (36, (0, (0, (0, [])))))) (pr_q 36 (6, (38, (4, (0, (0, []))))))) (pr_q 38 (35, (41, (106, (2, (8, [0, 0])))))))) (ev_ct 44 (ev_ct 42 (ev_ct 41 (pr_q 41 (7, (42, (0, (0, (0, [])))))) (pr_q 42 (6, (44, (5, (0, (0, []))))))) (pr_q 44 (35, (47, (106, (2, (8, [0, 0]))))))) (ev_ct 48 (ev_ct 47 (pr_q 47 (7, (48, (0, (0, (0, [])))))) (pr_q 48 (24, (51, (7, (10, (0, []))))))) (pr_q 51 (39, (52, (0, (0, (0, []))))))))))
def pr_y107 : MethodName := ⟨"OrphanTreeModel", "appendInput", "(IIIII)I"⟩
def pr_i107 : ev_Im := (pr_y107, (prog_9_method_35_code, ((some .int), [])))
noncomputable def pr_m107 : ev_M := (6, (0, (0, ([], pr_c107))))
/-- OrphanTreeModel.truncateInput(I)Z -/
noncomputable def pr_c108 : Nat → ev_E := (ev_ct 11 (ev_ct 5 (ev_ct 1 (ev_ct 0 (pr_q 0 (7, (1, (0, (0, (0, [])))))) (pr_q 1 (1, (2, (0, (0, (0, []))))))) (ev_ct 2 (pr_q 2 (25, (5, (7, (8, (0, [])))))) (pr_q 5 (6, (6, (1, (0, (0, [])))))))) (ev_ct 7 (ev_ct 6 (pr_q 6 (1, (7, (0, (0, (0, [])))))) (pr_q 7 (7, (8, (0, (0, (0, []))))))) (ev_ct 8 (pr_q 8 (24, (11, (7, (10, (0, [])))))) (pr_q 11 (35, (14, (75, (3, (0, [0, 0]))))))))) (ev_ct 19 (ev_ct 17 (ev_ct 14 (pr_q 14 (16, (17, (0, (17, (19, [])))))) (pr_q 17 (1, (18, (0, (0, (0, []))))))) (ev_ct 18 (pr_q 18 (39, (19, (1, (0, (0, [])))))) (pr_q 19 (7, (20, (0, (0, (0, [])))))))) (ev_ct 21 (ev_ct 20 (pr_q 20 (6, (21, (1, (0, (0, [])))))) (pr_q 21 (25, (24, (7, (10, (0, []))))))) (ev_ct 24 (pr_q 24 (1, (25, (1, (0, (0, [])))))) (pr_q 25 (39, (26, (1, (0, (0, []))))))))))
def pr_y108 : MethodName := ⟨"OrphanTreeModel", "truncateInput", "(I)Z"⟩
def pr_i108 : ev_Im := (pr_y108, (prog_9_method_36_code, ((some .boolean), [])))
noncomputable def pr_m108 : ev_M := (2, (0, (0, ([], pr_c108))))
/-- OrphanTreeModel.byteAt(I)I -/
noncomputable def pr_c109 : Nat → ev_E := (ev_ct 2 (ev_ct 1 (ev_ct 0 (pr_q 0 (6, (1, (1, (0, (0, [])))))) (pr_q 1 (7, (2, (0, (0, (0, []))))))) (pr_q 2 (24, (5, (7, (10, (0, []))))))) (ev_ct 17 (ev_ct 5 (pr_q 5 (17, (8, (1, (8, (17, [])))))) (pr_q 17 (1, (18, (4294967295, (0, (0, []))))))) (pr_q 18 (39, (19, (0, (0, (0, []))))))))
def pr_y109 : MethodName := ⟨"OrphanTreeModel", "byteAt", "(I)I"⟩
def pr_i109 : ev_Im := (pr_y109, (prog_9_method_37_code, ((some .int), [])))
noncomputable def pr_m109 : ev_M := (2, (0, (0, ([], pr_c109))))
/-- OrphanTreeModel.advanceToken()V -/
noncomputable def pr_c110 : Nat → ev_E := (ev_ct 44 (ev_ct 14 (ev_ct 5 (ev_ct 1 (ev_ct 0 (pr_q 0 (7, (1, (0, (0, (0, [])))))) (pr_q 1 (7, (2, (0, (0, (0, []))))))) (ev_ct 2 (pr_q 2 (24, (5, (7, (15, (0, [])))))) (pr_q 5 (35, (8, (109, (2, (8, [0, 0])))))))) (ev_ct 10 (ev_ct 8 (pr_q 8 (1, (10, (32, (0, (0, [])))))) (pr_q 10 (17, (13, (0, (26, (13, []))))))) (ev_ct 13 (pr_q 13 (7, (14, (0, (0, (0, [])))))) (pr_q 14 (7, (15, (0, (0, (0, []))))))))) (ev_ct 23 (ev_ct 18 (ev_ct 15 (pr_q 15 (24, (18, (7, (15, (0, [])))))) (pr_q 18 (35, (21, (109, (2, (8, [0, 0]))))))) (ev_ct 21 (pr_q 21 (1, (23, (10, (0, (0, [])))))) (pr_q 23 (17, (26, (0, (26, (39, [])))))))) (ev_ct 40 (ev_ct 39 (pr_q 39 (7, (40, (0, (0, (0, [])))))) (pr_q 40 (7, (41, (0, (0, (0, []))))))) (ev_ct 41 (pr_q 41 (24, (44, (7, (15, (0, [])))))) (pr_q 44 (25, (47, (7, (16, (0, [])))))))))) (ev_ct 58 (ev_ct 52 (ev_ct 48 (ev_ct 47 (pr_q 47 (7, (48, (0, (0, (0, [])))))) (pr_q 48 (7, (49, (0, (0, (0, []))))))) (ev_ct 49 (pr_q 49 (24, (52, (7, (15, (0, [])))))) (pr_q 52 (35, (55, (109, (2, (8, [0, 0])))))))) (ev_ct 56 (ev_ct 55 (pr_q 55 (9, (56, (1, (0, (0, [])))))) (pr_q 56 (7, (57, (0, (0, (0, []))))))) (ev_ct 57 (pr_q 57 (1, (58, (0, (0, (0, [])))))) (pr_q 58 (25, (61, (7, (17, (0, []))))))))) (ev_ct 66 (ev_ct 62 (ev_ct 61 (pr_q 61 (6, (62, (1, (0, (0, [])))))) (pr_q 62 (1, (63, (4294967295, (0, (0, []))))))) (ev_ct 63 (pr_q 63 (17, (66, (0, (66, (74, [])))))) (pr_q 66 (7, (67, (0, (0, (0, [])))))))) (ev_ct 68 (ev_ct 67 (pr_q 67 (1, (68, (0, (0, (0, [])))))) (pr_q 68 (25, (71, (7, (18, (0, []))))))) (ev_ct 71 (pr_q 71 (20, (229, (0, (0, (0, [])))))) (pr_q 229 (38, (230, (0, (0, (0, [])))))))))))
def pr_y110 : MethodName := ⟨"OrphanTreeModel", "advanceToken", "()V"⟩
def pr_i110 : ev_Im := (pr_y110, (prog_9_method_38_code, (none, [])))
noncomputable def pr_m110 : ev_M := (2, (0, (0, ([], pr_c110))))
/-- OrphanTreeModel.readText()Z -/
noncomputable def pr_c127 : Nat → ev_E := (ev_ct 4 (ev_ct 1 (ev_ct 0 (pr_q 0 (7, (1, (0, (0, (0, [])))))) (pr_q 1 (24, (4, (7, (18, (0, []))))))) (pr_q 4 (16, (7, (0, (37, (7, []))))))) (ev_ct 37 (pr_q 37 (1, (38, (1, (0, (0, [])))))) (pr_q 38 (39, (39, (1, (0, (0, []))))))))
def pr_y127 : MethodName := ⟨"OrphanTreeModel", "readText", "()Z"⟩
def pr_i127 : ev_Im := (pr_y127, (prog_9_method_55_code, ((some .boolean), [])))
noncomputable def pr_m127 : ev_M := (1, (0, (0, ([], pr_c127))))
/-- OrphanTreeModel.loadTree()I -/
noncomputable def pr_c128 : Nat → ev_E := (ev_ct 46 (ev_ct 25 (ev_ct 10 (ev_ct 5 (ev_ct 1 (ev_ct 0 (pr_q 0 (7, (1, (0, (0, (0, [])))))) (pr_q 1 (1, (2, (0, (0, (0, []))))))) (ev_ct 2 (pr_q 2 (25, (5, (7, (8, (0, [])))))) (pr_q 5 (7, (6, (0, (0, (0, [])))))))) (ev_ct 9 (ev_ct 6 (pr_q 6 (24, (9, (7, (0, (0, [])))))) (pr_q 9 (1, (10, (0, (0, (0, []))))))) (pr_q 10 (7, (11, (0, (0, (0, [])))))))) (ev_ct 18 (ev_ct 14 (ev_ct 11 (pr_q 11 (24, (14, (7, (1, (0, [])))))) (pr_q 14 (1, (15, (0, (0, (0, []))))))) (ev_ct 15 (pr_q 15 (1, (18, (780, (0, (0, [])))))) (pr_q 18 (35, (21, (77, (5, (0, [0, 0])))))))) (ev_ct 22 (ev_ct 21 (pr_q 21 (7, (22, (0, (0, (0, [])))))) (pr_q 22 (35, (25, (78, (1, (8, [0, 0]))))))) (pr_q 25 (7, (26, (0, (0, (0, []))))))))) (ev_ct 36 (ev_ct 31 (ev_ct 27 (ev_ct 26 (pr_q 26 (1, (27, (0, (0, (0, [])))))) (pr_q 27 (25, (30, (7, (13, (0, []))))))) (ev_ct 30 (pr_q 30 (7, (31, (0, (0, (0, [])))))) (pr_q 31 (1, (32, (4294967295, (0, (0, [])))))))) (ev_ct 35 (ev_ct 32 (pr_q 32 (25, (35, (7, (14, (0, [])))))) (pr_q 35 (7, (36, (0, (0, (0, []))))))) (pr_q 36 (1, (37, (0, (0, (0, [])))))))) (ev_ct 41 (ev_ct 40 (ev_ct 37 (pr_q 37 (25, (40, (7, (15, (0, [])))))) (pr_q 40 (7, (41, (0, (0, (0, []))))))) (pr_q 41 (1, (42, (0, (0, (0, []))))))) (ev_ct 45 (ev_ct 42 (pr_q 42 (25, (45, (7, (19, (0, [])))))) (pr_q 45 (7, (46, (0, (0, (0, []))))))) (pr_q 46 (35, (49, (110, (1, (8, [0, 0])))))))))) (ev_ct 72 (ev_ct 59 (ev_ct 54 (ev_ct 50 (ev_ct 49 (pr_q 49 (7, (50, (0, (0, (0, [])))))) (pr_q 50 (35, (53, (127, (1, (8, [0, 0]))))))) (ev_ct 53 (pr_q 53 (9, (54, (1, (0, (0, [])))))) (pr_q 54 (7, (55, (0, (0, (0, [])))))))) (ev_ct 56 (ev_ct 55 (pr_q 55 (1, (56, (0, (0, (0, [])))))) (pr_q 56 (25, (59, (7, (10, (0, []))))))) (pr_q 59 (7, (60, (0, (0, (0, [])))))))) (ev_ct 67 (ev_ct 61 (ev_ct 60 (pr_q 60 (7, (61, (0, (0, (0, [])))))) (pr_q 61 (24, (64, (7, (13, (0, []))))))) (ev_ct 64 (pr_q 64 (25, (67, (7, (11, (0, [])))))) (pr_q 67 (7, (68, (0, (0, (0, [])))))))) (ev_ct 69 (ev_ct 68 (pr_q 68 (7, (69, (0, (0, (0, [])))))) (pr_q 69 (24, (72, (7, (14, (0, []))))))) (pr_q 72 (25, (75, (7, (12, (0, []))))))))) (ev_ct 103 (ev_ct 98 (ev_ct 76 (ev_ct 75 (pr_q 75 (6, (76, (1, (0, (0, [])))))) (pr_q 76 (16, (79, (0, (79, (97, []))))))) (ev_ct 97 (pr_q 97 (7, (98, (0, (0, (0, [])))))) (pr_q 98 (1, (99, (0, (0, (0, [])))))))) (ev_ct 102 (ev_ct 99 (pr_q 99 (25, (102, (7, (6, (0, [])))))) (pr_q 102 (7, (103, (0, (0, (0, []))))))) (pr_q 103 (1, (104, (0, (0, (0, [])))))))) (ev_ct 108 (ev_ct 107 (ev_ct 104 (pr_q 104 (25, (107, (7, (7, (1, [])))))) (pr_q 107 (7, (108, (0, (0, (0, []))))))) (pr_q 108 (24, (111, (7, (0, (0, []))))))) (ev_ct 112 (ev_ct 111 (pr_q 111 (1, (112, (0, (0, (0, [])))))) (pr_q 112 (27, (113, (20, (20, (0, []))))))) (pr_q 113 (39, (114, (0, (0, (0, [])))))))))))
def pr_y128 : MethodName := ⟨"OrphanTreeModel", "loadTree", "()I"⟩
def pr_i128 : ev_Im := (pr_y128, (prog_9_method_56_code, ((some .int), [])))
noncomputable def pr_m128 : ev_M := (2, (0, (0, ([], pr_c128))))
/-- OrphanTreeModel.errorCode()I -/
noncomputable def pr_c129 : Nat → ev_E := (ev_ct 2 (ev_ct 1 (ev_ct 0 (pr_q 0 (7, (1, (0, (0, (0, [])))))) (pr_q 1 (1, (2, (0, (0, (0, []))))))) (pr_q 2 (25, (5, (7, (8, (0, []))))))) (ev_ct 6 (ev_ct 5 (pr_q 5 (7, (6, (0, (0, (0, [])))))) (pr_q 6 (24, (9, (7, (11, (0, []))))))) (pr_q 9 (39, (10, (0, (0, (0, []))))))))
def pr_y129 : MethodName := ⟨"OrphanTreeModel", "errorCode", "()I"⟩
def pr_i129 : ev_Im := (pr_y129, (prog_9_method_57_code, ((some .int), [])))
noncomputable def pr_m129 : ev_M := (1, (0, (0, ([], pr_c129))))
/-- OrphanTreeModel.errorOffset()I -/
noncomputable def pr_c130 : Nat → ev_E := (ev_ct 2 (ev_ct 1 (ev_ct 0 (pr_q 0 (7, (1, (0, (0, (0, [])))))) (pr_q 1 (1, (2, (0, (0, (0, []))))))) (pr_q 2 (25, (5, (7, (8, (0, []))))))) (ev_ct 6 (ev_ct 5 (pr_q 5 (7, (6, (0, (0, (0, [])))))) (pr_q 6 (24, (9, (7, (12, (0, []))))))) (pr_q 9 (39, (10, (0, (0, (0, []))))))))
def pr_y130 : MethodName := ⟨"OrphanTreeModel", "errorOffset", "()I"⟩
def pr_i130 : ev_Im := (pr_y130, (prog_9_method_58_code, ((some .int), [])))
noncomputable def pr_m130 : ev_M := (1, (0, (0, ([], pr_c130))))
/-- OrphanTreeModel.inState(I)I -/
noncomputable def pr_c131 : Nat → ev_E := (ev_ct 19 (ev_ct 6 (ev_ct 3 (ev_ct 1 (ev_ct 0 (pr_q 0 (1, (1, (0, (0, (0, [])))))) (pr_q 1 (9, (2, (2, (0, (0, []))))))) (ev_ct 2 (pr_q 2 (1, (3, (0, (0, (0, [])))))) (pr_q 3 (9, (4, (3, (0, (0, [])))))))) (ev_ct 5 (ev_ct 4 (pr_q 4 (6, (5, (3, (0, (0, [])))))) (pr_q 5 (7, (6, (0, (0, (0, []))))))) (pr_q 6 (24, (9, (7, (0, (0, [])))))))) (ev_ct 14 (ev_ct 10 (ev_ct 9 (pr_q 9 (1, (10, (0, (0, (0, [])))))) (pr_q 10 (27, (11, (20, (20, (0, []))))))) (ev_ct 11 (pr_q 11 (17, (14, (1, (14, (42, [])))))) (pr_q 14 (6, (15, (2, (0, (0, [])))))))) (ev_ct 16 (ev_ct 15 (pr_q 15 (7, (16, (0, (0, (0, [])))))) (pr_q 16 (24, (19, (7, (0, (0, []))))))) (pr_q 19 (1, (22, (140, (0, (0, []))))))))) (ev_ct 30 (ev_ct 25 (ev_ct 23 (ev_ct 22 (pr_q 22 (6, (23, (3, (0, (0, [])))))) (pr_q 23 (13, (24, (0, (0, (0, []))))))) (ev_ct 24 (pr_q 24 (27, (25, (20, (20, (0, [])))))) (pr_q 25 (6, (26, (1, (0, (0, [])))))))) (ev_ct 29 (ev_ct 26 (pr_q 26 (17, (29, (0, (29, (33, [])))))) (pr_q 29 (1, (30, (1, (0, (0, []))))))) (pr_q 30 (20, (34, (0, (0, (0, [])))))))) (ev_ct 36 (ev_ct 34 (ev_ct 33 (pr_q 33 (1, (34, (0, (0, (0, [])))))) (pr_q 34 (13, (35, (0, (0, (0, []))))))) (ev_ct 35 (pr_q 35 (9, (36, (2, (0, (0, [])))))) (pr_q 36 (12, (39, (3, (1, (0, [])))))))) (ev_ct 42 (ev_ct 39 (pr_q 39 (20, (4, (0, (0, (0, [])))))) (pr_q 42 (6, (43, (2, (0, (0, []))))))) (pr_q 43 (39, (44, (0, (0, (0, []))))))))))
def pr_y131 : MethodName := ⟨"OrphanTreeModel", "inState", "(I)I"⟩
def pr_i131 : ev_Im := (pr_y131, (prog_9_method_59_code, ((some .int), [])))
noncomputable def pr_m131 : ev_M := (4, (0, (0, ([], pr_c131))))
/-- OrphanTreeModel.dutiesOf(I)I -/
noncomputable def pr_c132 : Nat → ev_E := (ev_ct 18 (ev_ct 7 (ev_ct 3 (ev_ct 1 (ev_ct 0 (pr_q 0 (1, (1, (0, (0, (0, [])))))) (pr_q 1 (9, (2, (2, (0, (0, []))))))) (ev_ct 2 (pr_q 2 (1, (3, (0, (0, (0, [])))))) (pr_q 3 (9, (4, (3, (0, (0, [])))))))) (ev_ct 5 (ev_ct 4 (pr_q 4 (6, (5, (3, (0, (0, [])))))) (pr_q 5 (1, (7, (8, (0, (0, []))))))) (pr_q 7 (17, (10, (1, (10, (39, [])))))))) (ev_ct 12 (ev_ct 11 (ev_ct 10 (pr_q 10 (6, (11, (2, (0, (0, [])))))) (pr_q 11 (7, (12, (0, (0, (0, []))))))) (pr_q 12 (24, (15, (7, (0, (0, []))))))) (ev_ct 17 (ev_ct 15 (pr_q 15 (1, (17, (11, (0, (0, [])))))) (pr_q 17 (6, (18, (3, (0, (0, []))))))) (pr_q 18 (13, (19, (0, (0, (0, []))))))))) (ev_ct 27 (ev_ct 24 (ev_ct 20 (ev_ct 19 (pr_q 19 (27, (20, (20, (20, (0, [])))))) (pr_q 20 (6, (21, (1, (0, (0, []))))))) (ev_ct 21 (pr_q 21 (17, (24, (0, (24, (30, [])))))) (pr_q 24 (1, (25, (1, (0, (0, [])))))))) (ev_ct 26 (ev_ct 25 (pr_q 25 (6, (26, (3, (0, (0, [])))))) (pr_q 26 (15, (27, (4, (0, (0, []))))))) (pr_q 27 (20, (31, (0, (0, (0, [])))))))) (ev_ct 33 (ev_ct 32 (ev_ct 31 (pr_q 31 (15, (32, (2, (0, (0, [])))))) (pr_q 32 (9, (33, (2, (0, (0, []))))))) (pr_q 33 (12, (36, (3, (1, (0, []))))))) (ev_ct 39 (ev_ct 36 (pr_q 36 (20, (4, (0, (0, (0, [])))))) (pr_q 39 (6, (40, (2, (0, (0, []))))))) (pr_q 40 (39, (41, (0, (0, (0, []))))))))))
def pr_y132 : MethodName := ⟨"OrphanTreeModel", "dutiesOf", "(I)I"⟩
def pr_i132 : ev_Im := (pr_y132, (prog_9_method_60_code, ((some .int), [])))
noncomputable def pr_m132 : ev_M := (4, (0, (0, ([], pr_c132))))
/-- OrphanTreeModel.willsOf(I)I -/
noncomputable def pr_c133 : Nat → ev_E := (ev_ct 21 (ev_ct 7 (ev_ct 3 (ev_ct 1 (ev_ct 0 (pr_q 0 (1, (1, (0, (0, (0, [])))))) (pr_q 1 (9, (2, (2, (0, (0, []))))))) (ev_ct 2 (pr_q 2 (1, (3, (0, (0, (0, [])))))) (pr_q 3 (9, (4, (3, (0, (0, [])))))))) (ev_ct 5 (ev_ct 4 (pr_q 4 (6, (5, (3, (0, (0, [])))))) (pr_q 5 (1, (7, (8, (0, (0, []))))))) (pr_q 7 (17, (10, (1, (10, (45, [])))))))) (ev_ct 15 (ev_ct 11 (ev_ct 10 (pr_q 10 (6, (11, (2, (0, (0, [])))))) (pr_q 11 (7, (12, (0, (0, (0, []))))))) (ev_ct 12 (pr_q 12 (24, (15, (7, (0, (0, [])))))) (pr_q 15 (1, (18, (460, (0, (0, [])))))))) (ev_ct 20 (ev_ct 18 (pr_q 18 (1, (20, (8, (0, (0, [])))))) (pr_q 20 (6, (21, (1, (0, (0, []))))))) (pr_q 21 (15, (22, (0, (0, (0, []))))))))) (ev_ct 36 (ev_ct 25 (ev_ct 23 (ev_ct 22 (pr_q 22 (13, (23, (0, (0, (0, [])))))) (pr_q 23 (6, (24, (3, (0, (0, []))))))) (ev_ct 24 (pr_q 24 (13, (25, (0, (0, (0, [])))))) (pr_q 25 (27, (26, (20, (20, (0, [])))))))) (ev_ct 27 (ev_ct 26 (pr_q 26 (1, (27, (4294967295, (0, (0, [])))))) (pr_q 27 (17, (30, (0, (36, (30, []))))))) (pr_q 36 (1, (37, (0, (0, (0, [])))))))) (ev_ct 39 (ev_ct 38 (ev_ct 37 (pr_q 37 (15, (38, (2, (0, (0, [])))))) (pr_q 38 (9, (39, (2, (0, (0, []))))))) (pr_q 39 (12, (42, (3, (1, (0, []))))))) (ev_ct 45 (ev_ct 42 (pr_q 42 (20, (4, (0, (0, (0, [])))))) (pr_q 45 (6, (46, (2, (0, (0, []))))))) (pr_q 46 (39, (47, (0, (0, (0, []))))))))))
def pr_y133 : MethodName := ⟨"OrphanTreeModel", "willsOf", "(I)I"⟩
def pr_i133 : ev_Im := (pr_y133, (prog_9_method_61_code, ((some .int), [])))
noncomputable def pr_m133 : ev_M := (4, (0, (0, ([], pr_c133))))
/-- OrphanTreeModel.count(I)I -/
noncomputable def pr_c134 : Nat → ev_E := (ev_ct 96 (ev_ct 21 (ev_ct 8 (ev_ct 5 (ev_ct 1 (ev_ct 0 (pr_q 0 (7, (1, (0, (0, (0, [])))))) (pr_q 1 (1, (2, (0, (0, (0, []))))))) (ev_ct 2 (pr_q 2 (25, (5, (7, (8, (0, [])))))) (pr_q 5 (7, (6, (0, (0, (0, [])))))))) (ev_ct 7 (ev_ct 6 (pr_q 6 (6, (7, (1, (0, (0, [])))))) (pr_q 7 (1, (8, (0, (0, (0, []))))))) (pr_q 8 (1, (10, (10, (0, (0, [])))))))) (ev_ct 16 (ev_ct 13 (ev_ct 10 (pr_q 10 (35, (13, (75, (3, (0, [0, 0])))))) (pr_q 13 (16, (16, (0, (16, (20, []))))))) (pr_q 16 (1, (17, (1, (0, (0, []))))))) (ev_ct 20 (ev_ct 17 (pr_q 17 (20, (21, (0, (0, (0, [])))))) (pr_q 20 (1, (21, (0, (0, (0, []))))))) (pr_q 21 (1, (22, (1, (0, (0, []))))))))) (ev_ct 88 (ev_ct 29 (ev_ct 25 (ev_ct 22 (pr_q 22 (35, (25, (76, (3, (8, [0, 0])))))) (pr_q 25 (16, (28, (0, (30, (28, []))))))) (ev_ct 28 (pr_q 28 (1, (29, (0, (0, (0, [])))))) (pr_q 29 (39, (30, (0, (0, (0, [])))))))) (ev_ct 31 (ev_ct 30 (pr_q 30 (6, (31, (1, (0, (0, [])))))) (pr_q 31 (42, (0, (2147483648, (2147483658, (125, [88, 95, 95, 95, 125, 125, 125, 125, 103, 112, 117]))))))) (pr_q 88 (7, (89, (0, (0, (0, [])))))))) (ev_ct 93 (ev_ct 92 (ev_ct 89 (pr_q 89 (24, (92, (7, (0, (0, [])))))) (pr_q 92 (1, (93, (0, (0, (0, []))))))) (pr_q 93 (27, (94, (20, (20, (0, []))))))) (ev_ct 95 (ev_ct 94 (pr_q 94 (39, (95, (0, (0, (0, [])))))) (pr_q 95 (7, (96, (0, (0, (0, []))))))) (pr_q 96 (6, (97, (1, (0, (0, [])))))))))) (ev_ct 117 (ev_ct 105 (ev_ct 102 (ev_ct 98 (ev_ct 97 (pr_q 97 (1, (98, (1, (0, (0, [])))))) (pr_q 98 (14, (99, (0, (0, (0, []))))))) (ev_ct 99 (pr_q 99 (35, (102, (131, (2, (8, [0, 0])))))) (pr_q 102 (39, (103, (0, (0, (0, [])))))))) (ev_ct 104 (ev_ct 103 (pr_q 103 (7, (104, (0, (0, (0, [])))))) (pr_q 104 (1, (105, (0, (0, (0, []))))))) (pr_q 105 (35, (108, (132, (2, (8, [0, 0])))))))) (ev_ct 112 (ev_ct 111 (ev_ct 108 (pr_q 108 (35, (111, (353, (1, (0, [0, 0])))))) (pr_q 111 (39, (112, (0, (0, (0, []))))))) (pr_q 112 (7, (113, (0, (0, (0, []))))))) (ev_ct 116 (ev_ct 113 (pr_q 113 (24, (116, (7, (6, (0, [])))))) (pr_q 116 (39, (117, (0, (0, (0, []))))))) (pr_q 117 (7, (118, (0, (0, (0, []))))))))) (ev_ct 129 (ev_ct 124 (ev_ct 121 (ev_ct 118 (pr_q 118 (24, (121, (7, (0, (0, [])))))) (pr_q 121 (1, (123, (59, (0, (0, []))))))) (ev_ct 123 (pr_q 123 (27, (124, (20, (20, (0, [])))))) (pr_q 124 (39, (125, (0, (0, (0, [])))))))) (ev_ct 126 (ev_ct 125 (pr_q 125 (7, (126, (0, (0, (0, [])))))) (pr_q 126 (24, (129, (7, (0, (0, []))))))) (pr_q 129 (1, (130, (1, (0, (0, [])))))))) (ev_ct 132 (ev_ct 131 (ev_ct 130 (pr_q 130 (6, (131, (1, (0, (0, [])))))) (pr_q 131 (13, (132, (0, (0, (0, []))))))) (pr_q 132 (1, (133, (4, (0, (0, []))))))) (ev_ct 134 (ev_ct 133 (pr_q 133 (14, (134, (0, (0, (0, [])))))) (pr_q 134 (27, (135, (20, (20, (0, []))))))) (pr_q 135 (39, (136, (0, (0, (0, [])))))))))))
def pr_y134 : MethodName := ⟨"OrphanTreeModel", "count", "(I)I"⟩
def pr_i134 : ev_Im := (pr_y134, (prog_9_method_62_code, ((some .int), [])))
noncomputable def pr_m134 : ev_M := (2, (0, (0, ([], pr_c134))))
/-- OrphanTreeModel.noProcess(I)Z -/
noncomputable def pr_c135 : Nat → ev_E := (ev_ct 13 (ev_ct 6 (ev_ct 2 (ev_ct 1 (ev_ct 0 (pr_q 0 (7, (1, (0, (0, (0, [])))))) (pr_q 1 (1, (2, (0, (0, (0, []))))))) (pr_q 2 (25, (5, (7, (8, (0, []))))))) (ev_ct 5 (pr_q 5 (7, (6, (0, (0, (0, [])))))) (pr_q 6 (6, (7, (1, (0, (0, [])))))))) (ev_ct 9 (ev_ct 8 (ev_ct 7 (pr_q 7 (1, (8, (0, (0, (0, [])))))) (pr_q 8 (7, (9, (0, (0, (0, []))))))) (pr_q 9 (24, (12, (7, (0, (0, []))))))) (ev_ct 12 (pr_q 12 (1, (13, (0, (0, (0, [])))))) (pr_q 13 (27, (14, (20, (20, (0, []))))))))) (ev_ct 22 (ev_ct 16 (ev_ct 15 (ev_ct 14 (pr_q 14 (1, (15, (1, (0, (0, [])))))) (pr_q 15 (14, (16, (0, (0, (0, []))))))) (pr_q 16 (35, (19, (75, (3, (0, [0, 0]))))))) (ev_ct 19 (pr_q 19 (16, (22, (0, (22, (26, [])))))) (pr_q 22 (1, (23, (1, (0, (0, [])))))))) (ev_ct 27 (ev_ct 26 (ev_ct 23 (pr_q 23 (20, (27, (0, (0, (0, [])))))) (pr_q 26 (1, (27, (0, (0, (0, []))))))) (pr_q 27 (1, (28, (1, (0, (0, []))))))) (ev_ct 28 (pr_q 28 (35, (31, (76, (3, (8, [0, 0])))))) (pr_q 31 (39, (32, (1, (0, (0, []))))))))))
def pr_y135 : MethodName := ⟨"OrphanTreeModel", "noProcess", "(I)Z"⟩
def pr_i135 : ev_Im := (pr_y135, (prog_9_method_63_code, ((some .boolean), [])))
noncomputable def pr_m135 : ev_M := (2, (0, (0, ([], pr_c135))))
/-- OrphanTreeModel.notRunning(II)Z -/
noncomputable def pr_c136 : Nat → ev_E := (ev_ct 14 (ev_ct 8 (ev_ct 2 (ev_ct 1 (ev_ct 0 (pr_q 0 (7, (1, (0, (0, (0, [])))))) (pr_q 1 (6, (2, (1, (0, (0, []))))))) (pr_q 2 (35, (5, (135, (2, (8, [0, 0]))))))) (ev_ct 5 (pr_q 5 (16, (8, (0, (8, (29, [])))))) (pr_q 8 (7, (9, (0, (0, (0, [])))))))) (ev_ct 10 (ev_ct 9 (pr_q 9 (7, (10, (0, (0, (0, [])))))) (pr_q 10 (6, (11, (1, (0, (0, []))))))) (ev_ct 11 (pr_q 11 (35, (14, (83, (2, (8, [0, 0])))))) (pr_q 14 (16, (17, (0, (17, (21, []))))))))) (ev_ct 26 (ev_ct 22 (ev_ct 21 (pr_q 21 (1, (22, (0, (0, (0, [])))))) (pr_q 22 (6, (23, (2, (0, (0, []))))))) (ev_ct 23 (pr_q 23 (35, (26, (76, (3, (8, [0, 0])))))) (pr_q 26 (16, (29, (0, (33, (29, [])))))))) (ev_ct 30 (ev_ct 29 (pr_q 29 (1, (30, (1, (0, (0, [])))))) (pr_q 30 (20, (34, (0, (0, (0, []))))))) (ev_ct 33 (pr_q 33 (1, (34, (0, (0, (0, [])))))) (pr_q 34 (39, (35, (1, (0, (0, []))))))))))
def pr_y136 : MethodName := ⟨"OrphanTreeModel", "notRunning", "(II)Z"⟩
def pr_i136 : ev_Im := (pr_y136, (prog_9_method_64_code, ((some .boolean), [])))
noncomputable def pr_m136 : ev_M := (3, (0, (0, ([], pr_c136))))
/-- OrphanTreeModel.notExiting(II)Z -/
noncomputable def pr_c137 : Nat → ev_E := (ev_ct 21 (ev_ct 5 (ev_ct 1 (ev_ct 0 (pr_q 0 (7, (1, (0, (0, (0, [])))))) (pr_q 1 (6, (2, (1, (0, (0, []))))))) (ev_ct 2 (pr_q 2 (35, (5, (135, (2, (8, [0, 0])))))) (pr_q 5 (16, (8, (0, (8, (33, [])))))))) (ev_ct 9 (ev_ct 8 (pr_q 8 (7, (9, (0, (0, (0, [])))))) (pr_q 9 (6, (10, (1, (0, (0, []))))))) (ev_ct 10 (pr_q 10 (16, (13, (0, (21, (13, [])))))) (pr_q 21 (1, (22, (1, (0, (0, []))))))))) (ev_ct 30 (ev_ct 26 (ev_ct 22 (pr_q 22 (20, (26, (0, (0, (0, [])))))) (pr_q 26 (6, (27, (2, (0, (0, []))))))) (ev_ct 27 (pr_q 27 (35, (30, (76, (3, (8, [0, 0])))))) (pr_q 30 (16, (33, (0, (37, (33, [])))))))) (ev_ct 34 (ev_ct 33 (pr_q 33 (1, (34, (1, (0, (0, [])))))) (pr_q 34 (20, (38, (0, (0, (0, []))))))) (pr_q 38 (39, (39, (1, (0, (0, [])))))))))
def pr_y137 : MethodName := ⟨"OrphanTreeModel", "notExiting", "(II)Z"⟩
def pr_i137 : ev_Im := (pr_y137, (prog_9_method_65_code, ((some .boolean), [])))
noncomputable def pr_m137 : ev_M := (3, (0, (0, ([], pr_c137))))
/-- OrphanTreeModel.process(II)I -/
noncomputable def pr_c138 : Nat → ev_E := (ev_ct 155 (ev_ct 114 (ev_ct 24 (ev_ct 10 (ev_ct 5 (ev_ct 1 (ev_ct 0 (pr_q 0 (7, (1, (0, (0, (0, [])))))) (pr_q 1 (6, (2, (1, (0, (0, []))))))) (ev_ct 2 (pr_q 2 (35, (5, (135, (2, (8, [0, 0])))))) (pr_q 5 (16, (8, (0, (8, (31, [])))))))) (ev_ct 9 (ev_ct 8 (pr_q 8 (7, (9, (0, (0, (0, [])))))) (pr_q 9 (6, (10, (2, (0, (0, []))))))) (pr_q 10 (1, (11, (0, (0, (0, [])))))))) (ev_ct 19 (ev_ct 13 (ev_ct 11 (pr_q 11 (1, (13, (14, (0, (0, [])))))) (pr_q 13 (35, (16, (75, (3, (0, [0, 0]))))))) (ev_ct 16 (pr_q 16 (16, (19, (0, (19, (23, [])))))) (pr_q 19 (1, (20, (1, (0, (0, [])))))))) (ev_ct 23 (ev_ct 20 (pr_q 20 (20, (24, (0, (0, (0, [])))))) (pr_q 23 (1, (24, (0, (0, (0, []))))))) (pr_q 24 (1, (25, (2, (0, (0, []))))))))) (ev_ct 104 (ev_ct 32 (ev_ct 28 (ev_ct 25 (pr_q 25 (35, (28, (76, (3, (8, [0, 0])))))) (pr_q 28 (16, (31, (0, (33, (31, []))))))) (ev_ct 31 (pr_q 31 (1, (32, (0, (0, (0, [])))))) (pr_q 32 (39, (33, (0, (0, (0, [])))))))) (ev_ct 34 (ev_ct 33 (pr_q 33 (6, (34, (2, (0, (0, [])))))) (pr_q 34 (42, (0, (2147483648, (2147483661, (238, [104, 114, 124, 130, 137, 144, 155, 166, 177, 188, 194, 205, 216, 227]))))))) (pr_q 104 (7, (105, (0, (0, (0, [])))))))) (ev_ct 111 (ev_ct 108 (ev_ct 105 (pr_q 105 (24, (108, (7, (0, (0, [])))))) (pr_q 108 (1, (110, (60, (0, (0, []))))))) (ev_ct 110 (pr_q 110 (6, (111, (1, (0, (0, [])))))) (pr_q 111 (13, (112, (0, (0, (0, [])))))))) (ev_ct 113 (ev_ct 112 (pr_q 112 (27, (113, (20, (20, (0, [])))))) (pr_q 113 (39, (114, (0, (0, (0, []))))))) (pr_q 114 (7, (115, (0, (0, (0, [])))))))))) (ev_ct 133 (ev_ct 124 (ev_ct 121 (ev_ct 118 (ev_ct 115 (pr_q 115 (24, (118, (7, (0, (0, [])))))) (pr_q 118 (1, (120, (100, (0, (0, []))))))) (ev_ct 120 (pr_q 120 (6, (121, (1, (0, (0, [])))))) (pr_q 121 (13, (122, (0, (0, (0, [])))))))) (ev_ct 123 (ev_ct 122 (pr_q 122 (27, (123, (20, (20, (0, [])))))) (pr_q 123 (39, (124, (0, (0, (0, []))))))) (pr_q 124 (7, (125, (0, (0, (0, [])))))))) (ev_ct 130 (ev_ct 126 (ev_ct 125 (pr_q 125 (6, (126, (1, (0, (0, [])))))) (pr_q 126 (35, (129, (86, (2, (8, [0, 0]))))))) (ev_ct 129 (pr_q 129 (39, (130, (0, (0, (0, [])))))) (pr_q 130 (7, (131, (0, (0, (0, [])))))))) (ev_ct 132 (ev_ct 131 (pr_q 131 (6, (132, (1, (0, (0, [])))))) (pr_q 132 (1, (133, (0, (0, (0, []))))))) (pr_q 133 (35, (136, (85, (3, (8, [0, 0]))))))))) (ev_ct 144 (ev_ct 139 (ev_ct 137 (ev_ct 136 (pr_q 136 (39, (137, (0, (0, (0, [])))))) (pr_q 137 (7, (138, (0, (0, (0, []))))))) (ev_ct 138 (pr_q 138 (6, (139, (1, (0, (0, [])))))) (pr_q 139 (1, (140, (1, (0, (0, [])))))))) (ev_ct 143 (ev_ct 140 (pr_q 140 (35, (143, (85, (3, (8, [0, 0])))))) (pr_q 143 (39, (144, (0, (0, (0, []))))))) (pr_q 144 (7, (145, (0, (0, (0, [])))))))) (ev_ct 152 (ev_ct 148 (ev_ct 145 (pr_q 145 (24, (148, (7, (0, (0, [])))))) (pr_q 148 (1, (151, (140, (0, (0, []))))))) (ev_ct 151 (pr_q 151 (6, (152, (1, (0, (0, [])))))) (pr_q 152 (13, (153, (0, (0, (0, [])))))))) (ev_ct 154 (ev_ct 153 (pr_q 153 (27, (154, (20, (20, (0, [])))))) (pr_q 154 (39, (155, (0, (0, (0, []))))))) (pr_q 155 (7, (156, (0, (0, (0, []))))))))))) (ev_ct 201 (ev_ct 177 (ev_ct 166 (ev_ct 163 (ev_ct 159 (ev_ct 156 (pr_q 156 (24, (159, (7, (0, (0, [])))))) (pr_q 159 (1, (162, (180, (0, (0, []))))))) (ev_ct 162 (pr_q 162 (6, (163, (1, (0, (0, [])))))) (pr_q 163 (13, (164, (0, (0, (0, [])))))))) (ev_ct 165 (ev_ct 164 (pr_q 164 (27, (165, (20, (20, (0, [])))))) (pr_q 165 (39, (166, (0, (0, (0, []))))))) (pr_q 166 (7, (167, (0, (0, (0, [])))))))) (ev_ct 174 (ev_ct 170 (ev_ct 167 (pr_q 167 (24, (170, (7, (0, (0, [])))))) (pr_q 170 (1, (173, (220, (0, (0, []))))))) (ev_ct 173 (pr_q 173 (6, (174, (1, (0, (0, [])))))) (pr_q 174 (13, (175, (0, (0, (0, [])))))))) (ev_ct 176 (ev_ct 175 (pr_q 175 (27, (176, (20, (20, (0, [])))))) (pr_q 176 (39, (177, (0, (0, (0, []))))))) (pr_q 177 (7, (178, (0, (0, (0, []))))))))) (ev_ct 188 (ev_ct 185 (ev_ct 181 (ev_ct 178 (pr_q 178 (24, (181, (7, (0, (0, [])))))) (pr_q 181 (1, (184, (260, (0, (0, []))))))) (ev_ct 184 (pr_q 184 (6, (185, (1, (0, (0, [])))))) (pr_q 185 (13, (186, (0, (0, (0, [])))))))) (ev_ct 187 (ev_ct 186 (pr_q 186 (27, (187, (20, (20, (0, [])))))) (pr_q 187 (39, (188, (0, (0, (0, []))))))) (pr_q 188 (7, (189, (0, (0, (0, [])))))))) (ev_ct 194 (ev_ct 190 (ev_ct 189 (pr_q 189 (6, (190, (1, (0, (0, [])))))) (pr_q 190 (35, (193, (132, (2, (8, [0, 0]))))))) (ev_ct 193 (pr_q 193 (39, (194, (0, (0, (0, [])))))) (pr_q 194 (7, (195, (0, (0, (0, [])))))))) (ev_ct 198 (ev_ct 195 (pr_q 195 (24, (198, (7, (0, (0, [])))))) (pr_q 198 (1, (201, (300, (0, (0, []))))))) (pr_q 201 (6, (202, (1, (0, (0, [])))))))))) (ev_ct 223 (ev_ct 212 (ev_ct 205 (ev_ct 203 (ev_ct 202 (pr_q 202 (13, (203, (0, (0, (0, [])))))) (pr_q 203 (27, (204, (20, (20, (0, []))))))) (ev_ct 204 (pr_q 204 (39, (205, (0, (0, (0, [])))))) (pr_q 205 (7, (206, (0, (0, (0, [])))))))) (ev_ct 209 (ev_ct 206 (pr_q 206 (24, (209, (7, (0, (0, [])))))) (pr_q 209 (1, (212, (340, (0, (0, []))))))) (pr_q 212 (6, (213, (1, (0, (0, [])))))))) (ev_ct 216 (ev_ct 214 (ev_ct 213 (pr_q 213 (13, (214, (0, (0, (0, [])))))) (pr_q 214 (27, (215, (20, (20, (0, []))))))) (ev_ct 215 (pr_q 215 (39, (216, (0, (0, (0, [])))))) (pr_q 216 (7, (217, (0, (0, (0, [])))))))) (ev_ct 220 (ev_ct 217 (pr_q 217 (24, (220, (7, (0, (0, [])))))) (pr_q 220 (1, (223, (380, (0, (0, []))))))) (pr_q 223 (6, (224, (1, (0, (0, []))))))))) (ev_ct 234 (ev_ct 227 (ev_ct 225 (ev_ct 224 (pr_q 224 (13, (225, (0, (0, (0, [])))))) (pr_q 225 (27, (226, (20, (20, (0, []))))))) (ev_ct 226 (pr_q 226 (39, (227, (0, (0, (0, [])))))) (pr_q 227 (7, (228, (0, (0, (0, [])))))))) (ev_ct 231 (ev_ct 228 (pr_q 228 (24, (231, (7, (0, (0, [])))))) (pr_q 231 (1, (234, (420, (0, (0, []))))))) (pr_q 234 (6, (235, (1, (0, (0, [])))))))) (ev_ct 238 (ev_ct 236 (ev_ct 235 (pr_q 235 (13, (236, (0, (0, (0, [])))))) (pr_q 236 (27, (237, (20, (20, (0, []))))))) (ev_ct 237 (pr_q 237 (39, (238, (0, (0, (0, [])))))) (pr_q 238 (7, (239, (0, (0, (0, [])))))))) (ev_ct 240 (ev_ct 239 (pr_q 239 (6, (240, (1, (0, (0, [])))))) (pr_q 240 (35, (243, (133, (2, (8, [0, 0]))))))) (pr_q 243 (39, (244, (0, (0, (0, []))))))))))))
def pr_y138 : MethodName := ⟨"OrphanTreeModel", "process", "(II)I"⟩
def pr_i138 : ev_Im := (pr_y138, (prog_9_method_66_code, ((some .int), [])))
noncomputable def pr_m138 : ev_M := (3, (0, (0, ([], pr_c138))))
/-- OrphanTreeModel.noDuty(II)Z -/
noncomputable def pr_c139 : Nat → ev_E := (ev_ct 8 (ev_ct 2 (ev_ct 1 (ev_ct 0 (pr_q 0 (7, (1, (0, (0, (0, [])))))) (pr_q 1 (6, (2, (1, (0, (0, []))))))) (pr_q 2 (1, (3, (0, (0, (0, []))))))) (ev_ct 5 (ev_ct 3 (pr_q 3 (1, (5, (7, (0, (0, [])))))) (pr_q 5 (35, (8, (75, (3, (0, [0, 0]))))))) (pr_q 8 (16, (11, (0, (11, (15, [])))))))) (ev_ct 15 (ev_ct 12 (ev_ct 11 (pr_q 11 (1, (12, (1, (0, (0, [])))))) (pr_q 12 (20, (16, (0, (0, (0, []))))))) (pr_q 15 (1, (16, (0, (0, (0, []))))))) (ev_ct 17 (ev_ct 16 (pr_q 16 (6, (17, (2, (0, (0, [])))))) (pr_q 17 (35, (20, (76, (3, (8, [0, 0]))))))) (pr_q 20 (39, (21, (1, (0, (0, [])))))))))
def pr_y139 : MethodName := ⟨"OrphanTreeModel", "noDuty", "(II)Z"⟩
def pr_i139 : ev_Im := (pr_y139, (prog_9_method_67_code, ((some .boolean), [])))
noncomputable def pr_m139 : ev_M := (3, (0, (0, ([], pr_c139))))
/-- OrphanTreeModel.holder(I)I -/
noncomputable def pr_c140 : Nat → ev_E := (ev_ct 14 (ev_ct 6 (ev_ct 2 (ev_ct 1 (ev_ct 0 (pr_q 0 (7, (1, (0, (0, (0, [])))))) (pr_q 1 (1, (2, (0, (0, (0, []))))))) (pr_q 2 (25, (5, (7, (8, (0, []))))))) (ev_ct 5 (pr_q 5 (7, (6, (0, (0, (0, [])))))) (pr_q 6 (6, (7, (1, (0, (0, [])))))))) (ev_ct 8 (ev_ct 7 (pr_q 7 (1, (8, (1, (0, (0, [])))))) (pr_q 8 (35, (11, (139, (3, (8, [0, 0]))))))) (ev_ct 11 (pr_q 11 (16, (14, (0, (18, (14, [])))))) (pr_q 14 (1, (15, (0, (0, (0, []))))))))) (ev_ct 22 (ev_ct 18 (ev_ct 15 (pr_q 15 (20, (27, (0, (0, (0, [])))))) (pr_q 18 (7, (19, (0, (0, (0, []))))))) (ev_ct 19 (pr_q 19 (24, (22, (7, (0, (0, [])))))) (pr_q 22 (1, (24, (11, (0, (0, [])))))))) (ev_ct 25 (ev_ct 24 (pr_q 24 (6, (25, (1, (0, (0, [])))))) (pr_q 25 (13, (26, (0, (0, (0, []))))))) (ev_ct 26 (pr_q 26 (27, (27, (20, (20, (0, [])))))) (pr_q 27 (39, (28, (0, (0, (0, []))))))))))
def pr_y140 : MethodName := ⟨"OrphanTreeModel", "holder", "(I)I"⟩
def pr_i140 : ev_Im := (pr_y140, (prog_9_method_68_code, ((some .int), [])))
noncomputable def pr_m140 : ev_M := (2, (0, (0, ([], pr_c140))))
/-- OrphanTreeModel.rule(I)I -/
noncomputable def pr_c141 : Nat → ev_E := (ev_ct 14 (ev_ct 7 (ev_ct 2 (ev_ct 1 (ev_ct 0 (pr_q 0 (7, (1, (0, (0, (0, [])))))) (pr_q 1 (1, (2, (0, (0, (0, []))))))) (pr_q 2 (25, (5, (7, (8, (0, []))))))) (ev_ct 6 (ev_ct 5 (pr_q 5 (6, (6, (1, (0, (0, [])))))) (pr_q 6 (1, (7, (0, (0, (0, []))))))) (pr_q 7 (7, (8, (0, (0, (0, [])))))))) (ev_ct 12 (ev_ct 11 (ev_ct 8 (pr_q 8 (24, (11, (7, (0, (0, [])))))) (pr_q 11 (1, (12, (5, (0, (0, []))))))) (pr_q 12 (27, (13, (20, (20, (0, []))))))) (ev_ct 13 (pr_q 13 (1, (14, (1, (0, (0, [])))))) (pr_q 14 (14, (15, (0, (0, (0, []))))))))) (ev_ct 27 (ev_ct 21 (ev_ct 18 (ev_ct 15 (pr_q 15 (35, (18, (75, (3, (0, [0, 0])))))) (pr_q 18 (16, (21, (0, (33, (21, []))))))) (pr_q 21 (7, (22, (0, (0, (0, []))))))) (ev_ct 25 (ev_ct 22 (pr_q 22 (24, (25, (7, (0, (0, [])))))) (pr_q 25 (1, (27, (6, (0, (0, []))))))) (pr_q 27 (6, (28, (1, (0, (0, [])))))))) (ev_ct 30 (ev_ct 29 (ev_ct 28 (pr_q 28 (13, (29, (0, (0, (0, [])))))) (pr_q 29 (27, (30, (20, (20, (0, []))))))) (pr_q 30 (20, (34, (0, (0, (0, []))))))) (ev_ct 33 (pr_q 33 (1, (34, (4294967295, (0, (0, [])))))) (pr_q 34 (39, (35, (0, (0, (0, []))))))))))
def pr_y141 : MethodName := ⟨"OrphanTreeModel", "rule", "(I)I"⟩
def pr_i141 : ev_Im := (pr_y141, (prog_9_method_69_code, ((some .int), [])))
noncomputable def pr_m141 : ev_M := (2, (0, (0, ([], pr_c141))))
/-- OrphanTreeModel.isGone(I)Z -/
noncomputable def pr_c142 : Nat → ev_E := (ev_ct 8 (ev_ct 4 (ev_ct 1 (ev_ct 0 (pr_q 0 (7, (1, (0, (0, (0, [])))))) (pr_q 1 (24, (4, (7, (0, (0, []))))))) (pr_q 4 (1, (7, (140, (0, (0, []))))))) (ev_ct 7 (pr_q 7 (6, (8, (1, (0, (0, [])))))) (pr_q 8 (13, (9, (0, (0, (0, [])))))))) (ev_ct 11 (ev_ct 10 (ev_ct 9 (pr_q 9 (27, (10, (20, (20, (0, [])))))) (pr_q 10 (1, (11, (2, (0, (0, []))))))) (pr_q 11 (17, (14, (0, (14, (18, []))))))) (ev_ct 18 (pr_q 18 (1, (19, (0, (0, (0, [])))))) (pr_q 19 (39, (20, (1, (0, (0, [])))))))))
def pr_y142 : MethodName := ⟨"OrphanTreeModel", "isGone", "(I)Z"⟩
def pr_i142 : ev_Im := (pr_y142, (prog_9_method_70_code, ((some .boolean), [])))
noncomputable def pr_m142 : ev_M := (2, (0, (0, ([], pr_c142))))
/-- OrphanTreeModel.depth(I)I -/
noncomputable def pr_c143 : Nat → ev_E := (ev_ct 14 (ev_ct 8 (ev_ct 2 (ev_ct 1 (ev_ct 0 (pr_q 0 (7, (1, (0, (0, (0, [])))))) (pr_q 1 (6, (2, (1, (0, (0, []))))))) (pr_q 2 (35, (5, (135, (2, (8, [0, 0]))))))) (ev_ct 5 (pr_q 5 (16, (8, (0, (8, (21, [])))))) (pr_q 8 (7, (9, (0, (0, (0, [])))))))) (ev_ct 10 (ev_ct 9 (pr_q 9 (7, (10, (0, (0, (0, [])))))) (pr_q 10 (6, (11, (1, (0, (0, []))))))) (ev_ct 11 (pr_q 11 (35, (14, (142, (2, (8, [0, 0])))))) (pr_q 14 (1, (15, (2, (0, (0, []))))))))) (ev_ct 22 (ev_ct 18 (ev_ct 15 (pr_q 15 (35, (18, (76, (3, (8, [0, 0])))))) (pr_q 18 (16, (21, (0, (25, (21, []))))))) (ev_ct 21 (pr_q 21 (1, (22, (0, (0, (0, [])))))) (pr_q 22 (20, (30, (0, (0, (0, [])))))))) (ev_ct 26 (ev_ct 25 (pr_q 25 (7, (26, (0, (0, (0, [])))))) (pr_q 26 (6, (27, (1, (0, (0, []))))))) (ev_ct 27 (pr_q 27 (35, (30, (89, (2, (8, [0, 0])))))) (pr_q 30 (39, (31, (0, (0, (0, []))))))))))
def pr_y143 : MethodName := ⟨"OrphanTreeModel", "depth", "(I)I"⟩
def pr_i143 : ev_Im := (pr_y143, (prog_9_method_71_code, ((some .int), [])))
noncomputable def pr_m143 : ev_M := (2, (0, (0, ([], pr_c143))))
/-- OrphanTreeModel.isAbove(II)Z -/
noncomputable def pr_c144 : Nat → ev_E := (ev_ct 19 (ev_ct 9 (ev_ct 2 (ev_ct 1 (ev_ct 0 (pr_q 0 (7, (1, (0, (0, (0, [])))))) (pr_q 1 (6, (2, (1, (0, (0, []))))))) (pr_q 2 (35, (5, (135, (2, (8, [0, 0]))))))) (ev_ct 8 (ev_ct 5 (pr_q 5 (16, (8, (0, (8, (16, [])))))) (pr_q 8 (7, (9, (0, (0, (0, []))))))) (pr_q 9 (6, (10, (2, (0, (0, [])))))))) (ev_ct 16 (ev_ct 13 (ev_ct 10 (pr_q 10 (35, (13, (135, (2, (8, [0, 0])))))) (pr_q 13 (16, (16, (0, (18, (16, []))))))) (pr_q 16 (1, (17, (0, (0, (0, []))))))) (ev_ct 18 (ev_ct 17 (pr_q 17 (39, (18, (1, (0, (0, [])))))) (pr_q 18 (7, (19, (0, (0, (0, []))))))) (pr_q 19 (6, (20, (1, (0, (0, []))))))))) (ev_ct 31 (ev_ct 26 (ev_ct 23 (ev_ct 20 (pr_q 20 (35, (23, (142, (2, (8, [0, 0])))))) (pr_q 23 (16, (26, (0, (26, (52, []))))))) (pr_q 26 (7, (27, (0, (0, (0, []))))))) (ev_ct 28 (ev_ct 27 (pr_q 27 (6, (28, (2, (0, (0, [])))))) (pr_q 28 (35, (31, (142, (2, (8, [0, 0]))))))) (pr_q 31 (16, (34, (0, (34, (52, [])))))))) (ev_ct 36 (ev_ct 35 (ev_ct 34 (pr_q 34 (6, (35, (1, (0, (0, [])))))) (pr_q 35 (6, (36, (2, (0, (0, []))))))) (pr_q 36 (17, (39, (0, (52, (39, []))))))) (ev_ct 52 (pr_q 52 (1, (53, (0, (0, (0, [])))))) (pr_q 53 (39, (54, (1, (0, (0, []))))))))))
def pr_y144 : MethodName := ⟨"OrphanTreeModel", "isAbove", "(II)Z"⟩
def pr_i144 : ev_Im := (pr_y144, (prog_9_method_72_code, ((some .boolean), [])))
noncomputable def pr_m144 : ev_M := (3, (0, (0, ([], pr_c144))))
/-- OrphanTreeModel.meets(II)I -/
noncomputable def pr_c145 : Nat → ev_E := (ev_ct 3 (ev_ct 1 (ev_ct 0 (pr_q 0 (6, (1, (1, (0, (0, [])))))) (pr_q 1 (9, (2, (3, (0, (0, []))))))) (ev_ct 2 (pr_q 2 (6, (3, (3, (0, (0, [])))))) (pr_q 3 (6, (4, (2, (0, (0, [])))))))) (ev_ct 29 (ev_ct 4 (pr_q 4 (17, (7, (0, (29, (7, [])))))) (pr_q 29 (6, (30, (3, (0, (0, []))))))) (pr_q 30 (39, (31, (0, (0, (0, []))))))))
def pr_y145 : MethodName := ⟨"OrphanTreeModel", "meets", "(II)I"⟩
def pr_i145 : ev_Im := (pr_y145, (prog_9_method_73_code, ((some .int), [])))
noncomputable def pr_m145 : ev_M := (4, (0, (0, ([], pr_c145))))
/-- OrphanTreeModel.anyGone(II)Z -/
noncomputable def pr_c146 : Nat → ev_E := (ev_ct 22 (ev_ct 10 (ev_ct 5 (ev_ct 1 (ev_ct 0 (pr_q 0 (7, (1, (0, (0, (0, [])))))) (pr_q 1 (6, (2, (1, (0, (0, []))))))) (ev_ct 2 (pr_q 2 (35, (5, (135, (2, (8, [0, 0])))))) (pr_q 5 (16, (8, (0, (8, (45, [])))))))) (ev_ct 9 (ev_ct 8 (pr_q 8 (7, (9, (0, (0, (0, [])))))) (pr_q 9 (6, (10, (2, (0, (0, []))))))) (pr_q 10 (35, (13, (135, (2, (8, [0, 0])))))))) (ev_ct 17 (ev_ct 16 (ev_ct 13 (pr_q 13 (16, (16, (0, (16, (45, [])))))) (pr_q 16 (7, (17, (0, (0, (0, []))))))) (pr_q 17 (7, (18, (0, (0, (0, []))))))) (ev_ct 19 (ev_ct 18 (pr_q 18 (6, (19, (1, (0, (0, [])))))) (pr_q 19 (35, (22, (142, (2, (8, [0, 0]))))))) (pr_q 22 (16, (25, (0, (25, (33, []))))))))) (ev_ct 38 (ev_ct 27 (ev_ct 26 (ev_ct 25 (pr_q 25 (7, (26, (0, (0, (0, [])))))) (pr_q 26 (6, (27, (2, (0, (0, []))))))) (pr_q 27 (35, (30, (142, (2, (8, [0, 0]))))))) (ev_ct 37 (ev_ct 30 (pr_q 30 (16, (33, (0, (37, (33, [])))))) (pr_q 37 (1, (38, (0, (0, (0, []))))))) (pr_q 38 (1, (39, (2, (0, (0, [])))))))) (ev_ct 45 (ev_ct 42 (ev_ct 39 (pr_q 39 (35, (42, (76, (3, (8, [0, 0])))))) (pr_q 42 (16, (45, (0, (49, (45, []))))))) (pr_q 45 (1, (46, (1, (0, (0, []))))))) (ev_ct 49 (ev_ct 46 (pr_q 46 (20, (50, (0, (0, (0, [])))))) (pr_q 49 (1, (50, (0, (0, (0, []))))))) (pr_q 50 (39, (51, (1, (0, (0, []))))))))))
def pr_y146 : MethodName := ⟨"OrphanTreeModel", "anyGone", "(II)Z"⟩
def pr_i146 : ev_Im := (pr_y146, (prog_9_method_74_code, ((some .boolean), [])))
noncomputable def pr_m146 : ev_M := (3, (0, (0, ([], pr_c146))))
/-- OrphanTreeModel.meet(II)I -/
noncomputable def pr_c147 : Nat → ev_E := (ev_ct 9 (ev_ct 2 (ev_ct 1 (ev_ct 0 (pr_q 0 (7, (1, (0, (0, (0, [])))))) (pr_q 1 (6, (2, (1, (0, (0, []))))))) (pr_q 2 (6, (3, (2, (0, (0, []))))))) (ev_ct 6 (ev_ct 3 (pr_q 3 (35, (6, (146, (3, (8, [0, 0])))))) (pr_q 6 (16, (9, (0, (13, (9, []))))))) (pr_q 9 (1, (10, (0, (0, (0, [])))))))) (ev_ct 14 (ev_ct 13 (ev_ct 10 (pr_q 10 (20, (19, (0, (0, (0, [])))))) (pr_q 13 (7, (14, (0, (0, (0, []))))))) (pr_q 14 (6, (15, (1, (0, (0, []))))))) (ev_ct 16 (ev_ct 15 (pr_q 15 (6, (16, (2, (0, (0, [])))))) (pr_q 16 (35, (19, (145, (3, (8, [0, 0]))))))) (pr_q 19 (39, (20, (0, (0, (0, [])))))))))
def pr_y147 : MethodName := ⟨"OrphanTreeModel", "meet", "(II)I"⟩
def pr_i147 : ev_Im := (pr_y147, (prog_9_method_75_code, ((some .int), [])))
noncomputable def pr_m147 : ev_M := (3, (0, (0, ([], pr_c147))))
/-- OrphanTreeModel.apart(II)I -/
noncomputable def pr_c148 : Nat → ev_E := (ev_ct 19 (ev_ct 9 (ev_ct 2 (ev_ct 1 (ev_ct 0 (pr_q 0 (7, (1, (0, (0, (0, [])))))) (pr_q 1 (6, (2, (1, (0, (0, []))))))) (pr_q 2 (6, (3, (2, (0, (0, []))))))) (ev_ct 6 (ev_ct 3 (pr_q 3 (35, (6, (146, (3, (8, [0, 0])))))) (pr_q 6 (16, (9, (0, (13, (9, []))))))) (pr_q 9 (1, (10, (0, (0, (0, [])))))))) (ev_ct 14 (ev_ct 13 (ev_ct 10 (pr_q 10 (20, (37, (0, (0, (0, [])))))) (pr_q 13 (7, (14, (0, (0, (0, []))))))) (pr_q 14 (6, (15, (1, (0, (0, []))))))) (ev_ct 18 (ev_ct 15 (pr_q 15 (35, (18, (89, (2, (8, [0, 0])))))) (pr_q 18 (7, (19, (0, (0, (0, []))))))) (pr_q 19 (6, (20, (2, (0, (0, []))))))))) (ev_ct 27 (ev_ct 24 (ev_ct 23 (ev_ct 20 (pr_q 20 (35, (23, (89, (2, (8, [0, 0])))))) (pr_q 23 (13, (24, (0, (0, (0, []))))))) (pr_q 24 (1, (25, (2, (0, (0, []))))))) (ev_ct 26 (ev_ct 25 (pr_q 25 (7, (26, (0, (0, (0, [])))))) (pr_q 26 (7, (27, (0, (0, (0, []))))))) (pr_q 27 (6, (28, (1, (0, (0, [])))))))) (ev_ct 32 (ev_ct 29 (ev_ct 28 (pr_q 28 (6, (29, (2, (0, (0, [])))))) (pr_q 29 (35, (32, (145, (3, (8, [0, 0]))))))) (pr_q 32 (35, (35, (89, (2, (8, [0, 0]))))))) (ev_ct 36 (ev_ct 35 (pr_q 35 (15, (36, (0, (0, (0, [])))))) (pr_q 36 (14, (37, (0, (0, (0, []))))))) (pr_q 37 (39, (38, (0, (0, (0, []))))))))))
def pr_y148 : MethodName := ⟨"OrphanTreeModel", "apart", "(II)I"⟩
def pr_i148 : ev_Im := (pr_y148, (prog_9_method_76_code, ((some .int), [])))
noncomputable def pr_m148 : ev_M := (3, (0, (0, ([], pr_c148))))
/-- OrphanTreeModel.belowOf(I)I -/
noncomputable def pr_c149 : Nat → ev_E := (ev_ct 5 (ev_ct 2 (ev_ct 1 (ev_ct 0 (pr_q 0 (1, (1, (0, (0, (0, [])))))) (pr_q 1 (9, (2, (2, (0, (0, []))))))) (pr_q 2 (1, (3, (1, (0, (0, []))))))) (ev_ct 4 (ev_ct 3 (pr_q 3 (9, (4, (3, (0, (0, [])))))) (pr_q 4 (6, (5, (3, (0, (0, []))))))) (pr_q 5 (7, (6, (0, (0, (0, [])))))))) (ev_ct 10 (ev_ct 9 (ev_ct 6 (pr_q 6 (24, (9, (7, (0, (0, [])))))) (pr_q 9 (1, (10, (0, (0, (0, []))))))) (pr_q 10 (27, (11, (20, (20, (0, []))))))) (ev_ct 45 (ev_ct 11 (pr_q 11 (17, (14, (1, (14, (45, [])))))) (pr_q 45 (6, (46, (2, (0, (0, []))))))) (pr_q 46 (39, (47, (0, (0, (0, [])))))))))
def pr_y149 : MethodName := ⟨"OrphanTreeModel", "belowOf", "(I)I"⟩
def pr_i149 : ev_Im := (pr_y149, (prog_9_method_77_code, ((some .int), [])))
noncomputable def pr_m149 : ev_M := (4, (0, (0, ([], pr_c149))))
/-- OrphanTreeModel.below(I)I -/
noncomputable def pr_c150 : Nat → ev_E := (ev_ct 10 (ev_ct 5 (ev_ct 1 (ev_ct 0 (pr_q 0 (7, (1, (0, (0, (0, [])))))) (pr_q 1 (6, (2, (1, (0, (0, []))))))) (ev_ct 2 (pr_q 2 (35, (5, (135, (2, (8, [0, 0])))))) (pr_q 5 (16, (8, (0, (8, (16, [])))))))) (ev_ct 9 (ev_ct 8 (pr_q 8 (7, (9, (0, (0, (0, [])))))) (pr_q 9 (6, (10, (1, (0, (0, []))))))) (pr_q 10 (35, (13, (83, (2, (8, [0, 0])))))))) (ev_ct 20 (ev_ct 16 (ev_ct 13 (pr_q 13 (16, (16, (0, (16, (20, [])))))) (pr_q 16 (1, (17, (0, (0, (0, []))))))) (ev_ct 17 (pr_q 17 (20, (25, (0, (0, (0, [])))))) (pr_q 20 (7, (21, (0, (0, (0, [])))))))) (ev_ct 22 (ev_ct 21 (pr_q 21 (6, (22, (1, (0, (0, [])))))) (pr_q 22 (35, (25, (149, (2, (8, [0, 0]))))))) (pr_q 25 (39, (26, (0, (0, (0, [])))))))))
def pr_y150 : MethodName := ⟨"OrphanTreeModel", "below", "(I)I"⟩
def pr_i150 : ev_Im := (pr_y150, (prog_9_method_78_code, ((some .int), [])))
noncomputable def pr_m150 : ev_M := (2, (0, (0, ([], pr_c150))))
/-- OrphanTreeModel.nextChild(II)I -/
noncomputable def pr_c152 : Nat → ev_E := (ev_ct 15 (ev_ct 7 (ev_ct 2 (ev_ct 1 (ev_ct 0 (pr_q 0 (6, (1, (2, (0, (0, [])))))) (pr_q 1 (9, (2, (3, (0, (0, []))))))) (pr_q 2 (6, (3, (3, (0, (0, []))))))) (ev_ct 4 (ev_ct 3 (pr_q 3 (7, (4, (0, (0, (0, [])))))) (pr_q 4 (24, (7, (7, (0, (0, []))))))) (pr_q 7 (1, (8, (0, (0, (0, [])))))))) (ev_ct 12 (ev_ct 9 (ev_ct 8 (pr_q 8 (27, (9, (20, (20, (0, [])))))) (pr_q 9 (17, (12, (1, (12, (28, []))))))) (pr_q 12 (7, (13, (0, (0, (0, []))))))) (ev_ct 14 (ev_ct 13 (pr_q 13 (6, (14, (3, (0, (0, [])))))) (pr_q 14 (6, (15, (1, (0, (0, []))))))) (pr_q 15 (1, (16, (0, (0, (0, []))))))))) (ev_ct 29 (ev_ct 22 (ev_ct 19 (ev_ct 16 (pr_q 16 (35, (19, (84, (4, (8, [0, 0])))))) (pr_q 19 (16, (22, (0, (22, (28, []))))))) (pr_q 22 (12, (25, (3, (1, (0, []))))))) (ev_ct 28 (ev_ct 25 (pr_q 25 (20, (2, (0, (0, (0, [])))))) (pr_q 28 (6, (29, (3, (0, (0, []))))))) (pr_q 29 (7, (30, (0, (0, (0, [])))))))) (ev_ct 34 (ev_ct 33 (ev_ct 30 (pr_q 30 (24, (33, (7, (0, (0, [])))))) (pr_q 33 (1, (34, (0, (0, (0, []))))))) (pr_q 34 (27, (35, (20, (20, (0, []))))))) (ev_ct 42 (ev_ct 35 (pr_q 35 (17, (38, (1, (38, (42, [])))))) (pr_q 42 (1, (43, (4294967295, (0, (0, []))))))) (pr_q 43 (39, (44, (0, (0, (0, []))))))))))
def pr_y152 : MethodName := ⟨"OrphanTreeModel", "nextChild", "(II)I"⟩
def pr_i152 : ev_Im := (pr_y152, (prog_9_method_80_code, ((some .int), [])))
noncomputable def pr_m152 : ev_M := (4, (0, (0, ([], pr_c152))))
/-- OrphanTreeModel.walked(I)I -/
noncomputable def pr_c153 : Nat → ev_E := (ev_ct 24 (ev_ct 9 (ev_ct 5 (ev_ct 1 (ev_ct 0 (pr_q 0 (7, (1, (0, (0, (0, [])))))) (pr_q 1 (1, (2, (0, (0, (0, []))))))) (ev_ct 2 (pr_q 2 (25, (5, (7, (8, (0, [])))))) (pr_q 5 (7, (6, (0, (0, (0, [])))))))) (ev_ct 7 (ev_ct 6 (pr_q 6 (6, (7, (1, (0, (0, [])))))) (pr_q 7 (1, (8, (0, (0, (0, []))))))) (ev_ct 8 (pr_q 8 (7, (9, (0, (0, (0, [])))))) (pr_q 9 (35, (12, (90, (1, (8, [0, 0]))))))))) (ev_ct 17 (ev_ct 13 (ev_ct 12 (pr_q 12 (1, (13, (1, (0, (0, [])))))) (pr_q 13 (14, (14, (0, (0, (0, []))))))) (ev_ct 14 (pr_q 14 (35, (17, (75, (3, (0, [0, 0])))))) (pr_q 17 (16, (20, (0, (20, (24, [])))))))) (ev_ct 21 (ev_ct 20 (pr_q 20 (1, (21, (1, (0, (0, [])))))) (pr_q 21 (20, (25, (0, (0, (0, []))))))) (pr_q 24 (1, (25, (0, (0, (0, []))))))))) (ev_ct 35 (ev_ct 32 (ev_ct 26 (ev_ct 25 (pr_q 25 (1, (26, (1, (0, (0, [])))))) (pr_q 26 (35, (29, (76, (3, (8, [0, 0]))))))) (ev_ct 29 (pr_q 29 (16, (32, (0, (34, (32, [])))))) (pr_q 32 (1, (33, (0, (0, (0, [])))))))) (ev_ct 34 (ev_ct 33 (pr_q 33 (39, (34, (0, (0, (0, [])))))) (pr_q 34 (1, (35, (0, (0, (0, []))))))) (pr_q 35 (9, (36, (2, (0, (0, [])))))))) (ev_ct 39 (ev_ct 37 (ev_ct 36 (pr_q 36 (1, (37, (0, (0, (0, [])))))) (pr_q 37 (9, (38, (3, (0, (0, []))))))) (ev_ct 38 (pr_q 38 (6, (39, (3, (0, (0, [])))))) (pr_q 39 (6, (40, (1, (0, (0, [])))))))) (ev_ct 55 (ev_ct 40 (pr_q 40 (17, (43, (1, (43, (55, [])))))) (pr_q 55 (6, (56, (2, (0, (0, []))))))) (pr_q 56 (39, (57, (0, (0, (0, []))))))))))
def pr_y153 : MethodName := ⟨"OrphanTreeModel", "walked", "(I)I"⟩
def pr_i153 : ev_Im := (pr_y153, (prog_9_method_81_code, ((some .int), [])))
noncomputable def pr_m153 : ev_M := (4, (0, (0, ([], pr_c153))))
/-- OrphanTreeModel.atDepth(I)I -/
noncomputable def pr_c154 : Nat → ev_E := (ev_ct 21 (ev_ct 9 (ev_ct 5 (ev_ct 1 (ev_ct 0 (pr_q 0 (7, (1, (0, (0, (0, [])))))) (pr_q 1 (1, (2, (0, (0, (0, []))))))) (ev_ct 2 (pr_q 2 (25, (5, (7, (8, (0, [])))))) (pr_q 5 (1, (6, (0, (0, (0, [])))))))) (ev_ct 7 (ev_ct 6 (pr_q 6 (9, (7, (2, (0, (0, [])))))) (pr_q 7 (1, (8, (0, (0, (0, []))))))) (ev_ct 8 (pr_q 8 (9, (9, (3, (0, (0, [])))))) (pr_q 9 (6, (10, (3, (0, (0, []))))))))) (ev_ct 15 (ev_ct 11 (ev_ct 10 (pr_q 10 (7, (11, (0, (0, (0, [])))))) (pr_q 11 (24, (14, (7, (0, (0, []))))))) (ev_ct 14 (pr_q 14 (1, (15, (0, (0, (0, [])))))) (pr_q 15 (27, (16, (20, (20, (0, [])))))))) (ev_ct 19 (ev_ct 16 (pr_q 16 (17, (19, (1, (19, (50, [])))))) (pr_q 19 (6, (20, (2, (0, (0, []))))))) (ev_ct 20 (pr_q 20 (7, (21, (0, (0, (0, [])))))) (pr_q 21 (6, (22, (3, (0, (0, [])))))))))) (ev_ct 37 (ev_ct 29 (ev_ct 25 (ev_ct 22 (pr_q 22 (35, (25, (83, (2, (8, [0, 0])))))) (pr_q 25 (16, (28, (0, (41, (28, []))))))) (ev_ct 28 (pr_q 28 (7, (29, (0, (0, (0, [])))))) (pr_q 29 (6, (30, (3, (0, (0, [])))))))) (ev_ct 33 (ev_ct 30 (pr_q 30 (35, (33, (89, (2, (8, [0, 0])))))) (pr_q 33 (6, (34, (1, (0, (0, []))))))) (ev_ct 34 (pr_q 34 (17, (37, (0, (37, (41, [])))))) (pr_q 37 (1, (38, (1, (0, (0, []))))))))) (ev_ct 43 (ev_ct 41 (ev_ct 38 (pr_q 38 (20, (42, (0, (0, (0, [])))))) (pr_q 41 (1, (42, (0, (0, (0, []))))))) (ev_ct 42 (pr_q 42 (13, (43, (0, (0, (0, [])))))) (pr_q 43 (9, (44, (2, (0, (0, [])))))))) (ev_ct 47 (ev_ct 44 (pr_q 44 (12, (47, (3, (1, (0, [])))))) (pr_q 47 (20, (9, (0, (0, (0, []))))))) (ev_ct 50 (pr_q 50 (6, (51, (2, (0, (0, [])))))) (pr_q 51 (39, (52, (0, (0, (0, [])))))))))))
def pr_y154 : MethodName := ⟨"OrphanTreeModel", "atDepth", "(I)I"⟩
def pr_i154 : ev_Im := (pr_y154, (prog_9_method_82_code, ((some .int), [])))
noncomputable def pr_m154 : ev_M := (4, (0, (0, ([], pr_c154))))
/-- OrphanTreeModel.highest()I -/
noncomputable def pr_c155 : Nat → ev_E := (ev_ct 15 (ev_ct 5 (ev_ct 2 (ev_ct 1 (ev_ct 0 (pr_q 0 (1, (1, (0, (0, (0, [])))))) (pr_q 1 (9, (2, (1, (0, (0, []))))))) (pr_q 2 (1, (3, (0, (0, (0, []))))))) (ev_ct 4 (ev_ct 3 (pr_q 3 (9, (4, (2, (0, (0, [])))))) (pr_q 4 (6, (5, (2, (0, (0, []))))))) (pr_q 5 (7, (6, (0, (0, (0, [])))))))) (ev_ct 10 (ev_ct 9 (ev_ct 6 (pr_q 6 (24, (9, (7, (0, (0, [])))))) (pr_q 9 (1, (10, (0, (0, (0, []))))))) (pr_q 10 (27, (11, (20, (20, (0, []))))))) (ev_ct 14 (ev_ct 11 (pr_q 11 (17, (14, (1, (14, (38, [])))))) (pr_q 14 (7, (15, (0, (0, (0, []))))))) (pr_q 15 (6, (16, (2, (0, (0, []))))))))) (ev_ct 25 (ev_ct 22 (ev_ct 19 (ev_ct 16 (pr_q 16 (35, (19, (83, (2, (8, [0, 0])))))) (pr_q 19 (16, (22, (0, (32, (22, []))))))) (pr_q 22 (6, (23, (1, (0, (0, []))))))) (ev_ct 24 (ev_ct 23 (pr_q 23 (7, (24, (0, (0, (0, [])))))) (pr_q 24 (6, (25, (2, (0, (0, []))))))) (pr_q 25 (35, (28, (89, (2, (8, [0, 0])))))))) (ev_ct 32 (ev_ct 31 (ev_ct 28 (pr_q 28 (44, (31, (9, (0, (0, [])))))) (pr_q 31 (9, (32, (1, (0, (0, []))))))) (pr_q 32 (12, (35, (2, (1, (0, []))))))) (ev_ct 38 (ev_ct 35 (pr_q 35 (20, (4, (0, (0, (0, [])))))) (pr_q 38 (6, (39, (1, (0, (0, []))))))) (pr_q 39 (39, (40, (0, (0, (0, []))))))))))
def pr_y155 : MethodName := ⟨"OrphanTreeModel", "highest", "()I"⟩
def pr_i155 : ev_Im := (pr_y155, (prog_9_method_83_code, ((some .int), [])))
noncomputable def pr_m155 : ev_M := (3, (0, (0, ([], pr_c155))))
/-- OrphanTreeModel.height()I -/
noncomputable def pr_c156 : Nat → ev_E := (ev_ct 2 (ev_ct 1 (ev_ct 0 (pr_q 0 (7, (1, (0, (0, (0, [])))))) (pr_q 1 (1, (2, (0, (0, (0, []))))))) (pr_q 2 (25, (5, (7, (8, (0, []))))))) (ev_ct 6 (ev_ct 5 (pr_q 5 (7, (6, (0, (0, (0, [])))))) (pr_q 6 (35, (9, (155, (1, (8, [0, 0]))))))) (pr_q 9 (39, (10, (0, (0, (0, []))))))))
def pr_y156 : MethodName := ⟨"OrphanTreeModel", "height", "()I"⟩
def pr_i156 : ev_Im := (pr_y156, (prog_9_method_84_code, ((some .int), [])))
noncomputable def pr_m156 : ev_M := (1, (0, (0, ([], pr_c156))))
/-- OrphanTreeModel.isSmall(I)Z -/
noncomputable def pr_c157 : Nat → ev_E := (ev_ct 2 (ev_ct 1 (ev_ct 0 (pr_q 0 (6, (1, (0, (0, (0, [])))))) (pr_q 1 (1, (2, (0, (0, (0, []))))))) (pr_q 2 (1, (4, (9, (0, (0, []))))))) (ev_ct 4 (pr_q 4 (35, (7, (75, (3, (0, [0, 0])))))) (pr_q 7 (39, (8, (1, (0, (0, []))))))))
def pr_y157 : MethodName := ⟨"OrphanTreeModel", "isSmall", "(I)Z"⟩
def pr_i157 : ev_Im := (pr_y157, (prog_9_method_85_code, ((some .boolean), [])))
noncomputable def pr_m157 : ev_M := (1, (0, (0, ([], pr_c157))))
/-- OrphanTreeModel.spawn(IIII)I -/
noncomputable def pr_c158 : Nat → ev_E := (ev_ct 45 (ev_ct 23 (ev_ct 9 (ev_ct 2 (ev_ct 1 (ev_ct 0 (pr_q 0 (7, (1, (0, (0, (0, [])))))) (pr_q 1 (6, (2, (1, (0, (0, []))))))) (pr_q 2 (35, (5, (135, (2, (8, [0, 0]))))))) (ev_ct 8 (ev_ct 5 (pr_q 5 (16, (8, (0, (8, (43, [])))))) (pr_q 8 (7, (9, (0, (0, (0, []))))))) (pr_q 9 (6, (10, (2, (0, (0, [])))))))) (ev_ct 16 (ev_ct 13 (ev_ct 10 (pr_q 10 (35, (13, (157, (1, (0, [0, 0])))))) (pr_q 13 (16, (16, (0, (31, (16, []))))))) (pr_q 16 (6, (17, (3, (0, (0, []))))))) (ev_ct 20 (ev_ct 17 (pr_q 17 (35, (20, (157, (1, (0, [0, 0])))))) (pr_q 20 (16, (23, (0, (31, (23, []))))))) (pr_q 23 (6, (25, (4, (0, (0, []))))))))) (ev_ct 36 (ev_ct 31 (ev_ct 28 (ev_ct 25 (pr_q 25 (35, (28, (157, (1, (0, [0, 0])))))) (pr_q 28 (16, (31, (0, (31, (35, []))))))) (pr_q 31 (1, (32, (1, (0, (0, []))))))) (ev_ct 35 (ev_ct 32 (pr_q 32 (20, (36, (0, (0, (0, [])))))) (pr_q 35 (1, (36, (0, (0, (0, []))))))) (pr_q 36 (1, (37, (2, (0, (0, [])))))))) (ev_ct 43 (ev_ct 40 (ev_ct 37 (pr_q 37 (35, (40, (76, (3, (8, [0, 0])))))) (pr_q 40 (16, (43, (0, (45, (43, []))))))) (pr_q 43 (1, (44, (0, (0, (0, []))))))) (ev_ct 44 (pr_q 44 (39, (45, (0, (0, (0, [])))))) (pr_q 45 (7, (46, (0, (0, (0, [])))))))))) (ev_ct 70 (ev_ct 55 (ev_ct 48 (ev_ct 47 (ev_ct 46 (pr_q 46 (7, (47, (0, (0, (0, [])))))) (pr_q 47 (6, (48, (1, (0, (0, []))))))) (pr_q 48 (35, (51, (86, (2, (8, [0, 0]))))))) (ev_ct 54 (ev_ct 51 (pr_q 51 (16, (54, (0, (65, (54, [])))))) (pr_q 54 (7, (55, (0, (0, (0, []))))))) (pr_q 55 (24, (58, (7, (0, (0, [])))))))) (ev_ct 60 (ev_ct 59 (ev_ct 58 (pr_q 58 (1, (59, (0, (0, (0, [])))))) (pr_q 59 (27, (60, (20, (20, (0, []))))))) (pr_q 60 (1, (62, (40, (0, (0, []))))))) (ev_ct 69 (ev_ct 62 (pr_q 62 (17, (65, (0, (65, (69, [])))))) (pr_q 69 (1, (70, (0, (0, (0, []))))))) (pr_q 70 (1, (71, (3, (0, (0, []))))))))) (ev_ct 84 (ev_ct 79 (ev_ct 74 (ev_ct 71 (pr_q 71 (35, (74, (76, (3, (8, [0, 0])))))) (pr_q 74 (16, (77, (0, (79, (77, []))))))) (pr_q 79 (7, (80, (0, (0, (0, []))))))) (ev_ct 83 (ev_ct 80 (pr_q 80 (35, (83, (80, (1, (8, [0, 0])))))) (pr_q 83 (7, (84, (0, (0, (0, []))))))) (pr_q 84 (6, (85, (1, (0, (0, [])))))))) (ev_ct 87 (ev_ct 86 (ev_ct 85 (pr_q 85 (6, (86, (2, (0, (0, [])))))) (pr_q 86 (6, (87, (3, (0, (0, []))))))) (pr_q 87 (6, (89, (4, (0, (0, []))))))) (ev_ct 89 (pr_q 89 (35, (92, (79, (5, (8, [0, 0])))))) (pr_q 92 (39, (93, (0, (0, (0, [])))))))))))
def pr_y158 : MethodName := ⟨"OrphanTreeModel", "spawn", "(IIII)I"⟩
def pr_i158 : ev_Im := (pr_y158, (prog_9_method_86_code, ((some .int), [])))
noncomputable def pr_m158 : ev_M := (5, (0, (0, ([], pr_c158))))
/-- OrphanTreeModel.noExit(II)Z -/
noncomputable def pr_c159 : Nat → ev_E := (ev_ct 25 (ev_ct 10 (ev_ct 5 (ev_ct 1 (ev_ct 0 (pr_q 0 (7, (1, (0, (0, (0, [])))))) (pr_q 1 (6, (2, (1, (0, (0, []))))))) (ev_ct 2 (pr_q 2 (35, (5, (135, (2, (8, [0, 0])))))) (pr_q 5 (16, (8, (0, (8, (57, [])))))))) (ev_ct 9 (ev_ct 8 (pr_q 8 (7, (9, (0, (0, (0, [])))))) (pr_q 9 (6, (10, (2, (0, (0, []))))))) (pr_q 10 (1, (11, (0, (0, (0, [])))))))) (ev_ct 20 (ev_ct 14 (ev_ct 11 (pr_q 11 (1, (14, (255, (0, (0, [])))))) (pr_q 14 (35, (17, (75, (3, (0, [0, 0]))))))) (ev_ct 17 (pr_q 17 (16, (20, (0, (20, (24, [])))))) (pr_q 20 (1, (21, (1, (0, (0, [])))))))) (ev_ct 24 (ev_ct 21 (pr_q 21 (20, (25, (0, (0, (0, [])))))) (pr_q 24 (1, (25, (0, (0, (0, []))))))) (pr_q 25 (1, (26, (2, (0, (0, []))))))))) (ev_ct 46 (ev_ct 33 (ev_ct 29 (ev_ct 26 (pr_q 26 (35, (29, (76, (3, (8, [0, 0])))))) (pr_q 29 (16, (32, (0, (32, (57, []))))))) (ev_ct 32 (pr_q 32 (7, (33, (0, (0, (0, [])))))) (pr_q 33 (6, (34, (1, (0, (0, [])))))))) (ev_ct 45 (ev_ct 34 (pr_q 34 (16, (37, (0, (45, (37, [])))))) (pr_q 45 (1, (46, (1, (0, (0, []))))))) (pr_q 46 (20, (50, (0, (0, (0, [])))))))) (ev_ct 54 (ev_ct 51 (ev_ct 50 (pr_q 50 (1, (51, (3, (0, (0, [])))))) (pr_q 51 (35, (54, (76, (3, (8, [0, 0]))))))) (pr_q 54 (16, (57, (0, (61, (57, []))))))) (ev_ct 58 (ev_ct 57 (pr_q 57 (1, (58, (1, (0, (0, [])))))) (pr_q 58 (20, (62, (0, (0, (0, []))))))) (pr_q 62 (39, (63, (1, (0, (0, []))))))))))
def pr_y159 : MethodName := ⟨"OrphanTreeModel", "noExit", "(II)Z"⟩
def pr_i159 : ev_Im := (pr_y159, (prog_9_method_87_code, ((some .boolean), [])))
noncomputable def pr_m159 : ev_M := (3, (0, (0, ([], pr_c159))))
/-- OrphanTreeModel.exit(II)I -/
noncomputable def pr_c160 : Nat → ev_E := (ev_ct 3 (ev_ct 1 (ev_ct 0 (pr_q 0 (7, (1, (0, (0, (0, [])))))) (pr_q 1 (6, (2, (1, (0, (0, []))))))) (ev_ct 2 (pr_q 2 (6, (3, (2, (0, (0, [])))))) (pr_q 3 (35, (6, (159, (3, (8, [0, 0])))))))) (ev_ct 9 (ev_ct 6 (pr_q 6 (16, (9, (0, (11, (9, [])))))) (pr_q 9 (1, (10, (0, (0, (0, []))))))) (pr_q 10 (39, (11, (0, (0, (0, []))))))))
def pr_y160 : MethodName := ⟨"OrphanTreeModel", "exit", "(II)I"⟩
def pr_i160 : ev_Im := (pr_y160, (prog_9_method_88_code, ((some .int), [])))
noncomputable def pr_m160 : ev_M := (3, (0, (0, ([], pr_c160))))
/-- OrphanTreeModel.noKill(II)Z -/
noncomputable def pr_c161 : Nat → ev_E := (ev_ct 14 (ev_ct 6 (ev_ct 2 (ev_ct 1 (ev_ct 0 (pr_q 0 (7, (1, (0, (0, (0, [])))))) (pr_q 1 (1, (2, (0, (0, (0, []))))))) (pr_q 2 (25, (5, (7, (8, (0, []))))))) (ev_ct 5 (pr_q 5 (7, (6, (0, (0, (0, [])))))) (pr_q 6 (6, (7, (1, (0, (0, [])))))))) (ev_ct 10 (ev_ct 7 (pr_q 7 (35, (10, (157, (1, (0, [0, 0])))))) (pr_q 10 (16, (13, (0, (24, (13, []))))))) (ev_ct 13 (pr_q 13 (6, (14, (2, (0, (0, [])))))) (pr_q 14 (1, (15, (0, (0, (0, []))))))))) (ev_ct 25 (ev_ct 21 (ev_ct 18 (ev_ct 15 (pr_q 15 (1, (18, (255, (0, (0, [])))))) (pr_q 18 (35, (21, (75, (3, (0, [0, 0]))))))) (pr_q 21 (16, (24, (0, (24, (28, []))))))) (ev_ct 24 (pr_q 24 (1, (25, (1, (0, (0, [])))))) (pr_q 25 (20, (29, (0, (0, (0, [])))))))) (ev_ct 29 (ev_ct 28 (pr_q 28 (1, (29, (0, (0, (0, [])))))) (pr_q 29 (1, (30, (1, (0, (0, []))))))) (ev_ct 30 (pr_q 30 (35, (33, (76, (3, (8, [0, 0])))))) (pr_q 33 (39, (34, (1, (0, (0, []))))))))))
def pr_y161 : MethodName := ⟨"OrphanTreeModel", "noKill", "(II)Z"⟩
def pr_i161 : ev_Im := (pr_y161, (prog_9_method_89_code, ((some .boolean), [])))
noncomputable def pr_m161 : ev_M := (3, (0, (0, ([], pr_c161))))
/-- OrphanTreeModel.kill(II)I -/
noncomputable def pr_c162 : Nat → ev_E := (ev_ct 10 (ev_ct 3 (ev_ct 1 (ev_ct 0 (pr_q 0 (7, (1, (0, (0, (0, [])))))) (pr_q 1 (6, (2, (1, (0, (0, []))))))) (ev_ct 2 (pr_q 2 (6, (3, (2, (0, (0, [])))))) (pr_q 3 (35, (6, (161, (3, (8, [0, 0])))))))) (ev_ct 9 (ev_ct 6 (pr_q 6 (16, (9, (0, (11, (9, [])))))) (pr_q 9 (1, (10, (0, (0, (0, []))))))) (pr_q 10 (39, (11, (0, (0, (0, [])))))))) (ev_ct 16 (ev_ct 12 (ev_ct 11 (pr_q 11 (7, (12, (0, (0, (0, [])))))) (pr_q 12 (35, (15, (80, (1, (8, [0, 0]))))))) (ev_ct 15 (pr_q 15 (7, (16, (0, (0, (0, [])))))) (pr_q 16 (6, (17, (1, (0, (0, [])))))))) (ev_ct 18 (ev_ct 17 (pr_q 17 (6, (18, (2, (0, (0, [])))))) (pr_q 18 (35, (21, (105, (3, (8, [0, 0]))))))) (pr_q 21 (39, (22, (0, (0, (0, [])))))))))
def pr_y162 : MethodName := ⟨"OrphanTreeModel", "kill", "(II)I"⟩
def pr_i162 : ev_Im := (pr_y162, (prog_9_method_90_code, ((some .int), [])))
noncomputable def pr_m162 : ev_M := (3, (0, (0, ([], pr_c162))))
/-- OrphanTreeModel.read(I)I -/
noncomputable def pr_c163 : Nat → ev_E := (ev_ct 16 (ev_ct 9 (ev_ct 2 (ev_ct 1 (ev_ct 0 (pr_q 0 (7, (1, (0, (0, (0, [])))))) (pr_q 1 (6, (2, (1, (0, (0, []))))))) (pr_q 2 (1, (3, (2, (0, (0, []))))))) (ev_ct 6 (ev_ct 3 (pr_q 3 (35, (6, (136, (3, (8, [0, 0])))))) (pr_q 6 (16, (9, (0, (11, (9, []))))))) (pr_q 9 (1, (10, (0, (0, (0, [])))))))) (ev_ct 12 (ev_ct 11 (ev_ct 10 (pr_q 10 (39, (11, (0, (0, (0, [])))))) (pr_q 11 (7, (12, (0, (0, (0, []))))))) (pr_q 12 (6, (13, (1, (0, (0, []))))))) (ev_ct 13 (pr_q 13 (35, (16, (102, (2, (8, [0, 0])))))) (pr_q 16 (9, (17, (2, (0, (0, []))))))))) (ev_ct 24 (ev_ct 19 (ev_ct 18 (ev_ct 17 (pr_q 17 (7, (18, (0, (0, (0, [])))))) (pr_q 18 (6, (19, (2, (0, (0, []))))))) (pr_q 19 (1, (20, (4294967295, (0, (0, []))))))) (ev_ct 23 (ev_ct 20 (pr_q 20 (17, (23, (0, (23, (27, [])))))) (pr_q 23 (1, (24, (1, (0, (0, []))))))) (pr_q 24 (20, (28, (0, (0, (0, [])))))))) (ev_ct 32 (ev_ct 29 (ev_ct 28 (pr_q 28 (1, (29, (3, (0, (0, [])))))) (pr_q 29 (35, (32, (76, (3, (8, [0, 0]))))))) (pr_q 32 (16, (35, (0, (37, (35, []))))))) (ev_ct 35 (pr_q 35 (1, (36, (0, (0, (0, [])))))) (pr_q 36 (39, (37, (0, (0, (0, []))))))))))
def pr_y163 : MethodName := ⟨"OrphanTreeModel", "read", "(I)I"⟩
def pr_i163 : ev_Im := (pr_y163, (prog_9_method_91_code, ((some .int), [])))
noncomputable def pr_m163 : ev_M := (3, (0, (0, ([], pr_c163))))
/-- OrphanTreeModel.readAll(I)I -/
noncomputable def pr_c164 : Nat → ev_E := (ev_ct 10 (ev_ct 3 (ev_ct 1 (ev_ct 0 (pr_q 0 (7, (1, (0, (0, (0, [])))))) (pr_q 1 (6, (2, (1, (0, (0, []))))))) (ev_ct 2 (pr_q 2 (1, (3, (2, (0, (0, [])))))) (pr_q 3 (35, (6, (136, (3, (8, [0, 0])))))))) (ev_ct 9 (ev_ct 6 (pr_q 6 (16, (9, (0, (11, (9, [])))))) (pr_q 9 (1, (10, (0, (0, (0, []))))))) (pr_q 10 (39, (11, (0, (0, (0, [])))))))) (ev_ct 15 (ev_ct 12 (ev_ct 11 (pr_q 11 (7, (12, (0, (0, (0, [])))))) (pr_q 12 (35, (15, (80, (1, (8, [0, 0]))))))) (pr_q 15 (7, (16, (0, (0, (0, []))))))) (ev_ct 17 (ev_ct 16 (pr_q 16 (6, (17, (1, (0, (0, [])))))) (pr_q 17 (35, (20, (103, (2, (8, [0, 0]))))))) (pr_q 20 (39, (21, (0, (0, (0, [])))))))))
def pr_y164 : MethodName := ⟨"OrphanTreeModel", "readAll", "(I)I"⟩
def pr_i164 : ev_Im := (pr_y164, (prog_9_method_92_code, ((some .int), [])))
noncomputable def pr_m164 : ev_M := (2, (0, (0, ([], pr_c164))))
/-- OrphanTreeModel.refuse(II)I -/
noncomputable def pr_c165 : Nat → ev_E := (ev_ct 21 (ev_ct 9 (ev_ct 2 (ev_ct 1 (ev_ct 0 (pr_q 0 (7, (1, (0, (0, (0, [])))))) (pr_q 1 (6, (2, (1, (0, (0, []))))))) (pr_q 2 (35, (5, (135, (2, (8, [0, 0]))))))) (ev_ct 8 (ev_ct 5 (pr_q 5 (16, (8, (0, (8, (53, [])))))) (pr_q 8 (7, (9, (0, (0, (0, []))))))) (pr_q 9 (6, (10, (2, (0, (0, [])))))))) (ev_ct 16 (ev_ct 13 (ev_ct 10 (pr_q 10 (35, (13, (157, (1, (0, [0, 0])))))) (pr_q 13 (16, (16, (0, (16, (20, []))))))) (pr_q 16 (1, (17, (1, (0, (0, []))))))) (ev_ct 20 (ev_ct 17 (pr_q 17 (20, (21, (0, (0, (0, [])))))) (pr_q 20 (1, (21, (0, (0, (0, []))))))) (pr_q 21 (1, (22, (2, (0, (0, []))))))))) (ev_ct 41 (ev_ct 28 (ev_ct 25 (ev_ct 22 (pr_q 22 (35, (25, (76, (3, (8, [0, 0])))))) (pr_q 25 (16, (28, (0, (28, (53, []))))))) (pr_q 28 (7, (29, (0, (0, (0, []))))))) (ev_ct 30 (ev_ct 29 (pr_q 29 (6, (30, (1, (0, (0, [])))))) (pr_q 30 (16, (33, (0, (41, (33, []))))))) (pr_q 41 (1, (42, (1, (0, (0, [])))))))) (ev_ct 47 (ev_ct 46 (ev_ct 42 (pr_q 42 (20, (46, (0, (0, (0, [])))))) (pr_q 46 (1, (47, (3, (0, (0, []))))))) (pr_q 47 (35, (50, (76, (3, (8, [0, 0]))))))) (ev_ct 53 (ev_ct 50 (pr_q 50 (16, (53, (0, (55, (53, [])))))) (pr_q 53 (1, (54, (0, (0, (0, []))))))) (pr_q 54 (39, (55, (0, (0, (0, []))))))))))
def pr_y165 : MethodName := ⟨"OrphanTreeModel", "refuse", "(II)I"⟩
def pr_i165 : ev_Im := (pr_y165, (prog_9_method_93_code, ((some .int), [])))
noncomputable def pr_m165 : ev_M := (5, (0, (0, ([], pr_c165))))
/-- OrphanTreeModel.accept(II)Z -/
noncomputable def pr_c166 : Nat → ev_E := (ev_ct 49 (ev_ct 21 (ev_ct 9 (ev_ct 2 (ev_ct 1 (ev_ct 0 (pr_q 0 (7, (1, (0, (0, (0, [])))))) (pr_q 1 (6, (2, (1, (0, (0, []))))))) (pr_q 2 (35, (5, (135, (2, (8, [0, 0]))))))) (ev_ct 8 (ev_ct 5 (pr_q 5 (16, (8, (0, (8, (49, [])))))) (pr_q 8 (7, (9, (0, (0, (0, []))))))) (pr_q 9 (6, (10, (2, (0, (0, [])))))))) (ev_ct 16 (ev_ct 13 (ev_ct 10 (pr_q 10 (35, (13, (157, (1, (0, [0, 0])))))) (pr_q 13 (16, (16, (0, (16, (20, []))))))) (pr_q 16 (1, (17, (1, (0, (0, []))))))) (ev_ct 20 (ev_ct 17 (pr_q 17 (20, (21, (0, (0, (0, [])))))) (pr_q 20 (1, (21, (0, (0, (0, []))))))) (pr_q 21 (1, (22, (2, (0, (0, []))))))))) (ev_ct 31 (ev_ct 28 (ev_ct 25 (ev_ct 22 (pr_q 22 (35, (25, (76, (3, (8, [0, 0])))))) (pr_q 25 (16, (28, (0, (28, (49, []))))))) (pr_q 28 (7, (29, (0, (0, (0, []))))))) (ev_ct 30 (ev_ct 29 (pr_q 29 (7, (30, (0, (0, (0, [])))))) (pr_q 30 (6, (31, (1, (0, (0, []))))))) (pr_q 31 (35, (34, (83, (2, (8, [0, 0])))))))) (ev_ct 42 (ev_ct 41 (ev_ct 34 (pr_q 34 (16, (37, (0, (37, (41, [])))))) (pr_q 41 (1, (42, (0, (0, (0, []))))))) (pr_q 42 (1, (43, (3, (0, (0, []))))))) (ev_ct 46 (ev_ct 43 (pr_q 43 (35, (46, (76, (3, (8, [0, 0])))))) (pr_q 46 (16, (49, (0, (51, (49, []))))))) (pr_q 49 (1, (50, (0, (0, (0, [])))))))))) (ev_ct 69 (ev_ct 57 (ev_ct 52 (ev_ct 51 (ev_ct 50 (pr_q 50 (39, (51, (1, (0, (0, [])))))) (pr_q 51 (7, (52, (0, (0, (0, []))))))) (pr_q 52 (35, (55, (80, (1, (8, [0, 0]))))))) (ev_ct 56 (ev_ct 55 (pr_q 55 (7, (56, (0, (0, (0, [])))))) (pr_q 56 (6, (57, (1, (0, (0, []))))))) (pr_q 57 (6, (58, (2, (0, (0, [])))))))) (ev_ct 62 (ev_ct 61 (ev_ct 58 (pr_q 58 (35, (61, (87, (3, (8, [0, 0])))))) (pr_q 61 (9, (62, (3, (0, (0, []))))))) (pr_q 62 (7, (63, (0, (0, (0, []))))))) (ev_ct 66 (ev_ct 63 (pr_q 63 (24, (66, (7, (0, (0, [])))))) (pr_q 66 (1, (69, (340, (0, (0, []))))))) (pr_q 69 (6, (70, (1, (0, (0, []))))))))) (ev_ct 75 (ev_ct 72 (ev_ct 71 (ev_ct 70 (pr_q 70 (13, (71, (0, (0, (0, [])))))) (pr_q 71 (22, (72, (0, (0, (0, []))))))) (pr_q 72 (27, (73, (20, (20, (0, []))))))) (ev_ct 74 (ev_ct 73 (pr_q 73 (1, (74, (1, (0, (0, [])))))) (pr_q 74 (6, (75, (2, (0, (0, []))))))) (pr_q 75 (15, (76, (4, (0, (0, [])))))))) (ev_ct 78 (ev_ct 77 (ev_ct 76 (pr_q 76 (1, (77, (4294967295, (0, (0, [])))))) (pr_q 77 (15, (78, (3, (0, (0, []))))))) (pr_q 78 (15, (79, (1, (0, (0, []))))))) (ev_ct 80 (ev_ct 79 (pr_q 79 (28, (80, (0, (0, (0, [])))))) (pr_q 80 (6, (81, (3, (0, (0, []))))))) (pr_q 81 (39, (82, (1, (0, (0, [])))))))))))
def pr_y166 : MethodName := ⟨"OrphanTreeModel", "accept", "(II)Z"⟩
def pr_i166 : ev_Im := (pr_y166, (prog_9_method_94_code, ((some .boolean), [])))
noncomputable def pr_m166 : ev_M := (4, (0, (0, ([], pr_c166))))
/-- OrphanTreeModel.move(II)I -/
noncomputable def pr_c167 : Nat → ev_E := (ev_ct 17 (ev_ct 8 (ev_ct 2 (ev_ct 1 (ev_ct 0 (pr_q 0 (7, (1, (0, (0, (0, [])))))) (pr_q 1 (6, (2, (1, (0, (0, []))))))) (pr_q 2 (35, (5, (135, (2, (8, [0, 0]))))))) (ev_ct 5 (pr_q 5 (16, (8, (0, (8, (16, [])))))) (pr_q 8 (7, (9, (0, (0, (0, [])))))))) (ev_ct 13 (ev_ct 10 (ev_ct 9 (pr_q 9 (6, (10, (2, (0, (0, [])))))) (pr_q 10 (35, (13, (135, (2, (8, [0, 0]))))))) (pr_q 13 (16, (16, (0, (18, (16, []))))))) (ev_ct 16 (pr_q 16 (1, (17, (0, (0, (0, [])))))) (pr_q 17 (39, (18, (0, (0, (0, []))))))))) (ev_ct 80 (ev_ct 20 (ev_ct 19 (ev_ct 18 (pr_q 18 (7, (19, (0, (0, (0, [])))))) (pr_q 19 (6, (20, (1, (0, (0, []))))))) (pr_q 20 (16, (23, (0, (79, (23, []))))))) (ev_ct 79 (pr_q 79 (1, (80, (1, (0, (0, [])))))) (pr_q 80 (20, (84, (0, (0, (0, [])))))))) (ev_ct 88 (ev_ct 85 (ev_ct 84 (pr_q 84 (1, (85, (2, (0, (0, [])))))) (pr_q 85 (35, (88, (76, (3, (8, [0, 0]))))))) (pr_q 88 (16, (91, (0, (93, (91, []))))))) (ev_ct 91 (pr_q 91 (1, (92, (0, (0, (0, [])))))) (pr_q 92 (39, (93, (0, (0, (0, []))))))))))
def pr_y167 : MethodName := ⟨"OrphanTreeModel", "move", "(II)I"⟩
def pr_i167 : ev_Im := (pr_y167, (prog_9_method_95_code, ((some .int), [])))
noncomputable def pr_m167 : ev_M := (4, (0, (0, ([], pr_c167))))
/-- OrphanTreeModel.sets(III)I -/
noncomputable def pr_c168 : Nat → ev_E := (ev_ct 43 (ev_ct 20 (ev_ct 9 (ev_ct 2 (ev_ct 1 (ev_ct 0 (pr_q 0 (7, (1, (0, (0, (0, [])))))) (pr_q 1 (6, (2, (2, (0, (0, []))))))) (pr_q 2 (35, (5, (135, (2, (8, [0, 0]))))))) (ev_ct 8 (ev_ct 5 (pr_q 5 (16, (8, (0, (8, (49, [])))))) (pr_q 8 (7, (9, (0, (0, (0, []))))))) (pr_q 9 (6, (10, (3, (0, (0, [])))))))) (ev_ct 16 (ev_ct 13 (ev_ct 10 (pr_q 10 (35, (13, (157, (1, (0, [0, 0])))))) (pr_q 13 (16, (16, (0, (16, (20, []))))))) (pr_q 16 (1, (17, (1, (0, (0, []))))))) (ev_ct 17 (pr_q 17 (20, (21, (0, (0, (0, [])))))) (pr_q 20 (1, (21, (0, (0, (0, []))))))))) (ev_ct 30 (ev_ct 25 (ev_ct 22 (ev_ct 21 (pr_q 21 (1, (22, (2, (0, (0, [])))))) (pr_q 22 (35, (25, (76, (3, (8, [0, 0]))))))) (pr_q 25 (16, (28, (0, (28, (49, []))))))) (ev_ct 29 (ev_ct 28 (pr_q 28 (7, (29, (0, (0, (0, [])))))) (pr_q 29 (7, (30, (0, (0, (0, []))))))) (pr_q 30 (6, (31, (2, (0, (0, [])))))))) (ev_ct 41 (ev_ct 34 (ev_ct 31 (pr_q 31 (35, (34, (83, (2, (8, [0, 0])))))) (pr_q 34 (16, (37, (0, (37, (41, []))))))) (pr_q 41 (1, (42, (0, (0, (0, []))))))) (ev_ct 42 (pr_q 42 (1, (43, (3, (0, (0, [])))))) (pr_q 43 (35, (46, (76, (3, (8, [0, 0])))))))))) (ev_ct 62 (ev_ct 55 (ev_ct 50 (ev_ct 49 (ev_ct 46 (pr_q 46 (16, (49, (0, (51, (49, [])))))) (pr_q 49 (1, (50, (0, (0, (0, []))))))) (pr_q 50 (39, (51, (0, (0, (0, []))))))) (ev_ct 52 (ev_ct 51 (pr_q 51 (7, (52, (0, (0, (0, [])))))) (pr_q 52 (35, (55, (80, (1, (8, [0, 0]))))))) (pr_q 55 (7, (56, (0, (0, (0, [])))))))) (ev_ct 60 (ev_ct 59 (ev_ct 56 (pr_q 56 (24, (59, (7, (0, (0, [])))))) (pr_q 59 (6, (60, (1, (0, (0, []))))))) (pr_q 60 (6, (61, (2, (0, (0, []))))))) (ev_ct 61 (pr_q 61 (13, (62, (0, (0, (0, [])))))) (pr_q 62 (27, (63, (20, (20, (0, []))))))))) (ev_ct 70 (ev_ct 66 (ev_ct 65 (ev_ct 63 (pr_q 63 (9, (65, (4, (0, (0, [])))))) (pr_q 65 (7, (66, (0, (0, (0, []))))))) (pr_q 66 (24, (69, (7, (0, (0, []))))))) (ev_ct 69 (pr_q 69 (6, (70, (1, (0, (0, [])))))) (pr_q 70 (6, (71, (2, (0, (0, [])))))))) (ev_ct 73 (ev_ct 72 (ev_ct 71 (pr_q 71 (13, (72, (0, (0, (0, [])))))) (pr_q 72 (6, (73, (3, (0, (0, []))))))) (pr_q 73 (28, (74, (0, (0, (0, []))))))) (ev_ct 74 (pr_q 74 (6, (76, (4, (0, (0, [])))))) (pr_q 76 (39, (77, (0, (0, (0, [])))))))))))
def pr_y168 : MethodName := ⟨"OrphanTreeModel", "sets", "(III)I"⟩
def pr_i168 : ev_Im := (pr_y168, (prog_9_method_96_code, ((some .int), [])))
noncomputable def pr_m168 : ev_M := (5, (0, (0, ([], pr_c168))))
/-- OrphanTreeModel.setCapacity(II)I -/
noncomputable def pr_c169 : Nat → ev_E := (ev_ct 3 (ev_ct 1 (ev_ct 0 (pr_q 0 (7, (1, (0, (0, (0, [])))))) (pr_q 1 (1, (3, (100, (0, (0, []))))))) (pr_q 3 (6, (4, (1, (0, (0, []))))))) (ev_ct 5 (ev_ct 4 (pr_q 4 (6, (5, (2, (0, (0, [])))))) (pr_q 5 (35, (8, (168, (4, (8, [0, 0]))))))) (pr_q 8 (39, (9, (0, (0, (0, []))))))))
def pr_y169 : MethodName := ⟨"OrphanTreeModel", "setCapacity", "(II)I"⟩
def pr_i169 : ev_Im := (pr_y169, (prog_9_method_97_code, ((some .int), [])))
noncomputable def pr_m169 : ev_M := (3, (0, (0, ([], pr_c169))))
/-- OrphanTreeModel.setBudget(II)I -/
noncomputable def pr_c170 : Nat → ev_E := (ev_ct 4 (ev_ct 1 (ev_ct 0 (pr_q 0 (7, (1, (0, (0, (0, [])))))) (pr_q 1 (1, (4, (220, (0, (0, []))))))) (pr_q 4 (6, (5, (1, (0, (0, []))))))) (ev_ct 6 (ev_ct 5 (pr_q 5 (6, (6, (2, (0, (0, [])))))) (pr_q 6 (35, (9, (168, (4, (8, [0, 0]))))))) (pr_q 9 (39, (10, (0, (0, (0, []))))))))
def pr_y170 : MethodName := ⟨"OrphanTreeModel", "setBudget", "(II)I"⟩
def pr_i170 : ev_Im := (pr_y170, (prog_9_method_98_code, ((some .int), [])))
noncomputable def pr_m170 : ev_M := (3, (0, (0, ([], pr_c170))))
/-- OrphanTreeModel.setHeir(II)I -/
noncomputable def pr_c171 : Nat → ev_E := (ev_ct 34 (ev_ct 16 (ev_ct 9 (ev_ct 2 (ev_ct 1 (ev_ct 0 (pr_q 0 (7, (1, (0, (0, (0, [])))))) (pr_q 1 (6, (2, (1, (0, (0, []))))))) (pr_q 2 (35, (5, (135, (2, (8, [0, 0]))))))) (ev_ct 8 (ev_ct 5 (pr_q 5 (16, (8, (0, (8, (80, [])))))) (pr_q 8 (7, (9, (0, (0, (0, []))))))) (pr_q 9 (6, (10, (2, (0, (0, [])))))))) (ev_ct 12 (ev_ct 11 (ev_ct 10 (pr_q 10 (1, (11, (4294967295, (0, (0, [])))))) (pr_q 11 (7, (12, (0, (0, (0, []))))))) (pr_q 12 (24, (15, (7, (0, (0, []))))))) (ev_ct 15 (pr_q 15 (1, (16, (0, (0, (0, [])))))) (pr_q 16 (27, (17, (20, (20, (0, []))))))))) (ev_ct 25 (ev_ct 19 (ev_ct 18 (ev_ct 17 (pr_q 17 (1, (18, (1, (0, (0, [])))))) (pr_q 18 (14, (19, (0, (0, (0, []))))))) (pr_q 19 (35, (22, (75, (3, (0, [0, 0]))))))) (ev_ct 22 (pr_q 22 (16, (25, (0, (25, (29, [])))))) (pr_q 25 (1, (26, (1, (0, (0, [])))))))) (ev_ct 30 (ev_ct 29 (ev_ct 26 (pr_q 26 (20, (30, (0, (0, (0, [])))))) (pr_q 29 (1, (30, (0, (0, (0, []))))))) (pr_q 30 (1, (31, (1, (0, (0, []))))))) (ev_ct 31 (pr_q 31 (35, (34, (76, (3, (8, [0, 0])))))) (pr_q 34 (16, (37, (0, (37, (80, [])))))))))) (ev_ct 52 (ev_ct 43 (ev_ct 39 (ev_ct 38 (ev_ct 37 (pr_q 37 (7, (38, (0, (0, (0, [])))))) (pr_q 38 (6, (39, (1, (0, (0, []))))))) (pr_q 39 (6, (40, (2, (0, (0, []))))))) (ev_ct 40 (pr_q 40 (17, (43, (0, (43, (47, [])))))) (pr_q 43 (1, (44, (1, (0, (0, [])))))))) (ev_ct 48 (ev_ct 47 (ev_ct 44 (pr_q 44 (20, (48, (0, (0, (0, [])))))) (pr_q 47 (1, (48, (0, (0, (0, []))))))) (pr_q 48 (1, (49, (2, (0, (0, []))))))) (ev_ct 49 (pr_q 49 (35, (52, (76, (3, (8, [0, 0])))))) (pr_q 52 (16, (55, (0, (55, (80, []))))))))) (ev_ct 69 (ev_ct 57 (ev_ct 56 (ev_ct 55 (pr_q 55 (7, (56, (0, (0, (0, [])))))) (pr_q 56 (6, (57, (1, (0, (0, []))))))) (pr_q 57 (16, (60, (0, (68, (60, []))))))) (ev_ct 68 (pr_q 68 (1, (69, (1, (0, (0, [])))))) (pr_q 69 (20, (73, (0, (0, (0, [])))))))) (ev_ct 77 (ev_ct 74 (ev_ct 73 (pr_q 73 (1, (74, (3, (0, (0, [])))))) (pr_q 74 (35, (77, (76, (3, (8, [0, 0]))))))) (pr_q 77 (16, (80, (0, (82, (80, []))))))) (ev_ct 80 (pr_q 80 (1, (81, (0, (0, (0, [])))))) (pr_q 81 (39, (82, (0, (0, (0, [])))))))))))
def pr_y171 : MethodName := ⟨"OrphanTreeModel", "setHeir", "(II)I"⟩
def pr_i171 : ev_Im := (pr_y171, (prog_9_method_99_code, ((some .int), [])))
noncomputable def pr_m171 : ev_M := (4, (0, (0, ([], pr_c171))))
/-- OrphanTreeModel.give(II)I -/
noncomputable def pr_c172 : Nat → ev_E := (ev_ct 44 (ev_ct 21 (ev_ct 8 (ev_ct 5 (ev_ct 1 (ev_ct 0 (pr_q 0 (7, (1, (0, (0, (0, [])))))) (pr_q 1 (1, (2, (0, (0, (0, []))))))) (ev_ct 2 (pr_q 2 (25, (5, (7, (8, (0, [])))))) (pr_q 5 (7, (6, (0, (0, (0, [])))))))) (ev_ct 7 (ev_ct 6 (pr_q 6 (6, (7, (1, (0, (0, [])))))) (pr_q 7 (1, (8, (1, (0, (0, []))))))) (pr_q 8 (35, (11, (139, (3, (8, [0, 0])))))))) (ev_ct 16 (ev_ct 14 (ev_ct 11 (pr_q 11 (16, (14, (0, (14, (64, [])))))) (pr_q 14 (7, (15, (0, (0, (0, []))))))) (ev_ct 15 (pr_q 15 (6, (16, (2, (0, (0, [])))))) (pr_q 16 (1, (17, (0, (0, (0, [])))))))) (ev_ct 18 (ev_ct 17 (pr_q 17 (7, (18, (0, (0, (0, [])))))) (pr_q 18 (24, (21, (7, (0, (0, []))))))) (pr_q 21 (1, (22, (0, (0, (0, []))))))))) (ev_ct 32 (ev_ct 25 (ev_ct 23 (ev_ct 22 (pr_q 22 (27, (23, (20, (20, (0, [])))))) (pr_q 23 (1, (24, (1, (0, (0, []))))))) (ev_ct 24 (pr_q 24 (14, (25, (0, (0, (0, [])))))) (pr_q 25 (35, (28, (75, (3, (0, [0, 0])))))))) (ev_ct 31 (ev_ct 28 (pr_q 28 (16, (31, (0, (31, (35, [])))))) (pr_q 31 (1, (32, (1, (0, (0, []))))))) (pr_q 32 (20, (36, (0, (0, (0, [])))))))) (ev_ct 37 (ev_ct 36 (ev_ct 35 (pr_q 35 (1, (36, (0, (0, (0, [])))))) (pr_q 36 (1, (37, (2, (0, (0, []))))))) (pr_q 37 (35, (40, (76, (3, (8, [0, 0]))))))) (ev_ct 43 (ev_ct 40 (pr_q 40 (16, (43, (0, (43, (64, [])))))) (pr_q 43 (7, (44, (0, (0, (0, []))))))) (pr_q 44 (7, (45, (0, (0, (0, [])))))))))) (ev_ct 74 (ev_ct 61 (ev_ct 56 (ev_ct 46 (ev_ct 45 (pr_q 45 (6, (46, (2, (0, (0, [])))))) (pr_q 46 (35, (49, (83, (2, (8, [0, 0]))))))) (ev_ct 49 (pr_q 49 (16, (52, (0, (52, (56, [])))))) (pr_q 56 (1, (57, (0, (0, (0, [])))))))) (ev_ct 58 (ev_ct 57 (pr_q 57 (1, (58, (3, (0, (0, [])))))) (pr_q 58 (35, (61, (76, (3, (8, [0, 0]))))))) (pr_q 61 (16, (64, (0, (66, (64, [])))))))) (ev_ct 67 (ev_ct 65 (ev_ct 64 (pr_q 64 (1, (65, (0, (0, (0, [])))))) (pr_q 65 (39, (66, (0, (0, (0, []))))))) (ev_ct 66 (pr_q 66 (7, (67, (0, (0, (0, [])))))) (pr_q 67 (35, (70, (80, (1, (8, [0, 0])))))))) (ev_ct 71 (ev_ct 70 (pr_q 70 (7, (71, (0, (0, (0, [])))))) (pr_q 71 (24, (74, (7, (0, (0, []))))))) (pr_q 74 (1, (76, (11, (0, (0, []))))))))) (ev_ct 84 (ev_ct 79 (ev_ct 77 (ev_ct 76 (pr_q 76 (6, (77, (1, (0, (0, [])))))) (pr_q 77 (13, (78, (0, (0, (0, []))))))) (ev_ct 78 (pr_q 78 (27, (79, (20, (20, (0, [])))))) (pr_q 79 (9, (80, (3, (0, (0, [])))))))) (ev_ct 81 (ev_ct 80 (pr_q 80 (7, (81, (0, (0, (0, [])))))) (pr_q 81 (24, (84, (7, (0, (0, []))))))) (pr_q 84 (1, (86, (11, (0, (0, [])))))))) (ev_ct 88 (ev_ct 87 (ev_ct 86 (pr_q 86 (6, (87, (1, (0, (0, [])))))) (pr_q 87 (13, (88, (0, (0, (0, []))))))) (pr_q 88 (6, (89, (2, (0, (0, []))))))) (ev_ct 90 (ev_ct 89 (pr_q 89 (28, (90, (0, (0, (0, [])))))) (pr_q 90 (6, (91, (3, (0, (0, []))))))) (pr_q 91 (39, (92, (0, (0, (0, [])))))))))))
def pr_y172 : MethodName := ⟨"OrphanTreeModel", "give", "(II)I"⟩
def pr_i172 : ev_Im := (pr_y172, (prog_9_method_100_code, ((some .int), [])))
noncomputable def pr_m172 : ev_M := (4, (0, (0, ([], pr_c172))))
/-- OrphanTreeModel.lowestBelow(I)I -/
noncomputable def pr_c173 : Nat → ev_E := (ev_ct 5 (ev_ct 2 (ev_ct 1 (ev_ct 0 (pr_q 0 (1, (1, (4294967295, (0, (0, [])))))) (pr_q 1 (9, (2, (2, (0, (0, []))))))) (pr_q 2 (1, (3, (1, (0, (0, []))))))) (ev_ct 4 (ev_ct 3 (pr_q 3 (9, (4, (3, (0, (0, [])))))) (pr_q 4 (6, (5, (3, (0, (0, []))))))) (pr_q 5 (7, (6, (0, (0, (0, [])))))))) (ev_ct 10 (ev_ct 9 (ev_ct 6 (pr_q 6 (24, (9, (7, (0, (0, [])))))) (pr_q 9 (1, (10, (0, (0, (0, []))))))) (pr_q 10 (27, (11, (20, (20, (0, []))))))) (ev_ct 57 (ev_ct 11 (pr_q 11 (17, (14, (1, (14, (57, [])))))) (pr_q 57 (6, (58, (2, (0, (0, []))))))) (pr_q 58 (39, (59, (0, (0, (0, [])))))))))
def pr_y173 : MethodName := ⟨"OrphanTreeModel", "lowestBelow", "(I)I"⟩
def pr_i173 : ev_Im := (pr_y173, (prog_9_method_101_code, ((some .int), [])))
noncomputable def pr_m173 : ev_M := (4, (0, (0, ([], pr_c173))))
/-- OrphanTreeModel.prune(II)I -/
noncomputable def pr_c174 : Nat → ev_E := (ev_ct 35 (ev_ct 17 (ev_ct 8 (ev_ct 2 (ev_ct 1 (ev_ct 0 (pr_q 0 (7, (1, (0, (0, (0, [])))))) (pr_q 1 (6, (2, (1, (0, (0, []))))))) (pr_q 2 (35, (5, (135, (2, (8, [0, 0]))))))) (ev_ct 5 (pr_q 5 (16, (8, (0, (8, (53, [])))))) (pr_q 8 (7, (9, (0, (0, (0, [])))))))) (ev_ct 11 (ev_ct 10 (ev_ct 9 (pr_q 9 (6, (10, (2, (0, (0, [])))))) (pr_q 10 (1, (11, (0, (0, (0, []))))))) (pr_q 11 (1, (14, (255, (0, (0, []))))))) (ev_ct 14 (pr_q 14 (35, (17, (75, (3, (0, [0, 0])))))) (pr_q 17 (16, (20, (0, (20, (24, []))))))))) (ev_ct 26 (ev_ct 24 (ev_ct 21 (ev_ct 20 (pr_q 20 (1, (21, (1, (0, (0, [])))))) (pr_q 21 (20, (25, (0, (0, (0, []))))))) (pr_q 24 (1, (25, (0, (0, (0, []))))))) (ev_ct 25 (pr_q 25 (1, (26, (2, (0, (0, [])))))) (pr_q 26 (35, (29, (76, (3, (8, [0, 0])))))))) (ev_ct 33 (ev_ct 32 (ev_ct 29 (pr_q 29 (16, (32, (0, (32, (53, [])))))) (pr_q 32 (7, (33, (0, (0, (0, []))))))) (pr_q 33 (7, (34, (0, (0, (0, []))))))) (ev_ct 34 (pr_q 34 (6, (35, (1, (0, (0, [])))))) (pr_q 35 (35, (38, (83, (2, (8, [0, 0])))))))))) (ev_ct 59 (ev_ct 50 (ev_ct 46 (ev_ct 45 (ev_ct 38 (pr_q 38 (16, (41, (0, (41, (45, [])))))) (pr_q 45 (1, (46, (0, (0, (0, []))))))) (pr_q 46 (1, (47, (3, (0, (0, []))))))) (ev_ct 47 (pr_q 47 (35, (50, (76, (3, (8, [0, 0])))))) (pr_q 50 (16, (53, (0, (55, (53, [])))))))) (ev_ct 55 (ev_ct 54 (ev_ct 53 (pr_q 53 (1, (54, (0, (0, (0, [])))))) (pr_q 54 (39, (55, (0, (0, (0, []))))))) (pr_q 55 (7, (56, (0, (0, (0, []))))))) (ev_ct 56 (pr_q 56 (35, (59, (80, (1, (8, [0, 0])))))) (pr_q 59 (1, (60, (0, (0, (0, []))))))))) (ev_ct 66 (ev_ct 62 (ev_ct 61 (ev_ct 60 (pr_q 60 (9, (61, (3, (0, (0, [])))))) (pr_q 61 (7, (62, (0, (0, (0, []))))))) (pr_q 62 (6, (63, (1, (0, (0, []))))))) (ev_ct 63 (pr_q 63 (35, (66, (173, (2, (8, [0, 0])))))) (pr_q 66 (9, (68, (4, (0, (0, [])))))))) (ev_ct 71 (ev_ct 70 (ev_ct 68 (pr_q 68 (6, (70, (4, (0, (0, [])))))) (pr_q 70 (1, (71, (4294967295, (0, (0, []))))))) (pr_q 71 (17, (74, (0, (106, (74, []))))))) (ev_ct 106 (pr_q 106 (6, (107, (3, (0, (0, [])))))) (pr_q 107 (39, (108, (0, (0, (0, [])))))))))))
def pr_y174 : MethodName := ⟨"OrphanTreeModel", "prune", "(II)I"⟩
def pr_i174 : ev_Im := (pr_y174, (prog_9_method_102_code, ((some .int), [])))
noncomputable def pr_m174 : ev_M := (6, (0, (0, ([], pr_c174))))
/-- OrphanTreeModel.exchange(II)I -/
noncomputable def pr_c175 : Nat → ev_E := (ev_ct 17 (ev_ct 8 (ev_ct 2 (ev_ct 1 (ev_ct 0 (pr_q 0 (7, (1, (0, (0, (0, [])))))) (pr_q 1 (6, (2, (1, (0, (0, []))))))) (pr_q 2 (35, (5, (135, (2, (8, [0, 0]))))))) (ev_ct 5 (pr_q 5 (16, (8, (0, (8, (16, [])))))) (pr_q 8 (7, (9, (0, (0, (0, [])))))))) (ev_ct 13 (ev_ct 10 (ev_ct 9 (pr_q 9 (6, (10, (2, (0, (0, [])))))) (pr_q 10 (35, (13, (135, (2, (8, [0, 0]))))))) (pr_q 13 (16, (16, (0, (18, (16, []))))))) (ev_ct 16 (pr_q 16 (1, (17, (0, (0, (0, [])))))) (pr_q 17 (39, (18, (0, (0, (0, []))))))))) (ev_ct 67 (ev_ct 20 (ev_ct 19 (ev_ct 18 (pr_q 18 (7, (19, (0, (0, (0, [])))))) (pr_q 19 (6, (20, (1, (0, (0, []))))))) (pr_q 20 (16, (23, (0, (66, (23, []))))))) (ev_ct 66 (pr_q 66 (1, (67, (1, (0, (0, [])))))) (pr_q 67 (20, (71, (0, (0, (0, [])))))))) (ev_ct 75 (ev_ct 72 (ev_ct 71 (pr_q 71 (1, (72, (2, (0, (0, [])))))) (pr_q 72 (35, (75, (76, (3, (8, [0, 0]))))))) (pr_q 75 (16, (78, (0, (80, (78, []))))))) (ev_ct 78 (pr_q 78 (1, (79, (0, (0, (0, [])))))) (pr_q 79 (39, (80, (0, (0, (0, []))))))))))
def pr_y175 : MethodName := ⟨"OrphanTreeModel", "exchange", "(II)I"⟩
def pr_i175 : ev_Im := (pr_y175, (prog_9_method_103_code, ((some .int), [])))
noncomputable def pr_m175 : ev_M := (6, (0, (0, ([], pr_c175))))
/-- OrphanTreeModel.relieve(I)I -/
noncomputable def pr_c176 : Nat → ev_E := (ev_ct 3 (ev_ct 1 (ev_ct 0 (pr_q 0 (7, (1, (0, (0, (0, [])))))) (pr_q 1 (6, (2, (1, (0, (0, []))))))) (ev_ct 2 (pr_q 2 (1, (3, (2, (0, (0, [])))))) (pr_q 3 (35, (6, (137, (3, (8, [0, 0])))))))) (ev_ct 9 (ev_ct 6 (pr_q 6 (16, (9, (0, (11, (9, [])))))) (pr_q 9 (1, (10, (0, (0, (0, []))))))) (pr_q 10 (39, (11, (0, (0, (0, []))))))))
def pr_y176 : MethodName := ⟨"OrphanTreeModel", "relieve", "(I)I"⟩
def pr_i176 : ev_Im := (pr_y176, (prog_9_method_104_code, ((some .int), [])))
noncomputable def pr_m176 : ev_M := (4, (0, (0, ([], pr_c176))))
/-- OrphanTreeModel.adopter(I)I -/
noncomputable def pr_c177 : Nat → ev_E := (ev_ct 3 (ev_ct 1 (ev_ct 0 (pr_q 0 (7, (1, (0, (0, (0, [])))))) (pr_q 1 (6, (2, (1, (0, (0, []))))))) (ev_ct 2 (pr_q 2 (1, (3, (2, (0, (0, [])))))) (pr_q 3 (35, (6, (137, (3, (8, [0, 0])))))))) (ev_ct 9 (ev_ct 6 (pr_q 6 (16, (9, (0, (13, (9, [])))))) (pr_q 9 (1, (10, (0, (0, (0, []))))))) (ev_ct 10 (pr_q 10 (20, (27, (0, (0, (0, [])))))) (pr_q 27 (39, (28, (0, (0, (0, [])))))))))
def pr_y177 : MethodName := ⟨"OrphanTreeModel", "adopter", "(I)I"⟩
def pr_i177 : ev_Im := (pr_y177, (prog_9_method_105_code, ((some .int), [])))
noncomputable def pr_m177 : ev_M := (2, (0, (0, ([], pr_c177))))
/-- OrphanTreeModel.adopters(I)I -/
noncomputable def pr_c178 : Nat → ev_E := (ev_ct 3 (ev_ct 1 (ev_ct 0 (pr_q 0 (7, (1, (0, (0, (0, [])))))) (pr_q 1 (6, (2, (1, (0, (0, []))))))) (ev_ct 2 (pr_q 2 (1, (3, (2, (0, (0, [])))))) (pr_q 3 (35, (6, (137, (3, (8, [0, 0])))))))) (ev_ct 9 (ev_ct 6 (pr_q 6 (16, (9, (0, (11, (9, [])))))) (pr_q 9 (1, (10, (0, (0, (0, []))))))) (pr_q 10 (39, (11, (0, (0, (0, []))))))))
def pr_y178 : MethodName := ⟨"OrphanTreeModel", "adopters", "(I)I"⟩
def pr_i178 : ev_Im := (pr_y178, (prog_9_method_106_code, ((some .int), [])))
noncomputable def pr_m178 : ev_M := (4, (0, (0, ([], pr_c178))))
/-- OrphanTreeModel.heirNow(I)I -/
noncomputable def pr_c179 : Nat → ev_E := (ev_ct 3 (ev_ct 1 (ev_ct 0 (pr_q 0 (7, (1, (0, (0, (0, [])))))) (pr_q 1 (6, (2, (1, (0, (0, []))))))) (ev_ct 2 (pr_q 2 (1, (3, (2, (0, (0, [])))))) (pr_q 3 (35, (6, (137, (3, (8, [0, 0])))))))) (ev_ct 9 (ev_ct 6 (pr_q 6 (16, (9, (0, (13, (9, [])))))) (pr_q 9 (1, (10, (0, (0, (0, []))))))) (ev_ct 10 (pr_q 10 (20, (18, (0, (0, (0, [])))))) (pr_q 18 (39, (19, (0, (0, (0, [])))))))))
def pr_y179 : MethodName := ⟨"OrphanTreeModel", "heirNow", "(I)I"⟩
def pr_i179 : ev_Im := (pr_y179, (prog_9_method_107_code, ((some .int), [])))
noncomputable def pr_m179 : ev_M := (2, (0, (0, ([], pr_c179))))
/-- OrphanTreeModel.wouldFall(II)I -/
noncomputable def pr_c181 : Nat → ev_E := (ev_ct 3 (ev_ct 1 (ev_ct 0 (pr_q 0 (7, (1, (0, (0, (0, [])))))) (pr_q 1 (6, (2, (1, (0, (0, []))))))) (ev_ct 2 (pr_q 2 (6, (3, (2, (0, (0, [])))))) (pr_q 3 (35, (6, (159, (3, (8, [0, 0])))))))) (ev_ct 9 (ev_ct 6 (pr_q 6 (16, (9, (0, (13, (9, [])))))) (pr_q 9 (1, (10, (0, (0, (0, []))))))) (ev_ct 10 (pr_q 10 (20, (19, (0, (0, (0, [])))))) (pr_q 19 (39, (20, (0, (0, (0, [])))))))))
def pr_y181 : MethodName := ⟨"OrphanTreeModel", "wouldFall", "(II)I"⟩
def pr_i181 : ev_Im := (pr_y181, (prog_9_method_109_code, ((some .int), [])))
noncomputable def pr_m181 : ev_M := (3, (0, (0, ([], pr_c181))))
/-- OrphanTreeModel.wouldStand(II)I -/
noncomputable def pr_c182 : Nat → ev_E := (ev_ct 3 (ev_ct 1 (ev_ct 0 (pr_q 0 (7, (1, (0, (0, (0, [])))))) (pr_q 1 (6, (2, (1, (0, (0, []))))))) (ev_ct 2 (pr_q 2 (6, (3, (2, (0, (0, [])))))) (pr_q 3 (35, (6, (159, (3, (8, [0, 0])))))))) (ev_ct 9 (ev_ct 6 (pr_q 6 (16, (9, (0, (11, (9, [])))))) (pr_q 9 (1, (10, (0, (0, (0, []))))))) (pr_q 10 (39, (11, (0, (0, (0, []))))))))
def pr_y182 : MethodName := ⟨"OrphanTreeModel", "wouldStand", "(II)I"⟩
def pr_i182 : ev_Im := (pr_y182, (prog_9_method_110_code, ((some .int), [])))
noncomputable def pr_m182 : ev_M := (5, (0, (0, ([], pr_c182))))
/-- OrphanTreeModel.wouldHave(III)I -/
noncomputable def pr_c183 : Nat → ev_E := (ev_ct 9 (ev_ct 2 (ev_ct 1 (ev_ct 0 (pr_q 0 (7, (1, (0, (0, (0, [])))))) (pr_q 1 (6, (2, (1, (0, (0, []))))))) (pr_q 2 (35, (5, (135, (2, (8, [0, 0]))))))) (ev_ct 8 (ev_ct 5 (pr_q 5 (16, (8, (0, (8, (17, [])))))) (pr_q 8 (7, (9, (0, (0, (0, []))))))) (pr_q 9 (6, (10, (2, (0, (0, [])))))))) (ev_ct 14 (ev_ct 11 (ev_ct 10 (pr_q 10 (6, (11, (3, (0, (0, [])))))) (pr_q 11 (35, (14, (159, (3, (8, [0, 0]))))))) (pr_q 14 (16, (17, (0, (19, (17, []))))))) (ev_ct 17 (pr_q 17 (1, (18, (0, (0, (0, [])))))) (pr_q 18 (39, (19, (0, (0, (0, [])))))))))
def pr_y183 : MethodName := ⟨"OrphanTreeModel", "wouldHave", "(III)I"⟩
def pr_i183 : ev_Im := (pr_y183, (prog_9_method_111_code, ((some .int), [])))
noncomputable def pr_m183 : ev_M := (6, (0, (0, ([], pr_c183))))
/-- OrphanTreeModel.wouldHold(III)I -/
noncomputable def pr_c184 : Nat → ev_E := (ev_ct 11 (ev_ct 5 (ev_ct 1 (ev_ct 0 (pr_q 0 (7, (1, (0, (0, (0, [])))))) (pr_q 1 (6, (2, (2, (0, (0, []))))))) (ev_ct 2 (pr_q 2 (35, (5, (135, (2, (8, [0, 0])))))) (pr_q 5 (16, (8, (0, (8, (26, [])))))))) (ev_ct 9 (ev_ct 8 (pr_q 8 (7, (9, (0, (0, (0, [])))))) (pr_q 9 (6, (10, (1, (0, (0, []))))))) (ev_ct 10 (pr_q 10 (1, (11, (2, (0, (0, [])))))) (pr_q 11 (35, (14, (139, (3, (8, [0, 0]))))))))) (ev_ct 19 (ev_ct 17 (ev_ct 14 (pr_q 14 (16, (17, (0, (17, (26, [])))))) (pr_q 17 (7, (18, (0, (0, (0, []))))))) (ev_ct 18 (pr_q 18 (6, (19, (2, (0, (0, [])))))) (pr_q 19 (6, (20, (3, (0, (0, [])))))))) (ev_ct 23 (ev_ct 20 (pr_q 20 (35, (23, (159, (3, (8, [0, 0])))))) (pr_q 23 (16, (26, (0, (28, (26, []))))))) (ev_ct 26 (pr_q 26 (1, (27, (0, (0, (0, [])))))) (pr_q 27 (39, (28, (0, (0, (0, []))))))))))
def pr_y184 : MethodName := ⟨"OrphanTreeModel", "wouldHold", "(III)I"⟩
def pr_i184 : ev_Im := (pr_y184, (prog_9_method_112_code, ((some .int), [])))
noncomputable def pr_m184 : ev_M := (6, (0, (0, ([], pr_c184))))
/-- OrphanTreeModel.wouldFallBy(II)I -/
noncomputable def pr_c185 : Nat → ev_E := (ev_ct 23 (ev_ct 11 (ev_ct 3 (ev_ct 1 (ev_ct 0 (pr_q 0 (7, (1, (0, (0, (0, [])))))) (pr_q 1 (6, (2, (1, (0, (0, []))))))) (ev_ct 2 (pr_q 2 (6, (3, (2, (0, (0, [])))))) (pr_q 3 (35, (6, (161, (3, (8, [0, 0])))))))) (ev_ct 9 (ev_ct 6 (pr_q 6 (16, (9, (0, (11, (9, [])))))) (pr_q 9 (1, (10, (0, (0, (0, []))))))) (ev_ct 10 (pr_q 10 (39, (11, (0, (0, (0, [])))))) (pr_q 11 (7, (12, (0, (0, (0, []))))))))) (ev_ct 17 (ev_ct 15 (ev_ct 12 (pr_q 12 (24, (15, (7, (0, (0, [])))))) (pr_q 15 (1, (16, (3, (0, (0, []))))))) (ev_ct 16 (pr_q 16 (27, (17, (20, (20, (0, [])))))) (pr_q 17 (9, (18, (3, (0, (0, [])))))))) (ev_ct 19 (ev_ct 18 (pr_q 18 (7, (19, (0, (0, (0, [])))))) (pr_q 19 (35, (22, (81, (1, (8, [0, 0]))))))) (ev_ct 22 (pr_q 22 (7, (23, (0, (0, (0, [])))))) (pr_q 23 (6, (24, (1, (0, (0, [])))))))))) (ev_ct 43 (ev_ct 30 (ev_ct 25 (ev_ct 24 (pr_q 24 (6, (25, (2, (0, (0, [])))))) (pr_q 25 (35, (28, (105, (3, (8, [0, 0]))))))) (ev_ct 28 (pr_q 28 (9, (30, (4, (0, (0, [])))))) (pr_q 30 (6, (32, (4, (0, (0, [])))))))) (ev_ct 39 (ev_ct 32 (pr_q 32 (16, (35, (1, (35, (39, [])))))) (pr_q 39 (7, (40, (0, (0, (0, []))))))) (ev_ct 40 (pr_q 40 (24, (43, (7, (0, (0, [])))))) (pr_q 43 (1, (44, (3, (0, (0, []))))))))) (ev_ct 47 (ev_ct 45 (ev_ct 44 (pr_q 44 (27, (45, (20, (20, (0, [])))))) (pr_q 45 (6, (46, (3, (0, (0, []))))))) (ev_ct 46 (pr_q 46 (14, (47, (0, (0, (0, [])))))) (pr_q 47 (9, (49, (5, (0, (0, [])))))))) (ev_ct 50 (ev_ct 49 (pr_q 49 (7, (50, (0, (0, (0, [])))))) (pr_q 50 (35, (53, (82, (1, (8, [0, 0]))))))) (ev_ct 53 (pr_q 53 (6, (55, (5, (0, (0, [])))))) (pr_q 55 (39, (56, (0, (0, (0, [])))))))))))
def pr_y185 : MethodName := ⟨"OrphanTreeModel", "wouldFallBy", "(II)I"⟩
def pr_i185 : ev_Im := (pr_y185, (prog_9_method_113_code, ((some .int), [])))
noncomputable def pr_m185 : ev_M := (6, (0, (0, ([], pr_c185))))
/-- OrphanTreeModel.wouldRun(II)I -/
noncomputable def pr_c186 : Nat → ev_E := (ev_ct 17 (ev_ct 9 (ev_ct 2 (ev_ct 1 (ev_ct 0 (pr_q 0 (7, (1, (0, (0, (0, [])))))) (pr_q 1 (6, (2, (1, (0, (0, []))))))) (pr_q 2 (6, (3, (2, (0, (0, []))))))) (ev_ct 6 (ev_ct 3 (pr_q 3 (35, (6, (161, (3, (8, [0, 0])))))) (pr_q 6 (16, (9, (0, (11, (9, []))))))) (pr_q 9 (1, (10, (0, (0, (0, [])))))))) (ev_ct 12 (ev_ct 11 (ev_ct 10 (pr_q 10 (39, (11, (0, (0, (0, [])))))) (pr_q 11 (7, (12, (0, (0, (0, []))))))) (pr_q 12 (35, (15, (81, (1, (8, [0, 0]))))))) (ev_ct 16 (ev_ct 15 (pr_q 15 (7, (16, (0, (0, (0, [])))))) (pr_q 16 (6, (17, (1, (0, (0, []))))))) (pr_q 17 (6, (18, (2, (0, (0, []))))))))) (ev_ct 31 (ev_ct 22 (ev_ct 21 (ev_ct 18 (pr_q 18 (35, (21, (105, (3, (8, [0, 0])))))) (pr_q 21 (9, (22, (3, (0, (0, []))))))) (pr_q 22 (6, (23, (3, (0, (0, []))))))) (ev_ct 30 (ev_ct 23 (pr_q 23 (16, (26, (1, (26, (30, [])))))) (pr_q 30 (7, (31, (0, (0, (0, []))))))) (pr_q 31 (35, (34, (90, (1, (8, [0, 0])))))))) (ev_ct 37 (ev_ct 36 (ev_ct 34 (pr_q 34 (9, (36, (4, (0, (0, [])))))) (pr_q 36 (7, (37, (0, (0, (0, []))))))) (pr_q 37 (35, (40, (82, (1, (8, [0, 0]))))))) (ev_ct 40 (pr_q 40 (6, (42, (4, (0, (0, [])))))) (pr_q 42 (39, (43, (0, (0, (0, []))))))))))
def pr_y186 : MethodName := ⟨"OrphanTreeModel", "wouldRun", "(II)I"⟩
def pr_i186 : ev_Im := (pr_y186, (prog_9_method_114_code, ((some .int), [])))
noncomputable def pr_m186 : ev_M := (5, (0, (0, ([], pr_c186))))
/-- OrphanTreeModel.weakest(I)I -/
noncomputable def pr_c187 : Nat → ev_E := (ev_ct 29 (ev_ct 11 (ev_ct 5 (ev_ct 1 (ev_ct 0 (pr_q 0 (7, (1, (0, (0, (0, [])))))) (pr_q 1 (1, (2, (0, (0, (0, []))))))) (ev_ct 2 (pr_q 2 (25, (5, (7, (8, (0, [])))))) (pr_q 5 (7, (6, (0, (0, (0, [])))))))) (ev_ct 7 (ev_ct 6 (pr_q 6 (6, (7, (1, (0, (0, [])))))) (pr_q 7 (1, (8, (0, (0, (0, []))))))) (ev_ct 8 (pr_q 8 (1, (11, (255, (0, (0, [])))))) (pr_q 11 (35, (14, (75, (3, (0, [0, 0]))))))))) (ev_ct 21 (ev_ct 17 (ev_ct 14 (pr_q 14 (16, (17, (0, (17, (21, [])))))) (pr_q 17 (1, (18, (1, (0, (0, []))))))) (ev_ct 18 (pr_q 18 (20, (22, (0, (0, (0, [])))))) (pr_q 21 (1, (22, (0, (0, (0, [])))))))) (ev_ct 23 (ev_ct 22 (pr_q 22 (1, (23, (1, (0, (0, [])))))) (pr_q 23 (35, (26, (76, (3, (8, [0, 0]))))))) (ev_ct 26 (pr_q 26 (16, (29, (0, (31, (29, [])))))) (pr_q 29 (1, (30, (0, (0, (0, [])))))))))) (ev_ct 38 (ev_ct 33 (ev_ct 31 (ev_ct 30 (pr_q 30 (39, (31, (0, (0, (0, [])))))) (pr_q 31 (1, (32, (4294967295, (0, (0, []))))))) (ev_ct 32 (pr_q 32 (9, (33, (2, (0, (0, [])))))) (pr_q 33 (1, (34, (4294967295, (0, (0, [])))))))) (ev_ct 35 (ev_ct 34 (pr_q 34 (9, (35, (3, (0, (0, [])))))) (pr_q 35 (1, (36, (1, (0, (0, []))))))) (ev_ct 36 (pr_q 36 (9, (38, (4, (0, (0, [])))))) (pr_q 38 (6, (40, (4, (0, (0, []))))))))) (ev_ct 45 (ev_ct 41 (ev_ct 40 (pr_q 40 (7, (41, (0, (0, (0, [])))))) (pr_q 41 (24, (44, (7, (0, (0, []))))))) (ev_ct 44 (pr_q 44 (1, (45, (0, (0, (0, [])))))) (pr_q 45 (27, (46, (20, (20, (0, [])))))))) (ev_ct 93 (ev_ct 46 (pr_q 46 (17, (49, (1, (49, (93, [])))))) (pr_q 93 (6, (94, (2, (0, (0, []))))))) (pr_q 94 (39, (95, (0, (0, (0, []))))))))))
def pr_y187 : MethodName := ⟨"OrphanTreeModel", "weakest", "(I)I"⟩
def pr_i187 : ev_Im := (pr_y187, (prog_9_method_115_code, ((some .int), [])))
noncomputable def pr_m187 : ev_M := (6, (0, (0, ([], pr_c187))))
/-- OrphanTreeModel.betterCode(I)I -/
noncomputable def pr_c188 : Nat → ev_E := (ev_ct 3 (ev_ct 1 (ev_ct 0 (pr_q 0 (7, (1, (0, (0, (0, [])))))) (pr_q 1 (6, (2, (1, (0, (0, []))))))) (ev_ct 2 (pr_q 2 (1, (3, (2, (0, (0, [])))))) (pr_q 3 (35, (6, (137, (3, (8, [0, 0])))))))) (ev_ct 9 (ev_ct 6 (pr_q 6 (16, (9, (0, (13, (9, [])))))) (pr_q 9 (1, (10, (0, (0, (0, []))))))) (ev_ct 10 (pr_q 10 (20, (33, (0, (0, (0, [])))))) (pr_q 33 (39, (34, (0, (0, (0, [])))))))))
def pr_y188 : MethodName := ⟨"OrphanTreeModel", "betterCode", "(I)I"⟩
def pr_i188 : ev_Im := (pr_y188, (prog_9_method_116_code, ((some .int), [])))
noncomputable def pr_m188 : ev_M := (2, (0, (0, ([], pr_c188))))
/-- OrphanTreeModel.dutyLife(I)I -/
noncomputable def pr_c189 : Nat → ev_E := (ev_ct 20 (ev_ct 8 (ev_ct 5 (ev_ct 1 (ev_ct 0 (pr_q 0 (7, (1, (0, (0, (0, [])))))) (pr_q 1 (1, (2, (0, (0, (0, []))))))) (ev_ct 2 (pr_q 2 (25, (5, (7, (8, (0, [])))))) (pr_q 5 (7, (6, (0, (0, (0, [])))))))) (ev_ct 7 (ev_ct 6 (pr_q 6 (6, (7, (1, (0, (0, [])))))) (pr_q 7 (1, (8, (1, (0, (0, []))))))) (pr_q 8 (35, (11, (139, (3, (8, [0, 0])))))))) (ev_ct 15 (ev_ct 14 (ev_ct 11 (pr_q 11 (16, (14, (0, (16, (14, [])))))) (pr_q 14 (1, (15, (0, (0, (0, []))))))) (pr_q 15 (39, (16, (0, (0, (0, []))))))) (ev_ct 17 (ev_ct 16 (pr_q 16 (7, (17, (0, (0, (0, [])))))) (pr_q 17 (35, (20, (81, (1, (8, [0, 0]))))))) (pr_q 20 (1, (21, (0, (0, (0, []))))))))) (ev_ct 29 (ev_ct 23 (ev_ct 22 (ev_ct 21 (pr_q 21 (9, (22, (2, (0, (0, [])))))) (pr_q 22 (7, (23, (0, (0, (0, []))))))) (pr_q 23 (24, (26, (7, (0, (0, []))))))) (ev_ct 28 (ev_ct 26 (pr_q 26 (1, (28, (11, (0, (0, [])))))) (pr_q 28 (6, (29, (1, (0, (0, []))))))) (pr_q 29 (13, (30, (0, (0, (0, [])))))))) (ev_ct 64 (ev_ct 31 (ev_ct 30 (pr_q 30 (27, (31, (20, (20, (0, [])))))) (pr_q 31 (16, (34, (0, (64, (34, []))))))) (pr_q 64 (7, (65, (0, (0, (0, []))))))) (ev_ct 68 (ev_ct 65 (pr_q 65 (35, (68, (82, (1, (8, [0, 0])))))) (pr_q 68 (6, (69, (2, (0, (0, []))))))) (pr_q 69 (39, (70, (0, (0, (0, []))))))))))
def pr_y189 : MethodName := ⟨"OrphanTreeModel", "dutyLife", "(I)I"⟩
def pr_i189 : ev_Im := (pr_y189, (prog_9_method_117_code, ((some .int), [])))
noncomputable def pr_m189 : ev_M := (4, (0, (0, ([], pr_c189))))
/-- OrphanTreeModel.roomiest(I)I -/
noncomputable def pr_c190 : Nat → ev_E := (ev_ct 25 (ev_ct 10 (ev_ct 5 (ev_ct 1 (ev_ct 0 (pr_q 0 (7, (1, (0, (0, (0, [])))))) (pr_q 1 (1, (2, (0, (0, (0, []))))))) (ev_ct 2 (pr_q 2 (25, (5, (7, (8, (0, [])))))) (pr_q 5 (7, (6, (0, (0, (0, [])))))))) (ev_ct 7 (ev_ct 6 (pr_q 6 (6, (7, (1, (0, (0, [])))))) (pr_q 7 (35, (10, (157, (1, (0, [0, 0]))))))) (pr_q 10 (16, (13, (0, (13, (17, [])))))))) (ev_ct 18 (ev_ct 14 (ev_ct 13 (pr_q 13 (1, (14, (1, (0, (0, [])))))) (pr_q 14 (20, (18, (0, (0, (0, []))))))) (ev_ct 17 (pr_q 17 (1, (18, (0, (0, (0, [])))))) (pr_q 18 (1, (19, (1, (0, (0, [])))))))) (ev_ct 22 (ev_ct 19 (pr_q 19 (35, (22, (76, (3, (8, [0, 0])))))) (pr_q 22 (16, (25, (0, (27, (25, []))))))) (pr_q 25 (1, (26, (0, (0, (0, []))))))))) (ev_ct 32 (ev_ct 29 (ev_ct 27 (ev_ct 26 (pr_q 26 (39, (27, (0, (0, (0, [])))))) (pr_q 27 (1, (28, (4294967295, (0, (0, []))))))) (ev_ct 28 (pr_q 28 (9, (29, (2, (0, (0, [])))))) (pr_q 29 (1, (30, (1, (0, (0, [])))))))) (ev_ct 31 (ev_ct 30 (pr_q 30 (9, (31, (3, (0, (0, [])))))) (pr_q 31 (6, (32, (3, (0, (0, []))))))) (pr_q 32 (7, (33, (0, (0, (0, [])))))))) (ev_ct 37 (ev_ct 36 (ev_ct 33 (pr_q 33 (24, (36, (7, (0, (0, [])))))) (pr_q 36 (1, (37, (0, (0, (0, []))))))) (pr_q 37 (27, (38, (20, (20, (0, []))))))) (ev_ct 87 (ev_ct 38 (pr_q 38 (17, (41, (1, (41, (87, [])))))) (pr_q 87 (6, (88, (2, (0, (0, []))))))) (pr_q 88 (39, (89, (0, (0, (0, []))))))))))
def pr_y190 : MethodName := ⟨"OrphanTreeModel", "roomiest", "(I)I"⟩
def pr_i190 : ev_Im := (pr_y190, (prog_9_method_118_code, ((some .int), [])))
noncomputable def pr_m190 : ev_M := (4, (0, (0, ([], pr_c190))))
/-- OrphanTreeModel.allRoom()I -/
noncomputable def pr_c191 : Nat → ev_E := (ev_ct 15 (ev_ct 7 (ev_ct 2 (ev_ct 1 (ev_ct 0 (pr_q 0 (7, (1, (0, (0, (0, [])))))) (pr_q 1 (1, (2, (0, (0, (0, []))))))) (pr_q 2 (25, (5, (7, (8, (0, []))))))) (ev_ct 6 (ev_ct 5 (pr_q 5 (1, (6, (0, (0, (0, [])))))) (pr_q 6 (9, (7, (1, (0, (0, []))))))) (pr_q 7 (1, (8, (0, (0, (0, [])))))))) (ev_ct 10 (ev_ct 9 (ev_ct 8 (pr_q 8 (9, (9, (2, (0, (0, [])))))) (pr_q 9 (6, (10, (2, (0, (0, []))))))) (pr_q 10 (7, (11, (0, (0, (0, []))))))) (ev_ct 14 (ev_ct 11 (pr_q 11 (24, (14, (7, (0, (0, [])))))) (pr_q 14 (1, (15, (0, (0, (0, []))))))) (pr_q 15 (27, (16, (20, (20, (0, []))))))))) (ev_ct 25 (ev_ct 20 (ev_ct 19 (ev_ct 16 (pr_q 16 (17, (19, (1, (19, (33, [])))))) (pr_q 19 (6, (20, (1, (0, (0, []))))))) (pr_q 20 (7, (21, (0, (0, (0, []))))))) (ev_ct 22 (ev_ct 21 (pr_q 21 (6, (22, (2, (0, (0, [])))))) (pr_q 22 (35, (25, (86, (2, (8, [0, 0]))))))) (pr_q 25 (13, (26, (0, (0, (0, [])))))))) (ev_ct 30 (ev_ct 27 (ev_ct 26 (pr_q 26 (9, (27, (1, (0, (0, [])))))) (pr_q 27 (12, (30, (2, (1, (0, []))))))) (pr_q 30 (20, (9, (0, (0, (0, []))))))) (ev_ct 33 (pr_q 33 (6, (34, (1, (0, (0, [])))))) (pr_q 34 (39, (35, (0, (0, (0, []))))))))))
def pr_y191 : MethodName := ⟨"OrphanTreeModel", "allRoom", "()I"⟩
def pr_i191 : ev_Im := (pr_y191, (prog_9_method_119_code, ((some .int), [])))
noncomputable def pr_m191 : ev_M := (3, (0, (0, ([], pr_c191))))
/-- OrphanTreeModel.overfull()I -/
noncomputable def pr_c192 : Nat → ev_E := (ev_ct 25 (ev_ct 10 (ev_ct 6 (ev_ct 2 (ev_ct 1 (ev_ct 0 (pr_q 0 (7, (1, (0, (0, (0, [])))))) (pr_q 1 (1, (2, (0, (0, (0, []))))))) (pr_q 2 (25, (5, (7, (8, (0, []))))))) (ev_ct 5 (pr_q 5 (1, (6, (0, (0, (0, [])))))) (pr_q 6 (9, (7, (1, (0, (0, [])))))))) (ev_ct 8 (ev_ct 7 (pr_q 7 (1, (8, (0, (0, (0, [])))))) (pr_q 8 (9, (9, (2, (0, (0, []))))))) (ev_ct 9 (pr_q 9 (6, (10, (2, (0, (0, [])))))) (pr_q 10 (7, (11, (0, (0, (0, []))))))))) (ev_ct 19 (ev_ct 15 (ev_ct 14 (ev_ct 11 (pr_q 11 (24, (14, (7, (0, (0, [])))))) (pr_q 14 (1, (15, (0, (0, (0, []))))))) (pr_q 15 (27, (16, (20, (20, (0, []))))))) (ev_ct 16 (pr_q 16 (17, (19, (1, (19, (59, [])))))) (pr_q 19 (6, (20, (1, (0, (0, [])))))))) (ev_ct 21 (ev_ct 20 (pr_q 20 (7, (21, (0, (0, (0, [])))))) (pr_q 21 (6, (22, (2, (0, (0, []))))))) (ev_ct 22 (pr_q 22 (35, (25, (83, (2, (8, [0, 0])))))) (pr_q 25 (16, (28, (0, (50, (28, [])))))))))) (ev_ct 41 (ev_ct 34 (ev_ct 30 (ev_ct 29 (ev_ct 28 (pr_q 28 (7, (29, (0, (0, (0, [])))))) (pr_q 29 (6, (30, (2, (0, (0, []))))))) (pr_q 30 (1, (31, (0, (0, (0, []))))))) (ev_ct 31 (pr_q 31 (35, (34, (85, (3, (8, [0, 0])))))) (pr_q 34 (7, (35, (0, (0, (0, [])))))))) (ev_ct 38 (ev_ct 35 (pr_q 35 (24, (38, (7, (0, (0, [])))))) (pr_q 38 (1, (40, (100, (0, (0, []))))))) (ev_ct 40 (pr_q 40 (6, (41, (2, (0, (0, [])))))) (pr_q 41 (13, (42, (0, (0, (0, []))))))))) (ev_ct 52 (ev_ct 50 (ev_ct 43 (ev_ct 42 (pr_q 42 (27, (43, (20, (20, (0, [])))))) (pr_q 43 (17, (46, (2, (46, (50, []))))))) (pr_q 50 (1, (51, (0, (0, (0, []))))))) (ev_ct 51 (pr_q 51 (13, (52, (0, (0, (0, [])))))) (pr_q 52 (9, (53, (1, (0, (0, [])))))))) (ev_ct 56 (ev_ct 53 (pr_q 53 (12, (56, (2, (1, (0, [])))))) (pr_q 56 (20, (9, (0, (0, (0, []))))))) (ev_ct 59 (pr_q 59 (6, (60, (1, (0, (0, [])))))) (pr_q 60 (39, (61, (0, (0, (0, [])))))))))))
def pr_y192 : MethodName := ⟨"OrphanTreeModel", "overfull", "()I"⟩
def pr_i192 : ev_Im := (pr_y192, (prog_9_method_120_code, ((some .int), [])))
noncomputable def pr_m192 : ev_M := (3, (0, (0, ([], pr_c192))))
/-- OrphanTreeModel.ofGroup(I)I -/
noncomputable def pr_c193 : Nat → ev_E := (ev_ct 37 (ev_ct 19 (ev_ct 7 (ev_ct 2 (ev_ct 1 (ev_ct 0 (pr_q 0 (7, (1, (0, (0, (0, [])))))) (pr_q 1 (1, (2, (0, (0, (0, []))))))) (pr_q 2 (25, (5, (7, (8, (0, []))))))) (ev_ct 6 (ev_ct 5 (pr_q 5 (7, (6, (0, (0, (0, [])))))) (pr_q 6 (6, (7, (1, (0, (0, []))))))) (pr_q 7 (35, (10, (157, (1, (0, [0, 0])))))))) (ev_ct 14 (ev_ct 13 (ev_ct 10 (pr_q 10 (16, (13, (0, (13, (17, [])))))) (pr_q 13 (1, (14, (1, (0, (0, []))))))) (pr_q 14 (20, (18, (0, (0, (0, []))))))) (ev_ct 18 (ev_ct 17 (pr_q 17 (1, (18, (0, (0, (0, [])))))) (pr_q 18 (1, (19, (1, (0, (0, []))))))) (pr_q 19 (35, (22, (76, (3, (8, [0, 0]))))))))) (ev_ct 29 (ev_ct 26 (ev_ct 25 (ev_ct 22 (pr_q 22 (16, (25, (0, (27, (25, [])))))) (pr_q 25 (1, (26, (0, (0, (0, []))))))) (pr_q 26 (39, (27, (0, (0, (0, []))))))) (ev_ct 28 (ev_ct 27 (pr_q 27 (1, (28, (0, (0, (0, [])))))) (pr_q 28 (9, (29, (2, (0, (0, []))))))) (pr_q 29 (1, (30, (0, (0, (0, [])))))))) (ev_ct 32 (ev_ct 31 (ev_ct 30 (pr_q 30 (9, (31, (3, (0, (0, [])))))) (pr_q 31 (6, (32, (3, (0, (0, []))))))) (pr_q 32 (7, (33, (0, (0, (0, []))))))) (ev_ct 36 (ev_ct 33 (pr_q 33 (24, (36, (7, (0, (0, [])))))) (pr_q 36 (1, (37, (0, (0, (0, []))))))) (pr_q 37 (27, (38, (20, (20, (0, [])))))))))) (ev_ct 59 (ev_ct 47 (ev_ct 42 (ev_ct 41 (ev_ct 38 (pr_q 38 (17, (41, (1, (41, (77, [])))))) (pr_q 41 (6, (42, (2, (0, (0, []))))))) (pr_q 42 (7, (43, (0, (0, (0, []))))))) (ev_ct 44 (ev_ct 43 (pr_q 43 (6, (44, (3, (0, (0, [])))))) (pr_q 44 (35, (47, (83, (2, (8, [0, 0]))))))) (pr_q 47 (16, (50, (0, (68, (50, [])))))))) (ev_ct 54 (ev_ct 51 (ev_ct 50 (pr_q 50 (7, (51, (0, (0, (0, [])))))) (pr_q 51 (24, (54, (7, (0, (0, []))))))) (pr_q 54 (1, (57, (180, (0, (0, []))))))) (ev_ct 58 (ev_ct 57 (pr_q 57 (6, (58, (3, (0, (0, [])))))) (pr_q 58 (13, (59, (0, (0, (0, []))))))) (pr_q 59 (27, (60, (20, (20, (0, []))))))))) (ev_ct 69 (ev_ct 64 (ev_ct 61 (ev_ct 60 (pr_q 60 (6, (61, (1, (0, (0, [])))))) (pr_q 61 (17, (64, (0, (64, (68, []))))))) (pr_q 64 (1, (65, (1, (0, (0, []))))))) (ev_ct 68 (ev_ct 65 (pr_q 65 (20, (69, (0, (0, (0, [])))))) (pr_q 68 (1, (69, (0, (0, (0, []))))))) (pr_q 69 (13, (70, (0, (0, (0, [])))))))) (ev_ct 74 (ev_ct 71 (ev_ct 70 (pr_q 70 (9, (71, (2, (0, (0, [])))))) (pr_q 71 (12, (74, (3, (1, (0, []))))))) (pr_q 74 (20, (31, (0, (0, (0, []))))))) (ev_ct 77 (pr_q 77 (6, (78, (2, (0, (0, [])))))) (pr_q 78 (39, (79, (0, (0, (0, [])))))))))))
def pr_y193 : MethodName := ⟨"OrphanTreeModel", "ofGroup", "(I)I"⟩
def pr_i193 : ev_Im := (pr_y193, (prog_9_method_121_code, ((some .int), [])))
noncomputable def pr_m193 : ev_M := (4, (0, (0, ([], pr_c193))))
/-- OrphanTreeModel.nextTestament(I)I -/
noncomputable def pr_c194 : Nat → ev_E := (ev_ct 8 (ev_ct 2 (ev_ct 1 (ev_ct 0 (pr_q 0 (7, (1, (0, (0, (0, [])))))) (pr_q 1 (6, (2, (1, (0, (0, []))))))) (pr_q 2 (35, (5, (135, (2, (8, [0, 0]))))))) (ev_ct 5 (pr_q 5 (16, (8, (0, (12, (8, [])))))) (pr_q 8 (1, (9, (0, (0, (0, [])))))))) (ev_ct 13 (ev_ct 12 (ev_ct 9 (pr_q 9 (20, (17, (0, (0, (0, [])))))) (pr_q 12 (7, (13, (0, (0, (0, []))))))) (pr_q 13 (6, (14, (1, (0, (0, []))))))) (ev_ct 14 (pr_q 14 (35, (17, (102, (2, (8, [0, 0])))))) (pr_q 17 (39, (18, (0, (0, (0, [])))))))))
def pr_y194 : MethodName := ⟨"OrphanTreeModel", "nextTestament", "(I)I"⟩
def pr_i194 : ev_Im := (pr_y194, (prog_9_method_122_code, ((some .int), [])))
noncomputable def pr_m194 : ev_M := (2, (0, (0, ([], pr_c194))))
/-- OrphanTreeModel.exited(I)I -/
noncomputable def pr_c195 : Nat → ev_E := (ev_ct 14 (ev_ct 7 (ev_ct 2 (ev_ct 1 (ev_ct 0 (pr_q 0 (7, (1, (0, (0, (0, [])))))) (pr_q 1 (1, (2, (0, (0, (0, []))))))) (pr_q 2 (25, (5, (7, (8, (0, []))))))) (ev_ct 6 (ev_ct 5 (pr_q 5 (7, (6, (0, (0, (0, [])))))) (pr_q 6 (6, (7, (1, (0, (0, []))))))) (pr_q 7 (1, (8, (0, (0, (0, [])))))))) (ev_ct 12 (ev_ct 9 (ev_ct 8 (pr_q 8 (7, (9, (0, (0, (0, [])))))) (pr_q 9 (24, (12, (7, (0, (0, []))))))) (pr_q 12 (1, (13, (1, (0, (0, []))))))) (ev_ct 13 (pr_q 13 (27, (14, (20, (20, (0, [])))))) (pr_q 14 (1, (15, (1, (0, (0, []))))))))) (ev_ct 27 (ev_ct 19 (ev_ct 16 (ev_ct 15 (pr_q 15 (14, (16, (0, (0, (0, [])))))) (pr_q 16 (35, (19, (75, (3, (0, [0, 0]))))))) (pr_q 19 (16, (22, (0, (22, (26, []))))))) (ev_ct 23 (ev_ct 22 (pr_q 22 (1, (23, (1, (0, (0, [])))))) (pr_q 23 (20, (27, (0, (0, (0, []))))))) (pr_q 27 (1, (28, (1, (0, (0, [])))))))) (ev_ct 34 (ev_ct 31 (ev_ct 28 (pr_q 28 (35, (31, (76, (3, (8, [0, 0])))))) (pr_q 31 (16, (34, (0, (38, (34, []))))))) (pr_q 34 (1, (35, (0, (0, (0, []))))))) (ev_ct 35 (pr_q 35 (20, (47, (0, (0, (0, [])))))) (pr_q 47 (39, (48, (0, (0, (0, []))))))))))
def pr_y195 : MethodName := ⟨"OrphanTreeModel", "exited", "(I)I"⟩
def pr_i195 : ev_Im := (pr_y195, (prog_9_method_123_code, ((some .int), [])))
noncomputable def pr_m195 : ev_M := (2, (0, (0, ([], pr_c195))))
/-- OrphanTreeModel.meanDepth()D -/
noncomputable def pr_c196 : Nat → ev_E := (ev_ct 22 (ev_ct 10 (ev_ct 6 (ev_ct 2 (ev_ct 1 (ev_ct 0 (pr_q 0 (7, (1, (0, (0, (0, [])))))) (pr_q 1 (1, (2, (0, (0, (0, []))))))) (pr_q 2 (25, (5, (7, (8, (0, []))))))) (ev_ct 5 (pr_q 5 (1, (6, (0, (0, (0, [])))))) (pr_q 6 (9, (7, (1, (0, (0, [])))))))) (ev_ct 8 (ev_ct 7 (pr_q 7 (1, (8, (0, (0, (0, [])))))) (pr_q 8 (9, (9, (2, (0, (0, []))))))) (ev_ct 9 (pr_q 9 (6, (10, (2, (0, (0, [])))))) (pr_q 10 (7, (11, (0, (0, (0, []))))))))) (ev_ct 16 (ev_ct 14 (ev_ct 11 (pr_q 11 (24, (14, (7, (0, (0, [])))))) (pr_q 14 (1, (15, (0, (0, (0, []))))))) (ev_ct 15 (pr_q 15 (27, (16, (20, (20, (0, [])))))) (pr_q 16 (17, (19, (1, (19, (45, [])))))))) (ev_ct 20 (ev_ct 19 (pr_q 19 (6, (20, (1, (0, (0, [])))))) (pr_q 20 (7, (21, (0, (0, (0, []))))))) (ev_ct 21 (pr_q 21 (6, (22, (2, (0, (0, [])))))) (pr_q 22 (35, (25, (83, (2, (8, [0, 0])))))))))) (ev_ct 39 (ev_ct 30 (ev_ct 28 (ev_ct 25 (pr_q 25 (16, (28, (0, (36, (28, [])))))) (pr_q 28 (7, (29, (0, (0, (0, []))))))) (ev_ct 29 (pr_q 29 (6, (30, (2, (0, (0, [])))))) (pr_q 30 (35, (33, (89, (2, (8, [0, 0])))))))) (ev_ct 37 (ev_ct 33 (pr_q 33 (20, (37, (0, (0, (0, [])))))) (pr_q 37 (13, (38, (0, (0, (0, []))))))) (ev_ct 38 (pr_q 38 (9, (39, (1, (0, (0, [])))))) (pr_q 39 (12, (42, (2, (1, (0, []))))))))) (ev_ct 47 (ev_ct 45 (ev_ct 42 (pr_q 42 (20, (9, (0, (0, (0, [])))))) (pr_q 45 (6, (46, (1, (0, (0, []))))))) (ev_ct 46 (pr_q 46 (43, (47, (2, (0, (0, [])))))) (pr_q 47 (7, (48, (0, (0, (0, [])))))))) (ev_ct 51 (ev_ct 48 (pr_q 48 (35, (51, (90, (1, (8, [0, 0])))))) (pr_q 51 (43, (52, (2, (0, (0, []))))))) (ev_ct 52 (pr_q 52 (44, (53, (0, (0, (0, [])))))) (pr_q 53 (41, (54, (2, (0, (0, [])))))))))))
def pr_y196 : MethodName := ⟨"OrphanTreeModel", "meanDepth", "()D"⟩
def pr_i196 : ev_Im := (pr_y196, (prog_9_method_124_code, ((some .double), [])))
noncomputable def pr_m196 : ev_M := (3, (0, (0, ([], pr_c196))))
/-- OrphanTreeModel.rootShare()F -/
noncomputable def pr_c197 : Nat → ev_E := (ev_ct 9 (ev_ct 2 (ev_ct 1 (ev_ct 0 (pr_q 0 (7, (1, (0, (0, (0, [])))))) (pr_q 1 (1, (2, (0, (0, (0, []))))))) (pr_q 2 (25, (5, (7, (8, (0, []))))))) (ev_ct 6 (ev_ct 5 (pr_q 5 (7, (6, (0, (0, (0, [])))))) (pr_q 6 (24, (9, (7, (0, (0, []))))))) (pr_q 9 (1, (10, (2, (0, (0, [])))))))) (ev_ct 14 (ev_ct 11 (ev_ct 10 (pr_q 10 (27, (11, (20, (20, (0, [])))))) (pr_q 11 (16, (14, (0, (14, (18, []))))))) (pr_q 14 (3, (15, (1, (0, (0, []))))))) (ev_ct 15 (pr_q 15 (20, (33, (0, (0, (0, [])))))) (pr_q 33 (41, (34, (1, (0, (0, [])))))))))
def pr_y197 : MethodName := ⟨"OrphanTreeModel", "rootShare", "()F"⟩
def pr_i197 : ev_Im := (pr_y197, (prog_9_method_125_code, ((some .float), [])))
noncomputable def pr_m197 : ev_M := (1, (0, (0, ([], pr_c197))))
/-- OrphanTreeModel.readShare()D -/
noncomputable def pr_c198 : Nat → ev_E := (ev_ct 9 (ev_ct 2 (ev_ct 1 (ev_ct 0 (pr_q 0 (7, (1, (0, (0, (0, [])))))) (pr_q 1 (1, (2, (0, (0, (0, []))))))) (pr_q 2 (25, (5, (7, (8, (0, []))))))) (ev_ct 6 (ev_ct 5 (pr_q 5 (7, (6, (0, (0, (0, [])))))) (pr_q 6 (24, (9, (7, (0, (0, []))))))) (pr_q 9 (1, (10, (1, (0, (0, [])))))))) (ev_ct 14 (ev_ct 11 (ev_ct 10 (pr_q 10 (27, (11, (20, (20, (0, [])))))) (pr_q 11 (16, (14, (0, (14, (18, []))))))) (pr_q 14 (3, (15, (2, (0, (0, []))))))) (ev_ct 15 (pr_q 15 (20, (32, (0, (0, (0, [])))))) (pr_q 32 (41, (33, (2, (0, (0, [])))))))))
def pr_y198 : MethodName := ⟨"OrphanTreeModel", "readShare", "()D"⟩
def pr_i198 : ev_Im := (pr_y198, (prog_9_method_126_code, ((some .double), [])))
noncomputable def pr_m198 : ev_M := (1, (0, (0, ([], pr_c198))))
/-- OrphanTreeModel.testamentsBelow(I)I -/
noncomputable def pr_c199 : Nat → ev_E := (ev_ct 18 (ev_ct 9 (ev_ct 2 (ev_ct 1 (ev_ct 0 (pr_q 0 (7, (1, (0, (0, (0, [])))))) (pr_q 1 (6, (2, (1, (0, (0, []))))))) (pr_q 2 (35, (5, (135, (2, (8, [0, 0]))))))) (ev_ct 8 (ev_ct 5 (pr_q 5 (16, (8, (0, (8, (16, [])))))) (pr_q 8 (7, (9, (0, (0, (0, []))))))) (pr_q 9 (6, (10, (1, (0, (0, [])))))))) (ev_ct 16 (ev_ct 13 (ev_ct 10 (pr_q 10 (35, (13, (83, (2, (8, [0, 0])))))) (pr_q 13 (16, (16, (0, (16, (18, []))))))) (pr_q 16 (1, (17, (0, (0, (0, []))))))) (ev_ct 17 (pr_q 17 (39, (18, (0, (0, (0, [])))))) (pr_q 18 (1, (19, (0, (0, (0, []))))))))) (ev_ct 24 (ev_ct 21 (ev_ct 20 (ev_ct 19 (pr_q 19 (9, (20, (2, (0, (0, [])))))) (pr_q 20 (1, (21, (1, (0, (0, []))))))) (pr_q 21 (9, (22, (3, (0, (0, []))))))) (ev_ct 23 (ev_ct 22 (pr_q 22 (6, (23, (3, (0, (0, [])))))) (pr_q 23 (7, (24, (0, (0, (0, []))))))) (pr_q 24 (24, (27, (7, (0, (0, [])))))))) (ev_ct 29 (ev_ct 28 (ev_ct 27 (pr_q 27 (1, (28, (0, (0, (0, [])))))) (pr_q 28 (27, (29, (20, (20, (0, []))))))) (pr_q 29 (17, (32, (1, (32, (69, []))))))) (ev_ct 69 (pr_q 69 (6, (70, (2, (0, (0, [])))))) (pr_q 70 (39, (71, (0, (0, (0, []))))))))))
def pr_y199 : MethodName := ⟨"OrphanTreeModel", "testamentsBelow", "(I)I"⟩
def pr_i199 : ev_Im := (pr_y199, (prog_9_method_127_code, ((some .int), [])))
noncomputable def pr_m199 : ev_M := (4, (0, (0, ([], pr_c199))))
/-- OrphanTreeModel.roomBelow(I)I -/
noncomputable def pr_c200 : Nat → ev_E := (ev_ct 18 (ev_ct 9 (ev_ct 2 (ev_ct 1 (ev_ct 0 (pr_q 0 (7, (1, (0, (0, (0, [])))))) (pr_q 1 (6, (2, (1, (0, (0, []))))))) (pr_q 2 (35, (5, (135, (2, (8, [0, 0]))))))) (ev_ct 8 (ev_ct 5 (pr_q 5 (16, (8, (0, (8, (16, [])))))) (pr_q 8 (7, (9, (0, (0, (0, []))))))) (pr_q 9 (6, (10, (1, (0, (0, [])))))))) (ev_ct 16 (ev_ct 13 (ev_ct 10 (pr_q 10 (35, (13, (83, (2, (8, [0, 0])))))) (pr_q 13 (16, (16, (0, (16, (18, []))))))) (pr_q 16 (1, (17, (0, (0, (0, []))))))) (ev_ct 17 (pr_q 17 (39, (18, (0, (0, (0, [])))))) (pr_q 18 (1, (19, (0, (0, (0, []))))))))) (ev_ct 24 (ev_ct 21 (ev_ct 20 (ev_ct 19 (pr_q 19 (9, (20, (2, (0, (0, [])))))) (pr_q 20 (1, (21, (1, (0, (0, []))))))) (pr_q 21 (9, (22, (3, (0, (0, []))))))) (ev_ct 23 (ev_ct 22 (pr_q 22 (6, (23, (3, (0, (0, [])))))) (pr_q 23 (7, (24, (0, (0, (0, []))))))) (pr_q 24 (24, (27, (7, (0, (0, [])))))))) (ev_ct 29 (ev_ct 28 (ev_ct 27 (pr_q 27 (1, (28, (0, (0, (0, [])))))) (pr_q 28 (27, (29, (20, (20, (0, []))))))) (pr_q 29 (17, (32, (1, (32, (67, []))))))) (ev_ct 67 (pr_q 67 (6, (68, (2, (0, (0, [])))))) (pr_q 68 (39, (69, (0, (0, (0, []))))))))))
def pr_y200 : MethodName := ⟨"OrphanTreeModel", "roomBelow", "(I)I"⟩
def pr_i200 : ev_Im := (pr_y200, (prog_9_method_128_code, ((some .int), [])))
noncomputable def pr_m200 : ev_M := (4, (0, (0, ([], pr_c200))))
/-- OrphanTreeModel.mostAdopted()I -/
noncomputable def pr_c201 : Nat → ev_E := (ev_ct 9 (ev_ct 5 (ev_ct 1 (ev_ct 0 (pr_q 0 (7, (1, (0, (0, (0, [])))))) (pr_q 1 (1, (2, (0, (0, (0, []))))))) (ev_ct 2 (pr_q 2 (25, (5, (7, (8, (0, [])))))) (pr_q 5 (1, (6, (4294967295, (0, (0, [])))))))) (ev_ct 7 (ev_ct 6 (pr_q 6 (9, (7, (1, (0, (0, [])))))) (pr_q 7 (1, (8, (1, (0, (0, []))))))) (ev_ct 8 (pr_q 8 (9, (9, (2, (0, (0, [])))))) (pr_q 9 (6, (10, (2, (0, (0, []))))))))) (ev_ct 15 (ev_ct 11 (ev_ct 10 (pr_q 10 (7, (11, (0, (0, (0, [])))))) (pr_q 11 (24, (14, (7, (0, (0, []))))))) (ev_ct 14 (pr_q 14 (1, (15, (0, (0, (0, [])))))) (pr_q 15 (27, (16, (20, (20, (0, [])))))))) (ev_ct 67 (ev_ct 16 (pr_q 16 (17, (19, (1, (19, (67, [])))))) (pr_q 67 (6, (68, (1, (0, (0, []))))))) (pr_q 68 (39, (69, (0, (0, (0, [])))))))))
def pr_y201 : MethodName := ⟨"OrphanTreeModel", "mostAdopted", "()I"⟩
def pr_i201 : ev_Im := (pr_y201, (prog_9_method_129_code, ((some .int), [])))
noncomputable def pr_m201 : ev_M := (3, (0, (0, ([], pr_c201))))
/-- OrphanTreeModel.heaviest(I)I -/
noncomputable def pr_c202 : Nat → ev_E := (ev_ct 12 (ev_ct 8 (ev_ct 2 (ev_ct 1 (ev_ct 0 (pr_q 0 (7, (1, (0, (0, (0, [])))))) (pr_q 1 (6, (2, (1, (0, (0, []))))))) (pr_q 2 (35, (5, (135, (2, (8, [0, 0]))))))) (ev_ct 5 (pr_q 5 (16, (8, (0, (10, (8, [])))))) (pr_q 8 (1, (9, (0, (0, (0, [])))))))) (ev_ct 10 (ev_ct 9 (pr_q 9 (39, (10, (0, (0, (0, [])))))) (pr_q 10 (1, (11, (4294967295, (0, (0, []))))))) (ev_ct 11 (pr_q 11 (9, (12, (2, (0, (0, [])))))) (pr_q 12 (1, (13, (1, (0, (0, []))))))))) (ev_ct 19 (ev_ct 15 (ev_ct 14 (ev_ct 13 (pr_q 13 (9, (14, (3, (0, (0, [])))))) (pr_q 14 (6, (15, (3, (0, (0, []))))))) (pr_q 15 (7, (16, (0, (0, (0, []))))))) (ev_ct 16 (pr_q 16 (24, (19, (7, (0, (0, [])))))) (pr_q 19 (1, (20, (0, (0, (0, [])))))))) (ev_ct 21 (ev_ct 20 (pr_q 20 (27, (21, (20, (20, (0, [])))))) (pr_q 21 (17, (24, (1, (24, (60, []))))))) (ev_ct 60 (pr_q 60 (6, (61, (2, (0, (0, [])))))) (pr_q 61 (39, (62, (0, (0, (0, []))))))))))
def pr_y202 : MethodName := ⟨"OrphanTreeModel", "heaviest", "(I)I"⟩
def pr_i202 : ev_Im := (pr_y202, (prog_9_method_130_code, ((some .int), [])))
noncomputable def pr_m202 : ev_M := (4, (0, (0, ([], pr_c202))))
/-- OrphanTreeModel.groupsBelow(I)I -/
noncomputable def pr_c203 : Nat → ev_E := (ev_ct 18 (ev_ct 9 (ev_ct 2 (ev_ct 1 (ev_ct 0 (pr_q 0 (7, (1, (0, (0, (0, [])))))) (pr_q 1 (6, (2, (1, (0, (0, []))))))) (pr_q 2 (35, (5, (135, (2, (8, [0, 0]))))))) (ev_ct 8 (ev_ct 5 (pr_q 5 (16, (8, (0, (8, (16, [])))))) (pr_q 8 (7, (9, (0, (0, (0, []))))))) (pr_q 9 (6, (10, (1, (0, (0, [])))))))) (ev_ct 16 (ev_ct 13 (ev_ct 10 (pr_q 10 (35, (13, (83, (2, (8, [0, 0])))))) (pr_q 13 (16, (16, (0, (16, (18, []))))))) (pr_q 16 (1, (17, (0, (0, (0, []))))))) (ev_ct 17 (pr_q 17 (39, (18, (0, (0, (0, [])))))) (pr_q 18 (1, (19, (0, (0, (0, []))))))))) (ev_ct 24 (ev_ct 21 (ev_ct 20 (ev_ct 19 (pr_q 19 (9, (20, (2, (0, (0, [])))))) (pr_q 20 (1, (21, (1, (0, (0, []))))))) (pr_q 21 (9, (22, (3, (0, (0, []))))))) (ev_ct 23 (ev_ct 22 (pr_q 22 (6, (23, (3, (0, (0, [])))))) (pr_q 23 (7, (24, (0, (0, (0, []))))))) (pr_q 24 (24, (27, (7, (0, (0, [])))))))) (ev_ct 29 (ev_ct 28 (ev_ct 27 (pr_q 27 (1, (28, (0, (0, (0, [])))))) (pr_q 28 (27, (29, (20, (20, (0, []))))))) (pr_q 29 (17, (32, (1, (32, (74, []))))))) (ev_ct 74 (pr_q 74 (6, (75, (2, (0, (0, [])))))) (pr_q 75 (39, (76, (0, (0, (0, []))))))))))
def pr_y203 : MethodName := ⟨"OrphanTreeModel", "groupsBelow", "(I)I"⟩
def pr_i203 : ev_Im := (pr_y203, (prog_9_method_131_code, ((some .int), [])))
noncomputable def pr_m203 : ev_M := (4, (0, (0, ([], pr_c203))))
/-- OrphanTreeModel.strangers(I)I -/
noncomputable def pr_c204 : Nat → ev_E := (ev_ct 12 (ev_ct 8 (ev_ct 2 (ev_ct 1 (ev_ct 0 (pr_q 0 (7, (1, (0, (0, (0, [])))))) (pr_q 1 (6, (2, (1, (0, (0, []))))))) (pr_q 2 (35, (5, (135, (2, (8, [0, 0]))))))) (ev_ct 5 (pr_q 5 (16, (8, (0, (10, (8, [])))))) (pr_q 8 (1, (9, (0, (0, (0, [])))))))) (ev_ct 10 (ev_ct 9 (pr_q 9 (39, (10, (0, (0, (0, [])))))) (pr_q 10 (1, (11, (0, (0, (0, []))))))) (ev_ct 11 (pr_q 11 (9, (12, (2, (0, (0, [])))))) (pr_q 12 (1, (13, (1, (0, (0, []))))))))) (ev_ct 19 (ev_ct 15 (ev_ct 14 (ev_ct 13 (pr_q 13 (9, (14, (3, (0, (0, [])))))) (pr_q 14 (6, (15, (3, (0, (0, []))))))) (pr_q 15 (7, (16, (0, (0, (0, []))))))) (ev_ct 16 (pr_q 16 (24, (19, (7, (0, (0, [])))))) (pr_q 19 (1, (20, (0, (0, (0, [])))))))) (ev_ct 21 (ev_ct 20 (pr_q 20 (27, (21, (20, (20, (0, [])))))) (pr_q 21 (17, (24, (1, (24, (71, []))))))) (ev_ct 71 (pr_q 71 (6, (72, (2, (0, (0, [])))))) (pr_q 72 (39, (73, (0, (0, (0, []))))))))))
def pr_y204 : MethodName := ⟨"OrphanTreeModel", "strangers", "(I)I"⟩
def pr_i204 : ev_Im := (pr_y204, (prog_9_method_132_code, ((some .int), [])))
noncomputable def pr_m204 : ev_M := (4, (0, (0, ([], pr_c204))))
/-- OrphanTreeModel.write(I)V -/
noncomputable def pr_c205 : Nat → ev_E := (ev_ct 10 (ev_ct 5 (ev_ct 1 (ev_ct 0 (pr_q 0 (7, (1, (0, (0, (0, [])))))) (pr_q 1 (24, (4, (7, (22, (0, []))))))) (ev_ct 4 (pr_q 4 (7, (5, (0, (0, (0, [])))))) (pr_q 5 (24, (8, (7, (23, (0, [])))))))) (ev_ct 9 (ev_ct 8 (pr_q 8 (6, (9, (1, (0, (0, [])))))) (pr_q 9 (28, (10, (0, (0, (0, []))))))) (pr_q 10 (7, (11, (0, (0, (0, [])))))))) (ev_ct 15 (ev_ct 12 (ev_ct 11 (pr_q 11 (21, (12, (0, (0, (0, [])))))) (pr_q 12 (24, (15, (7, (23, (0, []))))))) (pr_q 15 (1, (16, (1, (0, (0, []))))))) (ev_ct 17 (ev_ct 16 (pr_q 16 (13, (17, (0, (0, (0, [])))))) (pr_q 17 (25, (20, (7, (23, (0, []))))))) (pr_q 20 (38, (21, (0, (0, (0, [])))))))))
def pr_y205 : MethodName := ⟨"OrphanTreeModel", "write", "(I)V"⟩
def pr_i205 : ev_Im := (pr_y205, (prog_9_method_133_code, (none, [])))
noncomputable def pr_m205 : ev_M := (2, (0, (0, ([], pr_c205))))
/-- OrphanTreeModel.onPath(II)I -/
noncomputable def pr_c206 : Nat → ev_E := (ev_ct 4 (ev_ct 2 (ev_ct 1 (ev_ct 0 (pr_q 0 (6, (1, (1, (0, (0, [])))))) (pr_q 1 (9, (2, (3, (0, (0, []))))))) (pr_q 2 (7, (3, (0, (0, (0, []))))))) (ev_ct 3 (pr_q 3 (6, (4, (3, (0, (0, [])))))) (pr_q 4 (35, (7, (89, (2, (8, [0, 0])))))))) (ev_ct 8 (ev_ct 7 (pr_q 7 (6, (8, (2, (0, (0, [])))))) (pr_q 8 (17, (11, (2, (11, (24, []))))))) (ev_ct 24 (pr_q 24 (6, (25, (3, (0, (0, [])))))) (pr_q 25 (39, (26, (0, (0, (0, [])))))))))
def pr_y206 : MethodName := ⟨"OrphanTreeModel", "onPath", "(II)I"⟩
def pr_i206 : ev_Im := (pr_y206, (prog_9_method_134_code, ((some .int), [])))
noncomputable def pr_m206 : ev_M := (4, (0, (0, ([], pr_c206))))
/-- OrphanTreeModel.writeNumber(I)V -/
noncomputable def pr_c207 : Nat → ev_E := (ev_ct 25 (ev_ct 5 (ev_ct 2 (ev_ct 1 (ev_ct 0 (pr_q 0 (1, (1, (1, (0, (0, [])))))) (pr_q 1 (9, (2, (2, (0, (0, []))))))) (pr_q 2 (6, (3, (1, (0, (0, []))))))) (ev_ct 4 (ev_ct 3 (pr_q 3 (6, (4, (2, (0, (0, [])))))) (pr_q 4 (47, (5, (0, (0, (0, []))))))) (pr_q 5 (1, (7, (9, (0, (0, [])))))))) (ev_ct 19 (ev_ct 18 (ev_ct 7 (pr_q 7 (17, (10, (2, (10, (18, [])))))) (pr_q 18 (6, (19, (2, (0, (0, []))))))) (pr_q 19 (16, (22, (2, (22, (43, []))))))) (ev_ct 23 (ev_ct 22 (pr_q 22 (7, (23, (0, (0, (0, [])))))) (pr_q 23 (1, (25, (48, (0, (0, []))))))) (pr_q 25 (6, (26, (1, (0, (0, []))))))))) (ev_ct 32 (ev_ct 28 (ev_ct 27 (ev_ct 26 (pr_q 26 (6, (27, (2, (0, (0, [])))))) (pr_q 27 (47, (28, (0, (0, (0, []))))))) (pr_q 28 (1, (30, (10, (0, (0, []))))))) (ev_ct 31 (ev_ct 30 (pr_q 30 (47, (31, (1, (0, (0, [])))))) (pr_q 31 (13, (32, (0, (0, (0, []))))))) (pr_q 32 (35, (35, (205, (2, (8, [0, 0])))))))) (ev_ct 38 (ev_ct 36 (ev_ct 35 (pr_q 35 (6, (36, (2, (0, (0, [])))))) (pr_q 36 (1, (38, (10, (0, (0, []))))))) (pr_q 38 (47, (39, (0, (0, (0, []))))))) (ev_ct 40 (ev_ct 39 (pr_q 39 (9, (40, (2, (0, (0, [])))))) (pr_q 40 (20, (18, (0, (0, (0, []))))))) (pr_q 43 (38, (44, (0, (0, (0, []))))))))))
def pr_y207 : MethodName := ⟨"OrphanTreeModel", "writeNumber", "(I)V"⟩
def pr_i207 : ev_Im := (pr_y207, (prog_9_method_135_code, (none, [])))
noncomputable def pr_m207 : ev_M := (3, (0, (0, ([], pr_c207))))
/-- OrphanTreeModel.writeBetween(I)V -/
noncomputable def pr_c208 : Nat → ev_E := (ev_ct 1 (ev_ct 0 (pr_q 0 (7, (1, (0, (0, (0, [])))))) (pr_q 1 (24, (4, (7, (23, (0, []))))))) (ev_ct 4 (pr_q 4 (16, (7, (2, (7, (12, [])))))) (pr_q 12 (38, (13, (0, (0, (0, []))))))))
def pr_y208 : MethodName := ⟨"OrphanTreeModel", "writeBetween", "(I)V"⟩
def pr_i208 : ev_Im := (pr_y208, (prog_9_method_136_code, (none, [])))
noncomputable def pr_m208 : ev_M := (2, (0, (0, ([], pr_c208))))
/-- OrphanTreeModel.writePath(I)V -/
noncomputable def pr_c209 : Nat → ev_E := (ev_ct 14 (ev_ct 4 (ev_ct 2 (ev_ct 1 (ev_ct 0 (pr_q 0 (1, (1, (0, (0, (0, [])))))) (pr_q 1 (9, (2, (2, (0, (0, []))))))) (pr_q 2 (6, (3, (2, (0, (0, []))))))) (ev_ct 3 (pr_q 3 (7, (4, (0, (0, (0, [])))))) (pr_q 4 (6, (5, (1, (0, (0, [])))))))) (ev_ct 11 (ev_ct 8 (ev_ct 5 (pr_q 5 (35, (8, (89, (2, (8, [0, 0])))))) (pr_q 8 (17, (11, (2, (33, (11, []))))))) (pr_q 11 (7, (12, (0, (0, (0, []))))))) (ev_ct 12 (pr_q 12 (1, (14, (47, (0, (0, [])))))) (pr_q 14 (35, (17, (208, (2, (8, [0, 0]))))))))) (ev_ct 21 (ev_ct 19 (ev_ct 18 (ev_ct 17 (pr_q 17 (7, (18, (0, (0, (0, [])))))) (pr_q 18 (7, (19, (0, (0, (0, []))))))) (pr_q 19 (6, (20, (1, (0, (0, []))))))) (ev_ct 20 (pr_q 20 (6, (21, (2, (0, (0, [])))))) (pr_q 21 (35, (24, (206, (3, (8, [0, 0])))))))) (ev_ct 27 (ev_ct 24 (pr_q 24 (35, (27, (207, (2, (8, [0, 0])))))) (pr_q 27 (12, (30, (2, (1, (0, []))))))) (ev_ct 30 (pr_q 30 (20, (2, (0, (0, (0, [])))))) (pr_q 33 (38, (34, (0, (0, (0, []))))))))))
def pr_y209 : MethodName := ⟨"OrphanTreeModel", "writePath", "(I)V"⟩
def pr_i209 : ev_Im := (pr_y209, (prog_9_method_137_code, (none, [])))
noncomputable def pr_m209 : ev_M := (3, (0, (0, ([], pr_c209))))
/-- OrphanTreeModel.writeChildren(I)V -/
noncomputable def pr_c210 : Nat → ev_E := (ev_ct 6 (ev_ct 2 (ev_ct 1 (ev_ct 0 (pr_q 0 (7, (1, (0, (0, (0, [])))))) (pr_q 1 (6, (2, (1, (0, (0, []))))))) (pr_q 2 (1, (3, (0, (0, (0, []))))))) (ev_ct 3 (pr_q 3 (35, (6, (152, (3, (8, [0, 0])))))) (pr_q 6 (9, (7, (2, (0, (0, [])))))))) (ev_ct 8 (ev_ct 7 (pr_q 7 (6, (8, (2, (0, (0, [])))))) (pr_q 8 (1, (9, (4294967295, (0, (0, []))))))) (ev_ct 9 (pr_q 9 (17, (12, (0, (35, (12, [])))))) (pr_q 35 (38, (36, (0, (0, (0, [])))))))))
def pr_y210 : MethodName := ⟨"OrphanTreeModel", "writeChildren", "(I)V"⟩
def pr_i210 : ev_Im := (pr_y210, (prog_9_method_138_code, (none, [])))
noncomputable def pr_m210 : ev_M := (3, (0, (0, ([], pr_c210))))
/-- OrphanTreeModel.writeTree(I)V -/
noncomputable def pr_c211 : Nat → ev_E := (ev_ct 7 (ev_ct 2 (ev_ct 1 (ev_ct 0 (pr_q 0 (7, (1, (0, (0, (0, [])))))) (pr_q 1 (6, (2, (1, (0, (0, []))))))) (pr_q 2 (35, (5, (207, (2, (8, [0, 0]))))))) (ev_ct 6 (ev_ct 5 (pr_q 5 (7, (6, (0, (0, (0, [])))))) (pr_q 6 (6, (7, (1, (0, (0, []))))))) (pr_q 7 (1, (8, (0, (0, (0, [])))))))) (ev_ct 12 (ev_ct 11 (ev_ct 8 (pr_q 8 (35, (11, (152, (3, (8, [0, 0])))))) (pr_q 11 (9, (12, (2, (0, (0, []))))))) (pr_q 12 (6, (13, (2, (0, (0, []))))))) (ev_ct 14 (ev_ct 13 (pr_q 13 (1, (14, (4294967295, (0, (0, [])))))) (pr_q 14 (17, (17, (0, (17, (18, []))))))) (pr_q 17 (38, (18, (0, (0, (0, [])))))))))
def pr_y211 : MethodName := ⟨"OrphanTreeModel", "writeTree", "(I)V"⟩
def pr_i211 : ev_Im := (pr_y211, (prog_9_method_139_code, (none, [])))
noncomputable def pr_m211 : ev_M := (4, (0, (0, ([], pr_c211))))
/-- OrphanTreeModel.writeZombies(I)V -/
noncomputable def pr_c212 : Nat → ev_E := (ev_ct 4 (ev_ct 2 (ev_ct 1 (ev_ct 0 (pr_q 0 (1, (1, (0, (0, (0, [])))))) (pr_q 1 (9, (2, (2, (0, (0, []))))))) (pr_q 2 (6, (3, (2, (0, (0, []))))))) (ev_ct 3 (pr_q 3 (7, (4, (0, (0, (0, [])))))) (pr_q 4 (24, (7, (7, (0, (0, [])))))))) (ev_ct 8 (ev_ct 7 (pr_q 7 (1, (8, (1, (0, (0, [])))))) (pr_q 8 (27, (9, (20, (20, (0, []))))))) (ev_ct 9 (pr_q 9 (17, (12, (1, (12, (72, [])))))) (pr_q 72 (38, (73, (0, (0, (0, [])))))))))
def pr_y212 : MethodName := ⟨"OrphanTreeModel", "writeZombies", "(I)V"⟩
def pr_i212 : ev_Im := (pr_y212, (prog_9_method_140_code, (none, [])))
noncomputable def pr_m212 : ev_M := (4, (0, (0, ([], pr_c212))))
/-- OrphanTreeModel.print(II)I -/
noncomputable def pr_c213 : Nat → ev_E := (ev_ct 70 (ev_ct 36 (ev_ct 18 (ev_ct 9 (ev_ct 2 (ev_ct 1 (ev_ct 0 (pr_q 0 (7, (1, (0, (0, (0, [])))))) (pr_q 1 (6, (2, (1, (0, (0, []))))))) (pr_q 2 (35, (5, (135, (2, (8, [0, 0]))))))) (ev_ct 8 (ev_ct 5 (pr_q 5 (16, (8, (0, (8, (43, [])))))) (pr_q 8 (7, (9, (0, (0, (0, []))))))) (pr_q 9 (6, (10, (2, (0, (0, [])))))))) (ev_ct 12 (ev_ct 11 (ev_ct 10 (pr_q 10 (1, (11, (0, (0, (0, [])))))) (pr_q 11 (1, (12, (4, (0, (0, []))))))) (pr_q 12 (35, (15, (75, (3, (0, [0, 0]))))))) (ev_ct 15 (pr_q 15 (16, (18, (0, (18, (22, [])))))) (pr_q 18 (1, (19, (1, (0, (0, []))))))))) (ev_ct 27 (ev_ct 23 (ev_ct 22 (ev_ct 19 (pr_q 19 (20, (23, (0, (0, (0, [])))))) (pr_q 22 (1, (23, (0, (0, (0, []))))))) (pr_q 23 (1, (24, (2, (0, (0, []))))))) (ev_ct 24 (pr_q 24 (35, (27, (76, (3, (8, [0, 0])))))) (pr_q 27 (16, (30, (0, (30, (43, [])))))))) (ev_ct 32 (ev_ct 31 (ev_ct 30 (pr_q 30 (7, (31, (0, (0, (0, [])))))) (pr_q 31 (7, (32, (0, (0, (0, []))))))) (pr_q 32 (6, (33, (1, (0, (0, []))))))) (ev_ct 33 (pr_q 33 (35, (36, (142, (2, (8, [0, 0])))))) (pr_q 36 (1, (37, (3, (0, (0, [])))))))))) (ev_ct 54 (ev_ct 45 (ev_ct 43 (ev_ct 40 (ev_ct 37 (pr_q 37 (35, (40, (76, (3, (8, [0, 0])))))) (pr_q 40 (16, (43, (0, (45, (43, []))))))) (pr_q 43 (1, (44, (0, (0, (0, []))))))) (ev_ct 44 (pr_q 44 (39, (45, (0, (0, (0, [])))))) (pr_q 45 (7, (46, (0, (0, (0, [])))))))) (ev_ct 50 (ev_ct 47 (ev_ct 46 (pr_q 46 (1, (47, (0, (0, (0, [])))))) (pr_q 47 (25, (50, (7, (23, (0, []))))))) (pr_q 50 (6, (51, (2, (0, (0, []))))))) (ev_ct 51 (pr_q 51 (16, (54, (0, (54, (59, [])))))) (pr_q 54 (7, (55, (0, (0, (0, []))))))))) (ev_ct 61 (ev_ct 59 (ev_ct 56 (ev_ct 55 (pr_q 55 (6, (56, (1, (0, (0, [])))))) (pr_q 56 (35, (59, (209, (2, (8, [0, 0]))))))) (pr_q 59 (6, (60, (2, (0, (0, []))))))) (ev_ct 60 (pr_q 60 (1, (61, (1, (0, (0, [])))))) (pr_q 61 (17, (64, (0, (64, (69, [])))))))) (ev_ct 66 (ev_ct 65 (ev_ct 64 (pr_q 64 (7, (65, (0, (0, (0, [])))))) (pr_q 65 (6, (66, (1, (0, (0, []))))))) (pr_q 66 (35, (69, (210, (2, (8, [0, 0]))))))) (ev_ct 69 (pr_q 69 (6, (70, (2, (0, (0, [])))))) (pr_q 70 (1, (71, (2, (0, (0, []))))))))))) (ev_ct 102 (ev_ct 87 (ev_ct 79 (ev_ct 75 (ev_ct 74 (ev_ct 71 (pr_q 71 (17, (74, (0, (74, (79, [])))))) (pr_q 74 (7, (75, (0, (0, (0, []))))))) (pr_q 75 (6, (76, (1, (0, (0, []))))))) (ev_ct 76 (pr_q 76 (35, (79, (211, (2, (8, [0, 0])))))) (pr_q 79 (1, (80, (0, (0, (0, [])))))))) (ev_ct 82 (ev_ct 81 (ev_ct 80 (pr_q 80 (9, (81, (3, (0, (0, [])))))) (pr_q 81 (6, (82, (3, (0, (0, []))))))) (pr_q 82 (1, (84, (8, (0, (0, []))))))) (ev_ct 84 (pr_q 84 (17, (87, (1, (87, (116, [])))))) (pr_q 87 (6, (88, (2, (0, (0, []))))))))) (ev_ct 96 (ev_ct 92 (ev_ct 89 (ev_ct 88 (pr_q 88 (1, (89, (3, (0, (0, [])))))) (pr_q 89 (17, (92, (0, (92, (116, []))))))) (pr_q 92 (7, (93, (0, (0, (0, []))))))) (ev_ct 93 (pr_q 93 (24, (96, (7, (0, (0, [])))))) (pr_q 96 (1, (98, (11, (0, (0, [])))))))) (ev_ct 100 (ev_ct 99 (ev_ct 98 (pr_q 98 (6, (99, (3, (0, (0, [])))))) (pr_q 99 (13, (100, (0, (0, (0, []))))))) (pr_q 100 (27, (101, (20, (20, (0, []))))))) (ev_ct 101 (pr_q 101 (6, (102, (1, (0, (0, [])))))) (pr_q 102 (17, (105, (0, (105, (110, [])))))))))) (ev_ct 122 (ev_ct 113 (ev_ct 107 (ev_ct 106 (ev_ct 105 (pr_q 105 (7, (106, (0, (0, (0, [])))))) (pr_q 106 (6, (107, (3, (0, (0, []))))))) (pr_q 107 (35, (110, (207, (2, (8, [0, 0]))))))) (ev_ct 110 (pr_q 110 (12, (113, (3, (1, (0, [])))))) (pr_q 113 (20, (81, (0, (0, (0, [])))))))) (ev_ct 118 (ev_ct 117 (ev_ct 116 (pr_q 116 (6, (117, (2, (0, (0, [])))))) (pr_q 117 (1, (118, (4, (0, (0, []))))))) (pr_q 118 (17, (121, (0, (121, (126, []))))))) (ev_ct 121 (pr_q 121 (7, (122, (0, (0, (0, [])))))) (pr_q 122 (6, (123, (1, (0, (0, []))))))))) (ev_ct 133 (ev_ct 127 (ev_ct 126 (ev_ct 123 (pr_q 123 (35, (126, (212, (2, (8, [0, 0])))))) (pr_q 126 (7, (127, (0, (0, (0, []))))))) (pr_q 127 (24, (130, (7, (23, (0, []))))))) (ev_ct 130 (pr_q 130 (16, (133, (0, (133, (139, [])))))) (pr_q 133 (7, (134, (0, (0, (0, [])))))))) (ev_ct 139 (ev_ct 136 (ev_ct 134 (pr_q 134 (1, (136, (45, (0, (0, [])))))) (pr_q 136 (35, (139, (205, (2, (8, [0, 0]))))))) (pr_q 139 (7, (140, (0, (0, (0, []))))))) (ev_ct 140 (pr_q 140 (24, (143, (7, (23, (0, [])))))) (pr_q 143 (39, (144, (0, (0, (0, []))))))))))))
def pr_y213 : MethodName := ⟨"OrphanTreeModel", "print", "(II)I"⟩
def pr_i213 : ev_Im := (pr_y213, (prog_9_method_141_code, ((some .int), [])))
noncomputable def pr_m213 : ev_M := (4, (0, (0, ([], pr_c213))))
/-- OrphanTreeModel.outputByte(I)I -/
noncomputable def pr_c214 : Nat → ev_E := (ev_ct 8 (ev_ct 5 (ev_ct 1 (ev_ct 0 (pr_q 0 (7, (1, (0, (0, (0, [])))))) (pr_q 1 (1, (2, (0, (0, (0, []))))))) (ev_ct 2 (pr_q 2 (25, (5, (7, (8, (0, [])))))) (pr_q 5 (6, (6, (1, (0, (0, [])))))))) (ev_ct 7 (ev_ct 6 (pr_q 6 (1, (7, (0, (0, (0, [])))))) (pr_q 7 (7, (8, (0, (0, (0, []))))))) (pr_q 8 (24, (11, (7, (23, (0, [])))))))) (ev_ct 13 (ev_ct 12 (ev_ct 11 (pr_q 11 (1, (12, (1, (0, (0, [])))))) (pr_q 12 (14, (13, (0, (0, (0, []))))))) (pr_q 13 (35, (16, (75, (3, (0, [0, 0]))))))) (ev_ct 28 (ev_ct 16 (pr_q 16 (16, (19, (0, (28, (19, [])))))) (pr_q 28 (1, (29, (4294967295, (0, (0, []))))))) (pr_q 29 (39, (30, (0, (0, (0, [])))))))))
def pr_y214 : MethodName := ⟨"OrphanTreeModel", "outputByte", "(I)I"⟩
def pr_i214 : ev_Im := (pr_y214, (prog_9_method_142_code, ((some .int), [])))
noncomputable def pr_m214 : ev_M := (2, (0, (0, ([], pr_c214))))
/-- OrphanTreeModel.undo()I -/
noncomputable def pr_c215 : Nat → ev_E := (ev_ct 5 (ev_ct 1 (ev_ct 0 (pr_q 0 (7, (1, (0, (0, (0, [])))))) (pr_q 1 (1, (2, (0, (0, (0, []))))))) (ev_ct 2 (pr_q 2 (25, (5, (7, (8, (0, [])))))) (pr_q 5 (7, (6, (0, (0, (0, [])))))))) (ev_ct 9 (ev_ct 6 (pr_q 6 (24, (9, (7, (6, (0, [])))))) (pr_q 9 (16, (12, (0, (12, (14, []))))))) (ev_ct 12 (pr_q 12 (1, (13, (4294967295, (0, (0, [])))))) (pr_q 13 (39, (14, (0, (0, (0, [])))))))))
def pr_y215 : MethodName := ⟨"OrphanTreeModel", "undo", "()I"⟩
def pr_i215 : ev_Im := (pr_y215, (prog_9_method_143_code, ((some .int), [])))
noncomputable def pr_m215 : ev_M := (1, (0, (0, ([], pr_c215))))
/-- OrphanTreeModel.saveState()I -/
noncomputable def pr_c216 : Nat → ev_E := (ev_ct 14 (ev_ct 6 (ev_ct 2 (ev_ct 1 (ev_ct 0 (pr_q 0 (7, (1, (0, (0, (0, [])))))) (pr_q 1 (1, (2, (0, (0, (0, []))))))) (pr_q 2 (25, (5, (7, (8, (0, []))))))) (ev_ct 5 (pr_q 5 (7, (6, (0, (0, (0, [])))))) (pr_q 6 (24, (9, (7, (0, (0, [])))))))) (ev_ct 10 (ev_ct 9 (pr_q 9 (1, (10, (0, (0, (0, [])))))) (pr_q 10 (7, (11, (0, (0, (0, []))))))) (ev_ct 11 (pr_q 11 (24, (14, (7, (3, (0, [])))))) (pr_q 14 (1, (15, (0, (0, (0, []))))))))) (ev_ct 22 (ev_ct 18 (ev_ct 15 (pr_q 15 (1, (18, (780, (0, (0, [])))))) (pr_q 18 (35, (21, (77, (5, (0, [0, 0]))))))) (ev_ct 21 (pr_q 21 (7, (22, (0, (0, (0, [])))))) (pr_q 22 (1, (23, (1, (0, (0, [])))))))) (ev_ct 26 (ev_ct 23 (pr_q 23 (25, (26, (7, (7, (1, [])))))) (pr_q 26 (7, (27, (0, (0, (0, []))))))) (ev_ct 27 (pr_q 27 (35, (30, (90, (1, (8, [0, 0])))))) (pr_q 30 (39, (31, (0, (0, (0, []))))))))))
def pr_y216 : MethodName := ⟨"OrphanTreeModel", "saveState", "()I"⟩
def pr_i216 : ev_Im := (pr_y216, (prog_9_method_144_code, ((some .int), [])))
noncomputable def pr_m216 : ev_M := (1, (0, (0, ([], pr_c216))))
/-- OrphanTreeModel.restoreState()I -/
noncomputable def pr_c217 : Nat → ev_E := (ev_ct 10 (ev_ct 5 (ev_ct 1 (ev_ct 0 (pr_q 0 (7, (1, (0, (0, (0, [])))))) (pr_q 1 (1, (2, (0, (0, (0, []))))))) (ev_ct 2 (pr_q 2 (25, (5, (7, (8, (0, [])))))) (pr_q 5 (7, (6, (0, (0, (0, [])))))))) (ev_ct 7 (ev_ct 6 (pr_q 6 (7, (7, (0, (0, (0, [])))))) (pr_q 7 (24, (10, (7, (7, (0, []))))))) (pr_q 10 (16, (13, (0, (13, (17, [])))))))) (ev_ct 19 (ev_ct 14 (ev_ct 13 (pr_q 13 (1, (14, (1, (0, (0, [])))))) (pr_q 14 (20, (18, (0, (0, (0, []))))))) (ev_ct 18 (pr_q 18 (1, (19, (1, (0, (0, [])))))) (pr_q 19 (35, (22, (76, (3, (8, [0, 0])))))))) (ev_ct 25 (ev_ct 22 (pr_q 22 (16, (25, (0, (27, (25, [])))))) (pr_q 25 (1, (26, (0, (0, (0, []))))))) (pr_q 26 (39, (27, (0, (0, (0, [])))))))))
def pr_y217 : MethodName := ⟨"OrphanTreeModel", "restoreState", "()I"⟩
def pr_i217 : ev_Im := (pr_y217, (prog_9_method_145_code, ((some .int), [])))
noncomputable def pr_m217 : ev_M := (1, (0, (0, ([], pr_c217))))
/-- OrphanTree$History.<init>()V -/
noncomputable def pr_c218 : Nat → ev_E := (ev_ct 24 (ev_ct 13 (ev_ct 5 (ev_ct 1 (ev_ct 0 (pr_q 0 (7, (1, (0, (0, (0, [])))))) (pr_q 1 (36, (4, (0, (0, (0, []))))))) (ev_ct 4 (pr_q 4 (7, (5, (0, (0, (0, [])))))) (pr_q 5 (1, (7, (10, (0, (0, [])))))))) (ev_ct 10 (ev_ct 7 (pr_q 7 (34, (10, (25, (1, (0, [])))))) (pr_q 10 (25, (13, (0, (0, (2, []))))))) (pr_q 13 (7, (14, (0, (0, (0, [])))))))) (ev_ct 19 (ev_ct 15 (ev_ct 14 (pr_q 14 (1, (15, (0, (0, (0, [])))))) (pr_q 15 (25, (18, (0, (1, (0, []))))))) (ev_ct 18 (pr_q 18 (7, (19, (0, (0, (0, [])))))) (pr_q 19 (1, (20, (0, (0, (0, [])))))))) (ev_ct 23 (ev_ct 20 (pr_q 20 (25, (23, (0, (2, (0, [])))))) (pr_q 23 (1, (24, (0, (0, (0, []))))))) (pr_q 24 (9, (25, (1, (0, (0, []))))))))) (ev_ct 36 (ev_ct 31 (ev_ct 26 (ev_ct 25 (pr_q 25 (6, (26, (1, (0, (0, [])))))) (pr_q 26 (1, (28, (10, (0, (0, []))))))) (ev_ct 28 (pr_q 28 (17, (31, (1, (31, (50, [])))))) (pr_q 31 (7, (32, (0, (0, (0, [])))))))) (ev_ct 35 (ev_ct 32 (pr_q 32 (24, (35, (0, (0, (0, [])))))) (pr_q 35 (6, (36, (1, (0, (0, []))))))) (pr_q 36 (33, (39, (5, (10, (0, [1, 1, 1, 1, 0, 0, 0, 0, 0, 0])))))))) (ev_ct 43 (ev_ct 40 (ev_ct 39 (pr_q 39 (21, (40, (0, (0, (0, [])))))) (pr_q 40 (35, (43, (269, (1, (6, [43, 653]))))))) (pr_q 43 (32, (44, (0, (0, (0, []))))))) (ev_ct 47 (ev_ct 44 (pr_q 44 (12, (47, (1, (1, (0, [])))))) (pr_q 47 (20, (25, (0, (0, (0, []))))))) (pr_q 50 (38, (51, (0, (0, (0, []))))))))))
def pr_y218 : MethodName := ⟨"OrphanTree$History", "<init>", "()V"⟩
def pr_i218 : ev_Im := (pr_y218, (prog_2_method_1_code, (none, [])))
noncomputable def pr_m218 : ev_M := (2, (441, (6640, ([], pr_c218))))
/-- OrphanTree$History.push(LOrphanTree$Tree;)V -/
noncomputable def pr_c219 : Nat → ev_E := (ev_ct 35 (ev_ct 21 (ev_ct 7 (ev_ct 1 (ev_ct 0 (pr_q 0 (7, (1, (0, (0, (0, [])))))) (pr_q 1 (24, (4, (0, (2, (0, []))))))) (ev_ct 4 (pr_q 4 (16, (7, (1, (16, (7, [])))))) (pr_q 7 (7, (8, (0, (0, (0, [])))))))) (ev_ct 11 (ev_ct 8 (pr_q 8 (24, (11, (0, (2, (0, [])))))) (pr_q 11 (1, (13, (10, (0, (0, []))))))) (ev_ct 13 (pr_q 13 (17, (16, (1, (21, (16, [])))))) (pr_q 21 (7, (22, (0, (0, (0, []))))))))) (ev_ct 29 (ev_ct 25 (ev_ct 22 (pr_q 22 (24, (25, (0, (0, (0, [])))))) (pr_q 25 (7, (26, (0, (0, (0, []))))))) (ev_ct 26 (pr_q 26 (24, (29, (0, (2, (0, [])))))) (pr_q 29 (29, (30, (24, (25, (0, [])))))))) (ev_ct 31 (ev_ct 30 (pr_q 30 (7, (31, (1, (0, (0, [])))))) (pr_q 31 (35, (34, (273, (2, (6, [0, 0]))))))) (ev_ct 34 (pr_q 34 (7, (35, (0, (0, (0, [])))))) (pr_q 35 (21, (36, (0, (0, (0, [])))))))))) (ev_ct 50 (ev_ct 41 (ev_ct 39 (ev_ct 36 (pr_q 36 (24, (39, (0, (2, (0, [])))))) (pr_q 39 (1, (40, (1, (0, (0, []))))))) (ev_ct 40 (pr_q 40 (13, (41, (0, (0, (0, [])))))) (pr_q 41 (25, (44, (0, (2, (0, [])))))))) (ev_ct 45 (ev_ct 44 (pr_q 44 (7, (45, (0, (0, (0, [])))))) (pr_q 45 (24, (48, (0, (1, (0, []))))))) (ev_ct 48 (pr_q 48 (1, (50, (10, (0, (0, [])))))) (pr_q 50 (17, (53, (1, (53, (63, []))))))))) (ev_ct 58 (ev_ct 54 (ev_ct 53 (pr_q 53 (7, (54, (0, (0, (0, [])))))) (pr_q 54 (21, (55, (0, (0, (0, []))))))) (ev_ct 55 (pr_q 55 (24, (58, (0, (1, (0, [])))))) (pr_q 58 (1, (59, (1, (0, (0, [])))))))) (ev_ct 60 (ev_ct 59 (pr_q 59 (13, (60, (0, (0, (0, [])))))) (pr_q 60 (25, (63, (0, (1, (0, []))))))) (pr_q 63 (38, (64, (0, (0, (0, []))))))))))
def pr_y219 : MethodName := ⟨"OrphanTree$History", "push", "(LOrphanTree$Tree;)V"⟩
def pr_i219 : ev_Im := (pr_y219, (prog_2_method_2_code, (none, [])))
noncomputable def pr_m219 : ev_M := (2, (0, (0, ([], pr_c219))))
/-- OrphanTree$History.pop(LOrphanTree$Tree;)Z -/
noncomputable def pr_c220 : Nat → ev_E := (ev_ct 4 (ev_ct 1 (ev_ct 0 (pr_q 0 (7, (1, (0, (0, (0, [])))))) (pr_q 1 (24, (4, (0, (1, (0, []))))))) (pr_q 4 (16, (7, (0, (7, (9, []))))))) (ev_ct 7 (pr_q 7 (1, (8, (0, (0, (0, [])))))) (pr_q 8 (39, (9, (1, (0, (0, []))))))))
def pr_y220 : MethodName := ⟨"OrphanTree$History", "pop", "(LOrphanTree$Tree;)Z"⟩
def pr_i220 : ev_Im := (pr_y220, (prog_2_method_3_code, ((some .boolean), [])))
noncomputable def pr_m220 : ev_M := (2, (0, (0, ([], pr_c220))))
/-- OrphanTree$Input.<init>()V -/
noncomputable def pr_c221 : Nat → ev_E := (ev_ct 8 (ev_ct 4 (ev_ct 1 (ev_ct 0 (pr_q 0 (7, (1, (0, (0, (0, [])))))) (pr_q 1 (36, (4, (0, (0, (0, []))))))) (pr_q 4 (7, (5, (0, (0, (0, []))))))) (ev_ct 5 (pr_q 5 (1, (8, (500, (0, (0, [])))))) (pr_q 8 (34, (10, (21, (0, (0, [])))))))) (ev_ct 14 (ev_ct 13 (ev_ct 10 (pr_q 10 (25, (13, (1, (0, (2, [])))))) (pr_q 13 (7, (14, (0, (0, (0, []))))))) (pr_q 14 (1, (15, (0, (0, (0, []))))))) (ev_ct 15 (pr_q 15 (25, (18, (1, (1, (0, [])))))) (pr_q 18 (38, (19, (0, (0, (0, [])))))))))
def pr_y221 : MethodName := ⟨"OrphanTree$Input", "<init>", "()V"⟩
def pr_i221 : ev_Im := (pr_y221, (prog_3_method_1_code, (none, [])))
noncomputable def pr_m221 : ev_M := (1, (1, (500, ([], pr_c221))))
/-- OrphanTree$Input.append(I)V -/
noncomputable def pr_c222 : Nat → ev_E := (ev_ct 29 (ev_ct 14 (ev_ct 4 (ev_ct 2 (ev_ct 0 (pr_q 0 (1, (2, (24, (0, (0, [])))))) (pr_q 2 (9, (3, (2, (0, (0, []))))))) (ev_ct 3 (pr_q 3 (6, (4, (2, (0, (0, [])))))) (pr_q 4 (16, (7, (1, (53, (7, [])))))))) (ev_ct 8 (ev_ct 7 (pr_q 7 (7, (8, (0, (0, (0, [])))))) (pr_q 8 (24, (11, (1, (1, (0, []))))))) (ev_ct 11 (pr_q 11 (16, (14, (1, (47, (14, [])))))) (pr_q 14 (7, (15, (0, (0, (0, []))))))))) (ev_ct 24 (ev_ct 18 (ev_ct 15 (pr_q 15 (24, (18, (1, (1, (0, [])))))) (pr_q 18 (1, (21, (500, (0, (0, []))))))) (ev_ct 21 (pr_q 21 (17, (24, (1, (24, (47, [])))))) (pr_q 24 (7, (25, (0, (0, (0, [])))))))) (ev_ct 28 (ev_ct 25 (pr_q 25 (24, (28, (1, (0, (0, [])))))) (pr_q 28 (7, (29, (0, (0, (0, []))))))) (pr_q 29 (24, (32, (1, (1, (0, []))))))))) (ev_ct 38 (ev_ct 35 (ev_ct 33 (ev_ct 32 (pr_q 32 (6, (33, (1, (0, (0, [])))))) (pr_q 33 (6, (34, (2, (0, (0, []))))))) (ev_ct 34 (pr_q 34 (15, (35, (5, (0, (0, [])))))) (pr_q 35 (43, (36, (5, (0, (0, [])))))))) (ev_ct 37 (ev_ct 36 (pr_q 36 (30, (37, (0, (0, (0, [])))))) (pr_q 37 (7, (38, (0, (0, (0, []))))))) (pr_q 38 (21, (39, (0, (0, (0, [])))))))) (ev_ct 44 (ev_ct 42 (ev_ct 39 (pr_q 39 (24, (42, (1, (1, (0, [])))))) (pr_q 42 (1, (43, (1, (0, (0, []))))))) (ev_ct 43 (pr_q 43 (13, (44, (0, (0, (0, [])))))) (pr_q 44 (25, (47, (1, (1, (0, [])))))))) (ev_ct 50 (ev_ct 47 (pr_q 47 (12, (50, (2, (4294967288, (0, [])))))) (pr_q 50 (20, (3, (0, (0, (0, []))))))) (pr_q 53 (38, (54, (0, (0, (0, []))))))))))
def pr_y222 : MethodName := ⟨"OrphanTree$Input", "append", "(I)V"⟩
def pr_i222 : ev_Im := (pr_y222, (prog_3_method_2_code, (none, [])))
noncomputable def pr_m222 : ev_M := (3, (0, (0, ([], pr_c222))))
/-- OrphanTree$Input.at(I)I -/
noncomputable def pr_c223 : Nat → ev_E := (ev_ct 6 (ev_ct 4 (ev_ct 1 (ev_ct 0 (pr_q 0 (6, (1, (1, (0, (0, [])))))) (pr_q 1 (16, (4, (1, (19, (4, []))))))) (pr_q 4 (6, (5, (1, (0, (0, []))))))) (ev_ct 5 (pr_q 5 (7, (6, (0, (0, (0, [])))))) (pr_q 6 (24, (9, (1, (1, (0, [])))))))) (ev_ct 19 (ev_ct 9 (pr_q 9 (17, (12, (1, (12, (19, [])))))) (pr_q 19 (1, (20, (0, (0, (0, []))))))) (ev_ct 20 (pr_q 20 (20, (29, (0, (0, (0, [])))))) (pr_q 29 (39, (30, (0, (0, (0, [])))))))))
def pr_y223 : MethodName := ⟨"OrphanTree$Input", "at", "(I)I"⟩
def pr_i223 : ev_Im := (pr_y223, (prog_3_method_3_code, ((some .int), [])))
noncomputable def pr_m223 : ev_M := (2, (0, (0, ([], pr_c223))))
/-- OrphanTree$Output.<init>()V -/
noncomputable def pr_c224 : Nat → ev_E := (ev_ct 8 (ev_ct 4 (ev_ct 1 (ev_ct 0 (pr_q 0 (7, (1, (0, (0, (0, [])))))) (pr_q 1 (36, (4, (0, (0, (0, []))))))) (pr_q 4 (7, (5, (0, (0, (0, []))))))) (ev_ct 5 (pr_q 5 (1, (8, (300, (0, (0, [])))))) (pr_q 8 (34, (10, (21, (0, (0, [])))))))) (ev_ct 14 (ev_ct 13 (ev_ct 10 (pr_q 10 (25, (13, (2, (0, (2, [])))))) (pr_q 13 (7, (14, (0, (0, (0, []))))))) (pr_q 14 (1, (15, (0, (0, (0, []))))))) (ev_ct 15 (pr_q 15 (25, (18, (2, (1, (0, [])))))) (pr_q 18 (38, (19, (0, (0, (0, [])))))))))
def pr_y224 : MethodName := ⟨"OrphanTree$Output", "<init>", "()V"⟩
def pr_i224 : ev_Im := (pr_y224, (prog_4_method_1_code, (none, [])))
noncomputable def pr_m224 : ev_M := (1, (1, (300, ([], pr_c224))))
/-- OrphanTree$Output.putSign(C)V -/
noncomputable def pr_c225 : Nat → ev_E := (ev_ct 22 (ev_ct 11 (ev_ct 4 (ev_ct 1 (ev_ct 0 (pr_q 0 (7, (1, (0, (0, (0, [])))))) (pr_q 1 (24, (4, (2, (1, (0, []))))))) (pr_q 4 (16, (7, (1, (38, (7, []))))))) (ev_ct 8 (ev_ct 7 (pr_q 7 (7, (8, (0, (0, (0, [])))))) (pr_q 8 (24, (11, (2, (1, (0, []))))))) (pr_q 11 (1, (14, (300, (0, (0, [])))))))) (ev_ct 18 (ev_ct 17 (ev_ct 14 (pr_q 14 (17, (17, (1, (17, (38, [])))))) (pr_q 17 (7, (18, (0, (0, (0, []))))))) (pr_q 18 (24, (21, (2, (0, (0, []))))))) (ev_ct 21 (pr_q 21 (7, (22, (0, (0, (0, [])))))) (pr_q 22 (24, (25, (2, (1, (0, []))))))))) (ev_ct 29 (ev_ct 27 (ev_ct 26 (ev_ct 25 (pr_q 25 (6, (26, (1, (0, (0, [])))))) (pr_q 26 (43, (27, (5, (0, (0, []))))))) (pr_q 27 (30, (28, (0, (0, (0, []))))))) (ev_ct 28 (pr_q 28 (7, (29, (0, (0, (0, [])))))) (pr_q 29 (21, (30, (0, (0, (0, [])))))))) (ev_ct 34 (ev_ct 33 (ev_ct 30 (pr_q 30 (24, (33, (2, (1, (0, [])))))) (pr_q 33 (1, (34, (1, (0, (0, []))))))) (pr_q 34 (13, (35, (0, (0, (0, []))))))) (ev_ct 35 (pr_q 35 (25, (38, (2, (1, (0, [])))))) (pr_q 38 (38, (39, (0, (0, (0, []))))))))))
def pr_y225 : MethodName := ⟨"OrphanTree$Output", "putSign", "(C)V"⟩
def pr_i225 : ev_Im := (pr_y225, (prog_4_method_2_code, (none, [])))
noncomputable def pr_m225 : ev_M := (2, (0, (0, ([], pr_c225))))
/-- OrphanTree$Output.putNumber(I)V -/
noncomputable def pr_c226 : Nat → ev_E := (ev_ct 40 (ev_ct 18 (ev_ct 1 (ev_ct 0 (pr_q 0 (6, (1, (1, (0, (0, [])))))) (pr_q 1 (1, (3, (100, (0, (0, []))))))) (ev_ct 3 (pr_q 3 (17, (6, (1, (18, (6, [])))))) (pr_q 18 (6, (19, (1, (0, (0, [])))))))) (ev_ct 21 (ev_ct 19 (pr_q 19 (1, (21, (10, (0, (0, [])))))) (pr_q 21 (17, (24, (1, (39, (24, []))))))) (ev_ct 39 (pr_q 39 (7, (40, (0, (0, (0, [])))))) (pr_q 40 (1, (42, (48, (0, (0, []))))))))) (ev_ct 46 (ev_ct 43 (ev_ct 42 (pr_q 42 (6, (43, (1, (0, (0, [])))))) (pr_q 43 (1, (45, (10, (0, (0, []))))))) (ev_ct 45 (pr_q 45 (47, (46, (1, (0, (0, [])))))) (pr_q 46 (13, (47, (0, (0, (0, [])))))))) (ev_ct 48 (ev_ct 47 (pr_q 47 (43, (48, (6, (0, (0, [])))))) (pr_q 48 (35, (51, (225, (2, (3, [0, 0]))))))) (pr_q 51 (38, (52, (0, (0, (0, [])))))))))
def pr_y226 : MethodName := ⟨"OrphanTree$Output", "putNumber", "(I)V"⟩
def pr_i226 : ev_Im := (pr_y226, (prog_4_method_3_code, (none, [])))
noncomputable def pr_m226 : ev_M := (2, (0, (0, ([], pr_c226))))
/-- OrphanTree$Output.putPath(LOrphanTree$Proc;)V -/
noncomputable def pr_c227 : Nat → ev_E := (ev_ct 6 (ev_ct 4 (ev_ct 1 (ev_ct 0 (pr_q 0 (7, (1, (1, (0, (0, [])))))) (pr_q 1 (35, (4, (243, (1, (4, [0, 0]))))))) (pr_q 4 (9, (5, (2, (0, (0, []))))))) (ev_ct 5 (pr_q 5 (6, (6, (2, (0, (0, [])))))) (pr_q 6 (16, (9, (2, (9, (58, [])))))))) (ev_ct 60 (ev_ct 59 (ev_ct 58 (pr_q 58 (7, (59, (0, (0, (0, [])))))) (pr_q 59 (7, (60, (1, (0, (0, []))))))) (pr_q 60 (24, (63, (3, (0, (0, []))))))) (ev_ct 63 (pr_q 63 (35, (66, (226, (2, (3, [0, 0])))))) (pr_q 66 (38, (67, (0, (0, (0, [])))))))))
def pr_y227 : MethodName := ⟨"OrphanTree$Output", "putPath", "(LOrphanTree$Proc;)V"⟩
def pr_i227 : ev_Im := (pr_y227, (prog_4_method_4_code, (none, [])))
noncomputable def pr_m227 : ev_M := (5, (0, (0, ([], pr_c227))))
/-- OrphanTree$Output.putChildren(LOrphanTree$Tree;LOrphanTree$Proc;)V -/
noncomputable def pr_c228 : Nat → ev_E := (ev_ct 16 (ev_ct 7 (ev_ct 4 (ev_ct 1 (ev_ct 0 (pr_q 0 (7, (1, (1, (0, (0, [])))))) (pr_q 1 (24, (4, (5, (1, (0, []))))))) (pr_q 4 (10, (5, (3, (0, (0, []))))))) (ev_ct 6 (ev_ct 5 (pr_q 5 (7, (6, (3, (0, (0, [])))))) (pr_q 6 (26, (7, (0, (0, (0, []))))))) (pr_q 7 (9, (9, (4, (0, (0, [])))))))) (ev_ct 12 (ev_ct 10 (ev_ct 9 (pr_q 9 (1, (10, (0, (0, (0, [])))))) (pr_q 10 (9, (12, (5, (0, (0, []))))))) (pr_q 12 (6, (14, (5, (0, (0, []))))))) (ev_ct 14 (pr_q 14 (6, (16, (4, (0, (0, [])))))) (pr_q 16 (17, (19, (1, (19, (53, []))))))))) (ev_ct 27 (ev_ct 22 (ev_ct 20 (ev_ct 19 (pr_q 19 (7, (20, (3, (0, (0, [])))))) (pr_q 20 (6, (22, (5, (0, (0, []))))))) (pr_q 22 (29, (23, (24, (25, (0, []))))))) (ev_ct 25 (ev_ct 23 (pr_q 23 (10, (25, (6, (0, (0, [])))))) (pr_q 25 (7, (27, (6, (0, (0, []))))))) (pr_q 27 (7, (28, (2, (0, (0, [])))))))) (ev_ct 47 (ev_ct 31 (ev_ct 28 (pr_q 28 (35, (31, (238, (2, (4, [0, 0])))))) (pr_q 31 (16, (34, (0, (47, (34, []))))))) (pr_q 47 (12, (50, (5, (1, (0, []))))))) (ev_ct 50 (pr_q 50 (20, (12, (0, (0, (0, [])))))) (pr_q 53 (38, (54, (0, (0, (0, []))))))))))
def pr_y228 : MethodName := ⟨"OrphanTree$Output", "putChildren", "(LOrphanTree$Tree;LOrphanTree$Proc;)V"⟩
def pr_i228 : ev_Im := (pr_y228, (prog_4_method_5_code, (none, [])))
noncomputable def pr_m228 : ev_M := (7, (0, (0, ([], pr_c228))))
/-- OrphanTree$Output.putDuties(LOrphanTree$Tree;LOrphanTree$Proc;)V -/
noncomputable def pr_c229 : Nat → ev_E := (ev_ct 17 (ev_ct 7 (ev_ct 2 (ev_ct 1 (ev_ct 0 (pr_q 0 (7, (1, (1, (0, (0, [])))))) (pr_q 1 (7, (2, (2, (0, (0, []))))))) (pr_q 2 (35, (5, (285, (2, (6, [0, 0]))))))) (ev_ct 6 (ev_ct 5 (pr_q 5 (9, (6, (3, (0, (0, [])))))) (pr_q 6 (1, (7, (0, (0, (0, []))))))) (pr_q 7 (9, (9, (4, (0, (0, [])))))))) (ev_ct 13 (ev_ct 11 (ev_ct 9 (pr_q 9 (6, (11, (4, (0, (0, [])))))) (pr_q 11 (1, (13, (8, (0, (0, []))))))) (pr_q 13 (17, (16, (1, (16, (37, []))))))) (ev_ct 16 (pr_q 16 (6, (17, (3, (0, (0, [])))))) (pr_q 17 (6, (19, (4, (0, (0, []))))))))) (ev_ct 25 (ev_ct 21 (ev_ct 20 (ev_ct 19 (pr_q 19 (15, (20, (5, (0, (0, [])))))) (pr_q 20 (1, (21, (1, (0, (0, []))))))) (pr_q 21 (15, (22, (1, (0, (0, []))))))) (ev_ct 22 (pr_q 22 (16, (25, (0, (31, (25, [])))))) (pr_q 25 (7, (26, (0, (0, (0, [])))))))) (ev_ct 31 (ev_ct 28 (ev_ct 26 (pr_q 26 (6, (28, (4, (0, (0, [])))))) (pr_q 28 (35, (31, (226, (2, (3, [0, 0]))))))) (pr_q 31 (12, (34, (4, (1, (0, []))))))) (ev_ct 34 (pr_q 34 (20, (9, (0, (0, (0, [])))))) (pr_q 37 (38, (38, (0, (0, (0, []))))))))))
def pr_y229 : MethodName := ⟨"OrphanTree$Output", "putDuties", "(LOrphanTree$Tree;LOrphanTree$Proc;)V"⟩
def pr_i229 : ev_Im := (pr_y229, (prog_4_method_6_code, (none, [])))
noncomputable def pr_m229 : ev_M := (5, (0, (0, ([], pr_c229))))
/-- OrphanTree$Output.putZombies(LOrphanTree$Tree;LOrphanTree$Proc;)V -/
noncomputable def pr_c230 : Nat → ev_E := (ev_ct 8 (ev_ct 3 (ev_ct 1 (ev_ct 0 (pr_q 0 (7, (1, (1, (0, (0, [])))))) (pr_q 1 (7, (2, (2, (0, (0, []))))))) (ev_ct 2 (pr_q 2 (1, (3, (4294967295, (0, (0, [])))))) (pr_q 3 (35, (6, (281, (3, (6, [0, 0])))))))) (ev_ct 7 (ev_ct 6 (pr_q 6 (10, (7, (3, (0, (0, [])))))) (pr_q 7 (1, (8, (0, (0, (0, []))))))) (pr_q 8 (9, (10, (4, (0, (0, [])))))))) (ev_ct 14 (ev_ct 12 (ev_ct 10 (pr_q 10 (6, (12, (4, (0, (0, [])))))) (pr_q 12 (1, (14, (40, (0, (0, []))))))) (pr_q 14 (17, (17, (1, (17, (63, []))))))) (ev_ct 18 (ev_ct 17 (pr_q 17 (7, (18, (3, (0, (0, [])))))) (pr_q 18 (19, (21, (0, (63, (21, []))))))) (pr_q 63 (38, (64, (0, (0, (0, [])))))))))
def pr_y230 : MethodName := ⟨"OrphanTree$Output", "putZombies", "(LOrphanTree$Tree;LOrphanTree$Proc;)V"⟩
def pr_i230 : ev_Im := (pr_y230, (prog_4_method_7_code, (none, [])))
noncomputable def pr_m230 : ev_M := (5, (0, (0, ([], pr_c230))))
/-- OrphanTree$Proc.<init>(I)V -/
noncomputable def pr_c232 : Nat → ev_E := (ev_ct 39 (ev_ct 19 (ev_ct 9 (ev_ct 4 (ev_ct 1 (ev_ct 0 (pr_q 0 (7, (1, (0, (0, (0, [])))))) (pr_q 1 (36, (4, (0, (0, (0, []))))))) (pr_q 4 (7, (5, (0, (0, (0, []))))))) (ev_ct 6 (ev_ct 5 (pr_q 5 (1, (6, (3, (0, (0, [])))))) (pr_q 6 (25, (9, (3, (1, (0, []))))))) (pr_q 9 (7, (10, (0, (0, (0, [])))))))) (ev_ct 14 (ev_ct 11 (ev_ct 10 (pr_q 10 (2, (11, (0, (0, (0, [])))))) (pr_q 11 (25, (14, (3, (2, (2, []))))))) (pr_q 14 (7, (15, (0, (0, (0, []))))))) (ev_ct 16 (ev_ct 15 (pr_q 15 (1, (16, (0, (0, (0, [])))))) (pr_q 16 (25, (19, (3, (3, (0, []))))))) (pr_q 19 (7, (20, (0, (0, (0, []))))))))) (ev_ct 29 (ev_ct 24 (ev_ct 21 (ev_ct 20 (pr_q 20 (1, (21, (0, (0, (0, [])))))) (pr_q 21 (25, (24, (3, (4, (0, []))))))) (pr_q 24 (7, (25, (0, (0, (0, []))))))) (ev_ct 26 (ev_ct 25 (pr_q 25 (1, (26, (0, (0, (0, [])))))) (pr_q 26 (25, (29, (3, (5, (0, []))))))) (pr_q 29 (7, (30, (0, (0, (0, [])))))))) (ev_ct 34 (ev_ct 31 (ev_ct 30 (pr_q 30 (1, (31, (0, (0, (0, [])))))) (pr_q 31 (25, (34, (3, (6, (0, []))))))) (pr_q 34 (7, (35, (0, (0, (0, []))))))) (ev_ct 36 (ev_ct 35 (pr_q 35 (1, (36, (4294967295, (0, (0, [])))))) (pr_q 36 (25, (39, (3, (7, (0, []))))))) (pr_q 39 (7, (40, (0, (0, (0, [])))))))))) (ev_ct 59 (ev_ct 49 (ev_ct 44 (ev_ct 41 (ev_ct 40 (pr_q 40 (1, (41, (0, (0, (0, [])))))) (pr_q 41 (25, (44, (3, (8, (0, []))))))) (pr_q 44 (7, (45, (0, (0, (0, []))))))) (ev_ct 46 (ev_ct 45 (pr_q 45 (1, (46, (4294967295, (0, (0, [])))))) (pr_q 46 (25, (49, (3, (9, (0, []))))))) (pr_q 49 (7, (50, (0, (0, (0, [])))))))) (ev_ct 54 (ev_ct 51 (ev_ct 50 (pr_q 50 (1, (51, (4294967295, (0, (0, [])))))) (pr_q 51 (25, (54, (3, (10, (0, []))))))) (pr_q 54 (7, (55, (0, (0, (0, []))))))) (ev_ct 56 (ev_ct 55 (pr_q 55 (1, (56, (0, (0, (0, [])))))) (pr_q 56 (25, (59, (3, (11, (0, []))))))) (pr_q 59 (7, (60, (0, (0, (0, []))))))))) (ev_ct 69 (ev_ct 64 (ev_ct 61 (ev_ct 60 (pr_q 60 (1, (61, (4294967295, (0, (0, [])))))) (pr_q 61 (25, (64, (3, (12, (0, []))))))) (pr_q 64 (7, (65, (0, (0, (0, []))))))) (ev_ct 66 (ev_ct 65 (pr_q 65 (1, (66, (0, (0, (0, [])))))) (pr_q 66 (25, (69, (3, (13, (1, []))))))) (pr_q 69 (7, (70, (0, (0, (0, [])))))))) (ev_ct 74 (ev_ct 71 (ev_ct 70 (pr_q 70 (3, (71, (0, (0, (0, [])))))) (pr_q 71 (25, (74, (3, (14, (3, []))))))) (pr_q 74 (7, (75, (0, (0, (0, []))))))) (ev_ct 76 (ev_ct 75 (pr_q 75 (6, (76, (1, (0, (0, [])))))) (pr_q 76 (25, (79, (3, (0, (0, []))))))) (pr_q 79 (38, (80, (0, (0, (0, [])))))))))))
def pr_y232 : MethodName := ⟨"OrphanTree$Proc", "<init>", "(I)V"⟩
def pr_i232 : ev_Im := (pr_y232, (prog_5_method_1_code, (none, [])))
noncomputable def pr_m232 : ev_M := (2, (0, (0, ([], pr_c232))))
/-- OrphanTree$Proc.become(IIII)V -/
noncomputable def pr_c233 : Nat → ev_E := (ev_ct 36 (ev_ct 16 (ev_ct 7 (ev_ct 2 (ev_ct 1 (ev_ct 0 (pr_q 0 (7, (1, (0, (0, (0, [])))))) (pr_q 1 (6, (2, (1, (0, (0, []))))))) (pr_q 2 (25, (5, (3, (1, (0, []))))))) (ev_ct 6 (ev_ct 5 (pr_q 5 (7, (6, (0, (0, (0, [])))))) (pr_q 6 (2, (7, (0, (0, (0, []))))))) (pr_q 7 (25, (10, (3, (2, (2, [])))))))) (ev_ct 12 (ev_ct 11 (ev_ct 10 (pr_q 10 (7, (11, (0, (0, (0, [])))))) (pr_q 11 (1, (12, (0, (0, (0, []))))))) (pr_q 12 (25, (15, (3, (3, (0, []))))))) (ev_ct 15 (pr_q 15 (7, (16, (0, (0, (0, [])))))) (pr_q 16 (6, (17, (2, (0, (0, []))))))))) (ev_ct 26 (ev_ct 21 (ev_ct 20 (ev_ct 17 (pr_q 17 (25, (20, (3, (4, (0, [])))))) (pr_q 20 (7, (21, (0, (0, (0, []))))))) (pr_q 21 (6, (22, (3, (0, (0, []))))))) (ev_ct 25 (ev_ct 22 (pr_q 22 (25, (25, (3, (5, (0, [])))))) (pr_q 25 (7, (26, (0, (0, (0, []))))))) (pr_q 26 (6, (28, (4, (0, (0, [])))))))) (ev_ct 32 (ev_ct 31 (ev_ct 28 (pr_q 28 (25, (31, (3, (6, (0, [])))))) (pr_q 31 (7, (32, (0, (0, (0, []))))))) (pr_q 32 (1, (33, (4294967295, (0, (0, []))))))) (ev_ct 33 (pr_q 33 (25, (36, (3, (7, (0, [])))))) (pr_q 36 (7, (37, (0, (0, (0, [])))))))))) (ev_ct 53 (ev_ct 46 (ev_ct 41 (ev_ct 38 (ev_ct 37 (pr_q 37 (1, (38, (0, (0, (0, [])))))) (pr_q 38 (25, (41, (3, (8, (0, []))))))) (pr_q 41 (7, (42, (0, (0, (0, []))))))) (ev_ct 43 (ev_ct 42 (pr_q 42 (1, (43, (4294967295, (0, (0, [])))))) (pr_q 43 (25, (46, (3, (9, (0, []))))))) (pr_q 46 (7, (47, (0, (0, (0, [])))))))) (ev_ct 51 (ev_ct 48 (ev_ct 47 (pr_q 47 (1, (48, (4294967295, (0, (0, [])))))) (pr_q 48 (25, (51, (3, (10, (0, []))))))) (pr_q 51 (7, (52, (0, (0, (0, []))))))) (ev_ct 52 (pr_q 52 (1, (53, (0, (0, (0, [])))))) (pr_q 53 (25, (56, (3, (11, (0, []))))))))) (ev_ct 62 (ev_ct 58 (ev_ct 57 (ev_ct 56 (pr_q 56 (7, (57, (0, (0, (0, [])))))) (pr_q 57 (1, (58, (4294967295, (0, (0, []))))))) (pr_q 58 (25, (61, (3, (12, (0, []))))))) (ev_ct 61 (pr_q 61 (7, (62, (0, (0, (0, [])))))) (pr_q 62 (1, (63, (0, (0, (0, [])))))))) (ev_ct 67 (ev_ct 66 (ev_ct 63 (pr_q 63 (25, (66, (3, (13, (1, [])))))) (pr_q 66 (7, (67, (0, (0, (0, []))))))) (pr_q 67 (3, (68, (0, (0, (0, []))))))) (ev_ct 68 (pr_q 68 (25, (71, (3, (14, (3, [])))))) (pr_q 71 (38, (72, (0, (0, (0, [])))))))))))
def pr_y233 : MethodName := ⟨"OrphanTree$Proc", "become", "(IIII)V"⟩
def pr_i233 : ev_Im := (pr_y233, (prog_5_method_2_code, (none, [])))
noncomputable def pr_m233 : ev_M := (5, (0, (0, ([], pr_c233))))
/-- OrphanTree$Proc.take(LOrphanTree$Proc;)V -/
noncomputable def pr_c234 : Nat → ev_E := (ev_ct 50 (ev_ct 25 (ev_ct 10 (ev_ct 5 (ev_ct 1 (ev_ct 0 (pr_q 0 (7, (1, (0, (0, (0, [])))))) (pr_q 1 (7, (2, (1, (0, (0, []))))))) (ev_ct 2 (pr_q 2 (24, (5, (3, (1, (0, [])))))) (pr_q 5 (25, (8, (3, (1, (0, [])))))))) (ev_ct 9 (ev_ct 8 (pr_q 8 (7, (9, (0, (0, (0, [])))))) (pr_q 9 (7, (10, (1, (0, (0, []))))))) (pr_q 10 (24, (13, (3, (3, (0, [])))))))) (ev_ct 18 (ev_ct 16 (ev_ct 13 (pr_q 13 (25, (16, (3, (3, (0, [])))))) (pr_q 16 (7, (17, (0, (0, (0, []))))))) (ev_ct 17 (pr_q 17 (7, (18, (1, (0, (0, [])))))) (pr_q 18 (24, (21, (3, (4, (0, [])))))))) (ev_ct 24 (ev_ct 21 (pr_q 21 (25, (24, (3, (4, (0, [])))))) (pr_q 24 (7, (25, (0, (0, (0, []))))))) (pr_q 25 (7, (26, (1, (0, (0, []))))))))) (ev_ct 40 (ev_ct 33 (ev_ct 29 (ev_ct 26 (pr_q 26 (24, (29, (3, (5, (0, [])))))) (pr_q 29 (25, (32, (3, (5, (0, []))))))) (ev_ct 32 (pr_q 32 (7, (33, (0, (0, (0, [])))))) (pr_q 33 (7, (34, (1, (0, (0, [])))))))) (ev_ct 37 (ev_ct 34 (pr_q 34 (24, (37, (3, (6, (0, [])))))) (pr_q 37 (25, (40, (3, (6, (0, []))))))) (pr_q 40 (7, (41, (0, (0, (0, [])))))))) (ev_ct 45 (ev_ct 42 (ev_ct 41 (pr_q 41 (7, (42, (1, (0, (0, [])))))) (pr_q 42 (24, (45, (3, (7, (0, []))))))) (pr_q 45 (25, (48, (3, (7, (0, []))))))) (ev_ct 49 (ev_ct 48 (pr_q 48 (7, (49, (0, (0, (0, [])))))) (pr_q 49 (7, (50, (1, (0, (0, []))))))) (pr_q 50 (24, (53, (3, (8, (0, [])))))))))) (ev_ct 77 (ev_ct 65 (ev_ct 58 (ev_ct 56 (ev_ct 53 (pr_q 53 (25, (56, (3, (8, (0, [])))))) (pr_q 56 (7, (57, (0, (0, (0, []))))))) (ev_ct 57 (pr_q 57 (7, (58, (1, (0, (0, [])))))) (pr_q 58 (24, (61, (3, (9, (0, [])))))))) (ev_ct 64 (ev_ct 61 (pr_q 61 (25, (64, (3, (9, (0, [])))))) (pr_q 64 (7, (65, (0, (0, (0, []))))))) (pr_q 65 (7, (66, (1, (0, (0, [])))))))) (ev_ct 72 (ev_ct 69 (ev_ct 66 (pr_q 66 (24, (69, (3, (10, (0, [])))))) (pr_q 69 (25, (72, (3, (10, (0, []))))))) (pr_q 72 (7, (73, (0, (0, (0, []))))))) (ev_ct 74 (ev_ct 73 (pr_q 73 (7, (74, (1, (0, (0, [])))))) (pr_q 74 (24, (77, (3, (11, (0, []))))))) (pr_q 77 (25, (80, (3, (11, (0, []))))))))) (ev_ct 90 (ev_ct 85 (ev_ct 81 (ev_ct 80 (pr_q 80 (7, (81, (0, (0, (0, [])))))) (pr_q 81 (7, (82, (1, (0, (0, []))))))) (ev_ct 82 (pr_q 82 (24, (85, (3, (12, (0, [])))))) (pr_q 85 (25, (88, (3, (12, (0, [])))))))) (ev_ct 89 (ev_ct 88 (pr_q 88 (7, (89, (0, (0, (0, [])))))) (pr_q 89 (7, (90, (1, (0, (0, []))))))) (pr_q 90 (24, (93, (3, (13, (0, [])))))))) (ev_ct 97 (ev_ct 96 (ev_ct 93 (pr_q 93 (25, (96, (3, (13, (1, [])))))) (pr_q 96 (7, (97, (0, (0, (0, []))))))) (pr_q 97 (7, (98, (1, (0, (0, []))))))) (ev_ct 101 (ev_ct 98 (pr_q 98 (24, (101, (3, (14, (0, [])))))) (pr_q 101 (25, (104, (3, (14, (3, []))))))) (pr_q 104 (38, (105, (0, (0, (0, [])))))))))))
def pr_y234 : MethodName := ⟨"OrphanTree$Proc", "take", "(LOrphanTree$Proc;)V"⟩
def pr_i234 : ev_Im := (pr_y234, (prog_5_method_3_code, (none, [])))
noncomputable def pr_m234 : ev_M := (2, (0, (0, ([], pr_c234))))
/-- OrphanTree$Proc.isRunning()Z -/
noncomputable def pr_c235 : Nat → ev_E := (ev_ct 7 (ev_ct 1 (ev_ct 0 (pr_q 0 (7, (1, (0, (0, (0, [])))))) (pr_q 1 (24, (4, (3, (1, (0, []))))))) (ev_ct 4 (pr_q 4 (16, (7, (0, (7, (11, [])))))) (pr_q 7 (1, (8, (1, (0, (0, [])))))))) (ev_ct 11 (ev_ct 8 (pr_q 8 (20, (12, (0, (0, (0, [])))))) (pr_q 11 (1, (12, (0, (0, (0, []))))))) (pr_q 12 (39, (13, (1, (0, (0, []))))))))
def pr_y235 : MethodName := ⟨"OrphanTree$Proc", "isRunning", "()Z"⟩
def pr_i235 : ev_Im := (pr_y235, (prog_5_method_4_code, ((some .boolean), [])))
noncomputable def pr_m235 : ev_M := (1, (0, (0, ([], pr_c235))))
/-- OrphanTree$Proc.isMortal()Z -/
noncomputable def pr_c236 : Nat → ev_E := (ev_ct 7 (ev_ct 1 (ev_ct 0 (pr_q 0 (7, (1, (0, (0, (0, [])))))) (pr_q 1 (24, (4, (3, (1, (0, []))))))) (ev_ct 4 (pr_q 4 (16, (7, (0, (7, (18, [])))))) (pr_q 7 (7, (8, (0, (0, (0, [])))))))) (ev_ct 11 (ev_ct 8 (pr_q 8 (24, (11, (3, (2, (0, [])))))) (pr_q 11 (19, (14, (0, (18, (14, []))))))) (ev_ct 18 (pr_q 18 (1, (19, (0, (0, (0, [])))))) (pr_q 19 (39, (20, (1, (0, (0, [])))))))))
def pr_y236 : MethodName := ⟨"OrphanTree$Proc", "isMortal", "()Z"⟩
def pr_i236 : ev_Im := (pr_y236, (prog_5_method_5_code, ((some .boolean), [])))
noncomputable def pr_m236 : ev_M := (1, (0, (0, ([], pr_c236))))
/-- OrphanTree$Proc.hasExited()Z -/
noncomputable def pr_c237 : Nat → ev_E := (ev_ct 8 (ev_ct 4 (ev_ct 1 (ev_ct 0 (pr_q 0 (7, (1, (0, (0, (0, [])))))) (pr_q 1 (24, (4, (3, (1, (0, []))))))) (pr_q 4 (1, (5, (1, (0, (0, []))))))) (ev_ct 5 (pr_q 5 (17, (8, (0, (16, (8, [])))))) (pr_q 8 (7, (9, (0, (0, (0, [])))))))) (ev_ct 13 (ev_ct 12 (ev_ct 9 (pr_q 9 (24, (12, (3, (1, (0, [])))))) (pr_q 12 (1, (13, (2, (0, (0, []))))))) (pr_q 13 (17, (16, (0, (16, (20, []))))))) (ev_ct 20 (pr_q 20 (1, (21, (0, (0, (0, [])))))) (pr_q 21 (39, (22, (1, (0, (0, [])))))))))
def pr_y237 : MethodName := ⟨"OrphanTree$Proc", "hasExited", "()Z"⟩
def pr_i237 : ev_Im := (pr_y237, (prog_5_method_6_code, ((some .boolean), [])))
noncomputable def pr_m237 : ev_M := (1, (0, (0, ([], pr_c237))))
/-- OrphanTree$Proc.isRunningChildOf(LOrphanTree$Proc;)Z -/
noncomputable def pr_c238 : Nat → ev_E := (ev_ct 8 (ev_ct 4 (ev_ct 1 (ev_ct 0 (pr_q 0 (7, (1, (0, (0, (0, [])))))) (pr_q 1 (24, (4, (3, (1, (0, []))))))) (pr_q 4 (16, (7, (0, (7, (19, []))))))) (ev_ct 7 (pr_q 7 (7, (8, (0, (0, (0, [])))))) (pr_q 8 (24, (11, (3, (2, (0, [])))))))) (ev_ct 12 (ev_ct 11 (pr_q 11 (7, (12, (1, (0, (0, [])))))) (pr_q 12 (18, (15, (0, (15, (19, []))))))) (ev_ct 19 (pr_q 19 (1, (20, (0, (0, (0, [])))))) (pr_q 20 (39, (21, (1, (0, (0, [])))))))))
def pr_y238 : MethodName := ⟨"OrphanTree$Proc", "isRunningChildOf", "(LOrphanTree$Proc;)Z"⟩
def pr_i238 : ev_Im := (pr_y238, (prog_5_method_7_code, ((some .boolean), [])))
noncomputable def pr_m238 : ev_M := (2, (0, (0, ([], pr_c238))))
/-- OrphanTree$Proc.isZombieOf(LOrphanTree$Proc;)Z -/
noncomputable def pr_c239 : Nat → ev_E := (ev_ct 4 (ev_ct 1 (ev_ct 0 (pr_q 0 (7, (1, (0, (0, (0, [])))))) (pr_q 1 (24, (4, (3, (1, (0, []))))))) (pr_q 4 (1, (5, (1, (0, (0, []))))))) (ev_ct 20 (ev_ct 5 (pr_q 5 (17, (8, (0, (8, (20, [])))))) (pr_q 20 (1, (21, (0, (0, (0, []))))))) (pr_q 21 (39, (22, (1, (0, (0, []))))))))
def pr_y239 : MethodName := ⟨"OrphanTree$Proc", "isZombieOf", "(LOrphanTree$Proc;)Z"⟩
def pr_i239 : ev_Im := (pr_y239, (prog_5_method_8_code, ((some .boolean), [])))
noncomputable def pr_m239 : ev_M := (2, (0, (0, ([], pr_c239))))
/-- OrphanTree$Proc.refuses(I)Z -/
noncomputable def pr_c241 : Nat → ev_E := (ev_ct 6 (ev_ct 4 (ev_ct 1 (ev_ct 0 (pr_q 0 (7, (1, (0, (0, (0, [])))))) (pr_q 1 (24, (4, (3, (8, (0, []))))))) (pr_q 4 (6, (5, (1, (0, (0, []))))))) (ev_ct 5 (pr_q 5 (15, (6, (5, (0, (0, [])))))) (pr_q 6 (1, (7, (1, (0, (0, [])))))))) (ev_ct 8 (ev_ct 7 (pr_q 7 (15, (8, (1, (0, (0, [])))))) (pr_q 8 (16, (11, (0, (15, (11, []))))))) (ev_ct 15 (pr_q 15 (1, (16, (0, (0, (0, [])))))) (pr_q 16 (39, (17, (1, (0, (0, [])))))))))
def pr_y241 : MethodName := ⟨"OrphanTree$Proc", "refuses", "(I)Z"⟩
def pr_i241 : ev_Im := (pr_y241, (prog_5_method_10_code, ((some .boolean), [])))
noncomputable def pr_m241 : ev_M := (2, (0, (0, ([], pr_c241))))
/-- OrphanTree$Proc.room()I -/
noncomputable def pr_c242 : Nat → ev_E := (ev_ct 15 (ev_ct 7 (ev_ct 1 (ev_ct 0 (pr_q 0 (7, (1, (0, (0, (0, [])))))) (pr_q 1 (24, (4, (3, (1, (0, []))))))) (ev_ct 4 (pr_q 4 (16, (7, (0, (7, (30, [])))))) (pr_q 7 (7, (8, (0, (0, (0, [])))))))) (ev_ct 11 (ev_ct 8 (pr_q 8 (24, (11, (3, (4, (0, [])))))) (pr_q 11 (7, (12, (0, (0, (0, []))))))) (ev_ct 12 (pr_q 12 (24, (15, (3, (3, (0, [])))))) (pr_q 15 (17, (18, (2, (18, (30, []))))))))) (ev_ct 23 (ev_ct 19 (ev_ct 18 (pr_q 18 (7, (19, (0, (0, (0, [])))))) (pr_q 19 (24, (22, (3, (4, (0, []))))))) (ev_ct 22 (pr_q 22 (7, (23, (0, (0, (0, [])))))) (pr_q 23 (24, (26, (3, (3, (0, [])))))))) (ev_ct 27 (ev_ct 26 (pr_q 26 (14, (27, (0, (0, (0, [])))))) (pr_q 27 (20, (31, (0, (0, (0, []))))))) (ev_ct 30 (pr_q 30 (1, (31, (0, (0, (0, [])))))) (pr_q 31 (39, (32, (0, (0, (0, []))))))))))
def pr_y242 : MethodName := ⟨"OrphanTree$Proc", "room", "()I"⟩
def pr_i242 : ev_Im := (pr_y242, (prog_5_method_11_code, ((some .int), [])))
noncomputable def pr_m242 : ev_M := (1, (0, (0, ([], pr_c242))))
/-- OrphanTree$Proc.countAbove()I -/
noncomputable def pr_c243 : Nat → ev_E := (ev_ct 6 (ev_ct 2 (ev_ct 1 (ev_ct 0 (pr_q 0 (1, (1, (0, (0, (0, [])))))) (pr_q 1 (9, (2, (1, (0, (0, []))))))) (pr_q 2 (7, (3, (0, (0, (0, []))))))) (ev_ct 3 (pr_q 3 (24, (6, (3, (2, (0, [])))))) (pr_q 6 (10, (7, (2, (0, (0, [])))))))) (ev_ct 8 (ev_ct 7 (pr_q 7 (7, (8, (2, (0, (0, [])))))) (pr_q 8 (19, (11, (0, (22, (11, []))))))) (ev_ct 22 (pr_q 22 (6, (23, (1, (0, (0, [])))))) (pr_q 23 (39, (24, (0, (0, (0, [])))))))))
def pr_y243 : MethodName := ⟨"OrphanTree$Proc", "countAbove", "()I"⟩
def pr_i243 : ev_Im := (pr_y243, (prog_5_method_12_code, ((some .int), [])))
noncomputable def pr_m243 : ev_M := (3, (0, (0, ([], pr_c243))))
/-- OrphanTree$Proc.isOver(LOrphanTree$Proc;)Z -/
noncomputable def pr_c244 : Nat → ev_E := (ev_ct 5 (ev_ct 1 (ev_ct 0 (pr_q 0 (7, (1, (1, (0, (0, [])))))) (pr_q 1 (24, (4, (3, (2, (0, []))))))) (ev_ct 4 (pr_q 4 (10, (5, (2, (0, (0, [])))))) (pr_q 5 (7, (6, (2, (0, (0, [])))))))) (ev_ct 24 (ev_ct 6 (pr_q 6 (19, (9, (0, (24, (9, [])))))) (pr_q 24 (1, (25, (0, (0, (0, []))))))) (pr_q 25 (39, (26, (1, (0, (0, []))))))))
def pr_y244 : MethodName := ⟨"OrphanTree$Proc", "isOver", "(LOrphanTree$Proc;)Z"⟩
def pr_i244 : ev_Im := (pr_y244, (prog_5_method_13_code, ((some .boolean), [])))
noncomputable def pr_m244 : ev_M := (3, (0, (0, ([], pr_c244))))
/-- OrphanTree$Proc.putUnder(LOrphanTree$Proc;)V -/
noncomputable def pr_c245 : Nat → ev_E := (ev_ct 25 (ev_ct 20 (ev_ct 1 (ev_ct 0 (pr_q 0 (7, (1, (0, (0, (0, [])))))) (pr_q 1 (24, (4, (3, (2, (0, []))))))) (ev_ct 4 (pr_q 4 (19, (7, (0, (20, (7, [])))))) (pr_q 20 (7, (21, (0, (0, (0, [])))))))) (ev_ct 22 (ev_ct 21 (pr_q 21 (7, (22, (1, (0, (0, [])))))) (pr_q 22 (25, (25, (3, (2, (2, []))))))) (pr_q 25 (7, (26, (1, (0, (0, [])))))))) (ev_ct 30 (ev_ct 27 (ev_ct 26 (pr_q 26 (21, (27, (0, (0, (0, [])))))) (pr_q 27 (24, (30, (3, (3, (0, []))))))) (pr_q 30 (1, (31, (1, (0, (0, []))))))) (ev_ct 32 (ev_ct 31 (pr_q 31 (13, (32, (0, (0, (0, [])))))) (pr_q 32 (25, (35, (3, (3, (0, []))))))) (pr_q 35 (38, (36, (0, (0, (0, [])))))))))
def pr_y245 : MethodName := ⟨"OrphanTree$Proc", "putUnder", "(LOrphanTree$Proc;)V"⟩
def pr_i245 : ev_Im := (pr_y245, (prog_5_method_14_code, (none, [])))
noncomputable def pr_m245 : ev_M := (2, (0, (0, ([], pr_c245))))
/-- OrphanTree$Proc.willFor(I)I -/
noncomputable def pr_c246 : Nat → ev_E := (ev_ct 8 (ev_ct 4 (ev_ct 1 (ev_ct 0 (pr_q 0 (7, (1, (0, (0, (0, [])))))) (pr_q 1 (24, (4, (3, (14, (0, []))))))) (pr_q 4 (1, (6, (8, (0, (0, []))))))) (ev_ct 7 (ev_ct 6 (pr_q 6 (6, (7, (1, (0, (0, [])))))) (pr_q 7 (15, (8, (0, (0, (0, []))))))) (pr_q 8 (44, (9, (5, (0, (0, [])))))))) (ev_ct 13 (ev_ct 12 (ev_ct 9 (pr_q 9 (3, (12, (0, (255, (0, [])))))) (pr_q 12 (44, (13, (7, (0, (0, []))))))) (pr_q 13 (43, (14, (1, (0, (0, []))))))) (ev_ct 15 (ev_ct 14 (pr_q 14 (1, (15, (1, (0, (0, [])))))) (pr_q 15 (14, (16, (0, (0, (0, []))))))) (pr_q 16 (39, (17, (0, (0, (0, [])))))))))
def pr_y246 : MethodName := ⟨"OrphanTree$Proc", "willFor", "(I)I"⟩
def pr_i246 : ev_Im := (pr_y246, (prog_5_method_15_code, ((some .int), [])))
noncomputable def pr_m246 : ev_M := (2, (0, (0, ([], pr_c246))))
/-- OrphanTree$Proc.willMask()I -/
noncomputable def pr_c248 : Nat → ev_E := (ev_ct 10 (ev_ct 3 (ev_ct 1 (ev_ct 0 (pr_q 0 (1, (1, (0, (0, (0, [])))))) (pr_q 1 (9, (2, (1, (0, (0, []))))))) (ev_ct 2 (pr_q 2 (1, (3, (0, (0, (0, [])))))) (pr_q 3 (9, (4, (2, (0, (0, [])))))))) (ev_ct 5 (ev_ct 4 (pr_q 4 (6, (5, (2, (0, (0, [])))))) (pr_q 5 (1, (7, (8, (0, (0, []))))))) (ev_ct 7 (pr_q 7 (17, (10, (1, (10, (31, [])))))) (pr_q 10 (7, (11, (0, (0, (0, []))))))))) (ev_ct 16 (ev_ct 12 (ev_ct 11 (pr_q 11 (6, (12, (2, (0, (0, [])))))) (pr_q 12 (35, (15, (246, (2, (4, [0, 0]))))))) (ev_ct 15 (pr_q 15 (1, (16, (4294967295, (0, (0, [])))))) (pr_q 16 (17, (19, (0, (25, (19, [])))))))) (ev_ct 28 (ev_ct 25 (pr_q 25 (12, (28, (2, (1, (0, [])))))) (pr_q 28 (20, (4, (0, (0, (0, []))))))) (ev_ct 31 (pr_q 31 (6, (32, (1, (0, (0, [])))))) (pr_q 32 (39, (33, (0, (0, (0, []))))))))))
def pr_y248 : MethodName := ⟨"OrphanTree$Proc", "willMask", "()I"⟩
def pr_i248 : ev_Im := (pr_y248, (prog_5_method_17_code, ((some .int), [])))
noncomputable def pr_m248 : ev_M := (3, (0, (0, ([], pr_c248))))
/-- OrphanTree$SetupReader.<init>()V -/
noncomputable def pr_c249 : Nat → ev_E := (ev_ct 37 (ev_ct 19 (ev_ct 8 (ev_ct 4 (ev_ct 1 (ev_ct 0 (pr_q 0 (7, (1, (0, (0, (0, [])))))) (pr_q 1 (36, (4, (0, (0, (0, []))))))) (pr_q 4 (7, (5, (0, (0, (0, []))))))) (ev_ct 5 (pr_q 5 (33, (8, (1, (2, (0, [1, 0])))))) (pr_q 8 (21, (9, (0, (0, (0, [])))))))) (ev_ct 15 (ev_ct 12 (ev_ct 9 (pr_q 9 (35, (12, (221, (1, (2, [1, 500])))))) (pr_q 12 (25, (15, (4, (0, (2, []))))))) (pr_q 15 (7, (16, (0, (0, (0, []))))))) (ev_ct 16 (pr_q 16 (33, (19, (5, (10, (0, [1, 1, 1, 1, 0, 0, 0, 0, 0, 0])))))) (pr_q 19 (21, (20, (0, (0, (0, []))))))))) (ev_ct 28 (ev_ct 26 (ev_ct 23 (ev_ct 20 (pr_q 20 (35, (23, (269, (1, (6, [43, 653])))))) (pr_q 23 (25, (26, (4, (1, (2, []))))))) (pr_q 26 (7, (27, (0, (0, (0, []))))))) (ev_ct 27 (pr_q 27 (1, (28, (0, (0, (0, [])))))) (pr_q 28 (25, (31, (4, (2, (0, [])))))))) (ev_ct 33 (ev_ct 32 (ev_ct 31 (pr_q 31 (7, (32, (0, (0, (0, [])))))) (pr_q 32 (1, (33, (4294967295, (0, (0, []))))))) (pr_q 33 (25, (36, (4, (3, (0, []))))))) (ev_ct 36 (pr_q 36 (7, (37, (0, (0, (0, [])))))) (pr_q 37 (1, (38, (0, (0, (0, [])))))))))) (ev_ct 53 (ev_ct 46 (ev_ct 42 (ev_ct 41 (ev_ct 38 (pr_q 38 (25, (41, (4, (4, (0, [])))))) (pr_q 41 (7, (42, (0, (0, (0, []))))))) (pr_q 42 (1, (43, (0, (0, (0, []))))))) (ev_ct 43 (pr_q 43 (25, (46, (4, (5, (0, [])))))) (pr_q 46 (7, (47, (0, (0, (0, [])))))))) (ev_ct 51 (ev_ct 48 (ev_ct 47 (pr_q 47 (1, (48, (0, (0, (0, [])))))) (pr_q 48 (25, (51, (4, (6, (0, []))))))) (pr_q 51 (7, (52, (0, (0, (0, []))))))) (ev_ct 52 (pr_q 52 (1, (53, (0, (0, (0, [])))))) (pr_q 53 (25, (56, (4, (7, (0, []))))))))) (ev_ct 62 (ev_ct 58 (ev_ct 57 (ev_ct 56 (pr_q 56 (7, (57, (0, (0, (0, [])))))) (pr_q 57 (1, (58, (0, (0, (0, []))))))) (pr_q 58 (25, (61, (4, (8, (1, []))))))) (ev_ct 61 (pr_q 61 (7, (62, (0, (0, (0, [])))))) (pr_q 62 (1, (63, (0, (0, (0, [])))))))) (ev_ct 67 (ev_ct 66 (ev_ct 63 (pr_q 63 (25, (66, (4, (9, (1, [])))))) (pr_q 66 (7, (67, (0, (0, (0, []))))))) (pr_q 67 (1, (68, (0, (0, (0, []))))))) (ev_ct 68 (pr_q 68 (25, (71, (4, (10, (1, [])))))) (pr_q 71 (38, (72, (0, (0, (0, [])))))))))))
def pr_y249 : MethodName := ⟨"OrphanTree$SetupReader", "<init>", "()V"⟩
def pr_i249 : ev_Im := (pr_y249, (prog_6_method_1_code, (none, [])))
noncomputable def pr_m249 : ev_M := (1, (46, (1165, ([], pr_c249))))
/-- OrphanTree$SetupReader.begin()V -/
noncomputable def pr_c250 : Nat → ev_E := (ev_ct 18 (ev_ct 9 (ev_ct 4 (ev_ct 1 (ev_ct 0 (pr_q 0 (7, (1, (0, (0, (0, [])))))) (pr_q 1 (24, (4, (4, (1, (0, []))))))) (pr_q 4 (35, (7, (270, (1, (6, [0, 0]))))))) (ev_ct 8 (ev_ct 7 (pr_q 7 (7, (8, (0, (0, (0, [])))))) (pr_q 8 (1, (9, (0, (0, (0, []))))))) (pr_q 9 (25, (12, (4, (2, (0, [])))))))) (ev_ct 14 (ev_ct 13 (ev_ct 12 (pr_q 12 (7, (13, (0, (0, (0, [])))))) (pr_q 13 (1, (14, (4294967295, (0, (0, []))))))) (pr_q 14 (25, (17, (4, (3, (0, []))))))) (ev_ct 17 (pr_q 17 (7, (18, (0, (0, (0, [])))))) (pr_q 18 (1, (19, (0, (0, (0, []))))))))) (ev_ct 28 (ev_ct 23 (ev_ct 22 (ev_ct 19 (pr_q 19 (25, (22, (4, (8, (1, [])))))) (pr_q 22 (7, (23, (0, (0, (0, []))))))) (pr_q 23 (1, (24, (0, (0, (0, []))))))) (ev_ct 27 (ev_ct 24 (pr_q 24 (25, (27, (4, (9, (1, [])))))) (pr_q 27 (7, (28, (0, (0, (0, []))))))) (pr_q 28 (1, (29, (0, (0, (0, [])))))))) (ev_ct 33 (ev_ct 32 (ev_ct 29 (pr_q 29 (25, (32, (4, (10, (1, [])))))) (pr_q 32 (7, (33, (0, (0, (0, []))))))) (pr_q 33 (1, (34, (0, (0, (0, []))))))) (ev_ct 34 (pr_q 34 (25, (37, (4, (6, (0, [])))))) (pr_q 37 (38, (38, (0, (0, (0, []))))))))))
def pr_y250 : MethodName := ⟨"OrphanTree$SetupReader", "begin", "()V"⟩
def pr_i250 : ev_Im := (pr_y250, (prog_6_method_2_code, (none, [])))
noncomputable def pr_m250 : ev_M := (1, (0, (0, ([], pr_c250))))
/-- OrphanTree$SetupReader.takeStatement()Z -/
noncomputable def pr_c251 : Nat → ev_E := (ev_ct 5 (ev_ct 1 (ev_ct 0 (pr_q 0 (7, (1, (0, (0, (0, [])))))) (pr_q 1 (35, (4, (265, (1, (5, [0, 0]))))))) (ev_ct 4 (pr_q 4 (7, (5, (0, (0, (0, [])))))) (pr_q 5 (24, (8, (4, (4, (0, [])))))))) (ev_ct 11 (ev_ct 8 (pr_q 8 (16, (11, (0, (11, (13, [])))))) (pr_q 11 (1, (12, (0, (0, (0, []))))))) (pr_q 12 (39, (13, (1, (0, (0, []))))))))
def pr_y251 : MethodName := ⟨"OrphanTree$SetupReader", "takeStatement", "()Z"⟩
def pr_i251 : ev_Im := (pr_y251, (prog_6_method_3_code, ((some .boolean), [])))
noncomputable def pr_m251 : ev_M := (1, (0, (0, ([], pr_c251))))
/-- OrphanTree$SetupReader.advance()V -/
noncomputable def pr_c265 : Nat → ev_E := (ev_ct 76 (ev_ct 53 (ev_ct 9 (ev_ct 2 (ev_ct 1 (ev_ct 0 (pr_q 0 (7, (1, (0, (0, (0, [])))))) (pr_q 1 (7, (2, (0, (0, (0, []))))))) (pr_q 2 (24, (5, (4, (6, (0, []))))))) (ev_ct 8 (ev_ct 5 (pr_q 5 (25, (8, (4, (5, (0, [])))))) (pr_q 8 (7, (9, (0, (0, (0, []))))))) (pr_q 9 (24, (12, (4, (5, (0, [])))))))) (ev_ct 16 (ev_ct 13 (ev_ct 12 (pr_q 12 (7, (13, (0, (0, (0, [])))))) (pr_q 13 (24, (16, (4, (0, (0, []))))))) (pr_q 16 (24, (19, (1, (1, (0, []))))))) (ev_ct 52 (ev_ct 19 (pr_q 19 (17, (22, (1, (22, (52, [])))))) (pr_q 52 (7, (53, (0, (0, (0, []))))))) (pr_q 53 (7, (54, (0, (0, (0, []))))))))) (ev_ct 65 (ev_ct 60 (ev_ct 57 (ev_ct 54 (pr_q 54 (24, (57, (4, (5, (0, [])))))) (pr_q 57 (25, (60, (4, (6, (0, []))))))) (pr_q 60 (7, (61, (0, (0, (0, []))))))) (ev_ct 62 (ev_ct 61 (pr_q 61 (1, (62, (0, (0, (0, [])))))) (pr_q 62 (25, (65, (4, (4, (0, []))))))) (pr_q 65 (7, (66, (0, (0, (0, [])))))))) (ev_ct 70 (ev_ct 69 (ev_ct 66 (pr_q 66 (24, (69, (4, (5, (0, [])))))) (pr_q 69 (7, (70, (0, (0, (0, []))))))) (pr_q 70 (24, (73, (4, (0, (0, []))))))) (ev_ct 73 (pr_q 73 (24, (76, (1, (1, (0, [])))))) (pr_q 76 (17, (79, (1, (79, (107, [])))))))))) (ev_ct 126 (ev_ct 116 (ev_ct 109 (ev_ct 108 (ev_ct 107 (pr_q 107 (7, (108, (0, (0, (0, [])))))) (pr_q 108 (7, (109, (0, (0, (0, []))))))) (pr_q 109 (24, (112, (4, (0, (0, []))))))) (ev_ct 113 (ev_ct 112 (pr_q 112 (7, (113, (0, (0, (0, [])))))) (pr_q 113 (24, (116, (4, (5, (0, []))))))) (pr_q 116 (35, (119, (223, (2, (2, [0, 0])))))))) (ev_ct 122 (ev_ct 121 (ev_ct 119 (pr_q 119 (1, (121, (48, (0, (0, [])))))) (pr_q 121 (14, (122, (0, (0, (0, []))))))) (pr_q 122 (25, (125, (4, (7, (0, []))))))) (ev_ct 125 (pr_q 125 (7, (126, (0, (0, (0, [])))))) (pr_q 126 (24, (129, (4, (4, (0, []))))))))) (ev_ct 138 (ev_ct 133 (ev_ct 130 (ev_ct 129 (pr_q 129 (1, (130, (1, (0, (0, [])))))) (pr_q 130 (17, (133, (0, (141, (133, []))))))) (pr_q 133 (7, (134, (0, (0, (0, []))))))) (ev_ct 137 (ev_ct 134 (pr_q 134 (24, (137, (4, (4, (0, [])))))) (pr_q 137 (1, (138, (2, (0, (0, []))))))) (pr_q 138 (17, (141, (0, (141, (215, [])))))))) (ev_ct 219 (ev_ct 216 (ev_ct 215 (pr_q 215 (7, (216, (0, (0, (0, [])))))) (pr_q 216 (24, (219, (4, (4, (0, []))))))) (pr_q 219 (1, (220, (2, (0, (0, []))))))) (ev_ct 220 (pr_q 220 (17, (223, (0, (223, (241, [])))))) (pr_q 241 (38, (242, (0, (0, (0, [])))))))))))
def pr_y265 : MethodName := ⟨"OrphanTree$SetupReader", "advance", "()V"⟩
def pr_i265 : ev_Im := (pr_y265, (prog_6_method_17_code, (none, [])))
noncomputable def pr_m265 : ev_M := (1, (0, (0, ([], pr_c265))))
/-- OrphanTree$Tree.<init>()V -/
noncomputable def pr_c269 : Nat → ev_E := (ev_ct 57 (ev_ct 30 (ev_ct 13 (ev_ct 5 (ev_ct 1 (ev_ct 0 (pr_q 0 (7, (1, (0, (0, (0, [])))))) (pr_q 1 (36, (4, (0, (0, (0, []))))))) (ev_ct 4 (pr_q 4 (7, (5, (0, (0, (0, [])))))) (pr_q 5 (33, (8, (3, (15, (0, [0, 0, 1, 0, 0, 0, 0, 0, 0, 0, 0, 0, 0, 0, 2])))))))) (ev_ct 9 (ev_ct 8 (pr_q 8 (21, (9, (0, (0, (0, [])))))) (pr_q 9 (1, (10, (0, (0, (0, []))))))) (ev_ct 10 (pr_q 10 (35, (13, (232, (2, (4, [0, 0])))))) (pr_q 13 (25, (16, (5, (0, (2, []))))))))) (ev_ct 22 (ev_ct 17 (ev_ct 16 (pr_q 16 (7, (17, (0, (0, (0, [])))))) (pr_q 17 (1, (19, (40, (0, (0, []))))))) (ev_ct 19 (pr_q 19 (34, (22, (24, (1, (0, [])))))) (pr_q 22 (25, (25, (5, (1, (2, [])))))))) (ev_ct 26 (ev_ct 25 (pr_q 25 (7, (26, (0, (0, (0, [])))))) (pr_q 26 (1, (28, (8, (0, (0, []))))))) (ev_ct 28 (pr_q 28 (34, (30, (20, (0, (0, [])))))) (pr_q 30 (25, (33, (5, (2, (2, [])))))))))) (ev_ct 46 (ev_ct 37 (ev_ct 34 (ev_ct 33 (pr_q 33 (7, (34, (0, (0, (0, [])))))) (pr_q 34 (1, (35, (5, (0, (0, []))))))) (ev_ct 35 (pr_q 35 (34, (37, (20, (0, (0, [])))))) (pr_q 37 (25, (40, (5, (3, (2, [])))))))) (ev_ct 41 (ev_ct 40 (pr_q 40 (7, (41, (0, (0, (0, [])))))) (pr_q 41 (1, (43, (20, (0, (0, []))))))) (ev_ct 43 (pr_q 43 (25, (46, (5, (4, (0, [])))))) (pr_q 46 (7, (47, (0, (0, (0, []))))))))) (ev_ct 52 (ev_ct 48 (ev_ct 47 (pr_q 47 (1, (48, (0, (0, (0, [])))))) (pr_q 48 (25, (51, (5, (5, (0, []))))))) (ev_ct 51 (pr_q 51 (7, (52, (0, (0, (0, [])))))) (pr_q 52 (1, (53, (0, (0, (0, [])))))))) (ev_ct 56 (ev_ct 53 (pr_q 53 (25, (56, (5, (6, (0, [])))))) (pr_q 56 (7, (57, (0, (0, (0, []))))))) (pr_q 57 (1, (58, (0, (0, (0, [])))))))))) (ev_ct 83 (ev_ct 71 (ev_ct 63 (ev_ct 61 (ev_ct 58 (pr_q 58 (25, (61, (5, (7, (0, [])))))) (pr_q 61 (7, (62, (0, (0, (0, []))))))) (ev_ct 62 (pr_q 62 (1, (63, (0, (0, (0, [])))))) (pr_q 63 (25, (66, (5, (8, (0, [])))))))) (ev_ct 67 (ev_ct 66 (pr_q 66 (7, (67, (0, (0, (0, [])))))) (pr_q 67 (1, (68, (0, (0, (0, []))))))) (ev_ct 68 (pr_q 68 (25, (71, (5, (9, (0, [])))))) (pr_q 71 (1, (72, (0, (0, (0, []))))))))) (ev_ct 76 (ev_ct 73 (ev_ct 72 (pr_q 72 (9, (73, (1, (0, (0, [])))))) (pr_q 73 (6, (74, (1, (0, (0, []))))))) (ev_ct 74 (pr_q 74 (1, (76, (40, (0, (0, [])))))) (pr_q 76 (17, (79, (1, (79, (110, [])))))))) (ev_ct 80 (ev_ct 79 (pr_q 79 (7, (80, (0, (0, (0, [])))))) (pr_q 80 (24, (83, (5, (1, (0, []))))))) (pr_q 83 (6, (84, (1, (0, (0, []))))))))) (ev_ct 99 (ev_ct 89 (ev_ct 85 (ev_ct 84 (pr_q 84 (6, (85, (1, (0, (0, [])))))) (pr_q 85 (16, (88, (0, (88, (95, []))))))) (ev_ct 88 (pr_q 88 (7, (89, (0, (0, (0, [])))))) (pr_q 89 (24, (92, (5, (0, (0, [])))))))) (ev_ct 95 (ev_ct 92 (pr_q 92 (20, (103, (0, (0, (0, [])))))) (pr_q 95 (33, (98, (3, (15, (0, [0, 0, 1, 0, 0, 0, 0, 0, 0, 0, 0, 0, 0, 0, 2]))))))) (ev_ct 98 (pr_q 98 (21, (99, (0, (0, (0, [])))))) (pr_q 99 (6, (100, (1, (0, (0, []))))))))) (ev_ct 107 (ev_ct 103 (ev_ct 100 (pr_q 100 (35, (103, (232, (2, (4, [0, 0])))))) (pr_q 103 (32, (104, (0, (0, (0, []))))))) (ev_ct 104 (pr_q 104 (12, (107, (1, (1, (0, [])))))) (pr_q 107 (20, (73, (0, (0, (0, [])))))))) (ev_ct 111 (ev_ct 110 (pr_q 110 (7, (111, (0, (0, (0, [])))))) (pr_q 111 (35, (114, (270, (1, (6, [0, 0]))))))) (pr_q 114 (38, (115, (0, (0, (0, [])))))))))))
def pr_y269 : MethodName := ⟨"OrphanTree$Tree", "<init>", "()V"⟩
def pr_i269 : ev_Im := (pr_y269, (prog_7_method_1_code, (none, [])))
noncomputable def pr_m269 : ev_M := (2, (43, (653, ([], pr_c269))))
/-- OrphanTree$Tree.reset()V -/
noncomputable def pr_c270 : Nat → ev_E := (ev_ct 60 (ev_ct 25 (ev_ct 11 (ev_ct 6 (ev_ct 4 (ev_ct 1 (ev_ct 0 (pr_q 0 (7, (1, (0, (0, (0, [])))))) (pr_q 1 (24, (4, (5, (1, (0, []))))))) (pr_q 4 (10, (5, (1, (0, (0, []))))))) (ev_ct 5 (pr_q 5 (7, (6, (1, (0, (0, [])))))) (pr_q 6 (26, (7, (0, (0, (0, [])))))))) (ev_ct 9 (ev_ct 8 (ev_ct 7 (pr_q 7 (9, (8, (2, (0, (0, [])))))) (pr_q 8 (1, (9, (0, (0, (0, []))))))) (pr_q 9 (9, (10, (3, (0, (0, []))))))) (ev_ct 10 (pr_q 10 (6, (11, (3, (0, (0, [])))))) (pr_q 11 (6, (12, (2, (0, (0, []))))))))) (ev_ct 18 (ev_ct 16 (ev_ct 15 (ev_ct 12 (pr_q 12 (17, (15, (1, (15, (35, [])))))) (pr_q 15 (7, (16, (1, (0, (0, []))))))) (pr_q 16 (6, (17, (3, (0, (0, []))))))) (ev_ct 17 (pr_q 17 (29, (18, (24, (25, (0, [])))))) (pr_q 18 (10, (20, (4, (0, (0, [])))))))) (ev_ct 23 (ev_ct 22 (ev_ct 20 (pr_q 20 (7, (22, (4, (0, (0, [])))))) (pr_q 22 (1, (23, (3, (0, (0, []))))))) (pr_q 23 (1, (24, (0, (0, (0, []))))))) (ev_ct 24 (pr_q 24 (1, (25, (0, (0, (0, [])))))) (pr_q 25 (1, (26, (0, (0, (0, [])))))))))) (ev_ct 44 (ev_ct 36 (ev_ct 32 (ev_ct 29 (ev_ct 26 (pr_q 26 (35, (29, (233, (5, (4, [0, 0])))))) (pr_q 29 (12, (32, (3, (1, (0, []))))))) (pr_q 32 (20, (10, (0, (0, (0, []))))))) (ev_ct 35 (pr_q 35 (7, (36, (0, (0, (0, [])))))) (pr_q 36 (24, (39, (5, (0, (0, [])))))))) (ev_ct 42 (ev_ct 40 (ev_ct 39 (pr_q 39 (1, (40, (0, (0, (0, [])))))) (pr_q 40 (1, (42, (9, (0, (0, []))))))) (pr_q 42 (1, (43, (0, (0, (0, []))))))) (ev_ct 43 (pr_q 43 (1, (44, (0, (0, (0, [])))))) (pr_q 44 (35, (47, (233, (5, (4, [0, 0]))))))))) (ev_ct 52 (ev_ct 49 (ev_ct 48 (ev_ct 47 (pr_q 47 (1, (48, (0, (0, (0, [])))))) (pr_q 48 (9, (49, (1, (0, (0, []))))))) (pr_q 49 (6, (50, (1, (0, (0, []))))))) (ev_ct 50 (pr_q 50 (1, (52, (8, (0, (0, [])))))) (pr_q 52 (17, (55, (1, (55, (68, [])))))))) (ev_ct 56 (ev_ct 55 (pr_q 55 (7, (56, (0, (0, (0, [])))))) (pr_q 56 (24, (59, (5, (2, (0, []))))))) (ev_ct 59 (pr_q 59 (6, (60, (1, (0, (0, [])))))) (pr_q 60 (1, (61, (0, (0, (0, []))))))))))) (ev_ct 92 (ev_ct 78 (ev_ct 69 (ev_ct 65 (ev_ct 62 (ev_ct 61 (pr_q 61 (28, (62, (0, (0, (0, [])))))) (pr_q 62 (12, (65, (1, (1, (0, []))))))) (pr_q 65 (20, (49, (0, (0, (0, []))))))) (ev_ct 68 (pr_q 68 (7, (69, (0, (0, (0, [])))))) (pr_q 69 (35, (72, (272, (1, (6, [0, 0])))))))) (ev_ct 76 (ev_ct 73 (ev_ct 72 (pr_q 72 (7, (73, (0, (0, (0, [])))))) (pr_q 73 (24, (76, (5, (3, (0, []))))))) (pr_q 76 (1, (77, (0, (0, (0, []))))))) (ev_ct 77 (pr_q 77 (1, (78, (0, (0, (0, [])))))) (pr_q 78 (28, (79, (0, (0, (0, []))))))))) (ev_ct 85 (ev_ct 83 (ev_ct 80 (ev_ct 79 (pr_q 79 (7, (80, (0, (0, (0, [])))))) (pr_q 80 (24, (83, (5, (3, (0, []))))))) (pr_q 83 (1, (84, (1, (0, (0, []))))))) (ev_ct 84 (pr_q 84 (1, (85, (1, (0, (0, [])))))) (pr_q 85 (28, (86, (0, (0, (0, [])))))))) (ev_ct 90 (ev_ct 87 (ev_ct 86 (pr_q 86 (7, (87, (0, (0, (0, [])))))) (pr_q 87 (24, (90, (5, (3, (0, []))))))) (pr_q 90 (1, (91, (2, (0, (0, []))))))) (ev_ct 91 (pr_q 91 (1, (92, (2, (0, (0, [])))))) (pr_q 92 (28, (93, (0, (0, (0, [])))))))))) (ev_ct 109 (ev_ct 100 (ev_ct 96 (ev_ct 94 (ev_ct 93 (pr_q 93 (7, (94, (0, (0, (0, [])))))) (pr_q 94 (1, (96, (20, (0, (0, []))))))) (pr_q 96 (25, (99, (5, (4, (0, []))))))) (ev_ct 99 (pr_q 99 (7, (100, (0, (0, (0, [])))))) (pr_q 100 (1, (101, (1, (0, (0, [])))))))) (ev_ct 105 (ev_ct 104 (ev_ct 101 (pr_q 101 (25, (104, (5, (5, (0, [])))))) (pr_q 104 (7, (105, (0, (0, (0, []))))))) (pr_q 105 (1, (106, (0, (0, (0, []))))))) (ev_ct 106 (pr_q 106 (25, (109, (5, (6, (0, [])))))) (pr_q 109 (7, (110, (0, (0, (0, []))))))))) (ev_ct 116 (ev_ct 114 (ev_ct 111 (ev_ct 110 (pr_q 110 (1, (111, (0, (0, (0, [])))))) (pr_q 111 (25, (114, (5, (7, (0, []))))))) (pr_q 114 (7, (115, (0, (0, (0, []))))))) (ev_ct 115 (pr_q 115 (1, (116, (0, (0, (0, [])))))) (pr_q 116 (25, (119, (5, (8, (0, [])))))))) (ev_ct 120 (ev_ct 119 (pr_q 119 (7, (120, (0, (0, (0, [])))))) (pr_q 120 (1, (121, (0, (0, (0, []))))))) (ev_ct 121 (pr_q 121 (25, (124, (5, (9, (0, [])))))) (pr_q 124 (38, (125, (0, (0, (0, []))))))))))))
def pr_y270 : MethodName := ⟨"OrphanTree$Tree", "reset", "()V"⟩
def pr_i270 : ev_Im := (pr_y270, (prog_7_method_2_code, (none, [])))
noncomputable def pr_m270 : ev_M := (5, (0, (0, ([], pr_c270))))
/-- OrphanTree$Tree.clearRules()V -/
noncomputable def pr_c272 : Nat → ev_E := (ev_ct 8 (ev_ct 3 (ev_ct 1 (ev_ct 0 (pr_q 0 (1, (1, (0, (0, (0, [])))))) (pr_q 1 (9, (2, (1, (0, (0, []))))))) (ev_ct 2 (pr_q 2 (6, (3, (1, (0, (0, [])))))) (pr_q 3 (1, (4, (5, (0, (0, [])))))))) (ev_ct 7 (ev_ct 4 (pr_q 4 (17, (7, (1, (7, (20, [])))))) (pr_q 7 (7, (8, (0, (0, (0, []))))))) (pr_q 8 (24, (11, (5, (3, (0, [])))))))) (ev_ct 13 (ev_ct 12 (ev_ct 11 (pr_q 11 (6, (12, (1, (0, (0, [])))))) (pr_q 12 (1, (13, (4294967295, (0, (0, []))))))) (pr_q 13 (28, (14, (0, (0, (0, []))))))) (ev_ct 17 (ev_ct 14 (pr_q 14 (12, (17, (1, (1, (0, [])))))) (pr_q 17 (20, (2, (0, (0, (0, []))))))) (pr_q 20 (38, (21, (0, (0, (0, [])))))))))
def pr_y272 : MethodName := ⟨"OrphanTree$Tree", "clearRules", "()V"⟩
def pr_i272 : ev_Im := (pr_y272, (prog_7_method_4_code, (none, [])))
noncomputable def pr_m272 : ev_M := (2, (0, (0, ([], pr_c272))))
/-- OrphanTree$Tree.take(LOrphanTree$Tree;)V -/
noncomputable def pr_c273 : Nat → ev_E := (ev_ct 74 (ev_ct 28 (ev_ct 13 (ev_ct 8 (ev_ct 2 (ev_ct 1 (ev_ct 0 (pr_q 0 (7, (1, (0, (0, (0, [])))))) (pr_q 1 (7, (2, (1, (0, (0, []))))))) (pr_q 2 (24, (5, (5, (5, (0, []))))))) (ev_ct 5 (pr_q 5 (25, (8, (5, (5, (0, [])))))) (pr_q 8 (1, (9, (0, (0, (0, [])))))))) (ev_ct 10 (ev_ct 9 (pr_q 9 (9, (10, (2, (0, (0, [])))))) (pr_q 10 (6, (11, (2, (0, (0, []))))))) (ev_ct 11 (pr_q 11 (1, (13, (40, (0, (0, [])))))) (pr_q 13 (17, (16, (1, (16, (70, []))))))))) (ev_ct 22 (ev_ct 20 (ev_ct 17 (ev_ct 16 (pr_q 16 (7, (17, (1, (0, (0, [])))))) (pr_q 17 (24, (20, (5, (1, (0, []))))))) (pr_q 20 (6, (21, (2, (0, (0, []))))))) (ev_ct 21 (pr_q 21 (29, (22, (24, (25, (0, [])))))) (pr_q 22 (10, (23, (3, (0, (0, [])))))))) (ev_ct 24 (ev_ct 23 (pr_q 23 (7, (24, (0, (0, (0, [])))))) (pr_q 24 (24, (27, (5, (1, (0, []))))))) (ev_ct 27 (pr_q 27 (6, (28, (2, (0, (0, [])))))) (pr_q 28 (29, (29, (24, (25, (0, [])))))))))) (ev_ct 43 (ev_ct 37 (ev_ct 33 (ev_ct 30 (ev_ct 29 (pr_q 29 (7, (30, (3, (0, (0, [])))))) (pr_q 30 (35, (33, (234, (2, (4, [0, 0]))))))) (pr_q 33 (7, (34, (0, (0, (0, []))))))) (ev_ct 34 (pr_q 34 (24, (37, (5, (1, (0, [])))))) (pr_q 37 (6, (38, (2, (0, (0, [])))))))) (ev_ct 39 (ev_ct 38 (pr_q 38 (29, (39, (24, (25, (0, [])))))) (pr_q 39 (7, (40, (3, (0, (0, []))))))) (ev_ct 40 (pr_q 40 (24, (43, (3, (2, (0, [])))))) (pr_q 43 (19, (46, (0, (46, (50, []))))))))) (ev_ct 64 (ev_ct 47 (ev_ct 46 (pr_q 46 (2, (47, (0, (0, (0, [])))))) (pr_q 47 (20, (61, (0, (0, (0, []))))))) (ev_ct 61 (pr_q 61 (25, (64, (3, (2, (2, [])))))) (pr_q 64 (12, (67, (2, (1, (0, [])))))))) (ev_ct 70 (ev_ct 67 (pr_q 67 (20, (10, (0, (0, (0, [])))))) (pr_q 70 (7, (71, (1, (0, (0, []))))))) (ev_ct 71 (pr_q 71 (24, (74, (5, (2, (0, [])))))) (pr_q 74 (1, (75, (0, (0, (0, []))))))))))) (ev_ct 104 (ev_ct 90 (ev_ct 82 (ev_ct 79 (ev_ct 76 (ev_ct 75 (pr_q 75 (7, (76, (0, (0, (0, [])))))) (pr_q 76 (24, (79, (5, (2, (0, []))))))) (pr_q 79 (1, (80, (0, (0, (0, []))))))) (ev_ct 80 (pr_q 80 (1, (82, (8, (0, (0, [])))))) (pr_q 82 (45, (85, (0, (0, (0, [])))))))) (ev_ct 86 (ev_ct 85 (pr_q 85 (7, (86, (1, (0, (0, [])))))) (pr_q 86 (24, (89, (5, (3, (0, []))))))) (ev_ct 89 (pr_q 89 (1, (90, (0, (0, (0, [])))))) (pr_q 90 (7, (91, (0, (0, (0, []))))))))) (ev_ct 96 (ev_ct 94 (ev_ct 91 (pr_q 91 (24, (94, (5, (3, (0, [])))))) (pr_q 94 (1, (95, (0, (0, (0, []))))))) (ev_ct 95 (pr_q 95 (1, (96, (5, (0, (0, [])))))) (pr_q 96 (45, (99, (0, (0, (0, [])))))))) (ev_ct 100 (ev_ct 99 (pr_q 99 (7, (100, (0, (0, (0, [])))))) (pr_q 100 (7, (101, (1, (0, (0, []))))))) (ev_ct 101 (pr_q 101 (24, (104, (5, (4, (0, [])))))) (pr_q 104 (25, (107, (5, (4, (0, [])))))))))) (ev_ct 123 (ev_ct 115 (ev_ct 109 (ev_ct 108 (ev_ct 107 (pr_q 107 (7, (108, (0, (0, (0, [])))))) (pr_q 108 (7, (109, (1, (0, (0, []))))))) (pr_q 109 (24, (112, (5, (6, (0, []))))))) (ev_ct 112 (pr_q 112 (25, (115, (5, (6, (0, [])))))) (pr_q 115 (7, (116, (0, (0, (0, [])))))))) (ev_ct 117 (ev_ct 116 (pr_q 116 (7, (117, (1, (0, (0, [])))))) (pr_q 117 (24, (120, (5, (7, (0, []))))))) (ev_ct 120 (pr_q 120 (25, (123, (5, (7, (0, [])))))) (pr_q 123 (7, (124, (0, (0, (0, []))))))))) (ev_ct 131 (ev_ct 125 (ev_ct 124 (pr_q 124 (7, (125, (1, (0, (0, [])))))) (pr_q 125 (24, (128, (5, (8, (0, []))))))) (ev_ct 128 (pr_q 128 (25, (131, (5, (8, (0, [])))))) (pr_q 131 (7, (132, (0, (0, (0, [])))))))) (ev_ct 133 (ev_ct 132 (pr_q 132 (7, (133, (1, (0, (0, [])))))) (pr_q 133 (24, (136, (5, (9, (0, []))))))) (ev_ct 136 (pr_q 136 (25, (139, (5, (9, (0, [])))))) (pr_q 139 (38, (140, (0, (0, (0, []))))))))))))
def pr_y273 : MethodName := ⟨"OrphanTree$Tree", "take", "(LOrphanTree$Tree;)V"⟩
def pr_i273 : ev_Im := (pr_y273, (prog_7_method_5_code, (none, [])))
noncomputable def pr_m273 : ev_M := (4, (0, (0, ([], pr_c273))))
/-- OrphanTree$Tree.at(I)LOrphanTree$Proc; -/
noncomputable def pr_c274 : Nat → ev_E := (ev_ct 13 (ev_ct 5 (ev_ct 1 (ev_ct 0 (pr_q 0 (6, (1, (1, (0, (0, [])))))) (pr_q 1 (16, (4, (1, (18, (4, []))))))) (ev_ct 4 (pr_q 4 (6, (5, (1, (0, (0, [])))))) (pr_q 5 (7, (6, (0, (0, (0, [])))))))) (ev_ct 9 (ev_ct 6 (pr_q 6 (24, (9, (5, (5, (0, [])))))) (pr_q 9 (17, (12, (1, (12, (18, []))))))) (ev_ct 12 (pr_q 12 (6, (13, (1, (0, (0, [])))))) (pr_q 13 (1, (15, (40, (0, (0, []))))))))) (ev_ct 22 (ev_ct 18 (ev_ct 15 (pr_q 15 (17, (18, (1, (22, (18, [])))))) (pr_q 18 (2, (19, (0, (0, (0, []))))))) (ev_ct 19 (pr_q 19 (20, (28, (0, (0, (0, [])))))) (pr_q 22 (7, (23, (0, (0, (0, [])))))))) (ev_ct 26 (ev_ct 23 (pr_q 23 (24, (26, (5, (1, (0, [])))))) (pr_q 26 (6, (27, (1, (0, (0, []))))))) (ev_ct 27 (pr_q 27 (29, (28, (24, (25, (0, [])))))) (pr_q 28 (40, (29, (0, (0, (0, []))))))))))
def pr_y274 : MethodName := ⟨"OrphanTree$Tree", "at", "(I)LOrphanTree$Proc;"⟩
def pr_i274 : ev_Im := (pr_y274, (prog_7_method_6_code, ((some (.object "OrphanTree$Proc")), [])))
noncomputable def pr_m274 : ev_M := (2, (0, (0, ([], pr_c274))))
/-- OrphanTree$Tree.countInState(I)I -/
noncomputable def pr_c275 : Nat → ev_E := (ev_ct 18 (ev_ct 8 (ev_ct 3 (ev_ct 1 (ev_ct 0 (pr_q 0 (1, (1, (0, (0, (0, [])))))) (pr_q 1 (9, (2, (2, (0, (0, []))))))) (ev_ct 2 (pr_q 2 (7, (3, (0, (0, (0, [])))))) (pr_q 3 (24, (6, (5, (1, (0, [])))))))) (ev_ct 7 (ev_ct 6 (pr_q 6 (10, (7, (3, (0, (0, [])))))) (pr_q 7 (7, (8, (3, (0, (0, []))))))) (pr_q 8 (26, (9, (0, (0, (0, [])))))))) (ev_ct 12 (ev_ct 11 (ev_ct 9 (pr_q 9 (9, (11, (4, (0, (0, [])))))) (pr_q 11 (1, (12, (0, (0, (0, []))))))) (pr_q 12 (9, (14, (5, (0, (0, []))))))) (ev_ct 16 (ev_ct 14 (pr_q 14 (6, (16, (5, (0, (0, [])))))) (pr_q 16 (6, (18, (4, (0, (0, []))))))) (pr_q 18 (17, (21, (1, (21, (45, []))))))))) (ev_ct 32 (ev_ct 25 (ev_ct 22 (ev_ct 21 (pr_q 21 (7, (22, (3, (0, (0, [])))))) (pr_q 22 (6, (24, (5, (0, (0, []))))))) (ev_ct 24 (pr_q 24 (29, (25, (24, (25, (0, [])))))) (pr_q 25 (10, (27, (6, (0, (0, [])))))))) (ev_ct 29 (ev_ct 27 (pr_q 27 (7, (29, (6, (0, (0, [])))))) (pr_q 29 (24, (32, (3, (1, (0, []))))))) (pr_q 32 (6, (33, (1, (0, (0, [])))))))) (ev_ct 39 (ev_ct 36 (ev_ct 33 (pr_q 33 (17, (36, (0, (36, (39, [])))))) (pr_q 36 (12, (39, (2, (1, (0, []))))))) (pr_q 39 (12, (42, (5, (1, (0, []))))))) (ev_ct 45 (ev_ct 42 (pr_q 42 (20, (14, (0, (0, (0, [])))))) (pr_q 45 (6, (46, (2, (0, (0, []))))))) (pr_q 46 (39, (47, (0, (0, (0, []))))))))))
def pr_y275 : MethodName := ⟨"OrphanTree$Tree", "countInState", "(I)I"⟩
def pr_i275 : ev_Im := (pr_y275, (prog_7_method_7_code, ((some .int), [])))
noncomputable def pr_m275 : ev_M := (7, (0, (0, ([], pr_c275))))
/-- OrphanTree$Tree.countBelow(LOrphanTree$Proc;I)I -/
noncomputable def pr_c276 : Nat → ev_E := (ev_ct 25 (ev_ct 11 (ev_ct 3 (ev_ct 1 (ev_ct 0 (pr_q 0 (1, (1, (0, (0, (0, [])))))) (pr_q 1 (9, (2, (3, (0, (0, []))))))) (ev_ct 2 (pr_q 2 (7, (3, (0, (0, (0, [])))))) (pr_q 3 (24, (6, (5, (1, (0, [])))))))) (ev_ct 8 (ev_ct 6 (pr_q 6 (10, (8, (4, (0, (0, [])))))) (pr_q 8 (7, (10, (4, (0, (0, []))))))) (ev_ct 10 (pr_q 10 (26, (11, (0, (0, (0, [])))))) (pr_q 11 (9, (13, (5, (0, (0, []))))))))) (ev_ct 18 (ev_ct 14 (ev_ct 13 (pr_q 13 (1, (14, (0, (0, (0, [])))))) (pr_q 14 (9, (16, (6, (0, (0, []))))))) (ev_ct 16 (pr_q 16 (6, (18, (6, (0, (0, [])))))) (pr_q 18 (6, (20, (5, (0, (0, [])))))))) (ev_ct 23 (ev_ct 20 (pr_q 20 (17, (23, (1, (23, (57, [])))))) (pr_q 23 (7, (25, (4, (0, (0, []))))))) (pr_q 25 (6, (27, (6, (0, (0, []))))))))) (ev_ct 39 (ev_ct 32 (ev_ct 28 (ev_ct 27 (pr_q 27 (29, (28, (24, (25, (0, [])))))) (pr_q 28 (10, (30, (7, (0, (0, []))))))) (ev_ct 30 (pr_q 30 (7, (32, (7, (0, (0, [])))))) (pr_q 32 (24, (35, (3, (1, (0, [])))))))) (ev_ct 36 (ev_ct 35 (pr_q 35 (6, (36, (2, (0, (0, [])))))) (pr_q 36 (17, (39, (0, (39, (51, []))))))) (pr_q 39 (7, (40, (1, (0, (0, [])))))))) (ev_ct 51 (ev_ct 42 (ev_ct 40 (pr_q 40 (7, (42, (7, (0, (0, [])))))) (pr_q 42 (35, (45, (244, (2, (4, [0, 0]))))))) (ev_ct 45 (pr_q 45 (16, (48, (0, (51, (48, [])))))) (pr_q 51 (12, (54, (6, (1, (0, [])))))))) (ev_ct 57 (ev_ct 54 (pr_q 54 (20, (16, (0, (0, (0, [])))))) (pr_q 57 (6, (58, (3, (0, (0, []))))))) (pr_q 58 (39, (59, (0, (0, (0, []))))))))))
def pr_y276 : MethodName := ⟨"OrphanTree$Tree", "countBelow", "(LOrphanTree$Proc;I)I"⟩
def pr_i276 : ev_Im := (pr_y276, (prog_7_method_8_code, ((some .int), [])))
noncomputable def pr_m276 : ev_M := (8, (0, (0, ([], pr_c276))))
/-- OrphanTree$Tree.countZombiesOf(LOrphanTree$Proc;)I -/
noncomputable def pr_c277 : Nat → ev_E := (ev_ct 18 (ev_ct 8 (ev_ct 3 (ev_ct 1 (ev_ct 0 (pr_q 0 (1, (1, (0, (0, (0, [])))))) (pr_q 1 (9, (2, (2, (0, (0, []))))))) (ev_ct 2 (pr_q 2 (7, (3, (0, (0, (0, [])))))) (pr_q 3 (24, (6, (5, (1, (0, [])))))))) (ev_ct 7 (ev_ct 6 (pr_q 6 (10, (7, (3, (0, (0, [])))))) (pr_q 7 (7, (8, (3, (0, (0, []))))))) (pr_q 8 (26, (9, (0, (0, (0, [])))))))) (ev_ct 12 (ev_ct 11 (ev_ct 9 (pr_q 9 (9, (11, (4, (0, (0, [])))))) (pr_q 11 (1, (12, (0, (0, (0, []))))))) (pr_q 12 (9, (14, (5, (0, (0, []))))))) (ev_ct 16 (ev_ct 14 (pr_q 14 (6, (16, (5, (0, (0, [])))))) (pr_q 16 (6, (18, (4, (0, (0, []))))))) (pr_q 18 (17, (21, (1, (21, (45, []))))))))) (ev_ct 29 (ev_ct 24 (ev_ct 22 (ev_ct 21 (pr_q 21 (7, (22, (3, (0, (0, [])))))) (pr_q 22 (6, (24, (5, (0, (0, []))))))) (pr_q 24 (29, (25, (24, (25, (0, []))))))) (ev_ct 27 (ev_ct 25 (pr_q 25 (10, (27, (6, (0, (0, [])))))) (pr_q 27 (7, (29, (6, (0, (0, []))))))) (pr_q 29 (7, (30, (1, (0, (0, [])))))))) (ev_ct 39 (ev_ct 33 (ev_ct 30 (pr_q 30 (35, (33, (239, (2, (4, [0, 0])))))) (pr_q 33 (16, (36, (0, (39, (36, []))))))) (pr_q 39 (12, (42, (5, (1, (0, []))))))) (ev_ct 45 (ev_ct 42 (pr_q 42 (20, (14, (0, (0, (0, [])))))) (pr_q 45 (6, (46, (2, (0, (0, []))))))) (pr_q 46 (39, (47, (0, (0, (0, []))))))))))
def pr_y277 : MethodName := ⟨"OrphanTree$Tree", "countZombiesOf", "(LOrphanTree$Proc;)I"⟩
def pr_i277 : ev_Im := (pr_y277, (prog_7_method_9_code, ((some .int), [])))
noncomputable def pr_m277 : ev_M := (7, (0, (0, ([], pr_c277))))
/-- OrphanTree$Tree.greatestDepth()I -/
noncomputable def pr_c278 : Nat → ev_E := (ev_ct 19 (ev_ct 8 (ev_ct 3 (ev_ct 1 (ev_ct 0 (pr_q 0 (1, (1, (0, (0, (0, [])))))) (pr_q 1 (9, (2, (1, (0, (0, []))))))) (ev_ct 2 (pr_q 2 (7, (3, (0, (0, (0, [])))))) (pr_q 3 (24, (6, (5, (1, (0, [])))))))) (ev_ct 7 (ev_ct 6 (pr_q 6 (10, (7, (2, (0, (0, [])))))) (pr_q 7 (7, (8, (2, (0, (0, []))))))) (pr_q 8 (26, (9, (0, (0, (0, [])))))))) (ev_ct 13 (ev_ct 10 (ev_ct 9 (pr_q 9 (9, (10, (3, (0, (0, [])))))) (pr_q 10 (1, (11, (0, (0, (0, []))))))) (ev_ct 11 (pr_q 11 (9, (13, (4, (0, (0, [])))))) (pr_q 13 (6, (15, (4, (0, (0, [])))))))) (ev_ct 16 (ev_ct 15 (pr_q 15 (6, (16, (3, (0, (0, [])))))) (pr_q 16 (17, (19, (1, (19, (54, []))))))) (pr_q 19 (7, (20, (2, (0, (0, []))))))))) (ev_ct 33 (ev_ct 25 (ev_ct 22 (ev_ct 20 (pr_q 20 (6, (22, (4, (0, (0, [])))))) (pr_q 22 (29, (23, (24, (25, (0, []))))))) (ev_ct 23 (pr_q 23 (10, (25, (5, (0, (0, [])))))) (pr_q 25 (7, (27, (5, (0, (0, [])))))))) (ev_ct 30 (ev_ct 27 (pr_q 27 (35, (30, (235, (1, (4, [0, 0])))))) (pr_q 30 (16, (33, (0, (48, (33, []))))))) (pr_q 33 (7, (35, (5, (0, (0, [])))))))) (ev_ct 48 (ev_ct 38 (ev_ct 35 (pr_q 35 (35, (38, (243, (1, (4, [0, 0])))))) (pr_q 38 (6, (39, (1, (0, (0, []))))))) (ev_ct 39 (pr_q 39 (17, (42, (2, (42, (48, [])))))) (pr_q 48 (12, (51, (4, (1, (0, [])))))))) (ev_ct 54 (ev_ct 51 (pr_q 51 (20, (13, (0, (0, (0, [])))))) (pr_q 54 (6, (55, (1, (0, (0, []))))))) (pr_q 55 (39, (56, (0, (0, (0, []))))))))))
def pr_y278 : MethodName := ⟨"OrphanTree$Tree", "greatestDepth", "()I"⟩
def pr_i278 : ev_Im := (pr_y278, (prog_7_method_10_code, ((some .int), [])))
noncomputable def pr_m278 : ev_M := (6, (0, (0, ([], pr_c278))))
/-- OrphanTree$Tree.lowestOver(LOrphanTree$Proc;LOrphanTree$Proc;)LOrphanTree$Proc; -/
noncomputable def pr_c279 : Nat → ev_E := (ev_ct 6 (ev_ct 2 (ev_ct 1 (ev_ct 0 (pr_q 0 (7, (1, (1, (0, (0, [])))))) (pr_q 1 (10, (2, (3, (0, (0, []))))))) (pr_q 2 (7, (3, (3, (0, (0, []))))))) (ev_ct 3 (pr_q 3 (19, (6, (0, (29, (6, [])))))) (pr_q 6 (7, (7, (3, (0, (0, [])))))))) (ev_ct 8 (ev_ct 7 (pr_q 7 (7, (8, (2, (0, (0, [])))))) (pr_q 8 (18, (11, (0, (19, (11, []))))))) (ev_ct 19 (pr_q 19 (7, (20, (3, (0, (0, [])))))) (pr_q 20 (40, (21, (0, (0, (0, [])))))))))
def pr_y279 : MethodName := ⟨"OrphanTree$Tree", "lowestOver", "(LOrphanTree$Proc;LOrphanTree$Proc;)LOrphanTree$Proc;"⟩
def pr_i279 : ev_Im := (pr_y279, (prog_7_method_11_code, ((some (.object "OrphanTree$Proc")), [])))
noncomputable def pr_m279 : ev_M := (4, (0, (0, ([], pr_c279))))
/-- OrphanTree$Tree.childBehind(LOrphanTree$Proc;I)LOrphanTree$Proc; -/
noncomputable def pr_c280 : Nat → ev_E := (ev_ct 22 (ev_ct 9 (ev_ct 5 (ev_ct 1 (ev_ct 0 (pr_q 0 (7, (1, (0, (0, (0, [])))))) (pr_q 1 (24, (4, (5, (1, (0, []))))))) (ev_ct 4 (pr_q 4 (10, (5, (3, (0, (0, [])))))) (pr_q 5 (7, (6, (3, (0, (0, [])))))))) (ev_ct 7 (ev_ct 6 (pr_q 6 (26, (7, (0, (0, (0, [])))))) (pr_q 7 (9, (9, (4, (0, (0, []))))))) (pr_q 9 (1, (10, (0, (0, (0, [])))))))) (ev_ct 16 (ev_ct 12 (ev_ct 10 (pr_q 10 (9, (12, (5, (0, (0, [])))))) (pr_q 12 (6, (14, (5, (0, (0, []))))))) (ev_ct 14 (pr_q 14 (6, (16, (4, (0, (0, [])))))) (pr_q 16 (17, (19, (1, (19, (52, [])))))))) (ev_ct 20 (ev_ct 19 (pr_q 19 (7, (20, (3, (0, (0, [])))))) (pr_q 20 (6, (22, (5, (0, (0, []))))))) (pr_q 22 (29, (23, (24, (25, (0, []))))))))) (ev_ct 36 (ev_ct 30 (ev_ct 25 (ev_ct 23 (pr_q 23 (10, (25, (6, (0, (0, [])))))) (pr_q 25 (7, (27, (6, (0, (0, []))))))) (ev_ct 27 (pr_q 27 (24, (30, (3, (0, (0, [])))))) (pr_q 30 (6, (31, (2, (0, (0, [])))))))) (ev_ct 34 (ev_ct 31 (pr_q 31 (17, (34, (2, (34, (46, [])))))) (pr_q 34 (7, (36, (6, (0, (0, []))))))) (pr_q 36 (7, (37, (1, (0, (0, [])))))))) (ev_ct 46 (ev_ct 40 (ev_ct 37 (pr_q 37 (35, (40, (238, (2, (4, [0, 0])))))) (pr_q 40 (16, (43, (0, (46, (43, []))))))) (pr_q 46 (12, (49, (5, (1, (0, []))))))) (ev_ct 52 (ev_ct 49 (pr_q 49 (20, (12, (0, (0, (0, [])))))) (pr_q 52 (2, (53, (0, (0, (0, []))))))) (pr_q 53 (40, (54, (0, (0, (0, []))))))))))
def pr_y280 : MethodName := ⟨"OrphanTree$Tree", "childBehind", "(LOrphanTree$Proc;I)LOrphanTree$Proc;"⟩
def pr_i280 : ev_Im := (pr_y280, (prog_7_method_12_code, ((some (.object "OrphanTree$Proc")), [])))
noncomputable def pr_m280 : ev_M := (7, (0, (0, ([], pr_c280))))
/-- OrphanTree$Tree.zombieBehind(LOrphanTree$Proc;I)LOrphanTree$Proc; -/
noncomputable def pr_c281 : Nat → ev_E := (ev_ct 20 (ev_ct 10 (ev_ct 3 (ev_ct 1 (ev_ct 0 (pr_q 0 (2, (1, (0, (0, (0, [])))))) (pr_q 1 (10, (2, (3, (0, (0, []))))))) (ev_ct 2 (pr_q 2 (7, (3, (0, (0, (0, [])))))) (pr_q 3 (24, (6, (5, (1, (0, [])))))))) (ev_ct 8 (ev_ct 6 (pr_q 6 (10, (8, (4, (0, (0, [])))))) (pr_q 8 (7, (10, (4, (0, (0, []))))))) (pr_q 10 (26, (11, (0, (0, (0, [])))))))) (ev_ct 14 (ev_ct 13 (ev_ct 11 (pr_q 11 (9, (13, (5, (0, (0, [])))))) (pr_q 13 (1, (14, (0, (0, (0, []))))))) (pr_q 14 (9, (16, (6, (0, (0, []))))))) (ev_ct 18 (ev_ct 16 (pr_q 16 (6, (18, (6, (0, (0, [])))))) (pr_q 18 (6, (20, (5, (0, (0, []))))))) (pr_q 20 (17, (23, (1, (23, (73, []))))))))) (ev_ct 32 (ev_ct 27 (ev_ct 25 (ev_ct 23 (pr_q 23 (7, (25, (4, (0, (0, [])))))) (pr_q 25 (6, (27, (6, (0, (0, []))))))) (pr_q 27 (29, (28, (24, (25, (0, []))))))) (ev_ct 30 (ev_ct 28 (pr_q 28 (10, (30, (7, (0, (0, [])))))) (pr_q 30 (7, (32, (7, (0, (0, []))))))) (pr_q 32 (7, (33, (1, (0, (0, [])))))))) (ev_ct 67 (ev_ct 36 (ev_ct 33 (pr_q 33 (35, (36, (239, (2, (4, [0, 0])))))) (pr_q 36 (16, (39, (0, (67, (39, []))))))) (pr_q 67 (12, (70, (6, (1, (0, []))))))) (ev_ct 73 (ev_ct 70 (pr_q 70 (20, (16, (0, (0, (0, [])))))) (pr_q 73 (7, (74, (3, (0, (0, []))))))) (pr_q 74 (40, (75, (0, (0, (0, []))))))))))
def pr_y281 : MethodName := ⟨"OrphanTree$Tree", "zombieBehind", "(LOrphanTree$Proc;I)LOrphanTree$Proc;"⟩
def pr_i281 : ev_Im := (pr_y281, (prog_7_method_13_code, ((some (.object "OrphanTree$Proc")), [])))
noncomputable def pr_m281 : ev_M := (8, (0, (0, ([], pr_c281))))
/-- OrphanTree$Tree.nextOfWalk(LOrphanTree$Proc;)LOrphanTree$Proc; -/
noncomputable def pr_c282 : Nat → ev_E := (ev_ct 8 (ev_ct 3 (ev_ct 1 (ev_ct 0 (pr_q 0 (7, (1, (0, (0, (0, [])))))) (pr_q 1 (7, (2, (1, (0, (0, []))))))) (ev_ct 2 (pr_q 2 (1, (3, (4294967295, (0, (0, [])))))) (pr_q 3 (35, (6, (280, (3, (6, [0, 0])))))))) (ev_ct 7 (ev_ct 6 (pr_q 6 (10, (7, (2, (0, (0, [])))))) (pr_q 7 (7, (8, (1, (0, (0, []))))))) (pr_q 8 (10, (9, (3, (0, (0, [])))))))) (ev_ct 14 (ev_ct 10 (ev_ct 9 (pr_q 9 (7, (10, (2, (0, (0, [])))))) (pr_q 10 (19, (13, (0, (13, (41, []))))))) (ev_ct 13 (pr_q 13 (7, (14, (3, (0, (0, [])))))) (pr_q 14 (24, (17, (3, (2, (0, [])))))))) (ev_ct 41 (ev_ct 17 (pr_q 17 (19, (20, (0, (41, (20, [])))))) (pr_q 41 (7, (42, (2, (0, (0, []))))))) (pr_q 42 (40, (43, (0, (0, (0, [])))))))))
def pr_y282 : MethodName := ⟨"OrphanTree$Tree", "nextOfWalk", "(LOrphanTree$Proc;)LOrphanTree$Proc;"⟩
def pr_i282 : ev_Im := (pr_y282, (prog_7_method_14_code, ((some (.object "OrphanTree$Proc")), [])))
noncomputable def pr_m282 : ev_M := (4, (0, (0, ([], pr_c282))))
/-- OrphanTree$Tree.holderOf(I)LOrphanTree$Proc; -/
noncomputable def pr_c283 : Nat → ev_E := (ev_ct 16 (ev_ct 5 (ev_ct 1 (ev_ct 0 (pr_q 0 (6, (1, (1, (0, (0, [])))))) (pr_q 1 (16, (4, (1, (10, (4, []))))))) (ev_ct 4 (pr_q 4 (6, (5, (1, (0, (0, [])))))) (pr_q 5 (1, (7, (8, (0, (0, [])))))))) (ev_ct 14 (ev_ct 7 (pr_q 7 (17, (10, (1, (14, (10, [])))))) (pr_q 14 (7, (15, (0, (0, (0, []))))))) (ev_ct 15 (pr_q 15 (7, (16, (0, (0, (0, [])))))) (pr_q 16 (24, (19, (5, (2, (0, []))))))))) (ev_ct 24 (ev_ct 20 (ev_ct 19 (pr_q 19 (6, (20, (1, (0, (0, [])))))) (pr_q 20 (27, (21, (20, (20, (0, []))))))) (ev_ct 21 (pr_q 21 (35, (24, (274, (2, (6, [0, 0])))))) (pr_q 24 (10, (25, (2, (0, (0, [])))))))) (ev_ct 26 (ev_ct 25 (pr_q 25 (7, (26, (2, (0, (0, [])))))) (pr_q 26 (19, (29, (0, (29, (36, []))))))) (ev_ct 36 (pr_q 36 (7, (37, (2, (0, (0, [])))))) (pr_q 37 (40, (38, (0, (0, (0, []))))))))))
def pr_y283 : MethodName := ⟨"OrphanTree$Tree", "holderOf", "(I)LOrphanTree$Proc;"⟩
def pr_i283 : ev_Im := (pr_y283, (prog_7_method_15_code, ((some (.object "OrphanTree$Proc")), [])))
noncomputable def pr_m283 : ev_M := (3, (0, (0, ([], pr_c283))))
/-- OrphanTree$Tree.giveDuty(ILOrphanTree$Proc;)V -/
noncomputable def pr_c284 : Nat → ev_E := (ev_ct 10 (ev_ct 4 (ev_ct 1 (ev_ct 0 (pr_q 0 (6, (1, (1, (0, (0, [])))))) (pr_q 1 (16, (4, (1, (20, (4, []))))))) (pr_q 4 (6, (5, (1, (0, (0, []))))))) (ev_ct 7 (ev_ct 5 (pr_q 5 (1, (7, (8, (0, (0, [])))))) (pr_q 7 (17, (10, (1, (10, (20, []))))))) (pr_q 10 (7, (11, (0, (0, (0, [])))))))) (ev_ct 15 (ev_ct 14 (ev_ct 11 (pr_q 11 (24, (14, (5, (2, (0, [])))))) (pr_q 14 (6, (15, (1, (0, (0, []))))))) (pr_q 15 (7, (16, (2, (0, (0, []))))))) (ev_ct 19 (ev_ct 16 (pr_q 16 (24, (19, (3, (0, (0, [])))))) (pr_q 19 (28, (20, (0, (0, (0, []))))))) (pr_q 20 (38, (21, (0, (0, (0, [])))))))))
def pr_y284 : MethodName := ⟨"OrphanTree$Tree", "giveDuty", "(ILOrphanTree$Proc;)V"⟩
def pr_i284 : ev_Im := (pr_y284, (prog_7_method_16_code, (none, [])))
noncomputable def pr_m284 : ev_M := (3, (0, (0, ([], pr_c284))))
/-- OrphanTree$Tree.dutiesOf(LOrphanTree$Proc;)I -/
noncomputable def pr_c285 : Nat → ev_E := (ev_ct 16 (ev_ct 5 (ev_ct 2 (ev_ct 1 (ev_ct 0 (pr_q 0 (1, (1, (0, (0, (0, [])))))) (pr_q 1 (9, (2, (2, (0, (0, []))))))) (pr_q 2 (1, (3, (0, (0, (0, []))))))) (ev_ct 4 (ev_ct 3 (pr_q 3 (9, (4, (3, (0, (0, [])))))) (pr_q 4 (6, (5, (3, (0, (0, []))))))) (pr_q 5 (1, (7, (8, (0, (0, [])))))))) (ev_ct 11 (ev_ct 10 (ev_ct 7 (pr_q 7 (17, (10, (1, (10, (35, [])))))) (pr_q 10 (7, (11, (0, (0, (0, []))))))) (pr_q 11 (24, (14, (5, (2, (0, []))))))) (ev_ct 15 (ev_ct 14 (pr_q 14 (6, (15, (3, (0, (0, [])))))) (pr_q 15 (27, (16, (20, (20, (0, []))))))) (pr_q 16 (7, (17, (1, (0, (0, []))))))))) (ev_ct 26 (ev_ct 23 (ev_ct 20 (ev_ct 17 (pr_q 17 (24, (20, (3, (0, (0, [])))))) (pr_q 20 (17, (23, (0, (23, (29, []))))))) (pr_q 23 (6, (24, (2, (0, (0, []))))))) (ev_ct 25 (ev_ct 24 (pr_q 24 (1, (25, (1, (0, (0, [])))))) (pr_q 25 (6, (26, (3, (0, (0, []))))))) (pr_q 26 (15, (27, (4, (0, (0, [])))))))) (ev_ct 29 (ev_ct 28 (ev_ct 27 (pr_q 27 (15, (28, (2, (0, (0, [])))))) (pr_q 28 (9, (29, (2, (0, (0, []))))))) (pr_q 29 (12, (32, (3, (1, (0, []))))))) (ev_ct 35 (ev_ct 32 (pr_q 32 (20, (4, (0, (0, (0, [])))))) (pr_q 35 (6, (36, (2, (0, (0, []))))))) (pr_q 36 (39, (37, (0, (0, (0, []))))))))))
def pr_y285 : MethodName := ⟨"OrphanTree$Tree", "dutiesOf", "(LOrphanTree$Proc;)I"⟩
def pr_i285 : ev_Im := (pr_y285, (prog_7_method_17_code, ((some .int), [])))
noncomputable def pr_m285 : ev_M := (4, (0, (0, ([], pr_c285))))
/-- OrphanTree$Tree.arrive(LOrphanTree$Proc;III)LOrphanTree$Proc; -/
noncomputable def pr_c286 : Nat → ev_E := (ev_ct 30 (ev_ct 18 (ev_ct 7 (ev_ct 1 (ev_ct 0 (pr_q 0 (7, (1, (0, (0, (0, [])))))) (pr_q 1 (24, (4, (5, (5, (0, []))))))) (ev_ct 4 (pr_q 4 (16, (7, (1, (16, (7, [])))))) (pr_q 7 (7, (8, (0, (0, (0, [])))))))) (ev_ct 11 (ev_ct 8 (pr_q 8 (24, (11, (5, (5, (0, [])))))) (pr_q 11 (1, (13, (40, (0, (0, []))))))) (ev_ct 13 (pr_q 13 (17, (16, (1, (18, (16, [])))))) (pr_q 18 (7, (19, (0, (0, (0, []))))))))) (ev_ct 26 (ev_ct 22 (ev_ct 19 (pr_q 19 (24, (22, (5, (1, (0, [])))))) (pr_q 22 (7, (23, (0, (0, (0, []))))))) (ev_ct 23 (pr_q 23 (24, (26, (5, (5, (0, [])))))) (pr_q 26 (29, (27, (24, (25, (0, [])))))))) (ev_ct 29 (ev_ct 27 (pr_q 27 (10, (29, (5, (0, (0, [])))))) (pr_q 29 (7, (30, (0, (0, (0, []))))))) (pr_q 30 (21, (31, (0, (0, (0, []))))))))) (ev_ct 43 (ev_ct 36 (ev_ct 34 (ev_ct 31 (pr_q 31 (24, (34, (5, (5, (0, [])))))) (pr_q 34 (1, (35, (1, (0, (0, []))))))) (ev_ct 35 (pr_q 35 (13, (36, (0, (0, (0, [])))))) (pr_q 36 (25, (39, (5, (5, (0, [])))))))) (ev_ct 41 (ev_ct 39 (pr_q 39 (7, (41, (5, (0, (0, [])))))) (pr_q 41 (1, (42, (0, (0, (0, []))))))) (ev_ct 42 (pr_q 42 (6, (43, (2, (0, (0, [])))))) (pr_q 43 (6, (44, (3, (0, (0, []))))))))) (ev_ct 51 (ev_ct 46 (ev_ct 44 (pr_q 44 (6, (46, (4, (0, (0, [])))))) (pr_q 46 (35, (49, (233, (5, (4, [0, 0]))))))) (ev_ct 49 (pr_q 49 (7, (51, (5, (0, (0, [])))))) (pr_q 51 (7, (52, (1, (0, (0, [])))))))) (ev_ct 55 (ev_ct 52 (pr_q 52 (35, (55, (245, (2, (4, [0, 0])))))) (pr_q 55 (7, (57, (5, (0, (0, []))))))) (pr_q 57 (40, (58, (0, (0, (0, []))))))))))
def pr_y286 : MethodName := ⟨"OrphanTree$Tree", "arrive", "(LOrphanTree$Proc;III)LOrphanTree$Proc;"⟩
def pr_i286 : ev_Im := (pr_y286, (prog_7_method_18_code, ((some (.object "OrphanTree$Proc")), [])))
noncomputable def pr_m286 : ev_M := (6, (0, (0, ([], pr_c286))))
/-- OrphanTree$Tree.killGroup(II)I -/
noncomputable def pr_c299 : Nat → ev_E := (ev_ct 74 (ev_ct 27 (ev_ct 12 (ev_ct 6 (ev_ct 4 (ev_ct 1 (ev_ct 0 (pr_q 0 (7, (1, (0, (0, (0, [])))))) (pr_q 1 (24, (4, (5, (1, (0, []))))))) (pr_q 4 (10, (5, (3, (0, (0, []))))))) (ev_ct 5 (pr_q 5 (7, (6, (3, (0, (0, [])))))) (pr_q 6 (26, (7, (0, (0, (0, [])))))))) (ev_ct 9 (ev_ct 7 (pr_q 7 (9, (9, (4, (0, (0, [])))))) (pr_q 9 (1, (10, (0, (0, (0, []))))))) (ev_ct 10 (pr_q 10 (9, (12, (5, (0, (0, [])))))) (pr_q 12 (6, (14, (5, (0, (0, []))))))))) (ev_ct 20 (ev_ct 16 (ev_ct 14 (pr_q 14 (6, (16, (4, (0, (0, [])))))) (pr_q 16 (17, (19, (1, (19, (58, []))))))) (ev_ct 19 (pr_q 19 (7, (20, (3, (0, (0, [])))))) (pr_q 20 (6, (22, (5, (0, (0, [])))))))) (ev_ct 23 (ev_ct 22 (pr_q 22 (29, (23, (24, (25, (0, [])))))) (pr_q 23 (10, (25, (6, (0, (0, []))))))) (ev_ct 25 (pr_q 25 (7, (27, (6, (0, (0, [])))))) (pr_q 27 (7, (29, (6, (0, (0, [])))))))))) (ev_ct 60 (ev_ct 52 (ev_ct 48 (ev_ct 32 (ev_ct 29 (pr_q 29 (35, (32, (236, (1, (4, [0, 0])))))) (pr_q 32 (16, (35, (0, (48, (35, []))))))) (pr_q 48 (1, (49, (0, (0, (0, []))))))) (ev_ct 49 (pr_q 49 (25, (52, (3, (13, (1, [])))))) (pr_q 52 (12, (55, (5, (1, (0, [])))))))) (ev_ct 58 (ev_ct 55 (pr_q 55 (20, (12, (0, (0, (0, [])))))) (pr_q 58 (1, (59, (0, (0, (0, []))))))) (ev_ct 59 (pr_q 59 (9, (60, (3, (0, (0, [])))))) (pr_q 60 (7, (61, (0, (0, (0, []))))))))) (ev_ct 68 (ev_ct 64 (ev_ct 61 (pr_q 61 (24, (64, (5, (1, (0, [])))))) (pr_q 64 (10, (66, (4, (0, (0, []))))))) (ev_ct 66 (pr_q 66 (7, (68, (4, (0, (0, [])))))) (pr_q 68 (26, (69, (0, (0, (0, [])))))))) (ev_ct 71 (ev_ct 69 (pr_q 69 (9, (71, (5, (0, (0, [])))))) (pr_q 71 (1, (72, (0, (0, (0, []))))))) (ev_ct 72 (pr_q 72 (9, (74, (6, (0, (0, [])))))) (pr_q 74 (6, (76, (6, (0, (0, []))))))))))) (ev_ct 122 (ev_ct 93 (ev_ct 85 (ev_ct 81 (ev_ct 78 (ev_ct 76 (pr_q 76 (6, (78, (5, (0, (0, [])))))) (pr_q 78 (17, (81, (1, (81, (113, []))))))) (pr_q 81 (7, (83, (4, (0, (0, []))))))) (ev_ct 83 (pr_q 83 (6, (85, (6, (0, (0, [])))))) (pr_q 85 (29, (86, (24, (25, (0, [])))))))) (ev_ct 88 (ev_ct 86 (pr_q 86 (10, (88, (7, (0, (0, [])))))) (pr_q 88 (7, (90, (7, (0, (0, []))))))) (ev_ct 90 (pr_q 90 (24, (93, (3, (13, (0, [])))))) (pr_q 93 (16, (96, (0, (107, (96, []))))))))) (ev_ct 114 (ev_ct 110 (ev_ct 107 (pr_q 107 (12, (110, (6, (1, (0, [])))))) (pr_q 110 (20, (74, (0, (0, (0, []))))))) (ev_ct 113 (pr_q 113 (7, (114, (0, (0, (0, [])))))) (pr_q 114 (24, (117, (5, (1, (0, [])))))))) (ev_ct 119 (ev_ct 117 (pr_q 117 (10, (119, (4, (0, (0, [])))))) (pr_q 119 (7, (121, (4, (0, (0, []))))))) (ev_ct 121 (pr_q 121 (26, (122, (0, (0, (0, [])))))) (pr_q 122 (9, (124, (5, (0, (0, [])))))))))) (ev_ct 138 (ev_ct 129 (ev_ct 125 (ev_ct 124 (pr_q 124 (1, (125, (0, (0, (0, [])))))) (pr_q 125 (9, (127, (6, (0, (0, []))))))) (ev_ct 127 (pr_q 127 (6, (129, (6, (0, (0, [])))))) (pr_q 129 (6, (131, (5, (0, (0, [])))))))) (ev_ct 134 (ev_ct 131 (pr_q 131 (17, (134, (1, (134, (153, [])))))) (pr_q 134 (7, (136, (4, (0, (0, []))))))) (ev_ct 136 (pr_q 136 (6, (138, (6, (0, (0, [])))))) (pr_q 138 (29, (139, (24, (25, (0, []))))))))) (ev_ct 144 (ev_ct 141 (ev_ct 139 (pr_q 139 (10, (141, (7, (0, (0, [])))))) (pr_q 141 (7, (143, (7, (0, (0, []))))))) (ev_ct 143 (pr_q 143 (1, (144, (0, (0, (0, [])))))) (pr_q 144 (25, (147, (3, (13, (1, [])))))))) (ev_ct 150 (ev_ct 147 (pr_q 147 (12, (150, (6, (1, (0, [])))))) (pr_q 150 (20, (127, (0, (0, (0, []))))))) (ev_ct 153 (pr_q 153 (6, (154, (3, (0, (0, [])))))) (pr_q 154 (39, (155, (0, (0, (0, []))))))))))))
def pr_y299 : MethodName := ⟨"OrphanTree$Tree", "killGroup", "(II)I"⟩
def pr_i299 : ev_Im := (pr_y299, (prog_7_method_31_code, ((some .int), [])))
noncomputable def pr_m299 : ev_M := (8, (0, (0, ([], pr_c299))))
/-- OrphanTree$Tree.readZombiesOf(LOrphanTree$Proc;)I -/
noncomputable def pr_c302 : Nat → ev_E := (ev_ct 18 (ev_ct 8 (ev_ct 3 (ev_ct 1 (ev_ct 0 (pr_q 0 (1, (1, (0, (0, (0, [])))))) (pr_q 1 (9, (2, (2, (0, (0, []))))))) (ev_ct 2 (pr_q 2 (7, (3, (0, (0, (0, [])))))) (pr_q 3 (24, (6, (5, (1, (0, [])))))))) (ev_ct 7 (ev_ct 6 (pr_q 6 (10, (7, (3, (0, (0, [])))))) (pr_q 7 (7, (8, (3, (0, (0, []))))))) (pr_q 8 (26, (9, (0, (0, (0, [])))))))) (ev_ct 12 (ev_ct 11 (ev_ct 9 (pr_q 9 (9, (11, (4, (0, (0, [])))))) (pr_q 11 (1, (12, (0, (0, (0, []))))))) (pr_q 12 (9, (14, (5, (0, (0, []))))))) (ev_ct 16 (ev_ct 14 (pr_q 14 (6, (16, (5, (0, (0, [])))))) (pr_q 16 (6, (18, (4, (0, (0, []))))))) (pr_q 18 (17, (21, (1, (21, (56, []))))))))) (ev_ct 29 (ev_ct 24 (ev_ct 22 (ev_ct 21 (pr_q 21 (7, (22, (3, (0, (0, [])))))) (pr_q 22 (6, (24, (5, (0, (0, []))))))) (pr_q 24 (29, (25, (24, (25, (0, []))))))) (ev_ct 27 (ev_ct 25 (pr_q 25 (10, (27, (6, (0, (0, [])))))) (pr_q 27 (7, (29, (6, (0, (0, []))))))) (pr_q 29 (7, (30, (1, (0, (0, [])))))))) (ev_ct 50 (ev_ct 33 (ev_ct 30 (pr_q 30 (35, (33, (239, (2, (4, [0, 0])))))) (pr_q 33 (16, (36, (0, (50, (36, []))))))) (pr_q 50 (12, (53, (5, (1, (0, []))))))) (ev_ct 56 (ev_ct 53 (pr_q 53 (20, (14, (0, (0, (0, [])))))) (pr_q 56 (6, (57, (2, (0, (0, []))))))) (pr_q 57 (39, (58, (0, (0, (0, []))))))))))
def pr_y302 : MethodName := ⟨"OrphanTree$Tree", "readZombiesOf", "(LOrphanTree$Proc;)I"⟩
def pr_i302 : ev_Im := (pr_y302, (prog_7_method_34_code, ((some .int), [])))
noncomputable def pr_m302 : ev_M := (7, (0, (0, ([], pr_c302))))
/-- OrphanTree$Tree.pruneBelow(LOrphanTree$Proc;I)I -/
noncomputable def pr_c303 : Nat → ev_E := (ev_ct 4 (ev_ct 2 (ev_ct 1 (ev_ct 0 (pr_q 0 (1, (1, (0, (0, (0, [])))))) (pr_q 1 (9, (2, (3, (0, (0, []))))))) (pr_q 2 (7, (3, (0, (0, (0, []))))))) (ev_ct 3 (pr_q 3 (7, (4, (1, (0, (0, [])))))) (pr_q 4 (35, (7, (304, (2, (6, [0, 0])))))))) (ev_ct 11 (ev_ct 9 (ev_ct 7 (pr_q 7 (10, (9, (4, (0, (0, [])))))) (pr_q 9 (7, (11, (4, (0, (0, []))))))) (pr_q 11 (19, (14, (0, (41, (14, []))))))) (ev_ct 41 (pr_q 41 (6, (42, (3, (0, (0, [])))))) (pr_q 42 (39, (43, (0, (0, (0, [])))))))))
def pr_y303 : MethodName := ⟨"OrphanTree$Tree", "pruneBelow", "(LOrphanTree$Proc;I)I"⟩
def pr_i303 : ev_Im := (pr_y303, (prog_7_method_35_code, ((some .int), [])))
noncomputable def pr_m303 : ev_M := (5, (0, (0, ([], pr_c303))))
/-- OrphanTree$Tree.deepestBelow(LOrphanTree$Proc;)LOrphanTree$Proc; -/
noncomputable def pr_c304 : Nat → ev_E := (ev_ct 21 (ev_ct 8 (ev_ct 3 (ev_ct 1 (ev_ct 0 (pr_q 0 (2, (1, (0, (0, (0, [])))))) (pr_q 1 (10, (2, (2, (0, (0, []))))))) (ev_ct 2 (pr_q 2 (7, (3, (0, (0, (0, [])))))) (pr_q 3 (24, (6, (5, (1, (0, [])))))))) (ev_ct 7 (ev_ct 6 (pr_q 6 (10, (7, (3, (0, (0, [])))))) (pr_q 7 (7, (8, (3, (0, (0, []))))))) (pr_q 8 (26, (9, (0, (0, (0, [])))))))) (ev_ct 14 (ev_ct 11 (ev_ct 9 (pr_q 9 (9, (11, (4, (0, (0, [])))))) (pr_q 11 (1, (12, (0, (0, (0, []))))))) (ev_ct 12 (pr_q 12 (9, (14, (5, (0, (0, [])))))) (pr_q 14 (6, (16, (5, (0, (0, [])))))))) (ev_ct 18 (ev_ct 16 (pr_q 16 (6, (18, (4, (0, (0, [])))))) (pr_q 18 (17, (21, (1, (21, (69, []))))))) (pr_q 21 (7, (22, (3, (0, (0, []))))))))) (ev_ct 35 (ev_ct 27 (ev_ct 24 (ev_ct 22 (pr_q 22 (6, (24, (5, (0, (0, [])))))) (pr_q 24 (29, (25, (24, (25, (0, []))))))) (ev_ct 25 (pr_q 25 (10, (27, (6, (0, (0, [])))))) (pr_q 27 (7, (29, (6, (0, (0, [])))))))) (ev_ct 32 (ev_ct 29 (pr_q 29 (35, (32, (235, (1, (4, [0, 0])))))) (pr_q 32 (16, (35, (0, (63, (35, []))))))) (pr_q 35 (7, (36, (1, (0, (0, [])))))))) (ev_ct 63 (ev_ct 38 (ev_ct 36 (pr_q 36 (7, (38, (6, (0, (0, [])))))) (pr_q 38 (35, (41, (244, (2, (4, [0, 0]))))))) (ev_ct 41 (pr_q 41 (16, (44, (0, (63, (44, [])))))) (pr_q 63 (12, (66, (5, (1, (0, [])))))))) (ev_ct 69 (ev_ct 66 (pr_q 66 (20, (14, (0, (0, (0, [])))))) (pr_q 69 (7, (70, (2, (0, (0, []))))))) (pr_q 70 (40, (71, (0, (0, (0, []))))))))))
def pr_y304 : MethodName := ⟨"OrphanTree$Tree", "deepestBelow", "(LOrphanTree$Proc;)LOrphanTree$Proc;"⟩
def pr_i304 : ev_Im := (pr_y304, (prog_7_method_36_code, ((some (.object "OrphanTree$Proc")), [])))
noncomputable def pr_m304 : ev_M := (7, (0, (0, ([], pr_c304))))
/-- OrphanTreeLaw.count(LOrphanTree;I[J)I -/
noncomputable def pr_c305 : Nat → ev_E := (ev_ct 8 (ev_ct 3 (ev_ct 1 (ev_ct 0 (pr_q 0 (7, (1, (2, (0, (0, [])))))) (pr_q 1 (1, (2, (0, (0, (0, []))))))) (ev_ct 2 (pr_q 2 (7, (3, (0, (0, (0, [])))))) (pr_q 3 (6, (4, (1, (0, (0, [])))))))) (ev_ct 7 (ev_ct 4 (pr_q 4 (35, (7, (6, (2, (7, [1, 6])))))) (pr_q 7 (43, (8, (0, (0, (0, []))))))) (pr_q 8 (31, (9, (0, (0, (0, [])))))))) (ev_ct 13 (ev_ct 12 (ev_ct 9 (pr_q 9 (20, (15, (0, (0, (0, [])))))) (pr_q 12 (10, (13, (3, (0, (0, []))))))) (pr_q 13 (1, (14, (1, (0, (0, []))))))) (ev_ct 15 (ev_ct 14 (pr_q 14 (39, (15, (0, (0, (0, [])))))) (pr_q 15 (1, (16, (0, (0, (0, []))))))) (pr_q 16 (39, (17, (0, (0, (0, [])))))))))
def pr_y305 : MethodName := ⟨"OrphanTreeLaw", "count", "(LOrphanTree;I[J)I"⟩
def pr_i305 : ev_Im := (pr_y305, (method_3_code, ((some .int), [(0, (9, (12, 13)))])))
noncomputable def pr_m305 : ev_M := (4, (1, (6, ([(0, (9, (12, 0)))], pr_c305))))
/-- OrphanTreeLaw.process(LOrphanTree;II[J)I -/
noncomputable def pr_c306 : Nat → ev_E := (ev_ct 10 (ev_ct 4 (ev_ct 2 (ev_ct 1 (ev_ct 0 (pr_q 0 (7, (1, (3, (0, (0, [])))))) (pr_q 1 (1, (2, (0, (0, (0, []))))))) (pr_q 2 (7, (3, (0, (0, (0, []))))))) (ev_ct 3 (pr_q 3 (6, (4, (1, (0, (0, [])))))) (pr_q 4 (6, (5, (2, (0, (0, [])))))))) (ev_ct 8 (ev_ct 5 (pr_q 5 (35, (8, (7, (3, (7, [2, 12])))))) (pr_q 8 (43, (9, (0, (0, (0, []))))))) (ev_ct 9 (pr_q 9 (31, (10, (0, (0, (0, [])))))) (pr_q 10 (20, (21, (0, (0, (0, []))))))))) (ev_ct 17 (ev_ct 15 (ev_ct 13 (pr_q 13 (10, (15, (4, (0, (0, [])))))) (pr_q 15 (1, (16, (1, (0, (0, []))))))) (ev_ct 16 (pr_q 16 (39, (17, (0, (0, (0, [])))))) (pr_q 17 (10, (19, (4, (0, (0, [])))))))) (ev_ct 20 (ev_ct 19 (pr_q 19 (1, (20, (2, (0, (0, [])))))) (pr_q 20 (39, (21, (0, (0, (0, []))))))) (ev_ct 21 (pr_q 21 (1, (22, (0, (0, (0, [])))))) (pr_q 22 (39, (23, (0, (0, (0, []))))))))))
def pr_y306 : MethodName := ⟨"OrphanTreeLaw", "process", "(LOrphanTree;II[J)I"⟩
def pr_i306 : ev_Im := (pr_y306, (method_4_code, ((some .int), [(0, (10, (13, 19))), (0, (10, (17, 13)))])))
noncomputable def pr_m306 : ev_M := (5, (2, (12, ([(0, (10, (13, 2))), (0, (10, (17, 0)))], pr_c306))))
/-- OrphanTreeLaw.holder(LOrphanTree;I[J)I -/
noncomputable def pr_c307 : Nat → ev_E := (ev_ct 8 (ev_ct 3 (ev_ct 1 (ev_ct 0 (pr_q 0 (7, (1, (2, (0, (0, [])))))) (pr_q 1 (1, (2, (0, (0, (0, []))))))) (ev_ct 2 (pr_q 2 (7, (3, (0, (0, (0, [])))))) (pr_q 3 (6, (4, (1, (0, (0, [])))))))) (ev_ct 7 (ev_ct 4 (pr_q 4 (35, (7, (8, (2, (7, [1, 6])))))) (pr_q 7 (43, (8, (0, (0, (0, []))))))) (pr_q 8 (31, (9, (0, (0, (0, [])))))))) (ev_ct 13 (ev_ct 12 (ev_ct 9 (pr_q 9 (20, (15, (0, (0, (0, [])))))) (pr_q 12 (10, (13, (3, (0, (0, []))))))) (pr_q 13 (1, (14, (1, (0, (0, []))))))) (ev_ct 15 (ev_ct 14 (pr_q 14 (39, (15, (0, (0, (0, [])))))) (pr_q 15 (1, (16, (0, (0, (0, []))))))) (pr_q 16 (39, (17, (0, (0, (0, [])))))))))
def pr_y307 : MethodName := ⟨"OrphanTreeLaw", "holder", "(LOrphanTree;I[J)I"⟩
def pr_i307 : ev_Im := (pr_y307, (method_5_code, ((some .int), [(0, (9, (12, 13)))])))
noncomputable def pr_m307 : ev_M := (4, (1, (6, ([(0, (9, (12, 0)))], pr_c307))))
/-- OrphanTreeLaw.depth(LOrphanTree;I[J)I -/
noncomputable def pr_c308 : Nat → ev_E := (ev_ct 8 (ev_ct 3 (ev_ct 1 (ev_ct 0 (pr_q 0 (7, (1, (2, (0, (0, [])))))) (pr_q 1 (1, (2, (0, (0, (0, []))))))) (ev_ct 2 (pr_q 2 (7, (3, (0, (0, (0, [])))))) (pr_q 3 (6, (4, (1, (0, (0, [])))))))) (ev_ct 7 (ev_ct 4 (pr_q 4 (35, (7, (10, (2, (7, [2, 12])))))) (pr_q 7 (43, (8, (0, (0, (0, []))))))) (pr_q 8 (31, (9, (0, (0, (0, [])))))))) (ev_ct 13 (ev_ct 12 (ev_ct 9 (pr_q 9 (20, (18, (0, (0, (0, [])))))) (pr_q 12 (10, (13, (3, (0, (0, []))))))) (pr_q 13 (1, (14, (1, (0, (0, []))))))) (ev_ct 18 (ev_ct 14 (pr_q 14 (39, (15, (0, (0, (0, [])))))) (pr_q 18 (1, (19, (0, (0, (0, []))))))) (pr_q 19 (39, (20, (0, (0, (0, [])))))))))
def pr_y308 : MethodName := ⟨"OrphanTreeLaw", "depth", "(LOrphanTree;I[J)I"⟩
def pr_i308 : ev_Im := (pr_y308, (method_6_code, ((some .int), [(0, (9, (12, 19))), (0, (9, (15, 27)))])))
noncomputable def pr_m308 : ev_M := (4, (2, (12, ([(0, (9, (12, 2))), (0, (9, (15, 1)))], pr_c308))))
/-- OrphanTreeLaw.isAbove(LOrphanTree;II[J)I -/
noncomputable def pr_c309 : Nat → ev_E := (ev_ct 15 (ev_ct 3 (ev_ct 1 (ev_ct 0 (pr_q 0 (7, (1, (3, (0, (0, [])))))) (pr_q 1 (1, (2, (0, (0, (0, []))))))) (ev_ct 2 (pr_q 2 (7, (3, (0, (0, (0, [])))))) (pr_q 3 (6, (4, (1, (0, (0, [])))))))) (ev_ct 5 (ev_ct 4 (pr_q 4 (6, (5, (2, (0, (0, [])))))) (pr_q 5 (35, (8, (11, (3, (7, [2, 12]))))))) (ev_ct 8 (pr_q 8 (16, (11, (0, (15, (11, [])))))) (pr_q 15 (3, (16, (0, (0, (0, []))))))))) (ev_ct 22 (ev_ct 17 (ev_ct 16 (pr_q 16 (31, (17, (0, (0, (0, [])))))) (pr_q 17 (20, (24, (0, (0, (0, []))))))) (ev_ct 20 (pr_q 20 (10, (22, (4, (0, (0, [])))))) (pr_q 22 (1, (23, (1, (0, (0, [])))))))) (ev_ct 24 (ev_ct 23 (pr_q 23 (39, (24, (0, (0, (0, [])))))) (pr_q 24 (1, (25, (0, (0, (0, []))))))) (pr_q 25 (39, (26, (0, (0, (0, [])))))))))
def pr_y309 : MethodName := ⟨"OrphanTreeLaw", "isAbove", "(LOrphanTree;II[J)I"⟩
def pr_i309 : ev_Im := (pr_y309, (method_7_code, ((some .int), [(0, (17, (20, 19)))])))
noncomputable def pr_m309 : ev_M := (5, (2, (12, ([(0, (17, (20, 2)))], pr_c309))))
/-- OrphanTreeLaw.meet(LOrphanTree;II[J)I -/
noncomputable def pr_c310 : Nat → ev_E := (ev_ct 8 (ev_ct 3 (ev_ct 1 (ev_ct 0 (pr_q 0 (7, (1, (3, (0, (0, [])))))) (pr_q 1 (1, (2, (0, (0, (0, []))))))) (ev_ct 2 (pr_q 2 (7, (3, (0, (0, (0, [])))))) (pr_q 3 (6, (4, (1, (0, (0, [])))))))) (ev_ct 5 (ev_ct 4 (pr_q 4 (6, (5, (2, (0, (0, [])))))) (pr_q 5 (35, (8, (12, (3, (7, [3, 18]))))))) (pr_q 8 (43, (9, (0, (0, (0, [])))))))) (ev_ct 15 (ev_ct 10 (ev_ct 9 (pr_q 9 (31, (10, (0, (0, (0, [])))))) (pr_q 10 (20, (21, (0, (0, (0, []))))))) (ev_ct 13 (pr_q 13 (10, (15, (4, (0, (0, [])))))) (pr_q 15 (1, (16, (1, (0, (0, [])))))))) (ev_ct 21 (ev_ct 16 (pr_q 16 (39, (17, (0, (0, (0, [])))))) (pr_q 21 (1, (22, (0, (0, (0, []))))))) (pr_q 22 (39, (23, (0, (0, (0, [])))))))))
def pr_y310 : MethodName := ⟨"OrphanTreeLaw", "meet", "(LOrphanTree;II[J)I"⟩
def pr_i310 : ev_Im := (pr_y310, (method_8_code, ((some .int), [(0, (10, (13, 19))), (0, (10, (17, 27)))])))
noncomputable def pr_m310 : ev_M := (5, (3, (18, ([(0, (10, (13, 2))), (0, (10, (17, 1)))], pr_c310))))
/-- OrphanTreeLaw.below(LOrphanTree;I[J)I -/
noncomputable def pr_c311 : Nat → ev_E := (ev_ct 8 (ev_ct 3 (ev_ct 1 (ev_ct 0 (pr_q 0 (7, (1, (2, (0, (0, [])))))) (pr_q 1 (1, (2, (0, (0, (0, []))))))) (ev_ct 2 (pr_q 2 (7, (3, (0, (0, (0, [])))))) (pr_q 3 (6, (4, (1, (0, (0, [])))))))) (ev_ct 7 (ev_ct 4 (pr_q 4 (35, (7, (13, (2, (7, [1, 6])))))) (pr_q 7 (43, (8, (0, (0, (0, []))))))) (pr_q 8 (31, (9, (0, (0, (0, [])))))))) (ev_ct 13 (ev_ct 12 (ev_ct 9 (pr_q 9 (20, (15, (0, (0, (0, [])))))) (pr_q 12 (10, (13, (3, (0, (0, []))))))) (pr_q 13 (1, (14, (1, (0, (0, []))))))) (ev_ct 15 (ev_ct 14 (pr_q 14 (39, (15, (0, (0, (0, [])))))) (pr_q 15 (1, (16, (0, (0, (0, []))))))) (pr_q 16 (39, (17, (0, (0, (0, [])))))))))
def pr_y311 : MethodName := ⟨"OrphanTreeLaw", "below", "(LOrphanTree;I[J)I"⟩
def pr_i311 : ev_Im := (pr_y311, (method_9_code, ((some .int), [(0, (9, (12, 19)))])))
noncomputable def pr_m311 : ev_M := (4, (1, (6, ([(0, (9, (12, 2)))], pr_c311))))
/-- OrphanTreeLaw.walked(LOrphanTree;I[J)I -/
noncomputable def pr_c312 : Nat → ev_E := (ev_ct 8 (ev_ct 3 (ev_ct 1 (ev_ct 0 (pr_q 0 (7, (1, (2, (0, (0, [])))))) (pr_q 1 (1, (2, (0, (0, (0, []))))))) (ev_ct 2 (pr_q 2 (7, (3, (0, (0, (0, [])))))) (pr_q 3 (6, (4, (1, (0, (0, [])))))))) (ev_ct 7 (ev_ct 4 (pr_q 4 (35, (7, (14, (2, (7, [1, 6])))))) (pr_q 7 (43, (8, (0, (0, (0, []))))))) (pr_q 8 (31, (9, (0, (0, (0, [])))))))) (ev_ct 13 (ev_ct 12 (ev_ct 9 (pr_q 9 (20, (15, (0, (0, (0, [])))))) (pr_q 12 (10, (13, (3, (0, (0, []))))))) (pr_q 13 (1, (14, (1, (0, (0, []))))))) (ev_ct 15 (ev_ct 14 (pr_q 14 (39, (15, (0, (0, (0, [])))))) (pr_q 15 (1, (16, (0, (0, (0, []))))))) (pr_q 16 (39, (17, (0, (0, (0, [])))))))))
def pr_y312 : MethodName := ⟨"OrphanTreeLaw", "walked", "(LOrphanTree;I[J)I"⟩
def pr_i312 : ev_Im := (pr_y312, (method_10_code, ((some .int), [(0, (9, (12, 42)))])))
noncomputable def pr_m312 : ev_M := (4, (1, (6, ([(0, (9, (12, 3)))], pr_c312))))
/-- OrphanTreeLaw.spawn(LOrphanTree;IIII[J)I -/
noncomputable def pr_c313 : Nat → ev_E := (ev_ct 13 (ev_ct 5 (ev_ct 3 (ev_ct 2 (ev_ct 0 (pr_q 0 (7, (2, (5, (0, (0, [])))))) (pr_q 2 (1, (3, (0, (0, (0, []))))))) (pr_q 3 (7, (4, (0, (0, (0, []))))))) (ev_ct 4 (pr_q 4 (6, (5, (1, (0, (0, [])))))) (pr_q 5 (6, (6, (2, (0, (0, [])))))))) (ev_ct 9 (ev_ct 7 (ev_ct 6 (pr_q 6 (6, (7, (3, (0, (0, [])))))) (pr_q 7 (6, (9, (4, (0, (0, []))))))) (pr_q 9 (35, (12, (17, (5, (7, [5, 30]))))))) (ev_ct 12 (pr_q 12 (43, (13, (0, (0, (0, [])))))) (pr_q 13 (31, (14, (0, (0, (0, []))))))))) (ev_ct 21 (ev_ct 19 (ev_ct 17 (ev_ct 14 (pr_q 14 (20, (29, (0, (0, (0, [])))))) (pr_q 17 (10, (19, (6, (0, (0, []))))))) (pr_q 19 (1, (20, (1, (0, (0, []))))))) (ev_ct 20 (pr_q 20 (39, (21, (0, (0, (0, [])))))) (pr_q 21 (10, (23, (6, (0, (0, [])))))))) (ev_ct 24 (ev_ct 23 (pr_q 23 (1, (24, (2, (0, (0, [])))))) (pr_q 24 (39, (25, (0, (0, (0, []))))))) (ev_ct 29 (pr_q 29 (1, (30, (0, (0, (0, [])))))) (pr_q 30 (39, (31, (0, (0, (0, []))))))))))
def pr_y313 : MethodName := ⟨"OrphanTreeLaw", "spawn", "(LOrphanTree;IIII[J)I"⟩
def pr_i313 : ev_Im := (pr_y313, (method_11_code, ((some .int), [(0, (14, (17, 19))), (0, (14, (21, 13))), (0, (14, (25, 27)))])))
noncomputable def pr_m313 : ev_M := (7, (5, (30, ([(0, (14, (17, 2))), (0, (14, (21, 0))), (0, (14, (25, 1)))], pr_c313))))
/-- OrphanTreeLaw.exit(LOrphanTree;II[J)I -/
noncomputable def pr_c314 : Nat → ev_E := (ev_ct 15 (ev_ct 3 (ev_ct 1 (ev_ct 0 (pr_q 0 (7, (1, (3, (0, (0, [])))))) (pr_q 1 (1, (2, (0, (0, (0, []))))))) (ev_ct 2 (pr_q 2 (7, (3, (0, (0, (0, [])))))) (pr_q 3 (6, (4, (1, (0, (0, [])))))))) (ev_ct 5 (ev_ct 4 (pr_q 4 (6, (5, (2, (0, (0, [])))))) (pr_q 5 (35, (8, (18, (3, (7, [3, 18]))))))) (ev_ct 13 (pr_q 13 (10, (15, (4, (0, (0, [])))))) (pr_q 15 (1, (16, (1, (0, (0, []))))))))) (ev_ct 20 (ev_ct 17 (ev_ct 16 (pr_q 16 (39, (17, (0, (0, (0, [])))))) (pr_q 17 (10, (19, (4, (0, (0, []))))))) (ev_ct 19 (pr_q 19 (1, (20, (2, (0, (0, [])))))) (pr_q 20 (39, (21, (0, (0, (0, [])))))))) (ev_ct 23 (ev_ct 21 (pr_q 21 (10, (23, (4, (0, (0, [])))))) (pr_q 23 (1, (24, (3, (0, (0, []))))))) (pr_q 24 (39, (25, (0, (0, (0, [])))))))))
def pr_y314 : MethodName := ⟨"OrphanTreeLaw", "exit", "(LOrphanTree;II[J)I"⟩
def pr_i314 : ev_Im := (pr_y314, (method_12_code, ((some .int), [(0, (10, (13, 19))), (0, (10, (17, 13))), (0, (10, (21, 27)))])))
noncomputable def pr_m314 : ev_M := (5, (3, (18, ([(0, (10, (13, 2))), (0, (10, (17, 0))), (0, (10, (21, 1)))], pr_c314))))
/-- OrphanTreeLaw.kill(LOrphanTree;II[J)I -/
noncomputable def pr_c315 : Nat → ev_E := (ev_ct 8 (ev_ct 3 (ev_ct 1 (ev_ct 0 (pr_q 0 (7, (1, (3, (0, (0, [])))))) (pr_q 1 (1, (2, (0, (0, (0, []))))))) (ev_ct 2 (pr_q 2 (7, (3, (0, (0, (0, [])))))) (pr_q 3 (6, (4, (1, (0, (0, [])))))))) (ev_ct 5 (ev_ct 4 (pr_q 4 (6, (5, (2, (0, (0, [])))))) (pr_q 5 (35, (8, (19, (3, (7, [2, 12]))))))) (pr_q 8 (43, (9, (0, (0, (0, [])))))))) (ev_ct 15 (ev_ct 10 (ev_ct 9 (pr_q 9 (31, (10, (0, (0, (0, [])))))) (pr_q 10 (20, (17, (0, (0, (0, []))))))) (ev_ct 13 (pr_q 13 (10, (15, (4, (0, (0, [])))))) (pr_q 15 (1, (16, (1, (0, (0, [])))))))) (ev_ct 17 (ev_ct 16 (pr_q 16 (39, (17, (0, (0, (0, [])))))) (pr_q 17 (1, (18, (0, (0, (0, []))))))) (pr_q 18 (39, (19, (0, (0, (0, [])))))))))
def pr_y315 : MethodName := ⟨"OrphanTreeLaw", "kill", "(LOrphanTree;II[J)I"⟩
def pr_i315 : ev_Im := (pr_y315, (method_13_code, ((some .int), [(0, (10, (13, 13)))])))
noncomputable def pr_m315 : ev_M := (5, (2, (12, ([(0, (10, (13, 0)))], pr_c315))))
/-- OrphanTreeLaw.read(LOrphanTree;I[J)I -/
noncomputable def pr_c316 : Nat → ev_E := (ev_ct 12 (ev_ct 2 (ev_ct 1 (ev_ct 0 (pr_q 0 (7, (1, (2, (0, (0, [])))))) (pr_q 1 (1, (2, (0, (0, (0, []))))))) (pr_q 2 (7, (3, (0, (0, (0, []))))))) (ev_ct 4 (ev_ct 3 (pr_q 3 (6, (4, (1, (0, (0, [])))))) (pr_q 4 (35, (7, (20, (2, (7, [3, 18]))))))) (pr_q 12 (10, (13, (3, (0, (0, [])))))))) (ev_ct 18 (ev_ct 14 (ev_ct 13 (pr_q 13 (1, (14, (1, (0, (0, [])))))) (pr_q 14 (39, (15, (0, (0, (0, []))))))) (pr_q 18 (10, (19, (3, (0, (0, []))))))) (ev_ct 19 (pr_q 19 (1, (20, (3, (0, (0, [])))))) (pr_q 20 (39, (21, (0, (0, (0, [])))))))))
def pr_y316 : MethodName := ⟨"OrphanTreeLaw", "read", "(LOrphanTree;I[J)I"⟩
def pr_i316 : ev_Im := (pr_y316, (method_14_code, ((some .int), [(0, (9, (12, 19))), (0, (9, (15, 27))), (0, (9, (18, 42)))])))
noncomputable def pr_m316 : ev_M := (4, (3, (18, ([(0, (9, (12, 2))), (0, (9, (15, 1))), (0, (9, (18, 3)))], pr_c316))))
/-- OrphanTreeLaw.refuse(LOrphanTree;II[J)I -/
noncomputable def pr_c317 : Nat → ev_E := (ev_ct 15 (ev_ct 3 (ev_ct 1 (ev_ct 0 (pr_q 0 (7, (1, (3, (0, (0, [])))))) (pr_q 1 (1, (2, (0, (0, (0, []))))))) (ev_ct 2 (pr_q 2 (7, (3, (0, (0, (0, [])))))) (pr_q 3 (6, (4, (1, (0, (0, [])))))))) (ev_ct 5 (ev_ct 4 (pr_q 4 (6, (5, (2, (0, (0, [])))))) (pr_q 5 (35, (8, (21, (3, (7, [3, 18]))))))) (ev_ct 13 (pr_q 13 (10, (15, (4, (0, (0, [])))))) (pr_q 15 (1, (16, (1, (0, (0, []))))))))) (ev_ct 20 (ev_ct 17 (ev_ct 16 (pr_q 16 (39, (17, (0, (0, (0, [])))))) (pr_q 17 (10, (19, (4, (0, (0, []))))))) (ev_ct 19 (pr_q 19 (1, (20, (2, (0, (0, [])))))) (pr_q 20 (39, (21, (0, (0, (0, [])))))))) (ev_ct 23 (ev_ct 21 (pr_q 21 (10, (23, (4, (0, (0, [])))))) (pr_q 23 (1, (24, (3, (0, (0, []))))))) (pr_q 24 (39, (25, (0, (0, (0, [])))))))))
def pr_y317 : MethodName := ⟨"OrphanTreeLaw", "refuse", "(LOrphanTree;II[J)I"⟩
def pr_i317 : ev_Im := (pr_y317, (method_15_code, ((some .int), [(0, (10, (13, 19))), (0, (10, (17, 13))), (0, (10, (21, 27)))])))
noncomputable def pr_m317 : ev_M := (5, (3, (18, ([(0, (10, (13, 2))), (0, (10, (17, 0))), (0, (10, (21, 1)))], pr_c317))))
/-- OrphanTreeLaw.accept(LOrphanTree;II[J)I -/
noncomputable def pr_c318 : Nat → ev_E := (ev_ct 16 (ev_ct 4 (ev_ct 2 (ev_ct 1 (ev_ct 0 (pr_q 0 (7, (1, (3, (0, (0, [])))))) (pr_q 1 (1, (2, (0, (0, (0, []))))))) (pr_q 2 (7, (3, (0, (0, (0, []))))))) (ev_ct 3 (pr_q 3 (6, (4, (1, (0, (0, [])))))) (pr_q 4 (6, (5, (2, (0, (0, [])))))))) (ev_ct 8 (ev_ct 5 (pr_q 5 (35, (8, (22, (3, (7, [3, 18])))))) (pr_q 8 (16, (11, (0, (15, (11, []))))))) (ev_ct 15 (pr_q 15 (3, (16, (0, (0, (0, [])))))) (pr_q 16 (31, (17, (0, (0, (0, []))))))))) (ev_ct 24 (ev_ct 22 (ev_ct 20 (ev_ct 17 (pr_q 17 (20, (32, (0, (0, (0, [])))))) (pr_q 20 (10, (22, (4, (0, (0, []))))))) (pr_q 22 (1, (23, (1, (0, (0, []))))))) (ev_ct 23 (pr_q 23 (39, (24, (0, (0, (0, [])))))) (pr_q 24 (10, (26, (4, (0, (0, [])))))))) (ev_ct 27 (ev_ct 26 (pr_q 26 (1, (27, (2, (0, (0, [])))))) (pr_q 27 (39, (28, (0, (0, (0, []))))))) (ev_ct 32 (pr_q 32 (1, (33, (0, (0, (0, [])))))) (pr_q 33 (39, (34, (0, (0, (0, []))))))))))
def pr_y318 : MethodName := ⟨"OrphanTreeLaw", "accept", "(LOrphanTree;II[J)I"⟩
def pr_i318 : ev_Im := (pr_y318, (method_16_code, ((some .int), [(0, (17, (20, 19))), (0, (17, (24, 13))), (0, (17, (28, 27)))])))
noncomputable def pr_m318 : ev_M := (5, (3, (18, ([(0, (17, (20, 2))), (0, (17, (24, 0))), (0, (17, (28, 1)))], pr_c318))))
/-- OrphanTreeLaw.move(LOrphanTree;II[J)I -/
noncomputable def pr_c319 : Nat → ev_E := (ev_ct 5 (ev_ct 2 (ev_ct 1 (ev_ct 0 (pr_q 0 (7, (1, (3, (0, (0, [])))))) (pr_q 1 (1, (2, (0, (0, (0, []))))))) (pr_q 2 (7, (3, (0, (0, (0, []))))))) (ev_ct 4 (ev_ct 3 (pr_q 3 (6, (4, (1, (0, (0, [])))))) (pr_q 4 (6, (5, (2, (0, (0, []))))))) (pr_q 5 (35, (8, (23, (3, (7, [3, 18])))))))) (ev_ct 16 (ev_ct 15 (ev_ct 13 (pr_q 13 (10, (15, (4, (0, (0, [])))))) (pr_q 15 (1, (16, (1, (0, (0, []))))))) (pr_q 16 (39, (17, (0, (0, (0, []))))))) (ev_ct 19 (ev_ct 17 (pr_q 17 (10, (19, (4, (0, (0, [])))))) (pr_q 19 (1, (20, (2, (0, (0, []))))))) (pr_q 20 (39, (21, (0, (0, (0, [])))))))))
def pr_y319 : MethodName := ⟨"OrphanTreeLaw", "move", "(LOrphanTree;II[J)I"⟩
def pr_i319 : ev_Im := (pr_y319, (method_17_code, ((some .int), [(0, (10, (13, 19))), (0, (10, (17, 27)))])))
noncomputable def pr_m319 : ev_M := (5, (3, (18, ([(0, (10, (13, 2))), (0, (10, (17, 1)))], pr_c319))))
/-- OrphanTreeLaw.setCapacity(LOrphanTree;II[J)I -/
noncomputable def pr_c320 : Nat → ev_E := (ev_ct 10 (ev_ct 4 (ev_ct 2 (ev_ct 1 (ev_ct 0 (pr_q 0 (7, (1, (3, (0, (0, [])))))) (pr_q 1 (1, (2, (0, (0, (0, []))))))) (pr_q 2 (7, (3, (0, (0, (0, []))))))) (ev_ct 3 (pr_q 3 (6, (4, (1, (0, (0, [])))))) (pr_q 4 (6, (5, (2, (0, (0, [])))))))) (ev_ct 8 (ev_ct 5 (pr_q 5 (35, (8, (24, (3, (7, [3, 18])))))) (pr_q 8 (43, (9, (0, (0, (0, []))))))) (ev_ct 9 (pr_q 9 (31, (10, (0, (0, (0, [])))))) (pr_q 10 (20, (25, (0, (0, (0, []))))))))) (ev_ct 17 (ev_ct 15 (ev_ct 13 (pr_q 13 (10, (15, (4, (0, (0, [])))))) (pr_q 15 (1, (16, (1, (0, (0, []))))))) (ev_ct 16 (pr_q 16 (39, (17, (0, (0, (0, [])))))) (pr_q 17 (10, (19, (4, (0, (0, [])))))))) (ev_ct 20 (ev_ct 19 (pr_q 19 (1, (20, (2, (0, (0, [])))))) (pr_q 20 (39, (21, (0, (0, (0, []))))))) (ev_ct 25 (pr_q 25 (1, (26, (0, (0, (0, [])))))) (pr_q 26 (39, (27, (0, (0, (0, []))))))))))
def pr_y320 : MethodName := ⟨"OrphanTreeLaw", "setCapacity", "(LOrphanTree;II[J)I"⟩
def pr_i320 : ev_Im := (pr_y320, (method_18_code, ((some .int), [(0, (10, (13, 19))), (0, (10, (17, 13))), (0, (10, (21, 27)))])))
noncomputable def pr_m320 : ev_M := (5, (3, (18, ([(0, (10, (13, 2))), (0, (10, (17, 0))), (0, (10, (21, 1)))], pr_c320))))
/-- OrphanTreeLaw.setBudget(LOrphanTree;II[J)I -/
noncomputable def pr_c321 : Nat → ev_E := (ev_ct 10 (ev_ct 4 (ev_ct 2 (ev_ct 1 (ev_ct 0 (pr_q 0 (7, (1, (3, (0, (0, [])))))) (pr_q 1 (1, (2, (0, (0, (0, []))))))) (pr_q 2 (7, (3, (0, (0, (0, []))))))) (ev_ct 3 (pr_q 3 (6, (4, (1, (0, (0, [])))))) (pr_q 4 (6, (5, (2, (0, (0, [])))))))) (ev_ct 8 (ev_ct 5 (pr_q 5 (35, (8, (25, (3, (7, [3, 18])))))) (pr_q 8 (43, (9, (0, (0, (0, []))))))) (ev_ct 9 (pr_q 9 (31, (10, (0, (0, (0, [])))))) (pr_q 10 (20, (25, (0, (0, (0, []))))))))) (ev_ct 17 (ev_ct 15 (ev_ct 13 (pr_q 13 (10, (15, (4, (0, (0, [])))))) (pr_q 15 (1, (16, (1, (0, (0, []))))))) (ev_ct 16 (pr_q 16 (39, (17, (0, (0, (0, [])))))) (pr_q 17 (10, (19, (4, (0, (0, [])))))))) (ev_ct 20 (ev_ct 19 (pr_q 19 (1, (20, (2, (0, (0, [])))))) (pr_q 20 (39, (21, (0, (0, (0, []))))))) (ev_ct 25 (pr_q 25 (1, (26, (0, (0, (0, [])))))) (pr_q 26 (39, (27, (0, (0, (0, []))))))))))
def pr_y321 : MethodName := ⟨"OrphanTreeLaw", "setBudget", "(LOrphanTree;II[J)I"⟩
def pr_i321 : ev_Im := (pr_y321, (method_19_code, ((some .int), [(0, (10, (13, 19))), (0, (10, (17, 13))), (0, (10, (21, 27)))])))
noncomputable def pr_m321 : ev_M := (5, (3, (18, ([(0, (10, (13, 2))), (0, (10, (17, 0))), (0, (10, (21, 1)))], pr_c321))))
/-- OrphanTreeLaw.setHeir(LOrphanTree;II[J)I -/
noncomputable def pr_c322 : Nat → ev_E := (ev_ct 15 (ev_ct 3 (ev_ct 1 (ev_ct 0 (pr_q 0 (7, (1, (3, (0, (0, [])))))) (pr_q 1 (1, (2, (0, (0, (0, []))))))) (ev_ct 2 (pr_q 2 (7, (3, (0, (0, (0, [])))))) (pr_q 3 (6, (4, (1, (0, (0, [])))))))) (ev_ct 5 (ev_ct 4 (pr_q 4 (6, (5, (2, (0, (0, [])))))) (pr_q 5 (35, (8, (26, (3, (7, [3, 18]))))))) (ev_ct 13 (pr_q 13 (10, (15, (4, (0, (0, [])))))) (pr_q 15 (1, (16, (1, (0, (0, []))))))))) (ev_ct 20 (ev_ct 17 (ev_ct 16 (pr_q 16 (39, (17, (0, (0, (0, [])))))) (pr_q 17 (10, (19, (4, (0, (0, []))))))) (ev_ct 19 (pr_q 19 (1, (20, (2, (0, (0, [])))))) (pr_q 20 (39, (21, (0, (0, (0, [])))))))) (ev_ct 23 (ev_ct 21 (pr_q 21 (10, (23, (4, (0, (0, [])))))) (pr_q 23 (1, (24, (3, (0, (0, []))))))) (pr_q 24 (39, (25, (0, (0, (0, [])))))))))
def pr_y322 : MethodName := ⟨"OrphanTreeLaw", "setHeir", "(LOrphanTree;II[J)I"⟩
def pr_i322 : ev_Im := (pr_y322, (method_20_code, ((some .int), [(0, (10, (13, 19))), (0, (10, (17, 13))), (0, (10, (21, 27)))])))
noncomputable def pr_m322 : ev_M := (5, (3, (18, ([(0, (10, (13, 2))), (0, (10, (17, 0))), (0, (10, (21, 1)))], pr_c322))))
/-- OrphanTreeLaw.give(LOrphanTree;II[J)I -/
noncomputable def pr_c323 : Nat → ev_E := (ev_ct 10 (ev_ct 4 (ev_ct 2 (ev_ct 1 (ev_ct 0 (pr_q 0 (7, (1, (3, (0, (0, [])))))) (pr_q 1 (1, (2, (0, (0, (0, []))))))) (pr_q 2 (7, (3, (0, (0, (0, []))))))) (ev_ct 3 (pr_q 3 (6, (4, (1, (0, (0, [])))))) (pr_q 4 (6, (5, (2, (0, (0, [])))))))) (ev_ct 8 (ev_ct 5 (pr_q 5 (35, (8, (27, (3, (7, [3, 18])))))) (pr_q 8 (43, (9, (0, (0, (0, []))))))) (ev_ct 9 (pr_q 9 (31, (10, (0, (0, (0, [])))))) (pr_q 10 (20, (25, (0, (0, (0, []))))))))) (ev_ct 17 (ev_ct 15 (ev_ct 13 (pr_q 13 (10, (15, (4, (0, (0, [])))))) (pr_q 15 (1, (16, (1, (0, (0, []))))))) (ev_ct 16 (pr_q 16 (39, (17, (0, (0, (0, [])))))) (pr_q 17 (10, (19, (4, (0, (0, [])))))))) (ev_ct 20 (ev_ct 19 (pr_q 19 (1, (20, (2, (0, (0, [])))))) (pr_q 20 (39, (21, (0, (0, (0, []))))))) (ev_ct 25 (pr_q 25 (1, (26, (0, (0, (0, [])))))) (pr_q 26 (39, (27, (0, (0, (0, []))))))))))
def pr_y323 : MethodName := ⟨"OrphanTreeLaw", "give", "(LOrphanTree;II[J)I"⟩
def pr_i323 : ev_Im := (pr_y323, (method_21_code, ((some .int), [(0, (10, (13, 13))), (0, (10, (17, 19))), (0, (10, (21, 27)))])))
noncomputable def pr_m323 : ev_M := (5, (3, (18, ([(0, (10, (13, 0))), (0, (10, (17, 2))), (0, (10, (21, 1)))], pr_c323))))
/-- OrphanTreeLaw.adopter(LOrphanTree;I[J)I -/
noncomputable def pr_c324 : Nat → ev_E := (ev_ct 12 (ev_ct 2 (ev_ct 1 (ev_ct 0 (pr_q 0 (7, (1, (2, (0, (0, [])))))) (pr_q 1 (1, (2, (0, (0, (0, []))))))) (pr_q 2 (7, (3, (0, (0, (0, []))))))) (ev_ct 4 (ev_ct 3 (pr_q 3 (6, (4, (1, (0, (0, [])))))) (pr_q 4 (35, (7, (28, (2, (7, [2, 12]))))))) (pr_q 12 (10, (13, (3, (0, (0, [])))))))) (ev_ct 15 (ev_ct 14 (ev_ct 13 (pr_q 13 (1, (14, (1, (0, (0, [])))))) (pr_q 14 (39, (15, (0, (0, (0, []))))))) (pr_q 15 (10, (16, (3, (0, (0, []))))))) (ev_ct 16 (pr_q 16 (1, (17, (2, (0, (0, [])))))) (pr_q 17 (39, (18, (0, (0, (0, [])))))))))
def pr_y324 : MethodName := ⟨"OrphanTreeLaw", "adopter", "(LOrphanTree;I[J)I"⟩
def pr_i324 : ev_Im := (pr_y324, (method_22_code, ((some .int), [(0, (9, (12, 19))), (0, (9, (15, 27)))])))
noncomputable def pr_m324 : ev_M := (4, (2, (12, ([(0, (9, (12, 2))), (0, (9, (15, 1)))], pr_c324))))
/-- OrphanTreeLaw.heirNow(LOrphanTree;I[J)I -/
noncomputable def pr_c325 : Nat → ev_E := (ev_ct 12 (ev_ct 2 (ev_ct 1 (ev_ct 0 (pr_q 0 (7, (1, (2, (0, (0, [])))))) (pr_q 1 (1, (2, (0, (0, (0, []))))))) (pr_q 2 (7, (3, (0, (0, (0, []))))))) (ev_ct 4 (ev_ct 3 (pr_q 3 (6, (4, (1, (0, (0, [])))))) (pr_q 4 (35, (7, (29, (2, (7, [2, 12]))))))) (pr_q 12 (10, (13, (3, (0, (0, [])))))))) (ev_ct 15 (ev_ct 14 (ev_ct 13 (pr_q 13 (1, (14, (1, (0, (0, [])))))) (pr_q 14 (39, (15, (0, (0, (0, []))))))) (pr_q 15 (10, (16, (3, (0, (0, []))))))) (ev_ct 16 (pr_q 16 (1, (17, (2, (0, (0, [])))))) (pr_q 17 (39, (18, (0, (0, (0, [])))))))))
def pr_y325 : MethodName := ⟨"OrphanTreeLaw", "heirNow", "(LOrphanTree;I[J)I"⟩
def pr_i325 : ev_Im := (pr_y325, (method_23_code, ((some .int), [(0, (9, (12, 19))), (0, (9, (15, 27)))])))
noncomputable def pr_m325 : ev_M := (4, (2, (12, ([(0, (9, (12, 2))), (0, (9, (15, 1)))], pr_c325))))
/-- OrphanTreeLaw.wouldFall(LOrphanTree;II[J)I -/
noncomputable def pr_c326 : Nat → ev_E := (ev_ct 15 (ev_ct 3 (ev_ct 1 (ev_ct 0 (pr_q 0 (7, (1, (3, (0, (0, [])))))) (pr_q 1 (1, (2, (0, (0, (0, []))))))) (ev_ct 2 (pr_q 2 (7, (3, (0, (0, (0, [])))))) (pr_q 3 (6, (4, (1, (0, (0, [])))))))) (ev_ct 5 (ev_ct 4 (pr_q 4 (6, (5, (2, (0, (0, [])))))) (pr_q 5 (35, (8, (30, (3, (7, [3, 18]))))))) (ev_ct 13 (pr_q 13 (10, (15, (4, (0, (0, [])))))) (pr_q 15 (1, (16, (1, (0, (0, []))))))))) (ev_ct 20 (ev_ct 17 (ev_ct 16 (pr_q 16 (39, (17, (0, (0, (0, [])))))) (pr_q 17 (10, (19, (4, (0, (0, []))))))) (ev_ct 19 (pr_q 19 (1, (20, (2, (0, (0, [])))))) (pr_q 20 (39, (21, (0, (0, (0, [])))))))) (ev_ct 23 (ev_ct 21 (pr_q 21 (10, (23, (4, (0, (0, [])))))) (pr_q 23 (1, (24, (3, (0, (0, []))))))) (pr_q 24 (39, (25, (0, (0, (0, [])))))))))
def pr_y326 : MethodName := ⟨"OrphanTreeLaw", "wouldFall", "(LOrphanTree;II[J)I"⟩
def pr_i326 : ev_Im := (pr_y326, (method_24_code, ((some .int), [(0, (10, (13, 19))), (0, (10, (17, 13))), (0, (10, (21, 27)))])))
noncomputable def pr_m326 : ev_M := (5, (3, (18, ([(0, (10, (13, 2))), (0, (10, (17, 0))), (0, (10, (21, 1)))], pr_c326))))
/-- OrphanTreeLaw.wouldStand(LOrphanTree;II[J)I -/
noncomputable def pr_c327 : Nat → ev_E := (ev_ct 15 (ev_ct 3 (ev_ct 1 (ev_ct 0 (pr_q 0 (7, (1, (3, (0, (0, [])))))) (pr_q 1 (1, (2, (0, (0, (0, []))))))) (ev_ct 2 (pr_q 2 (7, (3, (0, (0, (0, [])))))) (pr_q 3 (6, (4, (1, (0, (0, [])))))))) (ev_ct 5 (ev_ct 4 (pr_q 4 (6, (5, (2, (0, (0, [])))))) (pr_q 5 (35, (8, (31, (3, (7, [3, 18]))))))) (ev_ct 13 (pr_q 13 (10, (15, (4, (0, (0, [])))))) (pr_q 15 (1, (16, (1, (0, (0, []))))))))) (ev_ct 20 (ev_ct 17 (ev_ct 16 (pr_q 16 (39, (17, (0, (0, (0, [])))))) (pr_q 17 (10, (19, (4, (0, (0, []))))))) (ev_ct 19 (pr_q 19 (1, (20, (2, (0, (0, [])))))) (pr_q 20 (39, (21, (0, (0, (0, [])))))))) (ev_ct 23 (ev_ct 21 (pr_q 21 (10, (23, (4, (0, (0, [])))))) (pr_q 23 (1, (24, (3, (0, (0, []))))))) (pr_q 24 (39, (25, (0, (0, (0, [])))))))))
def pr_y327 : MethodName := ⟨"OrphanTreeLaw", "wouldStand", "(LOrphanTree;II[J)I"⟩
def pr_i327 : ev_Im := (pr_y327, (method_25_code, ((some .int), [(0, (10, (13, 19))), (0, (10, (17, 13))), (0, (10, (21, 27)))])))
noncomputable def pr_m327 : ev_M := (5, (3, (18, ([(0, (10, (13, 2))), (0, (10, (17, 0))), (0, (10, (21, 1)))], pr_c327))))
/-- OrphanTreeLaw.wouldHave(LOrphanTree;III[J)I -/
noncomputable def pr_c328 : Nat → ev_E := (ev_ct 15 (ev_ct 4 (ev_ct 2 (ev_ct 0 (pr_q 0 (7, (2, (4, (0, (0, [])))))) (pr_q 2 (1, (3, (0, (0, (0, []))))))) (ev_ct 3 (pr_q 3 (7, (4, (0, (0, (0, [])))))) (pr_q 4 (6, (5, (1, (0, (0, [])))))))) (ev_ct 6 (ev_ct 5 (pr_q 5 (6, (6, (2, (0, (0, [])))))) (pr_q 6 (6, (7, (3, (0, (0, []))))))) (ev_ct 7 (pr_q 7 (35, (10, (32, (4, (7, [4, 24])))))) (pr_q 15 (10, (17, (5, (0, (0, []))))))))) (ev_ct 21 (ev_ct 18 (ev_ct 17 (pr_q 17 (1, (18, (1, (0, (0, [])))))) (pr_q 18 (39, (19, (0, (0, (0, []))))))) (ev_ct 19 (pr_q 19 (10, (21, (5, (0, (0, [])))))) (pr_q 21 (1, (22, (2, (0, (0, [])))))))) (ev_ct 23 (ev_ct 22 (pr_q 22 (39, (23, (0, (0, (0, [])))))) (pr_q 23 (10, (25, (5, (0, (0, []))))))) (ev_ct 25 (pr_q 25 (1, (26, (3, (0, (0, [])))))) (pr_q 26 (39, (27, (0, (0, (0, []))))))))))
def pr_y328 : MethodName := ⟨"OrphanTreeLaw", "wouldHave", "(LOrphanTree;III[J)I"⟩
def pr_i328 : ev_Im := (pr_y328, (method_26_code, ((some .int), [(0, (12, (15, 19))), (0, (12, (19, 13))), (0, (12, (23, 27)))])))
noncomputable def pr_m328 : ev_M := (6, (4, (24, ([(0, (12, (15, 2))), (0, (12, (19, 0))), (0, (12, (23, 1)))], pr_c328))))
/-- OrphanTreeLaw.wouldFallBy(LOrphanTree;II[J)I -/
noncomputable def pr_c329 : Nat → ev_E := (ev_ct 8 (ev_ct 3 (ev_ct 1 (ev_ct 0 (pr_q 0 (7, (1, (3, (0, (0, [])))))) (pr_q 1 (1, (2, (0, (0, (0, []))))))) (ev_ct 2 (pr_q 2 (7, (3, (0, (0, (0, [])))))) (pr_q 3 (6, (4, (1, (0, (0, [])))))))) (ev_ct 5 (ev_ct 4 (pr_q 4 (6, (5, (2, (0, (0, [])))))) (pr_q 5 (35, (8, (33, (3, (7, [2, 12]))))))) (pr_q 8 (43, (9, (0, (0, (0, [])))))))) (ev_ct 15 (ev_ct 10 (ev_ct 9 (pr_q 9 (31, (10, (0, (0, (0, [])))))) (pr_q 10 (20, (17, (0, (0, (0, []))))))) (ev_ct 13 (pr_q 13 (10, (15, (4, (0, (0, [])))))) (pr_q 15 (1, (16, (1, (0, (0, [])))))))) (ev_ct 17 (ev_ct 16 (pr_q 16 (39, (17, (0, (0, (0, [])))))) (pr_q 17 (1, (18, (0, (0, (0, []))))))) (pr_q 18 (39, (19, (0, (0, (0, [])))))))))
def pr_y329 : MethodName := ⟨"OrphanTreeLaw", "wouldFallBy", "(LOrphanTree;II[J)I"⟩
def pr_i329 : ev_Im := (pr_y329, (method_27_code, ((some .int), [(0, (10, (13, 13)))])))
noncomputable def pr_m329 : ev_M := (5, (2, (12, ([(0, (10, (13, 0)))], pr_c329))))
/-- OrphanTreeLaw.weakest(LOrphanTree;I[J)I -/
noncomputable def pr_c330 : Nat → ev_E := (ev_ct 8 (ev_ct 3 (ev_ct 1 (ev_ct 0 (pr_q 0 (7, (1, (2, (0, (0, [])))))) (pr_q 1 (1, (2, (0, (0, (0, []))))))) (ev_ct 2 (pr_q 2 (7, (3, (0, (0, (0, [])))))) (pr_q 3 (6, (4, (1, (0, (0, [])))))))) (ev_ct 7 (ev_ct 4 (pr_q 4 (35, (7, (34, (2, (7, [1, 6])))))) (pr_q 7 (43, (8, (0, (0, (0, []))))))) (pr_q 8 (31, (9, (0, (0, (0, [])))))))) (ev_ct 13 (ev_ct 12 (ev_ct 9 (pr_q 9 (20, (15, (0, (0, (0, [])))))) (pr_q 12 (10, (13, (3, (0, (0, []))))))) (pr_q 13 (1, (14, (1, (0, (0, []))))))) (ev_ct 15 (ev_ct 14 (pr_q 14 (39, (15, (0, (0, (0, [])))))) (pr_q 15 (1, (16, (0, (0, (0, []))))))) (pr_q 16 (39, (17, (0, (0, (0, [])))))))))
def pr_y330 : MethodName := ⟨"OrphanTreeLaw", "weakest", "(LOrphanTree;I[J)I"⟩
def pr_i330 : ev_Im := (pr_y330, (method_28_code, ((some .int), [(0, (9, (12, 13)))])))
noncomputable def pr_m330 : ev_M := (4, (1, (6, ([(0, (9, (12, 0)))], pr_c330))))
/-- OrphanTreeLaw.roomiest(LOrphanTree;I[J)I -/
noncomputable def pr_c331 : Nat → ev_E := (ev_ct 8 (ev_ct 3 (ev_ct 1 (ev_ct 0 (pr_q 0 (7, (1, (2, (0, (0, [])))))) (pr_q 1 (1, (2, (0, (0, (0, []))))))) (ev_ct 2 (pr_q 2 (7, (3, (0, (0, (0, [])))))) (pr_q 3 (6, (4, (1, (0, (0, [])))))))) (ev_ct 7 (ev_ct 4 (pr_q 4 (35, (7, (35, (2, (7, [1, 6])))))) (pr_q 7 (43, (8, (0, (0, (0, []))))))) (pr_q 8 (31, (9, (0, (0, (0, [])))))))) (ev_ct 13 (ev_ct 12 (ev_ct 9 (pr_q 9 (20, (15, (0, (0, (0, [])))))) (pr_q 12 (10, (13, (3, (0, (0, []))))))) (pr_q 13 (1, (14, (1, (0, (0, []))))))) (ev_ct 15 (ev_ct 14 (pr_q 14 (39, (15, (0, (0, (0, [])))))) (pr_q 15 (1, (16, (0, (0, (0, []))))))) (pr_q 16 (39, (17, (0, (0, (0, [])))))))))
def pr_y331 : MethodName := ⟨"OrphanTreeLaw", "roomiest", "(LOrphanTree;I[J)I"⟩
def pr_i331 : ev_Im := (pr_y331, (method_29_code, ((some .int), [(0, (9, (12, 13)))])))
noncomputable def pr_m331 : ev_M := (4, (1, (6, ([(0, (9, (12, 0)))], pr_c331))))
/-- OrphanTreeLaw.ofGroup(LOrphanTree;I[J)I -/
noncomputable def pr_c332 : Nat → ev_E := (ev_ct 8 (ev_ct 3 (ev_ct 1 (ev_ct 0 (pr_q 0 (7, (1, (2, (0, (0, [])))))) (pr_q 1 (1, (2, (0, (0, (0, []))))))) (ev_ct 2 (pr_q 2 (7, (3, (0, (0, (0, [])))))) (pr_q 3 (6, (4, (1, (0, (0, [])))))))) (ev_ct 7 (ev_ct 4 (pr_q 4 (35, (7, (38, (2, (7, [1, 6])))))) (pr_q 7 (43, (8, (0, (0, (0, []))))))) (pr_q 8 (31, (9, (0, (0, (0, [])))))))) (ev_ct 13 (ev_ct 12 (ev_ct 9 (pr_q 9 (20, (15, (0, (0, (0, [])))))) (pr_q 12 (10, (13, (3, (0, (0, []))))))) (pr_q 13 (1, (14, (1, (0, (0, []))))))) (ev_ct 15 (ev_ct 14 (pr_q 14 (39, (15, (0, (0, (0, [])))))) (pr_q 15 (1, (16, (0, (0, (0, []))))))) (pr_q 16 (39, (17, (0, (0, (0, [])))))))))
def pr_y332 : MethodName := ⟨"OrphanTreeLaw", "ofGroup", "(LOrphanTree;I[J)I"⟩
def pr_i332 : ev_Im := (pr_y332, (method_30_code, ((some .int), [(0, (9, (12, 13)))])))
noncomputable def pr_m332 : ev_M := (4, (1, (6, ([(0, (9, (12, 0)))], pr_c332))))
/-- OrphanTreeLaw.nextTestament(LOrphanTree;I[J)I -/
noncomputable def pr_c333 : Nat → ev_E := (ev_ct 8 (ev_ct 3 (ev_ct 1 (ev_ct 0 (pr_q 0 (7, (1, (2, (0, (0, [])))))) (pr_q 1 (1, (2, (0, (0, (0, []))))))) (ev_ct 2 (pr_q 2 (7, (3, (0, (0, (0, [])))))) (pr_q 3 (6, (4, (1, (0, (0, [])))))))) (ev_ct 7 (ev_ct 4 (pr_q 4 (35, (7, (39, (2, (7, [1, 6])))))) (pr_q 7 (43, (8, (0, (0, (0, []))))))) (pr_q 8 (31, (9, (0, (0, (0, [])))))))) (ev_ct 13 (ev_ct 12 (ev_ct 9 (pr_q 9 (20, (15, (0, (0, (0, [])))))) (pr_q 12 (10, (13, (3, (0, (0, []))))))) (pr_q 13 (1, (14, (1, (0, (0, []))))))) (ev_ct 15 (ev_ct 14 (pr_q 14 (39, (15, (0, (0, (0, [])))))) (pr_q 15 (1, (16, (0, (0, (0, []))))))) (pr_q 16 (39, (17, (0, (0, (0, [])))))))))
def pr_y333 : MethodName := ⟨"OrphanTreeLaw", "nextTestament", "(LOrphanTree;I[J)I"⟩
def pr_i333 : ev_Im := (pr_y333, (method_31_code, ((some .int), [(0, (9, (12, 19)))])))
noncomputable def pr_m333 : ev_M := (4, (1, (6, ([(0, (9, (12, 2)))], pr_c333))))
/-- OrphanTreeLaw.exited(LOrphanTree;I[J)I -/
noncomputable def pr_c334 : Nat → ev_E := (ev_ct 3 (ev_ct 1 (ev_ct 0 (pr_q 0 (7, (1, (2, (0, (0, [])))))) (pr_q 1 (1, (2, (0, (0, (0, []))))))) (ev_ct 2 (pr_q 2 (7, (3, (0, (0, (0, [])))))) (pr_q 3 (6, (4, (1, (0, (0, [])))))))) (ev_ct 12 (ev_ct 4 (pr_q 4 (35, (7, (40, (2, (7, [1, 6])))))) (pr_q 12 (10, (13, (3, (0, (0, []))))))) (ev_ct 13 (pr_q 13 (1, (14, (1, (0, (0, [])))))) (pr_q 14 (39, (15, (0, (0, (0, [])))))))))
def pr_y334 : MethodName := ⟨"OrphanTreeLaw", "exited", "(LOrphanTree;I[J)I"⟩
def pr_i334 : ev_Im := (pr_y334, (method_32_code, ((some .int), [(0, (9, (12, 42)))])))
noncomputable def pr_m334 : ev_M := (4, (1, (6, ([(0, (9, (12, 3)))], pr_c334))))
/-- OrphanTreeLaw.prune(LOrphanTree;II[J)I -/
noncomputable def pr_c335 : Nat → ev_E := (ev_ct 10 (ev_ct 4 (ev_ct 2 (ev_ct 1 (ev_ct 0 (pr_q 0 (7, (1, (3, (0, (0, [])))))) (pr_q 1 (1, (2, (0, (0, (0, []))))))) (pr_q 2 (7, (3, (0, (0, (0, []))))))) (ev_ct 3 (pr_q 3 (6, (4, (1, (0, (0, [])))))) (pr_q 4 (6, (5, (2, (0, (0, [])))))))) (ev_ct 8 (ev_ct 5 (pr_q 5 (35, (8, (43, (3, (7, [3, 18])))))) (pr_q 8 (43, (9, (0, (0, (0, []))))))) (ev_ct 9 (pr_q 9 (31, (10, (0, (0, (0, [])))))) (pr_q 10 (20, (25, (0, (0, (0, []))))))))) (ev_ct 17 (ev_ct 15 (ev_ct 13 (pr_q 13 (10, (15, (4, (0, (0, [])))))) (pr_q 15 (1, (16, (1, (0, (0, []))))))) (ev_ct 16 (pr_q 16 (39, (17, (0, (0, (0, [])))))) (pr_q 17 (10, (19, (4, (0, (0, [])))))))) (ev_ct 20 (ev_ct 19 (pr_q 19 (1, (20, (2, (0, (0, [])))))) (pr_q 20 (39, (21, (0, (0, (0, []))))))) (ev_ct 25 (pr_q 25 (1, (26, (0, (0, (0, [])))))) (pr_q 26 (39, (27, (0, (0, (0, []))))))))))
def pr_y335 : MethodName := ⟨"OrphanTreeLaw", "prune", "(LOrphanTree;II[J)I"⟩
def pr_i335 : ev_Im := (pr_y335, (method_33_code, ((some .int), [(0, (10, (13, 19))), (0, (10, (17, 13))), (0, (10, (21, 27)))])))
noncomputable def pr_m335 : ev_M := (5, (3, (18, ([(0, (10, (13, 2))), (0, (10, (17, 0))), (0, (10, (21, 1)))], pr_c335))))
/-- OrphanTreeLaw.exchange(LOrphanTree;II[J)I -/
noncomputable def pr_c336 : Nat → ev_E := (ev_ct 5 (ev_ct 2 (ev_ct 1 (ev_ct 0 (pr_q 0 (7, (1, (3, (0, (0, [])))))) (pr_q 1 (1, (2, (0, (0, (0, []))))))) (pr_q 2 (7, (3, (0, (0, (0, []))))))) (ev_ct 4 (ev_ct 3 (pr_q 3 (6, (4, (1, (0, (0, [])))))) (pr_q 4 (6, (5, (2, (0, (0, []))))))) (pr_q 5 (35, (8, (44, (3, (7, [3, 18])))))))) (ev_ct 16 (ev_ct 15 (ev_ct 13 (pr_q 13 (10, (15, (4, (0, (0, [])))))) (pr_q 15 (1, (16, (1, (0, (0, []))))))) (pr_q 16 (39, (17, (0, (0, (0, []))))))) (ev_ct 19 (ev_ct 17 (pr_q 17 (10, (19, (4, (0, (0, [])))))) (pr_q 19 (1, (20, (2, (0, (0, []))))))) (pr_q 20 (39, (21, (0, (0, (0, [])))))))))
def pr_y336 : MethodName := ⟨"OrphanTreeLaw", "exchange", "(LOrphanTree;II[J)I"⟩
def pr_i336 : ev_Im := (pr_y336, (method_34_code, ((some .int), [(0, (10, (13, 19))), (0, (10, (17, 27)))])))
noncomputable def pr_m336 : ev_M := (5, (3, (18, ([(0, (10, (13, 2))), (0, (10, (17, 1)))], pr_c336))))
/-- OrphanTreeLaw.readAll(LOrphanTree;I[J)I -/
noncomputable def pr_c337 : Nat → ev_E := (ev_ct 8 (ev_ct 3 (ev_ct 1 (ev_ct 0 (pr_q 0 (7, (1, (2, (0, (0, [])))))) (pr_q 1 (1, (2, (0, (0, (0, []))))))) (ev_ct 2 (pr_q 2 (7, (3, (0, (0, (0, [])))))) (pr_q 3 (6, (4, (1, (0, (0, [])))))))) (ev_ct 7 (ev_ct 4 (pr_q 4 (35, (7, (45, (2, (7, [2, 12])))))) (pr_q 7 (43, (8, (0, (0, (0, []))))))) (pr_q 8 (31, (9, (0, (0, (0, [])))))))) (ev_ct 13 (ev_ct 12 (ev_ct 9 (pr_q 9 (20, (18, (0, (0, (0, [])))))) (pr_q 12 (10, (13, (3, (0, (0, []))))))) (pr_q 13 (1, (14, (1, (0, (0, []))))))) (ev_ct 18 (ev_ct 14 (pr_q 14 (39, (15, (0, (0, (0, [])))))) (pr_q 18 (1, (19, (0, (0, (0, []))))))) (pr_q 19 (39, (20, (0, (0, (0, [])))))))))
def pr_y337 : MethodName := ⟨"OrphanTreeLaw", "readAll", "(LOrphanTree;I[J)I"⟩
def pr_i337 : ev_Im := (pr_y337, (method_35_code, ((some .int), [(0, (9, (12, 19))), (0, (9, (15, 27)))])))
noncomputable def pr_m337 : ev_M := (4, (2, (12, ([(0, (9, (12, 2))), (0, (9, (15, 1)))], pr_c337))))
/-- OrphanTreeLaw.testamentsBelow(LOrphanTree;I[J)I -/
noncomputable def pr_c338 : Nat → ev_E := (ev_ct 8 (ev_ct 3 (ev_ct 1 (ev_ct 0 (pr_q 0 (7, (1, (2, (0, (0, [])))))) (pr_q 1 (1, (2, (0, (0, (0, []))))))) (ev_ct 2 (pr_q 2 (7, (3, (0, (0, (0, [])))))) (pr_q 3 (6, (4, (1, (0, (0, [])))))))) (ev_ct 7 (ev_ct 4 (pr_q 4 (35, (7, (46, (2, (7, [1, 6])))))) (pr_q 7 (43, (8, (0, (0, (0, []))))))) (pr_q 8 (31, (9, (0, (0, (0, [])))))))) (ev_ct 13 (ev_ct 12 (ev_ct 9 (pr_q 9 (20, (15, (0, (0, (0, [])))))) (pr_q 12 (10, (13, (3, (0, (0, []))))))) (pr_q 13 (1, (14, (1, (0, (0, []))))))) (ev_ct 15 (ev_ct 14 (pr_q 14 (39, (15, (0, (0, (0, [])))))) (pr_q 15 (1, (16, (0, (0, (0, []))))))) (pr_q 16 (39, (17, (0, (0, (0, [])))))))))
def pr_y338 : MethodName := ⟨"OrphanTreeLaw", "testamentsBelow", "(LOrphanTree;I[J)I"⟩
def pr_i338 : ev_Im := (pr_y338, (method_36_code, ((some .int), [(0, (9, (12, 19)))])))
noncomputable def pr_m338 : ev_M := (4, (1, (6, ([(0, (9, (12, 2)))], pr_c338))))
/-- OrphanTreeLaw.roomBelow(LOrphanTree;I[J)I -/
noncomputable def pr_c339 : Nat → ev_E := (ev_ct 8 (ev_ct 3 (ev_ct 1 (ev_ct 0 (pr_q 0 (7, (1, (2, (0, (0, [])))))) (pr_q 1 (1, (2, (0, (0, (0, []))))))) (ev_ct 2 (pr_q 2 (7, (3, (0, (0, (0, [])))))) (pr_q 3 (6, (4, (1, (0, (0, [])))))))) (ev_ct 7 (ev_ct 4 (pr_q 4 (35, (7, (47, (2, (7, [1, 6])))))) (pr_q 7 (43, (8, (0, (0, (0, []))))))) (pr_q 8 (31, (9, (0, (0, (0, [])))))))) (ev_ct 13 (ev_ct 12 (ev_ct 9 (pr_q 9 (20, (15, (0, (0, (0, [])))))) (pr_q 12 (10, (13, (3, (0, (0, []))))))) (pr_q 13 (1, (14, (1, (0, (0, []))))))) (ev_ct 15 (ev_ct 14 (pr_q 14 (39, (15, (0, (0, (0, [])))))) (pr_q 15 (1, (16, (0, (0, (0, []))))))) (pr_q 16 (39, (17, (0, (0, (0, [])))))))))
def pr_y339 : MethodName := ⟨"OrphanTreeLaw", "roomBelow", "(LOrphanTree;I[J)I"⟩
def pr_i339 : ev_Im := (pr_y339, (method_37_code, ((some .int), [(0, (9, (12, 19)))])))
noncomputable def pr_m339 : ev_M := (4, (1, (6, ([(0, (9, (12, 2)))], pr_c339))))
/-- OrphanTreeLaw.adopters(LOrphanTree;I[J)I -/
noncomputable def pr_c340 : Nat → ev_E := (ev_ct 12 (ev_ct 2 (ev_ct 1 (ev_ct 0 (pr_q 0 (7, (1, (2, (0, (0, [])))))) (pr_q 1 (1, (2, (0, (0, (0, []))))))) (pr_q 2 (7, (3, (0, (0, (0, []))))))) (ev_ct 4 (ev_ct 3 (pr_q 3 (6, (4, (1, (0, (0, [])))))) (pr_q 4 (35, (7, (49, (2, (7, [2, 12]))))))) (pr_q 12 (10, (13, (3, (0, (0, [])))))))) (ev_ct 15 (ev_ct 14 (ev_ct 13 (pr_q 13 (1, (14, (1, (0, (0, [])))))) (pr_q 14 (39, (15, (0, (0, (0, []))))))) (pr_q 15 (10, (16, (3, (0, (0, []))))))) (ev_ct 16 (pr_q 16 (1, (17, (2, (0, (0, [])))))) (pr_q 17 (39, (18, (0, (0, (0, [])))))))))
def pr_y340 : MethodName := ⟨"OrphanTreeLaw", "adopters", "(LOrphanTree;I[J)I"⟩
def pr_i340 : ev_Im := (pr_y340, (method_38_code, ((some .int), [(0, (9, (12, 19))), (0, (9, (15, 27)))])))
noncomputable def pr_m340 : ev_M := (4, (2, (12, ([(0, (9, (12, 2))), (0, (9, (15, 1)))], pr_c340))))
/-- OrphanTreeLaw.betterCode(LOrphanTree;I[J)I -/
noncomputable def pr_c341 : Nat → ev_E := (ev_ct 12 (ev_ct 2 (ev_ct 1 (ev_ct 0 (pr_q 0 (7, (1, (2, (0, (0, [])))))) (pr_q 1 (1, (2, (0, (0, (0, []))))))) (pr_q 2 (7, (3, (0, (0, (0, []))))))) (ev_ct 4 (ev_ct 3 (pr_q 3 (6, (4, (1, (0, (0, [])))))) (pr_q 4 (35, (7, (50, (2, (7, [2, 12]))))))) (pr_q 12 (10, (13, (3, (0, (0, [])))))))) (ev_ct 15 (ev_ct 14 (ev_ct 13 (pr_q 13 (1, (14, (1, (0, (0, [])))))) (pr_q 14 (39, (15, (0, (0, (0, []))))))) (pr_q 15 (10, (16, (3, (0, (0, []))))))) (ev_ct 16 (pr_q 16 (1, (17, (2, (0, (0, [])))))) (pr_q 17 (39, (18, (0, (0, (0, [])))))))))
def pr_y341 : MethodName := ⟨"OrphanTreeLaw", "betterCode", "(LOrphanTree;I[J)I"⟩
def pr_i341 : ev_Im := (pr_y341, (method_39_code, ((some .int), [(0, (9, (12, 19))), (0, (9, (15, 27)))])))
noncomputable def pr_m341 : ev_M := (4, (2, (12, ([(0, (9, (12, 2))), (0, (9, (15, 1)))], pr_c341))))
/-- OrphanTreeLaw.wouldRun(LOrphanTree;II[J)I -/
noncomputable def pr_c342 : Nat → ev_E := (ev_ct 8 (ev_ct 3 (ev_ct 1 (ev_ct 0 (pr_q 0 (7, (1, (3, (0, (0, [])))))) (pr_q 1 (1, (2, (0, (0, (0, []))))))) (ev_ct 2 (pr_q 2 (7, (3, (0, (0, (0, [])))))) (pr_q 3 (6, (4, (1, (0, (0, [])))))))) (ev_ct 5 (ev_ct 4 (pr_q 4 (6, (5, (2, (0, (0, [])))))) (pr_q 5 (35, (8, (51, (3, (7, [2, 12]))))))) (pr_q 8 (43, (9, (0, (0, (0, [])))))))) (ev_ct 15 (ev_ct 10 (ev_ct 9 (pr_q 9 (31, (10, (0, (0, (0, [])))))) (pr_q 10 (20, (17, (0, (0, (0, []))))))) (ev_ct 13 (pr_q 13 (10, (15, (4, (0, (0, [])))))) (pr_q 15 (1, (16, (1, (0, (0, [])))))))) (ev_ct 17 (ev_ct 16 (pr_q 16 (39, (17, (0, (0, (0, [])))))) (pr_q 17 (1, (18, (0, (0, (0, []))))))) (pr_q 18 (39, (19, (0, (0, (0, [])))))))))
def pr_y342 : MethodName := ⟨"OrphanTreeLaw", "wouldRun", "(LOrphanTree;II[J)I"⟩
def pr_i342 : ev_Im := (pr_y342, (method_40_code, ((some .int), [(0, (10, (13, 13)))])))
noncomputable def pr_m342 : ev_M := (5, (2, (12, ([(0, (10, (13, 0)))], pr_c342))))
/-- OrphanTreeLaw.apart(LOrphanTree;II[J)I -/
noncomputable def pr_c343 : Nat → ev_E := (ev_ct 8 (ev_ct 3 (ev_ct 1 (ev_ct 0 (pr_q 0 (7, (1, (3, (0, (0, [])))))) (pr_q 1 (1, (2, (0, (0, (0, []))))))) (ev_ct 2 (pr_q 2 (7, (3, (0, (0, (0, [])))))) (pr_q 3 (6, (4, (1, (0, (0, [])))))))) (ev_ct 5 (ev_ct 4 (pr_q 4 (6, (5, (2, (0, (0, [])))))) (pr_q 5 (35, (8, (53, (3, (7, [3, 18]))))))) (pr_q 8 (43, (9, (0, (0, (0, [])))))))) (ev_ct 15 (ev_ct 10 (ev_ct 9 (pr_q 9 (31, (10, (0, (0, (0, [])))))) (pr_q 10 (20, (21, (0, (0, (0, []))))))) (ev_ct 13 (pr_q 13 (10, (15, (4, (0, (0, [])))))) (pr_q 15 (1, (16, (1, (0, (0, [])))))))) (ev_ct 21 (ev_ct 16 (pr_q 16 (39, (17, (0, (0, (0, [])))))) (pr_q 21 (1, (22, (0, (0, (0, []))))))) (pr_q 22 (39, (23, (0, (0, (0, [])))))))))
def pr_y343 : MethodName := ⟨"OrphanTreeLaw", "apart", "(LOrphanTree;II[J)I"⟩
def pr_i343 : ev_Im := (pr_y343, (method_41_code, ((some .int), [(0, (10, (13, 19))), (0, (10, (17, 27)))])))
noncomputable def pr_m343 : ev_M := (5, (3, (18, ([(0, (10, (13, 2))), (0, (10, (17, 1)))], pr_c343))))
/-- OrphanTreeLaw.relieve(LOrphanTree;I[J)I -/
noncomputable def pr_c344 : Nat → ev_E := (ev_ct 12 (ev_ct 2 (ev_ct 1 (ev_ct 0 (pr_q 0 (7, (1, (2, (0, (0, [])))))) (pr_q 1 (1, (2, (0, (0, (0, []))))))) (pr_q 2 (7, (3, (0, (0, (0, []))))))) (ev_ct 4 (ev_ct 3 (pr_q 3 (6, (4, (1, (0, (0, [])))))) (pr_q 4 (35, (7, (54, (2, (7, [2, 12]))))))) (pr_q 12 (10, (13, (3, (0, (0, [])))))))) (ev_ct 15 (ev_ct 14 (ev_ct 13 (pr_q 13 (1, (14, (1, (0, (0, [])))))) (pr_q 14 (39, (15, (0, (0, (0, []))))))) (pr_q 15 (10, (16, (3, (0, (0, []))))))) (ev_ct 16 (pr_q 16 (1, (17, (2, (0, (0, [])))))) (pr_q 17 (39, (18, (0, (0, (0, [])))))))))
def pr_y344 : MethodName := ⟨"OrphanTreeLaw", "relieve", "(LOrphanTree;I[J)I"⟩
def pr_i344 : ev_Im := (pr_y344, (method_42_code, ((some .int), [(0, (9, (12, 19))), (0, (9, (15, 27)))])))
noncomputable def pr_m344 : ev_M := (4, (2, (12, ([(0, (9, (12, 2))), (0, (9, (15, 1)))], pr_c344))))
/-- OrphanTreeLaw.wouldHold(LOrphanTree;III[J)I -/
noncomputable def pr_c345 : Nat → ev_E := (ev_ct 15 (ev_ct 4 (ev_ct 2 (ev_ct 0 (pr_q 0 (7, (2, (4, (0, (0, [])))))) (pr_q 2 (1, (3, (0, (0, (0, []))))))) (ev_ct 3 (pr_q 3 (7, (4, (0, (0, (0, [])))))) (pr_q 4 (6, (5, (1, (0, (0, [])))))))) (ev_ct 6 (ev_ct 5 (pr_q 5 (6, (6, (2, (0, (0, [])))))) (pr_q 6 (6, (7, (3, (0, (0, []))))))) (ev_ct 7 (pr_q 7 (35, (10, (55, (4, (7, [5, 30])))))) (pr_q 15 (10, (17, (5, (0, (0, []))))))))) (ev_ct 21 (ev_ct 18 (ev_ct 17 (pr_q 17 (1, (18, (1, (0, (0, [])))))) (pr_q 18 (39, (19, (0, (0, (0, []))))))) (ev_ct 19 (pr_q 19 (10, (21, (5, (0, (0, [])))))) (pr_q 21 (1, (22, (2, (0, (0, [])))))))) (ev_ct 23 (ev_ct 22 (pr_q 22 (39, (23, (0, (0, (0, [])))))) (pr_q 23 (10, (25, (5, (0, (0, []))))))) (ev_ct 25 (pr_q 25 (1, (26, (3, (0, (0, [])))))) (pr_q 26 (39, (27, (0, (0, (0, []))))))))))
def pr_y345 : MethodName := ⟨"OrphanTreeLaw", "wouldHold", "(LOrphanTree;III[J)I"⟩
def pr_i345 : ev_Im := (pr_y345, (method_43_code, ((some .int), [(0, (12, (15, 19))), (0, (12, (19, 13))), (0, (12, (23, 27)))])))
noncomputable def pr_m345 : ev_M := (6, (5, (30, ([(0, (12, (15, 2))), (0, (12, (19, 0))), (0, (12, (23, 1)))], pr_c345))))
/-- OrphanTreeLaw.dutyLife(LOrphanTree;I[J)I -/
noncomputable def pr_c346 : Nat → ev_E := (ev_ct 8 (ev_ct 3 (ev_ct 1 (ev_ct 0 (pr_q 0 (7, (1, (2, (0, (0, [])))))) (pr_q 1 (1, (2, (0, (0, (0, []))))))) (ev_ct 2 (pr_q 2 (7, (3, (0, (0, (0, [])))))) (pr_q 3 (6, (4, (1, (0, (0, [])))))))) (ev_ct 7 (ev_ct 4 (pr_q 4 (35, (7, (56, (2, (7, [1, 6])))))) (pr_q 7 (43, (8, (0, (0, (0, []))))))) (pr_q 8 (31, (9, (0, (0, (0, [])))))))) (ev_ct 13 (ev_ct 12 (ev_ct 9 (pr_q 9 (20, (15, (0, (0, (0, [])))))) (pr_q 12 (10, (13, (3, (0, (0, []))))))) (pr_q 13 (1, (14, (1, (0, (0, []))))))) (ev_ct 15 (ev_ct 14 (pr_q 14 (39, (15, (0, (0, (0, [])))))) (pr_q 15 (1, (16, (0, (0, (0, []))))))) (pr_q 16 (39, (17, (0, (0, (0, [])))))))))
def pr_y346 : MethodName := ⟨"OrphanTreeLaw", "dutyLife", "(LOrphanTree;I[J)I"⟩
def pr_i346 : ev_Im := (pr_y346, (method_44_code, ((some .int), [(0, (9, (12, 13)))])))
noncomputable def pr_m346 : ev_M := (4, (1, (6, ([(0, (9, (12, 0)))], pr_c346))))
/-- OrphanTreeLaw.heaviest(LOrphanTree;I[J)I -/
noncomputable def pr_c347 : Nat → ev_E := (ev_ct 8 (ev_ct 3 (ev_ct 1 (ev_ct 0 (pr_q 0 (7, (1, (2, (0, (0, [])))))) (pr_q 1 (1, (2, (0, (0, (0, []))))))) (ev_ct 2 (pr_q 2 (7, (3, (0, (0, (0, [])))))) (pr_q 3 (6, (4, (1, (0, (0, [])))))))) (ev_ct 7 (ev_ct 4 (pr_q 4 (35, (7, (57, (2, (7, [1, 6])))))) (pr_q 7 (43, (8, (0, (0, (0, []))))))) (pr_q 8 (31, (9, (0, (0, (0, [])))))))) (ev_ct 13 (ev_ct 12 (ev_ct 9 (pr_q 9 (20, (15, (0, (0, (0, [])))))) (pr_q 12 (10, (13, (3, (0, (0, []))))))) (pr_q 13 (1, (14, (1, (0, (0, []))))))) (ev_ct 15 (ev_ct 14 (pr_q 14 (39, (15, (0, (0, (0, [])))))) (pr_q 15 (1, (16, (0, (0, (0, []))))))) (pr_q 16 (39, (17, (0, (0, (0, [])))))))))
def pr_y347 : MethodName := ⟨"OrphanTreeLaw", "heaviest", "(LOrphanTree;I[J)I"⟩
def pr_i347 : ev_Im := (pr_y347, (method_45_code, ((some .int), [(0, (9, (12, 19)))])))
noncomputable def pr_m347 : ev_M := (4, (1, (6, ([(0, (9, (12, 2)))], pr_c347))))
/-- OrphanTreeLaw.groupsBelow(LOrphanTree;I[J)I -/
noncomputable def pr_c348 : Nat → ev_E := (ev_ct 8 (ev_ct 3 (ev_ct 1 (ev_ct 0 (pr_q 0 (7, (1, (2, (0, (0, [])))))) (pr_q 1 (1, (2, (0, (0, (0, []))))))) (ev_ct 2 (pr_q 2 (7, (3, (0, (0, (0, [])))))) (pr_q 3 (6, (4, (1, (0, (0, [])))))))) (ev_ct 7 (ev_ct 4 (pr_q 4 (35, (7, (58, (2, (7, [1, 6])))))) (pr_q 7 (43, (8, (0, (0, (0, []))))))) (pr_q 8 (31, (9, (0, (0, (0, [])))))))) (ev_ct 13 (ev_ct 12 (ev_ct 9 (pr_q 9 (20, (15, (0, (0, (0, [])))))) (pr_q 12 (10, (13, (3, (0, (0, []))))))) (pr_q 13 (1, (14, (1, (0, (0, []))))))) (ev_ct 15 (ev_ct 14 (pr_q 14 (39, (15, (0, (0, (0, [])))))) (pr_q 15 (1, (16, (0, (0, (0, []))))))) (pr_q 16 (39, (17, (0, (0, (0, [])))))))))
def pr_y348 : MethodName := ⟨"OrphanTreeLaw", "groupsBelow", "(LOrphanTree;I[J)I"⟩
def pr_i348 : ev_Im := (pr_y348, (method_46_code, ((some .int), [(0, (9, (12, 19)))])))
noncomputable def pr_m348 : ev_M := (4, (1, (6, ([(0, (9, (12, 2)))], pr_c348))))
/-- OrphanTreeLaw.strangers(LOrphanTree;I[J)I -/
noncomputable def pr_c349 : Nat → ev_E := (ev_ct 8 (ev_ct 3 (ev_ct 1 (ev_ct 0 (pr_q 0 (7, (1, (2, (0, (0, [])))))) (pr_q 1 (1, (2, (0, (0, (0, []))))))) (ev_ct 2 (pr_q 2 (7, (3, (0, (0, (0, [])))))) (pr_q 3 (6, (4, (1, (0, (0, [])))))))) (ev_ct 7 (ev_ct 4 (pr_q 4 (35, (7, (59, (2, (7, [1, 6])))))) (pr_q 7 (43, (8, (0, (0, (0, []))))))) (pr_q 8 (31, (9, (0, (0, (0, [])))))))) (ev_ct 13 (ev_ct 12 (ev_ct 9 (pr_q 9 (20, (15, (0, (0, (0, [])))))) (pr_q 12 (10, (13, (3, (0, (0, []))))))) (pr_q 13 (1, (14, (1, (0, (0, []))))))) (ev_ct 15 (ev_ct 14 (pr_q 14 (39, (15, (0, (0, (0, [])))))) (pr_q 15 (1, (16, (0, (0, (0, []))))))) (pr_q 16 (39, (17, (0, (0, (0, [])))))))))
def pr_y349 : MethodName := ⟨"OrphanTreeLaw", "strangers", "(LOrphanTree;I[J)I"⟩
def pr_i349 : ev_Im := (pr_y349, (method_47_code, ((some .int), [(0, (9, (12, 19)))])))
noncomputable def pr_m349 : ev_M := (4, (1, (6, ([(0, (9, (12, 2)))], pr_c349))))
/-- OrphanTreeLaw.print(LOrphanTree;II[J)I -/
noncomputable def pr_c350 : Nat → ev_E := (ev_ct 10 (ev_ct 4 (ev_ct 2 (ev_ct 1 (ev_ct 0 (pr_q 0 (7, (1, (3, (0, (0, [])))))) (pr_q 1 (1, (2, (0, (0, (0, []))))))) (pr_q 2 (7, (3, (0, (0, (0, []))))))) (ev_ct 3 (pr_q 3 (6, (4, (1, (0, (0, [])))))) (pr_q 4 (6, (5, (2, (0, (0, [])))))))) (ev_ct 8 (ev_ct 5 (pr_q 5 (35, (8, (60, (3, (7, [3, 18])))))) (pr_q 8 (43, (9, (0, (0, (0, []))))))) (ev_ct 9 (pr_q 9 (31, (10, (0, (0, (0, [])))))) (pr_q 10 (20, (25, (0, (0, (0, []))))))))) (ev_ct 17 (ev_ct 15 (ev_ct 13 (pr_q 13 (10, (15, (4, (0, (0, [])))))) (pr_q 15 (1, (16, (1, (0, (0, []))))))) (ev_ct 16 (pr_q 16 (39, (17, (0, (0, (0, [])))))) (pr_q 17 (10, (19, (4, (0, (0, [])))))))) (ev_ct 20 (ev_ct 19 (pr_q 19 (1, (20, (2, (0, (0, [])))))) (pr_q 20 (39, (21, (0, (0, (0, []))))))) (ev_ct 25 (pr_q 25 (1, (26, (0, (0, (0, [])))))) (pr_q 26 (39, (27, (0, (0, (0, []))))))))))
def pr_y350 : MethodName := ⟨"OrphanTreeLaw", "print", "(LOrphanTree;II[J)I"⟩
def pr_i350 : ev_Im := (pr_y350, (method_48_code, ((some .int), [(0, (10, (13, 19))), (0, (10, (17, 13))), (0, (10, (21, 27)))])))
noncomputable def pr_m350 : ev_M := (5, (3, (18, ([(0, (10, (13, 2))), (0, (10, (17, 0))), (0, (10, (21, 1)))], pr_c350))))
/-- OrphanTreeLaw.restoreState(LOrphanTree;[J)I -/
noncomputable def pr_c351 : Nat → ev_E := (ev_ct 3 (ev_ct 1 (ev_ct 0 (pr_q 0 (7, (1, (1, (0, (0, [])))))) (pr_q 1 (1, (2, (0, (0, (0, []))))))) (ev_ct 2 (pr_q 2 (7, (3, (0, (0, (0, [])))))) (pr_q 3 (35, (6, (64, (1, (7, [1, 6])))))))) (ev_ct 12 (ev_ct 11 (pr_q 11 (10, (12, (2, (0, (0, [])))))) (pr_q 12 (1, (13, (1, (0, (0, []))))))) (pr_q 13 (39, (14, (0, (0, (0, []))))))))
def pr_y351 : MethodName := ⟨"OrphanTreeLaw", "restoreState", "(LOrphanTree;[J)I"⟩
def pr_i351 : ev_Im := (pr_y351, (method_49_code, ((some .int), [(0, (8, (11, 27)))])))
noncomputable def pr_m351 : ev_M := (3, (1, (6, ([(0, (8, (11, 1)))], pr_c351))))
/-- OrphanTreeLaw.law([I)Z -/
noncomputable def pr_c352 : Nat → ev_E := (ev_ct 1896 (ev_ct 1042 (ev_ct 649 (ev_ct 453 (ev_ct 351 (ev_ct 316 (ev_ct 25 (ev_ct 15 (ev_ct 7 (ev_ct 3 (ev_ct 0 (pr_q 0 (33, (3, (6, (7, (0, [1, 1, 1, 1, 1, 1, 0])))))) (pr_q 3 (21, (4, (0, (0, (0, []))))))) (ev_ct 4 (pr_q 4 (35, (7, (0, (1, (7, [623, 10110])))))) (pr_q 7 (10, (8, (1, (0, (0, [])))))))) (ev_ct 11 (ev_ct 8 (pr_q 8 (33, (11, (7, (24, (0, [1, 1, 1, 1, 1, 1, 0, 0, 0, 1, 0, 0, 0, 0, 0, 0, 0, 0, 0, 0, 1, 1, 1, 0])))))) (pr_q 11 (21, (12, (0, (0, (0, []))))))) (ev_ct 12 (pr_q 12 (35, (15, (73, (1, (8, [10, 11904])))))) (pr_q 15 (10, (16, (2, (0, (0, []))))))))) (ev_ct 20 (ev_ct 17 (ev_ct 16 (pr_q 16 (1, (17, (1, (0, (0, [])))))) (pr_q 17 (34, (19, (23, (2, (0, []))))))) (ev_ct 19 (pr_q 19 (10, (20, (3, (0, (0, [])))))) (pr_q 20 (1, (21, (0, (0, (0, [])))))))) (ev_ct 23 (ev_ct 21 (pr_q 21 (9, (23, (4, (0, (0, [])))))) (pr_q 23 (6, (25, (4, (0, (0, []))))))) (pr_q 25 (7, (26, (0, (0, (0, []))))))))) (ev_ct 36 (ev_ct 30 (ev_ct 27 (ev_ct 26 (pr_q 26 (26, (27, (0, (0, (0, [])))))) (pr_q 27 (1, (29, (6, (0, (0, []))))))) (ev_ct 29 (pr_q 29 (14, (30, (0, (0, (0, [])))))) (pr_q 30 (17, (33, (2, (3691, (33, [])))))))) (ev_ct 34 (ev_ct 33 (pr_q 33 (7, (34, (0, (0, (0, [])))))) (pr_q 34 (6, (36, (4, (0, (0, []))))))) (pr_q 36 (27, (37, (20, (20, (0, [])))))))) (ev_ct 312 (ev_ct 39 (ev_ct 37 (pr_q 37 (1, (39, (63, (0, (0, [])))))) (pr_q 39 (48, (40, (1, (0, (0, []))))))) (ev_ct 40 (pr_q 40 (42, (0, (2147483648, (2147483711, (3685, [312, 385, 410, 423, 436, 449, 505, 573, 629, 654, 710, 785, 853, 909, 965, 990, 1003, 1095, 1163, 1231, 1287, 1355, 1430, 1498, 1566, 1634, 1702, 1770, 1826, 1882, 1950, 2018, 2098, 2166, 2222, 2278, 2291, 2304, 2360, 2416, 2472, 2513, 2556, 2624, 2692, 2748, 2804, 2860, 2873, 2929, 2985, 3053, 3094, 3162, 3218, 3298, 3354, 3410, 3466, 3522, 3590, 3615, 3628, 3641])))))) (pr_q 312 (7, (313, (1, (0, (0, [])))))))) (ev_ct 314 (ev_ct 313 (pr_q 313 (7, (314, (0, (0, (0, [])))))) (pr_q 314 (6, (316, (4, (0, (0, []))))))) (pr_q 316 (1, (317, (1, (0, (0, [])))))))))) (ev_ct 332 (ev_ct 324 (ev_ct 320 (ev_ct 318 (ev_ct 317 (pr_q 317 (13, (318, (0, (0, (0, [])))))) (pr_q 318 (27, (319, (20, (20, (0, []))))))) (ev_ct 319 (pr_q 319 (7, (320, (0, (0, (0, [])))))) (pr_q 320 (6, (322, (4, (0, (0, [])))))))) (ev_ct 323 (ev_ct 322 (pr_q 322 (1, (323, (2, (0, (0, [])))))) (pr_q 323 (13, (324, (0, (0, (0, []))))))) (pr_q 324 (27, (325, (20, (20, (0, [])))))))) (ev_ct 329 (ev_ct 326 (ev_ct 325 (pr_q 325 (7, (326, (0, (0, (0, [])))))) (pr_q 326 (6, (328, (4, (0, (0, []))))))) (ev_ct 328 (pr_q 328 (1, (329, (3, (0, (0, [])))))) (pr_q 329 (13, (330, (0, (0, (0, [])))))))) (ev_ct 331 (ev_ct 330 (pr_q 330 (27, (331, (20, (20, (0, [])))))) (pr_q 331 (7, (332, (0, (0, (0, []))))))) (pr_q 332 (6, (334, (4, (0, (0, []))))))))) (ev_ct 341 (ev_ct 337 (ev_ct 335 (ev_ct 334 (pr_q 334 (1, (335, (4, (0, (0, [])))))) (pr_q 335 (13, (336, (0, (0, (0, []))))))) (ev_ct 336 (pr_q 336 (27, (337, (20, (20, (0, [])))))) (pr_q 337 (7, (338, (0, (0, (0, [])))))))) (ev_ct 340 (ev_ct 338 (pr_q 338 (6, (340, (4, (0, (0, [])))))) (pr_q 340 (1, (341, (5, (0, (0, []))))))) (pr_q 341 (13, (342, (0, (0, (0, [])))))))) (ev_ct 347 (ev_ct 343 (ev_ct 342 (pr_q 342 (27, (343, (20, (20, (0, [])))))) (pr_q 343 (35, (346, (1, (6, (7, [0, 0]))))))) (ev_ct 346 (pr_q 346 (7, (347, (2, (0, (0, [])))))) (pr_q 347 (7, (348, (0, (0, (0, [])))))))) (ev_ct 350 (ev_ct 348 (pr_q 348 (6, (350, (4, (0, (0, [])))))) (pr_q 350 (1, (351, (1, (0, (0, []))))))) (pr_q 351 (13, (352, (0, (0, (0, []))))))))))) (ev_ct 391 (ev_ct 369 (ev_ct 360 (ev_ct 356 (ev_ct 353 (ev_ct 352 (pr_q 352 (27, (353, (20, (20, (0, [])))))) (pr_q 353 (7, (354, (0, (0, (0, []))))))) (ev_ct 354 (pr_q 354 (6, (356, (4, (0, (0, [])))))) (pr_q 356 (1, (357, (2, (0, (0, [])))))))) (ev_ct 358 (ev_ct 357 (pr_q 357 (13, (358, (0, (0, (0, [])))))) (pr_q 358 (27, (359, (20, (20, (0, []))))))) (ev_ct 359 (pr_q 359 (7, (360, (0, (0, (0, [])))))) (pr_q 360 (6, (362, (4, (0, (0, []))))))))) (ev_ct 365 (ev_ct 363 (ev_ct 362 (pr_q 362 (1, (363, (3, (0, (0, [])))))) (pr_q 363 (13, (364, (0, (0, (0, []))))))) (ev_ct 364 (pr_q 364 (27, (365, (20, (20, (0, [])))))) (pr_q 365 (7, (366, (0, (0, (0, [])))))))) (ev_ct 368 (ev_ct 366 (pr_q 366 (6, (368, (4, (0, (0, [])))))) (pr_q 368 (1, (369, (4, (0, (0, []))))))) (pr_q 369 (13, (370, (0, (0, (0, []))))))))) (ev_ct 377 (ev_ct 374 (ev_ct 371 (ev_ct 370 (pr_q 370 (27, (371, (20, (20, (0, [])))))) (pr_q 371 (7, (372, (0, (0, (0, []))))))) (ev_ct 372 (pr_q 372 (6, (374, (4, (0, (0, [])))))) (pr_q 374 (1, (375, (5, (0, (0, [])))))))) (ev_ct 376 (ev_ct 375 (pr_q 375 (13, (376, (0, (0, (0, [])))))) (pr_q 376 (27, (377, (20, (20, (0, []))))))) (pr_q 377 (35, (380, (107, (6, (8, [0, 0])))))))) (ev_ct 387 (ev_ct 385 (ev_ct 380 (pr_q 380 (17, (383, (0, (3685, (383, [])))))) (pr_q 385 (7, (386, (1, (0, (0, []))))))) (ev_ct 386 (pr_q 386 (7, (387, (0, (0, (0, [])))))) (pr_q 387 (6, (389, (4, (0, (0, [])))))))) (ev_ct 390 (ev_ct 389 (pr_q 389 (1, (390, (1, (0, (0, [])))))) (pr_q 390 (13, (391, (0, (0, (0, []))))))) (pr_q 391 (27, (392, (20, (20, (0, [])))))))))) (ev_ct 418 (ev_ct 401 (ev_ct 397 (ev_ct 395 (ev_ct 392 (pr_q 392 (35, (395, (2, (2, (7, [0, 0])))))) (pr_q 395 (7, (396, (2, (0, (0, []))))))) (ev_ct 396 (pr_q 396 (7, (397, (0, (0, (0, [])))))) (pr_q 397 (6, (399, (4, (0, (0, [])))))))) (ev_ct 400 (ev_ct 399 (pr_q 399 (1, (400, (1, (0, (0, [])))))) (pr_q 400 (13, (401, (0, (0, (0, []))))))) (pr_q 401 (27, (402, (20, (20, (0, [])))))))) (ev_ct 411 (ev_ct 405 (ev_ct 402 (pr_q 402 (35, (405, (108, (2, (8, [0, 0])))))) (pr_q 405 (17, (408, (0, (3685, (408, []))))))) (ev_ct 410 (pr_q 410 (7, (411, (1, (0, (0, [])))))) (pr_q 411 (35, (414, (3, (1, (7, [0, 0])))))))) (ev_ct 415 (ev_ct 414 (pr_q 414 (7, (415, (2, (0, (0, [])))))) (pr_q 415 (35, (418, (128, (1, (8, [0, 0]))))))) (pr_q 418 (17, (421, (0, (3685, (421, []))))))))) (ev_ct 437 (ev_ct 428 (ev_ct 424 (ev_ct 423 (pr_q 423 (7, (424, (1, (0, (0, [])))))) (pr_q 424 (35, (427, (4, (1, (7, [0, 0]))))))) (ev_ct 427 (pr_q 427 (7, (428, (2, (0, (0, [])))))) (pr_q 428 (35, (431, (129, (1, (8, [0, 0])))))))) (ev_ct 436 (ev_ct 431 (pr_q 431 (17, (434, (0, (3685, (434, [])))))) (pr_q 436 (7, (437, (1, (0, (0, []))))))) (pr_q 437 (35, (440, (5, (1, (7, [0, 0])))))))) (ev_ct 449 (ev_ct 441 (ev_ct 440 (pr_q 440 (7, (441, (2, (0, (0, [])))))) (pr_q 441 (35, (444, (130, (1, (8, [0, 0]))))))) (ev_ct 444 (pr_q 444 (17, (447, (0, (3685, (447, [])))))) (pr_q 449 (7, (450, (1, (0, (0, [])))))))) (ev_ct 451 (ev_ct 450 (pr_q 450 (7, (451, (0, (0, (0, [])))))) (pr_q 451 (6, (453, (4, (0, (0, []))))))) (pr_q 453 (1, (454, (1, (0, (0, [])))))))))))) (ev_ct 546 (ev_ct 506 (ev_ct 475 (ev_ct 464 (ev_ct 457 (ev_ct 455 (ev_ct 454 (pr_q 454 (13, (455, (0, (0, (0, [])))))) (pr_q 455 (27, (456, (20, (20, (0, []))))))) (ev_ct 456 (pr_q 456 (7, (457, (3, (0, (0, [])))))) (pr_q 457 (35, (460, (305, (3, (0, [1, 6])))))))) (ev_ct 462 (ev_ct 460 (pr_q 460 (9, (462, (5, (0, (0, [])))))) (pr_q 462 (7, (463, (2, (0, (0, []))))))) (ev_ct 463 (pr_q 463 (7, (464, (0, (0, (0, [])))))) (pr_q 464 (6, (466, (4, (0, (0, []))))))))) (ev_ct 469 (ev_ct 467 (ev_ct 466 (pr_q 466 (1, (467, (1, (0, (0, [])))))) (pr_q 467 (13, (468, (0, (0, (0, []))))))) (ev_ct 468 (pr_q 468 (27, (469, (20, (20, (0, [])))))) (pr_q 469 (35, (472, (134, (2, (8, [0, 0])))))))) (ev_ct 474 (ev_ct 472 (pr_q 472 (9, (474, (6, (0, (0, [])))))) (pr_q 474 (7, (475, (2, (0, (0, []))))))) (pr_q 475 (35, (478, (74, (1, (8, [0, 0]))))))))) (ev_ct 492 (ev_ct 487 (ev_ct 480 (ev_ct 478 (pr_q 478 (6, (480, (5, (0, (0, [])))))) (pr_q 480 (17, (483, (0, (485, (483, []))))))) (ev_ct 485 (pr_q 485 (6, (487, (5, (0, (0, [])))))) (pr_q 487 (16, (490, (0, (490, (502, [])))))))) (ev_ct 491 (ev_ct 490 (pr_q 490 (7, (491, (3, (0, (0, [])))))) (pr_q 491 (1, (492, (0, (0, (0, []))))))) (pr_q 492 (29, (493, (23, (23, (0, [])))))))) (ev_ct 497 (ev_ct 495 (ev_ct 493 (pr_q 493 (6, (495, (6, (0, (0, [])))))) (pr_q 495 (43, (496, (0, (0, (0, []))))))) (ev_ct 496 (pr_q 496 (44, (497, (4, (0, (0, [])))))) (pr_q 497 (16, (500, (0, (502, (500, [])))))))) (ev_ct 505 (ev_ct 502 (pr_q 502 (20, (3685, (0, (0, (0, [])))))) (pr_q 505 (7, (506, (1, (0, (0, []))))))) (pr_q 506 (7, (507, (0, (0, (0, [])))))))))) (ev_ct 525 (ev_ct 515 (ev_ct 511 (ev_ct 509 (ev_ct 507 (pr_q 507 (6, (509, (4, (0, (0, [])))))) (pr_q 509 (1, (510, (1, (0, (0, []))))))) (ev_ct 510 (pr_q 510 (13, (511, (0, (0, (0, [])))))) (pr_q 511 (27, (512, (20, (20, (0, [])))))))) (ev_ct 513 (ev_ct 512 (pr_q 512 (7, (513, (0, (0, (0, [])))))) (pr_q 513 (6, (515, (4, (0, (0, []))))))) (pr_q 515 (1, (516, (2, (0, (0, [])))))))) (ev_ct 519 (ev_ct 517 (ev_ct 516 (pr_q 516 (13, (517, (0, (0, (0, [])))))) (pr_q 517 (27, (518, (20, (20, (0, []))))))) (ev_ct 518 (pr_q 518 (7, (519, (3, (0, (0, [])))))) (pr_q 519 (35, (522, (306, (4, (0, [2, 12])))))))) (ev_ct 524 (ev_ct 522 (pr_q 522 (9, (524, (5, (0, (0, [])))))) (pr_q 524 (7, (525, (2, (0, (0, []))))))) (pr_q 525 (7, (526, (0, (0, (0, []))))))))) (ev_ct 534 (ev_ct 530 (ev_ct 528 (ev_ct 526 (pr_q 526 (6, (528, (4, (0, (0, [])))))) (pr_q 528 (1, (529, (1, (0, (0, []))))))) (ev_ct 529 (pr_q 529 (13, (530, (0, (0, (0, [])))))) (pr_q 530 (27, (531, (20, (20, (0, [])))))))) (ev_ct 532 (ev_ct 531 (pr_q 531 (7, (532, (0, (0, (0, [])))))) (pr_q 532 (6, (534, (4, (0, (0, []))))))) (pr_q 534 (1, (535, (2, (0, (0, [])))))))) (ev_ct 540 (ev_ct 536 (ev_ct 535 (pr_q 535 (13, (536, (0, (0, (0, [])))))) (pr_q 536 (27, (537, (20, (20, (0, []))))))) (ev_ct 537 (pr_q 537 (35, (540, (138, (3, (8, [0, 0])))))) (pr_q 540 (9, (542, (6, (0, (0, [])))))))) (ev_ct 543 (ev_ct 542 (pr_q 542 (7, (543, (2, (0, (0, [])))))) (pr_q 543 (35, (546, (74, (1, (8, [0, 0]))))))) (pr_q 546 (6, (548, (5, (0, (0, []))))))))))) (ev_ct 598 (ev_ct 577 (ev_ct 563 (ev_ct 558 (ev_ct 553 (ev_ct 548 (pr_q 548 (17, (551, (0, (553, (551, [])))))) (pr_q 553 (6, (555, (5, (0, (0, []))))))) (ev_ct 555 (pr_q 555 (16, (558, (0, (558, (570, [])))))) (pr_q 558 (7, (559, (3, (0, (0, [])))))))) (ev_ct 560 (ev_ct 559 (pr_q 559 (1, (560, (0, (0, (0, [])))))) (pr_q 560 (29, (561, (23, (23, (0, []))))))) (ev_ct 561 (pr_q 561 (6, (563, (6, (0, (0, [])))))) (pr_q 563 (43, (564, (0, (0, (0, []))))))))) (ev_ct 573 (ev_ct 565 (ev_ct 564 (pr_q 564 (44, (565, (4, (0, (0, [])))))) (pr_q 565 (16, (568, (0, (570, (568, []))))))) (ev_ct 570 (pr_q 570 (20, (3685, (0, (0, (0, [])))))) (pr_q 573 (7, (574, (1, (0, (0, [])))))))) (ev_ct 575 (ev_ct 574 (pr_q 574 (7, (575, (0, (0, (0, [])))))) (pr_q 575 (6, (577, (4, (0, (0, []))))))) (pr_q 577 (1, (578, (1, (0, (0, []))))))))) (ev_ct 587 (ev_ct 581 (ev_ct 579 (ev_ct 578 (pr_q 578 (13, (579, (0, (0, (0, [])))))) (pr_q 579 (27, (580, (20, (20, (0, []))))))) (ev_ct 580 (pr_q 580 (7, (581, (3, (0, (0, [])))))) (pr_q 581 (35, (584, (307, (3, (0, [1, 6])))))))) (ev_ct 586 (ev_ct 584 (pr_q 584 (9, (586, (5, (0, (0, [])))))) (pr_q 586 (7, (587, (2, (0, (0, []))))))) (pr_q 587 (7, (588, (0, (0, (0, [])))))))) (ev_ct 592 (ev_ct 590 (ev_ct 588 (pr_q 588 (6, (590, (4, (0, (0, [])))))) (pr_q 590 (1, (591, (1, (0, (0, []))))))) (ev_ct 591 (pr_q 591 (13, (592, (0, (0, (0, [])))))) (pr_q 592 (27, (593, (20, (20, (0, [])))))))) (ev_ct 596 (ev_ct 593 (pr_q 593 (35, (596, (140, (2, (8, [0, 0])))))) (pr_q 596 (9, (598, (6, (0, (0, []))))))) (pr_q 598 (7, (599, (2, (0, (0, [])))))))))) (ev_ct 629 (ev_ct 615 (ev_ct 609 (ev_ct 602 (ev_ct 599 (pr_q 599 (35, (602, (74, (1, (8, [0, 0])))))) (pr_q 602 (6, (604, (5, (0, (0, []))))))) (ev_ct 604 (pr_q 604 (17, (607, (0, (609, (607, [])))))) (pr_q 609 (6, (611, (5, (0, (0, [])))))))) (ev_ct 614 (ev_ct 611 (pr_q 611 (16, (614, (0, (614, (626, [])))))) (pr_q 614 (7, (615, (3, (0, (0, []))))))) (pr_q 615 (1, (616, (0, (0, (0, [])))))))) (ev_ct 620 (ev_ct 617 (ev_ct 616 (pr_q 616 (29, (617, (23, (23, (0, [])))))) (pr_q 617 (6, (619, (6, (0, (0, []))))))) (ev_ct 619 (pr_q 619 (43, (620, (0, (0, (0, [])))))) (pr_q 620 (44, (621, (4, (0, (0, [])))))))) (ev_ct 626 (ev_ct 621 (pr_q 621 (16, (624, (0, (626, (624, [])))))) (pr_q 626 (20, (3685, (0, (0, (0, []))))))) (pr_q 629 (7, (630, (1, (0, (0, []))))))))) (ev_ct 639 (ev_ct 634 (ev_ct 631 (ev_ct 630 (pr_q 630 (7, (631, (0, (0, (0, [])))))) (pr_q 631 (6, (633, (4, (0, (0, []))))))) (ev_ct 633 (pr_q 633 (1, (634, (1, (0, (0, [])))))) (pr_q 634 (13, (635, (0, (0, (0, [])))))))) (ev_ct 636 (ev_ct 635 (pr_q 635 (27, (636, (20, (20, (0, [])))))) (pr_q 636 (35, (639, (9, (2, (7, [0, 0]))))))) (pr_q 639 (7, (640, (2, (0, (0, [])))))))) (ev_ct 644 (ev_ct 641 (ev_ct 640 (pr_q 640 (7, (641, (0, (0, (0, [])))))) (pr_q 641 (6, (643, (4, (0, (0, []))))))) (ev_ct 643 (pr_q 643 (1, (644, (1, (0, (0, [])))))) (pr_q 644 (13, (645, (0, (0, (0, [])))))))) (ev_ct 646 (ev_ct 645 (pr_q 645 (27, (646, (20, (20, (0, [])))))) (pr_q 646 (35, (649, (141, (2, (8, [0, 0]))))))) (pr_q 649 (17, (652, (0, (3685, (652, []))))))))))))) (ev_ct 850 (ev_ct 742 (ev_ct 701 (ev_ct 673 (ev_ct 662 (ev_ct 658 (ev_ct 655 (ev_ct 654 (pr_q 654 (7, (655, (1, (0, (0, [])))))) (pr_q 655 (7, (656, (0, (0, (0, []))))))) (ev_ct 656 (pr_q 656 (6, (658, (4, (0, (0, [])))))) (pr_q 658 (1, (659, (1, (0, (0, [])))))))) (ev_ct 660 (ev_ct 659 (pr_q 659 (13, (660, (0, (0, (0, [])))))) (pr_q 660 (27, (661, (20, (20, (0, []))))))) (ev_ct 661 (pr_q 661 (7, (662, (3, (0, (0, [])))))) (pr_q 662 (35, (665, (308, (3, (0, [2, 12]))))))))) (ev_ct 669 (ev_ct 667 (ev_ct 665 (pr_q 665 (9, (667, (5, (0, (0, [])))))) (pr_q 667 (7, (668, (2, (0, (0, []))))))) (ev_ct 668 (pr_q 668 (7, (669, (0, (0, (0, [])))))) (pr_q 669 (6, (671, (4, (0, (0, [])))))))) (ev_ct 672 (ev_ct 671 (pr_q 671 (1, (672, (1, (0, (0, [])))))) (pr_q 672 (13, (673, (0, (0, (0, []))))))) (pr_q 673 (27, (674, (20, (20, (0, []))))))))) (ev_ct 690 (ev_ct 680 (ev_ct 677 (ev_ct 674 (pr_q 674 (35, (677, (143, (2, (8, [0, 0])))))) (pr_q 677 (9, (679, (6, (0, (0, []))))))) (ev_ct 679 (pr_q 679 (7, (680, (2, (0, (0, [])))))) (pr_q 680 (35, (683, (74, (1, (8, [0, 0])))))))) (ev_ct 685 (ev_ct 683 (pr_q 683 (6, (685, (5, (0, (0, [])))))) (pr_q 685 (17, (688, (0, (690, (688, []))))))) (pr_q 690 (6, (692, (5, (0, (0, [])))))))) (ev_ct 697 (ev_ct 695 (ev_ct 692 (pr_q 692 (16, (695, (0, (695, (707, [])))))) (pr_q 695 (7, (696, (3, (0, (0, []))))))) (ev_ct 696 (pr_q 696 (1, (697, (0, (0, (0, [])))))) (pr_q 697 (29, (698, (23, (23, (0, [])))))))) (ev_ct 700 (ev_ct 698 (pr_q 698 (6, (700, (6, (0, (0, [])))))) (pr_q 700 (43, (701, (0, (0, (0, []))))))) (pr_q 701 (44, (702, (4, (0, (0, [])))))))))) (ev_ct 723 (ev_ct 715 (ev_ct 711 (ev_ct 707 (ev_ct 702 (pr_q 702 (16, (705, (0, (707, (705, [])))))) (pr_q 707 (20, (3685, (0, (0, (0, []))))))) (ev_ct 710 (pr_q 710 (7, (711, (1, (0, (0, [])))))) (pr_q 711 (7, (712, (0, (0, (0, [])))))))) (ev_ct 714 (ev_ct 712 (pr_q 712 (6, (714, (4, (0, (0, [])))))) (pr_q 714 (1, (715, (1, (0, (0, []))))))) (pr_q 715 (13, (716, (0, (0, (0, [])))))))) (ev_ct 720 (ev_ct 717 (ev_ct 716 (pr_q 716 (27, (717, (20, (20, (0, [])))))) (pr_q 717 (7, (718, (0, (0, (0, []))))))) (ev_ct 718 (pr_q 718 (6, (720, (4, (0, (0, [])))))) (pr_q 720 (1, (721, (2, (0, (0, [])))))))) (ev_ct 722 (ev_ct 721 (pr_q 721 (13, (722, (0, (0, (0, [])))))) (pr_q 722 (27, (723, (20, (20, (0, []))))))) (pr_q 723 (7, (724, (3, (0, (0, []))))))))) (ev_ct 734 (ev_ct 730 (ev_ct 727 (ev_ct 724 (pr_q 724 (35, (727, (309, (4, (0, [2, 12])))))) (pr_q 727 (9, (729, (5, (0, (0, []))))))) (ev_ct 729 (pr_q 729 (7, (730, (2, (0, (0, [])))))) (pr_q 730 (7, (731, (0, (0, (0, [])))))))) (ev_ct 733 (ev_ct 731 (pr_q 731 (6, (733, (4, (0, (0, [])))))) (pr_q 733 (1, (734, (1, (0, (0, []))))))) (pr_q 734 (13, (735, (0, (0, (0, [])))))))) (ev_ct 739 (ev_ct 736 (ev_ct 735 (pr_q 735 (27, (736, (20, (20, (0, [])))))) (pr_q 736 (7, (737, (0, (0, (0, []))))))) (ev_ct 737 (pr_q 737 (6, (739, (4, (0, (0, [])))))) (pr_q 739 (1, (740, (2, (0, (0, [])))))))) (ev_ct 741 (ev_ct 740 (pr_q 740 (13, (741, (0, (0, (0, [])))))) (pr_q 741 (27, (742, (20, (20, (0, []))))))) (pr_q 742 (35, (745, (144, (3, (8, [0, 0]))))))))))) (ev_ct 799 (ev_ct 777 (ev_ct 763 (ev_ct 751 (ev_ct 747 (ev_ct 745 (pr_q 745 (9, (747, (6, (0, (0, [])))))) (pr_q 747 (7, (748, (2, (0, (0, []))))))) (ev_ct 748 (pr_q 748 (35, (751, (74, (1, (8, [0, 0])))))) (pr_q 751 (6, (753, (5, (0, (0, [])))))))) (ev_ct 758 (ev_ct 753 (pr_q 753 (17, (756, (0, (758, (756, [])))))) (pr_q 758 (6, (760, (5, (0, (0, []))))))) (ev_ct 760 (pr_q 760 (16, (763, (0, (763, (782, [])))))) (pr_q 763 (7, (764, (3, (0, (0, []))))))))) (ev_ct 768 (ev_ct 765 (ev_ct 764 (pr_q 764 (1, (765, (0, (0, (0, [])))))) (pr_q 765 (29, (766, (23, (23, (0, []))))))) (ev_ct 766 (pr_q 766 (6, (768, (6, (0, (0, [])))))) (pr_q 768 (16, (771, (0, (775, (771, [])))))))) (ev_ct 776 (ev_ct 775 (pr_q 775 (3, (776, (0, (0, (0, [])))))) (pr_q 776 (44, (777, (4, (0, (0, []))))))) (pr_q 777 (16, (780, (0, (782, (780, []))))))))) (ev_ct 791 (ev_ct 787 (ev_ct 785 (ev_ct 782 (pr_q 782 (20, (3685, (0, (0, (0, [])))))) (pr_q 785 (7, (786, (1, (0, (0, []))))))) (ev_ct 786 (pr_q 786 (7, (787, (0, (0, (0, [])))))) (pr_q 787 (6, (789, (4, (0, (0, [])))))))) (ev_ct 790 (ev_ct 789 (pr_q 789 (1, (790, (1, (0, (0, [])))))) (pr_q 790 (13, (791, (0, (0, (0, []))))))) (pr_q 791 (27, (792, (20, (20, (0, [])))))))) (ev_ct 796 (ev_ct 793 (ev_ct 792 (pr_q 792 (7, (793, (0, (0, (0, [])))))) (pr_q 793 (6, (795, (4, (0, (0, []))))))) (ev_ct 795 (pr_q 795 (1, (796, (2, (0, (0, [])))))) (pr_q 796 (13, (797, (0, (0, (0, [])))))))) (ev_ct 798 (ev_ct 797 (pr_q 797 (27, (798, (20, (20, (0, [])))))) (pr_q 798 (7, (799, (3, (0, (0, []))))))) (pr_q 799 (35, (802, (310, (4, (0, [3, 18])))))))))) (ev_ct 820 (ev_ct 810 (ev_ct 806 (ev_ct 804 (ev_ct 802 (pr_q 802 (9, (804, (5, (0, (0, [])))))) (pr_q 804 (7, (805, (2, (0, (0, []))))))) (ev_ct 805 (pr_q 805 (7, (806, (0, (0, (0, [])))))) (pr_q 806 (6, (808, (4, (0, (0, [])))))))) (ev_ct 809 (ev_ct 808 (pr_q 808 (1, (809, (1, (0, (0, [])))))) (pr_q 809 (13, (810, (0, (0, (0, []))))))) (pr_q 810 (27, (811, (20, (20, (0, [])))))))) (ev_ct 815 (ev_ct 812 (ev_ct 811 (pr_q 811 (7, (812, (0, (0, (0, [])))))) (pr_q 812 (6, (814, (4, (0, (0, []))))))) (ev_ct 814 (pr_q 814 (1, (815, (2, (0, (0, [])))))) (pr_q 815 (13, (816, (0, (0, (0, [])))))))) (ev_ct 817 (ev_ct 816 (pr_q 816 (27, (817, (20, (20, (0, [])))))) (pr_q 817 (35, (820, (147, (3, (8, [0, 0]))))))) (pr_q 820 (9, (822, (6, (0, (0, []))))))))) (ev_ct 838 (ev_ct 828 (ev_ct 823 (ev_ct 822 (pr_q 822 (7, (823, (2, (0, (0, [])))))) (pr_q 823 (35, (826, (74, (1, (8, [0, 0]))))))) (ev_ct 826 (pr_q 826 (6, (828, (5, (0, (0, [])))))) (pr_q 828 (17, (831, (0, (833, (831, [])))))))) (ev_ct 835 (ev_ct 833 (pr_q 833 (6, (835, (5, (0, (0, [])))))) (pr_q 835 (16, (838, (0, (838, (850, []))))))) (pr_q 838 (7, (839, (3, (0, (0, [])))))))) (ev_ct 843 (ev_ct 840 (ev_ct 839 (pr_q 839 (1, (840, (0, (0, (0, [])))))) (pr_q 840 (29, (841, (23, (23, (0, []))))))) (ev_ct 841 (pr_q 841 (6, (843, (6, (0, (0, [])))))) (pr_q 843 (43, (844, (0, (0, (0, [])))))))) (ev_ct 845 (ev_ct 844 (pr_q 844 (44, (845, (4, (0, (0, [])))))) (pr_q 845 (16, (848, (0, (850, (848, []))))))) (pr_q 850 (20, (3685, (0, (0, (0, [])))))))))))) (ev_ct 952 (ev_ct 900 (ev_ct 872 (ev_ct 861 (ev_ct 857 (ev_ct 854 (ev_ct 853 (pr_q 853 (7, (854, (1, (0, (0, [])))))) (pr_q 854 (7, (855, (0, (0, (0, []))))))) (ev_ct 855 (pr_q 855 (6, (857, (4, (0, (0, [])))))) (pr_q 857 (1, (858, (1, (0, (0, [])))))))) (ev_ct 859 (ev_ct 858 (pr_q 858 (13, (859, (0, (0, (0, [])))))) (pr_q 859 (27, (860, (20, (20, (0, []))))))) (ev_ct 860 (pr_q 860 (7, (861, (3, (0, (0, [])))))) (pr_q 861 (35, (864, (311, (3, (0, [1, 6]))))))))) (ev_ct 868 (ev_ct 866 (ev_ct 864 (pr_q 864 (9, (866, (5, (0, (0, [])))))) (pr_q 866 (7, (867, (2, (0, (0, []))))))) (ev_ct 867 (pr_q 867 (7, (868, (0, (0, (0, [])))))) (pr_q 868 (6, (870, (4, (0, (0, [])))))))) (ev_ct 871 (ev_ct 870 (pr_q 870 (1, (871, (1, (0, (0, [])))))) (pr_q 871 (13, (872, (0, (0, (0, []))))))) (pr_q 872 (27, (873, (20, (20, (0, []))))))))) (ev_ct 889 (ev_ct 879 (ev_ct 876 (ev_ct 873 (pr_q 873 (35, (876, (150, (2, (8, [0, 0])))))) (pr_q 876 (9, (878, (6, (0, (0, []))))))) (ev_ct 878 (pr_q 878 (7, (879, (2, (0, (0, [])))))) (pr_q 879 (35, (882, (74, (1, (8, [0, 0])))))))) (ev_ct 884 (ev_ct 882 (pr_q 882 (6, (884, (5, (0, (0, [])))))) (pr_q 884 (17, (887, (0, (889, (887, []))))))) (pr_q 889 (6, (891, (5, (0, (0, [])))))))) (ev_ct 896 (ev_ct 894 (ev_ct 891 (pr_q 891 (16, (894, (0, (894, (906, [])))))) (pr_q 894 (7, (895, (3, (0, (0, []))))))) (ev_ct 895 (pr_q 895 (1, (896, (0, (0, (0, [])))))) (pr_q 896 (29, (897, (23, (23, (0, [])))))))) (ev_ct 899 (ev_ct 897 (pr_q 897 (6, (899, (6, (0, (0, [])))))) (pr_q 899 (43, (900, (0, (0, (0, []))))))) (pr_q 900 (44, (901, (4, (0, (0, [])))))))))) (ev_ct 924 (ev_ct 914 (ev_ct 910 (ev_ct 906 (ev_ct 901 (pr_q 901 (16, (904, (0, (906, (904, [])))))) (pr_q 906 (20, (3685, (0, (0, (0, []))))))) (ev_ct 909 (pr_q 909 (7, (910, (1, (0, (0, [])))))) (pr_q 910 (7, (911, (0, (0, (0, [])))))))) (ev_ct 913 (ev_ct 911 (pr_q 911 (6, (913, (4, (0, (0, [])))))) (pr_q 913 (1, (914, (1, (0, (0, []))))))) (pr_q 914 (13, (915, (0, (0, (0, [])))))))) (ev_ct 920 (ev_ct 916 (ev_ct 915 (pr_q 915 (27, (916, (20, (20, (0, [])))))) (pr_q 916 (7, (917, (3, (0, (0, []))))))) (ev_ct 917 (pr_q 917 (35, (920, (312, (3, (0, [1, 6])))))) (pr_q 920 (9, (922, (5, (0, (0, [])))))))) (ev_ct 923 (ev_ct 922 (pr_q 922 (7, (923, (2, (0, (0, [])))))) (pr_q 923 (7, (924, (0, (0, (0, []))))))) (pr_q 924 (6, (926, (4, (0, (0, []))))))))) (ev_ct 935 (ev_ct 929 (ev_ct 927 (ev_ct 926 (pr_q 926 (1, (927, (1, (0, (0, [])))))) (pr_q 927 (13, (928, (0, (0, (0, []))))))) (ev_ct 928 (pr_q 928 (27, (929, (20, (20, (0, [])))))) (pr_q 929 (35, (932, (153, (2, (8, [0, 0])))))))) (ev_ct 934 (ev_ct 932 (pr_q 932 (9, (934, (6, (0, (0, [])))))) (pr_q 934 (7, (935, (2, (0, (0, []))))))) (pr_q 935 (35, (938, (74, (1, (8, [0, 0])))))))) (ev_ct 947 (ev_ct 940 (ev_ct 938 (pr_q 938 (6, (940, (5, (0, (0, [])))))) (pr_q 940 (17, (943, (0, (945, (943, []))))))) (ev_ct 945 (pr_q 945 (6, (947, (5, (0, (0, [])))))) (pr_q 947 (16, (950, (0, (950, (962, [])))))))) (ev_ct 951 (ev_ct 950 (pr_q 950 (7, (951, (3, (0, (0, [])))))) (pr_q 951 (1, (952, (0, (0, (0, []))))))) (pr_q 952 (29, (953, (23, (23, (0, []))))))))))) (ev_ct 1007 (ev_ct 977 (ev_ct 967 (ev_ct 957 (ev_ct 955 (ev_ct 953 (pr_q 953 (6, (955, (6, (0, (0, [])))))) (pr_q 955 (43, (956, (0, (0, (0, []))))))) (ev_ct 956 (pr_q 956 (44, (957, (4, (0, (0, [])))))) (pr_q 957 (16, (960, (0, (962, (960, [])))))))) (ev_ct 965 (ev_ct 962 (pr_q 962 (20, (3685, (0, (0, (0, [])))))) (pr_q 965 (7, (966, (1, (0, (0, []))))))) (ev_ct 966 (pr_q 966 (7, (967, (0, (0, (0, [])))))) (pr_q 967 (6, (969, (4, (0, (0, []))))))))) (ev_ct 972 (ev_ct 970 (ev_ct 969 (pr_q 969 (1, (970, (1, (0, (0, [])))))) (pr_q 970 (13, (971, (0, (0, (0, []))))))) (ev_ct 971 (pr_q 971 (27, (972, (20, (20, (0, [])))))) (pr_q 972 (35, (975, (15, (2, (7, [0, 0])))))))) (ev_ct 976 (ev_ct 975 (pr_q 975 (7, (976, (2, (0, (0, [])))))) (pr_q 976 (7, (977, (0, (0, (0, []))))))) (pr_q 977 (6, (979, (4, (0, (0, []))))))))) (ev_ct 991 (ev_ct 982 (ev_ct 980 (ev_ct 979 (pr_q 979 (1, (980, (1, (0, (0, [])))))) (pr_q 980 (13, (981, (0, (0, (0, []))))))) (ev_ct 981 (pr_q 981 (27, (982, (20, (20, (0, [])))))) (pr_q 982 (35, (985, (154, (2, (8, [0, 0])))))))) (ev_ct 990 (ev_ct 985 (pr_q 985 (17, (988, (0, (3685, (988, [])))))) (pr_q 990 (7, (991, (1, (0, (0, []))))))) (pr_q 991 (35, (994, (16, (1, (7, [0, 0])))))))) (ev_ct 1003 (ev_ct 995 (ev_ct 994 (pr_q 994 (7, (995, (2, (0, (0, [])))))) (pr_q 995 (35, (998, (156, (1, (8, [0, 0]))))))) (ev_ct 998 (pr_q 998 (17, (1001, (0, (3685, (1001, [])))))) (pr_q 1003 (7, (1004, (1, (0, (0, [])))))))) (ev_ct 1005 (ev_ct 1004 (pr_q 1004 (7, (1005, (0, (0, (0, [])))))) (pr_q 1005 (6, (1007, (4, (0, (0, []))))))) (pr_q 1007 (1, (1008, (1, (0, (0, [])))))))))) (ev_ct 1023 (ev_ct 1015 (ev_ct 1011 (ev_ct 1009 (ev_ct 1008 (pr_q 1008 (13, (1009, (0, (0, (0, [])))))) (pr_q 1009 (27, (1010, (20, (20, (0, []))))))) (ev_ct 1010 (pr_q 1010 (7, (1011, (0, (0, (0, [])))))) (pr_q 1011 (6, (1013, (4, (0, (0, [])))))))) (ev_ct 1014 (ev_ct 1013 (pr_q 1013 (1, (1014, (2, (0, (0, [])))))) (pr_q 1014 (13, (1015, (0, (0, (0, []))))))) (pr_q 1015 (27, (1016, (20, (20, (0, [])))))))) (ev_ct 1020 (ev_ct 1017 (ev_ct 1016 (pr_q 1016 (7, (1017, (0, (0, (0, [])))))) (pr_q 1017 (6, (1019, (4, (0, (0, []))))))) (ev_ct 1019 (pr_q 1019 (1, (1020, (3, (0, (0, [])))))) (pr_q 1020 (13, (1021, (0, (0, (0, [])))))))) (ev_ct 1022 (ev_ct 1021 (pr_q 1021 (27, (1022, (20, (20, (0, [])))))) (pr_q 1022 (7, (1023, (0, (0, (0, []))))))) (pr_q 1023 (6, (1025, (4, (0, (0, []))))))))) (ev_ct 1034 (ev_ct 1028 (ev_ct 1026 (ev_ct 1025 (pr_q 1025 (1, (1026, (4, (0, (0, [])))))) (pr_q 1026 (13, (1027, (0, (0, (0, []))))))) (ev_ct 1027 (pr_q 1027 (27, (1028, (20, (20, (0, [])))))) (pr_q 1028 (7, (1029, (3, (0, (0, [])))))))) (ev_ct 1032 (ev_ct 1029 (pr_q 1029 (35, (1032, (313, (6, (0, [5, 30])))))) (pr_q 1032 (9, (1034, (5, (0, (0, []))))))) (pr_q 1034 (7, (1035, (2, (0, (0, [])))))))) (ev_ct 1039 (ev_ct 1036 (ev_ct 1035 (pr_q 1035 (7, (1036, (0, (0, (0, [])))))) (pr_q 1036 (6, (1038, (4, (0, (0, []))))))) (ev_ct 1038 (pr_q 1038 (1, (1039, (1, (0, (0, [])))))) (pr_q 1039 (13, (1040, (0, (0, (0, [])))))))) (ev_ct 1041 (ev_ct 1040 (pr_q 1040 (27, (1041, (20, (20, (0, [])))))) (pr_q 1041 (7, (1042, (0, (0, (0, []))))))) (pr_q 1042 (6, (1044, (4, (0, (0, [])))))))))))))) (ev_ct 1460 (ev_ct 1244 (ev_ct 1132 (ev_ct 1092 (ev_ct 1062 (ev_ct 1052 (ev_ct 1047 (ev_ct 1045 (ev_ct 1044 (pr_q 1044 (1, (1045, (2, (0, (0, [])))))) (pr_q 1045 (13, (1046, (0, (0, (0, []))))))) (ev_ct 1046 (pr_q 1046 (27, (1047, (20, (20, (0, [])))))) (pr_q 1047 (7, (1048, (0, (0, (0, [])))))))) (ev_ct 1050 (ev_ct 1048 (pr_q 1048 (6, (1050, (4, (0, (0, [])))))) (pr_q 1050 (1, (1051, (3, (0, (0, []))))))) (ev_ct 1051 (pr_q 1051 (13, (1052, (0, (0, (0, [])))))) (pr_q 1052 (27, (1053, (20, (20, (0, []))))))))) (ev_ct 1057 (ev_ct 1054 (ev_ct 1053 (pr_q 1053 (7, (1054, (0, (0, (0, [])))))) (pr_q 1054 (6, (1056, (4, (0, (0, []))))))) (ev_ct 1056 (pr_q 1056 (1, (1057, (4, (0, (0, [])))))) (pr_q 1057 (13, (1058, (0, (0, (0, [])))))))) (ev_ct 1059 (ev_ct 1058 (pr_q 1058 (27, (1059, (20, (20, (0, [])))))) (pr_q 1059 (35, (1062, (158, (5, (8, [0, 0]))))))) (pr_q 1062 (9, (1064, (6, (0, (0, []))))))))) (ev_ct 1080 (ev_ct 1070 (ev_ct 1065 (ev_ct 1064 (pr_q 1064 (7, (1065, (2, (0, (0, [])))))) (pr_q 1065 (35, (1068, (74, (1, (8, [0, 0]))))))) (ev_ct 1068 (pr_q 1068 (6, (1070, (5, (0, (0, [])))))) (pr_q 1070 (17, (1073, (0, (1075, (1073, [])))))))) (ev_ct 1077 (ev_ct 1075 (pr_q 1075 (6, (1077, (5, (0, (0, [])))))) (pr_q 1077 (16, (1080, (0, (1080, (1092, []))))))) (pr_q 1080 (7, (1081, (3, (0, (0, [])))))))) (ev_ct 1085 (ev_ct 1082 (ev_ct 1081 (pr_q 1081 (1, (1082, (0, (0, (0, [])))))) (pr_q 1082 (29, (1083, (23, (23, (0, []))))))) (ev_ct 1083 (pr_q 1083 (6, (1085, (6, (0, (0, [])))))) (pr_q 1085 (43, (1086, (0, (0, (0, [])))))))) (ev_ct 1087 (ev_ct 1086 (pr_q 1086 (44, (1087, (4, (0, (0, [])))))) (pr_q 1087 (16, (1090, (0, (1092, (1090, []))))))) (pr_q 1092 (20, (3685, (0, (0, (0, [])))))))))) (ev_ct 1112 (ev_ct 1102 (ev_ct 1099 (ev_ct 1096 (ev_ct 1095 (pr_q 1095 (7, (1096, (1, (0, (0, [])))))) (pr_q 1096 (7, (1097, (0, (0, (0, []))))))) (ev_ct 1097 (pr_q 1097 (6, (1099, (4, (0, (0, [])))))) (pr_q 1099 (1, (1100, (1, (0, (0, [])))))))) (ev_ct 1101 (ev_ct 1100 (pr_q 1100 (13, (1101, (0, (0, (0, [])))))) (pr_q 1101 (27, (1102, (20, (20, (0, []))))))) (pr_q 1102 (7, (1103, (0, (0, (0, [])))))))) (ev_ct 1107 (ev_ct 1105 (ev_ct 1103 (pr_q 1103 (6, (1105, (4, (0, (0, [])))))) (pr_q 1105 (1, (1106, (2, (0, (0, []))))))) (ev_ct 1106 (pr_q 1106 (13, (1107, (0, (0, (0, [])))))) (pr_q 1107 (27, (1108, (20, (20, (0, [])))))))) (ev_ct 1109 (ev_ct 1108 (pr_q 1108 (7, (1109, (3, (0, (0, [])))))) (pr_q 1109 (35, (1112, (314, (4, (0, [3, 18]))))))) (pr_q 1112 (9, (1114, (5, (0, (0, []))))))))) (ev_ct 1121 (ev_ct 1118 (ev_ct 1115 (ev_ct 1114 (pr_q 1114 (7, (1115, (2, (0, (0, [])))))) (pr_q 1115 (7, (1116, (0, (0, (0, []))))))) (ev_ct 1116 (pr_q 1116 (6, (1118, (4, (0, (0, [])))))) (pr_q 1118 (1, (1119, (1, (0, (0, [])))))))) (ev_ct 1120 (ev_ct 1119 (pr_q 1119 (13, (1120, (0, (0, (0, [])))))) (pr_q 1120 (27, (1121, (20, (20, (0, []))))))) (pr_q 1121 (7, (1122, (0, (0, (0, [])))))))) (ev_ct 1126 (ev_ct 1124 (ev_ct 1122 (pr_q 1122 (6, (1124, (4, (0, (0, [])))))) (pr_q 1124 (1, (1125, (2, (0, (0, []))))))) (ev_ct 1125 (pr_q 1125 (13, (1126, (0, (0, (0, [])))))) (pr_q 1126 (27, (1127, (20, (20, (0, [])))))))) (ev_ct 1130 (ev_ct 1127 (pr_q 1127 (35, (1130, (160, (3, (8, [0, 0])))))) (pr_q 1130 (9, (1132, (6, (0, (0, []))))))) (pr_q 1132 (7, (1133, (2, (0, (0, []))))))))))) (ev_ct 1192 (ev_ct 1173 (ev_ct 1164 (ev_ct 1143 (ev_ct 1136 (ev_ct 1133 (pr_q 1133 (35, (1136, (74, (1, (8, [0, 0])))))) (pr_q 1136 (6, (1138, (5, (0, (0, []))))))) (ev_ct 1138 (pr_q 1138 (17, (1141, (0, (1143, (1141, [])))))) (pr_q 1143 (6, (1145, (5, (0, (0, [])))))))) (ev_ct 1160 (ev_ct 1145 (pr_q 1145 (16, (1148, (0, (1148, (1160, [])))))) (pr_q 1160 (20, (3685, (0, (0, (0, []))))))) (ev_ct 1163 (pr_q 1163 (7, (1164, (1, (0, (0, [])))))) (pr_q 1164 (7, (1165, (0, (0, (0, []))))))))) (ev_ct 1169 (ev_ct 1167 (ev_ct 1165 (pr_q 1165 (6, (1167, (4, (0, (0, [])))))) (pr_q 1167 (1, (1168, (1, (0, (0, []))))))) (ev_ct 1168 (pr_q 1168 (13, (1169, (0, (0, (0, [])))))) (pr_q 1169 (27, (1170, (20, (20, (0, [])))))))) (ev_ct 1171 (ev_ct 1170 (pr_q 1170 (7, (1171, (0, (0, (0, [])))))) (pr_q 1171 (6, (1173, (4, (0, (0, []))))))) (pr_q 1173 (1, (1174, (2, (0, (0, []))))))))) (ev_ct 1183 (ev_ct 1177 (ev_ct 1175 (ev_ct 1174 (pr_q 1174 (13, (1175, (0, (0, (0, [])))))) (pr_q 1175 (27, (1176, (20, (20, (0, []))))))) (ev_ct 1176 (pr_q 1176 (7, (1177, (3, (0, (0, [])))))) (pr_q 1177 (35, (1180, (315, (4, (0, [2, 12])))))))) (ev_ct 1182 (ev_ct 1180 (pr_q 1180 (9, (1182, (5, (0, (0, [])))))) (pr_q 1182 (7, (1183, (2, (0, (0, []))))))) (pr_q 1183 (7, (1184, (0, (0, (0, [])))))))) (ev_ct 1188 (ev_ct 1186 (ev_ct 1184 (pr_q 1184 (6, (1186, (4, (0, (0, [])))))) (pr_q 1186 (1, (1187, (1, (0, (0, []))))))) (ev_ct 1187 (pr_q 1187 (13, (1188, (0, (0, (0, [])))))) (pr_q 1188 (27, (1189, (20, (20, (0, [])))))))) (ev_ct 1190 (ev_ct 1189 (pr_q 1189 (7, (1190, (0, (0, (0, [])))))) (pr_q 1190 (6, (1192, (4, (0, (0, []))))))) (pr_q 1192 (1, (1193, (2, (0, (0, [])))))))))) (ev_ct 1219 (ev_ct 1204 (ev_ct 1198 (ev_ct 1194 (ev_ct 1193 (pr_q 1193 (13, (1194, (0, (0, (0, [])))))) (pr_q 1194 (27, (1195, (20, (20, (0, []))))))) (ev_ct 1195 (pr_q 1195 (35, (1198, (162, (3, (8, [0, 0])))))) (pr_q 1198 (9, (1200, (6, (0, (0, [])))))))) (ev_ct 1201 (ev_ct 1200 (pr_q 1200 (7, (1201, (2, (0, (0, [])))))) (pr_q 1201 (35, (1204, (74, (1, (8, [0, 0]))))))) (pr_q 1204 (6, (1206, (5, (0, (0, [])))))))) (ev_ct 1216 (ev_ct 1211 (ev_ct 1206 (pr_q 1206 (17, (1209, (0, (1211, (1209, [])))))) (pr_q 1211 (6, (1213, (5, (0, (0, []))))))) (ev_ct 1213 (pr_q 1213 (16, (1216, (0, (1216, (1228, [])))))) (pr_q 1216 (7, (1217, (3, (0, (0, [])))))))) (ev_ct 1218 (ev_ct 1217 (pr_q 1217 (1, (1218, (0, (0, (0, [])))))) (pr_q 1218 (29, (1219, (23, (23, (0, []))))))) (pr_q 1219 (6, (1221, (6, (0, (0, []))))))))) (ev_ct 1233 (ev_ct 1228 (ev_ct 1222 (ev_ct 1221 (pr_q 1221 (43, (1222, (0, (0, (0, [])))))) (pr_q 1222 (44, (1223, (4, (0, (0, []))))))) (ev_ct 1223 (pr_q 1223 (16, (1226, (0, (1228, (1226, [])))))) (pr_q 1228 (20, (3685, (0, (0, (0, [])))))))) (ev_ct 1232 (ev_ct 1231 (pr_q 1231 (7, (1232, (1, (0, (0, [])))))) (pr_q 1232 (7, (1233, (0, (0, (0, []))))))) (pr_q 1233 (6, (1235, (4, (0, (0, [])))))))) (ev_ct 1238 (ev_ct 1236 (ev_ct 1235 (pr_q 1235 (1, (1236, (1, (0, (0, [])))))) (pr_q 1236 (13, (1237, (0, (0, (0, []))))))) (ev_ct 1237 (pr_q 1237 (27, (1238, (20, (20, (0, [])))))) (pr_q 1238 (7, (1239, (3, (0, (0, [])))))))) (ev_ct 1242 (ev_ct 1239 (pr_q 1239 (35, (1242, (316, (3, (0, [3, 18])))))) (pr_q 1242 (9, (1244, (5, (0, (0, []))))))) (pr_q 1244 (7, (1245, (2, (0, (0, [])))))))))))) (ev_ct 1365 (ev_ct 1306 (ev_ct 1287 (ev_ct 1256 (ev_ct 1249 (ev_ct 1246 (ev_ct 1245 (pr_q 1245 (7, (1246, (0, (0, (0, [])))))) (pr_q 1246 (6, (1248, (4, (0, (0, []))))))) (ev_ct 1248 (pr_q 1248 (1, (1249, (1, (0, (0, [])))))) (pr_q 1249 (13, (1250, (0, (0, (0, [])))))))) (ev_ct 1251 (ev_ct 1250 (pr_q 1250 (27, (1251, (20, (20, (0, [])))))) (pr_q 1251 (35, (1254, (163, (2, (8, [0, 0]))))))) (ev_ct 1254 (pr_q 1254 (9, (1256, (6, (0, (0, [])))))) (pr_q 1256 (7, (1257, (2, (0, (0, []))))))))) (ev_ct 1267 (ev_ct 1260 (ev_ct 1257 (pr_q 1257 (35, (1260, (74, (1, (8, [0, 0])))))) (pr_q 1260 (6, (1262, (5, (0, (0, []))))))) (ev_ct 1262 (pr_q 1262 (17, (1265, (0, (1267, (1265, [])))))) (pr_q 1267 (6, (1269, (5, (0, (0, [])))))))) (ev_ct 1284 (ev_ct 1269 (pr_q 1269 (16, (1272, (0, (1272, (1284, [])))))) (pr_q 1284 (20, (3685, (0, (0, (0, []))))))) (pr_q 1287 (7, (1288, (1, (0, (0, []))))))))) (ev_ct 1295 (ev_ct 1292 (ev_ct 1289 (ev_ct 1288 (pr_q 1288 (7, (1289, (0, (0, (0, [])))))) (pr_q 1289 (6, (1291, (4, (0, (0, []))))))) (ev_ct 1291 (pr_q 1291 (1, (1292, (1, (0, (0, [])))))) (pr_q 1292 (13, (1293, (0, (0, (0, [])))))))) (ev_ct 1294 (ev_ct 1293 (pr_q 1293 (27, (1294, (20, (20, (0, [])))))) (pr_q 1294 (7, (1295, (0, (0, (0, []))))))) (pr_q 1295 (6, (1297, (4, (0, (0, [])))))))) (ev_ct 1300 (ev_ct 1298 (ev_ct 1297 (pr_q 1297 (1, (1298, (2, (0, (0, [])))))) (pr_q 1298 (13, (1299, (0, (0, (0, []))))))) (ev_ct 1299 (pr_q 1299 (27, (1300, (20, (20, (0, [])))))) (pr_q 1300 (7, (1301, (3, (0, (0, [])))))))) (ev_ct 1304 (ev_ct 1301 (pr_q 1301 (35, (1304, (317, (4, (0, [3, 18])))))) (pr_q 1304 (9, (1306, (5, (0, (0, []))))))) (pr_q 1306 (7, (1307, (2, (0, (0, [])))))))))) (ev_ct 1325 (ev_ct 1314 (ev_ct 1311 (ev_ct 1308 (ev_ct 1307 (pr_q 1307 (7, (1308, (0, (0, (0, [])))))) (pr_q 1308 (6, (1310, (4, (0, (0, []))))))) (ev_ct 1310 (pr_q 1310 (1, (1311, (1, (0, (0, [])))))) (pr_q 1311 (13, (1312, (0, (0, (0, [])))))))) (ev_ct 1313 (ev_ct 1312 (pr_q 1312 (27, (1313, (20, (20, (0, [])))))) (pr_q 1313 (7, (1314, (0, (0, (0, []))))))) (pr_q 1314 (6, (1316, (4, (0, (0, [])))))))) (ev_ct 1319 (ev_ct 1317 (ev_ct 1316 (pr_q 1316 (1, (1317, (2, (0, (0, [])))))) (pr_q 1317 (13, (1318, (0, (0, (0, []))))))) (ev_ct 1318 (pr_q 1318 (27, (1319, (20, (20, (0, [])))))) (pr_q 1319 (35, (1322, (165, (3, (8, [0, 0])))))))) (ev_ct 1324 (ev_ct 1322 (pr_q 1322 (9, (1324, (6, (0, (0, [])))))) (pr_q 1324 (7, (1325, (2, (0, (0, []))))))) (pr_q 1325 (35, (1328, (74, (1, (8, [0, 0]))))))))) (ev_ct 1356 (ev_ct 1337 (ev_ct 1330 (ev_ct 1328 (pr_q 1328 (6, (1330, (5, (0, (0, [])))))) (pr_q 1330 (17, (1333, (0, (1335, (1333, []))))))) (ev_ct 1335 (pr_q 1335 (6, (1337, (5, (0, (0, [])))))) (pr_q 1337 (16, (1340, (0, (1340, (1352, [])))))))) (ev_ct 1355 (ev_ct 1352 (pr_q 1352 (20, (3685, (0, (0, (0, [])))))) (pr_q 1355 (7, (1356, (1, (0, (0, []))))))) (pr_q 1356 (7, (1357, (0, (0, (0, [])))))))) (ev_ct 1361 (ev_ct 1359 (ev_ct 1357 (pr_q 1357 (6, (1359, (4, (0, (0, [])))))) (pr_q 1359 (1, (1360, (1, (0, (0, []))))))) (ev_ct 1360 (pr_q 1360 (13, (1361, (0, (0, (0, [])))))) (pr_q 1361 (27, (1362, (20, (20, (0, [])))))))) (ev_ct 1363 (ev_ct 1362 (pr_q 1362 (7, (1363, (0, (0, (0, [])))))) (pr_q 1363 (6, (1365, (4, (0, (0, []))))))) (pr_q 1365 (1, (1366, (2, (0, (0, []))))))))))) (ev_ct 1413 (ev_ct 1385 (ev_ct 1376 (ev_ct 1369 (ev_ct 1367 (ev_ct 1366 (pr_q 1366 (13, (1367, (0, (0, (0, [])))))) (pr_q 1367 (27, (1368, (20, (20, (0, []))))))) (ev_ct 1368 (pr_q 1368 (7, (1369, (3, (0, (0, [])))))) (pr_q 1369 (35, (1372, (318, (4, (0, [3, 18])))))))) (ev_ct 1374 (ev_ct 1372 (pr_q 1372 (9, (1374, (5, (0, (0, [])))))) (pr_q 1374 (7, (1375, (2, (0, (0, []))))))) (ev_ct 1375 (pr_q 1375 (7, (1376, (0, (0, (0, [])))))) (pr_q 1376 (6, (1378, (4, (0, (0, []))))))))) (ev_ct 1381 (ev_ct 1379 (ev_ct 1378 (pr_q 1378 (1, (1379, (1, (0, (0, [])))))) (pr_q 1379 (13, (1380, (0, (0, (0, []))))))) (ev_ct 1380 (pr_q 1380 (27, (1381, (20, (20, (0, [])))))) (pr_q 1381 (7, (1382, (0, (0, (0, [])))))))) (ev_ct 1384 (ev_ct 1382 (pr_q 1382 (6, (1384, (4, (0, (0, [])))))) (pr_q 1384 (1, (1385, (2, (0, (0, []))))))) (pr_q 1385 (13, (1386, (0, (0, (0, []))))))))) (ev_ct 1398 (ev_ct 1392 (ev_ct 1387 (ev_ct 1386 (pr_q 1386 (27, (1387, (20, (20, (0, [])))))) (pr_q 1387 (35, (1390, (166, (3, (8, [0, 0]))))))) (ev_ct 1390 (pr_q 1390 (9, (1392, (6, (0, (0, [])))))) (pr_q 1392 (7, (1393, (2, (0, (0, [])))))))) (ev_ct 1396 (ev_ct 1393 (pr_q 1393 (35, (1396, (74, (1, (8, [0, 0])))))) (pr_q 1396 (6, (1398, (5, (0, (0, []))))))) (pr_q 1398 (17, (1401, (0, (1403, (1401, [])))))))) (ev_ct 1409 (ev_ct 1405 (ev_ct 1403 (pr_q 1403 (6, (1405, (5, (0, (0, [])))))) (pr_q 1405 (16, (1408, (0, (1408, (1427, []))))))) (ev_ct 1408 (pr_q 1408 (7, (1409, (3, (0, (0, [])))))) (pr_q 1409 (1, (1410, (0, (0, (0, [])))))))) (ev_ct 1411 (ev_ct 1410 (pr_q 1410 (29, (1411, (23, (23, (0, [])))))) (pr_q 1411 (6, (1413, (6, (0, (0, []))))))) (pr_q 1413 (16, (1416, (0, (1420, (1416, [])))))))))) (ev_ct 1441 (ev_ct 1432 (ev_ct 1427 (ev_ct 1421 (ev_ct 1420 (pr_q 1420 (3, (1421, (0, (0, (0, [])))))) (pr_q 1421 (44, (1422, (4, (0, (0, []))))))) (ev_ct 1422 (pr_q 1422 (16, (1425, (0, (1427, (1425, [])))))) (pr_q 1427 (20, (3685, (0, (0, (0, [])))))))) (ev_ct 1431 (ev_ct 1430 (pr_q 1430 (7, (1431, (1, (0, (0, [])))))) (pr_q 1431 (7, (1432, (0, (0, (0, []))))))) (pr_q 1432 (6, (1434, (4, (0, (0, [])))))))) (ev_ct 1437 (ev_ct 1435 (ev_ct 1434 (pr_q 1434 (1, (1435, (1, (0, (0, [])))))) (pr_q 1435 (13, (1436, (0, (0, (0, []))))))) (ev_ct 1436 (pr_q 1436 (27, (1437, (20, (20, (0, [])))))) (pr_q 1437 (7, (1438, (0, (0, (0, [])))))))) (ev_ct 1440 (ev_ct 1438 (pr_q 1438 (6, (1440, (4, (0, (0, [])))))) (pr_q 1440 (1, (1441, (2, (0, (0, []))))))) (pr_q 1441 (13, (1442, (0, (0, (0, []))))))))) (ev_ct 1451 (ev_ct 1447 (ev_ct 1443 (ev_ct 1442 (pr_q 1442 (27, (1443, (20, (20, (0, [])))))) (pr_q 1443 (7, (1444, (3, (0, (0, []))))))) (ev_ct 1444 (pr_q 1444 (35, (1447, (319, (4, (0, [3, 18])))))) (pr_q 1447 (9, (1449, (5, (0, (0, [])))))))) (ev_ct 1450 (ev_ct 1449 (pr_q 1449 (7, (1450, (2, (0, (0, [])))))) (pr_q 1450 (7, (1451, (0, (0, (0, []))))))) (pr_q 1451 (6, (1453, (4, (0, (0, [])))))))) (ev_ct 1456 (ev_ct 1454 (ev_ct 1453 (pr_q 1453 (1, (1454, (1, (0, (0, [])))))) (pr_q 1454 (13, (1455, (0, (0, (0, []))))))) (ev_ct 1455 (pr_q 1455 (27, (1456, (20, (20, (0, [])))))) (pr_q 1456 (7, (1457, (0, (0, (0, [])))))))) (ev_ct 1459 (ev_ct 1457 (pr_q 1457 (6, (1459, (4, (0, (0, [])))))) (pr_q 1459 (1, (1460, (2, (0, (0, []))))))) (pr_q 1460 (13, (1461, (0, (0, (0, []))))))))))))) (ev_ct 1661 (ev_ct 1572 (ev_ct 1522 (ev_ct 1503 (ev_ct 1478 (ev_ct 1467 (ev_ct 1462 (ev_ct 1461 (pr_q 1461 (27, (1462, (20, (20, (0, [])))))) (pr_q 1462 (35, (1465, (167, (3, (8, [0, 0]))))))) (ev_ct 1465 (pr_q 1465 (9, (1467, (6, (0, (0, [])))))) (pr_q 1467 (7, (1468, (2, (0, (0, [])))))))) (ev_ct 1471 (ev_ct 1468 (pr_q 1468 (35, (1471, (74, (1, (8, [0, 0])))))) (pr_q 1471 (6, (1473, (5, (0, (0, []))))))) (ev_ct 1473 (pr_q 1473 (17, (1476, (0, (1478, (1476, [])))))) (pr_q 1478 (6, (1480, (5, (0, (0, []))))))))) (ev_ct 1499 (ev_ct 1495 (ev_ct 1480 (pr_q 1480 (16, (1483, (0, (1483, (1495, [])))))) (pr_q 1495 (20, (3685, (0, (0, (0, []))))))) (ev_ct 1498 (pr_q 1498 (7, (1499, (1, (0, (0, [])))))) (pr_q 1499 (7, (1500, (0, (0, (0, [])))))))) (ev_ct 1502 (ev_ct 1500 (pr_q 1500 (6, (1502, (4, (0, (0, [])))))) (pr_q 1502 (1, (1503, (1, (0, (0, []))))))) (pr_q 1503 (13, (1504, (0, (0, (0, []))))))))) (ev_ct 1511 (ev_ct 1508 (ev_ct 1505 (ev_ct 1504 (pr_q 1504 (27, (1505, (20, (20, (0, [])))))) (pr_q 1505 (7, (1506, (0, (0, (0, []))))))) (ev_ct 1506 (pr_q 1506 (6, (1508, (4, (0, (0, [])))))) (pr_q 1508 (1, (1509, (2, (0, (0, [])))))))) (ev_ct 1510 (ev_ct 1509 (pr_q 1509 (13, (1510, (0, (0, (0, [])))))) (pr_q 1510 (27, (1511, (20, (20, (0, []))))))) (pr_q 1511 (7, (1512, (3, (0, (0, [])))))))) (ev_ct 1518 (ev_ct 1515 (ev_ct 1512 (pr_q 1512 (35, (1515, (320, (4, (0, [3, 18])))))) (pr_q 1515 (9, (1517, (5, (0, (0, []))))))) (ev_ct 1517 (pr_q 1517 (7, (1518, (2, (0, (0, [])))))) (pr_q 1518 (7, (1519, (0, (0, (0, [])))))))) (ev_ct 1521 (ev_ct 1519 (pr_q 1519 (6, (1521, (4, (0, (0, [])))))) (pr_q 1521 (1, (1522, (1, (0, (0, []))))))) (pr_q 1522 (13, (1523, (0, (0, (0, [])))))))))) (ev_ct 1548 (ev_ct 1530 (ev_ct 1527 (ev_ct 1524 (ev_ct 1523 (pr_q 1523 (27, (1524, (20, (20, (0, [])))))) (pr_q 1524 (7, (1525, (0, (0, (0, []))))))) (ev_ct 1525 (pr_q 1525 (6, (1527, (4, (0, (0, [])))))) (pr_q 1527 (1, (1528, (2, (0, (0, [])))))))) (ev_ct 1529 (ev_ct 1528 (pr_q 1528 (13, (1529, (0, (0, (0, [])))))) (pr_q 1529 (27, (1530, (20, (20, (0, []))))))) (pr_q 1530 (35, (1533, (169, (3, (8, [0, 0])))))))) (ev_ct 1539 (ev_ct 1535 (ev_ct 1533 (pr_q 1533 (9, (1535, (6, (0, (0, [])))))) (pr_q 1535 (7, (1536, (2, (0, (0, []))))))) (ev_ct 1536 (pr_q 1536 (35, (1539, (74, (1, (8, [0, 0])))))) (pr_q 1539 (6, (1541, (5, (0, (0, [])))))))) (ev_ct 1546 (ev_ct 1541 (pr_q 1541 (17, (1544, (0, (1546, (1544, [])))))) (pr_q 1546 (6, (1548, (5, (0, (0, []))))))) (pr_q 1548 (16, (1551, (0, (1551, (1563, []))))))))) (ev_ct 1558 (ev_ct 1554 (ev_ct 1552 (ev_ct 1551 (pr_q 1551 (7, (1552, (3, (0, (0, [])))))) (pr_q 1552 (1, (1553, (0, (0, (0, []))))))) (ev_ct 1553 (pr_q 1553 (29, (1554, (23, (23, (0, [])))))) (pr_q 1554 (6, (1556, (6, (0, (0, [])))))))) (ev_ct 1557 (ev_ct 1556 (pr_q 1556 (43, (1557, (0, (0, (0, [])))))) (pr_q 1557 (44, (1558, (4, (0, (0, []))))))) (pr_q 1558 (16, (1561, (0, (1563, (1561, [])))))))) (ev_ct 1568 (ev_ct 1566 (ev_ct 1563 (pr_q 1563 (20, (3685, (0, (0, (0, [])))))) (pr_q 1566 (7, (1567, (1, (0, (0, []))))))) (ev_ct 1567 (pr_q 1567 (7, (1568, (0, (0, (0, [])))))) (pr_q 1568 (6, (1570, (4, (0, (0, [])))))))) (ev_ct 1571 (ev_ct 1570 (pr_q 1570 (1, (1571, (1, (0, (0, [])))))) (pr_q 1571 (13, (1572, (0, (0, (0, []))))))) (pr_q 1572 (27, (1573, (20, (20, (0, []))))))))))) (ev_ct 1620 (ev_ct 1592 (ev_ct 1583 (ev_ct 1577 (ev_ct 1574 (ev_ct 1573 (pr_q 1573 (7, (1574, (0, (0, (0, [])))))) (pr_q 1574 (6, (1576, (4, (0, (0, []))))))) (ev_ct 1576 (pr_q 1576 (1, (1577, (2, (0, (0, [])))))) (pr_q 1577 (13, (1578, (0, (0, (0, [])))))))) (ev_ct 1579 (ev_ct 1578 (pr_q 1578 (27, (1579, (20, (20, (0, [])))))) (pr_q 1579 (7, (1580, (3, (0, (0, []))))))) (ev_ct 1580 (pr_q 1580 (35, (1583, (321, (4, (0, [3, 18])))))) (pr_q 1583 (9, (1585, (5, (0, (0, []))))))))) (ev_ct 1589 (ev_ct 1586 (ev_ct 1585 (pr_q 1585 (7, (1586, (2, (0, (0, [])))))) (pr_q 1586 (7, (1587, (0, (0, (0, []))))))) (ev_ct 1587 (pr_q 1587 (6, (1589, (4, (0, (0, [])))))) (pr_q 1589 (1, (1590, (1, (0, (0, [])))))))) (ev_ct 1591 (ev_ct 1590 (pr_q 1590 (13, (1591, (0, (0, (0, [])))))) (pr_q 1591 (27, (1592, (20, (20, (0, []))))))) (pr_q 1592 (7, (1593, (0, (0, (0, []))))))))) (ev_ct 1603 (ev_ct 1597 (ev_ct 1595 (ev_ct 1593 (pr_q 1593 (6, (1595, (4, (0, (0, [])))))) (pr_q 1595 (1, (1596, (2, (0, (0, []))))))) (ev_ct 1596 (pr_q 1596 (13, (1597, (0, (0, (0, [])))))) (pr_q 1597 (27, (1598, (20, (20, (0, [])))))))) (ev_ct 1601 (ev_ct 1598 (pr_q 1598 (35, (1601, (170, (3, (8, [0, 0])))))) (pr_q 1601 (9, (1603, (6, (0, (0, []))))))) (pr_q 1603 (7, (1604, (2, (0, (0, [])))))))) (ev_ct 1614 (ev_ct 1607 (ev_ct 1604 (pr_q 1604 (35, (1607, (74, (1, (8, [0, 0])))))) (pr_q 1607 (6, (1609, (5, (0, (0, []))))))) (ev_ct 1609 (pr_q 1609 (17, (1612, (0, (1614, (1612, [])))))) (pr_q 1614 (6, (1616, (5, (0, (0, [])))))))) (ev_ct 1619 (ev_ct 1616 (pr_q 1616 (16, (1619, (0, (1619, (1631, [])))))) (pr_q 1619 (7, (1620, (3, (0, (0, []))))))) (pr_q 1620 (1, (1621, (0, (0, (0, [])))))))))) (ev_ct 1642 (ev_ct 1634 (ev_ct 1625 (ev_ct 1622 (ev_ct 1621 (pr_q 1621 (29, (1622, (23, (23, (0, [])))))) (pr_q 1622 (6, (1624, (6, (0, (0, []))))))) (ev_ct 1624 (pr_q 1624 (43, (1625, (0, (0, (0, [])))))) (pr_q 1625 (44, (1626, (4, (0, (0, [])))))))) (ev_ct 1631 (ev_ct 1626 (pr_q 1626 (16, (1629, (0, (1631, (1629, [])))))) (pr_q 1631 (20, (3685, (0, (0, (0, []))))))) (pr_q 1634 (7, (1635, (1, (0, (0, [])))))))) (ev_ct 1639 (ev_ct 1636 (ev_ct 1635 (pr_q 1635 (7, (1636, (0, (0, (0, [])))))) (pr_q 1636 (6, (1638, (4, (0, (0, []))))))) (ev_ct 1638 (pr_q 1638 (1, (1639, (1, (0, (0, [])))))) (pr_q 1639 (13, (1640, (0, (0, (0, [])))))))) (ev_ct 1641 (ev_ct 1640 (pr_q 1640 (27, (1641, (20, (20, (0, [])))))) (pr_q 1641 (7, (1642, (0, (0, (0, []))))))) (pr_q 1642 (6, (1644, (4, (0, (0, []))))))))) (ev_ct 1653 (ev_ct 1647 (ev_ct 1645 (ev_ct 1644 (pr_q 1644 (1, (1645, (2, (0, (0, [])))))) (pr_q 1645 (13, (1646, (0, (0, (0, []))))))) (ev_ct 1646 (pr_q 1646 (27, (1647, (20, (20, (0, [])))))) (pr_q 1647 (7, (1648, (3, (0, (0, [])))))))) (ev_ct 1651 (ev_ct 1648 (pr_q 1648 (35, (1651, (322, (4, (0, [3, 18])))))) (pr_q 1651 (9, (1653, (5, (0, (0, []))))))) (pr_q 1653 (7, (1654, (2, (0, (0, [])))))))) (ev_ct 1658 (ev_ct 1655 (ev_ct 1654 (pr_q 1654 (7, (1655, (0, (0, (0, [])))))) (pr_q 1655 (6, (1657, (4, (0, (0, []))))))) (ev_ct 1657 (pr_q 1657 (1, (1658, (1, (0, (0, [])))))) (pr_q 1658 (13, (1659, (0, (0, (0, [])))))))) (ev_ct 1660 (ev_ct 1659 (pr_q 1659 (27, (1660, (20, (20, (0, [])))))) (pr_q 1660 (7, (1661, (0, (0, (0, []))))))) (pr_q 1661 (6, (1663, (4, (0, (0, [])))))))))))) (ev_ct 1774 (ev_ct 1723 (ev_ct 1704 (ev_ct 1675 (ev_ct 1666 (ev_ct 1664 (ev_ct 1663 (pr_q 1663 (1, (1664, (2, (0, (0, [])))))) (pr_q 1664 (13, (1665, (0, (0, (0, []))))))) (ev_ct 1665 (pr_q 1665 (27, (1666, (20, (20, (0, [])))))) (pr_q 1666 (35, (1669, (171, (3, (8, [0, 0])))))))) (ev_ct 1671 (ev_ct 1669 (pr_q 1669 (9, (1671, (6, (0, (0, [])))))) (pr_q 1671 (7, (1672, (2, (0, (0, []))))))) (ev_ct 1672 (pr_q 1672 (35, (1675, (74, (1, (8, [0, 0])))))) (pr_q 1675 (6, (1677, (5, (0, (0, []))))))))) (ev_ct 1699 (ev_ct 1682 (ev_ct 1677 (pr_q 1677 (17, (1680, (0, (1682, (1680, [])))))) (pr_q 1682 (6, (1684, (5, (0, (0, []))))))) (ev_ct 1684 (pr_q 1684 (16, (1687, (0, (1687, (1699, [])))))) (pr_q 1699 (20, (3685, (0, (0, (0, [])))))))) (ev_ct 1703 (ev_ct 1702 (pr_q 1702 (7, (1703, (1, (0, (0, [])))))) (pr_q 1703 (7, (1704, (0, (0, (0, []))))))) (pr_q 1704 (6, (1706, (4, (0, (0, []))))))))) (ev_ct 1713 (ev_ct 1709 (ev_ct 1707 (ev_ct 1706 (pr_q 1706 (1, (1707, (1, (0, (0, [])))))) (pr_q 1707 (13, (1708, (0, (0, (0, []))))))) (ev_ct 1708 (pr_q 1708 (27, (1709, (20, (20, (0, [])))))) (pr_q 1709 (7, (1710, (0, (0, (0, [])))))))) (ev_ct 1712 (ev_ct 1710 (pr_q 1710 (6, (1712, (4, (0, (0, [])))))) (pr_q 1712 (1, (1713, (2, (0, (0, []))))))) (pr_q 1713 (13, (1714, (0, (0, (0, [])))))))) (ev_ct 1719 (ev_ct 1715 (ev_ct 1714 (pr_q 1714 (27, (1715, (20, (20, (0, [])))))) (pr_q 1715 (7, (1716, (3, (0, (0, []))))))) (ev_ct 1716 (pr_q 1716 (35, (1719, (323, (4, (0, [3, 18])))))) (pr_q 1719 (9, (1721, (5, (0, (0, [])))))))) (ev_ct 1722 (ev_ct 1721 (pr_q 1721 (7, (1722, (2, (0, (0, [])))))) (pr_q 1722 (7, (1723, (0, (0, (0, []))))))) (pr_q 1723 (6, (1725, (4, (0, (0, [])))))))))) (ev_ct 1745 (ev_ct 1732 (ev_ct 1728 (ev_ct 1726 (ev_ct 1725 (pr_q 1725 (1, (1726, (1, (0, (0, [])))))) (pr_q 1726 (13, (1727, (0, (0, (0, []))))))) (ev_ct 1727 (pr_q 1727 (27, (1728, (20, (20, (0, [])))))) (pr_q 1728 (7, (1729, (0, (0, (0, [])))))))) (ev_ct 1731 (ev_ct 1729 (pr_q 1729 (6, (1731, (4, (0, (0, [])))))) (pr_q 1731 (1, (1732, (2, (0, (0, []))))))) (pr_q 1732 (13, (1733, (0, (0, (0, [])))))))) (ev_ct 1739 (ev_ct 1734 (ev_ct 1733 (pr_q 1733 (27, (1734, (20, (20, (0, [])))))) (pr_q 1734 (35, (1737, (172, (3, (8, [0, 0]))))))) (ev_ct 1737 (pr_q 1737 (9, (1739, (6, (0, (0, [])))))) (pr_q 1739 (7, (1740, (2, (0, (0, [])))))))) (ev_ct 1743 (ev_ct 1740 (pr_q 1740 (35, (1743, (74, (1, (8, [0, 0])))))) (pr_q 1743 (6, (1745, (5, (0, (0, []))))))) (pr_q 1745 (17, (1748, (0, (1750, (1748, []))))))))) (ev_ct 1760 (ev_ct 1756 (ev_ct 1752 (ev_ct 1750 (pr_q 1750 (6, (1752, (5, (0, (0, [])))))) (pr_q 1752 (16, (1755, (0, (1755, (1767, []))))))) (ev_ct 1755 (pr_q 1755 (7, (1756, (3, (0, (0, [])))))) (pr_q 1756 (1, (1757, (0, (0, (0, [])))))))) (ev_ct 1758 (ev_ct 1757 (pr_q 1757 (29, (1758, (23, (23, (0, [])))))) (pr_q 1758 (6, (1760, (6, (0, (0, []))))))) (pr_q 1760 (43, (1761, (0, (0, (0, [])))))))) (ev_ct 1770 (ev_ct 1762 (ev_ct 1761 (pr_q 1761 (44, (1762, (4, (0, (0, [])))))) (pr_q 1762 (16, (1765, (0, (1767, (1765, []))))))) (ev_ct 1767 (pr_q 1767 (20, (3685, (0, (0, (0, [])))))) (pr_q 1770 (7, (1771, (1, (0, (0, [])))))))) (ev_ct 1772 (ev_ct 1771 (pr_q 1771 (7, (1772, (0, (0, (0, [])))))) (pr_q 1772 (6, (1774, (4, (0, (0, []))))))) (pr_q 1774 (1, (1775, (1, (0, (0, []))))))))))) (ev_ct 1837 (ev_ct 1796 (ev_ct 1785 (ev_ct 1778 (ev_ct 1776 (ev_ct 1775 (pr_q 1775 (13, (1776, (0, (0, (0, [])))))) (pr_q 1776 (27, (1777, (20, (20, (0, []))))))) (ev_ct 1777 (pr_q 1777 (7, (1778, (3, (0, (0, [])))))) (pr_q 1778 (35, (1781, (324, (3, (0, [2, 12])))))))) (ev_ct 1783 (ev_ct 1781 (pr_q 1781 (9, (1783, (5, (0, (0, [])))))) (pr_q 1783 (7, (1784, (2, (0, (0, []))))))) (ev_ct 1784 (pr_q 1784 (7, (1785, (0, (0, (0, [])))))) (pr_q 1785 (6, (1787, (4, (0, (0, []))))))))) (ev_ct 1790 (ev_ct 1788 (ev_ct 1787 (pr_q 1787 (1, (1788, (1, (0, (0, [])))))) (pr_q 1788 (13, (1789, (0, (0, (0, []))))))) (ev_ct 1789 (pr_q 1789 (27, (1790, (20, (20, (0, [])))))) (pr_q 1790 (35, (1793, (177, (2, (8, [0, 0])))))))) (ev_ct 1795 (ev_ct 1793 (pr_q 1793 (9, (1795, (6, (0, (0, [])))))) (pr_q 1795 (7, (1796, (2, (0, (0, []))))))) (pr_q 1796 (35, (1799, (74, (1, (8, [0, 0]))))))))) (ev_ct 1827 (ev_ct 1808 (ev_ct 1801 (ev_ct 1799 (pr_q 1799 (6, (1801, (5, (0, (0, [])))))) (pr_q 1801 (17, (1804, (0, (1806, (1804, []))))))) (ev_ct 1806 (pr_q 1806 (6, (1808, (5, (0, (0, [])))))) (pr_q 1808 (16, (1811, (0, (1811, (1823, [])))))))) (ev_ct 1826 (ev_ct 1823 (pr_q 1823 (20, (3685, (0, (0, (0, [])))))) (pr_q 1826 (7, (1827, (1, (0, (0, []))))))) (pr_q 1827 (7, (1828, (0, (0, (0, [])))))))) (ev_ct 1832 (ev_ct 1830 (ev_ct 1828 (pr_q 1828 (6, (1830, (4, (0, (0, [])))))) (pr_q 1830 (1, (1831, (1, (0, (0, []))))))) (ev_ct 1831 (pr_q 1831 (13, (1832, (0, (0, (0, [])))))) (pr_q 1832 (27, (1833, (20, (20, (0, [])))))))) (ev_ct 1834 (ev_ct 1833 (pr_q 1833 (7, (1834, (3, (0, (0, [])))))) (pr_q 1834 (35, (1837, (325, (3, (0, [2, 12]))))))) (pr_q 1837 (9, (1839, (5, (0, (0, [])))))))))) (ev_ct 1864 (ev_ct 1846 (ev_ct 1843 (ev_ct 1840 (ev_ct 1839 (pr_q 1839 (7, (1840, (2, (0, (0, [])))))) (pr_q 1840 (7, (1841, (0, (0, (0, []))))))) (ev_ct 1841 (pr_q 1841 (6, (1843, (4, (0, (0, [])))))) (pr_q 1843 (1, (1844, (1, (0, (0, [])))))))) (ev_ct 1845 (ev_ct 1844 (pr_q 1844 (13, (1845, (0, (0, (0, [])))))) (pr_q 1845 (27, (1846, (20, (20, (0, []))))))) (pr_q 1846 (35, (1849, (179, (2, (8, [0, 0])))))))) (ev_ct 1855 (ev_ct 1851 (ev_ct 1849 (pr_q 1849 (9, (1851, (6, (0, (0, [])))))) (pr_q 1851 (7, (1852, (2, (0, (0, []))))))) (ev_ct 1852 (pr_q 1852 (35, (1855, (74, (1, (8, [0, 0])))))) (pr_q 1855 (6, (1857, (5, (0, (0, [])))))))) (ev_ct 1862 (ev_ct 1857 (pr_q 1857 (17, (1860, (0, (1862, (1860, [])))))) (pr_q 1862 (6, (1864, (5, (0, (0, []))))))) (pr_q 1864 (16, (1867, (0, (1867, (1879, []))))))))) (ev_ct 1888 (ev_ct 1884 (ev_ct 1882 (ev_ct 1879 (pr_q 1879 (20, (3685, (0, (0, (0, [])))))) (pr_q 1882 (7, (1883, (1, (0, (0, []))))))) (ev_ct 1883 (pr_q 1883 (7, (1884, (0, (0, (0, [])))))) (pr_q 1884 (6, (1886, (4, (0, (0, [])))))))) (ev_ct 1887 (ev_ct 1886 (pr_q 1886 (1, (1887, (1, (0, (0, [])))))) (pr_q 1887 (13, (1888, (0, (0, (0, []))))))) (pr_q 1888 (27, (1889, (20, (20, (0, [])))))))) (ev_ct 1893 (ev_ct 1890 (ev_ct 1889 (pr_q 1889 (7, (1890, (0, (0, (0, [])))))) (pr_q 1890 (6, (1892, (4, (0, (0, []))))))) (ev_ct 1892 (pr_q 1892 (1, (1893, (2, (0, (0, [])))))) (pr_q 1893 (13, (1894, (0, (0, (0, [])))))))) (ev_ct 1895 (ev_ct 1894 (pr_q 1894 (27, (1895, (20, (20, (0, [])))))) (pr_q 1895 (7, (1896, (3, (0, (0, []))))))) (pr_q 1896 (35, (1899, (326, (4, (0, [3, 18]))))))))))))))) (ev_ct 2794 (ev_ct 2324 (ev_ct 2117 (ev_ct 2019 (ev_ct 1958 (ev_ct 1919 (ev_ct 1908 (ev_ct 1903 (ev_ct 1901 (ev_ct 1899 (pr_q 1899 (9, (1901, (5, (0, (0, [])))))) (pr_q 1901 (7, (1902, (2, (0, (0, []))))))) (ev_ct 1902 (pr_q 1902 (7, (1903, (0, (0, (0, [])))))) (pr_q 1903 (6, (1905, (4, (0, (0, [])))))))) (ev_ct 1906 (ev_ct 1905 (pr_q 1905 (1, (1906, (1, (0, (0, [])))))) (pr_q 1906 (13, (1907, (0, (0, (0, []))))))) (ev_ct 1907 (pr_q 1907 (27, (1908, (20, (20, (0, [])))))) (pr_q 1908 (7, (1909, (0, (0, (0, []))))))))) (ev_ct 1913 (ev_ct 1911 (ev_ct 1909 (pr_q 1909 (6, (1911, (4, (0, (0, [])))))) (pr_q 1911 (1, (1912, (2, (0, (0, []))))))) (ev_ct 1912 (pr_q 1912 (13, (1913, (0, (0, (0, [])))))) (pr_q 1913 (27, (1914, (20, (20, (0, [])))))))) (ev_ct 1917 (ev_ct 1914 (pr_q 1914 (35, (1917, (181, (3, (8, [0, 0])))))) (pr_q 1917 (9, (1919, (6, (0, (0, []))))))) (pr_q 1919 (7, (1920, (2, (0, (0, []))))))))) (ev_ct 1950 (ev_ct 1930 (ev_ct 1923 (ev_ct 1920 (pr_q 1920 (35, (1923, (74, (1, (8, [0, 0])))))) (pr_q 1923 (6, (1925, (5, (0, (0, []))))))) (ev_ct 1925 (pr_q 1925 (17, (1928, (0, (1930, (1928, [])))))) (pr_q 1930 (6, (1932, (5, (0, (0, [])))))))) (ev_ct 1947 (ev_ct 1932 (pr_q 1932 (16, (1935, (0, (1935, (1947, [])))))) (pr_q 1947 (20, (3685, (0, (0, (0, []))))))) (pr_q 1950 (7, (1951, (1, (0, (0, [])))))))) (ev_ct 1955 (ev_ct 1952 (ev_ct 1951 (pr_q 1951 (7, (1952, (0, (0, (0, [])))))) (pr_q 1952 (6, (1954, (4, (0, (0, []))))))) (ev_ct 1954 (pr_q 1954 (1, (1955, (1, (0, (0, [])))))) (pr_q 1955 (13, (1956, (0, (0, (0, [])))))))) (ev_ct 1957 (ev_ct 1956 (pr_q 1956 (27, (1957, (20, (20, (0, [])))))) (pr_q 1957 (7, (1958, (0, (0, (0, []))))))) (pr_q 1958 (6, (1960, (4, (0, (0, [])))))))))) (ev_ct 1977 (ev_ct 1969 (ev_ct 1963 (ev_ct 1961 (ev_ct 1960 (pr_q 1960 (1, (1961, (2, (0, (0, [])))))) (pr_q 1961 (13, (1962, (0, (0, (0, []))))))) (ev_ct 1962 (pr_q 1962 (27, (1963, (20, (20, (0, [])))))) (pr_q 1963 (7, (1964, (3, (0, (0, [])))))))) (ev_ct 1967 (ev_ct 1964 (pr_q 1964 (35, (1967, (327, (4, (0, [3, 18])))))) (pr_q 1967 (9, (1969, (5, (0, (0, []))))))) (pr_q 1969 (7, (1970, (2, (0, (0, [])))))))) (ev_ct 1974 (ev_ct 1971 (ev_ct 1970 (pr_q 1970 (7, (1971, (0, (0, (0, [])))))) (pr_q 1971 (6, (1973, (4, (0, (0, []))))))) (ev_ct 1973 (pr_q 1973 (1, (1974, (1, (0, (0, [])))))) (pr_q 1974 (13, (1975, (0, (0, (0, [])))))))) (ev_ct 1976 (ev_ct 1975 (pr_q 1975 (27, (1976, (20, (20, (0, [])))))) (pr_q 1976 (7, (1977, (0, (0, (0, []))))))) (pr_q 1977 (6, (1979, (4, (0, (0, []))))))))) (ev_ct 1988 (ev_ct 1982 (ev_ct 1980 (ev_ct 1979 (pr_q 1979 (1, (1980, (2, (0, (0, [])))))) (pr_q 1980 (13, (1981, (0, (0, (0, []))))))) (ev_ct 1981 (pr_q 1981 (27, (1982, (20, (20, (0, [])))))) (pr_q 1982 (35, (1985, (182, (3, (8, [0, 0])))))))) (ev_ct 1987 (ev_ct 1985 (pr_q 1985 (9, (1987, (6, (0, (0, [])))))) (pr_q 1987 (7, (1988, (2, (0, (0, []))))))) (pr_q 1988 (35, (1991, (74, (1, (8, [0, 0])))))))) (ev_ct 2000 (ev_ct 1993 (ev_ct 1991 (pr_q 1991 (6, (1993, (5, (0, (0, [])))))) (pr_q 1993 (17, (1996, (0, (1998, (1996, []))))))) (ev_ct 1998 (pr_q 1998 (6, (2000, (5, (0, (0, [])))))) (pr_q 2000 (16, (2003, (0, (2003, (2015, [])))))))) (ev_ct 2018 (ev_ct 2015 (pr_q 2015 (20, (3685, (0, (0, (0, [])))))) (pr_q 2018 (7, (2019, (1, (0, (0, []))))))) (pr_q 2019 (7, (2020, (0, (0, (0, []))))))))))) (ev_ct 2056 (ev_ct 2037 (ev_ct 2029 (ev_ct 2024 (ev_ct 2022 (ev_ct 2020 (pr_q 2020 (6, (2022, (4, (0, (0, [])))))) (pr_q 2022 (1, (2023, (1, (0, (0, []))))))) (ev_ct 2023 (pr_q 2023 (13, (2024, (0, (0, (0, [])))))) (pr_q 2024 (27, (2025, (20, (20, (0, [])))))))) (ev_ct 2026 (ev_ct 2025 (pr_q 2025 (7, (2026, (0, (0, (0, [])))))) (pr_q 2026 (6, (2028, (4, (0, (0, []))))))) (ev_ct 2028 (pr_q 2028 (1, (2029, (2, (0, (0, [])))))) (pr_q 2029 (13, (2030, (0, (0, (0, []))))))))) (ev_ct 2034 (ev_ct 2031 (ev_ct 2030 (pr_q 2030 (27, (2031, (20, (20, (0, [])))))) (pr_q 2031 (7, (2032, (0, (0, (0, []))))))) (ev_ct 2032 (pr_q 2032 (6, (2034, (4, (0, (0, [])))))) (pr_q 2034 (1, (2035, (3, (0, (0, [])))))))) (ev_ct 2036 (ev_ct 2035 (pr_q 2035 (13, (2036, (0, (0, (0, [])))))) (pr_q 2036 (27, (2037, (20, (20, (0, []))))))) (pr_q 2037 (7, (2038, (3, (0, (0, []))))))))) (ev_ct 2048 (ev_ct 2044 (ev_ct 2041 (ev_ct 2038 (pr_q 2038 (35, (2041, (328, (5, (0, [4, 24])))))) (pr_q 2041 (9, (2043, (5, (0, (0, []))))))) (ev_ct 2043 (pr_q 2043 (7, (2044, (2, (0, (0, [])))))) (pr_q 2044 (7, (2045, (0, (0, (0, [])))))))) (ev_ct 2047 (ev_ct 2045 (pr_q 2045 (6, (2047, (4, (0, (0, [])))))) (pr_q 2047 (1, (2048, (1, (0, (0, []))))))) (pr_q 2048 (13, (2049, (0, (0, (0, [])))))))) (ev_ct 2053 (ev_ct 2050 (ev_ct 2049 (pr_q 2049 (27, (2050, (20, (20, (0, [])))))) (pr_q 2050 (7, (2051, (0, (0, (0, []))))))) (ev_ct 2051 (pr_q 2051 (6, (2053, (4, (0, (0, [])))))) (pr_q 2053 (1, (2054, (2, (0, (0, [])))))))) (ev_ct 2055 (ev_ct 2054 (pr_q 2054 (13, (2055, (0, (0, (0, [])))))) (pr_q 2055 (27, (2056, (20, (20, (0, []))))))) (pr_q 2056 (7, (2057, (0, (0, (0, [])))))))))) (ev_ct 2098 (ev_ct 2067 (ev_ct 2061 (ev_ct 2059 (ev_ct 2057 (pr_q 2057 (6, (2059, (4, (0, (0, [])))))) (pr_q 2059 (1, (2060, (3, (0, (0, []))))))) (ev_ct 2060 (pr_q 2060 (13, (2061, (0, (0, (0, [])))))) (pr_q 2061 (27, (2062, (20, (20, (0, [])))))))) (ev_ct 2065 (ev_ct 2062 (pr_q 2062 (35, (2065, (183, (4, (8, [0, 0])))))) (pr_q 2065 (9, (2067, (6, (0, (0, []))))))) (pr_q 2067 (7, (2068, (2, (0, (0, [])))))))) (ev_ct 2078 (ev_ct 2071 (ev_ct 2068 (pr_q 2068 (35, (2071, (74, (1, (8, [0, 0])))))) (pr_q 2071 (6, (2073, (5, (0, (0, []))))))) (ev_ct 2073 (pr_q 2073 (17, (2076, (0, (2078, (2076, [])))))) (pr_q 2078 (6, (2080, (5, (0, (0, [])))))))) (ev_ct 2095 (ev_ct 2080 (pr_q 2080 (16, (2083, (0, (2083, (2095, [])))))) (pr_q 2095 (20, (3685, (0, (0, (0, []))))))) (pr_q 2098 (7, (2099, (1, (0, (0, []))))))))) (ev_ct 2106 (ev_ct 2103 (ev_ct 2100 (ev_ct 2099 (pr_q 2099 (7, (2100, (0, (0, (0, [])))))) (pr_q 2100 (6, (2102, (4, (0, (0, []))))))) (ev_ct 2102 (pr_q 2102 (1, (2103, (1, (0, (0, [])))))) (pr_q 2103 (13, (2104, (0, (0, (0, [])))))))) (ev_ct 2105 (ev_ct 2104 (pr_q 2104 (27, (2105, (20, (20, (0, [])))))) (pr_q 2105 (7, (2106, (0, (0, (0, []))))))) (pr_q 2106 (6, (2108, (4, (0, (0, [])))))))) (ev_ct 2111 (ev_ct 2109 (ev_ct 2108 (pr_q 2108 (1, (2109, (2, (0, (0, [])))))) (pr_q 2109 (13, (2110, (0, (0, (0, []))))))) (ev_ct 2110 (pr_q 2110 (27, (2111, (20, (20, (0, [])))))) (pr_q 2111 (7, (2112, (3, (0, (0, [])))))))) (ev_ct 2115 (ev_ct 2112 (pr_q 2112 (35, (2115, (329, (4, (0, [2, 12])))))) (pr_q 2115 (9, (2117, (5, (0, (0, []))))))) (pr_q 2117 (7, (2118, (2, (0, (0, [])))))))))))) (ev_ct 2219 (ev_ct 2168 (ev_ct 2139 (ev_ct 2127 (ev_ct 2122 (ev_ct 2119 (ev_ct 2118 (pr_q 2118 (7, (2119, (0, (0, (0, [])))))) (pr_q 2119 (6, (2121, (4, (0, (0, []))))))) (ev_ct 2121 (pr_q 2121 (1, (2122, (1, (0, (0, [])))))) (pr_q 2122 (13, (2123, (0, (0, (0, [])))))))) (ev_ct 2124 (ev_ct 2123 (pr_q 2123 (27, (2124, (20, (20, (0, [])))))) (pr_q 2124 (7, (2125, (0, (0, (0, []))))))) (ev_ct 2125 (pr_q 2125 (6, (2127, (4, (0, (0, [])))))) (pr_q 2127 (1, (2128, (2, (0, (0, []))))))))) (ev_ct 2133 (ev_ct 2129 (ev_ct 2128 (pr_q 2128 (13, (2129, (0, (0, (0, [])))))) (pr_q 2129 (27, (2130, (20, (20, (0, []))))))) (ev_ct 2130 (pr_q 2130 (35, (2133, (185, (3, (8, [0, 0])))))) (pr_q 2133 (9, (2135, (6, (0, (0, [])))))))) (ev_ct 2136 (ev_ct 2135 (pr_q 2135 (7, (2136, (2, (0, (0, [])))))) (pr_q 2136 (35, (2139, (74, (1, (8, [0, 0]))))))) (pr_q 2139 (6, (2141, (5, (0, (0, []))))))))) (ev_ct 2154 (ev_ct 2151 (ev_ct 2146 (ev_ct 2141 (pr_q 2141 (17, (2144, (0, (2146, (2144, [])))))) (pr_q 2146 (6, (2148, (5, (0, (0, []))))))) (ev_ct 2148 (pr_q 2148 (16, (2151, (0, (2151, (2163, [])))))) (pr_q 2151 (7, (2152, (3, (0, (0, [])))))))) (ev_ct 2153 (ev_ct 2152 (pr_q 2152 (1, (2153, (0, (0, (0, [])))))) (pr_q 2153 (29, (2154, (23, (23, (0, []))))))) (pr_q 2154 (6, (2156, (6, (0, (0, [])))))))) (ev_ct 2163 (ev_ct 2157 (ev_ct 2156 (pr_q 2156 (43, (2157, (0, (0, (0, [])))))) (pr_q 2157 (44, (2158, (4, (0, (0, []))))))) (ev_ct 2158 (pr_q 2158 (16, (2161, (0, (2163, (2161, [])))))) (pr_q 2163 (20, (3685, (0, (0, (0, [])))))))) (ev_ct 2167 (ev_ct 2166 (pr_q 2166 (7, (2167, (1, (0, (0, [])))))) (pr_q 2167 (7, (2168, (0, (0, (0, []))))))) (pr_q 2168 (6, (2170, (4, (0, (0, [])))))))))) (ev_ct 2189 (ev_ct 2179 (ev_ct 2173 (ev_ct 2171 (ev_ct 2170 (pr_q 2170 (1, (2171, (1, (0, (0, [])))))) (pr_q 2171 (13, (2172, (0, (0, (0, []))))))) (ev_ct 2172 (pr_q 2172 (27, (2173, (20, (20, (0, [])))))) (pr_q 2173 (7, (2174, (3, (0, (0, [])))))))) (ev_ct 2177 (ev_ct 2174 (pr_q 2174 (35, (2177, (330, (3, (0, [1, 6])))))) (pr_q 2177 (9, (2179, (5, (0, (0, []))))))) (pr_q 2179 (7, (2180, (2, (0, (0, [])))))))) (ev_ct 2184 (ev_ct 2181 (ev_ct 2180 (pr_q 2180 (7, (2181, (0, (0, (0, [])))))) (pr_q 2181 (6, (2183, (4, (0, (0, []))))))) (ev_ct 2183 (pr_q 2183 (1, (2184, (1, (0, (0, [])))))) (pr_q 2184 (13, (2185, (0, (0, (0, [])))))))) (ev_ct 2186 (ev_ct 2185 (pr_q 2185 (27, (2186, (20, (20, (0, [])))))) (pr_q 2186 (35, (2189, (187, (2, (8, [0, 0]))))))) (pr_q 2189 (9, (2191, (6, (0, (0, []))))))))) (ev_ct 2207 (ev_ct 2197 (ev_ct 2192 (ev_ct 2191 (pr_q 2191 (7, (2192, (2, (0, (0, [])))))) (pr_q 2192 (35, (2195, (74, (1, (8, [0, 0]))))))) (ev_ct 2195 (pr_q 2195 (6, (2197, (5, (0, (0, [])))))) (pr_q 2197 (17, (2200, (0, (2202, (2200, [])))))))) (ev_ct 2204 (ev_ct 2202 (pr_q 2202 (6, (2204, (5, (0, (0, [])))))) (pr_q 2204 (16, (2207, (0, (2207, (2219, []))))))) (pr_q 2207 (7, (2208, (3, (0, (0, [])))))))) (ev_ct 2212 (ev_ct 2209 (ev_ct 2208 (pr_q 2208 (1, (2209, (0, (0, (0, [])))))) (pr_q 2209 (29, (2210, (23, (23, (0, []))))))) (ev_ct 2210 (pr_q 2210 (6, (2212, (6, (0, (0, [])))))) (pr_q 2212 (43, (2213, (0, (0, (0, [])))))))) (ev_ct 2214 (ev_ct 2213 (pr_q 2213 (44, (2214, (4, (0, (0, [])))))) (pr_q 2214 (16, (2217, (0, (2219, (2217, []))))))) (pr_q 2219 (20, (3685, (0, (0, (0, []))))))))))) (ev_ct 2269 (ev_ct 2241 (ev_ct 2230 (ev_ct 2226 (ev_ct 2223 (ev_ct 2222 (pr_q 2222 (7, (2223, (1, (0, (0, [])))))) (pr_q 2223 (7, (2224, (0, (0, (0, []))))))) (ev_ct 2224 (pr_q 2224 (6, (2226, (4, (0, (0, [])))))) (pr_q 2226 (1, (2227, (1, (0, (0, [])))))))) (ev_ct 2228 (ev_ct 2227 (pr_q 2227 (13, (2228, (0, (0, (0, [])))))) (pr_q 2228 (27, (2229, (20, (20, (0, []))))))) (ev_ct 2229 (pr_q 2229 (7, (2230, (3, (0, (0, [])))))) (pr_q 2230 (35, (2233, (331, (3, (0, [1, 6]))))))))) (ev_ct 2237 (ev_ct 2235 (ev_ct 2233 (pr_q 2233 (9, (2235, (5, (0, (0, [])))))) (pr_q 2235 (7, (2236, (2, (0, (0, []))))))) (ev_ct 2236 (pr_q 2236 (7, (2237, (0, (0, (0, [])))))) (pr_q 2237 (6, (2239, (4, (0, (0, [])))))))) (ev_ct 2240 (ev_ct 2239 (pr_q 2239 (1, (2240, (1, (0, (0, [])))))) (pr_q 2240 (13, (2241, (0, (0, (0, []))))))) (pr_q 2241 (27, (2242, (20, (20, (0, []))))))))) (ev_ct 2258 (ev_ct 2248 (ev_ct 2245 (ev_ct 2242 (pr_q 2242 (35, (2245, (190, (2, (8, [0, 0])))))) (pr_q 2245 (9, (2247, (6, (0, (0, []))))))) (ev_ct 2247 (pr_q 2247 (7, (2248, (2, (0, (0, [])))))) (pr_q 2248 (35, (2251, (74, (1, (8, [0, 0])))))))) (ev_ct 2253 (ev_ct 2251 (pr_q 2251 (6, (2253, (5, (0, (0, [])))))) (pr_q 2253 (17, (2256, (0, (2258, (2256, []))))))) (pr_q 2258 (6, (2260, (5, (0, (0, [])))))))) (ev_ct 2265 (ev_ct 2263 (ev_ct 2260 (pr_q 2260 (16, (2263, (0, (2263, (2275, [])))))) (pr_q 2263 (7, (2264, (3, (0, (0, []))))))) (ev_ct 2264 (pr_q 2264 (1, (2265, (0, (0, (0, [])))))) (pr_q 2265 (29, (2266, (23, (23, (0, [])))))))) (ev_ct 2268 (ev_ct 2266 (pr_q 2266 (6, (2268, (6, (0, (0, [])))))) (pr_q 2268 (43, (2269, (0, (0, (0, []))))))) (pr_q 2269 (44, (2270, (4, (0, (0, [])))))))))) (ev_ct 2305 (ev_ct 2286 (ev_ct 2279 (ev_ct 2275 (ev_ct 2270 (pr_q 2270 (16, (2273, (0, (2275, (2273, [])))))) (pr_q 2275 (20, (3685, (0, (0, (0, []))))))) (ev_ct 2278 (pr_q 2278 (7, (2279, (1, (0, (0, [])))))) (pr_q 2279 (35, (2282, (36, (1, (7, [0, 0])))))))) (ev_ct 2283 (ev_ct 2282 (pr_q 2282 (7, (2283, (2, (0, (0, [])))))) (pr_q 2283 (35, (2286, (191, (1, (8, [0, 0]))))))) (pr_q 2286 (17, (2289, (0, (3685, (2289, [])))))))) (ev_ct 2296 (ev_ct 2292 (ev_ct 2291 (pr_q 2291 (7, (2292, (1, (0, (0, [])))))) (pr_q 2292 (35, (2295, (37, (1, (7, [0, 0]))))))) (ev_ct 2295 (pr_q 2295 (7, (2296, (2, (0, (0, [])))))) (pr_q 2296 (35, (2299, (192, (1, (8, [0, 0])))))))) (ev_ct 2304 (ev_ct 2299 (pr_q 2299 (17, (2302, (0, (3685, (2302, [])))))) (pr_q 2304 (7, (2305, (1, (0, (0, []))))))) (pr_q 2305 (7, (2306, (0, (0, (0, []))))))))) (ev_ct 2315 (ev_ct 2310 (ev_ct 2308 (ev_ct 2306 (pr_q 2306 (6, (2308, (4, (0, (0, [])))))) (pr_q 2308 (1, (2309, (1, (0, (0, []))))))) (ev_ct 2309 (pr_q 2309 (13, (2310, (0, (0, (0, [])))))) (pr_q 2310 (27, (2311, (20, (20, (0, [])))))))) (ev_ct 2312 (ev_ct 2311 (pr_q 2311 (7, (2312, (3, (0, (0, [])))))) (pr_q 2312 (35, (2315, (332, (3, (0, [1, 6]))))))) (pr_q 2315 (9, (2317, (5, (0, (0, [])))))))) (ev_ct 2321 (ev_ct 2318 (ev_ct 2317 (pr_q 2317 (7, (2318, (2, (0, (0, [])))))) (pr_q 2318 (7, (2319, (0, (0, (0, []))))))) (ev_ct 2319 (pr_q 2319 (6, (2321, (4, (0, (0, [])))))) (pr_q 2321 (1, (2322, (1, (0, (0, [])))))))) (ev_ct 2323 (ev_ct 2322 (pr_q 2322 (13, (2323, (0, (0, (0, [])))))) (pr_q 2323 (27, (2324, (20, (20, (0, []))))))) (pr_q 2324 (35, (2327, (193, (2, (8, [0, 0]))))))))))))) (ev_ct 2581 (ev_ct 2430 (ev_ct 2378 (ev_ct 2357 (ev_ct 2345 (ev_ct 2333 (ev_ct 2329 (ev_ct 2327 (pr_q 2327 (9, (2329, (6, (0, (0, [])))))) (pr_q 2329 (7, (2330, (2, (0, (0, []))))))) (ev_ct 2330 (pr_q 2330 (35, (2333, (74, (1, (8, [0, 0])))))) (pr_q 2333 (6, (2335, (5, (0, (0, [])))))))) (ev_ct 2340 (ev_ct 2335 (pr_q 2335 (17, (2338, (0, (2340, (2338, [])))))) (pr_q 2340 (6, (2342, (5, (0, (0, []))))))) (ev_ct 2342 (pr_q 2342 (16, (2345, (0, (2345, (2357, [])))))) (pr_q 2345 (7, (2346, (3, (0, (0, []))))))))) (ev_ct 2350 (ev_ct 2347 (ev_ct 2346 (pr_q 2346 (1, (2347, (0, (0, (0, [])))))) (pr_q 2347 (29, (2348, (23, (23, (0, []))))))) (ev_ct 2348 (pr_q 2348 (6, (2350, (6, (0, (0, [])))))) (pr_q 2350 (43, (2351, (0, (0, (0, [])))))))) (ev_ct 2352 (ev_ct 2351 (pr_q 2351 (44, (2352, (4, (0, (0, [])))))) (pr_q 2352 (16, (2355, (0, (2357, (2355, []))))))) (pr_q 2357 (20, (3685, (0, (0, (0, []))))))))) (ev_ct 2367 (ev_ct 2364 (ev_ct 2361 (ev_ct 2360 (pr_q 2360 (7, (2361, (1, (0, (0, [])))))) (pr_q 2361 (7, (2362, (0, (0, (0, []))))))) (ev_ct 2362 (pr_q 2362 (6, (2364, (4, (0, (0, [])))))) (pr_q 2364 (1, (2365, (1, (0, (0, [])))))))) (ev_ct 2366 (ev_ct 2365 (pr_q 2365 (13, (2366, (0, (0, (0, [])))))) (pr_q 2366 (27, (2367, (20, (20, (0, []))))))) (pr_q 2367 (7, (2368, (3, (0, (0, [])))))))) (ev_ct 2374 (ev_ct 2371 (ev_ct 2368 (pr_q 2368 (35, (2371, (333, (3, (0, [1, 6])))))) (pr_q 2371 (9, (2373, (5, (0, (0, []))))))) (ev_ct 2373 (pr_q 2373 (7, (2374, (2, (0, (0, [])))))) (pr_q 2374 (7, (2375, (0, (0, (0, [])))))))) (ev_ct 2377 (ev_ct 2375 (pr_q 2375 (6, (2377, (4, (0, (0, [])))))) (pr_q 2377 (1, (2378, (1, (0, (0, []))))))) (pr_q 2378 (13, (2379, (0, (0, (0, [])))))))))) (ev_ct 2406 (ev_ct 2391 (ev_ct 2385 (ev_ct 2380 (ev_ct 2379 (pr_q 2379 (27, (2380, (20, (20, (0, [])))))) (pr_q 2380 (35, (2383, (194, (2, (8, [0, 0]))))))) (ev_ct 2383 (pr_q 2383 (9, (2385, (6, (0, (0, [])))))) (pr_q 2385 (7, (2386, (2, (0, (0, [])))))))) (ev_ct 2389 (ev_ct 2386 (pr_q 2386 (35, (2389, (74, (1, (8, [0, 0])))))) (pr_q 2389 (6, (2391, (5, (0, (0, []))))))) (pr_q 2391 (17, (2394, (0, (2396, (2394, [])))))))) (ev_ct 2402 (ev_ct 2398 (ev_ct 2396 (pr_q 2396 (6, (2398, (5, (0, (0, [])))))) (pr_q 2398 (16, (2401, (0, (2401, (2413, []))))))) (ev_ct 2401 (pr_q 2401 (7, (2402, (3, (0, (0, [])))))) (pr_q 2402 (1, (2403, (0, (0, (0, [])))))))) (ev_ct 2404 (ev_ct 2403 (pr_q 2403 (29, (2404, (23, (23, (0, [])))))) (pr_q 2404 (6, (2406, (6, (0, (0, []))))))) (pr_q 2406 (43, (2407, (0, (0, (0, []))))))))) (ev_ct 2420 (ev_ct 2416 (ev_ct 2408 (ev_ct 2407 (pr_q 2407 (44, (2408, (4, (0, (0, [])))))) (pr_q 2408 (16, (2411, (0, (2413, (2411, []))))))) (ev_ct 2413 (pr_q 2413 (20, (3685, (0, (0, (0, [])))))) (pr_q 2416 (7, (2417, (1, (0, (0, [])))))))) (ev_ct 2418 (ev_ct 2417 (pr_q 2417 (7, (2418, (0, (0, (0, [])))))) (pr_q 2418 (6, (2420, (4, (0, (0, []))))))) (pr_q 2420 (1, (2421, (1, (0, (0, [])))))))) (ev_ct 2424 (ev_ct 2422 (ev_ct 2421 (pr_q 2421 (13, (2422, (0, (0, (0, [])))))) (pr_q 2422 (27, (2423, (20, (20, (0, []))))))) (ev_ct 2423 (pr_q 2423 (7, (2424, (3, (0, (0, [])))))) (pr_q 2424 (35, (2427, (334, (3, (0, [1, 6])))))))) (ev_ct 2429 (ev_ct 2427 (pr_q 2427 (9, (2429, (5, (0, (0, [])))))) (pr_q 2429 (7, (2430, (2, (0, (0, []))))))) (pr_q 2430 (7, (2431, (0, (0, (0, []))))))))))) (ev_ct 2520 (ev_ct 2473 (ev_ct 2442 (ev_ct 2435 (ev_ct 2433 (ev_ct 2431 (pr_q 2431 (6, (2433, (4, (0, (0, [])))))) (pr_q 2433 (1, (2434, (1, (0, (0, []))))))) (ev_ct 2434 (pr_q 2434 (13, (2435, (0, (0, (0, [])))))) (pr_q 2435 (27, (2436, (20, (20, (0, [])))))))) (ev_ct 2439 (ev_ct 2436 (pr_q 2436 (35, (2439, (195, (2, (8, [0, 0])))))) (pr_q 2439 (9, (2441, (6, (0, (0, []))))))) (ev_ct 2441 (pr_q 2441 (7, (2442, (2, (0, (0, [])))))) (pr_q 2442 (35, (2445, (74, (1, (8, [0, 0]))))))))) (ev_ct 2454 (ev_ct 2447 (ev_ct 2445 (pr_q 2445 (6, (2447, (5, (0, (0, [])))))) (pr_q 2447 (17, (2450, (0, (2452, (2450, []))))))) (ev_ct 2452 (pr_q 2452 (6, (2454, (5, (0, (0, [])))))) (pr_q 2454 (16, (2457, (0, (2457, (2469, [])))))))) (ev_ct 2472 (ev_ct 2469 (pr_q 2469 (20, (3685, (0, (0, (0, [])))))) (pr_q 2472 (7, (2473, (1, (0, (0, []))))))) (pr_q 2473 (35, (2476, (41, (1, (7, [0, 0]))))))))) (ev_ct 2488 (ev_ct 2482 (ev_ct 2478 (ev_ct 2476 (pr_q 2476 (11, (2478, (5, (0, (0, [])))))) (pr_q 2478 (7, (2479, (2, (0, (0, []))))))) (ev_ct 2479 (pr_q 2479 (35, (2482, (196, (1, (8, [0, 0])))))) (pr_q 2482 (11, (2484, (7, (0, (0, [])))))))) (ev_ct 2486 (ev_ct 2484 (pr_q 2484 (8, (2486, (5, (0, (0, [])))))) (pr_q 2486 (8, (2488, (7, (0, (0, []))))))) (pr_q 2488 (44, (2489, (2, (0, (0, [])))))))) (ev_ct 2514 (ev_ct 2510 (ev_ct 2489 (pr_q 2489 (16, (2492, (0, (2510, (2492, [])))))) (pr_q 2510 (20, (3685, (0, (0, (0, []))))))) (ev_ct 2513 (pr_q 2513 (7, (2514, (1, (0, (0, [])))))) (pr_q 2514 (35, (2517, (42, (1, (7, [0, 0])))))))) (ev_ct 2518 (ev_ct 2517 (pr_q 2517 (43, (2518, (4, (0, (0, [])))))) (pr_q 2518 (11, (2520, (5, (0, (0, []))))))) (pr_q 2520 (7, (2521, (2, (0, (0, [])))))))))) (ev_ct 2562 (ev_ct 2532 (ev_ct 2527 (ev_ct 2524 (ev_ct 2521 (pr_q 2521 (35, (2524, (197, (1, (8, [0, 0])))))) (pr_q 2524 (43, (2525, (4, (0, (0, []))))))) (ev_ct 2525 (pr_q 2525 (11, (2527, (7, (0, (0, [])))))) (pr_q 2527 (8, (2529, (5, (0, (0, [])))))))) (ev_ct 2531 (ev_ct 2529 (pr_q 2529 (8, (2531, (7, (0, (0, [])))))) (pr_q 2531 (44, (2532, (2, (0, (0, []))))))) (pr_q 2532 (16, (2535, (0, (2553, (2535, [])))))))) (ev_ct 2558 (ev_ct 2556 (ev_ct 2553 (pr_q 2553 (20, (3685, (0, (0, (0, [])))))) (pr_q 2556 (7, (2557, (1, (0, (0, []))))))) (ev_ct 2557 (pr_q 2557 (7, (2558, (0, (0, (0, [])))))) (pr_q 2558 (6, (2560, (4, (0, (0, [])))))))) (ev_ct 2561 (ev_ct 2560 (pr_q 2560 (1, (2561, (1, (0, (0, [])))))) (pr_q 2561 (13, (2562, (0, (0, (0, []))))))) (pr_q 2562 (27, (2563, (20, (20, (0, []))))))))) (ev_ct 2570 (ev_ct 2567 (ev_ct 2564 (ev_ct 2563 (pr_q 2563 (7, (2564, (0, (0, (0, [])))))) (pr_q 2564 (6, (2566, (4, (0, (0, []))))))) (ev_ct 2566 (pr_q 2566 (1, (2567, (2, (0, (0, [])))))) (pr_q 2567 (13, (2568, (0, (0, (0, [])))))))) (ev_ct 2569 (ev_ct 2568 (pr_q 2568 (27, (2569, (20, (20, (0, [])))))) (pr_q 2569 (7, (2570, (3, (0, (0, []))))))) (pr_q 2570 (35, (2573, (335, (4, (0, [3, 18])))))))) (ev_ct 2577 (ev_ct 2575 (ev_ct 2573 (pr_q 2573 (9, (2575, (5, (0, (0, [])))))) (pr_q 2575 (7, (2576, (2, (0, (0, []))))))) (ev_ct 2576 (pr_q 2576 (7, (2577, (0, (0, (0, [])))))) (pr_q 2577 (6, (2579, (4, (0, (0, [])))))))) (ev_ct 2580 (ev_ct 2579 (pr_q 2579 (1, (2580, (1, (0, (0, [])))))) (pr_q 2580 (13, (2581, (0, (0, (0, []))))))) (pr_q 2581 (27, (2582, (20, (20, (0, [])))))))))))) (ev_ct 2693 (ev_ct 2632 (ev_ct 2610 (ev_ct 2593 (ev_ct 2586 (ev_ct 2583 (ev_ct 2582 (pr_q 2582 (7, (2583, (0, (0, (0, [])))))) (pr_q 2583 (6, (2585, (4, (0, (0, []))))))) (ev_ct 2585 (pr_q 2585 (1, (2586, (2, (0, (0, [])))))) (pr_q 2586 (13, (2587, (0, (0, (0, [])))))))) (ev_ct 2588 (ev_ct 2587 (pr_q 2587 (27, (2588, (20, (20, (0, [])))))) (pr_q 2588 (35, (2591, (174, (3, (8, [0, 0]))))))) (ev_ct 2591 (pr_q 2591 (9, (2593, (6, (0, (0, [])))))) (pr_q 2593 (7, (2594, (2, (0, (0, []))))))))) (ev_ct 2604 (ev_ct 2597 (ev_ct 2594 (pr_q 2594 (35, (2597, (74, (1, (8, [0, 0])))))) (pr_q 2597 (6, (2599, (5, (0, (0, []))))))) (ev_ct 2599 (pr_q 2599 (17, (2602, (0, (2604, (2602, [])))))) (pr_q 2604 (6, (2606, (5, (0, (0, [])))))))) (ev_ct 2609 (ev_ct 2606 (pr_q 2606 (16, (2609, (0, (2609, (2621, [])))))) (pr_q 2609 (7, (2610, (3, (0, (0, []))))))) (pr_q 2610 (1, (2611, (0, (0, (0, []))))))))) (ev_ct 2624 (ev_ct 2615 (ev_ct 2612 (ev_ct 2611 (pr_q 2611 (29, (2612, (23, (23, (0, [])))))) (pr_q 2612 (6, (2614, (6, (0, (0, []))))))) (ev_ct 2614 (pr_q 2614 (43, (2615, (0, (0, (0, [])))))) (pr_q 2615 (44, (2616, (4, (0, (0, [])))))))) (ev_ct 2621 (ev_ct 2616 (pr_q 2616 (16, (2619, (0, (2621, (2619, [])))))) (pr_q 2621 (20, (3685, (0, (0, (0, []))))))) (pr_q 2624 (7, (2625, (1, (0, (0, [])))))))) (ev_ct 2629 (ev_ct 2626 (ev_ct 2625 (pr_q 2625 (7, (2626, (0, (0, (0, [])))))) (pr_q 2626 (6, (2628, (4, (0, (0, []))))))) (ev_ct 2628 (pr_q 2628 (1, (2629, (1, (0, (0, [])))))) (pr_q 2629 (13, (2630, (0, (0, (0, [])))))))) (ev_ct 2631 (ev_ct 2630 (pr_q 2630 (27, (2631, (20, (20, (0, [])))))) (pr_q 2631 (7, (2632, (0, (0, (0, []))))))) (pr_q 2632 (6, (2634, (4, (0, (0, [])))))))))) (ev_ct 2651 (ev_ct 2643 (ev_ct 2637 (ev_ct 2635 (ev_ct 2634 (pr_q 2634 (1, (2635, (2, (0, (0, [])))))) (pr_q 2635 (13, (2636, (0, (0, (0, []))))))) (ev_ct 2636 (pr_q 2636 (27, (2637, (20, (20, (0, [])))))) (pr_q 2637 (7, (2638, (3, (0, (0, [])))))))) (ev_ct 2641 (ev_ct 2638 (pr_q 2638 (35, (2641, (336, (4, (0, [3, 18])))))) (pr_q 2641 (9, (2643, (5, (0, (0, []))))))) (pr_q 2643 (7, (2644, (2, (0, (0, [])))))))) (ev_ct 2648 (ev_ct 2645 (ev_ct 2644 (pr_q 2644 (7, (2645, (0, (0, (0, [])))))) (pr_q 2645 (6, (2647, (4, (0, (0, []))))))) (ev_ct 2647 (pr_q 2647 (1, (2648, (1, (0, (0, [])))))) (pr_q 2648 (13, (2649, (0, (0, (0, [])))))))) (ev_ct 2650 (ev_ct 2649 (pr_q 2649 (27, (2650, (20, (20, (0, [])))))) (pr_q 2650 (7, (2651, (0, (0, (0, []))))))) (pr_q 2651 (6, (2653, (4, (0, (0, []))))))))) (ev_ct 2662 (ev_ct 2656 (ev_ct 2654 (ev_ct 2653 (pr_q 2653 (1, (2654, (2, (0, (0, [])))))) (pr_q 2654 (13, (2655, (0, (0, (0, []))))))) (ev_ct 2655 (pr_q 2655 (27, (2656, (20, (20, (0, [])))))) (pr_q 2656 (35, (2659, (175, (3, (8, [0, 0])))))))) (ev_ct 2661 (ev_ct 2659 (pr_q 2659 (9, (2661, (6, (0, (0, [])))))) (pr_q 2661 (7, (2662, (2, (0, (0, []))))))) (pr_q 2662 (35, (2665, (74, (1, (8, [0, 0])))))))) (ev_ct 2674 (ev_ct 2667 (ev_ct 2665 (pr_q 2665 (6, (2667, (5, (0, (0, [])))))) (pr_q 2667 (17, (2670, (0, (2672, (2670, []))))))) (ev_ct 2672 (pr_q 2672 (6, (2674, (5, (0, (0, [])))))) (pr_q 2674 (16, (2677, (0, (2677, (2689, [])))))))) (ev_ct 2692 (ev_ct 2689 (pr_q 2689 (20, (3685, (0, (0, (0, [])))))) (pr_q 2692 (7, (2693, (1, (0, (0, []))))))) (pr_q 2693 (7, (2694, (0, (0, (0, []))))))))))) (ev_ct 2745 (ev_ct 2715 (ev_ct 2705 (ev_ct 2698 (ev_ct 2696 (ev_ct 2694 (pr_q 2694 (6, (2696, (4, (0, (0, [])))))) (pr_q 2696 (1, (2697, (1, (0, (0, []))))))) (ev_ct 2697 (pr_q 2697 (13, (2698, (0, (0, (0, [])))))) (pr_q 2698 (27, (2699, (20, (20, (0, [])))))))) (ev_ct 2700 (ev_ct 2699 (pr_q 2699 (7, (2700, (3, (0, (0, [])))))) (pr_q 2700 (35, (2703, (337, (3, (0, [2, 12]))))))) (ev_ct 2703 (pr_q 2703 (9, (2705, (5, (0, (0, [])))))) (pr_q 2705 (7, (2706, (2, (0, (0, []))))))))) (ev_ct 2710 (ev_ct 2707 (ev_ct 2706 (pr_q 2706 (7, (2707, (0, (0, (0, [])))))) (pr_q 2707 (6, (2709, (4, (0, (0, []))))))) (ev_ct 2709 (pr_q 2709 (1, (2710, (1, (0, (0, [])))))) (pr_q 2710 (13, (2711, (0, (0, (0, [])))))))) (ev_ct 2712 (ev_ct 2711 (pr_q 2711 (27, (2712, (20, (20, (0, [])))))) (pr_q 2712 (35, (2715, (164, (2, (8, [0, 0]))))))) (pr_q 2715 (9, (2717, (6, (0, (0, []))))))))) (ev_ct 2733 (ev_ct 2723 (ev_ct 2718 (ev_ct 2717 (pr_q 2717 (7, (2718, (2, (0, (0, [])))))) (pr_q 2718 (35, (2721, (74, (1, (8, [0, 0]))))))) (ev_ct 2721 (pr_q 2721 (6, (2723, (5, (0, (0, [])))))) (pr_q 2723 (17, (2726, (0, (2728, (2726, [])))))))) (ev_ct 2730 (ev_ct 2728 (pr_q 2728 (6, (2730, (5, (0, (0, [])))))) (pr_q 2730 (16, (2733, (0, (2733, (2745, []))))))) (pr_q 2733 (7, (2734, (3, (0, (0, [])))))))) (ev_ct 2738 (ev_ct 2735 (ev_ct 2734 (pr_q 2734 (1, (2735, (0, (0, (0, [])))))) (pr_q 2735 (29, (2736, (23, (23, (0, []))))))) (ev_ct 2736 (pr_q 2736 (6, (2738, (6, (0, (0, [])))))) (pr_q 2738 (43, (2739, (0, (0, (0, [])))))))) (ev_ct 2740 (ev_ct 2739 (pr_q 2739 (44, (2740, (4, (0, (0, [])))))) (pr_q 2740 (16, (2743, (0, (2745, (2743, []))))))) (pr_q 2745 (20, (3685, (0, (0, (0, [])))))))))) (ev_ct 2766 (ev_ct 2755 (ev_ct 2752 (ev_ct 2749 (ev_ct 2748 (pr_q 2748 (7, (2749, (1, (0, (0, [])))))) (pr_q 2749 (7, (2750, (0, (0, (0, []))))))) (ev_ct 2750 (pr_q 2750 (6, (2752, (4, (0, (0, [])))))) (pr_q 2752 (1, (2753, (1, (0, (0, [])))))))) (ev_ct 2754 (ev_ct 2753 (pr_q 2753 (13, (2754, (0, (0, (0, [])))))) (pr_q 2754 (27, (2755, (20, (20, (0, []))))))) (pr_q 2755 (7, (2756, (3, (0, (0, [])))))))) (ev_ct 2762 (ev_ct 2759 (ev_ct 2756 (pr_q 2756 (35, (2759, (338, (3, (0, [1, 6])))))) (pr_q 2759 (9, (2761, (5, (0, (0, []))))))) (ev_ct 2761 (pr_q 2761 (7, (2762, (2, (0, (0, [])))))) (pr_q 2762 (7, (2763, (0, (0, (0, [])))))))) (ev_ct 2765 (ev_ct 2763 (pr_q 2763 (6, (2765, (4, (0, (0, [])))))) (pr_q 2765 (1, (2766, (1, (0, (0, []))))))) (pr_q 2766 (13, (2767, (0, (0, (0, []))))))))) (ev_ct 2779 (ev_ct 2773 (ev_ct 2768 (ev_ct 2767 (pr_q 2767 (27, (2768, (20, (20, (0, [])))))) (pr_q 2768 (35, (2771, (199, (2, (8, [0, 0]))))))) (ev_ct 2771 (pr_q 2771 (9, (2773, (6, (0, (0, [])))))) (pr_q 2773 (7, (2774, (2, (0, (0, [])))))))) (ev_ct 2777 (ev_ct 2774 (pr_q 2774 (35, (2777, (74, (1, (8, [0, 0])))))) (pr_q 2777 (6, (2779, (5, (0, (0, []))))))) (pr_q 2779 (17, (2782, (0, (2784, (2782, [])))))))) (ev_ct 2790 (ev_ct 2786 (ev_ct 2784 (pr_q 2784 (6, (2786, (5, (0, (0, [])))))) (pr_q 2786 (16, (2789, (0, (2789, (2801, []))))))) (ev_ct 2789 (pr_q 2789 (7, (2790, (3, (0, (0, [])))))) (pr_q 2790 (1, (2791, (0, (0, (0, [])))))))) (ev_ct 2792 (ev_ct 2791 (pr_q 2791 (29, (2792, (23, (23, (0, [])))))) (pr_q 2792 (6, (2794, (6, (0, (0, []))))))) (pr_q 2794 (43, (2795, (0, (0, (0, [])))))))))))))) (ev_ct 3248 (ev_ct 3020 (ev_ct 2898 (ev_ct 2847 (ev_ct 2819 (ev_ct 2809 (ev_ct 2804 (ev_ct 2796 (ev_ct 2795 (pr_q 2795 (44, (2796, (4, (0, (0, [])))))) (pr_q 2796 (16, (2799, (0, (2801, (2799, []))))))) (ev_ct 2801 (pr_q 2801 (20, (3685, (0, (0, (0, [])))))) (pr_q 2804 (7, (2805, (1, (0, (0, [])))))))) (ev_ct 2806 (ev_ct 2805 (pr_q 2805 (7, (2806, (0, (0, (0, [])))))) (pr_q 2806 (6, (2808, (4, (0, (0, []))))))) (ev_ct 2808 (pr_q 2808 (1, (2809, (1, (0, (0, [])))))) (pr_q 2809 (13, (2810, (0, (0, (0, []))))))))) (ev_ct 2815 (ev_ct 2811 (ev_ct 2810 (pr_q 2810 (27, (2811, (20, (20, (0, [])))))) (pr_q 2811 (7, (2812, (3, (0, (0, []))))))) (ev_ct 2812 (pr_q 2812 (35, (2815, (339, (3, (0, [1, 6])))))) (pr_q 2815 (9, (2817, (5, (0, (0, [])))))))) (ev_ct 2818 (ev_ct 2817 (pr_q 2817 (7, (2818, (2, (0, (0, [])))))) (pr_q 2818 (7, (2819, (0, (0, (0, []))))))) (pr_q 2819 (6, (2821, (4, (0, (0, []))))))))) (ev_ct 2830 (ev_ct 2824 (ev_ct 2822 (ev_ct 2821 (pr_q 2821 (1, (2822, (1, (0, (0, [])))))) (pr_q 2822 (13, (2823, (0, (0, (0, []))))))) (ev_ct 2823 (pr_q 2823 (27, (2824, (20, (20, (0, [])))))) (pr_q 2824 (35, (2827, (200, (2, (8, [0, 0])))))))) (ev_ct 2829 (ev_ct 2827 (pr_q 2827 (9, (2829, (6, (0, (0, [])))))) (pr_q 2829 (7, (2830, (2, (0, (0, []))))))) (pr_q 2830 (35, (2833, (74, (1, (8, [0, 0])))))))) (ev_ct 2842 (ev_ct 2835 (ev_ct 2833 (pr_q 2833 (6, (2835, (5, (0, (0, [])))))) (pr_q 2835 (17, (2838, (0, (2840, (2838, []))))))) (ev_ct 2840 (pr_q 2840 (6, (2842, (5, (0, (0, [])))))) (pr_q 2842 (16, (2845, (0, (2845, (2857, [])))))))) (ev_ct 2846 (ev_ct 2845 (pr_q 2845 (7, (2846, (3, (0, (0, [])))))) (pr_q 2846 (1, (2847, (0, (0, (0, []))))))) (pr_q 2847 (29, (2848, (23, (23, (0, [])))))))))) (ev_ct 2877 (ev_ct 2861 (ev_ct 2852 (ev_ct 2850 (ev_ct 2848 (pr_q 2848 (6, (2850, (6, (0, (0, [])))))) (pr_q 2850 (43, (2851, (0, (0, (0, []))))))) (ev_ct 2851 (pr_q 2851 (44, (2852, (4, (0, (0, [])))))) (pr_q 2852 (16, (2855, (0, (2857, (2855, [])))))))) (ev_ct 2860 (ev_ct 2857 (pr_q 2857 (20, (3685, (0, (0, (0, [])))))) (pr_q 2860 (7, (2861, (1, (0, (0, []))))))) (pr_q 2861 (35, (2864, (48, (1, (7, [0, 0])))))))) (ev_ct 2873 (ev_ct 2865 (ev_ct 2864 (pr_q 2864 (7, (2865, (2, (0, (0, [])))))) (pr_q 2865 (35, (2868, (201, (1, (8, [0, 0]))))))) (ev_ct 2868 (pr_q 2868 (17, (2871, (0, (3685, (2871, [])))))) (pr_q 2873 (7, (2874, (1, (0, (0, [])))))))) (ev_ct 2875 (ev_ct 2874 (pr_q 2874 (7, (2875, (0, (0, (0, [])))))) (pr_q 2875 (6, (2877, (4, (0, (0, []))))))) (pr_q 2877 (1, (2878, (1, (0, (0, []))))))))) (ev_ct 2887 (ev_ct 2881 (ev_ct 2879 (ev_ct 2878 (pr_q 2878 (13, (2879, (0, (0, (0, [])))))) (pr_q 2879 (27, (2880, (20, (20, (0, []))))))) (ev_ct 2880 (pr_q 2880 (7, (2881, (3, (0, (0, [])))))) (pr_q 2881 (35, (2884, (340, (3, (0, [2, 12])))))))) (ev_ct 2886 (ev_ct 2884 (pr_q 2884 (9, (2886, (5, (0, (0, [])))))) (pr_q 2886 (7, (2887, (2, (0, (0, []))))))) (pr_q 2887 (7, (2888, (0, (0, (0, [])))))))) (ev_ct 2892 (ev_ct 2890 (ev_ct 2888 (pr_q 2888 (6, (2890, (4, (0, (0, [])))))) (pr_q 2890 (1, (2891, (1, (0, (0, []))))))) (ev_ct 2891 (pr_q 2891 (13, (2892, (0, (0, (0, [])))))) (pr_q 2892 (27, (2893, (20, (20, (0, [])))))))) (ev_ct 2896 (ev_ct 2893 (pr_q 2893 (35, (2896, (178, (2, (8, [0, 0])))))) (pr_q 2896 (9, (2898, (6, (0, (0, []))))))) (pr_q 2898 (7, (2899, (2, (0, (0, []))))))))))) (ev_ct 2967 (ev_ct 2940 (ev_ct 2930 (ev_ct 2909 (ev_ct 2902 (ev_ct 2899 (pr_q 2899 (35, (2902, (74, (1, (8, [0, 0])))))) (pr_q 2902 (6, (2904, (5, (0, (0, []))))))) (ev_ct 2904 (pr_q 2904 (17, (2907, (0, (2909, (2907, [])))))) (pr_q 2909 (6, (2911, (5, (0, (0, [])))))))) (ev_ct 2926 (ev_ct 2911 (pr_q 2911 (16, (2914, (0, (2914, (2926, [])))))) (pr_q 2926 (20, (3685, (0, (0, (0, []))))))) (ev_ct 2929 (pr_q 2929 (7, (2930, (1, (0, (0, [])))))) (pr_q 2930 (7, (2931, (0, (0, (0, []))))))))) (ev_ct 2935 (ev_ct 2933 (ev_ct 2931 (pr_q 2931 (6, (2933, (4, (0, (0, [])))))) (pr_q 2933 (1, (2934, (1, (0, (0, []))))))) (ev_ct 2934 (pr_q 2934 (13, (2935, (0, (0, (0, [])))))) (pr_q 2935 (27, (2936, (20, (20, (0, [])))))))) (ev_ct 2937 (ev_ct 2936 (pr_q 2936 (7, (2937, (3, (0, (0, [])))))) (pr_q 2937 (35, (2940, (341, (3, (0, [2, 12]))))))) (pr_q 2940 (9, (2942, (5, (0, (0, []))))))))) (ev_ct 2949 (ev_ct 2946 (ev_ct 2943 (ev_ct 2942 (pr_q 2942 (7, (2943, (2, (0, (0, [])))))) (pr_q 2943 (7, (2944, (0, (0, (0, []))))))) (ev_ct 2944 (pr_q 2944 (6, (2946, (4, (0, (0, [])))))) (pr_q 2946 (1, (2947, (1, (0, (0, [])))))))) (ev_ct 2948 (ev_ct 2947 (pr_q 2947 (13, (2948, (0, (0, (0, [])))))) (pr_q 2948 (27, (2949, (20, (20, (0, []))))))) (pr_q 2949 (35, (2952, (188, (2, (8, [0, 0])))))))) (ev_ct 2958 (ev_ct 2954 (ev_ct 2952 (pr_q 2952 (9, (2954, (6, (0, (0, [])))))) (pr_q 2954 (7, (2955, (2, (0, (0, []))))))) (ev_ct 2955 (pr_q 2955 (35, (2958, (74, (1, (8, [0, 0])))))) (pr_q 2958 (6, (2960, (5, (0, (0, [])))))))) (ev_ct 2965 (ev_ct 2960 (pr_q 2960 (17, (2963, (0, (2965, (2963, [])))))) (pr_q 2965 (6, (2967, (5, (0, (0, []))))))) (pr_q 2967 (16, (2970, (0, (2970, (2982, [])))))))))) (ev_ct 2999 (ev_ct 2991 (ev_ct 2987 (ev_ct 2985 (ev_ct 2982 (pr_q 2982 (20, (3685, (0, (0, (0, [])))))) (pr_q 2985 (7, (2986, (1, (0, (0, []))))))) (ev_ct 2986 (pr_q 2986 (7, (2987, (0, (0, (0, [])))))) (pr_q 2987 (6, (2989, (4, (0, (0, [])))))))) (ev_ct 2990 (ev_ct 2989 (pr_q 2989 (1, (2990, (1, (0, (0, [])))))) (pr_q 2990 (13, (2991, (0, (0, (0, []))))))) (pr_q 2991 (27, (2992, (20, (20, (0, [])))))))) (ev_ct 2996 (ev_ct 2993 (ev_ct 2992 (pr_q 2992 (7, (2993, (0, (0, (0, [])))))) (pr_q 2993 (6, (2995, (4, (0, (0, []))))))) (ev_ct 2995 (pr_q 2995 (1, (2996, (2, (0, (0, [])))))) (pr_q 2996 (13, (2997, (0, (0, (0, [])))))))) (ev_ct 2998 (ev_ct 2997 (pr_q 2997 (27, (2998, (20, (20, (0, [])))))) (pr_q 2998 (7, (2999, (3, (0, (0, []))))))) (pr_q 2999 (35, (3002, (342, (4, (0, [2, 12]))))))))) (ev_ct 3010 (ev_ct 3006 (ev_ct 3004 (ev_ct 3002 (pr_q 3002 (9, (3004, (5, (0, (0, [])))))) (pr_q 3004 (7, (3005, (2, (0, (0, []))))))) (ev_ct 3005 (pr_q 3005 (7, (3006, (0, (0, (0, [])))))) (pr_q 3006 (6, (3008, (4, (0, (0, [])))))))) (ev_ct 3009 (ev_ct 3008 (pr_q 3008 (1, (3009, (1, (0, (0, [])))))) (pr_q 3009 (13, (3010, (0, (0, (0, []))))))) (pr_q 3010 (27, (3011, (20, (20, (0, [])))))))) (ev_ct 3015 (ev_ct 3012 (ev_ct 3011 (pr_q 3011 (7, (3012, (0, (0, (0, [])))))) (pr_q 3012 (6, (3014, (4, (0, (0, []))))))) (ev_ct 3014 (pr_q 3014 (1, (3015, (2, (0, (0, [])))))) (pr_q 3015 (13, (3016, (0, (0, (0, [])))))))) (ev_ct 3017 (ev_ct 3016 (pr_q 3016 (27, (3017, (20, (20, (0, [])))))) (pr_q 3017 (35, (3020, (186, (3, (8, [0, 0]))))))) (pr_q 3020 (9, (3022, (6, (0, (0, [])))))))))))) (ev_ct 3142 (ev_ct 3098 (ev_ct 3053 (ev_ct 3039 (ev_ct 3028 (ev_ct 3023 (ev_ct 3022 (pr_q 3022 (7, (3023, (2, (0, (0, [])))))) (pr_q 3023 (35, (3026, (74, (1, (8, [0, 0]))))))) (ev_ct 3026 (pr_q 3026 (6, (3028, (5, (0, (0, [])))))) (pr_q 3028 (17, (3031, (0, (3033, (3031, [])))))))) (ev_ct 3035 (ev_ct 3033 (pr_q 3033 (6, (3035, (5, (0, (0, [])))))) (pr_q 3035 (16, (3038, (0, (3038, (3050, []))))))) (ev_ct 3038 (pr_q 3038 (7, (3039, (3, (0, (0, [])))))) (pr_q 3039 (1, (3040, (0, (0, (0, []))))))))) (ev_ct 3044 (ev_ct 3041 (ev_ct 3040 (pr_q 3040 (29, (3041, (23, (23, (0, [])))))) (pr_q 3041 (6, (3043, (6, (0, (0, []))))))) (ev_ct 3043 (pr_q 3043 (43, (3044, (0, (0, (0, [])))))) (pr_q 3044 (44, (3045, (4, (0, (0, [])))))))) (ev_ct 3050 (ev_ct 3045 (pr_q 3045 (16, (3048, (0, (3050, (3048, [])))))) (pr_q 3050 (20, (3685, (0, (0, (0, []))))))) (pr_q 3053 (7, (3054, (1, (0, (0, []))))))))) (ev_ct 3067 (ev_ct 3060 (ev_ct 3057 (ev_ct 3054 (pr_q 3054 (35, (3057, (52, (1, (7, [0, 0])))))) (pr_q 3057 (11, (3059, (5, (0, (0, []))))))) (ev_ct 3059 (pr_q 3059 (7, (3060, (2, (0, (0, [])))))) (pr_q 3060 (35, (3063, (198, (1, (8, [0, 0])))))))) (ev_ct 3065 (ev_ct 3063 (pr_q 3063 (11, (3065, (7, (0, (0, [])))))) (pr_q 3065 (8, (3067, (5, (0, (0, []))))))) (pr_q 3067 (8, (3069, (7, (0, (0, [])))))))) (ev_ct 3094 (ev_ct 3070 (ev_ct 3069 (pr_q 3069 (44, (3070, (2, (0, (0, [])))))) (pr_q 3070 (16, (3073, (0, (3091, (3073, []))))))) (ev_ct 3091 (pr_q 3091 (20, (3685, (0, (0, (0, [])))))) (pr_q 3094 (7, (3095, (1, (0, (0, [])))))))) (ev_ct 3096 (ev_ct 3095 (pr_q 3095 (7, (3096, (0, (0, (0, [])))))) (pr_q 3096 (6, (3098, (4, (0, (0, []))))))) (pr_q 3098 (1, (3099, (1, (0, (0, [])))))))))) (ev_ct 3117 (ev_ct 3106 (ev_ct 3102 (ev_ct 3100 (ev_ct 3099 (pr_q 3099 (13, (3100, (0, (0, (0, [])))))) (pr_q 3100 (27, (3101, (20, (20, (0, []))))))) (ev_ct 3101 (pr_q 3101 (7, (3102, (0, (0, (0, [])))))) (pr_q 3102 (6, (3104, (4, (0, (0, [])))))))) (ev_ct 3105 (ev_ct 3104 (pr_q 3104 (1, (3105, (2, (0, (0, [])))))) (pr_q 3105 (13, (3106, (0, (0, (0, []))))))) (pr_q 3106 (27, (3107, (20, (20, (0, [])))))))) (ev_ct 3113 (ev_ct 3108 (ev_ct 3107 (pr_q 3107 (7, (3108, (3, (0, (0, [])))))) (pr_q 3108 (35, (3111, (343, (4, (0, [3, 18]))))))) (ev_ct 3111 (pr_q 3111 (9, (3113, (5, (0, (0, [])))))) (pr_q 3113 (7, (3114, (2, (0, (0, [])))))))) (ev_ct 3115 (ev_ct 3114 (pr_q 3114 (7, (3115, (0, (0, (0, [])))))) (pr_q 3115 (6, (3117, (4, (0, (0, []))))))) (pr_q 3117 (1, (3118, (1, (0, (0, []))))))))) (ev_ct 3125 (ev_ct 3121 (ev_ct 3119 (ev_ct 3118 (pr_q 3118 (13, (3119, (0, (0, (0, [])))))) (pr_q 3119 (27, (3120, (20, (20, (0, []))))))) (ev_ct 3120 (pr_q 3120 (7, (3121, (0, (0, (0, [])))))) (pr_q 3121 (6, (3123, (4, (0, (0, [])))))))) (ev_ct 3124 (ev_ct 3123 (pr_q 3123 (1, (3124, (2, (0, (0, [])))))) (pr_q 3124 (13, (3125, (0, (0, (0, []))))))) (pr_q 3125 (27, (3126, (20, (20, (0, [])))))))) (ev_ct 3132 (ev_ct 3129 (ev_ct 3126 (pr_q 3126 (35, (3129, (148, (3, (8, [0, 0])))))) (pr_q 3129 (9, (3131, (6, (0, (0, []))))))) (ev_ct 3131 (pr_q 3131 (7, (3132, (2, (0, (0, [])))))) (pr_q 3132 (35, (3135, (74, (1, (8, [0, 0])))))))) (ev_ct 3137 (ev_ct 3135 (pr_q 3135 (6, (3137, (5, (0, (0, [])))))) (pr_q 3137 (17, (3140, (0, (3142, (3140, []))))))) (pr_q 3142 (6, (3144, (5, (0, (0, []))))))))))) (ev_ct 3191 (ev_ct 3168 (ev_ct 3154 (ev_ct 3149 (ev_ct 3147 (ev_ct 3144 (pr_q 3144 (16, (3147, (0, (3147, (3159, [])))))) (pr_q 3147 (7, (3148, (3, (0, (0, []))))))) (ev_ct 3148 (pr_q 3148 (1, (3149, (0, (0, (0, [])))))) (pr_q 3149 (29, (3150, (23, (23, (0, [])))))))) (ev_ct 3152 (ev_ct 3150 (pr_q 3150 (6, (3152, (6, (0, (0, [])))))) (pr_q 3152 (43, (3153, (0, (0, (0, []))))))) (ev_ct 3153 (pr_q 3153 (44, (3154, (4, (0, (0, [])))))) (pr_q 3154 (16, (3157, (0, (3159, (3157, []))))))))) (ev_ct 3164 (ev_ct 3162 (ev_ct 3159 (pr_q 3159 (20, (3685, (0, (0, (0, [])))))) (pr_q 3162 (7, (3163, (1, (0, (0, []))))))) (ev_ct 3163 (pr_q 3163 (7, (3164, (0, (0, (0, [])))))) (pr_q 3164 (6, (3166, (4, (0, (0, [])))))))) (ev_ct 3167 (ev_ct 3166 (pr_q 3166 (1, (3167, (1, (0, (0, [])))))) (pr_q 3167 (13, (3168, (0, (0, (0, []))))))) (pr_q 3168 (27, (3169, (20, (20, (0, []))))))))) (ev_ct 3179 (ev_ct 3175 (ev_ct 3170 (ev_ct 3169 (pr_q 3169 (7, (3170, (3, (0, (0, [])))))) (pr_q 3170 (35, (3173, (344, (3, (0, [2, 12]))))))) (ev_ct 3173 (pr_q 3173 (9, (3175, (5, (0, (0, [])))))) (pr_q 3175 (7, (3176, (2, (0, (0, [])))))))) (ev_ct 3177 (ev_ct 3176 (pr_q 3176 (7, (3177, (0, (0, (0, [])))))) (pr_q 3177 (6, (3179, (4, (0, (0, []))))))) (pr_q 3179 (1, (3180, (1, (0, (0, [])))))))) (ev_ct 3185 (ev_ct 3181 (ev_ct 3180 (pr_q 3180 (13, (3181, (0, (0, (0, [])))))) (pr_q 3181 (27, (3182, (20, (20, (0, []))))))) (ev_ct 3182 (pr_q 3182 (35, (3185, (176, (2, (8, [0, 0])))))) (pr_q 3185 (9, (3187, (6, (0, (0, [])))))))) (ev_ct 3188 (ev_ct 3187 (pr_q 3187 (7, (3188, (2, (0, (0, [])))))) (pr_q 3188 (35, (3191, (74, (1, (8, [0, 0]))))))) (pr_q 3191 (6, (3193, (5, (0, (0, [])))))))))) (ev_ct 3229 (ev_ct 3220 (ev_ct 3215 (ev_ct 3198 (ev_ct 3193 (pr_q 3193 (17, (3196, (0, (3198, (3196, [])))))) (pr_q 3198 (6, (3200, (5, (0, (0, []))))))) (ev_ct 3200 (pr_q 3200 (16, (3203, (0, (3203, (3215, [])))))) (pr_q 3215 (20, (3685, (0, (0, (0, [])))))))) (ev_ct 3219 (ev_ct 3218 (pr_q 3218 (7, (3219, (1, (0, (0, [])))))) (pr_q 3219 (7, (3220, (0, (0, (0, []))))))) (pr_q 3220 (6, (3222, (4, (0, (0, [])))))))) (ev_ct 3225 (ev_ct 3223 (ev_ct 3222 (pr_q 3222 (1, (3223, (1, (0, (0, [])))))) (pr_q 3223 (13, (3224, (0, (0, (0, []))))))) (ev_ct 3224 (pr_q 3224 (27, (3225, (20, (20, (0, [])))))) (pr_q 3225 (7, (3226, (0, (0, (0, [])))))))) (ev_ct 3228 (ev_ct 3226 (pr_q 3226 (6, (3228, (4, (0, (0, [])))))) (pr_q 3228 (1, (3229, (2, (0, (0, []))))))) (pr_q 3229 (13, (3230, (0, (0, (0, []))))))))) (ev_ct 3237 (ev_ct 3234 (ev_ct 3231 (ev_ct 3230 (pr_q 3230 (27, (3231, (20, (20, (0, [])))))) (pr_q 3231 (7, (3232, (0, (0, (0, []))))))) (ev_ct 3232 (pr_q 3232 (6, (3234, (4, (0, (0, [])))))) (pr_q 3234 (1, (3235, (3, (0, (0, [])))))))) (ev_ct 3236 (ev_ct 3235 (pr_q 3235 (13, (3236, (0, (0, (0, [])))))) (pr_q 3236 (27, (3237, (20, (20, (0, []))))))) (pr_q 3237 (7, (3238, (3, (0, (0, [])))))))) (ev_ct 3244 (ev_ct 3241 (ev_ct 3238 (pr_q 3238 (35, (3241, (345, (5, (0, [5, 30])))))) (pr_q 3241 (9, (3243, (5, (0, (0, []))))))) (ev_ct 3243 (pr_q 3243 (7, (3244, (2, (0, (0, [])))))) (pr_q 3244 (7, (3245, (0, (0, (0, [])))))))) (ev_ct 3247 (ev_ct 3245 (pr_q 3245 (6, (3247, (4, (0, (0, [])))))) (pr_q 3247 (1, (3248, (1, (0, (0, []))))))) (pr_q 3248 (13, (3249, (0, (0, (0, []))))))))))))) (ev_ct 3466 (ev_ct 3360 (ev_ct 3309 (ev_ct 3268 (ev_ct 3257 (ev_ct 3253 (ev_ct 3250 (ev_ct 3249 (pr_q 3249 (27, (3250, (20, (20, (0, [])))))) (pr_q 3250 (7, (3251, (0, (0, (0, []))))))) (ev_ct 3251 (pr_q 3251 (6, (3253, (4, (0, (0, [])))))) (pr_q 3253 (1, (3254, (2, (0, (0, [])))))))) (ev_ct 3255 (ev_ct 3254 (pr_q 3254 (13, (3255, (0, (0, (0, [])))))) (pr_q 3255 (27, (3256, (20, (20, (0, []))))))) (ev_ct 3256 (pr_q 3256 (7, (3257, (0, (0, (0, [])))))) (pr_q 3257 (6, (3259, (4, (0, (0, []))))))))) (ev_ct 3262 (ev_ct 3260 (ev_ct 3259 (pr_q 3259 (1, (3260, (3, (0, (0, [])))))) (pr_q 3260 (13, (3261, (0, (0, (0, []))))))) (ev_ct 3261 (pr_q 3261 (27, (3262, (20, (20, (0, [])))))) (pr_q 3262 (35, (3265, (184, (4, (8, [0, 0])))))))) (ev_ct 3267 (ev_ct 3265 (pr_q 3265 (9, (3267, (6, (0, (0, [])))))) (pr_q 3267 (7, (3268, (2, (0, (0, []))))))) (pr_q 3268 (35, (3271, (74, (1, (8, [0, 0]))))))))) (ev_ct 3299 (ev_ct 3280 (ev_ct 3273 (ev_ct 3271 (pr_q 3271 (6, (3273, (5, (0, (0, [])))))) (pr_q 3273 (17, (3276, (0, (3278, (3276, []))))))) (ev_ct 3278 (pr_q 3278 (6, (3280, (5, (0, (0, [])))))) (pr_q 3280 (16, (3283, (0, (3283, (3295, [])))))))) (ev_ct 3298 (ev_ct 3295 (pr_q 3295 (20, (3685, (0, (0, (0, [])))))) (pr_q 3298 (7, (3299, (1, (0, (0, []))))))) (pr_q 3299 (7, (3300, (0, (0, (0, [])))))))) (ev_ct 3304 (ev_ct 3302 (ev_ct 3300 (pr_q 3300 (6, (3302, (4, (0, (0, [])))))) (pr_q 3302 (1, (3303, (1, (0, (0, []))))))) (ev_ct 3303 (pr_q 3303 (13, (3304, (0, (0, (0, [])))))) (pr_q 3304 (27, (3305, (20, (20, (0, [])))))))) (ev_ct 3306 (ev_ct 3305 (pr_q 3305 (7, (3306, (3, (0, (0, [])))))) (pr_q 3306 (35, (3309, (346, (3, (0, [1, 6]))))))) (pr_q 3309 (9, (3311, (5, (0, (0, [])))))))))) (ev_ct 3336 (ev_ct 3318 (ev_ct 3315 (ev_ct 3312 (ev_ct 3311 (pr_q 3311 (7, (3312, (2, (0, (0, [])))))) (pr_q 3312 (7, (3313, (0, (0, (0, []))))))) (ev_ct 3313 (pr_q 3313 (6, (3315, (4, (0, (0, [])))))) (pr_q 3315 (1, (3316, (1, (0, (0, [])))))))) (ev_ct 3317 (ev_ct 3316 (pr_q 3316 (13, (3317, (0, (0, (0, [])))))) (pr_q 3317 (27, (3318, (20, (20, (0, []))))))) (pr_q 3318 (35, (3321, (189, (2, (8, [0, 0])))))))) (ev_ct 3327 (ev_ct 3323 (ev_ct 3321 (pr_q 3321 (9, (3323, (6, (0, (0, [])))))) (pr_q 3323 (7, (3324, (2, (0, (0, []))))))) (ev_ct 3324 (pr_q 3324 (35, (3327, (74, (1, (8, [0, 0])))))) (pr_q 3327 (6, (3329, (5, (0, (0, [])))))))) (ev_ct 3334 (ev_ct 3329 (pr_q 3329 (17, (3332, (0, (3334, (3332, [])))))) (pr_q 3334 (6, (3336, (5, (0, (0, []))))))) (pr_q 3336 (16, (3339, (0, (3339, (3351, []))))))))) (ev_ct 3346 (ev_ct 3342 (ev_ct 3340 (ev_ct 3339 (pr_q 3339 (7, (3340, (3, (0, (0, [])))))) (pr_q 3340 (1, (3341, (0, (0, (0, []))))))) (ev_ct 3341 (pr_q 3341 (29, (3342, (23, (23, (0, [])))))) (pr_q 3342 (6, (3344, (6, (0, (0, [])))))))) (ev_ct 3345 (ev_ct 3344 (pr_q 3344 (43, (3345, (0, (0, (0, [])))))) (pr_q 3345 (44, (3346, (4, (0, (0, []))))))) (pr_q 3346 (16, (3349, (0, (3351, (3349, [])))))))) (ev_ct 3356 (ev_ct 3354 (ev_ct 3351 (pr_q 3351 (20, (3685, (0, (0, (0, [])))))) (pr_q 3354 (7, (3355, (1, (0, (0, []))))))) (ev_ct 3355 (pr_q 3355 (7, (3356, (0, (0, (0, [])))))) (pr_q 3356 (6, (3358, (4, (0, (0, [])))))))) (ev_ct 3359 (ev_ct 3358 (pr_q 3358 (1, (3359, (1, (0, (0, [])))))) (pr_q 3359 (13, (3360, (0, (0, (0, []))))))) (pr_q 3360 (27, (3361, (20, (20, (0, []))))))))))) (ev_ct 3414 (ev_ct 3385 (ev_ct 3372 (ev_ct 3367 (ev_ct 3362 (ev_ct 3361 (pr_q 3361 (7, (3362, (3, (0, (0, [])))))) (pr_q 3362 (35, (3365, (347, (3, (0, [1, 6]))))))) (ev_ct 3365 (pr_q 3365 (9, (3367, (5, (0, (0, [])))))) (pr_q 3367 (7, (3368, (2, (0, (0, [])))))))) (ev_ct 3369 (ev_ct 3368 (pr_q 3368 (7, (3369, (0, (0, (0, [])))))) (pr_q 3369 (6, (3371, (4, (0, (0, []))))))) (ev_ct 3371 (pr_q 3371 (1, (3372, (1, (0, (0, [])))))) (pr_q 3372 (13, (3373, (0, (0, (0, []))))))))) (ev_ct 3379 (ev_ct 3374 (ev_ct 3373 (pr_q 3373 (27, (3374, (20, (20, (0, [])))))) (pr_q 3374 (35, (3377, (202, (2, (8, [0, 0]))))))) (ev_ct 3377 (pr_q 3377 (9, (3379, (6, (0, (0, [])))))) (pr_q 3379 (7, (3380, (2, (0, (0, [])))))))) (ev_ct 3383 (ev_ct 3380 (pr_q 3380 (35, (3383, (74, (1, (8, [0, 0])))))) (pr_q 3383 (6, (3385, (5, (0, (0, []))))))) (pr_q 3385 (17, (3388, (0, (3390, (3388, []))))))))) (ev_ct 3400 (ev_ct 3396 (ev_ct 3392 (ev_ct 3390 (pr_q 3390 (6, (3392, (5, (0, (0, [])))))) (pr_q 3392 (16, (3395, (0, (3395, (3407, []))))))) (ev_ct 3395 (pr_q 3395 (7, (3396, (3, (0, (0, [])))))) (pr_q 3396 (1, (3397, (0, (0, (0, [])))))))) (ev_ct 3398 (ev_ct 3397 (pr_q 3397 (29, (3398, (23, (23, (0, [])))))) (pr_q 3398 (6, (3400, (6, (0, (0, []))))))) (pr_q 3400 (43, (3401, (0, (0, (0, [])))))))) (ev_ct 3410 (ev_ct 3402 (ev_ct 3401 (pr_q 3401 (44, (3402, (4, (0, (0, [])))))) (pr_q 3402 (16, (3405, (0, (3407, (3405, []))))))) (ev_ct 3407 (pr_q 3407 (20, (3685, (0, (0, (0, [])))))) (pr_q 3410 (7, (3411, (1, (0, (0, [])))))))) (ev_ct 3412 (ev_ct 3411 (pr_q 3411 (7, (3412, (0, (0, (0, [])))))) (pr_q 3412 (6, (3414, (4, (0, (0, []))))))) (pr_q 3414 (1, (3415, (1, (0, (0, [])))))))))) (ev_ct 3435 (ev_ct 3424 (ev_ct 3418 (ev_ct 3416 (ev_ct 3415 (pr_q 3415 (13, (3416, (0, (0, (0, [])))))) (pr_q 3416 (27, (3417, (20, (20, (0, []))))))) (ev_ct 3417 (pr_q 3417 (7, (3418, (3, (0, (0, [])))))) (pr_q 3418 (35, (3421, (348, (3, (0, [1, 6])))))))) (ev_ct 3423 (ev_ct 3421 (pr_q 3421 (9, (3423, (5, (0, (0, [])))))) (pr_q 3423 (7, (3424, (2, (0, (0, []))))))) (pr_q 3424 (7, (3425, (0, (0, (0, [])))))))) (ev_ct 3429 (ev_ct 3427 (ev_ct 3425 (pr_q 3425 (6, (3427, (4, (0, (0, [])))))) (pr_q 3427 (1, (3428, (1, (0, (0, []))))))) (ev_ct 3428 (pr_q 3428 (13, (3429, (0, (0, (0, [])))))) (pr_q 3429 (27, (3430, (20, (20, (0, [])))))))) (ev_ct 3433 (ev_ct 3430 (pr_q 3430 (35, (3433, (203, (2, (8, [0, 0])))))) (pr_q 3433 (9, (3435, (6, (0, (0, []))))))) (pr_q 3435 (7, (3436, (2, (0, (0, []))))))))) (ev_ct 3452 (ev_ct 3446 (ev_ct 3439 (ev_ct 3436 (pr_q 3436 (35, (3439, (74, (1, (8, [0, 0])))))) (pr_q 3439 (6, (3441, (5, (0, (0, []))))))) (ev_ct 3441 (pr_q 3441 (17, (3444, (0, (3446, (3444, [])))))) (pr_q 3446 (6, (3448, (5, (0, (0, [])))))))) (ev_ct 3451 (ev_ct 3448 (pr_q 3448 (16, (3451, (0, (3451, (3463, [])))))) (pr_q 3451 (7, (3452, (3, (0, (0, []))))))) (pr_q 3452 (1, (3453, (0, (0, (0, [])))))))) (ev_ct 3457 (ev_ct 3454 (ev_ct 3453 (pr_q 3453 (29, (3454, (23, (23, (0, [])))))) (pr_q 3454 (6, (3456, (6, (0, (0, []))))))) (ev_ct 3456 (pr_q 3456 (43, (3457, (0, (0, (0, [])))))) (pr_q 3457 (44, (3458, (4, (0, (0, [])))))))) (ev_ct 3463 (ev_ct 3458 (pr_q 3458 (16, (3461, (0, (3463, (3461, [])))))) (pr_q 3463 (20, (3685, (0, (0, (0, []))))))) (pr_q 3466 (7, (3467, (1, (0, (0, [])))))))))))) (ev_ct 3557 (ev_ct 3514 (ev_ct 3486 (ev_ct 3477 (ev_ct 3471 (ev_ct 3468 (ev_ct 3467 (pr_q 3467 (7, (3468, (0, (0, (0, [])))))) (pr_q 3468 (6, (3470, (4, (0, (0, []))))))) (ev_ct 3470 (pr_q 3470 (1, (3471, (1, (0, (0, [])))))) (pr_q 3471 (13, (3472, (0, (0, (0, [])))))))) (ev_ct 3473 (ev_ct 3472 (pr_q 3472 (27, (3473, (20, (20, (0, [])))))) (pr_q 3473 (7, (3474, (3, (0, (0, []))))))) (ev_ct 3474 (pr_q 3474 (35, (3477, (349, (3, (0, [1, 6])))))) (pr_q 3477 (9, (3479, (5, (0, (0, []))))))))) (ev_ct 3483 (ev_ct 3480 (ev_ct 3479 (pr_q 3479 (7, (3480, (2, (0, (0, [])))))) (pr_q 3480 (7, (3481, (0, (0, (0, []))))))) (ev_ct 3481 (pr_q 3481 (6, (3483, (4, (0, (0, [])))))) (pr_q 3483 (1, (3484, (1, (0, (0, [])))))))) (ev_ct 3485 (ev_ct 3484 (pr_q 3484 (13, (3485, (0, (0, (0, [])))))) (pr_q 3485 (27, (3486, (20, (20, (0, []))))))) (pr_q 3486 (35, (3489, (204, (2, (8, [0, 0]))))))))) (ev_ct 3504 (ev_ct 3495 (ev_ct 3491 (ev_ct 3489 (pr_q 3489 (9, (3491, (6, (0, (0, [])))))) (pr_q 3491 (7, (3492, (2, (0, (0, []))))))) (ev_ct 3492 (pr_q 3492 (35, (3495, (74, (1, (8, [0, 0])))))) (pr_q 3495 (6, (3497, (5, (0, (0, [])))))))) (ev_ct 3502 (ev_ct 3497 (pr_q 3497 (17, (3500, (0, (3502, (3500, [])))))) (pr_q 3502 (6, (3504, (5, (0, (0, []))))))) (pr_q 3504 (16, (3507, (0, (3507, (3519, [])))))))) (ev_ct 3510 (ev_ct 3508 (ev_ct 3507 (pr_q 3507 (7, (3508, (3, (0, (0, [])))))) (pr_q 3508 (1, (3509, (0, (0, (0, []))))))) (ev_ct 3509 (pr_q 3509 (29, (3510, (23, (23, (0, [])))))) (pr_q 3510 (6, (3512, (6, (0, (0, [])))))))) (ev_ct 3513 (ev_ct 3512 (pr_q 3512 (43, (3513, (0, (0, (0, [])))))) (pr_q 3513 (44, (3514, (4, (0, (0, []))))))) (pr_q 3514 (16, (3517, (0, (3519, (3517, [])))))))))) (ev_ct 3536 (ev_ct 3528 (ev_ct 3524 (ev_ct 3522 (ev_ct 3519 (pr_q 3519 (20, (3685, (0, (0, (0, [])))))) (pr_q 3522 (7, (3523, (1, (0, (0, []))))))) (ev_ct 3523 (pr_q 3523 (7, (3524, (0, (0, (0, [])))))) (pr_q 3524 (6, (3526, (4, (0, (0, [])))))))) (ev_ct 3527 (ev_ct 3526 (pr_q 3526 (1, (3527, (1, (0, (0, [])))))) (pr_q 3527 (13, (3528, (0, (0, (0, []))))))) (pr_q 3528 (27, (3529, (20, (20, (0, [])))))))) (ev_ct 3533 (ev_ct 3530 (ev_ct 3529 (pr_q 3529 (7, (3530, (0, (0, (0, [])))))) (pr_q 3530 (6, (3532, (4, (0, (0, []))))))) (ev_ct 3532 (pr_q 3532 (1, (3533, (2, (0, (0, [])))))) (pr_q 3533 (13, (3534, (0, (0, (0, [])))))))) (ev_ct 3535 (ev_ct 3534 (pr_q 3534 (27, (3535, (20, (20, (0, [])))))) (pr_q 3535 (7, (3536, (3, (0, (0, []))))))) (pr_q 3536 (35, (3539, (350, (4, (0, [3, 18]))))))))) (ev_ct 3547 (ev_ct 3543 (ev_ct 3541 (ev_ct 3539 (pr_q 3539 (9, (3541, (5, (0, (0, [])))))) (pr_q 3541 (7, (3542, (2, (0, (0, []))))))) (ev_ct 3542 (pr_q 3542 (7, (3543, (0, (0, (0, [])))))) (pr_q 3543 (6, (3545, (4, (0, (0, [])))))))) (ev_ct 3546 (ev_ct 3545 (pr_q 3545 (1, (3546, (1, (0, (0, [])))))) (pr_q 3546 (13, (3547, (0, (0, (0, []))))))) (pr_q 3547 (27, (3548, (20, (20, (0, [])))))))) (ev_ct 3552 (ev_ct 3549 (ev_ct 3548 (pr_q 3548 (7, (3549, (0, (0, (0, [])))))) (pr_q 3549 (6, (3551, (4, (0, (0, []))))))) (ev_ct 3551 (pr_q 3551 (1, (3552, (2, (0, (0, [])))))) (pr_q 3552 (13, (3553, (0, (0, (0, [])))))))) (ev_ct 3554 (ev_ct 3553 (pr_q 3553 (27, (3554, (20, (20, (0, [])))))) (pr_q 3554 (35, (3557, (213, (3, (8, [0, 0]))))))) (pr_q 3557 (9, (3559, (6, (0, (0, []))))))))))) (ev_ct 3610 (ev_ct 3590 (ev_ct 3576 (ev_ct 3565 (ev_ct 3560 (ev_ct 3559 (pr_q 3559 (7, (3560, (2, (0, (0, [])))))) (pr_q 3560 (35, (3563, (74, (1, (8, [0, 0]))))))) (ev_ct 3563 (pr_q 3563 (6, (3565, (5, (0, (0, [])))))) (pr_q 3565 (17, (3568, (0, (3570, (3568, [])))))))) (ev_ct 3572 (ev_ct 3570 (pr_q 3570 (6, (3572, (5, (0, (0, [])))))) (pr_q 3572 (16, (3575, (0, (3575, (3587, []))))))) (ev_ct 3575 (pr_q 3575 (7, (3576, (3, (0, (0, [])))))) (pr_q 3576 (1, (3577, (0, (0, (0, []))))))))) (ev_ct 3581 (ev_ct 3578 (ev_ct 3577 (pr_q 3577 (29, (3578, (23, (23, (0, [])))))) (pr_q 3578 (6, (3580, (6, (0, (0, []))))))) (ev_ct 3580 (pr_q 3580 (43, (3581, (0, (0, (0, [])))))) (pr_q 3581 (44, (3582, (4, (0, (0, [])))))))) (ev_ct 3587 (ev_ct 3582 (pr_q 3582 (16, (3585, (0, (3587, (3585, [])))))) (pr_q 3587 (20, (3685, (0, (0, (0, []))))))) (pr_q 3590 (7, (3591, (1, (0, (0, []))))))))) (ev_ct 3600 (ev_ct 3595 (ev_ct 3592 (ev_ct 3591 (pr_q 3591 (7, (3592, (0, (0, (0, [])))))) (pr_q 3592 (6, (3594, (4, (0, (0, []))))))) (ev_ct 3594 (pr_q 3594 (1, (3595, (1, (0, (0, [])))))) (pr_q 3595 (13, (3596, (0, (0, (0, [])))))))) (ev_ct 3597 (ev_ct 3596 (pr_q 3596 (27, (3597, (20, (20, (0, [])))))) (pr_q 3597 (35, (3600, (61, (2, (7, [0, 0]))))))) (pr_q 3600 (7, (3601, (2, (0, (0, [])))))))) (ev_ct 3605 (ev_ct 3602 (ev_ct 3601 (pr_q 3601 (7, (3602, (0, (0, (0, [])))))) (pr_q 3602 (6, (3604, (4, (0, (0, []))))))) (ev_ct 3604 (pr_q 3604 (1, (3605, (1, (0, (0, [])))))) (pr_q 3605 (13, (3606, (0, (0, (0, [])))))))) (ev_ct 3607 (ev_ct 3606 (pr_q 3606 (27, (3607, (20, (20, (0, [])))))) (pr_q 3607 (35, (3610, (214, (2, (8, [0, 0]))))))) (pr_q 3610 (17, (3613, (0, (3685, (3613, [])))))))))) (ev_ct 3646 (ev_ct 3629 (ev_ct 3620 (ev_ct 3616 (ev_ct 3615 (pr_q 3615 (7, (3616, (1, (0, (0, [])))))) (pr_q 3616 (35, (3619, (62, (1, (7, [0, 0]))))))) (ev_ct 3619 (pr_q 3619 (7, (3620, (2, (0, (0, [])))))) (pr_q 3620 (35, (3623, (215, (1, (8, [0, 0])))))))) (ev_ct 3628 (ev_ct 3623 (pr_q 3623 (17, (3626, (0, (3685, (3626, [])))))) (pr_q 3628 (7, (3629, (1, (0, (0, []))))))) (pr_q 3629 (35, (3632, (63, (1, (7, [0, 0])))))))) (ev_ct 3641 (ev_ct 3633 (ev_ct 3632 (pr_q 3632 (7, (3633, (2, (0, (0, [])))))) (pr_q 3633 (35, (3636, (216, (1, (8, [0, 0]))))))) (ev_ct 3636 (pr_q 3636 (17, (3639, (0, (3685, (3639, [])))))) (pr_q 3641 (7, (3642, (1, (0, (0, [])))))))) (ev_ct 3643 (ev_ct 3642 (pr_q 3642 (7, (3643, (3, (0, (0, [])))))) (pr_q 3643 (35, (3646, (351, (2, (0, [1, 6]))))))) (pr_q 3646 (9, (3648, (5, (0, (0, []))))))))) (ev_ct 3660 (ev_ct 3654 (ev_ct 3649 (ev_ct 3648 (pr_q 3648 (7, (3649, (2, (0, (0, [])))))) (pr_q 3649 (35, (3652, (217, (1, (8, [0, 0]))))))) (ev_ct 3652 (pr_q 3652 (9, (3654, (6, (0, (0, [])))))) (pr_q 3654 (7, (3655, (2, (0, (0, [])))))))) (ev_ct 3658 (ev_ct 3655 (pr_q 3655 (35, (3658, (74, (1, (8, [0, 0])))))) (pr_q 3658 (6, (3660, (5, (0, (0, []))))))) (pr_q 3660 (17, (3663, (0, (3665, (3663, [])))))))) (ev_ct 3685 (ev_ct 3667 (ev_ct 3665 (pr_q 3665 (6, (3667, (5, (0, (0, [])))))) (pr_q 3667 (16, (3670, (0, (3670, (3682, []))))))) (ev_ct 3682 (pr_q 3682 (20, (3685, (0, (0, (0, [])))))) (pr_q 3685 (12, (3688, (4, (6, (0, [])))))))) (ev_ct 3691 (ev_ct 3688 (pr_q 3688 (20, (23, (0, (0, (0, [])))))) (pr_q 3691 (1, (3692, (1, (0, (0, []))))))) (pr_q 3692 (39, (3693, (1, (0, (0, []))))))))))))))))
def pr_y352 : MethodName := ⟨"OrphanTreeLaw", "law", "([I)Z"⟩
def pr_i352 : ev_Im := (pr_y352, (code, ((some .boolean), [])))
noncomputable def pr_m352 : ev_M := (9, (636, (22046, ([], pr_c352))))
/-- java/lang/Integer.bitCount(I)I -/
noncomputable def pr_c353 : Nat → ev_E := (ev_ct 26 (ev_ct 14 (ev_ct 7 (ev_ct 2 (ev_ct 1 (ev_ct 0 (pr_q 0 (6, (1, (0, (0, (0, [])))))) (pr_q 1 (6, (2, (0, (0, (0, []))))))) (pr_q 2 (1, (3, (1, (0, (0, []))))))) (ev_ct 4 (ev_ct 3 (pr_q 3 (15, (4, (6, (0, (0, [])))))) (pr_q 4 (1, (7, (1431655765, (0, (0, []))))))) (pr_q 7 (15, (8, (1, (0, (0, [])))))))) (ev_ct 10 (ev_ct 9 (ev_ct 8 (pr_q 8 (14, (9, (0, (0, (0, [])))))) (pr_q 9 (9, (10, (0, (0, (0, []))))))) (pr_q 10 (6, (11, (0, (0, (0, []))))))) (ev_ct 11 (pr_q 11 (1, (14, (858993459, (0, (0, [])))))) (pr_q 14 (15, (15, (1, (0, (0, []))))))))) (ev_ct 21 (ev_ct 17 (ev_ct 16 (ev_ct 15 (pr_q 15 (6, (16, (0, (0, (0, [])))))) (pr_q 16 (1, (17, (2, (0, (0, []))))))) (pr_q 17 (15, (18, (6, (0, (0, []))))))) (ev_ct 18 (pr_q 18 (1, (21, (858993459, (0, (0, [])))))) (pr_q 21 (15, (22, (1, (0, (0, [])))))))) (ev_ct 24 (ev_ct 23 (ev_ct 22 (pr_q 22 (13, (23, (0, (0, (0, [])))))) (pr_q 23 (9, (24, (0, (0, (0, []))))))) (pr_q 24 (6, (25, (0, (0, (0, []))))))) (ev_ct 25 (pr_q 25 (6, (26, (0, (0, (0, [])))))) (pr_q 26 (1, (27, (4, (0, (0, [])))))))))) (ev_ct 40 (ev_ct 34 (ev_ct 29 (ev_ct 28 (ev_ct 27 (pr_q 27 (15, (28, (6, (0, (0, [])))))) (pr_q 28 (13, (29, (0, (0, (0, []))))))) (pr_q 29 (1, (32, (252645135, (0, (0, []))))))) (ev_ct 33 (ev_ct 32 (pr_q 32 (15, (33, (1, (0, (0, [])))))) (pr_q 33 (9, (34, (0, (0, (0, []))))))) (pr_q 34 (6, (35, (0, (0, (0, [])))))))) (ev_ct 38 (ev_ct 36 (ev_ct 35 (pr_q 35 (6, (36, (0, (0, (0, [])))))) (pr_q 36 (1, (38, (8, (0, (0, []))))))) (pr_q 38 (15, (39, (6, (0, (0, []))))))) (ev_ct 39 (pr_q 39 (13, (40, (0, (0, (0, [])))))) (pr_q 40 (9, (41, (0, (0, (0, []))))))))) (ev_ct 46 (ev_ct 43 (ev_ct 42 (ev_ct 41 (pr_q 41 (6, (42, (0, (0, (0, [])))))) (pr_q 42 (6, (43, (0, (0, (0, []))))))) (pr_q 43 (1, (45, (16, (0, (0, []))))))) (ev_ct 45 (pr_q 45 (15, (46, (6, (0, (0, [])))))) (pr_q 46 (13, (47, (0, (0, (0, [])))))))) (ev_ct 49 (ev_ct 48 (ev_ct 47 (pr_q 47 (9, (48, (0, (0, (0, [])))))) (pr_q 48 (6, (49, (0, (0, (0, []))))))) (pr_q 49 (1, (51, (63, (0, (0, []))))))) (ev_ct 51 (pr_q 51 (15, (52, (1, (0, (0, [])))))) (pr_q 52 (39, (53, (0, (0, (0, [])))))))))))
def pr_y353 : MethodName := ⟨"java/lang/Integer", "bitCount", "(I)I"⟩
def pr_i353 : ev_Im := (pr_y353, (prog_17_method_49_code, ((some .int), [])))
noncomputable def pr_m353 : ev_M := (1, (0, (0, ([], pr_c353))))
noncomputable def pr_cS : Nat → ev_E := (ev_ct 12 (ev_ct 7 (ev_ct 3 (ev_ct 0 (pr_q 0 (33, (3, (6, (7, (0, [1, 1, 1, 1, 1, 1, 0])))))) (pr_q 3 (21, (4, (0, (0, (0, []))))))) (ev_ct 4 (pr_q 4 (35, (7, (0, (1, (7, [623, 10110])))))) (pr_q 7 (10, (8, (1, (0, (0, [])))))))) (ev_ct 11 (ev_ct 8 (pr_q 8 (33, (11, (7, (24, (0, [1, 1, 1, 1, 1, 1, 0, 0, 0, 1, 0, 0, 0, 0, 0, 0, 0, 0, 0, 0, 1, 1, 1, 0])))))) (pr_q 11 (21, (12, (0, (0, (0, []))))))) (pr_q 12 (35, (15, (73, (1, (8, [10, 11904])))))))) (ev_ct 19 (ev_ct 16 (ev_ct 15 (pr_q 15 (10, (16, (2, (0, (0, [])))))) (pr_q 16 (1, (17, (1, (0, (0, []))))))) (ev_ct 17 (pr_q 17 (34, (19, (23, (2, (0, [])))))) (pr_q 19 (10, (20, (3, (0, (0, [])))))))) (ev_ct 21 (ev_ct 20 (pr_q 20 (1, (21, (0, (0, (0, [])))))) (pr_q 21 (9, (23, (4, (0, (0, []))))))) (pr_q 23 (46, (0, (0, (0, (0, [])))))))))
noncomputable def pr_mS : ev_M := (9, (636, (22046, ([], pr_cS))))
noncomputable def pr_d : ev_Im × ev_M := ((⟨"", "", ""⟩, (⟨#[]⟩, (none, []))), (0, (0, (0, ([], fun _ => pr_e0)))))
noncomputable def pr_br (n : Nat) (f g : Nat → ev_Im × ev_M) : Nat → ev_Im × ev_M := fun i => Bool.rec (motive := fun _ => ev_Im × ev_M) (g i) (f i) (Nat.ble i n)
noncomputable def pr_lf (n : Nat) (x : ev_Im × ev_M) : Nat → ev_Im × ev_M := fun i => Bool.rec (motive := fun _ => ev_Im × ev_M) pr_d x (Nat.beq i n)
noncomputable def pr_T : Nat → ev_Im × ev_M := (pr_br 174 (pr_br 72 (pr_br 35 (pr_br 17 (pr_br 8 (pr_br 4 (pr_br 2 (pr_br 1 (pr_br 0 (pr_lf 0 (pr_i0, pr_m0)) (pr_lf 1 (pr_i1, pr_m1))) (pr_lf 2 (pr_i2, pr_m2))) (pr_br 3 (pr_lf 3 (pr_i3, pr_m3)) (pr_lf 4 (pr_i4, pr_m4)))) (pr_br 6 (pr_br 5 (pr_lf 5 (pr_i5, pr_m5)) (pr_lf 6 (pr_i6, pr_m6))) (pr_br 7 (pr_lf 7 (pr_i7, pr_m7)) (pr_lf 8 (pr_i8, pr_m8))))) (pr_br 13 (pr_br 11 (pr_br 10 (pr_br 9 (pr_lf 9 (pr_i9, pr_m9)) (pr_lf 10 (pr_i10, pr_m10))) (pr_lf 11 (pr_i11, pr_m11))) (pr_br 12 (pr_lf 12 (pr_i12, pr_m12)) (pr_lf 13 (pr_i13, pr_m13)))) (pr_br 15 (pr_br 14 (pr_lf 14 (pr_i14, pr_m14)) (pr_lf 15 (pr_i15, pr_m15))) (pr_br 16 (pr_lf 16 (pr_i16, pr_m16)) (pr_lf 17 (pr_i17, pr_m17)))))) (pr_br 26 (pr_br 22 (pr_br 20 (pr_br 19 (pr_br 18 (pr_lf 18 (pr_i18, pr_m18)) (pr_lf 19 (pr_i19, pr_m19))) (pr_lf 20 (pr_i20, pr_m20))) (pr_br 21 (pr_lf 21 (pr_i21, pr_m21)) (pr_lf 22 (pr_i22, pr_m22)))) (pr_br 24 (pr_br 23 (pr_lf 23 (pr_i23, pr_m23)) (pr_lf 24 (pr_i24, pr_m24))) (pr_br 25 (pr_lf 25 (pr_i25, pr_m25)) (pr_lf 26 (pr_i26, pr_m26))))) (pr_br 31 (pr_br 29 (pr_br 28 (pr_br 27 (pr_lf 27 (pr_i27, pr_m27)) (pr_lf 28 (pr_i28, pr_m28))) (pr_lf 29 (pr_i29, pr_m29))) (pr_br 30 (pr_lf 30 (pr_i30, pr_m30)) (pr_lf 31 (pr_i31, pr_m31)))) (pr_br 33 (pr_br 32 (pr_lf 32 (pr_i32, pr_m32)) (pr_lf 33 (pr_i33, pr_m33))) (pr_br 34 (pr_lf 34 (pr_i34, pr_m34)) (pr_lf 35 (pr_i35, pr_m35))))))) (pr_br 53 (pr_br 44 (pr_br 40 (pr_br 38 (pr_br 37 (pr_br 36 (pr_lf 36 (pr_i36, pr_m36)) (pr_lf 37 (pr_i37, pr_m37))) (pr_lf 38 (pr_i38, pr_m38))) (pr_br 39 (pr_lf 39 (pr_i39, pr_m39)) (pr_lf 40 (pr_i40, pr_m40)))) (pr_br 42 (pr_br 41 (pr_lf 41 (pr_i41, pr_m41)) (pr_lf 42 (pr_i42, pr_m42))) (pr_br 43 (pr_lf 43 (pr_i43, pr_m43)) (pr_lf 44 (pr_i44, pr_m44))))) (pr_br 49 (pr_br 47 (pr_br 46 (pr_br 45 (pr_lf 45 (pr_i45, pr_m45)) (pr_lf 46 (pr_i46, pr_m46))) (pr_lf 47 (pr_i47, pr_m47))) (pr_br 48 (pr_lf 48 (pr_i48, pr_m48)) (pr_lf 49 (pr_i49, pr_m49)))) (pr_br 51 (pr_br 50 (pr_lf 50 (pr_i50, pr_m50)) (pr_lf 51 (pr_i51, pr_m51))) (pr_br 52 (pr_lf 52 (pr_i52, pr_m52)) (pr_lf 53 (pr_i53, pr_m53)))))) (pr_br 62 (pr_br 58 (pr_br 56 (pr_br 55 (pr_br 54 (pr_lf 54 (pr_i54, pr_m54)) (pr_lf 55 (pr_i55, pr_m55))) (pr_lf 56 (pr_i56, pr_m56))) (pr_br 57 (pr_lf 57 (pr_i57, pr_m57)) (pr_lf 58 (pr_i58, pr_m58)))) (pr_br 60 (pr_br 59 (pr_lf 59 (pr_i59, pr_m59)) (pr_lf 60 (pr_i60, pr_m60))) (pr_br 61 (pr_lf 61 (pr_i61, pr_m61)) (pr_lf 62 (pr_i62, pr_m62))))) (pr_br 67 (pr_br 65 (pr_br 64 (pr_br 63 (pr_lf 63 (pr_i63, pr_m63)) (pr_lf 64 (pr_i64, pr_m64))) (pr_lf 65 (pr_i65, pr_m65))) (pr_br 66 (pr_lf 66 (pr_i66, pr_m66)) (pr_lf 67 (pr_i67, pr_m67)))) (pr_br 69 (pr_br 68 (pr_lf 68 (pr_i68, pr_m68)) (pr_lf 69 (pr_i69, pr_m69))) (pr_br 70 (pr_lf 70 (pr_i70, pr_m70)) (pr_lf 72 (pr_i72, pr_m72)))))))) (pr_br 137 (pr_br 102 (pr_br 81 (pr_br 77 (pr_br 75 (pr_br 74 (pr_br 73 (pr_lf 73 (pr_i73, pr_m73)) (pr_lf 74 (pr_i74, pr_m74))) (pr_lf 75 (pr_i75, pr_m75))) (pr_br 76 (pr_lf 76 (pr_i76, pr_m76)) (pr_lf 77 (pr_i77, pr_m77)))) (pr_br 79 (pr_br 78 (pr_lf 78 (pr_i78, pr_m78)) (pr_lf 79 (pr_i79, pr_m79))) (pr_br 80 (pr_lf 80 (pr_i80, pr_m80)) (pr_lf 81 (pr_i81, pr_m81))))) (pr_br 86 (pr_br 84 (pr_br 83 (pr_br 82 (pr_lf 82 (pr_i82, pr_m82)) (pr_lf 83 (pr_i83, pr_m83))) (pr_lf 84 (pr_i84, pr_m84))) (pr_br 85 (pr_lf 85 (pr_i85, pr_m85)) (pr_lf 86 (pr_i86, pr_m86)))) (pr_br 89 (pr_br 87 (pr_lf 87 (pr_i87, pr_m87)) (pr_lf 89 (pr_i89, pr_m89))) (pr_br 90 (pr_lf 90 (pr_i90, pr_m90)) (pr_lf 102 (pr_i102, pr_m102)))))) (pr_br 128 (pr_br 108 (pr_br 106 (pr_br 105 (pr_br 103 (pr_lf 103 (pr_i103, pr_m103)) (pr_lf 105 (pr_i105, pr_m105))) (pr_lf 106 (pr_i106, pr_m106))) (pr_br 107 (pr_lf 107 (pr_i107, pr_m107)) (pr_lf 108 (pr_i108, pr_m108)))) (pr_br 110 (pr_br 109 (pr_lf 109 (pr_i109, pr_m109)) (pr_lf 110 (pr_i110, pr_m110))) (pr_br 127 (pr_lf 127 (pr_i127, pr_m127)) (pr_lf 128 (pr_i128, pr_m128))))) (pr_br 133 (pr_br 131 (pr_br 130 (pr_br 129 (pr_lf 129 (pr_i129, pr_m129)) (pr_lf 130 (pr_i130, pr_m130))) (pr_lf 131 (pr_i131, pr_m131))) (pr_br 132 (pr_lf 132 (pr_i132, pr_m132)) (pr_lf 133 (pr_i133, pr_m133)))) (pr_br 135 (pr_br 134 (pr_lf 134 (pr_i134, pr_m134)) (pr_lf 135 (pr_i135, pr_m135))) (pr_br 136 (pr_lf 136 (pr_i136, pr_m136)) (pr_lf 137 (pr_i137, pr_m137))))))) (pr_br 156 (pr_br 146 (pr_br 142 (pr_br 140 (pr_br 139 (pr_br 138 (pr_lf 138 (pr_i138, pr_m138)) (pr_lf 139 (pr_i139, pr_m139))) (pr_lf 140 (pr_i140, pr_m140))) (pr_br 141 (pr_lf 141 (pr_i141, pr_m141)) (pr_lf 142 (pr_i142, pr_m142)))) (pr_br 144 (pr_br 143 (pr_lf 143 (pr_i143, pr_m143)) (pr_lf 144 (pr_i144, pr_m144))) (pr_br 145 (pr_lf 145 (pr_i145, pr_m145)) (pr_lf 146 (pr_i146, pr_m146))))) (pr_br 152 (pr_br 149 (pr_br 148 (pr_br 147 (pr_lf 147 (pr_i147, pr_m147)) (pr_lf 148 (pr_i148, pr_m148))) (pr_lf 149 (pr_i149, pr_m149))) (pr_br 150 (pr_lf 150 (pr_i150, pr_m150)) (pr_lf 152 (pr_i152, pr_m152)))) (pr_br 154 (pr_br 153 (pr_lf 153 (pr_i153, pr_m153)) (pr_lf 154 (pr_i154, pr_m154))) (pr_br 155 (pr_lf 155 (pr_i155, pr_m155)) (pr_lf 156 (pr_i156, pr_m156)))))) (pr_br 165 (pr_br 161 (pr_br 159 (pr_br 158 (pr_br 157 (pr_lf 157 (pr_i157, pr_m157)) (pr_lf 158 (pr_i158, pr_m158))) (pr_lf 159 (pr_i159, pr_m159))) (pr_br 160 (pr_lf 160 (pr_i160, pr_m160)) (pr_lf 161 (pr_i161, pr_m161)))) (pr_br 163 (pr_br 162 (pr_lf 162 (pr_i162, pr_m162)) (pr_lf 163 (pr_i163, pr_m163))) (pr_br 164 (pr_lf 164 (pr_i164, pr_m164)) (pr_lf 165 (pr_i165, pr_m165))))) (pr_br 170 (pr_br 168 (pr_br 167 (pr_br 166 (pr_lf 166 (pr_i166, pr_m166)) (pr_lf 167 (pr_i167, pr_m167))) (pr_lf 168 (pr_i168, pr_m168))) (pr_br 169 (pr_lf 169 (pr_i169, pr_m169)) (pr_lf 170 (pr_i170, pr_m170)))) (pr_br 172 (pr_br 171 (pr_lf 171 (pr_i171, pr_m171)) (pr_lf 172 (pr_i172, pr_m172))) (pr_br 173 (pr_lf 173 (pr_i173, pr_m173)) (pr_lf 174 (pr_i174, pr_m174))))))))) (pr_br 250 (pr_br 211 (pr_br 193 (pr_br 184 (pr_br 179 (pr_br 177 (pr_br 176 (pr_br 175 (pr_lf 175 (pr_i175, pr_m175)) (pr_lf 176 (pr_i176, pr_m176))) (pr_lf 177 (pr_i177, pr_m177))) (pr_br 178 (pr_lf 178 (pr_i178, pr_m178)) (pr_lf 179 (pr_i179, pr_m179)))) (pr_br 182 (pr_br 181 (pr_lf 181 (pr_i181, pr_m181)) (pr_lf 182 (pr_i182, pr_m182))) (pr_br 183 (pr_lf 183 (pr_i183, pr_m183)) (pr_lf 184 (pr_i184, pr_m184))))) (pr_br 189 (pr_br 187 (pr_br 186 (pr_br 185 (pr_lf 185 (pr_i185, pr_m185)) (pr_lf 186 (pr_i186, pr_m186))) (pr_lf 187 (pr_i187, pr_m187))) (pr_br 188 (pr_lf 188 (pr_i188, pr_m188)) (pr_lf 189 (pr_i189, pr_m189)))) (pr_br 191 (pr_br 190 (pr_lf 190 (pr_i190, pr_m190)) (pr_lf 191 (pr_i191, pr_m191))) (pr_br 192 (pr_lf 192 (pr_i192, pr_m192)) (pr_lf 193 (pr_i193, pr_m193)))))) (pr_br 202 (pr_br 198 (pr_br 196 (pr_br 195 (pr_br 194 (pr_lf 194 (pr_i194, pr_m194)) (pr_lf 195 (pr_i195, pr_m195))) (pr_lf 196 (pr_i196, pr_m196))) (pr_br 197 (pr_lf 197 (pr_i197, pr_m197)) (pr_lf 198 (pr_i198, pr_m198)))) (pr_br 200 (pr_br 199 (pr_lf 199 (pr_i199, pr_m199)) (pr_lf 200 (pr_i200, pr_m200))) (pr_br 201 (pr_lf 201 (pr_i201, pr_m201)) (pr_lf 202 (pr_i202, pr_m202))))) (pr_br 207 (pr_br 205 (pr_br 204 (pr_br 203 (pr_lf 203 (pr_i203, pr_m203)) (pr_lf 204 (pr_i204, pr_m204))) (pr_lf 205 (pr_i205, pr_m205))) (pr_br 206 (pr_lf 206 (pr_i206, pr_m206)) (pr_lf 207 (pr_i207, pr_m207)))) (pr_br 209 (pr_br 208 (pr_lf 208 (pr_i208, pr_m208)) (pr_lf 209 (pr_i209, pr_m209))) (pr_br 210 (pr_lf 210 (pr_i210, pr_m210)) (pr_lf 211 (pr_i211, pr_m211))))))) (pr_br 229 (pr_br 220 (pr_br 216 (pr_br 214 (pr_br 213 (pr_br 212 (pr_lf 212 (pr_i212, pr_m212)) (pr_lf 213 (pr_i213, pr_m213))) (pr_lf 214 (pr_i214, pr_m214))) (pr_br 215 (pr_lf 215 (pr_i215, pr_m215)) (pr_lf 216 (pr_i216, pr_m216)))) (pr_br 218 (pr_br 217 (pr_lf 217 (pr_i217, pr_m217)) (pr_lf 218 (pr_i218, pr_m218))) (pr_br 219 (pr_lf 219 (pr_i219, pr_m219)) (pr_lf 220 (pr_i220, pr_m220))))) (pr_br 225 (pr_br 223 (pr_br 222 (pr_br 221 (pr_lf 221 (pr_i221, pr_m221)) (pr_lf 222 (pr_i222, pr_m222))) (pr_lf 223 (pr_i223, pr_m223))) (pr_br 224 (pr_lf 224 (pr_i224, pr_m224)) (pr_lf 225 (pr_i225, pr_m225)))) (pr_br 227 (pr_br 226 (pr_lf 226 (pr_i226, pr_m226)) (pr_lf 227 (pr_i227, pr_m227))) (pr_br 228 (pr_lf 228 (pr_i228, pr_m228)) (pr_lf 229 (pr_i229, pr_m229)))))) (pr_br 239 (pr_br 235 (pr_br 233 (pr_br 232 (pr_br 230 (pr_lf 230 (pr_i230, pr_m230)) (pr_lf 232 (pr_i232, pr_m232))) (pr_lf 233 (pr_i233, pr_m233))) (pr_br 234 (pr_lf 234 (pr_i234, pr_m234)) (pr_lf 235 (pr_i235, pr_m235)))) (pr_br 237 (pr_br 236 (pr_lf 236 (pr_i236, pr_m236)) (pr_lf 237 (pr_i237, pr_m237))) (pr_br 238 (pr_lf 238 (pr_i238, pr_m238)) (pr_lf 239 (pr_i239, pr_m239))))) (pr_br 245 (pr_br 243 (pr_br 242 (pr_br 241 (pr_lf 241 (pr_i241, pr_m241)) (pr_lf 242 (pr_i242, pr_m242))) (pr_lf 243 (pr_i243, pr_m243))) (pr_br 244 (pr_lf 244 (pr_i244, pr_m244)) (pr_lf 245 (pr_i245, pr_m245)))) (pr_br 248 (pr_br 246 (pr_lf 246 (pr_i246, pr_m246)) (pr_lf 248 (pr_i248, pr_m248))) (pr_br 249 (pr_lf 249 (pr_i249, pr_m249)) (pr_lf 250 (pr_i250, pr_m250)))))))) (pr_br 317 (pr_br 285 (pr_br 276 (pr_br 272 (pr_br 269 (pr_br 265 (pr_br 251 (pr_lf 251 (pr_i251, pr_m251)) (pr_lf 265 (pr_i265, pr_m265))) (pr_lf 269 (pr_i269, pr_m269))) (pr_br 270 (pr_lf 270 (pr_i270, pr_m270)) (pr_lf 272 (pr_i272, pr_m272)))) (pr_br 274 (pr_br 273 (pr_lf 273 (pr_i273, pr_m273)) (pr_lf 274 (pr_i274, pr_m274))) (pr_br 275 (pr_lf 275 (pr_i275, pr_m275)) (pr_lf 276 (pr_i276, pr_m276))))) (pr_br 281 (pr_br 279 (pr_br 278 (pr_br 277 (pr_lf 277 (pr_i277, pr_m277)) (pr_lf 278 (pr_i278, pr_m278))) (pr_lf 279 (pr_i279, pr_m279))) (pr_br 280 (pr_lf 280 (pr_i280, pr_m280)) (pr_lf 281 (pr_i281, pr_m281)))) (pr_br 283 (pr_br 282 (pr_lf 282 (pr_i282, pr_m282)) (pr_lf 283 (pr_i283, pr_m283))) (pr_br 284 (pr_lf 284 (pr_i284, pr_m284)) (pr_lf 285 (pr_i285, pr_m285)))))) (pr_br 308 (pr_br 304 (pr_br 302 (pr_br 299 (pr_br 286 (pr_lf 286 (pr_i286, pr_m286)) (pr_lf 299 (pr_i299, pr_m299))) (pr_lf 302 (pr_i302, pr_m302))) (pr_br 303 (pr_lf 303 (pr_i303, pr_m303)) (pr_lf 304 (pr_i304, pr_m304)))) (pr_br 306 (pr_br 305 (pr_lf 305 (pr_i305, pr_m305)) (pr_lf 306 (pr_i306, pr_m306))) (pr_br 307 (pr_lf 307 (pr_i307, pr_m307)) (pr_lf 308 (pr_i308, pr_m308))))) (pr_br 313 (pr_br 311 (pr_br 310 (pr_br 309 (pr_lf 309 (pr_i309, pr_m309)) (pr_lf 310 (pr_i310, pr_m310))) (pr_lf 311 (pr_i311, pr_m311))) (pr_br 312 (pr_lf 312 (pr_i312, pr_m312)) (pr_lf 313 (pr_i313, pr_m313)))) (pr_br 315 (pr_br 314 (pr_lf 314 (pr_i314, pr_m314)) (pr_lf 315 (pr_i315, pr_m315))) (pr_br 316 (pr_lf 316 (pr_i316, pr_m316)) (pr_lf 317 (pr_i317, pr_m317))))))) (pr_br 335 (pr_br 326 (pr_br 322 (pr_br 320 (pr_br 319 (pr_br 318 (pr_lf 318 (pr_i318, pr_m318)) (pr_lf 319 (pr_i319, pr_m319))) (pr_lf 320 (pr_i320, pr_m320))) (pr_br 321 (pr_lf 321 (pr_i321, pr_m321)) (pr_lf 322 (pr_i322, pr_m322)))) (pr_br 324 (pr_br 323 (pr_lf 323 (pr_i323, pr_m323)) (pr_lf 324 (pr_i324, pr_m324))) (pr_br 325 (pr_lf 325 (pr_i325, pr_m325)) (pr_lf 326 (pr_i326, pr_m326))))) (pr_br 331 (pr_br 329 (pr_br 328 (pr_br 327 (pr_lf 327 (pr_i327, pr_m327)) (pr_lf 328 (pr_i328, pr_m328))) (pr_lf 329 (pr_i329, pr_m329))) (pr_br 330 (pr_lf 330 (pr_i330, pr_m330)) (pr_lf 331 (pr_i331, pr_m331)))) (pr_br 333 (pr_br 332 (pr_lf 332 (pr_i332, pr_m332)) (pr_lf 333 (pr_i333, pr_m333))) (pr_br 334 (pr_lf 334 (pr_i334, pr_m334)) (pr_lf 335 (pr_i335, pr_m335)))))) (pr_br 344 (pr_br 340 (pr_br 338 (pr_br 337 (pr_br 336 (pr_lf 336 (pr_i336, pr_m336)) (pr_lf 337 (pr_i337, pr_m337))) (pr_lf 338 (pr_i338, pr_m338))) (pr_br 339 (pr_lf 339 (pr_i339, pr_m339)) (pr_lf 340 (pr_i340, pr_m340)))) (pr_br 342 (pr_br 341 (pr_lf 341 (pr_i341, pr_m341)) (pr_lf 342 (pr_i342, pr_m342))) (pr_br 343 (pr_lf 343 (pr_i343, pr_m343)) (pr_lf 344 (pr_i344, pr_m344))))) (pr_br 348 (pr_br 346 (pr_br 345 (pr_lf 345 (pr_i345, pr_m345)) (pr_lf 346 (pr_i346, pr_m346))) (pr_br 347 (pr_lf 347 (pr_i347, pr_m347)) (pr_lf 348 (pr_i348, pr_m348)))) (pr_br 350 (pr_br 349 (pr_lf 349 (pr_i349, pr_m349)) (pr_lf 350 (pr_i350, pr_m350))) (pr_br 351 (pr_lf 351 (pr_i351, pr_m351)) (pr_lf 353 (pr_i353, pr_m353))))))))))
noncomputable def pr_I (i : Nat) : ev_Im := (pr_T i).1
noncomputable def pr_P (i : Nat) : ev_M := (pr_T i).2
def pr_S : List (String × (Nat × String)) := [("OrphanTree", (120, "no such number")), ("OrphanTree", (177, "no such property")), ("OrphanTree", (218, "not so many processes")), ("OrphanTree", (256, "no testament")), ("OrphanTree", (272, "its own heir")), ("OrphanTree", (296, "no such exit")), ("OrphanTree", (345, "no such process")), ("OrphanTree", (348, "out of range")), ("OrphanTree", (352, "the tree does not let it"))]
/-- the world at the start: nothing yet -/
def pr_w0 : ev_W := (List.replicate 21 (List.replicate 32 (99, (0, []))), (0, (true, (0, 0))))
def pr_l0 : ev_L := [some (.inr (.inl (some 1000000))), none, none, none, none, none, none, none, none]
def pr_one : ev_R → Bool
  | some (.inl (some (.inl n), _)) => Nat.beq n 1
  | _ => false
end
section
/-! ===== entries of the program, one lemma a kind (own work) ===== -/
def pr_E (Ts : List Cond) (y : MethodName) (cc : ByteArray) (ret : Option FieldType) (nL : Nat) (pc : Nat) (x : ev_E) : Prop :=
  ev_eok pr_I pr_P pr_S Ts y cc ret nL pc x.1 x.2.1 x.2.2.1 x.2.2.2.1 x.2.2.2.2.1 x.2.2.2.2.2
theorem ev_uwat {x : Cond} (i : Nat) (h : lw_tbl[i]? = some x) (hg : goodWord x = true) : x ∈ ev_UW := List.mem_filter.mpr ⟨List.mem_of_getElem? h, hg⟩
theorem ev_twat {x : Cond} (i : Nat) (h : lw_tbl[i]? = some x) : x ∈ lw_tbl := List.mem_of_getElem? h
section ENT
variable {y : MethodName} {cc : ByteArray} {ret : Option FieldType} {nL pc nx a b c : Nat} {tg : List Nat} {im : ev_Im} {ml : Nat}
theorem en_0 {Ts : List Cond} : ∀ pc, pr_E Ts y cc ret nL pc pr_e0 := fun _ => trivial
theorem en_ct {E : Nat → ev_E → Prop} {n : Nat} {f g : Nat → ev_E} (hf : ∀ pc, E pc (f pc)) (hg : ∀ pc, E pc (g pc)) : ∀ pc, E pc (ev_ct n f g pc) := by
  intro pc
  unfold ev_ct
  cases Nat.ble pc n
  · exact hg pc
  · exact hf pc
theorem en_q {Ts : List Cond} {n : Nat} {x : ev_E} (h : pr_E Ts y cc ret nL n x) : ∀ pc, pr_E Ts y cc ret nL pc (pr_q n x pc) := by
  intro pc
  unfold pr_q
  cases e : Nat.beq pc n with
  | false => exact en_0 pc
  | true =>
    have := Nat.eq_of_beq_eq_true e
    subst this
    exact h
theorem en_up {x : Cond} (h : x ∈ ev_UW) : x ∈ ev_wm im ml := List.mem_cons_of_mem _ h
theorem en_iconst {n : Int} (hd : decode cc pc = .ok (.iconst n, 1)) (h : Int32.ofInt n = nI a) : pr_E (ev_wm im ml) y cc ret nL pc (1, (pc + 1, (a, (0, (0, []))))) := by
  show ev_i_int cc y.cls (ev_wm im ml) pc (pc + 1) a
  exact Or.inl ⟨n, hd, h, rfl⟩
theorem en_bipush {n : Int} (hd : decode cc pc = .ok (.bipush n, 2)) (h : (Int8.ofInt n).toInt32 = nI a) : pr_E (ev_wm im ml) y cc ret nL pc (1, (pc + 2, (a, (0, (0, []))))) := by
  show ev_i_int cc y.cls (ev_wm im ml) pc (pc + 2) a
  exact Or.inr (Or.inl ⟨n, hd, h, rfl⟩)
theorem en_sipush {n : Int} (hd : decode cc pc = .ok (.sipush n, 3)) (h : (Int16.ofInt n).toInt32 = nI a) : pr_E (ev_wm im ml) y cc ret nL pc (1, (pc + 3, (a, (0, (0, []))))) := by
  show ev_i_int cc y.cls (ev_wm im ml) pc (pc + 3) a
  exact Or.inr (Or.inr (Or.inl ⟨n, hd, h, rfl⟩))
theorem en_ldc {ix : Nat} {v : Int32} (hd : decode cc pc = .ok (.ldc ix, 2)) (h : v = nI a) (hw : Cond.constant y.cls ix v ∈ ev_UW) : pr_E (ev_wm im ml) y cc ret nL pc (1, (pc + 2, (a, (0, (0, []))))) := by
  show ev_i_int cc y.cls (ev_wm im ml) pc (pc + 2) a
  exact Or.inr (Or.inr (Or.inr (Or.inl ⟨ix, v, hd, h, rfl, en_up hw⟩)))
theorem en_ldcw {ix : Nat} {v : Int32} (hd : decode cc pc = .ok (.ldc_w ix, 3)) (h : v = nI a) (hw : Cond.constant y.cls ix v ∈ ev_UW) : pr_E (ev_wm im ml) y cc ret nL pc (1, (pc + 3, (a, (0, (0, []))))) := by
  show ev_i_int cc y.cls (ev_wm im ml) pc (pc + 3) a
  exact Or.inr (Or.inr (Or.inr (Or.inr ⟨ix, v, hd, h, rfl, en_up hw⟩)))
theorem en_null (hd : decode cc pc = .ok (.aconst_null, 1)) : pr_E (ev_wm im ml) y cc ret nL pc (2, (pc + 1, (0, (0, (0, []))))) := by
  exact ⟨hd, rfl⟩
theorem en_lconst {n : Fin 2} (hd : decode cc pc = .ok (.lconst n, 1)) (h : Int64.ofNat (n : Nat) = lN b) : pr_E (ev_wm im ml) y cc ret nL pc (3, (pc + 1, (0, (b, (0, []))))) := by
  show ev_i_wide cc y.cls (ev_wm im ml) pc (pc + 1) 0 b
  exact Or.inl (Or.inl ⟨n, hd, rfl, h, rfl⟩)
theorem en_dconst (hd : decode cc pc = .ok (.dconst 0, 1)) (h : FP.dconst0 = UInt64.ofNat b) : pr_E (ev_wm im ml) y cc ret nL pc (3, (pc + 1, (2, (b, (0, []))))) := by
  show ev_i_wide cc y.cls (ev_wm im ml) pc (pc + 1) 2 b
  exact Or.inl (Or.inr ⟨hd, rfl, h, rfl⟩)
theorem en_fconst (hd : decode cc pc = .ok (.fconst 0, 1)) (h : FP.fconst0 = UInt32.ofNat b) : pr_E (ev_wm im ml) y cc ret nL pc (3, (pc + 1, (1, (b, (0, []))))) := by
  show ev_i_wide cc y.cls (ev_wm im ml) pc (pc + 1) 1 b
  exact Or.inr (Or.inl ⟨hd, rfl, h, rfl⟩)
theorem en_ldc2 {ix : Nat} {v : Int64} (hd : decode cc pc = .ok (.ldc2_w ix, 3)) (h : v = lN b) (hw : Cond.constantLong y.cls ix v ∈ ev_UW) : pr_E (ev_wm im ml) y cc ret nL pc (3, (pc + 3, (0, (b, (0, []))))) := by
  show ev_i_wide cc y.cls (ev_wm im ml) pc (pc + 3) 0 b
  exact Or.inr (Or.inr ⟨ix, v, hd, rfl, h, rfl, en_up hw⟩)
theorem en_iload (hd : decode cc pc = .ok (.iload a, 2)) : pr_E (ev_wm im ml) y cc ret nL pc (6, (pc + 2, (a, (0, (0, []))))) := by
  show ev_i_ld cc pc (pc + 2) a .iload .iload_n
  exact Or.inl ⟨hd, rfl⟩
theorem en_iloadn {n : Fin 4} (hd : decode cc pc = .ok (.iload_n n, 1)) (h : (n : Nat) = a) : pr_E (ev_wm im ml) y cc ret nL pc (6, (pc + 1, (a, (0, (0, []))))) := by
  show ev_i_ld cc pc (pc + 1) a .iload .iload_n
  exact Or.inr ⟨n, hd, h, rfl⟩
theorem en_aload (hd : decode cc pc = .ok (.aload a, 2)) : pr_E (ev_wm im ml) y cc ret nL pc (7, (pc + 2, (a, (0, (0, []))))) := by
  show ev_i_ld cc pc (pc + 2) a .aload .aload_n
  exact Or.inl ⟨hd, rfl⟩
theorem en_aloadn {n : Fin 4} (hd : decode cc pc = .ok (.aload_n n, 1)) (h : (n : Nat) = a) : pr_E (ev_wm im ml) y cc ret nL pc (7, (pc + 1, (a, (0, (0, []))))) := by
  show ev_i_ld cc pc (pc + 1) a .aload .aload_n
  exact Or.inr ⟨n, hd, h, rfl⟩
theorem en_dload (hd : decode cc pc = .ok (.dload a, 2)) : pr_E (ev_wm im ml) y cc ret nL pc (8, (pc + 2, (a, (0, (0, []))))) := by
  exact ⟨hd, rfl⟩
theorem en_istore (hd : decode cc pc = .ok (.istore a, 2)) (hl : a < nL) : pr_E (ev_wm im ml) y cc ret nL pc (9, (pc + 2, (a, (0, (0, []))))) := by
  show ev_i_st cc nL pc (pc + 2) a .istore .istore_n
  exact ⟨Or.inl ⟨hd, rfl⟩, hl⟩
theorem en_istoren {n : Fin 4} (hd : decode cc pc = .ok (.istore_n n, 1)) (h : (n : Nat) = a) (hl : a < nL) : pr_E (ev_wm im ml) y cc ret nL pc (9, (pc + 1, (a, (0, (0, []))))) := by
  show ev_i_st cc nL pc (pc + 1) a .istore .istore_n
  exact ⟨Or.inr ⟨n, hd, h, rfl⟩, hl⟩
theorem en_astore (hd : decode cc pc = .ok (.astore a, 2)) (hl : a < nL) : pr_E (ev_wm im ml) y cc ret nL pc (10, (pc + 2, (a, (0, (0, []))))) := by
  show ev_i_st cc nL pc (pc + 2) a .astore .astore_n
  exact ⟨Or.inl ⟨hd, rfl⟩, hl⟩
theorem en_astoren {n : Fin 4} (hd : decode cc pc = .ok (.astore_n n, 1)) (h : (n : Nat) = a) (hl : a < nL) : pr_E (ev_wm im ml) y cc ret nL pc (10, (pc + 1, (a, (0, (0, []))))) := by
  show ev_i_st cc nL pc (pc + 1) a .astore .astore_n
  exact ⟨Or.inr ⟨n, hd, h, rfl⟩, hl⟩
theorem en_dstore (hd : decode cc pc = .ok (.dstore a, 2)) (hl : a + 1 < nL) : pr_E (ev_wm im ml) y cc ret nL pc (11, (pc + 2, (a, (0, (0, []))))) := by
  exact ⟨hd, rfl, hl⟩
theorem en_iinc {n : Int} (hd : decode cc pc = .ok (.iinc a n, 3)) (h : Int32.ofInt n = nI b) (hl : a < nL) : pr_E (ev_wm im ml) y cc ret nL pc (12, (pc + 3, (a, (b, (0, []))))) := by
  exact ⟨n, hd, h, rfl, hl⟩
theorem en_iadd (hd : decode cc pc = .ok (.iadd, 1)) : pr_E (ev_wm im ml) y cc ret nL pc (13, (pc + 1, (0, (0, (0, []))))) := by
  exact ⟨hd, rfl⟩
theorem en_isub (hd : decode cc pc = .ok (.isub, 1)) : pr_E (ev_wm im ml) y cc ret nL pc (14, (pc + 1, (0, (0, (0, []))))) := by
  exact ⟨hd, rfl⟩
theorem en_imul (hd : decode cc pc = .ok (.imul, 1)) : pr_E (ev_wm im ml) y cc ret nL pc (15, (pc + 1, (0, (0, (0, []))))) := by
  show ev_i_bin cc pc (pc + 1) 0
  exact ⟨Or.inl ⟨rfl, hd⟩, rfl⟩
theorem en_iand (hd : decode cc pc = .ok (.iand, 1)) : pr_E (ev_wm im ml) y cc ret nL pc (15, (pc + 1, (1, (0, (0, []))))) := by
  show ev_i_bin cc pc (pc + 1) 1
  exact ⟨Or.inr (Or.inl ⟨rfl, hd⟩), rfl⟩
theorem en_ior (hd : decode cc pc = .ok (.ior, 1)) : pr_E (ev_wm im ml) y cc ret nL pc (15, (pc + 1, (2, (0, (0, []))))) := by
  show ev_i_bin cc pc (pc + 1) 2
  exact ⟨Or.inr (Or.inr (Or.inl ⟨rfl, hd⟩)), rfl⟩
theorem en_ixor (hd : decode cc pc = .ok (.ixor, 1)) : pr_E (ev_wm im ml) y cc ret nL pc (15, (pc + 1, (3, (0, (0, []))))) := by
  show ev_i_bin cc pc (pc + 1) 3
  exact ⟨Or.inr (Or.inr (Or.inr (Or.inl ⟨rfl, hd⟩))), rfl⟩
theorem en_ishl (hd : decode cc pc = .ok (.ishl, 1)) : pr_E (ev_wm im ml) y cc ret nL pc (15, (pc + 1, (4, (0, (0, []))))) := by
  show ev_i_bin cc pc (pc + 1) 4
  exact ⟨Or.inr (Or.inr (Or.inr (Or.inr (Or.inl ⟨rfl, hd⟩)))), rfl⟩
theorem en_ishr (hd : decode cc pc = .ok (.ishr, 1)) : pr_E (ev_wm im ml) y cc ret nL pc (15, (pc + 1, (5, (0, (0, []))))) := by
  show ev_i_bin cc pc (pc + 1) 5
  exact ⟨Or.inr (Or.inr (Or.inr (Or.inr (Or.inr (Or.inl ⟨rfl, hd⟩))))), rfl⟩
theorem en_iushr (hd : decode cc pc = .ok (.iushr, 1)) : pr_E (ev_wm im ml) y cc ret nL pc (15, (pc + 1, (6, (0, (0, []))))) := by
  show ev_i_bin cc pc (pc + 1) 6
  exact ⟨Or.inr (Or.inr (Or.inr (Or.inr (Or.inr (Or.inr (⟨rfl, hd⟩)))))), rfl⟩
theorem en_ifeq {off : Int} (hd : decode cc pc = .ok (.ifCond .eq off, 3)) (h : (pc : Int) + off = (b : Int)) : pr_E (ev_wm im ml) y cc ret nL pc (16, (pc + 3, (0, (b, (pc + 3, []))))) := by
  show ev_i_if cc pc 0 b (pc + 3) .ifCond
  exact ⟨off, Or.inl (Or.inl ⟨rfl, hd, h, rfl⟩)⟩
theorem en_ifne {off : Int} (hd : decode cc pc = .ok (.ifCond .ne off, 3)) (h : (pc : Int) + off = (c : Int)) : pr_E (ev_wm im ml) y cc ret nL pc (16, (pc + 3, (0, (pc + 3, (c, []))))) := by
  show ev_i_if cc pc 0 (pc + 3) c .ifCond
  exact ⟨off, Or.inl (Or.inr ⟨rfl, hd, h, rfl⟩)⟩
theorem en_iflt {off : Int} (hd : decode cc pc = .ok (.ifCond .lt off, 3)) (h : (pc : Int) + off = (b : Int)) : pr_E (ev_wm im ml) y cc ret nL pc (16, (pc + 3, (1, (b, (pc + 3, []))))) := by
  show ev_i_if cc pc 1 b (pc + 3) .ifCond
  exact ⟨off, Or.inr (Or.inl (Or.inl ⟨rfl, hd, h, rfl⟩))⟩
theorem en_ifge {off : Int} (hd : decode cc pc = .ok (.ifCond .ge off, 3)) (h : (pc : Int) + off = (c : Int)) : pr_E (ev_wm im ml) y cc ret nL pc (16, (pc + 3, (1, (pc + 3, (c, []))))) := by
  show ev_i_if cc pc 1 (pc + 3) c .ifCond
  exact ⟨off, Or.inr (Or.inl (Or.inr ⟨rfl, hd, h, rfl⟩))⟩
theorem en_ifgt {off : Int} (hd : decode cc pc = .ok (.ifCond .gt off, 3)) (h : (pc : Int) + off = (b : Int)) : pr_E (ev_wm im ml) y cc ret nL pc (16, (pc + 3, (2, (b, (pc + 3, []))))) := by
  show ev_i_if cc pc 2 b (pc + 3) .ifCond
  exact ⟨off, Or.inr (Or.inr (Or.inl ⟨rfl, hd, h, rfl⟩))⟩
theorem en_ifle {off : Int} (hd : decode cc pc = .ok (.ifCond .le off, 3)) (h : (pc : Int) + off = (c : Int)) : pr_E (ev_wm im ml) y cc ret nL pc (16, (pc + 3, (2, (pc + 3, (c, []))))) := by
  show ev_i_if cc pc 2 (pc + 3) c .ifCond
  exact ⟨off, Or.inr (Or.inr (Or.inr ⟨rfl, hd, h, rfl⟩))⟩
theorem en_icmpeq {off : Int} (hd : decode cc pc = .ok (.if_icmp .eq off, 3)) (h : (pc : Int) + off = (b : Int)) : pr_E (ev_wm im ml) y cc ret nL pc (17, (pc + 3, (0, (b, (pc + 3, []))))) := by
  show ev_i_if cc pc 0 b (pc + 3) .if_icmp
  exact ⟨off, Or.inl (Or.inl ⟨rfl, hd, h, rfl⟩)⟩
theorem en_icmpne {off : Int} (hd : decode cc pc = .ok (.if_icmp .ne off, 3)) (h : (pc : Int) + off = (c : Int)) : pr_E (ev_wm im ml) y cc ret nL pc (17, (pc + 3, (0, (pc + 3, (c, []))))) := by
  show ev_i_if cc pc 0 (pc + 3) c .if_icmp
  exact ⟨off, Or.inl (Or.inr ⟨rfl, hd, h, rfl⟩)⟩
theorem en_icmplt {off : Int} (hd : decode cc pc = .ok (.if_icmp .lt off, 3)) (h : (pc : Int) + off = (b : Int)) : pr_E (ev_wm im ml) y cc ret nL pc (17, (pc + 3, (1, (b, (pc + 3, []))))) := by
  show ev_i_if cc pc 1 b (pc + 3) .if_icmp
  exact ⟨off, Or.inr (Or.inl (Or.inl ⟨rfl, hd, h, rfl⟩))⟩
theorem en_icmpge {off : Int} (hd : decode cc pc = .ok (.if_icmp .ge off, 3)) (h : (pc : Int) + off = (c : Int)) : pr_E (ev_wm im ml) y cc ret nL pc (17, (pc + 3, (1, (pc + 3, (c, []))))) := by
  show ev_i_if cc pc 1 (pc + 3) c .if_icmp
  exact ⟨off, Or.inr (Or.inl (Or.inr ⟨rfl, hd, h, rfl⟩))⟩
theorem en_icmpgt {off : Int} (hd : decode cc pc = .ok (.if_icmp .gt off, 3)) (h : (pc : Int) + off = (b : Int)) : pr_E (ev_wm im ml) y cc ret nL pc (17, (pc + 3, (2, (b, (pc + 3, []))))) := by
  show ev_i_if cc pc 2 b (pc + 3) .if_icmp
  exact ⟨off, Or.inr (Or.inr (Or.inl ⟨rfl, hd, h, rfl⟩))⟩
theorem en_icmple {off : Int} (hd : decode cc pc = .ok (.if_icmp .le off, 3)) (h : (pc : Int) + off = (c : Int)) : pr_E (ev_wm im ml) y cc ret nL pc (17, (pc + 3, (2, (pc + 3, (c, []))))) := by
  show ev_i_if cc pc 2 (pc + 3) c .if_icmp
  exact ⟨off, Or.inr (Or.inr (Or.inr ⟨rfl, hd, h, rfl⟩))⟩
theorem en_acmpeq {off : Int} (hd : decode cc pc = .ok (.if_acmp .eq off, 3)) (h : (pc : Int) + off = (b : Int)) : pr_E (ev_wm im ml) y cc ret nL pc (18, (pc + 3, (0, (b, (pc + 3, []))))) := by
  show ev_i_acmp cc pc b (pc + 3)
  exact ⟨off, Or.inl ⟨hd, h, rfl⟩⟩
theorem en_acmpne {off : Int} (hd : decode cc pc = .ok (.if_acmp .ne off, 3)) (h : (pc : Int) + off = (c : Int)) : pr_E (ev_wm im ml) y cc ret nL pc (18, (pc + 3, (0, (pc + 3, (c, []))))) := by
  show ev_i_acmp cc pc (pc + 3) c
  exact ⟨off, Or.inr ⟨hd, h, rfl⟩⟩
theorem en_ifnull {off : Int} (hd : decode cc pc = .ok (.ifnull off, 3)) (h : (pc : Int) + off = (b : Int)) : pr_E (ev_wm im ml) y cc ret nL pc (19, (pc + 3, (0, (b, (pc + 3, []))))) := by
  show ev_i_isnull cc pc b (pc + 3)
  exact ⟨off, Or.inl ⟨hd, h, rfl⟩⟩
theorem en_ifnonnull {off : Int} (hd : decode cc pc = .ok (.ifnonnull off, 3)) (h : (pc : Int) + off = (c : Int)) : pr_E (ev_wm im ml) y cc ret nL pc (19, (pc + 3, (0, (pc + 3, (c, []))))) := by
  show ev_i_isnull cc pc (pc + 3) c
  exact ⟨off, Or.inr ⟨hd, h, rfl⟩⟩
theorem en_goto {off : Int} (hd : decode cc pc = .ok (.goto off, 3)) (h : (pc : Int) + off = (nx : Int)) : pr_E (ev_wm im ml) y cc ret nL pc (20, (nx, (0, (0, (0, []))))) := by
  exact ⟨off, hd, h⟩
theorem en_dup (hd : decode cc pc = .ok (.dup, 1)) : pr_E (ev_wm im ml) y cc ret nL pc (21, (pc + 1, (0, (0, (0, []))))) := by
  exact ⟨hd, rfl⟩
theorem en_dup2 (hd : decode cc pc = .ok (.dup2, 1)) : pr_E (ev_wm im ml) y cc ret nL pc (22, (pc + 1, (0, (0, (0, []))))) := by
  exact ⟨hd, rfl⟩
theorem en_pop (hd : decode cc pc = .ok (.pop, 1)) : pr_E (ev_wm im ml) y cc ret nL pc (23, (pc + 1, (0, (0, (0, []))))) := by
  exact ⟨hd, rfl⟩
theorem en_alen (hd : decode cc pc = .ok (.arraylength, 1)) : pr_E (ev_wm im ml) y cc ret nL pc (26, (pc + 1, (0, (0, (0, []))))) := by
  exact ⟨hd, rfl⟩
/-- what the tables give of a class -/
def en_Tm (C : String) (T : u_T) (N : Nat) (ty0 : Nat → FieldType) : Prop := (∀ x ∈ u_ws C T N, x ∈ ev_UW) ∧ (∀ k, k < N → parseFieldDescriptor (T k).2.2.1 = some (ty0 k)) ∧ (∀ x, x < N → ∀ y, y < N → x ≠ y → (T x).2.1 ≠ (T y).2.1)
def en_tc (c : Nat) (t : FieldType) : Prop := (c = 0 ∧ t = .int) ∨ (c = 1 ∧ t = .boolean) ∨ (c = 2 ∧ ((∃ C, t = .object C) ∨ ∃ t9, t = .array t9)) ∨ (c = 3 ∧ t = .long)
theorem en_getf {C : String} {T : u_T} {N ix : Nat} {ty0 : Nat → FieldType} (hT : en_Tm C T N ty0) (hc : vwCl[a]? = some (C, T, N)) (hN : b < N) (hd : decode cc pc = .ok (.getfield ix, 3)) (hf : Cond.fieldLink y.cls ix (T b).1 (T b).2.1 (T b).2.2.1 ∈ ev_UW) : pr_E (ev_wm im ml) y cc ret nL pc (24, (pc + 3, (a, (b, (0, []))))) := by
  show ev_i_getf cc y.cls (ev_wm im ml) pc (pc + 3) a b
  exact ⟨ix, C, T, N, hd, rfl, hc, hN, fun x hx => en_up (hT.1 x hx), Or.inl (en_up hf)⟩
theorem en_getfN {C : String} {T : u_T} {N ix : Nat} {ty0 : Nat → FieldType} (hT : en_Tm C T N ty0) (hc : vwCl[a]? = some (C, T, N)) (hN : b < N) {host : String} (hd : decode cc pc = .ok (.getfield ix, 3)) (hf : Cond.fieldLinkNest y.cls ix (T b).1 (T b).2.1 (T b).2.2.1 host ∈ lw_tbl) : pr_E (ev_wm im ml) y cc ret nL pc (24, (pc + 3, (a, (b, (0, []))))) := by
  show ev_i_getf cc y.cls (ev_wm im ml) pc (pc + 3) a b
  exact ⟨ix, C, T, N, hd, rfl, hc, hN, fun x hx => en_up (hT.1 x hx), Or.inr ⟨host, hf⟩⟩
theorem en_putf {C : String} {T : u_T} {N ix : Nat} {ty0 : Nat → FieldType} (hT : en_Tm C T N ty0) (hc : vwCl[a]? = some (C, T, N)) (hN : b < N) (ht : en_tc c (ty0 b)) (hd : decode cc pc = .ok (.putfield ix, 3)) (hfi : (T b).2.2.2 = false) (hf : Cond.fieldLink y.cls ix (T b).1 (T b).2.1 (T b).2.2.1 ∈ ev_UW) : pr_E (ev_wm im ml) y cc ret nL pc (25, (pc + 3, (a, (b, (c, []))))) := by
  show ev_i_putf cc y.cls y.name (ev_wm im ml) pc (pc + 3) a b c
  exact ⟨ix, C, T, N, ty0, hd, rfl, hc, hN, fun x hx => en_up (hT.1 x hx), hT.2.1, hT.2.2, ht, Or.inl ⟨hfi, Or.inl (en_up hf)⟩⟩
theorem en_putfN {C : String} {T : u_T} {N ix : Nat} {ty0 : Nat → FieldType} (hT : en_Tm C T N ty0) (hc : vwCl[a]? = some (C, T, N)) (hN : b < N) (ht : en_tc c (ty0 b)) (hd : decode cc pc = .ok (.putfield ix, 3)) (hfi : (T b).2.2.2 = false) {host : String} (hf : Cond.fieldLinkNest y.cls ix (T b).1 (T b).2.1 (T b).2.2.1 host ∈ lw_tbl) : pr_E (ev_wm im ml) y cc ret nL pc (25, (pc + 3, (a, (b, (c, []))))) := by
  show ev_i_putf cc y.cls y.name (ev_wm im ml) pc (pc + 3) a b c
  exact ⟨ix, C, T, N, ty0, hd, rfl, hc, hN, fun x hx => en_up (hT.1 x hx), hT.2.1, hT.2.2, ht, Or.inl ⟨hfi, Or.inr ⟨host, hf⟩⟩⟩
theorem en_putfF {C : String} {T : u_T} {N ix : Nat} {ty0 : Nat → FieldType} (hT : en_Tm C T N ty0) (hc : vwCl[a]? = some (C, T, N)) (hN : b < N) (ht : en_tc c (ty0 b)) (hd : decode cc pc = .ok (.putfield ix, 3)) (hfi : (T b).2.2.2 = true) (hm : y.name = "<init>") (ho : (T b).1 = y.cls) (hf : Cond.fieldLink y.cls ix (T b).1 (T b).2.1 (T b).2.2.1 ∈ ev_UW) : pr_E (ev_wm im ml) y cc ret nL pc (25, (pc + 3, (a, (b, (c, []))))) := by
  show ev_i_putf cc y.cls y.name (ev_wm im ml) pc (pc + 3) a b c
  exact ⟨ix, C, T, N, ty0, hd, rfl, hc, hN, fun x hx => en_up (hT.1 x hx), hT.2.1, hT.2.2, ht, Or.inr ⟨hfi, hm, ho, en_up hf⟩⟩
theorem en_iald (hd : decode cc pc = .ok (.iaload, 1)) : pr_E (ev_wm im ml) y cc ret nL pc (27, (pc + 1, (20, (20, (0, []))))) := by
  exact ⟨rfl, rfl, hd, rfl⟩
theorem en_iast (hd : decode cc pc = .ok (.iastore, 1)) : pr_E (ev_wm im ml) y cc ret nL pc (28, (pc + 1, (0, (0, (0, []))))) := by
  exact ⟨hd, rfl⟩
theorem en_bast (hd : decode cc pc = .ok (.bastore, 1)) : pr_E (ev_wm im ml) y cc ret nL pc (30, (pc + 1, (0, (0, (0, []))))) := by
  exact ⟨hd, rfl⟩
theorem en_last (hd : decode cc pc = .ok (.lastore, 1)) : pr_E (ev_wm im ml) y cc ret nL pc (31, (pc + 1, (0, (0, (0, []))))) := by
  exact ⟨hd, rfl⟩
theorem en_aast (hd : decode cc pc = .ok (.aastore, 1)) : pr_E (ev_wm im ml) y cc ret nL pc (32, (pc + 1, (0, (0, (0, []))))) := by
  exact ⟨hd, rfl⟩
theorem en_bald (hd : decode cc pc = .ok (.baload, 1)) : pr_E (ev_wm im ml) y cc ret nL pc (29, (pc + 1, (21, (22, (0, []))))) := by
  show ev_i_ald cc pc (pc + 1) 21 22
  exact ⟨Or.inr (Or.inl ⟨rfl, rfl, hd⟩), rfl⟩
theorem en_lald (hd : decode cc pc = .ok (.laload, 1)) : pr_E (ev_wm im ml) y cc ret nL pc (29, (pc + 1, (23, (23, (0, []))))) := by
  show ev_i_ald cc pc (pc + 1) 23 23
  exact ⟨Or.inr (Or.inr (Or.inl ⟨rfl, rfl, hd⟩)), rfl⟩
theorem en_aald (hd : decode cc pc = .ok (.aaload, 1)) : pr_E (ev_wm im ml) y cc ret nL pc (29, (pc + 1, (24, (25, (0, []))))) := by
  show ev_i_ald cc pc (pc + 1) 24 25
  exact ⟨Or.inr (Or.inr (Or.inr ⟨rfl, rfl, hd⟩)), rfl⟩
theorem en_new {C : String} {T : u_T} {N ix : Nat} {ty0 : Nat → FieldType} (hT : en_Tm C T N ty0) (hc : vwCl[a]? = some (C, T, N)) (hd : decode cc pc = .ok (.new ix, 3)) (h32 : N ≤ 32) (h3 : ∀ k, k < N → ev_dc (ty0 k) < 3) (htg : tg = (List.range N).map (fun k => ev_dc (ty0 k))) (h1 : Cond.classLink y.cls ix C ∈ ev_UW) (h2 : Cond.instantiable C N ∈ ev_UW) (h4 : Cond.initialized C ∈ ev_UW) : pr_E (ev_wm im ml) y cc ret nL pc (33, (pc + 3, (a, (N, (0, tg))))) := by
  show ev_i_new cc y.cls (ev_wm im ml) pc (pc + 3) a N tg
  exact ⟨ix, C, T, N, ty0, hd, rfl, hc, rfl, h32, fun x hx => en_up (hT.1 x hx), hT.2.1, h3, htg, en_up h1, en_up h2, en_up h4⟩
theorem en_newa {at9 : ArrayType} (hd : decode cc pc = .ok (.newarray at9, 2)) (h1 : newarray.typeOf at9 = ev_ty a) (h2 : 20 ≤ a) (h3 : a ≤ 23) (h4 : b = ev_dc (ev_ty a)) (hw : Cond.arrayClass (newarray.typeOf at9) ∈ ev_UW) : pr_E (ev_wm im ml) y cc ret nL pc (34, (pc + 2, (a, (b, (0, []))))) := by
  show ev_i_newa cc y.cls (ev_wm im ml) pc (pc + 2) a b
  exact Or.inl ⟨at9, hd, rfl, h1, h2, h3, h4, en_up hw⟩
theorem en_anewa {ix : Nat} {C : String} (hd : decode cc pc = .ok (.anewarray ix, 3)) (h1 : 24 ≤ a) (h2 : a ≤ 25) (h3 : ev_ty a = .object C) (hw : Cond.classLink y.cls ix C ∈ ev_UW) (hv : Cond.arrayOver (.object C) ∈ lw_tbl) : pr_E (ev_wm im ml) y cc ret nL pc (34, (pc + 3, (a, (1, (0, []))))) := by
  show ev_i_newa cc y.cls (ev_wm im ml) pc (pc + 3) a 1
  exact Or.inr ⟨ix, C, hd, rfl, h1, h2, h3, rfl, en_up hw, hv⟩
/-- what the tables give of a called method i, n arguments, most locals ml9, what it makes at the most -/
def pr_G (i n ml9 mc ms : Nat) : Prop := (pr_P i).1 = ml9 ∧ (pr_P i).2.1 = mc ∧ (pr_P i).2.2.1 = ms ∧ ml9 ≤ 51 ∧ ev_cw (pr_I i) (pr_P i).1 ∈ ev_UW ∧ Cond.initialized (pr_I i).1.cls ∈ ev_UW ∧ ((pr_I i).1.cls ≠ "java/lang/invoke/MethodHandle" ∧ (pr_I i).1.cls ≠ "java/lang/invoke/VarHandle" ∧ (parseMethodDescriptor (pr_I i).1.desc).map (fun d => d.parameters.length) = some n)
def pr_GV (i ci : Nat) : Prop := (∃ rr : vw_C, vwCl[ci]? = some rr ∧ rr.1 = (pr_I i).1.cls) ∧ (pr_I i).2.2.2 = [] ∧ Cond.instanceMethod (pr_I i).1 ∈ ev_UW ∧ Cond.selects (pr_I i).1.cls (pr_I i).1 (pr_I i).1 ∈ ev_UW
def pr_GI (i ci : Nat) : Prop := (∃ rr : vw_C, vwCl[ci]? = some rr) ∧ (pr_I i).2.2.2 = [] ∧ (pr_I i).1.name = "<init>" ∧ (pr_I i).2.2.1 = none ∧ Cond.instanceMethod (pr_I i).1 ∈ ev_UW
theorem en_callV {ix n ml9 mc ms ci : Nat} (hG : pr_G a n ml9 mc ms) (hmb : n + 1 ≤ ml9) (ho : Cond.initialized y.cls ∈ ev_UW) (hV : pr_GV a ci) (hd : decode cc pc = .ok (.invokevirtual ix, 3)) (hl : Cond.methodLink y.cls ix (pr_I a).1 ∈ ev_UW) : pr_E (ev_wm im ml) y cc ret nL pc (35, (pc + 3, (a, (n + 1, (ci + 1, [mc, ms]))))) := by
  show ev_i_call pr_I pr_P cc y.cls pc (pc + 3) a (n + 1) (ci + 1) [mc, ms]
  exact ⟨ix, n, rfl, by rw [hG.2.1, hG.2.2.1], by rw [hG.1]; exact hG.2.2.2.1, by rw [hG.1]; exact hmb, hG.2.2.2.2.1, hG.2.2.2.2.2.1, hG.2.2.2.2.2.2, ho, Or.inl ⟨hd, rfl, ⟨ci, hV.1.choose, rfl, hV.1.choose_spec.1, hV.1.choose_spec.2⟩, hV.2.1, hl, hV.2.2.1, hV.2.2.2⟩⟩
theorem en_callS {ix n ml9 mc ms : Nat} (hG : pr_G a n ml9 mc ms) (hmb : n ≤ ml9) (ho : Cond.initialized y.cls ∈ ev_UW) (hd : decode cc pc = .ok (.invokestatic ix, 3)) (hl : Cond.methodLink y.cls ix (pr_I a).1 ∈ ev_UW) (hs : Cond.static (pr_I a).1 ∈ ev_UW) : pr_E (ev_wm im ml) y cc ret nL pc (35, (pc + 3, (a, (n, (0, [mc, ms]))))) := by
  show ev_i_call pr_I pr_P cc y.cls pc (pc + 3) a n 0 [mc, ms]
  exact ⟨ix, n, rfl, by rw [hG.2.1, hG.2.2.1], by rw [hG.1]; exact hG.2.2.2.1, by rw [hG.1]; exact hmb, hG.2.2.2.2.1, hG.2.2.2.2.2.1, hG.2.2.2.2.2.2, ho, Or.inr (Or.inl ⟨hd, rfl, rfl, hl, hs⟩)⟩
theorem en_callI {ix n ml9 mc ms ci : Nat} (hG : pr_G a n ml9 mc ms) (hmb : n + 1 ≤ ml9) (ho : Cond.initialized y.cls ∈ ev_UW) (hI : pr_GI a ci) (hd : decode cc pc = .ok (.invokespecial ix, 3)) (hl : Cond.methodLink y.cls ix (pr_I a).1 ∈ ev_UW) : pr_E (ev_wm im ml) y cc ret nL pc (35, (pc + 3, (a, (n + 1, (ci + 1, [mc, ms]))))) := by
  show ev_i_call pr_I pr_P cc y.cls pc (pc + 3) a (n + 1) (ci + 1) [mc, ms]
  exact ⟨ix, n, rfl, by rw [hG.2.1, hG.2.2.1], by rw [hG.1]; exact hG.2.2.2.1, by rw [hG.1]; exact hmb, hG.2.2.2.2.1, hG.2.2.2.2.2.1, hG.2.2.2.2.2.2, ho, Or.inr (Or.inr ⟨hd, rfl, ⟨ci, hI.1.choose, rfl, hI.1.choose_spec⟩, hI.2.1, hI.2.2.1, hI.2.2.2.1, hI.2.2.2.2, Or.inl hl⟩)⟩
theorem en_callN {ix n ml9 mc ms ci : Nat} (hG : pr_G a n ml9 mc ms) (hmb : n + 1 ≤ ml9) (ho : Cond.initialized y.cls ∈ ev_UW) {host : String} (hI : pr_GI a ci) (hd : decode cc pc = .ok (.invokespecial ix, 3)) (hl : Cond.methodLinkNest y.cls ix (pr_I a).1 host ∈ lw_tbl) : pr_E (ev_wm im ml) y cc ret nL pc (35, (pc + 3, (a, (n + 1, (ci + 1, [mc, ms]))))) := by
  show ev_i_call pr_I pr_P cc y.cls pc (pc + 3) a (n + 1) (ci + 1) [mc, ms]
  exact ⟨ix, n, rfl, by rw [hG.2.1, hG.2.2.1], by rw [hG.1]; exact hG.2.2.2.1, by rw [hG.1]; exact hmb, hG.2.2.2.2.1, hG.2.2.2.2.2.1, hG.2.2.2.2.2.2, ho, Or.inr (Or.inr ⟨hd, rfl, ⟨ci, hI.1.choose, rfl, hI.1.choose_spec⟩, hI.2.1, hI.2.2.1, hI.2.2.2.1, hI.2.2.2.2, Or.inr ⟨host, hl⟩⟩)⟩
theorem en_objinit {ix : Nat} (hd : decode cc pc = .ok (.invokespecial ix, 3)) (h1 : Cond.methodLink y.cls ix Lib.objectInit ∈ ev_UW) (h2 : Cond.instanceMethod Lib.objectInit ∈ ev_UW) (h3 : Cond.code Lib.objectInit ⟨#[0xb1]⟩ 1 none ∈ ev_UW) : pr_E (ev_wm im ml) y cc ret nL pc (36, (pc + 3, (0, (0, (0, []))))) := by
  show ev_i_objinit cc y.cls (ev_wm im ml) pc (pc + 3)
  exact ⟨ix, hd, rfl, en_up h1, en_up h2, en_up h3⟩
/-- what the tables give of a throw -/
def pr_X (own : String) (ik ic a : Nat) : Prop := Cond.classLink own ik (ev_ex a) ∈ ev_UW ∧ Cond.initialized (ev_ex a) ∈ ev_UW ∧ (∀ x ∈ (ev_xat own ic a).filter goodWord, x ∈ ev_UW) ∧
      (∀ x ∈ (ev_xat own ic a).filter (fun w => !goodWord w), x ∈ lw_tbl ∧ ev_bw x = true ∧ x.onTables = true) ∧
      (∀ x ∈ Cond.classLink own ik (ev_ex a) :: Cond.initialized (ev_ex a) :: ev_xat own ic a, vx_ot x = true)
theorem en_throw {ik is9 ic : Nat} {text : String} (hX : pr_X y.cls ik ic a) (ha : a < 4) (hd : decode cc pc = .ok (.new ik, 3)) (hd2 : decode cc (pc + 3) = .ok (.dup, 1)) (hd3 : decode cc (pc + 4) = .ok (.ldc is9, 2)) (hd4 : decode cc (pc + 6) = .ok (.invokespecial ic, 3)) (hd5 : decode cc (pc + 9) = .ok (.athrow, 1)) (hS : (y.cls, (is9, text)) ∈ pr_S) : pr_E (ev_wm im ml) y cc ret nL pc (37, (0, (a, (0, (0, []))))) := by
  show ev_i_throw cc y.cls (ev_wm im ml) pr_S pc a
  exact ⟨ik, is9, ic, text, ha, hd, hd2, Or.inl ⟨hd3, hd4, hd5⟩, en_up hX.1, en_up hX.2.1, hS, fun x hx => en_up (hX.2.2.1 x hx), hX.2.2.2.1, hX.2.2.2.2⟩
theorem en_throwW {ik is9 ic : Nat} {text : String} (hX : pr_X y.cls ik ic a) (ha : a < 4) (hd : decode cc pc = .ok (.new ik, 3)) (hd2 : decode cc (pc + 3) = .ok (.dup, 1)) (hd3 : decode cc (pc + 4) = .ok (.ldc_w is9, 3)) (hd4 : decode cc (pc + 7) = .ok (.invokespecial ic, 3)) (hd5 : decode cc (pc + 10) = .ok (.athrow, 1)) (hS : (y.cls, (is9, text)) ∈ pr_S) : pr_E (ev_wm im ml) y cc ret nL pc (37, (0, (a, (0, (0, []))))) := by
  show ev_i_throw cc y.cls (ev_wm im ml) pr_S pc a
  exact ⟨ik, is9, ic, text, ha, hd, hd2, Or.inr ⟨hd3, hd4, hd5⟩, en_up hX.1, en_up hX.2.1, hS, fun x hx => en_up (hX.2.2.1 x hx), hX.2.2.2.1, hX.2.2.2.2⟩
theorem en_vret (hd : decode cc pc = .ok (.return_, 1)) (h : ret = none) : pr_E (ev_wm im ml) y cc ret nL pc (38, (nx, (0, (0, (0, []))))) := by
  exact ⟨hd, h⟩
theorem en_iret (hd : decode cc pc = .ok (.ireturn, 1)) (h : ret = some .int) : pr_E (ev_wm im ml) y cc ret nL pc (39, (nx, (0, (0, (0, []))))) := by
  exact ⟨hd, Or.inl ⟨rfl, h⟩⟩
theorem en_zret (hd : decode cc pc = .ok (.ireturn, 1)) (h : ret = some .boolean) : pr_E (ev_wm im ml) y cc ret nL pc (39, (nx, (1, (0, (0, []))))) := by
  exact ⟨hd, Or.inr ⟨rfl, h⟩⟩
theorem en_aretO {C : String} (hd : decode cc pc = .ok (.areturn, 1)) (h : ret = some (.object C)) : pr_E (ev_wm im ml) y cc ret nL pc (40, (nx, (0, (0, (0, []))))) := by
  exact ⟨hd, _, h, Or.inl ⟨C, rfl⟩⟩
theorem en_fret (hd : decode cc pc = .ok (.freturn, 1)) (h : ret = some .float) : pr_E (ev_wm im ml) y cc ret nL pc (41, (nx, (1, (0, (0, []))))) := by
  exact Or.inl ⟨rfl, hd, h⟩
theorem en_dret (hd : decode cc pc = .ok (.dreturn, 1)) (h : ret = some .double) : pr_E (ev_wm im ml) y cc ret nL pc (41, (nx, (2, (0, (0, []))))) := by
  exact Or.inr ⟨rfl, hd, h⟩
def en_tg (pc : Nat) (tg : List Nat) (offs : List Int) : Prop := tg.map (fun (t : Nat) => (t : Int)) = offs.map (fun off => (pc : Int) + off)
theorem en_tg_ok {pc : Nat} {tg : List Nat} {offs : List Int} (h : en_tg pc tg offs) : ∀ (j t : Nat), tg[j]? = some t → ∃ off, offs.toArray[j]? = some off ∧ (pc : Int) + off = (t : Int) := by
  intro j t hj
  have h1 : (tg.map (fun (t : Nat) => (t : Int)))[j]? = some (t : Int) := by rw [List.getElem?_map, hj]; rfl
  unfold en_tg at h
  rw [h, List.getElem?_map] at h1
  cases h2 : offs[j]? with
  | none => rw [h2] at h1; cases h1
  | some off =>
    rw [h2] at h1
    refine ⟨off, ?_, Option.some.inj h1⟩
    rw [List.getElem?_toArray, h2]
theorem en_switch {df lo hi9 : Int} {offs : List Int} {len : Nat} (hd : decode cc pc = .ok (.tableswitch df lo hi9 offs.toArray, len)) (h1 : -2147483648 ≤ lo) (h2 : -2147483648 ≤ hi9) (h3 : a = (lo + 2147483648).toNat) (h4 : b = (hi9 + 2147483648).toNat) (h5 : (pc : Int) + df = (c : Int)) (h6 : en_tg pc tg offs) : pr_E (ev_wm im ml) y cc ret nL pc (42, (nx, (a, (b, (c, tg))))) := by
  show ev_i_switch cc pc a b c tg
  exact ⟨df, lo, hi9, offs.toArray, len, hd, h1, h2, h3, h4, h5, en_tg_ok h6⟩
theorem en_i2l (hd : decode cc pc = .ok (.i2l, 1)) : pr_E (ev_wm im ml) y cc ret nL pc (43, (pc + 1, (0, (0, (0, []))))) := by
  show ev_i_cv cc pc (pc + 1) 0
  exact ⟨Or.inl ⟨rfl, hd⟩, rfl⟩
theorem en_l2i (hd : decode cc pc = .ok (.l2i, 1)) : pr_E (ev_wm im ml) y cc ret nL pc (43, (pc + 1, (1, (0, (0, []))))) := by
  show ev_i_cv cc pc (pc + 1) 1
  exact ⟨Or.inr (Or.inl ⟨rfl, hd⟩), rfl⟩
theorem en_i2d (hd : decode cc pc = .ok (.i2d, 1)) : pr_E (ev_wm im ml) y cc ret nL pc (43, (pc + 1, (2, (0, (0, []))))) := by
  show ev_i_cv cc pc (pc + 1) 2
  exact ⟨Or.inr (Or.inr (Or.inl ⟨rfl, hd⟩)), rfl⟩
theorem en_i2f (hd : decode cc pc = .ok (.i2f, 1)) : pr_E (ev_wm im ml) y cc ret nL pc (43, (pc + 1, (3, (0, (0, []))))) := by
  show ev_i_cv cc pc (pc + 1) 3
  exact ⟨Or.inr (Or.inr (Or.inr (Or.inl ⟨rfl, hd⟩))), rfl⟩
theorem en_f2d (hd : decode cc pc = .ok (.f2d, 1)) : pr_E (ev_wm im ml) y cc ret nL pc (43, (pc + 1, (4, (0, (0, []))))) := by
  show ev_i_cv cc pc (pc + 1) 4
  exact ⟨Or.inr (Or.inr (Or.inr (Or.inr (Or.inl ⟨rfl, hd⟩)))), rfl⟩
theorem en_i2b (hd : decode cc pc = .ok (.i2b, 1)) : pr_E (ev_wm im ml) y cc ret nL pc (43, (pc + 1, (5, (0, (0, []))))) := by
  show ev_i_cv cc pc (pc + 1) 5
  exact ⟨Or.inr (Or.inr (Or.inr (Or.inr (Or.inr (Or.inl ⟨rfl, hd⟩))))), rfl⟩
theorem en_i2c (hd : decode cc pc = .ok (.i2c, 1)) : pr_E (ev_wm im ml) y cc ret nL pc (43, (pc + 1, (6, (0, (0, []))))) := by
  show ev_i_cv cc pc (pc + 1) 6
  exact ⟨Or.inr (Or.inr (Or.inr (Or.inr (Or.inr (Or.inr (⟨rfl, hd⟩)))))), rfl⟩
theorem en_w2_0 (hd : decode cc pc = .ok (.ddiv, 1)) : pr_E (ev_wm im ml) y cc ret nL pc (44, (pc + 1, (0, (0, (0, []))))) := by
  show ev_i_w2 cc y.cls (ev_wm im ml) pc (pc + 1) 0
  exact Or.inl ⟨Or.inl ⟨rfl, hd⟩, rfl⟩
theorem en_w2_1 (hd : decode cc pc = .ok (.fdiv, 1)) : pr_E (ev_wm im ml) y cc ret nL pc (44, (pc + 1, (1, (0, (0, []))))) := by
  show ev_i_w2 cc y.cls (ev_wm im ml) pc (pc + 1) 1
  exact Or.inl ⟨Or.inr (Or.inl ⟨rfl, hd⟩), rfl⟩
theorem en_w2_2 (hd : decode cc pc = .ok (.dcmp .l, 1)) : pr_E (ev_wm im ml) y cc ret nL pc (44, (pc + 1, (2, (0, (0, []))))) := by
  show ev_i_w2 cc y.cls (ev_wm im ml) pc (pc + 1) 2
  exact Or.inl ⟨Or.inr (Or.inr (Or.inl ⟨rfl, hd⟩)), rfl⟩
theorem en_w2_3 (hd : decode cc pc = .ok (.dcmp .g, 1)) : pr_E (ev_wm im ml) y cc ret nL pc (44, (pc + 1, (3, (0, (0, []))))) := by
  show ev_i_w2 cc y.cls (ev_wm im ml) pc (pc + 1) 3
  exact Or.inl ⟨Or.inr (Or.inr (Or.inr (Or.inl ⟨rfl, hd⟩))), rfl⟩
theorem en_w2_4 (hd : decode cc pc = .ok (.lcmp, 1)) : pr_E (ev_wm im ml) y cc ret nL pc (44, (pc + 1, (4, (0, (0, []))))) := by
  show ev_i_w2 cc y.cls (ev_wm im ml) pc (pc + 1) 4
  exact Or.inl ⟨Or.inr (Or.inr (Or.inr (Or.inr (Or.inl ⟨rfl, hd⟩)))), rfl⟩
theorem en_w2_5 (hd : decode cc pc = .ok (.lshr, 1)) : pr_E (ev_wm im ml) y cc ret nL pc (44, (pc + 1, (5, (0, (0, []))))) := by
  show ev_i_w2 cc y.cls (ev_wm im ml) pc (pc + 1) 5
  exact Or.inl ⟨Or.inr (Or.inr (Or.inr (Or.inr (Or.inr (Or.inl ⟨rfl, hd⟩))))), rfl⟩
theorem en_w2_6 (hd : decode cc pc = .ok (.lshl, 1)) : pr_E (ev_wm im ml) y cc ret nL pc (44, (pc + 1, (6, (0, (0, []))))) := by
  show ev_i_w2 cc y.cls (ev_wm im ml) pc (pc + 1) 6
  exact Or.inl ⟨Or.inr (Or.inr (Or.inr (Or.inr (Or.inr (Or.inr (Or.inl ⟨rfl, hd⟩)))))), rfl⟩
theorem en_w2_7 (hd : decode cc pc = .ok (.land, 1)) : pr_E (ev_wm im ml) y cc ret nL pc (44, (pc + 1, (7, (0, (0, []))))) := by
  show ev_i_w2 cc y.cls (ev_wm im ml) pc (pc + 1) 7
  exact Or.inl ⟨Or.inr (Or.inr (Or.inr (Or.inr (Or.inr (Or.inr (Or.inr (Or.inl ⟨rfl, hd⟩))))))), rfl⟩
theorem en_w2_8 (hd : decode cc pc = .ok (.lor, 1)) : pr_E (ev_wm im ml) y cc ret nL pc (44, (pc + 1, (8, (0, (0, []))))) := by
  show ev_i_w2 cc y.cls (ev_wm im ml) pc (pc + 1) 8
  exact Or.inl ⟨Or.inr (Or.inr (Or.inr (Or.inr (Or.inr (Or.inr (Or.inr (Or.inr (⟨rfl, hd⟩)))))))), rfl⟩
theorem en_max {ix : Nat} (hd : decode cc pc = .ok (.invokestatic ix, 3)) (h1 : Cond.methodLink y.cls ix Lib.Math.max.name ∈ ev_UW) (h2 : Cond.static Lib.Math.max.name ∈ ev_UW) (h3 : Cond.initialized "java/lang/Math" ∈ ev_UW) (h4 : Cond.code Lib.Math.max.name Lib.Math.max.code 2 (some .int) ∈ ev_UW) : pr_E (ev_wm im ml) y cc ret nL pc (44, (pc + 3, (9, (0, (0, []))))) := by
  show ev_i_w2 cc y.cls (ev_wm im ml) pc (pc + 3) 9
  exact Or.inr ⟨ix, rfl, hd, rfl, en_up h1, en_up h2, en_up h3, en_up h4⟩
theorem en_copy {ix : Nat} (hd : decode cc pc = .ok (.invokestatic ix, 3)) (h1 : Cond.methodLink y.cls ix arraycopyName ∈ ev_UW) (h2 : Cond.native arraycopyName ∈ ev_UW) (h3 : Cond.static arraycopyName ∈ ev_UW) (h4 : Cond.initialized "java/lang/System" ∈ ev_UW) : pr_E (ev_wm im ml) y cc ret nL pc (45, (pc + 3, (0, (0, (0, []))))) := by
  show ev_i_copy cc y.cls (ev_wm im ml) pc (pc + 3)
  exact ⟨ix, hd, rfl, en_up h1, en_up h2, en_up h3, en_up h4⟩
theorem en_idiv (hd : decode cc pc = .ok (.idiv, 1)) : pr_E (ev_wm im ml) y cc ret nL pc (47, (pc + 1, (0, (0, (0, []))))) := by
  show ev_i_idiv cc pc (pc + 1) 0
  exact ⟨Or.inl ⟨rfl, hd⟩, rfl⟩
theorem en_irem (hd : decode cc pc = .ok (.irem, 1)) : pr_E (ev_wm im ml) y cc ret nL pc (47, (pc + 1, (1, (0, (0, []))))) := by
  show ev_i_idiv cc pc (pc + 1) 1
  exact ⟨Or.inr ⟨rfl, hd⟩, rfl⟩
end ENT
end
