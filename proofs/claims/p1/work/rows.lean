section
-- ===== PART A: goes FIRST, ahead of the names: the tables' words, and 'selects' of the private methods out of them =====
/-- a private method of a class that the tables say can be made, by its rows of tables_1 -/
def lw_okq (q : MethodName × Nat) : Prop := (q.1.cls ≠ "java/lang/invoke/MethodHandle" ∧ q.1.cls ≠ "java/lang/invoke/VarHandle") ∧ Cond.instantiable q.1.cls q.2 ∈ tables_1 ∧ Cond.privateMethod q.1 ∈ tables_1 ∧ Cond.instanceMethod q.1 ∈ tables_1
theorem lw_p0 : lw_okq (⟨"OrphanTree$SetupReader", "advance", "()V"⟩, 11) := ⟨⟨by decide +kernel, by decide +kernel⟩, List.mem_of_getElem? (i := 204) (by decide +kernel), List.mem_of_getElem? (i := 328) (by decide +kernel), List.mem_of_getElem? (i := 329) (by decide +kernel)⟩
theorem lw_p1 : lw_okq (⟨"OrphanTree$SetupReader", "isWord", "(Ljava/lang/String;)Z"⟩, 11) := ⟨⟨by decide +kernel, by decide +kernel⟩, List.mem_of_getElem? (i := 204) (by decide +kernel), List.mem_of_getElem? (i := 343) (by decide +kernel), List.mem_of_getElem? (i := 344) (by decide +kernel)⟩
theorem lw_p2 : lw_okq (⟨"OrphanTree$SetupReader", "takeOrder", "()Z"⟩, 11) := ⟨⟨by decide +kernel, by decide +kernel⟩, List.mem_of_getElem? (i := 204) (by decide +kernel), List.mem_of_getElem? (i := 395) (by decide +kernel), List.mem_of_getElem? (i := 396) (by decide +kernel)⟩
theorem lw_p3 : lw_okq (⟨"OrphanTree$SetupReader", "fail", "(I)Z"⟩, 11) := ⟨⟨by decide +kernel, by decide +kernel⟩, List.mem_of_getElem? (i := 204) (by decide +kernel), List.mem_of_getElem? (i := 399) (by decide +kernel), List.mem_of_getElem? (i := 400) (by decide +kernel)⟩
theorem lw_p4 : lw_okq (⟨"OrphanTree$SetupReader", "ruleOfWord", "()I"⟩, 11) := ⟨⟨by decide +kernel, by decide +kernel⟩, List.mem_of_getElem? (i := 204) (by decide +kernel), List.mem_of_getElem? (i := 404) (by decide +kernel), List.mem_of_getElem? (i := 405) (by decide +kernel)⟩
theorem lw_p5 : lw_okq (⟨"OrphanTree$SetupReader", "takeDeep", "()Z"⟩, 11) := ⟨⟨by decide +kernel, by decide +kernel⟩, List.mem_of_getElem? (i := 204) (by decide +kernel), List.mem_of_getElem? (i := 418) (by decide +kernel), List.mem_of_getElem? (i := 419) (by decide +kernel)⟩
theorem lw_p6 : lw_okq (⟨"OrphanTree$SetupReader", "takeNumber", "(II)Z"⟩, 11) := ⟨⟨by decide +kernel, by decide +kernel⟩, List.mem_of_getElem? (i := 204) (by decide +kernel), List.mem_of_getElem? (i := 422) (by decide +kernel), List.mem_of_getElem? (i := 423) (by decide +kernel)⟩
theorem lw_p7 : lw_okq (⟨"OrphanTree$SetupReader", "takeSemicolon", "()Z"⟩, 11) := ⟨⟨by decide +kernel, by decide +kernel⟩, List.mem_of_getElem? (i := 204) (by decide +kernel), List.mem_of_getElem? (i := 426) (by decide +kernel), List.mem_of_getElem? (i := 427) (by decide +kernel)⟩
theorem lw_p8 : lw_okq (⟨"OrphanTree$SetupReader", "takeRoot", "()Z"⟩, 11) := ⟨⟨by decide +kernel, by decide +kernel⟩, List.mem_of_getElem? (i := 204) (by decide +kernel), List.mem_of_getElem? (i := 431) (by decide +kernel), List.mem_of_getElem? (i := 432) (by decide +kernel)⟩
theorem lw_p9 : lw_okq (⟨"OrphanTree$SetupReader", "takeProcess", "()Z"⟩, 11) := ⟨⟨by decide +kernel, by decide +kernel⟩, List.mem_of_getElem? (i := 204) (by decide +kernel), List.mem_of_getElem? (i := 436) (by decide +kernel), List.mem_of_getElem? (i := 437) (by decide +kernel)⟩
theorem lw_p10 : lw_okq (⟨"OrphanTree$SetupReader", "takeNamed", "(I)LOrphanTree$Proc;"⟩, 11) := ⟨⟨by decide +kernel, by decide +kernel⟩, List.mem_of_getElem? (i := 204) (by decide +kernel), List.mem_of_getElem? (i := 440) (by decide +kernel), List.mem_of_getElem? (i := 441) (by decide +kernel)⟩
theorem lw_p11 : lw_okq (⟨"OrphanTree$SetupReader", "takeHeir", "()Z"⟩, 11) := ⟨⟨by decide +kernel, by decide +kernel⟩, List.mem_of_getElem? (i := 204) (by decide +kernel), List.mem_of_getElem? (i := 461) (by decide +kernel), List.mem_of_getElem? (i := 462) (by decide +kernel)⟩
theorem lw_p12 : lw_okq (⟨"OrphanTree$SetupReader", "takeDuty", "()Z"⟩, 11) := ⟨⟨by decide +kernel, by decide +kernel⟩, List.mem_of_getElem? (i := 204) (by decide +kernel), List.mem_of_getElem? (i := 466) (by decide +kernel), List.mem_of_getElem? (i := 467) (by decide +kernel)⟩
theorem lw_p13 : lw_okq (⟨"OrphanTree$SetupReader", "takeRefusal", "()Z"⟩, 11) := ⟨⟨by decide +kernel, by decide +kernel⟩, List.mem_of_getElem? (i := 204) (by decide +kernel), List.mem_of_getElem? (i := 475) (by decide +kernel), List.mem_of_getElem? (i := 476) (by decide +kernel)⟩
theorem lw_p14 : lw_okq (⟨"OrphanTree$SetupReader", "takeWill", "()Z"⟩, 11) := ⟨⟨by decide +kernel, by decide +kernel⟩, List.mem_of_getElem? (i := 204) (by decide +kernel), List.mem_of_getElem? (i := 484) (by decide +kernel), List.mem_of_getElem? (i := 485) (by decide +kernel)⟩
theorem lw_p15 : lw_okq (⟨"java/lang/Throwable", "fillInStackTrace", "(I)Ljava/lang/Throwable;"⟩, 6) := ⟨⟨by decide +kernel, by decide +kernel⟩, List.mem_of_getElem? (i := 646) (by decide +kernel), List.mem_of_getElem? (i := 644) (by decide +kernel), List.mem_of_getElem? (i := 645) (by decide +kernel)⟩
def lw_privs_1 : List (MethodName × Nat) := [(⟨"OrphanTree$SetupReader", "advance", "()V"⟩, 11), (⟨"OrphanTree$SetupReader", "isWord", "(Ljava/lang/String;)Z"⟩, 11), (⟨"OrphanTree$SetupReader", "takeOrder", "()Z"⟩, 11), (⟨"OrphanTree$SetupReader", "fail", "(I)Z"⟩, 11), (⟨"OrphanTree$SetupReader", "ruleOfWord", "()I"⟩, 11), (⟨"OrphanTree$SetupReader", "takeDeep", "()Z"⟩, 11), (⟨"OrphanTree$SetupReader", "takeNumber", "(II)Z"⟩, 11), (⟨"OrphanTree$SetupReader", "takeSemicolon", "()Z"⟩, 11), (⟨"OrphanTree$SetupReader", "takeRoot", "()Z"⟩, 11), (⟨"OrphanTree$SetupReader", "takeProcess", "()Z"⟩, 11), (⟨"OrphanTree$SetupReader", "takeNamed", "(I)LOrphanTree$Proc;"⟩, 11), (⟨"OrphanTree$SetupReader", "takeHeir", "()Z"⟩, 11), (⟨"OrphanTree$SetupReader", "takeDuty", "()Z"⟩, 11), (⟨"OrphanTree$SetupReader", "takeRefusal", "()Z"⟩, 11), (⟨"OrphanTree$SetupReader", "takeWill", "()Z"⟩, 11), (⟨"java/lang/Throwable", "fillInStackTrace", "(I)Ljava/lang/Throwable;"⟩, 6)]
theorem lw_r1 : ∀ q ∈ lw_privs_1, lw_okq q := List.forall_mem_cons.mpr ⟨lw_p0, List.forall_mem_cons.mpr ⟨lw_p1, List.forall_mem_cons.mpr ⟨lw_p2, List.forall_mem_cons.mpr ⟨lw_p3, List.forall_mem_cons.mpr ⟨lw_p4, List.forall_mem_cons.mpr ⟨lw_p5, List.forall_mem_cons.mpr ⟨lw_p6, List.forall_mem_cons.mpr ⟨lw_p7, List.forall_mem_cons.mpr ⟨lw_p8, List.forall_mem_cons.mpr ⟨lw_p9, List.forall_mem_cons.mpr ⟨lw_p10, List.forall_mem_cons.mpr ⟨lw_p11, List.forall_mem_cons.mpr ⟨lw_p12, List.forall_mem_cons.mpr ⟨lw_p13, List.forall_mem_cons.mpr ⟨lw_p14, List.forall_mem_cons.mpr ⟨lw_p15, fun _ h => absurd h List.not_mem_nil⟩⟩⟩⟩⟩⟩⟩⟩⟩⟩⟩⟩⟩⟩⟩⟩
theorem lw_p16 : lw_okq (⟨"OrphanTree", "named", "(I)LOrphanTree$Proc;"⟩, 7) := ⟨⟨by decide +kernel, by decide +kernel⟩, List.mem_of_getElem? (i := 24) (by decide +kernel), List.mem_of_getElem? (i := 683) (by decide +kernel), List.mem_of_getElem? (i := 684) (by decide +kernel)⟩
theorem lw_p17 : lw_okq (⟨"OrphanTree", "namedForExit", "(II)LOrphanTree$Proc;"⟩, 7) := ⟨⟨by decide +kernel, by decide +kernel⟩, List.mem_of_getElem? (i := 24) (by decide +kernel), List.mem_of_getElem? (i := 852) (by decide +kernel), List.mem_of_getElem? (i := 853) (by decide +kernel)⟩
theorem lw_p18 : lw_okq (⟨"OrphanTree$Tree", "replace", "(LOrphanTree$Proc;LOrphanTree$Proc;)LOrphanTree$Proc;"⟩, 10) := ⟨⟨by decide +kernel, by decide +kernel⟩, List.mem_of_getElem? (i := 32) (by decide +kernel), List.mem_of_getElem? (i := 864) (by decide +kernel), List.mem_of_getElem? (i := 865) (by decide +kernel)⟩
theorem lw_p19 : lw_okq (⟨"OrphanTree$Tree", "passDuties", "(LOrphanTree$Proc;LOrphanTree$Proc;)V"⟩, 10) := ⟨⟨by decide +kernel, by decide +kernel⟩, List.mem_of_getElem? (i := 32) (by decide +kernel), List.mem_of_getElem? (i := 869) (by decide +kernel), List.mem_of_getElem? (i := 870) (by decide +kernel)⟩
theorem lw_p20 : lw_okq (⟨"OrphanTree$Tree", "inheritorOf", "(LOrphanTree$Proc;I)LOrphanTree$Proc;"⟩, 10) := ⟨⟨by decide +kernel, by decide +kernel⟩, List.mem_of_getElem? (i := 32) (by decide +kernel), List.mem_of_getElem? (i := 873) (by decide +kernel), List.mem_of_getElem? (i := 874) (by decide +kernel)⟩
theorem lw_p21 : lw_okq (⟨"OrphanTree$Tree", "nearest", "(LOrphanTree$Proc;LOrphanTree$Proc;)LOrphanTree$Proc;"⟩, 10) := ⟨⟨by decide +kernel, by decide +kernel⟩, List.mem_of_getElem? (i := 32) (by decide +kernel), List.mem_of_getElem? (i := 891) (by decide +kernel), List.mem_of_getElem? (i := 892) (by decide +kernel)⟩
theorem lw_p22 : lw_okq (⟨"OrphanTree$Tree", "roomiestFor", "(LOrphanTree$Proc;LOrphanTree$Proc;Z)LOrphanTree$Proc;"⟩, 10) := ⟨⟨by decide +kernel, by decide +kernel⟩, List.mem_of_getElem? (i := 32) (by decide +kernel), List.mem_of_getElem? (i := 901) (by decide +kernel), List.mem_of_getElem? (i := 902) (by decide +kernel)⟩
theorem lw_p23 : lw_okq (⟨"OrphanTree$Tree", "firstKin", "(LOrphanTree$Proc;LOrphanTree$Proc;)LOrphanTree$Proc;"⟩, 10) := ⟨⟨by decide +kernel, by decide +kernel⟩, List.mem_of_getElem? (i := 32) (by decide +kernel), List.mem_of_getElem? (i := 905) (by decide +kernel), List.mem_of_getElem? (i := 906) (by decide +kernel)⟩
theorem lw_p24 : lw_okq (⟨"OrphanTree$Tree", "oldest", "(LOrphanTree$Proc;LOrphanTree$Proc;)LOrphanTree$Proc;"⟩, 10) := ⟨⟨by decide +kernel, by decide +kernel⟩, List.mem_of_getElem? (i := 32) (by decide +kernel), List.mem_of_getElem? (i := 909) (by decide +kernel), List.mem_of_getElem? (i := 910) (by decide +kernel)⟩
theorem lw_p25 : lw_okq (⟨"OrphanTree$Tree", "adopt", "(LOrphanTree$Proc;LOrphanTree$Proc;)V"⟩, 10) := ⟨⟨by decide +kernel, by decide +kernel⟩, List.mem_of_getElem? (i := 32) (by decide +kernel), List.mem_of_getElem? (i := 913) (by decide +kernel), List.mem_of_getElem? (i := 914) (by decide +kernel)⟩
theorem lw_p26 : lw_okq (⟨"OrphanTree", "exitOfCopy", "(II)I"⟩, 7) := ⟨⟨by decide +kernel, by decide +kernel⟩, List.mem_of_getElem? (i := 24) (by decide +kernel), List.mem_of_getElem? (i := 1028) (by decide +kernel), List.mem_of_getElem? (i := 1029) (by decide +kernel)⟩
theorem lw_p27 : lw_okq (⟨"OrphanTree$Tree", "deepestBelow", "(LOrphanTree$Proc;)LOrphanTree$Proc;"⟩, 10) := ⟨⟨by decide +kernel, by decide +kernel⟩, List.mem_of_getElem? (i := 32) (by decide +kernel), List.mem_of_getElem? (i := 1104) (by decide +kernel), List.mem_of_getElem? (i := 1105) (by decide +kernel)⟩
theorem lw_p28 : lw_okq (⟨"OrphanTree$Output", "putComma", "()V"⟩, 2) := ⟨⟨by decide +kernel, by decide +kernel⟩, List.mem_of_getElem? (i := 266) (by decide +kernel), List.mem_of_getElem? (i := 1238) (by decide +kernel), List.mem_of_getElem? (i := 1239) (by decide +kernel)⟩
theorem lw_p29 : lw_okq (⟨"OrphanTreeModel", "clear", "()V"⟩, 24) := ⟨⟨by decide +kernel, by decide +kernel⟩, List.mem_of_getElem? (i := 1264) (by decide +kernel), List.mem_of_getElem? (i := 1270) (by decide +kernel), List.mem_of_getElem? (i := 1271) (by decide +kernel)⟩
theorem lw_p30 : lw_okq (⟨"OrphanTreeModel", "comes", "(IIII)I"⟩, 24) := ⟨⟨by decide +kernel, by decide +kernel⟩, List.mem_of_getElem? (i := 1264) (by decide +kernel), List.mem_of_getElem? (i := 1274) (by decide +kernel), List.mem_of_getElem? (i := 1275) (by decide +kernel)⟩
theorem lw_p31 : lw_okq (⟨"OrphanTreeModel", "appendWord", "(I)V"⟩, 24) := ⟨⟨by decide +kernel, by decide +kernel⟩, List.mem_of_getElem? (i := 1264) (by decide +kernel), List.mem_of_getElem? (i := 1360) (by decide +kernel), List.mem_of_getElem? (i := 1361) (by decide +kernel)⟩
def lw_privs_2 : List (MethodName × Nat) := [(⟨"OrphanTree", "named", "(I)LOrphanTree$Proc;"⟩, 7), (⟨"OrphanTree", "namedForExit", "(II)LOrphanTree$Proc;"⟩, 7), (⟨"OrphanTree$Tree", "replace", "(LOrphanTree$Proc;LOrphanTree$Proc;)LOrphanTree$Proc;"⟩, 10), (⟨"OrphanTree$Tree", "passDuties", "(LOrphanTree$Proc;LOrphanTree$Proc;)V"⟩, 10), (⟨"OrphanTree$Tree", "inheritorOf", "(LOrphanTree$Proc;I)LOrphanTree$Proc;"⟩, 10), (⟨"OrphanTree$Tree", "nearest", "(LOrphanTree$Proc;LOrphanTree$Proc;)LOrphanTree$Proc;"⟩, 10), (⟨"OrphanTree$Tree", "roomiestFor", "(LOrphanTree$Proc;LOrphanTree$Proc;Z)LOrphanTree$Proc;"⟩, 10), (⟨"OrphanTree$Tree", "firstKin", "(LOrphanTree$Proc;LOrphanTree$Proc;)LOrphanTree$Proc;"⟩, 10), (⟨"OrphanTree$Tree", "oldest", "(LOrphanTree$Proc;LOrphanTree$Proc;)LOrphanTree$Proc;"⟩, 10), (⟨"OrphanTree$Tree", "adopt", "(LOrphanTree$Proc;LOrphanTree$Proc;)V"⟩, 10), (⟨"OrphanTree", "exitOfCopy", "(II)I"⟩, 7), (⟨"OrphanTree$Tree", "deepestBelow", "(LOrphanTree$Proc;)LOrphanTree$Proc;"⟩, 10), (⟨"OrphanTree$Output", "putComma", "()V"⟩, 2), (⟨"OrphanTreeModel", "clear", "()V"⟩, 24), (⟨"OrphanTreeModel", "comes", "(IIII)I"⟩, 24), (⟨"OrphanTreeModel", "appendWord", "(I)V"⟩, 24)]
theorem lw_r2 : ∀ q ∈ lw_privs_2, lw_okq q := List.forall_mem_cons.mpr ⟨lw_p16, List.forall_mem_cons.mpr ⟨lw_p17, List.forall_mem_cons.mpr ⟨lw_p18, List.forall_mem_cons.mpr ⟨lw_p19, List.forall_mem_cons.mpr ⟨lw_p20, List.forall_mem_cons.mpr ⟨lw_p21, List.forall_mem_cons.mpr ⟨lw_p22, List.forall_mem_cons.mpr ⟨lw_p23, List.forall_mem_cons.mpr ⟨lw_p24, List.forall_mem_cons.mpr ⟨lw_p25, List.forall_mem_cons.mpr ⟨lw_p26, List.forall_mem_cons.mpr ⟨lw_p27, List.forall_mem_cons.mpr ⟨lw_p28, List.forall_mem_cons.mpr ⟨lw_p29, List.forall_mem_cons.mpr ⟨lw_p30, List.forall_mem_cons.mpr ⟨lw_p31, fun _ h => absurd h List.not_mem_nil⟩⟩⟩⟩⟩⟩⟩⟩⟩⟩⟩⟩⟩⟩⟩⟩
theorem lw_p32 : lw_okq (⟨"OrphanTreeModel", "advanceToken", "()V"⟩, 24) := ⟨⟨by decide +kernel, by decide +kernel⟩, List.mem_of_getElem? (i := 1264) (by decide +kernel), List.mem_of_getElem? (i := 1378) (by decide +kernel), List.mem_of_getElem? (i := 1379) (by decide +kernel)⟩
theorem lw_p33 : lw_okq (⟨"OrphanTreeModel", "byteAt", "(I)I"⟩, 24) := ⟨⟨by decide +kernel, by decide +kernel⟩, List.mem_of_getElem? (i := 1264) (by decide +kernel), List.mem_of_getElem? (i := 1382) (by decide +kernel), List.mem_of_getElem? (i := 1383) (by decide +kernel)⟩
theorem lw_p34 : lw_okq (⟨"OrphanTreeModel", "readText", "()Z"⟩, 24) := ⟨⟨by decide +kernel, by decide +kernel⟩, List.mem_of_getElem? (i := 1264) (by decide +kernel), List.mem_of_getElem? (i := 1386) (by decide +kernel), List.mem_of_getElem? (i := 1387) (by decide +kernel)⟩
theorem lw_p35 : lw_okq (⟨"OrphanTreeModel", "readStatement", "()Z"⟩, 24) := ⟨⟨by decide +kernel, by decide +kernel⟩, List.mem_of_getElem? (i := 1264) (by decide +kernel), List.mem_of_getElem? (i := 1390) (by decide +kernel), List.mem_of_getElem? (i := 1391) (by decide +kernel)⟩
theorem lw_p36 : lw_okq (⟨"OrphanTreeModel", "isWord", "(Ljava/lang/String;)Z"⟩, 24) := ⟨⟨by decide +kernel, by decide +kernel⟩, List.mem_of_getElem? (i := 1264) (by decide +kernel), List.mem_of_getElem? (i := 1395) (by decide +kernel), List.mem_of_getElem? (i := 1396) (by decide +kernel)⟩
theorem lw_p37 : lw_okq (⟨"OrphanTreeModel", "tokenLength", "()I"⟩, 24) := ⟨⟨by decide +kernel, by decide +kernel⟩, List.mem_of_getElem? (i := 1264) (by decide +kernel), List.mem_of_getElem? (i := 1399) (by decide +kernel), List.mem_of_getElem? (i := 1400) (by decide +kernel)⟩
theorem lw_p38 : lw_okq (⟨"OrphanTreeModel", "readOrder", "()Z"⟩, 24) := ⟨⟨by decide +kernel, by decide +kernel⟩, List.mem_of_getElem? (i := 1264) (by decide +kernel), List.mem_of_getElem? (i := 1405) (by decide +kernel), List.mem_of_getElem? (i := 1406) (by decide +kernel)⟩
theorem lw_p39 : lw_okq (⟨"OrphanTreeModel", "startsOnce", "(I)Z"⟩, 24) := ⟨⟨by decide +kernel, by decide +kernel⟩, List.mem_of_getElem? (i := 1264) (by decide +kernel), List.mem_of_getElem? (i := 1409) (by decide +kernel), List.mem_of_getElem? (i := 1410) (by decide +kernel)⟩
theorem lw_p40 : lw_okq (⟨"OrphanTreeModel", "failsAt", "(I)Z"⟩, 24) := ⟨⟨by decide +kernel, by decide +kernel⟩, List.mem_of_getElem? (i := 1264) (by decide +kernel), List.mem_of_getElem? (i := 1413) (by decide +kernel), List.mem_of_getElem? (i := 1414) (by decide +kernel)⟩
theorem lw_p41 : lw_okq (⟨"OrphanTreeModel", "ruleHere", "()I"⟩, 24) := ⟨⟨by decide +kernel, by decide +kernel⟩, List.mem_of_getElem? (i := 1264) (by decide +kernel), List.mem_of_getElem? (i := 1417) (by decide +kernel), List.mem_of_getElem? (i := 1418) (by decide +kernel)⟩
theorem lw_p42 : lw_okq (⟨"OrphanTreeModel", "readDeep", "()Z"⟩, 24) := ⟨⟨by decide +kernel, by decide +kernel⟩, List.mem_of_getElem? (i := 1264) (by decide +kernel), List.mem_of_getElem? (i := 1427) (by decide +kernel), List.mem_of_getElem? (i := 1428) (by decide +kernel)⟩
theorem lw_p43 : lw_okq (⟨"OrphanTreeModel", "takes", "(III)Z"⟩, 24) := ⟨⟨by decide +kernel, by decide +kernel⟩, List.mem_of_getElem? (i := 1264) (by decide +kernel), List.mem_of_getElem? (i := 1431) (by decide +kernel), List.mem_of_getElem? (i := 1432) (by decide +kernel)⟩
theorem lw_p44 : lw_okq (⟨"OrphanTreeModel", "isNumber", "(II)Z"⟩, 24) := ⟨⟨by decide +kernel, by decide +kernel⟩, List.mem_of_getElem? (i := 1264) (by decide +kernel), List.mem_of_getElem? (i := 1435) (by decide +kernel), List.mem_of_getElem? (i := 1436) (by decide +kernel)⟩
theorem lw_p45 : lw_okq (⟨"OrphanTreeModel", "readRoot", "()Z"⟩, 24) := ⟨⟨by decide +kernel, by decide +kernel⟩, List.mem_of_getElem? (i := 1264) (by decide +kernel), List.mem_of_getElem? (i := 1440) (by decide +kernel), List.mem_of_getElem? (i := 1441) (by decide +kernel)⟩
theorem lw_p46 : lw_okq (⟨"OrphanTreeModel", "readWill", "()Z"⟩, 24) := ⟨⟨by decide +kernel, by decide +kernel⟩, List.mem_of_getElem? (i := 1264) (by decide +kernel), List.mem_of_getElem? (i := 1445) (by decide +kernel), List.mem_of_getElem? (i := 1446) (by decide +kernel)⟩
theorem lw_p47 : lw_okq (⟨"OrphanTreeModel", "readProcess", "()Z"⟩, 24) := ⟨⟨by decide +kernel, by decide +kernel⟩, List.mem_of_getElem? (i := 1264) (by decide +kernel), List.mem_of_getElem? (i := 1450) (by decide +kernel), List.mem_of_getElem? (i := 1451) (by decide +kernel)⟩
def lw_privs_3 : List (MethodName × Nat) := [(⟨"OrphanTreeModel", "advanceToken", "()V"⟩, 24), (⟨"OrphanTreeModel", "byteAt", "(I)I"⟩, 24), (⟨"OrphanTreeModel", "readText", "()Z"⟩, 24), (⟨"OrphanTreeModel", "readStatement", "()Z"⟩, 24), (⟨"OrphanTreeModel", "isWord", "(Ljava/lang/String;)Z"⟩, 24), (⟨"OrphanTreeModel", "tokenLength", "()I"⟩, 24), (⟨"OrphanTreeModel", "readOrder", "()Z"⟩, 24), (⟨"OrphanTreeModel", "startsOnce", "(I)Z"⟩, 24), (⟨"OrphanTreeModel", "failsAt", "(I)Z"⟩, 24), (⟨"OrphanTreeModel", "ruleHere", "()I"⟩, 24), (⟨"OrphanTreeModel", "readDeep", "()Z"⟩, 24), (⟨"OrphanTreeModel", "takes", "(III)Z"⟩, 24), (⟨"OrphanTreeModel", "isNumber", "(II)Z"⟩, 24), (⟨"OrphanTreeModel", "readRoot", "()Z"⟩, 24), (⟨"OrphanTreeModel", "readWill", "()Z"⟩, 24), (⟨"OrphanTreeModel", "readProcess", "()Z"⟩, 24)]
theorem lw_r3 : ∀ q ∈ lw_privs_3, lw_okq q := List.forall_mem_cons.mpr ⟨lw_p32, List.forall_mem_cons.mpr ⟨lw_p33, List.forall_mem_cons.mpr ⟨lw_p34, List.forall_mem_cons.mpr ⟨lw_p35, List.forall_mem_cons.mpr ⟨lw_p36, List.forall_mem_cons.mpr ⟨lw_p37, List.forall_mem_cons.mpr ⟨lw_p38, List.forall_mem_cons.mpr ⟨lw_p39, List.forall_mem_cons.mpr ⟨lw_p40, List.forall_mem_cons.mpr ⟨lw_p41, List.forall_mem_cons.mpr ⟨lw_p42, List.forall_mem_cons.mpr ⟨lw_p43, List.forall_mem_cons.mpr ⟨lw_p44, List.forall_mem_cons.mpr ⟨lw_p45, List.forall_mem_cons.mpr ⟨lw_p46, List.forall_mem_cons.mpr ⟨lw_p47, fun _ h => absurd h List.not_mem_nil⟩⟩⟩⟩⟩⟩⟩⟩⟩⟩⟩⟩⟩⟩⟩⟩
theorem lw_p48 : lw_okq (⟨"OrphanTreeModel", "roomOf", "(I)I"⟩, 24) := ⟨⟨by decide +kernel, by decide +kernel⟩, List.mem_of_getElem? (i := 1264) (by decide +kernel), List.mem_of_getElem? (i := 1454) (by decide +kernel), List.mem_of_getElem? (i := 1455) (by decide +kernel)⟩
theorem lw_p49 : lw_okq (⟨"OrphanTreeModel", "runs", "(I)Z"⟩, 24) := ⟨⟨by decide +kernel, by decide +kernel⟩, List.mem_of_getElem? (i := 1264) (by decide +kernel), List.mem_of_getElem? (i := 1458) (by decide +kernel), List.mem_of_getElem? (i := 1459) (by decide +kernel)⟩
theorem lw_p50 : lw_okq (⟨"OrphanTreeModel", "childrenOf", "(II)I"⟩, 24) := ⟨⟨by decide +kernel, by decide +kernel⟩, List.mem_of_getElem? (i := 1264) (by decide +kernel), List.mem_of_getElem? (i := 1462) (by decide +kernel), List.mem_of_getElem? (i := 1463) (by decide +kernel)⟩
theorem lw_p51 : lw_okq (⟨"OrphanTreeModel", "isChild", "(III)Z"⟩, 24) := ⟨⟨by decide +kernel, by decide +kernel⟩, List.mem_of_getElem? (i := 1264) (by decide +kernel), List.mem_of_getElem? (i := 1466) (by decide +kernel), List.mem_of_getElem? (i := 1467) (by decide +kernel)⟩
theorem lw_p52 : lw_okq (⟨"OrphanTreeModel", "readHeir", "()Z"⟩, 24) := ⟨⟨by decide +kernel, by decide +kernel⟩, List.mem_of_getElem? (i := 1264) (by decide +kernel), List.mem_of_getElem? (i := 1474) (by decide +kernel), List.mem_of_getElem? (i := 1475) (by decide +kernel)⟩
theorem lw_p53 : lw_okq (⟨"OrphanTreeModel", "readDuty", "()Z"⟩, 24) := ⟨⟨by decide +kernel, by decide +kernel⟩, List.mem_of_getElem? (i := 1264) (by decide +kernel), List.mem_of_getElem? (i := 1479) (by decide +kernel), List.mem_of_getElem? (i := 1480) (by decide +kernel)⟩
theorem lw_p54 : lw_okq (⟨"OrphanTreeModel", "readRefusal", "()Z"⟩, 24) := ⟨⟨by decide +kernel, by decide +kernel⟩, List.mem_of_getElem? (i := 1264) (by decide +kernel), List.mem_of_getElem? (i := 1484) (by decide +kernel), List.mem_of_getElem? (i := 1485) (by decide +kernel)⟩
theorem lw_p55 : lw_okq (⟨"OrphanTreeModel", "refusesGroup", "(II)Z"⟩, 24) := ⟨⟨by decide +kernel, by decide +kernel⟩, List.mem_of_getElem? (i := 1264) (by decide +kernel), List.mem_of_getElem? (i := 1488) (by decide +kernel), List.mem_of_getElem? (i := 1489) (by decide +kernel)⟩
theorem lw_p56 : lw_okq (⟨"OrphanTreeModel", "fails", "(ZI)Z"⟩, 24) := ⟨⟨by decide +kernel, by decide +kernel⟩, List.mem_of_getElem? (i := 1264) (by decide +kernel), List.mem_of_getElem? (i := 1504) (by decide +kernel), List.mem_of_getElem? (i := 1505) (by decide +kernel)⟩
theorem lw_p57 : lw_okq (⟨"OrphanTreeModel", "inState", "(I)I"⟩, 24) := ⟨⟨by decide +kernel, by decide +kernel⟩, List.mem_of_getElem? (i := 1264) (by decide +kernel), List.mem_of_getElem? (i := 1508) (by decide +kernel), List.mem_of_getElem? (i := 1509) (by decide +kernel)⟩
theorem lw_p58 : lw_okq (⟨"OrphanTreeModel", "dutiesOf", "(I)I"⟩, 24) := ⟨⟨by decide +kernel, by decide +kernel⟩, List.mem_of_getElem? (i := 1264) (by decide +kernel), List.mem_of_getElem? (i := 1512) (by decide +kernel), List.mem_of_getElem? (i := 1513) (by decide +kernel)⟩
theorem lw_p59 : lw_okq (⟨"OrphanTreeModel", "noProcess", "(I)Z"⟩, 24) := ⟨⟨by decide +kernel, by decide +kernel⟩, List.mem_of_getElem? (i := 1264) (by decide +kernel), List.mem_of_getElem? (i := 1521) (by decide +kernel), List.mem_of_getElem? (i := 1522) (by decide +kernel)⟩
theorem lw_p60 : lw_okq (⟨"OrphanTreeModel", "willsOf", "(I)I"⟩, 24) := ⟨⟨by decide +kernel, by decide +kernel⟩, List.mem_of_getElem? (i := 1264) (by decide +kernel), List.mem_of_getElem? (i := 1525) (by decide +kernel), List.mem_of_getElem? (i := 1526) (by decide +kernel)⟩
theorem lw_p61 : lw_okq (⟨"OrphanTreeModel", "noDuty", "(II)Z"⟩, 24) := ⟨⟨by decide +kernel, by decide +kernel⟩, List.mem_of_getElem? (i := 1264) (by decide +kernel), List.mem_of_getElem? (i := 1533) (by decide +kernel), List.mem_of_getElem? (i := 1534) (by decide +kernel)⟩
theorem lw_p62 : lw_okq (⟨"OrphanTreeModel", "isGone", "(I)Z"⟩, 24) := ⟨⟨by decide +kernel, by decide +kernel⟩, List.mem_of_getElem? (i := 1264) (by decide +kernel), List.mem_of_getElem? (i := 1545) (by decide +kernel), List.mem_of_getElem? (i := 1546) (by decide +kernel)⟩
theorem lw_p63 : lw_okq (⟨"OrphanTreeModel", "deep", "(I)I"⟩, 24) := ⟨⟨by decide +kernel, by decide +kernel⟩, List.mem_of_getElem? (i := 1264) (by decide +kernel), List.mem_of_getElem? (i := 1549) (by decide +kernel), List.mem_of_getElem? (i := 1550) (by decide +kernel)⟩
def lw_privs_4 : List (MethodName × Nat) := [(⟨"OrphanTreeModel", "roomOf", "(I)I"⟩, 24), (⟨"OrphanTreeModel", "runs", "(I)Z"⟩, 24), (⟨"OrphanTreeModel", "childrenOf", "(II)I"⟩, 24), (⟨"OrphanTreeModel", "isChild", "(III)Z"⟩, 24), (⟨"OrphanTreeModel", "readHeir", "()Z"⟩, 24), (⟨"OrphanTreeModel", "readDuty", "()Z"⟩, 24), (⟨"OrphanTreeModel", "readRefusal", "()Z"⟩, 24), (⟨"OrphanTreeModel", "refusesGroup", "(II)Z"⟩, 24), (⟨"OrphanTreeModel", "fails", "(ZI)Z"⟩, 24), (⟨"OrphanTreeModel", "inState", "(I)I"⟩, 24), (⟨"OrphanTreeModel", "dutiesOf", "(I)I"⟩, 24), (⟨"OrphanTreeModel", "noProcess", "(I)Z"⟩, 24), (⟨"OrphanTreeModel", "willsOf", "(I)I"⟩, 24), (⟨"OrphanTreeModel", "noDuty", "(II)Z"⟩, 24), (⟨"OrphanTreeModel", "isGone", "(I)Z"⟩, 24), (⟨"OrphanTreeModel", "deep", "(I)I"⟩, 24)]
theorem lw_r4 : ∀ q ∈ lw_privs_4, lw_okq q := List.forall_mem_cons.mpr ⟨lw_p48, List.forall_mem_cons.mpr ⟨lw_p49, List.forall_mem_cons.mpr ⟨lw_p50, List.forall_mem_cons.mpr ⟨lw_p51, List.forall_mem_cons.mpr ⟨lw_p52, List.forall_mem_cons.mpr ⟨lw_p53, List.forall_mem_cons.mpr ⟨lw_p54, List.forall_mem_cons.mpr ⟨lw_p55, List.forall_mem_cons.mpr ⟨lw_p56, List.forall_mem_cons.mpr ⟨lw_p57, List.forall_mem_cons.mpr ⟨lw_p58, List.forall_mem_cons.mpr ⟨lw_p59, List.forall_mem_cons.mpr ⟨lw_p60, List.forall_mem_cons.mpr ⟨lw_p61, List.forall_mem_cons.mpr ⟨lw_p62, List.forall_mem_cons.mpr ⟨lw_p63, fun _ h => absurd h List.not_mem_nil⟩⟩⟩⟩⟩⟩⟩⟩⟩⟩⟩⟩⟩⟩⟩⟩
theorem lw_p64 : lw_okq (⟨"OrphanTreeModel", "isOver", "(II)Z"⟩, 24) := ⟨⟨by decide +kernel, by decide +kernel⟩, List.mem_of_getElem? (i := 1264) (by decide +kernel), List.mem_of_getElem? (i := 1557) (by decide +kernel), List.mem_of_getElem? (i := 1558) (by decide +kernel)⟩
theorem lw_p65 : lw_okq (⟨"OrphanTreeModel", "anyGone", "(II)Z"⟩, 24) := ⟨⟨by decide +kernel, by decide +kernel⟩, List.mem_of_getElem? (i := 1264) (by decide +kernel), List.mem_of_getElem? (i := 1565) (by decide +kernel), List.mem_of_getElem? (i := 1566) (by decide +kernel)⟩
theorem lw_p66 : lw_okq (⟨"OrphanTreeModel", "meets", "(II)I"⟩, 24) := ⟨⟨by decide +kernel, by decide +kernel⟩, List.mem_of_getElem? (i := 1264) (by decide +kernel), List.mem_of_getElem? (i := 1569) (by decide +kernel), List.mem_of_getElem? (i := 1570) (by decide +kernel)⟩
theorem lw_p67 : lw_okq (⟨"OrphanTreeModel", "belowOf", "(I)I"⟩, 24) := ⟨⟨by decide +kernel, by decide +kernel⟩, List.mem_of_getElem? (i := 1264) (by decide +kernel), List.mem_of_getElem? (i := 1581) (by decide +kernel), List.mem_of_getElem? (i := 1582) (by decide +kernel)⟩
theorem lw_p68 : lw_okq (⟨"OrphanTreeModel", "runningMany", "()I"⟩, 24) := ⟨⟨by decide +kernel, by decide +kernel⟩, List.mem_of_getElem? (i := 1264) (by decide +kernel), List.mem_of_getElem? (i := 1589) (by decide +kernel), List.mem_of_getElem? (i := 1590) (by decide +kernel)⟩
theorem lw_p69 : lw_okq (⟨"OrphanTreeModel", "walkOn", "(I)I"⟩, 24) := ⟨⟨by decide +kernel, by decide +kernel⟩, List.mem_of_getElem? (i := 1264) (by decide +kernel), List.mem_of_getElem? (i := 1593) (by decide +kernel), List.mem_of_getElem? (i := 1594) (by decide +kernel)⟩
theorem lw_p70 : lw_okq (⟨"OrphanTreeModel", "nextChild", "(II)I"⟩, 24) := ⟨⟨by decide +kernel, by decide +kernel⟩, List.mem_of_getElem? (i := 1264) (by decide +kernel), List.mem_of_getElem? (i := 1597) (by decide +kernel), List.mem_of_getElem? (i := 1598) (by decide +kernel)⟩
theorem lw_p71 : lw_okq (⟨"OrphanTreeModel", "highest", "()I"⟩, 24) := ⟨⟨by decide +kernel, by decide +kernel⟩, List.mem_of_getElem? (i := 1264) (by decide +kernel), List.mem_of_getElem? (i := 1609) (by decide +kernel), List.mem_of_getElem? (i := 1610) (by decide +kernel)⟩
theorem lw_p72 : lw_okq (⟨"OrphanTreeModel", "remembers", "()V"⟩, 24) := ⟨⟨by decide +kernel, by decide +kernel⟩, List.mem_of_getElem? (i := 1264) (by decide +kernel), List.mem_of_getElem? (i := 1620) (by decide +kernel), List.mem_of_getElem? (i := 1621) (by decide +kernel)⟩
theorem lw_p73 : lw_okq (⟨"OrphanTreeModel", "noExit", "(II)Z"⟩, 24) := ⟨⟨by decide +kernel, by decide +kernel⟩, List.mem_of_getElem? (i := 1264) (by decide +kernel), List.mem_of_getElem? (i := 1628) (by decide +kernel), List.mem_of_getElem? (i := 1629) (by decide +kernel)⟩
theorem lw_p74 : lw_okq (⟨"OrphanTreeModel", "exits", "(II)I"⟩, 24) := ⟨⟨by decide +kernel, by decide +kernel⟩, List.mem_of_getElem? (i := 1264) (by decide +kernel), List.mem_of_getElem? (i := 1632) (by decide +kernel), List.mem_of_getElem? (i := 1633) (by decide +kernel)⟩
theorem lw_p75 : lw_okq (⟨"OrphanTreeModel", "replaces", "(II)I"⟩, 24) := ⟨⟨by decide +kernel, by decide +kernel⟩, List.mem_of_getElem? (i := 1264) (by decide +kernel), List.mem_of_getElem? (i := 1636) (by decide +kernel), List.mem_of_getElem? (i := 1637) (by decide +kernel)⟩
theorem lw_p76 : lw_okq (⟨"OrphanTreeModel", "heirOf", "(II)I"⟩, 24) := ⟨⟨by decide +kernel, by decide +kernel⟩, List.mem_of_getElem? (i := 1264) (by decide +kernel), List.mem_of_getElem? (i := 1640) (by decide +kernel), List.mem_of_getElem? (i := 1641) (by decide +kernel)⟩
theorem lw_p77 : lw_okq (⟨"OrphanTreeModel", "inheritor", "(I)I"⟩, 24) := ⟨⟨by decide +kernel, by decide +kernel⟩, List.mem_of_getElem? (i := 1264) (by decide +kernel), List.mem_of_getElem? (i := 1644) (by decide +kernel), List.mem_of_getElem? (i := 1645) (by decide +kernel)⟩
theorem lw_p78 : lw_okq (⟨"OrphanTreeModel", "adopterOf", "(II)I"⟩, 24) := ⟨⟨by decide +kernel, by decide +kernel⟩, List.mem_of_getElem? (i := 1264) (by decide +kernel), List.mem_of_getElem? (i := 1648) (by decide +kernel), List.mem_of_getElem? (i := 1649) (by decide +kernel)⟩
theorem lw_p79 : lw_okq (⟨"OrphanTreeModel", "findsBy", "(III)I"⟩, 24) := ⟨⟨by decide +kernel, by decide +kernel⟩, List.mem_of_getElem? (i := 1264) (by decide +kernel), List.mem_of_getElem? (i := 1652) (by decide +kernel), List.mem_of_getElem? (i := 1653) (by decide +kernel)⟩
def lw_privs_5 : List (MethodName × Nat) := [(⟨"OrphanTreeModel", "isOver", "(II)Z"⟩, 24), (⟨"OrphanTreeModel", "anyGone", "(II)Z"⟩, 24), (⟨"OrphanTreeModel", "meets", "(II)I"⟩, 24), (⟨"OrphanTreeModel", "belowOf", "(I)I"⟩, 24), (⟨"OrphanTreeModel", "runningMany", "()I"⟩, 24), (⟨"OrphanTreeModel", "walkOn", "(I)I"⟩, 24), (⟨"OrphanTreeModel", "nextChild", "(II)I"⟩, 24), (⟨"OrphanTreeModel", "highest", "()I"⟩, 24), (⟨"OrphanTreeModel", "remembers", "()V"⟩, 24), (⟨"OrphanTreeModel", "noExit", "(II)Z"⟩, 24), (⟨"OrphanTreeModel", "exits", "(II)I"⟩, 24), (⟨"OrphanTreeModel", "replaces", "(II)I"⟩, 24), (⟨"OrphanTreeModel", "heirOf", "(II)I"⟩, 24), (⟨"OrphanTreeModel", "inheritor", "(I)I"⟩, 24), (⟨"OrphanTreeModel", "adopterOf", "(II)I"⟩, 24), (⟨"OrphanTreeModel", "findsBy", "(III)I"⟩, 24)]
theorem lw_r5 : ∀ q ∈ lw_privs_5, lw_okq q := List.forall_mem_cons.mpr ⟨lw_p64, List.forall_mem_cons.mpr ⟨lw_p65, List.forall_mem_cons.mpr ⟨lw_p66, List.forall_mem_cons.mpr ⟨lw_p67, List.forall_mem_cons.mpr ⟨lw_p68, List.forall_mem_cons.mpr ⟨lw_p69, List.forall_mem_cons.mpr ⟨lw_p70, List.forall_mem_cons.mpr ⟨lw_p71, List.forall_mem_cons.mpr ⟨lw_p72, List.forall_mem_cons.mpr ⟨lw_p73, List.forall_mem_cons.mpr ⟨lw_p74, List.forall_mem_cons.mpr ⟨lw_p75, List.forall_mem_cons.mpr ⟨lw_p76, List.forall_mem_cons.mpr ⟨lw_p77, List.forall_mem_cons.mpr ⟨lw_p78, List.forall_mem_cons.mpr ⟨lw_p79, fun _ h => absurd h List.not_mem_nil⟩⟩⟩⟩⟩⟩⟩⟩⟩⟩⟩⟩⟩⟩⟩⟩
theorem lw_p80 : lw_okq (⟨"OrphanTreeModel", "nearest", "(II)I"⟩, 24) := ⟨⟨by decide +kernel, by decide +kernel⟩, List.mem_of_getElem? (i := 1264) (by decide +kernel), List.mem_of_getElem? (i := 1656) (by decide +kernel), List.mem_of_getElem? (i := 1657) (by decide +kernel)⟩
theorem lw_p81 : lw_okq (⟨"OrphanTreeModel", "canAdopt", "(II)Z"⟩, 24) := ⟨⟨by decide +kernel, by decide +kernel⟩, List.mem_of_getElem? (i := 1264) (by decide +kernel), List.mem_of_getElem? (i := 1660) (by decide +kernel), List.mem_of_getElem? (i := 1661) (by decide +kernel)⟩
theorem lw_p82 : lw_okq (⟨"OrphanTreeModel", "roomiestFor", "(IIZ)I"⟩, 24) := ⟨⟨by decide +kernel, by decide +kernel⟩, List.mem_of_getElem? (i := 1264) (by decide +kernel), List.mem_of_getElem? (i := 1664) (by decide +kernel), List.mem_of_getElem? (i := 1665) (by decide +kernel)⟩
theorem lw_p83 : lw_okq (⟨"OrphanTreeModel", "kinOf", "(II)I"⟩, 24) := ⟨⟨by decide +kernel, by decide +kernel⟩, List.mem_of_getElem? (i := 1264) (by decide +kernel), List.mem_of_getElem? (i := 1668) (by decide +kernel), List.mem_of_getElem? (i := 1669) (by decide +kernel)⟩
theorem lw_p84 : lw_okq (⟨"OrphanTreeModel", "oldest", "(II)I"⟩, 24) := ⟨⟨by decide +kernel, by decide +kernel⟩, List.mem_of_getElem? (i := 1264) (by decide +kernel), List.mem_of_getElem? (i := 1672) (by decide +kernel), List.mem_of_getElem? (i := 1673) (by decide +kernel)⟩
theorem lw_p85 : lw_okq (⟨"OrphanTreeModel", "adopts", "(II)V"⟩, 24) := ⟨⟨by decide +kernel, by decide +kernel⟩, List.mem_of_getElem? (i := 1264) (by decide +kernel), List.mem_of_getElem? (i := 1676) (by decide +kernel), List.mem_of_getElem? (i := 1677) (by decide +kernel)⟩
theorem lw_p86 : lw_okq (⟨"OrphanTreeModel", "readsAll", "(I)I"⟩, 24) := ⟨⟨by decide +kernel, by decide +kernel⟩, List.mem_of_getElem? (i := 1264) (by decide +kernel), List.mem_of_getElem? (i := 1680) (by decide +kernel), List.mem_of_getElem? (i := 1681) (by decide +kernel)⟩
theorem lw_p87 : lw_okq (⟨"OrphanTreeModel", "firstZombie", "(I)I"⟩, 24) := ⟨⟨by decide +kernel, by decide +kernel⟩, List.mem_of_getElem? (i := 1264) (by decide +kernel), List.mem_of_getElem? (i := 1684) (by decide +kernel), List.mem_of_getElem? (i := 1685) (by decide +kernel)⟩
theorem lw_p88 : lw_okq (⟨"OrphanTreeModel", "noKill", "(II)Z"⟩, 24) := ⟨⟨by decide +kernel, by decide +kernel⟩, List.mem_of_getElem? (i := 1264) (by decide +kernel), List.mem_of_getElem? (i := 1692) (by decide +kernel), List.mem_of_getElem? (i := 1693) (by decide +kernel)⟩
theorem lw_p89 : lw_okq (⟨"OrphanTreeModel", "kills", "(II)I"⟩, 24) := ⟨⟨by decide +kernel, by decide +kernel⟩, List.mem_of_getElem? (i := 1264) (by decide +kernel), List.mem_of_getElem? (i := 1696) (by decide +kernel), List.mem_of_getElem? (i := 1697) (by decide +kernel)⟩
theorem lw_p90 : lw_okq (⟨"OrphanTreeModel", "notRunning", "(II)Z"⟩, 24) := ⟨⟨by decide +kernel, by decide +kernel⟩, List.mem_of_getElem? (i := 1264) (by decide +kernel), List.mem_of_getElem? (i := 1704) (by decide +kernel), List.mem_of_getElem? (i := 1705) (by decide +kernel)⟩
theorem lw_p91 : lw_okq (⟨"OrphanTreeModel", "sets", "(III)I"⟩, 24) := ⟨⟨by decide +kernel, by decide +kernel⟩, List.mem_of_getElem? (i := 1264) (by decide +kernel), List.mem_of_getElem? (i := 1728) (by decide +kernel), List.mem_of_getElem? (i := 1729) (by decide +kernel)⟩
theorem lw_p92 : lw_okq (⟨"OrphanTreeModel", "lowestBelow", "(I)I"⟩, 24) := ⟨⟨by decide +kernel, by decide +kernel⟩, List.mem_of_getElem? (i := 1264) (by decide +kernel), List.mem_of_getElem? (i := 1748) (by decide +kernel), List.mem_of_getElem? (i := 1749) (by decide +kernel)⟩
theorem lw_p93 : lw_okq (⟨"OrphanTreeModel", "notExiting", "(II)Z"⟩, 24) := ⟨⟨by decide +kernel, by decide +kernel⟩, List.mem_of_getElem? (i := 1264) (by decide +kernel), List.mem_of_getElem? (i := 1760) (by decide +kernel), List.mem_of_getElem? (i := 1761) (by decide +kernel)⟩
theorem lw_p94 : lw_okq (⟨"OrphanTreeModel", "fallsBy", "(II)I"⟩, 24) := ⟨⟨by decide +kernel, by decide +kernel⟩, List.mem_of_getElem? (i := 1264) (by decide +kernel), List.mem_of_getElem? (i := 1780) (by decide +kernel), List.mem_of_getElem? (i := 1781) (by decide +kernel)⟩
theorem lw_p95 : lw_okq (⟨"OrphanTreeModel", "begins", "()V"⟩, 24) := ⟨⟨by decide +kernel, by decide +kernel⟩, List.mem_of_getElem? (i := 1264) (by decide +kernel), List.mem_of_getElem? (i := 1784) (by decide +kernel), List.mem_of_getElem? (i := 1785) (by decide +kernel)⟩
def lw_privs_6 : List (MethodName × Nat) := [(⟨"OrphanTreeModel", "nearest", "(II)I"⟩, 24), (⟨"OrphanTreeModel", "canAdopt", "(II)Z"⟩, 24), (⟨"OrphanTreeModel", "roomiestFor", "(IIZ)I"⟩, 24), (⟨"OrphanTreeModel", "kinOf", "(II)I"⟩, 24), (⟨"OrphanTreeModel", "oldest", "(II)I"⟩, 24), (⟨"OrphanTreeModel", "adopts", "(II)V"⟩, 24), (⟨"OrphanTreeModel", "readsAll", "(I)I"⟩, 24), (⟨"OrphanTreeModel", "firstZombie", "(I)I"⟩, 24), (⟨"OrphanTreeModel", "noKill", "(II)Z"⟩, 24), (⟨"OrphanTreeModel", "kills", "(II)I"⟩, 24), (⟨"OrphanTreeModel", "notRunning", "(II)Z"⟩, 24), (⟨"OrphanTreeModel", "sets", "(III)I"⟩, 24), (⟨"OrphanTreeModel", "lowestBelow", "(I)I"⟩, 24), (⟨"OrphanTreeModel", "notExiting", "(II)Z"⟩, 24), (⟨"OrphanTreeModel", "fallsBy", "(II)I"⟩, 24), (⟨"OrphanTreeModel", "begins", "()V"⟩, 24)]
theorem lw_r6 : ∀ q ∈ lw_privs_6, lw_okq q := List.forall_mem_cons.mpr ⟨lw_p80, List.forall_mem_cons.mpr ⟨lw_p81, List.forall_mem_cons.mpr ⟨lw_p82, List.forall_mem_cons.mpr ⟨lw_p83, List.forall_mem_cons.mpr ⟨lw_p84, List.forall_mem_cons.mpr ⟨lw_p85, List.forall_mem_cons.mpr ⟨lw_p86, List.forall_mem_cons.mpr ⟨lw_p87, List.forall_mem_cons.mpr ⟨lw_p88, List.forall_mem_cons.mpr ⟨lw_p89, List.forall_mem_cons.mpr ⟨lw_p90, List.forall_mem_cons.mpr ⟨lw_p91, List.forall_mem_cons.mpr ⟨lw_p92, List.forall_mem_cons.mpr ⟨lw_p93, List.forall_mem_cons.mpr ⟨lw_p94, List.forall_mem_cons.mpr ⟨lw_p95, fun _ h => absurd h List.not_mem_nil⟩⟩⟩⟩⟩⟩⟩⟩⟩⟩⟩⟩⟩⟩⟩⟩
theorem lw_p96 : lw_okq (⟨"OrphanTreeModel", "ends", "()V"⟩, 24) := ⟨⟨by decide +kernel, by decide +kernel⟩, List.mem_of_getElem? (i := 1264) (by decide +kernel), List.mem_of_getElem? (i := 1788) (by decide +kernel), List.mem_of_getElem? (i := 1789) (by decide +kernel)⟩
theorem lw_p97 : lw_okq (⟨"OrphanTreeModel", "writePath", "(I)V"⟩, 24) := ⟨⟨by decide +kernel, by decide +kernel⟩, List.mem_of_getElem? (i := 1264) (by decide +kernel), List.mem_of_getElem? (i := 1888) (by decide +kernel), List.mem_of_getElem? (i := 1889) (by decide +kernel)⟩
theorem lw_p98 : lw_okq (⟨"OrphanTreeModel", "writeBetween", "(I)V"⟩, 24) := ⟨⟨by decide +kernel, by decide +kernel⟩, List.mem_of_getElem? (i := 1264) (by decide +kernel), List.mem_of_getElem? (i := 1892) (by decide +kernel), List.mem_of_getElem? (i := 1893) (by decide +kernel)⟩
theorem lw_p99 : lw_okq (⟨"OrphanTreeModel", "write", "(I)V"⟩, 24) := ⟨⟨by decide +kernel, by decide +kernel⟩, List.mem_of_getElem? (i := 1264) (by decide +kernel), List.mem_of_getElem? (i := 1896) (by decide +kernel), List.mem_of_getElem? (i := 1897) (by decide +kernel)⟩
theorem lw_p100 : lw_okq (⟨"OrphanTreeModel", "onPath", "(II)I"⟩, 24) := ⟨⟨by decide +kernel, by decide +kernel⟩, List.mem_of_getElem? (i := 1264) (by decide +kernel), List.mem_of_getElem? (i := 1900) (by decide +kernel), List.mem_of_getElem? (i := 1901) (by decide +kernel)⟩
theorem lw_p101 : lw_okq (⟨"OrphanTreeModel", "writeNumber", "(I)V"⟩, 24) := ⟨⟨by decide +kernel, by decide +kernel⟩, List.mem_of_getElem? (i := 1264) (by decide +kernel), List.mem_of_getElem? (i := 1904) (by decide +kernel), List.mem_of_getElem? (i := 1905) (by decide +kernel)⟩
theorem lw_p102 : lw_okq (⟨"OrphanTreeModel", "writeChildren", "(I)V"⟩, 24) := ⟨⟨by decide +kernel, by decide +kernel⟩, List.mem_of_getElem? (i := 1264) (by decide +kernel), List.mem_of_getElem? (i := 1908) (by decide +kernel), List.mem_of_getElem? (i := 1909) (by decide +kernel)⟩
theorem lw_p103 : lw_okq (⟨"OrphanTreeModel", "writeTree", "(I)V"⟩, 24) := ⟨⟨by decide +kernel, by decide +kernel⟩, List.mem_of_getElem? (i := 1264) (by decide +kernel), List.mem_of_getElem? (i := 1912) (by decide +kernel), List.mem_of_getElem? (i := 1913) (by decide +kernel)⟩
theorem lw_p104 : lw_okq (⟨"OrphanTreeModel", "writeZombies", "(I)V"⟩, 24) := ⟨⟨by decide +kernel, by decide +kernel⟩, List.mem_of_getElem? (i := 1264) (by decide +kernel), List.mem_of_getElem? (i := 1916) (by decide +kernel), List.mem_of_getElem? (i := 1917) (by decide +kernel)⟩
def lw_privs_7 : List (MethodName × Nat) := [(⟨"OrphanTreeModel", "ends", "()V"⟩, 24), (⟨"OrphanTreeModel", "writePath", "(I)V"⟩, 24), (⟨"OrphanTreeModel", "writeBetween", "(I)V"⟩, 24), (⟨"OrphanTreeModel", "write", "(I)V"⟩, 24), (⟨"OrphanTreeModel", "onPath", "(II)I"⟩, 24), (⟨"OrphanTreeModel", "writeNumber", "(I)V"⟩, 24), (⟨"OrphanTreeModel", "writeChildren", "(I)V"⟩, 24), (⟨"OrphanTreeModel", "writeTree", "(I)V"⟩, 24), (⟨"OrphanTreeModel", "writeZombies", "(I)V"⟩, 24)]
theorem lw_r7 : ∀ q ∈ lw_privs_7, lw_okq q := List.forall_mem_cons.mpr ⟨lw_p96, List.forall_mem_cons.mpr ⟨lw_p97, List.forall_mem_cons.mpr ⟨lw_p98, List.forall_mem_cons.mpr ⟨lw_p99, List.forall_mem_cons.mpr ⟨lw_p100, List.forall_mem_cons.mpr ⟨lw_p101, List.forall_mem_cons.mpr ⟨lw_p102, List.forall_mem_cons.mpr ⟨lw_p103, List.forall_mem_cons.mpr ⟨lw_p104, fun _ h => absurd h List.not_mem_nil⟩⟩⟩⟩⟩⟩⟩⟩⟩
def lw_privs : List (MethodName × Nat) := lw_privs_1 ++ (lw_privs_2 ++ (lw_privs_3 ++ (lw_privs_4 ++ (lw_privs_5 ++ (lw_privs_6 ++ (lw_privs_7))))))
def lw_tbl : List Cond := k2_sels lw_privs ++ tables_1
theorem lw_privs_ok : ∀ q ∈ lw_privs, lw_okq q := by
  show ∀ q ∈ lw_privs_1 ++ (lw_privs_2 ++ (lw_privs_3 ++ (lw_privs_4 ++ (lw_privs_5 ++ (lw_privs_6 ++ (lw_privs_7)))))), lw_okq q
  exact List.forall_mem_append.mpr ⟨lw_r1, List.forall_mem_append.mpr ⟨lw_r2, List.forall_mem_append.mpr ⟨lw_r3, List.forall_mem_append.mpr ⟨lw_r4, List.forall_mem_append.mpr ⟨lw_r5, List.forall_mem_append.mpr ⟨lw_r6, lw_r7⟩⟩⟩⟩⟩⟩
/-- the streams that the claim lets the run draw from -/
abbrev lw_cs : List Choice := [Jvm.Choice.named "NaN.bits"]
theorem lw_bits : nanBits ∈ lw_cs := by first | decide | exact List.mem_cons_self | simp [lw_cs, nanBits]
-- ===== end of PART A; then your names; then what follows =====
/-! ===== BEGIN words of one list among another's, by their places ===== -/
theorem goodIn_r {big : List Cond} (ws : List Cond) (ps : List Nat) (hp : ws = ps.filterMap (fun i => big[i]?)) (h : ws.all goodWord = true) : GoodIn big ws := by
  intro w hw
  have h1 := List.all_eq_true.mp h w hw
  rw [hp] at hw
  obtain ⟨i, -, hi⟩ := List.mem_filterMap.mp hw
  have hm : w ∈ big := by first | exact List.mem_of_getElem? hi | exact List.getElem?_mem hi
  exact ⟨hm, good_of_word h1⟩
theorem goodIn_app {big a b : List Cond} (ha : GoodIn big a) (hb : GoodIn big b) : GoodIn big (a ++ b) := fun w h => (List.mem_append.mp h).elim (ha w) (hb w)
theorem goodIn_ca {big a b : List Cond} {c : Cond} (ha : GoodIn big (c :: a)) (hb : GoodIn big b) : GoodIn big (c :: (a ++ b)) := fun w h => (List.mem_cons.mp h).elim (fun e => ha w (List.mem_cons.mpr (Or.inl e))) (fun h => (List.mem_append.mp h).elim (fun h => ha w (List.mem_cons.mpr (Or.inr h))) (hb w))
theorem goodIn_sub {big ws : List Cond} (hm : ∀ w ∈ ws, w ∈ big) (h : ws.all goodWord = true) : GoodIn big ws := fun w hw => ⟨hm w hw, good_of_word (List.all_eq_true.mp h w hw)⟩
/-! ===== END ===== -/

/-! ===== BEGIN exceptions that leave a method, and their catching by the caller (launches without stack traces) ===== -/
section VXA
/-! The laws vx_back, vx_callV, vx_callS, vx_callSW, vx_throw0, vx_throwS follow proofs of the library, with one case more: JvmDerived/Free/Laws.lean (Back.of_free), Shelf42/LK1.lean (callV, callS), Shelf/KitTraced.lean (throwNew0V, throwNewS). -/
/-- where a method has thrown q: the class by its name, the cell, what was written, the world -/
def vx_T (XC : String → State → State → Prop) (st : State) (q : Addr) (t : State) (mc ms : Nat) (free : Addr → Prop) : Prop :=
  ∃ (E : String) (ce : Cell) (L : List Loc), XC E st t ∧ t.heap[q]? = some ce ∧ ce.vm = .none ∧ st.vm.findClass E = some ce.cls ∧ st.WarmedH t.vm ∧ st.sameButNew ({ t with vm := st.vm } : State) L mc ms ∧ ∀ z ∈ L, free z.base
def vx_Q (Qc : Array Value → State → Outcome → State → Prop) (XC : String → State → State → Prop) (mc ms : Nat) (free : Addr → Prop) : Array Value → State → Outcome → State → Prop := fun a st o t =>
  (Qc a st o t ∧ ∃ L, FrameEnd st o t L mc ms ∧ ∀ q ∈ L, free q.base) ∨ ∃ q, o = .threw q ∧ vx_T XC st q t mc ms free
/-- a callee that returns or throws -/
def vx_Met (l : Launch) (y : MethodName) (ws : List Cond) (rm : Room) (Pc : Array Value → State → Prop) (Qc : Array Value → State → Outcome → State → Prop) (XC : String → State → State → Prop) (mc ms : Nat) (free : Addr → Prop) : Prop :=
  MetFree l y (headSpec ws rm) Pc (fun _ _ _ _ _ => True) (vx_Q Qc XC mc ms free)
def vx_Post (XC : String → State → State → Prop) (mc ms : Nat) (free : Addr → Prop) : Pt → Array Value → Addr → Pt → Prop := fun A a q B =>
  ∃ (g : JFrame) (mk : MethodId) (t : State) (L : List Loc) (E : String) (ce : Cell), B.U.heap = t.heap ∧ B.U.vm = t.vm ∧ XC E (A.U.calling g mk a) t ∧ t.heap[q]? = some ce ∧ ce.vm = .none ∧ A.U.vm.findClass E = some ce.cls ∧ B.locs = A.locs ++ L ∧ (∀ z ∈ L, free z.base) ∧ B.cells = A.cells + mc ∧ B.slots = A.slots + ms
def vx_Back (l : Launch) (R : Room) (p : Program) (e : Env) (below : List Frame) (s : State) (sargs : Array Value) (y : MethodName) (len W9 : Nat)
    (Pre : Pt → Array Value → Prop) (Post : Pt → Array Value → Option Value → Pt → Prop) (PostX : Pt → Array Value → Addr → Pt → Prop) : Prop :=
  ∀ (m : MethodId) (meth : Method) (c : Code) (A : Pt) (g : JFrame) (ig : Instr) (mk : MethodId) (a : Array Value),
    Stand p l e R s m sargs below meth c A.U A.locs A.cells A.slots → g.method = m → g.locals.size = c.maxLocals → decode c.code g.pc = .ok (ig, len) →
    2 * g.monitorRoom + (g.stack.map fun v => v.category).sum ≤ W9 → A.U.methodNamed? y = some mk → Pre A a →
    (∃ (v : Option Value) (B : Pt), Stand p l e R s m sargs below meth c B.U B.locs B.cells B.slots ∧ Post A a v B ∧
      Steps p.tables e below (doInvoke e (A.U.setTop g) [] mk a).1 (B.U.setTop { g with pc := g.pc + len, stack := v.toList ++ g.stack })) ∨
    (∃ (q : Addr) (B : Pt), Stand p l e R s m sargs below meth c B.U B.locs B.cells B.slots ∧ PostX A a q B ∧
      Steps p.tables e below (doInvoke e (A.U.setTop g) [] mk a).1 ((B.U.setTop g).pushFrame (.throwing q)))
section Payer
variable {l : Launch} {R : Room} {p : Program} {e : Env} {below : List Frame} {s : State} {sargs : Array Value} {y : MethodName} {len W9 : Nat}
theorem vx_back {ws : List Cond} {rm : Room} {Pc : Array Value → State → Prop} {Qc : Array Value → State → Outcome → State → Prop} {XC : String → State → State → Prop} {mc ms : Nat} {free : Addr → Prop} {bytes : ByteArray} {maxL : Nat} {ret : Option FieldType}
    (hM : vx_Met l y ws rm Pc Qc XC mc ms free) (hblind : FrameBlind Pc) (hrc : rm.cells = mc) (hrs : rm.slots = ms)
    (hframes : rm.frames + 1 ≤ R.frames) (hlocals : W9 + (maxL + 11) + rm.locals ≤ R.locals)
    (hws : ∀ w ∈ ws, ∀ a' U, s.WarmedH U.vm → w.before a' U = true) (hcode : Cond.code y bytes maxL ret ∈ ws) (hinit : ∀ a' U, s.WarmedH U.vm → (Cond.initialized y.cls).before a' U = true) :
    vx_Back l R p e below s sargs y len W9 (PreOf R mc ms Pc) (PostOf Qc mc ms free) (vx_Post XC mc ms free) := by
  intro m meth c A g ig mk a X hg hsize hdg hW hn hp
  have h1 : (headSpec ws rm).pre.before a A.U = true := atoms_intro fun w hw => hws w hw _ _ X.warmed
  have h2 : (Cond.code y bytes maxL ret).before a A.U = true := hws _ hcode _ _ X.warmed
  have h3 : (Cond.initialized y.cls).before a A.U = true := hinit _ _ X.warmed
  have h4 : A.cells + (headSpec ws rm).room.cells ≤ R.cells := by rw [show (headSpec ws rm).room.cells = mc from hrc]; exact hp.1
  have h5 : A.slots + (headSpec ws rm).room.slots ≤ R.slots := by rw [show (headSpec ws rm).room.slots = ms from hrs]; exact hp.2.1
  have hPc : Pc a (A.U.calling g mk a) := hblind _ _ _ _ hp.2.2
  obtain ⟨U, Ls, c0, s0⟩ := A
  dsimp only [Pt.U, Pt.locs, Pt.cells, Pt.slots] at h1 h2 h3 h4 h5 X hn hPc ⊢
  obtain ⟨methY, cY, hmY, hcY, -, hlY, -, -, -, -⟩ := Cond.code_spec hn h2
  obtain ⟨kY, hkY, -⟩ := className_of_methodNamed hn
  have hinitY : kY.init = .initialized := Cond.initialized_spec (findClass_of_methodNamed hn) hkY h3
  have h : At U g.method c below := by rw [hg]; exact X.here
  have hlocals9 : W9 + (maxL + 11) + (headSpec ws rm).room.locals ≤ R.locals := hlocals
  have happ : (headSpec ws rm).appliesLoose y e.platform (U.calling g mk a) = true :=
    Spec.appliesLoose_calling (g := g) h hdg hn hkY hinitY
      (X.room_calling (g := g) (R' := (headSpec ws rm).room) hsize hmY hcY hframes (by rw [hlY]; omega) h4 h5) h1
  obtain ⟨mid, hmid⟩ := h.above
  have hfr : (U.setTop g).frames = (.java g :: mid) ++ below := by rw [State.frames_setTop' g h.top, hmid]; rfl
  obtain ⟨o, s₂, hsteps, -, hend, hq⟩ := Steps.callFree hM p X.admits X.cas X.clock (acts := []) hfr happ hPc trivial
  have hq' : vx_Q Qc XC mc ms free a (U.calling g mk a) o s₂ := hq
  rw [State.frames_setTop' g h.top] at hend
  obtain ⟨g₀, hg0⟩ := Option.isSome_iff_exists.mp h.top
  obtain ⟨r, hr⟩ := State.topJava?_eq_some.mp hg0
  have hr' : (({ U with heap := s₂.heap, slotsUsed := s₂.slotsUsed } : State).setVm s₂.vm).frames = .java g₀ :: r := hr
  rcases hq' with ⟨hqc, L, hfe, hL⟩ | ⟨q, rfl, E, ce, L, hx, hce, hcv, hcl, hW₂, hsm, hL⟩
  · obtain ⟨⟨v, rfl⟩, hW₂, e2, q2, q3, q4, q5, q6⟩ := id hfe
    have e3 : s₂ = ({ (U.calling g mk a).setFrames s₂.frames with heap := s₂.heap, slotsUsed := s₂.slotsUsed } : State).setVm s₂.vm := by
      have : s₂ = ({ s₂ with vm := (U.calling g mk a).vm } : State).setVm s₂.vm := rfl
      rw [e2] at this
      exact this
    obtain ⟨c₂, i₂, len₂, hc₂, hd₂, hf₂⟩ := hend
    have hW' : U.WarmedH s₂.vm := hW₂
    have hcc : c₂ = c := by
      have h1 : s₂.code? g.method = U.code? g.method := by
        rw [State.code?_eq, State.code?_eq, hW'.alike.method?]
      exact Option.some.inj (hc₂.symm.trans (h1.trans h.code))
    subst hcc
    have hlen : len₂ = len := by rw [hdg] at hd₂; cases hd₂; rfl
    subst hlen
    have hs₂ : s₂ = (({ U with heap := s₂.heap, slotsUsed := s₂.slotsUsed } : State).setVm s₂.vm).setTop { g with pc := g.pc + len₂, stack := v.toList ++ g.stack } := by
      refine e3.trans ?_
      rw [hf₂, State.calling_eq h.top, State.setFrames_setFrames, State.setTop_of_frames _ hr', hr]
      rfl
    have hsame : U.sameButNew ({ U with heap := s₂.heap, slotsUsed := s₂.slotsUsed } : State) L mc ms := by
      refine ⟨?_, q2, q3, q4, q5, q6⟩
      obtain ⟨t, ht, -⟩ := State.frames_cons hr
      show ({ U with heap := s₂.heap, slotsUsed := s₂.slotsUsed } : State) = { U.setFrames U.frames with heap := s₂.heap, slotsUsed := s₂.slotsUsed }
      rw [State.setFrames_self ht]
    subst hg
    refine Or.inl ⟨v, ⟨(({ U with heap := s₂.heap, slotsUsed := s₂.slotsUsed } : State).setVm s₂.vm), Ls ++ L, c0 + mc, s0 + ms⟩,
      ⟨X.admits, X.cas, X.clock, X.frames, X.room, X.hears, X.method, X.code, (X.here.setHeapUsed s₂.heap s₂.slotsUsed).setVm hW'.alike, X.tail, State.WarmedH.trans X.warmed hW', X.limits, X.bytes, X.same.trans (hsame.setVm s.vm)⟩,
      ⟨g, mk, s₂, L, rfl, rfl, hqc, rfl, hL, rfl, rfl⟩, ?_⟩
    show Steps p.tables e below _ ((({ U with heap := s₂.heap, slotsUsed := s₂.slotsUsed } : State).setVm s₂.vm).setTop { g with pc := g.pc + len₂, stack := v.toList ++ g.stack })
    rw [← hs₂]
    exact hsteps
  · obtain ⟨e2, q2, q3, q4, q5, q6⟩ := id hsm
    have e3 : s₂ = ({ (U.calling g mk a).setFrames s₂.frames with heap := s₂.heap, slotsUsed := s₂.slotsUsed } : State).setVm s₂.vm := by
      have : s₂ = ({ s₂ with vm := (U.calling g mk a).vm } : State).setVm s₂.vm := rfl
      rw [e2] at this
      exact this
    have hf₂ : s₂.frames = .throwing q :: .java g :: U.frames.tail := hend
    have hW' : U.WarmedH s₂.vm := hW₂
    have hs₂ : s₂ = ((({ U with heap := s₂.heap, slotsUsed := s₂.slotsUsed } : State).setVm s₂.vm).setTop g).pushFrame (.throwing q) := by
      refine e3.trans ?_
      rw [hf₂, State.calling_eq h.top, State.setFrames_setFrames, State.pushFrame, State.frames_setTop _ hr', State.setTop_of_frames _ hr', State.setFrames_setFrames, hr]
      rfl
    have hsame : U.sameButNew ({ U with heap := s₂.heap, slotsUsed := s₂.slotsUsed } : State) L mc ms := by
      refine ⟨?_, q2, q3, q4, q5, q6⟩
      obtain ⟨t, ht, -⟩ := State.frames_cons hr
      show ({ U with heap := s₂.heap, slotsUsed := s₂.slotsUsed } : State) = { U.setFrames U.frames with heap := s₂.heap, slotsUsed := s₂.slotsUsed }
      rw [State.setFrames_self ht]
    subst hg
    refine Or.inr ⟨q, ⟨(({ U with heap := s₂.heap, slotsUsed := s₂.slotsUsed } : State).setVm s₂.vm), Ls ++ L, c0 + mc, s0 + ms⟩,
      ⟨X.admits, X.cas, X.clock, X.frames, X.room, X.hears, X.method, X.code, (X.here.setHeapUsed s₂.heap s₂.slotsUsed).setVm hW'.alike, X.tail, State.WarmedH.trans X.warmed hW', X.limits, X.bytes, X.same.trans (hsame.setVm s.vm)⟩,
      ⟨g, mk, s₂, L, E, ce, rfl, rfl, hx, hce, hcv, hcl, rfl, hL, rfl, rfl⟩, ?_⟩
    show Steps p.tables e below _ (((({ U with heap := s₂.heap, slotsUsed := s₂.slotsUsed } : State).setVm s₂.vm).setTop g).pushFrame (.throwing q))
    rw [← hs₂]
    exact hsteps
end Payer
section Calls
variable {p : Program} {l : Launch} {e : Env} {R : Room} {s : State} {m : MethodId} {args : Array Value} {below : List Frame} {meth : Method} {c : Code} {T : State} {locs : List Loc} {cells slots : Nat}
theorem vx_callV (X : Stand p l e R s m args below meth c T locs cells slots) (hexec : p.tables.exec = Jvm.exec) {own C : String} {index : Nat} {y : MethodName} {bytes : ByteArray} {maxL : Nat} {ret : Option FieldType}
    (hown : s.vm.findClass own = some m.cls) (hlink : (Cond.methodLink own index y).before args s = true) (hinst : (Cond.instanceMethod y).before args s = true) (hsel : (Cond.selects C y y).before args s = true)
    (hcode : (Cond.code y bytes maxL ret).before args s = true) (hy : y.cls ≠ "java/lang/invoke/MethodHandle" ∧ y.cls ≠ "java/lang/invoke/VarHandle")
    {W9 : Nat} {Pre : Pt → Array Value → Prop} {Post : Pt → Array Value → Option Value → Pt → Prop} {PostX : Pt → Array Value → Addr → Pt → Prop} (hK : vx_Back l R p e below s args y 3 W9 Pre Post PostX)
    {b : Addr} {cellB : Cell} (hcell : T.heap[b]? = some cellB) (hobj : cellB.vm.isStatics = false) (hcls : s.vm.findClass C = some cellB.cls)
    {g : JFrame} (hg : g.method = m) (hsize : g.locals.size = c.maxLocals) {argsL rest : List Value} (hlen : ∀ sig, parseMethodDescriptor y.desc = some sig → argsL.length = sig.parameters.length)
    (hstack : g.stack = argsL.reverse ++ .ref b :: rest) (hW : 2 * g.monitorRoom + (rest.map fun v => v.category).sum ≤ W9) (hdg : decode c.code g.pc = .ok (.invokevirtual index, 3))
    (hpre : ∀ vm₁, s.WarmedH vm₁ → Pre ⟨T.setVm vm₁, locs, cells, slots⟩ (Value.ref b :: argsL).toArray) :
    (∃ (v : Option Value) (vm₁ : Vm) (B : Pt), s.WarmedH vm₁ ∧ Stand p l e R s m args below meth c B.U B.locs B.cells B.slots ∧ Post ⟨T.setVm vm₁, locs, cells, slots⟩ (Value.ref b :: argsL).toArray v B ∧
      ∀ target, Steps p.tables e below (B.U.setTop { g with pc := g.pc + 3, stack := v.toList ++ rest }) target → Steps p.tables e below (T.setTop g) target) ∨
    (∃ (q : Addr) (vm₁ : Vm) (B : Pt), s.WarmedH vm₁ ∧ Stand p l e R s m args below meth c B.U B.locs B.cells B.slots ∧ PostX ⟨T.setVm vm₁, locs, cells, slots⟩ (Value.ref b :: argsL).toArray q B ∧
      Steps p.tables e below (T.setTop g) ((B.U.setTop { g with stack := rest }).pushFrame (.throwing q))) := by
  obtain ⟨mk, methM, hnamed, hmethM, hstM, habM⟩ := Cond.instanceMethod_spec hinst
  obtain ⟨methM', cM, hmethM', -, -, -, -, -, -, hsigM⟩ := Cond.code_spec hnamed hcode
  cases hmethM.symm.trans hmethM'
  obtain ⟨c2, r2, m2, q1, q2, q3, q4, kP, hkP, hkPi⟩ := Cond.selects_spec hsel
  cases hcls.symm.trans q1
  cases (State.methodFound?_of_named hnamed hy).symm.trans q2
  cases hnamed.symm.trans q3
  have hselP : selectMethod e.platform s.vm cellB.cls mk = .method mk := by rw [Launch.admits_selectMethod X.admits]; exact q4
  obtain ⟨vm₁, X₁, hstep₁⟩ := X.invokevirtual hexec hown hlink hnamed hmethM hstM hkP hkPi hy (a := b) (cell := cellB) hcell
    (fun z h => by rw [h] at hobj; cases hobj) hselP hmethM habM hkP hkPi (g := g) hg (argsL := argsL) (rest := rest) (hlen _ hsigM) hstack hdg
  rcases hK m meth c ⟨T.setVm vm₁, locs, cells, slots⟩ { g with stack := rest } (.invokevirtual index) mk (Value.ref b :: argsL).toArray X₁ hg hsize hdg hW (X₁.named hnamed) (hpre vm₁ X₁.warmed) with ⟨v, B, X', hpost, hsteps⟩ | ⟨q, B, X', hpost, hsteps⟩
  · exact Or.inl ⟨v, vm₁, B, X₁.warmed, X', hpost, fun target h => hstep₁ _ fun acts => by rw [doInvoke_state]; exact hsteps.trans h⟩
  · exact Or.inr ⟨q, vm₁, B, X₁.warmed, X', hpost, hstep₁ _ fun acts => by rw [doInvoke_state]; exact hsteps⟩
theorem vx_callS (X : Stand p l e R s m args below meth c T locs cells slots) (hexec : p.tables.exec = Jvm.exec) {own : String} {index : Nat} {y : MethodName} {bytes : ByteArray} {maxL : Nat} {ret : Option FieldType}
    (hown : s.vm.findClass own = some m.cls) (hlink : (Cond.methodLink own index y).before args s = true) (hstat : (Cond.static y).before args s = true) (hinit : (Cond.initialized y.cls).before args s = true)
    (hcode : (Cond.code y bytes maxL ret).before args s = true) (hy : y.cls ≠ "java/lang/invoke/MethodHandle" ∧ y.cls ≠ "java/lang/invoke/VarHandle")
    {W9 : Nat} {Pre : Pt → Array Value → Prop} {Post : Pt → Array Value → Option Value → Pt → Prop} {PostX : Pt → Array Value → Addr → Pt → Prop} (hK : vx_Back l R p e below s args y 3 W9 Pre Post PostX)
    {g : JFrame} (hg : g.method = m) (hsize : g.locals.size = c.maxLocals) {argsL rest : List Value} (hlen : ∀ sig, parseMethodDescriptor y.desc = some sig → argsL.length = sig.parameters.length)
    (hstack : g.stack = argsL.reverse ++ rest) (hW : 2 * g.monitorRoom + (rest.map fun v => v.category).sum ≤ W9) (hdg : decode c.code g.pc = .ok (.invokestatic index, 3))
    (hpre : ∀ vm₁, s.WarmedH vm₁ → Pre ⟨T.setVm vm₁, locs, cells, slots⟩ argsL.toArray) :
    (∃ (v : Option Value) (vm₁ : Vm) (B : Pt), s.WarmedH vm₁ ∧ Stand p l e R s m args below meth c B.U B.locs B.cells B.slots ∧ Post ⟨T.setVm vm₁, locs, cells, slots⟩ argsL.toArray v B ∧
      ∀ target, Steps p.tables e below (B.U.setTop { g with pc := g.pc + 3, stack := v.toList ++ rest }) target → Steps p.tables e below (T.setTop g) target) ∨
    (∃ (q : Addr) (vm₁ : Vm) (B : Pt), s.WarmedH vm₁ ∧ Stand p l e R s m args below meth c B.U B.locs B.cells B.slots ∧ PostX ⟨T.setVm vm₁, locs, cells, slots⟩ argsL.toArray q B ∧
      Steps p.tables e below (T.setTop g) ((B.U.setTop { g with stack := rest }).pushFrame (.throwing q))) := by
  obtain ⟨mk, hnamed⟩ := Cond.code_named hcode
  obtain ⟨methM, cM, hmethM, -, -, -, -, -, -, hsigM⟩ := Cond.code_spec hnamed hcode
  have hstatic : methM.isStatic = true := Cond.static_spec hnamed hmethM hstat
  obtain ⟨kP, hkP, -⟩ := className_of_methodNamed hnamed
  have hinitP : kP.init = .initialized := Cond.initialized_spec (findClass_of_methodNamed hnamed) hkP hinit
  obtain ⟨vm₁, X₁, hstep₁⟩ := X.invokestatic hexec hown hlink hnamed hmethM hstatic hkP hinitP hy (g := g) hg (argsL := argsL) (rest := rest) (hlen _ hsigM) hstack hdg
  rcases hK m meth c ⟨T.setVm vm₁, locs, cells, slots⟩ { g with stack := rest } (.invokestatic index) mk argsL.toArray X₁ hg hsize hdg hW (X₁.named hnamed) (hpre vm₁ X₁.warmed) with ⟨v, B, X', hpost, hsteps⟩ | ⟨q, B, X', hpost, hsteps⟩
  · exact Or.inl ⟨v, vm₁, B, X₁.warmed, X', hpost, fun target h => hstep₁ _ fun acts => by rw [doInvoke_state]; exact hsteps.trans h⟩
  · exact Or.inr ⟨q, vm₁, B, X₁.warmed, X', hpost, hstep₁ _ fun acts => by rw [doInvoke_state]; exact hsteps⟩
end Calls
theorem vx_cls {s : State} {T : State} {vm₁ : Vm} {E : String} {k : ClassId} (hW : s.WarmedH vm₁) (h : (T.setVm vm₁).vm.findClass E = some k) : s.vm.findClass E = some k := by
  have h1 : vm₁.findClass E = some k := h
  rw [hW.alike.findClass] at h1
  exact h1
/-- the method's frame g, with q thrown over it -/
def vx_W (p : Program) (l : Launch) (e : Env) (R : Room) (s : State) (m : MethodId) (args : Array Value) (below : List Frame) (meth : Method) (c : Code) (H : Heap) (locs : List Loc) (cells slots : Nat) (Q : State → Prop) (g : JFrame) (q : Addr) : Prop :=
  ∀ T : State, T.heap = H → Stand p l e R s m args below meth c T locs cells slots → ∃ t, Steps p.tables e below ((T.setTop g).pushFrame (.throwing q)) t ∧ Q t
def vx_Run (p : Program) (l : Launch) (e : Env) (R : Room) (s : State) (m : MethodId) (args : Array Value) (below : List Frame) (meth : Method) (c : Code) (H : Heap) (locs : List Loc) (cells slots mc ms : Nat) (g : JFrame) (rest : List Value) (Qa : State → Outcome → State → Prop) (XC : String → State → State → Prop) (free : Addr → Prop) : Prop :=
  ∀ T : State, T.heap = H → Stand p l e R s m args below meth c T locs cells slots →
    (∃ (v : Option Value) (st₀ t T' : State) (L : List Loc), st₀.heap = H ∧ Stand p l e R s m args below meth c T' (locs ++ L) (cells + mc) (slots + ms) ∧ (∀ q ∈ L, free q.base) ∧ T'.heap = t.heap ∧ T'.vm = t.vm ∧ Qa st₀ (.returned v) t ∧
      Goes p e below T g T' { g with pc := g.pc + 3, stack := v.toList ++ rest }) ∨
    (∃ (q : Addr) (st₀ t T' : State) (L : List Loc) (E : String) (ce : Cell), st₀.heap = H ∧ Stand p l e R s m args below meth c T' (locs ++ L) (cells + mc) (slots + ms) ∧ (∀ z ∈ L, free z.base) ∧ T'.heap = t.heap ∧ T'.vm = t.vm ∧ XC E st₀ t ∧ t.heap[q]? = some ce ∧ ce.vm = .none ∧ s.vm.findClass E = some ce.cls ∧
      Steps p.tables e below (T.setTop g) ((T'.setTop { g with stack := rest }).pushFrame (.throwing q)))
def vx_X {S : Type} (px : S → Prop) (B : String → S → State → Prop) (A : Nat → Prop) : String → State → State → Prop := fun E st t => ∃ u : S, px u ∧ B E u t ∧ va_F A st t
section Runs
variable {p : Program} {l : Launch} {e : Env} {R : Room} {s : State} {m : MethodId} {args : Array Value} {below : List Frame} {meth : Method} {c : Code} {H : Heap} {locs : List Loc} {cells slots : Nat}
variable {y : MethodName} {bytes cc : ByteArray} {maxL nL mc ms n index : Nat} {ret : Option FieldType} {ws : List Cond} {rm : Room} {Pc : Array Value → State → Prop} {Qc : Array Value → State → Outcome → State → Prop} {XC : String → State → State → Prop} {free : Addr → Prop} {Ts : List Cond} {own C : String} {b : Addr} {As rest : List Value} {g : JFrame}
theorem vx_callBack (cb : CallB R s args own index y bytes maxL ret ws rm mc ms n) (hM : vx_Met l y ws rm Pc Qc XC mc ms free) (hbl : FrameBlind Pc) : vx_Back l R p e below s args y 3 8 (PreOf R mc ms Pc) (PostOf Qc mc ms free) (vx_Post XC mc ms free) := by
  obtain ⟨hrc, hrs, hfr, hlo, hws, hcw, -, hini, -⟩ := cb
  exact vx_back (bytes := bytes) (maxL := maxL) (ret := ret) hM hbl hrc hrs hfr hlo hws hcw (fun a' U hW => word_at hW (Or.inl (by first | rfl | simp [Cond.onTables, Cond.keeps, Cond.steady])) hini)
theorem vx_runV (S : CallFix p m c cc nL s args Ts own) (hM : vx_Met l y ws rm Pc Qc XC mc ms free) (cw : CallW R s args own C index y bytes maxL ret ws rm mc ms n) (hp : PreV s H C b Pc As)
    (hg : g.method = m) (hn : As.length = n) (hsize : g.locals.size = nL) (hstack : g.stack = As.reverse ++ .ref b :: rest) (hW : 2 * g.monitorRoom + (rest.map fun v => v.category).sum ≤ 8) (hdg : decode cc g.pc = .ok (.invokevirtual index, 3)) (hf : cells + mc ≤ R.cells ∧ slots + ms ≤ R.slots) :
    vx_Run p l e R s m args below meth c H locs cells slots mc ms g rest (Qc (Value.ref b :: As).toArray) XC free := by
  have hK : vx_Back l R p e below s args y 3 8 (PreOf R mc ms Pc) (PostOf Qc mc ms free) (vx_Post XC mc ms free) := vx_callBack cw.1 hM hp.1
  obtain ⟨⟨-, -, -, -, -, -, hcode, -, hy, hlen, hl⟩, hin, hse⟩ := cw
  obtain ⟨hx, hb, hml, ho, -⟩ := S
  obtain ⟨-, ⟨cellB, hcB, hoB, hclB⟩, hPc⟩ := hp
  intro T hT X
  rcases vx_callV X hx (C := C) (bytes := bytes) (maxL := maxL) (ret := ret) ho hl hin hse hcode hy hK (by rw [hT]; exact hcB) hoB hclB hg (hsize.trans hml.symm) (argsL := As) (rest := rest) (fun sig h => hn.trans (hlen sig h)) hstack hW (by rw [hb]; exact hdg)
    (fun vm₁ hW₁ => ⟨hf.1, hf.2, hPc (T.setVm vm₁) hT hW₁⟩) with ⟨v, vm₁, ⟨U', l2, c2, s2⟩, hW₁, X', ⟨g', mk, t, L, e1, e2, hq, h1, hL, h2, h3⟩, st⟩ | ⟨q, vm₁, ⟨U', l2, c2, s2⟩, hW₁, X', ⟨g', mk, t, L, E, ce, e1, e2, hq, hce, hcv, hcl, h1, hL, h2, h3⟩, st⟩
  · dsimp only [Pt.U, Pt.locs, Pt.cells, Pt.slots] at X' e1 e2 h1 h2 h3 st
    subst h1; subst h2; subst h3
    exact Or.inl ⟨v, (T.setVm vm₁).calling g' mk (Value.ref b :: As).toArray, t, U', L, hT, X', hL, e1, e2, hq, st⟩
  · dsimp only [Pt.U, Pt.locs, Pt.cells, Pt.slots] at X' e1 e2 h1 h2 h3 st hcl
    subst h1; subst h2; subst h3
    exact Or.inr ⟨q, (T.setVm vm₁).calling g' mk (Value.ref b :: As).toArray, t, U', L, E, ce, hT, X', hL, e1, e2, hq, hce, hcv, vx_cls hW₁ hcl, st⟩
theorem vx_runS (S : CallFix p m c cc nL s args Ts own) (hM : vx_Met l y ws rm Pc Qc XC mc ms free) (cw : CallB R s args own index y bytes maxL ret ws rm mc ms n ∧ (Cond.static y).before args s = true) (hp : PreS s H Pc As)
    (hg : g.method = m) (hn : As.length = n) (hsize : g.locals.size = nL) (hstack : g.stack = As.reverse ++ rest) (hW : 2 * g.monitorRoom + (rest.map fun v => v.category).sum ≤ 8) (hdg : decode cc g.pc = .ok (.invokestatic index, 3)) (hf : cells + mc ≤ R.cells ∧ slots + ms ≤ R.slots) :
    vx_Run p l e R s m args below meth c H locs cells slots mc ms g rest (Qc As.toArray) XC free := by
  have hK : vx_Back l R p e below s args y 3 8 (PreOf R mc ms Pc) (PostOf Qc mc ms free) (vx_Post XC mc ms free) := vx_callBack cw.1 hM hp.1
  obtain ⟨⟨-, -, -, -, -, -, hcode, hini, hy, hlen, hl⟩, hstt⟩ := cw
  obtain ⟨hx, hb, hml, ho, -⟩ := S
  intro T hT X
  rcases vx_callS X hx (bytes := bytes) (maxL := maxL) (ret := ret) ho hl hstt hini hcode hy hK hg (hsize.trans hml.symm) (argsL := As) (rest := rest) (fun sig h => hn.trans (hlen sig h)) hstack hW (by rw [hb]; exact hdg)
    (fun vm₁ hW₁ => ⟨hf.1, hf.2, hp.2 (T.setVm vm₁) hT hW₁⟩) with ⟨v, vm₁, ⟨U', l2, c2, s2⟩, hW₁, X', ⟨g', mk, t, L, e1, e2, hq, h1, hL, h2, h3⟩, st⟩ | ⟨q, vm₁, ⟨U', l2, c2, s2⟩, hW₁, X', ⟨g', mk, t, L, E, ce, e1, e2, hq, hce, hcv, hcl, h1, hL, h2, h3⟩, st⟩
  · dsimp only [Pt.U, Pt.locs, Pt.cells, Pt.slots] at X' e1 e2 h1 h2 h3 st
    subst h1; subst h2; subst h3
    exact Or.inl ⟨v, (T.setVm vm₁).calling g' mk As.toArray, t, U', L, hT, X', hL, e1, e2, hq, st⟩
  · dsimp only [Pt.U, Pt.locs, Pt.cells, Pt.slots] at X' e1 e2 h1 h2 h3 st hcl
    subst h1; subst h2; subst h3
    exact Or.inr ⟨q, (T.setVm vm₁).calling g' mk As.toArray, t, U', L, E, ce, hT, X', hL, e1, e2, hq, hce, hcv, vx_cls hW₁ hcl, st⟩
end Runs
section Rows
variable {p : Program} {l : Launch} {e : Env} {R : Room} {s : State} {m : MethodId} {args : Array Value} {below : List Frame} {meth : Method} {c : Code} {H : Heap} {locs : List Loc} {cells slots : Nat} {Q : State → Prop}
variable {mc ms : Nat} {free : Addr → Prop} {A0 A1 : Nat → Prop} {H0 : Heap} {a : Array Value} {pc : Nat} {ls : Array Slot} {st0 rest : List Value}
theorem vx_keep {st₀ t T' : State} {L : List Loc} (h0 : st₀.heap = H) (e1 : T'.heap = t.heap) (hS : va_S A0 H0 H locs) (hA : ∀ q, q < H.size → A1 q → A0 q) (hf : ∀ q, free q → A0 q) (hL : ∀ q ∈ L, free q.base) (hF : va_F A1 st₀ t) :
    H.size ≤ T'.heap.size ∧ (∀ q : Nat, q < H.size → ¬ A1 q → T'.heap[q]? = H[q]?) ∧ va_S A0 H0 T'.heap (locs ++ L) := by
  obtain ⟨hz, hk⟩ := hF
  rw [h0] at hz hk
  exact ⟨by rw [e1]; exact hz, fun q h1 h2 => by rw [e1]; exact hk q h1 h2,
    ⟨Nat.le_trans hS.1 (by rw [e1]; exact hz), fun q h1 h2 => by rw [e1, hk q (Nat.lt_of_lt_of_le h1 hS.1) (fun z => h2 (hA q (Nat.lt_of_lt_of_le h1 hS.1) z))]; exact hS.2.1 q h1 h2, fun q hq => by
      rcases List.mem_append.mp hq with h | h
      · exact hS.2.2 q h
      · exact hf _ (hL q h)⟩⟩
theorem vx_calli {S SX : Type} {post : Int32 → S → Prop} {px : SX → Prop} {B : S → State → Prop} {BX : String → SX → State → Prop} {AX : Nat → Prop} (hr : vx_Run p l e R s m args below meth c H locs cells slots mc ms (F0 m pc ls st0) rest (va_Qi post B A1 a) (vx_X px BX AX) free) (hS : va_S A0 H0 H locs) (hA : ∀ q, q < H.size → A1 q → A0 q) (hf : ∀ q, free q → A0 q) (hAX : ∀ q, q < H.size → AX q → A0 q)
    (kx : ∀ (E : String) (ce : Cell) (q9 : Addr) (u : SX) (t : State) (H1 : Heap) (locs1 : List Loc), t.heap = H1 → s.vm.Alike t.vm → px u → BX E u t → H.size ≤ H1.size → (∀ q : Nat, q < H.size → ¬ AX q → H1[q]? = H[q]?) → va_S A0 H0 H1 locs1 → H1[q9]? = some ce → ce.vm = .none → s.vm.findClass E = some ce.cls → vx_W p l e R s m args below meth c H1 locs1 (cells + mc) (slots + ms) Q (F0 m pc ls rest) q9)
    (kk : ∀ (r : Int32) (u : S) (t : State) (H1 : Heap) (locs1 : List Loc), t.heap = H1 → s.vm.Alike t.vm → post r u → B u t → H.size ≤ H1.size → (∀ q : Nat, q < H.size → ¬ A1 q → H1[q]? = H[q]?) → va_S A0 H0 H1 locs1 → W p l e R s m args below meth c H1 locs1 (cells + mc) (slots + ms) Q (F0 m (pc + 3) ls (.int r :: rest))) : W p l e R s m args below meth c H locs cells slots Q (F0 m pc ls st0) := by
  intro T hT X
  rcases hr T hT X with ⟨v, st₀, t, T', L, h0, X', hL, e1, e2, ⟨⟨r, u, hv, hp, hb⟩, hF⟩, st⟩ | ⟨q, st₀, t, T', L, E, ce, h0, X', hL, e1, e2, ⟨u, hp, hb, hF⟩, hce, hcv, hcl, st⟩
  · cases hv
    obtain ⟨k1, k2, k3⟩ := vx_keep h0 e1 hS hA hf hL hF
    obtain ⟨t2, a1, b1⟩ := kk r u t T'.heap (locs ++ L) e1.symm (by rw [← e2]; exact X'.warmed.alike) hp hb k1 k2 k3 T' rfl X'
    exact ⟨t2, st t2 a1, b1⟩
  · obtain ⟨k1, k2, k3⟩ := vx_keep h0 e1 hS hAX hf hL hF
    obtain ⟨t2, a1, b1⟩ := kx E ce q u t T'.heap (locs ++ L) e1.symm (by rw [← e2]; exact X'.warmed.alike) hp hb k1 k2 k3 (by rw [e1]; exact hce) hcv hcl T' rfl X'
    exact ⟨t2, st.trans a1, b1⟩
theorem vx_calll {S SX : Type} {post : Int64 → S → Prop} {px : SX → Prop} {B : S → State → Prop} {BX : String → SX → State → Prop} {AX : Nat → Prop} (hr : vx_Run p l e R s m args below meth c H locs cells slots mc ms (F0 m pc ls st0) rest (va_Ql post B A1 a) (vx_X px BX AX) free) (hS : va_S A0 H0 H locs) (hA : ∀ q, q < H.size → A1 q → A0 q) (hf : ∀ q, free q → A0 q) (hAX : ∀ q, q < H.size → AX q → A0 q)
    (kx : ∀ (E : String) (ce : Cell) (q9 : Addr) (u : SX) (t : State) (H1 : Heap) (locs1 : List Loc), t.heap = H1 → s.vm.Alike t.vm → px u → BX E u t → H.size ≤ H1.size → (∀ q : Nat, q < H.size → ¬ AX q → H1[q]? = H[q]?) → va_S A0 H0 H1 locs1 → H1[q9]? = some ce → ce.vm = .none → s.vm.findClass E = some ce.cls → vx_W p l e R s m args below meth c H1 locs1 (cells + mc) (slots + ms) Q (F0 m pc ls rest) q9)
    (kk : ∀ (r : Int64) (u : S) (t : State) (H1 : Heap) (locs1 : List Loc), t.heap = H1 → s.vm.Alike t.vm → post r u → B u t → H.size ≤ H1.size → (∀ q : Nat, q < H.size → ¬ A1 q → H1[q]? = H[q]?) → va_S A0 H0 H1 locs1 → W p l e R s m args below meth c H1 locs1 (cells + mc) (slots + ms) Q (F0 m (pc + 3) ls (.long r :: rest))) : W p l e R s m args below meth c H locs cells slots Q (F0 m pc ls st0) := by
  intro T hT X
  rcases hr T hT X with ⟨v, st₀, t, T', L, h0, X', hL, e1, e2, ⟨⟨r, u, hv, hp, hb⟩, hF⟩, st⟩ | ⟨q, st₀, t, T', L, E, ce, h0, X', hL, e1, e2, ⟨u, hp, hb, hF⟩, hce, hcv, hcl, st⟩
  · cases hv
    obtain ⟨k1, k2, k3⟩ := vx_keep h0 e1 hS hA hf hL hF
    obtain ⟨t2, a1, b1⟩ := kk r u t T'.heap (locs ++ L) e1.symm (by rw [← e2]; exact X'.warmed.alike) hp hb k1 k2 k3 T' rfl X'
    exact ⟨t2, st t2 a1, b1⟩
  · obtain ⟨k1, k2, k3⟩ := vx_keep h0 e1 hS hAX hf hL hF
    obtain ⟨t2, a1, b1⟩ := kx E ce q u t T'.heap (locs ++ L) e1.symm (by rw [← e2]; exact X'.warmed.alike) hp hb k1 k2 k3 (by rw [e1]; exact hce) hcv hcl T' rfl X'
    exact ⟨t2, st.trans a1, b1⟩
theorem vx_callf {S SX : Type} {post : UInt32 → S → Prop} {px : SX → Prop} {B : S → State → Prop} {BX : String → SX → State → Prop} {AX : Nat → Prop} (hr : vx_Run p l e R s m args below meth c H locs cells slots mc ms (F0 m pc ls st0) rest (va_Qf post B A1 a) (vx_X px BX AX) free) (hS : va_S A0 H0 H locs) (hA : ∀ q, q < H.size → A1 q → A0 q) (hf : ∀ q, free q → A0 q) (hAX : ∀ q, q < H.size → AX q → A0 q)
    (kx : ∀ (E : String) (ce : Cell) (q9 : Addr) (u : SX) (t : State) (H1 : Heap) (locs1 : List Loc), t.heap = H1 → s.vm.Alike t.vm → px u → BX E u t → H.size ≤ H1.size → (∀ q : Nat, q < H.size → ¬ AX q → H1[q]? = H[q]?) → va_S A0 H0 H1 locs1 → H1[q9]? = some ce → ce.vm = .none → s.vm.findClass E = some ce.cls → vx_W p l e R s m args below meth c H1 locs1 (cells + mc) (slots + ms) Q (F0 m pc ls rest) q9)
    (kk : ∀ (r : UInt32) (u : S) (t : State) (H1 : Heap) (locs1 : List Loc), t.heap = H1 → s.vm.Alike t.vm → post r u → B u t → H.size ≤ H1.size → (∀ q : Nat, q < H.size → ¬ A1 q → H1[q]? = H[q]?) → va_S A0 H0 H1 locs1 → W p l e R s m args below meth c H1 locs1 (cells + mc) (slots + ms) Q (F0 m (pc + 3) ls (.float r :: rest))) : W p l e R s m args below meth c H locs cells slots Q (F0 m pc ls st0) := by
  intro T hT X
  rcases hr T hT X with ⟨v, st₀, t, T', L, h0, X', hL, e1, e2, ⟨⟨r, u, hv, hp, hb⟩, hF⟩, st⟩ | ⟨q, st₀, t, T', L, E, ce, h0, X', hL, e1, e2, ⟨u, hp, hb, hF⟩, hce, hcv, hcl, st⟩
  · cases hv
    obtain ⟨k1, k2, k3⟩ := vx_keep h0 e1 hS hA hf hL hF
    obtain ⟨t2, a1, b1⟩ := kk r u t T'.heap (locs ++ L) e1.symm (by rw [← e2]; exact X'.warmed.alike) hp hb k1 k2 k3 T' rfl X'
    exact ⟨t2, st t2 a1, b1⟩
  · obtain ⟨k1, k2, k3⟩ := vx_keep h0 e1 hS hAX hf hL hF
    obtain ⟨t2, a1, b1⟩ := kx E ce q u t T'.heap (locs ++ L) e1.symm (by rw [← e2]; exact X'.warmed.alike) hp hb k1 k2 k3 (by rw [e1]; exact hce) hcv hcl T' rfl X'
    exact ⟨t2, st.trans a1, b1⟩
theorem vx_calld {S SX : Type} {post : UInt64 → S → Prop} {px : SX → Prop} {B : S → State → Prop} {BX : String → SX → State → Prop} {AX : Nat → Prop} (hr : vx_Run p l e R s m args below meth c H locs cells slots mc ms (F0 m pc ls st0) rest (va_Qd post B A1 a) (vx_X px BX AX) free) (hS : va_S A0 H0 H locs) (hA : ∀ q, q < H.size → A1 q → A0 q) (hf : ∀ q, free q → A0 q) (hAX : ∀ q, q < H.size → AX q → A0 q)
    (kx : ∀ (E : String) (ce : Cell) (q9 : Addr) (u : SX) (t : State) (H1 : Heap) (locs1 : List Loc), t.heap = H1 → s.vm.Alike t.vm → px u → BX E u t → H.size ≤ H1.size → (∀ q : Nat, q < H.size → ¬ AX q → H1[q]? = H[q]?) → va_S A0 H0 H1 locs1 → H1[q9]? = some ce → ce.vm = .none → s.vm.findClass E = some ce.cls → vx_W p l e R s m args below meth c H1 locs1 (cells + mc) (slots + ms) Q (F0 m pc ls rest) q9)
    (kk : ∀ (r : UInt64) (u : S) (t : State) (H1 : Heap) (locs1 : List Loc), t.heap = H1 → s.vm.Alike t.vm → post r u → B u t → H.size ≤ H1.size → (∀ q : Nat, q < H.size → ¬ A1 q → H1[q]? = H[q]?) → va_S A0 H0 H1 locs1 → W p l e R s m args below meth c H1 locs1 (cells + mc) (slots + ms) Q (F0 m (pc + 3) ls (.double r :: rest))) : W p l e R s m args below meth c H locs cells slots Q (F0 m pc ls st0) := by
  intro T hT X
  rcases hr T hT X with ⟨v, st₀, t, T', L, h0, X', hL, e1, e2, ⟨⟨r, u, hv, hp, hb⟩, hF⟩, st⟩ | ⟨q, st₀, t, T', L, E, ce, h0, X', hL, e1, e2, ⟨u, hp, hb, hF⟩, hce, hcv, hcl, st⟩
  · cases hv
    obtain ⟨k1, k2, k3⟩ := vx_keep h0 e1 hS hA hf hL hF
    obtain ⟨t2, a1, b1⟩ := kk r u t T'.heap (locs ++ L) e1.symm (by rw [← e2]; exact X'.warmed.alike) hp hb k1 k2 k3 T' rfl X'
    exact ⟨t2, st t2 a1, b1⟩
  · obtain ⟨k1, k2, k3⟩ := vx_keep h0 e1 hS hAX hf hL hF
    obtain ⟨t2, a1, b1⟩ := kx E ce q u t T'.heap (locs ++ L) e1.symm (by rw [← e2]; exact X'.warmed.alike) hp hb k1 k2 k3 (by rw [e1]; exact hce) hcv hcl T' rfl X'
    exact ⟨t2, st.trans a1, b1⟩
theorem vx_callv {S SX : Type} {post : S → Prop} {px : SX → Prop} {B : S → State → Prop} {BX : String → SX → State → Prop} {AX : Nat → Prop} (hr : vx_Run p l e R s m args below meth c H locs cells slots mc ms (F0 m pc ls st0) rest (va_Qv post B A1 a) (vx_X px BX AX) free) (hS : va_S A0 H0 H locs) (hA : ∀ q, q < H.size → A1 q → A0 q) (hf : ∀ q, free q → A0 q) (hAX : ∀ q, q < H.size → AX q → A0 q)
    (kx : ∀ (E : String) (ce : Cell) (q9 : Addr) (u : SX) (t : State) (H1 : Heap) (locs1 : List Loc), t.heap = H1 → s.vm.Alike t.vm → px u → BX E u t → H.size ≤ H1.size → (∀ q : Nat, q < H.size → ¬ AX q → H1[q]? = H[q]?) → va_S A0 H0 H1 locs1 → H1[q9]? = some ce → ce.vm = .none → s.vm.findClass E = some ce.cls → vx_W p l e R s m args below meth c H1 locs1 (cells + mc) (slots + ms) Q (F0 m pc ls rest) q9)
    (kk : ∀ (u : S) (t : State) (H1 : Heap) (locs1 : List Loc), t.heap = H1 → s.vm.Alike t.vm → post u → B u t → H.size ≤ H1.size → (∀ q : Nat, q < H.size → ¬ A1 q → H1[q]? = H[q]?) → va_S A0 H0 H1 locs1 → W p l e R s m args below meth c H1 locs1 (cells + mc) (slots + ms) Q (F0 m (pc + 3) ls (rest))) : W p l e R s m args below meth c H locs cells slots Q (F0 m pc ls st0) := by
  intro T hT X
  rcases hr T hT X with ⟨v, st₀, t, T', L, h0, X', hL, e1, e2, ⟨⟨u, hv, hp, hb⟩, hF⟩, st⟩ | ⟨q, st₀, t, T', L, E, ce, h0, X', hL, e1, e2, ⟨u, hp, hb, hF⟩, hce, hcv, hcl, st⟩
  · cases hv
    obtain ⟨k1, k2, k3⟩ := vx_keep h0 e1 hS hA hf hL hF
    obtain ⟨t2, a1, b1⟩ := kk u t T'.heap (locs ++ L) e1.symm (by rw [← e2]; exact X'.warmed.alike) hp hb k1 k2 k3 T' rfl X'
    exact ⟨t2, st t2 a1, b1⟩
  · obtain ⟨k1, k2, k3⟩ := vx_keep h0 e1 hS hAX hf hL hF
    obtain ⟨t2, a1, b1⟩ := kx E ce q u t T'.heap (locs ++ L) e1.symm (by rw [← e2]; exact X'.warmed.alike) hp hb k1 k2 k3 (by rw [e1]; exact hce) hcv hcl T' rfl X'
    exact ⟨t2, st.trans a1, b1⟩
/-- caught by the row x of this method's table; the rows ahead don't take it -/
theorem vx_catch {own name : String} {E : String} {ce : Cell} {q : Addr} (hown : s.vm.findClass own = some m.cls) (pre : List ExceptionTableEntry) (x : ExceptionTableEntry) (suf : List ExceptionTableEntry) (hsplit : c.exceptionTable.toList = pre ++ x :: suf)
    (hpass : ∀ z ∈ pre, covers z pc = false ∨ (z.catchType ≠ 0 ∧ ∃ nm : String, (Cond.classLink own z.catchType nm).before args s = true ∧ va_Nc E nm s)) (hx : covers x pc = true) (h0 : x.catchType ≠ 0)
    (hlink : (Cond.classLink own x.catchType name).before args s = true) (hcast : (Cond.castable E name).before args s = true) (hcell : H[q]? = some ce) (hv : ce.vm = .none) (hcl : s.vm.findClass E = some ce.cls)
    (kk : W p l e R s m args below meth c H locs cells slots Q (F0 m x.handlerPc ls [.ref q])) : vx_W p l e R s m args below meth c H locs cells slots Q (F0 m pc ls rest) q := by
  intro T hT X
  have hpl : e.platform.magicAccessors = ({} : Platform).magicAccessors := by rw [X.admits.platform]
  obtain ⟨c3, c4, hc3, hc4, hasg⟩ := Cond.castable_spec hcast
  cases Option.some.inj (hc3.symm.trans hcl)
  obtain ⟨c5, hc5, hcl5⟩ := Cond.classLink_spec hown hlink e.platform hpl
  cases Option.some.inj (hc4.symm.trans hc5)
  obtain ⟨vm', X', st⟩ := X.thenCaughtThrough q (g := F0 m pc ls rest) rfl (Steps.refl _) (by rw [hT]; exact hcell) (by rw [hv]; rfl) (by obtain ⟨k9, h9, -⟩ := Vm.findClass_spec hcl; exact ⟨k9, h9⟩) pre x suf hsplit
    (fun z hz => by
      rcases hpass z hz with h | ⟨hz0, nm, hl1, hn1⟩
      · exact Or.inl h
      · obtain ⟨c6, hc6, hcl6⟩ := Cond.classLink_spec hown hl1 e.platform hpl
        obtain ⟨a8, b8, h1, h2, h3⟩ := hn1
        cases Option.some.inj (h1.symm.trans hcl)
        cases Option.some.inj (h2.symm.trans hc6)
        exact Or.inr ⟨hz0, _, hcl6, h3⟩) hx (Or.inr ⟨h0, c4, hcl5, hasg⟩)
  obtain ⟨t, a1, b1⟩ := kk (T.setVm vm') hT X'
  exact ⟨t, st.trans a1, b1⟩
end Rows
section Ends
variable {p : Program} {l : Launch} {e : Env} {R : Room} {s : State} {m : MethodId} {args : Array Value} {below : List Frame} {meth : Method} {c : Code} {H : Heap} {locs : List Loc} {cells slots : Nat} {Q : State → Prop}
variable {mc ms : Nat} {free : Addr → Prop} {A0 A1 : Nat → Prop} {H0 : Heap} {a : Array Value} {ls : Array Slot} {st0 rest : List Value}
variable {Qc : Array Value → State → Outcome → State → Prop} {XC : String → State → State → Prop}
/-- what a body that may throw owes at its end -/
def vx_MQ (below : List Frame) (Qc : Array Value → State → Outcome → State → Prop) (XC : String → State → State → Prop) (a : Array Value) (s : State) (mc ms : Nat) (free : Addr → Prop) : State → Prop := fun t =>
  ∃ o, t.status = .running ∧ Ended t below o ∧ vx_Q Qc XC mc ms free a s o t
theorem vx_ret {g : JFrame} {mc ms : Nat} (k : W p l e R s m args below meth c H locs cells slots (MQ below Qc args s mc ms free) g) : W p l e R s m args below meth c H locs cells slots (vx_MQ below Qc XC args s mc ms free) g := by
  intro T hT X
  obtain ⟨t, a1, o, b1, b2, b3, b4⟩ := k T hT X
  exact ⟨t, a1, o, b1, b2, Or.inl ⟨b3, b4⟩⟩
/-- not caught here: it goes on to the caller -/
theorem vx_widen {g : JFrame} {q : Addr} {k n : Nat} (h1 : cells ≤ k) (h2 : slots ≤ n) (kk : vx_W p l e R s m args below meth c H locs k n Q g q) : vx_W p l e R s m args below meth c H locs cells slots Q g q := fun T hT X => kk T hT (stand_widen X h1 h2)
theorem vx_out {pc : Nat} {E : String} {ce : Cell} {q : Addr} {mc ms : Nat} (hout : ∀ x ∈ c.exceptionTable.toList, covers x pc = false) (hlocks : meth.locks = false) (hcell : H[q]? = some ce) (hv : ce.vm = .none) (hcl : s.vm.findClass E = some ce.cls)
    (hx : ∀ t : State, t.heap = H → s.vm.Alike t.vm → XC E s t) (hf : ∀ z ∈ locs, free z.base) (hc : cells ≤ mc) (hs : slots ≤ ms) :
    vx_W p l e R s m args below meth c H locs cells slots (vx_MQ below Qc XC args s mc ms free) (F0 m pc ls rest) q := by
  intro T hT X
  obtain ⟨st1, hrun, hend, hW, hsm⟩ := X.leaveThrown q (g := F0 m pc ls rest) rfl rfl rfl hout hlocks
  have hcell9 : (T.setFrames (.throwing q :: below)).heap[q]? = some ce := by
    show T.heap[q]? = some ce
    rw [hT]; exact hcell
  exact ⟨_, st1, .threw q, hrun, hend, Or.inr ⟨q, rfl, E, ce, locs, hx _ hT hW.alike, hcell9, hv, hcl, hW, hsm.mono hc hs, hf⟩⟩
theorem vx_frame {U : State} {k n : Nat} (h : s.sameButNew ({ U with vm := s.vm } : State) locs k n) : s.heap.size ≤ U.heap.size ∧ ∀ q : Nat, q < s.heap.size → (∀ z ∈ locs, z.base ≠ q) → U.heap[q]? = s.heap[q]? := by
  obtain ⟨-, h2, -, -, -, h6⟩ := h
  refine ⟨h2, fun q hq hz => ?_⟩
  obtain ⟨c9, e1, e2, e3, e4⟩ := h6 q _ (Array.getElem?_eq_getElem hq)
  have hs : c9.slots = (s.heap[q]).slots := Array.ext_getElem? fun i => e4 i fun hm => hz _ hm rfl
  have h9 : c9 = s.heap[q] := by
    rw [hs] at e2
    exact e2
  have e5 : U.heap[q]? = some c9 := e1
  rw [e5, h9, Array.getElem?_eq_getElem hq]
/-- the words of a throw but the four that speak of the heap -/
def vx_no (w : Cond) : Bool := decide (w ≠ .isRef (.static Bundle.tN "UNASSIGNED_STACK" Bundle.steD)) && decide (w ≠ .isRef (.static Bundle.tN "SUPPRESSED_SENTINEL" Bundle.listD)) && decide (w ≠ .laysStatic Bundle.tN "UNASSIGNED_STACK" Bundle.steD) && decide (w ≠ .laysStatic Bundle.tN "SUPPRESSED_SENTINEL" Bundle.listD)
def vx_at0 (own : String) (ic : Nat) (X : String) (names : List String) : List Cond := (Bundle.ownAtoms0 own ic X names).filter vx_no
def vx_atS (own : String) (ic : Nat) (X : String) (names : List String) : List Cond := (Bundle.ownAtoms own ic X names).filter vx_no
/-- a word that the tables alone decide, or a good one -/
def vx_ot (w : Cond) : Bool := w.onTables || goodWord w
theorem vx_ot_at {args a' : Array Value} {s U : State} {w : Cond} (hW : s.WarmedH U.vm) (hvm : s.vm = U.vm) (hg : vx_ot w = true) (h : w.before args s = true) : w.before a' U = true := by
  simp only [vx_ot, Bool.or_eq_true] at hg
  rcases hg with hg | hg
  · exact va_tabs hg hvm h
  · exact word_at hW (good_of_word hg) h
/-- a list's words: the good ones out of the method's own list, the others by premises of their own -/
theorem vx_hat {args : Array Value} {s : State} {L B : List Cond} (h1 : ∀ w ∈ L.filter goodWord, w.before args s = true) (h2 : ∀ w ∈ L.filter (fun w => !goodWord w), w ∈ B) (h3 : ∀ w ∈ B, w.before args s = true) : ∀ w ∈ L, w.before args s = true := by
  intro w hw
  by_cases g : goodWord w = true
  · exact h1 w (List.mem_filter.mpr ⟨hw, g⟩)
  · refine h3 w (h2 w (List.mem_filter.mpr ⟨hw, ?_⟩))
    show (!goodWord w) = true
    cases hgw : goodWord w
    · rfl
    · exact absurd hgw g
theorem vx_c {args : Array Value} {s : State} {w : Cond} {B : List Cond} (h : w.before args s = true) (t : ∀ w ∈ B, w.before args s = true) : ∀ w' ∈ w :: B, w'.before args s = true := fun w' h' => (List.mem_cons.mp h').elim (fun e => by rw [e]; exact h) (t w')
theorem vx_n {args : Array Value} {s : State} : ∀ w ∈ ([] : List Cond), w.before args s = true := fun _ h => nomatch h
theorem vx_own {args : Array Value} {s : State} {L : List Cond} (h1 : ∀ w ∈ L.filter vx_no, w.before args s = true)
    (hU : (Cond.isRef (.static Bundle.tN "UNASSIGNED_STACK" Bundle.steD)).before args s = true) (hN : (Cond.isRef (.static Bundle.tN "SUPPRESSED_SENTINEL" Bundle.listD)).before args s = true)
    (lU : (Cond.laysStatic Bundle.tN "UNASSIGNED_STACK" Bundle.steD).before args s = true) (lN : (Cond.laysStatic Bundle.tN "SUPPRESSED_SENTINEL" Bundle.listD).before args s = true) : ∀ w ∈ L, w.before args s = true := by
  intro w hw
  by_cases e1 : w = .isRef (.static Bundle.tN "UNASSIGNED_STACK" Bundle.steD)
  · rw [e1]; exact hU
  · by_cases e2 : w = .isRef (.static Bundle.tN "SUPPRESSED_SENTINEL" Bundle.listD)
    · rw [e2]; exact hN
    · by_cases e3 : w = .laysStatic Bundle.tN "UNASSIGNED_STACK" Bundle.steD
      · rw [e3]; exact lU
      · by_cases e4 : w = .laysStatic Bundle.tN "SUPPRESSED_SENTINEL" Bundle.listD
        · rw [e4]; exact lN
        · exact h1 w (List.mem_filter.mpr ⟨hw, by unfold vx_no; rw [decide_eq_true e1, decide_eq_true e2, decide_eq_true e3, decide_eq_true e4]; rfl⟩)
/-- where a static field lies, its class's statics cell in H -/
def vx_L (C n d : String) (A : Nat → Prop) (U : State) (H : Heap) : Prop := ∃ (c : ClassId) (k : Class) (i : Nat) (f : Field) (a : Nat) (cell : Cell), U.vm.findClass C = some c ∧ U.fieldFound? C n d = some (c, k, i, f) ∧ f.isStatic = true ∧ k.statics = some a ∧ H[a]? = some cell ∧ cell.vm.isStatics = true ∧ cell.cls = c ∧ f.slot < cell.slots.size ∧ k.staticTypes[f.slot]? = some f.type ∧ ¬ A a
theorem vx_L.moved {C n d : String} {A : Nat → Prop} {u U : State} {H : Heap} (hvm : u.vm.Alike U.vm) (h : vx_L C n d A u H) : vx_L C n d A U H := by
  obtain ⟨c, k, i, f, a, cell, h1, h2, h3, h4, h5, h6, h7, h8, h9, h10⟩ := h
  obtain ⟨k', hi', he⟩ := State.fieldFound?_setVm hvm h2
  exact ⟨c, k', i, f, a, cell, by rw [hvm.findClass]; exact h1, hi', h3, by rw [he]; exact h4, h5, h6, h7, h8, by rw [he]; exact h9, h10⟩
theorem vx_L.kept {C n d : String} {A : Nat → Prop} {U : State} {H H1 : Heap} (h : vx_L C n d A U H) (hq : ∀ a : Nat, a < H.size → ¬ A a → H1[a]? = H[a]?) : vx_L C n d A U H1 := by
  obtain ⟨c, k, i, f, a, cell, h1, h2, h3, h4, h5, h6, h7, h8, h9, h10⟩ := h
  exact ⟨c, k, i, f, a, cell, h1, h2, h3, h4, by rw [hq a (Array.getElem?_eq_some_iff.mp h5).1 h10]; exact h5, h6, h7, h8, h9, h10⟩
theorem vx_L.narrow {C n d : String} {A B : Nat → Prop} {U : State} {H : Heap} (h : vx_L C n d A U H) (hAB : ∀ q, B q → A q) : vx_L C n d B U H := by
  obtain ⟨c, k, i, f, a, cell, h1, h2, h3, h4, h5, h6, h7, h8, h9, h10⟩ := h
  exact ⟨c, k, i, f, a, cell, h1, h2, h3, h4, h5, h6, h7, h8, h9, fun z => h10 (hAB _ z)⟩
theorem vx_L.word {C n d : String} {A : Nat → Prop} {s : State} {args : Array Value} (h : vx_L C n d A s s.heap) : (Cond.laysStatic C n d).before args s = true := by
  obtain ⟨c, k, i, f, a, cell, h1, h2, h3, h4, h5, h6, h7, h8, h9, -⟩ := h
  show (Cond.laysStatic C n d).holds args s none s [] = true
  exact Cond.laysStatic_of h1 h2 h3 h4 h5 h6 h7 h8 h9
/-- .. and what it holds: null or some reference -/
def vx_Zq (C n d : String) (A : Nat → Prop) (U : State) (H : Heap) : Prop := va_Zq C n d A U H ∧ vx_L C n d A U H
theorem vx_Zq.moved {C n d : String} {A : Nat → Prop} {u U : State} {H : Heap} (hvm : u.vm.Alike U.vm) (h : vx_Zq C n d A u H) : vx_Zq C n d A U H := ⟨va_Zq.moved hvm h.1, vx_L.moved hvm h.2⟩
theorem vx_Zq.kept {C n d : String} {A : Nat → Prop} {U : State} {H H1 : Heap} (h : vx_Zq C n d A U H) (hq : ∀ a : Nat, a < H.size → ¬ A a → H1[a]? = H[a]?) : vx_Zq C n d A U H1 := ⟨va_Zq.kept h.1 hq, vx_L.kept h.2 hq⟩
theorem vx_Zq.narrow {C n d : String} {A B : Nat → Prop} {U : State} {H : Heap} (h : vx_Zq C n d A U H) (hAB : ∀ q, B q → A q) : vx_Zq C n d B U H := ⟨va_Zq.narrow h.1 hAB, vx_L.narrow h.2 hAB⟩
theorem vx_Zqof {args : Array Value} {s : State} {C n d : String} {A : Nat → Prop} (hl : (Cond.laysStatic C n d).before args s = true) (hini : (Cond.initialized C).before args s = true) (h : (Cond.isRef (.static C n d)).before args s = true) (hA : ∀ a : Nat, a < s.heap.size → ¬ A a) : vx_Zq C n d A s s.heap := by
  refine ⟨va_Zqof hl hini h hA, ?_⟩
  obtain ⟨c, k, i, f, a, cell, h1, h2, h3, h4, h5, h6, h7, h8, h9⟩ := Cond.laysStatic_spec hl
  exact ⟨c, k, i, f, a, cell, h1, h2, h3, h4, h5, h6, h7, h8, h9, hA a (Array.getElem?_eq_some_iff.mp h5).1⟩
theorem vx_isRef {C n d : String} {v : Value} {A : Nat → Prop} {s : State} {args : Array Value} (h : va_Z C n d v A s s.heap) (hv : v.isRef = true) : (Cond.isRef (.static C n d)).before args s = true := by
  obtain ⟨cf, kf, fi, f, a, cell, h1, h2, h3, h4, h5, h6, h7, -⟩ := h
  have he : (Term.static C n d).eval args s none [] s = some v := by
    simp [Term.eval, State.fieldNamed?, h1, h2, h4, h5, h6, h7]
  simp only [Cond.before, Cond.holds, Cond.value, he]
  cases v <;> simp_all [Value.isRef]
theorem vx_isRefq {C n d : String} {A : Nat → Prop} {s : State} {args : Array Value} (h : va_Zq C n d A s s.heap) : (Cond.isRef (.static C n d)).before args s = true := by
  rcases h with h | ⟨t, h⟩
  · exact vx_isRef h rfl
  · exact vx_isRef h rfl
/-- the same frame, seen from here: as if the method were called anew in this heap -/
theorem vx_rebase {T : State} (X : Stand p l e R s m args below meth c T locs cells slots) {R' : Room} (hf : R'.frames ≤ R.frames) (hl : R'.locals ≤ R.locals) (hc : cells + R'.cells ≤ R.cells) (hs : slots + R'.slots ≤ R.slots) :
    Stand p l e R' ((T.setVm s.vm).setFrames (.invoking m args :: below)) m args below meth c T [] 0 0 := by
  have htop : (T.setVm s.vm).topJava?.isSome := X.here.top
  have hF : ((T.setVm s.vm).setFrames (.invoking m args :: below)).frames = .invoking m args :: below := State.frames_setFrames _ (State.cur_lt_of_top htop)
  obtain ⟨g₀, hg0⟩ := Option.isSome_iff_exists.mp htop
  obtain ⟨r, hr⟩ := State.topJava?_eq_some.mp hg0
  have hl9 : e.platform.stackLimits (T.setVm s.vm).me = e.platform.stackLimits s.me := X.limits
  have hb9 : (T.setVm s.vm).me.stackBytes = s.me.stackBytes := X.bytes
  refine ⟨X.admits, X.cas, X.clock, hF, ?_, X.hears, X.method, X.code, X.here, X.tail, X.warmed, ?_, ?_, ?_⟩
  · have h := X.room
    have hU : ((T.setVm s.vm).setFrames (.invoking m args :: below)).localsInUse = s.localsInUse := by
      rw [State.localsInUse_invoking hF (meth := meth) (c := c) X.method X.code, State.localsInUse_invoking X.frames X.method X.code]
    simp only [State.hasRoom, Bool.and_eq_true, decide_eq_true_eq] at h ⊢
    obtain ⟨⟨⟨⟨h1, h2, h3, h4, h5, h6⟩, h7⟩, h8⟩, h9⟩ := h
    rw [X.frames, List.length_cons] at h2 h3
    have q1 := X.heapSize
    have q2 := X.used
    simp only [hF, hU, List.length_cons, State.stackLimits_setFrames, State.stackBytes_setFrames, hl9, hb9]
    refine ⟨⟨⟨⟨by omega, by omega, by omega, by omega, by omega, h6⟩, ?_⟩, ?_⟩, X.book⟩
    · show T.heap.size + R'.cells ≤ e.platform.maxCells
      omega
    · show T.slotsUsed + R'.slots ≤ e.platform.maxSlots
      omega
  · rw [State.stackLimits_setFrames]; rfl
  · rw [State.stackBytes_setFrames]; rfl
  · refine ⟨?_, Nat.le_refl _, Nat.le_refl _, ?_, ?_, fun a c9 h9 => ⟨c9, h9, rfl, rfl, fun _ _ => rfl⟩⟩
    · obtain ⟨t, ht, -⟩ := State.frames_cons hr
      show T.setVm s.vm = { ((T.setVm s.vm).setFrames (.invoking m args :: below)).setFrames (T.setVm s.vm).frames with heap := T.heap, slotsUsed := T.slotsUsed }
      rw [State.setFrames_setFrames, State.setFrames_self ht]
      rfl
    · show T.slotsUsed = T.slotsUsed + ((T.heap.toList.drop T.heap.size).map (·.slots.size)).sum
      rw [List.drop_eq_nil_of_le (Nat.le_of_eq Array.length_toList)]
      rfl
    · show ((T.heap.toList.drop T.heap.size).map (·.slots.size)).sum ≤ 0
      rw [List.drop_eq_nil_of_le (Nat.le_of_eq Array.length_toList)]
      exact Nat.le_refl _
/-- 'throw new E()': new; dup; invokespecial; athrow -/
theorem vx_throw0 {cc : ByteArray} {pc : Nat} (hexec : p.tables.exec = Jvm.exec) (hb : c.code = cc) (hl : l.stackTraces = false) {own cls : String} {names : List String} {ik ic mc ms : Nat} {A : Nat → Prop}
    (hown : s.vm.findClass own = some m.cls) (hcls : Bundle.fit cls = true) (hnames : ∀ n ∈ names, Bundle.fit n = true)
    (hk : (Cond.classLink own ik cls).before args s = true) (hini : (Cond.initialized cls).before args s = true) (hat : ∀ w ∈ vx_at0 own ic cls names, w.before args s = true)
    (hgood : ∀ w ∈ Cond.classLink own ik cls :: Cond.initialized cls :: vx_at0 own ic cls names, vx_ot w = true)
    (hU : vx_Zq Bundle.tN "UNASSIGNED_STACK" Bundle.steD A s s.heap) (hN : vx_Zq Bundle.tN "SUPPRESSED_SENTINEL" Bundle.listD A s s.heap) (hS : va_S A s.heap H locs) (hsize : ls.size = c.maxLocals)
    (d0 : decode cc pc = .ok (.new ik, 3)) (d3 : decode cc (pc + 3) = .ok (.dup, 1)) (d4 : decode cc (pc + 4) = .ok (.invokespecial ic, 3)) (d7 : decode cc (pc + 7) = .ok (.athrow, 1))
    (hout : ∀ x ∈ c.exceptionTable.toList, covers x (pc + 7) = false)
    (hRframes : names.length + 3 < R.frames) (hRlocals : (rest.map fun v => v.category).sum + (13 * (names.length + 1) + 42) ≤ R.locals) (hRcells : cells + 1 ≤ R.cells) (hRslots : slots + 6 ≤ R.slots) (hlocks : meth.locks = false)
    (hx : ∀ t : State, s.vm.Alike t.vm → H.size ≤ t.heap.size → (∀ q : Nat, q < H.size → t.heap[q]? = H[q]?) → XC cls s t)
    (hf : ∀ z ∈ locs, free z.base) (hc : cells + 1 ≤ mc) (hs : slots + 6 ≤ ms) :
    W p l e R s m args below meth c H locs cells slots (vx_MQ below Qc XC args s mc ms free) (F0 m pc ls rest) := by
  intro T hT X
  have htr : e.platform.stackTraces = false := (show e.platform.stackTraces = l.stackTraces by rw [X.admits.platform]).trans hl
  have Y := vx_rebase X (R' := { frames := R.frames, locals := R.locals, cells := 1, slots := 6 }) (Nat.le_refl _) (Nat.le_refl _) hRcells hRslots
  obtain ⟨s', hA⟩ : ∃ z, z = (T.setVm s.vm).setFrames (.invoking m args :: below) := ⟨_, rfl⟩
  rw [← hA] at Y
  have hvm : s'.vm = s.vm := by rw [hA]; rfl
  have hhp : s'.heap = H := by rw [hA]; exact hT
  have hW0 : s.WarmedH s'.vm := by rw [hvm]; exact State.WarmedH.refl s
  have hat' : ∀ w ∈ vx_at0 own ic cls names, w.before args s' = true := fun w hw => vx_ot_at hW0 hvm.symm (hgood w (List.mem_cons_of_mem _ (List.mem_cons_of_mem _ hw))) (hat w hw)
  have hk' : (Cond.classLink own ik cls).before args s' = true := vx_ot_at hW0 hvm.symm (hgood _ List.mem_cons_self) hk
  have hini' : (Cond.initialized cls).before args s' = true := vx_ot_at hW0 hvm.symm (hgood _ (List.mem_cons_of_mem _ List.mem_cons_self)) hini
  have hU' : vx_Zq Bundle.tN "UNASSIGNED_STACK" Bundle.steD A s' s'.heap := by rw [hhp]; exact vx_Zq.moved hW0.alike (hU.kept hS.2.1)
  have hN' : vx_Zq Bundle.tN "SUPPRESSED_SENTINEL" Bundle.listD A s' s'.heap := by rw [hhp]; exact vx_Zq.moved hW0.alike (hN.kept hS.2.1)
  have h : ∀ w ∈ Bundle.ownAtoms0 own ic cls names, w.before args s' = true := vx_own hat' (vx_isRefq hU'.1) (vx_isRefq hN'.1) hU'.2.word hN'.2.word
  have hown' : s'.vm.findClass own = some m.cls := by rw [hvm]; exact hown
  have hins : (Cond.instantiable cls 6).before args s' = true := h _ (by simp [Bundle.ownAtoms0])
  obtain ⟨vm₁, cX, kX, hfX, hkX, -, -, X₁, st1⟩ := Y.newCold hexec (own := own) (C := cls) (index := ik) (n := 6) hown' hk' hins hini'
    (g := F0 m pc ls rest) rfl (by rw [hb]; exact d0) (Nat.le_refl _) (Nat.le_refl _)
  generalize hT1 : (T.setVm vm₁).pushCell { cls := cX, slots := kX.instanceTypes.map defaultValue, vm := .none } = T1 at X₁ st1
  have hcat : (Value.ref T.heap.size).category = 1 := rfl
  have hcellA : T1.heap[T.heap.size]? = some (freshCell cX kX) := by rw [← hT1]; exact State.heap_pushCell_size _ _
  have d3' : decode c.code (pc + 3) = .ok (.dup, 1) := by rw [hb]; exact d3
  obtain ⟨U, hsteps, hrun, hend, hW, hsame, ce, hce, hO⟩ := X₁.ctorThrow0 hexec htr (own := own) (cls := cls) (names := names) (ic := ic) hown' hcls hnames h (fun x hx => nomatch hx) hfX hkX hcellA (by rw [hhp, hT]; exact Nat.le_refl _)
    (g := { method := m, pc := pc + 4, locals := ls, stack := .ref T.heap.size :: .ref T.heap.size :: rest, locked := none }) rfl hsize rfl rfl (rest := rest) rfl
    (by rw [hb]; exact d4) (by rw [hb]; exact d7) hout hRframes (by simp only [List.map_cons, List.sum_cons, hcat]; omega) hlocks
  obtain ⟨f1, f2⟩ := vx_frame hsame
  rw [hhp] at f1 f2
  have hWs : s.WarmedH U.vm := State.WarmedH.trans hW0 hW
  have hcl : s.vm.findClass cls = some ce.cls := by
    have h9 := hO.cls
    rw [hvm] at h9
    exact h9
  have hall : s.sameButNew ({ U with vm := s.vm } : State) locs mc ms := by
    subst hA
    obtain ⟨e1, e2⟩ := hsame
    rw [State.setFrames_setFrames] at e1
    have h2 : (T.setVm s.vm).sameButNew ({ U with vm := s.vm } : State) [] (0 + 1) (0 + 6) := ⟨e1, e2⟩
    have h3 := X.same.trans h2
    rw [List.append_nil] at h3
    exact h3.mono hc hs
  refine ⟨U, ?_, .threw T.heap.size, hrun, hend, Or.inr ⟨T.heap.size, rfl, cls, ce, locs, hx U hWs.alike f1 (fun q hq => f2 q hq (fun z hz => nomatch hz)), hce, hO.vm, hcl, hWs, hall, hf⟩⟩
  refine st1 _ ?_
  show Steps p.tables e below (T1.setTop { method := m, pc := pc + 3, locals := ls, stack := .ref T.heap.size :: rest, locked := none }) _
  jvm_step X₁.here [X₁.here.top, hexec, d3', Value.category]
  exact hsteps
/-- 'throw new E("text")': new; dup; ldc; invokespecial; athrow -/
theorem vx_throwS {cc : ByteArray} {pc : Nat} (hexec : p.tables.exec = Jvm.exec) (hb : c.code = cc) (hl : l.stackTraces = false) {own cls text : String} {names : List String} {ik is ic mc ms sa : Nat} {A : Nat → Prop}
    (hown : s.vm.findClass own = some m.cls) (hcls : Bundle.fit cls = true) (hnames : ∀ n ∈ names, Bundle.fit n = true)
    (hk : (Cond.classLink own ik cls).before args s = true) (hini : (Cond.initialized cls).before args s = true) (hstr : vk_R own is text sa s) (hat : ∀ w ∈ vx_atS own ic cls names, w.before args s = true)
    (hgood : ∀ w ∈ Cond.classLink own ik cls :: Cond.initialized cls :: vx_atS own ic cls names, vx_ot w = true)
    (hU : vx_Zq Bundle.tN "UNASSIGNED_STACK" Bundle.steD A s s.heap) (hN : vx_Zq Bundle.tN "SUPPRESSED_SENTINEL" Bundle.listD A s s.heap) (hS : va_S A s.heap H locs) (hsize : ls.size = c.maxLocals)
    (d0 : decode cc pc = .ok (.new ik, 3)) (d3 : decode cc (pc + 3) = .ok (.dup, 1)) (d4 : decode cc (pc + 4) = .ok (.ldc is, 2)) (d6 : decode cc (pc + 6) = .ok (.invokespecial ic, 3)) (d9 : decode cc (pc + 9) = .ok (.athrow, 1))
    (hout : ∀ x ∈ c.exceptionTable.toList, covers x (pc + 9) = false)
    (hRframes : names.length + 3 < R.frames) (hRlocals : (rest.map fun v => v.category).sum + (13 * (names.length + 1) + 43) ≤ R.locals) (hRcells : cells + 1 ≤ R.cells) (hRslots : slots + 6 ≤ R.slots) (hlocks : meth.locks = false)
    (hx : ∀ t : State, s.vm.Alike t.vm → H.size ≤ t.heap.size → (∀ q : Nat, q < H.size → t.heap[q]? = H[q]?) → XC cls s t)
    (hf : ∀ z ∈ locs, free z.base) (hc : cells + 1 ≤ mc) (hs : slots + 6 ≤ ms) :
    W p l e R s m args below meth c H locs cells slots (vx_MQ below Qc XC args s mc ms free) (F0 m pc ls rest) := by
  intro T hT X
  have htr : e.platform.stackTraces = false := (show e.platform.stackTraces = l.stackTraces by rw [X.admits.platform]).trans hl
  have Y := vx_rebase X (R' := { frames := R.frames, locals := R.locals, cells := 1, slots := 6 }) (Nat.le_refl _) (Nat.le_refl _) hRcells hRslots
  obtain ⟨s', hA⟩ : ∃ z, z = (T.setVm s.vm).setFrames (.invoking m args :: below) := ⟨_, rfl⟩
  rw [← hA] at Y
  have hvm : s'.vm = s.vm := by rw [hA]; rfl
  have hhp : s'.heap = H := by rw [hA]; exact hT
  have hW0 : s.WarmedH s'.vm := by rw [hvm]; exact State.WarmedH.refl s
  have hat' : ∀ w ∈ vx_atS own ic cls names, w.before args s' = true := fun w hw => vx_ot_at hW0 hvm.symm (hgood w (List.mem_cons_of_mem _ (List.mem_cons_of_mem _ hw))) (hat w hw)
  have hk' : (Cond.classLink own ik cls).before args s' = true := vx_ot_at hW0 hvm.symm (hgood _ List.mem_cons_self) hk
  have hini' : (Cond.initialized cls).before args s' = true := vx_ot_at hW0 hvm.symm (hgood _ (List.mem_cons_of_mem _ List.mem_cons_self)) hini
  have hU' : vx_Zq Bundle.tN "UNASSIGNED_STACK" Bundle.steD A s' s'.heap := by rw [hhp]; exact vx_Zq.moved hW0.alike (hU.kept hS.2.1)
  have hN' : vx_Zq Bundle.tN "SUPPRESSED_SENTINEL" Bundle.listD A s' s'.heap := by rw [hhp]; exact vx_Zq.moved hW0.alike (hN.kept hS.2.1)
  have h : ∀ w ∈ Bundle.ownAtoms own ic cls names, w.before args s' = true := vx_own hat' (vx_isRefq hU'.1) (vx_isRefq hN'.1) hU'.2.word hN'.2.word
  have hown' : s'.vm.findClass own = some m.cls := by rw [hvm]; exact hown
  have hins : (Cond.instantiable cls 6).before args s' = true := h _ (by simp [Bundle.ownAtoms])
  obtain ⟨vm₁, cX, kX, hfX, hkX, -, -, X₁, st1⟩ := Y.newCold hexec (own := own) (C := cls) (index := ik) (n := 6) hown' hk' hins hini'
    (g := F0 m pc ls rest) rfl (by rw [hb]; exact d0) (Nat.le_refl _) (Nat.le_refl _)
  generalize hT1 : (T.setVm vm₁).pushCell { cls := cX, slots := kX.instanceTypes.map defaultValue, vm := .none } = T1 at X₁ st1
  have hcat : (Value.ref T.heap.size).category = 1 := rfl
  have hcellA : T1.heap[T.heap.size]? = some (freshCell cX kX) := by rw [← hT1]; exact State.heap_pushCell_size _ _
  have d3' : decode c.code (pc + 3) = .ok (.dup, 1) := by rw [hb]; exact d3
  have d4' : decode c.code (pc + 4) = .ok (.ldc is, 2) := by rw [hb]; exact d4
  have hstr' : vk_R own is text sa s' := vk_R.warm hW0 hstr
  obtain ⟨U, hsteps, hrun, hend, hW, hsame, ce, hce, hO⟩ := X₁.ctorThrowS hexec htr (own := own) (cls := cls) (names := names) (ic := ic) hown' hcls hnames h (fun x hx => nomatch hx) hfX hkX hcellA (by rw [hhp, hT]; exact Nat.le_refl _) (msg := .ref sa) rfl
    (g := { method := m, pc := pc + 6, locals := ls, stack := .ref sa :: .ref T.heap.size :: .ref T.heap.size :: rest, locked := none }) rfl hsize rfl rfl (rest := rest) rfl
    (by rw [hb]; exact d6) (by rw [hb]; exact d9) hout hRframes (by simp only [List.map_cons, List.sum_cons, hcat]; omega) hlocks
  obtain ⟨f1, f2⟩ := vx_frame hsame
  rw [hhp] at f1 f2
  have hWs : s.WarmedH U.vm := State.WarmedH.trans hW0 hW
  have hcl : s.vm.findClass cls = some ce.cls := by
    have h9 := hO.cls
    rw [hvm] at h9
    exact h9
  have hall : s.sameButNew ({ U with vm := s.vm } : State) locs mc ms := by
    subst hA
    obtain ⟨e1, e2⟩ := hsame
    rw [State.setFrames_setFrames] at e1
    have h2 : (T.setVm s.vm).sameButNew ({ U with vm := s.vm } : State) [] (0 + 1) (0 + 6) := ⟨e1, e2⟩
    have h3 := X.same.trans h2
    rw [List.append_nil] at h3
    exact h3.mono hc hs
  refine ⟨U, ?_, .threw T.heap.size, hrun, hend, Or.inr ⟨T.heap.size, rfl, cls, ce, locs, hx U hWs.alike f1 (fun q hq => f2 q hq (fun z hz => nomatch hz)), hce, hO.vm, hcl, hWs, hall, hf⟩⟩
  refine st1 _ ?_
  show Steps p.tables e below (T1.setTop { method := m, pc := pc + 3, locals := ls, stack := .ref T.heap.size :: rest, locked := none }) _
  jvm_step X₁.here [X₁.here.top, hexec, d3', Value.category]
  exact X₁.ldcString hexec (own := own) (text := text) (index := is) (a := sa) hown' hstr'.1 hstr'.2
    (g := { method := m, pc := pc + 4, locals := ls, stack := .ref T.heap.size :: .ref T.heap.size :: rest, locked := none }) rfl d4' _ hsteps
/-- 'throw new E("text")', the text by a wide index -/
theorem vx_throwSW {cc : ByteArray} {pc : Nat} (hexec : p.tables.exec = Jvm.exec) (hb : c.code = cc) (hl : l.stackTraces = false) {own cls text : String} {names : List String} {ik is ic mc ms sa : Nat} {A : Nat → Prop}
    (hown : s.vm.findClass own = some m.cls) (hcls : Bundle.fit cls = true) (hnames : ∀ n ∈ names, Bundle.fit n = true)
    (hk : (Cond.classLink own ik cls).before args s = true) (hini : (Cond.initialized cls).before args s = true) (hstr : vk_R own is text sa s) (hat : ∀ w ∈ vx_atS own ic cls names, w.before args s = true)
    (hgood : ∀ w ∈ Cond.classLink own ik cls :: Cond.initialized cls :: vx_atS own ic cls names, vx_ot w = true)
    (hU : vx_Zq Bundle.tN "UNASSIGNED_STACK" Bundle.steD A s s.heap) (hN : vx_Zq Bundle.tN "SUPPRESSED_SENTINEL" Bundle.listD A s s.heap) (hS : va_S A s.heap H locs) (hsize : ls.size = c.maxLocals)
    (d0 : decode cc pc = .ok (.new ik, 3)) (d3 : decode cc (pc + 3) = .ok (.dup, 1)) (d4 : decode cc (pc + 4) = .ok (.ldc_w is, 3)) (d7 : decode cc (pc + 7) = .ok (.invokespecial ic, 3)) (d10 : decode cc (pc + 10) = .ok (.athrow, 1))
    (hout : ∀ x ∈ c.exceptionTable.toList, covers x (pc + 10) = false)
    (hRframes : names.length + 3 < R.frames) (hRlocals : (rest.map fun v => v.category).sum + (13 * (names.length + 1) + 43) ≤ R.locals) (hRcells : cells + 1 ≤ R.cells) (hRslots : slots + 6 ≤ R.slots) (hlocks : meth.locks = false)
    (hx : ∀ t : State, s.vm.Alike t.vm → H.size ≤ t.heap.size → (∀ q : Nat, q < H.size → t.heap[q]? = H[q]?) → XC cls s t)
    (hf : ∀ z ∈ locs, free z.base) (hc : cells + 1 ≤ mc) (hs : slots + 6 ≤ ms) :
    W p l e R s m args below meth c H locs cells slots (vx_MQ below Qc XC args s mc ms free) (F0 m pc ls rest) := by
  intro T hT X
  have htr : e.platform.stackTraces = false := (show e.platform.stackTraces = l.stackTraces by rw [X.admits.platform]).trans hl
  have Y := vx_rebase X (R' := { frames := R.frames, locals := R.locals, cells := 1, slots := 6 }) (Nat.le_refl _) (Nat.le_refl _) hRcells hRslots
  obtain ⟨s', hA⟩ : ∃ z, z = (T.setVm s.vm).setFrames (.invoking m args :: below) := ⟨_, rfl⟩
  rw [← hA] at Y
  have hvm : s'.vm = s.vm := by rw [hA]; rfl
  have hhp : s'.heap = H := by rw [hA]; exact hT
  have hW0 : s.WarmedH s'.vm := by rw [hvm]; exact State.WarmedH.refl s
  have hat' : ∀ w ∈ vx_atS own ic cls names, w.before args s' = true := fun w hw => vx_ot_at hW0 hvm.symm (hgood w (List.mem_cons_of_mem _ (List.mem_cons_of_mem _ hw))) (hat w hw)
  have hk' : (Cond.classLink own ik cls).before args s' = true := vx_ot_at hW0 hvm.symm (hgood _ List.mem_cons_self) hk
  have hini' : (Cond.initialized cls).before args s' = true := vx_ot_at hW0 hvm.symm (hgood _ (List.mem_cons_of_mem _ List.mem_cons_self)) hini
  have hU' : vx_Zq Bundle.tN "UNASSIGNED_STACK" Bundle.steD A s' s'.heap := by rw [hhp]; exact vx_Zq.moved hW0.alike (hU.kept hS.2.1)
  have hN' : vx_Zq Bundle.tN "SUPPRESSED_SENTINEL" Bundle.listD A s' s'.heap := by rw [hhp]; exact vx_Zq.moved hW0.alike (hN.kept hS.2.1)
  have h : ∀ w ∈ Bundle.ownAtoms own ic cls names, w.before args s' = true := vx_own hat' (vx_isRefq hU'.1) (vx_isRefq hN'.1) hU'.2.word hN'.2.word
  have hown' : s'.vm.findClass own = some m.cls := by rw [hvm]; exact hown
  have hins : (Cond.instantiable cls 6).before args s' = true := h _ (by simp [Bundle.ownAtoms])
  obtain ⟨vm₁, cX, kX, hfX, hkX, -, -, X₁, st1⟩ := Y.newCold hexec (own := own) (C := cls) (index := ik) (n := 6) hown' hk' hins hini'
    (g := F0 m pc ls rest) rfl (by rw [hb]; exact d0) (Nat.le_refl _) (Nat.le_refl _)
  generalize hT1 : (T.setVm vm₁).pushCell { cls := cX, slots := kX.instanceTypes.map defaultValue, vm := .none } = T1 at X₁ st1
  have hcat : (Value.ref T.heap.size).category = 1 := rfl
  have hcellA : T1.heap[T.heap.size]? = some (freshCell cX kX) := by rw [← hT1]; exact State.heap_pushCell_size _ _
  have d3' : decode c.code (pc + 3) = .ok (.dup, 1) := by rw [hb]; exact d3
  have d4' : decode c.code (pc + 4) = .ok (.ldc_w is, 3) := by rw [hb]; exact d4
  have hstr' : vk_R own is text sa s' := vk_R.warm hW0 hstr
  obtain ⟨U, hsteps, hrun, hend, hW, hsame, ce, hce, hO⟩ := X₁.ctorThrowS hexec htr (own := own) (cls := cls) (names := names) (ic := ic) hown' hcls hnames h (fun x hx => nomatch hx) hfX hkX hcellA (by rw [hhp, hT]; exact Nat.le_refl _) (msg := .ref sa) rfl
    (g := { method := m, pc := pc + 7, locals := ls, stack := .ref sa :: .ref T.heap.size :: .ref T.heap.size :: rest, locked := none }) rfl hsize rfl rfl (rest := rest) rfl
    (by rw [hb]; exact d7) (by rw [hb]; exact d10) hout hRframes (by simp only [List.map_cons, List.sum_cons, hcat]; omega) hlocks
  obtain ⟨f1, f2⟩ := vx_frame hsame
  rw [hhp] at f1 f2
  have hWs : s.WarmedH U.vm := State.WarmedH.trans hW0 hW
  have hcl : s.vm.findClass cls = some ce.cls := by
    have h9 := hO.cls
    rw [hvm] at h9
    exact h9
  have hall : s.sameButNew ({ U with vm := s.vm } : State) locs mc ms := by
    subst hA
    obtain ⟨e1, e2⟩ := hsame
    rw [State.setFrames_setFrames] at e1
    have h2 : (T.setVm s.vm).sameButNew ({ U with vm := s.vm } : State) [] (0 + 1) (0 + 6) := ⟨e1, e2⟩
    have h3 := X.same.trans h2
    rw [List.append_nil] at h3
    exact h3.mono hc hs
  refine ⟨U, ?_, .threw T.heap.size, hrun, hend, Or.inr ⟨T.heap.size, rfl, cls, ce, locs, hx U hWs.alike f1 (fun q hq => f2 q hq (fun z hz => nomatch hz)), hce, hO.vm, hcl, hWs, hall, hf⟩⟩
  refine st1 _ ?_
  show Steps p.tables e below (T1.setTop { method := m, pc := pc + 3, locals := ls, stack := .ref T.heap.size :: rest, locked := none }) _
  jvm_step X₁.here [X₁.here.top, hexec, d3', Value.category]
  exact X₁.ldcStringW hexec (own := own) (text := text) (index := is) (a := sa) hown' hstr'.1 hstr'.2
    (g := { method := m, pc := pc + 4, locals := ls, stack := .ref T.heap.size :: .ref T.heap.size :: rest, locked := none }) rfl d4' _ hsteps
end Ends
section Bodies
variable {l : Launch}
theorem vx_ofW {y : MethodName} {ws ws' : List Cond} {rm : Room} {Pc : Array Value → State → Prop} {Qc : Array Value → State → Outcome → State → Prop} {XC : String → State → State → Prop} {mc ms : Nat} {free : Addr → Prop} {cc : ByteArray} {maxL : Nat} {ret : Option FieldType}
    (hy : plainName y.cls = true) (hw : ws = Cond.code y cc maxL ret :: ws')
    (body : ∀ p e s m args below meth c s₁, BodyLoose p l y (headSpec ws rm) cc maxL ret e s m args below meth c s₁ → c.maxLocals = maxL → (∀ x ∈ c.exceptionTable.toList, False) → Pc args s →
      W p l e (headSpec ws rm).room s m args below meth c s.heap [] 0 0 (vx_MQ below Qc XC args s mc ms free) (entryFrame m args maxL)) : vx_Met l y ws rm Pc Qc XC mc ms free := by
  refine MetFree.of_bodyS (code := cc) (maxLocals := maxL) (ret := ret) hy ?_ ?_
  · intro args s m h hn
    obtain ⟨meth, c, h1, h2, h3, h4, h5, h6, -, -⟩ := Cond.code_spec hn (atoms_spec (ws := ws) h _ (by rw [hw]; exact List.mem_cons_self))
    exact ⟨meth, c, h1, h2, h3, h4, h5, h6⟩
  · intro p e s m args below meth c s₁ B hml hP _
    have hh0 : s₁.heap = s.heap := by rw [B.state]; rfl
    have ht : ∀ x ∈ c.exceptionTable.toList, False := by
      obtain ⟨meth9, c9, h1, h2, -, -, -, -, h7, -⟩ := Cond.code_spec B.named (atoms_spec (ws := ws) B.pre _ (by rw [hw]; exact List.mem_cons_self))
      cases Option.some.inj (h1.symm.trans B.method)
      cases Option.some.inj (h2.symm.trans (Stand.of_body B).code)
      intro x hx
      rw [Array.isEmpty_iff.mp h7] at hx
      cases hx
    obtain ⟨t, a1, o, b1, b2, b3⟩ := body p e s m args below meth c s₁ B hml ht hP s₁ hh0 (Stand.of_body B)
    exact ⟨t, o, a1, b1, b2, b3⟩
/-- the table of a body with handlers -/
theorem vx_table {p : Program} {x y : MethodName} {S : Spec} {cc bytes : ByteArray} {maxL maxL' : Nat} {ret ret' : Option FieldType} {e : Env} {s s₁ : State} {m : MethodId} {args : Array Value} {below : List Frame} {meth : Method} {c : Code} {hh : List (Nat × Nat × Nat × Nat)}
    (B : BodyLoose p l y S cc maxL ret e s m args below meth c s₁) (h : (Cond.codeWith y bytes maxL' ret' hh).before args s = true) : c.exceptionTable.toList = tableOf hh := by
  obtain ⟨m9, meth9, c9, hn9, h1, h2, -, -, h6, -⟩ := Cond.codeWith_spec h
  cases Option.some.inj (hn9.symm.trans B.named)
  cases Option.some.inj (h1.symm.trans B.method)
  cases Option.some.inj (h2.symm.trans (Stand.of_body B).code)
  rw [← h6, table_eq]
end Bodies
end VXA
/-! ===== END ===== -/
/-! ===== BEGIN a static call of a method with an exception table ===== -/
section VXS
variable {p : Program} {l : Launch} {e : Env} {R : Room} {s : State} {m : MethodId} {args : Array Value} {below : List Frame} {meth : Method} {c : Code} {T : State} {H : Heap} {locs : List Loc} {cells slots : Nat}
abbrev vx_CSW (R : Room) (s : State) (args : Array Value) (own : String) (index : Nat) (y : MethodName) (bytes : ByteArray) (maxL : Nat) (ret : Option FieldType) (hh : List (Nat × Nat × Nat × Nat)) (ws : List Cond) (rm : Room) (mc ms n : Nat) : Prop :=
  (rm.cells = mc ∧ rm.slots = ms ∧ rm.frames + 1 ≤ R.frames ∧ 8 + (maxL + 11) + rm.locals ≤ R.locals ∧ (∀ w ∈ ws, ∀ (a' : Array Value) (U : State), s.WarmedH U.vm → w.before a' U = true) ∧ Cond.codeWith y bytes maxL ret hh ∈ ws) ∧
  (Cond.codeWith y bytes maxL ret hh).before args s = true ∧ (Cond.initialized y.cls).before args s = true ∧ (y.cls ≠ "java/lang/invoke/MethodHandle" ∧ y.cls ≠ "java/lang/invoke/VarHandle") ∧
  (∀ sig, parseMethodDescriptor y.desc = some sig → n = sig.parameters.length) ∧ (Cond.methodLink own index y).before args s = true ∧ (Cond.static y).before args s = true
theorem vx_cwSW {own : String} {index maxL mc ms : Nat} {y : MethodName} {bytes : ByteArray} {ret : Option FieldType} {hh : List (Nat × Nat × Nat × Nat)} {Ts ws ws' : List Cond} {rm : Room} (n : Nat) (ht : ∀ w ∈ Ts, w.before args s = true) (hT : GoodIn Ts (va_wsS own index y ws)) (hw : ws = Cond.codeWith y bytes maxL ret hh :: ws') (hrc : rm.cells = mc) (hrs : rm.slots = ms)
    (hd : y.cls ≠ "java/lang/invoke/MethodHandle" ∧ y.cls ≠ "java/lang/invoke/VarHandle" ∧ (parseMethodDescriptor y.desc).map (fun d => d.parameters.length) = some n) (hR : rm.frames + 1 ≤ R.frames ∧ 8 + (maxL + 11) + rm.locals ≤ R.locals) :
    vx_CSW R s args own index y bytes maxL ret hh ws rm mc ms n := by
  have ok : ∀ w ∈ va_wsS own index y ws, w.before args s = true := fun w h => ht w (hT w h).1
  have hG : GoodIn Ts ws := fun w h => hT w (by unfold va_wsS; exact List.mem_append_right _ h)
  have hc : Cond.codeWith y bytes maxL ret hh ∈ ws := by rw [hw]; exact List.mem_cons_self
  refine ⟨⟨hrc, hrs, hR.1, hR.2, pay_in ht hG, hc⟩, ht _ (hG _ hc).1, ok _ (by simp [va_wsS]), ⟨hd.1, hd.2.1⟩, fun sig h => ?_, ok _ (by simp [va_wsS]), ok _ (by simp [va_wsS])⟩
  have h2 := hd.2.2
  rw [h] at h2
  exact (Option.some.inj h2).symm
theorem vx_callSW (X : Stand p l e R s m args below meth c T locs cells slots) (hexec : p.tables.exec = Jvm.exec) {own : String} {index : Nat} {y : MethodName} {bytes : ByteArray} {maxL : Nat} {ret : Option FieldType} {hh : List (Nat × Nat × Nat × Nat)}
    (hown : s.vm.findClass own = some m.cls) (hlink : (Cond.methodLink own index y).before args s = true) (hstat : (Cond.static y).before args s = true) (hinit : (Cond.initialized y.cls).before args s = true)
    (hcode : (Cond.codeWith y bytes maxL ret hh).before args s = true) (hy : y.cls ≠ "java/lang/invoke/MethodHandle" ∧ y.cls ≠ "java/lang/invoke/VarHandle")
    {W9 : Nat} {Pre : Pt → Array Value → Prop} {Post : Pt → Array Value → Option Value → Pt → Prop} (hK : Back l R p e below s args y 3 W9 Pre Post)
    {g : JFrame} (hg : g.method = m) (hsize : g.locals.size = c.maxLocals) {argsL rest : List Value} (hlen : ∀ sig, parseMethodDescriptor y.desc = some sig → argsL.length = sig.parameters.length)
    (hstack : g.stack = argsL.reverse ++ rest) (hW : 2 * g.monitorRoom + (rest.map fun v => v.category).sum ≤ W9) (hdg : decode c.code g.pc = .ok (.invokestatic index, 3))
    (hpre : ∀ vm₁, s.WarmedH vm₁ → Pre ⟨T.setVm vm₁, locs, cells, slots⟩ argsL.toArray) :
    ∃ (v : Option Value) (vm₁ : Vm) (B : Pt), s.WarmedH vm₁ ∧ Stand p l e R s m args below meth c B.U B.locs B.cells B.slots ∧ Post ⟨T.setVm vm₁, locs, cells, slots⟩ argsL.toArray v B ∧
      ∀ target, Steps p.tables e below (B.U.setTop { g with pc := g.pc + 3, stack := v.toList ++ rest }) target → Steps p.tables e below (T.setTop g) target := by
  obtain ⟨mk, methM, cM, hnamed, hmethM, -, -, -, -, -, -, hsigM⟩ := Cond.codeWith_spec hcode
  have hstatic : methM.isStatic = true := Cond.static_spec hnamed hmethM hstat
  obtain ⟨kP, hkP, -⟩ := className_of_methodNamed hnamed
  have hinitP : kP.init = .initialized := Cond.initialized_spec (findClass_of_methodNamed hnamed) hkP hinit
  obtain ⟨vm₁, X₁, hstep₁⟩ := X.invokestatic hexec hown hlink hnamed hmethM hstatic hkP hinitP hy (g := g) hg (argsL := argsL) (rest := rest) (hlen _ hsigM) hstack hdg
  obtain ⟨v, B, X', hpost, hsteps⟩ := hK m meth c ⟨T.setVm vm₁, locs, cells, slots⟩ { g with stack := rest } (.invokestatic index) mk argsL.toArray X₁ hg hsize hdg hW (X₁.named hnamed) (hpre vm₁ X₁.warmed)
  exact ⟨v, vm₁, B, X₁.warmed, X', hpost, fun target h => hstep₁ _ fun acts => by rw [doInvoke_state]; exact hsteps.trans h⟩
theorem vx_runSW {y : MethodName} {bytes cc : ByteArray} {maxL nL mc ms n index : Nat} {ret : Option FieldType} {hh : List (Nat × Nat × Nat × Nat)} {ws : List Cond} {rm : Room} {Pc : Array Value → State → Prop} {Qc : Array Value → State → Outcome → State → Prop} {free : Addr → Prop} {Ts : List Cond} {own : String} {As rest : List Value} {g : JFrame}
    (S : CallFix p m c cc nL s args Ts own) (hM : Met l y ws rm Pc Qc mc ms free) (cw : vx_CSW R s args own index y bytes maxL ret hh ws rm mc ms n) (hp : PreS s H Pc As)
    (hg : g.method = m) (hn : As.length = n) (hsize : g.locals.size = nL) (hstack : g.stack = As.reverse ++ rest) (hW : 2 * g.monitorRoom + (rest.map fun v => v.category).sum ≤ 8) (hdg : decode cc g.pc = .ok (.invokestatic index, 3)) (hf : cells + mc ≤ R.cells ∧ slots + ms ≤ R.slots) :
    va_Run p l e R s m args below meth c H locs cells slots mc ms g rest (Qc As.toArray) (free) := by
  obtain ⟨⟨hrc, hrs, hfr, hlo, hws, hcw⟩, hcode, hini, hy, hlen, hl, hstt⟩ := cw
  have hK : Back l R p e below s args y 3 8 (PreOf R mc ms Pc) (PostOf Qc mc ms free) := va_backW (hh := hh) (bytes := bytes) (maxL := maxL) (ret := ret) hM hp.1 hrc hrs hfr hlo hws hcw (fun a' U hW => word_at hW (Or.inl (by first | rfl | simp [Cond.onTables, Cond.keeps, Cond.steady])) hini)
  obtain ⟨hx, hb, hml, ho, -⟩ := S
  intro T hT X
  obtain ⟨v, vm₁, ⟨U', l2, c2, s2⟩, hW₁, X', ⟨g', mk, t, L, e1, e2, hq, h1, hL, h2, h3⟩, st⟩ := vx_callSW X hx (hh := hh) (bytes := bytes) (maxL := maxL) (ret := ret) ho hl hstt hini hcode hy hK hg (hsize.trans hml.symm) (argsL := As) (rest := rest) (fun sig h => hn.trans (hlen sig h)) hstack hW (by rw [hb]; exact hdg)
    (fun vm₁ hW₁ => ⟨hf.1, hf.2, hp.2 (T.setVm vm₁) hT hW₁⟩)
  dsimp only [Pt.U, Pt.locs, Pt.cells, Pt.slots] at X' e1 e2 h1 h2 h3 st
  subst h1; subst h2; subst h3
  exact ⟨v, (T.setVm vm₁).calling g' mk As.toArray, t, U', L, hT, X', hL, e1, e2, hq, st⟩
/-- not caught here, past rows that name other classes: it goes on to the caller -/
theorem vx_outP {p : Program} {l : Launch} {e : Env} {R : Room} {s : State} {m : MethodId} {args : Array Value} {below : List Frame} {meth : Method} {c : Code} {H : Heap} {locs : List Loc} {cells slots : Nat} {free : Addr → Prop} {ls : Array Slot} {rest : List Value} {Qc : Array Value → State → Outcome → State → Prop} {XC : String → State → State → Prop}
    {pc : Nat} {own E : String} {ce : Cell} {q : Addr} {mc ms : Nat} (hown : s.vm.findClass own = some m.cls) (hlocks : meth.locks = false)
    (hpass : ∀ z ∈ c.exceptionTable.toList, covers z pc = false ∨ (z.catchType ≠ 0 ∧ ∃ nm : String, (Cond.classLink own z.catchType nm).before args s = true ∧ va_Nc E nm s)) (hcell : H[q]? = some ce) (hv : ce.vm = .none) (hcl : s.vm.findClass E = some ce.cls)
    (hx : ∀ t : State, t.heap = H → s.vm.Alike t.vm → XC E s t) (hf : ∀ z ∈ locs, free z.base) (hc : cells ≤ mc) (hs : slots ≤ ms) :
    vx_W p l e R s m args below meth c H locs cells slots (vx_MQ below Qc XC args s mc ms free) (F0 m pc ls rest) q := by
  intro T hT X
  have hpl : e.platform.magicAccessors = ({} : Platform).magicAccessors := by rw [X.admits.platform]
  obtain ⟨vm', hW', X', st⟩ := X.outThrough hlocks q (g := F0 m pc ls rest) rfl rfl rfl (cell := ce) (by rw [hT]; exact hcell) (by rw [hv]; rfl)
    (by obtain ⟨k9, h9, -⟩ := Vm.findClass_spec hcl; exact ⟨k9, h9⟩) (fun z hz => by
      rcases hpass z hz with h | ⟨hz0, nm, hl1, hn1⟩
      · exact Or.inl h
      · obtain ⟨c6, hc6, hcl6⟩ := Cond.classLink_spec hown hl1 e.platform hpl
        obtain ⟨a8, b8, h1, h2, h3⟩ := hn1
        cases Option.some.inj (h1.symm.trans hcl)
        cases Option.some.inj (h2.symm.trans hc6)
        exact Or.inr ⟨hz0, _, hcl6, h3⟩)
  obtain ⟨g₀, hfr⟩ := X'.frames_eq
  have hcell9 : ((T.setVm vm').setFrames (.throwing q :: below)).heap[q]? = some ce := by
    show T.heap[q]? = some ce
    rw [hT]; exact hcell
  have hend : Ended ((T.setVm vm').setFrames (.throwing q :: below)) below (.threw q) := State.frames_setFrames _ (State.cur_lt_of_frames hfr)
  refine ⟨(T.setVm vm').setFrames (.throwing q :: below), ?_, .threw q, X'.here.running, hend, Or.inr ⟨q, rfl, E, ce, locs, hx _ hT (X'.ends _).1.alike, hcell9, hv, hcl, (X'.ends _).1, (X'.ends _).2.mono hc hs, hf⟩⟩
  rw [X.pushThrowing_eq]
  exact st
/-- a thing of a world lies in the heap -/
theorem vx_lt {D : va_G} {cl : List vw_C} {ws : va_W} {H1 : Heap} (h : va_P D cl ws H1) {k : Nat} {q : Nat × va_E} (hk : ws[k]? = some q) : q.1 < H1.size := (h k q hk).lt
end VXS
/-! ===== END ===== -/
/-! ===== BEGIN methods with a table of their own: called by a name, returning or throwing ===== -/
section VXH
/-! vx_backW, vx_callVX, vx_callSX, vx_callVW, vx_runVW, vx_runVX, vx_runSX, vx_ofWH follow the same proofs as their sisters above (Free/Laws.lean, Shelf42/LK1.lean); vx_outP calls Shelf42/NT130.lean (outThrough). -/
section
variable {l : Launch} {R : Room} {p : Program} {e : Env} {below : List Frame} {s : State} {sargs : Array Value} {y : MethodName} {len W9 : Nat}
theorem vx_backW {ws : List Cond} {rm : Room} {Pc : Array Value → State → Prop} {Qc : Array Value → State → Outcome → State → Prop} {XC : String → State → State → Prop} {mc ms : Nat} {free : Addr → Prop} {bytes : ByteArray} {maxL : Nat} {ret : Option FieldType} {hh : List (Nat × Nat × Nat × Nat)}
    (hM : vx_Met l y ws rm Pc Qc XC mc ms free) (hblind : FrameBlind Pc) (hrc : rm.cells = mc) (hrs : rm.slots = ms)
    (hframes : rm.frames + 1 ≤ R.frames) (hlocals : W9 + (maxL + 11) + rm.locals ≤ R.locals)
    (hws : ∀ w ∈ ws, ∀ a' U, s.WarmedH U.vm → w.before a' U = true) (hcode : Cond.codeWith y bytes maxL ret hh ∈ ws) (hinit : ∀ a' U, s.WarmedH U.vm → (Cond.initialized y.cls).before a' U = true) :
    vx_Back l R p e below s sargs y len W9 (PreOf R mc ms Pc) (PostOf Qc mc ms free) (vx_Post XC mc ms free) := by
  intro m meth c A g ig mk a X hg hsize hdg hW hn hp
  have h1 : (headSpec ws rm).pre.before a A.U = true := atoms_intro fun w hw => hws w hw _ _ X.warmed
  have h2 : (Cond.codeWith y bytes maxL ret hh).before a A.U = true := hws _ hcode _ _ X.warmed
  have h3 : (Cond.initialized y.cls).before a A.U = true := hinit _ _ X.warmed
  have h4 : A.cells + (headSpec ws rm).room.cells ≤ R.cells := by rw [show (headSpec ws rm).room.cells = mc from hrc]; exact hp.1
  have h5 : A.slots + (headSpec ws rm).room.slots ≤ R.slots := by rw [show (headSpec ws rm).room.slots = ms from hrs]; exact hp.2.1
  have hPc : Pc a (A.U.calling g mk a) := hblind _ _ _ _ hp.2.2
  obtain ⟨U, Ls, c0, s0⟩ := A
  dsimp only [Pt.U, Pt.locs, Pt.cells, Pt.slots] at h1 h2 h3 h4 h5 X hn hPc ⊢
  obtain ⟨m9, methY, cY, hn9, hmY, hcY, -, hlY, -⟩ := Cond.codeWith_spec h2
  cases Option.some.inj (hn9.symm.trans hn)
  obtain ⟨kY, hkY, -⟩ := className_of_methodNamed hn
  have hinitY : kY.init = .initialized := Cond.initialized_spec (findClass_of_methodNamed hn) hkY h3
  have h : At U g.method c below := by rw [hg]; exact X.here
  have hlocals9 : W9 + (maxL + 11) + (headSpec ws rm).room.locals ≤ R.locals := hlocals
  have happ : (headSpec ws rm).appliesLoose y e.platform (U.calling g mk a) = true :=
    Spec.appliesLoose_calling (g := g) h hdg hn hkY hinitY
      (X.room_calling (g := g) (R' := (headSpec ws rm).room) hsize hmY hcY hframes (by rw [hlY]; omega) h4 h5) h1
  obtain ⟨mid, hmid⟩ := h.above
  have hfr : (U.setTop g).frames = (.java g :: mid) ++ below := by rw [State.frames_setTop' g h.top, hmid]; rfl
  obtain ⟨o, s₂, hsteps, -, hend, hq⟩ := Steps.callFree hM p X.admits X.cas X.clock (acts := []) hfr happ hPc trivial
  have hq' : vx_Q Qc XC mc ms free a (U.calling g mk a) o s₂ := hq
  rw [State.frames_setTop' g h.top] at hend
  obtain ⟨g₀, hg0⟩ := Option.isSome_iff_exists.mp h.top
  obtain ⟨r, hr⟩ := State.topJava?_eq_some.mp hg0
  have hr' : (({ U with heap := s₂.heap, slotsUsed := s₂.slotsUsed } : State).setVm s₂.vm).frames = .java g₀ :: r := hr
  rcases hq' with ⟨hqc, L, hfe, hL⟩ | ⟨q, rfl, E, ce, L, hx, hce, hcv, hcl, hW₂, hsm, hL⟩
  · obtain ⟨⟨v, rfl⟩, hW₂, e2, q2, q3, q4, q5, q6⟩ := id hfe
    have e3 : s₂ = ({ (U.calling g mk a).setFrames s₂.frames with heap := s₂.heap, slotsUsed := s₂.slotsUsed } : State).setVm s₂.vm := by
      have : s₂ = ({ s₂ with vm := (U.calling g mk a).vm } : State).setVm s₂.vm := rfl
      rw [e2] at this
      exact this
    obtain ⟨c₂, i₂, len₂, hc₂, hd₂, hf₂⟩ := hend
    have hW' : U.WarmedH s₂.vm := hW₂
    have hcc : c₂ = c := by
      have h1 : s₂.code? g.method = U.code? g.method := by
        rw [State.code?_eq, State.code?_eq, hW'.alike.method?]
      exact Option.some.inj (hc₂.symm.trans (h1.trans h.code))
    subst hcc
    have hlen : len₂ = len := by rw [hdg] at hd₂; cases hd₂; rfl
    subst hlen
    have hs₂ : s₂ = (({ U with heap := s₂.heap, slotsUsed := s₂.slotsUsed } : State).setVm s₂.vm).setTop { g with pc := g.pc + len₂, stack := v.toList ++ g.stack } := by
      refine e3.trans ?_
      rw [hf₂, State.calling_eq h.top, State.setFrames_setFrames, State.setTop_of_frames _ hr', hr]
      rfl
    have hsame : U.sameButNew ({ U with heap := s₂.heap, slotsUsed := s₂.slotsUsed } : State) L mc ms := by
      refine ⟨?_, q2, q3, q4, q5, q6⟩
      obtain ⟨t, ht, -⟩ := State.frames_cons hr
      show ({ U with heap := s₂.heap, slotsUsed := s₂.slotsUsed } : State) = { U.setFrames U.frames with heap := s₂.heap, slotsUsed := s₂.slotsUsed }
      rw [State.setFrames_self ht]
    subst hg
    refine Or.inl ⟨v, ⟨(({ U with heap := s₂.heap, slotsUsed := s₂.slotsUsed } : State).setVm s₂.vm), Ls ++ L, c0 + mc, s0 + ms⟩,
      ⟨X.admits, X.cas, X.clock, X.frames, X.room, X.hears, X.method, X.code, (X.here.setHeapUsed s₂.heap s₂.slotsUsed).setVm hW'.alike, X.tail, State.WarmedH.trans X.warmed hW', X.limits, X.bytes, X.same.trans (hsame.setVm s.vm)⟩,
      ⟨g, mk, s₂, L, rfl, rfl, hqc, rfl, hL, rfl, rfl⟩, ?_⟩
    show Steps p.tables e below _ ((({ U with heap := s₂.heap, slotsUsed := s₂.slotsUsed } : State).setVm s₂.vm).setTop { g with pc := g.pc + len₂, stack := v.toList ++ g.stack })
    rw [← hs₂]
    exact hsteps
  · obtain ⟨e2, q2, q3, q4, q5, q6⟩ := id hsm
    have e3 : s₂ = ({ (U.calling g mk a).setFrames s₂.frames with heap := s₂.heap, slotsUsed := s₂.slotsUsed } : State).setVm s₂.vm := by
      have : s₂ = ({ s₂ with vm := (U.calling g mk a).vm } : State).setVm s₂.vm := rfl
      rw [e2] at this
      exact this
    have hf₂ : s₂.frames = .throwing q :: .java g :: U.frames.tail := hend
    have hW' : U.WarmedH s₂.vm := hW₂
    have hs₂ : s₂ = ((({ U with heap := s₂.heap, slotsUsed := s₂.slotsUsed } : State).setVm s₂.vm).setTop g).pushFrame (.throwing q) := by
      refine e3.trans ?_
      rw [hf₂, State.calling_eq h.top, State.setFrames_setFrames, State.pushFrame, State.frames_setTop _ hr', State.setTop_of_frames _ hr', State.setFrames_setFrames, hr]
      rfl
    have hsame : U.sameButNew ({ U with heap := s₂.heap, slotsUsed := s₂.slotsUsed } : State) L mc ms := by
      refine ⟨?_, q2, q3, q4, q5, q6⟩
      obtain ⟨t, ht, -⟩ := State.frames_cons hr
      show ({ U with heap := s₂.heap, slotsUsed := s₂.slotsUsed } : State) = { U.setFrames U.frames with heap := s₂.heap, slotsUsed := s₂.slotsUsed }
      rw [State.setFrames_self ht]
    subst hg
    refine Or.inr ⟨q, ⟨(({ U with heap := s₂.heap, slotsUsed := s₂.slotsUsed } : State).setVm s₂.vm), Ls ++ L, c0 + mc, s0 + ms⟩,
      ⟨X.admits, X.cas, X.clock, X.frames, X.room, X.hears, X.method, X.code, (X.here.setHeapUsed s₂.heap s₂.slotsUsed).setVm hW'.alike, X.tail, State.WarmedH.trans X.warmed hW', X.limits, X.bytes, X.same.trans (hsame.setVm s.vm)⟩,
      ⟨g, mk, s₂, L, E, ce, rfl, rfl, hx, hce, hcv, hcl, rfl, hL, rfl, rfl⟩, ?_⟩
    show Steps p.tables e below _ (((({ U with heap := s₂.heap, slotsUsed := s₂.slotsUsed } : State).setVm s₂.vm).setTop g).pushFrame (.throwing q))
    rw [← hs₂]
    exact hsteps
end
variable {p : Program} {l : Launch} {e : Env} {R : Room} {s : State} {m : MethodId} {args : Array Value} {below : List Frame} {meth : Method} {c : Code} {T : State} {H : Heap} {locs : List Loc} {cells slots : Nat}
theorem vx_callVX (X : Stand p l e R s m args below meth c T locs cells slots) (hexec : p.tables.exec = Jvm.exec) {own C : String} {index : Nat} {y : MethodName} {bytes : ByteArray} {maxL : Nat} {ret : Option FieldType} {hh : List (Nat × Nat × Nat × Nat)}
    (hown : s.vm.findClass own = some m.cls) (hlink : (Cond.methodLink own index y).before args s = true) (hinst : (Cond.instanceMethod y).before args s = true) (hsel : (Cond.selects C y y).before args s = true)
    (hcode : (Cond.codeWith y bytes maxL ret hh).before args s = true) (hy : y.cls ≠ "java/lang/invoke/MethodHandle" ∧ y.cls ≠ "java/lang/invoke/VarHandle")
    {W9 : Nat} {Pre : Pt → Array Value → Prop} {Post : Pt → Array Value → Option Value → Pt → Prop} {PostX : Pt → Array Value → Addr → Pt → Prop} (hK : vx_Back l R p e below s args y 3 W9 Pre Post PostX)
    {b : Addr} {cellB : Cell} (hcell : T.heap[b]? = some cellB) (hobj : cellB.vm.isStatics = false) (hcls : s.vm.findClass C = some cellB.cls)
    {g : JFrame} (hg : g.method = m) (hsize : g.locals.size = c.maxLocals) {argsL rest : List Value} (hlen : ∀ sig, parseMethodDescriptor y.desc = some sig → argsL.length = sig.parameters.length)
    (hstack : g.stack = argsL.reverse ++ .ref b :: rest) (hW : 2 * g.monitorRoom + (rest.map fun v => v.category).sum ≤ W9) (hdg : decode c.code g.pc = .ok (.invokevirtual index, 3))
    (hpre : ∀ vm₁, s.WarmedH vm₁ → Pre ⟨T.setVm vm₁, locs, cells, slots⟩ (Value.ref b :: argsL).toArray) :
    (∃ (v : Option Value) (vm₁ : Vm) (B : Pt), s.WarmedH vm₁ ∧ Stand p l e R s m args below meth c B.U B.locs B.cells B.slots ∧ Post ⟨T.setVm vm₁, locs, cells, slots⟩ (Value.ref b :: argsL).toArray v B ∧
      ∀ target, Steps p.tables e below (B.U.setTop { g with pc := g.pc + 3, stack := v.toList ++ rest }) target → Steps p.tables e below (T.setTop g) target) ∨
    (∃ (q : Addr) (vm₁ : Vm) (B : Pt), s.WarmedH vm₁ ∧ Stand p l e R s m args below meth c B.U B.locs B.cells B.slots ∧ PostX ⟨T.setVm vm₁, locs, cells, slots⟩ (Value.ref b :: argsL).toArray q B ∧
      Steps p.tables e below (T.setTop g) ((B.U.setTop { g with stack := rest }).pushFrame (.throwing q))) := by
  obtain ⟨mk, methM, hnamed, hmethM, hstM, habM⟩ := Cond.instanceMethod_spec hinst
  obtain ⟨m8, methM', cM, hn8, hmethM', -, -, -, -, -, -, hsigM⟩ := Cond.codeWith_spec hcode
  cases Option.some.inj (hn8.symm.trans hnamed)
  cases hmethM.symm.trans hmethM'
  obtain ⟨c2, r2, m2, q1, q2, q3, q4, kP, hkP, hkPi⟩ := Cond.selects_spec hsel
  cases hcls.symm.trans q1
  cases (State.methodFound?_of_named hnamed hy).symm.trans q2
  cases hnamed.symm.trans q3
  have hselP : selectMethod e.platform s.vm cellB.cls mk = .method mk := by rw [Launch.admits_selectMethod X.admits]; exact q4
  obtain ⟨vm₁, X₁, hstep₁⟩ := X.invokevirtual hexec hown hlink hnamed hmethM hstM hkP hkPi hy (a := b) (cell := cellB) hcell
    (fun z h => by rw [h] at hobj; cases hobj) hselP hmethM habM hkP hkPi (g := g) hg (argsL := argsL) (rest := rest) (hlen _ hsigM) hstack hdg
  rcases hK m meth c ⟨T.setVm vm₁, locs, cells, slots⟩ { g with stack := rest } (.invokevirtual index) mk (Value.ref b :: argsL).toArray X₁ hg hsize hdg hW (X₁.named hnamed) (hpre vm₁ X₁.warmed) with ⟨v, B, X', hpost, hsteps⟩ | ⟨q, B, X', hpost, hsteps⟩
  · exact Or.inl ⟨v, vm₁, B, X₁.warmed, X', hpost, fun target h => hstep₁ _ fun acts => by rw [doInvoke_state]; exact hsteps.trans h⟩
  · exact Or.inr ⟨q, vm₁, B, X₁.warmed, X', hpost, hstep₁ _ fun acts => by rw [doInvoke_state]; exact hsteps⟩
theorem vx_callSX (X : Stand p l e R s m args below meth c T locs cells slots) (hexec : p.tables.exec = Jvm.exec) {own : String} {index : Nat} {y : MethodName} {bytes : ByteArray} {maxL : Nat} {ret : Option FieldType} {hh : List (Nat × Nat × Nat × Nat)}
    (hown : s.vm.findClass own = some m.cls) (hlink : (Cond.methodLink own index y).before args s = true) (hstat : (Cond.static y).before args s = true) (hinit : (Cond.initialized y.cls).before args s = true)
    (hcode : (Cond.codeWith y bytes maxL ret hh).before args s = true) (hy : y.cls ≠ "java/lang/invoke/MethodHandle" ∧ y.cls ≠ "java/lang/invoke/VarHandle")
    {W9 : Nat} {Pre : Pt → Array Value → Prop} {Post : Pt → Array Value → Option Value → Pt → Prop} {PostX : Pt → Array Value → Addr → Pt → Prop} (hK : vx_Back l R p e below s args y 3 W9 Pre Post PostX)
    {g : JFrame} (hg : g.method = m) (hsize : g.locals.size = c.maxLocals) {argsL rest : List Value} (hlen : ∀ sig, parseMethodDescriptor y.desc = some sig → argsL.length = sig.parameters.length)
    (hstack : g.stack = argsL.reverse ++ rest) (hW : 2 * g.monitorRoom + (rest.map fun v => v.category).sum ≤ W9) (hdg : decode c.code g.pc = .ok (.invokestatic index, 3))
    (hpre : ∀ vm₁, s.WarmedH vm₁ → Pre ⟨T.setVm vm₁, locs, cells, slots⟩ argsL.toArray) :
    (∃ (v : Option Value) (vm₁ : Vm) (B : Pt), s.WarmedH vm₁ ∧ Stand p l e R s m args below meth c B.U B.locs B.cells B.slots ∧ Post ⟨T.setVm vm₁, locs, cells, slots⟩ argsL.toArray v B ∧
      ∀ target, Steps p.tables e below (B.U.setTop { g with pc := g.pc + 3, stack := v.toList ++ rest }) target → Steps p.tables e below (T.setTop g) target) ∨
    (∃ (q : Addr) (vm₁ : Vm) (B : Pt), s.WarmedH vm₁ ∧ Stand p l e R s m args below meth c B.U B.locs B.cells B.slots ∧ PostX ⟨T.setVm vm₁, locs, cells, slots⟩ argsL.toArray q B ∧
      Steps p.tables e below (T.setTop g) ((B.U.setTop { g with stack := rest }).pushFrame (.throwing q))) := by
  obtain ⟨mk, methM, cM, hnamed, hmethM, -, -, -, -, -, -, hsigM⟩ := Cond.codeWith_spec hcode
  have hstatic : methM.isStatic = true := Cond.static_spec hnamed hmethM hstat
  obtain ⟨kP, hkP, -⟩ := className_of_methodNamed hnamed
  have hinitP : kP.init = .initialized := Cond.initialized_spec (findClass_of_methodNamed hnamed) hkP hinit
  obtain ⟨vm₁, X₁, hstep₁⟩ := X.invokestatic hexec hown hlink hnamed hmethM hstatic hkP hinitP hy (g := g) hg (argsL := argsL) (rest := rest) (hlen _ hsigM) hstack hdg
  rcases hK m meth c ⟨T.setVm vm₁, locs, cells, slots⟩ { g with stack := rest } (.invokestatic index) mk argsL.toArray X₁ hg hsize hdg hW (X₁.named hnamed) (hpre vm₁ X₁.warmed) with ⟨v, B, X', hpost, hsteps⟩ | ⟨q, B, X', hpost, hsteps⟩
  · exact Or.inl ⟨v, vm₁, B, X₁.warmed, X', hpost, fun target h => hstep₁ _ fun acts => by rw [doInvoke_state]; exact hsteps.trans h⟩
  · exact Or.inr ⟨q, vm₁, B, X₁.warmed, X', hpost, hstep₁ _ fun acts => by rw [doInvoke_state]; exact hsteps⟩
theorem vx_callVW (X : Stand p l e R s m args below meth c T locs cells slots) (hexec : p.tables.exec = Jvm.exec) {own C : String} {index : Nat} {y : MethodName} {bytes : ByteArray} {maxL : Nat} {ret : Option FieldType} {hh : List (Nat × Nat × Nat × Nat)}
    (hown : s.vm.findClass own = some m.cls) (hlink : (Cond.methodLink own index y).before args s = true) (hinst : (Cond.instanceMethod y).before args s = true) (hsel : (Cond.selects C y y).before args s = true)
    (hcode : (Cond.codeWith y bytes maxL ret hh).before args s = true) (hy : y.cls ≠ "java/lang/invoke/MethodHandle" ∧ y.cls ≠ "java/lang/invoke/VarHandle")
    {W9 : Nat} {Pre : Pt → Array Value → Prop} {Post : Pt → Array Value → Option Value → Pt → Prop} (hK : Back l R p e below s args y 3 W9 Pre Post)
    {b : Addr} {cellB : Cell} (hcell : T.heap[b]? = some cellB) (hobj : cellB.vm.isStatics = false) (hcls : s.vm.findClass C = some cellB.cls)
    {g : JFrame} (hg : g.method = m) (hsize : g.locals.size = c.maxLocals) {argsL rest : List Value} (hlen : ∀ sig, parseMethodDescriptor y.desc = some sig → argsL.length = sig.parameters.length)
    (hstack : g.stack = argsL.reverse ++ .ref b :: rest) (hW : 2 * g.monitorRoom + (rest.map fun v => v.category).sum ≤ W9) (hdg : decode c.code g.pc = .ok (.invokevirtual index, 3))
    (hpre : ∀ vm₁, s.WarmedH vm₁ → Pre ⟨T.setVm vm₁, locs, cells, slots⟩ (Value.ref b :: argsL).toArray) :
    ∃ (v : Option Value) (vm₁ : Vm) (B : Pt), s.WarmedH vm₁ ∧ Stand p l e R s m args below meth c B.U B.locs B.cells B.slots ∧ Post ⟨T.setVm vm₁, locs, cells, slots⟩ (Value.ref b :: argsL).toArray v B ∧
      ∀ target, Steps p.tables e below (B.U.setTop { g with pc := g.pc + 3, stack := v.toList ++ rest }) target → Steps p.tables e below (T.setTop g) target := by
  obtain ⟨mk, methM, hnamed, hmethM, hstM, habM⟩ := Cond.instanceMethod_spec hinst
  obtain ⟨m8, methM', cM, hn8, hmethM', -, -, -, -, -, -, hsigM⟩ := Cond.codeWith_spec hcode
  cases Option.some.inj (hn8.symm.trans hnamed)
  cases hmethM.symm.trans hmethM'
  obtain ⟨c2, r2, m2, q1, q2, q3, q4, kP, hkP, hkPi⟩ := Cond.selects_spec hsel
  cases hcls.symm.trans q1
  cases (State.methodFound?_of_named hnamed hy).symm.trans q2
  cases hnamed.symm.trans q3
  have hselP : selectMethod e.platform s.vm cellB.cls mk = .method mk := by rw [Launch.admits_selectMethod X.admits]; exact q4
  obtain ⟨vm₁, X₁, hstep₁⟩ := X.invokevirtual hexec hown hlink hnamed hmethM hstM hkP hkPi hy (a := b) (cell := cellB) hcell
    (fun z h => by rw [h] at hobj; cases hobj) hselP hmethM habM hkP hkPi (g := g) hg (argsL := argsL) (rest := rest) (hlen _ hsigM) hstack hdg
  obtain ⟨v, B, X', hpost, hsteps⟩ := hK m meth c ⟨T.setVm vm₁, locs, cells, slots⟩ { g with stack := rest } (.invokevirtual index) mk (Value.ref b :: argsL).toArray X₁ hg hsize hdg hW (X₁.named hnamed) (hpre vm₁ X₁.warmed)
  exact ⟨v, vm₁, B, X₁.warmed, X', hpost, fun target h => hstep₁ _ fun acts => by rw [doInvoke_state]; exact hsteps.trans h⟩
abbrev vx_CVW (R : Room) (s : State) (args : Array Value) (own C : String) (index : Nat) (y : MethodName) (bytes : ByteArray) (maxL : Nat) (ret : Option FieldType) (hh : List (Nat × Nat × Nat × Nat)) (ws : List Cond) (rm : Room) (mc ms n : Nat) : Prop :=
  (rm.cells = mc ∧ rm.slots = ms ∧ rm.frames + 1 ≤ R.frames ∧ 8 + (maxL + 11) + rm.locals ≤ R.locals ∧ (∀ w ∈ ws, ∀ (a' : Array Value) (U : State), s.WarmedH U.vm → w.before a' U = true) ∧ Cond.codeWith y bytes maxL ret hh ∈ ws) ∧
  (Cond.codeWith y bytes maxL ret hh).before args s = true ∧ (Cond.initialized y.cls).before args s = true ∧ (y.cls ≠ "java/lang/invoke/MethodHandle" ∧ y.cls ≠ "java/lang/invoke/VarHandle") ∧
  (∀ sig, parseMethodDescriptor y.desc = some sig → n = sig.parameters.length) ∧ (Cond.methodLink own index y).before args s = true ∧ (Cond.instanceMethod y).before args s = true ∧ (Cond.selects C y y).before args s = true
theorem vx_cwVW {own C : String} {index maxL mc ms : Nat} {y : MethodName} {bytes : ByteArray} {ret : Option FieldType} {hh : List (Nat × Nat × Nat × Nat)} {Ts ws ws' : List Cond} {rm : Room} (n : Nat) (ht : ∀ w ∈ Ts, w.before args s = true) (hT : GoodIn Ts (wsV own index C y ws)) (hw : ws = Cond.codeWith y bytes maxL ret hh :: ws') (hrc : rm.cells = mc) (hrs : rm.slots = ms)
    (hd : y.cls = C ∧ y.cls ≠ "java/lang/invoke/MethodHandle" ∧ y.cls ≠ "java/lang/invoke/VarHandle" ∧ (parseMethodDescriptor y.desc).map (fun d => d.parameters.length) = some n) (hR : rm.frames + 1 ≤ R.frames ∧ 8 + (maxL + 11) + rm.locals ≤ R.locals) :
    vx_CVW R s args own C index y bytes maxL ret hh ws rm mc ms n := by
  obtain ⟨hC, hd⟩ := hd
  subst hC
  have ok : ∀ w ∈ wsV own index y.cls y ws, w.before args s = true := fun w h => ht w (hT w h).1
  have hG : GoodIn Ts ws := fun w h => hT w (by unfold wsV; exact List.mem_append_right _ h)
  have hc : Cond.codeWith y bytes maxL ret hh ∈ ws := by rw [hw]; exact List.mem_cons_self
  refine ⟨⟨hrc, hrs, hR.1, hR.2, pay_in ht hG, hc⟩, ht _ (hG _ hc).1, ok _ (by simp [wsV]), ⟨hd.1, hd.2.1⟩, fun sig h => ?_, ok _ (by simp [wsV]), ok _ (by simp [wsV]), ok _ (by simp [wsV])⟩
  have h2 := hd.2.2
  rw [h] at h2
  exact (Option.some.inj h2).symm
theorem vx_runVW {y : MethodName} {bytes cc : ByteArray} {maxL nL mc ms n index : Nat} {ret : Option FieldType} {hh : List (Nat × Nat × Nat × Nat)} {ws : List Cond} {rm : Room} {Pc : Array Value → State → Prop} {Qc : Array Value → State → Outcome → State → Prop} {free : Addr → Prop} {Ts : List Cond} {own C : String} {b : Addr} {As rest : List Value} {g : JFrame}
    (S : CallFix p m c cc nL s args Ts own) (hM : Met l y ws rm Pc Qc mc ms free) (cw : vx_CVW R s args own C index y bytes maxL ret hh ws rm mc ms n) (hp : PreV s H C b Pc As)
    (hg : g.method = m) (hn : As.length = n) (hsize : g.locals.size = nL) (hstack : g.stack = As.reverse ++ .ref b :: rest) (hW : 2 * g.monitorRoom + (rest.map fun v => v.category).sum ≤ 8) (hdg : decode cc g.pc = .ok (.invokevirtual index, 3)) (hf : cells + mc ≤ R.cells ∧ slots + ms ≤ R.slots) :
    va_Run p l e R s m args below meth c H locs cells slots mc ms g rest (Qc (Value.ref b :: As).toArray) free := by
  obtain ⟨⟨hrc, hrs, hfr, hlo, hws, hcw⟩, hcode, hini, hy, hlen, hl, hin, hse⟩ := cw
  have hK : Back l R p e below s args y 3 8 (PreOf R mc ms Pc) (PostOf Qc mc ms free) := va_backW (hh := hh) (bytes := bytes) (maxL := maxL) (ret := ret) hM hp.1 hrc hrs hfr hlo hws hcw (fun a' U hW => word_at hW (Or.inl (by first | rfl | simp [Cond.onTables, Cond.keeps, Cond.steady])) hini)
  obtain ⟨hx, hb, hml, ho, -⟩ := S
  obtain ⟨-, ⟨cellB, hcB, hoB, hclB⟩, hPc⟩ := hp
  intro T hT X
  obtain ⟨v, vm₁, ⟨U', l2, c2, s2⟩, hW₁, X', ⟨g', mk, t, L, e1, e2, hq, h1, hL, h2, h3⟩, st⟩ := vx_callVW X hx (C := C) (hh := hh) (bytes := bytes) (maxL := maxL) (ret := ret) ho hl hin hse hcode hy hK (by rw [hT]; exact hcB) hoB hclB hg (hsize.trans hml.symm) (argsL := As) (rest := rest) (fun sig h => hn.trans (hlen sig h)) hstack hW (by rw [hb]; exact hdg)
    (fun vm₁ hW₁ => ⟨hf.1, hf.2, hPc (T.setVm vm₁) hT hW₁⟩)
  dsimp only [Pt.U, Pt.locs, Pt.cells, Pt.slots] at X' e1 e2 h1 h2 h3 st
  subst h1; subst h2; subst h3
  exact ⟨v, (T.setVm vm₁).calling g' mk (Value.ref b :: As).toArray, t, U', L, hT, X', hL, e1, e2, hq, st⟩
section
variable {y : MethodName} {bytes cc : ByteArray} {maxL nL mc ms n index : Nat} {ret : Option FieldType} {ws : List Cond} {rm : Room} {Pc : Array Value → State → Prop} {Qc : Array Value → State → Outcome → State → Prop} {XC : String → State → State → Prop} {free : Addr → Prop} {Ts : List Cond} {own C : String} {b : Addr} {As rest : List Value} {g : JFrame}
theorem vx_runVX {hh : List (Nat × Nat × Nat × Nat)} (S : CallFix p m c cc nL s args Ts own) (hM : vx_Met l y ws rm Pc Qc XC mc ms free) (cw : vx_CVW R s args own C index y bytes maxL ret hh ws rm mc ms n) (hp : PreV s H C b Pc As)
    (hg : g.method = m) (hn : As.length = n) (hsize : g.locals.size = nL) (hstack : g.stack = As.reverse ++ .ref b :: rest) (hW : 2 * g.monitorRoom + (rest.map fun v => v.category).sum ≤ 8) (hdg : decode cc g.pc = .ok (.invokevirtual index, 3)) (hf : cells + mc ≤ R.cells ∧ slots + ms ≤ R.slots) :
    vx_Run p l e R s m args below meth c H locs cells slots mc ms g rest (Qc (Value.ref b :: As).toArray) XC free := by
  obtain ⟨⟨hrc, hrs, hfr, hlo, hws, hcw⟩, hcode, hini, hy, hlen, hl, hin, hse⟩ := cw
  have hK : vx_Back l R p e below s args y 3 8 (PreOf R mc ms Pc) (PostOf Qc mc ms free) (vx_Post XC mc ms free) := vx_backW (hh := hh) (bytes := bytes) (maxL := maxL) (ret := ret) hM hp.1 hrc hrs hfr hlo hws hcw (fun a' U hW => word_at hW (Or.inl (by first | rfl | simp [Cond.onTables, Cond.keeps, Cond.steady])) hini)
  obtain ⟨hx, hb, hml, ho, -⟩ := S
  obtain ⟨-, ⟨cellB, hcB, hoB, hclB⟩, hPc⟩ := hp
  intro T hT X
  rcases vx_callVX X hx (C := C) (hh := hh) (bytes := bytes) (maxL := maxL) (ret := ret) ho hl hin hse hcode hy hK (by rw [hT]; exact hcB) hoB hclB hg (hsize.trans hml.symm) (argsL := As) (rest := rest) (fun sig h => hn.trans (hlen sig h)) hstack hW (by rw [hb]; exact hdg)
    (fun vm₁ hW₁ => ⟨hf.1, hf.2, hPc (T.setVm vm₁) hT hW₁⟩) with ⟨v, vm₁, ⟨U', l2, c2, s2⟩, hW₁, X', ⟨g', mk, t, L, e1, e2, hq, h1, hL, h2, h3⟩, st⟩ | ⟨q, vm₁, ⟨U', l2, c2, s2⟩, hW₁, X', ⟨g', mk, t, L, E, ce, e1, e2, hq, hce, hcv, hcl, h1, hL, h2, h3⟩, st⟩
  · dsimp only [Pt.U, Pt.locs, Pt.cells, Pt.slots] at X' e1 e2 h1 h2 h3 st
    subst h1; subst h2; subst h3
    exact Or.inl ⟨v, (T.setVm vm₁).calling g' mk (Value.ref b :: As).toArray, t, U', L, hT, X', hL, e1, e2, hq, st⟩
  · dsimp only [Pt.U, Pt.locs, Pt.cells, Pt.slots] at X' e1 e2 h1 h2 h3 st hcl
    subst h1; subst h2; subst h3
    exact Or.inr ⟨q, (T.setVm vm₁).calling g' mk (Value.ref b :: As).toArray, t, U', L, E, ce, hT, X', hL, e1, e2, hq, hce, hcv, vx_cls hW₁ hcl, st⟩
theorem vx_runSX {hh : List (Nat × Nat × Nat × Nat)} (S : CallFix p m c cc nL s args Ts own) (hM : vx_Met l y ws rm Pc Qc XC mc ms free) (cw : vx_CSW R s args own index y bytes maxL ret hh ws rm mc ms n) (hp : PreS s H Pc As)
    (hg : g.method = m) (hn : As.length = n) (hsize : g.locals.size = nL) (hstack : g.stack = As.reverse ++ rest) (hW : 2 * g.monitorRoom + (rest.map fun v => v.category).sum ≤ 8) (hdg : decode cc g.pc = .ok (.invokestatic index, 3)) (hf : cells + mc ≤ R.cells ∧ slots + ms ≤ R.slots) :
    vx_Run p l e R s m args below meth c H locs cells slots mc ms g rest (Qc As.toArray) XC free := by
  obtain ⟨⟨hrc, hrs, hfr, hlo, hws, hcw⟩, hcode, hini, hy, hlen, hl, hstt⟩ := cw
  have hK : vx_Back l R p e below s args y 3 8 (PreOf R mc ms Pc) (PostOf Qc mc ms free) (vx_Post XC mc ms free) := vx_backW (hh := hh) (bytes := bytes) (maxL := maxL) (ret := ret) hM hp.1 hrc hrs hfr hlo hws hcw (fun a' U hW => word_at hW (Or.inl (by first | rfl | simp [Cond.onTables, Cond.keeps, Cond.steady])) hini)
  obtain ⟨hx, hb, hml, ho, -⟩ := S
  intro T hT X
  rcases vx_callSX X hx (hh := hh) (bytes := bytes) (maxL := maxL) (ret := ret) ho hl hstt hini hcode hy hK hg (hsize.trans hml.symm) (argsL := As) (rest := rest) (fun sig h => hn.trans (hlen sig h)) hstack hW (by rw [hb]; exact hdg)
    (fun vm₁ hW₁ => ⟨hf.1, hf.2, hp.2 (T.setVm vm₁) hT hW₁⟩) with ⟨v, vm₁, ⟨U', l2, c2, s2⟩, hW₁, X', ⟨g', mk, t, L, e1, e2, hq, h1, hL, h2, h3⟩, st⟩ | ⟨q, vm₁, ⟨U', l2, c2, s2⟩, hW₁, X', ⟨g', mk, t, L, E, ce, e1, e2, hq, hce, hcv, hcl, h1, hL, h2, h3⟩, st⟩
  · dsimp only [Pt.U, Pt.locs, Pt.cells, Pt.slots] at X' e1 e2 h1 h2 h3 st
    subst h1; subst h2; subst h3
    exact Or.inl ⟨v, (T.setVm vm₁).calling g' mk As.toArray, t, U', L, hT, X', hL, e1, e2, hq, st⟩
  · dsimp only [Pt.U, Pt.locs, Pt.cells, Pt.slots] at X' e1 e2 h1 h2 h3 st hcl
    subst h1; subst h2; subst h3
    exact Or.inr ⟨q, (T.setVm vm₁).calling g' mk As.toArray, t, U', L, E, ce, hT, X', hL, e1, e2, hq, hce, hcv, vx_cls hW₁ hcl, st⟩
end
end VXH
theorem vx_ofWH {l : Launch} {y : MethodName} {ws ws' : List Cond} {rm : Room} {Pc : Array Value → State → Prop} {Qc : Array Value → State → Outcome → State → Prop} {XC : String → State → State → Prop} {mc ms : Nat} {free : Addr → Prop} {cc : ByteArray} {maxL : Nat} {ret : Option FieldType} {hh : List (Nat × Nat × Nat × Nat)}
    (hy : plainName y.cls = true) (hw : ws = Cond.codeWith y cc maxL ret hh :: ws')
    (body : ∀ p e s m args below meth c s₁, BodyLoose p l y (headSpec ws rm) cc maxL ret e s m args below meth c s₁ → c.maxLocals = maxL → Pc args s →
      W p l e (headSpec ws rm).room s m args below meth c s.heap [] 0 0 (vx_MQ below Qc XC args s mc ms free) (entryFrame m args maxL)) : vx_Met l y ws rm Pc Qc XC mc ms free := by
  refine MetFree.of_bodyS (code := cc) (maxLocals := maxL) (ret := ret) hy ?_ ?_
  · intro args s m h hn
    obtain ⟨m9, meth, c, hn9, h1, h2, h3, h4, -, h5, h6, -⟩ := Cond.codeWith_spec (atoms_spec (ws := ws) h _ (by rw [hw]; exact List.mem_cons_self))
    cases hn.symm.trans hn9
    exact ⟨meth, c, h1, h2, h3, h4, h5, h6⟩
  · intro p e s m args below meth c s₁ B hml hP _
    have hh0 : s₁.heap = s.heap := by rw [B.state]; rfl
    obtain ⟨t, a1, o, b1, b2, b3⟩ := body p e s m args below meth c s₁ B hml hP s₁ hh0 (Stand.of_body B)
    exact ⟨t, o, a1, b1, b2, b3⟩
/-! ===== END ===== -/

/-! ===== BEGIN a constructor that throws (launches without stack traces) ===== -/
section VXIA
variable {p : Program} {l : Launch} {e : Env} {R : Room} {s : State} {m : MethodId} {args : Array Value} {below : List Frame} {meth : Method} {c : Code} {T : State} {locs : List Loc} {cells slots : Nat}
theorem vx_callI (X : Stand p l e R s m args below meth c T locs cells slots) (hexec : p.tables.exec = Jvm.exec) {own : String} {index : Nat} {y : MethodName} {bytes : ByteArray} {maxL : Nat}
    (hown : s.vm.findClass own = some m.cls) (hy1 : y.name = "<init>") (hlink : (Cond.methodLink own index y).before args s = true) (hinst : (Cond.instanceMethod y).before args s = true)
    (hcode : (Cond.code y bytes maxL none).before args s = true) (hy : y.cls ≠ "java/lang/invoke/MethodHandle" ∧ y.cls ≠ "java/lang/invoke/VarHandle")
    {W9 : Nat} {Pre : Pt → Array Value → Prop} {Post : Pt → Array Value → Option Value → Pt → Prop} {PostX : Pt → Array Value → Addr → Pt → Prop} (hK : vx_Back l R p e below s args y 3 W9 Pre Post PostX)
    {g : JFrame} (hg : g.method = m) (hsize : g.locals.size = c.maxLocals) {a : Addr} {argsL rest : List Value} (hlen : ∀ sig, parseMethodDescriptor y.desc = some sig → argsL.length = sig.parameters.length)
    (hstack : g.stack = argsL.reverse ++ .ref a :: rest) (hW : 2 * g.monitorRoom + (rest.map fun v => v.category).sum ≤ W9) (hdg : decode c.code g.pc = .ok (.invokespecial index, 3))
    (hpre : ∀ vm₁, s.WarmedH vm₁ → Pre ⟨T.setVm vm₁, locs, cells, slots⟩ (Value.ref a :: argsL).toArray) :
    (∃ (v : Option Value) (vm₁ : Vm) (B : Pt), s.WarmedH vm₁ ∧ Stand p l e R s m args below meth c B.U B.locs B.cells B.slots ∧ Post ⟨T.setVm vm₁, locs, cells, slots⟩ (Value.ref a :: argsL).toArray v B ∧
      ∀ target, Steps p.tables e below (B.U.setTop { g with pc := g.pc + 3, stack := v.toList ++ rest }) target → Steps p.tables e below (T.setTop g) target) ∨
    (∃ (q : Addr) (vm₁ : Vm) (B : Pt), s.WarmedH vm₁ ∧ Stand p l e R s m args below meth c B.U B.locs B.cells B.slots ∧ PostX ⟨T.setVm vm₁, locs, cells, slots⟩ (Value.ref a :: argsL).toArray q B ∧
      Steps p.tables e below (T.setTop g) ((B.U.setTop { g with stack := rest }).pushFrame (.throwing q))) := by
  subst hg
  have hpl : e.platform.magicAccessors = ({} : Platform).magicAccessors := by rw [X.admits.platform]
  obtain ⟨mk, methM, cM, kP, vm₁, hnamed, hmethM, hcodeM, -, hlocalsM, -, hkP, -, hW₁, hstep₁⟩ := Steps.initColdArgs (e := e) X.here hexec X.warmed hpl hown hy1 hy hlink hinst hcode (f := g) rfl hlen hstack hdg
  have X₁ := X.noted hW₁
  rcases hK g.method meth c ⟨T.setVm vm₁, locs, cells, slots⟩ { g with stack := rest } (.invokespecial index) mk (Value.ref a :: argsL).toArray X₁ rfl hsize hdg hW (X₁.named hnamed) (hpre vm₁ X₁.warmed) with ⟨v, B, X', hpost, hsteps⟩ | ⟨q, B, X', hpost, hsteps⟩
  · exact Or.inl ⟨v, vm₁, B, X₁.warmed, X', hpost, fun target h => hstep₁ _ fun acts => by rw [doInvoke_state]; exact hsteps.trans h⟩
  · exact Or.inr ⟨q, vm₁, B, X₁.warmed, X', hpost, hstep₁ _ fun acts => by rw [doInvoke_state]; exact hsteps⟩
end VXIA
section VXIB
variable {p : Program} {l : Launch} {e : Env} {R : Room} {s : State} {m : MethodId} {args : Array Value} {below : List Frame} {meth : Method} {c : Code} {H : Heap} {locs : List Loc} {cells slots : Nat}
variable {y : MethodName} {bytes cc : ByteArray} {maxL nL mc ms n index : Nat} {ret : Option FieldType} {ws : List Cond} {rm : Room} {Pc : Array Value → State → Prop} {Qc : Array Value → State → Outcome → State → Prop} {XC : String → State → State → Prop} {free : Addr → Prop} {Ts : List Cond} {own C : String} {b : Addr} {As rest : List Value} {g : JFrame}
theorem vx_runI (S : CallFix p m c cc nL s args Ts own) (hM : vx_Met l y ws rm Pc Qc XC mc ms free) (cw : CallB R s args own index y bytes maxL none ws rm mc ms n ∧ y.name = "<init>" ∧ (Cond.instanceMethod y).before args s = true) (hp : PreS s H Pc (.ref b :: As))
    (hg : g.method = m) (hn : As.length = n) (hsize : g.locals.size = nL) (hstack : g.stack = As.reverse ++ .ref b :: rest) (hW : 2 * g.monitorRoom + (rest.map fun v => v.category).sum ≤ 8) (hdg : decode cc g.pc = .ok (.invokespecial index, 3)) (hf : cells + mc ≤ R.cells ∧ slots + ms ≤ R.slots) :
    vx_Run p l e R s m args below meth c H locs cells slots mc ms g rest (Qc (Value.ref b :: As).toArray) XC free := by
  have hK : vx_Back l R p e below s args y 3 8 (PreOf R mc ms Pc) (PostOf Qc mc ms free) (vx_Post XC mc ms free) := vx_callBack cw.1 hM hp.1
  obtain ⟨⟨-, -, -, -, -, -, hcode, -, hy, hlen, hl⟩, hy1, hin⟩ := cw
  obtain ⟨hx, hb, hml, ho, -⟩ := S
  have hPc := hp.2
  intro T hT X
  rcases vx_callI X hx (bytes := bytes) (maxL := maxL) ho hy1 hl hin hcode hy hK hg (hsize.trans hml.symm) (a := b) (argsL := As) (rest := rest) (fun sig h => hn.trans (hlen sig h)) hstack hW (by rw [hb]; exact hdg)
    (fun vm₁ hW₁ => ⟨hf.1, hf.2, hPc (T.setVm vm₁) hT hW₁⟩) with ⟨v, vm₁, ⟨U', l2, c2, s2⟩, hW₁, X', ⟨g', mk, t, L, e1, e2, hq, h1, hL, h2, h3⟩, st⟩ | ⟨q, vm₁, ⟨U', l2, c2, s2⟩, hW₁, X', ⟨g', mk, t, L, E, ce, e1, e2, hq, hce, hcv, hcl, h1, hL, h2, h3⟩, st⟩
  · dsimp only [Pt.U, Pt.locs, Pt.cells, Pt.slots] at X' e1 e2 h1 h2 h3 st
    subst h1; subst h2; subst h3
    exact Or.inl ⟨v, (T.setVm vm₁).calling g' mk (Value.ref b :: As).toArray, t, U', L, hT, X', hL, e1, e2, hq, st⟩
  · dsimp only [Pt.U, Pt.locs, Pt.cells, Pt.slots] at X' e1 e2 h1 h2 h3 st hcl
    subst h1; subst h2; subst h3
    exact Or.inr ⟨q, (T.setVm vm₁).calling g' mk (Value.ref b :: As).toArray, t, U', L, E, ce, hT, X', hL, e1, e2, hq, hce, hcv, vx_cls hW₁ hcl, st⟩
end VXIB
/-! ===== END ===== -/
/-! ===== BEGIN a private constructor of a nest mate that throws ===== -/
section VXIC
variable {p : Program} {l : Launch} {e : Env} {R : Room} {s : State} {m : MethodId} {args : Array Value} {below : List Frame} {meth : Method} {c : Code} {T : State} {locs : List Loc} {cells slots : Nat}
theorem vx_callIN (X : Stand p l e R s m args below meth c T locs cells slots) (hexec : p.tables.exec = Jvm.exec) {own : String} {index : Nat} {host : String} {y : MethodName} {bytes : ByteArray} {maxL : Nat}
    (hown : s.vm.findClass own = some m.cls) (hy1 : y.name = "<init>") (hlink : (Cond.methodLinkNest own index y host).before args s = true) (hinst : (Cond.instanceMethod y).before args s = true)
    (hcode : (Cond.code y bytes maxL none).before args s = true) (hy : y.cls ≠ "java/lang/invoke/MethodHandle" ∧ y.cls ≠ "java/lang/invoke/VarHandle")
    {W9 : Nat} {Pre : Pt → Array Value → Prop} {Post : Pt → Array Value → Option Value → Pt → Prop} {PostX : Pt → Array Value → Addr → Pt → Prop} (hK : vx_Back l R p e below s args y 3 W9 Pre Post PostX)
    {g : JFrame} (hg : g.method = m) (hsize : g.locals.size = c.maxLocals) {a : Addr} {argsL rest : List Value} (hlen : ∀ sig, parseMethodDescriptor y.desc = some sig → argsL.length = sig.parameters.length)
    (hstack : g.stack = argsL.reverse ++ .ref a :: rest) (hW : 2 * g.monitorRoom + (rest.map fun v => v.category).sum ≤ W9) (hdg : decode c.code g.pc = .ok (.invokespecial index, 3))
    (hpre : ∀ vm₁, s.WarmedH vm₁ → Pre ⟨T.setVm vm₁, locs, cells, slots⟩ (Value.ref a :: argsL).toArray) :
    (∃ (v : Option Value) (vm₁ : Vm) (B : Pt), s.WarmedH vm₁ ∧ Stand p l e R s m args below meth c B.U B.locs B.cells B.slots ∧ Post ⟨T.setVm vm₁, locs, cells, slots⟩ (Value.ref a :: argsL).toArray v B ∧
      ∀ target, Steps p.tables e below (B.U.setTop { g with pc := g.pc + 3, stack := v.toList ++ rest }) target → Steps p.tables e below (T.setTop g) target) ∨
    (∃ (q : Addr) (vm₁ : Vm) (B : Pt), s.WarmedH vm₁ ∧ Stand p l e R s m args below meth c B.U B.locs B.cells B.slots ∧ PostX ⟨T.setVm vm₁, locs, cells, slots⟩ (Value.ref a :: argsL).toArray q B ∧
      Steps p.tables e below (T.setTop g) ((B.U.setTop { g with stack := rest }).pushFrame (.throwing q))) := by
  subst hg
  have hpl : e.platform.magicAccessors = ({} : Platform).magicAccessors := by rw [X.admits.platform]
  obtain ⟨mk, methM, cM, kP, vm₁, hnamed, hmethM, hcodeM, -, hlocalsM, -, hkP, -, hW₁, hstep₁⟩ := Steps.initColdArgsNest (e := e) X.here hexec X.warmed hpl hown hy1 hy hlink hinst hcode (f := g) rfl hlen hstack hdg
  have X₁ := X.noted hW₁
  rcases hK g.method meth c ⟨T.setVm vm₁, locs, cells, slots⟩ { g with stack := rest } (.invokespecial index) mk (Value.ref a :: argsL).toArray X₁ rfl hsize hdg hW (X₁.named hnamed) (hpre vm₁ X₁.warmed) with ⟨v, B, X', hpost, hsteps⟩ | ⟨q, B, X', hpost, hsteps⟩
  · exact Or.inl ⟨v, vm₁, B, X₁.warmed, X', hpost, fun target h => hstep₁ _ fun acts => by rw [doInvoke_state]; exact hsteps.trans h⟩
  · exact Or.inr ⟨q, vm₁, B, X₁.warmed, X', hpost, hstep₁ _ fun acts => by rw [doInvoke_state]; exact hsteps⟩
end VXIC
section VXID
variable {p : Program} {l : Launch} {e : Env} {R : Room} {s : State} {m : MethodId} {args : Array Value} {below : List Frame} {meth : Method} {c : Code} {H : Heap} {locs : List Loc} {cells slots : Nat}
theorem vx_runIN {y : MethodName} {bytes cc : ByteArray} {maxL nL mc ms n index : Nat} {ws : List Cond} {rm : Room} {Pc : Array Value → State → Prop} {Qc : Array Value → State → Outcome → State → Prop} {XC : String → State → State → Prop} {free : Addr → Prop} {Ts : List Cond} {own host : String} {b : Addr} {As rest : List Value} {g : JFrame}
    (S : CallFix p m c cc nL s args Ts own) (hM : vx_Met l y ws rm Pc Qc XC mc ms free) (cw : va_CN R s args own index y host bytes maxL none ws rm mc ms n ∧ y.name = "<init>" ∧ (Cond.instanceMethod y).before args s = true) (hp : PreS s H Pc (.ref b :: As))
    (hg : g.method = m) (hn : As.length = n) (hsize : g.locals.size = nL) (hstack : g.stack = As.reverse ++ .ref b :: rest) (hW : 2 * g.monitorRoom + (rest.map fun v => v.category).sum ≤ 8) (hdg : decode cc g.pc = .ok (.invokespecial index, 3)) (hf : cells + mc ≤ R.cells ∧ slots + ms ≤ R.slots) :
    vx_Run p l e R s m args below meth c H locs cells slots mc ms g rest (Qc (Value.ref b :: As).toArray) XC free := by
  obtain ⟨⟨⟨hrc, hrs, hfr, hlo, hws, hcw⟩, hcode, hini, hy, hlen, hl⟩, hx1, hx2⟩ := cw
  have hK : vx_Back l R p e below s args y 3 8 (PreOf R mc ms Pc) (PostOf Qc mc ms free) (vx_Post XC mc ms free) := vx_back (bytes := bytes) (maxL := maxL) (ret := none) hM hp.1 hrc hrs hfr hlo hws hcw (fun a' U hW => word_at hW (Or.inl (by first | rfl | simp [Cond.onTables, Cond.keeps, Cond.steady])) hini)
  obtain ⟨hx, hb, hml, ho, -⟩ := S
  have hPc := hp.2
  intro T hT X
  rcases vx_callIN X hx (bytes := bytes) (maxL := maxL) ho hx1 hl hx2 hcode hy hK hg (hsize.trans hml.symm) (a := b) (argsL := As) (rest := rest) (fun sig h => hn.trans (hlen sig h)) hstack hW (by rw [hb]; exact hdg)
    (fun vm₁ hW₁ => ⟨hf.1, hf.2, hPc (T.setVm vm₁) hT hW₁⟩) with ⟨v, vm₁, ⟨U', l2, c2, s2⟩, hW₁, X', ⟨g', mk, t, L, e1, e2, hq, h1, hL, h2, h3⟩, st⟩ | ⟨q, vm₁, ⟨U', l2, c2, s2⟩, hW₁, X', ⟨g', mk, t, L, E, ce, e1, e2, hq, hce, hcv, hcl, h1, hL, h2, h3⟩, st⟩
  · dsimp only [Pt.U, Pt.locs, Pt.cells, Pt.slots] at X' e1 e2 h1 h2 h3 st
    subst h1; subst h2; subst h3
    exact Or.inl ⟨v, (T.setVm vm₁).calling g' mk (Value.ref b :: As).toArray, t, U', L, hT, X', hL, e1, e2, hq, st⟩
  · dsimp only [Pt.U, Pt.locs, Pt.cells, Pt.slots] at X' e1 e2 h1 h2 h3 st hcl
    subst h1; subst h2; subst h3
    exact Or.inr ⟨q, (T.setVm vm₁).calling g' mk (Value.ref b :: As).toArray, t, U', L, E, ce, hT, X', hL, e1, e2, hq, hce, hcv, vx_cls hW₁ hcl, st⟩
end VXID
/-! ===== END ===== -/
def RX0 : String := "OrphanTree$History"
def TX0 : u_T := fun k => match k with
  | 0 => ("OrphanTree$History", "past", "[LOrphanTree$Tree;", true)
  | 1 => ("OrphanTree$History", "size", "I", false)
  | _ => ("OrphanTree$History", "next", "I", false)
def tyX0 : Nat → FieldType := fun k => match k with
  | 0 => .array (.object "OrphanTree$Tree")
  | 1 => .int
  | _ => .int
abbrev wsX00 : List Cond := u_ws RX0 TX0 3
theorem nmX0 : ∀ a, a < 3 → ∀ b, b < 3 → a ≠ b → (TX0 a).2.1 ≠ (TX0 b).2.1 := by decide +kernel
theorem tyX0_ok : ∀ k, k < 3 → parseFieldDescriptor (TX0 k).2.2.1 = some (tyX0 k) := by decide +kernel
def RX1 : String := "OrphanTree$Input"
def TX1 : u_T := fun k => match k with
  | 0 => ("OrphanTree$Input", "bytes", "[B", true)
  | _ => ("OrphanTree$Input", "length", "I", false)
def tyX1 : Nat → FieldType := fun k => match k with
  | 0 => .array .byte
  | _ => .int
abbrev wsX10 : List Cond := u_ws RX1 TX1 2
theorem nmX1 : ∀ a, a < 2 → ∀ b, b < 2 → a ≠ b → (TX1 a).2.1 ≠ (TX1 b).2.1 := by decide +kernel
theorem tyX1_ok : ∀ k, k < 2 → parseFieldDescriptor (TX1 k).2.2.1 = some (tyX1 k) := by decide +kernel
def RX2 : String := "OrphanTree$Output"
def TX2 : u_T := fun k => match k with
  | 0 => ("OrphanTree$Output", "bytes", "[B", true)
  | _ => ("OrphanTree$Output", "length", "I", false)
def tyX2 : Nat → FieldType := fun k => match k with
  | 0 => .array .byte
  | _ => .int
abbrev wsX20 : List Cond := u_ws RX2 TX2 2
theorem nmX2 : ∀ a, a < 2 → ∀ b, b < 2 → a ≠ b → (TX2 a).2.1 ≠ (TX2 b).2.1 := by decide +kernel
theorem tyX2_ok : ∀ k, k < 2 → parseFieldDescriptor (TX2 k).2.2.1 = some (tyX2 k) := by decide +kernel
def RX3 : String := "OrphanTree$Proc"
def TX3 : u_T := fun k => match k with
  | 0 => ("OrphanTree$Proc", "number", "I", true)
  | 1 => ("OrphanTree$Proc", "state", "I", false)
  | 2 => ("OrphanTree$Proc", "supervisor", "LOrphanTree$Proc;", false)
  | 3 => ("OrphanTree$Proc", "children", "I", false)
  | 4 => ("OrphanTree$Proc", "capacity", "I", false)
  | 5 => ("OrphanTree$Proc", "group", "I", false)
  | 6 => ("OrphanTree$Proc", "budget", "I", false)
  | 7 => ("OrphanTree$Proc", "heir", "I", false)
  | 8 => ("OrphanTree$Proc", "refused", "I", false)
  | 9 => ("OrphanTree$Proc", "exitCode", "I", false)
  | 10 => ("OrphanTree$Proc", "exitOrder", "I", false)
  | 11 => ("OrphanTree$Proc", "adopted", "I", false)
  | 12 => ("OrphanTree$Proc", "replacement", "I", false)
  | 13 => ("OrphanTree$Proc", "doomed", "Z", false)
  | _ => ("OrphanTree$Proc", "wills", "J", false)
def tyX3 : Nat → FieldType := fun k => match k with
  | 0 => .int
  | 1 => .int
  | 2 => .object "OrphanTree$Proc"
  | 3 => .int
  | 4 => .int
  | 5 => .int
  | 6 => .int
  | 7 => .int
  | 8 => .int
  | 9 => .int
  | 10 => .int
  | 11 => .int
  | 12 => .int
  | 13 => .boolean
  | _ => .long
abbrev wsX30 : List Cond := u_ws RX3 TX3 15
theorem nmX3 : ∀ a, a < 15 → ∀ b, b < 15 → a ≠ b → (TX3 a).2.1 ≠ (TX3 b).2.1 := by decide +kernel
theorem tyX3_ok : ∀ k, k < 15 → parseFieldDescriptor (TX3 k).2.2.1 = some (tyX3 k) := by decide +kernel
def RX4 : String := "OrphanTree$SetupReader"
def TX4 : u_T := fun k => match k with
  | 0 => ("OrphanTree$SetupReader", "input", "LOrphanTree$Input;", true)
  | 1 => ("OrphanTree$SetupReader", "tree", "LOrphanTree$Tree;", true)
  | 2 => ("OrphanTree$SetupReader", "error", "I", false)
  | 3 => ("OrphanTree$SetupReader", "errorStart", "I", false)
  | 4 => ("OrphanTree$SetupReader", "kind", "I", false)
  | 5 => ("OrphanTree$SetupReader", "start", "I", false)
  | 6 => ("OrphanTree$SetupReader", "end", "I", false)
  | 7 => ("OrphanTree$SetupReader", "value", "I", false)
  | 8 => ("OrphanTree$SetupReader", "orderTold", "Z", false)
  | 9 => ("OrphanTree$SetupReader", "deepTold", "Z", false)
  | _ => ("OrphanTree$SetupReader", "rootTold", "Z", false)
def tyX4 : Nat → FieldType := fun k => match k with
  | 0 => .object "OrphanTree$Input"
  | 1 => .object "OrphanTree$Tree"
  | 2 => .int
  | 3 => .int
  | 4 => .int
  | 5 => .int
  | 6 => .int
  | 7 => .int
  | 8 => .boolean
  | 9 => .boolean
  | _ => .boolean
abbrev wsX40 : List Cond := u_ws RX4 TX4 11
theorem nmX4 : ∀ a, a < 11 → ∀ b, b < 11 → a ≠ b → (TX4 a).2.1 ≠ (TX4 b).2.1 := by decide +kernel
theorem tyX4_ok : ∀ k, k < 11 → parseFieldDescriptor (TX4 k).2.2.1 = some (tyX4 k) := by decide +kernel
def RX5 : String := "OrphanTree$Tree"
def TX5 : u_T := fun k => match k with
  | 0 => ("OrphanTree$Tree", "root", "LOrphanTree$Proc;", true)
  | 1 => ("OrphanTree$Tree", "procs", "[LOrphanTree$Proc;", true)
  | 2 => ("OrphanTree$Tree", "holders", "[I", true)
  | 3 => ("OrphanTree$Tree", "rules", "[I", true)
  | 4 => ("OrphanTree$Tree", "deep", "I", false)
  | 5 => ("OrphanTree$Tree", "come", "I", false)
  | 6 => ("OrphanTree$Tree", "exits", "I", false)
  | 7 => ("OrphanTree$Tree", "adoptions", "I", false)
  | 8 => ("OrphanTree$Tree", "rootAdoptions", "I", false)
  | _ => ("OrphanTree$Tree", "replacements", "I", false)
def tyX5 : Nat → FieldType := fun k => match k with
  | 0 => .object "OrphanTree$Proc"
  | 1 => .array (.object "OrphanTree$Proc")
  | 2 => .array .int
  | 3 => .array .int
  | 4 => .int
  | 5 => .int
  | 6 => .int
  | 7 => .int
  | 8 => .int
  | _ => .int
abbrev wsX50 : List Cond := u_ws RX5 TX5 10
theorem nmX5 : ∀ a, a < 10 → ∀ b, b < 10 → a ≠ b → (TX5 a).2.1 ≠ (TX5 b).2.1 := by decide +kernel
theorem tyX5_ok : ∀ k, k < 10 → parseFieldDescriptor (TX5 k).2.2.1 = some (tyX5 k) := by decide +kernel
def RX6 : String := "OrphanTree"
def TX6 : u_T := fun k => match k with
  | 0 => ("OrphanTree", "tree", "LOrphanTree$Tree;", true)
  | 1 => ("OrphanTree", "copy", "LOrphanTree$Tree;", true)
  | 2 => ("OrphanTree", "saved", "LOrphanTree$Tree;", true)
  | 3 => ("OrphanTree", "history", "LOrphanTree$History;", true)
  | 4 => ("OrphanTree", "reader", "LOrphanTree$SetupReader;", true)
  | 5 => ("OrphanTree", "output", "LOrphanTree$Output;", true)
  | _ => ("OrphanTree", "isSaved", "Z", false)
def tyX6 : Nat → FieldType := fun k => match k with
  | 0 => .object "OrphanTree$Tree"
  | 1 => .object "OrphanTree$Tree"
  | 2 => .object "OrphanTree$Tree"
  | 3 => .object "OrphanTree$History"
  | 4 => .object "OrphanTree$SetupReader"
  | 5 => .object "OrphanTree$Output"
  | _ => .boolean
abbrev wsX60 : List Cond := u_ws RX6 TX6 7
theorem nmX6 : ∀ a, a < 7 → ∀ b, b < 7 → a ≠ b → (TX6 a).2.1 ≠ (TX6 b).2.1 := by decide +kernel
theorem tyX6_ok : ∀ k, k < 7 → parseFieldDescriptor (TX6 k).2.2.1 = some (tyX6 k) := by decide +kernel
def RX7 : String := "OrphanTreeModel"
def TX7 : u_T := fun k => match k with
  | 0 => ("OrphanTreeModel", "w", "[I", true)
  | 1 => ("OrphanTreeModel", "wKept", "[I", true)
  | 2 => ("OrphanTreeModel", "aside", "[I", true)
  | 3 => ("OrphanTreeModel", "savedRow", "[I", true)
  | 4 => ("OrphanTreeModel", "past", "[I", true)
  | 5 => ("OrphanTreeModel", "doomed", "[Z", true)
  | 6 => ("OrphanTreeModel", "pastMany", "I", false)
  | 7 => ("OrphanTreeModel", "isSaved", "Z", false)
  | 8 => ("OrphanTreeModel", "thrown", "I", false)
  | 9 => ("OrphanTreeModel", "input", "[I", true)
  | 10 => ("OrphanTreeModel", "inputMany", "I", false)
  | 11 => ("OrphanTreeModel", "lastError", "I", false)
  | 12 => ("OrphanTreeModel", "lastOffset", "I", false)
  | 13 => ("OrphanTreeModel", "error", "I", false)
  | 14 => ("OrphanTreeModel", "offset", "I", false)
  | 15 => ("OrphanTreeModel", "nextByte", "I", false)
  | 16 => ("OrphanTreeModel", "begin", "I", false)
  | 17 => ("OrphanTreeModel", "value", "I", false)
  | 18 => ("OrphanTreeModel", "token", "I", false)
  | 19 => ("OrphanTreeModel", "once", "I", false)
  | 20 => ("OrphanTreeModel", "read", "[I", true)
  | 21 => ("OrphanTreeModel", "deepBefore", "[I", true)
  | 22 => ("OrphanTreeModel", "output", "[I", true)
  | _ => ("OrphanTreeModel", "outputMany", "I", false)
def tyX7 : Nat → FieldType := fun k => match k with
  | 0 => .array .int
  | 1 => .array .int
  | 2 => .array .int
  | 3 => .array .int
  | 4 => .array .int
  | 5 => .array .boolean
  | 6 => .int
  | 7 => .boolean
  | 8 => .int
  | 9 => .array .int
  | 10 => .int
  | 11 => .int
  | 12 => .int
  | 13 => .int
  | 14 => .int
  | 15 => .int
  | 16 => .int
  | 17 => .int
  | 18 => .int
  | 19 => .int
  | 20 => .array .int
  | 21 => .array .int
  | 22 => .array .int
  | _ => .int
abbrev wsX70 : List Cond := u_ws RX7 TX7 24
theorem nmX7 : ∀ a, a < 24 → ∀ b, b < 24 → a ≠ b → (TX7 a).2.1 ≠ (TX7 b).2.1 := by decide +kernel
theorem tyX7_ok : ∀ k, k < 24 → parseFieldDescriptor (TX7 k).2.2.1 = some (tyX7 k) := by decide +kernel
def RL : String := "OrphanTreeLaw"
abbrev vwCl : List vw_C := [(RX0, TX0, 3), (RX1, TX1, 2), (RX2, TX2, 2), (RX3, TX3, 15), (RX4, TX4, 11), (RX5, TX5, 10), (RX6, TX6, 7), (RX7, TX7, 24)]
end
section
/-! ===== an evaluator of the claim's bytecode over a picture of the heap (own work) =====
A value: a number below 2^32, or null or the number of a thing, or a number that depends on the script (which cell of it, if it is one), or a wide one or a float (0: long, 1: float, 2: double).
A thing: its kind (below 20: a class of vwCl; 20 int[], 21 byte[], 22 boolean[], 23 long[], 24 Proc[], 25 Tree[]; 99 nothing yet), how many fields or elements, and these.
A world: the things, how many there are, whether no cell of the heap lies behind them, what this frame has made (cells, slots). -/
abbrev ev_V : Type := Nat ⊕ (Option Nat ⊕ ((Option Nat × ((Nat → Int32) → Int32)) ⊕ (Nat × Nat)))
abbrev ev_C : Type := Nat × (Nat × List (List ev_V))
abbrev ev_W : Type := List (List ev_C) × (Nat × (Bool × (Nat × Nat)))
/-- an instruction: what it does, where it goes on, three operands, a list of operands -/
abbrev ev_E : Type := Nat × (Nat × (Nat × (Nat × (Nat × List Nat))))
/-- a method: its locals, the cells and slots that it may make, its handlers (from, to, handler, class), its code -/
abbrev ev_M : Type := Nat × (Nat × (Nat × (List (Nat × (Nat × (Nat × Nat))) × (Nat → ev_E))))
abbrev ev_L : Type := List (Option ev_V)
/-- an end: an answer; an exception by its number; a stop -/
abbrev ev_S : Type := (Option ev_V × ev_W) ⊕ ((Nat × ev_W) ⊕ (Nat × (ev_L × (List ev_V × ev_W))))
abbrev ev_R : Type := Option ev_S
/-- the script's length, and what is known of its cells (which, from, to; the least number counts as nought) -/
abbrev ev_P : Type := Nat × List (Nat × (Nat × Nat))
abbrev ev_N : Type := Nat → ev_L → List ev_V → ev_W → ev_R
abbrev ev_F : Type := Nat → List ev_V → ev_W → ev_R
abbrev ev_H : Type := ev_P → ev_M → ev_N → ev_F → Nat → Nat → Nat → Nat → List Nat → Nat → ev_L → List ev_V → ev_W → ev_R
noncomputable def ev_lg {α : Type} (l : List α) : Nat → Option α :=
  List.rec (motive := fun _ => Nat → Option α) (fun _ => none) (fun a _ ih n => Nat.rec (motive := fun _ => Option α) (some a) (fun m _ => ih m) n) l
noncomputable def ev_ls {α : Type} (l : List α) : Nat → α → List α :=
  List.rec (motive := fun _ => Nat → α → List α) (fun _ _ => []) (fun a t ih n v => Nat.rec (motive := fun _ => List α) (v :: t) (fun m _ => a :: ih m v) n) l
noncomputable def ev_if {α : Type} (c : Bool) (t e : α) : α := Bool.rec (motive := fun _ => α) e t c
noncomputable def ev_get {α : Type} (t : List (List α)) (i : Nat) : Option α :=
  Option.rec (motive := fun _ => Option α) none (fun c => ev_lg c (i % 32)) (ev_lg t (i / 32))
noncomputable def ev_lso {α : Type} (l : List α) : Nat → α → Option (List α) :=
  List.rec (motive := fun _ => Nat → α → Option (List α)) (fun _ _ => none) (fun a t ih n v => Nat.rec (motive := fun _ => Option (List α)) (some (v :: t)) (fun m _ => Option.rec (motive := fun _ => Option (List α)) none (fun z => some (a :: z)) (ih m v)) n) l
noncomputable def ev_sto {α : Type} (t : List (List α)) (i : Nat) (v : α) : Option (List (List α)) :=
  Option.rec (motive := fun _ => Option (List (List α))) none (fun c => Option.rec (motive := fun _ => Option (List (List α))) none (fun c' => ev_lso t (i / 32) c') (ev_lso c (i % 32) v)) (ev_lg t (i / 32))
/-- element b of the thing q at i becomes v -/
noncomputable def ev_upd (w : ev_W) (i : Nat) (q : ev_C) (b : Nat) (v : ev_V) (kt : ev_W → ev_R) : ev_R :=
  match ev_sto q.2.2 b v with
  | some d => match ev_sto w.1 i (q.1, (q.2.1, d)) with
    | some x => kt (x, w.2)
    | none => none
  | none => none
/-- kinds of values -/
def ev_ii : ev_V → Bool
  | .inl _ => true
  | .inr (.inr (.inl _)) => true
  | _ => false
def ev_ir : ev_V → Bool
  | .inr (.inl _) => true
  | _ => false
def ev_ik (k : Nat) : ev_V → Bool
  | .inr (.inr (.inr (j, _))) => Nat.beq j k
  | _ => false
def ev_wide : ev_V → Bool
  | .inr (.inr (.inr _)) => true
  | _ => false
/-- a value's biased bounds -/
def ev_bi (n : Nat) : Nat := (n + 2147483648) % 4294967296
noncomputable def ev_fl (l : List (Nat × (Nat × Nat))) (i : Nat) : Nat × Nat :=
  List.rec (motive := fun _ => Nat × Nat) (0, 4294967295) (fun q _ ih => ev_if (Nat.beq q.1 i) q.2 ih) l
noncomputable def ev_itv (Φ : ev_P) : ev_V → Option (Nat × Nat)
  | .inl n => some (ev_bi n, ev_bi n)
  | .inr (.inr (.inl (some i, _))) => some (ev_fl Φ.2 i)
  | .inr (.inr (.inl (none, _))) => some (0, 4294967295)
  | _ => none
noncomputable def ev_lt (Φ : ev_P) (x y : ev_V) : Option Bool :=
  match ev_itv Φ x, ev_itv Φ y with
  | some p, some q => ev_if (Nat.ble (p.2 + 1) q.1) (some true) (ev_if (Nat.ble q.2 p.1) (some false) none)
  | _, _ => none
noncomputable def ev_eq (Φ : ev_P) (x y : ev_V) : Option Bool :=
  match ev_itv Φ x, ev_itv Φ y with
  | some p, some q => ev_if (Nat.ble (p.2 + 1) q.1) (some false) (ev_if (Nat.ble (q.2 + 1) p.1) (some false) (ev_if (Nat.beq p.1 p.2 && (Nat.beq q.1 q.2 && Nat.beq p.1 q.1)) (some true) none))
  | _, _ => none
/-- 0: equal, 1: less, 2: greater -/
noncomputable def ev_cmp (Φ : ev_P) (j : Nat) (x y : ev_V) : Option Bool :=
  ev_if (Nat.beq j 0) (ev_eq Φ x y) (ev_if (Nat.beq j 1) (ev_lt Φ x y) (ev_lt Φ y x))
/-- numbers as functions of the script -/
noncomputable def ev_sv (σ : Nat → Int32) (i : Nat) : Int32 := if i < 1000 then σ i else σ (i - 1000) &&& 63
noncomputable def ev_iv : ev_V → Option ((Nat → Int32) → Int32)
  | .inl n => some (fun _ => nI n)
  | .inr (.inr (.inl (some i, _))) => some (fun σ => ev_sv σ i)
  | .inr (.inr (.inl (none, f))) => some f
  | _ => none
noncomputable def ev_b2 (G : Nat → Nat → Nat) (F : Int32 → Int32 → Int32) (x y : ev_V) : Option ev_V :=
  match x, y with
  | .inl m, .inl n => some (.inl (G m n))
  | x, y => match ev_iv x, ev_iv y with
    | some f, some g => some (.inr (.inr (.inl (none, fun σ => F (f σ) (g σ)))))
    | _, _ => none
def ev_n (x : Int32) : Nat := x.toBitVec.toNat
def ev_nl (x : Int64) : Nat := x.toBitVec.toNat
def ev_opI (j : Nat) (x y : Int32) : Int32 :=
  match j with
  | 0 => x * y
  | 1 => x &&& y
  | 2 => x ||| y
  | 3 => x ^^^ y
  | 4 => x <<< (y &&& 31)
  | 5 => x >>> (y &&& 31)
  | 6 => (x.toUInt32 >>> (y.toUInt32 &&& Int32.toUInt32 31)).toInt32
  | _ => 0
def ev_opL (j : Nat) (x y : Int64) : Int64 :=
  match j with
  | 0 => x &&& y
  | _ => x ||| y
def ev_opS (j : Nat) (x : Int64) (y : Int32) : Int64 :=
  match j with
  | 0 => x >>> (y.toInt64 &&& 63)
  | _ => x <<< (y.toInt64 &&& 63)
/-- the local ahead isn't of two slots -/
noncomputable def ev_nw (loc : ev_L) (a : Nat) : Bool :=
  match a with
  | 0 => true
  | k + 1 => match ev_lg loc k with
    | some (some v) => !ev_wide v
    | _ => true
/-- units of a stack -/
noncomputable def ev_cs : List ev_V → Nat
  | [] => 0
  | v :: r => ev_if (ev_wide v) 2 1 + ev_cs r
noncomputable def ev_sp (n : Nat) : List ev_V → List ev_V → Option (List ev_V × List ev_V) :=
  Nat.rec (motive := fun _ => List ev_V → List ev_V → Option (List ev_V × List ev_V)) (fun acc st => some (acc, st)) (fun _ ih acc st => match st with
    | [] => none
    | v :: r => ih (v :: acc) r) n
def ev_dv (c : Nat) : ev_V := match c with
  | 0 => .inl 0
  | 1 => .inr (.inl none)
  | _ => .inr (.inr (.inr (0, 0)))
/-- may a value stand in a field of this type: 0 int, 1 boolean, 2 reference, 3 long -/
def ev_fits (c : Nat) (v : ev_V) : Bool := match c with
  | 0 => ev_ii v
  | 1 => match v with
    | .inl n => Nat.ble n 1
    | _ => false
  | 2 => ev_ir v
  | _ => ev_ik 0 v
/-- may so many cells and slots be made -/
noncomputable def ev_may (M : ev_M) (w : ev_W) (c s : Nat) : Bool := Nat.ble (w.2.2.2.1 + c) M.2.1 && Nat.ble (w.2.2.2.2 + s) M.2.2.1
/-! the instructions -/
noncomputable def ev_h_none : ev_H := fun _ _ _ _ _ _ _ _ _ _ _ _ _ => none
noncomputable def ev_h_int : ev_H := fun _ _ k _ nx a _ _ _ _ loc st w => k nx loc (.inl a :: st) w
noncomputable def ev_h_null : ev_H := fun _ _ k _ nx _ _ _ _ _ loc st w => k nx loc (.inr (.inl none) :: st) w
noncomputable def ev_h_wide : ev_H := fun _ _ k _ nx a b _ _ _ loc st w => k nx loc (.inr (.inr (.inr (a, b))) :: st) w
noncomputable def ev_h_iload : ev_H := fun _ _ k _ nx a _ _ _ _ loc st w =>
  match ev_lg loc a with
  | some (some v) => ev_if (ev_ii v) (k nx loc (v :: st) w) none
  | _ => none
noncomputable def ev_h_aload : ev_H := fun _ _ k _ nx a _ _ _ _ loc st w =>
  match ev_lg loc a with
  | some (some v) => ev_if (ev_ir v) (k nx loc (v :: st) w) none
  | _ => none
noncomputable def ev_h_dload : ev_H := fun _ _ k _ nx a _ _ _ _ loc st w =>
  match ev_lg loc a with
  | some (some v) => ev_if (ev_ik 2 v) (k nx loc (v :: st) w) none
  | _ => none
noncomputable def ev_h_istore : ev_H := fun _ _ k _ nx a _ _ _ _ loc st w =>
  match st with
  | v :: r => ev_if (ev_ii v && ev_nw loc a) (k nx (ev_ls loc a (some v)) r w) none
  | _ => none
noncomputable def ev_h_astore : ev_H := fun _ _ k _ nx a _ _ _ _ loc st w =>
  match st with
  | v :: r => ev_if (ev_ir v && ev_nw loc a) (k nx (ev_ls loc a (some v)) r w) none
  | _ => none
noncomputable def ev_h_dstore : ev_H := fun _ _ k _ nx a _ _ _ _ loc st w =>
  match st with
  | v :: r => ev_if (ev_ik 2 v && ev_nw loc a) (k nx (ev_ls (ev_ls loc a (some v)) (a + 1) none) r w) none
  | _ => none
noncomputable def ev_h_iinc : ev_H := fun _ _ k _ nx a b _ _ _ loc st w =>
  match ev_lg loc a with
  | some (some (.inl n)) => ev_if (ev_nw loc a) (k nx (ev_ls loc a (some (.inl ((n + b) % 4294967296)))) st w) none
  | _ => none
noncomputable def ev_h_iadd : ev_H := fun _ _ k _ nx _ _ _ _ _ loc st w =>
  match st with
  | y :: x :: r => match ev_b2 (fun m n => (m + n) % 4294967296) (fun p q => p + q) x y with
    | some z => k nx loc (z :: r) w
    | none => none
  | _ => none
noncomputable def ev_h_isub : ev_H := fun _ _ k _ nx _ _ _ _ _ loc st w =>
  match st with
  | y :: x :: r => match ev_b2 (fun m n => (m + (4294967296 - n % 4294967296)) % 4294967296) (fun p q => p - q) x y with
    | some z => k nx loc (z :: r) w
    | none => none
  | _ => none
noncomputable def ev_h_ibin : ev_H := fun _ _ k _ nx a _ _ _ _ loc st w =>
  match st with
  | y :: x :: r => match ev_b2 (fun m n => ev_n (ev_opI a (nI m) (nI n))) (ev_opI a) x y with
    | some z => k nx loc (z :: r) w
    | none => none
  | _ => none
/-- a cell of the script, its last six bits -/
noncomputable def ev_h_iand63 : ev_H := fun Φ M k cl nx a b c tg pc loc st w =>
  match st with
  | .inl 63 :: .inr (.inr (.inl (some i, _))) :: r => ev_if (Nat.ble (i + 1) 1000) (k nx loc (.inr (.inr (.inl (some (i + 1000), fun _ => 0))) :: r) w) none
  | _ => ev_h_ibin Φ M k cl nx a b c tg pc loc st w
noncomputable def ev_h_idiv : ev_H := fun _ _ k _ nx a _ _ _ _ loc st w =>
  match st with
  | .inl y :: .inl x :: r => ev_if (Nat.ble 1 y && (Nat.ble (y + 1) 2147483648 && Nat.ble (x + 1) 2147483648)) (k nx loc (.inl (ev_if (Nat.beq a 0) (x / y) (x % y)) :: r) w) none
  | _ => none
noncomputable def ev_br (o : Option Bool) (t f : ev_R) : ev_R := match o with
  | some true => t
  | some false => f
  | none => none
noncomputable def ev_h_if0 : ev_H := fun Φ _ k _ _ a b c _ _ loc st w =>
  match st with
  | x :: r => ev_br (ev_cmp Φ a x (.inl 0)) (k b loc r w) (k c loc r w)
  | _ => none
noncomputable def ev_h_icmp : ev_H := fun Φ _ k _ _ a b c _ _ loc st w =>
  match st with
  | y :: x :: r => ev_br (ev_cmp Φ a x y) (k b loc r w) (k c loc r w)
  | _ => none
noncomputable def ev_oeq (x y : Option Nat) : Bool := match x, y with
  | some m, some n => Nat.beq m n
  | none, none => true
  | _, _ => false
noncomputable def ev_own (x : Option Nat) : Bool := match x with
  | some m => Nat.ble (m + 1) 1000000
  | none => true
noncomputable def ev_h_acmp : ev_H := fun _ _ k _ _ _ b c _ _ loc st w =>
  match st with
  | .inr (.inl y) :: .inr (.inl x) :: r => ev_if (ev_own x && ev_own y) (ev_if (ev_oeq x y) (k b loc r w) (k c loc r w)) none
  | _ => none
noncomputable def ev_h_isnull : ev_H := fun _ _ k _ _ _ b c _ _ loc st w =>
  match st with
  | .inr (.inl none) :: r => k b loc r w
  | .inr (.inl (some _)) :: r => k c loc r w
  | _ => none
noncomputable def ev_h_goto : ev_H := fun _ _ k _ nx _ _ _ _ _ loc st w => k nx loc st w
noncomputable def ev_h_dup : ev_H := fun _ _ k _ nx _ _ _ _ _ loc st w =>
  match st with
  | x :: r => ev_if (!ev_wide x) (k nx loc (x :: x :: r) w) none
  | _ => none
noncomputable def ev_h_dup2 : ev_H := fun _ _ k _ nx _ _ _ _ _ loc st w =>
  match st with
  | x :: y :: r => ev_if (!ev_wide x && !ev_wide y) (k nx loc (x :: y :: x :: y :: r) w) none
  | _ => none
noncomputable def ev_h_pop : ev_H := fun _ _ k _ nx _ _ _ _ _ loc st w =>
  match st with
  | x :: r => ev_if (!ev_wide x) (k nx loc r w) none
  | _ => none
noncomputable def ev_h_getf : ev_H := fun _ _ k _ nx a b _ _ _ loc st w =>
  match st with
  | .inr (.inl (some i)) :: r => match ev_get w.1 i with
    | some q => ev_if (Nat.beq q.1 a) (match ev_get q.2.2 b with
      | some v => k nx loc (v :: r) w
      | none => none) none
    | none => none
  | _ => none
noncomputable def ev_h_putf : ev_H := fun _ _ k _ nx a b c _ _ loc st w =>
  match st with
  | v :: .inr (.inl (some i)) :: r => match ev_get w.1 i with
    | some q => ev_if (Nat.beq q.1 a && ev_fits c v) (ev_upd w i q b v (k nx loc r)) none
    | none => none
  | _ => none
noncomputable def ev_h_alen : ev_H := fun Φ _ k _ nx _ _ _ _ _ loc st w =>
  match st with
  | .inr (.inl (some i)) :: r => ev_if (Nat.beq i 1000000) (k nx loc (.inl Φ.1 :: r) w) (match ev_get w.1 i with
    | some q => ev_if (Nat.ble 20 q.1 && Nat.ble q.1 25) (k nx loc (.inl q.2.1 :: r) w) none
    | none => none)
  | _ => none
/-- from an array of a kind from a to b -/
noncomputable def ev_h_ald : ev_H := fun _ _ k _ nx a b _ _ _ loc st w =>
  match st with
  | .inl j :: .inr (.inl (some i)) :: r => match ev_get w.1 i with
    | some q => ev_if (Nat.ble a q.1 && (Nat.ble q.1 b && (Nat.ble (j + 1) q.2.1 && Nat.ble q.2.1 65536))) (match ev_get q.2.2 j with
      | some v => k nx loc (v :: r) w
      | none => none) none
    | none => none
  | _ => none
/-- the same for ints: from the script, too -/
noncomputable def ev_h_iald : ev_H := fun Φ M k cl nx a b c tg pc loc st w =>
  match st with
  | .inl j :: .inr (.inl (some i)) :: r => ev_if (Nat.beq i 1000000) (ev_if (Nat.ble (j + 1) Φ.1 && Nat.ble Φ.1 1000) (k nx loc (.inr (.inr (.inl (some j, fun _ => 0))) :: r) w) none) (ev_h_ald Φ M k cl nx a b c tg pc loc st w)
  | _ => none
noncomputable def ev_h_iast : ev_H := fun _ _ k _ nx _ _ _ _ _ loc st w =>
  match st with
  | v :: .inl j :: .inr (.inl (some i)) :: r => match ev_get w.1 i with
    | some q => ev_if (Nat.beq q.1 20 && (ev_ii v && (Nat.ble (j + 1) q.2.1 && Nat.ble q.2.1 65536))) (ev_upd w i q j v (k nx loc r)) none
    | none => none
  | _ => none
def ev_nb : ev_V → Option ev_V
  | .inl n => some (.inl (ev_n (nI n).toInt8.toInt32))
  | .inr (.inr (.inl (none, f))) => some (.inr (.inr (.inl (none, fun σ => (f σ).toInt8.toInt32))))
  | _ => none
/-- into a byte[] what is a byte, into a boolean[] 0 or 1 -/
noncomputable def ev_h_bast : ev_H := fun _ _ k _ nx _ _ _ _ _ loc st w =>
  match st with
  | v :: .inl j :: .inr (.inl (some i)) :: r => match ev_get w.1 i with
    | some q => ev_if (Nat.ble (j + 1) q.2.1 && Nat.ble q.2.1 65536)
      (ev_if (Nat.beq q.1 21) (match ev_nb v with
        | some z => ev_upd w i q j z (k nx loc r)
        | none => none) (ev_if (Nat.beq q.1 22 && ev_fits 1 v) (ev_upd w i q j v (k nx loc r)) none)) none
    | none => none
  | _ => none
noncomputable def ev_h_last : ev_H := fun _ _ k _ nx _ _ _ _ _ loc st w =>
  match st with
  | v :: .inl j :: .inr (.inl (some i)) :: r => match ev_get w.1 i with
    | some q => ev_if (Nat.beq q.1 23 && (ev_ik 0 v && (Nat.ble (j + 1) q.2.1 && Nat.ble q.2.1 65536))) (ev_upd w i q j v (k nx loc r)) none
    | none => none
  | _ => none
/-- a Proc (3) into a Proc[] (24), a Tree (5) into a Tree[] (25): the class is asked of the program -/
noncomputable def ev_h_aast (cP cT : Nat) : ev_H := fun _ _ k _ nx _ _ _ _ _ loc st w =>
  match st with
  | .inr (.inl (some x)) :: .inl j :: .inr (.inl (some i)) :: r => match ev_get w.1 i, ev_get w.1 x with
    | some q, some u => ev_if ((ev_if (Nat.beq q.1 24) (Nat.beq u.1 cP) (Nat.beq q.1 25 && Nat.beq u.1 cT)) && (Nat.ble (j + 1) q.2.1 && Nat.ble q.2.1 65536)) (ev_upd w i q j (.inr (.inl (some x))) (k nx loc r)) none
    | _, _ => none
  | _ => none
/-- a new thing q of s slots -/
noncomputable def ev_mk (w : ev_W) (q : ev_C) (s : Nat) (kt : ev_W → ev_R) : ev_R :=
  ev_if w.2.2.1 (match ev_sto w.1 w.2.1 q with
    | some x => kt (x, (w.2.1 + 1, (true, (w.2.2.2.1 + 1, w.2.2.2.2 + s))))
    | none => none) none
noncomputable def ev_h_new : ev_H := fun _ M k _ nx a b _ tg _ loc st w =>
  ev_if (ev_may M w 1 b) (ev_mk w (a, (b, [tg.map ev_dv])) b (k nx loc (.inr (.inl (some w.2.1)) :: st))) none
noncomputable def ev_rows (n : Nat) (v : ev_V) : List (List ev_V) := List.replicate (n / 32 + 1) (List.replicate 32 v)
noncomputable def ev_h_newa : ev_H := fun _ M k _ nx a b _ _ _ loc st w =>
  match st with
  | .inl n :: r => ev_if (ev_may M w 1 n && Nat.ble n 65536) (ev_mk w (a, (n, ev_rows n (ev_dv b))) n (k nx loc (.inr (.inl (some w.2.1)) :: r))) none
  | _ => none
/-- behind a call -/
noncomputable def ev_back (w w2 : ev_W) (c s : Nat) : ev_W := (w2.1, (w2.2.1, (w2.2.2.1, (w.2.2.2.1 + c, w.2.2.2.2 + s))))
/-- which handler takes exception E over pc -/
noncomputable def ev_hd (l : List (Nat × (Nat × (Nat × Nat)))) (pc E : Nat) : Option Nat :=
  List.rec (motive := fun _ => Option Nat) none (fun q _ ih => ev_if (Nat.ble q.1 pc && Nat.ble (pc + 1) q.2.1) (ev_if (Nat.beq q.2.2.2 E) (some q.2.2.1) ih) ih) l
/-- an exception over pc: caught by a handler that begins with a store of it, or on to the caller -/
noncomputable def ev_exc (M : ev_M) (k : ev_N) (pc E : Nat) (loc : ev_L) (w : ev_W) : ev_R :=
  match ev_hd M.2.2.2.1 pc E with
  | none => ev_if (ev_may M w 0 0) (some (.inr (.inl (E, w)))) none
  | some h => match M.2.2.2.2 h with
    | (op, (nx, (a, _))) => ev_if (Nat.beq op 10 && ev_nw loc a) (k nx (ev_ls loc a none) [] w) none
/-- the receiver's class is asked (its number + 1; 0: not asked) -/
noncomputable def ev_rc (c : Nat) (As : List ev_V) (w : ev_W) : Bool := match c, As with
  | 0, _ => true
  | ci + 1, .inr (.inl (some i)) :: _ => match ev_get w.1 i with
    | some q => Nat.beq q.1 ci
    | none => false
  | _, _ => false
noncomputable def ev_cont (M : ev_M) (k : ev_N) (nx pc : Nat) (loc : ev_L) (r : List ev_V) (w : ev_W) (mc ms : Nat) (o : ev_R) : ev_R := match o with
  | some (.inl (some v, w2)) => k nx loc (v :: r) (ev_back w w2 mc ms)
  | some (.inl (none, w2)) => k nx loc r (ev_back w w2 mc ms)
  | some (.inr (.inl (E, w2))) => ev_exc M k pc E loc (ev_back w w2 mc ms)
  | _ => none
/-- a call: a which method, b how many things come off the stack, c the receiver's class + 1 (0: not asked) -/
noncomputable def ev_h_call : ev_H := fun _ M k cl nx a b c tg pc loc st w =>
  match ev_sp b [] st with
  | some (As, r) => match tg with
    | [mc, ms] => ev_if (Nat.ble (ev_cs r) 8 && (ev_may M w mc ms && As.all (fun v => !ev_wide v))) (ev_if (ev_rc c As w) (ev_cont M k nx pc loc r w mc ms (cl a As (w.1, (w.2.1, (w.2.2.1, (0, 0)))))) none) none
    | _ => none
  | none => none
noncomputable def ev_h_objinit : ev_H := fun _ _ k _ nx _ _ _ _ _ loc st w =>
  match st with
  | .inr (.inl (some _)) :: r => ev_if (Nat.ble (ev_cs r) 8) (k nx loc r w) none
  | _ => none
noncomputable def ev_h_throw : ev_H := fun _ M _ _ _ a _ _ _ _ _ st w =>
  ev_if (ev_may M w 1 6 && Nat.ble (ev_cs st) 8) (some (.inr (.inl (a, (w.1, (w.2.1, (false, (w.2.2.2.1 + 1, w.2.2.2.2 + 6)))))))) none
noncomputable def ev_h_vret : ev_H := fun _ M _ _ _ _ _ _ _ _ _ st w =>
  match st with
  | [] => ev_if (ev_may M w 0 0) (some (.inl (none, w))) none
  | _ => none
/-- a: 0 int, 1 boolean -/
noncomputable def ev_h_iret : ev_H := fun _ M _ _ _ a _ _ _ _ _ st w =>
  match st with
  | [v] => ev_if (ev_fits a v && ev_may M w 0 0) (some (.inl (some v, w))) none
  | _ => none
noncomputable def ev_h_aret : ev_H := fun _ M _ _ _ _ _ _ _ _ _ st w =>
  match st with
  | [v] => ev_if (ev_ir v && ev_may M w 0 0) (some (.inl (some v, w))) none
  | _ => none
noncomputable def ev_h_wret : ev_H := fun _ M _ _ _ a _ _ _ _ _ st w =>
  match st with
  | [v] => ev_if (ev_ik a v && ev_may M w 0 0) (some (.inl (some v, w))) none
  | _ => none
/-- a, b: the least and the greatest case, biased; c: the default -/
noncomputable def ev_h_switch : ev_H := fun Φ _ k _ _ a b c tg _ loc st w =>
  match st with
  | x :: r => match ev_itv Φ x with
    | some p => ev_if (Nat.ble (p.2 + 1) a || Nat.ble (b + 1) p.1) (k c loc r w) (ev_if (Nat.beq p.1 p.2 && (Nat.ble a p.1 && Nat.ble p.1 b)) (match ev_lg tg (p.1 - a) with
      | some t => k t loc r w
      | none => none) none)
    | none => none
  | _ => none
/-- from one value to another: 0 i2l, 1 l2i, 2 i2d, 3 i2f, 4 f2d, 5 i2b, 6 i2c -/
def ev_n64 (r : UInt64) : Bool := decide (r &&& 0x7fffffffffffffff ≤ 0x7ff0000000000000)
def ev_n32 (r : UInt32) : Bool := decide (r &&& 0x7fffffff ≤ 0x7f800000)
noncomputable def ev_cv (j : Nat) (v : ev_V) : Option ev_V :=
  match j, v with
  | 0, .inl n => some (.inr (.inr (.inr (0, ev_nl (nI n).toInt64))))
  | 1, .inr (.inr (.inr (0, n))) => some (.inl (ev_n (lN n).toInt32))
  | 2, .inl n => some (.inr (.inr (.inr (2, (FP.i2d (nI n)).toNat))))
  | 3, .inl n => some (.inr (.inr (.inr (1, (FP.i2f (nI n)).toNat))))
  | 4, .inr (.inr (.inr (1, n))) => ev_if (ev_n64 (FP.f2d (UInt32.ofNat n))) (some (.inr (.inr (.inr (2, (FP.f2d (UInt32.ofNat n)).toNat))))) none
  | 5, .inl n => some (.inl (ev_n (nI n).toInt8.toInt32))
  | 5, .inr (.inr (.inl (none, f))) => some (.inr (.inr (.inl (none, fun σ => (f σ).toInt8.toInt32))))
  | 6, .inl n => some (.inl (n % 65536))
  | _, _ => none
noncomputable def ev_h_cv : ev_H := fun _ _ k _ nx a _ _ _ _ loc st w =>
  match st with
  | x :: r => match ev_cv a x with
    | some z => k nx loc (z :: r) w
    | none => none
  | _ => none
/-- two values to one: 0 ddiv, 1 fdiv, 2 dcmpl, 3 dcmpg, 4 lcmp, 5 lshr, 6 lshl, 7 land, 8 lor, 9 Math.max -/
noncomputable def ev_w2 (j : Nat) (x y : ev_V) : Option ev_V :=
  match j, x, y with
  | 0, .inr (.inr (.inr (2, m))), .inr (.inr (.inr (2, n))) => ev_if (ev_n64 (FP.ddiv (UInt64.ofNat m) (UInt64.ofNat n))) (some (.inr (.inr (.inr (2, (FP.ddiv (UInt64.ofNat m) (UInt64.ofNat n)).toNat))))) none
  | 1, .inr (.inr (.inr (1, m))), .inr (.inr (.inr (1, n))) => ev_if (ev_n32 (FP.fdiv (UInt32.ofNat m) (UInt32.ofNat n))) (some (.inr (.inr (.inr (1, (FP.fdiv (UInt32.ofNat m) (UInt32.ofNat n)).toNat))))) none
  | 2, .inr (.inr (.inr (2, m))), .inr (.inr (.inr (2, n))) => some (.inl (ev_n (Op.cmpValue (FP.dcmp (UInt64.ofNat m) (UInt64.ofNat n)) .l)))
  | 3, .inr (.inr (.inr (2, m))), .inr (.inr (.inr (2, n))) => some (.inl (ev_n (Op.cmpValue (FP.dcmp (UInt64.ofNat m) (UInt64.ofNat n)) .g)))
  | 4, .inr (.inr (.inr (0, m))), .inr (.inr (.inr (0, n))) => some (.inl (ev_n (lg_cmp (lN m) (lN n))))
  | 5, .inr (.inr (.inr (0, m))), .inl n => some (.inr (.inr (.inr (0, ev_nl (ev_opS 0 (lN m) (nI n))))))
  | 6, .inr (.inr (.inr (0, m))), .inl n => some (.inr (.inr (.inr (0, ev_nl (ev_opS 1 (lN m) (nI n))))))
  | 7, .inr (.inr (.inr (0, m))), .inr (.inr (.inr (0, n))) => some (.inr (.inr (.inr (0, ev_nl (ev_opL 0 (lN m) (lN n))))))
  | 8, .inr (.inr (.inr (0, m))), .inr (.inr (.inr (0, n))) => some (.inr (.inr (.inr (0, ev_nl (ev_opL 1 (lN m) (lN n))))))
  | 9, .inl m, .inl n => some (.inl (ev_if (Nat.ble (ev_bi m + 1) (ev_bi n)) n m))
  | _, _, _ => none
noncomputable def ev_h_w2 : ev_H := fun _ M k _ nx a _ _ _ _ loc st w =>
  match st with
  | y :: x :: r => match ev_w2 a x y with
    | some z => ev_if (Nat.ble (ev_cs r) 8 && ev_may M w 0 0) (k nx loc (z :: r) w) none
    | none => none
  | _ => none
/-- System.arraycopy between int[]s, from their beginnings -/
noncomputable def ev_cpy (n : Nat) (f g : List (List ev_V)) : Option (List (List ev_V)) :=
  Nat.rec (motive := fun _ => Option (List (List ev_V))) (some g) (fun i ih => match ih, ev_get f i with
    | some h, some v => ev_if (ev_ii v) (ev_sto h i v) none
    | _, _ => none) n
noncomputable def ev_h_copy : ev_H := fun _ _ k _ nx _ _ _ _ _ loc st w =>
  match st with
  | .inl n :: .inl 0 :: .inr (.inl (some i)) :: .inl 0 :: .inr (.inl (some i0)) :: r => match ev_get w.1 i, ev_get w.1 i0 with
    | some q, some q0 => ev_if (Nat.beq q.1 20 && (Nat.beq q0.1 20 && (Nat.ble n q.2.1 && (Nat.ble n q0.2.1 && (Nat.ble q.2.1 65536 && (Nat.ble q0.2.1 65536 && Nat.ble (ev_cs r) 8)))))) (match ev_cpy n q0.2.2 q.2.2 with
      | some z => match ev_sto w.1 i (q.1, (q.2.1, z)) with
        | some x => k nx loc r (x, w.2)
        | none => none
      | none => none) none
    | _, _ => none
  | _ => none
noncomputable def ev_h_stop : ev_H := fun _ _ _ _ _ a _ _ _ _ loc st w => some (.inr (.inr (a, (loc, (st, w)))))
/-! which is which: two digits, eight to each -/
noncomputable def ev_sw (n : Nat) (f g : Nat → ev_H) : Nat → ev_H := fun op => Bool.rec (motive := fun _ => ev_H) (g op) (f op) (Nat.ble op n)
noncomputable def ev_k (h : ev_H) : Nat → ev_H := fun _ => h
noncomputable def ev_sel : Nat → ev_H := (ev_sw 25 (ev_sw 13 (ev_sw 7 (ev_sw 2 (ev_sw 1 (ev_sw 0 (ev_k ev_h_none) (ev_k ev_h_int)) (ev_k ev_h_null)) (ev_sw 6 (ev_sw 3 (ev_k ev_h_wide) (ev_k ev_h_iload)) (ev_k ev_h_aload))) (ev_sw 10 (ev_sw 9 (ev_sw 8 (ev_k ev_h_dload) (ev_k ev_h_istore)) (ev_k ev_h_astore)) (ev_sw 12 (ev_sw 11 (ev_k ev_h_dstore) (ev_k ev_h_iinc)) (ev_k ev_h_iadd)))) (ev_sw 19 (ev_sw 16 (ev_sw 15 (ev_sw 14 (ev_k ev_h_isub) (ev_k ev_h_ibin)) (ev_k ev_h_if0)) (ev_sw 18 (ev_sw 17 (ev_k ev_h_icmp) (ev_k ev_h_acmp)) (ev_k ev_h_isnull))) (ev_sw 22 (ev_sw 21 (ev_sw 20 (ev_k ev_h_goto) (ev_k ev_h_dup)) (ev_k ev_h_dup2)) (ev_sw 24 (ev_sw 23 (ev_k ev_h_pop) (ev_k ev_h_getf)) (ev_k ev_h_putf))))) (ev_sw 37 (ev_sw 31 (ev_sw 28 (ev_sw 27 (ev_sw 26 (ev_k ev_h_alen) (ev_k ev_h_iald)) (ev_k ev_h_iast)) (ev_sw 30 (ev_sw 29 (ev_k ev_h_ald) (ev_k ev_h_bast)) (ev_k ev_h_last))) (ev_sw 34 (ev_sw 33 (ev_sw 32 (ev_k (ev_h_aast 3 5)) (ev_k ev_h_new)) (ev_k ev_h_newa)) (ev_sw 36 (ev_sw 35 (ev_k ev_h_call) (ev_k ev_h_objinit)) (ev_k ev_h_throw)))) (ev_sw 43 (ev_sw 40 (ev_sw 39 (ev_sw 38 (ev_k ev_h_vret) (ev_k ev_h_iret)) (ev_k ev_h_aret)) (ev_sw 42 (ev_sw 41 (ev_k ev_h_wret) (ev_k ev_h_switch)) (ev_k ev_h_cv))) (ev_sw 46 (ev_sw 45 (ev_sw 44 (ev_k ev_h_w2) (ev_k ev_h_copy)) (ev_k ev_h_stop)) (ev_sw 47 (ev_k ev_h_idiv) (ev_k ev_h_iand63))))))
/-- one instruction -/
noncomputable def ev_exec (Φ : ev_P) (M : ev_M) (k : ev_N) (cl : ev_F) (x : ev_E) (pc : Nat) (loc : ev_L) (st : List ev_V) (w : ev_W) : ev_R :=
  Prod.rec (motive := fun _ => ev_R) (fun op x => Prod.rec (motive := fun _ => ev_R) (fun nx x => Prod.rec (motive := fun _ => ev_R) (fun a x => Prod.rec (motive := fun _ => ev_R) (fun b x => Prod.rec (motive := fun _ => ev_R) (fun c tg => ev_sel op Φ M k cl nx a b c tg pc loc st w) x) x) x) x) x
/-- the locals at a method's start -/
noncomputable def ev_loc (n : Nat) (As : List ev_V) : ev_L := As.map some ++ List.replicate (n - As.length) none
/-- d: how many calls deep it may still go -/
noncomputable def ev_run (Φ : ev_P) (P : Nat → ev_M) (n : Nat) : Nat → ev_M → ev_N :=
  Nat.rec (motive := fun _ => Nat → ev_M → ev_N) (fun _ _ _ _ _ _ => none)
    (fun _ ih d M pc loc st w => ev_exec Φ M (ih d M) (fun mi As w => Nat.rec (motive := fun _ => ev_R) none (fun d' _ => ih d' (P mi) 0 (ev_loc (P mi).1 As) [] w) d) (M.2.2.2.2 pc) pc loc st w) n
/-- a method's code as a tree -/
noncomputable def ev_ct (n : Nat) (f g : Nat → ev_E) : Nat → ev_E := fun pc => Bool.rec (motive := fun _ => ev_E) (g pc) (f pc) (Nat.ble pc n)
noncomputable def ev_cl (x : ev_E) : Nat → ev_E := fun _ => x
noncomputable def ev_mt (n : Nat) (f g : Nat → ev_M) : Nat → ev_M := fun i => Bool.rec (motive := fun _ => ev_M) (g i) (f i) (Nat.ble i n)
noncomputable def ev_ml (x : ev_M) : Nat → ev_M := fun _ => x
end
section
/-! ===== what the evaluator's values, things and worlds say of the machine (own work) ===== -/
theorem ev_lg_eq {α : Type} (l : List α) : ∀ n, ev_lg l n = l[n]? := by
  induction l with
  | nil => intro n; rfl
  | cons a t ih =>
    intro n
    cases n with
    | zero => rfl
    | succ m => exact (ih m).trans (by simp)
theorem ev_ls_eq {α : Type} (l : List α) : ∀ n v, ev_ls l n v = l.set n v := by
  induction l with
  | nil => intro n v; rfl
  | cons a t ih =>
    intro n v
    cases n with
    | zero => rfl
    | succ m =>
      show a :: ev_ls t m v = _
      rw [ih]
      rfl
theorem ev_if_t {α : Type} {t e : α} : ev_if true t e = t := rfl
theorem ev_if_f {α : Type} {t e : α} : ev_if false t e = e := rfl
theorem ev_if_n {α : Type} {c : Bool} {t : Option α} {r : α} (h : ev_if c t none = some r) : c = true ∧ t = some r := by
  cases c
  · cases h
  · exact ⟨rfl, h⟩
theorem ev_get_eq {α : Type} (t : List (List α)) (i : Nat) : ev_get t i = (t[i / 32]?).bind (fun c => c[i % 32]?) := by
  unfold ev_get
  rw [ev_lg_eq]
  cases h : t[i / 32]? with
  | none => rfl
  | some c => exact ev_lg_eq c _
theorem ev_lso_eq {α : Type} (l : List α) : ∀ n v l', ev_lso l n v = some l' → n < l.length ∧ l' = l.set n v := by
  induction l with
  | nil => intro n v l' h; exact absurd h (fun z => by cases z)
  | cons a t ih =>
    intro n v l' h
    cases n with
    | zero =>
      have h : some (v :: t) = some l' := h
      cases h
      exact ⟨by simp, rfl⟩
    | succ m =>
      have h : (Option.rec none (fun z => some (a :: z)) (ev_lso t m v) : Option (List α)) = some l' := h
      cases hz : ev_lso t m v with
      | none => rw [hz] at h; exact absurd h (fun z => by cases z)
      | some z =>
        rw [hz] at h
        have h : some (a :: z) = some l' := h
        cases h
        obtain ⟨h1, h2⟩ := ih m v z hz
        exact ⟨by simpa using h1, by rw [h2]; rfl⟩
theorem ev_sto_ok {α : Type} {t t' : List (List α)} {i : Nat} {v : α} (h : ev_sto t i v = some t') : (∃ u, ev_get t i = some u) ∧ ∀ j, ev_get t' j = if j = i then some v else ev_get t j := by
  unfold ev_sto at h
  rw [ev_lg_eq] at h
  cases hc : t[i / 32]? with
  | none => rw [hc] at h; exact absurd h (fun z => by cases z)
  | some c =>
    rw [hc] at h
    have h : (Option.rec none (fun c' => ev_lso t (i / 32) c') (ev_lso c (i % 32) v) : Option (List (List α))) = some t' := h
    cases hz : ev_lso c (i % 32) v with
    | none => rw [hz] at h; exact absurd h (fun z => by cases z)
    | some c' =>
      rw [hz] at h
      obtain ⟨hl2, rfl⟩ := ev_lso_eq c _ _ _ hz
      obtain ⟨hl1, rfl⟩ := ev_lso_eq t _ _ _ h
      refine ⟨⟨c[i % 32], ?_⟩, fun j => ?_⟩
      · rw [ev_get_eq, hc]
        exact List.getElem?_eq_getElem hl2
      · rw [ev_get_eq, ev_get_eq]
        by_cases h1 : j / 32 = i / 32
        · rw [h1, List.getElem?_set_self hl1, hc]
          show (c.set (i % 32) v)[j % 32]? = _
          by_cases h2 : j % 32 = i % 32
          · have : j = i := by omega
            rw [if_pos this, h2, List.getElem?_set_self hl2]
          · have : ¬ j = i := fun q => h2 (by rw [q])
            rw [if_neg this, List.getElem?_set_ne (fun q => h2 q.symm)]
            rfl
        · have : ¬ j = i := fun q => h1 (by rw [q])
          rw [if_neg this, List.getElem?_set_ne (fun q => h1 q.symm)]
theorem ev_upd_ok {w : ev_W} {i b : Nat} {q : ev_C} {v : ev_V} {kt : ev_W → ev_R} {r : ev_S} (h : ev_upd w i q b v kt = some r) :
    ∃ (d : List (List ev_V)) (x : List (List ev_C)) (u : ev_V), ev_get q.2.2 b = some u ∧ (∀ j, ev_get d j = if j = b then some v else ev_get q.2.2 j) ∧ (∀ j, ev_get x j = if j = i then some (q.1, (q.2.1, d)) else ev_get w.1 j) ∧ kt (x, w.2) = some r := by
  unfold ev_upd at h
  split at h
  · next d hd =>
    split at h
    · next x hx =>
      obtain ⟨⟨u, hu⟩, h1⟩ := ev_sto_ok hd
      exact ⟨d, x, u, hu, h1, (ev_sto_ok hx).2, h⟩
    · cases h
  · cases h
/-! numbers -/
def ev_bb (x : Int32) : Nat := (x.toInt + 2147483648).toNat
theorem ev_bb_ge (x : Int32) : -2147483648 ≤ x.toInt ∧ x.toInt < 2147483648 := ⟨by have := x.le_toInt; simpa using this, by have := x.toInt_lt; simpa using this⟩
theorem ev_bb_lt (x y : Int32) : x < y ↔ ev_bb x < ev_bb y := by
  rw [Int32.lt_iff_toInt_lt]
  have h1 := ev_bb_ge x
  have h2 := ev_bb_ge y
  unfold ev_bb
  omega
theorem ev_bb_inj {x y : Int32} (h : ev_bb x = ev_bb y) : x = y := by
  have h1 := ev_bb_ge x
  have h2 := ev_bb_ge y
  unfold ev_bb at h
  exact Int32.toInt_inj.mp (by omega)
theorem ev_bb_max (x : Int32) : ev_bb x ≤ 4294967295 := by
  have h1 := ev_bb_ge x
  unfold ev_bb
  omega
theorem ev_nI_toInt (n : Nat) : (nI n).toInt = ((n : Int) + 2147483648) % 4294967296 - 2147483648 := by
  unfold nI
  rw [Int32.toInt_ofNat', Int.bmod_def]
  have e : (Int32.size : Int) = 4294967296 := by rfl
  rw [e]
  omega
theorem ev_bi_ok (n : Nat) : ev_bi n = ev_bb (nI n) := by
  unfold ev_bi ev_bb
  rw [ev_nI_toInt]
  omega
theorem ev_nI_eq {m n : Nat} (h : m % 4294967296 = n % 4294967296) : nI m = nI n := by
  apply ev_bb_inj
  rw [← ev_bi_ok, ← ev_bi_ok]
  unfold ev_bi
  omega
theorem ev_nI_mod (n : Nat) : nI (n % 4294967296) = nI n := ev_nI_eq (by omega)
theorem ev_nI_n (x : Int32) : nI (ev_n x) = x := by
  unfold ev_n nI
  exact Int32.toBitVec_inj.mp (by simp)
theorem ev_lN_n (x : Int64) : lN (ev_nl x) = x := by
  unfold ev_nl lN
  exact Int64.toBitVec_inj.mp (by simp)
theorem ev_nI_add (m n : Nat) : nI ((m + n) % 4294967296) = nI m + nI n := by rw [ev_nI_mod, nI_add]
theorem ev_nI_sub (m n : Nat) : nI ((m + (4294967296 - n % 4294967296)) % 4294967296) = nI m - nI n := by
  have h : nI ((m + (4294967296 - n % 4294967296)) % 4294967296) + nI n = nI m := by
    rw [nI_add]
    exact ev_nI_eq (by omega)
  rw [← h, Int32.add_sub_cancel]
theorem ev_nI_small {n : Nat} (h : n < 2147483648) : (nI n).toNatClampNeg = n ∧ ¬ nI n < 0 := ⟨nI_clamp (by omega), nI_pos (by omega)⟩
/-! values -/
def ev_ad (b B0 k : Nat) : Nat := if k = 1000000 then b else B0 + k
noncomputable def ev_dn (b B0 : Nat) (σ : Nat → Int32) : ev_V → Value
  | .inl n => .int (nI n)
  | .inr (.inl none) => .null
  | .inr (.inl (some k)) => .ref (ev_ad b B0 k)
  | .inr (.inr (.inl (some i, _))) => .int (ev_sv σ i)
  | .inr (.inr (.inl (none, f))) => .int (f σ)
  | .inr (.inr (.inr (0, n))) => .long (lN n)
  | .inr (.inr (.inr (1, n))) => .float (UInt32.ofNat n)
  | .inr (.inr (.inr (_, n))) => .double (UInt64.ofNat n)
section EVV
variable {b B0 : Nat} {σ : Nat → Int32}
theorem ev_dn_i {v : ev_V} (h : ev_ii v = true) : ∃ x, ev_dn b B0 σ v = .int x := by
  rcases v with n | r | ⟨t, f⟩ | ⟨k, n⟩
  · exact ⟨_, rfl⟩
  · cases h
  · cases t
    · exact ⟨_, rfl⟩
    · exact ⟨_, rfl⟩
  · cases h
theorem ev_dn_r {v : ev_V} (h : ev_ir v = true) : ∃ r : Option Nat, v = .inr (.inl r) ∧ ev_dn b B0 σ v = va_rf (r.map (ev_ad b B0)) := by
  rcases v with n | r | ⟨t, f⟩ | ⟨k, n⟩
  · cases h
  · refine ⟨r, rfl, ?_⟩
    cases r <;> rfl
  · cases h
  · cases h
theorem ev_dn_k {v : ev_V} {k : Nat} (h : ev_ik k v = true) : ∃ n, v = .inr (.inr (.inr (k, n))) := by
  rcases v with n | r | ⟨t, f⟩ | ⟨j, n⟩
  · cases h
  · cases h
  · cases h
  · have : j = k := Nat.eq_of_beq_eq_true h
    subst this
    exact ⟨n, rfl⟩
theorem ev_dn_c {v : ev_V} (h : ev_wide v = false) : (ev_dn b B0 σ v).category = 1 := by
  rcases v with n | r | ⟨t, f⟩ | ⟨j, n⟩
  · rfl
  · cases r <;> rfl
  · cases t <;> rfl
  · cases h
theorem ev_cs_ok (st : List ev_V) : ((st.map (ev_dn b B0 σ)).map fun v => v.category).sum ≤ ev_cs st := by
  induction st with
  | nil => exact Nat.le_refl _
  | cons v r ih =>
    simp only [List.map_cons, List.sum_cons, ev_cs]
    cases h : ev_wide v with
    | false =>
      rw [ev_dn_c h, ev_if_f]
      omega
    | true =>
      rw [ev_if_t]
      have : (ev_dn b B0 σ v).category ≤ 2 := by rcases lv_cat (ev_dn b B0 σ v) with q | q <;> omega
      omega
/-- what is known of the script's cells is true -/
def ev_FO (Φ : ev_P) (σ : Nat → Int32) : Prop := ∀ i, (ev_fl Φ.2 i).1 ≤ ev_bb (ev_sv σ i) ∧ ev_bb (ev_sv σ i) ≤ (ev_fl Φ.2 i).2
theorem ev_itv_ok {Φ : ev_P} (hΦ : ev_FO Φ σ) {v : ev_V} {q : Nat × Nat} (h : ev_itv Φ v = some q) : ∃ x, ev_dn b B0 σ v = .int x ∧ q.1 ≤ ev_bb x ∧ ev_bb x ≤ q.2 := by
  rcases v with n | r | ⟨t, f⟩ | ⟨j, n⟩
  · have e : q = (ev_bi n, ev_bi n) := (Option.some.inj h).symm
    rw [e]
    exact ⟨nI n, rfl, by rw [← ev_bi_ok]; exact Nat.le_refl _, by rw [← ev_bi_ok]; exact Nat.le_refl _⟩
  · exact absurd h (fun z => by cases z)
  · cases t with
    | none =>
      have e : q = (0, 4294967295) := (Option.some.inj h).symm
      rw [e]
      exact ⟨f σ, rfl, Nat.zero_le _, ev_bb_max _⟩
    | some i =>
      have e : q = ev_fl Φ.2 i := (Option.some.inj h).symm
      rw [e]
      exact ⟨ev_sv σ i, rfl, hΦ i⟩
  · exact absurd h (fun z => by cases z)
theorem ev_lt_ok {Φ : ev_P} (hΦ : ev_FO Φ σ) {x y : ev_V} {r : Bool} (h : ev_lt Φ x y = some r) : ∃ a d, ev_dn b B0 σ x = .int a ∧ ev_dn b B0 σ y = .int d ∧ (a < d ↔ r = true) := by
  unfold ev_lt at h
  cases hx : ev_itv Φ x with
  | none => rw [hx] at h; cases h
  | some p1 =>
    cases hy : ev_itv Φ y with
    | none => rw [hx, hy] at h; cases h
    | some p2 =>
      rw [hx, hy] at h
      obtain ⟨a, ha, a1, a2⟩ := ev_itv_ok (b := b) (B0 := B0) hΦ hx
      obtain ⟨d, hd, d1, d2⟩ := ev_itv_ok (b := b) (B0 := B0) hΦ hy
      refine ⟨a, d, ha, hd, ?_⟩
      rw [ev_bb_lt]
      dsimp only at h
      cases c1 : Nat.ble (p1.2 + 1) p2.1 with
      | true =>
        rw [c1] at h
        cases h
        have := Nat.le_of_ble_eq_true c1
        exact ⟨fun _ => rfl, fun _ => by omega⟩
      | false =>
        rw [c1, ev_if_f] at h
        cases c2 : Nat.ble p2.2 p1.1 with
        | true =>
          rw [c2] at h
          cases h
          have := Nat.le_of_ble_eq_true c2
          exact ⟨fun q => by omega, fun q => by cases q⟩
        | false =>
          rw [c2] at h
          cases h
theorem ev_eq_ok {Φ : ev_P} (hΦ : ev_FO Φ σ) {x y : ev_V} {r : Bool} (h : ev_eq Φ x y = some r) : ∃ a d, ev_dn b B0 σ x = .int a ∧ ev_dn b B0 σ y = .int d ∧ (a = d ↔ r = true) := by
  unfold ev_eq at h
  cases hx : ev_itv Φ x with
  | none => rw [hx] at h; cases h
  | some p1 =>
    cases hy : ev_itv Φ y with
    | none => rw [hx, hy] at h; cases h
    | some p2 =>
      rw [hx, hy] at h
      obtain ⟨a, ha, a1, a2⟩ := ev_itv_ok (b := b) (B0 := B0) hΦ hx
      obtain ⟨d, hd, d1, d2⟩ := ev_itv_ok (b := b) (B0 := B0) hΦ hy
      refine ⟨a, d, ha, hd, ?_⟩
      dsimp only at h
      cases c1 : Nat.ble (p1.2 + 1) p2.1 with
      | true =>
        rw [c1] at h
        cases h
        have := Nat.le_of_ble_eq_true c1
        exact ⟨fun q => by rw [q] at a2; omega, fun q => by cases q⟩
      | false =>
        rw [c1, ev_if_f] at h
        cases c2 : Nat.ble (p2.2 + 1) p1.1 with
        | true =>
          rw [c2] at h
          cases h
          have := Nat.le_of_ble_eq_true c2
          exact ⟨fun q => by rw [q] at a1; omega, fun q => by cases q⟩
        | false =>
          rw [c2, ev_if_f] at h
          obtain ⟨c3, h⟩ := ev_if_n h
          cases h
          simp only [Bool.and_eq_true] at c3
          have e1 := Nat.eq_of_beq_eq_true c3.1
          have e2 := Nat.eq_of_beq_eq_true c3.2.1
          have e3 := Nat.eq_of_beq_eq_true c3.2.2
          exact ⟨fun _ => rfl, fun _ => ev_bb_inj (by omega)⟩
def ev_rel (j : Nat) (a d : Int32) : Prop := if j = 0 then a = d else if j = 1 then a < d else d < a
theorem ev_cmp_ok {Φ : ev_P} (hΦ : ev_FO Φ σ) {j : Nat} {x y : ev_V} {r : Bool} (h : ev_cmp Φ j x y = some r) : ∃ a d, ev_dn b B0 σ x = .int a ∧ ev_dn b B0 σ y = .int d ∧ (ev_rel j a d ↔ r = true) := by
  unfold ev_cmp at h
  cases c1 : Nat.beq j 0 with
  | true =>
    rw [c1, ev_if_t] at h
    obtain ⟨a, d, h1, h2, h3⟩ := ev_eq_ok (b := b) (B0 := B0) hΦ h
    refine ⟨a, d, h1, h2, ?_⟩
    unfold ev_rel
    rw [if_pos (Nat.eq_of_beq_eq_true c1)]
    exact h3
  | false =>
    rw [c1, ev_if_f] at h
    cases c2 : Nat.beq j 1 with
    | true =>
      rw [c2, ev_if_t] at h
      obtain ⟨a, d, h1, h2, h3⟩ := ev_lt_ok (b := b) (B0 := B0) hΦ h
      refine ⟨a, d, h1, h2, ?_⟩
      unfold ev_rel
      rw [if_neg (Nat.ne_of_beq_eq_false c1), if_pos (Nat.eq_of_beq_eq_true c2)]
      exact h3
    | false =>
      rw [c2, ev_if_f] at h
      obtain ⟨a, d, h1, h2, h3⟩ := ev_lt_ok (b := b) (B0 := B0) hΦ h
      refine ⟨d, a, h2, h1, ?_⟩
      unfold ev_rel
      rw [if_neg (Nat.ne_of_beq_eq_false c1), if_neg (Nat.ne_of_beq_eq_false c2)]
      exact h3
theorem ev_iv_ok {v : ev_V} {f : (Nat → Int32) → Int32} (h : ev_iv v = some f) : ev_dn b B0 σ v = .int (f σ) := by
  rcases v with n | r | ⟨t, g⟩ | ⟨j, n⟩
  · cases h; rfl
  · cases h
  · cases t
    · cases h; rfl
    · cases h; rfl
  · cases h
theorem ev_b2_ok {G : Nat → Nat → Nat} {F : Int32 → Int32 → Int32} (hG : ∀ m n, nI (G m n) = F (nI m) (nI n)) {x y z : ev_V} (h : ev_b2 G F x y = some z) : ∃ a d, ev_dn b B0 σ x = .int a ∧ ev_dn b B0 σ y = .int d ∧ ev_dn b B0 σ z = .int (F a d) := by
  have gen : ∀ x y : ev_V, (match ev_iv x, ev_iv y with
    | some f, some g => some (.inr (.inr (.inl (none, fun σ => F (f σ) (g σ)))))
    | _, _ => none) = some z → ∃ a d, ev_dn b B0 σ x = .int a ∧ ev_dn b B0 σ y = .int d ∧ ev_dn b B0 σ z = .int (F a d) := by
    intro x y h
    cases hx : ev_iv x with
    | none => rw [hx] at h; cases h
    | some f =>
      cases hy : ev_iv y with
      | none => rw [hx, hy] at h; cases h
      | some g =>
        rw [hx, hy] at h
        cases h
        exact ⟨f σ, g σ, ev_iv_ok hx, ev_iv_ok hy, rfl⟩
  unfold ev_b2 at h
  split at h
  · cases h
    rename_i m n
    exact ⟨nI m, nI n, rfl, rfl, by show Value.int _ = _; rw [hG]⟩
  · exact gen _ _ h
end EVV
end
section
/-! ===== a frame: what the evaluator's state says of the machine's; the instructions without the heap (own work) ===== -/
noncomputable def ev_fv (b B0 : Nat) (σ : Nat → Int32) (d : List (List ev_V)) (k : Nat) : Value := match ev_get d k with
  | some v => ev_dn b B0 σ v
  | none => .null
def ev_ty (k : Nat) : FieldType := match k with
  | 20 => .int
  | 21 => .byte
  | 22 => .boolean
  | 23 => .long
  | 24 => .object RX3
  | _ => .object RX5
def ev_tys (aC : Nat → ClassId) : List (ClassId × FieldType) := [(aC 20, ev_ty 20), (aC 21, ev_ty 21), (aC 22, ev_ty 22), (aC 23, ev_ty 23), (aC 24, ev_ty 24), (aC 25, ev_ty 25)]
/-- a thing lies at a -/
def ev_at (D : va_G) (aC : Nat → ClassId) (b B0 : Nat) (σ : Nat → Int32) (a : Nat) (q : ev_C) (H : Heap) : Prop :=
  q.1 = 99 ∨ (∃ r, vwCl[q.1]? = some r ∧ t_OB a (D.1 q.1) r.2.2 (D.2 q.1) H (ev_fv b B0 σ q.2.2)) ∨ (20 ≤ q.1 ∧ q.1 ≤ 25 ∧ H[a]? = some (arrV (aC q.1) q.2.1 (ev_fv b B0 σ q.2.2)))
/-- the world's things lie in the heap -/
def ev_J (D : va_G) (aC : Nat → ClassId) (b B0 : Nat) (σ : Nat → Int32) (w : ev_W) (H : Heap) : Prop :=
  (∀ i q, ev_get w.1 i = some q → i < 1000000 ∧ ev_at D aC b B0 σ (B0 + i) q H) ∧ B0 + w.2.1 ≤ H.size ∧ (w.2.2.1 = true → H.size = B0 + w.2.1)
/-- the words that aren't good ones, but go along -/
def ev_bw : Cond → Bool
  | .castable _ _ => true
  | .fieldLinkNest _ _ _ _ _ _ => true
  | .methodLinkNest _ _ _ _ => true
  | .arrayOver (.object _) => true
  | _ => false
/-- the exceptions: class, and the classes above it but Throwable -/
def ev_ex (E : Nat) : String := match E with
  | 0 => "java/lang/IllegalArgumentException"
  | 1 => "java/lang/IllegalStateException"
  | 2 => "java/lang/IndexOutOfBoundsException"
  | _ => "java/util/NoSuchElementException"
/-- what a frame takes from the tables -/
def ev_VF (D : va_G) (aC : Nat → ClassId) (Sg : List (String × (Nat × String))) (U : State) : Prop :=
  va_K D vwCl (ev_tys aC) U ∧ (∀ w ∈ lw_tbl, ev_bw w = true → w.before #[] U = true) ∧ (∀ q ∈ Sg, ∃ sa, vk_R q.1 q.2.1 q.2.2 sa U) ∧ (∀ i j, i < 4 → j < 4 → i ≠ j → va_Nc (ev_ex i) (ev_ex j) U)
/-- .. and from the heap below the world -/
def ev_ZF (b B0 L : Nat) (σ : Nat → Int32) (U : State) (H : Heap) : Prop :=
  va_X b L σ U H ∧ vx_Zq Bundle.tN "UNASSIGNED_STACK" Bundle.steD (fun q => B0 ≤ q) U H ∧ vx_Zq Bundle.tN "SUPPRESSED_SENTINEL" Bundle.listD (fun q => B0 ≤ q) U H
def ev_lh (b B0 : Nat) (σ : Nat → Int32) (nL : Nat) (loc : ev_L) (ls : Array Slot) : Prop :=
  ls.size = nL ∧ lv_wf ls ∧ ∀ i v, ev_lg loc i = some (some v) → ls[i]? = some (.val (ev_dn b B0 σ v))
/-- the known locals as a list -/
noncomputable def ev_ll (b B0 : Nat) (σ : Nat → Int32) (loc : ev_L) : List (Nat × Value) := (List.range loc.length).filterMap (fun i => match ev_lg loc i with
  | some (some v) => some (i, ev_dn b B0 σ v)
  | _ => none)
section EVF
variable {D : va_G} {aC : Nat → ClassId} {b B0 L : Nat} {σ : Nat → Int32}
theorem ev_ll_in {loc : ev_L} {q : Nat × Value} : q ∈ ev_ll b B0 σ loc ↔ ∃ v, ev_lg loc q.1 = some (some v) ∧ q.2 = ev_dn b B0 σ v := by
  unfold ev_ll
  rw [List.mem_filterMap]
  constructor
  · rintro ⟨i, -, h⟩
    split at h
    · next v hv =>
      cases h
      exact ⟨v, hv, rfl⟩
    · cases h
  · rintro ⟨v, h1, h2⟩
    refine ⟨q.1, ?_, ?_⟩
    · rw [ev_lg_eq] at h1
      exact List.mem_range.mpr (List.getElem?_eq_some_iff.mp h1).1
    · rw [h1]
      show some (q.1, ev_dn b B0 σ v) = some q
      rw [← h2]
theorem ev_lh_has {nL : Nat} {loc : ev_L} {ls : Array Slot} (h : ev_lh b B0 σ nL loc ls) : lv_has ls nL (ev_ll b B0 σ loc) := by
  refine ⟨h.1, h.2.1, fun q hq => ?_⟩
  obtain ⟨v, h1, h2⟩ := ev_ll_in.mp hq
  rw [h2]
  exact h.2.2 _ _ h1
theorem ev_lh_st1 {nL a : Nat} {loc : ev_L} {ls' : Array Slot} {o : Option ev_V} {x : Value} (hw : ev_nw loc a = true) (hx : ∀ v, o = some v → ev_dn b B0 σ v = x)
    (h : lv_has ls' nL ((a, x) :: (ev_ll b B0 σ loc).filter (fun q => !(q.1 == a) && !(q.1 + 1 == a && q.2.category == 2)))) : ev_lh b B0 σ nL (ev_ls loc a o) ls' := by
  refine ⟨h.1, h.2.1, fun j v hj => ?_⟩
  rw [ev_lg_eq, ev_ls_eq, List.getElem?_set] at hj
  by_cases e : a = j
  · subst e
    rw [if_pos rfl] at hj
    split at hj
    · cases hj
      rw [hx v rfl]
      exact h.2.2 _ List.mem_cons_self
    · cases hj
  · rw [if_neg e, ← ev_lg_eq] at hj
    refine h.2.2 (j, ev_dn b B0 σ v) (List.mem_cons_of_mem _ (List.mem_filter.mpr ⟨ev_ll_in.mpr ⟨v, hj, rfl⟩, ?_⟩))
    have e1 : (j == a) = false := by simpa using fun q : j = a => e q.symm
    simp only [e1, Bool.not_false, Bool.true_and, Bool.not_eq_true']
    by_cases e2 : j + 1 = a
    · subst e2
      unfold ev_nw at hw
      simp only [hj] at hw
      have hv : ev_wide v = false := by simpa using hw
      rw [ev_dn_c hv]
      simp
    · simp [e2]
theorem ev_lh_st2 {nL a : Nat} {loc : ev_L} {ls' : Array Slot} {v : ev_V} {x : Value} (hw : ev_nw loc a = true) (hx : ev_dn b B0 σ v = x)
    (h : lv_has ls' nL ((a, x) :: (ev_ll b B0 σ loc).filter (fun q => !(q.1 == a) && (!(q.1 == a + 1) && !(q.1 + 1 == a && q.2.category == 2))))) : ev_lh b B0 σ nL (ev_ls (ev_ls loc a (some v)) (a + 1) none) ls' := by
  refine ⟨h.1, h.2.1, fun j v' hj => ?_⟩
  rw [ev_lg_eq, ev_ls_eq, List.getElem?_set] at hj
  by_cases e0 : a + 1 = j
  · rw [if_pos e0] at hj
    split at hj
    · cases hj
    · cases hj
  · rw [if_neg e0, ev_ls_eq, List.getElem?_set] at hj
    by_cases e : a = j
    · subst e
      rw [if_pos rfl] at hj
      split at hj
      · cases hj
        rw [hx]
        exact h.2.2 _ List.mem_cons_self
      · cases hj
    · rw [if_neg e, ← ev_lg_eq] at hj
      refine h.2.2 (j, ev_dn b B0 σ v') (List.mem_cons_of_mem _ (List.mem_filter.mpr ⟨ev_ll_in.mpr ⟨v', hj, rfl⟩, ?_⟩))
      have e1 : (j == a) = false := by simpa using fun q : j = a => e q.symm
      have e3 : (j == a + 1) = false := by simpa using fun q : j = a + 1 => e0 q.symm
      simp only [e1, e3, Bool.not_false, Bool.true_and, Bool.not_eq_true']
      by_cases e2 : j + 1 = a
      · subst e2
        unfold ev_nw at hw
        simp only [hj] at hw
        have hv : ev_wide v' = false := by simpa using hw
        rw [ev_dn_c hv]
        simp
      · simp [e2]
theorem ev_at.kept {a : Nat} {q : ev_C} {H H1 : Heap} (h : ev_at D aC b B0 σ a q H) (e : H1[a]? = H[a]?) : ev_at D aC b B0 σ a q H1 := by
  rcases h with h | ⟨r, h1, h2⟩ | ⟨h1, h2, h3⟩
  · exact Or.inl h
  · exact Or.inr (Or.inl ⟨r, h1, h2.kept e⟩)
  · exact Or.inr (Or.inr ⟨h1, h2, e.trans h3⟩)
theorem ev_J_set {w : ev_W} {H H1 : Heap} {i : Nat} {q q' : ev_C} {x : List (List ev_C)} (h : ev_J D aC b B0 σ w H) (hq : ev_get w.1 i = some q) (hx : ∀ j, ev_get x j = if j = i then some q' else ev_get w.1 j) (h1 : ev_at D aC b B0 σ (B0 + i) q' H1) (hz : H1.size = H.size) (ho : ∀ x, x ≠ B0 + i → H1[x]? = H[x]?) : ev_J D aC b B0 σ (x, w.2) H1 := by
  refine ⟨fun j u hj => ?_, by rw [hz]; exact h.2.1, by rw [hz]; exact h.2.2⟩
  have hj : ev_get x j = some u := hj
  rw [hx] at hj
  by_cases e : j = i
  · subst e
    rw [if_pos rfl] at hj
    cases hj
    exact ⟨(h.1 j q hq).1, h1⟩
  · rw [if_neg e] at hj
    exact ⟨(h.1 j u hj).1, (h.1 j u hj).2.kept (ho _ (by omega))⟩
variable {p : Program} {l : Launch} {e : Env} {R : Room} {s : State} {m : MethodId} {args : Array Value} {below : List Frame} {meth : Method} {c : Code} {Q : State → Prop}
variable {cc : ByteArray} {nL : Nat} {Ts : List Cond} {own : String} {Sg : List (String × (Nat × String))}
/-- the machine goes on well from here -/
def ev_Go (D : va_G) (aC : Nat → ClassId) (b B0 : Nat) (σ : Nat → Int32) (p : Program) (l : Launch) (e : Env) (R : Room) (s : State) (m : MethodId) (args : Array Value) (below : List Frame) (meth : Method) (c : Code) (Q : State → Prop) (nL : Nat) (pc : Nat) (loc : ev_L) (st : List ev_V) (w : ev_W) : Prop :=
  ∀ (H : Heap) (locs : List Loc) (ls : Array Slot), ev_lh b B0 σ nL loc ls → ev_J D aC b B0 σ w H → va_S (fun q => B0 ≤ q) s.heap H locs →
    W p l e R s m args below meth c H locs w.2.2.2.1 w.2.2.2.2 Q (F0 m pc ls (st.map (ev_dn b B0 σ)))
/-- what holds in a frame -/
def ev_Fx (D : va_G) (aC : Nat → ClassId) (b B0 L : Nat) (σ : Nat → Int32) (p : Program) (s : State) (m : MethodId) (args : Array Value) (meth : Method) (c : Code) (cc : ByteArray) (nL : Nat) (Ts : List Cond) (own : String) (Sg : List (String × (Nat × String))) : Prop :=
  p.tables.exec = Jvm.exec ∧ c.code = cc ∧ c.maxLocals = nL ∧ s.vm.findClass own = some m.cls ∧ (∀ w ∈ Ts, w.before args s = true) ∧ ev_VF D aC Sg s ∧ ev_ZF b B0 L σ s s.heap ∧ b < B0 ∧ B0 ≤ s.heap.size ∧ meth.locks = false
variable {Φ : ev_P} {M : ev_M} {k : ev_N} {cl : ev_F} {nx a b' c' pc : Nat} {tg : List Nat} {loc : ev_L} {st : List ev_V} {w : ev_W} {r : ev_S}
/-- a pure step of the stack -/
theorem ev_pure {nx : Nat} {st st' : List ev_V} (hk : ∀ pc loc st w, k pc loc st w = some r → ev_Go D aC b B0 σ p l e R s m args below meth c Q nL pc loc st w) (h : k nx loc st' w = some r)
    (hr : ∀ (H : Heap) (locs : List Loc) (ls : Array Slot), ev_lh b B0 σ nL loc ls → W p l e R s m args below meth c H locs w.2.2.2.1 w.2.2.2.2 Q (F0 m nx ls (st'.map (ev_dn b B0 σ))) → W p l e R s m args below meth c H locs w.2.2.2.1 w.2.2.2.2 Q (F0 m pc ls (st.map (ev_dn b B0 σ)))) : ev_Go D aC b B0 σ p l e R s m args below meth c Q nL pc loc st w :=
  fun H locs ls hl hJ hS => hr H locs ls hl (hk _ _ _ _ h H locs ls hl hJ hS)
theorem ev_o_int (hF : ev_Fx D aC b B0 L σ p s m args meth c cc nL Ts own Sg) (hk : ∀ pc loc st w, k pc loc st w = some r → ev_Go D aC b B0 σ p l e R s m args below meth c Q nL pc loc st w) (h : ev_h_int Φ M k cl nx a b' c' tg pc loc st w = some r)
    (hi : (∃ n, decode cc pc = .ok (.iconst n, 1) ∧ Int32.ofInt n = nI a ∧ nx = pc + 1) ∨ (∃ n, decode cc pc = .ok (.bipush n, 2) ∧ (Int8.ofInt n).toInt32 = nI a ∧ nx = pc + 2) ∨ (∃ n, decode cc pc = .ok (.sipush n, 3) ∧ (Int16.ofInt n).toInt32 = nI a ∧ nx = pc + 3) ∨ (∃ (ix : Nat) (v : Int32), decode cc pc = .ok (.ldc ix, 2) ∧ v = nI a ∧ nx = pc + 2 ∧ Cond.constant own ix v ∈ Ts) ∨ (∃ (ix : Nat) (v : Int32), decode cc pc = .ok (.ldc_w ix, 3) ∧ v = nI a ∧ nx = pc + 3 ∧ Cond.constant own ix v ∈ Ts)) :
    ev_Go D aC b B0 σ p l e R s m args below meth c Q nL pc loc st w := by
  obtain ⟨hx, hb, -, ho, ht, -⟩ := hF
  refine ev_pure hk h fun H locs ls _ g => ?_
  rcases hi with ⟨n, d, v, rfl⟩ | ⟨n, d, v, rfl⟩ | ⟨n, d, v, rfl⟩ | ⟨ix, v, d, rfl, rfl, hw⟩ | ⟨ix, v, d, rfl, rfl, hw⟩
  · exact lv_iconst hx hb d v g
  · exact lv_bipush hx hb d v g
  · exact lv_sipush hx hb d v g
  · exact lv_ldc hx hb ho (ht _ hw) d g
  · exact lv_ldcw hx hb ho (ht _ hw) d g
theorem ev_o_null (hF : ev_Fx D aC b B0 L σ p s m args meth c cc nL Ts own Sg) (hk : ∀ pc loc st w, k pc loc st w = some r → ev_Go D aC b B0 σ p l e R s m args below meth c Q nL pc loc st w) (h : ev_h_null Φ M k cl nx a b' c' tg pc loc st w = some r)
    (hi : decode cc pc = .ok (.aconst_null, 1) ∧ nx = pc + 1) : ev_Go D aC b B0 σ p l e R s m args below meth c Q nL pc loc st w := by
  obtain ⟨hx, hb, -⟩ := hF
  obtain ⟨d, rfl⟩ := hi
  exact ev_pure hk h fun H locs ls _ g => lv_null hx hb d g
theorem ev_o_wide (hF : ev_Fx D aC b B0 L σ p s m args meth c cc nL Ts own Sg) (hk : ∀ pc loc st w, k pc loc st w = some r → ev_Go D aC b B0 σ p l e R s m args below meth c Q nL pc loc st w) (h : ev_h_wide Φ M k cl nx a b' c' tg pc loc st w = some r)
    (hi : ((∃ n : Fin 2, decode cc pc = .ok (.lconst n, 1) ∧ a = 0 ∧ Int64.ofNat (n : Nat) = lN b' ∧ nx = pc + 1) ∨ (decode cc pc = .ok (.dconst 0, 1) ∧ a = 2 ∧ FP.dconst0 = UInt64.ofNat b' ∧ nx = pc + 1)) ∨ ((decode cc pc = .ok (.fconst 0, 1) ∧ a = 1 ∧ FP.fconst0 = UInt32.ofNat b' ∧ nx = pc + 1) ∨ (∃ (ix : Nat) (v : Int64), decode cc pc = .ok (.ldc2_w ix, 3) ∧ a = 0 ∧ v = lN b' ∧ nx = pc + 3 ∧ Cond.constantLong own ix v ∈ Ts))) :
    ev_Go D aC b B0 σ p l e R s m args below meth c Q nL pc loc st w := by
  obtain ⟨hx, hb, -, ho, ht, -⟩ := hF
  refine ev_pure hk h fun H locs ls _ g => ?_
  rcases hi with (⟨n, d, rfl, v, rfl⟩ | ⟨d, rfl, v, rfl⟩) | (⟨d, rfl, v, rfl⟩ | ⟨ix, v, d, rfl, rfl, rfl, hw⟩)
  · exact lv_lconst hx hb d v g
  · refine lv_dconst0 hx hb d ?_
    rw [v]
    exact g
  · refine lv_fconst0 hx hb d ?_
    rw [v]
    exact g
  · exact lv_ldc2 hx hb ho (ht _ hw) d g
theorem ev_o_iload (hF : ev_Fx D aC b B0 L σ p s m args meth c cc nL Ts own Sg) (hk : ∀ pc loc st w, k pc loc st w = some r → ev_Go D aC b B0 σ p l e R s m args below meth c Q nL pc loc st w) (h : ev_h_iload Φ M k cl nx a b' c' tg pc loc st w = some r)
    (hi : (decode cc pc = .ok (.iload a, 2) ∧ nx = pc + 2) ∨ (∃ n : Fin 4, decode cc pc = .ok (.iload_n n, 1) ∧ (n : Nat) = a ∧ nx = pc + 1)) : ev_Go D aC b B0 σ p l e R s m args below meth c Q nL pc loc st w := by
  obtain ⟨hx, hb, -⟩ := hF
  unfold ev_h_iload at h
  split at h
  · next v hv =>
    obtain ⟨h1, h⟩ := ev_if_n h
    obtain ⟨x, ex⟩ := ev_dn_i (b := b) (B0 := B0) (σ := σ) h1
    refine ev_pure hk h fun H locs ls hl g => ?_
    have e := hl.2.2 _ _ hv
    rw [List.map_cons, ex] at g
    rw [ex] at e
    rcases hi with ⟨d, rfl⟩ | ⟨n, d, hn, rfl⟩
    · exact lv_iload hx hb d e g
    · exact lv_iload_n hx hb d hn e g
  · cases h
theorem ev_o_aload (hF : ev_Fx D aC b B0 L σ p s m args meth c cc nL Ts own Sg) (hk : ∀ pc loc st w, k pc loc st w = some r → ev_Go D aC b B0 σ p l e R s m args below meth c Q nL pc loc st w) (h : ev_h_aload Φ M k cl nx a b' c' tg pc loc st w = some r)
    (hi : (decode cc pc = .ok (.aload a, 2) ∧ nx = pc + 2) ∨ (∃ n : Fin 4, decode cc pc = .ok (.aload_n n, 1) ∧ (n : Nat) = a ∧ nx = pc + 1)) : ev_Go D aC b B0 σ p l e R s m args below meth c Q nL pc loc st w := by
  obtain ⟨hx, hb, -⟩ := hF
  unfold ev_h_aload at h
  split at h
  · next v hv =>
    obtain ⟨h1, h⟩ := ev_if_n h
    obtain ⟨x, -, ex⟩ := ev_dn_r (b := b) (B0 := B0) (σ := σ) h1
    refine ev_pure hk h fun H locs ls hl g => ?_
    have e := hl.2.2 _ _ hv
    rw [List.map_cons, ex] at g
    rw [ex] at e
    cases x with
    | none =>
      rcases hi with ⟨d, rfl⟩ | ⟨n, d, hn, rfl⟩
      · exact lv_aloadN hx hb d e g
      · exact lv_aload_nN hx hb d hn e g
    | some y =>
      rcases hi with ⟨d, rfl⟩ | ⟨n, d, hn, rfl⟩
      · exact lv_aload hx hb d e g
      · exact lv_aload_n hx hb d hn e g
  · cases h
theorem ev_o_dload (hF : ev_Fx D aC b B0 L σ p s m args meth c cc nL Ts own Sg) (hk : ∀ pc loc st w, k pc loc st w = some r → ev_Go D aC b B0 σ p l e R s m args below meth c Q nL pc loc st w) (h : ev_h_dload Φ M k cl nx a b' c' tg pc loc st w = some r)
    (hi : decode cc pc = .ok (.dload a, 2) ∧ nx = pc + 2) : ev_Go D aC b B0 σ p l e R s m args below meth c Q nL pc loc st w := by
  obtain ⟨hx, hb, -⟩ := hF
  obtain ⟨d, rfl⟩ := hi
  unfold ev_h_dload at h
  split at h
  · next v hv =>
    obtain ⟨h1, h⟩ := ev_if_n h
    obtain ⟨x, rfl⟩ := ev_dn_k h1
    exact ev_pure hk h fun H locs ls hl g => lv_dload hx hb d (hl.2.2 _ _ hv) g
  · cases h
theorem ev_o_istore (hF : ev_Fx D aC b B0 L σ p s m args meth c cc nL Ts own Sg) (hk : ∀ pc loc st w, k pc loc st w = some r → ev_Go D aC b B0 σ p l e R s m args below meth c Q nL pc loc st w) (h : ev_h_istore Φ M k cl nx a b' c' tg pc loc st w = some r)
    (hi : ((decode cc pc = .ok (.istore a, 2) ∧ nx = pc + 2) ∨ (∃ n : Fin 4, decode cc pc = .ok (.istore_n n, 1) ∧ (n : Nat) = a ∧ nx = pc + 1)) ∧ a < nL) : ev_Go D aC b B0 σ p l e R s m args below meth c Q nL pc loc st w := by
  obtain ⟨hx, hb, -⟩ := hF
  obtain ⟨hi, ha⟩ := hi
  unfold ev_h_istore at h
  split at h
  · next v rr =>
    obtain ⟨h1, h⟩ := ev_if_n h
    simp only [Bool.and_eq_true] at h1
    obtain ⟨x, ex⟩ := ev_dn_i (b := b) (B0 := B0) (σ := σ) h1.1
    intro H locs ls hl hJ hS
    rw [List.map_cons, ex]
    have go : ∀ ls' : Array Slot, lv_has ls' nL ((a, Value.int x) :: (ev_ll b B0 σ loc).filter (fun q => !(q.1 == a) && !(q.1 + 1 == a && q.2.category == 2))) → W p l e R s m args below meth c H locs w.2.2.2.1 w.2.2.2.2 Q (F0 m nx ls' (rr.map (ev_dn b B0 σ))) :=
      fun ls' h' => hk _ _ _ _ h H locs ls' (ev_lh_st1 h1.2 (fun v' e' => by cases e'; exact ex) h') hJ hS
    rcases hi with ⟨d, rfl⟩ | ⟨n, d, hn, rfl⟩
    · exact lv_istore hx hb d (ev_lh_has hl) ha rfl go
    · exact lv_istore_n hx hb d hn (ev_lh_has hl) ha rfl go
  · cases h
theorem ev_o_astore (hF : ev_Fx D aC b B0 L σ p s m args meth c cc nL Ts own Sg) (hk : ∀ pc loc st w, k pc loc st w = some r → ev_Go D aC b B0 σ p l e R s m args below meth c Q nL pc loc st w) (h : ev_h_astore Φ M k cl nx a b' c' tg pc loc st w = some r)
    (hi : ((decode cc pc = .ok (.astore a, 2) ∧ nx = pc + 2) ∨ (∃ n : Fin 4, decode cc pc = .ok (.astore_n n, 1) ∧ (n : Nat) = a ∧ nx = pc + 1)) ∧ a < nL) : ev_Go D aC b B0 σ p l e R s m args below meth c Q nL pc loc st w := by
  obtain ⟨hx, hb, -⟩ := hF
  obtain ⟨hi, ha⟩ := hi
  unfold ev_h_astore at h
  split at h
  · next v rr =>
    obtain ⟨h1, h⟩ := ev_if_n h
    simp only [Bool.and_eq_true] at h1
    obtain ⟨x, -, ex⟩ := ev_dn_r (b := b) (B0 := B0) (σ := σ) h1.1
    intro H locs ls hl hJ hS
    rw [List.map_cons, ex]
    have go : ∀ ls' : Array Slot, lv_has ls' nL ((a, va_rf (x.map (ev_ad b B0))) :: (ev_ll b B0 σ loc).filter (fun q => !(q.1 == a) && !(q.1 + 1 == a && q.2.category == 2))) → W p l e R s m args below meth c H locs w.2.2.2.1 w.2.2.2.2 Q (F0 m nx ls' (rr.map (ev_dn b B0 σ))) :=
      fun ls' h' => hk _ _ _ _ h H locs ls' (ev_lh_st1 h1.2 (fun v' e' => by cases e'; exact ex) h') hJ hS
    cases x with
    | none =>
      rcases hi with ⟨d, rfl⟩ | ⟨n, d, hn, rfl⟩
      · exact lv_astoreN hx hb d (ev_lh_has hl) ha rfl go
      · exact lv_astore_nN hx hb d hn (ev_lh_has hl) ha rfl go
    | some y =>
      rcases hi with ⟨d, rfl⟩ | ⟨n, d, hn, rfl⟩
      · exact lv_astore hx hb d (ev_lh_has hl) ha rfl go
      · exact lv_astore_n hx hb d hn (ev_lh_has hl) ha rfl go
  · cases h
theorem ev_o_dstore (hF : ev_Fx D aC b B0 L σ p s m args meth c cc nL Ts own Sg) (hk : ∀ pc loc st w, k pc loc st w = some r → ev_Go D aC b B0 σ p l e R s m args below meth c Q nL pc loc st w) (h : ev_h_dstore Φ M k cl nx a b' c' tg pc loc st w = some r)
    (hi : decode cc pc = .ok (.dstore a, 2) ∧ nx = pc + 2 ∧ a + 1 < nL) : ev_Go D aC b B0 σ p l e R s m args below meth c Q nL pc loc st w := by
  obtain ⟨hx, hb, -⟩ := hF
  obtain ⟨d, rfl, ha⟩ := hi
  unfold ev_h_dstore at h
  split at h
  · next v rr =>
    obtain ⟨h1, h⟩ := ev_if_n h
    simp only [Bool.and_eq_true] at h1
    obtain ⟨x, rfl⟩ := ev_dn_k h1.1
    intro H locs ls hl hJ hS
    exact lv_dstore hx hb d (ev_lh_has hl) ha rfl fun ls' h' => hk _ _ _ _ h H locs ls' (ev_lh_st2 h1.2 rfl h') hJ hS
  · cases h
theorem ev_o_iinc (hF : ev_Fx D aC b B0 L σ p s m args meth c cc nL Ts own Sg) (hk : ∀ pc loc st w, k pc loc st w = some r → ev_Go D aC b B0 σ p l e R s m args below meth c Q nL pc loc st w) (h : ev_h_iinc Φ M k cl nx a b' c' tg pc loc st w = some r)
    (hi : ∃ n : Int, decode cc pc = .ok (.iinc a n, 3) ∧ Int32.ofInt n = nI b' ∧ nx = pc + 3 ∧ a < nL) : ev_Go D aC b B0 σ p l e R s m args below meth c Q nL pc loc st w := by
  obtain ⟨hx, hb, -⟩ := hF
  obtain ⟨n, d, en, rfl, ha⟩ := hi
  unfold ev_h_iinc at h
  split at h
  · next v hv =>
    obtain ⟨h1, h⟩ := ev_if_n h
    intro H locs ls hl hJ hS
    obtain ⟨j, hj⟩ := List.getElem?_of_mem (ev_ll_in (b := b) (B0 := B0) (σ := σ) (q := (a, .int (nI v))).mpr ⟨_, hv, rfl⟩)
    refine lv_iinc (k := j) (x := nI v) (v := nI ((v + b') % 4294967296)) hx hb d (ev_lh_has hl) hj (by rw [en, ev_nI_add]) ha rfl fun ls' h' => ?_
    exact hk _ _ _ _ h H locs ls' (ev_lh_st1 h1 (fun v' e' => by cases e'; rfl) h') hJ hS
  · cases h
theorem ev_o_iadd (hF : ev_Fx D aC b B0 L σ p s m args meth c cc nL Ts own Sg) (hk : ∀ pc loc st w, k pc loc st w = some r → ev_Go D aC b B0 σ p l e R s m args below meth c Q nL pc loc st w) (h : ev_h_iadd Φ M k cl nx a b' c' tg pc loc st w = some r)
    (hi : decode cc pc = .ok (.iadd, 1) ∧ nx = pc + 1) : ev_Go D aC b B0 σ p l e R s m args below meth c Q nL pc loc st w := by
  obtain ⟨hx, hb, -⟩ := hF
  obtain ⟨d, rfl⟩ := hi
  unfold ev_h_iadd at h
  split at h
  · split at h
    · next y x rr z hz =>
      obtain ⟨u, v, e1, e2, e3⟩ := ev_b2_ok (b := b) (B0 := B0) (σ := σ) ev_nI_add hz
      refine ev_pure hk h fun H locs ls hl g => ?_
      simp only [List.map_cons, e1, e2, e3] at g ⊢
      exact lv_iadd hx hb d g
    · cases h
  · cases h
theorem ev_o_isub (hF : ev_Fx D aC b B0 L σ p s m args meth c cc nL Ts own Sg) (hk : ∀ pc loc st w, k pc loc st w = some r → ev_Go D aC b B0 σ p l e R s m args below meth c Q nL pc loc st w) (h : ev_h_isub Φ M k cl nx a b' c' tg pc loc st w = some r)
    (hi : decode cc pc = .ok (.isub, 1) ∧ nx = pc + 1) : ev_Go D aC b B0 σ p l e R s m args below meth c Q nL pc loc st w := by
  obtain ⟨hx, hb, -⟩ := hF
  obtain ⟨d, rfl⟩ := hi
  unfold ev_h_isub at h
  split at h
  · split at h
    · next y x rr z hz =>
      obtain ⟨u, v, e1, e2, e3⟩ := ev_b2_ok (b := b) (B0 := B0) (σ := σ) ev_nI_sub hz
      refine ev_pure hk h fun H locs ls hl g => ?_
      simp only [List.map_cons, e1, e2, e3] at g ⊢
      exact lv_isub hx hb d g
    · cases h
  · cases h
theorem ev_o_ibin (hF : ev_Fx D aC b B0 L σ p s m args meth c cc nL Ts own Sg) (hk : ∀ pc loc st w, k pc loc st w = some r → ev_Go D aC b B0 σ p l e R s m args below meth c Q nL pc loc st w) (h : ev_h_ibin Φ M k cl nx a b' c' tg pc loc st w = some r)
    (hi : ((a = 0 ∧ decode cc pc = .ok (.imul, 1)) ∨ (a = 1 ∧ decode cc pc = .ok (.iand, 1)) ∨ (a = 2 ∧ decode cc pc = .ok (.ior, 1)) ∨ (a = 3 ∧ decode cc pc = .ok (.ixor, 1)) ∨ (a = 4 ∧ decode cc pc = .ok (.ishl, 1)) ∨ (a = 5 ∧ decode cc pc = .ok (.ishr, 1)) ∨ (a = 6 ∧ decode cc pc = .ok (.iushr, 1))) ∧ nx = pc + 1) : ev_Go D aC b B0 σ p l e R s m args below meth c Q nL pc loc st w := by
  obtain ⟨hx, hb, -⟩ := hF
  obtain ⟨hi, rfl⟩ := hi
  unfold ev_h_ibin at h
  split at h
  · split at h
    · next y x rr z hz =>
      obtain ⟨u, v, e1, e2, e3⟩ := ev_b2_ok (b := b) (B0 := B0) (σ := σ) (fun m n => ev_nI_n _) hz
      refine ev_pure hk h fun H locs ls hl g => ?_
      simp only [List.map_cons, e1, e2, e3] at g ⊢
      rcases hi with ⟨rfl, d⟩ | ⟨rfl, d⟩ | ⟨rfl, d⟩ | ⟨rfl, d⟩ | ⟨rfl, d⟩ | ⟨rfl, d⟩ | ⟨rfl, d⟩
      · exact lv_imul hx hb d g
      · exact lv_iand hx hb d g
      · exact lv_ior hx hb d g
      · exact lv_ixor hx hb d g
      · exact lv_ishl hx hb d g
      · exact lv_ishr hx hb d g
      · exact lv_iushr hx hb d rfl g
    · cases h
  · cases h
theorem ev_o_iand63 (hF : ev_Fx D aC b B0 L σ p s m args meth c cc nL Ts own Sg) (hk : ∀ pc loc st w, k pc loc st w = some r → ev_Go D aC b B0 σ p l e R s m args below meth c Q nL pc loc st w) (h : ev_h_iand63 Φ M k cl nx a b' c' tg pc loc st w = some r)
    (hi : a = 1 ∧ decode cc pc = .ok (.iand, 1) ∧ nx = pc + 1) : ev_Go D aC b B0 σ p l e R s m args below meth c Q nL pc loc st w := by
  obtain ⟨hx, hb, -⟩ := id hF
  obtain ⟨rfl, d, rfl⟩ := hi
  unfold ev_h_iand63 at h
  split at h
  · next i f rr =>
    obtain ⟨h1, h⟩ := ev_if_n h
    have h1 := Nat.le_of_ble_eq_true h1
    refine ev_pure hk h fun H locs ls hl g => ?_
    have e1 : ev_sv σ (i + 1000) = ev_sv σ i &&& nI 63 := by
      unfold ev_sv
      rw [if_neg (by omega), if_pos (by omega), Nat.add_sub_cancel]
      rfl
    have g : W p l e R s m args below meth c H locs w.2.2.2.1 w.2.2.2.2 Q (F0 m (pc + 1) ls (.int (ev_sv σ (i + 1000)) :: rr.map (ev_dn b B0 σ))) := g
    rw [e1] at g
    exact lv_iand hx hb d g
  · exact ev_o_ibin hF hk h ⟨Or.inr (Or.inl ⟨rfl, d⟩), rfl⟩
theorem ev_o_idiv (hF : ev_Fx D aC b B0 L σ p s m args meth c cc nL Ts own Sg) (hk : ∀ pc loc st w, k pc loc st w = some r → ev_Go D aC b B0 σ p l e R s m args below meth c Q nL pc loc st w) (h : ev_h_idiv Φ M k cl nx a b' c' tg pc loc st w = some r)
    (hi : ((a = 0 ∧ decode cc pc = .ok (.idiv, 1)) ∨ (a = 1 ∧ decode cc pc = .ok (.irem, 1))) ∧ nx = pc + 1) : ev_Go D aC b B0 σ p l e R s m args below meth c Q nL pc loc st w := by
  obtain ⟨hx, hb, -⟩ := hF
  obtain ⟨hi, rfl⟩ := hi
  unfold ev_h_idiv at h
  split at h
  · next y x rr =>
    obtain ⟨h1, h⟩ := ev_if_n h
    simp only [Bool.and_eq_true] at h1
    have g1 := Nat.le_of_ble_eq_true h1.1
    have g2 := Nat.le_of_ble_eq_true h1.2.1
    have g3 := Nat.le_of_ble_eq_true h1.2.2
    refine ev_pure hk h fun H locs ls hl g => ?_
    rcases hi with ⟨rfl, d⟩ | ⟨rfl, d⟩
    · refine lv_idiv hx hb d (nI_ne0 (by omega) (by omega)) ?_
      rw [pk_div (by omega) (by omega) (by omega)]
      exact g
    · refine lv_irem hx hb d (nI_ne0 (by omega) (by omega)) ?_
      rw [pk_rem (by omega) (by omega) (by omega)]
      exact g
  · cases h
theorem ev_br_ok {o : Option Bool} {t f : ev_R} (h : ev_br o t f = some r) : ∃ z, o = some z ∧ (z = true → t = some r) ∧ (z = false → f = some r) := by
  unfold ev_br at h
  split at h
  · exact ⟨true, rfl, fun _ => h, (fun q => absurd q (by decide))⟩
  · exact ⟨false, rfl, (fun q => absurd q (by decide)), fun _ => h⟩
  · cases h
theorem ev_o_if0 (hF : ev_Fx D aC b B0 L σ p s m args meth c cc nL Ts own Sg) (hΦ : ev_FO Φ σ) (hk : ∀ pc loc st w, k pc loc st w = some r → ev_Go D aC b B0 σ p l e R s m args below meth c Q nL pc loc st w) (h : ev_h_if0 Φ M k cl nx a b' c' tg pc loc st w = some r)
    (hi : ∃ off : Int, ((a = 0 ∧ decode cc pc = .ok (.ifCond .eq off, 3) ∧ (pc : Int) + off = (b' : Int) ∧ c' = pc + 3) ∨ (a = 0 ∧ decode cc pc = .ok (.ifCond .ne off, 3) ∧ (pc : Int) + off = (c' : Int) ∧ b' = pc + 3)) ∨ ((a = 1 ∧ decode cc pc = .ok (.ifCond .lt off, 3) ∧ (pc : Int) + off = (b' : Int) ∧ c' = pc + 3) ∨ (a = 1 ∧ decode cc pc = .ok (.ifCond .ge off, 3) ∧ (pc : Int) + off = (c' : Int) ∧ b' = pc + 3)) ∨ ((a = 2 ∧ decode cc pc = .ok (.ifCond .gt off, 3) ∧ (pc : Int) + off = (b' : Int) ∧ c' = pc + 3) ∨ (a = 2 ∧ decode cc pc = .ok (.ifCond .le off, 3) ∧ (pc : Int) + off = (c' : Int) ∧ b' = pc + 3))) :
    ev_Go D aC b B0 σ p l e R s m args below meth c Q nL pc loc st w := by
  obtain ⟨hx, hb, -⟩ := hF
  unfold ev_h_if0 at h
  split at h
  · next x rr =>
    obtain ⟨z, hz, ht, hf⟩ := ev_br_ok h
    obtain ⟨u, v, e1, e2, e3⟩ := ev_cmp_ok (b := b) (B0 := B0) hΦ hz
    have e2 : v = 0 := by cases e2; rfl
    subst e2
    intro H locs ls hl hJ hS
    rw [List.map_cons, e1]
    have gt : ev_rel a u 0 → W p l e R s m args below meth c H locs w.2.2.2.1 w.2.2.2.2 Q (F0 m b' ls (rr.map (ev_dn b B0 σ))) := fun q => hk _ _ _ _ (ht (e3.mp q)) H locs ls hl hJ hS
    have gf : ¬ ev_rel a u 0 → W p l e R s m args below meth c H locs w.2.2.2.1 w.2.2.2.2 Q (F0 m c' ls (rr.map (ev_dn b B0 σ))) := fun q => hk _ _ _ _ (hf (Bool.eq_false_iff.mpr (fun y => q (e3.mpr y)))) H locs ls hl hJ hS
    obtain ⟨off, (⟨rfl, d, t, rfl⟩ | ⟨rfl, d, t, rfl⟩) | (⟨rfl, d, t, rfl⟩ | ⟨rfl, d, t, rfl⟩) | (⟨rfl, d, t, rfl⟩ | ⟨rfl, d, t, rfl⟩)⟩ := hi
    · exact lv_if_eq hx hb d t (fun q => gt q) (fun q => gf q)
    · exact lv_if_ne hx hb d t (fun q => gf q) (fun q => gt q)
    · exact lv_if_lt hx hb d t (fun q => gt q) (fun q => gf q)
    · exact lv_if_ge hx hb d t (fun q => gf (Int32.not_lt.mpr q)) (fun q => gt (Int32.not_le.mp q))
    · exact lv_if_gt hx hb d t (fun q => gt q) (fun q => gf q)
    · exact lv_if_le hx hb d t (fun q => gf (Int32.not_lt.mpr q)) (fun q => gt (Int32.not_le.mp q))
  · cases h
theorem ev_o_icmp (hF : ev_Fx D aC b B0 L σ p s m args meth c cc nL Ts own Sg) (hΦ : ev_FO Φ σ) (hk : ∀ pc loc st w, k pc loc st w = some r → ev_Go D aC b B0 σ p l e R s m args below meth c Q nL pc loc st w) (h : ev_h_icmp Φ M k cl nx a b' c' tg pc loc st w = some r)
    (hi : ∃ off : Int, ((a = 0 ∧ decode cc pc = .ok (.if_icmp .eq off, 3) ∧ (pc : Int) + off = (b' : Int) ∧ c' = pc + 3) ∨ (a = 0 ∧ decode cc pc = .ok (.if_icmp .ne off, 3) ∧ (pc : Int) + off = (c' : Int) ∧ b' = pc + 3)) ∨ ((a = 1 ∧ decode cc pc = .ok (.if_icmp .lt off, 3) ∧ (pc : Int) + off = (b' : Int) ∧ c' = pc + 3) ∨ (a = 1 ∧ decode cc pc = .ok (.if_icmp .ge off, 3) ∧ (pc : Int) + off = (c' : Int) ∧ b' = pc + 3)) ∨ ((a = 2 ∧ decode cc pc = .ok (.if_icmp .gt off, 3) ∧ (pc : Int) + off = (b' : Int) ∧ c' = pc + 3) ∨ (a = 2 ∧ decode cc pc = .ok (.if_icmp .le off, 3) ∧ (pc : Int) + off = (c' : Int) ∧ b' = pc + 3))) :
    ev_Go D aC b B0 σ p l e R s m args below meth c Q nL pc loc st w := by
  obtain ⟨hx, hb, -⟩ := hF
  unfold ev_h_icmp at h
  split at h
  · next y x rr =>
    obtain ⟨z, hz, ht, hf⟩ := ev_br_ok h
    obtain ⟨u, v, e1, e2, e3⟩ := ev_cmp_ok (b := b) (B0 := B0) hΦ hz
    intro H locs ls hl hJ hS
    rw [List.map_cons, List.map_cons, e1, e2]
    have gt : ev_rel a u v → W p l e R s m args below meth c H locs w.2.2.2.1 w.2.2.2.2 Q (F0 m b' ls (rr.map (ev_dn b B0 σ))) := fun q => hk _ _ _ _ (ht (e3.mp q)) H locs ls hl hJ hS
    have gf : ¬ ev_rel a u v → W p l e R s m args below meth c H locs w.2.2.2.1 w.2.2.2.2 Q (F0 m c' ls (rr.map (ev_dn b B0 σ))) := fun q => hk _ _ _ _ (hf (Bool.eq_false_iff.mpr (fun y => q (e3.mpr y)))) H locs ls hl hJ hS
    obtain ⟨off, (⟨rfl, d, t, rfl⟩ | ⟨rfl, d, t, rfl⟩) | (⟨rfl, d, t, rfl⟩ | ⟨rfl, d, t, rfl⟩) | (⟨rfl, d, t, rfl⟩ | ⟨rfl, d, t, rfl⟩)⟩ := hi
    · exact lv_icmp_eq hx hb d t (fun q => gt q) (fun q => gf q)
    · exact lv_icmp_ne hx hb d t (fun q => gf q) (fun q => gt q)
    · exact lv_icmp_lt hx hb d t (fun q => gt q) (fun q => gf q)
    · exact lv_icmp_ge hx hb d t (fun q => gf (Int32.not_lt.mpr q)) (fun q => gt (Int32.not_le.mp q))
    · exact lv_icmp_gt hx hb d t (fun q => gt q) (fun q => gf q)
    · exact lv_icmp_le hx hb d t (fun q => gf (Int32.not_lt.mpr q)) (fun q => gt (Int32.not_le.mp q))
  · cases h
theorem ev_oeq_ok {x y : Option Nat} (h : (ev_own x && ev_own y) = true) : x.map (ev_ad b B0) = y.map (ev_ad b B0) ↔ ev_oeq x y = true := by
  simp only [Bool.and_eq_true] at h
  cases x with
  | none => cases y with
    | none => exact ⟨fun _ => rfl, fun _ => rfl⟩
    | some n => exact ⟨fun q => (by cases q), fun q => (by cases q)⟩
  | some m => cases y with
    | none => exact ⟨fun q => (by cases q), fun q => (by cases q)⟩
    | some n =>
      have h1 := Nat.le_of_ble_eq_true h.1
      have h2 := Nat.le_of_ble_eq_true h.2
      constructor
      · intro q
        have q : ev_ad b B0 m = ev_ad b B0 n := Option.some.inj q
        unfold ev_ad at q
        rw [if_neg (by omega), if_neg (by omega)] at q
        have : m = n := by omega
        subst this
        exact Nat.beq_refl m
      · intro q
        have : m = n := Nat.eq_of_beq_eq_true q
        rw [this]
theorem ev_o_acmp (hF : ev_Fx D aC b B0 L σ p s m args meth c cc nL Ts own Sg) (hk : ∀ pc loc st w, k pc loc st w = some r → ev_Go D aC b B0 σ p l e R s m args below meth c Q nL pc loc st w) (h : ev_h_acmp Φ M k cl nx a b' c' tg pc loc st w = some r)
    (hi : ∃ off : Int, (decode cc pc = .ok (.if_acmp .eq off, 3) ∧ (pc : Int) + off = (b' : Int) ∧ c' = pc + 3) ∨ (decode cc pc = .ok (.if_acmp .ne off, 3) ∧ (pc : Int) + off = (c' : Int) ∧ b' = pc + 3)) : ev_Go D aC b B0 σ p l e R s m args below meth c Q nL pc loc st w := by
  obtain ⟨hx, hb, -⟩ := hF
  unfold ev_h_acmp at h
  split at h
  · next y x rr =>
    obtain ⟨h1, h⟩ := ev_if_n h
    have h2 := ev_oeq_ok (b := b) (B0 := B0) h1
    intro H locs ls hl hJ hS
    have dn : ∀ z : Option Nat, ev_dn b B0 σ (.inr (.inl z)) = va_rf (z.map (ev_ad b B0)) := fun z => by cases z <;> rfl
    rw [List.map_cons, List.map_cons, dn, dn]
    have gt : x.map (ev_ad b B0) = y.map (ev_ad b B0) → W p l e R s m args below meth c H locs w.2.2.2.1 w.2.2.2.2 Q (F0 m b' ls (rr.map (ev_dn b B0 σ))) := fun q => by
      rw [h2.mp q] at h
      exact hk _ _ _ _ h H locs ls hl hJ hS
    have gf : ¬ x.map (ev_ad b B0) = y.map (ev_ad b B0) → W p l e R s m args below meth c H locs w.2.2.2.1 w.2.2.2.2 Q (F0 m c' ls (rr.map (ev_dn b B0 σ))) := fun q => by
      rw [Bool.eq_false_iff.mpr (fun y => q (h2.mpr y))] at h
      exact hk _ _ _ _ h H locs ls hl hJ hS
    obtain ⟨off, ⟨d, t, rfl⟩ | ⟨d, t, rfl⟩⟩ := hi
    · exact lv_acmp_eq hx hb d t (fun q => gt q) (fun q => gf q)
    · exact lv_acmp_ne hx hb d t (fun q => gf q) (fun q => gt q)
  · cases h
theorem ev_o_isnull (hF : ev_Fx D aC b B0 L σ p s m args meth c cc nL Ts own Sg) (hk : ∀ pc loc st w, k pc loc st w = some r → ev_Go D aC b B0 σ p l e R s m args below meth c Q nL pc loc st w) (h : ev_h_isnull Φ M k cl nx a b' c' tg pc loc st w = some r)
    (hi : ∃ off : Int, (decode cc pc = .ok (.ifnull off, 3) ∧ (pc : Int) + off = (b' : Int) ∧ c' = pc + 3) ∨ (decode cc pc = .ok (.ifnonnull off, 3) ∧ (pc : Int) + off = (c' : Int) ∧ b' = pc + 3)) : ev_Go D aC b B0 σ p l e R s m args below meth c Q nL pc loc st w := by
  obtain ⟨hx, hb, -⟩ := hF
  unfold ev_h_isnull at h
  split at h
  · next rr =>
    refine ev_pure hk h fun H locs ls hl g => ?_
    obtain ⟨off, ⟨d, t, rfl⟩ | ⟨d, t, rfl⟩⟩ := hi
    · exact lv_ifnullN hx hb d t g
    · exact lv_ifnonnullN hx hb d g
  · next y rr =>
    refine ev_pure hk h fun H locs ls hl g => ?_
    obtain ⟨off, ⟨d, t, rfl⟩ | ⟨d, t, rfl⟩⟩ := hi
    · exact lv_ifnull hx hb d g
    · exact lv_ifnonnull hx hb d t g
  · cases h
theorem ev_o_goto (hF : ev_Fx D aC b B0 L σ p s m args meth c cc nL Ts own Sg) (hk : ∀ pc loc st w, k pc loc st w = some r → ev_Go D aC b B0 σ p l e R s m args below meth c Q nL pc loc st w) (h : ev_h_goto Φ M k cl nx a b' c' tg pc loc st w = some r)
    (hi : ∃ off : Int, decode cc pc = .ok (.goto off, 3) ∧ (pc : Int) + off = (nx : Int)) : ev_Go D aC b B0 σ p l e R s m args below meth c Q nL pc loc st w := by
  obtain ⟨hx, hb, -⟩ := hF
  obtain ⟨off, d, t⟩ := hi
  exact ev_pure hk h fun H locs ls hl g => lv_goto hx hb d t g
theorem ev_o_dup (hF : ev_Fx D aC b B0 L σ p s m args meth c cc nL Ts own Sg) (hk : ∀ pc loc st w, k pc loc st w = some r → ev_Go D aC b B0 σ p l e R s m args below meth c Q nL pc loc st w) (h : ev_h_dup Φ M k cl nx a b' c' tg pc loc st w = some r)
    (hi : decode cc pc = .ok (.dup, 1) ∧ nx = pc + 1) : ev_Go D aC b B0 σ p l e R s m args below meth c Q nL pc loc st w := by
  obtain ⟨hx, hb, -⟩ := hF
  obtain ⟨d, rfl⟩ := hi
  unfold ev_h_dup at h
  split at h
  · next x rr =>
    obtain ⟨h1, h⟩ := ev_if_n h
    exact ev_pure hk h fun H locs ls hl g => lv_dup hx hb d (ev_dn_c (by simpa using h1)) g
  · cases h
theorem ev_o_dup2 (hF : ev_Fx D aC b B0 L σ p s m args meth c cc nL Ts own Sg) (hk : ∀ pc loc st w, k pc loc st w = some r → ev_Go D aC b B0 σ p l e R s m args below meth c Q nL pc loc st w) (h : ev_h_dup2 Φ M k cl nx a b' c' tg pc loc st w = some r)
    (hi : decode cc pc = .ok (.dup2, 1) ∧ nx = pc + 1) : ev_Go D aC b B0 σ p l e R s m args below meth c Q nL pc loc st w := by
  obtain ⟨hx, hb, -⟩ := hF
  obtain ⟨d, rfl⟩ := hi
  unfold ev_h_dup2 at h
  split at h
  · next x y rr =>
    obtain ⟨h1, h⟩ := ev_if_n h
    simp only [Bool.and_eq_true, Bool.not_eq_true'] at h1
    exact ev_pure hk h fun H locs ls hl g => lv_dup2_11 hx hb d (ev_dn_c h1.1) (ev_dn_c h1.2) g
  · cases h
theorem ev_o_pop (hF : ev_Fx D aC b B0 L σ p s m args meth c cc nL Ts own Sg) (hk : ∀ pc loc st w, k pc loc st w = some r → ev_Go D aC b B0 σ p l e R s m args below meth c Q nL pc loc st w) (h : ev_h_pop Φ M k cl nx a b' c' tg pc loc st w = some r)
    (hi : decode cc pc = .ok (.pop, 1) ∧ nx = pc + 1) : ev_Go D aC b B0 σ p l e R s m args below meth c Q nL pc loc st w := by
  obtain ⟨hx, hb, -⟩ := hF
  obtain ⟨d, rfl⟩ := hi
  unfold ev_h_pop at h
  split at h
  · next x rr =>
    obtain ⟨h1, h⟩ := ev_if_n h
    exact ev_pure hk h fun H locs ls hl g => lv_pop hx hb d (ev_dn_c (by simpa using h1)) g
  · cases h
end EVF
end
section
/-! ===== the instructions that reach the heap (own work) ===== -/
section EVH
variable {D : va_G} {aC : Nat → ClassId} {b B0 L : Nat} {σ : Nat → Int32}
variable {p : Program} {l : Launch} {e : Env} {R : Room} {s : State} {m : MethodId} {args : Array Value} {below : List Frame} {meth : Method} {c : Code} {Q : State → Prop}
variable {cc : ByteArray} {nL : Nat} {Ts : List Cond} {own : String} {Sg : List (String × (Nat × String))}
variable {Φ : ev_P} {M : ev_M} {k : ev_N} {cl : ev_F} {nx a b' c' pc : Nat} {tg : List Nat} {loc : ev_L} {st : List ev_V} {w : ev_W} {r : ev_S}
theorem ev_S_put {A : Nat → Prop} {H0 H H1 : Heap} {locs : List Loc} {x y : Nat} (hS : va_S A H0 H locs) (hz : H1.size = H.size) (ho : ∀ q, q ≠ x → H1[q]? = H[q]?) (hx : A x) : va_S A H0 H1 (locs ++ [⟨x, y⟩]) := by
  refine ⟨by rw [hz]; exact hS.1, fun q h1 h2 => ?_, fun q hq => ?_⟩
  · rw [ho q (fun z => h2 (by rw [z]; exact hx))]
    exact hS.2.1 q h1 h2
  · rcases List.mem_append.mp hq with h | h
    · exact hS.2.2 q h
    · rcases List.mem_singleton.mp h with rfl
      exact hx
theorem ev_fv_set {d d' : List (List ev_V)} {k : Nat} {v : ev_V} (h : ∀ j, ev_get d' j = if j = k then some v else ev_get d j) : ev_fv b B0 σ d' = updV (ev_fv b B0 σ d) k (ev_dn b B0 σ v) := by
  funext j
  unfold ev_fv updV
  rw [h]
  by_cases e : j = k
  · rw [if_pos e, if_pos e]
  · rw [if_neg e, if_neg e]
/-- an object among the world's things -/
theorem ev_J_obj {w : ev_W} {H : Heap} {i : Nat} {q : ev_C} (h : ev_J D aC b B0 σ w H) (hq : ev_get w.1 i = some q) {rr : vw_C} (hc : vwCl[q.1]? = some rr) : i < 1000000 ∧ t_OB (B0 + i) (D.1 q.1) rr.2.2 (D.2 q.1) H (ev_fv b B0 σ q.2.2) := by
  obtain ⟨h1, h2⟩ := h.1 i q hq
  refine ⟨h1, ?_⟩
  have hl : q.1 < 8 := (List.getElem?_eq_some_iff.mp hc).1
  rcases h2 with h | ⟨r, h2, h3⟩ | ⟨h2, -⟩
  · omega
  · cases hc.symm.trans h2
    exact h3
  · omega
theorem ev_J_arr {w : ev_W} {H : Heap} {i : Nat} {q : ev_C} (h : ev_J D aC b B0 σ w H) (hq : ev_get w.1 i = some q) (h20 : 20 ≤ q.1) (h25 : q.1 ≤ 25) : i < 1000000 ∧ H[B0 + i]? = some (arrV (aC q.1) q.2.1 (ev_fv b B0 σ q.2.2)) := by
  obtain ⟨h1, h2⟩ := h.1 i q hq
  refine ⟨h1, ?_⟩
  rcases h2 with h | ⟨r, h2, -⟩ | ⟨-, -, h3⟩
  · omega
  · have : q.1 < 8 := (List.getElem?_eq_some_iff.mp h2).1
    omega
  · exact h3
theorem ev_ad_w {i : Nat} (h : i < 1000000) : ev_ad b B0 i = B0 + i := by
  unfold ev_ad
  rw [if_neg (by omega)]
theorem ev_tys_of (hV : ev_VF D aC Sg s) {k : Nat} (h20 : 20 ≤ k) (h25 : k ≤ 25) : ArrOfT s (aC k) (ev_ty k) ∧ va_RA s (aC k) (ev_ty k) := by
  have : k = 20 ∨ k = 21 ∨ k = 22 ∨ k = 23 ∨ k = 24 ∨ k = 25 := by omega
  rcases this with rfl | rfl | rfl | rfl | rfl | rfl
  · exact hV.1.2 0 _ rfl
  · exact hV.1.2 1 _ rfl
  · exact hV.1.2 2 _ rfl
  · exact hV.1.2 3 _ rfl
  · exact hV.1.2 4 _ rfl
  · exact hV.1.2 5 _ rfl
/-- a link to a field: of the class itself, or of a nest mate -/
def ev_fl_ok (own ref n d : String) (index : Nat) (Ts : List Cond) : Prop := Cond.fieldLink own index ref n d ∈ Ts ∨ ∃ host, Cond.fieldLinkNest own index ref n d host ∈ lw_tbl
theorem ev_o_getf (hF : ev_Fx D aC b B0 L σ p s m args meth c cc nL Ts own Sg) (hk : ∀ pc loc st w, k pc loc st w = some r → ev_Go D aC b B0 σ p l e R s m args below meth c Q nL pc loc st w) (h : ev_h_getf Φ M k cl nx a b' c' tg pc loc st w = some r)
    (hi : ∃ (index : Nat) (C : String) (T : u_T) (N : Nat), decode cc pc = .ok (.getfield index, 3) ∧ nx = pc + 3 ∧ vwCl[a]? = some (C, T, N) ∧ b' < N ∧ (∀ x ∈ u_ws C T N, x ∈ Ts) ∧ ev_fl_ok own (T b').1 (T b').2.1 (T b').2.2.1 index Ts) : ev_Go D aC b B0 σ p l e R s m args below meth c Q nL pc loc st w := by
  obtain ⟨hx, hb, -, ho, ht, hV, -⟩ := hF
  obtain ⟨index, C, T, N, d, rfl, hc, hN, hin, hlk⟩ := hi
  unfold ev_h_getf at h
  split at h
  · next i rr =>
    split at h
    · next q hq =>
      obtain ⟨h1, h⟩ := ev_if_n h
      have h1 := Nat.eq_of_beq_eq_true h1
      split at h
      · next v hv =>
        intro H locs ls hl hJ hS
        have hc' : vwCl[q.1]? = some (C, T, N) := by rw [h1]; exact hc
        obtain ⟨hi, cell, q1, q2, q3, q4⟩ := ev_J_obj hJ hq hc'
        obtain ⟨hS9, hfc, kC, hkC, hkind⟩ := hV.1.1 q.1 _ hc'
        obtain ⟨cf, kf, fi, f, hif, hsl⟩ := hS9 b' hN
        have hst := (u_facts hfc hkC (u_lays ht hin hN) hif).1
        have go := hk _ _ _ _ h H locs ls hl hJ hS
        rw [List.map_cons] at go ⊢
        have e1 : ev_dn b B0 σ (.inr (.inl (some i))) = .ref (B0 + i) := by
          show Value.ref _ = _
          rw [ev_ad_w hi]
        rw [e1]
        have e2 : cell.slots[f.slot]? = some (ev_dn b B0 σ v) := by
          rw [hsl, q4 b' hN]
          unfold ev_fv
          rw [hv]
        rcases hlk with hlk | ⟨host, hlk⟩
        · exact W.getf hx hb ho (ht _ hlk) hif hst q1 (by rw [q3]; exact fun h => by cases h) e2 rfl rfl d go
        · exact va_Wgetf hx hb ho (va_Nw.use rfl (hV.2.1 _ hlk rfl)) hif hst q1 (by rw [q3]; exact fun h => by cases h) e2 rfl rfl d go
      · cases h
    · cases h
  · cases h
theorem ev_fits_ok {c : Nat} {v : ev_V} (h : ev_fits c v = true) {ty : FieldType} (hty : (c = 0 ∧ ty = .int) ∨ (c = 1 ∧ ty = .boolean) ∨ (c = 2 ∧ ((∃ C, ty = .object C) ∨ ∃ t, ty = .array t)) ∨ (c = 3 ∧ ty = .long)) : narrow ty (ev_dn b B0 σ v) = ev_dn b B0 σ v ∧ fits ty (ev_dn b B0 σ v) = true := by
  rcases hty with ⟨rfl, rfl⟩ | ⟨rfl, rfl⟩ | ⟨rfl, hty⟩ | ⟨rfl, rfl⟩
  · obtain ⟨x, ex⟩ := ev_dn_i (b := b) (B0 := B0) (σ := σ) (show ev_ii v = true from h)
    rw [ex]
    exact ⟨rfl, rfl⟩
  · rcases v with n | z | ⟨t, f⟩ | ⟨j, n⟩
    · have h : Nat.ble n 1 = true := h
      have h := Nat.le_of_ble_eq_true h
      have : n = 0 ∨ n = 1 := by omega
      rcases this with rfl | rfl
      · exact (by decide +kernel : narrow FieldType.boolean (.int (nI 0)) = .int (nI 0) ∧ fits FieldType.boolean (.int (nI 0)) = true)
      · exact (by decide +kernel : narrow FieldType.boolean (.int (nI 1)) = .int (nI 1) ∧ fits FieldType.boolean (.int (nI 1)) = true)
    · cases h
    · cases h
    · cases h
  · obtain ⟨x, -, ex⟩ := ev_dn_r (b := b) (B0 := B0) (σ := σ) (show ev_ir v = true from h)
    rw [ex]
    rcases hty with ⟨C, rfl⟩ | ⟨t, rfl⟩ <;> cases x <;> exact ⟨rfl, rfl⟩
  · obtain ⟨n, rfl⟩ := ev_dn_k (show ev_ik 0 v = true from h)
    exact ⟨rfl, rfl⟩
theorem ev_o_putf (hF : ev_Fx D aC b B0 L σ p s m args meth c cc nL Ts own Sg) (hk : ∀ pc loc st w, k pc loc st w = some r → ev_Go D aC b B0 σ p l e R s m args below meth c Q nL pc loc st w) (h : ev_h_putf Φ M k cl nx a b' c' tg pc loc st w = some r)
    (hi : ∃ (index : Nat) (C : String) (T : u_T) (N : Nat) (ty0 : Nat → FieldType), decode cc pc = .ok (.putfield index, 3) ∧ nx = pc + 3 ∧ vwCl[a]? = some (C, T, N) ∧ b' < N ∧ (∀ x ∈ u_ws C T N, x ∈ Ts) ∧ (∀ k, k < N → parseFieldDescriptor (T k).2.2.1 = some (ty0 k)) ∧ (∀ x, x < N → ∀ y, y < N → x ≠ y → (T x).2.1 ≠ (T y).2.1) ∧
      ((c' = 0 ∧ ty0 b' = .int) ∨ (c' = 1 ∧ ty0 b' = .boolean) ∨ (c' = 2 ∧ ((∃ C, ty0 b' = .object C) ∨ ∃ t, ty0 b' = .array t)) ∨ (c' = 3 ∧ ty0 b' = .long)) ∧
      (((T b').2.2.2 = false ∧ ev_fl_ok own (T b').1 (T b').2.1 (T b').2.2.1 index Ts) ∨ ((T b').2.2.2 = true ∧ meth.name = "<init>" ∧ (T b').1 = own ∧ Cond.fieldLink own index (T b').1 (T b').2.1 (T b').2.2.1 ∈ Ts))) : ev_Go D aC b B0 σ p l e R s m args below meth c Q nL pc loc st w := by
  obtain ⟨hx, hb, -, ho, ht, hV, -⟩ := hF
  obtain ⟨index, C, T, N, ty0, d, rfl, hc, hN, hin, hty, hnm, hty9, hlk⟩ := hi
  unfold ev_h_putf at h
  split at h
  · next v i rr =>
    split at h
    · next q hq =>
      obtain ⟨h1, h⟩ := ev_if_n h
      simp only [Bool.and_eq_true] at h1
      obtain ⟨h1, h2⟩ := h1
      have h1 := Nat.eq_of_beq_eq_true h1
      obtain ⟨d9, x9, u9, hu9, hd9, hx9, h⟩ := ev_upd_ok h
      intro H locs ls hl hJ hS
      have hc' : vwCl[q.1]? = some (C, T, N) := by rw [h1]; exact hc
      obtain ⟨hi, cell, q1, q2, q3, q4⟩ := ev_J_obj hJ hq hc'
      have hap := va_apart (own := own) ht hin ty0 hty hnm hV.1 hc'
      obtain ⟨hS9, hfc, kC, hkC, hkind⟩ := hV.1.1 q.1 _ hc'
      obtain ⟨cf, kf, fi, f, hif, hsl⟩ := hS9 b' hN
      have hst := (u_facts hfc hkC (u_lays ht hin hN) hif).1
      obtain ⟨hn, hfit⟩ := ev_fits_ok (b := b) (B0 := B0) (σ := σ) h2 hty9
      have hd := hty b' hN
      have hlay := ht _ (hin _ (u_in_lay hN))
      unfold u_lay at hlay
      have e1 : ev_dn b B0 σ (.inr (.inl (some i))) = .ref (B0 + i) := by
        show Value.ref _ = _
        rw [ev_ad_w hi]
      rw [List.map_cons, List.map_cons, e1]
      have hslot : f.slot < cell.slots.size := by rw [hsl]; exact k2_hasslot (q4 b' hN)
      have go : ∀ H' : Heap, H'[B0 + i]? = some (cell.setSlot f.slot (ev_dn b B0 σ v)) → H'.size = H.size → (∀ q, q ≠ B0 + i → H'[q]? = H[q]?) →
          W p l e R s m args below meth c H' (locs ++ [⟨B0 + i, f.slot⟩]) w.2.2.2.1 w.2.2.2.2 Q (F0 m (pc + 3) ls (rr.map (ev_dn b B0 σ))) := by
        intro H' g1 g2 g3
        rw [hsl] at g1
        refine hk _ _ _ _ h H' _ ls hl (ev_J_set hJ hq hx9 (Or.inr (Or.inl ⟨_, hc', ?_⟩)) g2 g3) (ev_S_put hS g2 g3 (Nat.le_add_right _ _))
        rw [ev_fv_set hd9]
        exact ⟨_, g1, q2, q3, t_set q4 hap hN _⟩
      rcases hlk with ⟨hfin, hlk⟩ | ⟨hfin, hini, hown2, hlk⟩
      · rw [if_neg (by rw [hfin]; decide)] at hlay
        have h6 := u_store hfc hkC hkind hlay hif hd hn hfit
        rcases hlk with hlk | ⟨host, hlk⟩
        · exact W.putK hx hb (f := f) ⟨ho, ht _ hlk, ⟨_, _, _, hif⟩, hst⟩ (by rw [q2]; exact h6) q1 q3 hslot rfl rfl d go
        · exact va_WputK hx hb (f := f) ho (va_Nw.use rfl (hV.2.1 _ hlk rfl)) hif hst (by rw [q2]; exact h6) q1 q3 hslot rfl rfl d go
      · rw [if_pos hfin] at hlay
        have hcf : m.cls = cf := by
          obtain ⟨_, _, c', _, _, _, -, -, hf', -, -, -, hown3, -⟩ := Cond.laysFinal_spec hlay
          have e1 : c' = cf := by have := hif.symm.trans hf'; simp at this; exact this.1.symm
          rw [hown2] at hown3
          rw [← e1]; exact Option.some.inj (ho.symm.trans hown3)
        have h6 := u_fits hfc hkC hkind (Or.inr hlay) hif hd hn hfit
        exact W.putFinK hx hb ho (ht _ hlk) hif hst hcf hini (by rw [q2]; exact h6) q1 q3 hslot rfl rfl d go
    · cases h
  · cases h
/-- what a frame has of the script -/
theorem ev_scr (hF : ev_Fx D aC b B0 L σ p s m args meth c cc nL Ts own Sg) {H : Heap} {locs : List Loc} (hS : va_S (fun q => B0 ≤ q) s.heap H locs) : va_X b L σ s H := by
  obtain ⟨-, -, -, -, -, -, ⟨hX, -⟩, hbB, -⟩ := hF
  obtain ⟨scr, h1, h2⟩ := hX
  exact ⟨scr, by rw [hS.2.1 b (Array.getElem?_eq_some_iff.mp h1).1 (by omega)]; exact h1, h2⟩
theorem ev_o_alen (hF : ev_Fx D aC b B0 L σ p s m args meth c cc nL Ts own Sg) (hL : Φ.1 = L) (hk : ∀ pc loc st w, k pc loc st w = some r → ev_Go D aC b B0 σ p l e R s m args below meth c Q nL pc loc st w) (h : ev_h_alen Φ M k cl nx a b' c' tg pc loc st w = some r)
    (hi : decode cc pc = .ok (.arraylength, 1) ∧ nx = pc + 1) : ev_Go D aC b B0 σ p l e R s m args below meth c Q nL pc loc st w := by
  obtain ⟨hx, hb, -, ho, ht, hV, -⟩ := id hF
  obtain ⟨d, rfl⟩ := hi
  unfold ev_h_alen at h
  split at h
  · next i rr =>
    intro H locs ls hl hJ hS
    cases c1 : Nat.beq i 1000000 with
    | true =>
      rw [c1, ev_if_t] at h
      have c1 := Nat.eq_of_beq_eq_true c1
      subst c1
      obtain ⟨scr, g1, g2, g3, g4, -⟩ := ev_scr hF hS
      have go := hk _ _ _ _ h H locs ls hl hJ hS
      exact W.alen (n := nI Φ.1) hx hb (a := b) g1 g2 (by rw [g4, hL]; rfl) rfl rfl d go
    | false =>
      rw [c1, ev_if_f] at h
      split at h
      · next q hq =>
        obtain ⟨h1, h⟩ := ev_if_n h
        simp only [Bool.and_eq_true] at h1
        have k1 := Nat.le_of_ble_eq_true h1.1
        have k2 := Nat.le_of_ble_eq_true h1.2
        obtain ⟨hi, g1⟩ := ev_J_arr hJ hq k1 k2
        have go := hk _ _ _ _ h H locs ls hl hJ hS
        rw [List.map_cons] at go ⊢
        have e1 : ev_dn b B0 σ (.inr (.inl (some i))) = .ref (B0 + i) := by
          show Value.ref _ = _
          rw [ev_ad_w hi]
        rw [e1]
        exact W.alen (n := nI q.2.1) hx hb g1 ((ev_tys_of hV k1 k2).1 _ _) (by rw [arrV_size]; rfl) rfl rfl d go
      · cases h
  · cases h
theorem ev_ix {j N : Nat} (h : (Nat.ble (j + 1) N && Nat.ble N 65536) = true) : j < N ∧ (nI j).toNatClampNeg = j ∧ ¬ (nI j < 0 ∨ N ≤ (nI j).toNatClampNeg) := by
  simp only [Bool.and_eq_true] at h
  have h1 := Nat.le_of_ble_eq_true h.1
  have h2 := Nat.le_of_ble_eq_true h.2
  have e : (nI j).toNatClampNeg = j := nI_clamp (by omega)
  refine ⟨by omega, e, ?_⟩
  rw [e]
  rintro (q | q)
  · exact nI_pos (by omega) q
  · omega
theorem ev_o_ald (hF : ev_Fx D aC b B0 L σ p s m args meth c cc nL Ts own Sg) (hk : ∀ pc loc st w, k pc loc st w = some r → ev_Go D aC b B0 σ p l e R s m args below meth c Q nL pc loc st w) (h : ev_h_ald Φ M k cl nx a b' c' tg pc loc st w = some r)
    (hi : ((a = 20 ∧ b' = 20 ∧ decode cc pc = .ok (.iaload, 1)) ∨ (a = 21 ∧ b' = 22 ∧ decode cc pc = .ok (.baload, 1)) ∨ (a = 23 ∧ b' = 23 ∧ decode cc pc = .ok (.laload, 1)) ∨ (a = 24 ∧ b' = 25 ∧ decode cc pc = .ok (.aaload, 1))) ∧ nx = pc + 1) : ev_Go D aC b B0 σ p l e R s m args below meth c Q nL pc loc st w := by
  obtain ⟨hx, hb, -, ho, ht, hV, -⟩ := id hF
  obtain ⟨hi, rfl⟩ := hi
  unfold ev_h_ald at h
  split at h
  · next j i rr =>
    split at h
    · next q hq =>
      obtain ⟨h1, h⟩ := ev_if_n h
      simp only [Bool.and_eq_true] at h1
      have k1 := Nat.le_of_ble_eq_true h1.1
      have k2 := Nat.le_of_ble_eq_true h1.2.1
      obtain ⟨g4, g5, g6⟩ := ev_ix (j := j) (N := q.2.1) (by rw [Bool.and_eq_true]; exact h1.2.2)
      split at h
      · next v hv =>
        intro H locs ls hl hJ hS
        have hab : 20 ≤ a ∧ b' ≤ 25 := by rcases hi with ⟨rfl, rfl, -⟩ | ⟨rfl, rfl, -⟩ | ⟨rfl, rfl, -⟩ | ⟨rfl, rfl, -⟩ <;> omega
        obtain ⟨hi9, g1⟩ := ev_J_arr hJ hq (by omega) (by omega)
        have hA := (ev_tys_of hV (k := q.1) (by omega) (by omega)).1 q.2.1 (ev_fv b B0 σ q.2.2)
        have go := hk _ _ _ _ h H locs ls hl hJ hS
        rw [List.map_cons] at go
        rw [List.map_cons, List.map_cons]
        have e1 : ev_dn b B0 σ (.inr (.inl (some i))) = .ref (B0 + i) := by
          show Value.ref _ = _
          rw [ev_ad_w hi9]
        rw [e1]
        have hin : ¬ (nI j < 0 ∨ (arrV (aC q.1) q.2.1 (ev_fv b B0 σ q.2.2)).slots.size ≤ (nI j).toNatClampNeg) := by rw [arrV_size]; exact g6
        have hv9 : (arrV (aC q.1) q.2.1 (ev_fv b B0 σ q.2.2)).slots[(nI j).toNatClampNeg]? = some (ev_dn b B0 σ v) := by
          rw [g5, arrV_read _ _ g4]
          unfold ev_fv
          rw [hv]
        have hkn : (arrV (aC q.1) q.2.1 (ev_fv b B0 σ q.2.2)).vm ≠ .unknown := fun z => by cases z
        rcases hi with ⟨rfl, rfl, d⟩ | ⟨rfl, rfl, d⟩ | ⟨rfl, rfl, d⟩ | ⟨rfl, rfl, d⟩
        · have e9 : q.1 = 20 := by omega
          rw [e9] at g1 hA hin hv9 hkn
          exact W.iald hx hb g1 hA hkn hin hv9 rfl rfl d go
        · have e9 : q.1 = 21 ∨ q.1 = 22 := by omega
          rcases e9 with e9 | e9
          · rw [e9] at g1 hA hin hv9 hkn
            exact W.bald hx hb g1 hA hkn hin hv9 rfl rfl d go
          · rw [e9] at g1 hA hin hv9 hkn
            exact W.zald hx hb g1 hA hkn hin hv9 rfl rfl d go
        · have e9 : q.1 = 23 := by omega
          rw [e9] at g1 hA hin hv9 hkn
          exact W.lald hx hb g1 hA hkn hin hv9 rfl rfl d go
        · have e9 : q.1 = 24 ∨ q.1 = 25 := by omega
          rcases e9 with e9 | e9
          · rw [e9] at g1 hA hin hv9 hkn
            exact W.aald (ty := .object RX3) hx hb g1 hA rfl hkn hin hv9 rfl rfl d go
          · rw [e9] at g1 hA hin hv9 hkn
            exact W.aald (ty := .object RX5) hx hb g1 hA rfl hkn hin hv9 rfl rfl d go
      · cases h
    · cases h
  · cases h
theorem ev_o_iald (hF : ev_Fx D aC b B0 L σ p s m args meth c cc nL Ts own Sg) (hL : Φ.1 = L) (hk : ∀ pc loc st w, k pc loc st w = some r → ev_Go D aC b B0 σ p l e R s m args below meth c Q nL pc loc st w) (h : ev_h_iald Φ M k cl nx a b' c' tg pc loc st w = some r)
    (hi : a = 20 ∧ b' = 20 ∧ decode cc pc = .ok (.iaload, 1) ∧ nx = pc + 1) : ev_Go D aC b B0 σ p l e R s m args below meth c Q nL pc loc st w := by
  obtain ⟨hx, hb, -, ho, ht, hV, -⟩ := id hF
  unfold ev_h_iald at h
  split at h
  · next j i rr =>
    cases c1 : Nat.beq i 1000000 with
    | true =>
      rw [c1, ev_if_t] at h
      have c1 := Nat.eq_of_beq_eq_true c1
      subst c1
      obtain ⟨h1, h⟩ := ev_if_n h
      simp only [Bool.and_eq_true] at h1
      have k1 := Nat.le_of_ble_eq_true h1.1
      have k2 := Nat.le_of_ble_eq_true h1.2
      obtain ⟨rfl, rfl, d, rfl⟩ := hi
      intro H locs ls hl hJ hS
      obtain ⟨scr, g1, g2, g3, g4, g5⟩ := ev_scr hF hS
      have e5 : (nI j).toNatClampNeg = j := nI_clamp (by omega)
      have go := hk _ _ _ _ h H locs ls hl hJ hS
      have e9 : ev_dn b B0 σ (.inr (.inr (.inl (some j, fun _ => 0)))) = .int (σ j) := by
        show Value.int (ev_sv σ j) = _
        unfold ev_sv
        rw [if_pos (by omega)]
      rw [List.map_cons, e9] at go
      exact W.iald hx hb (a := b) g1 g2 g3 (by rw [g4, e5]; rintro (q | q); exact nI_pos (by omega) q; omega) (by rw [e5]; exact g5 j (by omega)) rfl rfl d go
    | false =>
      rw [c1, ev_if_f] at h
      exact ev_o_ald hF hk h ⟨Or.inl ⟨hi.1, hi.2.1, hi.2.2.1⟩, hi.2.2.2⟩
  · cases h
/-- an element of an array was written -/
theorem ev_J_ast {w : ev_W} {H H1 : Heap} {i j : Nat} {q : ev_C} {x : List (List ev_C)} {d : List (List ev_V)} {v : ev_V} (h : ev_J D aC b B0 σ w H) (hq : ev_get w.1 i = some q) (hd : ∀ n, ev_get d n = if n = j then some v else ev_get q.2.2 n) (hx : ∀ n, ev_get x n = if n = i then some (q.1, (q.2.1, d)) else ev_get w.1 n)
    (h20 : 20 ≤ q.1) (h25 : q.1 ≤ 25) (h1 : H1[B0 + i]? = some ((arrV (aC q.1) q.2.1 (ev_fv b B0 σ q.2.2)).setSlot j (ev_dn b B0 σ v))) (hz : H1.size = H.size) (ho : ∀ x, x ≠ B0 + i → H1[x]? = H[x]?) : ev_J D aC b B0 σ (x, w.2) H1 := by
  refine ev_J_set h hq hx (Or.inr (Or.inr ⟨h20, h25, ?_⟩)) hz ho
  rw [h1, arrV_store, ev_fv_set hd]
theorem ev_o_iast (hF : ev_Fx D aC b B0 L σ p s m args meth c cc nL Ts own Sg) (hk : ∀ pc loc st w, k pc loc st w = some r → ev_Go D aC b B0 σ p l e R s m args below meth c Q nL pc loc st w) (h : ev_h_iast Φ M k cl nx a b' c' tg pc loc st w = some r)
    (hi : decode cc pc = .ok (.iastore, 1) ∧ nx = pc + 1) : ev_Go D aC b B0 σ p l e R s m args below meth c Q nL pc loc st w := by
  obtain ⟨hx, hb, -, ho, ht, hV, -⟩ := id hF
  obtain ⟨d, rfl⟩ := hi
  unfold ev_h_iast at h
  split at h
  · next v j i rr =>
    split at h
    · next q hq =>
      obtain ⟨h1, h⟩ := ev_if_n h
      rw [Bool.and_eq_true, Bool.and_eq_true] at h1
      have k1 := Nat.eq_of_beq_eq_true h1.1
      obtain ⟨g4, g5, g6⟩ := ev_ix h1.2.2
      obtain ⟨xv, ex⟩ := ev_dn_i (b := b) (B0 := B0) (σ := σ) h1.2.1
      obtain ⟨d9, x9, u9, hu9, hd9, hx9, h⟩ := ev_upd_ok h
      intro H locs ls hl hJ hS
      obtain ⟨hi9, g1⟩ := ev_J_arr hJ hq (by omega) (by omega)
      have hA := (ev_tys_of hV (k := q.1) (by omega) (by omega)).1 q.2.1 (ev_fv b B0 σ q.2.2)
      have e1 : ev_dn b B0 σ (.inr (.inl (some i))) = .ref (B0 + i) := by
        show Value.ref _ = _
        rw [ev_ad_w hi9]
      rw [List.map_cons, List.map_cons, List.map_cons, e1, ex]
      refine W.iast hx hb g1 (by rw [k1] at hA ⊢; exact hA) (fun z => by cases z) (by rw [arrV_size]; exact g6) rfl rfl d fun H1 z1 z2 z3 => ?_
      rw [g5, ← ex] at z1
      exact hk _ _ _ _ h H1 _ ls hl (ev_J_ast hJ hq hd9 hx9 (by omega) (by omega) z1 z2 z3) (ev_S_put hS z2 z3 (Nat.le_add_right _ _))
    · cases h
  · cases h
theorem ev_nb_ok {v z : ev_V} (h : ev_nb v = some z) : ∃ x : Int32, ev_dn b B0 σ v = .int x ∧ ev_dn b B0 σ z = .int x.toInt8.toInt32 := by
  rcases v with n | q | ⟨t, f⟩ | ⟨j, n⟩
  · have h : some (.inl (ev_n (nI n).toInt8.toInt32)) = some z := h
    cases h
    exact ⟨nI n, rfl, by show Value.int _ = _; rw [ev_nI_n]⟩
  · cases h
  · cases t with
    | none => cases h; exact ⟨f σ, rfl, rfl⟩
    | some i => cases h
  · cases h
theorem ev_o_bast (hF : ev_Fx D aC b B0 L σ p s m args meth c cc nL Ts own Sg) (hk : ∀ pc loc st w, k pc loc st w = some r → ev_Go D aC b B0 σ p l e R s m args below meth c Q nL pc loc st w) (h : ev_h_bast Φ M k cl nx a b' c' tg pc loc st w = some r)
    (hi : decode cc pc = .ok (.bastore, 1) ∧ nx = pc + 1) : ev_Go D aC b B0 σ p l e R s m args below meth c Q nL pc loc st w := by
  obtain ⟨hx, hb, -, ho, ht, hV, -⟩ := id hF
  obtain ⟨d, rfl⟩ := hi
  unfold ev_h_bast at h
  split at h
  · next v j i rr =>
    split at h
    · next q hq =>
      obtain ⟨h1, h⟩ := ev_if_n h
      obtain ⟨g4, g5, g6⟩ := ev_ix h1
      cases c1 : Nat.beq q.1 21 with
      | true =>
        rw [c1, ev_if_t] at h
        have k1 := Nat.eq_of_beq_eq_true c1
        split at h
        · next z hz =>
          obtain ⟨xv, ex, ez⟩ := ev_nb_ok (b := b) (B0 := B0) (σ := σ) hz
          obtain ⟨d9, x9, u9, hu9, hd9, hx9, h⟩ := ev_upd_ok h
          intro H locs ls hl hJ hS
          obtain ⟨hi9, g1⟩ := ev_J_arr hJ hq (by omega) (by omega)
          have hA := (ev_tys_of hV (k := q.1) (by omega) (by omega)).1 q.2.1 (ev_fv b B0 σ q.2.2)
          have e1 : ev_dn b B0 σ (.inr (.inl (some i))) = .ref (B0 + i) := by
            show Value.ref _ = _
            rw [ev_ad_w hi9]
          rw [List.map_cons, List.map_cons, List.map_cons, e1, ex]
          refine W.bast hx hb g1 (by rw [k1] at hA ⊢; exact hA) (fun z => by cases z) (by rw [arrV_size]; exact g6) rfl rfl d fun H1 z1 z2 z3 => ?_
          rw [g5, narrow_byte, ← ez] at z1
          exact hk _ _ _ _ h H1 _ ls hl (ev_J_ast hJ hq hd9 hx9 (by omega) (by omega) z1 z2 z3) (ev_S_put hS z2 z3 (Nat.le_add_right _ _))
        · cases h
      | false =>
        rw [c1, ev_if_f] at h
        obtain ⟨h2, h⟩ := ev_if_n h
        rw [Bool.and_eq_true] at h2
        have k1 := Nat.eq_of_beq_eq_true h2.1
        obtain ⟨hn, -⟩ := ev_fits_ok (b := b) (B0 := B0) (σ := σ) h2.2 (ty := .boolean) (Or.inr (Or.inl ⟨rfl, rfl⟩))
        have hii : ev_ii v = true := by
          rcases v with n | q | ⟨t, f⟩ | ⟨j, n⟩
          · rfl
          · exact absurd h2.2 (fun z => by cases z)
          · rfl
          · exact absurd h2.2 (fun z => by cases z)
        obtain ⟨xv, ex⟩ := ev_dn_i (b := b) (B0 := B0) (σ := σ) hii
        obtain ⟨d9, x9, u9, hu9, hd9, hx9, h⟩ := ev_upd_ok h
        intro H locs ls hl hJ hS
        obtain ⟨hi9, g1⟩ := ev_J_arr hJ hq (by omega) (by omega)
        have hA := (ev_tys_of hV (k := q.1) (by omega) (by omega)).1 q.2.1 (ev_fv b B0 σ q.2.2)
        have e1 : ev_dn b B0 σ (.inr (.inl (some i))) = .ref (B0 + i) := by
          show Value.ref _ = _
          rw [ev_ad_w hi9]
        rw [List.map_cons, List.map_cons, List.map_cons, e1, ex]
        refine W.zast hx hb g1 (by rw [k1] at hA ⊢; exact hA) (fun z => by cases z) (by rw [arrV_size]; exact g6) rfl rfl d fun H1 z1 z2 z3 => ?_
        rw [g5, ← ex, hn] at z1
        exact hk _ _ _ _ h H1 _ ls hl (ev_J_ast hJ hq hd9 hx9 (by omega) (by omega) z1 z2 z3) (ev_S_put hS z2 z3 (Nat.le_add_right _ _))
    · cases h
  · cases h
theorem ev_o_last (hF : ev_Fx D aC b B0 L σ p s m args meth c cc nL Ts own Sg) (hk : ∀ pc loc st w, k pc loc st w = some r → ev_Go D aC b B0 σ p l e R s m args below meth c Q nL pc loc st w) (h : ev_h_last Φ M k cl nx a b' c' tg pc loc st w = some r)
    (hi : decode cc pc = .ok (.lastore, 1) ∧ nx = pc + 1) : ev_Go D aC b B0 σ p l e R s m args below meth c Q nL pc loc st w := by
  obtain ⟨hx, hb, -, ho, ht, hV, -⟩ := id hF
  obtain ⟨d, rfl⟩ := hi
  unfold ev_h_last at h
  split at h
  · next v j i rr =>
    split at h
    · next q hq =>
      obtain ⟨h1, h⟩ := ev_if_n h
      rw [Bool.and_eq_true, Bool.and_eq_true] at h1
      have k1 := Nat.eq_of_beq_eq_true h1.1
      obtain ⟨g4, g5, g6⟩ := ev_ix h1.2.2
      obtain ⟨nv, rfl⟩ := ev_dn_k h1.2.1
      obtain ⟨d9, x9, u9, hu9, hd9, hx9, h⟩ := ev_upd_ok h
      intro H locs ls hl hJ hS
      obtain ⟨hi9, g1⟩ := ev_J_arr hJ hq (by omega) (by omega)
      have hA := (ev_tys_of hV (k := q.1) (by omega) (by omega)).1 q.2.1 (ev_fv b B0 σ q.2.2)
      have e1 : ev_dn b B0 σ (.inr (.inl (some i))) = .ref (B0 + i) := by
        show Value.ref _ = _
        rw [ev_ad_w hi9]
      rw [List.map_cons, List.map_cons, List.map_cons, e1]
      refine W.last (x := lN nv) hx hb g1 (by rw [k1] at hA ⊢; exact hA) (fun z => by cases z) (by rw [arrV_size]; exact g6) rfl rfl d fun H1 z1 z2 z3 => ?_
      rw [g5] at z1
      exact hk _ _ _ _ h H1 _ ls hl (ev_J_ast hJ hq hd9 hx9 (by omega) (by omega) z1 z2 z3) (ev_S_put hS z2 z3 (Nat.le_add_right _ _))
    · cases h
  · cases h
theorem ev_o_aast (hF : ev_Fx D aC b B0 L σ p s m args meth c cc nL Ts own Sg) (hk : ∀ pc loc st w, k pc loc st w = some r → ev_Go D aC b B0 σ p l e R s m args below meth c Q nL pc loc st w) (h : ev_h_aast 3 5 Φ M k cl nx a b' c' tg pc loc st w = some r)
    (hi : decode cc pc = .ok (.aastore, 1) ∧ nx = pc + 1) : ev_Go D aC b B0 σ p l e R s m args below meth c Q nL pc loc st w := by
  obtain ⟨hx, hb, -, ho, ht, hV, -⟩ := id hF
  obtain ⟨d, rfl⟩ := hi
  unfold ev_h_aast at h
  split at h
  · next x j i rr =>
    split at h
    · next q u hq hu =>
      obtain ⟨h1, h⟩ := ev_if_n h
      rw [Bool.and_eq_true] at h1
      obtain ⟨g4, g5, g6⟩ := ev_ix h1.2
      obtain ⟨d9, x9, u9, hu9, hd9, hx9, h⟩ := ev_upd_ok h
      have kk : (q.1 = 24 ∧ u.1 = 3) ∨ (q.1 = 25 ∧ u.1 = 5) := by
        have h1 := h1.1
        cases c1 : Nat.beq q.1 24 with
        | true =>
          rw [c1, ev_if_t] at h1
          exact Or.inl ⟨Nat.eq_of_beq_eq_true c1, Nat.eq_of_beq_eq_true h1⟩
        | false =>
          rw [c1, ev_if_f, Bool.and_eq_true] at h1
          exact Or.inr ⟨Nat.eq_of_beq_eq_true h1.1, Nat.eq_of_beq_eq_true h1.2⟩
      intro H locs ls hl hJ hS
      obtain ⟨hi9, g1⟩ := ev_J_arr hJ hq (by omega) (by omega)
      obtain ⟨-, hRA⟩ := ev_tys_of hV (k := q.1) (by omega) (by omega)
      have e1 : ∀ {n : Nat}, n < 1000000 → ev_dn b B0 σ (.inr (.inl (some n))) = .ref (B0 + n) := fun hn => by
        show Value.ref _ = _
        rw [ev_ad_w hn]
      have main : ∀ (ci : Nat) (rr9 : vw_C), u.1 = ci → vwCl[ci]? = some rr9 → va_RA s (aC q.1) (.object rr9.1) → W p l e R s m args below meth c H locs w.2.2.2.1 w.2.2.2.2 Q (F0 m pc ls ((.inr (.inl (some x)) :: .inl j :: .inr (.inl (some i)) :: rr).map (ev_dn b B0 σ))) := by
        intro ci rr9 eu hci hra
        obtain ⟨hx9', cellV, f1, f2, f3, -⟩ := ev_J_obj hJ hu (rr := rr9) (by rw [eu]; exact hci)
        have hcls := (hV.1.1 ci rr9 hci).2
        obtain ⟨kA, comp, k1, k2, k3, -⟩ := hra
        have hcomp : comp = D.1 ci := Option.some.inj (k3.symm.trans hcls.1)
        subst hcomp
        obtain ⟨kC, hkC, -⟩ := hcls.2
        rw [List.map_cons, List.map_cons, List.map_cons, e1 hi9, e1 hx9']
        refine W.aast hx hb g1 (fun q h => by cases h) (fun h => by cases h) k1 k2 rfl hkC ⟨fun z => g6 (Or.inl z), by rw [arrV_size, g5]; exact g4⟩ f1 (fun q h => by rw [f3] at h; cases h) (by rw [f2, eu]; exact hkC) (by rw [f2, eu]; exact va_assign hcls) rfl rfl d fun H1 z1 z2 z3 => ?_
        rw [g5, ← e1 hx9'] at z1
        exact hk _ _ _ _ h H1 _ ls hl (ev_J_ast hJ hq hd9 hx9 (by omega) (by omega) z1 z2 z3) (ev_S_put hS z2 z3 (Nat.le_add_right _ _))
      rcases kk with ⟨k1, k2⟩ | ⟨k1, k2⟩
      · rw [k1] at hRA
        exact main 3 (RX3, TX3, 15) k2 rfl (by rw [k1]; exact hRA)
      · rw [k1] at hRA
        exact main 5 (RX5, TX5, 10) k2 rfl (by rw [k1]; exact hRA)
    · cases h
  · cases h
end EVH
end
section
/-! ===== new things, conversions, switches, the JDK's own (own work) ===== -/
section EVM
variable {D : va_G} {aC : Nat → ClassId} {b B0 L : Nat} {σ : Nat → Int32}
variable {p : Program} {l : Launch} {e : Env} {R : Room} {s : State} {m : MethodId} {args : Array Value} {below : List Frame} {meth : Method} {c : Code} {Q : State → Prop}
variable {cc : ByteArray} {nL : Nat} {Ts : List Cond} {own : String} {Sg : List (String × (Nat × String))}
variable {Φ : ev_P} {M : ev_M} {k : ev_N} {cl : ev_F} {nx a b' c' pc : Nat} {tg : List Nat} {loc : ev_L} {st : List ev_V} {w : ev_W} {r : ev_S}
theorem ev_mk_ok {q : ev_C} {n : Nat} {kt : ev_W → ev_R} (h : ev_mk w q n kt = some r) :
    ∃ (x : List (List ev_C)) (u : ev_C), w.2.2.1 = true ∧ ev_get w.1 w.2.1 = some u ∧ (∀ j, ev_get x j = if j = w.2.1 then some q else ev_get w.1 j) ∧ kt (x, (w.2.1 + 1, (true, (w.2.2.2.1 + 1, w.2.2.2.2 + n)))) = some r := by
  unfold ev_mk at h
  obtain ⟨h1, h⟩ := ev_if_n h
  split at h
  · next x hx =>
    obtain ⟨⟨u, hu⟩, h2⟩ := ev_sto_ok hx
    exact ⟨x, u, h1, hu, h2, h⟩
  · cases h
theorem ev_J_new {H H1 : Heap} {q u : ev_C} {x : List (List ev_C)} {y : Nat × Nat} (h : ev_J D aC b B0 σ w H) (he : w.2.2.1 = true) (hu : ev_get w.1 w.2.1 = some u) (hx : ∀ j, ev_get x j = if j = w.2.1 then some q else ev_get w.1 j)
    (h1 : ev_at D aC b B0 σ H.size q H1) (hz : H1.size = H.size + 1) (ho : ∀ x, x < H.size → H1[x]? = H[x]?) : ev_J D aC b B0 σ (x, (w.2.1 + 1, (true, y))) H1 := by
  have e := h.2.2 he
  refine ⟨fun j v hj => ?_, ?_, fun _ => ?_⟩
  · have hj : ev_get x j = some v := hj
    rw [hx] at hj
    by_cases ej : j = w.2.1
    · rw [if_pos ej] at hj
      cases hj
      rw [ej, ← e]
      exact ⟨(h.1 _ _ hu).1, h1⟩
    · rw [if_neg ej] at hj
      obtain ⟨g1, g2⟩ := h.1 j v hj
      refine ⟨g1, ?_⟩
      rcases g2 with g | ⟨rr, g2, g3⟩ | ⟨g2, g3, g4⟩
      · exact Or.inl g
      · obtain ⟨cell, k1, k2⟩ := id g3
        exact Or.inr (Or.inl ⟨rr, g2, g3.kept (ho _ (Array.getElem?_eq_some_iff.mp k1).1)⟩)
      · exact Or.inr (Or.inr ⟨g2, g3, (ho _ (Array.getElem?_eq_some_iff.mp g4).1).trans g4⟩)
  · show B0 + (w.2.1 + 1) ≤ H1.size
    omega
  · show H1.size = B0 + (w.2.1 + 1)
    omega
theorem ev_S_new {A : Nat → Prop} {H0 H H1 : Heap} {locs : List Loc} (hS : va_S A H0 H locs) (hz : H1.size = H.size + 1) (ho : ∀ q, q < H.size → H1[q]? = H[q]?) : va_S A H0 H1 locs :=
  ⟨Nat.le_trans hS.1 (by omega), fun q h1 h2 => (ho q (Nat.lt_of_lt_of_le h1 hS.1)).trans (hS.2.1 q h1 h2), hS.2.2⟩
theorem ev_may_ok {x y : Nat} (h : ev_may M w x y = true) (hR : M.2.1 ≤ R.cells ∧ M.2.2.1 ≤ R.slots) : w.2.2.2.1 + x ≤ R.cells ∧ w.2.2.2.2 + y ≤ R.slots := by
  unfold ev_may at h
  rw [Bool.and_eq_true] at h
  have h1 := Nat.le_of_ble_eq_true h.1
  have h2 := Nat.le_of_ble_eq_true h.2
  omega
def ev_dc (t : FieldType) : Nat := match t with
  | .object _ => 1
  | .array _ => 1
  | .long => 2
  | .float => 3
  | .double => 3
  | _ => 0
theorem ev_dv_ok {t : FieldType} (h : ev_dc t < 3) : ev_dn b B0 σ (ev_dv (ev_dc t)) = defaultValue t := by
  cases t <;> first | rfl | (exact absurd h (by decide))
theorem ev_fv_new {N : Nat} {ty : Nat → FieldType} (hN : N ≤ 32) (ht : ∀ k, k < N → ev_dc (ty k) < 3) {k : Nat} (hk : k < N) : defaultValue (ty k) = ev_fv b B0 σ [((List.range N).map (fun k => ev_dc (ty k))).map ev_dv] k := by
  unfold ev_fv
  rw [ev_get_eq]
  have e1 : k / 32 = 0 := by omega
  have e2 : k % 32 = k := by omega
  rw [e1, e2]
  show defaultValue (ty k) = match (((List.range N).map (fun k => ev_dc (ty k))).map ev_dv)[k]? with
    | some v => ev_dn b B0 σ v
    | none => .null
  rw [List.getElem?_map, List.getElem?_map, List.getElem?_range hk]
  exact (ev_dv_ok (ht k hk)).symm
theorem ev_o_new (hF : ev_Fx D aC b B0 L σ p s m args meth c cc nL Ts own Sg) (hR : M.2.1 ≤ R.cells ∧ M.2.2.1 ≤ R.slots) (hk : ∀ pc loc st w, k pc loc st w = some r → ev_Go D aC b B0 σ p l e R s m args below meth c Q nL pc loc st w) (h : ev_h_new Φ M k cl nx a b' c' tg pc loc st w = some r)
    (hi : ∃ (index : Nat) (C : String) (T : u_T) (N : Nat) (ty0 : Nat → FieldType), decode cc pc = .ok (.new index, 3) ∧ nx = pc + 3 ∧ vwCl[a]? = some (C, T, N) ∧ b' = N ∧ N ≤ 32 ∧ (∀ x ∈ u_ws C T N, x ∈ Ts) ∧ (∀ k, k < N → parseFieldDescriptor (T k).2.2.1 = some (ty0 k)) ∧ (∀ k, k < N → ev_dc (ty0 k) < 3) ∧ tg = (List.range N).map (fun k => ev_dc (ty0 k)) ∧
      Cond.classLink own index C ∈ Ts ∧ Cond.instantiable C N ∈ Ts ∧ Cond.initialized C ∈ Ts) : ev_Go D aC b B0 σ p l e R s m args below meth c Q nL pc loc st w := by
  obtain ⟨hx, hb, -, ho, ht, hV, -⟩ := id hF
  obtain ⟨index, C, T, N, ty0, d, rfl, hc, rfl, hN, hin, hty, hdc, rfl, w1, w2, w3⟩ := hi
  unfold ev_h_new at h
  obtain ⟨h1, h⟩ := ev_if_n h
  obtain ⟨x, u, he, hu, hx9, h⟩ := ev_mk_ok h
  intro H locs ls hl hJ hS
  have hKn := hV.1.1 a _ hc
  obtain ⟨r1, r2⟩ := ev_may_ok h1 hR
  refine W.newcK hx hb ho (ht _ w1) (ht _ w2) (ht _ w3) rfl d r1 r2 hKn.2.1 rfl fun H1 kC hkC e1 z1 o1 => ?_
  have e9 := hJ.2.2 he
  have go := hk _ _ _ _ h H1 locs ls hl (ev_J_new hJ he hu hx9 (Or.inr (Or.inl ⟨_, hc, (u_born ty0 ht hin hKn hkC e1 hty).to (fun k hk9 => ev_fv_new hN hdc hk9)⟩)) z1 o1) (ev_S_new hS z1 o1)
  have e2 : ev_dn b B0 σ (.inr (.inl (some w.2.1))) = .ref H.size := by
    show Value.ref _ = _
    rw [ev_ad_w (hJ.1 _ _ hu).1, e9]
  rw [List.map_cons, e2] at go
  exact go
theorem ev_rows_get {n j : Nat} {v : ev_V} (h : j < n) : ev_get (ev_rows n v) j = some v := by
  rw [ev_get_eq]
  unfold ev_rows
  rw [List.getElem?_replicate, if_pos (by omega)]
  show (List.replicate 32 v)[j % 32]? = _
  rw [List.getElem?_replicate, if_pos (by omega)]
theorem ev_arr_to {cA : ClassId} {N : Nat} {f g : Nat → Value} (h : ∀ j, j < N → f j = g j) : arrV cA N f = arrV cA N g := by
  unfold arrV
  congr 1
  apply Array.ext
  · simp
  · intro j h1 h2
    simp only [Array.getElem_ofFn]
    exact h j (by simpa using h1)
theorem ev_o_newa (hF : ev_Fx D aC b B0 L σ p s m args meth c cc nL Ts own Sg) (hR : M.2.1 ≤ R.cells ∧ M.2.2.1 ≤ R.slots) (hk : ∀ pc loc st w, k pc loc st w = some r → ev_Go D aC b B0 σ p l e R s m args below meth c Q nL pc loc st w) (h : ev_h_newa Φ M k cl nx a b' c' tg pc loc st w = some r)
    (hi : (∃ at9 : ArrayType, decode cc pc = .ok (.newarray at9, 2) ∧ nx = pc + 2 ∧ newarray.typeOf at9 = ev_ty a ∧ 20 ≤ a ∧ a ≤ 23 ∧ b' = ev_dc (ev_ty a) ∧ Cond.arrayClass (newarray.typeOf at9) ∈ Ts) ∨
      (∃ (ix : Nat) (C : String), decode cc pc = .ok (.anewarray ix, 3) ∧ nx = pc + 3 ∧ 24 ≤ a ∧ a ≤ 25 ∧ ev_ty a = .object C ∧ b' = 1 ∧ Cond.classLink own ix C ∈ Ts ∧ Cond.arrayOver (.object C) ∈ lw_tbl)) : ev_Go D aC b B0 σ p l e R s m args below meth c Q nL pc loc st w := by
  obtain ⟨hx, hb, -, ho, ht, hV, -⟩ := id hF
  unfold ev_h_newa at h
  split at h
  · next n rr =>
    obtain ⟨h1, h⟩ := ev_if_n h
    rw [Bool.and_eq_true] at h1
    have hn := Nat.le_of_ble_eq_true h1.2
    obtain ⟨r1, r2⟩ := ev_may_ok h1.1 hR
    obtain ⟨x, u, he, hu, hx9, h9⟩ := ev_mk_ok h
    intro H locs ls hl hJ hS
    have e9 := hJ.2.2 he
    have e2 : ev_dn b B0 σ (.inr (.inl (some w.2.1))) = .ref H.size := by
      show Value.ref _ = _
      rw [ev_ad_w (hJ.1 _ _ hu).1, e9]
    have e5 : (nI n).toNatClampNeg = n := nI_clamp (by omega)
    have e6 : ¬ nI n < 0 := nI_pos (by omega)
    rw [List.map_cons]
    rcases hi with ⟨at9, d, rfl, hty, ha, ha2, rfl, hw⟩ | ⟨ix, C, d, rfl, ha, ha2, hty, rfl, hw, hw2⟩
    · have hz : componentBytes (newarray.typeOf at9) ≤ 8 := by cases at9 <;> decide
      refine va_newaK (N := n) hx hb (ht _ hw) rfl d rfl e6 e5 (Nat.le_trans (Nat.mul_le_mul hn hz) (by decide)) r1 r2 rfl fun H1 cA e1 z1 o1 hAr hNm => ?_
      obtain ⟨-, hRA⟩ := ev_tys_of hV (k := a) (by omega) (by omega)
      have hcA : cA = aC a := by
        have ha9 : a = 20 ∨ a = 21 ∨ a = 22 ∨ a = 23 := by omega
        rw [hty] at hNm
        rcases ha9 with rfl | rfl | rfl | rfl <;> exact Option.some.inj (hNm.symm.trans hRA)
      have hdc : ev_dc (ev_ty a) < 3 := by
        have ha9 : a = 20 ∨ a = 21 ∨ a = 22 ∨ a = 23 := by omega
        rcases ha9 with rfl | rfl | rfl | rfl <;> decide
      have go := hk _ _ _ _ h9 H1 locs ls hl (ev_J_new hJ he hu hx9 (Or.inr (Or.inr ⟨by show 20 ≤ a; omega, by show a ≤ 25; omega, by
        rw [e1, hcA, hty]
        refine congrArg some (ev_arr_to fun j hj => ?_)
        unfold ev_fv
        rw [ev_rows_get hj]
        exact (ev_dv_ok hdc).symm⟩)) z1 o1) (ev_S_new hS z1 o1)
      rw [List.map_cons, e2] at go
      exact go
    · refine W.anew hx hb ho (ht _ hw) (show (Cond.arrayOver (.object C)).before args s = true from va_AO.use (C := C) (hV.2.1 _ hw2 rfl)) rfl d rfl e6 (by rw [e5]; omega) r1 (by rw [e5]; exact r2) fun cA kA comp f1 f2 f3 f4 => ?_
      obtain ⟨-, hRA⟩ := ev_tys_of hV (k := a) (by omega) (by omega)
      rw [hty] at hRA
      obtain ⟨kA', comp', g1, g2, g3, g4⟩ := hRA
      have hcA : cA = aC a := Option.some.inj (f1.symm.trans g4)
      rw [arrV_new, e5]
      have z1 : (H.push (arrV cA n (fun _ => Value.null))).size = H.size + 1 := by simp
      have o1 : ∀ q, q < H.size → (H.push (arrV cA n (fun _ => Value.null)))[q]? = H[q]? := fun q hq => by rw [Array.getElem?_push, if_neg (Nat.ne_of_lt hq)]
      have e1 : (H.push (arrV cA n (fun _ => Value.null)))[H.size]? = some (arrV cA n (fun _ => Value.null)) := by simp
      have go := hk _ _ _ _ h9 _ locs ls hl (ev_J_new hJ he hu hx9 (Or.inr (Or.inr ⟨by show 20 ≤ a; omega, by show a ≤ 25; omega, by
        rw [e1, hcA]
        refine congrArg some (ev_arr_to fun j hj => ?_)
        unfold ev_fv
        rw [ev_rows_get hj]
        rfl⟩)) z1 o1) (ev_S_new hS z1 o1)
      rw [List.map_cons, e2] at go
      exact go
  · cases h
theorem ev_o_objinit (hF : ev_Fx D aC b B0 L σ p s m args meth c cc nL Ts own Sg) (hR : 1 ≤ R.frames ∧ 100 ≤ R.locals) (hk : ∀ pc loc st w, k pc loc st w = some r → ev_Go D aC b B0 σ p l e R s m args below meth c Q nL pc loc st w) (h : ev_h_objinit Φ M k cl nx a b' c' tg pc loc st w = some r)
    (hi : ∃ ix : Nat, decode cc pc = .ok (.invokespecial ix, 3) ∧ nx = pc + 3 ∧ Cond.methodLink own ix Lib.objectInit ∈ Ts ∧ Cond.instanceMethod Lib.objectInit ∈ Ts ∧ Cond.code Lib.objectInit ⟨#[0xb1]⟩ 1 none ∈ Ts) : ev_Go D aC b B0 σ p l e R s m args below meth c Q nL pc loc st w := by
  obtain ⟨hx, hb, hml, ho, ht, hV, -⟩ := id hF
  obtain ⟨ix, d, rfl, w1, w2, w3⟩ := hi
  unfold ev_h_objinit at h
  split at h
  · next i rr =>
    obtain ⟨h1, h⟩ := ev_if_n h
    have h1 := Nat.le_of_ble_eq_true h1
    have h2 := ev_cs_ok (b := b) (B0 := B0) (σ := σ) rr
    exact ev_pure hk h fun H locs ls hl g => W.objInit hx hb ho (ht _ w1) (ht _ w2) (ht _ w3) rfl (by rw [hml]; exact hl.1) rfl d hR.1 (by show 2 * 0 + _ + 12 ≤ _; omega) g
  · cases h
theorem ev_bb_z {x : Int32} {z : Int} (hz : -2147483648 ≤ z) : (ev_bb x < (z + 2147483648).toNat ↔ x.toInt < z) ∧ ((z + 2147483648).toNat < ev_bb x ↔ z < x.toInt) ∧ (ev_bb x - (z + 2147483648).toNat = (x.toInt - z).toNat) := by
  have h1 := ev_bb_ge x
  unfold ev_bb
  refine ⟨?_, ?_, ?_⟩ <;> omega
theorem ev_o_switch (hF : ev_Fx D aC b B0 L σ p s m args meth c cc nL Ts own Sg) (hΦ : ev_FO Φ σ) (hk : ∀ pc loc st w, k pc loc st w = some r → ev_Go D aC b B0 σ p l e R s m args below meth c Q nL pc loc st w) (h : ev_h_switch Φ M k cl nx a b' c' tg pc loc st w = some r)
    (hi : ∃ (df lo hi9 : Int) (offs : Array Int) (len : Nat), decode cc pc = .ok (.tableswitch df lo hi9 offs, len) ∧ -2147483648 ≤ lo ∧ -2147483648 ≤ hi9 ∧ a = (lo + 2147483648).toNat ∧ b' = (hi9 + 2147483648).toNat ∧ (pc : Int) + df = (c' : Int) ∧ (∀ (j t : Nat), tg[j]? = some t → ∃ off, offs[j]? = some off ∧ (pc : Int) + off = (t : Int))) :
    ev_Go D aC b B0 σ p l e R s m args below meth c Q nL pc loc st w := by
  obtain ⟨hx, hb, -⟩ := id hF
  obtain ⟨df, lo, hi9, offs, len, d, hlo, hhi, rfl, rfl, hdf, htg⟩ := hi
  unfold ev_h_switch at h
  split at h
  · next x rr =>
    split at h
    · next q hq =>
      obtain ⟨u, eu, u1, u2⟩ := ev_itv_ok (b := b) (B0 := B0) hΦ hq
      obtain ⟨l1, l2, l3⟩ := ev_bb_z (x := u) hlo
      obtain ⟨m1, m2, -⟩ := ev_bb_z (x := u) hhi
      cases c1 : (Nat.ble (q.2 + 1) (lo + 2147483648).toNat || Nat.ble ((hi9 + 2147483648).toNat + 1) q.1) with
      | true =>
        rw [c1, ev_if_t] at h
        refine ev_pure hk h fun H locs ls hl g => ?_
        rw [List.map_cons, eu]
        rw [Bool.or_eq_true] at c1
        refine lv_tableOut hx hb d ?_ hdf g
        rcases c1 with c1 | c1
        · have := Nat.le_of_ble_eq_true c1
          exact Or.inl (l1.mp (by omega))
        · have := Nat.le_of_ble_eq_true c1
          exact Or.inr (m2.mp (by omega))
      | false =>
        rw [c1, ev_if_f] at h
        obtain ⟨h1, h⟩ := ev_if_n h
        rw [Bool.and_eq_true, Bool.and_eq_true] at h1
        have k1 := Nat.eq_of_beq_eq_true h1.1
        have k2 := Nat.le_of_ble_eq_true h1.2.1
        have k3 := Nat.le_of_ble_eq_true h1.2.2
        split at h
        · next t ht =>
          rw [ev_lg_eq] at ht
          obtain ⟨off, o1, o2⟩ := htg _ _ ht
          refine ev_pure hk h fun H locs ls hl g => ?_
          rw [List.map_cons, eu]
          have eb : ev_bb u = q.1 := by omega
          refine lv_tableIn hx hb d (fun z => ?_) (fun z => ?_) (off := off) ?_ o2 g
          · have := l1.mpr z
            omega
          · have := m2.mpr z
            omega
          · rw [← l3, eb]
            exact o1
        · cases h
    · cases h
  · cases h
theorem ev_u32 (x : UInt32) : UInt32.ofNat x.toNat = x := by simp
theorem ev_u64 (x : UInt64) : UInt64.ofNat x.toNat = x := by simp
theorem ev_o_cv (hF : ev_Fx D aC b B0 L σ p s m args meth c cc nL Ts own Sg) (hk : ∀ pc loc st w, k pc loc st w = some r → ev_Go D aC b B0 σ p l e R s m args below meth c Q nL pc loc st w) (h : ev_h_cv Φ M k cl nx a b' c' tg pc loc st w = some r)
    (hi : ((a = 0 ∧ decode cc pc = .ok (.i2l, 1)) ∨ (a = 1 ∧ decode cc pc = .ok (.l2i, 1)) ∨ (a = 2 ∧ decode cc pc = .ok (.i2d, 1)) ∨ (a = 3 ∧ decode cc pc = .ok (.i2f, 1)) ∨ (a = 4 ∧ decode cc pc = .ok (.f2d, 1)) ∨ (a = 5 ∧ decode cc pc = .ok (.i2b, 1)) ∨ (a = 6 ∧ decode cc pc = .ok (.i2c, 1))) ∧ nx = pc + 1) : ev_Go D aC b B0 σ p l e R s m args below meth c Q nL pc loc st w := by
  obtain ⟨hx, hb, -⟩ := id hF
  obtain ⟨hi, rfl⟩ := hi
  unfold ev_h_cv at h
  split at h
  · next x rr =>
    split at h
    · next z hz =>
      refine ev_pure hk h fun H locs ls hl g => ?_
      rw [List.map_cons] at g ⊢
      rcases hi with ⟨rfl, d⟩ | ⟨rfl, d⟩ | ⟨rfl, d⟩ | ⟨rfl, d⟩ | ⟨rfl, d⟩ | ⟨rfl, d⟩ | ⟨rfl, d⟩
      · rcases x with n | q | ⟨t, f⟩ | ⟨j, n⟩
        · have e := (Option.some.inj hz).symm
          subst e
          refine lv_i2l hx hb d rfl ?_
          have e : ev_dn b B0 σ (.inr (.inr (.inr (0, ev_nl (nI n).toInt64)))) = .long (nI n).toInt64 := by
            show Value.long _ = _
            rw [ev_lN_n]
          rw [e] at g
          exact g
        · exact absurd hz (fun z => by cases z)
        · exact absurd hz (fun z => by cases z)
        · exact absurd hz (fun z => by cases z)
      · rcases x with n | q | ⟨t, f⟩ | ⟨j, n⟩
        · exact absurd hz (fun z => by cases z)
        · exact absurd hz (fun z => by cases z)
        · exact absurd hz (fun z => by cases z)
        · match j, hz, g with
          | 0, hz, g =>
            have e := (Option.some.inj hz).symm
            subst e
            refine lv_l2i hx hb d rfl ?_
            have e : ev_dn b B0 σ (.inl (ev_n (lN n).toInt32)) = .int (lN n).toInt32 := by
              show Value.int _ = _
              rw [ev_nI_n]
            rw [e] at g
            exact g
          | j + 1, hz, g => exact absurd hz (fun z => by cases z)
      · rcases x with n | q | ⟨t, f⟩ | ⟨j, n⟩
        · have e := (Option.some.inj hz).symm
          subst e
          refine lv_i2d hx hb d ?_
          have e : ev_dn b B0 σ (.inr (.inr (.inr (2, (FP.i2d (nI n)).toNat)))) = .double (FP.i2d (nI n)) := by
            show Value.double _ = _
            rw [ev_u64]
          rw [e] at g
          exact g
        · exact absurd hz (fun z => by cases z)
        · exact absurd hz (fun z => by cases z)
        · exact absurd hz (fun z => by cases z)
      · rcases x with n | q | ⟨t, f⟩ | ⟨j, n⟩
        · have e := (Option.some.inj hz).symm
          subst e
          refine lv_i2f hx hb d ?_
          have e : ev_dn b B0 σ (.inr (.inr (.inr (1, (FP.i2f (nI n)).toNat)))) = .float (FP.i2f (nI n)) := by
            show Value.float _ = _
            rw [ev_u32]
          rw [e] at g
          exact g
        · exact absurd hz (fun z => by cases z)
        · exact absurd hz (fun z => by cases z)
        · exact absurd hz (fun z => by cases z)
      · rcases x with n | q | ⟨t, f⟩ | ⟨j, n⟩
        · exact absurd hz (fun z => by cases z)
        · exact absurd hz (fun z => by cases z)
        · exact absurd hz (fun z => by cases z)
        · match j, hz, g with
          | 0, hz, g => exact absurd hz (fun z => by cases z)
          | 1, hz, g =>
            have hz : ev_if (ev_n64 (FP.f2d (UInt32.ofNat n))) (some (.inr (.inr (.inr (2, (FP.f2d (UInt32.ofNat n)).toNat))))) none = some z := hz
            obtain ⟨h1, hz⟩ := ev_if_n hz
            have e := (Option.some.inj hz).symm
            subst e
            refine lv_f2d hx hb d (by unfold vf_n64; exact of_decide_eq_true h1) ?_
            have e : ev_dn b B0 σ (.inr (.inr (.inr (2, (FP.f2d (UInt32.ofNat n)).toNat)))) = .double (FP.f2d (UInt32.ofNat n)) := by
              show Value.double _ = _
              rw [ev_u64]
            rw [e] at g
            exact g
          | j + 2, hz, g => exact absurd hz (fun z => by cases z)
      · rcases x with n | q | ⟨t, f⟩ | ⟨j, n⟩
        · have e := (Option.some.inj hz).symm
          subst e
          refine lv_i2b hx hb d rfl ?_
          have e : ev_dn b B0 σ (.inl (ev_n (nI n).toInt8.toInt32)) = .int (nI n).toInt8.toInt32 := by
            show Value.int _ = _
            rw [ev_nI_n]
          rw [e] at g
          exact g
        · exact absurd hz (fun z => by cases z)
        · cases t with
          | none =>
            have e := (Option.some.inj hz).symm
            subst e
            exact lv_i2b hx hb d rfl g
          | some i => exact absurd hz (fun z => by cases z)
        · exact absurd hz (fun z => by cases z)
      · rcases x with n | q | ⟨t, f⟩ | ⟨j, n⟩
        · have e := (Option.some.inj hz).symm
          subst e
          refine lv_i2c hx hb d rfl ?_
          have e : ev_dn b B0 σ (.inl (n % 65536)) = .int ((nI n).toUInt32 % 65536).toInt32 := by
            show Value.int _ = _
            rw [pk_char]
            refine congrArg Value.int (ev_nI_eq ?_)
            have e2 : (nI n).toBitVec.toNat = n % 4294967296 := by
              rw [← ev_nI_mod, pk_tn (by omega)]
            rw [e2]
            omega
          rw [e] at g
          exact g
        · exact absurd hz (fun z => by cases z)
        · exact absurd hz (fun z => by cases z)
        · exact absurd hz (fun z => by cases z)
    · cases h
  · cases h
theorem ev_o_w2 (hF : ev_Fx D aC b B0 L σ p s m args meth c cc nL Ts own Sg) (hR : 1 ≤ R.frames ∧ 100 ≤ R.locals) (hMR0 : M.2.1 ≤ R.cells ∧ M.2.2.1 ≤ R.slots) (hk : ∀ pc loc st w, k pc loc st w = some r → ev_Go D aC b B0 σ p l e R s m args below meth c Q nL pc loc st w) (h : ev_h_w2 Φ M k cl nx a b' c' tg pc loc st w = some r)
    (hi : (((a = 0 ∧ decode cc pc = .ok (.ddiv, 1)) ∨ (a = 1 ∧ decode cc pc = .ok (.fdiv, 1)) ∨ (a = 2 ∧ decode cc pc = .ok (.dcmp .l, 1)) ∨ (a = 3 ∧ decode cc pc = .ok (.dcmp .g, 1)) ∨ (a = 4 ∧ decode cc pc = .ok (.lcmp, 1)) ∨ (a = 5 ∧ decode cc pc = .ok (.lshr, 1)) ∨ (a = 6 ∧ decode cc pc = .ok (.lshl, 1)) ∨ (a = 7 ∧ decode cc pc = .ok (.land, 1)) ∨ (a = 8 ∧ decode cc pc = .ok (.lor, 1))) ∧ nx = pc + 1) ∨
      (∃ ix : Nat, a = 9 ∧ decode cc pc = .ok (.invokestatic ix, 3) ∧ nx = pc + 3 ∧ Cond.methodLink own ix Lib.Math.max.name ∈ Ts ∧ Cond.static Lib.Math.max.name ∈ Ts ∧ Cond.initialized "java/lang/Math" ∈ Ts ∧ Cond.code Lib.Math.max.name Lib.Math.max.code 2 (some .int) ∈ Ts)) : ev_Go D aC b B0 σ p l e R s m args below meth c Q nL pc loc st w := by
  obtain ⟨hx, hb, hml, ho, ht, -⟩ := id hF
  unfold ev_h_w2 at h
  split at h
  · next y x rr =>
    split at h
    · next z hz =>
      obtain ⟨h1, h⟩ := ev_if_n h
      rw [Bool.and_eq_true] at h1
      have hMR := ev_may_ok h1.2 hMR0
      have h1 := Nat.le_of_ble_eq_true h1.1
      have h2 := ev_cs_ok (b := b) (B0 := B0) (σ := σ) rr
      refine ev_pure hk h fun H locs ls hl g => ?_
      rw [List.map_cons] at g
      rw [List.map_cons, List.map_cons]
      unfold ev_w2 at hz
      split at hz
      · obtain ⟨h9, hz⟩ := ev_if_n hz
        have e := (Option.some.inj hz).symm
        subst e
        rcases hi with ⟨hi, rfl⟩ | ⟨ix, h0, -⟩
        · have d : decode cc pc = .ok (.ddiv, 1) := by
            rcases hi with ⟨-, d⟩ | ⟨h0, -⟩ | ⟨h0, -⟩ | ⟨h0, -⟩ | ⟨h0, -⟩ | ⟨h0, -⟩ | ⟨h0, -⟩ | ⟨h0, -⟩ | ⟨h0, -⟩
            · exact d
            all_goals exact absurd h0 (by decide)
          refine lv_ddiv hx hb d (by unfold vf_n64; exact of_decide_eq_true h9) ?_
          simp only [ev_dn, ev_u64] at g
          exact g
        · exact absurd h0 (by decide)
      · obtain ⟨h9, hz⟩ := ev_if_n hz
        have e := (Option.some.inj hz).symm
        subst e
        rcases hi with ⟨hi, rfl⟩ | ⟨ix, h0, -⟩
        · have d : decode cc pc = .ok (.fdiv, 1) := by
            rcases hi with ⟨h0, -⟩ | ⟨-, d⟩ | ⟨h0, -⟩ | ⟨h0, -⟩ | ⟨h0, -⟩ | ⟨h0, -⟩ | ⟨h0, -⟩ | ⟨h0, -⟩ | ⟨h0, -⟩
            · exact absurd h0 (by decide)
            · exact d
            all_goals exact absurd h0 (by decide)
          refine lv_fdiv hx hb d (by unfold vf_n32; exact of_decide_eq_true h9) ?_
          simp only [ev_dn, ev_u32] at g
          exact g
        · exact absurd h0 (by decide)
      · have e := (Option.some.inj hz).symm
        subst e
        rcases hi with ⟨hi, rfl⟩ | ⟨ix, h0, -⟩
        · have d : decode cc pc = .ok (.dcmp .l, 1) := by
            rcases hi with ⟨h0, -⟩ | ⟨h0, -⟩ | ⟨-, d⟩ | ⟨h0, -⟩ | ⟨h0, -⟩ | ⟨h0, -⟩ | ⟨h0, -⟩ | ⟨h0, -⟩ | ⟨h0, -⟩
            · exact absurd h0 (by decide)
            · exact absurd h0 (by decide)
            · exact d
            all_goals exact absurd h0 (by decide)
          refine lv_dcmp hx hb d ?_
          simp only [ev_dn, ev_nI_n] at g
          exact g
        · exact absurd h0 (by decide)
      · have e := (Option.some.inj hz).symm
        subst e
        rcases hi with ⟨hi, rfl⟩ | ⟨ix, h0, -⟩
        · have d : decode cc pc = .ok (.dcmp .g, 1) := by
            rcases hi with ⟨h0, -⟩ | ⟨h0, -⟩ | ⟨h0, -⟩ | ⟨-, d⟩ | ⟨h0, -⟩ | ⟨h0, -⟩ | ⟨h0, -⟩ | ⟨h0, -⟩ | ⟨h0, -⟩
            · exact absurd h0 (by decide)
            · exact absurd h0 (by decide)
            · exact absurd h0 (by decide)
            · exact d
            all_goals exact absurd h0 (by decide)
          refine lv_dcmp hx hb d ?_
          simp only [ev_dn, ev_nI_n] at g
          exact g
        · exact absurd h0 (by decide)
      · have e := (Option.some.inj hz).symm
        subst e
        rcases hi with ⟨hi, rfl⟩ | ⟨ix, h0, -⟩
        · have d : decode cc pc = .ok (.lcmp, 1) := by
            rcases hi with ⟨h0, -⟩ | ⟨h0, -⟩ | ⟨h0, -⟩ | ⟨h0, -⟩ | ⟨-, d⟩ | ⟨h0, -⟩ | ⟨h0, -⟩ | ⟨h0, -⟩ | ⟨h0, -⟩
            · exact absurd h0 (by decide)
            · exact absurd h0 (by decide)
            · exact absurd h0 (by decide)
            · exact absurd h0 (by decide)
            · exact d
            all_goals exact absurd h0 (by decide)
          refine W.lcmp hx hb d ?_
          simp only [ev_dn, ev_nI_n] at g
          exact g
        · exact absurd h0 (by decide)
      · have e := (Option.some.inj hz).symm
        subst e
        rcases hi with ⟨hi, rfl⟩ | ⟨ix, h0, -⟩
        · have d : decode cc pc = .ok (.lshr, 1) := by
            rcases hi with ⟨h0, -⟩ | ⟨h0, -⟩ | ⟨h0, -⟩ | ⟨h0, -⟩ | ⟨h0, -⟩ | ⟨-, d⟩ | ⟨h0, -⟩ | ⟨h0, -⟩ | ⟨h0, -⟩
            · exact absurd h0 (by decide)
            · exact absurd h0 (by decide)
            · exact absurd h0 (by decide)
            · exact absurd h0 (by decide)
            · exact absurd h0 (by decide)
            · exact d
            all_goals exact absurd h0 (by decide)
          refine lv_lshr hx hb d rfl ?_
          simp only [ev_dn, ev_lN_n] at g
          exact g
        · exact absurd h0 (by decide)
      · have e := (Option.some.inj hz).symm
        subst e
        rcases hi with ⟨hi, rfl⟩ | ⟨ix, h0, -⟩
        · have d : decode cc pc = .ok (.lshl, 1) := by
            rcases hi with ⟨h0, -⟩ | ⟨h0, -⟩ | ⟨h0, -⟩ | ⟨h0, -⟩ | ⟨h0, -⟩ | ⟨h0, -⟩ | ⟨-, d⟩ | ⟨h0, -⟩ | ⟨h0, -⟩
            · exact absurd h0 (by decide)
            · exact absurd h0 (by decide)
            · exact absurd h0 (by decide)
            · exact absurd h0 (by decide)
            · exact absurd h0 (by decide)
            · exact absurd h0 (by decide)
            · exact d
            all_goals exact absurd h0 (by decide)
          refine lv_lshl hx hb d rfl ?_
          simp only [ev_dn, ev_lN_n] at g
          exact g
        · exact absurd h0 (by decide)
      · have e := (Option.some.inj hz).symm
        subst e
        rcases hi with ⟨hi, rfl⟩ | ⟨ix, h0, -⟩
        · have d : decode cc pc = .ok (.land, 1) := by
            rcases hi with ⟨h0, -⟩ | ⟨h0, -⟩ | ⟨h0, -⟩ | ⟨h0, -⟩ | ⟨h0, -⟩ | ⟨h0, -⟩ | ⟨h0, -⟩ | ⟨-, d⟩ | ⟨h0, -⟩
            · exact absurd h0 (by decide)
            · exact absurd h0 (by decide)
            · exact absurd h0 (by decide)
            · exact absurd h0 (by decide)
            · exact absurd h0 (by decide)
            · exact absurd h0 (by decide)
            · exact absurd h0 (by decide)
            · exact d
            all_goals exact absurd h0 (by decide)
          refine lv_land hx hb d ?_
          simp only [ev_dn, ev_lN_n] at g
          exact g
        · exact absurd h0 (by decide)
      · have e := (Option.some.inj hz).symm
        subst e
        rcases hi with ⟨hi, rfl⟩ | ⟨ix, h0, -⟩
        · have d : decode cc pc = .ok (.lor, 1) := by
            rcases hi with ⟨h0, -⟩ | ⟨h0, -⟩ | ⟨h0, -⟩ | ⟨h0, -⟩ | ⟨h0, -⟩ | ⟨h0, -⟩ | ⟨h0, -⟩ | ⟨h0, -⟩ | ⟨-, d⟩
            · exact absurd h0 (by decide)
            · exact absurd h0 (by decide)
            · exact absurd h0 (by decide)
            · exact absurd h0 (by decide)
            · exact absurd h0 (by decide)
            · exact absurd h0 (by decide)
            · exact absurd h0 (by decide)
            · exact absurd h0 (by decide)
            · exact d
          refine lv_lor hx hb d ?_
          simp only [ev_dn, ev_lN_n] at g
          exact g
        · exact absurd h0 (by decide)
      · next m9 n9 =>
        have e := (Option.some.inj hz).symm
        subst e
        rcases hi with ⟨hi, -⟩ | ⟨ix, -, d, rfl, w1, w2, w3, w4⟩
        · rcases hi with ⟨h0, -⟩ | ⟨h0, -⟩ | ⟨h0, -⟩ | ⟨h0, -⟩ | ⟨h0, -⟩ | ⟨h0, -⟩ | ⟨h0, -⟩ | ⟨h0, -⟩ | ⟨h0, -⟩
          all_goals exact absurd h0 (by decide)
        · refine va_mmax hx hb (by rw [hml]; exact hl.1.symm) ho (ht _ w1) (ht _ w2) (ht _ w3) (ht _ w4) hR.1 (by omega) hMR.1 hMR.2 d ?_
          have e : ev_dn b B0 σ (.inl (ev_if (Nat.ble (ev_bi m9 + 1) (ev_bi n9)) n9 m9)) = .int (if nI m9 < nI n9 then nI n9 else nI m9) := by
            show Value.int _ = _
            refine congrArg Value.int ?_
            cases c1 : Nat.ble (ev_bi m9 + 1) (ev_bi n9) with
            | true =>
              have := Nat.le_of_ble_eq_true c1
              rw [ev_if_t, if_pos (by rw [ev_bb_lt, ← ev_bi_ok, ← ev_bi_ok]; omega)]
            | false =>
              have : ¬ ev_bi m9 + 1 ≤ ev_bi n9 := fun q => by rw [Nat.ble_eq_true_of_le q] at c1; cases c1
              rw [ev_if_f, if_neg (by rw [ev_bb_lt, ← ev_bi_ok, ← ev_bi_ok]; omega)]
          rw [e] at g
          exact g
      · cases hz
    · cases h
  · cases h
end EVM
end
section
/-! ===== answers, exceptions, calls (own work) ===== -/
section EVC
variable {D : va_G} {aC : Nat → ClassId} {b B0 L : Nat} {σ : Nat → Int32}
variable {p : Program} {l : Launch} {e : Env} {R : Room} {s : State} {m : MethodId} {args : Array Value} {below : List Frame} {meth : Method} {c : Code} {Q : State → Prop}
variable {cc : ByteArray} {nL : Nat} {Ts : List Cond} {own : String} {Sg : List (String × (Nat × String))}
variable {Φ : ev_P} {M : ev_M} {k : ev_N} {cl : ev_F} {nx a b' c' pc : Nat} {tg : List Nat} {loc : ev_L} {st : List ev_V} {w : ev_W} {r : ev_S}
theorem ev_bw_warm {U : State} (hW : s.WarmedH U.vm) {x : Cond} (hx : ev_bw x = true) (h : x.before #[] s = true) : x.before #[] U = true := by
  match x, hx, h with
  | .castable C T, _, h => exact va_Nw.warmC hW h
  | .fieldLinkNest _ _ _ _ _ _, _, h => exact va_Nw.warmF hW h
  | .methodLinkNest _ _ _ _, _, h => exact va_Nw.warmM hW h
  | .arrayOver (.object C), _, h => exact va_AO.moved (C := C) hW.alike h
theorem ev_VF_warm {U : State} (hW : s.WarmedH U.vm) (h : ev_VF D aC Sg s) : ev_VF D aC Sg U := by
  obtain ⟨h1, h2, h3, h4⟩ := h
  refine ⟨va_K.moved hW.alike h1, fun x hx hb => ev_bw_warm hW hb (h2 x hx hb), fun q hq => ?_, fun i j hi hj hij => (h4 i j hi hj hij).moved hW.alike⟩
  obtain ⟨sa, h⟩ := h3 q hq
  exact ⟨sa, vk_R.warm hW h⟩
theorem ev_ZF_to {U : State} {H : Heap} {locs : List Loc} (hb : b < B0) (hv : s.vm.Alike U.vm) (h : ev_ZF b B0 L σ s s.heap) (hS : va_S (fun q => B0 ≤ q) s.heap H locs) : ev_ZF b B0 L σ U H := by
  obtain ⟨h1, h2, h3⟩ := h
  refine ⟨va_X.moved hv ?_, (h2.kept fun a h1 h2 => hS.2.1 a h1 h2).moved hv, (h3.kept fun a h1 h2 => hS.2.1 a h1 h2).moved hv⟩
  obtain ⟨scr, g1, g2⟩ := h1
  exact ⟨scr, by rw [hS.2.1 b (Array.getElem?_eq_some_iff.mp g1).1 (by omega)]; exact g1, g2⟩
/-- a method's start, its answer, its exception -/
def ev_Pc (D : va_G) (aC : Nat → ClassId) (b B0 L : Nat) (σ : Nat → Int32) (Sg : List (String × (Nat × String))) (As : List ev_V) (w : ev_W) : Array Value → State → Prop :=
  fun v U => v = (As.map (ev_dn b B0 σ)).toArray ∧ ev_J D aC b B0 σ w U.heap ∧ ev_VF D aC Sg U ∧ ev_ZF b B0 L σ U U.heap ∧ b < B0 ∧ B0 ≤ U.heap.size
def ev_Qc (D : va_G) (aC : Nat → ClassId) (b B0 : Nat) (σ : Nat → Int32) (r : ev_S) : Array Value → State → Outcome → State → Prop :=
  fun _ st o t => ∃ vo w2, r = .inl (vo, w2) ∧ o = .returned (vo.map (ev_dn b B0 σ)) ∧ ev_J D aC b B0 σ w2 t.heap ∧ va_F (fun q => B0 ≤ q) st t
def ev_Xc (D : va_G) (aC : Nat → ClassId) (b B0 : Nat) (σ : Nat → Int32) (r : ev_S) : String → State → State → Prop :=
  fun E st t => ∃ n w2, r = .inr (.inl (n, w2)) ∧ E = ev_ex n ∧ n < 4 ∧ ev_J D aC b B0 σ w2 t.heap ∧ va_F (fun q => B0 ≤ q) st t
theorem ev_Pc_blind {As : List ev_V} : FrameBlind (ev_Pc D aC b B0 L σ Sg As w) := by
  intro v U g mk h
  obtain ⟨h1, h2, h3, h4, h5, h6⟩ := h
  have hv : U.vm.Alike (U.calling g mk v).vm := Vm.Alike.refl U.vm
  exact ⟨h1, h2, ev_VF_warm (s := U) (U := U.calling g mk v) (State.WarmedH.refl U) h3, ⟨va_X.moved hv h4.1, h4.2.1.moved hv, h4.2.2.moved hv⟩, h5, h6⟩
theorem ev_may0 (h : ev_may M w 0 0 = true) : w.2.2.2.1 ≤ M.2.1 ∧ w.2.2.2.2 ≤ M.2.2.1 := by
  unfold ev_may at h
  rw [Bool.and_eq_true] at h
  have h1 := Nat.le_of_ble_eq_true h.1
  have h2 := Nat.le_of_ble_eq_true h.2
  exact ⟨by omega, by omega⟩
theorem ev_o_vret (hF : ev_Fx D aC b B0 L σ p s m args meth c cc nL Ts own Sg) (hQ : Q = vx_MQ below (ev_Qc D aC b B0 σ r) (ev_Xc D aC b B0 σ r) args s M.2.1 M.2.2.1 (fun q => B0 ≤ q)) (h : ev_h_vret Φ M k cl nx a b' c' tg pc loc st w = some r)
    (hi : decode cc pc = .ok (.return_, 1) ∧ meth.sig.returnType = none) : ev_Go D aC b B0 σ p l e R s m args below meth c Q nL pc loc st w := by
  obtain ⟨hx, hb, -, -, -, -, -, -, -, hlk⟩ := id hF
  unfold ev_h_vret at h
  split at h
  · obtain ⟨h1, h⟩ := ev_if_n h
    have e := (Option.some.inj h).symm
    intro H locs ls hl hJ hS
    subst hQ
    obtain ⟨m1, m2⟩ := ev_may0 h1
    refine W.widen m1 m2 (vx_ret (W.vret hx hb hi.2 (fun t ht hW => ?_) hS.2.2 hi.1 (hlocks := hlk)))
    exact ⟨none, w, e, rfl, by rw [ht]; exact hJ, hS.F ht⟩
  · cases h
theorem ev_o_iret (hF : ev_Fx D aC b B0 L σ p s m args meth c cc nL Ts own Sg) (hQ : Q = vx_MQ below (ev_Qc D aC b B0 σ r) (ev_Xc D aC b B0 σ r) args s M.2.1 M.2.2.1 (fun q => B0 ≤ q)) (h : ev_h_iret Φ M k cl nx a b' c' tg pc loc st w = some r)
    (hi : decode cc pc = .ok (.ireturn, 1) ∧ ((a = 0 ∧ meth.sig.returnType = some .int) ∨ (a = 1 ∧ meth.sig.returnType = some .boolean))) : ev_Go D aC b B0 σ p l e R s m args below meth c Q nL pc loc st w := by
  obtain ⟨hx, hb, -, -, -, -, -, -, -, hlk⟩ := id hF
  unfold ev_h_iret at h
  split at h
  · next v =>
    obtain ⟨h1, h⟩ := ev_if_n h
    rw [Bool.and_eq_true] at h1
    have e := (Option.some.inj h).symm
    intro H locs ls hl hJ hS
    subst hQ
    obtain ⟨m1, m2⟩ := ev_may0 h1.2
    refine W.widen m1 m2 (vx_ret ?_)
    have hii : ev_ii v = true := by
      rcases hi.2 with ⟨rfl, -⟩ | ⟨rfl, -⟩
      · exact h1.1
      · rcases v with n | q | ⟨t, f⟩ | ⟨j, n⟩
        · rfl
        · exact absurd h1.1 (fun z => by cases z)
        · rfl
        · exact absurd h1.1 (fun z => by cases z)
    obtain ⟨x, ex⟩ := ev_dn_i (b := b) (B0 := B0) (σ := σ) hii
    have hn : ∃ ty, meth.sig.returnType = some ty ∧ narrow ty (.int x) = .int x := by
      rcases hi.2 with ⟨-, hr⟩ | ⟨rfl, hr⟩
      · exact ⟨_, hr, rfl⟩
      · have := (ev_fits_ok (b := b) (B0 := B0) (σ := σ) h1.1 (ty := .boolean) (Or.inr (Or.inl ⟨rfl, rfl⟩))).1
        rw [ex] at this
        exact ⟨_, hr, this⟩
    obtain ⟨ty, hr, hn⟩ := hn
    rw [List.map_cons, List.map_nil, ex]
    exact W.zret hx hb hr hn (fun t ht hW => ⟨some v, w, e, by rw [Option.map_some, ex], by rw [ht]; exact hJ, hS.F ht⟩) hS.2.2 hi.1 (hlocks := hlk)
  · cases h
theorem ev_o_aret (hF : ev_Fx D aC b B0 L σ p s m args meth c cc nL Ts own Sg) (hQ : Q = vx_MQ below (ev_Qc D aC b B0 σ r) (ev_Xc D aC b B0 σ r) args s M.2.1 M.2.2.1 (fun q => B0 ≤ q)) (h : ev_h_aret Φ M k cl nx a b' c' tg pc loc st w = some r)
    (hi : decode cc pc = .ok (.areturn, 1) ∧ ∃ rt, meth.sig.returnType = some rt ∧ ((∃ n, rt = .object n) ∨ ∃ t, rt = .array t)) : ev_Go D aC b B0 σ p l e R s m args below meth c Q nL pc loc st w := by
  obtain ⟨hx, hb, -, -, -, -, -, -, -, hlk⟩ := id hF
  obtain ⟨d, rt, hr, hrt⟩ := hi
  unfold ev_h_aret at h
  split at h
  · next v =>
    obtain ⟨h1, h⟩ := ev_if_n h
    rw [Bool.and_eq_true] at h1
    have e := (Option.some.inj h).symm
    intro H locs ls hl hJ hS
    subst hQ
    obtain ⟨m1, m2⟩ := ev_may0 h1.2
    refine W.widen m1 m2 (vx_ret ?_)
    obtain ⟨x, -, ex⟩ := ev_dn_r (b := b) (B0 := B0) (σ := σ) h1.1
    rw [List.map_cons, List.map_nil, ex]
    refine W.aret hx hb hr hrt ?_ (fun t ht hW => ⟨some v, w, e, by rw [Option.map_some, ex], by rw [ht]; exact hJ, hS.F ht⟩) hS.2.2 d (hlocks := hlk)
    cases x with
    | none => exact Or.inl rfl
    | some y => exact Or.inr ⟨_, rfl⟩
  · cases h
theorem ev_o_wret (hF : ev_Fx D aC b B0 L σ p s m args meth c cc nL Ts own Sg) (hQ : Q = vx_MQ below (ev_Qc D aC b B0 σ r) (ev_Xc D aC b B0 σ r) args s M.2.1 M.2.2.1 (fun q => B0 ≤ q)) (h : ev_h_wret Φ M k cl nx a b' c' tg pc loc st w = some r)
    (hi : (a = 1 ∧ decode cc pc = .ok (.freturn, 1) ∧ meth.sig.returnType = some .float) ∨ (a = 2 ∧ decode cc pc = .ok (.dreturn, 1) ∧ meth.sig.returnType = some .double)) : ev_Go D aC b B0 σ p l e R s m args below meth c Q nL pc loc st w := by
  obtain ⟨hx, hb, -, -, -, -, -, -, -, hlk⟩ := id hF
  unfold ev_h_wret at h
  split at h
  · next v =>
    obtain ⟨h1, h⟩ := ev_if_n h
    rw [Bool.and_eq_true] at h1
    have e := (Option.some.inj h).symm
    intro H locs ls hl hJ hS
    subst hQ
    obtain ⟨m1, m2⟩ := ev_may0 h1.2
    refine W.widen m1 m2 (vx_ret ?_)
    obtain ⟨n, rfl⟩ := ev_dn_k h1.1
    rcases hi with ⟨rfl, d, hr⟩ | ⟨rfl, d, hr⟩
    · exact W.fret hx hb hr (fun t ht hW => ⟨_, w, e, rfl, by rw [ht]; exact hJ, hS.F ht⟩) hS.2.2 d (hlocks := hlk)
    · exact W.dret hx hb hr (fun t ht hW => ⟨_, w, e, rfl, by rw [ht]; exact hJ, hS.F ht⟩) hS.2.2 d (hlocks := hlk)
  · cases h
theorem ev_ad_lt {i : Nat} {q : ev_C} {H : Heap} (hJ : ev_J D aC b B0 σ w H) (hq : ev_get w.1 i = some q) (h99 : q.1 ≠ 99) : B0 + i < H.size := by
  rcases (hJ.1 i q hq).2 with h | ⟨rr, -, cell, k1, -⟩ | ⟨-, -, k1⟩
  · exact absurd h h99
  · exact (Array.getElem?_eq_some_iff.mp k1).1
  · exact (Array.getElem?_eq_some_iff.mp k1).1
/-- the world stays behind what only makes new cells -/
theorem ev_J_more {H H1 : Heap} (hJ : ev_J D aC b B0 σ w H) (hz : H.size ≤ H1.size) (ho : ∀ q, q < H.size → H1[q]? = H[q]?) {y : Nat × Nat} : ev_J D aC b B0 σ (w.1, (w.2.1, (false, y))) H1 := by
  refine ⟨fun i q hq => ⟨(hJ.1 i q hq).1, ?_⟩, Nat.le_trans hJ.2.1 hz, fun z => by cases z⟩
  by_cases h : q.1 = 99
  · exact Or.inl h
  · exact (hJ.1 i q hq).2.kept (ho _ (ev_ad_lt hJ hq h))
theorem ev_o_throw (hF : ev_Fx D aC b B0 L σ p s m args meth c cc nL Ts own Sg) (hl9 : l.stackTraces = false) (hR : 10 ≤ R.frames ∧ 100 ≤ R.locals) (hMR : M.2.1 ≤ R.cells ∧ M.2.2.1 ≤ R.slots) (hT : ∀ x ∈ c.exceptionTable.toList, False)
    (hQ : Q = vx_MQ below (ev_Qc D aC b B0 σ r) (ev_Xc D aC b B0 σ r) args s M.2.1 M.2.2.1 (fun q => B0 ≤ q)) (h : ev_h_throw Φ M k cl nx a b' c' tg pc loc st w = some r)
    (hi : ∃ (ik is9 ic : Nat) (text : String), a < 4 ∧ decode cc pc = .ok (.new ik, 3) ∧ decode cc (pc + 3) = .ok (.dup, 1) ∧ ((decode cc (pc + 4) = .ok (.ldc is9, 2) ∧ decode cc (pc + 6) = .ok (.invokespecial ic, 3) ∧ decode cc (pc + 9) = .ok (.athrow, 1)) ∨ (decode cc (pc + 4) = .ok (.ldc_w is9, 3) ∧ decode cc (pc + 7) = .ok (.invokespecial ic, 3) ∧ decode cc (pc + 10) = .ok (.athrow, 1))) ∧
      Cond.classLink own ik (ev_ex a) ∈ Ts ∧ Cond.initialized (ev_ex a) ∈ Ts ∧ (own, (is9, text)) ∈ Sg ∧ (∀ x ∈ (vx_atS own ic (ev_ex a) ["java/lang/RuntimeException", "java/lang/Exception"]).filter goodWord, x ∈ Ts) ∧
      (∀ x ∈ (vx_atS own ic (ev_ex a) ["java/lang/RuntimeException", "java/lang/Exception"]).filter (fun w => !goodWord w), x ∈ lw_tbl ∧ ev_bw x = true ∧ x.onTables = true) ∧
      (∀ x ∈ Cond.classLink own ik (ev_ex a) :: Cond.initialized (ev_ex a) :: vx_atS own ic (ev_ex a) ["java/lang/RuntimeException", "java/lang/Exception"], vx_ot x = true)) : ev_Go D aC b B0 σ p l e R s m args below meth c Q nL pc loc st w := by
  obtain ⟨hx, hb, hml, ho, ht, hV, hZ, hbB, hB, hlk⟩ := id hF
  obtain ⟨ik, is9, ic, text, ha, d0, d3, d9, w1, w2, w3, w4, w5, w6⟩ := hi
  unfold ev_h_throw at h
  obtain ⟨h1, h⟩ := ev_if_n h
  rw [Bool.and_eq_true] at h1
  have e := (Option.some.inj h).symm
  have h2 := Nat.le_of_ble_eq_true h1.2
  have h3 := ev_cs_ok (b := b) (B0 := B0) (σ := σ) st
  intro H locs ls hl hJ hS
  subst hQ
  obtain ⟨sa, hstr⟩ := hV.2.2.1 _ w3
  have hm : w.2.2.2.1 + 1 ≤ M.2.1 ∧ w.2.2.2.2 + 6 ≤ M.2.2.1 := by
    have h9 := h1.1
    unfold ev_may at h9
    rw [Bool.and_eq_true] at h9
    exact ⟨Nat.le_of_ble_eq_true h9.1, Nat.le_of_ble_eq_true h9.2⟩
  have hfit : Bundle.fit (ev_ex a) = true := by
    have : a = 0 ∨ a = 1 ∨ a = 2 ∨ a = 3 := by omega
    rcases this with rfl | rfl | rfl | rfl <;> decide +kernel
  have hnm : ∀ n ∈ ["java/lang/RuntimeException", "java/lang/Exception"], Bundle.fit n = true := by decide +kernel
  have hat : ∀ x ∈ vx_atS own ic (ev_ex a) ["java/lang/RuntimeException", "java/lang/Exception"], x.before args s = true := by
    refine vx_hat (B := (vx_atS own ic (ev_ex a) ["java/lang/RuntimeException", "java/lang/Exception"]).filter (fun w => !goodWord w)) (fun x hx => ht _ (w4 x hx)) (fun x hx => hx) (fun x hx => ?_)
    obtain ⟨g1, g2, g3⟩ := w5 x hx
    exact va_Nw.use g3 (hV.2.1 x g1 g2)
  have hxx : ∀ t : State, s.vm.Alike t.vm → H.size ≤ t.heap.size → (∀ q : Nat, q < H.size → t.heap[q]? = H[q]?) → ev_Xc D aC b B0 σ r (ev_ex a) s t := fun t hv hz hq =>
    ⟨a, _, e, rfl, ha, ev_J_more hJ hz hq, ⟨Nat.le_trans hS.1 hz, fun q g1 g2 => (hq q (Nat.lt_of_lt_of_le g1 hS.1)).trans (hS.2.1 q g1 g2)⟩⟩
  rcases d9 with ⟨d4, d6, d9⟩ | ⟨d4, d6, d9⟩
  · exact vx_throwS (names := ["java/lang/RuntimeException", "java/lang/Exception"]) (A := fun q => B0 ≤ q) hx hb hl9 ho hfit hnm (ht _ w1) (ht _ w2) hstr hat w6 hZ.2.1 hZ.2.2 hS (by rw [hml]; exact hl.1) d0 d3 d4 d6 d9 (fun x hx => (hT x hx).elim) (by simp only [List.length_cons, List.length_nil]; omega) (by simp only [List.length_cons, List.length_nil]; omega) (by omega) (by omega) hlk hxx hS.2.2 hm.1 hm.2
  · exact vx_throwSW (names := ["java/lang/RuntimeException", "java/lang/Exception"]) (A := fun q => B0 ≤ q) hx hb hl9 ho hfit hnm (ht _ w1) (ht _ w2) hstr hat w6 hZ.2.1 hZ.2.2 hS (by rw [hml]; exact hl.1) d0 d3 d4 d6 d9 (fun x hx => (hT x hx).elim) (by simp only [List.length_cons, List.length_nil]; omega) (by simp only [List.length_cons, List.length_nil]; omega) (by omega) (by omega) hlk hxx hS.2.2 hm.1 hm.2
/-- behind a call -/
theorem ev_call_end {r2 : ev_S} {H : Heap} {locs : List Loc} {ls : Array Slot} {st0 rest : List Value} {a9 : Array Value} {mc ms : Nat} (hS : va_S (fun q => B0 ≤ q) s.heap H locs)
    (hrun : vx_Run p l e R s m args below meth c H locs w.2.2.2.1 w.2.2.2.2 mc ms (F0 m pc ls st0) rest (ev_Qc D aC b B0 σ r2 a9) (ev_Xc D aC b B0 σ r2) (fun q => B0 ≤ q))
    (hret : ∀ vo w2 (H1 : Heap) (locs1 : List Loc), r2 = .inl (vo, w2) → ev_J D aC b B0 σ w2 H1 → va_S (fun q => B0 ≤ q) s.heap H1 locs1 → W p l e R s m args below meth c H1 locs1 (w.2.2.2.1 + mc) (w.2.2.2.2 + ms) Q (F0 m (pc + 3) ls ((vo.map (ev_dn b B0 σ)).toList ++ rest)))
    (hthr : ∀ n w2 (H1 : Heap) (locs1 : List Loc) (q : Nat) (ce : Cell), r2 = .inr (.inl (n, w2)) → n < 4 → ev_J D aC b B0 σ w2 H1 → va_S (fun q => B0 ≤ q) s.heap H1 locs1 → H1[q]? = some ce → ce.vm = .none → s.vm.findClass (ev_ex n) = some ce.cls → vx_W p l e R s m args below meth c H1 locs1 (w.2.2.2.1 + mc) (w.2.2.2.2 + ms) Q (F0 m pc ls rest) q) :
    W p l e R s m args below meth c H locs w.2.2.2.1 w.2.2.2.2 Q (F0 m pc ls st0) := by
  intro T hT X
  rcases hrun T hT X with ⟨v, st₀, t, T', L9, h0, X', hL, e1, e2, ⟨vo, w2, g1, g2, g3, g4⟩, stp⟩ | ⟨q, st₀, t, T', L9, E, ce, h0, X', hL, e1, e2, ⟨n, w2, g1, g2, g3, g4, g5⟩, hce, hcv, hcl, stp⟩
  · obtain ⟨-, -, k3⟩ := vx_keep h0 e1 hS (fun q _ h => h) (fun q h => h) hL g4
    have g2 := Outcome.returned.inj g2
    subst g2
    obtain ⟨t2, a1, b1⟩ := hret vo w2 T'.heap (locs ++ L9) g1 (by rw [e1]; exact g3) k3 T' rfl X'
    exact ⟨t2, stp t2 a1, b1⟩
  · obtain ⟨-, -, k3⟩ := vx_keep h0 e1 hS (fun q _ h => h) (fun q h => h) hL g5
    subst g2
    obtain ⟨t2, a1, b1⟩ := hthr n w2 T'.heap (locs ++ L9) q ce g1 g3 (by rw [e1]; exact g4) k3 (by rw [e1]; exact hce) hcv hcl T' rfl X'
    exact ⟨t2, stp.trans a1, b1⟩
end EVC
end
section
/-! ===== a method's frame, from its entry to its end (own work) ===== -/
/-- a method: its name, its code, what it answers, its handlers as the class file has them -/
abbrev ev_Im : Type := MethodName × (ByteArray × (Option FieldType × List (Nat × Nat × Nat × Nat)))
def ev_UW : List Cond := lw_tbl.filter goodWord
def ev_cw (x : ev_Im) (n : Nat) : Cond := match x.2.2.2 with
  | [] => .code x.1 x.2.1 n x.2.2.1
  | q :: t => .codeWith x.1 x.2.1 n x.2.2.1 (q :: t)
def ev_wm (x : ev_Im) (n : Nat) : List Cond := ev_cw x n :: ev_UW
def ev_rm (d mc ms : Nat) : Room := { frames := 10 + d, cells := mc, slots := ms, locals := 100 + 70 * d }
section EVE
/-! what an entry of the evaluator's program must be, by what stands in the class file -/
def ev_i_int (cc : ByteArray) (own : String) (Ts : List Cond) (pc nx a : Nat) : Prop :=
  (∃ n, decode cc pc = .ok (.iconst n, 1) ∧ Int32.ofInt n = nI a ∧ nx = pc + 1) ∨ (∃ n, decode cc pc = .ok (.bipush n, 2) ∧ (Int8.ofInt n).toInt32 = nI a ∧ nx = pc + 2) ∨ (∃ n, decode cc pc = .ok (.sipush n, 3) ∧ (Int16.ofInt n).toInt32 = nI a ∧ nx = pc + 3) ∨ (∃ (ix : Nat) (v : Int32), decode cc pc = .ok (.ldc ix, 2) ∧ v = nI a ∧ nx = pc + 2 ∧ Cond.constant own ix v ∈ Ts) ∨ (∃ (ix : Nat) (v : Int32), decode cc pc = .ok (.ldc_w ix, 3) ∧ v = nI a ∧ nx = pc + 3 ∧ Cond.constant own ix v ∈ Ts)
def ev_i_wide (cc : ByteArray) (own : String) (Ts : List Cond) (pc nx a b' : Nat) : Prop :=
  ((∃ n : Fin 2, decode cc pc = .ok (.lconst n, 1) ∧ a = 0 ∧ Int64.ofNat (n : Nat) = lN b' ∧ nx = pc + 1) ∨ (decode cc pc = .ok (.dconst 0, 1) ∧ a = 2 ∧ FP.dconst0 = UInt64.ofNat b' ∧ nx = pc + 1)) ∨ ((decode cc pc = .ok (.fconst 0, 1) ∧ a = 1 ∧ FP.fconst0 = UInt32.ofNat b' ∧ nx = pc + 1) ∨ (∃ (ix : Nat) (v : Int64), decode cc pc = .ok (.ldc2_w ix, 3) ∧ a = 0 ∧ v = lN b' ∧ nx = pc + 3 ∧ Cond.constantLong own ix v ∈ Ts))
def ev_i_if (cc : ByteArray) (pc a b' c' : Nat) (f : Jvm.ClassFile.Cond → Int → Instr) : Prop :=
  ∃ off : Int, ((a = 0 ∧ decode cc pc = .ok (f .eq off, 3) ∧ (pc : Int) + off = (b' : Int) ∧ c' = pc + 3) ∨ (a = 0 ∧ decode cc pc = .ok (f .ne off, 3) ∧ (pc : Int) + off = (c' : Int) ∧ b' = pc + 3)) ∨ ((a = 1 ∧ decode cc pc = .ok (f .lt off, 3) ∧ (pc : Int) + off = (b' : Int) ∧ c' = pc + 3) ∨ (a = 1 ∧ decode cc pc = .ok (f .ge off, 3) ∧ (pc : Int) + off = (c' : Int) ∧ b' = pc + 3)) ∨ ((a = 2 ∧ decode cc pc = .ok (f .gt off, 3) ∧ (pc : Int) + off = (b' : Int) ∧ c' = pc + 3) ∨ (a = 2 ∧ decode cc pc = .ok (f .le off, 3) ∧ (pc : Int) + off = (c' : Int) ∧ b' = pc + 3))
def ev_i_st (cc : ByteArray) (nL pc nx a : Nat) (f : Nat → Instr) (g : Fin 4 → Instr) : Prop :=
  ((decode cc pc = .ok (f a, 2) ∧ nx = pc + 2) ∨ (∃ n : Fin 4, decode cc pc = .ok (g n, 1) ∧ (n : Nat) = a ∧ nx = pc + 1)) ∧ a < nL
def ev_i_ld (cc : ByteArray) (pc nx a : Nat) (f : Nat → Instr) (g : Fin 4 → Instr) : Prop :=
  (decode cc pc = .ok (f a, 2) ∧ nx = pc + 2) ∨ (∃ n : Fin 4, decode cc pc = .ok (g n, 1) ∧ (n : Nat) = a ∧ nx = pc + 1)
def ev_i_bin (cc : ByteArray) (pc nx a : Nat) : Prop :=
  ((a = 0 ∧ decode cc pc = .ok (.imul, 1)) ∨ (a = 1 ∧ decode cc pc = .ok (.iand, 1)) ∨ (a = 2 ∧ decode cc pc = .ok (.ior, 1)) ∨ (a = 3 ∧ decode cc pc = .ok (.ixor, 1)) ∨ (a = 4 ∧ decode cc pc = .ok (.ishl, 1)) ∨ (a = 5 ∧ decode cc pc = .ok (.ishr, 1)) ∨ (a = 6 ∧ decode cc pc = .ok (.iushr, 1))) ∧ nx = pc + 1
def ev_i_acmp (cc : ByteArray) (pc b' c' : Nat) : Prop :=
  ∃ off : Int, (decode cc pc = .ok (.if_acmp .eq off, 3) ∧ (pc : Int) + off = (b' : Int) ∧ c' = pc + 3) ∨ (decode cc pc = .ok (.if_acmp .ne off, 3) ∧ (pc : Int) + off = (c' : Int) ∧ b' = pc + 3)
def ev_i_isnull (cc : ByteArray) (pc b' c' : Nat) : Prop :=
  ∃ off : Int, (decode cc pc = .ok (.ifnull off, 3) ∧ (pc : Int) + off = (b' : Int) ∧ c' = pc + 3) ∨ (decode cc pc = .ok (.ifnonnull off, 3) ∧ (pc : Int) + off = (c' : Int) ∧ b' = pc + 3)
def ev_i_getf (cc : ByteArray) (own : String) (Ts : List Cond) (pc nx a b' : Nat) : Prop :=
  ∃ (index : Nat) (C : String) (T : u_T) (N : Nat), decode cc pc = .ok (.getfield index, 3) ∧ nx = pc + 3 ∧ vwCl[a]? = some (C, T, N) ∧ b' < N ∧ (∀ x ∈ u_ws C T N, x ∈ Ts) ∧ ev_fl_ok own (T b').1 (T b').2.1 (T b').2.2.1 index Ts
def ev_i_putf (cc : ByteArray) (own mn : String) (Ts : List Cond) (pc nx a b' c' : Nat) : Prop :=
  ∃ (index : Nat) (C : String) (T : u_T) (N : Nat) (ty0 : Nat → FieldType), decode cc pc = .ok (.putfield index, 3) ∧ nx = pc + 3 ∧ vwCl[a]? = some (C, T, N) ∧ b' < N ∧ (∀ x ∈ u_ws C T N, x ∈ Ts) ∧ (∀ k, k < N → parseFieldDescriptor (T k).2.2.1 = some (ty0 k)) ∧ (∀ x, x < N → ∀ y, y < N → x ≠ y → (T x).2.1 ≠ (T y).2.1) ∧
      ((c' = 0 ∧ ty0 b' = .int) ∨ (c' = 1 ∧ ty0 b' = .boolean) ∨ (c' = 2 ∧ ((∃ C, ty0 b' = .object C) ∨ ∃ t, ty0 b' = .array t)) ∨ (c' = 3 ∧ ty0 b' = .long)) ∧
      (((T b').2.2.2 = false ∧ ev_fl_ok own (T b').1 (T b').2.1 (T b').2.2.1 index Ts) ∨ ((T b').2.2.2 = true ∧ mn = "<init>" ∧ (T b').1 = own ∧ Cond.fieldLink own index (T b').1 (T b').2.1 (T b').2.2.1 ∈ Ts))
def ev_i_ald (cc : ByteArray) (pc nx a b' : Nat) : Prop :=
  ((a = 20 ∧ b' = 20 ∧ decode cc pc = .ok (.iaload, 1)) ∨ (a = 21 ∧ b' = 22 ∧ decode cc pc = .ok (.baload, 1)) ∨ (a = 23 ∧ b' = 23 ∧ decode cc pc = .ok (.laload, 1)) ∨ (a = 24 ∧ b' = 25 ∧ decode cc pc = .ok (.aaload, 1))) ∧ nx = pc + 1
def ev_i_new (cc : ByteArray) (own : String) (Ts : List Cond) (pc nx a b' : Nat) (tg : List Nat) : Prop :=
  ∃ (index : Nat) (C : String) (T : u_T) (N : Nat) (ty0 : Nat → FieldType), decode cc pc = .ok (.new index, 3) ∧ nx = pc + 3 ∧ vwCl[a]? = some (C, T, N) ∧ b' = N ∧ N ≤ 32 ∧ (∀ x ∈ u_ws C T N, x ∈ Ts) ∧ (∀ k, k < N → parseFieldDescriptor (T k).2.2.1 = some (ty0 k)) ∧ (∀ k, k < N → ev_dc (ty0 k) < 3) ∧ tg = (List.range N).map (fun k => ev_dc (ty0 k)) ∧
      Cond.classLink own index C ∈ Ts ∧ Cond.instantiable C N ∈ Ts ∧ Cond.initialized C ∈ Ts
def ev_i_newa (cc : ByteArray) (own : String) (Ts : List Cond) (pc nx a b' : Nat) : Prop :=
  (∃ at9 : ArrayType, decode cc pc = .ok (.newarray at9, 2) ∧ nx = pc + 2 ∧ newarray.typeOf at9 = ev_ty a ∧ 20 ≤ a ∧ a ≤ 23 ∧ b' = ev_dc (ev_ty a) ∧ Cond.arrayClass (newarray.typeOf at9) ∈ Ts) ∨
      (∃ (ix : Nat) (C : String), decode cc pc = .ok (.anewarray ix, 3) ∧ nx = pc + 3 ∧ 24 ≤ a ∧ a ≤ 25 ∧ ev_ty a = .object C ∧ b' = 1 ∧ Cond.classLink own ix C ∈ Ts ∧ Cond.arrayOver (.object C) ∈ lw_tbl)
def ev_i_call (I : Nat → ev_Im) (P : Nat → ev_M) (cc : ByteArray) (own : String) (pc nx a b' c' : Nat) (tg : List Nat) : Prop :=
  ∃ (ix n : Nat), nx = pc + 3 ∧ tg = [(P a).2.1, (P a).2.2.1] ∧ (P a).1 ≤ 51 ∧ b' ≤ (P a).1 ∧ ev_cw (I a) (P a).1 ∈ ev_UW ∧ Cond.initialized (I a).1.cls ∈ ev_UW ∧
    ((I a).1.cls ≠ "java/lang/invoke/MethodHandle" ∧ (I a).1.cls ≠ "java/lang/invoke/VarHandle" ∧ (parseMethodDescriptor (I a).1.desc).map (fun d => d.parameters.length) = some n) ∧ Cond.initialized own ∈ ev_UW ∧
    ((decode cc pc = .ok (.invokevirtual ix, 3) ∧ b' = n + 1 ∧ (∃ (ci : Nat) (rr : vw_C), c' = ci + 1 ∧ vwCl[ci]? = some rr ∧ rr.1 = (I a).1.cls) ∧ (I a).2.2.2 = [] ∧ Cond.methodLink own ix (I a).1 ∈ ev_UW ∧ Cond.instanceMethod (I a).1 ∈ ev_UW ∧ Cond.selects (I a).1.cls (I a).1 (I a).1 ∈ ev_UW) ∨
     (decode cc pc = .ok (.invokestatic ix, 3) ∧ b' = n ∧ c' = 0 ∧ Cond.methodLink own ix (I a).1 ∈ ev_UW ∧ Cond.static (I a).1 ∈ ev_UW) ∨
     (decode cc pc = .ok (.invokespecial ix, 3) ∧ b' = n + 1 ∧ (∃ (ci : Nat) (rr : vw_C), c' = ci + 1 ∧ vwCl[ci]? = some rr) ∧ (I a).2.2.2 = [] ∧ (I a).1.name = "<init>" ∧ (I a).2.2.1 = none ∧ Cond.instanceMethod (I a).1 ∈ ev_UW ∧ (Cond.methodLink own ix (I a).1 ∈ ev_UW ∨ ∃ host, Cond.methodLinkNest own ix (I a).1 host ∈ lw_tbl)))
def ev_i_throw (cc : ByteArray) (own : String) (Ts : List Cond) (Sg : List (String × (Nat × String))) (pc a : Nat) : Prop :=
  ∃ (ik is9 ic : Nat) (text : String), a < 4 ∧ decode cc pc = .ok (.new ik, 3) ∧ decode cc (pc + 3) = .ok (.dup, 1) ∧ ((decode cc (pc + 4) = .ok (.ldc is9, 2) ∧ decode cc (pc + 6) = .ok (.invokespecial ic, 3) ∧ decode cc (pc + 9) = .ok (.athrow, 1)) ∨ (decode cc (pc + 4) = .ok (.ldc_w is9, 3) ∧ decode cc (pc + 7) = .ok (.invokespecial ic, 3) ∧ decode cc (pc + 10) = .ok (.athrow, 1))) ∧
      Cond.classLink own ik (ev_ex a) ∈ Ts ∧ Cond.initialized (ev_ex a) ∈ Ts ∧ (own, (is9, text)) ∈ Sg ∧ (∀ x ∈ (vx_atS own ic (ev_ex a) ["java/lang/RuntimeException", "java/lang/Exception"]).filter goodWord, x ∈ Ts) ∧
      (∀ x ∈ (vx_atS own ic (ev_ex a) ["java/lang/RuntimeException", "java/lang/Exception"]).filter (fun w => !goodWord w), x ∈ lw_tbl ∧ ev_bw x = true ∧ x.onTables = true) ∧
      (∀ x ∈ Cond.classLink own ik (ev_ex a) :: Cond.initialized (ev_ex a) :: vx_atS own ic (ev_ex a) ["java/lang/RuntimeException", "java/lang/Exception"], vx_ot x = true)
def ev_i_switch (cc : ByteArray) (pc a b' c' : Nat) (tg : List Nat) : Prop :=
  ∃ (df lo hi9 : Int) (offs : Array Int) (len : Nat), decode cc pc = .ok (.tableswitch df lo hi9 offs, len) ∧ -2147483648 ≤ lo ∧ -2147483648 ≤ hi9 ∧ a = (lo + 2147483648).toNat ∧ b' = (hi9 + 2147483648).toNat ∧ (pc : Int) + df = (c' : Int) ∧ (∀ (j t : Nat), tg[j]? = some t → ∃ off, offs[j]? = some off ∧ (pc : Int) + off = (t : Int))
def ev_i_cv (cc : ByteArray) (pc nx a : Nat) : Prop :=
  ((a = 0 ∧ decode cc pc = .ok (.i2l, 1)) ∨ (a = 1 ∧ decode cc pc = .ok (.l2i, 1)) ∨ (a = 2 ∧ decode cc pc = .ok (.i2d, 1)) ∨ (a = 3 ∧ decode cc pc = .ok (.i2f, 1)) ∨ (a = 4 ∧ decode cc pc = .ok (.f2d, 1)) ∨ (a = 5 ∧ decode cc pc = .ok (.i2b, 1)) ∨ (a = 6 ∧ decode cc pc = .ok (.i2c, 1))) ∧ nx = pc + 1
def ev_i_w2 (cc : ByteArray) (own : String) (Ts : List Cond) (pc nx a : Nat) : Prop :=
  (((a = 0 ∧ decode cc pc = .ok (.ddiv, 1)) ∨ (a = 1 ∧ decode cc pc = .ok (.fdiv, 1)) ∨ (a = 2 ∧ decode cc pc = .ok (.dcmp .l, 1)) ∨ (a = 3 ∧ decode cc pc = .ok (.dcmp .g, 1)) ∨ (a = 4 ∧ decode cc pc = .ok (.lcmp, 1)) ∨ (a = 5 ∧ decode cc pc = .ok (.lshr, 1)) ∨ (a = 6 ∧ decode cc pc = .ok (.lshl, 1)) ∨ (a = 7 ∧ decode cc pc = .ok (.land, 1)) ∨ (a = 8 ∧ decode cc pc = .ok (.lor, 1))) ∧ nx = pc + 1) ∨
      (∃ ix : Nat, a = 9 ∧ decode cc pc = .ok (.invokestatic ix, 3) ∧ nx = pc + 3 ∧ Cond.methodLink own ix Lib.Math.max.name ∈ Ts ∧ Cond.static Lib.Math.max.name ∈ Ts ∧ Cond.initialized "java/lang/Math" ∈ Ts ∧ Cond.code Lib.Math.max.name Lib.Math.max.code 2 (some .int) ∈ Ts)
def ev_i_objinit (cc : ByteArray) (own : String) (Ts : List Cond) (pc nx : Nat) : Prop :=
  ∃ ix : Nat, decode cc pc = .ok (.invokespecial ix, 3) ∧ nx = pc + 3 ∧ Cond.methodLink own ix Lib.objectInit ∈ Ts ∧ Cond.instanceMethod Lib.objectInit ∈ Ts ∧ Cond.code Lib.objectInit ⟨#[0xb1]⟩ 1 none ∈ Ts
def ev_i_copy (cc : ByteArray) (own : String) (Ts : List Cond) (pc nx : Nat) : Prop :=
  ∃ ix : Nat, decode cc pc = .ok (.invokestatic ix, 3) ∧ nx = pc + 3 ∧ Cond.methodLink own ix arraycopyName ∈ Ts ∧ Cond.native arraycopyName ∈ Ts ∧ Cond.static arraycopyName ∈ Ts ∧ Cond.initialized "java/lang/System" ∈ Ts
def ev_i_idiv (cc : ByteArray) (pc nx a : Nat) : Prop := ((a = 0 ∧ decode cc pc = .ok (.idiv, 1)) ∨ (a = 1 ∧ decode cc pc = .ok (.irem, 1))) ∧ nx = pc + 1
/-- an entry is what the class file has there -/
def ev_eok (I : Nat → ev_Im) (P : Nat → ev_M) (Sg : List (String × (Nat × String))) (Ts : List Cond) (y : MethodName) (cc : ByteArray) (ret : Option FieldType) (nL pc op nx a b' c' : Nat) (tg : List Nat) : Prop :=
  match op with
  | 0 => True
  | 1 => ev_i_int cc y.cls Ts pc nx a
  | 2 => decode cc pc = .ok (.aconst_null, 1) ∧ nx = pc + 1
  | 3 => ev_i_wide cc y.cls Ts pc nx a b'
  | 6 => ev_i_ld cc pc nx a .iload .iload_n
  | 7 => ev_i_ld cc pc nx a .aload .aload_n
  | 8 => decode cc pc = .ok (.dload a, 2) ∧ nx = pc + 2
  | 9 => ev_i_st cc nL pc nx a .istore .istore_n
  | 10 => ev_i_st cc nL pc nx a .astore .astore_n
  | 11 => decode cc pc = .ok (.dstore a, 2) ∧ nx = pc + 2 ∧ a + 1 < nL
  | 12 => ∃ n : Int, decode cc pc = .ok (.iinc a n, 3) ∧ Int32.ofInt n = nI b' ∧ nx = pc + 3 ∧ a < nL
  | 13 => decode cc pc = .ok (.iadd, 1) ∧ nx = pc + 1
  | 14 => decode cc pc = .ok (.isub, 1) ∧ nx = pc + 1
  | 15 => ev_i_bin cc pc nx a
  | 16 => ev_i_if cc pc a b' c' .ifCond
  | 17 => ev_i_if cc pc a b' c' .if_icmp
  | 18 => ev_i_acmp cc pc b' c'
  | 19 => ev_i_isnull cc pc b' c'
  | 20 => ∃ off : Int, decode cc pc = .ok (.goto off, 3) ∧ (pc : Int) + off = (nx : Int)
  | 21 => decode cc pc = .ok (.dup, 1) ∧ nx = pc + 1
  | 22 => decode cc pc = .ok (.dup2, 1) ∧ nx = pc + 1
  | 23 => decode cc pc = .ok (.pop, 1) ∧ nx = pc + 1
  | 24 => ev_i_getf cc y.cls Ts pc nx a b'
  | 25 => ev_i_putf cc y.cls y.name Ts pc nx a b' c'
  | 26 => decode cc pc = .ok (.arraylength, 1) ∧ nx = pc + 1
  | 27 => a = 20 ∧ b' = 20 ∧ decode cc pc = .ok (.iaload, 1) ∧ nx = pc + 1
  | 28 => decode cc pc = .ok (.iastore, 1) ∧ nx = pc + 1
  | 29 => ev_i_ald cc pc nx a b'
  | 30 => decode cc pc = .ok (.bastore, 1) ∧ nx = pc + 1
  | 31 => decode cc pc = .ok (.lastore, 1) ∧ nx = pc + 1
  | 32 => decode cc pc = .ok (.aastore, 1) ∧ nx = pc + 1
  | 33 => ev_i_new cc y.cls Ts pc nx a b' tg
  | 34 => ev_i_newa cc y.cls Ts pc nx a b'
  | 35 => ev_i_call I P cc y.cls pc nx a b' c' tg
  | 36 => ev_i_objinit cc y.cls Ts pc nx
  | 37 => ev_i_throw cc y.cls Ts Sg pc a
  | 38 => decode cc pc = .ok (.return_, 1) ∧ ret = none
  | 39 => decode cc pc = .ok (.ireturn, 1) ∧ ((a = 0 ∧ ret = some .int) ∨ (a = 1 ∧ ret = some .boolean))
  | 40 => decode cc pc = .ok (.areturn, 1) ∧ ∃ rt, ret = some rt ∧ ((∃ n, rt = .object n) ∨ ∃ t, rt = .array t)
  | 41 => (a = 1 ∧ decode cc pc = .ok (.freturn, 1) ∧ ret = some .float) ∨ (a = 2 ∧ decode cc pc = .ok (.dreturn, 1) ∧ ret = some .double)
  | 42 => ev_i_switch cc pc a b' c' tg
  | 43 => ev_i_cv cc pc nx a
  | 44 => ev_i_w2 cc y.cls Ts pc nx a
  | 45 => ev_i_copy cc y.cls Ts pc nx
  | 46 => True
  | 47 => ev_i_idiv cc pc nx a
  | 48 => a = 1 ∧ decode cc pc = .ok (.iand, 1) ∧ nx = pc + 1
  | _ => False
/-- .. wherever the program counter stands -/
def ev_cok (I : Nat → ev_Im) (P : Nat → ev_M) (Sg : List (String × (Nat × String))) (Ts : List Cond) (y : MethodName) (cc : ByteArray) (ret : Option FieldType) (nL : Nat) (code : Nat → ev_E) : Prop :=
  ∀ pc, ev_eok I P Sg Ts y cc ret nL pc (code pc).1 (code pc).2.1 (code pc).2.2.1 (code pc).2.2.2.1 (code pc).2.2.2.2.1 (code pc).2.2.2.2.2
/-- the handlers, with the exceptions' numbers for the places in the class's pool -/
def ev_hok (own : String) (Ts : List Cond) (hh : List (Nat × Nat × Nat × Nat)) (hs : List (Nat × (Nat × (Nat × Nat)))) : Prop :=
  ∃ cn : Nat → Nat, hs = hh.map (fun q => (q.1, (q.2.1, (q.2.2.1, cn q.2.2.2)))) ∧ ∀ q ∈ hh, cn q.2.2.2 < 4 ∧ q.2.2.2 ≠ 0 ∧ Cond.classLink own q.2.2.2 (ev_ex (cn q.2.2.2)) ∈ Ts
/-- a method of the program is what the class file has -/
def ev_mok (I : Nat → ev_Im) (P : Nat → ev_M) (Sg : List (String × (Nat × String))) (i : Nat) : Prop :=
  plainName (I i).1.cls = true ∧ ev_cok I P Sg (ev_wm (I i) (P i).1) (I i).1 (I i).2.1 (I i).2.2.1 (P i).1 (P i).2.2.2.2 ∧ ev_hok (I i).1.cls (ev_wm (I i) (P i).1) (I i).2.2.2 (P i).2.2.2.1 ∧
    ((I i).2.2.2 ≠ [] → ∀ pc, ((P i).2.2.2.2 pc).1 ≠ 37) ∧ ∀ pc, ((P i).2.2.2.2 pc).1 ≠ 46
end EVE
section EVX
variable {D : va_G} {aC : Nat → ClassId} {b B0 L : Nat} {σ : Nat → Int32}
variable {p : Program} {l : Launch} {e : Env} {R : Room} {s : State} {m : MethodId} {args : Array Value} {below : List Frame} {meth : Method} {c : Code} {Q : State → Prop}
variable {cc : ByteArray} {nL : Nat} {Ts : List Cond} {own : String} {Sg : List (String × (Nat × String))}
variable {Φ : ev_P} {M : ev_M} {k : ev_N} {cl : ev_F} {nx a b' c' pc : Nat} {tg : List Nat} {loc : ev_L} {st : List ev_V} {w : ev_W} {r : ev_S}
theorem ev_dle (x y : Nat) : decide (x ≤ y) = Nat.ble x y := by
  cases h : Nat.ble x y with
  | true => exact decide_eq_true (Nat.le_of_ble_eq_true h)
  | false => exact decide_eq_false (fun q => by rw [Nat.ble_eq_true_of_le q] at h; cases h)
theorem ev_sp_ok : ∀ (n : Nat) (acc st As r : List ev_V), ev_sp n acc st = some (As, r) → ∃ t, st = t ++ r ∧ t.length = n ∧ As = t.reverse ++ acc := by
  intro n
  induction n with
  | zero =>
    intro acc st As r h
    have h : some (acc, st) = some (As, r) := h
    cases h
    exact ⟨[], rfl, rfl, rfl⟩
  | succ n ih =>
    intro acc st As r h
    cases st with
    | nil => exact absurd h (fun z => by cases z)
    | cons v t =>
      obtain ⟨t9, h1, h2, h3⟩ := ih (v :: acc) t As r h
      exact ⟨v :: t9, by rw [h1]; rfl, by rw [List.length_cons, h2], by rw [h3]; simp⟩
theorem ev_hd_ok {args : Array Value} {s : State} {own : String} {Ts : List Cond} {cn : Nat → Nat} {E pc : Nat} (hE : E < 4) (ht : ∀ w ∈ Ts, w.before args s = true) (hV : ev_VF D aC Sg s) : ∀ (hh : List (Nat × Nat × Nat × Nat)), (∀ q ∈ hh, cn q.2.2.2 < 4 ∧ q.2.2.2 ≠ 0 ∧ Cond.classLink own q.2.2.2 (ev_ex (cn q.2.2.2)) ∈ Ts) →
    (ev_hd (hh.map (fun q => (q.1, (q.2.1, (q.2.2.1, cn q.2.2.2))))) pc E = none → ∀ z ∈ tableOf hh, covers z pc = false ∨ (z.catchType ≠ 0 ∧ ∃ nm : String, (Cond.classLink own z.catchType nm).before args s = true ∧ va_Nc (ev_ex E) nm s)) ∧
    (∀ hp, ev_hd (hh.map (fun q => (q.1, (q.2.1, (q.2.2.1, cn q.2.2.2))))) pc E = some hp → ∃ (pre : List ExceptionTableEntry) (x : ExceptionTableEntry) (suf : List ExceptionTableEntry), tableOf hh = pre ++ x :: suf ∧ (∀ z ∈ pre, covers z pc = false ∨ (z.catchType ≠ 0 ∧ ∃ nm : String, (Cond.classLink own z.catchType nm).before args s = true ∧ va_Nc (ev_ex E) nm s)) ∧ covers x pc = true ∧ x.catchType ≠ 0 ∧ (Cond.classLink own x.catchType (ev_ex E)).before args s = true ∧ x.handlerPc = hp) := by
  intro hh
  induction hh with
  | nil => exact fun _ => ⟨fun _ z hz => absurd hz List.not_mem_nil, fun hp h => absurd h (fun z => by cases z)⟩
  | cons q t ih =>
    intro hq
    obtain ⟨i1, i2⟩ := ih (fun x hx => hq x (List.mem_cons_of_mem _ hx))
    obtain ⟨q1, q2, q3⟩ := hq q List.mem_cons_self
    have ecov : covers (⟨q.1, q.2.1, q.2.2.1, q.2.2.2⟩ : ExceptionTableEntry) pc = (Nat.ble q.1 pc && Nat.ble (pc + 1) q.2.1) := by
      show (decide (q.1 ≤ pc) && decide (pc + 1 ≤ q.2.1)) = _
      rw [ev_dle, ev_dle]
    have hun : ev_hd ((q :: t).map (fun q => (q.1, (q.2.1, (q.2.2.1, cn q.2.2.2))))) pc E = ev_if (Nat.ble q.1 pc && Nat.ble (pc + 1) q.2.1) (ev_if (Nat.beq (cn q.2.2.2) E) (some q.2.2.1) (ev_hd (t.map (fun q => (q.1, (q.2.1, (q.2.2.1, cn q.2.2.2))))) pc E)) (ev_hd (t.map (fun q => (q.1, (q.2.1, (q.2.2.1, cn q.2.2.2))))) pc E) := rfl
    rw [hun]
    have htab : tableOf (q :: t) = (⟨q.1, q.2.1, q.2.2.1, q.2.2.2⟩ : ExceptionTableEntry) :: tableOf t := rfl
    rw [htab]
    have cons9 : ∀ hp, (covers (⟨q.1, q.2.1, q.2.2.1, q.2.2.2⟩ : ExceptionTableEntry) pc = false ∨ (q.2.2.2 ≠ 0 ∧ ∃ nm : String, (Cond.classLink own q.2.2.2 nm).before args s = true ∧ va_Nc (ev_ex E) nm s)) → ev_hd (t.map (fun q => (q.1, (q.2.1, (q.2.2.1, cn q.2.2.2))))) pc E = some hp →
        ∃ (pre : List ExceptionTableEntry) (x : ExceptionTableEntry) (suf : List ExceptionTableEntry), (⟨q.1, q.2.1, q.2.2.1, q.2.2.2⟩ : ExceptionTableEntry) :: tableOf t = pre ++ x :: suf ∧ (∀ z ∈ pre, covers z pc = false ∨ (z.catchType ≠ 0 ∧ ∃ nm : String, (Cond.classLink own z.catchType nm).before args s = true ∧ va_Nc (ev_ex E) nm s)) ∧ covers x pc = true ∧ x.catchType ≠ 0 ∧ (Cond.classLink own x.catchType (ev_ex E)).before args s = true ∧ x.handlerPc = hp := by
      intro hp h0 h1
      obtain ⟨pre, x, suf, g1, g2, g3⟩ := i2 hp h1
      refine ⟨_ :: pre, x, suf, by rw [g1]; rfl, fun z hz => ?_, g3⟩
      rcases List.mem_cons.mp hz with rfl | hz
      · exact h0
      · exact g2 z hz
    cases c1 : (Nat.ble q.1 pc && Nat.ble (pc + 1) q.2.1) with
    | false =>
      rw [c1] at ecov
      rw [ev_if_f]
      refine ⟨fun h z hz => ?_, fun hp h => cons9 hp (Or.inl ecov) h⟩
      rcases List.mem_cons.mp hz with rfl | hz
      · exact Or.inl ecov
      · exact i1 h z hz
    | true =>
      rw [c1] at ecov
      rw [ev_if_t]
      cases c2 : Nat.beq (cn q.2.2.2) E with
      | true =>
        rw [ev_if_t]
        have c2 := Nat.eq_of_beq_eq_true c2
        refine ⟨fun h => absurd h (fun z => by cases z), fun hp h => ?_⟩
        have h := Option.some.inj h
        refine ⟨[], _, tableOf t, rfl, fun z hz => absurd hz List.not_mem_nil, ecov, q2, ?_, h⟩
        rw [← c2]
        exact ht _ q3
      | false =>
        rw [ev_if_f]
        have c2 := Nat.ne_of_beq_eq_false c2
        have h0 : covers (⟨q.1, q.2.1, q.2.2.1, q.2.2.2⟩ : ExceptionTableEntry) pc = false ∨ (q.2.2.2 ≠ 0 ∧ ∃ nm : String, (Cond.classLink own q.2.2.2 nm).before args s = true ∧ va_Nc (ev_ex E) nm s) := Or.inr ⟨q2, _, ht _ q3, hV.2.2.2 E _ hE q1 (fun z => c2 z.symm)⟩
        refine ⟨fun h z hz => ?_, fun hp h => cons9 hp h0 h⟩
        rcases List.mem_cons.mp hz with rfl | hz
        · exact h0
        · exact i1 h z hz
end EVX
end
section
/-! ===== System.arraycopy, the call of a method, a whole frame (own work) ===== -/
section EVY
variable {D : va_G} {aC : Nat → ClassId} {b B0 L : Nat} {σ : Nat → Int32}
variable {p : Program} {l : Launch} {e : Env} {R : Room} {s : State} {m : MethodId} {args : Array Value} {below : List Frame} {meth : Method} {c : Code} {Q : State → Prop}
variable {cc : ByteArray} {nL : Nat} {Ts : List Cond} {own : String} {Sg : List (String × (Nat × String))}
variable {Φ : ev_P} {M : ev_M} {k : ev_N} {cl : ev_F} {nx a b' c' pc : Nat} {tg : List Nat} {loc : ev_L} {st : List ev_V} {w : ev_W} {r : ev_S}
theorem ev_cpy_ok {f g : List (List ev_V)} : ∀ (n : Nat) (h : List (List ev_V)), ev_cpy n f g = some h → (∀ i, i < n → ∃ v, ev_get f i = some v ∧ ev_ii v = true) ∧ ∀ j, ev_get h j = if j < n then ev_get f j else ev_get g j := by
  intro n
  induction n with
  | zero =>
    intro h hh
    have hh : some g = some h := hh
    cases hh
    exact ⟨fun i hi => absurd hi (Nat.not_lt_zero i), fun j => by rw [if_neg (Nat.not_lt_zero j)]⟩
  | succ n ih =>
    intro h hh
    have hh : (match ev_cpy n f g, ev_get f n with
      | some h, some v => ev_if (ev_ii v) (ev_sto h n v) none
      | _, _ => none) = some h := hh
    split at hh
    · next h9 v h1 h2 =>
      obtain ⟨h3, hh⟩ := ev_if_n hh
      obtain ⟨i1, i2⟩ := ih h9 h1
      obtain ⟨-, i3⟩ := ev_sto_ok hh
      refine ⟨fun i hi => ?_, fun j => ?_⟩
      · by_cases e : i = n
        · subst e
          exact ⟨v, h2, h3⟩
        · exact i1 i (by omega)
      · rw [i3, i2]
        by_cases e : j = n
        · subst e
          rw [if_pos rfl, if_pos (Nat.lt_succ_self j), h2]
        · rw [if_neg e]
          by_cases e2 : j < n
          · rw [if_pos e2, if_pos (by omega)]
          · rw [if_neg e2, if_neg (by omega)]
    · cases hh
theorem ev_o_copy (hF : ev_Fx D aC b B0 L σ p s m args meth c cc nL Ts own Sg) (hR : 1 ≤ R.frames ∧ 100 ≤ R.locals) (hk : ∀ pc loc st w, k pc loc st w = some r → ev_Go D aC b B0 σ p l e R s m args below meth c Q nL pc loc st w) (h : ev_h_copy Φ M k cl nx a b' c' tg pc loc st w = some r)
    (hi : ev_i_copy cc own Ts pc nx) : ev_Go D aC b B0 σ p l e R s m args below meth c Q nL pc loc st w := by
  obtain ⟨hx, hb, hml, ho, ht, hV, -⟩ := id hF
  obtain ⟨ix, d, rfl, w1, w2, w3, w4⟩ := hi
  unfold ev_h_copy at h
  split at h
  · next n i i0 rr =>
    split at h
    · next q q0 hq hq0 =>
      obtain ⟨h1, h⟩ := ev_if_n h
      simp only [Bool.and_eq_true] at h1
      obtain ⟨h1, h2, h3, h4, h5, h6, h7⟩ := h1
      have k1 := Nat.eq_of_beq_eq_true h1
      have k2 := Nat.eq_of_beq_eq_true h2
      have k3 := Nat.le_of_ble_eq_true h3
      have k4 := Nat.le_of_ble_eq_true h4
      have k5 := Nat.le_of_ble_eq_true h5
      have k6 := Nat.le_of_ble_eq_true h6
      have k7 := Nat.le_of_ble_eq_true h7
      have k8 := ev_cs_ok (b := b) (B0 := B0) (σ := σ) rr
      split at h
      · next z hz =>
        split at h
        · next x hx9 =>
          obtain ⟨c1, c2⟩ := ev_cpy_ok n z hz
          obtain ⟨-, hx9⟩ := ev_sto_ok hx9
          intro H locs ls hl hJ hS
          obtain ⟨hi9, g1⟩ := ev_J_arr hJ hq (by omega) (by omega)
          obtain ⟨hi0, g0⟩ := ev_J_arr hJ hq0 (by omega) (by omega)
          have e1 : ∀ {n : Nat}, n < 1000000 → ev_dn b B0 σ (.inr (.inl (some n))) = .ref (B0 + n) := fun hn => by
            show Value.ref _ = _
            rw [ev_ad_w hn]
          simp only [List.map_cons]
          rw [e1 hi9, e1 hi0]
          have e5 : (nI n).toNatClampNeg = n := nI_clamp (by omega)
          have e50 : (nI 0).toNatClampNeg = 0 := nI_clamp (by omega)
          have e6 : (nI n).toInt = n := nI_toInt (by omega)
          have e60 : (nI 0).toInt = 0 := nI_toInt (n := 0) (by omega)
          intro T hT X
          obtain ⟨-, kk0, hk0, cm0, hkk0⟩ := (ev_tys_of hV (k := 20) (by omega) (by omega)).1 q0.2.1 (ev_fv b B0 σ q0.2.2)
          obtain ⟨-, kk1, hk1, cm1, hkk1⟩ := (ev_tys_of hV (k := 20) (by omega) (by omega)).1 q.2.1 (ev_fv b B0 σ q.2.2)
          rw [k1] at g1
          rw [k2] at g0
          have hread : ∀ i, i < n → (arrV (aC 20) q0.2.1 (ev_fv b B0 σ q0.2.2)).slots.getD ((nI 0).toNatClampNeg + i) .null = ev_fv b B0 σ q0.2.2 i := fun i hi => by
            rw [e50, Nat.zero_add, Array.getD_eq_getD_getElem?, arrV_read _ _ (by omega)]
            rfl
          have hint : ∀ i, i < n → ∃ y, ev_fv b B0 σ q0.2.2 i = .int y := fun i hi => by
            obtain ⟨v, v1, v2⟩ := c1 i hi
            obtain ⟨y, ey⟩ := ev_dn_i (b := b) (B0 := B0) (σ := σ) v2
            refine ⟨y, ?_⟩
            unfold ev_fv
            rw [v1]
            exact ey
          obtain ⟨vm', X', step⟩ := X.arraycopy hx ho (ht _ w1) (ht _ w2) (ht _ w3) (ht _ w4) (src := B0 + i0) (dst := B0 + i) (cs := arrV (aC 20) q0.2.1 (ev_fv b B0 σ q0.2.2)) (cd := arrV (aC 20) q.2.1 (ev_fv b B0 σ q.2.2)) (srcPos := nI 0) (destPos := nI 0) (n := nI n) (by rw [hT]; exact g0) (by rw [hT]; exact g1)
            (fun _ h => by cases h) (fun _ h => by cases h) (fun h => by cases h) (fun h => by cases h) hk0 hk1 hkk0 hkk1 (by rfl) (nI_pos (n := 0) (by omega)) (nI_pos (n := 0) (by omega)) (nI_pos (n := n) (by omega))
            (by rw [e60, e6, arrV_size]; omega) (by rw [e60, e6, arrV_size]; omega)
            (fun vm₁ _ i hi => by
              rw [e5] at hi
              obtain ⟨y, ey⟩ := hint i hi
              rw [hread i hi, ey]
              exact ⟨rfl, trivial⟩)
            (g := F0 m pc ls (.int (nI n) :: .int (nI 0) :: .ref (B0 + i) :: .int (nI 0) :: .ref (B0 + i0) :: rr.map (ev_dn b B0 σ))) rfl (by rw [hml]; exact hl.1) (rest := rr.map (ev_dn b B0 σ)) rfl (by rw [hb]; exact d) hR.1 (by
              have : nativeFrameWords "java/lang/System" "arraycopy" 5 + 11 ≤ 90 := by decide +kernel
              show 2 * 0 + _ + _ ≤ _
              omega)
          have ecop : copied (arrV (aC 20) q0.2.1 (ev_fv b B0 σ q0.2.2)) (arrV (aC 20) q.2.1 (ev_fv b B0 σ q.2.2)) (nI 0) (nI 0) (nI n) = arrV (aC 20) q.2.1 (ev_fv b B0 σ z) := by
            have h9 := va_copied (fun v : Value => v) (aC 20) (aC 20) (n0 := q0.2.1) (n1 := q.2.1) (sp := (nI 0).toNatClampNeg) (dp := (nI 0).toNatClampNeg) (n := (nI n).toNatClampNeg) (ev_fv b B0 σ q0.2.2) (ev_fv b B0 σ q.2.2) (by rw [e50, e5]; omega)
            refine h9.trans (ev_arr_to fun j hj => ?_)
            show va_cpy _ _ _ _ _ j = _
            unfold va_cpy
            rw [e50, e5]
            unfold ev_fv
            rw [c2]
            by_cases hjn : j < n
            · rw [if_pos ⟨Nat.zero_le j, by omega⟩, if_pos hjn, Nat.zero_add, Nat.sub_zero]
            · rw [if_neg (by omega), if_neg hjn]
          rw [ecop] at X' step
          have hlt : B0 + i < H.size := (Array.getElem?_eq_some_iff.mp g1).1
          have hheap : ((T.setVm vm').setCell (B0 + i) (arrV (aC 20) q.2.1 (ev_fv b B0 σ z))).heap = H.setIfInBounds (B0 + i) (arrV (aC 20) q.2.1 (ev_fv b B0 σ z)) := by rw [← hT]; rfl
          have oq : ∀ y : Nat, y ≠ B0 + i → (H.setIfInBounds (B0 + i) (arrV (aC 20) q.2.1 (ev_fv b B0 σ z)))[y]? = H[y]? := fun y hy => by simp [Array.getElem?_setIfInBounds, Ne.symm hy]
          have hself : (H.setIfInBounds (B0 + i) (arrV (aC 20) q.2.1 (ev_fv b B0 σ z)))[B0 + i]? = some (arrV (aC 20) q.2.1 (ev_fv b B0 σ z)) := by simp [Array.getElem?_setIfInBounds, hlt]
          have hzz : (H.setIfInBounds (B0 + i) (arrV (aC 20) q.2.1 (ev_fv b B0 σ z))).size = H.size := by simp
          obtain ⟨t, a1, b1⟩ := hk _ _ _ _ h _ _ ls hl (ev_J_set hJ hq hx9 (Or.inr (Or.inr ⟨by show 20 ≤ q.1; omega, by show q.1 ≤ 25; omega, by rw [hself, k1]⟩)) hzz oq)
            ⟨by rw [hzz]; exact hS.1, fun y g1 g2 => by
              rw [oq y (fun e => g2 (by rw [e]; exact Nat.le_add_right _ _))]
              exact hS.2.1 y g1 g2, fun y hy => by
              rcases List.mem_append.mp hy with h | h
              · exact hS.2.2 y h
              · obtain ⟨z, -, hz⟩ := List.mem_map.mp h
                rw [← hz]
                exact Nat.le_add_right _ _⟩ _ hheap X'
          exact ⟨t, step t a1, b1⟩
        · cases h
      · cases h
    · cases h
  · cases h
end EVY
end
section
/-! ===== the evaluator is right: a run of it is a run of the machine (own work) ===== -/
section EVZ
variable {D : va_G} {aC : Nat → ClassId} {b B0 L : Nat} {σ : Nat → Int32}
variable {p : Program} {l : Launch} {e : Env} {R : Room} {s : State} {m : MethodId} {args : Array Value} {below : List Frame} {meth : Method} {c : Code} {Q : State → Prop}
variable {cc : ByteArray} {nL : Nat} {Ts : List Cond} {own : String} {Sg : List (String × (Nat × String))}
variable {Φ : ev_P} {M : ev_M} {k : ev_N} {cl : ev_F} {nx a b' c' pc : Nat} {tg : List Nat} {loc : ev_L} {st : List ev_V} {w : ev_W} {r : ev_S}
variable {I : Nat → ev_Im} {P : Nat → ev_M}
/-- an exception leaves this frame well -/
def ev_Out (D : va_G) (aC : Nat → ClassId) (b B0 : Nat) (σ : Nat → Int32) (p : Program) (l : Launch) (e : Env) (R : Room) (s : State) (m : MethodId) (args : Array Value) (below : List Frame) (meth : Method) (c : Code) (Q : State → Prop) (own : String) (M : ev_M) (r : ev_S) : Prop :=
  ∀ (E : Nat) (w : ev_W) (H : Heap) (locs : List Loc) (ls : Array Slot) (rest : List Value) (pc q : Nat) (ce : Cell), E < 4 → r = .inr (.inl (E, w)) → ev_may M w 0 0 = true → ev_J D aC b B0 σ w H → va_S (fun q => B0 ≤ q) s.heap H locs →
    (∀ z ∈ c.exceptionTable.toList, covers z pc = false ∨ (z.catchType ≠ 0 ∧ ∃ nm : String, (Cond.classLink own z.catchType nm).before args s = true ∧ va_Nc (ev_ex E) nm s)) → H[q]? = some ce → ce.vm = .none → s.vm.findClass (ev_ex E) = some ce.cls →
    vx_W p l e R s m args below meth c H locs w.2.2.2.1 w.2.2.2.2 Q (F0 m pc ls rest) q
theorem ev_exc_ok {hh : List (Nat × Nat × Nat × Nat)} {E : Nat} {H : Heap} {locs : List Loc} {ls : Array Slot} {rest : List Value} {q : Nat} {ce : Cell} (hF : ev_Fx D aC b B0 L σ p s m args meth c cc nL Ts own Sg) (hcast : ∀ i, i < 4 → Cond.castable (ev_ex i) (ev_ex i) ∈ lw_tbl)
    (hk : ∀ pc loc st w, k pc loc st w = some r → ev_Go D aC b B0 σ p l e R s m args below meth c Q nL pc loc st w) (hst : ∀ pc nx a tg, (M.2.2.2.2 pc) = (10, (nx, (a, tg))) → ev_i_st cc nL pc nx a .astore .astore_n) (hh9 : ev_hok own Ts hh M.2.2.2.1) (hT : c.exceptionTable.toList = tableOf hh)
    (hOut : ev_Out D aC b B0 σ p l e R s m args below meth c Q own M r) (h : ev_exc M k pc E loc w = some r) (hE : E < 4) (hl : ev_lh b B0 σ nL loc ls) (hJ : ev_J D aC b B0 σ w H) (hS : va_S (fun q => B0 ≤ q) s.heap H locs) (hq : H[q]? = some ce) (hv : ce.vm = .none) (hcl : s.vm.findClass (ev_ex E) = some ce.cls) :
    vx_W p l e R s m args below meth c H locs w.2.2.2.1 w.2.2.2.2 Q (F0 m pc ls rest) q := by
  obtain ⟨hx, hb, hml, ho, ht, hV, -⟩ := id hF
  obtain ⟨cn, e1, e2⟩ := hh9
  obtain ⟨f1, f2⟩ := ev_hd_ok (cn := cn) (E := E) (pc := pc) hE ht hV hh e2
  unfold ev_exc at h
  rw [e1] at h
  split at h
  · next hn =>
    obtain ⟨h1, h⟩ := ev_if_n h
    exact hOut E w H locs ls rest pc q ce hE (Option.some.inj h).symm h1 hJ hS (by rw [hT]; exact f1 hn) hq hv hcl
  · next hp hn =>
    split at h
    next op nx9 a9 tg9 hcode =>
    obtain ⟨h1, h9⟩ := ev_if_n h
    rw [Bool.and_eq_true] at h1
    have hop := Nat.eq_of_beq_eq_true h1.1
    subst hop
    obtain ⟨hi, ha⟩ := hst hp nx9 a9 tg9 hcode
    obtain ⟨pre, x, suf, g1, g2, g3, g4, g5, g6⟩ := f2 hp hn
    refine vx_catch ho pre x suf (by rw [hT]; exact g1) g2 g3 g4 g5 (va_Nw.use rfl (hV.2.1 _ (hcast E hE) rfl)) hq hv hcl ?_
    rw [g6]
    have go : ∀ ls' : Array Slot, lv_has ls' nL ((a9, Value.ref q) :: (ev_ll b B0 σ loc).filter (fun q => !(q.1 == a9) && !(q.1 + 1 == a9 && q.2.category == 2))) → W p l e R s m args below meth c H locs w.2.2.2.1 w.2.2.2.2 Q (F0 m nx9 ls' []) :=
      fun ls' h' => hk _ _ _ _ h9 H locs ls' (ev_lh_st1 (o := none) h1.2 (fun v' e' => by cases e') h') hJ hS
    rcases hi with ⟨d, rfl⟩ | ⟨n, d, hn, rfl⟩
    · exact lv_astore hx hb d (ev_lh_has hl) ha rfl go
    · exact lv_astore_n hx hb d hn (ev_lh_has hl) ha rfl go
theorem ev_rc_ok {ci : Nat} {As : List ev_V} (h : ev_rc (ci + 1) As w = true) : ∃ i As' q, As = .inr (.inl (some i)) :: As' ∧ ev_get w.1 i = some q ∧ q.1 = ci := by
  match As, h with
  | .inr (.inl (some i)) :: As', h =>
    have h : (match ev_get w.1 i with
      | some q => Nat.beq q.1 ci
      | none => false) = true := h
    cases hq : ev_get w.1 i with
    | none => rw [hq] at h; cases h
    | some q => rw [hq] at h; exact ⟨i, As', q, rfl, hq, Nat.eq_of_beq_eq_true h⟩
  | [], h => exact absurd h (fun z => by cases z)
  | .inl _ :: _, h => exact absurd h (fun z => by cases z)
  | .inr (.inl none) :: _, h => exact absurd h (fun z => by cases z)
  | .inr (.inr _) :: _, h => exact absurd h (fun z => by cases z)
theorem ev_uw {x : Cond} (h : x ∈ ev_UW) : x ∈ lw_tbl ∧ goodWord x = true := List.mem_filter.mp h
theorem ev_good {ws : List Cond} (hTs : ∀ x ∈ ev_UW, x ∈ Ts) (h : ∀ x ∈ ws, x ∈ ev_UW) : GoodIn Ts ws := fun x hx => ⟨hTs x (h x hx), good_of_word (ev_uw (h x hx)).2⟩
theorem ev_wm_in {x : ev_Im} {n : Nat} (h : ev_cw x n ∈ ev_UW) : ∀ y ∈ ev_wm x n, y ∈ ev_UW := fun y hy => by
  rcases List.mem_cons.mp hy with rfl | hy
  · exact h
  · exact hy
theorem ev_o_call {hh : List (Nat × Nat × Nat × Nat)} {d : Nat} (hF : ev_Fx D aC b B0 L σ p s m args meth c cc nL Ts own Sg) (hcast : ∀ i, i < 4 → Cond.castable (ev_ex i) (ev_ex i) ∈ lw_tbl) (hTs : ∀ x ∈ ev_UW, x ∈ Ts) (hR : 11 + d ≤ R.frames ∧ 170 + 70 * d ≤ R.locals) (hMR : M.2.1 ≤ R.cells ∧ M.2.2.1 ≤ R.slots)
    (hk : ∀ pc loc st w, k pc loc st w = some r → ev_Go D aC b B0 σ p l e R s m args below meth c Q nL pc loc st w) (hst : ∀ pc nx a tg, (M.2.2.2.2 pc) = (10, (nx, (a, tg))) → ev_i_st cc nL pc nx a .astore .astore_n) (hh9 : ev_hok own Ts hh M.2.2.2.1) (hT : c.exceptionTable.toList = tableOf hh)
    (hOut : ev_Out D aC b B0 σ p l e R s m args below meth c Q own M r)
    (hM : ∀ (As : List ev_V) (w : ev_W) (r2 : ev_S), cl a As w = some r2 → As.length ≤ (P a).1 → As.all (fun v => !ev_wide v) = true → w.2.2.2 = (0, 0) → vx_Met l (I a).1 (ev_wm (I a) (P a).1) (ev_rm d (P a).2.1 (P a).2.2.1) (ev_Pc D aC b B0 L σ Sg As w) (ev_Qc D aC b B0 σ r2) (ev_Xc D aC b B0 σ r2) (P a).2.1 (P a).2.2.1 (fun q => B0 ≤ q))
    (h : ev_h_call Φ M k cl nx a b' c' tg pc loc st w = some r) (hi : ev_i_call I P cc own pc nx a b' c' tg) : ev_Go D aC b B0 σ p l e R s m args below meth c Q nL pc loc st w := by
  obtain ⟨hx, hb, hml, ho, ht, hV, hZ, hbB, hB, hlk⟩ := id hF
  obtain ⟨ix, n, rfl, rfl, hm51, hbP, hcw, hini, hnm, hown9, hi⟩ := hi
  unfold ev_h_call at h
  split at h
  · next As rr hsp =>
    obtain ⟨tk, t1, t2, t3⟩ := ev_sp_ok _ _ _ _ _ hsp
    rw [List.append_nil] at t3
    have h : ev_if (Nat.ble (ev_cs rr) 8 && (ev_may M w (P a).2.1 (P a).2.2.1 && As.all (fun v => !ev_wide v))) (ev_if (ev_rc c' As w) (ev_cont M k (pc + 3) pc loc rr w (P a).2.1 (P a).2.2.1 (cl a As (w.1, (w.2.1, (w.2.2.1, (0, 0)))))) none) none = some r := h
    obtain ⟨h1, h⟩ := ev_if_n h
    obtain ⟨h2, h⟩ := ev_if_n h
    rw [Bool.and_eq_true, Bool.and_eq_true] at h1
    have k1 := Nat.le_of_ble_eq_true h1.1
    have k2 := ev_cs_ok (b := b) (B0 := B0) (σ := σ) rr
    have k3 := ev_may_ok h1.2.1 hMR
    obtain ⟨r2, hr2⟩ : ∃ r2, cl a As (w.1, (w.2.1, (w.2.2.1, (0, 0)))) = some r2 := by
      cases hc : cl a As (w.1, (w.2.1, (w.2.2.1, (0, 0)))) with
      | none => rw [hc] at h; cases h
      | some r2 => exact ⟨r2, rfl⟩
    rw [hr2] at h
    have hlen : As.length = b' := by rw [t3, List.length_reverse, t2]
    have hMet := hM As _ r2 hr2 (by rw [hlen]; exact hbP) h1.2.2 rfl
    intro H locs ls hl hJ hS
    have hPc : ∀ U : State, U.heap = H → s.WarmedH U.vm → ev_Pc D aC b B0 L σ Sg As (w.1, (w.2.1, (w.2.2.1, (0, 0)))) (As.map (ev_dn b B0 σ)).toArray U := fun U hU hW =>
      ⟨rfl, by rw [hU]; exact hJ, ev_VF_warm hW hV, by rw [hU]; exact ev_ZF_to hbB hW.alike hZ hS, hbB, by rw [hU]; exact Nat.le_trans (Nat.le_add_right _ _) hJ.2.1⟩
    have hret : ∀ vo w2 (H1 : Heap) (locs1 : List Loc), r2 = .inl (vo, w2) → ev_J D aC b B0 σ w2 H1 → va_S (fun q => B0 ≤ q) s.heap H1 locs1 → W p l e R s m args below meth c H1 locs1 (w.2.2.2.1 + (P a).2.1) (w.2.2.2.2 + (P a).2.2.1) Q (F0 m (pc + 3) ls ((vo.map (ev_dn b B0 σ)).toList ++ rr.map (ev_dn b B0 σ))) := by
      intro vo w2 H1 locs1 e1 g1 g2
      subst e1
      cases vo with
      | none => exact hk _ _ _ _ h H1 locs1 ls hl g1 g2
      | some v => exact hk _ _ _ _ h H1 locs1 ls hl g1 g2
    have hthr : ∀ n w2 (H1 : Heap) (locs1 : List Loc) (q : Nat) (ce : Cell), r2 = .inr (.inl (n, w2)) → n < 4 → ev_J D aC b B0 σ w2 H1 → va_S (fun q => B0 ≤ q) s.heap H1 locs1 → H1[q]? = some ce → ce.vm = .none → s.vm.findClass (ev_ex n) = some ce.cls → vx_W p l e R s m args below meth c H1 locs1 (w.2.2.2.1 + (P a).2.1) (w.2.2.2.2 + (P a).2.2.1) Q (F0 m pc ls (rr.map (ev_dn b B0 σ))) q := by
      intro n w2 H1 locs1 q ce e1 hn4 g1 g2 g3 g4 g5
      subst e1
      exact ev_exc_ok (w := ev_back w w2 (P a).2.1 (P a).2.2.1) hF hcast hk hst hh9 hT hOut h hn4 hl g1 g2 g3 g4 g5
    have hstack : st.map (ev_dn b B0 σ) = (As.map (ev_dn b B0 σ)).reverse ++ rr.map (ev_dn b B0 σ) := by
      rw [t1, t3, List.map_append, List.map_reverse, List.reverse_reverse]
    have hW9 : 2 * (F0 m pc ls (st.map (ev_dn b B0 σ))).monitorRoom + ((rr.map (ev_dn b B0 σ)).map fun v => v.category).sum ≤ 8 := by
      show 2 * 0 + _ ≤ 8
      omega
    have hGood : GoodIn Ts (ev_wm (I a) (P a).1) := ev_good hTs (ev_wm_in hcw)
    have hroom : (ev_rm d (P a).2.1 (P a).2.2.1).frames + 1 ≤ R.frames ∧ 8 + ((P a).1 + 11) + (ev_rm d (P a).2.1 (P a).2.2.1).locals ≤ R.locals := by
      show 10 + d + 1 ≤ _ ∧ 8 + ((P a).1 + 11) + (100 + 70 * d) ≤ _
      omega
    have hsize : ls.size = nL := hl.1
    have hini9 := ht _ (hTs _ hini)
    have hfix : CallFix p m c cc nL s args Ts own := ⟨hx, hb, hml, ho, ht⟩
    have hrecv : ∀ ci rr9, c' = ci + 1 → vwCl[ci]? = some rr9 → ∃ i As', As = .inr (.inl (some i)) :: As' ∧ i < 1000000 ∧ ∃ cell : Cell, H[B0 + i]? = some cell ∧ cell.cls = D.1 ci ∧ cell.vm = .none := by
      intro ci rr9 e1 e2
      subst e1
      obtain ⟨i, As', q, rfl, hq, e3⟩ := ev_rc_ok h2
      subst e3
      obtain ⟨g1, cell, g2, g3, g4, -⟩ := ev_J_obj hJ hq e2
      exact ⟨i, As', rfl, g1, cell, g2, g3, g4⟩
    have e1 : ∀ {n : Nat}, n < 1000000 → ev_dn b B0 σ (.inr (.inl (some n))) = .ref (B0 + n) := fun hn => by
      show Value.ref _ = _
      rw [ev_ad_w hn]
    have hparam : ∀ sig, parseMethodDescriptor (I a).1.desc = some sig → n = sig.parameters.length := fun sig h9 => by
      have h8 := hnm.2.2
      rw [h9] at h8
      exact (Option.some.inj h8).symm
    rcases hi with ⟨dd, hb1, ⟨ci, rr9, hc1, hci, hcn⟩, hhe, w1, w2, w3⟩ | ⟨dd, hb1, hc1, w1, w2⟩ | ⟨dd, hb1, ⟨ci, rr9, hc1, hci⟩, hhe, hn1, hn2, w2, w1⟩
    · obtain ⟨i, As', rfl, hi6, cell, g2, g3, g4⟩ := hrecv ci rr9 hc1 hci
      have hlen' : As'.length = n := by
        have := hlen
        rw [List.length_cons] at this
        omega
      have hcw9 : ev_wm (I a) (P a).1 = Cond.code (I a).1 (I a).2.1 (P a).1 (I a).2.2.1 :: ev_UW := by
        unfold ev_wm ev_cw
        rw [hhe]
      have hfc : s.vm.findClass (I a).1.cls = some cell.cls := by
        rw [g3, ← hcn]
        exact (hV.1.1 ci _ hci).2.1
      have hrun := vx_runV (R := R) (l := l) (e := e) (below := below) (meth := meth) (H := H) (locs := locs) (cells := w.2.2.2.1) (slots := w.2.2.2.2) (g := F0 m pc ls (st.map (ev_dn b B0 σ))) (As := As'.map (ev_dn b B0 σ)) (rest := rr.map (ev_dn b B0 σ)) (b := B0 + i) (C := (I a).1.cls) (index := ix) (n := n) (bytes := (I a).2.1) (maxL := (P a).1) (ret := (I a).2.2.1) hfix hMet
        ⟨callB_of n ht hGood hcw9 rfl rfl hini9 (ht _ (hTs _ w1)) hnm hroom, ht _ (hTs _ w2), ht _ (hTs _ w3)⟩
        ⟨ev_Pc_blind, ⟨cell, g2, by rw [g4]; rfl, hfc⟩, fun U hU hW => by
          have := hPc U hU hW
          rw [List.map_cons, e1 hi6] at this
          exact this⟩ rfl (by rw [List.length_map]; exact hlen') hsize (by
          show st.map (ev_dn b B0 σ) = _
          rw [hstack, List.map_cons, e1 hi6, List.reverse_cons, List.append_assoc]
          rfl) hW9 dd k3
      exact ev_call_end hS hrun hret hthr
    · have hlen' : As.length = n := hlen.trans hb1
      by_cases hhe : (I a).2.2.2 = []
      · have hcw9 : ev_wm (I a) (P a).1 = Cond.code (I a).1 (I a).2.1 (P a).1 (I a).2.2.1 :: ev_UW := by
          unfold ev_wm ev_cw
          rw [hhe]
        have hrun := vx_runS (R := R) (l := l) (e := e) (below := below) (meth := meth) (H := H) (locs := locs) (cells := w.2.2.2.1) (slots := w.2.2.2.2) (g := F0 m pc ls (st.map (ev_dn b B0 σ))) (As := As.map (ev_dn b B0 σ)) (rest := rr.map (ev_dn b B0 σ)) (index := ix) (n := n) (bytes := (I a).2.1) (maxL := (P a).1) (ret := (I a).2.2.1) hfix hMet
          ⟨callB_of n ht hGood hcw9 rfl rfl hini9 (ht _ (hTs _ w1)) hnm hroom, ht _ (hTs _ w2)⟩
          ⟨ev_Pc_blind, hPc⟩ rfl (by rw [List.length_map]; exact hlen') hsize hstack hW9 dd k3
        exact ev_call_end hS hrun hret hthr
      · obtain ⟨q9, t9, hq9⟩ : ∃ q t, (I a).2.2.2 = q :: t := by
          cases hz : (I a).2.2.2 with
          | nil => exact absurd hz hhe
          | cons q t => exact ⟨q, t, rfl⟩
        have hcw9 : ev_wm (I a) (P a).1 = Cond.codeWith (I a).1 (I a).2.1 (P a).1 (I a).2.2.1 (q9 :: t9) :: ev_UW := by
          unfold ev_wm ev_cw
          rw [hq9]
        have hc9 : Cond.codeWith (I a).1 (I a).2.1 (P a).1 (I a).2.2.1 (q9 :: t9) ∈ ev_wm (I a) (P a).1 := by rw [hcw9]; exact List.mem_cons_self
        have hrun := vx_runSX (R := R) (l := l) (e := e) (below := below) (meth := meth) (H := H) (locs := locs) (cells := w.2.2.2.1) (slots := w.2.2.2.2) (g := F0 m pc ls (st.map (ev_dn b B0 σ))) (As := As.map (ev_dn b B0 σ)) (rest := rr.map (ev_dn b B0 σ)) (index := ix) (n := n) (bytes := (I a).2.1) (maxL := (P a).1) (ret := (I a).2.2.1) (hh := q9 :: t9) hfix hMet
          ⟨⟨rfl, rfl, hroom.1, hroom.2, pay_in ht hGood, hc9⟩, ht _ (hGood _ hc9).1, hini9, ⟨hnm.1, hnm.2.1⟩, hparam, ht _ (hTs _ w1), ht _ (hTs _ w2)⟩
          ⟨ev_Pc_blind, hPc⟩ rfl (by rw [List.length_map]; exact hlen') hsize hstack hW9 dd k3
        exact ev_call_end hS hrun hret hthr
    · obtain ⟨i, As', rfl, hi6, cell, g2, g3, g4⟩ := hrecv ci rr9 hc1 hci
      have hlen' : As'.length = n := by
        have := hlen
        rw [List.length_cons] at this
        omega
      have hcw9 : ev_wm (I a) (P a).1 = Cond.code (I a).1 (I a).2.1 (P a).1 none :: ev_UW := by
        unfold ev_wm ev_cw
        rw [hhe, hn2]
      have hpre : PreS s H (ev_Pc D aC b B0 L σ Sg (.inr (.inl (some i)) :: As') (w.1, (w.2.1, (w.2.2.1, (0, 0))))) (.ref (B0 + i) :: As'.map (ev_dn b B0 σ)) := ⟨ev_Pc_blind, fun U hU hW => by
          have := hPc U hU hW
          rw [List.map_cons, e1 hi6] at this
          exact this⟩
      have hst9 : (F0 m pc ls (st.map (ev_dn b B0 σ))).stack = (As'.map (ev_dn b B0 σ)).reverse ++ .ref (B0 + i) :: rr.map (ev_dn b B0 σ) := by
        show st.map (ev_dn b B0 σ) = _
        rw [hstack, List.map_cons, e1 hi6, List.reverse_cons, List.append_assoc]
        rfl
      rcases w1 with w1 | ⟨host, w1⟩
      · have hrun := vx_runI (R := R) (l := l) (e := e) (below := below) (meth := meth) (H := H) (locs := locs) (cells := w.2.2.2.1) (slots := w.2.2.2.2) (g := F0 m pc ls (st.map (ev_dn b B0 σ))) (As := As'.map (ev_dn b B0 σ)) (rest := rr.map (ev_dn b B0 σ)) (b := B0 + i) (index := ix) (n := n) (bytes := (I a).2.1) (maxL := (P a).1) hfix hMet
          ⟨callB_of n ht hGood hcw9 rfl rfl hini9 (ht _ (hTs _ w1)) hnm hroom, hn1, ht _ (hTs _ w2)⟩ hpre rfl (by rw [List.length_map]; exact hlen') hsize hst9 hW9 dd k3
        exact ev_call_end hS hrun hret hthr
      · have hrun := vx_runIN (R := R) (l := l) (e := e) (below := below) (meth := meth) (H := H) (locs := locs) (cells := w.2.2.2.1) (slots := w.2.2.2.2) (g := F0 m pc ls (st.map (ev_dn b B0 σ))) (As := As'.map (ev_dn b B0 σ)) (rest := rr.map (ev_dn b B0 σ)) (b := B0 + i) (index := ix) (n := n) (bytes := (I a).2.1) (maxL := (P a).1) (host := host) hfix hMet
          ⟨va_cnB n ht hGood hcw9 rfl rfl (hV.2.1 _ w1 rfl) hini9 hnm hroom, hn1, ht _ (hTs _ w2)⟩ hpre rfl (by rw [List.length_map]; exact hlen') hsize hst9 hW9 dd k3
        exact ev_call_end hS hrun hret hthr
  · cases h
end EVZ
end
section
/-! ===== runs of the evaluator, whole (own work) ===== -/
section EVW
variable {D : va_G} {aC : Nat → ClassId} {b B0 L : Nat} {σ : Nat → Int32}
variable {Φ : ev_P} {Sg : List (String × (Nat × String))} {I : Nat → ev_Im} {P : Nat → ev_M} {l : Launch}
/-- the answers and throws of a frame -/
def ev_Ret (I : Nat → ev_Im) (P : Nat → ev_M) (Sg : List (String × (Nat × String))) (Φ : ev_P) (D : va_G) (aC : Nat → ClassId) (b B0 : Nat) (σ : Nat → Int32) (p : Program) (l : Launch) (e : Env) (R : Room) (s : State) (m : MethodId) (args : Array Value) (below : List Frame) (meth : Method) (c : Code) (Q : State → Prop) (Ts : List Cond) (y : MethodName) (cc : ByteArray) (ret : Option FieldType) (nL : Nat) (M : ev_M) (r : ev_S) : Prop :=
  ∀ (op nx a b' c' : Nat) (tg : List Nat) (pc : Nat) (loc : ev_L) (st : List ev_V) (w : ev_W) (k : ev_N) (cl : ev_F), (op = 37 ∨ op = 38 ∨ op = 39 ∨ op = 40 ∨ op = 41 ∨ op = 46) → M.2.2.2.2 pc = (op, (nx, (a, (b', (c', tg))))) → ev_eok I P Sg Ts y cc ret nL pc op nx a b' c' tg → ev_sel op Φ M k cl nx a b' c' tg pc loc st w = some r →
    ev_Go D aC b B0 σ p l e R s m args below meth c Q nL pc loc st w
/-- a frame of the machine that follows the evaluator's method M with the end r -/
def ev_Fr (I : Nat → ev_Im) (P : Nat → ev_M) (Sg : List (String × (Nat × String))) (Φ : ev_P) (D : va_G) (aC : Nat → ClassId) (b B0 L : Nat) (σ : Nat → Int32) (p : Program) (l : Launch) (e : Env) (R : Room) (s : State) (m : MethodId) (args : Array Value) (below : List Frame) (meth : Method) (c : Code) (Q : State → Prop) (Ts : List Cond) (y : MethodName) (cc : ByteArray) (ret : Option FieldType) (hh : List (Nat × Nat × Nat × Nat)) (nL d : Nat) (M : ev_M) (r : ev_S) : Prop :=
  ev_Fx D aC b B0 L σ p s m args meth c cc nL Ts y.cls Sg ∧ (∀ x ∈ ev_UW, x ∈ Ts) ∧ ev_cok I P Sg Ts y cc ret nL M.2.2.2.2 ∧ meth.name = y.name ∧ ev_hok y.cls Ts hh M.2.2.2.1 ∧ c.exceptionTable.toList = tableOf hh ∧ (M.2.1 ≤ R.cells ∧ M.2.2.1 ≤ R.slots) ∧ (10 + d ≤ R.frames ∧ 100 + 70 * d ≤ R.locals) ∧
  ev_Ret I P Sg Φ D aC b B0 σ p l e R s m args below meth c Q Ts y cc ret nL M r ∧ ev_Out D aC b B0 σ p l e R s m args below meth c Q y.cls M r
/-- n steps of the evaluator are right, in any frame -/
def ev_Ok (I : Nat → ev_Im) (P : Nat → ev_M) (Sg : List (String × (Nat × String))) (Φ : ev_P) (D : va_G) (aC : Nat → ClassId) (b B0 L : Nat) (σ : Nat → Int32) (l : Launch) (n : Nat) : Prop :=
  ∀ (p : Program) (e : Env) (R : Room) (s : State) (m : MethodId) (args : Array Value) (below : List Frame) (meth : Method) (c : Code) (Q : State → Prop) (Ts : List Cond) (y : MethodName) (cc : ByteArray) (ret : Option FieldType) (hh : List (Nat × Nat × Nat × Nat)) (nL d : Nat) (M : ev_M) (r : ev_S),
    ev_Fr I P Sg Φ D aC b B0 L σ p l e R s m args below meth c Q Ts y cc ret hh nL d M r → ∀ pc loc st w, ev_run Φ P n d M pc loc st w = some r → ev_Go D aC b B0 σ p l e R s m args below meth c Q nL pc loc st w
theorem ev_args_in {vs : List Value} (h : ∀ v ∈ vs, v.category = 1) : ∀ (i k : Nat) (v : Value), vs[k]? = some v → (i + k, v) ∈ lv_args i vs := by
  induction vs with
  | nil => intro i k v hk; simp at hk
  | cons x t ih =>
    intro i k v hk
    have hx : ¬ x.category = 2 := by
      rw [h x List.mem_cons_self]
      decide
    show (i + k, v) ∈ (i, x) :: lv_args (if x.category = 2 then i + 2 else i + 1) t
    rw [if_neg hx]
    cases k with
    | zero =>
      have hk : some x = some v := hk
      cases hk
      exact List.mem_cons_self
    | succ k =>
      have hk : t[k]? = some v := by simpa using hk
      have := ih (fun v hv => h v (List.mem_cons_of_mem _ hv)) (i + 1) k v hk
      rw [show i + (k + 1) = i + 1 + k by omega]
      exact List.mem_cons_of_mem _ this
theorem ev_sl_len {vs : List Value} (h : ∀ v ∈ vs, v.category = 1) : (lg_sl vs).length = vs.length := by
  induction vs with
  | nil => rfl
  | cons x t ih =>
    have hx : ¬ x.category = 2 := by
      rw [h x List.mem_cons_self]
      decide
    unfold lg_sl at ih ⊢
    rw [List.flatMap_cons, if_neg hx, List.length_append, ih (fun v hv => h v (List.mem_cons_of_mem _ hv))]
    simp only [List.length_cons, List.length_nil]
    omega
theorem ev_entry {As : List ev_V} {nL : Nat} {ls : Array Slot} (hw : As.all (fun v => !ev_wide v) = true) (hn : As.length ≤ nL) (h : lv_has ls nL (lv_args 0 (As.map (ev_dn b B0 σ)))) : ev_lh b B0 σ nL (ev_loc nL As) ls := by
  have hc : ∀ v ∈ As.map (ev_dn b B0 σ), v.category = 1 := fun v hv => by
    obtain ⟨a, ha, rfl⟩ := List.mem_map.mp hv
    exact ev_dn_c (by simpa using List.all_eq_true.mp hw a ha)
  refine ⟨h.1, h.2.1, fun i v hi => ?_⟩
  rw [ev_lg_eq] at hi
  unfold ev_loc at hi
  by_cases hl : i < As.length
  · rw [List.getElem?_append_left (by rw [List.length_map]; exact hl), List.getElem?_map] at hi
    cases hv : As[i]? with
    | none => rw [hv] at hi; cases hi
    | some a =>
      rw [hv] at hi
      have hi : some (some a) = some (some v) := hi
      have e := Option.some.inj (Option.some.inj hi)
      subst e
      have := ev_args_in hc 0 i (ev_dn b B0 σ a) (by rw [List.getElem?_map, hv]; rfl)
      rw [Nat.zero_add] at this
      exact h.2.2 _ this
  · rw [List.getElem?_append_right (by rw [List.length_map]; omega), List.getElem?_replicate] at hi
    split at hi <;> cases hi
/-- a method's contract out of the evaluator's run of it -/
theorem ev_met {n : Nat} (ih : ev_Ok I P Sg Φ D aC b B0 L σ l n) (hP : ∀ i, ev_mok I P Sg i) (hl9 : l.stackTraces = false) {i d : Nat} {As : List ev_V} {w : ev_W} {r2 : ev_S} (hr : ev_run Φ P n d (P i) 0 (ev_loc (P i).1 As) [] w = some r2) (hn : As.length ≤ (P i).1) (hw : As.all (fun v => !ev_wide v) = true) (hw0 : w.2.2.2 = (0, 0)) :
    vx_Met l (I i).1 (ev_wm (I i) (P i).1) (ev_rm d (P i).2.1 (P i).2.2.1) (ev_Pc D aC b B0 L σ Sg As w) (ev_Qc D aC b B0 σ r2) (ev_Xc D aC b B0 σ r2) (P i).2.1 (P i).2.2.1 (fun q => B0 ≤ q) := by
  obtain ⟨hpl, hcok, hhok, hno, hno2⟩ := hP i
  have hc : ∀ v ∈ As.map (ev_dn b B0 σ), v.category = 1 := fun v hv => by
    obtain ⟨a, ha, rfl⟩ := List.mem_map.mp hv
    exact ev_dn_c (by simpa using List.all_eq_true.mp hw a ha)
  have main : ∀ (p : Program) (e : Env) (s : State) (m : MethodId) (args : Array Value) (below : List Frame) (meth : Method) (c : Code) (s₁ : State), BodyLoose p l (I i).1 (headSpec (ev_wm (I i) (P i).1) (ev_rm d (P i).2.1 (P i).2.2.1)) (I i).2.1 (P i).1 (I i).2.2.1 e s m args below meth c s₁ → c.maxLocals = (P i).1 → c.exceptionTable.toList = tableOf (I i).2.2.2 → ev_Pc D aC b B0 L σ Sg As w args s →
      W p l e (headSpec (ev_wm (I i) (P i).1) (ev_rm d (P i).2.1 (P i).2.2.1)).room s m args below meth c s.heap [] 0 0 (vx_MQ below (ev_Qc D aC b B0 σ r2) (ev_Xc D aC b B0 σ r2) args s (P i).2.1 (P i).2.2.1 (fun q => B0 ≤ q)) (entryFrame m args (P i).1) := by
    intro p e s m args below meth c s₁ B hml hT hv
    obtain ⟨rfl, hJ, hV, hZ, hbB, hB⟩ := hv
    have hF : ev_Fx D aC b B0 L σ p s m (As.map (ev_dn b B0 σ)).toArray meth c (I i).2.1 (P i).1 (ev_wm (I i) (P i).1) (I i).1.cls Sg :=
      ⟨B.exec, B.bytes, hml, findClass_of_methodNamed B.named, atoms_spec (ws := ev_wm (I i) (P i).1) B.pre, hV, hZ, hbB, hB, B.notSynchronized⟩
    have hname : meth.name = (I i).1.name := (name_of_methodNamed B.named B.method).1
    have hret : meth.sig.returnType = (I i).2.2.1 := B.returns
    have hl0 := lv_entry (As.map (ev_dn b B0 σ)) (n := (P i).1) (by rw [ev_sl_len hc, List.length_map]; exact hn)
    rw [lg_entry_eq]
    generalize (lg_sl (As.map (ev_dn b B0 σ)) ++ List.replicate ((P i).1 - (lg_sl (As.map (ev_dn b B0 σ))).length) Slot.unset).toArray = ls at hl0 ⊢
    have hl := ev_entry hw hn hl0
    have hR : (10 ≤ (ev_rm d (P i).2.1 (P i).2.2.1).frames ∧ 100 ≤ (ev_rm d (P i).2.1 (P i).2.2.1).locals) := ⟨Nat.le_add_right _ _, Nat.le_add_right _ _⟩
    have hMR : (P i).2.1 ≤ (ev_rm d (P i).2.1 (P i).2.2.1).cells ∧ (P i).2.2.1 ≤ (ev_rm d (P i).2.1 (P i).2.2.1).slots := ⟨Nat.le_refl _, Nat.le_refl _⟩
    have hRet : ev_Ret I P Sg Φ D aC b B0 σ p l e (ev_rm d (P i).2.1 (P i).2.2.1) s m (As.map (ev_dn b B0 σ)).toArray below meth c (vx_MQ below (ev_Qc D aC b B0 σ r2) (ev_Xc D aC b B0 σ r2) (As.map (ev_dn b B0 σ)).toArray s (P i).2.1 (P i).2.2.1 (fun q => B0 ≤ q)) (ev_wm (I i) (P i).1) (I i).1 (I i).2.1 (I i).2.2.1 (P i).1 (P i) r2 := by
      intro op nx a b' c' tg pc loc st w k cl hop hcode hok h
      rcases hop with rfl | rfl | rfl | rfl | rfl | rfl
      · have hh0 : (I i).2.2.2 = [] := by
          cases hz : (I i).2.2.2 with
          | nil => rfl
          | cons q t => exact absurd (by rw [hcode]) (hno (by rw [hz]; exact fun z => by cases z) pc)
        exact ev_o_throw hF hl9 hR hMR (fun x hx => by rw [hT, hh0] at hx; cases hx) rfl (show ev_h_throw Φ (P i) k cl nx a b' c' tg pc loc st w = some r2 from h) hok
      · exact ev_o_vret hF rfl (show ev_h_vret Φ (P i) k cl nx a b' c' tg pc loc st w = some r2 from h) ⟨hok.1, hret.trans hok.2⟩
      · refine ev_o_iret hF rfl (show ev_h_iret Φ (P i) k cl nx a b' c' tg pc loc st w = some r2 from h) ⟨hok.1, ?_⟩
        rw [hret]
        exact hok.2
      · refine ev_o_aret hF rfl (show ev_h_aret Φ (P i) k cl nx a b' c' tg pc loc st w = some r2 from h) ⟨hok.1, ?_⟩
        rw [hret]
        exact hok.2
      · refine ev_o_wret hF rfl (show ev_h_wret Φ (P i) k cl nx a b' c' tg pc loc st w = some r2 from h) ?_
        rw [hret]
        exact hok
      · exact absurd (by rw [hcode]) (hno2 pc)
    have hOut : ev_Out D aC b B0 σ p l e (ev_rm d (P i).2.1 (P i).2.2.1) s m (As.map (ev_dn b B0 σ)).toArray below meth c (vx_MQ below (ev_Qc D aC b B0 σ r2) (ev_Xc D aC b B0 σ r2) (As.map (ev_dn b B0 σ)).toArray s (P i).2.1 (P i).2.2.1 (fun q => B0 ≤ q)) (I i).1.cls (P i) r2 := by
      intro E w H locs ls rest pc q ce hE hr2 hmay hJ hS hpass hq hv hcl
      obtain ⟨m1, m2⟩ := ev_may0 hmay
      exact vx_outP hF.2.2.2.1 B.notSynchronized hpass hq hv hcl (fun t ht hv => ⟨E, w, hr2, rfl, hE, by rw [ht]; exact hJ, hS.F ht⟩) hS.2.2 m1 m2
    have go := ih p e (ev_rm d (P i).2.1 (P i).2.2.1) s m (As.map (ev_dn b B0 σ)).toArray below meth c _ (ev_wm (I i) (P i).1) (I i).1 (I i).2.1 (I i).2.2.1 (I i).2.2.2 (P i).1 d (P i) r2
      ⟨hF, fun x hx => List.mem_cons_of_mem _ hx, hcok, hname, hhok, hT, hMR, ⟨Nat.le_refl _, Nat.le_refl _⟩, hRet, hOut⟩ 0 (ev_loc (P i).1 As) [] w hr s.heap [] ls hl hJ va_S.rf
    rw [hw0] at go
    exact go
  cases hz : (I i).2.2.2 with
  | nil =>
    have hcw : ev_wm (I i) (P i).1 = Cond.code (I i).1 (I i).2.1 (P i).1 (I i).2.2.1 :: ev_UW := by
      unfold ev_wm ev_cw
      rw [hz]
    refine vx_ofW hpl hcw fun p e s m args below meth c s₁ B hml hT hv => main p e s m args below meth c s₁ B hml ?_ hv
    rw [hz]
    cases ht : c.exceptionTable.toList with
    | nil => rfl
    | cons x t => exact (hT x (by rw [ht]; exact List.mem_cons_self)).elim
  | cons q t =>
    have hcw : ev_wm (I i) (P i).1 = Cond.codeWith (I i).1 (I i).2.1 (P i).1 (I i).2.2.1 (q :: t) :: ev_UW := by
      unfold ev_wm ev_cw
      rw [hz]
    refine vx_ofWH hpl hcw fun p e s m args below meth c s₁ B hml hv => main p e s m args below meth c s₁ B hml ?_ hv
    rw [hz]
    exact vx_table (x := (I i).1) B (atoms_spec (ws := ev_wm (I i) (P i).1) B.pre _ (by rw [hcw]; exact List.mem_cons_self))
theorem ev_exec_eq (Φ : ev_P) (M : ev_M) (k : ev_N) (cl : ev_F) (x : ev_E) (pc : Nat) (loc : ev_L) (st : List ev_V) (w : ev_W) : ev_exec Φ M k cl x pc loc st w = ev_sel x.1 Φ M k cl x.2.1 x.2.2.1 x.2.2.2.1 x.2.2.2.2.1 x.2.2.2.2.2 pc loc st w := rfl
theorem ev_call_none {M : ev_M} {k : ev_N} {cl : ev_F} {nx a b' c' pc : Nat} {tg : List Nat} {loc : ev_L} {st : List ev_V} {w : ev_W} {r : ev_S} (hcl : ∀ a As w, cl a As w = none) (h : ev_h_call Φ M k cl nx a b' c' tg pc loc st w = some r) : False := by
  unfold ev_h_call at h
  split at h
  · split at h
    · obtain ⟨h1, h⟩ := ev_if_n h
      obtain ⟨h2, h⟩ := ev_if_n h
      rw [hcl] at h
      cases h
    · cases h
  · cases h
theorem ev_main (hP : ∀ i, ev_mok I P Sg i) (hl9 : l.stackTraces = false) (hcast : ∀ i, i < 4 → Cond.castable (ev_ex i) (ev_ex i) ∈ lw_tbl) (hΦ : ev_FO Φ σ) (hL : Φ.1 = L) : ∀ n, ev_Ok I P Sg Φ D aC b B0 L σ l n := by
  intro n
  induction n with
  | zero => exact fun p e R s m args below meth c Q Ts y cc ret hh nL d M r _ pc loc st w h => absurd h (fun z => by cases z)
  | succ n ih =>
    intro p e R s m args below meth c Q Ts y cc ret hh nL d M r hFr pc loc st w h
    obtain ⟨hF, hTs, hcok, hname, hhok, hT, hMR, hRd, hRet, hOut⟩ := id hFr
    have hk : ∀ pc loc st w, ev_run Φ P n d M pc loc st w = some r → ev_Go D aC b B0 σ p l e R s m args below meth c Q nL pc loc st w := ih p e R s m args below meth c Q Ts y cc ret hh nL d M r hFr
    have h : ev_exec Φ M (ev_run Φ P n d M) (fun mi As w => Nat.rec (motive := fun _ => ev_R) none (fun d' _ => ev_run Φ P n d' (P mi) 0 (ev_loc (P mi).1 As) [] w) d) (M.2.2.2.2 pc) pc loc st w = some r := h
    rw [ev_exec_eq] at h
    have hst : ∀ pc nx a tg, (M.2.2.2.2 pc) = (10, (nx, (a, tg))) → ev_i_st cc nL pc nx a .astore .astore_n := fun pc nx a tg hc => by
      have := hcok pc
      rw [hc] at this
      exact this
    have hok := hcok pc
    have hR1 : 1 ≤ R.frames ∧ 100 ≤ R.locals := ⟨by omega, by omega⟩
    generalize hx : M.2.2.2.2 pc = x at h hok
    obtain ⟨op, nx, a, b', c', tg⟩ := x
    dsimp only at h hok
    match op, h, hok, hx with
    | 0, h, _, _ => exact absurd h (fun z => by cases z)
    | 1, h, hok, _ => exact ev_o_int hF hk (show ev_h_int Φ M (ev_run Φ P n d M) (fun mi As w => Nat.rec (motive := fun _ => ev_R) none (fun d' _ => ev_run Φ P n d' (P mi) 0 (ev_loc (P mi).1 As) [] w) d) nx a b' c' tg pc loc st w = some r from h) hok
    | 2, h, hok, _ => exact ev_o_null hF hk (show ev_h_null Φ M (ev_run Φ P n d M) (fun mi As w => Nat.rec (motive := fun _ => ev_R) none (fun d' _ => ev_run Φ P n d' (P mi) 0 (ev_loc (P mi).1 As) [] w) d) nx a b' c' tg pc loc st w = some r from h) hok
    | 3, h, hok, _ => exact ev_o_wide hF hk (show ev_h_wide Φ M (ev_run Φ P n d M) (fun mi As w => Nat.rec (motive := fun _ => ev_R) none (fun d' _ => ev_run Φ P n d' (P mi) 0 (ev_loc (P mi).1 As) [] w) d) nx a b' c' tg pc loc st w = some r from h) hok
    | 6, h, hok, _ => exact ev_o_iload hF hk (show ev_h_iload Φ M (ev_run Φ P n d M) (fun mi As w => Nat.rec (motive := fun _ => ev_R) none (fun d' _ => ev_run Φ P n d' (P mi) 0 (ev_loc (P mi).1 As) [] w) d) nx a b' c' tg pc loc st w = some r from h) hok
    | 7, h, hok, _ => exact ev_o_aload hF hk (show ev_h_aload Φ M (ev_run Φ P n d M) (fun mi As w => Nat.rec (motive := fun _ => ev_R) none (fun d' _ => ev_run Φ P n d' (P mi) 0 (ev_loc (P mi).1 As) [] w) d) nx a b' c' tg pc loc st w = some r from h) hok
    | 8, h, hok, _ => exact ev_o_dload hF hk (show ev_h_dload Φ M (ev_run Φ P n d M) (fun mi As w => Nat.rec (motive := fun _ => ev_R) none (fun d' _ => ev_run Φ P n d' (P mi) 0 (ev_loc (P mi).1 As) [] w) d) nx a b' c' tg pc loc st w = some r from h) hok
    | 9, h, hok, _ => exact ev_o_istore hF hk (show ev_h_istore Φ M (ev_run Φ P n d M) (fun mi As w => Nat.rec (motive := fun _ => ev_R) none (fun d' _ => ev_run Φ P n d' (P mi) 0 (ev_loc (P mi).1 As) [] w) d) nx a b' c' tg pc loc st w = some r from h) hok
    | 10, h, hok, _ => exact ev_o_astore hF hk (show ev_h_astore Φ M (ev_run Φ P n d M) (fun mi As w => Nat.rec (motive := fun _ => ev_R) none (fun d' _ => ev_run Φ P n d' (P mi) 0 (ev_loc (P mi).1 As) [] w) d) nx a b' c' tg pc loc st w = some r from h) hok
    | 11, h, hok, _ => exact ev_o_dstore hF hk (show ev_h_dstore Φ M (ev_run Φ P n d M) (fun mi As w => Nat.rec (motive := fun _ => ev_R) none (fun d' _ => ev_run Φ P n d' (P mi) 0 (ev_loc (P mi).1 As) [] w) d) nx a b' c' tg pc loc st w = some r from h) hok
    | 12, h, hok, _ => exact ev_o_iinc hF hk (show ev_h_iinc Φ M (ev_run Φ P n d M) (fun mi As w => Nat.rec (motive := fun _ => ev_R) none (fun d' _ => ev_run Φ P n d' (P mi) 0 (ev_loc (P mi).1 As) [] w) d) nx a b' c' tg pc loc st w = some r from h) hok
    | 13, h, hok, _ => exact ev_o_iadd hF hk (show ev_h_iadd Φ M (ev_run Φ P n d M) (fun mi As w => Nat.rec (motive := fun _ => ev_R) none (fun d' _ => ev_run Φ P n d' (P mi) 0 (ev_loc (P mi).1 As) [] w) d) nx a b' c' tg pc loc st w = some r from h) hok
    | 14, h, hok, _ => exact ev_o_isub hF hk (show ev_h_isub Φ M (ev_run Φ P n d M) (fun mi As w => Nat.rec (motive := fun _ => ev_R) none (fun d' _ => ev_run Φ P n d' (P mi) 0 (ev_loc (P mi).1 As) [] w) d) nx a b' c' tg pc loc st w = some r from h) hok
    | 15, h, hok, _ => exact ev_o_ibin hF hk (show ev_h_ibin Φ M (ev_run Φ P n d M) (fun mi As w => Nat.rec (motive := fun _ => ev_R) none (fun d' _ => ev_run Φ P n d' (P mi) 0 (ev_loc (P mi).1 As) [] w) d) nx a b' c' tg pc loc st w = some r from h) hok
    | 16, h, hok, _ => exact ev_o_if0 hF hΦ hk (show ev_h_if0 Φ M (ev_run Φ P n d M) (fun mi As w => Nat.rec (motive := fun _ => ev_R) none (fun d' _ => ev_run Φ P n d' (P mi) 0 (ev_loc (P mi).1 As) [] w) d) nx a b' c' tg pc loc st w = some r from h) hok
    | 17, h, hok, _ => exact ev_o_icmp hF hΦ hk (show ev_h_icmp Φ M (ev_run Φ P n d M) (fun mi As w => Nat.rec (motive := fun _ => ev_R) none (fun d' _ => ev_run Φ P n d' (P mi) 0 (ev_loc (P mi).1 As) [] w) d) nx a b' c' tg pc loc st w = some r from h) hok
    | 18, h, hok, _ => exact ev_o_acmp hF hk (show ev_h_acmp Φ M (ev_run Φ P n d M) (fun mi As w => Nat.rec (motive := fun _ => ev_R) none (fun d' _ => ev_run Φ P n d' (P mi) 0 (ev_loc (P mi).1 As) [] w) d) nx a b' c' tg pc loc st w = some r from h) hok
    | 19, h, hok, _ => exact ev_o_isnull hF hk (show ev_h_isnull Φ M (ev_run Φ P n d M) (fun mi As w => Nat.rec (motive := fun _ => ev_R) none (fun d' _ => ev_run Φ P n d' (P mi) 0 (ev_loc (P mi).1 As) [] w) d) nx a b' c' tg pc loc st w = some r from h) hok
    | 20, h, hok, _ => exact ev_o_goto hF hk (show ev_h_goto Φ M (ev_run Φ P n d M) (fun mi As w => Nat.rec (motive := fun _ => ev_R) none (fun d' _ => ev_run Φ P n d' (P mi) 0 (ev_loc (P mi).1 As) [] w) d) nx a b' c' tg pc loc st w = some r from h) hok
    | 21, h, hok, _ => exact ev_o_dup hF hk (show ev_h_dup Φ M (ev_run Φ P n d M) (fun mi As w => Nat.rec (motive := fun _ => ev_R) none (fun d' _ => ev_run Φ P n d' (P mi) 0 (ev_loc (P mi).1 As) [] w) d) nx a b' c' tg pc loc st w = some r from h) hok
    | 22, h, hok, _ => exact ev_o_dup2 hF hk (show ev_h_dup2 Φ M (ev_run Φ P n d M) (fun mi As w => Nat.rec (motive := fun _ => ev_R) none (fun d' _ => ev_run Φ P n d' (P mi) 0 (ev_loc (P mi).1 As) [] w) d) nx a b' c' tg pc loc st w = some r from h) hok
    | 23, h, hok, _ => exact ev_o_pop hF hk (show ev_h_pop Φ M (ev_run Φ P n d M) (fun mi As w => Nat.rec (motive := fun _ => ev_R) none (fun d' _ => ev_run Φ P n d' (P mi) 0 (ev_loc (P mi).1 As) [] w) d) nx a b' c' tg pc loc st w = some r from h) hok
    | 24, h, hok, _ => exact ev_o_getf hF hk (show ev_h_getf Φ M (ev_run Φ P n d M) (fun mi As w => Nat.rec (motive := fun _ => ev_R) none (fun d' _ => ev_run Φ P n d' (P mi) 0 (ev_loc (P mi).1 As) [] w) d) nx a b' c' tg pc loc st w = some r from h) hok
    | 25, h, hok, _ =>
      refine ev_o_putf hF hk (show ev_h_putf Φ M (ev_run Φ P n d M) (fun mi As w => Nat.rec (motive := fun _ => ev_R) none (fun d' _ => ev_run Φ P n d' (P mi) 0 (ev_loc (P mi).1 As) [] w) d) nx a b' c' tg pc loc st w = some r from h) ?_
      rw [hname]
      exact hok
    | 26, h, hok, _ => exact ev_o_alen hF hL hk (show ev_h_alen Φ M (ev_run Φ P n d M) (fun mi As w => Nat.rec (motive := fun _ => ev_R) none (fun d' _ => ev_run Φ P n d' (P mi) 0 (ev_loc (P mi).1 As) [] w) d) nx a b' c' tg pc loc st w = some r from h) hok
    | 27, h, hok, _ => exact ev_o_iald hF hL hk (show ev_h_iald Φ M (ev_run Φ P n d M) (fun mi As w => Nat.rec (motive := fun _ => ev_R) none (fun d' _ => ev_run Φ P n d' (P mi) 0 (ev_loc (P mi).1 As) [] w) d) nx a b' c' tg pc loc st w = some r from h) hok
    | 28, h, hok, _ => exact ev_o_iast hF hk (show ev_h_iast Φ M (ev_run Φ P n d M) (fun mi As w => Nat.rec (motive := fun _ => ev_R) none (fun d' _ => ev_run Φ P n d' (P mi) 0 (ev_loc (P mi).1 As) [] w) d) nx a b' c' tg pc loc st w = some r from h) hok
    | 29, h, hok, _ => exact ev_o_ald hF hk (show ev_h_ald Φ M (ev_run Φ P n d M) (fun mi As w => Nat.rec (motive := fun _ => ev_R) none (fun d' _ => ev_run Φ P n d' (P mi) 0 (ev_loc (P mi).1 As) [] w) d) nx a b' c' tg pc loc st w = some r from h) hok
    | 30, h, hok, _ => exact ev_o_bast hF hk (show ev_h_bast Φ M (ev_run Φ P n d M) (fun mi As w => Nat.rec (motive := fun _ => ev_R) none (fun d' _ => ev_run Φ P n d' (P mi) 0 (ev_loc (P mi).1 As) [] w) d) nx a b' c' tg pc loc st w = some r from h) hok
    | 31, h, hok, _ => exact ev_o_last hF hk (show ev_h_last Φ M (ev_run Φ P n d M) (fun mi As w => Nat.rec (motive := fun _ => ev_R) none (fun d' _ => ev_run Φ P n d' (P mi) 0 (ev_loc (P mi).1 As) [] w) d) nx a b' c' tg pc loc st w = some r from h) hok
    | 32, h, hok, _ => exact ev_o_aast hF hk (show ev_h_aast 3 5 Φ M (ev_run Φ P n d M) (fun mi As w => Nat.rec (motive := fun _ => ev_R) none (fun d' _ => ev_run Φ P n d' (P mi) 0 (ev_loc (P mi).1 As) [] w) d) nx a b' c' tg pc loc st w = some r from h) hok
    | 33, h, hok, _ => exact ev_o_new hF hMR hk (show ev_h_new Φ M (ev_run Φ P n d M) (fun mi As w => Nat.rec (motive := fun _ => ev_R) none (fun d' _ => ev_run Φ P n d' (P mi) 0 (ev_loc (P mi).1 As) [] w) d) nx a b' c' tg pc loc st w = some r from h) hok
    | 34, h, hok, _ => exact ev_o_newa hF hMR hk (show ev_h_newa Φ M (ev_run Φ P n d M) (fun mi As w => Nat.rec (motive := fun _ => ev_R) none (fun d' _ => ev_run Φ P n d' (P mi) 0 (ev_loc (P mi).1 As) [] w) d) nx a b' c' tg pc loc st w = some r from h) hok
    | 35, h, hok, _ =>
      cases d with
      | zero => exact (ev_call_none (fun _ _ _ => rfl) (show ev_h_call Φ M (ev_run Φ P n 0 M) (fun mi As w => Nat.rec (motive := fun _ => ev_R) none (fun d' _ => ev_run Φ P n d' (P mi) 0 (ev_loc (P mi).1 As) [] w) 0) nx a b' c' tg pc loc st w = some r from h)).elim
      | succ d =>
        exact ev_o_call (d := d) hF hcast hTs ⟨by omega, by omega⟩ hMR hk hst hhok hT hOut (fun As w r2 h2 h3 h4 h5 => ev_met ih hP hl9 h2 h3 h4 h5) (show ev_h_call Φ M (ev_run Φ P n (d + 1) M) (fun mi As w => Nat.rec (motive := fun _ => ev_R) none (fun d' _ => ev_run Φ P n d' (P mi) 0 (ev_loc (P mi).1 As) [] w) (d + 1)) nx a b' c' tg pc loc st w = some r from h) hok
    | 36, h, hok, _ => exact ev_o_objinit hF hR1 hk (show ev_h_objinit Φ M (ev_run Φ P n d M) (fun mi As w => Nat.rec (motive := fun _ => ev_R) none (fun d' _ => ev_run Φ P n d' (P mi) 0 (ev_loc (P mi).1 As) [] w) d) nx a b' c' tg pc loc st w = some r from h) hok
    | 37, h, hok, hx => exact hRet _ _ _ _ _ _ _ _ _ _ _ _ (Or.inl rfl) hx hok h
    | 38, h, hok, hx => exact hRet _ _ _ _ _ _ _ _ _ _ _ _ (Or.inr (Or.inl rfl)) hx hok h
    | 39, h, hok, hx => exact hRet _ _ _ _ _ _ _ _ _ _ _ _ (Or.inr (Or.inr (Or.inl rfl))) hx hok h
    | 40, h, hok, hx => exact hRet _ _ _ _ _ _ _ _ _ _ _ _ (Or.inr (Or.inr (Or.inr (Or.inl rfl)))) hx hok h
    | 41, h, hok, hx => exact hRet _ _ _ _ _ _ _ _ _ _ _ _ (Or.inr (Or.inr (Or.inr (Or.inr (Or.inl rfl))))) hx hok h
    | 42, h, hok, _ => exact ev_o_switch hF hΦ hk (show ev_h_switch Φ M (ev_run Φ P n d M) (fun mi As w => Nat.rec (motive := fun _ => ev_R) none (fun d' _ => ev_run Φ P n d' (P mi) 0 (ev_loc (P mi).1 As) [] w) d) nx a b' c' tg pc loc st w = some r from h) hok
    | 43, h, hok, _ => exact ev_o_cv hF hk (show ev_h_cv Φ M (ev_run Φ P n d M) (fun mi As w => Nat.rec (motive := fun _ => ev_R) none (fun d' _ => ev_run Φ P n d' (P mi) 0 (ev_loc (P mi).1 As) [] w) d) nx a b' c' tg pc loc st w = some r from h) hok
    | 44, h, hok, _ => exact ev_o_w2 hF hR1 hMR hk (show ev_h_w2 Φ M (ev_run Φ P n d M) (fun mi As w => Nat.rec (motive := fun _ => ev_R) none (fun d' _ => ev_run Φ P n d' (P mi) 0 (ev_loc (P mi).1 As) [] w) d) nx a b' c' tg pc loc st w = some r from h) hok
    | 45, h, hok, _ => exact ev_o_copy hF hR1 hk (show ev_h_copy Φ M (ev_run Φ P n d M) (fun mi As w => Nat.rec (motive := fun _ => ev_R) none (fun d' _ => ev_run Φ P n d' (P mi) 0 (ev_loc (P mi).1 As) [] w) d) nx a b' c' tg pc loc st w = some r from h) hok
    | 46, h, hok, hx => exact hRet _ _ _ _ _ _ _ _ _ _ _ _ (Or.inr (Or.inr (Or.inr (Or.inr (Or.inr rfl))))) hx hok h
    | 47, h, hok, _ => exact ev_o_idiv hF hk (show ev_h_idiv Φ M (ev_run Φ P n d M) (fun mi As w => Nat.rec (motive := fun _ => ev_R) none (fun d' _ => ev_run Φ P n d' (P mi) 0 (ev_loc (P mi).1 As) [] w) d) nx a b' c' tg pc loc st w = some r from h) hok
    | 48, h, hok, _ => exact ev_o_iand63 hF hk (show ev_h_iand63 Φ M (ev_run Φ P n d M) (fun mi As w => Nat.rec (motive := fun _ => ev_R) none (fun d' _ => ev_run Φ P n d' (P mi) 0 (ev_loc (P mi).1 As) [] w) d) nx a b' c' tg pc loc st w = some r from h) hok
    | 4, _, hok, _ => exact hok.elim
    | 5, _, hok, _ => exact hok.elim
    | k + 49, _, hok, _ => exact hok.elim
end EVW
end
