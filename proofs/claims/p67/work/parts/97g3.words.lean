/-! ===== the words of the tables that the program takes (own work, by program: wip/p2/gen3.py) ===== -/
theorem tk_0 : ∀ x ∈ k2_sels lw_privs, x ∈ lw_tbl := fun _ h => List.mem_append_left _ h
theorem tk_1 : ∀ x ∈ tables_1_1, x ∈ lw_tbl := fun _ h => List.mem_append_right _ (List.mem_append_left _ h)
theorem tk_2 : ∀ x ∈ tables_1_2, x ∈ lw_tbl := fun _ h => List.mem_append_right _ (List.mem_append_right _ (List.mem_append_left _ h))
theorem tk_3 : ∀ x ∈ tables_1_3, x ∈ lw_tbl := fun _ h => List.mem_append_right _ (List.mem_append_right _ (List.mem_append_right _ (List.mem_append_left _ h)))
theorem tk_4 : ∀ x ∈ tables_1_4, x ∈ lw_tbl := fun _ h => List.mem_append_right _ (List.mem_append_right _ (List.mem_append_right _ (List.mem_append_right _ (List.mem_append_left _ h))))
theorem tk_5 : ∀ x ∈ tables_1_5, x ∈ lw_tbl := fun _ h => List.mem_append_right _ (List.mem_append_right _ (List.mem_append_right _ (List.mem_append_right _ (List.mem_append_right _ (List.mem_append_left _ h)))))
theorem tk_6 : ∀ x ∈ tables_1_6, x ∈ lw_tbl := fun _ h => List.mem_append_right _ (List.mem_append_right _ (List.mem_append_right _ (List.mem_append_right _ (List.mem_append_right _ (List.mem_append_right _ h)))))
theorem xs_in {P : List (List Cond)} (hP : ∀ T ∈ P, ∀ x ∈ T, x ∈ lw_tbl) {L : List Cond} (ix : List (Nat × Nat)) (h : ix.map (fun q => (P.getD q.1 [])[q.2]?) = L.map some) : ∀ x ∈ L, x ∈ lw_tbl := by
  intro x hx
  have h1 : some x ∈ L.map some := List.mem_map.mpr ⟨x, hx, rfl⟩
  rw [← h] at h1
  obtain ⟨q, -, e⟩ := List.mem_map.mp h1
  have h2 := List.mem_of_getElem? e
  rw [List.getD_eq_getElem?_getD] at h2
  cases hT : P[q.1]? with
  | none => rw [hT] at h2; exact absurd h2 (by simp)
  | some T => rw [hT] at h2; exact hP T (List.mem_of_getElem? hT) x h2
theorem xs_g {L : List Cond} (h : ∀ x ∈ L, x ∈ lw_tbl) : ∀ x ∈ L.filter goodWord, x ∈ ev_UW := fun x hx => List.mem_filter.mpr ⟨h x (List.mem_filter.mp hx).1, (List.mem_filter.mp hx).2⟩
theorem xs_b {L : List Cond} (h : ∀ x ∈ L, x ∈ lw_tbl) (hb : ∀ x ∈ L.filter (fun w => !goodWord w), ev_bw x = true ∧ x.onTables = true) : ∀ x ∈ L.filter (fun w => !goodWord w), x ∈ lw_tbl ∧ ev_bw x = true ∧ x.onTables = true := fun x hx => ⟨h x (List.mem_filter.mp hx).1, hb x hx⟩
def pt_P : List (List Cond) := [k2_sels lw_privs, tables_1_1, tables_1_2, tables_1_3, tables_1_4, tables_1_5, tables_1_6]
theorem pt_PP : ∀ T ∈ pt_P, ∀ x ∈ T, x ∈ lw_tbl := by
  intro T hT
  unfold pt_P at hT
  simp only [List.mem_cons, List.not_mem_nil, or_false] at hT
  rcases hT with rfl | rfl | rfl | rfl | rfl | rfl | rfl
  · exact tk_0
  · exact tk_1
  · exact tk_2
  · exact tk_3
  · exact tk_4
  · exact tk_5
  · exact tk_6
theorem xs_u {L : List Cond} (h : ∀ x ∈ L, x ∈ lw_tbl) (hg : L.all goodWord = true) : ∀ x ∈ L, x ∈ ev_UW := fun x hx => List.mem_filter.mpr ⟨h x hx, List.all_eq_true.mp hg x hx⟩
theorem vw_c0 : vwCl[0]? = some (RX0, TX0, 3) := rfl
theorem pt_0 : et_Tm RX0 TX0 3 tyX0 := ⟨xs_u (xs_in pt_PP [(1, 198), (1, 200), (1, 202)] (by decide +kernel)) (by decide +kernel), tyX0_ok, nmX0⟩
theorem vw_c1 : vwCl[1]? = some (RX1, TX1, 2) := rfl
theorem pt_1 : et_Tm RX1 TX1 2 tyX1 := ⟨xs_u (xs_in pt_PP [(1, 221), (1, 223)] (by decide +kernel)) (by decide +kernel), tyX1_ok, nmX1⟩
theorem vw_c2 : vwCl[2]? = some (RX2, TX2, 2) := rfl
theorem pt_2 : et_Tm RX2 TX2 2 tyX2 := ⟨xs_u (xs_in pt_PP [(2, 35), (2, 37)] (by decide +kernel)) (by decide +kernel), tyX2_ok, nmX2⟩
theorem vw_c3 : vwCl[3]? = some (RX3, TX3, 15) := rfl
theorem pt_3 : et_Tm RX3 TX3 15 tyX3 := ⟨xs_u (xs_in pt_PP [(1, 97), (1, 99), (1, 101), (1, 103), (1, 105), (1, 107), (1, 109), (1, 111), (1, 113), (1, 115), (1, 117), (1, 119), (1, 121), (1, 123), (1, 125)] (by decide +kernel)) (by decide +kernel), tyX3_ok, nmX3⟩
theorem vw_c4 : vwCl[4]? = some (RX4, TX4, 11) := rfl
theorem pt_4 : et_Tm RX4 TX4 11 tyX4 := ⟨xs_u (xs_in pt_PP [(2, 3), (2, 5), (2, 7), (2, 9), (2, 11), (2, 13), (2, 15), (2, 17), (2, 19), (2, 21), (2, 23)] (by decide +kernel)) (by decide +kernel), tyX4_ok, nmX4⟩
theorem vw_c5 : vwCl[5]? = some (RX5, TX5, 10) := rfl
theorem pt_5 : et_Tm RX5 TX5 10 tyX5 := ⟨xs_u (xs_in pt_PP [(1, 163), (1, 165), (1, 167), (1, 169), (1, 171), (1, 173), (1, 175), (1, 177), (1, 179), (1, 181)] (by decide +kernel)) (by decide +kernel), tyX5_ok, nmX5⟩
theorem vw_c6 : vwCl[6]? = some (RX6, TX6, 7) := rfl
theorem pt_6 : et_Tm RX6 TX6 7 tyX6 := ⟨xs_u (xs_in pt_PP [(2, 47), (2, 49), (2, 51), (2, 53), (2, 55), (2, 57), (2, 59)] (by decide +kernel)) (by decide +kernel), tyX6_ok, nmX6⟩
theorem vw_c7 : vwCl[7]? = some (RX7, TX7, 13) := rfl
theorem pt_7 : et_Tm RX7 TX7 13 tyX7 := ⟨xs_u (xs_in pt_PP [(3, 99), (3, 101), (3, 103), (3, 105), (3, 107), (3, 109), (3, 111), (3, 113), (3, 115), (3, 117), (3, 119), (3, 121), (3, 123)] (by decide +kernel)) (by decide +kernel), tyX7_ok, nmX7⟩
theorem vw_c8 : vwCl[8]? = some (RL, TL, 8) := rfl
theorem pt_8 : et_Tm RL TL 8 tyL := ⟨xs_u (xs_in pt_PP [(4, 50), (4, 52), (4, 54), (4, 56), (4, 58), (4, 60), (4, 62), (4, 64)] (by decide +kernel)) (by decide +kernel), tyL_ok, nmL⟩
theorem vw_c9 : vwCl[9]? = some (RJx4a65c, TJx4a65c, 3) := rfl
theorem pt_9 : et_Tm RJx4a65c TJx4a65c 3 tyJx4a65c := ⟨xs_u (xs_in pt_PP [(3, 68), (3, 64), (3, 66)] (by decide +kernel)) (by decide +kernel), tyJx4a65c_ok, nmJx4a65c⟩
theorem vw_c10 : vwCl[10]? = some (RJx35411, TJx35411, 4) := rfl
theorem pt_10 : et_Tm RJx35411 TJx35411 4 tyJx35411 := ⟨xs_u (xs_in pt_PP [(4, 9), (4, 11), (4, 13), (4, 15)] (by decide +kernel)) (by decide +kernel), tyJx35411_ok, nmJx35411⟩
theorem vw_c11 : vwCl[11]? = some (RJ4, TJ4, 4) := rfl
theorem pt_11 : et_Tm RJ4 TJ4 4 tyJ4 := ⟨xs_u (xs_in pt_PP [(4, 193), (4, 195), (4, 197), (4, 199)] (by decide +kernel)) (by decide +kernel), tyJ4_ok, nmJ4⟩
theorem vw_c12 : vwCl[12]? = some (RJ0, TJ0, 4) := rfl
theorem pt_12 : et_Tm RJ0 TJ0 4 tyJ0 := ⟨xs_u (xs_in pt_PP [(5, 53), (5, 55), (5, 57), (5, 59)] (by decide +kernel)) (by decide +kernel), tyJ0_ok, nmJ0⟩
theorem uw_m {T : List Cond} {x : Cond} (hT : ∀ x ∈ T, x ∈ lw_tbl) (j : Nat) (h : T[j]? = some x) (hg : goodWord x = true) : x ∈ ev_UW := List.mem_filter.mpr ⟨hT x (List.mem_of_getElem? h), hg⟩
theorem tw_m {T : List Cond} {x : Cond} (hT : ∀ x ∈ T, x ∈ lw_tbl) (j : Nat) (h : T[j]? = some x) : x ∈ lw_tbl := hT x (List.mem_of_getElem? h)
theorem uw_s {T : List Cond} {W : List Cond} {x : Cond} (hT : ∀ x ∈ T, x ∈ lw_tbl) (n : Nat) (e : (T.drop n).take 16 = W) (j : Nat) (h : W[j]? = some x) (hg : goodWord x = true) : x ∈ ev_UW := List.mem_filter.mpr ⟨hT x (List.mem_of_mem_drop (List.mem_of_mem_take (by rw [e]; exact List.mem_of_getElem? h))), hg⟩
theorem tw_s {T : List Cond} {W : List Cond} {x : Cond} (hT : ∀ x ∈ T, x ∈ lw_tbl) (n : Nat) (e : (T.drop n).take 16 = W) (j : Nat) (h : W[j]? = some x) : x ∈ lw_tbl := hT x (List.mem_of_mem_drop (List.mem_of_mem_take (by rw [e]; exact List.mem_of_getElem? h)))
theorem pp_22 : (pr_P 22).1 = 3 := rfl
theorem pp_23 : (pr_P 23).1 = 2 := rfl
theorem pp_24 : (pr_P 24).1 = 1 := rfl
theorem pp_25 : (pr_P 25).1 = 1 := rfl
theorem pp_26 : (pr_P 26).1 = 4 := rfl
theorem pp_27 : (pr_P 27).1 = 2 := rfl
theorem pp_28 : (pr_P 28).1 = 2 := rfl
theorem pp_29 : (pr_P 29).1 = 2 := rfl
theorem pp_30 : (pr_P 30).1 = 1 := rfl
theorem pp_31 : (pr_P 31).1 = 3 := rfl
theorem pp_32 : (pr_P 32).1 = 2 := rfl
theorem pp_33 : (pr_P 33).1 = 1 := rfl
theorem pp_34 : (pr_P 34).1 = 2 := rfl
theorem pp_35 : (pr_P 35).1 = 5 := rfl
theorem pp_36 : (pr_P 36).1 = 2 := rfl
theorem pp_37 : (pr_P 37).1 = 1 := rfl
theorem pp_38 : (pr_P 38).1 = 1 := rfl
theorem pp_39 : (pr_P 39).1 = 2 := rfl
theorem pp_40 : (pr_P 40).1 = 2 := rfl
theorem pp_41 : (pr_P 41).1 = 1 := rfl
theorem pp_42 : (pr_P 42).1 = 2 := rfl
theorem pp_43 : (pr_P 43).1 = 1 := rfl
theorem pp_44 : (pr_P 44).1 = 3 := rfl
theorem pp_45 : (pr_P 45).1 = 3 := rfl
theorem pp_46 : (pr_P 46).1 = 2 := rfl
theorem pp_47 : (pr_P 47).1 = 2 := rfl
theorem pp_48 : (pr_P 48).1 = 3 := rfl
theorem pp_49 : (pr_P 49).1 = 3 := rfl
theorem pp_50 : (pr_P 50).1 = 1 := rfl
theorem pp_51 : (pr_P 51).1 = 1 := rfl
theorem pp_52 : (pr_P 52).1 = 1 := rfl
theorem pp_53 : (pr_P 53).1 = 3 := rfl
theorem pp_54 : (pr_P 54).1 = 1 := rfl
theorem pp_55 : (pr_P 55).1 = 1 := rfl
theorem pp_56 : (pr_P 56).1 = 1 := rfl
theorem pp_57 : (pr_P 57).1 = 4 := rfl
theorem pp_58 : (pr_P 58).1 = 3 := rfl
theorem pp_59 : (pr_P 59).1 = 3 := rfl
theorem pp_60 : (pr_P 60).1 = 2 := rfl
theorem pp_61 : (pr_P 61).1 = 4 := rfl
theorem pp_62 : (pr_P 62).1 = 2 := rfl
theorem pp_63 : (pr_P 63).1 = 3 := rfl
theorem pp_64 : (pr_P 64).1 = 1 := rfl
theorem pp_65 : (pr_P 65).1 = 2 := rfl
theorem pp_66 : (pr_P 66).1 = 1 := rfl
theorem pp_67 : (pr_P 67).1 = 1 := rfl
theorem pp_68 : (pr_P 68).1 = 1 := rfl
theorem pp_69 : (pr_P 69).1 = 4 := rfl
theorem pp_70 : (pr_P 70).1 = 2 := rfl
theorem pp_71 : (pr_P 71).1 = 5 := rfl
theorem pp_72 : (pr_P 72).1 = 6 := rfl
theorem pp_73 : (pr_P 73).1 = 2 := rfl
theorem pp_74 : (pr_P 74).1 = 4 := rfl
theorem pp_75 : (pr_P 75).1 = 2 := rfl
theorem pp_76 : (pr_P 76).1 = 7 := rfl
theorem pp_77 : (pr_P 77).1 = 7 := rfl
theorem pp_78 : (pr_P 78).1 = 3 := rfl
theorem pp_79 : (pr_P 79).1 = 3 := rfl
theorem pp_80 : (pr_P 80).1 = 4 := rfl
theorem pp_81 : (pr_P 81).1 = 6 := rfl
theorem pp_82 : (pr_P 82).1 = 11 := rfl
theorem pp_83 : (pr_P 83).1 = 4 := rfl
theorem pp_84 : (pr_P 84).1 = 5 := rfl
theorem pp_85 : (pr_P 85).1 = 4 := rfl
theorem pp_86 : (pr_P 86).1 = 7 := rfl
theorem pp_87 : (pr_P 87).1 = 3 := rfl
theorem pp_88 : (pr_P 88).1 = 5 := rfl
theorem pp_89 : (pr_P 89).1 = 4 := rfl
theorem pp_90 : (pr_P 90).1 = 11 := rfl
theorem pp_91 : (pr_P 91).1 = 8 := rfl
theorem pp_92 : (pr_P 92).1 = 7 := rfl
theorem pp_93 : (pr_P 93).1 = 3 := rfl
theorem pp_94 : (pr_P 94).1 = 8 := rfl
theorem pp_95 : (pr_P 95).1 = 8 := rfl
theorem pp_96 : (pr_P 96).1 = 4 := rfl
theorem pp_97 : (pr_P 97).1 = 7 := rfl
theorem pp_117 : (pr_P 117).1 = 1 := rfl
section WK
variable {i n k : Nat} {x : ev_Im} {C D : String} {S : List Cond}
theorem wk_m (e : pr_I i = x) (h : Cond.methodLink C n x.1 ∈ S) : Cond.methodLink C n (pr_I i).1 ∈ S := by rw [e]; exact h
theorem wk_n (e : pr_I i = x) (h : Cond.methodLinkNest C n x.1 D ∈ S) : Cond.methodLinkNest C n (pr_I i).1 D ∈ S := by rw [e]; exact h
theorem wk_v (e : pr_I i = x) (h : Cond.instanceMethod x.1 ∈ S) : Cond.instanceMethod (pr_I i).1 ∈ S := by rw [e]; exact h
theorem wk_t (e : pr_I i = x) (h : Cond.static x.1 ∈ S) : Cond.static (pr_I i).1 ∈ S := by rw [e]; exact h
theorem wk_s (e : pr_I i = x) (h : Cond.selects x.1.cls x.1 x.1 ∈ S) : Cond.selects (pr_I i).1.cls (pr_I i).1 (pr_I i).1 ∈ S := by rw [e]; exact h
theorem wk_c (e : pr_I i = x) (p : (pr_P i).1 = k) (h : ev_cw x k ∈ S) : ev_cw (pr_I i) (pr_P i).1 ∈ S := by rw [e, p]; exact h
end WK
theorem pt_w1_2 : (Cond.methodLink "OrphanTree" 1 Lib.objectInit) ∈ ev_UW ∧ (Cond.instanceMethod Lib.objectInit) ∈ ev_UW ∧ (Cond.code Lib.objectInit ⟨#[0xb1]⟩ 1 none) ∈ ev_UW ∧ (Cond.classLink "OrphanTree" 7 "OrphanTree$Tree") ∈ ev_UW ∧ (Cond.instantiable "OrphanTree$Tree" 10) ∈ ev_UW ∧ (Cond.methodLink "OrphanTree" 9 pr_i70.1) ∈ ev_UW ∧ (ev_cw pr_i70 2) ∈ ev_UW ∧ (Cond.instanceMethod pr_i70.1) ∈ ev_UW ∧ (Cond.methodLink "OrphanTree$Tree" 3 Lib.objectInit) ∈ ev_UW ∧ (Cond.classLink "OrphanTree$Tree" 9 "OrphanTree$Proc") ∈ ev_UW ∧ (Cond.instantiable "OrphanTree$Proc" 15) ∈ ev_UW := by
  have e : (tables_1_1.drop 32).take 16 = [_, _, _, _, _, (Cond.methodLink "OrphanTree" 1 Lib.objectInit), (Cond.instanceMethod Lib.objectInit), (Cond.code Lib.objectInit ⟨#[0xb1]⟩ 1 none), (Cond.classLink "OrphanTree" 7 "OrphanTree$Tree"), (Cond.instantiable "OrphanTree$Tree" 10), (Cond.methodLink "OrphanTree" 9 pr_i70.1), (Cond.instanceMethod pr_i70.1), (ev_cw pr_i70 2), (Cond.methodLink "OrphanTree$Tree" 3 Lib.objectInit), (Cond.classLink "OrphanTree$Tree" 9 "OrphanTree$Proc"), (Cond.instantiable "OrphanTree$Proc" 15)] := rfl
  exact ⟨uw_s tk_1 32 e 5 rfl rfl, uw_s tk_1 32 e 6 rfl rfl, uw_s tk_1 32 e 7 rfl rfl, uw_s tk_1 32 e 8 rfl rfl, uw_s tk_1 32 e 9 rfl rfl, uw_s tk_1 32 e 10 rfl rfl, uw_s tk_1 32 e 12 rfl rfl, uw_s tk_1 32 e 11 rfl rfl, uw_s tk_1 32 e 13 rfl rfl, uw_s tk_1 32 e 14 rfl rfl, uw_s tk_1 32 e 15 rfl rfl⟩
theorem pw_m_q0_1 : Cond.methodLink "OrphanTree" 1 Lib.objectInit ∈ ev_UW := pt_w1_2.1
theorem pw_oi : Cond.instanceMethod Lib.objectInit ∈ ev_UW := pt_w1_2.2.1
theorem pw_oc : Cond.code Lib.objectInit ⟨#[0xb1]⟩ 1 none ∈ ev_UW := pt_w1_2.2.2.1
theorem pw_cl_q0_7 : Cond.classLink "OrphanTree" 7 "OrphanTree$Tree" ∈ ev_UW := pt_w1_2.2.2.2.1
theorem pw_in_q1 : Cond.instantiable "OrphanTree$Tree" 10 ∈ ev_UW := pt_w1_2.2.2.2.2.1
theorem pw_m_q0_9 : Cond.methodLink "OrphanTree" 9 (pr_I 70).1 ∈ ev_UW := wk_m qI_70 pt_w1_2.2.2.2.2.2.1
theorem pw_c_70 : ev_cw (pr_I 70) (pr_P 70).1 ∈ ev_UW := wk_c qI_70 pp_70 pt_w1_2.2.2.2.2.2.2.1
theorem pw_v_70 : Cond.instanceMethod (pr_I 70).1 ∈ ev_UW := wk_v qI_70 pt_w1_2.2.2.2.2.2.2.2.1
theorem pw_m_q1_3 : Cond.methodLink "OrphanTree$Tree" 3 Lib.objectInit ∈ ev_UW := pt_w1_2.2.2.2.2.2.2.2.2.1
theorem pw_cl_q1_9 : Cond.classLink "OrphanTree$Tree" 9 "OrphanTree$Proc" ∈ ev_UW := pt_w1_2.2.2.2.2.2.2.2.2.2.1
theorem pw_in_q8 : Cond.instantiable "OrphanTree$Proc" 15 ∈ ev_UW := pt_w1_2.2.2.2.2.2.2.2.2.2.2
theorem pt_w1_0 : (Cond.initialized "OrphanTree$Tree") ∈ ev_UW ∧ (Cond.initialized "OrphanTree") ∈ ev_UW ∧ (Cond.initialized "OrphanTree$History") ∈ ev_UW ∧ (Cond.initialized "OrphanTree$Proc") ∈ ev_UW ∧ (Cond.initialized "java/lang/System") ∈ ev_UW := by
  have e : (tables_1_1.drop 0).take 16 = [_, _, _, _, _, _, _, _, (Cond.initialized "java/lang/System"), _, _, _, (Cond.initialized "OrphanTree"), (Cond.initialized "OrphanTree$Tree"), (Cond.initialized "OrphanTree$Proc"), (Cond.initialized "OrphanTree$History")] := rfl
  exact ⟨uw_s tk_1 0 e 13 rfl rfl, uw_s tk_1 0 e 12 rfl rfl, uw_s tk_1 0 e 15 rfl rfl, uw_s tk_1 0 e 14 rfl rfl, uw_s tk_1 0 e 8 rfl rfl⟩
theorem pw_i_q1 : Cond.initialized "OrphanTree$Tree" ∈ ev_UW := pt_w1_0.1
theorem pw_i_q0 : Cond.initialized "OrphanTree" ∈ ev_UW := pt_w1_0.2.1
theorem pw_i_q2 : Cond.initialized "OrphanTree$History" ∈ ev_UW := pt_w1_0.2.2.1
theorem pw_i_q8 : Cond.initialized "OrphanTree$Proc" ∈ ev_UW := pt_w1_0.2.2.2.1
theorem pw_i_q11 : Cond.initialized "java/lang/System" ∈ ev_UW := pt_w1_0.2.2.2.2
theorem pt_w2_2 : (Cond.fieldLink "OrphanTree" 10 (TX6 0).1 (TX6 0).2.1 (TX6 0).2.2.1) ∈ ev_UW ∧ (Cond.fieldLink "OrphanTree" 16 (TX6 1).1 (TX6 1).2.1 (TX6 1).2.2.1) ∈ ev_UW ∧ (Cond.fieldLink "OrphanTree" 19 (TX6 2).1 (TX6 2).2.1 (TX6 2).2.2.1) ∈ ev_UW ∧ (Cond.fieldLink "OrphanTree" 25 (TX6 3).1 (TX6 3).2.1 (TX6 3).2.2.1) ∈ ev_UW ∧ (Cond.fieldLink "OrphanTree" 32 (TX6 4).1 (TX6 4).2.1 (TX6 4).2.2.1) ∈ ev_UW ∧ (Cond.fieldLink "OrphanTree" 39 (TX6 5).1 (TX6 5).2.1 (TX6 5).2.2.1) ∈ ev_UW ∧ (Cond.fieldLink "OrphanTree" 43 (TX6 6).1 (TX6 6).2.1 (TX6 6).2.2.1) ∈ ev_UW ∧ (Cond.fieldLink "OrphanTree$Output" 9 (TX2 0).1 (TX2 0).2.1 (TX2 0).2.2.1) ∈ ev_UW ∧ (Cond.fieldLink "OrphanTree$Output" 15 (TX2 1).1 (TX2 1).2.1 (TX2 1).2.2.1) ∈ ev_UW ∧ (Cond.fieldLinkNest "OrphanTree" 79 (TX2 1).1 (TX2 1).2.1 (TX2 1).2.2.1 "OrphanTree") ∈ lw_tbl := by
  have e : (tables_1_2.drop 32).take 16 = [(Cond.fieldLink "OrphanTree$Output" 9 (TX2 0).1 (TX2 0).2.1 (TX2 0).2.2.1), (Cond.fieldLink "OrphanTree$Output" 15 (TX2 1).1 (TX2 1).2.1 (TX2 1).2.2.1), (Cond.fieldLinkNest "OrphanTree" 79 (TX2 1).1 (TX2 1).2.1 (TX2 1).2.2.1 "OrphanTree"), _, _, _, _, _, (Cond.fieldLink "OrphanTree" 10 (TX6 0).1 (TX6 0).2.1 (TX6 0).2.2.1), (Cond.fieldLink "OrphanTree" 16 (TX6 1).1 (TX6 1).2.1 (TX6 1).2.2.1), (Cond.fieldLink "OrphanTree" 19 (TX6 2).1 (TX6 2).2.1 (TX6 2).2.2.1), (Cond.fieldLink "OrphanTree" 25 (TX6 3).1 (TX6 3).2.1 (TX6 3).2.2.1), (Cond.fieldLink "OrphanTree" 32 (TX6 4).1 (TX6 4).2.1 (TX6 4).2.2.1), (Cond.fieldLink "OrphanTree" 39 (TX6 5).1 (TX6 5).2.1 (TX6 5).2.2.1), (Cond.fieldLink "OrphanTree" 43 (TX6 6).1 (TX6 6).2.1 (TX6 6).2.2.1), _] := rfl
  exact ⟨uw_s tk_2 32 e 8 rfl rfl, uw_s tk_2 32 e 9 rfl rfl, uw_s tk_2 32 e 10 rfl rfl, uw_s tk_2 32 e 11 rfl rfl, uw_s tk_2 32 e 12 rfl rfl, uw_s tk_2 32 e 13 rfl rfl, uw_s tk_2 32 e 14 rfl rfl, uw_s tk_2 32 e 0 rfl rfl, uw_s tk_2 32 e 1 rfl rfl, tw_s tk_2 32 e 2 rfl⟩
theorem pw_f_q0_10 : Cond.fieldLink "OrphanTree" 10 (TX6 0).1 (TX6 0).2.1 (TX6 0).2.2.1 ∈ ev_UW := pt_w2_2.1
theorem pw_f_q0_16 : Cond.fieldLink "OrphanTree" 16 (TX6 1).1 (TX6 1).2.1 (TX6 1).2.2.1 ∈ ev_UW := pt_w2_2.2.1
theorem pw_f_q0_19 : Cond.fieldLink "OrphanTree" 19 (TX6 2).1 (TX6 2).2.1 (TX6 2).2.2.1 ∈ ev_UW := pt_w2_2.2.2.1
theorem pw_f_q0_25 : Cond.fieldLink "OrphanTree" 25 (TX6 3).1 (TX6 3).2.1 (TX6 3).2.2.1 ∈ ev_UW := pt_w2_2.2.2.2.1
theorem pw_f_q0_32 : Cond.fieldLink "OrphanTree" 32 (TX6 4).1 (TX6 4).2.1 (TX6 4).2.2.1 ∈ ev_UW := pt_w2_2.2.2.2.2.1
theorem pw_f_q0_39 : Cond.fieldLink "OrphanTree" 39 (TX6 5).1 (TX6 5).2.1 (TX6 5).2.2.1 ∈ ev_UW := pt_w2_2.2.2.2.2.2.1
theorem pw_f_q0_43 : Cond.fieldLink "OrphanTree" 43 (TX6 6).1 (TX6 6).2.1 (TX6 6).2.2.1 ∈ ev_UW := pt_w2_2.2.2.2.2.2.2.1
theorem pw_f_q4_9 : Cond.fieldLink "OrphanTree$Output" 9 (TX2 0).1 (TX2 0).2.1 (TX2 0).2.2.1 ∈ ev_UW := pt_w2_2.2.2.2.2.2.2.2.1
theorem pw_f_q4_15 : Cond.fieldLink "OrphanTree$Output" 15 (TX2 1).1 (TX2 1).2.1 (TX2 1).2.2.1 ∈ ev_UW := pt_w2_2.2.2.2.2.2.2.2.2.1
theorem pw_f_q0_79 : Cond.fieldLinkNest "OrphanTree" 79 (TX2 1).1 (TX2 1).2.1 (TX2 1).2.2.1 "OrphanTree" ∈ lw_tbl := pt_w2_2.2.2.2.2.2.2.2.2.2
theorem pt_w1_11 : (Cond.classLink "OrphanTree" 22 "OrphanTree$History") ∈ ev_UW ∧ (Cond.instantiable "OrphanTree$History" 3) ∈ ev_UW ∧ (Cond.methodLink "OrphanTree" 24 pr_i28.1) ∈ ev_UW ∧ (ev_cw pr_i28 2) ∈ ev_UW ∧ (Cond.instanceMethod pr_i28.1) ∈ ev_UW ∧ (Cond.methodLink "OrphanTree$History" 3 Lib.objectInit) ∈ ev_UW ∧ (Cond.classLink "OrphanTree$History" 9 "OrphanTree$Tree") ∈ ev_UW ∧ (Cond.arrayClass (newarray.typeOf .int)) ∈ ev_UW := by
  have e : (tables_1_1.drop 176).take 16 = [_, _, _, _, _, _, _, _, (Cond.arrayClass (newarray.typeOf .int)), (Cond.classLink "OrphanTree" 22 "OrphanTree$History"), (Cond.instantiable "OrphanTree$History" 3), (Cond.methodLink "OrphanTree" 24 pr_i28.1), (Cond.instanceMethod pr_i28.1), (ev_cw pr_i28 2), (Cond.methodLink "OrphanTree$History" 3 Lib.objectInit), (Cond.classLink "OrphanTree$History" 9 "OrphanTree$Tree")] := rfl
  exact ⟨uw_s tk_1 176 e 9 rfl rfl, uw_s tk_1 176 e 10 rfl rfl, uw_s tk_1 176 e 11 rfl rfl, uw_s tk_1 176 e 13 rfl rfl, uw_s tk_1 176 e 12 rfl rfl, uw_s tk_1 176 e 14 rfl rfl, uw_s tk_1 176 e 15 rfl rfl, uw_s tk_1 176 e 8 rfl rfl⟩
theorem pw_cl_q0_22 : Cond.classLink "OrphanTree" 22 "OrphanTree$History" ∈ ev_UW := pt_w1_11.1
theorem pw_in_q2 : Cond.instantiable "OrphanTree$History" 3 ∈ ev_UW := pt_w1_11.2.1
theorem pw_m_q0_24 : Cond.methodLink "OrphanTree" 24 (pr_I 28).1 ∈ ev_UW := wk_m qI_28 pt_w1_11.2.2.1
theorem pw_c_28 : ev_cw (pr_I 28) (pr_P 28).1 ∈ ev_UW := wk_c qI_28 pp_28 pt_w1_11.2.2.2.1
theorem pw_v_28 : Cond.instanceMethod (pr_I 28).1 ∈ ev_UW := wk_v qI_28 pt_w1_11.2.2.2.2.1
theorem pw_m_q2_3 : Cond.methodLink "OrphanTree$History" 3 Lib.objectInit ∈ ev_UW := pt_w1_11.2.2.2.2.2.1
theorem pw_cl_q2_9 : Cond.classLink "OrphanTree$History" 9 "OrphanTree$Tree" ∈ ev_UW := pt_w1_11.2.2.2.2.2.2.1
theorem pw_a_int : Cond.arrayClass (newarray.typeOf .int) ∈ ev_UW := pt_w1_11.2.2.2.2.2.2.2
theorem pt_w1_12 : (Cond.classLink "OrphanTree" 29 "OrphanTree$SetupReader") ∈ ev_UW ∧ (Cond.instantiable "OrphanTree$SetupReader" 11) ∈ ev_UW ∧ (Cond.fieldLink "OrphanTree$History" 11 (TX0 0).1 (TX0 0).2.1 (TX0 0).2.2.1) ∈ ev_UW ∧ (Cond.fieldLink "OrphanTree$History" 17 (TX0 1).1 (TX0 1).2.1 (TX0 1).2.2.1) ∈ ev_UW ∧ (Cond.fieldLink "OrphanTree$History" 21 (TX0 2).1 (TX0 2).2.1 (TX0 2).2.2.1) ∈ ev_UW ∧ (Cond.methodLink "OrphanTree$History" 24 pr_i70.1) ∈ ev_UW ∧ (Cond.methodLinkNest "OrphanTree" 31 pr_i50.1 "OrphanTree") ∈ lw_tbl ∧ (Cond.fieldLinkNest "OrphanTree" 76 (TX0 1).1 (TX0 1).2.1 (TX0 1).2.2.1 "OrphanTree") ∈ lw_tbl ∧ (Cond.arrayOver (.object "OrphanTree$Tree")) ∈ lw_tbl := by
  have e : (tables_1_1.drop 192).take 16 = [(Cond.arrayOver (.object "OrphanTree$Tree")), (Cond.methodLink "OrphanTree$History" 24 pr_i70.1), (Cond.fieldLink "OrphanTree$History" 11 (TX0 0).1 (TX0 0).2.1 (TX0 0).2.2.1), (Cond.fieldLink "OrphanTree$History" 17 (TX0 1).1 (TX0 1).2.1 (TX0 1).2.2.1), (Cond.fieldLinkNest "OrphanTree" 76 (TX0 1).1 (TX0 1).2.1 (TX0 1).2.2.1 "OrphanTree"), (Cond.fieldLink "OrphanTree$History" 21 (TX0 2).1 (TX0 2).2.1 (TX0 2).2.2.1), _, _, _, _, _, _, _, (Cond.classLink "OrphanTree" 29 "OrphanTree$SetupReader"), (Cond.instantiable "OrphanTree$SetupReader" 11), (Cond.methodLinkNest "OrphanTree" 31 pr_i50.1 "OrphanTree")] := rfl
  exact ⟨uw_s tk_1 192 e 13 rfl rfl, uw_s tk_1 192 e 14 rfl rfl, uw_s tk_1 192 e 2 rfl rfl, uw_s tk_1 192 e 3 rfl rfl, uw_s tk_1 192 e 5 rfl rfl, uw_s tk_1 192 e 1 rfl rfl, tw_s tk_1 192 e 15 rfl, tw_s tk_1 192 e 4 rfl, tw_s tk_1 192 e 0 rfl⟩
theorem pw_cl_q0_29 : Cond.classLink "OrphanTree" 29 "OrphanTree$SetupReader" ∈ ev_UW := pt_w1_12.1
theorem pw_in_q3 : Cond.instantiable "OrphanTree$SetupReader" 11 ∈ ev_UW := pt_w1_12.2.1
theorem pw_f_q2_11 : Cond.fieldLink "OrphanTree$History" 11 (TX0 0).1 (TX0 0).2.1 (TX0 0).2.2.1 ∈ ev_UW := pt_w1_12.2.2.1
theorem pw_f_q2_17 : Cond.fieldLink "OrphanTree$History" 17 (TX0 1).1 (TX0 1).2.1 (TX0 1).2.2.1 ∈ ev_UW := pt_w1_12.2.2.2.1
theorem pw_f_q2_21 : Cond.fieldLink "OrphanTree$History" 21 (TX0 2).1 (TX0 2).2.1 (TX0 2).2.2.1 ∈ ev_UW := pt_w1_12.2.2.2.2.1
theorem pw_m_q2_24 : Cond.methodLink "OrphanTree$History" 24 (pr_I 70).1 ∈ ev_UW := wk_m qI_70 pt_w1_12.2.2.2.2.2.1
theorem pw_m_q0_31 : Cond.methodLinkNest "OrphanTree" 31 (pr_I 50).1 "OrphanTree" ∈ lw_tbl := wk_n qI_50 pt_w1_12.2.2.2.2.2.2.1
theorem pw_f_q0_76 : Cond.fieldLinkNest "OrphanTree" 76 (TX0 1).1 (TX0 1).2.1 (TX0 1).2.2.1 "OrphanTree" ∈ lw_tbl := pt_w1_12.2.2.2.2.2.2.2.1
theorem pw_o_q1 : Cond.arrayOver (.object "OrphanTree$Tree") ∈ lw_tbl := pt_w1_12.2.2.2.2.2.2.2.2
theorem pt_w1_1 : (Cond.initialized "OrphanTree$SetupReader") ∈ ev_UW ∧ (Cond.initialized "OrphanTree$Output") ∈ ev_UW ∧ (Cond.initialized "OrphanTree$Input") ∈ ev_UW ∧ (Cond.initialized "java/lang/Integer") ∈ ev_UW ∧ (Cond.initialized "java/lang/IllegalArgumentException") ∈ ev_UW ∧ (Cond.initialized "java/lang/IndexOutOfBoundsException") ∈ ev_UW ∧ (Cond.initialized "java/lang/IllegalStateException") ∈ ev_UW := by
  have e : (tables_1_1.drop 16).take 16 = [(Cond.initialized "OrphanTree$SetupReader"), (Cond.initialized "OrphanTree$Input"), (Cond.initialized "OrphanTree$Output"), _, _, _, _, _, _, (Cond.initialized "java/lang/Integer"), _, _, _, (Cond.initialized "java/lang/IndexOutOfBoundsException"), (Cond.initialized "java/lang/IllegalArgumentException"), (Cond.initialized "java/lang/IllegalStateException")] := rfl
  exact ⟨uw_s tk_1 16 e 0 rfl rfl, uw_s tk_1 16 e 2 rfl rfl, uw_s tk_1 16 e 1 rfl rfl, uw_s tk_1 16 e 9 rfl rfl, uw_s tk_1 16 e 14 rfl rfl, uw_s tk_1 16 e 13 rfl rfl, uw_s tk_1 16 e 15 rfl rfl⟩
theorem pw_i_q3 : Cond.initialized "OrphanTree$SetupReader" ∈ ev_UW := pt_w1_1.1
theorem pw_i_q4 : Cond.initialized "OrphanTree$Output" ∈ ev_UW := pt_w1_1.2.1
theorem pw_i_q5 : Cond.initialized "OrphanTree$Input" ∈ ev_UW := pt_w1_1.2.2.1
theorem pw_i_q6 : Cond.initialized "java/lang/Integer" ∈ ev_UW := pt_w1_1.2.2.2.1
theorem pw_i_q7 : Cond.initialized "java/lang/IllegalArgumentException" ∈ ev_UW := pt_w1_1.2.2.2.2.1
theorem pw_i_q9 : Cond.initialized "java/lang/IndexOutOfBoundsException" ∈ ev_UW := pt_w1_1.2.2.2.2.2.1
theorem pw_i_q10 : Cond.initialized "java/lang/IllegalStateException" ∈ ev_UW := pt_w1_1.2.2.2.2.2.2
theorem pt_w1_13 : (ev_cw pr_i50 1) ∈ ev_UW ∧ (Cond.instanceMethod pr_i50.1) ∈ ev_UW ∧ (Cond.methodLink "OrphanTree$Input" 3 Lib.objectInit) ∈ ev_UW ∧ (Cond.fieldLink "OrphanTree$Input" 9 (TX1 0).1 (TX1 0).2.1 (TX1 0).2.2.1) ∈ ev_UW ∧ (Cond.fieldLink "OrphanTree$Input" 15 (TX1 1).1 (TX1 1).2.1 (TX1 1).2.2.1) ∈ ev_UW ∧ (Cond.methodLink "OrphanTree$SetupReader" 3 Lib.objectInit) ∈ ev_UW ∧ (Cond.classLink "OrphanTree$SetupReader" 9 "OrphanTree$Input") ∈ ev_UW ∧ (Cond.instantiable "OrphanTree$Input" 2) ∈ ev_UW ∧ (ev_cw pr_i30 1) ∈ ev_UW ∧ (Cond.instanceMethod pr_i30.1) ∈ ev_UW ∧ (Cond.fieldLinkNest "OrphanTree" 51 (TX1 1).1 (TX1 1).2.1 (TX1 1).2.2.1 "OrphanTree") ∈ lw_tbl ∧ (Cond.methodLinkNest "OrphanTree$SetupReader" 11 pr_i30.1 "OrphanTree") ∈ lw_tbl ∧ (Cond.fieldLinkNest "OrphanTree$SetupReader" 192 (TX1 1).1 (TX1 1).2.1 (TX1 1).2.2.1 "OrphanTree") ∈ lw_tbl := by
  have e : (tables_1_1.drop 208).take 16 = [(Cond.instanceMethod pr_i50.1), (ev_cw pr_i50 1), (Cond.methodLink "OrphanTree$SetupReader" 3 Lib.objectInit), (Cond.classLink "OrphanTree$SetupReader" 9 "OrphanTree$Input"), (Cond.instantiable "OrphanTree$Input" 2), (Cond.methodLinkNest "OrphanTree$SetupReader" 11 pr_i30.1 "OrphanTree"), (Cond.instanceMethod pr_i30.1), (ev_cw pr_i30 1), (Cond.methodLink "OrphanTree$Input" 3 Lib.objectInit), (Cond.fieldLink "OrphanTree$Input" 9 (TX1 0).1 (TX1 0).2.1 (TX1 0).2.2.1), (Cond.fieldLink "OrphanTree$Input" 15 (TX1 1).1 (TX1 1).2.1 (TX1 1).2.2.1), (Cond.fieldLinkNest "OrphanTree" 51 (TX1 1).1 (TX1 1).2.1 (TX1 1).2.2.1 "OrphanTree"), (Cond.fieldLinkNest "OrphanTree$SetupReader" 192 (TX1 1).1 (TX1 1).2.1 (TX1 1).2.2.1 "OrphanTree"), _, _, _] := rfl
  exact ⟨uw_s tk_1 208 e 1 rfl rfl, uw_s tk_1 208 e 0 rfl rfl, uw_s tk_1 208 e 8 rfl rfl, uw_s tk_1 208 e 9 rfl rfl, uw_s tk_1 208 e 10 rfl rfl, uw_s tk_1 208 e 2 rfl rfl, uw_s tk_1 208 e 3 rfl rfl, uw_s tk_1 208 e 4 rfl rfl, uw_s tk_1 208 e 7 rfl rfl, uw_s tk_1 208 e 6 rfl rfl, tw_s tk_1 208 e 11 rfl, tw_s tk_1 208 e 5 rfl, tw_s tk_1 208 e 12 rfl⟩
theorem pw_c_50 : ev_cw (pr_I 50) (pr_P 50).1 ∈ ev_UW := wk_c qI_50 pp_50 pt_w1_13.1
theorem pw_v_50 : Cond.instanceMethod (pr_I 50).1 ∈ ev_UW := wk_v qI_50 pt_w1_13.2.1
theorem pw_m_q5_3 : Cond.methodLink "OrphanTree$Input" 3 Lib.objectInit ∈ ev_UW := pt_w1_13.2.2.1
theorem pw_f_q5_9 : Cond.fieldLink "OrphanTree$Input" 9 (TX1 0).1 (TX1 0).2.1 (TX1 0).2.2.1 ∈ ev_UW := pt_w1_13.2.2.2.1
theorem pw_f_q5_15 : Cond.fieldLink "OrphanTree$Input" 15 (TX1 1).1 (TX1 1).2.1 (TX1 1).2.2.1 ∈ ev_UW := pt_w1_13.2.2.2.2.1
theorem pw_m_q3_3 : Cond.methodLink "OrphanTree$SetupReader" 3 Lib.objectInit ∈ ev_UW := pt_w1_13.2.2.2.2.2.1
theorem pw_cl_q3_9 : Cond.classLink "OrphanTree$SetupReader" 9 "OrphanTree$Input" ∈ ev_UW := pt_w1_13.2.2.2.2.2.2.1
theorem pw_in_q5 : Cond.instantiable "OrphanTree$Input" 2 ∈ ev_UW := pt_w1_13.2.2.2.2.2.2.2.1
theorem pw_c_30 : ev_cw (pr_I 30) (pr_P 30).1 ∈ ev_UW := wk_c qI_30 pp_30 pt_w1_13.2.2.2.2.2.2.2.2.1
theorem pw_v_30 : Cond.instanceMethod (pr_I 30).1 ∈ ev_UW := wk_v qI_30 pt_w1_13.2.2.2.2.2.2.2.2.2.1
theorem pw_f_q0_51 : Cond.fieldLinkNest "OrphanTree" 51 (TX1 1).1 (TX1 1).2.1 (TX1 1).2.2.1 "OrphanTree" ∈ lw_tbl := pt_w1_13.2.2.2.2.2.2.2.2.2.2.1
theorem pw_m_q3_11 : Cond.methodLinkNest "OrphanTree$SetupReader" 11 (pr_I 30).1 "OrphanTree" ∈ lw_tbl := wk_n qI_30 pt_w1_13.2.2.2.2.2.2.2.2.2.2.2.1
theorem pw_f_q3_192 : Cond.fieldLinkNest "OrphanTree$SetupReader" 192 (TX1 1).1 (TX1 1).2.1 (TX1 1).2.2.1 "OrphanTree" ∈ lw_tbl := pt_w1_13.2.2.2.2.2.2.2.2.2.2.2.2
theorem pt_w2_1 : (Cond.classLink "OrphanTree" 36 "OrphanTree$Output") ∈ ev_UW ∧ (Cond.instantiable "OrphanTree$Output" 2) ∈ ev_UW ∧ (ev_cw pr_i33 1) ∈ ev_UW ∧ (Cond.instanceMethod pr_i33.1) ∈ ev_UW ∧ (Cond.methodLink "OrphanTree$Output" 3 Lib.objectInit) ∈ ev_UW ∧ (Cond.methodLinkNest "OrphanTree" 38 pr_i33.1 "OrphanTree") ∈ lw_tbl := by
  have e : (tables_1_2.drop 16).take 16 = [_, _, _, _, _, _, _, _, _, _, (Cond.classLink "OrphanTree" 36 "OrphanTree$Output"), (Cond.instantiable "OrphanTree$Output" 2), (Cond.methodLinkNest "OrphanTree" 38 pr_i33.1 "OrphanTree"), (Cond.instanceMethod pr_i33.1), (ev_cw pr_i33 1), (Cond.methodLink "OrphanTree$Output" 3 Lib.objectInit)] := rfl
  exact ⟨uw_s tk_2 16 e 10 rfl rfl, uw_s tk_2 16 e 11 rfl rfl, uw_s tk_2 16 e 14 rfl rfl, uw_s tk_2 16 e 13 rfl rfl, uw_s tk_2 16 e 15 rfl rfl, tw_s tk_2 16 e 12 rfl⟩
theorem pw_cl_q0_36 : Cond.classLink "OrphanTree" 36 "OrphanTree$Output" ∈ ev_UW := pt_w2_1.1
theorem pw_in_q4 : Cond.instantiable "OrphanTree$Output" 2 ∈ ev_UW := pt_w2_1.2.1
theorem pw_c_33 : ev_cw (pr_I 33) (pr_P 33).1 ∈ ev_UW := wk_c qI_33 pp_33 pt_w2_1.2.2.1
theorem pw_v_33 : Cond.instanceMethod (pr_I 33).1 ∈ ev_UW := wk_v qI_33 pt_w2_1.2.2.2.1
theorem pw_m_q4_3 : Cond.methodLink "OrphanTree$Output" 3 Lib.objectInit ∈ ev_UW := pt_w2_1.2.2.2.2.1
theorem pw_m_q0_38 : Cond.methodLinkNest "OrphanTree" 38 (pr_I 33).1 "OrphanTree" ∈ lw_tbl := wk_n qI_33 pt_w2_1.2.2.2.2.2
theorem pt_w3_1 : (Cond.methodLink "OrphanTree" 57 pr_i31.1) ∈ ev_UW ∧ (ev_cw pr_i31 3) ∈ ev_UW ∧ (Cond.instanceMethod pr_i31.1) ∈ ev_UW ∧ (Cond.selects pr_i31.1.cls pr_i31.1 pr_i31.1) ∈ ev_UW := by
  have e : (tables_1_3.drop 16).take 16 = [_, _, _, _, _, _, _, _, _, _, _, _, (Cond.methodLink "OrphanTree" 57 pr_i31.1), (Cond.instanceMethod pr_i31.1), (Cond.selects pr_i31.1.cls pr_i31.1 pr_i31.1), (ev_cw pr_i31 3)] := rfl
  exact ⟨uw_s tk_3 16 e 12 rfl rfl, uw_s tk_3 16 e 15 rfl rfl, uw_s tk_3 16 e 13 rfl rfl, uw_s tk_3 16 e 14 rfl rfl⟩
theorem pw_m_q0_57 : Cond.methodLink "OrphanTree" 57 (pr_I 31).1 ∈ ev_UW := wk_m qI_31 pt_w3_1.1
theorem pw_c_31 : ev_cw (pr_I 31) (pr_P 31).1 ∈ ev_UW := wk_c qI_31 pp_31 pt_w3_1.2.1
theorem pw_v_31 : Cond.instanceMethod (pr_I 31).1 ∈ ev_UW := wk_v qI_31 pt_w3_1.2.2.1
theorem pw_s_31 : Cond.selects (pr_I 31).1.cls (pr_I 31).1 (pr_I 31).1 ∈ ev_UW := wk_s qI_31 pt_w3_1.2.2.2
theorem pt_w2_4 : (Cond.methodLink "OrphanTree" 61 pr_i51.1) ∈ ev_UW ∧ (ev_cw pr_i51 1) ∈ ev_UW ∧ (Cond.instanceMethod pr_i51.1) ∈ ev_UW ∧ (Cond.selects pr_i51.1.cls pr_i51.1 pr_i51.1) ∈ ev_UW ∧ (Cond.methodLink "OrphanTree" 64 pr_i52.1) ∈ ev_UW ∧ (ev_cw pr_i52 1) ∈ ev_UW ∧ (Cond.instanceMethod pr_i52.1) ∈ ev_UW ∧ (Cond.selects pr_i52.1.cls pr_i52.1 pr_i52.1) ∈ ev_UW ∧ (Cond.methodLink "OrphanTree$SetupReader" 54 pr_i71.1) ∈ ev_UW ∧ (Cond.methodLink "OrphanTree$SetupReader" 57 pr_i66.1) ∈ ev_UW ∧ (ev_cw pr_i66 1) ∈ ev_UW ∧ (Cond.instanceMethod pr_i66.1) ∈ ev_UW ∧ (Cond.methodLink "OrphanTree$SetupReader" 195 pr_i32.1) ∈ ev_UW := by
  have e : (tables_1_2.drop 64).take 16 = [_, _, (Cond.methodLink "OrphanTree" 61 pr_i51.1), (Cond.instanceMethod pr_i51.1), (Cond.selects pr_i51.1.cls pr_i51.1 pr_i51.1), (ev_cw pr_i51 1), (Cond.methodLink "OrphanTree$SetupReader" 54 pr_i71.1), (Cond.methodLink "OrphanTree" 64 pr_i52.1), (Cond.instanceMethod pr_i52.1), (Cond.selects pr_i52.1.cls pr_i52.1 pr_i52.1), (ev_cw pr_i52 1), (Cond.methodLink "OrphanTree$SetupReader" 57 pr_i66.1), _, (Cond.instanceMethod pr_i66.1), (ev_cw pr_i66 1), (Cond.methodLink "OrphanTree$SetupReader" 195 pr_i32.1)] := rfl
  exact ⟨uw_s tk_2 64 e 2 rfl rfl, uw_s tk_2 64 e 5 rfl rfl, uw_s tk_2 64 e 3 rfl rfl, uw_s tk_2 64 e 4 rfl rfl, uw_s tk_2 64 e 7 rfl rfl, uw_s tk_2 64 e 10 rfl rfl, uw_s tk_2 64 e 8 rfl rfl, uw_s tk_2 64 e 9 rfl rfl, uw_s tk_2 64 e 6 rfl rfl, uw_s tk_2 64 e 11 rfl rfl, uw_s tk_2 64 e 14 rfl rfl, uw_s tk_2 64 e 13 rfl rfl, uw_s tk_2 64 e 15 rfl rfl⟩
theorem pw_m_q0_61 : Cond.methodLink "OrphanTree" 61 (pr_I 51).1 ∈ ev_UW := wk_m qI_51 pt_w2_4.1
theorem pw_c_51 : ev_cw (pr_I 51) (pr_P 51).1 ∈ ev_UW := wk_c qI_51 pp_51 pt_w2_4.2.1
theorem pw_v_51 : Cond.instanceMethod (pr_I 51).1 ∈ ev_UW := wk_v qI_51 pt_w2_4.2.2.1
theorem pw_s_51 : Cond.selects (pr_I 51).1.cls (pr_I 51).1 (pr_I 51).1 ∈ ev_UW := wk_s qI_51 pt_w2_4.2.2.2.1
theorem pw_m_q0_64 : Cond.methodLink "OrphanTree" 64 (pr_I 52).1 ∈ ev_UW := wk_m qI_52 pt_w2_4.2.2.2.2.1
theorem pw_c_52 : ev_cw (pr_I 52) (pr_P 52).1 ∈ ev_UW := wk_c qI_52 pp_52 pt_w2_4.2.2.2.2.2.1
theorem pw_v_52 : Cond.instanceMethod (pr_I 52).1 ∈ ev_UW := wk_v qI_52 pt_w2_4.2.2.2.2.2.2.1
theorem pw_s_52 : Cond.selects (pr_I 52).1.cls (pr_I 52).1 (pr_I 52).1 ∈ ev_UW := wk_s qI_52 pt_w2_4.2.2.2.2.2.2.2.1
theorem pw_m_q3_54 : Cond.methodLink "OrphanTree$SetupReader" 54 (pr_I 71).1 ∈ ev_UW := wk_m qI_71 pt_w2_4.2.2.2.2.2.2.2.2.1
theorem pw_m_q3_57 : Cond.methodLink "OrphanTree$SetupReader" 57 (pr_I 66).1 ∈ ev_UW := wk_m qI_66 pt_w2_4.2.2.2.2.2.2.2.2.2.1
theorem pw_c_66 : ev_cw (pr_I 66) (pr_P 66).1 ∈ ev_UW := wk_c qI_66 pp_66 pt_w2_4.2.2.2.2.2.2.2.2.2.2.1
theorem pw_v_66 : Cond.instanceMethod (pr_I 66).1 ∈ ev_UW := wk_v qI_66 pt_w2_4.2.2.2.2.2.2.2.2.2.2.2.1
theorem pw_m_q3_195 : Cond.methodLink "OrphanTree$SetupReader" 195 (pr_I 32).1 ∈ ev_UW := wk_m qI_32 pt_w2_4.2.2.2.2.2.2.2.2.2.2.2.2
theorem pt_w3_0 : (Cond.methodLink "OrphanTree" 72 pr_i74.1) ∈ ev_UW ∧ (ev_cw pr_i74 4) ∈ ev_UW ∧ (Cond.instanceMethod pr_i74.1) ∈ ev_UW ∧ (Cond.selects pr_i74.1.cls pr_i74.1 pr_i74.1) ∈ ev_UW ∧ (Cond.methodLink "OrphanTree$SetupReader" 185 pr_i48.1) ∈ ev_UW ∧ (ev_cw pr_i48 3) ∈ ev_UW ∧ (Cond.instanceMethod pr_i48.1) ∈ ev_UW ∧ (Cond.selects pr_i48.1.cls pr_i48.1 pr_i48.1) ∈ ev_UW ∧ (Cond.methodLink "OrphanTree$Tree" 60 pr_i36.1) ∈ ev_UW ∧ (ev_cw pr_i36 2) ∈ ev_UW ∧ (Cond.instanceMethod pr_i36.1) ∈ ev_UW ∧ (Cond.selects pr_i36.1.cls pr_i36.1 pr_i36.1) ∈ ev_UW ∧ (Cond.methodLink "OrphanTree$Tree" 70 pr_i75.1) ∈ ev_UW ∧ (Cond.methodLink "OrphanTree$Tree" 74 arraycopyName) ∈ ev_UW ∧ (Cond.native arraycopyName) ∈ ev_UW ∧ (Cond.static arraycopyName) ∈ ev_UW := by
  have e : (tables_1_3.drop 0).take 16 = [(Cond.methodLink "OrphanTree$SetupReader" 185 pr_i48.1), (Cond.instanceMethod pr_i48.1), (Cond.selects pr_i48.1.cls pr_i48.1 pr_i48.1), (ev_cw pr_i48 3), (Cond.methodLink "OrphanTree" 72 pr_i74.1), (Cond.instanceMethod pr_i74.1), (Cond.selects pr_i74.1.cls pr_i74.1 pr_i74.1), (ev_cw pr_i74 4), (Cond.methodLink "OrphanTree$Tree" 60 pr_i36.1), (Cond.instanceMethod pr_i36.1), (Cond.selects pr_i36.1.cls pr_i36.1 pr_i36.1), (ev_cw pr_i36 2), (Cond.methodLink "OrphanTree$Tree" 70 pr_i75.1), (Cond.methodLink "OrphanTree$Tree" 74 arraycopyName), (Cond.static arraycopyName), (Cond.native arraycopyName)] := rfl
  exact ⟨uw_s tk_3 0 e 4 rfl rfl, uw_s tk_3 0 e 7 rfl rfl, uw_s tk_3 0 e 5 rfl rfl, uw_s tk_3 0 e 6 rfl rfl, uw_s tk_3 0 e 0 rfl rfl, uw_s tk_3 0 e 3 rfl rfl, uw_s tk_3 0 e 1 rfl rfl, uw_s tk_3 0 e 2 rfl rfl, uw_s tk_3 0 e 8 rfl rfl, uw_s tk_3 0 e 11 rfl rfl, uw_s tk_3 0 e 9 rfl rfl, uw_s tk_3 0 e 10 rfl rfl, uw_s tk_3 0 e 12 rfl rfl, uw_s tk_3 0 e 13 rfl rfl, uw_s tk_3 0 e 15 rfl rfl, uw_s tk_3 0 e 14 rfl rfl⟩
theorem pw_m_q0_72 : Cond.methodLink "OrphanTree" 72 (pr_I 74).1 ∈ ev_UW := wk_m qI_74 pt_w3_0.1
theorem pw_c_74 : ev_cw (pr_I 74) (pr_P 74).1 ∈ ev_UW := wk_c qI_74 pp_74 pt_w3_0.2.1
theorem pw_v_74 : Cond.instanceMethod (pr_I 74).1 ∈ ev_UW := wk_v qI_74 pt_w3_0.2.2.1
theorem pw_s_74 : Cond.selects (pr_I 74).1.cls (pr_I 74).1 (pr_I 74).1 ∈ ev_UW := wk_s qI_74 pt_w3_0.2.2.2.1
theorem pw_m_q3_185 : Cond.methodLink "OrphanTree$SetupReader" 185 (pr_I 48).1 ∈ ev_UW := wk_m qI_48 pt_w3_0.2.2.2.2.1
theorem pw_c_48 : ev_cw (pr_I 48) (pr_P 48).1 ∈ ev_UW := wk_c qI_48 pp_48 pt_w3_0.2.2.2.2.2.1
theorem pw_v_48 : Cond.instanceMethod (pr_I 48).1 ∈ ev_UW := wk_v qI_48 pt_w3_0.2.2.2.2.2.2.1
theorem pw_s_48 : Cond.selects (pr_I 48).1.cls (pr_I 48).1 (pr_I 48).1 ∈ ev_UW := wk_s qI_48 pt_w3_0.2.2.2.2.2.2.2.1
theorem pw_m_q1_60 : Cond.methodLink "OrphanTree$Tree" 60 (pr_I 36).1 ∈ ev_UW := wk_m qI_36 pt_w3_0.2.2.2.2.2.2.2.2.1
theorem pw_c_36 : ev_cw (pr_I 36) (pr_P 36).1 ∈ ev_UW := wk_c qI_36 pp_36 pt_w3_0.2.2.2.2.2.2.2.2.2.1
theorem pw_v_36 : Cond.instanceMethod (pr_I 36).1 ∈ ev_UW := wk_v qI_36 pt_w3_0.2.2.2.2.2.2.2.2.2.2.1
theorem pw_s_36 : Cond.selects (pr_I 36).1.cls (pr_I 36).1 (pr_I 36).1 ∈ ev_UW := wk_s qI_36 pt_w3_0.2.2.2.2.2.2.2.2.2.2.2.1
theorem pw_m_q1_70 : Cond.methodLink "OrphanTree$Tree" 70 (pr_I 75).1 ∈ ev_UW := wk_m qI_75 pt_w3_0.2.2.2.2.2.2.2.2.2.2.2.2.1
theorem pw_m_q1_74 : Cond.methodLink "OrphanTree$Tree" 74 arraycopyName ∈ ev_UW := pt_w3_0.2.2.2.2.2.2.2.2.2.2.2.2.2.1
theorem pw_an : Cond.native arraycopyName ∈ ev_UW := pt_w3_0.2.2.2.2.2.2.2.2.2.2.2.2.2.2.1
theorem pw_as : Cond.static arraycopyName ∈ ev_UW := pt_w3_0.2.2.2.2.2.2.2.2.2.2.2.2.2.2.2
theorem pt_w6_2 : (Cond.methodLink "OrphanTree" 86 pr_i76.1) ∈ ev_UW ∧ (ev_cw pr_i86 7) ∈ ev_UW ∧ (Cond.instanceMethod pr_i86.1) ∈ ev_UW ∧ (Cond.selects pr_i86.1.cls pr_i86.1 pr_i86.1) ∈ ev_UW ∧ (Cond.methodLink "OrphanTree$Tree" 166 pr_i41.1) ∈ ev_UW ∧ (ev_cw pr_i41 1) ∈ ev_UW ∧ (Cond.instanceMethod pr_i41.1) ∈ ev_UW ∧ (Cond.selects pr_i41.1.cls pr_i41.1 pr_i41.1) ∈ ev_UW := by
  have e : (tables_1_6.drop 32).take 16 = [(Cond.instanceMethod pr_i86.1), (Cond.selects pr_i86.1.cls pr_i86.1 pr_i86.1), (ev_cw pr_i86 7), (Cond.methodLink "OrphanTree$Tree" 166 pr_i41.1), (Cond.instanceMethod pr_i41.1), (Cond.selects pr_i41.1.cls pr_i41.1 pr_i41.1), (ev_cw pr_i41 1), _, _, _, _, _, _, _, _, (Cond.methodLink "OrphanTree" 86 pr_i76.1)] := rfl
  exact ⟨uw_s tk_6 32 e 15 rfl rfl, uw_s tk_6 32 e 2 rfl rfl, uw_s tk_6 32 e 0 rfl rfl, uw_s tk_6 32 e 1 rfl rfl, uw_s tk_6 32 e 3 rfl rfl, uw_s tk_6 32 e 6 rfl rfl, uw_s tk_6 32 e 4 rfl rfl, uw_s tk_6 32 e 5 rfl rfl⟩
theorem pw_m_q0_86 : Cond.methodLink "OrphanTree" 86 (pr_I 76).1 ∈ ev_UW := wk_m qI_76 pt_w6_2.1
theorem pw_c_86 : ev_cw (pr_I 86) (pr_P 86).1 ∈ ev_UW := wk_c qI_86 pp_86 pt_w6_2.2.1
theorem pw_v_86 : Cond.instanceMethod (pr_I 86).1 ∈ ev_UW := wk_v qI_86 pt_w6_2.2.2.1
theorem pw_s_86 : Cond.selects (pr_I 86).1.cls (pr_I 86).1 (pr_I 86).1 ∈ ev_UW := wk_s qI_86 pt_w6_2.2.2.2.1
theorem pw_m_q1_166 : Cond.methodLink "OrphanTree$Tree" 166 (pr_I 41).1 ∈ ev_UW := wk_m qI_41 pt_w6_2.2.2.2.2.1
theorem pw_c_41 : ev_cw (pr_I 41) (pr_P 41).1 ∈ ev_UW := wk_c qI_41 pp_41 pt_w6_2.2.2.2.2.2.1
theorem pw_v_41 : Cond.instanceMethod (pr_I 41).1 ∈ ev_UW := wk_v qI_41 pt_w6_2.2.2.2.2.2.2.1
theorem pw_s_41 : Cond.selects (pr_I 41).1.cls (pr_I 41).1 (pr_I 41).1 ∈ ev_UW := wk_s qI_41 pt_w6_2.2.2.2.2.2.2.2
theorem pt_w6_3 : (ev_cw pr_i76 7) ∈ ev_UW ∧ (Cond.instanceMethod pr_i76.1) ∈ ev_UW ∧ (Cond.selects pr_i76.1.cls pr_i76.1 pr_i76.1) ∈ ev_UW ∧ (Cond.methodLink "OrphanTree" 110 pr_i117.1) ∈ ev_UW ∧ (Cond.static pr_i117.1) ∈ ev_UW ∧ (ev_cw pr_i117 1) ∈ ev_UW ∧ (Cond.constant "java/lang/Integer" 265 (1431655765 : Int32)) ∈ ev_UW ∧ (Cond.constant "java/lang/Integer" 266 (858993459 : Int32)) ∈ ev_UW ∧ (Cond.constant "java/lang/Integer" 267 (252645135 : Int32)) ∈ ev_UW := by
  have e : (tables_1_6.drop 48).take 16 = [(Cond.instanceMethod pr_i76.1), (Cond.selects pr_i76.1.cls pr_i76.1 pr_i76.1), (ev_cw pr_i76 7), (Cond.methodLink "OrphanTree" 110 pr_i117.1), (Cond.static pr_i117.1), (ev_cw pr_i117 1), (Cond.constant "java/lang/Integer" 265 (1431655765 : Int32)), (Cond.constant "java/lang/Integer" 266 (858993459 : Int32)), (Cond.constant "java/lang/Integer" 267 (252645135 : Int32)), _, _, _, _, _, _, _] := rfl
  exact ⟨uw_s tk_6 48 e 2 rfl rfl, uw_s tk_6 48 e 0 rfl rfl, uw_s tk_6 48 e 1 rfl rfl, uw_s tk_6 48 e 3 rfl rfl, uw_s tk_6 48 e 4 rfl rfl, uw_s tk_6 48 e 5 rfl rfl, uw_s tk_6 48 e 6 rfl rfl, uw_s tk_6 48 e 7 rfl rfl, uw_s tk_6 48 e 8 rfl rfl⟩
theorem pw_c_76 : ev_cw (pr_I 76) (pr_P 76).1 ∈ ev_UW := wk_c qI_76 pp_76 pt_w6_3.1
theorem pw_v_76 : Cond.instanceMethod (pr_I 76).1 ∈ ev_UW := wk_v qI_76 pt_w6_3.2.1
theorem pw_s_76 : Cond.selects (pr_I 76).1.cls (pr_I 76).1 (pr_I 76).1 ∈ ev_UW := wk_s qI_76 pt_w6_3.2.2.1
theorem pw_m_q0_110 : Cond.methodLink "OrphanTree" 110 (pr_I 117).1 ∈ ev_UW := wk_m qI_117 pt_w6_3.2.2.2.1
theorem pw_t_117 : Cond.static (pr_I 117).1 ∈ ev_UW := wk_t qI_117 pt_w6_3.2.2.2.2.1
theorem pw_c_117 : ev_cw (pr_I 117) (pr_P 117).1 ∈ ev_UW := wk_c qI_117 pp_117 pt_w6_3.2.2.2.2.2.1
theorem pw_k_q6_265 : Cond.constant "java/lang/Integer" 265 (1431655765 : Int32) ∈ ev_UW := pt_w6_3.2.2.2.2.2.2.1
theorem pw_k_q6_266 : Cond.constant "java/lang/Integer" 266 (858993459 : Int32) ∈ ev_UW := pt_w6_3.2.2.2.2.2.2.2.1
theorem pw_k_q6_267 : Cond.constant "java/lang/Integer" 267 (252645135 : Int32) ∈ ev_UW := pt_w6_3.2.2.2.2.2.2.2.2
theorem pt_w5_9 : (Cond.methodLink "OrphanTree" 106 pr_i80.1) ∈ ev_UW ∧ (ev_cw pr_i80 4) ∈ ev_UW ∧ (Cond.instanceMethod pr_i80.1) ∈ ev_UW ∧ (Cond.selects pr_i80.1.cls pr_i80.1 pr_i80.1) ∈ ev_UW ∧ (ev_cw pr_i25 1) ∈ ev_UW ∧ (Cond.methodLink "OrphanTree" 140 pr_i43.1) ∈ ev_UW ∧ (Cond.methodLink "OrphanTree" 147 pr_i77.1) ∈ ev_UW ∧ (ev_cw pr_i77 7) ∈ ev_UW ∧ (Cond.instanceMethod pr_i77.1) ∈ ev_UW ∧ (Cond.selects pr_i77.1.cls pr_i77.1 pr_i77.1) ∈ ev_UW ∧ (Cond.methodLink "OrphanTree" 174 pr_i49.1) ∈ ev_UW ∧ (Cond.instanceMethod pr_i49.1) ∈ ev_UW ∧ (Cond.methodLink "OrphanTree$Tree" 87 pr_i40.1) ∈ ev_UW ∧ (ev_cw pr_i40 2) ∈ ev_UW ∧ (Cond.instanceMethod pr_i40.1) ∈ ev_UW ∧ (Cond.selects pr_i40.1.cls pr_i40.1 pr_i40.1) ∈ ev_UW := by
  have e : (tables_1_5.drop 144).take 16 = [(ev_cw pr_i25 1), (Cond.methodLink "OrphanTree" 140 pr_i43.1), (Cond.methodLink "OrphanTree" 147 pr_i77.1), (Cond.instanceMethod pr_i77.1), (Cond.selects pr_i77.1.cls pr_i77.1 pr_i77.1), (ev_cw pr_i77 7), (Cond.methodLink "OrphanTree$Tree" 87 pr_i40.1), (Cond.instanceMethod pr_i40.1), (Cond.selects pr_i40.1.cls pr_i40.1 pr_i40.1), (ev_cw pr_i40 2), (Cond.methodLink "OrphanTree" 106 pr_i80.1), (Cond.instanceMethod pr_i80.1), (Cond.selects pr_i80.1.cls pr_i80.1 pr_i80.1), (ev_cw pr_i80 4), (Cond.methodLink "OrphanTree" 174 pr_i49.1), (Cond.instanceMethod pr_i49.1)] := rfl
  exact ⟨uw_s tk_5 144 e 10 rfl rfl, uw_s tk_5 144 e 13 rfl rfl, uw_s tk_5 144 e 11 rfl rfl, uw_s tk_5 144 e 12 rfl rfl, uw_s tk_5 144 e 0 rfl rfl, uw_s tk_5 144 e 1 rfl rfl, uw_s tk_5 144 e 2 rfl rfl, uw_s tk_5 144 e 5 rfl rfl, uw_s tk_5 144 e 3 rfl rfl, uw_s tk_5 144 e 4 rfl rfl, uw_s tk_5 144 e 14 rfl rfl, uw_s tk_5 144 e 15 rfl rfl, uw_s tk_5 144 e 6 rfl rfl, uw_s tk_5 144 e 9 rfl rfl, uw_s tk_5 144 e 7 rfl rfl, uw_s tk_5 144 e 8 rfl rfl⟩
theorem pw_m_q0_106 : Cond.methodLink "OrphanTree" 106 (pr_I 80).1 ∈ ev_UW := wk_m qI_80 pt_w5_9.1
theorem pw_c_80 : ev_cw (pr_I 80) (pr_P 80).1 ∈ ev_UW := wk_c qI_80 pp_80 pt_w5_9.2.1
theorem pw_v_80 : Cond.instanceMethod (pr_I 80).1 ∈ ev_UW := wk_v qI_80 pt_w5_9.2.2.1
theorem pw_s_80 : Cond.selects (pr_I 80).1.cls (pr_I 80).1 (pr_I 80).1 ∈ ev_UW := wk_s qI_80 pt_w5_9.2.2.2.1
theorem pw_c_25 : ev_cw (pr_I 25) (pr_P 25).1 ∈ ev_UW := wk_c qI_25 pp_25 pt_w5_9.2.2.2.2.1
theorem pw_m_q0_140 : Cond.methodLink "OrphanTree" 140 (pr_I 43).1 ∈ ev_UW := wk_m qI_43 pt_w5_9.2.2.2.2.2.1
theorem pw_m_q0_147 : Cond.methodLink "OrphanTree" 147 (pr_I 77).1 ∈ ev_UW := wk_m qI_77 pt_w5_9.2.2.2.2.2.2.1
theorem pw_c_77 : ev_cw (pr_I 77) (pr_P 77).1 ∈ ev_UW := wk_c qI_77 pp_77 pt_w5_9.2.2.2.2.2.2.2.1
theorem pw_v_77 : Cond.instanceMethod (pr_I 77).1 ∈ ev_UW := wk_v qI_77 pt_w5_9.2.2.2.2.2.2.2.2.1
theorem pw_s_77 : Cond.selects (pr_I 77).1.cls (pr_I 77).1 (pr_I 77).1 ∈ ev_UW := wk_s qI_77 pt_w5_9.2.2.2.2.2.2.2.2.2.1
theorem pw_m_q0_174 : Cond.methodLink "OrphanTree" 174 (pr_I 49).1 ∈ ev_UW := wk_m qI_49 pt_w5_9.2.2.2.2.2.2.2.2.2.2.1
theorem pw_v_49 : Cond.instanceMethod (pr_I 49).1 ∈ ev_UW := wk_v qI_49 pt_w5_9.2.2.2.2.2.2.2.2.2.2.2.1
theorem pw_m_q1_87 : Cond.methodLink "OrphanTree$Tree" 87 (pr_I 40).1 ∈ ev_UW := wk_m qI_40 pt_w5_9.2.2.2.2.2.2.2.2.2.2.2.2.1
theorem pw_c_40 : ev_cw (pr_I 40) (pr_P 40).1 ∈ ev_UW := wk_c qI_40 pp_40 pt_w5_9.2.2.2.2.2.2.2.2.2.2.2.2.2.1
theorem pw_v_40 : Cond.instanceMethod (pr_I 40).1 ∈ ev_UW := wk_v qI_40 pt_w5_9.2.2.2.2.2.2.2.2.2.2.2.2.2.2.1
theorem pw_s_40 : Cond.selects (pr_I 40).1.cls (pr_I 40).1 (pr_I 40).1 ∈ ev_UW := wk_s qI_40 pt_w5_9.2.2.2.2.2.2.2.2.2.2.2.2.2.2.2
theorem pt_w5_10 : (Cond.classLink "OrphanTree" 118 "java/lang/IllegalArgumentException") ∈ ev_UW ∧ (ev_cw pr_i49 3) ∈ ev_UW ∧ (Cond.selects pr_i49.1.cls pr_i49.1 pr_i49.1) ∈ ev_UW ∧ (Cond.methodLink "OrphanTree$Proc" 62 pr_i47.1) ∈ ev_UW := by
  have e : (tables_1_5.drop 160).take 16 = [(Cond.selects pr_i49.1.cls pr_i49.1 pr_i49.1), (ev_cw pr_i49 3), (Cond.methodLink "OrphanTree$Proc" 62 pr_i47.1), (Cond.classLink "OrphanTree" 118 "java/lang/IllegalArgumentException"), _, _, _, _, _, _, _, _, _, _, _, _] := rfl
  exact ⟨uw_s tk_5 160 e 3 rfl rfl, uw_s tk_5 160 e 1 rfl rfl, uw_s tk_5 160 e 0 rfl rfl, uw_s tk_5 160 e 2 rfl rfl⟩
theorem pw_cl_q0_118 : Cond.classLink "OrphanTree" 118 "java/lang/IllegalArgumentException" ∈ ev_UW := pt_w5_10.1
theorem pw_c_49 : ev_cw (pr_I 49) (pr_P 49).1 ∈ ev_UW := wk_c qI_49 pp_49 pt_w5_10.2.1
theorem pw_s_49 : Cond.selects (pr_I 49).1.cls (pr_I 49).1 (pr_I 49).1 ∈ ev_UW := wk_s qI_49 pt_w5_10.2.2.1
theorem pw_m_q8_62 : Cond.methodLink "OrphanTree$Proc" 62 (pr_I 47).1 ∈ ev_UW := wk_m qI_47 pt_w5_10.2.2.2
theorem pt_w5_4 : (Cond.methodLink "OrphanTree" 125 pr_i22.1) ∈ ev_UW ∧ (ev_cw pr_i22 3) ∈ ev_UW ∧ (Cond.instanceMethod pr_i22.1) ∈ ev_UW ∧ (Cond.methodLink "OrphanTree" 287 pr_i75.1) ∈ ev_UW ∧ (Cond.classLink "OrphanTree" 343 "java/lang/IndexOutOfBoundsException") ∈ ev_UW := by
  have e : (tables_1_5.drop 64).take 16 = [_, _, _, _, _, _, (Cond.methodLink "OrphanTree" 125 pr_i22.1), _, (Cond.instanceMethod pr_i22.1), (ev_cw pr_i22 3), (Cond.methodLink "OrphanTree" 287 pr_i75.1), (Cond.classLink "OrphanTree" 343 "java/lang/IndexOutOfBoundsException"), _, _, _, _] := rfl
  exact ⟨uw_s tk_5 64 e 6 rfl rfl, uw_s tk_5 64 e 9 rfl rfl, uw_s tk_5 64 e 8 rfl rfl, uw_s tk_5 64 e 10 rfl rfl, uw_s tk_5 64 e 11 rfl rfl⟩
theorem pw_m_q0_125 : Cond.methodLink "OrphanTree" 125 (pr_I 22).1 ∈ ev_UW := wk_m qI_22 pt_w5_4.1
theorem pw_c_22 : ev_cw (pr_I 22) (pr_P 22).1 ∈ ev_UW := wk_c qI_22 pp_22 pt_w5_4.2.1
theorem pw_v_22 : Cond.instanceMethod (pr_I 22).1 ∈ ev_UW := wk_v qI_22 pt_w5_4.2.2.1
theorem pw_m_q0_287 : Cond.methodLink "OrphanTree" 287 (pr_I 75).1 ∈ ev_UW := wk_m qI_75 pt_w5_4.2.2.2.1
theorem pw_cl_q0_343 : Cond.classLink "OrphanTree" 343 "java/lang/IndexOutOfBoundsException" ∈ ev_UW := pt_w5_4.2.2.2.2
theorem pw_s_22 : Cond.selects (pr_I 22).1.cls (pr_I 22).1 (pr_I 22).1 ∈ ev_UW := uw_m tk_0 22 rfl rfl
theorem pw_s_89 : Cond.selects (pr_I 89).1.cls (pr_I 89).1 (pr_I 89).1 ∈ ev_UW := uw_m tk_0 24 rfl rfl
theorem pw_s_90 : Cond.selects (pr_I 90).1.cls (pr_I 90).1 (pr_I 90).1 ∈ ev_UW := uw_m tk_0 25 rfl rfl
theorem pw_s_91 : Cond.selects (pr_I 91).1.cls (pr_I 91).1 (pr_I 91).1 ∈ ev_UW := uw_m tk_0 26 rfl rfl
theorem pw_s_92 : Cond.selects (pr_I 92).1.cls (pr_I 92).1 (pr_I 92).1 ∈ ev_UW := uw_m tk_0 27 rfl rfl
theorem pt_w5_8 : (Cond.methodLink "OrphanTree" 134 pr_i25.1) ∈ ev_UW ∧ (Cond.static pr_i25.1) ∈ ev_UW := by
  have e : (tables_1_5.drop 128).take 16 = [_, _, _, _, _, _, _, _, _, _, _, _, _, _, (Cond.methodLink "OrphanTree" 134 pr_i25.1), (Cond.static pr_i25.1)] := rfl
  exact ⟨uw_s tk_5 128 e 14 rfl rfl, uw_s tk_5 128 e 15 rfl rfl⟩
theorem pw_m_q0_134 : Cond.methodLink "OrphanTree" 134 (pr_I 25).1 ∈ ev_UW := wk_m qI_25 pt_w5_8.1
theorem pw_t_25 : Cond.static (pr_I 25).1 ∈ ev_UW := wk_t qI_25 pt_w5_8.2
theorem pt_w2_12 : (ev_cw pr_i43 1) ∈ ev_UW ∧ (Cond.instanceMethod pr_i43.1) ∈ ev_UW ∧ (Cond.selects pr_i43.1.cls pr_i43.1 pr_i43.1) ∈ ev_UW ∧ (ev_cw pr_i81 6) ∈ ev_UW ∧ (Cond.instanceMethod pr_i81.1) ∈ ev_UW ∧ (Cond.selects pr_i81.1.cls pr_i81.1 pr_i81.1) ∈ ev_UW ∧ (ev_cw pr_i46 2) ∈ ev_UW ∧ (Cond.instanceMethod pr_i46.1) ∈ ev_UW ∧ (Cond.selects pr_i46.1.cls pr_i46.1 pr_i46.1) ∈ ev_UW ∧ (ev_cw pr_i75 2) ∈ ev_UW ∧ (Cond.instanceMethod pr_i75.1) ∈ ev_UW ∧ (Cond.selects pr_i75.1.cls pr_i75.1 pr_i75.1) ∈ ev_UW ∧ (Cond.methodLink "OrphanTree$SetupReader" 160 pr_i43.1) ∈ ev_UW ∧ (Cond.methodLink "OrphanTree$SetupReader" 162 pr_i81.1) ∈ ev_UW ∧ (Cond.methodLink "OrphanTree$Tree" 108 pr_i46.1) ∈ ev_UW := by
  have e : (tables_1_2.drop 192).take 16 = [(Cond.instanceMethod pr_i75.1), (Cond.selects pr_i75.1.cls pr_i75.1 pr_i75.1), (ev_cw pr_i75 2), (Cond.methodLink "OrphanTree$SetupReader" 160 pr_i43.1), (Cond.instanceMethod pr_i43.1), (Cond.selects pr_i43.1.cls pr_i43.1 pr_i43.1), (ev_cw pr_i43 1), (Cond.methodLink "OrphanTree$SetupReader" 162 pr_i81.1), (Cond.instanceMethod pr_i81.1), (Cond.selects pr_i81.1.cls pr_i81.1 pr_i81.1), (ev_cw pr_i81 6), (Cond.methodLink "OrphanTree$Tree" 108 pr_i46.1), (Cond.instanceMethod pr_i46.1), (Cond.selects pr_i46.1.cls pr_i46.1 pr_i46.1), (ev_cw pr_i46 2), _] := rfl
  exact ⟨uw_s tk_2 192 e 6 rfl rfl, uw_s tk_2 192 e 4 rfl rfl, uw_s tk_2 192 e 5 rfl rfl, uw_s tk_2 192 e 10 rfl rfl, uw_s tk_2 192 e 8 rfl rfl, uw_s tk_2 192 e 9 rfl rfl, uw_s tk_2 192 e 14 rfl rfl, uw_s tk_2 192 e 12 rfl rfl, uw_s tk_2 192 e 13 rfl rfl, uw_s tk_2 192 e 2 rfl rfl, uw_s tk_2 192 e 0 rfl rfl, uw_s tk_2 192 e 1 rfl rfl, uw_s tk_2 192 e 3 rfl rfl, uw_s tk_2 192 e 7 rfl rfl, uw_s tk_2 192 e 11 rfl rfl⟩
theorem pw_c_43 : ev_cw (pr_I 43) (pr_P 43).1 ∈ ev_UW := wk_c qI_43 pp_43 pt_w2_12.1
theorem pw_v_43 : Cond.instanceMethod (pr_I 43).1 ∈ ev_UW := wk_v qI_43 pt_w2_12.2.1
theorem pw_s_43 : Cond.selects (pr_I 43).1.cls (pr_I 43).1 (pr_I 43).1 ∈ ev_UW := wk_s qI_43 pt_w2_12.2.2.1
theorem pw_c_81 : ev_cw (pr_I 81) (pr_P 81).1 ∈ ev_UW := wk_c qI_81 pp_81 pt_w2_12.2.2.2.1
theorem pw_v_81 : Cond.instanceMethod (pr_I 81).1 ∈ ev_UW := wk_v qI_81 pt_w2_12.2.2.2.2.1
theorem pw_s_81 : Cond.selects (pr_I 81).1.cls (pr_I 81).1 (pr_I 81).1 ∈ ev_UW := wk_s qI_81 pt_w2_12.2.2.2.2.2.1
theorem pw_c_46 : ev_cw (pr_I 46) (pr_P 46).1 ∈ ev_UW := wk_c qI_46 pp_46 pt_w2_12.2.2.2.2.2.2.1
theorem pw_v_46 : Cond.instanceMethod (pr_I 46).1 ∈ ev_UW := wk_v qI_46 pt_w2_12.2.2.2.2.2.2.2.1
theorem pw_s_46 : Cond.selects (pr_I 46).1.cls (pr_I 46).1 (pr_I 46).1 ∈ ev_UW := wk_s qI_46 pt_w2_12.2.2.2.2.2.2.2.2.1
theorem pw_c_75 : ev_cw (pr_I 75) (pr_P 75).1 ∈ ev_UW := wk_c qI_75 pp_75 pt_w2_12.2.2.2.2.2.2.2.2.2.1
theorem pw_v_75 : Cond.instanceMethod (pr_I 75).1 ∈ ev_UW := wk_v qI_75 pt_w2_12.2.2.2.2.2.2.2.2.2.2.1
theorem pw_s_75 : Cond.selects (pr_I 75).1.cls (pr_I 75).1 (pr_I 75).1 ∈ ev_UW := wk_s qI_75 pt_w2_12.2.2.2.2.2.2.2.2.2.2.2.1
theorem pw_m_q3_160 : Cond.methodLink "OrphanTree$SetupReader" 160 (pr_I 43).1 ∈ ev_UW := wk_m qI_43 pt_w2_12.2.2.2.2.2.2.2.2.2.2.2.2.1
theorem pw_m_q3_162 : Cond.methodLink "OrphanTree$SetupReader" 162 (pr_I 81).1 ∈ ev_UW := wk_m qI_81 pt_w2_12.2.2.2.2.2.2.2.2.2.2.2.2.2.1
theorem pw_m_q1_108 : Cond.methodLink "OrphanTree$Tree" 108 (pr_I 46).1 ∈ ev_UW := wk_m qI_46 pt_w2_12.2.2.2.2.2.2.2.2.2.2.2.2.2.2
theorem pt_w5_11 : (Cond.methodLink "OrphanTree" 193 pr_i24.1) ∈ ev_UW ∧ (Cond.static pr_i24.1) ∈ ev_UW ∧ (ev_cw pr_i24 1) ∈ ev_UW ∧ (Cond.classLink "OrphanTree" 350 "java/lang/IllegalStateException") ∈ ev_UW := by
  have e : (tables_1_5.drop 176).take 16 = [_, _, _, _, _, _, _, (Cond.methodLink "OrphanTree" 193 pr_i24.1), (Cond.static pr_i24.1), (ev_cw pr_i24 1), (Cond.classLink "OrphanTree" 350 "java/lang/IllegalStateException"), _, _, _, _, _] := rfl
  exact ⟨uw_s tk_5 176 e 7 rfl rfl, uw_s tk_5 176 e 8 rfl rfl, uw_s tk_5 176 e 9 rfl rfl, uw_s tk_5 176 e 10 rfl rfl⟩
theorem pw_m_q0_193 : Cond.methodLink "OrphanTree" 193 (pr_I 24).1 ∈ ev_UW := wk_m qI_24 pt_w5_11.1
theorem pw_t_24 : Cond.static (pr_I 24).1 ∈ ev_UW := wk_t qI_24 pt_w5_11.2.1
theorem pw_c_24 : ev_cw (pr_I 24) (pr_P 24).1 ∈ ev_UW := wk_c qI_24 pp_24 pt_w5_11.2.2.1
theorem pw_cl_q0_350 : Cond.classLink "OrphanTree" 350 "java/lang/IllegalStateException" ∈ ev_UW := pt_w5_11.2.2.2
theorem pt_w5_12 : (Cond.methodLink "OrphanTree" 197 pr_i44.1) ∈ ev_UW ∧ (ev_cw pr_i44 3) ∈ ev_UW ∧ (Cond.instanceMethod pr_i44.1) ∈ ev_UW ∧ (Cond.selects pr_i44.1.cls pr_i44.1 pr_i44.1) ∈ ev_UW := by
  have e : (tables_1_5.drop 192).take 16 = [_, _, _, _, _, _, _, _, _, _, (Cond.methodLink "OrphanTree" 197 pr_i44.1), (Cond.instanceMethod pr_i44.1), (Cond.selects pr_i44.1.cls pr_i44.1 pr_i44.1), (ev_cw pr_i44 3), _, _] := rfl
  exact ⟨uw_s tk_5 192 e 10 rfl rfl, uw_s tk_5 192 e 13 rfl rfl, uw_s tk_5 192 e 11 rfl rfl, uw_s tk_5 192 e 12 rfl rfl⟩
theorem pw_m_q0_197 : Cond.methodLink "OrphanTree" 197 (pr_I 44).1 ∈ ev_UW := wk_m qI_44 pt_w5_12.1
theorem pw_c_44 : ev_cw (pr_I 44) (pr_P 44).1 ∈ ev_UW := wk_c qI_44 pp_44 pt_w5_12.2.1
theorem pw_v_44 : Cond.instanceMethod (pr_I 44).1 ∈ ev_UW := wk_v qI_44 pt_w5_12.2.2.1
theorem pw_s_44 : Cond.selects (pr_I 44).1.cls (pr_I 44).1 (pr_I 44).1 ∈ ev_UW := wk_s qI_44 pt_w5_12.2.2.2
theorem pt_w6_5 : (Cond.methodLink "OrphanTree" 179 pr_i23.1) ∈ ev_UW ∧ (Cond.static pr_i23.1) ∈ ev_UW ∧ (ev_cw pr_i23 2) ∈ ev_UW ∧ (Cond.methodLink "OrphanTree" 231 pr_i29.1) ∈ ev_UW ∧ (ev_cw pr_i29 2) ∈ ev_UW ∧ (Cond.instanceMethod pr_i29.1) ∈ ev_UW ∧ (Cond.selects pr_i29.1.cls pr_i29.1 pr_i29.1) ∈ ev_UW ∧ (Cond.methodLink "OrphanTree" 238 pr_i26.1) ∈ ev_UW ∧ (ev_cw pr_i26 4) ∈ ev_UW ∧ (Cond.instanceMethod pr_i26.1) ∈ ev_UW ∧ (Cond.methodLink "OrphanTree" 242 pr_i82.1) ∈ ev_UW ∧ (Cond.methodLink "OrphanTree$History" 25 pr_i74.1) ∈ ev_UW := by
  have e : (tables_1_6.drop 80).take 16 = [_, _, (Cond.methodLink "OrphanTree" 238 pr_i26.1), _, (Cond.instanceMethod pr_i26.1), (ev_cw pr_i26 4), (Cond.methodLink "OrphanTree" 179 pr_i23.1), (Cond.static pr_i23.1), (ev_cw pr_i23 2), _, (Cond.methodLink "OrphanTree" 231 pr_i29.1), (Cond.instanceMethod pr_i29.1), (Cond.selects pr_i29.1.cls pr_i29.1 pr_i29.1), (ev_cw pr_i29 2), (Cond.methodLink "OrphanTree$History" 25 pr_i74.1), (Cond.methodLink "OrphanTree" 242 pr_i82.1)] := rfl
  exact ⟨uw_s tk_6 80 e 6 rfl rfl, uw_s tk_6 80 e 7 rfl rfl, uw_s tk_6 80 e 8 rfl rfl, uw_s tk_6 80 e 10 rfl rfl, uw_s tk_6 80 e 13 rfl rfl, uw_s tk_6 80 e 11 rfl rfl, uw_s tk_6 80 e 12 rfl rfl, uw_s tk_6 80 e 2 rfl rfl, uw_s tk_6 80 e 5 rfl rfl, uw_s tk_6 80 e 4 rfl rfl, uw_s tk_6 80 e 15 rfl rfl, uw_s tk_6 80 e 14 rfl rfl⟩
theorem pw_m_q0_179 : Cond.methodLink "OrphanTree" 179 (pr_I 23).1 ∈ ev_UW := wk_m qI_23 pt_w6_5.1
theorem pw_t_23 : Cond.static (pr_I 23).1 ∈ ev_UW := wk_t qI_23 pt_w6_5.2.1
theorem pw_c_23 : ev_cw (pr_I 23) (pr_P 23).1 ∈ ev_UW := wk_c qI_23 pp_23 pt_w6_5.2.2.1
theorem pw_m_q0_231 : Cond.methodLink "OrphanTree" 231 (pr_I 29).1 ∈ ev_UW := wk_m qI_29 pt_w6_5.2.2.2.1
theorem pw_c_29 : ev_cw (pr_I 29) (pr_P 29).1 ∈ ev_UW := wk_c qI_29 pp_29 pt_w6_5.2.2.2.2.1
theorem pw_v_29 : Cond.instanceMethod (pr_I 29).1 ∈ ev_UW := wk_v qI_29 pt_w6_5.2.2.2.2.2.1
theorem pw_s_29 : Cond.selects (pr_I 29).1.cls (pr_I 29).1 (pr_I 29).1 ∈ ev_UW := wk_s qI_29 pt_w6_5.2.2.2.2.2.2.1
theorem pw_m_q0_238 : Cond.methodLink "OrphanTree" 238 (pr_I 26).1 ∈ ev_UW := wk_m qI_26 pt_w6_5.2.2.2.2.2.2.2.1
theorem pw_c_26 : ev_cw (pr_I 26) (pr_P 26).1 ∈ ev_UW := wk_c qI_26 pp_26 pt_w6_5.2.2.2.2.2.2.2.2.1
theorem pw_v_26 : Cond.instanceMethod (pr_I 26).1 ∈ ev_UW := wk_v qI_26 pt_w6_5.2.2.2.2.2.2.2.2.2.1
theorem pw_m_q0_242 : Cond.methodLink "OrphanTree" 242 (pr_I 82).1 ∈ ev_UW := wk_m qI_82 pt_w6_5.2.2.2.2.2.2.2.2.2.2.1
theorem pw_m_q2_25 : Cond.methodLink "OrphanTree$History" 25 (pr_I 74).1 ∈ ev_UW := wk_m qI_74 pt_w6_5.2.2.2.2.2.2.2.2.2.2.2
theorem pt_w6_8 : (Cond.methodLink "OrphanTree" 234 pr_i81.1) ∈ ev_UW ∧ (Cond.static pr_i27.1) ∈ ev_UW ∧ (ev_cw pr_i27 2) ∈ ev_UW ∧ (Cond.methodLink "OrphanTree" 248 pr_i94.1) ∈ ev_UW ∧ (ev_cw pr_i94 8) ∈ ev_UW ∧ (Cond.instanceMethod pr_i94.1) ∈ ev_UW ∧ (Cond.selects pr_i94.1.cls pr_i94.1 pr_i94.1) ∈ ev_UW ∧ (Cond.methodLink "OrphanTree$Tree" 202 pr_i82.1) ∈ ev_UW := by
  have e : (tables_1_6.drop 128).take 16 = [(Cond.static pr_i27.1), (ev_cw pr_i27 2), (Cond.methodLink "OrphanTree" 248 pr_i94.1), (Cond.instanceMethod pr_i94.1), (Cond.selects pr_i94.1.cls pr_i94.1 pr_i94.1), (ev_cw pr_i94 8), (Cond.methodLink "OrphanTree$Tree" 202 pr_i82.1), _, _, _, _, (Cond.methodLink "OrphanTree" 234 pr_i81.1), _, _, _, _] := rfl
  exact ⟨uw_s tk_6 128 e 11 rfl rfl, uw_s tk_6 128 e 0 rfl rfl, uw_s tk_6 128 e 1 rfl rfl, uw_s tk_6 128 e 2 rfl rfl, uw_s tk_6 128 e 5 rfl rfl, uw_s tk_6 128 e 3 rfl rfl, uw_s tk_6 128 e 4 rfl rfl, uw_s tk_6 128 e 6 rfl rfl⟩
theorem pw_m_q0_234 : Cond.methodLink "OrphanTree" 234 (pr_I 81).1 ∈ ev_UW := wk_m qI_81 pt_w6_8.1
theorem pw_t_27 : Cond.static (pr_I 27).1 ∈ ev_UW := wk_t qI_27 pt_w6_8.2.1
theorem pw_c_27 : ev_cw (pr_I 27) (pr_P 27).1 ∈ ev_UW := wk_c qI_27 pp_27 pt_w6_8.2.2.1
theorem pw_m_q0_248 : Cond.methodLink "OrphanTree" 248 (pr_I 94).1 ∈ ev_UW := wk_m qI_94 pt_w6_8.2.2.2.1
theorem pw_c_94 : ev_cw (pr_I 94) (pr_P 94).1 ∈ ev_UW := wk_c qI_94 pp_94 pt_w6_8.2.2.2.2.1
theorem pw_v_94 : Cond.instanceMethod (pr_I 94).1 ∈ ev_UW := wk_v qI_94 pt_w6_8.2.2.2.2.2.1
theorem pw_s_94 : Cond.selects (pr_I 94).1.cls (pr_I 94).1 (pr_I 94).1 ∈ ev_UW := wk_s qI_94 pt_w6_8.2.2.2.2.2.2.1
theorem pw_m_q1_202 : Cond.methodLink "OrphanTree$Tree" 202 (pr_I 82).1 ∈ ev_UW := wk_m qI_82 pt_w6_8.2.2.2.2.2.2.2
theorem pw_s_26 : Cond.selects (pr_I 26).1.cls (pr_I 26).1 (pr_I 26).1 ∈ ev_UW := uw_m tk_0 35 rfl rfl
theorem pw_s_83 : Cond.selects (pr_I 83).1.cls (pr_I 83).1 (pr_I 83).1 ∈ ev_UW := uw_m tk_0 36 rfl rfl
theorem pw_s_84 : Cond.selects (pr_I 84).1.cls (pr_I 84).1 (pr_I 84).1 ∈ ev_UW := uw_m tk_0 37 rfl rfl
theorem pw_s_87 : Cond.selects (pr_I 87).1.cls (pr_I 87).1 (pr_I 87).1 ∈ ev_UW := uw_m tk_0 39 rfl rfl
theorem pw_s_85 : Cond.selects (pr_I 85).1.cls (pr_I 85).1 (pr_I 85).1 ∈ ev_UW := uw_m tk_0 38 rfl rfl
theorem pt_w6_6 : (ev_cw pr_i82 11) ∈ ev_UW ∧ (Cond.instanceMethod pr_i82.1) ∈ ev_UW ∧ (Cond.selects pr_i82.1.cls pr_i82.1 pr_i82.1) ∈ ev_UW ∧ (Cond.methodLink "OrphanTree$Tree" 117 pr_i83.1) ∈ ev_UW ∧ (ev_cw pr_i83 4) ∈ ev_UW ∧ (Cond.instanceMethod pr_i83.1) ∈ ev_UW ∧ (Cond.methodLink "OrphanTree$Tree" 121 pr_i84.1) ∈ ev_UW ∧ (ev_cw pr_i84 5) ∈ ev_UW ∧ (Cond.instanceMethod pr_i84.1) ∈ ev_UW ∧ (Cond.methodLink "OrphanTree$Tree" 152 pr_i81.1) ∈ ev_UW ∧ (Cond.methodLink "OrphanTree$Tree" 159 pr_i85.1) ∈ ev_UW ∧ (ev_cw pr_i85 4) ∈ ev_UW ∧ (Cond.instanceMethod pr_i85.1) ∈ ev_UW := by
  have e : (tables_1_6.drop 96).take 16 = [(Cond.instanceMethod pr_i82.1), (Cond.selects pr_i82.1.cls pr_i82.1 pr_i82.1), (ev_cw pr_i82 11), (Cond.methodLink "OrphanTree$Tree" 117 pr_i83.1), _, (Cond.instanceMethod pr_i83.1), (ev_cw pr_i83 4), (Cond.methodLink "OrphanTree$Tree" 152 pr_i81.1), (Cond.methodLink "OrphanTree$Tree" 121 pr_i84.1), _, (Cond.instanceMethod pr_i84.1), (ev_cw pr_i84 5), (Cond.methodLink "OrphanTree$Tree" 159 pr_i85.1), _, (Cond.instanceMethod pr_i85.1), (ev_cw pr_i85 4)] := rfl
  exact ⟨uw_s tk_6 96 e 2 rfl rfl, uw_s tk_6 96 e 0 rfl rfl, uw_s tk_6 96 e 1 rfl rfl, uw_s tk_6 96 e 3 rfl rfl, uw_s tk_6 96 e 6 rfl rfl, uw_s tk_6 96 e 5 rfl rfl, uw_s tk_6 96 e 8 rfl rfl, uw_s tk_6 96 e 11 rfl rfl, uw_s tk_6 96 e 10 rfl rfl, uw_s tk_6 96 e 7 rfl rfl, uw_s tk_6 96 e 12 rfl rfl, uw_s tk_6 96 e 15 rfl rfl, uw_s tk_6 96 e 14 rfl rfl⟩
theorem pw_c_82 : ev_cw (pr_I 82) (pr_P 82).1 ∈ ev_UW := wk_c qI_82 pp_82 pt_w6_6.1
theorem pw_v_82 : Cond.instanceMethod (pr_I 82).1 ∈ ev_UW := wk_v qI_82 pt_w6_6.2.1
theorem pw_s_82 : Cond.selects (pr_I 82).1.cls (pr_I 82).1 (pr_I 82).1 ∈ ev_UW := wk_s qI_82 pt_w6_6.2.2.1
theorem pw_m_q1_117 : Cond.methodLink "OrphanTree$Tree" 117 (pr_I 83).1 ∈ ev_UW := wk_m qI_83 pt_w6_6.2.2.2.1
theorem pw_c_83 : ev_cw (pr_I 83) (pr_P 83).1 ∈ ev_UW := wk_c qI_83 pp_83 pt_w6_6.2.2.2.2.1
theorem pw_v_83 : Cond.instanceMethod (pr_I 83).1 ∈ ev_UW := wk_v qI_83 pt_w6_6.2.2.2.2.2.1
theorem pw_m_q1_121 : Cond.methodLink "OrphanTree$Tree" 121 (pr_I 84).1 ∈ ev_UW := wk_m qI_84 pt_w6_6.2.2.2.2.2.2.1
theorem pw_c_84 : ev_cw (pr_I 84) (pr_P 84).1 ∈ ev_UW := wk_c qI_84 pp_84 pt_w6_6.2.2.2.2.2.2.2.1
theorem pw_v_84 : Cond.instanceMethod (pr_I 84).1 ∈ ev_UW := wk_v qI_84 pt_w6_6.2.2.2.2.2.2.2.2.1
theorem pw_m_q1_152 : Cond.methodLink "OrphanTree$Tree" 152 (pr_I 81).1 ∈ ev_UW := wk_m qI_81 pt_w6_6.2.2.2.2.2.2.2.2.2.1
theorem pw_m_q1_159 : Cond.methodLink "OrphanTree$Tree" 159 (pr_I 85).1 ∈ ev_UW := wk_m qI_85 pt_w6_6.2.2.2.2.2.2.2.2.2.2.1
theorem pw_c_85 : ev_cw (pr_I 85) (pr_P 85).1 ∈ ev_UW := wk_c qI_85 pp_85 pt_w6_6.2.2.2.2.2.2.2.2.2.2.2.1
theorem pw_v_85 : Cond.instanceMethod (pr_I 85).1 ∈ ev_UW := wk_v qI_85 pt_w6_6.2.2.2.2.2.2.2.2.2.2.2.2
theorem pt_w6_7 : (Cond.methodLink "OrphanTree" 245 pr_i27.1) ∈ ev_UW ∧ (ev_cw pr_i97 7) ∈ ev_UW ∧ (Cond.instanceMethod pr_i97.1) ∈ ev_UW ∧ (Cond.selects pr_i97.1.cls pr_i97.1 pr_i97.1) ∈ ev_UW ∧ (Cond.methodLink "OrphanTree$Tree" 128 pr_i88.1) ∈ ev_UW ∧ (Cond.methodLink "OrphanTree$Tree" 132 pr_i87.1) ∈ ev_UW ∧ (ev_cw pr_i87 3) ∈ ev_UW ∧ (Cond.instanceMethod pr_i87.1) ∈ ev_UW ∧ (Cond.methodLink "OrphanTree$Tree" 135 pr_i97.1) ∈ ev_UW ∧ (Cond.methodLink "OrphanTree$Tree" 162 pr_i47.1) ∈ ev_UW ∧ (Cond.methodLink "OrphanTree$Tree" 169 pr_i86.1) ∈ ev_UW := by
  have e : (tables_1_6.drop 112).take 16 = [(Cond.methodLink "OrphanTree$Tree" 162 pr_i47.1), (Cond.methodLink "OrphanTree$Tree" 169 pr_i86.1), (Cond.methodLink "OrphanTree$Tree" 128 pr_i88.1), (Cond.methodLink "OrphanTree$Tree" 132 pr_i87.1), _, (Cond.instanceMethod pr_i87.1), (ev_cw pr_i87 3), (Cond.methodLink "OrphanTree$Tree" 135 pr_i97.1), (Cond.instanceMethod pr_i97.1), (Cond.selects pr_i97.1.cls pr_i97.1 pr_i97.1), (ev_cw pr_i97 7), _, _, _, _, (Cond.methodLink "OrphanTree" 245 pr_i27.1)] := rfl
  exact ⟨uw_s tk_6 112 e 15 rfl rfl, uw_s tk_6 112 e 10 rfl rfl, uw_s tk_6 112 e 8 rfl rfl, uw_s tk_6 112 e 9 rfl rfl, uw_s tk_6 112 e 2 rfl rfl, uw_s tk_6 112 e 3 rfl rfl, uw_s tk_6 112 e 6 rfl rfl, uw_s tk_6 112 e 5 rfl rfl, uw_s tk_6 112 e 7 rfl rfl, uw_s tk_6 112 e 0 rfl rfl, uw_s tk_6 112 e 1 rfl rfl⟩
theorem pw_m_q0_245 : Cond.methodLink "OrphanTree" 245 (pr_I 27).1 ∈ ev_UW := wk_m qI_27 pt_w6_7.1
theorem pw_c_97 : ev_cw (pr_I 97) (pr_P 97).1 ∈ ev_UW := wk_c qI_97 pp_97 pt_w6_7.2.1
theorem pw_v_97 : Cond.instanceMethod (pr_I 97).1 ∈ ev_UW := wk_v qI_97 pt_w6_7.2.2.1
theorem pw_s_97 : Cond.selects (pr_I 97).1.cls (pr_I 97).1 (pr_I 97).1 ∈ ev_UW := wk_s qI_97 pt_w6_7.2.2.2.1
theorem pw_m_q1_128 : Cond.methodLink "OrphanTree$Tree" 128 (pr_I 88).1 ∈ ev_UW := wk_m qI_88 pt_w6_7.2.2.2.2.1
theorem pw_m_q1_132 : Cond.methodLink "OrphanTree$Tree" 132 (pr_I 87).1 ∈ ev_UW := wk_m qI_87 pt_w6_7.2.2.2.2.2.1
theorem pw_c_87 : ev_cw (pr_I 87) (pr_P 87).1 ∈ ev_UW := wk_c qI_87 pp_87 pt_w6_7.2.2.2.2.2.2.1
theorem pw_v_87 : Cond.instanceMethod (pr_I 87).1 ∈ ev_UW := wk_v qI_87 pt_w6_7.2.2.2.2.2.2.2.1
theorem pw_m_q1_135 : Cond.methodLink "OrphanTree$Tree" 135 (pr_I 97).1 ∈ ev_UW := wk_m qI_97 pt_w6_7.2.2.2.2.2.2.2.2.1
theorem pw_m_q1_162 : Cond.methodLink "OrphanTree$Tree" 162 (pr_I 47).1 ∈ ev_UW := wk_m qI_47 pt_w6_7.2.2.2.2.2.2.2.2.2.1
theorem pw_m_q1_169 : Cond.methodLink "OrphanTree$Tree" 169 (pr_I 86).1 ∈ ev_UW := wk_m qI_86 pt_w6_7.2.2.2.2.2.2.2.2.2.2
theorem pt_w5_13 : (Cond.methodLink "OrphanTree" 258 pr_i38.1) ∈ ev_UW ∧ (ev_cw pr_i38 1) ∈ ev_UW ∧ (Cond.instanceMethod pr_i38.1) ∈ ev_UW ∧ (Cond.selects pr_i38.1.cls pr_i38.1 pr_i38.1) ∈ ev_UW ∧ (Cond.methodLink "OrphanTree" 278 pr_i88.1) ∈ ev_UW ∧ (ev_cw pr_i88 5) ∈ ev_UW ∧ (Cond.instanceMethod pr_i88.1) ∈ ev_UW ∧ (Cond.selects pr_i88.1.cls pr_i88.1 pr_i88.1) ∈ ev_UW ∧ (Cond.methodLink "OrphanTree$Tree" 178 pr_i89.1) ∈ ev_UW := by
  have e : (tables_1_5.drop 208).take 16 = [_, _, _, _, _, _, _, (Cond.methodLink "OrphanTree" 258 pr_i38.1), (Cond.instanceMethod pr_i38.1), (Cond.selects pr_i38.1.cls pr_i38.1 pr_i38.1), (ev_cw pr_i38 1), (Cond.methodLink "OrphanTree" 278 pr_i88.1), (Cond.instanceMethod pr_i88.1), (Cond.selects pr_i88.1.cls pr_i88.1 pr_i88.1), (ev_cw pr_i88 5), (Cond.methodLink "OrphanTree$Tree" 178 pr_i89.1)] := rfl
  exact ⟨uw_s tk_5 208 e 7 rfl rfl, uw_s tk_5 208 e 10 rfl rfl, uw_s tk_5 208 e 8 rfl rfl, uw_s tk_5 208 e 9 rfl rfl, uw_s tk_5 208 e 11 rfl rfl, uw_s tk_5 208 e 14 rfl rfl, uw_s tk_5 208 e 12 rfl rfl, uw_s tk_5 208 e 13 rfl rfl, uw_s tk_5 208 e 15 rfl rfl⟩
theorem pw_m_q0_258 : Cond.methodLink "OrphanTree" 258 (pr_I 38).1 ∈ ev_UW := wk_m qI_38 pt_w5_13.1
theorem pw_c_38 : ev_cw (pr_I 38) (pr_P 38).1 ∈ ev_UW := wk_c qI_38 pp_38 pt_w5_13.2.1
theorem pw_v_38 : Cond.instanceMethod (pr_I 38).1 ∈ ev_UW := wk_v qI_38 pt_w5_13.2.2.1
theorem pw_s_38 : Cond.selects (pr_I 38).1.cls (pr_I 38).1 (pr_I 38).1 ∈ ev_UW := wk_s qI_38 pt_w5_13.2.2.2.1
theorem pw_m_q0_278 : Cond.methodLink "OrphanTree" 278 (pr_I 88).1 ∈ ev_UW := wk_m qI_88 pt_w5_13.2.2.2.2.1
theorem pw_c_88 : ev_cw (pr_I 88) (pr_P 88).1 ∈ ev_UW := wk_c qI_88 pp_88 pt_w5_13.2.2.2.2.2.1
theorem pw_v_88 : Cond.instanceMethod (pr_I 88).1 ∈ ev_UW := wk_v qI_88 pt_w5_13.2.2.2.2.2.2.1
theorem pw_s_88 : Cond.selects (pr_I 88).1.cls (pr_I 88).1 (pr_I 88).1 ∈ ev_UW := wk_s qI_88 pt_w5_13.2.2.2.2.2.2.2.1
theorem pw_m_q1_178 : Cond.methodLink "OrphanTree$Tree" 178 (pr_I 89).1 ∈ ev_UW := wk_m qI_89 pt_w5_13.2.2.2.2.2.2.2.2
theorem pt_w6_9 : (Cond.methodLink "OrphanTree" 261 pr_i95.1) ∈ ev_UW ∧ (ev_cw pr_i95 8) ∈ ev_UW ∧ (Cond.instanceMethod pr_i95.1) ∈ ev_UW ∧ (Cond.selects pr_i95.1.cls pr_i95.1 pr_i95.1) ∈ ev_UW ∧ (Cond.methodLink "OrphanTree" 225 pr_i37.1) ∈ ev_UW ∧ (ev_cw pr_i37 1) ∈ ev_UW ∧ (Cond.instanceMethod pr_i37.1) ∈ ev_UW ∧ (Cond.selects pr_i37.1.cls pr_i37.1 pr_i37.1) ∈ ev_UW ∧ (Cond.methodLink "OrphanTree" 264 pr_i42.1) ∈ ev_UW := by
  have e : (tables_1_6.drop 144).take 16 = [(Cond.methodLink "OrphanTree" 261 pr_i95.1), (Cond.instanceMethod pr_i95.1), (Cond.selects pr_i95.1.cls pr_i95.1 pr_i95.1), (ev_cw pr_i95 8), _, _, _, _, (Cond.methodLink "OrphanTree" 225 pr_i37.1), (Cond.instanceMethod pr_i37.1), (Cond.selects pr_i37.1.cls pr_i37.1 pr_i37.1), (ev_cw pr_i37 1), (Cond.methodLink "OrphanTree" 264 pr_i42.1), _, _, _] := rfl
  exact ⟨uw_s tk_6 144 e 0 rfl rfl, uw_s tk_6 144 e 3 rfl rfl, uw_s tk_6 144 e 1 rfl rfl, uw_s tk_6 144 e 2 rfl rfl, uw_s tk_6 144 e 8 rfl rfl, uw_s tk_6 144 e 11 rfl rfl, uw_s tk_6 144 e 9 rfl rfl, uw_s tk_6 144 e 10 rfl rfl, uw_s tk_6 144 e 12 rfl rfl⟩
theorem pw_m_q0_261 : Cond.methodLink "OrphanTree" 261 (pr_I 95).1 ∈ ev_UW := wk_m qI_95 pt_w6_9.1
theorem pw_c_95 : ev_cw (pr_I 95) (pr_P 95).1 ∈ ev_UW := wk_c qI_95 pp_95 pt_w6_9.2.1
theorem pw_v_95 : Cond.instanceMethod (pr_I 95).1 ∈ ev_UW := wk_v qI_95 pt_w6_9.2.2.1
theorem pw_s_95 : Cond.selects (pr_I 95).1.cls (pr_I 95).1 (pr_I 95).1 ∈ ev_UW := wk_s qI_95 pt_w6_9.2.2.2.1
theorem pw_m_q0_225 : Cond.methodLink "OrphanTree" 225 (pr_I 37).1 ∈ ev_UW := wk_m qI_37 pt_w6_9.2.2.2.2.1
theorem pw_c_37 : ev_cw (pr_I 37) (pr_P 37).1 ∈ ev_UW := wk_c qI_37 pp_37 pt_w6_9.2.2.2.2.2.1
theorem pw_v_37 : Cond.instanceMethod (pr_I 37).1 ∈ ev_UW := wk_v qI_37 pt_w6_9.2.2.2.2.2.2.1
theorem pw_s_37 : Cond.selects (pr_I 37).1.cls (pr_I 37).1 (pr_I 37).1 ∈ ev_UW := wk_s qI_37 pt_w6_9.2.2.2.2.2.2.2.1
theorem pw_m_q0_264 : Cond.methodLink "OrphanTree" 264 (pr_I 42).1 ∈ ev_UW := wk_m qI_42 pt_w6_9.2.2.2.2.2.2.2.2
theorem pt_w2_14 : (ev_cw pr_i42 2) ∈ ev_UW ∧ (Cond.instanceMethod pr_i42.1) ∈ ev_UW ∧ (Cond.selects pr_i42.1.cls pr_i42.1 pr_i42.1) ∈ ev_UW ∧ (Cond.constantLong "OrphanTree$Proc" 60 (255 : Int64)) ∈ ev_UW ∧ (ev_cw pr_i47 2) ∈ ev_UW ∧ (Cond.instanceMethod pr_i47.1) ∈ ev_UW ∧ (Cond.selects pr_i47.1.cls pr_i47.1 pr_i47.1) ∈ ev_UW ∧ (ev_cw pr_i60 2) ∈ ev_UW ∧ (Cond.instanceMethod pr_i60.1) ∈ ev_UW ∧ (Cond.methodLink "OrphanTree$SetupReader" 102 pr_i61.1) ∈ ev_UW ∧ (ev_cw pr_i61 4) ∈ ev_UW ∧ (Cond.instanceMethod pr_i61.1) ∈ ev_UW ∧ (Cond.methodLink "OrphanTree$SetupReader" 175 pr_i42.1) ∈ ev_UW ∧ (Cond.methodLink "OrphanTree$SetupReader" 181 pr_i47.1) ∈ ev_UW := by
  have e : (tables_1_2.drop 224).take 16 = [(Cond.instanceMethod pr_i60.1), (ev_cw pr_i60 2), (Cond.methodLink "OrphanTree$SetupReader" 175 pr_i42.1), (Cond.instanceMethod pr_i42.1), (Cond.selects pr_i42.1.cls pr_i42.1 pr_i42.1), (ev_cw pr_i42 2), _, (Cond.methodLink "OrphanTree$SetupReader" 102 pr_i61.1), _, (Cond.instanceMethod pr_i61.1), (ev_cw pr_i61 4), (Cond.methodLink "OrphanTree$SetupReader" 181 pr_i47.1), (Cond.instanceMethod pr_i47.1), (Cond.selects pr_i47.1.cls pr_i47.1 pr_i47.1), (ev_cw pr_i47 2), (Cond.constantLong "OrphanTree$Proc" 60 (255 : Int64))] := rfl
  exact ⟨uw_s tk_2 224 e 5 rfl rfl, uw_s tk_2 224 e 3 rfl rfl, uw_s tk_2 224 e 4 rfl rfl, uw_s tk_2 224 e 15 rfl rfl, uw_s tk_2 224 e 14 rfl rfl, uw_s tk_2 224 e 12 rfl rfl, uw_s tk_2 224 e 13 rfl rfl, uw_s tk_2 224 e 1 rfl rfl, uw_s tk_2 224 e 0 rfl rfl, uw_s tk_2 224 e 7 rfl rfl, uw_s tk_2 224 e 10 rfl rfl, uw_s tk_2 224 e 9 rfl rfl, uw_s tk_2 224 e 2 rfl rfl, uw_s tk_2 224 e 11 rfl rfl⟩
theorem pw_c_42 : ev_cw (pr_I 42) (pr_P 42).1 ∈ ev_UW := wk_c qI_42 pp_42 pt_w2_14.1
theorem pw_v_42 : Cond.instanceMethod (pr_I 42).1 ∈ ev_UW := wk_v qI_42 pt_w2_14.2.1
theorem pw_s_42 : Cond.selects (pr_I 42).1.cls (pr_I 42).1 (pr_I 42).1 ∈ ev_UW := wk_s qI_42 pt_w2_14.2.2.1
theorem pw_kl_q8_60 : Cond.constantLong "OrphanTree$Proc" 60 (255 : Int64) ∈ ev_UW := pt_w2_14.2.2.2.1
theorem pw_c_47 : ev_cw (pr_I 47) (pr_P 47).1 ∈ ev_UW := wk_c qI_47 pp_47 pt_w2_14.2.2.2.2.1
theorem pw_v_47 : Cond.instanceMethod (pr_I 47).1 ∈ ev_UW := wk_v qI_47 pt_w2_14.2.2.2.2.2.1
theorem pw_s_47 : Cond.selects (pr_I 47).1.cls (pr_I 47).1 (pr_I 47).1 ∈ ev_UW := wk_s qI_47 pt_w2_14.2.2.2.2.2.2.1
theorem pw_c_60 : ev_cw (pr_I 60) (pr_P 60).1 ∈ ev_UW := wk_c qI_60 pp_60 pt_w2_14.2.2.2.2.2.2.2.1
theorem pw_v_60 : Cond.instanceMethod (pr_I 60).1 ∈ ev_UW := wk_v qI_60 pt_w2_14.2.2.2.2.2.2.2.2.1
theorem pw_m_q3_102 : Cond.methodLink "OrphanTree$SetupReader" 102 (pr_I 61).1 ∈ ev_UW := wk_m qI_61 pt_w2_14.2.2.2.2.2.2.2.2.2.1
theorem pw_c_61 : ev_cw (pr_I 61) (pr_P 61).1 ∈ ev_UW := wk_c qI_61 pp_61 pt_w2_14.2.2.2.2.2.2.2.2.2.2.1
theorem pw_v_61 : Cond.instanceMethod (pr_I 61).1 ∈ ev_UW := wk_v qI_61 pt_w2_14.2.2.2.2.2.2.2.2.2.2.2.1
theorem pw_m_q3_175 : Cond.methodLink "OrphanTree$SetupReader" 175 (pr_I 42).1 ∈ ev_UW := wk_m qI_42 pt_w2_14.2.2.2.2.2.2.2.2.2.2.2.2.1
theorem pw_m_q3_181 : Cond.methodLink "OrphanTree$SetupReader" 181 (pr_I 47).1 ∈ ev_UW := wk_m qI_47 pt_w2_14.2.2.2.2.2.2.2.2.2.2.2.2.2
theorem pt_w6_11 : (Cond.methodLink "OrphanTree" 200 pr_i45.1) ∈ ev_UW ∧ (Cond.methodLink "OrphanTree" 268 pr_i46.1) ∈ ev_UW ∧ (ev_cw pr_i78 3) ∈ ev_UW ∧ (Cond.selects pr_i78.1.cls pr_i78.1 pr_i78.1) ∈ ev_UW ∧ (Cond.methodLink "OrphanTree" 274 pr_i79.1) ∈ ev_UW ∧ (Cond.methodLink "OrphanTree" 301 pr_i97.1) ∈ ev_UW := by
  have e : (tables_1_6.drop 176).take 16 = [(Cond.selects pr_i78.1.cls pr_i78.1 pr_i78.1), (ev_cw pr_i78 3), (Cond.methodLink "OrphanTree" 274 pr_i79.1), _, _, _, _, (Cond.methodLink "OrphanTree" 301 pr_i97.1), _, _, _, _, (Cond.methodLink "OrphanTree" 200 pr_i45.1), (Cond.methodLink "OrphanTree" 268 pr_i46.1), _, _] := rfl
  exact ⟨uw_s tk_6 176 e 12 rfl rfl, uw_s tk_6 176 e 13 rfl rfl, uw_s tk_6 176 e 1 rfl rfl, uw_s tk_6 176 e 0 rfl rfl, uw_s tk_6 176 e 2 rfl rfl, uw_s tk_6 176 e 7 rfl rfl⟩
theorem pw_m_q0_200 : Cond.methodLink "OrphanTree" 200 (pr_I 45).1 ∈ ev_UW := wk_m qI_45 pt_w6_11.1
theorem pw_m_q0_268 : Cond.methodLink "OrphanTree" 268 (pr_I 46).1 ∈ ev_UW := wk_m qI_46 pt_w6_11.2.1
theorem pw_c_78 : ev_cw (pr_I 78) (pr_P 78).1 ∈ ev_UW := wk_c qI_78 pp_78 pt_w6_11.2.2.1
theorem pw_s_78 : Cond.selects (pr_I 78).1.cls (pr_I 78).1 (pr_I 78).1 ∈ ev_UW := wk_s qI_78 pt_w6_11.2.2.2.1
theorem pw_m_q0_274 : Cond.methodLink "OrphanTree" 274 (pr_I 79).1 ∈ ev_UW := wk_m qI_79 pt_w6_11.2.2.2.2.1
theorem pw_m_q0_301 : Cond.methodLink "OrphanTree" 301 (pr_I 97).1 ∈ ev_UW := wk_m qI_97 pt_w6_11.2.2.2.2.2
theorem pt_w5_14 : (ev_cw pr_i45 3) ∈ ev_UW ∧ (Cond.instanceMethod pr_i45.1) ∈ ev_UW ∧ (Cond.selects pr_i45.1.cls pr_i45.1 pr_i45.1) ∈ ev_UW ∧ (Cond.methodLink "OrphanTree$Tree" 125 pr_i43.1) ∈ ev_UW ∧ (ev_cw pr_i89 4) ∈ ev_UW ∧ (Cond.instanceMethod pr_i89.1) ∈ ev_UW ∧ (Cond.methodLink "OrphanTree$Tree" 181 pr_i90.1) ∈ ev_UW ∧ (Cond.methodLink "OrphanTree$Tree" 191 pr_i93.1) ∈ ev_UW ∧ (ev_cw pr_i93 3) ∈ ev_UW ∧ (Cond.instanceMethod pr_i93.1) ∈ ev_UW ∧ (Cond.selects pr_i93.1.cls pr_i93.1 pr_i93.1) ∈ ev_UW ∧ (Cond.methodLink "OrphanTree$Tree" 195 pr_i38.1) ∈ ev_UW ∧ (Cond.methodLink "OrphanTree$Tree" 198 pr_i42.1) ∈ ev_UW ∧ (Cond.methodLink "OrphanTree$Tree" 94 pr_i44.1) ∈ ev_UW ∧ (Cond.methodLink "OrphanTree$Tree" 83 pr_i45.1) ∈ ev_UW := by
  have e : (tables_1_5.drop 224).take 16 = [_, (Cond.instanceMethod pr_i89.1), (ev_cw pr_i89 4), (Cond.methodLink "OrphanTree$Tree" 191 pr_i93.1), (Cond.instanceMethod pr_i93.1), (Cond.selects pr_i93.1.cls pr_i93.1 pr_i93.1), (ev_cw pr_i93 3), (Cond.methodLink "OrphanTree$Tree" 195 pr_i38.1), (Cond.methodLink "OrphanTree$Tree" 198 pr_i42.1), (Cond.methodLink "OrphanTree$Tree" 125 pr_i43.1), (Cond.methodLink "OrphanTree$Tree" 94 pr_i44.1), (Cond.methodLink "OrphanTree$Tree" 83 pr_i45.1), (Cond.instanceMethod pr_i45.1), (Cond.selects pr_i45.1.cls pr_i45.1 pr_i45.1), (ev_cw pr_i45 3), (Cond.methodLink "OrphanTree$Tree" 181 pr_i90.1)] := rfl
  exact ⟨uw_s tk_5 224 e 14 rfl rfl, uw_s tk_5 224 e 12 rfl rfl, uw_s tk_5 224 e 13 rfl rfl, uw_s tk_5 224 e 9 rfl rfl, uw_s tk_5 224 e 2 rfl rfl, uw_s tk_5 224 e 1 rfl rfl, uw_s tk_5 224 e 15 rfl rfl, uw_s tk_5 224 e 3 rfl rfl, uw_s tk_5 224 e 6 rfl rfl, uw_s tk_5 224 e 4 rfl rfl, uw_s tk_5 224 e 5 rfl rfl, uw_s tk_5 224 e 7 rfl rfl, uw_s tk_5 224 e 8 rfl rfl, uw_s tk_5 224 e 10 rfl rfl, uw_s tk_5 224 e 11 rfl rfl⟩
theorem pw_c_45 : ev_cw (pr_I 45) (pr_P 45).1 ∈ ev_UW := wk_c qI_45 pp_45 pt_w5_14.1
theorem pw_v_45 : Cond.instanceMethod (pr_I 45).1 ∈ ev_UW := wk_v qI_45 pt_w5_14.2.1
theorem pw_s_45 : Cond.selects (pr_I 45).1.cls (pr_I 45).1 (pr_I 45).1 ∈ ev_UW := wk_s qI_45 pt_w5_14.2.2.1
theorem pw_m_q1_125 : Cond.methodLink "OrphanTree$Tree" 125 (pr_I 43).1 ∈ ev_UW := wk_m qI_43 pt_w5_14.2.2.2.1
theorem pw_c_89 : ev_cw (pr_I 89) (pr_P 89).1 ∈ ev_UW := wk_c qI_89 pp_89 pt_w5_14.2.2.2.2.1
theorem pw_v_89 : Cond.instanceMethod (pr_I 89).1 ∈ ev_UW := wk_v qI_89 pt_w5_14.2.2.2.2.2.1
theorem pw_m_q1_181 : Cond.methodLink "OrphanTree$Tree" 181 (pr_I 90).1 ∈ ev_UW := wk_m qI_90 pt_w5_14.2.2.2.2.2.2.1
theorem pw_m_q1_191 : Cond.methodLink "OrphanTree$Tree" 191 (pr_I 93).1 ∈ ev_UW := wk_m qI_93 pt_w5_14.2.2.2.2.2.2.2.1
theorem pw_c_93 : ev_cw (pr_I 93) (pr_P 93).1 ∈ ev_UW := wk_c qI_93 pp_93 pt_w5_14.2.2.2.2.2.2.2.2.1
theorem pw_v_93 : Cond.instanceMethod (pr_I 93).1 ∈ ev_UW := wk_v qI_93 pt_w5_14.2.2.2.2.2.2.2.2.2.1
theorem pw_s_93 : Cond.selects (pr_I 93).1.cls (pr_I 93).1 (pr_I 93).1 ∈ ev_UW := wk_s qI_93 pt_w5_14.2.2.2.2.2.2.2.2.2.2.1
theorem pw_m_q1_195 : Cond.methodLink "OrphanTree$Tree" 195 (pr_I 38).1 ∈ ev_UW := wk_m qI_38 pt_w5_14.2.2.2.2.2.2.2.2.2.2.2.1
theorem pw_m_q1_198 : Cond.methodLink "OrphanTree$Tree" 198 (pr_I 42).1 ∈ ev_UW := wk_m qI_42 pt_w5_14.2.2.2.2.2.2.2.2.2.2.2.2.1
theorem pw_m_q1_94 : Cond.methodLink "OrphanTree$Tree" 94 (pr_I 44).1 ∈ ev_UW := wk_m qI_44 pt_w5_14.2.2.2.2.2.2.2.2.2.2.2.2.2.1
theorem pw_m_q1_83 : Cond.methodLink "OrphanTree$Tree" 83 (pr_I 45).1 ∈ ev_UW := wk_m qI_45 pt_w5_14.2.2.2.2.2.2.2.2.2.2.2.2.2.2
theorem pt_w6_10 : (Cond.methodLink "OrphanTree" 183 pr_i78.1) ∈ ev_UW ∧ (Cond.instanceMethod pr_i78.1) ∈ ev_UW := by
  have e : (tables_1_6.drop 160).take 16 = [_, _, _, _, _, _, _, _, _, _, _, _, _, _, (Cond.methodLink "OrphanTree" 183 pr_i78.1), (Cond.instanceMethod pr_i78.1)] := rfl
  exact ⟨uw_s tk_6 160 e 14 rfl rfl, uw_s tk_6 160 e 15 rfl rfl⟩
theorem pw_m_q0_183 : Cond.methodLink "OrphanTree" 183 (pr_I 78).1 ∈ ev_UW := wk_m qI_78 pt_w6_10.1
theorem pw_v_78 : Cond.instanceMethod (pr_I 78).1 ∈ ev_UW := wk_v qI_78 pt_w6_10.2
theorem pt_w2_13 : (ev_cw pr_i79 3) ∈ ev_UW ∧ (Cond.instanceMethod pr_i79.1) ∈ ev_UW ∧ (Cond.selects pr_i79.1.cls pr_i79.1 pr_i79.1) ∈ ev_UW ∧ (Cond.methodLink "OrphanTree$SetupReader" 87 pr_i58.1) ∈ ev_UW ∧ (ev_cw pr_i58 3) ∈ ev_UW ∧ (Cond.instanceMethod pr_i58.1) ∈ ev_UW ∧ (Cond.methodLink "OrphanTree$SetupReader" 92 pr_i59.1) ∈ ev_UW ∧ (ev_cw pr_i59 3) ∈ ev_UW ∧ (Cond.instanceMethod pr_i59.1) ∈ ev_UW ∧ (Cond.methodLink "OrphanTree$SetupReader" 97 pr_i60.1) ∈ ev_UW ∧ (Cond.methodLink "OrphanTree$SetupReader" 171 pr_i79.1) ∈ ev_UW := by
  have e : (tables_1_2.drop 208).take 16 = [(Cond.methodLink "OrphanTree$SetupReader" 87 pr_i58.1), _, (Cond.instanceMethod pr_i58.1), (ev_cw pr_i58 3), _, (Cond.methodLink "OrphanTree$SetupReader" 92 pr_i59.1), _, (Cond.instanceMethod pr_i59.1), (ev_cw pr_i59 3), (Cond.methodLink "OrphanTree$SetupReader" 171 pr_i79.1), (Cond.instanceMethod pr_i79.1), (Cond.selects pr_i79.1.cls pr_i79.1 pr_i79.1), (ev_cw pr_i79 3), _, (Cond.methodLink "OrphanTree$SetupReader" 97 pr_i60.1), _] := rfl
  exact ⟨uw_s tk_2 208 e 12 rfl rfl, uw_s tk_2 208 e 10 rfl rfl, uw_s tk_2 208 e 11 rfl rfl, uw_s tk_2 208 e 0 rfl rfl, uw_s tk_2 208 e 3 rfl rfl, uw_s tk_2 208 e 2 rfl rfl, uw_s tk_2 208 e 5 rfl rfl, uw_s tk_2 208 e 8 rfl rfl, uw_s tk_2 208 e 7 rfl rfl, uw_s tk_2 208 e 14 rfl rfl, uw_s tk_2 208 e 9 rfl rfl⟩
theorem pw_c_79 : ev_cw (pr_I 79) (pr_P 79).1 ∈ ev_UW := wk_c qI_79 pp_79 pt_w2_13.1
theorem pw_v_79 : Cond.instanceMethod (pr_I 79).1 ∈ ev_UW := wk_v qI_79 pt_w2_13.2.1
theorem pw_s_79 : Cond.selects (pr_I 79).1.cls (pr_I 79).1 (pr_I 79).1 ∈ ev_UW := wk_s qI_79 pt_w2_13.2.2.1
theorem pw_m_q3_87 : Cond.methodLink "OrphanTree$SetupReader" 87 (pr_I 58).1 ∈ ev_UW := wk_m qI_58 pt_w2_13.2.2.2.1
theorem pw_c_58 : ev_cw (pr_I 58) (pr_P 58).1 ∈ ev_UW := wk_c qI_58 pp_58 pt_w2_13.2.2.2.2.1
theorem pw_v_58 : Cond.instanceMethod (pr_I 58).1 ∈ ev_UW := wk_v qI_58 pt_w2_13.2.2.2.2.2.1
theorem pw_m_q3_92 : Cond.methodLink "OrphanTree$SetupReader" 92 (pr_I 59).1 ∈ ev_UW := wk_m qI_59 pt_w2_13.2.2.2.2.2.2.1
theorem pw_c_59 : ev_cw (pr_I 59) (pr_P 59).1 ∈ ev_UW := wk_c qI_59 pp_59 pt_w2_13.2.2.2.2.2.2.2.1
theorem pw_v_59 : Cond.instanceMethod (pr_I 59).1 ∈ ev_UW := wk_v qI_59 pt_w2_13.2.2.2.2.2.2.2.2.1
theorem pw_m_q3_97 : Cond.methodLink "OrphanTree$SetupReader" 97 (pr_I 60).1 ∈ ev_UW := wk_m qI_60 pt_w2_13.2.2.2.2.2.2.2.2.2.1
theorem pw_m_q3_171 : Cond.methodLink "OrphanTree$SetupReader" 171 (pr_I 79).1 ∈ ev_UW := wk_m qI_79 pt_w2_13.2.2.2.2.2.2.2.2.2.2
theorem pt_w6_1 : (Cond.methodLink "OrphanTree" 281 pr_i86.1) ∈ ev_UW := by
  have e : (tables_1_6.drop 16).take 16 = [_, _, _, _, _, _, _, _, _, _, _, _, _, _, _, (Cond.methodLink "OrphanTree" 281 pr_i86.1)] := rfl
  exact uw_s tk_6 16 e 15 rfl rfl
theorem pw_m_q0_281 : Cond.methodLink "OrphanTree" 281 (pr_I 86).1 ∈ ev_UW := wk_m qI_86 pt_w6_1
theorem pt_w6_12 : (Cond.methodLink "OrphanTree" 308 pr_i96.1) ∈ ev_UW ∧ (ev_cw pr_i96 4) ∈ ev_UW ∧ (Cond.instanceMethod pr_i96.1) ∈ ev_UW ∧ (Cond.selects pr_i96.1.cls pr_i96.1 pr_i96.1) ∈ ev_UW := by
  have e : (tables_1_6.drop 192).take 16 = [_, _, (Cond.methodLink "OrphanTree" 308 pr_i96.1), (Cond.instanceMethod pr_i96.1), (Cond.selects pr_i96.1.cls pr_i96.1 pr_i96.1), (ev_cw pr_i96 4), _, _, _, _, _, _, _, _, _, _] := rfl
  exact ⟨uw_s tk_6 192 e 2 rfl rfl, uw_s tk_6 192 e 5 rfl rfl, uw_s tk_6 192 e 3 rfl rfl, uw_s tk_6 192 e 4 rfl rfl⟩
theorem pw_m_q0_308 : Cond.methodLink "OrphanTree" 308 (pr_I 96).1 ∈ ev_UW := wk_m qI_96 pt_w6_12.1
theorem pw_c_96 : ev_cw (pr_I 96) (pr_P 96).1 ∈ ev_UW := wk_c qI_96 pp_96 pt_w6_12.2.1
theorem pw_v_96 : Cond.instanceMethod (pr_I 96).1 ∈ ev_UW := wk_v qI_96 pt_w6_12.2.2.1
theorem pw_s_96 : Cond.selects (pr_I 96).1.cls (pr_I 96).1 (pr_I 96).1 ∈ ev_UW := wk_s qI_96 pt_w6_12.2.2.2
theorem pt_w1_14 : (Cond.arrayClass (newarray.typeOf .byte)) ∈ ev_UW ∧ (Cond.fieldLink "OrphanTree$SetupReader" 12 (TX4 0).1 (TX4 0).2.1 (TX4 0).2.2.1) ∈ ev_UW ∧ (Cond.classLink "OrphanTree$SetupReader" 18 "OrphanTree$Tree") ∈ ev_UW ∧ (Cond.methodLink "OrphanTree$SetupReader" 20 pr_i70.1) ∈ ev_UW ∧ (Cond.fieldLink "OrphanTree$SetupReader" 21 (TX4 1).1 (TX4 1).2.1 (TX4 1).2.2.1) ∈ ev_UW ∧ (Cond.fieldLink "OrphanTree$SetupReader" 25 (TX4 2).1 (TX4 2).2.1 (TX4 2).2.2.1) ∈ ev_UW ∧ (Cond.fieldLink "OrphanTree$SetupReader" 29 (TX4 3).1 (TX4 3).2.1 (TX4 3).2.2.1) ∈ ev_UW ∧ (Cond.fieldLink "OrphanTree$SetupReader" 32 (TX4 4).1 (TX4 4).2.1 (TX4 4).2.2.1) ∈ ev_UW ∧ (Cond.fieldLink "OrphanTree$SetupReader" 35 (TX4 5).1 (TX4 5).2.1 (TX4 5).2.2.1) ∈ ev_UW ∧ (Cond.fieldLink "OrphanTree$SetupReader" 38 (TX4 6).1 (TX4 6).2.1 (TX4 6).2.2.1) ∈ ev_UW ∧ (Cond.fieldLink "OrphanTree$SetupReader" 41 (TX4 7).1 (TX4 7).2.1 (TX4 7).2.2.1) ∈ ev_UW ∧ (Cond.fieldLinkNest "OrphanTree" 47 (TX4 0).1 (TX4 0).2.1 (TX4 0).2.2.1 "OrphanTree") ∈ lw_tbl ∧ (Cond.fieldLinkNest "OrphanTree" 68 (TX4 2).1 (TX4 2).2.1 (TX4 2).2.2.1 "OrphanTree") ∈ lw_tbl ∧ (Cond.fieldLinkNest "OrphanTree" 71 (TX4 1).1 (TX4 1).2.1 (TX4 1).2.2.1 "OrphanTree") ∈ lw_tbl := by
  have e : (tables_1_1.drop 224).take 16 = [_, _, (Cond.arrayClass (newarray.typeOf .byte)), (Cond.classLink "OrphanTree$SetupReader" 18 "OrphanTree$Tree"), (Cond.methodLink "OrphanTree$SetupReader" 20 pr_i70.1), (Cond.fieldLink "OrphanTree$SetupReader" 12 (TX4 0).1 (TX4 0).2.1 (TX4 0).2.2.1), (Cond.fieldLinkNest "OrphanTree" 47 (TX4 0).1 (TX4 0).2.1 (TX4 0).2.2.1 "OrphanTree"), (Cond.fieldLink "OrphanTree$SetupReader" 21 (TX4 1).1 (TX4 1).2.1 (TX4 1).2.2.1), (Cond.fieldLinkNest "OrphanTree" 71 (TX4 1).1 (TX4 1).2.1 (TX4 1).2.2.1 "OrphanTree"), (Cond.fieldLink "OrphanTree$SetupReader" 25 (TX4 2).1 (TX4 2).2.1 (TX4 2).2.2.1), (Cond.fieldLinkNest "OrphanTree" 68 (TX4 2).1 (TX4 2).2.1 (TX4 2).2.2.1 "OrphanTree"), (Cond.fieldLink "OrphanTree$SetupReader" 29 (TX4 3).1 (TX4 3).2.1 (TX4 3).2.2.1), (Cond.fieldLink "OrphanTree$SetupReader" 32 (TX4 4).1 (TX4 4).2.1 (TX4 4).2.2.1), (Cond.fieldLink "OrphanTree$SetupReader" 35 (TX4 5).1 (TX4 5).2.1 (TX4 5).2.2.1), (Cond.fieldLink "OrphanTree$SetupReader" 38 (TX4 6).1 (TX4 6).2.1 (TX4 6).2.2.1), (Cond.fieldLink "OrphanTree$SetupReader" 41 (TX4 7).1 (TX4 7).2.1 (TX4 7).2.2.1)] := rfl
  exact ⟨uw_s tk_1 224 e 2 rfl rfl, uw_s tk_1 224 e 5 rfl rfl, uw_s tk_1 224 e 3 rfl rfl, uw_s tk_1 224 e 4 rfl rfl, uw_s tk_1 224 e 7 rfl rfl, uw_s tk_1 224 e 9 rfl rfl, uw_s tk_1 224 e 11 rfl rfl, uw_s tk_1 224 e 12 rfl rfl, uw_s tk_1 224 e 13 rfl rfl, uw_s tk_1 224 e 14 rfl rfl, uw_s tk_1 224 e 15 rfl rfl, tw_s tk_1 224 e 6 rfl, tw_s tk_1 224 e 10 rfl, tw_s tk_1 224 e 8 rfl⟩
theorem pw_a_byte : Cond.arrayClass (newarray.typeOf .byte) ∈ ev_UW := pt_w1_14.1
theorem pw_f_q3_12 : Cond.fieldLink "OrphanTree$SetupReader" 12 (TX4 0).1 (TX4 0).2.1 (TX4 0).2.2.1 ∈ ev_UW := pt_w1_14.2.1
theorem pw_cl_q3_18 : Cond.classLink "OrphanTree$SetupReader" 18 "OrphanTree$Tree" ∈ ev_UW := pt_w1_14.2.2.1
theorem pw_m_q3_20 : Cond.methodLink "OrphanTree$SetupReader" 20 (pr_I 70).1 ∈ ev_UW := wk_m qI_70 pt_w1_14.2.2.2.1
theorem pw_f_q3_21 : Cond.fieldLink "OrphanTree$SetupReader" 21 (TX4 1).1 (TX4 1).2.1 (TX4 1).2.2.1 ∈ ev_UW := pt_w1_14.2.2.2.2.1
theorem pw_f_q3_25 : Cond.fieldLink "OrphanTree$SetupReader" 25 (TX4 2).1 (TX4 2).2.1 (TX4 2).2.2.1 ∈ ev_UW := pt_w1_14.2.2.2.2.2.1
theorem pw_f_q3_29 : Cond.fieldLink "OrphanTree$SetupReader" 29 (TX4 3).1 (TX4 3).2.1 (TX4 3).2.2.1 ∈ ev_UW := pt_w1_14.2.2.2.2.2.2.1
theorem pw_f_q3_32 : Cond.fieldLink "OrphanTree$SetupReader" 32 (TX4 4).1 (TX4 4).2.1 (TX4 4).2.2.1 ∈ ev_UW := pt_w1_14.2.2.2.2.2.2.2.1
theorem pw_f_q3_35 : Cond.fieldLink "OrphanTree$SetupReader" 35 (TX4 5).1 (TX4 5).2.1 (TX4 5).2.2.1 ∈ ev_UW := pt_w1_14.2.2.2.2.2.2.2.2.1
theorem pw_f_q3_38 : Cond.fieldLink "OrphanTree$SetupReader" 38 (TX4 6).1 (TX4 6).2.1 (TX4 6).2.2.1 ∈ ev_UW := pt_w1_14.2.2.2.2.2.2.2.2.2.1
theorem pw_f_q3_41 : Cond.fieldLink "OrphanTree$SetupReader" 41 (TX4 7).1 (TX4 7).2.1 (TX4 7).2.2.1 ∈ ev_UW := pt_w1_14.2.2.2.2.2.2.2.2.2.2.1
theorem pw_f_q0_47 : Cond.fieldLinkNest "OrphanTree" 47 (TX4 0).1 (TX4 0).2.1 (TX4 0).2.2.1 "OrphanTree" ∈ lw_tbl := pt_w1_14.2.2.2.2.2.2.2.2.2.2.2.1
theorem pw_f_q0_68 : Cond.fieldLinkNest "OrphanTree" 68 (TX4 2).1 (TX4 2).2.1 (TX4 2).2.2.1 "OrphanTree" ∈ lw_tbl := pt_w1_14.2.2.2.2.2.2.2.2.2.2.2.2.1
theorem pw_f_q0_71 : Cond.fieldLinkNest "OrphanTree" 71 (TX4 1).1 (TX4 1).2.1 (TX4 1).2.2.1 "OrphanTree" ∈ lw_tbl := pt_w1_14.2.2.2.2.2.2.2.2.2.2.2.2.2
theorem pt_w1_3 : (Cond.methodLink "OrphanTree$Proc" 3 Lib.objectInit) ∈ ev_UW ∧ (Cond.fieldLink "OrphanTree$Proc" 9 (TX3 1).1 (TX3 1).2.1 (TX3 1).2.2.1) ∈ ev_UW ∧ (Cond.fieldLink "OrphanTree$Proc" 15 (TX3 2).1 (TX3 2).2.1 (TX3 2).2.2.1) ∈ ev_UW ∧ (Cond.fieldLink "OrphanTree$Proc" 19 (TX3 3).1 (TX3 3).2.1 (TX3 3).2.2.1) ∈ ev_UW ∧ (Cond.fieldLink "OrphanTree$Proc" 57 (TX3 0).1 (TX3 0).2.1 (TX3 0).2.2.1) ∈ ev_UW ∧ (Cond.methodLink "OrphanTree$Tree" 11 pr_i34.1) ∈ ev_UW ∧ (ev_cw pr_i34 2) ∈ ev_UW ∧ (Cond.instanceMethod pr_i34.1) ∈ ev_UW ∧ (Cond.fieldLinkNest "OrphanTree" 129 (TX3 2).1 (TX3 2).2.1 (TX3 2).2.2.1 "OrphanTree") ∈ lw_tbl ∧ (Cond.fieldLinkNest "OrphanTree" 144 (TX3 3).1 (TX3 3).2.1 (TX3 3).2.2.1 "OrphanTree") ∈ lw_tbl ∧ (Cond.fieldLinkNest "OrphanTree" 150 (TX3 1).1 (TX3 1).2.1 (TX3 1).2.2.1 "OrphanTree") ∈ lw_tbl ∧ (Cond.fieldLinkNest "OrphanTree" 186 (TX3 0).1 (TX3 0).2.1 (TX3 0).2.2.1 "OrphanTree") ∈ lw_tbl ∧ (Cond.fieldLinkNest "OrphanTree$SetupReader" 168 (TX3 0).1 (TX3 0).2.1 (TX3 0).2.2.1 "OrphanTree") ∈ lw_tbl ∧ (Cond.fieldLinkNest "OrphanTree$Tree" 64 (TX3 2).1 (TX3 2).2.1 (TX3 2).2.2.1 "OrphanTree") ∈ lw_tbl ∧ (Cond.fieldLinkNest "OrphanTree$Tree" 67 (TX3 0).1 (TX3 0).2.1 (TX3 0).2.2.1 "OrphanTree") ∈ lw_tbl ∧ (Cond.fieldLinkNest "OrphanTree$Tree" 80 (TX3 1).1 (TX3 1).2.1 (TX3 1).2.2.1 "OrphanTree") ∈ lw_tbl := by
  have e : (tables_1_1.drop 48).take 16 = [(Cond.methodLink "OrphanTree$Tree" 11 pr_i34.1), (Cond.instanceMethod pr_i34.1), (ev_cw pr_i34 2), (Cond.methodLink "OrphanTree$Proc" 3 Lib.objectInit), (Cond.fieldLink "OrphanTree$Proc" 57 (TX3 0).1 (TX3 0).2.1 (TX3 0).2.2.1), (Cond.fieldLinkNest "OrphanTree$Tree" 67 (TX3 0).1 (TX3 0).2.1 (TX3 0).2.2.1 "OrphanTree"), (Cond.fieldLinkNest "OrphanTree$SetupReader" 168 (TX3 0).1 (TX3 0).2.1 (TX3 0).2.2.1 "OrphanTree"), (Cond.fieldLinkNest "OrphanTree" 186 (TX3 0).1 (TX3 0).2.1 (TX3 0).2.2.1 "OrphanTree"), (Cond.fieldLink "OrphanTree$Proc" 9 (TX3 1).1 (TX3 1).2.1 (TX3 1).2.2.1), (Cond.fieldLinkNest "OrphanTree$Tree" 80 (TX3 1).1 (TX3 1).2.1 (TX3 1).2.2.1 "OrphanTree"), (Cond.fieldLinkNest "OrphanTree" 150 (TX3 1).1 (TX3 1).2.1 (TX3 1).2.2.1 "OrphanTree"), (Cond.fieldLink "OrphanTree$Proc" 15 (TX3 2).1 (TX3 2).2.1 (TX3 2).2.2.1), (Cond.fieldLinkNest "OrphanTree$Tree" 64 (TX3 2).1 (TX3 2).2.1 (TX3 2).2.2.1 "OrphanTree"), (Cond.fieldLinkNest "OrphanTree" 129 (TX3 2).1 (TX3 2).2.1 (TX3 2).2.2.1 "OrphanTree"), (Cond.fieldLink "OrphanTree$Proc" 19 (TX3 3).1 (TX3 3).2.1 (TX3 3).2.2.1), (Cond.fieldLinkNest "OrphanTree" 144 (TX3 3).1 (TX3 3).2.1 (TX3 3).2.2.1 "OrphanTree")] := rfl
  exact ⟨uw_s tk_1 48 e 3 rfl rfl, uw_s tk_1 48 e 8 rfl rfl, uw_s tk_1 48 e 11 rfl rfl, uw_s tk_1 48 e 14 rfl rfl, uw_s tk_1 48 e 4 rfl rfl, uw_s tk_1 48 e 0 rfl rfl, uw_s tk_1 48 e 2 rfl rfl, uw_s tk_1 48 e 1 rfl rfl, tw_s tk_1 48 e 13 rfl, tw_s tk_1 48 e 15 rfl, tw_s tk_1 48 e 10 rfl, tw_s tk_1 48 e 7 rfl, tw_s tk_1 48 e 6 rfl, tw_s tk_1 48 e 12 rfl, tw_s tk_1 48 e 5 rfl, tw_s tk_1 48 e 9 rfl⟩
theorem pw_m_q8_3 : Cond.methodLink "OrphanTree$Proc" 3 Lib.objectInit ∈ ev_UW := pt_w1_3.1
theorem pw_f_q8_9 : Cond.fieldLink "OrphanTree$Proc" 9 (TX3 1).1 (TX3 1).2.1 (TX3 1).2.2.1 ∈ ev_UW := pt_w1_3.2.1
theorem pw_f_q8_15 : Cond.fieldLink "OrphanTree$Proc" 15 (TX3 2).1 (TX3 2).2.1 (TX3 2).2.2.1 ∈ ev_UW := pt_w1_3.2.2.1
theorem pw_f_q8_19 : Cond.fieldLink "OrphanTree$Proc" 19 (TX3 3).1 (TX3 3).2.1 (TX3 3).2.2.1 ∈ ev_UW := pt_w1_3.2.2.2.1
theorem pw_f_q8_57 : Cond.fieldLink "OrphanTree$Proc" 57 (TX3 0).1 (TX3 0).2.1 (TX3 0).2.2.1 ∈ ev_UW := pt_w1_3.2.2.2.2.1
theorem pw_m_q1_11 : Cond.methodLink "OrphanTree$Tree" 11 (pr_I 34).1 ∈ ev_UW := wk_m qI_34 pt_w1_3.2.2.2.2.2.1
theorem pw_c_34 : ev_cw (pr_I 34) (pr_P 34).1 ∈ ev_UW := wk_c qI_34 pp_34 pt_w1_3.2.2.2.2.2.2.1
theorem pw_v_34 : Cond.instanceMethod (pr_I 34).1 ∈ ev_UW := wk_v qI_34 pt_w1_3.2.2.2.2.2.2.2.1
theorem pw_f_q0_129 : Cond.fieldLinkNest "OrphanTree" 129 (TX3 2).1 (TX3 2).2.1 (TX3 2).2.2.1 "OrphanTree" ∈ lw_tbl := pt_w1_3.2.2.2.2.2.2.2.2.1
theorem pw_f_q0_144 : Cond.fieldLinkNest "OrphanTree" 144 (TX3 3).1 (TX3 3).2.1 (TX3 3).2.2.1 "OrphanTree" ∈ lw_tbl := pt_w1_3.2.2.2.2.2.2.2.2.2.1
theorem pw_f_q0_150 : Cond.fieldLinkNest "OrphanTree" 150 (TX3 1).1 (TX3 1).2.1 (TX3 1).2.2.1 "OrphanTree" ∈ lw_tbl := pt_w1_3.2.2.2.2.2.2.2.2.2.2.1
theorem pw_f_q0_186 : Cond.fieldLinkNest "OrphanTree" 186 (TX3 0).1 (TX3 0).2.1 (TX3 0).2.2.1 "OrphanTree" ∈ lw_tbl := pt_w1_3.2.2.2.2.2.2.2.2.2.2.2.1
theorem pw_f_q3_168 : Cond.fieldLinkNest "OrphanTree$SetupReader" 168 (TX3 0).1 (TX3 0).2.1 (TX3 0).2.2.1 "OrphanTree" ∈ lw_tbl := pt_w1_3.2.2.2.2.2.2.2.2.2.2.2.2.1
theorem pw_f_q1_64 : Cond.fieldLinkNest "OrphanTree$Tree" 64 (TX3 2).1 (TX3 2).2.1 (TX3 2).2.2.1 "OrphanTree" ∈ lw_tbl := pt_w1_3.2.2.2.2.2.2.2.2.2.2.2.2.2.1
theorem pw_f_q1_67 : Cond.fieldLinkNest "OrphanTree$Tree" 67 (TX3 0).1 (TX3 0).2.1 (TX3 0).2.2.1 "OrphanTree" ∈ lw_tbl := pt_w1_3.2.2.2.2.2.2.2.2.2.2.2.2.2.2.1
theorem pw_f_q1_80 : Cond.fieldLinkNest "OrphanTree$Tree" 80 (TX3 1).1 (TX3 1).2.1 (TX3 1).2.2.1 "OrphanTree" ∈ lw_tbl := pt_w1_3.2.2.2.2.2.2.2.2.2.2.2.2.2.2.2
theorem pt_w1_4 : (Cond.fieldLink "OrphanTree$Proc" 22 (TX3 4).1 (TX3 4).2.1 (TX3 4).2.2.1) ∈ ev_UW ∧ (Cond.fieldLink "OrphanTree$Proc" 25 (TX3 5).1 (TX3 5).2.1 (TX3 5).2.2.1) ∈ ev_UW ∧ (Cond.fieldLink "OrphanTree$Proc" 28 (TX3 6).1 (TX3 6).2.1 (TX3 6).2.2.1) ∈ ev_UW ∧ (Cond.fieldLink "OrphanTree$Proc" 31 (TX3 7).1 (TX3 7).2.1 (TX3 7).2.2.1) ∈ ev_UW ∧ (Cond.fieldLinkNest "OrphanTree" 137 (TX3 4).1 (TX3 4).2.1 (TX3 4).2.2.1 "OrphanTree") ∈ lw_tbl ∧ (Cond.fieldLinkNest "OrphanTree" 153 (TX3 5).1 (TX3 5).2.1 (TX3 5).2.2.1 "OrphanTree") ∈ lw_tbl ∧ (Cond.fieldLinkNest "OrphanTree" 156 (TX3 6).1 (TX3 6).2.1 (TX3 6).2.2.1 "OrphanTree") ∈ lw_tbl ∧ (Cond.fieldLinkNest "OrphanTree" 159 (TX3 7).1 (TX3 7).2.1 (TX3 7).2.2.1 "OrphanTree") ∈ lw_tbl ∧ (Cond.fieldLinkNest "OrphanTree$SetupReader" 145 (TX3 4).1 (TX3 4).2.1 (TX3 4).2.2.1 "OrphanTree") ∈ lw_tbl ∧ (Cond.fieldLinkNest "OrphanTree$SetupReader" 150 (TX3 6).1 (TX3 6).2.1 (TX3 6).2.2.1 "OrphanTree") ∈ lw_tbl ∧ (Cond.fieldLinkNest "OrphanTree$SetupReader" 166 (TX3 7).1 (TX3 7).2.1 (TX3 7).2.2.1 "OrphanTree") ∈ lw_tbl ∧ (Cond.fieldLinkNest "OrphanTree$Tree" 114 (TX3 3).1 (TX3 3).2.1 (TX3 3).2.2.1 "OrphanTree") ∈ lw_tbl ∧ (Cond.fieldLinkNest "OrphanTree$Tree" 143 (TX3 6).1 (TX3 6).2.1 (TX3 6).2.2.1 "OrphanTree") ∈ lw_tbl ∧ (Cond.fieldLinkNest "OrphanTree$Tree" 146 (TX3 4).1 (TX3 4).2.1 (TX3 4).2.2.1 "OrphanTree") ∈ lw_tbl ∧ (Cond.fieldLinkNest "OrphanTree$Tree" 149 (TX3 5).1 (TX3 5).2.1 (TX3 5).2.2.1 "OrphanTree") ∈ lw_tbl ∧ (Cond.fieldLinkNest "OrphanTree$Tree" 172 (TX3 7).1 (TX3 7).2.1 (TX3 7).2.2.1 "OrphanTree") ∈ lw_tbl := by
  have e : (tables_1_1.drop 64).take 16 = [(Cond.fieldLinkNest "OrphanTree$Tree" 114 (TX3 3).1 (TX3 3).2.1 (TX3 3).2.2.1 "OrphanTree"), (Cond.fieldLink "OrphanTree$Proc" 22 (TX3 4).1 (TX3 4).2.1 (TX3 4).2.2.1), (Cond.fieldLinkNest "OrphanTree$SetupReader" 145 (TX3 4).1 (TX3 4).2.1 (TX3 4).2.2.1 "OrphanTree"), (Cond.fieldLinkNest "OrphanTree" 137 (TX3 4).1 (TX3 4).2.1 (TX3 4).2.2.1 "OrphanTree"), (Cond.fieldLinkNest "OrphanTree$Tree" 146 (TX3 4).1 (TX3 4).2.1 (TX3 4).2.2.1 "OrphanTree"), (Cond.fieldLink "OrphanTree$Proc" 25 (TX3 5).1 (TX3 5).2.1 (TX3 5).2.2.1), (Cond.fieldLinkNest "OrphanTree" 153 (TX3 5).1 (TX3 5).2.1 (TX3 5).2.2.1 "OrphanTree"), (Cond.fieldLinkNest "OrphanTree$Tree" 149 (TX3 5).1 (TX3 5).2.1 (TX3 5).2.2.1 "OrphanTree"), (Cond.fieldLink "OrphanTree$Proc" 28 (TX3 6).1 (TX3 6).2.1 (TX3 6).2.2.1), (Cond.fieldLinkNest "OrphanTree$SetupReader" 150 (TX3 6).1 (TX3 6).2.1 (TX3 6).2.2.1 "OrphanTree"), (Cond.fieldLinkNest "OrphanTree" 156 (TX3 6).1 (TX3 6).2.1 (TX3 6).2.2.1 "OrphanTree"), (Cond.fieldLinkNest "OrphanTree$Tree" 143 (TX3 6).1 (TX3 6).2.1 (TX3 6).2.2.1 "OrphanTree"), (Cond.fieldLink "OrphanTree$Proc" 31 (TX3 7).1 (TX3 7).2.1 (TX3 7).2.2.1), (Cond.fieldLinkNest "OrphanTree" 159 (TX3 7).1 (TX3 7).2.1 (TX3 7).2.2.1 "OrphanTree"), (Cond.fieldLinkNest "OrphanTree$SetupReader" 166 (TX3 7).1 (TX3 7).2.1 (TX3 7).2.2.1 "OrphanTree"), (Cond.fieldLinkNest "OrphanTree$Tree" 172 (TX3 7).1 (TX3 7).2.1 (TX3 7).2.2.1 "OrphanTree")] := rfl
  exact ⟨uw_s tk_1 64 e 1 rfl rfl, uw_s tk_1 64 e 5 rfl rfl, uw_s tk_1 64 e 8 rfl rfl, uw_s tk_1 64 e 12 rfl rfl, tw_s tk_1 64 e 3 rfl, tw_s tk_1 64 e 6 rfl, tw_s tk_1 64 e 10 rfl, tw_s tk_1 64 e 13 rfl, tw_s tk_1 64 e 2 rfl, tw_s tk_1 64 e 9 rfl, tw_s tk_1 64 e 14 rfl, tw_s tk_1 64 e 0 rfl, tw_s tk_1 64 e 11 rfl, tw_s tk_1 64 e 4 rfl, tw_s tk_1 64 e 7 rfl, tw_s tk_1 64 e 15 rfl⟩
theorem pw_f_q8_22 : Cond.fieldLink "OrphanTree$Proc" 22 (TX3 4).1 (TX3 4).2.1 (TX3 4).2.2.1 ∈ ev_UW := pt_w1_4.1
theorem pw_f_q8_25 : Cond.fieldLink "OrphanTree$Proc" 25 (TX3 5).1 (TX3 5).2.1 (TX3 5).2.2.1 ∈ ev_UW := pt_w1_4.2.1
theorem pw_f_q8_28 : Cond.fieldLink "OrphanTree$Proc" 28 (TX3 6).1 (TX3 6).2.1 (TX3 6).2.2.1 ∈ ev_UW := pt_w1_4.2.2.1
theorem pw_f_q8_31 : Cond.fieldLink "OrphanTree$Proc" 31 (TX3 7).1 (TX3 7).2.1 (TX3 7).2.2.1 ∈ ev_UW := pt_w1_4.2.2.2.1
theorem pw_f_q0_137 : Cond.fieldLinkNest "OrphanTree" 137 (TX3 4).1 (TX3 4).2.1 (TX3 4).2.2.1 "OrphanTree" ∈ lw_tbl := pt_w1_4.2.2.2.2.1
theorem pw_f_q0_153 : Cond.fieldLinkNest "OrphanTree" 153 (TX3 5).1 (TX3 5).2.1 (TX3 5).2.2.1 "OrphanTree" ∈ lw_tbl := pt_w1_4.2.2.2.2.2.1
theorem pw_f_q0_156 : Cond.fieldLinkNest "OrphanTree" 156 (TX3 6).1 (TX3 6).2.1 (TX3 6).2.2.1 "OrphanTree" ∈ lw_tbl := pt_w1_4.2.2.2.2.2.2.1
theorem pw_f_q0_159 : Cond.fieldLinkNest "OrphanTree" 159 (TX3 7).1 (TX3 7).2.1 (TX3 7).2.2.1 "OrphanTree" ∈ lw_tbl := pt_w1_4.2.2.2.2.2.2.2.1
theorem pw_f_q3_145 : Cond.fieldLinkNest "OrphanTree$SetupReader" 145 (TX3 4).1 (TX3 4).2.1 (TX3 4).2.2.1 "OrphanTree" ∈ lw_tbl := pt_w1_4.2.2.2.2.2.2.2.2.1
theorem pw_f_q3_150 : Cond.fieldLinkNest "OrphanTree$SetupReader" 150 (TX3 6).1 (TX3 6).2.1 (TX3 6).2.2.1 "OrphanTree" ∈ lw_tbl := pt_w1_4.2.2.2.2.2.2.2.2.2.1
theorem pw_f_q3_166 : Cond.fieldLinkNest "OrphanTree$SetupReader" 166 (TX3 7).1 (TX3 7).2.1 (TX3 7).2.2.1 "OrphanTree" ∈ lw_tbl := pt_w1_4.2.2.2.2.2.2.2.2.2.2.1
theorem pw_f_q1_114 : Cond.fieldLinkNest "OrphanTree$Tree" 114 (TX3 3).1 (TX3 3).2.1 (TX3 3).2.2.1 "OrphanTree" ∈ lw_tbl := pt_w1_4.2.2.2.2.2.2.2.2.2.2.2.1
theorem pw_f_q1_143 : Cond.fieldLinkNest "OrphanTree$Tree" 143 (TX3 6).1 (TX3 6).2.1 (TX3 6).2.2.1 "OrphanTree" ∈ lw_tbl := pt_w1_4.2.2.2.2.2.2.2.2.2.2.2.2.1
theorem pw_f_q1_146 : Cond.fieldLinkNest "OrphanTree$Tree" 146 (TX3 4).1 (TX3 4).2.1 (TX3 4).2.2.1 "OrphanTree" ∈ lw_tbl := pt_w1_4.2.2.2.2.2.2.2.2.2.2.2.2.2.1
theorem pw_f_q1_149 : Cond.fieldLinkNest "OrphanTree$Tree" 149 (TX3 5).1 (TX3 5).2.1 (TX3 5).2.2.1 "OrphanTree" ∈ lw_tbl := pt_w1_4.2.2.2.2.2.2.2.2.2.2.2.2.2.2.1
theorem pw_f_q1_172 : Cond.fieldLinkNest "OrphanTree$Tree" 172 (TX3 7).1 (TX3 7).2.1 (TX3 7).2.2.1 "OrphanTree" ∈ lw_tbl := pt_w1_4.2.2.2.2.2.2.2.2.2.2.2.2.2.2.2
theorem pt_w1_5 : (Cond.fieldLink "OrphanTree$Proc" 34 (TX3 8).1 (TX3 8).2.1 (TX3 8).2.2.1) ∈ ev_UW ∧ (Cond.fieldLink "OrphanTree$Proc" 37 (TX3 9).1 (TX3 9).2.1 (TX3 9).2.2.1) ∈ ev_UW ∧ (Cond.fieldLink "OrphanTree$Proc" 40 (TX3 10).1 (TX3 10).2.1 (TX3 10).2.2.1) ∈ ev_UW ∧ (Cond.fieldLink "OrphanTree$Proc" 43 (TX3 11).1 (TX3 11).2.1 (TX3 11).2.2.1) ∈ ev_UW ∧ (Cond.fieldLink "OrphanTree$Proc" 46 (TX3 12).1 (TX3 12).2.1 (TX3 12).2.2.1) ∈ ev_UW ∧ (Cond.fieldLink "OrphanTree$Proc" 49 (TX3 13).1 (TX3 13).2.1 (TX3 13).2.2.1) ∈ ev_UW ∧ (Cond.fieldLinkNest "OrphanTree" 162 (TX3 9).1 (TX3 9).2.1 (TX3 9).2.2.1 "OrphanTree") ∈ lw_tbl ∧ (Cond.fieldLinkNest "OrphanTree" 165 (TX3 8).1 (TX3 8).2.1 (TX3 8).2.2.1 "OrphanTree") ∈ lw_tbl ∧ (Cond.fieldLinkNest "OrphanTree" 168 (TX3 11).1 (TX3 11).2.1 (TX3 11).2.2.1 "OrphanTree") ∈ lw_tbl ∧ (Cond.fieldLinkNest "OrphanTree" 171 (TX3 12).1 (TX3 12).2.1 (TX3 12).2.2.1 "OrphanTree") ∈ lw_tbl ∧ (Cond.fieldLinkNest "OrphanTree$SetupReader" 178 (TX3 8).1 (TX3 8).2.1 (TX3 8).2.2.1 "OrphanTree") ∈ lw_tbl ∧ (Cond.fieldLinkNest "OrphanTree$Tree" 111 (TX3 9).1 (TX3 9).2.1 (TX3 9).2.2.1 "OrphanTree") ∈ lw_tbl ∧ (Cond.fieldLinkNest "OrphanTree$Tree" 101 (TX3 10).1 (TX3 10).2.1 (TX3 10).2.2.1 "OrphanTree") ∈ lw_tbl ∧ (Cond.fieldLinkNest "OrphanTree$Tree" 139 (TX3 13).1 (TX3 13).2.1 (TX3 13).2.2.1 "OrphanTree") ∈ lw_tbl ∧ (Cond.fieldLinkNest "OrphanTree$Tree" 156 (TX3 12).1 (TX3 12).2.1 (TX3 12).2.2.1 "OrphanTree") ∈ lw_tbl ∧ (Cond.fieldLinkNest "OrphanTree$Tree" 175 (TX3 11).1 (TX3 11).2.1 (TX3 11).2.2.1 "OrphanTree") ∈ lw_tbl := by
  have e : (tables_1_1.drop 80).take 16 = [(Cond.fieldLink "OrphanTree$Proc" 34 (TX3 8).1 (TX3 8).2.1 (TX3 8).2.2.1), (Cond.fieldLinkNest "OrphanTree" 165 (TX3 8).1 (TX3 8).2.1 (TX3 8).2.2.1 "OrphanTree"), (Cond.fieldLinkNest "OrphanTree$SetupReader" 178 (TX3 8).1 (TX3 8).2.1 (TX3 8).2.2.1 "OrphanTree"), (Cond.fieldLink "OrphanTree$Proc" 37 (TX3 9).1 (TX3 9).2.1 (TX3 9).2.2.1), (Cond.fieldLinkNest "OrphanTree" 162 (TX3 9).1 (TX3 9).2.1 (TX3 9).2.2.1 "OrphanTree"), (Cond.fieldLinkNest "OrphanTree$Tree" 111 (TX3 9).1 (TX3 9).2.1 (TX3 9).2.2.1 "OrphanTree"), (Cond.fieldLink "OrphanTree$Proc" 40 (TX3 10).1 (TX3 10).2.1 (TX3 10).2.2.1), (Cond.fieldLinkNest "OrphanTree$Tree" 101 (TX3 10).1 (TX3 10).2.1 (TX3 10).2.2.1 "OrphanTree"), (Cond.fieldLink "OrphanTree$Proc" 43 (TX3 11).1 (TX3 11).2.1 (TX3 11).2.2.1), (Cond.fieldLinkNest "OrphanTree" 168 (TX3 11).1 (TX3 11).2.1 (TX3 11).2.2.1 "OrphanTree"), (Cond.fieldLinkNest "OrphanTree$Tree" 175 (TX3 11).1 (TX3 11).2.1 (TX3 11).2.2.1 "OrphanTree"), (Cond.fieldLink "OrphanTree$Proc" 46 (TX3 12).1 (TX3 12).2.1 (TX3 12).2.2.1), (Cond.fieldLinkNest "OrphanTree" 171 (TX3 12).1 (TX3 12).2.1 (TX3 12).2.2.1 "OrphanTree"), (Cond.fieldLinkNest "OrphanTree$Tree" 156 (TX3 12).1 (TX3 12).2.1 (TX3 12).2.2.1 "OrphanTree"), (Cond.fieldLink "OrphanTree$Proc" 49 (TX3 13).1 (TX3 13).2.1 (TX3 13).2.2.1), (Cond.fieldLinkNest "OrphanTree$Tree" 139 (TX3 13).1 (TX3 13).2.1 (TX3 13).2.2.1 "OrphanTree")] := rfl
  exact ⟨uw_s tk_1 80 e 0 rfl rfl, uw_s tk_1 80 e 3 rfl rfl, uw_s tk_1 80 e 6 rfl rfl, uw_s tk_1 80 e 8 rfl rfl, uw_s tk_1 80 e 11 rfl rfl, uw_s tk_1 80 e 14 rfl rfl, tw_s tk_1 80 e 4 rfl, tw_s tk_1 80 e 1 rfl, tw_s tk_1 80 e 9 rfl, tw_s tk_1 80 e 12 rfl, tw_s tk_1 80 e 2 rfl, tw_s tk_1 80 e 5 rfl, tw_s tk_1 80 e 7 rfl, tw_s tk_1 80 e 15 rfl, tw_s tk_1 80 e 13 rfl, tw_s tk_1 80 e 10 rfl⟩
theorem pw_f_q8_34 : Cond.fieldLink "OrphanTree$Proc" 34 (TX3 8).1 (TX3 8).2.1 (TX3 8).2.2.1 ∈ ev_UW := pt_w1_5.1
theorem pw_f_q8_37 : Cond.fieldLink "OrphanTree$Proc" 37 (TX3 9).1 (TX3 9).2.1 (TX3 9).2.2.1 ∈ ev_UW := pt_w1_5.2.1
theorem pw_f_q8_40 : Cond.fieldLink "OrphanTree$Proc" 40 (TX3 10).1 (TX3 10).2.1 (TX3 10).2.2.1 ∈ ev_UW := pt_w1_5.2.2.1
theorem pw_f_q8_43 : Cond.fieldLink "OrphanTree$Proc" 43 (TX3 11).1 (TX3 11).2.1 (TX3 11).2.2.1 ∈ ev_UW := pt_w1_5.2.2.2.1
theorem pw_f_q8_46 : Cond.fieldLink "OrphanTree$Proc" 46 (TX3 12).1 (TX3 12).2.1 (TX3 12).2.2.1 ∈ ev_UW := pt_w1_5.2.2.2.2.1
theorem pw_f_q8_49 : Cond.fieldLink "OrphanTree$Proc" 49 (TX3 13).1 (TX3 13).2.1 (TX3 13).2.2.1 ∈ ev_UW := pt_w1_5.2.2.2.2.2.1
theorem pw_f_q0_162 : Cond.fieldLinkNest "OrphanTree" 162 (TX3 9).1 (TX3 9).2.1 (TX3 9).2.2.1 "OrphanTree" ∈ lw_tbl := pt_w1_5.2.2.2.2.2.2.1
theorem pw_f_q0_165 : Cond.fieldLinkNest "OrphanTree" 165 (TX3 8).1 (TX3 8).2.1 (TX3 8).2.2.1 "OrphanTree" ∈ lw_tbl := pt_w1_5.2.2.2.2.2.2.2.1
theorem pw_f_q0_168 : Cond.fieldLinkNest "OrphanTree" 168 (TX3 11).1 (TX3 11).2.1 (TX3 11).2.2.1 "OrphanTree" ∈ lw_tbl := pt_w1_5.2.2.2.2.2.2.2.2.1
theorem pw_f_q0_171 : Cond.fieldLinkNest "OrphanTree" 171 (TX3 12).1 (TX3 12).2.1 (TX3 12).2.2.1 "OrphanTree" ∈ lw_tbl := pt_w1_5.2.2.2.2.2.2.2.2.2.1
theorem pw_f_q3_178 : Cond.fieldLinkNest "OrphanTree$SetupReader" 178 (TX3 8).1 (TX3 8).2.1 (TX3 8).2.2.1 "OrphanTree" ∈ lw_tbl := pt_w1_5.2.2.2.2.2.2.2.2.2.2.1
theorem pw_f_q1_111 : Cond.fieldLinkNest "OrphanTree$Tree" 111 (TX3 9).1 (TX3 9).2.1 (TX3 9).2.2.1 "OrphanTree" ∈ lw_tbl := pt_w1_5.2.2.2.2.2.2.2.2.2.2.2.1
theorem pw_f_q1_101 : Cond.fieldLinkNest "OrphanTree$Tree" 101 (TX3 10).1 (TX3 10).2.1 (TX3 10).2.2.1 "OrphanTree" ∈ lw_tbl := pt_w1_5.2.2.2.2.2.2.2.2.2.2.2.2.1
theorem pw_f_q1_139 : Cond.fieldLinkNest "OrphanTree$Tree" 139 (TX3 13).1 (TX3 13).2.1 (TX3 13).2.2.1 "OrphanTree" ∈ lw_tbl := pt_w1_5.2.2.2.2.2.2.2.2.2.2.2.2.2.1
theorem pw_f_q1_156 : Cond.fieldLinkNest "OrphanTree$Tree" 156 (TX3 12).1 (TX3 12).2.1 (TX3 12).2.2.1 "OrphanTree" ∈ lw_tbl := pt_w1_5.2.2.2.2.2.2.2.2.2.2.2.2.2.2.1
theorem pw_f_q1_175 : Cond.fieldLinkNest "OrphanTree$Tree" 175 (TX3 11).1 (TX3 11).2.1 (TX3 11).2.2.1 "OrphanTree" ∈ lw_tbl := pt_w1_5.2.2.2.2.2.2.2.2.2.2.2.2.2.2.2
theorem pt_w1_6 : (Cond.fieldLink "OrphanTree$Proc" 53 (TX3 14).1 (TX3 14).2.1 (TX3 14).2.2.1) ∈ ev_UW := by
  have e : (tables_1_1.drop 96).take 16 = [(Cond.fieldLink "OrphanTree$Proc" 53 (TX3 14).1 (TX3 14).2.1 (TX3 14).2.2.1), _, _, _, _, _, _, _, _, _, _, _, _, _, _, _] := rfl
  exact uw_s tk_1 96 e 0 rfl rfl
theorem pw_f_q8_53 : Cond.fieldLink "OrphanTree$Proc" 53 (TX3 14).1 (TX3 14).2.1 (TX3 14).2.2.1 ∈ ev_UW := pt_w1_6
theorem pt_w2_0 : (Cond.fieldLink "OrphanTree$SetupReader" 44 (TX4 8).1 (TX4 8).2.1 (TX4 8).2.2.1) ∈ ev_UW ∧ (Cond.fieldLink "OrphanTree$SetupReader" 48 (TX4 9).1 (TX4 9).2.1 (TX4 9).2.2.1) ∈ ev_UW ∧ (Cond.fieldLink "OrphanTree$SetupReader" 51 (TX4 10).1 (TX4 10).2.1 (TX4 10).2.2.1) ∈ ev_UW := by
  have e : (tables_1_2.drop 0).take 16 = [(Cond.fieldLink "OrphanTree$SetupReader" 44 (TX4 8).1 (TX4 8).2.1 (TX4 8).2.2.1), (Cond.fieldLink "OrphanTree$SetupReader" 48 (TX4 9).1 (TX4 9).2.1 (TX4 9).2.2.1), (Cond.fieldLink "OrphanTree$SetupReader" 51 (TX4 10).1 (TX4 10).2.1 (TX4 10).2.2.1), _, _, _, _, _, _, _, _, _, _, _, _, _] := rfl
  exact ⟨uw_s tk_2 0 e 0 rfl rfl, uw_s tk_2 0 e 1 rfl rfl, uw_s tk_2 0 e 2 rfl rfl⟩
theorem pw_f_q3_44 : Cond.fieldLink "OrphanTree$SetupReader" 44 (TX4 8).1 (TX4 8).2.1 (TX4 8).2.2.1 ∈ ev_UW := pt_w2_0.1
theorem pw_f_q3_48 : Cond.fieldLink "OrphanTree$SetupReader" 48 (TX4 9).1 (TX4 9).2.1 (TX4 9).2.2.1 ∈ ev_UW := pt_w2_0.2.1
theorem pw_f_q3_51 : Cond.fieldLink "OrphanTree$SetupReader" 51 (TX4 10).1 (TX4 10).2.1 (TX4 10).2.2.1 ∈ ev_UW := pt_w2_0.2.2
theorem pt_w1_8 : (ev_cw pr_i71 5) ∈ ev_UW ∧ (Cond.instanceMethod pr_i71.1) ∈ ev_UW ∧ (Cond.selects pr_i71.1.cls pr_i71.1 pr_i71.1) ∈ ev_UW ∧ (ev_cw pr_i73 2) ∈ ev_UW ∧ (Cond.instanceMethod pr_i73.1) ∈ ev_UW ∧ (Cond.selects pr_i73.1.cls pr_i73.1 pr_i73.1) ∈ ev_UW ∧ (Cond.fieldLink "OrphanTree$Tree" 14 (TX5 0).1 (TX5 0).2.1 (TX5 0).2.2.1) ∈ ev_UW ∧ (Cond.methodLink "OrphanTree$Tree" 50 pr_i71.1) ∈ ev_UW ∧ (Cond.methodLink "OrphanTree$Tree" 53 pr_i35.1) ∈ ev_UW ∧ (ev_cw pr_i35 5) ∈ ev_UW ∧ (Cond.instanceMethod pr_i35.1) ∈ ev_UW ∧ (Cond.selects pr_i35.1.cls pr_i35.1 pr_i35.1) ∈ ev_UW ∧ (Cond.methodLink "OrphanTree$Tree" 57 pr_i73.1) ∈ ev_UW ∧ (Cond.fieldLinkNest "OrphanTree" 102 (TX5 0).1 (TX5 0).2.1 (TX5 0).2.2.1 "OrphanTree") ∈ lw_tbl ∧ (Cond.fieldLinkNest "OrphanTree$SetupReader" 142 (TX5 0).1 (TX5 0).2.1 (TX5 0).2.2.1 "OrphanTree") ∈ lw_tbl ∧ (Cond.arrayOver (.object "OrphanTree$Proc")) ∈ lw_tbl := by
  have e : (tables_1_1.drop 128).take 16 = [(Cond.arrayOver (.object "OrphanTree$Proc")), (Cond.methodLink "OrphanTree$Tree" 50 pr_i71.1), (Cond.instanceMethod pr_i71.1), (Cond.selects pr_i71.1.cls pr_i71.1 pr_i71.1), (ev_cw pr_i71 5), (Cond.methodLink "OrphanTree$Tree" 53 pr_i35.1), (Cond.instanceMethod pr_i35.1), (Cond.selects pr_i35.1.cls pr_i35.1 pr_i35.1), (ev_cw pr_i35 5), (Cond.methodLink "OrphanTree$Tree" 57 pr_i73.1), (Cond.instanceMethod pr_i73.1), (Cond.selects pr_i73.1.cls pr_i73.1 pr_i73.1), (ev_cw pr_i73 2), (Cond.fieldLink "OrphanTree$Tree" 14 (TX5 0).1 (TX5 0).2.1 (TX5 0).2.2.1), (Cond.fieldLinkNest "OrphanTree$SetupReader" 142 (TX5 0).1 (TX5 0).2.1 (TX5 0).2.2.1 "OrphanTree"), (Cond.fieldLinkNest "OrphanTree" 102 (TX5 0).1 (TX5 0).2.1 (TX5 0).2.2.1 "OrphanTree")] := rfl
  exact ⟨uw_s tk_1 128 e 4 rfl rfl, uw_s tk_1 128 e 2 rfl rfl, uw_s tk_1 128 e 3 rfl rfl, uw_s tk_1 128 e 12 rfl rfl, uw_s tk_1 128 e 10 rfl rfl, uw_s tk_1 128 e 11 rfl rfl, uw_s tk_1 128 e 13 rfl rfl, uw_s tk_1 128 e 1 rfl rfl, uw_s tk_1 128 e 5 rfl rfl, uw_s tk_1 128 e 8 rfl rfl, uw_s tk_1 128 e 6 rfl rfl, uw_s tk_1 128 e 7 rfl rfl, uw_s tk_1 128 e 9 rfl rfl, tw_s tk_1 128 e 15 rfl, tw_s tk_1 128 e 14 rfl, tw_s tk_1 128 e 0 rfl⟩
theorem pw_c_71 : ev_cw (pr_I 71) (pr_P 71).1 ∈ ev_UW := wk_c qI_71 pp_71 pt_w1_8.1
theorem pw_v_71 : Cond.instanceMethod (pr_I 71).1 ∈ ev_UW := wk_v qI_71 pt_w1_8.2.1
theorem pw_s_71 : Cond.selects (pr_I 71).1.cls (pr_I 71).1 (pr_I 71).1 ∈ ev_UW := wk_s qI_71 pt_w1_8.2.2.1
theorem pw_c_73 : ev_cw (pr_I 73) (pr_P 73).1 ∈ ev_UW := wk_c qI_73 pp_73 pt_w1_8.2.2.2.1
theorem pw_v_73 : Cond.instanceMethod (pr_I 73).1 ∈ ev_UW := wk_v qI_73 pt_w1_8.2.2.2.2.1
theorem pw_s_73 : Cond.selects (pr_I 73).1.cls (pr_I 73).1 (pr_I 73).1 ∈ ev_UW := wk_s qI_73 pt_w1_8.2.2.2.2.2.1
theorem pw_f_q1_14 : Cond.fieldLink "OrphanTree$Tree" 14 (TX5 0).1 (TX5 0).2.1 (TX5 0).2.2.1 ∈ ev_UW := pt_w1_8.2.2.2.2.2.2.1
theorem pw_m_q1_50 : Cond.methodLink "OrphanTree$Tree" 50 (pr_I 71).1 ∈ ev_UW := wk_m qI_71 pt_w1_8.2.2.2.2.2.2.2.1
theorem pw_m_q1_53 : Cond.methodLink "OrphanTree$Tree" 53 (pr_I 35).1 ∈ ev_UW := wk_m qI_35 pt_w1_8.2.2.2.2.2.2.2.2.1
theorem pw_c_35 : ev_cw (pr_I 35) (pr_P 35).1 ∈ ev_UW := wk_c qI_35 pp_35 pt_w1_8.2.2.2.2.2.2.2.2.2.1
theorem pw_v_35 : Cond.instanceMethod (pr_I 35).1 ∈ ev_UW := wk_v qI_35 pt_w1_8.2.2.2.2.2.2.2.2.2.2.1
theorem pw_s_35 : Cond.selects (pr_I 35).1.cls (pr_I 35).1 (pr_I 35).1 ∈ ev_UW := wk_s qI_35 pt_w1_8.2.2.2.2.2.2.2.2.2.2.2.1
theorem pw_m_q1_57 : Cond.methodLink "OrphanTree$Tree" 57 (pr_I 73).1 ∈ ev_UW := wk_m qI_73 pt_w1_8.2.2.2.2.2.2.2.2.2.2.2.2.1
theorem pw_f_q0_102 : Cond.fieldLinkNest "OrphanTree" 102 (TX5 0).1 (TX5 0).2.1 (TX5 0).2.2.1 "OrphanTree" ∈ lw_tbl := pt_w1_8.2.2.2.2.2.2.2.2.2.2.2.2.2.1
theorem pw_f_q3_142 : Cond.fieldLinkNest "OrphanTree$SetupReader" 142 (TX5 0).1 (TX5 0).2.1 (TX5 0).2.2.1 "OrphanTree" ∈ lw_tbl := pt_w1_8.2.2.2.2.2.2.2.2.2.2.2.2.2.2.1
theorem pw_o_q8 : Cond.arrayOver (.object "OrphanTree$Proc") ∈ lw_tbl := pt_w1_8.2.2.2.2.2.2.2.2.2.2.2.2.2.2.2
theorem pw_s_66 : Cond.selects (pr_I 66).1.cls (pr_I 66).1 (pr_I 66).1 ∈ ev_UW := uw_m tk_0 0 rfl rfl
theorem pw_s_69 : Cond.selects (pr_I 69).1.cls (pr_I 69).1 (pr_I 69).1 ∈ ev_UW := uw_m tk_0 1 rfl rfl
theorem pw_s_53 : Cond.selects (pr_I 53).1.cls (pr_I 53).1 (pr_I 53).1 ∈ ev_UW := uw_m tk_0 2 rfl rfl
theorem pw_s_55 : Cond.selects (pr_I 55).1.cls (pr_I 55).1 (pr_I 55).1 ∈ ev_UW := uw_m tk_0 5 rfl rfl
theorem pw_s_56 : Cond.selects (pr_I 56).1.cls (pr_I 56).1 (pr_I 56).1 ∈ ev_UW := uw_m tk_0 8 rfl rfl
theorem pw_s_57 : Cond.selects (pr_I 57).1.cls (pr_I 57).1 (pr_I 57).1 ∈ ev_UW := uw_m tk_0 9 rfl rfl
theorem pw_s_58 : Cond.selects (pr_I 58).1.cls (pr_I 58).1 (pr_I 58).1 ∈ ev_UW := uw_m tk_0 11 rfl rfl
theorem pw_s_59 : Cond.selects (pr_I 59).1.cls (pr_I 59).1 (pr_I 59).1 ∈ ev_UW := uw_m tk_0 12 rfl rfl
theorem pw_s_60 : Cond.selects (pr_I 60).1.cls (pr_I 60).1 (pr_I 60).1 ∈ ev_UW := uw_m tk_0 13 rfl rfl
theorem pw_s_61 : Cond.selects (pr_I 61).1.cls (pr_I 61).1 (pr_I 61).1 ∈ ev_UW := uw_m tk_0 14 rfl rfl
theorem pw_s_65 : Cond.selects (pr_I 65).1.cls (pr_I 65).1 (pr_I 65).1 ∈ ev_UW := uw_m tk_0 3 rfl rfl
theorem pw_s_54 : Cond.selects (pr_I 54).1.cls (pr_I 54).1 (pr_I 54).1 ∈ ev_UW := uw_m tk_0 4 rfl rfl
theorem pw_s_63 : Cond.selects (pr_I 63).1.cls (pr_I 63).1 (pr_I 63).1 ∈ ev_UW := uw_m tk_0 6 rfl rfl
theorem pw_s_64 : Cond.selects (pr_I 64).1.cls (pr_I 64).1 (pr_I 64).1 ∈ ev_UW := uw_m tk_0 7 rfl rfl
theorem pw_s_62 : Cond.selects (pr_I 62).1.cls (pr_I 62).1 (pr_I 62).1 ∈ ev_UW := uw_m tk_0 10 rfl rfl
theorem pt_w2_5 : (Cond.methodLink "OrphanTree$SetupReader" 62 pr_i69.1) ∈ ev_UW ∧ (ev_cw pr_i69 4) ∈ ev_UW ∧ (Cond.instanceMethod pr_i69.1) ∈ ev_UW ∧ (ev_cw pr_i32 2) ∈ ev_UW ∧ (Cond.instanceMethod pr_i32.1) ∈ ev_UW ∧ (Cond.selects pr_i32.1.cls pr_i32.1 pr_i32.1) ∈ ev_UW ∧ (Cond.methodLink "OrphanTree$SetupReader" 197 pr_i67.1) ∈ ev_UW ∧ (Cond.static pr_i67.1) ∈ ev_UW ∧ (ev_cw pr_i67 1) ∈ ev_UW ∧ (Cond.methodLink "OrphanTree$SetupReader" 200 pr_i68.1) ∈ ev_UW ∧ (Cond.static pr_i68.1) ∈ ev_UW ∧ (ev_cw pr_i68 1) ∈ ev_UW ∧ (Cond.methodLink "OrphanTree$SetupReader" 203 js_ln) ∈ ev_UW := by
  have e : (tables_1_2.drop 80).take 16 = [(Cond.instanceMethod pr_i32.1), (Cond.selects pr_i32.1.cls pr_i32.1 pr_i32.1), (ev_cw pr_i32 2), (Cond.methodLink "OrphanTree$SetupReader" 197 pr_i67.1), (Cond.static pr_i67.1), (ev_cw pr_i67 1), (Cond.methodLink "OrphanTree$SetupReader" 200 pr_i68.1), (Cond.static pr_i68.1), (ev_cw pr_i68 1), _, (Cond.methodLink "OrphanTree$SetupReader" 62 pr_i69.1), _, (Cond.instanceMethod pr_i69.1), (ev_cw pr_i69 4), (Cond.methodLink "OrphanTree$SetupReader" 203 js_ln), _] := rfl
  exact ⟨uw_s tk_2 80 e 10 rfl rfl, uw_s tk_2 80 e 13 rfl rfl, uw_s tk_2 80 e 12 rfl rfl, uw_s tk_2 80 e 2 rfl rfl, uw_s tk_2 80 e 0 rfl rfl, uw_s tk_2 80 e 1 rfl rfl, uw_s tk_2 80 e 3 rfl rfl, uw_s tk_2 80 e 4 rfl rfl, uw_s tk_2 80 e 5 rfl rfl, uw_s tk_2 80 e 6 rfl rfl, uw_s tk_2 80 e 7 rfl rfl, uw_s tk_2 80 e 8 rfl rfl, uw_s tk_2 80 e 14 rfl rfl⟩
theorem pw_m_q3_62 : Cond.methodLink "OrphanTree$SetupReader" 62 (pr_I 69).1 ∈ ev_UW := wk_m qI_69 pt_w2_5.1
theorem pw_c_69 : ev_cw (pr_I 69) (pr_P 69).1 ∈ ev_UW := wk_c qI_69 pp_69 pt_w2_5.2.1
theorem pw_v_69 : Cond.instanceMethod (pr_I 69).1 ∈ ev_UW := wk_v qI_69 pt_w2_5.2.2.1
theorem pw_c_32 : ev_cw (pr_I 32) (pr_P 32).1 ∈ ev_UW := wk_c qI_32 pp_32 pt_w2_5.2.2.2.1
theorem pw_v_32 : Cond.instanceMethod (pr_I 32).1 ∈ ev_UW := wk_v qI_32 pt_w2_5.2.2.2.2.1
theorem pw_s_32 : Cond.selects (pr_I 32).1.cls (pr_I 32).1 (pr_I 32).1 ∈ ev_UW := wk_s qI_32 pt_w2_5.2.2.2.2.2.1
theorem pw_m_q3_197 : Cond.methodLink "OrphanTree$SetupReader" 197 (pr_I 67).1 ∈ ev_UW := wk_m qI_67 pt_w2_5.2.2.2.2.2.2.1
theorem pw_t_67 : Cond.static (pr_I 67).1 ∈ ev_UW := wk_t qI_67 pt_w2_5.2.2.2.2.2.2.2.1
theorem pw_c_67 : ev_cw (pr_I 67) (pr_P 67).1 ∈ ev_UW := wk_c qI_67 pp_67 pt_w2_5.2.2.2.2.2.2.2.2.1
theorem pw_m_q3_200 : Cond.methodLink "OrphanTree$SetupReader" 200 (pr_I 68).1 ∈ ev_UW := wk_m qI_68 pt_w2_5.2.2.2.2.2.2.2.2.2.1
theorem pw_t_68 : Cond.static (pr_I 68).1 ∈ ev_UW := wk_t qI_68 pt_w2_5.2.2.2.2.2.2.2.2.2.2.1
theorem pw_c_68 : ev_cw (pr_I 68) (pr_P 68).1 ∈ ev_UW := wk_c qI_68 pp_68 pt_w2_5.2.2.2.2.2.2.2.2.2.2.2.1
theorem pw_m_q3_203 : Cond.methodLink "OrphanTree$SetupReader" 203 js_ln ∈ ev_UW := pt_w2_5.2.2.2.2.2.2.2.2.2.2.2.2
theorem pt_w2_8 : (Cond.methodLink "OrphanTree$SetupReader" 66 pr_i53.1) ∈ ev_UW := by
  have e : (tables_1_2.drop 128).take 16 = [_, _, _, _, _, _, _, _, _, _, _, _, _, _, (Cond.methodLink "OrphanTree$SetupReader" 66 pr_i53.1), _] := rfl
  exact uw_s tk_2 128 e 14 rfl rfl
theorem pw_m_q3_66 : Cond.methodLink "OrphanTree$SetupReader" 66 (pr_I 53).1 ∈ ev_UW := wk_m qI_53 pt_w2_8
theorem pt_w2_9 : (ev_cw pr_i53 3) ∈ ev_UW ∧ (Cond.instanceMethod pr_i53.1) ∈ ev_UW ∧ (Cond.methodLink "OrphanTree$SetupReader" 105 pr_i65.1) ∈ ev_UW ∧ (ev_cw pr_i65 2) ∈ ev_UW ∧ (Cond.instanceMethod pr_i65.1) ∈ ev_UW ∧ (Cond.methodLink "OrphanTree$SetupReader" 109 pr_i73.1) ∈ ev_UW ∧ (Cond.methodLink "OrphanTree$SetupReader" 112 pr_i54.1) ∈ ev_UW ∧ (ev_cw pr_i54 1) ∈ ev_UW ∧ (Cond.instanceMethod pr_i54.1) ∈ ev_UW := by
  have e : (tables_1_2.drop 144).take 16 = [(Cond.instanceMethod pr_i53.1), (ev_cw pr_i53 3), (Cond.methodLink "OrphanTree$SetupReader" 105 pr_i65.1), _, (Cond.instanceMethod pr_i65.1), (ev_cw pr_i65 2), (Cond.methodLink "OrphanTree$SetupReader" 109 pr_i73.1), (Cond.methodLink "OrphanTree$SetupReader" 112 pr_i54.1), _, (Cond.instanceMethod pr_i54.1), (ev_cw pr_i54 1), _, _, _, _, _] := rfl
  exact ⟨uw_s tk_2 144 e 1 rfl rfl, uw_s tk_2 144 e 0 rfl rfl, uw_s tk_2 144 e 2 rfl rfl, uw_s tk_2 144 e 5 rfl rfl, uw_s tk_2 144 e 4 rfl rfl, uw_s tk_2 144 e 6 rfl rfl, uw_s tk_2 144 e 7 rfl rfl, uw_s tk_2 144 e 10 rfl rfl, uw_s tk_2 144 e 9 rfl rfl⟩
theorem pw_c_53 : ev_cw (pr_I 53) (pr_P 53).1 ∈ ev_UW := wk_c qI_53 pp_53 pt_w2_9.1
theorem pw_v_53 : Cond.instanceMethod (pr_I 53).1 ∈ ev_UW := wk_v qI_53 pt_w2_9.2.1
theorem pw_m_q3_105 : Cond.methodLink "OrphanTree$SetupReader" 105 (pr_I 65).1 ∈ ev_UW := wk_m qI_65 pt_w2_9.2.2.1
theorem pw_c_65 : ev_cw (pr_I 65) (pr_P 65).1 ∈ ev_UW := wk_c qI_65 pp_65 pt_w2_9.2.2.2.1
theorem pw_v_65 : Cond.instanceMethod (pr_I 65).1 ∈ ev_UW := wk_v qI_65 pt_w2_9.2.2.2.2.1
theorem pw_m_q3_109 : Cond.methodLink "OrphanTree$SetupReader" 109 (pr_I 73).1 ∈ ev_UW := wk_m qI_73 pt_w2_9.2.2.2.2.2.1
theorem pw_m_q3_112 : Cond.methodLink "OrphanTree$SetupReader" 112 (pr_I 54).1 ∈ ev_UW := wk_m qI_54 pt_w2_9.2.2.2.2.2.2.1
theorem pw_c_54 : ev_cw (pr_I 54) (pr_P 54).1 ∈ ev_UW := wk_c qI_54 pp_54 pt_w2_9.2.2.2.2.2.2.2.1
theorem pw_v_54 : Cond.instanceMethod (pr_I 54).1 ∈ ev_UW := wk_v qI_54 pt_w2_9.2.2.2.2.2.2.2.2
theorem pt_w2_10 : (Cond.methodLink "OrphanTree$SetupReader" 72 pr_i55.1) ∈ ev_UW ∧ (ev_cw pr_i55 1) ∈ ev_UW ∧ (Cond.instanceMethod pr_i55.1) ∈ ev_UW ∧ (Cond.methodLink "OrphanTree$SetupReader" 116 pr_i72.1) ∈ ev_UW ∧ (ev_cw pr_i72 6) ∈ ev_UW ∧ (Cond.instanceMethod pr_i72.1) ∈ ev_UW ∧ (Cond.selects pr_i72.1.cls pr_i72.1 pr_i72.1) ∈ ev_UW ∧ (Cond.methodLink "OrphanTree$SetupReader" 133 pr_i63.1) ∈ ev_UW ∧ (ev_cw pr_i63 3) ∈ ev_UW ∧ (Cond.instanceMethod pr_i63.1) ∈ ev_UW ∧ (Cond.methodLink "OrphanTree$SetupReader" 139 pr_i64.1) ∈ ev_UW ∧ (Cond.instanceMethod pr_i64.1) ∈ ev_UW := by
  have e : (tables_1_2.drop 160).take 16 = [(Cond.methodLink "OrphanTree$SetupReader" 116 pr_i72.1), (Cond.instanceMethod pr_i72.1), (Cond.selects pr_i72.1.cls pr_i72.1 pr_i72.1), (ev_cw pr_i72 6), _, (Cond.methodLink "OrphanTree$SetupReader" 72 pr_i55.1), _, (Cond.instanceMethod pr_i55.1), (ev_cw pr_i55 1), (Cond.methodLink "OrphanTree$SetupReader" 133 pr_i63.1), _, (Cond.instanceMethod pr_i63.1), (ev_cw pr_i63 3), (Cond.methodLink "OrphanTree$SetupReader" 139 pr_i64.1), _, (Cond.instanceMethod pr_i64.1)] := rfl
  exact ⟨uw_s tk_2 160 e 5 rfl rfl, uw_s tk_2 160 e 8 rfl rfl, uw_s tk_2 160 e 7 rfl rfl, uw_s tk_2 160 e 0 rfl rfl, uw_s tk_2 160 e 3 rfl rfl, uw_s tk_2 160 e 1 rfl rfl, uw_s tk_2 160 e 2 rfl rfl, uw_s tk_2 160 e 9 rfl rfl, uw_s tk_2 160 e 12 rfl rfl, uw_s tk_2 160 e 11 rfl rfl, uw_s tk_2 160 e 13 rfl rfl, uw_s tk_2 160 e 15 rfl rfl⟩
theorem pw_m_q3_72 : Cond.methodLink "OrphanTree$SetupReader" 72 (pr_I 55).1 ∈ ev_UW := wk_m qI_55 pt_w2_10.1
theorem pw_c_55 : ev_cw (pr_I 55) (pr_P 55).1 ∈ ev_UW := wk_c qI_55 pp_55 pt_w2_10.2.1
theorem pw_v_55 : Cond.instanceMethod (pr_I 55).1 ∈ ev_UW := wk_v qI_55 pt_w2_10.2.2.1
theorem pw_m_q3_116 : Cond.methodLink "OrphanTree$SetupReader" 116 (pr_I 72).1 ∈ ev_UW := wk_m qI_72 pt_w2_10.2.2.2.1
theorem pw_c_72 : ev_cw (pr_I 72) (pr_P 72).1 ∈ ev_UW := wk_c qI_72 pp_72 pt_w2_10.2.2.2.2.1
theorem pw_v_72 : Cond.instanceMethod (pr_I 72).1 ∈ ev_UW := wk_v qI_72 pt_w2_10.2.2.2.2.2.1
theorem pw_s_72 : Cond.selects (pr_I 72).1.cls (pr_I 72).1 (pr_I 72).1 ∈ ev_UW := wk_s qI_72 pt_w2_10.2.2.2.2.2.2.1
theorem pw_m_q3_133 : Cond.methodLink "OrphanTree$SetupReader" 133 (pr_I 63).1 ∈ ev_UW := wk_m qI_63 pt_w2_10.2.2.2.2.2.2.2.1
theorem pw_c_63 : ev_cw (pr_I 63) (pr_P 63).1 ∈ ev_UW := wk_c qI_63 pp_63 pt_w2_10.2.2.2.2.2.2.2.2.1
theorem pw_v_63 : Cond.instanceMethod (pr_I 63).1 ∈ ev_UW := wk_v qI_63 pt_w2_10.2.2.2.2.2.2.2.2.2.1
theorem pw_m_q3_139 : Cond.methodLink "OrphanTree$SetupReader" 139 (pr_I 64).1 ∈ ev_UW := wk_m qI_64 pt_w2_10.2.2.2.2.2.2.2.2.2.2.1
theorem pw_v_64 : Cond.instanceMethod (pr_I 64).1 ∈ ev_UW := wk_v qI_64 pt_w2_10.2.2.2.2.2.2.2.2.2.2.2
theorem pt_w2_11 : (Cond.methodLink "OrphanTree$SetupReader" 77 pr_i56.1) ∈ ev_UW ∧ (ev_cw pr_i56 1) ∈ ev_UW ∧ (Cond.instanceMethod pr_i56.1) ∈ ev_UW ∧ (Cond.methodLink "OrphanTree$SetupReader" 82 pr_i57.1) ∈ ev_UW ∧ (ev_cw pr_i57 4) ∈ ev_UW ∧ (Cond.instanceMethod pr_i57.1) ∈ ev_UW ∧ (ev_cw pr_i64 1) ∈ ev_UW ∧ (Cond.methodLink "OrphanTree$SetupReader" 156 pr_i62.1) ∈ ev_UW ∧ (ev_cw pr_i62 2) ∈ ev_UW ∧ (Cond.instanceMethod pr_i62.1) ∈ ev_UW ∧ (Cond.methodLink "OrphanTree$SetupReader" 189 pr_i75.1) ∈ ev_UW := by
  have e : (tables_1_2.drop 176).take 16 = [(ev_cw pr_i64 1), _, (Cond.methodLink "OrphanTree$SetupReader" 77 pr_i56.1), _, (Cond.instanceMethod pr_i56.1), (ev_cw pr_i56 1), _, (Cond.methodLink "OrphanTree$SetupReader" 82 pr_i57.1), _, (Cond.instanceMethod pr_i57.1), (ev_cw pr_i57 4), (Cond.methodLink "OrphanTree$SetupReader" 156 pr_i62.1), _, (Cond.instanceMethod pr_i62.1), (ev_cw pr_i62 2), (Cond.methodLink "OrphanTree$SetupReader" 189 pr_i75.1)] := rfl
  exact ⟨uw_s tk_2 176 e 2 rfl rfl, uw_s tk_2 176 e 5 rfl rfl, uw_s tk_2 176 e 4 rfl rfl, uw_s tk_2 176 e 7 rfl rfl, uw_s tk_2 176 e 10 rfl rfl, uw_s tk_2 176 e 9 rfl rfl, uw_s tk_2 176 e 0 rfl rfl, uw_s tk_2 176 e 11 rfl rfl, uw_s tk_2 176 e 14 rfl rfl, uw_s tk_2 176 e 13 rfl rfl, uw_s tk_2 176 e 15 rfl rfl⟩
theorem pw_m_q3_77 : Cond.methodLink "OrphanTree$SetupReader" 77 (pr_I 56).1 ∈ ev_UW := wk_m qI_56 pt_w2_11.1
theorem pw_c_56 : ev_cw (pr_I 56) (pr_P 56).1 ∈ ev_UW := wk_c qI_56 pp_56 pt_w2_11.2.1
theorem pw_v_56 : Cond.instanceMethod (pr_I 56).1 ∈ ev_UW := wk_v qI_56 pt_w2_11.2.2.1
theorem pw_m_q3_82 : Cond.methodLink "OrphanTree$SetupReader" 82 (pr_I 57).1 ∈ ev_UW := wk_m qI_57 pt_w2_11.2.2.2.1
theorem pw_c_57 : ev_cw (pr_I 57) (pr_P 57).1 ∈ ev_UW := wk_c qI_57 pp_57 pt_w2_11.2.2.2.2.1
theorem pw_v_57 : Cond.instanceMethod (pr_I 57).1 ∈ ev_UW := wk_v qI_57 pt_w2_11.2.2.2.2.2.1
theorem pw_c_64 : ev_cw (pr_I 64) (pr_P 64).1 ∈ ev_UW := wk_c qI_64 pp_64 pt_w2_11.2.2.2.2.2.2.1
theorem pw_m_q3_156 : Cond.methodLink "OrphanTree$SetupReader" 156 (pr_I 62).1 ∈ ev_UW := wk_m qI_62 pt_w2_11.2.2.2.2.2.2.2.1
theorem pw_c_62 : ev_cw (pr_I 62) (pr_P 62).1 ∈ ev_UW := wk_c qI_62 pp_62 pt_w2_11.2.2.2.2.2.2.2.2.1
theorem pw_v_62 : Cond.instanceMethod (pr_I 62).1 ∈ ev_UW := wk_v qI_62 pt_w2_11.2.2.2.2.2.2.2.2.2.1
theorem pw_m_q3_189 : Cond.methodLink "OrphanTree$SetupReader" 189 (pr_I 75).1 ∈ ev_UW := wk_m qI_75 pt_w2_11.2.2.2.2.2.2.2.2.2.2
theorem pt_w2_6 : (Cond.methodLink "OrphanTree$SetupReader" 207 js_ch) ∈ ev_UW := by
  have e : (tables_1_2.drop 96).take 16 = [_, _, _, _, _, _, _, _, (Cond.methodLink "OrphanTree$SetupReader" 207 js_ch), _, _, _, _, _, _, _] := rfl
  exact uw_s tk_2 96 e 8 rfl rfl
theorem pw_m_q3_207 : Cond.methodLink "OrphanTree$SetupReader" 207 js_ch ∈ ev_UW := pt_w2_6
theorem pt_w1_9 : (Cond.fieldLink "OrphanTree$Tree" 20 (TX5 1).1 (TX5 1).2.1 (TX5 1).2.2.1) ∈ ev_UW ∧ (Cond.fieldLink "OrphanTree$Tree" 24 (TX5 2).1 (TX5 2).2.1 (TX5 2).2.2.1) ∈ ev_UW ∧ (Cond.fieldLink "OrphanTree$Tree" 28 (TX5 3).1 (TX5 3).2.1 (TX5 3).2.2.1) ∈ ev_UW ∧ (Cond.fieldLink "OrphanTree$Tree" 31 (TX5 4).1 (TX5 4).2.1 (TX5 4).2.2.1) ∈ ev_UW ∧ (Cond.fieldLink "OrphanTree$Tree" 35 (TX5 5).1 (TX5 5).2.1 (TX5 5).2.2.1) ∈ ev_UW ∧ (Cond.fieldLink "OrphanTree$Tree" 38 (TX5 6).1 (TX5 6).2.1 (TX5 6).2.2.1) ∈ ev_UW ∧ (Cond.fieldLink "OrphanTree$Tree" 41 (TX5 7).1 (TX5 7).2.1 (TX5 7).2.2.1) ∈ ev_UW ∧ (Cond.fieldLink "OrphanTree$Tree" 44 (TX5 8).1 (TX5 8).2.1 (TX5 8).2.2.1) ∈ ev_UW ∧ (Cond.fieldLinkNest "OrphanTree" 80 (TX5 5).1 (TX5 5).2.1 (TX5 5).2.2.1 "OrphanTree") ∈ lw_tbl ∧ (Cond.fieldLinkNest "OrphanTree" 90 (TX5 6).1 (TX5 6).2.1 (TX5 6).2.2.1 "OrphanTree") ∈ lw_tbl ∧ (Cond.fieldLinkNest "OrphanTree" 93 (TX5 7).1 (TX5 7).2.1 (TX5 7).2.2.1 "OrphanTree") ∈ lw_tbl ∧ (Cond.fieldLinkNest "OrphanTree" 115 (TX5 4).1 (TX5 4).2.1 (TX5 4).2.2.1 "OrphanTree") ∈ lw_tbl ∧ (Cond.fieldLinkNest "OrphanTree" 221 (TX5 1).1 (TX5 1).2.1 (TX5 1).2.2.1 "OrphanTree") ∈ lw_tbl ∧ (Cond.fieldLinkNest "OrphanTree$SetupReader" 119 (TX5 3).1 (TX5 3).2.1 (TX5 3).2.2.1 "OrphanTree") ∈ lw_tbl ∧ (Cond.fieldLinkNest "OrphanTree$SetupReader" 137 (TX5 4).1 (TX5 4).2.1 (TX5 4).2.2.1 "OrphanTree") ∈ lw_tbl ∧ (Cond.fieldLinkNest "OrphanTree$SetupReader" 153 (TX5 5).1 (TX5 5).2.1 (TX5 5).2.2.1 "OrphanTree") ∈ lw_tbl := by
  have e : (tables_1_1.drop 144).take 16 = [(Cond.fieldLink "OrphanTree$Tree" 20 (TX5 1).1 (TX5 1).2.1 (TX5 1).2.2.1), (Cond.fieldLinkNest "OrphanTree" 221 (TX5 1).1 (TX5 1).2.1 (TX5 1).2.2.1 "OrphanTree"), (Cond.fieldLink "OrphanTree$Tree" 24 (TX5 2).1 (TX5 2).2.1 (TX5 2).2.2.1), (Cond.fieldLink "OrphanTree$Tree" 28 (TX5 3).1 (TX5 3).2.1 (TX5 3).2.2.1), (Cond.fieldLinkNest "OrphanTree$SetupReader" 119 (TX5 3).1 (TX5 3).2.1 (TX5 3).2.2.1 "OrphanTree"), (Cond.fieldLink "OrphanTree$Tree" 31 (TX5 4).1 (TX5 4).2.1 (TX5 4).2.2.1), (Cond.fieldLinkNest "OrphanTree$SetupReader" 137 (TX5 4).1 (TX5 4).2.1 (TX5 4).2.2.1 "OrphanTree"), (Cond.fieldLinkNest "OrphanTree" 115 (TX5 4).1 (TX5 4).2.1 (TX5 4).2.2.1 "OrphanTree"), (Cond.fieldLink "OrphanTree$Tree" 35 (TX5 5).1 (TX5 5).2.1 (TX5 5).2.2.1), (Cond.fieldLinkNest "OrphanTree" 80 (TX5 5).1 (TX5 5).2.1 (TX5 5).2.2.1 "OrphanTree"), (Cond.fieldLinkNest "OrphanTree$SetupReader" 153 (TX5 5).1 (TX5 5).2.1 (TX5 5).2.2.1 "OrphanTree"), (Cond.fieldLink "OrphanTree$Tree" 38 (TX5 6).1 (TX5 6).2.1 (TX5 6).2.2.1), (Cond.fieldLinkNest "OrphanTree" 90 (TX5 6).1 (TX5 6).2.1 (TX5 6).2.2.1 "OrphanTree"), (Cond.fieldLink "OrphanTree$Tree" 41 (TX5 7).1 (TX5 7).2.1 (TX5 7).2.2.1), (Cond.fieldLinkNest "OrphanTree" 93 (TX5 7).1 (TX5 7).2.1 (TX5 7).2.2.1 "OrphanTree"), (Cond.fieldLink "OrphanTree$Tree" 44 (TX5 8).1 (TX5 8).2.1 (TX5 8).2.2.1)] := rfl
  exact ⟨uw_s tk_1 144 e 0 rfl rfl, uw_s tk_1 144 e 2 rfl rfl, uw_s tk_1 144 e 3 rfl rfl, uw_s tk_1 144 e 5 rfl rfl, uw_s tk_1 144 e 8 rfl rfl, uw_s tk_1 144 e 11 rfl rfl, uw_s tk_1 144 e 13 rfl rfl, uw_s tk_1 144 e 15 rfl rfl, tw_s tk_1 144 e 9 rfl, tw_s tk_1 144 e 12 rfl, tw_s tk_1 144 e 14 rfl, tw_s tk_1 144 e 7 rfl, tw_s tk_1 144 e 1 rfl, tw_s tk_1 144 e 4 rfl, tw_s tk_1 144 e 6 rfl, tw_s tk_1 144 e 10 rfl⟩
theorem pw_f_q1_20 : Cond.fieldLink "OrphanTree$Tree" 20 (TX5 1).1 (TX5 1).2.1 (TX5 1).2.2.1 ∈ ev_UW := pt_w1_9.1
theorem pw_f_q1_24 : Cond.fieldLink "OrphanTree$Tree" 24 (TX5 2).1 (TX5 2).2.1 (TX5 2).2.2.1 ∈ ev_UW := pt_w1_9.2.1
theorem pw_f_q1_28 : Cond.fieldLink "OrphanTree$Tree" 28 (TX5 3).1 (TX5 3).2.1 (TX5 3).2.2.1 ∈ ev_UW := pt_w1_9.2.2.1
theorem pw_f_q1_31 : Cond.fieldLink "OrphanTree$Tree" 31 (TX5 4).1 (TX5 4).2.1 (TX5 4).2.2.1 ∈ ev_UW := pt_w1_9.2.2.2.1
theorem pw_f_q1_35 : Cond.fieldLink "OrphanTree$Tree" 35 (TX5 5).1 (TX5 5).2.1 (TX5 5).2.2.1 ∈ ev_UW := pt_w1_9.2.2.2.2.1
theorem pw_f_q1_38 : Cond.fieldLink "OrphanTree$Tree" 38 (TX5 6).1 (TX5 6).2.1 (TX5 6).2.2.1 ∈ ev_UW := pt_w1_9.2.2.2.2.2.1
theorem pw_f_q1_41 : Cond.fieldLink "OrphanTree$Tree" 41 (TX5 7).1 (TX5 7).2.1 (TX5 7).2.2.1 ∈ ev_UW := pt_w1_9.2.2.2.2.2.2.1
theorem pw_f_q1_44 : Cond.fieldLink "OrphanTree$Tree" 44 (TX5 8).1 (TX5 8).2.1 (TX5 8).2.2.1 ∈ ev_UW := pt_w1_9.2.2.2.2.2.2.2.1
theorem pw_f_q0_80 : Cond.fieldLinkNest "OrphanTree" 80 (TX5 5).1 (TX5 5).2.1 (TX5 5).2.2.1 "OrphanTree" ∈ lw_tbl := pt_w1_9.2.2.2.2.2.2.2.2.1
theorem pw_f_q0_90 : Cond.fieldLinkNest "OrphanTree" 90 (TX5 6).1 (TX5 6).2.1 (TX5 6).2.2.1 "OrphanTree" ∈ lw_tbl := pt_w1_9.2.2.2.2.2.2.2.2.2.1
theorem pw_f_q0_93 : Cond.fieldLinkNest "OrphanTree" 93 (TX5 7).1 (TX5 7).2.1 (TX5 7).2.2.1 "OrphanTree" ∈ lw_tbl := pt_w1_9.2.2.2.2.2.2.2.2.2.2.1
theorem pw_f_q0_115 : Cond.fieldLinkNest "OrphanTree" 115 (TX5 4).1 (TX5 4).2.1 (TX5 4).2.2.1 "OrphanTree" ∈ lw_tbl := pt_w1_9.2.2.2.2.2.2.2.2.2.2.2.1
theorem pw_f_q0_221 : Cond.fieldLinkNest "OrphanTree" 221 (TX5 1).1 (TX5 1).2.1 (TX5 1).2.2.1 "OrphanTree" ∈ lw_tbl := pt_w1_9.2.2.2.2.2.2.2.2.2.2.2.2.1
theorem pw_f_q3_119 : Cond.fieldLinkNest "OrphanTree$SetupReader" 119 (TX5 3).1 (TX5 3).2.1 (TX5 3).2.2.1 "OrphanTree" ∈ lw_tbl := pt_w1_9.2.2.2.2.2.2.2.2.2.2.2.2.2.1
theorem pw_f_q3_137 : Cond.fieldLinkNest "OrphanTree$SetupReader" 137 (TX5 4).1 (TX5 4).2.1 (TX5 4).2.2.1 "OrphanTree" ∈ lw_tbl := pt_w1_9.2.2.2.2.2.2.2.2.2.2.2.2.2.2.1
theorem pw_f_q3_153 : Cond.fieldLinkNest "OrphanTree$SetupReader" 153 (TX5 5).1 (TX5 5).2.1 (TX5 5).2.2.1 "OrphanTree" ∈ lw_tbl := pt_w1_9.2.2.2.2.2.2.2.2.2.2.2.2.2.2.2
theorem pt_w1_10 : (Cond.fieldLink "OrphanTree$Tree" 47 (TX5 9).1 (TX5 9).2.1 (TX5 9).2.2.1) ∈ ev_UW ∧ (Cond.fieldLinkNest "OrphanTree" 96 (TX5 8).1 (TX5 8).2.1 (TX5 8).2.2.1 "OrphanTree") ∈ lw_tbl ∧ (Cond.fieldLinkNest "OrphanTree" 99 (TX5 9).1 (TX5 9).2.1 (TX5 9).2.2.1 "OrphanTree") ∈ lw_tbl := by
  have e : (tables_1_1.drop 160).take 16 = [(Cond.fieldLinkNest "OrphanTree" 96 (TX5 8).1 (TX5 8).2.1 (TX5 8).2.2.1 "OrphanTree"), (Cond.fieldLink "OrphanTree$Tree" 47 (TX5 9).1 (TX5 9).2.1 (TX5 9).2.2.1), (Cond.fieldLinkNest "OrphanTree" 99 (TX5 9).1 (TX5 9).2.1 (TX5 9).2.2.1 "OrphanTree"), _, _, _, _, _, _, _, _, _, _, _, _, _] := rfl
  exact ⟨uw_s tk_1 160 e 1 rfl rfl, tw_s tk_1 160 e 0 rfl, tw_s tk_1 160 e 2 rfl⟩
theorem pw_f_q1_47 : Cond.fieldLink "OrphanTree$Tree" 47 (TX5 9).1 (TX5 9).2.1 (TX5 9).2.2.1 ∈ ev_UW := pt_w1_10.1
theorem pw_f_q0_96 : Cond.fieldLinkNest "OrphanTree" 96 (TX5 8).1 (TX5 8).2.1 (TX5 8).2.2.1 "OrphanTree" ∈ lw_tbl := pt_w1_10.2.1
theorem pw_f_q0_99 : Cond.fieldLinkNest "OrphanTree" 99 (TX5 9).1 (TX5 9).2.1 (TX5 9).2.2.1 "OrphanTree" ∈ lw_tbl := pt_w1_10.2.2
theorem pt_w6_0 : (Cond.methodLink "OrphanTree$Tree" 98 pr_i39.1) ∈ ev_UW ∧ (ev_cw pr_i39 2) ∈ ev_UW ∧ (Cond.instanceMethod pr_i39.1) ∈ ev_UW ∧ (Cond.selects pr_i39.1.cls pr_i39.1 pr_i39.1) ∈ ev_UW ∧ (ev_cw pr_i90 11) ∈ ev_UW ∧ (Cond.instanceMethod pr_i90.1) ∈ ev_UW ∧ (Cond.methodLink "OrphanTree$Tree" 185 pr_i91.1) ∈ ev_UW ∧ (ev_cw pr_i91 8) ∈ ev_UW ∧ (Cond.instanceMethod pr_i91.1) ∈ ev_UW ∧ (Cond.methodLink "OrphanTree$Tree" 188 pr_i92.1) ∈ ev_UW ∧ (ev_cw pr_i92 7) ∈ ev_UW ∧ (Cond.instanceMethod pr_i92.1) ∈ ev_UW := by
  have e : (tables_1_6.drop 0).take 16 = [_, (Cond.instanceMethod pr_i90.1), (ev_cw pr_i90 11), (Cond.methodLink "OrphanTree$Tree" 185 pr_i91.1), _, (Cond.instanceMethod pr_i91.1), (ev_cw pr_i91 8), (Cond.methodLink "OrphanTree$Tree" 98 pr_i39.1), (Cond.instanceMethod pr_i39.1), (Cond.selects pr_i39.1.cls pr_i39.1 pr_i39.1), (ev_cw pr_i39 2), (Cond.methodLink "OrphanTree$Tree" 188 pr_i92.1), _, (Cond.instanceMethod pr_i92.1), (ev_cw pr_i92 7), _] := rfl
  exact ⟨uw_s tk_6 0 e 7 rfl rfl, uw_s tk_6 0 e 10 rfl rfl, uw_s tk_6 0 e 8 rfl rfl, uw_s tk_6 0 e 9 rfl rfl, uw_s tk_6 0 e 2 rfl rfl, uw_s tk_6 0 e 1 rfl rfl, uw_s tk_6 0 e 3 rfl rfl, uw_s tk_6 0 e 6 rfl rfl, uw_s tk_6 0 e 5 rfl rfl, uw_s tk_6 0 e 11 rfl rfl, uw_s tk_6 0 e 14 rfl rfl, uw_s tk_6 0 e 13 rfl rfl⟩
theorem pw_m_q1_98 : Cond.methodLink "OrphanTree$Tree" 98 (pr_I 39).1 ∈ ev_UW := wk_m qI_39 pt_w6_0.1
theorem pw_c_39 : ev_cw (pr_I 39) (pr_P 39).1 ∈ ev_UW := wk_c qI_39 pp_39 pt_w6_0.2.1
theorem pw_v_39 : Cond.instanceMethod (pr_I 39).1 ∈ ev_UW := wk_v qI_39 pt_w6_0.2.2.1
theorem pw_s_39 : Cond.selects (pr_I 39).1.cls (pr_I 39).1 (pr_I 39).1 ∈ ev_UW := wk_s qI_39 pt_w6_0.2.2.2.1
theorem pw_c_90 : ev_cw (pr_I 90) (pr_P 90).1 ∈ ev_UW := wk_c qI_90 pp_90 pt_w6_0.2.2.2.2.1
theorem pw_v_90 : Cond.instanceMethod (pr_I 90).1 ∈ ev_UW := wk_v qI_90 pt_w6_0.2.2.2.2.2.1
theorem pw_m_q1_185 : Cond.methodLink "OrphanTree$Tree" 185 (pr_I 91).1 ∈ ev_UW := wk_m qI_91 pt_w6_0.2.2.2.2.2.2.1
theorem pw_c_91 : ev_cw (pr_I 91) (pr_P 91).1 ∈ ev_UW := wk_c qI_91 pp_91 pt_w6_0.2.2.2.2.2.2.2.1
theorem pw_v_91 : Cond.instanceMethod (pr_I 91).1 ∈ ev_UW := wk_v qI_91 pt_w6_0.2.2.2.2.2.2.2.2.1
theorem pw_m_q1_188 : Cond.methodLink "OrphanTree$Tree" 188 (pr_I 92).1 ∈ ev_UW := wk_m qI_92 pt_w6_0.2.2.2.2.2.2.2.2.2.1
theorem pw_c_92 : ev_cw (pr_I 92) (pr_P 92).1 ∈ ev_UW := wk_c qI_92 pp_92 pt_w6_0.2.2.2.2.2.2.2.2.2.2.1
theorem pw_v_92 : Cond.instanceMethod (pr_I 92).1 ∈ ev_UW := wk_v qI_92 pt_w6_0.2.2.2.2.2.2.2.2.2.2.2
theorem js_all : ∀ x ∈ js_ws, x ∈ ev_UW := xs_u (xs_in pt_PP [(2, 101), (2, 97), (2, 111), (2, 107), (2, 117), (2, 114), (2, 122), (2, 98), (2, 108), (2, 112), (2, 115), (2, 120), (2, 99), (2, 109), (2, 95), (2, 105), (2, 100), (2, 110), (2, 96), (2, 106), (2, 113), (2, 116), (2, 121), (1, 21), (1, 23), (1, 10), (2, 102), (5, 52), (5, 51), (2, 118)] (by decide +kernel)) (by decide +kernel)
theorem nh_q1 : "OrphanTree$Tree" ≠ "java/lang/invoke/MethodHandle" ∧ "OrphanTree$Tree" ≠ "java/lang/invoke/VarHandle" := by decide
theorem nh_q2 : "OrphanTree$History" ≠ "java/lang/invoke/MethodHandle" ∧ "OrphanTree$History" ≠ "java/lang/invoke/VarHandle" := by decide
theorem nh_q3 : "OrphanTree$SetupReader" ≠ "java/lang/invoke/MethodHandle" ∧ "OrphanTree$SetupReader" ≠ "java/lang/invoke/VarHandle" := by decide
theorem nh_q4 : "OrphanTree$Output" ≠ "java/lang/invoke/MethodHandle" ∧ "OrphanTree$Output" ≠ "java/lang/invoke/VarHandle" := by decide
theorem nh_q5 : "OrphanTree$Input" ≠ "java/lang/invoke/MethodHandle" ∧ "OrphanTree$Input" ≠ "java/lang/invoke/VarHandle" := by decide
theorem nh_q6 : "java/lang/Integer" ≠ "java/lang/invoke/MethodHandle" ∧ "java/lang/Integer" ≠ "java/lang/invoke/VarHandle" := by decide
theorem nh_q0 : "OrphanTree" ≠ "java/lang/invoke/MethodHandle" ∧ "OrphanTree" ≠ "java/lang/invoke/VarHandle" := by decide
theorem nh_q8 : "OrphanTree$Proc" ≠ "java/lang/invoke/MethodHandle" ∧ "OrphanTree$Proc" ≠ "java/lang/invoke/VarHandle" := by decide
