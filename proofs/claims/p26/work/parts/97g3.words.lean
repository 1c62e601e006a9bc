/-! ===== the words of the tables that the program takes (own work, by program: wip/p2/gen3.py) ===== -/
theorem tk_0 : ∀ x ∈ k2_sels lw_privs, x ∈ lw_tbl := fun _ h => List.mem_append_left _ h
theorem tk_1 : ∀ x ∈ tables_1_1, x ∈ lw_tbl := fun _ h => List.mem_append_right _ (List.mem_append_left _ h)
theorem tk_2 : ∀ x ∈ tables_1_2, x ∈ lw_tbl := fun _ h => List.mem_append_right _ (List.mem_append_right _ (List.mem_append_left _ h))
theorem tk_3 : ∀ x ∈ tables_1_3, x ∈ lw_tbl := fun _ h => List.mem_append_right _ (List.mem_append_right _ (List.mem_append_right _ (List.mem_append_left _ h)))
theorem tk_4 : ∀ x ∈ tables_1_4, x ∈ lw_tbl := fun _ h => List.mem_append_right _ (List.mem_append_right _ (List.mem_append_right _ (List.mem_append_right _ (List.mem_append_left _ h))))
theorem tk_5 : ∀ x ∈ tables_1_5, x ∈ lw_tbl := fun _ h => List.mem_append_right _ (List.mem_append_right _ (List.mem_append_right _ (List.mem_append_right _ (List.mem_append_right _ (List.mem_append_left _ h)))))
theorem tk_6 : ∀ x ∈ tables_1_6, x ∈ lw_tbl := fun _ h => List.mem_append_right _ (List.mem_append_right _ (List.mem_append_right _ (List.mem_append_right _ (List.mem_append_right _ (List.mem_append_right _ (List.mem_append_left _ h))))))
theorem tk_7 : ∀ x ∈ tables_1_7, x ∈ lw_tbl := fun _ h => List.mem_append_right _ (List.mem_append_right _ (List.mem_append_right _ (List.mem_append_right _ (List.mem_append_right _ (List.mem_append_right _ (List.mem_append_right _ (List.mem_append_left _ h)))))))
theorem tk_8 : ∀ x ∈ tables_1_8, x ∈ lw_tbl := fun _ h => List.mem_append_right _ (List.mem_append_right _ (List.mem_append_right _ (List.mem_append_right _ (List.mem_append_right _ (List.mem_append_right _ (List.mem_append_right _ (List.mem_append_right _ (List.mem_append_left _ h))))))))
theorem tk_9 : ∀ x ∈ tables_1_9, x ∈ lw_tbl := fun _ h => List.mem_append_right _ (List.mem_append_right _ (List.mem_append_right _ (List.mem_append_right _ (List.mem_append_right _ (List.mem_append_right _ (List.mem_append_right _ (List.mem_append_right _ (List.mem_append_right _ h))))))))
theorem xs_in {P : List (List Cond)} (hP : ∀ T ∈ P, ∀ x ∈ T, x ∈ lw_tbl) {L : List Cond} (ix : List (Nat × Nat)) (h : ix.map (fun q => (P.getD q.1 [])[q.2]?) = L.map some) : ∀ x ∈ L, x ∈ lw_tbl := by
  intro x hx
  have h1 : some x ∈ L.map some := List.mem_map.mpr ⟨x, hx, rfl⟩
  rw [← h] at h1
  obtain ⟨q, -, e⟩ := List.mem_map.mp h1
  have h2 := List.mem_of_getElem? e
  rw [List.getD_eq_getElem?_getD] at h2
  cases hT : P[q.1]? with
  | none => rw [hT] at h2; exact absurd h2 (by simp)
  | some T => rw [hT] at h2; exact hP T (List.mem_of_getElem? hT) x h2
theorem xs_g {L : List Cond} (h : ∀ x ∈ L, x ∈ lw_tbl) : ∀ x ∈ L.filter goodWord, x ∈ ev_UW := fun x hx => List.mem_filter.mpr ⟨h x (List.mem_filter.mp hx).1, (List.mem_filter.mp hx).2⟩
theorem xs_b {L : List Cond} (h : ∀ x ∈ L, x ∈ lw_tbl) (hb : ∀ x ∈ L.filter (fun w => !goodWord w), ev_bw x = true ∧ x.onTables = true) : ∀ x ∈ L.filter (fun w => !goodWord w), x ∈ lw_tbl ∧ ev_bw x = true ∧ x.onTables = true := fun x hx => ⟨h x (List.mem_filter.mp hx).1, hb x hx⟩
def pt_P : List (List Cond) := [k2_sels lw_privs, tables_1_1, tables_1_2, tables_1_3, tables_1_4, tables_1_5, tables_1_6, tables_1_7, tables_1_8, tables_1_9]
theorem pt_PP : ∀ T ∈ pt_P, ∀ x ∈ T, x ∈ lw_tbl := by
  intro T hT
  unfold pt_P at hT
  simp only [List.mem_cons, List.not_mem_nil, or_false] at hT
  rcases hT with rfl | rfl | rfl | rfl | rfl | rfl | rfl | rfl | rfl | rfl
  · exact tk_0
  · exact tk_1
  · exact tk_2
  · exact tk_3
  · exact tk_4
  · exact tk_5
  · exact tk_6
  · exact tk_7
  · exact tk_8
  · exact tk_9
theorem xs_u {L : List Cond} (h : ∀ x ∈ L, x ∈ lw_tbl) (hg : L.all goodWord = true) : ∀ x ∈ L, x ∈ ev_UW := fun x hx => List.mem_filter.mpr ⟨h x hx, List.all_eq_true.mp hg x hx⟩
theorem vw_c0 : vwCl[0]? = some (RX0, TX0, 3) := (rfl)
theorem pt_0 : et_Tm RX0 TX0 3 tyX0 := ⟨xs_u (xs_in pt_PP [(1, 196), (1, 198), (1, 200)] (by decide +kernel)) (by decide +kernel), tyX0_ok, nmX0⟩
theorem vw_c1 : vwCl[1]? = some (RX1, TX1, 2) := (rfl)
theorem pt_1 : et_Tm RX1 TX1 2 tyX1 := ⟨xs_u (xs_in pt_PP [(1, 219), (1, 221)] (by decide +kernel)) (by decide +kernel), tyX1_ok, nmX1⟩
theorem vw_c2 : vwCl[2]? = some (RX2, TX2, 2) := (rfl)
theorem pt_2 : et_Tm RX2 TX2 2 tyX2 := ⟨xs_u (xs_in pt_PP [(2, 35), (2, 37)] (by decide +kernel)) (by decide +kernel), tyX2_ok, nmX2⟩
theorem vw_c3 : vwCl[3]? = some (RX3, TX3, 15) := (rfl)
theorem pt_3 : et_Tm RX3 TX3 15 tyX3 := ⟨xs_u (xs_in pt_PP [(1, 93), (1, 95), (1, 97), (1, 99), (1, 101), (1, 103), (1, 105), (1, 107), (1, 109), (1, 111), (1, 113), (1, 115), (1, 117), (1, 119), (1, 121)] (by decide +kernel)) (by decide +kernel), tyX3_ok, nmX3⟩
theorem vw_c4 : vwCl[4]? = some (RX4, TX4, 11) := (rfl)
theorem pt_4 : et_Tm RX4 TX4 11 tyX4 := ⟨xs_u (xs_in pt_PP [(2, 2), (2, 4), (2, 6), (2, 8), (2, 10), (2, 12), (2, 14), (2, 16), (2, 18), (2, 20), (2, 22)] (by decide +kernel)) (by decide +kernel), tyX4_ok, nmX4⟩
theorem vw_c5 : vwCl[5]? = some (RX5, TX5, 10) := (rfl)
theorem pt_5 : et_Tm RX5 TX5 10 tyX5 := ⟨xs_u (xs_in pt_PP [(1, 161), (1, 163), (1, 165), (1, 167), (1, 169), (1, 171), (1, 173), (1, 175), (1, 177), (1, 179)] (by decide +kernel)) (by decide +kernel), tyX5_ok, nmX5⟩
theorem vw_c6 : vwCl[6]? = some (RX6, TX6, 7) := (rfl)
theorem pt_6 : et_Tm RX6 TX6 7 tyX6 := ⟨xs_u (xs_in pt_PP [(2, 47), (2, 49), (2, 51), (2, 53), (2, 55), (2, 57), (2, 59)] (by decide +kernel)) (by decide +kernel), tyX6_ok, nmX6⟩
theorem vw_c7 : vwCl[7]? = some (RX7, TX7, 24) := (rfl)
theorem pt_7 : et_Tm RX7 TX7 24 tyX7 := ⟨xs_u (xs_in pt_PP [(6, 101), (6, 103), (6, 105), (6, 107), (6, 109), (6, 111), (6, 113), (6, 115), (6, 117), (6, 119), (6, 121), (6, 123), (6, 125), (6, 127), (6, 129), (6, 131), (6, 133), (6, 135), (6, 137), (6, 139), (6, 141), (6, 143), (6, 145), (6, 147)] (by decide +kernel)) (by decide +kernel), tyX7_ok, nmX7⟩
theorem uw_m {T : List Cond} {x : Cond} (hT : ∀ x ∈ T, x ∈ lw_tbl) (j : Nat) (h : T[j]? = some x) (hg : goodWord x = true) : x ∈ ev_UW := List.mem_filter.mpr ⟨hT x (List.mem_of_getElem? h), hg⟩
theorem tw_m {T : List Cond} {x : Cond} (hT : ∀ x ∈ T, x ∈ lw_tbl) (j : Nat) (h : T[j]? = some x) : x ∈ lw_tbl := hT x (List.mem_of_getElem? h)
theorem uw_s {T : List Cond} {W : List Cond} {x : Cond} (hT : ∀ x ∈ T, x ∈ lw_tbl) (n : Nat) (e : (T.drop n).take 16 = W) (j : Nat) (h : W[j]? = some x) (hg : goodWord x = true) : x ∈ ev_UW := List.mem_filter.mpr ⟨hT x (List.mem_of_mem_drop (List.mem_of_mem_take (by rw [e]; exact List.mem_of_getElem? h))), hg⟩
theorem tw_s {T : List Cond} {W : List Cond} {x : Cond} (hT : ∀ x ∈ T, x ∈ lw_tbl) (n : Nat) (e : (T.drop n).take 16 = W) (j : Nat) (h : W[j]? = some x) : x ∈ lw_tbl := hT x (List.mem_of_mem_drop (List.mem_of_mem_take (by rw [e]; exact List.mem_of_getElem? h)))
theorem pp_0 : (pr_P 0).1 = 1 := (rfl)
theorem pp_1 : (pr_P 1).1 = 7 := (rfl)
theorem pp_2 : (pr_P 2).1 = 2 := (rfl)
theorem pp_3 : (pr_P 3).1 = 3 := (rfl)
theorem pp_4 : (pr_P 4).1 = 1 := (rfl)
theorem pp_5 : (pr_P 5).1 = 1 := (rfl)
theorem pp_6 : (pr_P 6).1 = 2 := (rfl)
theorem pp_7 : (pr_P 7).1 = 4 := (rfl)
theorem pp_8 : (pr_P 8).1 = 2 := (rfl)
theorem pp_9 : (pr_P 9).1 = 2 := (rfl)
theorem pp_10 : (pr_P 10).1 = 3 := (rfl)
theorem pp_11 : (pr_P 11).1 = 5 := (rfl)
theorem pp_12 : (pr_P 12).1 = 5 := (rfl)
theorem pp_13 : (pr_P 13).1 = 2 := (rfl)
theorem pp_14 : (pr_P 14).1 = 4 := (rfl)
theorem pp_15 : (pr_P 15).1 = 7 := (rfl)
theorem pp_16 : (pr_P 16).1 = 1 := (rfl)
theorem pp_17 : (pr_P 17).1 = 6 := (rfl)
theorem pp_18 : (pr_P 18).1 = 4 := (rfl)
theorem pp_19 : (pr_P 19).1 = 3 := (rfl)
theorem pp_20 : (pr_P 20).1 = 4 := (rfl)
theorem pp_21 : (pr_P 21).1 = 4 := (rfl)
theorem pp_22 : (pr_P 22).1 = 5 := (rfl)
theorem pp_23 : (pr_P 23).1 = 6 := (rfl)
theorem pp_24 : (pr_P 24).1 = 5 := (rfl)
theorem pp_25 : (pr_P 25).1 = 5 := (rfl)
theorem pp_26 : (pr_P 26).1 = 5 := (rfl)
theorem pp_27 : (pr_P 27).1 = 5 := (rfl)
theorem pp_28 : (pr_P 28).1 = 3 := (rfl)
theorem pp_29 : (pr_P 29).1 = 3 := (rfl)
theorem pp_30 : (pr_P 30).1 = 3 := (rfl)
theorem pp_31 : (pr_P 31).1 = 3 := (rfl)
theorem pp_32 : (pr_P 32).1 = 5 := (rfl)
theorem pp_33 : (pr_P 33).1 = 3 := (rfl)
theorem pp_34 : (pr_P 34).1 = 9 := (rfl)
theorem pp_35 : (pr_P 35).1 = 8 := (rfl)
theorem pp_36 : (pr_P 36).1 = 6 := (rfl)
theorem pp_37 : (pr_P 37).1 = 6 := (rfl)
theorem pp_38 : (pr_P 38).1 = 7 := (rfl)
theorem pp_39 : (pr_P 39).1 = 2 := (rfl)
theorem pp_40 : (pr_P 40).1 = 7 := (rfl)
theorem pp_41 : (pr_P 41).1 = 7 := (rfl)
theorem pp_42 : (pr_P 42).1 = 1 := (rfl)
theorem pp_43 : (pr_P 43).1 = 4 := (rfl)
theorem pp_44 : (pr_P 44).1 = 8 := (rfl)
theorem pp_45 : (pr_P 45).1 = 3 := (rfl)
theorem pp_46 : (pr_P 46).1 = 2 := (rfl)
theorem pp_47 : (pr_P 47).1 = 8 := (rfl)
theorem pp_48 : (pr_P 48).1 = 7 := (rfl)
theorem pp_49 : (pr_P 49).1 = 8 := (rfl)
theorem pp_50 : (pr_P 50).1 = 2 := (rfl)
theorem pp_51 : (pr_P 51).1 = 3 := (rfl)
theorem pp_52 : (pr_P 52).1 = 1 := (rfl)
theorem pp_53 : (pr_P 53).1 = 5 := (rfl)
theorem pp_54 : (pr_P 54).1 = 3 := (rfl)
theorem pp_55 : (pr_P 55).1 = 4 := (rfl)
theorem pp_56 : (pr_P 56).1 = 3 := (rfl)
theorem pp_57 : (pr_P 57).1 = 10 := (rfl)
theorem pp_58 : (pr_P 58).1 = 8 := (rfl)
theorem pp_59 : (pr_P 59).1 = 8 := (rfl)
theorem pp_60 : (pr_P 60).1 = 4 := (rfl)
theorem pp_61 : (pr_P 61).1 = 2 := (rfl)
theorem pp_62 : (pr_P 62).1 = 1 := (rfl)
theorem pp_63 : (pr_P 63).1 = 1 := (rfl)
theorem pp_64 : (pr_P 64).1 = 1 := (rfl)
theorem pp_65 : (pr_P 65).1 = 3 := (rfl)
theorem pp_66 : (pr_P 66).1 = 2 := (rfl)
theorem pp_67 : (pr_P 67).1 = 1 := (rfl)
theorem pp_68 : (pr_P 68).1 = 1 := (rfl)
theorem pp_69 : (pr_P 69).1 = 4 := (rfl)
theorem pp_70 : (pr_P 70).1 = 2 := (rfl)
theorem pp_71 : (pr_P 71).1 = 4 := (rfl)
theorem pp_72 : (pr_P 72).1 = 9 := (rfl)
theorem pp_73 : (pr_P 73).1 = 1 := (rfl)
theorem pp_74 : (pr_P 74).1 = 1 := (rfl)
theorem pp_75 : (pr_P 75).1 = 3 := (rfl)
theorem pp_76 : (pr_P 76).1 = 3 := (rfl)
theorem pp_77 : (pr_P 77).1 = 6 := (rfl)
theorem pp_78 : (pr_P 78).1 = 2 := (rfl)
theorem pp_79 : (pr_P 79).1 = 7 := (rfl)
theorem pp_80 : (pr_P 80).1 = 1 := (rfl)
theorem pp_81 : (pr_P 81).1 = 1 := (rfl)
theorem pp_82 : (pr_P 82).1 = 1 := (rfl)
theorem pp_83 : (pr_P 83).1 = 2 := (rfl)
theorem pp_84 : (pr_P 84).1 = 4 := (rfl)
theorem pp_85 : (pr_P 85).1 = 5 := (rfl)
theorem pp_86 : (pr_P 86).1 = 2 := (rfl)
theorem pp_87 : (pr_P 87).1 = 3 := (rfl)
theorem pp_88 : (pr_P 88).1 = 4 := (rfl)
theorem pp_89 : (pr_P 89).1 = 4 := (rfl)
theorem pp_90 : (pr_P 90).1 = 3 := (rfl)
theorem pp_91 : (pr_P 91).1 = 3 := (rfl)
theorem pp_92 : (pr_P 92).1 = 4 := (rfl)
theorem pp_93 : (pr_P 93).1 = 6 := (rfl)
theorem pp_94 : (pr_P 94).1 = 4 := (rfl)
theorem pp_95 : (pr_P 95).1 = 4 := (rfl)
theorem pp_96 : (pr_P 96).1 = 4 := (rfl)
theorem pp_97 : (pr_P 97).1 = 5 := (rfl)
theorem pp_98 : (pr_P 98).1 = 3 := (rfl)
theorem pp_99 : (pr_P 99).1 = 5 := (rfl)
theorem pp_100 : (pr_P 100).1 = 4 := (rfl)
theorem pp_101 : (pr_P 101).1 = 4 := (rfl)
theorem pp_102 : (pr_P 102).1 = 3 := (rfl)
theorem pp_103 : (pr_P 103).1 = 4 := (rfl)
theorem pp_104 : (pr_P 104).1 = 7 := (rfl)
theorem pp_105 : (pr_P 105).1 = 7 := (rfl)
theorem pp_106 : (pr_P 106).1 = 3 := (rfl)
theorem pp_107 : (pr_P 107).1 = 6 := (rfl)
theorem pp_108 : (pr_P 108).1 = 2 := (rfl)
theorem pp_109 : (pr_P 109).1 = 2 := (rfl)
theorem pp_110 : (pr_P 110).1 = 2 := (rfl)
theorem pp_111 : (pr_P 111).1 = 1 := (rfl)
theorem pp_112 : (pr_P 112).1 = 2 := (rfl)
theorem pp_113 : (pr_P 113).1 = 3 := (rfl)
theorem pp_114 : (pr_P 114).1 = 3 := (rfl)
theorem pp_115 : (pr_P 115).1 = 4 := (rfl)
theorem pp_116 : (pr_P 116).1 = 2 := (rfl)
theorem pp_117 : (pr_P 117).1 = 1 := (rfl)
theorem pp_118 : (pr_P 118).1 = 1 := (rfl)
theorem pp_119 : (pr_P 119).1 = 1 := (rfl)
theorem pp_120 : (pr_P 120).1 = 1 := (rfl)
theorem pp_121 : (pr_P 121).1 = 3 := (rfl)
theorem pp_122 : (pr_P 122).1 = 1 := (rfl)
theorem pp_123 : (pr_P 123).1 = 1 := (rfl)
theorem pp_124 : (pr_P 124).1 = 1 := (rfl)
theorem pp_125 : (pr_P 125).1 = 1 := (rfl)
theorem pp_126 : (pr_P 126).1 = 1 := (rfl)
theorem pp_127 : (pr_P 127).1 = 1 := (rfl)
theorem pp_128 : (pr_P 128).1 = 2 := (rfl)
theorem pp_129 : (pr_P 129).1 = 1 := (rfl)
theorem pp_130 : (pr_P 130).1 = 1 := (rfl)
theorem pp_131 : (pr_P 131).1 = 4 := (rfl)
theorem pp_132 : (pr_P 132).1 = 4 := (rfl)
theorem pp_133 : (pr_P 133).1 = 4 := (rfl)
theorem pp_134 : (pr_P 134).1 = 2 := (rfl)
theorem pp_135 : (pr_P 135).1 = 2 := (rfl)
theorem pp_136 : (pr_P 136).1 = 3 := (rfl)
theorem pp_137 : (pr_P 137).1 = 3 := (rfl)
theorem pp_138 : (pr_P 138).1 = 3 := (rfl)
theorem pp_139 : (pr_P 139).1 = 3 := (rfl)
theorem pp_140 : (pr_P 140).1 = 2 := (rfl)
theorem pp_141 : (pr_P 141).1 = 2 := (rfl)
theorem pp_142 : (pr_P 142).1 = 2 := (rfl)
theorem pp_143 : (pr_P 143).1 = 2 := (rfl)
theorem pp_144 : (pr_P 144).1 = 3 := (rfl)
theorem pp_145 : (pr_P 145).1 = 4 := (rfl)
theorem pp_146 : (pr_P 146).1 = 3 := (rfl)
theorem pp_147 : (pr_P 147).1 = 3 := (rfl)
theorem pp_148 : (pr_P 148).1 = 3 := (rfl)
theorem pp_149 : (pr_P 149).1 = 4 := (rfl)
theorem pp_150 : (pr_P 150).1 = 2 := (rfl)
theorem pp_151 : (pr_P 151).1 = 4 := (rfl)
theorem pp_152 : (pr_P 152).1 = 4 := (rfl)
theorem pp_153 : (pr_P 153).1 = 4 := (rfl)
theorem pp_154 : (pr_P 154).1 = 4 := (rfl)
theorem pp_155 : (pr_P 155).1 = 3 := (rfl)
theorem pp_156 : (pr_P 156).1 = 1 := (rfl)
theorem pp_157 : (pr_P 157).1 = 1 := (rfl)
theorem pp_158 : (pr_P 158).1 = 5 := (rfl)
theorem pp_159 : (pr_P 159).1 = 3 := (rfl)
theorem pp_160 : (pr_P 160).1 = 3 := (rfl)
theorem pp_161 : (pr_P 161).1 = 3 := (rfl)
theorem pp_162 : (pr_P 162).1 = 3 := (rfl)
theorem pp_163 : (pr_P 163).1 = 3 := (rfl)
theorem pp_164 : (pr_P 164).1 = 2 := (rfl)
theorem pp_165 : (pr_P 165).1 = 5 := (rfl)
theorem pp_166 : (pr_P 166).1 = 4 := (rfl)
theorem pp_167 : (pr_P 167).1 = 4 := (rfl)
theorem pp_168 : (pr_P 168).1 = 5 := (rfl)
theorem pp_169 : (pr_P 169).1 = 3 := (rfl)
theorem pp_170 : (pr_P 170).1 = 3 := (rfl)
theorem pp_171 : (pr_P 171).1 = 4 := (rfl)
theorem pp_172 : (pr_P 172).1 = 4 := (rfl)
theorem pp_173 : (pr_P 173).1 = 4 := (rfl)
theorem pp_174 : (pr_P 174).1 = 6 := (rfl)
theorem pp_175 : (pr_P 175).1 = 6 := (rfl)
theorem pp_176 : (pr_P 176).1 = 4 := (rfl)
theorem pp_177 : (pr_P 177).1 = 2 := (rfl)
theorem pp_178 : (pr_P 178).1 = 4 := (rfl)
theorem pp_179 : (pr_P 179).1 = 2 := (rfl)
theorem pp_180 : (pr_P 180).1 = 4 := (rfl)
theorem pp_181 : (pr_P 181).1 = 3 := (rfl)
theorem pp_182 : (pr_P 182).1 = 5 := (rfl)
theorem pp_183 : (pr_P 183).1 = 6 := (rfl)
theorem pp_184 : (pr_P 184).1 = 6 := (rfl)
theorem pp_185 : (pr_P 185).1 = 6 := (rfl)
theorem pp_186 : (pr_P 186).1 = 5 := (rfl)
theorem pp_187 : (pr_P 187).1 = 6 := (rfl)
theorem pp_188 : (pr_P 188).1 = 2 := (rfl)
theorem pp_189 : (pr_P 189).1 = 4 := (rfl)
theorem pp_190 : (pr_P 190).1 = 4 := (rfl)
theorem pp_191 : (pr_P 191).1 = 3 := (rfl)
theorem pp_192 : (pr_P 192).1 = 3 := (rfl)
theorem pp_193 : (pr_P 193).1 = 4 := (rfl)
theorem pp_194 : (pr_P 194).1 = 2 := (rfl)
theorem pp_195 : (pr_P 195).1 = 2 := (rfl)
theorem pp_196 : (pr_P 196).1 = 3 := (rfl)
theorem pp_197 : (pr_P 197).1 = 1 := (rfl)
theorem pp_198 : (pr_P 198).1 = 1 := (rfl)
theorem pp_199 : (pr_P 199).1 = 4 := (rfl)
theorem pp_200 : (pr_P 200).1 = 4 := (rfl)
theorem pp_201 : (pr_P 201).1 = 3 := (rfl)
theorem pp_202 : (pr_P 202).1 = 4 := (rfl)
theorem pp_203 : (pr_P 203).1 = 4 := (rfl)
theorem pp_204 : (pr_P 204).1 = 4 := (rfl)
theorem pp_205 : (pr_P 205).1 = 2 := (rfl)
theorem pp_206 : (pr_P 206).1 = 4 := (rfl)
theorem pp_207 : (pr_P 207).1 = 3 := (rfl)
theorem pp_208 : (pr_P 208).1 = 2 := (rfl)
theorem pp_209 : (pr_P 209).1 = 3 := (rfl)
theorem pp_210 : (pr_P 210).1 = 3 := (rfl)
theorem pp_211 : (pr_P 211).1 = 4 := (rfl)
theorem pp_212 : (pr_P 212).1 = 4 := (rfl)
theorem pp_213 : (pr_P 213).1 = 4 := (rfl)
theorem pp_214 : (pr_P 214).1 = 2 := (rfl)
theorem pp_215 : (pr_P 215).1 = 1 := (rfl)
theorem pp_216 : (pr_P 216).1 = 1 := (rfl)
theorem pp_217 : (pr_P 217).1 = 1 := (rfl)
theorem pp_218 : (pr_P 218).1 = 2 := (rfl)
theorem pp_219 : (pr_P 219).1 = 2 := (rfl)
theorem pp_220 : (pr_P 220).1 = 2 := (rfl)
theorem pp_221 : (pr_P 221).1 = 1 := (rfl)
theorem pp_222 : (pr_P 222).1 = 3 := (rfl)
theorem pp_223 : (pr_P 223).1 = 2 := (rfl)
theorem pp_224 : (pr_P 224).1 = 1 := (rfl)
theorem pp_225 : (pr_P 225).1 = 2 := (rfl)
theorem pp_226 : (pr_P 226).1 = 2 := (rfl)
theorem pp_227 : (pr_P 227).1 = 5 := (rfl)
theorem pp_228 : (pr_P 228).1 = 7 := (rfl)
theorem pp_229 : (pr_P 229).1 = 5 := (rfl)
theorem pp_230 : (pr_P 230).1 = 5 := (rfl)
theorem pp_231 : (pr_P 231).1 = 1 := (rfl)
theorem pp_232 : (pr_P 232).1 = 2 := (rfl)
theorem pp_233 : (pr_P 233).1 = 5 := (rfl)
theorem pp_234 : (pr_P 234).1 = 2 := (rfl)
theorem pp_235 : (pr_P 235).1 = 1 := (rfl)
theorem pp_236 : (pr_P 236).1 = 1 := (rfl)
theorem pp_237 : (pr_P 237).1 = 1 := (rfl)
theorem pp_238 : (pr_P 238).1 = 2 := (rfl)
theorem pp_239 : (pr_P 239).1 = 2 := (rfl)
theorem pp_240 : (pr_P 240).1 = 1 := (rfl)
theorem pp_241 : (pr_P 241).1 = 2 := (rfl)
theorem pp_242 : (pr_P 242).1 = 1 := (rfl)
theorem pp_243 : (pr_P 243).1 = 3 := (rfl)
theorem pp_244 : (pr_P 244).1 = 3 := (rfl)
theorem pp_245 : (pr_P 245).1 = 2 := (rfl)
theorem pp_246 : (pr_P 246).1 = 2 := (rfl)
theorem pp_247 : (pr_P 247).1 = 3 := (rfl)
theorem pp_248 : (pr_P 248).1 = 3 := (rfl)
theorem pp_249 : (pr_P 249).1 = 1 := (rfl)
theorem pp_250 : (pr_P 250).1 = 1 := (rfl)
theorem pp_251 : (pr_P 251).1 = 1 := (rfl)
theorem pp_252 : (pr_P 252).1 = 3 := (rfl)
theorem pp_253 : (pr_P 253).1 = 1 := (rfl)
theorem pp_254 : (pr_P 254).1 = 1 := (rfl)
theorem pp_255 : (pr_P 255).1 = 1 := (rfl)
theorem pp_256 : (pr_P 256).1 = 4 := (rfl)
theorem pp_257 : (pr_P 257).1 = 3 := (rfl)
theorem pp_258 : (pr_P 258).1 = 3 := (rfl)
theorem pp_259 : (pr_P 259).1 = 2 := (rfl)
theorem pp_260 : (pr_P 260).1 = 4 := (rfl)
theorem pp_261 : (pr_P 261).1 = 2 := (rfl)
theorem pp_262 : (pr_P 262).1 = 3 := (rfl)
theorem pp_263 : (pr_P 263).1 = 1 := (rfl)
theorem pp_264 : (pr_P 264).1 = 2 := (rfl)
theorem pp_265 : (pr_P 265).1 = 1 := (rfl)
theorem pp_266 : (pr_P 266).1 = 1 := (rfl)
theorem pp_267 : (pr_P 267).1 = 1 := (rfl)
theorem pp_268 : (pr_P 268).1 = 4 := (rfl)
theorem pp_269 : (pr_P 269).1 = 2 := (rfl)
theorem pp_270 : (pr_P 270).1 = 5 := (rfl)
theorem pp_271 : (pr_P 271).1 = 6 := (rfl)
theorem pp_272 : (pr_P 272).1 = 2 := (rfl)
theorem pp_273 : (pr_P 273).1 = 4 := (rfl)
theorem pp_274 : (pr_P 274).1 = 2 := (rfl)
theorem pp_275 : (pr_P 275).1 = 7 := (rfl)
theorem pp_276 : (pr_P 276).1 = 8 := (rfl)
theorem pp_277 : (pr_P 277).1 = 7 := (rfl)
theorem pp_278 : (pr_P 278).1 = 6 := (rfl)
theorem pp_279 : (pr_P 279).1 = 4 := (rfl)
theorem pp_280 : (pr_P 280).1 = 7 := (rfl)
theorem pp_281 : (pr_P 281).1 = 8 := (rfl)
theorem pp_282 : (pr_P 282).1 = 4 := (rfl)
theorem pp_283 : (pr_P 283).1 = 3 := (rfl)
theorem pp_284 : (pr_P 284).1 = 3 := (rfl)
theorem pp_285 : (pr_P 285).1 = 4 := (rfl)
theorem pp_286 : (pr_P 286).1 = 6 := (rfl)
theorem pp_287 : (pr_P 287).1 = 11 := (rfl)
theorem pp_288 : (pr_P 288).1 = 4 := (rfl)
theorem pp_289 : (pr_P 289).1 = 5 := (rfl)
theorem pp_290 : (pr_P 290).1 = 4 := (rfl)
theorem pp_291 : (pr_P 291).1 = 7 := (rfl)
theorem pp_292 : (pr_P 292).1 = 3 := (rfl)
theorem pp_293 : (pr_P 293).1 = 5 := (rfl)
theorem pp_294 : (pr_P 294).1 = 4 := (rfl)
theorem pp_295 : (pr_P 295).1 = 11 := (rfl)
theorem pp_296 : (pr_P 296).1 = 8 := (rfl)
theorem pp_297 : (pr_P 297).1 = 7 := (rfl)
theorem pp_298 : (pr_P 298).1 = 3 := (rfl)
theorem pp_299 : (pr_P 299).1 = 8 := (rfl)
theorem pp_300 : (pr_P 300).1 = 8 := (rfl)
theorem pp_301 : (pr_P 301).1 = 4 := (rfl)
theorem pp_302 : (pr_P 302).1 = 7 := (rfl)
theorem pp_303 : (pr_P 303).1 = 5 := (rfl)
theorem pp_304 : (pr_P 304).1 = 7 := (rfl)
theorem pp_305 : (pr_P 305).1 = 4 := (rfl)
theorem pp_306 : (pr_P 306).1 = 5 := (rfl)
theorem pp_307 : (pr_P 307).1 = 4 := (rfl)
theorem pp_308 : (pr_P 308).1 = 4 := (rfl)
theorem pp_309 : (pr_P 309).1 = 5 := (rfl)
theorem pp_310 : (pr_P 310).1 = 5 := (rfl)
theorem pp_311 : (pr_P 311).1 = 4 := (rfl)
theorem pp_312 : (pr_P 312).1 = 4 := (rfl)
theorem pp_313 : (pr_P 313).1 = 7 := (rfl)
theorem pp_314 : (pr_P 314).1 = 5 := (rfl)
theorem pp_315 : (pr_P 315).1 = 5 := (rfl)
theorem pp_316 : (pr_P 316).1 = 4 := (rfl)
theorem pp_317 : (pr_P 317).1 = 5 := (rfl)
theorem pp_318 : (pr_P 318).1 = 5 := (rfl)
theorem pp_319 : (pr_P 319).1 = 5 := (rfl)
theorem pp_320 : (pr_P 320).1 = 5 := (rfl)
theorem pp_321 : (pr_P 321).1 = 5 := (rfl)
theorem pp_322 : (pr_P 322).1 = 5 := (rfl)
theorem pp_323 : (pr_P 323).1 = 5 := (rfl)
theorem pp_324 : (pr_P 324).1 = 4 := (rfl)
theorem pp_325 : (pr_P 325).1 = 4 := (rfl)
theorem pp_326 : (pr_P 326).1 = 5 := (rfl)
theorem pp_327 : (pr_P 327).1 = 5 := (rfl)
theorem pp_328 : (pr_P 328).1 = 6 := (rfl)
theorem pp_329 : (pr_P 329).1 = 5 := (rfl)
theorem pp_330 : (pr_P 330).1 = 4 := (rfl)
theorem pp_331 : (pr_P 331).1 = 4 := (rfl)
theorem pp_332 : (pr_P 332).1 = 4 := (rfl)
theorem pp_333 : (pr_P 333).1 = 4 := (rfl)
theorem pp_334 : (pr_P 334).1 = 4 := (rfl)
theorem pp_335 : (pr_P 335).1 = 5 := (rfl)
theorem pp_336 : (pr_P 336).1 = 5 := (rfl)
theorem pp_337 : (pr_P 337).1 = 4 := (rfl)
theorem pp_338 : (pr_P 338).1 = 4 := (rfl)
theorem pp_339 : (pr_P 339).1 = 4 := (rfl)
theorem pp_340 : (pr_P 340).1 = 4 := (rfl)
theorem pp_341 : (pr_P 341).1 = 4 := (rfl)
theorem pp_342 : (pr_P 342).1 = 5 := (rfl)
theorem pp_343 : (pr_P 343).1 = 5 := (rfl)
theorem pp_344 : (pr_P 344).1 = 4 := (rfl)
theorem pp_345 : (pr_P 345).1 = 6 := (rfl)
theorem pp_346 : (pr_P 346).1 = 4 := (rfl)
theorem pp_347 : (pr_P 347).1 = 4 := (rfl)
theorem pp_348 : (pr_P 348).1 = 4 := (rfl)
theorem pp_349 : (pr_P 349).1 = 4 := (rfl)
theorem pp_350 : (pr_P 350).1 = 5 := (rfl)
theorem pp_351 : (pr_P 351).1 = 3 := (rfl)
theorem pp_353 : (pr_P 353).1 = 1 := (rfl)
section WK
variable {i n k : Nat} {x : ev_Im} {C D : String} {S : List Cond}
theorem wk_m (e : pr_I i = x) (h : Cond.methodLink C n x.1 ∈ S) : Cond.methodLink C n (pr_I i).1 ∈ S := by rw [e]; exact h
theorem wk_n (e : pr_I i = x) (h : Cond.methodLinkNest C n x.1 D ∈ S) : Cond.methodLinkNest C n (pr_I i).1 D ∈ S := by rw [e]; exact h
theorem wk_v (e : pr_I i = x) (h : Cond.instanceMethod x.1 ∈ S) : Cond.instanceMethod (pr_I i).1 ∈ S := by rw [e]; exact h
theorem wk_t (e : pr_I i = x) (h : Cond.static x.1 ∈ S) : Cond.static (pr_I i).1 ∈ S := by rw [e]; exact h
theorem wk_s (e : pr_I i = x) (h : Cond.selects x.1.cls x.1 x.1 ∈ S) : Cond.selects (pr_I i).1.cls (pr_I i).1 (pr_I i).1 ∈ S := by rw [e]; exact h
theorem wk_c (e : pr_I i = x) (p : (pr_P i).1 = k) (h : ev_cw x k ∈ S) : ev_cw (pr_I i) (pr_P i).1 ∈ S := by rw [e, p]; exact h
end WK
theorem pt_w1_1 : (Cond.methodLink "OrphanTree" 1 Lib.objectInit) ∈ ev_UW ∧ (Cond.instanceMethod Lib.objectInit) ∈ ev_UW ∧ (Cond.code Lib.objectInit ⟨#[0xb1]⟩ 1 none) ∈ ev_UW ∧ (Cond.classLink "OrphanTree" 7 "OrphanTree$Tree") ∈ ev_UW ∧ (Cond.initialized "java/lang/IllegalArgumentException") ∈ ev_UW ∧ (Cond.initialized "java/util/NoSuchElementException") ∈ ev_UW ∧ (Cond.initialized "java/lang/IndexOutOfBoundsException") ∈ ev_UW ∧ (Cond.initialized "java/lang/IllegalStateException") ∈ ev_UW ∧ (Cond.classLink "OrphanTreeLaw" 8 "OrphanTree") ∈ ev_UW ∧ (Cond.instantiable "OrphanTree" 7) ∈ ev_UW ∧ (Cond.methodLink "OrphanTreeLaw" 164 pr_i0.1) ∈ ev_UW ∧ (ev_cw pr_i0 1) ∈ ev_UW ∧ (Cond.instanceMethod pr_i0.1) ∈ ev_UW := by
  have e : (tables_1_1.drop 16).take 16 = [_, _, _, (Cond.initialized "java/lang/IllegalArgumentException"), (Cond.initialized "java/lang/IndexOutOfBoundsException"), (Cond.initialized "java/lang/IllegalStateException"), (Cond.initialized "java/util/NoSuchElementException"), (Cond.classLink "OrphanTreeLaw" 8 "OrphanTree"), (Cond.instantiable "OrphanTree" 7), (Cond.methodLink "OrphanTreeLaw" 164 pr_i0.1), (Cond.instanceMethod pr_i0.1), (ev_cw pr_i0 1), (Cond.methodLink "OrphanTree" 1 Lib.objectInit), (Cond.instanceMethod Lib.objectInit), (Cond.code Lib.objectInit ⟨#[0xb1]⟩ 1 none), (Cond.classLink "OrphanTree" 7 "OrphanTree$Tree")] := rfl
  exact ⟨uw_s tk_1 16 e 12 rfl rfl, uw_s tk_1 16 e 13 rfl rfl, uw_s tk_1 16 e 14 rfl rfl, uw_s tk_1 16 e 15 rfl rfl, uw_s tk_1 16 e 3 rfl rfl, uw_s tk_1 16 e 6 rfl rfl, uw_s tk_1 16 e 4 rfl rfl, uw_s tk_1 16 e 5 rfl rfl, uw_s tk_1 16 e 7 rfl rfl, uw_s tk_1 16 e 8 rfl rfl, uw_s tk_1 16 e 9 rfl rfl, uw_s tk_1 16 e 11 rfl rfl, uw_s tk_1 16 e 10 rfl rfl⟩
theorem pw_m_q0_1 : Cond.methodLink "OrphanTree" 1 Lib.objectInit ∈ ev_UW := pt_w1_1.1
theorem pw_oi : Cond.instanceMethod Lib.objectInit ∈ ev_UW := pt_w1_1.2.1
theorem pw_oc : Cond.code Lib.objectInit ⟨#[0xb1]⟩ 1 none ∈ ev_UW := pt_w1_1.2.2.1
theorem pw_cl_q0_7 : Cond.classLink "OrphanTree" 7 "OrphanTree$Tree" ∈ ev_UW := pt_w1_1.2.2.2.1
theorem pw_i_q7 : Cond.initialized "java/lang/IllegalArgumentException" ∈ ev_UW := pt_w1_1.2.2.2.2.1
theorem pw_i_q9 : Cond.initialized "java/util/NoSuchElementException" ∈ ev_UW := pt_w1_1.2.2.2.2.2.1
theorem pw_i_q10 : Cond.initialized "java/lang/IndexOutOfBoundsException" ∈ ev_UW := pt_w1_1.2.2.2.2.2.2.1
theorem pw_i_q11 : Cond.initialized "java/lang/IllegalStateException" ∈ ev_UW := pt_w1_1.2.2.2.2.2.2.2.1
theorem pw_cl_q15_8 : Cond.classLink "OrphanTreeLaw" 8 "OrphanTree" ∈ ev_UW := pt_w1_1.2.2.2.2.2.2.2.2.1
theorem pw_in_q0 : Cond.instantiable "OrphanTree" 7 ∈ ev_UW := pt_w1_1.2.2.2.2.2.2.2.2.2.1
theorem pw_m_q15_164 : Cond.methodLink "OrphanTreeLaw" 164 (pr_I 0).1 ∈ ev_UW := wk_m qI_0 pt_w1_1.2.2.2.2.2.2.2.2.2.2.1
theorem pw_c_0 : ev_cw (pr_I 0) (pr_P 0).1 ∈ ev_UW := wk_c qI_0 pp_0 pt_w1_1.2.2.2.2.2.2.2.2.2.2.2.1
theorem pw_v_0 : Cond.instanceMethod (pr_I 0).1 ∈ ev_UW := wk_v qI_0 pt_w1_1.2.2.2.2.2.2.2.2.2.2.2.2
theorem pt_w1_2 : (Cond.instantiable "OrphanTree$Tree" 10) ∈ ev_UW ∧ (Cond.methodLink "OrphanTree" 9 pr_i269.1) ∈ ev_UW ∧ (ev_cw pr_i269 2) ∈ ev_UW ∧ (Cond.instanceMethod pr_i269.1) ∈ ev_UW ∧ (Cond.methodLink "OrphanTree$Proc" 3 Lib.objectInit) ∈ ev_UW ∧ (Cond.fieldLink "OrphanTree$Proc" 57 (TX3 0).1 (TX3 0).2.1 (TX3 0).2.2.1) ∈ ev_UW ∧ (Cond.methodLink "OrphanTree$Tree" 3 Lib.objectInit) ∈ ev_UW ∧ (Cond.classLink "OrphanTree$Tree" 9 "OrphanTree$Proc") ∈ ev_UW ∧ (Cond.instantiable "OrphanTree$Proc" 15) ∈ ev_UW ∧ (Cond.methodLink "OrphanTree$Tree" 11 pr_i232.1) ∈ ev_UW ∧ (ev_cw pr_i232 2) ∈ ev_UW ∧ (Cond.instanceMethod pr_i232.1) ∈ ev_UW ∧ (Cond.fieldLinkNest "OrphanTree" 186 (TX3 0).1 (TX3 0).2.1 (TX3 0).2.2.1 "OrphanTree") ∈ lw_tbl ∧ (Cond.fieldLinkNest "OrphanTree$Output" 33 (TX3 0).1 (TX3 0).2.1 (TX3 0).2.2.1 "OrphanTree") ∈ lw_tbl ∧ (Cond.fieldLinkNest "OrphanTree$SetupReader" 168 (TX3 0).1 (TX3 0).2.1 (TX3 0).2.2.1 "OrphanTree") ∈ lw_tbl ∧ (Cond.fieldLinkNest "OrphanTree$Tree" 67 (TX3 0).1 (TX3 0).2.1 (TX3 0).2.2.1 "OrphanTree") ∈ lw_tbl := by
  have e : (tables_1_1.drop 32).take 16 = [(Cond.instantiable "OrphanTree$Tree" 10), (Cond.methodLink "OrphanTree" 9 pr_i269.1), (Cond.instanceMethod pr_i269.1), (ev_cw pr_i269 2), (Cond.methodLink "OrphanTree$Tree" 3 Lib.objectInit), (Cond.classLink "OrphanTree$Tree" 9 "OrphanTree$Proc"), (Cond.instantiable "OrphanTree$Proc" 15), (Cond.methodLink "OrphanTree$Tree" 11 pr_i232.1), (Cond.instanceMethod pr_i232.1), (ev_cw pr_i232 2), (Cond.methodLink "OrphanTree$Proc" 3 Lib.objectInit), (Cond.fieldLink "OrphanTree$Proc" 57 (TX3 0).1 (TX3 0).2.1 (TX3 0).2.2.1), (Cond.fieldLinkNest "OrphanTree$Output" 33 (TX3 0).1 (TX3 0).2.1 (TX3 0).2.2.1 "OrphanTree"), (Cond.fieldLinkNest "OrphanTree$Tree" 67 (TX3 0).1 (TX3 0).2.1 (TX3 0).2.2.1 "OrphanTree"), (Cond.fieldLinkNest "OrphanTree" 186 (TX3 0).1 (TX3 0).2.1 (TX3 0).2.2.1 "OrphanTree"), (Cond.fieldLinkNest "OrphanTree$SetupReader" 168 (TX3 0).1 (TX3 0).2.1 (TX3 0).2.2.1 "OrphanTree")] := rfl
  exact ⟨uw_s tk_1 32 e 0 rfl rfl, uw_s tk_1 32 e 1 rfl rfl, uw_s tk_1 32 e 3 rfl rfl, uw_s tk_1 32 e 2 rfl rfl, uw_s tk_1 32 e 10 rfl rfl, uw_s tk_1 32 e 11 rfl rfl, uw_s tk_1 32 e 4 rfl rfl, uw_s tk_1 32 e 5 rfl rfl, uw_s tk_1 32 e 6 rfl rfl, uw_s tk_1 32 e 7 rfl rfl, uw_s tk_1 32 e 9 rfl rfl, uw_s tk_1 32 e 8 rfl rfl, tw_s tk_1 32 e 14 rfl, tw_s tk_1 32 e 12 rfl, tw_s tk_1 32 e 15 rfl, tw_s tk_1 32 e 13 rfl⟩
theorem pw_in_q1 : Cond.instantiable "OrphanTree$Tree" 10 ∈ ev_UW := pt_w1_2.1
theorem pw_m_q0_9 : Cond.methodLink "OrphanTree" 9 (pr_I 269).1 ∈ ev_UW := wk_m qI_269 pt_w1_2.2.1
theorem pw_c_269 : ev_cw (pr_I 269) (pr_P 269).1 ∈ ev_UW := wk_c qI_269 pp_269 pt_w1_2.2.2.1
theorem pw_v_269 : Cond.instanceMethod (pr_I 269).1 ∈ ev_UW := wk_v qI_269 pt_w1_2.2.2.2.1
theorem pw_m_q8_3 : Cond.methodLink "OrphanTree$Proc" 3 Lib.objectInit ∈ ev_UW := pt_w1_2.2.2.2.2.1
theorem pw_f_q8_57 : Cond.fieldLink "OrphanTree$Proc" 57 (TX3 0).1 (TX3 0).2.1 (TX3 0).2.2.1 ∈ ev_UW := pt_w1_2.2.2.2.2.2.1
theorem pw_m_q1_3 : Cond.methodLink "OrphanTree$Tree" 3 Lib.objectInit ∈ ev_UW := pt_w1_2.2.2.2.2.2.2.1
theorem pw_cl_q1_9 : Cond.classLink "OrphanTree$Tree" 9 "OrphanTree$Proc" ∈ ev_UW := pt_w1_2.2.2.2.2.2.2.2.1
theorem pw_in_q8 : Cond.instantiable "OrphanTree$Proc" 15 ∈ ev_UW := pt_w1_2.2.2.2.2.2.2.2.2.1
theorem pw_m_q1_11 : Cond.methodLink "OrphanTree$Tree" 11 (pr_I 232).1 ∈ ev_UW := wk_m qI_232 pt_w1_2.2.2.2.2.2.2.2.2.2.1
theorem pw_c_232 : ev_cw (pr_I 232) (pr_P 232).1 ∈ ev_UW := wk_c qI_232 pp_232 pt_w1_2.2.2.2.2.2.2.2.2.2.2.1
theorem pw_v_232 : Cond.instanceMethod (pr_I 232).1 ∈ ev_UW := wk_v qI_232 pt_w1_2.2.2.2.2.2.2.2.2.2.2.2.1
theorem pw_f_q0_186 : Cond.fieldLinkNest "OrphanTree" 186 (TX3 0).1 (TX3 0).2.1 (TX3 0).2.2.1 "OrphanTree" ∈ lw_tbl := pt_w1_2.2.2.2.2.2.2.2.2.2.2.2.2.1
theorem pw_f_q4_33 : Cond.fieldLinkNest "OrphanTree$Output" 33 (TX3 0).1 (TX3 0).2.1 (TX3 0).2.2.1 "OrphanTree" ∈ lw_tbl := pt_w1_2.2.2.2.2.2.2.2.2.2.2.2.2.2.1
theorem pw_f_q3_168 : Cond.fieldLinkNest "OrphanTree$SetupReader" 168 (TX3 0).1 (TX3 0).2.1 (TX3 0).2.2.1 "OrphanTree" ∈ lw_tbl := pt_w1_2.2.2.2.2.2.2.2.2.2.2.2.2.2.2.1
theorem pw_f_q1_67 : Cond.fieldLinkNest "OrphanTree$Tree" 67 (TX3 0).1 (TX3 0).2.1 (TX3 0).2.2.1 "OrphanTree" ∈ lw_tbl := pt_w1_2.2.2.2.2.2.2.2.2.2.2.2.2.2.2.2
theorem pt_w1_0 : (Cond.initialized "OrphanTree$Tree") ∈ ev_UW ∧ (Cond.initialized "OrphanTree") ∈ ev_UW ∧ (Cond.initialized "OrphanTree$History") ∈ ev_UW ∧ (Cond.initialized "OrphanTree$SetupReader") ∈ ev_UW ∧ (Cond.initialized "OrphanTree$Output") ∈ ev_UW ∧ (Cond.initialized "OrphanTree$Input") ∈ ev_UW ∧ (Cond.initialized "java/lang/Integer") ∈ ev_UW ∧ (Cond.initialized "OrphanTree$Proc") ∈ ev_UW ∧ (Cond.initialized "OrphanTreeModel") ∈ ev_UW ∧ (Cond.initialized "java/lang/Math") ∈ ev_UW ∧ (Cond.initialized "java/lang/System") ∈ ev_UW ∧ (Cond.initialized "OrphanTreeLaw") ∈ ev_UW := by
  have e : (tables_1_1.drop 0).take 16 = [(Cond.initialized "OrphanTreeLaw"), (Cond.initialized "OrphanTree"), (Cond.initialized "OrphanTree$Tree"), (Cond.initialized "OrphanTree$Proc"), (Cond.initialized "OrphanTree$History"), (Cond.initialized "OrphanTree$SetupReader"), (Cond.initialized "OrphanTree$Input"), (Cond.initialized "OrphanTree$Output"), (Cond.initialized "OrphanTreeModel"), _, _, _, _, (Cond.initialized "java/lang/System"), (Cond.initialized "java/lang/Math"), (Cond.initialized "java/lang/Integer")] := rfl
  exact ⟨uw_s tk_1 0 e 2 rfl rfl, uw_s tk_1 0 e 1 rfl rfl, uw_s tk_1 0 e 4 rfl rfl, uw_s tk_1 0 e 5 rfl rfl, uw_s tk_1 0 e 7 rfl rfl, uw_s tk_1 0 e 6 rfl rfl, uw_s tk_1 0 e 15 rfl rfl, uw_s tk_1 0 e 3 rfl rfl, uw_s tk_1 0 e 8 rfl rfl, uw_s tk_1 0 e 14 rfl rfl, uw_s tk_1 0 e 13 rfl rfl, uw_s tk_1 0 e 0 rfl rfl⟩
theorem pw_i_q1 : Cond.initialized "OrphanTree$Tree" ∈ ev_UW := pt_w1_0.1
theorem pw_i_q0 : Cond.initialized "OrphanTree" ∈ ev_UW := pt_w1_0.2.1
theorem pw_i_q2 : Cond.initialized "OrphanTree$History" ∈ ev_UW := pt_w1_0.2.2.1
theorem pw_i_q3 : Cond.initialized "OrphanTree$SetupReader" ∈ ev_UW := pt_w1_0.2.2.2.1
theorem pw_i_q4 : Cond.initialized "OrphanTree$Output" ∈ ev_UW := pt_w1_0.2.2.2.2.1
theorem pw_i_q5 : Cond.initialized "OrphanTree$Input" ∈ ev_UW := pt_w1_0.2.2.2.2.2.1
theorem pw_i_q6 : Cond.initialized "java/lang/Integer" ∈ ev_UW := pt_w1_0.2.2.2.2.2.2.1
theorem pw_i_q8 : Cond.initialized "OrphanTree$Proc" ∈ ev_UW := pt_w1_0.2.2.2.2.2.2.2.1
theorem pw_i_q12 : Cond.initialized "OrphanTreeModel" ∈ ev_UW := pt_w1_0.2.2.2.2.2.2.2.2.1
theorem pw_i_q13 : Cond.initialized "java/lang/Math" ∈ ev_UW := pt_w1_0.2.2.2.2.2.2.2.2.2.1
theorem pw_i_q14 : Cond.initialized "java/lang/System" ∈ ev_UW := pt_w1_0.2.2.2.2.2.2.2.2.2.2.1
theorem pw_i_q15 : Cond.initialized "OrphanTreeLaw" ∈ ev_UW := pt_w1_0.2.2.2.2.2.2.2.2.2.2.2
theorem pt_w2_2 : (Cond.fieldLink "OrphanTree" 10 (TX6 0).1 (TX6 0).2.1 (TX6 0).2.2.1) ∈ ev_UW ∧ (Cond.fieldLink "OrphanTree" 16 (TX6 1).1 (TX6 1).2.1 (TX6 1).2.2.1) ∈ ev_UW ∧ (Cond.fieldLink "OrphanTree" 19 (TX6 2).1 (TX6 2).2.1 (TX6 2).2.2.1) ∈ ev_UW ∧ (Cond.fieldLink "OrphanTree" 25 (TX6 3).1 (TX6 3).2.1 (TX6 3).2.2.1) ∈ ev_UW ∧ (Cond.fieldLink "OrphanTree" 32 (TX6 4).1 (TX6 4).2.1 (TX6 4).2.2.1) ∈ ev_UW ∧ (Cond.fieldLink "OrphanTree" 39 (TX6 5).1 (TX6 5).2.1 (TX6 5).2.2.1) ∈ ev_UW ∧ (Cond.fieldLink "OrphanTree" 43 (TX6 6).1 (TX6 6).2.1 (TX6 6).2.2.1) ∈ ev_UW ∧ (Cond.fieldLink "OrphanTree$Output" 15 (TX2 1).1 (TX2 1).2.1 (TX2 1).2.2.1) ∈ ev_UW ∧ (Cond.fieldLinkNest "OrphanTree" 79 (TX2 1).1 (TX2 1).2.1 (TX2 1).2.2.1 "OrphanTree") ∈ lw_tbl ∧ (Cond.fieldLinkNest "OrphanTree" 335 (TX2 0).1 (TX2 0).2.1 (TX2 0).2.2.1 "OrphanTree") ∈ lw_tbl := by
  have e : (tables_1_2.drop 32).take 16 = [(Cond.fieldLinkNest "OrphanTree" 335 (TX2 0).1 (TX2 0).2.1 (TX2 0).2.2.1 "OrphanTree"), (Cond.fieldLink "OrphanTree$Output" 15 (TX2 1).1 (TX2 1).2.1 (TX2 1).2.2.1), (Cond.fieldLinkNest "OrphanTree" 79 (TX2 1).1 (TX2 1).2.1 (TX2 1).2.2.1 "OrphanTree"), _, _, _, _, _, (Cond.fieldLink "OrphanTree" 10 (TX6 0).1 (TX6 0).2.1 (TX6 0).2.2.1), (Cond.fieldLink "OrphanTree" 16 (TX6 1).1 (TX6 1).2.1 (TX6 1).2.2.1), (Cond.fieldLink "OrphanTree" 19 (TX6 2).1 (TX6 2).2.1 (TX6 2).2.2.1), (Cond.fieldLink "OrphanTree" 25 (TX6 3).1 (TX6 3).2.1 (TX6 3).2.2.1), (Cond.fieldLink "OrphanTree" 32 (TX6 4).1 (TX6 4).2.1 (TX6 4).2.2.1), (Cond.fieldLink "OrphanTree" 39 (TX6 5).1 (TX6 5).2.1 (TX6 5).2.2.1), (Cond.fieldLink "OrphanTree" 43 (TX6 6).1 (TX6 6).2.1 (TX6 6).2.2.1), _] := rfl
  exact ⟨uw_s tk_2 32 e 8 rfl rfl, uw_s tk_2 32 e 9 rfl rfl, uw_s tk_2 32 e 10 rfl rfl, uw_s tk_2 32 e 11 rfl rfl, uw_s tk_2 32 e 12 rfl rfl, uw_s tk_2 32 e 13 rfl rfl, uw_s tk_2 32 e 14 rfl rfl, uw_s tk_2 32 e 1 rfl rfl, tw_s tk_2 32 e 2 rfl, tw_s tk_2 32 e 0 rfl⟩
theorem pw_f_q0_10 : Cond.fieldLink "OrphanTree" 10 (TX6 0).1 (TX6 0).2.1 (TX6 0).2.2.1 ∈ ev_UW := pt_w2_2.1
theorem pw_f_q0_16 : Cond.fieldLink "OrphanTree" 16 (TX6 1).1 (TX6 1).2.1 (TX6 1).2.2.1 ∈ ev_UW := pt_w2_2.2.1
theorem pw_f_q0_19 : Cond.fieldLink "OrphanTree" 19 (TX6 2).1 (TX6 2).2.1 (TX6 2).2.2.1 ∈ ev_UW := pt_w2_2.2.2.1
theorem pw_f_q0_25 : Cond.fieldLink "OrphanTree" 25 (TX6 3).1 (TX6 3).2.1 (TX6 3).2.2.1 ∈ ev_UW := pt_w2_2.2.2.2.1
theorem pw_f_q0_32 : Cond.fieldLink "OrphanTree" 32 (TX6 4).1 (TX6 4).2.1 (TX6 4).2.2.1 ∈ ev_UW := pt_w2_2.2.2.2.2.1
theorem pw_f_q0_39 : Cond.fieldLink "OrphanTree" 39 (TX6 5).1 (TX6 5).2.1 (TX6 5).2.2.1 ∈ ev_UW := pt_w2_2.2.2.2.2.2.1
theorem pw_f_q0_43 : Cond.fieldLink "OrphanTree" 43 (TX6 6).1 (TX6 6).2.1 (TX6 6).2.2.1 ∈ ev_UW := pt_w2_2.2.2.2.2.2.2.1
theorem pw_f_q4_15 : Cond.fieldLink "OrphanTree$Output" 15 (TX2 1).1 (TX2 1).2.1 (TX2 1).2.2.1 ∈ ev_UW := pt_w2_2.2.2.2.2.2.2.2.1
theorem pw_f_q0_79 : Cond.fieldLinkNest "OrphanTree" 79 (TX2 1).1 (TX2 1).2.1 (TX2 1).2.2.1 "OrphanTree" ∈ lw_tbl := pt_w2_2.2.2.2.2.2.2.2.2.1
theorem pw_f_q0_335 : Cond.fieldLinkNest "OrphanTree" 335 (TX2 0).1 (TX2 0).2.1 (TX2 0).2.2.1 "OrphanTree" ∈ lw_tbl := pt_w2_2.2.2.2.2.2.2.2.2.2
theorem pt_w1_11 : (Cond.classLink "OrphanTree" 22 "OrphanTree$History") ∈ ev_UW ∧ (Cond.instantiable "OrphanTree$History" 3) ∈ ev_UW ∧ (Cond.methodLink "OrphanTree" 24 pr_i218.1) ∈ ev_UW ∧ (ev_cw pr_i218 2) ∈ ev_UW ∧ (Cond.instanceMethod pr_i218.1) ∈ ev_UW ∧ (Cond.arrayClass (newarray.typeOf .int)) ∈ ev_UW ∧ (Cond.methodLink "OrphanTree$History" 3 Lib.objectInit) ∈ ev_UW ∧ (Cond.classLink "OrphanTree$History" 9 "OrphanTree$Tree") ∈ ev_UW ∧ (Cond.methodLink "OrphanTree$History" 24 pr_i269.1) ∈ ev_UW ∧ (Cond.arrayOver (.object "OrphanTree$Tree")) ∈ lw_tbl := by
  have e : (tables_1_1.drop 176).take 16 = [_, _, _, _, _, _, (Cond.arrayClass (newarray.typeOf .int)), (Cond.classLink "OrphanTree" 22 "OrphanTree$History"), (Cond.instantiable "OrphanTree$History" 3), (Cond.methodLink "OrphanTree" 24 pr_i218.1), (Cond.instanceMethod pr_i218.1), (ev_cw pr_i218 2), (Cond.methodLink "OrphanTree$History" 3 Lib.objectInit), (Cond.classLink "OrphanTree$History" 9 "OrphanTree$Tree"), (Cond.arrayOver (.object "OrphanTree$Tree")), (Cond.methodLink "OrphanTree$History" 24 pr_i269.1)] := rfl
  exact ⟨uw_s tk_1 176 e 7 rfl rfl, uw_s tk_1 176 e 8 rfl rfl, uw_s tk_1 176 e 9 rfl rfl, uw_s tk_1 176 e 11 rfl rfl, uw_s tk_1 176 e 10 rfl rfl, uw_s tk_1 176 e 6 rfl rfl, uw_s tk_1 176 e 12 rfl rfl, uw_s tk_1 176 e 13 rfl rfl, uw_s tk_1 176 e 15 rfl rfl, tw_s tk_1 176 e 14 rfl⟩
theorem pw_cl_q0_22 : Cond.classLink "OrphanTree" 22 "OrphanTree$History" ∈ ev_UW := pt_w1_11.1
theorem pw_in_q2 : Cond.instantiable "OrphanTree$History" 3 ∈ ev_UW := pt_w1_11.2.1
theorem pw_m_q0_24 : Cond.methodLink "OrphanTree" 24 (pr_I 218).1 ∈ ev_UW := wk_m qI_218 pt_w1_11.2.2.1
theorem pw_c_218 : ev_cw (pr_I 218) (pr_P 218).1 ∈ ev_UW := wk_c qI_218 pp_218 pt_w1_11.2.2.2.1
theorem pw_v_218 : Cond.instanceMethod (pr_I 218).1 ∈ ev_UW := wk_v qI_218 pt_w1_11.2.2.2.2.1
theorem pw_a_int : Cond.arrayClass (newarray.typeOf .int) ∈ ev_UW := pt_w1_11.2.2.2.2.2.1
theorem pw_m_q2_3 : Cond.methodLink "OrphanTree$History" 3 Lib.objectInit ∈ ev_UW := pt_w1_11.2.2.2.2.2.2.1
theorem pw_cl_q2_9 : Cond.classLink "OrphanTree$History" 9 "OrphanTree$Tree" ∈ ev_UW := pt_w1_11.2.2.2.2.2.2.2.1
theorem pw_m_q2_24 : Cond.methodLink "OrphanTree$History" 24 (pr_I 269).1 ∈ ev_UW := wk_m qI_269 pt_w1_11.2.2.2.2.2.2.2.2.1
theorem pw_o_q1 : Cond.arrayOver (.object "OrphanTree$Tree") ∈ lw_tbl := pt_w1_11.2.2.2.2.2.2.2.2.2
theorem pt_w1_12 : (Cond.classLink "OrphanTree" 29 "OrphanTree$SetupReader") ∈ ev_UW ∧ (Cond.instantiable "OrphanTree$SetupReader" 11) ∈ ev_UW ∧ (ev_cw pr_i249 1) ∈ ev_UW ∧ (Cond.instanceMethod pr_i249.1) ∈ ev_UW ∧ (Cond.fieldLink "OrphanTree$History" 11 (TX0 0).1 (TX0 0).2.1 (TX0 0).2.2.1) ∈ ev_UW ∧ (Cond.fieldLink "OrphanTree$History" 17 (TX0 1).1 (TX0 1).2.1 (TX0 1).2.2.1) ∈ ev_UW ∧ (Cond.fieldLink "OrphanTree$History" 21 (TX0 2).1 (TX0 2).2.1 (TX0 2).2.2.1) ∈ ev_UW ∧ (Cond.methodLinkNest "OrphanTree" 31 pr_i249.1 "OrphanTree") ∈ lw_tbl ∧ (Cond.fieldLinkNest "OrphanTree" 76 (TX0 1).1 (TX0 1).2.1 (TX0 1).2.2.1 "OrphanTree") ∈ lw_tbl := by
  have e : (tables_1_1.drop 192).take 16 = [(Cond.fieldLink "OrphanTree$History" 11 (TX0 0).1 (TX0 0).2.1 (TX0 0).2.2.1), (Cond.fieldLink "OrphanTree$History" 17 (TX0 1).1 (TX0 1).2.1 (TX0 1).2.2.1), (Cond.fieldLinkNest "OrphanTree" 76 (TX0 1).1 (TX0 1).2.1 (TX0 1).2.2.1 "OrphanTree"), (Cond.fieldLink "OrphanTree$History" 21 (TX0 2).1 (TX0 2).2.1 (TX0 2).2.2.1), _, _, _, _, _, _, _, (Cond.classLink "OrphanTree" 29 "OrphanTree$SetupReader"), (Cond.instantiable "OrphanTree$SetupReader" 11), (Cond.methodLinkNest "OrphanTree" 31 pr_i249.1 "OrphanTree"), (Cond.instanceMethod pr_i249.1), (ev_cw pr_i249 1)] := rfl
  exact ⟨uw_s tk_1 192 e 11 rfl rfl, uw_s tk_1 192 e 12 rfl rfl, uw_s tk_1 192 e 15 rfl rfl, uw_s tk_1 192 e 14 rfl rfl, uw_s tk_1 192 e 0 rfl rfl, uw_s tk_1 192 e 1 rfl rfl, uw_s tk_1 192 e 3 rfl rfl, tw_s tk_1 192 e 13 rfl, tw_s tk_1 192 e 2 rfl⟩
theorem pw_cl_q0_29 : Cond.classLink "OrphanTree" 29 "OrphanTree$SetupReader" ∈ ev_UW := pt_w1_12.1
theorem pw_in_q3 : Cond.instantiable "OrphanTree$SetupReader" 11 ∈ ev_UW := pt_w1_12.2.1
theorem pw_c_249 : ev_cw (pr_I 249) (pr_P 249).1 ∈ ev_UW := wk_c qI_249 pp_249 pt_w1_12.2.2.1
theorem pw_v_249 : Cond.instanceMethod (pr_I 249).1 ∈ ev_UW := wk_v qI_249 pt_w1_12.2.2.2.1
theorem pw_f_q2_11 : Cond.fieldLink "OrphanTree$History" 11 (TX0 0).1 (TX0 0).2.1 (TX0 0).2.2.1 ∈ ev_UW := pt_w1_12.2.2.2.2.1
theorem pw_f_q2_17 : Cond.fieldLink "OrphanTree$History" 17 (TX0 1).1 (TX0 1).2.1 (TX0 1).2.2.1 ∈ ev_UW := pt_w1_12.2.2.2.2.2.1
theorem pw_f_q2_21 : Cond.fieldLink "OrphanTree$History" 21 (TX0 2).1 (TX0 2).2.1 (TX0 2).2.2.1 ∈ ev_UW := pt_w1_12.2.2.2.2.2.2.1
theorem pw_m_q0_31 : Cond.methodLinkNest "OrphanTree" 31 (pr_I 249).1 "OrphanTree" ∈ lw_tbl := wk_n qI_249 pt_w1_12.2.2.2.2.2.2.2.1
theorem pw_f_q0_76 : Cond.fieldLinkNest "OrphanTree" 76 (TX0 1).1 (TX0 1).2.1 (TX0 1).2.2.1 "OrphanTree" ∈ lw_tbl := pt_w1_12.2.2.2.2.2.2.2.2
theorem pt_w2_1 : (Cond.classLink "OrphanTree" 36 "OrphanTree$Output") ∈ ev_UW ∧ (Cond.instantiable "OrphanTree$Output" 2) ∈ ev_UW ∧ (ev_cw pr_i224 1) ∈ ev_UW ∧ (Cond.instanceMethod pr_i224.1) ∈ ev_UW ∧ (Cond.methodLink "OrphanTree$Output" 3 Lib.objectInit) ∈ ev_UW ∧ (Cond.fieldLink "OrphanTree$Output" 9 (TX2 0).1 (TX2 0).2.1 (TX2 0).2.2.1) ∈ ev_UW ∧ (Cond.methodLinkNest "OrphanTree" 38 pr_i224.1 "OrphanTree") ∈ lw_tbl := by
  have e : (tables_1_2.drop 16).take 16 = [_, _, _, _, _, _, _, _, _, (Cond.classLink "OrphanTree" 36 "OrphanTree$Output"), (Cond.instantiable "OrphanTree$Output" 2), (Cond.methodLinkNest "OrphanTree" 38 pr_i224.1 "OrphanTree"), (Cond.instanceMethod pr_i224.1), (ev_cw pr_i224 1), (Cond.methodLink "OrphanTree$Output" 3 Lib.objectInit), (Cond.fieldLink "OrphanTree$Output" 9 (TX2 0).1 (TX2 0).2.1 (TX2 0).2.2.1)] := rfl
  exact ⟨uw_s tk_2 16 e 9 rfl rfl, uw_s tk_2 16 e 10 rfl rfl, uw_s tk_2 16 e 13 rfl rfl, uw_s tk_2 16 e 12 rfl rfl, uw_s tk_2 16 e 14 rfl rfl, uw_s tk_2 16 e 15 rfl rfl, tw_s tk_2 16 e 11 rfl⟩
theorem pw_cl_q0_36 : Cond.classLink "OrphanTree" 36 "OrphanTree$Output" ∈ ev_UW := pt_w2_1.1
theorem pw_in_q4 : Cond.instantiable "OrphanTree$Output" 2 ∈ ev_UW := pt_w2_1.2.1
theorem pw_c_224 : ev_cw (pr_I 224) (pr_P 224).1 ∈ ev_UW := wk_c qI_224 pp_224 pt_w2_1.2.2.1
theorem pw_v_224 : Cond.instanceMethod (pr_I 224).1 ∈ ev_UW := wk_v qI_224 pt_w2_1.2.2.2.1
theorem pw_m_q4_3 : Cond.methodLink "OrphanTree$Output" 3 Lib.objectInit ∈ ev_UW := pt_w2_1.2.2.2.2.1
theorem pw_f_q4_9 : Cond.fieldLink "OrphanTree$Output" 9 (TX2 0).1 (TX2 0).2.1 (TX2 0).2.2.1 ∈ ev_UW := pt_w2_1.2.2.2.2.2.1
theorem pw_m_q0_38 : Cond.methodLinkNest "OrphanTree" 38 (pr_I 224).1 "OrphanTree" ∈ lw_tbl := wk_n qI_224 pt_w2_1.2.2.2.2.2.2
theorem pt_w2_4 : (Cond.methodLink "OrphanTree" 57 pr_i222.1) ∈ ev_UW ∧ (ev_cw pr_i222 3) ∈ ev_UW ∧ (Cond.instanceMethod pr_i222.1) ∈ ev_UW ∧ (Cond.selects pr_i222.1.cls pr_i222.1 pr_i222.1) ∈ ev_UW ∧ (Cond.methodLink "OrphanTree" 61 pr_i250.1) ∈ ev_UW ∧ (Cond.instanceMethod pr_i250.1) ∈ ev_UW ∧ (ev_cw pr_i1 7) ∈ ev_UW ∧ (Cond.selects pr_i1.1.cls pr_i1.1 pr_i1.1) ∈ ev_UW ∧ (Cond.methodLink "OrphanTreeLaw" 173 pr_i2.1) ∈ ev_UW ∧ (ev_cw pr_i2 2) ∈ ev_UW ∧ (Cond.instanceMethod pr_i2.1) ∈ ev_UW ∧ (Cond.selects pr_i2.1.cls pr_i2.1 pr_i2.1) ∈ ev_UW ∧ (Cond.methodLink "OrphanTreeLaw" 178 pr_i3.1) ∈ ev_UW ∧ (ev_cw pr_i3 3) ∈ ev_UW ∧ (Cond.instanceMethod pr_i3.1) ∈ ev_UW ∧ (Cond.selects pr_i3.1.cls pr_i3.1 pr_i3.1) ∈ ev_UW := by
  have e : (tables_1_2.drop 64).take 16 = [(Cond.selects pr_i1.1.cls pr_i1.1 pr_i1.1), (ev_cw pr_i1 7), (Cond.methodLink "OrphanTree" 57 pr_i222.1), (Cond.instanceMethod pr_i222.1), (Cond.selects pr_i222.1.cls pr_i222.1 pr_i222.1), (ev_cw pr_i222 3), (Cond.methodLink "OrphanTreeLaw" 173 pr_i2.1), (Cond.instanceMethod pr_i2.1), (Cond.selects pr_i2.1.cls pr_i2.1 pr_i2.1), (ev_cw pr_i2 2), (Cond.methodLink "OrphanTreeLaw" 178 pr_i3.1), (Cond.instanceMethod pr_i3.1), (Cond.selects pr_i3.1.cls pr_i3.1 pr_i3.1), (ev_cw pr_i3 3), (Cond.methodLink "OrphanTree" 61 pr_i250.1), (Cond.instanceMethod pr_i250.1)] := rfl
  exact ⟨uw_s tk_2 64 e 2 rfl rfl, uw_s tk_2 64 e 5 rfl rfl, uw_s tk_2 64 e 3 rfl rfl, uw_s tk_2 64 e 4 rfl rfl, uw_s tk_2 64 e 14 rfl rfl, uw_s tk_2 64 e 15 rfl rfl, uw_s tk_2 64 e 1 rfl rfl, uw_s tk_2 64 e 0 rfl rfl, uw_s tk_2 64 e 6 rfl rfl, uw_s tk_2 64 e 9 rfl rfl, uw_s tk_2 64 e 7 rfl rfl, uw_s tk_2 64 e 8 rfl rfl, uw_s tk_2 64 e 10 rfl rfl, uw_s tk_2 64 e 13 rfl rfl, uw_s tk_2 64 e 11 rfl rfl, uw_s tk_2 64 e 12 rfl rfl⟩
theorem pw_m_q0_57 : Cond.methodLink "OrphanTree" 57 (pr_I 222).1 ∈ ev_UW := wk_m qI_222 pt_w2_4.1
theorem pw_c_222 : ev_cw (pr_I 222) (pr_P 222).1 ∈ ev_UW := wk_c qI_222 pp_222 pt_w2_4.2.1
theorem pw_v_222 : Cond.instanceMethod (pr_I 222).1 ∈ ev_UW := wk_v qI_222 pt_w2_4.2.2.1
theorem pw_s_222 : Cond.selects (pr_I 222).1.cls (pr_I 222).1 (pr_I 222).1 ∈ ev_UW := wk_s qI_222 pt_w2_4.2.2.2.1
theorem pw_m_q0_61 : Cond.methodLink "OrphanTree" 61 (pr_I 250).1 ∈ ev_UW := wk_m qI_250 pt_w2_4.2.2.2.2.1
theorem pw_v_250 : Cond.instanceMethod (pr_I 250).1 ∈ ev_UW := wk_v qI_250 pt_w2_4.2.2.2.2.2.1
theorem pw_c_1 : ev_cw (pr_I 1) (pr_P 1).1 ∈ ev_UW := wk_c qI_1 pp_1 pt_w2_4.2.2.2.2.2.2.1
theorem pw_s_1 : Cond.selects (pr_I 1).1.cls (pr_I 1).1 (pr_I 1).1 ∈ ev_UW := wk_s qI_1 pt_w2_4.2.2.2.2.2.2.2.1
theorem pw_m_q15_173 : Cond.methodLink "OrphanTreeLaw" 173 (pr_I 2).1 ∈ ev_UW := wk_m qI_2 pt_w2_4.2.2.2.2.2.2.2.2.1
theorem pw_c_2 : ev_cw (pr_I 2) (pr_P 2).1 ∈ ev_UW := wk_c qI_2 pp_2 pt_w2_4.2.2.2.2.2.2.2.2.2.1
theorem pw_v_2 : Cond.instanceMethod (pr_I 2).1 ∈ ev_UW := wk_v qI_2 pt_w2_4.2.2.2.2.2.2.2.2.2.2.1
theorem pw_s_2 : Cond.selects (pr_I 2).1.cls (pr_I 2).1 (pr_I 2).1 ∈ ev_UW := wk_s qI_2 pt_w2_4.2.2.2.2.2.2.2.2.2.2.2.1
theorem pw_m_q15_178 : Cond.methodLink "OrphanTreeLaw" 178 (pr_I 3).1 ∈ ev_UW := wk_m qI_3 pt_w2_4.2.2.2.2.2.2.2.2.2.2.2.2.1
theorem pw_c_3 : ev_cw (pr_I 3) (pr_P 3).1 ∈ ev_UW := wk_c qI_3 pp_3 pt_w2_4.2.2.2.2.2.2.2.2.2.2.2.2.2.1
theorem pw_v_3 : Cond.instanceMethod (pr_I 3).1 ∈ ev_UW := wk_v qI_3 pt_w2_4.2.2.2.2.2.2.2.2.2.2.2.2.2.2.1
theorem pw_s_3 : Cond.selects (pr_I 3).1.cls (pr_I 3).1 (pr_I 3).1 ∈ ev_UW := wk_s qI_3 pt_w2_4.2.2.2.2.2.2.2.2.2.2.2.2.2.2.2
theorem pt_w2_5 : (ev_cw pr_i250 1) ∈ ev_UW ∧ (Cond.selects pr_i250.1.cls pr_i250.1 pr_i250.1) ∈ ev_UW ∧ (Cond.methodLink "OrphanTree" 64 pr_i251.1) ∈ ev_UW ∧ (ev_cw pr_i251 1) ∈ ev_UW ∧ (Cond.instanceMethod pr_i251.1) ∈ ev_UW ∧ (Cond.selects pr_i251.1.cls pr_i251.1 pr_i251.1) ∈ ev_UW ∧ (Cond.methodLink "OrphanTree$SetupReader" 54 pr_i270.1) ∈ ev_UW ∧ (Cond.methodLink "OrphanTree$SetupReader" 57 pr_i265.1) ∈ ev_UW ∧ (ev_cw pr_i265 1) ∈ ev_UW ∧ (Cond.instanceMethod pr_i265.1) ∈ ev_UW ∧ (Cond.methodLink "OrphanTree$SetupReader" 195 pr_i223.1) ∈ ev_UW ∧ (ev_cw pr_i223 2) ∈ ev_UW ∧ (Cond.instanceMethod pr_i223.1) ∈ ev_UW ∧ (Cond.selects pr_i223.1.cls pr_i223.1 pr_i223.1) ∈ ev_UW ∧ (Cond.methodLink "OrphanTree$SetupReader" 197 pr_i266.1) ∈ ev_UW := by
  have e : (tables_1_2.drop 80).take 16 = [(Cond.selects pr_i250.1.cls pr_i250.1 pr_i250.1), (ev_cw pr_i250 1), (Cond.methodLink "OrphanTree$SetupReader" 54 pr_i270.1), (Cond.methodLink "OrphanTree" 64 pr_i251.1), (Cond.instanceMethod pr_i251.1), (Cond.selects pr_i251.1.cls pr_i251.1 pr_i251.1), (ev_cw pr_i251 1), (Cond.methodLink "OrphanTree$SetupReader" 57 pr_i265.1), _, (Cond.instanceMethod pr_i265.1), (ev_cw pr_i265 1), (Cond.methodLink "OrphanTree$SetupReader" 195 pr_i223.1), (Cond.instanceMethod pr_i223.1), (Cond.selects pr_i223.1.cls pr_i223.1 pr_i223.1), (ev_cw pr_i223 2), (Cond.methodLink "OrphanTree$SetupReader" 197 pr_i266.1)] := rfl
  exact ⟨uw_s tk_2 80 e 1 rfl rfl, uw_s tk_2 80 e 0 rfl rfl, uw_s tk_2 80 e 3 rfl rfl, uw_s tk_2 80 e 6 rfl rfl, uw_s tk_2 80 e 4 rfl rfl, uw_s tk_2 80 e 5 rfl rfl, uw_s tk_2 80 e 2 rfl rfl, uw_s tk_2 80 e 7 rfl rfl, uw_s tk_2 80 e 10 rfl rfl, uw_s tk_2 80 e 9 rfl rfl, uw_s tk_2 80 e 11 rfl rfl, uw_s tk_2 80 e 14 rfl rfl, uw_s tk_2 80 e 12 rfl rfl, uw_s tk_2 80 e 13 rfl rfl, uw_s tk_2 80 e 15 rfl rfl⟩
theorem pw_c_250 : ev_cw (pr_I 250) (pr_P 250).1 ∈ ev_UW := wk_c qI_250 pp_250 pt_w2_5.1
theorem pw_s_250 : Cond.selects (pr_I 250).1.cls (pr_I 250).1 (pr_I 250).1 ∈ ev_UW := wk_s qI_250 pt_w2_5.2.1
theorem pw_m_q0_64 : Cond.methodLink "OrphanTree" 64 (pr_I 251).1 ∈ ev_UW := wk_m qI_251 pt_w2_5.2.2.1
theorem pw_c_251 : ev_cw (pr_I 251) (pr_P 251).1 ∈ ev_UW := wk_c qI_251 pp_251 pt_w2_5.2.2.2.1
theorem pw_v_251 : Cond.instanceMethod (pr_I 251).1 ∈ ev_UW := wk_v qI_251 pt_w2_5.2.2.2.2.1
theorem pw_s_251 : Cond.selects (pr_I 251).1.cls (pr_I 251).1 (pr_I 251).1 ∈ ev_UW := wk_s qI_251 pt_w2_5.2.2.2.2.2.1
theorem pw_m_q3_54 : Cond.methodLink "OrphanTree$SetupReader" 54 (pr_I 270).1 ∈ ev_UW := wk_m qI_270 pt_w2_5.2.2.2.2.2.2.1
theorem pw_m_q3_57 : Cond.methodLink "OrphanTree$SetupReader" 57 (pr_I 265).1 ∈ ev_UW := wk_m qI_265 pt_w2_5.2.2.2.2.2.2.2.1
theorem pw_c_265 : ev_cw (pr_I 265) (pr_P 265).1 ∈ ev_UW := wk_c qI_265 pp_265 pt_w2_5.2.2.2.2.2.2.2.2.1
theorem pw_v_265 : Cond.instanceMethod (pr_I 265).1 ∈ ev_UW := wk_v qI_265 pt_w2_5.2.2.2.2.2.2.2.2.2.1
theorem pw_m_q3_195 : Cond.methodLink "OrphanTree$SetupReader" 195 (pr_I 223).1 ∈ ev_UW := wk_m qI_223 pt_w2_5.2.2.2.2.2.2.2.2.2.2.1
theorem pw_c_223 : ev_cw (pr_I 223) (pr_P 223).1 ∈ ev_UW := wk_c qI_223 pp_223 pt_w2_5.2.2.2.2.2.2.2.2.2.2.2.1
theorem pw_v_223 : Cond.instanceMethod (pr_I 223).1 ∈ ev_UW := wk_v qI_223 pt_w2_5.2.2.2.2.2.2.2.2.2.2.2.2.1
theorem pw_s_223 : Cond.selects (pr_I 223).1.cls (pr_I 223).1 (pr_I 223).1 ∈ ev_UW := wk_s qI_223 pt_w2_5.2.2.2.2.2.2.2.2.2.2.2.2.2.1
theorem pw_m_q3_197 : Cond.methodLink "OrphanTree$SetupReader" 197 (pr_I 266).1 ∈ ev_UW := wk_m qI_266 pt_w2_5.2.2.2.2.2.2.2.2.2.2.2.2.2.2
theorem pt_w3_1 : (Cond.methodLink "OrphanTree" 72 pr_i273.1) ∈ ev_UW ∧ (ev_cw pr_i273 4) ∈ ev_UW ∧ (Cond.instanceMethod pr_i273.1) ∈ ev_UW ∧ (Cond.selects pr_i273.1.cls pr_i273.1 pr_i273.1) ∈ ev_UW ∧ (Cond.methodLink "OrphanTree$Tree" 60 pr_i234.1) ∈ ev_UW ∧ (ev_cw pr_i234 2) ∈ ev_UW ∧ (Cond.instanceMethod pr_i234.1) ∈ ev_UW ∧ (Cond.selects pr_i234.1.cls pr_i234.1 pr_i234.1) ∈ ev_UW ∧ (Cond.methodLink "OrphanTree$Tree" 70 pr_i274.1) ∈ ev_UW ∧ (Cond.methodLink "OrphanTree$Tree" 74 arraycopyName) ∈ ev_UW ∧ (Cond.native arraycopyName) ∈ ev_UW ∧ (Cond.static arraycopyName) ∈ ev_UW ∧ (Cond.methodLink "OrphanTreeLaw" 182 pr_i4.1) ∈ ev_UW ∧ (ev_cw pr_i4 1) ∈ ev_UW ∧ (Cond.instanceMethod pr_i4.1) ∈ ev_UW ∧ (Cond.selects pr_i4.1.cls pr_i4.1 pr_i4.1) ∈ ev_UW := by
  have e : (tables_1_3.drop 16).take 16 = [(Cond.methodLink "OrphanTree" 72 pr_i273.1), (Cond.instanceMethod pr_i273.1), (Cond.selects pr_i273.1.cls pr_i273.1 pr_i273.1), (ev_cw pr_i273 4), (Cond.methodLink "OrphanTree$Tree" 60 pr_i234.1), (Cond.instanceMethod pr_i234.1), (Cond.selects pr_i234.1.cls pr_i234.1 pr_i234.1), (ev_cw pr_i234 2), (Cond.methodLink "OrphanTree$Tree" 70 pr_i274.1), (Cond.methodLink "OrphanTree$Tree" 74 arraycopyName), (Cond.static arraycopyName), (Cond.native arraycopyName), (Cond.methodLink "OrphanTreeLaw" 182 pr_i4.1), (Cond.instanceMethod pr_i4.1), (Cond.selects pr_i4.1.cls pr_i4.1 pr_i4.1), (ev_cw pr_i4 1)] := rfl
  exact ⟨uw_s tk_3 16 e 0 rfl rfl, uw_s tk_3 16 e 3 rfl rfl, uw_s tk_3 16 e 1 rfl rfl, uw_s tk_3 16 e 2 rfl rfl, uw_s tk_3 16 e 4 rfl rfl, uw_s tk_3 16 e 7 rfl rfl, uw_s tk_3 16 e 5 rfl rfl, uw_s tk_3 16 e 6 rfl rfl, uw_s tk_3 16 e 8 rfl rfl, uw_s tk_3 16 e 9 rfl rfl, uw_s tk_3 16 e 11 rfl rfl, uw_s tk_3 16 e 10 rfl rfl, uw_s tk_3 16 e 12 rfl rfl, uw_s tk_3 16 e 15 rfl rfl, uw_s tk_3 16 e 13 rfl rfl, uw_s tk_3 16 e 14 rfl rfl⟩
theorem pw_m_q0_72 : Cond.methodLink "OrphanTree" 72 (pr_I 273).1 ∈ ev_UW := wk_m qI_273 pt_w3_1.1
theorem pw_c_273 : ev_cw (pr_I 273) (pr_P 273).1 ∈ ev_UW := wk_c qI_273 pp_273 pt_w3_1.2.1
theorem pw_v_273 : Cond.instanceMethod (pr_I 273).1 ∈ ev_UW := wk_v qI_273 pt_w3_1.2.2.1
theorem pw_s_273 : Cond.selects (pr_I 273).1.cls (pr_I 273).1 (pr_I 273).1 ∈ ev_UW := wk_s qI_273 pt_w3_1.2.2.2.1
theorem pw_m_q1_60 : Cond.methodLink "OrphanTree$Tree" 60 (pr_I 234).1 ∈ ev_UW := wk_m qI_234 pt_w3_1.2.2.2.2.1
theorem pw_c_234 : ev_cw (pr_I 234) (pr_P 234).1 ∈ ev_UW := wk_c qI_234 pp_234 pt_w3_1.2.2.2.2.2.1
theorem pw_v_234 : Cond.instanceMethod (pr_I 234).1 ∈ ev_UW := wk_v qI_234 pt_w3_1.2.2.2.2.2.2.1
theorem pw_s_234 : Cond.selects (pr_I 234).1.cls (pr_I 234).1 (pr_I 234).1 ∈ ev_UW := wk_s qI_234 pt_w3_1.2.2.2.2.2.2.2.1
theorem pw_m_q1_70 : Cond.methodLink "OrphanTree$Tree" 70 (pr_I 274).1 ∈ ev_UW := wk_m qI_274 pt_w3_1.2.2.2.2.2.2.2.2.1
theorem pw_m_q1_74 : Cond.methodLink "OrphanTree$Tree" 74 arraycopyName ∈ ev_UW := pt_w3_1.2.2.2.2.2.2.2.2.2.1
theorem pw_an : Cond.native arraycopyName ∈ ev_UW := pt_w3_1.2.2.2.2.2.2.2.2.2.2.1
theorem pw_as : Cond.static arraycopyName ∈ ev_UW := pt_w3_1.2.2.2.2.2.2.2.2.2.2.2.1
theorem pw_m_q15_182 : Cond.methodLink "OrphanTreeLaw" 182 (pr_I 4).1 ∈ ev_UW := wk_m qI_4 pt_w3_1.2.2.2.2.2.2.2.2.2.2.2.2.1
theorem pw_c_4 : ev_cw (pr_I 4) (pr_P 4).1 ∈ ev_UW := wk_c qI_4 pp_4 pt_w3_1.2.2.2.2.2.2.2.2.2.2.2.2.2.1
theorem pw_v_4 : Cond.instanceMethod (pr_I 4).1 ∈ ev_UW := wk_v qI_4 pt_w3_1.2.2.2.2.2.2.2.2.2.2.2.2.2.2.1
theorem pw_s_4 : Cond.selects (pr_I 4).1.cls (pr_I 4).1 (pr_I 4).1 ∈ ev_UW := wk_s qI_4 pt_w3_1.2.2.2.2.2.2.2.2.2.2.2.2.2.2.2
theorem pt_w3_5 : (Cond.methodLink "OrphanTree" 86 pr_i275.1) ∈ ev_UW ∧ (ev_cw pr_i275 7) ∈ ev_UW ∧ (Cond.instanceMethod pr_i275.1) ∈ ev_UW ∧ (Cond.selects pr_i275.1.cls pr_i275.1 pr_i275.1) ∈ ev_UW ∧ (ev_cw pr_i48 7) ∈ ev_UW ∧ (Cond.instanceMethod pr_i48.1) ∈ ev_UW ∧ (Cond.selects pr_i48.1.cls pr_i48.1 pr_i48.1) ∈ ev_UW ∧ (Cond.methodLink "OrphanTreeLaw" 347 pr_i52.1) ∈ ev_UW ∧ (ev_cw pr_i52 1) ∈ ev_UW ∧ (Cond.instanceMethod pr_i52.1) ∈ ev_UW ∧ (Cond.selects pr_i52.1.cls pr_i52.1 pr_i52.1) ∈ ev_UW ∧ (Cond.methodLink "OrphanTreeLaw" 375 pr_i61.1) ∈ ev_UW ∧ (ev_cw pr_i61 2) ∈ ev_UW ∧ (Cond.instanceMethod pr_i61.1) ∈ ev_UW ∧ (Cond.selects pr_i61.1.cls pr_i61.1 pr_i61.1) ∈ ev_UW ∧ (Cond.methodLink "OrphanTreeLaw" 379 pr_i62.1) ∈ ev_UW := by
  have e : (tables_1_3.drop 80).take 16 = [(Cond.instanceMethod pr_i48.1), (Cond.selects pr_i48.1.cls pr_i48.1 pr_i48.1), (ev_cw pr_i48 7), (Cond.methodLink "OrphanTreeLaw" 347 pr_i52.1), (Cond.instanceMethod pr_i52.1), (Cond.selects pr_i52.1.cls pr_i52.1 pr_i52.1), (ev_cw pr_i52 1), (Cond.methodLink "OrphanTree" 86 pr_i275.1), (Cond.instanceMethod pr_i275.1), (Cond.selects pr_i275.1.cls pr_i275.1 pr_i275.1), (ev_cw pr_i275 7), (Cond.methodLink "OrphanTreeLaw" 375 pr_i61.1), (Cond.instanceMethod pr_i61.1), (Cond.selects pr_i61.1.cls pr_i61.1 pr_i61.1), (ev_cw pr_i61 2), (Cond.methodLink "OrphanTreeLaw" 379 pr_i62.1)] := rfl
  exact ⟨uw_s tk_3 80 e 7 rfl rfl, uw_s tk_3 80 e 10 rfl rfl, uw_s tk_3 80 e 8 rfl rfl, uw_s tk_3 80 e 9 rfl rfl, uw_s tk_3 80 e 2 rfl rfl, uw_s tk_3 80 e 0 rfl rfl, uw_s tk_3 80 e 1 rfl rfl, uw_s tk_3 80 e 3 rfl rfl, uw_s tk_3 80 e 6 rfl rfl, uw_s tk_3 80 e 4 rfl rfl, uw_s tk_3 80 e 5 rfl rfl, uw_s tk_3 80 e 11 rfl rfl, uw_s tk_3 80 e 14 rfl rfl, uw_s tk_3 80 e 12 rfl rfl, uw_s tk_3 80 e 13 rfl rfl, uw_s tk_3 80 e 15 rfl rfl⟩
theorem pw_m_q0_86 : Cond.methodLink "OrphanTree" 86 (pr_I 275).1 ∈ ev_UW := wk_m qI_275 pt_w3_5.1
theorem pw_c_275 : ev_cw (pr_I 275) (pr_P 275).1 ∈ ev_UW := wk_c qI_275 pp_275 pt_w3_5.2.1
theorem pw_v_275 : Cond.instanceMethod (pr_I 275).1 ∈ ev_UW := wk_v qI_275 pt_w3_5.2.2.1
theorem pw_s_275 : Cond.selects (pr_I 275).1.cls (pr_I 275).1 (pr_I 275).1 ∈ ev_UW := wk_s qI_275 pt_w3_5.2.2.2.1
theorem pw_c_48 : ev_cw (pr_I 48) (pr_P 48).1 ∈ ev_UW := wk_c qI_48 pp_48 pt_w3_5.2.2.2.2.1
theorem pw_v_48 : Cond.instanceMethod (pr_I 48).1 ∈ ev_UW := wk_v qI_48 pt_w3_5.2.2.2.2.2.1
theorem pw_s_48 : Cond.selects (pr_I 48).1.cls (pr_I 48).1 (pr_I 48).1 ∈ ev_UW := wk_s qI_48 pt_w3_5.2.2.2.2.2.2.1
theorem pw_m_q15_347 : Cond.methodLink "OrphanTreeLaw" 347 (pr_I 52).1 ∈ ev_UW := wk_m qI_52 pt_w3_5.2.2.2.2.2.2.2.1
theorem pw_c_52 : ev_cw (pr_I 52) (pr_P 52).1 ∈ ev_UW := wk_c qI_52 pp_52 pt_w3_5.2.2.2.2.2.2.2.2.1
theorem pw_v_52 : Cond.instanceMethod (pr_I 52).1 ∈ ev_UW := wk_v qI_52 pt_w3_5.2.2.2.2.2.2.2.2.2.1
theorem pw_s_52 : Cond.selects (pr_I 52).1.cls (pr_I 52).1 (pr_I 52).1 ∈ ev_UW := wk_s qI_52 pt_w3_5.2.2.2.2.2.2.2.2.2.2.1
theorem pw_m_q15_375 : Cond.methodLink "OrphanTreeLaw" 375 (pr_I 61).1 ∈ ev_UW := wk_m qI_61 pt_w3_5.2.2.2.2.2.2.2.2.2.2.2.1
theorem pw_c_61 : ev_cw (pr_I 61) (pr_P 61).1 ∈ ev_UW := wk_c qI_61 pp_61 pt_w3_5.2.2.2.2.2.2.2.2.2.2.2.2.1
theorem pw_v_61 : Cond.instanceMethod (pr_I 61).1 ∈ ev_UW := wk_v qI_61 pt_w3_5.2.2.2.2.2.2.2.2.2.2.2.2.2.1
theorem pw_s_61 : Cond.selects (pr_I 61).1.cls (pr_I 61).1 (pr_I 61).1 ∈ ev_UW := wk_s qI_61 pt_w3_5.2.2.2.2.2.2.2.2.2.2.2.2.2.2.1
theorem pw_m_q15_379 : Cond.methodLink "OrphanTreeLaw" 379 (pr_I 62).1 ∈ ev_UW := wk_m qI_62 pt_w3_5.2.2.2.2.2.2.2.2.2.2.2.2.2.2.2
theorem pt_w3_7 : (Cond.methodLink "OrphanTree" 106 pr_i285.1) ∈ ev_UW ∧ (ev_cw pr_i285 4) ∈ ev_UW ∧ (Cond.instanceMethod pr_i285.1) ∈ ev_UW ∧ (Cond.selects pr_i285.1.cls pr_i285.1 pr_i285.1) ∈ ev_UW ∧ (Cond.methodLink "OrphanTree" 110 pr_i353.1) ∈ ev_UW ∧ (Cond.static pr_i353.1) ∈ ev_UW ∧ (ev_cw pr_i353 1) ∈ ev_UW ∧ (Cond.classLink "OrphanTree" 118 "java/lang/IllegalArgumentException") ∈ ev_UW ∧ (Cond.methodLink "OrphanTreeLaw" 7 pr_i6.1) ∈ ev_UW ∧ (ev_cw pr_i6 2) ∈ ev_UW ∧ (Cond.instanceMethod pr_i6.1) ∈ ev_UW ∧ (Cond.selects pr_i6.1.cls pr_i6.1 pr_i6.1) ∈ ev_UW ∧ (Cond.constant "java/lang/Integer" 265 (1431655765 : Int32)) ∈ ev_UW ∧ (Cond.constant "java/lang/Integer" 266 (858993459 : Int32)) ∈ ev_UW ∧ (Cond.constant "java/lang/Integer" 267 (252645135 : Int32)) ∈ ev_UW := by
  have e : (tables_1_3.drop 112).take 16 = [(Cond.methodLink "OrphanTreeLaw" 7 pr_i6.1), (Cond.instanceMethod pr_i6.1), (Cond.selects pr_i6.1.cls pr_i6.1 pr_i6.1), (ev_cw pr_i6 2), (Cond.methodLink "OrphanTree" 106 pr_i285.1), (Cond.instanceMethod pr_i285.1), (Cond.selects pr_i285.1.cls pr_i285.1 pr_i285.1), (ev_cw pr_i285 4), (Cond.methodLink "OrphanTree" 110 pr_i353.1), (Cond.static pr_i353.1), (ev_cw pr_i353 1), (Cond.constant "java/lang/Integer" 265 (1431655765 : Int32)), (Cond.constant "java/lang/Integer" 266 (858993459 : Int32)), (Cond.constant "java/lang/Integer" 267 (252645135 : Int32)), (Cond.classLink "OrphanTree" 118 "java/lang/IllegalArgumentException"), _] := rfl
  exact ⟨uw_s tk_3 112 e 4 rfl rfl, uw_s tk_3 112 e 7 rfl rfl, uw_s tk_3 112 e 5 rfl rfl, uw_s tk_3 112 e 6 rfl rfl, uw_s tk_3 112 e 8 rfl rfl, uw_s tk_3 112 e 9 rfl rfl, uw_s tk_3 112 e 10 rfl rfl, uw_s tk_3 112 e 14 rfl rfl, uw_s tk_3 112 e 0 rfl rfl, uw_s tk_3 112 e 3 rfl rfl, uw_s tk_3 112 e 1 rfl rfl, uw_s tk_3 112 e 2 rfl rfl, uw_s tk_3 112 e 11 rfl rfl, uw_s tk_3 112 e 12 rfl rfl, uw_s tk_3 112 e 13 rfl rfl⟩
theorem pw_m_q0_106 : Cond.methodLink "OrphanTree" 106 (pr_I 285).1 ∈ ev_UW := wk_m qI_285 pt_w3_7.1
theorem pw_c_285 : ev_cw (pr_I 285) (pr_P 285).1 ∈ ev_UW := wk_c qI_285 pp_285 pt_w3_7.2.1
theorem pw_v_285 : Cond.instanceMethod (pr_I 285).1 ∈ ev_UW := wk_v qI_285 pt_w3_7.2.2.1
theorem pw_s_285 : Cond.selects (pr_I 285).1.cls (pr_I 285).1 (pr_I 285).1 ∈ ev_UW := wk_s qI_285 pt_w3_7.2.2.2.1
theorem pw_m_q0_110 : Cond.methodLink "OrphanTree" 110 (pr_I 353).1 ∈ ev_UW := wk_m qI_353 pt_w3_7.2.2.2.2.1
theorem pw_t_353 : Cond.static (pr_I 353).1 ∈ ev_UW := wk_t qI_353 pt_w3_7.2.2.2.2.2.1
theorem pw_c_353 : ev_cw (pr_I 353) (pr_P 353).1 ∈ ev_UW := wk_c qI_353 pp_353 pt_w3_7.2.2.2.2.2.2.1
theorem pw_cl_q0_118 : Cond.classLink "OrphanTree" 118 "java/lang/IllegalArgumentException" ∈ ev_UW := pt_w3_7.2.2.2.2.2.2.2.1
theorem pw_m_q15_7 : Cond.methodLink "OrphanTreeLaw" 7 (pr_I 6).1 ∈ ev_UW := wk_m qI_6 pt_w3_7.2.2.2.2.2.2.2.2.1
theorem pw_c_6 : ev_cw (pr_I 6) (pr_P 6).1 ∈ ev_UW := wk_c qI_6 pp_6 pt_w3_7.2.2.2.2.2.2.2.2.2.1
theorem pw_v_6 : Cond.instanceMethod (pr_I 6).1 ∈ ev_UW := wk_v qI_6 pt_w3_7.2.2.2.2.2.2.2.2.2.2.1
theorem pw_s_6 : Cond.selects (pr_I 6).1.cls (pr_I 6).1 (pr_I 6).1 ∈ ev_UW := wk_s qI_6 pt_w3_7.2.2.2.2.2.2.2.2.2.2.2.1
theorem pw_k_q6_265 : Cond.constant "java/lang/Integer" 265 (1431655765 : Int32) ∈ ev_UW := pt_w3_7.2.2.2.2.2.2.2.2.2.2.2.2.1
theorem pw_k_q6_266 : Cond.constant "java/lang/Integer" 266 (858993459 : Int32) ∈ ev_UW := pt_w3_7.2.2.2.2.2.2.2.2.2.2.2.2.2.1
theorem pw_k_q6_267 : Cond.constant "java/lang/Integer" 267 (252645135 : Int32) ∈ ev_UW := pt_w3_7.2.2.2.2.2.2.2.2.2.2.2.2.2.2
theorem pt_w3_12 : (Cond.methodLink "OrphanTree" 125 pr_i65.1) ∈ ev_UW ∧ (ev_cw pr_i65 3) ∈ ev_UW ∧ (Cond.instanceMethod pr_i65.1) ∈ ev_UW ∧ (Cond.methodLink "OrphanTree" 287 pr_i274.1) ∈ ev_UW ∧ (Cond.classLink "OrphanTree" 343 "java/lang/IndexOutOfBoundsException") ∈ ev_UW ∧ (Cond.methodLink "OrphanTreeLaw" 15 pr_i7.1) ∈ ev_UW ∧ (ev_cw pr_i7 4) ∈ ev_UW ∧ (Cond.instanceMethod pr_i7.1) ∈ ev_UW ∧ (Cond.selects pr_i7.1.cls pr_i7.1 pr_i7.1) ∈ ev_UW ∧ (Cond.methodLink "OrphanTreeLaw" 196 pr_i306.1) ∈ ev_UW ∧ (Cond.static pr_i306.1) ∈ ev_UW ∧ (ev_cw pr_i306 5) ∈ ev_UW := by
  have e : (tables_1_3.drop 192).take 16 = [_, _, (Cond.methodLink "OrphanTreeLaw" 196 pr_i306.1), (Cond.static pr_i306.1), (ev_cw pr_i306 5), _, (Cond.methodLink "OrphanTreeLaw" 15 pr_i7.1), (Cond.instanceMethod pr_i7.1), (Cond.selects pr_i7.1.cls pr_i7.1 pr_i7.1), (ev_cw pr_i7 4), (Cond.methodLink "OrphanTree" 125 pr_i65.1), _, (Cond.instanceMethod pr_i65.1), (ev_cw pr_i65 3), (Cond.methodLink "OrphanTree" 287 pr_i274.1), (Cond.classLink "OrphanTree" 343 "java/lang/IndexOutOfBoundsException")] := rfl
  exact ⟨uw_s tk_3 192 e 10 rfl rfl, uw_s tk_3 192 e 13 rfl rfl, uw_s tk_3 192 e 12 rfl rfl, uw_s tk_3 192 e 14 rfl rfl, uw_s tk_3 192 e 15 rfl rfl, uw_s tk_3 192 e 6 rfl rfl, uw_s tk_3 192 e 9 rfl rfl, uw_s tk_3 192 e 7 rfl rfl, uw_s tk_3 192 e 8 rfl rfl, uw_s tk_3 192 e 2 rfl rfl, uw_s tk_3 192 e 3 rfl rfl, uw_s tk_3 192 e 4 rfl rfl⟩
theorem pw_m_q0_125 : Cond.methodLink "OrphanTree" 125 (pr_I 65).1 ∈ ev_UW := wk_m qI_65 pt_w3_12.1
theorem pw_c_65 : ev_cw (pr_I 65) (pr_P 65).1 ∈ ev_UW := wk_c qI_65 pp_65 pt_w3_12.2.1
theorem pw_v_65 : Cond.instanceMethod (pr_I 65).1 ∈ ev_UW := wk_v qI_65 pt_w3_12.2.2.1
theorem pw_m_q0_287 : Cond.methodLink "OrphanTree" 287 (pr_I 274).1 ∈ ev_UW := wk_m qI_274 pt_w3_12.2.2.2.1
theorem pw_cl_q0_343 : Cond.classLink "OrphanTree" 343 "java/lang/IndexOutOfBoundsException" ∈ ev_UW := pt_w3_12.2.2.2.2.1
theorem pw_m_q15_15 : Cond.methodLink "OrphanTreeLaw" 15 (pr_I 7).1 ∈ ev_UW := wk_m qI_7 pt_w3_12.2.2.2.2.2.1
theorem pw_c_7 : ev_cw (pr_I 7) (pr_P 7).1 ∈ ev_UW := wk_c qI_7 pp_7 pt_w3_12.2.2.2.2.2.2.1
theorem pw_v_7 : Cond.instanceMethod (pr_I 7).1 ∈ ev_UW := wk_v qI_7 pt_w3_12.2.2.2.2.2.2.2.1
theorem pw_s_7 : Cond.selects (pr_I 7).1.cls (pr_I 7).1 (pr_I 7).1 ∈ ev_UW := wk_s qI_7 pt_w3_12.2.2.2.2.2.2.2.2.1
theorem pw_m_q15_196 : Cond.methodLink "OrphanTreeLaw" 196 (pr_I 306).1 ∈ ev_UW := wk_m qI_306 pt_w3_12.2.2.2.2.2.2.2.2.2.1
theorem pw_t_306 : Cond.static (pr_I 306).1 ∈ ev_UW := wk_t qI_306 pt_w3_12.2.2.2.2.2.2.2.2.2.2.1
theorem pw_c_306 : ev_cw (pr_I 306) (pr_P 306).1 ∈ ev_UW := wk_c qI_306 pp_306 pt_w3_12.2.2.2.2.2.2.2.2.2.2.2
theorem pw_s_65 : Cond.selects (pr_I 65).1.cls (pr_I 65).1 (pr_I 65).1 ∈ ev_UW := uw_m tk_0 16 rfl rfl
theorem pw_s_69 : Cond.selects (pr_I 69).1.cls (pr_I 69).1 (pr_I 69).1 ∈ ev_UW := uw_m tk_0 17 rfl rfl
theorem pw_s_71 : Cond.selects (pr_I 71).1.cls (pr_I 71).1 (pr_I 71).1 ∈ ev_UW := uw_m tk_0 26 rfl rfl
theorem pw_s_78 : Cond.selects (pr_I 78).1.cls (pr_I 78).1 (pr_I 78).1 ∈ ev_UW := uw_m tk_0 29 rfl rfl
theorem pw_s_79 : Cond.selects (pr_I 79).1.cls (pr_I 79).1 (pr_I 79).1 ∈ ev_UW := uw_m tk_0 30 rfl rfl
theorem pw_s_106 : Cond.selects (pr_I 106).1.cls (pr_I 106).1 (pr_I 106).1 ∈ ev_UW := uw_m tk_0 31 rfl rfl
theorem pw_s_231 : Cond.selects (pr_I 231).1.cls (pr_I 231).1 (pr_I 231).1 ∈ ev_UW := uw_m tk_0 28 rfl rfl
theorem pw_s_288 : Cond.selects (pr_I 288).1.cls (pr_I 288).1 (pr_I 288).1 ∈ ev_UW := uw_m tk_0 18 rfl rfl
theorem pw_s_289 : Cond.selects (pr_I 289).1.cls (pr_I 289).1 (pr_I 289).1 ∈ ev_UW := uw_m tk_0 19 rfl rfl
theorem pw_s_292 : Cond.selects (pr_I 292).1.cls (pr_I 292).1 (pr_I 292).1 ∈ ev_UW := uw_m tk_0 25 rfl rfl
theorem pw_s_290 : Cond.selects (pr_I 290).1.cls (pr_I 290).1 (pr_I 290).1 ∈ ev_UW := uw_m tk_0 20 rfl rfl
theorem pw_s_294 : Cond.selects (pr_I 294).1.cls (pr_I 294).1 (pr_I 294).1 ∈ ev_UW := uw_m tk_0 21 rfl rfl
theorem pw_s_295 : Cond.selects (pr_I 295).1.cls (pr_I 295).1 (pr_I 295).1 ∈ ev_UW := uw_m tk_0 22 rfl rfl
theorem pw_s_296 : Cond.selects (pr_I 296).1.cls (pr_I 296).1 (pr_I 296).1 ∈ ev_UW := uw_m tk_0 23 rfl rfl
theorem pw_s_297 : Cond.selects (pr_I 297).1.cls (pr_I 297).1 (pr_I 297).1 ∈ ev_UW := uw_m tk_0 24 rfl rfl
theorem pw_s_304 : Cond.selects (pr_I 304).1.cls (pr_I 304).1 (pr_I 304).1 ∈ ev_UW := uw_m tk_0 27 rfl rfl
theorem pt_w3_13 : (Cond.methodLink "OrphanTree" 134 pr_i68.1) ∈ ev_UW := by
  have e : (tables_1_3.drop 208).take 16 = [_, _, _, _, _, _, _, _, _, _, _, _, _, _, _, (Cond.methodLink "OrphanTree" 134 pr_i68.1)] := rfl
  exact uw_s tk_3 208 e 15 rfl rfl
theorem pw_m_q0_134 : Cond.methodLink "OrphanTree" 134 (pr_I 68).1 ∈ ev_UW := wk_m qI_68 pt_w3_13
theorem pt_w3_14 : (Cond.static pr_i68.1) ∈ ev_UW ∧ (ev_cw pr_i68 1) ∈ ev_UW ∧ (Cond.methodLink "OrphanTree" 147 pr_i277.1) ∈ ev_UW ∧ (ev_cw pr_i277 7) ∈ ev_UW ∧ (Cond.instanceMethod pr_i277.1) ∈ ev_UW ∧ (Cond.selects pr_i277.1.cls pr_i277.1 pr_i277.1) ∈ ev_UW ∧ (Cond.methodLink "OrphanTree" 174 pr_i248.1) ∈ ev_UW ∧ (ev_cw pr_i248 3) ∈ ev_UW ∧ (Cond.instanceMethod pr_i248.1) ∈ ev_UW ∧ (Cond.selects pr_i248.1.cls pr_i248.1 pr_i248.1) ∈ ev_UW ∧ (Cond.methodLink "OrphanTree$Proc" 62 pr_i246.1) ∈ ev_UW ∧ (Cond.methodLink "OrphanTree$Tree" 87 pr_i239.1) ∈ ev_UW ∧ (ev_cw pr_i239 2) ∈ ev_UW ∧ (Cond.instanceMethod pr_i239.1) ∈ ev_UW ∧ (Cond.selects pr_i239.1.cls pr_i239.1 pr_i239.1) ∈ ev_UW := by
  have e : (tables_1_3.drop 224).take 16 = [(Cond.static pr_i68.1), (ev_cw pr_i68 1), (Cond.methodLink "OrphanTree" 147 pr_i277.1), (Cond.instanceMethod pr_i277.1), (Cond.selects pr_i277.1.cls pr_i277.1 pr_i277.1), (ev_cw pr_i277 7), (Cond.methodLink "OrphanTree$Tree" 87 pr_i239.1), (Cond.instanceMethod pr_i239.1), (Cond.selects pr_i239.1.cls pr_i239.1 pr_i239.1), (ev_cw pr_i239 2), (Cond.methodLink "OrphanTree" 174 pr_i248.1), (Cond.instanceMethod pr_i248.1), (Cond.selects pr_i248.1.cls pr_i248.1 pr_i248.1), (ev_cw pr_i248 3), (Cond.methodLink "OrphanTree$Proc" 62 pr_i246.1), _] := rfl
  exact ⟨uw_s tk_3 224 e 0 rfl rfl, uw_s tk_3 224 e 1 rfl rfl, uw_s tk_3 224 e 2 rfl rfl, uw_s tk_3 224 e 5 rfl rfl, uw_s tk_3 224 e 3 rfl rfl, uw_s tk_3 224 e 4 rfl rfl, uw_s tk_3 224 e 10 rfl rfl, uw_s tk_3 224 e 13 rfl rfl, uw_s tk_3 224 e 11 rfl rfl, uw_s tk_3 224 e 12 rfl rfl, uw_s tk_3 224 e 14 rfl rfl, uw_s tk_3 224 e 6 rfl rfl, uw_s tk_3 224 e 9 rfl rfl, uw_s tk_3 224 e 7 rfl rfl, uw_s tk_3 224 e 8 rfl rfl⟩
theorem pw_t_68 : Cond.static (pr_I 68).1 ∈ ev_UW := wk_t qI_68 pt_w3_14.1
theorem pw_c_68 : ev_cw (pr_I 68) (pr_P 68).1 ∈ ev_UW := wk_c qI_68 pp_68 pt_w3_14.2.1
theorem pw_m_q0_147 : Cond.methodLink "OrphanTree" 147 (pr_I 277).1 ∈ ev_UW := wk_m qI_277 pt_w3_14.2.2.1
theorem pw_c_277 : ev_cw (pr_I 277) (pr_P 277).1 ∈ ev_UW := wk_c qI_277 pp_277 pt_w3_14.2.2.2.1
theorem pw_v_277 : Cond.instanceMethod (pr_I 277).1 ∈ ev_UW := wk_v qI_277 pt_w3_14.2.2.2.2.1
theorem pw_s_277 : Cond.selects (pr_I 277).1.cls (pr_I 277).1 (pr_I 277).1 ∈ ev_UW := wk_s qI_277 pt_w3_14.2.2.2.2.2.1
theorem pw_m_q0_174 : Cond.methodLink "OrphanTree" 174 (pr_I 248).1 ∈ ev_UW := wk_m qI_248 pt_w3_14.2.2.2.2.2.2.1
theorem pw_c_248 : ev_cw (pr_I 248) (pr_P 248).1 ∈ ev_UW := wk_c qI_248 pp_248 pt_w3_14.2.2.2.2.2.2.2.1
theorem pw_v_248 : Cond.instanceMethod (pr_I 248).1 ∈ ev_UW := wk_v qI_248 pt_w3_14.2.2.2.2.2.2.2.2.1
theorem pw_s_248 : Cond.selects (pr_I 248).1.cls (pr_I 248).1 (pr_I 248).1 ∈ ev_UW := wk_s qI_248 pt_w3_14.2.2.2.2.2.2.2.2.2.1
theorem pw_m_q8_62 : Cond.methodLink "OrphanTree$Proc" 62 (pr_I 246).1 ∈ ev_UW := wk_m qI_246 pt_w3_14.2.2.2.2.2.2.2.2.2.2.1
theorem pw_m_q1_87 : Cond.methodLink "OrphanTree$Tree" 87 (pr_I 239).1 ∈ ev_UW := wk_m qI_239 pt_w3_14.2.2.2.2.2.2.2.2.2.2.2.1
theorem pw_c_239 : ev_cw (pr_I 239) (pr_P 239).1 ∈ ev_UW := wk_c qI_239 pp_239 pt_w3_14.2.2.2.2.2.2.2.2.2.2.2.2.1
theorem pw_v_239 : Cond.instanceMethod (pr_I 239).1 ∈ ev_UW := wk_v qI_239 pt_w3_14.2.2.2.2.2.2.2.2.2.2.2.2.2.1
theorem pw_s_239 : Cond.selects (pr_I 239).1.cls (pr_I 239).1 (pr_I 239).1 ∈ ev_UW := wk_s qI_239 pt_w3_14.2.2.2.2.2.2.2.2.2.2.2.2.2.2
theorem pt_w3_4 : (Cond.methodLink "OrphanTree" 140 pr_i242.1) ∈ ev_UW ∧ (ev_cw pr_i36 6) ∈ ev_UW ∧ (Cond.selects pr_i36.1.cls pr_i36.1 pr_i36.1) ∈ ev_UW ∧ (Cond.methodLink "OrphanTreeLaw" 296 pr_i37.1) ∈ ev_UW ∧ (ev_cw pr_i37 6) ∈ ev_UW ∧ (Cond.instanceMethod pr_i37.1) ∈ ev_UW ∧ (Cond.selects pr_i37.1.cls pr_i37.1 pr_i37.1) ∈ ev_UW ∧ (Cond.methodLink "OrphanTreeLaw" 309 pr_i41.1) ∈ ev_UW ∧ (ev_cw pr_i41 7) ∈ ev_UW ∧ (Cond.instanceMethod pr_i41.1) ∈ ev_UW ∧ (Cond.selects pr_i41.1.cls pr_i41.1 pr_i41.1) ∈ ev_UW ∧ (Cond.methodLink "OrphanTreeLaw" 314 pr_i42.1) ∈ ev_UW ∧ (ev_cw pr_i42 1) ∈ ev_UW ∧ (Cond.instanceMethod pr_i42.1) ∈ ev_UW ∧ (Cond.selects pr_i42.1.cls pr_i42.1 pr_i42.1) ∈ ev_UW ∧ (Cond.methodLink "OrphanTreeLaw" 334 pr_i48.1) ∈ ev_UW := by
  have e : (tables_1_3.drop 64).take 16 = [(Cond.selects pr_i36.1.cls pr_i36.1 pr_i36.1), (ev_cw pr_i36 6), (Cond.methodLink "OrphanTree" 140 pr_i242.1), (Cond.methodLink "OrphanTreeLaw" 296 pr_i37.1), (Cond.instanceMethod pr_i37.1), (Cond.selects pr_i37.1.cls pr_i37.1 pr_i37.1), (ev_cw pr_i37 6), (Cond.methodLink "OrphanTreeLaw" 309 pr_i41.1), (Cond.instanceMethod pr_i41.1), (Cond.selects pr_i41.1.cls pr_i41.1 pr_i41.1), (ev_cw pr_i41 7), (Cond.methodLink "OrphanTreeLaw" 314 pr_i42.1), (Cond.instanceMethod pr_i42.1), (Cond.selects pr_i42.1.cls pr_i42.1 pr_i42.1), (ev_cw pr_i42 1), (Cond.methodLink "OrphanTreeLaw" 334 pr_i48.1)] := rfl
  exact ⟨uw_s tk_3 64 e 2 rfl rfl, uw_s tk_3 64 e 1 rfl rfl, uw_s tk_3 64 e 0 rfl rfl, uw_s tk_3 64 e 3 rfl rfl, uw_s tk_3 64 e 6 rfl rfl, uw_s tk_3 64 e 4 rfl rfl, uw_s tk_3 64 e 5 rfl rfl, uw_s tk_3 64 e 7 rfl rfl, uw_s tk_3 64 e 10 rfl rfl, uw_s tk_3 64 e 8 rfl rfl, uw_s tk_3 64 e 9 rfl rfl, uw_s tk_3 64 e 11 rfl rfl, uw_s tk_3 64 e 14 rfl rfl, uw_s tk_3 64 e 12 rfl rfl, uw_s tk_3 64 e 13 rfl rfl, uw_s tk_3 64 e 15 rfl rfl⟩
theorem pw_m_q0_140 : Cond.methodLink "OrphanTree" 140 (pr_I 242).1 ∈ ev_UW := wk_m qI_242 pt_w3_4.1
theorem pw_c_36 : ev_cw (pr_I 36) (pr_P 36).1 ∈ ev_UW := wk_c qI_36 pp_36 pt_w3_4.2.1
theorem pw_s_36 : Cond.selects (pr_I 36).1.cls (pr_I 36).1 (pr_I 36).1 ∈ ev_UW := wk_s qI_36 pt_w3_4.2.2.1
theorem pw_m_q15_296 : Cond.methodLink "OrphanTreeLaw" 296 (pr_I 37).1 ∈ ev_UW := wk_m qI_37 pt_w3_4.2.2.2.1
theorem pw_c_37 : ev_cw (pr_I 37) (pr_P 37).1 ∈ ev_UW := wk_c qI_37 pp_37 pt_w3_4.2.2.2.2.1
theorem pw_v_37 : Cond.instanceMethod (pr_I 37).1 ∈ ev_UW := wk_v qI_37 pt_w3_4.2.2.2.2.2.1
theorem pw_s_37 : Cond.selects (pr_I 37).1.cls (pr_I 37).1 (pr_I 37).1 ∈ ev_UW := wk_s qI_37 pt_w3_4.2.2.2.2.2.2.1
theorem pw_m_q15_309 : Cond.methodLink "OrphanTreeLaw" 309 (pr_I 41).1 ∈ ev_UW := wk_m qI_41 pt_w3_4.2.2.2.2.2.2.2.1
theorem pw_c_41 : ev_cw (pr_I 41) (pr_P 41).1 ∈ ev_UW := wk_c qI_41 pp_41 pt_w3_4.2.2.2.2.2.2.2.2.1
theorem pw_v_41 : Cond.instanceMethod (pr_I 41).1 ∈ ev_UW := wk_v qI_41 pt_w3_4.2.2.2.2.2.2.2.2.2.1
theorem pw_s_41 : Cond.selects (pr_I 41).1.cls (pr_I 41).1 (pr_I 41).1 ∈ ev_UW := wk_s qI_41 pt_w3_4.2.2.2.2.2.2.2.2.2.2.1
theorem pw_m_q15_314 : Cond.methodLink "OrphanTreeLaw" 314 (pr_I 42).1 ∈ ev_UW := wk_m qI_42 pt_w3_4.2.2.2.2.2.2.2.2.2.2.2.1
theorem pw_c_42 : ev_cw (pr_I 42) (pr_P 42).1 ∈ ev_UW := wk_c qI_42 pp_42 pt_w3_4.2.2.2.2.2.2.2.2.2.2.2.2.1
theorem pw_v_42 : Cond.instanceMethod (pr_I 42).1 ∈ ev_UW := wk_v qI_42 pt_w3_4.2.2.2.2.2.2.2.2.2.2.2.2.2.1
theorem pw_s_42 : Cond.selects (pr_I 42).1.cls (pr_I 42).1 (pr_I 42).1 ∈ ev_UW := wk_s qI_42 pt_w3_4.2.2.2.2.2.2.2.2.2.2.2.2.2.2.1
theorem pw_m_q15_334 : Cond.methodLink "OrphanTreeLaw" 334 (pr_I 48).1 ∈ ev_UW := wk_m qI_48 pt_w3_4.2.2.2.2.2.2.2.2.2.2.2.2.2.2.2
theorem pt_w2_13 : (ev_cw pr_i242 1) ∈ ev_UW ∧ (Cond.instanceMethod pr_i242.1) ∈ ev_UW ∧ (Cond.selects pr_i242.1.cls pr_i242.1 pr_i242.1) ∈ ev_UW ∧ (ev_cw pr_i286 6) ∈ ev_UW ∧ (Cond.instanceMethod pr_i286.1) ∈ ev_UW ∧ (Cond.selects pr_i286.1.cls pr_i286.1 pr_i286.1) ∈ ev_UW ∧ (ev_cw pr_i245 2) ∈ ev_UW ∧ (Cond.instanceMethod pr_i245.1) ∈ ev_UW ∧ (Cond.selects pr_i245.1.cls pr_i245.1 pr_i245.1) ∈ ev_UW ∧ (Cond.methodLink "OrphanTree$SetupReader" 87 pr_i257.1) ∈ ev_UW ∧ (ev_cw pr_i257 3) ∈ ev_UW ∧ (Cond.instanceMethod pr_i257.1) ∈ ev_UW ∧ (Cond.methodLink "OrphanTree$SetupReader" 162 pr_i286.1) ∈ ev_UW ∧ (Cond.methodLink "OrphanTree$Tree" 108 pr_i245.1) ∈ ev_UW := by
  have e : (tables_1_2.drop 208).take 16 = [(Cond.instanceMethod pr_i242.1), (Cond.selects pr_i242.1.cls pr_i242.1 pr_i242.1), (ev_cw pr_i242 1), (Cond.methodLink "OrphanTree$SetupReader" 162 pr_i286.1), (Cond.instanceMethod pr_i286.1), (Cond.selects pr_i286.1.cls pr_i286.1 pr_i286.1), (ev_cw pr_i286 6), (Cond.methodLink "OrphanTree$Tree" 108 pr_i245.1), (Cond.instanceMethod pr_i245.1), (Cond.selects pr_i245.1.cls pr_i245.1 pr_i245.1), (ev_cw pr_i245 2), _, (Cond.methodLink "OrphanTree$SetupReader" 87 pr_i257.1), _, (Cond.instanceMethod pr_i257.1), (ev_cw pr_i257 3)] := rfl
  exact ⟨uw_s tk_2 208 e 2 rfl rfl, uw_s tk_2 208 e 0 rfl rfl, uw_s tk_2 208 e 1 rfl rfl, uw_s tk_2 208 e 6 rfl rfl, uw_s tk_2 208 e 4 rfl rfl, uw_s tk_2 208 e 5 rfl rfl, uw_s tk_2 208 e 10 rfl rfl, uw_s tk_2 208 e 8 rfl rfl, uw_s tk_2 208 e 9 rfl rfl, uw_s tk_2 208 e 12 rfl rfl, uw_s tk_2 208 e 15 rfl rfl, uw_s tk_2 208 e 14 rfl rfl, uw_s tk_2 208 e 3 rfl rfl, uw_s tk_2 208 e 7 rfl rfl⟩
theorem pw_c_242 : ev_cw (pr_I 242) (pr_P 242).1 ∈ ev_UW := wk_c qI_242 pp_242 pt_w2_13.1
theorem pw_v_242 : Cond.instanceMethod (pr_I 242).1 ∈ ev_UW := wk_v qI_242 pt_w2_13.2.1
theorem pw_s_242 : Cond.selects (pr_I 242).1.cls (pr_I 242).1 (pr_I 242).1 ∈ ev_UW := wk_s qI_242 pt_w2_13.2.2.1
theorem pw_c_286 : ev_cw (pr_I 286) (pr_P 286).1 ∈ ev_UW := wk_c qI_286 pp_286 pt_w2_13.2.2.2.1
theorem pw_v_286 : Cond.instanceMethod (pr_I 286).1 ∈ ev_UW := wk_v qI_286 pt_w2_13.2.2.2.2.1
theorem pw_s_286 : Cond.selects (pr_I 286).1.cls (pr_I 286).1 (pr_I 286).1 ∈ ev_UW := wk_s qI_286 pt_w2_13.2.2.2.2.2.1
theorem pw_c_245 : ev_cw (pr_I 245) (pr_P 245).1 ∈ ev_UW := wk_c qI_245 pp_245 pt_w2_13.2.2.2.2.2.2.1
theorem pw_v_245 : Cond.instanceMethod (pr_I 245).1 ∈ ev_UW := wk_v qI_245 pt_w2_13.2.2.2.2.2.2.2.1
theorem pw_s_245 : Cond.selects (pr_I 245).1.cls (pr_I 245).1 (pr_I 245).1 ∈ ev_UW := wk_s qI_245 pt_w2_13.2.2.2.2.2.2.2.2.1
theorem pw_m_q3_87 : Cond.methodLink "OrphanTree$SetupReader" 87 (pr_I 257).1 ∈ ev_UW := wk_m qI_257 pt_w2_13.2.2.2.2.2.2.2.2.2.1
theorem pw_c_257 : ev_cw (pr_I 257) (pr_P 257).1 ∈ ev_UW := wk_c qI_257 pp_257 pt_w2_13.2.2.2.2.2.2.2.2.2.2.1
theorem pw_v_257 : Cond.instanceMethod (pr_I 257).1 ∈ ev_UW := wk_v qI_257 pt_w2_13.2.2.2.2.2.2.2.2.2.2.2.1
theorem pw_m_q3_162 : Cond.methodLink "OrphanTree$SetupReader" 162 (pr_I 286).1 ∈ ev_UW := wk_m qI_286 pt_w2_13.2.2.2.2.2.2.2.2.2.2.2.2.1
theorem pw_m_q1_108 : Cond.methodLink "OrphanTree$Tree" 108 (pr_I 245).1 ∈ ev_UW := wk_m qI_245 pt_w2_13.2.2.2.2.2.2.2.2.2.2.2.2.2
theorem pt_w4_0 : (Cond.methodLink "OrphanTree" 179 pr_i66.1) ∈ ev_UW ∧ (Cond.static pr_i66.1) ∈ ev_UW ∧ (ev_cw pr_i66 2) ∈ ev_UW ∧ (Cond.methodLink "OrphanTree" 183 pr_i283.1) ∈ ev_UW ∧ (ev_cw pr_i283 3) ∈ ev_UW ∧ (Cond.instanceMethod pr_i283.1) ∈ ev_UW ∧ (Cond.selects pr_i283.1.cls pr_i283.1 pr_i283.1) ∈ ev_UW ∧ (Cond.methodLink "OrphanTreeLaw" 21 pr_i8.1) ∈ ev_UW ∧ (ev_cw pr_i8 2) ∈ ev_UW ∧ (Cond.instanceMethod pr_i8.1) ∈ ev_UW ∧ (Cond.selects pr_i8.1.cls pr_i8.1 pr_i8.1) ∈ ev_UW ∧ (Cond.methodLink "OrphanTreeLaw" 200 pr_i307.1) ∈ ev_UW ∧ (Cond.static pr_i307.1) ∈ ev_UW ∧ (ev_cw pr_i307 4) ∈ ev_UW ∧ (Cond.methodLink "OrphanTreeLaw" 207 pr_i308.1) ∈ ev_UW := by
  have e : (tables_1_4.drop 0).take 16 = [(Cond.methodLink "OrphanTreeLaw" 200 pr_i307.1), (Cond.static pr_i307.1), (ev_cw pr_i307 4), (Cond.methodLink "OrphanTreeLaw" 21 pr_i8.1), (Cond.instanceMethod pr_i8.1), (Cond.selects pr_i8.1.cls pr_i8.1 pr_i8.1), (ev_cw pr_i8 2), (Cond.methodLink "OrphanTree" 179 pr_i66.1), (Cond.static pr_i66.1), (ev_cw pr_i66 2), _, (Cond.methodLink "OrphanTree" 183 pr_i283.1), (Cond.instanceMethod pr_i283.1), (Cond.selects pr_i283.1.cls pr_i283.1 pr_i283.1), (ev_cw pr_i283 3), (Cond.methodLink "OrphanTreeLaw" 207 pr_i308.1)] := rfl
  exact ⟨uw_s tk_4 0 e 7 rfl rfl, uw_s tk_4 0 e 8 rfl rfl, uw_s tk_4 0 e 9 rfl rfl, uw_s tk_4 0 e 11 rfl rfl, uw_s tk_4 0 e 14 rfl rfl, uw_s tk_4 0 e 12 rfl rfl, uw_s tk_4 0 e 13 rfl rfl, uw_s tk_4 0 e 3 rfl rfl, uw_s tk_4 0 e 6 rfl rfl, uw_s tk_4 0 e 4 rfl rfl, uw_s tk_4 0 e 5 rfl rfl, uw_s tk_4 0 e 0 rfl rfl, uw_s tk_4 0 e 1 rfl rfl, uw_s tk_4 0 e 2 rfl rfl, uw_s tk_4 0 e 15 rfl rfl⟩
theorem pw_m_q0_179 : Cond.methodLink "OrphanTree" 179 (pr_I 66).1 ∈ ev_UW := wk_m qI_66 pt_w4_0.1
theorem pw_t_66 : Cond.static (pr_I 66).1 ∈ ev_UW := wk_t qI_66 pt_w4_0.2.1
theorem pw_c_66 : ev_cw (pr_I 66) (pr_P 66).1 ∈ ev_UW := wk_c qI_66 pp_66 pt_w4_0.2.2.1
theorem pw_m_q0_183 : Cond.methodLink "OrphanTree" 183 (pr_I 283).1 ∈ ev_UW := wk_m qI_283 pt_w4_0.2.2.2.1
theorem pw_c_283 : ev_cw (pr_I 283) (pr_P 283).1 ∈ ev_UW := wk_c qI_283 pp_283 pt_w4_0.2.2.2.2.1
theorem pw_v_283 : Cond.instanceMethod (pr_I 283).1 ∈ ev_UW := wk_v qI_283 pt_w4_0.2.2.2.2.2.1
theorem pw_s_283 : Cond.selects (pr_I 283).1.cls (pr_I 283).1 (pr_I 283).1 ∈ ev_UW := wk_s qI_283 pt_w4_0.2.2.2.2.2.2.1
theorem pw_m_q15_21 : Cond.methodLink "OrphanTreeLaw" 21 (pr_I 8).1 ∈ ev_UW := wk_m qI_8 pt_w4_0.2.2.2.2.2.2.2.1
theorem pw_c_8 : ev_cw (pr_I 8) (pr_P 8).1 ∈ ev_UW := wk_c qI_8 pp_8 pt_w4_0.2.2.2.2.2.2.2.2.1
theorem pw_v_8 : Cond.instanceMethod (pr_I 8).1 ∈ ev_UW := wk_v qI_8 pt_w4_0.2.2.2.2.2.2.2.2.2.1
theorem pw_s_8 : Cond.selects (pr_I 8).1.cls (pr_I 8).1 (pr_I 8).1 ∈ ev_UW := wk_s qI_8 pt_w4_0.2.2.2.2.2.2.2.2.2.2.1
theorem pw_m_q15_200 : Cond.methodLink "OrphanTreeLaw" 200 (pr_I 307).1 ∈ ev_UW := wk_m qI_307 pt_w4_0.2.2.2.2.2.2.2.2.2.2.2.1
theorem pw_t_307 : Cond.static (pr_I 307).1 ∈ ev_UW := wk_t qI_307 pt_w4_0.2.2.2.2.2.2.2.2.2.2.2.2.1
theorem pw_c_307 : ev_cw (pr_I 307) (pr_P 307).1 ∈ ev_UW := wk_c qI_307 pp_307 pt_w4_0.2.2.2.2.2.2.2.2.2.2.2.2.2.1
theorem pw_m_q15_207 : Cond.methodLink "OrphanTreeLaw" 207 (pr_I 308).1 ∈ ev_UW := wk_m qI_308 pt_w4_0.2.2.2.2.2.2.2.2.2.2.2.2.2.2
theorem pt_w4_1 : (Cond.methodLink "OrphanTree" 193 pr_i67.1) ∈ ev_UW ∧ (Cond.static pr_i67.1) ∈ ev_UW ∧ (ev_cw pr_i67 1) ∈ ev_UW ∧ (Cond.classLink "OrphanTree" 350 "java/lang/IllegalStateException") ∈ ev_UW ∧ (Cond.methodLink "OrphanTreeLaw" 24 pr_i10.1) ∈ ev_UW ∧ (ev_cw pr_i10 3) ∈ ev_UW ∧ (Cond.instanceMethod pr_i10.1) ∈ ev_UW ∧ (Cond.selects pr_i10.1.cls pr_i10.1 pr_i10.1) ∈ ev_UW ∧ (Cond.static pr_i308.1) ∈ ev_UW ∧ (ev_cw pr_i308 4) ∈ ev_UW := by
  have e : (tables_1_4.drop 16).take 16 = [(Cond.static pr_i308.1), (ev_cw pr_i308 4), _, (Cond.methodLink "OrphanTreeLaw" 24 pr_i10.1), (Cond.instanceMethod pr_i10.1), (Cond.selects pr_i10.1.cls pr_i10.1 pr_i10.1), (ev_cw pr_i10 3), (Cond.methodLink "OrphanTree" 193 pr_i67.1), (Cond.static pr_i67.1), (ev_cw pr_i67 1), (Cond.classLink "OrphanTree" 350 "java/lang/IllegalStateException"), _, _, _, _, _] := rfl
  exact ⟨uw_s tk_4 16 e 7 rfl rfl, uw_s tk_4 16 e 8 rfl rfl, uw_s tk_4 16 e 9 rfl rfl, uw_s tk_4 16 e 10 rfl rfl, uw_s tk_4 16 e 3 rfl rfl, uw_s tk_4 16 e 6 rfl rfl, uw_s tk_4 16 e 4 rfl rfl, uw_s tk_4 16 e 5 rfl rfl, uw_s tk_4 16 e 0 rfl rfl, uw_s tk_4 16 e 1 rfl rfl⟩
theorem pw_m_q0_193 : Cond.methodLink "OrphanTree" 193 (pr_I 67).1 ∈ ev_UW := wk_m qI_67 pt_w4_1.1
theorem pw_t_67 : Cond.static (pr_I 67).1 ∈ ev_UW := wk_t qI_67 pt_w4_1.2.1
theorem pw_c_67 : ev_cw (pr_I 67) (pr_P 67).1 ∈ ev_UW := wk_c qI_67 pp_67 pt_w4_1.2.2.1
theorem pw_cl_q0_350 : Cond.classLink "OrphanTree" 350 "java/lang/IllegalStateException" ∈ ev_UW := pt_w4_1.2.2.2.1
theorem pw_m_q15_24 : Cond.methodLink "OrphanTreeLaw" 24 (pr_I 10).1 ∈ ev_UW := wk_m qI_10 pt_w4_1.2.2.2.2.1
theorem pw_c_10 : ev_cw (pr_I 10) (pr_P 10).1 ∈ ev_UW := wk_c qI_10 pp_10 pt_w4_1.2.2.2.2.2.1
theorem pw_v_10 : Cond.instanceMethod (pr_I 10).1 ∈ ev_UW := wk_v qI_10 pt_w4_1.2.2.2.2.2.2.1
theorem pw_s_10 : Cond.selects (pr_I 10).1.cls (pr_I 10).1 (pr_I 10).1 ∈ ev_UW := wk_s qI_10 pt_w4_1.2.2.2.2.2.2.2.1
theorem pw_t_308 : Cond.static (pr_I 308).1 ∈ ev_UW := wk_t qI_308 pt_w4_1.2.2.2.2.2.2.2.2.1
theorem pw_c_308 : ev_cw (pr_I 308) (pr_P 308).1 ∈ ev_UW := wk_c qI_308 pp_308 pt_w4_1.2.2.2.2.2.2.2.2.2
theorem pt_w3_3 : (Cond.methodLink "OrphanTree" 197 pr_i243.1) ∈ ev_UW ∧ (ev_cw pr_i243 3) ∈ ev_UW ∧ (Cond.instanceMethod pr_i243.1) ∈ ev_UW ∧ (Cond.selects pr_i243.1.cls pr_i243.1 pr_i243.1) ∈ ev_UW ∧ (Cond.methodLink "OrphanTree" 228 pr_i278.1) ∈ ev_UW ∧ (ev_cw pr_i278 6) ∈ ev_UW ∧ (Cond.instanceMethod pr_i278.1) ∈ ev_UW ∧ (Cond.selects pr_i278.1.cls pr_i278.1 pr_i278.1) ∈ ev_UW ∧ (Cond.methodLink "OrphanTree$Tree" 90 pr_i235.1) ∈ ev_UW ∧ (Cond.methodLink "OrphanTree$Tree" 94 pr_i243.1) ∈ ev_UW ∧ (Cond.methodLink "OrphanTreeLaw" 226 pr_i16.1) ∈ ev_UW ∧ (ev_cw pr_i16 1) ∈ ev_UW ∧ (Cond.instanceMethod pr_i16.1) ∈ ev_UW ∧ (Cond.selects pr_i16.1.cls pr_i16.1 pr_i16.1) ∈ ev_UW ∧ (Cond.methodLink "OrphanTreeLaw" 292 pr_i36.1) ∈ ev_UW ∧ (Cond.instanceMethod pr_i36.1) ∈ ev_UW := by
  have e : (tables_1_3.drop 48).take 16 = [(Cond.methodLink "OrphanTree" 197 pr_i243.1), (Cond.instanceMethod pr_i243.1), (Cond.selects pr_i243.1.cls pr_i243.1 pr_i243.1), (ev_cw pr_i243 3), (Cond.methodLink "OrphanTreeLaw" 226 pr_i16.1), (Cond.instanceMethod pr_i16.1), (Cond.selects pr_i16.1.cls pr_i16.1 pr_i16.1), (ev_cw pr_i16 1), (Cond.methodLink "OrphanTree" 228 pr_i278.1), (Cond.instanceMethod pr_i278.1), (Cond.selects pr_i278.1.cls pr_i278.1 pr_i278.1), (ev_cw pr_i278 6), (Cond.methodLink "OrphanTree$Tree" 90 pr_i235.1), (Cond.methodLink "OrphanTree$Tree" 94 pr_i243.1), (Cond.methodLink "OrphanTreeLaw" 292 pr_i36.1), (Cond.instanceMethod pr_i36.1)] := rfl
  exact ⟨uw_s tk_3 48 e 0 rfl rfl, uw_s tk_3 48 e 3 rfl rfl, uw_s tk_3 48 e 1 rfl rfl, uw_s tk_3 48 e 2 rfl rfl, uw_s tk_3 48 e 8 rfl rfl, uw_s tk_3 48 e 11 rfl rfl, uw_s tk_3 48 e 9 rfl rfl, uw_s tk_3 48 e 10 rfl rfl, uw_s tk_3 48 e 12 rfl rfl, uw_s tk_3 48 e 13 rfl rfl, uw_s tk_3 48 e 4 rfl rfl, uw_s tk_3 48 e 7 rfl rfl, uw_s tk_3 48 e 5 rfl rfl, uw_s tk_3 48 e 6 rfl rfl, uw_s tk_3 48 e 14 rfl rfl, uw_s tk_3 48 e 15 rfl rfl⟩
theorem pw_m_q0_197 : Cond.methodLink "OrphanTree" 197 (pr_I 243).1 ∈ ev_UW := wk_m qI_243 pt_w3_3.1
theorem pw_c_243 : ev_cw (pr_I 243) (pr_P 243).1 ∈ ev_UW := wk_c qI_243 pp_243 pt_w3_3.2.1
theorem pw_v_243 : Cond.instanceMethod (pr_I 243).1 ∈ ev_UW := wk_v qI_243 pt_w3_3.2.2.1
theorem pw_s_243 : Cond.selects (pr_I 243).1.cls (pr_I 243).1 (pr_I 243).1 ∈ ev_UW := wk_s qI_243 pt_w3_3.2.2.2.1
theorem pw_m_q0_228 : Cond.methodLink "OrphanTree" 228 (pr_I 278).1 ∈ ev_UW := wk_m qI_278 pt_w3_3.2.2.2.2.1
theorem pw_c_278 : ev_cw (pr_I 278) (pr_P 278).1 ∈ ev_UW := wk_c qI_278 pp_278 pt_w3_3.2.2.2.2.2.1
theorem pw_v_278 : Cond.instanceMethod (pr_I 278).1 ∈ ev_UW := wk_v qI_278 pt_w3_3.2.2.2.2.2.2.1
theorem pw_s_278 : Cond.selects (pr_I 278).1.cls (pr_I 278).1 (pr_I 278).1 ∈ ev_UW := wk_s qI_278 pt_w3_3.2.2.2.2.2.2.2.1
theorem pw_m_q1_90 : Cond.methodLink "OrphanTree$Tree" 90 (pr_I 235).1 ∈ ev_UW := wk_m qI_235 pt_w3_3.2.2.2.2.2.2.2.2.1
theorem pw_m_q1_94 : Cond.methodLink "OrphanTree$Tree" 94 (pr_I 243).1 ∈ ev_UW := wk_m qI_243 pt_w3_3.2.2.2.2.2.2.2.2.2.1
theorem pw_m_q15_226 : Cond.methodLink "OrphanTreeLaw" 226 (pr_I 16).1 ∈ ev_UW := wk_m qI_16 pt_w3_3.2.2.2.2.2.2.2.2.2.2.1
theorem pw_c_16 : ev_cw (pr_I 16) (pr_P 16).1 ∈ ev_UW := wk_c qI_16 pp_16 pt_w3_3.2.2.2.2.2.2.2.2.2.2.2.1
theorem pw_v_16 : Cond.instanceMethod (pr_I 16).1 ∈ ev_UW := wk_v qI_16 pt_w3_3.2.2.2.2.2.2.2.2.2.2.2.2.1
theorem pw_s_16 : Cond.selects (pr_I 16).1.cls (pr_I 16).1 (pr_I 16).1 ∈ ev_UW := wk_s qI_16 pt_w3_3.2.2.2.2.2.2.2.2.2.2.2.2.2.1
theorem pw_m_q15_292 : Cond.methodLink "OrphanTreeLaw" 292 (pr_I 36).1 ∈ ev_UW := wk_m qI_36 pt_w3_3.2.2.2.2.2.2.2.2.2.2.2.2.2.2.1
theorem pw_v_36 : Cond.instanceMethod (pr_I 36).1 ∈ ev_UW := wk_v qI_36 pt_w3_3.2.2.2.2.2.2.2.2.2.2.2.2.2.2.2
theorem pt_w4_3 : (Cond.methodLink "OrphanTree" 200 pr_i244.1) ∈ ev_UW ∧ (ev_cw pr_i244 3) ∈ ev_UW ∧ (Cond.instanceMethod pr_i244.1) ∈ ev_UW ∧ (Cond.selects pr_i244.1.cls pr_i244.1 pr_i244.1) ∈ ev_UW ∧ (Cond.methodLink "OrphanTree" 204 pr_i279.1) ∈ ev_UW ∧ (ev_cw pr_i279 4) ∈ ev_UW ∧ (Cond.instanceMethod pr_i279.1) ∈ ev_UW ∧ (Cond.selects pr_i279.1.cls pr_i279.1 pr_i279.1) ∈ ev_UW ∧ (ev_cw pr_i11 5) ∈ ev_UW ∧ (Cond.methodLink "OrphanTreeLaw" 33 pr_i12.1) ∈ ev_UW ∧ (ev_cw pr_i12 5) ∈ ev_UW ∧ (Cond.instanceMethod pr_i12.1) ∈ ev_UW ∧ (Cond.selects pr_i12.1.cls pr_i12.1 pr_i12.1) ∈ ev_UW ∧ (Cond.methodLink "OrphanTreeLaw" 213 pr_i310.1) ∈ ev_UW ∧ (Cond.static pr_i310.1) ∈ ev_UW ∧ (ev_cw pr_i310 5) ∈ ev_UW := by
  have e : (tables_1_4.drop 48).take 16 = [(ev_cw pr_i11 5), (Cond.methodLink "OrphanTree" 200 pr_i244.1), (Cond.instanceMethod pr_i244.1), (Cond.selects pr_i244.1.cls pr_i244.1 pr_i244.1), (ev_cw pr_i244 3), (Cond.methodLink "OrphanTreeLaw" 213 pr_i310.1), (Cond.static pr_i310.1), (ev_cw pr_i310 5), (Cond.methodLink "OrphanTreeLaw" 33 pr_i12.1), (Cond.instanceMethod pr_i12.1), (Cond.selects pr_i12.1.cls pr_i12.1 pr_i12.1), (ev_cw pr_i12 5), (Cond.methodLink "OrphanTree" 204 pr_i279.1), (Cond.instanceMethod pr_i279.1), (Cond.selects pr_i279.1.cls pr_i279.1 pr_i279.1), (ev_cw pr_i279 4)] := rfl
  exact ⟨uw_s tk_4 48 e 1 rfl rfl, uw_s tk_4 48 e 4 rfl rfl, uw_s tk_4 48 e 2 rfl rfl, uw_s tk_4 48 e 3 rfl rfl, uw_s tk_4 48 e 12 rfl rfl, uw_s tk_4 48 e 15 rfl rfl, uw_s tk_4 48 e 13 rfl rfl, uw_s tk_4 48 e 14 rfl rfl, uw_s tk_4 48 e 0 rfl rfl, uw_s tk_4 48 e 8 rfl rfl, uw_s tk_4 48 e 11 rfl rfl, uw_s tk_4 48 e 9 rfl rfl, uw_s tk_4 48 e 10 rfl rfl, uw_s tk_4 48 e 5 rfl rfl, uw_s tk_4 48 e 6 rfl rfl, uw_s tk_4 48 e 7 rfl rfl⟩
theorem pw_m_q0_200 : Cond.methodLink "OrphanTree" 200 (pr_I 244).1 ∈ ev_UW := wk_m qI_244 pt_w4_3.1
theorem pw_c_244 : ev_cw (pr_I 244) (pr_P 244).1 ∈ ev_UW := wk_c qI_244 pp_244 pt_w4_3.2.1
theorem pw_v_244 : Cond.instanceMethod (pr_I 244).1 ∈ ev_UW := wk_v qI_244 pt_w4_3.2.2.1
theorem pw_s_244 : Cond.selects (pr_I 244).1.cls (pr_I 244).1 (pr_I 244).1 ∈ ev_UW := wk_s qI_244 pt_w4_3.2.2.2.1
theorem pw_m_q0_204 : Cond.methodLink "OrphanTree" 204 (pr_I 279).1 ∈ ev_UW := wk_m qI_279 pt_w4_3.2.2.2.2.1
theorem pw_c_279 : ev_cw (pr_I 279) (pr_P 279).1 ∈ ev_UW := wk_c qI_279 pp_279 pt_w4_3.2.2.2.2.2.1
theorem pw_v_279 : Cond.instanceMethod (pr_I 279).1 ∈ ev_UW := wk_v qI_279 pt_w4_3.2.2.2.2.2.2.1
theorem pw_s_279 : Cond.selects (pr_I 279).1.cls (pr_I 279).1 (pr_I 279).1 ∈ ev_UW := wk_s qI_279 pt_w4_3.2.2.2.2.2.2.2.1
theorem pw_c_11 : ev_cw (pr_I 11) (pr_P 11).1 ∈ ev_UW := wk_c qI_11 pp_11 pt_w4_3.2.2.2.2.2.2.2.2.1
theorem pw_m_q15_33 : Cond.methodLink "OrphanTreeLaw" 33 (pr_I 12).1 ∈ ev_UW := wk_m qI_12 pt_w4_3.2.2.2.2.2.2.2.2.2.1
theorem pw_c_12 : ev_cw (pr_I 12) (pr_P 12).1 ∈ ev_UW := wk_c qI_12 pp_12 pt_w4_3.2.2.2.2.2.2.2.2.2.2.1
theorem pw_v_12 : Cond.instanceMethod (pr_I 12).1 ∈ ev_UW := wk_v qI_12 pt_w4_3.2.2.2.2.2.2.2.2.2.2.2.1
theorem pw_s_12 : Cond.selects (pr_I 12).1.cls (pr_I 12).1 (pr_I 12).1 ∈ ev_UW := wk_s qI_12 pt_w4_3.2.2.2.2.2.2.2.2.2.2.2.2.1
theorem pw_m_q15_213 : Cond.methodLink "OrphanTreeLaw" 213 (pr_I 310).1 ∈ ev_UW := wk_m qI_310 pt_w4_3.2.2.2.2.2.2.2.2.2.2.2.2.2.1
theorem pw_t_310 : Cond.static (pr_I 310).1 ∈ ev_UW := wk_t qI_310 pt_w4_3.2.2.2.2.2.2.2.2.2.2.2.2.2.2.1
theorem pw_c_310 : ev_cw (pr_I 310) (pr_P 310).1 ∈ ev_UW := wk_c qI_310 pp_310 pt_w4_3.2.2.2.2.2.2.2.2.2.2.2.2.2.2.2
theorem pt_w4_4 : (Cond.methodLink "OrphanTree" 208 pr_i276.1) ∈ ev_UW ∧ (ev_cw pr_i276 8) ∈ ev_UW ∧ (Cond.instanceMethod pr_i276.1) ∈ ev_UW ∧ (Cond.selects pr_i276.1.cls pr_i276.1 pr_i276.1) ∈ ev_UW ∧ (Cond.methodLink "OrphanTree$Tree" 83 pr_i244.1) ∈ ev_UW ∧ (Cond.methodLink "OrphanTreeLaw" 36 pr_i13.1) ∈ ev_UW ∧ (ev_cw pr_i13 2) ∈ ev_UW ∧ (Cond.instanceMethod pr_i13.1) ∈ ev_UW ∧ (Cond.selects pr_i13.1.cls pr_i13.1 pr_i13.1) ∈ ev_UW ∧ (Cond.methodLink "OrphanTreeLaw" 216 pr_i311.1) ∈ ev_UW ∧ (Cond.static pr_i311.1) ∈ ev_UW ∧ (ev_cw pr_i311 4) ∈ ev_UW ∧ (Cond.methodLink "OrphanTreeLaw" 219 pr_i312.1) ∈ ev_UW ∧ (Cond.static pr_i312.1) ∈ ev_UW ∧ (ev_cw pr_i312 4) ∈ ev_UW := by
  have e : (tables_1_4.drop 64).take 16 = [(Cond.methodLink "OrphanTree$Tree" 83 pr_i244.1), (Cond.methodLink "OrphanTreeLaw" 216 pr_i311.1), (Cond.static pr_i311.1), (ev_cw pr_i311 4), (Cond.methodLink "OrphanTreeLaw" 36 pr_i13.1), (Cond.instanceMethod pr_i13.1), (Cond.selects pr_i13.1.cls pr_i13.1 pr_i13.1), (ev_cw pr_i13 2), (Cond.methodLink "OrphanTree" 208 pr_i276.1), (Cond.instanceMethod pr_i276.1), (Cond.selects pr_i276.1.cls pr_i276.1 pr_i276.1), (ev_cw pr_i276 8), (Cond.methodLink "OrphanTreeLaw" 219 pr_i312.1), (Cond.static pr_i312.1), (ev_cw pr_i312 4), _] := rfl
  exact ⟨uw_s tk_4 64 e 8 rfl rfl, uw_s tk_4 64 e 11 rfl rfl, uw_s tk_4 64 e 9 rfl rfl, uw_s tk_4 64 e 10 rfl rfl, uw_s tk_4 64 e 0 rfl rfl, uw_s tk_4 64 e 4 rfl rfl, uw_s tk_4 64 e 7 rfl rfl, uw_s tk_4 64 e 5 rfl rfl, uw_s tk_4 64 e 6 rfl rfl, uw_s tk_4 64 e 1 rfl rfl, uw_s tk_4 64 e 2 rfl rfl, uw_s tk_4 64 e 3 rfl rfl, uw_s tk_4 64 e 12 rfl rfl, uw_s tk_4 64 e 13 rfl rfl, uw_s tk_4 64 e 14 rfl rfl⟩
theorem pw_m_q0_208 : Cond.methodLink "OrphanTree" 208 (pr_I 276).1 ∈ ev_UW := wk_m qI_276 pt_w4_4.1
theorem pw_c_276 : ev_cw (pr_I 276) (pr_P 276).1 ∈ ev_UW := wk_c qI_276 pp_276 pt_w4_4.2.1
theorem pw_v_276 : Cond.instanceMethod (pr_I 276).1 ∈ ev_UW := wk_v qI_276 pt_w4_4.2.2.1
theorem pw_s_276 : Cond.selects (pr_I 276).1.cls (pr_I 276).1 (pr_I 276).1 ∈ ev_UW := wk_s qI_276 pt_w4_4.2.2.2.1
theorem pw_m_q1_83 : Cond.methodLink "OrphanTree$Tree" 83 (pr_I 244).1 ∈ ev_UW := wk_m qI_244 pt_w4_4.2.2.2.2.1
theorem pw_m_q15_36 : Cond.methodLink "OrphanTreeLaw" 36 (pr_I 13).1 ∈ ev_UW := wk_m qI_13 pt_w4_4.2.2.2.2.2.1
theorem pw_c_13 : ev_cw (pr_I 13) (pr_P 13).1 ∈ ev_UW := wk_c qI_13 pp_13 pt_w4_4.2.2.2.2.2.2.1
theorem pw_v_13 : Cond.instanceMethod (pr_I 13).1 ∈ ev_UW := wk_v qI_13 pt_w4_4.2.2.2.2.2.2.2.1
theorem pw_s_13 : Cond.selects (pr_I 13).1.cls (pr_I 13).1 (pr_I 13).1 ∈ ev_UW := wk_s qI_13 pt_w4_4.2.2.2.2.2.2.2.2.1
theorem pw_m_q15_216 : Cond.methodLink "OrphanTreeLaw" 216 (pr_I 311).1 ∈ ev_UW := wk_m qI_311 pt_w4_4.2.2.2.2.2.2.2.2.2.1
theorem pw_t_311 : Cond.static (pr_I 311).1 ∈ ev_UW := wk_t qI_311 pt_w4_4.2.2.2.2.2.2.2.2.2.2.1
theorem pw_c_311 : ev_cw (pr_I 311) (pr_P 311).1 ∈ ev_UW := wk_c qI_311 pp_311 pt_w4_4.2.2.2.2.2.2.2.2.2.2.2.1
theorem pw_m_q15_219 : Cond.methodLink "OrphanTreeLaw" 219 (pr_I 312).1 ∈ ev_UW := wk_m qI_312 pt_w4_4.2.2.2.2.2.2.2.2.2.2.2.2.1
theorem pw_t_312 : Cond.static (pr_I 312).1 ∈ ev_UW := wk_t qI_312 pt_w4_4.2.2.2.2.2.2.2.2.2.2.2.2.2.1
theorem pw_c_312 : ev_cw (pr_I 312) (pr_P 312).1 ∈ ev_UW := wk_c qI_312 pp_312 pt_w4_4.2.2.2.2.2.2.2.2.2.2.2.2.2.2
theorem pt_w4_5 : (Cond.methodLink "OrphanTree" 212 pr_i282.1) ∈ ev_UW ∧ (ev_cw pr_i282 4) ∈ ev_UW ∧ (Cond.instanceMethod pr_i282.1) ∈ ev_UW ∧ (Cond.selects pr_i282.1.cls pr_i282.1 pr_i282.1) ∈ ev_UW ∧ (ev_cw pr_i238 2) ∈ ev_UW ∧ (Cond.instanceMethod pr_i238.1) ∈ ev_UW ∧ (Cond.selects pr_i238.1.cls pr_i238.1 pr_i238.1) ∈ ev_UW ∧ (Cond.methodLink "OrphanTree$Tree" 98 pr_i238.1) ∈ ev_UW ∧ (Cond.methodLink "OrphanTree$Tree" 104 pr_i280.1) ∈ ev_UW ∧ (ev_cw pr_i280 7) ∈ ev_UW ∧ (Cond.instanceMethod pr_i280.1) ∈ ev_UW ∧ (Cond.selects pr_i280.1.cls pr_i280.1 pr_i280.1) ∈ ev_UW ∧ (Cond.methodLink "OrphanTreeLaw" 39 pr_i14.1) ∈ ev_UW ∧ (ev_cw pr_i14 4) ∈ ev_UW ∧ (Cond.instanceMethod pr_i14.1) ∈ ev_UW ∧ (Cond.selects pr_i14.1.cls pr_i14.1 pr_i14.1) ∈ ev_UW := by
  have e : (tables_1_4.drop 80).take 16 = [(Cond.methodLink "OrphanTreeLaw" 39 pr_i14.1), (Cond.instanceMethod pr_i14.1), (Cond.selects pr_i14.1.cls pr_i14.1 pr_i14.1), (ev_cw pr_i14 4), (Cond.methodLink "OrphanTree" 212 pr_i282.1), (Cond.instanceMethod pr_i282.1), (Cond.selects pr_i282.1.cls pr_i282.1 pr_i282.1), (ev_cw pr_i282 4), (Cond.methodLink "OrphanTree$Tree" 104 pr_i280.1), (Cond.instanceMethod pr_i280.1), (Cond.selects pr_i280.1.cls pr_i280.1 pr_i280.1), (ev_cw pr_i280 7), (Cond.methodLink "OrphanTree$Tree" 98 pr_i238.1), (Cond.instanceMethod pr_i238.1), (Cond.selects pr_i238.1.cls pr_i238.1 pr_i238.1), (ev_cw pr_i238 2)] := rfl
  exact ⟨uw_s tk_4 80 e 4 rfl rfl, uw_s tk_4 80 e 7 rfl rfl, uw_s tk_4 80 e 5 rfl rfl, uw_s tk_4 80 e 6 rfl rfl, uw_s tk_4 80 e 15 rfl rfl, uw_s tk_4 80 e 13 rfl rfl, uw_s tk_4 80 e 14 rfl rfl, uw_s tk_4 80 e 12 rfl rfl, uw_s tk_4 80 e 8 rfl rfl, uw_s tk_4 80 e 11 rfl rfl, uw_s tk_4 80 e 9 rfl rfl, uw_s tk_4 80 e 10 rfl rfl, uw_s tk_4 80 e 0 rfl rfl, uw_s tk_4 80 e 3 rfl rfl, uw_s tk_4 80 e 1 rfl rfl, uw_s tk_4 80 e 2 rfl rfl⟩
theorem pw_m_q0_212 : Cond.methodLink "OrphanTree" 212 (pr_I 282).1 ∈ ev_UW := wk_m qI_282 pt_w4_5.1
theorem pw_c_282 : ev_cw (pr_I 282) (pr_P 282).1 ∈ ev_UW := wk_c qI_282 pp_282 pt_w4_5.2.1
theorem pw_v_282 : Cond.instanceMethod (pr_I 282).1 ∈ ev_UW := wk_v qI_282 pt_w4_5.2.2.1
theorem pw_s_282 : Cond.selects (pr_I 282).1.cls (pr_I 282).1 (pr_I 282).1 ∈ ev_UW := wk_s qI_282 pt_w4_5.2.2.2.1
theorem pw_c_238 : ev_cw (pr_I 238) (pr_P 238).1 ∈ ev_UW := wk_c qI_238 pp_238 pt_w4_5.2.2.2.2.1
theorem pw_v_238 : Cond.instanceMethod (pr_I 238).1 ∈ ev_UW := wk_v qI_238 pt_w4_5.2.2.2.2.2.1
theorem pw_s_238 : Cond.selects (pr_I 238).1.cls (pr_I 238).1 (pr_I 238).1 ∈ ev_UW := wk_s qI_238 pt_w4_5.2.2.2.2.2.2.1
theorem pw_m_q1_98 : Cond.methodLink "OrphanTree$Tree" 98 (pr_I 238).1 ∈ ev_UW := wk_m qI_238 pt_w4_5.2.2.2.2.2.2.2.1
theorem pw_m_q1_104 : Cond.methodLink "OrphanTree$Tree" 104 (pr_I 280).1 ∈ ev_UW := wk_m qI_280 pt_w4_5.2.2.2.2.2.2.2.2.1
theorem pw_c_280 : ev_cw (pr_I 280) (pr_P 280).1 ∈ ev_UW := wk_c qI_280 pp_280 pt_w4_5.2.2.2.2.2.2.2.2.2.1
theorem pw_v_280 : Cond.instanceMethod (pr_I 280).1 ∈ ev_UW := wk_v qI_280 pt_w4_5.2.2.2.2.2.2.2.2.2.2.1
theorem pw_s_280 : Cond.selects (pr_I 280).1.cls (pr_I 280).1 (pr_I 280).1 ∈ ev_UW := wk_s qI_280 pt_w4_5.2.2.2.2.2.2.2.2.2.2.2.1
theorem pw_m_q15_39 : Cond.methodLink "OrphanTreeLaw" 39 (pr_I 14).1 ∈ ev_UW := wk_m qI_14 pt_w4_5.2.2.2.2.2.2.2.2.2.2.2.2.1
theorem pw_c_14 : ev_cw (pr_I 14) (pr_P 14).1 ∈ ev_UW := wk_c qI_14 pp_14 pt_w4_5.2.2.2.2.2.2.2.2.2.2.2.2.2.1
theorem pw_v_14 : Cond.instanceMethod (pr_I 14).1 ∈ ev_UW := wk_v qI_14 pt_w4_5.2.2.2.2.2.2.2.2.2.2.2.2.2.2.1
theorem pw_s_14 : Cond.selects (pr_I 14).1.cls (pr_I 14).1 (pr_I 14).1 ∈ ev_UW := wk_s qI_14 pt_w4_5.2.2.2.2.2.2.2.2.2.2.2.2.2.2.2
theorem pt_w4_6 : (Cond.classLink "OrphanTree" 216 "java/util/NoSuchElementException") ∈ ev_UW := by
  have e : (tables_1_4.drop 96).take 16 = [(Cond.classLink "OrphanTree" 216 "java/util/NoSuchElementException"), _, _, _, _, _, _, _, _, _, _, _, _, _, _, _] := rfl
  exact uw_s tk_4 96 e 0 rfl rfl
theorem pw_cl_q0_216 : Cond.classLink "OrphanTree" 216 "java/util/NoSuchElementException" ∈ ev_UW := pt_w4_6
theorem pt_w3_2 : (Cond.methodLink "OrphanTree" 225 pr_i235.1) ∈ ev_UW ∧ (ev_cw pr_i235 1) ∈ ev_UW ∧ (Cond.instanceMethod pr_i235.1) ∈ ev_UW ∧ (Cond.selects pr_i235.1.cls pr_i235.1 pr_i235.1) ∈ ev_UW ∧ (Cond.methodLink "OrphanTreeLaw" 186 pr_i5.1) ∈ ev_UW ∧ (ev_cw pr_i5 1) ∈ ev_UW ∧ (Cond.instanceMethod pr_i5.1) ∈ ev_UW ∧ (Cond.selects pr_i5.1.cls pr_i5.1 pr_i5.1) ∈ ev_UW ∧ (Cond.methodLink "OrphanTreeLaw" 203 pr_i9.1) ∈ ev_UW ∧ (ev_cw pr_i9 2) ∈ ev_UW ∧ (Cond.instanceMethod pr_i9.1) ∈ ev_UW ∧ (Cond.selects pr_i9.1.cls pr_i9.1 pr_i9.1) ∈ ev_UW ∧ (Cond.methodLink "OrphanTreeLaw" 222 pr_i15.1) ∈ ev_UW ∧ (ev_cw pr_i15 7) ∈ ev_UW ∧ (Cond.instanceMethod pr_i15.1) ∈ ev_UW ∧ (Cond.selects pr_i15.1.cls pr_i15.1 pr_i15.1) ∈ ev_UW := by
  have e : (tables_1_3.drop 32).take 16 = [(Cond.methodLink "OrphanTreeLaw" 186 pr_i5.1), (Cond.instanceMethod pr_i5.1), (Cond.selects pr_i5.1.cls pr_i5.1 pr_i5.1), (ev_cw pr_i5 1), (Cond.methodLink "OrphanTreeLaw" 203 pr_i9.1), (Cond.instanceMethod pr_i9.1), (Cond.selects pr_i9.1.cls pr_i9.1 pr_i9.1), (ev_cw pr_i9 2), (Cond.methodLink "OrphanTreeLaw" 222 pr_i15.1), (Cond.instanceMethod pr_i15.1), (Cond.selects pr_i15.1.cls pr_i15.1 pr_i15.1), (ev_cw pr_i15 7), (Cond.methodLink "OrphanTree" 225 pr_i235.1), (Cond.instanceMethod pr_i235.1), (Cond.selects pr_i235.1.cls pr_i235.1 pr_i235.1), (ev_cw pr_i235 1)] := rfl
  exact ⟨uw_s tk_3 32 e 12 rfl rfl, uw_s tk_3 32 e 15 rfl rfl, uw_s tk_3 32 e 13 rfl rfl, uw_s tk_3 32 e 14 rfl rfl, uw_s tk_3 32 e 0 rfl rfl, uw_s tk_3 32 e 3 rfl rfl, uw_s tk_3 32 e 1 rfl rfl, uw_s tk_3 32 e 2 rfl rfl, uw_s tk_3 32 e 4 rfl rfl, uw_s tk_3 32 e 7 rfl rfl, uw_s tk_3 32 e 5 rfl rfl, uw_s tk_3 32 e 6 rfl rfl, uw_s tk_3 32 e 8 rfl rfl, uw_s tk_3 32 e 11 rfl rfl, uw_s tk_3 32 e 9 rfl rfl, uw_s tk_3 32 e 10 rfl rfl⟩
theorem pw_m_q0_225 : Cond.methodLink "OrphanTree" 225 (pr_I 235).1 ∈ ev_UW := wk_m qI_235 pt_w3_2.1
theorem pw_c_235 : ev_cw (pr_I 235) (pr_P 235).1 ∈ ev_UW := wk_c qI_235 pp_235 pt_w3_2.2.1
theorem pw_v_235 : Cond.instanceMethod (pr_I 235).1 ∈ ev_UW := wk_v qI_235 pt_w3_2.2.2.1
theorem pw_s_235 : Cond.selects (pr_I 235).1.cls (pr_I 235).1 (pr_I 235).1 ∈ ev_UW := wk_s qI_235 pt_w3_2.2.2.2.1
theorem pw_m_q15_186 : Cond.methodLink "OrphanTreeLaw" 186 (pr_I 5).1 ∈ ev_UW := wk_m qI_5 pt_w3_2.2.2.2.2.1
theorem pw_c_5 : ev_cw (pr_I 5) (pr_P 5).1 ∈ ev_UW := wk_c qI_5 pp_5 pt_w3_2.2.2.2.2.2.1
theorem pw_v_5 : Cond.instanceMethod (pr_I 5).1 ∈ ev_UW := wk_v qI_5 pt_w3_2.2.2.2.2.2.2.1
theorem pw_s_5 : Cond.selects (pr_I 5).1.cls (pr_I 5).1 (pr_I 5).1 ∈ ev_UW := wk_s qI_5 pt_w3_2.2.2.2.2.2.2.2.1
theorem pw_m_q15_203 : Cond.methodLink "OrphanTreeLaw" 203 (pr_I 9).1 ∈ ev_UW := wk_m qI_9 pt_w3_2.2.2.2.2.2.2.2.2.1
theorem pw_c_9 : ev_cw (pr_I 9) (pr_P 9).1 ∈ ev_UW := wk_c qI_9 pp_9 pt_w3_2.2.2.2.2.2.2.2.2.2.1
theorem pw_v_9 : Cond.instanceMethod (pr_I 9).1 ∈ ev_UW := wk_v qI_9 pt_w3_2.2.2.2.2.2.2.2.2.2.2.1
theorem pw_s_9 : Cond.selects (pr_I 9).1.cls (pr_I 9).1 (pr_I 9).1 ∈ ev_UW := wk_s qI_9 pt_w3_2.2.2.2.2.2.2.2.2.2.2.2.1
theorem pw_m_q15_222 : Cond.methodLink "OrphanTreeLaw" 222 (pr_I 15).1 ∈ ev_UW := wk_m qI_15 pt_w3_2.2.2.2.2.2.2.2.2.2.2.2.2.1
theorem pw_c_15 : ev_cw (pr_I 15) (pr_P 15).1 ∈ ev_UW := wk_c qI_15 pp_15 pt_w3_2.2.2.2.2.2.2.2.2.2.2.2.2.2.1
theorem pw_v_15 : Cond.instanceMethod (pr_I 15).1 ∈ ev_UW := wk_v qI_15 pt_w3_2.2.2.2.2.2.2.2.2.2.2.2.2.2.2.1
theorem pw_s_15 : Cond.selects (pr_I 15).1.cls (pr_I 15).1 (pr_I 15).1 ∈ ev_UW := wk_s qI_15 pt_w3_2.2.2.2.2.2.2.2.2.2.2.2.2.2.2.2
theorem pt_w4_7 : (Cond.methodLink "OrphanTree" 231 pr_i219.1) ∈ ev_UW ∧ (ev_cw pr_i219 2) ∈ ev_UW ∧ (Cond.instanceMethod pr_i219.1) ∈ ev_UW ∧ (Cond.selects pr_i219.1.cls pr_i219.1 pr_i219.1) ∈ ev_UW ∧ (Cond.methodLink "OrphanTree" 234 pr_i286.1) ∈ ev_UW ∧ (Cond.methodLink "OrphanTreeLaw" 44 pr_i17.1) ∈ ev_UW ∧ (ev_cw pr_i17 6) ∈ ev_UW ∧ (Cond.instanceMethod pr_i17.1) ∈ ev_UW ∧ (Cond.selects pr_i17.1.cls pr_i17.1 pr_i17.1) ∈ ev_UW ∧ (Cond.methodLink "OrphanTreeLaw" 48 pr_i18.1) ∈ ev_UW ∧ (Cond.methodLink "OrphanTreeLaw" 230 pr_i313.1) ∈ ev_UW ∧ (Cond.static pr_i313.1) ∈ ev_UW ∧ (ev_cw pr_i313 7) ∈ ev_UW ∧ (Cond.methodLink "OrphanTreeLaw" 234 pr_i314.1) ∈ ev_UW ∧ (Cond.static pr_i314.1) ∈ ev_UW ∧ (ev_cw pr_i314 5) ∈ ev_UW := by
  have e : (tables_1_4.drop 112).take 16 = [(Cond.methodLink "OrphanTreeLaw" 230 pr_i313.1), (Cond.static pr_i313.1), (ev_cw pr_i313 7), (Cond.methodLink "OrphanTreeLaw" 44 pr_i17.1), (Cond.instanceMethod pr_i17.1), (Cond.selects pr_i17.1.cls pr_i17.1 pr_i17.1), (ev_cw pr_i17 6), (Cond.methodLink "OrphanTree" 231 pr_i219.1), (Cond.instanceMethod pr_i219.1), (Cond.selects pr_i219.1.cls pr_i219.1 pr_i219.1), (ev_cw pr_i219 2), (Cond.methodLink "OrphanTree" 234 pr_i286.1), (Cond.methodLink "OrphanTreeLaw" 234 pr_i314.1), (Cond.static pr_i314.1), (ev_cw pr_i314 5), (Cond.methodLink "OrphanTreeLaw" 48 pr_i18.1)] := rfl
  exact ⟨uw_s tk_4 112 e 7 rfl rfl, uw_s tk_4 112 e 10 rfl rfl, uw_s tk_4 112 e 8 rfl rfl, uw_s tk_4 112 e 9 rfl rfl, uw_s tk_4 112 e 11 rfl rfl, uw_s tk_4 112 e 3 rfl rfl, uw_s tk_4 112 e 6 rfl rfl, uw_s tk_4 112 e 4 rfl rfl, uw_s tk_4 112 e 5 rfl rfl, uw_s tk_4 112 e 15 rfl rfl, uw_s tk_4 112 e 0 rfl rfl, uw_s tk_4 112 e 1 rfl rfl, uw_s tk_4 112 e 2 rfl rfl, uw_s tk_4 112 e 12 rfl rfl, uw_s tk_4 112 e 13 rfl rfl, uw_s tk_4 112 e 14 rfl rfl⟩
theorem pw_m_q0_231 : Cond.methodLink "OrphanTree" 231 (pr_I 219).1 ∈ ev_UW := wk_m qI_219 pt_w4_7.1
theorem pw_c_219 : ev_cw (pr_I 219) (pr_P 219).1 ∈ ev_UW := wk_c qI_219 pp_219 pt_w4_7.2.1
theorem pw_v_219 : Cond.instanceMethod (pr_I 219).1 ∈ ev_UW := wk_v qI_219 pt_w4_7.2.2.1
theorem pw_s_219 : Cond.selects (pr_I 219).1.cls (pr_I 219).1 (pr_I 219).1 ∈ ev_UW := wk_s qI_219 pt_w4_7.2.2.2.1
theorem pw_m_q0_234 : Cond.methodLink "OrphanTree" 234 (pr_I 286).1 ∈ ev_UW := wk_m qI_286 pt_w4_7.2.2.2.2.1
theorem pw_m_q15_44 : Cond.methodLink "OrphanTreeLaw" 44 (pr_I 17).1 ∈ ev_UW := wk_m qI_17 pt_w4_7.2.2.2.2.2.1
theorem pw_c_17 : ev_cw (pr_I 17) (pr_P 17).1 ∈ ev_UW := wk_c qI_17 pp_17 pt_w4_7.2.2.2.2.2.2.1
theorem pw_v_17 : Cond.instanceMethod (pr_I 17).1 ∈ ev_UW := wk_v qI_17 pt_w4_7.2.2.2.2.2.2.2.1
theorem pw_s_17 : Cond.selects (pr_I 17).1.cls (pr_I 17).1 (pr_I 17).1 ∈ ev_UW := wk_s qI_17 pt_w4_7.2.2.2.2.2.2.2.2.1
theorem pw_m_q15_48 : Cond.methodLink "OrphanTreeLaw" 48 (pr_I 18).1 ∈ ev_UW := wk_m qI_18 pt_w4_7.2.2.2.2.2.2.2.2.2.1
theorem pw_m_q15_230 : Cond.methodLink "OrphanTreeLaw" 230 (pr_I 313).1 ∈ ev_UW := wk_m qI_313 pt_w4_7.2.2.2.2.2.2.2.2.2.2.1
theorem pw_t_313 : Cond.static (pr_I 313).1 ∈ ev_UW := wk_t qI_313 pt_w4_7.2.2.2.2.2.2.2.2.2.2.2.1
theorem pw_c_313 : ev_cw (pr_I 313) (pr_P 313).1 ∈ ev_UW := wk_c qI_313 pp_313 pt_w4_7.2.2.2.2.2.2.2.2.2.2.2.2.1
theorem pw_m_q15_234 : Cond.methodLink "OrphanTreeLaw" 234 (pr_I 314).1 ∈ ev_UW := wk_m qI_314 pt_w4_7.2.2.2.2.2.2.2.2.2.2.2.2.2.1
theorem pw_t_314 : Cond.static (pr_I 314).1 ∈ ev_UW := wk_t qI_314 pt_w4_7.2.2.2.2.2.2.2.2.2.2.2.2.2.2.1
theorem pw_c_314 : ev_cw (pr_I 314) (pr_P 314).1 ∈ ev_UW := wk_c qI_314 pp_314 pt_w4_7.2.2.2.2.2.2.2.2.2.2.2.2.2.2.2
theorem pt_w4_8 : (Cond.methodLink "OrphanTree" 238 pr_i69.1) ∈ ev_UW ∧ (ev_cw pr_i69 4) ∈ ev_UW ∧ (Cond.instanceMethod pr_i69.1) ∈ ev_UW ∧ (Cond.methodLink "OrphanTree" 242 pr_i287.1) ∈ ev_UW ∧ (ev_cw pr_i287 11) ∈ ev_UW ∧ (Cond.instanceMethod pr_i287.1) ∈ ev_UW ∧ (Cond.selects pr_i287.1.cls pr_i287.1 pr_i287.1) ∈ ev_UW ∧ (Cond.methodLink "OrphanTree" 258 pr_i236.1) ∈ ev_UW ∧ (ev_cw pr_i236 1) ∈ ev_UW ∧ (Cond.instanceMethod pr_i236.1) ∈ ev_UW ∧ (Cond.selects pr_i236.1.cls pr_i236.1 pr_i236.1) ∈ ev_UW ∧ (Cond.methodLink "OrphanTree$Tree" 117 pr_i288.1) ∈ ev_UW ∧ (ev_cw pr_i18 4) ∈ ev_UW ∧ (Cond.instanceMethod pr_i18.1) ∈ ev_UW ∧ (Cond.selects pr_i18.1.cls pr_i18.1 pr_i18.1) ∈ ev_UW := by
  have e : (tables_1_4.drop 128).take 16 = [(Cond.instanceMethod pr_i18.1), (Cond.selects pr_i18.1.cls pr_i18.1 pr_i18.1), (ev_cw pr_i18 4), (Cond.methodLink "OrphanTree" 238 pr_i69.1), _, (Cond.instanceMethod pr_i69.1), (ev_cw pr_i69 4), (Cond.methodLink "OrphanTree" 258 pr_i236.1), (Cond.instanceMethod pr_i236.1), (Cond.selects pr_i236.1.cls pr_i236.1 pr_i236.1), (ev_cw pr_i236 1), (Cond.methodLink "OrphanTree" 242 pr_i287.1), (Cond.instanceMethod pr_i287.1), (Cond.selects pr_i287.1.cls pr_i287.1 pr_i287.1), (ev_cw pr_i287 11), (Cond.methodLink "OrphanTree$Tree" 117 pr_i288.1)] := rfl
  exact ⟨uw_s tk_4 128 e 3 rfl rfl, uw_s tk_4 128 e 6 rfl rfl, uw_s tk_4 128 e 5 rfl rfl, uw_s tk_4 128 e 11 rfl rfl, uw_s tk_4 128 e 14 rfl rfl, uw_s tk_4 128 e 12 rfl rfl, uw_s tk_4 128 e 13 rfl rfl, uw_s tk_4 128 e 7 rfl rfl, uw_s tk_4 128 e 10 rfl rfl, uw_s tk_4 128 e 8 rfl rfl, uw_s tk_4 128 e 9 rfl rfl, uw_s tk_4 128 e 15 rfl rfl, uw_s tk_4 128 e 2 rfl rfl, uw_s tk_4 128 e 0 rfl rfl, uw_s tk_4 128 e 1 rfl rfl⟩
theorem pw_m_q0_238 : Cond.methodLink "OrphanTree" 238 (pr_I 69).1 ∈ ev_UW := wk_m qI_69 pt_w4_8.1
theorem pw_c_69 : ev_cw (pr_I 69) (pr_P 69).1 ∈ ev_UW := wk_c qI_69 pp_69 pt_w4_8.2.1
theorem pw_v_69 : Cond.instanceMethod (pr_I 69).1 ∈ ev_UW := wk_v qI_69 pt_w4_8.2.2.1
theorem pw_m_q0_242 : Cond.methodLink "OrphanTree" 242 (pr_I 287).1 ∈ ev_UW := wk_m qI_287 pt_w4_8.2.2.2.1
theorem pw_c_287 : ev_cw (pr_I 287) (pr_P 287).1 ∈ ev_UW := wk_c qI_287 pp_287 pt_w4_8.2.2.2.2.1
theorem pw_v_287 : Cond.instanceMethod (pr_I 287).1 ∈ ev_UW := wk_v qI_287 pt_w4_8.2.2.2.2.2.1
theorem pw_s_287 : Cond.selects (pr_I 287).1.cls (pr_I 287).1 (pr_I 287).1 ∈ ev_UW := wk_s qI_287 pt_w4_8.2.2.2.2.2.2.1
theorem pw_m_q0_258 : Cond.methodLink "OrphanTree" 258 (pr_I 236).1 ∈ ev_UW := wk_m qI_236 pt_w4_8.2.2.2.2.2.2.2.1
theorem pw_c_236 : ev_cw (pr_I 236) (pr_P 236).1 ∈ ev_UW := wk_c qI_236 pp_236 pt_w4_8.2.2.2.2.2.2.2.2.1
theorem pw_v_236 : Cond.instanceMethod (pr_I 236).1 ∈ ev_UW := wk_v qI_236 pt_w4_8.2.2.2.2.2.2.2.2.2.1
theorem pw_s_236 : Cond.selects (pr_I 236).1.cls (pr_I 236).1 (pr_I 236).1 ∈ ev_UW := wk_s qI_236 pt_w4_8.2.2.2.2.2.2.2.2.2.2.1
theorem pw_m_q1_117 : Cond.methodLink "OrphanTree$Tree" 117 (pr_I 288).1 ∈ ev_UW := wk_m qI_288 pt_w4_8.2.2.2.2.2.2.2.2.2.2.2.1
theorem pw_c_18 : ev_cw (pr_I 18) (pr_P 18).1 ∈ ev_UW := wk_c qI_18 pp_18 pt_w4_8.2.2.2.2.2.2.2.2.2.2.2.2.1
theorem pw_v_18 : Cond.instanceMethod (pr_I 18).1 ∈ ev_UW := wk_v qI_18 pt_w4_8.2.2.2.2.2.2.2.2.2.2.2.2.2.1
theorem pw_s_18 : Cond.selects (pr_I 18).1.cls (pr_I 18).1 (pr_I 18).1 ∈ ev_UW := wk_s qI_18 pt_w4_8.2.2.2.2.2.2.2.2.2.2.2.2.2.2
theorem pt_w4_12 : (Cond.methodLink "OrphanTree" 245 pr_i70.1) ∈ ev_UW ∧ (ev_cw pr_i302 7) ∈ ev_UW ∧ (Cond.instanceMethod pr_i302.1) ∈ ev_UW ∧ (Cond.selects pr_i302.1.cls pr_i302.1 pr_i302.1) ∈ ev_UW ∧ (Cond.methodLink "OrphanTree$Tree" 132 pr_i292.1) ∈ ev_UW ∧ (ev_cw pr_i292 3) ∈ ev_UW ∧ (Cond.instanceMethod pr_i292.1) ∈ ev_UW ∧ (Cond.methodLink "OrphanTree$Tree" 135 pr_i302.1) ∈ ev_UW ∧ (Cond.methodLink "OrphanTreeLaw" 51 pr_i19.1) ∈ ev_UW ∧ (ev_cw pr_i19 3) ∈ ev_UW ∧ (Cond.instanceMethod pr_i19.1) ∈ ev_UW ∧ (Cond.selects pr_i19.1.cls pr_i19.1 pr_i19.1) ∈ ev_UW ∧ (Cond.methodLink "OrphanTreeLaw" 237 pr_i315.1) ∈ ev_UW ∧ (Cond.static pr_i315.1) ∈ ev_UW ∧ (ev_cw pr_i315 5) ∈ ev_UW := by
  have e : (tables_1_4.drop 192).take 16 = [(Cond.methodLink "OrphanTree$Tree" 132 pr_i292.1), _, (Cond.instanceMethod pr_i292.1), (ev_cw pr_i292 3), (Cond.methodLink "OrphanTree$Tree" 135 pr_i302.1), (Cond.instanceMethod pr_i302.1), (Cond.selects pr_i302.1.cls pr_i302.1 pr_i302.1), (ev_cw pr_i302 7), (Cond.methodLink "OrphanTreeLaw" 237 pr_i315.1), (Cond.static pr_i315.1), (ev_cw pr_i315 5), (Cond.methodLink "OrphanTreeLaw" 51 pr_i19.1), (Cond.instanceMethod pr_i19.1), (Cond.selects pr_i19.1.cls pr_i19.1 pr_i19.1), (ev_cw pr_i19 3), (Cond.methodLink "OrphanTree" 245 pr_i70.1)] := rfl
  exact ⟨uw_s tk_4 192 e 15 rfl rfl, uw_s tk_4 192 e 7 rfl rfl, uw_s tk_4 192 e 5 rfl rfl, uw_s tk_4 192 e 6 rfl rfl, uw_s tk_4 192 e 0 rfl rfl, uw_s tk_4 192 e 3 rfl rfl, uw_s tk_4 192 e 2 rfl rfl, uw_s tk_4 192 e 4 rfl rfl, uw_s tk_4 192 e 11 rfl rfl, uw_s tk_4 192 e 14 rfl rfl, uw_s tk_4 192 e 12 rfl rfl, uw_s tk_4 192 e 13 rfl rfl, uw_s tk_4 192 e 8 rfl rfl, uw_s tk_4 192 e 9 rfl rfl, uw_s tk_4 192 e 10 rfl rfl⟩
theorem pw_m_q0_245 : Cond.methodLink "OrphanTree" 245 (pr_I 70).1 ∈ ev_UW := wk_m qI_70 pt_w4_12.1
theorem pw_c_302 : ev_cw (pr_I 302) (pr_P 302).1 ∈ ev_UW := wk_c qI_302 pp_302 pt_w4_12.2.1
theorem pw_v_302 : Cond.instanceMethod (pr_I 302).1 ∈ ev_UW := wk_v qI_302 pt_w4_12.2.2.1
theorem pw_s_302 : Cond.selects (pr_I 302).1.cls (pr_I 302).1 (pr_I 302).1 ∈ ev_UW := wk_s qI_302 pt_w4_12.2.2.2.1
theorem pw_m_q1_132 : Cond.methodLink "OrphanTree$Tree" 132 (pr_I 292).1 ∈ ev_UW := wk_m qI_292 pt_w4_12.2.2.2.2.1
theorem pw_c_292 : ev_cw (pr_I 292) (pr_P 292).1 ∈ ev_UW := wk_c qI_292 pp_292 pt_w4_12.2.2.2.2.2.1
theorem pw_v_292 : Cond.instanceMethod (pr_I 292).1 ∈ ev_UW := wk_v qI_292 pt_w4_12.2.2.2.2.2.2.1
theorem pw_m_q1_135 : Cond.methodLink "OrphanTree$Tree" 135 (pr_I 302).1 ∈ ev_UW := wk_m qI_302 pt_w4_12.2.2.2.2.2.2.2.1
theorem pw_m_q15_51 : Cond.methodLink "OrphanTreeLaw" 51 (pr_I 19).1 ∈ ev_UW := wk_m qI_19 pt_w4_12.2.2.2.2.2.2.2.2.1
theorem pw_c_19 : ev_cw (pr_I 19) (pr_P 19).1 ∈ ev_UW := wk_c qI_19 pp_19 pt_w4_12.2.2.2.2.2.2.2.2.2.1
theorem pw_v_19 : Cond.instanceMethod (pr_I 19).1 ∈ ev_UW := wk_v qI_19 pt_w4_12.2.2.2.2.2.2.2.2.2.2.1
theorem pw_s_19 : Cond.selects (pr_I 19).1.cls (pr_I 19).1 (pr_I 19).1 ∈ ev_UW := wk_s qI_19 pt_w4_12.2.2.2.2.2.2.2.2.2.2.2.1
theorem pw_m_q15_237 : Cond.methodLink "OrphanTreeLaw" 237 (pr_I 315).1 ∈ ev_UW := wk_m qI_315 pt_w4_12.2.2.2.2.2.2.2.2.2.2.2.2.1
theorem pw_t_315 : Cond.static (pr_I 315).1 ∈ ev_UW := wk_t qI_315 pt_w4_12.2.2.2.2.2.2.2.2.2.2.2.2.2.1
theorem pw_c_315 : ev_cw (pr_I 315) (pr_P 315).1 ∈ ev_UW := wk_c qI_315 pp_315 pt_w4_12.2.2.2.2.2.2.2.2.2.2.2.2.2.2
theorem pt_w4_13 : (Cond.static pr_i70.1) ∈ ev_UW ∧ (ev_cw pr_i70 2) ∈ ev_UW ∧ (Cond.methodLink "OrphanTree" 248 pr_i299.1) ∈ ev_UW ∧ (ev_cw pr_i299 8) ∈ ev_UW ∧ (Cond.instanceMethod pr_i299.1) ∈ ev_UW ∧ (Cond.selects pr_i299.1.cls pr_i299.1 pr_i299.1) ∈ ev_UW ∧ (Cond.methodLink "OrphanTree" 252 pr_i281.1) ∈ ev_UW ∧ (Cond.instanceMethod pr_i281.1) ∈ ev_UW ∧ (Cond.methodLink "OrphanTree$Tree" 202 pr_i287.1) ∈ ev_UW ∧ (Cond.methodLink "OrphanTreeLaw" 54 pr_i20.1) ∈ ev_UW ∧ (ev_cw pr_i20 4) ∈ ev_UW ∧ (Cond.instanceMethod pr_i20.1) ∈ ev_UW ∧ (Cond.selects pr_i20.1.cls pr_i20.1 pr_i20.1) ∈ ev_UW ∧ (Cond.methodLink "OrphanTreeLaw" 240 pr_i316.1) ∈ ev_UW ∧ (Cond.static pr_i316.1) ∈ ev_UW ∧ (ev_cw pr_i316 4) ∈ ev_UW := by
  have e : (tables_1_4.drop 208).take 16 = [(Cond.static pr_i70.1), (ev_cw pr_i70 2), (Cond.methodLink "OrphanTree" 248 pr_i299.1), (Cond.instanceMethod pr_i299.1), (Cond.selects pr_i299.1.cls pr_i299.1 pr_i299.1), (ev_cw pr_i299 8), (Cond.methodLink "OrphanTree$Tree" 202 pr_i287.1), (Cond.methodLink "OrphanTreeLaw" 240 pr_i316.1), (Cond.static pr_i316.1), (ev_cw pr_i316 4), (Cond.methodLink "OrphanTreeLaw" 54 pr_i20.1), (Cond.instanceMethod pr_i20.1), (Cond.selects pr_i20.1.cls pr_i20.1 pr_i20.1), (ev_cw pr_i20 4), (Cond.methodLink "OrphanTree" 252 pr_i281.1), (Cond.instanceMethod pr_i281.1)] := rfl
  exact ⟨uw_s tk_4 208 e 0 rfl rfl, uw_s tk_4 208 e 1 rfl rfl, uw_s tk_4 208 e 2 rfl rfl, uw_s tk_4 208 e 5 rfl rfl, uw_s tk_4 208 e 3 rfl rfl, uw_s tk_4 208 e 4 rfl rfl, uw_s tk_4 208 e 14 rfl rfl, uw_s tk_4 208 e 15 rfl rfl, uw_s tk_4 208 e 6 rfl rfl, uw_s tk_4 208 e 10 rfl rfl, uw_s tk_4 208 e 13 rfl rfl, uw_s tk_4 208 e 11 rfl rfl, uw_s tk_4 208 e 12 rfl rfl, uw_s tk_4 208 e 7 rfl rfl, uw_s tk_4 208 e 8 rfl rfl, uw_s tk_4 208 e 9 rfl rfl⟩
theorem pw_t_70 : Cond.static (pr_I 70).1 ∈ ev_UW := wk_t qI_70 pt_w4_13.1
theorem pw_c_70 : ev_cw (pr_I 70) (pr_P 70).1 ∈ ev_UW := wk_c qI_70 pp_70 pt_w4_13.2.1
theorem pw_m_q0_248 : Cond.methodLink "OrphanTree" 248 (pr_I 299).1 ∈ ev_UW := wk_m qI_299 pt_w4_13.2.2.1
theorem pw_c_299 : ev_cw (pr_I 299) (pr_P 299).1 ∈ ev_UW := wk_c qI_299 pp_299 pt_w4_13.2.2.2.1
theorem pw_v_299 : Cond.instanceMethod (pr_I 299).1 ∈ ev_UW := wk_v qI_299 pt_w4_13.2.2.2.2.1
theorem pw_s_299 : Cond.selects (pr_I 299).1.cls (pr_I 299).1 (pr_I 299).1 ∈ ev_UW := wk_s qI_299 pt_w4_13.2.2.2.2.2.1
theorem pw_m_q0_252 : Cond.methodLink "OrphanTree" 252 (pr_I 281).1 ∈ ev_UW := wk_m qI_281 pt_w4_13.2.2.2.2.2.2.1
theorem pw_v_281 : Cond.instanceMethod (pr_I 281).1 ∈ ev_UW := wk_v qI_281 pt_w4_13.2.2.2.2.2.2.2.1
theorem pw_m_q1_202 : Cond.methodLink "OrphanTree$Tree" 202 (pr_I 287).1 ∈ ev_UW := wk_m qI_287 pt_w4_13.2.2.2.2.2.2.2.2.1
theorem pw_m_q15_54 : Cond.methodLink "OrphanTreeLaw" 54 (pr_I 20).1 ∈ ev_UW := wk_m qI_20 pt_w4_13.2.2.2.2.2.2.2.2.2.1
theorem pw_c_20 : ev_cw (pr_I 20) (pr_P 20).1 ∈ ev_UW := wk_c qI_20 pp_20 pt_w4_13.2.2.2.2.2.2.2.2.2.2.1
theorem pw_v_20 : Cond.instanceMethod (pr_I 20).1 ∈ ev_UW := wk_v qI_20 pt_w4_13.2.2.2.2.2.2.2.2.2.2.2.1
theorem pw_s_20 : Cond.selects (pr_I 20).1.cls (pr_I 20).1 (pr_I 20).1 ∈ ev_UW := wk_s qI_20 pt_w4_13.2.2.2.2.2.2.2.2.2.2.2.2.1
theorem pw_m_q15_240 : Cond.methodLink "OrphanTreeLaw" 240 (pr_I 316).1 ∈ ev_UW := wk_m qI_316 pt_w4_13.2.2.2.2.2.2.2.2.2.2.2.2.2.1
theorem pw_t_316 : Cond.static (pr_I 316).1 ∈ ev_UW := wk_t qI_316 pt_w4_13.2.2.2.2.2.2.2.2.2.2.2.2.2.2.1
theorem pw_c_316 : ev_cw (pr_I 316) (pr_P 316).1 ∈ ev_UW := wk_c qI_316 pp_316 pt_w4_13.2.2.2.2.2.2.2.2.2.2.2.2.2.2.2
theorem pt_w4_14 : (ev_cw pr_i281 8) ∈ ev_UW ∧ (Cond.selects pr_i281.1.cls pr_i281.1 pr_i281.1) ∈ ev_UW ∧ (Cond.methodLink "OrphanTree" 261 pr_i300.1) ∈ ev_UW ∧ (ev_cw pr_i300 8) ∈ ev_UW ∧ (Cond.instanceMethod pr_i300.1) ∈ ev_UW ∧ (Cond.selects pr_i300.1.cls pr_i300.1 pr_i300.1) ∈ ev_UW ∧ (Cond.methodLink "OrphanTreeLaw" 57 pr_i21.1) ∈ ev_UW ∧ (ev_cw pr_i21 4) ∈ ev_UW ∧ (Cond.instanceMethod pr_i21.1) ∈ ev_UW ∧ (Cond.selects pr_i21.1.cls pr_i21.1 pr_i21.1) ∈ ev_UW ∧ (Cond.methodLink "OrphanTreeLaw" 243 pr_i317.1) ∈ ev_UW ∧ (Cond.static pr_i317.1) ∈ ev_UW ∧ (ev_cw pr_i317 5) ∈ ev_UW ∧ (Cond.methodLink "OrphanTreeLaw" 246 pr_i318.1) ∈ ev_UW ∧ (Cond.static pr_i318.1) ∈ ev_UW := by
  have e : (tables_1_4.drop 224).take 16 = [(Cond.selects pr_i281.1.cls pr_i281.1 pr_i281.1), (ev_cw pr_i281 8), _, (Cond.methodLink "OrphanTreeLaw" 243 pr_i317.1), (Cond.static pr_i317.1), (ev_cw pr_i317 5), (Cond.methodLink "OrphanTreeLaw" 57 pr_i21.1), (Cond.instanceMethod pr_i21.1), (Cond.selects pr_i21.1.cls pr_i21.1 pr_i21.1), (ev_cw pr_i21 4), (Cond.methodLink "OrphanTree" 261 pr_i300.1), (Cond.instanceMethod pr_i300.1), (Cond.selects pr_i300.1.cls pr_i300.1 pr_i300.1), (ev_cw pr_i300 8), (Cond.methodLink "OrphanTreeLaw" 246 pr_i318.1), (Cond.static pr_i318.1)] := rfl
  exact ⟨uw_s tk_4 224 e 1 rfl rfl, uw_s tk_4 224 e 0 rfl rfl, uw_s tk_4 224 e 10 rfl rfl, uw_s tk_4 224 e 13 rfl rfl, uw_s tk_4 224 e 11 rfl rfl, uw_s tk_4 224 e 12 rfl rfl, uw_s tk_4 224 e 6 rfl rfl, uw_s tk_4 224 e 9 rfl rfl, uw_s tk_4 224 e 7 rfl rfl, uw_s tk_4 224 e 8 rfl rfl, uw_s tk_4 224 e 3 rfl rfl, uw_s tk_4 224 e 4 rfl rfl, uw_s tk_4 224 e 5 rfl rfl, uw_s tk_4 224 e 14 rfl rfl, uw_s tk_4 224 e 15 rfl rfl⟩
theorem pw_c_281 : ev_cw (pr_I 281) (pr_P 281).1 ∈ ev_UW := wk_c qI_281 pp_281 pt_w4_14.1
theorem pw_s_281 : Cond.selects (pr_I 281).1.cls (pr_I 281).1 (pr_I 281).1 ∈ ev_UW := wk_s qI_281 pt_w4_14.2.1
theorem pw_m_q0_261 : Cond.methodLink "OrphanTree" 261 (pr_I 300).1 ∈ ev_UW := wk_m qI_300 pt_w4_14.2.2.1
theorem pw_c_300 : ev_cw (pr_I 300) (pr_P 300).1 ∈ ev_UW := wk_c qI_300 pp_300 pt_w4_14.2.2.2.1
theorem pw_v_300 : Cond.instanceMethod (pr_I 300).1 ∈ ev_UW := wk_v qI_300 pt_w4_14.2.2.2.2.1
theorem pw_s_300 : Cond.selects (pr_I 300).1.cls (pr_I 300).1 (pr_I 300).1 ∈ ev_UW := wk_s qI_300 pt_w4_14.2.2.2.2.2.1
theorem pw_m_q15_57 : Cond.methodLink "OrphanTreeLaw" 57 (pr_I 21).1 ∈ ev_UW := wk_m qI_21 pt_w4_14.2.2.2.2.2.2.1
theorem pw_c_21 : ev_cw (pr_I 21) (pr_P 21).1 ∈ ev_UW := wk_c qI_21 pp_21 pt_w4_14.2.2.2.2.2.2.2.1
theorem pw_v_21 : Cond.instanceMethod (pr_I 21).1 ∈ ev_UW := wk_v qI_21 pt_w4_14.2.2.2.2.2.2.2.2.1
theorem pw_s_21 : Cond.selects (pr_I 21).1.cls (pr_I 21).1 (pr_I 21).1 ∈ ev_UW := wk_s qI_21 pt_w4_14.2.2.2.2.2.2.2.2.2.1
theorem pw_m_q15_243 : Cond.methodLink "OrphanTreeLaw" 243 (pr_I 317).1 ∈ ev_UW := wk_m qI_317 pt_w4_14.2.2.2.2.2.2.2.2.2.2.1
theorem pw_t_317 : Cond.static (pr_I 317).1 ∈ ev_UW := wk_t qI_317 pt_w4_14.2.2.2.2.2.2.2.2.2.2.2.1
theorem pw_c_317 : ev_cw (pr_I 317) (pr_P 317).1 ∈ ev_UW := wk_c qI_317 pp_317 pt_w4_14.2.2.2.2.2.2.2.2.2.2.2.2.1
theorem pw_m_q15_246 : Cond.methodLink "OrphanTreeLaw" 246 (pr_I 318).1 ∈ ev_UW := wk_m qI_318 pt_w4_14.2.2.2.2.2.2.2.2.2.2.2.2.2.1
theorem pw_t_318 : Cond.static (pr_I 318).1 ∈ ev_UW := wk_t qI_318 pt_w4_14.2.2.2.2.2.2.2.2.2.2.2.2.2.2
theorem pt_w5_0 : (Cond.methodLink "OrphanTree" 264 pr_i241.1) ∈ ev_UW ∧ (Cond.methodLink "OrphanTree" 268 pr_i245.1) ∈ ev_UW ∧ (Cond.methodLink "OrphanTreeLaw" 60 pr_i22.1) ∈ ev_UW ∧ (ev_cw pr_i22 5) ∈ ev_UW ∧ (Cond.instanceMethod pr_i22.1) ∈ ev_UW ∧ (Cond.selects pr_i22.1.cls pr_i22.1 pr_i22.1) ∈ ev_UW ∧ (Cond.methodLink "OrphanTreeLaw" 63 pr_i23.1) ∈ ev_UW ∧ (ev_cw pr_i23 6) ∈ ev_UW ∧ (Cond.instanceMethod pr_i23.1) ∈ ev_UW ∧ (Cond.selects pr_i23.1.cls pr_i23.1 pr_i23.1) ∈ ev_UW ∧ (ev_cw pr_i318 5) ∈ ev_UW ∧ (Cond.methodLink "OrphanTreeLaw" 249 pr_i319.1) ∈ ev_UW ∧ (Cond.static pr_i319.1) ∈ ev_UW ∧ (ev_cw pr_i319 5) ∈ ev_UW ∧ (Cond.methodLink "OrphanTreeLaw" 252 pr_i320.1) ∈ ev_UW ∧ (Cond.static pr_i320.1) ∈ ev_UW := by
  have e : (tables_1_5.drop 0).take 16 = [(ev_cw pr_i318 5), (Cond.methodLink "OrphanTreeLaw" 60 pr_i22.1), (Cond.instanceMethod pr_i22.1), (Cond.selects pr_i22.1.cls pr_i22.1 pr_i22.1), (ev_cw pr_i22 5), (Cond.methodLink "OrphanTree" 264 pr_i241.1), (Cond.methodLink "OrphanTreeLaw" 249 pr_i319.1), (Cond.static pr_i319.1), (ev_cw pr_i319 5), (Cond.methodLink "OrphanTreeLaw" 63 pr_i23.1), (Cond.instanceMethod pr_i23.1), (Cond.selects pr_i23.1.cls pr_i23.1 pr_i23.1), (ev_cw pr_i23 6), (Cond.methodLink "OrphanTree" 268 pr_i245.1), (Cond.methodLink "OrphanTreeLaw" 252 pr_i320.1), (Cond.static pr_i320.1)] := rfl
  exact ⟨uw_s tk_5 0 e 5 rfl rfl, uw_s tk_5 0 e 13 rfl rfl, uw_s tk_5 0 e 1 rfl rfl, uw_s tk_5 0 e 4 rfl rfl, uw_s tk_5 0 e 2 rfl rfl, uw_s tk_5 0 e 3 rfl rfl, uw_s tk_5 0 e 9 rfl rfl, uw_s tk_5 0 e 12 rfl rfl, uw_s tk_5 0 e 10 rfl rfl, uw_s tk_5 0 e 11 rfl rfl, uw_s tk_5 0 e 0 rfl rfl, uw_s tk_5 0 e 6 rfl rfl, uw_s tk_5 0 e 7 rfl rfl, uw_s tk_5 0 e 8 rfl rfl, uw_s tk_5 0 e 14 rfl rfl, uw_s tk_5 0 e 15 rfl rfl⟩
theorem pw_m_q0_264 : Cond.methodLink "OrphanTree" 264 (pr_I 241).1 ∈ ev_UW := wk_m qI_241 pt_w5_0.1
theorem pw_m_q0_268 : Cond.methodLink "OrphanTree" 268 (pr_I 245).1 ∈ ev_UW := wk_m qI_245 pt_w5_0.2.1
theorem pw_m_q15_60 : Cond.methodLink "OrphanTreeLaw" 60 (pr_I 22).1 ∈ ev_UW := wk_m qI_22 pt_w5_0.2.2.1
theorem pw_c_22 : ev_cw (pr_I 22) (pr_P 22).1 ∈ ev_UW := wk_c qI_22 pp_22 pt_w5_0.2.2.2.1
theorem pw_v_22 : Cond.instanceMethod (pr_I 22).1 ∈ ev_UW := wk_v qI_22 pt_w5_0.2.2.2.2.1
theorem pw_s_22 : Cond.selects (pr_I 22).1.cls (pr_I 22).1 (pr_I 22).1 ∈ ev_UW := wk_s qI_22 pt_w5_0.2.2.2.2.2.1
theorem pw_m_q15_63 : Cond.methodLink "OrphanTreeLaw" 63 (pr_I 23).1 ∈ ev_UW := wk_m qI_23 pt_w5_0.2.2.2.2.2.2.1
theorem pw_c_23 : ev_cw (pr_I 23) (pr_P 23).1 ∈ ev_UW := wk_c qI_23 pp_23 pt_w5_0.2.2.2.2.2.2.2.1
theorem pw_v_23 : Cond.instanceMethod (pr_I 23).1 ∈ ev_UW := wk_v qI_23 pt_w5_0.2.2.2.2.2.2.2.2.1
theorem pw_s_23 : Cond.selects (pr_I 23).1.cls (pr_I 23).1 (pr_I 23).1 ∈ ev_UW := wk_s qI_23 pt_w5_0.2.2.2.2.2.2.2.2.2.1
theorem pw_c_318 : ev_cw (pr_I 318) (pr_P 318).1 ∈ ev_UW := wk_c qI_318 pp_318 pt_w5_0.2.2.2.2.2.2.2.2.2.2.1
theorem pw_m_q15_249 : Cond.methodLink "OrphanTreeLaw" 249 (pr_I 319).1 ∈ ev_UW := wk_m qI_319 pt_w5_0.2.2.2.2.2.2.2.2.2.2.2.1
theorem pw_t_319 : Cond.static (pr_I 319).1 ∈ ev_UW := wk_t qI_319 pt_w5_0.2.2.2.2.2.2.2.2.2.2.2.2.1
theorem pw_c_319 : ev_cw (pr_I 319) (pr_P 319).1 ∈ ev_UW := wk_c qI_319 pp_319 pt_w5_0.2.2.2.2.2.2.2.2.2.2.2.2.2.1
theorem pw_m_q15_252 : Cond.methodLink "OrphanTreeLaw" 252 (pr_I 320).1 ∈ ev_UW := wk_m qI_320 pt_w5_0.2.2.2.2.2.2.2.2.2.2.2.2.2.2.1
theorem pw_t_320 : Cond.static (pr_I 320).1 ∈ ev_UW := wk_t qI_320 pt_w5_0.2.2.2.2.2.2.2.2.2.2.2.2.2.2.2
theorem pt_w3_0 : (ev_cw pr_i241 2) ∈ ev_UW ∧ (Cond.selects pr_i241.1.cls pr_i241.1 pr_i241.1) ∈ ev_UW ∧ (Cond.constantLong "OrphanTree$Proc" 60 (255 : Int64)) ∈ ev_UW ∧ (ev_cw pr_i246 2) ∈ ev_UW ∧ (Cond.instanceMethod pr_i246.1) ∈ ev_UW ∧ (Cond.selects pr_i246.1.cls pr_i246.1 pr_i246.1) ∈ ev_UW ∧ (Cond.methodLink "OrphanTree$SetupReader" 102 pr_i260.1) ∈ ev_UW ∧ (ev_cw pr_i260 4) ∈ ev_UW ∧ (Cond.instanceMethod pr_i260.1) ∈ ev_UW ∧ (Cond.methodLink "OrphanTree$SetupReader" 181 pr_i246.1) ∈ ev_UW ∧ (Cond.methodLink "OrphanTree$SetupReader" 185 pr_i247.1) ∈ ev_UW ∧ (ev_cw pr_i247 3) ∈ ev_UW ∧ (Cond.instanceMethod pr_i247.1) ∈ ev_UW ∧ (Cond.selects pr_i247.1.cls pr_i247.1 pr_i247.1) ∈ ev_UW := by
  have e : (tables_1_3.drop 0).take 16 = [(Cond.selects pr_i241.1.cls pr_i241.1 pr_i241.1), (ev_cw pr_i241 2), _, (Cond.methodLink "OrphanTree$SetupReader" 102 pr_i260.1), _, (Cond.instanceMethod pr_i260.1), (ev_cw pr_i260 4), (Cond.methodLink "OrphanTree$SetupReader" 181 pr_i246.1), (Cond.instanceMethod pr_i246.1), (Cond.selects pr_i246.1.cls pr_i246.1 pr_i246.1), (ev_cw pr_i246 2), (Cond.constantLong "OrphanTree$Proc" 60 (255 : Int64)), (Cond.methodLink "OrphanTree$SetupReader" 185 pr_i247.1), (Cond.instanceMethod pr_i247.1), (Cond.selects pr_i247.1.cls pr_i247.1 pr_i247.1), (ev_cw pr_i247 3)] := rfl
  exact ⟨uw_s tk_3 0 e 1 rfl rfl, uw_s tk_3 0 e 0 rfl rfl, uw_s tk_3 0 e 11 rfl rfl, uw_s tk_3 0 e 10 rfl rfl, uw_s tk_3 0 e 8 rfl rfl, uw_s tk_3 0 e 9 rfl rfl, uw_s tk_3 0 e 3 rfl rfl, uw_s tk_3 0 e 6 rfl rfl, uw_s tk_3 0 e 5 rfl rfl, uw_s tk_3 0 e 7 rfl rfl, uw_s tk_3 0 e 12 rfl rfl, uw_s tk_3 0 e 15 rfl rfl, uw_s tk_3 0 e 13 rfl rfl, uw_s tk_3 0 e 14 rfl rfl⟩
theorem pw_c_241 : ev_cw (pr_I 241) (pr_P 241).1 ∈ ev_UW := wk_c qI_241 pp_241 pt_w3_0.1
theorem pw_s_241 : Cond.selects (pr_I 241).1.cls (pr_I 241).1 (pr_I 241).1 ∈ ev_UW := wk_s qI_241 pt_w3_0.2.1
theorem pw_kl_q8_60 : Cond.constantLong "OrphanTree$Proc" 60 (255 : Int64) ∈ ev_UW := pt_w3_0.2.2.1
theorem pw_c_246 : ev_cw (pr_I 246) (pr_P 246).1 ∈ ev_UW := wk_c qI_246 pp_246 pt_w3_0.2.2.2.1
theorem pw_v_246 : Cond.instanceMethod (pr_I 246).1 ∈ ev_UW := wk_v qI_246 pt_w3_0.2.2.2.2.1
theorem pw_s_246 : Cond.selects (pr_I 246).1.cls (pr_I 246).1 (pr_I 246).1 ∈ ev_UW := wk_s qI_246 pt_w3_0.2.2.2.2.2.1
theorem pw_m_q3_102 : Cond.methodLink "OrphanTree$SetupReader" 102 (pr_I 260).1 ∈ ev_UW := wk_m qI_260 pt_w3_0.2.2.2.2.2.2.1
theorem pw_c_260 : ev_cw (pr_I 260) (pr_P 260).1 ∈ ev_UW := wk_c qI_260 pp_260 pt_w3_0.2.2.2.2.2.2.2.1
theorem pw_v_260 : Cond.instanceMethod (pr_I 260).1 ∈ ev_UW := wk_v qI_260 pt_w3_0.2.2.2.2.2.2.2.2.1
theorem pw_m_q3_181 : Cond.methodLink "OrphanTree$SetupReader" 181 (pr_I 246).1 ∈ ev_UW := wk_m qI_246 pt_w3_0.2.2.2.2.2.2.2.2.2.1
theorem pw_m_q3_185 : Cond.methodLink "OrphanTree$SetupReader" 185 (pr_I 247).1 ∈ ev_UW := wk_m qI_247 pt_w3_0.2.2.2.2.2.2.2.2.2.2.1
theorem pw_c_247 : ev_cw (pr_I 247) (pr_P 247).1 ∈ ev_UW := wk_c qI_247 pp_247 pt_w3_0.2.2.2.2.2.2.2.2.2.2.2.1
theorem pw_v_247 : Cond.instanceMethod (pr_I 247).1 ∈ ev_UW := wk_v qI_247 pt_w3_0.2.2.2.2.2.2.2.2.2.2.2.2.1
theorem pw_s_247 : Cond.selects (pr_I 247).1.cls (pr_I 247).1 (pr_I 247).1 ∈ ev_UW := wk_s qI_247 pt_w3_0.2.2.2.2.2.2.2.2.2.2.2.2.2
theorem pt_w2_14 : (Cond.instanceMethod pr_i241.1) ∈ ev_UW ∧ (ev_cw pr_i284 3) ∈ ev_UW ∧ (Cond.instanceMethod pr_i284.1) ∈ ev_UW ∧ (Cond.selects pr_i284.1.cls pr_i284.1 pr_i284.1) ∈ ev_UW ∧ (Cond.methodLink "OrphanTree$SetupReader" 92 pr_i258.1) ∈ ev_UW ∧ (ev_cw pr_i258 3) ∈ ev_UW ∧ (Cond.instanceMethod pr_i258.1) ∈ ev_UW ∧ (Cond.methodLink "OrphanTree$SetupReader" 97 pr_i259.1) ∈ ev_UW ∧ (ev_cw pr_i259 2) ∈ ev_UW ∧ (Cond.instanceMethod pr_i259.1) ∈ ev_UW ∧ (Cond.methodLink "OrphanTree$SetupReader" 171 pr_i284.1) ∈ ev_UW ∧ (Cond.methodLink "OrphanTree$SetupReader" 175 pr_i241.1) ∈ ev_UW := by
  have e : (tables_1_2.drop 224).take 16 = [_, (Cond.methodLink "OrphanTree$SetupReader" 92 pr_i258.1), _, (Cond.instanceMethod pr_i258.1), (ev_cw pr_i258 3), (Cond.methodLink "OrphanTree$SetupReader" 171 pr_i284.1), (Cond.instanceMethod pr_i284.1), (Cond.selects pr_i284.1.cls pr_i284.1 pr_i284.1), (ev_cw pr_i284 3), _, (Cond.methodLink "OrphanTree$SetupReader" 97 pr_i259.1), _, (Cond.instanceMethod pr_i259.1), (ev_cw pr_i259 2), (Cond.methodLink "OrphanTree$SetupReader" 175 pr_i241.1), (Cond.instanceMethod pr_i241.1)] := rfl
  exact ⟨uw_s tk_2 224 e 15 rfl rfl, uw_s tk_2 224 e 8 rfl rfl, uw_s tk_2 224 e 6 rfl rfl, uw_s tk_2 224 e 7 rfl rfl, uw_s tk_2 224 e 1 rfl rfl, uw_s tk_2 224 e 4 rfl rfl, uw_s tk_2 224 e 3 rfl rfl, uw_s tk_2 224 e 10 rfl rfl, uw_s tk_2 224 e 13 rfl rfl, uw_s tk_2 224 e 12 rfl rfl, uw_s tk_2 224 e 5 rfl rfl, uw_s tk_2 224 e 14 rfl rfl⟩
theorem pw_v_241 : Cond.instanceMethod (pr_I 241).1 ∈ ev_UW := wk_v qI_241 pt_w2_14.1
theorem pw_c_284 : ev_cw (pr_I 284) (pr_P 284).1 ∈ ev_UW := wk_c qI_284 pp_284 pt_w2_14.2.1
theorem pw_v_284 : Cond.instanceMethod (pr_I 284).1 ∈ ev_UW := wk_v qI_284 pt_w2_14.2.2.1
theorem pw_s_284 : Cond.selects (pr_I 284).1.cls (pr_I 284).1 (pr_I 284).1 ∈ ev_UW := wk_s qI_284 pt_w2_14.2.2.2.1
theorem pw_m_q3_92 : Cond.methodLink "OrphanTree$SetupReader" 92 (pr_I 258).1 ∈ ev_UW := wk_m qI_258 pt_w2_14.2.2.2.2.1
theorem pw_c_258 : ev_cw (pr_I 258) (pr_P 258).1 ∈ ev_UW := wk_c qI_258 pp_258 pt_w2_14.2.2.2.2.2.1
theorem pw_v_258 : Cond.instanceMethod (pr_I 258).1 ∈ ev_UW := wk_v qI_258 pt_w2_14.2.2.2.2.2.2.1
theorem pw_m_q3_97 : Cond.methodLink "OrphanTree$SetupReader" 97 (pr_I 259).1 ∈ ev_UW := wk_m qI_259 pt_w2_14.2.2.2.2.2.2.2.1
theorem pw_c_259 : ev_cw (pr_I 259) (pr_P 259).1 ∈ ev_UW := wk_c qI_259 pp_259 pt_w2_14.2.2.2.2.2.2.2.2.1
theorem pw_v_259 : Cond.instanceMethod (pr_I 259).1 ∈ ev_UW := wk_v qI_259 pt_w2_14.2.2.2.2.2.2.2.2.2.1
theorem pw_m_q3_171 : Cond.methodLink "OrphanTree$SetupReader" 171 (pr_I 284).1 ∈ ev_UW := wk_m qI_284 pt_w2_14.2.2.2.2.2.2.2.2.2.2.1
theorem pw_m_q3_175 : Cond.methodLink "OrphanTree$SetupReader" 175 (pr_I 241).1 ∈ ev_UW := wk_m qI_241 pt_w2_14.2.2.2.2.2.2.2.2.2.2.2
theorem pt_w5_2 : (Cond.methodLink "OrphanTree" 274 pr_i284.1) ∈ ev_UW ∧ (ev_cw pr_i26 5) ∈ ev_UW ∧ (Cond.instanceMethod pr_i26.1) ∈ ev_UW ∧ (Cond.selects pr_i26.1.cls pr_i26.1 pr_i26.1) ∈ ev_UW ∧ (Cond.methodLink "OrphanTreeLaw" 75 pr_i27.1) ∈ ev_UW ∧ (ev_cw pr_i27 5) ∈ ev_UW ∧ (Cond.instanceMethod pr_i27.1) ∈ ev_UW ∧ (Cond.selects pr_i27.1.cls pr_i27.1 pr_i27.1) ∈ ev_UW ∧ (Cond.methodLink "OrphanTreeLaw" 78 pr_i28.1) ∈ ev_UW ∧ (Cond.methodLink "OrphanTreeLaw" 264 pr_i323.1) ∈ ev_UW ∧ (Cond.static pr_i323.1) ∈ ev_UW ∧ (ev_cw pr_i323 5) ∈ ev_UW ∧ (Cond.methodLink "OrphanTreeLaw" 267 pr_i324.1) ∈ ev_UW ∧ (Cond.static pr_i324.1) ∈ ev_UW ∧ (ev_cw pr_i324 4) ∈ ev_UW := by
  have e : (tables_1_5.drop 32).take 16 = [(Cond.instanceMethod pr_i26.1), (Cond.selects pr_i26.1.cls pr_i26.1 pr_i26.1), (ev_cw pr_i26 5), _, (Cond.methodLink "OrphanTreeLaw" 264 pr_i323.1), (Cond.static pr_i323.1), (ev_cw pr_i323 5), (Cond.methodLink "OrphanTreeLaw" 75 pr_i27.1), (Cond.instanceMethod pr_i27.1), (Cond.selects pr_i27.1.cls pr_i27.1 pr_i27.1), (ev_cw pr_i27 5), (Cond.methodLink "OrphanTree" 274 pr_i284.1), (Cond.methodLink "OrphanTreeLaw" 267 pr_i324.1), (Cond.static pr_i324.1), (ev_cw pr_i324 4), (Cond.methodLink "OrphanTreeLaw" 78 pr_i28.1)] := rfl
  exact ⟨uw_s tk_5 32 e 11 rfl rfl, uw_s tk_5 32 e 2 rfl rfl, uw_s tk_5 32 e 0 rfl rfl, uw_s tk_5 32 e 1 rfl rfl, uw_s tk_5 32 e 7 rfl rfl, uw_s tk_5 32 e 10 rfl rfl, uw_s tk_5 32 e 8 rfl rfl, uw_s tk_5 32 e 9 rfl rfl, uw_s tk_5 32 e 15 rfl rfl, uw_s tk_5 32 e 4 rfl rfl, uw_s tk_5 32 e 5 rfl rfl, uw_s tk_5 32 e 6 rfl rfl, uw_s tk_5 32 e 12 rfl rfl, uw_s tk_5 32 e 13 rfl rfl, uw_s tk_5 32 e 14 rfl rfl⟩
theorem pw_m_q0_274 : Cond.methodLink "OrphanTree" 274 (pr_I 284).1 ∈ ev_UW := wk_m qI_284 pt_w5_2.1
theorem pw_c_26 : ev_cw (pr_I 26) (pr_P 26).1 ∈ ev_UW := wk_c qI_26 pp_26 pt_w5_2.2.1
theorem pw_v_26 : Cond.instanceMethod (pr_I 26).1 ∈ ev_UW := wk_v qI_26 pt_w5_2.2.2.1
theorem pw_s_26 : Cond.selects (pr_I 26).1.cls (pr_I 26).1 (pr_I 26).1 ∈ ev_UW := wk_s qI_26 pt_w5_2.2.2.2.1
theorem pw_m_q15_75 : Cond.methodLink "OrphanTreeLaw" 75 (pr_I 27).1 ∈ ev_UW := wk_m qI_27 pt_w5_2.2.2.2.2.1
theorem pw_c_27 : ev_cw (pr_I 27) (pr_P 27).1 ∈ ev_UW := wk_c qI_27 pp_27 pt_w5_2.2.2.2.2.2.1
theorem pw_v_27 : Cond.instanceMethod (pr_I 27).1 ∈ ev_UW := wk_v qI_27 pt_w5_2.2.2.2.2.2.2.1
theorem pw_s_27 : Cond.selects (pr_I 27).1.cls (pr_I 27).1 (pr_I 27).1 ∈ ev_UW := wk_s qI_27 pt_w5_2.2.2.2.2.2.2.2.1
theorem pw_m_q15_78 : Cond.methodLink "OrphanTreeLaw" 78 (pr_I 28).1 ∈ ev_UW := wk_m qI_28 pt_w5_2.2.2.2.2.2.2.2.2.1
theorem pw_m_q15_264 : Cond.methodLink "OrphanTreeLaw" 264 (pr_I 323).1 ∈ ev_UW := wk_m qI_323 pt_w5_2.2.2.2.2.2.2.2.2.2.1
theorem pw_t_323 : Cond.static (pr_I 323).1 ∈ ev_UW := wk_t qI_323 pt_w5_2.2.2.2.2.2.2.2.2.2.2.1
theorem pw_c_323 : ev_cw (pr_I 323) (pr_P 323).1 ∈ ev_UW := wk_c qI_323 pp_323 pt_w5_2.2.2.2.2.2.2.2.2.2.2.2.1
theorem pw_m_q15_267 : Cond.methodLink "OrphanTreeLaw" 267 (pr_I 324).1 ∈ ev_UW := wk_m qI_324 pt_w5_2.2.2.2.2.2.2.2.2.2.2.2.2.1
theorem pw_t_324 : Cond.static (pr_I 324).1 ∈ ev_UW := wk_t qI_324 pt_w5_2.2.2.2.2.2.2.2.2.2.2.2.2.2.1
theorem pw_c_324 : ev_cw (pr_I 324) (pr_P 324).1 ∈ ev_UW := wk_c qI_324 pp_324 pt_w5_2.2.2.2.2.2.2.2.2.2.2.2.2.2.2
theorem pt_w5_3 : (Cond.methodLink "OrphanTree" 278 pr_i293.1) ∈ ev_UW ∧ (Cond.methodLink "OrphanTree" 281 pr_i291.1) ∈ ev_UW ∧ (ev_cw pr_i28 3) ∈ ev_UW ∧ (Cond.instanceMethod pr_i28.1) ∈ ev_UW ∧ (Cond.selects pr_i28.1.cls pr_i28.1 pr_i28.1) ∈ ev_UW ∧ (Cond.methodLink "OrphanTreeLaw" 81 pr_i29.1) ∈ ev_UW ∧ (ev_cw pr_i29 3) ∈ ev_UW ∧ (Cond.instanceMethod pr_i29.1) ∈ ev_UW ∧ (Cond.selects pr_i29.1.cls pr_i29.1 pr_i29.1) ∈ ev_UW ∧ (Cond.methodLink "OrphanTreeLaw" 84 pr_i30.1) ∈ ev_UW ∧ (Cond.methodLink "OrphanTreeLaw" 270 pr_i325.1) ∈ ev_UW ∧ (Cond.static pr_i325.1) ∈ ev_UW ∧ (ev_cw pr_i325 4) ∈ ev_UW ∧ (Cond.methodLink "OrphanTreeLaw" 273 pr_i326.1) ∈ ev_UW ∧ (Cond.static pr_i326.1) ∈ ev_UW ∧ (ev_cw pr_i326 5) ∈ ev_UW := by
  have e : (tables_1_5.drop 48).take 16 = [(Cond.instanceMethod pr_i28.1), (Cond.selects pr_i28.1.cls pr_i28.1 pr_i28.1), (ev_cw pr_i28 3), (Cond.methodLink "OrphanTree" 278 pr_i293.1), (Cond.methodLink "OrphanTreeLaw" 270 pr_i325.1), (Cond.static pr_i325.1), (ev_cw pr_i325 4), (Cond.methodLink "OrphanTreeLaw" 81 pr_i29.1), (Cond.instanceMethod pr_i29.1), (Cond.selects pr_i29.1.cls pr_i29.1 pr_i29.1), (ev_cw pr_i29 3), (Cond.methodLink "OrphanTree" 281 pr_i291.1), (Cond.methodLink "OrphanTreeLaw" 273 pr_i326.1), (Cond.static pr_i326.1), (ev_cw pr_i326 5), (Cond.methodLink "OrphanTreeLaw" 84 pr_i30.1)] := rfl
  exact ⟨uw_s tk_5 48 e 3 rfl rfl, uw_s tk_5 48 e 11 rfl rfl, uw_s tk_5 48 e 2 rfl rfl, uw_s tk_5 48 e 0 rfl rfl, uw_s tk_5 48 e 1 rfl rfl, uw_s tk_5 48 e 7 rfl rfl, uw_s tk_5 48 e 10 rfl rfl, uw_s tk_5 48 e 8 rfl rfl, uw_s tk_5 48 e 9 rfl rfl, uw_s tk_5 48 e 15 rfl rfl, uw_s tk_5 48 e 4 rfl rfl, uw_s tk_5 48 e 5 rfl rfl, uw_s tk_5 48 e 6 rfl rfl, uw_s tk_5 48 e 12 rfl rfl, uw_s tk_5 48 e 13 rfl rfl, uw_s tk_5 48 e 14 rfl rfl⟩
theorem pw_m_q0_278 : Cond.methodLink "OrphanTree" 278 (pr_I 293).1 ∈ ev_UW := wk_m qI_293 pt_w5_3.1
theorem pw_m_q0_281 : Cond.methodLink "OrphanTree" 281 (pr_I 291).1 ∈ ev_UW := wk_m qI_291 pt_w5_3.2.1
theorem pw_c_28 : ev_cw (pr_I 28) (pr_P 28).1 ∈ ev_UW := wk_c qI_28 pp_28 pt_w5_3.2.2.1
theorem pw_v_28 : Cond.instanceMethod (pr_I 28).1 ∈ ev_UW := wk_v qI_28 pt_w5_3.2.2.2.1
theorem pw_s_28 : Cond.selects (pr_I 28).1.cls (pr_I 28).1 (pr_I 28).1 ∈ ev_UW := wk_s qI_28 pt_w5_3.2.2.2.2.1
theorem pw_m_q15_81 : Cond.methodLink "OrphanTreeLaw" 81 (pr_I 29).1 ∈ ev_UW := wk_m qI_29 pt_w5_3.2.2.2.2.2.1
theorem pw_c_29 : ev_cw (pr_I 29) (pr_P 29).1 ∈ ev_UW := wk_c qI_29 pp_29 pt_w5_3.2.2.2.2.2.2.1
theorem pw_v_29 : Cond.instanceMethod (pr_I 29).1 ∈ ev_UW := wk_v qI_29 pt_w5_3.2.2.2.2.2.2.2.1
theorem pw_s_29 : Cond.selects (pr_I 29).1.cls (pr_I 29).1 (pr_I 29).1 ∈ ev_UW := wk_s qI_29 pt_w5_3.2.2.2.2.2.2.2.2.1
theorem pw_m_q15_84 : Cond.methodLink "OrphanTreeLaw" 84 (pr_I 30).1 ∈ ev_UW := wk_m qI_30 pt_w5_3.2.2.2.2.2.2.2.2.2.1
theorem pw_m_q15_270 : Cond.methodLink "OrphanTreeLaw" 270 (pr_I 325).1 ∈ ev_UW := wk_m qI_325 pt_w5_3.2.2.2.2.2.2.2.2.2.2.1
theorem pw_t_325 : Cond.static (pr_I 325).1 ∈ ev_UW := wk_t qI_325 pt_w5_3.2.2.2.2.2.2.2.2.2.2.2.1
theorem pw_c_325 : ev_cw (pr_I 325) (pr_P 325).1 ∈ ev_UW := wk_c qI_325 pp_325 pt_w5_3.2.2.2.2.2.2.2.2.2.2.2.2.1
theorem pw_m_q15_273 : Cond.methodLink "OrphanTreeLaw" 273 (pr_I 326).1 ∈ ev_UW := wk_m qI_326 pt_w5_3.2.2.2.2.2.2.2.2.2.2.2.2.2.1
theorem pw_t_326 : Cond.static (pr_I 326).1 ∈ ev_UW := wk_t qI_326 pt_w5_3.2.2.2.2.2.2.2.2.2.2.2.2.2.2.1
theorem pw_c_326 : ev_cw (pr_I 326) (pr_P 326).1 ∈ ev_UW := wk_c qI_326 pp_326 pt_w5_3.2.2.2.2.2.2.2.2.2.2.2.2.2.2.2
theorem pt_w4_10 : (ev_cw pr_i293 5) ∈ ev_UW ∧ (Cond.instanceMethod pr_i293.1) ∈ ev_UW ∧ (Cond.selects pr_i293.1.cls pr_i293.1 pr_i293.1) ∈ ev_UW ∧ (ev_cw pr_i291 7) ∈ ev_UW ∧ (Cond.instanceMethod pr_i291.1) ∈ ev_UW ∧ (Cond.selects pr_i291.1.cls pr_i291.1 pr_i291.1) ∈ ev_UW ∧ (Cond.instanceMethod pr_i298.1) ∈ ev_UW ∧ (Cond.methodLink "OrphanTree$Tree" 125 pr_i242.1) ∈ ev_UW ∧ (Cond.methodLink "OrphanTree$Tree" 128 pr_i293.1) ∈ ev_UW ∧ (ev_cw pr_i240 1) ∈ ev_UW ∧ (Cond.methodLink "OrphanTree$Tree" 169 pr_i291.1) ∈ ev_UW ∧ (Cond.methodLink "OrphanTree$Tree" 178 pr_i294.1) ∈ ev_UW ∧ (ev_cw pr_i294 4) ∈ ev_UW ∧ (Cond.instanceMethod pr_i294.1) ∈ ev_UW ∧ (Cond.methodLink "OrphanTree$Tree" 191 pr_i298.1) ∈ ev_UW := by
  have e : (tables_1_4.drop 160).take 16 = [(ev_cw pr_i240 1), (Cond.methodLink "OrphanTree$Tree" 169 pr_i291.1), (Cond.instanceMethod pr_i291.1), (Cond.selects pr_i291.1.cls pr_i291.1 pr_i291.1), (ev_cw pr_i291 7), (Cond.methodLink "OrphanTree$Tree" 125 pr_i242.1), (Cond.methodLink "OrphanTree$Tree" 128 pr_i293.1), (Cond.instanceMethod pr_i293.1), (Cond.selects pr_i293.1.cls pr_i293.1 pr_i293.1), (ev_cw pr_i293 5), (Cond.methodLink "OrphanTree$Tree" 178 pr_i294.1), _, (Cond.instanceMethod pr_i294.1), (ev_cw pr_i294 4), (Cond.methodLink "OrphanTree$Tree" 191 pr_i298.1), (Cond.instanceMethod pr_i298.1)] := rfl
  exact ⟨uw_s tk_4 160 e 9 rfl rfl, uw_s tk_4 160 e 7 rfl rfl, uw_s tk_4 160 e 8 rfl rfl, uw_s tk_4 160 e 4 rfl rfl, uw_s tk_4 160 e 2 rfl rfl, uw_s tk_4 160 e 3 rfl rfl, uw_s tk_4 160 e 15 rfl rfl, uw_s tk_4 160 e 5 rfl rfl, uw_s tk_4 160 e 6 rfl rfl, uw_s tk_4 160 e 0 rfl rfl, uw_s tk_4 160 e 1 rfl rfl, uw_s tk_4 160 e 10 rfl rfl, uw_s tk_4 160 e 13 rfl rfl, uw_s tk_4 160 e 12 rfl rfl, uw_s tk_4 160 e 14 rfl rfl⟩
theorem pw_c_293 : ev_cw (pr_I 293) (pr_P 293).1 ∈ ev_UW := wk_c qI_293 pp_293 pt_w4_10.1
theorem pw_v_293 : Cond.instanceMethod (pr_I 293).1 ∈ ev_UW := wk_v qI_293 pt_w4_10.2.1
theorem pw_s_293 : Cond.selects (pr_I 293).1.cls (pr_I 293).1 (pr_I 293).1 ∈ ev_UW := wk_s qI_293 pt_w4_10.2.2.1
theorem pw_c_291 : ev_cw (pr_I 291) (pr_P 291).1 ∈ ev_UW := wk_c qI_291 pp_291 pt_w4_10.2.2.2.1
theorem pw_v_291 : Cond.instanceMethod (pr_I 291).1 ∈ ev_UW := wk_v qI_291 pt_w4_10.2.2.2.2.1
theorem pw_s_291 : Cond.selects (pr_I 291).1.cls (pr_I 291).1 (pr_I 291).1 ∈ ev_UW := wk_s qI_291 pt_w4_10.2.2.2.2.2.1
theorem pw_v_298 : Cond.instanceMethod (pr_I 298).1 ∈ ev_UW := wk_v qI_298 pt_w4_10.2.2.2.2.2.2.1
theorem pw_m_q1_125 : Cond.methodLink "OrphanTree$Tree" 125 (pr_I 242).1 ∈ ev_UW := wk_m qI_242 pt_w4_10.2.2.2.2.2.2.2.1
theorem pw_m_q1_128 : Cond.methodLink "OrphanTree$Tree" 128 (pr_I 293).1 ∈ ev_UW := wk_m qI_293 pt_w4_10.2.2.2.2.2.2.2.2.1
theorem pw_c_240 : ev_cw (pr_I 240) (pr_P 240).1 ∈ ev_UW := wk_c qI_240 pp_240 pt_w4_10.2.2.2.2.2.2.2.2.2.1
theorem pw_m_q1_169 : Cond.methodLink "OrphanTree$Tree" 169 (pr_I 291).1 ∈ ev_UW := wk_m qI_291 pt_w4_10.2.2.2.2.2.2.2.2.2.2.1
theorem pw_m_q1_178 : Cond.methodLink "OrphanTree$Tree" 178 (pr_I 294).1 ∈ ev_UW := wk_m qI_294 pt_w4_10.2.2.2.2.2.2.2.2.2.2.2.1
theorem pw_c_294 : ev_cw (pr_I 294) (pr_P 294).1 ∈ ev_UW := wk_c qI_294 pp_294 pt_w4_10.2.2.2.2.2.2.2.2.2.2.2.2.1
theorem pw_v_294 : Cond.instanceMethod (pr_I 294).1 ∈ ev_UW := wk_v qI_294 pt_w4_10.2.2.2.2.2.2.2.2.2.2.2.2.2.1
theorem pw_m_q1_191 : Cond.methodLink "OrphanTree$Tree" 191 (pr_I 298).1 ∈ ev_UW := wk_m qI_298 pt_w4_10.2.2.2.2.2.2.2.2.2.2.2.2.2.2
theorem pt_w5_4 : (Cond.methodLink "OrphanTree" 284 pr_i71.1) ∈ ev_UW ∧ (ev_cw pr_i71 4) ∈ ev_UW ∧ (Cond.instanceMethod pr_i71.1) ∈ ev_UW ∧ (ev_cw pr_i30 3) ∈ ev_UW ∧ (Cond.instanceMethod pr_i30.1) ∈ ev_UW ∧ (Cond.selects pr_i30.1.cls pr_i30.1 pr_i30.1) ∈ ev_UW ∧ (Cond.methodLink "OrphanTreeLaw" 87 pr_i31.1) ∈ ev_UW ∧ (ev_cw pr_i31 3) ∈ ev_UW ∧ (Cond.instanceMethod pr_i31.1) ∈ ev_UW ∧ (Cond.selects pr_i31.1.cls pr_i31.1 pr_i31.1) ∈ ev_UW ∧ (Cond.methodLink "OrphanTreeLaw" 276 pr_i327.1) ∈ ev_UW ∧ (Cond.static pr_i327.1) ∈ ev_UW ∧ (ev_cw pr_i327 5) ∈ ev_UW ∧ (Cond.methodLink "OrphanTreeLaw" 279 pr_i328.1) ∈ ev_UW ∧ (Cond.static pr_i328.1) ∈ ev_UW := by
  have e : (tables_1_5.drop 64).take 16 = [(Cond.instanceMethod pr_i30.1), (Cond.selects pr_i30.1.cls pr_i30.1 pr_i30.1), (ev_cw pr_i30 3), (Cond.methodLink "OrphanTree" 284 pr_i71.1), _, (Cond.instanceMethod pr_i71.1), (ev_cw pr_i71 4), (Cond.methodLink "OrphanTreeLaw" 276 pr_i327.1), (Cond.static pr_i327.1), (ev_cw pr_i327 5), (Cond.methodLink "OrphanTreeLaw" 87 pr_i31.1), (Cond.instanceMethod pr_i31.1), (Cond.selects pr_i31.1.cls pr_i31.1 pr_i31.1), (ev_cw pr_i31 3), (Cond.methodLink "OrphanTreeLaw" 279 pr_i328.1), (Cond.static pr_i328.1)] := rfl
  exact ⟨uw_s tk_5 64 e 3 rfl rfl, uw_s tk_5 64 e 6 rfl rfl, uw_s tk_5 64 e 5 rfl rfl, uw_s tk_5 64 e 2 rfl rfl, uw_s tk_5 64 e 0 rfl rfl, uw_s tk_5 64 e 1 rfl rfl, uw_s tk_5 64 e 10 rfl rfl, uw_s tk_5 64 e 13 rfl rfl, uw_s tk_5 64 e 11 rfl rfl, uw_s tk_5 64 e 12 rfl rfl, uw_s tk_5 64 e 7 rfl rfl, uw_s tk_5 64 e 8 rfl rfl, uw_s tk_5 64 e 9 rfl rfl, uw_s tk_5 64 e 14 rfl rfl, uw_s tk_5 64 e 15 rfl rfl⟩
theorem pw_m_q0_284 : Cond.methodLink "OrphanTree" 284 (pr_I 71).1 ∈ ev_UW := wk_m qI_71 pt_w5_4.1
theorem pw_c_71 : ev_cw (pr_I 71) (pr_P 71).1 ∈ ev_UW := wk_c qI_71 pp_71 pt_w5_4.2.1
theorem pw_v_71 : Cond.instanceMethod (pr_I 71).1 ∈ ev_UW := wk_v qI_71 pt_w5_4.2.2.1
theorem pw_c_30 : ev_cw (pr_I 30) (pr_P 30).1 ∈ ev_UW := wk_c qI_30 pp_30 pt_w5_4.2.2.2.1
theorem pw_v_30 : Cond.instanceMethod (pr_I 30).1 ∈ ev_UW := wk_v qI_30 pt_w5_4.2.2.2.2.1
theorem pw_s_30 : Cond.selects (pr_I 30).1.cls (pr_I 30).1 (pr_I 30).1 ∈ ev_UW := wk_s qI_30 pt_w5_4.2.2.2.2.2.1
theorem pw_m_q15_87 : Cond.methodLink "OrphanTreeLaw" 87 (pr_I 31).1 ∈ ev_UW := wk_m qI_31 pt_w5_4.2.2.2.2.2.2.1
theorem pw_c_31 : ev_cw (pr_I 31) (pr_P 31).1 ∈ ev_UW := wk_c qI_31 pp_31 pt_w5_4.2.2.2.2.2.2.2.1
theorem pw_v_31 : Cond.instanceMethod (pr_I 31).1 ∈ ev_UW := wk_v qI_31 pt_w5_4.2.2.2.2.2.2.2.2.1
theorem pw_s_31 : Cond.selects (pr_I 31).1.cls (pr_I 31).1 (pr_I 31).1 ∈ ev_UW := wk_s qI_31 pt_w5_4.2.2.2.2.2.2.2.2.2.1
theorem pw_m_q15_276 : Cond.methodLink "OrphanTreeLaw" 276 (pr_I 327).1 ∈ ev_UW := wk_m qI_327 pt_w5_4.2.2.2.2.2.2.2.2.2.2.1
theorem pw_t_327 : Cond.static (pr_I 327).1 ∈ ev_UW := wk_t qI_327 pt_w5_4.2.2.2.2.2.2.2.2.2.2.2.1
theorem pw_c_327 : ev_cw (pr_I 327) (pr_P 327).1 ∈ ev_UW := wk_c qI_327 pp_327 pt_w5_4.2.2.2.2.2.2.2.2.2.2.2.2.1
theorem pw_m_q15_279 : Cond.methodLink "OrphanTreeLaw" 279 (pr_I 328).1 ∈ ev_UW := wk_m qI_328 pt_w5_4.2.2.2.2.2.2.2.2.2.2.2.2.2.1
theorem pw_t_328 : Cond.static (pr_I 328).1 ∈ ev_UW := wk_t qI_328 pt_w5_4.2.2.2.2.2.2.2.2.2.2.2.2.2.2
theorem pt_w2_12 : (ev_cw pr_i274 2) ∈ ev_UW ∧ (Cond.instanceMethod pr_i274.1) ∈ ev_UW ∧ (Cond.selects pr_i274.1.cls pr_i274.1 pr_i274.1) ∈ ev_UW ∧ (ev_cw pr_i255 1) ∈ ev_UW ∧ (Cond.instanceMethod pr_i255.1) ∈ ev_UW ∧ (Cond.methodLink "OrphanTree$SetupReader" 82 pr_i256.1) ∈ ev_UW ∧ (ev_cw pr_i256 4) ∈ ev_UW ∧ (Cond.instanceMethod pr_i256.1) ∈ ev_UW ∧ (Cond.methodLink "OrphanTree$SetupReader" 156 pr_i261.1) ∈ ev_UW ∧ (ev_cw pr_i261 2) ∈ ev_UW ∧ (Cond.instanceMethod pr_i261.1) ∈ ev_UW ∧ (Cond.methodLink "OrphanTree$SetupReader" 160 pr_i242.1) ∈ ev_UW ∧ (Cond.methodLink "OrphanTree$SetupReader" 189 pr_i274.1) ∈ ev_UW := by
  have e : (tables_1_2.drop 192).take 16 = [(Cond.instanceMethod pr_i255.1), (ev_cw pr_i255 1), _, (Cond.methodLink "OrphanTree$SetupReader" 82 pr_i256.1), _, (Cond.instanceMethod pr_i256.1), (ev_cw pr_i256 4), (Cond.methodLink "OrphanTree$SetupReader" 156 pr_i261.1), _, (Cond.instanceMethod pr_i261.1), (ev_cw pr_i261 2), (Cond.methodLink "OrphanTree$SetupReader" 189 pr_i274.1), (Cond.instanceMethod pr_i274.1), (Cond.selects pr_i274.1.cls pr_i274.1 pr_i274.1), (ev_cw pr_i274 2), (Cond.methodLink "OrphanTree$SetupReader" 160 pr_i242.1)] := rfl
  exact ⟨uw_s tk_2 192 e 14 rfl rfl, uw_s tk_2 192 e 12 rfl rfl, uw_s tk_2 192 e 13 rfl rfl, uw_s tk_2 192 e 1 rfl rfl, uw_s tk_2 192 e 0 rfl rfl, uw_s tk_2 192 e 3 rfl rfl, uw_s tk_2 192 e 6 rfl rfl, uw_s tk_2 192 e 5 rfl rfl, uw_s tk_2 192 e 7 rfl rfl, uw_s tk_2 192 e 10 rfl rfl, uw_s tk_2 192 e 9 rfl rfl, uw_s tk_2 192 e 15 rfl rfl, uw_s tk_2 192 e 11 rfl rfl⟩
theorem pw_c_274 : ev_cw (pr_I 274) (pr_P 274).1 ∈ ev_UW := wk_c qI_274 pp_274 pt_w2_12.1
theorem pw_v_274 : Cond.instanceMethod (pr_I 274).1 ∈ ev_UW := wk_v qI_274 pt_w2_12.2.1
theorem pw_s_274 : Cond.selects (pr_I 274).1.cls (pr_I 274).1 (pr_I 274).1 ∈ ev_UW := wk_s qI_274 pt_w2_12.2.2.1
theorem pw_c_255 : ev_cw (pr_I 255) (pr_P 255).1 ∈ ev_UW := wk_c qI_255 pp_255 pt_w2_12.2.2.2.1
theorem pw_v_255 : Cond.instanceMethod (pr_I 255).1 ∈ ev_UW := wk_v qI_255 pt_w2_12.2.2.2.2.1
theorem pw_m_q3_82 : Cond.methodLink "OrphanTree$SetupReader" 82 (pr_I 256).1 ∈ ev_UW := wk_m qI_256 pt_w2_12.2.2.2.2.2.1
theorem pw_c_256 : ev_cw (pr_I 256) (pr_P 256).1 ∈ ev_UW := wk_c qI_256 pp_256 pt_w2_12.2.2.2.2.2.2.1
theorem pw_v_256 : Cond.instanceMethod (pr_I 256).1 ∈ ev_UW := wk_v qI_256 pt_w2_12.2.2.2.2.2.2.2.1
theorem pw_m_q3_156 : Cond.methodLink "OrphanTree$SetupReader" 156 (pr_I 261).1 ∈ ev_UW := wk_m qI_261 pt_w2_12.2.2.2.2.2.2.2.2.1
theorem pw_c_261 : ev_cw (pr_I 261) (pr_P 261).1 ∈ ev_UW := wk_c qI_261 pp_261 pt_w2_12.2.2.2.2.2.2.2.2.2.1
theorem pw_v_261 : Cond.instanceMethod (pr_I 261).1 ∈ ev_UW := wk_v qI_261 pt_w2_12.2.2.2.2.2.2.2.2.2.2.1
theorem pw_m_q3_160 : Cond.methodLink "OrphanTree$SetupReader" 160 (pr_I 242).1 ∈ ev_UW := wk_m qI_242 pt_w2_12.2.2.2.2.2.2.2.2.2.2.2.1
theorem pw_m_q3_189 : Cond.methodLink "OrphanTree$SetupReader" 189 (pr_I 274).1 ∈ ev_UW := wk_m qI_274 pt_w2_12.2.2.2.2.2.2.2.2.2.2.2.2
theorem pt_w5_7 : (Cond.methodLink "OrphanTree" 290 pr_i237.1) ∈ ev_UW ∧ (ev_cw pr_i38 7) ∈ ev_UW ∧ (Cond.methodLink "OrphanTreeLaw" 106 pr_i39.1) ∈ ev_UW ∧ (ev_cw pr_i39 2) ∈ ev_UW ∧ (Cond.instanceMethod pr_i39.1) ∈ ev_UW ∧ (Cond.selects pr_i39.1.cls pr_i39.1 pr_i39.1) ∈ ev_UW ∧ (Cond.methodLink "OrphanTreeLaw" 109 pr_i40.1) ∈ ev_UW ∧ (ev_cw pr_i40 7) ∈ ev_UW ∧ (Cond.instanceMethod pr_i40.1) ∈ ev_UW ∧ (Cond.selects pr_i40.1.cls pr_i40.1 pr_i40.1) ∈ ev_UW ∧ (Cond.methodLink "OrphanTreeLaw" 303 pr_i333.1) ∈ ev_UW ∧ (Cond.static pr_i333.1) ∈ ev_UW ∧ (ev_cw pr_i333 4) ∈ ev_UW ∧ (Cond.methodLink "OrphanTreeLaw" 306 pr_i334.1) ∈ ev_UW ∧ (Cond.static pr_i334.1) ∈ ev_UW ∧ (ev_cw pr_i334 4) ∈ ev_UW := by
  have e : (tables_1_5.drop 112).take 16 = [(ev_cw pr_i38 7), (Cond.methodLink "OrphanTreeLaw" 303 pr_i333.1), (Cond.static pr_i333.1), (ev_cw pr_i333 4), (Cond.methodLink "OrphanTreeLaw" 106 pr_i39.1), (Cond.instanceMethod pr_i39.1), (Cond.selects pr_i39.1.cls pr_i39.1 pr_i39.1), (ev_cw pr_i39 2), (Cond.methodLink "OrphanTreeLaw" 306 pr_i334.1), (Cond.static pr_i334.1), (ev_cw pr_i334 4), (Cond.methodLink "OrphanTreeLaw" 109 pr_i40.1), (Cond.instanceMethod pr_i40.1), (Cond.selects pr_i40.1.cls pr_i40.1 pr_i40.1), (ev_cw pr_i40 7), (Cond.methodLink "OrphanTree" 290 pr_i237.1)] := rfl
  exact ⟨uw_s tk_5 112 e 15 rfl rfl, uw_s tk_5 112 e 0 rfl rfl, uw_s tk_5 112 e 4 rfl rfl, uw_s tk_5 112 e 7 rfl rfl, uw_s tk_5 112 e 5 rfl rfl, uw_s tk_5 112 e 6 rfl rfl, uw_s tk_5 112 e 11 rfl rfl, uw_s tk_5 112 e 14 rfl rfl, uw_s tk_5 112 e 12 rfl rfl, uw_s tk_5 112 e 13 rfl rfl, uw_s tk_5 112 e 1 rfl rfl, uw_s tk_5 112 e 2 rfl rfl, uw_s tk_5 112 e 3 rfl rfl, uw_s tk_5 112 e 8 rfl rfl, uw_s tk_5 112 e 9 rfl rfl, uw_s tk_5 112 e 10 rfl rfl⟩
theorem pw_m_q0_290 : Cond.methodLink "OrphanTree" 290 (pr_I 237).1 ∈ ev_UW := wk_m qI_237 pt_w5_7.1
theorem pw_c_38 : ev_cw (pr_I 38) (pr_P 38).1 ∈ ev_UW := wk_c qI_38 pp_38 pt_w5_7.2.1
theorem pw_m_q15_106 : Cond.methodLink "OrphanTreeLaw" 106 (pr_I 39).1 ∈ ev_UW := wk_m qI_39 pt_w5_7.2.2.1
theorem pw_c_39 : ev_cw (pr_I 39) (pr_P 39).1 ∈ ev_UW := wk_c qI_39 pp_39 pt_w5_7.2.2.2.1
theorem pw_v_39 : Cond.instanceMethod (pr_I 39).1 ∈ ev_UW := wk_v qI_39 pt_w5_7.2.2.2.2.1
theorem pw_s_39 : Cond.selects (pr_I 39).1.cls (pr_I 39).1 (pr_I 39).1 ∈ ev_UW := wk_s qI_39 pt_w5_7.2.2.2.2.2.1
theorem pw_m_q15_109 : Cond.methodLink "OrphanTreeLaw" 109 (pr_I 40).1 ∈ ev_UW := wk_m qI_40 pt_w5_7.2.2.2.2.2.2.1
theorem pw_c_40 : ev_cw (pr_I 40) (pr_P 40).1 ∈ ev_UW := wk_c qI_40 pp_40 pt_w5_7.2.2.2.2.2.2.2.1
theorem pw_v_40 : Cond.instanceMethod (pr_I 40).1 ∈ ev_UW := wk_v qI_40 pt_w5_7.2.2.2.2.2.2.2.2.1
theorem pw_s_40 : Cond.selects (pr_I 40).1.cls (pr_I 40).1 (pr_I 40).1 ∈ ev_UW := wk_s qI_40 pt_w5_7.2.2.2.2.2.2.2.2.2.1
theorem pw_m_q15_303 : Cond.methodLink "OrphanTreeLaw" 303 (pr_I 333).1 ∈ ev_UW := wk_m qI_333 pt_w5_7.2.2.2.2.2.2.2.2.2.2.1
theorem pw_t_333 : Cond.static (pr_I 333).1 ∈ ev_UW := wk_t qI_333 pt_w5_7.2.2.2.2.2.2.2.2.2.2.2.1
theorem pw_c_333 : ev_cw (pr_I 333) (pr_P 333).1 ∈ ev_UW := wk_c qI_333 pp_333 pt_w5_7.2.2.2.2.2.2.2.2.2.2.2.2.1
theorem pw_m_q15_306 : Cond.methodLink "OrphanTreeLaw" 306 (pr_I 334).1 ∈ ev_UW := wk_m qI_334 pt_w5_7.2.2.2.2.2.2.2.2.2.2.2.2.2.1
theorem pw_t_334 : Cond.static (pr_I 334).1 ∈ ev_UW := wk_t qI_334 pt_w5_7.2.2.2.2.2.2.2.2.2.2.2.2.2.2.1
theorem pw_c_334 : ev_cw (pr_I 334) (pr_P 334).1 ∈ ev_UW := wk_c qI_334 pp_334 pt_w5_7.2.2.2.2.2.2.2.2.2.2.2.2.2.2.2
theorem pt_w5_8 : (ev_cw pr_i237 1) ∈ ev_UW ∧ (Cond.instanceMethod pr_i237.1) ∈ ev_UW ∧ (Cond.selects pr_i237.1.cls pr_i237.1 pr_i237.1) ∈ ev_UW ∧ (Cond.methodLink "OrphanTree" 298 pr_i303.1) ∈ ev_UW ∧ (ev_cw pr_i303 5) ∈ ev_UW ∧ (Cond.instanceMethod pr_i303.1) ∈ ev_UW ∧ (Cond.selects pr_i303.1.cls pr_i303.1 pr_i303.1) ∈ ev_UW ∧ (Cond.methodLink "OrphanTree$Tree" 206 pr_i304.1) ∈ ev_UW ∧ (Cond.methodLink "OrphanTreeLaw" 112 pr_i43.1) ∈ ev_UW ∧ (ev_cw pr_i43 4) ∈ ev_UW ∧ (Cond.instanceMethod pr_i43.1) ∈ ev_UW ∧ (Cond.selects pr_i43.1.cls pr_i43.1 pr_i43.1) ∈ ev_UW ∧ (Cond.methodLink "OrphanTreeLaw" 319 pr_i335.1) ∈ ev_UW ∧ (Cond.static pr_i335.1) ∈ ev_UW ∧ (ev_cw pr_i335 5) ∈ ev_UW := by
  have e : (tables_1_5.drop 128).take 16 = [(Cond.instanceMethod pr_i237.1), (Cond.selects pr_i237.1.cls pr_i237.1 pr_i237.1), (ev_cw pr_i237 1), _, (Cond.methodLink "OrphanTreeLaw" 319 pr_i335.1), (Cond.static pr_i335.1), (ev_cw pr_i335 5), (Cond.methodLink "OrphanTreeLaw" 112 pr_i43.1), (Cond.instanceMethod pr_i43.1), (Cond.selects pr_i43.1.cls pr_i43.1 pr_i43.1), (ev_cw pr_i43 4), (Cond.methodLink "OrphanTree" 298 pr_i303.1), (Cond.instanceMethod pr_i303.1), (Cond.selects pr_i303.1.cls pr_i303.1 pr_i303.1), (ev_cw pr_i303 5), (Cond.methodLink "OrphanTree$Tree" 206 pr_i304.1)] := rfl
  exact ⟨uw_s tk_5 128 e 2 rfl rfl, uw_s tk_5 128 e 0 rfl rfl, uw_s tk_5 128 e 1 rfl rfl, uw_s tk_5 128 e 11 rfl rfl, uw_s tk_5 128 e 14 rfl rfl, uw_s tk_5 128 e 12 rfl rfl, uw_s tk_5 128 e 13 rfl rfl, uw_s tk_5 128 e 15 rfl rfl, uw_s tk_5 128 e 7 rfl rfl, uw_s tk_5 128 e 10 rfl rfl, uw_s tk_5 128 e 8 rfl rfl, uw_s tk_5 128 e 9 rfl rfl, uw_s tk_5 128 e 4 rfl rfl, uw_s tk_5 128 e 5 rfl rfl, uw_s tk_5 128 e 6 rfl rfl⟩
theorem pw_c_237 : ev_cw (pr_I 237) (pr_P 237).1 ∈ ev_UW := wk_c qI_237 pp_237 pt_w5_8.1
theorem pw_v_237 : Cond.instanceMethod (pr_I 237).1 ∈ ev_UW := wk_v qI_237 pt_w5_8.2.1
theorem pw_s_237 : Cond.selects (pr_I 237).1.cls (pr_I 237).1 (pr_I 237).1 ∈ ev_UW := wk_s qI_237 pt_w5_8.2.2.1
theorem pw_m_q0_298 : Cond.methodLink "OrphanTree" 298 (pr_I 303).1 ∈ ev_UW := wk_m qI_303 pt_w5_8.2.2.2.1
theorem pw_c_303 : ev_cw (pr_I 303) (pr_P 303).1 ∈ ev_UW := wk_c qI_303 pp_303 pt_w5_8.2.2.2.2.1
theorem pw_v_303 : Cond.instanceMethod (pr_I 303).1 ∈ ev_UW := wk_v qI_303 pt_w5_8.2.2.2.2.2.1
theorem pw_s_303 : Cond.selects (pr_I 303).1.cls (pr_I 303).1 (pr_I 303).1 ∈ ev_UW := wk_s qI_303 pt_w5_8.2.2.2.2.2.2.1
theorem pw_m_q1_206 : Cond.methodLink "OrphanTree$Tree" 206 (pr_I 304).1 ∈ ev_UW := wk_m qI_304 pt_w5_8.2.2.2.2.2.2.2.1
theorem pw_m_q15_112 : Cond.methodLink "OrphanTreeLaw" 112 (pr_I 43).1 ∈ ev_UW := wk_m qI_43 pt_w5_8.2.2.2.2.2.2.2.2.1
theorem pw_c_43 : ev_cw (pr_I 43) (pr_P 43).1 ∈ ev_UW := wk_c qI_43 pp_43 pt_w5_8.2.2.2.2.2.2.2.2.2.1
theorem pw_v_43 : Cond.instanceMethod (pr_I 43).1 ∈ ev_UW := wk_v qI_43 pt_w5_8.2.2.2.2.2.2.2.2.2.2.1
theorem pw_s_43 : Cond.selects (pr_I 43).1.cls (pr_I 43).1 (pr_I 43).1 ∈ ev_UW := wk_s qI_43 pt_w5_8.2.2.2.2.2.2.2.2.2.2.2.1
theorem pw_m_q15_319 : Cond.methodLink "OrphanTreeLaw" 319 (pr_I 335).1 ∈ ev_UW := wk_m qI_335 pt_w5_8.2.2.2.2.2.2.2.2.2.2.2.2.1
theorem pw_t_335 : Cond.static (pr_I 335).1 ∈ ev_UW := wk_t qI_335 pt_w5_8.2.2.2.2.2.2.2.2.2.2.2.2.2.1
theorem pw_c_335 : ev_cw (pr_I 335) (pr_P 335).1 ∈ ev_UW := wk_c qI_335 pp_335 pt_w5_8.2.2.2.2.2.2.2.2.2.2.2.2.2.2
theorem pt_w5_10 : (Cond.methodLink "OrphanTree" 301 pr_i302.1) ∈ ev_UW ∧ (ev_cw pr_i45 3) ∈ ev_UW ∧ (Cond.methodLink "OrphanTreeLaw" 121 pr_i46.1) ∈ ev_UW ∧ (ev_cw pr_i46 2) ∈ ev_UW ∧ (Cond.instanceMethod pr_i46.1) ∈ ev_UW ∧ (Cond.selects pr_i46.1.cls pr_i46.1 pr_i46.1) ∈ ev_UW ∧ (Cond.methodLink "OrphanTreeLaw" 124 pr_i47.1) ∈ ev_UW ∧ (ev_cw pr_i47 8) ∈ ev_UW ∧ (Cond.instanceMethod pr_i47.1) ∈ ev_UW ∧ (Cond.selects pr_i47.1.cls pr_i47.1 pr_i47.1) ∈ ev_UW ∧ (Cond.methodLink "OrphanTreeLaw" 328 pr_i338.1) ∈ ev_UW ∧ (Cond.static pr_i338.1) ∈ ev_UW ∧ (ev_cw pr_i338 4) ∈ ev_UW ∧ (Cond.methodLink "OrphanTreeLaw" 331 pr_i339.1) ∈ ev_UW ∧ (Cond.static pr_i339.1) ∈ ev_UW ∧ (ev_cw pr_i339 4) ∈ ev_UW := by
  have e : (tables_1_5.drop 160).take 16 = [(ev_cw pr_i45 3), (Cond.methodLink "OrphanTree" 301 pr_i302.1), (Cond.methodLink "OrphanTreeLaw" 328 pr_i338.1), (Cond.static pr_i338.1), (ev_cw pr_i338 4), (Cond.methodLink "OrphanTreeLaw" 121 pr_i46.1), (Cond.instanceMethod pr_i46.1), (Cond.selects pr_i46.1.cls pr_i46.1 pr_i46.1), (ev_cw pr_i46 2), (Cond.methodLink "OrphanTreeLaw" 331 pr_i339.1), (Cond.static pr_i339.1), (ev_cw pr_i339 4), (Cond.methodLink "OrphanTreeLaw" 124 pr_i47.1), (Cond.instanceMethod pr_i47.1), (Cond.selects pr_i47.1.cls pr_i47.1 pr_i47.1), (ev_cw pr_i47 8)] := rfl
  exact ⟨uw_s tk_5 160 e 1 rfl rfl, uw_s tk_5 160 e 0 rfl rfl, uw_s tk_5 160 e 5 rfl rfl, uw_s tk_5 160 e 8 rfl rfl, uw_s tk_5 160 e 6 rfl rfl, uw_s tk_5 160 e 7 rfl rfl, uw_s tk_5 160 e 12 rfl rfl, uw_s tk_5 160 e 15 rfl rfl, uw_s tk_5 160 e 13 rfl rfl, uw_s tk_5 160 e 14 rfl rfl, uw_s tk_5 160 e 2 rfl rfl, uw_s tk_5 160 e 3 rfl rfl, uw_s tk_5 160 e 4 rfl rfl, uw_s tk_5 160 e 9 rfl rfl, uw_s tk_5 160 e 10 rfl rfl, uw_s tk_5 160 e 11 rfl rfl⟩
theorem pw_m_q0_301 : Cond.methodLink "OrphanTree" 301 (pr_I 302).1 ∈ ev_UW := wk_m qI_302 pt_w5_10.1
theorem pw_c_45 : ev_cw (pr_I 45) (pr_P 45).1 ∈ ev_UW := wk_c qI_45 pp_45 pt_w5_10.2.1
theorem pw_m_q15_121 : Cond.methodLink "OrphanTreeLaw" 121 (pr_I 46).1 ∈ ev_UW := wk_m qI_46 pt_w5_10.2.2.1
theorem pw_c_46 : ev_cw (pr_I 46) (pr_P 46).1 ∈ ev_UW := wk_c qI_46 pp_46 pt_w5_10.2.2.2.1
theorem pw_v_46 : Cond.instanceMethod (pr_I 46).1 ∈ ev_UW := wk_v qI_46 pt_w5_10.2.2.2.2.1
theorem pw_s_46 : Cond.selects (pr_I 46).1.cls (pr_I 46).1 (pr_I 46).1 ∈ ev_UW := wk_s qI_46 pt_w5_10.2.2.2.2.2.1
theorem pw_m_q15_124 : Cond.methodLink "OrphanTreeLaw" 124 (pr_I 47).1 ∈ ev_UW := wk_m qI_47 pt_w5_10.2.2.2.2.2.2.1
theorem pw_c_47 : ev_cw (pr_I 47) (pr_P 47).1 ∈ ev_UW := wk_c qI_47 pp_47 pt_w5_10.2.2.2.2.2.2.2.1
theorem pw_v_47 : Cond.instanceMethod (pr_I 47).1 ∈ ev_UW := wk_v qI_47 pt_w5_10.2.2.2.2.2.2.2.2.1
theorem pw_s_47 : Cond.selects (pr_I 47).1.cls (pr_I 47).1 (pr_I 47).1 ∈ ev_UW := wk_s qI_47 pt_w5_10.2.2.2.2.2.2.2.2.2.1
theorem pw_m_q15_328 : Cond.methodLink "OrphanTreeLaw" 328 (pr_I 338).1 ∈ ev_UW := wk_m qI_338 pt_w5_10.2.2.2.2.2.2.2.2.2.2.1
theorem pw_t_338 : Cond.static (pr_I 338).1 ∈ ev_UW := wk_t qI_338 pt_w5_10.2.2.2.2.2.2.2.2.2.2.2.1
theorem pw_c_338 : ev_cw (pr_I 338) (pr_P 338).1 ∈ ev_UW := wk_c qI_338 pp_338 pt_w5_10.2.2.2.2.2.2.2.2.2.2.2.2.1
theorem pw_m_q15_331 : Cond.methodLink "OrphanTreeLaw" 331 (pr_I 339).1 ∈ ev_UW := wk_m qI_339 pt_w5_10.2.2.2.2.2.2.2.2.2.2.2.2.2.1
theorem pw_t_339 : Cond.static (pr_I 339).1 ∈ ev_UW := wk_t qI_339 pt_w5_10.2.2.2.2.2.2.2.2.2.2.2.2.2.2.1
theorem pw_c_339 : ev_cw (pr_I 339) (pr_P 339).1 ∈ ev_UW := wk_c qI_339 pp_339 pt_w5_10.2.2.2.2.2.2.2.2.2.2.2.2.2.2.2
theorem pt_w5_11 : (Cond.methodLink "OrphanTree" 304 pr_i298.1) ∈ ev_UW ∧ (Cond.methodLink "OrphanTreeLaw" 127 pr_i49.1) ∈ ev_UW ∧ (ev_cw pr_i49 8) ∈ ev_UW ∧ (Cond.instanceMethod pr_i49.1) ∈ ev_UW ∧ (Cond.selects pr_i49.1.cls pr_i49.1 pr_i49.1) ∈ ev_UW ∧ (Cond.methodLink "OrphanTreeLaw" 130 pr_i50.1) ∈ ev_UW ∧ (ev_cw pr_i50 2) ∈ ev_UW ∧ (Cond.instanceMethod pr_i50.1) ∈ ev_UW ∧ (Cond.selects pr_i50.1.cls pr_i50.1 pr_i50.1) ∈ ev_UW ∧ (Cond.methodLink "OrphanTreeLaw" 338 pr_i340.1) ∈ ev_UW ∧ (Cond.static pr_i340.1) ∈ ev_UW ∧ (ev_cw pr_i340 4) ∈ ev_UW ∧ (Cond.methodLink "OrphanTreeLaw" 341 pr_i341.1) ∈ ev_UW ∧ (Cond.static pr_i341.1) ∈ ev_UW ∧ (ev_cw pr_i341 4) ∈ ev_UW ∧ (Cond.methodLink "OrphanTreeLaw" 344 pr_i342.1) ∈ ev_UW := by
  have e : (tables_1_5.drop 176).take 16 = [(Cond.methodLink "OrphanTreeLaw" 338 pr_i340.1), (Cond.static pr_i340.1), (ev_cw pr_i340 4), (Cond.methodLink "OrphanTreeLaw" 127 pr_i49.1), (Cond.instanceMethod pr_i49.1), (Cond.selects pr_i49.1.cls pr_i49.1 pr_i49.1), (ev_cw pr_i49 8), (Cond.methodLink "OrphanTree" 304 pr_i298.1), (Cond.methodLink "OrphanTreeLaw" 341 pr_i341.1), (Cond.static pr_i341.1), (ev_cw pr_i341 4), (Cond.methodLink "OrphanTreeLaw" 130 pr_i50.1), (Cond.instanceMethod pr_i50.1), (Cond.selects pr_i50.1.cls pr_i50.1 pr_i50.1), (ev_cw pr_i50 2), (Cond.methodLink "OrphanTreeLaw" 344 pr_i342.1)] := rfl
  exact ⟨uw_s tk_5 176 e 7 rfl rfl, uw_s tk_5 176 e 3 rfl rfl, uw_s tk_5 176 e 6 rfl rfl, uw_s tk_5 176 e 4 rfl rfl, uw_s tk_5 176 e 5 rfl rfl, uw_s tk_5 176 e 11 rfl rfl, uw_s tk_5 176 e 14 rfl rfl, uw_s tk_5 176 e 12 rfl rfl, uw_s tk_5 176 e 13 rfl rfl, uw_s tk_5 176 e 0 rfl rfl, uw_s tk_5 176 e 1 rfl rfl, uw_s tk_5 176 e 2 rfl rfl, uw_s tk_5 176 e 8 rfl rfl, uw_s tk_5 176 e 9 rfl rfl, uw_s tk_5 176 e 10 rfl rfl, uw_s tk_5 176 e 15 rfl rfl⟩
theorem pw_m_q0_304 : Cond.methodLink "OrphanTree" 304 (pr_I 298).1 ∈ ev_UW := wk_m qI_298 pt_w5_11.1
theorem pw_m_q15_127 : Cond.methodLink "OrphanTreeLaw" 127 (pr_I 49).1 ∈ ev_UW := wk_m qI_49 pt_w5_11.2.1
theorem pw_c_49 : ev_cw (pr_I 49) (pr_P 49).1 ∈ ev_UW := wk_c qI_49 pp_49 pt_w5_11.2.2.1
theorem pw_v_49 : Cond.instanceMethod (pr_I 49).1 ∈ ev_UW := wk_v qI_49 pt_w5_11.2.2.2.1
theorem pw_s_49 : Cond.selects (pr_I 49).1.cls (pr_I 49).1 (pr_I 49).1 ∈ ev_UW := wk_s qI_49 pt_w5_11.2.2.2.2.1
theorem pw_m_q15_130 : Cond.methodLink "OrphanTreeLaw" 130 (pr_I 50).1 ∈ ev_UW := wk_m qI_50 pt_w5_11.2.2.2.2.2.1
theorem pw_c_50 : ev_cw (pr_I 50) (pr_P 50).1 ∈ ev_UW := wk_c qI_50 pp_50 pt_w5_11.2.2.2.2.2.2.1
theorem pw_v_50 : Cond.instanceMethod (pr_I 50).1 ∈ ev_UW := wk_v qI_50 pt_w5_11.2.2.2.2.2.2.2.1
theorem pw_s_50 : Cond.selects (pr_I 50).1.cls (pr_I 50).1 (pr_I 50).1 ∈ ev_UW := wk_s qI_50 pt_w5_11.2.2.2.2.2.2.2.2.1
theorem pw_m_q15_338 : Cond.methodLink "OrphanTreeLaw" 338 (pr_I 340).1 ∈ ev_UW := wk_m qI_340 pt_w5_11.2.2.2.2.2.2.2.2.2.1
theorem pw_t_340 : Cond.static (pr_I 340).1 ∈ ev_UW := wk_t qI_340 pt_w5_11.2.2.2.2.2.2.2.2.2.2.1
theorem pw_c_340 : ev_cw (pr_I 340) (pr_P 340).1 ∈ ev_UW := wk_c qI_340 pp_340 pt_w5_11.2.2.2.2.2.2.2.2.2.2.2.1
theorem pw_m_q15_341 : Cond.methodLink "OrphanTreeLaw" 341 (pr_I 341).1 ∈ ev_UW := wk_m qI_341 pt_w5_11.2.2.2.2.2.2.2.2.2.2.2.2.1
theorem pw_t_341 : Cond.static (pr_I 341).1 ∈ ev_UW := wk_t qI_341 pt_w5_11.2.2.2.2.2.2.2.2.2.2.2.2.2.1
theorem pw_c_341 : ev_cw (pr_I 341) (pr_P 341).1 ∈ ev_UW := wk_c qI_341 pp_341 pt_w5_11.2.2.2.2.2.2.2.2.2.2.2.2.2.2.1
theorem pw_m_q15_344 : Cond.methodLink "OrphanTreeLaw" 344 (pr_I 342).1 ∈ ev_UW := wk_m qI_342 pt_w5_11.2.2.2.2.2.2.2.2.2.2.2.2.2.2.2
theorem pt_w4_11 : (ev_cw pr_i298 3) ∈ ev_UW ∧ (Cond.selects pr_i298.1.cls pr_i298.1 pr_i298.1) ∈ ev_UW ∧ (Cond.methodLink "OrphanTree$Tree" 181 pr_i295.1) ∈ ev_UW ∧ (ev_cw pr_i295 11) ∈ ev_UW ∧ (Cond.instanceMethod pr_i295.1) ∈ ev_UW ∧ (Cond.methodLink "OrphanTree$Tree" 185 pr_i296.1) ∈ ev_UW ∧ (ev_cw pr_i296 8) ∈ ev_UW ∧ (Cond.instanceMethod pr_i296.1) ∈ ev_UW ∧ (Cond.methodLink "OrphanTree$Tree" 188 pr_i297.1) ∈ ev_UW ∧ (ev_cw pr_i297 7) ∈ ev_UW ∧ (Cond.instanceMethod pr_i297.1) ∈ ev_UW ∧ (Cond.methodLink "OrphanTree$Tree" 195 pr_i236.1) ∈ ev_UW ∧ (Cond.methodLink "OrphanTree$Tree" 198 pr_i241.1) ∈ ev_UW := by
  have e : (tables_1_4.drop 176).take 16 = [(Cond.selects pr_i298.1.cls pr_i298.1 pr_i298.1), (ev_cw pr_i298 3), (Cond.methodLink "OrphanTree$Tree" 195 pr_i236.1), (Cond.methodLink "OrphanTree$Tree" 198 pr_i241.1), (Cond.methodLink "OrphanTree$Tree" 181 pr_i295.1), _, (Cond.instanceMethod pr_i295.1), (ev_cw pr_i295 11), (Cond.methodLink "OrphanTree$Tree" 185 pr_i296.1), _, (Cond.instanceMethod pr_i296.1), (ev_cw pr_i296 8), (Cond.methodLink "OrphanTree$Tree" 188 pr_i297.1), _, (Cond.instanceMethod pr_i297.1), (ev_cw pr_i297 7)] := rfl
  exact ⟨uw_s tk_4 176 e 1 rfl rfl, uw_s tk_4 176 e 0 rfl rfl, uw_s tk_4 176 e 4 rfl rfl, uw_s tk_4 176 e 7 rfl rfl, uw_s tk_4 176 e 6 rfl rfl, uw_s tk_4 176 e 8 rfl rfl, uw_s tk_4 176 e 11 rfl rfl, uw_s tk_4 176 e 10 rfl rfl, uw_s tk_4 176 e 12 rfl rfl, uw_s tk_4 176 e 15 rfl rfl, uw_s tk_4 176 e 14 rfl rfl, uw_s tk_4 176 e 2 rfl rfl, uw_s tk_4 176 e 3 rfl rfl⟩
theorem pw_c_298 : ev_cw (pr_I 298) (pr_P 298).1 ∈ ev_UW := wk_c qI_298 pp_298 pt_w4_11.1
theorem pw_s_298 : Cond.selects (pr_I 298).1.cls (pr_I 298).1 (pr_I 298).1 ∈ ev_UW := wk_s qI_298 pt_w4_11.2.1
theorem pw_m_q1_181 : Cond.methodLink "OrphanTree$Tree" 181 (pr_I 295).1 ∈ ev_UW := wk_m qI_295 pt_w4_11.2.2.1
theorem pw_c_295 : ev_cw (pr_I 295) (pr_P 295).1 ∈ ev_UW := wk_c qI_295 pp_295 pt_w4_11.2.2.2.1
theorem pw_v_295 : Cond.instanceMethod (pr_I 295).1 ∈ ev_UW := wk_v qI_295 pt_w4_11.2.2.2.2.1
theorem pw_m_q1_185 : Cond.methodLink "OrphanTree$Tree" 185 (pr_I 296).1 ∈ ev_UW := wk_m qI_296 pt_w4_11.2.2.2.2.2.1
theorem pw_c_296 : ev_cw (pr_I 296) (pr_P 296).1 ∈ ev_UW := wk_c qI_296 pp_296 pt_w4_11.2.2.2.2.2.2.1
theorem pw_v_296 : Cond.instanceMethod (pr_I 296).1 ∈ ev_UW := wk_v qI_296 pt_w4_11.2.2.2.2.2.2.2.1
theorem pw_m_q1_188 : Cond.methodLink "OrphanTree$Tree" 188 (pr_I 297).1 ∈ ev_UW := wk_m qI_297 pt_w4_11.2.2.2.2.2.2.2.2.1
theorem pw_c_297 : ev_cw (pr_I 297) (pr_P 297).1 ∈ ev_UW := wk_c qI_297 pp_297 pt_w4_11.2.2.2.2.2.2.2.2.2.1
theorem pw_v_297 : Cond.instanceMethod (pr_I 297).1 ∈ ev_UW := wk_v qI_297 pt_w4_11.2.2.2.2.2.2.2.2.2.2.1
theorem pw_m_q1_195 : Cond.methodLink "OrphanTree$Tree" 195 (pr_I 236).1 ∈ ev_UW := wk_m qI_236 pt_w4_11.2.2.2.2.2.2.2.2.2.2.2.1
theorem pw_m_q1_198 : Cond.methodLink "OrphanTree$Tree" 198 (pr_I 241).1 ∈ ev_UW := wk_m qI_241 pt_w4_11.2.2.2.2.2.2.2.2.2.2.2.2
theorem pt_w5_13 : (Cond.methodLink "OrphanTree" 308 pr_i301.1) ∈ ev_UW ∧ (ev_cw pr_i301 4) ∈ ev_UW ∧ (Cond.instanceMethod pr_i301.1) ∈ ev_UW ∧ (Cond.selects pr_i301.1.cls pr_i301.1 pr_i301.1) ∈ ev_UW ∧ (Cond.methodLink "OrphanTreeLaw" 139 pr_i54.1) ∈ ev_UW ∧ (ev_cw pr_i54 3) ∈ ev_UW ∧ (Cond.instanceMethod pr_i54.1) ∈ ev_UW ∧ (Cond.selects pr_i54.1.cls pr_i54.1 pr_i54.1) ∈ ev_UW ∧ (Cond.methodLink "OrphanTreeLaw" 142 pr_i55.1) ∈ ev_UW ∧ (ev_cw pr_i55 4) ∈ ev_UW ∧ (Cond.instanceMethod pr_i55.1) ∈ ev_UW ∧ (Cond.selects pr_i55.1.cls pr_i55.1 pr_i55.1) ∈ ev_UW ∧ (Cond.methodLink "OrphanTreeLaw" 357 pr_i345.1) ∈ ev_UW ∧ (Cond.static pr_i345.1) ∈ ev_UW ∧ (ev_cw pr_i345 6) ∈ ev_UW ∧ (Cond.methodLink "OrphanTreeLaw" 360 pr_i346.1) ∈ ev_UW := by
  have e : (tables_1_5.drop 208).take 16 = [(Cond.methodLink "OrphanTreeLaw" 139 pr_i54.1), (Cond.instanceMethod pr_i54.1), (Cond.selects pr_i54.1.cls pr_i54.1 pr_i54.1), (ev_cw pr_i54 3), (Cond.methodLink "OrphanTree" 308 pr_i301.1), (Cond.instanceMethod pr_i301.1), (Cond.selects pr_i301.1.cls pr_i301.1 pr_i301.1), (ev_cw pr_i301 4), (Cond.methodLink "OrphanTreeLaw" 357 pr_i345.1), (Cond.static pr_i345.1), (ev_cw pr_i345 6), (Cond.methodLink "OrphanTreeLaw" 142 pr_i55.1), (Cond.instanceMethod pr_i55.1), (Cond.selects pr_i55.1.cls pr_i55.1 pr_i55.1), (ev_cw pr_i55 4), (Cond.methodLink "OrphanTreeLaw" 360 pr_i346.1)] := rfl
  exact ⟨uw_s tk_5 208 e 4 rfl rfl, uw_s tk_5 208 e 7 rfl rfl, uw_s tk_5 208 e 5 rfl rfl, uw_s tk_5 208 e 6 rfl rfl, uw_s tk_5 208 e 0 rfl rfl, uw_s tk_5 208 e 3 rfl rfl, uw_s tk_5 208 e 1 rfl rfl, uw_s tk_5 208 e 2 rfl rfl, uw_s tk_5 208 e 11 rfl rfl, uw_s tk_5 208 e 14 rfl rfl, uw_s tk_5 208 e 12 rfl rfl, uw_s tk_5 208 e 13 rfl rfl, uw_s tk_5 208 e 8 rfl rfl, uw_s tk_5 208 e 9 rfl rfl, uw_s tk_5 208 e 10 rfl rfl, uw_s tk_5 208 e 15 rfl rfl⟩
theorem pw_m_q0_308 : Cond.methodLink "OrphanTree" 308 (pr_I 301).1 ∈ ev_UW := wk_m qI_301 pt_w5_13.1
theorem pw_c_301 : ev_cw (pr_I 301) (pr_P 301).1 ∈ ev_UW := wk_c qI_301 pp_301 pt_w5_13.2.1
theorem pw_v_301 : Cond.instanceMethod (pr_I 301).1 ∈ ev_UW := wk_v qI_301 pt_w5_13.2.2.1
theorem pw_s_301 : Cond.selects (pr_I 301).1.cls (pr_I 301).1 (pr_I 301).1 ∈ ev_UW := wk_s qI_301 pt_w5_13.2.2.2.1
theorem pw_m_q15_139 : Cond.methodLink "OrphanTreeLaw" 139 (pr_I 54).1 ∈ ev_UW := wk_m qI_54 pt_w5_13.2.2.2.2.1
theorem pw_c_54 : ev_cw (pr_I 54) (pr_P 54).1 ∈ ev_UW := wk_c qI_54 pp_54 pt_w5_13.2.2.2.2.2.1
theorem pw_v_54 : Cond.instanceMethod (pr_I 54).1 ∈ ev_UW := wk_v qI_54 pt_w5_13.2.2.2.2.2.2.1
theorem pw_s_54 : Cond.selects (pr_I 54).1.cls (pr_I 54).1 (pr_I 54).1 ∈ ev_UW := wk_s qI_54 pt_w5_13.2.2.2.2.2.2.2.1
theorem pw_m_q15_142 : Cond.methodLink "OrphanTreeLaw" 142 (pr_I 55).1 ∈ ev_UW := wk_m qI_55 pt_w5_13.2.2.2.2.2.2.2.2.1
theorem pw_c_55 : ev_cw (pr_I 55) (pr_P 55).1 ∈ ev_UW := wk_c qI_55 pp_55 pt_w5_13.2.2.2.2.2.2.2.2.2.1
theorem pw_v_55 : Cond.instanceMethod (pr_I 55).1 ∈ ev_UW := wk_v qI_55 pt_w5_13.2.2.2.2.2.2.2.2.2.2.1
theorem pw_s_55 : Cond.selects (pr_I 55).1.cls (pr_I 55).1 (pr_I 55).1 ∈ ev_UW := wk_s qI_55 pt_w5_13.2.2.2.2.2.2.2.2.2.2.2.1
theorem pw_m_q15_357 : Cond.methodLink "OrphanTreeLaw" 357 (pr_I 345).1 ∈ ev_UW := wk_m qI_345 pt_w5_13.2.2.2.2.2.2.2.2.2.2.2.2.1
theorem pw_t_345 : Cond.static (pr_I 345).1 ∈ ev_UW := wk_t qI_345 pt_w5_13.2.2.2.2.2.2.2.2.2.2.2.2.2.1
theorem pw_c_345 : ev_cw (pr_I 345) (pr_P 345).1 ∈ ev_UW := wk_c qI_345 pp_345 pt_w5_13.2.2.2.2.2.2.2.2.2.2.2.2.2.2.1
theorem pw_m_q15_360 : Cond.methodLink "OrphanTreeLaw" 360 (pr_I 346).1 ∈ ev_UW := wk_m qI_346 pt_w5_13.2.2.2.2.2.2.2.2.2.2.2.2.2.2.2
theorem pt_w5_14 : (Cond.methodLink "OrphanTree" 311 pr_i238.1) ∈ ev_UW ∧ (Cond.methodLink "OrphanTreeLaw" 145 pr_i56.1) ∈ ev_UW ∧ (ev_cw pr_i56 3) ∈ ev_UW ∧ (Cond.instanceMethod pr_i56.1) ∈ ev_UW ∧ (Cond.selects pr_i56.1.cls pr_i56.1 pr_i56.1) ∈ ev_UW ∧ (Cond.methodLink "OrphanTreeLaw" 148 pr_i57.1) ∈ ev_UW ∧ (ev_cw pr_i57 10) ∈ ev_UW ∧ (Cond.instanceMethod pr_i57.1) ∈ ev_UW ∧ (Cond.selects pr_i57.1.cls pr_i57.1 pr_i57.1) ∈ ev_UW ∧ (Cond.static pr_i346.1) ∈ ev_UW ∧ (ev_cw pr_i346 4) ∈ ev_UW ∧ (Cond.methodLink "OrphanTreeLaw" 363 pr_i347.1) ∈ ev_UW ∧ (Cond.static pr_i347.1) ∈ ev_UW ∧ (ev_cw pr_i347 4) ∈ ev_UW ∧ (Cond.methodLink "OrphanTreeLaw" 366 pr_i348.1) ∈ ev_UW ∧ (Cond.static pr_i348.1) ∈ ev_UW := by
  have e : (tables_1_5.drop 224).take 16 = [(Cond.static pr_i346.1), (ev_cw pr_i346 4), (Cond.methodLink "OrphanTreeLaw" 145 pr_i56.1), (Cond.instanceMethod pr_i56.1), (Cond.selects pr_i56.1.cls pr_i56.1 pr_i56.1), (ev_cw pr_i56 3), (Cond.methodLink "OrphanTreeLaw" 363 pr_i347.1), (Cond.static pr_i347.1), (ev_cw pr_i347 4), (Cond.methodLink "OrphanTreeLaw" 148 pr_i57.1), (Cond.instanceMethod pr_i57.1), (Cond.selects pr_i57.1.cls pr_i57.1 pr_i57.1), (ev_cw pr_i57 10), (Cond.methodLink "OrphanTree" 311 pr_i238.1), (Cond.methodLink "OrphanTreeLaw" 366 pr_i348.1), (Cond.static pr_i348.1)] := rfl
  exact ⟨uw_s tk_5 224 e 13 rfl rfl, uw_s tk_5 224 e 2 rfl rfl, uw_s tk_5 224 e 5 rfl rfl, uw_s tk_5 224 e 3 rfl rfl, uw_s tk_5 224 e 4 rfl rfl, uw_s tk_5 224 e 9 rfl rfl, uw_s tk_5 224 e 12 rfl rfl, uw_s tk_5 224 e 10 rfl rfl, uw_s tk_5 224 e 11 rfl rfl, uw_s tk_5 224 e 0 rfl rfl, uw_s tk_5 224 e 1 rfl rfl, uw_s tk_5 224 e 6 rfl rfl, uw_s tk_5 224 e 7 rfl rfl, uw_s tk_5 224 e 8 rfl rfl, uw_s tk_5 224 e 14 rfl rfl, uw_s tk_5 224 e 15 rfl rfl⟩
theorem pw_m_q0_311 : Cond.methodLink "OrphanTree" 311 (pr_I 238).1 ∈ ev_UW := wk_m qI_238 pt_w5_14.1
theorem pw_m_q15_145 : Cond.methodLink "OrphanTreeLaw" 145 (pr_I 56).1 ∈ ev_UW := wk_m qI_56 pt_w5_14.2.1
theorem pw_c_56 : ev_cw (pr_I 56) (pr_P 56).1 ∈ ev_UW := wk_c qI_56 pp_56 pt_w5_14.2.2.1
theorem pw_v_56 : Cond.instanceMethod (pr_I 56).1 ∈ ev_UW := wk_v qI_56 pt_w5_14.2.2.2.1
theorem pw_s_56 : Cond.selects (pr_I 56).1.cls (pr_I 56).1 (pr_I 56).1 ∈ ev_UW := wk_s qI_56 pt_w5_14.2.2.2.2.1
theorem pw_m_q15_148 : Cond.methodLink "OrphanTreeLaw" 148 (pr_I 57).1 ∈ ev_UW := wk_m qI_57 pt_w5_14.2.2.2.2.2.1
theorem pw_c_57 : ev_cw (pr_I 57) (pr_P 57).1 ∈ ev_UW := wk_c qI_57 pp_57 pt_w5_14.2.2.2.2.2.2.1
theorem pw_v_57 : Cond.instanceMethod (pr_I 57).1 ∈ ev_UW := wk_v qI_57 pt_w5_14.2.2.2.2.2.2.2.1
theorem pw_s_57 : Cond.selects (pr_I 57).1.cls (pr_I 57).1 (pr_I 57).1 ∈ ev_UW := wk_s qI_57 pt_w5_14.2.2.2.2.2.2.2.2.1
theorem pw_t_346 : Cond.static (pr_I 346).1 ∈ ev_UW := wk_t qI_346 pt_w5_14.2.2.2.2.2.2.2.2.2.1
theorem pw_c_346 : ev_cw (pr_I 346) (pr_P 346).1 ∈ ev_UW := wk_c qI_346 pp_346 pt_w5_14.2.2.2.2.2.2.2.2.2.2.1
theorem pw_m_q15_363 : Cond.methodLink "OrphanTreeLaw" 363 (pr_I 347).1 ∈ ev_UW := wk_m qI_347 pt_w5_14.2.2.2.2.2.2.2.2.2.2.2.1
theorem pw_t_347 : Cond.static (pr_I 347).1 ∈ ev_UW := wk_t qI_347 pt_w5_14.2.2.2.2.2.2.2.2.2.2.2.2.1
theorem pw_c_347 : ev_cw (pr_I 347) (pr_P 347).1 ∈ ev_UW := wk_c qI_347 pp_347 pt_w5_14.2.2.2.2.2.2.2.2.2.2.2.2.2.1
theorem pw_m_q15_366 : Cond.methodLink "OrphanTreeLaw" 366 (pr_I 348).1 ∈ ev_UW := wk_m qI_348 pt_w5_14.2.2.2.2.2.2.2.2.2.2.2.2.2.2.1
theorem pw_t_348 : Cond.static (pr_I 348).1 ∈ ev_UW := wk_t qI_348 pt_w5_14.2.2.2.2.2.2.2.2.2.2.2.2.2.2.2
theorem pt_w6_1 : (Cond.methodLink "OrphanTree" 314 pr_i227.1) ∈ ev_UW ∧ (ev_cw pr_i227 5) ∈ ev_UW ∧ (Cond.instanceMethod pr_i227.1) ∈ ev_UW ∧ (Cond.selects pr_i227.1.cls pr_i227.1 pr_i227.1) ∈ ev_UW ∧ (ev_cw pr_i225 2) ∈ ev_UW ∧ (Cond.instanceMethod pr_i225.1) ∈ ev_UW ∧ (Cond.selects pr_i225.1.cls pr_i225.1 pr_i225.1) ∈ ev_UW ∧ (ev_cw pr_i226 2) ∈ ev_UW ∧ (Cond.instanceMethod pr_i226.1) ∈ ev_UW ∧ (Cond.selects pr_i226.1.cls pr_i226.1 pr_i226.1) ∈ ev_UW ∧ (Cond.methodLink "OrphanTree$Output" 19 pr_i225.1) ∈ ev_UW ∧ (Cond.methodLink "OrphanTree$Output" 23 pr_i243.1) ∈ ev_UW ∧ (Cond.methodLink "OrphanTree$Output" 36 pr_i226.1) ∈ ev_UW ∧ (ev_cw pr_i60 4) ∈ ev_UW ∧ (Cond.instanceMethod pr_i60.1) ∈ ev_UW ∧ (Cond.selects pr_i60.1.cls pr_i60.1 pr_i60.1) ∈ ev_UW := by
  have e : (tables_1_6.drop 16).take 16 = [(Cond.instanceMethod pr_i60.1), (Cond.selects pr_i60.1.cls pr_i60.1 pr_i60.1), (ev_cw pr_i60 4), (Cond.methodLink "OrphanTree" 314 pr_i227.1), (Cond.instanceMethod pr_i227.1), (Cond.selects pr_i227.1.cls pr_i227.1 pr_i227.1), (ev_cw pr_i227 5), (Cond.methodLink "OrphanTree$Output" 23 pr_i243.1), (Cond.methodLink "OrphanTree$Output" 36 pr_i226.1), (Cond.instanceMethod pr_i226.1), (Cond.selects pr_i226.1.cls pr_i226.1 pr_i226.1), (ev_cw pr_i226 2), (Cond.methodLink "OrphanTree$Output" 19 pr_i225.1), (Cond.instanceMethod pr_i225.1), (Cond.selects pr_i225.1.cls pr_i225.1 pr_i225.1), (ev_cw pr_i225 2)] := rfl
  exact ⟨uw_s tk_6 16 e 3 rfl rfl, uw_s tk_6 16 e 6 rfl rfl, uw_s tk_6 16 e 4 rfl rfl, uw_s tk_6 16 e 5 rfl rfl, uw_s tk_6 16 e 15 rfl rfl, uw_s tk_6 16 e 13 rfl rfl, uw_s tk_6 16 e 14 rfl rfl, uw_s tk_6 16 e 11 rfl rfl, uw_s tk_6 16 e 9 rfl rfl, uw_s tk_6 16 e 10 rfl rfl, uw_s tk_6 16 e 12 rfl rfl, uw_s tk_6 16 e 7 rfl rfl, uw_s tk_6 16 e 8 rfl rfl, uw_s tk_6 16 e 2 rfl rfl, uw_s tk_6 16 e 0 rfl rfl, uw_s tk_6 16 e 1 rfl rfl⟩
theorem pw_m_q0_314 : Cond.methodLink "OrphanTree" 314 (pr_I 227).1 ∈ ev_UW := wk_m qI_227 pt_w6_1.1
theorem pw_c_227 : ev_cw (pr_I 227) (pr_P 227).1 ∈ ev_UW := wk_c qI_227 pp_227 pt_w6_1.2.1
theorem pw_v_227 : Cond.instanceMethod (pr_I 227).1 ∈ ev_UW := wk_v qI_227 pt_w6_1.2.2.1
theorem pw_s_227 : Cond.selects (pr_I 227).1.cls (pr_I 227).1 (pr_I 227).1 ∈ ev_UW := wk_s qI_227 pt_w6_1.2.2.2.1
theorem pw_c_225 : ev_cw (pr_I 225) (pr_P 225).1 ∈ ev_UW := wk_c qI_225 pp_225 pt_w6_1.2.2.2.2.1
theorem pw_v_225 : Cond.instanceMethod (pr_I 225).1 ∈ ev_UW := wk_v qI_225 pt_w6_1.2.2.2.2.2.1
theorem pw_s_225 : Cond.selects (pr_I 225).1.cls (pr_I 225).1 (pr_I 225).1 ∈ ev_UW := wk_s qI_225 pt_w6_1.2.2.2.2.2.2.1
theorem pw_c_226 : ev_cw (pr_I 226) (pr_P 226).1 ∈ ev_UW := wk_c qI_226 pp_226 pt_w6_1.2.2.2.2.2.2.2.1
theorem pw_v_226 : Cond.instanceMethod (pr_I 226).1 ∈ ev_UW := wk_v qI_226 pt_w6_1.2.2.2.2.2.2.2.2.1
theorem pw_s_226 : Cond.selects (pr_I 226).1.cls (pr_I 226).1 (pr_I 226).1 ∈ ev_UW := wk_s qI_226 pt_w6_1.2.2.2.2.2.2.2.2.2.1
theorem pw_m_q4_19 : Cond.methodLink "OrphanTree$Output" 19 (pr_I 225).1 ∈ ev_UW := wk_m qI_225 pt_w6_1.2.2.2.2.2.2.2.2.2.2.1
theorem pw_m_q4_23 : Cond.methodLink "OrphanTree$Output" 23 (pr_I 243).1 ∈ ev_UW := wk_m qI_243 pt_w6_1.2.2.2.2.2.2.2.2.2.2.2.1
theorem pw_m_q4_36 : Cond.methodLink "OrphanTree$Output" 36 (pr_I 226).1 ∈ ev_UW := wk_m qI_226 pt_w6_1.2.2.2.2.2.2.2.2.2.2.2.2.1
theorem pw_c_60 : ev_cw (pr_I 60) (pr_P 60).1 ∈ ev_UW := wk_c qI_60 pp_60 pt_w6_1.2.2.2.2.2.2.2.2.2.2.2.2.2.1
theorem pw_v_60 : Cond.instanceMethod (pr_I 60).1 ∈ ev_UW := wk_v qI_60 pt_w6_1.2.2.2.2.2.2.2.2.2.2.2.2.2.2.1
theorem pw_s_60 : Cond.selects (pr_I 60).1.cls (pr_I 60).1 (pr_I 60).1 ∈ ev_UW := wk_s qI_60 pt_w6_1.2.2.2.2.2.2.2.2.2.2.2.2.2.2.2
theorem pt_w6_2 : (Cond.methodLink "OrphanTree" 317 pr_i228.1) ∈ ev_UW ∧ (ev_cw pr_i228 7) ∈ ev_UW ∧ (Cond.instanceMethod pr_i228.1) ∈ ev_UW ∧ (Cond.selects pr_i228.1.cls pr_i228.1 pr_i228.1) ∈ ev_UW ∧ (Cond.methodLink "OrphanTree" 321 pr_i72.1) ∈ ev_UW ∧ (Cond.static pr_i72.1) ∈ ev_UW ∧ (ev_cw pr_i72 9) ∈ ev_UW ∧ (Cond.methodLink "OrphanTree" 325 pr_i229.1) ∈ ev_UW ∧ (Cond.instanceMethod pr_i229.1) ∈ ev_UW ∧ (Cond.methodLink "OrphanTree" 331 pr_i225.1) ∈ ev_UW ∧ (Cond.methodLink "OrphanTree" 355 pr_i226.1) ∈ ev_UW ∧ (Cond.methodLink "OrphanTree$Output" 46 pr_i238.1) ∈ ev_UW ∧ (Cond.methodLink "OrphanTree$Output" 50 pr_i231.1) ∈ ev_UW ∧ (ev_cw pr_i231 1) ∈ ev_UW ∧ (Cond.instanceMethod pr_i231.1) ∈ ev_UW := by
  have e : (tables_1_6.drop 32).take 16 = [(Cond.methodLink "OrphanTree" 317 pr_i228.1), (Cond.instanceMethod pr_i228.1), (Cond.selects pr_i228.1.cls pr_i228.1 pr_i228.1), (ev_cw pr_i228 7), (Cond.methodLink "OrphanTree$Output" 46 pr_i238.1), (Cond.methodLink "OrphanTree$Output" 50 pr_i231.1), _, (Cond.instanceMethod pr_i231.1), (ev_cw pr_i231 1), (Cond.methodLink "OrphanTree" 321 pr_i72.1), (Cond.static pr_i72.1), (ev_cw pr_i72 9), (Cond.methodLink "OrphanTree" 355 pr_i226.1), (Cond.methodLink "OrphanTree" 331 pr_i225.1), (Cond.methodLink "OrphanTree" 325 pr_i229.1), (Cond.instanceMethod pr_i229.1)] := rfl
  exact ⟨uw_s tk_6 32 e 0 rfl rfl, uw_s tk_6 32 e 3 rfl rfl, uw_s tk_6 32 e 1 rfl rfl, uw_s tk_6 32 e 2 rfl rfl, uw_s tk_6 32 e 9 rfl rfl, uw_s tk_6 32 e 10 rfl rfl, uw_s tk_6 32 e 11 rfl rfl, uw_s tk_6 32 e 14 rfl rfl, uw_s tk_6 32 e 15 rfl rfl, uw_s tk_6 32 e 13 rfl rfl, uw_s tk_6 32 e 12 rfl rfl, uw_s tk_6 32 e 4 rfl rfl, uw_s tk_6 32 e 5 rfl rfl, uw_s tk_6 32 e 8 rfl rfl, uw_s tk_6 32 e 7 rfl rfl⟩
theorem pw_m_q0_317 : Cond.methodLink "OrphanTree" 317 (pr_I 228).1 ∈ ev_UW := wk_m qI_228 pt_w6_2.1
theorem pw_c_228 : ev_cw (pr_I 228) (pr_P 228).1 ∈ ev_UW := wk_c qI_228 pp_228 pt_w6_2.2.1
theorem pw_v_228 : Cond.instanceMethod (pr_I 228).1 ∈ ev_UW := wk_v qI_228 pt_w6_2.2.2.1
theorem pw_s_228 : Cond.selects (pr_I 228).1.cls (pr_I 228).1 (pr_I 228).1 ∈ ev_UW := wk_s qI_228 pt_w6_2.2.2.2.1
theorem pw_m_q0_321 : Cond.methodLink "OrphanTree" 321 (pr_I 72).1 ∈ ev_UW := wk_m qI_72 pt_w6_2.2.2.2.2.1
theorem pw_t_72 : Cond.static (pr_I 72).1 ∈ ev_UW := wk_t qI_72 pt_w6_2.2.2.2.2.2.1
theorem pw_c_72 : ev_cw (pr_I 72) (pr_P 72).1 ∈ ev_UW := wk_c qI_72 pp_72 pt_w6_2.2.2.2.2.2.2.1
theorem pw_m_q0_325 : Cond.methodLink "OrphanTree" 325 (pr_I 229).1 ∈ ev_UW := wk_m qI_229 pt_w6_2.2.2.2.2.2.2.2.1
theorem pw_v_229 : Cond.instanceMethod (pr_I 229).1 ∈ ev_UW := wk_v qI_229 pt_w6_2.2.2.2.2.2.2.2.2.1
theorem pw_m_q0_331 : Cond.methodLink "OrphanTree" 331 (pr_I 225).1 ∈ ev_UW := wk_m qI_225 pt_w6_2.2.2.2.2.2.2.2.2.2.1
theorem pw_m_q0_355 : Cond.methodLink "OrphanTree" 355 (pr_I 226).1 ∈ ev_UW := wk_m qI_226 pt_w6_2.2.2.2.2.2.2.2.2.2.2.1
theorem pw_m_q4_46 : Cond.methodLink "OrphanTree$Output" 46 (pr_I 238).1 ∈ ev_UW := wk_m qI_238 pt_w6_2.2.2.2.2.2.2.2.2.2.2.2.1
theorem pw_m_q4_50 : Cond.methodLink "OrphanTree$Output" 50 (pr_I 231).1 ∈ ev_UW := wk_m qI_231 pt_w6_2.2.2.2.2.2.2.2.2.2.2.2.2.1
theorem pw_c_231 : ev_cw (pr_I 231) (pr_P 231).1 ∈ ev_UW := wk_c qI_231 pp_231 pt_w6_2.2.2.2.2.2.2.2.2.2.2.2.2.2.1
theorem pw_v_231 : Cond.instanceMethod (pr_I 231).1 ∈ ev_UW := wk_v qI_231 pt_w6_2.2.2.2.2.2.2.2.2.2.2.2.2.2.2
theorem pt_w6_3 : (ev_cw pr_i229 5) ∈ ev_UW ∧ (Cond.selects pr_i229.1.cls pr_i229.1 pr_i229.1) ∈ ev_UW ∧ (Cond.methodLink "OrphanTree" 328 pr_i230.1) ∈ ev_UW ∧ (ev_cw pr_i230 5) ∈ ev_UW ∧ (Cond.instanceMethod pr_i230.1) ∈ ev_UW ∧ (Cond.selects pr_i230.1.cls pr_i230.1 pr_i230.1) ∈ ev_UW ∧ (Cond.methodLink "OrphanTree$Output" 53 pr_i285.1) ∈ ev_UW ∧ (Cond.methodLink "OrphanTree$Output" 57 pr_i281.1) ∈ ev_UW ∧ (Cond.methodLink "OrphanTreeLaw" 160 pr_i64.1) ∈ ev_UW ∧ (ev_cw pr_i64 1) ∈ ev_UW ∧ (Cond.instanceMethod pr_i64.1) ∈ ev_UW ∧ (Cond.selects pr_i64.1.cls pr_i64.1 pr_i64.1) ∈ ev_UW ∧ (Cond.classLink "OrphanTreeLaw" 165 "OrphanTreeModel") ∈ ev_UW ∧ (Cond.methodLink "OrphanTreeLaw" 387 pr_i351.1) ∈ ev_UW ∧ (Cond.static pr_i351.1) ∈ ev_UW ∧ (ev_cw pr_i351 3) ∈ ev_UW := by
  have e : (tables_1_6.drop 48).take 16 = [(Cond.selects pr_i229.1.cls pr_i229.1 pr_i229.1), (ev_cw pr_i229 5), (Cond.methodLink "OrphanTree$Output" 53 pr_i285.1), (Cond.methodLink "OrphanTree" 328 pr_i230.1), (Cond.instanceMethod pr_i230.1), (Cond.selects pr_i230.1.cls pr_i230.1 pr_i230.1), (ev_cw pr_i230 5), (Cond.methodLink "OrphanTree$Output" 57 pr_i281.1), (Cond.methodLink "OrphanTreeLaw" 387 pr_i351.1), (Cond.static pr_i351.1), (ev_cw pr_i351 3), (Cond.methodLink "OrphanTreeLaw" 160 pr_i64.1), (Cond.instanceMethod pr_i64.1), (Cond.selects pr_i64.1.cls pr_i64.1 pr_i64.1), (ev_cw pr_i64 1), (Cond.classLink "OrphanTreeLaw" 165 "OrphanTreeModel")] := rfl
  exact ⟨uw_s tk_6 48 e 1 rfl rfl, uw_s tk_6 48 e 0 rfl rfl, uw_s tk_6 48 e 3 rfl rfl, uw_s tk_6 48 e 6 rfl rfl, uw_s tk_6 48 e 4 rfl rfl, uw_s tk_6 48 e 5 rfl rfl, uw_s tk_6 48 e 2 rfl rfl, uw_s tk_6 48 e 7 rfl rfl, uw_s tk_6 48 e 11 rfl rfl, uw_s tk_6 48 e 14 rfl rfl, uw_s tk_6 48 e 12 rfl rfl, uw_s tk_6 48 e 13 rfl rfl, uw_s tk_6 48 e 15 rfl rfl, uw_s tk_6 48 e 8 rfl rfl, uw_s tk_6 48 e 9 rfl rfl, uw_s tk_6 48 e 10 rfl rfl⟩
theorem pw_c_229 : ev_cw (pr_I 229) (pr_P 229).1 ∈ ev_UW := wk_c qI_229 pp_229 pt_w6_3.1
theorem pw_s_229 : Cond.selects (pr_I 229).1.cls (pr_I 229).1 (pr_I 229).1 ∈ ev_UW := wk_s qI_229 pt_w6_3.2.1
theorem pw_m_q0_328 : Cond.methodLink "OrphanTree" 328 (pr_I 230).1 ∈ ev_UW := wk_m qI_230 pt_w6_3.2.2.1
theorem pw_c_230 : ev_cw (pr_I 230) (pr_P 230).1 ∈ ev_UW := wk_c qI_230 pp_230 pt_w6_3.2.2.2.1
theorem pw_v_230 : Cond.instanceMethod (pr_I 230).1 ∈ ev_UW := wk_v qI_230 pt_w6_3.2.2.2.2.1
theorem pw_s_230 : Cond.selects (pr_I 230).1.cls (pr_I 230).1 (pr_I 230).1 ∈ ev_UW := wk_s qI_230 pt_w6_3.2.2.2.2.2.1
theorem pw_m_q4_53 : Cond.methodLink "OrphanTree$Output" 53 (pr_I 285).1 ∈ ev_UW := wk_m qI_285 pt_w6_3.2.2.2.2.2.2.1
theorem pw_m_q4_57 : Cond.methodLink "OrphanTree$Output" 57 (pr_I 281).1 ∈ ev_UW := wk_m qI_281 pt_w6_3.2.2.2.2.2.2.2.1
theorem pw_m_q15_160 : Cond.methodLink "OrphanTreeLaw" 160 (pr_I 64).1 ∈ ev_UW := wk_m qI_64 pt_w6_3.2.2.2.2.2.2.2.2.1
theorem pw_c_64 : ev_cw (pr_I 64) (pr_P 64).1 ∈ ev_UW := wk_c qI_64 pp_64 pt_w6_3.2.2.2.2.2.2.2.2.2.1
theorem pw_v_64 : Cond.instanceMethod (pr_I 64).1 ∈ ev_UW := wk_v qI_64 pt_w6_3.2.2.2.2.2.2.2.2.2.2.1
theorem pw_s_64 : Cond.selects (pr_I 64).1.cls (pr_I 64).1 (pr_I 64).1 ∈ ev_UW := wk_s qI_64 pt_w6_3.2.2.2.2.2.2.2.2.2.2.2.1
theorem pw_cl_q15_165 : Cond.classLink "OrphanTreeLaw" 165 "OrphanTreeModel" ∈ ev_UW := pt_w6_3.2.2.2.2.2.2.2.2.2.2.2.2.1
theorem pw_m_q15_387 : Cond.methodLink "OrphanTreeLaw" 387 (pr_I 351).1 ∈ ev_UW := wk_m qI_351 pt_w6_3.2.2.2.2.2.2.2.2.2.2.2.2.2.1
theorem pw_t_351 : Cond.static (pr_I 351).1 ∈ ev_UW := wk_t qI_351 pt_w6_3.2.2.2.2.2.2.2.2.2.2.2.2.2.2.1
theorem pw_c_351 : ev_cw (pr_I 351) (pr_P 351).1 ∈ ev_UW := wk_c qI_351 pp_351 pt_w6_3.2.2.2.2.2.2.2.2.2.2.2.2.2.2.2
theorem pt_w3_6 : (Cond.methodLink "OrphanTree" 339 pr_i220.1) ∈ ev_UW ∧ (ev_cw pr_i220 2) ∈ ev_UW ∧ (Cond.instanceMethod pr_i220.1) ∈ ev_UW ∧ (Cond.selects pr_i220.1.cls pr_i220.1 pr_i220.1) ∈ ev_UW ∧ (Cond.methodLink "OrphanTree$History" 25 pr_i273.1) ∈ ev_UW ∧ (Cond.methodLink "OrphanTreeLaw" 190 pr_i305.1) ∈ ev_UW ∧ (Cond.static pr_i305.1) ∈ ev_UW ∧ (ev_cw pr_i305 4) ∈ ev_UW ∧ (ev_cw pr_i62 1) ∈ ev_UW ∧ (Cond.instanceMethod pr_i62.1) ∈ ev_UW ∧ (Cond.selects pr_i62.1.cls pr_i62.1 pr_i62.1) ∈ ev_UW ∧ (Cond.methodLink "OrphanTreeLaw" 383 pr_i63.1) ∈ ev_UW ∧ (ev_cw pr_i63 1) ∈ ev_UW ∧ (Cond.instanceMethod pr_i63.1) ∈ ev_UW ∧ (Cond.selects pr_i63.1.cls pr_i63.1 pr_i63.1) ∈ ev_UW := by
  have e : (tables_1_3.drop 96).take 16 = [(Cond.instanceMethod pr_i62.1), (Cond.selects pr_i62.1.cls pr_i62.1 pr_i62.1), (ev_cw pr_i62 1), (Cond.methodLink "OrphanTree" 339 pr_i220.1), (Cond.instanceMethod pr_i220.1), (Cond.selects pr_i220.1.cls pr_i220.1 pr_i220.1), (ev_cw pr_i220 2), (Cond.methodLink "OrphanTree$History" 25 pr_i273.1), (Cond.methodLink "OrphanTreeLaw" 383 pr_i63.1), (Cond.instanceMethod pr_i63.1), (Cond.selects pr_i63.1.cls pr_i63.1 pr_i63.1), (ev_cw pr_i63 1), (Cond.methodLink "OrphanTreeLaw" 190 pr_i305.1), (Cond.static pr_i305.1), (ev_cw pr_i305 4), _] := rfl
  exact ⟨uw_s tk_3 96 e 3 rfl rfl, uw_s tk_3 96 e 6 rfl rfl, uw_s tk_3 96 e 4 rfl rfl, uw_s tk_3 96 e 5 rfl rfl, uw_s tk_3 96 e 7 rfl rfl, uw_s tk_3 96 e 12 rfl rfl, uw_s tk_3 96 e 13 rfl rfl, uw_s tk_3 96 e 14 rfl rfl, uw_s tk_3 96 e 2 rfl rfl, uw_s tk_3 96 e 0 rfl rfl, uw_s tk_3 96 e 1 rfl rfl, uw_s tk_3 96 e 8 rfl rfl, uw_s tk_3 96 e 11 rfl rfl, uw_s tk_3 96 e 9 rfl rfl, uw_s tk_3 96 e 10 rfl rfl⟩
theorem pw_m_q0_339 : Cond.methodLink "OrphanTree" 339 (pr_I 220).1 ∈ ev_UW := wk_m qI_220 pt_w3_6.1
theorem pw_c_220 : ev_cw (pr_I 220) (pr_P 220).1 ∈ ev_UW := wk_c qI_220 pp_220 pt_w3_6.2.1
theorem pw_v_220 : Cond.instanceMethod (pr_I 220).1 ∈ ev_UW := wk_v qI_220 pt_w3_6.2.2.1
theorem pw_s_220 : Cond.selects (pr_I 220).1.cls (pr_I 220).1 (pr_I 220).1 ∈ ev_UW := wk_s qI_220 pt_w3_6.2.2.2.1
theorem pw_m_q2_25 : Cond.methodLink "OrphanTree$History" 25 (pr_I 273).1 ∈ ev_UW := wk_m qI_273 pt_w3_6.2.2.2.2.1
theorem pw_m_q15_190 : Cond.methodLink "OrphanTreeLaw" 190 (pr_I 305).1 ∈ ev_UW := wk_m qI_305 pt_w3_6.2.2.2.2.2.1
theorem pw_t_305 : Cond.static (pr_I 305).1 ∈ ev_UW := wk_t qI_305 pt_w3_6.2.2.2.2.2.2.1
theorem pw_c_305 : ev_cw (pr_I 305) (pr_P 305).1 ∈ ev_UW := wk_c qI_305 pp_305 pt_w3_6.2.2.2.2.2.2.2.1
theorem pw_c_62 : ev_cw (pr_I 62) (pr_P 62).1 ∈ ev_UW := wk_c qI_62 pp_62 pt_w3_6.2.2.2.2.2.2.2.2.1
theorem pw_v_62 : Cond.instanceMethod (pr_I 62).1 ∈ ev_UW := wk_v qI_62 pt_w3_6.2.2.2.2.2.2.2.2.2.1
theorem pw_s_62 : Cond.selects (pr_I 62).1.cls (pr_I 62).1 (pr_I 62).1 ∈ ev_UW := wk_s qI_62 pt_w3_6.2.2.2.2.2.2.2.2.2.2.1
theorem pw_m_q15_383 : Cond.methodLink "OrphanTreeLaw" 383 (pr_I 63).1 ∈ ev_UW := wk_m qI_63 pt_w3_6.2.2.2.2.2.2.2.2.2.2.2.1
theorem pw_c_63 : ev_cw (pr_I 63) (pr_P 63).1 ∈ ev_UW := wk_c qI_63 pp_63 pt_w3_6.2.2.2.2.2.2.2.2.2.2.2.2.1
theorem pw_v_63 : Cond.instanceMethod (pr_I 63).1 ∈ ev_UW := wk_v qI_63 pt_w3_6.2.2.2.2.2.2.2.2.2.2.2.2.2.1
theorem pw_s_63 : Cond.selects (pr_I 63).1.cls (pr_I 63).1 (pr_I 63).1 ∈ ev_UW := wk_s qI_63 pt_w3_6.2.2.2.2.2.2.2.2.2.2.2.2.2.2
theorem pt_w6_4 : (Cond.methodLink "OrphanTreeModel" 1 Lib.objectInit) ∈ ev_UW ∧ (Cond.fieldLink "OrphanTreeModel" 7 (TX7 0).1 (TX7 0).2.1 (TX7 0).2.2.1) ∈ ev_UW ∧ (Cond.fieldLink "OrphanTreeModel" 13 (TX7 1).1 (TX7 1).2.1 (TX7 1).2.2.1) ∈ ev_UW ∧ (Cond.fieldLink "OrphanTreeModel" 16 (TX7 2).1 (TX7 2).2.1 (TX7 2).2.2.1) ∈ ev_UW ∧ (Cond.methodLink "OrphanTreeModel" 45 pr_i78.1) ∈ ev_UW ∧ (ev_cw pr_i78 2) ∈ ev_UW ∧ (Cond.instanceMethod pr_i78.1) ∈ ev_UW ∧ (Cond.methodLink "OrphanTreeModel" 51 pr_i79.1) ∈ ev_UW ∧ (ev_cw pr_i79 7) ∈ ev_UW ∧ (Cond.instanceMethod pr_i79.1) ∈ ev_UW ∧ (Cond.instantiable "OrphanTreeModel" 24) ∈ ev_UW ∧ (Cond.methodLink "OrphanTreeLaw" 167 pr_i73.1) ∈ ev_UW ∧ (ev_cw pr_i73 1) ∈ ev_UW ∧ (Cond.instanceMethod pr_i73.1) ∈ ev_UW := by
  have e : (tables_1_6.drop 64).take 16 = [(Cond.instantiable "OrphanTreeModel" 24), (Cond.methodLink "OrphanTreeLaw" 167 pr_i73.1), (Cond.instanceMethod pr_i73.1), (ev_cw pr_i73 1), (Cond.methodLink "OrphanTreeModel" 1 Lib.objectInit), (Cond.methodLink "OrphanTreeModel" 45 pr_i78.1), _, (Cond.instanceMethod pr_i78.1), (ev_cw pr_i78 2), (Cond.methodLink "OrphanTreeModel" 51 pr_i79.1), _, (Cond.instanceMethod pr_i79.1), (ev_cw pr_i79 7), (Cond.fieldLink "OrphanTreeModel" 7 (TX7 0).1 (TX7 0).2.1 (TX7 0).2.2.1), (Cond.fieldLink "OrphanTreeModel" 13 (TX7 1).1 (TX7 1).2.1 (TX7 1).2.2.1), (Cond.fieldLink "OrphanTreeModel" 16 (TX7 2).1 (TX7 2).2.1 (TX7 2).2.2.1)] := rfl
  exact ⟨uw_s tk_6 64 e 4 rfl rfl, uw_s tk_6 64 e 13 rfl rfl, uw_s tk_6 64 e 14 rfl rfl, uw_s tk_6 64 e 15 rfl rfl, uw_s tk_6 64 e 5 rfl rfl, uw_s tk_6 64 e 8 rfl rfl, uw_s tk_6 64 e 7 rfl rfl, uw_s tk_6 64 e 9 rfl rfl, uw_s tk_6 64 e 12 rfl rfl, uw_s tk_6 64 e 11 rfl rfl, uw_s tk_6 64 e 0 rfl rfl, uw_s tk_6 64 e 1 rfl rfl, uw_s tk_6 64 e 3 rfl rfl, uw_s tk_6 64 e 2 rfl rfl⟩
theorem pw_m_q12_1 : Cond.methodLink "OrphanTreeModel" 1 Lib.objectInit ∈ ev_UW := pt_w6_4.1
theorem pw_f_q12_7 : Cond.fieldLink "OrphanTreeModel" 7 (TX7 0).1 (TX7 0).2.1 (TX7 0).2.2.1 ∈ ev_UW := pt_w6_4.2.1
theorem pw_f_q12_13 : Cond.fieldLink "OrphanTreeModel" 13 (TX7 1).1 (TX7 1).2.1 (TX7 1).2.2.1 ∈ ev_UW := pt_w6_4.2.2.1
theorem pw_f_q12_16 : Cond.fieldLink "OrphanTreeModel" 16 (TX7 2).1 (TX7 2).2.1 (TX7 2).2.2.1 ∈ ev_UW := pt_w6_4.2.2.2.1
theorem pw_m_q12_45 : Cond.methodLink "OrphanTreeModel" 45 (pr_I 78).1 ∈ ev_UW := wk_m qI_78 pt_w6_4.2.2.2.2.1
theorem pw_c_78 : ev_cw (pr_I 78) (pr_P 78).1 ∈ ev_UW := wk_c qI_78 pp_78 pt_w6_4.2.2.2.2.2.1
theorem pw_v_78 : Cond.instanceMethod (pr_I 78).1 ∈ ev_UW := wk_v qI_78 pt_w6_4.2.2.2.2.2.2.1
theorem pw_m_q12_51 : Cond.methodLink "OrphanTreeModel" 51 (pr_I 79).1 ∈ ev_UW := wk_m qI_79 pt_w6_4.2.2.2.2.2.2.2.1
theorem pw_c_79 : ev_cw (pr_I 79) (pr_P 79).1 ∈ ev_UW := wk_c qI_79 pp_79 pt_w6_4.2.2.2.2.2.2.2.2.1
theorem pw_v_79 : Cond.instanceMethod (pr_I 79).1 ∈ ev_UW := wk_v qI_79 pt_w6_4.2.2.2.2.2.2.2.2.2.1
theorem pw_in_q12 : Cond.instantiable "OrphanTreeModel" 24 ∈ ev_UW := pt_w6_4.2.2.2.2.2.2.2.2.2.2.1
theorem pw_m_q15_167 : Cond.methodLink "OrphanTreeLaw" 167 (pr_I 73).1 ∈ ev_UW := wk_m qI_73 pt_w6_4.2.2.2.2.2.2.2.2.2.2.2.1
theorem pw_c_73 : ev_cw (pr_I 73) (pr_P 73).1 ∈ ev_UW := wk_c qI_73 pp_73 pt_w6_4.2.2.2.2.2.2.2.2.2.2.2.2.1
theorem pw_v_73 : Cond.instanceMethod (pr_I 73).1 ∈ ev_UW := wk_v qI_73 pt_w6_4.2.2.2.2.2.2.2.2.2.2.2.2.2
theorem pt_w6_5 : (Cond.fieldLink "OrphanTreeModel" 19 (TX7 3).1 (TX7 3).2.1 (TX7 3).2.2.1) ∈ ev_UW ∧ (Cond.fieldLink "OrphanTreeModel" 22 (TX7 4).1 (TX7 4).2.1 (TX7 4).2.2.1) ∈ ev_UW ∧ (Cond.fieldLink "OrphanTreeModel" 25 (TX7 5).1 (TX7 5).2.1 (TX7 5).2.2.1) ∈ ev_UW ∧ (Cond.fieldLink "OrphanTreeModel" 29 (TX7 9).1 (TX7 9).2.1 (TX7 9).2.2.1) ∈ ev_UW ∧ (Cond.fieldLink "OrphanTreeModel" 32 (TX7 12).1 (TX7 12).2.1 (TX7 12).2.2.1) ∈ ev_UW ∧ (Cond.fieldLink "OrphanTreeModel" 48 (TX7 8).1 (TX7 8).2.1 (TX7 8).2.2.1) ∈ ev_UW ∧ (Cond.fieldLink "OrphanTreeModel" 55 (TX7 6).1 (TX7 6).2.1 (TX7 6).2.2.1) ∈ ev_UW ∧ (Cond.fieldLink "OrphanTreeModel" 138 (TX7 10).1 (TX7 10).2.1 (TX7 10).2.2.1) ∈ ev_UW ∧ (Cond.fieldLink "OrphanTreeModel" 148 (TX7 15).1 (TX7 15).2.1 (TX7 15).2.2.1) ∈ ev_UW ∧ (Cond.fieldLink "OrphanTreeModel" 154 (TX7 16).1 (TX7 16).2.1 (TX7 16).2.2.1) ∈ ev_UW ∧ (Cond.fieldLink "OrphanTreeModel" 157 (TX7 17).1 (TX7 17).2.1 (TX7 17).2.2.1) ∈ ev_UW ∧ (Cond.fieldLink "OrphanTreeModel" 160 (TX7 18).1 (TX7 18).2.1 (TX7 18).2.2.1) ∈ ev_UW ∧ (Cond.fieldLink "OrphanTreeModel" 163 (TX7 13).1 (TX7 13).2.1 (TX7 13).2.2.1) ∈ ev_UW ∧ (Cond.fieldLink "OrphanTreeModel" 166 (TX7 14).1 (TX7 14).2.1 (TX7 14).2.2.1) ∈ ev_UW ∧ (Cond.fieldLink "OrphanTreeModel" 263 (TX7 11).1 (TX7 11).2.1 (TX7 11).2.2.1) ∈ ev_UW ∧ (Cond.fieldLink "OrphanTreeModel" 266 (TX7 7).1 (TX7 7).2.1 (TX7 7).2.2.1) ∈ ev_UW := by
  have e : (tables_1_6.drop 80).take 16 = [(Cond.fieldLink "OrphanTreeModel" 19 (TX7 3).1 (TX7 3).2.1 (TX7 3).2.2.1), (Cond.fieldLink "OrphanTreeModel" 22 (TX7 4).1 (TX7 4).2.1 (TX7 4).2.2.1), (Cond.fieldLink "OrphanTreeModel" 25 (TX7 5).1 (TX7 5).2.1 (TX7 5).2.2.1), (Cond.fieldLink "OrphanTreeModel" 55 (TX7 6).1 (TX7 6).2.1 (TX7 6).2.2.1), (Cond.fieldLink "OrphanTreeModel" 266 (TX7 7).1 (TX7 7).2.1 (TX7 7).2.2.1), (Cond.fieldLink "OrphanTreeModel" 48 (TX7 8).1 (TX7 8).2.1 (TX7 8).2.2.1), (Cond.fieldLink "OrphanTreeModel" 29 (TX7 9).1 (TX7 9).2.1 (TX7 9).2.2.1), (Cond.fieldLink "OrphanTreeModel" 138 (TX7 10).1 (TX7 10).2.1 (TX7 10).2.2.1), (Cond.fieldLink "OrphanTreeModel" 263 (TX7 11).1 (TX7 11).2.1 (TX7 11).2.2.1), (Cond.fieldLink "OrphanTreeModel" 32 (TX7 12).1 (TX7 12).2.1 (TX7 12).2.2.1), (Cond.fieldLink "OrphanTreeModel" 163 (TX7 13).1 (TX7 13).2.1 (TX7 13).2.2.1), (Cond.fieldLink "OrphanTreeModel" 166 (TX7 14).1 (TX7 14).2.1 (TX7 14).2.2.1), (Cond.fieldLink "OrphanTreeModel" 148 (TX7 15).1 (TX7 15).2.1 (TX7 15).2.2.1), (Cond.fieldLink "OrphanTreeModel" 154 (TX7 16).1 (TX7 16).2.1 (TX7 16).2.2.1), (Cond.fieldLink "OrphanTreeModel" 157 (TX7 17).1 (TX7 17).2.1 (TX7 17).2.2.1), (Cond.fieldLink "OrphanTreeModel" 160 (TX7 18).1 (TX7 18).2.1 (TX7 18).2.2.1)] := rfl
  exact ⟨uw_s tk_6 80 e 0 rfl rfl, uw_s tk_6 80 e 1 rfl rfl, uw_s tk_6 80 e 2 rfl rfl, uw_s tk_6 80 e 6 rfl rfl, uw_s tk_6 80 e 9 rfl rfl, uw_s tk_6 80 e 5 rfl rfl, uw_s tk_6 80 e 3 rfl rfl, uw_s tk_6 80 e 7 rfl rfl, uw_s tk_6 80 e 12 rfl rfl, uw_s tk_6 80 e 13 rfl rfl, uw_s tk_6 80 e 14 rfl rfl, uw_s tk_6 80 e 15 rfl rfl, uw_s tk_6 80 e 10 rfl rfl, uw_s tk_6 80 e 11 rfl rfl, uw_s tk_6 80 e 8 rfl rfl, uw_s tk_6 80 e 4 rfl rfl⟩
theorem pw_f_q12_19 : Cond.fieldLink "OrphanTreeModel" 19 (TX7 3).1 (TX7 3).2.1 (TX7 3).2.2.1 ∈ ev_UW := pt_w6_5.1
theorem pw_f_q12_22 : Cond.fieldLink "OrphanTreeModel" 22 (TX7 4).1 (TX7 4).2.1 (TX7 4).2.2.1 ∈ ev_UW := pt_w6_5.2.1
theorem pw_f_q12_25 : Cond.fieldLink "OrphanTreeModel" 25 (TX7 5).1 (TX7 5).2.1 (TX7 5).2.2.1 ∈ ev_UW := pt_w6_5.2.2.1
theorem pw_f_q12_29 : Cond.fieldLink "OrphanTreeModel" 29 (TX7 9).1 (TX7 9).2.1 (TX7 9).2.2.1 ∈ ev_UW := pt_w6_5.2.2.2.1
theorem pw_f_q12_32 : Cond.fieldLink "OrphanTreeModel" 32 (TX7 12).1 (TX7 12).2.1 (TX7 12).2.2.1 ∈ ev_UW := pt_w6_5.2.2.2.2.1
theorem pw_f_q12_48 : Cond.fieldLink "OrphanTreeModel" 48 (TX7 8).1 (TX7 8).2.1 (TX7 8).2.2.1 ∈ ev_UW := pt_w6_5.2.2.2.2.2.1
theorem pw_f_q12_55 : Cond.fieldLink "OrphanTreeModel" 55 (TX7 6).1 (TX7 6).2.1 (TX7 6).2.2.1 ∈ ev_UW := pt_w6_5.2.2.2.2.2.2.1
theorem pw_f_q12_138 : Cond.fieldLink "OrphanTreeModel" 138 (TX7 10).1 (TX7 10).2.1 (TX7 10).2.2.1 ∈ ev_UW := pt_w6_5.2.2.2.2.2.2.2.1
theorem pw_f_q12_148 : Cond.fieldLink "OrphanTreeModel" 148 (TX7 15).1 (TX7 15).2.1 (TX7 15).2.2.1 ∈ ev_UW := pt_w6_5.2.2.2.2.2.2.2.2.1
theorem pw_f_q12_154 : Cond.fieldLink "OrphanTreeModel" 154 (TX7 16).1 (TX7 16).2.1 (TX7 16).2.2.1 ∈ ev_UW := pt_w6_5.2.2.2.2.2.2.2.2.2.1
theorem pw_f_q12_157 : Cond.fieldLink "OrphanTreeModel" 157 (TX7 17).1 (TX7 17).2.1 (TX7 17).2.2.1 ∈ ev_UW := pt_w6_5.2.2.2.2.2.2.2.2.2.2.1
theorem pw_f_q12_160 : Cond.fieldLink "OrphanTreeModel" 160 (TX7 18).1 (TX7 18).2.1 (TX7 18).2.2.1 ∈ ev_UW := pt_w6_5.2.2.2.2.2.2.2.2.2.2.2.1
theorem pw_f_q12_163 : Cond.fieldLink "OrphanTreeModel" 163 (TX7 13).1 (TX7 13).2.1 (TX7 13).2.2.1 ∈ ev_UW := pt_w6_5.2.2.2.2.2.2.2.2.2.2.2.2.1
theorem pw_f_q12_166 : Cond.fieldLink "OrphanTreeModel" 166 (TX7 14).1 (TX7 14).2.1 (TX7 14).2.2.1 ∈ ev_UW := pt_w6_5.2.2.2.2.2.2.2.2.2.2.2.2.2.1
theorem pw_f_q12_263 : Cond.fieldLink "OrphanTreeModel" 263 (TX7 11).1 (TX7 11).2.1 (TX7 11).2.2.1 ∈ ev_UW := pt_w6_5.2.2.2.2.2.2.2.2.2.2.2.2.2.2.1
theorem pw_f_q12_266 : Cond.fieldLink "OrphanTreeModel" 266 (TX7 7).1 (TX7 7).2.1 (TX7 7).2.2.1 ∈ ev_UW := pt_w6_5.2.2.2.2.2.2.2.2.2.2.2.2.2.2.2
theorem pt_w6_9 : (Cond.arrayClass (newarray.typeOf .boolean)) ∈ ev_UW ∧ (Cond.methodLink "OrphanTreeModel" 141 pr_i106.1) ∈ ev_UW ∧ (Cond.methodLink "OrphanTreeLaw" 172 pr_i107.1) ∈ ev_UW ∧ (ev_cw pr_i107 6) ∈ ev_UW ∧ (Cond.instanceMethod pr_i107.1) ∈ ev_UW ∧ (Cond.selects pr_i107.1.cls pr_i107.1 pr_i107.1) ∈ ev_UW ∧ (Cond.methodLink "OrphanTreeLaw" 258 pr_i74.1) ∈ ev_UW ∧ (ev_cw pr_i74 1) ∈ ev_UW ∧ (Cond.instanceMethod pr_i74.1) ∈ ev_UW ∧ (Cond.selects pr_i74.1.cls pr_i74.1 pr_i74.1) ∈ ev_UW := by
  have e : (tables_1_6.drop 144).take 16 = [_, _, _, _, _, _, (Cond.arrayClass (newarray.typeOf .boolean)), (Cond.methodLink "OrphanTreeLaw" 258 pr_i74.1), (Cond.instanceMethod pr_i74.1), (Cond.selects pr_i74.1.cls pr_i74.1 pr_i74.1), (ev_cw pr_i74 1), (Cond.methodLink "OrphanTreeLaw" 172 pr_i107.1), (Cond.instanceMethod pr_i107.1), (Cond.selects pr_i107.1.cls pr_i107.1 pr_i107.1), (ev_cw pr_i107 6), (Cond.methodLink "OrphanTreeModel" 141 pr_i106.1)] := rfl
  exact ⟨uw_s tk_6 144 e 6 rfl rfl, uw_s tk_6 144 e 15 rfl rfl, uw_s tk_6 144 e 11 rfl rfl, uw_s tk_6 144 e 14 rfl rfl, uw_s tk_6 144 e 12 rfl rfl, uw_s tk_6 144 e 13 rfl rfl, uw_s tk_6 144 e 7 rfl rfl, uw_s tk_6 144 e 10 rfl rfl, uw_s tk_6 144 e 8 rfl rfl, uw_s tk_6 144 e 9 rfl rfl⟩
theorem pw_a_boolean : Cond.arrayClass (newarray.typeOf .boolean) ∈ ev_UW := pt_w6_9.1
theorem pw_m_q12_141 : Cond.methodLink "OrphanTreeModel" 141 (pr_I 106).1 ∈ ev_UW := wk_m qI_106 pt_w6_9.2.1
theorem pw_m_q15_172 : Cond.methodLink "OrphanTreeLaw" 172 (pr_I 107).1 ∈ ev_UW := wk_m qI_107 pt_w6_9.2.2.1
theorem pw_c_107 : ev_cw (pr_I 107) (pr_P 107).1 ∈ ev_UW := wk_c qI_107 pp_107 pt_w6_9.2.2.2.1
theorem pw_v_107 : Cond.instanceMethod (pr_I 107).1 ∈ ev_UW := wk_v qI_107 pt_w6_9.2.2.2.2.1
theorem pw_s_107 : Cond.selects (pr_I 107).1.cls (pr_I 107).1 (pr_I 107).1 ∈ ev_UW := wk_s qI_107 pt_w6_9.2.2.2.2.2.1
theorem pw_m_q15_258 : Cond.methodLink "OrphanTreeLaw" 258 (pr_I 74).1 ∈ ev_UW := wk_m qI_74 pt_w6_9.2.2.2.2.2.2.1
theorem pw_c_74 : ev_cw (pr_I 74) (pr_P 74).1 ∈ ev_UW := wk_c qI_74 pp_74 pt_w6_9.2.2.2.2.2.2.2.1
theorem pw_v_74 : Cond.instanceMethod (pr_I 74).1 ∈ ev_UW := wk_v qI_74 pt_w6_9.2.2.2.2.2.2.2.2.1
theorem pw_s_74 : Cond.selects (pr_I 74).1.cls (pr_I 74).1 (pr_I 74).1 ∈ ev_UW := wk_s qI_74 pt_w6_9.2.2.2.2.2.2.2.2.2
theorem pt_w6_6 : (Cond.fieldLink "OrphanTreeModel" 36 (TX7 20).1 (TX7 20).2.1 (TX7 20).2.2.1) ∈ ev_UW ∧ (Cond.fieldLink "OrphanTreeModel" 39 (TX7 21).1 (TX7 21).2.1 (TX7 21).2.2.1) ∈ ev_UW ∧ (Cond.fieldLink "OrphanTreeModel" 42 (TX7 22).1 (TX7 22).2.1 (TX7 22).2.2.1) ∈ ev_UW ∧ (Cond.fieldLink "OrphanTreeModel" 191 (TX7 19).1 (TX7 19).2.1 (TX7 19).2.2.1) ∈ ev_UW ∧ (Cond.fieldLink "OrphanTreeModel" 354 (TX7 23).1 (TX7 23).2.1 (TX7 23).2.2.1) ∈ ev_UW := by
  have e : (tables_1_6.drop 96).take 16 = [(Cond.fieldLink "OrphanTreeModel" 191 (TX7 19).1 (TX7 19).2.1 (TX7 19).2.2.1), (Cond.fieldLink "OrphanTreeModel" 36 (TX7 20).1 (TX7 20).2.1 (TX7 20).2.2.1), (Cond.fieldLink "OrphanTreeModel" 39 (TX7 21).1 (TX7 21).2.1 (TX7 21).2.2.1), (Cond.fieldLink "OrphanTreeModel" 42 (TX7 22).1 (TX7 22).2.1 (TX7 22).2.2.1), (Cond.fieldLink "OrphanTreeModel" 354 (TX7 23).1 (TX7 23).2.1 (TX7 23).2.2.1), _, _, _, _, _, _, _, _, _, _, _] := rfl
  exact ⟨uw_s tk_6 96 e 1 rfl rfl, uw_s tk_6 96 e 2 rfl rfl, uw_s tk_6 96 e 3 rfl rfl, uw_s tk_6 96 e 0 rfl rfl, uw_s tk_6 96 e 4 rfl rfl⟩
theorem pw_f_q12_36 : Cond.fieldLink "OrphanTreeModel" 36 (TX7 20).1 (TX7 20).2.1 (TX7 20).2.2.1 ∈ ev_UW := pt_w6_6.1
theorem pw_f_q12_39 : Cond.fieldLink "OrphanTreeModel" 39 (TX7 21).1 (TX7 21).2.1 (TX7 21).2.2.1 ∈ ev_UW := pt_w6_6.2.1
theorem pw_f_q12_42 : Cond.fieldLink "OrphanTreeModel" 42 (TX7 22).1 (TX7 22).2.1 (TX7 22).2.2.1 ∈ ev_UW := pt_w6_6.2.2.1
theorem pw_f_q12_191 : Cond.fieldLink "OrphanTreeModel" 191 (TX7 19).1 (TX7 19).2.1 (TX7 19).2.2.1 ∈ ev_UW := pt_w6_6.2.2.2.1
theorem pw_f_q12_354 : Cond.fieldLink "OrphanTreeModel" 354 (TX7 23).1 (TX7 23).2.1 (TX7 23).2.2.1 ∈ ev_UW := pt_w6_6.2.2.2.2
theorem pt_w6_10 : (Cond.methodLink "OrphanTreeModel" 58 pr_i77.1) ∈ ev_UW ∧ (Cond.static pr_i77.1) ∈ ev_UW ∧ (ev_cw pr_i106 3) ∈ ev_UW ∧ (Cond.instanceMethod pr_i106.1) ∈ ev_UW ∧ (Cond.methodLink "OrphanTreeModel" 145 pr_i75.1) ∈ ev_UW ∧ (Cond.static pr_i75.1) ∈ ev_UW ∧ (ev_cw pr_i75 3) ∈ ev_UW ∧ (Cond.methodLink "OrphanTreeLaw" 177 pr_i108.1) ∈ ev_UW ∧ (ev_cw pr_i108 2) ∈ ev_UW ∧ (Cond.instanceMethod pr_i108.1) ∈ ev_UW ∧ (Cond.selects pr_i108.1.cls pr_i108.1 pr_i108.1) ∈ ev_UW ∧ (Cond.methodLink "OrphanTreeLaw" 181 pr_i128.1) ∈ ev_UW ∧ (ev_cw pr_i128 2) ∈ ev_UW ∧ (Cond.instanceMethod pr_i128.1) ∈ ev_UW ∧ (Cond.selects pr_i128.1.cls pr_i128.1 pr_i128.1) ∈ ev_UW := by
  have e : (tables_1_6.drop 160).take 16 = [_, (Cond.instanceMethod pr_i106.1), (ev_cw pr_i106 3), (Cond.methodLink "OrphanTreeLaw" 177 pr_i108.1), (Cond.instanceMethod pr_i108.1), (Cond.selects pr_i108.1.cls pr_i108.1 pr_i108.1), (ev_cw pr_i108 2), (Cond.methodLink "OrphanTreeModel" 145 pr_i75.1), (Cond.static pr_i75.1), (ev_cw pr_i75 3), (Cond.methodLink "OrphanTreeLaw" 181 pr_i128.1), (Cond.instanceMethod pr_i128.1), (Cond.selects pr_i128.1.cls pr_i128.1 pr_i128.1), (ev_cw pr_i128 2), (Cond.methodLink "OrphanTreeModel" 58 pr_i77.1), (Cond.static pr_i77.1)] := rfl
  exact ⟨uw_s tk_6 160 e 14 rfl rfl, uw_s tk_6 160 e 15 rfl rfl, uw_s tk_6 160 e 2 rfl rfl, uw_s tk_6 160 e 1 rfl rfl, uw_s tk_6 160 e 7 rfl rfl, uw_s tk_6 160 e 8 rfl rfl, uw_s tk_6 160 e 9 rfl rfl, uw_s tk_6 160 e 3 rfl rfl, uw_s tk_6 160 e 6 rfl rfl, uw_s tk_6 160 e 4 rfl rfl, uw_s tk_6 160 e 5 rfl rfl, uw_s tk_6 160 e 10 rfl rfl, uw_s tk_6 160 e 13 rfl rfl, uw_s tk_6 160 e 11 rfl rfl, uw_s tk_6 160 e 12 rfl rfl⟩
theorem pw_m_q12_58 : Cond.methodLink "OrphanTreeModel" 58 (pr_I 77).1 ∈ ev_UW := wk_m qI_77 pt_w6_10.1
theorem pw_t_77 : Cond.static (pr_I 77).1 ∈ ev_UW := wk_t qI_77 pt_w6_10.2.1
theorem pw_c_106 : ev_cw (pr_I 106) (pr_P 106).1 ∈ ev_UW := wk_c qI_106 pp_106 pt_w6_10.2.2.1
theorem pw_v_106 : Cond.instanceMethod (pr_I 106).1 ∈ ev_UW := wk_v qI_106 pt_w6_10.2.2.2.1
theorem pw_m_q12_145 : Cond.methodLink "OrphanTreeModel" 145 (pr_I 75).1 ∈ ev_UW := wk_m qI_75 pt_w6_10.2.2.2.2.1
theorem pw_t_75 : Cond.static (pr_I 75).1 ∈ ev_UW := wk_t qI_75 pt_w6_10.2.2.2.2.2.1
theorem pw_c_75 : ev_cw (pr_I 75) (pr_P 75).1 ∈ ev_UW := wk_c qI_75 pp_75 pt_w6_10.2.2.2.2.2.2.1
theorem pw_m_q15_177 : Cond.methodLink "OrphanTreeLaw" 177 (pr_I 108).1 ∈ ev_UW := wk_m qI_108 pt_w6_10.2.2.2.2.2.2.2.1
theorem pw_c_108 : ev_cw (pr_I 108) (pr_P 108).1 ∈ ev_UW := wk_c qI_108 pp_108 pt_w6_10.2.2.2.2.2.2.2.2.1
theorem pw_v_108 : Cond.instanceMethod (pr_I 108).1 ∈ ev_UW := wk_v qI_108 pt_w6_10.2.2.2.2.2.2.2.2.2.1
theorem pw_s_108 : Cond.selects (pr_I 108).1.cls (pr_I 108).1 (pr_I 108).1 ∈ ev_UW := wk_s qI_108 pt_w6_10.2.2.2.2.2.2.2.2.2.2.1
theorem pw_m_q15_181 : Cond.methodLink "OrphanTreeLaw" 181 (pr_I 128).1 ∈ ev_UW := wk_m qI_128 pt_w6_10.2.2.2.2.2.2.2.2.2.2.2.1
theorem pw_c_128 : ev_cw (pr_I 128) (pr_P 128).1 ∈ ev_UW := wk_c qI_128 pp_128 pt_w6_10.2.2.2.2.2.2.2.2.2.2.2.2.1
theorem pw_v_128 : Cond.instanceMethod (pr_I 128).1 ∈ ev_UW := wk_v qI_128 pt_w6_10.2.2.2.2.2.2.2.2.2.2.2.2.2.1
theorem pw_s_128 : Cond.selects (pr_I 128).1.cls (pr_I 128).1 (pr_I 128).1 ∈ ev_UW := wk_s qI_128 pt_w6_10.2.2.2.2.2.2.2.2.2.2.2.2.2.2
theorem pt_w6_11 : (ev_cw pr_i77 6) ∈ ev_UW ∧ (Cond.methodLink "OrphanTreeModel" 151 pr_i109.1) ∈ ev_UW ∧ (ev_cw pr_i109 2) ∈ ev_UW ∧ (Cond.instanceMethod pr_i109.1) ∈ ev_UW ∧ (Cond.methodLink "OrphanTreeModel" 188 pr_i110.1) ∈ ev_UW ∧ (ev_cw pr_i110 2) ∈ ev_UW ∧ (Cond.instanceMethod pr_i110.1) ∈ ev_UW ∧ (Cond.methodLink "OrphanTreeModel" 257 pr_i126.1) ∈ ev_UW ∧ (Cond.instanceMethod pr_i126.1) ∈ ev_UW ∧ (Cond.methodLink "OrphanTreeModel" 260 pr_i127.1) ∈ ev_UW ∧ (ev_cw pr_i127 1) ∈ ev_UW ∧ (Cond.instanceMethod pr_i127.1) ∈ ev_UW := by
  have e : (tables_1_6.drop 176).take 16 = [(ev_cw pr_i77 6), (Cond.methodLink "OrphanTreeModel" 188 pr_i110.1), _, (Cond.instanceMethod pr_i110.1), (ev_cw pr_i110 2), (Cond.methodLink "OrphanTreeModel" 151 pr_i109.1), _, (Cond.instanceMethod pr_i109.1), (ev_cw pr_i109 2), (Cond.methodLink "OrphanTreeModel" 260 pr_i127.1), _, (Cond.instanceMethod pr_i127.1), (ev_cw pr_i127 1), (Cond.methodLink "OrphanTreeModel" 257 pr_i126.1), _, (Cond.instanceMethod pr_i126.1)] := rfl
  exact ⟨uw_s tk_6 176 e 0 rfl rfl, uw_s tk_6 176 e 5 rfl rfl, uw_s tk_6 176 e 8 rfl rfl, uw_s tk_6 176 e 7 rfl rfl, uw_s tk_6 176 e 1 rfl rfl, uw_s tk_6 176 e 4 rfl rfl, uw_s tk_6 176 e 3 rfl rfl, uw_s tk_6 176 e 13 rfl rfl, uw_s tk_6 176 e 15 rfl rfl, uw_s tk_6 176 e 9 rfl rfl, uw_s tk_6 176 e 12 rfl rfl, uw_s tk_6 176 e 11 rfl rfl⟩
theorem pw_c_77 : ev_cw (pr_I 77) (pr_P 77).1 ∈ ev_UW := wk_c qI_77 pp_77 pt_w6_11.1
theorem pw_m_q12_151 : Cond.methodLink "OrphanTreeModel" 151 (pr_I 109).1 ∈ ev_UW := wk_m qI_109 pt_w6_11.2.1
theorem pw_c_109 : ev_cw (pr_I 109) (pr_P 109).1 ∈ ev_UW := wk_c qI_109 pp_109 pt_w6_11.2.2.1
theorem pw_v_109 : Cond.instanceMethod (pr_I 109).1 ∈ ev_UW := wk_v qI_109 pt_w6_11.2.2.2.1
theorem pw_m_q12_188 : Cond.methodLink "OrphanTreeModel" 188 (pr_I 110).1 ∈ ev_UW := wk_m qI_110 pt_w6_11.2.2.2.2.1
theorem pw_c_110 : ev_cw (pr_I 110) (pr_P 110).1 ∈ ev_UW := wk_c qI_110 pp_110 pt_w6_11.2.2.2.2.2.1
theorem pw_v_110 : Cond.instanceMethod (pr_I 110).1 ∈ ev_UW := wk_v qI_110 pt_w6_11.2.2.2.2.2.2.1
theorem pw_m_q12_257 : Cond.methodLink "OrphanTreeModel" 257 (pr_I 126).1 ∈ ev_UW := wk_m qI_126 pt_w6_11.2.2.2.2.2.2.2.1
theorem pw_v_126 : Cond.instanceMethod (pr_I 126).1 ∈ ev_UW := wk_v qI_126 pt_w6_11.2.2.2.2.2.2.2.2.1
theorem pw_m_q12_260 : Cond.methodLink "OrphanTreeModel" 260 (pr_I 127).1 ∈ ev_UW := wk_m qI_127 pt_w6_11.2.2.2.2.2.2.2.2.2.1
theorem pw_c_127 : ev_cw (pr_I 127) (pr_P 127).1 ∈ ev_UW := wk_c qI_127 pp_127 pt_w6_11.2.2.2.2.2.2.2.2.2.2.1
theorem pw_v_127 : Cond.instanceMethod (pr_I 127).1 ∈ ev_UW := wk_v qI_127 pt_w6_11.2.2.2.2.2.2.2.2.2.2.2
theorem pt_w7_1 : (Cond.methodLink "OrphanTreeModel" 62 pr_i84.1) ∈ ev_UW ∧ (ev_cw pr_i84 4) ∈ ev_UW ∧ (Cond.instanceMethod pr_i84.1) ∈ ev_UW ∧ (Cond.methodLink "OrphanTreeModel" 66 pr_i83.1) ∈ ev_UW ∧ (ev_cw pr_i83 2) ∈ ev_UW ∧ (Cond.instanceMethod pr_i83.1) ∈ ev_UW ∧ (Cond.methodLink "OrphanTreeModel" 70 pr_i85.1) ∈ ev_UW ∧ (ev_cw pr_i85 5) ∈ ev_UW ∧ (Cond.instanceMethod pr_i85.1) ∈ ev_UW ∧ (Cond.methodLink "OrphanTreeModel" 74 Lib.Math.max.name) ∈ ev_UW ∧ (Cond.static Lib.Math.max.name) ∈ ev_UW ∧ (Cond.code Lib.Math.max.name Lib.Math.max.code 2 (some .int)) ∈ ev_UW ∧ (ev_cw pr_i86 2) ∈ ev_UW := by
  have e : (tables_1_7.drop 16).take 16 = [(ev_cw pr_i86 2), (Cond.methodLink "OrphanTreeModel" 66 pr_i83.1), _, (Cond.instanceMethod pr_i83.1), (ev_cw pr_i83 2), (Cond.methodLink "OrphanTreeModel" 70 pr_i85.1), _, (Cond.instanceMethod pr_i85.1), (ev_cw pr_i85 5), (Cond.methodLink "OrphanTreeModel" 62 pr_i84.1), _, (Cond.instanceMethod pr_i84.1), (ev_cw pr_i84 4), (Cond.methodLink "OrphanTreeModel" 74 Lib.Math.max.name), (Cond.static Lib.Math.max.name), (Cond.code Lib.Math.max.name Lib.Math.max.code 2 (some .int))] := rfl
  exact ⟨uw_s tk_7 16 e 9 rfl rfl, uw_s tk_7 16 e 12 rfl rfl, uw_s tk_7 16 e 11 rfl rfl, uw_s tk_7 16 e 1 rfl rfl, uw_s tk_7 16 e 4 rfl rfl, uw_s tk_7 16 e 3 rfl rfl, uw_s tk_7 16 e 5 rfl rfl, uw_s tk_7 16 e 8 rfl rfl, uw_s tk_7 16 e 7 rfl rfl, uw_s tk_7 16 e 13 rfl rfl, uw_s tk_7 16 e 14 rfl rfl, uw_s tk_7 16 e 15 rfl rfl, uw_s tk_7 16 e 0 rfl rfl⟩
theorem pw_m_q12_62 : Cond.methodLink "OrphanTreeModel" 62 (pr_I 84).1 ∈ ev_UW := wk_m qI_84 pt_w7_1.1
theorem pw_c_84 : ev_cw (pr_I 84) (pr_P 84).1 ∈ ev_UW := wk_c qI_84 pp_84 pt_w7_1.2.1
theorem pw_v_84 : Cond.instanceMethod (pr_I 84).1 ∈ ev_UW := wk_v qI_84 pt_w7_1.2.2.1
theorem pw_m_q12_66 : Cond.methodLink "OrphanTreeModel" 66 (pr_I 83).1 ∈ ev_UW := wk_m qI_83 pt_w7_1.2.2.2.1
theorem pw_c_83 : ev_cw (pr_I 83) (pr_P 83).1 ∈ ev_UW := wk_c qI_83 pp_83 pt_w7_1.2.2.2.2.1
theorem pw_v_83 : Cond.instanceMethod (pr_I 83).1 ∈ ev_UW := wk_v qI_83 pt_w7_1.2.2.2.2.2.1
theorem pw_m_q12_70 : Cond.methodLink "OrphanTreeModel" 70 (pr_I 85).1 ∈ ev_UW := wk_m qI_85 pt_w7_1.2.2.2.2.2.2.1
theorem pw_c_85 : ev_cw (pr_I 85) (pr_P 85).1 ∈ ev_UW := wk_c qI_85 pp_85 pt_w7_1.2.2.2.2.2.2.2.1
theorem pw_v_85 : Cond.instanceMethod (pr_I 85).1 ∈ ev_UW := wk_v qI_85 pt_w7_1.2.2.2.2.2.2.2.2.1
theorem pw_m_q12_74 : Cond.methodLink "OrphanTreeModel" 74 Lib.Math.max.name ∈ ev_UW := pt_w7_1.2.2.2.2.2.2.2.2.2.1
theorem pw_ms : Cond.static Lib.Math.max.name ∈ ev_UW := pt_w7_1.2.2.2.2.2.2.2.2.2.2.1
theorem pw_mc : Cond.code Lib.Math.max.name Lib.Math.max.code 2 (some .int) ∈ ev_UW := pt_w7_1.2.2.2.2.2.2.2.2.2.2.2.1
theorem pw_c_86 : ev_cw (pr_I 86) (pr_P 86).1 ∈ ev_UW := wk_c qI_86 pp_86 pt_w7_1.2.2.2.2.2.2.2.2.2.2.2.2
theorem pw_s_84 : Cond.selects (pr_I 84).1.cls (pr_I 84).1 (pr_I 84).1 ∈ ev_UW := uw_m tk_0 51 rfl rfl
theorem pw_s_83 : Cond.selects (pr_I 83).1.cls (pr_I 83).1 (pr_I 83).1 ∈ ev_UW := uw_m tk_0 49 rfl rfl
theorem pw_s_85 : Cond.selects (pr_I 85).1.cls (pr_I 85).1 (pr_I 85).1 ∈ ev_UW := uw_m tk_0 50 rfl rfl
theorem pw_s_86 : Cond.selects (pr_I 86).1.cls (pr_I 86).1 (pr_I 86).1 ∈ ev_UW := uw_m tk_0 48 rfl rfl
theorem pw_s_89 : Cond.selects (pr_I 89).1.cls (pr_I 89).1 (pr_I 89).1 ∈ ev_UW := uw_m tk_0 63 rfl rfl
theorem pw_s_87 : Cond.selects (pr_I 87).1.cls (pr_I 87).1 (pr_I 87).1 ∈ ev_UW := uw_m tk_0 55 rfl rfl
theorem pw_s_123 : Cond.selects (pr_I 123).1.cls (pr_I 123).1 (pr_I 123).1 ∈ ev_UW := uw_m tk_0 52 rfl rfl
theorem pw_s_124 : Cond.selects (pr_I 124).1.cls (pr_I 124).1 (pr_I 124).1 ∈ ev_UW := uw_m tk_0 53 rfl rfl
theorem pw_s_125 : Cond.selects (pr_I 125).1.cls (pr_I 125).1 (pr_I 125).1 ∈ ev_UW := uw_m tk_0 54 rfl rfl
theorem pw_s_76 : Cond.selects (pr_I 76).1.cls (pr_I 76).1 (pr_I 76).1 ∈ ev_UW := uw_m tk_0 56 rfl rfl
theorem pw_s_131 : Cond.selects (pr_I 131).1.cls (pr_I 131).1 (pr_I 131).1 ∈ ev_UW := uw_m tk_0 57 rfl rfl
theorem pw_s_132 : Cond.selects (pr_I 132).1.cls (pr_I 132).1 (pr_I 132).1 ∈ ev_UW := uw_m tk_0 58 rfl rfl
theorem pw_s_135 : Cond.selects (pr_I 135).1.cls (pr_I 135).1 (pr_I 135).1 ∈ ev_UW := uw_m tk_0 59 rfl rfl
theorem pw_s_133 : Cond.selects (pr_I 133).1.cls (pr_I 133).1 (pr_I 133).1 ∈ ev_UW := uw_m tk_0 60 rfl rfl
theorem pw_s_139 : Cond.selects (pr_I 139).1.cls (pr_I 139).1 (pr_I 139).1 ∈ ev_UW := uw_m tk_0 61 rfl rfl
theorem pw_s_142 : Cond.selects (pr_I 142).1.cls (pr_I 142).1 (pr_I 142).1 ∈ ev_UW := uw_m tk_0 62 rfl rfl
theorem pt_w7_7 : (Cond.methodLink "OrphanTreeModel" 79 pr_i88.1) ∈ ev_UW ∧ (ev_cw pr_i88 4) ∈ ev_UW ∧ (Cond.instanceMethod pr_i88.1) ∈ ev_UW ∧ (Cond.methodLink "OrphanTreeModel" 297 pr_i146.1) ∈ ev_UW ∧ (ev_cw pr_i146 3) ∈ ev_UW ∧ (Cond.instanceMethod pr_i146.1) ∈ ev_UW ∧ (Cond.methodLink "OrphanTreeLaw" 212 pr_i144.1) ∈ ev_UW ∧ (ev_cw pr_i144 3) ∈ ev_UW ∧ (Cond.instanceMethod pr_i144.1) ∈ ev_UW ∧ (Cond.selects pr_i144.1.cls pr_i144.1 pr_i144.1) ∈ ev_UW ∧ (Cond.methodLink "OrphanTreeLaw" 215 pr_i147.1) ∈ ev_UW ∧ (ev_cw pr_i147 3) ∈ ev_UW ∧ (Cond.instanceMethod pr_i147.1) ∈ ev_UW ∧ (Cond.selects pr_i147.1.cls pr_i147.1 pr_i147.1) ∈ ev_UW := by
  have e : (tables_1_7.drop 112).take 16 = [(Cond.methodLink "OrphanTreeLaw" 212 pr_i144.1), (Cond.instanceMethod pr_i144.1), (Cond.selects pr_i144.1.cls pr_i144.1 pr_i144.1), (ev_cw pr_i144 3), (Cond.methodLink "OrphanTreeModel" 79 pr_i88.1), _, (Cond.instanceMethod pr_i88.1), (ev_cw pr_i88 4), (Cond.methodLink "OrphanTreeLaw" 215 pr_i147.1), (Cond.instanceMethod pr_i147.1), (Cond.selects pr_i147.1.cls pr_i147.1 pr_i147.1), (ev_cw pr_i147 3), (Cond.methodLink "OrphanTreeModel" 297 pr_i146.1), _, (Cond.instanceMethod pr_i146.1), (ev_cw pr_i146 3)] := rfl
  exact ⟨uw_s tk_7 112 e 4 rfl rfl, uw_s tk_7 112 e 7 rfl rfl, uw_s tk_7 112 e 6 rfl rfl, uw_s tk_7 112 e 12 rfl rfl, uw_s tk_7 112 e 15 rfl rfl, uw_s tk_7 112 e 14 rfl rfl, uw_s tk_7 112 e 0 rfl rfl, uw_s tk_7 112 e 3 rfl rfl, uw_s tk_7 112 e 1 rfl rfl, uw_s tk_7 112 e 2 rfl rfl, uw_s tk_7 112 e 8 rfl rfl, uw_s tk_7 112 e 11 rfl rfl, uw_s tk_7 112 e 9 rfl rfl, uw_s tk_7 112 e 10 rfl rfl⟩
theorem pw_m_q12_79 : Cond.methodLink "OrphanTreeModel" 79 (pr_I 88).1 ∈ ev_UW := wk_m qI_88 pt_w7_7.1
theorem pw_c_88 : ev_cw (pr_I 88) (pr_P 88).1 ∈ ev_UW := wk_c qI_88 pp_88 pt_w7_7.2.1
theorem pw_v_88 : Cond.instanceMethod (pr_I 88).1 ∈ ev_UW := wk_v qI_88 pt_w7_7.2.2.1
theorem pw_m_q12_297 : Cond.methodLink "OrphanTreeModel" 297 (pr_I 146).1 ∈ ev_UW := wk_m qI_146 pt_w7_7.2.2.2.1
theorem pw_c_146 : ev_cw (pr_I 146) (pr_P 146).1 ∈ ev_UW := wk_c qI_146 pp_146 pt_w7_7.2.2.2.2.1
theorem pw_v_146 : Cond.instanceMethod (pr_I 146).1 ∈ ev_UW := wk_v qI_146 pt_w7_7.2.2.2.2.2.1
theorem pw_m_q15_212 : Cond.methodLink "OrphanTreeLaw" 212 (pr_I 144).1 ∈ ev_UW := wk_m qI_144 pt_w7_7.2.2.2.2.2.2.1
theorem pw_c_144 : ev_cw (pr_I 144) (pr_P 144).1 ∈ ev_UW := wk_c qI_144 pp_144 pt_w7_7.2.2.2.2.2.2.2.1
theorem pw_v_144 : Cond.instanceMethod (pr_I 144).1 ∈ ev_UW := wk_v qI_144 pt_w7_7.2.2.2.2.2.2.2.2.1
theorem pw_s_144 : Cond.selects (pr_I 144).1.cls (pr_I 144).1 (pr_I 144).1 ∈ ev_UW := wk_s qI_144 pt_w7_7.2.2.2.2.2.2.2.2.2.1
theorem pw_m_q15_215 : Cond.methodLink "OrphanTreeLaw" 215 (pr_I 147).1 ∈ ev_UW := wk_m qI_147 pt_w7_7.2.2.2.2.2.2.2.2.2.2.1
theorem pw_c_147 : ev_cw (pr_I 147) (pr_P 147).1 ∈ ev_UW := wk_c qI_147 pp_147 pt_w7_7.2.2.2.2.2.2.2.2.2.2.2.1
theorem pw_v_147 : Cond.instanceMethod (pr_I 147).1 ∈ ev_UW := wk_v qI_147 pt_w7_7.2.2.2.2.2.2.2.2.2.2.2.2.1
theorem pw_s_147 : Cond.selects (pr_I 147).1.cls (pr_I 147).1 (pr_I 147).1 ∈ ev_UW := wk_s qI_147 pt_w7_7.2.2.2.2.2.2.2.2.2.2.2.2.2
theorem pw_s_88 : Cond.selects (pr_I 88).1.cls (pr_I 88).1 (pr_I 88).1 ∈ ev_UW := uw_m tk_0 64 rfl rfl
theorem pw_s_96 : Cond.selects (pr_I 96).1.cls (pr_I 96).1 (pr_I 96).1 ∈ ev_UW := uw_m tk_0 79 rfl rfl
theorem pw_s_101 : Cond.selects (pr_I 101).1.cls (pr_I 101).1 (pr_I 101).1 ∈ ev_UW := uw_m tk_0 77 rfl rfl
theorem pw_s_99 : Cond.selects (pr_I 99).1.cls (pr_I 99).1 (pr_I 99).1 ∈ ev_UW := uw_m tk_0 75 rfl rfl
theorem pw_s_100 : Cond.selects (pr_I 100).1.cls (pr_I 100).1 (pr_I 100).1 ∈ ev_UW := uw_m tk_0 76 rfl rfl
theorem pw_s_97 : Cond.selects (pr_I 97).1.cls (pr_I 97).1 (pr_I 97).1 ∈ ev_UW := uw_m tk_0 78 rfl rfl
theorem pw_s_104 : Cond.selects (pr_I 104).1.cls (pr_I 104).1 (pr_I 104).1 ∈ ev_UW := uw_m tk_0 74 rfl rfl
theorem pw_s_146 : Cond.selects (pr_I 146).1.cls (pr_I 146).1 (pr_I 146).1 ∈ ev_UW := uw_m tk_0 65 rfl rfl
theorem pw_s_145 : Cond.selects (pr_I 145).1.cls (pr_I 145).1 (pr_I 145).1 ∈ ev_UW := uw_m tk_0 66 rfl rfl
theorem pw_s_149 : Cond.selects (pr_I 149).1.cls (pr_I 149).1 (pr_I 149).1 ∈ ev_UW := uw_m tk_0 67 rfl rfl
theorem pw_s_152 : Cond.selects (pr_I 152).1.cls (pr_I 152).1 (pr_I 152).1 ∈ ev_UW := uw_m tk_0 70 rfl rfl
theorem pw_s_90 : Cond.selects (pr_I 90).1.cls (pr_I 90).1 (pr_I 90).1 ∈ ev_UW := uw_m tk_0 68 rfl rfl
theorem pw_s_151 : Cond.selects (pr_I 151).1.cls (pr_I 151).1 (pr_I 151).1 ∈ ev_UW := uw_m tk_0 69 rfl rfl
theorem pw_s_155 : Cond.selects (pr_I 155).1.cls (pr_I 155).1 (pr_I 155).1 ∈ ev_UW := uw_m tk_0 71 rfl rfl
theorem pw_s_80 : Cond.selects (pr_I 80).1.cls (pr_I 80).1 (pr_I 80).1 ∈ ev_UW := uw_m tk_0 72 rfl rfl
theorem pw_s_159 : Cond.selects (pr_I 159).1.cls (pr_I 159).1 (pr_I 159).1 ∈ ev_UW := uw_m tk_0 73 rfl rfl
theorem pt_w7_0 : (Cond.methodLink "OrphanTreeModel" 83 pr_i86.1) ∈ ev_UW ∧ (Cond.instanceMethod pr_i86.1) ∈ ev_UW ∧ (ev_cw pr_i119 1) ∈ ev_UW ∧ (Cond.instanceMethod pr_i119.1) ∈ ev_UW ∧ (Cond.methodLink "OrphanTreeModel" 234 pr_i120.1) ∈ ev_UW ∧ (ev_cw pr_i120 1) ∈ ev_UW ∧ (Cond.instanceMethod pr_i120.1) ∈ ev_UW ∧ (Cond.methodLink "OrphanTreeModel" 239 pr_i122.1) ∈ ev_UW ∧ (ev_cw pr_i122 1) ∈ ev_UW ∧ (Cond.instanceMethod pr_i122.1) ∈ ev_UW := by
  have e : (tables_1_7.drop 0).take 16 = [_, (Cond.instanceMethod pr_i119.1), (ev_cw pr_i119 1), _, (Cond.methodLink "OrphanTreeModel" 234 pr_i120.1), _, (Cond.instanceMethod pr_i120.1), (ev_cw pr_i120 1), _, (Cond.methodLink "OrphanTreeModel" 239 pr_i122.1), _, (Cond.instanceMethod pr_i122.1), (ev_cw pr_i122 1), (Cond.methodLink "OrphanTreeModel" 83 pr_i86.1), _, (Cond.instanceMethod pr_i86.1)] := rfl
  exact ⟨uw_s tk_7 0 e 13 rfl rfl, uw_s tk_7 0 e 15 rfl rfl, uw_s tk_7 0 e 2 rfl rfl, uw_s tk_7 0 e 1 rfl rfl, uw_s tk_7 0 e 4 rfl rfl, uw_s tk_7 0 e 7 rfl rfl, uw_s tk_7 0 e 6 rfl rfl, uw_s tk_7 0 e 9 rfl rfl, uw_s tk_7 0 e 12 rfl rfl, uw_s tk_7 0 e 11 rfl rfl⟩
theorem pw_m_q12_83 : Cond.methodLink "OrphanTreeModel" 83 (pr_I 86).1 ∈ ev_UW := wk_m qI_86 pt_w7_0.1
theorem pw_v_86 : Cond.instanceMethod (pr_I 86).1 ∈ ev_UW := wk_v qI_86 pt_w7_0.2.1
theorem pw_c_119 : ev_cw (pr_I 119) (pr_P 119).1 ∈ ev_UW := wk_c qI_119 pp_119 pt_w7_0.2.2.1
theorem pw_v_119 : Cond.instanceMethod (pr_I 119).1 ∈ ev_UW := wk_v qI_119 pt_w7_0.2.2.2.1
theorem pw_m_q12_234 : Cond.methodLink "OrphanTreeModel" 234 (pr_I 120).1 ∈ ev_UW := wk_m qI_120 pt_w7_0.2.2.2.2.1
theorem pw_c_120 : ev_cw (pr_I 120) (pr_P 120).1 ∈ ev_UW := wk_c qI_120 pp_120 pt_w7_0.2.2.2.2.2.1
theorem pw_v_120 : Cond.instanceMethod (pr_I 120).1 ∈ ev_UW := wk_v qI_120 pt_w7_0.2.2.2.2.2.2.1
theorem pw_m_q12_239 : Cond.methodLink "OrphanTreeModel" 239 (pr_I 122).1 ∈ ev_UW := wk_m qI_122 pt_w7_0.2.2.2.2.2.2.2.1
theorem pw_c_122 : ev_cw (pr_I 122) (pr_P 122).1 ∈ ev_UW := wk_c qI_122 pp_122 pt_w7_0.2.2.2.2.2.2.2.2.1
theorem pw_v_122 : Cond.instanceMethod (pr_I 122).1 ∈ ev_UW := wk_v qI_122 pt_w7_0.2.2.2.2.2.2.2.2.2
theorem pt_w7_6 : (Cond.methodLink "OrphanTreeModel" 87 pr_i89.1) ∈ ev_UW ∧ (ev_cw pr_i89 4) ∈ ev_UW ∧ (Cond.instanceMethod pr_i89.1) ∈ ev_UW ∧ (Cond.methodLink "OrphanTreeModel" 294 pr_i142.1) ∈ ev_UW ∧ (ev_cw pr_i142 2) ∈ ev_UW ∧ (Cond.instanceMethod pr_i142.1) ∈ ev_UW ∧ (Cond.methodLink "OrphanTreeLaw" 206 pr_i141.1) ∈ ev_UW ∧ (ev_cw pr_i141 2) ∈ ev_UW ∧ (Cond.instanceMethod pr_i141.1) ∈ ev_UW ∧ (Cond.selects pr_i141.1.cls pr_i141.1 pr_i141.1) ∈ ev_UW ∧ (Cond.methodLink "OrphanTreeLaw" 209 pr_i143.1) ∈ ev_UW ∧ (ev_cw pr_i143 2) ∈ ev_UW ∧ (Cond.instanceMethod pr_i143.1) ∈ ev_UW ∧ (Cond.selects pr_i143.1.cls pr_i143.1 pr_i143.1) ∈ ev_UW := by
  have e : (tables_1_7.drop 96).take 16 = [(Cond.methodLink "OrphanTreeLaw" 206 pr_i141.1), (Cond.instanceMethod pr_i141.1), (Cond.selects pr_i141.1.cls pr_i141.1 pr_i141.1), (ev_cw pr_i141 2), (Cond.methodLink "OrphanTreeLaw" 209 pr_i143.1), (Cond.instanceMethod pr_i143.1), (Cond.selects pr_i143.1.cls pr_i143.1 pr_i143.1), (ev_cw pr_i143 2), (Cond.methodLink "OrphanTreeModel" 294 pr_i142.1), _, (Cond.instanceMethod pr_i142.1), (ev_cw pr_i142 2), (Cond.methodLink "OrphanTreeModel" 87 pr_i89.1), _, (Cond.instanceMethod pr_i89.1), (ev_cw pr_i89 4)] := rfl
  exact ⟨uw_s tk_7 96 e 12 rfl rfl, uw_s tk_7 96 e 15 rfl rfl, uw_s tk_7 96 e 14 rfl rfl, uw_s tk_7 96 e 8 rfl rfl, uw_s tk_7 96 e 11 rfl rfl, uw_s tk_7 96 e 10 rfl rfl, uw_s tk_7 96 e 0 rfl rfl, uw_s tk_7 96 e 3 rfl rfl, uw_s tk_7 96 e 1 rfl rfl, uw_s tk_7 96 e 2 rfl rfl, uw_s tk_7 96 e 4 rfl rfl, uw_s tk_7 96 e 7 rfl rfl, uw_s tk_7 96 e 5 rfl rfl, uw_s tk_7 96 e 6 rfl rfl⟩
theorem pw_m_q12_87 : Cond.methodLink "OrphanTreeModel" 87 (pr_I 89).1 ∈ ev_UW := wk_m qI_89 pt_w7_6.1
theorem pw_c_89 : ev_cw (pr_I 89) (pr_P 89).1 ∈ ev_UW := wk_c qI_89 pp_89 pt_w7_6.2.1
theorem pw_v_89 : Cond.instanceMethod (pr_I 89).1 ∈ ev_UW := wk_v qI_89 pt_w7_6.2.2.1
theorem pw_m_q12_294 : Cond.methodLink "OrphanTreeModel" 294 (pr_I 142).1 ∈ ev_UW := wk_m qI_142 pt_w7_6.2.2.2.1
theorem pw_c_142 : ev_cw (pr_I 142) (pr_P 142).1 ∈ ev_UW := wk_c qI_142 pp_142 pt_w7_6.2.2.2.2.1
theorem pw_v_142 : Cond.instanceMethod (pr_I 142).1 ∈ ev_UW := wk_v qI_142 pt_w7_6.2.2.2.2.2.1
theorem pw_m_q15_206 : Cond.methodLink "OrphanTreeLaw" 206 (pr_I 141).1 ∈ ev_UW := wk_m qI_141 pt_w7_6.2.2.2.2.2.2.1
theorem pw_c_141 : ev_cw (pr_I 141) (pr_P 141).1 ∈ ev_UW := wk_c qI_141 pp_141 pt_w7_6.2.2.2.2.2.2.2.1
theorem pw_v_141 : Cond.instanceMethod (pr_I 141).1 ∈ ev_UW := wk_v qI_141 pt_w7_6.2.2.2.2.2.2.2.2.1
theorem pw_s_141 : Cond.selects (pr_I 141).1.cls (pr_I 141).1 (pr_I 141).1 ∈ ev_UW := wk_s qI_141 pt_w7_6.2.2.2.2.2.2.2.2.2.1
theorem pw_m_q15_209 : Cond.methodLink "OrphanTreeLaw" 209 (pr_I 143).1 ∈ ev_UW := wk_m qI_143 pt_w7_6.2.2.2.2.2.2.2.2.2.2.1
theorem pw_c_143 : ev_cw (pr_I 143) (pr_P 143).1 ∈ ev_UW := wk_c qI_143 pp_143 pt_w7_6.2.2.2.2.2.2.2.2.2.2.2.1
theorem pw_v_143 : Cond.instanceMethod (pr_I 143).1 ∈ ev_UW := wk_v qI_143 pt_w7_6.2.2.2.2.2.2.2.2.2.2.2.2.1
theorem pw_s_143 : Cond.selects (pr_I 143).1.cls (pr_I 143).1 (pr_I 143).1 ∈ ev_UW := wk_s qI_143 pt_w7_6.2.2.2.2.2.2.2.2.2.2.2.2.2
theorem pt_w7_2 : (Cond.methodLink "OrphanTreeModel" 90 pr_i87.1) ∈ ev_UW ∧ (Cond.methodLink "OrphanTreeModel" 244 pr_i123.1) ∈ ev_UW ∧ (ev_cw pr_i123 1) ∈ ev_UW ∧ (Cond.instanceMethod pr_i123.1) ∈ ev_UW ∧ (Cond.methodLink "OrphanTreeModel" 249 pr_i124.1) ∈ ev_UW ∧ (ev_cw pr_i124 1) ∈ ev_UW ∧ (Cond.instanceMethod pr_i124.1) ∈ ev_UW ∧ (Cond.methodLink "OrphanTreeModel" 254 pr_i125.1) ∈ ev_UW ∧ (ev_cw pr_i125 1) ∈ ev_UW ∧ (Cond.instanceMethod pr_i125.1) ∈ ev_UW := by
  have e : (tables_1_7.drop 32).take 16 = [_, (Cond.methodLink "OrphanTreeModel" 244 pr_i123.1), _, (Cond.instanceMethod pr_i123.1), (ev_cw pr_i123 1), _, (Cond.methodLink "OrphanTreeModel" 249 pr_i124.1), _, (Cond.instanceMethod pr_i124.1), (ev_cw pr_i124 1), _, (Cond.methodLink "OrphanTreeModel" 254 pr_i125.1), _, (Cond.instanceMethod pr_i125.1), (ev_cw pr_i125 1), (Cond.methodLink "OrphanTreeModel" 90 pr_i87.1)] := rfl
  exact ⟨uw_s tk_7 32 e 15 rfl rfl, uw_s tk_7 32 e 1 rfl rfl, uw_s tk_7 32 e 4 rfl rfl, uw_s tk_7 32 e 3 rfl rfl, uw_s tk_7 32 e 6 rfl rfl, uw_s tk_7 32 e 9 rfl rfl, uw_s tk_7 32 e 8 rfl rfl, uw_s tk_7 32 e 11 rfl rfl, uw_s tk_7 32 e 14 rfl rfl, uw_s tk_7 32 e 13 rfl rfl⟩
theorem pw_m_q12_90 : Cond.methodLink "OrphanTreeModel" 90 (pr_I 87).1 ∈ ev_UW := wk_m qI_87 pt_w7_2.1
theorem pw_m_q12_244 : Cond.methodLink "OrphanTreeModel" 244 (pr_I 123).1 ∈ ev_UW := wk_m qI_123 pt_w7_2.2.1
theorem pw_c_123 : ev_cw (pr_I 123) (pr_P 123).1 ∈ ev_UW := wk_c qI_123 pp_123 pt_w7_2.2.2.1
theorem pw_v_123 : Cond.instanceMethod (pr_I 123).1 ∈ ev_UW := wk_v qI_123 pt_w7_2.2.2.2.1
theorem pw_m_q12_249 : Cond.methodLink "OrphanTreeModel" 249 (pr_I 124).1 ∈ ev_UW := wk_m qI_124 pt_w7_2.2.2.2.2.1
theorem pw_c_124 : ev_cw (pr_I 124) (pr_P 124).1 ∈ ev_UW := wk_c qI_124 pp_124 pt_w7_2.2.2.2.2.2.1
theorem pw_v_124 : Cond.instanceMethod (pr_I 124).1 ∈ ev_UW := wk_v qI_124 pt_w7_2.2.2.2.2.2.2.1
theorem pw_m_q12_254 : Cond.methodLink "OrphanTreeModel" 254 (pr_I 125).1 ∈ ev_UW := wk_m qI_125 pt_w7_2.2.2.2.2.2.2.2.1
theorem pw_c_125 : ev_cw (pr_I 125) (pr_P 125).1 ∈ ev_UW := wk_c qI_125 pp_125 pt_w7_2.2.2.2.2.2.2.2.2.1
theorem pw_v_125 : Cond.instanceMethod (pr_I 125).1 ∈ ev_UW := wk_v qI_125 pt_w7_2.2.2.2.2.2.2.2.2.2
theorem pt_w7_3 : (ev_cw pr_i87 3) ∈ ev_UW ∧ (Cond.instanceMethod pr_i87.1) ∈ ev_UW ∧ (Cond.methodLink "OrphanTreeModel" 270 pr_i76.1) ∈ ev_UW ∧ (Cond.methodLink "OrphanTreeLaw" 185 pr_i129.1) ∈ ev_UW ∧ (ev_cw pr_i129 1) ∈ ev_UW ∧ (Cond.instanceMethod pr_i129.1) ∈ ev_UW ∧ (Cond.selects pr_i129.1.cls pr_i129.1 pr_i129.1) ∈ ev_UW ∧ (Cond.methodLink "OrphanTreeLaw" 189 pr_i130.1) ∈ ev_UW ∧ (ev_cw pr_i130 1) ∈ ev_UW ∧ (Cond.instanceMethod pr_i130.1) ∈ ev_UW ∧ (Cond.selects pr_i130.1.cls pr_i130.1 pr_i130.1) ∈ ev_UW ∧ (Cond.methodLink "OrphanTreeLaw" 195 pr_i134.1) ∈ ev_UW ∧ (ev_cw pr_i134 2) ∈ ev_UW ∧ (Cond.instanceMethod pr_i134.1) ∈ ev_UW ∧ (Cond.selects pr_i134.1.cls pr_i134.1 pr_i134.1) ∈ ev_UW := by
  have e : (tables_1_7.drop 48).take 16 = [_, (Cond.instanceMethod pr_i87.1), (ev_cw pr_i87 3), (Cond.methodLink "OrphanTreeLaw" 185 pr_i129.1), (Cond.instanceMethod pr_i129.1), (Cond.selects pr_i129.1.cls pr_i129.1 pr_i129.1), (ev_cw pr_i129 1), (Cond.methodLink "OrphanTreeLaw" 189 pr_i130.1), (Cond.instanceMethod pr_i130.1), (Cond.selects pr_i130.1.cls pr_i130.1 pr_i130.1), (ev_cw pr_i130 1), (Cond.methodLink "OrphanTreeLaw" 195 pr_i134.1), (Cond.instanceMethod pr_i134.1), (Cond.selects pr_i134.1.cls pr_i134.1 pr_i134.1), (ev_cw pr_i134 2), (Cond.methodLink "OrphanTreeModel" 270 pr_i76.1)] := rfl
  exact ⟨uw_s tk_7 48 e 2 rfl rfl, uw_s tk_7 48 e 1 rfl rfl, uw_s tk_7 48 e 15 rfl rfl, uw_s tk_7 48 e 3 rfl rfl, uw_s tk_7 48 e 6 rfl rfl, uw_s tk_7 48 e 4 rfl rfl, uw_s tk_7 48 e 5 rfl rfl, uw_s tk_7 48 e 7 rfl rfl, uw_s tk_7 48 e 10 rfl rfl, uw_s tk_7 48 e 8 rfl rfl, uw_s tk_7 48 e 9 rfl rfl, uw_s tk_7 48 e 11 rfl rfl, uw_s tk_7 48 e 14 rfl rfl, uw_s tk_7 48 e 12 rfl rfl, uw_s tk_7 48 e 13 rfl rfl⟩
theorem pw_c_87 : ev_cw (pr_I 87) (pr_P 87).1 ∈ ev_UW := wk_c qI_87 pp_87 pt_w7_3.1
theorem pw_v_87 : Cond.instanceMethod (pr_I 87).1 ∈ ev_UW := wk_v qI_87 pt_w7_3.2.1
theorem pw_m_q12_270 : Cond.methodLink "OrphanTreeModel" 270 (pr_I 76).1 ∈ ev_UW := wk_m qI_76 pt_w7_3.2.2.1
theorem pw_m_q15_185 : Cond.methodLink "OrphanTreeLaw" 185 (pr_I 129).1 ∈ ev_UW := wk_m qI_129 pt_w7_3.2.2.2.1
theorem pw_c_129 : ev_cw (pr_I 129) (pr_P 129).1 ∈ ev_UW := wk_c qI_129 pp_129 pt_w7_3.2.2.2.2.1
theorem pw_v_129 : Cond.instanceMethod (pr_I 129).1 ∈ ev_UW := wk_v qI_129 pt_w7_3.2.2.2.2.2.1
theorem pw_s_129 : Cond.selects (pr_I 129).1.cls (pr_I 129).1 (pr_I 129).1 ∈ ev_UW := wk_s qI_129 pt_w7_3.2.2.2.2.2.2.1
theorem pw_m_q15_189 : Cond.methodLink "OrphanTreeLaw" 189 (pr_I 130).1 ∈ ev_UW := wk_m qI_130 pt_w7_3.2.2.2.2.2.2.2.1
theorem pw_c_130 : ev_cw (pr_I 130) (pr_P 130).1 ∈ ev_UW := wk_c qI_130 pp_130 pt_w7_3.2.2.2.2.2.2.2.2.1
theorem pw_v_130 : Cond.instanceMethod (pr_I 130).1 ∈ ev_UW := wk_v qI_130 pt_w7_3.2.2.2.2.2.2.2.2.2.1
theorem pw_s_130 : Cond.selects (pr_I 130).1.cls (pr_I 130).1 (pr_I 130).1 ∈ ev_UW := wk_s qI_130 pt_w7_3.2.2.2.2.2.2.2.2.2.2.1
theorem pw_m_q15_195 : Cond.methodLink "OrphanTreeLaw" 195 (pr_I 134).1 ∈ ev_UW := wk_m qI_134 pt_w7_3.2.2.2.2.2.2.2.2.2.2.2.1
theorem pw_c_134 : ev_cw (pr_I 134) (pr_P 134).1 ∈ ev_UW := wk_c qI_134 pp_134 pt_w7_3.2.2.2.2.2.2.2.2.2.2.2.2.1
theorem pw_v_134 : Cond.instanceMethod (pr_I 134).1 ∈ ev_UW := wk_v qI_134 pt_w7_3.2.2.2.2.2.2.2.2.2.2.2.2.2.1
theorem pw_s_134 : Cond.selects (pr_I 134).1.cls (pr_I 134).1 (pr_I 134).1 ∈ ev_UW := wk_s qI_134 pt_w7_3.2.2.2.2.2.2.2.2.2.2.2.2.2.2
theorem pt_w7_13 : (Cond.methodLink "OrphanTreeModel" 93 pr_i91.1) ∈ ev_UW ∧ (ev_cw pr_i91 3) ∈ ev_UW ∧ (Cond.instanceMethod pr_i91.1) ∈ ev_UW ∧ (Cond.methodLink "OrphanTreeModel" 96 pr_i92.1) ∈ ev_UW ∧ (ev_cw pr_i92 4) ∈ ev_UW ∧ (Cond.instanceMethod pr_i92.1) ∈ ev_UW ∧ (Cond.methodLink "OrphanTreeModel" 99 pr_i93.1) ∈ ev_UW ∧ (Cond.methodLink "OrphanTreeModel" 109 pr_i96.1) ∈ ev_UW ∧ (ev_cw pr_i96 4) ∈ ev_UW ∧ (Cond.instanceMethod pr_i96.1) ∈ ev_UW ∧ (ev_cw pr_i97 5) ∈ ev_UW ∧ (Cond.instanceMethod pr_i97.1) ∈ ev_UW := by
  have e : (tables_1_7.drop 208).take 16 = [_, (Cond.instanceMethod pr_i97.1), (ev_cw pr_i97 5), (Cond.methodLink "OrphanTreeModel" 109 pr_i96.1), _, (Cond.instanceMethod pr_i96.1), (ev_cw pr_i96 4), (Cond.methodLink "OrphanTreeModel" 96 pr_i92.1), _, (Cond.instanceMethod pr_i92.1), (ev_cw pr_i92 4), (Cond.methodLink "OrphanTreeModel" 93 pr_i91.1), _, (Cond.instanceMethod pr_i91.1), (ev_cw pr_i91 3), (Cond.methodLink "OrphanTreeModel" 99 pr_i93.1)] := rfl
  exact ⟨uw_s tk_7 208 e 11 rfl rfl, uw_s tk_7 208 e 14 rfl rfl, uw_s tk_7 208 e 13 rfl rfl, uw_s tk_7 208 e 7 rfl rfl, uw_s tk_7 208 e 10 rfl rfl, uw_s tk_7 208 e 9 rfl rfl, uw_s tk_7 208 e 15 rfl rfl, uw_s tk_7 208 e 3 rfl rfl, uw_s tk_7 208 e 6 rfl rfl, uw_s tk_7 208 e 5 rfl rfl, uw_s tk_7 208 e 2 rfl rfl, uw_s tk_7 208 e 1 rfl rfl⟩
theorem pw_m_q12_93 : Cond.methodLink "OrphanTreeModel" 93 (pr_I 91).1 ∈ ev_UW := wk_m qI_91 pt_w7_13.1
theorem pw_c_91 : ev_cw (pr_I 91) (pr_P 91).1 ∈ ev_UW := wk_c qI_91 pp_91 pt_w7_13.2.1
theorem pw_v_91 : Cond.instanceMethod (pr_I 91).1 ∈ ev_UW := wk_v qI_91 pt_w7_13.2.2.1
theorem pw_m_q12_96 : Cond.methodLink "OrphanTreeModel" 96 (pr_I 92).1 ∈ ev_UW := wk_m qI_92 pt_w7_13.2.2.2.1
theorem pw_c_92 : ev_cw (pr_I 92) (pr_P 92).1 ∈ ev_UW := wk_c qI_92 pp_92 pt_w7_13.2.2.2.2.1
theorem pw_v_92 : Cond.instanceMethod (pr_I 92).1 ∈ ev_UW := wk_v qI_92 pt_w7_13.2.2.2.2.2.1
theorem pw_m_q12_99 : Cond.methodLink "OrphanTreeModel" 99 (pr_I 93).1 ∈ ev_UW := wk_m qI_93 pt_w7_13.2.2.2.2.2.2.1
theorem pw_m_q12_109 : Cond.methodLink "OrphanTreeModel" 109 (pr_I 96).1 ∈ ev_UW := wk_m qI_96 pt_w7_13.2.2.2.2.2.2.2.1
theorem pw_c_96 : ev_cw (pr_I 96) (pr_P 96).1 ∈ ev_UW := wk_c qI_96 pp_96 pt_w7_13.2.2.2.2.2.2.2.2.1
theorem pw_v_96 : Cond.instanceMethod (pr_I 96).1 ∈ ev_UW := wk_v qI_96 pt_w7_13.2.2.2.2.2.2.2.2.2.1
theorem pw_c_97 : ev_cw (pr_I 97) (pr_P 97).1 ∈ ev_UW := wk_c qI_97 pp_97 pt_w7_13.2.2.2.2.2.2.2.2.2.2.1
theorem pw_v_97 : Cond.instanceMethod (pr_I 97).1 ∈ ev_UW := wk_v qI_97 pt_w7_13.2.2.2.2.2.2.2.2.2.2.2
theorem pw_s_91 : Cond.selects (pr_I 91).1.cls (pr_I 91).1 (pr_I 91).1 ∈ ev_UW := uw_m tk_0 81 rfl rfl
theorem pw_s_92 : Cond.selects (pr_I 92).1.cls (pr_I 92).1 (pr_I 92).1 ∈ ev_UW := uw_m tk_0 80 rfl rfl
theorem pw_s_93 : Cond.selects (pr_I 93).1.cls (pr_I 93).1 (pr_I 93).1 ∈ ev_UW := uw_m tk_0 82 rfl rfl
theorem pw_s_94 : Cond.selects (pr_I 94).1.cls (pr_I 94).1 (pr_I 94).1 ∈ ev_UW := uw_m tk_0 83 rfl rfl
theorem pw_s_95 : Cond.selects (pr_I 95).1.cls (pr_I 95).1 (pr_I 95).1 ∈ ev_UW := uw_m tk_0 84 rfl rfl
theorem pw_s_102 : Cond.selects (pr_I 102).1.cls (pr_I 102).1 (pr_I 102).1 ∈ ev_UW := uw_m tk_0 87 rfl rfl
theorem pw_s_98 : Cond.selects (pr_I 98).1.cls (pr_I 98).1 (pr_I 98).1 ∈ ev_UW := uw_m tk_0 85 rfl rfl
theorem pw_s_103 : Cond.selects (pr_I 103).1.cls (pr_I 103).1 (pr_I 103).1 ∈ ev_UW := uw_m tk_0 86 rfl rfl
theorem pw_s_161 : Cond.selects (pr_I 161).1.cls (pr_I 161).1 (pr_I 161).1 ∈ ev_UW := uw_m tk_0 88 rfl rfl
theorem pw_s_105 : Cond.selects (pr_I 105).1.cls (pr_I 105).1 (pr_I 105).1 ∈ ev_UW := uw_m tk_0 89 rfl rfl
theorem pw_s_136 : Cond.selects (pr_I 136).1.cls (pr_I 136).1 (pr_I 136).1 ∈ ev_UW := uw_m tk_0 90 rfl rfl
theorem pw_s_168 : Cond.selects (pr_I 168).1.cls (pr_I 168).1 (pr_I 168).1 ∈ ev_UW := uw_m tk_0 91 rfl rfl
theorem pw_s_173 : Cond.selects (pr_I 173).1.cls (pr_I 173).1 (pr_I 173).1 ∈ ev_UW := uw_m tk_0 92 rfl rfl
theorem pw_s_137 : Cond.selects (pr_I 137).1.cls (pr_I 137).1 (pr_I 137).1 ∈ ev_UW := uw_m tk_0 93 rfl rfl
theorem pw_s_81 : Cond.selects (pr_I 81).1.cls (pr_I 81).1 (pr_I 81).1 ∈ ev_UW := uw_m tk_0 95 rfl rfl
theorem pw_s_180 : Cond.selects (pr_I 180).1.cls (pr_I 180).1 (pr_I 180).1 ∈ ev_UW := uw_m tk_0 94 rfl rfl
theorem pt_w7_14 : (ev_cw pr_i93 6) ∈ ev_UW ∧ (Cond.instanceMethod pr_i93.1) ∈ ev_UW ∧ (Cond.methodLink "OrphanTreeModel" 103 pr_i94.1) ∈ ev_UW ∧ (ev_cw pr_i94 4) ∈ ev_UW ∧ (Cond.instanceMethod pr_i94.1) ∈ ev_UW ∧ (Cond.methodLink "OrphanTreeModel" 106 pr_i95.1) ∈ ev_UW ∧ (ev_cw pr_i95 4) ∈ ev_UW ∧ (Cond.instanceMethod pr_i95.1) ∈ ev_UW ∧ (Cond.methodLink "OrphanTreeModel" 128 pr_i98.1) ∈ ev_UW ∧ (ev_cw pr_i98 3) ∈ ev_UW ∧ (Cond.instanceMethod pr_i98.1) ∈ ev_UW ∧ (Cond.methodLink "OrphanTreeModel" 132 pr_i103.1) ∈ ev_UW := by
  have e : (tables_1_7.drop 224).take 16 = [_, (Cond.instanceMethod pr_i93.1), (ev_cw pr_i93 6), (Cond.methodLink "OrphanTreeModel" 103 pr_i94.1), _, (Cond.instanceMethod pr_i94.1), (ev_cw pr_i94 4), (Cond.methodLink "OrphanTreeModel" 106 pr_i95.1), _, (Cond.instanceMethod pr_i95.1), (ev_cw pr_i95 4), (Cond.methodLink "OrphanTreeModel" 128 pr_i98.1), _, (Cond.instanceMethod pr_i98.1), (ev_cw pr_i98 3), (Cond.methodLink "OrphanTreeModel" 132 pr_i103.1)] := rfl
  exact ⟨uw_s tk_7 224 e 2 rfl rfl, uw_s tk_7 224 e 1 rfl rfl, uw_s tk_7 224 e 3 rfl rfl, uw_s tk_7 224 e 6 rfl rfl, uw_s tk_7 224 e 5 rfl rfl, uw_s tk_7 224 e 7 rfl rfl, uw_s tk_7 224 e 10 rfl rfl, uw_s tk_7 224 e 9 rfl rfl, uw_s tk_7 224 e 11 rfl rfl, uw_s tk_7 224 e 14 rfl rfl, uw_s tk_7 224 e 13 rfl rfl, uw_s tk_7 224 e 15 rfl rfl⟩
theorem pw_c_93 : ev_cw (pr_I 93) (pr_P 93).1 ∈ ev_UW := wk_c qI_93 pp_93 pt_w7_14.1
theorem pw_v_93 : Cond.instanceMethod (pr_I 93).1 ∈ ev_UW := wk_v qI_93 pt_w7_14.2.1
theorem pw_m_q12_103 : Cond.methodLink "OrphanTreeModel" 103 (pr_I 94).1 ∈ ev_UW := wk_m qI_94 pt_w7_14.2.2.1
theorem pw_c_94 : ev_cw (pr_I 94) (pr_P 94).1 ∈ ev_UW := wk_c qI_94 pp_94 pt_w7_14.2.2.2.1
theorem pw_v_94 : Cond.instanceMethod (pr_I 94).1 ∈ ev_UW := wk_v qI_94 pt_w7_14.2.2.2.2.1
theorem pw_m_q12_106 : Cond.methodLink "OrphanTreeModel" 106 (pr_I 95).1 ∈ ev_UW := wk_m qI_95 pt_w7_14.2.2.2.2.2.1
theorem pw_c_95 : ev_cw (pr_I 95) (pr_P 95).1 ∈ ev_UW := wk_c qI_95 pp_95 pt_w7_14.2.2.2.2.2.2.1
theorem pw_v_95 : Cond.instanceMethod (pr_I 95).1 ∈ ev_UW := wk_v qI_95 pt_w7_14.2.2.2.2.2.2.2.1
theorem pw_m_q12_128 : Cond.methodLink "OrphanTreeModel" 128 (pr_I 98).1 ∈ ev_UW := wk_m qI_98 pt_w7_14.2.2.2.2.2.2.2.2.1
theorem pw_c_98 : ev_cw (pr_I 98) (pr_P 98).1 ∈ ev_UW := wk_c qI_98 pp_98 pt_w7_14.2.2.2.2.2.2.2.2.2.1
theorem pw_v_98 : Cond.instanceMethod (pr_I 98).1 ∈ ev_UW := wk_v qI_98 pt_w7_14.2.2.2.2.2.2.2.2.2.2.1
theorem pw_m_q12_132 : Cond.methodLink "OrphanTreeModel" 132 (pr_I 103).1 ∈ ev_UW := wk_m qI_103 pt_w7_14.2.2.2.2.2.2.2.2.2.2.2
theorem pt_w7_12 : (Cond.methodLink "OrphanTreeModel" 113 pr_i101.1) ∈ ev_UW ∧ (ev_cw pr_i101 4) ∈ ev_UW ∧ (Cond.instanceMethod pr_i101.1) ∈ ev_UW ∧ (Cond.methodLink "OrphanTreeModel" 119 pr_i99.1) ∈ ev_UW ∧ (ev_cw pr_i99 5) ∈ ev_UW ∧ (Cond.instanceMethod pr_i99.1) ∈ ev_UW ∧ (Cond.methodLink "OrphanTreeModel" 122 pr_i100.1) ∈ ev_UW ∧ (ev_cw pr_i100 4) ∈ ev_UW ∧ (Cond.instanceMethod pr_i100.1) ∈ ev_UW ∧ (Cond.methodLink "OrphanTreeModel" 125 pr_i97.1) ∈ ev_UW ∧ (ev_cw pr_i104 7) ∈ ev_UW ∧ (Cond.instanceMethod pr_i104.1) ∈ ev_UW := by
  have e : (tables_1_7.drop 192).take 16 = [_, (Cond.instanceMethod pr_i104.1), (ev_cw pr_i104 7), (Cond.methodLink "OrphanTreeModel" 119 pr_i99.1), _, (Cond.instanceMethod pr_i99.1), (ev_cw pr_i99 5), (Cond.methodLink "OrphanTreeModel" 122 pr_i100.1), _, (Cond.instanceMethod pr_i100.1), (ev_cw pr_i100 4), (Cond.methodLink "OrphanTreeModel" 113 pr_i101.1), _, (Cond.instanceMethod pr_i101.1), (ev_cw pr_i101 4), (Cond.methodLink "OrphanTreeModel" 125 pr_i97.1)] := rfl
  exact ⟨uw_s tk_7 192 e 11 rfl rfl, uw_s tk_7 192 e 14 rfl rfl, uw_s tk_7 192 e 13 rfl rfl, uw_s tk_7 192 e 3 rfl rfl, uw_s tk_7 192 e 6 rfl rfl, uw_s tk_7 192 e 5 rfl rfl, uw_s tk_7 192 e 7 rfl rfl, uw_s tk_7 192 e 10 rfl rfl, uw_s tk_7 192 e 9 rfl rfl, uw_s tk_7 192 e 15 rfl rfl, uw_s tk_7 192 e 2 rfl rfl, uw_s tk_7 192 e 1 rfl rfl⟩
theorem pw_m_q12_113 : Cond.methodLink "OrphanTreeModel" 113 (pr_I 101).1 ∈ ev_UW := wk_m qI_101 pt_w7_12.1
theorem pw_c_101 : ev_cw (pr_I 101) (pr_P 101).1 ∈ ev_UW := wk_c qI_101 pp_101 pt_w7_12.2.1
theorem pw_v_101 : Cond.instanceMethod (pr_I 101).1 ∈ ev_UW := wk_v qI_101 pt_w7_12.2.2.1
theorem pw_m_q12_119 : Cond.methodLink "OrphanTreeModel" 119 (pr_I 99).1 ∈ ev_UW := wk_m qI_99 pt_w7_12.2.2.2.1
theorem pw_c_99 : ev_cw (pr_I 99) (pr_P 99).1 ∈ ev_UW := wk_c qI_99 pp_99 pt_w7_12.2.2.2.2.1
theorem pw_v_99 : Cond.instanceMethod (pr_I 99).1 ∈ ev_UW := wk_v qI_99 pt_w7_12.2.2.2.2.2.1
theorem pw_m_q12_122 : Cond.methodLink "OrphanTreeModel" 122 (pr_I 100).1 ∈ ev_UW := wk_m qI_100 pt_w7_12.2.2.2.2.2.2.1
theorem pw_c_100 : ev_cw (pr_I 100) (pr_P 100).1 ∈ ev_UW := wk_c qI_100 pp_100 pt_w7_12.2.2.2.2.2.2.2.1
theorem pw_v_100 : Cond.instanceMethod (pr_I 100).1 ∈ ev_UW := wk_v qI_100 pt_w7_12.2.2.2.2.2.2.2.2.1
theorem pw_m_q12_125 : Cond.methodLink "OrphanTreeModel" 125 (pr_I 97).1 ∈ ev_UW := wk_m qI_97 pt_w7_12.2.2.2.2.2.2.2.2.2.1
theorem pw_c_104 : ev_cw (pr_I 104) (pr_P 104).1 ∈ ev_UW := wk_c qI_104 pp_104 pt_w7_12.2.2.2.2.2.2.2.2.2.2.1
theorem pw_v_104 : Cond.instanceMethod (pr_I 104).1 ∈ ev_UW := wk_v qI_104 pt_w7_12.2.2.2.2.2.2.2.2.2.2.2
theorem pt_w8_0 : (Cond.methodLink "OrphanTreeModel" 116 pr_i102.1) ∈ ev_UW ∧ (ev_cw pr_i102 3) ∈ ev_UW ∧ (Cond.instanceMethod pr_i102.1) ∈ ev_UW ∧ (ev_cw pr_i103 4) ∈ ev_UW ∧ (Cond.instanceMethod pr_i103.1) ∈ ev_UW ∧ (Cond.methodLink "OrphanTreeModel" 327 pr_i161.1) ∈ ev_UW ∧ (ev_cw pr_i161 3) ∈ ev_UW ∧ (Cond.instanceMethod pr_i161.1) ∈ ev_UW ∧ (Cond.methodLink "OrphanTreeModel" 330 pr_i105.1) ∈ ev_UW ∧ (Cond.methodLink "OrphanTreeLaw" 239 pr_i162.1) ∈ ev_UW ∧ (ev_cw pr_i162 3) ∈ ev_UW ∧ (Cond.instanceMethod pr_i162.1) ∈ ev_UW ∧ (Cond.selects pr_i162.1.cls pr_i162.1 pr_i162.1) ∈ ev_UW := by
  have e : (tables_1_8.drop 0).take 16 = [_, (Cond.instanceMethod pr_i103.1), (ev_cw pr_i103 4), (Cond.methodLink "OrphanTreeModel" 116 pr_i102.1), _, (Cond.instanceMethod pr_i102.1), (ev_cw pr_i102 3), (Cond.methodLink "OrphanTreeLaw" 239 pr_i162.1), (Cond.instanceMethod pr_i162.1), (Cond.selects pr_i162.1.cls pr_i162.1 pr_i162.1), (ev_cw pr_i162 3), (Cond.methodLink "OrphanTreeModel" 327 pr_i161.1), _, (Cond.instanceMethod pr_i161.1), (ev_cw pr_i161 3), (Cond.methodLink "OrphanTreeModel" 330 pr_i105.1)] := rfl
  exact ⟨uw_s tk_8 0 e 3 rfl rfl, uw_s tk_8 0 e 6 rfl rfl, uw_s tk_8 0 e 5 rfl rfl, uw_s tk_8 0 e 2 rfl rfl, uw_s tk_8 0 e 1 rfl rfl, uw_s tk_8 0 e 11 rfl rfl, uw_s tk_8 0 e 14 rfl rfl, uw_s tk_8 0 e 13 rfl rfl, uw_s tk_8 0 e 15 rfl rfl, uw_s tk_8 0 e 7 rfl rfl, uw_s tk_8 0 e 10 rfl rfl, uw_s tk_8 0 e 8 rfl rfl, uw_s tk_8 0 e 9 rfl rfl⟩
theorem pw_m_q12_116 : Cond.methodLink "OrphanTreeModel" 116 (pr_I 102).1 ∈ ev_UW := wk_m qI_102 pt_w8_0.1
theorem pw_c_102 : ev_cw (pr_I 102) (pr_P 102).1 ∈ ev_UW := wk_c qI_102 pp_102 pt_w8_0.2.1
theorem pw_v_102 : Cond.instanceMethod (pr_I 102).1 ∈ ev_UW := wk_v qI_102 pt_w8_0.2.2.1
theorem pw_c_103 : ev_cw (pr_I 103) (pr_P 103).1 ∈ ev_UW := wk_c qI_103 pp_103 pt_w8_0.2.2.2.1
theorem pw_v_103 : Cond.instanceMethod (pr_I 103).1 ∈ ev_UW := wk_v qI_103 pt_w8_0.2.2.2.2.1
theorem pw_m_q12_327 : Cond.methodLink "OrphanTreeModel" 327 (pr_I 161).1 ∈ ev_UW := wk_m qI_161 pt_w8_0.2.2.2.2.2.1
theorem pw_c_161 : ev_cw (pr_I 161) (pr_P 161).1 ∈ ev_UW := wk_c qI_161 pp_161 pt_w8_0.2.2.2.2.2.2.1
theorem pw_v_161 : Cond.instanceMethod (pr_I 161).1 ∈ ev_UW := wk_v qI_161 pt_w8_0.2.2.2.2.2.2.2.1
theorem pw_m_q12_330 : Cond.methodLink "OrphanTreeModel" 330 (pr_I 105).1 ∈ ev_UW := wk_m qI_105 pt_w8_0.2.2.2.2.2.2.2.2.1
theorem pw_m_q15_239 : Cond.methodLink "OrphanTreeLaw" 239 (pr_I 162).1 ∈ ev_UW := wk_m qI_162 pt_w8_0.2.2.2.2.2.2.2.2.2.1
theorem pw_c_162 : ev_cw (pr_I 162) (pr_P 162).1 ∈ ev_UW := wk_c qI_162 pp_162 pt_w8_0.2.2.2.2.2.2.2.2.2.2.1
theorem pw_v_162 : Cond.instanceMethod (pr_I 162).1 ∈ ev_UW := wk_v qI_162 pt_w8_0.2.2.2.2.2.2.2.2.2.2.2.1
theorem pw_s_162 : Cond.selects (pr_I 162).1.cls (pr_I 162).1 (pr_I 162).1 ∈ ev_UW := wk_s qI_162 pt_w8_0.2.2.2.2.2.2.2.2.2.2.2.2
theorem pt_w7_11 : (Cond.methodLink "OrphanTreeModel" 135 pr_i104.1) ∈ ev_UW ∧ (Cond.methodLink "OrphanTreeModel" 318 pr_i157.1) ∈ ev_UW ∧ (Cond.static pr_i157.1) ∈ ev_UW ∧ (ev_cw pr_i157 1) ∈ ev_UW ∧ (Cond.methodLink "OrphanTreeModel" 321 pr_i80.1) ∈ ev_UW ∧ (ev_cw pr_i80 1) ∈ ev_UW ∧ (Cond.instanceMethod pr_i80.1) ∈ ev_UW ∧ (Cond.methodLink "OrphanTreeModel" 324 pr_i159.1) ∈ ev_UW ∧ (ev_cw pr_i159 3) ∈ ev_UW ∧ (Cond.instanceMethod pr_i159.1) ∈ ev_UW ∧ (Cond.methodLink "OrphanTreeLaw" 236 pr_i160.1) ∈ ev_UW ∧ (ev_cw pr_i160 3) ∈ ev_UW ∧ (Cond.instanceMethod pr_i160.1) ∈ ev_UW ∧ (Cond.selects pr_i160.1.cls pr_i160.1 pr_i160.1) ∈ ev_UW := by
  have e : (tables_1_7.drop 176).take 16 = [(Cond.methodLink "OrphanTreeModel" 318 pr_i157.1), (Cond.static pr_i157.1), (ev_cw pr_i157 1), (Cond.methodLink "OrphanTreeModel" 321 pr_i80.1), _, (Cond.instanceMethod pr_i80.1), (ev_cw pr_i80 1), (Cond.methodLink "OrphanTreeLaw" 236 pr_i160.1), (Cond.instanceMethod pr_i160.1), (Cond.selects pr_i160.1.cls pr_i160.1 pr_i160.1), (ev_cw pr_i160 3), (Cond.methodLink "OrphanTreeModel" 324 pr_i159.1), _, (Cond.instanceMethod pr_i159.1), (ev_cw pr_i159 3), (Cond.methodLink "OrphanTreeModel" 135 pr_i104.1)] := rfl
  exact ⟨uw_s tk_7 176 e 15 rfl rfl, uw_s tk_7 176 e 0 rfl rfl, uw_s tk_7 176 e 1 rfl rfl, uw_s tk_7 176 e 2 rfl rfl, uw_s tk_7 176 e 3 rfl rfl, uw_s tk_7 176 e 6 rfl rfl, uw_s tk_7 176 e 5 rfl rfl, uw_s tk_7 176 e 11 rfl rfl, uw_s tk_7 176 e 14 rfl rfl, uw_s tk_7 176 e 13 rfl rfl, uw_s tk_7 176 e 7 rfl rfl, uw_s tk_7 176 e 10 rfl rfl, uw_s tk_7 176 e 8 rfl rfl, uw_s tk_7 176 e 9 rfl rfl⟩
theorem pw_m_q12_135 : Cond.methodLink "OrphanTreeModel" 135 (pr_I 104).1 ∈ ev_UW := wk_m qI_104 pt_w7_11.1
theorem pw_m_q12_318 : Cond.methodLink "OrphanTreeModel" 318 (pr_I 157).1 ∈ ev_UW := wk_m qI_157 pt_w7_11.2.1
theorem pw_t_157 : Cond.static (pr_I 157).1 ∈ ev_UW := wk_t qI_157 pt_w7_11.2.2.1
theorem pw_c_157 : ev_cw (pr_I 157) (pr_P 157).1 ∈ ev_UW := wk_c qI_157 pp_157 pt_w7_11.2.2.2.1
theorem pw_m_q12_321 : Cond.methodLink "OrphanTreeModel" 321 (pr_I 80).1 ∈ ev_UW := wk_m qI_80 pt_w7_11.2.2.2.2.1
theorem pw_c_80 : ev_cw (pr_I 80) (pr_P 80).1 ∈ ev_UW := wk_c qI_80 pp_80 pt_w7_11.2.2.2.2.2.1
theorem pw_v_80 : Cond.instanceMethod (pr_I 80).1 ∈ ev_UW := wk_v qI_80 pt_w7_11.2.2.2.2.2.2.1
theorem pw_m_q12_324 : Cond.methodLink "OrphanTreeModel" 324 (pr_I 159).1 ∈ ev_UW := wk_m qI_159 pt_w7_11.2.2.2.2.2.2.2.1
theorem pw_c_159 : ev_cw (pr_I 159) (pr_P 159).1 ∈ ev_UW := wk_c qI_159 pp_159 pt_w7_11.2.2.2.2.2.2.2.2.1
theorem pw_v_159 : Cond.instanceMethod (pr_I 159).1 ∈ ev_UW := wk_v qI_159 pt_w7_11.2.2.2.2.2.2.2.2.2.1
theorem pw_m_q15_236 : Cond.methodLink "OrphanTreeLaw" 236 (pr_I 160).1 ∈ ev_UW := wk_m qI_160 pt_w7_11.2.2.2.2.2.2.2.2.2.2.1
theorem pw_c_160 : ev_cw (pr_I 160) (pr_P 160).1 ∈ ev_UW := wk_c qI_160 pp_160 pt_w7_11.2.2.2.2.2.2.2.2.2.2.2.1
theorem pw_v_160 : Cond.instanceMethod (pr_I 160).1 ∈ ev_UW := wk_v qI_160 pt_w7_11.2.2.2.2.2.2.2.2.2.2.2.2.1
theorem pw_s_160 : Cond.selects (pr_I 160).1.cls (pr_I 160).1 (pr_I 160).1 ∈ ev_UW := wk_s qI_160 pt_w7_11.2.2.2.2.2.2.2.2.2.2.2.2.2
theorem pw_s_109 : Cond.selects (pr_I 109).1.cls (pr_I 109).1 (pr_I 109).1 ∈ ev_UW := uw_m tk_0 33 rfl rfl
theorem pw_s_111 : Cond.selects (pr_I 111).1.cls (pr_I 111).1 (pr_I 111).1 ∈ ev_UW := uw_m tk_0 37 rfl rfl
theorem pw_s_112 : Cond.selects (pr_I 112).1.cls (pr_I 112).1 (pr_I 112).1 ∈ ev_UW := uw_m tk_0 40 rfl rfl
theorem pw_s_114 : Cond.selects (pr_I 114).1.cls (pr_I 114).1 (pr_I 114).1 ∈ ev_UW := uw_m tk_0 44 rfl rfl
theorem pw_s_110 : Cond.selects (pr_I 110).1.cls (pr_I 110).1 (pr_I 110).1 ∈ ev_UW := uw_m tk_0 32 rfl rfl
theorem pw_s_113 : Cond.selects (pr_I 113).1.cls (pr_I 113).1 (pr_I 113).1 ∈ ev_UW := uw_m tk_0 36 rfl rfl
theorem pw_s_116 : Cond.selects (pr_I 116).1.cls (pr_I 116).1 (pr_I 116).1 ∈ ev_UW := uw_m tk_0 39 rfl rfl
theorem pw_s_115 : Cond.selects (pr_I 115).1.cls (pr_I 115).1 (pr_I 115).1 ∈ ev_UW := uw_m tk_0 43 rfl rfl
theorem pw_s_117 : Cond.selects (pr_I 117).1.cls (pr_I 117).1 (pr_I 117).1 ∈ ev_UW := uw_m tk_0 41 rfl rfl
theorem pw_s_121 : Cond.selects (pr_I 121).1.cls (pr_I 121).1 (pr_I 121).1 ∈ ev_UW := uw_m tk_0 38 rfl rfl
theorem pw_s_118 : Cond.selects (pr_I 118).1.cls (pr_I 118).1 (pr_I 118).1 ∈ ev_UW := uw_m tk_0 42 rfl rfl
theorem pw_s_119 : Cond.selects (pr_I 119).1.cls (pr_I 119).1 (pr_I 119).1 ∈ ev_UW := uw_m tk_0 45 rfl rfl
theorem pw_s_120 : Cond.selects (pr_I 120).1.cls (pr_I 120).1 (pr_I 120).1 ∈ ev_UW := uw_m tk_0 46 rfl rfl
theorem pw_s_122 : Cond.selects (pr_I 122).1.cls (pr_I 122).1 (pr_I 122).1 ∈ ev_UW := uw_m tk_0 47 rfl rfl
theorem pw_s_126 : Cond.selects (pr_I 126).1.cls (pr_I 126).1 (pr_I 126).1 ∈ ev_UW := uw_m tk_0 35 rfl rfl
theorem pw_s_127 : Cond.selects (pr_I 127).1.cls (pr_I 127).1 (pr_I 127).1 ∈ ev_UW := uw_m tk_0 34 rfl rfl
theorem pt_w6_12 : (Cond.methodLink "OrphanTreeModel" 169 pr_i111.1) ∈ ev_UW ∧ (ev_cw pr_i111 1) ∈ ev_UW ∧ (Cond.instanceMethod pr_i111.1) ∈ ev_UW ∧ (Cond.methodLink "OrphanTreeModel" 173 js_ln) ∈ ev_UW ∧ (Cond.methodLink "OrphanTreeModel" 178 js_ch) ∈ ev_UW ∧ (Cond.methodLink "OrphanTreeModel" 196 pr_i113.1) ∈ ev_UW ∧ (ev_cw pr_i113 3) ∈ ev_UW ∧ (Cond.instanceMethod pr_i113.1) ∈ ev_UW ∧ (Cond.methodLink "OrphanTreeModel" 219 pr_i121.1) ∈ ev_UW ∧ (ev_cw pr_i121 3) ∈ ev_UW ∧ (Cond.instanceMethod pr_i121.1) ∈ ev_UW ∧ (ev_cw pr_i126 1) ∈ ev_UW := by
  have e : (tables_1_6.drop 192).take 16 = [(ev_cw pr_i126 1), _, (Cond.methodLink "OrphanTreeModel" 196 pr_i113.1), _, (Cond.instanceMethod pr_i113.1), (ev_cw pr_i113 3), (Cond.methodLink "OrphanTreeModel" 169 pr_i111.1), _, (Cond.instanceMethod pr_i111.1), (ev_cw pr_i111 1), (Cond.methodLink "OrphanTreeModel" 173 js_ln), (Cond.methodLink "OrphanTreeModel" 178 js_ch), (Cond.methodLink "OrphanTreeModel" 219 pr_i121.1), _, (Cond.instanceMethod pr_i121.1), (ev_cw pr_i121 3)] := rfl
  exact ⟨uw_s tk_6 192 e 6 rfl rfl, uw_s tk_6 192 e 9 rfl rfl, uw_s tk_6 192 e 8 rfl rfl, uw_s tk_6 192 e 10 rfl rfl, uw_s tk_6 192 e 11 rfl rfl, uw_s tk_6 192 e 2 rfl rfl, uw_s tk_6 192 e 5 rfl rfl, uw_s tk_6 192 e 4 rfl rfl, uw_s tk_6 192 e 12 rfl rfl, uw_s tk_6 192 e 15 rfl rfl, uw_s tk_6 192 e 14 rfl rfl, uw_s tk_6 192 e 0 rfl rfl⟩
theorem pw_m_q12_169 : Cond.methodLink "OrphanTreeModel" 169 (pr_I 111).1 ∈ ev_UW := wk_m qI_111 pt_w6_12.1
theorem pw_c_111 : ev_cw (pr_I 111) (pr_P 111).1 ∈ ev_UW := wk_c qI_111 pp_111 pt_w6_12.2.1
theorem pw_v_111 : Cond.instanceMethod (pr_I 111).1 ∈ ev_UW := wk_v qI_111 pt_w6_12.2.2.1
theorem pw_m_q12_173 : Cond.methodLink "OrphanTreeModel" 173 js_ln ∈ ev_UW := pt_w6_12.2.2.2.1
theorem pw_m_q12_178 : Cond.methodLink "OrphanTreeModel" 178 js_ch ∈ ev_UW := pt_w6_12.2.2.2.2.1
theorem pw_m_q12_196 : Cond.methodLink "OrphanTreeModel" 196 (pr_I 113).1 ∈ ev_UW := wk_m qI_113 pt_w6_12.2.2.2.2.2.1
theorem pw_c_113 : ev_cw (pr_I 113) (pr_P 113).1 ∈ ev_UW := wk_c qI_113 pp_113 pt_w6_12.2.2.2.2.2.2.1
theorem pw_v_113 : Cond.instanceMethod (pr_I 113).1 ∈ ev_UW := wk_v qI_113 pt_w6_12.2.2.2.2.2.2.2.1
theorem pw_m_q12_219 : Cond.methodLink "OrphanTreeModel" 219 (pr_I 121).1 ∈ ev_UW := wk_m qI_121 pt_w6_12.2.2.2.2.2.2.2.2.1
theorem pw_c_121 : ev_cw (pr_I 121) (pr_P 121).1 ∈ ev_UW := wk_c qI_121 pp_121 pt_w6_12.2.2.2.2.2.2.2.2.2.1
theorem pw_v_121 : Cond.instanceMethod (pr_I 121).1 ∈ ev_UW := wk_v qI_121 pt_w6_12.2.2.2.2.2.2.2.2.2.2.1
theorem pw_c_126 : ev_cw (pr_I 126) (pr_P 126).1 ∈ ev_UW := wk_c qI_126 pp_126 pt_w6_12.2.2.2.2.2.2.2.2.2.2.2
theorem pt_w6_13 : (Cond.methodLink "OrphanTreeModel" 182 pr_i112.1) ∈ ev_UW ∧ (ev_cw pr_i112 2) ∈ ev_UW ∧ (Cond.instanceMethod pr_i112.1) ∈ ev_UW ∧ (Cond.methodLink "OrphanTreeModel" 208 pr_i116.1) ∈ ev_UW ∧ (ev_cw pr_i116 2) ∈ ev_UW ∧ (Cond.instanceMethod pr_i116.1) ∈ ev_UW ∧ (Cond.methodLink "OrphanTreeModel" 214 pr_i117.1) ∈ ev_UW ∧ (ev_cw pr_i117 1) ∈ ev_UW ∧ (Cond.instanceMethod pr_i117.1) ∈ ev_UW := by
  have e : (tables_1_6.drop 208).take 16 = [(Cond.methodLink "OrphanTreeModel" 208 pr_i116.1), _, (Cond.instanceMethod pr_i116.1), (ev_cw pr_i116 2), (Cond.methodLink "OrphanTreeModel" 182 pr_i112.1), _, (Cond.instanceMethod pr_i112.1), (ev_cw pr_i112 2), (Cond.methodLink "OrphanTreeModel" 214 pr_i117.1), _, (Cond.instanceMethod pr_i117.1), (ev_cw pr_i117 1), _, _, _, _] := rfl
  exact ⟨uw_s tk_6 208 e 4 rfl rfl, uw_s tk_6 208 e 7 rfl rfl, uw_s tk_6 208 e 6 rfl rfl, uw_s tk_6 208 e 0 rfl rfl, uw_s tk_6 208 e 3 rfl rfl, uw_s tk_6 208 e 2 rfl rfl, uw_s tk_6 208 e 8 rfl rfl, uw_s tk_6 208 e 11 rfl rfl, uw_s tk_6 208 e 10 rfl rfl⟩
theorem pw_m_q12_182 : Cond.methodLink "OrphanTreeModel" 182 (pr_I 112).1 ∈ ev_UW := wk_m qI_112 pt_w6_13.1
theorem pw_c_112 : ev_cw (pr_I 112) (pr_P 112).1 ∈ ev_UW := wk_c qI_112 pp_112 pt_w6_13.2.1
theorem pw_v_112 : Cond.instanceMethod (pr_I 112).1 ∈ ev_UW := wk_v qI_112 pt_w6_13.2.2.1
theorem pw_m_q12_208 : Cond.methodLink "OrphanTreeModel" 208 (pr_I 116).1 ∈ ev_UW := wk_m qI_116 pt_w6_13.2.2.2.1
theorem pw_c_116 : ev_cw (pr_I 116) (pr_P 116).1 ∈ ev_UW := wk_c qI_116 pp_116 pt_w6_13.2.2.2.2.1
theorem pw_v_116 : Cond.instanceMethod (pr_I 116).1 ∈ ev_UW := wk_v qI_116 pt_w6_13.2.2.2.2.2.1
theorem pw_m_q12_214 : Cond.methodLink "OrphanTreeModel" 214 (pr_I 117).1 ∈ ev_UW := wk_m qI_117 pt_w6_13.2.2.2.2.2.2.1
theorem pw_c_117 : ev_cw (pr_I 117) (pr_P 117).1 ∈ ev_UW := wk_c qI_117 pp_117 pt_w6_13.2.2.2.2.2.2.2.1
theorem pw_v_117 : Cond.instanceMethod (pr_I 117).1 ∈ ev_UW := wk_v qI_117 pt_w6_13.2.2.2.2.2.2.2.2
theorem pt_w6_14 : (Cond.methodLink "OrphanTreeModel" 185 pr_i114.1) ∈ ev_UW ∧ (ev_cw pr_i114 3) ∈ ev_UW ∧ (Cond.instanceMethod pr_i114.1) ∈ ev_UW ∧ (Cond.methodLink "OrphanTreeModel" 211 pr_i115.1) ∈ ev_UW ∧ (ev_cw pr_i115 4) ∈ ev_UW ∧ (Cond.instanceMethod pr_i115.1) ∈ ev_UW ∧ (Cond.methodLink "OrphanTreeModel" 224 pr_i118.1) ∈ ev_UW ∧ (ev_cw pr_i118 1) ∈ ev_UW ∧ (Cond.instanceMethod pr_i118.1) ∈ ev_UW ∧ (Cond.methodLink "OrphanTreeModel" 229 pr_i119.1) ∈ ev_UW := by
  have e : (tables_1_6.drop 224).take 16 = [_, _, (Cond.methodLink "OrphanTreeModel" 224 pr_i118.1), _, (Cond.instanceMethod pr_i118.1), (ev_cw pr_i118 1), (Cond.methodLink "OrphanTreeModel" 211 pr_i115.1), _, (Cond.instanceMethod pr_i115.1), (ev_cw pr_i115 4), (Cond.methodLink "OrphanTreeModel" 185 pr_i114.1), _, (Cond.instanceMethod pr_i114.1), (ev_cw pr_i114 3), _, (Cond.methodLink "OrphanTreeModel" 229 pr_i119.1)] := rfl
  exact ⟨uw_s tk_6 224 e 10 rfl rfl, uw_s tk_6 224 e 13 rfl rfl, uw_s tk_6 224 e 12 rfl rfl, uw_s tk_6 224 e 6 rfl rfl, uw_s tk_6 224 e 9 rfl rfl, uw_s tk_6 224 e 8 rfl rfl, uw_s tk_6 224 e 2 rfl rfl, uw_s tk_6 224 e 5 rfl rfl, uw_s tk_6 224 e 4 rfl rfl, uw_s tk_6 224 e 15 rfl rfl⟩
theorem pw_m_q12_185 : Cond.methodLink "OrphanTreeModel" 185 (pr_I 114).1 ∈ ev_UW := wk_m qI_114 pt_w6_14.1
theorem pw_c_114 : ev_cw (pr_I 114) (pr_P 114).1 ∈ ev_UW := wk_c qI_114 pp_114 pt_w6_14.2.1
theorem pw_v_114 : Cond.instanceMethod (pr_I 114).1 ∈ ev_UW := wk_v qI_114 pt_w6_14.2.2.1
theorem pw_m_q12_211 : Cond.methodLink "OrphanTreeModel" 211 (pr_I 115).1 ∈ ev_UW := wk_m qI_115 pt_w6_14.2.2.2.1
theorem pw_c_115 : ev_cw (pr_I 115) (pr_P 115).1 ∈ ev_UW := wk_c qI_115 pp_115 pt_w6_14.2.2.2.2.1
theorem pw_v_115 : Cond.instanceMethod (pr_I 115).1 ∈ ev_UW := wk_v qI_115 pt_w6_14.2.2.2.2.2.1
theorem pw_m_q12_224 : Cond.methodLink "OrphanTreeModel" 224 (pr_I 118).1 ∈ ev_UW := wk_m qI_118 pt_w6_14.2.2.2.2.2.2.1
theorem pw_c_118 : ev_cw (pr_I 118) (pr_P 118).1 ∈ ev_UW := wk_c qI_118 pp_118 pt_w6_14.2.2.2.2.2.2.2.1
theorem pw_v_118 : Cond.instanceMethod (pr_I 118).1 ∈ ev_UW := wk_v qI_118 pt_w6_14.2.2.2.2.2.2.2.2.1
theorem pw_m_q12_229 : Cond.methodLink "OrphanTreeModel" 229 (pr_I 119).1 ∈ ev_UW := wk_m qI_119 pt_w6_14.2.2.2.2.2.2.2.2.2
theorem pt_w7_4 : (ev_cw pr_i76 3) ∈ ev_UW ∧ (Cond.instanceMethod pr_i76.1) ∈ ev_UW ∧ (Cond.methodLink "OrphanTreeModel" 274 pr_i131.1) ∈ ev_UW ∧ (ev_cw pr_i131 4) ∈ ev_UW ∧ (Cond.instanceMethod pr_i131.1) ∈ ev_UW ∧ (Cond.methodLink "OrphanTreeModel" 277 pr_i132.1) ∈ ev_UW ∧ (ev_cw pr_i132 4) ∈ ev_UW ∧ (Cond.instanceMethod pr_i132.1) ∈ ev_UW ∧ (Cond.methodLink "OrphanTreeModel" 280 pr_i353.1) ∈ ev_UW ∧ (Cond.methodLink "OrphanTreeLaw" 199 pr_i138.1) ∈ ev_UW ∧ (ev_cw pr_i138 3) ∈ ev_UW ∧ (Cond.instanceMethod pr_i138.1) ∈ ev_UW ∧ (Cond.selects pr_i138.1.cls pr_i138.1 pr_i138.1) ∈ ev_UW := by
  have e : (tables_1_7.drop 64).take 16 = [_, (Cond.instanceMethod pr_i76.1), (ev_cw pr_i76 3), (Cond.methodLink "OrphanTreeModel" 274 pr_i131.1), _, (Cond.instanceMethod pr_i131.1), (ev_cw pr_i131 4), (Cond.methodLink "OrphanTreeModel" 277 pr_i132.1), _, (Cond.instanceMethod pr_i132.1), (ev_cw pr_i132 4), (Cond.methodLink "OrphanTreeModel" 280 pr_i353.1), (Cond.methodLink "OrphanTreeLaw" 199 pr_i138.1), (Cond.instanceMethod pr_i138.1), (Cond.selects pr_i138.1.cls pr_i138.1 pr_i138.1), (ev_cw pr_i138 3)] := rfl
  exact ⟨uw_s tk_7 64 e 2 rfl rfl, uw_s tk_7 64 e 1 rfl rfl, uw_s tk_7 64 e 3 rfl rfl, uw_s tk_7 64 e 6 rfl rfl, uw_s tk_7 64 e 5 rfl rfl, uw_s tk_7 64 e 7 rfl rfl, uw_s tk_7 64 e 10 rfl rfl, uw_s tk_7 64 e 9 rfl rfl, uw_s tk_7 64 e 11 rfl rfl, uw_s tk_7 64 e 12 rfl rfl, uw_s tk_7 64 e 15 rfl rfl, uw_s tk_7 64 e 13 rfl rfl, uw_s tk_7 64 e 14 rfl rfl⟩
theorem pw_c_76 : ev_cw (pr_I 76) (pr_P 76).1 ∈ ev_UW := wk_c qI_76 pp_76 pt_w7_4.1
theorem pw_v_76 : Cond.instanceMethod (pr_I 76).1 ∈ ev_UW := wk_v qI_76 pt_w7_4.2.1
theorem pw_m_q12_274 : Cond.methodLink "OrphanTreeModel" 274 (pr_I 131).1 ∈ ev_UW := wk_m qI_131 pt_w7_4.2.2.1
theorem pw_c_131 : ev_cw (pr_I 131) (pr_P 131).1 ∈ ev_UW := wk_c qI_131 pp_131 pt_w7_4.2.2.2.1
theorem pw_v_131 : Cond.instanceMethod (pr_I 131).1 ∈ ev_UW := wk_v qI_131 pt_w7_4.2.2.2.2.1
theorem pw_m_q12_277 : Cond.methodLink "OrphanTreeModel" 277 (pr_I 132).1 ∈ ev_UW := wk_m qI_132 pt_w7_4.2.2.2.2.2.1
theorem pw_c_132 : ev_cw (pr_I 132) (pr_P 132).1 ∈ ev_UW := wk_c qI_132 pp_132 pt_w7_4.2.2.2.2.2.2.1
theorem pw_v_132 : Cond.instanceMethod (pr_I 132).1 ∈ ev_UW := wk_v qI_132 pt_w7_4.2.2.2.2.2.2.2.1
theorem pw_m_q12_280 : Cond.methodLink "OrphanTreeModel" 280 (pr_I 353).1 ∈ ev_UW := wk_m qI_353 pt_w7_4.2.2.2.2.2.2.2.2.1
theorem pw_m_q15_199 : Cond.methodLink "OrphanTreeLaw" 199 (pr_I 138).1 ∈ ev_UW := wk_m qI_138 pt_w7_4.2.2.2.2.2.2.2.2.2.1
theorem pw_c_138 : ev_cw (pr_I 138) (pr_P 138).1 ∈ ev_UW := wk_c qI_138 pp_138 pt_w7_4.2.2.2.2.2.2.2.2.2.2.1
theorem pw_v_138 : Cond.instanceMethod (pr_I 138).1 ∈ ev_UW := wk_v qI_138 pt_w7_4.2.2.2.2.2.2.2.2.2.2.2.1
theorem pw_s_138 : Cond.selects (pr_I 138).1.cls (pr_I 138).1 (pr_I 138).1 ∈ ev_UW := wk_s qI_138 pt_w7_4.2.2.2.2.2.2.2.2.2.2.2.2
theorem pt_w7_5 : (Cond.methodLink "OrphanTreeModel" 285 pr_i135.1) ∈ ev_UW ∧ (ev_cw pr_i135 2) ∈ ev_UW ∧ (Cond.instanceMethod pr_i135.1) ∈ ev_UW ∧ (Cond.methodLink "OrphanTreeModel" 288 pr_i133.1) ∈ ev_UW ∧ (ev_cw pr_i133 4) ∈ ev_UW ∧ (Cond.instanceMethod pr_i133.1) ∈ ev_UW ∧ (Cond.methodLink "OrphanTreeModel" 291 pr_i139.1) ∈ ev_UW ∧ (ev_cw pr_i139 3) ∈ ev_UW ∧ (Cond.instanceMethod pr_i139.1) ∈ ev_UW ∧ (Cond.methodLink "OrphanTreeLaw" 202 pr_i140.1) ∈ ev_UW ∧ (ev_cw pr_i140 2) ∈ ev_UW ∧ (Cond.instanceMethod pr_i140.1) ∈ ev_UW ∧ (Cond.selects pr_i140.1.cls pr_i140.1 pr_i140.1) ∈ ev_UW := by
  have e : (tables_1_7.drop 80).take 16 = [(Cond.methodLink "OrphanTreeModel" 285 pr_i135.1), _, (Cond.instanceMethod pr_i135.1), (ev_cw pr_i135 2), (Cond.methodLink "OrphanTreeModel" 288 pr_i133.1), _, (Cond.instanceMethod pr_i133.1), (ev_cw pr_i133 4), (Cond.methodLink "OrphanTreeLaw" 202 pr_i140.1), (Cond.instanceMethod pr_i140.1), (Cond.selects pr_i140.1.cls pr_i140.1 pr_i140.1), (ev_cw pr_i140 2), (Cond.methodLink "OrphanTreeModel" 291 pr_i139.1), _, (Cond.instanceMethod pr_i139.1), (ev_cw pr_i139 3)] := rfl
  exact ⟨uw_s tk_7 80 e 0 rfl rfl, uw_s tk_7 80 e 3 rfl rfl, uw_s tk_7 80 e 2 rfl rfl, uw_s tk_7 80 e 4 rfl rfl, uw_s tk_7 80 e 7 rfl rfl, uw_s tk_7 80 e 6 rfl rfl, uw_s tk_7 80 e 12 rfl rfl, uw_s tk_7 80 e 15 rfl rfl, uw_s tk_7 80 e 14 rfl rfl, uw_s tk_7 80 e 8 rfl rfl, uw_s tk_7 80 e 11 rfl rfl, uw_s tk_7 80 e 9 rfl rfl, uw_s tk_7 80 e 10 rfl rfl⟩
theorem pw_m_q12_285 : Cond.methodLink "OrphanTreeModel" 285 (pr_I 135).1 ∈ ev_UW := wk_m qI_135 pt_w7_5.1
theorem pw_c_135 : ev_cw (pr_I 135) (pr_P 135).1 ∈ ev_UW := wk_c qI_135 pp_135 pt_w7_5.2.1
theorem pw_v_135 : Cond.instanceMethod (pr_I 135).1 ∈ ev_UW := wk_v qI_135 pt_w7_5.2.2.1
theorem pw_m_q12_288 : Cond.methodLink "OrphanTreeModel" 288 (pr_I 133).1 ∈ ev_UW := wk_m qI_133 pt_w7_5.2.2.2.1
theorem pw_c_133 : ev_cw (pr_I 133) (pr_P 133).1 ∈ ev_UW := wk_c qI_133 pp_133 pt_w7_5.2.2.2.2.1
theorem pw_v_133 : Cond.instanceMethod (pr_I 133).1 ∈ ev_UW := wk_v qI_133 pt_w7_5.2.2.2.2.2.1
theorem pw_m_q12_291 : Cond.methodLink "OrphanTreeModel" 291 (pr_I 139).1 ∈ ev_UW := wk_m qI_139 pt_w7_5.2.2.2.2.2.2.1
theorem pw_c_139 : ev_cw (pr_I 139) (pr_P 139).1 ∈ ev_UW := wk_c qI_139 pp_139 pt_w7_5.2.2.2.2.2.2.2.1
theorem pw_v_139 : Cond.instanceMethod (pr_I 139).1 ∈ ev_UW := wk_v qI_139 pt_w7_5.2.2.2.2.2.2.2.2.1
theorem pw_m_q15_202 : Cond.methodLink "OrphanTreeLaw" 202 (pr_I 140).1 ∈ ev_UW := wk_m qI_140 pt_w7_5.2.2.2.2.2.2.2.2.2.1
theorem pw_c_140 : ev_cw (pr_I 140) (pr_P 140).1 ∈ ev_UW := wk_c qI_140 pp_140 pt_w7_5.2.2.2.2.2.2.2.2.2.2.1
theorem pw_v_140 : Cond.instanceMethod (pr_I 140).1 ∈ ev_UW := wk_v qI_140 pt_w7_5.2.2.2.2.2.2.2.2.2.2.2.1
theorem pw_s_140 : Cond.selects (pr_I 140).1.cls (pr_I 140).1 (pr_I 140).1 ∈ ev_UW := wk_s qI_140 pt_w7_5.2.2.2.2.2.2.2.2.2.2.2.2
theorem pt_w7_8 : (Cond.methodLink "OrphanTreeModel" 300 pr_i145.1) ∈ ev_UW ∧ (ev_cw pr_i145 4) ∈ ev_UW ∧ (Cond.instanceMethod pr_i145.1) ∈ ev_UW ∧ (Cond.methodLink "OrphanTreeModel" 303 pr_i149.1) ∈ ev_UW ∧ (ev_cw pr_i149 4) ∈ ev_UW ∧ (Cond.instanceMethod pr_i149.1) ∈ ev_UW ∧ (Cond.methodLink "OrphanTreeLaw" 218 pr_i150.1) ∈ ev_UW ∧ (ev_cw pr_i150 2) ∈ ev_UW ∧ (Cond.instanceMethod pr_i150.1) ∈ ev_UW ∧ (Cond.selects pr_i150.1.cls pr_i150.1 pr_i150.1) ∈ ev_UW ∧ (Cond.methodLink "OrphanTreeLaw" 353 pr_i148.1) ∈ ev_UW ∧ (ev_cw pr_i148 3) ∈ ev_UW ∧ (Cond.instanceMethod pr_i148.1) ∈ ev_UW ∧ (Cond.selects pr_i148.1.cls pr_i148.1 pr_i148.1) ∈ ev_UW := by
  have e : (tables_1_7.drop 128).take 16 = [(Cond.methodLink "OrphanTreeModel" 300 pr_i145.1), _, (Cond.instanceMethod pr_i145.1), (ev_cw pr_i145 4), (Cond.methodLink "OrphanTreeLaw" 353 pr_i148.1), (Cond.instanceMethod pr_i148.1), (Cond.selects pr_i148.1.cls pr_i148.1 pr_i148.1), (ev_cw pr_i148 3), (Cond.methodLink "OrphanTreeLaw" 218 pr_i150.1), (Cond.instanceMethod pr_i150.1), (Cond.selects pr_i150.1.cls pr_i150.1 pr_i150.1), (ev_cw pr_i150 2), (Cond.methodLink "OrphanTreeModel" 303 pr_i149.1), _, (Cond.instanceMethod pr_i149.1), (ev_cw pr_i149 4)] := rfl
  exact ⟨uw_s tk_7 128 e 0 rfl rfl, uw_s tk_7 128 e 3 rfl rfl, uw_s tk_7 128 e 2 rfl rfl, uw_s tk_7 128 e 12 rfl rfl, uw_s tk_7 128 e 15 rfl rfl, uw_s tk_7 128 e 14 rfl rfl, uw_s tk_7 128 e 8 rfl rfl, uw_s tk_7 128 e 11 rfl rfl, uw_s tk_7 128 e 9 rfl rfl, uw_s tk_7 128 e 10 rfl rfl, uw_s tk_7 128 e 4 rfl rfl, uw_s tk_7 128 e 7 rfl rfl, uw_s tk_7 128 e 5 rfl rfl, uw_s tk_7 128 e 6 rfl rfl⟩
theorem pw_m_q12_300 : Cond.methodLink "OrphanTreeModel" 300 (pr_I 145).1 ∈ ev_UW := wk_m qI_145 pt_w7_8.1
theorem pw_c_145 : ev_cw (pr_I 145) (pr_P 145).1 ∈ ev_UW := wk_c qI_145 pp_145 pt_w7_8.2.1
theorem pw_v_145 : Cond.instanceMethod (pr_I 145).1 ∈ ev_UW := wk_v qI_145 pt_w7_8.2.2.1
theorem pw_m_q12_303 : Cond.methodLink "OrphanTreeModel" 303 (pr_I 149).1 ∈ ev_UW := wk_m qI_149 pt_w7_8.2.2.2.1
theorem pw_c_149 : ev_cw (pr_I 149) (pr_P 149).1 ∈ ev_UW := wk_c qI_149 pp_149 pt_w7_8.2.2.2.2.1
theorem pw_v_149 : Cond.instanceMethod (pr_I 149).1 ∈ ev_UW := wk_v qI_149 pt_w7_8.2.2.2.2.2.1
theorem pw_m_q15_218 : Cond.methodLink "OrphanTreeLaw" 218 (pr_I 150).1 ∈ ev_UW := wk_m qI_150 pt_w7_8.2.2.2.2.2.2.1
theorem pw_c_150 : ev_cw (pr_I 150) (pr_P 150).1 ∈ ev_UW := wk_c qI_150 pp_150 pt_w7_8.2.2.2.2.2.2.2.1
theorem pw_v_150 : Cond.instanceMethod (pr_I 150).1 ∈ ev_UW := wk_v qI_150 pt_w7_8.2.2.2.2.2.2.2.2.1
theorem pw_s_150 : Cond.selects (pr_I 150).1.cls (pr_I 150).1 (pr_I 150).1 ∈ ev_UW := wk_s qI_150 pt_w7_8.2.2.2.2.2.2.2.2.2.1
theorem pw_m_q15_353 : Cond.methodLink "OrphanTreeLaw" 353 (pr_I 148).1 ∈ ev_UW := wk_m qI_148 pt_w7_8.2.2.2.2.2.2.2.2.2.2.1
theorem pw_c_148 : ev_cw (pr_I 148) (pr_P 148).1 ∈ ev_UW := wk_c qI_148 pp_148 pt_w7_8.2.2.2.2.2.2.2.2.2.2.2.1
theorem pw_v_148 : Cond.instanceMethod (pr_I 148).1 ∈ ev_UW := wk_v qI_148 pt_w7_8.2.2.2.2.2.2.2.2.2.2.2.2.1
theorem pw_s_148 : Cond.selects (pr_I 148).1.cls (pr_I 148).1 (pr_I 148).1 ∈ ev_UW := wk_s qI_148 pt_w7_8.2.2.2.2.2.2.2.2.2.2.2.2.2
theorem pt_w7_9 : (Cond.methodLink "OrphanTreeModel" 306 pr_i152.1) ∈ ev_UW ∧ (ev_cw pr_i152 4) ∈ ev_UW ∧ (Cond.instanceMethod pr_i152.1) ∈ ev_UW ∧ (Cond.methodLink "OrphanTreeModel" 309 pr_i90.1) ∈ ev_UW ∧ (ev_cw pr_i90 3) ∈ ev_UW ∧ (Cond.instanceMethod pr_i90.1) ∈ ev_UW ∧ (Cond.methodLink "OrphanTreeModel" 312 pr_i151.1) ∈ ev_UW ∧ (ev_cw pr_i151 4) ∈ ev_UW ∧ (Cond.instanceMethod pr_i151.1) ∈ ev_UW ∧ (Cond.methodLink "OrphanTreeLaw" 221 pr_i153.1) ∈ ev_UW ∧ (ev_cw pr_i153 4) ∈ ev_UW ∧ (Cond.instanceMethod pr_i153.1) ∈ ev_UW ∧ (Cond.selects pr_i153.1.cls pr_i153.1 pr_i153.1) ∈ ev_UW := by
  have e : (tables_1_7.drop 144).take 16 = [(Cond.methodLink "OrphanTreeLaw" 221 pr_i153.1), (Cond.instanceMethod pr_i153.1), (Cond.selects pr_i153.1.cls pr_i153.1 pr_i153.1), (ev_cw pr_i153 4), (Cond.methodLink "OrphanTreeModel" 309 pr_i90.1), _, (Cond.instanceMethod pr_i90.1), (ev_cw pr_i90 3), (Cond.methodLink "OrphanTreeModel" 312 pr_i151.1), _, (Cond.instanceMethod pr_i151.1), (ev_cw pr_i151 4), (Cond.methodLink "OrphanTreeModel" 306 pr_i152.1), _, (Cond.instanceMethod pr_i152.1), (ev_cw pr_i152 4)] := rfl
  exact ⟨uw_s tk_7 144 e 12 rfl rfl, uw_s tk_7 144 e 15 rfl rfl, uw_s tk_7 144 e 14 rfl rfl, uw_s tk_7 144 e 4 rfl rfl, uw_s tk_7 144 e 7 rfl rfl, uw_s tk_7 144 e 6 rfl rfl, uw_s tk_7 144 e 8 rfl rfl, uw_s tk_7 144 e 11 rfl rfl, uw_s tk_7 144 e 10 rfl rfl, uw_s tk_7 144 e 0 rfl rfl, uw_s tk_7 144 e 3 rfl rfl, uw_s tk_7 144 e 1 rfl rfl, uw_s tk_7 144 e 2 rfl rfl⟩
theorem pw_m_q12_306 : Cond.methodLink "OrphanTreeModel" 306 (pr_I 152).1 ∈ ev_UW := wk_m qI_152 pt_w7_9.1
theorem pw_c_152 : ev_cw (pr_I 152) (pr_P 152).1 ∈ ev_UW := wk_c qI_152 pp_152 pt_w7_9.2.1
theorem pw_v_152 : Cond.instanceMethod (pr_I 152).1 ∈ ev_UW := wk_v qI_152 pt_w7_9.2.2.1
theorem pw_m_q12_309 : Cond.methodLink "OrphanTreeModel" 309 (pr_I 90).1 ∈ ev_UW := wk_m qI_90 pt_w7_9.2.2.2.1
theorem pw_c_90 : ev_cw (pr_I 90) (pr_P 90).1 ∈ ev_UW := wk_c qI_90 pp_90 pt_w7_9.2.2.2.2.1
theorem pw_v_90 : Cond.instanceMethod (pr_I 90).1 ∈ ev_UW := wk_v qI_90 pt_w7_9.2.2.2.2.2.1
theorem pw_m_q12_312 : Cond.methodLink "OrphanTreeModel" 312 (pr_I 151).1 ∈ ev_UW := wk_m qI_151 pt_w7_9.2.2.2.2.2.2.1
theorem pw_c_151 : ev_cw (pr_I 151) (pr_P 151).1 ∈ ev_UW := wk_c qI_151 pp_151 pt_w7_9.2.2.2.2.2.2.2.1
theorem pw_v_151 : Cond.instanceMethod (pr_I 151).1 ∈ ev_UW := wk_v qI_151 pt_w7_9.2.2.2.2.2.2.2.2.1
theorem pw_m_q15_221 : Cond.methodLink "OrphanTreeLaw" 221 (pr_I 153).1 ∈ ev_UW := wk_m qI_153 pt_w7_9.2.2.2.2.2.2.2.2.2.1
theorem pw_c_153 : ev_cw (pr_I 153) (pr_P 153).1 ∈ ev_UW := wk_c qI_153 pp_153 pt_w7_9.2.2.2.2.2.2.2.2.2.2.1
theorem pw_v_153 : Cond.instanceMethod (pr_I 153).1 ∈ ev_UW := wk_v qI_153 pt_w7_9.2.2.2.2.2.2.2.2.2.2.2.1
theorem pw_s_153 : Cond.selects (pr_I 153).1.cls (pr_I 153).1 (pr_I 153).1 ∈ ev_UW := wk_s qI_153 pt_w7_9.2.2.2.2.2.2.2.2.2.2.2.2
theorem pt_w7_10 : (Cond.methodLink "OrphanTreeModel" 315 pr_i155.1) ∈ ev_UW ∧ (ev_cw pr_i155 3) ∈ ev_UW ∧ (Cond.instanceMethod pr_i155.1) ∈ ev_UW ∧ (Cond.methodLink "OrphanTreeLaw" 225 pr_i154.1) ∈ ev_UW ∧ (ev_cw pr_i154 4) ∈ ev_UW ∧ (Cond.instanceMethod pr_i154.1) ∈ ev_UW ∧ (Cond.selects pr_i154.1.cls pr_i154.1 pr_i154.1) ∈ ev_UW ∧ (Cond.methodLink "OrphanTreeLaw" 229 pr_i156.1) ∈ ev_UW ∧ (ev_cw pr_i156 1) ∈ ev_UW ∧ (Cond.instanceMethod pr_i156.1) ∈ ev_UW ∧ (Cond.selects pr_i156.1.cls pr_i156.1 pr_i156.1) ∈ ev_UW ∧ (Cond.methodLink "OrphanTreeLaw" 233 pr_i158.1) ∈ ev_UW ∧ (ev_cw pr_i158 5) ∈ ev_UW ∧ (Cond.instanceMethod pr_i158.1) ∈ ev_UW ∧ (Cond.selects pr_i158.1.cls pr_i158.1 pr_i158.1) ∈ ev_UW := by
  have e : (tables_1_7.drop 160).take 16 = [(Cond.methodLink "OrphanTreeLaw" 225 pr_i154.1), (Cond.instanceMethod pr_i154.1), (Cond.selects pr_i154.1.cls pr_i154.1 pr_i154.1), (ev_cw pr_i154 4), (Cond.methodLink "OrphanTreeLaw" 229 pr_i156.1), (Cond.instanceMethod pr_i156.1), (Cond.selects pr_i156.1.cls pr_i156.1 pr_i156.1), (ev_cw pr_i156 1), (Cond.methodLink "OrphanTreeModel" 315 pr_i155.1), _, (Cond.instanceMethod pr_i155.1), (ev_cw pr_i155 3), (Cond.methodLink "OrphanTreeLaw" 233 pr_i158.1), (Cond.instanceMethod pr_i158.1), (Cond.selects pr_i158.1.cls pr_i158.1 pr_i158.1), (ev_cw pr_i158 5)] := rfl
  exact ⟨uw_s tk_7 160 e 8 rfl rfl, uw_s tk_7 160 e 11 rfl rfl, uw_s tk_7 160 e 10 rfl rfl, uw_s tk_7 160 e 0 rfl rfl, uw_s tk_7 160 e 3 rfl rfl, uw_s tk_7 160 e 1 rfl rfl, uw_s tk_7 160 e 2 rfl rfl, uw_s tk_7 160 e 4 rfl rfl, uw_s tk_7 160 e 7 rfl rfl, uw_s tk_7 160 e 5 rfl rfl, uw_s tk_7 160 e 6 rfl rfl, uw_s tk_7 160 e 12 rfl rfl, uw_s tk_7 160 e 15 rfl rfl, uw_s tk_7 160 e 13 rfl rfl, uw_s tk_7 160 e 14 rfl rfl⟩
theorem pw_m_q12_315 : Cond.methodLink "OrphanTreeModel" 315 (pr_I 155).1 ∈ ev_UW := wk_m qI_155 pt_w7_10.1
theorem pw_c_155 : ev_cw (pr_I 155) (pr_P 155).1 ∈ ev_UW := wk_c qI_155 pp_155 pt_w7_10.2.1
theorem pw_v_155 : Cond.instanceMethod (pr_I 155).1 ∈ ev_UW := wk_v qI_155 pt_w7_10.2.2.1
theorem pw_m_q15_225 : Cond.methodLink "OrphanTreeLaw" 225 (pr_I 154).1 ∈ ev_UW := wk_m qI_154 pt_w7_10.2.2.2.1
theorem pw_c_154 : ev_cw (pr_I 154) (pr_P 154).1 ∈ ev_UW := wk_c qI_154 pp_154 pt_w7_10.2.2.2.2.1
theorem pw_v_154 : Cond.instanceMethod (pr_I 154).1 ∈ ev_UW := wk_v qI_154 pt_w7_10.2.2.2.2.2.1
theorem pw_s_154 : Cond.selects (pr_I 154).1.cls (pr_I 154).1 (pr_I 154).1 ∈ ev_UW := wk_s qI_154 pt_w7_10.2.2.2.2.2.2.1
theorem pw_m_q15_229 : Cond.methodLink "OrphanTreeLaw" 229 (pr_I 156).1 ∈ ev_UW := wk_m qI_156 pt_w7_10.2.2.2.2.2.2.2.1
theorem pw_c_156 : ev_cw (pr_I 156) (pr_P 156).1 ∈ ev_UW := wk_c qI_156 pp_156 pt_w7_10.2.2.2.2.2.2.2.2.1
theorem pw_v_156 : Cond.instanceMethod (pr_I 156).1 ∈ ev_UW := wk_v qI_156 pt_w7_10.2.2.2.2.2.2.2.2.2.1
theorem pw_s_156 : Cond.selects (pr_I 156).1.cls (pr_I 156).1 (pr_I 156).1 ∈ ev_UW := wk_s qI_156 pt_w7_10.2.2.2.2.2.2.2.2.2.2.1
theorem pw_m_q15_233 : Cond.methodLink "OrphanTreeLaw" 233 (pr_I 158).1 ∈ ev_UW := wk_m qI_158 pt_w7_10.2.2.2.2.2.2.2.2.2.2.2.1
theorem pw_c_158 : ev_cw (pr_I 158) (pr_P 158).1 ∈ ev_UW := wk_c qI_158 pp_158 pt_w7_10.2.2.2.2.2.2.2.2.2.2.2.2.1
theorem pw_v_158 : Cond.instanceMethod (pr_I 158).1 ∈ ev_UW := wk_v qI_158 pt_w7_10.2.2.2.2.2.2.2.2.2.2.2.2.2.1
theorem pw_s_158 : Cond.selects (pr_I 158).1.cls (pr_I 158).1 (pr_I 158).1 ∈ ev_UW := wk_s qI_158 pt_w7_10.2.2.2.2.2.2.2.2.2.2.2.2.2.2
theorem pt_w8_1 : (ev_cw pr_i105 7) ∈ ev_UW ∧ (Cond.instanceMethod pr_i105.1) ∈ ev_UW ∧ (Cond.methodLink "OrphanTreeModel" 333 pr_i136.1) ∈ ev_UW ∧ (ev_cw pr_i136 3) ∈ ev_UW ∧ (Cond.instanceMethod pr_i136.1) ∈ ev_UW ∧ (Cond.methodLink "OrphanTreeLaw" 242 pr_i163.1) ∈ ev_UW ∧ (ev_cw pr_i163 3) ∈ ev_UW ∧ (Cond.instanceMethod pr_i163.1) ∈ ev_UW ∧ (Cond.selects pr_i163.1.cls pr_i163.1 pr_i163.1) ∈ ev_UW ∧ (Cond.methodLink "OrphanTreeLaw" 245 pr_i165.1) ∈ ev_UW ∧ (Cond.methodLink "OrphanTreeLaw" 327 pr_i164.1) ∈ ev_UW ∧ (ev_cw pr_i164 2) ∈ ev_UW ∧ (Cond.instanceMethod pr_i164.1) ∈ ev_UW ∧ (Cond.selects pr_i164.1.cls pr_i164.1 pr_i164.1) ∈ ev_UW := by
  have e : (tables_1_8.drop 16).take 16 = [_, (Cond.instanceMethod pr_i105.1), (ev_cw pr_i105 7), (Cond.methodLink "OrphanTreeLaw" 242 pr_i163.1), (Cond.instanceMethod pr_i163.1), (Cond.selects pr_i163.1.cls pr_i163.1 pr_i163.1), (ev_cw pr_i163 3), (Cond.methodLink "OrphanTreeModel" 333 pr_i136.1), _, (Cond.instanceMethod pr_i136.1), (ev_cw pr_i136 3), (Cond.methodLink "OrphanTreeLaw" 327 pr_i164.1), (Cond.instanceMethod pr_i164.1), (Cond.selects pr_i164.1.cls pr_i164.1 pr_i164.1), (ev_cw pr_i164 2), (Cond.methodLink "OrphanTreeLaw" 245 pr_i165.1)] := rfl
  exact ⟨uw_s tk_8 16 e 2 rfl rfl, uw_s tk_8 16 e 1 rfl rfl, uw_s tk_8 16 e 7 rfl rfl, uw_s tk_8 16 e 10 rfl rfl, uw_s tk_8 16 e 9 rfl rfl, uw_s tk_8 16 e 3 rfl rfl, uw_s tk_8 16 e 6 rfl rfl, uw_s tk_8 16 e 4 rfl rfl, uw_s tk_8 16 e 5 rfl rfl, uw_s tk_8 16 e 15 rfl rfl, uw_s tk_8 16 e 11 rfl rfl, uw_s tk_8 16 e 14 rfl rfl, uw_s tk_8 16 e 12 rfl rfl, uw_s tk_8 16 e 13 rfl rfl⟩
theorem pw_c_105 : ev_cw (pr_I 105) (pr_P 105).1 ∈ ev_UW := wk_c qI_105 pp_105 pt_w8_1.1
theorem pw_v_105 : Cond.instanceMethod (pr_I 105).1 ∈ ev_UW := wk_v qI_105 pt_w8_1.2.1
theorem pw_m_q12_333 : Cond.methodLink "OrphanTreeModel" 333 (pr_I 136).1 ∈ ev_UW := wk_m qI_136 pt_w8_1.2.2.1
theorem pw_c_136 : ev_cw (pr_I 136) (pr_P 136).1 ∈ ev_UW := wk_c qI_136 pp_136 pt_w8_1.2.2.2.1
theorem pw_v_136 : Cond.instanceMethod (pr_I 136).1 ∈ ev_UW := wk_v qI_136 pt_w8_1.2.2.2.2.1
theorem pw_m_q15_242 : Cond.methodLink "OrphanTreeLaw" 242 (pr_I 163).1 ∈ ev_UW := wk_m qI_163 pt_w8_1.2.2.2.2.2.1
theorem pw_c_163 : ev_cw (pr_I 163) (pr_P 163).1 ∈ ev_UW := wk_c qI_163 pp_163 pt_w8_1.2.2.2.2.2.2.1
theorem pw_v_163 : Cond.instanceMethod (pr_I 163).1 ∈ ev_UW := wk_v qI_163 pt_w8_1.2.2.2.2.2.2.2.1
theorem pw_s_163 : Cond.selects (pr_I 163).1.cls (pr_I 163).1 (pr_I 163).1 ∈ ev_UW := wk_s qI_163 pt_w8_1.2.2.2.2.2.2.2.2.1
theorem pw_m_q15_245 : Cond.methodLink "OrphanTreeLaw" 245 (pr_I 165).1 ∈ ev_UW := wk_m qI_165 pt_w8_1.2.2.2.2.2.2.2.2.2.1
theorem pw_m_q15_327 : Cond.methodLink "OrphanTreeLaw" 327 (pr_I 164).1 ∈ ev_UW := wk_m qI_164 pt_w8_1.2.2.2.2.2.2.2.2.2.2.1
theorem pw_c_164 : ev_cw (pr_I 164) (pr_P 164).1 ∈ ev_UW := wk_c qI_164 pp_164 pt_w8_1.2.2.2.2.2.2.2.2.2.2.2.1
theorem pw_v_164 : Cond.instanceMethod (pr_I 164).1 ∈ ev_UW := wk_v qI_164 pt_w8_1.2.2.2.2.2.2.2.2.2.2.2.2.1
theorem pw_s_164 : Cond.selects (pr_I 164).1.cls (pr_I 164).1 (pr_I 164).1 ∈ ev_UW := wk_s qI_164 pt_w8_1.2.2.2.2.2.2.2.2.2.2.2.2.2
theorem pt_w8_2 : (Cond.methodLink "OrphanTreeModel" 336 pr_i168.1) ∈ ev_UW ∧ (ev_cw pr_i165 5) ∈ ev_UW ∧ (Cond.instanceMethod pr_i165.1) ∈ ev_UW ∧ (Cond.selects pr_i165.1.cls pr_i165.1 pr_i165.1) ∈ ev_UW ∧ (Cond.methodLink "OrphanTreeLaw" 248 pr_i166.1) ∈ ev_UW ∧ (ev_cw pr_i166 4) ∈ ev_UW ∧ (Cond.instanceMethod pr_i166.1) ∈ ev_UW ∧ (Cond.selects pr_i166.1.cls pr_i166.1 pr_i166.1) ∈ ev_UW ∧ (Cond.methodLink "OrphanTreeLaw" 251 pr_i167.1) ∈ ev_UW ∧ (ev_cw pr_i167 4) ∈ ev_UW ∧ (Cond.instanceMethod pr_i167.1) ∈ ev_UW ∧ (Cond.selects pr_i167.1.cls pr_i167.1 pr_i167.1) ∈ ev_UW ∧ (Cond.methodLink "OrphanTreeLaw" 254 pr_i169.1) ∈ ev_UW ∧ (ev_cw pr_i169 3) ∈ ev_UW ∧ (Cond.instanceMethod pr_i169.1) ∈ ev_UW ∧ (Cond.selects pr_i169.1.cls pr_i169.1 pr_i169.1) ∈ ev_UW := by
  have e : (tables_1_8.drop 32).take 16 = [(Cond.instanceMethod pr_i165.1), (Cond.selects pr_i165.1.cls pr_i165.1 pr_i165.1), (ev_cw pr_i165 5), (Cond.methodLink "OrphanTreeLaw" 248 pr_i166.1), (Cond.instanceMethod pr_i166.1), (Cond.selects pr_i166.1.cls pr_i166.1 pr_i166.1), (ev_cw pr_i166 4), (Cond.methodLink "OrphanTreeLaw" 251 pr_i167.1), (Cond.instanceMethod pr_i167.1), (Cond.selects pr_i167.1.cls pr_i167.1 pr_i167.1), (ev_cw pr_i167 4), (Cond.methodLink "OrphanTreeLaw" 254 pr_i169.1), (Cond.instanceMethod pr_i169.1), (Cond.selects pr_i169.1.cls pr_i169.1 pr_i169.1), (ev_cw pr_i169 3), (Cond.methodLink "OrphanTreeModel" 336 pr_i168.1)] := rfl
  exact ⟨uw_s tk_8 32 e 15 rfl rfl, uw_s tk_8 32 e 2 rfl rfl, uw_s tk_8 32 e 0 rfl rfl, uw_s tk_8 32 e 1 rfl rfl, uw_s tk_8 32 e 3 rfl rfl, uw_s tk_8 32 e 6 rfl rfl, uw_s tk_8 32 e 4 rfl rfl, uw_s tk_8 32 e 5 rfl rfl, uw_s tk_8 32 e 7 rfl rfl, uw_s tk_8 32 e 10 rfl rfl, uw_s tk_8 32 e 8 rfl rfl, uw_s tk_8 32 e 9 rfl rfl, uw_s tk_8 32 e 11 rfl rfl, uw_s tk_8 32 e 14 rfl rfl, uw_s tk_8 32 e 12 rfl rfl, uw_s tk_8 32 e 13 rfl rfl⟩
theorem pw_m_q12_336 : Cond.methodLink "OrphanTreeModel" 336 (pr_I 168).1 ∈ ev_UW := wk_m qI_168 pt_w8_2.1
theorem pw_c_165 : ev_cw (pr_I 165) (pr_P 165).1 ∈ ev_UW := wk_c qI_165 pp_165 pt_w8_2.2.1
theorem pw_v_165 : Cond.instanceMethod (pr_I 165).1 ∈ ev_UW := wk_v qI_165 pt_w8_2.2.2.1
theorem pw_s_165 : Cond.selects (pr_I 165).1.cls (pr_I 165).1 (pr_I 165).1 ∈ ev_UW := wk_s qI_165 pt_w8_2.2.2.2.1
theorem pw_m_q15_248 : Cond.methodLink "OrphanTreeLaw" 248 (pr_I 166).1 ∈ ev_UW := wk_m qI_166 pt_w8_2.2.2.2.2.1
theorem pw_c_166 : ev_cw (pr_I 166) (pr_P 166).1 ∈ ev_UW := wk_c qI_166 pp_166 pt_w8_2.2.2.2.2.2.1
theorem pw_v_166 : Cond.instanceMethod (pr_I 166).1 ∈ ev_UW := wk_v qI_166 pt_w8_2.2.2.2.2.2.2.1
theorem pw_s_166 : Cond.selects (pr_I 166).1.cls (pr_I 166).1 (pr_I 166).1 ∈ ev_UW := wk_s qI_166 pt_w8_2.2.2.2.2.2.2.2.1
theorem pw_m_q15_251 : Cond.methodLink "OrphanTreeLaw" 251 (pr_I 167).1 ∈ ev_UW := wk_m qI_167 pt_w8_2.2.2.2.2.2.2.2.2.1
theorem pw_c_167 : ev_cw (pr_I 167) (pr_P 167).1 ∈ ev_UW := wk_c qI_167 pp_167 pt_w8_2.2.2.2.2.2.2.2.2.2.1
theorem pw_v_167 : Cond.instanceMethod (pr_I 167).1 ∈ ev_UW := wk_v qI_167 pt_w8_2.2.2.2.2.2.2.2.2.2.2.1
theorem pw_s_167 : Cond.selects (pr_I 167).1.cls (pr_I 167).1 (pr_I 167).1 ∈ ev_UW := wk_s qI_167 pt_w8_2.2.2.2.2.2.2.2.2.2.2.2.1
theorem pw_m_q15_254 : Cond.methodLink "OrphanTreeLaw" 254 (pr_I 169).1 ∈ ev_UW := wk_m qI_169 pt_w8_2.2.2.2.2.2.2.2.2.2.2.2.2.1
theorem pw_c_169 : ev_cw (pr_I 169) (pr_P 169).1 ∈ ev_UW := wk_c qI_169 pp_169 pt_w8_2.2.2.2.2.2.2.2.2.2.2.2.2.2.1
theorem pw_v_169 : Cond.instanceMethod (pr_I 169).1 ∈ ev_UW := wk_v qI_169 pt_w8_2.2.2.2.2.2.2.2.2.2.2.2.2.2.2.1
theorem pw_s_169 : Cond.selects (pr_I 169).1.cls (pr_I 169).1 (pr_I 169).1 ∈ ev_UW := wk_s qI_169 pt_w8_2.2.2.2.2.2.2.2.2.2.2.2.2.2.2.2
theorem pt_w8_3 : (ev_cw pr_i168 5) ∈ ev_UW ∧ (Cond.instanceMethod pr_i168.1) ∈ ev_UW ∧ (Cond.methodLink "OrphanTreeLaw" 257 pr_i170.1) ∈ ev_UW ∧ (ev_cw pr_i170 3) ∈ ev_UW ∧ (Cond.instanceMethod pr_i170.1) ∈ ev_UW ∧ (Cond.selects pr_i170.1.cls pr_i170.1 pr_i170.1) ∈ ev_UW ∧ (Cond.methodLink "OrphanTreeLaw" 263 pr_i171.1) ∈ ev_UW ∧ (ev_cw pr_i171 4) ∈ ev_UW ∧ (Cond.instanceMethod pr_i171.1) ∈ ev_UW ∧ (Cond.selects pr_i171.1.cls pr_i171.1 pr_i171.1) ∈ ev_UW ∧ (Cond.methodLink "OrphanTreeLaw" 266 pr_i172.1) ∈ ev_UW ∧ (ev_cw pr_i172 4) ∈ ev_UW ∧ (Cond.instanceMethod pr_i172.1) ∈ ev_UW ∧ (Cond.selects pr_i172.1.cls pr_i172.1 pr_i172.1) ∈ ev_UW ∧ (Cond.methodLink "OrphanTreeLaw" 321 pr_i174.1) ∈ ev_UW := by
  have e : (tables_1_8.drop 48).take 16 = [_, (Cond.instanceMethod pr_i168.1), (ev_cw pr_i168 5), (Cond.methodLink "OrphanTreeLaw" 257 pr_i170.1), (Cond.instanceMethod pr_i170.1), (Cond.selects pr_i170.1.cls pr_i170.1 pr_i170.1), (ev_cw pr_i170 3), (Cond.methodLink "OrphanTreeLaw" 263 pr_i171.1), (Cond.instanceMethod pr_i171.1), (Cond.selects pr_i171.1.cls pr_i171.1 pr_i171.1), (ev_cw pr_i171 4), (Cond.methodLink "OrphanTreeLaw" 266 pr_i172.1), (Cond.instanceMethod pr_i172.1), (Cond.selects pr_i172.1.cls pr_i172.1 pr_i172.1), (ev_cw pr_i172 4), (Cond.methodLink "OrphanTreeLaw" 321 pr_i174.1)] := rfl
  exact ⟨uw_s tk_8 48 e 2 rfl rfl, uw_s tk_8 48 e 1 rfl rfl, uw_s tk_8 48 e 3 rfl rfl, uw_s tk_8 48 e 6 rfl rfl, uw_s tk_8 48 e 4 rfl rfl, uw_s tk_8 48 e 5 rfl rfl, uw_s tk_8 48 e 7 rfl rfl, uw_s tk_8 48 e 10 rfl rfl, uw_s tk_8 48 e 8 rfl rfl, uw_s tk_8 48 e 9 rfl rfl, uw_s tk_8 48 e 11 rfl rfl, uw_s tk_8 48 e 14 rfl rfl, uw_s tk_8 48 e 12 rfl rfl, uw_s tk_8 48 e 13 rfl rfl, uw_s tk_8 48 e 15 rfl rfl⟩
theorem pw_c_168 : ev_cw (pr_I 168) (pr_P 168).1 ∈ ev_UW := wk_c qI_168 pp_168 pt_w8_3.1
theorem pw_v_168 : Cond.instanceMethod (pr_I 168).1 ∈ ev_UW := wk_v qI_168 pt_w8_3.2.1
theorem pw_m_q15_257 : Cond.methodLink "OrphanTreeLaw" 257 (pr_I 170).1 ∈ ev_UW := wk_m qI_170 pt_w8_3.2.2.1
theorem pw_c_170 : ev_cw (pr_I 170) (pr_P 170).1 ∈ ev_UW := wk_c qI_170 pp_170 pt_w8_3.2.2.2.1
theorem pw_v_170 : Cond.instanceMethod (pr_I 170).1 ∈ ev_UW := wk_v qI_170 pt_w8_3.2.2.2.2.1
theorem pw_s_170 : Cond.selects (pr_I 170).1.cls (pr_I 170).1 (pr_I 170).1 ∈ ev_UW := wk_s qI_170 pt_w8_3.2.2.2.2.2.1
theorem pw_m_q15_263 : Cond.methodLink "OrphanTreeLaw" 263 (pr_I 171).1 ∈ ev_UW := wk_m qI_171 pt_w8_3.2.2.2.2.2.2.1
theorem pw_c_171 : ev_cw (pr_I 171) (pr_P 171).1 ∈ ev_UW := wk_c qI_171 pp_171 pt_w8_3.2.2.2.2.2.2.2.1
theorem pw_v_171 : Cond.instanceMethod (pr_I 171).1 ∈ ev_UW := wk_v qI_171 pt_w8_3.2.2.2.2.2.2.2.2.1
theorem pw_s_171 : Cond.selects (pr_I 171).1.cls (pr_I 171).1 (pr_I 171).1 ∈ ev_UW := wk_s qI_171 pt_w8_3.2.2.2.2.2.2.2.2.2.1
theorem pw_m_q15_266 : Cond.methodLink "OrphanTreeLaw" 266 (pr_I 172).1 ∈ ev_UW := wk_m qI_172 pt_w8_3.2.2.2.2.2.2.2.2.2.2.1
theorem pw_c_172 : ev_cw (pr_I 172) (pr_P 172).1 ∈ ev_UW := wk_c qI_172 pp_172 pt_w8_3.2.2.2.2.2.2.2.2.2.2.2.1
theorem pw_v_172 : Cond.instanceMethod (pr_I 172).1 ∈ ev_UW := wk_v qI_172 pt_w8_3.2.2.2.2.2.2.2.2.2.2.2.2.1
theorem pw_s_172 : Cond.selects (pr_I 172).1.cls (pr_I 172).1 (pr_I 172).1 ∈ ev_UW := wk_s qI_172 pt_w8_3.2.2.2.2.2.2.2.2.2.2.2.2.2.1
theorem pw_m_q15_321 : Cond.methodLink "OrphanTreeLaw" 321 (pr_I 174).1 ∈ ev_UW := wk_m qI_174 pt_w8_3.2.2.2.2.2.2.2.2.2.2.2.2.2.2
theorem pt_w8_4 : (Cond.methodLink "OrphanTreeModel" 339 pr_i173.1) ∈ ev_UW ∧ (ev_cw pr_i173 4) ∈ ev_UW ∧ (Cond.instanceMethod pr_i173.1) ∈ ev_UW ∧ (Cond.methodLink "OrphanTreeModel" 342 pr_i137.1) ∈ ev_UW ∧ (ev_cw pr_i174 6) ∈ ev_UW ∧ (Cond.instanceMethod pr_i174.1) ∈ ev_UW ∧ (Cond.selects pr_i174.1.cls pr_i174.1 pr_i174.1) ∈ ev_UW ∧ (Cond.methodLink "OrphanTreeLaw" 324 pr_i175.1) ∈ ev_UW ∧ (ev_cw pr_i175 6) ∈ ev_UW ∧ (Cond.instanceMethod pr_i175.1) ∈ ev_UW ∧ (Cond.selects pr_i175.1.cls pr_i175.1 pr_i175.1) ∈ ev_UW ∧ (Cond.methodLink "OrphanTreeLaw" 356 pr_i176.1) ∈ ev_UW ∧ (ev_cw pr_i176 4) ∈ ev_UW ∧ (Cond.instanceMethod pr_i176.1) ∈ ev_UW ∧ (Cond.selects pr_i176.1.cls pr_i176.1 pr_i176.1) ∈ ev_UW := by
  have e : (tables_1_8.drop 64).take 16 = [(Cond.instanceMethod pr_i174.1), (Cond.selects pr_i174.1.cls pr_i174.1 pr_i174.1), (ev_cw pr_i174 6), (Cond.methodLink "OrphanTreeModel" 339 pr_i173.1), _, (Cond.instanceMethod pr_i173.1), (ev_cw pr_i173 4), (Cond.methodLink "OrphanTreeLaw" 324 pr_i175.1), (Cond.instanceMethod pr_i175.1), (Cond.selects pr_i175.1.cls pr_i175.1 pr_i175.1), (ev_cw pr_i175 6), (Cond.methodLink "OrphanTreeLaw" 356 pr_i176.1), (Cond.instanceMethod pr_i176.1), (Cond.selects pr_i176.1.cls pr_i176.1 pr_i176.1), (ev_cw pr_i176 4), (Cond.methodLink "OrphanTreeModel" 342 pr_i137.1)] := rfl
  exact ⟨uw_s tk_8 64 e 3 rfl rfl, uw_s tk_8 64 e 6 rfl rfl, uw_s tk_8 64 e 5 rfl rfl, uw_s tk_8 64 e 15 rfl rfl, uw_s tk_8 64 e 2 rfl rfl, uw_s tk_8 64 e 0 rfl rfl, uw_s tk_8 64 e 1 rfl rfl, uw_s tk_8 64 e 7 rfl rfl, uw_s tk_8 64 e 10 rfl rfl, uw_s tk_8 64 e 8 rfl rfl, uw_s tk_8 64 e 9 rfl rfl, uw_s tk_8 64 e 11 rfl rfl, uw_s tk_8 64 e 14 rfl rfl, uw_s tk_8 64 e 12 rfl rfl, uw_s tk_8 64 e 13 rfl rfl⟩
theorem pw_m_q12_339 : Cond.methodLink "OrphanTreeModel" 339 (pr_I 173).1 ∈ ev_UW := wk_m qI_173 pt_w8_4.1
theorem pw_c_173 : ev_cw (pr_I 173) (pr_P 173).1 ∈ ev_UW := wk_c qI_173 pp_173 pt_w8_4.2.1
theorem pw_v_173 : Cond.instanceMethod (pr_I 173).1 ∈ ev_UW := wk_v qI_173 pt_w8_4.2.2.1
theorem pw_m_q12_342 : Cond.methodLink "OrphanTreeModel" 342 (pr_I 137).1 ∈ ev_UW := wk_m qI_137 pt_w8_4.2.2.2.1
theorem pw_c_174 : ev_cw (pr_I 174) (pr_P 174).1 ∈ ev_UW := wk_c qI_174 pp_174 pt_w8_4.2.2.2.2.1
theorem pw_v_174 : Cond.instanceMethod (pr_I 174).1 ∈ ev_UW := wk_v qI_174 pt_w8_4.2.2.2.2.2.1
theorem pw_s_174 : Cond.selects (pr_I 174).1.cls (pr_I 174).1 (pr_I 174).1 ∈ ev_UW := wk_s qI_174 pt_w8_4.2.2.2.2.2.2.1
theorem pw_m_q15_324 : Cond.methodLink "OrphanTreeLaw" 324 (pr_I 175).1 ∈ ev_UW := wk_m qI_175 pt_w8_4.2.2.2.2.2.2.2.1
theorem pw_c_175 : ev_cw (pr_I 175) (pr_P 175).1 ∈ ev_UW := wk_c qI_175 pp_175 pt_w8_4.2.2.2.2.2.2.2.2.1
theorem pw_v_175 : Cond.instanceMethod (pr_I 175).1 ∈ ev_UW := wk_v qI_175 pt_w8_4.2.2.2.2.2.2.2.2.2.1
theorem pw_s_175 : Cond.selects (pr_I 175).1.cls (pr_I 175).1 (pr_I 175).1 ∈ ev_UW := wk_s qI_175 pt_w8_4.2.2.2.2.2.2.2.2.2.2.1
theorem pw_m_q15_356 : Cond.methodLink "OrphanTreeLaw" 356 (pr_I 176).1 ∈ ev_UW := wk_m qI_176 pt_w8_4.2.2.2.2.2.2.2.2.2.2.2.1
theorem pw_c_176 : ev_cw (pr_I 176) (pr_P 176).1 ∈ ev_UW := wk_c qI_176 pp_176 pt_w8_4.2.2.2.2.2.2.2.2.2.2.2.2.1
theorem pw_v_176 : Cond.instanceMethod (pr_I 176).1 ∈ ev_UW := wk_v qI_176 pt_w8_4.2.2.2.2.2.2.2.2.2.2.2.2.2.1
theorem pw_s_176 : Cond.selects (pr_I 176).1.cls (pr_I 176).1 (pr_I 176).1 ∈ ev_UW := wk_s qI_176 pt_w8_4.2.2.2.2.2.2.2.2.2.2.2.2.2.2
theorem pt_w8_5 : (ev_cw pr_i137 3) ∈ ev_UW ∧ (Cond.instanceMethod pr_i137.1) ∈ ev_UW ∧ (Cond.methodLink "OrphanTreeLaw" 269 pr_i177.1) ∈ ev_UW ∧ (ev_cw pr_i177 2) ∈ ev_UW ∧ (Cond.instanceMethod pr_i177.1) ∈ ev_UW ∧ (Cond.selects pr_i177.1.cls pr_i177.1 pr_i177.1) ∈ ev_UW ∧ (Cond.methodLink "OrphanTreeLaw" 272 pr_i179.1) ∈ ev_UW ∧ (ev_cw pr_i179 2) ∈ ev_UW ∧ (Cond.instanceMethod pr_i179.1) ∈ ev_UW ∧ (Cond.selects pr_i179.1.cls pr_i179.1 pr_i179.1) ∈ ev_UW ∧ (Cond.methodLink "OrphanTreeLaw" 275 pr_i181.1) ∈ ev_UW ∧ (Cond.methodLink "OrphanTreeLaw" 340 pr_i178.1) ∈ ev_UW ∧ (ev_cw pr_i178 4) ∈ ev_UW ∧ (Cond.instanceMethod pr_i178.1) ∈ ev_UW ∧ (Cond.selects pr_i178.1.cls pr_i178.1 pr_i178.1) ∈ ev_UW := by
  have e : (tables_1_8.drop 80).take 16 = [_, (Cond.instanceMethod pr_i137.1), (ev_cw pr_i137 3), (Cond.methodLink "OrphanTreeLaw" 269 pr_i177.1), (Cond.instanceMethod pr_i177.1), (Cond.selects pr_i177.1.cls pr_i177.1 pr_i177.1), (ev_cw pr_i177 2), (Cond.methodLink "OrphanTreeLaw" 340 pr_i178.1), (Cond.instanceMethod pr_i178.1), (Cond.selects pr_i178.1.cls pr_i178.1 pr_i178.1), (ev_cw pr_i178 4), (Cond.methodLink "OrphanTreeLaw" 272 pr_i179.1), (Cond.instanceMethod pr_i179.1), (Cond.selects pr_i179.1.cls pr_i179.1 pr_i179.1), (ev_cw pr_i179 2), (Cond.methodLink "OrphanTreeLaw" 275 pr_i181.1)] := rfl
  exact ⟨uw_s tk_8 80 e 2 rfl rfl, uw_s tk_8 80 e 1 rfl rfl, uw_s tk_8 80 e 3 rfl rfl, uw_s tk_8 80 e 6 rfl rfl, uw_s tk_8 80 e 4 rfl rfl, uw_s tk_8 80 e 5 rfl rfl, uw_s tk_8 80 e 11 rfl rfl, uw_s tk_8 80 e 14 rfl rfl, uw_s tk_8 80 e 12 rfl rfl, uw_s tk_8 80 e 13 rfl rfl, uw_s tk_8 80 e 15 rfl rfl, uw_s tk_8 80 e 7 rfl rfl, uw_s tk_8 80 e 10 rfl rfl, uw_s tk_8 80 e 8 rfl rfl, uw_s tk_8 80 e 9 rfl rfl⟩
theorem pw_c_137 : ev_cw (pr_I 137) (pr_P 137).1 ∈ ev_UW := wk_c qI_137 pp_137 pt_w8_5.1
theorem pw_v_137 : Cond.instanceMethod (pr_I 137).1 ∈ ev_UW := wk_v qI_137 pt_w8_5.2.1
theorem pw_m_q15_269 : Cond.methodLink "OrphanTreeLaw" 269 (pr_I 177).1 ∈ ev_UW := wk_m qI_177 pt_w8_5.2.2.1
theorem pw_c_177 : ev_cw (pr_I 177) (pr_P 177).1 ∈ ev_UW := wk_c qI_177 pp_177 pt_w8_5.2.2.2.1
theorem pw_v_177 : Cond.instanceMethod (pr_I 177).1 ∈ ev_UW := wk_v qI_177 pt_w8_5.2.2.2.2.1
theorem pw_s_177 : Cond.selects (pr_I 177).1.cls (pr_I 177).1 (pr_I 177).1 ∈ ev_UW := wk_s qI_177 pt_w8_5.2.2.2.2.2.1
theorem pw_m_q15_272 : Cond.methodLink "OrphanTreeLaw" 272 (pr_I 179).1 ∈ ev_UW := wk_m qI_179 pt_w8_5.2.2.2.2.2.2.1
theorem pw_c_179 : ev_cw (pr_I 179) (pr_P 179).1 ∈ ev_UW := wk_c qI_179 pp_179 pt_w8_5.2.2.2.2.2.2.2.1
theorem pw_v_179 : Cond.instanceMethod (pr_I 179).1 ∈ ev_UW := wk_v qI_179 pt_w8_5.2.2.2.2.2.2.2.2.1
theorem pw_s_179 : Cond.selects (pr_I 179).1.cls (pr_I 179).1 (pr_I 179).1 ∈ ev_UW := wk_s qI_179 pt_w8_5.2.2.2.2.2.2.2.2.2.1
theorem pw_m_q15_275 : Cond.methodLink "OrphanTreeLaw" 275 (pr_I 181).1 ∈ ev_UW := wk_m qI_181 pt_w8_5.2.2.2.2.2.2.2.2.2.2.1
theorem pw_m_q15_340 : Cond.methodLink "OrphanTreeLaw" 340 (pr_I 178).1 ∈ ev_UW := wk_m qI_178 pt_w8_5.2.2.2.2.2.2.2.2.2.2.2.1
theorem pw_c_178 : ev_cw (pr_I 178) (pr_P 178).1 ∈ ev_UW := wk_c qI_178 pp_178 pt_w8_5.2.2.2.2.2.2.2.2.2.2.2.2.1
theorem pw_v_178 : Cond.instanceMethod (pr_I 178).1 ∈ ev_UW := wk_v qI_178 pt_w8_5.2.2.2.2.2.2.2.2.2.2.2.2.2.1
theorem pw_s_178 : Cond.selects (pr_I 178).1.cls (pr_I 178).1 (pr_I 178).1 ∈ ev_UW := wk_s qI_178 pt_w8_5.2.2.2.2.2.2.2.2.2.2.2.2.2.2
theorem pt_w8_6 : (Cond.methodLink "OrphanTreeModel" 345 pr_i81.1) ∈ ev_UW ∧ (ev_cw pr_i81 1) ∈ ev_UW ∧ (Cond.instanceMethod pr_i81.1) ∈ ev_UW ∧ (Cond.methodLink "OrphanTreeModel" 348 pr_i82.1) ∈ ev_UW ∧ (ev_cw pr_i82 1) ∈ ev_UW ∧ (Cond.instanceMethod pr_i82.1) ∈ ev_UW ∧ (Cond.methodLink "OrphanTreeModel" 351 pr_i180.1) ∈ ev_UW ∧ (ev_cw pr_i180 4) ∈ ev_UW ∧ (Cond.instanceMethod pr_i180.1) ∈ ev_UW ∧ (ev_cw pr_i181 3) ∈ ev_UW ∧ (Cond.instanceMethod pr_i181.1) ∈ ev_UW ∧ (Cond.selects pr_i181.1.cls pr_i181.1 pr_i181.1) ∈ ev_UW ∧ (Cond.methodLink "OrphanTreeLaw" 278 pr_i182.1) ∈ ev_UW := by
  have e : (tables_1_8.drop 96).take 16 = [(Cond.instanceMethod pr_i181.1), (Cond.selects pr_i181.1.cls pr_i181.1 pr_i181.1), (ev_cw pr_i181 3), (Cond.methodLink "OrphanTreeModel" 351 pr_i180.1), _, (Cond.instanceMethod pr_i180.1), (ev_cw pr_i180 4), (Cond.methodLink "OrphanTreeModel" 345 pr_i81.1), _, (Cond.instanceMethod pr_i81.1), (ev_cw pr_i81 1), (Cond.methodLink "OrphanTreeModel" 348 pr_i82.1), _, (Cond.instanceMethod pr_i82.1), (ev_cw pr_i82 1), (Cond.methodLink "OrphanTreeLaw" 278 pr_i182.1)] := rfl
  exact ⟨uw_s tk_8 96 e 7 rfl rfl, uw_s tk_8 96 e 10 rfl rfl, uw_s tk_8 96 e 9 rfl rfl, uw_s tk_8 96 e 11 rfl rfl, uw_s tk_8 96 e 14 rfl rfl, uw_s tk_8 96 e 13 rfl rfl, uw_s tk_8 96 e 3 rfl rfl, uw_s tk_8 96 e 6 rfl rfl, uw_s tk_8 96 e 5 rfl rfl, uw_s tk_8 96 e 2 rfl rfl, uw_s tk_8 96 e 0 rfl rfl, uw_s tk_8 96 e 1 rfl rfl, uw_s tk_8 96 e 15 rfl rfl⟩
theorem pw_m_q12_345 : Cond.methodLink "OrphanTreeModel" 345 (pr_I 81).1 ∈ ev_UW := wk_m qI_81 pt_w8_6.1
theorem pw_c_81 : ev_cw (pr_I 81) (pr_P 81).1 ∈ ev_UW := wk_c qI_81 pp_81 pt_w8_6.2.1
theorem pw_v_81 : Cond.instanceMethod (pr_I 81).1 ∈ ev_UW := wk_v qI_81 pt_w8_6.2.2.1
theorem pw_m_q12_348 : Cond.methodLink "OrphanTreeModel" 348 (pr_I 82).1 ∈ ev_UW := wk_m qI_82 pt_w8_6.2.2.2.1
theorem pw_c_82 : ev_cw (pr_I 82) (pr_P 82).1 ∈ ev_UW := wk_c qI_82 pp_82 pt_w8_6.2.2.2.2.1
theorem pw_v_82 : Cond.instanceMethod (pr_I 82).1 ∈ ev_UW := wk_v qI_82 pt_w8_6.2.2.2.2.2.1
theorem pw_m_q12_351 : Cond.methodLink "OrphanTreeModel" 351 (pr_I 180).1 ∈ ev_UW := wk_m qI_180 pt_w8_6.2.2.2.2.2.2.1
theorem pw_c_180 : ev_cw (pr_I 180) (pr_P 180).1 ∈ ev_UW := wk_c qI_180 pp_180 pt_w8_6.2.2.2.2.2.2.2.1
theorem pw_v_180 : Cond.instanceMethod (pr_I 180).1 ∈ ev_UW := wk_v qI_180 pt_w8_6.2.2.2.2.2.2.2.2.1
theorem pw_c_181 : ev_cw (pr_I 181) (pr_P 181).1 ∈ ev_UW := wk_c qI_181 pp_181 pt_w8_6.2.2.2.2.2.2.2.2.2.1
theorem pw_v_181 : Cond.instanceMethod (pr_I 181).1 ∈ ev_UW := wk_v qI_181 pt_w8_6.2.2.2.2.2.2.2.2.2.2.1
theorem pw_s_181 : Cond.selects (pr_I 181).1.cls (pr_I 181).1 (pr_I 181).1 ∈ ev_UW := wk_s qI_181 pt_w8_6.2.2.2.2.2.2.2.2.2.2.2.1
theorem pw_m_q15_278 : Cond.methodLink "OrphanTreeLaw" 278 (pr_I 182).1 ∈ ev_UW := wk_m qI_182 pt_w8_6.2.2.2.2.2.2.2.2.2.2.2.2
theorem pw_s_82 : Cond.selects (pr_I 82).1.cls (pr_I 82).1 (pr_I 82).1 ∈ ev_UW := uw_m tk_0 96 rfl rfl
theorem pw_s_205 : Cond.selects (pr_I 205).1.cls (pr_I 205).1 (pr_I 205).1 ∈ ev_UW := uw_m tk_0 99 rfl rfl
theorem pw_s_208 : Cond.selects (pr_I 208).1.cls (pr_I 208).1 (pr_I 208).1 ∈ ev_UW := uw_m tk_0 98 rfl rfl
theorem pw_s_206 : Cond.selects (pr_I 206).1.cls (pr_I 206).1 (pr_I 206).1 ∈ ev_UW := uw_m tk_0 100 rfl rfl
theorem pw_s_207 : Cond.selects (pr_I 207).1.cls (pr_I 207).1 (pr_I 207).1 ∈ ev_UW := uw_m tk_0 101 rfl rfl
theorem pw_s_211 : Cond.selects (pr_I 211).1.cls (pr_I 211).1 (pr_I 211).1 ∈ ev_UW := uw_m tk_0 103 rfl rfl
theorem pw_s_209 : Cond.selects (pr_I 209).1.cls (pr_I 209).1 (pr_I 209).1 ∈ ev_UW := uw_m tk_0 97 rfl rfl
theorem pw_s_210 : Cond.selects (pr_I 210).1.cls (pr_I 210).1 (pr_I 210).1 ∈ ev_UW := uw_m tk_0 102 rfl rfl
theorem pw_s_212 : Cond.selects (pr_I 212).1.cls (pr_I 212).1 (pr_I 212).1 ∈ ev_UW := uw_m tk_0 104 rfl rfl
theorem pt_w8_13 : (Cond.methodLink "OrphanTreeModel" 357 pr_i205.1) ∈ ev_UW ∧ (ev_cw pr_i205 2) ∈ ev_UW ∧ (Cond.instanceMethod pr_i205.1) ∈ ev_UW ∧ (Cond.methodLink "OrphanTreeModel" 360 pr_i208.1) ∈ ev_UW ∧ (ev_cw pr_i208 2) ∈ ev_UW ∧ (Cond.instanceMethod pr_i208.1) ∈ ev_UW ∧ (Cond.methodLink "OrphanTreeModel" 363 pr_i206.1) ∈ ev_UW ∧ (ev_cw pr_i206 4) ∈ ev_UW ∧ (Cond.instanceMethod pr_i206.1) ∈ ev_UW ∧ (Cond.methodLink "OrphanTreeModel" 366 pr_i207.1) ∈ ev_UW ∧ (ev_cw pr_i209 3) ∈ ev_UW ∧ (Cond.instanceMethod pr_i209.1) ∈ ev_UW := by
  have e : (tables_1_8.drop 208).take 16 = [_, (Cond.instanceMethod pr_i209.1), (ev_cw pr_i209 3), (Cond.methodLink "OrphanTreeModel" 360 pr_i208.1), _, (Cond.instanceMethod pr_i208.1), (ev_cw pr_i208 2), (Cond.methodLink "OrphanTreeModel" 357 pr_i205.1), _, (Cond.instanceMethod pr_i205.1), (ev_cw pr_i205 2), (Cond.methodLink "OrphanTreeModel" 363 pr_i206.1), _, (Cond.instanceMethod pr_i206.1), (ev_cw pr_i206 4), (Cond.methodLink "OrphanTreeModel" 366 pr_i207.1)] := rfl
  exact ⟨uw_s tk_8 208 e 7 rfl rfl, uw_s tk_8 208 e 10 rfl rfl, uw_s tk_8 208 e 9 rfl rfl, uw_s tk_8 208 e 3 rfl rfl, uw_s tk_8 208 e 6 rfl rfl, uw_s tk_8 208 e 5 rfl rfl, uw_s tk_8 208 e 11 rfl rfl, uw_s tk_8 208 e 14 rfl rfl, uw_s tk_8 208 e 13 rfl rfl, uw_s tk_8 208 e 15 rfl rfl, uw_s tk_8 208 e 2 rfl rfl, uw_s tk_8 208 e 1 rfl rfl⟩
theorem pw_m_q12_357 : Cond.methodLink "OrphanTreeModel" 357 (pr_I 205).1 ∈ ev_UW := wk_m qI_205 pt_w8_13.1
theorem pw_c_205 : ev_cw (pr_I 205) (pr_P 205).1 ∈ ev_UW := wk_c qI_205 pp_205 pt_w8_13.2.1
theorem pw_v_205 : Cond.instanceMethod (pr_I 205).1 ∈ ev_UW := wk_v qI_205 pt_w8_13.2.2.1
theorem pw_m_q12_360 : Cond.methodLink "OrphanTreeModel" 360 (pr_I 208).1 ∈ ev_UW := wk_m qI_208 pt_w8_13.2.2.2.1
theorem pw_c_208 : ev_cw (pr_I 208) (pr_P 208).1 ∈ ev_UW := wk_c qI_208 pp_208 pt_w8_13.2.2.2.2.1
theorem pw_v_208 : Cond.instanceMethod (pr_I 208).1 ∈ ev_UW := wk_v qI_208 pt_w8_13.2.2.2.2.2.1
theorem pw_m_q12_363 : Cond.methodLink "OrphanTreeModel" 363 (pr_I 206).1 ∈ ev_UW := wk_m qI_206 pt_w8_13.2.2.2.2.2.2.1
theorem pw_c_206 : ev_cw (pr_I 206) (pr_P 206).1 ∈ ev_UW := wk_c qI_206 pp_206 pt_w8_13.2.2.2.2.2.2.2.1
theorem pw_v_206 : Cond.instanceMethod (pr_I 206).1 ∈ ev_UW := wk_v qI_206 pt_w8_13.2.2.2.2.2.2.2.2.1
theorem pw_m_q12_366 : Cond.methodLink "OrphanTreeModel" 366 (pr_I 207).1 ∈ ev_UW := wk_m qI_207 pt_w8_13.2.2.2.2.2.2.2.2.2.1
theorem pw_c_209 : ev_cw (pr_I 209) (pr_P 209).1 ∈ ev_UW := wk_c qI_209 pp_209 pt_w8_13.2.2.2.2.2.2.2.2.2.2.1
theorem pw_v_209 : Cond.instanceMethod (pr_I 209).1 ∈ ev_UW := wk_v qI_209 pt_w8_13.2.2.2.2.2.2.2.2.2.2.2
theorem pt_w8_14 : (ev_cw pr_i207 3) ∈ ev_UW ∧ (Cond.instanceMethod pr_i207.1) ∈ ev_UW ∧ (Cond.methodLink "OrphanTreeModel" 369 pr_i211.1) ∈ ev_UW ∧ (ev_cw pr_i211 4) ∈ ev_UW ∧ (Cond.instanceMethod pr_i211.1) ∈ ev_UW ∧ (Cond.methodLink "OrphanTreeModel" 375 pr_i210.1) ∈ ev_UW ∧ (ev_cw pr_i210 3) ∈ ev_UW ∧ (Cond.instanceMethod pr_i210.1) ∈ ev_UW ∧ (Cond.methodLink "OrphanTreeModel" 378 pr_i212.1) ∈ ev_UW ∧ (ev_cw pr_i212 4) ∈ ev_UW ∧ (Cond.instanceMethod pr_i212.1) ∈ ev_UW ∧ (Cond.methodLink "OrphanTreeLaw" 378 pr_i214.1) ∈ ev_UW := by
  have e : (tables_1_8.drop 224).take 16 = [_, (Cond.instanceMethod pr_i207.1), (ev_cw pr_i207 3), (Cond.methodLink "OrphanTreeModel" 375 pr_i210.1), _, (Cond.instanceMethod pr_i210.1), (ev_cw pr_i210 3), (Cond.methodLink "OrphanTreeModel" 369 pr_i211.1), _, (Cond.instanceMethod pr_i211.1), (ev_cw pr_i211 4), (Cond.methodLink "OrphanTreeModel" 378 pr_i212.1), _, (Cond.instanceMethod pr_i212.1), (ev_cw pr_i212 4), (Cond.methodLink "OrphanTreeLaw" 378 pr_i214.1)] := rfl
  exact ⟨uw_s tk_8 224 e 2 rfl rfl, uw_s tk_8 224 e 1 rfl rfl, uw_s tk_8 224 e 7 rfl rfl, uw_s tk_8 224 e 10 rfl rfl, uw_s tk_8 224 e 9 rfl rfl, uw_s tk_8 224 e 3 rfl rfl, uw_s tk_8 224 e 6 rfl rfl, uw_s tk_8 224 e 5 rfl rfl, uw_s tk_8 224 e 11 rfl rfl, uw_s tk_8 224 e 14 rfl rfl, uw_s tk_8 224 e 13 rfl rfl, uw_s tk_8 224 e 15 rfl rfl⟩
theorem pw_c_207 : ev_cw (pr_I 207) (pr_P 207).1 ∈ ev_UW := wk_c qI_207 pp_207 pt_w8_14.1
theorem pw_v_207 : Cond.instanceMethod (pr_I 207).1 ∈ ev_UW := wk_v qI_207 pt_w8_14.2.1
theorem pw_m_q12_369 : Cond.methodLink "OrphanTreeModel" 369 (pr_I 211).1 ∈ ev_UW := wk_m qI_211 pt_w8_14.2.2.1
theorem pw_c_211 : ev_cw (pr_I 211) (pr_P 211).1 ∈ ev_UW := wk_c qI_211 pp_211 pt_w8_14.2.2.2.1
theorem pw_v_211 : Cond.instanceMethod (pr_I 211).1 ∈ ev_UW := wk_v qI_211 pt_w8_14.2.2.2.2.1
theorem pw_m_q12_375 : Cond.methodLink "OrphanTreeModel" 375 (pr_I 210).1 ∈ ev_UW := wk_m qI_210 pt_w8_14.2.2.2.2.2.1
theorem pw_c_210 : ev_cw (pr_I 210) (pr_P 210).1 ∈ ev_UW := wk_c qI_210 pp_210 pt_w8_14.2.2.2.2.2.2.1
theorem pw_v_210 : Cond.instanceMethod (pr_I 210).1 ∈ ev_UW := wk_v qI_210 pt_w8_14.2.2.2.2.2.2.2.1
theorem pw_m_q12_378 : Cond.methodLink "OrphanTreeModel" 378 (pr_I 212).1 ∈ ev_UW := wk_m qI_212 pt_w8_14.2.2.2.2.2.2.2.2.1
theorem pw_c_212 : ev_cw (pr_I 212) (pr_P 212).1 ∈ ev_UW := wk_c qI_212 pp_212 pt_w8_14.2.2.2.2.2.2.2.2.2.1
theorem pw_v_212 : Cond.instanceMethod (pr_I 212).1 ∈ ev_UW := wk_v qI_212 pt_w8_14.2.2.2.2.2.2.2.2.2.2.1
theorem pw_m_q15_378 : Cond.methodLink "OrphanTreeLaw" 378 (pr_I 214).1 ∈ ev_UW := wk_m qI_214 pt_w8_14.2.2.2.2.2.2.2.2.2.2.2
theorem pt_w8_12 : (Cond.methodLink "OrphanTreeModel" 372 pr_i209.1) ∈ ev_UW ∧ (ev_cw pr_i202 4) ∈ ev_UW ∧ (Cond.instanceMethod pr_i202.1) ∈ ev_UW ∧ (Cond.selects pr_i202.1.cls pr_i202.1 pr_i202.1) ∈ ev_UW ∧ (Cond.methodLink "OrphanTreeLaw" 368 pr_i203.1) ∈ ev_UW ∧ (ev_cw pr_i203 4) ∈ ev_UW ∧ (Cond.instanceMethod pr_i203.1) ∈ ev_UW ∧ (Cond.selects pr_i203.1.cls pr_i203.1 pr_i203.1) ∈ ev_UW ∧ (Cond.methodLink "OrphanTreeLaw" 371 pr_i204.1) ∈ ev_UW ∧ (ev_cw pr_i204 4) ∈ ev_UW ∧ (Cond.instanceMethod pr_i204.1) ∈ ev_UW ∧ (Cond.selects pr_i204.1.cls pr_i204.1 pr_i204.1) ∈ ev_UW ∧ (Cond.methodLink "OrphanTreeLaw" 374 pr_i213.1) ∈ ev_UW ∧ (ev_cw pr_i213 4) ∈ ev_UW ∧ (Cond.instanceMethod pr_i213.1) ∈ ev_UW ∧ (Cond.selects pr_i213.1.cls pr_i213.1 pr_i213.1) ∈ ev_UW := by
  have e : (tables_1_8.drop 192).take 16 = [(Cond.instanceMethod pr_i202.1), (Cond.selects pr_i202.1.cls pr_i202.1 pr_i202.1), (ev_cw pr_i202 4), (Cond.methodLink "OrphanTreeLaw" 368 pr_i203.1), (Cond.instanceMethod pr_i203.1), (Cond.selects pr_i203.1.cls pr_i203.1 pr_i203.1), (ev_cw pr_i203 4), (Cond.methodLink "OrphanTreeLaw" 371 pr_i204.1), (Cond.instanceMethod pr_i204.1), (Cond.selects pr_i204.1.cls pr_i204.1 pr_i204.1), (ev_cw pr_i204 4), (Cond.methodLink "OrphanTreeLaw" 374 pr_i213.1), (Cond.instanceMethod pr_i213.1), (Cond.selects pr_i213.1.cls pr_i213.1 pr_i213.1), (ev_cw pr_i213 4), (Cond.methodLink "OrphanTreeModel" 372 pr_i209.1)] := rfl
  exact ⟨uw_s tk_8 192 e 15 rfl rfl, uw_s tk_8 192 e 2 rfl rfl, uw_s tk_8 192 e 0 rfl rfl, uw_s tk_8 192 e 1 rfl rfl, uw_s tk_8 192 e 3 rfl rfl, uw_s tk_8 192 e 6 rfl rfl, uw_s tk_8 192 e 4 rfl rfl, uw_s tk_8 192 e 5 rfl rfl, uw_s tk_8 192 e 7 rfl rfl, uw_s tk_8 192 e 10 rfl rfl, uw_s tk_8 192 e 8 rfl rfl, uw_s tk_8 192 e 9 rfl rfl, uw_s tk_8 192 e 11 rfl rfl, uw_s tk_8 192 e 14 rfl rfl, uw_s tk_8 192 e 12 rfl rfl, uw_s tk_8 192 e 13 rfl rfl⟩
theorem pw_m_q12_372 : Cond.methodLink "OrphanTreeModel" 372 (pr_I 209).1 ∈ ev_UW := wk_m qI_209 pt_w8_12.1
theorem pw_c_202 : ev_cw (pr_I 202) (pr_P 202).1 ∈ ev_UW := wk_c qI_202 pp_202 pt_w8_12.2.1
theorem pw_v_202 : Cond.instanceMethod (pr_I 202).1 ∈ ev_UW := wk_v qI_202 pt_w8_12.2.2.1
theorem pw_s_202 : Cond.selects (pr_I 202).1.cls (pr_I 202).1 (pr_I 202).1 ∈ ev_UW := wk_s qI_202 pt_w8_12.2.2.2.1
theorem pw_m_q15_368 : Cond.methodLink "OrphanTreeLaw" 368 (pr_I 203).1 ∈ ev_UW := wk_m qI_203 pt_w8_12.2.2.2.2.1
theorem pw_c_203 : ev_cw (pr_I 203) (pr_P 203).1 ∈ ev_UW := wk_c qI_203 pp_203 pt_w8_12.2.2.2.2.2.1
theorem pw_v_203 : Cond.instanceMethod (pr_I 203).1 ∈ ev_UW := wk_v qI_203 pt_w8_12.2.2.2.2.2.2.1
theorem pw_s_203 : Cond.selects (pr_I 203).1.cls (pr_I 203).1 (pr_I 203).1 ∈ ev_UW := wk_s qI_203 pt_w8_12.2.2.2.2.2.2.2.1
theorem pw_m_q15_371 : Cond.methodLink "OrphanTreeLaw" 371 (pr_I 204).1 ∈ ev_UW := wk_m qI_204 pt_w8_12.2.2.2.2.2.2.2.2.1
theorem pw_c_204 : ev_cw (pr_I 204) (pr_P 204).1 ∈ ev_UW := wk_c qI_204 pp_204 pt_w8_12.2.2.2.2.2.2.2.2.2.1
theorem pw_v_204 : Cond.instanceMethod (pr_I 204).1 ∈ ev_UW := wk_v qI_204 pt_w8_12.2.2.2.2.2.2.2.2.2.2.1
theorem pw_s_204 : Cond.selects (pr_I 204).1.cls (pr_I 204).1 (pr_I 204).1 ∈ ev_UW := wk_s qI_204 pt_w8_12.2.2.2.2.2.2.2.2.2.2.2.1
theorem pw_m_q15_374 : Cond.methodLink "OrphanTreeLaw" 374 (pr_I 213).1 ∈ ev_UW := wk_m qI_213 pt_w8_12.2.2.2.2.2.2.2.2.2.2.2.2.1
theorem pw_c_213 : ev_cw (pr_I 213) (pr_P 213).1 ∈ ev_UW := wk_c qI_213 pp_213 pt_w8_12.2.2.2.2.2.2.2.2.2.2.2.2.2.1
theorem pw_v_213 : Cond.instanceMethod (pr_I 213).1 ∈ ev_UW := wk_v qI_213 pt_w8_12.2.2.2.2.2.2.2.2.2.2.2.2.2.2.1
theorem pw_s_213 : Cond.selects (pr_I 213).1.cls (pr_I 213).1 (pr_I 213).1 ∈ ev_UW := wk_s qI_213 pt_w8_12.2.2.2.2.2.2.2.2.2.2.2.2.2.2.2
theorem pt_w1_13 : (Cond.methodLink "OrphanTree$Input" 3 Lib.objectInit) ∈ ev_UW ∧ (Cond.fieldLink "OrphanTree$Input" 9 (TX1 0).1 (TX1 0).2.1 (TX1 0).2.2.1) ∈ ev_UW ∧ (Cond.fieldLink "OrphanTree$Input" 15 (TX1 1).1 (TX1 1).2.1 (TX1 1).2.2.1) ∈ ev_UW ∧ (Cond.methodLink "OrphanTree$SetupReader" 3 Lib.objectInit) ∈ ev_UW ∧ (Cond.classLink "OrphanTree$SetupReader" 9 "OrphanTree$Input") ∈ ev_UW ∧ (Cond.instantiable "OrphanTree$Input" 2) ∈ ev_UW ∧ (ev_cw pr_i221 1) ∈ ev_UW ∧ (Cond.instanceMethod pr_i221.1) ∈ ev_UW ∧ (Cond.fieldLinkNest "OrphanTree" 51 (TX1 1).1 (TX1 1).2.1 (TX1 1).2.2.1 "OrphanTree") ∈ lw_tbl ∧ (Cond.methodLinkNest "OrphanTree$SetupReader" 11 pr_i221.1 "OrphanTree") ∈ lw_tbl ∧ (Cond.fieldLinkNest "OrphanTree$SetupReader" 192 (TX1 1).1 (TX1 1).2.1 (TX1 1).2.2.1 "OrphanTree") ∈ lw_tbl := by
  have e : (tables_1_1.drop 208).take 16 = [(Cond.methodLink "OrphanTree$SetupReader" 3 Lib.objectInit), (Cond.classLink "OrphanTree$SetupReader" 9 "OrphanTree$Input"), (Cond.instantiable "OrphanTree$Input" 2), (Cond.methodLinkNest "OrphanTree$SetupReader" 11 pr_i221.1 "OrphanTree"), (Cond.instanceMethod pr_i221.1), (ev_cw pr_i221 1), (Cond.methodLink "OrphanTree$Input" 3 Lib.objectInit), (Cond.fieldLink "OrphanTree$Input" 9 (TX1 0).1 (TX1 0).2.1 (TX1 0).2.2.1), (Cond.fieldLink "OrphanTree$Input" 15 (TX1 1).1 (TX1 1).2.1 (TX1 1).2.2.1), (Cond.fieldLinkNest "OrphanTree" 51 (TX1 1).1 (TX1 1).2.1 (TX1 1).2.2.1 "OrphanTree"), (Cond.fieldLinkNest "OrphanTree$SetupReader" 192 (TX1 1).1 (TX1 1).2.1 (TX1 1).2.2.1 "OrphanTree"), _, _, _, _, _] := rfl
  exact ⟨uw_s tk_1 208 e 6 rfl rfl, uw_s tk_1 208 e 7 rfl rfl, uw_s tk_1 208 e 8 rfl rfl, uw_s tk_1 208 e 0 rfl rfl, uw_s tk_1 208 e 1 rfl rfl, uw_s tk_1 208 e 2 rfl rfl, uw_s tk_1 208 e 5 rfl rfl, uw_s tk_1 208 e 4 rfl rfl, tw_s tk_1 208 e 9 rfl, tw_s tk_1 208 e 3 rfl, tw_s tk_1 208 e 10 rfl⟩
theorem pw_m_q5_3 : Cond.methodLink "OrphanTree$Input" 3 Lib.objectInit ∈ ev_UW := pt_w1_13.1
theorem pw_f_q5_9 : Cond.fieldLink "OrphanTree$Input" 9 (TX1 0).1 (TX1 0).2.1 (TX1 0).2.2.1 ∈ ev_UW := pt_w1_13.2.1
theorem pw_f_q5_15 : Cond.fieldLink "OrphanTree$Input" 15 (TX1 1).1 (TX1 1).2.1 (TX1 1).2.2.1 ∈ ev_UW := pt_w1_13.2.2.1
theorem pw_m_q3_3 : Cond.methodLink "OrphanTree$SetupReader" 3 Lib.objectInit ∈ ev_UW := pt_w1_13.2.2.2.1
theorem pw_cl_q3_9 : Cond.classLink "OrphanTree$SetupReader" 9 "OrphanTree$Input" ∈ ev_UW := pt_w1_13.2.2.2.2.1
theorem pw_in_q5 : Cond.instantiable "OrphanTree$Input" 2 ∈ ev_UW := pt_w1_13.2.2.2.2.2.1
theorem pw_c_221 : ev_cw (pr_I 221) (pr_P 221).1 ∈ ev_UW := wk_c qI_221 pp_221 pt_w1_13.2.2.2.2.2.2.1
theorem pw_v_221 : Cond.instanceMethod (pr_I 221).1 ∈ ev_UW := wk_v qI_221 pt_w1_13.2.2.2.2.2.2.2.1
theorem pw_f_q0_51 : Cond.fieldLinkNest "OrphanTree" 51 (TX1 1).1 (TX1 1).2.1 (TX1 1).2.2.1 "OrphanTree" ∈ lw_tbl := pt_w1_13.2.2.2.2.2.2.2.2.1
theorem pw_m_q3_11 : Cond.methodLinkNest "OrphanTree$SetupReader" 11 (pr_I 221).1 "OrphanTree" ∈ lw_tbl := wk_n qI_221 pt_w1_13.2.2.2.2.2.2.2.2.2.1
theorem pw_f_q3_192 : Cond.fieldLinkNest "OrphanTree$SetupReader" 192 (TX1 1).1 (TX1 1).2.1 (TX1 1).2.2.1 "OrphanTree" ∈ lw_tbl := pt_w1_13.2.2.2.2.2.2.2.2.2.2
theorem pt_w1_14 : (Cond.arrayClass (newarray.typeOf .byte)) ∈ ev_UW ∧ (Cond.fieldLink "OrphanTree$SetupReader" 12 (TX4 0).1 (TX4 0).2.1 (TX4 0).2.2.1) ∈ ev_UW ∧ (Cond.classLink "OrphanTree$SetupReader" 18 "OrphanTree$Tree") ∈ ev_UW ∧ (Cond.methodLink "OrphanTree$SetupReader" 20 pr_i269.1) ∈ ev_UW ∧ (Cond.fieldLink "OrphanTree$SetupReader" 21 (TX4 1).1 (TX4 1).2.1 (TX4 1).2.2.1) ∈ ev_UW ∧ (Cond.fieldLink "OrphanTree$SetupReader" 25 (TX4 2).1 (TX4 2).2.1 (TX4 2).2.2.1) ∈ ev_UW ∧ (Cond.fieldLink "OrphanTree$SetupReader" 29 (TX4 3).1 (TX4 3).2.1 (TX4 3).2.2.1) ∈ ev_UW ∧ (Cond.fieldLink "OrphanTree$SetupReader" 32 (TX4 4).1 (TX4 4).2.1 (TX4 4).2.2.1) ∈ ev_UW ∧ (Cond.fieldLink "OrphanTree$SetupReader" 35 (TX4 5).1 (TX4 5).2.1 (TX4 5).2.2.1) ∈ ev_UW ∧ (Cond.fieldLink "OrphanTree$SetupReader" 38 (TX4 6).1 (TX4 6).2.1 (TX4 6).2.2.1) ∈ ev_UW ∧ (Cond.fieldLink "OrphanTree$SetupReader" 41 (TX4 7).1 (TX4 7).2.1 (TX4 7).2.2.1) ∈ ev_UW ∧ (Cond.fieldLink "OrphanTree$SetupReader" 44 (TX4 8).1 (TX4 8).2.1 (TX4 8).2.2.1) ∈ ev_UW ∧ (Cond.fieldLinkNest "OrphanTree" 47 (TX4 0).1 (TX4 0).2.1 (TX4 0).2.2.1 "OrphanTree") ∈ lw_tbl ∧ (Cond.fieldLinkNest "OrphanTree" 68 (TX4 2).1 (TX4 2).2.1 (TX4 2).2.2.1 "OrphanTree") ∈ lw_tbl ∧ (Cond.fieldLinkNest "OrphanTree" 71 (TX4 1).1 (TX4 1).2.1 (TX4 1).2.2.1 "OrphanTree") ∈ lw_tbl ∧ (Cond.fieldLinkNest "OrphanTree" 83 (TX4 3).1 (TX4 3).2.1 (TX4 3).2.2.1 "OrphanTree") ∈ lw_tbl := by
  have e : (tables_1_1.drop 224).take 16 = [(Cond.arrayClass (newarray.typeOf .byte)), (Cond.classLink "OrphanTree$SetupReader" 18 "OrphanTree$Tree"), (Cond.methodLink "OrphanTree$SetupReader" 20 pr_i269.1), (Cond.fieldLink "OrphanTree$SetupReader" 12 (TX4 0).1 (TX4 0).2.1 (TX4 0).2.2.1), (Cond.fieldLinkNest "OrphanTree" 47 (TX4 0).1 (TX4 0).2.1 (TX4 0).2.2.1 "OrphanTree"), (Cond.fieldLink "OrphanTree$SetupReader" 21 (TX4 1).1 (TX4 1).2.1 (TX4 1).2.2.1), (Cond.fieldLinkNest "OrphanTree" 71 (TX4 1).1 (TX4 1).2.1 (TX4 1).2.2.1 "OrphanTree"), (Cond.fieldLink "OrphanTree$SetupReader" 25 (TX4 2).1 (TX4 2).2.1 (TX4 2).2.2.1), (Cond.fieldLinkNest "OrphanTree" 68 (TX4 2).1 (TX4 2).2.1 (TX4 2).2.2.1 "OrphanTree"), (Cond.fieldLink "OrphanTree$SetupReader" 29 (TX4 3).1 (TX4 3).2.1 (TX4 3).2.2.1), (Cond.fieldLinkNest "OrphanTree" 83 (TX4 3).1 (TX4 3).2.1 (TX4 3).2.2.1 "OrphanTree"), (Cond.fieldLink "OrphanTree$SetupReader" 32 (TX4 4).1 (TX4 4).2.1 (TX4 4).2.2.1), (Cond.fieldLink "OrphanTree$SetupReader" 35 (TX4 5).1 (TX4 5).2.1 (TX4 5).2.2.1), (Cond.fieldLink "OrphanTree$SetupReader" 38 (TX4 6).1 (TX4 6).2.1 (TX4 6).2.2.1), (Cond.fieldLink "OrphanTree$SetupReader" 41 (TX4 7).1 (TX4 7).2.1 (TX4 7).2.2.1), (Cond.fieldLink "OrphanTree$SetupReader" 44 (TX4 8).1 (TX4 8).2.1 (TX4 8).2.2.1)] := rfl
  exact ⟨uw_s tk_1 224 e 0 rfl rfl, uw_s tk_1 224 e 3 rfl rfl, uw_s tk_1 224 e 1 rfl rfl, uw_s tk_1 224 e 2 rfl rfl, uw_s tk_1 224 e 5 rfl rfl, uw_s tk_1 224 e 7 rfl rfl, uw_s tk_1 224 e 9 rfl rfl, uw_s tk_1 224 e 11 rfl rfl, uw_s tk_1 224 e 12 rfl rfl, uw_s tk_1 224 e 13 rfl rfl, uw_s tk_1 224 e 14 rfl rfl, uw_s tk_1 224 e 15 rfl rfl, tw_s tk_1 224 e 4 rfl, tw_s tk_1 224 e 8 rfl, tw_s tk_1 224 e 6 rfl, tw_s tk_1 224 e 10 rfl⟩
theorem pw_a_byte : Cond.arrayClass (newarray.typeOf .byte) ∈ ev_UW := pt_w1_14.1
theorem pw_f_q3_12 : Cond.fieldLink "OrphanTree$SetupReader" 12 (TX4 0).1 (TX4 0).2.1 (TX4 0).2.2.1 ∈ ev_UW := pt_w1_14.2.1
theorem pw_cl_q3_18 : Cond.classLink "OrphanTree$SetupReader" 18 "OrphanTree$Tree" ∈ ev_UW := pt_w1_14.2.2.1
theorem pw_m_q3_20 : Cond.methodLink "OrphanTree$SetupReader" 20 (pr_I 269).1 ∈ ev_UW := wk_m qI_269 pt_w1_14.2.2.2.1
theorem pw_f_q3_21 : Cond.fieldLink "OrphanTree$SetupReader" 21 (TX4 1).1 (TX4 1).2.1 (TX4 1).2.2.1 ∈ ev_UW := pt_w1_14.2.2.2.2.1
theorem pw_f_q3_25 : Cond.fieldLink "OrphanTree$SetupReader" 25 (TX4 2).1 (TX4 2).2.1 (TX4 2).2.2.1 ∈ ev_UW := pt_w1_14.2.2.2.2.2.1
theorem pw_f_q3_29 : Cond.fieldLink "OrphanTree$SetupReader" 29 (TX4 3).1 (TX4 3).2.1 (TX4 3).2.2.1 ∈ ev_UW := pt_w1_14.2.2.2.2.2.2.1
theorem pw_f_q3_32 : Cond.fieldLink "OrphanTree$SetupReader" 32 (TX4 4).1 (TX4 4).2.1 (TX4 4).2.2.1 ∈ ev_UW := pt_w1_14.2.2.2.2.2.2.2.1
theorem pw_f_q3_35 : Cond.fieldLink "OrphanTree$SetupReader" 35 (TX4 5).1 (TX4 5).2.1 (TX4 5).2.2.1 ∈ ev_UW := pt_w1_14.2.2.2.2.2.2.2.2.1
theorem pw_f_q3_38 : Cond.fieldLink "OrphanTree$SetupReader" 38 (TX4 6).1 (TX4 6).2.1 (TX4 6).2.2.1 ∈ ev_UW := pt_w1_14.2.2.2.2.2.2.2.2.2.1
theorem pw_f_q3_41 : Cond.fieldLink "OrphanTree$SetupReader" 41 (TX4 7).1 (TX4 7).2.1 (TX4 7).2.2.1 ∈ ev_UW := pt_w1_14.2.2.2.2.2.2.2.2.2.2.1
theorem pw_f_q3_44 : Cond.fieldLink "OrphanTree$SetupReader" 44 (TX4 8).1 (TX4 8).2.1 (TX4 8).2.2.1 ∈ ev_UW := pt_w1_14.2.2.2.2.2.2.2.2.2.2.2.1
theorem pw_f_q0_47 : Cond.fieldLinkNest "OrphanTree" 47 (TX4 0).1 (TX4 0).2.1 (TX4 0).2.2.1 "OrphanTree" ∈ lw_tbl := pt_w1_14.2.2.2.2.2.2.2.2.2.2.2.2.1
theorem pw_f_q0_68 : Cond.fieldLinkNest "OrphanTree" 68 (TX4 2).1 (TX4 2).2.1 (TX4 2).2.2.1 "OrphanTree" ∈ lw_tbl := pt_w1_14.2.2.2.2.2.2.2.2.2.2.2.2.2.1
theorem pw_f_q0_71 : Cond.fieldLinkNest "OrphanTree" 71 (TX4 1).1 (TX4 1).2.1 (TX4 1).2.2.1 "OrphanTree" ∈ lw_tbl := pt_w1_14.2.2.2.2.2.2.2.2.2.2.2.2.2.2.1
theorem pw_f_q0_83 : Cond.fieldLinkNest "OrphanTree" 83 (TX4 3).1 (TX4 3).2.1 (TX4 3).2.2.1 "OrphanTree" ∈ lw_tbl := pt_w1_14.2.2.2.2.2.2.2.2.2.2.2.2.2.2.2
theorem pt_w1_3 : (Cond.fieldLink "OrphanTree$Proc" 9 (TX3 1).1 (TX3 1).2.1 (TX3 1).2.2.1) ∈ ev_UW ∧ (Cond.fieldLink "OrphanTree$Proc" 15 (TX3 2).1 (TX3 2).2.1 (TX3 2).2.2.1) ∈ ev_UW ∧ (Cond.fieldLink "OrphanTree$Proc" 19 (TX3 3).1 (TX3 3).2.1 (TX3 3).2.2.1) ∈ ev_UW ∧ (Cond.fieldLink "OrphanTree$Proc" 22 (TX3 4).1 (TX3 4).2.1 (TX3 4).2.2.1) ∈ ev_UW ∧ (Cond.fieldLink "OrphanTree$Proc" 25 (TX3 5).1 (TX3 5).2.1 (TX3 5).2.2.1) ∈ ev_UW ∧ (Cond.fieldLinkNest "OrphanTree" 129 (TX3 2).1 (TX3 2).2.1 (TX3 2).2.2.1 "OrphanTree") ∈ lw_tbl ∧ (Cond.fieldLinkNest "OrphanTree" 137 (TX3 4).1 (TX3 4).2.1 (TX3 4).2.2.1 "OrphanTree") ∈ lw_tbl ∧ (Cond.fieldLinkNest "OrphanTree" 144 (TX3 3).1 (TX3 3).2.1 (TX3 3).2.2.1 "OrphanTree") ∈ lw_tbl ∧ (Cond.fieldLinkNest "OrphanTree" 150 (TX3 1).1 (TX3 1).2.1 (TX3 1).2.2.1 "OrphanTree") ∈ lw_tbl ∧ (Cond.fieldLinkNest "OrphanTree" 153 (TX3 5).1 (TX3 5).2.1 (TX3 5).2.2.1 "OrphanTree") ∈ lw_tbl ∧ (Cond.fieldLinkNest "OrphanTree$Output" 29 (TX3 2).1 (TX3 2).2.1 (TX3 2).2.2.1 "OrphanTree") ∈ lw_tbl ∧ (Cond.fieldLinkNest "OrphanTree$SetupReader" 145 (TX3 4).1 (TX3 4).2.1 (TX3 4).2.2.1 "OrphanTree") ∈ lw_tbl ∧ (Cond.fieldLinkNest "OrphanTree$Tree" 64 (TX3 2).1 (TX3 2).2.1 (TX3 2).2.2.1 "OrphanTree") ∈ lw_tbl ∧ (Cond.fieldLinkNest "OrphanTree$Tree" 80 (TX3 1).1 (TX3 1).2.1 (TX3 1).2.2.1 "OrphanTree") ∈ lw_tbl ∧ (Cond.fieldLinkNest "OrphanTree$Tree" 114 (TX3 3).1 (TX3 3).2.1 (TX3 3).2.2.1 "OrphanTree") ∈ lw_tbl ∧ (Cond.fieldLinkNest "OrphanTree$Tree" 146 (TX3 4).1 (TX3 4).2.1 (TX3 4).2.2.1 "OrphanTree") ∈ lw_tbl := by
  have e : (tables_1_1.drop 48).take 16 = [(Cond.fieldLink "OrphanTree$Proc" 9 (TX3 1).1 (TX3 1).2.1 (TX3 1).2.2.1), (Cond.fieldLinkNest "OrphanTree$Tree" 80 (TX3 1).1 (TX3 1).2.1 (TX3 1).2.2.1 "OrphanTree"), (Cond.fieldLinkNest "OrphanTree" 150 (TX3 1).1 (TX3 1).2.1 (TX3 1).2.2.1 "OrphanTree"), (Cond.fieldLink "OrphanTree$Proc" 15 (TX3 2).1 (TX3 2).2.1 (TX3 2).2.2.1), (Cond.fieldLinkNest "OrphanTree$Output" 29 (TX3 2).1 (TX3 2).2.1 (TX3 2).2.2.1 "OrphanTree"), (Cond.fieldLinkNest "OrphanTree$Tree" 64 (TX3 2).1 (TX3 2).2.1 (TX3 2).2.2.1 "OrphanTree"), (Cond.fieldLinkNest "OrphanTree" 129 (TX3 2).1 (TX3 2).2.1 (TX3 2).2.2.1 "OrphanTree"), (Cond.fieldLink "OrphanTree$Proc" 19 (TX3 3).1 (TX3 3).2.1 (TX3 3).2.2.1), (Cond.fieldLinkNest "OrphanTree" 144 (TX3 3).1 (TX3 3).2.1 (TX3 3).2.2.1 "OrphanTree"), (Cond.fieldLinkNest "OrphanTree$Tree" 114 (TX3 3).1 (TX3 3).2.1 (TX3 3).2.2.1 "OrphanTree"), (Cond.fieldLink "OrphanTree$Proc" 22 (TX3 4).1 (TX3 4).2.1 (TX3 4).2.2.1), (Cond.fieldLinkNest "OrphanTree$SetupReader" 145 (TX3 4).1 (TX3 4).2.1 (TX3 4).2.2.1 "OrphanTree"), (Cond.fieldLinkNest "OrphanTree" 137 (TX3 4).1 (TX3 4).2.1 (TX3 4).2.2.1 "OrphanTree"), (Cond.fieldLinkNest "OrphanTree$Tree" 146 (TX3 4).1 (TX3 4).2.1 (TX3 4).2.2.1 "OrphanTree"), (Cond.fieldLink "OrphanTree$Proc" 25 (TX3 5).1 (TX3 5).2.1 (TX3 5).2.2.1), (Cond.fieldLinkNest "OrphanTree" 153 (TX3 5).1 (TX3 5).2.1 (TX3 5).2.2.1 "OrphanTree")] := rfl
  exact ⟨uw_s tk_1 48 e 0 rfl rfl, uw_s tk_1 48 e 3 rfl rfl, uw_s tk_1 48 e 7 rfl rfl, uw_s tk_1 48 e 10 rfl rfl, uw_s tk_1 48 e 14 rfl rfl, tw_s tk_1 48 e 6 rfl, tw_s tk_1 48 e 12 rfl, tw_s tk_1 48 e 8 rfl, tw_s tk_1 48 e 2 rfl, tw_s tk_1 48 e 15 rfl, tw_s tk_1 48 e 4 rfl, tw_s tk_1 48 e 11 rfl, tw_s tk_1 48 e 5 rfl, tw_s tk_1 48 e 1 rfl, tw_s tk_1 48 e 9 rfl, tw_s tk_1 48 e 13 rfl⟩
theorem pw_f_q8_9 : Cond.fieldLink "OrphanTree$Proc" 9 (TX3 1).1 (TX3 1).2.1 (TX3 1).2.2.1 ∈ ev_UW := pt_w1_3.1
theorem pw_f_q8_15 : Cond.fieldLink "OrphanTree$Proc" 15 (TX3 2).1 (TX3 2).2.1 (TX3 2).2.2.1 ∈ ev_UW := pt_w1_3.2.1
theorem pw_f_q8_19 : Cond.fieldLink "OrphanTree$Proc" 19 (TX3 3).1 (TX3 3).2.1 (TX3 3).2.2.1 ∈ ev_UW := pt_w1_3.2.2.1
theorem pw_f_q8_22 : Cond.fieldLink "OrphanTree$Proc" 22 (TX3 4).1 (TX3 4).2.1 (TX3 4).2.2.1 ∈ ev_UW := pt_w1_3.2.2.2.1
theorem pw_f_q8_25 : Cond.fieldLink "OrphanTree$Proc" 25 (TX3 5).1 (TX3 5).2.1 (TX3 5).2.2.1 ∈ ev_UW := pt_w1_3.2.2.2.2.1
theorem pw_f_q0_129 : Cond.fieldLinkNest "OrphanTree" 129 (TX3 2).1 (TX3 2).2.1 (TX3 2).2.2.1 "OrphanTree" ∈ lw_tbl := pt_w1_3.2.2.2.2.2.1
theorem pw_f_q0_137 : Cond.fieldLinkNest "OrphanTree" 137 (TX3 4).1 (TX3 4).2.1 (TX3 4).2.2.1 "OrphanTree" ∈ lw_tbl := pt_w1_3.2.2.2.2.2.2.1
theorem pw_f_q0_144 : Cond.fieldLinkNest "OrphanTree" 144 (TX3 3).1 (TX3 3).2.1 (TX3 3).2.2.1 "OrphanTree" ∈ lw_tbl := pt_w1_3.2.2.2.2.2.2.2.1
theorem pw_f_q0_150 : Cond.fieldLinkNest "OrphanTree" 150 (TX3 1).1 (TX3 1).2.1 (TX3 1).2.2.1 "OrphanTree" ∈ lw_tbl := pt_w1_3.2.2.2.2.2.2.2.2.1
theorem pw_f_q0_153 : Cond.fieldLinkNest "OrphanTree" 153 (TX3 5).1 (TX3 5).2.1 (TX3 5).2.2.1 "OrphanTree" ∈ lw_tbl := pt_w1_3.2.2.2.2.2.2.2.2.2.1
theorem pw_f_q4_29 : Cond.fieldLinkNest "OrphanTree$Output" 29 (TX3 2).1 (TX3 2).2.1 (TX3 2).2.2.1 "OrphanTree" ∈ lw_tbl := pt_w1_3.2.2.2.2.2.2.2.2.2.2.1
theorem pw_f_q3_145 : Cond.fieldLinkNest "OrphanTree$SetupReader" 145 (TX3 4).1 (TX3 4).2.1 (TX3 4).2.2.1 "OrphanTree" ∈ lw_tbl := pt_w1_3.2.2.2.2.2.2.2.2.2.2.2.1
theorem pw_f_q1_64 : Cond.fieldLinkNest "OrphanTree$Tree" 64 (TX3 2).1 (TX3 2).2.1 (TX3 2).2.2.1 "OrphanTree" ∈ lw_tbl := pt_w1_3.2.2.2.2.2.2.2.2.2.2.2.2.1
theorem pw_f_q1_80 : Cond.fieldLinkNest "OrphanTree$Tree" 80 (TX3 1).1 (TX3 1).2.1 (TX3 1).2.2.1 "OrphanTree" ∈ lw_tbl := pt_w1_3.2.2.2.2.2.2.2.2.2.2.2.2.2.1
theorem pw_f_q1_114 : Cond.fieldLinkNest "OrphanTree$Tree" 114 (TX3 3).1 (TX3 3).2.1 (TX3 3).2.2.1 "OrphanTree" ∈ lw_tbl := pt_w1_3.2.2.2.2.2.2.2.2.2.2.2.2.2.2.1
theorem pw_f_q1_146 : Cond.fieldLinkNest "OrphanTree$Tree" 146 (TX3 4).1 (TX3 4).2.1 (TX3 4).2.2.1 "OrphanTree" ∈ lw_tbl := pt_w1_3.2.2.2.2.2.2.2.2.2.2.2.2.2.2.2
theorem pt_w1_4 : (Cond.fieldLink "OrphanTree$Proc" 28 (TX3 6).1 (TX3 6).2.1 (TX3 6).2.2.1) ∈ ev_UW ∧ (Cond.fieldLink "OrphanTree$Proc" 31 (TX3 7).1 (TX3 7).2.1 (TX3 7).2.2.1) ∈ ev_UW ∧ (Cond.fieldLink "OrphanTree$Proc" 34 (TX3 8).1 (TX3 8).2.1 (TX3 8).2.2.1) ∈ ev_UW ∧ (Cond.fieldLink "OrphanTree$Proc" 37 (TX3 9).1 (TX3 9).2.1 (TX3 9).2.2.1) ∈ ev_UW ∧ (Cond.fieldLinkNest "OrphanTree" 156 (TX3 6).1 (TX3 6).2.1 (TX3 6).2.2.1 "OrphanTree") ∈ lw_tbl ∧ (Cond.fieldLinkNest "OrphanTree" 159 (TX3 7).1 (TX3 7).2.1 (TX3 7).2.2.1 "OrphanTree") ∈ lw_tbl ∧ (Cond.fieldLinkNest "OrphanTree" 162 (TX3 9).1 (TX3 9).2.1 (TX3 9).2.2.1 "OrphanTree") ∈ lw_tbl ∧ (Cond.fieldLinkNest "OrphanTree" 165 (TX3 8).1 (TX3 8).2.1 (TX3 8).2.2.1 "OrphanTree") ∈ lw_tbl ∧ (Cond.fieldLinkNest "OrphanTree$Output" 61 (TX3 9).1 (TX3 9).2.1 (TX3 9).2.2.1 "OrphanTree") ∈ lw_tbl ∧ (Cond.fieldLinkNest "OrphanTree$SetupReader" 150 (TX3 6).1 (TX3 6).2.1 (TX3 6).2.2.1 "OrphanTree") ∈ lw_tbl ∧ (Cond.fieldLinkNest "OrphanTree$SetupReader" 166 (TX3 7).1 (TX3 7).2.1 (TX3 7).2.2.1 "OrphanTree") ∈ lw_tbl ∧ (Cond.fieldLinkNest "OrphanTree$SetupReader" 178 (TX3 8).1 (TX3 8).2.1 (TX3 8).2.2.1 "OrphanTree") ∈ lw_tbl ∧ (Cond.fieldLinkNest "OrphanTree$Tree" 111 (TX3 9).1 (TX3 9).2.1 (TX3 9).2.2.1 "OrphanTree") ∈ lw_tbl ∧ (Cond.fieldLinkNest "OrphanTree$Tree" 143 (TX3 6).1 (TX3 6).2.1 (TX3 6).2.2.1 "OrphanTree") ∈ lw_tbl ∧ (Cond.fieldLinkNest "OrphanTree$Tree" 149 (TX3 5).1 (TX3 5).2.1 (TX3 5).2.2.1 "OrphanTree") ∈ lw_tbl ∧ (Cond.fieldLinkNest "OrphanTree$Tree" 172 (TX3 7).1 (TX3 7).2.1 (TX3 7).2.2.1 "OrphanTree") ∈ lw_tbl := by
  have e : (tables_1_1.drop 64).take 16 = [(Cond.fieldLinkNest "OrphanTree$Tree" 149 (TX3 5).1 (TX3 5).2.1 (TX3 5).2.2.1 "OrphanTree"), (Cond.fieldLink "OrphanTree$Proc" 28 (TX3 6).1 (TX3 6).2.1 (TX3 6).2.2.1), (Cond.fieldLinkNest "OrphanTree$SetupReader" 150 (TX3 6).1 (TX3 6).2.1 (TX3 6).2.2.1 "OrphanTree"), (Cond.fieldLinkNest "OrphanTree" 156 (TX3 6).1 (TX3 6).2.1 (TX3 6).2.2.1 "OrphanTree"), (Cond.fieldLinkNest "OrphanTree$Tree" 143 (TX3 6).1 (TX3 6).2.1 (TX3 6).2.2.1 "OrphanTree"), (Cond.fieldLink "OrphanTree$Proc" 31 (TX3 7).1 (TX3 7).2.1 (TX3 7).2.2.1), (Cond.fieldLinkNest "OrphanTree" 159 (TX3 7).1 (TX3 7).2.1 (TX3 7).2.2.1 "OrphanTree"), (Cond.fieldLinkNest "OrphanTree$SetupReader" 166 (TX3 7).1 (TX3 7).2.1 (TX3 7).2.2.1 "OrphanTree"), (Cond.fieldLinkNest "OrphanTree$Tree" 172 (TX3 7).1 (TX3 7).2.1 (TX3 7).2.2.1 "OrphanTree"), (Cond.fieldLink "OrphanTree$Proc" 34 (TX3 8).1 (TX3 8).2.1 (TX3 8).2.2.1), (Cond.fieldLinkNest "OrphanTree" 165 (TX3 8).1 (TX3 8).2.1 (TX3 8).2.2.1 "OrphanTree"), (Cond.fieldLinkNest "OrphanTree$SetupReader" 178 (TX3 8).1 (TX3 8).2.1 (TX3 8).2.2.1 "OrphanTree"), (Cond.fieldLink "OrphanTree$Proc" 37 (TX3 9).1 (TX3 9).2.1 (TX3 9).2.2.1), (Cond.fieldLinkNest "OrphanTree$Output" 61 (TX3 9).1 (TX3 9).2.1 (TX3 9).2.2.1 "OrphanTree"), (Cond.fieldLinkNest "OrphanTree" 162 (TX3 9).1 (TX3 9).2.1 (TX3 9).2.2.1 "OrphanTree"), (Cond.fieldLinkNest "OrphanTree$Tree" 111 (TX3 9).1 (TX3 9).2.1 (TX3 9).2.2.1 "OrphanTree")] := rfl
  exact ⟨uw_s tk_1 64 e 1 rfl rfl, uw_s tk_1 64 e 5 rfl rfl, uw_s tk_1 64 e 9 rfl rfl, uw_s tk_1 64 e 12 rfl rfl, tw_s tk_1 64 e 3 rfl, tw_s tk_1 64 e 6 rfl, tw_s tk_1 64 e 14 rfl, tw_s tk_1 64 e 10 rfl, tw_s tk_1 64 e 13 rfl, tw_s tk_1 64 e 2 rfl, tw_s tk_1 64 e 7 rfl, tw_s tk_1 64 e 11 rfl, tw_s tk_1 64 e 15 rfl, tw_s tk_1 64 e 4 rfl, tw_s tk_1 64 e 0 rfl, tw_s tk_1 64 e 8 rfl⟩
theorem pw_f_q8_28 : Cond.fieldLink "OrphanTree$Proc" 28 (TX3 6).1 (TX3 6).2.1 (TX3 6).2.2.1 ∈ ev_UW := pt_w1_4.1
theorem pw_f_q8_31 : Cond.fieldLink "OrphanTree$Proc" 31 (TX3 7).1 (TX3 7).2.1 (TX3 7).2.2.1 ∈ ev_UW := pt_w1_4.2.1
theorem pw_f_q8_34 : Cond.fieldLink "OrphanTree$Proc" 34 (TX3 8).1 (TX3 8).2.1 (TX3 8).2.2.1 ∈ ev_UW := pt_w1_4.2.2.1
theorem pw_f_q8_37 : Cond.fieldLink "OrphanTree$Proc" 37 (TX3 9).1 (TX3 9).2.1 (TX3 9).2.2.1 ∈ ev_UW := pt_w1_4.2.2.2.1
theorem pw_f_q0_156 : Cond.fieldLinkNest "OrphanTree" 156 (TX3 6).1 (TX3 6).2.1 (TX3 6).2.2.1 "OrphanTree" ∈ lw_tbl := pt_w1_4.2.2.2.2.1
theorem pw_f_q0_159 : Cond.fieldLinkNest "OrphanTree" 159 (TX3 7).1 (TX3 7).2.1 (TX3 7).2.2.1 "OrphanTree" ∈ lw_tbl := pt_w1_4.2.2.2.2.2.1
theorem pw_f_q0_162 : Cond.fieldLinkNest "OrphanTree" 162 (TX3 9).1 (TX3 9).2.1 (TX3 9).2.2.1 "OrphanTree" ∈ lw_tbl := pt_w1_4.2.2.2.2.2.2.1
theorem pw_f_q0_165 : Cond.fieldLinkNest "OrphanTree" 165 (TX3 8).1 (TX3 8).2.1 (TX3 8).2.2.1 "OrphanTree" ∈ lw_tbl := pt_w1_4.2.2.2.2.2.2.2.1
theorem pw_f_q4_61 : Cond.fieldLinkNest "OrphanTree$Output" 61 (TX3 9).1 (TX3 9).2.1 (TX3 9).2.2.1 "OrphanTree" ∈ lw_tbl := pt_w1_4.2.2.2.2.2.2.2.2.1
theorem pw_f_q3_150 : Cond.fieldLinkNest "OrphanTree$SetupReader" 150 (TX3 6).1 (TX3 6).2.1 (TX3 6).2.2.1 "OrphanTree" ∈ lw_tbl := pt_w1_4.2.2.2.2.2.2.2.2.2.1
theorem pw_f_q3_166 : Cond.fieldLinkNest "OrphanTree$SetupReader" 166 (TX3 7).1 (TX3 7).2.1 (TX3 7).2.2.1 "OrphanTree" ∈ lw_tbl := pt_w1_4.2.2.2.2.2.2.2.2.2.2.1
theorem pw_f_q3_178 : Cond.fieldLinkNest "OrphanTree$SetupReader" 178 (TX3 8).1 (TX3 8).2.1 (TX3 8).2.2.1 "OrphanTree" ∈ lw_tbl := pt_w1_4.2.2.2.2.2.2.2.2.2.2.2.1
theorem pw_f_q1_111 : Cond.fieldLinkNest "OrphanTree$Tree" 111 (TX3 9).1 (TX3 9).2.1 (TX3 9).2.2.1 "OrphanTree" ∈ lw_tbl := pt_w1_4.2.2.2.2.2.2.2.2.2.2.2.2.1
theorem pw_f_q1_143 : Cond.fieldLinkNest "OrphanTree$Tree" 143 (TX3 6).1 (TX3 6).2.1 (TX3 6).2.2.1 "OrphanTree" ∈ lw_tbl := pt_w1_4.2.2.2.2.2.2.2.2.2.2.2.2.2.1
theorem pw_f_q1_149 : Cond.fieldLinkNest "OrphanTree$Tree" 149 (TX3 5).1 (TX3 5).2.1 (TX3 5).2.2.1 "OrphanTree" ∈ lw_tbl := pt_w1_4.2.2.2.2.2.2.2.2.2.2.2.2.2.2.1
theorem pw_f_q1_172 : Cond.fieldLinkNest "OrphanTree$Tree" 172 (TX3 7).1 (TX3 7).2.1 (TX3 7).2.2.1 "OrphanTree" ∈ lw_tbl := pt_w1_4.2.2.2.2.2.2.2.2.2.2.2.2.2.2.2
theorem pt_w1_5 : (Cond.fieldLink "OrphanTree$Proc" 40 (TX3 10).1 (TX3 10).2.1 (TX3 10).2.2.1) ∈ ev_UW ∧ (Cond.fieldLink "OrphanTree$Proc" 43 (TX3 11).1 (TX3 11).2.1 (TX3 11).2.2.1) ∈ ev_UW ∧ (Cond.fieldLink "OrphanTree$Proc" 46 (TX3 12).1 (TX3 12).2.1 (TX3 12).2.2.1) ∈ ev_UW ∧ (Cond.fieldLink "OrphanTree$Proc" 49 (TX3 13).1 (TX3 13).2.1 (TX3 13).2.2.1) ∈ ev_UW ∧ (Cond.fieldLink "OrphanTree$Proc" 53 (TX3 14).1 (TX3 14).2.1 (TX3 14).2.2.1) ∈ ev_UW ∧ (Cond.fieldLinkNest "OrphanTree" 168 (TX3 11).1 (TX3 11).2.1 (TX3 11).2.2.1 "OrphanTree") ∈ lw_tbl ∧ (Cond.fieldLinkNest "OrphanTree" 171 (TX3 12).1 (TX3 12).2.1 (TX3 12).2.2.1 "OrphanTree") ∈ lw_tbl ∧ (Cond.fieldLinkNest "OrphanTree" 293 (TX3 10).1 (TX3 10).2.1 (TX3 10).2.2.1 "OrphanTree") ∈ lw_tbl ∧ (Cond.fieldLinkNest "OrphanTree$Output" 64 (TX3 10).1 (TX3 10).2.1 (TX3 10).2.2.1 "OrphanTree") ∈ lw_tbl ∧ (Cond.fieldLinkNest "OrphanTree$Tree" 101 (TX3 10).1 (TX3 10).2.1 (TX3 10).2.2.1 "OrphanTree") ∈ lw_tbl ∧ (Cond.fieldLinkNest "OrphanTree$Tree" 139 (TX3 13).1 (TX3 13).2.1 (TX3 13).2.2.1 "OrphanTree") ∈ lw_tbl ∧ (Cond.fieldLinkNest "OrphanTree$Tree" 156 (TX3 12).1 (TX3 12).2.1 (TX3 12).2.2.1 "OrphanTree") ∈ lw_tbl ∧ (Cond.fieldLinkNest "OrphanTree$Tree" 175 (TX3 11).1 (TX3 11).2.1 (TX3 11).2.2.1 "OrphanTree") ∈ lw_tbl := by
  have e : (tables_1_1.drop 80).take 16 = [(Cond.fieldLink "OrphanTree$Proc" 40 (TX3 10).1 (TX3 10).2.1 (TX3 10).2.2.1), (Cond.fieldLinkNest "OrphanTree$Output" 64 (TX3 10).1 (TX3 10).2.1 (TX3 10).2.2.1 "OrphanTree"), (Cond.fieldLinkNest "OrphanTree$Tree" 101 (TX3 10).1 (TX3 10).2.1 (TX3 10).2.2.1 "OrphanTree"), (Cond.fieldLinkNest "OrphanTree" 293 (TX3 10).1 (TX3 10).2.1 (TX3 10).2.2.1 "OrphanTree"), (Cond.fieldLink "OrphanTree$Proc" 43 (TX3 11).1 (TX3 11).2.1 (TX3 11).2.2.1), (Cond.fieldLinkNest "OrphanTree" 168 (TX3 11).1 (TX3 11).2.1 (TX3 11).2.2.1 "OrphanTree"), (Cond.fieldLinkNest "OrphanTree$Tree" 175 (TX3 11).1 (TX3 11).2.1 (TX3 11).2.2.1 "OrphanTree"), (Cond.fieldLink "OrphanTree$Proc" 46 (TX3 12).1 (TX3 12).2.1 (TX3 12).2.2.1), (Cond.fieldLinkNest "OrphanTree" 171 (TX3 12).1 (TX3 12).2.1 (TX3 12).2.2.1 "OrphanTree"), (Cond.fieldLinkNest "OrphanTree$Tree" 156 (TX3 12).1 (TX3 12).2.1 (TX3 12).2.2.1 "OrphanTree"), (Cond.fieldLink "OrphanTree$Proc" 49 (TX3 13).1 (TX3 13).2.1 (TX3 13).2.2.1), (Cond.fieldLinkNest "OrphanTree$Tree" 139 (TX3 13).1 (TX3 13).2.1 (TX3 13).2.2.1 "OrphanTree"), (Cond.fieldLink "OrphanTree$Proc" 53 (TX3 14).1 (TX3 14).2.1 (TX3 14).2.2.1), _, _, _] := rfl
  exact ⟨uw_s tk_1 80 e 0 rfl rfl, uw_s tk_1 80 e 4 rfl rfl, uw_s tk_1 80 e 7 rfl rfl, uw_s tk_1 80 e 10 rfl rfl, uw_s tk_1 80 e 12 rfl rfl, tw_s tk_1 80 e 5 rfl, tw_s tk_1 80 e 8 rfl, tw_s tk_1 80 e 3 rfl, tw_s tk_1 80 e 1 rfl, tw_s tk_1 80 e 2 rfl, tw_s tk_1 80 e 11 rfl, tw_s tk_1 80 e 9 rfl, tw_s tk_1 80 e 6 rfl⟩
theorem pw_f_q8_40 : Cond.fieldLink "OrphanTree$Proc" 40 (TX3 10).1 (TX3 10).2.1 (TX3 10).2.2.1 ∈ ev_UW := pt_w1_5.1
theorem pw_f_q8_43 : Cond.fieldLink "OrphanTree$Proc" 43 (TX3 11).1 (TX3 11).2.1 (TX3 11).2.2.1 ∈ ev_UW := pt_w1_5.2.1
theorem pw_f_q8_46 : Cond.fieldLink "OrphanTree$Proc" 46 (TX3 12).1 (TX3 12).2.1 (TX3 12).2.2.1 ∈ ev_UW := pt_w1_5.2.2.1
theorem pw_f_q8_49 : Cond.fieldLink "OrphanTree$Proc" 49 (TX3 13).1 (TX3 13).2.1 (TX3 13).2.2.1 ∈ ev_UW := pt_w1_5.2.2.2.1
theorem pw_f_q8_53 : Cond.fieldLink "OrphanTree$Proc" 53 (TX3 14).1 (TX3 14).2.1 (TX3 14).2.2.1 ∈ ev_UW := pt_w1_5.2.2.2.2.1
theorem pw_f_q0_168 : Cond.fieldLinkNest "OrphanTree" 168 (TX3 11).1 (TX3 11).2.1 (TX3 11).2.2.1 "OrphanTree" ∈ lw_tbl := pt_w1_5.2.2.2.2.2.1
theorem pw_f_q0_171 : Cond.fieldLinkNest "OrphanTree" 171 (TX3 12).1 (TX3 12).2.1 (TX3 12).2.2.1 "OrphanTree" ∈ lw_tbl := pt_w1_5.2.2.2.2.2.2.1
theorem pw_f_q0_293 : Cond.fieldLinkNest "OrphanTree" 293 (TX3 10).1 (TX3 10).2.1 (TX3 10).2.2.1 "OrphanTree" ∈ lw_tbl := pt_w1_5.2.2.2.2.2.2.2.1
theorem pw_f_q4_64 : Cond.fieldLinkNest "OrphanTree$Output" 64 (TX3 10).1 (TX3 10).2.1 (TX3 10).2.2.1 "OrphanTree" ∈ lw_tbl := pt_w1_5.2.2.2.2.2.2.2.2.1
theorem pw_f_q1_101 : Cond.fieldLinkNest "OrphanTree$Tree" 101 (TX3 10).1 (TX3 10).2.1 (TX3 10).2.2.1 "OrphanTree" ∈ lw_tbl := pt_w1_5.2.2.2.2.2.2.2.2.2.1
theorem pw_f_q1_139 : Cond.fieldLinkNest "OrphanTree$Tree" 139 (TX3 13).1 (TX3 13).2.1 (TX3 13).2.2.1 "OrphanTree" ∈ lw_tbl := pt_w1_5.2.2.2.2.2.2.2.2.2.2.1
theorem pw_f_q1_156 : Cond.fieldLinkNest "OrphanTree$Tree" 156 (TX3 12).1 (TX3 12).2.1 (TX3 12).2.2.1 "OrphanTree" ∈ lw_tbl := pt_w1_5.2.2.2.2.2.2.2.2.2.2.2.1
theorem pw_f_q1_175 : Cond.fieldLinkNest "OrphanTree$Tree" 175 (TX3 11).1 (TX3 11).2.1 (TX3 11).2.2.1 "OrphanTree" ∈ lw_tbl := pt_w1_5.2.2.2.2.2.2.2.2.2.2.2.2
theorem pt_w2_0 : (Cond.fieldLink "OrphanTree$SetupReader" 48 (TX4 9).1 (TX4 9).2.1 (TX4 9).2.2.1) ∈ ev_UW ∧ (Cond.fieldLink "OrphanTree$SetupReader" 51 (TX4 10).1 (TX4 10).2.1 (TX4 10).2.2.1) ∈ ev_UW := by
  have e : (tables_1_2.drop 0).take 16 = [(Cond.fieldLink "OrphanTree$SetupReader" 48 (TX4 9).1 (TX4 9).2.1 (TX4 9).2.2.1), (Cond.fieldLink "OrphanTree$SetupReader" 51 (TX4 10).1 (TX4 10).2.1 (TX4 10).2.2.1), _, _, _, _, _, _, _, _, _, _, _, _, _, _] := rfl
  exact ⟨uw_s tk_2 0 e 0 rfl rfl, uw_s tk_2 0 e 1 rfl rfl⟩
theorem pw_f_q3_48 : Cond.fieldLink "OrphanTree$SetupReader" 48 (TX4 9).1 (TX4 9).2.1 (TX4 9).2.2.1 ∈ ev_UW := pt_w2_0.1
theorem pw_f_q3_51 : Cond.fieldLink "OrphanTree$SetupReader" 51 (TX4 10).1 (TX4 10).2.1 (TX4 10).2.2.1 ∈ ev_UW := pt_w2_0.2
theorem pt_w1_8 : (ev_cw pr_i270 5) ∈ ev_UW ∧ (ev_cw pr_i272 2) ∈ ev_UW ∧ (Cond.instanceMethod pr_i272.1) ∈ ev_UW ∧ (Cond.selects pr_i272.1.cls pr_i272.1 pr_i272.1) ∈ ev_UW ∧ (Cond.fieldLink "OrphanTree$Tree" 14 (TX5 0).1 (TX5 0).2.1 (TX5 0).2.2.1) ∈ ev_UW ∧ (Cond.fieldLink "OrphanTree$Tree" 20 (TX5 1).1 (TX5 1).2.1 (TX5 1).2.2.1) ∈ ev_UW ∧ (Cond.fieldLink "OrphanTree$Tree" 24 (TX5 2).1 (TX5 2).2.1 (TX5 2).2.2.1) ∈ ev_UW ∧ (Cond.methodLink "OrphanTree$Tree" 53 pr_i233.1) ∈ ev_UW ∧ (ev_cw pr_i233 5) ∈ ev_UW ∧ (Cond.instanceMethod pr_i233.1) ∈ ev_UW ∧ (Cond.selects pr_i233.1.cls pr_i233.1 pr_i233.1) ∈ ev_UW ∧ (Cond.methodLink "OrphanTree$Tree" 57 pr_i272.1) ∈ ev_UW ∧ (Cond.fieldLinkNest "OrphanTree" 102 (TX5 0).1 (TX5 0).2.1 (TX5 0).2.2.1 "OrphanTree") ∈ lw_tbl ∧ (Cond.fieldLinkNest "OrphanTree" 221 (TX5 1).1 (TX5 1).2.1 (TX5 1).2.2.1 "OrphanTree") ∈ lw_tbl ∧ (Cond.fieldLinkNest "OrphanTree$Output" 40 (TX5 1).1 (TX5 1).2.1 (TX5 1).2.2.1 "OrphanTree") ∈ lw_tbl ∧ (Cond.fieldLinkNest "OrphanTree$SetupReader" 142 (TX5 0).1 (TX5 0).2.1 (TX5 0).2.2.1 "OrphanTree") ∈ lw_tbl := by
  have e : (tables_1_1.drop 128).take 16 = [(ev_cw pr_i270 5), (Cond.methodLink "OrphanTree$Tree" 53 pr_i233.1), (Cond.instanceMethod pr_i233.1), (Cond.selects pr_i233.1.cls pr_i233.1 pr_i233.1), (ev_cw pr_i233 5), (Cond.methodLink "OrphanTree$Tree" 57 pr_i272.1), (Cond.instanceMethod pr_i272.1), (Cond.selects pr_i272.1.cls pr_i272.1 pr_i272.1), (ev_cw pr_i272 2), (Cond.fieldLink "OrphanTree$Tree" 14 (TX5 0).1 (TX5 0).2.1 (TX5 0).2.2.1), (Cond.fieldLinkNest "OrphanTree$SetupReader" 142 (TX5 0).1 (TX5 0).2.1 (TX5 0).2.2.1 "OrphanTree"), (Cond.fieldLinkNest "OrphanTree" 102 (TX5 0).1 (TX5 0).2.1 (TX5 0).2.2.1 "OrphanTree"), (Cond.fieldLink "OrphanTree$Tree" 20 (TX5 1).1 (TX5 1).2.1 (TX5 1).2.2.1), (Cond.fieldLinkNest "OrphanTree$Output" 40 (TX5 1).1 (TX5 1).2.1 (TX5 1).2.2.1 "OrphanTree"), (Cond.fieldLinkNest "OrphanTree" 221 (TX5 1).1 (TX5 1).2.1 (TX5 1).2.2.1 "OrphanTree"), (Cond.fieldLink "OrphanTree$Tree" 24 (TX5 2).1 (TX5 2).2.1 (TX5 2).2.2.1)] := rfl
  exact ⟨uw_s tk_1 128 e 0 rfl rfl, uw_s tk_1 128 e 8 rfl rfl, uw_s tk_1 128 e 6 rfl rfl, uw_s tk_1 128 e 7 rfl rfl, uw_s tk_1 128 e 9 rfl rfl, uw_s tk_1 128 e 12 rfl rfl, uw_s tk_1 128 e 15 rfl rfl, uw_s tk_1 128 e 1 rfl rfl, uw_s tk_1 128 e 4 rfl rfl, uw_s tk_1 128 e 2 rfl rfl, uw_s tk_1 128 e 3 rfl rfl, uw_s tk_1 128 e 5 rfl rfl, tw_s tk_1 128 e 11 rfl, tw_s tk_1 128 e 14 rfl, tw_s tk_1 128 e 13 rfl, tw_s tk_1 128 e 10 rfl⟩
theorem pw_c_270 : ev_cw (pr_I 270) (pr_P 270).1 ∈ ev_UW := wk_c qI_270 pp_270 pt_w1_8.1
theorem pw_c_272 : ev_cw (pr_I 272) (pr_P 272).1 ∈ ev_UW := wk_c qI_272 pp_272 pt_w1_8.2.1
theorem pw_v_272 : Cond.instanceMethod (pr_I 272).1 ∈ ev_UW := wk_v qI_272 pt_w1_8.2.2.1
theorem pw_s_272 : Cond.selects (pr_I 272).1.cls (pr_I 272).1 (pr_I 272).1 ∈ ev_UW := wk_s qI_272 pt_w1_8.2.2.2.1
theorem pw_f_q1_14 : Cond.fieldLink "OrphanTree$Tree" 14 (TX5 0).1 (TX5 0).2.1 (TX5 0).2.2.1 ∈ ev_UW := pt_w1_8.2.2.2.2.1
theorem pw_f_q1_20 : Cond.fieldLink "OrphanTree$Tree" 20 (TX5 1).1 (TX5 1).2.1 (TX5 1).2.2.1 ∈ ev_UW := pt_w1_8.2.2.2.2.2.1
theorem pw_f_q1_24 : Cond.fieldLink "OrphanTree$Tree" 24 (TX5 2).1 (TX5 2).2.1 (TX5 2).2.2.1 ∈ ev_UW := pt_w1_8.2.2.2.2.2.2.1
theorem pw_m_q1_53 : Cond.methodLink "OrphanTree$Tree" 53 (pr_I 233).1 ∈ ev_UW := wk_m qI_233 pt_w1_8.2.2.2.2.2.2.2.1
theorem pw_c_233 : ev_cw (pr_I 233) (pr_P 233).1 ∈ ev_UW := wk_c qI_233 pp_233 pt_w1_8.2.2.2.2.2.2.2.2.1
theorem pw_v_233 : Cond.instanceMethod (pr_I 233).1 ∈ ev_UW := wk_v qI_233 pt_w1_8.2.2.2.2.2.2.2.2.2.1
theorem pw_s_233 : Cond.selects (pr_I 233).1.cls (pr_I 233).1 (pr_I 233).1 ∈ ev_UW := wk_s qI_233 pt_w1_8.2.2.2.2.2.2.2.2.2.2.1
theorem pw_m_q1_57 : Cond.methodLink "OrphanTree$Tree" 57 (pr_I 272).1 ∈ ev_UW := wk_m qI_272 pt_w1_8.2.2.2.2.2.2.2.2.2.2.2.1
theorem pw_f_q0_102 : Cond.fieldLinkNest "OrphanTree" 102 (TX5 0).1 (TX5 0).2.1 (TX5 0).2.2.1 "OrphanTree" ∈ lw_tbl := pt_w1_8.2.2.2.2.2.2.2.2.2.2.2.2.1
theorem pw_f_q0_221 : Cond.fieldLinkNest "OrphanTree" 221 (TX5 1).1 (TX5 1).2.1 (TX5 1).2.2.1 "OrphanTree" ∈ lw_tbl := pt_w1_8.2.2.2.2.2.2.2.2.2.2.2.2.2.1
theorem pw_f_q4_40 : Cond.fieldLinkNest "OrphanTree$Output" 40 (TX5 1).1 (TX5 1).2.1 (TX5 1).2.2.1 "OrphanTree" ∈ lw_tbl := pt_w1_8.2.2.2.2.2.2.2.2.2.2.2.2.2.2.1
theorem pw_f_q3_142 : Cond.fieldLinkNest "OrphanTree$SetupReader" 142 (TX5 0).1 (TX5 0).2.1 (TX5 0).2.2.1 "OrphanTree" ∈ lw_tbl := pt_w1_8.2.2.2.2.2.2.2.2.2.2.2.2.2.2.2
theorem pt_w1_7 : (Cond.instanceMethod pr_i270.1) ∈ ev_UW ∧ (Cond.selects pr_i270.1.cls pr_i270.1 pr_i270.1) ∈ ev_UW ∧ (Cond.methodLink "OrphanTree$Tree" 50 pr_i270.1) ∈ ev_UW ∧ (Cond.arrayOver (.object "OrphanTree$Proc")) ∈ lw_tbl := by
  have e : (tables_1_1.drop 112).take 16 = [_, _, _, _, _, _, _, _, _, _, _, _, (Cond.arrayOver (.object "OrphanTree$Proc")), (Cond.methodLink "OrphanTree$Tree" 50 pr_i270.1), (Cond.instanceMethod pr_i270.1), (Cond.selects pr_i270.1.cls pr_i270.1 pr_i270.1)] := rfl
  exact ⟨uw_s tk_1 112 e 14 rfl rfl, uw_s tk_1 112 e 15 rfl rfl, uw_s tk_1 112 e 13 rfl rfl, tw_s tk_1 112 e 12 rfl⟩
theorem pw_v_270 : Cond.instanceMethod (pr_I 270).1 ∈ ev_UW := wk_v qI_270 pt_w1_7.1
theorem pw_s_270 : Cond.selects (pr_I 270).1.cls (pr_I 270).1 (pr_I 270).1 ∈ ev_UW := wk_s qI_270 pt_w1_7.2.1
theorem pw_m_q1_50 : Cond.methodLink "OrphanTree$Tree" 50 (pr_I 270).1 ∈ ev_UW := wk_m qI_270 pt_w1_7.2.2.1
theorem pw_o_q8 : Cond.arrayOver (.object "OrphanTree$Proc") ∈ lw_tbl := pt_w1_7.2.2.2
theorem pw_s_265 : Cond.selects (pr_I 265).1.cls (pr_I 265).1 (pr_I 265).1 ∈ ev_UW := uw_m tk_0 0 rfl rfl
theorem pw_s_268 : Cond.selects (pr_I 268).1.cls (pr_I 268).1 (pr_I 268).1 ∈ ev_UW := uw_m tk_0 1 rfl rfl
theorem pw_s_252 : Cond.selects (pr_I 252).1.cls (pr_I 252).1 (pr_I 252).1 ∈ ev_UW := uw_m tk_0 2 rfl rfl
theorem pw_s_254 : Cond.selects (pr_I 254).1.cls (pr_I 254).1 (pr_I 254).1 ∈ ev_UW := uw_m tk_0 5 rfl rfl
theorem pw_s_255 : Cond.selects (pr_I 255).1.cls (pr_I 255).1 (pr_I 255).1 ∈ ev_UW := uw_m tk_0 8 rfl rfl
theorem pw_s_256 : Cond.selects (pr_I 256).1.cls (pr_I 256).1 (pr_I 256).1 ∈ ev_UW := uw_m tk_0 9 rfl rfl
theorem pw_s_257 : Cond.selects (pr_I 257).1.cls (pr_I 257).1 (pr_I 257).1 ∈ ev_UW := uw_m tk_0 11 rfl rfl
theorem pw_s_258 : Cond.selects (pr_I 258).1.cls (pr_I 258).1 (pr_I 258).1 ∈ ev_UW := uw_m tk_0 12 rfl rfl
theorem pw_s_259 : Cond.selects (pr_I 259).1.cls (pr_I 259).1 (pr_I 259).1 ∈ ev_UW := uw_m tk_0 13 rfl rfl
theorem pw_s_260 : Cond.selects (pr_I 260).1.cls (pr_I 260).1 (pr_I 260).1 ∈ ev_UW := uw_m tk_0 14 rfl rfl
theorem pw_s_264 : Cond.selects (pr_I 264).1.cls (pr_I 264).1 (pr_I 264).1 ∈ ev_UW := uw_m tk_0 3 rfl rfl
theorem pw_s_253 : Cond.selects (pr_I 253).1.cls (pr_I 253).1 (pr_I 253).1 ∈ ev_UW := uw_m tk_0 4 rfl rfl
theorem pw_s_262 : Cond.selects (pr_I 262).1.cls (pr_I 262).1 (pr_I 262).1 ∈ ev_UW := uw_m tk_0 6 rfl rfl
theorem pw_s_263 : Cond.selects (pr_I 263).1.cls (pr_I 263).1 (pr_I 263).1 ∈ ev_UW := uw_m tk_0 7 rfl rfl
theorem pw_s_261 : Cond.selects (pr_I 261).1.cls (pr_I 261).1 (pr_I 261).1 ∈ ev_UW := uw_m tk_0 10 rfl rfl
theorem pt_w2_6 : (Cond.methodLink "OrphanTree$SetupReader" 62 pr_i268.1) ∈ ev_UW ∧ (ev_cw pr_i268 4) ∈ ev_UW ∧ (Cond.instanceMethod pr_i268.1) ∈ ev_UW ∧ (Cond.static pr_i266.1) ∈ ev_UW ∧ (ev_cw pr_i266 1) ∈ ev_UW ∧ (Cond.methodLink "OrphanTree$SetupReader" 200 pr_i267.1) ∈ ev_UW ∧ (Cond.static pr_i267.1) ∈ ev_UW ∧ (ev_cw pr_i267 1) ∈ ev_UW ∧ (Cond.methodLink "OrphanTree$SetupReader" 203 js_ln) ∈ ev_UW := by
  have e : (tables_1_2.drop 96).take 16 = [(Cond.static pr_i266.1), (ev_cw pr_i266 1), (Cond.methodLink "OrphanTree$SetupReader" 200 pr_i267.1), (Cond.static pr_i267.1), (ev_cw pr_i267 1), _, (Cond.methodLink "OrphanTree$SetupReader" 62 pr_i268.1), _, (Cond.instanceMethod pr_i268.1), (ev_cw pr_i268 4), (Cond.methodLink "OrphanTree$SetupReader" 203 js_ln), _, _, _, _, _] := rfl
  exact ⟨uw_s tk_2 96 e 6 rfl rfl, uw_s tk_2 96 e 9 rfl rfl, uw_s tk_2 96 e 8 rfl rfl, uw_s tk_2 96 e 0 rfl rfl, uw_s tk_2 96 e 1 rfl rfl, uw_s tk_2 96 e 2 rfl rfl, uw_s tk_2 96 e 3 rfl rfl, uw_s tk_2 96 e 4 rfl rfl, uw_s tk_2 96 e 10 rfl rfl⟩
theorem pw_m_q3_62 : Cond.methodLink "OrphanTree$SetupReader" 62 (pr_I 268).1 ∈ ev_UW := wk_m qI_268 pt_w2_6.1
theorem pw_c_268 : ev_cw (pr_I 268) (pr_P 268).1 ∈ ev_UW := wk_c qI_268 pp_268 pt_w2_6.2.1
theorem pw_v_268 : Cond.instanceMethod (pr_I 268).1 ∈ ev_UW := wk_v qI_268 pt_w2_6.2.2.1
theorem pw_t_266 : Cond.static (pr_I 266).1 ∈ ev_UW := wk_t qI_266 pt_w2_6.2.2.2.1
theorem pw_c_266 : ev_cw (pr_I 266) (pr_P 266).1 ∈ ev_UW := wk_c qI_266 pp_266 pt_w2_6.2.2.2.2.1
theorem pw_m_q3_200 : Cond.methodLink "OrphanTree$SetupReader" 200 (pr_I 267).1 ∈ ev_UW := wk_m qI_267 pt_w2_6.2.2.2.2.2.1
theorem pw_t_267 : Cond.static (pr_I 267).1 ∈ ev_UW := wk_t qI_267 pt_w2_6.2.2.2.2.2.2.1
theorem pw_c_267 : ev_cw (pr_I 267) (pr_P 267).1 ∈ ev_UW := wk_c qI_267 pp_267 pt_w2_6.2.2.2.2.2.2.2.1
theorem pw_m_q3_203 : Cond.methodLink "OrphanTree$SetupReader" 203 js_ln ∈ ev_UW := pt_w2_6.2.2.2.2.2.2.2.2
theorem pt_w2_9 : (Cond.methodLink "OrphanTree$SetupReader" 66 pr_i252.1) ∈ ev_UW ∧ (ev_cw pr_i252 3) ∈ ev_UW ∧ (Cond.instanceMethod pr_i252.1) ∈ ev_UW ∧ (Cond.methodLink "OrphanTree$SetupReader" 105 pr_i264.1) ∈ ev_UW := by
  have e : (tables_1_2.drop 144).take 16 = [_, _, _, _, _, _, _, _, _, _, (Cond.methodLink "OrphanTree$SetupReader" 66 pr_i252.1), _, (Cond.instanceMethod pr_i252.1), (ev_cw pr_i252 3), (Cond.methodLink "OrphanTree$SetupReader" 105 pr_i264.1), _] := rfl
  exact ⟨uw_s tk_2 144 e 10 rfl rfl, uw_s tk_2 144 e 13 rfl rfl, uw_s tk_2 144 e 12 rfl rfl, uw_s tk_2 144 e 14 rfl rfl⟩
theorem pw_m_q3_66 : Cond.methodLink "OrphanTree$SetupReader" 66 (pr_I 252).1 ∈ ev_UW := wk_m qI_252 pt_w2_9.1
theorem pw_c_252 : ev_cw (pr_I 252) (pr_P 252).1 ∈ ev_UW := wk_c qI_252 pp_252 pt_w2_9.2.1
theorem pw_v_252 : Cond.instanceMethod (pr_I 252).1 ∈ ev_UW := wk_v qI_252 pt_w2_9.2.2.1
theorem pw_m_q3_105 : Cond.methodLink "OrphanTree$SetupReader" 105 (pr_I 264).1 ∈ ev_UW := wk_m qI_264 pt_w2_9.2.2.2
theorem pt_w2_11 : (Cond.methodLink "OrphanTree$SetupReader" 72 pr_i254.1) ∈ ev_UW ∧ (ev_cw pr_i254 1) ∈ ev_UW ∧ (Cond.instanceMethod pr_i254.1) ∈ ev_UW ∧ (Cond.methodLink "OrphanTree$SetupReader" 77 pr_i255.1) ∈ ev_UW ∧ (Cond.methodLink "OrphanTree$SetupReader" 133 pr_i262.1) ∈ ev_UW ∧ (ev_cw pr_i262 3) ∈ ev_UW ∧ (Cond.instanceMethod pr_i262.1) ∈ ev_UW ∧ (Cond.methodLink "OrphanTree$SetupReader" 139 pr_i263.1) ∈ ev_UW ∧ (ev_cw pr_i263 1) ∈ ev_UW ∧ (Cond.instanceMethod pr_i263.1) ∈ ev_UW := by
  have e : (tables_1_2.drop 176).take 16 = [_, (Cond.methodLink "OrphanTree$SetupReader" 72 pr_i254.1), _, (Cond.instanceMethod pr_i254.1), (ev_cw pr_i254 1), (Cond.methodLink "OrphanTree$SetupReader" 133 pr_i262.1), _, (Cond.instanceMethod pr_i262.1), (ev_cw pr_i262 3), (Cond.methodLink "OrphanTree$SetupReader" 139 pr_i263.1), _, (Cond.instanceMethod pr_i263.1), (ev_cw pr_i263 1), _, (Cond.methodLink "OrphanTree$SetupReader" 77 pr_i255.1), _] := rfl
  exact ⟨uw_s tk_2 176 e 1 rfl rfl, uw_s tk_2 176 e 4 rfl rfl, uw_s tk_2 176 e 3 rfl rfl, uw_s tk_2 176 e 14 rfl rfl, uw_s tk_2 176 e 5 rfl rfl, uw_s tk_2 176 e 8 rfl rfl, uw_s tk_2 176 e 7 rfl rfl, uw_s tk_2 176 e 9 rfl rfl, uw_s tk_2 176 e 12 rfl rfl, uw_s tk_2 176 e 11 rfl rfl⟩
theorem pw_m_q3_72 : Cond.methodLink "OrphanTree$SetupReader" 72 (pr_I 254).1 ∈ ev_UW := wk_m qI_254 pt_w2_11.1
theorem pw_c_254 : ev_cw (pr_I 254) (pr_P 254).1 ∈ ev_UW := wk_c qI_254 pp_254 pt_w2_11.2.1
theorem pw_v_254 : Cond.instanceMethod (pr_I 254).1 ∈ ev_UW := wk_v qI_254 pt_w2_11.2.2.1
theorem pw_m_q3_77 : Cond.methodLink "OrphanTree$SetupReader" 77 (pr_I 255).1 ∈ ev_UW := wk_m qI_255 pt_w2_11.2.2.2.1
theorem pw_m_q3_133 : Cond.methodLink "OrphanTree$SetupReader" 133 (pr_I 262).1 ∈ ev_UW := wk_m qI_262 pt_w2_11.2.2.2.2.1
theorem pw_c_262 : ev_cw (pr_I 262) (pr_P 262).1 ∈ ev_UW := wk_c qI_262 pp_262 pt_w2_11.2.2.2.2.2.1
theorem pw_v_262 : Cond.instanceMethod (pr_I 262).1 ∈ ev_UW := wk_v qI_262 pt_w2_11.2.2.2.2.2.2.1
theorem pw_m_q3_139 : Cond.methodLink "OrphanTree$SetupReader" 139 (pr_I 263).1 ∈ ev_UW := wk_m qI_263 pt_w2_11.2.2.2.2.2.2.2.1
theorem pw_c_263 : ev_cw (pr_I 263) (pr_P 263).1 ∈ ev_UW := wk_c qI_263 pp_263 pt_w2_11.2.2.2.2.2.2.2.2.1
theorem pw_v_263 : Cond.instanceMethod (pr_I 263).1 ∈ ev_UW := wk_v qI_263 pt_w2_11.2.2.2.2.2.2.2.2.2
theorem pt_w2_10 : (ev_cw pr_i264 2) ∈ ev_UW ∧ (Cond.instanceMethod pr_i264.1) ∈ ev_UW ∧ (Cond.methodLink "OrphanTree$SetupReader" 109 pr_i272.1) ∈ ev_UW ∧ (Cond.methodLink "OrphanTree$SetupReader" 112 pr_i253.1) ∈ ev_UW ∧ (ev_cw pr_i253 1) ∈ ev_UW ∧ (Cond.instanceMethod pr_i253.1) ∈ ev_UW ∧ (Cond.methodLink "OrphanTree$SetupReader" 116 pr_i271.1) ∈ ev_UW ∧ (ev_cw pr_i271 6) ∈ ev_UW ∧ (Cond.instanceMethod pr_i271.1) ∈ ev_UW ∧ (Cond.selects pr_i271.1.cls pr_i271.1 pr_i271.1) ∈ ev_UW := by
  have e : (tables_1_2.drop 160).take 16 = [(Cond.instanceMethod pr_i264.1), (ev_cw pr_i264 2), (Cond.methodLink "OrphanTree$SetupReader" 109 pr_i272.1), (Cond.methodLink "OrphanTree$SetupReader" 112 pr_i253.1), _, (Cond.instanceMethod pr_i253.1), (ev_cw pr_i253 1), _, _, _, _, _, (Cond.methodLink "OrphanTree$SetupReader" 116 pr_i271.1), (Cond.instanceMethod pr_i271.1), (Cond.selects pr_i271.1.cls pr_i271.1 pr_i271.1), (ev_cw pr_i271 6)] := rfl
  exact ⟨uw_s tk_2 160 e 1 rfl rfl, uw_s tk_2 160 e 0 rfl rfl, uw_s tk_2 160 e 2 rfl rfl, uw_s tk_2 160 e 3 rfl rfl, uw_s tk_2 160 e 6 rfl rfl, uw_s tk_2 160 e 5 rfl rfl, uw_s tk_2 160 e 12 rfl rfl, uw_s tk_2 160 e 15 rfl rfl, uw_s tk_2 160 e 13 rfl rfl, uw_s tk_2 160 e 14 rfl rfl⟩
theorem pw_c_264 : ev_cw (pr_I 264) (pr_P 264).1 ∈ ev_UW := wk_c qI_264 pp_264 pt_w2_10.1
theorem pw_v_264 : Cond.instanceMethod (pr_I 264).1 ∈ ev_UW := wk_v qI_264 pt_w2_10.2.1
theorem pw_m_q3_109 : Cond.methodLink "OrphanTree$SetupReader" 109 (pr_I 272).1 ∈ ev_UW := wk_m qI_272 pt_w2_10.2.2.1
theorem pw_m_q3_112 : Cond.methodLink "OrphanTree$SetupReader" 112 (pr_I 253).1 ∈ ev_UW := wk_m qI_253 pt_w2_10.2.2.2.1
theorem pw_c_253 : ev_cw (pr_I 253) (pr_P 253).1 ∈ ev_UW := wk_c qI_253 pp_253 pt_w2_10.2.2.2.2.1
theorem pw_v_253 : Cond.instanceMethod (pr_I 253).1 ∈ ev_UW := wk_v qI_253 pt_w2_10.2.2.2.2.2.1
theorem pw_m_q3_116 : Cond.methodLink "OrphanTree$SetupReader" 116 (pr_I 271).1 ∈ ev_UW := wk_m qI_271 pt_w2_10.2.2.2.2.2.2.1
theorem pw_c_271 : ev_cw (pr_I 271) (pr_P 271).1 ∈ ev_UW := wk_c qI_271 pp_271 pt_w2_10.2.2.2.2.2.2.2.1
theorem pw_v_271 : Cond.instanceMethod (pr_I 271).1 ∈ ev_UW := wk_v qI_271 pt_w2_10.2.2.2.2.2.2.2.2.1
theorem pw_s_271 : Cond.selects (pr_I 271).1.cls (pr_I 271).1 (pr_I 271).1 ∈ ev_UW := wk_s qI_271 pt_w2_10.2.2.2.2.2.2.2.2.2
theorem pt_w2_7 : (Cond.methodLink "OrphanTree$SetupReader" 207 js_ch) ∈ ev_UW := by
  have e : (tables_1_2.drop 112).take 16 = [_, _, _, _, (Cond.methodLink "OrphanTree$SetupReader" 207 js_ch), _, _, _, _, _, _, _, _, _, _, _] := rfl
  exact uw_s tk_2 112 e 4 rfl rfl
theorem pw_m_q3_207 : Cond.methodLink "OrphanTree$SetupReader" 207 js_ch ∈ ev_UW := pt_w2_7
theorem pt_w1_9 : (Cond.fieldLink "OrphanTree$Tree" 28 (TX5 3).1 (TX5 3).2.1 (TX5 3).2.2.1) ∈ ev_UW ∧ (Cond.fieldLink "OrphanTree$Tree" 31 (TX5 4).1 (TX5 4).2.1 (TX5 4).2.2.1) ∈ ev_UW ∧ (Cond.fieldLink "OrphanTree$Tree" 35 (TX5 5).1 (TX5 5).2.1 (TX5 5).2.2.1) ∈ ev_UW ∧ (Cond.fieldLink "OrphanTree$Tree" 38 (TX5 6).1 (TX5 6).2.1 (TX5 6).2.2.1) ∈ ev_UW ∧ (Cond.fieldLink "OrphanTree$Tree" 41 (TX5 7).1 (TX5 7).2.1 (TX5 7).2.2.1) ∈ ev_UW ∧ (Cond.fieldLink "OrphanTree$Tree" 44 (TX5 8).1 (TX5 8).2.1 (TX5 8).2.2.1) ∈ ev_UW ∧ (Cond.fieldLink "OrphanTree$Tree" 47 (TX5 9).1 (TX5 9).2.1 (TX5 9).2.2.1) ∈ ev_UW ∧ (Cond.fieldLinkNest "OrphanTree" 80 (TX5 5).1 (TX5 5).2.1 (TX5 5).2.2.1 "OrphanTree") ∈ lw_tbl ∧ (Cond.fieldLinkNest "OrphanTree" 90 (TX5 6).1 (TX5 6).2.1 (TX5 6).2.2.1 "OrphanTree") ∈ lw_tbl ∧ (Cond.fieldLinkNest "OrphanTree" 93 (TX5 7).1 (TX5 7).2.1 (TX5 7).2.2.1 "OrphanTree") ∈ lw_tbl ∧ (Cond.fieldLinkNest "OrphanTree" 96 (TX5 8).1 (TX5 8).2.1 (TX5 8).2.2.1 "OrphanTree") ∈ lw_tbl ∧ (Cond.fieldLinkNest "OrphanTree" 115 (TX5 4).1 (TX5 4).2.1 (TX5 4).2.2.1 "OrphanTree") ∈ lw_tbl ∧ (Cond.fieldLinkNest "OrphanTree" 189 (TX5 3).1 (TX5 3).2.1 (TX5 3).2.2.1 "OrphanTree") ∈ lw_tbl ∧ (Cond.fieldLinkNest "OrphanTree$SetupReader" 119 (TX5 3).1 (TX5 3).2.1 (TX5 3).2.2.1 "OrphanTree") ∈ lw_tbl ∧ (Cond.fieldLinkNest "OrphanTree$SetupReader" 137 (TX5 4).1 (TX5 4).2.1 (TX5 4).2.2.1 "OrphanTree") ∈ lw_tbl ∧ (Cond.fieldLinkNest "OrphanTree$SetupReader" 153 (TX5 5).1 (TX5 5).2.1 (TX5 5).2.2.1 "OrphanTree") ∈ lw_tbl := by
  have e : (tables_1_1.drop 144).take 16 = [(Cond.fieldLink "OrphanTree$Tree" 28 (TX5 3).1 (TX5 3).2.1 (TX5 3).2.2.1), (Cond.fieldLinkNest "OrphanTree$SetupReader" 119 (TX5 3).1 (TX5 3).2.1 (TX5 3).2.2.1 "OrphanTree"), (Cond.fieldLinkNest "OrphanTree" 189 (TX5 3).1 (TX5 3).2.1 (TX5 3).2.2.1 "OrphanTree"), (Cond.fieldLink "OrphanTree$Tree" 31 (TX5 4).1 (TX5 4).2.1 (TX5 4).2.2.1), (Cond.fieldLinkNest "OrphanTree$SetupReader" 137 (TX5 4).1 (TX5 4).2.1 (TX5 4).2.2.1 "OrphanTree"), (Cond.fieldLinkNest "OrphanTree" 115 (TX5 4).1 (TX5 4).2.1 (TX5 4).2.2.1 "OrphanTree"), (Cond.fieldLink "OrphanTree$Tree" 35 (TX5 5).1 (TX5 5).2.1 (TX5 5).2.2.1), (Cond.fieldLinkNest "OrphanTree" 80 (TX5 5).1 (TX5 5).2.1 (TX5 5).2.2.1 "OrphanTree"), (Cond.fieldLinkNest "OrphanTree$SetupReader" 153 (TX5 5).1 (TX5 5).2.1 (TX5 5).2.2.1 "OrphanTree"), (Cond.fieldLink "OrphanTree$Tree" 38 (TX5 6).1 (TX5 6).2.1 (TX5 6).2.2.1), (Cond.fieldLinkNest "OrphanTree" 90 (TX5 6).1 (TX5 6).2.1 (TX5 6).2.2.1 "OrphanTree"), (Cond.fieldLink "OrphanTree$Tree" 41 (TX5 7).1 (TX5 7).2.1 (TX5 7).2.2.1), (Cond.fieldLinkNest "OrphanTree" 93 (TX5 7).1 (TX5 7).2.1 (TX5 7).2.2.1 "OrphanTree"), (Cond.fieldLink "OrphanTree$Tree" 44 (TX5 8).1 (TX5 8).2.1 (TX5 8).2.2.1), (Cond.fieldLinkNest "OrphanTree" 96 (TX5 8).1 (TX5 8).2.1 (TX5 8).2.2.1 "OrphanTree"), (Cond.fieldLink "OrphanTree$Tree" 47 (TX5 9).1 (TX5 9).2.1 (TX5 9).2.2.1)] := rfl
  exact ⟨uw_s tk_1 144 e 0 rfl rfl, uw_s tk_1 144 e 3 rfl rfl, uw_s tk_1 144 e 6 rfl rfl, uw_s tk_1 144 e 9 rfl rfl, uw_s tk_1 144 e 11 rfl rfl, uw_s tk_1 144 e 13 rfl rfl, uw_s tk_1 144 e 15 rfl rfl, tw_s tk_1 144 e 7 rfl, tw_s tk_1 144 e 10 rfl, tw_s tk_1 144 e 12 rfl, tw_s tk_1 144 e 14 rfl, tw_s tk_1 144 e 5 rfl, tw_s tk_1 144 e 2 rfl, tw_s tk_1 144 e 1 rfl, tw_s tk_1 144 e 4 rfl, tw_s tk_1 144 e 8 rfl⟩
theorem pw_f_q1_28 : Cond.fieldLink "OrphanTree$Tree" 28 (TX5 3).1 (TX5 3).2.1 (TX5 3).2.2.1 ∈ ev_UW := pt_w1_9.1
theorem pw_f_q1_31 : Cond.fieldLink "OrphanTree$Tree" 31 (TX5 4).1 (TX5 4).2.1 (TX5 4).2.2.1 ∈ ev_UW := pt_w1_9.2.1
theorem pw_f_q1_35 : Cond.fieldLink "OrphanTree$Tree" 35 (TX5 5).1 (TX5 5).2.1 (TX5 5).2.2.1 ∈ ev_UW := pt_w1_9.2.2.1
theorem pw_f_q1_38 : Cond.fieldLink "OrphanTree$Tree" 38 (TX5 6).1 (TX5 6).2.1 (TX5 6).2.2.1 ∈ ev_UW := pt_w1_9.2.2.2.1
theorem pw_f_q1_41 : Cond.fieldLink "OrphanTree$Tree" 41 (TX5 7).1 (TX5 7).2.1 (TX5 7).2.2.1 ∈ ev_UW := pt_w1_9.2.2.2.2.1
theorem pw_f_q1_44 : Cond.fieldLink "OrphanTree$Tree" 44 (TX5 8).1 (TX5 8).2.1 (TX5 8).2.2.1 ∈ ev_UW := pt_w1_9.2.2.2.2.2.1
theorem pw_f_q1_47 : Cond.fieldLink "OrphanTree$Tree" 47 (TX5 9).1 (TX5 9).2.1 (TX5 9).2.2.1 ∈ ev_UW := pt_w1_9.2.2.2.2.2.2.1
theorem pw_f_q0_80 : Cond.fieldLinkNest "OrphanTree" 80 (TX5 5).1 (TX5 5).2.1 (TX5 5).2.2.1 "OrphanTree" ∈ lw_tbl := pt_w1_9.2.2.2.2.2.2.2.1
theorem pw_f_q0_90 : Cond.fieldLinkNest "OrphanTree" 90 (TX5 6).1 (TX5 6).2.1 (TX5 6).2.2.1 "OrphanTree" ∈ lw_tbl := pt_w1_9.2.2.2.2.2.2.2.2.1
theorem pw_f_q0_93 : Cond.fieldLinkNest "OrphanTree" 93 (TX5 7).1 (TX5 7).2.1 (TX5 7).2.2.1 "OrphanTree" ∈ lw_tbl := pt_w1_9.2.2.2.2.2.2.2.2.2.1
theorem pw_f_q0_96 : Cond.fieldLinkNest "OrphanTree" 96 (TX5 8).1 (TX5 8).2.1 (TX5 8).2.2.1 "OrphanTree" ∈ lw_tbl := pt_w1_9.2.2.2.2.2.2.2.2.2.2.1
theorem pw_f_q0_115 : Cond.fieldLinkNest "OrphanTree" 115 (TX5 4).1 (TX5 4).2.1 (TX5 4).2.2.1 "OrphanTree" ∈ lw_tbl := pt_w1_9.2.2.2.2.2.2.2.2.2.2.2.1
theorem pw_f_q0_189 : Cond.fieldLinkNest "OrphanTree" 189 (TX5 3).1 (TX5 3).2.1 (TX5 3).2.2.1 "OrphanTree" ∈ lw_tbl := pt_w1_9.2.2.2.2.2.2.2.2.2.2.2.2.1
theorem pw_f_q3_119 : Cond.fieldLinkNest "OrphanTree$SetupReader" 119 (TX5 3).1 (TX5 3).2.1 (TX5 3).2.2.1 "OrphanTree" ∈ lw_tbl := pt_w1_9.2.2.2.2.2.2.2.2.2.2.2.2.2.1
theorem pw_f_q3_137 : Cond.fieldLinkNest "OrphanTree$SetupReader" 137 (TX5 4).1 (TX5 4).2.1 (TX5 4).2.2.1 "OrphanTree" ∈ lw_tbl := pt_w1_9.2.2.2.2.2.2.2.2.2.2.2.2.2.2.1
theorem pw_f_q3_153 : Cond.fieldLinkNest "OrphanTree$SetupReader" 153 (TX5 5).1 (TX5 5).2.1 (TX5 5).2.2.1 "OrphanTree" ∈ lw_tbl := pt_w1_9.2.2.2.2.2.2.2.2.2.2.2.2.2.2.2
theorem pt_w4_9 : (ev_cw pr_i288 4) ∈ ev_UW ∧ (Cond.instanceMethod pr_i288.1) ∈ ev_UW ∧ (Cond.methodLink "OrphanTree$Tree" 121 pr_i289.1) ∈ ev_UW ∧ (ev_cw pr_i289 5) ∈ ev_UW ∧ (Cond.instanceMethod pr_i289.1) ∈ ev_UW ∧ (Cond.methodLink "OrphanTree$Tree" 152 pr_i286.1) ∈ ev_UW ∧ (Cond.methodLink "OrphanTree$Tree" 159 pr_i290.1) ∈ ev_UW ∧ (ev_cw pr_i290 4) ∈ ev_UW ∧ (Cond.instanceMethod pr_i290.1) ∈ ev_UW ∧ (Cond.methodLink "OrphanTree$Tree" 162 pr_i246.1) ∈ ev_UW ∧ (Cond.methodLink "OrphanTree$Tree" 166 pr_i240.1) ∈ ev_UW ∧ (Cond.instanceMethod pr_i240.1) ∈ ev_UW ∧ (Cond.selects pr_i240.1.cls pr_i240.1 pr_i240.1) ∈ ev_UW := by
  have e : (tables_1_4.drop 144).take 16 = [_, (Cond.instanceMethod pr_i288.1), (ev_cw pr_i288 4), (Cond.methodLink "OrphanTree$Tree" 152 pr_i286.1), (Cond.methodLink "OrphanTree$Tree" 121 pr_i289.1), _, (Cond.instanceMethod pr_i289.1), (ev_cw pr_i289 5), (Cond.methodLink "OrphanTree$Tree" 159 pr_i290.1), _, (Cond.instanceMethod pr_i290.1), (ev_cw pr_i290 4), (Cond.methodLink "OrphanTree$Tree" 162 pr_i246.1), (Cond.methodLink "OrphanTree$Tree" 166 pr_i240.1), (Cond.instanceMethod pr_i240.1), (Cond.selects pr_i240.1.cls pr_i240.1 pr_i240.1)] := rfl
  exact ⟨uw_s tk_4 144 e 2 rfl rfl, uw_s tk_4 144 e 1 rfl rfl, uw_s tk_4 144 e 4 rfl rfl, uw_s tk_4 144 e 7 rfl rfl, uw_s tk_4 144 e 6 rfl rfl, uw_s tk_4 144 e 3 rfl rfl, uw_s tk_4 144 e 8 rfl rfl, uw_s tk_4 144 e 11 rfl rfl, uw_s tk_4 144 e 10 rfl rfl, uw_s tk_4 144 e 12 rfl rfl, uw_s tk_4 144 e 13 rfl rfl, uw_s tk_4 144 e 14 rfl rfl, uw_s tk_4 144 e 15 rfl rfl⟩
theorem pw_c_288 : ev_cw (pr_I 288) (pr_P 288).1 ∈ ev_UW := wk_c qI_288 pp_288 pt_w4_9.1
theorem pw_v_288 : Cond.instanceMethod (pr_I 288).1 ∈ ev_UW := wk_v qI_288 pt_w4_9.2.1
theorem pw_m_q1_121 : Cond.methodLink "OrphanTree$Tree" 121 (pr_I 289).1 ∈ ev_UW := wk_m qI_289 pt_w4_9.2.2.1
theorem pw_c_289 : ev_cw (pr_I 289) (pr_P 289).1 ∈ ev_UW := wk_c qI_289 pp_289 pt_w4_9.2.2.2.1
theorem pw_v_289 : Cond.instanceMethod (pr_I 289).1 ∈ ev_UW := wk_v qI_289 pt_w4_9.2.2.2.2.1
theorem pw_m_q1_152 : Cond.methodLink "OrphanTree$Tree" 152 (pr_I 286).1 ∈ ev_UW := wk_m qI_286 pt_w4_9.2.2.2.2.2.1
theorem pw_m_q1_159 : Cond.methodLink "OrphanTree$Tree" 159 (pr_I 290).1 ∈ ev_UW := wk_m qI_290 pt_w4_9.2.2.2.2.2.2.1
theorem pw_c_290 : ev_cw (pr_I 290) (pr_P 290).1 ∈ ev_UW := wk_c qI_290 pp_290 pt_w4_9.2.2.2.2.2.2.2.1
theorem pw_v_290 : Cond.instanceMethod (pr_I 290).1 ∈ ev_UW := wk_v qI_290 pt_w4_9.2.2.2.2.2.2.2.2.1
theorem pw_m_q1_162 : Cond.methodLink "OrphanTree$Tree" 162 (pr_I 246).1 ∈ ev_UW := wk_m qI_246 pt_w4_9.2.2.2.2.2.2.2.2.2.1
theorem pw_m_q1_166 : Cond.methodLink "OrphanTree$Tree" 166 (pr_I 240).1 ∈ ev_UW := wk_m qI_240 pt_w4_9.2.2.2.2.2.2.2.2.2.2.1
theorem pw_v_240 : Cond.instanceMethod (pr_I 240).1 ∈ ev_UW := wk_v qI_240 pt_w4_9.2.2.2.2.2.2.2.2.2.2.2.1
theorem pw_s_240 : Cond.selects (pr_I 240).1.cls (pr_I 240).1 (pr_I 240).1 ∈ ev_UW := wk_s qI_240 pt_w4_9.2.2.2.2.2.2.2.2.2.2.2.2
theorem pt_w5_9 : (ev_cw pr_i304 7) ∈ ev_UW ∧ (Cond.instanceMethod pr_i304.1) ∈ ev_UW ∧ (Cond.methodLink "OrphanTreeLaw" 115 pr_i44.1) ∈ ev_UW ∧ (ev_cw pr_i44 8) ∈ ev_UW ∧ (Cond.instanceMethod pr_i44.1) ∈ ev_UW ∧ (Cond.selects pr_i44.1.cls pr_i44.1 pr_i44.1) ∈ ev_UW ∧ (Cond.methodLink "OrphanTreeLaw" 118 pr_i45.1) ∈ ev_UW ∧ (Cond.instanceMethod pr_i45.1) ∈ ev_UW ∧ (Cond.selects pr_i45.1.cls pr_i45.1 pr_i45.1) ∈ ev_UW ∧ (Cond.methodLink "OrphanTreeLaw" 322 pr_i336.1) ∈ ev_UW ∧ (Cond.static pr_i336.1) ∈ ev_UW ∧ (ev_cw pr_i336 5) ∈ ev_UW ∧ (Cond.methodLink "OrphanTreeLaw" 325 pr_i337.1) ∈ ev_UW ∧ (Cond.static pr_i337.1) ∈ ev_UW ∧ (ev_cw pr_i337 4) ∈ ev_UW := by
  have e : (tables_1_5.drop 144).take 16 = [_, (Cond.instanceMethod pr_i304.1), (ev_cw pr_i304 7), (Cond.methodLink "OrphanTreeLaw" 322 pr_i336.1), (Cond.static pr_i336.1), (ev_cw pr_i336 5), (Cond.methodLink "OrphanTreeLaw" 115 pr_i44.1), (Cond.instanceMethod pr_i44.1), (Cond.selects pr_i44.1.cls pr_i44.1 pr_i44.1), (ev_cw pr_i44 8), (Cond.methodLink "OrphanTreeLaw" 325 pr_i337.1), (Cond.static pr_i337.1), (ev_cw pr_i337 4), (Cond.methodLink "OrphanTreeLaw" 118 pr_i45.1), (Cond.instanceMethod pr_i45.1), (Cond.selects pr_i45.1.cls pr_i45.1 pr_i45.1)] := rfl
  exact ⟨uw_s tk_5 144 e 2 rfl rfl, uw_s tk_5 144 e 1 rfl rfl, uw_s tk_5 144 e 6 rfl rfl, uw_s tk_5 144 e 9 rfl rfl, uw_s tk_5 144 e 7 rfl rfl, uw_s tk_5 144 e 8 rfl rfl, uw_s tk_5 144 e 13 rfl rfl, uw_s tk_5 144 e 14 rfl rfl, uw_s tk_5 144 e 15 rfl rfl, uw_s tk_5 144 e 3 rfl rfl, uw_s tk_5 144 e 4 rfl rfl, uw_s tk_5 144 e 5 rfl rfl, uw_s tk_5 144 e 10 rfl rfl, uw_s tk_5 144 e 11 rfl rfl, uw_s tk_5 144 e 12 rfl rfl⟩
theorem pw_c_304 : ev_cw (pr_I 304) (pr_P 304).1 ∈ ev_UW := wk_c qI_304 pp_304 pt_w5_9.1
theorem pw_v_304 : Cond.instanceMethod (pr_I 304).1 ∈ ev_UW := wk_v qI_304 pt_w5_9.2.1
theorem pw_m_q15_115 : Cond.methodLink "OrphanTreeLaw" 115 (pr_I 44).1 ∈ ev_UW := wk_m qI_44 pt_w5_9.2.2.1
theorem pw_c_44 : ev_cw (pr_I 44) (pr_P 44).1 ∈ ev_UW := wk_c qI_44 pp_44 pt_w5_9.2.2.2.1
theorem pw_v_44 : Cond.instanceMethod (pr_I 44).1 ∈ ev_UW := wk_v qI_44 pt_w5_9.2.2.2.2.1
theorem pw_s_44 : Cond.selects (pr_I 44).1.cls (pr_I 44).1 (pr_I 44).1 ∈ ev_UW := wk_s qI_44 pt_w5_9.2.2.2.2.2.1
theorem pw_m_q15_118 : Cond.methodLink "OrphanTreeLaw" 118 (pr_I 45).1 ∈ ev_UW := wk_m qI_45 pt_w5_9.2.2.2.2.2.2.1
theorem pw_v_45 : Cond.instanceMethod (pr_I 45).1 ∈ ev_UW := wk_v qI_45 pt_w5_9.2.2.2.2.2.2.2.1
theorem pw_s_45 : Cond.selects (pr_I 45).1.cls (pr_I 45).1 (pr_I 45).1 ∈ ev_UW := wk_s qI_45 pt_w5_9.2.2.2.2.2.2.2.2.1
theorem pw_m_q15_322 : Cond.methodLink "OrphanTreeLaw" 322 (pr_I 336).1 ∈ ev_UW := wk_m qI_336 pt_w5_9.2.2.2.2.2.2.2.2.2.1
theorem pw_t_336 : Cond.static (pr_I 336).1 ∈ ev_UW := wk_t qI_336 pt_w5_9.2.2.2.2.2.2.2.2.2.2.1
theorem pw_c_336 : ev_cw (pr_I 336) (pr_P 336).1 ∈ ev_UW := wk_c qI_336 pp_336 pt_w5_9.2.2.2.2.2.2.2.2.2.2.2.1
theorem pw_m_q15_325 : Cond.methodLink "OrphanTreeLaw" 325 (pr_I 337).1 ∈ ev_UW := wk_m qI_337 pt_w5_9.2.2.2.2.2.2.2.2.2.2.2.2.1
theorem pw_t_337 : Cond.static (pr_I 337).1 ∈ ev_UW := wk_t qI_337 pt_w5_9.2.2.2.2.2.2.2.2.2.2.2.2.2.1
theorem pw_c_337 : ev_cw (pr_I 337) (pr_P 337).1 ∈ ev_UW := wk_c qI_337 pp_337 pt_w5_9.2.2.2.2.2.2.2.2.2.2.2.2.2.2
theorem pt_w4_2 : (Cond.methodLink "OrphanTreeLaw" 29 pr_i11.1) ∈ ev_UW ∧ (Cond.instanceMethod pr_i11.1) ∈ ev_UW ∧ (Cond.selects pr_i11.1.cls pr_i11.1 pr_i11.1) ∈ ev_UW ∧ (Cond.methodLink "OrphanTreeLaw" 210 pr_i309.1) ∈ ev_UW ∧ (Cond.static pr_i309.1) ∈ ev_UW ∧ (ev_cw pr_i309 5) ∈ ev_UW := by
  have e : (tables_1_4.drop 32).take 16 = [_, _, _, _, _, _, _, _, _, _, (Cond.methodLink "OrphanTreeLaw" 210 pr_i309.1), (Cond.static pr_i309.1), (ev_cw pr_i309 5), (Cond.methodLink "OrphanTreeLaw" 29 pr_i11.1), (Cond.instanceMethod pr_i11.1), (Cond.selects pr_i11.1.cls pr_i11.1 pr_i11.1)] := rfl
  exact ⟨uw_s tk_4 32 e 13 rfl rfl, uw_s tk_4 32 e 14 rfl rfl, uw_s tk_4 32 e 15 rfl rfl, uw_s tk_4 32 e 10 rfl rfl, uw_s tk_4 32 e 11 rfl rfl, uw_s tk_4 32 e 12 rfl rfl⟩
theorem pw_m_q15_29 : Cond.methodLink "OrphanTreeLaw" 29 (pr_I 11).1 ∈ ev_UW := wk_m qI_11 pt_w4_2.1
theorem pw_v_11 : Cond.instanceMethod (pr_I 11).1 ∈ ev_UW := wk_v qI_11 pt_w4_2.2.1
theorem pw_s_11 : Cond.selects (pr_I 11).1.cls (pr_I 11).1 (pr_I 11).1 ∈ ev_UW := wk_s qI_11 pt_w4_2.2.2.1
theorem pw_m_q15_210 : Cond.methodLink "OrphanTreeLaw" 210 (pr_I 309).1 ∈ ev_UW := wk_m qI_309 pt_w4_2.2.2.2.1
theorem pw_t_309 : Cond.static (pr_I 309).1 ∈ ev_UW := wk_t qI_309 pt_w4_2.2.2.2.2.1
theorem pw_c_309 : ev_cw (pr_I 309) (pr_P 309).1 ∈ ev_UW := wk_c qI_309 pp_309 pt_w4_2.2.2.2.2.2
theorem pt_w5_1 : (Cond.methodLink "OrphanTreeLaw" 66 pr_i24.1) ∈ ev_UW ∧ (ev_cw pr_i24 5) ∈ ev_UW ∧ (Cond.instanceMethod pr_i24.1) ∈ ev_UW ∧ (Cond.selects pr_i24.1.cls pr_i24.1 pr_i24.1) ∈ ev_UW ∧ (Cond.methodLink "OrphanTreeLaw" 69 pr_i25.1) ∈ ev_UW ∧ (ev_cw pr_i25 5) ∈ ev_UW ∧ (Cond.instanceMethod pr_i25.1) ∈ ev_UW ∧ (Cond.selects pr_i25.1.cls pr_i25.1 pr_i25.1) ∈ ev_UW ∧ (Cond.methodLink "OrphanTreeLaw" 72 pr_i26.1) ∈ ev_UW ∧ (ev_cw pr_i320 5) ∈ ev_UW ∧ (Cond.methodLink "OrphanTreeLaw" 255 pr_i321.1) ∈ ev_UW ∧ (Cond.static pr_i321.1) ∈ ev_UW ∧ (ev_cw pr_i321 5) ∈ ev_UW ∧ (Cond.methodLink "OrphanTreeLaw" 261 pr_i322.1) ∈ ev_UW ∧ (Cond.static pr_i322.1) ∈ ev_UW ∧ (ev_cw pr_i322 5) ∈ ev_UW := by
  have e : (tables_1_5.drop 16).take 16 = [(ev_cw pr_i320 5), (Cond.methodLink "OrphanTreeLaw" 66 pr_i24.1), (Cond.instanceMethod pr_i24.1), (Cond.selects pr_i24.1.cls pr_i24.1 pr_i24.1), (ev_cw pr_i24 5), (Cond.methodLink "OrphanTreeLaw" 255 pr_i321.1), (Cond.static pr_i321.1), (ev_cw pr_i321 5), (Cond.methodLink "OrphanTreeLaw" 69 pr_i25.1), (Cond.instanceMethod pr_i25.1), (Cond.selects pr_i25.1.cls pr_i25.1 pr_i25.1), (ev_cw pr_i25 5), (Cond.methodLink "OrphanTreeLaw" 261 pr_i322.1), (Cond.static pr_i322.1), (ev_cw pr_i322 5), (Cond.methodLink "OrphanTreeLaw" 72 pr_i26.1)] := rfl
  exact ⟨uw_s tk_5 16 e 1 rfl rfl, uw_s tk_5 16 e 4 rfl rfl, uw_s tk_5 16 e 2 rfl rfl, uw_s tk_5 16 e 3 rfl rfl, uw_s tk_5 16 e 8 rfl rfl, uw_s tk_5 16 e 11 rfl rfl, uw_s tk_5 16 e 9 rfl rfl, uw_s tk_5 16 e 10 rfl rfl, uw_s tk_5 16 e 15 rfl rfl, uw_s tk_5 16 e 0 rfl rfl, uw_s tk_5 16 e 5 rfl rfl, uw_s tk_5 16 e 6 rfl rfl, uw_s tk_5 16 e 7 rfl rfl, uw_s tk_5 16 e 12 rfl rfl, uw_s tk_5 16 e 13 rfl rfl, uw_s tk_5 16 e 14 rfl rfl⟩
theorem pw_m_q15_66 : Cond.methodLink "OrphanTreeLaw" 66 (pr_I 24).1 ∈ ev_UW := wk_m qI_24 pt_w5_1.1
theorem pw_c_24 : ev_cw (pr_I 24) (pr_P 24).1 ∈ ev_UW := wk_c qI_24 pp_24 pt_w5_1.2.1
theorem pw_v_24 : Cond.instanceMethod (pr_I 24).1 ∈ ev_UW := wk_v qI_24 pt_w5_1.2.2.1
theorem pw_s_24 : Cond.selects (pr_I 24).1.cls (pr_I 24).1 (pr_I 24).1 ∈ ev_UW := wk_s qI_24 pt_w5_1.2.2.2.1
theorem pw_m_q15_69 : Cond.methodLink "OrphanTreeLaw" 69 (pr_I 25).1 ∈ ev_UW := wk_m qI_25 pt_w5_1.2.2.2.2.1
theorem pw_c_25 : ev_cw (pr_I 25) (pr_P 25).1 ∈ ev_UW := wk_c qI_25 pp_25 pt_w5_1.2.2.2.2.2.1
theorem pw_v_25 : Cond.instanceMethod (pr_I 25).1 ∈ ev_UW := wk_v qI_25 pt_w5_1.2.2.2.2.2.2.1
theorem pw_s_25 : Cond.selects (pr_I 25).1.cls (pr_I 25).1 (pr_I 25).1 ∈ ev_UW := wk_s qI_25 pt_w5_1.2.2.2.2.2.2.2.1
theorem pw_m_q15_72 : Cond.methodLink "OrphanTreeLaw" 72 (pr_I 26).1 ∈ ev_UW := wk_m qI_26 pt_w5_1.2.2.2.2.2.2.2.2.1
theorem pw_c_320 : ev_cw (pr_I 320) (pr_P 320).1 ∈ ev_UW := wk_c qI_320 pp_320 pt_w5_1.2.2.2.2.2.2.2.2.2.1
theorem pw_m_q15_255 : Cond.methodLink "OrphanTreeLaw" 255 (pr_I 321).1 ∈ ev_UW := wk_m qI_321 pt_w5_1.2.2.2.2.2.2.2.2.2.2.1
theorem pw_t_321 : Cond.static (pr_I 321).1 ∈ ev_UW := wk_t qI_321 pt_w5_1.2.2.2.2.2.2.2.2.2.2.2.1
theorem pw_c_321 : ev_cw (pr_I 321) (pr_P 321).1 ∈ ev_UW := wk_c qI_321 pp_321 pt_w5_1.2.2.2.2.2.2.2.2.2.2.2.2.1
theorem pw_m_q15_261 : Cond.methodLink "OrphanTreeLaw" 261 (pr_I 322).1 ∈ ev_UW := wk_m qI_322 pt_w5_1.2.2.2.2.2.2.2.2.2.2.2.2.2.1
theorem pw_t_322 : Cond.static (pr_I 322).1 ∈ ev_UW := wk_t qI_322 pt_w5_1.2.2.2.2.2.2.2.2.2.2.2.2.2.2.1
theorem pw_c_322 : ev_cw (pr_I 322) (pr_P 322).1 ∈ ev_UW := wk_c qI_322 pp_322 pt_w5_1.2.2.2.2.2.2.2.2.2.2.2.2.2.2.2
theorem pt_w5_5 : (Cond.methodLink "OrphanTreeLaw" 90 pr_i32.1) ∈ ev_UW ∧ (ev_cw pr_i32 5) ∈ ev_UW ∧ (Cond.instanceMethod pr_i32.1) ∈ ev_UW ∧ (Cond.selects pr_i32.1.cls pr_i32.1 pr_i32.1) ∈ ev_UW ∧ (Cond.methodLink "OrphanTreeLaw" 94 pr_i33.1) ∈ ev_UW ∧ (ev_cw pr_i33 3) ∈ ev_UW ∧ (Cond.instanceMethod pr_i33.1) ∈ ev_UW ∧ (Cond.selects pr_i33.1.cls pr_i33.1 pr_i33.1) ∈ ev_UW ∧ (Cond.methodLink "OrphanTreeLaw" 97 pr_i34.1) ∈ ev_UW ∧ (ev_cw pr_i328 6) ∈ ev_UW ∧ (Cond.methodLink "OrphanTreeLaw" 283 pr_i329.1) ∈ ev_UW ∧ (Cond.static pr_i329.1) ∈ ev_UW ∧ (ev_cw pr_i329 5) ∈ ev_UW ∧ (Cond.methodLink "OrphanTreeLaw" 286 pr_i330.1) ∈ ev_UW ∧ (Cond.static pr_i330.1) ∈ ev_UW ∧ (ev_cw pr_i330 4) ∈ ev_UW := by
  have e : (tables_1_5.drop 80).take 16 = [(ev_cw pr_i328 6), (Cond.methodLink "OrphanTreeLaw" 90 pr_i32.1), (Cond.instanceMethod pr_i32.1), (Cond.selects pr_i32.1.cls pr_i32.1 pr_i32.1), (ev_cw pr_i32 5), (Cond.methodLink "OrphanTreeLaw" 283 pr_i329.1), (Cond.static pr_i329.1), (ev_cw pr_i329 5), (Cond.methodLink "OrphanTreeLaw" 94 pr_i33.1), (Cond.instanceMethod pr_i33.1), (Cond.selects pr_i33.1.cls pr_i33.1 pr_i33.1), (ev_cw pr_i33 3), (Cond.methodLink "OrphanTreeLaw" 286 pr_i330.1), (Cond.static pr_i330.1), (ev_cw pr_i330 4), (Cond.methodLink "OrphanTreeLaw" 97 pr_i34.1)] := rfl
  exact ⟨uw_s tk_5 80 e 1 rfl rfl, uw_s tk_5 80 e 4 rfl rfl, uw_s tk_5 80 e 2 rfl rfl, uw_s tk_5 80 e 3 rfl rfl, uw_s tk_5 80 e 8 rfl rfl, uw_s tk_5 80 e 11 rfl rfl, uw_s tk_5 80 e 9 rfl rfl, uw_s tk_5 80 e 10 rfl rfl, uw_s tk_5 80 e 15 rfl rfl, uw_s tk_5 80 e 0 rfl rfl, uw_s tk_5 80 e 5 rfl rfl, uw_s tk_5 80 e 6 rfl rfl, uw_s tk_5 80 e 7 rfl rfl, uw_s tk_5 80 e 12 rfl rfl, uw_s tk_5 80 e 13 rfl rfl, uw_s tk_5 80 e 14 rfl rfl⟩
theorem pw_m_q15_90 : Cond.methodLink "OrphanTreeLaw" 90 (pr_I 32).1 ∈ ev_UW := wk_m qI_32 pt_w5_5.1
theorem pw_c_32 : ev_cw (pr_I 32) (pr_P 32).1 ∈ ev_UW := wk_c qI_32 pp_32 pt_w5_5.2.1
theorem pw_v_32 : Cond.instanceMethod (pr_I 32).1 ∈ ev_UW := wk_v qI_32 pt_w5_5.2.2.1
theorem pw_s_32 : Cond.selects (pr_I 32).1.cls (pr_I 32).1 (pr_I 32).1 ∈ ev_UW := wk_s qI_32 pt_w5_5.2.2.2.1
theorem pw_m_q15_94 : Cond.methodLink "OrphanTreeLaw" 94 (pr_I 33).1 ∈ ev_UW := wk_m qI_33 pt_w5_5.2.2.2.2.1
theorem pw_c_33 : ev_cw (pr_I 33) (pr_P 33).1 ∈ ev_UW := wk_c qI_33 pp_33 pt_w5_5.2.2.2.2.2.1
theorem pw_v_33 : Cond.instanceMethod (pr_I 33).1 ∈ ev_UW := wk_v qI_33 pt_w5_5.2.2.2.2.2.2.1
theorem pw_s_33 : Cond.selects (pr_I 33).1.cls (pr_I 33).1 (pr_I 33).1 ∈ ev_UW := wk_s qI_33 pt_w5_5.2.2.2.2.2.2.2.1
theorem pw_m_q15_97 : Cond.methodLink "OrphanTreeLaw" 97 (pr_I 34).1 ∈ ev_UW := wk_m qI_34 pt_w5_5.2.2.2.2.2.2.2.2.1
theorem pw_c_328 : ev_cw (pr_I 328) (pr_P 328).1 ∈ ev_UW := wk_c qI_328 pp_328 pt_w5_5.2.2.2.2.2.2.2.2.2.1
theorem pw_m_q15_283 : Cond.methodLink "OrphanTreeLaw" 283 (pr_I 329).1 ∈ ev_UW := wk_m qI_329 pt_w5_5.2.2.2.2.2.2.2.2.2.2.1
theorem pw_t_329 : Cond.static (pr_I 329).1 ∈ ev_UW := wk_t qI_329 pt_w5_5.2.2.2.2.2.2.2.2.2.2.2.1
theorem pw_c_329 : ev_cw (pr_I 329) (pr_P 329).1 ∈ ev_UW := wk_c qI_329 pp_329 pt_w5_5.2.2.2.2.2.2.2.2.2.2.2.2.1
theorem pw_m_q15_286 : Cond.methodLink "OrphanTreeLaw" 286 (pr_I 330).1 ∈ ev_UW := wk_m qI_330 pt_w5_5.2.2.2.2.2.2.2.2.2.2.2.2.2.1
theorem pw_t_330 : Cond.static (pr_I 330).1 ∈ ev_UW := wk_t qI_330 pt_w5_5.2.2.2.2.2.2.2.2.2.2.2.2.2.2.1
theorem pw_c_330 : ev_cw (pr_I 330) (pr_P 330).1 ∈ ev_UW := wk_c qI_330 pp_330 pt_w5_5.2.2.2.2.2.2.2.2.2.2.2.2.2.2.2
theorem pt_w5_6 : (ev_cw pr_i34 9) ∈ ev_UW ∧ (Cond.instanceMethod pr_i34.1) ∈ ev_UW ∧ (Cond.selects pr_i34.1.cls pr_i34.1 pr_i34.1) ∈ ev_UW ∧ (Cond.methodLink "OrphanTreeLaw" 100 pr_i35.1) ∈ ev_UW ∧ (ev_cw pr_i35 8) ∈ ev_UW ∧ (Cond.instanceMethod pr_i35.1) ∈ ev_UW ∧ (Cond.selects pr_i35.1.cls pr_i35.1 pr_i35.1) ∈ ev_UW ∧ (Cond.methodLink "OrphanTreeLaw" 103 pr_i38.1) ∈ ev_UW ∧ (Cond.instanceMethod pr_i38.1) ∈ ev_UW ∧ (Cond.selects pr_i38.1.cls pr_i38.1 pr_i38.1) ∈ ev_UW ∧ (Cond.methodLink "OrphanTreeLaw" 289 pr_i331.1) ∈ ev_UW ∧ (Cond.static pr_i331.1) ∈ ev_UW ∧ (ev_cw pr_i331 4) ∈ ev_UW ∧ (Cond.methodLink "OrphanTreeLaw" 300 pr_i332.1) ∈ ev_UW ∧ (Cond.static pr_i332.1) ∈ ev_UW ∧ (ev_cw pr_i332 4) ∈ ev_UW := by
  have e : (tables_1_5.drop 96).take 16 = [(Cond.instanceMethod pr_i34.1), (Cond.selects pr_i34.1.cls pr_i34.1 pr_i34.1), (ev_cw pr_i34 9), (Cond.methodLink "OrphanTreeLaw" 289 pr_i331.1), (Cond.static pr_i331.1), (ev_cw pr_i331 4), (Cond.methodLink "OrphanTreeLaw" 100 pr_i35.1), (Cond.instanceMethod pr_i35.1), (Cond.selects pr_i35.1.cls pr_i35.1 pr_i35.1), (ev_cw pr_i35 8), (Cond.methodLink "OrphanTreeLaw" 300 pr_i332.1), (Cond.static pr_i332.1), (ev_cw pr_i332 4), (Cond.methodLink "OrphanTreeLaw" 103 pr_i38.1), (Cond.instanceMethod pr_i38.1), (Cond.selects pr_i38.1.cls pr_i38.1 pr_i38.1)] := rfl
  exact ⟨uw_s tk_5 96 e 2 rfl rfl, uw_s tk_5 96 e 0 rfl rfl, uw_s tk_5 96 e 1 rfl rfl, uw_s tk_5 96 e 6 rfl rfl, uw_s tk_5 96 e 9 rfl rfl, uw_s tk_5 96 e 7 rfl rfl, uw_s tk_5 96 e 8 rfl rfl, uw_s tk_5 96 e 13 rfl rfl, uw_s tk_5 96 e 14 rfl rfl, uw_s tk_5 96 e 15 rfl rfl, uw_s tk_5 96 e 3 rfl rfl, uw_s tk_5 96 e 4 rfl rfl, uw_s tk_5 96 e 5 rfl rfl, uw_s tk_5 96 e 10 rfl rfl, uw_s tk_5 96 e 11 rfl rfl, uw_s tk_5 96 e 12 rfl rfl⟩
theorem pw_c_34 : ev_cw (pr_I 34) (pr_P 34).1 ∈ ev_UW := wk_c qI_34 pp_34 pt_w5_6.1
theorem pw_v_34 : Cond.instanceMethod (pr_I 34).1 ∈ ev_UW := wk_v qI_34 pt_w5_6.2.1
theorem pw_s_34 : Cond.selects (pr_I 34).1.cls (pr_I 34).1 (pr_I 34).1 ∈ ev_UW := wk_s qI_34 pt_w5_6.2.2.1
theorem pw_m_q15_100 : Cond.methodLink "OrphanTreeLaw" 100 (pr_I 35).1 ∈ ev_UW := wk_m qI_35 pt_w5_6.2.2.2.1
theorem pw_c_35 : ev_cw (pr_I 35) (pr_P 35).1 ∈ ev_UW := wk_c qI_35 pp_35 pt_w5_6.2.2.2.2.1
theorem pw_v_35 : Cond.instanceMethod (pr_I 35).1 ∈ ev_UW := wk_v qI_35 pt_w5_6.2.2.2.2.2.1
theorem pw_s_35 : Cond.selects (pr_I 35).1.cls (pr_I 35).1 (pr_I 35).1 ∈ ev_UW := wk_s qI_35 pt_w5_6.2.2.2.2.2.2.1
theorem pw_m_q15_103 : Cond.methodLink "OrphanTreeLaw" 103 (pr_I 38).1 ∈ ev_UW := wk_m qI_38 pt_w5_6.2.2.2.2.2.2.2.1
theorem pw_v_38 : Cond.instanceMethod (pr_I 38).1 ∈ ev_UW := wk_v qI_38 pt_w5_6.2.2.2.2.2.2.2.2.1
theorem pw_s_38 : Cond.selects (pr_I 38).1.cls (pr_I 38).1 (pr_I 38).1 ∈ ev_UW := wk_s qI_38 pt_w5_6.2.2.2.2.2.2.2.2.2.1
theorem pw_m_q15_289 : Cond.methodLink "OrphanTreeLaw" 289 (pr_I 331).1 ∈ ev_UW := wk_m qI_331 pt_w5_6.2.2.2.2.2.2.2.2.2.2.1
theorem pw_t_331 : Cond.static (pr_I 331).1 ∈ ev_UW := wk_t qI_331 pt_w5_6.2.2.2.2.2.2.2.2.2.2.2.1
theorem pw_c_331 : ev_cw (pr_I 331) (pr_P 331).1 ∈ ev_UW := wk_c qI_331 pp_331 pt_w5_6.2.2.2.2.2.2.2.2.2.2.2.2.1
theorem pw_m_q15_300 : Cond.methodLink "OrphanTreeLaw" 300 (pr_I 332).1 ∈ ev_UW := wk_m qI_332 pt_w5_6.2.2.2.2.2.2.2.2.2.2.2.2.2.1
theorem pw_t_332 : Cond.static (pr_I 332).1 ∈ ev_UW := wk_t qI_332 pt_w5_6.2.2.2.2.2.2.2.2.2.2.2.2.2.2.1
theorem pw_c_332 : ev_cw (pr_I 332) (pr_P 332).1 ∈ ev_UW := wk_c qI_332 pp_332 pt_w5_6.2.2.2.2.2.2.2.2.2.2.2.2.2.2.2
theorem pt_w5_12 : (Cond.methodLink "OrphanTreeLaw" 133 pr_i51.1) ∈ ev_UW ∧ (ev_cw pr_i51 3) ∈ ev_UW ∧ (Cond.instanceMethod pr_i51.1) ∈ ev_UW ∧ (Cond.selects pr_i51.1.cls pr_i51.1 pr_i51.1) ∈ ev_UW ∧ (Cond.methodLink "OrphanTreeLaw" 136 pr_i53.1) ∈ ev_UW ∧ (ev_cw pr_i53 5) ∈ ev_UW ∧ (Cond.instanceMethod pr_i53.1) ∈ ev_UW ∧ (Cond.selects pr_i53.1.cls pr_i53.1 pr_i53.1) ∈ ev_UW ∧ (Cond.static pr_i342.1) ∈ ev_UW ∧ (ev_cw pr_i342 5) ∈ ev_UW ∧ (Cond.methodLink "OrphanTreeLaw" 351 pr_i343.1) ∈ ev_UW ∧ (Cond.static pr_i343.1) ∈ ev_UW ∧ (ev_cw pr_i343 5) ∈ ev_UW ∧ (Cond.methodLink "OrphanTreeLaw" 354 pr_i344.1) ∈ ev_UW ∧ (Cond.static pr_i344.1) ∈ ev_UW ∧ (ev_cw pr_i344 4) ∈ ev_UW := by
  have e : (tables_1_5.drop 192).take 16 = [(Cond.static pr_i342.1), (ev_cw pr_i342 5), (Cond.methodLink "OrphanTreeLaw" 133 pr_i51.1), (Cond.instanceMethod pr_i51.1), (Cond.selects pr_i51.1.cls pr_i51.1 pr_i51.1), (ev_cw pr_i51 3), (Cond.methodLink "OrphanTreeLaw" 351 pr_i343.1), (Cond.static pr_i343.1), (ev_cw pr_i343 5), (Cond.methodLink "OrphanTreeLaw" 136 pr_i53.1), (Cond.instanceMethod pr_i53.1), (Cond.selects pr_i53.1.cls pr_i53.1 pr_i53.1), (ev_cw pr_i53 5), (Cond.methodLink "OrphanTreeLaw" 354 pr_i344.1), (Cond.static pr_i344.1), (ev_cw pr_i344 4)] := rfl
  exact ⟨uw_s tk_5 192 e 2 rfl rfl, uw_s tk_5 192 e 5 rfl rfl, uw_s tk_5 192 e 3 rfl rfl, uw_s tk_5 192 e 4 rfl rfl, uw_s tk_5 192 e 9 rfl rfl, uw_s tk_5 192 e 12 rfl rfl, uw_s tk_5 192 e 10 rfl rfl, uw_s tk_5 192 e 11 rfl rfl, uw_s tk_5 192 e 0 rfl rfl, uw_s tk_5 192 e 1 rfl rfl, uw_s tk_5 192 e 6 rfl rfl, uw_s tk_5 192 e 7 rfl rfl, uw_s tk_5 192 e 8 rfl rfl, uw_s tk_5 192 e 13 rfl rfl, uw_s tk_5 192 e 14 rfl rfl, uw_s tk_5 192 e 15 rfl rfl⟩
theorem pw_m_q15_133 : Cond.methodLink "OrphanTreeLaw" 133 (pr_I 51).1 ∈ ev_UW := wk_m qI_51 pt_w5_12.1
theorem pw_c_51 : ev_cw (pr_I 51) (pr_P 51).1 ∈ ev_UW := wk_c qI_51 pp_51 pt_w5_12.2.1
theorem pw_v_51 : Cond.instanceMethod (pr_I 51).1 ∈ ev_UW := wk_v qI_51 pt_w5_12.2.2.1
theorem pw_s_51 : Cond.selects (pr_I 51).1.cls (pr_I 51).1 (pr_I 51).1 ∈ ev_UW := wk_s qI_51 pt_w5_12.2.2.2.1
theorem pw_m_q15_136 : Cond.methodLink "OrphanTreeLaw" 136 (pr_I 53).1 ∈ ev_UW := wk_m qI_53 pt_w5_12.2.2.2.2.1
theorem pw_c_53 : ev_cw (pr_I 53) (pr_P 53).1 ∈ ev_UW := wk_c qI_53 pp_53 pt_w5_12.2.2.2.2.2.1
theorem pw_v_53 : Cond.instanceMethod (pr_I 53).1 ∈ ev_UW := wk_v qI_53 pt_w5_12.2.2.2.2.2.2.1
theorem pw_s_53 : Cond.selects (pr_I 53).1.cls (pr_I 53).1 (pr_I 53).1 ∈ ev_UW := wk_s qI_53 pt_w5_12.2.2.2.2.2.2.2.1
theorem pw_t_342 : Cond.static (pr_I 342).1 ∈ ev_UW := wk_t qI_342 pt_w5_12.2.2.2.2.2.2.2.2.1
theorem pw_c_342 : ev_cw (pr_I 342) (pr_P 342).1 ∈ ev_UW := wk_c qI_342 pp_342 pt_w5_12.2.2.2.2.2.2.2.2.2.1
theorem pw_m_q15_351 : Cond.methodLink "OrphanTreeLaw" 351 (pr_I 343).1 ∈ ev_UW := wk_m qI_343 pt_w5_12.2.2.2.2.2.2.2.2.2.2.1
theorem pw_t_343 : Cond.static (pr_I 343).1 ∈ ev_UW := wk_t qI_343 pt_w5_12.2.2.2.2.2.2.2.2.2.2.2.1
theorem pw_c_343 : ev_cw (pr_I 343) (pr_P 343).1 ∈ ev_UW := wk_c qI_343 pp_343 pt_w5_12.2.2.2.2.2.2.2.2.2.2.2.2.1
theorem pw_m_q15_354 : Cond.methodLink "OrphanTreeLaw" 354 (pr_I 344).1 ∈ ev_UW := wk_m qI_344 pt_w5_12.2.2.2.2.2.2.2.2.2.2.2.2.2.1
theorem pw_t_344 : Cond.static (pr_I 344).1 ∈ ev_UW := wk_t qI_344 pt_w5_12.2.2.2.2.2.2.2.2.2.2.2.2.2.2.1
theorem pw_c_344 : ev_cw (pr_I 344) (pr_P 344).1 ∈ ev_UW := wk_c qI_344 pp_344 pt_w5_12.2.2.2.2.2.2.2.2.2.2.2.2.2.2.2
theorem pt_w6_0 : (Cond.methodLink "OrphanTreeLaw" 151 pr_i58.1) ∈ ev_UW ∧ (ev_cw pr_i58 8) ∈ ev_UW ∧ (Cond.instanceMethod pr_i58.1) ∈ ev_UW ∧ (Cond.selects pr_i58.1.cls pr_i58.1 pr_i58.1) ∈ ev_UW ∧ (Cond.methodLink "OrphanTreeLaw" 154 pr_i59.1) ∈ ev_UW ∧ (ev_cw pr_i59 8) ∈ ev_UW ∧ (Cond.instanceMethod pr_i59.1) ∈ ev_UW ∧ (Cond.selects pr_i59.1.cls pr_i59.1 pr_i59.1) ∈ ev_UW ∧ (Cond.methodLink "OrphanTreeLaw" 157 pr_i60.1) ∈ ev_UW ∧ (ev_cw pr_i348 4) ∈ ev_UW ∧ (Cond.methodLink "OrphanTreeLaw" 369 pr_i349.1) ∈ ev_UW ∧ (Cond.static pr_i349.1) ∈ ev_UW ∧ (ev_cw pr_i349 4) ∈ ev_UW ∧ (Cond.methodLink "OrphanTreeLaw" 372 pr_i350.1) ∈ ev_UW ∧ (Cond.static pr_i350.1) ∈ ev_UW ∧ (ev_cw pr_i350 5) ∈ ev_UW := by
  have e : (tables_1_6.drop 0).take 16 = [(ev_cw pr_i348 4), (Cond.methodLink "OrphanTreeLaw" 151 pr_i58.1), (Cond.instanceMethod pr_i58.1), (Cond.selects pr_i58.1.cls pr_i58.1 pr_i58.1), (ev_cw pr_i58 8), (Cond.methodLink "OrphanTreeLaw" 369 pr_i349.1), (Cond.static pr_i349.1), (ev_cw pr_i349 4), (Cond.methodLink "OrphanTreeLaw" 154 pr_i59.1), (Cond.instanceMethod pr_i59.1), (Cond.selects pr_i59.1.cls pr_i59.1 pr_i59.1), (ev_cw pr_i59 8), (Cond.methodLink "OrphanTreeLaw" 372 pr_i350.1), (Cond.static pr_i350.1), (ev_cw pr_i350 5), (Cond.methodLink "OrphanTreeLaw" 157 pr_i60.1)] := rfl
  exact ⟨uw_s tk_6 0 e 1 rfl rfl, uw_s tk_6 0 e 4 rfl rfl, uw_s tk_6 0 e 2 rfl rfl, uw_s tk_6 0 e 3 rfl rfl, uw_s tk_6 0 e 8 rfl rfl, uw_s tk_6 0 e 11 rfl rfl, uw_s tk_6 0 e 9 rfl rfl, uw_s tk_6 0 e 10 rfl rfl, uw_s tk_6 0 e 15 rfl rfl, uw_s tk_6 0 e 0 rfl rfl, uw_s tk_6 0 e 5 rfl rfl, uw_s tk_6 0 e 6 rfl rfl, uw_s tk_6 0 e 7 rfl rfl, uw_s tk_6 0 e 12 rfl rfl, uw_s tk_6 0 e 13 rfl rfl, uw_s tk_6 0 e 14 rfl rfl⟩
theorem pw_m_q15_151 : Cond.methodLink "OrphanTreeLaw" 151 (pr_I 58).1 ∈ ev_UW := wk_m qI_58 pt_w6_0.1
theorem pw_c_58 : ev_cw (pr_I 58) (pr_P 58).1 ∈ ev_UW := wk_c qI_58 pp_58 pt_w6_0.2.1
theorem pw_v_58 : Cond.instanceMethod (pr_I 58).1 ∈ ev_UW := wk_v qI_58 pt_w6_0.2.2.1
theorem pw_s_58 : Cond.selects (pr_I 58).1.cls (pr_I 58).1 (pr_I 58).1 ∈ ev_UW := wk_s qI_58 pt_w6_0.2.2.2.1
theorem pw_m_q15_154 : Cond.methodLink "OrphanTreeLaw" 154 (pr_I 59).1 ∈ ev_UW := wk_m qI_59 pt_w6_0.2.2.2.2.1
theorem pw_c_59 : ev_cw (pr_I 59) (pr_P 59).1 ∈ ev_UW := wk_c qI_59 pp_59 pt_w6_0.2.2.2.2.2.1
theorem pw_v_59 : Cond.instanceMethod (pr_I 59).1 ∈ ev_UW := wk_v qI_59 pt_w6_0.2.2.2.2.2.2.1
theorem pw_s_59 : Cond.selects (pr_I 59).1.cls (pr_I 59).1 (pr_I 59).1 ∈ ev_UW := wk_s qI_59 pt_w6_0.2.2.2.2.2.2.2.1
theorem pw_m_q15_157 : Cond.methodLink "OrphanTreeLaw" 157 (pr_I 60).1 ∈ ev_UW := wk_m qI_60 pt_w6_0.2.2.2.2.2.2.2.2.1
theorem pw_c_348 : ev_cw (pr_I 348) (pr_P 348).1 ∈ ev_UW := wk_c qI_348 pp_348 pt_w6_0.2.2.2.2.2.2.2.2.2.1
theorem pw_m_q15_369 : Cond.methodLink "OrphanTreeLaw" 369 (pr_I 349).1 ∈ ev_UW := wk_m qI_349 pt_w6_0.2.2.2.2.2.2.2.2.2.2.1
theorem pw_t_349 : Cond.static (pr_I 349).1 ∈ ev_UW := wk_t qI_349 pt_w6_0.2.2.2.2.2.2.2.2.2.2.2.1
theorem pw_c_349 : ev_cw (pr_I 349) (pr_P 349).1 ∈ ev_UW := wk_c qI_349 pp_349 pt_w6_0.2.2.2.2.2.2.2.2.2.2.2.2.1
theorem pw_m_q15_372 : Cond.methodLink "OrphanTreeLaw" 372 (pr_I 350).1 ∈ ev_UW := wk_m qI_350 pt_w6_0.2.2.2.2.2.2.2.2.2.2.2.2.2.1
theorem pw_t_350 : Cond.static (pr_I 350).1 ∈ ev_UW := wk_t qI_350 pt_w6_0.2.2.2.2.2.2.2.2.2.2.2.2.2.2.1
theorem pw_c_350 : ev_cw (pr_I 350) (pr_P 350).1 ∈ ev_UW := wk_c qI_350 pp_350 pt_w6_0.2.2.2.2.2.2.2.2.2.2.2.2.2.2.2
theorem pt_w9_0 : (Cond.arrayClass (newarray.typeOf .long)) ∈ ev_UW ∧ (ev_cw pr_i214 2) ∈ ev_UW ∧ (Cond.instanceMethod pr_i214.1) ∈ ev_UW ∧ (Cond.selects pr_i214.1.cls pr_i214.1 pr_i214.1) ∈ ev_UW ∧ (Cond.methodLink "OrphanTreeLaw" 382 pr_i215.1) ∈ ev_UW ∧ (ev_cw pr_i215 1) ∈ ev_UW ∧ (Cond.instanceMethod pr_i215.1) ∈ ev_UW ∧ (Cond.selects pr_i215.1.cls pr_i215.1 pr_i215.1) ∈ ev_UW ∧ (Cond.methodLink "OrphanTreeLaw" 386 pr_i216.1) ∈ ev_UW ∧ (ev_cw pr_i216 1) ∈ ev_UW ∧ (Cond.instanceMethod pr_i216.1) ∈ ev_UW ∧ (Cond.selects pr_i216.1.cls pr_i216.1 pr_i216.1) ∈ ev_UW ∧ (Cond.methodLink "OrphanTreeLaw" 390 pr_i217.1) ∈ ev_UW ∧ (ev_cw pr_i217 1) ∈ ev_UW ∧ (Cond.instanceMethod pr_i217.1) ∈ ev_UW ∧ (Cond.selects pr_i217.1.cls pr_i217.1 pr_i217.1) ∈ ev_UW := by
  have e : (tables_1_9.drop 0).take 16 = [(Cond.instanceMethod pr_i214.1), (Cond.selects pr_i214.1.cls pr_i214.1 pr_i214.1), (ev_cw pr_i214 2), (Cond.methodLink "OrphanTreeLaw" 382 pr_i215.1), (Cond.instanceMethod pr_i215.1), (Cond.selects pr_i215.1.cls pr_i215.1 pr_i215.1), (ev_cw pr_i215 1), (Cond.methodLink "OrphanTreeLaw" 386 pr_i216.1), (Cond.instanceMethod pr_i216.1), (Cond.selects pr_i216.1.cls pr_i216.1 pr_i216.1), (ev_cw pr_i216 1), (Cond.methodLink "OrphanTreeLaw" 390 pr_i217.1), (Cond.instanceMethod pr_i217.1), (Cond.selects pr_i217.1.cls pr_i217.1 pr_i217.1), (ev_cw pr_i217 1), (Cond.arrayClass (newarray.typeOf .long))] := rfl
  exact ⟨uw_s tk_9 0 e 15 rfl rfl, uw_s tk_9 0 e 2 rfl rfl, uw_s tk_9 0 e 0 rfl rfl, uw_s tk_9 0 e 1 rfl rfl, uw_s tk_9 0 e 3 rfl rfl, uw_s tk_9 0 e 6 rfl rfl, uw_s tk_9 0 e 4 rfl rfl, uw_s tk_9 0 e 5 rfl rfl, uw_s tk_9 0 e 7 rfl rfl, uw_s tk_9 0 e 10 rfl rfl, uw_s tk_9 0 e 8 rfl rfl, uw_s tk_9 0 e 9 rfl rfl, uw_s tk_9 0 e 11 rfl rfl, uw_s tk_9 0 e 14 rfl rfl, uw_s tk_9 0 e 12 rfl rfl, uw_s tk_9 0 e 13 rfl rfl⟩
theorem pw_a_long : Cond.arrayClass (newarray.typeOf .long) ∈ ev_UW := pt_w9_0.1
theorem pw_c_214 : ev_cw (pr_I 214) (pr_P 214).1 ∈ ev_UW := wk_c qI_214 pp_214 pt_w9_0.2.1
theorem pw_v_214 : Cond.instanceMethod (pr_I 214).1 ∈ ev_UW := wk_v qI_214 pt_w9_0.2.2.1
theorem pw_s_214 : Cond.selects (pr_I 214).1.cls (pr_I 214).1 (pr_I 214).1 ∈ ev_UW := wk_s qI_214 pt_w9_0.2.2.2.1
theorem pw_m_q15_382 : Cond.methodLink "OrphanTreeLaw" 382 (pr_I 215).1 ∈ ev_UW := wk_m qI_215 pt_w9_0.2.2.2.2.1
theorem pw_c_215 : ev_cw (pr_I 215) (pr_P 215).1 ∈ ev_UW := wk_c qI_215 pp_215 pt_w9_0.2.2.2.2.2.1
theorem pw_v_215 : Cond.instanceMethod (pr_I 215).1 ∈ ev_UW := wk_v qI_215 pt_w9_0.2.2.2.2.2.2.1
theorem pw_s_215 : Cond.selects (pr_I 215).1.cls (pr_I 215).1 (pr_I 215).1 ∈ ev_UW := wk_s qI_215 pt_w9_0.2.2.2.2.2.2.2.1
theorem pw_m_q15_386 : Cond.methodLink "OrphanTreeLaw" 386 (pr_I 216).1 ∈ ev_UW := wk_m qI_216 pt_w9_0.2.2.2.2.2.2.2.2.1
theorem pw_c_216 : ev_cw (pr_I 216) (pr_P 216).1 ∈ ev_UW := wk_c qI_216 pp_216 pt_w9_0.2.2.2.2.2.2.2.2.2.1
theorem pw_v_216 : Cond.instanceMethod (pr_I 216).1 ∈ ev_UW := wk_v qI_216 pt_w9_0.2.2.2.2.2.2.2.2.2.2.1
theorem pw_s_216 : Cond.selects (pr_I 216).1.cls (pr_I 216).1 (pr_I 216).1 ∈ ev_UW := wk_s qI_216 pt_w9_0.2.2.2.2.2.2.2.2.2.2.2.1
theorem pw_m_q15_390 : Cond.methodLink "OrphanTreeLaw" 390 (pr_I 217).1 ∈ ev_UW := wk_m qI_217 pt_w9_0.2.2.2.2.2.2.2.2.2.2.2.2.1
theorem pw_c_217 : ev_cw (pr_I 217) (pr_P 217).1 ∈ ev_UW := wk_c qI_217 pp_217 pt_w9_0.2.2.2.2.2.2.2.2.2.2.2.2.2.1
theorem pw_v_217 : Cond.instanceMethod (pr_I 217).1 ∈ ev_UW := wk_v qI_217 pt_w9_0.2.2.2.2.2.2.2.2.2.2.2.2.2.2.1
theorem pw_s_217 : Cond.selects (pr_I 217).1.cls (pr_I 217).1 (pr_I 217).1 ∈ ev_UW := wk_s qI_217 pt_w9_0.2.2.2.2.2.2.2.2.2.2.2.2.2.2.2
theorem pt_w2_3 : (Cond.methodLink "OrphanTreeLaw" 168 pr_i1.1) ∈ ev_UW ∧ (Cond.instanceMethod pr_i1.1) ∈ ev_UW := by
  have e : (tables_1_2.drop 48).take 16 = [_, _, _, _, _, _, _, _, _, _, _, _, _, _, (Cond.methodLink "OrphanTreeLaw" 168 pr_i1.1), (Cond.instanceMethod pr_i1.1)] := rfl
  exact ⟨uw_s tk_2 48 e 14 rfl rfl, uw_s tk_2 48 e 15 rfl rfl⟩
theorem pw_m_q15_168 : Cond.methodLink "OrphanTreeLaw" 168 (pr_I 1).1 ∈ ev_UW := wk_m qI_1 pt_w2_3.1
theorem pw_v_1 : Cond.instanceMethod (pr_I 1).1 ∈ ev_UW := wk_v qI_1 pt_w2_3.2
theorem pt_w8_7 : (ev_cw pr_i182 5) ∈ ev_UW ∧ (Cond.instanceMethod pr_i182.1) ∈ ev_UW ∧ (Cond.selects pr_i182.1.cls pr_i182.1 pr_i182.1) ∈ ev_UW ∧ (Cond.methodLink "OrphanTreeLaw" 282 pr_i183.1) ∈ ev_UW ∧ (ev_cw pr_i183 6) ∈ ev_UW ∧ (Cond.instanceMethod pr_i183.1) ∈ ev_UW ∧ (Cond.selects pr_i183.1.cls pr_i183.1 pr_i183.1) ∈ ev_UW ∧ (Cond.methodLink "OrphanTreeLaw" 285 pr_i185.1) ∈ ev_UW ∧ (ev_cw pr_i185 6) ∈ ev_UW ∧ (Cond.instanceMethod pr_i185.1) ∈ ev_UW ∧ (Cond.selects pr_i185.1.cls pr_i185.1 pr_i185.1) ∈ ev_UW ∧ (Cond.methodLink "OrphanTreeLaw" 346 pr_i186.1) ∈ ev_UW ∧ (Cond.methodLink "OrphanTreeLaw" 359 pr_i184.1) ∈ ev_UW ∧ (ev_cw pr_i184 6) ∈ ev_UW ∧ (Cond.instanceMethod pr_i184.1) ∈ ev_UW ∧ (Cond.selects pr_i184.1.cls pr_i184.1 pr_i184.1) ∈ ev_UW := by
  have e : (tables_1_8.drop 112).take 16 = [(Cond.instanceMethod pr_i182.1), (Cond.selects pr_i182.1.cls pr_i182.1 pr_i182.1), (ev_cw pr_i182 5), (Cond.methodLink "OrphanTreeLaw" 282 pr_i183.1), (Cond.instanceMethod pr_i183.1), (Cond.selects pr_i183.1.cls pr_i183.1 pr_i183.1), (ev_cw pr_i183 6), (Cond.methodLink "OrphanTreeLaw" 359 pr_i184.1), (Cond.instanceMethod pr_i184.1), (Cond.selects pr_i184.1.cls pr_i184.1 pr_i184.1), (ev_cw pr_i184 6), (Cond.methodLink "OrphanTreeLaw" 285 pr_i185.1), (Cond.instanceMethod pr_i185.1), (Cond.selects pr_i185.1.cls pr_i185.1 pr_i185.1), (ev_cw pr_i185 6), (Cond.methodLink "OrphanTreeLaw" 346 pr_i186.1)] := rfl
  exact ⟨uw_s tk_8 112 e 2 rfl rfl, uw_s tk_8 112 e 0 rfl rfl, uw_s tk_8 112 e 1 rfl rfl, uw_s tk_8 112 e 3 rfl rfl, uw_s tk_8 112 e 6 rfl rfl, uw_s tk_8 112 e 4 rfl rfl, uw_s tk_8 112 e 5 rfl rfl, uw_s tk_8 112 e 11 rfl rfl, uw_s tk_8 112 e 14 rfl rfl, uw_s tk_8 112 e 12 rfl rfl, uw_s tk_8 112 e 13 rfl rfl, uw_s tk_8 112 e 15 rfl rfl, uw_s tk_8 112 e 7 rfl rfl, uw_s tk_8 112 e 10 rfl rfl, uw_s tk_8 112 e 8 rfl rfl, uw_s tk_8 112 e 9 rfl rfl⟩
theorem pw_c_182 : ev_cw (pr_I 182) (pr_P 182).1 ∈ ev_UW := wk_c qI_182 pp_182 pt_w8_7.1
theorem pw_v_182 : Cond.instanceMethod (pr_I 182).1 ∈ ev_UW := wk_v qI_182 pt_w8_7.2.1
theorem pw_s_182 : Cond.selects (pr_I 182).1.cls (pr_I 182).1 (pr_I 182).1 ∈ ev_UW := wk_s qI_182 pt_w8_7.2.2.1
theorem pw_m_q15_282 : Cond.methodLink "OrphanTreeLaw" 282 (pr_I 183).1 ∈ ev_UW := wk_m qI_183 pt_w8_7.2.2.2.1
theorem pw_c_183 : ev_cw (pr_I 183) (pr_P 183).1 ∈ ev_UW := wk_c qI_183 pp_183 pt_w8_7.2.2.2.2.1
theorem pw_v_183 : Cond.instanceMethod (pr_I 183).1 ∈ ev_UW := wk_v qI_183 pt_w8_7.2.2.2.2.2.1
theorem pw_s_183 : Cond.selects (pr_I 183).1.cls (pr_I 183).1 (pr_I 183).1 ∈ ev_UW := wk_s qI_183 pt_w8_7.2.2.2.2.2.2.1
theorem pw_m_q15_285 : Cond.methodLink "OrphanTreeLaw" 285 (pr_I 185).1 ∈ ev_UW := wk_m qI_185 pt_w8_7.2.2.2.2.2.2.2.1
theorem pw_c_185 : ev_cw (pr_I 185) (pr_P 185).1 ∈ ev_UW := wk_c qI_185 pp_185 pt_w8_7.2.2.2.2.2.2.2.2.1
theorem pw_v_185 : Cond.instanceMethod (pr_I 185).1 ∈ ev_UW := wk_v qI_185 pt_w8_7.2.2.2.2.2.2.2.2.2.1
theorem pw_s_185 : Cond.selects (pr_I 185).1.cls (pr_I 185).1 (pr_I 185).1 ∈ ev_UW := wk_s qI_185 pt_w8_7.2.2.2.2.2.2.2.2.2.2.1
theorem pw_m_q15_346 : Cond.methodLink "OrphanTreeLaw" 346 (pr_I 186).1 ∈ ev_UW := wk_m qI_186 pt_w8_7.2.2.2.2.2.2.2.2.2.2.2.1
theorem pw_m_q15_359 : Cond.methodLink "OrphanTreeLaw" 359 (pr_I 184).1 ∈ ev_UW := wk_m qI_184 pt_w8_7.2.2.2.2.2.2.2.2.2.2.2.2.1
theorem pw_c_184 : ev_cw (pr_I 184) (pr_P 184).1 ∈ ev_UW := wk_c qI_184 pp_184 pt_w8_7.2.2.2.2.2.2.2.2.2.2.2.2.2.1
theorem pw_v_184 : Cond.instanceMethod (pr_I 184).1 ∈ ev_UW := wk_v qI_184 pt_w8_7.2.2.2.2.2.2.2.2.2.2.2.2.2.2.1
theorem pw_s_184 : Cond.selects (pr_I 184).1.cls (pr_I 184).1 (pr_I 184).1 ∈ ev_UW := wk_s qI_184 pt_w8_7.2.2.2.2.2.2.2.2.2.2.2.2.2.2.2
theorem pt_w8_8 : (Cond.methodLink "OrphanTreeLaw" 288 pr_i187.1) ∈ ev_UW ∧ (ev_cw pr_i187 6) ∈ ev_UW ∧ (Cond.instanceMethod pr_i187.1) ∈ ev_UW ∧ (Cond.selects pr_i187.1.cls pr_i187.1 pr_i187.1) ∈ ev_UW ∧ (Cond.methodLink "OrphanTreeLaw" 291 pr_i190.1) ∈ ev_UW ∧ (Cond.methodLink "OrphanTreeLaw" 343 pr_i188.1) ∈ ev_UW ∧ (ev_cw pr_i188 2) ∈ ev_UW ∧ (Cond.instanceMethod pr_i188.1) ∈ ev_UW ∧ (Cond.selects pr_i188.1.cls pr_i188.1 pr_i188.1) ∈ ev_UW ∧ (ev_cw pr_i186 5) ∈ ev_UW ∧ (Cond.instanceMethod pr_i186.1) ∈ ev_UW ∧ (Cond.selects pr_i186.1.cls pr_i186.1 pr_i186.1) ∈ ev_UW ∧ (Cond.methodLink "OrphanTreeLaw" 362 pr_i189.1) ∈ ev_UW ∧ (ev_cw pr_i189 4) ∈ ev_UW ∧ (Cond.instanceMethod pr_i189.1) ∈ ev_UW ∧ (Cond.selects pr_i189.1.cls pr_i189.1 pr_i189.1) ∈ ev_UW := by
  have e : (tables_1_8.drop 128).take 16 = [(Cond.instanceMethod pr_i186.1), (Cond.selects pr_i186.1.cls pr_i186.1 pr_i186.1), (ev_cw pr_i186 5), (Cond.methodLink "OrphanTreeLaw" 288 pr_i187.1), (Cond.instanceMethod pr_i187.1), (Cond.selects pr_i187.1.cls pr_i187.1 pr_i187.1), (ev_cw pr_i187 6), (Cond.methodLink "OrphanTreeLaw" 343 pr_i188.1), (Cond.instanceMethod pr_i188.1), (Cond.selects pr_i188.1.cls pr_i188.1 pr_i188.1), (ev_cw pr_i188 2), (Cond.methodLink "OrphanTreeLaw" 362 pr_i189.1), (Cond.instanceMethod pr_i189.1), (Cond.selects pr_i189.1.cls pr_i189.1 pr_i189.1), (ev_cw pr_i189 4), (Cond.methodLink "OrphanTreeLaw" 291 pr_i190.1)] := rfl
  exact ⟨uw_s tk_8 128 e 3 rfl rfl, uw_s tk_8 128 e 6 rfl rfl, uw_s tk_8 128 e 4 rfl rfl, uw_s tk_8 128 e 5 rfl rfl, uw_s tk_8 128 e 15 rfl rfl, uw_s tk_8 128 e 7 rfl rfl, uw_s tk_8 128 e 10 rfl rfl, uw_s tk_8 128 e 8 rfl rfl, uw_s tk_8 128 e 9 rfl rfl, uw_s tk_8 128 e 2 rfl rfl, uw_s tk_8 128 e 0 rfl rfl, uw_s tk_8 128 e 1 rfl rfl, uw_s tk_8 128 e 11 rfl rfl, uw_s tk_8 128 e 14 rfl rfl, uw_s tk_8 128 e 12 rfl rfl, uw_s tk_8 128 e 13 rfl rfl⟩
theorem pw_m_q15_288 : Cond.methodLink "OrphanTreeLaw" 288 (pr_I 187).1 ∈ ev_UW := wk_m qI_187 pt_w8_8.1
theorem pw_c_187 : ev_cw (pr_I 187) (pr_P 187).1 ∈ ev_UW := wk_c qI_187 pp_187 pt_w8_8.2.1
theorem pw_v_187 : Cond.instanceMethod (pr_I 187).1 ∈ ev_UW := wk_v qI_187 pt_w8_8.2.2.1
theorem pw_s_187 : Cond.selects (pr_I 187).1.cls (pr_I 187).1 (pr_I 187).1 ∈ ev_UW := wk_s qI_187 pt_w8_8.2.2.2.1
theorem pw_m_q15_291 : Cond.methodLink "OrphanTreeLaw" 291 (pr_I 190).1 ∈ ev_UW := wk_m qI_190 pt_w8_8.2.2.2.2.1
theorem pw_m_q15_343 : Cond.methodLink "OrphanTreeLaw" 343 (pr_I 188).1 ∈ ev_UW := wk_m qI_188 pt_w8_8.2.2.2.2.2.1
theorem pw_c_188 : ev_cw (pr_I 188) (pr_P 188).1 ∈ ev_UW := wk_c qI_188 pp_188 pt_w8_8.2.2.2.2.2.2.1
theorem pw_v_188 : Cond.instanceMethod (pr_I 188).1 ∈ ev_UW := wk_v qI_188 pt_w8_8.2.2.2.2.2.2.2.1
theorem pw_s_188 : Cond.selects (pr_I 188).1.cls (pr_I 188).1 (pr_I 188).1 ∈ ev_UW := wk_s qI_188 pt_w8_8.2.2.2.2.2.2.2.2.1
theorem pw_c_186 : ev_cw (pr_I 186) (pr_P 186).1 ∈ ev_UW := wk_c qI_186 pp_186 pt_w8_8.2.2.2.2.2.2.2.2.2.1
theorem pw_v_186 : Cond.instanceMethod (pr_I 186).1 ∈ ev_UW := wk_v qI_186 pt_w8_8.2.2.2.2.2.2.2.2.2.2.1
theorem pw_s_186 : Cond.selects (pr_I 186).1.cls (pr_I 186).1 (pr_I 186).1 ∈ ev_UW := wk_s qI_186 pt_w8_8.2.2.2.2.2.2.2.2.2.2.2.1
theorem pw_m_q15_362 : Cond.methodLink "OrphanTreeLaw" 362 (pr_I 189).1 ∈ ev_UW := wk_m qI_189 pt_w8_8.2.2.2.2.2.2.2.2.2.2.2.2.1
theorem pw_c_189 : ev_cw (pr_I 189) (pr_P 189).1 ∈ ev_UW := wk_c qI_189 pp_189 pt_w8_8.2.2.2.2.2.2.2.2.2.2.2.2.2.1
theorem pw_v_189 : Cond.instanceMethod (pr_I 189).1 ∈ ev_UW := wk_v qI_189 pt_w8_8.2.2.2.2.2.2.2.2.2.2.2.2.2.2.1
theorem pw_s_189 : Cond.selects (pr_I 189).1.cls (pr_I 189).1 (pr_I 189).1 ∈ ev_UW := wk_s qI_189 pt_w8_8.2.2.2.2.2.2.2.2.2.2.2.2.2.2.2
theorem pt_w8_9 : (ev_cw pr_i190 4) ∈ ev_UW ∧ (Cond.instanceMethod pr_i190.1) ∈ ev_UW ∧ (Cond.selects pr_i190.1.cls pr_i190.1 pr_i190.1) ∈ ev_UW ∧ (Cond.methodLink "OrphanTreeLaw" 295 pr_i191.1) ∈ ev_UW ∧ (ev_cw pr_i191 3) ∈ ev_UW ∧ (Cond.instanceMethod pr_i191.1) ∈ ev_UW ∧ (Cond.selects pr_i191.1.cls pr_i191.1 pr_i191.1) ∈ ev_UW ∧ (Cond.methodLink "OrphanTreeLaw" 299 pr_i192.1) ∈ ev_UW ∧ (ev_cw pr_i192 3) ∈ ev_UW ∧ (Cond.instanceMethod pr_i192.1) ∈ ev_UW ∧ (Cond.selects pr_i192.1.cls pr_i192.1 pr_i192.1) ∈ ev_UW ∧ (Cond.methodLink "OrphanTreeLaw" 302 pr_i193.1) ∈ ev_UW ∧ (ev_cw pr_i193 4) ∈ ev_UW ∧ (Cond.instanceMethod pr_i193.1) ∈ ev_UW ∧ (Cond.selects pr_i193.1.cls pr_i193.1 pr_i193.1) ∈ ev_UW ∧ (Cond.methodLink "OrphanTreeLaw" 305 pr_i194.1) ∈ ev_UW := by
  have e : (tables_1_8.drop 144).take 16 = [(Cond.instanceMethod pr_i190.1), (Cond.selects pr_i190.1.cls pr_i190.1 pr_i190.1), (ev_cw pr_i190 4), (Cond.methodLink "OrphanTreeLaw" 295 pr_i191.1), (Cond.instanceMethod pr_i191.1), (Cond.selects pr_i191.1.cls pr_i191.1 pr_i191.1), (ev_cw pr_i191 3), (Cond.methodLink "OrphanTreeLaw" 299 pr_i192.1), (Cond.instanceMethod pr_i192.1), (Cond.selects pr_i192.1.cls pr_i192.1 pr_i192.1), (ev_cw pr_i192 3), (Cond.methodLink "OrphanTreeLaw" 302 pr_i193.1), (Cond.instanceMethod pr_i193.1), (Cond.selects pr_i193.1.cls pr_i193.1 pr_i193.1), (ev_cw pr_i193 4), (Cond.methodLink "OrphanTreeLaw" 305 pr_i194.1)] := rfl
  exact ⟨uw_s tk_8 144 e 2 rfl rfl, uw_s tk_8 144 e 0 rfl rfl, uw_s tk_8 144 e 1 rfl rfl, uw_s tk_8 144 e 3 rfl rfl, uw_s tk_8 144 e 6 rfl rfl, uw_s tk_8 144 e 4 rfl rfl, uw_s tk_8 144 e 5 rfl rfl, uw_s tk_8 144 e 7 rfl rfl, uw_s tk_8 144 e 10 rfl rfl, uw_s tk_8 144 e 8 rfl rfl, uw_s tk_8 144 e 9 rfl rfl, uw_s tk_8 144 e 11 rfl rfl, uw_s tk_8 144 e 14 rfl rfl, uw_s tk_8 144 e 12 rfl rfl, uw_s tk_8 144 e 13 rfl rfl, uw_s tk_8 144 e 15 rfl rfl⟩
theorem pw_c_190 : ev_cw (pr_I 190) (pr_P 190).1 ∈ ev_UW := wk_c qI_190 pp_190 pt_w8_9.1
theorem pw_v_190 : Cond.instanceMethod (pr_I 190).1 ∈ ev_UW := wk_v qI_190 pt_w8_9.2.1
theorem pw_s_190 : Cond.selects (pr_I 190).1.cls (pr_I 190).1 (pr_I 190).1 ∈ ev_UW := wk_s qI_190 pt_w8_9.2.2.1
theorem pw_m_q15_295 : Cond.methodLink "OrphanTreeLaw" 295 (pr_I 191).1 ∈ ev_UW := wk_m qI_191 pt_w8_9.2.2.2.1
theorem pw_c_191 : ev_cw (pr_I 191) (pr_P 191).1 ∈ ev_UW := wk_c qI_191 pp_191 pt_w8_9.2.2.2.2.1
theorem pw_v_191 : Cond.instanceMethod (pr_I 191).1 ∈ ev_UW := wk_v qI_191 pt_w8_9.2.2.2.2.2.1
theorem pw_s_191 : Cond.selects (pr_I 191).1.cls (pr_I 191).1 (pr_I 191).1 ∈ ev_UW := wk_s qI_191 pt_w8_9.2.2.2.2.2.2.1
theorem pw_m_q15_299 : Cond.methodLink "OrphanTreeLaw" 299 (pr_I 192).1 ∈ ev_UW := wk_m qI_192 pt_w8_9.2.2.2.2.2.2.2.1
theorem pw_c_192 : ev_cw (pr_I 192) (pr_P 192).1 ∈ ev_UW := wk_c qI_192 pp_192 pt_w8_9.2.2.2.2.2.2.2.2.1
theorem pw_v_192 : Cond.instanceMethod (pr_I 192).1 ∈ ev_UW := wk_v qI_192 pt_w8_9.2.2.2.2.2.2.2.2.2.1
theorem pw_s_192 : Cond.selects (pr_I 192).1.cls (pr_I 192).1 (pr_I 192).1 ∈ ev_UW := wk_s qI_192 pt_w8_9.2.2.2.2.2.2.2.2.2.2.1
theorem pw_m_q15_302 : Cond.methodLink "OrphanTreeLaw" 302 (pr_I 193).1 ∈ ev_UW := wk_m qI_193 pt_w8_9.2.2.2.2.2.2.2.2.2.2.2.1
theorem pw_c_193 : ev_cw (pr_I 193) (pr_P 193).1 ∈ ev_UW := wk_c qI_193 pp_193 pt_w8_9.2.2.2.2.2.2.2.2.2.2.2.2.1
theorem pw_v_193 : Cond.instanceMethod (pr_I 193).1 ∈ ev_UW := wk_v qI_193 pt_w8_9.2.2.2.2.2.2.2.2.2.2.2.2.2.1
theorem pw_s_193 : Cond.selects (pr_I 193).1.cls (pr_I 193).1 (pr_I 193).1 ∈ ev_UW := wk_s qI_193 pt_w8_9.2.2.2.2.2.2.2.2.2.2.2.2.2.2.1
theorem pw_m_q15_305 : Cond.methodLink "OrphanTreeLaw" 305 (pr_I 194).1 ∈ ev_UW := wk_m qI_194 pt_w8_9.2.2.2.2.2.2.2.2.2.2.2.2.2.2.2
theorem pt_w8_10 : (ev_cw pr_i194 2) ∈ ev_UW ∧ (Cond.instanceMethod pr_i194.1) ∈ ev_UW ∧ (Cond.selects pr_i194.1.cls pr_i194.1 pr_i194.1) ∈ ev_UW ∧ (Cond.methodLink "OrphanTreeLaw" 308 pr_i195.1) ∈ ev_UW ∧ (ev_cw pr_i195 2) ∈ ev_UW ∧ (Cond.instanceMethod pr_i195.1) ∈ ev_UW ∧ (Cond.selects pr_i195.1.cls pr_i195.1 pr_i195.1) ∈ ev_UW ∧ (Cond.methodLink "OrphanTreeLaw" 313 pr_i196.1) ∈ ev_UW ∧ (ev_cw pr_i196 3) ∈ ev_UW ∧ (Cond.instanceMethod pr_i196.1) ∈ ev_UW ∧ (Cond.selects pr_i196.1.cls pr_i196.1 pr_i196.1) ∈ ev_UW ∧ (Cond.methodLink "OrphanTreeLaw" 318 pr_i197.1) ∈ ev_UW ∧ (ev_cw pr_i197 1) ∈ ev_UW ∧ (Cond.instanceMethod pr_i197.1) ∈ ev_UW ∧ (Cond.selects pr_i197.1.cls pr_i197.1 pr_i197.1) ∈ ev_UW ∧ (Cond.methodLink "OrphanTreeLaw" 350 pr_i198.1) ∈ ev_UW := by
  have e : (tables_1_8.drop 160).take 16 = [(Cond.instanceMethod pr_i194.1), (Cond.selects pr_i194.1.cls pr_i194.1 pr_i194.1), (ev_cw pr_i194 2), (Cond.methodLink "OrphanTreeLaw" 308 pr_i195.1), (Cond.instanceMethod pr_i195.1), (Cond.selects pr_i195.1.cls pr_i195.1 pr_i195.1), (ev_cw pr_i195 2), (Cond.methodLink "OrphanTreeLaw" 313 pr_i196.1), (Cond.instanceMethod pr_i196.1), (Cond.selects pr_i196.1.cls pr_i196.1 pr_i196.1), (ev_cw pr_i196 3), (Cond.methodLink "OrphanTreeLaw" 318 pr_i197.1), (Cond.instanceMethod pr_i197.1), (Cond.selects pr_i197.1.cls pr_i197.1 pr_i197.1), (ev_cw pr_i197 1), (Cond.methodLink "OrphanTreeLaw" 350 pr_i198.1)] := rfl
  exact ⟨uw_s tk_8 160 e 2 rfl rfl, uw_s tk_8 160 e 0 rfl rfl, uw_s tk_8 160 e 1 rfl rfl, uw_s tk_8 160 e 3 rfl rfl, uw_s tk_8 160 e 6 rfl rfl, uw_s tk_8 160 e 4 rfl rfl, uw_s tk_8 160 e 5 rfl rfl, uw_s tk_8 160 e 7 rfl rfl, uw_s tk_8 160 e 10 rfl rfl, uw_s tk_8 160 e 8 rfl rfl, uw_s tk_8 160 e 9 rfl rfl, uw_s tk_8 160 e 11 rfl rfl, uw_s tk_8 160 e 14 rfl rfl, uw_s tk_8 160 e 12 rfl rfl, uw_s tk_8 160 e 13 rfl rfl, uw_s tk_8 160 e 15 rfl rfl⟩
theorem pw_c_194 : ev_cw (pr_I 194) (pr_P 194).1 ∈ ev_UW := wk_c qI_194 pp_194 pt_w8_10.1
theorem pw_v_194 : Cond.instanceMethod (pr_I 194).1 ∈ ev_UW := wk_v qI_194 pt_w8_10.2.1
theorem pw_s_194 : Cond.selects (pr_I 194).1.cls (pr_I 194).1 (pr_I 194).1 ∈ ev_UW := wk_s qI_194 pt_w8_10.2.2.1
theorem pw_m_q15_308 : Cond.methodLink "OrphanTreeLaw" 308 (pr_I 195).1 ∈ ev_UW := wk_m qI_195 pt_w8_10.2.2.2.1
theorem pw_c_195 : ev_cw (pr_I 195) (pr_P 195).1 ∈ ev_UW := wk_c qI_195 pp_195 pt_w8_10.2.2.2.2.1
theorem pw_v_195 : Cond.instanceMethod (pr_I 195).1 ∈ ev_UW := wk_v qI_195 pt_w8_10.2.2.2.2.2.1
theorem pw_s_195 : Cond.selects (pr_I 195).1.cls (pr_I 195).1 (pr_I 195).1 ∈ ev_UW := wk_s qI_195 pt_w8_10.2.2.2.2.2.2.1
theorem pw_m_q15_313 : Cond.methodLink "OrphanTreeLaw" 313 (pr_I 196).1 ∈ ev_UW := wk_m qI_196 pt_w8_10.2.2.2.2.2.2.2.1
theorem pw_c_196 : ev_cw (pr_I 196) (pr_P 196).1 ∈ ev_UW := wk_c qI_196 pp_196 pt_w8_10.2.2.2.2.2.2.2.2.1
theorem pw_v_196 : Cond.instanceMethod (pr_I 196).1 ∈ ev_UW := wk_v qI_196 pt_w8_10.2.2.2.2.2.2.2.2.2.1
theorem pw_s_196 : Cond.selects (pr_I 196).1.cls (pr_I 196).1 (pr_I 196).1 ∈ ev_UW := wk_s qI_196 pt_w8_10.2.2.2.2.2.2.2.2.2.2.1
theorem pw_m_q15_318 : Cond.methodLink "OrphanTreeLaw" 318 (pr_I 197).1 ∈ ev_UW := wk_m qI_197 pt_w8_10.2.2.2.2.2.2.2.2.2.2.2.1
theorem pw_c_197 : ev_cw (pr_I 197) (pr_P 197).1 ∈ ev_UW := wk_c qI_197 pp_197 pt_w8_10.2.2.2.2.2.2.2.2.2.2.2.2.1
theorem pw_v_197 : Cond.instanceMethod (pr_I 197).1 ∈ ev_UW := wk_v qI_197 pt_w8_10.2.2.2.2.2.2.2.2.2.2.2.2.2.1
theorem pw_s_197 : Cond.selects (pr_I 197).1.cls (pr_I 197).1 (pr_I 197).1 ∈ ev_UW := wk_s qI_197 pt_w8_10.2.2.2.2.2.2.2.2.2.2.2.2.2.2.1
theorem pw_m_q15_350 : Cond.methodLink "OrphanTreeLaw" 350 (pr_I 198).1 ∈ ev_UW := wk_m qI_198 pt_w8_10.2.2.2.2.2.2.2.2.2.2.2.2.2.2.2
theorem pt_w8_11 : (Cond.methodLink "OrphanTreeLaw" 330 pr_i199.1) ∈ ev_UW ∧ (ev_cw pr_i199 4) ∈ ev_UW ∧ (Cond.instanceMethod pr_i199.1) ∈ ev_UW ∧ (Cond.selects pr_i199.1.cls pr_i199.1 pr_i199.1) ∈ ev_UW ∧ (Cond.methodLink "OrphanTreeLaw" 333 pr_i200.1) ∈ ev_UW ∧ (ev_cw pr_i200 4) ∈ ev_UW ∧ (Cond.instanceMethod pr_i200.1) ∈ ev_UW ∧ (Cond.selects pr_i200.1.cls pr_i200.1 pr_i200.1) ∈ ev_UW ∧ (Cond.methodLink "OrphanTreeLaw" 337 pr_i201.1) ∈ ev_UW ∧ (ev_cw pr_i201 3) ∈ ev_UW ∧ (Cond.instanceMethod pr_i201.1) ∈ ev_UW ∧ (Cond.selects pr_i201.1.cls pr_i201.1 pr_i201.1) ∈ ev_UW ∧ (ev_cw pr_i198 1) ∈ ev_UW ∧ (Cond.instanceMethod pr_i198.1) ∈ ev_UW ∧ (Cond.selects pr_i198.1.cls pr_i198.1 pr_i198.1) ∈ ev_UW ∧ (Cond.methodLink "OrphanTreeLaw" 365 pr_i202.1) ∈ ev_UW := by
  have e : (tables_1_8.drop 176).take 16 = [(Cond.instanceMethod pr_i198.1), (Cond.selects pr_i198.1.cls pr_i198.1 pr_i198.1), (ev_cw pr_i198 1), (Cond.methodLink "OrphanTreeLaw" 330 pr_i199.1), (Cond.instanceMethod pr_i199.1), (Cond.selects pr_i199.1.cls pr_i199.1 pr_i199.1), (ev_cw pr_i199 4), (Cond.methodLink "OrphanTreeLaw" 333 pr_i200.1), (Cond.instanceMethod pr_i200.1), (Cond.selects pr_i200.1.cls pr_i200.1 pr_i200.1), (ev_cw pr_i200 4), (Cond.methodLink "OrphanTreeLaw" 337 pr_i201.1), (Cond.instanceMethod pr_i201.1), (Cond.selects pr_i201.1.cls pr_i201.1 pr_i201.1), (ev_cw pr_i201 3), (Cond.methodLink "OrphanTreeLaw" 365 pr_i202.1)] := rfl
  exact ⟨uw_s tk_8 176 e 3 rfl rfl, uw_s tk_8 176 e 6 rfl rfl, uw_s tk_8 176 e 4 rfl rfl, uw_s tk_8 176 e 5 rfl rfl, uw_s tk_8 176 e 7 rfl rfl, uw_s tk_8 176 e 10 rfl rfl, uw_s tk_8 176 e 8 rfl rfl, uw_s tk_8 176 e 9 rfl rfl, uw_s tk_8 176 e 11 rfl rfl, uw_s tk_8 176 e 14 rfl rfl, uw_s tk_8 176 e 12 rfl rfl, uw_s tk_8 176 e 13 rfl rfl, uw_s tk_8 176 e 2 rfl rfl, uw_s tk_8 176 e 0 rfl rfl, uw_s tk_8 176 e 1 rfl rfl, uw_s tk_8 176 e 15 rfl rfl⟩
theorem pw_m_q15_330 : Cond.methodLink "OrphanTreeLaw" 330 (pr_I 199).1 ∈ ev_UW := wk_m qI_199 pt_w8_11.1
theorem pw_c_199 : ev_cw (pr_I 199) (pr_P 199).1 ∈ ev_UW := wk_c qI_199 pp_199 pt_w8_11.2.1
theorem pw_v_199 : Cond.instanceMethod (pr_I 199).1 ∈ ev_UW := wk_v qI_199 pt_w8_11.2.2.1
theorem pw_s_199 : Cond.selects (pr_I 199).1.cls (pr_I 199).1 (pr_I 199).1 ∈ ev_UW := wk_s qI_199 pt_w8_11.2.2.2.1
theorem pw_m_q15_333 : Cond.methodLink "OrphanTreeLaw" 333 (pr_I 200).1 ∈ ev_UW := wk_m qI_200 pt_w8_11.2.2.2.2.1
theorem pw_c_200 : ev_cw (pr_I 200) (pr_P 200).1 ∈ ev_UW := wk_c qI_200 pp_200 pt_w8_11.2.2.2.2.2.1
theorem pw_v_200 : Cond.instanceMethod (pr_I 200).1 ∈ ev_UW := wk_v qI_200 pt_w8_11.2.2.2.2.2.2.1
theorem pw_s_200 : Cond.selects (pr_I 200).1.cls (pr_I 200).1 (pr_I 200).1 ∈ ev_UW := wk_s qI_200 pt_w8_11.2.2.2.2.2.2.2.1
theorem pw_m_q15_337 : Cond.methodLink "OrphanTreeLaw" 337 (pr_I 201).1 ∈ ev_UW := wk_m qI_201 pt_w8_11.2.2.2.2.2.2.2.2.1
theorem pw_c_201 : ev_cw (pr_I 201) (pr_P 201).1 ∈ ev_UW := wk_c qI_201 pp_201 pt_w8_11.2.2.2.2.2.2.2.2.2.1
theorem pw_v_201 : Cond.instanceMethod (pr_I 201).1 ∈ ev_UW := wk_v qI_201 pt_w8_11.2.2.2.2.2.2.2.2.2.2.1
theorem pw_s_201 : Cond.selects (pr_I 201).1.cls (pr_I 201).1 (pr_I 201).1 ∈ ev_UW := wk_s qI_201 pt_w8_11.2.2.2.2.2.2.2.2.2.2.2.1
theorem pw_c_198 : ev_cw (pr_I 198) (pr_P 198).1 ∈ ev_UW := wk_c qI_198 pp_198 pt_w8_11.2.2.2.2.2.2.2.2.2.2.2.2.1
theorem pw_v_198 : Cond.instanceMethod (pr_I 198).1 ∈ ev_UW := wk_v qI_198 pt_w8_11.2.2.2.2.2.2.2.2.2.2.2.2.2.1
theorem pw_s_198 : Cond.selects (pr_I 198).1.cls (pr_I 198).1 (pr_I 198).1 ∈ ev_UW := wk_s qI_198 pt_w8_11.2.2.2.2.2.2.2.2.2.2.2.2.2.2.1
theorem pw_m_q15_365 : Cond.methodLink "OrphanTreeLaw" 365 (pr_I 202).1 ∈ ev_UW := wk_m qI_202 pt_w8_11.2.2.2.2.2.2.2.2.2.2.2.2.2.2.2
theorem pt_w1_10 : (Cond.fieldLinkNest "OrphanTree" 99 (TX5 9).1 (TX5 9).2.1 (TX5 9).2.2.1 "OrphanTree") ∈ lw_tbl := by
  have e : (tables_1_1.drop 160).take 16 = [(Cond.fieldLinkNest "OrphanTree" 99 (TX5 9).1 (TX5 9).2.1 (TX5 9).2.2.1 "OrphanTree"), _, _, _, _, _, _, _, _, _, _, _, _, _, _, _] := rfl
  exact tw_s tk_1 160 e 0 rfl
theorem pw_f_q0_99 : Cond.fieldLinkNest "OrphanTree" 99 (TX5 9).1 (TX5 9).2.1 (TX5 9).2.2.1 "OrphanTree" ∈ lw_tbl := pt_w1_10
theorem js_all : ∀ x ∈ js_ws, x ∈ ev_UW := xs_u (xs_in pt_PP [(2, 113), (2, 109), (2, 123), (2, 119), (2, 129), (2, 126), (2, 134), (2, 110), (2, 120), (2, 124), (2, 127), (2, 132), (2, 111), (2, 121), (2, 107), (2, 117), (2, 112), (2, 122), (2, 108), (2, 118), (2, 125), (2, 128), (2, 133), (1, 9), (1, 10), (1, 11), (2, 114), (9, 32), (9, 31), (2, 130)] (by decide +kernel)) (by decide +kernel)
theorem nh_q1 : "OrphanTree$Tree" ≠ "java/lang/invoke/MethodHandle" ∧ "OrphanTree$Tree" ≠ "java/lang/invoke/VarHandle" := by decide
theorem nh_q2 : "OrphanTree$History" ≠ "java/lang/invoke/MethodHandle" ∧ "OrphanTree$History" ≠ "java/lang/invoke/VarHandle" := by decide
theorem nh_q3 : "OrphanTree$SetupReader" ≠ "java/lang/invoke/MethodHandle" ∧ "OrphanTree$SetupReader" ≠ "java/lang/invoke/VarHandle" := by decide
theorem nh_q4 : "OrphanTree$Output" ≠ "java/lang/invoke/MethodHandle" ∧ "OrphanTree$Output" ≠ "java/lang/invoke/VarHandle" := by decide
theorem nh_q5 : "OrphanTree$Input" ≠ "java/lang/invoke/MethodHandle" ∧ "OrphanTree$Input" ≠ "java/lang/invoke/VarHandle" := by decide
theorem nh_q6 : "java/lang/Integer" ≠ "java/lang/invoke/MethodHandle" ∧ "java/lang/Integer" ≠ "java/lang/invoke/VarHandle" := by decide
theorem nh_q0 : "OrphanTree" ≠ "java/lang/invoke/MethodHandle" ∧ "OrphanTree" ≠ "java/lang/invoke/VarHandle" := by decide
theorem nh_q8 : "OrphanTree$Proc" ≠ "java/lang/invoke/MethodHandle" ∧ "OrphanTree$Proc" ≠ "java/lang/invoke/VarHandle" := by decide
theorem nh_q12 : "OrphanTreeModel" ≠ "java/lang/invoke/MethodHandle" ∧ "OrphanTreeModel" ≠ "java/lang/invoke/VarHandle" := by decide
theorem nh_q15 : "OrphanTreeLaw" ≠ "java/lang/invoke/MethodHandle" ∧ "OrphanTreeLaw" ≠ "java/lang/invoke/VarHandle" := by decide
/-! ===== what the calls take of them (own work, by program: wip/p2/gen3.py) ===== -/
section PGV
variable {i n ml9 mc ms ci k : Nat} {M : ev_M} {x : ev_Im} {rr : vw_C}
theorem pG_of (e : pr_P i = M) (q : pr_I i = x) (h1 : M.1 = ml9) (h2 : M.2.1 = mc) (h3 : M.2.2.1 = ms) (h4 : Nat.ble ml9 51 = true) (h5 : ev_cw (pr_I i) (pr_P i).1 ∈ ev_UW) (h6 : Cond.initialized x.1.cls ∈ ev_UW) (h7 : x.1.cls ≠ "java/lang/invoke/MethodHandle" ∧ x.1.cls ≠ "java/lang/invoke/VarHandle") (h8 : (parseMethodDescriptor x.1.desc).map (fun d => d.parameters.length) = some n) : pr_G i n ml9 mc ms := by
  unfold pr_G
  refine ⟨?_, ?_, ?_, Nat.le_of_ble_eq_true h4, h5, ?_, ?_, ?_, ?_⟩
  · rw [e]; exact h1
  · rw [e]; exact h2
  · rw [e]; exact h3
  · rw [q]; exact h6
  · rw [q]; exact h7.1
  · rw [q]; exact h7.2
  · rw [q]; exact h8
theorem pV_of (q : pr_I i = x) (h1 : vwCl[ci]? = some rr) (h2 : rr.1 = x.1.cls) (h3 : x.2.2.2 = []) (h4 : Cond.instanceMethod (pr_I i).1 ∈ ev_UW) (h5 : Cond.selects (pr_I i).1.cls (pr_I i).1 (pr_I i).1 ∈ ev_UW) : pr_GV i ci := by
  unfold pr_GV
  refine ⟨⟨rr, h1, ?_⟩, ?_, h4, h5⟩
  · rw [q]; exact h2
  · rw [q]; exact h3
end PGV

theorem ds_0 : (parseMethodDescriptor "()V").map (fun d => d.parameters.length) = some 0 := by decide +kernel
theorem ds_1 : (parseMethodDescriptor "(I)V").map (fun d => d.parameters.length) = some 1 := by decide +kernel
theorem ds_2 : (parseMethodDescriptor "()Z").map (fun d => d.parameters.length) = some 0 := by decide +kernel
theorem ds_3 : (parseMethodDescriptor "(LOrphanTree$Tree;)V").map (fun d => d.parameters.length) = some 1 := by decide +kernel
theorem ds_4 : (parseMethodDescriptor "(I)I").map (fun d => d.parameters.length) = some 1 := by decide +kernel
theorem ds_5 : (parseMethodDescriptor "(LOrphanTree$Proc;)I").map (fun d => d.parameters.length) = some 1 := by decide +kernel
theorem ds_6 : (parseMethodDescriptor "(I)LOrphanTree$Proc;").map (fun d => d.parameters.length) = some 1 := by decide +kernel
theorem ds_7 : (parseMethodDescriptor "()I").map (fun d => d.parameters.length) = some 0 := by decide +kernel
theorem ds_8 : (parseMethodDescriptor "(II)V").map (fun d => d.parameters.length) = some 2 := by decide +kernel
theorem ds_9 : (parseMethodDescriptor "(Z)V").map (fun d => d.parameters.length) = some 1 := by decide +kernel
theorem ds_10 : (parseMethodDescriptor "(LOrphanTree$Proc;)Z").map (fun d => d.parameters.length) = some 1 := by decide +kernel
theorem ds_11 : (parseMethodDescriptor "(LOrphanTree$Proc;LOrphanTree$Proc;)LOrphanTree$Proc;").map (fun d => d.parameters.length) = some 2 := by decide +kernel
theorem ds_12 : (parseMethodDescriptor "(LOrphanTree$Proc;I)I").map (fun d => d.parameters.length) = some 2 := by decide +kernel
theorem ds_13 : (parseMethodDescriptor "(LOrphanTree$Proc;)LOrphanTree$Proc;").map (fun d => d.parameters.length) = some 1 := by decide +kernel
theorem ds_14 : (parseMethodDescriptor "(LOrphanTree$Proc;III)LOrphanTree$Proc;").map (fun d => d.parameters.length) = some 4 := by decide +kernel
theorem ds_15 : (parseMethodDescriptor "(II)LOrphanTree$Proc;").map (fun d => d.parameters.length) = some 2 := by decide +kernel
theorem ds_16 : (parseMethodDescriptor "(II)I").map (fun d => d.parameters.length) = some 2 := by decide +kernel
theorem ds_17 : (parseMethodDescriptor "(LOrphanTree$Proc;I)LOrphanTree$Proc;").map (fun d => d.parameters.length) = some 2 := by decide +kernel
theorem ds_18 : (parseMethodDescriptor "(I)Z").map (fun d => d.parameters.length) = some 1 := by decide +kernel
theorem ds_19 : (parseMethodDescriptor "(LOrphanTree$Proc;)V").map (fun d => d.parameters.length) = some 1 := by decide +kernel
theorem ds_20 : (parseMethodDescriptor "(ILOrphanTree$Proc;)V").map (fun d => d.parameters.length) = some 2 := by decide +kernel
theorem ds_21 : (parseMethodDescriptor "(LOrphanTree$Proc;LOrphanTree$Proc;)Z").map (fun d => d.parameters.length) = some 2 := by decide +kernel
theorem ds_22 : (parseMethodDescriptor "(LOrphanTree$Tree;LOrphanTree$Proc;)V").map (fun d => d.parameters.length) = some 2 := by decide +kernel
theorem ds_23 : (parseMethodDescriptor "(LOrphanTree$Output;LOrphanTree$Tree;LOrphanTree$Proc;I)V").map (fun d => d.parameters.length) = some 4 := by decide +kernel
theorem ds_24 : (parseMethodDescriptor "(C)V").map (fun d => d.parameters.length) = some 1 := by decide +kernel
theorem ds_25 : (parseMethodDescriptor "(LOrphanTree$Tree;)Z").map (fun d => d.parameters.length) = some 1 := by decide +kernel
theorem ds_26 : (parseMethodDescriptor "(IIII)I").map (fun d => d.parameters.length) = some 4 := by decide +kernel
theorem ds_27 : (parseMethodDescriptor "([II[III)V").map (fun d => d.parameters.length) = some 5 := by decide +kernel
theorem ds_28 : (parseMethodDescriptor "(III)Z").map (fun d => d.parameters.length) = some 3 := by decide +kernel
theorem ds_29 : (parseMethodDescriptor "(II)Z").map (fun d => d.parameters.length) = some 2 := by decide +kernel
theorem ds_30 : (parseMethodDescriptor "(IIZ)I").map (fun d => d.parameters.length) = some 3 := by decide +kernel
theorem ds_31 : (parseMethodDescriptor "(III)I").map (fun d => d.parameters.length) = some 3 := by decide +kernel
theorem ds_32 : (parseMethodDescriptor "(Ljava/lang/String;)Z").map (fun d => d.parameters.length) = some 1 := by decide +kernel
theorem ds_33 : (parseMethodDescriptor "(ZI)Z").map (fun d => d.parameters.length) = some 2 := by decide +kernel
theorem ds_34 : (parseMethodDescriptor "(IIII)V").map (fun d => d.parameters.length) = some 4 := by decide +kernel
theorem ds_35 : (parseMethodDescriptor "(LOrphanTree$Proc;LOrphanTree$Proc;)V").map (fun d => d.parameters.length) = some 2 := by decide +kernel
theorem ds_36 : (parseMethodDescriptor "(LOrphanTree$Proc;LOrphanTree$Proc;Z)LOrphanTree$Proc;").map (fun d => d.parameters.length) = some 3 := by decide +kernel
theorem ds_37 : (parseMethodDescriptor "(IIIII)I").map (fun d => d.parameters.length) = some 5 := by decide +kernel
theorem ds_38 : (parseMethodDescriptor "(LOrphanTree;I[J)I").map (fun d => d.parameters.length) = some 3 := by decide +kernel
theorem ds_39 : (parseMethodDescriptor "(LOrphanTree;II[J)I").map (fun d => d.parameters.length) = some 4 := by decide +kernel
theorem ds_40 : (parseMethodDescriptor "(LOrphanTree;IIII[J)I").map (fun d => d.parameters.length) = some 6 := by decide +kernel
theorem ds_41 : (parseMethodDescriptor "(LOrphanTree;III[J)I").map (fun d => d.parameters.length) = some 5 := by decide +kernel
theorem ds_42 : (parseMethodDescriptor "()D").map (fun d => d.parameters.length) = some 0 := by decide +kernel
theorem ds_43 : (parseMethodDescriptor "()F").map (fun d => d.parameters.length) = some 0 := by decide +kernel
theorem ds_44 : (parseMethodDescriptor "(LOrphanTree;[J)I").map (fun d => d.parameters.length) = some 2 := by decide +kernel
theorem pg_269 : pr_G 269 0 2 43 653 := pG_of (M := pr_m269) rfl qI_269 rfl rfl rfl rfl pw_c_269 pw_i_q1 nh_q1 ds_0
theorem pg_218 : pr_G 218 0 2 441 6640 := pG_of (M := pr_m218) rfl qI_218 rfl rfl rfl rfl pw_c_218 pw_i_q2 nh_q2 ds_0
theorem pg_249 : pr_G 249 0 1 46 1165 := pG_of (M := pr_m249) rfl qI_249 rfl rfl rfl rfl pw_c_249 pw_i_q3 nh_q3 ds_0
theorem pg_224 : pr_G 224 0 1 1 300 := pG_of (M := pr_m224) rfl qI_224 rfl rfl rfl rfl pw_c_224 pw_i_q4 nh_q4 ds_0
theorem pg_222 : pr_G 222 1 3 0 0 := pG_of (M := pr_m222) rfl qI_222 rfl rfl rfl rfl pw_c_222 pw_i_q5 nh_q5 ds_1
theorem pg_250 : pr_G 250 0 1 0 0 := pG_of (M := pr_m250) rfl qI_250 rfl rfl rfl rfl pw_c_250 pw_i_q3 nh_q3 ds_0
theorem pg_251 : pr_G 251 0 1 0 0 := pG_of (M := pr_m251) rfl qI_251 rfl rfl rfl rfl pw_c_251 pw_i_q3 nh_q3 ds_2
theorem pg_273 : pr_G 273 1 4 0 0 := pG_of (M := pr_m273) rfl qI_273 rfl rfl rfl rfl pw_c_273 pw_i_q1 nh_q1 ds_3
theorem pg_275 : pr_G 275 1 7 0 0 := pG_of (M := pr_m275) rfl qI_275 rfl rfl rfl rfl pw_c_275 pw_i_q1 nh_q1 ds_4
theorem pg_285 : pr_G 285 1 4 0 0 := pG_of (M := pr_m285) rfl qI_285 rfl rfl rfl rfl pw_c_285 pw_i_q1 nh_q1 ds_5
theorem pg_353 : pr_G 353 1 1 0 0 := pG_of (M := pr_m353) rfl qI_353 rfl rfl rfl rfl pw_c_353 pw_i_q6 nh_q6 ds_4
theorem pg_65 : pr_G 65 1 3 1 6 := pG_of (M := pr_m65) rfl qI_65 rfl rfl rfl rfl pw_c_65 pw_i_q0 nh_q0 ds_6
theorem pg_68 : pr_G 68 1 1 0 0 := pG_of (M := pr_m68) rfl qI_68 rfl rfl rfl rfl pw_c_68 pw_i_q0 nh_q0 ds_5
theorem pg_242 : pr_G 242 0 1 0 0 := pG_of (M := pr_m242) rfl qI_242 rfl rfl rfl rfl pw_c_242 pw_i_q8 nh_q8 ds_7
theorem pg_277 : pr_G 277 1 7 0 0 := pG_of (M := pr_m277) rfl qI_277 rfl rfl rfl rfl pw_c_277 pw_i_q1 nh_q1 ds_5
theorem pg_248 : pr_G 248 0 3 0 0 := pG_of (M := pr_m248) rfl qI_248 rfl rfl rfl rfl pw_c_248 pw_i_q8 nh_q8 ds_7
theorem pg_66 : pr_G 66 2 2 1 6 := pG_of (M := pr_m66) rfl qI_66 rfl rfl rfl rfl pw_c_66 pw_i_q0 nh_q0 ds_8
theorem pg_283 : pr_G 283 1 3 0 0 := pG_of (M := pr_m283) rfl qI_283 rfl rfl rfl rfl pw_c_283 pw_i_q1 nh_q1 ds_6
theorem pg_67 : pr_G 67 1 1 1 6 := pG_of (M := pr_m67) rfl qI_67 rfl rfl rfl rfl pw_c_67 pw_i_q0 nh_q0 ds_9
theorem pg_243 : pr_G 243 0 3 0 0 := pG_of (M := pr_m243) rfl qI_243 rfl rfl rfl rfl pw_c_243 pw_i_q8 nh_q8 ds_7
theorem pg_244 : pr_G 244 1 3 0 0 := pG_of (M := pr_m244) rfl qI_244 rfl rfl rfl rfl pw_c_244 pw_i_q8 nh_q8 ds_10
theorem pg_279 : pr_G 279 2 4 0 0 := pG_of (M := pr_m279) rfl qI_279 rfl rfl rfl rfl pw_c_279 pw_i_q1 nh_q1 ds_11
theorem pg_276 : pr_G 276 2 8 0 0 := pG_of (M := pr_m276) rfl qI_276 rfl rfl rfl rfl pw_c_276 pw_i_q1 nh_q1 ds_12
theorem pg_282 : pr_G 282 1 4 0 0 := pG_of (M := pr_m282) rfl qI_282 rfl rfl rfl rfl pw_c_282 pw_i_q1 nh_q1 ds_13
theorem pg_235 : pr_G 235 0 1 0 0 := pG_of (M := pr_m235) rfl qI_235 rfl rfl rfl rfl pw_c_235 pw_i_q8 nh_q8 ds_2
theorem pg_278 : pr_G 278 0 6 0 0 := pG_of (M := pr_m278) rfl qI_278 rfl rfl rfl rfl pw_c_278 pw_i_q1 nh_q1 ds_7
theorem pg_219 : pr_G 219 1 2 0 0 := pG_of (M := pr_m219) rfl qI_219 rfl rfl rfl rfl pw_c_219 pw_i_q2 nh_q2 ds_3
theorem pg_286 : pr_G 286 4 6 0 0 := pG_of (M := pr_m286) rfl qI_286 rfl rfl rfl rfl pw_c_286 pw_i_q1 nh_q1 ds_14
theorem pg_69 : pr_G 69 2 4 3 18 := pG_of (M := pr_m69) rfl qI_69 rfl rfl rfl rfl pw_c_69 pw_i_q0 nh_q0 ds_15
theorem pg_287 : pr_G 287 2 11 0 0 := pG_of (M := pr_m287) rfl qI_287 rfl rfl rfl rfl pw_c_287 pw_i_q1 nh_q1 ds_12
theorem pg_70 : pr_G 70 2 2 2 12 := pG_of (M := pr_m70) rfl qI_70 rfl rfl rfl rfl pw_c_70 pw_i_q0 nh_q0 ds_8
theorem pg_299 : pr_G 299 2 8 0 0 := pG_of (M := pr_m299) rfl qI_299 rfl rfl rfl rfl pw_c_299 pw_i_q1 nh_q1 ds_16
theorem pg_281 : pr_G 281 2 8 0 0 := pG_of (M := pr_m281) rfl qI_281 rfl rfl rfl rfl pw_c_281 pw_i_q1 nh_q1 ds_17
theorem pg_236 : pr_G 236 0 1 0 0 := pG_of (M := pr_m236) rfl qI_236 rfl rfl rfl rfl pw_c_236 pw_i_q8 nh_q8 ds_2
theorem pg_300 : pr_G 300 2 8 0 0 := pG_of (M := pr_m300) rfl qI_300 rfl rfl rfl rfl pw_c_300 pw_i_q1 nh_q1 ds_12
theorem pg_241 : pr_G 241 1 2 0 0 := pG_of (M := pr_m241) rfl qI_241 rfl rfl rfl rfl pw_c_241 pw_i_q8 nh_q8 ds_18
theorem pg_245 : pr_G 245 1 2 0 0 := pG_of (M := pr_m245) rfl qI_245 rfl rfl rfl rfl pw_c_245 pw_i_q8 nh_q8 ds_19
theorem pg_284 : pr_G 284 2 3 0 0 := pG_of (M := pr_m284) rfl qI_284 rfl rfl rfl rfl pw_c_284 pw_i_q1 nh_q1 ds_20
theorem pg_293 : pr_G 293 1 5 0 0 := pG_of (M := pr_m293) rfl qI_293 rfl rfl rfl rfl pw_c_293 pw_i_q1 nh_q1 ds_13
theorem pg_291 : pr_G 291 1 7 0 0 := pG_of (M := pr_m291) rfl qI_291 rfl rfl rfl rfl pw_c_291 pw_i_q1 nh_q1 ds_13
theorem pg_71 : pr_G 71 2 4 0 0 := pG_of (M := pr_m71) rfl qI_71 rfl rfl rfl rfl pw_c_71 pw_i_q0 nh_q0 ds_16
theorem pg_274 : pr_G 274 1 2 0 0 := pG_of (M := pr_m274) rfl qI_274 rfl rfl rfl rfl pw_c_274 pw_i_q1 nh_q1 ds_6
theorem pg_237 : pr_G 237 0 1 0 0 := pG_of (M := pr_m237) rfl qI_237 rfl rfl rfl rfl pw_c_237 pw_i_q8 nh_q8 ds_2
theorem pg_303 : pr_G 303 2 5 0 0 := pG_of (M := pr_m303) rfl qI_303 rfl rfl rfl rfl pw_c_303 pw_i_q1 nh_q1 ds_12
theorem pg_302 : pr_G 302 1 7 0 0 := pG_of (M := pr_m302) rfl qI_302 rfl rfl rfl rfl pw_c_302 pw_i_q1 nh_q1 ds_5
theorem pg_298 : pr_G 298 2 3 0 0 := pG_of (M := pr_m298) rfl qI_298 rfl rfl rfl rfl pw_c_298 pw_i_q1 nh_q1 ds_21
theorem pg_301 : pr_G 301 1 4 0 0 := pG_of (M := pr_m301) rfl qI_301 rfl rfl rfl rfl pw_c_301 pw_i_q1 nh_q1 ds_5
theorem pg_238 : pr_G 238 1 2 0 0 := pG_of (M := pr_m238) rfl qI_238 rfl rfl rfl rfl pw_c_238 pw_i_q8 nh_q8 ds_10
theorem pg_227 : pr_G 227 1 5 0 0 := pG_of (M := pr_m227) rfl qI_227 rfl rfl rfl rfl pw_c_227 pw_i_q4 nh_q4 ds_19
theorem pg_228 : pr_G 228 2 7 0 0 := pG_of (M := pr_m228) rfl qI_228 rfl rfl rfl rfl pw_c_228 pw_i_q4 nh_q4 ds_22
theorem pg_72 : pr_G 72 4 9 0 0 := pG_of (M := pr_m72) rfl qI_72 rfl rfl rfl rfl pw_c_72 pw_i_q0 nh_q0 ds_23
theorem pg_229 : pr_G 229 2 5 0 0 := pG_of (M := pr_m229) rfl qI_229 rfl rfl rfl rfl pw_c_229 pw_i_q4 nh_q4 ds_22
theorem pg_230 : pr_G 230 2 5 0 0 := pG_of (M := pr_m230) rfl qI_230 rfl rfl rfl rfl pw_c_230 pw_i_q4 nh_q4 ds_22
theorem pg_225 : pr_G 225 1 2 0 0 := pG_of (M := pr_m225) rfl qI_225 rfl rfl rfl rfl pw_c_225 pw_i_q4 nh_q4 ds_24
theorem pg_220 : pr_G 220 1 2 0 0 := pG_of (M := pr_m220) rfl qI_220 rfl rfl rfl rfl pw_c_220 pw_i_q2 nh_q2 ds_25
theorem pg_226 : pr_G 226 1 2 0 0 := pG_of (M := pr_m226) rfl qI_226 rfl rfl rfl rfl pw_c_226 pw_i_q4 nh_q4 ds_1
theorem pg_78 : pr_G 78 0 2 0 0 := pG_of (M := pr_m78) rfl qI_78 rfl rfl rfl rfl pw_c_78 pw_i_q12 nh_q12 ds_0
theorem pg_79 : pr_G 79 4 7 0 0 := pG_of (M := pr_m79) rfl qI_79 rfl rfl rfl rfl pw_c_79 pw_i_q12 nh_q12 ds_26
theorem pg_77 : pr_G 77 5 6 0 0 := pG_of (M := pr_m77) rfl qI_77 rfl rfl rfl rfl pw_c_77 pw_i_q12 nh_q12 ds_27
theorem pg_84 : pr_G 84 3 4 0 0 := pG_of (M := pr_m84) rfl qI_84 rfl rfl rfl rfl pw_c_84 pw_i_q12 nh_q12 ds_28
theorem pg_83 : pr_G 83 1 2 0 0 := pG_of (M := pr_m83) rfl qI_83 rfl rfl rfl rfl pw_c_83 pw_i_q12 nh_q12 ds_18
theorem pg_85 : pr_G 85 2 5 0 0 := pG_of (M := pr_m85) rfl qI_85 rfl rfl rfl rfl pw_c_85 pw_i_q12 nh_q12 ds_16
theorem pg_88 : pr_G 88 2 4 0 0 := pG_of (M := pr_m88) rfl qI_88 rfl rfl rfl rfl pw_c_88 pw_i_q12 nh_q12 ds_29
theorem pg_86 : pr_G 86 1 2 0 0 := pG_of (M := pr_m86) rfl qI_86 rfl rfl rfl rfl pw_c_86 pw_i_q12 nh_q12 ds_4
theorem pg_89 : pr_G 89 1 4 0 0 := pG_of (M := pr_m89) rfl qI_89 rfl rfl rfl rfl pw_c_89 pw_i_q12 nh_q12 ds_4
theorem pg_87 : pr_G 87 2 3 0 0 := pG_of (M := pr_m87) rfl qI_87 rfl rfl rfl rfl pw_c_87 pw_i_q12 nh_q12 ds_29
theorem pg_91 : pr_G 91 2 3 0 0 := pG_of (M := pr_m91) rfl qI_91 rfl rfl rfl rfl pw_c_91 pw_i_q12 nh_q12 ds_29
theorem pg_92 : pr_G 92 2 4 0 0 := pG_of (M := pr_m92) rfl qI_92 rfl rfl rfl rfl pw_c_92 pw_i_q12 nh_q12 ds_16
theorem pg_93 : pr_G 93 3 6 0 0 := pG_of (M := pr_m93) rfl qI_93 rfl rfl rfl rfl pw_c_93 pw_i_q12 nh_q12 ds_30
theorem pg_94 : pr_G 94 2 4 0 0 := pG_of (M := pr_m94) rfl qI_94 rfl rfl rfl rfl pw_c_94 pw_i_q12 nh_q12 ds_16
theorem pg_95 : pr_G 95 2 4 0 0 := pG_of (M := pr_m95) rfl qI_95 rfl rfl rfl rfl pw_c_95 pw_i_q12 nh_q12 ds_16
theorem pg_96 : pr_G 96 3 4 0 0 := pG_of (M := pr_m96) rfl qI_96 rfl rfl rfl rfl pw_c_96 pw_i_q12 nh_q12 ds_31
theorem pg_101 : pr_G 101 1 4 0 0 := pG_of (M := pr_m101) rfl qI_101 rfl rfl rfl rfl pw_c_101 pw_i_q12 nh_q12 ds_4
theorem pg_102 : pr_G 102 1 3 0 0 := pG_of (M := pr_m102) rfl qI_102 rfl rfl rfl rfl pw_c_102 pw_i_q12 nh_q12 ds_4
theorem pg_99 : pr_G 99 2 5 0 0 := pG_of (M := pr_m99) rfl qI_99 rfl rfl rfl rfl pw_c_99 pw_i_q12 nh_q12 ds_16
theorem pg_100 : pr_G 100 2 4 0 0 := pG_of (M := pr_m100) rfl qI_100 rfl rfl rfl rfl pw_c_100 pw_i_q12 nh_q12 ds_16
theorem pg_97 : pr_G 97 2 5 0 0 := pG_of (M := pr_m97) rfl qI_97 rfl rfl rfl rfl pw_c_97 pw_i_q12 nh_q12 ds_16
theorem pg_98 : pr_G 98 2 3 0 0 := pG_of (M := pr_m98) rfl qI_98 rfl rfl rfl rfl pw_c_98 pw_i_q12 nh_q12 ds_8
theorem pg_103 : pr_G 103 1 4 0 0 := pG_of (M := pr_m103) rfl qI_103 rfl rfl rfl rfl pw_c_103 pw_i_q12 nh_q12 ds_4
theorem pg_104 : pr_G 104 2 7 0 0 := pG_of (M := pr_m104) rfl qI_104 rfl rfl rfl rfl pw_c_104 pw_i_q12 nh_q12 ds_16
theorem pg_106 : pr_G 106 1 3 0 0 := pG_of (M := pr_m106) rfl qI_106 rfl rfl rfl rfl pw_c_106 pw_i_q12 nh_q12 ds_1
theorem pg_75 : pr_G 75 3 3 0 0 := pG_of (M := pr_m75) rfl qI_75 rfl rfl rfl rfl pw_c_75 pw_i_q12 nh_q12 ds_28
theorem pg_109 : pr_G 109 1 2 0 0 := pG_of (M := pr_m109) rfl qI_109 rfl rfl rfl rfl pw_c_109 pw_i_q12 nh_q12 ds_4
theorem pg_111 : pr_G 111 0 1 0 0 := pG_of (M := pr_m111) rfl qI_111 rfl rfl rfl rfl pw_c_111 pw_i_q12 nh_q12 ds_7
theorem pg_112 : pr_G 112 1 2 0 0 := pG_of (M := pr_m112) rfl qI_112 rfl rfl rfl rfl pw_c_112 pw_i_q12 nh_q12 ds_18
theorem pg_114 : pr_G 114 2 3 0 0 := pG_of (M := pr_m114) rfl qI_114 rfl rfl rfl rfl pw_c_114 pw_i_q12 nh_q12 ds_29
theorem pg_110 : pr_G 110 0 2 0 0 := pG_of (M := pr_m110) rfl qI_110 rfl rfl rfl rfl pw_c_110 pw_i_q12 nh_q12 ds_0
theorem pg_113 : pr_G 113 1 3 0 0 := pG_of (M := pr_m113) rfl qI_113 rfl rfl rfl rfl pw_c_113 pw_i_q12 nh_q12 ds_32
theorem pg_116 : pr_G 116 1 2 0 0 := pG_of (M := pr_m116) rfl qI_116 rfl rfl rfl rfl pw_c_116 pw_i_q12 nh_q12 ds_18
theorem pg_115 : pr_G 115 3 4 0 0 := pG_of (M := pr_m115) rfl qI_115 rfl rfl rfl rfl pw_c_115 pw_i_q12 nh_q12 ds_28
theorem pg_117 : pr_G 117 0 1 0 0 := pG_of (M := pr_m117) rfl qI_117 rfl rfl rfl rfl pw_c_117 pw_i_q12 nh_q12 ds_7
theorem pg_121 : pr_G 121 0 3 0 0 := pG_of (M := pr_m121) rfl qI_121 rfl rfl rfl rfl pw_c_121 pw_i_q12 nh_q12 ds_2
theorem pg_118 : pr_G 118 0 1 0 0 := pG_of (M := pr_m118) rfl qI_118 rfl rfl rfl rfl pw_c_118 pw_i_q12 nh_q12 ds_2
theorem pg_119 : pr_G 119 0 1 0 0 := pG_of (M := pr_m119) rfl qI_119 rfl rfl rfl rfl pw_c_119 pw_i_q12 nh_q12 ds_2
theorem pg_120 : pr_G 120 0 1 0 0 := pG_of (M := pr_m120) rfl qI_120 rfl rfl rfl rfl pw_c_120 pw_i_q12 nh_q12 ds_2
theorem pg_122 : pr_G 122 0 1 0 0 := pG_of (M := pr_m122) rfl qI_122 rfl rfl rfl rfl pw_c_122 pw_i_q12 nh_q12 ds_2
theorem pg_123 : pr_G 123 0 1 0 0 := pG_of (M := pr_m123) rfl qI_123 rfl rfl rfl rfl pw_c_123 pw_i_q12 nh_q12 ds_2
theorem pg_124 : pr_G 124 0 1 0 0 := pG_of (M := pr_m124) rfl qI_124 rfl rfl rfl rfl pw_c_124 pw_i_q12 nh_q12 ds_2
theorem pg_125 : pr_G 125 0 1 0 0 := pG_of (M := pr_m125) rfl qI_125 rfl rfl rfl rfl pw_c_125 pw_i_q12 nh_q12 ds_2
theorem pg_126 : pr_G 126 0 1 0 0 := pG_of (M := pr_m126) rfl qI_126 rfl rfl rfl rfl pw_c_126 pw_i_q12 nh_q12 ds_2
theorem pg_127 : pr_G 127 0 1 0 0 := pG_of (M := pr_m127) rfl qI_127 rfl rfl rfl rfl pw_c_127 pw_i_q12 nh_q12 ds_2
theorem pg_76 : pr_G 76 2 3 0 0 := pG_of (M := pr_m76) rfl qI_76 rfl rfl rfl rfl pw_c_76 pw_i_q12 nh_q12 ds_33
theorem pg_131 : pr_G 131 1 4 0 0 := pG_of (M := pr_m131) rfl qI_131 rfl rfl rfl rfl pw_c_131 pw_i_q12 nh_q12 ds_4
theorem pg_132 : pr_G 132 1 4 0 0 := pG_of (M := pr_m132) rfl qI_132 rfl rfl rfl rfl pw_c_132 pw_i_q12 nh_q12 ds_4
theorem pg_135 : pr_G 135 1 2 0 0 := pG_of (M := pr_m135) rfl qI_135 rfl rfl rfl rfl pw_c_135 pw_i_q12 nh_q12 ds_18
theorem pg_133 : pr_G 133 1 4 0 0 := pG_of (M := pr_m133) rfl qI_133 rfl rfl rfl rfl pw_c_133 pw_i_q12 nh_q12 ds_4
theorem pg_139 : pr_G 139 2 3 0 0 := pG_of (M := pr_m139) rfl qI_139 rfl rfl rfl rfl pw_c_139 pw_i_q12 nh_q12 ds_29
theorem pg_142 : pr_G 142 1 2 0 0 := pG_of (M := pr_m142) rfl qI_142 rfl rfl rfl rfl pw_c_142 pw_i_q12 nh_q12 ds_18
theorem pg_146 : pr_G 146 2 3 0 0 := pG_of (M := pr_m146) rfl qI_146 rfl rfl rfl rfl pw_c_146 pw_i_q12 nh_q12 ds_29
theorem pg_145 : pr_G 145 2 4 0 0 := pG_of (M := pr_m145) rfl qI_145 rfl rfl rfl rfl pw_c_145 pw_i_q12 nh_q12 ds_16
theorem pg_149 : pr_G 149 1 4 0 0 := pG_of (M := pr_m149) rfl qI_149 rfl rfl rfl rfl pw_c_149 pw_i_q12 nh_q12 ds_4
theorem pg_152 : pr_G 152 2 4 0 0 := pG_of (M := pr_m152) rfl qI_152 rfl rfl rfl rfl pw_c_152 pw_i_q12 nh_q12 ds_16
theorem pg_90 : pr_G 90 0 3 0 0 := pG_of (M := pr_m90) rfl qI_90 rfl rfl rfl rfl pw_c_90 pw_i_q12 nh_q12 ds_7
theorem pg_151 : pr_G 151 1 4 0 0 := pG_of (M := pr_m151) rfl qI_151 rfl rfl rfl rfl pw_c_151 pw_i_q12 nh_q12 ds_4
theorem pg_155 : pr_G 155 0 3 0 0 := pG_of (M := pr_m155) rfl qI_155 rfl rfl rfl rfl pw_c_155 pw_i_q12 nh_q12 ds_7
theorem pg_157 : pr_G 157 1 1 0 0 := pG_of (M := pr_m157) rfl qI_157 rfl rfl rfl rfl pw_c_157 pw_i_q12 nh_q12 ds_18
theorem pg_80 : pr_G 80 0 1 0 0 := pG_of (M := pr_m80) rfl qI_80 rfl rfl rfl rfl pw_c_80 pw_i_q12 nh_q12 ds_0
theorem pg_159 : pr_G 159 2 3 0 0 := pG_of (M := pr_m159) rfl qI_159 rfl rfl rfl rfl pw_c_159 pw_i_q12 nh_q12 ds_29
theorem pg_161 : pr_G 161 2 3 0 0 := pG_of (M := pr_m161) rfl qI_161 rfl rfl rfl rfl pw_c_161 pw_i_q12 nh_q12 ds_29
theorem pg_105 : pr_G 105 2 7 0 0 := pG_of (M := pr_m105) rfl qI_105 rfl rfl rfl rfl pw_c_105 pw_i_q12 nh_q12 ds_16
theorem pg_136 : pr_G 136 2 3 0 0 := pG_of (M := pr_m136) rfl qI_136 rfl rfl rfl rfl pw_c_136 pw_i_q12 nh_q12 ds_29
theorem pg_168 : pr_G 168 3 5 0 0 := pG_of (M := pr_m168) rfl qI_168 rfl rfl rfl rfl pw_c_168 pw_i_q12 nh_q12 ds_31
theorem pg_173 : pr_G 173 1 4 0 0 := pG_of (M := pr_m173) rfl qI_173 rfl rfl rfl rfl pw_c_173 pw_i_q12 nh_q12 ds_4
theorem pg_137 : pr_G 137 2 3 0 0 := pG_of (M := pr_m137) rfl qI_137 rfl rfl rfl rfl pw_c_137 pw_i_q12 nh_q12 ds_29
theorem pg_81 : pr_G 81 0 1 0 0 := pG_of (M := pr_m81) rfl qI_81 rfl rfl rfl rfl pw_c_81 pw_i_q12 nh_q12 ds_0
theorem pg_82 : pr_G 82 0 1 0 0 := pG_of (M := pr_m82) rfl qI_82 rfl rfl rfl rfl pw_c_82 pw_i_q12 nh_q12 ds_0
theorem pg_180 : pr_G 180 2 4 0 0 := pG_of (M := pr_m180) rfl qI_180 rfl rfl rfl rfl pw_c_180 pw_i_q12 nh_q12 ds_16
theorem pg_205 : pr_G 205 1 2 0 0 := pG_of (M := pr_m205) rfl qI_205 rfl rfl rfl rfl pw_c_205 pw_i_q12 nh_q12 ds_1
theorem pg_208 : pr_G 208 1 2 0 0 := pG_of (M := pr_m208) rfl qI_208 rfl rfl rfl rfl pw_c_208 pw_i_q12 nh_q12 ds_1
theorem pg_206 : pr_G 206 2 4 0 0 := pG_of (M := pr_m206) rfl qI_206 rfl rfl rfl rfl pw_c_206 pw_i_q12 nh_q12 ds_16
theorem pg_207 : pr_G 207 1 3 0 0 := pG_of (M := pr_m207) rfl qI_207 rfl rfl rfl rfl pw_c_207 pw_i_q12 nh_q12 ds_1
theorem pg_211 : pr_G 211 1 4 0 0 := pG_of (M := pr_m211) rfl qI_211 rfl rfl rfl rfl pw_c_211 pw_i_q12 nh_q12 ds_1
theorem pg_209 : pr_G 209 1 3 0 0 := pG_of (M := pr_m209) rfl qI_209 rfl rfl rfl rfl pw_c_209 pw_i_q12 nh_q12 ds_1
theorem pg_210 : pr_G 210 1 3 0 0 := pG_of (M := pr_m210) rfl qI_210 rfl rfl rfl rfl pw_c_210 pw_i_q12 nh_q12 ds_1
theorem pg_212 : pr_G 212 1 4 0 0 := pG_of (M := pr_m212) rfl qI_212 rfl rfl rfl rfl pw_c_212 pw_i_q12 nh_q12 ds_1
theorem pg_231 : pr_G 231 0 1 0 0 := pG_of (M := pr_m231) rfl qI_231 rfl rfl rfl rfl pw_c_231 pw_i_q4 nh_q4 ds_0
theorem pg_246 : pr_G 246 1 2 0 0 := pG_of (M := pr_m246) rfl qI_246 rfl rfl rfl rfl pw_c_246 pw_i_q8 nh_q8 ds_4
theorem pg_221 : pr_G 221 0 1 1 500 := pG_of (M := pr_m221) rfl qI_221 rfl rfl rfl rfl pw_c_221 pw_i_q5 nh_q5 ds_0
theorem pg_270 : pr_G 270 0 5 0 0 := pG_of (M := pr_m270) rfl qI_270 rfl rfl rfl rfl pw_c_270 pw_i_q1 nh_q1 ds_0
theorem pg_265 : pr_G 265 0 1 0 0 := pG_of (M := pr_m265) rfl qI_265 rfl rfl rfl rfl pw_c_265 pw_i_q3 nh_q3 ds_0
theorem pg_268 : pr_G 268 1 4 0 0 := pG_of (M := pr_m268) rfl qI_268 rfl rfl rfl rfl pw_c_268 pw_i_q3 nh_q3 ds_32
theorem pg_252 : pr_G 252 0 3 0 0 := pG_of (M := pr_m252) rfl qI_252 rfl rfl rfl rfl pw_c_252 pw_i_q3 nh_q3 ds_2
theorem pg_254 : pr_G 254 0 1 0 0 := pG_of (M := pr_m254) rfl qI_254 rfl rfl rfl rfl pw_c_254 pw_i_q3 nh_q3 ds_2
theorem pg_255 : pr_G 255 0 1 0 0 := pG_of (M := pr_m255) rfl qI_255 rfl rfl rfl rfl pw_c_255 pw_i_q3 nh_q3 ds_2
theorem pg_256 : pr_G 256 0 4 0 0 := pG_of (M := pr_m256) rfl qI_256 rfl rfl rfl rfl pw_c_256 pw_i_q3 nh_q3 ds_2
theorem pg_257 : pr_G 257 0 3 0 0 := pG_of (M := pr_m257) rfl qI_257 rfl rfl rfl rfl pw_c_257 pw_i_q3 nh_q3 ds_2
theorem pg_258 : pr_G 258 0 3 0 0 := pG_of (M := pr_m258) rfl qI_258 rfl rfl rfl rfl pw_c_258 pw_i_q3 nh_q3 ds_2
theorem pg_259 : pr_G 259 0 2 0 0 := pG_of (M := pr_m259) rfl qI_259 rfl rfl rfl rfl pw_c_259 pw_i_q3 nh_q3 ds_2
theorem pg_260 : pr_G 260 0 4 0 0 := pG_of (M := pr_m260) rfl qI_260 rfl rfl rfl rfl pw_c_260 pw_i_q3 nh_q3 ds_2
theorem pg_264 : pr_G 264 1 2 0 0 := pG_of (M := pr_m264) rfl qI_264 rfl rfl rfl rfl pw_c_264 pw_i_q3 nh_q3 ds_18
theorem pg_272 : pr_G 272 0 2 0 0 := pG_of (M := pr_m272) rfl qI_272 rfl rfl rfl rfl pw_c_272 pw_i_q1 nh_q1 ds_0
theorem pg_253 : pr_G 253 0 1 0 0 := pG_of (M := pr_m253) rfl qI_253 rfl rfl rfl rfl pw_c_253 pw_i_q3 nh_q3 ds_7
theorem pg_271 : pr_G 271 1 6 0 0 := pG_of (M := pr_m271) rfl qI_271 rfl rfl rfl rfl pw_c_271 pw_i_q1 nh_q1 ds_18
theorem pg_262 : pr_G 262 2 3 0 0 := pG_of (M := pr_m262) rfl qI_262 rfl rfl rfl rfl pw_c_262 pw_i_q3 nh_q3 ds_29
theorem pg_263 : pr_G 263 0 1 0 0 := pG_of (M := pr_m263) rfl qI_263 rfl rfl rfl rfl pw_c_263 pw_i_q3 nh_q3 ds_2
theorem pg_261 : pr_G 261 1 2 0 0 := pG_of (M := pr_m261) rfl qI_261 rfl rfl rfl rfl pw_c_261 pw_i_q3 nh_q3 ds_6
theorem pg_247 : pr_G 247 2 3 0 0 := pG_of (M := pr_m247) rfl qI_247 rfl rfl rfl rfl pw_c_247 pw_i_q8 nh_q8 ds_8
theorem pg_223 : pr_G 223 1 2 0 0 := pG_of (M := pr_m223) rfl qI_223 rfl rfl rfl rfl pw_c_223 pw_i_q5 nh_q5 ds_4
theorem pg_266 : pr_G 266 1 1 0 0 := pG_of (M := pr_m266) rfl qI_266 rfl rfl rfl rfl pw_c_266 pw_i_q3 nh_q3 ds_18
theorem pg_267 : pr_G 267 1 1 0 0 := pG_of (M := pr_m267) rfl qI_267 rfl rfl rfl rfl pw_c_267 pw_i_q3 nh_q3 ds_4
theorem pg_232 : pr_G 232 1 2 0 0 := pG_of (M := pr_m232) rfl qI_232 rfl rfl rfl rfl pw_c_232 pw_i_q8 nh_q8 ds_1
theorem pg_233 : pr_G 233 4 5 0 0 := pG_of (M := pr_m233) rfl qI_233 rfl rfl rfl rfl pw_c_233 pw_i_q8 nh_q8 ds_34
theorem pg_234 : pr_G 234 1 2 0 0 := pG_of (M := pr_m234) rfl qI_234 rfl rfl rfl rfl pw_c_234 pw_i_q8 nh_q8 ds_19
theorem pg_239 : pr_G 239 1 2 0 0 := pG_of (M := pr_m239) rfl qI_239 rfl rfl rfl rfl pw_c_239 pw_i_q8 nh_q8 ds_10
theorem pg_280 : pr_G 280 2 7 0 0 := pG_of (M := pr_m280) rfl qI_280 rfl rfl rfl rfl pw_c_280 pw_i_q1 nh_q1 ds_17
theorem pg_288 : pr_G 288 2 4 0 0 := pG_of (M := pr_m288) rfl qI_288 rfl rfl rfl rfl pw_c_288 pw_i_q1 nh_q1 ds_11
theorem pg_289 : pr_G 289 2 5 0 0 := pG_of (M := pr_m289) rfl qI_289 rfl rfl rfl rfl pw_c_289 pw_i_q1 nh_q1 ds_35
theorem pg_292 : pr_G 292 2 3 0 0 := pG_of (M := pr_m292) rfl qI_292 rfl rfl rfl rfl pw_c_292 pw_i_q1 nh_q1 ds_35
theorem pg_290 : pr_G 290 2 4 0 0 := pG_of (M := pr_m290) rfl qI_290 rfl rfl rfl rfl pw_c_290 pw_i_q1 nh_q1 ds_17
theorem pg_240 : pr_G 240 0 1 0 0 := pG_of (M := pr_m240) rfl qI_240 rfl rfl rfl rfl pw_c_240 pw_i_q8 nh_q8 ds_2
theorem pg_294 : pr_G 294 2 4 0 0 := pG_of (M := pr_m294) rfl qI_294 rfl rfl rfl rfl pw_c_294 pw_i_q1 nh_q1 ds_11
theorem pg_295 : pr_G 295 3 11 0 0 := pG_of (M := pr_m295) rfl qI_295 rfl rfl rfl rfl pw_c_295 pw_i_q1 nh_q1 ds_36
theorem pg_296 : pr_G 296 2 8 0 0 := pG_of (M := pr_m296) rfl qI_296 rfl rfl rfl rfl pw_c_296 pw_i_q1 nh_q1 ds_11
theorem pg_297 : pr_G 297 2 7 0 0 := pG_of (M := pr_m297) rfl qI_297 rfl rfl rfl rfl pw_c_297 pw_i_q1 nh_q1 ds_11
theorem pg_304 : pr_G 304 1 7 0 0 := pG_of (M := pr_m304) rfl qI_304 rfl rfl rfl rfl pw_c_304 pw_i_q1 nh_q1 ds_13
theorem pg_6 : pr_G 6 1 2 1 6 := pG_of (M := pr_m6) rfl qI_6 rfl rfl rfl rfl pw_c_6 pw_i_q0 nh_q0 ds_4
theorem pg_7 : pr_G 7 2 4 2 12 := pG_of (M := pr_m7) rfl qI_7 rfl rfl rfl rfl pw_c_7 pw_i_q0 nh_q0 ds_16
theorem pg_8 : pr_G 8 1 2 1 6 := pG_of (M := pr_m8) rfl qI_8 rfl rfl rfl rfl pw_c_8 pw_i_q0 nh_q0 ds_4
theorem pg_10 : pr_G 10 1 3 2 12 := pG_of (M := pr_m10) rfl qI_10 rfl rfl rfl rfl pw_c_10 pw_i_q0 nh_q0 ds_4
theorem pg_11 : pr_G 11 2 5 2 12 := pG_of (M := pr_m11) rfl qI_11 rfl rfl rfl rfl pw_c_11 pw_i_q0 nh_q0 ds_29
theorem pg_12 : pr_G 12 2 5 3 18 := pG_of (M := pr_m12) rfl qI_12 rfl rfl rfl rfl pw_c_12 pw_i_q0 nh_q0 ds_16
theorem pg_13 : pr_G 13 1 2 1 6 := pG_of (M := pr_m13) rfl qI_13 rfl rfl rfl rfl pw_c_13 pw_i_q0 nh_q0 ds_4
theorem pg_14 : pr_G 14 1 4 1 6 := pG_of (M := pr_m14) rfl qI_14 rfl rfl rfl rfl pw_c_14 pw_i_q0 nh_q0 ds_4
theorem pg_17 : pr_G 17 4 6 5 30 := pG_of (M := pr_m17) rfl qI_17 rfl rfl rfl rfl pw_c_17 pw_i_q0 nh_q0 ds_26
theorem pg_18 : pr_G 18 2 4 3 18 := pG_of (M := pr_m18) rfl qI_18 rfl rfl rfl rfl pw_c_18 pw_i_q0 nh_q0 ds_16
theorem pg_19 : pr_G 19 2 3 2 12 := pG_of (M := pr_m19) rfl qI_19 rfl rfl rfl rfl pw_c_19 pw_i_q0 nh_q0 ds_16
theorem pg_20 : pr_G 20 1 4 3 18 := pG_of (M := pr_m20) rfl qI_20 rfl rfl rfl rfl pw_c_20 pw_i_q0 nh_q0 ds_4
theorem pg_21 : pr_G 21 2 4 3 18 := pG_of (M := pr_m21) rfl qI_21 rfl rfl rfl rfl pw_c_21 pw_i_q0 nh_q0 ds_16
theorem pg_22 : pr_G 22 2 5 3 18 := pG_of (M := pr_m22) rfl qI_22 rfl rfl rfl rfl pw_c_22 pw_i_q0 nh_q0 ds_29
theorem pg_23 : pr_G 23 2 6 3 18 := pG_of (M := pr_m23) rfl qI_23 rfl rfl rfl rfl pw_c_23 pw_i_q0 nh_q0 ds_16
theorem pg_24 : pr_G 24 2 5 3 18 := pG_of (M := pr_m24) rfl qI_24 rfl rfl rfl rfl pw_c_24 pw_i_q0 nh_q0 ds_16
theorem pg_25 : pr_G 25 2 5 3 18 := pG_of (M := pr_m25) rfl qI_25 rfl rfl rfl rfl pw_c_25 pw_i_q0 nh_q0 ds_16
theorem pg_26 : pr_G 26 2 5 4 24 := pG_of (M := pr_m26) rfl qI_26 rfl rfl rfl rfl pw_c_26 pw_i_q0 nh_q0 ds_16
theorem pg_27 : pr_G 27 2 5 3 18 := pG_of (M := pr_m27) rfl qI_27 rfl rfl rfl rfl pw_c_27 pw_i_q0 nh_q0 ds_16
theorem pg_28 : pr_G 28 1 3 2 12 := pG_of (M := pr_m28) rfl qI_28 rfl rfl rfl rfl pw_c_28 pw_i_q0 nh_q0 ds_4
theorem pg_29 : pr_G 29 1 3 2 12 := pG_of (M := pr_m29) rfl qI_29 rfl rfl rfl rfl pw_c_29 pw_i_q0 nh_q0 ds_4
theorem pg_30 : pr_G 30 2 3 3 18 := pG_of (M := pr_m30) rfl qI_30 rfl rfl rfl rfl pw_c_30 pw_i_q0 nh_q0 ds_16
theorem pg_31 : pr_G 31 2 3 3 18 := pG_of (M := pr_m31) rfl qI_31 rfl rfl rfl rfl pw_c_31 pw_i_q0 nh_q0 ds_16
theorem pg_32 : pr_G 32 3 5 4 24 := pG_of (M := pr_m32) rfl qI_32 rfl rfl rfl rfl pw_c_32 pw_i_q0 nh_q0 ds_31
theorem pg_33 : pr_G 33 2 3 2 12 := pG_of (M := pr_m33) rfl qI_33 rfl rfl rfl rfl pw_c_33 pw_i_q0 nh_q0 ds_16
theorem pg_34 : pr_G 34 1 9 1 6 := pG_of (M := pr_m34) rfl qI_34 rfl rfl rfl rfl pw_c_34 pw_i_q0 nh_q0 ds_4
theorem pg_35 : pr_G 35 1 8 1 6 := pG_of (M := pr_m35) rfl qI_35 rfl rfl rfl rfl pw_c_35 pw_i_q0 nh_q0 ds_4
theorem pg_38 : pr_G 38 1 7 1 6 := pG_of (M := pr_m38) rfl qI_38 rfl rfl rfl rfl pw_c_38 pw_i_q0 nh_q0 ds_4
theorem pg_39 : pr_G 39 1 2 1 6 := pG_of (M := pr_m39) rfl qI_39 rfl rfl rfl rfl pw_c_39 pw_i_q0 nh_q0 ds_4
theorem pg_40 : pr_G 40 1 7 1 6 := pG_of (M := pr_m40) rfl qI_40 rfl rfl rfl rfl pw_c_40 pw_i_q0 nh_q0 ds_4
theorem pg_43 : pr_G 43 2 4 3 18 := pG_of (M := pr_m43) rfl qI_43 rfl rfl rfl rfl pw_c_43 pw_i_q0 nh_q0 ds_16
theorem pg_44 : pr_G 44 2 8 3 18 := pG_of (M := pr_m44) rfl qI_44 rfl rfl rfl rfl pw_c_44 pw_i_q0 nh_q0 ds_16
theorem pg_45 : pr_G 45 1 3 2 12 := pG_of (M := pr_m45) rfl qI_45 rfl rfl rfl rfl pw_c_45 pw_i_q0 nh_q0 ds_4
theorem pg_46 : pr_G 46 1 2 1 6 := pG_of (M := pr_m46) rfl qI_46 rfl rfl rfl rfl pw_c_46 pw_i_q0 nh_q0 ds_4
theorem pg_47 : pr_G 47 1 8 1 6 := pG_of (M := pr_m47) rfl qI_47 rfl rfl rfl rfl pw_c_47 pw_i_q0 nh_q0 ds_4
theorem pg_49 : pr_G 49 1 8 2 12 := pG_of (M := pr_m49) rfl qI_49 rfl rfl rfl rfl pw_c_49 pw_i_q0 nh_q0 ds_4
theorem pg_50 : pr_G 50 1 2 2 12 := pG_of (M := pr_m50) rfl qI_50 rfl rfl rfl rfl pw_c_50 pw_i_q0 nh_q0 ds_4
theorem pg_51 : pr_G 51 2 3 2 12 := pG_of (M := pr_m51) rfl qI_51 rfl rfl rfl rfl pw_c_51 pw_i_q0 nh_q0 ds_16
theorem pg_53 : pr_G 53 2 5 3 18 := pG_of (M := pr_m53) rfl qI_53 rfl rfl rfl rfl pw_c_53 pw_i_q0 nh_q0 ds_16
theorem pg_54 : pr_G 54 1 3 2 12 := pG_of (M := pr_m54) rfl qI_54 rfl rfl rfl rfl pw_c_54 pw_i_q0 nh_q0 ds_4
theorem pg_55 : pr_G 55 3 4 5 30 := pG_of (M := pr_m55) rfl qI_55 rfl rfl rfl rfl pw_c_55 pw_i_q0 nh_q0 ds_31
theorem pg_56 : pr_G 56 1 3 1 6 := pG_of (M := pr_m56) rfl qI_56 rfl rfl rfl rfl pw_c_56 pw_i_q0 nh_q0 ds_4
theorem pg_57 : pr_G 57 1 10 1 6 := pG_of (M := pr_m57) rfl qI_57 rfl rfl rfl rfl pw_c_57 pw_i_q0 nh_q0 ds_4
theorem pg_58 : pr_G 58 1 8 1 6 := pG_of (M := pr_m58) rfl qI_58 rfl rfl rfl rfl pw_c_58 pw_i_q0 nh_q0 ds_4
theorem pg_59 : pr_G 59 1 8 1 6 := pG_of (M := pr_m59) rfl qI_59 rfl rfl rfl rfl pw_c_59 pw_i_q0 nh_q0 ds_4
theorem pg_60 : pr_G 60 2 4 3 18 := pG_of (M := pr_m60) rfl qI_60 rfl rfl rfl rfl pw_c_60 pw_i_q0 nh_q0 ds_16
theorem pg_64 : pr_G 64 0 1 1 6 := pG_of (M := pr_m64) rfl qI_64 rfl rfl rfl rfl pw_c_64 pw_i_q0 nh_q0 ds_7
theorem pg_0 : pr_G 0 0 1 623 10110 := pG_of (M := pr_m0) rfl qI_0 rfl rfl rfl rfl pw_c_0 pw_i_q0 nh_q0 ds_0
theorem pg_73 : pr_G 73 0 1 10 11904 := pG_of (M := pr_m73) rfl qI_73 rfl rfl rfl rfl pw_c_73 pw_i_q12 nh_q12 ds_0
theorem pg_1 : pr_G 1 5 7 0 0 := pG_of (M := pr_m1) rfl qI_1 rfl rfl rfl rfl pw_c_1 pw_i_q0 nh_q0 ds_37
theorem pg_107 : pr_G 107 5 6 0 0 := pG_of (M := pr_m107) rfl qI_107 rfl rfl rfl rfl pw_c_107 pw_i_q12 nh_q12 ds_37
theorem pg_2 : pr_G 2 1 2 0 0 := pG_of (M := pr_m2) rfl qI_2 rfl rfl rfl rfl pw_c_2 pw_i_q0 nh_q0 ds_18
theorem pg_108 : pr_G 108 1 2 0 0 := pG_of (M := pr_m108) rfl qI_108 rfl rfl rfl rfl pw_c_108 pw_i_q12 nh_q12 ds_18
theorem pg_3 : pr_G 3 0 3 0 0 := pG_of (M := pr_m3) rfl qI_3 rfl rfl rfl rfl pw_c_3 pw_i_q0 nh_q0 ds_7
theorem pg_128 : pr_G 128 0 2 0 0 := pG_of (M := pr_m128) rfl qI_128 rfl rfl rfl rfl pw_c_128 pw_i_q12 nh_q12 ds_7
theorem pg_4 : pr_G 4 0 1 0 0 := pG_of (M := pr_m4) rfl qI_4 rfl rfl rfl rfl pw_c_4 pw_i_q0 nh_q0 ds_7
theorem pg_129 : pr_G 129 0 1 0 0 := pG_of (M := pr_m129) rfl qI_129 rfl rfl rfl rfl pw_c_129 pw_i_q12 nh_q12 ds_7
theorem pg_5 : pr_G 5 0 1 0 0 := pG_of (M := pr_m5) rfl qI_5 rfl rfl rfl rfl pw_c_5 pw_i_q0 nh_q0 ds_7
theorem pg_130 : pr_G 130 0 1 0 0 := pG_of (M := pr_m130) rfl qI_130 rfl rfl rfl rfl pw_c_130 pw_i_q12 nh_q12 ds_7
theorem pg_305 : pr_G 305 3 4 1 6 := pG_of (M := pr_m305) rfl qI_305 rfl rfl rfl rfl pw_c_305 pw_i_q15 nh_q15 ds_38
theorem pg_134 : pr_G 134 1 2 0 0 := pG_of (M := pr_m134) rfl qI_134 rfl rfl rfl rfl pw_c_134 pw_i_q12 nh_q12 ds_4
theorem pg_306 : pr_G 306 4 5 2 12 := pG_of (M := pr_m306) rfl qI_306 rfl rfl rfl rfl pw_c_306 pw_i_q15 nh_q15 ds_39
theorem pg_138 : pr_G 138 2 3 0 0 := pG_of (M := pr_m138) rfl qI_138 rfl rfl rfl rfl pw_c_138 pw_i_q12 nh_q12 ds_16
theorem pg_307 : pr_G 307 3 4 1 6 := pG_of (M := pr_m307) rfl qI_307 rfl rfl rfl rfl pw_c_307 pw_i_q15 nh_q15 ds_38
theorem pg_140 : pr_G 140 1 2 0 0 := pG_of (M := pr_m140) rfl qI_140 rfl rfl rfl rfl pw_c_140 pw_i_q12 nh_q12 ds_4
theorem pg_9 : pr_G 9 1 2 0 0 := pG_of (M := pr_m9) rfl qI_9 rfl rfl rfl rfl pw_c_9 pw_i_q0 nh_q0 ds_4
theorem pg_141 : pr_G 141 1 2 0 0 := pG_of (M := pr_m141) rfl qI_141 rfl rfl rfl rfl pw_c_141 pw_i_q12 nh_q12 ds_4
theorem pg_308 : pr_G 308 3 4 2 12 := pG_of (M := pr_m308) rfl qI_308 rfl rfl rfl rfl pw_c_308 pw_i_q15 nh_q15 ds_38
theorem pg_143 : pr_G 143 1 2 0 0 := pG_of (M := pr_m143) rfl qI_143 rfl rfl rfl rfl pw_c_143 pw_i_q12 nh_q12 ds_4
theorem pg_309 : pr_G 309 4 5 2 12 := pG_of (M := pr_m309) rfl qI_309 rfl rfl rfl rfl pw_c_309 pw_i_q15 nh_q15 ds_39
theorem pg_144 : pr_G 144 2 3 0 0 := pG_of (M := pr_m144) rfl qI_144 rfl rfl rfl rfl pw_c_144 pw_i_q12 nh_q12 ds_29
theorem pg_310 : pr_G 310 4 5 3 18 := pG_of (M := pr_m310) rfl qI_310 rfl rfl rfl rfl pw_c_310 pw_i_q15 nh_q15 ds_39
theorem pg_147 : pr_G 147 2 3 0 0 := pG_of (M := pr_m147) rfl qI_147 rfl rfl rfl rfl pw_c_147 pw_i_q12 nh_q12 ds_16
theorem pg_311 : pr_G 311 3 4 1 6 := pG_of (M := pr_m311) rfl qI_311 rfl rfl rfl rfl pw_c_311 pw_i_q15 nh_q15 ds_38
theorem pg_150 : pr_G 150 1 2 0 0 := pG_of (M := pr_m150) rfl qI_150 rfl rfl rfl rfl pw_c_150 pw_i_q12 nh_q12 ds_4
theorem pg_312 : pr_G 312 3 4 1 6 := pG_of (M := pr_m312) rfl qI_312 rfl rfl rfl rfl pw_c_312 pw_i_q15 nh_q15 ds_38
theorem pg_153 : pr_G 153 1 4 0 0 := pG_of (M := pr_m153) rfl qI_153 rfl rfl rfl rfl pw_c_153 pw_i_q12 nh_q12 ds_4
theorem pg_15 : pr_G 15 1 7 0 0 := pG_of (M := pr_m15) rfl qI_15 rfl rfl rfl rfl pw_c_15 pw_i_q0 nh_q0 ds_4
theorem pg_154 : pr_G 154 1 4 0 0 := pG_of (M := pr_m154) rfl qI_154 rfl rfl rfl rfl pw_c_154 pw_i_q12 nh_q12 ds_4
theorem pg_16 : pr_G 16 0 1 0 0 := pG_of (M := pr_m16) rfl qI_16 rfl rfl rfl rfl pw_c_16 pw_i_q0 nh_q0 ds_7
theorem pg_156 : pr_G 156 0 1 0 0 := pG_of (M := pr_m156) rfl qI_156 rfl rfl rfl rfl pw_c_156 pw_i_q12 nh_q12 ds_7
theorem pg_313 : pr_G 313 6 7 5 30 := pG_of (M := pr_m313) rfl qI_313 rfl rfl rfl rfl pw_c_313 pw_i_q15 nh_q15 ds_40
theorem pg_158 : pr_G 158 4 5 0 0 := pG_of (M := pr_m158) rfl qI_158 rfl rfl rfl rfl pw_c_158 pw_i_q12 nh_q12 ds_26
theorem pg_314 : pr_G 314 4 5 3 18 := pG_of (M := pr_m314) rfl qI_314 rfl rfl rfl rfl pw_c_314 pw_i_q15 nh_q15 ds_39
theorem pg_160 : pr_G 160 2 3 0 0 := pG_of (M := pr_m160) rfl qI_160 rfl rfl rfl rfl pw_c_160 pw_i_q12 nh_q12 ds_16
theorem pg_315 : pr_G 315 4 5 2 12 := pG_of (M := pr_m315) rfl qI_315 rfl rfl rfl rfl pw_c_315 pw_i_q15 nh_q15 ds_39
theorem pg_162 : pr_G 162 2 3 0 0 := pG_of (M := pr_m162) rfl qI_162 rfl rfl rfl rfl pw_c_162 pw_i_q12 nh_q12 ds_16
theorem pg_316 : pr_G 316 3 4 3 18 := pG_of (M := pr_m316) rfl qI_316 rfl rfl rfl rfl pw_c_316 pw_i_q15 nh_q15 ds_38
theorem pg_163 : pr_G 163 1 3 0 0 := pG_of (M := pr_m163) rfl qI_163 rfl rfl rfl rfl pw_c_163 pw_i_q12 nh_q12 ds_4
theorem pg_317 : pr_G 317 4 5 3 18 := pG_of (M := pr_m317) rfl qI_317 rfl rfl rfl rfl pw_c_317 pw_i_q15 nh_q15 ds_39
theorem pg_165 : pr_G 165 2 5 0 0 := pG_of (M := pr_m165) rfl qI_165 rfl rfl rfl rfl pw_c_165 pw_i_q12 nh_q12 ds_16
theorem pg_318 : pr_G 318 4 5 3 18 := pG_of (M := pr_m318) rfl qI_318 rfl rfl rfl rfl pw_c_318 pw_i_q15 nh_q15 ds_39
theorem pg_166 : pr_G 166 2 4 0 0 := pG_of (M := pr_m166) rfl qI_166 rfl rfl rfl rfl pw_c_166 pw_i_q12 nh_q12 ds_29
theorem pg_319 : pr_G 319 4 5 3 18 := pG_of (M := pr_m319) rfl qI_319 rfl rfl rfl rfl pw_c_319 pw_i_q15 nh_q15 ds_39
theorem pg_167 : pr_G 167 2 4 0 0 := pG_of (M := pr_m167) rfl qI_167 rfl rfl rfl rfl pw_c_167 pw_i_q12 nh_q12 ds_16
theorem pg_320 : pr_G 320 4 5 3 18 := pG_of (M := pr_m320) rfl qI_320 rfl rfl rfl rfl pw_c_320 pw_i_q15 nh_q15 ds_39
theorem pg_169 : pr_G 169 2 3 0 0 := pG_of (M := pr_m169) rfl qI_169 rfl rfl rfl rfl pw_c_169 pw_i_q12 nh_q12 ds_16
theorem pg_321 : pr_G 321 4 5 3 18 := pG_of (M := pr_m321) rfl qI_321 rfl rfl rfl rfl pw_c_321 pw_i_q15 nh_q15 ds_39
theorem pg_170 : pr_G 170 2 3 0 0 := pG_of (M := pr_m170) rfl qI_170 rfl rfl rfl rfl pw_c_170 pw_i_q12 nh_q12 ds_16
theorem pg_74 : pr_G 74 0 1 0 0 := pG_of (M := pr_m74) rfl qI_74 rfl rfl rfl rfl pw_c_74 pw_i_q12 nh_q12 ds_7
theorem pg_322 : pr_G 322 4 5 4 24 := pG_of (M := pr_m322) rfl qI_322 rfl rfl rfl rfl pw_c_322 pw_i_q15 nh_q15 ds_39
theorem pg_171 : pr_G 171 2 4 0 0 := pG_of (M := pr_m171) rfl qI_171 rfl rfl rfl rfl pw_c_171 pw_i_q12 nh_q12 ds_16
theorem pg_323 : pr_G 323 4 5 3 18 := pG_of (M := pr_m323) rfl qI_323 rfl rfl rfl rfl pw_c_323 pw_i_q15 nh_q15 ds_39
theorem pg_172 : pr_G 172 2 4 0 0 := pG_of (M := pr_m172) rfl qI_172 rfl rfl rfl rfl pw_c_172 pw_i_q12 nh_q12 ds_16
theorem pg_324 : pr_G 324 3 4 2 12 := pG_of (M := pr_m324) rfl qI_324 rfl rfl rfl rfl pw_c_324 pw_i_q15 nh_q15 ds_38
theorem pg_177 : pr_G 177 1 2 0 0 := pG_of (M := pr_m177) rfl qI_177 rfl rfl rfl rfl pw_c_177 pw_i_q12 nh_q12 ds_4
theorem pg_325 : pr_G 325 3 4 2 12 := pG_of (M := pr_m325) rfl qI_325 rfl rfl rfl rfl pw_c_325 pw_i_q15 nh_q15 ds_38
theorem pg_179 : pr_G 179 1 2 0 0 := pG_of (M := pr_m179) rfl qI_179 rfl rfl rfl rfl pw_c_179 pw_i_q12 nh_q12 ds_4
theorem pg_326 : pr_G 326 4 5 3 18 := pG_of (M := pr_m326) rfl qI_326 rfl rfl rfl rfl pw_c_326 pw_i_q15 nh_q15 ds_39
theorem pg_181 : pr_G 181 2 3 0 0 := pG_of (M := pr_m181) rfl qI_181 rfl rfl rfl rfl pw_c_181 pw_i_q12 nh_q12 ds_16
theorem pg_327 : pr_G 327 4 5 3 18 := pG_of (M := pr_m327) rfl qI_327 rfl rfl rfl rfl pw_c_327 pw_i_q15 nh_q15 ds_39
theorem pg_182 : pr_G 182 2 5 0 0 := pG_of (M := pr_m182) rfl qI_182 rfl rfl rfl rfl pw_c_182 pw_i_q12 nh_q12 ds_16
theorem pg_328 : pr_G 328 5 6 4 24 := pG_of (M := pr_m328) rfl qI_328 rfl rfl rfl rfl pw_c_328 pw_i_q15 nh_q15 ds_41
theorem pg_183 : pr_G 183 3 6 0 0 := pG_of (M := pr_m183) rfl qI_183 rfl rfl rfl rfl pw_c_183 pw_i_q12 nh_q12 ds_31
theorem pg_329 : pr_G 329 4 5 2 12 := pG_of (M := pr_m329) rfl qI_329 rfl rfl rfl rfl pw_c_329 pw_i_q15 nh_q15 ds_39
theorem pg_185 : pr_G 185 2 6 0 0 := pG_of (M := pr_m185) rfl qI_185 rfl rfl rfl rfl pw_c_185 pw_i_q12 nh_q12 ds_16
theorem pg_330 : pr_G 330 3 4 1 6 := pG_of (M := pr_m330) rfl qI_330 rfl rfl rfl rfl pw_c_330 pw_i_q15 nh_q15 ds_38
theorem pg_187 : pr_G 187 1 6 0 0 := pG_of (M := pr_m187) rfl qI_187 rfl rfl rfl rfl pw_c_187 pw_i_q12 nh_q12 ds_4
theorem pg_331 : pr_G 331 3 4 1 6 := pG_of (M := pr_m331) rfl qI_331 rfl rfl rfl rfl pw_c_331 pw_i_q15 nh_q15 ds_38
theorem pg_190 : pr_G 190 1 4 0 0 := pG_of (M := pr_m190) rfl qI_190 rfl rfl rfl rfl pw_c_190 pw_i_q12 nh_q12 ds_4
theorem pg_36 : pr_G 36 0 6 0 0 := pG_of (M := pr_m36) rfl qI_36 rfl rfl rfl rfl pw_c_36 pw_i_q0 nh_q0 ds_7
theorem pg_191 : pr_G 191 0 3 0 0 := pG_of (M := pr_m191) rfl qI_191 rfl rfl rfl rfl pw_c_191 pw_i_q12 nh_q12 ds_7
theorem pg_37 : pr_G 37 0 6 0 0 := pG_of (M := pr_m37) rfl qI_37 rfl rfl rfl rfl pw_c_37 pw_i_q0 nh_q0 ds_7
theorem pg_192 : pr_G 192 0 3 0 0 := pG_of (M := pr_m192) rfl qI_192 rfl rfl rfl rfl pw_c_192 pw_i_q12 nh_q12 ds_7
theorem pg_332 : pr_G 332 3 4 1 6 := pG_of (M := pr_m332) rfl qI_332 rfl rfl rfl rfl pw_c_332 pw_i_q15 nh_q15 ds_38
theorem pg_193 : pr_G 193 1 4 0 0 := pG_of (M := pr_m193) rfl qI_193 rfl rfl rfl rfl pw_c_193 pw_i_q12 nh_q12 ds_4
theorem pg_333 : pr_G 333 3 4 1 6 := pG_of (M := pr_m333) rfl qI_333 rfl rfl rfl rfl pw_c_333 pw_i_q15 nh_q15 ds_38
theorem pg_194 : pr_G 194 1 2 0 0 := pG_of (M := pr_m194) rfl qI_194 rfl rfl rfl rfl pw_c_194 pw_i_q12 nh_q12 ds_4
theorem pg_334 : pr_G 334 3 4 1 6 := pG_of (M := pr_m334) rfl qI_334 rfl rfl rfl rfl pw_c_334 pw_i_q15 nh_q15 ds_38
theorem pg_195 : pr_G 195 1 2 0 0 := pG_of (M := pr_m195) rfl qI_195 rfl rfl rfl rfl pw_c_195 pw_i_q12 nh_q12 ds_4
theorem pg_41 : pr_G 41 0 7 0 0 := pG_of (M := pr_m41) rfl qI_41 rfl rfl rfl rfl pw_c_41 pw_i_q0 nh_q0 ds_42
theorem pg_196 : pr_G 196 0 3 0 0 := pG_of (M := pr_m196) rfl qI_196 rfl rfl rfl rfl pw_c_196 pw_i_q12 nh_q12 ds_42
theorem pg_42 : pr_G 42 0 1 0 0 := pG_of (M := pr_m42) rfl qI_42 rfl rfl rfl rfl pw_c_42 pw_i_q0 nh_q0 ds_43
theorem pg_197 : pr_G 197 0 1 0 0 := pG_of (M := pr_m197) rfl qI_197 rfl rfl rfl rfl pw_c_197 pw_i_q12 nh_q12 ds_43
theorem pg_335 : pr_G 335 4 5 3 18 := pG_of (M := pr_m335) rfl qI_335 rfl rfl rfl rfl pw_c_335 pw_i_q15 nh_q15 ds_39
theorem pg_174 : pr_G 174 2 6 0 0 := pG_of (M := pr_m174) rfl qI_174 rfl rfl rfl rfl pw_c_174 pw_i_q12 nh_q12 ds_16
theorem pg_336 : pr_G 336 4 5 3 18 := pG_of (M := pr_m336) rfl qI_336 rfl rfl rfl rfl pw_c_336 pw_i_q15 nh_q15 ds_39
theorem pg_175 : pr_G 175 2 6 0 0 := pG_of (M := pr_m175) rfl qI_175 rfl rfl rfl rfl pw_c_175 pw_i_q12 nh_q12 ds_16
theorem pg_337 : pr_G 337 3 4 2 12 := pG_of (M := pr_m337) rfl qI_337 rfl rfl rfl rfl pw_c_337 pw_i_q15 nh_q15 ds_38
theorem pg_164 : pr_G 164 1 2 0 0 := pG_of (M := pr_m164) rfl qI_164 rfl rfl rfl rfl pw_c_164 pw_i_q12 nh_q12 ds_4
theorem pg_338 : pr_G 338 3 4 1 6 := pG_of (M := pr_m338) rfl qI_338 rfl rfl rfl rfl pw_c_338 pw_i_q15 nh_q15 ds_38
theorem pg_199 : pr_G 199 1 4 0 0 := pG_of (M := pr_m199) rfl qI_199 rfl rfl rfl rfl pw_c_199 pw_i_q12 nh_q12 ds_4
theorem pg_339 : pr_G 339 3 4 1 6 := pG_of (M := pr_m339) rfl qI_339 rfl rfl rfl rfl pw_c_339 pw_i_q15 nh_q15 ds_38
theorem pg_200 : pr_G 200 1 4 0 0 := pG_of (M := pr_m200) rfl qI_200 rfl rfl rfl rfl pw_c_200 pw_i_q12 nh_q12 ds_4
theorem pg_48 : pr_G 48 0 7 0 0 := pG_of (M := pr_m48) rfl qI_48 rfl rfl rfl rfl pw_c_48 pw_i_q0 nh_q0 ds_7
theorem pg_201 : pr_G 201 0 3 0 0 := pG_of (M := pr_m201) rfl qI_201 rfl rfl rfl rfl pw_c_201 pw_i_q12 nh_q12 ds_7
theorem pg_340 : pr_G 340 3 4 2 12 := pG_of (M := pr_m340) rfl qI_340 rfl rfl rfl rfl pw_c_340 pw_i_q15 nh_q15 ds_38
theorem pg_178 : pr_G 178 1 4 0 0 := pG_of (M := pr_m178) rfl qI_178 rfl rfl rfl rfl pw_c_178 pw_i_q12 nh_q12 ds_4
theorem pg_341 : pr_G 341 3 4 2 12 := pG_of (M := pr_m341) rfl qI_341 rfl rfl rfl rfl pw_c_341 pw_i_q15 nh_q15 ds_38
theorem pg_188 : pr_G 188 1 2 0 0 := pG_of (M := pr_m188) rfl qI_188 rfl rfl rfl rfl pw_c_188 pw_i_q12 nh_q12 ds_4
theorem pg_342 : pr_G 342 4 5 2 12 := pG_of (M := pr_m342) rfl qI_342 rfl rfl rfl rfl pw_c_342 pw_i_q15 nh_q15 ds_39
theorem pg_186 : pr_G 186 2 5 0 0 := pG_of (M := pr_m186) rfl qI_186 rfl rfl rfl rfl pw_c_186 pw_i_q12 nh_q12 ds_16
theorem pg_52 : pr_G 52 0 1 0 0 := pG_of (M := pr_m52) rfl qI_52 rfl rfl rfl rfl pw_c_52 pw_i_q0 nh_q0 ds_42
theorem pg_198 : pr_G 198 0 1 0 0 := pG_of (M := pr_m198) rfl qI_198 rfl rfl rfl rfl pw_c_198 pw_i_q12 nh_q12 ds_42
theorem pg_343 : pr_G 343 4 5 3 18 := pG_of (M := pr_m343) rfl qI_343 rfl rfl rfl rfl pw_c_343 pw_i_q15 nh_q15 ds_39
theorem pg_148 : pr_G 148 2 3 0 0 := pG_of (M := pr_m148) rfl qI_148 rfl rfl rfl rfl pw_c_148 pw_i_q12 nh_q12 ds_16
theorem pg_344 : pr_G 344 3 4 2 12 := pG_of (M := pr_m344) rfl qI_344 rfl rfl rfl rfl pw_c_344 pw_i_q15 nh_q15 ds_38
theorem pg_176 : pr_G 176 1 4 0 0 := pG_of (M := pr_m176) rfl qI_176 rfl rfl rfl rfl pw_c_176 pw_i_q12 nh_q12 ds_4
theorem pg_345 : pr_G 345 5 6 5 30 := pG_of (M := pr_m345) rfl qI_345 rfl rfl rfl rfl pw_c_345 pw_i_q15 nh_q15 ds_41
theorem pg_184 : pr_G 184 3 6 0 0 := pG_of (M := pr_m184) rfl qI_184 rfl rfl rfl rfl pw_c_184 pw_i_q12 nh_q12 ds_31
theorem pg_346 : pr_G 346 3 4 1 6 := pG_of (M := pr_m346) rfl qI_346 rfl rfl rfl rfl pw_c_346 pw_i_q15 nh_q15 ds_38
theorem pg_189 : pr_G 189 1 4 0 0 := pG_of (M := pr_m189) rfl qI_189 rfl rfl rfl rfl pw_c_189 pw_i_q12 nh_q12 ds_4
theorem pg_347 : pr_G 347 3 4 1 6 := pG_of (M := pr_m347) rfl qI_347 rfl rfl rfl rfl pw_c_347 pw_i_q15 nh_q15 ds_38
theorem pg_202 : pr_G 202 1 4 0 0 := pG_of (M := pr_m202) rfl qI_202 rfl rfl rfl rfl pw_c_202 pw_i_q12 nh_q12 ds_4
theorem pg_348 : pr_G 348 3 4 1 6 := pG_of (M := pr_m348) rfl qI_348 rfl rfl rfl rfl pw_c_348 pw_i_q15 nh_q15 ds_38
theorem pg_203 : pr_G 203 1 4 0 0 := pG_of (M := pr_m203) rfl qI_203 rfl rfl rfl rfl pw_c_203 pw_i_q12 nh_q12 ds_4
theorem pg_349 : pr_G 349 3 4 1 6 := pG_of (M := pr_m349) rfl qI_349 rfl rfl rfl rfl pw_c_349 pw_i_q15 nh_q15 ds_38
theorem pg_204 : pr_G 204 1 4 0 0 := pG_of (M := pr_m204) rfl qI_204 rfl rfl rfl rfl pw_c_204 pw_i_q12 nh_q12 ds_4
theorem pg_350 : pr_G 350 4 5 3 18 := pG_of (M := pr_m350) rfl qI_350 rfl rfl rfl rfl pw_c_350 pw_i_q15 nh_q15 ds_39
theorem pg_213 : pr_G 213 2 4 0 0 := pG_of (M := pr_m213) rfl qI_213 rfl rfl rfl rfl pw_c_213 pw_i_q12 nh_q12 ds_16
theorem pg_61 : pr_G 61 1 2 0 0 := pG_of (M := pr_m61) rfl qI_61 rfl rfl rfl rfl pw_c_61 pw_i_q0 nh_q0 ds_4
theorem pg_214 : pr_G 214 1 2 0 0 := pG_of (M := pr_m214) rfl qI_214 rfl rfl rfl rfl pw_c_214 pw_i_q12 nh_q12 ds_4
theorem pg_62 : pr_G 62 0 1 0 0 := pG_of (M := pr_m62) rfl qI_62 rfl rfl rfl rfl pw_c_62 pw_i_q0 nh_q0 ds_7
theorem pg_215 : pr_G 215 0 1 0 0 := pG_of (M := pr_m215) rfl qI_215 rfl rfl rfl rfl pw_c_215 pw_i_q12 nh_q12 ds_7
theorem pg_63 : pr_G 63 0 1 0 0 := pG_of (M := pr_m63) rfl qI_63 rfl rfl rfl rfl pw_c_63 pw_i_q0 nh_q0 ds_7
theorem pg_216 : pr_G 216 0 1 0 0 := pG_of (M := pr_m216) rfl qI_216 rfl rfl rfl rfl pw_c_216 pw_i_q12 nh_q12 ds_7
theorem pg_351 : pr_G 351 2 3 1 6 := pG_of (M := pr_m351) rfl qI_351 rfl rfl rfl rfl pw_c_351 pw_i_q15 nh_q15 ds_44
theorem pg_217 : pr_G 217 0 1 0 0 := pG_of (M := pr_m217) rfl qI_217 rfl rfl rfl rfl pw_c_217 pw_i_q12 nh_q12 ds_7
theorem pv_222 : pr_GV 222 1 := pV_of qI_222 vw_c1 rfl rfl pw_v_222 pw_s_222
theorem pv_250 : pr_GV 250 4 := pV_of qI_250 vw_c4 rfl rfl pw_v_250 pw_s_250
theorem pv_251 : pr_GV 251 4 := pV_of qI_251 vw_c4 rfl rfl pw_v_251 pw_s_251
theorem pv_273 : pr_GV 273 5 := pV_of qI_273 vw_c5 rfl rfl pw_v_273 pw_s_273
theorem pv_275 : pr_GV 275 5 := pV_of qI_275 vw_c5 rfl rfl pw_v_275 pw_s_275
theorem pv_285 : pr_GV 285 5 := pV_of qI_285 vw_c5 rfl rfl pw_v_285 pw_s_285
theorem pv_65 : pr_GV 65 6 := pV_of qI_65 vw_c6 rfl rfl pw_v_65 pw_s_65
theorem pv_242 : pr_GV 242 3 := pV_of qI_242 vw_c3 rfl rfl pw_v_242 pw_s_242
theorem pv_277 : pr_GV 277 5 := pV_of qI_277 vw_c5 rfl rfl pw_v_277 pw_s_277
theorem pv_248 : pr_GV 248 3 := pV_of qI_248 vw_c3 rfl rfl pw_v_248 pw_s_248
theorem pv_283 : pr_GV 283 5 := pV_of qI_283 vw_c5 rfl rfl pw_v_283 pw_s_283
theorem pv_243 : pr_GV 243 3 := pV_of qI_243 vw_c3 rfl rfl pw_v_243 pw_s_243
theorem pv_244 : pr_GV 244 3 := pV_of qI_244 vw_c3 rfl rfl pw_v_244 pw_s_244
theorem pv_279 : pr_GV 279 5 := pV_of qI_279 vw_c5 rfl rfl pw_v_279 pw_s_279
theorem pv_276 : pr_GV 276 5 := pV_of qI_276 vw_c5 rfl rfl pw_v_276 pw_s_276
theorem pv_282 : pr_GV 282 5 := pV_of qI_282 vw_c5 rfl rfl pw_v_282 pw_s_282
theorem pv_235 : pr_GV 235 3 := pV_of qI_235 vw_c3 rfl rfl pw_v_235 pw_s_235
theorem pv_278 : pr_GV 278 5 := pV_of qI_278 vw_c5 rfl rfl pw_v_278 pw_s_278
theorem pv_219 : pr_GV 219 0 := pV_of qI_219 vw_c0 rfl rfl pw_v_219 pw_s_219
theorem pv_286 : pr_GV 286 5 := pV_of qI_286 vw_c5 rfl rfl pw_v_286 pw_s_286
theorem pv_69 : pr_GV 69 6 := pV_of qI_69 vw_c6 rfl rfl pw_v_69 pw_s_69
theorem pv_287 : pr_GV 287 5 := pV_of qI_287 vw_c5 rfl rfl pw_v_287 pw_s_287
theorem pv_299 : pr_GV 299 5 := pV_of qI_299 vw_c5 rfl rfl pw_v_299 pw_s_299
theorem pv_281 : pr_GV 281 5 := pV_of qI_281 vw_c5 rfl rfl pw_v_281 pw_s_281
theorem pv_236 : pr_GV 236 3 := pV_of qI_236 vw_c3 rfl rfl pw_v_236 pw_s_236
theorem pv_300 : pr_GV 300 5 := pV_of qI_300 vw_c5 rfl rfl pw_v_300 pw_s_300
theorem pv_241 : pr_GV 241 3 := pV_of qI_241 vw_c3 rfl rfl pw_v_241 pw_s_241
theorem pv_245 : pr_GV 245 3 := pV_of qI_245 vw_c3 rfl rfl pw_v_245 pw_s_245
theorem pv_284 : pr_GV 284 5 := pV_of qI_284 vw_c5 rfl rfl pw_v_284 pw_s_284
theorem pv_293 : pr_GV 293 5 := pV_of qI_293 vw_c5 rfl rfl pw_v_293 pw_s_293
theorem pv_291 : pr_GV 291 5 := pV_of qI_291 vw_c5 rfl rfl pw_v_291 pw_s_291
theorem pv_71 : pr_GV 71 6 := pV_of qI_71 vw_c6 rfl rfl pw_v_71 pw_s_71
theorem pv_274 : pr_GV 274 5 := pV_of qI_274 vw_c5 rfl rfl pw_v_274 pw_s_274
theorem pv_237 : pr_GV 237 3 := pV_of qI_237 vw_c3 rfl rfl pw_v_237 pw_s_237
theorem pv_303 : pr_GV 303 5 := pV_of qI_303 vw_c5 rfl rfl pw_v_303 pw_s_303
theorem pv_302 : pr_GV 302 5 := pV_of qI_302 vw_c5 rfl rfl pw_v_302 pw_s_302
theorem pv_298 : pr_GV 298 5 := pV_of qI_298 vw_c5 rfl rfl pw_v_298 pw_s_298
theorem pv_301 : pr_GV 301 5 := pV_of qI_301 vw_c5 rfl rfl pw_v_301 pw_s_301
theorem pv_238 : pr_GV 238 3 := pV_of qI_238 vw_c3 rfl rfl pw_v_238 pw_s_238
theorem pv_227 : pr_GV 227 2 := pV_of qI_227 vw_c2 rfl rfl pw_v_227 pw_s_227
theorem pv_228 : pr_GV 228 2 := pV_of qI_228 vw_c2 rfl rfl pw_v_228 pw_s_228
theorem pv_229 : pr_GV 229 2 := pV_of qI_229 vw_c2 rfl rfl pw_v_229 pw_s_229
theorem pv_230 : pr_GV 230 2 := pV_of qI_230 vw_c2 rfl rfl pw_v_230 pw_s_230
theorem pv_225 : pr_GV 225 2 := pV_of qI_225 vw_c2 rfl rfl pw_v_225 pw_s_225
theorem pv_220 : pr_GV 220 0 := pV_of qI_220 vw_c0 rfl rfl pw_v_220 pw_s_220
theorem pv_226 : pr_GV 226 2 := pV_of qI_226 vw_c2 rfl rfl pw_v_226 pw_s_226
theorem pv_78 : pr_GV 78 7 := pV_of qI_78 vw_c7 rfl rfl pw_v_78 pw_s_78
theorem pv_79 : pr_GV 79 7 := pV_of qI_79 vw_c7 rfl rfl pw_v_79 pw_s_79
theorem pv_84 : pr_GV 84 7 := pV_of qI_84 vw_c7 rfl rfl pw_v_84 pw_s_84
theorem pv_83 : pr_GV 83 7 := pV_of qI_83 vw_c7 rfl rfl pw_v_83 pw_s_83
theorem pv_85 : pr_GV 85 7 := pV_of qI_85 vw_c7 rfl rfl pw_v_85 pw_s_85
theorem pv_88 : pr_GV 88 7 := pV_of qI_88 vw_c7 rfl rfl pw_v_88 pw_s_88
theorem pv_86 : pr_GV 86 7 := pV_of qI_86 vw_c7 rfl rfl pw_v_86 pw_s_86
theorem pv_89 : pr_GV 89 7 := pV_of qI_89 vw_c7 rfl rfl pw_v_89 pw_s_89
theorem pv_87 : pr_GV 87 7 := pV_of qI_87 vw_c7 rfl rfl pw_v_87 pw_s_87
theorem pv_91 : pr_GV 91 7 := pV_of qI_91 vw_c7 rfl rfl pw_v_91 pw_s_91
theorem pv_92 : pr_GV 92 7 := pV_of qI_92 vw_c7 rfl rfl pw_v_92 pw_s_92
theorem pv_93 : pr_GV 93 7 := pV_of qI_93 vw_c7 rfl rfl pw_v_93 pw_s_93
theorem pv_94 : pr_GV 94 7 := pV_of qI_94 vw_c7 rfl rfl pw_v_94 pw_s_94
theorem pv_95 : pr_GV 95 7 := pV_of qI_95 vw_c7 rfl rfl pw_v_95 pw_s_95
theorem pv_96 : pr_GV 96 7 := pV_of qI_96 vw_c7 rfl rfl pw_v_96 pw_s_96
theorem pv_101 : pr_GV 101 7 := pV_of qI_101 vw_c7 rfl rfl pw_v_101 pw_s_101
theorem pv_102 : pr_GV 102 7 := pV_of qI_102 vw_c7 rfl rfl pw_v_102 pw_s_102
theorem pv_99 : pr_GV 99 7 := pV_of qI_99 vw_c7 rfl rfl pw_v_99 pw_s_99
theorem pv_100 : pr_GV 100 7 := pV_of qI_100 vw_c7 rfl rfl pw_v_100 pw_s_100
theorem pv_97 : pr_GV 97 7 := pV_of qI_97 vw_c7 rfl rfl pw_v_97 pw_s_97
theorem pv_98 : pr_GV 98 7 := pV_of qI_98 vw_c7 rfl rfl pw_v_98 pw_s_98
theorem pv_103 : pr_GV 103 7 := pV_of qI_103 vw_c7 rfl rfl pw_v_103 pw_s_103
theorem pv_104 : pr_GV 104 7 := pV_of qI_104 vw_c7 rfl rfl pw_v_104 pw_s_104
theorem pv_106 : pr_GV 106 7 := pV_of qI_106 vw_c7 rfl rfl pw_v_106 pw_s_106
theorem pv_109 : pr_GV 109 7 := pV_of qI_109 vw_c7 rfl rfl pw_v_109 pw_s_109
theorem pv_111 : pr_GV 111 7 := pV_of qI_111 vw_c7 rfl rfl pw_v_111 pw_s_111
theorem pv_112 : pr_GV 112 7 := pV_of qI_112 vw_c7 rfl rfl pw_v_112 pw_s_112
theorem pv_114 : pr_GV 114 7 := pV_of qI_114 vw_c7 rfl rfl pw_v_114 pw_s_114
theorem pv_110 : pr_GV 110 7 := pV_of qI_110 vw_c7 rfl rfl pw_v_110 pw_s_110
theorem pv_113 : pr_GV 113 7 := pV_of qI_113 vw_c7 rfl rfl pw_v_113 pw_s_113
theorem pv_116 : pr_GV 116 7 := pV_of qI_116 vw_c7 rfl rfl pw_v_116 pw_s_116
theorem pv_115 : pr_GV 115 7 := pV_of qI_115 vw_c7 rfl rfl pw_v_115 pw_s_115
theorem pv_117 : pr_GV 117 7 := pV_of qI_117 vw_c7 rfl rfl pw_v_117 pw_s_117
theorem pv_121 : pr_GV 121 7 := pV_of qI_121 vw_c7 rfl rfl pw_v_121 pw_s_121
theorem pv_118 : pr_GV 118 7 := pV_of qI_118 vw_c7 rfl rfl pw_v_118 pw_s_118
theorem pv_119 : pr_GV 119 7 := pV_of qI_119 vw_c7 rfl rfl pw_v_119 pw_s_119
theorem pv_120 : pr_GV 120 7 := pV_of qI_120 vw_c7 rfl rfl pw_v_120 pw_s_120
theorem pv_122 : pr_GV 122 7 := pV_of qI_122 vw_c7 rfl rfl pw_v_122 pw_s_122
theorem pv_123 : pr_GV 123 7 := pV_of qI_123 vw_c7 rfl rfl pw_v_123 pw_s_123
theorem pv_124 : pr_GV 124 7 := pV_of qI_124 vw_c7 rfl rfl pw_v_124 pw_s_124
theorem pv_125 : pr_GV 125 7 := pV_of qI_125 vw_c7 rfl rfl pw_v_125 pw_s_125
theorem pv_126 : pr_GV 126 7 := pV_of qI_126 vw_c7 rfl rfl pw_v_126 pw_s_126
theorem pv_127 : pr_GV 127 7 := pV_of qI_127 vw_c7 rfl rfl pw_v_127 pw_s_127
theorem pv_76 : pr_GV 76 7 := pV_of qI_76 vw_c7 rfl rfl pw_v_76 pw_s_76
theorem pv_131 : pr_GV 131 7 := pV_of qI_131 vw_c7 rfl rfl pw_v_131 pw_s_131
theorem pv_132 : pr_GV 132 7 := pV_of qI_132 vw_c7 rfl rfl pw_v_132 pw_s_132
theorem pv_135 : pr_GV 135 7 := pV_of qI_135 vw_c7 rfl rfl pw_v_135 pw_s_135
theorem pv_133 : pr_GV 133 7 := pV_of qI_133 vw_c7 rfl rfl pw_v_133 pw_s_133
theorem pv_139 : pr_GV 139 7 := pV_of qI_139 vw_c7 rfl rfl pw_v_139 pw_s_139
theorem pv_142 : pr_GV 142 7 := pV_of qI_142 vw_c7 rfl rfl pw_v_142 pw_s_142
theorem pv_146 : pr_GV 146 7 := pV_of qI_146 vw_c7 rfl rfl pw_v_146 pw_s_146
theorem pv_145 : pr_GV 145 7 := pV_of qI_145 vw_c7 rfl rfl pw_v_145 pw_s_145
theorem pv_149 : pr_GV 149 7 := pV_of qI_149 vw_c7 rfl rfl pw_v_149 pw_s_149
theorem pv_152 : pr_GV 152 7 := pV_of qI_152 vw_c7 rfl rfl pw_v_152 pw_s_152
theorem pv_90 : pr_GV 90 7 := pV_of qI_90 vw_c7 rfl rfl pw_v_90 pw_s_90
theorem pv_151 : pr_GV 151 7 := pV_of qI_151 vw_c7 rfl rfl pw_v_151 pw_s_151
theorem pv_155 : pr_GV 155 7 := pV_of qI_155 vw_c7 rfl rfl pw_v_155 pw_s_155
theorem pv_80 : pr_GV 80 7 := pV_of qI_80 vw_c7 rfl rfl pw_v_80 pw_s_80
theorem pv_159 : pr_GV 159 7 := pV_of qI_159 vw_c7 rfl rfl pw_v_159 pw_s_159
theorem pv_161 : pr_GV 161 7 := pV_of qI_161 vw_c7 rfl rfl pw_v_161 pw_s_161
theorem pv_105 : pr_GV 105 7 := pV_of qI_105 vw_c7 rfl rfl pw_v_105 pw_s_105
theorem pv_136 : pr_GV 136 7 := pV_of qI_136 vw_c7 rfl rfl pw_v_136 pw_s_136
theorem pv_168 : pr_GV 168 7 := pV_of qI_168 vw_c7 rfl rfl pw_v_168 pw_s_168
theorem pv_173 : pr_GV 173 7 := pV_of qI_173 vw_c7 rfl rfl pw_v_173 pw_s_173
theorem pv_137 : pr_GV 137 7 := pV_of qI_137 vw_c7 rfl rfl pw_v_137 pw_s_137
theorem pv_81 : pr_GV 81 7 := pV_of qI_81 vw_c7 rfl rfl pw_v_81 pw_s_81
theorem pv_82 : pr_GV 82 7 := pV_of qI_82 vw_c7 rfl rfl pw_v_82 pw_s_82
theorem pv_180 : pr_GV 180 7 := pV_of qI_180 vw_c7 rfl rfl pw_v_180 pw_s_180
theorem pv_205 : pr_GV 205 7 := pV_of qI_205 vw_c7 rfl rfl pw_v_205 pw_s_205
theorem pv_208 : pr_GV 208 7 := pV_of qI_208 vw_c7 rfl rfl pw_v_208 pw_s_208
theorem pv_206 : pr_GV 206 7 := pV_of qI_206 vw_c7 rfl rfl pw_v_206 pw_s_206
theorem pv_207 : pr_GV 207 7 := pV_of qI_207 vw_c7 rfl rfl pw_v_207 pw_s_207
theorem pv_211 : pr_GV 211 7 := pV_of qI_211 vw_c7 rfl rfl pw_v_211 pw_s_211
theorem pv_209 : pr_GV 209 7 := pV_of qI_209 vw_c7 rfl rfl pw_v_209 pw_s_209
theorem pv_210 : pr_GV 210 7 := pV_of qI_210 vw_c7 rfl rfl pw_v_210 pw_s_210
theorem pv_212 : pr_GV 212 7 := pV_of qI_212 vw_c7 rfl rfl pw_v_212 pw_s_212
theorem pv_231 : pr_GV 231 2 := pV_of qI_231 vw_c2 rfl rfl pw_v_231 pw_s_231
theorem pv_246 : pr_GV 246 3 := pV_of qI_246 vw_c3 rfl rfl pw_v_246 pw_s_246
theorem pv_270 : pr_GV 270 5 := pV_of qI_270 vw_c5 rfl rfl pw_v_270 pw_s_270
theorem pv_265 : pr_GV 265 4 := pV_of qI_265 vw_c4 rfl rfl pw_v_265 pw_s_265
theorem pv_268 : pr_GV 268 4 := pV_of qI_268 vw_c4 rfl rfl pw_v_268 pw_s_268
theorem pv_252 : pr_GV 252 4 := pV_of qI_252 vw_c4 rfl rfl pw_v_252 pw_s_252
theorem pv_254 : pr_GV 254 4 := pV_of qI_254 vw_c4 rfl rfl pw_v_254 pw_s_254
theorem pv_255 : pr_GV 255 4 := pV_of qI_255 vw_c4 rfl rfl pw_v_255 pw_s_255
theorem pv_256 : pr_GV 256 4 := pV_of qI_256 vw_c4 rfl rfl pw_v_256 pw_s_256
theorem pv_257 : pr_GV 257 4 := pV_of qI_257 vw_c4 rfl rfl pw_v_257 pw_s_257
theorem pv_258 : pr_GV 258 4 := pV_of qI_258 vw_c4 rfl rfl pw_v_258 pw_s_258
theorem pv_259 : pr_GV 259 4 := pV_of qI_259 vw_c4 rfl rfl pw_v_259 pw_s_259
theorem pv_260 : pr_GV 260 4 := pV_of qI_260 vw_c4 rfl rfl pw_v_260 pw_s_260
theorem pv_264 : pr_GV 264 4 := pV_of qI_264 vw_c4 rfl rfl pw_v_264 pw_s_264
theorem pv_272 : pr_GV 272 5 := pV_of qI_272 vw_c5 rfl rfl pw_v_272 pw_s_272
theorem pv_253 : pr_GV 253 4 := pV_of qI_253 vw_c4 rfl rfl pw_v_253 pw_s_253
theorem pv_271 : pr_GV 271 5 := pV_of qI_271 vw_c5 rfl rfl pw_v_271 pw_s_271
theorem pv_262 : pr_GV 262 4 := pV_of qI_262 vw_c4 rfl rfl pw_v_262 pw_s_262
theorem pv_263 : pr_GV 263 4 := pV_of qI_263 vw_c4 rfl rfl pw_v_263 pw_s_263
theorem pv_261 : pr_GV 261 4 := pV_of qI_261 vw_c4 rfl rfl pw_v_261 pw_s_261
theorem pv_247 : pr_GV 247 3 := pV_of qI_247 vw_c3 rfl rfl pw_v_247 pw_s_247
theorem pv_223 : pr_GV 223 1 := pV_of qI_223 vw_c1 rfl rfl pw_v_223 pw_s_223
theorem pv_233 : pr_GV 233 3 := pV_of qI_233 vw_c3 rfl rfl pw_v_233 pw_s_233
theorem pv_234 : pr_GV 234 3 := pV_of qI_234 vw_c3 rfl rfl pw_v_234 pw_s_234
theorem pv_239 : pr_GV 239 3 := pV_of qI_239 vw_c3 rfl rfl pw_v_239 pw_s_239
theorem pv_280 : pr_GV 280 5 := pV_of qI_280 vw_c5 rfl rfl pw_v_280 pw_s_280
theorem pv_288 : pr_GV 288 5 := pV_of qI_288 vw_c5 rfl rfl pw_v_288 pw_s_288
theorem pv_289 : pr_GV 289 5 := pV_of qI_289 vw_c5 rfl rfl pw_v_289 pw_s_289
theorem pv_292 : pr_GV 292 5 := pV_of qI_292 vw_c5 rfl rfl pw_v_292 pw_s_292
theorem pv_290 : pr_GV 290 5 := pV_of qI_290 vw_c5 rfl rfl pw_v_290 pw_s_290
theorem pv_240 : pr_GV 240 3 := pV_of qI_240 vw_c3 rfl rfl pw_v_240 pw_s_240
theorem pv_294 : pr_GV 294 5 := pV_of qI_294 vw_c5 rfl rfl pw_v_294 pw_s_294
theorem pv_295 : pr_GV 295 5 := pV_of qI_295 vw_c5 rfl rfl pw_v_295 pw_s_295
theorem pv_296 : pr_GV 296 5 := pV_of qI_296 vw_c5 rfl rfl pw_v_296 pw_s_296
theorem pv_297 : pr_GV 297 5 := pV_of qI_297 vw_c5 rfl rfl pw_v_297 pw_s_297
theorem pv_304 : pr_GV 304 5 := pV_of qI_304 vw_c5 rfl rfl pw_v_304 pw_s_304
theorem pv_6 : pr_GV 6 6 := pV_of qI_6 vw_c6 rfl rfl pw_v_6 pw_s_6
theorem pv_7 : pr_GV 7 6 := pV_of qI_7 vw_c6 rfl rfl pw_v_7 pw_s_7
theorem pv_8 : pr_GV 8 6 := pV_of qI_8 vw_c6 rfl rfl pw_v_8 pw_s_8
theorem pv_10 : pr_GV 10 6 := pV_of qI_10 vw_c6 rfl rfl pw_v_10 pw_s_10
theorem pv_11 : pr_GV 11 6 := pV_of qI_11 vw_c6 rfl rfl pw_v_11 pw_s_11
theorem pv_12 : pr_GV 12 6 := pV_of qI_12 vw_c6 rfl rfl pw_v_12 pw_s_12
theorem pv_13 : pr_GV 13 6 := pV_of qI_13 vw_c6 rfl rfl pw_v_13 pw_s_13
theorem pv_14 : pr_GV 14 6 := pV_of qI_14 vw_c6 rfl rfl pw_v_14 pw_s_14
theorem pv_17 : pr_GV 17 6 := pV_of qI_17 vw_c6 rfl rfl pw_v_17 pw_s_17
theorem pv_18 : pr_GV 18 6 := pV_of qI_18 vw_c6 rfl rfl pw_v_18 pw_s_18
theorem pv_19 : pr_GV 19 6 := pV_of qI_19 vw_c6 rfl rfl pw_v_19 pw_s_19
theorem pv_20 : pr_GV 20 6 := pV_of qI_20 vw_c6 rfl rfl pw_v_20 pw_s_20
theorem pv_21 : pr_GV 21 6 := pV_of qI_21 vw_c6 rfl rfl pw_v_21 pw_s_21
theorem pv_22 : pr_GV 22 6 := pV_of qI_22 vw_c6 rfl rfl pw_v_22 pw_s_22
theorem pv_23 : pr_GV 23 6 := pV_of qI_23 vw_c6 rfl rfl pw_v_23 pw_s_23
theorem pv_24 : pr_GV 24 6 := pV_of qI_24 vw_c6 rfl rfl pw_v_24 pw_s_24
theorem pv_25 : pr_GV 25 6 := pV_of qI_25 vw_c6 rfl rfl pw_v_25 pw_s_25
theorem pv_26 : pr_GV 26 6 := pV_of qI_26 vw_c6 rfl rfl pw_v_26 pw_s_26
theorem pv_27 : pr_GV 27 6 := pV_of qI_27 vw_c6 rfl rfl pw_v_27 pw_s_27
theorem pv_28 : pr_GV 28 6 := pV_of qI_28 vw_c6 rfl rfl pw_v_28 pw_s_28
theorem pv_29 : pr_GV 29 6 := pV_of qI_29 vw_c6 rfl rfl pw_v_29 pw_s_29
theorem pv_30 : pr_GV 30 6 := pV_of qI_30 vw_c6 rfl rfl pw_v_30 pw_s_30
theorem pv_31 : pr_GV 31 6 := pV_of qI_31 vw_c6 rfl rfl pw_v_31 pw_s_31
theorem pv_32 : pr_GV 32 6 := pV_of qI_32 vw_c6 rfl rfl pw_v_32 pw_s_32
theorem pv_33 : pr_GV 33 6 := pV_of qI_33 vw_c6 rfl rfl pw_v_33 pw_s_33
theorem pv_34 : pr_GV 34 6 := pV_of qI_34 vw_c6 rfl rfl pw_v_34 pw_s_34
theorem pv_35 : pr_GV 35 6 := pV_of qI_35 vw_c6 rfl rfl pw_v_35 pw_s_35
theorem pv_38 : pr_GV 38 6 := pV_of qI_38 vw_c6 rfl rfl pw_v_38 pw_s_38
theorem pv_39 : pr_GV 39 6 := pV_of qI_39 vw_c6 rfl rfl pw_v_39 pw_s_39
theorem pv_40 : pr_GV 40 6 := pV_of qI_40 vw_c6 rfl rfl pw_v_40 pw_s_40
theorem pv_43 : pr_GV 43 6 := pV_of qI_43 vw_c6 rfl rfl pw_v_43 pw_s_43
theorem pv_44 : pr_GV 44 6 := pV_of qI_44 vw_c6 rfl rfl pw_v_44 pw_s_44
theorem pv_45 : pr_GV 45 6 := pV_of qI_45 vw_c6 rfl rfl pw_v_45 pw_s_45
theorem pv_46 : pr_GV 46 6 := pV_of qI_46 vw_c6 rfl rfl pw_v_46 pw_s_46
theorem pv_47 : pr_GV 47 6 := pV_of qI_47 vw_c6 rfl rfl pw_v_47 pw_s_47
theorem pv_49 : pr_GV 49 6 := pV_of qI_49 vw_c6 rfl rfl pw_v_49 pw_s_49
theorem pv_50 : pr_GV 50 6 := pV_of qI_50 vw_c6 rfl rfl pw_v_50 pw_s_50
theorem pv_51 : pr_GV 51 6 := pV_of qI_51 vw_c6 rfl rfl pw_v_51 pw_s_51
theorem pv_53 : pr_GV 53 6 := pV_of qI_53 vw_c6 rfl rfl pw_v_53 pw_s_53
theorem pv_54 : pr_GV 54 6 := pV_of qI_54 vw_c6 rfl rfl pw_v_54 pw_s_54
theorem pv_55 : pr_GV 55 6 := pV_of qI_55 vw_c6 rfl rfl pw_v_55 pw_s_55
theorem pv_56 : pr_GV 56 6 := pV_of qI_56 vw_c6 rfl rfl pw_v_56 pw_s_56
theorem pv_57 : pr_GV 57 6 := pV_of qI_57 vw_c6 rfl rfl pw_v_57 pw_s_57
theorem pv_58 : pr_GV 58 6 := pV_of qI_58 vw_c6 rfl rfl pw_v_58 pw_s_58
theorem pv_59 : pr_GV 59 6 := pV_of qI_59 vw_c6 rfl rfl pw_v_59 pw_s_59
theorem pv_60 : pr_GV 60 6 := pV_of qI_60 vw_c6 rfl rfl pw_v_60 pw_s_60
theorem pv_64 : pr_GV 64 6 := pV_of qI_64 vw_c6 rfl rfl pw_v_64 pw_s_64
theorem pv_1 : pr_GV 1 6 := pV_of qI_1 vw_c6 rfl rfl pw_v_1 pw_s_1
theorem pv_107 : pr_GV 107 7 := pV_of qI_107 vw_c7 rfl rfl pw_v_107 pw_s_107
theorem pv_2 : pr_GV 2 6 := pV_of qI_2 vw_c6 rfl rfl pw_v_2 pw_s_2
theorem pv_108 : pr_GV 108 7 := pV_of qI_108 vw_c7 rfl rfl pw_v_108 pw_s_108
theorem pv_3 : pr_GV 3 6 := pV_of qI_3 vw_c6 rfl rfl pw_v_3 pw_s_3
theorem pv_128 : pr_GV 128 7 := pV_of qI_128 vw_c7 rfl rfl pw_v_128 pw_s_128
theorem pv_4 : pr_GV 4 6 := pV_of qI_4 vw_c6 rfl rfl pw_v_4 pw_s_4
theorem pv_129 : pr_GV 129 7 := pV_of qI_129 vw_c7 rfl rfl pw_v_129 pw_s_129
theorem pv_5 : pr_GV 5 6 := pV_of qI_5 vw_c6 rfl rfl pw_v_5 pw_s_5
theorem pv_130 : pr_GV 130 7 := pV_of qI_130 vw_c7 rfl rfl pw_v_130 pw_s_130
theorem pv_134 : pr_GV 134 7 := pV_of qI_134 vw_c7 rfl rfl pw_v_134 pw_s_134
theorem pv_138 : pr_GV 138 7 := pV_of qI_138 vw_c7 rfl rfl pw_v_138 pw_s_138
theorem pv_140 : pr_GV 140 7 := pV_of qI_140 vw_c7 rfl rfl pw_v_140 pw_s_140
theorem pv_9 : pr_GV 9 6 := pV_of qI_9 vw_c6 rfl rfl pw_v_9 pw_s_9
theorem pv_141 : pr_GV 141 7 := pV_of qI_141 vw_c7 rfl rfl pw_v_141 pw_s_141
theorem pv_143 : pr_GV 143 7 := pV_of qI_143 vw_c7 rfl rfl pw_v_143 pw_s_143
theorem pv_144 : pr_GV 144 7 := pV_of qI_144 vw_c7 rfl rfl pw_v_144 pw_s_144
theorem pv_147 : pr_GV 147 7 := pV_of qI_147 vw_c7 rfl rfl pw_v_147 pw_s_147
theorem pv_150 : pr_GV 150 7 := pV_of qI_150 vw_c7 rfl rfl pw_v_150 pw_s_150
theorem pv_153 : pr_GV 153 7 := pV_of qI_153 vw_c7 rfl rfl pw_v_153 pw_s_153
theorem pv_15 : pr_GV 15 6 := pV_of qI_15 vw_c6 rfl rfl pw_v_15 pw_s_15
theorem pv_154 : pr_GV 154 7 := pV_of qI_154 vw_c7 rfl rfl pw_v_154 pw_s_154
theorem pv_16 : pr_GV 16 6 := pV_of qI_16 vw_c6 rfl rfl pw_v_16 pw_s_16
theorem pv_156 : pr_GV 156 7 := pV_of qI_156 vw_c7 rfl rfl pw_v_156 pw_s_156
theorem pv_158 : pr_GV 158 7 := pV_of qI_158 vw_c7 rfl rfl pw_v_158 pw_s_158
theorem pv_160 : pr_GV 160 7 := pV_of qI_160 vw_c7 rfl rfl pw_v_160 pw_s_160
theorem pv_162 : pr_GV 162 7 := pV_of qI_162 vw_c7 rfl rfl pw_v_162 pw_s_162
theorem pv_163 : pr_GV 163 7 := pV_of qI_163 vw_c7 rfl rfl pw_v_163 pw_s_163
theorem pv_165 : pr_GV 165 7 := pV_of qI_165 vw_c7 rfl rfl pw_v_165 pw_s_165
theorem pv_166 : pr_GV 166 7 := pV_of qI_166 vw_c7 rfl rfl pw_v_166 pw_s_166
theorem pv_167 : pr_GV 167 7 := pV_of qI_167 vw_c7 rfl rfl pw_v_167 pw_s_167
theorem pv_169 : pr_GV 169 7 := pV_of qI_169 vw_c7 rfl rfl pw_v_169 pw_s_169
theorem pv_170 : pr_GV 170 7 := pV_of qI_170 vw_c7 rfl rfl pw_v_170 pw_s_170
theorem pv_74 : pr_GV 74 7 := pV_of qI_74 vw_c7 rfl rfl pw_v_74 pw_s_74
theorem pv_171 : pr_GV 171 7 := pV_of qI_171 vw_c7 rfl rfl pw_v_171 pw_s_171
theorem pv_172 : pr_GV 172 7 := pV_of qI_172 vw_c7 rfl rfl pw_v_172 pw_s_172
theorem pv_177 : pr_GV 177 7 := pV_of qI_177 vw_c7 rfl rfl pw_v_177 pw_s_177
theorem pv_179 : pr_GV 179 7 := pV_of qI_179 vw_c7 rfl rfl pw_v_179 pw_s_179
theorem pv_181 : pr_GV 181 7 := pV_of qI_181 vw_c7 rfl rfl pw_v_181 pw_s_181
theorem pv_182 : pr_GV 182 7 := pV_of qI_182 vw_c7 rfl rfl pw_v_182 pw_s_182
theorem pv_183 : pr_GV 183 7 := pV_of qI_183 vw_c7 rfl rfl pw_v_183 pw_s_183
theorem pv_185 : pr_GV 185 7 := pV_of qI_185 vw_c7 rfl rfl pw_v_185 pw_s_185
theorem pv_187 : pr_GV 187 7 := pV_of qI_187 vw_c7 rfl rfl pw_v_187 pw_s_187
theorem pv_190 : pr_GV 190 7 := pV_of qI_190 vw_c7 rfl rfl pw_v_190 pw_s_190
theorem pv_36 : pr_GV 36 6 := pV_of qI_36 vw_c6 rfl rfl pw_v_36 pw_s_36
theorem pv_191 : pr_GV 191 7 := pV_of qI_191 vw_c7 rfl rfl pw_v_191 pw_s_191
theorem pv_37 : pr_GV 37 6 := pV_of qI_37 vw_c6 rfl rfl pw_v_37 pw_s_37
theorem pv_192 : pr_GV 192 7 := pV_of qI_192 vw_c7 rfl rfl pw_v_192 pw_s_192
theorem pv_193 : pr_GV 193 7 := pV_of qI_193 vw_c7 rfl rfl pw_v_193 pw_s_193
theorem pv_194 : pr_GV 194 7 := pV_of qI_194 vw_c7 rfl rfl pw_v_194 pw_s_194
theorem pv_195 : pr_GV 195 7 := pV_of qI_195 vw_c7 rfl rfl pw_v_195 pw_s_195
theorem pv_41 : pr_GV 41 6 := pV_of qI_41 vw_c6 rfl rfl pw_v_41 pw_s_41
theorem pv_196 : pr_GV 196 7 := pV_of qI_196 vw_c7 rfl rfl pw_v_196 pw_s_196
theorem pv_42 : pr_GV 42 6 := pV_of qI_42 vw_c6 rfl rfl pw_v_42 pw_s_42
theorem pv_197 : pr_GV 197 7 := pV_of qI_197 vw_c7 rfl rfl pw_v_197 pw_s_197
theorem pv_174 : pr_GV 174 7 := pV_of qI_174 vw_c7 rfl rfl pw_v_174 pw_s_174
theorem pv_175 : pr_GV 175 7 := pV_of qI_175 vw_c7 rfl rfl pw_v_175 pw_s_175
theorem pv_164 : pr_GV 164 7 := pV_of qI_164 vw_c7 rfl rfl pw_v_164 pw_s_164
theorem pv_199 : pr_GV 199 7 := pV_of qI_199 vw_c7 rfl rfl pw_v_199 pw_s_199
theorem pv_200 : pr_GV 200 7 := pV_of qI_200 vw_c7 rfl rfl pw_v_200 pw_s_200
theorem pv_48 : pr_GV 48 6 := pV_of qI_48 vw_c6 rfl rfl pw_v_48 pw_s_48
theorem pv_201 : pr_GV 201 7 := pV_of qI_201 vw_c7 rfl rfl pw_v_201 pw_s_201
theorem pv_178 : pr_GV 178 7 := pV_of qI_178 vw_c7 rfl rfl pw_v_178 pw_s_178
theorem pv_188 : pr_GV 188 7 := pV_of qI_188 vw_c7 rfl rfl pw_v_188 pw_s_188
theorem pv_186 : pr_GV 186 7 := pV_of qI_186 vw_c7 rfl rfl pw_v_186 pw_s_186
theorem pv_52 : pr_GV 52 6 := pV_of qI_52 vw_c6 rfl rfl pw_v_52 pw_s_52
theorem pv_198 : pr_GV 198 7 := pV_of qI_198 vw_c7 rfl rfl pw_v_198 pw_s_198
theorem pv_148 : pr_GV 148 7 := pV_of qI_148 vw_c7 rfl rfl pw_v_148 pw_s_148
theorem pv_176 : pr_GV 176 7 := pV_of qI_176 vw_c7 rfl rfl pw_v_176 pw_s_176
theorem pv_184 : pr_GV 184 7 := pV_of qI_184 vw_c7 rfl rfl pw_v_184 pw_s_184
theorem pv_189 : pr_GV 189 7 := pV_of qI_189 vw_c7 rfl rfl pw_v_189 pw_s_189
theorem pv_202 : pr_GV 202 7 := pV_of qI_202 vw_c7 rfl rfl pw_v_202 pw_s_202
theorem pv_203 : pr_GV 203 7 := pV_of qI_203 vw_c7 rfl rfl pw_v_203 pw_s_203
theorem pv_204 : pr_GV 204 7 := pV_of qI_204 vw_c7 rfl rfl pw_v_204 pw_s_204
theorem pv_213 : pr_GV 213 7 := pV_of qI_213 vw_c7 rfl rfl pw_v_213 pw_s_213
theorem pv_61 : pr_GV 61 6 := pV_of qI_61 vw_c6 rfl rfl pw_v_61 pw_s_61
theorem pv_214 : pr_GV 214 7 := pV_of qI_214 vw_c7 rfl rfl pw_v_214 pw_s_214
theorem pv_62 : pr_GV 62 6 := pV_of qI_62 vw_c6 rfl rfl pw_v_62 pw_s_62
theorem pv_215 : pr_GV 215 7 := pV_of qI_215 vw_c7 rfl rfl pw_v_215 pw_s_215
theorem pv_63 : pr_GV 63 6 := pV_of qI_63 vw_c6 rfl rfl pw_v_63 pw_s_63
theorem pv_216 : pr_GV 216 7 := pV_of qI_216 vw_c7 rfl rfl pw_v_216 pw_s_216
theorem pv_217 : pr_GV 217 7 := pV_of qI_217 vw_c7 rfl rfl pw_v_217 pw_s_217
theorem pn_269 : pr_GI 269 5 := ⟨⟨_, vw_c5⟩, rfl, rfl, rfl, pw_v_269⟩
theorem pn_218 : pr_GI 218 0 := ⟨⟨_, vw_c0⟩, rfl, rfl, rfl, pw_v_218⟩
theorem pn_249 : pr_GI 249 4 := ⟨⟨_, vw_c4⟩, rfl, rfl, rfl, pw_v_249⟩
theorem pn_224 : pr_GI 224 2 := ⟨⟨_, vw_c2⟩, rfl, rfl, rfl, pw_v_224⟩
theorem pn_221 : pr_GI 221 1 := ⟨⟨_, vw_c1⟩, rfl, rfl, rfl, pw_v_221⟩
theorem pn_232 : pr_GI 232 3 := ⟨⟨_, vw_c3⟩, rfl, rfl, rfl, pw_v_232⟩
theorem pn_0 : pr_GI 0 6 := ⟨⟨_, vw_c6⟩, rfl, rfl, rfl, pw_v_0⟩
theorem pn_73 : pr_GI 73 7 := ⟨⟨_, vw_c7⟩, rfl, rfl, rfl, pw_v_73⟩
theorem xl_px_q0_118_122 : ∀ x ∈ ev_xat "OrphanTree" 122 0, x ∈ lw_tbl := xs_in pt_PP [(1, 16), (3, 148), (3, 157), (3, 162), (3, 165), (3, 167), (3, 149), (3, 150), (1, 29), (1, 30), (3, 151), (3, 156), (3, 163), (3, 183), (3, 138), (3, 184), (3, 140), (3, 185), (3, 142), (3, 152), (3, 154), (3, 144), (3, 179), (3, 180), (3, 182), (3, 144), (3, 170), (3, 171), (3, 172), (3, 173), (3, 130), (3, 173), (3, 174), (3, 175), (3, 176), (3, 132), (3, 176), (3, 177), (3, 178), (3, 179), (3, 134), (3, 169), (3, 127), (3, 128), (3, 135), (3, 136), (3, 137), (3, 139), (3, 141), (3, 143), (3, 147), (3, 146), (3, 145)] (by decide +kernel)
theorem px_q0_118_122 : pr_X "OrphanTree" 118 122 0 := ⟨pw_cl_q0_118, pw_i_q7, xs_g xl_px_q0_118_122, xs_b xl_px_q0_118_122 (by decide +kernel), by decide +kernel⟩
theorem xl_px_q0_216_220 : ∀ x ∈ ev_xat "OrphanTree" 220 3, x ∈ lw_tbl := xs_in pt_PP [(1, 16), (3, 148), (3, 157), (3, 162), (3, 165), (3, 167), (3, 149), (3, 150), (1, 29), (1, 30), (3, 151), (3, 156), (3, 163), (3, 183), (3, 138), (3, 184), (3, 140), (3, 185), (3, 142), (3, 152), (3, 154), (3, 144), (3, 179), (3, 180), (3, 182), (3, 144), (4, 107), (4, 108), (4, 109), (3, 173), (3, 130), (3, 173), (3, 174), (3, 175), (3, 176), (3, 132), (3, 176), (3, 177), (3, 178), (3, 179), (3, 134), (4, 106), (4, 97), (4, 98), (4, 99), (3, 161), (4, 100), (4, 101), (4, 102), (4, 103), (3, 147), (3, 146), (4, 104)] (by decide +kernel)
theorem px_q0_216_220 : pr_X "OrphanTree" 216 220 3 := ⟨pw_cl_q0_216, pw_i_q9, xs_g xl_px_q0_216_220, xs_b xl_px_q0_216_220 (by decide +kernel), by decide +kernel⟩
theorem xl_px_q0_343_347 : ∀ x ∈ ev_xat "OrphanTree" 347 2, x ∈ lw_tbl := xs_in pt_PP [(1, 16), (3, 148), (3, 157), (3, 162), (3, 165), (3, 167), (3, 149), (3, 150), (1, 29), (1, 30), (3, 151), (3, 156), (3, 163), (3, 183), (3, 138), (3, 184), (3, 140), (3, 185), (3, 142), (3, 152), (3, 154), (3, 144), (3, 179), (3, 180), (3, 182), (3, 144), (3, 218), (3, 219), (3, 220), (3, 173), (3, 130), (3, 173), (3, 174), (3, 175), (3, 176), (3, 132), (3, 176), (3, 177), (3, 178), (3, 179), (3, 134), (3, 217), (3, 208), (3, 209), (3, 210), (3, 160), (3, 211), (3, 212), (3, 213), (3, 214), (3, 147), (3, 146), (3, 215)] (by decide +kernel)
theorem px_q0_343_347 : pr_X "OrphanTree" 343 347 2 := ⟨pw_cl_q0_343, pw_i_q10, xs_g xl_px_q0_343_347, xs_b xl_px_q0_343_347 (by decide +kernel), by decide +kernel⟩
theorem xl_px_q0_350_354 : ∀ x ∈ ev_xat "OrphanTree" 354 1, x ∈ lw_tbl := xs_in pt_PP [(1, 16), (3, 148), (3, 157), (3, 162), (3, 165), (3, 167), (3, 149), (3, 150), (1, 29), (1, 30), (3, 151), (3, 156), (3, 163), (3, 183), (3, 138), (3, 184), (3, 140), (3, 185), (3, 142), (3, 152), (3, 154), (3, 144), (3, 179), (3, 180), (3, 182), (3, 144), (4, 37), (4, 38), (4, 39), (3, 173), (3, 130), (3, 173), (3, 174), (3, 175), (3, 176), (3, 132), (3, 176), (3, 177), (3, 178), (3, 179), (3, 134), (4, 36), (4, 27), (4, 28), (4, 29), (3, 159), (4, 30), (4, 31), (4, 32), (4, 33), (3, 147), (3, 146), (4, 34)] (by decide +kernel)
theorem px_q0_350_354 : pr_X "OrphanTree" 350 354 1 := ⟨pw_cl_q0_350, pw_i_q11, xs_g xl_px_q0_350_354, xs_b xl_px_q0_350_354 (by decide +kernel), by decide +kernel⟩
