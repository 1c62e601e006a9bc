/-! ===== the answer to a question, in both (own work) ===== -/
section PAR43
variable {g g' G G' H H' K : gH} {r r' dm : Int → Int} {a b c d e i j k l m n o p q s t u v w x y z S T gp code : Int}
theorem vM_anyG4 (hi : MInv g) : (¬ (0 ≤ p ∧ p < g 625 0) ∧ fM_anyGone g 624 p q = some (1, th g 1)) ∨ ((0 ≤ p ∧ p < g 625 0) ∧ ¬ (0 ≤ q ∧ q < g 625 0) ∧ fM_anyGone g 624 p q = some (1, th g 1)) ∨ ((0 ≤ p ∧ p < g 625 0) ∧ (0 ≤ q ∧ q < g 625 0) ∧ (g 625 (140 + p) = 2 ∨ g 625 (140 + q) = 2) ∧ fM_anyGone g 624 p q = some (1, th (th g 0) 2)) ∨ ((0 ≤ p ∧ p < g 625 0) ∧ (0 ≤ q ∧ q < g 625 0) ∧ ¬ g 625 (140 + p) = 2 ∧ ¬ g 625 (140 + q) = 2 ∧ fM_anyGone g 624 p q = some (0, th g 0)) := by
  have hM := hi.2.1.1.1
  have m1 := MInv_th (t := 0) hi
  have e25 : th g 0 625 = g 625 := th_n (by omega)
  rw [fM_anyGone, vM_noProcess hi]
  by_cases a : 0 ≤ p ∧ p < g 625 0
  · rw [if_pos a, if_pos a, bdN_s, if_pos rfl, vM_noProcess2 hi]
    by_cases b : 0 ≤ q ∧ q < g 625 0
    · have ig := vM_isGone (G := th g 0) (p := p) m1.1 (by omega)
      have ih := vM_isGone (G := th g 0) (p := q) m1.1 (by omega)
      rw [e25] at ig ih
      rw [if_pos b, if_pos b, bdN_s, if_pos rfl, ig, bdP_s, ih, bdP_s]
      by_cases c : g 625 (140 + p) = 2
      · rw [if_pos c, if_neg f0, jM_anyGone_33, jM_anyGone_38, if_pos kd_c624, fl1, bdN_s, if_neg f0]
        exact Or.inr (Or.inr (Or.inl ⟨a, b, Or.inl c, rfl⟩))
      · rw [if_neg c, if_pos rfl]
        by_cases c2 : g 625 (140 + q) = 2
        · rw [if_pos c2, if_neg f0, jM_anyGone_33, jM_anyGone_38, if_pos kd_c624, fl1, bdN_s, if_neg f0]
          exact Or.inr (Or.inr (Or.inl ⟨a, b, Or.inr c2, rfl⟩))
        · rw [if_neg c2, if_pos rfl, jM_anyGone_38, if_pos kd_c624, fl0, bdN_s, if_pos rfl]
          exact Or.inr (Or.inr (Or.inr ⟨a, b, c, c2, rfl⟩))
    · rw [if_neg b, if_neg b, bdN_s, if_neg f0]
      exact Or.inr (Or.inl ⟨a, b, rfl⟩)
  · rw [if_neg a, if_neg a, bdN_s, if_neg f0]
    exact Or.inl ⟨a, rfl⟩
/-- where two meet -/
theorem lk_meets (hs : MS H) (h : QQ S G r dm) (hp : 0 ≤ p ∧ p < r 0) (hq : 0 ≤ q ∧ q < r 0) : ∃ c, fT_lowestOver G S (pc S p) (pc S q) = some (pc S c) ∧ fM_meets (sw H r) 624 p q = some c ∧ 0 ≤ c ∧ c < r 0 := by
  have hb := QQ_b h
  have hfu := fu_ge
  have ovv : ∀ j, fM_isOver (sw H r) 624 j q = some (if OV (up r) j q = true then 1 else 0) := fun j => by
    have ov := vM_isOver (g := sw H r) (p := j) (x := q) (MS_sw hs) (by rw [sw_s]; exact QQ_en h hq)
    rw [sw_s] at ov
    exact ov
  have stop : ∀ (j : Int) (n1 n2 : Nat), (0 ≤ j ∧ j < r 0) → (j = q ∨ OV (up r) j q = true) → lT_lowestOver_2 G S (pc S q) (n1 + 1) (pc S j) = some (pc S j) ∧ lM_meets_2 (sw H r) 624 q (n2 + 1) j = some j := by
    intro j n1 n2 hj hst
    have eC : lT_lowestOver_2 G S (pc S q) (n1 + 1) (pc S j) = bT_lowestOver_2 G S (pc S q) (lT_lowestOver_2 G S (pc S q) n1) (pc S j) := rfl
    have eM : lM_meets_2 (sw H r) 624 q (n2 + 1) j = bM_meets_2 (sw H r) 624 q (lM_meets_2 (sw H r) 624 q n2) j := rfl
    rw [eC, eM, bT_lowestOver_2, bM_meets_2, if_neg (pc_pos h.1 (by omega))]
    by_cases c : j = q
    · rw [if_pos (show pc S j = pc S q by rw [c]), if_pos c]; exact ⟨rfl, rfl⟩
    · have c2 : OV (up r) j q = true := by
        rcases hst with z | z
        · exact absurd z c
        · exact z
      rw [if_neg (pc_ne hj.1 hq.1 c), if_pos (kdp h.1 (by omega)), qP_over h hj.1 hq, bdP_s, if_pos c2, if_neg f0, if_neg c, ovv j, bdP_s, if_pos c2, if_neg f0]
      exact ⟨rfl, rfl⟩
  have z0 : (0 : Int) = q ∨ OV (up r) 0 q = true := by
    rcases Bl_or (Bl_0 (f := up r) (m := r 0) (fun i i0 i1 => QQ_rg h ⟨i0, i1⟩) 40 q (QQ_en h hq) hq) with z | z
    · exact Or.inl z.symm
    · exact Or.inr z
  have key : ∀ (n : Nat) (j : Int) (n1 n2 : Nat), en (up r) n j = true → (0 ≤ j ∧ j < r 0) → n < n1 → n < n2 → ∃ c, lT_lowestOver_2 G S (pc S q) n1 (pc S j) = some (pc S c) ∧ lM_meets_2 (sw H r) 624 q n2 j = some c ∧ 0 ≤ c ∧ c < r 0 := by
    intro n
    induction n with
    | zero =>
      intro j n1 n2 he hj hn1 hn2
      obtain ⟨n1, rfl⟩ : ∃ k, n1 = k + 1 := ⟨n1 - 1, by omega⟩
      obtain ⟨n2, rfl⟩ : ∃ k, n2 = k + 1 := ⟨n2 - 1, by omega⟩
      have j0 : j = 0 := by simpa [en] using he
      have s := stop j n1 n2 hj (by rw [j0]; exact z0)
      exact ⟨j, s.1, s.2, hj⟩
    | succ n ih =>
      intro j n1 n2 he hj hn1 hn2
      obtain ⟨n1, rfl⟩ : ∃ k, n1 = k + 1 := ⟨n1 - 1, by omega⟩
      obtain ⟨n2, rfl⟩ : ∃ k, n2 = k + 1 := ⟨n2 - 1, by omega⟩
      by_cases st : j = q ∨ OV (up r) j q = true
      · have s := stop j n1 n2 hj st
        exact ⟨j, s.1, s.2, hj⟩
      · have j0 : ¬ j = 0 := fun z => st (by rw [z]; exact z0)
        have c : ¬ j = q := fun z => st (Or.inl z)
        have c2 : ¬ OV (up r) j q = true := fun z => st (Or.inr z)
        have hr := QQ_rg h (i := j) (by omega)
        have eC : lT_lowestOver_2 G S (pc S q) (n1 + 1) (pc S j) = bT_lowestOver_2 G S (pc S q) (lT_lowestOver_2 G S (pc S q) n1) (pc S j) := rfl
        have eM : lM_meets_2 (sw H r) 624 q (n2 + 1) j = bM_meets_2 (sw H r) 624 q (lM_meets_2 (sw H r) 624 q n2) j := rfl
        have eu : r (60 + j) = up r j := rfl
        rw [eC, eM, bT_lowestOver_2, bM_meets_2, if_neg (pc_pos h.1 (by omega)), if_neg (pc_ne hj.1 hq.1 c), if_pos (kdp h.1 (by omega)), qP_over h hj.1 hq, bdP_s, if_neg c2, if_pos rfl, if_neg c, ovv j, bdP_s, if_neg c2, if_pos rfl, w32_r (x := 60 + j) (by omega), if_pos (gd25 hs (by omega)), m0s hs, sw_s, QQ_up h (by omega), eu]
        rcases en_s.mp he with z | ⟨-, -, z⟩
        · exact absurd z j0
        · exact ih _ n1 n2 z hr (by omega) (by omega)
  rw [fT_lowestOver, fM_meets]
  exact key 40 p fu fu (QQ_en h hp) hp (by omega) (by omega)
theorem jq_meet (h : JA G H) : JQ t2 G (fC_meet G 0 p q) (fM_meet H 624 p q) := by
  have qq := jaQ h
  have hb := jaM h
  rw [fC_meet, fM_meet]
  rcases vM_anyG4 (p := p) (q := q) h.2.1 with ⟨a, e⟩ | ⟨a, b, e⟩ | ⟨a, b, c, e⟩ | ⟨a, b, c, d, e⟩
  · rw [e, bdN_s, if_neg f0, jn_n h a, qe3]
    exact JQ_e (JA_th h) (th8.trans rfl) (by decide)
  · rw [e, bdN_s, if_neg f0, jn_y h a, bdQ_0, jn_n h b, qe3]
    exact JQ_e (JA_th h) (th8.trans rfl) (by decide)
  · rw [e, bdN_s, if_neg f0, jn_y h a, bdQ_0, jn_y h b, bdQ_0, if_pos (kdp T1 (by omega)), QQ_st qq a, if_pos (kdp T1 (i := q) (by omega)), QQ_st qq b, st_n, qe2]
    by_cases c1 : H 625 (140 + p) = 2
    · rw [if_pos c1]
      exact JQ_e (JA_th (JA_th h)) (th8.trans rfl) (by decide)
    · rw [if_neg c1, if_pos (c.resolve_left c1)]
      exact JQ_e (JA_th (JA_th h)) (th8.trans rfl) (by decide)
  · have o1 := JA_th (t := 0) h
    have e25 : th H 0 625 = H 625 := th_n (by omega)
    obtain ⟨w, m1, m2, m3⟩ := lk_meets (p := p) (q := q) o1.2.1.1 (jaQ o1) (by rw [e25]; exact a) (by rw [e25]; exact b)
    rw [sw_id] at m2
    rw [e25] at m3
    rw [e, bdN_s, if_pos rfl, jn_y h a, bdQ_0, jn_y h b, bdQ_0, if_pos (kdp T1 (by omega)), QQ_st qq a, if_neg c, if_pos (kdp T1 (i := q) (by omega)), QQ_st qq b, if_neg d, st_1, bdQ_0, ja0 h, if_pos (kdT T1), m1, bdP_s, if_pos (kdp T1 (by omega)), TS_n qq.2.1.1 (by omega), m2, bdP_s]
    exact JQ_i o1 th8
end PAR43
