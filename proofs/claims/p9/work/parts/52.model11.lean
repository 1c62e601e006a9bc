/-! ===== the reference's calls: tests first, changes kept (own work) ===== -/
section MODEL11
variable {g : gH} {p code t c a b k : Int}
theorem MInv_sw {r : Int → Int} (h : MInv g) (hr : WBF r) : MInv (sw g r) := by
  obtain ⟨h1, h2, h3, ⟨h4, h5⟩, h6, h7, h8⟩ := h
  unfold MInv MS
  simp (disch := omega) only [sw_n, sw_s]
  exact ⟨h1, hr, h3, ⟨h4, h5⟩, h6, h7, h8⟩
theorem MInv_630 (h : MInv g) : MInv (pU g 630 k 0) := by
  obtain ⟨h1, h2, h3, ⟨h4, h5⟩, h6, h7, h8⟩ := h
  unfold MInv MS
  simp (disch := omega) only [pU_n, pU_s]
  refine ⟨h1, h2, fun i i0 i1 => ?_, ⟨h4, h5⟩, h6, h7, h8⟩
  unfold u1
  split
  · rfl
  · exact h3 i i0 i1
theorem exG_n {x : Int} (h : ¬ x = 630) : exG g p code x = g x := by
  unfold exG
  split
  · exact pU_n h
  · rfl
theorem MInv_exG (h : MInv g) : MInv (exG g p code) := by
  unfold exG
  split
  · exact MInv_630 h
  · exact h
theorem MF_exG {g0 : gH} (h : MF g0 g) : MF g0 (exG g p code) := by
  unfold exG
  split
  · exact MF_pU h (by omega)
  · exact h
theorem vM_notRunning (hi : MInv g) : (¬ (0 ≤ p ∧ p < g 625 0) ∧ fM_notRunning g 624 p c = some (1, th g 1)) ∨ ((0 ≤ p ∧ p < g 625 0) ∧ ¬ g 625 (140 + p) = 0 ∧ fM_notRunning g 624 p c = some (1, th g c)) ∨ ((0 ≤ p ∧ p < g 625 0) ∧ g 625 (140 + p) = 0 ∧ fM_notRunning g 624 p c = some (0, th g 0)) := by
  have hM := hi.2.1.1.1
  rw [fM_notRunning, vM_noProcess hi]
  by_cases h : 0 ≤ p ∧ p < g 625 0
  · right
    simp only [if_pos h, bdN_s, if_true]
    have hr := vM_runs (g := th g 0) (p := p) (MInv_th hi).1 (by omega)
    rw [th_n (by omega)] at hr
    by_cases h2 : g 625 (140 + p) = 0
    · right
      refine ⟨h, h2, ?_⟩
      simp only [hr, h2, bdP_s, if_true, jM_notRunning_22, kd_c624, vM_fails (Or.inl rfl), bdN_s, show ¬ (1 : Int) = 0 by omega, if_false]
    · left
      refine ⟨h, h2, ?_⟩
      simp only [hr, h2, bdP_s, if_true, if_false, jM_notRunning_22, kd_c624, vM_fails (Or.inr rfl), bdN_s, show ¬ (1 : Int) = 0 by omega]
      rw [show th (th g 0) c = th g c from th_th]
  · left
    refine ⟨h, ?_⟩
    simp only [if_neg h, bdN_s, show ¬ (1 : Int) = 0 by omega, if_false]
theorem vM_notExiting (hi : MInv g) : (¬ (0 ≤ p ∧ p < g 625 0) ∧ fM_notExiting g 624 p c = some (1, th g 1)) ∨ ((0 ≤ p ∧ p < g 625 0) ∧ ¬ (¬ p = 0 ∧ g 625 (140 + p) = 0) ∧ fM_notExiting g 624 p c = some (1, th g c)) ∨ ((0 < p ∧ p < g 625 0) ∧ g 625 (140 + p) = 0 ∧ fM_notExiting g 624 p c = some (0, th g 0)) := by
  have hM := hi.2.1.1.1
  rw [fM_notExiting, vM_noProcess hi]
  by_cases h : 0 ≤ p ∧ p < g 625 0
  · right
    simp only [if_pos h, bdN_s, if_true]
    have hr := vM_runs (g := th g 0) (p := p) (MInv_th hi).1 (by omega)
    rw [th_n (by omega)] at hr
    by_cases h3 : p = 0
    · left
      refine ⟨h, fun z => z.1 h3, ?_⟩
      simp only [h3, if_true, jM_notExiting_21, jM_notExiting_26, kd_c624, vM_fails (Or.inr rfl), bdN_s, show ¬ (1 : Int) = 0 by omega, if_false]
      rw [show th (th g 0) c = th g c from th_th]
    · by_cases h2 : g 625 (140 + p) = 0
      · right
        refine ⟨by omega, h2, ?_⟩
        simp only [hr, h2, h3, bdP_s, if_true, if_false, jM_notExiting_26, kd_c624, vM_fails (Or.inl rfl), bdN_s, show ¬ (1 : Int) = 0 by omega]
      · left
        refine ⟨h, fun z => h2 z.2, ?_⟩
        simp only [hr, h2, h3, bdP_s, if_true, if_false, jM_notExiting_21, jM_notExiting_26, kd_c624, vM_fails (Or.inr rfl), bdN_s, show ¬ (1 : Int) = 0 by omega]
        rw [show th (th g 0) c = th g c from th_th]
  · left
    refine ⟨h, ?_⟩
    simp only [if_neg h, bdN_s, show ¬ (1 : Int) = 0 by omega, if_false]
theorem vM_noExit (hi : MInv g) : (¬ (0 ≤ p ∧ p < g 625 0) ∧ fM_noExit g 624 p code = some (1, th g 1)) ∨ ((0 ≤ p ∧ p < g 625 0) ∧ ¬ (0 ≤ code ∧ code ≤ 255) ∧ fM_noExit g 624 p code = some (1, th g 2)) ∨ ((0 ≤ p ∧ p < g 625 0) ∧ (0 ≤ code ∧ code ≤ 255) ∧ ¬ (¬ p = 0 ∧ g 625 (140 + p) = 0) ∧ fM_noExit g 624 p code = some (1, th g 3)) ∨ ((0 < p ∧ p < g 625 0) ∧ (0 ≤ code ∧ code ≤ 255) ∧ g 625 (140 + p) = 0 ∧ fM_noExit g 624 p code = some (0, th g 0)) := by
  have hM := hi.2.1.1.1
  rw [fM_noExit, vM_noProcess hi]
  by_cases h : 0 ≤ p ∧ p < g 625 0
  · right
    simp only [if_pos h, bdN_s, if_true, vM_inRange, bdP_s]
    by_cases hc : 0 ≤ code ∧ code ≤ 255
    · right
      have hr := vM_runs (g := th g 0) (p := p) (MInv_th hi).1 (by omega)
      rw [th_n (by omega)] at hr
      simp only [if_pos hc, show ¬ (1 : Int) = 0 by omega, if_false, jM_noExit_25, kd_c624, if_true, vM_fails (Or.inl rfl), bdN_s]
      by_cases h3 : p = 0
      · left
        refine ⟨h, hc, fun z => z.1 h3, ?_⟩
        simp only [h3, if_true, jM_noExit_45, jM_noExit_50, kd_c624, vM_fails (Or.inr rfl), bdN_s, show ¬ (1 : Int) = 0 by omega, if_false]
        rw [show th (th g 0) 3 = th g 3 from th_th]
      · by_cases h2 : g 625 (140 + p) = 0
        · right
          refine ⟨by omega, hc, h2, ?_⟩
          simp only [hr, h2, h3, bdP_s, if_true, if_false, jM_noExit_50, kd_c624, vM_fails (Or.inl rfl), bdN_s, show ¬ (1 : Int) = 0 by omega]
        · left
          refine ⟨h, hc, fun z => h2 z.2, ?_⟩
          simp only [hr, h2, h3, bdP_s, if_true, if_false, jM_noExit_45, jM_noExit_50, kd_c624, vM_fails (Or.inr rfl), bdN_s, show ¬ (1 : Int) = 0 by omega]
          rw [show th (th g 0) 3 = th g 3 from th_th]
    · left
      refine ⟨h, hc, ?_⟩
      simp only [if_neg hc, if_true, jM_noExit_25, kd_c624, vM_fails (Or.inr rfl), bdN_s, show ¬ (1 : Int) = 0 by omega, if_false]
      rw [show th (th g 0) 2 = th g 2 from th_th]
  · left
    refine ⟨h, ?_⟩
    simp only [if_neg h, bdN_s, show ¬ (1 : Int) = 0 by omega, if_false]
theorem vM_isSmall : fM_isSmall g c = some (if 0 ≤ c ∧ c ≤ 9 then 1 else 0) := by
  rw [fM_isSmall, vM_inRange, bdP_s]
theorem vM_noKill : (¬ ((0 ≤ a ∧ a ≤ 9) ∧ 0 ≤ code ∧ code ≤ 255) ∧ fM_noKill g 624 a code = some (1, th g 1)) ∨ (((0 ≤ a ∧ a ≤ 9) ∧ 0 ≤ code ∧ code ≤ 255) ∧ fM_noKill g 624 a code = some (0, th g 0)) := by
  have e : pU g 624 8 0 = th g 0 := rfl
  rw [fM_noKill]
  simp only [bnd_s, e, vM_isSmall, bdP_s, vM_inRange]
  by_cases h1 : 0 ≤ a ∧ a ≤ 9
  · by_cases h2 : 0 ≤ code ∧ code ≤ 255
    · right
      refine ⟨⟨h1, h2⟩, ?_⟩
      simp only [if_pos h1, if_pos h2, show ¬ (1 : Int) = 0 by omega, if_false, vM_fails (Or.inl rfl), bdN_s, if_true]
    · left
      refine ⟨fun z => h2 z.2, ?_⟩
      simp only [if_pos h1, if_neg h2, show ¬ (1 : Int) = 0 by omega, if_false, vM_fails (Or.inr rfl), bdN_s, if_true]
      rw [show th (th g 0) 1 = th g 1 from th_th]
  · left
    refine ⟨fun z => h1 z.1, ?_⟩
    simp only [if_neg h1, show ¬ (1 : Int) = 0 by omega, if_false, vM_fails (Or.inr rfl), bdN_s, if_true]
    rw [show th (th g 0) 1 = th g 1 from th_th]
theorem vM_noDuty : (¬ (0 ≤ a ∧ a ≤ 7) ∧ fM_noDuty g 624 a c = some (1, th g c)) ∨ ((0 ≤ a ∧ a ≤ 7) ∧ fM_noDuty g 624 a c = some (0, g)) := by
  rw [fM_noDuty]
  simp only [bdP_s, vM_inRange]
  by_cases h1 : 0 ≤ a ∧ a ≤ 7
  · right
    refine ⟨h1, ?_⟩
    simp only [if_pos h1, show ¬ (1 : Int) = 0 by omega, if_false, vM_fails (Or.inl rfl), bdN_s, if_true]
  · left
    refine ⟨h1, ?_⟩
    simp only [if_neg h1, show ¬ (1 : Int) = 0 by omega, if_false, vM_fails (Or.inr rfl), bdN_s, if_true]
/-- the row is kept; the rest of the state stays -/
theorem vM_remembers (hi : MInv g) : ∃ g', fM_remembers g 624 = some (0, g') ∧ MInv g' ∧ MF g g' ∧ (∀ x, ¬ x = 624 → ¬ x = 629 → g' x = g x) ∧ (∀ k, ¬ k = 6 → g' 624 k = g 624 k) := by
  obtain ⟨h1, h2, h3, ⟨h4, h5⟩, h6, h7, h8⟩ := hi
  have h0 := h1.1
  have h29 := h1.2.2.2.1
  -- the kept row goes to place n
  have fin : ∀ G : gH, (∀ x, ¬ x = 624 → ¬ x = 629 → G x = g x) → (∀ k, ¬ k = 6 → G 624 k = g 624 k) → (0 ≤ G 624 6 ∧ G 624 6 ≤ 9) → (∀ j, 0 ≤ j → j < G 624 6 → WBF (fun k => G 629 (780 * j + k))) → MF g G → ∃ g', jM_remembers_37 G 624 = some (0, g') ∧ MInv g' ∧ MF g g' ∧ (∀ x, ¬ x = 624 → ¬ x = 629 → g' x = g x) ∧ (∀ k, ¬ k = 6 → g' 624 k = g 624 k) := by
    intro G G1 G2 G3 G4 G5
    have g0 : G 624 0 = 625 := by rw [G2 0 (by omega)]; exact h0
    have g4 : G 624 4 = 629 := by rw [G2 4 (by omega)]; exact h29
    have e1 : opI 0 780 (G 624 6) = 780 * G 624 6 := by rw [opI_mul, w32_r (by omega)]
    have hc := vM_copies (g := G) (a := 625) (x := 0) (b := 629) (y := 780 * G 624 6) (n := 780) ⟨kd_625, kd_629⟩ (by rw [sz_625]; omega) (by rw [sz_629]; omega) (by omega) (Or.inl (by omega))
    refine ⟨pU (cpG G 625 0 629 (780 * G 624 6) 780) 624 6 (G 624 6 + 1), ?_, ?_, ?_, ?_, ?_⟩
    · rw [jM_remembers_37, g0, g4, e1, hc, bdN_s, bnd_s, cpG_n (by omega), w32_r (by omega)]
    · unfold MInv MS
      simp (disch := omega) only [pU_n, pU_s, u1_n, u1_s, cpG_n, G1, G2]
      refine ⟨h1, h2, h3, ⟨by omega, ?_⟩, h6, h7, h8⟩
      intro j j0 j1
      by_cases e : j = G 624 6
      · refine WBF_ext h2 (fun k k0 k1 => ?_)
        unfold cpG
        rw [if_pos ⟨rfl, by omega, by omega⟩, G1 625 (by omega) (by omega), show (0 + (780 * j + k) - 780 * G 624 6 : Int) = k by omega]
      · refine WBF_ext (G4 j j0 (by omega)) (fun k k0 k1 => ?_)
        unfold cpG
        rw [if_neg (fun z => by have := z.2.1; have := z.2.2; omega)]
    · exact MF_pU (MF_cp G5 (by omega)) (by omega)
    · intro x x1 x2
      rw [pU_n x1, cpG_n x2]
      exact G1 x x1 x2
    · intro k hk
      rw [pU_s, u1_n hk, cpG_n (by omega)]
      exact G2 k hk
  rw [fM_remembers]
  by_cases c10 : g 624 6 = 10
  · have hc := vM_copies (g := g) (a := 629) (x := 780) (b := 629) (y := 0) (n := 7020) ⟨kd_629, kd_629⟩ (by rw [sz_629]; omega) (by rw [sz_629]; omega) (by omega) (Or.inr (by omega))
    rw [if_pos c10, h29, hc, bdN_s, bnd_s, cpG_n (by omega), c10]
    refine fin _ ?_ ?_ ?_ ?_ ?_
    · intro x x1 x2
      rw [pU_n x1, cpG_n x2]
    · intro k hk
      rw [pU_s, u1_n hk, cpG_n (by omega)]
    · rw [pU_s, u1_s, w32_r (by omega)]
      omega
    · intro j j0 j1
      rw [pU_s, u1_s, w32_r (by omega)] at j1
      refine WBF_ext (h5 (j + 1) (by omega) (by omega)) (fun k k0 k1 => ?_)
      rw [pU_n (by omega)]
      unfold cpG
      rw [if_pos ⟨rfl, by omega, by omega⟩, show (780 + (780 * j + k) - 0 : Int) = 780 * (j + 1) + k by omega]
    · exact MF_pU (MF_cp MF_r (by omega)) (by omega)
  · rw [if_neg c10]
    exact fin g (fun _ _ _ => rfl) (fun _ _ => rfl) (by omega) h5 MF_r
/-- a copy is gone through and comes back -/
def bgG (g : gH) : gH := cpG g 625 0 627 0 780
theorem vM_begins (hs : MS g) : fM_begins g 624 = some (0, bgG g) := by
  have hc := vM_copies (g := g) (a := 625) (x := 0) (b := 627) (y := 0) (n := 780) ⟨kd_625, kd_627⟩ (by rw [sz_625]; omega) (by rw [sz_627]; omega) (by omega) (Or.inl (by omega))
  rw [fM_begins, hs.1, hs.2.1, hc, bdN_s]
  rfl
theorem vM_ends (hs : MS g) : fM_ends g 624 = some (0, cpG g 627 0 625 0 780) := by
  have hc := vM_copies (g := g) (a := 627) (x := 0) (b := 625) (y := 0) (n := 780) ⟨kd_627, kd_625⟩ (by rw [sz_627]; omega) (by rw [sz_625]; omega) (by omega) (Or.inl (by omega))
  rw [fM_ends, hs.1, hs.2.1, hc, bdN_s]
theorem bgG_n {x : Int} (h : ¬ x = 627) : bgG g x = g x := cpG_n h
theorem bgG_s {k : Int} (h : 0 ≤ k ∧ k < 780) : bgG g 627 k = g 625 k := by
  unfold bgG cpG
  rw [if_pos ⟨rfl, by omega, by omega⟩]
  congr 1
  omega
theorem MInv_bg (hi : MInv g) : MInv (bgG g) := by
  obtain ⟨h1, h2, h3, h4, h6, h7, h8⟩ := hi
  unfold MInv MS
  simp (disch := omega) only [bgG_n]
  exact ⟨h1, h2, h3, h4, h6, h7, h8⟩
/-- behind the end of what would be: as before -/
theorem MInv_en {G : gH} (hi : MInv G) (hw : WBF (G 627)) : MInv (cpG G 627 0 625 0 780) := by
  obtain ⟨h1, h2, h3, h4, h6, h7, h8⟩ := hi
  unfold MInv MS
  simp (disch := omega) only [cpG_n]
  refine ⟨h1, WBF_ext hw (fun k k0 k1 => ?_), h3, h4, h6, h7, h8⟩
  unfold cpG
  rw [if_pos ⟨rfl, by omega, by omega⟩]
  congr 1
  omega
end MODEL11
