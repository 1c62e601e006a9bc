/-! ===== the reference's calls that change: refuse to give (own work) ===== -/
section MODEL13
variable {g G : gH} {p code t c a b k q gp : Int}
theorem f0 : ¬ (1 : Int) = 0 := by omega
theorem oM_refuse (hi : MInv g) : PO g (fM_refuse g 624 p gp) := by
  rw [fM_refuse, vM_noProcess hi]
  by_cases h : 0 ≤ p ∧ p < g 625 0
  · simp only [if_pos h, bdN_s, if_true, vM_isSmall, bdP_s]
    have o1 := OK_th (t := 0) (OK_r hi)
    have hM := hi.2.1.1.1
    by_cases h1 : 0 ≤ gp ∧ gp ≤ 9
    · simp only [if_pos h1, f0, if_false, jM_refuse_21, kd_c624, if_true, vM_fails (Or.inl rfl), bdN_s]
      have hr := vM_runs (g := th g 0) (p := p) o1.1.1 (by omega)
      by_cases h3 : p = 0
      · simp only [h3, if_true, jM_refuse_41, jM_refuse_46, kd_c624, vM_fails (Or.inr rfl), bdN_s, f0, if_false]
        exact PO_i rfl (OK_th o1)
      · by_cases h2 : (th g 0) 625 (140 + p) = 0
        · simp only [hr, h2, h3, bdP_s, if_true, if_false, f0, jM_refuse_46, kd_c624, vM_fails (Or.inl rfl), bdN_s]
          obtain ⟨G, r1, r2, r3, r4, -⟩ := OK_rem o1
          have w := r2.1.2.1
          have h04 := r2.1.1.1
          have hp : 0 < p ∧ p < G 625 0 := by rw [r3, th_n (by omega)]; omega
          rw [r1]
          simp (disch := omega) only [bdN_s, h04, kd_625, sz_625, w32_r, true_and, le_t, lt_t, and_true, ↓reduceIte, ↓bnd_s, pU_625]
          generalize hv : opI 2 (G 625 (340 + p)) (opI 4 1 gp) = v
          have w1 : WBF (u1 (G 625) (340 + p) v) := WBF_eq w (WB_eq w.1 (fun k hk => u1_n (by have := w.1.1; omega))) (fun k hk => u1_n (by have := w.1.1; omega))
          have hM1 := w.1.1
          obtain ⟨s', e1, e2⟩ := for_some (L := fun n k (s : Int × (Int → Int)) => lM_refuse_80 624 p gp n s.1 k (sw G s.2)) (E := fun s => some (s.1, sw G s.2)) (G 625 0) (fun k s => 1 ≤ k ∧ WBF s.2 ∧ s.2 0 = G 625 0) (fun n k s hk hI => by
            obtain ⟨n0, i⟩ := s
            obtain ⟨k0, i1, i2⟩ := hI
            have i1 : WBF i := i1
            have i2 : i 0 = G 625 0 := i2
            have hic := vM_isChild (g := sw G i) (p := k) (a := p) (st := 0) (MS_sw r2.1.1) (by omega)
            rw [sw_s] at hic
            by_cases c1 : ic i k p 0 = true
            · by_cases c2 : i (180 + k) = gp
              · have hAD := (vM_adopterOf (g := sw G i) (o := k) (wo := p) (MS_sw r2.1.1) (by rw [sw_s]; exact i1.1) (by rw [sw_s]; omega) (by rw [sw_s]; omega)).1
                rw [sw_s, sw_n (show ¬ (630 : Int) = 625 by omega)] at hAD
                have had := vM_adopts (g := sw G i) (p := AD i (G 630) k p) (o := k) (MS_sw r2.1.1) (by omega)
                rw [sw_s, sw_sw] at had
                refine ⟨(w32 (n0 + 1), adR i (AD i (G 630) k p) k), ?_, by omega, WBF_ad i1 (by omega) r2.1.1 (by omega), ?_⟩
                · show bM_refuse_80 624 p gp (lM_refuse_80 624 p gp n) n0 k (sw G i) = _
                  rw [bM_refuse_80, hic]
                  simp (disch := omega) only [c1, c2, sw_n, sw_s, h04, kd_625, sz_625, w32_r (show -2147483648 ≤ k + 1 ∧ k + 1 < 2147483648 by omega), w32_r (show -2147483648 ≤ 180 + k ∧ 180 + k < 2147483648 by omega), true_and, le_t, lt_t, and_true, ↓reduceIte, bdP_s, f0, hAD, had, bdN_s]
                · exact (adR_n (by omega)).trans i2
              · refine ⟨(n0, i), ?_, by omega, i1, i2⟩
                show bM_refuse_80 624 p gp (lM_refuse_80 624 p gp n) n0 k (sw G i) = _
                rw [bM_refuse_80, hic]
                simp (disch := omega) only [c1, c2, sw_n, sw_s, h04, kd_625, sz_625, w32_r, true_and, le_t, lt_t, and_true, ↓reduceIte, bdP_s, f0]
            · refine ⟨(n0, i), ?_, by omega, i1, i2⟩
              show bM_refuse_80 624 p gp (lM_refuse_80 624 p gp n) n0 k (sw G i) = _
              rw [bM_refuse_80, hic]
              simp (disch := omega) only [c1, sw_n, sw_s, h04, kd_625, sz_625, w32_r, true_and, le_t, lt_t, and_true, ↓reduceIte, bdP_s, Bool.false_eq_true]) (fun n k s hk hI => by
            obtain ⟨n0, i⟩ := s
            have i2 : i 0 = G 625 0 := hI.2.2
            show bM_refuse_80 624 p gp (lM_refuse_80 624 p gp n) n0 k (sw G i) = _
            rw [bM_refuse_80]
            simp (disch := omega) only [sw_n, sw_s, h04, kd_625, sz_625, true_and, le_t, lt_t, lt_f, and_true, ↓reduceIte]) (G 625 0 - 1).toNat 1 (0, u1 (G 625) (340 + p) v) fu (by omega) (by have := fu_ge; omega) ⟨by omega, w1, u1_n (by omega)⟩
          exact PO_i e1 (OK_sw r2 e2.2.1)
        · simp only [hr, h2, h3, bdP_s, if_true, if_false, jM_refuse_41, jM_refuse_46, kd_c624, vM_fails (Or.inr rfl), bdN_s, f0]
          exact PO_i rfl (OK_th o1)
    · simp only [if_neg h1, if_true, jM_refuse_21, kd_c624, vM_fails (Or.inr rfl), bdN_s, f0, if_false]
      exact PO_i rfl (OK_th o1)
  · simp only [if_neg h, bdN_s]
    exact PO_1 (OK_th (OK_r hi))
theorem WBF_rf {r : Int → Int} {v : Int} (w : WBF r) (hp : 0 ≤ p ∧ p < r 0) : WBF (u1 r (340 + p) v) := by
  have hM := w.1.1
  exact WBF_eq w (WB_eq w.1 (fun k hk => u1_n (by omega))) (fun k hk => u1_n (by omega))
theorem oM_accept (hi : MInv g) : PO g (fM_accept g 624 p gp) := by
  rw [fM_accept, vM_noProcess hi]
  by_cases h : 0 ≤ p ∧ p < g 625 0
  · simp only [if_pos h, bdN_s, if_true, vM_isSmall, bdP_s]
    have o1 := OK_th (t := 0) (OK_r hi)
    have hM := hi.2.1.1.1
    by_cases h1 : 0 ≤ gp ∧ gp ≤ 9
    · simp only [if_pos h1, f0, if_false, jM_accept_21, kd_c624, if_true, vM_fails (Or.inl rfl), bdN_s]
      have hr := vM_runs (g := th g 0) (p := p) o1.1.1 (by omega)
      by_cases h2 : (th g 0) 625 (140 + p) = 0
      · simp only [hr, h2, bdP_s, if_true, if_false, f0, jM_accept_42, kd_c624, vM_fails (Or.inl rfl), bdN_s]
        obtain ⟨G, r1, r2, r3, r4, -⟩ := OK_rem o1
        have w := r2.1.2.1
        have h04 := r2.1.1.1
        have hp : 0 ≤ p ∧ p < G 625 0 := by rw [r3, th_n (by omega)]; exact h
        have hM1 := w.1.1
        rw [r1, bdN_s, vM_refuses r2.1.1 (by omega), bdP_s]
        simp (disch := omega) only [h04, kd_625, sz_625, w32_r, true_and, le_t, lt_t, and_true, ↓reduceIte, ↓bnd_s, pU_625]
        exact PO_i rfl (OK_sw r2 (WBF_rf w hp))
      · simp only [hr, h2, bdP_s, if_true, if_false, jM_accept_42, kd_c624, vM_fails (Or.inr rfl), bdN_s, f0]
        exact PO_i rfl (OK_th o1)
    · simp only [if_neg h1, if_true, jM_accept_21, kd_c624, vM_fails (Or.inr rfl), bdN_s, f0, if_false]
      exact PO_i rfl (OK_th o1)
  · simp only [if_neg h, bdN_s]
    exact PO_1 (OK_th (OK_r hi))
/-- a capacity or a budget set -/
theorem oM_sets (hi : MInv g) (hf : k = 100 ∨ k = 220) : PO g (fM_sets g 624 k p c) := by
  rw [fM_sets, vM_noProcess hi]
  by_cases h : 0 ≤ p ∧ p < g 625 0
  · simp only [if_pos h, bdN_s, if_true, vM_isSmall, bdP_s]
    have o1 := OK_th (t := 0) (OK_r hi)
    have hM := hi.2.1.1.1
    by_cases h1 : 0 ≤ c ∧ c ≤ 9
    · simp only [if_pos h1, f0, if_false, jM_sets_21, kd_c624, if_true, vM_fails (Or.inl rfl), bdN_s]
      have hr := vM_runs (g := th g 0) (p := p) o1.1.1 (by omega)
      by_cases h2 : (th g 0) 625 (140 + p) = 0
      · simp only [hr, h2, bdP_s, if_true, if_false, f0, jM_sets_42, kd_c624, vM_fails (Or.inl rfl), bdN_s]
        obtain ⟨G, r1, r2, r3, r4, -⟩ := OK_rem o1
        have w := r2.1.2.1
        have h04 := r2.1.1.1
        have hp : 0 ≤ p ∧ p < G 625 0 := by rw [r3, th_n (by omega)]; exact h
        have hM1 := w.1.1
        rw [r1, bdN_s]
        simp (disch := omega) only [h04, kd_625, sz_625, w32_r, true_and, le_t, lt_t, and_true, ↓reduceIte, ↓bnd_s, pU_625]
        refine PO_i rfl (OK_sw r2 ?_)
        rcases hf with rfl | rfl
        · refine WBF_eq w ?_ (fun k hk => u1_n (by omega))
          obtain ⟨b1, b2, b3, b4, b5, b6, b7⟩ := w.1
          have e0 : u1 (G 625) (100 + p) c 0 = G 625 0 := u1_n (by omega)
          refine ⟨by rw [e0]; exact b1, ?_, ?_, by rw [u1_n (by omega)]; exact b4, ?_, ?_, ?_⟩
          · intro i i0 i1
            rw [e0] at i1 ⊢
            rw [u1_n (by omega)]
            exact b2 i i0 i1
          · rw [e0]
            exact acy_ext b3 b2 (fun i i0 i1 => u1_n (by omega))
          · intro i i0 i1
            rw [e0] at i1 ⊢
            rw [u1_n (by omega)]
            exact b5 i i0 i1
          · intro i d i0 i1 d0 d1
            rw [e0] at i1 ⊢
            rw [u1_n (by omega)]
            exact b6 i d i0 i1 d0 d1
          · intro i i0 i1
            rw [e0] at i1
            by_cases e : i = p
            · rw [e, u1_s]; exact h1
            · rw [u1_n (by omega)]; exact b7 i i0 i1
        · obtain ⟨hb0, hS, hSR, hX, hL, hN, hH, hC, hB⟩ := w
          have e0 : u1 (G 625) (220 + p) c 0 = G 625 0 := u1_n (by omega)
          have hb1 : WB (u1 (G 625) (220 + p) c) := WB_eq hb0 (fun k hk => u1_n (by omega))
          refine ⟨hb1, ⟨?_, ?_⟩, ?_, ⟨?_, ?_⟩, ?_, ?_, ?_, ?_, ?_⟩
          · intro i i0 i1
            rw [e0] at i1
            rw [u1_n (by omega)]; exact hS.1 i i0 i1
          · rw [u1_n (by omega)]; exact hS.2
          · intro i i0 i1 i2
            rw [e0] at i1
            have := hb0.2.1 i i0 i1
            rw [u1_n (by omega)] at i2
            rw [u1_n (show ¬ 60 + i = 220 + p by omega), u1_n (by omega)]
            exact hSR i i0 i1 i2
          · rw [u1_n (by omega)]; exact hX.1
          · intro k k0 k1
            rw [u1_n (by omega)] at k1
            have := hX.1
            rw [u1_n (by omega), e0]
            exact hX.2 k k0 k1
          · intro i i0 i1 i2
            rw [e0] at i1
            rw [u1_n (by omega)] at i2
            obtain ⟨k, k0, k1, k2⟩ := hL i i0 i1 i2
            have := hX.1
            exact ⟨k, k0, by rw [u1_n (by omega)]; exact k1, by rw [u1_n (by omega)]; exact k2⟩
          · show u1 (G 625) (220 + p) c 1 = _
            rw [u1_n (by omega), cn_eq_st e0 hM1.2 (fun k k0 k1 => u1_n (by omega))]
            exact hN
          · intro d d0 d1
            have := hH d d0 d1
            rw [u1_n (show ¬ 11 + d = 220 + p by omega), e0, u1_n (by omega)]
            exact this
          · intro i i0 i1 i2
            rw [e0] at i1
            rw [u1_n (by omega)] at i2
            rw [u1_n (by omega)]
            exact hC i i0 i1 i2
          · intro i i0 i1
            rw [e0] at i1
            by_cases e : i = p
            · rw [e, u1_s]; exact h1
            · rw [u1_n (by omega)]; exact hB i i0 i1
      · simp only [hr, h2, bdP_s, if_true, if_false, jM_sets_42, kd_c624, vM_fails (Or.inr rfl), bdN_s, f0]
        exact PO_i rfl (OK_th o1)
    · simp only [if_neg h1, if_true, jM_sets_21, kd_c624, vM_fails (Or.inr rfl), bdN_s, f0, if_false]
      exact PO_i rfl (OK_th o1)
  · simp only [if_neg h, bdN_s]
    exact PO_1 (OK_th (OK_r hi))
theorem PO_bd {X : Option (Int × gH)} (h : PO g X) : PO g (bdN X (fun y g3 => some (y, g3))) := by
  obtain ⟨v, g', e, h1, h2, h3⟩ := h
  rw [e, bdN_s]
  exact ⟨v, g', rfl, h1, h2, h3⟩
theorem oM_setCapacity (hi : MInv g) : PO g (fM_setCapacity g 624 p c) := PO_bd (oM_sets hi (Or.inl rfl))
theorem oM_setBudget (hi : MInv g) : PO g (fM_setBudget g 624 p c) := PO_bd (oM_sets hi (Or.inr rfl))
theorem oM_setHeir (hi : MInv g) : PO g (fM_setHeir g 624 p c) := by
  rw [fM_setHeir, vM_noProcess hi]
  have hM := hi.2.1.1.1
  have o1 := OK_th (t := 0) (OK_r hi)
  have h01 := o1.1.1.1
  have e625 : (th g 0) 625 = g 625 := th_n (by omega)
  by_cases h : 0 ≤ p ∧ p < g 625 0
  · simp (disch := omega) only [if_pos h, bdN_s, ↓reduceIte, h01, kd_625, sz_625, true_and, le_t, lt_t, and_true, vM_inRange, bdP_s, e625, w32_r]
    by_cases h1 : -1 ≤ c ∧ c ≤ g 625 0 - 1
    · simp only [if_pos h1, f0, if_false, jM_setHeir_30, kd_c624, if_true, vM_fails (Or.inl rfl), bdN_s]
      by_cases h2 : p = c
      · simp only [if_pos h2, jM_setHeir_48, kd_c624, if_true, vM_fails (Or.inr rfl), bdN_s, f0, if_false]
        exact PO_i rfl (OK_th o1)
      · simp only [if_neg h2, jM_setHeir_48, kd_c624, if_true, vM_fails (Or.inl rfl), bdN_s]
        have hr := vM_runs (g := th g 0) (p := p) o1.1.1 (by omega)
        by_cases h3 : p = 0
        · simp only [h3, if_true, jM_setHeir_68, jM_setHeir_73, kd_c624, vM_fails (Or.inr rfl), bdN_s, f0, if_false]
          exact PO_i rfl (OK_th o1)
        · by_cases h4 : (th g 0) 625 (140 + p) = 0
          · simp only [hr, h4, h3, bdP_s, if_true, if_false, f0, jM_setHeir_73, kd_c624, vM_fails (Or.inl rfl), bdN_s]
            obtain ⟨G, r1, r2, r3, r4, -⟩ := OK_rem o1
            have w := r2.1.2.1
            have h04 := r2.1.1.1
            have hp : 0 ≤ p ∧ p < G 625 0 := by rw [r3, e625]; exact h
            have hM1 := w.1.1
            rw [r1, bdN_s]
            simp (disch := omega) only [h04, kd_625, sz_625, w32_r, true_and, le_t, lt_t, and_true, ↓reduceIte, ↓bnd_s, pU_625]
            refine PO_i rfl (OK_sw r2 (WBF_eq w ?_ (fun k hk => u1_n (by omega))))
            obtain ⟨b1, b2, b3, b4, b5, b6, b7⟩ := w.1
            have e0 : u1 (G 625) (260 + p) c 0 = G 625 0 := u1_n (by omega)
            refine ⟨by rw [e0]; exact b1, ?_, ?_, by rw [u1_n (by omega)]; exact b4, ?_, ?_, ?_⟩
            · intro i i0 i1
              rw [e0] at i1 ⊢
              rw [u1_n (by omega)]
              exact b2 i i0 i1
            · rw [e0]
              exact acy_ext b3 b2 (fun i i0 i1 => u1_n (by omega))
            · intro i i0 i1
              rw [e0] at i1 ⊢
              by_cases e : i = p
              · rw [e, u1_s, r3, e625]; omega
              · rw [u1_n (by omega)]; exact b5 i i0 i1
            · intro i d i0 i1 d0 d1
              rw [e0] at i1 ⊢
              rw [u1_n (by omega)]
              exact b6 i d i0 i1 d0 d1
            · intro i i0 i1
              rw [e0] at i1
              rw [u1_n (by omega)]; exact b7 i i0 i1
          · simp only [hr, h4, h3, bdP_s, if_true, if_false, jM_setHeir_68, jM_setHeir_73, kd_c624, vM_fails (Or.inr rfl), bdN_s, f0]
            exact PO_i rfl (OK_th o1)
    · simp only [if_neg h1, if_true, jM_setHeir_30, kd_c624, vM_fails (Or.inr rfl), bdN_s, f0, if_false]
      exact PO_i rfl (OK_th o1)
  · simp only [if_neg h, bdN_s]
    exact PO_1 (OK_th (OK_r hi))
theorem oM_give (hi : MInv g) : PO g (fM_give g 624 a p) := by
  have e : pU g 624 8 0 = th g 0 := rfl
  rw [fM_give, bnd_s, e]
  have o1 := OK_th (t := 0) (OK_r hi)
  have h01 := o1.1.1.1
  have hM := o1.1.2.1.1.1
  rcases vM_noDuty (g := th g 0) (a := a) (c := 1) with ⟨-, e1⟩ | ⟨h1, e1⟩
  · rw [e1, bdN_s]; exact PO_1 (OK_th o1)
  · rw [e1, bdN_s]
    refine PO_0 ?_
    simp (disch := omega) only [↓reduceIte, h01, kd_625, sz_625, true_and, le_t, lt_t, and_true, vM_inRange, bdP_s, w32_r]
    by_cases h2 : 0 ≤ p ∧ p ≤ (th g 0) 625 0 - 1
    · simp only [if_pos h2, f0, if_false, jM_give_36, kd_c624, if_true, vM_fails (Or.inl rfl), bdN_s]
      have hr := vM_runs (g := th g 0) (p := p) o1.1.1 (by omega)
      by_cases h4 : (th g 0) 625 (140 + p) = 0
      · simp only [hr, h4, bdP_s, if_true, if_false, f0, jM_give_57, kd_c624, vM_fails (Or.inl rfl), bdN_s]
        obtain ⟨G, r1, r2, r3, r4, -⟩ := OK_rem o1
        have w := r2.1.2.1
        have h04 := r2.1.1.1
        have hM1 := w.1.1
        rw [r1, bdN_s]
        simp (disch := omega) only [h04, kd_625, sz_625, w32_r, true_and, le_t, lt_t, and_true, ↓reduceIte, ↓bnd_s, pU_625]
        refine PO_i rfl (OK_sw r2 ?_)
        have e0 : u1 (G 625) (11 + a) p 0 = G 625 0 := u1_n (by omega)
        obtain ⟨hb0, hS, hSR, hX, hL, hN, hH, hC, hB⟩ := w
        refine ⟨WB_eq hb0 (fun k hk => u1_n (by omega)), ⟨?_, ?_⟩, ?_, ⟨?_, ?_⟩, ?_, ?_, ?_, ?_, ?_⟩
        · intro i i0 i1
          rw [e0] at i1
          rw [u1_n (by omega)]; exact hS.1 i i0 i1
        · rw [u1_n (by omega)]; exact hS.2
        · intro i i0 i1 i2
          rw [e0] at i1
          have := hb0.2.1 i i0 i1
          rw [u1_n (by omega)] at i2
          rw [u1_n (show ¬ 60 + i = 11 + a by omega), u1_n (by omega)]
          exact hSR i i0 i1 i2
        · rw [u1_n (by omega)]; exact hX.1
        · intro k k0 k1
          rw [u1_n (by omega)] at k1
          rw [u1_n (by omega), e0]
          exact hX.2 k k0 k1
        · intro i i0 i1 i2
          rw [e0] at i1
          rw [u1_n (by omega)] at i2
          obtain ⟨k, k0, k1, k2⟩ := hL i i0 i1 i2
          exact ⟨k, k0, by rw [u1_n (by omega)]; exact k1, by rw [u1_n (by omega)]; exact k2⟩
        · show u1 (G 625) (11 + a) p 1 = _
          rw [u1_n (by omega), cn_eq_st e0 hM1.2 (fun k k0 k1 => u1_n (by omega))]
          exact hN
        · intro d d0 d1
          by_cases e : d = a
          · rw [e, u1_s, e0, u1_n (by omega), r3]
            exact ⟨h2.1, by omega, h4⟩
          · have := hH d d0 d1
            rw [u1_n (show ¬ 11 + d = 11 + a by omega), e0, u1_n (by omega)]
            exact this
        · intro i i0 i1 i2
          rw [e0] at i1
          rw [u1_n (by omega)] at i2
          rw [u1_n (by omega)]
          exact hC i i0 i1 i2
        · intro i i0 i1
          rw [e0] at i1
          rw [u1_n (by omega)]; exact hB i i0 i1
      · simp only [hr, h4, bdP_s, if_true, if_false, jM_give_57, kd_c624, vM_fails (Or.inr rfl), bdN_s, f0]
        exact PO_i rfl (OK_th o1)
    · simp only [if_neg h2, if_true, jM_give_36, kd_c624, vM_fails (Or.inr rfl), bdN_s, f0, if_false]
      exact PO_i rfl (OK_th o1)
end MODEL13
