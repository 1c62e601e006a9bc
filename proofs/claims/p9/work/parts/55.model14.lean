/-! ===== the reference's calls that change: spawn, move, exchange, relieve (own work) ===== -/
section MODEL14
variable {g G : gH} {p code t c a b k q gp : Int}
theorem WBF_cm {r : Int → Int} {s cp gp bu : Int} (w : WBF r) (hM : r 0 < 40) (hs : 0 ≤ s ∧ s < r 0) (hst : r (140 + s) = 0) (hc : 0 ≤ cp ∧ cp ≤ 9) (hbu : 0 ≤ bu ∧ bu ≤ 9) : WBF (cmR r s cp gp bu) := by
  obtain ⟨hb0, hS, hSR, hX, hL, hN, hH, hC, hB⟩ := w
  have hM' : 1 ≤ r 0 ∧ r 0 < 40 := ⟨hb0.1.1, hM⟩
  obtain ⟨n1, n2, n3, n4, n5, n6⟩ := cmR_n (a := s) (c := cp) (gp := gp) (b := bu) hM'
  have ho := fun k => cmR_o (r := r) (a := s) (c := cp) (gp := gp) (b := bu) (k := k) hM'
  have hn := NX_bd ⟨hb0.1.1, hb0.1.2⟩ hS.2 hN
  have e1 : cmR r s cp gp bu 1 = r 1 := ho 1 (by omega)
  have est : ∀ i, 0 ≤ i → i < r 0 → cmR r s cp gp bu (140 + i) = r (140 + i) := fun i i0 i1 => ho _ (by omega)
  refine ⟨WB_cm hb0 hM hs hc, ⟨?_, ?_⟩, ?_, ⟨by rw [e1]; exact hX.1, ?_⟩, ?_, ?_, ?_, ?_, ?_⟩
  · intro i i0 i1
    rw [cmR_0] at i1
    by_cases e : i = r 0
    · rw [e, n3]; omega
    · rw [est i i0 (by omega)]; exact hS.1 i i0 (by omega)
  · rw [ho 140 (by omega)]; exact hS.2
  · intro i i0 i1 i2
    rw [cmR_0] at i1
    by_cases e : i = r 0
    · rw [e, n1, est s hs.1 hs.2]; exact hst
    · rw [est i (by omega) (by omega)] at i2
      rw [ho (60 + i) (by omega)]
      have := hb0.2.1 i i0 (by omega)
      rw [est _ this.1 this.2]
      exact hSR i i0 (by omega) i2
  · intro k k0 k1
    rw [e1] at k1
    rw [ho _ (by omega), cmR_0]
    have := hX.2 k k0 k1
    omega
  · intro i i0 i1 i2
    rw [cmR_0] at i1
    by_cases e : i = r 0
    · rw [e, n3] at i2; exact absurd rfl i2
    · rw [est i i0 (by omega)] at i2
      obtain ⟨k, k0, k1, k2⟩ := hL i i0 (by omega) i2
      exact ⟨k, k0, by rw [e1]; exact k1, by rw [ho _ (by omega)]; exact k2⟩
  · show cmR r s cp gp bu 1 = _
    rw [e1, cmR_0, show (r 0 + 1).toNat = (r 0).toNat + 1 by omega, cn_one, show (0 : Int) + ((r 0).toNat : Int) = r 0 by omega, hN]
    have : (!decide (cmR r s cp gp bu (140 + r 0) = 0)) = false := by rw [n3]; rfl
    rw [this, if_neg (by simp), Int.add_zero]
    exact cn_congr _ _ (fun j j0 j1 => by
      show (!decide (r (140 + j) = 0)) = !decide (cmR r s cp gp bu (140 + j) = 0)
      rw [est j j0 (by omega)])
  · intro d d0 d1
    have := hH d d0 d1
    rw [ho (11 + d) (by omega), cmR_0, est _ this.1 this.2.1]
    exact ⟨this.1, by omega, this.2.2⟩
  · intro i i0 i1 i2
    rw [cmR_0] at i1
    by_cases e : i = r 0
    · rw [e, n3] at i2; omega
    · rw [est i i0 (by omega)] at i2
      rw [ho _ (by omega)]
      exact hC i i0 (by omega) i2
  · intro i i0 i1
    rw [cmR_0] at i1
    by_cases e : i = r 0
    · rw [e, n5]; exact hbu
    · rw [ho _ (by omega)]
      exact hB i i0 (by omega)
theorem room_run {r : Int → Int} (h : ¬ room r p = 0) : r (140 + p) = 0 := by
  unfold room at h
  split at h
  · next e => exact e
  · exact absurd rfl h
theorem oM_spawn (hi : MInv g) : PO g (fM_spawn g 624 p c gp b) := by
  rw [fM_spawn, vM_noProcess hi]
  have hM := hi.2.1.1.1
  have o1 := OK_th (t := 0) (OK_r hi)
  have h01 := o1.1.1.1
  have e625 : (th g 0) 625 = g 625 := th_n (by omega)
  have bad2 : ∀ u, PO g (jM_spawn_36 (th g 0) 624 p c gp b 624 u) ∨ u ≠ 1 := by
    intro u
    by_cases hu : u = 1
    · left
      subst hu
      simp only [jM_spawn_36, kd_c624, if_true, vM_fails (Or.inr rfl), bdN_s, f0, if_false]
      exact PO_i rfl (OK_th o1)
    · exact Or.inr hu
  have bad2 : PO g (jM_spawn_36 (th g 0) 624 p c gp b 624 1) := by
    rcases bad2 1 with h | h
    · exact h
    · exact absurd rfl h
  have bad3 : PO g (jM_spawn_70 (th g 0) 624 p c gp b 624 1) := by
    simp only [jM_spawn_70, kd_c624, if_true, vM_fails (Or.inr rfl), bdN_s, f0, if_false]
    exact PO_i rfl (OK_th o1)
  by_cases h : 0 ≤ p ∧ p < g 625 0
  · simp only [if_pos h, bdN_s, if_true, vM_isSmall, bdP_s, jM_spawn_31]
    by_cases h1 : 0 ≤ c ∧ c ≤ 9
    · by_cases h2 : 0 ≤ gp ∧ gp ≤ 9
      · by_cases h3 : 0 ≤ b ∧ b ≤ 9
        · simp only [if_pos h1, if_pos h2, if_pos h3, f0, if_false, jM_spawn_36, kd_c624, if_true, vM_fails (Or.inl rfl), bdN_s, jM_spawn_65]
          have hr := vM_roomOf (g := th g 0) (p := p) o1.1.1 o1.1.2.1.1 (by rw [e625]; exact h)
          rw [hr, bdP_s]
          by_cases h4 : room ((th g 0) 625) p = 0
          · rw [if_pos h4]; exact bad3
          · rw [if_neg h4]
            simp (disch := omega) only [h01, kd_625, sz_625, true_and, le_t, lt_t, and_true, ↓reduceIte]
            by_cases h5 : (th g 0) 625 0 = 40
            · rw [if_pos h5]; exact bad3
            · rw [if_neg h5]
              have hst := room_run h4
              obtain ⟨G, r1, r2, r3, r4, -⟩ := OK_rem o1
              have w := r2.1.2.1
              have hM1 := w.1.1
              have hM40 : G 625 0 < 40 := by rw [r3]; have := o1.1.2.1.1.1; omega
              simp only [jM_spawn_70, kd_c624, if_true, vM_fails (Or.inl rfl), bdN_s, r1]
              rw [vM_comes r2.1.1 ⟨by omega, hM40⟩, bdN_s]
              refine PO_i rfl (OK_sw r2 (WBF_cm w hM40 ?_ ?_ h1 h3))
              · rw [r3, e625]; exact h
              · rw [r3]; exact hst
        · simp only [if_pos h1, if_pos h2, if_neg h3, f0, if_false, if_true]; exact bad2
      · simp only [if_pos h1, if_neg h2, f0, if_false, if_true]; exact bad2
    · simp only [if_neg h1, if_true]; exact bad2
  · simp only [if_neg h, bdN_s]
    exact PO_1 (OK_th (OK_r hi))
theorem th0 : pU (th g t) 624 8 c = th g c := th_th
theorem vM_noProcess2 (hi : MInv g) : fM_noProcess (th g 0) 624 p = some (if 0 ≤ p ∧ p < g 625 0 then 0 else 1, if 0 ≤ p ∧ p < g 625 0 then th g 0 else th g 1) := by
  have h := vM_noProcess (g := th g 0) (p := p) (MInv_th hi)
  rw [th_n (show ¬ (625 : Int) = 624 by omega)] at h
  rw [h, show th (th g 0) 0 = th g 0 from th_th, show th (th g 0) 1 = th g 1 from th_th]
theorem oM_move (hi : MInv g) : PO g (fM_move g 624 p q) := by
  rw [fM_move, vM_noProcess hi]
  have hM := hi.2.1.1.1
  have o1 := OK_th (t := 0) (OK_r hi)
  have h01 := o1.1.1.1
  have e625 : (th g 0) 625 = g 625 := th_n (by omega)
  have bad : PO g (jM_move_84 (th g 0) 624 p q 624 1) := by
    simp only [jM_move_84, kd_c624, if_true, vM_fails (Or.inr rfl), bdN_s, f0, if_false]
    exact PO_i rfl (OK_th o1)
  by_cases h : 0 ≤ p ∧ p < g 625 0
  · simp only [if_pos h, bdN_s, if_true, vM_noProcess2 hi]
    by_cases hq : 0 ≤ q ∧ q < g 625 0
    · simp only [if_pos hq, bdN_s, if_true, jM_move_79]
      have hr := vM_runs (g := th g 0) (p := p) o1.1.1 (by omega)
      have hrq := vM_runs (g := th g 0) (p := q) o1.1.1 (by omega)
      have hov := vM_isOver (g := th g 0) (p := p) (x := q) o1.1.1 (o1.1.2.1.1.2.2.1 q hq.1 (by rw [e625]; exact hq.2))
      have hro := vM_roomOf (g := th g 0) (p := q) o1.1.1 o1.1.2.1.1 (by rw [e625]; exact hq)
      have hrf := vM_refuses (g := th g 0) (p := q) (a := (th g 0) 625 (180 + p)) o1.1.1 (by omega)
      by_cases h3 : p = 0
      · rw [if_pos h3]; exact bad
      · rw [if_neg h3, hr, bdP_s]
        by_cases h4 : (th g 0) 625 (140 + p) = 0
        · simp only [if_pos h4, f0, if_false, hrq, bdP_s]
          by_cases h5 : (th g 0) 625 (140 + q) = 0
          · simp only [if_pos h5, f0, if_false]
            by_cases h6 : p = q
            · rw [if_pos h6]; exact bad
            · rw [if_neg h6, hov, bdP_s]
              cases h7 : OV (up ((th g 0) 625)) p q with
              | true => simp only [if_true, f0, if_false]; exact bad
              | false =>
                simp only [Bool.false_eq_true, if_false, if_true, hro, bdP_s]
                by_cases h8 : room ((th g 0) 625) q = 0
                · rw [if_pos h8]; exact bad
                · rw [if_neg h8]
                  simp (disch := omega) only [h01, kd_625, sz_625, w32_r, true_and, le_t, lt_t, and_true, ↓reduceIte, hrf, bdP_s]
                  cases h9 : rfs ((th g 0) 625) q ((th g 0) 625 (180 + p)) with
                  | true => simp only [if_true, f0, if_false]; exact bad
                  | false =>
                    simp only [Bool.false_eq_true, if_false, if_true, jM_move_84, kd_c624, vM_fails (Or.inl rfl), bdN_s]
                    obtain ⟨G, r1, r2, r3, r4, -⟩ := OK_rem o1
                    have w := r2.1.2.1
                    have h04 := r2.1.1.1
                    rw [r1, bdN_s]
                    simp (disch := omega) only [h04, kd_625, sz_625, w32_r, true_and, le_t, lt_t, and_true, ↓reduceIte, ↓bnd_s, pU_625]
                    refine PO_i rfl (OK_sw r2 (WBF_sup w (c := p) (t := q) ?_ ?_ (fun z => h6 z.symm) ?_ ?_ u1_s (fun k k1 k2 k3 k4 => u1_n k4)))
                    · rw [r3, e625]; omega
                    · rw [r3, e625]; exact hq
                    · rw [r3]; exact h7
                    · rw [r3]; exact h5
          · simp only [if_neg h5, if_true]; exact bad
        · simp only [if_neg h4, if_true]; exact bad
    · simp only [if_neg hq, bdN_s]
      exact PO_1 (OK_th (OK_r hi))
  · simp only [if_neg h, bdN_s]
    exact PO_1 (OK_th (OK_r hi))
theorem oM_relieve (hi : MInv g) : PO g (fM_relieve g 624 p) := by
  rw [fM_relieve]
  rcases vM_notExiting (p := p) (c := 2) hi with ⟨-, e⟩ | ⟨-, -, e⟩ | ⟨h1, h2, e⟩
  · rw [e, bdN_s]; exact PO_1 (OK_th (OK_r hi))
  · rw [e, bdN_s]; exact PO_1 (OK_th (OK_r hi))
  · rw [e, bdN_s]
    refine PO_0 ?_
    obtain ⟨G, r1, r2, r3, r4, -⟩ := OK_rem (OK_th (t := 0) (OK_r hi))
    rw [th_n (by omega)] at r3
    rw [← r3] at h1
    have w := r2.1.2.1
    have h04 := r2.1.1.1
    have hM1 := w.1.1
    rw [r1, bdN_s]
    simp (disch := omega) only [h04, kd_625, sz_625, w32_r, true_and, le_t, lt_t, and_true, ↓reduceIte]
    have key : ∀ (m n : Nat) (k n0 : Int) (i : Int → Int), k.toNat = m → m < n → k < G 625 0 → WBF i → i 0 = G 625 0 → ∃ v i', lM_relieve_26 624 p n n0 k (sw G i) = some (v, sw G i') ∧ WBF i' := by
      intro m
      induction m with
      | zero =>
        intro n k n0 i hk hn hkM hw hi0
        obtain ⟨n, rfl⟩ : ∃ j, n = j + 1 := ⟨n - 1, by omega⟩
        refine ⟨n0, i, ?_, hw⟩
        show bM_relieve_26 624 p (lM_relieve_26 624 p n) n0 k (sw G i) = _
        rw [bM_relieve_26, if_neg (by omega)]
      | succ m ih =>
        intro n k n0 i hk hn hkM hw hi0
        obtain ⟨n, rfl⟩ : ∃ j, n = j + 1 := ⟨n - 1, by omega⟩
        have hic := vM_isChild (g := sw G i) (p := k) (a := p) (st := 0) (MS_sw r2.1.1) (by omega)
        have hch := vM_childrenOf (g := sw G i) (a := p) (st := 0) (MS_sw r2.1.1) (by rw [sw_s]; exact hw.1.1)
        rw [sw_s] at hic hch
        have hM2 := hw.1.1
        have e26 : lM_relieve_26 624 p (n + 1) n0 k (sw G i) = bM_relieve_26 624 p (lM_relieve_26 624 p n) n0 k (sw G i) := rfl
        rw [e26, bM_relieve_26, if_pos (by omega), hic, bdP_s, w32_r (show -2147483648 ≤ k + -1 ∧ k + -1 < 2147483648 by omega)]
        by_cases c1 : ic i k p 0 = true
        · by_cases c2 : i (100 + p) < kids i p 0
          · have hAD := (vM_adopterOf (g := sw G i) (o := k) (wo := p) (MS_sw r2.1.1) (by rw [sw_s]; exact hw.1) (by rw [sw_s]; omega) (by rw [sw_s]; omega)).1
            rw [sw_s, sw_n (show ¬ (630 : Int) = 625 by omega)] at hAD
            have had := vM_adopts (g := sw G i) (p := AD i (G 630) k p) (o := k) (MS_sw r2.1.1) (by omega)
            rw [sw_s, sw_sw] at had
            simp (disch := omega) only [c1, c2, hch, sw_n, sw_s, h04, kd_625, sz_625, w32_r (show -2147483648 ≤ 100 + p ∧ 100 + p < 2147483648 by omega), true_and, le_t, lt_t, and_true, ↓reduceIte, bdP_s, f0, hAD, had, bdN_s]
            exact ih n (k + -1) _ _ (by omega) (by omega) (by omega) (WBF_ad hw (by omega) r2.1.1 (by omega)) ((adR_n (by omega)).trans hi0)
          · simp (disch := omega) only [c1, c2, hch, sw_n, sw_s, h04, kd_625, sz_625, w32_r, true_and, le_t, lt_t, and_true, ↓reduceIte, bdP_s, f0]
            exact ih n (k + -1) _ _ (by omega) (by omega) (by omega) hw hi0
        · simp only [c1, Bool.false_eq_true, if_false, if_true]
          exact ih n (k + -1) _ _ (by omega) (by omega) (by omega) hw hi0
    obtain ⟨v, i', e1, e2⟩ := key (G 625 0 - 1).toNat fu (G 625 0 - 1) 0 (G 625) (by omega) (by have := fu_ge; omega) (by omega) w rfl
    rw [sw_id] at e1
    exact PO_i e1 (OK_sw r2 e2)
end MODEL14
