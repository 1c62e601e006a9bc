/-! ===== the reference's questions (own work) ===== -/
section MODEL18
variable {g G : gH} {p code t c a b k q gp d : Int}
theorem po_ite {c : Prop} [Decidable c] {A B : Option (Int × gH)} (h1 : c → PO g A) (h2 : ¬ c → PO g B) : PO g (if c then A else B) := by
  split
  · next h => exact h1 h
  · next h => exact h2 h
theorem po_t {c : Prop} [Decidable c] {A B : Option (Int × gH)} (h : c) (h1 : PO g A) : PO g (if c then A else B) := by
  rw [if_pos h]; exact h1
theorem o0 (hi : MInv g) : OKg g (th g 0) := OK_th (OK_r hi)
theorem oM_errorCode (hi : MInv g) : PO g (fM_errorCode g 624) := PO_i rfl (o0 hi)
theorem oM_errorOffset (hi : MInv g) : PO g (fM_errorOffset g 624) := PO_i rfl (o0 hi)
theorem oM_count (hi : MInv g) : PO g (fM_count g 624 a) := by
  have e : pU g 624 8 0 = th g 0 := rfl
  rw [fM_count, bnd_s, e, vM_inRange, bdP_s]
  have o1 := o0 hi
  have h01 := o1.1.1.1
  by_cases h : 0 ≤ a ∧ a ≤ 10
  · simp only [if_pos h, f0, if_false, jM_count_21, kd_c624, if_true, vM_fails (Or.inl rfl), bdN_s]
    have qs : ∀ x, ∃ v, fM_inState (th g 0) 624 x = some v := fun x => q_inState o1
    obtain ⟨vd, ed⟩ := q_dutiesOf o1 (p := 0)
    have ed : fM_dutiesOf (th g 0) 624 0 = some vd := ed
    obtain ⟨vb, eb⟩ : ∃ v, fJ_bitCount (th g 0) vd = some v := ⟨_, rfl⟩
    have hw : w32 (w32 (1 + a) - 4) = a - 3 := by rw [w32_r (x := 1 + a) (by omega), w32_r (by omega)]; omega
    rw [hw]
    obtain ⟨v1, e1⟩ := qs (w32 (a - 1))
    refine po_ite (fun _ => ?_) (fun c0 => po_ite (fun _ => ?_) (fun c1 => po_ite (fun _ => ?_) (fun c2 => po_ite (fun _ => ?_) (fun c3 => ?_))))
    · simp (disch := omega) only [h01, kd_625, sz_625, true_and, le_t, lt_t, and_true, ↓reduceIte]; exact PO_i rfl o1
    · rw [e1, bdP_s]; exact PO_i rfl o1
    · rw [e1, bdP_s]; exact PO_i rfl o1
    · rw [e1, bdP_s]; exact PO_i rfl o1
    · refine po_ite (fun _ => ?_) (fun c4 => po_ite (fun _ => ?_) (fun c5 => po_ite (fun _ => ?_) (fun c6 => po_ite (fun _ => ?_) (fun c7 => po_ite (fun _ => ?_) (fun c8 => po_ite (fun _ => PO_i rfl o1) (fun c9 => po_ite (fun _ => ?_) (fun c10 => absurd h (by omega))))))))
      · simp (disch := omega) only [h01, kd_625, sz_625, true_and, le_t, lt_t, and_true, ↓reduceIte]; exact PO_i rfl o1
      · simp (disch := omega) only [h01, kd_625, sz_625, true_and, le_t, lt_t, and_true, ↓reduceIte]; exact PO_i rfl o1
      · simp (disch := omega) only [h01, kd_625, sz_625, true_and, le_t, lt_t, and_true, ↓reduceIte]; exact PO_i rfl o1
      · simp (disch := omega) only [h01, kd_625, sz_625, true_and, le_t, lt_t, and_true, ↓reduceIte]; exact PO_i rfl o1
      · rw [ed, bdP_s, eb, bdP_s]; exact PO_i rfl o1
      · simp (disch := omega) only [h01, kd_625, sz_625, true_and, le_t, lt_t, and_true, ↓reduceIte]; exact PO_i rfl o1
  · simp only [if_neg h, if_true, jM_count_21, kd_c624, vM_fails (Or.inr rfl), bdN_s, f0, if_false]
    exact PO_i rfl (OK_th o1)
/-- one test ahead: is there such a process -/
theorem po_np {A : gH → Option (Int × gH)} {x : Int} (hi : MInv g) (h : (0 ≤ p ∧ p < g 625 0) → PO g (A (th g 0))) : PO g (bdN (fM_noProcess g 624 p) (fun y g3 => if y = 0 then A g3 else some (x, g3))) := by
  rw [vM_noProcess hi, bdN_s]
  by_cases hp : 0 ≤ p ∧ p < g 625 0
  · rw [if_pos hp, if_pos hp, if_pos rfl]; exact h hp
  · rw [if_neg hp, if_neg hp, if_neg f0]; exact PO_i rfl (OK_th (OK_r hi))
theorem po_np2 {A : gH → Option (Int × gH)} {x : Int} (hi : MInv g) (h : (0 ≤ p ∧ p < g 625 0) → PO g (A (th g 0))) : PO g (bdN (fM_noProcess (th g 0) 624 p) (fun y g3 => if y = 0 then A g3 else some (x, g3))) := by
  rw [vM_noProcess2 hi, bdN_s]
  by_cases hp : 0 ≤ p ∧ p < g 625 0
  · rw [if_pos hp, if_pos hp, if_pos rfl]; exact h hp
  · rw [if_neg hp, if_neg hp, if_neg f0]; exact PO_i rfl (OK_th (OK_r hi))
theorem po_ne {A : gH → Option (Int × gH)} {x : Int} (hi : MInv g) (h : (0 < p ∧ p < g 625 0) → g 625 (140 + p) = 0 → PO g (A (th g 0))) : PO g (bdN (fM_notExiting g 624 p c) (fun y g3 => if y = 0 then A g3 else some (x, g3))) := by
  rcases vM_notExiting (p := p) (c := c) hi with ⟨-, e⟩ | ⟨-, -, e⟩ | ⟨h1, h2, e⟩
  · rw [e, bdN_s]; exact PO_1 (OK_th (OK_r hi))
  · rw [e, bdN_s]; exact PO_1 (OK_th (OK_r hi))
  · rw [e, bdN_s]
    exact PO_0 (h h1 h2)
theorem po_nx {A : gH → Option (Int × gH)} {x : Int} (hi : MInv g) (h : (0 < p ∧ p < g 625 0) → (0 ≤ code ∧ code ≤ 255) → g 625 (140 + p) = 0 → PO g (A (th g 0))) : PO g (bdN (fM_noExit g 624 p code) (fun y g3 => if y = 0 then A g3 else some (x, g3))) := by
  rcases vM_noExit (p := p) (code := code) hi with ⟨-, e⟩ | ⟨-, -, e⟩ | ⟨-, -, -, e⟩ | ⟨h1, h2, h3, e⟩
  · rw [e, bdN_s]; exact PO_1 (OK_th (OK_r hi))
  · rw [e, bdN_s]; exact PO_1 (OK_th (OK_r hi))
  · rw [e, bdN_s]; exact PO_1 (OK_th (OK_r hi))
  · rw [e, bdN_s]
    exact PO_0 (h h1 h2 h3)
theorem th00 : th (th g 0) 0 = th g 0 := th_th
theorem po_nx2 {A : gH → Option (Int × gH)} {x : Int} (hi : MInv g) (h : (0 < p ∧ p < g 625 0) → (0 ≤ code ∧ code ≤ 255) → g 625 (140 + p) = 0 → PO g (A (th g 0))) : PO g (bdN (fM_noExit (th g 0) 624 p code) (fun y g3 => if y = 0 then A g3 else some (x, g3))) := by
  have o1 := o0 hi
  rcases vM_noExit (g := th g 0) (p := p) (code := code) o1.1 with ⟨-, e⟩ | ⟨-, -, e⟩ | ⟨-, -, -, e⟩ | ⟨h1, h2, h3, e⟩
  · rw [e, bdN_s]; exact PO_1 (OK_th o1)
  · rw [e, bdN_s]; exact PO_1 (OK_th o1)
  · rw [e, bdN_s]; exact PO_1 (OK_th o1)
  · rw [e, bdN_s, th00]
    rw [th_n (by omega)] at h1 h3
    exact PO_0 (h h1 h2 h3)
theorem vM_isGone (hs : MS G) (hp : 0 ≤ p ∧ p < 40) : fM_isGone G 624 p = some (if G 625 (140 + p) = 2 then 1 else 0) := by
  have h0 := hs.1
  simp (disch := omega) only [fM_isGone, h0, kd_625, sz_625, w32_r, true_and, le_t, lt_t, and_true, ↓reduceIte]
  split <;> rfl
theorem oM_process (hi : MInv g) : PO g (fM_process g 624 p a) := by
  refine po_np hi (fun hp => ?_)
  have o1 := o0 hi
  have h01 := o1.1.1.1
  have w := o1.1.2.1.1
  have hM := w.1
  have e625 : (th g 0) 625 = g 625 := th_n (by omega)
  have hp' : 0 ≤ p ∧ p < (th g 0) 625 0 := by rw [e625]; exact hp
  rw [vM_inRange, bdP_s]
  by_cases h : 0 ≤ a ∧ a ≤ 14
  · simp only [if_pos h, f0, if_false, jM_process_24, kd_c624, if_true, vM_fails (Or.inl rfl), bdN_s]
    have qr := vM_roomOf (g := th g 0) (p := p) o1.1.1 w hp'
    have qc := fun st => vM_childrenOf (g := th g 0) (a := p) (st := st) o1.1.1 hM
    obtain ⟨vd, ed⟩ := q_dutiesOf o1 (p := p)
    have ed : fM_dutiesOf (th g 0) 624 p = some vd := ed
    obtain ⟨vw, ew⟩ := q_willsOf o1 (p := p) hp'
    have ew : fM_willsOf (th g 0) 624 p = some vw := ew
    repeat' (first
      | exact PO_i rfl o1
      | (rw [qr, bdP_s]; exact PO_i rfl o1)
      | (rw [qc, bdP_s]; exact PO_i rfl o1)
      | (rw [ed, bdP_s]; exact PO_i rfl o1)
      | (rw [ew, bdP_s]; exact PO_i rfl o1)
      | refine po_t (by (simp (disch := omega) only [h01, kd_625, sz_625, w32_r, true_and, le_t, lt_t, and_true])) ?_
      | refine po_ite (fun _ => ?_) (fun _ => ?_))
    all_goals omega
  · simp only [if_neg h, if_true, jM_process_24, kd_c624, vM_fails (Or.inr rfl), bdN_s, f0, if_false]
    exact PO_i rfl (OK_th o1)
theorem oM_holder (hi : MInv g) : PO g (fM_holder g 624 a) := by
  have e : pU g 624 8 0 = th g 0 := rfl
  have o1 := o0 hi
  have h01 := o1.1.1.1
  rw [fM_holder, bnd_s, e]
  rcases vM_noDuty (g := th g 0) (a := a) (c := 1) with ⟨-, e1⟩ | ⟨h1, e1⟩
  · rw [e1, bdN_s]; exact PO_1 (OK_th o1)
  · rw [e1, bdN_s]
    refine PO_0 ?_
    simp (disch := omega) only [h01, kd_625, sz_625, w32_r, true_and, le_t, lt_t, and_true, ↓reduceIte]
    exact PO_i rfl o1
theorem oM_rule (hi : MInv g) : PO g (fM_rule g 624 a) := by
  have e : pU g 624 8 0 = th g 0 := rfl
  have o1 := o0 hi
  have h01 := o1.1.1.1
  have hR := o1.1.2.1.1.2.2.2.1
  rw [fM_rule, bnd_s, e]
  simp (disch := omega) only [h01, kd_625, sz_625, w32_r, true_and, le_t, lt_t, and_true, ↓reduceIte, vM_inRange, bdP_s]
  by_cases h : 0 ≤ a ∧ a ≤ (th g 0) 625 5 - 1
  · simp (disch := omega) only [if_pos h, f0, if_false, w32_r, le_t, lt_t, and_true, ↓reduceIte]
    exact PO_i rfl o1
  · simp only [if_neg h, if_true]
    exact PO_i rfl o1
theorem oM_depth (hi : MInv g) : PO g (fM_depth g 624 p) := by
  refine po_np hi (fun hp => ?_)
  have o1 := o0 hi
  have hM := hi.2.1.1.1
  have e625 : (th g 0) 625 = g 625 := th_n (by omega)
  rw [vM_isGone o1.1.1 (by omega), bdP_s]
  have hd := vM_deep (g := th g 0) (x := p) o1.1.1 (o1.1.2.1.1.2.2.1 p hp.1 (by rw [e625]; exact hp.2))
  by_cases h : (th g 0) 625 (140 + p) = 2
  · simp only [if_pos h, vM_fails (Or.inr rfl), bdN_s, f0, if_false]
    exact PO_i rfl (OK_th o1)
  · simp only [if_neg h, vM_fails (Or.inl rfl), bdN_s, if_true, hd, bdP_s]
    exact PO_i rfl o1
theorem oM_isAbove (hi : MInv g) : PO g (fM_isAbove g 624 p q) := by
  refine po_np hi (fun hp => po_np2 hi (fun hq => ?_))
  have o1 := o0 hi
  have hM := hi.2.1.1.1
  have e625 : (th g 0) 625 = g 625 := th_n (by omega)
  have hov := vM_isOver (g := th g 0) (p := p) (x := q) o1.1.1 (o1.1.2.1.1.2.2.1 q hq.1 (by rw [e625]; exact hq.2))
  simp only [vM_isGone o1.1.1 (show 0 ≤ p ∧ p < 40 by omega), vM_isGone o1.1.1 (show 0 ≤ q ∧ q < 40 by omega), bdP_s, hov]
  repeat' (first | exact PO_i rfl o1 | refine po_ite (fun _ => ?_) (fun _ => ?_))
/-- where two ways meet: one is found -/
theorem q_meets (h : OKg g G) (hp : 0 ≤ p ∧ p < G 625 0) (hq : 0 ≤ q ∧ q < G 625 0) (h0q : q ≠ 0 ∨ True) : ∃ v, fM_meets G 624 p q = some v ∧ 0 ≤ v ∧ v < G 625 0 := by
  have hs := h.1.1
  have h0 := hs.1
  have w := h.1.2.1.1
  have hM := w.1
  have hA := w.2.2.1
  have key : ∀ (m n : Nat) (i : Int), en (up (G 625)) m i = true → i < G 625 0 → m < n → ∃ v, lM_meets_2 G 624 q n i = some v ∧ 0 ≤ v ∧ v < G 625 0 := by
    intro m
    induction m with
    | zero =>
      intro n i hi hiM hn
      obtain ⟨n, rfl⟩ : ∃ k, n = k + 1 := ⟨n - 1, by omega⟩
      have hi : i = 0 := by simpa [en] using hi
      have step : lM_meets_2 G 624 q (n + 1) i = bM_meets_2 G 624 q (lM_meets_2 G 624 q n) i := rfl
      have hov := vM_isOver (g := G) (p := i) (x := q) hs (hA q hq.1 hq.2)
      rw [step, bM_meets_2, hov, bdP_s]
      by_cases e : i = q
      · rw [if_pos e]; exact ⟨i, rfl, by omega, by omega⟩
      · rw [if_neg e]
        have hroot : ∀ (m : Nat) (j : Int), en (up (G 625)) m j = true → j ≠ 0 → OV (up (G 625)) 0 j = true := by
          intro m
          induction m with
          | zero => intro j hj hj0; exact absurd (by simpa [en] using hj) hj0
          | succ m ih =>
            intro j hj hj0
            rw [OV_s (en_40 hj) hj0]
            by_cases e2 : up (G 625) j = 0
            · rw [if_pos e2]
            · rw [if_neg e2]
              rcases en_s.mp hj with e3 | ⟨-, -, e3⟩
              · exact absurd e3 hj0
              · exact ih _ e3 e2
        have : OV (up (G 625)) i q = true := by
          rw [hi]
          exact hroot 40 q (hA q hq.1 hq.2) (by omega)
        rw [this, if_pos rfl, if_neg f0]
        exact ⟨i, rfl, by omega, by omega⟩
    | succ m ih =>
      intro n i hi hiM hn
      obtain ⟨n, rfl⟩ : ∃ k, n = k + 1 := ⟨n - 1, by omega⟩
      have step : lM_meets_2 G 624 q (n + 1) i = bM_meets_2 G 624 q (lM_meets_2 G 624 q n) i := rfl
      have hov := vM_isOver (g := G) (p := i) (x := q) hs (hA q hq.1 hq.2)
      have hr := en_rg hi
      rw [step, bM_meets_2, hov, bdP_s]
      by_cases e : i = q
      · rw [if_pos e]; exact ⟨i, rfl, by omega, by omega⟩
      · rw [if_neg e]
        cases ho : OV (up (G 625)) i q with
        | true =>
          rw [if_pos rfl, if_neg f0]
          exact ⟨i, rfl, by omega, by omega⟩
        | false =>
          simp only [Bool.false_eq_true, if_false, if_true]
          by_cases hz : i = 0
          · subst hz
            exact ih (n + 1) 0 en_0 hiM (by omega) |> fun ⟨v, e1, e2⟩ => by
              have step2 : lM_meets_2 G 624 q (n + 1) 0 = bM_meets_2 G 624 q (lM_meets_2 G 624 q n) 0 := rfl
              rw [step2, bM_meets_2, hov, bdP_s, if_neg e, ho] at e1
              simp only [Bool.false_eq_true, if_false, if_true] at e1
              exact ⟨v, e1, e2⟩
          · have hcl := w.2.1 i (by omega) hiM
            simp (disch := omega) only [h0, kd_625, sz_625, w32_r, true_and, le_t, lt_t, and_true, ↓reduceIte]
            rcases en_s.mp hi with e3 | ⟨-, -, e3⟩
            · exact absurd e3 hz
            · exact ih n _ e3 hcl.2 (by omega)
  rw [fM_meets]
  exact key 40 fu p (hA p hp.1 hp.2) hp.2 (by have := fu_ge; omega)
theorem vM_anyGone (hi : MInv g) : (∃ t, fM_anyGone g 624 p q = some (1, th g t)) ∨ ((0 ≤ p ∧ p < g 625 0) ∧ (0 ≤ q ∧ q < g 625 0) ∧ fM_anyGone g 624 p q = some (0, th g 0)) := by
  have o1 := o0 hi
  have hM := hi.2.1.1.1
  rw [fM_anyGone, vM_noProcess hi, bdN_s]
  by_cases hp : 0 ≤ p ∧ p < g 625 0
  · simp only [if_pos hp, if_true, vM_noProcess2 hi, bdN_s]
    by_cases hq : 0 ≤ q ∧ q < g 625 0
    · simp only [if_pos hq, if_true, vM_isGone o1.1.1 (show 0 ≤ p ∧ p < 40 by omega), vM_isGone o1.1.1 (show 0 ≤ q ∧ q < 40 by omega), bdP_s, jM_anyGone_33, jM_anyGone_38, kd_c624, vM_fails (Or.inr rfl), vM_fails (Or.inl rfl), bdN_s, f0, if_false]
      by_cases c1 : (th g 0) 625 (140 + p) = 2
      · simp only [if_pos c1, f0, if_false]
        exact Or.inl ⟨2, by rw [show th (th g 0) 2 = th g 2 from th_th]⟩
      · simp only [if_neg c1, if_true]
        by_cases c2 : (th g 0) 625 (140 + q) = 2
        · simp only [if_pos c2, f0, if_false]
          exact Or.inl ⟨2, by rw [show th (th g 0) 2 = th g 2 from th_th]⟩
        · simp only [if_neg c2, if_true]
          exact Or.inr ⟨hp, hq, trivial⟩
    · left
      simp only [if_neg hq, f0, if_false]
      exact ⟨1, rfl⟩
  · left
    simp only [if_neg hp, f0, if_false]
    exact ⟨1, rfl⟩
theorem oM_meet (hi : MInv g) : PO g (fM_meet g 624 p q) := by
  have o1 := o0 hi
  have e625 : (th g 0) 625 = g 625 := th_n (by omega)
  rw [fM_meet]
  rcases vM_anyGone (p := p) (q := q) hi with ⟨t, e⟩ | ⟨hp, hq, e⟩
  · rw [e, bdN_s]; exact PO_1 (OK_th (OK_r hi))
  · obtain ⟨v, e1, -⟩ := q_meets o1 (p := p) (q := q) (by rw [e625]; exact hp) (by rw [e625]; exact hq) (Or.inr trivial)
    rw [e, bdN_s, e1, bdP_s]
    exact PO_0 (PO_i rfl o1)
theorem oM_apart (hi : MInv g) : PO g (fM_apart g 624 p q) := by
  have o1 := o0 hi
  have e625 : (th g 0) 625 = g 625 := th_n (by omega)
  rw [fM_apart]
  rcases vM_anyGone (p := p) (q := q) hi with ⟨t, e⟩ | ⟨hp, hq, e⟩
  · rw [e, bdN_s]; exact PO_1 (OK_th (OK_r hi))
  · obtain ⟨v, e1, e2, e3⟩ := q_meets o1 (p := p) (q := q) (by rw [e625]; exact hp) (by rw [e625]; exact hq) (Or.inr trivial)
    have hA := o1.1.2.1.1.2.2.1
    rw [e, bdN_s, vM_deep o1.1.1 (hA p hp.1 (by rw [e625]; exact hp.2)), bdP_s, vM_deep o1.1.1 (hA q hq.1 (by rw [e625]; exact hq.2)), bdP_s, e1, bdP_s, vM_deep o1.1.1 (hA v e2 e3), bdP_s]
    exact PO_0 (PO_i rfl o1)
end MODEL18
