/-! ===== the reference's questions (own work) ===== -/
section MODEL18
variable {g G : gH} {p code t c a b k q gp d : Int}
theorem po_ite {c : Prop} [Decidable c] {A B : Option (Int × gH)} (h1 : c → PO g A) (h2 : ¬ c → PO g B) : PO g (if c then A else B) := by
  split
  · next h => exact h1 h
  · next h => exact h2 h
theorem po_t {c : Prop} [Decidable c] {A B : Option (Int × gH)} (h : c) (h1 : PO g A) : PO g (if c then A else B) := by
  rw [if_pos h]; exact h1
theorem o0 (hi : MInv g) : OKg g (th g 0) := OK_th (OK_r hi)
theorem oM_errorCode (hi : MInv g) : PO g (fM_errorCode g 624) := PO_i rfl (o0 hi)
theorem oM_errorOffset (hi : MInv g) : PO g (fM_errorOffset g 624) := PO_i rfl (o0 hi)
theorem oM_count (hi : MInv g) : PO g (fM_count g 624 a) := by
  have e : pU g 624 8 0 = th g 0 := rfl
  rw [fM_count, bnd_s, e, vM_inRange, bdP_s]
  have o1 := o0 hi
  have h01 := o1.1.1.1
  by_cases h : 0 ≤ a ∧ a ≤ 10
  · simp only [if_pos h, f0, if_false, jM_count_21, kd_c624, if_true, vM_fails (Or.inl rfl), bdN_s]
    have qs : ∀ x, ∃ v, fM_inState (th g 0) 624 x = some v := fun x => q_inState o1
    obtain ⟨vd, ed⟩ := q_dutiesOf o1 (p := 0)
    have ed : fM_dutiesOf (th g 0) 624 0 = some vd := ed
    obtain ⟨vb, eb⟩ : ∃ v, fJ_bitCount (th g 0) vd = some v := ⟨_, rfl⟩
    have hw : w32 (w32 (1 + a) - 4) = a - 3 := by rw [w32_r (x := 1 + a) (by omega), w32_r (by omega)]; omega
    rw [hw]
    obtain ⟨v1, e1⟩ := qs (w32 (a - 1))
    refine po_ite (fun _ => ?_) (fun c0 => po_ite (fun _ => ?_) (fun c1 => po_ite (fun _ => ?_) (fun c2 => po_ite (fun _ => ?_) (fun c3 => ?_))))
    · simp (disch := omega) only [h01, kd_625, sz_625, true_and, le_t, lt_t, and_true, ↓reduceIte]; exact PO_i rfl o1
    · rw [e1, bdP_s]; exact PO_i rfl o1
    · rw [e1, bdP_s]; exact PO_i rfl o1
    · rw [e1, bdP_s]; exact PO_i rfl o1
    · refine po_ite (fun _ => ?_) (fun c4 => po_ite (fun _ => ?_) (fun c5 => po_ite (fun _ => ?_) (fun c6 => po_ite (fun _ => ?_) (fun c7 => po_ite (fun _ => ?_) (fun c8 => po_ite (fun _ => PO_i rfl o1) (fun c9 => po_ite (fun _ => ?_) (fun c10 => absurd h (by omega))))))))
      · simp (disch := omega) only [h01, kd_625, sz_625, true_and, le_t, lt_t, and_true, ↓reduceIte]; exact PO_i rfl o1
      · simp (disch := omega) only [h01, kd_625, sz_625, true_and, le_t, lt_t, and_true, ↓reduceIte]; exact PO_i rfl o1
      · simp (disch := omega) only [h01, kd_625, sz_625, true_and, le_t, lt_t, and_true, ↓reduceIte]; exact PO_i rfl o1
      · simp (disch := omega) only [h01, kd_625, sz_625, true_and, le_t, lt_t, and_true, ↓reduceIte]; exact PO_i rfl o1
      · rw [ed, bdP_s, eb, bdP_s]; exact PO_i rfl o1
      · simp (disch := omega) only [h01, kd_625, sz_625, true_and, le_t, lt_t, and_true, ↓reduceIte]; exact PO_i rfl o1
  · simp only [if_neg h, if_true, jM_count_21, kd_c624, vM_fails (Or.inr rfl), bdN_s, f0, if_false]
    exact PO_i rfl (OK_th o1)
/-- one test ahead: is there such a process -/
theorem po_np {A : gH → Option (Int × gH)} {x : Int} (hi : MInv g) (h : (0 ≤ p ∧ p < g 625 0) → PO g (A (th g 0))) : PO g (bdN (fM_noProcess g 624 p) (fun y g3 => if y = 0 then A g3 else some (x, g3))) := by
  rw [vM_noProcess hi, bdN_s]
  by_cases hp : 0 ≤ p ∧ p < g 625 0
  · rw [if_pos hp, if_pos hp, if_pos rfl]; exact h hp
  · rw [if_neg hp, if_neg hp, if_neg f0]; exact PO_i rfl (OK_th (OK_r hi))
theorem po_np2 {A : gH → Option (Int × gH)} {x : Int} (hi : MInv g) (h : (0 ≤ p ∧ p < g 625 0) → PO g (A (th g 0))) : PO g (bdN (fM_noProcess (th g 0) 624 p) (fun y g3 => if y = 0 then A g3 else some (x, g3))) := by
  rw [vM_noProcess2 hi, bdN_s]
  by_cases hp : 0 ≤ p ∧ p < g 625 0
  · rw [if_pos hp, if_pos hp, if_pos rfl]; exact h hp
  · rw [if_neg hp, if_neg hp, if_neg f0]; exact PO_i rfl (OK_th (OK_r hi))
theorem po_ne {A : gH → Option (Int × gH)} {x : Int} (hi : MInv g) (h : (0 < p ∧ p < g 625 0) → g 625 (140 + p) = 0 → PO g (A (th g 0))) : PO g (bdN (fM_notExiting g 624 p c) (fun y g3 => if y = 0 then A g3 else some (x, g3))) := by
  rcases vM_notExiting (p := p) (c := c) hi with ⟨-, e⟩ | ⟨-, -, e⟩ | ⟨h1, h2, e⟩
  · rw [e, bdN_s]; exact PO_1 (OK_th (OK_r hi))
  · rw [e, bdN_s]; exact PO_1 (OK_th (OK_r hi))
  · rw [e, bdN_s]
    exact PO_0 (h h1 h2)
theorem po_nx {A : gH → Option (Int × gH)} {x : Int} (hi : MInv g) (h : (0 < p ∧ p < g 625 0) → (0 ≤ code ∧ code ≤ 255) → g 625 (140 + p) = 0 → PO g (A (th g 0))) : PO g (bdN (fM_noExit g 624 p code) (fun y g3 => if y = 0 then A g3 else some (x, g3))) := by
  rcases vM_noExit (p := p) (code := code) hi with ⟨-, e⟩ | ⟨-, -, e⟩ | ⟨-, -, -, e⟩ | ⟨h1, h2, h3, e⟩
  · rw [e, bdN_s]; exact PO_1 (OK_th (OK_r hi))
  · rw [e, bdN_s]; exact PO_1 (OK_th (OK_r hi))
  · rw [e, bdN_s]; exact PO_1 (OK_th (OK_r hi))
  · rw [e, bdN_s]
    exact PO_0 (h h1 h2 h3)
theorem th00 : th (th g 0) 0 = th g 0 := th_th
theorem po_nx2 {A : gH → Option (Int × gH)} {x : Int} (hi : MInv g) (h : (0 < p ∧ p < g 625 0) → (0 ≤ code ∧ code ≤ 255) → g 625 (140 + p) = 0 → PO g (A (th g 0))) : PO g (bdN (fM_noExit (th g 0) 624 p code) (fun y g3 => if y = 0 then A g3 else some (x, g3))) := by
  have o1 := o0 hi
  rcases vM_noExit (g := th g 0) (p := p) (code := code) o1.1 with ⟨-, e⟩ | ⟨-, -, e⟩ | ⟨-, -, -, e⟩ | ⟨h1, h2, h3, e⟩
  · rw [e, bdN_s]; exact PO_1 (OK_th o1)
  · rw [e, bdN_s]; exact PO_1 (OK_th o1)
  · rw [e, bdN_s]; exact PO_1 (OK_th o1)
  · rw [e, bdN_s, th00]
    rw [th_n (by omega)] at h1 h3
    exact PO_0 (h h1 h2 h3)
theorem vM_isGone (hs : MS G) (hp : 0 ≤ p ∧ p < 40) : fM_isGone G 624 p = some (if G 625 (140 + p) = 2 then 1 else 0) := by
  have h0 := hs.1
  simp (disch := omega) only [fM_isGone, h0, kd_625, sz_625, w32_r, true_and, le_t, lt_t, and_true, ↓reduceIte]
  split <;> rfl
theorem oM_process (hi : MInv g) : PO g (fM_process g 624 p a) := by
  refine po_np hi (fun hp => ?_)
  have o1 := o0 hi
  have h01 := o1.1.1.1
  have w := o1.1.2.1.1
  have hM := w.1
  have e625 : (th g 0) 625 = g 625 := th_n (by omega)
  have hp' : 0 ≤ p ∧ p < (th g 0) 625 0 := by rw [e625]; exact hp
  rw [vM_inRange, bdP_s]
  by_cases h : 0 ≤ a ∧ a ≤ 14
  · simp only [if_pos h, f0, if_false, jM_process_24, kd_c624, if_true, vM_fails (Or.inl rfl), bdN_s]
    have qr := vM_roomOf (g := th g 0) (p := p) o1.1.1 w hp'
    have qc := fun st => vM_childrenOf (g := th g 0) (a := p) (st := st) o1.1.1 hM
    obtain ⟨vd, ed⟩ := q_dutiesOf o1 (p := p)
    have ed : fM_dutiesOf (th g 0) 624 p = some vd := ed
    obtain ⟨vw, ew⟩ := q_willsOf o1 (p := p) hp'
    have ew : fM_willsOf (th g 0) 624 p = some vw := ew
    repeat' (first
      | exact PO_i rfl o1
      | (rw [qr, bdP_s]; exact PO_i rfl o1)
      | (rw [qc, bdP_s]; exact PO_i rfl o1)
      | (rw [ed, bdP_s]; exact PO_i rfl o1)
      | (rw [ew, bdP_s]; exact PO_i rfl o1)
      | refine po_t (by (simp (disch := omega) only [h01, kd_625, sz_625, w32_r, true_and, le_t, lt_t, and_true])) ?_
      | refine po_ite (fun _ => ?_) (fun _ => ?_))
    all_goals omega
  · simp only [if_neg h, if_true, jM_process_24, kd_c624, vM_fails (Or.inr rfl), bdN_s, f0, if_false]
    exact PO_i rfl (OK_th o1)
theorem oM_holder (hi : MInv g) : PO g (fM_holder g 624 a) := by
  have e : pU g 624 8 0 = th g 0 := rfl
  have o1 := o0 hi
  have h01 := o1.1.1.1
  rw [fM_holder, bnd_s, e]
  rcases vM_noDuty (g := th g 0) (a := a) (c := 1) with ⟨-, e1⟩ | ⟨h1, e1⟩
  · rw [e1, bdN_s]; exact PO_1 (OK_th o1)
  · rw [e1, bdN_s]
    refine PO_0 ?_
    simp (disch := omega) only [h01, kd_625, sz_625, w32_r, true_and, le_t, lt_t, and_true, ↓reduceIte]
    exact PO_i rfl o1
theorem oM_rule (hi : MInv g) : PO g (fM_rule g 624 a) := by
  have e : pU g 624 8 0 = th g 0 := rfl
  have o1 := o0 hi
  have h01 := o1.1.1.1
  have hR := o1.1.2.1.1.2.2.2.1
  rw [fM_rule, bnd_s, e]
  simp (disch := omega) only [h01, kd_625, sz_625, w32_r, true_and, le_t, lt_t, and_true, ↓reduceIte, vM_inRange, bdP_s]
  by_cases h : 0 ≤ a ∧ a ≤ (th g 0) 625 5 - 1
  · simp (disch := omega) only [if_pos h, f0, if_false, w32_r, le_t, lt_t, and_true, ↓reduceIte]
    exact PO_i rfl o1
  · simp only [if_neg h, if_true]
    exact PO_i rfl o1
theorem oM_depth (hi : MInv g) : PO g (fM_depth g 624 p) := by
  refine po_np hi (fun hp => ?_)
  have o1 := o0 hi
  have hM := hi.2.1.1.1
  have e625 : (th g 0) 625 = g 625 := th_n (by omega)
  rw [vM_isGone o1.1.1 (by omega), bdP_s]
  have hd := vM_deep (g := th g 0) (x := p) o1.1.1 (o1.1.2.1.1.2.2.1 p hp.1 (by rw [e625]; exact hp.2))
  by_cases h : (th g 0) 625 (140 + p) = 2
  · simp only [if_pos h, vM_fails (Or.inr rfl), bdN_s, f0, if_false]
    exact PO_i rfl (OK_th o1)
  · simp only [if_neg h, vM_fails (Or.inl rfl), bdN_s, if_true, hd, bdP_s]
    exact PO_i rfl o1
theorem oM_isAbove (hi : MInv g) : PO g (fM_isAbove g 624 p q) := by
  refine po_np hi (fun hp => po_np2 hi (fun hq => ?_))
  have o1 := o0 hi
  have hM := hi.2.1.1.1
  have e625 : (th g 0) 625 = g 625 := th_n (by omega)
  have hov := vM_isOver (g := th g 0) (p := p) (x := q) o1.1.1 (o1.1.2.1.1.2.2.1 q hq.1 (by rw [e625]; exact hq.2))
  simp only [vM_isGone o1.1.1 (show 0 ≤ p ∧ p < 40 by omega), vM_isGone o1.1.1 (show 0 ≤ q ∧ q < 40 by omega), bdP_s, hov]
  repeat' (first | exact PO_i rfl o1 | refine po_ite (fun _ => ?_) (fun _ => ?_))
/-- where two ways meet: one is found -/
theorem q_meets (h : OKg g G) (hp : 0 ≤ p ∧ p < G 625 0) (hq : 0 ≤ q ∧ q < G 625 0) (h0q : q ≠ 0 ∨ True) : ∃ v, fM_meets G 624 p q = some v ∧ 0 ≤ v ∧ v < G 625 0 := by
  have hs := h.1.1
  have h0 := hs.1
  have w := h.1.2.1.1
  have hM := w.1
  have hA := w.2.2.1
  have key : ∀ (m n : Nat) (i : Int), en (up (G 625)) m i = true → i < G 625 0 → m < n → ∃ v, lM_meets_2 G 624 q n i = some v ∧ 0 ≤ v ∧ v < G 625 0 := by
    intro m
    induction m with
    | zero =>
      intro n i hi hiM hn
      obtain ⟨n, rfl⟩ : ∃ k, n = k + 1 := ⟨n - 1, by omega⟩
      have hi : i = 0 := by simpa [en] using hi
      have step : lM_meets_2 G 624 q (n + 1) i = bM_meets_2 G 624 q (lM_meets_2 G 624 q n) i := rfl
      have hov := vM_isOver (g := G) (p := i) (x := q) hs (hA q hq.1 hq.2)
      rw [step, bM_meets_2, hov, bdP_s]
      by_cases e : i = q
      · rw [if_pos e]; exact ⟨i, rfl, by omega, by omega⟩
      · rw [if_neg e]
        have hroot : ∀ (m : Nat) (j : Int), en (up (G 625)) m j = true → j ≠ 0 → OV (up (G 625)) 0 j = true := by
          intro m
          induction m with
          | zero => intro j hj hj0; exact absurd (by simpa [en] using hj) hj0
          | succ m ih =>
            intro j hj hj0
            rw [OV_s (en_40 hj) hj0]
            by_cases e2 : up (G 625) j = 0
            · rw [if_pos e2]
            · rw [if_neg e2]
              rcases en_s.mp hj with e3 | ⟨-, -, e3⟩
              · exact absurd e3 hj0
              · exact ih _ e3 e2
        have : OV (up (G 625)) i q = true := by
          rw [hi]
          exact hroot 40 q (hA q hq.1 hq.2) (by omega)
        rw [this, if_pos rfl, if_neg f0]
        exact ⟨i, rfl, by omega, by omega⟩
    | succ m ih =>
      intro n i hi hiM hn
      obtain ⟨n, rfl⟩ : ∃ k, n = k + 1 := ⟨n - 1, by omega⟩
      have step : lM_meets_2 G 624 q (n + 1) i = bM_meets_2 G 624 q (lM_meets_2 G 624 q n) i := rfl
      have hov := vM_isOver (g := G) (p := i) (x := q) hs (hA q hq.1 hq.2)
      have hr := en_rg hi
      rw [step, bM_meets_2, hov, bdP_s]
      by_cases e : i = q
      · rw [if_pos e]; exact ⟨i, rfl, by omega, by omega⟩
      · rw [if_neg e]
        cases ho : OV (up (G 625)) i q with
        | true =>
          rw [if_pos rfl, if_neg f0]
          exact ⟨i, rfl, by omega, by omega⟩
        | false =>
          simp only [Bool.false_eq_true, if_false, if_true]
          by_cases hz : i = 0
          · subst hz
            exact ih (n + 1) 0 en_0 hiM (by omega) |> fun ⟨v, e1, e2⟩ => by
              have step2 : lM_meets_2 G 624 q (n + 1) 0 = bM_meets_2 G 624 q (lM_meets_2 G 624 q n) 0 := rfl
              rw [step2, bM_meets_2, hov, bdP_s, if_neg e, ho] at e1
              simp only [Bool.false_eq_true, if_false, if_true] at e1
              exact ⟨v, e1, e2⟩
          · have hcl := w.2.1 i (by omega) hiM
            simp (disch := omega) only [h0, kd_625, sz_625, w32_r, true_and, le_t, lt_t, and_true, ↓reduceIte]
            rcases en_s.mp hi with e3 | ⟨-, -, e3⟩
            · exact absurd e3 hz
            · exact ih n _ e3 hcl.2 (by omega)
  rw [fM_meets]
  exact key 40 fu p (hA p hp.1 hp.2) hp.2 (by have := fu_ge; omega)
theorem vM_anyGone (hi : MInv g) : (∃ t, fM_anyGone g 624 p q = some (1, th g t)) ∨ ((0 ≤ p ∧ p < g 625 0) ∧ (0 ≤ q ∧ q < g 625 0) ∧ fM_anyGone g 624 p q = some (0, th g 0)) := by
  have o1 := o0 hi
  have hM := hi.2.1.1.1
  rw [fM_anyGone, vM_noProcess hi, bdN_s]
  by_cases hp : 0 ≤ p ∧ p < g 625 0
  · simp only [if_pos hp, if_true, vM_noProcess2 hi, bdN_s]
    by_cases hq : 0 ≤ q ∧ q < g 625 0
    · simp only [if_pos hq, if_true, vM_isGone o1.1.1 (show 0 ≤ p ∧ p < 40 by omega), vM_isGone o1.1.1 (show 0 ≤ q ∧ q < 40 by omega), bdP_s, jM_anyGone_33, jM_anyGone_38, kd_c624, vM_fails (Or.inr rfl), vM_fails (Or.inl rfl), bdN_s, f0, if_false]
      by_cases c1 : (th g 0) 625 (140 + p) = 2
      · simp only [if_pos c1, f0, if_false]
        exact Or.inl ⟨2, by rw [show th (th g 0) 2 = th g 2 from th_th]⟩
      · simp only [if_neg c1, if_true]
        by_cases c2 : (th g 0) 625 (140 + q) = 2
        · simp only [if_pos c2, f0, if_false]
          exact Or.inl ⟨2, by rw [show th (th g 0) 2 = th g 2 from th_th]⟩
        · simp only [if_neg c2, if_true]
          exact Or.inr ⟨hp, hq, trivial⟩
    · left
      simp only [if_neg hq, f0, if_false]
      exact ⟨1, rfl⟩
  · left
    simp only [if_neg hp, f0, if_false]
    exact ⟨1, rfl⟩
theorem oM_meet (hi : MInv g) : PO g (fM_meet g 624 p q) := by
  have o1 := o0 hi
  have e625 : (th g 0) 625 = g 625 := th_n (by omega)
  rw [fM_meet]
  rcases vM_anyGone (p := p) (q := q) hi with ⟨t, e⟩ | ⟨hp, hq, e⟩
  · rw [e, bdN_s]; exact PO_1 (OK_th (OK_r hi))
  · obtain ⟨v, e1, -⟩ := q_meets o1 (p := p) (q := q) (by rw [e625]; exact hp) (by rw [e625]; exact hq) (Or.inr trivial)
    rw [e, bdN_s, e1, bdP_s]
    exact PO_0 (PO_i rfl o1)
theorem oM_apart (hi : MInv g) : PO g (fM_apart g 624 p q) := by
  have o1 := o0 hi
  have e625 : (th g 0) 625 = g 625 := th_n (by omega)
  rw [fM_apart]
  rcases vM_anyGone (p := p) (q := q) hi with ⟨t, e⟩ | ⟨hp, hq, e⟩
  · rw [e, bdN_s]; exact PO_1 (OK_th (OK_r hi))
  · obtain ⟨v, e1, e2, e3⟩ := q_meets o1 (p := p) (q := q) (by rw [e625]; exact hp) (by rw [e625]; exact hq) (Or.inr trivial)
    have hA := o1.1.2.1.1.2.2.1
    rw [e, bdN_s, vM_deep o1.1.1 (hA p hp.1 (by rw [e625]; exact hp.2)), bdP_s, vM_deep o1.1.1 (hA q hq.1 (by rw [e625]; exact hq.2)), bdP_s, e1, bdP_s, vM_deep o1.1.1 (hA v e2 e3), bdP_s]
    exact PO_0 (PO_i rfl o1)
end MODEL18
/-! ===== the reference's questions, more (own work) ===== -/
section MODEL19
variable {g G : gH} {p code t c a b k q gp d : Int}
theorem o8 (hi : MInv g) : pU g 624 8 0 = th g 0 := rfl
theorem ok_p (h : 0 ≤ p ∧ p < g 625 0) : 0 ≤ p ∧ p < (th g 0) 625 0 := by rw [th_n (by omega)]; exact h
theorem oM_adopter (hi : MInv g) : PO g (fM_adopter g 624 p) := by
  refine po_ne hi (fun hp _ => ?_)
  have o1 := o0 hi
  have w := o1.1.2.1.1
  have hM := hi.2.1.1.1
  have h0 := o1.1.1.1
  have hp' := ok_p (g := g) (p := p) ⟨by omega, hp.2⟩
  have hc := w.2.1 p hp.1 hp'.2
  simp (disch := omega) only [h0, kd_625, sz_625, w32_r, true_and, le_t, lt_t, and_true, ↓reduceIte]
  rw [(vM_adopterOf o1.1.1 w hp' hc).1, bdP_s]
  exact PO_i rfl o1
theorem oM_adopters (hi : MInv g) : PO g (fM_adopters g 624 p) := by
  refine po_ne hi (fun hp _ => ?_)
  obtain ⟨v, e⟩ := q_adopters (o0 hi) (ok_p (g := g) (p := p) ⟨by omega, hp.2⟩)
  exact PO_i e (o0 hi)
theorem oM_heirNow (hi : MInv g) : PO g (fM_heirNow g 624 p) := by
  refine po_ne hi (fun hp _ => ?_)
  have o1 := o0 hi
  rw [vM_inheritor o1.1.1 o1.1.2.1.1 (ok_p (g := g) (p := p) ⟨by omega, hp.2⟩), bdP_s]
  exact PO_i rfl o1
theorem oM_below (hi : MInv g) : PO g (fM_below g 624 p) := by
  refine po_np hi (fun hp => ?_)
  have hM := hi.2.1.1.1
  have o1 := o0 hi
  rw [vM_runs o1.1.1 (by omega), bdP_s]
  obtain ⟨v, e⟩ := q_belowOf o1 (p := p)
  have e : fM_belowOf (th g 0) 624 p = some v := e
  refine po_ite (fun _ => PO_i rfl o1) (fun _ => ?_)
  rw [e, bdP_s]; exact PO_i rfl o1
theorem oM_atDepth (hi : MInv g) : PO g (fM_atDepth g 624 d) := by
  obtain ⟨v, e⟩ := q_atDepth (o0 hi) (d := d)
  rw [fM_atDepth, bnd_s, o8 hi]; exact PO_i e (o0 hi)
theorem oM_height (hi : MInv g) : PO g (fM_height g 624) := by
  obtain ⟨v, e⟩ := q_highest (o0 hi)
  have e : fM_highest (th g 0) 624 = some v := e
  rw [fM_height, bnd_s, o8 hi, e, bdP_s]; exact PO_i rfl (o0 hi)
theorem oM_allRoom (hi : MInv g) : PO g (fM_allRoom g 624) := by
  obtain ⟨v, e⟩ := q_allRoom (o0 hi)
  rw [fM_allRoom, bnd_s, o8 hi]; exact PO_i e (o0 hi)
theorem oM_overfull (hi : MInv g) : PO g (fM_overfull g 624) := by
  obtain ⟨v, e⟩ := q_overfull (o0 hi)
  rw [fM_overfull, bnd_s, o8 hi]; exact PO_i e (o0 hi)
theorem oM_ofGroup (hi : MInv g) : PO g (fM_ofGroup g 624 gp) := by
  obtain ⟨v, e⟩ := q_ofGroup (o0 hi) (gp := gp)
  rw [fM_ofGroup, bnd_s, o8 hi, vM_isSmall, bdP_s]
  by_cases h : 0 ≤ gp ∧ gp ≤ 9
  · simp only [if_pos h, f0, if_false, jM_ofGroup_18, kd_c624, if_true, vM_fails (Or.inl rfl), bdN_s]
    exact PO_i e (o0 hi)
  · simp only [if_neg h, if_true, jM_ofGroup_18, kd_c624, vM_fails (Or.inr rfl), bdN_s, f0, if_false]
    exact PO_i rfl (OK_th (o0 hi))
theorem oM_nextTestament (hi : MInv g) : PO g (fM_nextTestament g 624 p) := by
  refine po_np hi (fun hp => ?_)
  have o1 := o0 hi
  rw [vM_firstZombie o1.1.1 o1.1.2.1.1.1.2 o1.1.2.1.2.2.2.1, bdP_s]
  exact PO_i rfl o1
theorem oM_testamentsBelow (hi : MInv g) : PO g (fM_testamentsBelow g 624 p) := by
  refine po_np hi (fun hp => ?_)
  have hM := hi.2.1.1.1
  have o1 := o0 hi
  rw [vM_runs o1.1.1 (by omega), bdP_s]
  obtain ⟨v, e⟩ := q_testBelow o1 (p := p)
  exact po_ite (fun _ => PO_i rfl o1) (fun _ => PO_i e o1)
theorem oM_roomBelow (hi : MInv g) : PO g (fM_roomBelow g 624 p) := by
  refine po_np hi (fun hp => ?_)
  have hM := hi.2.1.1.1
  have o1 := o0 hi
  rw [vM_runs o1.1.1 (by omega), bdP_s]
  obtain ⟨v, e⟩ := q_roomBelow o1 (p := p)
  exact po_ite (fun _ => PO_i rfl o1) (fun _ => PO_i e o1)
theorem oM_groupsBelow (hi : MInv g) : PO g (fM_groupsBelow g 624 p) := by
  refine po_np hi (fun hp => ?_)
  have hM := hi.2.1.1.1
  have o1 := o0 hi
  rw [vM_runs o1.1.1 (by omega), bdP_s]
  obtain ⟨v, e⟩ := q_groupsBelow o1 (p := p)
  exact po_ite (fun _ => PO_i rfl o1) (fun _ => PO_i e o1)
theorem oM_strangers (hi : MInv g) : PO g (fM_strangers g 624 p) := by
  refine po_np hi (fun hp => ?_)
  obtain ⟨v, e⟩ := q_strangers (o0 hi) (ok_p (g := g) (p := p) hp)
  exact PO_i e (o0 hi)
theorem oM_outputByte (hi : MInv g) : PO g (fM_outputByte g 624 a) := by
  have o1 := o0 hi
  have h0 : (th g 0) 624 22 = 634 := o1.1.1.2.2.2.2.2.2.2.2.1
  have hm := o1.1.2.2.2.2.2.2
  rw [fM_outputByte, bnd_s, o8 hi, vM_inRange, bdP_s]
  by_cases h : 0 ≤ a ∧ a ≤ w32 ((th g 0) 624 23 - 1)
  · have h' := h.2
    rw [w32_r (by omega)] at h'
    rw [if_pos h, if_neg f0]
    simp (disch := omega) only [h0, kd_634, sz_634, true_and, le_t, lt_t, and_true, ↓reduceIte]
    exact PO_i rfl o1
  · rw [if_neg h, if_pos rfl]; exact PO_i rfl o1
/-- loops whose sum is a process or −1 -/
theorem for_pr {L : Nat → Int → Int → Option (Int × gH)} (M : Int) (hM : 1 ≤ M ∧ M ≤ 40) (hstep : ∀ n k v, 1 ≤ k → k < M → (v = -1 ∨ (0 ≤ v ∧ v < M)) → L (n + 1) k v = L n (k + 1) v ∨ L (n + 1) k v = L n (k + 1) k) (hend : ∀ n k v, ¬ k < M → L (n + 1) k v = some (v, G)) : ∃ v, L fu 1 (-1) = some (v, G) := by
  have hf := fu_ge
  obtain ⟨v, e, -⟩ := for_some (L := L) (E := fun v => some (v, G)) M (fun k v => 1 ≤ k ∧ (v = -1 ∨ (0 ≤ v ∧ v < M))) (fun n k v hk hI => by
    rcases hstep n k v hI.1 hk hI.2 with e | e
    · exact ⟨v, e, by omega, hI.2⟩
    · exact ⟨k, e, by omega, Or.inr ⟨by omega, hk⟩⟩) (fun n k v hk _ => hend n k v hk) (M - 1).toNat 1 (-1) fu rfl (by omega) ⟨by omega, Or.inl rfl⟩
  exact ⟨v, e⟩
theorem or_ite {R : Type} {c : Prop} [Decidable c] {A B X Y : R} (h1 : c → A = X ∨ A = Y) (h2 : ¬ c → B = X ∨ B = Y) : (if c then A else B) = X ∨ (if c then A else B) = Y := by
  split
  · next h => exact h1 h
  · next h => exact h2 h
theorem q_roomiest (h : OKg g G) : ∃ v, lM_roomiest_31 G 624 gp fu (-1) 1 = some (v, G) := by
  have hs := h.1.1
  have h0 := hs.1
  have w := h.1.2.1.1
  have hM := w.1
  refine for_pr (L := fun n k v => lM_roomiest_31 G 624 gp n v k) (G 625 0) hM (fun n k v hl hk hv => ?_) (fun n k v hk => ?_)
  · have f1 := vM_roomOf (g := G) (p := k) hs w (by omega)
    have f2 := vM_refuses (g := G) (p := k) (a := gp) hs (by omega)
    show bM_roomiest_31 G 624 gp (lM_roomiest_31 G 624 gp n) v k = _ ∨ bM_roomiest_31 G 624 gp (lM_roomiest_31 G 624 gp n) v k = _
    rw [bM_roomiest_31]
    rcases hv with hv | hv
    · subst hv
      simp (disch := omega) only [f1, f2, bdP_s, h0, kd_625, sz_625, w32_r, true_and, le_t, lt_t, and_true, ↓reduceIte]
      repeat' (first | exact Or.inl rfl | exact Or.inr rfl | refine or_ite (fun _ => ?_) (fun _ => ?_))
    · have f3 := vM_roomOf (g := G) (p := v) hs w (by omega)
      simp (disch := omega) only [f1, f2, f3, bdP_s, h0, kd_625, sz_625, w32_r, true_and, le_t, lt_t, and_true, ↓reduceIte]
      rw [if_neg (by omega : ¬ v = -1)]
      repeat' (first | exact Or.inl rfl | exact Or.inr rfl | refine or_ite (fun _ => ?_) (fun _ => ?_))
  · show bM_roomiest_31 G 624 gp (lM_roomiest_31 G 624 gp n) v k = _
    rw [bM_roomiest_31]
    simp (disch := omega) only [h0, kd_625, sz_625, true_and, le_t, lt_t, and_true, ↓reduceIte, if_neg hk]
theorem oM_roomiest (hi : MInv g) : PO g (fM_roomiest g 624 gp) := by
  obtain ⟨v, e⟩ := q_roomiest (o0 hi) (gp := gp)
  rw [fM_roomiest, bnd_s, o8 hi, vM_isSmall, bdP_s]
  by_cases h : 0 ≤ gp ∧ gp ≤ 9
  · simp only [if_pos h, f0, if_false, jM_roomiest_18, kd_c624, if_true, vM_fails (Or.inl rfl), bdN_s]
    exact PO_i e (o0 hi)
  · simp only [if_neg h, if_true, jM_roomiest_18, kd_c624, vM_fails (Or.inr rfl), bdN_s, f0, if_false]
    exact PO_i rfl (OK_th (o0 hi))
theorem q_mostAdopted (h : OKg g G) : ∃ v, lM_mostAdopted_9 G 624 fu (-1) 1 = some (v, G) := by
  have hs := h.1.1
  have h0 := hs.1
  have w := h.1.2.1.1
  have hM := w.1
  refine for_pr (L := fun n k v => lM_mostAdopted_9 G 624 n v k) (G 625 0) hM (fun n k v hl hk hv => ?_) (fun n k v hk => ?_)
  · have f1 := vM_runs (g := G) (p := k) hs (by omega)
    show bM_mostAdopted_9 G 624 (lM_mostAdopted_9 G 624 n) v k = _ ∨ bM_mostAdopted_9 G 624 (lM_mostAdopted_9 G 624 n) v k = _
    rw [bM_mostAdopted_9]
    rcases hv with hv | hv
    · subst hv
      simp (disch := omega) only [f1, bdP_s, h0, kd_625, sz_625, w32_r, true_and, le_t, lt_t, and_true, ↓reduceIte, jM_mostAdopted_56]
      repeat' (first | exact Or.inl rfl | exact Or.inr rfl | refine or_ite (fun _ => ?_) (fun _ => ?_))
    · have hv1 : ¬ v = -1 := by omega
      simp (disch := omega) only [f1, bdP_s, h0, kd_625, sz_625, w32_r, true_and, le_t, lt_t, and_true, ↓reduceIte, jM_mostAdopted_56, hv1]
      repeat' (first | exact Or.inl rfl | exact Or.inr rfl | refine or_ite (fun _ => ?_) (fun _ => ?_))
  · show bM_mostAdopted_9 G 624 (lM_mostAdopted_9 G 624 n) v k = _
    rw [bM_mostAdopted_9]
    simp (disch := omega) only [h0, kd_625, sz_625, true_and, le_t, lt_t, and_true, ↓reduceIte, if_neg hk]
theorem oM_mostAdopted (hi : MInv g) : PO g (fM_mostAdopted g 624) := by
  obtain ⟨v, e⟩ := q_mostAdopted (o0 hi)
  rw [fM_mostAdopted, bnd_s, o8 hi]; exact PO_i e (o0 hi)
theorem q_heaviest (h : OKg g G) : ∃ v, lM_heaviest_14 G 624 p fu (-1) 1 = some (v, G) := by
  have hs := h.1.1
  have h0 := hs.1
  have w := h.1.2.1.1
  have hM := w.1
  refine for_pr (L := fun n k v => lM_heaviest_14 G 624 p n v k) (G 625 0) hM (fun n k v hl hk hv => ?_) (fun n k v hk => ?_)
  · have f1 := vM_isChild (g := G) (p := k) (a := p) (st := 0) hs (by omega)
    obtain ⟨x, f2⟩ := q_belowOf h (p := k)
    obtain ⟨y, f3⟩ := q_belowOf h (p := v)
    have f2 : fM_belowOf G 624 k = some x := f2
    have f3 : fM_belowOf G 624 v = some y := f3
    show bM_heaviest_14 G 624 p (lM_heaviest_14 G 624 p n) v k = _ ∨ bM_heaviest_14 G 624 p (lM_heaviest_14 G 624 p n) v k = _
    rw [bM_heaviest_14]
    simp (disch := omega) only [f1, f2, f3, bdP_s, h0, kd_625, sz_625, w32_r, true_and, le_t, lt_t, and_true, ↓reduceIte]
    repeat' (first | exact Or.inl rfl | exact Or.inr rfl | refine or_ite (fun _ => ?_) (fun _ => ?_))
  · show bM_heaviest_14 G 624 p (lM_heaviest_14 G 624 p n) v k = _
    rw [bM_heaviest_14]
    simp (disch := omega) only [h0, kd_625, sz_625, true_and, le_t, lt_t, and_true, ↓reduceIte, if_neg hk]
theorem oM_heaviest (hi : MInv g) : PO g (fM_heaviest g 624 p) := by
  refine po_np hi (fun hp => ?_)
  obtain ⟨v, e⟩ := q_heaviest (o0 hi) (p := p)
  exact PO_i e (o0 hi)
end MODEL19
/-! ===== the reference: what would be (own work) ===== -/
section MODEL20
variable {g G : gH} {p code t c a b k q gp d : Int}
theorem oM_exited (hi : MInv g) : PO g (fM_exited g 624 a) := by
  have o1 := o0 hi
  have h0 := o1.1.1.1
  have hE := o1.1.2.1.2.2.2.1
  rw [fM_exited, bnd_s, o8 hi]
  simp (disch := omega) only [h0, kd_625, sz_625, w32_r, true_and, le_t, lt_t, and_true, ↓reduceIte, vM_inRange, bdP_s]
  have hw : w32 ((th g 0) 625 1 - 1) = (th g 0) 625 1 - 1 := w32_r (by have := hE.1; omega)
  rw [hw]
  by_cases h : 0 ≤ a ∧ a ≤ (th g 0) 625 1 - 1
  · have := hE.1
    simp only [if_pos h, f0, if_false, jM_exited_27, kd_c624, if_true, vM_fails (Or.inl rfl), bdN_s]
    simp (disch := omega) only [h0, kd_625, sz_625, w32_r, true_and, le_t, lt_t, and_true, ↓reduceIte]
    exact PO_i rfl o1
  · simp only [if_neg h, if_true, jM_exited_27, kd_c624, vM_fails (Or.inr rfl), bdN_s, f0, if_false]
    exact PO_i rfl (OK_th o1)
/-- an exit tried: the row kept stands by -/
theorem bg_ex (h : OKg g G) (hp : 0 < p ∧ p < G 625 0) (hst : G 625 (140 + p) = 0) (hc : 0 ≤ code ∧ code ≤ 255) : fM_begins G 624 = some (0, bgG G) ∧ ∃ v X, fM_exits (bgG G) 624 p code = some (v, X) ∧ OKg g X ∧ fM_ends X 624 = some (0, cpG X 627 0 625 0 780) ∧ OKg g (cpG X 627 0 625 0 780) ∧ G 625 0 ≤ X 625 0 ∧ (∀ k, 0 ≤ k → k < 780 → cpG X 627 0 625 0 780 625 k = G 625 k) := by
  have b1 := OK_bg h
  have e25 : bgG G 625 = G 625 := bgG_n (by omega)
  obtain ⟨v, x1, x2, -, x4, -⟩ := ex_OK (code := code) b1 (p := p) (by rw [e25]; exact hp) (by rw [e25]; exact hst) hc
  have e27 : sw (exG (bgG G) p code) (exF (bgG G 625) (bgG G 630) p code) 627 = bgG G 627 := by rw [sw_n (by omega), exG_n (by omega)]
  refine ⟨vM_begins h.1.1, v, _, x1, x2, vM_ends x2.1.1, OK_en x2 (by rw [e27]; exact WBF_627 h), ?_, fun k k0 k1 => en_row e27 ⟨k0, k1⟩⟩
  rw [sw_s, ← e25]; exact x4
theorem nx_p (h : 0 < p ∧ p < g 625 0) : 0 < p ∧ p < (th g 0) 625 0 := by rw [th_n (by omega)]; exact h
theorem nx_s (h : g 625 (140 + p) = 0) : (th g 0) 625 (140 + p) = 0 := by rw [th_n (by omega)]; exact h
theorem oM_wouldStand (hi : MInv g) : PO g (fM_wouldStand g 624 p code) := by
  refine po_nx hi (fun h1 h2 h3 => ?_)
  obtain ⟨e1, v, X, e2, x1, e3, x2, -⟩ := bg_ex (o0 hi) (nx_p h1) (nx_s h3) h2
  rw [e1, bdN_s, e2, bdN_s]
  refine po_ite (fun _ => ?_) (fun _ => ?_)
  · rw [e3, bdN_s]; exact PO_i rfl x2
  · obtain ⟨y, e4⟩ := q_highest x1
    have e4 : fM_highest X 624 = some y := e4
    rw [e4, bdP_s, e3, bdN_s]; exact PO_i rfl x2
theorem oM_wouldHave (hi : MInv g) : PO g (fM_wouldHave g 624 q p code) := by
  refine po_np hi (fun hq => po_nx2 hi (fun h1 h2 h3 => ?_))
  obtain ⟨e1, v, X, e2, x1, e3, x2, x3, -⟩ := bg_ex (o0 hi) (nx_p h1) (nx_s h3) h2
  have h0 := x1.1.1.1
  have hM := hi.2.1.1.1
  rw [e1, bdN_s, e2, bdN_s]
  refine po_ite (fun _ => ?_) (fun _ => ?_)
  · rw [e3, bdN_s]; exact PO_i rfl x2
  · simp (disch := omega) only [h0, kd_625, sz_625, w32_r, true_and, le_t, lt_t, and_true, ↓reduceIte]
    rw [e3, bdN_s]; exact PO_i rfl x2
theorem oM_wouldHold (hi : MInv g) : PO g (fM_wouldHold g 624 a p code) := by
  refine po_np hi (fun hq => ?_)
  have o1 := o0 hi
  rcases vM_noDuty (g := th g 0) (a := a) (c := 2) with ⟨-, e1⟩ | ⟨ha, e1⟩
  · rw [e1, bdN_s]; exact PO_1 (OK_th o1)
  · rw [e1, bdN_s]
    refine PO_0 (po_nx2 hi (fun h1 h2 h3 => ?_))
    obtain ⟨e1, v, X, e2, x1, e3, x2, x3, -⟩ := bg_ex (o0 hi) (nx_p h1) (nx_s h3) h2
    have h0 := x1.1.1.1
    rw [e1, bdN_s, e2, bdN_s]
    refine po_ite (fun _ => ?_) (fun _ => ?_)
    · rw [e3, bdN_s]; exact PO_i rfl x2
    · simp (disch := omega) only [h0, kd_625, sz_625, w32_r, true_and, le_t, lt_t, and_true, ↓reduceIte]
      rw [e3, bdN_s]; exact PO_i rfl x2
/-- a kill tried -/
theorem bg_kl (h : OKg g G) (hc : 0 ≤ code ∧ code ≤ 255) : fM_begins G 624 = some (0, bgG G) ∧ ∃ v X, fM_kills (bgG G) 624 gp code = some (v, X) ∧ OKg g X ∧ fM_ends X 624 = some (0, cpG X 627 0 625 0 780) ∧ OKg g (cpG X 627 0 625 0 780) := by
  have b1 := OK_bg h
  obtain ⟨v, X, e, x1, x2⟩ := vM_kills (gp := gp) b1 hc
  have e27 : X 627 = bgG G 627 := x2 627 (by omega) (by omega)
  exact ⟨vM_begins h.1.1, v, X, e, x1, vM_ends x1.1.1, OK_en x1 (by rw [e27]; exact WBF_627 h)⟩
theorem oM_wouldFallBy (hi : MInv g) : PO g (fM_wouldFallBy g 624 a code) := by
  rw [fM_wouldFallBy]
  rcases vM_noKill (g := g) (a := a) (code := code) with ⟨-, e⟩ | ⟨⟨-, h⟩, e⟩
  · rw [e, bdN_s]; exact PO_1 (OK_th (OK_r hi))
  · rw [e, bdN_s]
    refine PO_0 ?_
    have o1 := o0 hi
    have h0 := o1.1.1.1
    obtain ⟨e1, v, X, e2, x1, e3, x2⟩ := bg_kl (gp := a) o1 h
    have h0' := x1.1.1.1
    simp (disch := omega) only [h0, kd_625, sz_625, w32_r, true_and, le_t, lt_t, and_true, ↓reduceIte]
    rw [e1, bdN_s, e2, bdN_s]
    refine po_ite (fun _ => ?_) (fun _ => ?_)
    · rw [e3, bdN_s]; exact PO_i rfl x2
    · simp (disch := omega) only [h0', kd_625, sz_625, true_and, le_t, lt_t, and_true, ↓reduceIte]
      rw [e3, bdN_s]; exact PO_i rfl x2
theorem oM_wouldRun (hi : MInv g) : PO g (fM_wouldRun g 624 a code) := by
  rw [fM_wouldRun]
  rcases vM_noKill (g := g) (a := a) (code := code) with ⟨-, e⟩ | ⟨⟨-, h⟩, e⟩
  · rw [e, bdN_s]; exact PO_1 (OK_th (OK_r hi))
  · rw [e, bdN_s]
    refine PO_0 ?_
    have o1 := o0 hi
    obtain ⟨e1, v, X, e2, x1, e3, x2⟩ := bg_kl (gp := a) o1 h
    rw [e1, bdN_s, e2, bdN_s]
    refine po_ite (fun _ => ?_) (fun _ => ?_)
    · rw [e3, bdN_s]; exact PO_i rfl x2
    · rw [vM_runningMany x1.1.1 x1.1.2.1.1.1, bdP_s, e3, bdN_s]; exact PO_i rfl x2
/-- which exit falls hardest -/
theorem w_weakest (hi : MInv g) (hc : 0 ≤ code ∧ code ≤ 255) : ∀ (m n : Nat) (v w k : Int) (G : gH), (G 625 0 - k).toNat = m → m < n → 1 ≤ k → OKg g G → PO g (lM_weakest_38 624 code n v w k G) := by
  intro m
  induction m with
  | zero =>
    intro n v w k G hm hn hk o
    obtain ⟨n, rfl⟩ : ∃ k, n = k + 1 := ⟨n - 1, by omega⟩
    have h0 := o.1.1.1
    have hk' : ¬ k < G 625 0 := by omega
    show PO g (bM_weakest_38 624 code (lM_weakest_38 624 code n) v w k G)
    rw [bM_weakest_38]
    simp (disch := omega) only [h0, kd_625, sz_625, true_and, le_t, lt_t, and_true, ↓reduceIte, if_neg hk']
    exact PO_i rfl o
  | succ m ih =>
    intro n v w k G hm hn hk o
    obtain ⟨n, rfl⟩ : ∃ k, n = k + 1 := ⟨n - 1, by omega⟩
    have h0 := o.1.1.1
    have hM := o.1.2.1.1.1
    have hk' : k < G 625 0 := by omega
    show PO g (bM_weakest_38 624 code (lM_weakest_38 624 code n) v w k G)
    rw [bM_weakest_38]
    have f1 := vM_runs (g := G) (p := k) o.1.1 (by omega)
    simp (disch := omega) only [h0, kd_625, sz_625, true_and, le_t, lt_t, and_true, ↓reduceIte, f1, bdP_s]
    have hgo : ∀ (G' : gH) (s : Int), OKg g G' → G' 625 0 = G 625 0 → PO g (jM_weakest_69 (lM_weakest_38 624 code n) G' 624 code v w k s) := by
      intro G' s o' e'
      rw [jM_weakest_69, w32_r (by omega)]
      exact po_ite (fun _ => ih _ _ _ _ _ (by rw [e']; omega) (by omega) (by omega) o') (fun _ => ih _ _ _ _ _ (by rw [e']; omega) (by omega) (by omega) o')
    by_cases hr : G 625 (140 + k) = 0
    · rw [if_pos hr, if_neg f0]
      obtain ⟨y, G', e, o', hk2⟩ := vM_fallsBy (code := code) o ⟨by omega, hk'⟩ hr hc
      rw [e, bdN_s]
      exact hgo G' y o' (hk2 0 (by omega) (by omega))
    · rw [if_neg hr, if_pos rfl]
      exact hgo G (-1) o rfl
theorem oM_weakest (hi : MInv g) : PO g (fM_weakest g 624 code) := by
  have hf := fu_ge
  have o1 := o0 hi
  have hM := o1.1.2.1.1.1
  rw [fM_weakest, bnd_s, o8 hi, vM_inRange, bdP_s]
  by_cases h : 0 ≤ code ∧ code ≤ 255
  · simp only [if_pos h, f0, if_false, jM_weakest_22, kd_c624, if_true, vM_fails (Or.inl rfl), bdN_s]
    exact w_weakest hi h _ _ _ _ _ _ rfl (by omega) (by omega) o1
  · simp only [if_neg h, if_true, jM_weakest_22, kd_c624, vM_fails (Or.inr rfl), bdN_s, f0, if_false]
    exact PO_i rfl (OK_th o1)
/-- how often a duty's holder may exit -/
theorem w_dutyLife (ha : 0 ≤ a ∧ a ≤ 7) : ∀ (m n : Nat) (v : Int) (G : gH), (40 - G 625 1).toNat = m → m < n → OKg g G → WBF (G 627) → PO g (lM_dutyLife_22 624 a n v G) := by
  intro m
  induction m with
  | zero =>
    intro n v G hm hn o hw
    obtain ⟨n, rfl⟩ : ∃ k, n = k + 1 := ⟨n - 1, by omega⟩
    have h0 := o.1.1.1
    have hD := o.1.2.1.2.2.2.2.2.2.1 a ha.1 (by omega)
    have hE := o.1.2.1.2.2.2.1.1
    show PO g (bM_dutyLife_22 624 a (lM_dutyLife_22 624 a n) v G)
    rw [bM_dutyLife_22]
    simp (disch := omega) only [h0, kd_625, sz_625, w32_r, true_and, le_t, lt_t, and_true, ↓reduceIte]
    refine po_ite (fun _ => ?_) (fun hz => ?_)
    · rw [vM_ends o.1.1, bdN_s]; exact PO_i rfl (OK_en o hw)
    · exfalso
      obtain ⟨x, e1, o', e2, -, -⟩ := ex_OK (code := 0) o (p := G 625 (11 + a)) ⟨by omega, hD.2.1⟩ hD.2.2 (by omega)
      have hE' := o'.1.2.1.2.2.2.1.1
      rw [sw_s] at hE'
      omega
  | succ m ih =>
    intro n v G hm hn o hw
    obtain ⟨n, rfl⟩ : ∃ k, n = k + 1 := ⟨n - 1, by omega⟩
    have h0 := o.1.1.1
    have hD := o.1.2.1.2.2.2.2.2.2.1 a ha.1 (by omega)
    show PO g (bM_dutyLife_22 624 a (lM_dutyLife_22 624 a n) v G)
    rw [bM_dutyLife_22]
    simp (disch := omega) only [h0, kd_625, sz_625, w32_r, true_and, le_t, lt_t, and_true, ↓reduceIte]
    refine po_ite (fun _ => ?_) (fun hz => ?_)
    · rw [vM_ends o.1.1, bdN_s]; exact PO_i rfl (OK_en o hw)
    · obtain ⟨x, e1, o', e2, -, -⟩ := ex_OK (code := 0) o (p := G 625 (11 + a)) ⟨by omega, hD.2.1⟩ hD.2.2 (by omega)
      have hw' : WBF (sw (exG G (G 625 (11 + a)) 0) (exF (G 625) (G 630) (G 625 (11 + a)) 0) 627) := by
        rw [sw_n (by omega), exG_n (by omega)]; exact hw
      rw [e1, bdN_s]
      have hm' : (40 - sw (exG G (G 625 (11 + a)) 0) (exF (G 625) (G 630) (G 625 (11 + a)) 0) 625 1).toNat = m := by
        rw [sw_s, e2]; omega
      exact po_ite (fun _ => ih _ _ _ hm' (by omega) o' hw') (fun _ => ih _ _ _ hm' (by omega) o' hw')
theorem oM_dutyLife (hi : MInv g) : PO g (fM_dutyLife g 624 a) := by
  have hf := fu_ge
  have o1 := o0 hi
  rw [fM_dutyLife, bnd_s, o8 hi]
  rcases vM_noDuty (g := th g 0) (a := a) (c := 1) with ⟨-, e1⟩ | ⟨h1, e1⟩
  · rw [e1, bdN_s]; exact PO_1 (OK_th o1)
  · rw [e1, bdN_s]
    refine PO_0 ?_
    rw [vM_begins o1.1.1, bdN_s]
    have hE := (OK_bg o1).1.2.1.2.2.2.1.1
    exact w_dutyLife h1 _ _ _ _ rfl (by omega) (OK_bg o1) (WBF_627 o1)
end MODEL20
/-! ===== the reference's input (own work) ===== -/
section MODEL21
variable {g G : gH} {p code t c a b k q gp d x y z w v n : Int}
theorem MInv_len (h : MInv g) (hn : 0 ≤ n ∧ n ≤ 500) : MInv (pU g 624 10 n) := by
  obtain ⟨h1, h2, h3, ⟨h4, h5⟩, h6, h7, h8⟩ := h
  unfold MInv MS
  simp (disch := omega) only [pU_n, pU_s, u1_n, u1_s]
  exact ⟨h1, h2, h3, ⟨h4, h5⟩, h6, hn, h8⟩
theorem MInv_in (h : MInv g) : MInv (pU g 631 a x) := by
  obtain ⟨h1, h2, h3, ⟨h4, h5⟩, h6, h7, h8⟩ := h
  unfold MInv MS
  simp (disch := omega) only [pU_n]
  exact ⟨h1, h2, h3, ⟨h4, h5⟩, h6, h7, h8⟩
/-- n bytes are written behind the input -/
theorem vM_appendWord (hi : MInv G) (hl : G 624 10 + 4 ≤ 500) : ∃ G', fM_appendWord G 624 w = some (0, G') ∧ MInv G' ∧ MF G G' ∧ G' 624 10 = G 624 10 + 4 ∧ (∀ k, ¬ k = 10 → G' 624 k = G 624 k) ∧ (∀ x, ¬ x = 624 → ¬ x = 631 → G' x = G x) := by
  have key : ∀ (v : Int) (n : Nat) (G : gH), MInv G → 0 ≤ v → G 624 10 + 1 ≤ 500 → ∃ G', lM_appendWord_3 624 w (n + 1) v G = lM_appendWord_3 624 w n (w32 (v + -8)) G' ∧ MInv G' ∧ MF G G' ∧ G' 624 10 = G 624 10 + 1 ∧ (∀ k, ¬ k = 10 → G' 624 k = G 624 k) ∧ (∀ x, ¬ x = 624 → ¬ x = 631 → G' x = G x) := by
    intro v n G hi hv hl
    have h9 : G 624 9 = 631 := hi.1.2.2.2.2.2.1
    have h10 := hi.2.2.2.2.2.1
    have hv' : ¬ v < 0 := by omega
    refine ⟨pU (pU G 631 (G 624 10) (opI 1 (opI 5 w v) 255)) 624 10 (G 624 10 + 1), ?_, ?_, ?_, ?_, ?_, ?_⟩
    · show bM_appendWord_3 624 w (lM_appendWord_3 624 w n) v G = _
      rw [bM_appendWord_3]
      have e1 : pU G 631 (G 624 10) (opI 1 (opI 5 w v) 255) 624 = G 624 := pU_n (by omega)
      simp (disch := omega) only [if_neg hv', h9, kd_631, sz_631, true_and, le_t, lt_t, and_true, ↓reduceIte, bnd_s, e1, w32_r]
    · exact MInv_len (MInv_in hi) (by omega)
    · exact MF_pU (MF_pU MF_r (by omega)) (by omega)
    · rw [pU_s, u1_s]
    · intro k hk
      rw [pU_s, u1_n (by omega), pU_n (by omega)]
    · intro x h1 h2
      rw [pU_n (by omega), pU_n (by omega)]
  obtain ⟨G1, a1, a2, a3, a4, a5, a6⟩ := key 24 (fu - 1) G hi (by omega) (by omega)
  obtain ⟨G2, b1, b2, b3, b4, b5, b6⟩ := key 16 (fu - 2) G1 a2 (by omega) (by omega)
  obtain ⟨G3, c1, c2, c3, c4, c5, c6⟩ := key 8 (fu - 3) G2 b2 (by omega) (by omega)
  obtain ⟨G4, d1, d2, d3, d4, d5, d6⟩ := key 0 (fu - 4) G3 c2 (by omega) (by omega)
  have hf := fu_ge
  have e1 : fu - 1 + 1 = fu := by omega
  have e2 : fu - 2 + 1 = fu - 1 := by omega
  have e3 : fu - 3 + 1 = fu - 2 := by omega
  have e4 : fu - 4 + 1 = fu - 3 := by omega
  have e5 : fu - 5 + 1 = fu - 4 := by omega
  rw [e1] at a1; rw [e2] at b1; rw [e3] at c1; rw [e4] at d1
  refine ⟨G4, ?_, d2, fun x hx => ?_, by omega, fun k hk => ?_, fun x h1 h2 => ?_⟩
  · rw [fM_appendWord, a1, show w32 (24 + -8) = 16 from w32_r (by omega), b1, show w32 (16 + -8) = 8 from w32_r (by omega), c1, show w32 (8 + -8) = 0 from w32_r (by omega), d1, show w32 (0 + -8) = -8 from w32_r (by omega), ← e5]
    show bM_appendWord_3 624 w (lM_appendWord_3 624 w (fu - 5)) (-8) G4 = _
    rw [bM_appendWord_3, if_pos (by omega)]
  · rw [d3 x hx, c3 x hx, b3 x hx, a3 x hx]
  · rw [d5 k hk, c5 k hk, b5 k hk, a5 k hk]
  · rw [d6 x h1 h2, c6 x h1 h2, b6 x h1 h2, a6 x h1 h2]
/-- promise 2: what is answered, what the length is then -/
theorem oM_appendInput (hi : MInv g) : ∃ G', fM_appendInput g 624 a b c d k = some (if 500 < g 624 10 + 20 then -1 else g 624 10 + 20, G') ∧ MInv G' ∧ MF g G' ∧ G' 624 10 = (if 500 < g 624 10 + 20 then g 624 10 else g 624 10 + 20) := by
  have o1 := o0 hi
  have h10 := hi.2.2.2.2.2.1
  have e10 : (th g 0) 624 10 = g 624 10 := th_f (by omega)
  rw [fM_appendInput, bnd_s, o8 hi, e10, w32_r (by omega)]
  by_cases h : 500 < g 624 10 + 20
  · rw [if_pos h, if_pos h, if_pos h]
    exact ⟨_, rfl, o1.1, o1.2.1, e10⟩
  · rw [if_neg h, if_neg h, if_neg h]
    obtain ⟨G1, a1, a2, a3, a4, -, -⟩ := vM_appendWord (w := a) o1.1 (by omega)
    obtain ⟨G2, b1, b2, b3, b4, -, -⟩ := vM_appendWord (w := b) a2 (by omega)
    obtain ⟨G3, c1, c2, c3, c4, -, -⟩ := vM_appendWord (w := c) b2 (by omega)
    obtain ⟨G4, d1, d2, d3, d4, -, -⟩ := vM_appendWord (w := d) c2 (by omega)
    obtain ⟨G5, k1, k2, k3, k4, -, -⟩ := vM_appendWord (w := k) d2 (by omega)
    rw [a1, bdN_s, b1, bdN_s, c1, bdN_s, d1, bdN_s, k1, bdN_s]
    have e5 : G5 624 10 = g 624 10 + 20 := by omega
    rw [e5]
    exact ⟨_, rfl, k2, fun x hx => by rw [k3 x hx, d3 x hx, c3 x hx, b3 x hx, a3 x hx, o1.2.1 x hx], e5⟩
/-- promise 3 -/
theorem oM_truncateInput (hi : MInv g) : ∃ G', fM_truncateInput g 624 a = some (if 0 ≤ a ∧ a ≤ g 624 10 then 1 else 0, G') ∧ MInv G' ∧ MF g G' ∧ G' 624 10 = (if 0 ≤ a ∧ a ≤ g 624 10 then a else g 624 10) := by
  have o1 := o0 hi
  have h10 := hi.2.2.2.2.2.1
  have e10 : (th g 0) 624 10 = g 624 10 := th_f (by omega)
  rw [fM_truncateInput, bnd_s, o8 hi, e10, vM_inRange, bdP_s]
  by_cases h : 0 ≤ a ∧ a ≤ g 624 10
  · simp only [if_pos h, f0, if_false, bnd_s]
    exact ⟨_, rfl, MInv_len o1.1 (by omega), MF_pU o1.2.1 (by omega), by rw [pU_s, u1_s]⟩
  · simp only [if_neg h, if_true]
    exact ⟨_, rfl, o1.1, o1.2.1, e10⟩
end MODEL21
/-! ===== the reference's output (own work) ===== -/
section MODEL22
variable {g G H K : gH} {p code t c a b k q gp d x y z w v n l : Int}
theorem MInv_out (h : MInv g) (hn : 0 ≤ n ∧ n ≤ 400) : MInv (pU (pU g 634 a x) 624 23 n) := by
  obtain ⟨h1, h2, h3, ⟨h4, h5⟩, h6, h7, h8⟩ := h
  unfold MInv MS
  simp (disch := omega) only [pU_n, pU_s, u1_n, u1_s]
  exact ⟨h1, h2, h3, ⟨h4, h5⟩, h6, h7, hn⟩
def WR (G H : gH) (k : Int) : Prop := MInv H ∧ MF G H ∧ KI G H ∧ H 625 = G 625 ∧ (0 ≤ H 624 23 ∧ H 624 23 ≤ G 624 23 + k)
theorem WR_r (h : MInv G) : WR G G 0 := ⟨h, MF_r, KI_r, rfl, h.2.2.2.2.2.2.1, by omega⟩
theorem WR_t (h : WR G H a) (h' : WR H K b) : WR G K (a + b) := ⟨h'.1, fun x hx => (h'.2.1 x hx).trans (h.2.1 x hx), KI_t h.2.2.1 h'.2.2.1, h'.2.2.2.1.trans h.2.2.2.1, h'.2.2.2.2.1, by have := h.2.2.2.2.2; have := h'.2.2.2.2.2; omega⟩
theorem WR_l (h : WR G H a) (hab : a ≤ b) : WR G H b := ⟨h.1, h.2.1, h.2.2.1, h.2.2.2.1, h.2.2.2.2.1, by have := h.2.2.2.2.2; omega⟩
theorem vM_write (o : MInv G) (h : G 624 23 < 400) : ∃ H, fM_write G 624 c = some (0, H) ∧ WR G H 1 := by
  have h0 : G 624 22 = 634 := o.1.2.2.2.2.2.2.2.2.1
  have hm := o.2.2.2.2.2.2
  refine ⟨pU (pU G 634 (G 624 23) c) 624 23 (G 624 23 + 1), ?_, MInv_out o (by omega), MF_pU (MF_pU MF_r (by omega)) (by omega), ?_, ?_, ?_⟩
  · have e1 : pU G 634 (G 624 23) c 624 = G 624 := pU_n (by omega)
    rw [fM_write]
    simp (disch := omega) only [h0, kd_634, sz_634, true_and, le_t, lt_t, and_true, ↓reduceIte, bnd_s, e1, w32_r]
  · exact ⟨fun k k0 k1 => by rw [pU_s, u1_n (by omega), pU_n (by omega)], by rw [pU_n (by omega), pU_n (by omega)]⟩
  · rw [pU_n (by omega), pU_n (by omega)]
  · rw [pU_s, u1_s]; omega
theorem vM_writeBetween (o : MInv G) (h : G 624 23 < 400) : ∃ H, fM_writeBetween G 624 c = some (0, H) ∧ WR G H 1 := by
  rw [fM_writeBetween]
  by_cases hc : 0 < G 624 23
  · obtain ⟨H, e, w⟩ := vM_write (c := c) o h
    rw [if_pos hc, e, bdN_s]; exact ⟨H, rfl, w⟩
  · rw [if_neg hc]; exact ⟨G, rfl, WR_l (WR_r o) (by omega)⟩
/-- a number of at most three places -/
theorem vM_writeNumber (o : MInv G) (h : G 624 23 + 3 ≤ 400) (hx : 0 ≤ x ∧ x ≤ 255) : ∃ H, fM_writeNumber G 624 x = some (0, H) ∧ WR G H 3 := by
  have step : ∀ (n : Nat) (v : Int) (G : gH), MInv G → G 624 23 < 400 → (v = 1 ∨ v = 10 ∨ v = 100) → ∃ H, lM_writeNumber_18 624 x (n + 1) v G = lM_writeNumber_18 624 x n (v / 10) H ∧ WR G H 1 := by
    intro n v G o h hv
    obtain ⟨H, e, w⟩ := vM_write (c := w32 (48 + (x / v) % 10)) o h
    refine ⟨H, ?_, w⟩
    show bM_writeNumber_18 624 x (lM_writeNumber_18 624 x n) v G = _
    rw [bM_writeNumber_18]
    have hv0 : 0 < v := by omega
    have hq : 0 ≤ x / v ∧ x / v ≤ 255 := by
      rcases hv with e | e | e <;> subst e <;> omega
    simp (disch := omega) only [e, bdN_s, true_and, le_t, lt_t, and_true, ↓reduceIte]
  have fin : ∀ (n : Nat) (G : gH), lM_writeNumber_18 624 x (n + 1) 0 G = some (0, G) := by
    intro n G
    show bM_writeNumber_18 624 x (lM_writeNumber_18 624 x n) 0 G = _
    rw [bM_writeNumber_18, if_neg (by omega)]
  have hf := fu_ge
  have f1 : fu - 1 + 1 = fu := by omega
  have f2 : fu - 2 + 1 = fu - 1 := by omega
  have f3 : fu - 3 + 1 = fu - 2 := by omega
  have f4 : fu - 4 + 1 = fu - 3 := by omega
  have w1 : ∀ G, MInv G → G 624 23 < 400 → ∀ m : Nat, ∃ H, lM_writeNumber_18 624 x (m + 2) 1 G = some (0, H) ∧ WR G H 1 := by
    intro G o h m
    obtain ⟨H, e, w⟩ := step (m + 1) 1 G o h (Or.inl rfl)
    exact ⟨H, by rw [e, show (1 : Int) / 10 = 0 from by omega, fin], w⟩
  have w2 : ∀ G, MInv G → G 624 23 + 2 ≤ 400 → ∀ m : Nat, ∃ H, lM_writeNumber_18 624 x (m + 3) 10 G = some (0, H) ∧ WR G H 2 := by
    intro G o h m
    obtain ⟨H, e, w⟩ := step (m + 2) 10 G o (by omega) (Or.inr (Or.inl rfl))
    obtain ⟨K, e2, w'⟩ := w1 H w.1 (by have := w.2.2.2.2.2; omega) m
    exact ⟨K, by rw [e, show (10 : Int) / 10 = 1 from by omega, e2], WR_t w w'⟩
  have w3 : ∀ G, MInv G → G 624 23 + 3 ≤ 400 → ∀ m : Nat, ∃ H, lM_writeNumber_18 624 x (m + 4) 100 G = some (0, H) ∧ WR G H 3 := by
    intro G o h m
    obtain ⟨H, e, w⟩ := step (m + 3) 100 G o (by omega) (Or.inr (Or.inr rfl))
    obtain ⟨K, e2, w'⟩ := w2 H w.1 (by have := w.2.2.2.2.2; omega) m
    exact ⟨K, by rw [e, show (100 : Int) / 10 = 10 from by omega, e2], WR_t w w'⟩
  have g1 : fu - 2 + 2 = fu := by omega
  have g2 : fu - 3 + 3 = fu := by omega
  have g3 : fu - 4 + 4 = fu := by omega
  have s1 : ∀ (n : Nat), lM_writeNumber_2 G 624 x (n + 1) 1 = if 9 < x then lM_writeNumber_2 G 624 x n 10 else lM_writeNumber_18 624 x fu 1 G := by
    intro n
    show bM_writeNumber_2 G 624 x (lM_writeNumber_2 G 624 x n) 1 = _
    rw [bM_writeNumber_2]
    simp (disch := omega) only [true_and, le_t, lt_t, and_true, ↓reduceIte, Int.ediv_one, opI_mul, w32_r]
    rfl
  have s2 : ∀ (n : Nat), lM_writeNumber_2 G 624 x (n + 1) 10 = if 9 < x / 10 then lM_writeNumber_2 G 624 x n 100 else lM_writeNumber_18 624 x fu 10 G := by
    intro n
    show bM_writeNumber_2 G 624 x (lM_writeNumber_2 G 624 x n) 10 = _
    rw [bM_writeNumber_2]
    simp (disch := omega) only [true_and, le_t, lt_t, and_true, ↓reduceIte, opI_mul, w32_r]
    rfl
  have s3 : ∀ (n : Nat), lM_writeNumber_2 G 624 x (n + 1) 100 = lM_writeNumber_18 624 x fu 100 G := by
    intro n
    show bM_writeNumber_2 G 624 x (lM_writeNumber_2 G 624 x n) 100 = _
    rw [bM_writeNumber_2]
    have : ¬ 9 < x / 100 := by omega
    simp (disch := omega) only [true_and, le_t, lt_t, and_true, ↓reduceIte, if_neg this]
  have r1 := s1 (fu - 1)
  have r2 := s2 (fu - 2)
  have r3 := s3 (fu - 3)
  rw [f1] at r1; rw [f2] at r2; rw [f3] at r3
  rw [fM_writeNumber, r1]
  split
  · rw [r2]
    split
    · rw [r3]
      obtain ⟨H, e, w⟩ := w3 G o h (fu - 4)
      rw [g3] at e
      exact ⟨H, e, w⟩
    · obtain ⟨H, e, w⟩ := w2 G o (by omega) (fu - 3)
      rw [g2] at e
      exact ⟨H, e, WR_l w (by omega)⟩
  · obtain ⟨H, e, w⟩ := w1 G o (by omega) (fu - 2)
    rw [g1] at e
    exact ⟨H, e, WR_l w (by omega)⟩
/-- the next running child from k on -/
theorem vM_nextChild (hs : MS G) (hM : 1 ≤ G 625 0 ∧ G 625 0 ≤ 40) (hk : 0 ≤ k ∧ k ≤ 40) : ∃ c, fM_nextChild G 624 a k = some c ∧ ((c = -1 ∧ ∀ j, k ≤ j → j < G 625 0 → ic (G 625) j a 0 = false) ∨ ((k ≤ c ∧ c < G 625 0) ∧ ic (G 625) c a 0 = true ∧ ∀ j, k ≤ j → j < c → ic (G 625) j a 0 = false)) := by
  have h0 := hs.1
  have key : ∀ (m n : Nat) (i : Int), (G 625 0 - i).toNat = m → m < n → k ≤ i → (∀ j, k ≤ j → j < i → ic (G 625) j a 0 = false) → ∃ c, lM_nextChild_2 G 624 a n i = some c ∧ ((c = -1 ∧ ∀ j, k ≤ j → j < G 625 0 → ic (G 625) j a 0 = false) ∨ ((k ≤ c ∧ c < G 625 0) ∧ ic (G 625) c a 0 = true ∧ ∀ j, k ≤ j → j < c → ic (G 625) j a 0 = false)) := by
    intro m
    induction m with
    | zero =>
      intro n i hm hn hi hj
      obtain ⟨n, rfl⟩ : ∃ k, n = k + 1 := ⟨n - 1, by omega⟩
      have hni : ¬ i < G 625 0 := by omega
      refine ⟨-1, ?_, Or.inl ⟨rfl, fun j h1 h2 => hj j h1 (by omega)⟩⟩
      show bM_nextChild_2 G 624 a (lM_nextChild_2 G 624 a n) i = _
      rw [bM_nextChild_2, jM_nextChild_28]
      simp (disch := omega) only [h0, kd_625, sz_625, true_and, le_t, lt_t, and_true, ↓reduceIte, if_neg hni]
    | succ m ih =>
      intro n i hm hn hi hj
      obtain ⟨n, rfl⟩ : ∃ k, n = k + 1 := ⟨n - 1, by omega⟩
      have hii : i < G 625 0 := by omega
      have f1 := vM_isChild (g := G) (p := i) (a := a) (st := 0) hs (by omega)
      have e : lM_nextChild_2 G 624 a (n + 1) i = if (if ic (G 625) i a 0 = true then (1 : Int) else 0) = 0 then lM_nextChild_2 G 624 a n (i + 1) else some i := by
        show bM_nextChild_2 G 624 a (lM_nextChild_2 G 624 a n) i = _
        rw [bM_nextChild_2, jM_nextChild_28]
        simp (disch := omega) only [h0, kd_625, sz_625, true_and, le_t, lt_t, and_true, ↓reduceIte, f1, bdP_s, w32_r]
      rw [e]
      cases hc : ic (G 625) i a 0 with
      | true =>
        rw [if_pos rfl, if_neg f0]
        exact ⟨i, rfl, Or.inr ⟨⟨hi, hii⟩, hc, hj⟩⟩
      | false =>
        simp only [Bool.false_eq_true, if_false, if_true]
        refine ih n (i + 1) (by omega) (by omega) (by omega) (fun j h1 h2 => ?_)
        by_cases e : j = i
        · rw [e]; exact hc
        · exact hj j h1 (by omega)
  have hf := fu_ge
  rw [fM_nextChild]
  exact key _ fu k rfl (by omega) (by omega) (fun j h1 h2 => absurd h1 (by omega))
theorem vM_onPath (o : MInv G) (hp : 0 ≤ p ∧ p < G 625 0) (hl : 0 ≤ l) : ∃ q, fM_onPath G 624 p l = some q ∧ 0 ≤ q ∧ q < G 625 0 := by
  have hs := o.1
  have h0 := hs.1
  have w := o.2.1.1
  have key : ∀ (m n : Nat) (i : Int), en (up (G 625)) m i = true → i < G 625 0 → m < n → ∃ q, lM_onPath_2 G 624 l n i = some q ∧ 0 ≤ q ∧ q < G 625 0 := by
    intro m
    induction m with
    | zero =>
      intro n i hi hiM hn
      obtain ⟨n, rfl⟩ : ∃ k, n = k + 1 := ⟨n - 1, by omega⟩
      have e : i = 0 := by simpa [en] using hi
      subst e
      refine ⟨0, ?_, by omega, by omega⟩
      show bM_onPath_2 G 624 l (lM_onPath_2 G 624 l n) 0 = _
      rw [bM_onPath_2, vM_deep hs en_0, bdP_s, if_neg (show ¬ l < DP (up (G 625)) 0 by simp only [DP, dp, if_true]; omega)]
    | succ m ih =>
      intro n i hi hiM hn
      obtain ⟨n, rfl⟩ : ∃ k, n = k + 1 := ⟨n - 1, by omega⟩
      have hr := en_rg hi
      have e : lM_onPath_2 G 624 l (n + 1) i = if l < DP (up (G 625)) i then lM_onPath_2 G 624 l n (up (G 625) i) else some i := by
        show bM_onPath_2 G 624 l (lM_onPath_2 G 624 l n) i = _
        rw [bM_onPath_2, vM_deep hs (en_40 hi), bdP_s]
        simp (disch := omega) only [h0, kd_625, sz_625, true_and, le_t, lt_t, and_true, ↓reduceIte, w32_r]
        rfl
      rw [e]
      split
      · next hlt =>
        by_cases hz : i = 0
        · subst hz
          exact absurd hlt (by simp only [DP, dp, if_true]; omega)
        · rcases en_s.mp hi with e3 | ⟨-, -, e3⟩
          · exact absurd e3 hz
          · exact ih n _ e3 (w.2.1 i (by omega) hiM).2 (by omega)
      · exact ⟨i, rfl, by omega, hiM⟩
  have hf := fu_ge
  rw [fM_onPath]
  exact key 40 fu p (w.2.2.1 p hp.1 hp.2) hp.2 (by omega)
theorem dp_bnd {f : Int → Int} : ∀ (n : Nat) (i : Int), 0 ≤ dp f n i ∧ dp f n i ≤ n := by
  intro n
  induction n with
  | zero => intro i; exact ⟨Int.le_refl _, Int.le_refl _⟩
  | succ n ih =>
    intro i
    have := ih (f i)
    rw [dp]
    split <;> omega
theorem vM_writePath (o : MInv G) (hp : 0 ≤ p ∧ p < G 625 0) (hz : G 624 23 = 0) : ∃ H, fM_writePath G 624 p = some (0, H) ∧ WR G H 164 := by
  have hdp := dp_bnd (f := up (G 625)) 40 p
  have key : ∀ (m n : Nat) (i : Int) (G : gH), MInv G → (0 ≤ p ∧ p < G 625 0) → (DP (up (G 625)) p + 1 - i).toNat = m → m < n → 0 ≤ i → i ≤ 41 → G 624 23 + 4 * m ≤ 400 → DP (up (G 625)) p ≤ 40 → ∃ H, lM_writePath_2 624 p n i G = some (0, H) ∧ WR G H (4 * m) := by
    intro m
    induction m with
    | zero =>
      intro n i G o hp hm hn hi hi' hg hd
      obtain ⟨n, rfl⟩ : ∃ k, n = k + 1 := ⟨n - 1, by omega⟩
      refine ⟨G, ?_, WR_l (WR_r o) (by omega)⟩
      show bM_writePath_2 624 p (lM_writePath_2 624 p n) i G = _
      rw [bM_writePath_2, vM_deep o.1 (o.2.1.1.2.2.1 p hp.1 hp.2), bdP_s, if_pos (by omega)]
    | succ m ih =>
      intro n i G o hp hm hn hi hi' hg hd
      obtain ⟨n, rfl⟩ : ∃ k, n = k + 1 := ⟨n - 1, by omega⟩
      obtain ⟨H, e1, w1⟩ := vM_writeBetween (c := 47) o (by omega)
      have hp1 : 0 ≤ p ∧ p < H 625 0 := by rw [w1.2.2.2.1]; exact hp
      have b1 := w1.2.2.2.2.2
      obtain ⟨q, e2, q0, q1⟩ := vM_onPath w1.1 hp1 hi
      have hM := w1.1.2.1.1.1
      obtain ⟨K, e3, w2⟩ := vM_writeNumber (x := q) w1.1 (by omega) (by omega)
      have b2 := w2.2.2.2.2.2
      have e25 : K 625 = G 625 := w2.2.2.2.1.trans w1.2.2.2.1
      obtain ⟨L, e4, w3⟩ := ih n (i + 1) K w2.1 (by rw [e25]; exact hp) (by rw [e25]; omega) (by omega) (by omega) (by omega) (by omega) (by rw [e25]; exact hd)
      refine ⟨L, ?_, WR_l (WR_t (WR_t w1 w2) w3) (by omega)⟩
      show bM_writePath_2 624 p (lM_writePath_2 624 p n) i G = _
      rw [bM_writePath_2, vM_deep o.1 (o.2.1.1.2.2.1 p hp.1 hp.2), bdP_s, if_neg (by omega), e1, bdN_s, e2, bdP_s, e3, bdN_s, w32_r (by omega), e4]
  have hf := fu_ge
  have hd : DP (up (G 625)) p ≤ 40 ∧ 0 ≤ DP (up (G 625)) p := ⟨hdp.2, hdp.1⟩
  obtain ⟨H, e, w⟩ := key _ fu 0 G o hp rfl (by omega) (by omega) (by omega) (by omega) hd.1
  exact ⟨H, e, WR_l w (by omega)⟩
theorem vM_writeChildren (o : MInv G) (hz : G 624 23 = 0) : ∃ H, fM_writeChildren G 624 p = some (0, H) ∧ WR G H 160 := by
  have key : ∀ (m n : Nat) (i : Int) (G : gH), MInv G → (i = -1 ∨ (0 ≤ i ∧ i < G 625 0 ∧ 40 - i ≤ m)) → m < n → G 624 23 + 4 * m ≤ 400 → ∃ H, lM_writeChildren_7 624 p n i G = some (0, H) ∧ WR G H (4 * m) := by
    intro m
    induction m with
    | zero =>
      intro n i G o hi hn hg
      obtain ⟨n, rfl⟩ : ∃ k, n = k + 1 := ⟨n - 1, by omega⟩
      have hM := o.2.1.1.1
      have hi' : i = -1 := by omega
      refine ⟨G, ?_, WR_l (WR_r o) (by omega)⟩
      show bM_writeChildren_7 624 p (lM_writeChildren_7 624 p n) i G = _
      rw [bM_writeChildren_7, if_pos hi']
    | succ m ih =>
      intro n i G o hi hn hg
      obtain ⟨n, rfl⟩ : ∃ k, n = k + 1 := ⟨n - 1, by omega⟩
      have hM := o.2.1.1.1
      by_cases hi1 : i = -1
      · refine ⟨G, ?_, WR_l (WR_r o) (by omega)⟩
        show bM_writeChildren_7 624 p (lM_writeChildren_7 624 p n) i G = _
        rw [bM_writeChildren_7, if_pos hi1]
      · obtain ⟨i0, i1, i2⟩ : 0 ≤ i ∧ i < G 625 0 ∧ 40 - i ≤ (m + 1 : Nat) := by rcases hi with h | h; exact absurd h hi1; exact h
        obtain ⟨H, e1, w1⟩ := vM_writeBetween (c := 44) o (by omega)
        have b1 := w1.2.2.2.2.2
        obtain ⟨K, e3, w2⟩ := vM_writeNumber (x := i) w1.1 (by omega) (by omega)
        have b2 := w2.2.2.2.2.2
        have e25 : K 625 = G 625 := w2.2.2.2.1.trans w1.2.2.2.1
        obtain ⟨c, e4, hc⟩ := vM_nextChild (a := p) (k := i + 1) w2.1.1 w2.1.2.1.1.1 (by omega)
        obtain ⟨L, e5, w3⟩ := ih n c K w2.1 (by omega) (by omega) (by omega)
        refine ⟨L, ?_, WR_l (WR_t (WR_t w1 w2) w3) (by omega)⟩
        show bM_writeChildren_7 624 p (lM_writeChildren_7 624 p n) i G = _
        rw [bM_writeChildren_7, if_neg hi1, e1, bdN_s, e3, bdN_s, w32_r (by omega), e4, bdP_s, e5]
  have hf := fu_ge
  obtain ⟨c, e4, hc⟩ := vM_nextChild (a := p) (k := 0) o.1 o.2.1.1.1 (by omega)
  obtain ⟨H, e, w⟩ := key 40 fu c G o (by omega) (by omega) (by omega)
  refine ⟨H, ?_, WR_l w (by omega)⟩
  rw [fM_writeChildren, e4, bdP_s, e]
theorem vM_writeZombies (o : MInv G) (hz : G 624 23 = 0) : ∃ H, fM_writeZombies G 624 p = some (0, H) ∧ WR G H 320 := by
  have hE0 := o.2.1.2.2.2.1.1
  have key : ∀ (m n : Nat) (i : Int) (G : gH), MInv G → (G 625 1 - i).toNat = m → m < n → 0 ≤ i → G 624 23 + 8 * m ≤ 400 → ∃ H, lM_writeZombies_2 624 p n i G = some (0, H) ∧ WR G H (8 * m) := by
    intro m
    induction m with
    | zero =>
      intro n i G o hm hn hi hg
      obtain ⟨n, rfl⟩ : ∃ k, n = k + 1 := ⟨n - 1, by omega⟩
      have h0 := o.1.1
      have hni : ¬ i < G 625 1 := by omega
      refine ⟨G, ?_, WR_l (WR_r o) (by omega)⟩
      show bM_writeZombies_2 624 p (lM_writeZombies_2 624 p n) i G = _
      rw [bM_writeZombies_2]
      simp (disch := omega) only [h0, kd_625, sz_625, true_and, le_t, lt_t, and_true, ↓reduceIte, if_neg hni]
    | succ m ih =>
      intro n i G o hm hn hi hg
      obtain ⟨n, rfl⟩ : ∃ k, n = k + 1 := ⟨n - 1, by omega⟩
      have h0 := o.1.1
      have hM := o.2.1.1.1
      have hE := o.2.1.2.2.2.1
      have hE1 := hE.1
      have hii : i < G 625 1 := by omega
      have hz := hE.2 i hi hii
      have f1 := vM_isChild (g := G) (p := G 625 (19 + i)) (a := p) (st := 1) o.1 (by omega)
      show ∃ H, bM_writeZombies_2 624 p (lM_writeZombies_2 624 p n) i G = some (0, H) ∧ _
      rw [bM_writeZombies_2]
      simp (disch := omega) only [h0, kd_625, sz_625, true_and, le_t, lt_t, and_true, ↓reduceIte, w32_r, f1, bdP_s]
      cases hc : ic (G 625) (G 625 (19 + i)) p 1 with
      | false =>
        simp only [Bool.false_eq_true, if_false, if_true]
        obtain ⟨H, e, w⟩ := ih n (i + 1) G o (by omega) (by omega) (by omega) (by omega)
        exact ⟨H, e, WR_l w (by omega)⟩
      | true =>
        have hst : G 625 (140 + G 625 (19 + i)) = 1 := by
          have := of_decide_eq_true hc
          exact this.1
        have hcd := o.2.1.2.2.2.2.2.2.2.1 _ hz.1 hz.2 hst
        rw [if_pos rfl, if_neg f0]
        obtain ⟨H1, e1, w1⟩ := vM_writeBetween (c := 44) o (by omega)
        have b1 := w1.2.2.2.2.2
        obtain ⟨H2, e2, w2⟩ := vM_writeNumber (x := G 625 (19 + i)) w1.1 (by omega) (by omega)
        have b2 := w2.2.2.2.2.2
        obtain ⟨H3, e3, w3⟩ := vM_write (c := 58) w2.1 (by omega)
        have b3 := w3.2.2.2.2.2
        have h03 := w3.1.1.1
        have e25 : H3 625 = G 625 := w3.2.2.2.1.trans (w2.2.2.2.1.trans w1.2.2.2.1)
        obtain ⟨H4, e4, w4⟩ := vM_writeNumber (x := H3 625 (300 + G 625 (19 + i))) w3.1 (by omega) (by rw [e25]; exact hcd)
        have b4 := w4.2.2.2.2.2
        have e25' : H4 625 = G 625 := w4.2.2.2.1.trans e25
        obtain ⟨L, e5, w5⟩ := ih n (i + 1) H4 w4.1 (by rw [e25']; omega) (by omega) (by omega) (by omega)
        rw [e1, bdN_s, e2, bdN_s, e3, bdN_s]
        simp (disch := omega) only [h03, kd_625, sz_625, true_and, le_t, lt_t, and_true, ↓reduceIte]
        rw [e4, bdN_s, e5]
        exact ⟨L, rfl, WR_l (WR_t (WR_t (WR_t (WR_t w1 w2) w3) w4) w5) (by omega)⟩
  have hf := fu_ge
  obtain ⟨H, e, w⟩ := key (G 625 1 - 0).toNat fu 0 G o rfl (by omega) (by omega) (by omega)
  exact ⟨H, e, WR_l w (by omega)⟩
end MODEL22
/-! ===== the reference's output: the tree, print (own work) ===== -/
theorem cn_add {P Q R : Int → Bool} : ∀ (m : Nat) (k : Int), (∀ j, k ≤ j → j < k + m → P j = true → R j = true ∧ Q j = false) → (∀ j, k ≤ j → j < k + m → Q j = true → R j = true) → cn P m k + cn Q m k ≤ cn R m k := by
  intro m
  induction m with
  | zero => intro k _ _; exact Int.le_refl _
  | succ m ih =>
    intro k h1 h2
    rw [cn_s, cn_s, cn_s]
    have := ih (k + 1) (fun j j1 j2 => h1 j (by omega) (by omega)) (fun j j1 j2 => h2 j (by omega) (by omega))
    have a1 := h1 k (by omega) (by omega)
    have a2 := h2 k (by omega) (by omega)
    cases hp : P k with
    | true =>
      obtain ⟨b1, b2⟩ := a1 hp
      rw [b1, b2]
      simp only [Bool.false_eq_true, if_false, if_true]
      omega
    | false =>
      cases hq : Q k with
      | true => rw [a2 hq]; simp only [Bool.false_eq_true, if_false, if_true]; omega
      | false => simp only [Bool.false_eq_true, if_false]; split <;> omega
/-- the child of p on i's way to the root -/
def chd (f : Int → Int) : Nat → Int → Int → Int
  | 0, _, i => i
  | n + 1, p, i => if f i = p then i else chd f n p (f i)
def Bl (f : Int → Int) (p i : Int) : Bool := decide (i = p) || OV f p i
def Ql (f : Int → Int) (p k i : Int) : Bool := OV f p i && decide (chd f 40 p i < k)
section TREEB
variable {f : Int → Int} {p c i k m : Int}
theorem chd_c (hc : en f 40 c = true) (hc0 : c ≠ 0) (hf : f c = p) (hp : en f 40 p = true) : ∀ (n : Nat) (i : Int), en f n i = true → en f 40 i = true → Bl f c i = true → chd f n p i = c := by
  have hpc : OV f p c = true := by rw [OV_s hc hc0, if_pos hf]
  intro n
  induction n with
  | zero =>
    intro i hi hi4 hb
    have e : i = 0 := by simpa [en] using hi
    subst e
    have hb : (decide ((0 : Int) = c) || OV f c 0) = true := hb
    rw [OV_0, Bool.or_false] at hb
    exact absurd (of_decide_eq_true hb).symm hc0
  | succ n ih =>
    intro i hi hi4 hb
    have hb : (decide (i = c) || OV f c i) = true := hb
    rw [chd]
    by_cases e : i = c
    · subst e; rw [if_pos hf]
    · rw [decide_eq_false e, Bool.false_or] at hb
      have hi0 : i ≠ 0 := fun z => by rw [z, OV_0] at hb; cases hb
      have hup : en f n (f i) = true := by
        rcases en_s.mp hi with z | ⟨-, -, z⟩
        · exact absurd z hi0
        · exact z
      have hup4 := en_40 hup
      rw [OV_s hi4 hi0] at hb
      have hb' : Bl f c (f i) = true := by
        show (decide (f i = c) || OV f c (f i)) = true
        by_cases e2 : f i = c
        · rw [decide_eq_true e2, Bool.true_or]
        · rw [if_neg e2] at hb; rw [hb, Bool.or_true]
      have hne : ¬ f i = p := by
        intro e3
        rw [e3] at hb'
        have hb' : (decide (p = c) || OV f c p) = true := hb'
        by_cases e4 : p = c
        · rw [e4, OV_ir hc] at hpc; cases hpc
        · rw [decide_eq_false e4, Bool.false_or] at hb'
          have := OV_tr (p := c) (q := p) hc hp hpc hb'
          rw [OV_ir hc] at this; cases this
      rw [if_neg hne]
      exact ih _ hup hup4 hb'
/-- what stands below a child stands below p, and by that child -/
theorem Bl_Ql (hA : Acy f m) (hc : 0 < c ∧ c < m) (hf : f c = p) (hp : 0 ≤ p ∧ p < m) (hi : 0 ≤ i ∧ i < m) (hb : Bl f c i = true) : Ql f p (c + 1) i = true ∧ Ql f p c i = false := by
  have hce := hA c (by omega) hc.2
  have hpe := hA p hp.1 hp.2
  have hie := hA i hi.1 hi.2
  have hch := chd_c hce (by omega) hf hpe 40 i hie hie hb
  have hpc : OV f p c = true := by rw [OV_s hce (by omega), if_pos hf]
  have ho : OV f p i = true := by
    have hb : (decide (i = c) || OV f c i) = true := hb
    by_cases e : i = c
    · rw [e]; exact hpc
    · rw [decide_eq_false e, Bool.false_or] at hb
      exact OV_tr (p := p) (q := c) hie hce hb hpc
  constructor
  · show (OV f p i && decide (chd f 40 p i < c + 1)) = true
    rw [ho, hch, decide_eq_true (by omega)]; rfl
  · show (OV f p i && decide (chd f 40 p i < c)) = false
    rw [ho, hch, decide_eq_false (by omega)]; rfl
theorem Ql_mono {j : Int} (hkj : k ≤ j) (h : Ql f p k i = true) : Ql f p j i = true := by
  have h : (OV f p i && decide (chd f 40 p i < k)) = true := h
  show (OV f p i && decide (chd f 40 p i < j)) = true
  rw [Bool.and_eq_true] at h ⊢
  exact ⟨h.1, decide_eq_true (by have := of_decide_eq_true h.2; omega)⟩
theorem Nl_c (hA : Acy f m) (hm : m ≤ 40) (hc : 0 < c ∧ c < m) (hf : f c = p) (hp : 0 ≤ p ∧ p < m) {j : Int} (hcj : c < j) : cn (Ql f p c) m.toNat 0 + cn (Bl f c) m.toNat 0 ≤ cn (Ql f p j) m.toNat 0 := by
  have h1 := cn_add (P := Bl f c) (Q := Ql f p c) (R := Ql f p j) m.toNat 0 (fun i i0 i1 hb => by
    obtain ⟨a, b⟩ := Bl_Ql hA hc hf hp (i := i) (by omega) hb
    exact ⟨Ql_mono (by omega) a, b⟩) (fun i i0 i1 hq => Ql_mono (by omega) hq)
  omega
theorem Nl_p (hA : Acy f m) (hp : 0 ≤ p ∧ p < m) : cn (Ql f p k) m.toNat 0 + 1 ≤ cn (Bl f p) m.toNat 0 := by
  refine cn_lt (p := p) (fun j h => ?_) ?_ ?_ m.toNat 0 (by omega) (by omega)
  · have h : (OV f p j && decide (chd f 40 p j < k)) = true := h
    rw [Bool.and_eq_true] at h
    show (decide (j = p) || OV f p j) = true
    rw [h.1, Bool.or_true]
  · show (OV f p p && _) = false
    rw [OV_ir (hA p hp.1 hp.2), Bool.false_and]
  · show (decide (p = p) || _) = true
    rw [decide_eq_true rfl, Bool.true_or]
end TREEB
section MODEL23
variable {g G H K : gH} {p code t c a b k q gp d x y z w v n l : Int}
theorem vM_writeTree {r : Int → Int} (hW : WB r) : ∀ (n : Nat) (p : Int) (G : gH), MInv G → G 625 = r → (0 ≤ p ∧ p < r 0) → cn (Bl (up r) p) (r 0).toNat 0 ≤ n → G 624 23 + 6 * cn (Bl (up r) p) (r 0).toNat 0 ≤ 400 → ∃ H, fM_writeTree n G 624 p = some (0, H) ∧ WR G H (6 * cn (Bl (up r) p) (r 0).toNat 0 - 1) := by
  have hA := hW.2.2.1
  have hM := hW.1
  intro n
  induction n with
  | zero =>
    intro p G o e hp hn hg
    have := Nl_p (k := 0) hA hp
    have := (cn_bd (Ql (up r) p 0) (r 0).toNat 0).1
    omega
  | succ n ih =>
    intro p G o e hp hn hg
    generalize hN : cn (Bl (up r) p) (r 0).toNat 0 = N at *
    have hq : ∀ k, 0 ≤ cn (Ql (up r) p k) (r 0).toNat 0 ∧ cn (Ql (up r) p k) (r 0).toNat 0 + 1 ≤ N := fun k => ⟨(cn_bd _ _ _).1, by rw [← hN]; exact Nl_p hA hp⟩
    have loop : ∀ (m n' : Nat) (i c0 : Int) (G : gH), MInv G → G 625 = r → (i = -1 ∨ ((0 ≤ i ∧ i < r 0) ∧ ic r i p 0 = true ∧ 40 - i ≤ m)) → m < n' → G 624 23 + (if i = -1 then 0 else 6 * (N - 1 - cn (Ql (up r) p i) (r 0).toNat 0)) + 1 ≤ 400 → ∃ H, lM_writeTree_26 (fM_writeTree n) 624 p c0 n' i G = some (0, H) ∧ WR G H ((if i = -1 then 0 else 6 * (N - 1 - cn (Ql (up r) p i) (r 0).toNat 0)) + 1) := by
      intro m
      induction m with
      | zero =>
        intro n' i c0 G o e hi hn' hg
        obtain ⟨n', rfl⟩ : ∃ k, n' = k + 1 := ⟨n' - 1, by omega⟩
        have hi' : i = -1 := by omega
        rw [if_pos hi'] at hg ⊢
        obtain ⟨H, e1, w1⟩ := vM_write (c := 41) o (by omega)
        refine ⟨H, ?_, WR_l w1 (by omega)⟩
        show bM_writeTree_26 (fM_writeTree n) 624 p c0 (lM_writeTree_26 (fM_writeTree n) 624 p c0 n') i G = _
        rw [bM_writeTree_26, if_pos hi', e1, bdN_s]
      | succ m ihm =>
        intro n' i c0 G o e hi hn' hg
        obtain ⟨n', rfl⟩ : ∃ k, n' = k + 1 := ⟨n' - 1, by omega⟩
        by_cases hi1 : i = -1
        · rw [if_pos hi1] at hg ⊢
          obtain ⟨H, e1, w1⟩ := vM_write (c := 41) o (by omega)
          refine ⟨H, ?_, WR_l w1 (by omega)⟩
          show bM_writeTree_26 (fM_writeTree n) 624 p c0 (lM_writeTree_26 (fM_writeTree n) 624 p c0 n') i G = _
          rw [bM_writeTree_26, if_pos hi1, e1, bdN_s]
        · rw [if_neg hi1] at hg ⊢
          obtain ⟨i0, ii, i2⟩ : (0 ≤ i ∧ i < r 0) ∧ ic r i p 0 = true ∧ 40 - i ≤ (m + 1 : Nat) := by rcases hi with h | h; exact absurd h hi1; exact h
          obtain ⟨-, j2, j3⟩ := of_decide_eq_true ii
          have hc : 0 < i ∧ i < r 0 := by omega
          have hup : up r i = p := j2
          have hcn := fun j hj => Nl_c hA hM.2 hc hup hp (j := j) hj
          have hcn1 := hcn (i + 1) (by omega)
          have hq1 := hq (i + 1)
          have hqi := hq i
          -- the rest: the child, then the next
          have rest : ∀ K, MInv K → K 625 = r → K 624 23 + 6 * (N - 1 - cn (Ql (up r) p i) (r 0).toNat 0) ≤ 400 → ∃ H, jM_writeTree_42 (fM_writeTree n) (lM_writeTree_26 (fM_writeTree n) 624 p c0 n') K 624 p c0 i = some (0, H) ∧ WR K H (6 * (N - 1 - cn (Ql (up r) p i) (r 0).toNat 0)) := by
            intro K oK eK hK
            obtain ⟨K1, f1, w1⟩ := ih i K oK eK ⟨by omega, hc.2⟩ (by omega) (by omega)
            have b1 := w1.2.2.2.2.2
            have eK1 : K1 625 = r := w1.2.2.2.1.trans eK
            obtain ⟨c, f2, hc2⟩ := vM_nextChild (G := K1) (a := p) (k := i + 1) w1.1.1 (by rw [eK1]; exact hM) (by omega)
            rw [eK1] at hc2
            have hrem : (if c = -1 then 0 else 6 * (N - 1 - cn (Ql (up r) p c) (r 0).toNat 0)) + 6 * cn (Bl (up r) i) (r 0).toNat 0 ≤ 6 * (N - 1 - cn (Ql (up r) p i) (r 0).toNat 0) := by
              by_cases z : c = -1
              · rw [if_pos z]; omega
              · rw [if_neg z]
                rcases hc2 with ⟨z1, -⟩ | ⟨z1, -⟩
                · exact absurd z1 z
                · have := hcn c (by omega)
                  omega
            obtain ⟨L, f3, w2⟩ := ihm n' c c0 K1 w1.1 eK1 (by
              rcases hc2 with ⟨z1, -⟩ | ⟨z1, z2, -⟩
              · exact Or.inl z1
              · exact Or.inr ⟨by omega, z2, by omega⟩) (by omega) (by omega)
            refine ⟨L, ?_, WR_l (WR_t w1 w2) (by omega)⟩
            rw [jM_writeTree_42, f1, bdN_s, w32_r (by omega), f2, bdP_s, f3]
          show ∃ H, bM_writeTree_26 (fM_writeTree n) 624 p c0 (lM_writeTree_26 (fM_writeTree n) 624 p c0 n') i G = some (0, H) ∧ _
          rw [bM_writeTree_26, if_neg hi1]
          by_cases hc0 : i = c0
          · rw [if_pos hc0]
            obtain ⟨H, f1, w1⟩ := rest G o e (by omega)
            exact ⟨H, f1, WR_l w1 (by omega)⟩
          · rw [if_neg hc0]
            obtain ⟨K, f1, w1⟩ := vM_write (c := 32) o (by omega)
            have b1 := w1.2.2.2.2.2
            obtain ⟨H, f2, w2⟩ := rest K w1.1 (w1.2.2.2.1.trans e) (by omega)
            rw [f1, bdN_s, f2]
            exact ⟨H, rfl, WR_l (WR_t w1 w2) (by omega)⟩
    have hq0 := hq 0
    show ∃ H, fbM_writeTree (fM_writeTree n) G 624 p = some (0, H) ∧ _
    obtain ⟨G1, f1, w1⟩ := vM_writeNumber (x := p) o (by omega) (by omega)
    have b1 := w1.2.2.2.2.2
    have e1 : G1 625 = r := w1.2.2.2.1.trans e
    obtain ⟨c, f2, hc2⟩ := vM_nextChild (G := G1) (a := p) (k := 0) w1.1.1 (by rw [e1]; exact hM) (by omega)
    rw [e1] at hc2
    rw [fbM_writeTree, f1, bdN_s, f2, bdP_s]
    by_cases hc1 : c = -1
    · rw [if_pos hc1]
      exact ⟨G1, rfl, WR_l w1 (by omega)⟩
    · rw [if_neg hc1]
      rcases hc2 with ⟨z, -⟩ | ⟨z1, z2, -⟩
      · exact absurd z hc1
      · obtain ⟨G2, f3, w2⟩ := vM_write (c := 40) w1.1 (by omega)
        have b2 := w2.2.2.2.2.2
        have hqc := hq c
        have hf := fu_ge
        obtain ⟨H, f4, w3⟩ := loop 40 fu c c G2 w2.1 (w2.2.2.2.1.trans e1) (Or.inr ⟨z1, z2, by omega⟩) (by omega) (by rw [if_neg hc1]; omega)
        rw [if_neg hc1] at w3
        rw [f3, bdN_s, f4]
        exact ⟨H, rfl, WR_l (WR_t (WR_t w1 w2) w3) (by omega)⟩
end MODEL23
