/-! ===== the reference's questions (own work) ===== -/
section MODEL18
variable {g G : gH} {p code t c a b k q gp d : Int}
theorem po_ite {c : Prop} [Decidable c] {A B : Option (Int × gH)} (h1 : c → PO g A) (h2 : ¬ c → PO g B) : PO g (if c then A else B) := by
  split
  · next h => exact h1 h
  · next h => exact h2 h
theorem po_t {c : Prop} [Decidable c] {A B : Option (Int × gH)} (h : c) (h1 : PO g A) : PO g (if c then A else B) := by
  rw [if_pos h]; exact h1
theorem o0 (hi : MInv g) : OKg g (th g 0) := OK_th (OK_r hi)
theorem oM_errorCode (hi : MInv g) : PO g (fM_errorCode g 624) := PO_i rfl (o0 hi)
theorem oM_errorOffset (hi : MInv g) : PO g (fM_errorOffset g 624) := PO_i rfl (o0 hi)
theorem oM_count (hi : MInv g) : PO g (fM_count g 624 a) := by
  have e : pU g 624 8 0 = th g 0 := rfl
  rw [fM_count, bnd_s, e, vM_inRange, bdP_s]
  have o1 := o0 hi
  have h01 := o1.1.1.1
  by_cases h : 0 ≤ a ∧ a ≤ 10
  · simp only [if_pos h, f0, if_false, jM_count_21, kd_c624, if_true, vM_fails (Or.inl rfl), bdN_s]
    have qs : ∀ x, ∃ v, fM_inState (th g 0) 624 x = some v := fun x => q_inState o1
    obtain ⟨vd, ed⟩ := q_dutiesOf o1 (p := 0)
    have ed : fM_dutiesOf (th g 0) 624 0 = some vd := ed
    obtain ⟨vb, eb⟩ : ∃ v, fJ_bitCount (th g 0) vd = some v := ⟨_, rfl⟩
    have hw : w32 (w32 (1 + a) - 4) = a - 3 := by rw [w32_r (x := 1 + a) (by omega), w32_r (by omega)]; omega
    rw [hw]
    obtain ⟨v1, e1⟩ := qs (w32 (a - 1))
    refine po_ite (fun _ => ?_) (fun c0 => po_ite (fun _ => ?_) (fun c1 => po_ite (fun _ => ?_) (fun c2 => po_ite (fun _ => ?_) (fun c3 => ?_))))
    · simp (disch := omega) only [h01, kd_625, sz_625, true_and, le_t, lt_t, and_true, ↓reduceIte]; exact PO_i rfl o1
    · rw [e1, bdP_s]; exact PO_i rfl o1
    · rw [e1, bdP_s]; exact PO_i rfl o1
    · rw [e1, bdP_s]; exact PO_i rfl o1
    · refine po_ite (fun _ => ?_) (fun c4 => po_ite (fun _ => ?_) (fun c5 => po_ite (fun _ => ?_) (fun c6 => po_ite (fun _ => ?_) (fun c7 => po_ite (fun _ => ?_) (fun c8 => po_ite (fun _ => PO_i rfl o1) (fun c9 => po_ite (fun _ => ?_) (fun c10 => absurd h (by omega))))))))
      · simp (disch := omega) only [h01, kd_625, sz_625, true_and, le_t, lt_t, and_true, ↓reduceIte]; exact PO_i rfl o1
      · simp (disch := omega) only [h01, kd_625, sz_625, true_and, le_t, lt_t, and_true, ↓reduceIte]; exact PO_i rfl o1
      · simp (disch := omega) only [h01, kd_625, sz_625, true_and, le_t, lt_t, and_true, ↓reduceIte]; exact PO_i rfl o1
      · simp (disch := omega) only [h01, kd_625, sz_625, true_and, le_t, lt_t, and_true, ↓reduceIte]; exact PO_i rfl o1
      · rw [ed, bdP_s, eb, bdP_s]; exact PO_i rfl o1
      · simp (disch := omega) only [h01, kd_625, sz_625, true_and, le_t, lt_t, and_true, ↓reduceIte]; exact PO_i rfl o1
  · simp only [if_neg h, if_true, jM_count_21, kd_c624, vM_fails (Or.inr rfl), bdN_s, f0, if_false]
    exact PO_i rfl (OK_th o1)
/-- one test ahead: is there such a process -/
theorem po_np {A : gH → Option (Int × gH)} {x : Int} (hi : MInv g) (h : (0 ≤ p ∧ p < g 625 0) → PO g (A (th g 0))) : PO g (bdN (fM_noProcess g 624 p) (fun y g3 => if y = 0 then A g3 else some (x, g3))) := by
  rw [vM_noProcess hi, bdN_s]
  by_cases hp : 0 ≤ p ∧ p < g 625 0
  · rw [if_pos hp, if_pos hp, if_pos rfl]; exact h hp
  · rw [if_neg hp, if_neg hp, if_neg f0]; exact PO_i rfl (OK_th (OK_r hi))
theorem po_np2 {A : gH → Option (Int × gH)} {x : Int} (hi : MInv g) (h : (0 ≤ p ∧ p < g 625 0) → PO g (A (th g 0))) : PO g (bdN (fM_noProcess (th g 0) 624 p) (fun y g3 => if y = 0 then A g3 else some (x, g3))) := by
  rw [vM_noProcess2 hi, bdN_s]
  by_cases hp : 0 ≤ p ∧ p < g 625 0
  · rw [if_pos hp, if_pos hp, if_pos rfl]; exact h hp
  · rw [if_neg hp, if_neg hp, if_neg f0]; exact PO_i rfl (OK_th (OK_r hi))
theorem po_ne {A : gH → Option (Int × gH)} {x : Int} (hi : MInv g) (h : (0 < p ∧ p < g 625 0) → g 625 (140 + p) = 0 → PO g (A (th g 0))) : PO g (bdN (fM_notExiting g 624 p c) (fun y g3 => if y = 0 then A g3 else some (x, g3))) := by
  rcases vM_notExiting (p := p) (c := c) hi with ⟨-, e⟩ | ⟨-, -, e⟩ | ⟨h1, h2, e⟩
  · rw [e, bdN_s]; exact PO_1 (OK_th (OK_r hi))
  · rw [e, bdN_s]; exact PO_1 (OK_th (OK_r hi))
  · rw [e, bdN_s]
    exact PO_0 (h h1 h2)
theorem po_nx {A : gH → Option (Int × gH)} {x : Int} (hi : MInv g) (h : (0 < p ∧ p < g 625 0) → (0 ≤ code ∧ code ≤ 255) → g 625 (140 + p) = 0 → PO g (A (th g 0))) : PO g (bdN (fM_noExit g 624 p code) (fun y g3 => if y = 0 then A g3 else some (x, g3))) := by
  rcases vM_noExit (p := p) (code := code) hi with ⟨-, e⟩ | ⟨-, -, e⟩ | ⟨-, -, -, e⟩ | ⟨h1, h2, h3, e⟩
  · rw [e, bdN_s]; exact PO_1 (OK_th (OK_r hi))
  · rw [e, bdN_s]; exact PO_1 (OK_th (OK_r hi))
  · rw [e, bdN_s]; exact PO_1 (OK_th (OK_r hi))
  · rw [e, bdN_s]
    exact PO_0 (h h1 h2 h3)
theorem th00 : th (th g 0) 0 = th g 0 := th_th
theorem po_nx2 {A : gH → Option (Int × gH)} {x : Int} (hi : MInv g) (h : (0 < p ∧ p < g 625 0) → (0 ≤ code ∧ code ≤ 255) → g 625 (140 + p) = 0 → PO g (A (th g 0))) : PO g (bdN (fM_noExit (th g 0) 624 p code) (fun y g3 => if y = 0 then A g3 else some (x, g3))) := by
  have o1 := o0 hi
  rcases vM_noExit (g := th g 0) (p := p) (code := code) o1.1 with ⟨-, e⟩ | ⟨-, -, e⟩ | ⟨-, -, -, e⟩ | ⟨h1, h2, h3, e⟩
  · rw [e, bdN_s]; exact PO_1 (OK_th o1)
  · rw [e, bdN_s]; exact PO_1 (OK_th o1)
  · rw [e, bdN_s]; exact PO_1 (OK_th o1)
  · rw [e, bdN_s, th00]
    rw [th_n (by omega)] at h1 h3
    exact PO_0 (h h1 h2 h3)
theorem vM_isGone (hs : MS G) (hp : 0 ≤ p ∧ p < 40) : fM_isGone G 624 p = some (if G 625 (140 + p) = 2 then 1 else 0) := by
  have h0 := hs.1
  simp (disch := omega) only [fM_isGone, h0, kd_625, sz_625, w32_r, true_and, le_t, lt_t, and_true, ↓reduceIte]
  split <;> rfl
theorem oM_process (hi : MInv g) : PO g (fM_process g 624 p a) := by
  refine po_np hi (fun hp => ?_)
  have o1 := o0 hi
  have h01 := o1.1.1.1
  have w := o1.1.2.1.1
  have hM := w.1
  have e625 : (th g 0) 625 = g 625 := th_n (by omega)
  have hp' : 0 ≤ p ∧ p < (th g 0) 625 0 := by rw [e625]; exact hp
  rw [vM_inRange, bdP_s]
  by_cases h : 0 ≤ a ∧ a ≤ 14
  · simp only [if_pos h, f0, if_false, jM_process_24, kd_c624, if_true, vM_fails (Or.inl rfl), bdN_s]
    have qr := vM_roomOf (g := th g 0) (p := p) o1.1.1 w hp'
    have qc := fun st => vM_childrenOf (g := th g 0) (a := p) (st := st) o1.1.1 hM
    obtain ⟨vd, ed⟩ := q_dutiesOf o1 (p := p)
    have ed : fM_dutiesOf (th g 0) 624 p = some vd := ed
    obtain ⟨vw, ew⟩ := q_willsOf o1 (p := p) hp'
    have ew : fM_willsOf (th g 0) 624 p = some vw := ew
    repeat' (first
      | exact PO_i rfl o1
      | (rw [qr, bdP_s]; exact PO_i rfl o1)
      | (rw [qc, bdP_s]; exact PO_i rfl o1)
      | (rw [ed, bdP_s]; exact PO_i rfl o1)
      | (rw [ew, bdP_s]; exact PO_i rfl o1)
      | refine po_t (by (simp (disch := omega) only [h01, kd_625, sz_625, w32_r, true_and, le_t, lt_t, and_true])) ?_
      | refine po_ite (fun _ => ?_) (fun _ => ?_))
    all_goals omega
  · simp only [if_neg h, if_true, jM_process_24, kd_c624, vM_fails (Or.inr rfl), bdN_s, f0, if_false]
    exact PO_i rfl (OK_th o1)
theorem oM_holder (hi : MInv g) : PO g (fM_holder g 624 a) := by
  have e : pU g 624 8 0 = th g 0 := rfl
  have o1 := o0 hi
  have h01 := o1.1.1.1
  rw [fM_holder, bnd_s, e]
  rcases vM_noDuty (g := th g 0) (a := a) (c := 1) with ⟨-, e1⟩ | ⟨h1, e1⟩
  · rw [e1, bdN_s]; exact PO_1 (OK_th o1)
  · rw [e1, bdN_s]
    refine PO_0 ?_
    simp (disch := omega) only [h01, kd_625, sz_625, w32_r, true_and, le_t, lt_t, and_true, ↓reduceIte]
    exact PO_i rfl o1
theorem oM_rule (hi : MInv g) : PO g (fM_rule g 624 a) := by
  have e : pU g 624 8 0 = th g 0 := rfl
  have o1 := o0 hi
  have h01 := o1.1.1.1
  have hR := o1.1.2.1.1.2.2.2.1
  rw [fM_rule, bnd_s, e]
  simp (disch := omega) only [h01, kd_625, sz_625, w32_r, true_and, le_t, lt_t, and_true, ↓reduceIte, vM_inRange, bdP_s]
  by_cases h : 0 ≤ a ∧ a ≤ (th g 0) 625 5 - 1
  · simp (disch := omega) only [if_pos h, f0, if_false, w32_r, le_t, lt_t, and_true, ↓reduceIte]
    exact PO_i rfl o1
  · simp only [if_neg h, if_true]
    exact PO_i rfl o1
theorem oM_depth (hi : MInv g) : PO g (fM_depth g 624 p) := by
  refine po_np hi (fun hp => ?_)
  have o1 := o0 hi
  have hM := hi.2.1.1.1
  have e625 : (th g 0) 625 = g 625 := th_n (by omega)
  rw [vM_isGone o1.1.1 (by omega), bdP_s]
  have hd := vM_deep (g := th g 0) (x := p) o1.1.1 (o1.1.2.1.1.2.2.1 p hp.1 (by rw [e625]; exact hp.2))
  by_cases h : (th g 0) 625 (140 + p) = 2
  · simp only [if_pos h, vM_fails (Or.inr rfl), bdN_s, f0, if_false]
    exact PO_i rfl (OK_th o1)
  · simp only [if_neg h, vM_fails (Or.inl rfl), bdN_s, if_true, hd, bdP_s]
    exact PO_i rfl o1
theorem oM_isAbove (hi : MInv g) : PO g (fM_isAbove g 624 p q) := by
  refine po_np hi (fun hp => po_np2 hi (fun hq => ?_))
  have o1 := o0 hi
  have hM := hi.2.1.1.1
  have e625 : (th g 0) 625 = g 625 := th_n (by omega)
  have hov := vM_isOver (g := th g 0) (p := p) (x := q) o1.1.1 (o1.1.2.1.1.2.2.1 q hq.1 (by rw [e625]; exact hq.2))
  simp only [vM_isGone o1.1.1 (show 0 ≤ p ∧ p < 40 by omega), vM_isGone o1.1.1 (show 0 ≤ q ∧ q < 40 by omega), bdP_s, hov]
  repeat' (first | exact PO_i rfl o1 | refine po_ite (fun _ => ?_) (fun _ => ?_))
/-- where two ways meet: one is found -/
theorem q_meets (h : OKg g G) (hp : 0 ≤ p ∧ p < G 625 0) (hq : 0 ≤ q ∧ q < G 625 0) (h0q : q ≠ 0 ∨ True) : ∃ v, fM_meets G 624 p q = some v ∧ 0 ≤ v ∧ v < G 625 0 := by
  have hs := h.1.1
  have h0 := hs.1
  have w := h.1.2.1.1
  have hM := w.1
  have hA := w.2.2.1
  have key : ∀ (m n : Nat) (i : Int), en (up (G 625)) m i = true → i < G 625 0 → m < n → ∃ v, lM_meets_2 G 624 q n i = some v ∧ 0 ≤ v ∧ v < G 625 0 := by
    intro m
    induction m with
    | zero =>
      intro n i hi hiM hn
      obtain ⟨n, rfl⟩ : ∃ k, n = k + 1 := ⟨n - 1, by omega⟩
      have hi : i = 0 := by simpa [en] using hi
      have step : lM_meets_2 G 624 q (n + 1) i = bM_meets_2 G 624 q (lM_meets_2 G 624 q n) i := rfl
      have hov := vM_isOver (g := G) (p := i) (x := q) hs (hA q hq.1 hq.2)
      rw [step, bM_meets_2, hov, bdP_s]
      by_cases e : i = q
      · rw [if_pos e]; exact ⟨i, rfl, by omega, by omega⟩
      · rw [if_neg e]
        have hroot : ∀ (m : Nat) (j : Int), en (up (G 625)) m j = true → j ≠ 0 → OV (up (G 625)) 0 j = true := by
          intro m
          induction m with
          | zero => intro j hj hj0; exact absurd (by simpa [en] using hj) hj0
          | succ m ih =>
            intro j hj hj0
            rw [OV_s (en_40 hj) hj0]
            by_cases e2 : up (G 625) j = 0
            · rw [if_pos e2]
            · rw [if_neg e2]
              rcases en_s.mp hj with e3 | ⟨-, -, e3⟩
              · exact absurd e3 hj0
              · exact ih _ e3 e2
        have : OV (up (G 625)) i q = true := by
          rw [hi]
          exact hroot 40 q (hA q hq.1 hq.2) (by omega)
        rw [this, if_pos rfl, if_neg f0]
        exact ⟨i, rfl, by omega, by omega⟩
    | succ m ih =>
      intro n i hi hiM hn
      obtain ⟨n, rfl⟩ : ∃ k, n = k + 1 := ⟨n - 1, by omega⟩
      have step : lM_meets_2 G 624 q (n + 1) i = bM_meets_2 G 624 q (lM_meets_2 G 624 q n) i := rfl
      have hov := vM_isOver (g := G) (p := i) (x := q) hs (hA q hq.1 hq.2)
      have hr := en_rg hi
      rw [step, bM_meets_2, hov, bdP_s]
      by_cases e : i = q
      · rw [if_pos e]; exact ⟨i, rfl, by omega, by omega⟩
      · rw [if_neg e]
        cases ho : OV (up (G 625)) i q with
        | true =>
          rw [if_pos rfl, if_neg f0]
          exact ⟨i, rfl, by omega, by omega⟩
        | false =>
          simp only [Bool.false_eq_true, if_false, if_true]
          by_cases hz : i = 0
          · subst hz
            exact ih (n + 1) 0 en_0 hiM (by omega) |> fun ⟨v, e1, e2⟩ => by
              have step2 : lM_meets_2 G 624 q (n + 1) 0 = bM_meets_2 G 624 q (lM_meets_2 G 624 q n) 0 := rfl
              rw [step2, bM_meets_2, hov, bdP_s, if_neg e, ho] at e1
              simp only [Bool.false_eq_true, if_false, if_true] at e1
              exact ⟨v, e1, e2⟩
          · have hcl := w.2.1 i (by omega) hiM
            simp (disch := omega) only [h0, kd_625, sz_625, w32_r, true_and, le_t, lt_t, and_true, ↓reduceIte]
            rcases en_s.mp hi with e3 | ⟨-, -, e3⟩
            · exact absurd e3 hz
            · exact ih n _ e3 hcl.2 (by omega)
  rw [fM_meets]
  exact key 40 fu p (hA p hp.1 hp.2) hp.2 (by have := fu_ge; omega)
theorem vM_anyGone (hi : MInv g) : (∃ t, fM_anyGone g 624 p q = some (1, th g t)) ∨ ((0 ≤ p ∧ p < g 625 0) ∧ (0 ≤ q ∧ q < g 625 0) ∧ fM_anyGone g 624 p q = some (0, th g 0)) := by
  have o1 := o0 hi
  have hM := hi.2.1.1.1
  rw [fM_anyGone, vM_noProcess hi, bdN_s]
  by_cases hp : 0 ≤ p ∧ p < g 625 0
  · simp only [if_pos hp, if_true, vM_noProcess2 hi, bdN_s]
    by_cases hq : 0 ≤ q ∧ q < g 625 0
    · simp only [if_pos hq, if_true, vM_isGone o1.1.1 (show 0 ≤ p ∧ p < 40 by omega), vM_isGone o1.1.1 (show 0 ≤ q ∧ q < 40 by omega), bdP_s, jM_anyGone_33, jM_anyGone_38, kd_c624, vM_fails (Or.inr rfl), vM_fails (Or.inl rfl), bdN_s, f0, if_false]
      by_cases c1 : (th g 0) 625 (140 + p) = 2
      · simp only [if_pos c1, f0, if_false]
        exact Or.inl ⟨2, by rw [show th (th g 0) 2 = th g 2 from th_th]⟩
      · simp only [if_neg c1, if_true]
        by_cases c2 : (th g 0) 625 (140 + q) = 2
        · simp only [if_pos c2, f0, if_false]
          exact Or.inl ⟨2, by rw [show th (th g 0) 2 = th g 2 from th_th]⟩
        · simp only [if_neg c2, if_true]
          exact Or.inr ⟨hp, hq, trivial⟩
    · left
      simp only [if_neg hq, f0, if_false]
      exact ⟨1, rfl⟩
  · left
    simp only [if_neg hp, f0, if_false]
    exact ⟨1, rfl⟩
theorem oM_meet (hi : MInv g) : PO g (fM_meet g 624 p q) := by
  have o1 := o0 hi
  have e625 : (th g 0) 625 = g 625 := th_n (by omega)
  rw [fM_meet]
  rcases vM_anyGone (p := p) (q := q) hi with ⟨t, e⟩ | ⟨hp, hq, e⟩
  · rw [e, bdN_s]; exact PO_1 (OK_th (OK_r hi))
  · obtain ⟨v, e1, -⟩ := q_meets o1 (p := p) (q := q) (by rw [e625]; exact hp) (by rw [e625]; exact hq) (Or.inr trivial)
    rw [e, bdN_s, e1, bdP_s]
    exact PO_0 (PO_i rfl o1)
theorem oM_apart (hi : MInv g) : PO g (fM_apart g 624 p q) := by
  have o1 := o0 hi
  have e625 : (th g 0) 625 = g 625 := th_n (by omega)
  rw [fM_apart]
  rcases vM_anyGone (p := p) (q := q) hi with ⟨t, e⟩ | ⟨hp, hq, e⟩
  · rw [e, bdN_s]; exact PO_1 (OK_th (OK_r hi))
  · obtain ⟨v, e1, e2, e3⟩ := q_meets o1 (p := p) (q := q) (by rw [e625]; exact hp) (by rw [e625]; exact hq) (Or.inr trivial)
    have hA := o1.1.2.1.1.2.2.1
    rw [e, bdN_s, vM_deep o1.1.1 (hA p hp.1 (by rw [e625]; exact hp.2)), bdP_s, vM_deep o1.1.1 (hA q hq.1 (by rw [e625]; exact hq.2)), bdP_s, e1, bdP_s, vM_deep o1.1.1 (hA v e2 e3), bdP_s]
    exact PO_0 (PO_i rfl o1)
end MODEL18
/-! ===== the reference's questions, more (own work) ===== -/
section MODEL19
variable {g G : gH} {p code t c a b k q gp d : Int}
theorem o8 (hi : MInv g) : pU g 624 8 0 = th g 0 := rfl
theorem ok_p (h : 0 ≤ p ∧ p < g 625 0) : 0 ≤ p ∧ p < (th g 0) 625 0 := by rw [th_n (by omega)]; exact h
theorem oM_adopter (hi : MInv g) : PO g (fM_adopter g 624 p) := by
  refine po_ne hi (fun hp _ => ?_)
  have o1 := o0 hi
  have w := o1.1.2.1.1
  have hM := hi.2.1.1.1
  have h0 := o1.1.1.1
  have hp' := ok_p (g := g) (p := p) ⟨by omega, hp.2⟩
  have hc := w.2.1 p hp.1 hp'.2
  simp (disch := omega) only [h0, kd_625, sz_625, w32_r, true_and, le_t, lt_t, and_true, ↓reduceIte]
  rw [(vM_adopterOf o1.1.1 w hp' hc).1, bdP_s]
  exact PO_i rfl o1
theorem oM_adopters (hi : MInv g) : PO g (fM_adopters g 624 p) := by
  refine po_ne hi (fun hp _ => ?_)
  obtain ⟨v, e⟩ := q_adopters (o0 hi) (ok_p (g := g) (p := p) ⟨by omega, hp.2⟩)
  exact PO_i e (o0 hi)
theorem oM_heirNow (hi : MInv g) : PO g (fM_heirNow g 624 p) := by
  refine po_ne hi (fun hp _ => ?_)
  have o1 := o0 hi
  rw [vM_inheritor o1.1.1 o1.1.2.1.1 (ok_p (g := g) (p := p) ⟨by omega, hp.2⟩), bdP_s]
  exact PO_i rfl o1
theorem oM_below (hi : MInv g) : PO g (fM_below g 624 p) := by
  refine po_np hi (fun hp => ?_)
  have hM := hi.2.1.1.1
  have o1 := o0 hi
  rw [vM_runs o1.1.1 (by omega), bdP_s]
  obtain ⟨v, e⟩ := q_belowOf o1 (p := p)
  have e : fM_belowOf (th g 0) 624 p = some v := e
  refine po_ite (fun _ => PO_i rfl o1) (fun _ => ?_)
  rw [e, bdP_s]; exact PO_i rfl o1
theorem oM_atDepth (hi : MInv g) : PO g (fM_atDepth g 624 d) := by
  obtain ⟨v, e⟩ := q_atDepth (o0 hi) (d := d)
  rw [fM_atDepth, bnd_s, o8 hi]; exact PO_i e (o0 hi)
theorem oM_height (hi : MInv g) : PO g (fM_height g 624) := by
  obtain ⟨v, e⟩ := q_highest (o0 hi)
  have e : fM_highest (th g 0) 624 = some v := e
  rw [fM_height, bnd_s, o8 hi, e, bdP_s]; exact PO_i rfl (o0 hi)
theorem oM_allRoom (hi : MInv g) : PO g (fM_allRoom g 624) := by
  obtain ⟨v, e⟩ := q_allRoom (o0 hi)
  rw [fM_allRoom, bnd_s, o8 hi]; exact PO_i e (o0 hi)
theorem oM_overfull (hi : MInv g) : PO g (fM_overfull g 624) := by
  obtain ⟨v, e⟩ := q_overfull (o0 hi)
  rw [fM_overfull, bnd_s, o8 hi]; exact PO_i e (o0 hi)
theorem oM_ofGroup (hi : MInv g) : PO g (fM_ofGroup g 624 gp) := by
  obtain ⟨v, e⟩ := q_ofGroup (o0 hi) (gp := gp)
  rw [fM_ofGroup, bnd_s, o8 hi, vM_isSmall, bdP_s]
  by_cases h : 0 ≤ gp ∧ gp ≤ 9
  · simp only [if_pos h, f0, if_false, jM_ofGroup_18, kd_c624, if_true, vM_fails (Or.inl rfl), bdN_s]
    exact PO_i e (o0 hi)
  · simp only [if_neg h, if_true, jM_ofGroup_18, kd_c624, vM_fails (Or.inr rfl), bdN_s, f0, if_false]
    exact PO_i rfl (OK_th (o0 hi))
theorem oM_nextTestament (hi : MInv g) : PO g (fM_nextTestament g 624 p) := by
  refine po_np hi (fun hp => ?_)
  have o1 := o0 hi
  rw [vM_firstZombie o1.1.1 o1.1.2.1.1.1.2 o1.1.2.1.2.2.2.1, bdP_s]
  exact PO_i rfl o1
theorem oM_testamentsBelow (hi : MInv g) : PO g (fM_testamentsBelow g 624 p) := by
  refine po_np hi (fun hp => ?_)
  have hM := hi.2.1.1.1
  have o1 := o0 hi
  rw [vM_runs o1.1.1 (by omega), bdP_s]
  obtain ⟨v, e⟩ := q_testBelow o1 (p := p)
  exact po_ite (fun _ => PO_i rfl o1) (fun _ => PO_i e o1)
theorem oM_roomBelow (hi : MInv g) : PO g (fM_roomBelow g 624 p) := by
  refine po_np hi (fun hp => ?_)
  have hM := hi.2.1.1.1
  have o1 := o0 hi
  rw [vM_runs o1.1.1 (by omega), bdP_s]
  obtain ⟨v, e⟩ := q_roomBelow o1 (p := p)
  exact po_ite (fun _ => PO_i rfl o1) (fun _ => PO_i e o1)
theorem oM_groupsBelow (hi : MInv g) : PO g (fM_groupsBelow g 624 p) := by
  refine po_np hi (fun hp => ?_)
  have hM := hi.2.1.1.1
  have o1 := o0 hi
  rw [vM_runs o1.1.1 (by omega), bdP_s]
  obtain ⟨v, e⟩ := q_groupsBelow o1 (p := p)
  exact po_ite (fun _ => PO_i rfl o1) (fun _ => PO_i e o1)
theorem oM_strangers (hi : MInv g) : PO g (fM_strangers g 624 p) := by
  refine po_np hi (fun hp => ?_)
  obtain ⟨v, e⟩ := q_strangers (o0 hi) (ok_p (g := g) (p := p) hp)
  exact PO_i e (o0 hi)
theorem oM_outputByte (hi : MInv g) : PO g (fM_outputByte g 624 a) := by
  have o1 := o0 hi
  have h0 : (th g 0) 624 22 = 634 := o1.1.1.2.2.2.2.2.2.2.2.1
  have hm := o1.1.2.2.2.2.2.2
  rw [fM_outputByte, bnd_s, o8 hi, vM_inRange, bdP_s]
  by_cases h : 0 ≤ a ∧ a ≤ w32 ((th g 0) 624 23 - 1)
  · have h' := h.2
    rw [w32_r (by omega)] at h'
    rw [if_pos h, if_neg f0]
    simp (disch := omega) only [h0, kd_634, sz_634, true_and, le_t, lt_t, and_true, ↓reduceIte]
    exact PO_i rfl o1
  · rw [if_neg h, if_pos rfl]; exact PO_i rfl o1
/-- loops whose sum is a process or −1 -/
theorem for_pr {L : Nat → Int → Int → Option (Int × gH)} (M : Int) (hM : 1 ≤ M ∧ M ≤ 40) (hstep : ∀ n k v, 1 ≤ k → k < M → (v = -1 ∨ (0 ≤ v ∧ v < M)) → L (n + 1) k v = L n (k + 1) v ∨ L (n + 1) k v = L n (k + 1) k) (hend : ∀ n k v, ¬ k < M → L (n + 1) k v = some (v, G)) : ∃ v, L fu 1 (-1) = some (v, G) := by
  have hf := fu_ge
  obtain ⟨v, e, -⟩ := for_some (L := L) (E := fun v => some (v, G)) M (fun k v => 1 ≤ k ∧ (v = -1 ∨ (0 ≤ v ∧ v < M))) (fun n k v hk hI => by
    rcases hstep n k v hI.1 hk hI.2 with e | e
    · exact ⟨v, e, by omega, hI.2⟩
    · exact ⟨k, e, by omega, Or.inr ⟨by omega, hk⟩⟩) (fun n k v hk _ => hend n k v hk) (M - 1).toNat 1 (-1) fu rfl (by omega) ⟨by omega, Or.inl rfl⟩
  exact ⟨v, e⟩
theorem or_ite {R : Type} {c : Prop} [Decidable c] {A B X Y : R} (h1 : c → A = X ∨ A = Y) (h2 : ¬ c → B = X ∨ B = Y) : (if c then A else B) = X ∨ (if c then A else B) = Y := by
  split
  · next h => exact h1 h
  · next h => exact h2 h
theorem q_roomiest (h : OKg g G) : ∃ v, lM_roomiest_31 G 624 gp fu (-1) 1 = some (v, G) := by
  have hs := h.1.1
  have h0 := hs.1
  have w := h.1.2.1.1
  have hM := w.1
  refine for_pr (L := fun n k v => lM_roomiest_31 G 624 gp n v k) (G 625 0) hM (fun n k v hl hk hv => ?_) (fun n k v hk => ?_)
  · have f1 := vM_roomOf (g := G) (p := k) hs w (by omega)
    have f2 := vM_refuses (g := G) (p := k) (a := gp) hs (by omega)
    show bM_roomiest_31 G 624 gp (lM_roomiest_31 G 624 gp n) v k = _ ∨ bM_roomiest_31 G 624 gp (lM_roomiest_31 G 624 gp n) v k = _
    rw [bM_roomiest_31]
    rcases hv with hv | hv
    · subst hv
      simp (disch := omega) only [f1, f2, bdP_s, h0, kd_625, sz_625, w32_r, true_and, le_t, lt_t, and_true, ↓reduceIte]
      repeat' (first | exact Or.inl rfl | exact Or.inr rfl | refine or_ite (fun _ => ?_) (fun _ => ?_))
    · have f3 := vM_roomOf (g := G) (p := v) hs w (by omega)
      simp (disch := omega) only [f1, f2, f3, bdP_s, h0, kd_625, sz_625, w32_r, true_and, le_t, lt_t, and_true, ↓reduceIte]
      rw [if_neg (by omega : ¬ v = -1)]
      repeat' (first | exact Or.inl rfl | exact Or.inr rfl | refine or_ite (fun _ => ?_) (fun _ => ?_))
  · show bM_roomiest_31 G 624 gp (lM_roomiest_31 G 624 gp n) v k = _
    rw [bM_roomiest_31]
    simp (disch := omega) only [h0, kd_625, sz_625, true_and, le_t, lt_t, and_true, ↓reduceIte, if_neg hk]
theorem oM_roomiest (hi : MInv g) : PO g (fM_roomiest g 624 gp) := by
  obtain ⟨v, e⟩ := q_roomiest (o0 hi) (gp := gp)
  rw [fM_roomiest, bnd_s, o8 hi, vM_isSmall, bdP_s]
  by_cases h : 0 ≤ gp ∧ gp ≤ 9
  · simp only [if_pos h, f0, if_false, jM_roomiest_18, kd_c624, if_true, vM_fails (Or.inl rfl), bdN_s]
    exact PO_i e (o0 hi)
  · simp only [if_neg h, if_true, jM_roomiest_18, kd_c624, vM_fails (Or.inr rfl), bdN_s, f0, if_false]
    exact PO_i rfl (OK_th (o0 hi))
theorem q_mostAdopted (h : OKg g G) : ∃ v, lM_mostAdopted_9 G 624 fu (-1) 1 = some (v, G) := by
  have hs := h.1.1
  have h0 := hs.1
  have w := h.1.2.1.1
  have hM := w.1
  refine for_pr (L := fun n k v => lM_mostAdopted_9 G 624 n v k) (G 625 0) hM (fun n k v hl hk hv => ?_) (fun n k v hk => ?_)
  · have f1 := vM_runs (g := G) (p := k) hs (by omega)
    show bM_mostAdopted_9 G 624 (lM_mostAdopted_9 G 624 n) v k = _ ∨ bM_mostAdopted_9 G 624 (lM_mostAdopted_9 G 624 n) v k = _
    rw [bM_mostAdopted_9]
    rcases hv with hv | hv
    · subst hv
      simp (disch := omega) only [f1, bdP_s, h0, kd_625, sz_625, w32_r, true_and, le_t, lt_t, and_true, ↓reduceIte, jM_mostAdopted_56]
      repeat' (first | exact Or.inl rfl | exact Or.inr rfl | refine or_ite (fun _ => ?_) (fun _ => ?_))
    · have hv1 : ¬ v = -1 := by omega
      simp (disch := omega) only [f1, bdP_s, h0, kd_625, sz_625, w32_r, true_and, le_t, lt_t, and_true, ↓reduceIte, jM_mostAdopted_56, hv1]
      repeat' (first | exact Or.inl rfl | exact Or.inr rfl | refine or_ite (fun _ => ?_) (fun _ => ?_))
  · show bM_mostAdopted_9 G 624 (lM_mostAdopted_9 G 624 n) v k = _
    rw [bM_mostAdopted_9]
    simp (disch := omega) only [h0, kd_625, sz_625, true_and, le_t, lt_t, and_true, ↓reduceIte, if_neg hk]
theorem oM_mostAdopted (hi : MInv g) : PO g (fM_mostAdopted g 624) := by
  obtain ⟨v, e⟩ := q_mostAdopted (o0 hi)
  rw [fM_mostAdopted, bnd_s, o8 hi]; exact PO_i e (o0 hi)
theorem q_heaviest (h : OKg g G) : ∃ v, lM_heaviest_14 G 624 p fu (-1) 1 = some (v, G) := by
  have hs := h.1.1
  have h0 := hs.1
  have w := h.1.2.1.1
  have hM := w.1
  refine for_pr (L := fun n k v => lM_heaviest_14 G 624 p n v k) (G 625 0) hM (fun n k v hl hk hv => ?_) (fun n k v hk => ?_)
  · have f1 := vM_isChild (g := G) (p := k) (a := p) (st := 0) hs (by omega)
    obtain ⟨x, f2⟩ := q_belowOf h (p := k)
    obtain ⟨y, f3⟩ := q_belowOf h (p := v)
    have f2 : fM_belowOf G 624 k = some x := f2
    have f3 : fM_belowOf G 624 v = some y := f3
    show bM_heaviest_14 G 624 p (lM_heaviest_14 G 624 p n) v k = _ ∨ bM_heaviest_14 G 624 p (lM_heaviest_14 G 624 p n) v k = _
    rw [bM_heaviest_14]
    simp (disch := omega) only [f1, f2, f3, bdP_s, h0, kd_625, sz_625, w32_r, true_and, le_t, lt_t, and_true, ↓reduceIte]
    repeat' (first | exact Or.inl rfl | exact Or.inr rfl | refine or_ite (fun _ => ?_) (fun _ => ?_))
  · show bM_heaviest_14 G 624 p (lM_heaviest_14 G 624 p n) v k = _
    rw [bM_heaviest_14]
    simp (disch := omega) only [h0, kd_625, sz_625, true_and, le_t, lt_t, and_true, ↓reduceIte, if_neg hk]
theorem oM_heaviest (hi : MInv g) : PO g (fM_heaviest g 624 p) := by
  refine po_np hi (fun hp => ?_)
  obtain ⟨v, e⟩ := q_heaviest (o0 hi) (p := p)
  exact PO_i e (o0 hi)
end MODEL19
/-! ===== the reference: what would be (own work) ===== -/
section MODEL20
variable {g G : gH} {p code t c a b k q gp d : Int}
theorem oM_exited (hi : MInv g) : PO g (fM_exited g 624 a) := by
  have o1 := o0 hi
  have h0 := o1.1.1.1
  have hE := o1.1.2.1.2.2.2.1
  rw [fM_exited, bnd_s, o8 hi]
  simp (disch := omega) only [h0, kd_625, sz_625, w32_r, true_and, le_t, lt_t, and_true, ↓reduceIte, vM_inRange, bdP_s]
  have hw : w32 ((th g 0) 625 1 - 1) = (th g 0) 625 1 - 1 := w32_r (by have := hE.1; omega)
  rw [hw]
  by_cases h : 0 ≤ a ∧ a ≤ (th g 0) 625 1 - 1
  · have := hE.1
    simp only [if_pos h, f0, if_false, jM_exited_27, kd_c624, if_true, vM_fails (Or.inl rfl), bdN_s]
    simp (disch := omega) only [h0, kd_625, sz_625, w32_r, true_and, le_t, lt_t, and_true, ↓reduceIte]
    exact PO_i rfl o1
  · simp only [if_neg h, if_true, jM_exited_27, kd_c624, vM_fails (Or.inr rfl), bdN_s, f0, if_false]
    exact PO_i rfl (OK_th o1)
/-- an exit tried: the row kept stands by -/
theorem bg_ex (h : OKg g G) (hp : 0 < p ∧ p < G 625 0) (hst : G 625 (140 + p) = 0) (hc : 0 ≤ code ∧ code ≤ 255) : fM_begins G 624 = some (0, bgG G) ∧ ∃ v X, fM_exits (bgG G) 624 p code = some (v, X) ∧ OKg g X ∧ fM_ends X 624 = some (0, cpG X 627 0 625 0 780) ∧ OKg g (cpG X 627 0 625 0 780) ∧ G 625 0 ≤ X 625 0 ∧ (∀ k, 0 ≤ k → k < 780 → cpG X 627 0 625 0 780 625 k = G 625 k) := by
  have b1 := OK_bg h
  have e25 : bgG G 625 = G 625 := bgG_n (by omega)
  obtain ⟨v, x1, x2, -, x4, -⟩ := ex_OK (code := code) b1 (p := p) (by rw [e25]; exact hp) (by rw [e25]; exact hst) hc
  have e27 : sw (exG (bgG G) p code) (exF (bgG G 625) (bgG G 630) p code) 627 = bgG G 627 := by rw [sw_n (by omega), exG_n (by omega)]
  refine ⟨vM_begins h.1.1, v, _, x1, x2, vM_ends x2.1.1, OK_en x2 (by rw [e27]; exact WBF_627 h), ?_, fun k k0 k1 => en_row e27 ⟨k0, k1⟩⟩
  rw [sw_s, ← e25]; exact x4
theorem nx_p (h : 0 < p ∧ p < g 625 0) : 0 < p ∧ p < (th g 0) 625 0 := by rw [th_n (by omega)]; exact h
theorem nx_s (h : g 625 (140 + p) = 0) : (th g 0) 625 (140 + p) = 0 := by rw [th_n (by omega)]; exact h
theorem oM_wouldStand (hi : MInv g) : PO g (fM_wouldStand g 624 p code) := by
  refine po_nx hi (fun h1 h2 h3 => ?_)
  obtain ⟨e1, v, X, e2, x1, e3, x2, -⟩ := bg_ex (o0 hi) (nx_p h1) (nx_s h3) h2
  rw [e1, bdN_s, e2, bdN_s]
  refine po_ite (fun _ => ?_) (fun _ => ?_)
  · rw [e3, bdN_s]; exact PO_i rfl x2
  · obtain ⟨y, e4⟩ := q_highest x1
    have e4 : fM_highest X 624 = some y := e4
    rw [e4, bdP_s, e3, bdN_s]; exact PO_i rfl x2
theorem oM_wouldHave (hi : MInv g) : PO g (fM_wouldHave g 624 q p code) := by
  refine po_np hi (fun hq => po_nx2 hi (fun h1 h2 h3 => ?_))
  obtain ⟨e1, v, X, e2, x1, e3, x2, x3, -⟩ := bg_ex (o0 hi) (nx_p h1) (nx_s h3) h2
  have h0 := x1.1.1.1
  have hM := hi.2.1.1.1
  rw [e1, bdN_s, e2, bdN_s]
  refine po_ite (fun _ => ?_) (fun _ => ?_)
  · rw [e3, bdN_s]; exact PO_i rfl x2
  · simp (disch := omega) only [h0, kd_625, sz_625, w32_r, true_and, le_t, lt_t, and_true, ↓reduceIte]
    rw [e3, bdN_s]; exact PO_i rfl x2
theorem oM_wouldHold (hi : MInv g) : PO g (fM_wouldHold g 624 a p code) := by
  refine po_np hi (fun hq => ?_)
  have o1 := o0 hi
  rcases vM_noDuty (g := th g 0) (a := a) (c := 2) with ⟨-, e1⟩ | ⟨ha, e1⟩
  · rw [e1, bdN_s]; exact PO_1 (OK_th o1)
  · rw [e1, bdN_s]
    refine PO_0 (po_nx2 hi (fun h1 h2 h3 => ?_))
    obtain ⟨e1, v, X, e2, x1, e3, x2, x3, -⟩ := bg_ex (o0 hi) (nx_p h1) (nx_s h3) h2
    have h0 := x1.1.1.1
    rw [e1, bdN_s, e2, bdN_s]
    refine po_ite (fun _ => ?_) (fun _ => ?_)
    · rw [e3, bdN_s]; exact PO_i rfl x2
    · simp (disch := omega) only [h0, kd_625, sz_625, w32_r, true_and, le_t, lt_t, and_true, ↓reduceIte]
      rw [e3, bdN_s]; exact PO_i rfl x2
/-- a kill tried -/
theorem bg_kl (h : OKg g G) (hc : 0 ≤ code ∧ code ≤ 255) : fM_begins G 624 = some (0, bgG G) ∧ ∃ v X, fM_kills (bgG G) 624 gp code = some (v, X) ∧ OKg g X ∧ fM_ends X 624 = some (0, cpG X 627 0 625 0 780) ∧ OKg g (cpG X 627 0 625 0 780) := by
  have b1 := OK_bg h
  obtain ⟨v, X, e, x1, x2⟩ := vM_kills (gp := gp) b1 hc
  have e27 : X 627 = bgG G 627 := x2 627 (by omega) (by omega)
  exact ⟨vM_begins h.1.1, v, X, e, x1, vM_ends x1.1.1, OK_en x1 (by rw [e27]; exact WBF_627 h)⟩
theorem oM_wouldFallBy (hi : MInv g) : PO g (fM_wouldFallBy g 624 a code) := by
  rw [fM_wouldFallBy]
  rcases vM_noKill (g := g) (a := a) (code := code) with ⟨-, e⟩ | ⟨⟨-, h⟩, e⟩
  · rw [e, bdN_s]; exact PO_1 (OK_th (OK_r hi))
  · rw [e, bdN_s]
    refine PO_0 ?_
    have o1 := o0 hi
    have h0 := o1.1.1.1
    obtain ⟨e1, v, X, e2, x1, e3, x2⟩ := bg_kl (gp := a) o1 h
    have h0' := x1.1.1.1
    simp (disch := omega) only [h0, kd_625, sz_625, w32_r, true_and, le_t, lt_t, and_true, ↓reduceIte]
    rw [e1, bdN_s, e2, bdN_s]
    refine po_ite (fun _ => ?_) (fun _ => ?_)
    · rw [e3, bdN_s]; exact PO_i rfl x2
    · simp (disch := omega) only [h0', kd_625, sz_625, true_and, le_t, lt_t, and_true, ↓reduceIte]
      rw [e3, bdN_s]; exact PO_i rfl x2
theorem oM_wouldRun (hi : MInv g) : PO g (fM_wouldRun g 624 a code) := by
  rw [fM_wouldRun]
  rcases vM_noKill (g := g) (a := a) (code := code) with ⟨-, e⟩ | ⟨⟨-, h⟩, e⟩
  · rw [e, bdN_s]; exact PO_1 (OK_th (OK_r hi))
  · rw [e, bdN_s]
    refine PO_0 ?_
    have o1 := o0 hi
    obtain ⟨e1, v, X, e2, x1, e3, x2⟩ := bg_kl (gp := a) o1 h
    rw [e1, bdN_s, e2, bdN_s]
    refine po_ite (fun _ => ?_) (fun _ => ?_)
    · rw [e3, bdN_s]; exact PO_i rfl x2
    · rw [vM_runningMany x1.1.1 x1.1.2.1.1.1, bdP_s, e3, bdN_s]; exact PO_i rfl x2
/-- which exit falls hardest -/
theorem w_weakest (hi : MInv g) (hc : 0 ≤ code ∧ code ≤ 255) : ∀ (m n : Nat) (v w k : Int) (G : gH), (G 625 0 - k).toNat = m → m < n → 1 ≤ k → OKg g G → PO g (lM_weakest_38 624 code n v w k G) := by
  intro m
  induction m with
  | zero =>
    intro n v w k G hm hn hk o
    obtain ⟨n, rfl⟩ : ∃ k, n = k + 1 := ⟨n - 1, by omega⟩
    have h0 := o.1.1.1
    have hk' : ¬ k < G 625 0 := by omega
    show PO g (bM_weakest_38 624 code (lM_weakest_38 624 code n) v w k G)
    rw [bM_weakest_38]
    simp (disch := omega) only [h0, kd_625, sz_625, true_and, le_t, lt_t, and_true, ↓reduceIte, if_neg hk']
    exact PO_i rfl o
  | succ m ih =>
    intro n v w k G hm hn hk o
    obtain ⟨n, rfl⟩ : ∃ k, n = k + 1 := ⟨n - 1, by omega⟩
    have h0 := o.1.1.1
    have hM := o.1.2.1.1.1
    have hk' : k < G 625 0 := by omega
    show PO g (bM_weakest_38 624 code (lM_weakest_38 624 code n) v w k G)
    rw [bM_weakest_38]
    have f1 := vM_runs (g := G) (p := k) o.1.1 (by omega)
    simp (disch := omega) only [h0, kd_625, sz_625, true_and, le_t, lt_t, and_true, ↓reduceIte, f1, bdP_s]
    have hgo : ∀ (G' : gH) (s : Int), OKg g G' → G' 625 0 = G 625 0 → PO g (jM_weakest_69 (lM_weakest_38 624 code n) G' 624 code v w k s) := by
      intro G' s o' e'
      rw [jM_weakest_69, w32_r (by omega)]
      exact po_ite (fun _ => ih _ _ _ _ _ (by rw [e']; omega) (by omega) (by omega) o') (fun _ => ih _ _ _ _ _ (by rw [e']; omega) (by omega) (by omega) o')
    by_cases hr : G 625 (140 + k) = 0
    · rw [if_pos hr, if_neg f0]
      obtain ⟨y, G', e, o', hk2⟩ := vM_fallsBy (code := code) o ⟨by omega, hk'⟩ hr hc
      rw [e, bdN_s]
      exact hgo G' y o' (hk2 0 (by omega) (by omega))
    · rw [if_neg hr, if_pos rfl]
      exact hgo G (-1) o rfl
theorem oM_weakest (hi : MInv g) : PO g (fM_weakest g 624 code) := by
  have hf := fu_ge
  have o1 := o0 hi
  have hM := o1.1.2.1.1.1
  rw [fM_weakest, bnd_s, o8 hi, vM_inRange, bdP_s]
  by_cases h : 0 ≤ code ∧ code ≤ 255
  · simp only [if_pos h, f0, if_false, jM_weakest_22, kd_c624, if_true, vM_fails (Or.inl rfl), bdN_s]
    exact w_weakest hi h _ _ _ _ _ _ rfl (by omega) (by omega) o1
  · simp only [if_neg h, if_true, jM_weakest_22, kd_c624, vM_fails (Or.inr rfl), bdN_s, f0, if_false]
    exact PO_i rfl (OK_th o1)
/-- how often a duty's holder may exit -/
theorem w_dutyLife (ha : 0 ≤ a ∧ a ≤ 7) : ∀ (m n : Nat) (v : Int) (G : gH), (40 - G 625 1).toNat = m → m < n → OKg g G → WBF (G 627) → PO g (lM_dutyLife_22 624 a n v G) := by
  intro m
  induction m with
  | zero =>
    intro n v G hm hn o hw
    obtain ⟨n, rfl⟩ : ∃ k, n = k + 1 := ⟨n - 1, by omega⟩
    have h0 := o.1.1.1
    have hD := o.1.2.1.2.2.2.2.2.2.1 a ha.1 (by omega)
    have hE := o.1.2.1.2.2.2.1.1
    show PO g (bM_dutyLife_22 624 a (lM_dutyLife_22 624 a n) v G)
    rw [bM_dutyLife_22]
    simp (disch := omega) only [h0, kd_625, sz_625, w32_r, true_and, le_t, lt_t, and_true, ↓reduceIte]
    refine po_ite (fun _ => ?_) (fun hz => ?_)
    · rw [vM_ends o.1.1, bdN_s]; exact PO_i rfl (OK_en o hw)
    · exfalso
      obtain ⟨x, e1, o', e2, -, -⟩ := ex_OK (code := 0) o (p := G 625 (11 + a)) ⟨by omega, hD.2.1⟩ hD.2.2 (by omega)
      have hE' := o'.1.2.1.2.2.2.1.1
      rw [sw_s] at hE'
      omega
  | succ m ih =>
    intro n v G hm hn o hw
    obtain ⟨n, rfl⟩ : ∃ k, n = k + 1 := ⟨n - 1, by omega⟩
    have h0 := o.1.1.1
    have hD := o.1.2.1.2.2.2.2.2.2.1 a ha.1 (by omega)
    show PO g (bM_dutyLife_22 624 a (lM_dutyLife_22 624 a n) v G)
    rw [bM_dutyLife_22]
    simp (disch := omega) only [h0, kd_625, sz_625, w32_r, true_and, le_t, lt_t, and_true, ↓reduceIte]
    refine po_ite (fun _ => ?_) (fun hz => ?_)
    · rw [vM_ends o.1.1, bdN_s]; exact PO_i rfl (OK_en o hw)
    · obtain ⟨x, e1, o', e2, -, -⟩ := ex_OK (code := 0) o (p := G 625 (11 + a)) ⟨by omega, hD.2.1⟩ hD.2.2 (by omega)
      have hw' : WBF (sw (exG G (G 625 (11 + a)) 0) (exF (G 625) (G 630) (G 625 (11 + a)) 0) 627) := by
        rw [sw_n (by omega), exG_n (by omega)]; exact hw
      rw [e1, bdN_s]
      have hm' : (40 - sw (exG G (G 625 (11 + a)) 0) (exF (G 625) (G 630) (G 625 (11 + a)) 0) 625 1).toNat = m := by
        rw [sw_s, e2]; omega
      exact po_ite (fun _ => ih _ _ _ hm' (by omega) o' hw') (fun _ => ih _ _ _ hm' (by omega) o' hw')
theorem oM_dutyLife (hi : MInv g) : PO g (fM_dutyLife g 624 a) := by
  have hf := fu_ge
  have o1 := o0 hi
  rw [fM_dutyLife, bnd_s, o8 hi]
  rcases vM_noDuty (g := th g 0) (a := a) (c := 1) with ⟨-, e1⟩ | ⟨h1, e1⟩
  · rw [e1, bdN_s]; exact PO_1 (OK_th o1)
  · rw [e1, bdN_s]
    refine PO_0 ?_
    rw [vM_begins o1.1.1, bdN_s]
    have hE := (OK_bg o1).1.2.1.2.2.2.1.1
    exact w_dutyLife h1 _ _ _ _ rfl (by omega) (OK_bg o1) (WBF_627 o1)
end MODEL20
/-! ===== the reference's input (own work) ===== -/
section MODEL21
variable {g G : gH} {p code t c a b k q gp d x y z w v n : Int}
theorem MInv_len (h : MInv g) (hn : 0 ≤ n ∧ n ≤ 500) : MInv (pU g 624 10 n) := by
  obtain ⟨h1, h2, h3, ⟨h4, h5⟩, h6, h7, h8⟩ := h
  unfold MInv MS
  simp (disch := omega) only [pU_n, pU_s, u1_n, u1_s]
  exact ⟨h1, h2, h3, ⟨h4, h5⟩, h6, hn, h8⟩
theorem MInv_in (h : MInv g) : MInv (pU g 631 a x) := by
  obtain ⟨h1, h2, h3, ⟨h4, h5⟩, h6, h7, h8⟩ := h
  unfold MInv MS
  simp (disch := omega) only [pU_n]
  exact ⟨h1, h2, h3, ⟨h4, h5⟩, h6, h7, h8⟩
/-- n bytes are written behind the input -/
theorem vM_appendWord (hi : MInv G) (hl : G 624 10 + 4 ≤ 500) : ∃ G', fM_appendWord G 624 w = some (0, G') ∧ MInv G' ∧ MF G G' ∧ G' 624 10 = G 624 10 + 4 ∧ (∀ k, ¬ k = 10 → G' 624 k = G 624 k) ∧ (∀ x, ¬ x = 624 → ¬ x = 631 → G' x = G x) := by
  have key : ∀ (v : Int) (n : Nat) (G : gH), MInv G → 0 ≤ v → G 624 10 + 1 ≤ 500 → ∃ G', lM_appendWord_3 624 w (n + 1) v G = lM_appendWord_3 624 w n (w32 (v + -8)) G' ∧ MInv G' ∧ MF G G' ∧ G' 624 10 = G 624 10 + 1 ∧ (∀ k, ¬ k = 10 → G' 624 k = G 624 k) ∧ (∀ x, ¬ x = 624 → ¬ x = 631 → G' x = G x) := by
    intro v n G hi hv hl
    have h9 : G 624 9 = 631 := hi.1.2.2.2.2.2.1
    have h10 := hi.2.2.2.2.2.1
    have hv' : ¬ v < 0 := by omega
    refine ⟨pU (pU G 631 (G 624 10) (opI 1 (opI 5 w v) 255)) 624 10 (G 624 10 + 1), ?_, ?_, ?_, ?_, ?_, ?_⟩
    · show bM_appendWord_3 624 w (lM_appendWord_3 624 w n) v G = _
      rw [bM_appendWord_3]
      have e1 : pU G 631 (G 624 10) (opI 1 (opI 5 w v) 255) 624 = G 624 := pU_n (by omega)
      simp (disch := omega) only [if_neg hv', h9, kd_631, sz_631, true_and, le_t, lt_t, and_true, ↓reduceIte, bnd_s, e1, w32_r]
    · exact MInv_len (MInv_in hi) (by omega)
    · exact MF_pU (MF_pU MF_r (by omega)) (by omega)
    · rw [pU_s, u1_s]
    · intro k hk
      rw [pU_s, u1_n (by omega), pU_n (by omega)]
    · intro x h1 h2
      rw [pU_n (by omega), pU_n (by omega)]
  obtain ⟨G1, a1, a2, a3, a4, a5, a6⟩ := key 24 (fu - 1) G hi (by omega) (by omega)
  obtain ⟨G2, b1, b2, b3, b4, b5, b6⟩ := key 16 (fu - 2) G1 a2 (by omega) (by omega)
  obtain ⟨G3, c1, c2, c3, c4, c5, c6⟩ := key 8 (fu - 3) G2 b2 (by omega) (by omega)
  obtain ⟨G4, d1, d2, d3, d4, d5, d6⟩ := key 0 (fu - 4) G3 c2 (by omega) (by omega)
  have hf := fu_ge
  have e1 : fu - 1 + 1 = fu := by omega
  have e2 : fu - 2 + 1 = fu - 1 := by omega
  have e3 : fu - 3 + 1 = fu - 2 := by omega
  have e4 : fu - 4 + 1 = fu - 3 := by omega
  have e5 : fu - 5 + 1 = fu - 4 := by omega
  rw [e1] at a1; rw [e2] at b1; rw [e3] at c1; rw [e4] at d1
  refine ⟨G4, ?_, d2, fun x hx => ?_, by omega, fun k hk => ?_, fun x h1 h2 => ?_⟩
  · rw [fM_appendWord, a1, show w32 (24 + -8) = 16 from w32_r (by omega), b1, show w32 (16 + -8) = 8 from w32_r (by omega), c1, show w32 (8 + -8) = 0 from w32_r (by omega), d1, show w32 (0 + -8) = -8 from w32_r (by omega), ← e5]
    show bM_appendWord_3 624 w (lM_appendWord_3 624 w (fu - 5)) (-8) G4 = _
    rw [bM_appendWord_3, if_pos (by omega)]
  · rw [d3 x hx, c3 x hx, b3 x hx, a3 x hx]
  · rw [d5 k hk, c5 k hk, b5 k hk, a5 k hk]
  · rw [d6 x h1 h2, c6 x h1 h2, b6 x h1 h2, a6 x h1 h2]
/-- promise 2: what is answered, what the length is then -/
theorem oM_appendInput (hi : MInv g) : ∃ G', fM_appendInput g 624 a b c d k = some (if 500 < g 624 10 + 20 then -1 else g 624 10 + 20, G') ∧ MInv G' ∧ MF g G' ∧ G' 624 10 = (if 500 < g 624 10 + 20 then g 624 10 else g 624 10 + 20) := by
  have o1 := o0 hi
  have h10 := hi.2.2.2.2.2.1
  have e10 : (th g 0) 624 10 = g 624 10 := th_f (by omega)
  rw [fM_appendInput, bnd_s, o8 hi, e10, w32_r (by omega)]
  by_cases h : 500 < g 624 10 + 20
  · rw [if_pos h, if_pos h, if_pos h]
    exact ⟨_, rfl, o1.1, o1.2.1, e10⟩
  · rw [if_neg h, if_neg h, if_neg h]
    obtain ⟨G1, a1, a2, a3, a4, -, -⟩ := vM_appendWord (w := a) o1.1 (by omega)
    obtain ⟨G2, b1, b2, b3, b4, -, -⟩ := vM_appendWord (w := b) a2 (by omega)
    obtain ⟨G3, c1, c2, c3, c4, -, -⟩ := vM_appendWord (w := c) b2 (by omega)
    obtain ⟨G4, d1, d2, d3, d4, -, -⟩ := vM_appendWord (w := d) c2 (by omega)
    obtain ⟨G5, k1, k2, k3, k4, -, -⟩ := vM_appendWord (w := k) d2 (by omega)
    rw [a1, bdN_s, b1, bdN_s, c1, bdN_s, d1, bdN_s, k1, bdN_s]
    have e5 : G5 624 10 = g 624 10 + 20 := by omega
    rw [e5]
    exact ⟨_, rfl, k2, fun x hx => by rw [k3 x hx, d3 x hx, c3 x hx, b3 x hx, a3 x hx, o1.2.1 x hx], e5⟩
/-- promise 3 -/
theorem oM_truncateInput (hi : MInv g) : ∃ G', fM_truncateInput g 624 a = some (if 0 ≤ a ∧ a ≤ g 624 10 then 1 else 0, G') ∧ MInv G' ∧ MF g G' ∧ G' 624 10 = (if 0 ≤ a ∧ a ≤ g 624 10 then a else g 624 10) := by
  have o1 := o0 hi
  have h10 := hi.2.2.2.2.2.1
  have e10 : (th g 0) 624 10 = g 624 10 := th_f (by omega)
  rw [fM_truncateInput, bnd_s, o8 hi, e10, vM_inRange, bdP_s]
  by_cases h : 0 ≤ a ∧ a ≤ g 624 10
  · simp only [if_pos h, f0, if_false, bnd_s]
    exact ⟨_, rfl, MInv_len o1.1 (by omega), MF_pU o1.2.1 (by omega), by rw [pU_s, u1_s]⟩
  · simp only [if_neg h, if_true]
    exact ⟨_, rfl, o1.1, o1.2.1, e10⟩
end MODEL21
/-! ===== the reference's output (own work) ===== -/
section MODEL22
variable {g G H K : gH} {p code t c a b k q gp d x y z w v n l : Int}
theorem MInv_out (h : MInv g) (hn : 0 ≤ n ∧ n ≤ 400) : MInv (pU (pU g 634 a x) 624 23 n) := by
  obtain ⟨h1, h2, h3, ⟨h4, h5⟩, h6, h7, h8⟩ := h
  unfold MInv MS
  simp (disch := omega) only [pU_n, pU_s, u1_n, u1_s]
  exact ⟨h1, h2, h3, ⟨h4, h5⟩, h6, h7, hn⟩
def WR (G H : gH) (k : Int) : Prop := MInv H ∧ MF G H ∧ KI G H ∧ H 625 = G 625 ∧ (0 ≤ H 624 23 ∧ H 624 23 ≤ G 624 23 + k)
theorem WR_r (h : MInv G) : WR G G 0 := ⟨h, MF_r, KI_r, rfl, h.2.2.2.2.2.2.1, by omega⟩
theorem WR_t (h : WR G H a) (h' : WR H K b) : WR G K (a + b) := ⟨h'.1, fun x hx => (h'.2.1 x hx).trans (h.2.1 x hx), KI_t h.2.2.1 h'.2.2.1, h'.2.2.2.1.trans h.2.2.2.1, h'.2.2.2.2.1, by have := h.2.2.2.2.2; have := h'.2.2.2.2.2; omega⟩
theorem WR_l (h : WR G H a) (hab : a ≤ b) : WR G H b := ⟨h.1, h.2.1, h.2.2.1, h.2.2.2.1, h.2.2.2.2.1, by have := h.2.2.2.2.2; omega⟩
theorem vM_write (o : MInv G) (h : G 624 23 < 400) : ∃ H, fM_write G 624 c = some (0, H) ∧ WR G H 1 := by
  have h0 : G 624 22 = 634 := o.1.2.2.2.2.2.2.2.2.1
  have hm := o.2.2.2.2.2.2
  refine ⟨pU (pU G 634 (G 624 23) c) 624 23 (G 624 23 + 1), ?_, MInv_out o (by omega), MF_pU (MF_pU MF_r (by omega)) (by omega), ?_, ?_, ?_⟩
  · have e1 : pU G 634 (G 624 23) c 624 = G 624 := pU_n (by omega)
    rw [fM_write]
    simp (disch := omega) only [h0, kd_634, sz_634, true_and, le_t, lt_t, and_true, ↓reduceIte, bnd_s, e1, w32_r]
  · exact ⟨fun k k0 k1 => by rw [pU_s, u1_n (by omega), pU_n (by omega)], by rw [pU_n (by omega), pU_n (by omega)]⟩
  · rw [pU_n (by omega), pU_n (by omega)]
  · rw [pU_s, u1_s]; omega
theorem vM_writeBetween (o : MInv G) (h : G 624 23 < 400) : ∃ H, fM_writeBetween G 624 c = some (0, H) ∧ WR G H 1 := by
  rw [fM_writeBetween]
  by_cases hc : 0 < G 624 23
  · obtain ⟨H, e, w⟩ := vM_write (c := c) o h
    rw [if_pos hc, e, bdN_s]; exact ⟨H, rfl, w⟩
  · rw [if_neg hc]; exact ⟨G, rfl, WR_l (WR_r o) (by omega)⟩
/-- a number of at most three places -/
theorem vM_writeNumber (o : MInv G) (h : G 624 23 + 3 ≤ 400) (hx : 0 ≤ x ∧ x ≤ 255) : ∃ H, fM_writeNumber G 624 x = some (0, H) ∧ WR G H 3 := by
  have step : ∀ (n : Nat) (v : Int) (G : gH), MInv G → G 624 23 < 400 → (v = 1 ∨ v = 10 ∨ v = 100) → ∃ H, lM_writeNumber_18 624 x (n + 1) v G = lM_writeNumber_18 624 x n (v / 10) H ∧ WR G H 1 := by
    intro n v G o h hv
    obtain ⟨H, e, w⟩ := vM_write (c := w32 (48 + (x / v) % 10)) o h
    refine ⟨H, ?_, w⟩
    show bM_writeNumber_18 624 x (lM_writeNumber_18 624 x n) v G = _
    rw [bM_writeNumber_18]
    have hv0 : 0 < v := by omega
    have hq : 0 ≤ x / v ∧ x / v ≤ 255 := by
      rcases hv with e | e | e <;> subst e <;> omega
    simp (disch := omega) only [e, bdN_s, true_and, le_t, lt_t, and_true, ↓reduceIte]
  have fin : ∀ (n : Nat) (G : gH), lM_writeNumber_18 624 x (n + 1) 0 G = some (0, G) := by
    intro n G
    show bM_writeNumber_18 624 x (lM_writeNumber_18 624 x n) 0 G = _
    rw [bM_writeNumber_18, if_neg (by omega)]
  have hf := fu_ge
  have f1 : fu - 1 + 1 = fu := by omega
  have f2 : fu - 2 + 1 = fu - 1 := by omega
  have f3 : fu - 3 + 1 = fu - 2 := by omega
  have f4 : fu - 4 + 1 = fu - 3 := by omega
  have w1 : ∀ G, MInv G → G 624 23 < 400 → ∀ m : Nat, ∃ H, lM_writeNumber_18 624 x (m + 2) 1 G = some (0, H) ∧ WR G H 1 := by
    intro G o h m
    obtain ⟨H, e, w⟩ := step (m + 1) 1 G o h (Or.inl rfl)
    exact ⟨H, by rw [e, show (1 : Int) / 10 = 0 from by omega, fin], w⟩
  have w2 : ∀ G, MInv G → G 624 23 + 2 ≤ 400 → ∀ m : Nat, ∃ H, lM_writeNumber_18 624 x (m + 3) 10 G = some (0, H) ∧ WR G H 2 := by
    intro G o h m
    obtain ⟨H, e, w⟩ := step (m + 2) 10 G o (by omega) (Or.inr (Or.inl rfl))
    obtain ⟨K, e2, w'⟩ := w1 H w.1 (by have := w.2.2.2.2.2; omega) m
    exact ⟨K, by rw [e, show (10 : Int) / 10 = 1 from by omega, e2], WR_t w w'⟩
  have w3 : ∀ G, MInv G → G 624 23 + 3 ≤ 400 → ∀ m : Nat, ∃ H, lM_writeNumber_18 624 x (m + 4) 100 G = some (0, H) ∧ WR G H 3 := by
    intro G o h m
    obtain ⟨H, e, w⟩ := step (m + 3) 100 G o (by omega) (Or.inr (Or.inr rfl))
    obtain ⟨K, e2, w'⟩ := w2 H w.1 (by have := w.2.2.2.2.2; omega) m
    exact ⟨K, by rw [e, show (100 : Int) / 10 = 10 from by omega, e2], WR_t w w'⟩
  have g1 : fu - 2 + 2 = fu := by omega
  have g2 : fu - 3 + 3 = fu := by omega
  have g3 : fu - 4 + 4 = fu := by omega
  have s1 : ∀ (n : Nat), lM_writeNumber_2 G 624 x (n + 1) 1 = if 9 < x then lM_writeNumber_2 G 624 x n 10 else lM_writeNumber_18 624 x fu 1 G := by
    intro n
    show bM_writeNumber_2 G 624 x (lM_writeNumber_2 G 624 x n) 1 = _
    rw [bM_writeNumber_2]
    simp (disch := omega) only [true_and, le_t, lt_t, and_true, ↓reduceIte, Int.ediv_one, opI_mul, w32_r]
    rfl
  have s2 : ∀ (n : Nat), lM_writeNumber_2 G 624 x (n + 1) 10 = if 9 < x / 10 then lM_writeNumber_2 G 624 x n 100 else lM_writeNumber_18 624 x fu 10 G := by
    intro n
    show bM_writeNumber_2 G 624 x (lM_writeNumber_2 G 624 x n) 10 = _
    rw [bM_writeNumber_2]
    simp (disch := omega) only [true_and, le_t, lt_t, and_true, ↓reduceIte, opI_mul, w32_r]
    rfl
  have s3 : ∀ (n : Nat), lM_writeNumber_2 G 624 x (n + 1) 100 = lM_writeNumber_18 624 x fu 100 G := by
    intro n
    show bM_writeNumber_2 G 624 x (lM_writeNumber_2 G 624 x n) 100 = _
    rw [bM_writeNumber_2]
    have : ¬ 9 < x / 100 := by omega
    simp (disch := omega) only [true_and, le_t, lt_t, and_true, ↓reduceIte, if_neg this]
  have r1 := s1 (fu - 1)
  have r2 := s2 (fu - 2)
  have r3 := s3 (fu - 3)
  rw [f1] at r1; rw [f2] at r2; rw [f3] at r3
  rw [fM_writeNumber, r1]
  split
  · rw [r2]
    split
    · rw [r3]
      obtain ⟨H, e, w⟩ := w3 G o h (fu - 4)
      rw [g3] at e
      exact ⟨H, e, w⟩
    · obtain ⟨H, e, w⟩ := w2 G o (by omega) (fu - 3)
      rw [g2] at e
      exact ⟨H, e, WR_l w (by omega)⟩
  · obtain ⟨H, e, w⟩ := w1 G o (by omega) (fu - 2)
    rw [g1] at e
    exact ⟨H, e, WR_l w (by omega)⟩
/-- the next running child from k on -/
theorem vM_nextChild (hs : MS G) (hM : 1 ≤ G 625 0 ∧ G 625 0 ≤ 40) (hk : 0 ≤ k ∧ k ≤ 40) : ∃ c, fM_nextChild G 624 a k = some c ∧ ((c = -1 ∧ ∀ j, k ≤ j → j < G 625 0 → ic (G 625) j a 0 = false) ∨ ((k ≤ c ∧ c < G 625 0) ∧ ic (G 625) c a 0 = true ∧ ∀ j, k ≤ j → j < c → ic (G 625) j a 0 = false)) := by
  have h0 := hs.1
  have key : ∀ (m n : Nat) (i : Int), (G 625 0 - i).toNat = m → m < n → k ≤ i → (∀ j, k ≤ j → j < i → ic (G 625) j a 0 = false) → ∃ c, lM_nextChild_2 G 624 a n i = some c ∧ ((c = -1 ∧ ∀ j, k ≤ j → j < G 625 0 → ic (G 625) j a 0 = false) ∨ ((k ≤ c ∧ c < G 625 0) ∧ ic (G 625) c a 0 = true ∧ ∀ j, k ≤ j → j < c → ic (G 625) j a 0 = false)) := by
    intro m
    induction m with
    | zero =>
      intro n i hm hn hi hj
      obtain ⟨n, rfl⟩ : ∃ k, n = k + 1 := ⟨n - 1, by omega⟩
      have hni : ¬ i < G 625 0 := by omega
      refine ⟨-1, ?_, Or.inl ⟨rfl, fun j h1 h2 => hj j h1 (by omega)⟩⟩
      show bM_nextChild_2 G 624 a (lM_nextChild_2 G 624 a n) i = _
      rw [bM_nextChild_2, jM_nextChild_28]
      simp (disch := omega) only [h0, kd_625, sz_625, true_and, le_t, lt_t, and_true, ↓reduceIte, if_neg hni]
    | succ m ih =>
      intro n i hm hn hi hj
      obtain ⟨n, rfl⟩ : ∃ k, n = k + 1 := ⟨n - 1, by omega⟩
      have hii : i < G 625 0 := by omega
      have f1 := vM_isChild (g := G) (p := i) (a := a) (st := 0) hs (by omega)
      have e : lM_nextChild_2 G 624 a (n + 1) i = if (if ic (G 625) i a 0 = true then (1 : Int) else 0) = 0 then lM_nextChild_2 G 624 a n (i + 1) else some i := by
        show bM_nextChild_2 G 624 a (lM_nextChild_2 G 624 a n) i = _
        rw [bM_nextChild_2, jM_nextChild_28]
        simp (disch := omega) only [h0, kd_625, sz_625, true_and, le_t, lt_t, and_true, ↓reduceIte, f1, bdP_s, w32_r]
      rw [e]
      cases hc : ic (G 625) i a 0 with
      | true =>
        rw [if_pos rfl, if_neg f0]
        exact ⟨i, rfl, Or.inr ⟨⟨hi, hii⟩, hc, hj⟩⟩
      | false =>
        simp only [Bool.false_eq_true, if_false, if_true]
        refine ih n (i + 1) (by omega) (by omega) (by omega) (fun j h1 h2 => ?_)
        by_cases e : j = i
        · rw [e]; exact hc
        · exact hj j h1 (by omega)
  have hf := fu_ge
  rw [fM_nextChild]
  exact key _ fu k rfl (by omega) (by omega) (fun j h1 h2 => absurd h1 (by omega))
theorem vM_onPath (o : MInv G) (hp : 0 ≤ p ∧ p < G 625 0) (hl : 0 ≤ l) : ∃ q, fM_onPath G 624 p l = some q ∧ 0 ≤ q ∧ q < G 625 0 := by
  have hs := o.1
  have h0 := hs.1
  have w := o.2.1.1
  have key : ∀ (m n : Nat) (i : Int), en (up (G 625)) m i = true → i < G 625 0 → m < n → ∃ q, lM_onPath_2 G 624 l n i = some q ∧ 0 ≤ q ∧ q < G 625 0 := by
    intro m
    induction m with
    | zero =>
      intro n i hi hiM hn
      obtain ⟨n, rfl⟩ : ∃ k, n = k + 1 := ⟨n - 1, by omega⟩
      have e : i = 0 := by simpa [en] using hi
      subst e
      refine ⟨0, ?_, by omega, by omega⟩
      show bM_onPath_2 G 624 l (lM_onPath_2 G 624 l n) 0 = _
      rw [bM_onPath_2, vM_deep hs en_0, bdP_s, if_neg (show ¬ l < DP (up (G 625)) 0 by simp only [DP, dp, if_true]; omega)]
    | succ m ih =>
      intro n i hi hiM hn
      obtain ⟨n, rfl⟩ : ∃ k, n = k + 1 := ⟨n - 1, by omega⟩
      have hr := en_rg hi
      have e : lM_onPath_2 G 624 l (n + 1) i = if l < DP (up (G 625)) i then lM_onPath_2 G 624 l n (up (G 625) i) else some i := by
        show bM_onPath_2 G 624 l (lM_onPath_2 G 624 l n) i = _
        rw [bM_onPath_2, vM_deep hs (en_40 hi), bdP_s]
        simp (disch := omega) only [h0, kd_625, sz_625, true_and, le_t, lt_t, and_true, ↓reduceIte, w32_r]
        rfl
      rw [e]
      split
      · next hlt =>
        by_cases hz : i = 0
        · subst hz
          exact absurd hlt (by simp only [DP, dp, if_true]; omega)
        · rcases en_s.mp hi with e3 | ⟨-, -, e3⟩
          · exact absurd e3 hz
          · exact ih n _ e3 (w.2.1 i (by omega) hiM).2 (by omega)
      · exact ⟨i, rfl, by omega, hiM⟩
  have hf := fu_ge
  rw [fM_onPath]
  exact key 40 fu p (w.2.2.1 p hp.1 hp.2) hp.2 (by omega)
theorem dp_bnd {f : Int → Int} : ∀ (n : Nat) (i : Int), 0 ≤ dp f n i ∧ dp f n i ≤ n := by
  intro n
  induction n with
  | zero => intro i; exact ⟨Int.le_refl _, Int.le_refl _⟩
  | succ n ih =>
    intro i
    have := ih (f i)
    rw [dp]
    split <;> omega
theorem vM_writePath (o : MInv G) (hp : 0 ≤ p ∧ p < G 625 0) (hz : G 624 23 = 0) : ∃ H, fM_writePath G 624 p = some (0, H) ∧ WR G H 164 := by
  have hdp := dp_bnd (f := up (G 625)) 40 p
  have key : ∀ (m n : Nat) (i : Int) (G : gH), MInv G → (0 ≤ p ∧ p < G 625 0) → (DP (up (G 625)) p + 1 - i).toNat = m → m < n → 0 ≤ i → i ≤ 41 → G 624 23 + 4 * m ≤ 400 → DP (up (G 625)) p ≤ 40 → ∃ H, lM_writePath_2 624 p n i G = some (0, H) ∧ WR G H (4 * m) := by
    intro m
    induction m with
    | zero =>
      intro n i G o hp hm hn hi hi' hg hd
      obtain ⟨n, rfl⟩ : ∃ k, n = k + 1 := ⟨n - 1, by omega⟩
      refine ⟨G, ?_, WR_l (WR_r o) (by omega)⟩
      show bM_writePath_2 624 p (lM_writePath_2 624 p n) i G = _
      rw [bM_writePath_2, vM_deep o.1 (o.2.1.1.2.2.1 p hp.1 hp.2), bdP_s, if_pos (by omega)]
    | succ m ih =>
      intro n i G o hp hm hn hi hi' hg hd
      obtain ⟨n, rfl⟩ : ∃ k, n = k + 1 := ⟨n - 1, by omega⟩
      obtain ⟨H, e1, w1⟩ := vM_writeBetween (c := 47) o (by omega)
      have hp1 : 0 ≤ p ∧ p < H 625 0 := by rw [w1.2.2.2.1]; exact hp
      have b1 := w1.2.2.2.2.2
      obtain ⟨q, e2, q0, q1⟩ := vM_onPath w1.1 hp1 hi
      have hM := w1.1.2.1.1.1
      obtain ⟨K, e3, w2⟩ := vM_writeNumber (x := q) w1.1 (by omega) (by omega)
      have b2 := w2.2.2.2.2.2
      have e25 : K 625 = G 625 := w2.2.2.2.1.trans w1.2.2.2.1
      obtain ⟨L, e4, w3⟩ := ih n (i + 1) K w2.1 (by rw [e25]; exact hp) (by rw [e25]; omega) (by omega) (by omega) (by omega) (by omega) (by rw [e25]; exact hd)
      refine ⟨L, ?_, WR_l (WR_t (WR_t w1 w2) w3) (by omega)⟩
      show bM_writePath_2 624 p (lM_writePath_2 624 p n) i G = _
      rw [bM_writePath_2, vM_deep o.1 (o.2.1.1.2.2.1 p hp.1 hp.2), bdP_s, if_neg (by omega), e1, bdN_s, e2, bdP_s, e3, bdN_s, w32_r (by omega), e4]
  have hf := fu_ge
  have hd : DP (up (G 625)) p ≤ 40 ∧ 0 ≤ DP (up (G 625)) p := ⟨hdp.2, hdp.1⟩
  obtain ⟨H, e, w⟩ := key _ fu 0 G o hp rfl (by omega) (by omega) (by omega) (by omega) hd.1
  exact ⟨H, e, WR_l w (by omega)⟩
theorem vM_writeChildren (o : MInv G) (hz : G 624 23 = 0) : ∃ H, fM_writeChildren G 624 p = some (0, H) ∧ WR G H 160 := by
  have key : ∀ (m n : Nat) (i : Int) (G : gH), MInv G → (i = -1 ∨ (0 ≤ i ∧ i < G 625 0 ∧ 40 - i ≤ m)) → m < n → G 624 23 + 4 * m ≤ 400 → ∃ H, lM_writeChildren_7 624 p n i G = some (0, H) ∧ WR G H (4 * m) := by
    intro m
    induction m with
    | zero =>
      intro n i G o hi hn hg
      obtain ⟨n, rfl⟩ : ∃ k, n = k + 1 := ⟨n - 1, by omega⟩
      have hM := o.2.1.1.1
      have hi' : i = -1 := by omega
      refine ⟨G, ?_, WR_l (WR_r o) (by omega)⟩
      show bM_writeChildren_7 624 p (lM_writeChildren_7 624 p n) i G = _
      rw [bM_writeChildren_7, if_pos hi']
    | succ m ih =>
      intro n i G o hi hn hg
      obtain ⟨n, rfl⟩ : ∃ k, n = k + 1 := ⟨n - 1, by omega⟩
      have hM := o.2.1.1.1
      by_cases hi1 : i = -1
      · refine ⟨G, ?_, WR_l (WR_r o) (by omega)⟩
        show bM_writeChildren_7 624 p (lM_writeChildren_7 624 p n) i G = _
        rw [bM_writeChildren_7, if_pos hi1]
      · obtain ⟨i0, i1, i2⟩ : 0 ≤ i ∧ i < G 625 0 ∧ 40 - i ≤ (m + 1 : Nat) := by rcases hi with h | h; exact absurd h hi1; exact h
        obtain ⟨H, e1, w1⟩ := vM_writeBetween (c := 44) o (by omega)
        have b1 := w1.2.2.2.2.2
        obtain ⟨K, e3, w2⟩ := vM_writeNumber (x := i) w1.1 (by omega) (by omega)
        have b2 := w2.2.2.2.2.2
        have e25 : K 625 = G 625 := w2.2.2.2.1.trans w1.2.2.2.1
        obtain ⟨c, e4, hc⟩ := vM_nextChild (a := p) (k := i + 1) w2.1.1 w2.1.2.1.1.1 (by omega)
        obtain ⟨L, e5, w3⟩ := ih n c K w2.1 (by omega) (by omega) (by omega)
        refine ⟨L, ?_, WR_l (WR_t (WR_t w1 w2) w3) (by omega)⟩
        show bM_writeChildren_7 624 p (lM_writeChildren_7 624 p n) i G = _
        rw [bM_writeChildren_7, if_neg hi1, e1, bdN_s, e3, bdN_s, w32_r (by omega), e4, bdP_s, e5]
  have hf := fu_ge
  obtain ⟨c, e4, hc⟩ := vM_nextChild (a := p) (k := 0) o.1 o.2.1.1.1 (by omega)
  obtain ⟨H, e, w⟩ := key 40 fu c G o (by omega) (by omega) (by omega)
  refine ⟨H, ?_, WR_l w (by omega)⟩
  rw [fM_writeChildren, e4, bdP_s, e]
theorem vM_writeZombies (o : MInv G) (hz : G 624 23 = 0) : ∃ H, fM_writeZombies G 624 p = some (0, H) ∧ WR G H 320 := by
  have hE0 := o.2.1.2.2.2.1.1
  have key : ∀ (m n : Nat) (i : Int) (G : gH), MInv G → (G 625 1 - i).toNat = m → m < n → 0 ≤ i → G 624 23 + 8 * m ≤ 400 → ∃ H, lM_writeZombies_2 624 p n i G = some (0, H) ∧ WR G H (8 * m) := by
    intro m
    induction m with
    | zero =>
      intro n i G o hm hn hi hg
      obtain ⟨n, rfl⟩ : ∃ k, n = k + 1 := ⟨n - 1, by omega⟩
      have h0 := o.1.1
      have hni : ¬ i < G 625 1 := by omega
      refine ⟨G, ?_, WR_l (WR_r o) (by omega)⟩
      show bM_writeZombies_2 624 p (lM_writeZombies_2 624 p n) i G = _
      rw [bM_writeZombies_2]
      simp (disch := omega) only [h0, kd_625, sz_625, true_and, le_t, lt_t, and_true, ↓reduceIte, if_neg hni]
    | succ m ih =>
      intro n i G o hm hn hi hg
      obtain ⟨n, rfl⟩ : ∃ k, n = k + 1 := ⟨n - 1, by omega⟩
      have h0 := o.1.1
      have hM := o.2.1.1.1
      have hE := o.2.1.2.2.2.1
      have hE1 := hE.1
      have hii : i < G 625 1 := by omega
      have hz := hE.2 i hi hii
      have f1 := vM_isChild (g := G) (p := G 625 (19 + i)) (a := p) (st := 1) o.1 (by omega)
      show ∃ H, bM_writeZombies_2 624 p (lM_writeZombies_2 624 p n) i G = some (0, H) ∧ _
      rw [bM_writeZombies_2]
      simp (disch := omega) only [h0, kd_625, sz_625, true_and, le_t, lt_t, and_true, ↓reduceIte, w32_r, f1, bdP_s]
      cases hc : ic (G 625) (G 625 (19 + i)) p 1 with
      | false =>
        simp only [Bool.false_eq_true, if_false, if_true]
        obtain ⟨H, e, w⟩ := ih n (i + 1) G o (by omega) (by omega) (by omega) (by omega)
        exact ⟨H, e, WR_l w (by omega)⟩
      | true =>
        have hst : G 625 (140 + G 625 (19 + i)) = 1 := by
          have := of_decide_eq_true hc
          exact this.1
        have hcd := o.2.1.2.2.2.2.2.2.2.1 _ hz.1 hz.2 hst
        rw [if_pos rfl, if_neg f0]
        obtain ⟨H1, e1, w1⟩ := vM_writeBetween (c := 44) o (by omega)
        have b1 := w1.2.2.2.2.2
        obtain ⟨H2, e2, w2⟩ := vM_writeNumber (x := G 625 (19 + i)) w1.1 (by omega) (by omega)
        have b2 := w2.2.2.2.2.2
        obtain ⟨H3, e3, w3⟩ := vM_write (c := 58) w2.1 (by omega)
        have b3 := w3.2.2.2.2.2
        have h03 := w3.1.1.1
        have e25 : H3 625 = G 625 := w3.2.2.2.1.trans (w2.2.2.2.1.trans w1.2.2.2.1)
        obtain ⟨H4, e4, w4⟩ := vM_writeNumber (x := H3 625 (300 + G 625 (19 + i))) w3.1 (by omega) (by rw [e25]; exact hcd)
        have b4 := w4.2.2.2.2.2
        have e25' : H4 625 = G 625 := w4.2.2.2.1.trans e25
        obtain ⟨L, e5, w5⟩ := ih n (i + 1) H4 w4.1 (by rw [e25']; omega) (by omega) (by omega) (by omega)
        rw [e1, bdN_s, e2, bdN_s, e3, bdN_s]
        simp (disch := omega) only [h03, kd_625, sz_625, true_and, le_t, lt_t, and_true, ↓reduceIte]
        rw [e4, bdN_s, e5]
        exact ⟨L, rfl, WR_l (WR_t (WR_t (WR_t (WR_t w1 w2) w3) w4) w5) (by omega)⟩
  have hf := fu_ge
  obtain ⟨H, e, w⟩ := key (G 625 1 - 0).toNat fu 0 G o rfl (by omega) (by omega) (by omega)
  exact ⟨H, e, WR_l w (by omega)⟩
end MODEL22
/-! ===== the reference's output: the tree, print (own work) ===== -/
theorem cn_add {P Q R : Int → Bool} : ∀ (m : Nat) (k : Int), (∀ j, k ≤ j → j < k + m → P j = true → R j = true ∧ Q j = false) → (∀ j, k ≤ j → j < k + m → Q j = true → R j = true) → cn P m k + cn Q m k ≤ cn R m k := by
  intro m
  induction m with
  | zero => intro k _ _; exact Int.le_refl _
  | succ m ih =>
    intro k h1 h2
    rw [cn_s, cn_s, cn_s]
    have := ih (k + 1) (fun j j1 j2 => h1 j (by omega) (by omega)) (fun j j1 j2 => h2 j (by omega) (by omega))
    have a1 := h1 k (by omega) (by omega)
    have a2 := h2 k (by omega) (by omega)
    cases hp : P k with
    | true =>
      obtain ⟨b1, b2⟩ := a1 hp
      rw [b1, b2]
      simp only [Bool.false_eq_true, if_false, if_true]
      omega
    | false =>
      cases hq : Q k with
      | true => rw [a2 hq]; simp only [Bool.false_eq_true, if_false, if_true]; omega
      | false => simp only [Bool.false_eq_true, if_false]; split <;> omega
/-- the child of p on i's way to the root -/
def chd (f : Int → Int) : Nat → Int → Int → Int
  | 0, _, i => i
  | n + 1, p, i => if f i = p then i else chd f n p (f i)
def Bl (f : Int → Int) (p i : Int) : Bool := decide (i = p) || OV f p i
def Ql (f : Int → Int) (p k i : Int) : Bool := OV f p i && decide (chd f 40 p i < k)
section TREEB
variable {f : Int → Int} {p c i k m : Int}
theorem chd_c (hc : en f 40 c = true) (hc0 : c ≠ 0) (hf : f c = p) (hp : en f 40 p = true) : ∀ (n : Nat) (i : Int), en f n i = true → en f 40 i = true → Bl f c i = true → chd f n p i = c := by
  have hpc : OV f p c = true := by rw [OV_s hc hc0, if_pos hf]
  intro n
  induction n with
  | zero =>
    intro i hi hi4 hb
    have e : i = 0 := by simpa [en] using hi
    subst e
    have hb : (decide ((0 : Int) = c) || OV f c 0) = true := hb
    rw [OV_0, Bool.or_false] at hb
    exact absurd (of_decide_eq_true hb).symm hc0
  | succ n ih =>
    intro i hi hi4 hb
    have hb : (decide (i = c) || OV f c i) = true := hb
    rw [chd]
    by_cases e : i = c
    · subst e; rw [if_pos hf]
    · rw [decide_eq_false e, Bool.false_or] at hb
      have hi0 : i ≠ 0 := fun z => by rw [z, OV_0] at hb; cases hb
      have hup : en f n (f i) = true := by
        rcases en_s.mp hi with z | ⟨-, -, z⟩
        · exact absurd z hi0
        · exact z
      have hup4 := en_40 hup
      rw [OV_s hi4 hi0] at hb
      have hb' : Bl f c (f i) = true := by
        show (decide (f i = c) || OV f c (f i)) = true
        by_cases e2 : f i = c
        · rw [decide_eq_true e2, Bool.true_or]
        · rw [if_neg e2] at hb; rw [hb, Bool.or_true]
      have hne : ¬ f i = p := by
        intro e3
        rw [e3] at hb'
        have hb' : (decide (p = c) || OV f c p) = true := hb'
        by_cases e4 : p = c
        · rw [e4, OV_ir hc] at hpc; cases hpc
        · rw [decide_eq_false e4, Bool.false_or] at hb'
          have := OV_tr (p := c) (q := p) hc hp hpc hb'
          rw [OV_ir hc] at this; cases this
      rw [if_neg hne]
      exact ih _ hup hup4 hb'
/-- what stands below a child stands below p, and by that child -/
theorem Bl_Ql (hA : Acy f m) (hc : 0 < c ∧ c < m) (hf : f c = p) (hp : 0 ≤ p ∧ p < m) (hi : 0 ≤ i ∧ i < m) (hb : Bl f c i = true) : Ql f p (c + 1) i = true ∧ Ql f p c i = false := by
  have hce := hA c (by omega) hc.2
  have hpe := hA p hp.1 hp.2
  have hie := hA i hi.1 hi.2
  have hch := chd_c hce (by omega) hf hpe 40 i hie hie hb
  have hpc : OV f p c = true := by rw [OV_s hce (by omega), if_pos hf]
  have ho : OV f p i = true := by
    have hb : (decide (i = c) || OV f c i) = true := hb
    by_cases e : i = c
    · rw [e]; exact hpc
    · rw [decide_eq_false e, Bool.false_or] at hb
      exact OV_tr (p := p) (q := c) hie hce hb hpc
  constructor
  · show (OV f p i && decide (chd f 40 p i < c + 1)) = true
    rw [ho, hch, decide_eq_true (by omega)]; rfl
  · show (OV f p i && decide (chd f 40 p i < c)) = false
    rw [ho, hch, decide_eq_false (by omega)]; rfl
theorem Ql_mono {j : Int} (hkj : k ≤ j) (h : Ql f p k i = true) : Ql f p j i = true := by
  have h : (OV f p i && decide (chd f 40 p i < k)) = true := h
  show (OV f p i && decide (chd f 40 p i < j)) = true
  rw [Bool.and_eq_true] at h ⊢
  exact ⟨h.1, decide_eq_true (by have := of_decide_eq_true h.2; omega)⟩
theorem Nl_c (hA : Acy f m) (hm : m ≤ 40) (hc : 0 < c ∧ c < m) (hf : f c = p) (hp : 0 ≤ p ∧ p < m) {j : Int} (hcj : c < j) : cn (Ql f p c) m.toNat 0 + cn (Bl f c) m.toNat 0 ≤ cn (Ql f p j) m.toNat 0 := by
  have h1 := cn_add (P := Bl f c) (Q := Ql f p c) (R := Ql f p j) m.toNat 0 (fun i i0 i1 hb => by
    obtain ⟨a, b⟩ := Bl_Ql hA hc hf hp (i := i) (by omega) hb
    exact ⟨Ql_mono (by omega) a, b⟩) (fun i i0 i1 hq => Ql_mono (by omega) hq)
  omega
theorem Nl_p (hA : Acy f m) (hp : 0 ≤ p ∧ p < m) : cn (Ql f p k) m.toNat 0 + 1 ≤ cn (Bl f p) m.toNat 0 := by
  refine cn_lt (p := p) (fun j h => ?_) ?_ ?_ m.toNat 0 (by omega) (by omega)
  · have h : (OV f p j && decide (chd f 40 p j < k)) = true := h
    rw [Bool.and_eq_true] at h
    show (decide (j = p) || OV f p j) = true
    rw [h.1, Bool.or_true]
  · show (OV f p p && _) = false
    rw [OV_ir (hA p hp.1 hp.2), Bool.false_and]
  · show (decide (p = p) || _) = true
    rw [decide_eq_true rfl, Bool.true_or]
end TREEB
section MODEL23
variable {g G H K : gH} {p code t c a b k q gp d x y z w v n l : Int}
theorem vM_writeTree {r : Int → Int} (hW : WB r) : ∀ (n : Nat) (p : Int) (G : gH), MInv G → G 625 = r → (0 ≤ p ∧ p < r 0) → cn (Bl (up r) p) (r 0).toNat 0 ≤ n → G 624 23 + 6 * cn (Bl (up r) p) (r 0).toNat 0 ≤ 400 → ∃ H, fM_writeTree n G 624 p = some (0, H) ∧ WR G H (6 * cn (Bl (up r) p) (r 0).toNat 0 - 1) := by
  have hA := hW.2.2.1
  have hM := hW.1
  intro n
  induction n with
  | zero =>
    intro p G o e hp hn hg
    have := Nl_p (k := 0) hA hp
    have := (cn_bd (Ql (up r) p 0) (r 0).toNat 0).1
    omega
  | succ n ih =>
    intro p G o e hp hn hg
    generalize hN : cn (Bl (up r) p) (r 0).toNat 0 = N at *
    have hq : ∀ k, 0 ≤ cn (Ql (up r) p k) (r 0).toNat 0 ∧ cn (Ql (up r) p k) (r 0).toNat 0 + 1 ≤ N := fun k => ⟨(cn_bd _ _ _).1, by rw [← hN]; exact Nl_p hA hp⟩
    have loop : ∀ (m n' : Nat) (i c0 : Int) (G : gH), MInv G → G 625 = r → (i = -1 ∨ ((0 ≤ i ∧ i < r 0) ∧ ic r i p 0 = true ∧ 40 - i ≤ m)) → m < n' → G 624 23 + (if i = -1 then 0 else 6 * (N - 1 - cn (Ql (up r) p i) (r 0).toNat 0)) + 1 ≤ 400 → ∃ H, lM_writeTree_26 (fM_writeTree n) 624 p c0 n' i G = some (0, H) ∧ WR G H ((if i = -1 then 0 else 6 * (N - 1 - cn (Ql (up r) p i) (r 0).toNat 0)) + 1) := by
      intro m
      induction m with
      | zero =>
        intro n' i c0 G o e hi hn' hg
        obtain ⟨n', rfl⟩ : ∃ k, n' = k + 1 := ⟨n' - 1, by omega⟩
        have hi' : i = -1 := by omega
        rw [if_pos hi'] at hg ⊢
        obtain ⟨H, e1, w1⟩ := vM_write (c := 41) o (by omega)
        refine ⟨H, ?_, WR_l w1 (by omega)⟩
        show bM_writeTree_26 (fM_writeTree n) 624 p c0 (lM_writeTree_26 (fM_writeTree n) 624 p c0 n') i G = _
        rw [bM_writeTree_26, if_pos hi', e1, bdN_s]
      | succ m ihm =>
        intro n' i c0 G o e hi hn' hg
        obtain ⟨n', rfl⟩ : ∃ k, n' = k + 1 := ⟨n' - 1, by omega⟩
        by_cases hi1 : i = -1
        · rw [if_pos hi1] at hg ⊢
          obtain ⟨H, e1, w1⟩ := vM_write (c := 41) o (by omega)
          refine ⟨H, ?_, WR_l w1 (by omega)⟩
          show bM_writeTree_26 (fM_writeTree n) 624 p c0 (lM_writeTree_26 (fM_writeTree n) 624 p c0 n') i G = _
          rw [bM_writeTree_26, if_pos hi1, e1, bdN_s]
        · rw [if_neg hi1] at hg ⊢
          obtain ⟨i0, ii, i2⟩ : (0 ≤ i ∧ i < r 0) ∧ ic r i p 0 = true ∧ 40 - i ≤ (m + 1 : Nat) := by rcases hi with h | h; exact absurd h hi1; exact h
          obtain ⟨-, j2, j3⟩ := of_decide_eq_true ii
          have hc : 0 < i ∧ i < r 0 := by omega
          have hup : up r i = p := j2
          have hcn := fun j hj => Nl_c hA hM.2 hc hup hp (j := j) hj
          have hcn1 := hcn (i + 1) (by omega)
          have hq1 := hq (i + 1)
          have hqi := hq i
          -- the rest: the child, then the next
          have rest : ∀ K, MInv K → K 625 = r → K 624 23 + 6 * (N - 1 - cn (Ql (up r) p i) (r 0).toNat 0) ≤ 400 → ∃ H, jM_writeTree_42 (fM_writeTree n) (lM_writeTree_26 (fM_writeTree n) 624 p c0 n') K 624 p c0 i = some (0, H) ∧ WR K H (6 * (N - 1 - cn (Ql (up r) p i) (r 0).toNat 0)) := by
            intro K oK eK hK
            obtain ⟨K1, f1, w1⟩ := ih i K oK eK ⟨by omega, hc.2⟩ (by omega) (by omega)
            have b1 := w1.2.2.2.2.2
            have eK1 : K1 625 = r := w1.2.2.2.1.trans eK
            obtain ⟨c, f2, hc2⟩ := vM_nextChild (G := K1) (a := p) (k := i + 1) w1.1.1 (by rw [eK1]; exact hM) (by omega)
            rw [eK1] at hc2
            have hrem : (if c = -1 then 0 else 6 * (N - 1 - cn (Ql (up r) p c) (r 0).toNat 0)) + 6 * cn (Bl (up r) i) (r 0).toNat 0 ≤ 6 * (N - 1 - cn (Ql (up r) p i) (r 0).toNat 0) := by
              by_cases z : c = -1
              · rw [if_pos z]; omega
              · rw [if_neg z]
                rcases hc2 with ⟨z1, -⟩ | ⟨z1, -⟩
                · exact absurd z1 z
                · have := hcn c (by omega)
                  omega
            obtain ⟨L, f3, w2⟩ := ihm n' c c0 K1 w1.1 eK1 (by
              rcases hc2 with ⟨z1, -⟩ | ⟨z1, z2, -⟩
              · exact Or.inl z1
              · exact Or.inr ⟨by omega, z2, by omega⟩) (by omega) (by omega)
            refine ⟨L, ?_, WR_l (WR_t w1 w2) (by omega)⟩
            rw [jM_writeTree_42, f1, bdN_s, w32_r (by omega), f2, bdP_s, f3]
          show ∃ H, bM_writeTree_26 (fM_writeTree n) 624 p c0 (lM_writeTree_26 (fM_writeTree n) 624 p c0 n') i G = some (0, H) ∧ _
          rw [bM_writeTree_26, if_neg hi1]
          by_cases hc0 : i = c0
          · rw [if_pos hc0]
            obtain ⟨H, f1, w1⟩ := rest G o e (by omega)
            exact ⟨H, f1, WR_l w1 (by omega)⟩
          · rw [if_neg hc0]
            obtain ⟨K, f1, w1⟩ := vM_write (c := 32) o (by omega)
            have b1 := w1.2.2.2.2.2
            obtain ⟨H, f2, w2⟩ := rest K w1.1 (w1.2.2.2.1.trans e) (by omega)
            rw [f1, bdN_s, f2]
            exact ⟨H, rfl, WR_l (WR_t w1 w2) (by omega)⟩
    have hq0 := hq 0
    show ∃ H, fbM_writeTree (fM_writeTree n) G 624 p = some (0, H) ∧ _
    obtain ⟨G1, f1, w1⟩ := vM_writeNumber (x := p) o (by omega) (by omega)
    have b1 := w1.2.2.2.2.2
    have e1 : G1 625 = r := w1.2.2.2.1.trans e
    obtain ⟨c, f2, hc2⟩ := vM_nextChild (G := G1) (a := p) (k := 0) w1.1.1 (by rw [e1]; exact hM) (by omega)
    rw [e1] at hc2
    rw [fbM_writeTree, f1, bdN_s, f2, bdP_s]
    by_cases hc1 : c = -1
    · rw [if_pos hc1]
      exact ⟨G1, rfl, WR_l w1 (by omega)⟩
    · rw [if_neg hc1]
      rcases hc2 with ⟨z, -⟩ | ⟨z1, z2, -⟩
      · exact absurd z hc1
      · obtain ⟨G2, f3, w2⟩ := vM_write (c := 40) w1.1 (by omega)
        have b2 := w2.2.2.2.2.2
        have hqc := hq c
        have hf := fu_ge
        obtain ⟨H, f4, w3⟩ := loop 40 fu c c G2 w2.1 (w2.2.2.2.1.trans e1) (Or.inr ⟨z1, z2, by omega⟩) (by omega) (by rw [if_neg hc1]; omega)
        rw [if_neg hc1] at w3
        rw [f3, bdN_s, f4]
        exact ⟨H, rfl, WR_l (WR_t (WR_t w1 w2) w3) (by omega)⟩
end MODEL23
/-! ===== the reference's print (own work) ===== -/
section MODEL24
variable {g G H K : gH} {p code t c a b k q gp d x y z w v n l : Int}
theorem MInv_ol (h : MInv g) (hn : 0 ≤ n ∧ n ≤ 400) : MInv (pU g 624 23 n) := by
  obtain ⟨h1, h2, h3, ⟨h4, h5⟩, h6, h7, h8⟩ := h
  unfold MInv MS
  simp (disch := omega) only [pU_n, pU_s, u1_n, u1_s]
  exact ⟨h1, h2, h3, ⟨h4, h5⟩, h6, h7, hn⟩
theorem OK_WR (h : OKg g G) (w : WR G H k) : OKg g H := ⟨w.1, fun x hx => (w.2.1 x hx).trans (h.2.1 x hx), KI_t h.2.2 w.2.2.1⟩
theorem p_126 (o : OKg g G) (h : G 624 23 < 400) : PO g (jM_print_126 G 624) := by
  rw [jM_print_126]
  refine po_ite (fun _ => ?_) (fun _ => PO_i rfl o)
  obtain ⟨H, e, w⟩ := vM_write (c := 45) o.1 h
  rw [e, bdN_s]
  exact PO_i rfl (OK_WR o w)
theorem p_81 (o : OKg g G) (ha : ¬ a = 3) (ha' : ¬ a = 4) (h : G 624 23 < 400) : PO g (lM_print_81 624 p a fu 0 G) := by
  have hf := fu_ge
  obtain ⟨n, hn⟩ : ∃ n, fu = n + 1 := ⟨fu - 1, by omega⟩
  rw [hn]
  show PO g (bM_print_81 624 p a (lM_print_81 624 p a n) 0 G)
  rw [bM_print_81, if_pos (by omega), if_neg ha, jM_print_116, if_neg ha']
  exact p_126 o h
theorem p_81z (o : OKg g G) (h : G 624 23 = 0) : PO g (lM_print_81 624 p 4 fu 0 G) := by
  have hf := fu_ge
  obtain ⟨n, hn⟩ : ∃ n, fu = n + 1 := ⟨fu - 1, by omega⟩
  rw [hn]
  show PO g (bM_print_81 624 p 4 (lM_print_81 624 p 4 n) 0 G)
  rw [bM_print_81, if_pos (by omega), if_neg (by omega), jM_print_116, if_pos rfl]
  obtain ⟨H, e, w⟩ := vM_writeZombies (p := p) o.1 h
  rw [e, bdN_s]
  have := w.2.2.2.2.2
  exact p_126 (OK_WR o w) (by omega)
theorem p_81d : ∀ (m n : Nat) (i : Int) (G : gH), OKg g G → (8 - i).toNat = m → m < n → 0 ≤ i → G 624 23 + 3 * m < 400 → PO g (lM_print_81 624 p 3 n i G) := by
  intro m
  induction m with
  | zero =>
    intro n i G o hm hn hi hg
    obtain ⟨n, rfl⟩ : ∃ k, n = k + 1 := ⟨n - 1, by omega⟩
    show PO g (bM_print_81 624 p 3 (lM_print_81 624 p 3 n) i G)
    rw [bM_print_81, if_neg (by omega), jM_print_116, if_neg (by omega)]
    exact p_126 o (by omega)
  | succ m ih =>
    intro n i G o hm hn hi hg
    obtain ⟨n, rfl⟩ : ∃ k, n = k + 1 := ⟨n - 1, by omega⟩
    have h0 := o.1.1.1
    have hi8 : i < 8 := by omega
    show PO g (bM_print_81 624 p 3 (lM_print_81 624 p 3 n) i G)
    rw [bM_print_81, if_pos hi8, if_pos rfl]
    refine po_t (by (simp (disch := omega) only [h0, kd_625, sz_625, w32_r, true_and, le_t, lt_t, and_true])) ?_
    refine po_ite (fun _ => ?_) (fun _ => ?_)
    · obtain ⟨H, e, w⟩ := vM_writeNumber (x := i) o.1 (by omega) (by omega)
      have := w.2.2.2.2.2
      rw [e, bdN_s, w32_r (by omega)]
      exact ih n (i + 1) H (OK_WR o w) (by omega) (by omega) (by omega) (by omega)
    · rw [w32_r (by omega)]
      exact ih n (i + 1) G o (by omega) (by omega) (by omega) (by omega)
theorem oM_print (hi : MInv g) : PO g (fM_print g 624 p a) := by
  refine po_np hi (fun hp => ?_)
  have o1 := o0 hi
  have hM := hi.2.1.1.1
  have hf := fu_ge
  have e25 : (th g 0) 625 = g 625 := th_n (by omega)
  rw [vM_inRange, bdP_s]
  by_cases h : 0 ≤ a ∧ a ≤ 4
  · simp only [if_pos h, f0, if_false, jM_print_23, kd_c624, if_true, vM_fails (Or.inl rfl), bdN_s, vM_isGone o1.1.1 (show 0 ≤ p ∧ p < 40 by omega), bdP_s]
    by_cases hg : (th g 0) 625 (140 + p) = 2
    · simp only [if_pos hg, vM_fails (Or.inr rfl), bdN_s, f0, if_false]
      exact PO_i rfl (OK_th o1)
    · simp only [if_neg hg, vM_fails (Or.inl rfl), bdN_s, if_true, bnd_s]
      have o2 : OKg g (pU (th g 0) 624 23 0) := ⟨MInv_ol o1.1 (by omega), MF_pU o1.2.1 (by omega), KI_e o1.2.2 (fun k k0 k1 => by rw [pU_s, u1_n (by omega)]) (pU_n (by omega))⟩
      have z : pU (th g 0) 624 23 0 624 23 = 0 := by rw [pU_s, u1_s]
      have e26 : pU (th g 0) 624 23 0 625 = g 625 := by rw [pU_n (by omega), e25]
      generalize pU (th g 0) 624 23 0 = G at *
      have hp' : 0 ≤ p ∧ p < G 625 0 := by rw [e26]; exact hp
      rcases (show a = 0 ∨ a = 1 ∨ a = 2 ∨ a = 3 ∨ a = 4 by omega) with e | e | e | e | e
      · subst e
        obtain ⟨H, e, w⟩ := vM_writePath o2.1 hp' z
        have := w.2.2.2.2.2
        rw [if_pos rfl, e, bdN_s, jM_print_59, if_neg (by omega), jM_print_69, if_neg (by omega)]
        exact p_81 (OK_WR o2 w) (by omega) (by omega) (by omega)
      · subst e
        obtain ⟨H, e, w⟩ := vM_writeChildren (p := p) o2.1 z
        have := w.2.2.2.2.2
        rw [if_neg (by omega), jM_print_59, if_pos rfl, e, bdN_s, jM_print_69, if_neg (by omega)]
        exact p_81 (OK_WR o2 w) (by omega) (by omega) (by omega)
      · subst e
        have hN : cn (Bl (up (G 625)) p) (G 625 0).toNat 0 ≤ 40 := by
          have := (cn_bd (Bl (up (G 625)) p) (G 625 0).toNat 0).2
          rw [e26] at this ⊢
          omega
        obtain ⟨H, e, w⟩ := vM_writeTree o2.1.2.1.1 fr p G o2.1 rfl hp' (by unfold fr; omega) (by omega)
        have := w.2.2.2.2.2
        rw [if_neg (by omega), jM_print_59, if_neg (by omega), jM_print_69, if_pos rfl, e, bdN_s]
        exact p_81 (OK_WR o2 w) (by omega) (by omega) (by omega)
      · subst e
        rw [if_neg (by omega), jM_print_59, if_neg (by omega), jM_print_69, if_neg (by omega)]
        exact p_81d 8 fu 0 G o2 (by omega) (by omega) (by omega) (by omega)
      · subst e
        rw [if_neg (by omega), jM_print_59, if_neg (by omega), jM_print_69, if_neg (by omega)]
        exact p_81z o2 z
  · simp only [if_neg h, if_true, jM_print_23, kd_c624, vM_fails (Or.inr rfl), bdN_s, f0, if_false]
    exact PO_i rfl (OK_th o1)
end MODEL24
/-! ===== the reference's walk: it reaches whatever runs (own work) ===== -/
theorem cn_or1 {P Q : Int → Bool} {j : Int} : ∀ (m : Nat) (k : Int), (∀ x, k ≤ x → x < k + m → P x = true → Q x = true ∨ x = j) → cn P m k ≤ cn Q m k + (if k ≤ j then 1 else 0) := by
  intro m
  induction m with
  | zero => intro k _; unfold cn; split <;> omega
  | succ m ih =>
    intro k h
    rw [cn_s, cn_s]
    have h1 := ih (k + 1) (fun x x1 x2 => h x (by omega) (by omega))
    cases hp : P k with
    | false =>
      simp only [Bool.false_eq_true, if_false]
      split at h1 <;> split <;> split <;> omega
    | true =>
      rcases h k (by omega) (by omega) hp with hq | hq
      · rw [hq]; simp only [if_true]
        split at h1 <;> split <;> omega
      · subst hq
        simp only [if_true]
        split at h1 <;> split <;> split <;> omega
section WALKB
variable {f : Int → Int} {p q c i k m x s : Int}
theorem Bl_i : Bl f i i = true := by
  show (decide (i = i) || _) = true
  rw [decide_eq_true rfl, Bool.true_or]
theorem Bl_ov (h : OV f p i = true) : Bl f p i = true := by
  show (_ || OV f p i) = true
  rw [h, Bool.or_true]
theorem Bl_or (h : Bl f p i = true) : i = p ∨ OV f p i = true := by
  have h : (decide (i = p) || OV f p i) = true := h
  rw [Bool.or_eq_true] at h
  rcases h with h | h
  · exact Or.inl (of_decide_eq_true h)
  · exact Or.inr h
/-- one step further down -/
theorem Bl_s (hx : en f 40 x = true) (h0 : x ≠ 0) (h : Bl f c (f x) = true) : Bl f c x = true := by
  apply Bl_ov
  rw [OV_s hx h0]
  rcases Bl_or h with e | e
  · rw [if_pos e]
  · rw [e]; split <;> rfl
theorem Bl_up (hx : en f 40 x = true) (h0 : x ≠ 0) (h : Bl f c x = true) : x = c ∨ Bl f c (f x) = true := by
  rcases Bl_or h with e | e
  · exact Or.inl e
  · right
    rw [OV_s hx h0] at e
    by_cases e2 : f x = c
    · rw [e2]; exact Bl_i
    · rw [if_neg e2] at e; exact Bl_ov e
theorem Bl_par (hA : Acy f m) (hc : 0 < c ∧ c < m) (hx : 0 ≤ x ∧ x < m) (h : Bl f c x = true) : OV f (f c) x = true := by
  have hcf : OV f (f c) c = true := by rw [OV_s (hA c (by omega) hc.2) (by omega), if_pos rfl]
  rcases Bl_or h with e | e
  · rw [e]; exact hcf
  · exact OV_tr (p := f c) (q := c) (hA x hx.1 hx.2) (hA c (by omega) hc.2) e hcf
/-- the child by which p is over x -/
theorem OV_ch (hcl : ∀ i, 0 < i → i < m → 0 ≤ f i ∧ f i < m) (hA : Acy f m) : ∀ (n : Nat) (x : Int), en f n x = true → 0 ≤ x ∧ x < m → OV f p x = true → ∃ c, (0 < c ∧ c < m) ∧ f c = p ∧ Bl f c x = true := by
  intro n
  induction n with
  | zero =>
    intro x hx hr ho
    have e : x = 0 := by simpa [en] using hx
    rw [e, OV_0] at ho; cases ho
  | succ n ih =>
    intro x hx hr ho
    have h0 : x ≠ 0 := fun z => by rw [z, OV_0] at ho; cases ho
    have hx4 := hA x hr.1 hr.2
    rw [OV_s hx4 h0] at ho
    by_cases e : f x = p
    · exact ⟨x, ⟨by omega, hr.2⟩, e, Bl_i⟩
    · rw [if_neg e] at ho
      have hup : en f n (f x) = true := by
        rcases en_s.mp hx with z | ⟨-, -, z⟩
        · exact absurd z h0
        · exact z
      have hf := hcl x (by omega) hr.2
      obtain ⟨c, hc, h1, h2⟩ := ih (f x) hup hf ho
      exact ⟨c, hc, h1, Bl_s hx4 h0 h2⟩
theorem Bl_0 (hcl : ∀ i, 0 < i → i < m → 0 ≤ f i ∧ f i < m) : ∀ (n : Nat) (x : Int), en f n x = true → 0 ≤ x ∧ x < m → Bl f 0 x = true := by
  intro n
  induction n with
  | zero =>
    intro x hx hr
    have e : x = 0 := by simpa [en] using hx
    rw [e]; exact Bl_i
  | succ n ih =>
    intro x hx hr
    by_cases h0 : x = 0
    · rw [h0]; exact Bl_i
    · have hup : en f n (f x) = true := by
        rcases en_s.mp hx with z | ⟨-, -, z⟩
        · exact absurd z h0
        · exact z
      exact Bl_s (en_40 hx) h0 (ih _ hup (hcl x (by omega) hr.2))
end WALKB
/-- whatever is over a running process runs -/
theorem Bl_run {r : Int → Int} {c : Int} (hW : WBF r) : ∀ (n : Nat) (x : Int), en (up r) n x = true → 0 ≤ x ∧ x < r 0 → r (140 + x) = 0 → Bl (up r) c x = true → r (140 + c) = 0 := by
  intro n
  induction n with
  | zero =>
    intro x hx hr hs hb
    have e : x = 0 := by simpa [en] using hx
    rcases Bl_or hb with h | h
    · rw [← h]; exact hs
    · rw [e, OV_0] at h; cases h
  | succ n ih =>
    intro x hx hr hs hb
    by_cases h0 : x = 0
    · rcases Bl_or hb with h | h
      · rw [← h]; exact hs
      · rw [h0, OV_0] at h; cases h
    · rcases Bl_up (en_40 hx) h0 hb with e | e
      · rw [← e]; exact hs
      · have hup : en (up r) n (up r x) = true := by
          rcases en_s.mp hx with z | ⟨-, -, z⟩
          · exact absurd z h0
          · exact z
        have hf := hW.1.2.1 x (by omega) hr.2
        exact ih (up r x) hup hf (hW.2.2.1 x (by omega) hr.2 (by omega)) e
/-- what was met when the walk stands at i -/
def VP (r : Int → Int) (i x : Int) : Prop := (0 ≤ x ∧ x < r 0) ∧ r (140 + x) = 0 ∧ (Bl (up r) x i = true ∨ ∃ c s, Bl (up r) c i = true ∧ (0 < c ∧ c < r 0) ∧ (0 < s ∧ s < c) ∧ up r s = up r c ∧ Bl (up r) s x = true)
section MODEL25
variable {g G H K : gH} {p code t c a b k q gp d x y z w v n l i : Int}
theorem ic_w {r : Int → Int} (h : ic r c a t = true) : r (140 + c) = t ∧ up r c = a ∧ c ≠ 0 := of_decide_eq_true h
theorem ic_f {r : Int → Int} (h : ic r c a t = false) (h1 : r (140 + c) = t) (h2 : up r c = a) (h3 : c ≠ 0) : False := by
  have : ic r c a t = true := decide_eq_true ⟨h1, h2, h3⟩
  rw [this] at h; cases h
theorem vM_walkOn (o : MInv G) (hi : 0 ≤ i ∧ i < G 625 0) (hst : G 625 (140 + i) = 0) : ∃ j, fM_walkOn G 624 i = some j ∧ ((j = -1 ∧ ∀ x, 0 ≤ x ∧ x < G 625 0 → G 625 (140 + x) = 0 → VP (G 625) i x) ∨ ((0 ≤ j ∧ j < G 625 0) ∧ G 625 (140 + j) = 0 ∧ ∀ x, VP (G 625) j x → VP (G 625) i x ∨ x = j)) := by
  have hs := o.1
  have h0 := hs.1
  have hW := o.2.1
  have hcl := hW.1.2.1
  have hA := hW.1.2.2.1
  have hM := hW.1.1
  generalize hr : G 625 = r at *
  have run : ∀ c x, 0 ≤ x ∧ x < r 0 → r (140 + x) = 0 → Bl (up r) c x = true → r (140 + c) = 0 := fun c x hx hs hb => Bl_run hW 40 x (hA x hx.1 hx.2) hx hs hb
  have nc : ∀ a k, (0 ≤ k ∧ k ≤ 40) → ∃ c, fM_nextChild G 624 a k = some c ∧ ((c = -1 ∧ ∀ j, k ≤ j → j < r 0 → ic r j a 0 = false) ∨ ((k ≤ c ∧ c < r 0) ∧ ic r c a 0 = true ∧ ∀ j, k ≤ j → j < c → ic r j a 0 = false)) := by
    intro a k hk
    have := vM_nextChild (G := G) (a := a) (k := k) hs (by rw [hr]; exact hM) hk
    rw [hr] at this
    exact this
  have key : ∀ (m n : Nat) (u : Int), en (up r) m u = true → (0 ≤ u ∧ u < r 0) → m + 1 < n → Bl (up r) u i = true → (∀ x, 0 ≤ x ∧ x < r 0 → r (140 + x) = 0 → Bl (up r) u x = true → VP r i x) → ∃ j, lM_walkOn_9 G 624 n (-1) u = some j ∧ ((j = -1 ∧ ∀ x, 0 ≤ x ∧ x < r 0 → r (140 + x) = 0 → VP r i x) ∨ ((0 ≤ j ∧ j < r 0) ∧ r (140 + j) = 0 ∧ ∀ x, VP r j x → VP r i x ∨ x = j)) := by
    intro m
    induction m with
    | zero =>
      intro n u hu hur hn hb hI
      obtain ⟨n, rfl⟩ : ∃ k, n = k + 1 := ⟨n - 1, by omega⟩
      have e : u = 0 := by simpa [en] using hu
      refine ⟨-1, ?_, Or.inl ⟨rfl, fun x hx hsx => hI x hx hsx (by rw [e]; exact Bl_0 hcl 40 x (hA x hx.1 hx.2) hx)⟩⟩
      show bM_walkOn_9 G 624 (lM_walkOn_9 G 624 n) (-1) u = _
      rw [bM_walkOn_9, if_pos rfl, if_pos e]
    | succ m ih =>
      intro n u hu hur hn hb hI
      obtain ⟨n, rfl⟩ : ∃ k, n = k + 2 := ⟨n - 2, by omega⟩
      by_cases e : u = 0
      · refine ⟨-1, ?_, Or.inl ⟨rfl, fun x hx hsx => hI x hx hsx (by rw [e]; exact Bl_0 hcl 40 x (hA x hx.1 hx.2) hx)⟩⟩
        show bM_walkOn_9 G 624 (lM_walkOn_9 G 624 (n + 1)) (-1) u = _
        rw [bM_walkOn_9, if_pos rfl, if_pos e]
      · have hup : en (up r) m (up r u) = true := by
          rcases en_s.mp hu with z | ⟨-, -, z⟩
          · exact absurd z e
          · exact z
        have hur' := hcl u (by omega) hur.2
        have hue : en (up r) 40 u = true := hA u hur.1 hur.2
        obtain ⟨c, f1, hc⟩ := nc (up r u) (u + 1) (by omega)
        have f1 : fM_nextChild G 624 (r (60 + u)) (u + 1) = some c := f1
        have st : lM_walkOn_9 G 624 (n + 2) (-1) u = lM_walkOn_9 G 624 (n + 1) c (up r u) := by
          show bM_walkOn_9 G 624 (lM_walkOn_9 G 624 (n + 1)) (-1) u = _
          rw [bM_walkOn_9, if_pos rfl, if_neg e]
          simp (disch := omega) only [h0, hr, kd_625, sz_625, w32_r, true_and, le_t, lt_t, and_true, ↓reduceIte, f1, bdP_s]
          rfl
        have hbu : Bl (up r) (up r u) i = true := Bl_ov (Bl_par hA ⟨by omega, hur.2⟩ hi hb)
        rw [st]
        rcases hc with ⟨hc1, hc2⟩ | ⟨hc1, hc2, hc3⟩
        · rw [hc1]
          refine ih (n + 1) (up r u) hup hur' (by omega) hbu (fun x hx hsx hbx => ?_)
          rcases Bl_or hbx with e2 | e2
          · exact ⟨hx, hsx, Or.inl (by rw [e2]; exact hbu)⟩
          · obtain ⟨d, d1, d2, d3⟩ := OV_ch hcl hA 40 x (hA x hx.1 hx.2) hx e2
            have dr := run d x hx hsx d3
            by_cases l1 : d = u
            · rw [l1] at d3; exact hI x hx hsx d3
            · by_cases l2 : d < u
              · exact ⟨hx, hsx, Or.inr ⟨u, d, hb, ⟨by omega, hur.2⟩, ⟨d1.1, l2⟩, d2, d3⟩⟩
              · exact (ic_f (hc2 d (by omega) d1.2) dr d2 (by omega)).elim
        · obtain ⟨k1, k2, k3⟩ := ic_w hc2
          refine ⟨c, ?_, Or.inr ⟨by omega, k1, fun x hv => ?_⟩⟩
          · show bM_walkOn_9 G 624 (lM_walkOn_9 G 624 n) c (up r u) = _
            rw [bM_walkOn_9, if_neg (by omega)]
          · obtain ⟨hx, hsx, hv⟩ := hv
            have hce := hA c (by omega) hc1.2
            rcases hv with hv | ⟨d, s, d1, d2, d3, d4, d5⟩
            · rcases Bl_up hce k3 hv with e2 | e2
              · exact Or.inr e2.symm
              · rw [k2] at e2
                left
                refine ⟨hx, hsx, Or.inl ?_⟩
                -- x is over u's supervisor, so over i
                rcases Bl_or hbu with e3 | e3
                · rw [e3]; exact e2
                · rcases Bl_or e2 with e4 | e4
                  · rw [← e4]; exact hbu
                  · exact Bl_ov (OV_tr (p := x) (q := up r u) (hA i hi.1 hi.2) (hA _ hur'.1 hur'.2) e3 e4)
            · left
              rcases Bl_up hce k3 d1 with e2 | e2
              · -- d is c itself: its left siblings
                subst e2
                have sr := run s x hx hsx d5
                by_cases l1 : s = u
                · rw [l1] at d5; exact hI x hx hsx d5
                · by_cases l2 : s < u
                  · exact ⟨hx, hsx, Or.inr ⟨u, s, hb, ⟨by omega, hur.2⟩, ⟨d3.1, l2⟩, by rw [d4, k2], d5⟩⟩
                  · exact (ic_f (hc3 s (by omega) d3.2) sr (by rw [d4, k2]) (by omega)).elim
              · rw [k2] at e2
                refine ⟨hx, hsx, Or.inr ⟨d, s, ?_, d2, d3, d4, d5⟩⟩
                rcases Bl_or hbu with e3 | e3
                · rw [e3]; exact e2
                · rcases Bl_or e2 with e4 | e4
                  · rw [← e4]; exact hbu
                  · exact Bl_ov (OV_tr (p := d) (q := up r u) (hA i hi.1 hi.2) (hA _ hur'.1 hur'.2) e3 e4)
  have hf := fu_ge
  obtain ⟨c, f1, hc⟩ := nc i 0 (by omega)
  rw [fM_walkOn, f1, bdP_s]
  rcases hc with ⟨hc1, hc2⟩ | ⟨hc1, hc2, hc3⟩
  · rw [hc1]
    refine key 40 fu i (hA i hi.1 hi.2) hi (by omega) Bl_i (fun x hx hsx hbx => ?_)
    rcases Bl_or hbx with e2 | e2
    · exact ⟨hx, hsx, Or.inl (by rw [e2]; exact Bl_i)⟩
    · obtain ⟨d, d1, d2, d3⟩ := OV_ch hcl hA 40 x (hA x hx.1 hx.2) hx e2
      exact (ic_f (hc2 d (by omega) d1.2) (run d x hx hsx d3) d2 (by omega)).elim
  · obtain ⟨k1, k2, k3⟩ := ic_w hc2
    obtain ⟨n, hn⟩ : ∃ n, fu = n + 1 := ⟨fu - 1, by omega⟩
    refine ⟨c, ?_, Or.inr ⟨by omega, k1, fun x hv => ?_⟩⟩
    · rw [hn]
      show bM_walkOn_9 G 624 (lM_walkOn_9 G 624 n) c i = _
      rw [bM_walkOn_9, if_neg (by omega)]
    · obtain ⟨hx, hsx, hv⟩ := hv
      have hce := hA c (by omega) hc1.2
      rcases hv with hv | ⟨d, s, d1, d2, d3, d4, d5⟩
      · rcases Bl_up hce k3 hv with e2 | e2
        · exact Or.inr e2.symm
        · rw [k2] at e2; exact Or.inl ⟨hx, hsx, Or.inl e2⟩
      · left
        rcases Bl_up hce k3 d1 with e2 | e2
        · subst e2
          have sr := run s x hx hsx d5
          exact (ic_f (hc3 s (by omega) d3.2) sr (by rw [d4, k2]) (by omega)).elim
        · rw [k2] at e2
          exact ⟨hx, hsx, Or.inr ⟨d, s, e2, d2, d3, d4, d5⟩⟩
noncomputable def VB (r : Int → Int) (i x : Int) : Bool := @decide (VP r i x) (Classical.propDecidable _)
theorem VB_t {r : Int → Int} : VB r i x = true ↔ VP r i x := @decide_eq_true_iff _ (Classical.propDecidable _)
theorem oM_walked (hi : MInv g) : PO g (fM_walked g 624 a) := by
  have hf := fu_ge
  have o1 := o0 hi
  have hW := o1.1.2.1
  have hM := hW.1.1
  rw [fM_walked, bnd_s, o8 hi, vM_runningMany o1.1.1 hM, bdP_s, vM_inRange, bdP_s]
  generalize th g 0 = G at *
  have hn := cn_bd (fun c => decide (G 625 (140 + c) = 0)) (G 625 0).toNat 0
  rw [w32_r (by omega)]
  by_cases h : 0 ≤ a ∧ a ≤ cn (fun c => decide (G 625 (140 + c) = 0)) (G 625 0).toNat 0 - 1
  · simp only [if_pos h, f0, if_false, jM_walked_25, kd_c624, if_true, vM_fails (Or.inl rfl), bdN_s]
    have key : ∀ (m n : Nat) (v k : Int), (a - k).toNat = m → m < n → 0 ≤ k → (0 ≤ v ∧ v < G 625 0) → G 625 (140 + v) = 0 → cn (VB (G 625) v) (G 625 0).toNat 0 ≤ k + 1 → PO g (lM_walked_38 G 624 a n v k) := by
      intro m
      induction m with
      | zero =>
        intro n v k hm hn hk hv hsv hc
        obtain ⟨n, rfl⟩ : ∃ k, n = k + 1 := ⟨n - 1, by omega⟩
        show PO g (bM_walked_38 G 624 a (lM_walked_38 G 624 a n) v k)
        rw [bM_walked_38, if_neg (by omega)]
        exact PO_i rfl o1
      | succ m ih =>
        intro n v k hm hn' hk hv hsv hc
        obtain ⟨n, rfl⟩ : ∃ k, n = k + 1 := ⟨n - 1, by omega⟩
        show PO g (bM_walked_38 G 624 a (lM_walked_38 G 624 a n) v k)
        obtain ⟨j, f1, hj⟩ := vM_walkOn o1.1 hv hsv
        rw [bM_walked_38, if_pos (by omega), f1, bdP_s, w32_r (by omega)]
        rcases hj with ⟨j1, j2⟩ | ⟨j1, j2, j3⟩
        · exfalso
          have : cn (fun c => decide (G 625 (140 + c) = 0)) (G 625 0).toNat 0 ≤ cn (VB (G 625) v) (G 625 0).toNat 0 := by
            have := cn_add (P := fun c => decide (G 625 (140 + c) = 0)) (Q := fun _ => false) (R := VB (G 625) v) (G 625 0).toNat 0 (fun x x1 x2 hx => ⟨VB_t.mpr (j2 x ⟨by omega, by omega⟩ (of_decide_eq_true hx)), rfl⟩) (fun x x1 x2 hx => by cases hx)
            have := (cn_bd (fun _ => false) (G 625 0).toNat 0).1
            omega
          omega
        · refine ih n j (k + 1) (by omega) (by omega) (by omega) j1 j2 ?_
          have := cn_or1 (P := VB (G 625) j) (Q := VB (G 625) v) (j := j) (G 625 0).toNat 0 (fun x x1 x2 hx => by
            rcases j3 x (VB_t.mp hx) with e | e
            · exact Or.inl (VB_t.mpr e)
            · exact Or.inr e)
          rw [if_pos j1.1] at this
          omega
    refine key a.toNat fu 0 0 (by omega) (by omega) (by omega) (by omega) hW.2.1.2 ?_
    have := cn_or1 (P := VB (G 625) 0) (Q := fun _ => false) (j := 0) (G 625 0).toNat 0 (fun x x1 x2 hx => by
      right
      obtain ⟨hx1, -, hx2⟩ := VB_t.mp hx
      rcases hx2 with e | ⟨c, s, e, hc, -⟩
      · rcases Bl_or e with e | e
        · exact e.symm
        · rw [OV_0] at e; cases e
      · rcases Bl_or e with e | e
        · omega
        · rw [OV_0] at e; cases e)
    rw [if_pos (by omega)] at this
    have h2 : cn (fun _ => false) (G 625 0).toNat 0 ≤ 0 := by
      have : ∀ (m : Nat) (k : Int), cn (fun _ => false) m k ≤ 0 := by
        intro m
        induction m with
        | zero => intro k; exact Int.le_refl _
        | succ m ih => intro k; rw [cn_s]; have := ih (k + 1); simp only [Bool.false_eq_true, if_false]; omega
      exact this _ _
    omega
  · simp only [if_neg h, if_true, jM_walked_25, kd_c624, vM_fails (Or.inr rfl), bdN_s, f0, if_false]
    exact PO_i rfl (OK_th o1)
end MODEL25
/-! ===== the reference's shares (own work) ===== -/
theorem n64_ok {r : UInt64} (h : FP.Core.dIsNaN r = false) : ev_n64 r = true := by
  have h1 := (FP.Core.ne_nan r).mp ((FP.Core.notNaN_iff r).mp h)
  unfold ev_n64
  apply decide_eq_true
  rw [UInt64.le_iff_toNat_le, UInt64.toNat_and]
  show r.toNat &&& (2 ^ 63 - 1) ≤ 9218868437227405312
  rw [Nat.and_two_pow_sub_one_eq_mod]
  exact h1
theorem n32_ok {r : UInt32} (h : FP.Core.fIsNaN r = false) : ev_n32 r = true := by
  have h1 := (FP.Core.ne_nan32 r).mp ((FP.Core.notNaN_iff32 r).mp h)
  unfold ev_n32
  apply decide_eq_true
  rw [UInt32.le_iff_toNat_le, UInt32.toNat_and]
  show r.toNat &&& (2 ^ 31 - 1) ≤ 2139095040
  rw [Nat.and_two_pow_sub_one_eq_mod]
  exact h1
theorem toI_ne {y : Int} (hy : InR y) (h0 : y ≠ 0) : toI y ≠ 0 := by
  intro h
  have h1 : BitVec.ofNat 32 (y % 4294967296).toNat = 0#32 := congrArg Int32.toBitVec h
  have h2 := congrArg BitVec.toNat h1
  rw [BitVec.toNat_ofNat] at h2
  have h3 : (y % 4294967296).toNat % 2 ^ 32 = 0 := h2
  unfold InR at hy
  omega
theorem okd {x y : Int} (hy : toI y ≠ 0) : okddiv (gi2d x) (gi2d y) = true := by
  have h := FP.Core.ddiv_out (FP.Core.DFin.notNaN (FP.Core.i2d_fin (toI x))) (FP.Core.i2d_fin (toI y)) (fun hz => FP.Core.i2d_ne_zero hy ((FP.Core.zero_bits2 _).mp hz))
  unfold okddiv gi2d
  rw [Int.toNat_natCast, Int.toNat_natCast, UInt64.ofNat_toNat, UInt64.ofNat_toNat]
  exact n64_ok h
theorem okf {x y : Int} (hy : toI y ≠ 0) : okfdiv (gi2f x) (gi2f y) = true := by
  have h := FP.Core.fdiv_out (FP.Core.FFin.notNaN (FP.Core.i2f_fin (toI x))) (FP.Core.i2f_fin (toI y)) (fun hz => FP.Core.i2f_ne_zero hy ((FP.Core.zero_bits232 _).mp hz))
  unfold okfdiv gi2f
  rw [Int.toNat_natCast, Int.toNat_natCast, UInt32.ofNat_toNat, UInt32.ofNat_toNat]
  exact n32_ok h
section MODEL26
variable {g G H K : gH} {p code t c a b k q gp d x y z w v n l i : Int}
theorem HR_g (h : HR g) (e : kd a = 20) : InR (g a k) := by
  have h1 := h a k
  rw [e] at h1
  exact h1
theorem HR_625 (h : HR g) : InR (g 625 k) := HR_g h kd_625
theorem HR_th (h : HR g) : InR ((th g 0) 625 k) := by
  rw [th_n (by omega)]; exact HR_625 h
theorem oM_readShare (hi : MInv g) : PO g (fM_readShare g 624) := by
  have o1 := o0 hi
  have h0 := o1.1.1.1
  have hE := o1.1.2.1.2.2.2.1.1
  rw [fM_readShare, bnd_s, o8 hi]
  obtain ⟨v, e⟩ := q_inState o1 (a := 2)
  have e : fM_inState (th g 0) 624 2 = some v := e
  simp (disch := omega) only [h0, kd_625, sz_625, w32_r, true_and, le_t, lt_t, and_true, ↓reduceIte, e, bdP_s]
  refine po_ite (fun _ => PO_i rfl o1) (fun hz => ?_)
  rw [if_pos (okd (toI_ne (by unfold InR; omega) hz))]
  exact PO_i rfl o1
theorem oM_rootShare (hi : MInv g) (hg : HR g) : PO g (fM_rootShare g 624) := by
  have o1 := o0 hi
  have h0 := o1.1.1.1
  have hE := HR_th (k := 2) hg
  rw [fM_rootShare, bnd_s, o8 hi]
  simp (disch := omega) only [h0, kd_625, sz_625, w32_r, true_and, le_t, lt_t, and_true, ↓reduceIte]
  refine po_ite (fun _ => PO_i rfl o1) (fun hz => ?_)
  rw [if_pos (okf (toI_ne hE hz))]
  exact PO_i rfl o1
theorem oM_meanDepth (hi : MInv g) : PO g (fM_meanDepth g 624) := by
  have hf := fu_ge
  have o1 := o0 hi
  have hs := o1.1.1
  have h0 := hs.1
  have w := o1.1.2.1.1
  have hM := w.1
  have hST := o1.1.2.1.2.1.2
  rw [fM_meanDepth, bnd_s, o8 hi]
  generalize th g 0 = G at *
  have hpos : 1 ≤ cn (fun c => decide (G 625 (140 + c) = 0)) (G 625 0).toNat 0 := by
    have h1 := cn_lt (P := fun _ => false) (Q := fun c => decide (G 625 (140 + c) = 0)) (fun j z => by cases z) (p := 0) rfl (decide_eq_true hST) (G 625 0).toNat 0 (by omega) (by omega)
    have h2 := (cn_bd (fun _ => false) (G 625 0).toNat 0).1
    omega
  have hle := (cn_bd (fun c => decide (G 625 (140 + c) = 0)) (G 625 0).toNat 0).2
  obtain ⟨v, e⟩ := for_any (L := fun n k v => lM_meanDepth_9 G 624 n v k) (E := fun v => jM_meanDepth_45 G 624 v) 0 (G 625 0) (fun n k v hl hk => by
    have f1 := vM_runs (g := G) (p := k) hs (by omega)
    have hA := w.2.2.1 k (by omega) hk
    have f2 := vM_deep (g := G) (x := k) hs hA
    show ∃ s', bM_meanDepth_9 G 624 (lM_meanDepth_9 G 624 n) v k = _
    rw [bM_meanDepth_9]
    simp (disch := omega) only [f1, f2, bdP_s, h0, kd_625, sz_625, w32_r, true_and, le_t, lt_t, and_true, ↓reduceIte]
    repeat' (first | exact ⟨_, rfl⟩ | refine ex_ite (fun _ => ?_) (fun _ => ?_))) (fun n k v hl hk => by
    show bM_meanDepth_9 G 624 (lM_meanDepth_9 G 624 n) v k = _
    rw [bM_meanDepth_9]
    simp (disch := omega) only [h0, kd_625, sz_625, true_and, le_t, lt_t, and_true, ↓reduceIte, if_neg hk]) 0 0 fu (by omega) (by omega)
  have e : lM_meanDepth_9 G 624 fu 0 0 = jM_meanDepth_45 G 624 v := e
  rw [e, jM_meanDepth_45, vM_runningMany hs hM, bdP_s, if_pos (okd (toI_ne (by unfold InR; omega) (by omega)))]
  exact PO_i rfl o1
end MODEL26
/-! ===== the reference's reader: its tokens (own work) ===== -/
section MODEL27
variable {g G H K : gH} {p code t c a b k q gp d x y z w v n l i : Int}
/-- only the reader's own places are touched -/
def PF (G H : gH) : Prop := (∀ x, ¬ x = 624 → H x = G x) ∧ ∀ k, ¬ (13 ≤ k ∧ k ≤ 19) → H 624 k = G 624 k
theorem PF_r : PF G G := ⟨fun _ _ => rfl, fun _ _ => rfl⟩
theorem PF_t (h : PF G H) (h' : PF H K) : PF G K := ⟨fun x hx => (h'.1 x hx).trans (h.1 x hx), fun k hk => (h'.2 k hk).trans (h.2 k hk)⟩
theorem PF_u (h : PF G H) (hk : 13 ≤ k ∧ k ≤ 19) : PF G (pU H 624 k v) := ⟨fun x hx => (pU_n (by omega)).trans (h.1 x hx), fun j hj => by rw [pU_s, u1_n (by omega)]; exact h.2 j hj⟩
theorem MInv_PF (h : MInv G) (hp : PF G H) : MInv H := by
  obtain ⟨h1, h2, h3, ⟨h4, h5⟩, h6, h7, h8⟩ := h
  unfold MInv MS
  rw [hp.1 625 (by omega), hp.1 628 (by omega), hp.1 629 (by omega), hp.1 630 (by omega), hp.2 0 (by omega), hp.2 1 (by omega), hp.2 2 (by omega), hp.2 3 (by omega), hp.2 4 (by omega), hp.2 5 (by omega), hp.2 6 (by omega), hp.2 7 (by omega), hp.2 9 (by omega), hp.2 10 (by omega), hp.2 20 (by omega), hp.2 21 (by omega), hp.2 22 (by omega), hp.2 23 (by omega)]
  exact ⟨h1, h2, h3, ⟨h4, h5⟩, h6, h7, h8⟩
/-- the place of the next byte -/
def Ps (G : gH) : Prop := 0 ≤ G 624 15 ∧ G 624 15 ≤ G 624 10
def TK (G : gH) : Prop := 0 ≤ G 624 16 ∧ G 624 16 ≤ G 624 15 ∧ G 624 15 ≤ G 624 10
theorem vM_byteAt (h : MInv G) (hv : 0 ≤ v) : fM_byteAt G 624 v = some (if v < G 624 10 then G 631 v else -1) := by
  have h9 : G 624 9 = 631 := h.1.2.2.2.2.2.1
  have h10 := h.2.2.2.2.2.1
  rw [fM_byteAt]
  split
  · next hlt => simp (disch := omega) only [h9, kd_631, sz_631, true_and, le_t, lt_t, and_true, ↓reduceIte]
  · rfl
theorem vM_failsAt (h : MInv G) : ∃ H, fM_failsAt G 624 v = some (0, H) ∧ PF G H ∧ (H 624 15 = G 624 15 ∧ H 624 16 = G 624 16 ∧ H 624 17 = G 624 17 ∧ H 624 18 = G 624 18 ∧ H 624 19 = G 624 19) := by
  rw [fM_failsAt]
  split
  · refine ⟨_, rfl, PF_u (PF_u PF_r (by omega)) (by omega), ?_⟩
    simp (disch := omega) only [pU_s, u1_n, and_self]
  · exact ⟨G, rfl, PF_r, rfl, rfl, rfl, rfl, rfl⟩
/-- the byte that stands next -/
def Bt (G : gH) : Int := if G 624 15 < G 624 10 then G 631 (G 624 15) else -1
theorem vM_next (h : MInv G) (hp : Ps G) : fM_byteAt G 624 (G 624 15) = some (Bt G) := vM_byteAt h hp.1
theorem Bt_lt (hp : Ps G) (h : ¬ Bt G = -1) : G 624 15 + 1 ≤ G 624 10 ∧ 0 ≤ G 624 15 := by
  unfold Bt at h
  split at h
  · exact ⟨by omega, hp.1⟩
  · exact absurd rfl h
theorem Ps_1 (hp : Ps G) (h : ¬ Bt G = -1) : Ps (pU G 624 15 (G 624 15 + 1)) := by
  have := Bt_lt hp h
  unfold Ps
  rw [pU_s, u1_s, u1_n (by omega)]
  omega
theorem lx_90 : ∀ (m n : Nat) (G : gH), MInv G → Ps G → (G 624 10 - G 624 15).toNat = m → m < n → ∃ H, lM_advanceToken_90 624 n G = some (0, H) ∧ PF G H ∧ Ps H ∧ G 624 15 ≤ H 624 15 ∧ (H 624 16 = G 624 16 ∧ H 624 18 = G 624 18 ∧ H 624 19 = G 624 19) ∧ ((97 ≤ Bt G ∧ Bt G ≤ 122) → G 624 15 < H 624 15) := by
  intro m
  induction m with
  | zero =>
    intro n G h hp hm hn
    obtain ⟨n, rfl⟩ : ∃ k, n = k + 1 := ⟨n - 1, by omega⟩
    have hb : Bt G = -1 := by unfold Bt; rw [if_neg (by unfold Ps at hp; omega)]
    refine ⟨G, ?_, PF_r, hp, by omega, ⟨rfl, rfl, rfl⟩, fun z => by omega⟩
    show bM_advanceToken_90 624 (lM_advanceToken_90 624 n) G = _
    rw [bM_advanceToken_90, vM_next h hp, bdP_s, vM_inRange, bdP_s, hb, if_neg (show ¬ ((97 : Int) ≤ -1 ∧ (-1 : Int) ≤ 122) by omega), if_pos rfl]
  | succ m ih =>
    intro n G h hp hm hn
    obtain ⟨n, rfl⟩ : ∃ k, n = k + 1 := ⟨n - 1, by omega⟩
    have e : lM_advanceToken_90 624 (n + 1) G = bM_advanceToken_90 624 (lM_advanceToken_90 624 n) G := rfl
    rw [e, bM_advanceToken_90, vM_next h hp, bdP_s, vM_inRange, bdP_s]
    by_cases hr : 97 ≤ Bt G ∧ Bt G ≤ 122
    · have hb : ¬ Bt G = -1 := by omega
      have h1 := Bt_lt hp hb
      have h10 := h.2.2.2.2.2.1
      rw [if_pos hr, if_neg f0, bnd_s, w32_r (by omega)]
      have hG : PF G (pU G 624 15 (G 624 15 + 1)) := PF_u PF_r (by omega)
      have e15 : pU G 624 15 (G 624 15 + 1) 624 15 = G 624 15 + 1 := by rw [pU_s, u1_s]
      have e10 : pU G 624 15 (G 624 15 + 1) 624 10 = G 624 10 := by rw [pU_s, u1_n (by omega)]
      obtain ⟨H, a1, a2, a3, a4, ⟨a5, a6, a7⟩, -⟩ := ih n _ (MInv_PF h hG) (Ps_1 hp hb) (by rw [e15, e10]; omega) (by omega)
      rw [e15] at a4
      refine ⟨H, a1, PF_t hG a2, a3, by omega, ⟨?_, ?_, ?_⟩, fun _ => by omega⟩
      · rw [a5, pU_s, u1_n (by omega)]
      · rw [a6, pU_s, u1_n (by omega)]
      · rw [a7, pU_s, u1_n (by omega)]
    · rw [if_neg hr, if_pos rfl]
      exact ⟨G, rfl, PF_r, hp, by omega, ⟨rfl, rfl, rfl⟩, fun z => absurd z hr⟩
theorem lx_137 : ∀ (m n : Nat) (G : gH), MInv G → Ps G → (G 624 10 - G 624 15).toNat = m → m < n → ∃ H, lM_advanceToken_137 624 n G = some (0, H) ∧ PF G H ∧ Ps H ∧ G 624 15 ≤ H 624 15 ∧ (H 624 16 = G 624 16 ∧ H 624 18 = G 624 18 ∧ H 624 19 = G 624 19) ∧ ((48 ≤ Bt G ∧ Bt G ≤ 57) → G 624 15 < H 624 15) := by
  intro m
  induction m with
  | zero =>
    intro n G h hp hm hn
    obtain ⟨n, rfl⟩ : ∃ k, n = k + 1 := ⟨n - 1, by omega⟩
    have hb : Bt G = -1 := by unfold Bt; rw [if_neg (by unfold Ps at hp; omega)]
    refine ⟨G, ?_, PF_r, hp, by omega, ⟨rfl, rfl, rfl⟩, fun z => by omega⟩
    show bM_advanceToken_137 624 (lM_advanceToken_137 624 n) G = _
    rw [bM_advanceToken_137, vM_next h hp, bdP_s, vM_inRange, bdP_s, hb, if_neg (show ¬ ((48 : Int) ≤ -1 ∧ (-1 : Int) ≤ 57) by omega), if_pos rfl]
  | succ m ih =>
    intro n G h hp hm hn
    obtain ⟨n, rfl⟩ : ∃ k, n = k + 1 := ⟨n - 1, by omega⟩
    have e : lM_advanceToken_137 624 (n + 1) G = bM_advanceToken_137 624 (lM_advanceToken_137 624 n) G := rfl
    rw [e, bM_advanceToken_137, vM_next h hp, bdP_s, vM_inRange, bdP_s]
    by_cases hr : 48 ≤ Bt G ∧ Bt G ≤ 57
    · have hb : ¬ Bt G = -1 := by omega
      have h1 := Bt_lt hp hb
      have h10 := h.2.2.2.2.2.1
      -- the value may change, the place goes on by one
      have go : ∀ K, PF G K → K 624 15 = G 624 15 → K 624 16 = G 624 16 → K 624 18 = G 624 18 → K 624 19 = G 624 19 → ∃ H, lM_advanceToken_137 624 n (pU K 624 15 (w32 (K 624 15 + 1))) = some (0, H) ∧ PF G H ∧ Ps H ∧ G 624 15 ≤ H 624 15 ∧ (H 624 16 = G 624 16 ∧ H 624 18 = G 624 18 ∧ H 624 19 = G 624 19) ∧ ((48 ≤ Bt G ∧ Bt G ≤ 57) → G 624 15 < H 624 15) := by
        intro K k1 k2 k3 k4 k5
        have k10 : K 624 10 = G 624 10 := k1.2 10 (by omega)
        rw [k2, w32_r (by omega)]
        have hG : PF G (pU K 624 15 (G 624 15 + 1)) := PF_u k1 (by omega)
        have e15 : pU K 624 15 (G 624 15 + 1) 624 15 = G 624 15 + 1 := by rw [pU_s, u1_s]
        have e10 : pU K 624 15 (G 624 15 + 1) 624 10 = G 624 10 := by rw [pU_s, u1_n (by omega)]; exact k10
        obtain ⟨H, a1, a2, a3, a4, ⟨a5, a6, a7⟩, -⟩ := ih n _ (MInv_PF h hG) (by unfold Ps; rw [e15, e10]; omega) (by rw [e15, e10]; omega) (by omega)
        rw [e15] at a4
        refine ⟨H, a1, PF_t hG a2, a3, by omega, ⟨?_, ?_, ?_⟩, fun _ => by omega⟩
        · rw [a5, pU_s, u1_n (by omega)]; exact k3
        · rw [a6, pU_s, u1_n (by omega)]; exact k4
        · rw [a7, pU_s, u1_n (by omega)]; exact k5
      rw [if_pos hr, if_neg f0]
      split
      · rw [bdP_s, bnd_s, bnd_s]
        refine go _ (PF_u PF_r (by omega)) ?_ ?_ ?_ ?_ <;> rw [pU_s, u1_n (by omega)]
      · rw [bnd_s]
        exact go G PF_r rfl rfl rfl rfl
    · rw [if_neg hr, if_pos rfl]
      exact ⟨G, rfl, PF_r, hp, by omega, ⟨rfl, rfl, rfl⟩, fun z => absurd z hr⟩
/-- the next token -/
def AT (G H : gH) : Prop := PF G H ∧ TK H ∧ G 624 15 ≤ H 624 15 ∧ H 624 19 = G 624 19 ∧ (H 624 18 = 0 ∨ G 624 15 < H 624 15)
theorem lx_39 (h : MInv G) (hp : Ps G) : ∃ H, jM_advanceToken_39 G 624 = some (0, H) ∧ AT G H := by
  have hf := fu_ge
  have h10 := h.2.2.2.2.2.1
  -- begin is set
  have k1 : PF G (pU G 624 16 (G 624 15)) := PF_u PF_r (by omega)
  have e15 : pU G 624 16 (G 624 15) 624 15 = G 624 15 := by rw [pU_s, u1_n (by omega)]
  have e10 : pU G 624 16 (G 624 15) 624 10 = G 624 10 := by rw [pU_s, u1_n (by omega)]
  have eb : Bt (pU G 624 16 (G 624 15)) = Bt G := by unfold Bt; rw [e15, e10, pU_n (by omega)]
  have hp1 : Ps (pU G 624 16 (G 624 15)) := by unfold Ps; rw [e15, e10]; exact hp
  rw [jM_advanceToken_39, bnd_s, vM_next (MInv_PF h k1) hp1, bdP_s, eb, bnd_s]
  have k2 : PF G (pU (pU G 624 16 (G 624 15)) 624 17 0) := PF_u k1 (by omega)
  have f15 : pU (pU G 624 16 (G 624 15)) 624 17 0 624 15 = G 624 15 := by rw [pU_s, u1_n (by omega)]; exact e15
  have f16 : pU (pU G 624 16 (G 624 15)) 624 17 0 624 16 = G 624 15 := by rw [pU_s, u1_n (by omega), pU_s, u1_s]
  have f19 : pU (pU G 624 16 (G 624 15)) 624 17 0 624 19 = G 624 19 := by rw [pU_s, u1_n (by omega), pU_s, u1_n (by omega)]
  generalize pU (pU G 624 16 (G 624 15)) 624 17 0 = K at *
  have f10 : K 624 10 = G 624 10 := k2.2 10 (by omega)
  have f31 : K 631 = G 631 := k2.1 631 (by omega)
  -- a token of one byte
  have one : ∀ tk : Int, ¬ Bt G = -1 → ∃ H, bnd (pU K 624 18 tk) (fun g => bnd (pU g 624 15 (w32 (g 624 15 + 1))) (fun g => some ((0 : Int), g))) = some (0, H) ∧ AT G H := by
    intro tk hb
    have h1 := Bt_lt hp hb
    have e : pU K 624 18 tk 624 15 = G 624 15 := by rw [pU_s, u1_n (by omega)]; exact f15
    rw [bnd_s, bnd_s, e, w32_r (by omega)]
    refine ⟨_, rfl, PF_u (PF_u k2 (by omega)) (by omega), ?_, ?_, ?_, ?_⟩
    · unfold TK
      rw [pU_s, u1_s, u1_n (by omega), pU_s, u1_n (by omega), u1_n (by omega), u1_n (by omega), f16, f10]
      omega
    · rw [pU_s, u1_s]; omega
    · rw [pU_s, u1_n (by omega), pU_s, u1_n (by omega)]; exact f19
    · right; rw [pU_s, u1_s]; omega
  -- the kind is set, then a loop
  have ld : ∀ tk : Int, PF G (pU K 624 18 tk) ∧ Ps (pU K 624 18 tk) ∧ pU K 624 18 tk 624 15 = G 624 15 ∧ pU K 624 18 tk 624 16 = G 624 15 ∧ pU K 624 18 tk 624 19 = G 624 19 ∧ Bt (pU K 624 18 tk) = Bt G ∧ pU K 624 18 tk 624 10 = G 624 10 := by
    intro tk
    have a15 : pU K 624 18 tk 624 15 = G 624 15 := by rw [pU_s, u1_n (by omega)]; exact f15
    have a10 : pU K 624 18 tk 624 10 = G 624 10 := by rw [pU_s, u1_n (by omega)]; exact f10
    refine ⟨PF_u k2 (by omega), ?_, a15, ?_, ?_, ?_, a10⟩
    · unfold Ps; rw [a15, a10]; exact hp
    · rw [pU_s, u1_n (by omega)]; exact f16
    · rw [pU_s, u1_n (by omega)]; exact f19
    · unfold Bt; rw [a15, a10, pU_n (by omega), f31]
  by_cases hb : Bt G = -1
  · rw [if_pos hb, bnd_s]
    refine ⟨_, rfl, PF_u k2 (by omega), ?_, ?_, ?_, ?_⟩
    · unfold TK
      rw [pU_s, u1_n (by omega), u1_n (by omega), u1_n (by omega), f15, f16, f10]
      unfold Ps at hp
      omega
    · rw [pU_s, u1_n (by omega), f15]; omega
    · rw [pU_s, u1_n (by omega)]; exact f19
    · left; rw [pU_s, u1_s]
  · rw [if_neg hb, vM_inRange, bdP_s]
    by_cases c1 : 97 ≤ Bt G ∧ Bt G ≤ 122
    · rw [if_pos c1, if_neg f0, bnd_s]
      obtain ⟨d1, d2, d3, d4, d5, d6, d7⟩ := ld 1
      obtain ⟨H, a1, a2, a3, a4, ⟨a5, a6, a7⟩, a8⟩ := lx_90 _ fu _ (MInv_PF h d1) d2 rfl (by rw [d7, d3]; unfold Ps at hp; omega)
      rw [d6, d3] at a8
      have a8 := a8 c1
      refine ⟨H, a1, PF_t d1 a2, ?_, by omega, by rw [a7]; exact d5, Or.inr a8⟩
      unfold Ps at a3
      unfold TK
      rw [a5, d4]
      unfold Ps at hp
      omega
    · rw [if_neg c1, if_pos rfl, vM_inRange, bdP_s]
      by_cases c2 : 48 ≤ Bt G ∧ Bt G ≤ 57
      · rw [if_pos c2, if_neg f0, bnd_s]
        obtain ⟨d1, d2, d3, d4, d5, d6, d7⟩ := ld 2
        obtain ⟨H, a1, a2, a3, a4, ⟨a5, a6, a7⟩, a8⟩ := lx_137 _ fu _ (MInv_PF h d1) d2 rfl (by rw [d7, d3]; unfold Ps at hp; omega)
        rw [d6, d3] at a8
        have a8 := a8 c2
        refine ⟨H, a1, PF_t d1 a2, ?_, by omega, by rw [a7]; exact d5, Or.inr a8⟩
        unfold Ps at a3
        unfold TK
        rw [a5, d4]
        unfold Ps at hp
        omega
      · rw [if_neg c2, if_pos rfl]
        split
        · exact one 3 hb
        · exact one 4 hb
theorem vM_advance (h : MInv G) (hp : Ps G) : ∃ H, fM_advanceToken G 624 = some (0, H) ∧ AT G H := by
  have key : ∀ (m n : Nat) (G : gH), MInv G → Ps G → (G 624 10 - G 624 15).toNat = m → m < n → ∃ H, lM_advanceToken_0 624 n G = some (0, H) ∧ AT G H := by
    intro m
    induction m with
    | zero =>
      intro n G h hp hm hn
      obtain ⟨n, rfl⟩ : ∃ k, n = k + 1 := ⟨n - 1, by omega⟩
      have hb : Bt G = -1 := by unfold Bt; rw [if_neg (by unfold Ps at hp; omega)]
      show ∃ H, bM_advanceToken_0 624 (lM_advanceToken_0 624 n) G = some (0, H) ∧ _
      rw [bM_advanceToken_0, vM_next h hp, bdP_s, if_neg (by omega), bdP_s, if_neg (by omega)]
      exact lx_39 h hp
    | succ m ih =>
      intro n G h hp hm hn
      obtain ⟨n, rfl⟩ : ∃ k, n = k + 1 := ⟨n - 1, by omega⟩
      have h10 := h.2.2.2.2.2.1
      have go : ¬ Bt G = -1 → ∃ H, bnd (pU G 624 15 (w32 (G 624 15 + 1))) (fun g => lM_advanceToken_0 624 n g) = some (0, H) ∧ AT G H := by
        intro hb
        have h1 := Bt_lt hp hb
        rw [bnd_s, w32_r (by omega)]
        have hG : PF G (pU G 624 15 (G 624 15 + 1)) := PF_u PF_r (by omega)
        have e15 : pU G 624 15 (G 624 15 + 1) 624 15 = G 624 15 + 1 := by rw [pU_s, u1_s]
        have e10 : pU G 624 15 (G 624 15 + 1) 624 10 = G 624 10 := by rw [pU_s, u1_n (by omega)]
        have e19 : pU G 624 15 (G 624 15 + 1) 624 19 = G 624 19 := by rw [pU_s, u1_n (by omega)]
        obtain ⟨H, a1, a2, a3, a4, a5, a6⟩ := ih n _ (MInv_PF h hG) (Ps_1 hp hb) (by rw [e15, e10]; omega) (by omega)
        rw [e15] at a4
        exact ⟨H, a1, PF_t hG a2, a3, by omega, a5.trans e19, Or.inr (by omega)⟩
      show ∃ H, bM_advanceToken_0 624 (lM_advanceToken_0 624 n) G = some (0, H) ∧ _
      rw [bM_advanceToken_0, vM_next h hp, bdP_s]
      by_cases c1 : Bt G = 32
      · rw [if_pos c1]; exact go (by omega)
      · rw [if_neg c1, bdP_s]
        by_cases c2 : Bt G = 10
        · rw [if_pos c2]; exact go (by omega)
        · rw [if_neg c2]; exact lx_39 h hp
  have hf := fu_ge
  have h10 := h.2.2.2.2.2.1
  exact key _ fu G h hp rfl (by unfold Ps at hp; omega)
/-- a word: the answer is 0 or 1 -/
theorem vM_isWord (h : MInv G) (hp : TK G) (hv : 2000000 ≤ v ∧ v < 2000026) : ∃ y, fM_isWord G 624 v = some y ∧ (y = 1 → G 624 18 = 1) := by
  have hf := fu_ge
  have h9 : G 624 9 = 631 := h.1.2.2.2.2.2.1
  have h10 := h.2.2.2.2.2.1
  rw [fM_isWord]
  by_cases c1 : G 624 18 = 1
  · rw [if_pos c1, fM_tokenLength, bdP_s, if_pos hv]
    unfold TK at hp
    rw [w32_r (by omega)]
    by_cases c2 : G 624 15 - G 624 16 = gtl v
    · rw [if_pos c2]
      have key : ∀ (m n : Nat) (k : Int), (gtl v - k).toNat = m → m < n → 0 ≤ k → ∃ y, lM_isWord_23 G 624 v n k = some y := by
        intro m
        induction m with
        | zero =>
          intro n k hm hn hk
          obtain ⟨n, rfl⟩ : ∃ k, n = k + 1 := ⟨n - 1, by omega⟩
          refine ⟨1, ?_⟩
          show bM_isWord_23 G 624 v (lM_isWord_23 G 624 v n) k = _
          rw [bM_isWord_23, if_pos hv, if_neg (by omega)]
        | succ m ih =>
          intro n k hm hn hk
          obtain ⟨n, rfl⟩ : ∃ k, n = k + 1 := ⟨n - 1, by omega⟩
          show ∃ y, bM_isWord_23 G 624 v (lM_isWord_23 G 624 v n) k = some y
          rw [bM_isWord_23, if_pos hv, if_pos (by omega), if_pos (by rw [h9, kd_631, sz_631, w32_r (by omega)]; omega), if_pos ⟨hv, hk, by omega⟩]
          split
          · rw [w32_r (by omega)]
            exact ih n (k + 1) (by omega) (by omega) (by omega)
          · exact ⟨0, rfl⟩
      obtain ⟨y, e⟩ := key _ fu 0 rfl (by omega) (by omega)
      exact ⟨y, e, fun _ => c1⟩
    · rw [if_neg c2]; exact ⟨0, rfl, fun z => by omega⟩
  · rw [if_neg c1]; exact ⟨0, rfl, fun z => by omega⟩
/-- a number between a and b: 1, or the reading has failed -/
theorem vM_isNumber (h : MInv G) (hp : TK G) : ∃ y H, fM_isNumber G 624 a b = some (y, H) ∧ PF G H ∧ TK H ∧ H 624 15 = G 624 15 ∧ (y = 0 ∨ (y = 1 ∧ H = G ∧ G 624 18 = 2 ∧ a ≤ G 624 17 ∧ G 624 17 ≤ b)) := by
  have tk : ∀ H : gH, (H 624 15 = G 624 15 ∧ H 624 16 = G 624 16 ∧ H 624 17 = G 624 17 ∧ H 624 18 = G 624 18 ∧ H 624 19 = G 624 19) → PF G H → TK H := by
    intro H e k
    unfold TK at hp ⊢
    rw [e.1, e.2.1, k.2 10 (by omega)]
    exact hp
  rw [fM_isNumber]
  by_cases c1 : G 624 18 = 2
  · rw [if_pos c1, fM_tokenLength, bdP_s]
    split
    · obtain ⟨H, e, k1, k2⟩ := vM_failsAt (v := 1) h
      rw [e, bdN_s]
      exact ⟨0, H, rfl, k1, tk H k2 k1, k2.1, Or.inl rfl⟩
    · rw [vM_inRange, bdP_s]
      by_cases c2 : a ≤ G 624 17 ∧ G 624 17 ≤ b
      · rw [if_pos c2, if_neg f0]
        exact ⟨1, G, rfl, PF_r, hp, rfl, Or.inr ⟨rfl, rfl, c1, c2.1, c2.2⟩⟩
      · rw [if_neg c2, if_pos rfl]
        obtain ⟨H, e, k1, k2⟩ := vM_failsAt (v := 2) h
        rw [e, bdN_s, if_pos rfl]
        exact ⟨0, H, rfl, k1, tk H k2 k1, k2.1, Or.inl rfl⟩
  · rw [if_neg c1]
    obtain ⟨H, e, k1, k2⟩ := vM_failsAt (v := 1) h
    rw [e, bdN_s]
    exact ⟨0, H, rfl, k1, tk H k2 k1, k2.1, Or.inl rfl⟩
end MODEL27
/-! ===== the reference's reader: its statements (own work) ===== -/
section MODEL28
variable {g G H K : gH} {p code t c a b k q gp d x y z w v n l i : Int}
/-- what the reader leaves alone -/
def FX (g G : gH) : Prop := G 626 = g 626 ∧ (∀ x, 627 ≤ x → x ≤ 629 → G x = g x) ∧ ∀ k, 6 ≤ k → k ≤ 8 → G 624 k = g 624 k
theorem FX_e (h : FX g G) (e : ∀ x, 624 ≤ x → x ≤ 629 → ¬ x = 625 → H x = G x) : FX g H := ⟨(e 626 (by omega) (by omega) (by omega)).trans h.1, fun x x0 x1 => (e x (by omega) (by omega) (by omega)).trans (h.2.1 x x0 x1), fun k k0 k1 => by rw [e 624 (by omega) (by omega) (by omega)]; exact h.2.2 k k0 k1⟩
/-- while the reader reads: the row is whole, everyone runs, the kept row stands by -/
def RD (g G : gH) : Prop := MInv G ∧ MF g G ∧ FX g G ∧ G 624 10 = g 624 10 ∧ TK G ∧ ∀ i, 0 ≤ i → i < G 625 0 → G 625 (140 + i) = 0
theorem RD_PF (h : RD g G) (k : PF G H) (t : TK H) : RD g H := ⟨MInv_PF h.1 k, fun x hx => (k.1 x (by omega)).trans (h.2.1 x hx), ⟨(k.1 626 (by omega)).trans h.2.2.1.1, fun x x0 x1 => (k.1 x (by omega)).trans (h.2.2.1.2.1 x x0 x1), fun y y0 y1 => (k.2 y (by omega)).trans (h.2.2.1.2.2 y y0 y1)⟩, (k.2 10 (by omega)).trans h.2.2.2.1, t, by rw [k.1 625 (by omega)]; exact h.2.2.2.2.2⟩
theorem RD_632 (h : RD g G) : RD g (pU G 632 k v) := by
  obtain ⟨⟨h1, h2, h3, ⟨h4, h5⟩, h6, h7, h8⟩, b1, b2, b3, b4, b5⟩ := h
  refine ⟨?_, MF_pU b1 (by omega), FX_e b2 (fun x x0 x1 x2 => pU_n (by omega)), by rw [pU_n (by omega)]; exact b3, ?_, by rw [pU_n (by omega)]; exact b5⟩
  · unfold MInv MS
    simp (disch := omega) only [pU_n]
    exact ⟨h1, h2, h3, ⟨h4, h5⟩, h6, h7, h8⟩
  · unfold TK; rw [pU_n (by omega)]; exact b4
theorem RD_row (h : RD g G) (hw : WBF (u1 (G 625) k v)) (h0 : ¬ k = 0) (hk : ¬ (140 ≤ k ∧ k < 180)) : RD g (pU G 625 k v) := by
  have hM := h.1.2.1.1.1
  obtain ⟨⟨h1, h2, h3, ⟨h4, h5⟩, h6, h7, h8⟩, b1, b2, b3, b4, b5⟩ := h
  refine ⟨?_, MF_pU b1 (by omega), FX_e b2 (fun x x0 x1 x2 => pU_n (by omega)), by rw [pU_n (by omega)]; exact b3, ?_, ?_⟩
  · unfold MInv MS
    rw [pU_s]
    simp (disch := omega) only [pU_n]
    exact ⟨h1, hw, h3, ⟨h4, h5⟩, h6, h7, h8⟩
  · unfold TK; rw [pU_n (by omega)]; exact b4
  · rw [pU_s]
    intro i i0 i1
    rw [u1_n (by omega)] at i1
    rw [u1_n (by omega)]
    exact b5 i i0 i1
theorem TK_Ps (h : TK G) : Ps G := by unfold TK at h; unfold Ps; omega
theorem rd_advance (h : RD g G) : ∃ H, fM_advanceToken G 624 = some (0, H) ∧ RD g H ∧ AT G H := by
  obtain ⟨H, e, a⟩ := vM_advance h.1 (TK_Ps h.2.2.2.2.1)
  exact ⟨H, e, RD_PF h a.1 a.2.1, a⟩
theorem rd_fails (h : RD g G) : ∃ H, fM_failsAt G 624 v = some (0, H) ∧ RD g H ∧ G 624 15 ≤ H 624 15 := by
  obtain ⟨H, e, k1, k2⟩ := vM_failsAt (v := v) h.1
  have ht := h.2.2.2.2.1
  refine ⟨H, e, RD_PF h k1 ?_, by omega⟩
  unfold TK at ht ⊢
  rw [k2.1, k2.2.1, k1.2 10 (by omega)]; exact ht
theorem rd_number (h : RD g G) : ∃ y H, fM_isNumber G 624 a b = some (y, H) ∧ RD g H ∧ H 624 15 = G 624 15 ∧ (y = 0 ∨ (y = 1 ∧ H = G ∧ a ≤ G 624 17 ∧ G 624 17 ≤ b)) := by
  obtain ⟨y, H, e, k1, k2, k4, k3⟩ := vM_isNumber (a := a) (b := b) h.1 h.2.2.2.2.1
  refine ⟨y, H, e, RD_PF h k1 k2, k4, ?_⟩
  rcases k3 with k3 | ⟨k3, k4, -, k5, k6⟩
  · exact Or.inl k3
  · exact Or.inr ⟨k3, k4, k5, k6⟩
/-- a reader's step: it ends, with 0 or 1 -/
def RS (g G : gH) (X : Option (Int × gH)) : Prop := ∃ y H, X = some (y, H) ∧ RD g H ∧ G 624 15 ≤ H 624 15
theorem RS_i {X : Option (Int × gH)} (e : X = some (y, H)) (h : RD g H) (hp : G 624 15 ≤ H 624 15) : RS g G X := ⟨y, H, e, h, hp⟩
theorem RS_fails (h : RD g K) (hp : G 624 15 ≤ K 624 15) : RS g G (bdN (fM_failsAt K 624 v) (fun y H => some (y, H))) := by
  obtain ⟨H, e, k1, k2⟩ := rd_fails (v := v) h
  rw [e, bdN_s]
  exact RS_i rfl k1 (by omega)
theorem RS_ite {c : Prop} [Decidable c] {A B : Option (Int × gH)} (h1 : c → RS g G A) (h2 : ¬ c → RS g G B) : RS g G (if c then A else B) := by
  split
  · next h => exact h1 h
  · next h => exact h2 h
theorem RS_number {A : gH → Option (Int × gH)} (h : RD g K) (hp : G 624 15 ≤ K 624 15) (hA : a ≤ K 624 17 → K 624 17 ≤ b → RS g G (A K)) : RS g G (bdN (fM_isNumber K 624 a b) (fun y H => if y = 0 then some (0, H) else A H)) := by
  obtain ⟨y, H, e, k1, k2, k3⟩ := rd_number (a := a) (b := b) h
  rw [e, bdN_s]
  rcases k3 with k3 | ⟨k3, k4, k5, k6⟩
  · rw [if_pos k3]; exact RS_i rfl k1 (by omega)
  · rw [if_neg (by omega), k4]; exact hA k5 k6
theorem RS_advance {A : gH → Option (Int × gH)} (h : RD g K) (hp : G 624 15 ≤ K 624 15) (hA : ∀ H, RD g H → PF K H → G 624 15 ≤ H 624 15 → RS g G (A H)) : RS g G (bdN (fM_advanceToken K 624) (fun _ H => A H)) := by
  obtain ⟨H, e, k1, k2⟩ := rd_advance h
  rw [e, bdN_s]
  exact hA H k1 k2.1 (by have := k2.2.2.1; omega)
/-- a number is taken into the k-th place -/
theorem RS_takes {A : gH → Option (Int × gH)} (h : RD g K) (hk : 0 ≤ k ∧ k < 4) (hp : G 624 15 ≤ K 624 15) (hA : ∀ H, RD g H → H 625 = K 625 → (a ≤ H 632 k ∧ H 632 k ≤ b) → (∀ j, ¬ j = k → H 632 j = K 632 j) → G 624 15 ≤ H 624 15 → RS g G (A H)) : RS g G (bdN (fM_takes K 624 k a b) (fun y H => if y = 0 then some (0, H) else A H)) := by
  rw [fM_takes]
  obtain ⟨y, H, e, k1, k2, k3⟩ := rd_number (a := a) (b := b) h
  rw [e, bdN_s]
  rcases k3 with k3 | ⟨k3, k4, k5, k6⟩
  · rw [if_pos k3, bdN_s, if_pos rfl]; exact RS_i rfl k1 (by omega)
  · rw [if_neg (by omega), k4]
    have h20 : K 624 20 = 632 := h.1.1.2.2.2.2.2.2.1
    rw [if_pos (by rw [h20, kd_632, sz_632]; omega), bnd_s, h20]
    obtain ⟨L, e2, k7, k8⟩ := rd_advance (RD_632 h (k := k) (v := K 624 17))
    rw [e2, bdN_s, bdN_s, if_neg f0]
    have e32 := k8.1.1 632 (by omega)
    refine hA L k7 ?_ ?_ ?_ ?_
    · rw [k8.1.1 625 (by omega), pU_n (by omega)]
    · rw [e32, pU_s, u1_s]; exact ⟨k5, k6⟩
    · intro j hj
      rw [e32, pU_s, u1_n hj]
    · have := k8.2.2.1
      rw [pU_n (by omega)] at this
      omega
theorem RS_once {A : gH → Option (Int × gH)} (h : RD g K) (hp : G 624 15 ≤ K 624 15) (hA : ∀ H, RD g H → H 625 = K 625 → G 624 15 ≤ H 624 15 → RS g G (A H)) : RS g G (bdN (fM_startsOnce K 624 v) (fun y H => if y = 0 then some (0, H) else A H)) := by
  rw [fM_startsOnce]
  split
  · rw [bnd_s]
    have hk : PF K (pU K 624 19 (opI 2 (K 624 19) v)) := PF_u PF_r (by omega)
    have e15 : pU K 624 19 (opI 2 (K 624 19) v) 624 15 = K 624 15 := by rw [pU_s, u1_n (by omega)]
    obtain ⟨L, e2, k7, k8⟩ := rd_advance (RD_PF h hk (by
      have := h.2.2.2.2.1
      unfold TK at this ⊢
      rw [e15, pU_s, u1_n (by omega), u1_n (by omega)]
      exact this))
    rw [e2, bdN_s, bdN_s, if_neg f0]
    refine hA L k7 ?_ ?_
    · rw [k8.1.1 625 (by omega), hk.1 625 (by omega)]
    · have := k8.2.2.1
      omega
  · obtain ⟨H, e, k1, k2⟩ := rd_fails (v := 3) h
    rw [e, bdN_s, bdN_s, if_pos rfl]
    exact RS_i rfl k1 (by omega)
theorem RD_pos (hw : RD g (pU K 625 k v)) (hp : G 624 15 ≤ K 624 15) {X : Option (Int × gH)} (e : X = some (y, pU K 625 k v)) : RS g G X := RS_i e hw (by rw [pU_n (by omega)]; exact hp)
/-- a place of the row that the tree doesn't hang on -/
theorem WBF_pl {r : Int → Int} (h : WBF r) (hW : WB (u1 r k v)) (hk : ¬ (k = 0 ∨ k = 1 ∨ (11 ≤ k ∧ k < 100 ∧ ¬ k = 59) ∨ (140 ≤ k ∧ k < 180) ∨ (220 ≤ k ∧ k < 260) ∨ (300 ≤ k ∧ k < 340))) : WBF (u1 r k v) := WBF_eq h hW (fun j hj => u1_n (fun e => hk (by rw [← e]; exact hj)))
/-- the depth's limit -/
theorem WBF_59 {r : Int → Int} (h : WBF r) : WBF (u1 r 59 v) := WBF_pl h (WB_eq h.1 (fun j hj => u1_n (by omega))) (by omega)
theorem WBF_340 {r : Int → Int} (h : WBF r) (hk : 340 ≤ k ∧ k < 460) : WBF (u1 r k v) := WBF_pl h (WB_eq h.1 (fun j hj => u1_n (by omega))) (by omega)
/-- a duty's holder -/
theorem WBF_11 {r : Int → Int} (h : WBF r) (hd : 0 ≤ d ∧ d < 8) (hp : 0 ≤ p ∧ p < r 0) (hs : r (140 + p) = 0) : WBF (u1 r (11 + d) p) := by
  have hb0 := h.1
  have hM := hb0.1
  obtain ⟨-, ⟨s1, s2⟩, hSR, ⟨x1, x2⟩, hL, hN, hH, hC, hB⟩ := h
  have e : ∀ k, ¬ k = 11 + d → u1 r (11 + d) p k = r k := fun k hk => u1_n hk
  have e0 : u1 r (11 + d) p 0 = r 0 := e 0 (by omega)
  have e1 : u1 r (11 + d) p 1 = r 1 := e 1 (by omega)
  have est : ∀ i, 0 ≤ i → i < r 0 → u1 r (11 + d) p (140 + i) = r (140 + i) := fun i i0 i1 => e _ (by omega)
  refine ⟨WB_eq hb0 (fun j hj => e j (by omega)), ⟨?_, by rw [e 140 (by omega)]; exact s2⟩, ?_, ⟨by rw [e1]; exact x1, ?_⟩, ?_, ?_, ?_, ?_, ?_⟩
  · intro i i0 i1
    rw [e0] at i1
    rw [est i i0 i1]
    exact s1 i i0 i1
  · intro i i0 i1 i2
    rw [e0] at i1
    rw [est i (by omega) i1] at i2
    rw [e (60 + i) (by omega)]
    have := hb0.2.1 i i0 i1
    rw [est _ this.1 this.2]
    exact hSR i i0 i1 i2
  · intro k k0 k1
    rw [e1] at k1
    rw [e _ (by omega), e0]
    exact x2 k k0 k1
  · intro i i0 i1 i2
    rw [e0] at i1
    rw [est i i0 i1] at i2
    obtain ⟨k, k0, k1, k2⟩ := hL i i0 i1 i2
    exact ⟨k, k0, by rw [e1]; exact k1, by rw [e _ (by omega)]; exact k2⟩
  · show u1 r (11 + d) p 1 = _
    rw [e1, cn_eq_st e0 hM.2 (fun k k0 k1 => e k (by omega))]
    exact hN
  · intro j d0 d1
    by_cases hj : j = d
    · rw [hj, u1_s, e0, est p hp.1 hp.2]; exact ⟨hp.1, hp.2, hs⟩
    · have := hH j d0 d1
      rw [e (11 + j) (by omega), e0, est _ this.1 this.2.1]
      exact this
  · intro i i0 i1 i2
    rw [e0] at i1
    rw [est i i0 i1] at i2
    rw [e _ (by omega)]
    exact hC i i0 i1 i2
  · intro i i0 i1
    rw [e0] at i1
    rw [e _ (by omega)]
    exact hB i i0 i1
theorem rs_deep (h : RD g G) : RS g G (fM_readDeep G 624) := by
  rw [fM_readDeep]
  refine RS_once h (Int.le_refl _) (fun K hK eK pK => RS_takes hK (by omega) pK (fun L hL eL bL _ pL => ?_))
  have h0 := hL.1.1.1
  have h20 : L 624 20 = 632 := hL.1.1.2.2.2.2.2.2.1
  simp (disch := omega) only [h0, h20, kd_625, sz_625, kd_632, sz_632, true_and, le_t, lt_t, and_true, ↓reduceIte, bnd_s]
  exact RD_pos (RD_row hL (WBF_59 hL.1.2.1) (by omega) (by omega)) pL rfl
theorem rs_duty (h : RD g G) : RS g G (fM_readDuty G 624) := by
  rw [fM_readDuty]
  refine RS_advance h (Int.le_refl _) (fun K hK _ pK => RS_takes hK (by omega) pK (fun L hL eL bL _ pL => ?_))
  have h0 := hL.1.1.1
  have hM := hL.1.2.1.1.1
  simp (disch := omega) only [h0, kd_625, sz_625, true_and, le_t, lt_t, and_true, ↓reduceIte]
  rw [w32_r (by omega)]
  refine RS_takes hL (by omega) pL (fun J hJ eJ bJ oJ pJ => ?_)
  have j0 := hJ.1.1.1
  have j20 : J 624 20 = 632 := hJ.1.1.2.2.2.2.2.2.1
  have jd := oJ 0 (by omega)
  rw [← jd] at bL
  rw [← eJ] at bJ
  simp (disch := omega) only [j0, j20, kd_625, sz_625, kd_632, sz_632, w32_r, true_and, le_t, lt_t, and_true, ↓reduceIte, bnd_s]
  exact RD_pos (RD_row hJ (WBF_11 hJ.1.2.1 (by omega) (by omega) (hJ.2.2.2.2.2 _ (by omega) (by omega))) (by omega) (by omega)) pJ rfl
end MODEL28
/-! ===== the reference's reader: its statements, more (own work) ===== -/
section MODEL29
variable {g G H K : gH} {p code t c a b k q gp d x y z w v n l i : Int}
/-- places of the row that the chain doesn't hang on: a capacity, an heir, a will -/
theorem WB_pl {r : Int → Int} (h : WB r) (hk : 100 ≤ k ∧ k < 780) (h1 : k < 140 → 0 ≤ v ∧ v ≤ 9) (h2 : 140 ≤ k → -1 ≤ v ∧ v < r 0) : WB (u1 r k v) := by
  obtain ⟨a1, a2, a3, a4, a5, a6, a7⟩ := h
  have e0 : u1 r k v 0 = r 0 := u1_n (by omega)
  unfold WB
  rw [e0, u1_n (show ¬ (5 : Int) = k by omega)]
  refine ⟨a1, fun i i0 i1 => by rw [u1_n (by omega)]; exact a2 i i0 i1, acy_ext a3 a2 (fun i i0 i1 => u1_n (show ¬ 60 + i = k by omega)), a4, fun i i0 i1 => ?_, fun i d i0 i1 d0 d1 => ?_, fun i i0 i1 => ?_⟩
  · by_cases e : 260 + i = k
    · rw [e, u1_s]; exact h2 (by omega)
    · rw [u1_n e]; exact a5 i i0 i1
  · by_cases e : 460 + 8 * i + d = k
    · rw [e, u1_s]; exact h2 (by omega)
    · rw [u1_n e]; exact a6 i d i0 i1 d0 d1
  · by_cases e : 100 + i = k
    · rw [e, u1_s]; exact h1 (by omega)
    · rw [u1_n e]; exact a7 i i0 i1
/-- a budget -/
theorem WBF_220 {r : Int → Int} (h : WBF r) (hv : 0 ≤ v ∧ v ≤ 9) : WBF (u1 r 220 v) := by
  have hb0 := h.1
  have hM := hb0.1
  obtain ⟨-, ⟨s1, s2⟩, hSR, ⟨x1, x2⟩, hL, hN, hH, hC, hB⟩ := h
  have e : ∀ k, ¬ k = 220 → u1 r 220 v k = r k := fun k hk => u1_n hk
  have e0 : u1 r 220 v 0 = r 0 := e 0 (by omega)
  have e1 : u1 r 220 v 1 = r 1 := e 1 (by omega)
  have est : ∀ i, 0 ≤ i → i < r 0 → u1 r 220 v (140 + i) = r (140 + i) := fun i i0 i1 => e _ (by omega)
  refine ⟨WB_eq hb0 (fun j hj => e j (by omega)), ⟨?_, by rw [e 140 (by omega)]; exact s2⟩, ?_, ⟨by rw [e1]; exact x1, ?_⟩, ?_, ?_, ?_, ?_, ?_⟩
  · intro i i0 i1
    rw [e0] at i1
    rw [est i i0 i1]
    exact s1 i i0 i1
  · intro i i0 i1 i2
    rw [e0] at i1
    rw [est i (by omega) i1] at i2
    rw [e (60 + i) (by omega)]
    have := hb0.2.1 i i0 i1
    rw [est _ this.1 this.2]
    exact hSR i i0 i1 i2
  · intro k k0 k1
    rw [e1] at k1
    rw [e _ (by omega), e0]
    exact x2 k k0 k1
  · intro i i0 i1 i2
    rw [e0] at i1
    rw [est i i0 i1] at i2
    obtain ⟨k, k0, k1, k2⟩ := hL i i0 i1 i2
    exact ⟨k, k0, by rw [e1]; exact k1, by rw [e _ (by omega)]; exact k2⟩
  · show u1 r 220 v 1 = _
    rw [e1, cn_eq_st e0 hM.2 (fun k k0 k1 => e k (by omega))]
    exact hN
  · intro j d0 d1
    have := hH j d0 d1
    rw [e (11 + j) (by omega), e0, est _ this.1 this.2.1]
    exact this
  · intro i i0 i1 i2
    rw [e0] at i1
    rw [est i i0 i1] at i2
    rw [e _ (by omega)]
    exact hC i i0 i1 i2
  · intro i i0 i1
    rw [e0] at i1
    by_cases z : 220 + i = 220
    · rw [z, u1_s]; exact hv
    · rw [e _ z]
      exact hB i i0 i1
theorem rs_root (h : RD g G) : RS g G (fM_readRoot G 624) := by
  rw [fM_readRoot]
  refine RS_once h (Int.le_refl _) (fun K hK eK pK => RS_takes hK (by omega) pK (fun L hL eL bL _ pL => RS_takes hL (by omega) pL (fun J hJ eJ bJ oJ pJ => ?_)))
  have j0 := hJ.1.1.1
  have j20 : J 624 20 = 632 := hJ.1.1.2.2.2.2.2.2.1
  rw [← oJ 0 (by omega)] at bL
  have r1 := RD_row (k := 100) (v := J 632 0) hJ (WBF_pl hJ.1.2.1 (WB_pl hJ.1.2.1.1 (by omega) (fun _ => bL) (fun z => by omega)) (by omega)) (by omega) (by omega)
  have q0 := r1.1.1.1
  have q20 : pU J 625 100 (J 632 0) 624 20 = 632 := r1.1.1.2.2.2.2.2.2.1
  have q32 : pU J 625 100 (J 632 0) 632 = J 632 := pU_n (by omega)
  have p2 : G 624 15 ≤ pU J 625 100 (J 632 0) 624 15 := by rw [pU_n (by omega)]; exact pJ
  simp (disch := omega) only [j0, j20, kd_625, sz_625, kd_632, sz_632, true_and, le_t, lt_t, and_true, ↓reduceIte, bnd_s]
  generalize pU J 625 100 (J 632 0) = Q at *
  simp (disch := omega) only [q0, q20, kd_625, sz_625, kd_632, sz_632, true_and, le_t, lt_t, and_true, ↓reduceIte, bnd_s]
  exact RD_pos (RD_row r1 (WBF_220 r1.1.2.1 (by rw [q32]; exact bJ)) (by omega) (by omega)) p2 rfl
end MODEL29
/-! ===== the reference's reader: heir, refusal (own work) ===== -/
section MODEL30
variable {g G H K : gH} {p code t c a b k q gp d x y z w v n l i : Int}
theorem RS_c {c : Prop} [Decidable c] {A B : Option (Int × gH)} (h : c) (h1 : RS g G A) : RS g G (if c then A else B) := by
  rw [if_pos h]; exact h1
theorem gd_w (h : MInv K) (hk : 0 ≤ k ∧ k < 780) : kd (K 624 0) = 20 ∧ (0 : Int) ≤ k ∧ k < sz (K 624 0) := by
  rw [h.1.1, kd_625, sz_625]; exact ⟨rfl, hk⟩
theorem gd_r (h : MInv K) (hk : 0 ≤ k ∧ k < 4) : kd (K 624 20) = 20 ∧ (0 : Int) ≤ k ∧ k < sz (K 624 20) := by
  have h20 : K 624 20 = 632 := h.1.2.2.2.2.2.2.1
  rw [h20, kd_632, sz_632]; exact ⟨rfl, hk⟩
theorem w_m (h : MInv K) : w32 (K (K 624 0) 0 - 1) = K 625 0 - 1 := by
  have := h.2.1.1.1
  rw [h.1.1, w32_r (by omega)]
theorem e20 (h : MInv K) : K 624 20 = 632 := h.1.2.2.2.2.2.2.1
theorem rs_heir (h : RD g G) : RS g G (fM_readHeir G 624) := by
  rw [fM_readHeir]
  refine RS_advance h (Int.le_refl _) (fun K hK _ pK => RS_c (gd_w hK.1 (by omega)) ?_)
  have hM := hK.1.2.1.1.1
  rw [w_m hK.1]
  refine RS_number hK pK (fun b1 b2 => RS_c (gd_w hK.1 (by rw [w32_r (by omega)]; omega)) (RS_ite (fun _ => RS_c (gd_w hK.1 (by omega)) ?_) (fun _ => RS_fails hK pK)))
  rw [w_m hK.1]
  refine RS_takes hK (by omega) pK (fun L hL eL bL _ pL => RS_c (gd_w hL.1 (by omega)) ?_)
  have hML := hL.1.2.1.1.1
  rw [← eL] at bL
  rw [w_m hL.1]
  refine RS_number hL pL (fun c1 c2 => RS_c (gd_r hL.1 (by omega)) (RS_ite (fun _ => RS_fails hL pL) (fun _ => RS_c (gd_w hL.1 (by omega)) ?_)))
  rw [w_m hL.1]
  refine RS_takes hL (by omega) pL (fun J hJ eJ bJ oJ pJ => RS_c (gd_r hJ.1 (by omega)) (RS_c (gd_r hJ.1 (by omega)) ?_))
  rw [← oJ 0 (by omega), ← eJ] at bL
  rw [← eJ] at bJ
  have hMJ := hJ.1.2.1.1.1
  rw [e20 hJ.1, hJ.1.1.1, w32_r (by omega), if_pos (by rw [kd_625, sz_625]; omega), bnd_s]
  exact RD_pos (RD_row hJ (WBF_pl hJ.1.2.1 (WB_pl hJ.1.2.1.1 (by omega) (fun z => by omega) (fun _ => by omega)) (by omega)) (by omega) (by omega)) pJ rfl
theorem rs_refusal (h : RD g G) : RS g G (fM_readRefusal G 624) := by
  rw [fM_readRefusal]
  refine RS_advance h (Int.le_refl _) (fun K hK _ pK => RS_c (gd_w hK.1 (by omega)) ?_)
  have hM := hK.1.2.1.1.1
  rw [w_m hK.1]
  refine RS_takes hK (by omega) pK (fun L hL eL bL _ pL => ?_)
  have hML := hL.1.2.1.1.1
  rw [← eL] at bL
  refine RS_number hL pL (fun c1 c2 => RS_c (gd_r hL.1 (by omega)) ?_)
  rw [e20 hL.1, vM_refuses hL.1.1 (by omega), bdP_s]
  refine RS_ite (fun _ => ?_) (fun _ => RS_fails hL pL)
  refine RS_takes hL (by omega) pL (fun J hJ eJ bJ oJ pJ => RS_c (gd_r hJ.1 (by omega)) ?_)
  rw [← oJ 0 (by omega), ← eJ] at bL
  have hMJ := hJ.1.2.1.1.1
  rw [e20 hJ.1, hJ.1.1.1, w32_r (by omega), if_pos (by rw [kd_625, sz_625]; omega), if_pos (by rw [kd_632, sz_632]; omega), if_pos (by rw [kd_625, sz_625]; omega), bnd_s]
  exact RD_pos (RD_row hJ (WBF_340 hJ.1.2.1 (by omega)) (by omega) (by omega)) pJ rfl
end MODEL30
/-! ===== the reference's reader: wills (own work) ===== -/
section MODEL31
variable {g G H K : gH} {p code t c a b k q gp d x y z w v n l i : Int}
theorem w_460 (ha : 0 ≤ a ∧ a < 40) (hb : 0 ≤ b ∧ b ≤ 7) : w32 (w32 (460 + opI 0 8 a) + b) = 460 + 8 * a + b := by
  rw [opI_mul, w32_r (x := 8 * a) (by omega), w32_r (x := 460 + 8 * a) (by omega), w32_r (by omega)]
theorem rs_will (h : RD g G) : RS g G (fM_readWill G 624) := by
  rw [fM_readWill]
  refine RS_advance h (Int.le_refl _) (fun K hK _ pK => RS_c (gd_w hK.1 (by omega)) ?_)
  have hM := hK.1.2.1.1.1
  rw [w_m hK.1]
  refine RS_takes hK (by omega) pK (fun L hL eL bL _ pL => ?_)
  have hML := hL.1.2.1.1.1
  rw [← eL] at bL
  refine RS_number hL pL (fun c1 c2 => RS_c (gd_r hL.1 (by omega)) ?_)
  rw [e20 hL.1, w_460 (by omega) (by omega)]
  refine RS_c (gd_w hL.1 (by omega)) (RS_ite (fun _ => ?_) (fun _ => RS_fails hL pL))
  refine RS_takes hL (by omega) pL (fun J hJ eJ bJ oJ pJ => RS_c (gd_w hJ.1 (by omega)) ?_)
  rw [← oJ 0 (by omega), ← eJ] at bL
  have hMJ := hJ.1.2.1.1.1
  rw [w_m hJ.1]
  refine RS_number hJ pJ (fun d1 d2 => RS_c (gd_r hJ.1 (by omega)) (RS_ite (fun _ => RS_fails hJ pJ) (fun _ => RS_c (gd_w hJ.1 (by omega)) ?_)))
  rw [w_m hJ.1]
  refine RS_takes hJ (by omega) pJ (fun I hI eI bI oI pI => RS_c (gd_r hI.1 (by omega)) (RS_c (gd_r hI.1 (by omega)) (RS_c (gd_r hI.1 (by omega)) ?_)))
  rw [← oI 0 (by omega), ← eI] at bL
  rw [← oI 1 (by omega)] at bJ
  rw [← eI] at bI
  have hMI := hI.1.2.1.1.1
  rw [e20 hI.1, w_460 (by omega) (by omega)]
  refine RS_c (gd_w hI.1 (by omega)) ?_
  rw [bnd_s, hI.1.1.1]
  exact RD_pos (RD_row hI (WBF_pl hI.1.2.1 (WB_pl hI.1.2.1.1 (by omega) (fun z => by omega) (fun _ => by omega)) (by omega)) (by omega) (by omega)) pI rfl
end MODEL31
/-! ===== the reference's reader: processes (own work) ===== -/
section MODEL32
variable {g G H K : gH} {p code t c a b k q gp d x y z w v n l i : Int}
theorem RD_sw {r : Int → Int} (h : RD g G) (hw : WBF r) (hr : ∀ i, 0 ≤ i → i < r 0 → r (140 + i) = 0) : RD g (sw G r) := by
  obtain ⟨a1, b1, b2, b3, b4, b5⟩ := h
  refine ⟨MInv_sw a1 hw, MF_sw b1, FX_e b2 (fun x x0 x1 x2 => sw_n (by omega)), by rw [sw_n (by omega)]; exact b3, ?_, by rw [sw_s]; exact hr⟩
  unfold TK; rw [sw_n (by omega)]; exact b4
theorem rs_process (h : RD g G) : RS g G (fM_readProcess G 624) := by
  rw [fM_readProcess]
  refine RS_c (gd_w h.1 (by omega)) (RS_ite (fun _ => RS_fails h (Int.le_refl _)) (fun h24 => ?_))
  rw [h.1.1.1] at h24
  refine RS_advance h (Int.le_refl _) (fun K hK fK pK => RS_c (gd_w hK.1 (by omega)) ?_)
  rw [← fK.1 625 (by omega)] at h24
  have hM := hK.1.2.1.1.1
  rw [w_m hK.1]
  refine RS_number hK pK (fun b1 b2 => ?_)
  rw [vM_roomOf hK.1.1 hK.1.2.1.1 (by omega), bdP_s]
  refine RS_ite (fun _ => RS_fails hK pK) (fun _ => RS_c (gd_w hK.1 (by omega)) ?_)
  rw [w_m hK.1]
  refine RS_takes hK (by omega) pK (fun L hL eL bL _ pL => ?_)
  rw [← eL] at bL h24
  refine RS_takes hL (by omega) pL (fun M hM1 eM bM oM pM => ?_)
  rw [← oM 0 (by omega), ← eM] at bL
  rw [← eM] at h24
  refine RS_takes hM1 (by omega) pM (fun N hN eN bN oN pN => ?_)
  rw [← oN 0 (by omega), ← eN] at bL
  rw [← oN 1 (by omega)] at bM
  rw [← eN] at h24
  refine RS_takes hN (by omega) pN (fun I hI eI bI oI pI => RS_c (gd_r hI.1 (by omega)) (RS_c (gd_r hI.1 (by omega)) (RS_c (gd_r hI.1 (by omega)) (RS_c (gd_r hI.1 (by omega)) ?_))))
  rw [← oI 0 (by omega), ← eI] at bL
  rw [← oI 1 (by omega)] at bM
  rw [← eI] at h24
  have hMI := hI.1.2.1.1.1
  rw [e20 hI.1, vM_comes hI.1.1 (by omega), bdN_s]
  have hst := hI.2.2.2.2.2
  have ho := fun k => cmR_o (r := I 625) (a := I 632 0) (c := I 632 1) (gp := I 632 2) (b := I 632 3) (k := k) (by omega)
  refine RS_i rfl (RD_sw hI (WBF_cm hI.1.2.1 (by omega) (by omega) (hst _ (by omega) (by omega)) bM bI) (fun i i0 i1 => ?_)) (by rw [sw_n (by omega)]; exact pI)
  rw [cmR_0] at i1
  by_cases e : i = I 625 0
  · rw [e]; exact (cmR_n (r := I 625) (a := I 632 0) (c := I 632 1) (gp := I 632 2) (b := I 632 3) (by omega)).2.2.1
  · rw [ho _ (by omega)]; exact hst i i0 (by omega)
end MODEL32
/-! ===== the reference's reader: the order of rules (own work) ===== -/
def pcn (m : Nat) : Nat := m % 2 + m / 2 % 2 + m / 4 % 2 + m / 8 % 2 + m / 16 % 2
theorem msk : ∀ m : Fin 32, ∀ y : Fin 5, opI 1 (opI 5 (m.val : Int) (y.val : Int)) 1 = 1 ∨ (∃ j : Fin 32, opI 2 (m.val : Int) (opI 4 1 (y.val : Int)) = (j.val : Int) ∧ pcn j.val = pcn m.val + 1) := by decide +kernel
theorem pcn_5 : ∀ m : Fin 32, pcn m.val ≤ 5 := by decide +kernel
section MODEL33
variable {g G H K : gH} {p code t c a b k q gp d x y z w v n l i : Int}
theorem vM_ruleHere (h : RD g G) : ∃ y, fM_ruleHere G 624 = some y ∧ (-1 ≤ y ∧ y ≤ 4) := by
  have iw := fun v hv => vM_isWord (v := v) h.1 h.2.2.2.2.1 hv
  obtain ⟨y1, e1, -⟩ := iw 2000021 (by omega)
  obtain ⟨y2, e2, -⟩ := iw 2000022 (by omega)
  obtain ⟨y3, e3, -⟩ := iw 2000023 (by omega)
  obtain ⟨y4, e4, -⟩ := iw 2000024 (by omega)
  obtain ⟨y5, e5, -⟩ := iw 2000025 (by omega)
  rw [fM_ruleHere, e1, bdP_s, e2, bdP_s, e3, bdP_s, e4, bdP_s, e5, bdP_s]
  repeat' split
  all_goals exact ⟨_, rfl, by omega⟩
theorem WB_5 {r : Int → Int} (h : WB r) (hv : 0 ≤ v ∧ v ≤ 5) : WB (u1 r 5 v) := by
  obtain ⟨a1, a2, a3, a4, a5, a6, a7⟩ := h
  have e0 : u1 r 5 v 0 = r 0 := u1_n (by omega)
  unfold WB
  rw [e0, u1_s]
  exact ⟨a1, fun i i0 i1 => by rw [u1_n (by omega)]; exact a2 i i0 i1, acy_ext a3 a2 (fun i i0 i1 => u1_n (show ¬ 60 + i = 5 by omega)), hv, fun i i0 i1 => by rw [u1_n (by omega)]; exact a5 i i0 i1, fun i d i0 i1 d0 d1 => by rw [u1_n (by omega)]; exact a6 i d i0 i1 d0 d1, fun i i0 i1 => by rw [u1_n (by omega)]; exact a7 i i0 i1⟩
theorem WBF_5 {r : Int → Int} (h : WBF r) (hv : 0 ≤ v ∧ v ≤ 5) : WBF (u1 r 5 v) := WBF_pl h (WB_5 h.1 hv) (by omega)
theorem WBF_6 {r : Int → Int} (h : WBF r) (hk : 6 ≤ k ∧ k < 11) : WBF (u1 r k v) := WBF_pl h (WB_eq h.1 (fun j hj => u1_n (by omega))) (by omega)
theorem rs_order (h : RD g G) : RS g G (fM_readOrder G 624) := by
  rw [fM_readOrder]
  refine RS_once h (Int.le_refl _) (fun K hK eK pK => RS_c (gd_w hK.1 (by omega)) ?_)
  rw [bnd_s, hK.1.1.1]
  have key : ∀ (m n : Nat) (j : Fin 32) (K : gH), RD g K → G 624 15 ≤ K 624 15 → K 625 5 = (pcn j.val : Int) → 5 - pcn j.val = m → m < n → RS g G (lM_readOrder_19 624 n (j.val : Int) K) := by
    intro m
    induction m with
    | zero =>
      intro n j K hK pK h5 hm hn
      obtain ⟨n, rfl⟩ : ∃ k, n = k + 1 := ⟨n - 1, by omega⟩
      obtain ⟨y, e, b1, b2⟩ := vM_ruleHere hK
      show RS g G (bM_readOrder_19 624 (lM_readOrder_19 624 n) (j.val : Int) K)
      rw [bM_readOrder_19]
      refine RS_ite (fun _ => ?_) (fun _ => RS_i rfl hK pK)
      rw [e, bdP_s]
      refine RS_ite (fun _ => RS_fails hK pK) (fun hy => RS_ite (fun _ => RS_fails hK pK) (fun hb => ?_))
      exfalso
      have := msk j ⟨y.toNat, by omega⟩
      rw [show ((⟨y.toNat, by omega⟩ : Fin 5).val : Int) = y by simp only []; omega] at this
      rcases this with e1 | ⟨i, e1, e2⟩
      · exact hb e1
      · have := pcn_5 i; omega
    | succ m ih =>
      intro n j K hK pK h5 hm hn
      obtain ⟨n, rfl⟩ : ∃ k, n = k + 1 := ⟨n - 1, by omega⟩
      obtain ⟨y, e, b1, b2⟩ := vM_ruleHere hK
      show RS g G (bM_readOrder_19 624 (lM_readOrder_19 624 n) (j.val : Int) K)
      rw [bM_readOrder_19]
      refine RS_ite (fun _ => ?_) (fun _ => RS_i rfl hK pK)
      rw [e, bdP_s]
      refine RS_ite (fun _ => RS_fails hK pK) (fun hy => RS_ite (fun _ => RS_fails hK pK) (fun hb => ?_))
      have := msk j ⟨y.toNat, by omega⟩
      rw [show ((⟨y.toNat, by omega⟩ : Fin 5).val : Int) = y by simp only []; omega] at this
      rcases this with e1 | ⟨i, e1, e2⟩
      · exact absurd e1 hb
      have p5 := pcn_5 i
      rw [hK.1.1.1, h5, w32_r (by omega)]
      refine RS_c (by rw [kd_625, sz_625]; omega) (RS_c (by rw [kd_625, sz_625]; omega) ?_)
      have r1 := RD_row (k := 6 + (pcn j.val : Int)) (v := y) hK (WBF_6 hK.1.2.1 (by omega)) (by omega) (by omega)
      have q5 : pU K 625 (6 + (pcn j.val : Int)) y 625 5 = (pcn j.val : Int) := by rw [pU_s, u1_n (by omega)]; exact h5
      have qp : G 624 15 ≤ pU K 625 (6 + (pcn j.val : Int)) y 624 15 := by rw [pU_n (by omega)]; exact pK
      rw [bnd_s]
      generalize pU K 625 (6 + (pcn j.val : Int)) y = Q at *
      rw [r1.1.1.1, q5, w32_r (by omega)]
      refine RS_c (by rw [kd_625, sz_625]; omega) (RS_c (by rw [kd_625, sz_625]; omega) ?_)
      have r2 := RD_row (k := 5) (v := (pcn j.val : Int) + 1) r1 (WBF_5 r1.1.2.1 (by omega)) (by omega) (by omega)
      have s5 : pU Q 625 5 ((pcn j.val : Int) + 1) 625 5 = (pcn j.val : Int) + 1 := by rw [pU_s, u1_s]
      have sp : G 624 15 ≤ pU Q 625 5 ((pcn j.val : Int) + 1) 624 15 := by rw [pU_n (by omega)]; exact qp
      rw [bnd_s]
      generalize pU Q 625 5 ((pcn j.val : Int) + 1) = T at *
      refine RS_advance r2 sp (fun L hL fL pL => ?_)
      rw [e1]
      exact ih n i L hL pL (by rw [fL.1 625 (by omega), s5, e2]; omega) (by omega) (by omega)
  have hf := fu_ge
  have r1 := RD_row (k := 5) (v := 0) hK (WBF_5 hK.1.2.1 (by omega)) (by omega) (by omega)
  exact key 5 fu 0 _ r1 (by rw [pU_n (by omega)]; exact pK) (by rw [pU_s, u1_s]; rfl) rfl (by omega)
end MODEL33
/-! ===== the reference's reader: the text (own work) ===== -/
section MODEL34
variable {g G H K : gH} {p code t c a b k q gp d x y z w v n l i : Int}
theorem RS_w {X : Option (Int × gH)} (h : RS g G X) : RS g G (bdN X (fun y H => some (y, H))) := by
  obtain ⟨y, H, e, k1, k2⟩ := h
  rw [e, bdN_s]; exact RS_i rfl k1 k2
theorem rs_statement (h : RD g G) : RS g G (fM_readStatement G 624) := by
  have iw := fun v hv => vM_isWord (v := v) h.1 h.2.2.2.2.1 hv
  obtain ⟨y1, e1, -⟩ := iw 2000013 (by omega)
  obtain ⟨y2, e2, -⟩ := iw 2000014 (by omega)
  obtain ⟨y3, e3, -⟩ := iw 2000015 (by omega)
  obtain ⟨y4, e4, -⟩ := iw 2000020 (by omega)
  obtain ⟨y5, e5, -⟩ := iw 2000016 (by omega)
  obtain ⟨y6, e6, -⟩ := iw 2000017 (by omega)
  obtain ⟨y7, e7, -⟩ := iw 2000018 (by omega)
  obtain ⟨y8, e8, -⟩ := iw 2000019 (by omega)
  rw [fM_readStatement, e1, bdP_s, e2, bdP_s, e3, bdP_s, e4, bdP_s, e5, bdP_s, e6, bdP_s, e7, bdP_s, e8, bdP_s]
  exact RS_ite (fun _ => RS_ite (fun _ => RS_ite (fun _ => RS_ite (fun _ => RS_ite (fun _ => RS_ite (fun _ => RS_ite (fun _ => RS_ite (fun _ => RS_fails h (Int.le_refl _)) (fun _ => RS_w (rs_refusal h))) (fun _ => RS_w (rs_duty h))) (fun _ => RS_w (rs_heir h))) (fun _ => RS_w (rs_process h))) (fun _ => RS_w (rs_will h))) (fun _ => RS_w (rs_root h))) (fun _ => RS_w (rs_deep h))) (fun _ => RS_w (rs_order h))
theorem rs_text (h : RD g G) : ∃ y H, fM_readText G 624 = some (y, H) ∧ RD g H := by
  have key : ∀ (m n : Nat) (K : gH), RD g K → (K 624 18 = 0 ∨ (K 624 10 - K 624 15).toNat + 1 ≤ m) → m < n → ∃ y H, lM_readText_0 624 n K = some (y, H) ∧ RD g H := by
    intro m
    induction m with
    | zero =>
      intro n K hK hm hn
      obtain ⟨n, rfl⟩ : ∃ k, n = k + 1 := ⟨n - 1, by omega⟩
      have h18 : K 624 18 = 0 := by omega
      refine ⟨1, K, ?_, hK⟩
      show bM_readText_0 624 (lM_readText_0 624 n) K = _
      rw [bM_readText_0, if_pos h18]
    | succ m ih =>
      intro n K hK hm hn
      obtain ⟨n, rfl⟩ : ∃ k, n = k + 1 := ⟨n - 1, by omega⟩
      show ∃ y H, bM_readText_0 624 (lM_readText_0 624 n) K = some (y, H) ∧ RD g H
      rw [bM_readText_0]
      by_cases h18 : K 624 18 = 0
      · rw [if_pos h18]; exact ⟨1, K, rfl, hK⟩
      · rw [if_neg h18]
        obtain ⟨y, L, e, hL, pL⟩ := rs_statement hK
        rw [e, bdN_s]
        by_cases hy : y = 0
        · rw [if_pos hy]; exact ⟨0, L, rfl, hL⟩
        · rw [if_neg hy]
          by_cases h3 : L 624 18 = 3
          · rw [if_pos h3]
            obtain ⟨M, e2, hM, aM⟩ := rd_advance hL
            rw [e2, bdN_s]
            refine ih n M hM ?_ (by omega)
            rcases aM.2.2.2.2 with z | z
            · exact Or.inl z
            · right
              have t := hM.2.2.2.2.1
              have l1 := hM.2.2.2.1
              have l2 := hK.2.2.2.1
              unfold TK at t
              omega
          · rw [if_neg h3]
            obtain ⟨M, e2, hM, -⟩ := rd_fails (v := 1) hL
            rw [e2, bdN_s]
            exact ⟨0, M, rfl, hM⟩
  have hf := fu_ge
  have h10 := h.1.2.2.2.2.2.1
  have ht := h.2.2.2.2.1
  unfold TK at ht
  exact key 501 fu G h (Or.inr (by omega)) (by omega)
end MODEL34
/-! ===== the reference's reader: a fresh row (own work) ===== -/
section MODEL35
variable {g G H K : gH} {p code t c a b k q gp d x y z w v n l i : Int}
/-- the row is wiped -/
theorem clr_1 (hs : MS G) : ∀ (m n : Nat) (i : Int) (G : gH), G 624 0 = 625 → (780 - i).toNat = m → m < n → 0 ≤ i → ∃ r, lM_clear_2 624 n i G = jM_clear_22 (sw G r) 624 ∧ ∀ k, 0 ≤ k → k < 780 → r k = if i ≤ k then 0 else G 625 k := by
  intro m
  induction m with
  | zero =>
    intro n i G h0 hm hn hi
    obtain ⟨n, rfl⟩ : ∃ k, n = k + 1 := ⟨n - 1, by omega⟩
    refine ⟨G 625, ?_, fun k k0 k1 => by rw [if_neg (by omega)]⟩
    show bM_clear_2 624 (lM_clear_2 624 n) i G = _
    rw [bM_clear_2, if_neg (by omega)]
    rw [sw_id]
  | succ m ih =>
    intro n i G h0 hm hn hi
    obtain ⟨n, rfl⟩ : ∃ k, n = k + 1 := ⟨n - 1, by omega⟩
    obtain ⟨r, e, hr⟩ := ih n (i + 1) (pU G 625 i 0) (by rw [pU_n (by omega)]; exact h0) (by omega) (by omega) (by omega)
    refine ⟨r, ?_, fun k k0 k1 => ?_⟩
    · show bM_clear_2 624 (lM_clear_2 624 n) i G = _
      rw [bM_clear_2, if_pos (by omega), h0, if_pos (by rw [kd_625, sz_625]; omega), bnd_s, w32_r (by omega), e, pU_625, sw_sw]
    · rw [hr k k0 k1]
      by_cases e1 : i + 1 ≤ k
      · rw [if_pos e1, if_pos (by omega)]
      · rw [if_neg e1, pU_s]
        by_cases e2 : k = i
        · rw [e2, u1_s, if_pos (by omega)]
        · rw [u1_n e2, if_neg (by omega)]
theorem WBF_new {r : Int → Int} (h0 : r 0 = 0) (h1 : r 1 = 0) (h5 : 0 ≤ r 5 ∧ r 5 ≤ 5) (hz : ∀ k, 11 ≤ k → k < 19 → r k = 0) : WBF (cmR r (-1) 9 0 0) := by
  have v : ∀ k, cmR r (-1) 9 0 0 k = if k = 0 then 1 else if 460 ≤ k ∧ k < 468 then -1 else if k = 420 then -1 else if k = 380 then 0 else if k = 340 then 0 else if k = 300 then -1 else if k = 260 then -1 else if k = 220 then 0 else if k = 180 then 0 else if k = 140 then 0 else if k = 100 then 9 else if k = 60 then -1 else r k := by
    intro k
    unfold cmR
    rw [h0]
    rfl
  have v0 : cmR r (-1) 9 0 0 0 = 1 := by rw [v, if_pos rfl]
  have v1 : cmR r (-1) 9 0 0 1 = 0 := by rw [v]; simp (disch := omega) only [if_neg]; exact h1
  have v5 : cmR r (-1) 9 0 0 5 = r 5 := by rw [v]; simp (disch := omega) only [if_neg]
  have v140 : cmR r (-1) 9 0 0 140 = 0 := by rw [v]; rfl
  have v100 : cmR r (-1) 9 0 0 100 = 9 := by rw [v]; rfl
  have v260 : cmR r (-1) 9 0 0 260 = -1 := by rw [v]; rfl
  have v220 : cmR r (-1) 9 0 0 220 = 0 := by rw [v]; rfl
  have vd : ∀ d, 0 ≤ d → d < 8 → cmR r (-1) 9 0 0 (11 + d) = 0 := by intro d d0 d1; rw [v]; simp (disch := omega) only [if_neg]; exact hz _ (by omega) (by omega)
  have vw : ∀ d, 0 ≤ d → d < 8 → cmR r (-1) 9 0 0 (460 + d) = -1 := by intro d d0 d1; rw [v, if_neg (by omega), if_pos (by omega)]
  have one : ∀ i, 0 ≤ i → i < cmR r (-1) 9 0 0 0 → i = 0 := by intro i i0 i1; rw [v0] at i1; omega
  refine ⟨⟨by rw [v0]; omega, fun i i0 i1 => absurd (one i (by omega) i1) (by omega), fun i i0 i1 => by rw [one i i0 i1]; exact en_0, by rw [v5]; exact h5, fun i i0 i1 => ?_, fun i d i0 i1 d0 d1 => ?_, fun i i0 i1 => ?_⟩, ⟨fun i i0 i1 => ?_, v140⟩, fun i i0 i1 => absurd (one i (by omega) i1) (by omega), ⟨by rw [v1]; omega, fun k k0 k1 => by rw [v1] at k1; omega⟩, fun i i0 i1 i2 => ?_, ?_, fun d d0 d1 => ?_, fun i i0 i1 i2 => ?_, fun i i0 i1 => ?_⟩
  · rw [one i i0 i1, show (260 + 0 : Int) = 260 by omega, v260, v0]; omega
  · rw [one i i0 i1, show (460 + 8 * 0 + d : Int) = 460 + d by omega, vw d d0 d1, v0]; omega
  · rw [one i i0 i1, show (100 + 0 : Int) = 100 by omega, v100]; omega
  · rw [one i i0 i1, show (140 + 0 : Int) = 140 by omega, v140]; omega
  · rw [one i i0 i1, show (140 + 0 : Int) = 140 by omega, v140] at i2; exact absurd rfl i2
  · show cmR r (-1) 9 0 0 1 = _
    rw [v1, v0]
    show (0 : Int) = cn _ 1 0
    rw [cn_s]
    rw [show (140 + 0 : Int) = 140 by omega, v140]
    rfl
  · rw [vd d d0 d1, v0, show (140 + 0 : Int) = 140 by omega, v140]; omega
  · rw [one i i0 i1, show (140 + 0 : Int) = 140 by omega, v140] at i2; omega
  · rw [one i i0 i1, show (220 + 0 : Int) = 220 by omega, v220]; omega
end MODEL35
/-! ===== the reference's clear (own work) ===== -/
section MODEL36
variable {g G H K : gH} {p code t c a b k q gp d x y z w v n l i : Int}
theorem cm140 {r : Int → Int} (h : r 0 = 0) : cmR r (-1) 9 0 0 140 = 0 := by
  unfold cmR
  rw [h]
  rfl
theorem clr_3 (r0 : Int → Int) (e : ∀ k, 0 ≤ k → k < 780 → r0 k = 0) (hs : MS G) : ∃ r, jM_clear_22 (sw G r0) 624 = some (0, sw G r) ∧ WBF r ∧ r 0 = 1 ∧ r 140 = 0 := by
  have hf := fu_ge
  have h0 : ∀ r, sw G r 624 0 = 625 := fun r => by rw [sw_n (by omega)]; exact hs.1
  have st : ∀ (n : Nat) (i : Int) (r : Int → Int), 0 ≤ i → i < 3 → lM_clear_31 624 (n + 1) i (sw G r) = lM_clear_31 624 n (i + 1) (sw G (u1 r (6 + i) i)) := by
    intro n i r i0 i1
    show bM_clear_31 624 (lM_clear_31 624 n) i (sw G r) = _
    rw [bM_clear_31, if_pos i1, h0, w32_r (by omega), if_pos (by rw [kd_625, sz_625]; omega), bnd_s, w32_r (by omega), pU_sw]
  obtain ⟨n, hn⟩ : ∃ n, fu = n + 4 := ⟨fu - 4, by omega⟩
  have hM : 0 ≤ u1 (u1 (u1 (u1 (u1 r0 5 3) (6 + 0) 0) (6 + (0 + 1)) (0 + 1)) (6 + (0 + 1 + 1)) (0 + 1 + 1)) 59 20 0 ∧ u1 (u1 (u1 (u1 (u1 r0 5 3) (6 + 0) 0) (6 + (0 + 1)) (0 + 1)) (6 + (0 + 1 + 1)) (0 + 1 + 1)) 59 20 0 < 40 := by
    simp (disch := omega) only [u1_n]
    rw [e 0 (by omega) (by omega)]; omega
  refine ⟨cmR (u1 (u1 (u1 (u1 (u1 r0 5 3) (6 + 0) 0) (6 + (0 + 1)) (0 + 1)) (6 + (0 + 1 + 1)) (0 + 1 + 1)) 59 20) (-1) 9 0 0, ?_, WBF_new ?_ ?_ ?_ ?_, ?_, ?_⟩
  · rw [jM_clear_22, h0, if_pos (by rw [kd_625, sz_625]; omega), bnd_s, pU_sw, hn, st _ _ _ (by omega) (by omega), st _ _ _ (by omega) (by omega), st _ _ _ (by omega) (by omega)]
    show bM_clear_31 624 (lM_clear_31 624 n) (0 + 1 + 1 + 1) _ = _
    rw [bM_clear_31, if_neg (by omega), jM_clear_52, h0, if_pos (by rw [kd_625, sz_625]; omega), bnd_s, pU_sw, vM_comes (MS_sw hs) (by rw [sw_s]; exact hM), bdN_s, sw_s, sw_sw]
  · simp (disch := omega) only [u1_n]; exact e 0 (by omega) (by omega)
  · simp (disch := omega) only [u1_n]; exact e 1 (by omega) (by omega)
  · simp (disch := omega) only [u1_n, u1_s]; omega
  · intro k k0 k1
    simp (disch := omega) only [u1_n]; exact e k (by omega) (by omega)
  · rw [cmR_0]; simp (disch := omega) only [u1_n]; rw [e 0 (by omega) (by omega)]; rfl
  · exact cm140 (by simp (disch := omega) only [u1_n]; exact e 0 (by omega) (by omega))
end MODEL36
/-! ===== the reference's loadTree (own work) ===== -/
section MODEL37
variable {g G H K : gH} {p code t c a b k q gp d x y z w v n l i : Int}
theorem kd_626 : kd 626 = 20 := by decide +kernel
theorem sz_626 : sz 626 = 780 := by decide +kernel
/-- the input taken, its error kept -/
theorem MInv_taken (h : MInv g) : MInv (pU (pU (pU g 624 10 0) 624 11 a) 624 12 b) := by
  obtain ⟨h1, h2, h3, ⟨h4, h5⟩, h6, h7, h8⟩ := h
  unfold MInv MS
  simp (disch := omega) only [pU_n, pU_s, u1_n, u1_s]
  exact ⟨h1, h2, h3, ⟨h4, h5⟩, h6, by omega, h8⟩
theorem MInv_67 (h : MInv g) : MInv (pU (pU g 624 6 0) 624 7 0) := by
  obtain ⟨h1, h2, h3, ⟨h4, h5⟩, h6, h7, h8⟩ := h
  unfold MInv MS
  simp (disch := omega) only [pU_n, pU_s, u1_n, u1_s]
  exact ⟨h1, h2, h3, ⟨by omega, fun j j0 j1 => absurd j0 (by omega)⟩, fun z => absurd trivial z, h7, h8⟩
theorem oM_loadTree (hi : MInv g) : ∃ v g', fM_loadTree g 624 = some (v, g') ∧ MInv g' ∧ MF g g' ∧ g' 624 10 = 0 := by
  have e : pU g 624 8 0 = th g 0 := rfl
  rw [fM_loadTree, bnd_s, e]
  have o1 := OK_th (t := 0) (OK_r hi)
  have i1 := o1.1
  have f1 := o1.2.1
  generalize th g 0 = G at *
  have s1 := i1.1
  have h0 := s1.1
  have h1 : G 624 1 = 626 := s1.2.2.2.2.2.2.2.2.2
  have hc := vM_copies (g := G) (a := 625) (x := 0) (b := 626) (y := 0) (n := 780) ⟨kd_625, kd_626⟩ (by rw [sz_625]; omega) (by rw [sz_626]; omega) (by omega) (Or.inl (by omega))
  rw [h0, h1, hc, bdN_s]
  have i2 : MInv (cpG G 625 0 626 0 780) := by
    have z := i1
    unfold MInv MS at z ⊢
    simp (disch := omega) only [cpG_n]
    exact z
  have k26 : ∀ k, 0 ≤ k → k < 780 → cpG G 625 0 626 0 780 626 k = G 625 k := fun k k0 k1 => by
    unfold cpG
    rw [if_pos ⟨rfl, by omega, by omega⟩, show (0 + k - 0 : Int) = k by omega]
  have f2 : MF g (cpG G 625 0 626 0 780) := MF_cp f1 (by omega)
  have w1 := i1.2.1
  generalize cpG G 625 0 626 0 780 = K at *
  obtain ⟨r, c1, c2⟩ := clr_1 i2.1 780 fu 0 K i2.1.1 rfl (by have := fu_ge; omega) (by omega)
  obtain ⟨r', c3, c4, c5, c6⟩ := clr_3 r (fun k k0 k1 => by rw [c2 k k0 k1, if_pos k0]) i2.1
  have c7 : fM_clear K 624 = some (0, sw K r') := by rw [fM_clear, c1, c3]
  rw [c7, bdN_s, bnd_s, bnd_s, bnd_s, bnd_s]
  have i3 : MInv (sw K r') := MInv_sw i2 c4
  have p4 : PF (sw K r') (pU (pU (pU (pU (sw K r') 624 13 0) 624 14 (-1)) 624 15 0) 624 19 0) := PF_u (PF_u (PF_u (PF_u PF_r (by omega)) (by omega)) (by omega)) (by omega)
  have e15 : pU (pU (pU (pU (sw K r') 624 13 0) 624 14 (-1)) 624 15 0) 624 19 0 624 15 = 0 := by
    simp (disch := omega) only [pU_s, u1_n, u1_s]
  have k3 : sw K r' 626 = K 626 := sw_n (by omega)
  have r3 : sw K r' 625 = r' := sw_s
  have f3 : MF g (sw K r') := MF_sw f2
  generalize sw K r' = J at *
  generalize pU (pU (pU (pU J 624 13 0) 624 14 (-1)) 624 15 0) 624 19 0 = L at *
  have i4 := MInv_PF i3 p4
  obtain ⟨H, a1, a2⟩ := vM_advance i4 (by unfold Ps; rw [e15]; exact ⟨Int.le_refl _, i4.2.2.2.2.2.1.1⟩)
  rw [a1, bdN_s]
  have p5 := PF_t p4 a2.1
  have hR : RD J H := ⟨MInv_PF i4 a2.1, fun x hx => p5.1 x (by omega), ⟨p5.1 626 (by omega), fun x x0 x1 => p5.1 x (by omega), fun k k0 k1 => p5.2 k (by omega)⟩, p5.2 10 (by omega), a2.2.1, by
    rw [p5.1 625 (by omega), r3, c5]
    intro i i0 i1
    rw [show i = 0 by omega]
    exact c6⟩
  obtain ⟨y, M, b1, b2⟩ := rs_text hR
  rw [b1, bdN_s, bnd_s, bnd_s, bnd_s]
  have i6 : MInv M := b2.1
  have f6 : MF g M := MF_t f3 b2.2.1
  have k6 : ∀ k, 0 ≤ k → k < 780 → M 626 k = G 625 k := fun k k0 k1 => by rw [b2.2.2.1.1, k3, k26 k k0 k1]
  have i7 : MInv (pU (pU (pU M 624 10 0) 624 11 (pU M 624 10 0 624 13)) 624 12 (pU (pU M 624 10 0) 624 11 (pU M 624 10 0 624 13) 624 14)) := MInv_taken i6
  have f7 : MF g (pU (pU (pU M 624 10 0) 624 11 (pU M 624 10 0 624 13)) 624 12 (pU (pU M 624 10 0) 624 11 (pU M 624 10 0 624 13) 624 14)) := MF_pU (MF_pU (MF_pU f6 (by omega)) (by omega)) (by omega)
  have t7 : (pU (pU (pU M 624 10 0) 624 11 (pU M 624 10 0 624 13)) 624 12 (pU (pU M 624 10 0) 624 11 (pU M 624 10 0 624 13) 624 14)) 624 10 = 0 := by
    rw [pU_s, u1_n (by omega), pU_s, u1_n (by omega), pU_s, u1_s]
  have k7 : ∀ k, 0 ≤ k → k < 780 → (pU (pU (pU M 624 10 0) 624 11 (pU M 624 10 0 624 13)) 624 12 (pU (pU M 624 10 0) 624 11 (pU M 624 10 0 624 13) 624 14)) 626 k = G 625 k := fun k k0 k1 => by
    rw [pU_n (by omega), pU_n (by omega), pU_n (by omega)]; exact k6 k k0 k1
  generalize pU (pU (pU M 624 10 0) 624 11 (pU M 624 10 0 624 13)) 624 12 (pU (pU M 624 10 0) 624 11 (pU M 624 10 0 624 13) 624 14) = N at *
  have n0 := i7.1.1
  have n1 : N 624 1 = 626 := i7.1.2.2.2.2.2.2.2.2.2
  by_cases hy : y = 0
  · have hc := vM_copies (g := N) (a := 626) (x := 0) (b := 625) (y := 0) (n := 780) ⟨kd_626, kd_625⟩ (by rw [sz_626]; omega) (by rw [sz_625]; omega) (by omega) (Or.inl (by omega))
    rw [if_pos hy, n0, n1, hc, bdN_s]
    refine ⟨_, _, rfl, ?_, MF_cp f7 (by omega), by rw [cpG_n (by omega)]; exact t7⟩
    have hrow : WBF (cpG N 626 0 625 0 780 625) := WBF_ext w1 (fun k k0 k1 => by
      unfold cpG
      rw [if_pos ⟨rfl, by omega, by omega⟩, show (0 + k - 0 : Int) = k by omega]
      exact k7 k k0 k1)
    obtain ⟨h1, h2, h3, ⟨h4, h5⟩, h6, h7, h8⟩ := i7
    unfold MInv MS
    simp (disch := omega) only [cpG_n]
    exact ⟨h1, hrow, h3, ⟨h4, h5⟩, h6, h7, h8⟩
  · rw [if_neg hy, bnd_s, bnd_s]
    have i8 := MInv_67 i7
    rw [i8.1.1, if_pos (by rw [kd_625, sz_625]; omega)]
    exact ⟨_, _, rfl, i8, MF_pU (MF_pU f7 (by omega)) (by omega), by rw [pU_s, u1_n (by omega), pU_s, u1_n (by omega)]; exact t7⟩
end MODEL37
