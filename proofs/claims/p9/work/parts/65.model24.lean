/-! ===== the reference's print (own work) ===== -/
section MODEL24
variable {g G H K : gH} {p code t c a b k q gp d x y z w v n l : Int}
theorem MInv_ol (h : MInv g) (hn : 0 ≤ n ∧ n ≤ 400) : MInv (pU g 624 23 n) := by
  obtain ⟨h1, h2, h3, ⟨h4, h5⟩, h6, h7, h8⟩ := h
  unfold MInv MS
  simp (disch := omega) only [pU_n, pU_s, u1_n, u1_s]
  exact ⟨h1, h2, h3, ⟨h4, h5⟩, h6, h7, hn⟩
theorem OK_WR (h : OKg g G) (w : WR G H k) : OKg g H := ⟨w.1, fun x hx => (w.2.1 x hx).trans (h.2.1 x hx), KI_t h.2.2 w.2.2.1⟩
theorem p_126 (o : OKg g G) (h : G 624 23 < 400) : PO g (jM_print_126 G 624) := by
  rw [jM_print_126]
  refine po_ite (fun _ => ?_) (fun _ => PO_i rfl o)
  obtain ⟨H, e, w⟩ := vM_write (c := 45) o.1 h
  rw [e, bdN_s]
  exact PO_i rfl (OK_WR o w)
theorem p_81 (o : OKg g G) (ha : ¬ a = 3) (ha' : ¬ a = 4) (h : G 624 23 < 400) : PO g (lM_print_81 624 p a fu 0 G) := by
  have hf := fu_ge
  obtain ⟨n, hn⟩ : ∃ n, fu = n + 1 := ⟨fu - 1, by omega⟩
  rw [hn]
  show PO g (bM_print_81 624 p a (lM_print_81 624 p a n) 0 G)
  rw [bM_print_81, if_pos (by omega), if_neg ha, jM_print_116, if_neg ha']
  exact p_126 o h
theorem p_81z (o : OKg g G) (h : G 624 23 = 0) : PO g (lM_print_81 624 p 4 fu 0 G) := by
  have hf := fu_ge
  obtain ⟨n, hn⟩ : ∃ n, fu = n + 1 := ⟨fu - 1, by omega⟩
  rw [hn]
  show PO g (bM_print_81 624 p 4 (lM_print_81 624 p 4 n) 0 G)
  rw [bM_print_81, if_pos (by omega), if_neg (by omega), jM_print_116, if_pos rfl]
  obtain ⟨H, e, w⟩ := vM_writeZombies (p := p) o.1 h
  rw [e, bdN_s]
  have := w.2.2.2.2.2
  exact p_126 (OK_WR o w) (by omega)
theorem p_81d : ∀ (m n : Nat) (i : Int) (G : gH), OKg g G → (8 - i).toNat = m → m < n → 0 ≤ i → G 624 23 + 3 * m < 400 → PO g (lM_print_81 624 p 3 n i G) := by
  intro m
  induction m with
  | zero =>
    intro n i G o hm hn hi hg
    obtain ⟨n, rfl⟩ : ∃ k, n = k + 1 := ⟨n - 1, by omega⟩
    show PO g (bM_print_81 624 p 3 (lM_print_81 624 p 3 n) i G)
    rw [bM_print_81, if_neg (by omega), jM_print_116, if_neg (by omega)]
    exact p_126 o (by omega)
  | succ m ih =>
    intro n i G o hm hn hi hg
    obtain ⟨n, rfl⟩ : ∃ k, n = k + 1 := ⟨n - 1, by omega⟩
    have h0 := o.1.1.1
    have hi8 : i < 8 := by omega
    show PO g (bM_print_81 624 p 3 (lM_print_81 624 p 3 n) i G)
    rw [bM_print_81, if_pos hi8, if_pos rfl]
    refine po_t (by (simp (disch := omega) only [h0, kd_625, sz_625, w32_r, true_and, le_t, lt_t, and_true])) ?_
    refine po_ite (fun _ => ?_) (fun _ => ?_)
    · obtain ⟨H, e, w⟩ := vM_writeNumber (x := i) o.1 (by omega) (by omega)
      have := w.2.2.2.2.2
      rw [e, bdN_s, w32_r (by omega)]
      exact ih n (i + 1) H (OK_WR o w) (by omega) (by omega) (by omega) (by omega)
    · rw [w32_r (by omega)]
      exact ih n (i + 1) G o (by omega) (by omega) (by omega) (by omega)
theorem oM_print (hi : MInv g) : PO g (fM_print g 624 p a) := by
  refine po_np hi (fun hp => ?_)
  have o1 := o0 hi
  have hM := hi.2.1.1.1
  have hf := fu_ge
  have e25 : (th g 0) 625 = g 625 := th_n (by omega)
  rw [vM_inRange, bdP_s]
  by_cases h : 0 ≤ a ∧ a ≤ 4
  · simp only [if_pos h, f0, if_false, jM_print_23, kd_c624, if_true, vM_fails (Or.inl rfl), bdN_s, vM_isGone o1.1.1 (show 0 ≤ p ∧ p < 40 by omega), bdP_s]
    by_cases hg : (th g 0) 625 (140 + p) = 2
    · simp only [if_pos hg, vM_fails (Or.inr rfl), bdN_s, f0, if_false]
      exact PO_i rfl (OK_th o1)
    · simp only [if_neg hg, vM_fails (Or.inl rfl), bdN_s, if_true, bnd_s]
      have o2 : OKg g (pU (th g 0) 624 23 0) := ⟨MInv_ol o1.1 (by omega), MF_pU o1.2.1 (by omega), KI_e o1.2.2 (fun k k0 k1 => by rw [pU_s, u1_n (by omega)]) (pU_n (by omega))⟩
      have z : pU (th g 0) 624 23 0 624 23 = 0 := by rw [pU_s, u1_s]
      have e26 : pU (th g 0) 624 23 0 625 = g 625 := by rw [pU_n (by omega), e25]
      generalize pU (th g 0) 624 23 0 = G at *
      have hp' : 0 ≤ p ∧ p < G 625 0 := by rw [e26]; exact hp
      rcases (show a = 0 ∨ a = 1 ∨ a = 2 ∨ a = 3 ∨ a = 4 by omega) with e | e | e | e | e
      · subst e
        obtain ⟨H, e, w⟩ := vM_writePath o2.1 hp' z
        have := w.2.2.2.2.2
        rw [if_pos rfl, e, bdN_s, jM_print_59, if_neg (by omega), jM_print_69, if_neg (by omega)]
        exact p_81 (OK_WR o2 w) (by omega) (by omega) (by omega)
      · subst e
        obtain ⟨H, e, w⟩ := vM_writeChildren (p := p) o2.1 z
        have := w.2.2.2.2.2
        rw [if_neg (by omega), jM_print_59, if_pos rfl, e, bdN_s, jM_print_69, if_neg (by omega)]
        exact p_81 (OK_WR o2 w) (by omega) (by omega) (by omega)
      · subst e
        have hN : cn (Bl (up (G 625)) p) (G 625 0).toNat 0 ≤ 40 := by
          have := (cn_bd (Bl (up (G 625)) p) (G 625 0).toNat 0).2
          rw [e26] at this ⊢
          omega
        obtain ⟨H, e, w⟩ := vM_writeTree o2.1.2.1.1 fr p G o2.1 rfl hp' (by unfold fr; omega) (by omega)
        have := w.2.2.2.2.2
        rw [if_neg (by omega), jM_print_59, if_neg (by omega), jM_print_69, if_pos rfl, e, bdN_s]
        exact p_81 (OK_WR o2 w) (by omega) (by omega) (by omega)
      · subst e
        rw [if_neg (by omega), jM_print_59, if_neg (by omega), jM_print_69, if_neg (by omega)]
        exact p_81d 8 fu 0 G o2 (by omega) (by omega) (by omega) (by omega)
      · subst e
        rw [if_neg (by omega), jM_print_59, if_neg (by omega), jM_print_69, if_neg (by omega)]
        exact p_81z o2 z
  · simp only [if_neg h, if_true, jM_print_23, kd_c624, vM_fails (Or.inr rfl), bdN_s, f0, if_false]
    exact PO_i rfl (OK_th o1)
end MODEL24
