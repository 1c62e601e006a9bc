/-! ===== the reference's input (own work) ===== -/
section MODEL21
variable {g G : gH} {p code t c a b k q gp d x y z w v n : Int}
theorem MInv_len (h : MInv g) (hn : 0 ≤ n ∧ n ≤ 500) : MInv (pU g 624 10 n) := by
  obtain ⟨h1, h2, h3, ⟨h4, h5⟩, h6, h7, h8⟩ := h
  unfold MInv MS
  simp (disch := omega) only [pU_n, pU_s, u1_n, u1_s]
  exact ⟨h1, h2, h3, ⟨h4, h5⟩, h6, hn, h8⟩
theorem MInv_in (h : MInv g) : MInv (pU g 631 a x) := by
  obtain ⟨h1, h2, h3, ⟨h4, h5⟩, h6, h7, h8⟩ := h
  unfold MInv MS
  simp (disch := omega) only [pU_n]
  exact ⟨h1, h2, h3, ⟨h4, h5⟩, h6, h7, h8⟩
/-- n bytes are written behind the input -/
theorem vM_appendWord (hi : MInv G) (hl : G 624 10 + 4 ≤ 500) : ∃ G', fM_appendWord G 624 w = some (0, G') ∧ MInv G' ∧ MF G G' ∧ G' 624 10 = G 624 10 + 4 ∧ (∀ k, ¬ k = 10 → G' 624 k = G 624 k) ∧ (∀ x, ¬ x = 624 → ¬ x = 631 → G' x = G x) := by
  have key : ∀ (v : Int) (n : Nat) (G : gH), MInv G → 0 ≤ v → G 624 10 + 1 ≤ 500 → ∃ G', lM_appendWord_3 624 w (n + 1) v G = lM_appendWord_3 624 w n (w32 (v + -8)) G' ∧ MInv G' ∧ MF G G' ∧ G' 624 10 = G 624 10 + 1 ∧ (∀ k, ¬ k = 10 → G' 624 k = G 624 k) ∧ (∀ x, ¬ x = 624 → ¬ x = 631 → G' x = G x) := by
    intro v n G hi hv hl
    have h9 : G 624 9 = 631 := hi.1.2.2.2.2.2.1
    have h10 := hi.2.2.2.2.2.1
    have hv' : ¬ v < 0 := by omega
    refine ⟨pU (pU G 631 (G 624 10) (opI 1 (opI 5 w v) 255)) 624 10 (G 624 10 + 1), ?_, ?_, ?_, ?_, ?_, ?_⟩
    · show bM_appendWord_3 624 w (lM_appendWord_3 624 w n) v G = _
      rw [bM_appendWord_3]
      have e1 : pU G 631 (G 624 10) (opI 1 (opI 5 w v) 255) 624 = G 624 := pU_n (by omega)
      simp (disch := omega) only [if_neg hv', h9, kd_631, sz_631, true_and, le_t, lt_t, and_true, ↓reduceIte, bnd_s, e1, w32_r]
    · exact MInv_len (MInv_in hi) (by omega)
    · exact MF_pU (MF_pU MF_r (by omega)) (by omega)
    · rw [pU_s, u1_s]
    · intro k hk
      rw [pU_s, u1_n (by omega), pU_n (by omega)]
    · intro x h1 h2
      rw [pU_n (by omega), pU_n (by omega)]
  obtain ⟨G1, a1, a2, a3, a4, a5, a6⟩ := key 24 (fu - 1) G hi (by omega) (by omega)
  obtain ⟨G2, b1, b2, b3, b4, b5, b6⟩ := key 16 (fu - 2) G1 a2 (by omega) (by omega)
  obtain ⟨G3, c1, c2, c3, c4, c5, c6⟩ := key 8 (fu - 3) G2 b2 (by omega) (by omega)
  obtain ⟨G4, d1, d2, d3, d4, d5, d6⟩ := key 0 (fu - 4) G3 c2 (by omega) (by omega)
  have hf := fu_ge
  have e1 : fu - 1 + 1 = fu := by omega
  have e2 : fu - 2 + 1 = fu - 1 := by omega
  have e3 : fu - 3 + 1 = fu - 2 := by omega
  have e4 : fu - 4 + 1 = fu - 3 := by omega
  have e5 : fu - 5 + 1 = fu - 4 := by omega
  rw [e1] at a1; rw [e2] at b1; rw [e3] at c1; rw [e4] at d1
  refine ⟨G4, ?_, d2, fun x hx => ?_, by omega, fun k hk => ?_, fun x h1 h2 => ?_⟩
  · rw [fM_appendWord, a1, show w32 (24 + -8) = 16 from w32_r (by omega), b1, show w32 (16 + -8) = 8 from w32_r (by omega), c1, show w32 (8 + -8) = 0 from w32_r (by omega), d1, show w32 (0 + -8) = -8 from w32_r (by omega), ← e5]
    show bM_appendWord_3 624 w (lM_appendWord_3 624 w (fu - 5)) (-8) G4 = _
    rw [bM_appendWord_3, if_pos (by omega)]
  · rw [d3 x hx, c3 x hx, b3 x hx, a3 x hx]
  · rw [d5 k hk, c5 k hk, b5 k hk, a5 k hk]
  · rw [d6 x h1 h2, c6 x h1 h2, b6 x h1 h2, a6 x h1 h2]
/-- promise 2: what is answered, what the length is then -/
theorem oM_appendInput (hi : MInv g) : ∃ G', fM_appendInput g 624 a b c d k = some (if 500 < g 624 10 + 20 then -1 else g 624 10 + 20, G') ∧ MInv G' ∧ MF g G' ∧ G' 624 10 = (if 500 < g 624 10 + 20 then g 624 10 else g 624 10 + 20) := by
  have o1 := o0 hi
  have h10 := hi.2.2.2.2.2.1
  have e10 : (th g 0) 624 10 = g 624 10 := th_f (by omega)
  rw [fM_appendInput, bnd_s, o8 hi, e10, w32_r (by omega)]
  by_cases h : 500 < g 624 10 + 20
  · rw [if_pos h, if_pos h, if_pos h]
    exact ⟨_, rfl, o1.1, o1.2.1, e10⟩
  · rw [if_neg h, if_neg h, if_neg h]
    obtain ⟨G1, a1, a2, a3, a4, -, -⟩ := vM_appendWord (w := a) o1.1 (by omega)
    obtain ⟨G2, b1, b2, b3, b4, -, -⟩ := vM_appendWord (w := b) a2 (by omega)
    obtain ⟨G3, c1, c2, c3, c4, -, -⟩ := vM_appendWord (w := c) b2 (by omega)
    obtain ⟨G4, d1, d2, d3, d4, -, -⟩ := vM_appendWord (w := d) c2 (by omega)
    obtain ⟨G5, k1, k2, k3, k4, -, -⟩ := vM_appendWord (w := k) d2 (by omega)
    rw [a1, bdN_s, b1, bdN_s, c1, bdN_s, d1, bdN_s, k1, bdN_s]
    have e5 : G5 624 10 = g 624 10 + 20 := by omega
    rw [e5]
    exact ⟨_, rfl, k2, fun x hx => by rw [k3 x hx, d3 x hx, c3 x hx, b3 x hx, a3 x hx, o1.2.1 x hx], e5⟩
/-- promise 3 -/
theorem oM_truncateInput (hi : MInv g) : ∃ G', fM_truncateInput g 624 a = some (if 0 ≤ a ∧ a ≤ g 624 10 then 1 else 0, G') ∧ MInv G' ∧ MF g G' ∧ G' 624 10 = (if 0 ≤ a ∧ a ≤ g 624 10 then a else g 624 10) := by
  have o1 := o0 hi
  have h10 := hi.2.2.2.2.2.1
  have e10 : (th g 0) 624 10 = g 624 10 := th_f (by omega)
  rw [fM_truncateInput, bnd_s, o8 hi, e10, vM_inRange, bdP_s]
  by_cases h : 0 ≤ a ∧ a ≤ g 624 10
  · simp only [if_pos h, f0, if_false, bnd_s]
    exact ⟨_, rfl, MInv_len o1.1 (by omega), MF_pU o1.2.1 (by omega), by rw [pU_s, u1_s]⟩
  · simp only [if_neg h, if_true]
    exact ⟨_, rfl, o1.1, o1.2.1, e10⟩
end MODEL21
