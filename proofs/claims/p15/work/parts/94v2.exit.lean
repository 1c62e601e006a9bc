/-! ===== the class's exit on a tree, as the row changes, more (own work) ===== -/
section PAR24
variable {g g' G H K : gH} {r r' dm κ κ' : Int → Int} {a b c d e i j k l m n o p q s t u v w wo x y z S code : Int}
/-- whom an orphan goes to -/
theorem orp_t (hd : ∃ g : gH, MS g ∧ g 630 = dm) (h : EP r p s q) (hc : 0 < c ∧ c < r 0) (hi : ic r c p 0 = true) : (0 ≤ (if ¬ q = -1 ∧ 0 < room r q then q else AD r dm c p) ∧ (if ¬ q = -1 ∧ 0 < room r q then q else AD r dm c p) < r 0) ∧ ¬ (if ¬ q = -1 ∧ 0 < room r q then q else AD r dm c p) = c ∧ OV (up r) c (if ¬ q = -1 ∧ 0 < room r q then q else AD r dm c p) = false := by
  obtain ⟨g, hs, rfl⟩ := hd
  have hM := h.1.1
  obtain ⟨a1, a2, a3, a4, a5, a6⟩ := h.2.1
  obtain ⟨i1, i2, i3⟩ := ic_t.mp hi
  have hcq : c ≠ q := by
    intro e
    rcases h.2.2.2.2.2.2.2.2.2 with e2 | ⟨q1, q2, q3, q4, q5⟩
    · omega
    · rw [e, q4] at i2; exact a5 i2
  obtain ⟨d1, d2, d3⟩ := EP_dp h hc i2
  by_cases e : ¬ q = -1 ∧ 0 < room r q
  · rw [if_pos e]
    rcases h.2.2.2.2.2.2.2.2.2 with e2 | ⟨q1, q2, q3, q4, q5⟩
    · exact absurd e2 e.1
    · exact ⟨⟨by omega, q2⟩, fun z => hcq z.symm, d3 e.1 hcq⟩
  · rw [if_neg e]
    have hAD := (vM_adopterOf (g := sw g r) (o := c) (wo := p) (MS_sw hs) (by rw [sw_s]; exact h.1) (by rw [sw_s]; omega) (by rw [sw_s]; omega)).2
    rw [sw_s, sw_n (show ¬ (630 : Int) = 625 by omega)] at hAD
    rcases hAD with e2 | ⟨e2, e3, e4, e5⟩
    · rw [e2]
      exact ⟨by omega, by omega, OV_0⟩
    · obtain ⟨f1, f2, f3⟩ := canA_f e5
      exact ⟨⟨by omega, e3⟩, f2, f3⟩
theorem MM_of (hd : ∃ g : gH, MS g ∧ g 630 = dm) : MM r dm := by
  obtain ⟨g, h1, h2⟩ := hd
  exact ⟨sw g r, MS_sw h1, sw_s, by rw [sw_n (by omega)]; exact h2⟩
end PAR24
