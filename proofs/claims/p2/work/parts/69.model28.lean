/-! ===== the reference's reader: its statements (own work) ===== -/
section MODEL28
variable {g G H K : gH} {p code t c a b k q gp d x y z w v n l i : Int}
/-- while the reader reads: the row is whole, everyone runs, the kept row stands by -/
def RD (g G : gH) : Prop := MInv G ∧ MF g G ∧ G 626 = g 626 ∧ G 624 10 = g 624 10 ∧ TK G ∧ ∀ i, 0 ≤ i → i < G 625 0 → G 625 (140 + i) = 0
theorem RD_PF (h : RD g G) (k : PF G H) (t : TK H) : RD g H := ⟨MInv_PF h.1 k, fun x hx => (k.1 x (by omega)).trans (h.2.1 x hx), (k.1 626 (by omega)).trans h.2.2.1, (k.2 10 (by omega)).trans h.2.2.2.1, t, by rw [k.1 625 (by omega)]; exact h.2.2.2.2.2⟩
theorem RD_632 (h : RD g G) : RD g (pU G 632 k v) := by
  obtain ⟨⟨h1, h2, h3, ⟨h4, h5⟩, h6, h7, h8⟩, b1, b2, b3, b4, b5⟩ := h
  refine ⟨?_, MF_pU b1 (by omega), by rw [pU_n (by omega)]; exact b2, by rw [pU_n (by omega)]; exact b3, ?_, by rw [pU_n (by omega)]; exact b5⟩
  · unfold MInv MS
    simp (disch := omega) only [pU_n]
    exact ⟨h1, h2, h3, ⟨h4, h5⟩, h6, h7, h8⟩
  · unfold TK; rw [pU_n (by omega)]; exact b4
theorem RD_row (h : RD g G) (hw : WBF (u1 (G 625) k v)) (h0 : ¬ k = 0) (hk : ¬ (140 ≤ k ∧ k < 180)) : RD g (pU G 625 k v) := by
  have hM := h.1.2.1.1.1
  obtain ⟨⟨h1, h2, h3, ⟨h4, h5⟩, h6, h7, h8⟩, b1, b2, b3, b4, b5⟩ := h
  refine ⟨?_, MF_pU b1 (by omega), by rw [pU_n (by omega)]; exact b2, by rw [pU_n (by omega)]; exact b3, ?_, ?_⟩
  · unfold MInv MS
    rw [pU_s]
    simp (disch := omega) only [pU_n]
    exact ⟨h1, hw, h3, ⟨h4, h5⟩, h6, h7, h8⟩
  · unfold TK; rw [pU_n (by omega)]; exact b4
  · rw [pU_s]
    intro i i0 i1
    rw [u1_n (by omega)] at i1
    rw [u1_n (by omega)]
    exact b5 i i0 i1
theorem TK_Ps (h : TK G) : Ps G := by unfold TK at h; unfold Ps; omega
theorem rd_advance (h : RD g G) : ∃ H, fM_advanceToken G 624 = some (0, H) ∧ RD g H ∧ AT G H := by
  obtain ⟨H, e, a⟩ := vM_advance h.1 (TK_Ps h.2.2.2.2.1)
  exact ⟨H, e, RD_PF h a.1 a.2.1, a⟩
theorem rd_fails (h : RD g G) : ∃ H, fM_failsAt G 624 v = some (0, H) ∧ RD g H ∧ G 624 15 ≤ H 624 15 := by
  obtain ⟨H, e, k1, k2⟩ := vM_failsAt (v := v) h.1
  have ht := h.2.2.2.2.1
  refine ⟨H, e, RD_PF h k1 ?_, by omega⟩
  unfold TK at ht ⊢
  rw [k2.1, k2.2.1, k1.2 10 (by omega)]; exact ht
theorem rd_number (h : RD g G) : ∃ y H, fM_isNumber G 624 a b = some (y, H) ∧ RD g H ∧ ((y = 0 ∧ True) ∨ (y = 1 ∧ H = G ∧ a ≤ G 624 17 ∧ G 624 17 ≤ b)) := by
  obtain ⟨y, H, e, k1, k2, k3⟩ := vM_isNumber (a := a) (b := b) h.1 h.2.2.2.2.1
  refine ⟨y, H, e, RD_PF h k1 k2, ?_⟩
  rcases k3 with k3 | ⟨k3, k4, -, k5, k6⟩
  · exact Or.inl ⟨k3, trivial⟩
  · exact Or.inr ⟨k3, k4, k5, k6⟩
end MODEL28
