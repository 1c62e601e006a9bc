/-! ===== the reference's reader: its tokens (own work) ===== -/
section MODEL27
variable {g G H K : gH} {p code t c a b k q gp d x y z w v n l i : Int}
/-- only the reader's own places are touched -/
def PF (G H : gH) : Prop := (∀ x, ¬ x = 624 → H x = G x) ∧ ∀ k, ¬ (13 ≤ k ∧ k ≤ 19) → H 624 k = G 624 k
theorem PF_r : PF G G := ⟨fun _ _ => rfl, fun _ _ => rfl⟩
theorem PF_t (h : PF G H) (h' : PF H K) : PF G K := ⟨fun x hx => (h'.1 x hx).trans (h.1 x hx), fun k hk => (h'.2 k hk).trans (h.2 k hk)⟩
theorem PF_u (h : PF G H) (hk : 13 ≤ k ∧ k ≤ 19) : PF G (pU H 624 k v) := ⟨fun x hx => (pU_n (by omega)).trans (h.1 x hx), fun j hj => by rw [pU_s, u1_n (by omega)]; exact h.2 j hj⟩
theorem MInv_PF (h : MInv G) (hp : PF G H) : MInv H := by
  obtain ⟨h1, h2, h3, ⟨h4, h5⟩, h6, h7, h8⟩ := h
  unfold MInv MS
  rw [hp.1 625 (by omega), hp.1 628 (by omega), hp.1 629 (by omega), hp.1 630 (by omega), hp.2 0 (by omega), hp.2 1 (by omega), hp.2 2 (by omega), hp.2 3 (by omega), hp.2 4 (by omega), hp.2 5 (by omega), hp.2 6 (by omega), hp.2 7 (by omega), hp.2 9 (by omega), hp.2 10 (by omega), hp.2 20 (by omega), hp.2 21 (by omega), hp.2 22 (by omega), hp.2 23 (by omega)]
  exact ⟨h1, h2, h3, ⟨h4, h5⟩, h6, h7, h8⟩
/-- the place of the next byte -/
def Ps (G : gH) : Prop := 0 ≤ G 624 15 ∧ G 624 15 ≤ G 624 10
def TK (G : gH) : Prop := 0 ≤ G 624 16 ∧ G 624 16 ≤ G 624 15 ∧ G 624 15 ≤ G 624 10
theorem vM_byteAt (h : MInv G) (hv : 0 ≤ v) : fM_byteAt G 624 v = some (if v < G 624 10 then G 631 v else -1) := by
  have h9 : G 624 9 = 631 := h.1.2.2.2.2.2.1
  have h10 := h.2.2.2.2.2.1
  rw [fM_byteAt]
  split
  · next hlt => simp (disch := omega) only [h9, kd_631, sz_631, true_and, le_t, lt_t, and_true, ↓reduceIte]
  · rfl
theorem vM_failsAt (h : MInv G) : ∃ H, fM_failsAt G 624 v = some (0, H) ∧ PF G H ∧ (H 624 15 = G 624 15 ∧ H 624 16 = G 624 16 ∧ H 624 17 = G 624 17 ∧ H 624 18 = G 624 18 ∧ H 624 19 = G 624 19) := by
  rw [fM_failsAt]
  split
  · refine ⟨_, rfl, PF_u (PF_u PF_r (by omega)) (by omega), ?_⟩
    simp (disch := omega) only [pU_s, u1_n, and_self]
  · exact ⟨G, rfl, PF_r, rfl, rfl, rfl, rfl, rfl⟩
end MODEL27
