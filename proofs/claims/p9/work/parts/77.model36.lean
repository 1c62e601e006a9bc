/-! ===== the reference's clear (own work) ===== -/
section MODEL36
variable {g G H K : gH} {p code t c a b k q gp d x y z w v n l i : Int}
theorem cm140 {r : Int → Int} (h : r 0 = 0) : cmR r (-1) 9 0 0 140 = 0 := by
  unfold cmR
  rw [h]
  rfl
theorem clr_3 (r0 : Int → Int) (e : ∀ k, 0 ≤ k → k < 780 → r0 k = 0) (hs : MS G) : ∃ r, jM_clear_22 (sw G r0) 624 = some (0, sw G r) ∧ WBF r ∧ r 0 = 1 ∧ r 140 = 0 := by
  have hf := fu_ge
  have h0 : ∀ r, sw G r 624 0 = 625 := fun r => by rw [sw_n (by omega)]; exact hs.1
  have st : ∀ (n : Nat) (i : Int) (r : Int → Int), 0 ≤ i → i < 3 → lM_clear_31 624 (n + 1) i (sw G r) = lM_clear_31 624 n (i + 1) (sw G (u1 r (6 + i) i)) := by
    intro n i r i0 i1
    show bM_clear_31 624 (lM_clear_31 624 n) i (sw G r) = _
    rw [bM_clear_31, if_pos i1, h0, w32_r (by omega), if_pos (by rw [kd_625, sz_625]; omega), bnd_s, w32_r (by omega), pU_sw]
  obtain ⟨n, hn⟩ : ∃ n, fu = n + 4 := ⟨fu - 4, by omega⟩
  have hM : 0 ≤ u1 (u1 (u1 (u1 (u1 r0 5 3) (6 + 0) 0) (6 + (0 + 1)) (0 + 1)) (6 + (0 + 1 + 1)) (0 + 1 + 1)) 59 20 0 ∧ u1 (u1 (u1 (u1 (u1 r0 5 3) (6 + 0) 0) (6 + (0 + 1)) (0 + 1)) (6 + (0 + 1 + 1)) (0 + 1 + 1)) 59 20 0 < 40 := by
    simp (disch := omega) only [u1_n]
    rw [e 0 (by omega) (by omega)]; omega
  refine ⟨cmR (u1 (u1 (u1 (u1 (u1 r0 5 3) (6 + 0) 0) (6 + (0 + 1)) (0 + 1)) (6 + (0 + 1 + 1)) (0 + 1 + 1)) 59 20) (-1) 9 0 0, ?_, WBF_new ?_ ?_ ?_ ?_, ?_, ?_⟩
  · rw [jM_clear_22, h0, if_pos (by rw [kd_625, sz_625]; omega), bnd_s, pU_sw, hn, st _ _ _ (by omega) (by omega), st _ _ _ (by omega) (by omega), st _ _ _ (by omega) (by omega)]
    show bM_clear_31 624 (lM_clear_31 624 n) (0 + 1 + 1 + 1) _ = _
    rw [bM_clear_31, if_neg (by omega), jM_clear_52, h0, if_pos (by rw [kd_625, sz_625]; omega), bnd_s, pU_sw, vM_comes (MS_sw hs) (by rw [sw_s]; exact hM), bdN_s, sw_s, sw_sw]
  · simp (disch := omega) only [u1_n]; exact e 0 (by omega) (by omega)
  · simp (disch := omega) only [u1_n]; exact e 1 (by omega) (by omega)
  · simp (disch := omega) only [u1_n, u1_s]; omega
  · intro k k0 k1
    simp (disch := omega) only [u1_n]; exact e k (by omega) (by omega)
  · rw [cmR_0]; simp (disch := omega) only [u1_n]; rw [e 0 (by omega) (by omega)]; rfl
  · exact cm140 (by simp (disch := omega) only [u1_n]; exact e 0 (by omega) (by omega))
end MODEL36
