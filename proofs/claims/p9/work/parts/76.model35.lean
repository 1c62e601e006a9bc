/-! ===== the reference's reader: a fresh row (own work) ===== -/
section MODEL35
variable {g G H K : gH} {p code t c a b k q gp d x y z w v n l i : Int}
/-- the row is wiped -/
theorem clr_1 (hs : MS G) : ∀ (m n : Nat) (i : Int) (G : gH), G 624 0 = 625 → (780 - i).toNat = m → m < n → 0 ≤ i → ∃ r, lM_clear_2 624 n i G = jM_clear_22 (sw G r) 624 ∧ ∀ k, 0 ≤ k → k < 780 → r k = if i ≤ k then 0 else G 625 k := by
  intro m
  induction m with
  | zero =>
    intro n i G h0 hm hn hi
    obtain ⟨n, rfl⟩ : ∃ k, n = k + 1 := ⟨n - 1, by omega⟩
    refine ⟨G 625, ?_, fun k k0 k1 => by rw [if_neg (by omega)]⟩
    show bM_clear_2 624 (lM_clear_2 624 n) i G = _
    rw [bM_clear_2, if_neg (by omega)]
    rw [sw_id]
  | succ m ih =>
    intro n i G h0 hm hn hi
    obtain ⟨n, rfl⟩ : ∃ k, n = k + 1 := ⟨n - 1, by omega⟩
    obtain ⟨r, e, hr⟩ := ih n (i + 1) (pU G 625 i 0) (by rw [pU_n (by omega)]; exact h0) (by omega) (by omega) (by omega)
    refine ⟨r, ?_, fun k k0 k1 => ?_⟩
    · show bM_clear_2 624 (lM_clear_2 624 n) i G = _
      rw [bM_clear_2, if_pos (by omega), h0, if_pos (by rw [kd_625, sz_625]; omega), bnd_s, w32_r (by omega), e, pU_625, sw_sw]
    · rw [hr k k0 k1]
      by_cases e1 : i + 1 ≤ k
      · rw [if_pos e1, if_pos (by omega)]
      · rw [if_neg e1, pU_s]
        by_cases e2 : k = i
        · rw [e2, u1_s, if_pos (by omega)]
        · rw [u1_n e2, if_neg (by omega)]
theorem WBF_new {r : Int → Int} (h0 : r 0 = 0) (h1 : r 1 = 0) (h5 : 0 ≤ r 5 ∧ r 5 ≤ 5) (hz : ∀ k, 11 ≤ k → k < 19 → r k = 0) : WBF (cmR r (-1) 9 0 0) := by
  have v : ∀ k, cmR r (-1) 9 0 0 k = if k = 0 then 1 else if 460 ≤ k ∧ k < 468 then -1 else if k = 420 then -1 else if k = 380 then 0 else if k = 340 then 0 else if k = 300 then -1 else if k = 260 then -1 else if k = 220 then 0 else if k = 180 then 0 else if k = 140 then 0 else if k = 100 then 9 else if k = 60 then -1 else r k := by
    intro k
    unfold cmR
    rw [h0]
    rfl
  have v0 : cmR r (-1) 9 0 0 0 = 1 := by rw [v, if_pos rfl]
  have v1 : cmR r (-1) 9 0 0 1 = 0 := by rw [v]; simp (disch := omega) only [if_neg]; exact h1
  have v5 : cmR r (-1) 9 0 0 5 = r 5 := by rw [v]; simp (disch := omega) only [if_neg]
  have v140 : cmR r (-1) 9 0 0 140 = 0 := by rw [v]; rfl
  have v100 : cmR r (-1) 9 0 0 100 = 9 := by rw [v]; rfl
  have v260 : cmR r (-1) 9 0 0 260 = -1 := by rw [v]; rfl
  have v220 : cmR r (-1) 9 0 0 220 = 0 := by rw [v]; rfl
  have vd : ∀ d, 0 ≤ d → d < 8 → cmR r (-1) 9 0 0 (11 + d) = 0 := by intro d d0 d1; rw [v]; simp (disch := omega) only [if_neg]; exact hz _ (by omega) (by omega)
  have vw : ∀ d, 0 ≤ d → d < 8 → cmR r (-1) 9 0 0 (460 + d) = -1 := by intro d d0 d1; rw [v, if_neg (by omega), if_pos (by omega)]
  have one : ∀ i, 0 ≤ i → i < cmR r (-1) 9 0 0 0 → i = 0 := by intro i i0 i1; rw [v0] at i1; omega
  refine ⟨⟨by rw [v0]; omega, fun i i0 i1 => absurd (one i (by omega) i1) (by omega), fun i i0 i1 => by rw [one i i0 i1]; exact en_0, by rw [v5]; exact h5, fun i i0 i1 => ?_, fun i d i0 i1 d0 d1 => ?_, fun i i0 i1 => ?_⟩, ⟨fun i i0 i1 => ?_, v140⟩, fun i i0 i1 => absurd (one i (by omega) i1) (by omega), ⟨by rw [v1]; omega, fun k k0 k1 => by rw [v1] at k1; omega⟩, fun i i0 i1 i2 => ?_, ?_, fun d d0 d1 => ?_, fun i i0 i1 i2 => ?_, fun i i0 i1 => ?_⟩
  · rw [one i i0 i1, show (260 + 0 : Int) = 260 by omega, v260, v0]; omega
  · rw [one i i0 i1, show (460 + 8 * 0 + d : Int) = 460 + d by omega, vw d d0 d1, v0]; omega
  · rw [one i i0 i1, show (100 + 0 : Int) = 100 by omega, v100]; omega
  · rw [one i i0 i1, show (140 + 0 : Int) = 140 by omega, v140]; omega
  · rw [one i i0 i1, show (140 + 0 : Int) = 140 by omega, v140] at i2; exact absurd rfl i2
  · show cmR r (-1) 9 0 0 1 = _
    rw [v1, v0]
    show (0 : Int) = cn _ 1 0
    rw [cn_s]
    rw [show (140 + 0 : Int) = 140 by omega, v140]
    rfl
  · rw [vd d d0 d1, v0, show (140 + 0 : Int) = 140 by omega, v140]; omega
  · rw [one i i0 i1, show (140 + 0 : Int) = 140 by omega, v140] at i2; omega
  · rw [one i i0 i1, show (220 + 0 : Int) = 220 by omega, v220]; omega
end MODEL35
