/-! ===== the reference's reader: its statements, more (own work) ===== -/
section MODEL29
variable {g G H K : gH} {p code t c a b k q gp d x y z w v n l i : Int}
/-- places of the row that the chain doesn't hang on: a capacity, an heir, a will -/
theorem WB_pl {r : Int → Int} (h : WB r) (hk : 100 ≤ k ∧ k < 780) (h1 : k < 140 → 0 ≤ v ∧ v ≤ 9) (h2 : 140 ≤ k → -1 ≤ v ∧ v < r 0) : WB (u1 r k v) := by
  obtain ⟨a1, a2, a3, a4, a5, a6, a7⟩ := h
  have e0 : u1 r k v 0 = r 0 := u1_n (by omega)
  unfold WB
  rw [e0, u1_n (show ¬ (5 : Int) = k by omega)]
  refine ⟨a1, fun i i0 i1 => by rw [u1_n (by omega)]; exact a2 i i0 i1, acy_ext a3 a2 (fun i i0 i1 => u1_n (show ¬ 60 + i = k by omega)), a4, fun i i0 i1 => ?_, fun i d i0 i1 d0 d1 => ?_, fun i i0 i1 => ?_⟩
  · by_cases e : 260 + i = k
    · rw [e, u1_s]; exact h2 (by omega)
    · rw [u1_n e]; exact a5 i i0 i1
  · by_cases e : 460 + 8 * i + d = k
    · rw [e, u1_s]; exact h2 (by omega)
    · rw [u1_n e]; exact a6 i d i0 i1 d0 d1
  · by_cases e : 100 + i = k
    · rw [e, u1_s]; exact h1 (by omega)
    · rw [u1_n e]; exact a7 i i0 i1
/-- a budget -/
theorem WBF_220 {r : Int → Int} (h : WBF r) (hv : 0 ≤ v ∧ v ≤ 9) : WBF (u1 r 220 v) := by
  have hb0 := h.1
  have hM := hb0.1
  obtain ⟨-, ⟨s1, s2⟩, hSR, ⟨x1, x2⟩, hL, hN, hH, hC, hB⟩ := h
  have e : ∀ k, ¬ k = 220 → u1 r 220 v k = r k := fun k hk => u1_n hk
  have e0 : u1 r 220 v 0 = r 0 := e 0 (by omega)
  have e1 : u1 r 220 v 1 = r 1 := e 1 (by omega)
  have est : ∀ i, 0 ≤ i → i < r 0 → u1 r 220 v (140 + i) = r (140 + i) := fun i i0 i1 => e _ (by omega)
  refine ⟨WB_eq hb0 (fun j hj => e j (by omega)), ⟨?_, by rw [e 140 (by omega)]; exact s2⟩, ?_, ⟨by rw [e1]; exact x1, ?_⟩, ?_, ?_, ?_, ?_, ?_⟩
  · intro i i0 i1
    rw [e0] at i1
    rw [est i i0 i1]
    exact s1 i i0 i1
  · intro i i0 i1 i2
    rw [e0] at i1
    rw [est i (by omega) i1] at i2
    rw [e (60 + i) (by omega)]
    have := hb0.2.1 i i0 i1
    rw [est _ this.1 this.2]
    exact hSR i i0 i1 i2
  · intro k k0 k1
    rw [e1] at k1
    rw [e _ (by omega), e0]
    exact x2 k k0 k1
  · intro i i0 i1 i2
    rw [e0] at i1
    rw [est i i0 i1] at i2
    obtain ⟨k, k0, k1, k2⟩ := hL i i0 i1 i2
    exact ⟨k, k0, by rw [e1]; exact k1, by rw [e _ (by omega)]; exact k2⟩
  · show u1 r 220 v 1 = _
    rw [e1, cn_eq_st e0 hM.2 (fun k k0 k1 => e k (by omega))]
    exact hN
  · intro j d0 d1
    have := hH j d0 d1
    rw [e (11 + j) (by omega), e0, est _ this.1 this.2.1]
    exact this
  · intro i i0 i1 i2
    rw [e0] at i1
    rw [est i i0 i1] at i2
    rw [e _ (by omega)]
    exact hC i i0 i1 i2
  · intro i i0 i1
    rw [e0] at i1
    by_cases z : 220 + i = 220
    · rw [z, u1_s]; exact hv
    · rw [e _ z]
      exact hB i i0 i1
theorem rs_root (h : RD g G) : RS g G (fM_readRoot G 624) := by
  rw [fM_readRoot]
  refine RS_once h (Int.le_refl _) (fun K hK eK pK => RS_takes hK (by omega) pK (fun L hL eL bL _ pL => RS_takes hL (by omega) pL (fun J hJ eJ bJ oJ pJ => ?_)))
  have j0 := hJ.1.1.1
  have j20 : J 624 20 = 632 := hJ.1.1.2.2.2.2.2.2.1
  rw [← oJ 0 (by omega)] at bL
  have r1 := RD_row (k := 100) (v := J 632 0) hJ (WBF_pl hJ.1.2.1 (WB_pl hJ.1.2.1.1 (by omega) (fun _ => bL) (fun z => by omega)) (by omega)) (by omega) (by omega)
  have q0 := r1.1.1.1
  have q20 : pU J 625 100 (J 632 0) 624 20 = 632 := r1.1.1.2.2.2.2.2.2.1
  have q32 : pU J 625 100 (J 632 0) 632 = J 632 := pU_n (by omega)
  have p2 : G 624 15 ≤ pU J 625 100 (J 632 0) 624 15 := by rw [pU_n (by omega)]; exact pJ
  simp (disch := omega) only [j0, j20, kd_625, sz_625, kd_632, sz_632, true_and, le_t, lt_t, and_true, ↓reduceIte, bnd_s]
  generalize pU J 625 100 (J 632 0) = Q at *
  simp (disch := omega) only [q0, q20, kd_625, sz_625, kd_632, sz_632, true_and, le_t, lt_t, and_true, ↓reduceIte, bnd_s]
  exact RD_pos (RD_row r1 (WBF_220 r1.1.2.1 (by rw [q32]; exact bJ)) (by omega) (by omega)) p2 rfl
end MODEL29
