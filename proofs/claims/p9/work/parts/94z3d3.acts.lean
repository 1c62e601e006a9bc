/-! ===== calls that change the tree, in both, more (own work) ===== -/
section PAR30
variable {g g' G G' H H' K : gH} {r r' d d' dm : Int → Int} {a b c e i j k l m n o p q s t u v w x y z S T gp code : Int}
theorem WBF_d1 (w : WBF r) (hp : 0 ≤ p ∧ p < r 0) (hst : r (140 + p) = 0) (ha : 0 ≤ a ∧ a < 8) : WBF (u1 r (11 + a) p) := by
  have hM1 := w.1.1
  have e0 : u1 r (11 + a) p 0 = r 0 := u1_n (by omega)
  obtain ⟨hb0, hS, hSR, hX, hL, hN, hH, hC, hB⟩ := w
  refine ⟨WB_eq hb0 (fun k hk => u1_n (by omega)), ⟨?_, ?_⟩, ?_, ⟨?_, ?_⟩, ?_, ?_, ?_, ?_, ?_⟩
  · intro i i0 i1
    rw [e0] at i1
    rw [u1_n (by omega)]; exact hS.1 i i0 i1
  · rw [u1_n (by omega)]; exact hS.2
  · intro i i0 i1 i2
    rw [e0] at i1
    have := hb0.2.1 i i0 i1
    rw [u1_n (by omega)] at i2
    rw [u1_n (show ¬ 60 + i = 11 + a by omega), u1_n (by omega)]
    exact hSR i i0 i1 i2
  · rw [u1_n (by omega)]; exact hX.1
  · intro k k0 k1
    rw [u1_n (by omega)] at k1
    rw [u1_n (by omega), e0]
    exact hX.2 k k0 k1
  · intro i i0 i1 i2
    rw [e0] at i1
    rw [u1_n (by omega)] at i2
    obtain ⟨k, k0, k1, k2⟩ := hL i i0 i1 i2
    exact ⟨k, k0, by rw [u1_n (by omega)]; exact k1, by rw [u1_n (by omega)]; exact k2⟩
  · show u1 r (11 + a) p 1 = _
    rw [u1_n (by omega), cn_eq_st e0 hM1.2 (fun k k0 k1 => u1_n (by omega))]
    exact hN
  · intro d d0 d1
    by_cases e : d = a
    · rw [e, u1_s, e0, u1_n (by omega)]
      exact ⟨hp.1, hp.2, hst⟩
    · have := hH d d0 d1
      rw [u1_n (show ¬ 11 + d = 11 + a by omega), e0, u1_n (by omega)]
      exact this
  · intro i i0 i1 i2
    rw [e0] at i1
    rw [u1_n (by omega)] at i2
    rw [u1_n (by omega)]
    exact hC i i0 i1 i2
  · intro i i0 i1
    rw [e0] at i1
    rw [u1_n (by omega)]; exact hB i i0 i1
end PAR30
