/-! ===== calls that change the tree, in both, more (own work) ===== -/
section PAR30
variable {g g' G G' H H' K : gH} {r r' d d' dm : Int → Int} {a b c e i j k l m n o p q s t u v w x y z S T gp code : Int}
theorem WBF_b1 (w : WBF r) (hp : 0 ≤ p ∧ p < r 0) (h1 : 0 ≤ c ∧ c ≤ 9) : WBF (u1 r (220 + p) c) := by
  have hM1 := w.1.1
  obtain ⟨hb0, hS, hSR, hX, hL, hN, hH, hC, hB⟩ := w
  have e0 : u1 r (220 + p) c 0 = r 0 := u1_n (by omega)
  have hb1 : WB (u1 r (220 + p) c) := WB_eq hb0 (fun k hk => u1_n (by omega))
  refine ⟨hb1, ⟨?_, ?_⟩, ?_, ⟨?_, ?_⟩, ?_, ?_, ?_, ?_, ?_⟩
  · intro i i0 i1
    rw [e0] at i1
    rw [u1_n (by omega)]; exact hS.1 i i0 i1
  · rw [u1_n (by omega)]; exact hS.2
  · intro i i0 i1 i2
    rw [e0] at i1
    have := hb0.2.1 i i0 i1
    rw [u1_n (by omega)] at i2
    rw [u1_n (show ¬ 60 + i = 220 + p by omega), u1_n (by omega)]
    exact hSR i i0 i1 i2
  · rw [u1_n (by omega)]; exact hX.1
  · intro k k0 k1
    rw [u1_n (by omega)] at k1
    have := hX.1
    rw [u1_n (by omega), e0]
    exact hX.2 k k0 k1
  · intro i i0 i1 i2
    rw [e0] at i1
    rw [u1_n (by omega)] at i2
    obtain ⟨k, k0, k1, k2⟩ := hL i i0 i1 i2
    have := hX.1
    exact ⟨k, k0, by rw [u1_n (by omega)]; exact k1, by rw [u1_n (by omega)]; exact k2⟩
  · show u1 r (220 + p) c 1 = _
    rw [u1_n (by omega), cn_eq_st e0 hM1.2 (fun k k0 k1 => u1_n (by omega))]
    exact hN
  · intro d d0 d1
    have := hH d d0 d1
    rw [u1_n (show ¬ 11 + d = 220 + p by omega), e0, u1_n (by omega)]
    exact this
  · intro i i0 i1 i2
    rw [e0] at i1
    rw [u1_n (by omega)] at i2
    rw [u1_n (by omega)]
    exact hC i i0 i1 i2
  · intro i i0 i1
    rw [e0] at i1
    by_cases e : i = p
    · rw [e, u1_s]; exact h1
    · rw [u1_n (by omega)]; exact hB i i0 i1
end PAR30
