/-! ===== calls that change the tree, in both, more (own work) ===== -/
section PAR30
variable {g g' G G' H H' K : gH} {r r' d d' dm : Int → Int} {a b c e i j k l m n o p q s t u v w x y z S T gp code : Int}
/-! which rows are rows still -/
theorem WBF_c1 (w : WBF r) (hp : 0 ≤ p ∧ p < r 0) (h1 : 0 ≤ c ∧ c ≤ 9) : WBF (u1 r (100 + p) c) := by
  have hM := w.1.1
  refine WBF_eq w ?_ (fun k hk => u1_n (by omega))
  obtain ⟨b1, b2, b3, b4, b5, b6, b7⟩ := w.1
  have e0 : u1 r (100 + p) c 0 = r 0 := u1_n (by omega)
  refine ⟨by rw [e0]; exact b1, ?_, ?_, by rw [u1_n (by omega)]; exact b4, ?_, ?_, ?_⟩
  · intro i i0 i1
    rw [e0] at i1 ⊢
    rw [u1_n (by omega)]
    exact b2 i i0 i1
  · rw [e0]
    exact acy_ext b3 b2 (fun i i0 i1 => u1_n (by omega))
  · intro i i0 i1
    rw [e0] at i1 ⊢
    rw [u1_n (by omega)]
    exact b5 i i0 i1
  · intro i d i0 i1 d0 d1
    rw [e0] at i1 ⊢
    rw [u1_n (by omega)]
    exact b6 i d i0 i1 d0 d1
  · intro i i0 i1
    rw [e0] at i1
    by_cases e : i = p
    · rw [e, u1_s]; exact h1
    · rw [u1_n (by omega)]; exact b7 i i0 i1
end PAR30
