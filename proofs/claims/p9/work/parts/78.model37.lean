/-! ===== the reference's loadTree (own work) ===== -/
section MODEL37
variable {g G H K : gH} {p code t c a b k q gp d x y z w v n l i : Int}
theorem kd_626 : kd 626 = 20 := by decide +kernel
theorem sz_626 : sz 626 = 780 := by decide +kernel
/-- the input taken, its error kept -/
theorem MInv_taken (h : MInv g) : MInv (pU (pU (pU g 624 10 0) 624 11 a) 624 12 b) := by
  obtain ⟨h1, h2, h3, ⟨h4, h5⟩, h6, h7, h8⟩ := h
  unfold MInv MS
  simp (disch := omega) only [pU_n, pU_s, u1_n, u1_s]
  exact ⟨h1, h2, h3, ⟨h4, h5⟩, h6, by omega, h8⟩
theorem MInv_67 (h : MInv g) : MInv (pU (pU g 624 6 0) 624 7 0) := by
  obtain ⟨h1, h2, h3, ⟨h4, h5⟩, h6, h7, h8⟩ := h
  unfold MInv MS
  simp (disch := omega) only [pU_n, pU_s, u1_n, u1_s]
  exact ⟨h1, h2, h3, ⟨by omega, fun j j0 j1 => absurd j0 (by omega)⟩, fun z => absurd trivial z, h7, h8⟩
theorem oM_loadTree (hi : MInv g) : ∃ v g', fM_loadTree g 624 = some (v, g') ∧ MInv g' ∧ MF g g' ∧ g' 624 10 = 0 := by
  have e : pU g 624 8 0 = th g 0 := rfl
  rw [fM_loadTree, bnd_s, e]
  have o1 := OK_th (t := 0) (OK_r hi)
  have i1 := o1.1
  have f1 := o1.2.1
  generalize th g 0 = G at *
  have s1 := i1.1
  have h0 := s1.1
  have h1 : G 624 1 = 626 := s1.2.2.2.2.2.2.2.2.2
  have hc := vM_copies (g := G) (a := 625) (x := 0) (b := 626) (y := 0) (n := 780) ⟨kd_625, kd_626⟩ (by rw [sz_625]; omega) (by rw [sz_626]; omega) (by omega) (Or.inl (by omega))
  rw [h0, h1, hc, bdN_s]
  have i2 : MInv (cpG G 625 0 626 0 780) := by
    have z := i1
    unfold MInv MS at z ⊢
    simp (disch := omega) only [cpG_n]
    exact z
  have k26 : ∀ k, 0 ≤ k → k < 780 → cpG G 625 0 626 0 780 626 k = G 625 k := fun k k0 k1 => by
    unfold cpG
    rw [if_pos ⟨rfl, by omega, by omega⟩, show (0 + k - 0 : Int) = k by omega]
  have f2 : MF g (cpG G 625 0 626 0 780) := MF_cp f1 (by omega)
  have w1 := i1.2.1
  generalize cpG G 625 0 626 0 780 = K at *
  obtain ⟨r, c1, c2⟩ := clr_1 i2.1 780 fu 0 K i2.1.1 rfl (by have := fu_ge; omega) (by omega)
  obtain ⟨r', c3, c4, c5, c6⟩ := clr_3 r (fun k k0 k1 => by rw [c2 k k0 k1, if_pos k0]) i2.1
  have c7 : fM_clear K 624 = some (0, sw K r') := by rw [fM_clear, c1, c3]
  rw [c7, bdN_s, bnd_s, bnd_s, bnd_s, bnd_s]
  have i3 : MInv (sw K r') := MInv_sw i2 c4
  have p4 : PF (sw K r') (pU (pU (pU (pU (sw K r') 624 13 0) 624 14 (-1)) 624 15 0) 624 19 0) := PF_u (PF_u (PF_u (PF_u PF_r (by omega)) (by omega)) (by omega)) (by omega)
  have e15 : pU (pU (pU (pU (sw K r') 624 13 0) 624 14 (-1)) 624 15 0) 624 19 0 624 15 = 0 := by
    simp (disch := omega) only [pU_s, u1_n, u1_s]
  have k3 : sw K r' 626 = K 626 := sw_n (by omega)
  have r3 : sw K r' 625 = r' := sw_s
  have f3 : MF g (sw K r') := MF_sw f2
  generalize sw K r' = J at *
  generalize pU (pU (pU (pU J 624 13 0) 624 14 (-1)) 624 15 0) 624 19 0 = L at *
  have i4 := MInv_PF i3 p4
  obtain ⟨H, a1, a2⟩ := vM_advance i4 (by unfold Ps; rw [e15]; exact ⟨Int.le_refl _, i4.2.2.2.2.2.1.1⟩)
  rw [a1, bdN_s]
  have p5 := PF_t p4 a2.1
  have hR : RD J H := ⟨MInv_PF i4 a2.1, fun x hx => p5.1 x (by omega), ⟨p5.1 626 (by omega), fun x x0 x1 => p5.1 x (by omega), fun k k0 k1 => p5.2 k (by omega)⟩, p5.2 10 (by omega), a2.2.1, by
    rw [p5.1 625 (by omega), r3, c5]
    intro i i0 i1
    rw [show i = 0 by omega]
    exact c6⟩
  obtain ⟨y, M, b1, b2⟩ := rs_text hR
  rw [b1, bdN_s, bnd_s, bnd_s, bnd_s]
  have i6 : MInv M := b2.1
  have f6 : MF g M := MF_t f3 b2.2.1
  have k6 : ∀ k, 0 ≤ k → k < 780 → M 626 k = G 625 k := fun k k0 k1 => by rw [b2.2.2.1.1, k3, k26 k k0 k1]
  have i7 : MInv (pU (pU (pU M 624 10 0) 624 11 (pU M 624 10 0 624 13)) 624 12 (pU (pU M 624 10 0) 624 11 (pU M 624 10 0 624 13) 624 14)) := MInv_taken i6
  have f7 : MF g (pU (pU (pU M 624 10 0) 624 11 (pU M 624 10 0 624 13)) 624 12 (pU (pU M 624 10 0) 624 11 (pU M 624 10 0 624 13) 624 14)) := MF_pU (MF_pU (MF_pU f6 (by omega)) (by omega)) (by omega)
  have t7 : (pU (pU (pU M 624 10 0) 624 11 (pU M 624 10 0 624 13)) 624 12 (pU (pU M 624 10 0) 624 11 (pU M 624 10 0 624 13) 624 14)) 624 10 = 0 := by
    rw [pU_s, u1_n (by omega), pU_s, u1_n (by omega), pU_s, u1_s]
  have k7 : ∀ k, 0 ≤ k → k < 780 → (pU (pU (pU M 624 10 0) 624 11 (pU M 624 10 0 624 13)) 624 12 (pU (pU M 624 10 0) 624 11 (pU M 624 10 0 624 13) 624 14)) 626 k = G 625 k := fun k k0 k1 => by
    rw [pU_n (by omega), pU_n (by omega), pU_n (by omega)]; exact k6 k k0 k1
  generalize pU (pU (pU M 624 10 0) 624 11 (pU M 624 10 0 624 13)) 624 12 (pU (pU M 624 10 0) 624 11 (pU M 624 10 0 624 13) 624 14) = N at *
  have n0 := i7.1.1
  have n1 : N 624 1 = 626 := i7.1.2.2.2.2.2.2.2.2.2
  by_cases hy : y = 0
  · have hc := vM_copies (g := N) (a := 626) (x := 0) (b := 625) (y := 0) (n := 780) ⟨kd_626, kd_625⟩ (by rw [sz_626]; omega) (by rw [sz_625]; omega) (by omega) (Or.inl (by omega))
    rw [if_pos hy, n0, n1, hc, bdN_s]
    refine ⟨_, _, rfl, ?_, MF_cp f7 (by omega), by rw [cpG_n (by omega)]; exact t7⟩
    have hrow : WBF (cpG N 626 0 625 0 780 625) := WBF_ext w1 (fun k k0 k1 => by
      unfold cpG
      rw [if_pos ⟨rfl, by omega, by omega⟩, show (0 + k - 0 : Int) = k by omega]
      exact k7 k k0 k1)
    obtain ⟨h1, h2, h3, ⟨h4, h5⟩, h6, h7, h8⟩ := i7
    unfold MInv MS
    simp (disch := omega) only [cpG_n]
    exact ⟨h1, hrow, h3, ⟨h4, h5⟩, h6, h7, h8⟩
  · rw [if_neg hy, bnd_s, bnd_s]
    have i8 := MInv_67 i7
    rw [i8.1.1, if_pos (by rw [kd_625, sz_625]; omega)]
    exact ⟨_, _, rfl, i8, MF_pU (MF_pU f7 (by omega)) (by omega), by rw [pU_s, u1_n (by omega), pU_s, u1_n (by omega)]; exact t7⟩
end MODEL37
