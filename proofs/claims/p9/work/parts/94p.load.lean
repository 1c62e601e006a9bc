/-! ===== loadTree of both (own work) ===== -/
section PAR16
variable {C C' : gH → (Int → Int) → Prop} {g g' g1 G H K M A : gH} {r r' : Int → Int} {a b c d e i j k l m n p q s t u v w x y z S T : Int}
theorem sw_inj (h : sw K r = sw K r') : r = r' := by
  have := congrFun h 625
  rw [sw_s, sw_s] at this
  exact this
/-- the reference's loadTree, up to its text and from there on -/
theorem ld_model (hi : MInv g1) (hb0 : ∀ k, 0 ≤ k → k < g1 624 10 → 0 ≤ g1 631 k) : ∃ J H, RD J H ∧ TA 0 H ∧ RW (H 625) ∧ (H 624 10 = g1 624 10 ∧ H 631 = g1 631) ∧ (H 624 13 = 0 ∧ H 624 14 = -1 ∧ H 624 19 = 0) ∧ ∀ y M, fM_readText H 624 = some (y, M) → RD J M → ∃ v N, fM_loadTree g1 624 = some (v, N) ∧ (v = if y = 0 then -1 else M 625 0) ∧ (N 624 10 = 0 ∧ N 624 11 = M 624 13 ∧ N 624 12 = M 624 14) ∧ (N 624 8 = 0 ∧ N 628 = g1 628 ∧ N 629 = g1 629) ∧ (¬ y = 0 → N 625 = M 625 ∧ N 624 6 = 0 ∧ N 624 7 = 0) ∧ (y = 0 → (∀ k, 0 ≤ k → k < 780 → N 625 k = g1 625 k) ∧ N 624 6 = g1 624 6 ∧ N 624 7 = g1 624 7) := by
  have e : pU g1 624 8 0 = th g1 0 := rfl
  rw [fM_loadTree, bnd_s, e]
  have o1 := OK_th (t := 0) (OK_r hi)
  have i1 := o1.1
  have x10 : th g1 0 624 10 = g1 624 10 := by rw [← e, pU_y (by omega)]
  have x31 : th g1 0 631 = g1 631 := by rw [← e, pU_n (by omega)]
  have xg : ∀ x, ¬ x = 624 → th g1 0 x = g1 x := fun x hx => th_n hx
  have xk : ∀ k, ¬ k = 8 → th g1 0 624 k = g1 624 k := fun k hk => th_f hk
  have x8 : th g1 0 624 8 = 0 := by rw [← e, pU_s, u1_s]
  generalize th g1 0 = G at *
  have s1 := i1.1
  have h0 := s1.1
  have h1 : G 624 1 = 626 := s1.2.2.2.2.2.2.2.2.2
  have hc := vM_copies (g := G) (a := 625) (x := 0) (b := 626) (y := 0) (n := 780) ⟨kd_625, kd_626⟩ (by rw [sz_625]; omega) (by rw [sz_626]; omega) (by omega) (Or.inl (by omega))
  rw [h0, h1, hc, bdN_s]
  have i2 : MInv (cpG G 625 0 626 0 780) := by
    have z := i1
    unfold MInv MS at z ⊢
    simp (disch := omega) only [cpG_n]
    exact z
  have y10 : cpG G 625 0 626 0 780 624 10 = g1 624 10 := by rw [cpG_n (by omega)]; exact x10
  have y31 : cpG G 625 0 626 0 780 631 = g1 631 := by rw [cpG_n (by omega)]; exact x31
  have yg : ∀ x, ¬ x = 626 → cpG G 625 0 626 0 780 x = G x := fun x hx => cpG_n hx
  have y26 : ∀ k, 0 ≤ k → k < 780 → cpG G 625 0 626 0 780 626 k = G 625 k := fun k k0 k1 => by
    unfold cpG
    rw [if_pos ⟨rfl, by omega, by omega⟩, show (0 + k - 0 : Int) = k by omega]
  generalize cpG G 625 0 626 0 780 = K at *
  obtain ⟨r, c1, c2⟩ := clr_1 i2.1 780 fu 0 K i2.1.1 rfl (by have := fu_ge; omega) (by omega)
  have cz : ∀ k, 0 ≤ k → k < 780 → r k = 0 := fun k k0 k1 => by rw [c2 k k0 k1, if_pos k0]
  obtain ⟨r', c3, c4, c5, c6⟩ := clr_3 r cz i2.1
  obtain ⟨r2, d3, hRW⟩ := clr_4 r cz i2.1
  have er : r2 = r' := sw_inj (Prod.mk.inj (Option.some.inj (d3.symm.trans c3))).2
  subst er
  have c7 : fM_clear K 624 = some (0, sw K r2) := by rw [fM_clear, c1, c3]
  rw [c7, bdN_s, bnd_s, bnd_s, bnd_s, bnd_s]
  have i3 : MInv (sw K r2) := MInv_sw i2 c4
  have p4 : PF (sw K r2) (pU (pU (pU (pU (sw K r2) 624 13 0) 624 14 (-1)) 624 15 0) 624 19 0) := PF_u (PF_u (PF_u (PF_u PF_r (by omega)) (by omega)) (by omega)) (by omega)
  have e15 : pU (pU (pU (pU (sw K r2) 624 13 0) 624 14 (-1)) 624 15 0) 624 19 0 624 15 = 0 := by
    simp (disch := omega) only [pU_s, u1_n, u1_s]
  have e13 : pU (pU (pU (pU (sw K r2) 624 13 0) 624 14 (-1)) 624 15 0) 624 19 0 624 13 = 0 := by
    simp (disch := omega) only [pU_s, u1_n, u1_s]
  have e14 : pU (pU (pU (pU (sw K r2) 624 13 0) 624 14 (-1)) 624 15 0) 624 19 0 624 14 = -1 := by
    simp (disch := omega) only [pU_s, u1_n, u1_s]
  have e19 : pU (pU (pU (pU (sw K r2) 624 13 0) 624 14 (-1)) 624 15 0) 624 19 0 624 19 = 0 := by
    simp (disch := omega) only [pU_s, u1_n, u1_s]
  have z10 : sw K r2 624 10 = g1 624 10 := by rw [sw_n (by omega)]; exact y10
  have z31 : sw K r2 631 = g1 631 := by rw [sw_n (by omega)]; exact y31
  have r3 : sw K r2 625 = r2 := sw_s
  have zg : ∀ x, ¬ x = 625 → sw K r2 x = K x := fun x hx => sw_n hx
  generalize sw K r2 = J at *
  generalize pU (pU (pU (pU J 624 13 0) 624 14 (-1)) 624 15 0) 624 19 0 = L at *
  have i4 := MInv_PF i3 p4
  have l10 : L 624 10 = g1 624 10 := by rw [p4.2 10 (by omega)]; exact z10
  have l31 : L 631 = g1 631 := by rw [p4.1 631 (by omega)]; exact z31
  have hPs : Ps L := by unfold Ps; rw [e15]; exact ⟨Int.le_refl _, i4.2.2.2.2.2.1.1⟩
  obtain ⟨H, a1, a2⟩ := vM_advance i4 hPs
  obtain ⟨H', a3, a4⟩ := aM_advance i4 hPs (by rw [l10, l31]; exact hb0)
  have eH : H' = H := (Prod.mk.inj (Option.some.inj (a3.symm.trans a1))).2
  subst eH
  rw [a1, bdN_s]
  have p5 := PF_t p4 a2.1
  have fm := a4.1
  have hta := a4.2
  rw [e15] at hta
  have hR : RD J H' := ⟨MInv_PF i4 a2.1, fun x hx => p5.1 x (by omega), ⟨p5.1 626 (by omega), fun x x0 x1 => p5.1 x (by omega), fun k k0 k1 => p5.2 k (by omega)⟩, p5.2 10 (by omega), a2.2.1, by
    rw [p5.1 625 (by omega), r3, c5]
    intro i i0 i1
    rw [show i = 0 by omega]
    exact c6⟩
  refine ⟨J, H', hR, hta, by rw [p5.1 625 (by omega), r3]; exact hRW, ⟨by rw [fm.2 10 (by omega)]; exact l10, by rw [fm.1 631 (by omega)]; exact l31⟩, ⟨by rw [fm.2 13 (by omega)]; exact e13, by rw [fm.2 14 (by omega)]; exact e14, by rw [fm.2 19 (by omega)]; exact e19⟩, fun y M b1 b2 => ?_⟩
  rw [b1, bdN_s, bnd_s, bnd_s, bnd_s]
  have i6 : MInv M := b2.1
  have i7 : MInv (pU (pU (pU M 624 10 0) 624 11 (pU M 624 10 0 624 13)) 624 12 (pU (pU M 624 10 0) 624 11 (pU M 624 10 0 624 13) 624 14)) := MInv_taken i6
  have t7 : (pU (pU (pU M 624 10 0) 624 11 (pU M 624 10 0 624 13)) 624 12 (pU (pU M 624 10 0) 624 11 (pU M 624 10 0 624 13) 624 14)) 624 10 = 0 := by
    rw [pU_s, u1_n (by omega), pU_s, u1_n (by omega), pU_s, u1_s]
  have t8 : (pU (pU (pU M 624 10 0) 624 11 (pU M 624 10 0 624 13)) 624 12 (pU (pU M 624 10 0) 624 11 (pU M 624 10 0 624 13) 624 14)) 624 11 = M 624 13 := by
    rw [pU_y (by omega), pU_s, u1_s, pU_y (by omega)]
  have t9 : (pU (pU (pU M 624 10 0) 624 11 (pU M 624 10 0 624 13)) 624 12 (pU (pU M 624 10 0) 624 11 (pU M 624 10 0 624 13) 624 14)) 624 12 = M 624 14 := by
    rw [pU_s, u1_s, pU_y (by omega), pU_y (by omega)]
  have tr : (pU (pU (pU M 624 10 0) 624 11 (pU M 624 10 0 624 13)) 624 12 (pU (pU M 624 10 0) 624 11 (pU M 624 10 0 624 13) 624 14)) 625 = M 625 := by
    rw [pU_n (by omega), pU_n (by omega), pU_n (by omega)]
  have tx : ∀ x, ¬ x = 624 → (pU (pU (pU M 624 10 0) 624 11 (pU M 624 10 0 624 13)) 624 12 (pU (pU M 624 10 0) 624 11 (pU M 624 10 0 624 13) 624 14)) x = M x := fun x hx => by rw [pU_n hx, pU_n hx, pU_n hx]
  have tk : ∀ k, 6 ≤ k → k ≤ 8 → (pU (pU (pU M 624 10 0) 624 11 (pU M 624 10 0 624 13)) 624 12 (pU (pU M 624 10 0) 624 11 (pU M 624 10 0 624 13) 624 14)) 624 k = M 624 k := fun k k0 k1 => by rw [pU_y (by omega), pU_y (by omega), pU_y (by omega)]
  generalize pU (pU (pU M 624 10 0) 624 11 (pU M 624 10 0 624 13)) 624 12 (pU (pU M 624 10 0) 624 11 (pU M 624 10 0 624 13) 624 14) = N at *
  obtain ⟨fx1, fx2, fx3⟩ := b2.2.2.1
  have w8 : M 624 8 = 0 := by rw [fx3 8 (by omega) (by omega), zg 624 (by omega), yg 624 (by omega)]; exact x8
  have w6 : M 624 6 = g1 624 6 := by rw [fx3 6 (by omega) (by omega), zg 624 (by omega), yg 624 (by omega)]; exact xk 6 (by omega)
  have w7 : M 624 7 = g1 624 7 := by rw [fx3 7 (by omega) (by omega), zg 624 (by omega), yg 624 (by omega)]; exact xk 7 (by omega)
  have w28 : M 628 = g1 628 := by rw [fx2 628 (by omega) (by omega), zg 628 (by omega), yg 628 (by omega)]; exact xg 628 (by omega)
  have w29 : M 629 = g1 629 := by rw [fx2 629 (by omega) (by omega), zg 629 (by omega), yg 629 (by omega)]; exact xg 629 (by omega)
  have w26 : ∀ k, 0 ≤ k → k < 780 → M 626 k = g1 625 k := fun k k0 k1 => by rw [fx1, zg 626 (by omega), y26 k k0 k1, xg 625 (by omega)]
  have n0 := i7.1.1
  have n1 : N 624 1 = 626 := i7.1.2.2.2.2.2.2.2.2.2
  by_cases hy : y = 0
  · have hc := vM_copies (g := N) (a := 626) (x := 0) (b := 625) (y := 0) (n := 780) ⟨kd_626, kd_625⟩ (by rw [sz_626]; omega) (by rw [sz_625]; omega) (by omega) (Or.inl (by omega))
    rw [if_pos hy, if_pos hy, n0, n1, hc, bdN_s]
    refine ⟨_, _, rfl, rfl, ⟨?_, ?_, ?_⟩, ⟨?_, ?_, ?_⟩, fun z => absurd hy z, fun _ => ⟨fun k k0 k1 => ?_, ?_, ?_⟩⟩
    · rw [cpG_n (by omega)]; exact t7
    · rw [cpG_n (by omega)]; exact t8
    · rw [cpG_n (by omega)]; exact t9
    · rw [cpG_n (by omega), tk 8 (by omega) (by omega)]; exact w8
    · rw [cpG_n (by omega), tx 628 (by omega)]; exact w28
    · rw [cpG_n (by omega), tx 629 (by omega)]; exact w29
    · unfold cpG
      rw [if_pos ⟨rfl, by omega, by omega⟩, show (0 + k - 0 : Int) = k by omega, tx 626 (by omega)]
      exact w26 k k0 k1
    · rw [cpG_n (by omega), tk 6 (by omega) (by omega)]; exact w6
    · rw [cpG_n (by omega), tk 7 (by omega) (by omega)]; exact w7
  · rw [if_neg hy, if_neg hy, bnd_s, bnd_s]
    have i8 := MInv_67 i7
    rw [i8.1.1, if_pos (by rw [kd_625, sz_625]; omega)]
    refine ⟨_, _, rfl, ?_, ⟨?_, ?_, ?_⟩, ⟨?_, ?_, ?_⟩, fun _ => ⟨?_, ?_, ?_⟩, fun z => absurd z hy⟩
    · rw [pU_n (by omega), pU_n (by omega), tr]
    · rw [pU_y (by omega), pU_y (by omega)]; exact t7
    · rw [pU_y (by omega), pU_y (by omega)]; exact t8
    · rw [pU_y (by omega), pU_y (by omega)]; exact t9
    · rw [pU_y (by omega), pU_y (by omega), tk 8 (by omega) (by omega)]; exact w8
    · rw [pU_n (by omega), pU_n (by omega), tx 628 (by omega)]; exact w28
    · rw [pU_n (by omega), pU_n (by omega), tx 629 (by omega)]; exact w29
    · rw [pU_n (by omega), pU_n (by omega)]; exact tr
    · rw [pU_y (by omega), pU_s, u1_s]
    · rw [pU_s, u1_s]
/-- the end of the class's -/
theorem ld_end (h : CR g G) : ∃ v K, jC_loadTree_36 G 0 = some (v, K) ∧ CL g K 0 ∧ (v = if G 575 2 = 0 then G 578 5 else -1) ∧ K 575 = G 575 ∧ (G 575 2 = 0 → TC 578 1 G K) ∧ (G 575 2 = 0 → K 133 1 = 0 ∧ K 0 6 = 0 ∧ K 133 2 = G 133 2) ∧ (¬ G 575 2 = 0 → ∀ x, ¬ x = 576 → K x = G x) := by
  obtain ⟨v, K, e, hL⟩ := lx_36 h
  refine ⟨v, K, e, hL, ?_⟩
  rw [jC_loadTree_36, cr4 h, if_pos kd_575, r576 h, if_pos kd_576, bnd_s] at e
  have c1 := CI_len h.1 (l := 0) (by omega)
  have ax : ∀ x, ¬ x = 576 → pU G 576 1 0 x = G x := fun x hx => pU_n hx
  generalize pU G 576 1 0 = A at *
  have w1 := CR_r c1
  rw [cr4 w1, if_pos kd_575, ax 575 (by omega)] at e
  by_cases c : G 575 2 = 0
  · rw [if_pos c, if_pos (kdr1 w1), cr0 w1, ← ax 575 (by omega), r578 w1] at e
    obtain ⟨y, B, eB, hB⟩ := tT_take (CR_T w1 T1).1 T1 T578 (CR_T w1 T578) (by omega)
    obtain ⟨y', B', eB', ey, tc⟩ := vT_take (CR_T w1 T1).1 T1 T578 (CR_T w1 T578) (by omega)
    have eb := (Prod.mk.inj (Option.some.inj (eB'.symm.trans eB))).2
    subst eb
    have w2 := CR_IT w1 T1 hB
    rw [eB, bdN_s, cr3 w2, if_pos kd_133, bnd_s, bnd_s] at e
    have w3 := CR_w (a := 0) (b := 6) (v := 0) (CR_w (a := 133) (b := 1) (v := 0) w2 (by omega)) (by omega)
    have bx : ∀ x, ¬ x = 133 → ¬ x = 0 → pU (pU B' 133 1 0) 0 6 0 x = B' x := fun x x1 x2 => by rw [pU_n x2, pU_n x1]
    have b1_ : pU (pU B' 133 1 0) 0 6 0 133 1 = 0 := by rw [pU_n (by omega), pU_s, u1_s]
    have b2_ : pU (pU B' 133 1 0) 0 6 0 133 2 = B' 133 2 := by rw [pU_n (by omega), pU_y (by omega)]
    have b0_ : pU (pU B' 133 1 0) 0 6 0 0 6 = 0 := by rw [pU_s, u1_s]
    generalize pU (pU B' 133 1 0) 0 6 0 = D at *
    rw [cr5 w3, if_pos kd_622, bnd_s] at e
    have w4 := CR_w (a := 622) (b := 1) (v := 0) w3 (by omega)
    have dx : ∀ x, ¬ x = 133 → ¬ x = 0 → ¬ x = 622 → pU D 622 1 0 x = B' x := fun x x1 x2 x3 => by rw [pU_n x3]; exact bx x x1 x2
    have e1_ : pU D 622 1 0 133 1 = 0 := by rw [pU_n (by omega)]; exact b1_
    have e2_ : pU D 622 1 0 133 2 = G 133 2 := by rw [pU_n (by omega), b2_, hB.2 133 (by omega), ax 133 (by omega)]
    have e0_ : pU D 622 1 0 0 6 = 0 := by rw [pU_n (by omega)]; exact b0_
    generalize pU D 622 1 0 = E at *
    rw [if_pos (kdr1 w4), cr0 w4] at e
    have ee := Prod.mk.inj (Option.some.inj e)
    rw [← ee.2, ← ee.1]
    obtain ⟨t1, t2, t3, t4⟩ := tc
    refine ⟨?_, ?_, fun _ => ⟨fun y y0 y1 => ?_, fun d d0 d1 => ?_, fun i i0 i1 => ?_, fun k k0 k1 => ?_⟩, fun _ => ⟨e1_, e0_, e2_⟩, fun z => absurd c z⟩
    · rw [if_pos c, dx 1 (by omega) (by omega) (by omega), t1 5 (by omega) (by omega), ax 578 (by omega)]
    · rw [dx 575 (by omega) (by omega) (by omega), hB.2 575 (by omega), ax 575 (by omega)]
    · rw [dx 1 (by omega) (by omega) (by omega), t1 y y0 y1, ax 578 (by omega)]
    · rw [dx (1 + 3) (by omega) (by omega) (by omega), t2 d d0 d1, ax (578 + 3) (by omega)]
    · rw [dx (1 + 4) (by omega) (by omega) (by omega), t3 i i0 i1, ax (578 + 4) (by omega)]
    · have b1 := pc_b (T := 1) (i := k) ⟨k0, k1⟩
      have b2 := pc_b (T := 578) (i := k) ⟨k0, k1⟩
      have t4 := t4 k k0 k1
      unfold sp at t4 ⊢
      rw [ax (pc 578 k) (by omega)] at t4
      rw [dx (pc 1 k) (by omega) (by omega) (by omega)]
      exact t4
  · rw [if_neg c] at e
    have ee := Prod.mk.inj (Option.some.inj e)
    rw [← ee.2, ← ee.1, if_neg c]
    exact ⟨rfl, ax 575 (by omega), fun z => absurd z c, fun z => absurd z c, fun _ x hx => ax x hx⟩
/-- both load alike -/
theorem ld_both (h : CInv g) (hM : MInv g1) (hb : BB g g1) : ∃ v G H, fC_loadTree g 0 = some (v, G) ∧ fM_loadTree g1 624 = some (v, H) ∧ (G 575 2 = H 624 11 ∧ G 575 3 = H 624 12) ∧ (G 576 1 = 0 ∧ H 624 10 = 0) ∧ (H 624 8 = 0 ∧ H 628 = g1 628 ∧ H 629 = g1 629) ∧ CL g G 0 ∧ ((H 624 6 = 0 ∧ H 624 7 = 0 ∧ G 133 1 = 0 ∧ G 0 6 = 0 ∧ G 133 2 = g 133 2 ∧ CP 1 G (H 625) ∧ (∀ i, 0 ≤ i → i < 40 → G (pc 1 i) 13 = 0) ∧ H 625 3 = 0 ∧ H 625 60 = -1 ∧ H 625 380 = 0) ∨ ((∀ x, x < 575 → G x = g x) ∧ (∀ k, 0 ≤ k → k < 780 → H 625 k = g1 625 k) ∧ H 624 6 = g1 624 6 ∧ H 624 7 = g1 624 7)) := by
  have hf := fu_ge
  have h0 := CR_r h
  rw [fC_loadTree, cr4 h0, if_pos kd_575, fS_begin, if_pos (kd578 h0), r578 h0]
  obtain ⟨y, A, eA, hA⟩ := tT_reset (CR_T h0 T578).1 T578
  obtain ⟨y', A', eA', ey, hFR⟩ := vT_reset (CR_T h0 T578).1 T578
  have eAA := (Prod.mk.inj (Option.some.inj (eA'.symm.trans eA))).2
  subst eAA
  rw [eA, bdN_s]
  simp only [bnd_s, bdN_s]
  have w := CR_IT h0 T578 hA
  have hI : RI g (pU (pU (pU (pU (pU (pU A' 575 2 0) 575 3 (-1)) 575 8 0) 575 9 0) 575 10 0) 575 6 0) := by
    refine ⟨CR_w (CR_w (CR_w (CR_w (CR_w (CR_w w (by omega)) (by omega)) (by omega)) (by omega)) (by omega)) (by omega), ?_⟩
    have := rlen w
    rw [pU_s, u1_s]
    simp (disch := omega) only [pU_n]
    omega
  have bx : ∀ x, ¬ x = 575 → pU (pU (pU (pU (pU (pU A' 575 2 0) 575 3 (-1)) 575 8 0) 575 9 0) 575 10 0) 575 6 0 x = A' x := fun x hx => by simp only [pU_n hx]
  have b2 : pU (pU (pU (pU (pU (pU A' 575 2 0) 575 3 (-1)) 575 8 0) 575 9 0) 575 10 0) 575 6 0 575 2 = 0 := by simp (disch := omega) only [pU_s, u1_s, u1_n]
  have b3 : pU (pU (pU (pU (pU (pU A' 575 2 0) 575 3 (-1)) 575 8 0) 575 9 0) 575 10 0) 575 6 0 575 3 = -1 := by simp (disch := omega) only [pU_s, u1_s, u1_n]
  have b8 : pU (pU (pU (pU (pU (pU A' 575 2 0) 575 3 (-1)) 575 8 0) 575 9 0) 575 10 0) 575 6 0 575 8 = 0 := by simp (disch := omega) only [pU_s, u1_s, u1_n]
  have b9 : pU (pU (pU (pU (pU (pU A' 575 2 0) 575 3 (-1)) 575 8 0) 575 9 0) 575 10 0) 575 6 0 575 9 = 0 := by simp (disch := omega) only [pU_s, u1_s, u1_n]
  have b10 : pU (pU (pU (pU (pU (pU A' 575 2 0) 575 3 (-1)) 575 8 0) 575 9 0) 575 10 0) 575 6 0 575 10 = 0 := by simp (disch := omega) only [pU_s, u1_s, u1_n]
  have b6 : pU (pU (pU (pU (pU (pU A' 575 2 0) 575 3 (-1)) 575 8 0) 575 9 0) 575 10 0) 575 6 0 575 6 = 0 := by simp (disch := omega) only [pU_s, u1_s]
  generalize pU (pU (pU (pU (pU (pU A' 575 2 0) 575 3 (-1)) 575 8 0) 575 9 0) 575 10 0) 575 6 0 = B at *
  obtain ⟨J, H0, hR, hta, hRW, ⟨m10, m31⟩, ⟨m13, m14, m19⟩, rest⟩ := ld_model hM (BB_0 hb)
  have r0 : H0 625 0 = 1 := hRW.1.1
  have hRA : RA (CQ 578) g J B H0 := by
    refine ⟨⟨hI, hR, ?_, ⟨CF_CQ, ?_⟩, ⟨b2, b3⟩, ⟨m13, m14⟩, ?_⟩, by rw [b6]; exact hta⟩
    · unfold BB
      rw [bx 576 (by omega), bx 577 (by omega), hA.2 576 (by omega), hA.2 577 (by omega), m10, m31]
      exact hb
    · exact CQ_eq (CQ_fresh hFR hRW) (by omega) (fun x x0 x1 => bx x (by omega))
    · unfold ON
      rw [b8, b9, b10, m19]
      exact ⟨⟨⟨Or.inl rfl, Or.inl rfl, Or.inl rfl⟩, rfl⟩, fun x hx => (bx x (by omega)).trans (hA.2 x (by omega))⟩
  obtain ⟨G, H, y2, eC, eM, z⟩ := rr_text 501 fu fu 0 B H0 hRA ⟨by omega, by omega⟩ (by rw [b6]; decide) (by omega) (by omega)
  rw [eC]
  have hz : CR g G ∧ RD J H := by
    rcases z with ⟨-, z⟩ | ⟨-, z⟩
    · exact ⟨z.1.1, z.2.1⟩
    · exact ⟨z.1.1, z.2.1⟩
  obtain ⟨v, K, eK, hL, hv, hk, hT, hS, hF⟩ := ld_end hz.1
  obtain ⟨v2, N, eN, hv2, ⟨n10, n11, n12⟩, nf, ns, nr⟩ := rest y2 H eM hz.2
  have ev : v2 = v := by
    rw [hv, hv2]
    rcases z with ⟨rfl, z⟩ | ⟨rfl, z⟩
    · rw [if_neg f0, if_pos z.2.2.2.2.1.1]
      exact z.2.2.2.1.2.1.1.symm
    · obtain ⟨-, -, -, z4, z5, -⟩ := z
      rw [if_pos rfl, if_neg (by rw [z5]; exact z4)]
  rw [ev] at eN
  have hA : K 575 2 = N 624 11 ∧ K 575 3 = N 624 12 := by
    rw [hk, n11, n12]
    rcases z with ⟨-, z⟩ | ⟨-, z⟩
    · obtain ⟨-, -, -, -, ⟨z5, z6⟩, ⟨z7, z8⟩, -⟩ := z
      rw [z5, z6, z7, z8]
      exact ⟨rfl, rfl⟩
    · exact ⟨z.2.2.2.2.1, z.2.2.2.2.2.1⟩
  refine ⟨v, K, N, eK, eN, hA, ⟨hL.2.2, n10⟩, nf, ⟨hL.1, fun x hx => hL.2.1 x hx, hL.2.2⟩, ?_⟩
  rcases z with ⟨rfl, z⟩ | ⟨rfl, z⟩
  · have z2 : G 575 2 = 0 := z.2.2.2.2.1.1
    obtain ⟨s1, s2, s3⟩ := ns f0
    obtain ⟨t1, t2, t3⟩ := hS z2
    have cq := z.2.2.2.1.2
    have fl := z.2.2.2.2.2.2.2
    have tc := hT z2
    refine Or.inl ⟨s2, s3, t1, t2, by rw [t3, fl 133 (by omega)], ?_, fun i i0 i1 => ?_, ?_⟩
    · rw [s1]
      exact CP_TC (CQ_P cq) hz.2.1.2.1.1 T578 tc
    · rw [(tc.2.2.2 i i0 i1).1 13 (by omega) (by omega) (by omega)]
      exact CQ_d0 cq i i0 i1
    · rw [s1]; exact CQ_r3 cq
  · obtain ⟨s1, s2, s3⟩ := nr rfl
    have z2 : ¬ G 575 2 = 0 := by rw [z.2.2.2.2.1]; exact z.2.2.2.1
    exact Or.inr ⟨fun x hx => (hF z2 x (by omega)).trans (z.2.2.2.2.2.2 x hx), s1, s2, s3⟩
end PAR16
