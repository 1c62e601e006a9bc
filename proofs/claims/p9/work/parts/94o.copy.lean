/-! ===== the class's trees: a copy, a fresh one (own work) ===== -/
section PAR15
variable {C C' : gH → (Int → Int) → Prop} {g g' G H K M A : gH} {r r' : Int → Int} {a b c d e i j k l m n p q s t u v w x y z S T : Int}
theorem vP_take (hd : kd d = 3) (hn : ¬ d = c) : ∃ B, fP_take g c d = some (0, B) ∧ (∀ x, ¬ x = c → B x = g x) ∧ (B c 0 = g c 0 ∧ B c 2 = g c 2) ∧ ∀ y, 1 ≤ y → y ≤ 14 → ¬ y = 2 → B c y = g d y := by
  rw [fP_take, if_pos hd]
  simp only [bnd_s, pU_n hn]
  refine ⟨_, rfl, fun x hx => by simp only [pU_n hx], ⟨?_, ?_⟩, fun y y0 y1 y2 => ?_⟩
  · simp (disch := omega) only [pU_y]
  · simp (disch := omega) only [pU_y]
  · have hy : y = 1 ∨ y = 3 ∨ y = 4 ∨ y = 5 ∨ y = 6 ∨ y = 7 ∨ y = 8 ∨ y = 9 ∨ y = 10 ∨ y = 11 ∨ y = 12 ∨ y = 13 ∨ y = 14 := by omega
    rcases hy with rfl | rfl | rfl | rfl | rfl | rfl | rfl | rfl | rfl | rfl | rfl | rfl | rfl <;> simp (disch := omega) only [pU_s, u1_s, u1_n]
/-- the tree T of H is a copy of the tree S of G -/
def TC (S T : Int) (G H : gH) : Prop := (∀ y, 4 ≤ y → y ≤ 9 → H T y = G S y) ∧ (∀ d, 0 ≤ d → d < 8 → H (T + 3) d = G (S + 3) d) ∧ (∀ i, 0 ≤ i → i < 5 → H (T + 4) i = G (S + 4) i) ∧ ∀ k, 0 ≤ k → k < 40 → (∀ y, 1 ≤ y → y ≤ 14 → ¬ y = 2 → H (pc T k) y = G (pc S k) y) ∧ H (pc T k) 2 = if G (pc S k) 2 < 0 then -1 else pc T (sp G S k)
theorem vT_take (hs : TS g T) (hT : isT T) (hS : isT S) (h : TI g S) (hn : ¬ T = S) : WN (fun y G => y = 0 ∧ TC S T g G) (fT_take g T S) := by
  have hfu := fu_ge
  have hdis := dis_Ts T hT S hS
  have hc := h.2.1
  rw [fT_take, if_pos (kdT hS), bnd_s]
  have z1 : TF T g (pU g T 5 (g S 5)) := TF_pU TF_r (by omega)
  have z2 : TS (pU g T 5 (g S 5)) T := TS_eq hs (fun k _ _ => pU_y (by omega)) (pU_n (by omega)) (fun i i0 i1 => by have := pc_b (T := T) ⟨i0, i1⟩; rw [pU_n (by omega)])
  have z3 : pU g T 5 (g S 5) T 5 = g S 5 := by rw [pU_s, u1_s]
  refine W_loop (W := WN (fun y G => y = 0 ∧ TC S T g G)) (fun n (a : Int × gH) => lT_take_10 T S n a.1 a.2) (fun a => (40 - a.1).toNat) (fun a => (0 ≤ a.1 ∧ a.1 ≤ 40) ∧ TF T g a.2 ∧ TS a.2 T ∧ a.2 T 5 = g S 5 ∧ ∀ k, 0 ≤ k → k < a.1 → (∀ y, 1 ≤ y → y ≤ 14 → ¬ y = 2 → a.2 (pc T k) y = g (pc S k) y) ∧ a.2 (pc T k) 2 = (if g (pc S k) 2 < 0 then -1 else pc T (sp g S k))) ?_ fu (0, _) ⟨by dsimp only; omega, z1, z2, z3, fun k k0 k1 => absurd k0 (by dsimp only at k1; omega)⟩ (by dsimp only; omega)
  clear z1 z2 z3
  rintro n ⟨i, G⟩ hI ih
  have i0 : 0 ≤ i := hI.1.1
  have i1 : i ≤ 40 := hI.1.2
  have gF : TF T g G := hI.2.1
  have gS : TS G T := hI.2.2.1
  have g5 : G T 5 = g S 5 := hI.2.2.2.1
  have gk : ∀ k, 0 ≤ k → k < i → (∀ y, 1 ≤ y → y ≤ 14 → ¬ y = 2 → G (pc T k) y = g (pc S k) y) ∧ G (pc T k) 2 = (if g (pc S k) 2 < 0 then -1 else pc T (sp g S k)) := hI.2.2.2.2
  clear hI
  have eS : ∀ x, S ≤ x → x < S + 44 → G x = g x := fun x x0 x1 => gF x (by omega)
  show WN _ (bT_take_10 T S (lT_take_10 T S n) i G)
  rw [bT_take_10]
  refine W_ite (fun hi => ?_) (fun hi => ?_)
  · have hi : 0 ≤ i ∧ i < 40 := ⟨i0, hi⟩
    have bi := pc_b (T := T) hi
    have bs := pc_b (T := S) hi
    have e1 : G S 1 = S + 2 := by rw [eS S (by omega) (by omega)]; exact TS_1 h.1
    have e2 : G (S + 2) i = pc S i := by rw [eS _ (by omega) (by omega)]; exact TS_p h.1 hi
    have e3 := TS_1 gS
    have e4 := TS_p gS hi
    have h24 : ∀ {U : Int}, isT U → kd (U + 2) = 24 ∧ (0 : Int) ≤ i ∧ i < sz (U + 2) := fun hU => ⟨kdT2 hU, i0, by rw [szT2 hU]; exact hi.2⟩
    rw [e1, e3, if_pos (kdT hS), if_pos (h24 hS), if_pos (h24 hT), e2, e4, if_pos (kdp hT hi)]
    obtain ⟨A, eA, a1, ⟨a2, a3⟩, a4⟩ := vP_take (g := G) (c := pc T i) (kdp hS hi) (by omega)
    rw [eA, bdN_s]
    have aT : A T = G T := a1 T (by omega)
    have a2T : A (T + 2) = G (T + 2) := a1 _ (by omega)
    have aS : ∀ x, S ≤ x → x < S + 44 → A x = g x := fun x x0 x1 => by rw [a1 x (by omega)]; exact eS x x0 x1
    have sA : TS A T := TS_eq gS (fun k _ _ => by rw [aT]) a2T (fun k k0 k1 => by
      by_cases e : k = i
      · rw [e]; exact a2
      · rw [a1 _ (pc_ne k0 i0 e)])
    have nx : ∀ z, z = (if g (pc S i) 2 < 0 then -1 else pc T (sp g S i)) → WN (fun y G => y = 0 ∧ TC S T g G) (lT_take_10 T S n (w32 (i + 1)) (pU A (pc T i) 2 z)) := by
      intro z hz
      rw [w32_r (by omega)]
      refine ih (i + 1, pU A (pc T i) 2 z) ⟨by dsimp only; omega, ?_, ?_, ?_, fun k k0 k1 => ?_⟩ (by dsimp only; omega)
      · exact TF_pU (fun x hx => (a1 x (by omega)).trans (gF x hx)) (by omega)
      · exact TS_eq sA (fun k _ _ => by show pU A (pc T i) 2 z T k = _; rw [pU_n (by omega)]) (pU_n (by omega)) (fun k k0 k1 => pU_y (by omega))
      · show pU A (pc T i) 2 z T 5 = _
        rw [pU_n (by omega), aT]; exact g5
      · have k1 : k < i + 1 := k1
        show (∀ y, 1 ≤ y → y ≤ 14 → ¬ y = 2 → pU A (pc T i) 2 z (pc T k) y = _) ∧ pU A (pc T i) 2 z (pc T k) 2 = _
        by_cases e : k = i
        · rw [e]
          refine ⟨fun y y0 y1 y2 => ?_, ?_⟩
          · rw [pU_y y2, a4 y y0 y1 y2, eS _ (by omega) (by omega)]
          · rw [pU_s, u1_s]; exact hz
        · rw [pU_n (pc_ne k0 i0 e), a1 _ (pc_ne k0 i0 e)]
          exact gk k k0 (by omega)
    rw [aT, e3, if_pos (h24 hT), if_pos (kdp hS hi), aS (pc S i) (by omega) (by omega), a2T, e4, if_pos (kdp hT hi)]
    refine W_ite (fun hneg => ?_) (fun hpos => ?_)
    · rw [bnd_s]
      exact nx _ (by rw [if_pos hneg])
    · have hi2 := hang_ h hi hpos
      have hs2 := sp_rg h (by omega) hi2.2
      have bj := pc_b (T := S) (i := sp g S i) ⟨by omega, by omega⟩
      rw [if_pos (by rw [hs2.2]; exact kdp hS (by omega)), hs2.2, aS _ (by omega) (by omega), TS_n h.1 (by omega), vT_atS sA hT (by rw [aT, g5]; exact hc.2), bdP_s, aT, g5, if_pos hs2.1, if_pos (kdp hT hi), bnd_s]
      exact nx _ (by rw [if_neg hpos])
  · have e40 : i = 40 := by omega
    subst e40
    have e2 : G S 2 = S + 3 := by rw [eS S (by omega) (by omega)]; exact TS_2 h.1
    have e3 : G S 3 = S + 4 := by rw [eS S (by omega) (by omega)]; exact TS_3 h.1
    have t2 := TS_2 gS
    have t3 := TS_3 gS
    have hST : ¬ S = T := fun z => hn z.symm
    rw [jT_take_70, if_pos (kdT hS), e2, t2, if_pos ⟨⟨kdT3 hS, kdT3 hT⟩, by omega, by rw [szT3 hS]; omega, by rw [szT3 hT]; omega⟩, bnd_s]
    have c3 : cpyG G (S + 3) (T + 3) 8 S 3 = S + 4 := by rw [cpyG_n (by omega)]; exact e3
    have c4 : cpyG G (S + 3) (T + 3) 8 T 3 = T + 4 := by rw [cpyG_n (by omega)]; exact t3
    have c5 : ∀ x, ¬ x = T + 3 → cpyG G (S + 3) (T + 3) 8 x = G x := fun x hx => cpyG_n hx
    have c6 : ∀ d, 0 ≤ d → d < 8 → cpyG G (S + 3) (T + 3) 8 (T + 3) d = g (S + 3) d := fun d d0 d1 => by
      unfold cpyG
      rw [if_pos ⟨rfl, d0, d1⟩, eS _ (by omega) (by omega)]
    generalize cpyG G (S + 3) (T + 3) 8 = D at *
    rw [c3, c4, if_pos ⟨⟨kdT4 hS, kdT4 hT⟩, by omega, by rw [szT4 hS]; omega, by rw [szT4 hT]; omega⟩, bnd_s]
    have d5 : ∀ x, ¬ x = T + 4 → cpyG D (S + 4) (T + 4) 5 x = D x := fun x hx => cpyG_n hx
    have d6 : ∀ i, 0 ≤ i → i < 5 → cpyG D (S + 4) (T + 4) 5 (T + 4) i = g (S + 4) i := fun i i0 i1 => by
      unfold cpyG
      rw [if_pos ⟨rfl, i0, i1⟩, c5 _ (by omega), eS _ (by omega) (by omega)]
    generalize cpyG D (S + 4) (T + 4) 5 = E at *
    have eES : E S = g S := by rw [d5 _ (by omega), c5 _ (by omega), eS _ (by omega) (by omega)]
    have eET : E T = G T := by rw [d5 _ (by omega), c5 _ (by omega)]
    simp only [bnd_s, pU_n hST, eES]
    refine WN_i ⟨rfl, fun y y0 y1 => ?_, fun d d0 d1 => ?_, fun i i0 i1 => ?_, fun k k0 k1 => ?_⟩
    · have hy : y = 4 ∨ y = 5 ∨ y = 6 ∨ y = 7 ∨ y = 8 ∨ y = 9 := by omega
      rcases hy with rfl | rfl | rfl | rfl | rfl | rfl
      · simp (disch := omega) only [pU_s, u1_s, u1_n]
      · simp (disch := omega) only [pU_s, u1_s, u1_n, eET]; exact g5
      · simp (disch := omega) only [pU_s, u1_s, u1_n]
      · simp (disch := omega) only [pU_s, u1_s, u1_n]
      · simp (disch := omega) only [pU_s, u1_s, u1_n]
      · simp (disch := omega) only [pU_s, u1_s, u1_n]
    · simp only [pU_n (show ¬ T + 3 = T by omega)]
      rw [d5 _ (by omega)]
      exact c6 d d0 d1
    · simp only [pU_n (show ¬ T + 4 = T by omega)]
      exact d6 i i0 i1
    · have bk := pc_b (T := T) (i := k) ⟨k0, k1⟩
      simp only [pU_n (show ¬ pc T k = T by omega)]
      rw [d5 _ (by omega), c5 _ (by omega)]
      exact gk k k0 k1
theorem PE_f {f f' : Int → Int} (h : PE f r i) (e : ∀ y, 1 ≤ y → y ≤ 14 → ¬ y = 2 → f' y = f y) : PE f' r i := by
  obtain ⟨⟨a1, a2, a3, a4, a5, a6, a7, a8, a9⟩, b, c, d⟩ := h
  refine ⟨⟨?_, ?_, ?_, ?_, ?_, ?_, ?_, ?_, ?_⟩, fun x x0 x1 => ?_, ?_, fun z => ?_⟩
  · rw [e 1 (by omega) (by omega) (by omega)]; exact a1
  · rw [e 4 (by omega) (by omega) (by omega)]; exact a2
  · rw [e 5 (by omega) (by omega) (by omega)]; exact a3
  · rw [e 6 (by omega) (by omega) (by omega)]; exact a4
  · rw [e 7 (by omega) (by omega) (by omega)]; exact a5
  · rw [e 8 (by omega) (by omega) (by omega)]; exact a6
  · rw [e 9 (by omega) (by omega) (by omega)]; exact a7
  · rw [e 11 (by omega) (by omega) (by omega)]; exact a8
  · rw [e 12 (by omega) (by omega) (by omega)]; exact a9
  · rw [e 14 (by omega) (by omega) (by omega)]; exact b x x0 x1
  · rw [e 3 (by omega) (by omega) (by omega)]; exact c
  · rw [e 10 (by omega) (by omega) (by omega)]; exact d z
theorem CP_TC (h : CP S G r) (hw : WB r) (hS : isT S) (ht : TC S T G H) : CP T H r := by
  obtain ⟨⟨p1, p2, p3, p4, p5, p6⟩, h2, h3, h4, h5, h6, h7⟩ := h
  obtain ⟨t1, t2, t3, t4⟩ := ht
  have hM := hw.1
  refine ⟨⟨?_, ?_, ?_, ?_, ?_, ?_⟩, fun i i0 i1 => ?_, fun d d0 d1 => ?_, fun i i0 i1 => ?_, fun i i0 i1 => ?_, fun i i0 i1 => ?_, h7⟩
  · rw [t1 5 (by omega) (by omega)]; exact p1
  · rw [t1 6 (by omega) (by omega)]; exact p2
  · rw [t1 7 (by omega) (by omega)]; exact p3
  · rw [t1 8 (by omega) (by omega)]; exact p4
  · rw [t1 9 (by omega) (by omega)]; exact p5
  · rw [t1 4 (by omega) (by omega)]; exact p6
  · rw [t3 i i0 i1]; exact h2 i i0 i1
  · rw [t2 d d0 d1]; exact h3 d d0 d1
  · exact PE_f (h4 i i0 i1) (t4 i i0 (by omega)).1
  · have hs := hw.2.1 i (by omega) i1
    have e := h5 i i0 i1
    rw [(t4 i (by omega) (by omega)).2, e, if_neg (pc_pos hS (by omega))]
    unfold sp
    rw [e, ix_pc hs.1]
  · rw [(t4 i (by omega) i1).1 1 (by omega) (by omega) (by omega)]
    exact h6 i i0 i1
/-! a fresh tree -/
def NP (f : Int → Int) : Prop := (f 1 = 0 ∧ f 3 = 0 ∧ f 4 = 9 ∧ f 5 = 0) ∧ (f 6 = 0 ∧ f 7 = -1 ∧ f 8 = 0 ∧ f 9 = -1) ∧ (f 11 = 0 ∧ f 12 = -1 ∧ f 14 = 0 ∧ f 13 = 0)
def FR (T : Int) (G : gH) : Prop := (G T 4 = 20 ∧ G T 5 = 1 ∧ G T 6 = 0 ∧ G T 7 = 0 ∧ G T 8 = 0 ∧ G T 9 = 0) ∧ (∀ i, 0 ≤ i → i < 5 → G (T + 4) i = if i < 3 then i else -1) ∧ (∀ d, 0 ≤ d → d < 8 → G (T + 3) d = 0) ∧ NP (G (pc T 0)) ∧ ∀ k, 1 ≤ k → k < 40 → G (pc T k) 1 = 3 ∧ G (pc T k) 13 = 0
def R1 (T : Int) (G : gH) : Prop := TS G T ∧ NP (G (pc T 0)) ∧ ∀ k, 1 ≤ k → k < 40 → G (pc T k) 1 = 3 ∧ G (pc T k) 13 = 0
theorem R1_e (h : R1 T G) (e : ∀ x, T ≤ x → x < T + 44 → ¬ x = T + 3 → ¬ x = T + 4 → H x = G x) : R1 T H := by
  obtain ⟨h1, h2, h3⟩ := h
  have ep : ∀ k, 0 ≤ k → k < 40 → H (pc T k) = G (pc T k) := fun k k0 k1 => by
    have := pc_b (T := T) ⟨k0, k1⟩
    exact e _ (by omega) (by omega) (by omega) (by omega)
  refine ⟨TS_eq h1 (fun k _ _ => by rw [e T (by omega) (by omega) (by omega) (by omega)]) (e _ (by omega) (by omega) (by omega) (by omega)) (fun k k0 k1 => by rw [ep k k0 k1]), by rw [ep 0 (by omega) (by omega)]; exact h2, fun k k0 k1 => by rw [ep k (by omega) k1]; exact h3 k k0 k1⟩
theorem vx_68 (h : R1 T G) (hd : ∀ d, 0 ≤ d → d < 8 → G (T + 3) d = 0) (hT : isT T) : WN (fun y H => y = 0 ∧ FR T H) (jT_reset_68 G T) := by
  obtain ⟨A, eA, a1, a2⟩ := vT_clearRules h.1 hT
  have hA : R1 T A := R1_e h (fun x _ _ _ x4 => a1 x x4)
  have hdA : ∀ d, 0 ≤ d → d < 8 → A (T + 3) d = 0 := fun d d0 d1 => by rw [a1 _ (by omega)]; exact hd d d0 d1
  have g4 : ∀ j, 0 ≤ j → j < 5 → kd (T + 4) = 20 ∧ (0 : Int) ≤ j ∧ j < sz (T + 4) := fun j j0 j1 => ⟨kdT4 hT, j0, by rw [szT4 hT]; exact j1⟩
  rw [jT_reset_68, eA, bdN_s, TS_3 hA.1, if_pos (g4 0 (by omega) (by omega)), bnd_s, pU_n (show ¬ T = T + 4 by omega), TS_3 hA.1, if_pos (g4 1 (by omega) (by omega)), bnd_s, pU_n (show ¬ T = T + 4 by omega), pU_n (show ¬ T = T + 4 by omega), TS_3 hA.1, if_pos (g4 2 (by omega) (by omega))]
  simp only [bnd_s]
  refine WN_i ⟨rfl, ⟨?_, ?_, ?_, ?_, ?_, ?_⟩, fun i i0 i1 => ?_, fun d d0 d1 => ?_, ?_, fun k k0 k1 => ?_⟩
  · simp (disch := omega) only [pU_s, u1_s, u1_n]
  · simp (disch := omega) only [pU_s, u1_s, u1_n]
  · simp (disch := omega) only [pU_s, u1_s, u1_n]
  · simp (disch := omega) only [pU_s, u1_s, u1_n]
  · simp (disch := omega) only [pU_s, u1_s, u1_n]
  · simp (disch := omega) only [pU_s, u1_s, u1_n]
  · simp only [pU_n (show ¬ T + 4 = T by omega), pU_s]
    have hi : i = 0 ∨ i = 1 ∨ i = 2 ∨ i = 3 ∨ i = 4 := by omega
    rcases hi with rfl | rfl | rfl | rfl | rfl
    · simp (disch := omega) only [u1_s, u1_n]; rfl
    · simp (disch := omega) only [u1_s, u1_n]; rfl
    · simp (disch := omega) only [u1_s, u1_n]; rfl
    · simp (disch := omega) only [u1_n]; exact a2 3 (by omega) (by omega)
    · simp (disch := omega) only [u1_n]; exact a2 4 (by omega) (by omega)
  · simp only [pU_n (show ¬ T + 3 = T by omega), pU_n (show ¬ T + 3 = T + 4 by omega)]
    exact hdA d d0 d1
  · have b0 := pc_b (T := T) (i := 0) (by omega)
    simp only [pU_n (show ¬ pc T 0 = T by omega), pU_n (show ¬ pc T 0 = T + 4 by omega)]
    exact hA.2.1
  · have bk := pc_b (T := T) (i := k) (by omega)
    simp only [pU_n (show ¬ pc T k = T by omega), pU_n (show ¬ pc T k = T + 4 by omega)]
    exact hA.2.2 k k0 k1
theorem vx_49 (h : R1 T G) (hT : isT T) : WN (fun y H => y = 0 ∧ FR T H) (lT_reset_49 T fu 0 G) := by
  have hfu := fu_ge
  refine W_loop (W := WN (fun y H => y = 0 ∧ FR T H)) (fun n (a : Int × gH) => lT_reset_49 T n a.1 a.2) (fun a => (8 - a.1).toNat) (fun a => (0 ≤ a.1 ∧ a.1 ≤ 8) ∧ R1 T a.2 ∧ ∀ d, 0 ≤ d → d < a.1 → a.2 (T + 3) d = 0) ?_ fu (0, G) ⟨by dsimp only; omega, h, fun d d0 d1 => by dsimp only at d1; omega⟩ (by dsimp only; omega)
  clear h
  rintro n ⟨i, G⟩ hI ih
  have i0 : 0 ≤ i := hI.1.1
  have h : R1 T G := hI.2.1
  have hd : ∀ d, 0 ≤ d → d < i → G (T + 3) d = 0 := hI.2.2
  show WN _ (bT_reset_49 T (lT_reset_49 T n) i G)
  rw [bT_reset_49]
  refine W_ite (fun hi => ?_) (fun hi => vx_68 h (fun d d0 d1 => hd d d0 (by omega)) hT)
  rw [TS_2 h.1, if_pos ⟨kdT3 hT, i0, by rw [szT3 hT]; exact hi⟩, bnd_s, w32_r (by omega)]
  refine ih (i + 1, pU G (T + 3) i 0) ⟨by dsimp only; omega, R1_e h (fun x _ _ x3 _ => pU_n x3), fun d d0 d1 => ?_⟩ (by dsimp only; omega)
  have d1 : d < i + 1 := d1
  show pU G (T + 3) i 0 (T + 3) d = 0
  rw [pU_s]
  by_cases e : d = i
  · rw [e, u1_s]
  · rw [u1_n e]; exact hd d d0 (by omega)
theorem vT_reset (h : TS g T) (hT : isT T) : WN (fun y H => y = 0 ∧ FR T H) (fT_reset g T) := by
  have hfu := fu_ge
  rw [fT_reset, TS_1 h, if_pos (kdT2 hT), szT2 hT]
  refine W_loop (W := WN (fun y H => y = 0 ∧ FR T H)) (fun n (a : Int × gH) => lT_reset_10 T (T + 2) 40 n a.1 a.2) (fun a => (40 - a.1).toNat) (fun a => (0 ≤ a.1 ∧ a.1 ≤ 40) ∧ TS a.2 T ∧ ∀ k, 0 ≤ k → k < a.1 → a.2 (pc T k) 1 = 3 ∧ a.2 (pc T k) 13 = 0) ?_ fu (0, g) ⟨by dsimp only; omega, h, fun k k0 k1 => absurd k0 (by dsimp only at k1; omega)⟩ (by dsimp only; omega)
  clear h
  rintro n ⟨i, G⟩ hI ih
  have i0 : 0 ≤ i := hI.1.1
  have i1 : i ≤ 40 := hI.1.2
  have h2 : TS G T := hI.2.1
  have h3 : ∀ k, 0 ≤ k → k < i → G (pc T k) 1 = 3 ∧ G (pc T k) 13 = 0 := hI.2.2
  show WN _ (bT_reset_10 T (T + 2) 40 (lT_reset_10 T (T + 2) 40 n) i G)
  rw [bT_reset_10]
  refine W_ite (fun hi => ?_) (fun hi => ?_)
  · have hi : 0 ≤ i ∧ i < 40 := ⟨i0, hi⟩
    have bi := pc_b (T := T) hi
    simp only [TS_p h2 hi, kdp hT hi, kdT2 hT, szT2 hT, hi.1, hi.2, if_true, true_and, and_self]
    obtain ⟨A, eA, a1, ⟨a2, a3, -, -⟩, -, -, ⟨-, a15, -⟩⟩ := vP_become (g := G) (c := pc T i) (a := 3) (b := 0) (d := 0) (w := 0)
    rw [eA, bdN_s, w32_r (by omega)]
    refine ih (i + 1, A) ⟨by dsimp only; omega, ?_, fun k k0 k1 => ?_⟩ (by dsimp only; omega)
    · refine TS_eq h2 (fun k _ _ => ?_) (a1 _ (by omega)) (fun k k0 k1 => ?_)
      · show A T k = _
        rw [a1 T (by omega)]
      · show A (pc T k) 0 = _
        by_cases e : k = i
        · rw [e]; exact a2
        · rw [a1 _ (pc_ne k0 i0 e)]
    · have k1 : k < i + 1 := k1
      show A (pc T k) 1 = 3 ∧ A (pc T k) 13 = 0
      by_cases e : k = i
      · rw [e]; exact ⟨a3, a15⟩
      · rw [a1 _ (pc_ne k0 i0 e)]; exact h3 k k0 (by omega)
  · rw [jT_reset_35, TS_0 h2, ← pc_0, if_pos (kdp hT (by omega))]
    have b0 := pc_b (T := T) (i := 0) (by omega)
    obtain ⟨A, eA, a1, ⟨a2, a3, -, a5⟩, ⟨a6, a7, a8, a9⟩, ⟨a10, a11, -, a13⟩, ⟨a14, a15, a16⟩⟩ := vP_become (g := G) (c := pc T 0) (a := 0) (b := 9) (d := 0) (w := 0)
    rw [eA, bdN_s]
    refine vx_49 ⟨TS_eq h2 (fun k _ _ => by rw [a1 T (by omega)]) (a1 _ (by omega)) (fun k k0 k1 => ?_), ⟨⟨a3, a5, a6, a7⟩, ⟨a8, a9, a10, a11⟩, ⟨a13, a14, a16, a15⟩⟩, fun k k0 k1 => ?_⟩ hT
    · by_cases e : k = 0
      · rw [e]; exact a2
      · rw [a1 _ (pc_ne k0 (by omega) e)]
    · rw [a1 _ (pc_ne (by omega) (by omega) (by omega))]; exact h3 k (by omega) (by omega)
/-- a fresh row -/
def RW (r : Int → Int) : Prop := (r 0 = 1 ∧ r 1 = 0 ∧ r 2 = 0 ∧ r 3 = 0 ∧ r 4 = 0 ∧ r 5 = 3 ∧ r 59 = 20) ∧ (r 6 = 0 ∧ r 7 = 1 ∧ r 8 = 2) ∧ (∀ d, 0 ≤ d → d < 8 → r (11 + d) = 0) ∧ (r 100 = 9 ∧ r 140 = 0 ∧ r 180 = 0 ∧ r 220 = 0 ∧ r 260 = -1 ∧ r 300 = -1 ∧ r 340 = 0 ∧ r 380 = 0 ∧ r 420 = -1 ∧ r 60 = -1) ∧ ∀ d, 0 ≤ d → d < 8 → r (460 + d) = -1
theorem CP_fresh (h : FR S G) (hr : RW r) : CP S G r := by
  obtain ⟨⟨t4, t5, t6, t7, t8, t9⟩, hR, hH, ⟨⟨f1, f3, f4, f5_⟩, ⟨f6, f7, f8_, f9⟩, ⟨f11, f12, f14, -⟩⟩, hk⟩ := h
  obtain ⟨⟨r0, r1, r2, r3, r4, r5, r59⟩, ⟨r6, r7, r8⟩, rd, ⟨r100, r140, r180, r220, r260, r300, r340, r380, r420, -⟩, rw_⟩ := hr
  refine ⟨⟨by rw [t5, r0], by rw [t6, r1], by rw [t7, r2], by rw [t8, r3], by rw [t9, r4], by rw [t4, r59]⟩, fun i i0 i1 => ?_, fun d d0 d1 => by rw [hH d d0 d1, rd d d0 d1], fun i i0 i1 => ?_, fun i i0 i1 => by rw [r0] at i1; omega, fun i i0 i1 => (hk i (by omega) i1).1, fun i i0 i1 i2 => ?_⟩
  · rw [hR i i0 i1, r5]
    by_cases c : i < 3
    · rw [if_pos c, if_pos c]
      have hi : i = 0 ∨ i = 1 ∨ i = 2 := by omega
      rcases hi with rfl | rfl | rfl
      · exact r6.symm
      · exact r7.symm
      · exact r8.symm
    · rw [if_neg c, if_neg c]
  · have ei : i = 0 := by omega
    subst ei
    refine ⟨⟨f1.trans r140.symm, f4.trans r100.symm, f5_.trans r180.symm, f6.trans r220.symm, f7.trans r260.symm, f8_.trans r340.symm, f9.trans r300.symm, f11.trans r380.symm, f12.trans r420.symm⟩, fun d d0 d1 => ?_, ?_, fun z => absurd r140 z⟩
    · obtain ⟨f, ef⟩ := f8 ⟨d0, d1⟩
      rw [f14, show (460 + 8 * 0 + d : Int) = 460 + d by omega, rw_ d d0 d1, ef]
      exact wl_0 f
    · rw [f3]
      refine (cn_z _ _ (fun x x0 x1 => decide_eq_false (fun z => ?_))).symm
      rw [r0] at x1
      omega
  · rw [r5] at i2
    have hi : i = 0 ∨ i = 1 ∨ i = 2 := by omega
    rcases hi with rfl | rfl | rfl
    · rw [show (6 + 0 : Int) = 6 by omega, r6]; omega
    · rw [show (6 + 1 : Int) = 7 by omega, r7]; omega
    · rw [show (6 + 2 : Int) = 8 by omega, r8]; omega
theorem CQ_fresh (h : FR S G) (hr : RW r) : CQ S G r := CQ_of (CP_fresh h hr) (fun i i0 i1 => by
  by_cases z : i = 0
  · rw [z]; exact h.2.2.2.1.2.2.2.2.2
  · exact (h.2.2.2.2 i (by omega) i1).2) ⟨hr.1.2.2.2.1, hr.2.2.2.1.2.2.2.2.2.2.2.2.2, hr.2.2.2.1.2.2.2.2.2.2.2.1⟩
theorem clr_4 (r0 : Int → Int) (e : ∀ k, 0 ≤ k → k < 780 → r0 k = 0) (hs : MS G) : ∃ r, jM_clear_22 (sw G r0) 624 = some (0, sw G r) ∧ RW r := by
  have hf := fu_ge
  have h0 : ∀ r, sw G r 624 0 = 625 := fun r => by rw [sw_n (by omega)]; exact hs.1
  have st : ∀ (n : Nat) (i : Int) (r : Int → Int), 0 ≤ i → i < 3 → lM_clear_31 624 (n + 1) i (sw G r) = lM_clear_31 624 n (i + 1) (sw G (u1 r (6 + i) i)) := by
    intro n i r i0 i1
    show bM_clear_31 624 (lM_clear_31 624 n) i (sw G r) = _
    rw [bM_clear_31, if_pos i1, h0, w32_r (by omega), if_pos (by rw [kd_625, sz_625]; omega), bnd_s, w32_r (by omega), pU_sw]
  obtain ⟨n, hn⟩ : ∃ n, fu = n + 4 := ⟨fu - 4, by omega⟩
  have q : ∀ k, ¬ k = 59 → ¬ k = 5 → ¬ (6 ≤ k ∧ k < 9) → 0 ≤ k → k < 780 → u1 (u1 (u1 (u1 (u1 r0 5 3) (6 + 0) 0) (6 + (0 + 1)) (0 + 1)) (6 + (0 + 1 + 1)) (0 + 1 + 1)) 59 20 k = 0 := by
    intro k k1 k2 k3 k4 k5
    simp (disch := omega) only [u1_n]
    exact e k k4 k5
  have q5 : u1 (u1 (u1 (u1 (u1 r0 5 3) (6 + 0) 0) (6 + (0 + 1)) (0 + 1)) (6 + (0 + 1 + 1)) (0 + 1 + 1)) 59 20 5 = 3 := by simp (disch := omega) only [u1_n, u1_s]
  have q59 : u1 (u1 (u1 (u1 (u1 r0 5 3) (6 + 0) 0) (6 + (0 + 1)) (0 + 1)) (6 + (0 + 1 + 1)) (0 + 1 + 1)) 59 20 59 = 20 := by simp (disch := omega) only [u1_s]
  have q6 : u1 (u1 (u1 (u1 (u1 r0 5 3) (6 + 0) 0) (6 + (0 + 1)) (0 + 1)) (6 + (0 + 1 + 1)) (0 + 1 + 1)) 59 20 6 = 0 := by
    show u1 (u1 (u1 (u1 (u1 r0 5 3) 6 0) 7 1) 8 2) 59 20 6 = 0
    simp (disch := omega) only [u1_n, u1_s]
  have q7 : u1 (u1 (u1 (u1 (u1 r0 5 3) (6 + 0) 0) (6 + (0 + 1)) (0 + 1)) (6 + (0 + 1 + 1)) (0 + 1 + 1)) 59 20 7 = 1 := by
    show u1 (u1 (u1 (u1 (u1 r0 5 3) 6 0) 7 1) 8 2) 59 20 7 = 1
    simp (disch := omega) only [u1_n, u1_s]
  have q8 : u1 (u1 (u1 (u1 (u1 r0 5 3) (6 + 0) 0) (6 + (0 + 1)) (0 + 1)) (6 + (0 + 1 + 1)) (0 + 1 + 1)) 59 20 8 = 2 := by
    show u1 (u1 (u1 (u1 (u1 r0 5 3) 6 0) 7 1) 8 2) 59 20 8 = 2
    simp (disch := omega) only [u1_n, u1_s]
  refine ⟨cmR (u1 (u1 (u1 (u1 (u1 r0 5 3) (6 + 0) 0) (6 + (0 + 1)) (0 + 1)) (6 + (0 + 1 + 1)) (0 + 1 + 1)) 59 20) (-1) 9 0 0, ?_, ?_⟩
  · rw [jM_clear_22, h0, if_pos (by rw [kd_625, sz_625]; omega), bnd_s, pU_sw, hn, st _ _ _ (by omega) (by omega), st _ _ _ (by omega) (by omega), st _ _ _ (by omega) (by omega)]
    show bM_clear_31 624 (lM_clear_31 624 n) (0 + 1 + 1 + 1) _ = _
    rw [bM_clear_31, if_neg (by omega), jM_clear_52, h0, if_pos (by rw [kd_625, sz_625]; omega), bnd_s, pU_sw, vM_comes (MS_sw hs) (by rw [sw_s, q 0 (by omega) (by omega) (by omega) (by omega) (by omega)]; omega), bdN_s, sw_s, sw_sw]
  · generalize u1 (u1 (u1 (u1 (u1 r0 5 3) (6 + 0) 0) (6 + (0 + 1)) (0 + 1)) (6 + (0 + 1 + 1)) (0 + 1 + 1)) 59 20 = p at *
    have v : ∀ k, cmR p (-1) 9 0 0 k = if k = 0 then 1 else if 460 ≤ k ∧ k < 468 then -1 else if k = 420 then -1 else if k = 380 then 0 else if k = 340 then 0 else if k = 300 then -1 else if k = 260 then -1 else if k = 220 then 0 else if k = 180 then 0 else if k = 140 then 0 else if k = 100 then 9 else if k = 60 then -1 else p k := by
      intro k
      unfold cmR
      rw [q 0 (by omega) (by omega) (by omega) (by omega) (by omega)]
      rfl
    have o : ∀ k, 0 < k → k < 60 → cmR p (-1) 9 0 0 k = p k := by
      intro k k0 k1
      rw [v]
      simp (disch := omega) only [if_neg]
    refine ⟨⟨by rw [v]; rfl, ?_, ?_, ?_, ?_, ?_, ?_⟩, ⟨?_, ?_, ?_⟩, fun d d0 d1 => ?_, ⟨by rw [v]; rfl, by rw [v]; rfl, by rw [v]; rfl, by rw [v]; rfl, by rw [v]; rfl, by rw [v]; rfl, by rw [v]; rfl, by rw [v]; rfl, by rw [v]; rfl, by rw [v]; rfl⟩, fun d d0 d1 => by rw [v, if_neg (by omega), if_pos (by omega)]⟩
    · rw [o 1 (by omega) (by omega)]; exact q 1 (by omega) (by omega) (by omega) (by omega) (by omega)
    · rw [o 2 (by omega) (by omega)]; exact q 2 (by omega) (by omega) (by omega) (by omega) (by omega)
    · rw [o 3 (by omega) (by omega)]; exact q 3 (by omega) (by omega) (by omega) (by omega) (by omega)
    · rw [o 4 (by omega) (by omega)]; exact q 4 (by omega) (by omega) (by omega) (by omega) (by omega)
    · rw [o 5 (by omega) (by omega)]; exact q5
    · rw [o 59 (by omega) (by omega)]; exact q59
    · rw [o 6 (by omega) (by omega)]; exact q6
    · rw [o 7 (by omega) (by omega)]; exact q7
    · rw [o 8 (by omega) (by omega)]; exact q8
    · rw [o _ (by omega) (by omega)]; exact q _ (by omega) (by omega) (by omega) (by omega) (by omega)
end PAR15
