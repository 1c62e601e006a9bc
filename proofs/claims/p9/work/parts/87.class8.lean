/-! ===== the class's trees: one taken from another, a new one (own work) ===== -/
section CLS8
variable {g g' G H K : gH} {T S i j k a b c v w d o p q r s m x y : Int}
theorem vT_atS (hs : TS g T) (hT : isT T) (hc : g T 5 ≤ 40) : fT_at g T v = some (if 0 ≤ v ∧ v < g T 5 then pc T v else -1) := by
  rw [fT_at, TS_1 hs]
  by_cases h0 : v < 0
  · rw [if_pos h0, if_neg (by omega)]
  · rw [if_neg h0]
    by_cases h1 : v < g T 5
    · rw [if_pos h1, if_pos (by omega), if_pos ⟨kdT2 hT, by omega, by rw [szT2 hT]; omega⟩, TS_p hs (by omega), if_pos (by omega)]
    · rw [if_neg h1, if_neg (by omega)]
theorem tP_take (hd : kd d = 3) (hn : ¬ d = c) : WN (fun _ G => (∀ x, ¬ x = c → G x = g x) ∧ G c 0 = g c 0 ∧ G c 2 = g c 2 ∧ G c 1 = g d 1 ∧ G c 9 = g d 9) (fP_take g c d) := by
  rw [fP_take, if_pos hd]
  simp only [bnd_s]
  refine WN_i ⟨fun x hx => by simp only [pU_n hx], ?_, ?_, ?_, ?_⟩
  · simp (disch := omega) only [pU_y]
  · simp (disch := omega) only [pU_y]
  · simp (disch := omega) only [pU_y]
    rw [pU_s, u1_s]
  · simp (disch := omega) only [pU_y]
    rw [pU_s, u1_s]
theorem cpyG_n (h : ¬ x = p) : cpyG g q p m x = g x := by
  funext y
  unfold cpyG
  rw [if_neg (fun z => h z.1)]
theorem IT_cp (h : IT T g G) (hp : p = T + 3 ∨ p = T + 4) : IT T g (cpyG G q p m) := by
  have e : ∀ x, ¬ x = p → cpyG G q p m x = G x := fun x hx => cpyG_n hx
  refine ⟨TI_eq h.1 (fun k _ _ => by rw [e T (by omega)]) (by rw [e T (by omega)]) (e _ (by omega)) (fun i i0 i1 => ?_) (fun i i0 i1 => ?_), fun x hx => (e x (by omega)).trans (h.2 x hx)⟩
  · have := pc_b (T := T) ⟨i0, i1⟩
    rw [e _ (by omega)]; exact ⟨rfl, rfl⟩
  · have := pc_b (T := T) ⟨i0, i1⟩
    rw [e _ (by omega)]; exact h.1.2.2.2.2.2.2 i i0 i1
theorem tT_take (hs : TS g T) (hT : isT T) (hS : isT S) (h : TI g S) (hn : ¬ T = S) : WN (fun _ G => IT T g G) (fT_take g T S) := by
  have hfu := fu_ge
  have hdis := dis_Ts T hT S hS
  have hc := h.2.1
  rw [fT_take, if_pos (kdT hS), bnd_s]
  have z1 : TF T g (pU g T 5 (g S 5)) := TF_pU TF_r (by omega)
  have z2 : TS (pU g T 5 (g S 5)) T := TS_eq hs (fun k _ _ => pU_y (by omega)) (pU_n (by omega)) (fun i i0 i1 => by have := pc_b (T := T) ⟨i0, i1⟩; rw [pU_n (by omega)])
  have z3 : pU g T 5 (g S 5) T 5 = g S 5 := by rw [pU_s, u1_s]
  refine W_loop (W := WN (fun _ G => IT T g G)) (fun n (a : Int × gH) => lT_take_10 T S n a.1 a.2) (fun a => (40 - a.1).toNat) (fun a => (0 ≤ a.1 ∧ a.1 ≤ 40) ∧ TF T g a.2 ∧ TS a.2 T ∧ a.2 T 5 = g S 5 ∧ ∀ k, 0 ≤ k → k < a.1 → a.2 (pc T k) 2 = (if g (pc S k) 2 < 0 then -1 else pc T (sp g S k)) ∧ a.2 (pc T k) 1 = g (pc S k) 1 ∧ a.2 (pc T k) 9 = g (pc S k) 9) ?_ fu (0, _) ⟨by dsimp only; omega, z1, z2, z3, fun k k0 k1 => absurd k0 (by dsimp only at k1; omega)⟩ (by dsimp only; omega)
  clear z1 z2 z3
  rintro n ⟨i, G⟩ hI ih
  have i0 : 0 ≤ i := hI.1.1
  have i1 : i ≤ 40 := hI.1.2
  have gF : TF T g G := hI.2.1
  have gS : TS G T := hI.2.2.1
  have g5 : G T 5 = g S 5 := hI.2.2.2.1
  have gk : ∀ k, 0 ≤ k → k < i → G (pc T k) 2 = (if g (pc S k) 2 < 0 then -1 else pc T (sp g S k)) ∧ G (pc T k) 1 = g (pc S k) 1 ∧ G (pc T k) 9 = g (pc S k) 9 := hI.2.2.2.2
  clear hI
  have eS : ∀ x, S ≤ x → x < S + 44 → G x = g x := fun x x0 x1 => gF x (by omega)
  show WN _ (bT_take_10 T S (lT_take_10 T S n) i G)
  rw [bT_take_10]
  refine W_ite (fun hi => ?_) (fun hi => ?_)
  · have hi : 0 ≤ i ∧ i < 40 := ⟨i0, hi⟩
    have bi := pc_b (T := T) hi
    have bs := pc_b (T := S) hi
    have e1 : G S 1 = S + 2 := by rw [eS S (by omega) (by omega)]; exact TS_1 h.1
    have e2 : G (S + 2) i = pc S i := by rw [eS _ (by omega) (by omega)]; exact TS_p h.1 hi
    have e3 := TS_1 gS
    have e4 := TS_p gS hi
    have h24 : ∀ {U : Int}, isT U → kd (U + 2) = 24 ∧ (0 : Int) ≤ i ∧ i < sz (U + 2) := fun hU => ⟨kdT2 hU, i0, by rw [szT2 hU]; exact hi.2⟩
    rw [e1, e3, if_pos (kdT hS), if_pos (h24 hS), if_pos (h24 hT), e2, e4, if_pos (kdp hT hi)]
    refine W_bdN (tP_take (kdp hS hi) (by omega)) (fun _ A hA => ?_)
    obtain ⟨a1, a2, a3, a4, a5⟩ := hA
    have aT : A T = G T := a1 T (by omega)
    have a2T : A (T + 2) = G (T + 2) := a1 _ (by omega)
    have aS : ∀ x, S ≤ x → x < S + 44 → A x = g x := fun x x0 x1 => by rw [a1 x (by omega)]; exact eS x x0 x1
    have sA : TS A T := TS_eq gS (fun k _ _ => by rw [aT]) a2T (fun k k0 k1 => by
      by_cases e : k = i
      · rw [e]; exact a2
      · rw [a1 _ (pc_ne k0 i0 e)])
    have nx : ∀ z, z = (if g (pc S i) 2 < 0 then -1 else pc T (sp g S i)) → WN (fun _ G => IT T g G) (lT_take_10 T S n (w32 (i + 1)) (pU A (pc T i) 2 z)) := by
      intro z hz
      rw [w32_r (by omega)]
      refine ih (i + 1, pU A (pc T i) 2 z) ⟨by dsimp only; omega, ?_, ?_, ?_, fun k k0 k1 => ?_⟩ (by dsimp only; omega)
      · exact TF_pU (fun x hx => (a1 x (by omega)).trans (gF x hx)) (by omega)
      · exact TS_eq sA (fun k _ _ => by show pU A (pc T i) 2 z T k = _; rw [pU_n (by omega)]) (pU_n (by omega)) (fun k k0 k1 => pU_y (by omega))
      · show pU A (pc T i) 2 z T 5 = _
        rw [pU_n (by omega), aT]; exact g5
      · have k1 : k < i + 1 := k1
        show pU A (pc T i) 2 z (pc T k) 2 = _ ∧ pU A (pc T i) 2 z (pc T k) 1 = _ ∧ pU A (pc T i) 2 z (pc T k) 9 = _
        by_cases e : k = i
        · rw [e, pU_s, u1_s, u1_n (by omega), u1_n (by omega), a4, a5, eS _ (by omega) (by omega)]
          exact ⟨hz, rfl, rfl⟩
        · rw [pU_n (pc_ne k0 i0 e), a1 _ (pc_ne k0 i0 e)]
          exact gk k k0 (by omega)
    rw [aT, e3, if_pos (h24 hT), if_pos (kdp hS hi), aS (pc S i) (by omega) (by omega), a2T, e4, if_pos (kdp hT hi)]
    refine W_ite (fun hneg => ?_) (fun hpos => ?_)
    · rw [bnd_s]
      exact nx _ (by rw [if_pos hneg])
    · have hi2 := hang_ h hi hpos
      have hs2 := sp_rg h (by omega) hi2.2
      have bj := pc_b (T := S) (i := sp g S i) ⟨by omega, by omega⟩
      rw [if_pos (by rw [hs2.2]; exact kdp hS (by omega)), hs2.2, aS _ (by omega) (by omega), TS_n h.1 (by omega), vT_atS sA hT (by rw [aT, g5]; exact hc.2), bdP_s, aT, g5, if_pos hs2.1, if_pos (kdp hT hi), bnd_s]
      exact nx _ (by rw [if_neg hpos])
  · have e40 : i = 40 := by omega
    subst e40
    have hI : IT T g G := by
      refine ⟨⟨gS, by rw [g5]; exact hc, ?_, fun k k0 k1 => ?_, fun k k0 k1 => ?_, ?_, fun k k0 k1 => ?_⟩, gF⟩
      · rw [(gk 0 (by omega) (by omega)).1, if_pos (by rw [h.2.2.1]; omega)]
      · rw [g5] at k0
        rw [(gk k (by omega) k1).1, if_pos (by rw [h.2.2.2.1 k k0 k1]; omega)]
      · rw [g5] at k1 ⊢
        have hs2 := sp_rg h k0 k1
        exact ⟨sp g S k, hs2.1.1, hs2.1.2, by rw [(gk k (by omega) (by omega)).1, if_neg (by rw [hs2.2]; exact pc_pos hS (by omega))]⟩
      · rw [g5]
        refine acy_ext h.2.2.2.2.2.1 (fun k k0 k1 => (sp_rg h (by omega) k1).1) (fun k k0 k1 => ?_)
        have hs2 := sp_rg h (i := k) (by omega) k1
        show ix T (G (pc T k) 2) = _
        rw [(gk k (by omega) (by omega)).1, if_neg (by rw [hs2.2]; exact pc_pos hS (by omega)), ix_pc hs2.1.1]
      · rw [(gk k k0 k1).2.1, (gk k k0 k1).2.2]
        exact h.2.2.2.2.2.2 k k0 k1
    have e2 : G S 2 = S + 3 := by rw [eS S (by omega) (by omega)]; exact TS_2 h.1
    have e3 : G S 3 = S + 4 := by rw [eS S (by omega) (by omega)]; exact TS_3 h.1
    have t2 := TS_2 gS
    have t3 := TS_3 gS
    rw [jT_take_70, if_pos (kdT hS), e2, t2, if_pos ⟨⟨kdT3 hS, kdT3 hT⟩, by omega, by rw [szT3 hS]; omega, by rw [szT3 hT]; omega⟩, bnd_s]
    have w1 : IT T g (cpyG G (S + 3) (T + 3) 8) := IT_cp hI (Or.inl rfl)
    have c3 : cpyG G (S + 3) (T + 3) 8 S 3 = S + 4 := by rw [cpyG_n (by omega)]; exact e3
    have c4 : cpyG G (S + 3) (T + 3) 8 T 3 = T + 4 := by rw [cpyG_n (by omega)]; exact t3
    generalize cpyG G (S + 3) (T + 3) 8 = C at *
    rw [c3, c4, if_pos ⟨⟨kdT4 hS, kdT4 hT⟩, by omega, by rw [szT4 hS]; omega, by rw [szT4 hT]; omega⟩]
    simp only [bnd_s]
    exact WN_i (IT_w (IT_w (IT_w (IT_w (IT_w (IT_cp w1 (Or.inr rfl)) (by omega)) (by omega)) (by omega)) (by omega)) (by omega))
theorem tT_clearRules (h : TS g T) (hT : isT T) : WN (fun _ G => (∀ x, ¬ x = T + 4 → G x = g x)) (fT_clearRules g T) := by
  have hfu := fu_ge
  rw [fT_clearRules]
  refine W_loop (W := WN (fun _ G => (∀ x, ¬ x = T + 4 → G x = g x))) (fun n (a : Int × gH) => lT_clearRules_2 T n a.1 a.2) (fun a => (5 - a.1).toNat) (fun a => (0 ≤ a.1 ∧ a.1 ≤ 5) ∧ (∀ x, ¬ x = T + 4 → a.2 x = g x)) ?_ fu (0, g) ⟨by dsimp only; omega, fun _ _ => rfl⟩ (by dsimp only; omega)
  rintro n ⟨i, G⟩ hI ih
  have i0 : 0 ≤ i := hI.1.1
  have hG : ∀ x, ¬ x = T + 4 → G x = g x := hI.2
  show WN _ (bT_clearRules_2 T (lT_clearRules_2 T n) i G)
  rw [bT_clearRules_2]
  refine W_ite (fun hi => ?_) (fun _ => WN_i hG)
  rw [hG T (by omega), TS_3 h, if_pos ⟨kdT4 hT, i0, by rw [szT4 hT]; exact hi⟩, bnd_s, w32_r (by omega)]
  exact ih (i + 1, pU G (T + 4) i (-1)) ⟨by dsimp only; omega, fun x hx => by show pU G (T + 4) i (-1) x = _; rw [pU_n hx]; exact hG x hx⟩ (by dsimp only; omega)
end CLS8
