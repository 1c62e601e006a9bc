/-! ===== the class: a new tree, the whole object, its past (own work) ===== -/
section CLS9
variable {g g' G H K : gH} {T S i j k a b c v w d o p q r s m x y : Int}
/-- nobody hangs under anybody -/
def RZ (T : Int) (g G : gH) : Prop := TF T g G ∧ TS G T ∧ ∀ k, 0 ≤ k → k < 40 → G (pc T k) 2 = -1 ∧ ¬ G (pc T k) 1 = 1
theorem RZ_w (h : RZ T g G) (hab : a = T + 3 ∨ a = T + 4 ∨ (a = T ∧ 4 ≤ b)) : RZ T g (pU G a b v) := by
  obtain ⟨h1, h2, h3⟩ := h
  refine ⟨TF_pU h1 (by omega), TS_eq h2 (fun k _ _ => ?_) (pU_n (by omega)) (fun k k0 k1 => ?_), fun k k0 k1 => ?_⟩
  · unfold pU
    rw [if_neg (by omega)]
  · have := pc_b (T := T) ⟨k0, k1⟩
    rw [pU_n (by omega)]
  · have := pc_b (T := T) ⟨k0, k1⟩
    rw [pU_n (by omega)]; exact h3 k k0 k1
theorem RZ_e (h : RZ T g G) (hab : ∀ x, ¬ x = T + 4 → H x = G x) : RZ T g H := by
  obtain ⟨h1, h2, h3⟩ := h
  refine ⟨fun x hx => (hab x (by omega)).trans (h1 x hx), TS_eq h2 (fun k _ _ => ?_) (hab _ (by omega)) (fun k k0 k1 => ?_), fun k k0 k1 => ?_⟩
  · rw [hab T (by omega)]
  · have := pc_b (T := T) ⟨k0, k1⟩
    rw [hab _ (by omega)]
  · have := pc_b (T := T) ⟨k0, k1⟩
    rw [hab _ (by omega)]; exact h3 k k0 k1
theorem RZ_I (h : RZ T g G) (h5 : G T 5 = 1) : IT T g G := by
  obtain ⟨h1, h2, h3⟩ := h
  refine ⟨⟨h2, by rw [h5]; omega, (h3 0 (by omega) (by omega)).1, fun k k0 k1 => (h3 k (by rw [h5] at k0; omega) k1).1, fun k k0 k1 => absurd k0 (by rw [h5] at k1; omega), fun k k0 k1 => ?_, fun k k0 k1 z => absurd z (h3 k k0 k1).2⟩, h1⟩
  rw [h5] at k1
  rw [show k = 0 by omega]
  exact en_0
theorem lx_68 (h : RZ T g G) (hT : isT T) : WN (fun _ H => IT T g H) (jT_reset_68 G T) := by
  rw [jT_reset_68]
  refine W_bdN (tT_clearRules h.2.1 hT) (fun _ A hA => ?_)
  have hA := RZ_e h hA
  rw [TS_3 hA.2.1, if_pos ⟨kdT4 hT, by omega, by rw [szT4 hT]; omega⟩, bnd_s]
  have w1 : RZ T g (pU A (T + 4) 0 0) := RZ_w hA (by omega)
  generalize pU A (T + 4) 0 0 = B at *
  rw [TS_3 w1.2.1, if_pos ⟨kdT4 hT, by omega, by rw [szT4 hT]; omega⟩, bnd_s]
  have w2 : RZ T g (pU B (T + 4) 1 1) := RZ_w w1 (by omega)
  generalize pU B (T + 4) 1 1 = C at *
  rw [TS_3 w2.2.1, if_pos ⟨kdT4 hT, by omega, by rw [szT4 hT]; omega⟩]
  simp only [bnd_s]
  have w3 : RZ T g (pU (pU (pU C (T + 4) 2 2) T 4 20) T 5 1) := RZ_w (RZ_w (RZ_w w2 (by omega)) (by omega)) (by omega)
  have w4 := RZ_I w3 (by rw [pU_s, u1_s])
  exact WN_i (IT_w (IT_w (IT_w (IT_w w4 (by omega)) (by omega)) (by omega)) (by omega))
theorem lx_49 (h : RZ T g G) (hT : isT T) : WN (fun _ H => IT T g H) (lT_reset_49 T fu 0 G) := by
  have hfu := fu_ge
  refine W_loop (W := WN (fun _ G => IT T g G)) (fun n (a : Int × gH) => lT_reset_49 T n a.1 a.2) (fun a => (8 - a.1).toNat) (fun a => (0 ≤ a.1 ∧ a.1 ≤ 8) ∧ RZ T g a.2) ?_ fu (0, G) ⟨by dsimp only; omega, h⟩ (by dsimp only; omega)
  clear h
  rintro n ⟨i, G⟩ hI ih
  have i0 : 0 ≤ i := hI.1.1
  have h : RZ T g G := hI.2
  show WN _ (bT_reset_49 T (lT_reset_49 T n) i G)
  rw [bT_reset_49]
  refine W_ite (fun hi => ?_) (fun _ => lx_68 h hT)
  rw [TS_2 h.2.1, if_pos ⟨kdT3 hT, i0, by rw [szT3 hT]; exact hi⟩, bnd_s, w32_r (by omega)]
  exact ih (i + 1, pU G (T + 3) i 0) ⟨by dsimp only; omega, RZ_w h (by omega)⟩ (by dsimp only; omega)
theorem tT_reset (h : TS g T) (hT : isT T) : WN (fun _ G => IT T g G) (fT_reset g T) := by
  have hfu := fu_ge
  rw [fT_reset, TS_1 h, if_pos (kdT2 hT), szT2 hT]
  refine W_loop (W := WN (fun _ G => IT T g G)) (fun n (a : Int × gH) => lT_reset_10 T (T + 2) 40 n a.1 a.2) (fun a => (40 - a.1).toNat) (fun a => (0 ≤ a.1 ∧ a.1 ≤ 40) ∧ TF T g a.2 ∧ TS a.2 T ∧ ∀ k, 0 ≤ k → k < a.1 → a.2 (pc T k) 2 = -1 ∧ ¬ a.2 (pc T k) 1 = 1) ?_ fu (0, g) ⟨by dsimp only; omega, TF_r, h, fun k k0 k1 => absurd k0 (by dsimp only at k1; omega)⟩ (by dsimp only; omega)
  clear h
  rintro n ⟨i, G⟩ hI ih
  have i0 : 0 ≤ i := hI.1.1
  have i1 : i ≤ 40 := hI.1.2
  have h1 : TF T g G := hI.2.1
  have h2 : TS G T := hI.2.2.1
  have h3 : ∀ k, 0 ≤ k → k < i → G (pc T k) 2 = -1 ∧ ¬ G (pc T k) 1 = 1 := hI.2.2.2
  show WN _ (bT_reset_10 T (T + 2) 40 (lT_reset_10 T (T + 2) 40 n) i G)
  rw [bT_reset_10]
  refine W_ite (fun hi => ?_) (fun hi => ?_)
  · have hi : 0 ≤ i ∧ i < 40 := ⟨i0, hi⟩
    have bi := pc_b (T := T) hi
    simp only [TS_p h2 hi, kdp hT hi, kdT2 hT, szT2 hT, hi.1, hi.2, if_true, true_and, and_self]
    refine W_bdN tP_become (fun _ A hA => ?_)
    obtain ⟨a1, a2, a3, a4⟩ := hA
    rw [w32_r (by omega)]
    refine ih (i + 1, A) ⟨by dsimp only; omega, fun x hx => (a1 x (by omega)).trans (h1 x hx), ?_, fun k k0 k1 => ?_⟩ (by dsimp only; omega)
    · refine TS_eq h2 (fun k _ _ => ?_) (a1 _ (by omega)) (fun k k0 k1 => ?_)
      · show A T k = _
        rw [a1 T (by omega)]
      · show A (pc T k) 0 = _
        by_cases e : k = i
        · rw [e]; exact a2
        · rw [a1 _ (pc_ne k0 i0 e)]
    · have k1 : k < i + 1 := k1
      show A (pc T k) 2 = -1 ∧ ¬ A (pc T k) 1 = 1
      by_cases e : k = i
      · rw [e, a3, a4]; omega
      · rw [a1 _ (pc_ne k0 i0 e)]; exact h3 k k0 (by omega)
  · rw [jT_reset_35, TS_0 h2, ← pc_0, if_pos (kdp hT (by omega))]
    have b0 := pc_b (T := T) (i := 0) (by omega)
    refine W_bdN tP_become (fun _ A hA => ?_)
    obtain ⟨a1, a2, a3, a4⟩ := hA
    refine lx_49 ⟨fun x hx => (a1 x (by omega)).trans (h1 x hx), TS_eq h2 (fun k _ _ => by rw [a1 T (by omega)]) (a1 _ (by omega)) (fun k k0 k1 => ?_), fun k k0 k1 => ?_⟩ hT
    · by_cases e : k = 0
      · rw [e]; exact a2
      · rw [a1 _ (pc_ne k0 (by omega) e)]
    · by_cases e : k = 0
      · rw [e, a3, a4]; omega
      · rw [a1 _ (pc_ne k0 (by omega) e)]; exact h3 k k0 (by omega)
/-- the object -/
def CS (g : gH) : Prop := (g 0 0 = 1 ∧ g 0 1 = 45 ∧ g 0 2 = 89 ∧ g 0 3 = 133 ∧ g 0 4 = 575 ∧ g 0 5 = 622) ∧ g 133 0 = 134 ∧ (∀ k, 0 ≤ k → k < 10 → g 134 k = 135 + 44 * k) ∧ g 575 0 = 576 ∧ g 575 1 = 578 ∧ g 576 0 = 577 ∧ g 622 0 = 623
def CInv (g : gH) : Prop := CS g ∧ (∀ T, isT T → TI g T) ∧ (0 ≤ g 576 1 ∧ g 576 1 ≤ 500)
/-- a call of the class that leaves the input's length alone -/
def CR (g G : gH) : Prop := CInv G ∧ (∀ x, 624 ≤ x → G x = g x) ∧ G 576 1 = g 576 1
theorem CR_r (h : CInv g) : CR g g := ⟨h, fun _ _ => rfl, rfl⟩
theorem CR_t (h1 : CR g G) (h2 : CR G H) : CR g H := ⟨h2.1, fun x hx => (h2.2.1 x hx).trans (h1.2.1 x hx), h2.2.2.trans h1.2.2⟩
theorem CR_IT (h : CR g G) (hT : isT T) (hi : IT T G H) : CR g H := by
  have o := out_Ts T hT
  have b := isT_b hT
  have b2 := (kd_Ts T hT).1.2.2.2.2.2.2.2.2.2
  obtain ⟨⟨⟨h1, h2, h3, h4, h5, h6, h7⟩, ht, hl⟩, hx, h8⟩ := h
  have e : ∀ x, ¬ (T ≤ x ∧ x < T + 44) → H x = G x := hi.2
  have e0 := e 0 (by omega)
  have e133 := e 133 (by omega)
  have e134 := e 134 (by omega)
  have e575 := e 575 (by omega)
  have e576 := e 576 (by omega)
  have e622 := e 622 (by omega)
  refine ⟨⟨⟨by rw [e0]; exact h1, by rw [e133]; exact h2, by rw [e134]; exact h3, by rw [e575]; exact h4, by rw [e575]; exact h5, by rw [e576]; exact h6, by rw [e622]; exact h7⟩, fun S hS => ?_, by rw [e576]; exact hl⟩, fun x x0 => (e x (by omega)).trans (hx x x0), by rw [e576]; exact h8⟩
  rcases dis_Ts T hT S hS with z | z
  · rw [← z]; exact hi.1
  · exact TI_F (ht S hS) (fun x x0 x1 => e x (by omega))
theorem CR_w (h : CR g G) (hab : (a = 0 ∧ b = 6) ∨ (a = 133 ∧ 1 ≤ b) ∨ (a = 622 ∧ 1 ≤ b) ∨ a = 623 ∨ a = 577 ∨ (a = 575 ∧ 2 ≤ b)) : CR g (pU G a b v) := by
  obtain ⟨⟨⟨h1, h2, h3, h4, h5, h6, h7⟩, ht, hl⟩, hx, h8⟩ := h
  have e : ∀ x y, ¬ (x = a ∧ y = b) → pU G a b v x y = G x y := fun x y z => by
    unfold pU
    rw [if_neg z]
  refine ⟨⟨⟨?_, ?_, fun k k0 k1 => ?_, ?_, ?_, ?_, ?_⟩, fun S hS => ?_, ?_⟩, fun x x0 => ?_, ?_⟩
  · rw [e 0 0 (by omega), e 0 1 (by omega), e 0 2 (by omega), e 0 3 (by omega), e 0 4 (by omega), e 0 5 (by omega)]; exact h1
  · rw [e _ _ (by omega)]; exact h2
  · rw [e _ _ (by omega)]; exact h3 k k0 k1
  · rw [e _ _ (by omega)]; exact h4
  · rw [e _ _ (by omega)]; exact h5
  · rw [e _ _ (by omega)]; exact h6
  · rw [e _ _ (by omega)]; exact h7
  · have o := out_Ts S hS
    have b := isT_b hS
    have b2 := (kd_Ts S hS).1.2.2.2.2.2.2.2.2.2
    exact TI_F (ht S hS) (fun x x0 x1 => pU_n (by omega))
  · rw [e _ _ (by omega)]; exact hl
  · rw [pU_n (by omega)]; exact hx x x0
  · rw [e _ _ (by omega)]; exact h8
theorem CR_T (h : CR g G) (hT : isT T) : TI G T := h.1.2.1 T hT
/-- a call of the class that leaves the input alone -/
def CO (g G : gH) : Prop := CInv G ∧ (∀ x, (575 ≤ x ∧ x ≤ 577) ∨ 624 ≤ x → G x = g x) ∧ G 576 1 = g 576 1
theorem CO_r (h : CInv g) : CO g g := ⟨h, fun _ _ => rfl, rfl⟩
theorem CO_t (h1 : CO g G) (h2 : CO G H) : CO g H := ⟨h2.1, fun x hx => (h2.2.1 x hx).trans (h1.2.1 x hx), h2.2.2.trans h1.2.2⟩
theorem CO_IT (h : CO g G) (hT : isT T) (hi : IT T G H) (hn : ¬ T = 578 := by omega) : CO g H := by
  have o := out_Ts T hT
  have b := isT_b hT
  have b2 := (kd_Ts T hT).1.2.2.2.2.2.2.2.2.2
  obtain ⟨⟨⟨h1, h2, h3, h4, h5, h6, h7⟩, ht, hl⟩, hx, h8⟩ := h
  have e : ∀ x, ¬ (T ≤ x ∧ x < T + 44) → H x = G x := hi.2
  have e0 := e 0 (by omega)
  have e133 := e 133 (by omega)
  have e134 := e 134 (by omega)
  have e575 := e 575 (by omega)
  have e576 := e 576 (by omega)
  have e622 := e 622 (by omega)
  refine ⟨⟨⟨by rw [e0]; exact h1, by rw [e133]; exact h2, by rw [e134]; exact h3, by rw [e575]; exact h4, by rw [e575]; exact h5, by rw [e576]; exact h6, by rw [e622]; exact h7⟩, fun S hS => ?_, by rw [e576]; exact hl⟩, fun x x0 => (e x (by omega)).trans (hx x x0), by rw [e576]; exact h8⟩
  rcases dis_Ts T hT S hS with z | z
  · rw [← z]; exact hi.1
  · exact TI_F (ht S hS) (fun x x0 x1 => e x (by omega))
theorem CO_w (h : CO g G) (hab : (a = 0 ∧ b = 6) ∨ (a = 133 ∧ 1 ≤ b) ∨ (a = 622 ∧ 1 ≤ b) ∨ a = 623) : CO g (pU G a b v) := by
  obtain ⟨⟨⟨h1, h2, h3, h4, h5, h6, h7⟩, ht, hl⟩, hx, h8⟩ := h
  have e : ∀ x y, ¬ (x = a ∧ y = b) → pU G a b v x y = G x y := fun x y z => by
    unfold pU
    rw [if_neg z]
  refine ⟨⟨⟨?_, ?_, fun k k0 k1 => ?_, ?_, ?_, ?_, ?_⟩, fun S hS => ?_, ?_⟩, fun x x0 => ?_, ?_⟩
  · rw [e 0 0 (by omega), e 0 1 (by omega), e 0 2 (by omega), e 0 3 (by omega), e 0 4 (by omega), e 0 5 (by omega)]; exact h1
  · rw [e _ _ (by omega)]; exact h2
  · rw [e _ _ (by omega)]; exact h3 k k0 k1
  · rw [e _ _ (by omega)]; exact h4
  · rw [e _ _ (by omega)]; exact h5
  · rw [e _ _ (by omega)]; exact h6
  · rw [e _ _ (by omega)]; exact h7
  · have o := out_Ts S hS
    have b := isT_b hS
    have b2 := (kd_Ts S hS).1.2.2.2.2.2.2.2.2.2
    exact TI_F (ht S hS) (fun x x0 x1 => pU_n (by omega))
  · rw [e _ _ (by omega)]; exact hl
  · rw [pU_n (by omega)]; exact hx x x0
  · rw [e _ _ (by omega)]; exact h8
theorem CO_T (h : CO g G) (hT : isT T) : TI G T := h.1.2.1 T hT
theorem CO_R (h : CO g G) : CR g G := ⟨h.1, fun x x0 => h.2.1 x (Or.inr x0), h.2.2⟩
theorem kd_133 : kd 133 = 0 := by decide +kernel
theorem kd_134 : kd 134 = 25 := by decide +kernel
theorem sz_134 : sz 134 = 10 := by decide +kernel
theorem tH_push (h : CO g G) : WN (fun _ H => CO g H ∧ ∀ x, x < 133 → H x = G x) (fH_push G 133 1) := by
  have l21 : ∀ K, CO g K → (∀ x, x < 133 → K x = G x) → 0 ≤ K 133 2 ∧ K 133 2 < 10 → WN (fun _ H => CO g H ∧ ∀ x, x < 133 → H x = G x) (jH_push_21 K 133 1) := by
    intro K h hx hk
    obtain ⟨⟨hs, -⟩, -⟩ := id h
    have hT := Tk hk
    rw [jH_push_21, hs.2.1, if_pos ⟨kd_134, hk.1, by rw [sz_134]; exact hk.2⟩, hs.2.2.1 _ hk.1 hk.2, if_pos (kdT hT)]
    refine W_bdN (tT_take (CO_T h hT).1 hT T1 (CO_T h T1) (by omega)) (fun _ A hA => ?_)
    have w := CO_IT h hT hA
    have e : ∀ x, x < 133 → A x = G x := fun x x1 => (hA.2 x (by omega)).trans (hx x x1)
    rw [bnd_s]
    refine W_ite (fun _ => ?_) (fun _ => WN_i ⟨CO_w w (by omega), fun x x1 => (pU_n (by omega)).trans (e x x1)⟩)
    rw [bnd_s]
    exact WN_i ⟨CO_w (CO_w w (by omega)) (by omega), fun x x1 => (pU_n (by omega)).trans ((pU_n (by omega)).trans (e x x1))⟩
  have l16 : WN (fun _ H => CO g H ∧ ∀ x, x < 133 → H x = G x) (jH_push_16 G 133 1) := by
    rw [jH_push_16, bnd_s]
    exact l21 _ (CO_w h (by omega)) (fun x x1 => pU_n (by omega)) (by rw [pU_s, u1_s]; omega)
  rw [fH_push]
  exact W_ite (fun _ => l16) (fun _ => W_ite (fun _ => l21 G h (fun _ _ => rfl) (by omega)) (fun _ => l16))
theorem tH_pop (h : CO g G) : WN (fun _ H => CO g H) (fH_pop G 133 1) := by
  have l31 : ∀ G, CO g G → 1 ≤ G 133 2 ∧ G 133 2 ≤ 10 → WN (fun _ H => CO g H) (jH_pop_31 G 133 1) := by
    intro G h hk
    rw [jH_pop_31, bnd_s, bnd_s, w32_r (by omega)]
    have w := CO_w (a := 133) (b := 1) (v := w32 (pU G 133 2 (G 133 2 - 1) 133 1 - 1)) (CO_w (a := 133) (b := 2) (v := G 133 2 - 1) h (by omega)) (by omega)
    have e : pU (pU G 133 2 (G 133 2 - 1)) 133 1 (w32 (pU G 133 2 (G 133 2 - 1) 133 1 - 1)) 133 2 = G 133 2 - 1 := by rw [pU_y (by omega), pU_s, u1_s]
    generalize pU (pU G 133 2 (G 133 2 - 1)) 133 1 (w32 (pU G 133 2 (G 133 2 - 1) 133 1 - 1)) = A at *
    obtain ⟨⟨hs, -⟩, -⟩ := id w
    have hT := Tk (k := G 133 2 - 1) (by omega)
    rw [hs.2.1, e, if_pos ⟨kd_134, by omega, by rw [sz_134]; omega⟩, hs.2.2.1 _ (by omega) (by omega), if_pos (kdT T1)]
    exact W_bdN (tT_take (CO_T w T1).1 T1 hT (CO_T w hT) (by omega)) (fun _ B hB => WN_i (CO_IT w T1 hB))
  have l25 : WN (fun _ H => CO g H) (jH_pop_25 G 133 1) := by
    rw [jH_pop_25, bnd_s]
    exact l31 _ (CO_w h (by omega)) (by rw [pU_s, u1_s]; omega)
  rw [fH_pop]
  exact W_ite (fun _ => WN_i h) (fun _ => W_ite (fun _ => W_ite (fun _ => l25) (fun _ => l31 G h (by omega))) (fun _ => l25))
end CLS9
