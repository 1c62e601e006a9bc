/-! ===== the class's tree against the row: what keeps it (own work) ===== -/
theorem wl_0 : ∀ d : Fin 8, wl 0 (d.val : Int) = -1 := by decide +kernel
section PAR5B
variable {C C' : gH → (Int → Int) → Prop} {g g' G H K A : gH} {r r' : Int → Int} {a b c d e i j k l m n p q s t u v w x y z S : Int}
theorem f8 (h : 0 ≤ d ∧ d < 8) : ∃ f : Fin 8, d = (f.val : Int) := ⟨⟨d.toNat, by omega⟩, by show d = ((d.toNat : Nat) : Int); omega⟩
theorem kids_eq (e0 : r' 0 = r 0) (e : ∀ j, 0 ≤ j → j < r 0 → r' (140 + j) = r (140 + j) ∧ r' (60 + j) = r (60 + j)) : kids r' i s = kids r i s := by
  unfold kids
  rw [e0]
  refine cn_congr _ _ (fun j j0 j1 => ?_)
  unfold ic
  rw [(e j j0 (by omega)).1, (e j j0 (by omega)).2]
/-- a process of which the row still says the same -/
theorem PE_row {f : Int → Int} (h : PE f r i) (hi : 0 ≤ i ∧ i < 40) (h1 : r 1 ≤ 40) (e1 : r' 1 = r 1) (e : ∀ k, (19 ≤ k ∧ k < 59) ∨ k = 100 + i ∨ k = 140 + i ∨ k = 180 + i ∨ k = 220 + i ∨ k = 260 + i ∨ k = 300 + i ∨ k = 340 + i ∨ k = 380 + i ∨ k = 420 + i ∨ (460 + 8 * i ≤ k ∧ k < 468 + 8 * i) → r' k = r k) (ek : kids r' i 0 = kids r i 0) : PE f r' i := by
  obtain ⟨⟨a1, a2, a3, a4, a5, a6, a7, a8, a9⟩, b, c, d⟩ := h
  refine ⟨⟨?_, ?_, ?_, ?_, ?_, ?_, ?_, ?_, ?_⟩, fun x x0 x1 => ?_, ?_, fun z => ?_⟩
  · rw [e _ (by omega)]; exact a1
  · rw [e _ (by omega)]; exact a2
  · rw [e _ (by omega)]; exact a3
  · rw [e _ (by omega)]; exact a4
  · rw [e _ (by omega)]; exact a5
  · rw [e _ (by omega)]; exact a6
  · rw [e _ (by omega)]; exact a7
  · rw [e _ (by omega)]; exact a8
  · rw [e _ (by omega)]; exact a9
  · rw [e _ (by omega)]; exact b x x0 x1
  · rw [ek]; exact c
  · rw [e _ (by omega)] at z
    obtain ⟨d1, d2⟩ := d z
    rw [e1, e _ (by omega)]
    exact ⟨d1, d2⟩
/-- the row's head alone differs -/
theorem CP_hd (h : CP S G r) (hr : 0 ≤ r 0 ∧ r 0 ≤ 40) (h1 : r 1 ≤ 40) (e : ∀ k, k = 0 ∨ k = 1 ∨ (19 ≤ k ∧ k < 59) ∨ 60 ≤ k → r' k = r k) (ec : ∀ x, S < x → x < S + 44 → ¬ x = S + 3 → ¬ x = S + 4 → H x = G x)
    (c1 : H S 5 = r 0 ∧ H S 6 = r 1 ∧ H S 7 = r' 2 ∧ H S 8 = r' 3 ∧ H S 9 = r' 4 ∧ H S 4 = r' 59) (c2 : ∀ i, 0 ≤ i → i < 5 → H (S + 4) i = if i < r' 5 then r' (6 + i) else -1) (c3 : ∀ d, 0 ≤ d → d < 8 → H (S + 3) d = r' (11 + d)) (hu : RU r') : CP S H r' := by
  obtain ⟨-, -, -, h4, h5, h6, -⟩ := h
  have ep : ∀ i, 0 ≤ i → i < 40 → H (pc S i) = G (pc S i) := fun i i0 i1 => by
    have := pc_b (T := S) ⟨i0, i1⟩
    exact ec _ this.1 this.2.1 this.2.2.2.1 this.2.2.2.2
  have e0 : r' 0 = r 0 := e 0 (by omega)
  have e1 : r' 1 = r 1 := e 1 (by omega)
  refine ⟨by rw [e0, e1]; exact c1, c2, c3, fun i i0 i1 => ?_, fun i i0 i1 => ?_, fun i i0 i1 => ?_, hu⟩
  · rw [e0] at i1
    rw [ep i i0 (by omega)]
    exact PE_row (h4 i i0 i1) (by omega) h1 e1 (fun k hk => e k (by omega)) (kids_eq e0 (fun j j0 j1 => ⟨e _ (by omega), e _ (by omega)⟩))
  · rw [e0] at i1
    rw [ep i (by omega) (by omega), e _ (by omega)]; exact h5 i i0 i1
  · rw [e0] at i0
    rw [ep i (by omega) i1]; exact h6 i i0 i1
/-- a duty's holder -/
theorem CP_d (h : CP S G r) (hr : 0 ≤ r 0 ∧ r 0 ≤ 40) (h1 : r 1 ≤ 40) (hd : 0 ≤ d ∧ d < 8) : CP S (pU G (S + 3) d v) (u1 r (11 + d) v) := by
  have h0 := h
  obtain ⟨⟨p1, p2, p3, p4, p5, p6⟩, q2, q3, -⟩ := h0
  refine CP_hd h hr h1 (fun k hk => u1_n (by omega)) (fun x x0 x1 x2 _ => pU_n x2) ?_ (fun i i0 i1 => ?_) (fun j j0 j1 => ?_) (RU_e h.2.2.2.2.2.2 (fun k k0 k1 => u1_n (by omega)))
  · rw [pU_n (show ¬ S = S + 3 by omega), u1_n (by omega), u1_n (by omega), u1_n (by omega), u1_n (by omega)]
    exact ⟨p1, p2, p3, p4, p5, p6⟩
  · rw [pU_n (by omega), u1_n (by omega), u1_n (by omega)]
    exact q2 i i0 i1
  · rw [pU_s]
    by_cases ej : j = d
    · rw [ej, u1_s, u1_s]
    · rw [u1_n ej, u1_n (by omega)]
      exact q3 j j0 j1
/-- one place of one process, in both -/
theorem pf_v (h : G (pc S i) y = r (c + i)) (hi : 0 ≤ i) (hp : 0 ≤ p) (h1 : i = p → y = a → c = b) (h2 : ¬ (i = p ∧ y = a) → ¬ c + i = b + p) : pU G (pc S p) a v (pc S i) y = u1 r (b + p) v (c + i) := by
  by_cases e : i = p
  · subst e
    by_cases e2 : y = a
    · rw [h1 rfl e2, e2, pU_s, u1_s, u1_s]
    · rw [pU_y e2, u1_n (h2 (fun z => e2 z.2))]; exact h
  · rw [pU_n (pc_ne hi hp e), u1_n (h2 (fun z => e z.1))]; exact h
/-- .. its place told against the written one -/
theorem pf_w (hb : (y = a ∧ c = b) ∨ (¬ y = a ∧ (c + 40 ≤ b ∨ b + 40 ≤ c))) (h : G (pc S i) y = r (c + i)) (hi : 0 ≤ i ∧ i < 40) (hp : 0 ≤ p ∧ p < 40) : pU G (pc S p) a v (pc S i) y = u1 r (b + p) v (c + i) :=
  pf_v h hi.1 hp.1 (fun _ z => by rcases hb with x | x; exact x.2; exact absurd z x.1) (fun z => by
    rcases hb with x | x
    · intro w
      exact z ⟨by omega, x.1⟩
    · omega)
theorem CP_pf (h : CP S G r) (hr : 0 ≤ r 0 ∧ r 0 ≤ 40) (h1 : r 1 ≤ 40) (hp : 0 ≤ p ∧ p < r 0) (hab : (a = 4 ∧ b = 100) ∨ (a = 5 ∧ b = 180) ∨ (a = 6 ∧ b = 220) ∨ (a = 7 ∧ b = 260) ∨ (a = 8 ∧ b = 340) ∨ (a = 9 ∧ b = 300) ∨ (a = 11 ∧ b = 380) ∨ (a = 12 ∧ b = 420)) : CP S (pU G (pc S p) a v) (u1 r (b + p) v) := by
  obtain ⟨h0, h2, h3, h4, h5, h6, h7⟩ := h
  have hb : ((100 ≤ b ∧ b ≤ 420) ∧ (b + 40 ≤ 140 ∨ 180 ≤ b)) ∧ ¬ 14 = a ∧ ¬ 3 = a ∧ ¬ 10 = a ∧ ¬ 2 = a ∧ ¬ 1 = a := by
    rcases hab with ⟨rfl, rfl⟩ | ⟨rfl, rfl⟩ | ⟨rfl, rfl⟩ | ⟨rfl, rfl⟩ | ⟨rfl, rfl⟩ | ⟨rfl, rfl⟩ | ⟨rfl, rfl⟩ | ⟨rfl, rfl⟩ <;> decide
  obtain ⟨⟨b1, b2⟩, n14, n3, n10, n2, n1⟩ := hb
  have q1 : ((1 : Int) = a ∧ (140 : Int) = b) ∨ (¬ (1 : Int) = a ∧ ((140 : Int) + 40 ≤ b ∨ b + 40 ≤ (140 : Int))) := by
    rcases hab with ⟨rfl, rfl⟩ | ⟨rfl, rfl⟩ | ⟨rfl, rfl⟩ | ⟨rfl, rfl⟩ | ⟨rfl, rfl⟩ | ⟨rfl, rfl⟩ | ⟨rfl, rfl⟩ | ⟨rfl, rfl⟩ <;> decide
  have q2 : ((4 : Int) = a ∧ (100 : Int) = b) ∨ (¬ (4 : Int) = a ∧ ((100 : Int) + 40 ≤ b ∨ b + 40 ≤ (100 : Int))) := by
    rcases hab with ⟨rfl, rfl⟩ | ⟨rfl, rfl⟩ | ⟨rfl, rfl⟩ | ⟨rfl, rfl⟩ | ⟨rfl, rfl⟩ | ⟨rfl, rfl⟩ | ⟨rfl, rfl⟩ | ⟨rfl, rfl⟩ <;> decide
  have q3 : ((5 : Int) = a ∧ (180 : Int) = b) ∨ (¬ (5 : Int) = a ∧ ((180 : Int) + 40 ≤ b ∨ b + 40 ≤ (180 : Int))) := by
    rcases hab with ⟨rfl, rfl⟩ | ⟨rfl, rfl⟩ | ⟨rfl, rfl⟩ | ⟨rfl, rfl⟩ | ⟨rfl, rfl⟩ | ⟨rfl, rfl⟩ | ⟨rfl, rfl⟩ | ⟨rfl, rfl⟩ <;> decide
  have q4 : ((6 : Int) = a ∧ (220 : Int) = b) ∨ (¬ (6 : Int) = a ∧ ((220 : Int) + 40 ≤ b ∨ b + 40 ≤ (220 : Int))) := by
    rcases hab with ⟨rfl, rfl⟩ | ⟨rfl, rfl⟩ | ⟨rfl, rfl⟩ | ⟨rfl, rfl⟩ | ⟨rfl, rfl⟩ | ⟨rfl, rfl⟩ | ⟨rfl, rfl⟩ | ⟨rfl, rfl⟩ <;> decide
  have q5 : ((7 : Int) = a ∧ (260 : Int) = b) ∨ (¬ (7 : Int) = a ∧ ((260 : Int) + 40 ≤ b ∨ b + 40 ≤ (260 : Int))) := by
    rcases hab with ⟨rfl, rfl⟩ | ⟨rfl, rfl⟩ | ⟨rfl, rfl⟩ | ⟨rfl, rfl⟩ | ⟨rfl, rfl⟩ | ⟨rfl, rfl⟩ | ⟨rfl, rfl⟩ | ⟨rfl, rfl⟩ <;> decide
  have q6 : ((8 : Int) = a ∧ (340 : Int) = b) ∨ (¬ (8 : Int) = a ∧ ((340 : Int) + 40 ≤ b ∨ b + 40 ≤ (340 : Int))) := by
    rcases hab with ⟨rfl, rfl⟩ | ⟨rfl, rfl⟩ | ⟨rfl, rfl⟩ | ⟨rfl, rfl⟩ | ⟨rfl, rfl⟩ | ⟨rfl, rfl⟩ | ⟨rfl, rfl⟩ | ⟨rfl, rfl⟩ <;> decide
  have q7 : ((9 : Int) = a ∧ (300 : Int) = b) ∨ (¬ (9 : Int) = a ∧ ((300 : Int) + 40 ≤ b ∨ b + 40 ≤ (300 : Int))) := by
    rcases hab with ⟨rfl, rfl⟩ | ⟨rfl, rfl⟩ | ⟨rfl, rfl⟩ | ⟨rfl, rfl⟩ | ⟨rfl, rfl⟩ | ⟨rfl, rfl⟩ | ⟨rfl, rfl⟩ | ⟨rfl, rfl⟩ <;> decide
  have q8 : ((11 : Int) = a ∧ (380 : Int) = b) ∨ (¬ (11 : Int) = a ∧ ((380 : Int) + 40 ≤ b ∨ b + 40 ≤ (380 : Int))) := by
    rcases hab with ⟨rfl, rfl⟩ | ⟨rfl, rfl⟩ | ⟨rfl, rfl⟩ | ⟨rfl, rfl⟩ | ⟨rfl, rfl⟩ | ⟨rfl, rfl⟩ | ⟨rfl, rfl⟩ | ⟨rfl, rfl⟩ <;> decide
  have q9 : ((12 : Int) = a ∧ (420 : Int) = b) ∨ (¬ (12 : Int) = a ∧ ((420 : Int) + 40 ≤ b ∨ b + 40 ≤ (420 : Int))) := by
    rcases hab with ⟨rfl, rfl⟩ | ⟨rfl, rfl⟩ | ⟨rfl, rfl⟩ | ⟨rfl, rfl⟩ | ⟨rfl, rfl⟩ | ⟨rfl, rfl⟩ | ⟨rfl, rfl⟩ | ⟨rfl, rfl⟩ <;> decide
  clear hab
  have bp := pc_b (T := S) (i := p) (by omega)
  have e : ∀ k, ¬ k = b + p → u1 r (b + p) v k = r k := fun k hk => u1_n hk
  have e0 : u1 r (b + p) v 0 = r 0 := e 0 (by clear q1 q2 q3 q4 q5 q6 q7 q8 q9; omega)
  have ek : ∀ i, kids (u1 r (b + p) v) i 0 = kids r i 0 := by
    clear q1 q2 q3 q4 q5 q6 q7 q8 q9
    exact fun i => kids_eq e0 (fun j j0 j1 => ⟨e _ (by omega), e _ (by omega)⟩)
  refine ⟨?_, fun i i0 i1 => ?_, fun d d0 d1 => ?_, fun i i0 i1 => ?_, fun i i0 i1 => ?_, fun i i0 i1 => ?_, ?_⟩
  · clear q1 q2 q3 q4 q5 q6 q7 q8 q9
    rw [pU_n (show ¬ S = pc S p by omega), e0, e 1 (by omega), e 2 (by omega), e 3 (by omega), e 4 (by omega), e 59 (by omega)]
    exact h0
  · clear q1 q2 q3 q4 q5 q6 q7 q8 q9
    rw [pU_n (by omega), e 5 (by omega), e _ (by omega)]
    exact h2 i i0 i1
  · clear q1 q2 q3 q4 q5 q6 q7 q8 q9
    rw [pU_n (by omega), e _ (by omega)]
    exact h3 d d0 d1
  · rw [e0] at i1
    obtain ⟨⟨a1, a2, a3, a4, a5, a6, a7, a8, a9⟩, w1, w2, w3⟩ := h4 i i0 i1
    have hi : 0 ≤ i ∧ i < 40 := ⟨i0, by clear q1 q2 q3 q4 q5 q6 q7 q8 q9; omega⟩
    have hp4 : 0 ≤ p ∧ p < 40 := ⟨hp.1, by clear q1 q2 q3 q4 q5 q6 q7 q8 q9; omega⟩
    refine ⟨⟨pf_w q1 a1 hi hp4, pf_w q2 a2 hi hp4, pf_w q3 a3 hi hp4, pf_w q4 a4 hi hp4, pf_w q5 a5 hi hp4, pf_w q6 a6 hi hp4, pf_w q7 a7 hi hp4, pf_w q8 a8 hi hp4, pf_w q9 a9 hi hp4⟩, fun d d0 d1 => ?_, ?_, fun z => ?_⟩
    · clear q1 q2 q3 q4 q5 q6 q7 q8 q9
      rw [pU_y n14, e _ (by omega)]; exact w1 d d0 d1
    · rw [pU_y n3, ek]; exact w2
    · clear q1 q2 q3 q4 q5 q6 q7 q8 q9
      rw [e _ (by omega)] at z
      have w3 := w3 z
      rw [pU_y n10, e 1 (by omega), e _ (by omega)]
      exact w3
  · clear q1 q2 q3 q4 q5 q6 q7 q8 q9
    rw [e0] at i1
    rw [pU_y n2, e _ (by omega)]
    exact h5 i i0 i1
  · rw [e0] at i0
    rw [pU_y n1]
    exact h6 i i0 i1
  · clear q1 q2 q3 q4 q5 q6 q7 q8 q9
    exact RU_e h7 (fun k k0 k1 => e k (by omega))
theorem CP_p0 (h : CP S G r) (hr : 1 ≤ r 0 ∧ r 0 ≤ 40) (h1 : r 1 ≤ 40) (hab : (a = 4 ∧ b = 100) ∨ (a = 6 ∧ b = 220)) : CP S (pU G (S + 1) a v) (u1 r b v) := by
  have := CP_pf (p := 0) (a := a) (b := b) (v := v) h (by omega) h1 (by omega) (by rcases hab with z | z; exact Or.inl z; exact Or.inr (Or.inr (Or.inl z)))
  rw [pc_0, show b + 0 = b by omega] at this
  exact this
/-- a process's wills -/
theorem CP_wl (h : CP S G r) (hr : 0 ≤ r 0 ∧ r 0 ≤ 40) (h1 : r 1 ≤ 40) (hp : 0 ≤ p ∧ p < r 0) (hd : 0 ≤ d ∧ d < 8) (hw : ∀ j, 0 ≤ j → j < 8 → wl w j = if j = d then v else wl (G (pc S p) 14) j) : CP S (pU G (pc S p) 14 w) (u1 r (460 + 8 * p + d) v) := by
  obtain ⟨h0, h2, h3, h4, h5, h6, h7⟩ := h
  have bp := pc_b (T := S) (i := p) (by omega)
  have e : ∀ k, ¬ k = 460 + 8 * p + d → u1 r (460 + 8 * p + d) v k = r k := fun k hk => u1_n hk
  have e0 : u1 r (460 + 8 * p + d) v 0 = r 0 := e 0 (by omega)
  have ek : ∀ i, kids (u1 r (460 + 8 * p + d) v) i 0 = kids r i 0 := fun i => kids_eq e0 (fun j j0 j1 => ⟨e _ (by omega), e _ (by omega)⟩)
  refine ⟨?_, fun i i0 i1 => ?_, fun j j0 j1 => ?_, fun i i0 i1 => ?_, fun i i0 i1 => ?_, fun i i0 i1 => ?_, RU_e h7 (fun k k0 k1 => e k (by omega))⟩
  · rw [pU_n (show ¬ S = pc S p by omega), e0, e 1 (by omega), e 2 (by omega), e 3 (by omega), e 4 (by omega), e 59 (by omega)]
    exact h0
  · rw [pU_n (by omega), e 5 (by omega), e _ (by omega)]
    exact h2 i i0 i1
  · rw [pU_n (by omega), e _ (by omega)]
    exact h3 j j0 j1
  · rw [e0] at i1
    obtain ⟨⟨a1, a2, a3, a4, a5, a6, a7, a8, a9⟩, w1, w2, w3⟩ := h4 i i0 i1
    have ey : ∀ y, ¬ y = 14 → pU G (pc S p) 14 w (pc S i) y = G (pc S i) y := fun y hy => pU_y hy
    refine ⟨⟨?_, ?_, ?_, ?_, ?_, ?_, ?_, ?_, ?_⟩, fun j j0 j1 => ?_, ?_, fun z => ?_⟩
    · rw [ey _ (by omega), e _ (by omega)]; exact a1
    · rw [ey _ (by omega), e _ (by omega)]; exact a2
    · rw [ey _ (by omega), e _ (by omega)]; exact a3
    · rw [ey _ (by omega), e _ (by omega)]; exact a4
    · rw [ey _ (by omega), e _ (by omega)]; exact a5
    · rw [ey _ (by omega), e _ (by omega)]; exact a6
    · rw [ey _ (by omega), e _ (by omega)]; exact a7
    · rw [ey _ (by omega), e _ (by omega)]; exact a8
    · rw [ey _ (by omega), e _ (by omega)]; exact a9
    · have w1 := w1 j j0 j1
      by_cases ei : i = p
      · subst ei
        rw [pU_s, u1_s, hw j j0 j1]
        by_cases ej : j = d
        · rw [if_pos ej, ej, u1_s]
        · rw [if_neg ej, e _ (by omega)]; exact w1
      · rw [pU_n (pc_ne i0 hp.1 ei), e _ (by omega)]; exact w1
    · rw [ey _ (by omega), ek]; exact w2
    · rw [e _ (by omega)] at z
      have w3 := w3 z
      rw [ey _ (by omega), e 1 (by omega), e _ (by omega)]
      exact w3
  · rw [e0] at i1
    rw [pU_y (by omega), e _ (by omega)]
    exact h5 i i0 i1
  · rw [e0] at i0
    rw [pU_y (by omega)]
    exact h6 i i0 i1
/-! one that comes -/
theorem vP_become : ∃ B, fP_become g c a b d w = some (0, B) ∧ (∀ x, ¬ x = c → B x = g x) ∧ ((B c 0 = g c 0 ∧ B c 1 = a ∧ B c 2 = -1 ∧ B c 3 = 0) ∧ (B c 4 = b ∧ B c 5 = d ∧ B c 6 = w ∧ B c 7 = -1) ∧ (B c 8 = 0 ∧ B c 9 = -1 ∧ B c 10 = -1 ∧ B c 11 = 0) ∧ (B c 12 = -1 ∧ B c 13 = 0 ∧ B c 14 = 0)) := by
  rw [fP_become]
  simp only [bnd_s]
  refine ⟨_, rfl, fun x hx => by simp only [pU_n hx], ⟨?_, ?_, ?_, ?_⟩, ⟨?_, ?_, ?_, ?_⟩, ⟨?_, ?_, ?_, ?_⟩, ⟨?_, ?_, ?_⟩⟩
  all_goals simp (disch := omega) only [pU_s, u1_s, u1_n]
theorem vT_arrive (h : TI g S) (hT : isT S) (hj : 0 ≤ j ∧ j < g S 5) (hn : g S 5 < 40) : ∃ G, fT_arrive g S (pc S j) a b d = some (pc S (g S 5), G) ∧ IT S g G ∧ G S = u1 (g S) 5 (g S 5 + 1) ∧ (∀ x, ¬ x = S → ¬ x = pc S (g S 5) → ¬ x = pc S j → G x = g x) ∧ G (pc S j) = u1 (g (pc S j)) 3 (w32 (g (pc S j) 3 + 1)) ∧ ((G (pc S (g S 5)) 1 = 0 ∧ G (pc S (g S 5)) 2 = pc S j ∧ G (pc S (g S 5)) 3 = 0) ∧ (G (pc S (g S 5)) 4 = a ∧ G (pc S (g S 5)) 5 = b ∧ G (pc S (g S 5)) 6 = d ∧ G (pc S (g S 5)) 7 = -1) ∧ (G (pc S (g S 5)) 8 = 0 ∧ G (pc S (g S 5)) 9 = -1 ∧ G (pc S (g S 5)) 10 = -1 ∧ G (pc S (g S 5)) 11 = 0) ∧ (G (pc S (g S 5)) 12 = -1 ∧ G (pc S (g S 5)) 13 = 0 ∧ G (pc S (g S 5)) 14 = 0)) := by
  obtain ⟨v, G, e, hI, -⟩ := tT_arrive (a := a) (b := b) (d := d) h hT hj
  have hc := h.2.1
  have bn := pc_b (T := S) (i := g S 5) (by omega)
  have bj := pc_b (T := S) (i := j) (by omega)
  have jn : ¬ pc S j = pc S (g S 5) := pc_ne hj.1 (by omega) (by omega)
  have e0 := e
  rw [fT_arrive, TS_1 h.1, if_neg (by omega), if_pos hn, if_pos ⟨kdT2 hT, by omega, by rw [szT2 hT]; exact hn⟩, bnd_s, TS_p h.1 ⟨by omega, hn⟩, if_pos (kdp hT ⟨by omega, hn⟩), w32_r (by omega)] at e
  obtain ⟨B, eB, b1, ⟨b2, b3, b4, b5⟩, ⟨b6, b7, b8, b9⟩, ⟨b10, b11, b12, b13⟩, ⟨b14, b15, b16⟩⟩ := vP_become (g := pU g S 5 (g S 5 + 1)) (c := pc S (g S 5)) (a := 0) (b := a) (d := b) (w := d)
  rw [eB, bdN_s, fP_putUnder, b4, if_pos (show (-1 : Int) < 0 by omega), bnd_s, if_pos (kdp hT (show 0 ≤ j ∧ j < 40 by omega)), bnd_s, bdN_s] at e
  have e := Prod.mk.inj (Option.some.inj e)
  rw [← e.1] at e0
  refine ⟨G, e0, hI, ?_⟩
  rw [← e.2]
  have bN : B (pc S j) = g (pc S j) := by rw [b1 _ jn, pU_n (by omega)]
  refine ⟨?_, fun x x1 x2 x3 => ?_, ?_, ?_⟩
  · rw [pU_n (by omega), pU_n (by omega), b1 S (by omega), pU_s]
  · rw [pU_n x3, pU_n x2, b1 x x2, pU_n x1]
  · rw [pU_s, pU_n jn, bN]
  · rw [pU_n (fun z => jn z.symm), pU_s, u1_s]
    simp (disch := omega) only [u1_n]
    exact ⟨⟨b3, trivial, b5⟩, ⟨b6, b7, b8, b9⟩, ⟨b10, b11, b12, b13⟩, ⟨b14, b15, b16⟩⟩
theorem cn_z {P : Int → Bool} : ∀ (m : Nat) (k : Int), (∀ j, k ≤ j → j < k + m → P j = false) → cn P m k = 0 := by
  intro m
  induction m with
  | zero => intro k _; rfl
  | succ m ih =>
    intro k h
    rw [cn_s, h k (by omega) (by omega), ih (k + 1) (fun j j0 j1 => h j (by omega) (by omega))]
    rfl
theorem cmR_m (hM : 1 ≤ r 0 ∧ r 0 < 40) : cmR r a b c d (300 + r 0) = -1 ∧ cmR r a b c d (340 + r 0) = 0 ∧ cmR r a b c d (380 + r 0) = 0 ∧ cmR r a b c d (420 + r 0) = -1 ∧ ∀ j, 0 ≤ j → j < 8 → cmR r a b c d (460 + 8 * r 0 + j) = -1 := by
  unfold cmR
  refine ⟨?_, ?_, ?_, ?_, fun j j0 j1 => ?_⟩
  · simp (disch := omega) only [eq_f, le_f, false_and, ↓reduceIte]
  · simp (disch := omega) only [eq_f, le_f, false_and, ↓reduceIte]
  · simp (disch := omega) only [eq_f, le_f, false_and, ↓reduceIte]
  · simp (disch := omega) only [eq_f, le_f, false_and, ↓reduceIte]
  · rw [if_neg (by omega), if_pos (by omega)]
theorem kids_cm (hw : WB r) (hr : r 0 < 40) (hi : 0 ≤ i) : kids (cmR r j a b d) i 0 = kids r i 0 + if i = j then 1 else 0 := by
  have hM : 1 ≤ r 0 ∧ r 0 < 40 := ⟨hw.1.1, hr⟩
  obtain ⟨n1, n2, n3, -⟩ := cmR_n (r := r) (a := j) (c := a) (gp := b) (b := d) hM
  unfold kids
  rw [cmR_0, show (r 0 + 1).toNat = (r 0).toNat + 1 by omega, cn_one, show (0 : Int) + ((r 0).toNat : Int) = r 0 by omega]
  have e1 : cn (fun c => ic (cmR r j a b d) c i 0) (r 0).toNat 0 = cn (fun c => ic r c i 0) (r 0).toNat 0 := by
    refine cn_congr _ _ (fun x x0 x1 => ?_)
    unfold ic
    rw [cmR_o hM (by omega), cmR_o hM (by omega)]
  rw [e1]
  congr 1
  unfold ic
  rw [n1, n3]
  by_cases c : i = j
  · rw [if_pos c, if_pos (decide_eq_true ⟨rfl, c.symm, by omega⟩)]
  · rw [if_neg c, if_neg (fun z => c (of_decide_eq_true z).2.1.symm)]
theorem kids_n (hw : WB r) : kids r (r 0) 0 = 0 := by
  refine cn_z _ _ (fun x x0 x1 => decide_eq_false (fun z => ?_))
  have := hw.2.1 x (by omega) (by omega)
  omega
theorem CP_cm (h : CP S G r) (hw : WB r) (hr : r 0 < 40) (h1 : r 1 ≤ 40) (hj : 0 ≤ j ∧ j < r 0) (hT : H S = u1 (G S) 5 (r 0 + 1)) (ho : ∀ x, ¬ x = S → ¬ x = pc S (r 0) → ¬ x = pc S j → H x = G x) (hk : H (pc S j) = u1 (G (pc S j)) 3 (G (pc S j) 3 + 1)) (f1 : H (pc S (r 0)) 1 = 0 ∧ H (pc S (r 0)) 2 = pc S j ∧ H (pc S (r 0)) 3 = 0) (f2 : H (pc S (r 0)) 4 = a ∧ H (pc S (r 0)) 5 = b ∧ H (pc S (r 0)) 6 = d ∧ H (pc S (r 0)) 7 = -1) (f3 : H (pc S (r 0)) 8 = 0 ∧ H (pc S (r 0)) 9 = -1 ∧ H (pc S (r 0)) 10 = -1 ∧ H (pc S (r 0)) 11 = 0) (f4 : H (pc S (r 0)) 12 = -1 ∧ H (pc S (r 0)) 13 = 0 ∧ H (pc S (r 0)) 14 = 0) : CP S H (cmR r j a b d) := by
  have hM : 1 ≤ r 0 ∧ r 0 < 40 := ⟨hw.1.1, hr⟩
  obtain ⟨⟨p1, p2, p3, p4, p5, p6⟩, h2, h3, h4, h5, h6, h7⟩ := h
  obtain ⟨n1, n2, n3, n4, n5, n6⟩ := cmR_n (r := r) (a := j) (c := a) (gp := b) (b := d) hM
  obtain ⟨m1, m2, m3, m4, m5⟩ := cmR_m (r := r) (a := j) (b := a) (c := b) (d := d) hM
  have o := fun k => cmR_o (r := r) (a := j) (c := a) (gp := b) (b := d) (k := k) hM
  have bn := pc_b (T := S) (i := r 0) (by omega)
  have bj := pc_b (T := S) (i := j) (by omega)
  have ej : ∀ y, ¬ y = 3 → H (pc S j) y = G (pc S j) y := fun y hy => by rw [hk, u1_n hy]
  have ec : ∀ i, 0 ≤ i → i < 40 → ¬ i = r 0 → ∀ y, ¬ (i = j ∧ y = 3) → H (pc S i) y = G (pc S i) y := fun i i0 i1 i2 y hy => by
    have bi := pc_b (T := S) (i := i) ⟨i0, i1⟩
    by_cases e : i = j
    · subst e
      exact ej y (fun z => hy ⟨rfl, z⟩)
    · rw [ho _ (by omega) (pc_ne i0 (by omega) i2) (pc_ne i0 hj.1 e)]
  refine ⟨?_, fun i i0 i1 => ?_, fun x x0 x1 => ?_, fun i i0 i1 => ?_, fun i i0 i1 => ?_, fun i i0 i1 => ?_, RU_e h7 (fun k k0 k1 => o k (by omega))⟩
  · rw [hT, u1_s, u1_n (by omega), u1_n (by omega), u1_n (by omega), u1_n (by omega), u1_n (by omega), cmR_0, o 1 (by omega), o 2 (by omega), o 3 (by omega), o 4 (by omega), o 59 (by omega)]
    exact ⟨rfl, p2, p3, p4, p5, p6⟩
  · rw [ho _ (by omega) (by omega) (by omega), o 5 (by omega), o _ (by omega)]
    exact h2 i i0 i1
  · rw [ho _ (by omega) (by omega) (by omega), o _ (by omega)]
    exact h3 x x0 x1
  · rw [cmR_0] at i1
    by_cases e : i = r 0
    · subst e
      refine ⟨⟨f1.1.trans n3.symm, f2.1.trans n2.symm, f2.2.1.trans n4.symm, f2.2.2.1.trans n5.symm, f2.2.2.2.trans n6.symm, f3.1.trans m2.symm, f3.2.1.trans m1.symm, f3.2.2.2.trans m3.symm, f4.1.trans m4.symm⟩, fun x x0 x1 => ?_, ?_, fun z => absurd n3 z⟩
      · rw [f4.2.2, m5 x x0 x1]
        obtain ⟨f, ef⟩ := f8 ⟨x0, x1⟩
        rw [ef]; exact wl_0 f
      · rw [kids_cm hw hr i0, kids_n hw, if_neg (by omega)]; exact f1.2.2
    · have pe := h4 i i0 (by omega)
      obtain ⟨⟨a1, a2, a3, a4, a5, a6, a7, a8, a9⟩, w1, w2, w3⟩ := pe
      have ey : ∀ y, ¬ y = 3 → H (pc S i) y = G (pc S i) y := fun y hy => ec i i0 (by omega) e y (fun z => hy z.2)
      refine ⟨⟨?_, ?_, ?_, ?_, ?_, ?_, ?_, ?_, ?_⟩, fun x x0 x1 => ?_, ?_, fun z => ?_⟩
      · rw [ey _ (by omega), o _ (by omega)]; exact a1
      · rw [ey _ (by omega), o _ (by omega)]; exact a2
      · rw [ey _ (by omega), o _ (by omega)]; exact a3
      · rw [ey _ (by omega), o _ (by omega)]; exact a4
      · rw [ey _ (by omega), o _ (by omega)]; exact a5
      · rw [ey _ (by omega), o _ (by omega)]; exact a6
      · rw [ey _ (by omega), o _ (by omega)]; exact a7
      · rw [ey _ (by omega), o _ (by omega)]; exact a8
      · rw [ey _ (by omega), o _ (by omega)]; exact a9
      · rw [ey _ (by omega), o _ (by omega)]; exact w1 x x0 x1
      · rw [kids_cm hw hr i0]
        by_cases c : i = j
        · subst c
          rw [if_pos rfl, hk, u1_s, w2]
        · rw [if_neg c, ec i i0 (by omega) e 3 (fun z => c z.1), w2]; omega
      · rw [o _ (by omega)] at z
        have w3 := w3 z
        rw [ey _ (by omega), o 1 (by omega), o _ (by omega)]
        exact w3
  · rw [cmR_0] at i1
    by_cases e : i = r 0
    · subst e
      rw [n1]; exact f1.2.1
    · rw [ec i (by omega) (by omega) e 2 (by omega), o _ (by omega)]
      exact h5 i i0 (by omega)
  · rw [cmR_0] at i0
    rw [ec i (by omega) i1 (by omega) 1 (by omega)]
    exact h6 i (by omega) i1
end PAR5B
