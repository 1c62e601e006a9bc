/-! ===== the class's tree against the row: single steps (own work) ===== -/
section PAR22
variable {g g' G H K : gH} {r r' dm κ κ' : Int → Int} {a b c d e i j k l m n o p q s t u v w wo x y z S : Int}
/-- a process's cell against its places in the row, its count of children told apart -/
def PK (f r : Int → Int) (i x : Int) : Prop :=
  (f 1 = r (140 + i) ∧ f 4 = r (100 + i) ∧ f 5 = r (180 + i) ∧ f 6 = r (220 + i) ∧ f 7 = r (260 + i) ∧ f 8 = r (340 + i) ∧ f 9 = r (300 + i) ∧ f 11 = r (380 + i) ∧ f 12 = r (420 + i)) ∧
  (∀ d, 0 ≤ d → d < 8 → wl (f 14) d = r (460 + 8 * i + d)) ∧ f 3 = x ∧ (¬ r (140 + i) = 0 → (0 ≤ f 10 ∧ f 10 < r 1) ∧ r (19 + f 10) = i)
def CK (S : Int) (G : gH) (r κ : Int → Int) : Prop :=
  (G S 5 = r 0 ∧ G S 6 = r 1 ∧ G S 7 = r 2 ∧ G S 8 = r 3 ∧ G S 9 = r 4 ∧ G S 4 = r 59) ∧
  (∀ i, 0 ≤ i → i < 5 → G (S + 4) i = if i < r 5 then r (6 + i) else -1) ∧
  (∀ d, 0 ≤ d → d < 8 → G (S + 3) d = r (11 + d)) ∧
  (∀ i, 0 ≤ i → i < r 0 → PK (G (pc S i)) r i (κ i)) ∧
  (∀ i, 1 ≤ i → i < r 0 → G (pc S i) 2 = pc S (r (60 + i))) ∧
  (∀ i, r 0 ≤ i → i < 40 → G (pc S i) 1 = 3) ∧ RU r
theorem CK_of (h : CP S G r) : CK S G r (fun i => kids r i 0) := h
theorem CK_to (h : CK S G r κ) (hk : ∀ i, 0 ≤ i → i < r 0 → κ i = kids r i 0) : CP S G r := by
  obtain ⟨h1, h2, h3, h4, h5, h6, h7⟩ := h
  refine ⟨h1, h2, h3, fun i i0 i1 => ?_, h5, h6, h7⟩
  obtain ⟨a1, a2, a3, a4⟩ := h4 i i0 i1
  exact ⟨a1, a2, by rw [a3]; exact hk i i0 i1, a4⟩
/-- the tree's own numbers -/
theorem CK_s (h : CK S G r κ) (hr : 0 ≤ r 0 ∧ r 0 ≤ 40) (h1 : r 1 ≤ 40) (hab : (a = 6 ∧ b = 1 ∧ r 1 ≤ v ∧ v ≤ 40) ∨ (a = 7 ∧ b = 2) ∨ (a = 8 ∧ b = 3) ∨ (a = 9 ∧ b = 4)) : CK S (pU G S a v) (u1 r b v) κ := by
  obtain ⟨⟨p1, p2, p3, p4, p5, p6⟩, h2, h3, h4, h5, h6, h7⟩ := h
  have e : ∀ k, ¬ k = b → u1 r b v k = r k := fun k hk => u1_n hk
  have e0 : u1 r b v 0 = r 0 := e 0 (by omega)
  have ep : ∀ i, 0 ≤ i → i < 40 → pU G S a v (pc S i) = G (pc S i) := fun i i0 i1 => by
    have := pc_b (T := S) ⟨i0, i1⟩
    exact pU_n (by omega)
  have e1 : r 1 ≤ u1 r b v 1 := by
    by_cases z : b = 1
    · rw [z, u1_s]; omega
    · rw [e 1 (by omega)]; omega
  refine ⟨?_, fun i i0 i1 => ?_, fun i i0 i1 => ?_, fun i i0 i1 => ?_, fun i i0 i1 => ?_, fun i i0 i1 => ?_, RU_e h7 (fun k k0 k1 => e k (by omega))⟩
  · rw [pU_s]
    rcases hab with ⟨rfl, rfl, -⟩ | ⟨rfl, rfl⟩ | ⟨rfl, rfl⟩ | ⟨rfl, rfl⟩ <;> simp (disch := omega) only [u1_s, u1_n] <;> simp only [p1, p2, p3, p4, p5, p6, and_self]
  · rw [pU_n (by omega), e 5 (by omega), e _ (by omega)]; exact h2 i i0 i1
  · rw [pU_n (by omega), e _ (by omega)]; exact h3 i i0 i1
  · rw [e0] at i1
    rw [ep i i0 (by omega)]
    obtain ⟨⟨a1, a2, a3, a4, a5, a6, a7, a8, a9⟩, w1, w2, w3⟩ := h4 i i0 i1
    refine ⟨⟨by rw [e _ (by omega)]; exact a1, by rw [e _ (by omega)]; exact a2, by rw [e _ (by omega)]; exact a3, by rw [e _ (by omega)]; exact a4, by rw [e _ (by omega)]; exact a5, by rw [e _ (by omega)]; exact a6, by rw [e _ (by omega)]; exact a7, by rw [e _ (by omega)]; exact a8, by rw [e _ (by omega)]; exact a9⟩, fun d d0 d1 => by rw [e _ (by omega)]; exact w1 d d0 d1, w2, fun z => ?_⟩
    rw [e _ (by omega)] at z
    have w3 := w3 z
    rw [e (19 + _) (by omega)]
    exact ⟨⟨w3.1.1, by omega⟩, w3.2⟩
  · rw [e0] at i1
    rw [ep i (by omega) (by omega), e _ (by omega)]; exact h5 i i0 i1
  · rw [e0] at i0
    rw [ep i (by omega) i1]; exact h6 i i0 i1
/-- a process's count of children -/
theorem CK_3 (h : CK S G r κ) (hr : r 0 ≤ 40) (hp : 0 ≤ p ∧ p < r 0) : CK S (pU G (pc S p) 3 v) r (u1 κ p v) := by
  obtain ⟨h1, h2, h3, h4, h5, h6, h7⟩ := h
  have bp := pc_b (T := S) (i := p) (by omega)
  refine ⟨by rw [pU_n (show ¬ S = pc S p by omega)]; exact h1, fun i i0 i1 => by rw [pU_n (by omega)]; exact h2 i i0 i1, fun i i0 i1 => by rw [pU_n (by omega)]; exact h3 i i0 i1, fun i i0 i1 => ?_, fun i i0 i1 => by rw [pU_y (by omega)]; exact h5 i i0 i1, fun i i0 i1 => by rw [pU_y (by omega)]; exact h6 i i0 i1, h7⟩
  obtain ⟨a1, w1, w2, w3⟩ := h4 i i0 i1
  have ey : ∀ y, ¬ y = 3 → pU G (pc S p) 3 v (pc S i) y = G (pc S i) y := fun y hy => pU_y hy
  refine ⟨?_, fun d d0 d1 => by rw [ey 14 (by omega)]; exact w1 d d0 d1, ?_, fun z => by rw [ey 10 (by omega)]; exact w3 z⟩
  · rw [ey 1 (by omega), ey 4 (by omega), ey 5 (by omega), ey 6 (by omega), ey 7 (by omega), ey 8 (by omega), ey 9 (by omega), ey 11 (by omega), ey 12 (by omega)]
    exact a1
  · by_cases e : i = p
    · rw [e, pU_s, u1_s, u1_s]
    · rw [pU_n (pc_ne i0 hp.1 e), u1_n e]; exact w2
/-- who it hangs under -/
theorem CK_2 (h : CK S G r κ) (hr : r 0 ≤ 40) (h1 : r 1 ≤ 40) (hp : 0 < p ∧ p < r 0) : CK S (pU G (pc S p) 2 (pc S t)) (u1 r (60 + p) t) κ := by
  obtain ⟨⟨p1, p2, p3, p4, p5, p6⟩, h2, h3, h4, h5, h6, h7⟩ := h
  have bp := pc_b (T := S) (i := p) (by omega)
  have e : ∀ k, ¬ k = 60 + p → u1 r (60 + p) t k = r k := fun k hk => u1_n hk
  have ey : ∀ i y, ¬ y = 2 → pU G (pc S p) 2 (pc S t) (pc S i) y = G (pc S i) y := fun i y hy => pU_y hy
  have e0 : u1 r (60 + p) t 0 = r 0 := e 0 (by omega)
  refine ⟨?_, fun i i0 i1 => ?_, fun i i0 i1 => ?_, fun i i0 i1 => ?_, fun i i0 i1 => ?_, fun i i0 i1 => ?_, RU_e h7 (fun k k0 k1 => e k (by omega))⟩
  · rw [pU_n (show ¬ S = pc S p by omega), e0, e 1 (by omega), e 2 (by omega), e 3 (by omega), e 4 (by omega), e 59 (by omega)]
    exact ⟨p1, p2, p3, p4, p5, p6⟩
  · rw [pU_n (by omega), e 5 (by omega), e _ (by omega)]; exact h2 i i0 i1
  · rw [pU_n (by omega), e _ (by omega)]; exact h3 i i0 i1
  · rw [e0] at i1
    obtain ⟨⟨a1, a2, a3, a4, a5, a6, a7, a8, a9⟩, w1, w2, w3⟩ := h4 i i0 i1
    refine ⟨⟨by rw [ey _ _ (by omega), e _ (by omega)]; exact a1, by rw [ey _ _ (by omega), e _ (by omega)]; exact a2, by rw [ey _ _ (by omega), e _ (by omega)]; exact a3, by rw [ey _ _ (by omega), e _ (by omega)]; exact a4, by rw [ey _ _ (by omega), e _ (by omega)]; exact a5, by rw [ey _ _ (by omega), e _ (by omega)]; exact a6, by rw [ey _ _ (by omega), e _ (by omega)]; exact a7, by rw [ey _ _ (by omega), e _ (by omega)]; exact a8, by rw [ey _ _ (by omega), e _ (by omega)]; exact a9⟩, fun d d0 d1 => by rw [ey _ _ (by omega), e _ (by omega)]; exact w1 d d0 d1, by rw [ey _ _ (by omega)]; exact w2, fun z => ?_⟩
    rw [e _ (by omega)] at z
    have w3 := w3 z
    rw [ey _ _ (by omega), e 1 (by omega), e (19 + _) (by omega)]
    exact w3
  · rw [e0] at i1
    by_cases z : i = p
    · rw [z, pU_s, u1_s, u1_s]
    · rw [pU_n (pc_ne (by omega) (by omega) z), e _ (by omega)]; exact h5 i i0 i1
  · rw [e0] at i0
    rw [ey _ _ (by omega)]; exact h6 i i0 i1
/-- one of its fields -/
theorem CK_f (h : CK S G r κ) (hr : r 0 ≤ 40) (h1 : r 1 ≤ 40) (hp : 0 ≤ p ∧ p < r 0) (hab : (a = 4 ∧ b = 100) ∨ (a = 6 ∧ b = 220) ∨ (a = 7 ∧ b = 260) ∨ (a = 8 ∧ b = 340) ∨ (a = 9 ∧ b = 300) ∨ (a = 11 ∧ b = 380) ∨ (a = 12 ∧ b = 420)) : CK S (pU G (pc S p) a v) (u1 r (b + p) v) κ := by
  obtain ⟨⟨p1, p2, p3, p4, p5, p6⟩, h2, h3, h4, h5, h6, h7⟩ := h
  have hb : ((100 ≤ b ∧ b ≤ 420) ∧ (b + 40 ≤ 140 ∨ 180 ≤ b)) ∧ ¬ 14 = a ∧ ¬ 3 = a ∧ ¬ 10 = a ∧ ¬ 2 = a ∧ ¬ 1 = a := by
    rcases hab with ⟨rfl, rfl⟩ | ⟨rfl, rfl⟩ | ⟨rfl, rfl⟩ | ⟨rfl, rfl⟩ | ⟨rfl, rfl⟩ | ⟨rfl, rfl⟩ | ⟨rfl, rfl⟩ <;> decide
  obtain ⟨⟨b1, b2⟩, n14, n3, n10, n2, n1⟩ := hb
  have q1 : ((1 : Int) = a ∧ (140 : Int) = b) ∨ (¬ (1 : Int) = a ∧ ((140 : Int) + 40 ≤ b ∨ b + 40 ≤ (140 : Int))) := by
    rcases hab with ⟨rfl, rfl⟩ | ⟨rfl, rfl⟩ | ⟨rfl, rfl⟩ | ⟨rfl, rfl⟩ | ⟨rfl, rfl⟩ | ⟨rfl, rfl⟩ | ⟨rfl, rfl⟩ <;> decide
  have q2 : ((4 : Int) = a ∧ (100 : Int) = b) ∨ (¬ (4 : Int) = a ∧ ((100 : Int) + 40 ≤ b ∨ b + 40 ≤ (100 : Int))) := by
    rcases hab with ⟨rfl, rfl⟩ | ⟨rfl, rfl⟩ | ⟨rfl, rfl⟩ | ⟨rfl, rfl⟩ | ⟨rfl, rfl⟩ | ⟨rfl, rfl⟩ | ⟨rfl, rfl⟩ <;> decide
  have q3 : ((5 : Int) = a ∧ (180 : Int) = b) ∨ (¬ (5 : Int) = a ∧ ((180 : Int) + 40 ≤ b ∨ b + 40 ≤ (180 : Int))) := by
    rcases hab with ⟨rfl, rfl⟩ | ⟨rfl, rfl⟩ | ⟨rfl, rfl⟩ | ⟨rfl, rfl⟩ | ⟨rfl, rfl⟩ | ⟨rfl, rfl⟩ | ⟨rfl, rfl⟩ <;> decide
  have q4 : ((6 : Int) = a ∧ (220 : Int) = b) ∨ (¬ (6 : Int) = a ∧ ((220 : Int) + 40 ≤ b ∨ b + 40 ≤ (220 : Int))) := by
    rcases hab with ⟨rfl, rfl⟩ | ⟨rfl, rfl⟩ | ⟨rfl, rfl⟩ | ⟨rfl, rfl⟩ | ⟨rfl, rfl⟩ | ⟨rfl, rfl⟩ | ⟨rfl, rfl⟩ <;> decide
  have q5 : ((7 : Int) = a ∧ (260 : Int) = b) ∨ (¬ (7 : Int) = a ∧ ((260 : Int) + 40 ≤ b ∨ b + 40 ≤ (260 : Int))) := by
    rcases hab with ⟨rfl, rfl⟩ | ⟨rfl, rfl⟩ | ⟨rfl, rfl⟩ | ⟨rfl, rfl⟩ | ⟨rfl, rfl⟩ | ⟨rfl, rfl⟩ | ⟨rfl, rfl⟩ <;> decide
  have q6 : ((8 : Int) = a ∧ (340 : Int) = b) ∨ (¬ (8 : Int) = a ∧ ((340 : Int) + 40 ≤ b ∨ b + 40 ≤ (340 : Int))) := by
    rcases hab with ⟨rfl, rfl⟩ | ⟨rfl, rfl⟩ | ⟨rfl, rfl⟩ | ⟨rfl, rfl⟩ | ⟨rfl, rfl⟩ | ⟨rfl, rfl⟩ | ⟨rfl, rfl⟩ <;> decide
  have q7 : ((9 : Int) = a ∧ (300 : Int) = b) ∨ (¬ (9 : Int) = a ∧ ((300 : Int) + 40 ≤ b ∨ b + 40 ≤ (300 : Int))) := by
    rcases hab with ⟨rfl, rfl⟩ | ⟨rfl, rfl⟩ | ⟨rfl, rfl⟩ | ⟨rfl, rfl⟩ | ⟨rfl, rfl⟩ | ⟨rfl, rfl⟩ | ⟨rfl, rfl⟩ <;> decide
  have q8 : ((11 : Int) = a ∧ (380 : Int) = b) ∨ (¬ (11 : Int) = a ∧ ((380 : Int) + 40 ≤ b ∨ b + 40 ≤ (380 : Int))) := by
    rcases hab with ⟨rfl, rfl⟩ | ⟨rfl, rfl⟩ | ⟨rfl, rfl⟩ | ⟨rfl, rfl⟩ | ⟨rfl, rfl⟩ | ⟨rfl, rfl⟩ | ⟨rfl, rfl⟩ <;> decide
  have q9 : ((12 : Int) = a ∧ (420 : Int) = b) ∨ (¬ (12 : Int) = a ∧ ((420 : Int) + 40 ≤ b ∨ b + 40 ≤ (420 : Int))) := by
    rcases hab with ⟨rfl, rfl⟩ | ⟨rfl, rfl⟩ | ⟨rfl, rfl⟩ | ⟨rfl, rfl⟩ | ⟨rfl, rfl⟩ | ⟨rfl, rfl⟩ | ⟨rfl, rfl⟩ <;> decide
  clear hab
  have bp := pc_b (T := S) (i := p) (by omega)
  have e : ∀ k, ¬ k = b + p → u1 r (b + p) v k = r k := fun k hk => u1_n hk
  have e0 : u1 r (b + p) v 0 = r 0 := e 0 (by clear q1 q2 q3 q4 q5 q6 q7 q8 q9; omega)
  refine ⟨?_, fun i i0 i1 => ?_, fun i i0 i1 => ?_, fun i i0 i1 => ?_, fun i i0 i1 => ?_, fun i i0 i1 => ?_, ?_⟩
  · clear q1 q2 q3 q4 q5 q6 q7 q8 q9
    rw [pU_n (show ¬ S = pc S p by omega), e0, e 1 (by omega), e 2 (by omega), e 3 (by omega), e 4 (by omega), e 59 (by omega)]
    exact ⟨p1, p2, p3, p4, p5, p6⟩
  · clear q1 q2 q3 q4 q5 q6 q7 q8 q9
    rw [pU_n (by omega), e 5 (by omega), e _ (by omega)]
    exact h2 i i0 i1
  · clear q1 q2 q3 q4 q5 q6 q7 q8 q9
    rw [pU_n (by omega), e _ (by omega)]
    exact h3 i i0 i1
  · rw [e0] at i1
    obtain ⟨⟨a1, a2, a3, a4, a5, a6, a7, a8, a9⟩, w1, w2, w3⟩ := h4 i i0 i1
    have hi : 0 ≤ i ∧ i < 40 := ⟨i0, by clear q1 q2 q3 q4 q5 q6 q7 q8 q9; omega⟩
    have hp4 : 0 ≤ p ∧ p < 40 := ⟨hp.1, by clear q1 q2 q3 q4 q5 q6 q7 q8 q9; omega⟩
    refine ⟨⟨pf_w q1 a1 hi hp4, pf_w q2 a2 hi hp4, pf_w q3 a3 hi hp4, pf_w q4 a4 hi hp4, pf_w q5 a5 hi hp4, pf_w q6 a6 hi hp4, pf_w q7 a7 hi hp4, pf_w q8 a8 hi hp4, pf_w q9 a9 hi hp4⟩, fun d d0 d1 => ?_, ?_, fun z => ?_⟩
    · clear q1 q2 q3 q4 q5 q6 q7 q8 q9
      rw [pU_y n14, e _ (by omega)]; exact w1 d d0 d1
    · rw [pU_y n3]; exact w2
    · clear q1 q2 q3 q4 q5 q6 q7 q8 q9
      rw [e _ (by omega)] at z
      have w3 := w3 z
      rw [pU_y n10, e 1 (by omega), e _ (by omega)]
      exact w3
  · clear q1 q2 q3 q4 q5 q6 q7 q8 q9
    rw [e0] at i1
    rw [pU_y n2, e _ (by omega)]
    exact h5 i i0 i1
  · rw [e0] at i0
    rw [pU_y n1]
    exact h6 i i0 i1
  · clear q1 q2 q3 q4 q5 q6 q7 q8 q9
    exact RU_e h7 (fun k k0 k1 => e k (by omega))
/-- a testament is read: 2 behind 1 -/
theorem CK_1 (h : CK S G r κ) (hr : r 0 ≤ 40) (h1 : r 1 ≤ 40) (hp : 0 ≤ p ∧ p < r 0) (hst : ¬ r (140 + p) = 0) (hv : ¬ v = 0) : CK S (pU G (pc S p) 1 v) (u1 r (140 + p) v) κ := by
  obtain ⟨⟨p1, p2, p3, p4, p5, p6⟩, h2, h3, h4, h5, h6, h7⟩ := h
  have bp := pc_b (T := S) (i := p) (by omega)
  have e : ∀ k, ¬ k = 140 + p → u1 r (140 + p) v k = r k := fun k hk => u1_n hk
  have ey : ∀ i y, ¬ y = 1 → pU G (pc S p) 1 v (pc S i) y = G (pc S i) y := fun i y hy => pU_y hy
  have e0 : u1 r (140 + p) v 0 = r 0 := e 0 (by omega)
  refine ⟨?_, fun i i0 i1 => ?_, fun i i0 i1 => ?_, fun i i0 i1 => ?_, fun i i0 i1 => ?_, fun i i0 i1 => ?_, RU_e h7 (fun k k0 k1 => e k (by omega))⟩
  · rw [pU_n (show ¬ S = pc S p by omega), e0, e 1 (by omega), e 2 (by omega), e 3 (by omega), e 4 (by omega), e 59 (by omega)]
    exact ⟨p1, p2, p3, p4, p5, p6⟩
  · rw [pU_n (by omega), e 5 (by omega), e _ (by omega)]; exact h2 i i0 i1
  · rw [pU_n (by omega), e _ (by omega)]; exact h3 i i0 i1
  · rw [e0] at i1
    obtain ⟨⟨a1, a2, a3, a4, a5, a6, a7, a8, a9⟩, w1, w2, w3⟩ := h4 i i0 i1
    refine ⟨⟨pf_v a1 i0 hp.1 ?_ ?_, by rw [ey _ _ (by omega), e _ (by omega)]; exact a2, by rw [ey _ _ (by omega), e _ (by omega)]; exact a3, by rw [ey _ _ (by omega), e _ (by omega)]; exact a4, by rw [ey _ _ (by omega), e _ (by omega)]; exact a5, by rw [ey _ _ (by omega), e _ (by omega)]; exact a6, by rw [ey _ _ (by omega), e _ (by omega)]; exact a7, by rw [ey _ _ (by omega), e _ (by omega)]; exact a8, by rw [ey _ _ (by omega), e _ (by omega)]; exact a9⟩, fun d d0 d1 => by rw [ey _ _ (by omega), e _ (by omega)]; exact w1 d d0 d1, by rw [ey _ _ (by omega)]; exact w2, fun z => ?_⟩
    · omega
    · omega
    · have z2 : ¬ r (140 + i) = 0 := by
        by_cases q : i = p
        · rw [q]; exact hst
        · rw [e _ (by omega)] at z; exact z
      have w3 := w3 z2
      rw [ey _ _ (by omega), e 1 (by omega), e (19 + _) (by omega)]
      exact w3
  · rw [e0] at i1
    rw [ey _ _ (by omega), e _ (by omega)]; exact h5 i i0 i1
  · rw [e0] at i0
    have q : ¬ i = p := by omega
    rw [pU_n (pc_ne (by omega) hp.1 q)]; exact h6 i i0 i1
/-- a process has exited -/
theorem CK_x (h : CK S G r κ) (hr : r 0 ≤ 40) (h1 : 0 ≤ r 1 ∧ r 1 ≤ 39) (hp : 0 < p ∧ p < r 0) : CK S (pU (pU (pU (pU G (pc S p) 1 1) (pc S p) 9 c) (pc S p) 10 (r 1)) S 6 (r 1 + 1)) (ex1 r p c) κ := by
  obtain ⟨⟨p1, p2, p3, p4, p5, p6⟩, h2, h3, h4, h5, h6, h7⟩ := h
  have bp := pc_b (T := S) (i := p) (by omega)
  obtain ⟨v1, v2, v3, v4⟩ := ex1_v (r := r) (p := p) (code := c) (by omega) h1
  have e : ∀ k, ¬ k = 1 → ¬ k = 19 + r 1 → ¬ k = 300 + p → ¬ k = 140 + p → ex1 r p c k = r k := fun k k1 k2 k3 k4 => ex1_n ⟨k1, k2, k3, k4⟩
  have ep : ∀ i, 0 ≤ i → i < 40 → pU (pU (pU (pU G (pc S p) 1 1) (pc S p) 9 c) (pc S p) 10 (r 1)) S 6 (r 1 + 1) (pc S i) = pU (pU (pU G (pc S p) 1 1) (pc S p) 9 c) (pc S p) 10 (r 1) (pc S i) := fun i i0 i1 => by
    have := pc_b (T := S) (i := i) ⟨i0, i1⟩
    exact pU_n (by omega)
  have eo : ∀ i, 0 ≤ i → i < 40 → ¬ i = p → pU (pU (pU (pU G (pc S p) 1 1) (pc S p) 9 c) (pc S p) 10 (r 1)) S 6 (r 1 + 1) (pc S i) = G (pc S i) := fun i i0 i1 i2 => by
    rw [ep i i0 i1, pU_n (pc_ne i0 (by omega) i2), pU_n (pc_ne i0 (by omega) i2), pU_n (pc_ne i0 (by omega) i2)]
  have ex : ∀ x, ¬ x = S → ¬ x = pc S p → pU (pU (pU (pU G (pc S p) 1 1) (pc S p) 9 c) (pc S p) 10 (r 1)) S 6 (r 1 + 1) x = G x := fun x x1 x2 => by rw [pU_n x1, pU_n x2, pU_n x2, pU_n x2]
  have e0 : ex1 r p c 0 = r 0 := e 0 (by omega) (by omega) (by omega) (by omega)
  refine ⟨?_, fun i i0 i1 => ?_, fun i i0 i1 => ?_, fun i i0 i1 => ?_, fun i i0 i1 => ?_, fun i i0 i1 => ?_, RU_e h7 (fun k k0 k1 => e k (by omega) (by omega) (by omega) (by omega))⟩
  · rw [pU_s, pU_n (show ¬ S = pc S p by omega), pU_n (show ¬ S = pc S p by omega), pU_n (show ¬ S = pc S p by omega), u1_s, u1_n (by omega), u1_n (by omega), u1_n (by omega), u1_n (by omega), u1_n (by omega), e0, v1, e 2 (by omega) (by omega) (by omega) (by omega), e 3 (by omega) (by omega) (by omega) (by omega), e 4 (by omega) (by omega) (by omega) (by omega), e 59 (by omega) (by omega) (by omega) (by omega)]
    exact ⟨p1, rfl, p3, p4, p5, p6⟩
  · rw [ex _ (by omega) (by omega), e 5 (by omega) (by omega) (by omega) (by omega), e _ (by omega) (by omega) (by omega) (by omega)]; exact h2 i i0 i1
  · rw [ex _ (by omega) (by omega), e _ (by omega) (by omega) (by omega) (by omega)]; exact h3 i i0 i1
  · rw [e0] at i1
    obtain ⟨⟨a1, a2, a3, a4, a5, a6, a7, a8, a9⟩, w1, w2, w3⟩ := h4 i i0 i1
    by_cases q : i = p
    · subst q
      have ey : ∀ y, ¬ y = 1 → ¬ y = 9 → ¬ y = 10 → pU (pU (pU (pU G (pc S i) 1 1) (pc S i) 9 c) (pc S i) 10 (r 1)) S 6 (r 1 + 1) (pc S i) y = G (pc S i) y := fun y y1 y2 y3 => by rw [ep i i0 (by omega), pU_y y3, pU_y y2, pU_y y1]
      have f1 : pU (pU (pU (pU G (pc S i) 1 1) (pc S i) 9 c) (pc S i) 10 (r 1)) S 6 (r 1 + 1) (pc S i) 1 = 1 := by rw [ep i i0 (by omega), pU_y (by omega), pU_y (by omega), pU_s, u1_s]
      have f9 : pU (pU (pU (pU G (pc S i) 1 1) (pc S i) 9 c) (pc S i) 10 (r 1)) S 6 (r 1 + 1) (pc S i) 9 = c := by rw [ep i i0 (by omega), pU_y (by omega), pU_s, u1_s]
      have f10 : pU (pU (pU (pU G (pc S i) 1 1) (pc S i) 9 c) (pc S i) 10 (r 1)) S 6 (r 1 + 1) (pc S i) 10 = r 1 := by rw [ep i i0 (by omega), pU_s, u1_s]
      refine ⟨⟨by rw [f1, v4], by rw [ey _ (by omega) (by omega) (by omega), e _ (by omega) (by omega) (by omega) (by omega)]; exact a2, by rw [ey _ (by omega) (by omega) (by omega), e _ (by omega) (by omega) (by omega) (by omega)]; exact a3, by rw [ey _ (by omega) (by omega) (by omega), e _ (by omega) (by omega) (by omega) (by omega)]; exact a4, by rw [ey _ (by omega) (by omega) (by omega), e _ (by omega) (by omega) (by omega) (by omega)]; exact a5, by rw [ey _ (by omega) (by omega) (by omega), e _ (by omega) (by omega) (by omega) (by omega)]; exact a6, by rw [f9, v3], by rw [ey _ (by omega) (by omega) (by omega), e _ (by omega) (by omega) (by omega) (by omega)]; exact a8, by rw [ey _ (by omega) (by omega) (by omega), e _ (by omega) (by omega) (by omega) (by omega)]; exact a9⟩, fun d d0 d1 => by rw [ey _ (by omega) (by omega) (by omega), e _ (by omega) (by omega) (by omega) (by omega)]; exact w1 d d0 d1, by rw [ey _ (by omega) (by omega) (by omega)]; exact w2, fun _ => ?_⟩
      rw [f10, v1, v2]
      exact ⟨by omega, rfl⟩
    · rw [eo i i0 (by omega) q]
      refine ⟨⟨by rw [e _ (by omega) (by omega) (by omega) (by omega)]; exact a1, by rw [e _ (by omega) (by omega) (by omega) (by omega)]; exact a2, by rw [e _ (by omega) (by omega) (by omega) (by omega)]; exact a3, by rw [e _ (by omega) (by omega) (by omega) (by omega)]; exact a4, by rw [e _ (by omega) (by omega) (by omega) (by omega)]; exact a5, by rw [e _ (by omega) (by omega) (by omega) (by omega)]; exact a6, by rw [e _ (by omega) (by omega) (by omega) (by omega)]; exact a7, by rw [e _ (by omega) (by omega) (by omega) (by omega)]; exact a8, by rw [e _ (by omega) (by omega) (by omega) (by omega)]; exact a9⟩, fun d d0 d1 => by rw [e _ (by omega) (by omega) (by omega) (by omega)]; exact w1 d d0 d1, w2, fun z => ?_⟩
      rw [e _ (by omega) (by omega) (by omega) (by omega)] at z
      have w3 := w3 z
      rw [v1, e (19 + _) (by omega) (by omega) (by omega) (by omega)]
      exact ⟨by omega, w3.2⟩
  · rw [e0] at i1
    have e2 : ∀ y, y = 2 → pU (pU (pU (pU G (pc S p) 1 1) (pc S p) 9 c) (pc S p) 10 (r 1)) S 6 (r 1 + 1) (pc S i) y = G (pc S i) y := fun y hy => by rw [ep i (by omega) (by omega), pU_y (by omega), pU_y (by omega), pU_y (by omega)]
    rw [e2 2 rfl, e _ (by omega) (by omega) (by omega) (by omega)]; exact h5 i i0 i1
  · rw [e0] at i0
    rw [eo i (by omega) i1 (by omega)]; exact h6 i i0 i1
/-! how many children there are then -/
theorem cn_mid {P : Int → Bool} : ∀ (m : Nat) (k : Int), k ≤ o → o < k + m → cn P m k = cn (fun j => P j && !decide (j = o)) m k + if P o = true then 1 else 0 := by
  intro m
  induction m with
  | zero => intro k h1 h2; omega
  | succ m ih =>
    intro k h1 h2
    rw [cn_s, cn_s]
    by_cases e : k = o
    · subst e
      have e1 : (P k && !decide (k = k)) = false := by
        rw [decide_eq_true rfl]
        cases P k <;> rfl
      have e2 : cn P m (k + 1) = cn (fun j => P j && !decide (j = k)) m (k + 1) := cn_congr _ _ (fun j j0 j1 => by
        show P j = (P j && !decide (j = k))
        rw [decide_eq_false (show ¬ j = k by omega)]
        cases P j <;> rfl)
      show (if P k = true then 1 else 0) + cn P m (k + 1) = ((if (P k && !decide (k = k)) = true then 1 else 0) + cn (fun j => P j && !decide (j = k)) m (k + 1)) + if P k = true then 1 else 0
      rw [e1, e2, if_neg (show ¬ false = true from Bool.false_ne_true)]
      omega
    · have e1 : (P k && !decide (k = o)) = P k := by
        rw [decide_eq_false e]
        cases P k <;> rfl
      show (if P k = true then 1 else 0) + cn P m (k + 1) = ((if (P k && !decide (k = o)) = true then 1 else 0) + cn (fun j => P j && !decide (j = o)) m (k + 1)) + if P o = true then 1 else 0
      rw [e1, ih (k + 1) (by omega) (by omega)]
      omega
/-- one process differs -/
theorem kids_1 (hr : 0 ≤ r 0) (e0 : r' 0 = r 0) (ho : 0 < o ∧ o < r 0) (e : ∀ j, 0 ≤ j → j < r 0 → ¬ j = o → r' (140 + j) = r (140 + j) ∧ r' (60 + j) = r (60 + j)) : kids r' i 0 + (if r (140 + o) = 0 ∧ r (60 + o) = i then 1 else 0) = kids r i 0 + (if r' (140 + o) = 0 ∧ r' (60 + o) = i then 1 else 0) := by
  unfold kids
  rw [e0]
  have h1 := cn_mid (P := fun c => ic r c i 0) (o := o) (r 0).toNat 0 (by omega) (by omega)
  have h2 := cn_mid (P := fun c => ic r' c i 0) (o := o) (r 0).toNat 0 (by omega) (by omega)
  have h3 : cn (fun j => ic r' j i 0 && !decide (j = o)) (r 0).toNat 0 = cn (fun j => ic r j i 0 && !decide (j = o)) (r 0).toNat 0 := cn_congr _ _ (fun j j0 j1 => by
    show (ic r' j i 0 && !decide (j = o)) = (ic r j i 0 && !decide (j = o))
    by_cases c : j = o
    · rw [decide_eq_true c]
      cases ic r' j i 0 <;> cases ic r j i 0 <;> rfl
    · have := e j j0 (by omega) c
      unfold ic
      rw [this.1, this.2])
  have t1 : ∀ f : Int → Int, (if ic f o i 0 = true then (1 : Int) else 0) = if f (140 + o) = 0 ∧ f (60 + o) = i then 1 else 0 := fun f => by
    by_cases c : f (140 + o) = 0 ∧ f (60 + o) = i
    · rw [if_pos c, if_pos (ic_t.mpr ⟨c.1, c.2, by omega⟩)]
    · rw [if_neg c, if_neg (fun z => c ⟨(ic_t.mp z).1, (ic_t.mp z).2.1⟩)]
  have h1 : cn (fun c => ic r c i 0) (r 0).toNat 0 = cn (fun j => ic r j i 0 && !decide (j = o)) (r 0).toNat 0 + if ic r o i 0 = true then 1 else 0 := h1
  have h2 : cn (fun c => ic r' c i 0) (r 0).toNat 0 = cn (fun j => ic r' j i 0 && !decide (j = o)) (r 0).toNat 0 + if ic r' o i 0 = true then 1 else 0 := h2
  rw [t1] at h1 h2
  omega
theorem kids_bd : 0 ≤ kids r i s ∧ kids r i s ≤ (r 0).toNat := by
  unfold kids
  have := cn_bd (fun c => ic r c i s) (r 0).toNat 0
  omega
end PAR22
