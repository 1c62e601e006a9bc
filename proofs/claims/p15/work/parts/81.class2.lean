/-! ===== the class's trees: chains and simple questions (own work) ===== -/
section CLS2
variable {g g' G H K : gH} {T S i j k a b c v w d p q s m x y : Int}
theorem pc_pos (hT : isT T) (hi : 0 ≤ i ∧ i < 40) : ¬ pc T i < 0 := by
  have := pc_b (T := T) hi
  have := isT_b hT
  omega
theorem TI_S (h : TI g T) : TS g T := h.1
theorem TS_0 (h : TS g T) : g T 0 = T + 1 := h.1.1
theorem TS_1 (h : TS g T) : g T 1 = T + 2 := h.1.2.1
theorem TS_2 (h : TS g T) : g T 2 = T + 3 := h.1.2.2.1
theorem TS_3 (h : TS g T) : g T 3 = T + 4 := h.1.2.2.2
theorem TS_p (h : TS g T) (hi : 0 ≤ i ∧ i < 40) : g (T + 2) i = pc T i := (h.2 i hi.1 hi.2).1
theorem TS_n (h : TS g T) (hi : 0 ≤ i ∧ i < 40) : g (pc T i) 0 = i := (h.2 i hi.1 hi.2).2
/-- a process that has come; one that may not have -/
def Pn (g : gH) (T c : Int) : Prop := ∃ i, (0 ≤ i ∧ i < g T 5) ∧ c = pc T i
def Pa (T c : Int) : Prop := ∃ i, (0 ≤ i ∧ i < 40) ∧ c = pc T i
theorem Pn_a (h : TI g T) (hp : Pn g T c) : Pa T c := by
  obtain ⟨i, hi, e⟩ := hp
  have := h.2.1
  exact ⟨i, ⟨hi.1, by omega⟩, e⟩
theorem Pa_kd (hT : isT T) (hp : Pa T c) : kd c = 3 := by
  obtain ⟨i, hi, rfl⟩ := hp
  exact kdp hT hi
theorem Pa_pos (hT : isT T) (hp : Pa T c) : ¬ c < 0 := by
  obtain ⟨i, hi, rfl⟩ := hp
  exact pc_pos hT hi
theorem Pa_b (hp : Pa T c) : T < c ∧ c < T + 44 ∧ ¬ c = T + 2 ∧ ¬ c = T + 3 ∧ ¬ c = T + 4 := by
  obtain ⟨i, hi, rfl⟩ := hp
  exact pc_b hi
theorem Pn_0 (h : TI g T) : Pn g T (T + 1) := ⟨0, ⟨by omega, by have := h.2.1; omega⟩, pc_0.symm⟩
/-- above a process stands nobody, or one that has come -/
theorem sup_ (h : TI g T) (hp : Pa T c) : g c 2 = -1 ∨ Pn g T (g c 2) := by
  obtain ⟨i, hi, rfl⟩ := hp
  by_cases h0 : i = 0
  · rw [h0]; exact Or.inl h.2.2.1
  · by_cases h1 : i < g T 5
    · have := sp_rg h (by omega) h1
      exact Or.inr ⟨sp g T i, this.1, this.2⟩
    · exact Or.inl (h.2.2.2.1 i (by omega) hi.2)
theorem pc_eq (hi : 0 ≤ i) (hj : 0 ≤ j) : (pc T i = pc T j) ↔ i = j := ⟨pc_inj hi hj, fun e => by rw [e]⟩
theorem lx_ca (h : TI g T) (hT : isT T) : ∀ (n : Nat) (j : Int) (m : Nat) (v : Int), en (sp g T) n j = true → 0 ≤ j ∧ j < g T 5 → n + 1 < m → 0 ≤ v → v + n ≤ 1000 → lP_countAbove_7 g m v (pc T j) = some (v + 1 + dp (sp g T) n j) := by
  have hc := h.2.1
  intro n
  induction n with
  | zero =>
    intro j m v he hj hm hv hv2
    obtain ⟨m, rfl⟩ : ∃ k, m = k + 1 + 1 := ⟨m - 2, by omega⟩
    have j0 : j = 0 := by simp [en] at he; exact he
    subst j0
    show bP_countAbove_7 g (lP_countAbove_7 g (m + 1)) v (pc T 0) = _
    rw [bP_countAbove_7, if_neg (pc_pos hT (by omega)), if_pos (kdp hT (by omega)), h.2.2.1, w32_r (by omega)]
    show bP_countAbove_7 g (lP_countAbove_7 g m) (v + 1) (-1) = _
    rw [bP_countAbove_7, if_pos (by omega)]
    show some (v + 1) = some (v + 1 + 0)
    rw [Int.add_zero]
  | succ n ih =>
    intro j m v he hj hm hv hv2
    obtain ⟨m, rfl⟩ : ∃ k, m = k + 1 + 1 := ⟨m - 2, by omega⟩
    show bP_countAbove_7 g (lP_countAbove_7 g (m + 1)) v (pc T j) = _
    rw [bP_countAbove_7, if_neg (pc_pos hT (by omega)), if_pos (kdp hT (by omega)), w32_r (by omega)]
    by_cases j0 : j = 0
    · subst j0
      rw [h.2.2.1]
      show bP_countAbove_7 g (lP_countAbove_7 g m) (v + 1) (-1) = _
      rw [bP_countAbove_7, if_pos (by omega)]
      show some (v + 1) = some (v + 1 + (if (0 : Int) = 0 then 0 else 1 + dp (sp g T) n (sp g T 0)))
      rw [if_pos rfl, Int.add_zero]
    · have hs := sp_rg h (by omega) hj.2
      rw [hs.2]
      rcases en_s.mp he with e | ⟨-, -, e⟩
      · exact absurd e j0
      · rw [ih _ (m + 1) (v + 1) e hs.1 (by omega) (by omega) (by omega)]
        show some (v + 1 + 1 + dp (sp g T) n (sp g T j)) = some (v + 1 + (if j = 0 then 0 else 1 + dp (sp g T) n (sp g T j)))
        rw [if_neg j0]
        congr 1
        omega
theorem vP_countAbove (h : TI g T) (hT : isT T) (hi : 0 ≤ i ∧ i < 40) : fP_countAbove g (pc T i) = some (if i < g T 5 then DP (sp g T) i else 0) := by
  have hc := h.2.1
  have nn : lP_countAbove_7 g fu 0 (-1) = some 0 := by
    show bP_countAbove_7 g (lP_countAbove_7 g 9999) 0 (-1) = _
    rw [bP_countAbove_7, if_pos (by omega)]
  rw [fP_countAbove]
  by_cases h0 : i = 0
  · subst h0
    rw [h.2.2.1, nn, if_pos (by omega), DP_0]
  · by_cases h1 : i < g T 5
    · have hs := sp_rg h (by omega) h1
      rw [hs.2, if_pos h1, lx_ca h hT 40 _ fu 0 (h.2.2.2.2.2.1 _ hs.1.1 hs.1.2) hs.1 (by have := fu_ge; omega) (by omega) (by omega), DP_s (h.2.2.2.2.2.1 i (by omega) h1) h0]
      rw [Int.zero_add]
    · rw [h.2.2.2.1 i (by omega) hi.2, nn, if_neg h1]
theorem tP_countAbove (h : TI g T) (hT : isT T) (hp : Pa T c) : WP (fun v => 0 ≤ v ∧ v ≤ 40) (fP_countAbove g c) := by
  obtain ⟨i, hi, rfl⟩ := hp
  rw [vP_countAbove h hT hi]
  refine WP_i ?_
  have := dp_bd (sp g T) 40 i
  unfold DP
  split <;> omega
theorem lx_io (h : TI g T) (hT : isT T) (hq : 0 ≤ q) : ∀ (n : Nat) (j : Int) (m : Nat), en (sp g T) n j = true → 0 ≤ j ∧ j < g T 5 → n + 1 < m → lP_isOver_5 g (pc T q) m (pc T j) = some (if j = q ∨ ov (sp g T) n q j = true then 1 else 0) := by
  have hc := h.2.1
  intro n
  induction n with
  | zero =>
    intro j m he hj hm
    obtain ⟨m, rfl⟩ : ∃ k, m = k + 1 + 1 := ⟨m - 2, by omega⟩
    have j0 : j = 0 := by simp [en] at he; exact he
    subst j0
    show bP_isOver_5 g (pc T q) (lP_isOver_5 g (pc T q) (m + 1)) (pc T 0) = _
    rw [bP_isOver_5, if_neg (pc_pos hT (by omega))]
    by_cases e : (0 : Int) = q
    · rw [if_pos (by rw [e]), if_pos (Or.inl e)]
    · rw [if_neg (fun z => e (pc_inj (by omega) hq z)), if_pos (kdp hT (by omega)), h.2.2.1]
      show bP_isOver_5 g (pc T q) (lP_isOver_5 g (pc T q) m) (-1) = _
      rw [bP_isOver_5, if_pos (by omega), if_neg]
      rintro (z | z)
      · exact e z
      · cases z
  | succ n ih =>
    intro j m he hj hm
    obtain ⟨m, rfl⟩ : ∃ k, m = k + 1 + 1 := ⟨m - 2, by omega⟩
    show bP_isOver_5 g (pc T q) (lP_isOver_5 g (pc T q) (m + 1)) (pc T j) = _
    rw [bP_isOver_5, if_neg (pc_pos hT (by omega))]
    by_cases e : j = q
    · rw [if_pos (by rw [e]), if_pos (Or.inl e)]
    · rw [if_neg (fun z => e (pc_inj (by omega) hq z)), if_pos (kdp hT (by omega))]
      by_cases j0 : j = 0
      · subst j0
        rw [h.2.2.1]
        show bP_isOver_5 g (pc T q) (lP_isOver_5 g (pc T q) m) (-1) = _
        rw [bP_isOver_5, if_pos (by omega), if_neg]
        rintro (z | z)
        · exact e z
        · revert z
          show (if (0 : Int) = 0 then false else if sp g T 0 = q then true else ov (sp g T) n q (sp g T 0)) = true → False
          rw [if_pos rfl]
          intro z
          cases z
      · have hs := sp_rg h (by omega) hj.2
        rw [hs.2]
        rcases en_s.mp he with z | ⟨-, -, z⟩
        · exact absurd z j0
        · rw [ih _ (m + 1) z hs.1 (by omega)]
          congr 1
          have ee : ov (sp g T) (n + 1) q j = (if sp g T j = q then true else ov (sp g T) n q (sp g T j)) := by
            show (if j = 0 then false else if sp g T j = q then true else ov (sp g T) n q (sp g T j)) = _
            rw [if_neg j0]
          by_cases e2 : sp g T j = q
          · rw [if_pos (Or.inl e2), if_pos (Or.inr (by rw [ee, if_pos e2]))]
          · rw [if_neg e2] at ee
            rw [ee]
            by_cases e3 : ov (sp g T) n q (sp g T j) = true
            · rw [if_pos (Or.inr e3), if_pos (Or.inr e3)]
            · rw [if_neg (by rintro (z | z); exact e2 z; exact e3 z), if_neg (by rintro (z | z); exact e z; exact e3 z)]
theorem vP_isOver (h : TI g T) (hT : isT T) (hq : 0 ≤ q) (hi : 0 ≤ i ∧ i < 40) : fP_isOver g (pc T q) (pc T i) = some (if i < g T 5 ∧ OV (sp g T) q i = true then 1 else 0) := by
  have hc := h.2.1
  have nn : lP_isOver_5 g (pc T q) fu (-1) = some 0 := by
    show bP_isOver_5 g (pc T q) (lP_isOver_5 g (pc T q) 9999) (-1) = _
    rw [bP_isOver_5, if_pos (by omega)]
  rw [fP_isOver, if_pos (kdp hT hi)]
  by_cases h0 : i = 0
  · subst h0
    rw [h.2.2.1, nn, if_neg (by rw [OV_0]; simp)]
  · by_cases h1 : i < g T 5
    · have hs := sp_rg h (by omega) h1
      rw [hs.2, lx_io h hT hq 40 _ fu (h.2.2.2.2.2.1 _ hs.1.1 hs.1.2) hs.1 (by have := fu_ge; omega), OV_s (h.2.2.2.2.2.1 i (by omega) h1) h0]
      congr 1
      by_cases e : sp g T i = q
      · rw [if_pos (Or.inl e), if_pos ⟨h1, by rw [if_pos e]⟩]
      · rw [if_neg e]
        by_cases e3 : OV (sp g T) q (sp g T i) = true
        · rw [if_pos (Or.inr e3), if_pos ⟨h1, e3⟩]
        · rw [if_neg (by rintro (z | z); exact e z; exact e3 z), if_neg (fun z => e3 z.2)]
    · rw [h.2.2.2.1 i (by omega) hi.2, nn, if_neg (fun z => h1 z.1)]
theorem tP_isOver (h : TI g T) (hT : isT T) (hq : Pa T a) (hp : Pa T c) : WP (fun v => True) (fP_isOver g a c) := by
  obtain ⟨i, hi, rfl⟩ := hp
  obtain ⟨q, hq, rfl⟩ := hq
  rw [vP_isOver h hT hq.1 hi]
  exact WP_i trivial
theorem vT_at (h : TI g T) (hT : isT T) : fT_at g T v = some (if 0 ≤ v ∧ v < g T 5 then pc T v else -1) := by
  have hc := h.2.1
  have hs := h.1
  rw [fT_at, TS_1 hs]
  by_cases h0 : v < 0
  · rw [if_pos h0, if_neg (by omega)]
  · rw [if_neg h0]
    by_cases h1 : v < g T 5
    · rw [if_pos h1, if_pos (by omega), if_pos ⟨kdT2 hT, by omega, by rw [szT2 hT]; omega⟩, TS_p hs (by omega), if_pos (by omega)]
    · rw [if_neg h1, if_neg (by omega)]
theorem tT_at (h : TI g T) (hT : isT T) : WP (fun c => c = -1 ∨ Pn g T c) (fT_at g T v) := by
  rw [vT_at h hT]
  refine WP_i ?_
  split
  · next hv => exact Or.inr ⟨v, hv, rfl⟩
  · exact Or.inl rfl
theorem tP_room : WP (fun _ => True) (fP_room g c) := by
  rw [fP_room]
  exact W_ite (fun _ => W_ite (fun _ => WP_i trivial) (fun _ => WP_i trivial)) (fun _ => WP_i trivial)
theorem tP_isMortal : WP (fun v => ¬ v = 0 → ¬ g c 2 < 0) (fP_isMortal g c) := by
  rw [fP_isMortal]
  exact W_ite (fun _ => W_ite (fun _ => WP_i (fun z => absurd rfl z)) (fun hc => WP_i (fun _ => hc))) (fun _ => WP_i (fun z => absurd rfl z))
theorem tP_isRunning : WP (fun v => True) (fP_isRunning g c) := by
  rw [fP_isRunning]
  exact W_ite (fun _ => WP_i trivial) (fun _ => WP_i trivial)
theorem tP_hasExited : WP (fun v => True) (fP_hasExited g c) := by
  rw [fP_hasExited]
  exact W_ite (fun _ => WP_i trivial) (fun _ => W_ite (fun _ => WP_i trivial) (fun _ => WP_i trivial))
theorem tP_canInherit : WP (fun v => True) (fP_canInherit g c) := by
  rw [fP_canInherit]
  exact W_ite (fun _ => W_ite (fun _ => WP_i trivial) (fun _ => WP_i trivial)) (fun _ => WP_i trivial)
theorem tP_refuses : WP (fun v => True) (fP_refuses g c v) := by
  rw [fP_refuses]
  exact W_ite (fun _ => WP_i trivial) (fun _ => WP_i trivial)
theorem tP_isRunningChildOf : WP (fun v => ¬ v = 0 → g c 2 = a) (fP_isRunningChildOf g c a) := by
  rw [fP_isRunningChildOf]
  exact W_ite (fun _ => W_ite (fun e => WP_i (fun _ => e)) (fun _ => WP_i (fun z => absurd rfl z))) (fun _ => WP_i (fun z => absurd rfl z))
theorem tP_isZombieOf : WP (fun v => ¬ v = 0 → g c 2 = a) (fP_isZombieOf g c a) := by
  rw [fP_isZombieOf]
  exact W_ite (fun _ => W_ite (fun e => WP_i (fun _ => e)) (fun _ => WP_i (fun z => absurd rfl z))) (fun _ => WP_i (fun z => absurd rfl z))
theorem tP_isZombieOf1 : WP (fun v => ¬ v = 0 → g c 1 = 1) (fP_isZombieOf g c a) := by
  rw [fP_isZombieOf]
  exact W_ite (fun e => W_ite (fun _ => WP_i (fun _ => e)) (fun _ => WP_i (fun z => absurd rfl z))) (fun _ => WP_i (fun z => absurd rfl z))
theorem tP_willFor : WP (fun v => True) (fP_willFor g c v) := ⟨_, rfl, trivial⟩
end CLS2
